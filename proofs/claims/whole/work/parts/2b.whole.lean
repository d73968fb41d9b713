/-! the law's walk out of the machine in the small; what is owed for the texts is a hypothesis here -/
/-- what is left to show: from the head of the law's loop the frames come to the wanted end -/
def yGoal : Prop := ∀ (L : Nat) (h : Nat → Nat → Int), L ≤ 2048 → h 99998 0 = (L : Int) → (∀ j, -2147483648 ≤ h 99999 j ∧ h 99999 j < 2147483648) → ∀ τ, ychk τ = true → zEv true [(270, 23, [some (.inr (.inr 99999)), some (.inr (.inr 1)), some (.inr (.inr 122)), some (.inr (.inr 186)), some (.inl 0), none, none], [])] (zsc h (zal τ 1))
theorem y_zst : zsts.all (fun l => l.all fun e => Nat.blt e.2 10 && Nat.beq (zth 0 yTxn e.2) e.1) = true ∧ ((List.range 15).all fun o => Nat.beq o 5 || (zth [] zsts o).isEmpty) = true ∧ zCn 5 = "Treegrab$Script" := by decide +kernel
theorem y_zst_ok {o n k : Nat} (h : zst o n = some k) : o = 5 ∧ k < 10 ∧ n = yTx k := by
  have h1 := zlk_mem h
  obtain ⟨h2, h3, -⟩ := y_zst
  have key : ∀ (ls : List (List (Nat × Nat))), (ls.all fun l => l.all fun e => Nat.blt e.2 10 && Nat.beq (zth 0 yTxn e.2) e.1) = true → ∀ o, ((zth [] ls o).all fun e => Nat.blt e.2 10 && Nat.beq (zth 0 yTxn e.2) e.1) = true := by
    intro ls hl o
    exact zth_all (P := fun (x : List (Nat × Nat)) => (List.all x fun e => Nat.blt e.2 10 && Nat.beq (zth 0 yTxn e.2) e.1) = true) rfl (List.all_eq_true.mp hl) o
  have h4 := List.all_eq_true.mp (key _ h2 o) _ h1
  simp only [Bool.and_eq_true, Nat.blt_eq] at h4
  refine ⟨?_, h4.1, (Nat.eq_of_beq_eq_true h4.2).symm⟩
  rcases Nat.lt_or_ge o 15 with q | q
  · have h5 := List.all_eq_true.mp h3 o (List.mem_range.mpr q)
    rw [Bool.or_eq_true] at h5
    rcases h5 with h5 | h5
    · exact Nat.eq_of_beq_eq_true h5
    · rw [List.isEmpty_iff.mp h5] at h1; cases h1
  · exfalso
    have h6 : zth [] zsts o = [] := by
      rw [zth_getD, List.getD_eq_getElem?_getD, List.getElem?_eq_none (show zsts.length ≤ o from Nat.le_trans (by decide) q)]
      rfl
    rw [h6] at h1; cases h1
set_option maxHeartbeats 4000000 in
theorem whole_open {p : Program} {e : Env} {s : State} {m : MethodId} {below : List Frame} {meth : Method} {c : Code} (l : Launch) (hflags : l.flags = flags0) {b L : Nat} {xs : Nat → Int32} (hL : L ≤ 2048) (C0 : lw_At p s m meth c b L xs) (htab : c.exceptionTable.toList = []) (hgoal : yGoal)
    (hTxt : ∀ (D : va_G) (c4 : zC4) (adK adV : Nat → Nat), zBase s #[Value.ref b] D c4 b L xs adK → vk_S 10 yLen yByt adK adV (zA s) s s.heap → (Jvm.Cond.and given_1 narrow_1).before #[Value.ref b] s = true → zTx s D c4 b L xs adK l) :
    W p l e room_1 s m #[Value.ref b] below meth c s.heap [] 0 0 (lw_Z below #[Value.ref b] s) (entryFrame m ([Value.ref b] : List Value).toArray 7) := by
  obtain ⟨hx, hb, hr, hml, hown, hts, hX, hbl, hlocks, hgv⟩ := id C0
  obtain ⟨adK, adV, hS, hev⟩ := y_texts hgv
  obtain ⟨D, hD⟩ := y_known hts
  obtain ⟨cI, hI1, hI2⟩ := y_arr (ty := .int) (fun C q => by cases q) (hts _ (zw_in (i := 62) (by decide +kernel)))
  obtain ⟨cL, hL1, hL2⟩ := y_arr (ty := .long) (fun C q => by cases q) (hts _ (zw_in (i := 128) (by decide +kernel)))
  obtain ⟨cZ, hZ1, hZ2⟩ := y_arr (ty := .boolean) (fun C q => by cases q) (hts _ (zw_in (i := 352) (by decide +kernel)))
  obtain ⟨cQ, hQ1, hQ2⟩ := y_arrq (C := "Treegrab$Tree") (hts _ (zw_in (i := 64) (by decide +kernel)))
  have hK : va_K D zcl (zc4t (cI, cL, cZ, cQ)) s := by
    refine ⟨hD, fun k q hq => ?_⟩
    match k, hq with
    | 0, hq => cases hq; exact ⟨hI1, hI2⟩
    | 1, hq => cases hq; exact ⟨hL1, hL2⟩
    | 2, hq => cases hq; exact ⟨hZ1, hZ2⟩
    | 3, hq => cases hq; exact ⟨hQ1, hQ2⟩
    | k + 4, hq => cases hq
  have hB : zBase s #[Value.ref b] D (cI, cL, cZ, cQ) b L xs adK := by
    refine ⟨hts, hK, hX, hbl, by omega, fun o n k hz => ?_⟩
    obtain ⟨rfl, hk, rfl⟩ := y_zst_ok hz
    have h5 := of_decide_eq_true (List.all_eq_true.mp y_in5 k (List.mem_range.mpr hk))
    refine ⟨hk, zth "" yTxs k, ?_⟩
    rw [y_zst.2.2]
    exact vk_R.of (hts _ (zw_in h5)) (hev k hk)
  have hTh := y_thb hts hgv
  have hl : l.stackTraces = false := by
    unfold Launch.stackTraces
    rw [hflags]
    decide +kernel
  have hTx := hTxt D (cI, cL, cZ, cQ) adK adV hB hS hgv
  let h : Nat → Nat → Int := fun k j => if k = 99999 then (xs j).toInt else (L : Int)
  obtain ⟨n, σF, hrun, hc, hs⟩ := y_law h (fun τ hτ => hgoal L h hL (by simp [h]) (fun j => ⟨by simp only [h, if_pos]; exact Int32.le_toInt _, by simp only [h, if_pos]; exact Int32.toInt_lt _⟩) τ hτ)
  have hR : zRel s D (cI, cL, cZ, cQ) b L xs adK (fun k => if k = 99999 then b else adK (k - 100000)) (fun _ => .inl (0, 0, .inl fun _ => 0)) (zsc h yz0) s.heap := by
    refine ⟨fun k q hq => ?_, ⟨fun i j p q hi => ?_, fun k q hq => ?_⟩, fun k h1 h2 => ?_, Nat.zero_le _, fun k j h1 h2 => ⟨if_neg (by omega), rfl, rfl⟩, fun j hj => ?_, ?_, if_pos rfl, fun i hi => ?_⟩
    · have : (zws (fun k => if k = 99999 then b else adK (k - 100000)) (fun _ => .inl (0, 0, .inl fun _ => 0)) (gN (zsc h yz0))) = [] := rfl
      rw [this] at hq; simp at hq
    · have : (zws (fun k => if k = 99999 then b else adK (k - 100000)) (fun _ => .inl (0, 0, .inl fun _ => 0)) (gN (zsc h yz0))) = [] := rfl
      rw [this] at hi; simp at hi
    · have : (zws (fun k => if k = 99999 then b else adK (k - 100000)) (fun _ => .inl (0, 0, .inl fun _ => 0)) (gN (zsc h yz0))) = [] := rfl
      rw [this] at hq; simp at hq
    · have : gN (zsc h yz0) = 0 := rfl
      omega
    · show (if 99990 ≤ 99999 then h 99999 j else 0) = _
      rw [if_pos (by omega)]
      exact if_pos rfl
    · show (if 99990 ≤ 99998 then h 99998 0 else 0) = _
      rw [if_pos (by omega)]
      exact if_neg (by omega)
    · show (if 100000 + i = 99999 then b else adK (100000 + i - 100000)) = _
      rw [if_neg (by omega), show 100000 + i - 100000 = i by omega]
  have hvs : zSr (fun k => if k = 99999 then b else adK (k - 100000)) (gN (zsc h yz0)) [.inr (.inr 99999)] [Value.ref b] := by
    refine ⟨Or.inr ⟨Or.inr (Or.inl rfl), ?_⟩, trivial⟩
    show Value.ref b = Value.ref (if 99999 = 99999 then b else adK (99999 - 100000))
    rw [if_pos rfl]
  have hcx : zCx p s s m meth c 270 := by
    refine ⟨hx, hb, hr, hml, hown, ?_, fun q => ?_, hlocks, State.WarmedH.refl s, Nat.le_refl _, fun q _ => rfl⟩
    · rw [htab]
      have : zhh 270 = [] := by decide +kernel
      rw [this]
      rfl
    · have : ¬ (zinf 270).2.2.2.2 = 2 := by decide +kernel
      exact absurd q this
  have k := z_walk (a0 := #[Value.ref b]) hl hB hTh hTx n 60 (zent 270 [.inr (.inr 99999)]) (zsc h yz0) _ σF hrun (show 270 < 275 by omega) p e room_1 s m #[Value.ref b] below meth c s.heap [] 0 0 601024 7293034 (fun k => if k = 99999 then b else adK (k - 100000)) 0 (fun k => if k = 99999 then b else adK (k - 100000)) (fun _ => .inl (0, 0, .inl fun _ => 0)) ((lg_sl [Value.ref b] ++ List.replicate (7 - (lg_sl [Value.ref b]).length) Slot.unset).toArray) [] hcx
    ⟨va_S.rf, hR, ⟨rfl, lv_args 0 [Value.ref b], lv_entry [Value.ref b] (n := 7) (Nat.le_of_ble_eq_true rfl), fun i a hi => by have := zlay_get hvs 0 i a hi; rw [Nat.zero_add] at this; exact this⟩, trivial⟩ (Nat.le_refl _) zAg.rf (show 60 + 20 ≤ 2048 by omega) (show 64 * 60 + 400 ≤ 84000 by omega) (show 0 + gC σF ≤ 601024 + 0 by omega) (show 0 + gS σF ≤ 7293034 + 0 by omega) (Nat.le_refl _) (Nat.le_refl _)
  rw [lg_entry_eq]
  intro T hT X
  obtain ⟨t, a1, o, b1, b2, b3⟩ := k T hT X
  rcases b3 with ⟨hq, Lc, hF, hfree⟩ | ⟨q, ho, hT2⟩
  · obtain ⟨v, a, ad1, E1, ho, ha, hov, -⟩ := hq
    cases ha
    subst ho
    refine ⟨t, a1, _, b1, b2, ?_, ⟨_, rfl⟩, hF.2.1, ?_⟩
    · cases v with
      | none => exact hov.elim
      | some v =>
        obtain ⟨x, rfl, hx1⟩ := hov
        have : x = 1 := Int32.toInt_inj.mp hx1
        rw [this]
    · obtain ⟨g1, g2, g3, g4, g5, g6⟩ := hF.2.2
      refine ⟨g1, g2, g3, g4, g5, fun a9 c9 h9 => ?_⟩
      obtain ⟨c', e1, e2, e3, e4⟩ := g6 a9 c9 h9
      refine ⟨c', e1, e2, e3, fun i _ => e4 i (fun hm => ?_)⟩
      have h10 := hfree _ hm
      have h11 : a9 < s.heap.size := (Array.getElem?_eq_some_iff.mp h9).1
      exact absurd h11 (Nat.not_lt.mpr h10)
  · obtain ⟨E9, ce, L9, hxc, -⟩ := hT2
    obtain ⟨k9, ad1, E1, hk9, -⟩ := hxc
    cases hk9
