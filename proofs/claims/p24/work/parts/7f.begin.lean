/-! the start again, to where the layout is known -/
noncomputable def hcl (h : Nat → Nat → Int) : Nat → Nat → Int := fun k j => if k = 3 then 0 else h k j
def zcl3 (τ : zW) : zW := (fun k j => bif Nat.beq k 3 && Nat.ble 600 j then 0 else τ.1 k j, τ.2)
set_option maxRecDepth 1000000 in
theorem yc_ok2 : (match yc1 with
  | some τ => ychk (zcl3 τ) && ((List.range 600).all (fun i => decide (gI τ 3 i = 0)) && decide (gI τ 123 0 = 0))
  | none => false) = true := by decide +kernel
theorem zcl3_0 {τ : zW} (h : ((List.range 600).all fun i => decide (gI τ 3 i = 0)) = true) : ∀ i, gI (zcl3 τ) 3 i = 0 := fun i => by
  by_cases c : i < 600
  · have h1 := List.all_eq_true.mp h i (List.mem_range.mpr c)
    have hb : Nat.ble 600 i = false := by
      cases q : Nat.ble 600 i with
      | false => rfl
      | true => have := Nat.le_of_ble_eq_true q; omega
    have e1 : gI (zcl3 τ) 3 i = gI τ 3 i := by
      show (bif true && Nat.ble 600 i then (0 : Int) else τ.1 3 i) = τ.1 3 i
      rw [hb]; rfl
    rw [e1]
    exact of_decide_eq_true h1
  · have hb : Nat.ble 600 i = true := Nat.ble_eq_true_of_le (by omega)
    show (bif true && Nat.ble 600 i then (0 : Int) else τ.1 3 i) = 0
    rw [hb]; rfl
theorem zsk_0 {h : Nat → Nat → Int} : zsc h yz0 = zsk (hcl h) yz0 := by
  unfold zsc zsk
  refine Prod.ext ?_ rfl
  funext k j
  show (if 99990 ≤ k then h k j else (0 : Int)) = @ite Int (zcut3 k j) (Classical.propDecidable _) (hcl h k j) 0
  unfold zcut3 hcl
  by_cases c1 : 99990 ≤ k
  · rw [if_pos c1, if_pos (Or.inl c1), if_neg (by omega)]
  · rw [if_neg c1]
    by_cases c2 : 99990 ≤ k ∨ (k = 3 ∧ 600 ≤ j)
    · rw [if_pos c2, if_pos (by omega)]
    · rw [if_neg c2]
theorem zsk_e {h : Nat → Nat → Int} {τ : zW} : zsk (hcl h) (zal (zal τ 40) 1) = zsc h (zal (zal (zcl3 τ) 40) 1) := by
  unfold zsc zsk
  refine Prod.ext ?_ rfl
  funext k j
  show @ite Int (zcut3 k j) (Classical.propDecidable _) (hcl h k j) (τ.1 k j) = if 99990 ≤ k then h k j else (bif Nat.beq k 3 && Nat.ble 600 j then (0 : Int) else τ.1 k j)
  unfold zcut3 hcl
  by_cases c1 : 99990 ≤ k
  · rw [if_pos c1, if_pos (Or.inl c1), if_neg (by omega)]
  · rw [if_neg c1]
    by_cases c2 : 99990 ≤ k ∨ (k = 3 ∧ 600 ≤ j)
    · rw [if_pos c2, if_pos (by omega)]
      have hb : (Nat.beq k 3 && Nat.ble 600 j) = true := by
        rw [Bool.and_eq_true]
        rcases c2 with x | ⟨x, y⟩
        · exact absurd x c1
        · exact ⟨by rw [x]; rfl, Nat.ble_eq_true_of_le y⟩
      rw [hb]; rfl
    · rw [if_neg c2]
      have hb : (Nat.beq k 3 && Nat.ble 600 j) = false := by
        cases q : (Nat.beq k 3 && Nat.ble 600 j) with
        | false => rfl
        | true =>
          rw [Bool.and_eq_true] at q
          exact absurd (Or.inr ⟨Nat.eq_of_beq_eq_true q.1, Nat.le_of_ble_eq_true q.2⟩) c2
      rw [hb]; rfl
theorem zsk_al {h : Nat → Nat → Int} {σ : zW} {n : Nat} : zal (zsk h σ) n = zsk h (zal σ n) := rfl
theorem y_begin2 (h : Nat → Nat → Int) : ∃ τ, (ychk τ = true ∧ (∀ i, gI τ 3 i = 0) ∧ gI τ 123 0 = 0) ∧ zEv false [zent 165 [.inr (.inr 99999)]] (zsc h yz0) = zEv false [(165, 17, [some (.inr (.inr 99999)), some (.inr (.inr 1)), some (.inr (.inr 122)), some (.inr (.inr 123)), none, none, none, none, none, none, none], [])] (zsc h (zal (zal τ 40) 1)) := by
  have h0 := yc_ok2
  rw [zsk_0]
  cases h1 : yc1 with
  | none => rw [h1] at h0; cases h0
  | some τ =>
    rw [h1] at h0
    simp only [Bool.and_eq_true] at h0
    obtain ⟨h2, h2z, h2m⟩ := h0
    have hm : gI (zcl3 τ) 123 0 = 0 := of_decide_eq_true h2m
    refine ⟨zcl3 τ, ⟨h2, zcl3_0 h2z, hm⟩, ?_⟩
    rw [← zsk_e]
    have hNτ : gN τ = 121 := by
      unfold ychk at h2
      simp only [Bool.and_eq_true] at h2
      exact Nat.eq_of_beq_eq_true h2.2.2.1
    have r1 : zbig false 4000 59 (zent 103 [.inr (.inr 1)]) (zal yz0 16) = some (.inl none, τ) := by
      unfold yc1 ydn at h1
      split at h1
      · rename_i σ q; cases h1; exact q
      · cases h1
    have s1 := ybig_sk (h := hcl h) _ _ _ _ _ (by decide) r1
    have e0 : zent 165 [.inr (.inr 99999)] = (165, 0, [some (.inr (.inr 99999)), none, none, none, none, none, none, none, none, none, none], []) := rfl
    rw [e0, zE_next (y_new yl_0.1 yl_0.2.1 yl_0.2.2.1 (show gN (zsk (hcl h) yz0) + 1 = 1 from rfl) yl_0.2.2.2.1), yl_0.2.2.2.2, zsk_al]
    rw [zS_call 1 (f' := (165, 7, [some (.inr (.inr 99999)), none, none, none, none, none, none, none, none, none, none], [.inr (.inr 1)])) (g := zent 103 [.inr (.inr 1)]) (σ' := zsk (hcl h) (zal yz0 16)) (by with_unfolding_all rfl) (by decide)]
    rw [zE_big s1, zRet_cons]
    rw [zS_next 1 (f' := (165, 10, [some (.inr (.inr 99999)), some (.inr (.inr 1)), none, none, none, none, none, none, none, none, none], [.inl 40])) (σ' := zsk (hcl h) τ) (by with_unfolding_all rfl)]
    rw [zE_next (y_newi (n := 40) (z := 40) rfl yl_10.1 (show gN (zsk (hcl h) τ) + 1 = 122 from by show gN τ + 1 = 122; rw [hNτ]) yl_10.2), zsk_al]
    rw [zS_next 1 (f' := (165, 14, [some (.inr (.inr 99999)), some (.inr (.inr 1)), some (.inr (.inr 122)), none, none, none, none, none, none, none, none], [.inl 1])) (σ' := zsk (hcl h) (zal τ 40)) (by with_unfolding_all rfl)]
    rw [zE_next (y_newi (n := 1) (z := 1) rfl yl_14.1 (show gN (zsk (hcl h) (zal τ 40)) + 1 = 123 from by show gN τ + 1 + 1 = 123; rw [hNτ]) yl_14.2), zsk_al]
    rw [zS_next 0 (f' := (165, 17, [some (.inr (.inr 99999)), some (.inr (.inr 1)), some (.inr (.inr 122)), some (.inr (.inr 123)), none, none, none, none, none, none, none], [])) (σ' := zsk (hcl h) (zal (zal τ 40) 1)) (by with_unfolding_all rfl)]
/-- the law's run, out of what is shown of the machine with the layout -/
theorem y_law2 (h : Nat → Nat → Int) (hEv : ∀ τ, ychk τ = true → (∀ i, gI τ 3 i = 0) → gI τ 123 0 = 0 → zEv true [(165, 17, [some (.inr (.inr 99999)), some (.inr (.inr 1)), some (.inr (.inr 122)), some (.inr (.inr 123)), none, none, none, none, none, none, none], [])] (zsc h (zal (zal τ 40) 1))) : ∃ n σF, zbig false n 60 (zent 165 [.inr (.inr 99999)]) (zsc h yz0) = some (.inl (some (.inl 1)), σF) ∧ gC σF ≤ 600130 ∧ gS σF ≤ 7301080 := by
  obtain ⟨τ, ⟨h1, h1z, h1m⟩, h2⟩ := y_begin2 h
  obtain ⟨n, q, r, k1, k2, k3⟩ := hEv τ h1 h1z h1m
  have hL0 : yLd τ := ychk_Ld h1
  have hL : yLd (zsc h (zal (zal τ 40) 1)) := hL0
  have k4 := (ybig_lay _ _ _ _ _ hL k1).1
  have hF : zEv false [zent 165 [.inr (.inr 99999)]] (zsc h yz0) := by
    rw [h2]
    exact ⟨n, q, r, k4, k2, k3⟩
  obtain ⟨n, q, r, k1, k2, k3⟩ := hF
  cases k2
  obtain ⟨o, σF⟩ := q
  obtain ⟨k3, k5, k6⟩ := k3
  simp only at k3
  subst k3
  exact ⟨n, σF, k1, k5, k6⟩
def yGoal2 : Prop := ∀ (L : Nat) (h : Nat → Nat → Int), L ≤ 260 → h 99998 0 = (L : Int) → (∀ j, -2147483648 ≤ h 99999 j ∧ h 99999 j < 2147483648) → ∀ τ, ychk τ = true → (∀ i, gI τ 3 i = 0) → gI τ 123 0 = 0 → zEv true [(165, 17, [some (.inr (.inr 99999)), some (.inr (.inr 1)), some (.inr (.inr 122)), some (.inr (.inr 123)), none, none, none, none, none, none, none], [])] (zsc h (zal (zal τ 40) 1))
set_option maxHeartbeats 4000000 in
theorem whole_open2 {p : Program} {e : Env} {s : State} {m : MethodId} {below : List Frame} {meth : Method} {c : Code} (l : Launch) (hflags : l.flags = flags0) {b L : Nat} {xs : Nat → Int32} (hL : L ≤ 260) (C0 : lw_At p s m meth c b L xs) (htab : c.exceptionTable.toList = []) (hgoal : yGoal2)
    (hTxt : ∀ (D : va_G) (c4 : zC4) (adK adV : Nat → Nat), zBase s #[Value.ref b] D c4 b L xs adK → vk_S 10 yLen yByt adK adV (zA s) s s.heap → (Jvm.Cond.and given_1 narrow_1).before #[Value.ref b] s = true → zTx s D c4 b L xs adK l) :
    W p l e room_1 s m #[Value.ref b] below meth c s.heap [] 0 0 (lw_Z below #[Value.ref b] s) (entryFrame m ([Value.ref b] : List Value).toArray 11) := by
  obtain ⟨hx, hb, hr, hml, hown, hts, hX, hbl, hlocks, hgv⟩ := id C0
  obtain ⟨adK, adV, hS, hev⟩ := y_texts hgv
  obtain ⟨D, hD⟩ := y_known hts
  obtain ⟨cI, hI1, hI2⟩ := y_arr (ty := .int) (fun C q => by cases q) (hts _ (zw_in (i := 61) (by decide +kernel)))
  obtain ⟨cL, hL1, hL2⟩ := y_arr (ty := .long) (fun C q => by cases q) (hts _ (zw_in (i := 127) (by decide +kernel)))
  obtain ⟨cZ, hZ1, hZ2⟩ := y_arr (ty := .boolean) (fun C q => by cases q) (hts _ (zw_in (i := 351) (by decide +kernel)))
  obtain ⟨cQ, hQ1, hQ2⟩ := y_arrq (C := "Treegrab$Tree") (hts _ (zw_in (i := 63) (by decide +kernel)))
  have hK : va_K D zcl (zc4t (cI, cL, cZ, cQ)) s := by
    refine ⟨hD, fun k q hq => ?_⟩
    match k, hq with
    | 0, hq => cases hq; exact ⟨hI1, hI2⟩
    | 1, hq => cases hq; exact ⟨hL1, hL2⟩
    | 2, hq => cases hq; exact ⟨hZ1, hZ2⟩
    | 3, hq => cases hq; exact ⟨hQ1, hQ2⟩
    | k + 4, hq => cases hq
  have hB : zBase s #[Value.ref b] D (cI, cL, cZ, cQ) b L xs adK := by
    refine ⟨hts, hK, hX, hbl, by omega, fun o n k hz => ?_⟩
    obtain ⟨rfl, hk, rfl⟩ := y_zst_ok hz
    have h5 := of_decide_eq_true (List.all_eq_true.mp y_in5 k (List.mem_range.mpr hk))
    refine ⟨hk, zth "" yTxs k, ?_⟩
    rw [y_zst.2.2]
    exact vk_R.of (hts _ (zw_in h5)) (hev k hk)
  have hTh := y_thb hts hgv
  have hl : l.stackTraces = false := by
    unfold Launch.stackTraces
    rw [hflags]
    decide +kernel
  have hTx := hTxt D (cI, cL, cZ, cQ) adK adV hB hS hgv
  let h : Nat → Nat → Int := fun k j => if k = 99999 then (xs j).toInt else (L : Int)
  obtain ⟨n, σF, hrun, hc, hs⟩ := y_law2 h (fun τ hτ hz hm => hgoal L h hL (by simp [h]) (fun j => ⟨by simp only [h, if_pos]; exact Int32.le_toInt _, by simp only [h, if_pos]; exact Int32.toInt_lt _⟩) τ hτ hz hm)
  have hR : zRel s D (cI, cL, cZ, cQ) b L xs adK (fun k => if k = 99999 then b else adK (k - 100000)) (fun _ => .inl (0, 0, .inl fun _ => 0)) (zsc h yz0) s.heap := by
    refine ⟨fun k q hq => ?_, ⟨fun i j p q hi => ?_, fun k q hq => ?_⟩, fun k h1 h2 => ?_, Nat.zero_le _, fun k j h1 h2 => ⟨if_neg (by omega), rfl, rfl⟩, fun j hj => ?_, ?_, if_pos rfl, fun i hi => ?_⟩
    · have : (zws (fun k => if k = 99999 then b else adK (k - 100000)) (fun _ => .inl (0, 0, .inl fun _ => 0)) (gN (zsc h yz0))) = [] := rfl
      rw [this] at hq; simp at hq
    · have : (zws (fun k => if k = 99999 then b else adK (k - 100000)) (fun _ => .inl (0, 0, .inl fun _ => 0)) (gN (zsc h yz0))) = [] := rfl
      rw [this] at hi; simp at hi
    · have : (zws (fun k => if k = 99999 then b else adK (k - 100000)) (fun _ => .inl (0, 0, .inl fun _ => 0)) (gN (zsc h yz0))) = [] := rfl
      rw [this] at hq; simp at hq
    · have : gN (zsc h yz0) = 0 := rfl
      omega
    · show (if 99990 ≤ 99999 then h 99999 j else 0) = _
      rw [if_pos (by omega)]
      exact if_pos rfl
    · show (if 99990 ≤ 99998 then h 99998 0 else 0) = _
      rw [if_pos (by omega)]
      exact if_neg (by omega)
    · show (if 100000 + i = 99999 then b else adK (100000 + i - 100000)) = _
      rw [if_neg (by omega), show 100000 + i - 100000 = i by omega]
  have hvs : zSr (fun k => if k = 99999 then b else adK (k - 100000)) (gN (zsc h yz0)) [.inr (.inr 99999)] [Value.ref b] := by
    refine ⟨Or.inr ⟨Or.inr (Or.inl rfl), ?_⟩, trivial⟩
    show Value.ref b = Value.ref (if 99999 = 99999 then b else adK (99999 - 100000))
    rw [if_pos rfl]
  have hcx : zCx p s s m meth c 165 := by
    refine ⟨hx, hb, hr, hml, hown, ?_, fun q => ?_, hlocks, State.WarmedH.refl s, Nat.le_refl _, fun q _ => rfl⟩
    · rw [htab]
      have : zhh 165 = [] := by decide +kernel
      rw [this]
      rfl
    · have : ¬ (zinf 165).2.2.2.2 = 2 := by decide +kernel
      exact absurd q this
  have k := z_walk (a0 := #[Value.ref b]) hl hB hTh hTx n 60 (zent 165 [.inr (.inr 99999)]) (zsc h yz0) _ σF hrun (show 165 < 170 by omega) p e room_1 s m #[Value.ref b] below meth c s.heap [] 0 0 600130 7301080 (fun k => if k = 99999 then b else adK (k - 100000)) 0 (fun k => if k = 99999 then b else adK (k - 100000)) (fun _ => .inl (0, 0, .inl fun _ => 0)) ((lg_sl [Value.ref b] ++ List.replicate (11 - (lg_sl [Value.ref b]).length) Slot.unset).toArray) [] hcx
    ⟨va_S.rf, hR, ⟨rfl, lv_args 0 [Value.ref b], lv_entry [Value.ref b] (n := 11) (Nat.le_of_ble_eq_true rfl), fun i a hi => by have := zlay_get hvs 0 i a hi; rw [Nat.zero_add] at this; exact this⟩, trivial⟩ (Nat.le_refl _) zAg.rf (show 60 + 20 ≤ 2048 by omega) (show 64 * 60 + 400 ≤ 84000 by omega) (show 0 + gC σF ≤ 600130 + 0 by omega) (show 0 + gS σF ≤ 7301080 + 0 by omega) (Nat.le_refl _) (Nat.le_refl _)
  rw [lg_entry_eq]
  intro T hT X
  obtain ⟨t, a1, o, b1, b2, b3⟩ := k T hT X
  rcases b3 with ⟨hq, Lc, hF, hfree⟩ | ⟨q, ho, hT2⟩
  · obtain ⟨v, a, ad1, E1, ho, ha, hov, -⟩ := hq
    cases ha
    subst ho
    refine ⟨t, a1, _, b1, b2, ?_, ⟨_, rfl⟩, hF.2.1, ?_⟩
    · cases v with
      | none => exact hov.elim
      | some v =>
        obtain ⟨x, rfl, hx1⟩ := hov
        have : x = 1 := Int32.toInt_inj.mp hx1
        rw [this]
    · obtain ⟨g1, g2, g3, g4, g5, g6⟩ := hF.2.2
      refine ⟨g1, g2, g3, g4, g5, fun a9 c9 h9 => ?_⟩
      obtain ⟨c', e1, e2, e3, e4⟩ := g6 a9 c9 h9
      refine ⟨c', e1, e2, e3, fun i _ => e4 i (fun hm => ?_)⟩
      have h10 := hfree _ hm
      have h11 : a9 < s.heap.size := (Array.getElem?_eq_some_iff.mp h9).1
      exact absurd h11 (Nat.not_lt.mpr h10)
  · obtain ⟨E9, ce, L9, hxc, -⟩ := hT2
    obtain ⟨k9, ad1, E1, hk9, -⟩ := hxc
    cases hk9
