/-! every step that neither calls nor ends -/
theorem zct_ok {o n ci : Nat} (h : zct o n = some ci) : ∃ r : vw_C, zcl[ci]? = some r ∧ Cond.classLink (zCn o) n r.1 ∈ lw_tbl ∧ Cond.instantiable r.1 r.2.2 ∈ lw_tbl ∧ Cond.initialized r.1 ∈ lw_tbl := by
  obtain ⟨w, hw⟩ := zallo_mem zc_all o _ (zlk_mem h)
  rw [Nat.zero_add] at hw
  simp only [zcchk] at hw
  cases hr : zcl[ci]? with
  | none => rw [hr] at hw; cases hw
  | some r =>
    rw [hr] at hw
    simp only [Bool.and_eq_true, decide_eq_true_eq] at hw
    obtain ⟨h1, h2, h3⟩ := hw
    exact ⟨r, rfl, zw_in h1, zw_in h2, zw_in h3⟩
theorem zit_ok {o n : Nat} {z : Int} (h : zit o n = some z) : Cond.constant (zCn o) n (Int32.ofInt z) ∈ lw_tbl ∧ (Int32.ofInt z).toInt = z := by
  obtain ⟨w, hw⟩ := zallo_mem zi_all o _ (zlk_mem h)
  rw [Nat.zero_add] at hw
  simp only [zichk, Bool.and_eq_true, decide_eq_true_eq] at hw
  have h2 := zin_b hw.2
  exact ⟨zw_in hw.1, by rw [z_ofInt]; exact zw_id (by omega) (by omega)⟩
theorem zlt_ok {o n : Nat} {x : Int64} (h : zlt o n = some x) : Cond.constantLong (zCn o) n x ∈ lw_tbl := by
  obtain ⟨w, hw⟩ := zallo_mem zg_all o _ (zlk_mem h)
  rw [Nat.zero_add] at hw
  simp only [zlgchk, decide_eq_true_eq] at hw
  exact zw_in hw
theorem zmt_ok {o n y : Nat} (h : zmt o n = some y) : (∃ bn : Bool, zmw bn o n y ∈ lw_tbl) ∧ ((y < 170 ∧ y ≠ 165) ∨ (9001 ≤ y ∧ y ≤ 9005 ∧ zmw false o n y ∈ lw_tbl)) := by
  obtain ⟨w, hw⟩ := zallo_mem zm_all o _ (zlk_mem h)
  rw [Nat.zero_add] at hw
  simp only [zmchk, Bool.and_eq_true, Bool.or_eq_true, decide_eq_true_eq, Nat.blt_eq, Bool.not_eq_true'] at hw
  obtain ⟨h1, h2⟩ := hw
  refine ⟨⟨w.1, zw_in h1⟩, ?_⟩
  rcases h2 with ⟨h2, h3⟩ | ⟨h2, h3, h4⟩
  · exact Or.inl ⟨h2, fun q => by subst q; simp at h3⟩
  · refine Or.inr ⟨Nat.le_of_ble_eq_true h3, Nat.le_of_ble_eq_true h4, ?_⟩
    have := zw_in h1
    rw [h2] at this
    exact this
theorem zil_eq {a len : Nat} (h : (Nat.beq a 0 || Nat.beq a len) = true) (h0 : Nat.beq a 0 = false) : len = a := by
  rw [h0, Bool.false_or] at h
  exact (Nat.eq_of_beq_eq_true h).symm
theorem ztb_at {x lo d : Int} {pc : Nat} : ∀ (l : List Int) (k : Int), (k ≤ x ∧ x < k + (l.length : Int) → ∃ o, l[(x - k).toNat]? = some o ∧ ztb x pc d k l = ztg pc o) ∧ (¬ (k ≤ x ∧ x < k + (l.length : Int)) → ztb x pc d k l = ztg pc d)
  | [], k => ⟨fun h => by simp at h; omega, fun _ => rfl⟩
  | a :: l, k => by
    have ih := ztb_at (x := x) (lo := lo) (d := d) (pc := pc) l (k + 1)
    rw [ztb]
    by_cases hk : x = k
    · subst hk
      rw [if_pos rfl]
      refine ⟨fun _ => ⟨a, by simp, rfl⟩, fun h => absurd ⟨Int.le_refl _, by simp; omega⟩ h⟩
    · rw [if_neg hk]
      refine ⟨fun h => ?_, fun h => ih.2 (fun q => h ⟨by omega, by simp only [List.length_cons]; omega⟩)⟩
      simp only [List.length_cons] at h
      obtain ⟨o, h1, h2⟩ := ih.1 ⟨by omega, by omega⟩
      refine ⟨o, ?_, h2⟩
      rw [show (x - k).toNat = (x - (k + 1)).toNat + 1 by omega]
      simpa using h1
theorem zpos_t {pc : Nat} {o : Int} (h : zpos pc o = true) : (pc : Int) + o = (ztg pc o : Int) := by
  unfold zpos at h
  unfold ztg
  split at h
  · rename_i t ht; rw [ht]; rfl
  · cases h
theorem zlp_at {x d : Int} {pc : Nat} : ∀ (l : List (Int × Int)), zlp x pc d l = ztg pc (Op.lookupswitch.offset l d x)
  | [] => rfl
  | q :: l => by
    have ih := zlp_at (x := x) (d := d) (pc := pc) l
    rw [zlp]
    by_cases hk : x = q.1
    · rw [if_pos hk]; subst hk; simp [Op.lookupswitch.offset]
    · rw [if_neg hk, ih]
      have : ¬ q.1 = x := fun h => hk h.symm
      simp [Op.lookupswitch.offset, this]
theorem zl_and {x y : Int32} : (x &&& y).toInt = zand x.toInt y.toInt := by unfold zand; rw [z_of, z_of]
theorem zl_or {x y : Int32} : (x ||| y).toInt = zor x.toInt y.toInt := by unfold zor; rw [z_of, z_of]
theorem zl_xor {x y : Int32} : (x ^^^ y).toInt = zxor x.toInt y.toInt := by unfold zxor; rw [z_of, z_of]
theorem zl_shl {x y : Int32} : (x <<< (y &&& 31)).toInt = zshl x.toInt y.toInt := by unfold zshl; rw [z_of, z_of]
theorem zl_shr {x y : Int32} : (x >>> (y &&& 31)).toInt = zshr x.toInt y.toInt := by unfold zshr; rw [z_of, z_of]
theorem zl_ushr {x y : Int32} : ((x.toUInt32 >>> (y.toUInt32 &&& Int32.toUInt32 31)).toInt32).toInt = zushr x.toInt y.toInt := by unfold zushr; rw [z_of, z_of]
theorem z0_eq {x : Int32} {z : Int} (e : x.toInt = z) : x = 0 ↔ z = 0 := by rw [← e]; exact ⟨fun h => by rw [h]; rfl, fun h => Int32.toInt_inj.mp (by rw [h]; rfl)⟩
theorem z2_eq {x y : Int32} {a b : Int} (e : x.toInt = a) (f : y.toInt = b) : x = y ↔ a = b := by rw [← e, ← f]; exact ⟨fun h => by rw [h], fun h => Int32.toInt_inj.mp h⟩
theorem z2_lt {x y : Int32} {a b : Int} (e : x.toInt = a) (f : y.toInt = b) : x < y ↔ a < b := by rw [← e, ← f]; exact Int32.lt_iff_toInt_lt
theorem z2_le {x y : Int32} {a b : Int} (e : x.toInt = a) (f : y.toInt = b) : x ≤ y ↔ a ≤ b := by rw [← e, ← f]; exact Int32.le_iff_toInt_le
theorem z_0 : (0 : Int32).toInt = 0 := rfl
section ZNEXT
variable {s0 : State} {a0 : Array Value} {D : va_G} {c4 : zC4} {b L : Nat} {xs : Nat → Int32} {adK : Nat → Nat}
variable {p : Program} {l : Launch} {e : Env} {R : Room} {s : State} {m : MethodId} {args : Array Value} {below : List Frame} {meth : Method} {c : Code} {Q : State → Prop} {y : Nat}
variable {nL pc : Nat} {σ σ' : zW} {ad : Nat → Nat} {E : Nat → va_E} {H : Heap} {locs : List Loc} {cells slots : Nat} {als : List (Option zV)} {ast : List zV} {ls : Array Slot} {st : List Value} {f' : zF}
theorem zA_up (hC : zCx p s0 s m meth c y) : ∀ q, s.heap.size ≤ q → zA s0 q := by
  obtain ⟨-, -, -, -, -, -, -, -, -, hsz, -⟩ := hC
  intro q hq
  show s0.heap.size ≤ q
  omega
theorem zr_new {n ci : Nat} (hB : zBase s0 a0 D c4 b L xs adK) (hC : zCx p s0 s m meth c y) (hdg : decode (zB y) pc = .ok (.new n, 3)) (hSt : zSt s0 D c4 b L xs adK s nL ad E σ H locs als ast ls st) (hq : zct (zinf y).1 n = some ci)
    (h : zmk false (ci + 1) (zln (gN σ + 1)) y (pc + 3) als ast σ = some (.inl (f', σ'))) (hrc : cells + gC σ' ≤ R.cells + gC σ) (hrs : slots + gS σ' ≤ R.slots + gS σ) (kk : zKn s0 D c4 b L xs adK p l e R s m args below meth c Q nL σ ad cells slots f' σ') : W p l e R s m args below meth c H locs cells slots Q (F0 m pc ls st) := by
  obtain ⟨hx, hb, -, -, hown, -, -, -, hW, -⟩ := id hC
  obtain ⟨hS, hR, hL, hst⟩ := id hSt
  obtain ⟨hP, hD, hCo, h186, hz, -⟩ := id hR
  simp only [zmk, cond_false] at h
  by_cases hk : zkd (gN σ + 1) = ci + 1 ∧ True
  · rw [if_pos hk] at h
    simp only [znx] at h
    cases h
    obtain ⟨r, hr, hw1, hw2, hw3⟩ := zct_ok hq
    obtain ⟨hrl, hci, hk1⟩ := zfl_at hr hk.1
    obtain ⟨ft, hft, hnm, hfk⟩ := zty_ok ci r hr
    have hts : ∀ w ∈ u_ws r.1 r.2.1 r.2.2, w.before args s = true := fun w hw => hB.w hW (zl_ok hr w hw).1 (zl_ok hr w hw).2
    have e1 : gC (zal σ (zln (gN σ + 1))) = gC σ + 1 := rfl
    have e2 : gS (zal σ (zln (gN σ + 1))) = gS σ + zln (gN σ + 1) := rfl
    rw [e1] at hrc
    rw [e2] at hrs
    refine va_new (ci := ci) (fs := (List.range r.2.2).map (fun j => defaultValue (ft j))) (C := r.1) (T := r.2.1) (N := r.2.2) hx hb hts (fun w h => h) ft hft hown (hB.w hW hw1 rfl) (hB.w hW hw2 rfl) (hB.w hW hw3 rfl) (hB.2.1.moved hW.alike) hP hD hS (zA_up hC) hr (fun j hj => ?_) (by omega) (by omega) hdg (fun q H1 hP1 hD1 hS1 => ?_)
    · unfold vp_V
      simp [List.getD_eq_getElem?_getD, hj]
    · have hco : zCo c4 (fun i => if i = gN σ + 1 then q else ad i) (zal σ (zln (gN σ + 1))) (gN σ + 1) (.inr (ci, (List.range r.2.2).map (fun j => defaultValue (ft j)))) := by
        refine ⟨fun h => absurd h (by omega), fun h => absurd h (by omega), fun h => absurd h (by omega), fun h => absurd h (by omega), fun c2 h2 h3 => ?_⟩
        have : c2 = ci := by omega
        subst this
        refine ⟨_, rfl, by simp [hrl], fun j hj => ⟨defaultValue (ft j), by rw [List.getElem?_map, List.getElem?_range (by omega)]; rfl, ?_⟩⟩
        obtain ⟨z1, z2, z3⟩ := hz (gN σ + 1) j (by omega) (by omega)
        have hfj := hfk j (by omega)
        have z1 : gI (zal σ (zln (gN σ + 1))) (gN σ + 1) j = 0 := z1
        have z2 : gL (zal σ (zln (gN σ + 1))) (gN σ + 1) j = 0 := z2
        have z3 : gR (zal σ (zln (gN σ + 1))) (gN σ + 1) j = 0 := z3
        match zfk c2 j, ft j, hfj with
        | 0, .int, _ => exact zVr_int 0 (by rw [z1]; rfl)
        | 1, .boolean, _ => exact zVr_int 0 (by rw [z1]; rfl)
        | 2, .long, _ =>
          show Value.long 0 = Value.long _
          rw [z2]
        | 3, .object C, _ => exact Or.inl ⟨z3, rfl⟩
        | 3, .array t, _ => exact Or.inl ⟨z3, rfl⟩
      obtain ⟨hA, hR1⟩ := zRel_new hR hk1.2 hP1 hD1 hco
      have hn : gN σ ≤ gN (zal σ (zln (gN σ + 1))) := Nat.le_succ _
      refine W.widen (k := cells + 1) (n := slots + zln (gN σ + 1)) (Nat.le_refl _) (by omega) (kk H1 locs _ _ ls _ (cells + 1) (slots + zln (gN σ + 1)) hA ⟨hS1, hR1, hL.up hA hn, ⟨?_, hst.up hA hn⟩⟩ (by rw [e1]; omega) (by rw [e2]; omega))
      exact Or.inr ⟨Or.inl ⟨by omega, Nat.le_refl _⟩, by simp⟩
  · rw [if_neg hk] at h; cases h
theorem zr_newa {t : Nat} {at9 : ArrayType} (hi : (t = 20 ∧ at9 = .int) ∨ (t = 21 ∧ at9 = .long) ∨ (t = 22 ∧ at9 = .boolean)) (hB : zBase s0 a0 D c4 b L xs adK) (hC : zCx p s0 s m meth c y) (hdg : decode (zB y) pc = .ok (.newarray at9, 2)) (hSt : zSt s0 D c4 b L xs adK s nL ad E σ H locs als ast ls st)
    (h : zmka false t y (pc + 2) als ast σ = some (.inl (f', σ'))) (hrc : cells + gC σ' ≤ R.cells + gC σ) (hrs : slots + gS σ' ≤ R.slots + gS σ) (kk : zKn s0 D c4 b L xs adK p l e R s m args below meth c Q nL σ ad cells slots f' σ') : W p l e R s m args below meth c H locs cells slots Q (F0 m pc ls st) := by
  obtain ⟨hx, hb, -, -, hown, -, -, -, hW, -⟩ := id hC
  obtain ⟨hS, hR, hL, hst⟩ := id hSt
  obtain ⟨hP, hD, hCo, h186, hz, -⟩ := id hR
  have hK := hB.2.1.moved hW.alike
  rcases ast with _ | ⟨((n | n) | x | k), ast1⟩
  · simp [zmka] at h
  · simp only [zmka, zmk, cond_false] at h
    by_cases hk : zkd (gN σ + 1) = t ∧ zln (gN σ + 1) = n
    · rw [if_pos hk] at h
      simp only [znx] at h
      cases h
      have hk1 := zkd_in (k := gN σ + 1) (by omega) (by omega) (by omega)
      have hsm := zln_small (gN σ + 1) (by omega)
      have e1 : gC (zal σ n) = gC σ + 1 := rfl
      have e2 : gS (zal σ n) = gS σ + n := rfl
      rw [e1] at hrc
      rw [e2] at hrs
      obtain ⟨iv, m1, rfl, ei, h1⟩ := zSr_i hst
      have hiv : ¬ iv < 0 := by
        rw [Int32.lt_iff_toInt_lt, ei]
        show ¬ (n : Int) < 0
        omega
      have hcl : iv.toNatClampNeg = n := by
        show iv.toInt.toNat = n
        rw [ei]; rfl
      have hn : gN σ ≤ gN (zal σ n) := Nat.le_succ _
      have go : ∀ (q : Nat) (x : va_E) (H1 : Heap), zCo c4 (fun i => if i = gN σ + 1 then q else ad i) (zal σ n) (gN σ + 1) x → va_P D zcl (zws ad E (gN σ) ++ [(q, x)]) H1 → va_D (zA s0) (zws ad E (gN σ) ++ [(q, x)]) → va_S (zA s0) s.heap H1 locs → W p l e R s m args below meth c H1 locs (cells + 1) (slots + n) Q (F0 m (pc + 2) ls (.ref q :: m1)) := by
        intro q x H1 hco hP1 hD1 hS1
        obtain ⟨hA, hR1⟩ := zRel_new hR hk1.2 hP1 hD1 hco
        refine kk H1 locs _ _ ls _ (cells + 1) (slots + n) hA ⟨hS1, hR1, hL.up hA hn, ⟨?_, h1.up hA hn⟩⟩ (by rw [e1]; omega) (by rw [e2]; omega)
        exact Or.inr ⟨Or.inl ⟨by omega, Nat.le_refl _⟩, by simp⟩
      have hz1 : ∀ j, gI (zal σ n) (gN σ + 1) j = 0 := fun j => (hz (gN σ + 1) j (by omega) (by omega)).1
      have hz2 : ∀ j, gL (zal σ n) (gN σ + 1) j = 0 := fun j => (hz (gN σ + 1) j (by omega) (by omega)).2.1
      rcases hi with ⟨rfl, rfl⟩ | ⟨rfl, rfl⟩ | ⟨rfl, rfl⟩
      · refine va_newa (atype := .int) (ty := .int) (a0 := (n, .inl (fun _ => 0))) (N' := n) hx hb (hB.w hW (show Cond.arrayClass .int ∈ lw_tbl from zw_in (i := 61) (by decide +kernel)) rfl) rfl hK hP hD hS (zA_up hC) (fun cA => rfl) hiv hcl (by show n * 4 ≤ 536870912; omega) (by omega) (by omega) hdg (fun q cA H1 hK1 hP1 hD1 hS1 => ?_)
        have hcA : cA = c4.1 := by
          have h7 := (hK1.2 4 (cA, .int) rfl).2
          have h8 := (hK1.2 0 (c4.1, .int) rfl).2
          exact Option.some.inj (h7.symm.trans h8)
        subst hcA
        refine go q _ H1 ⟨fun _ => ⟨fun _ => 0, by rw [hk.2], fun j => by rw [hz1]; rfl⟩, fun h => absurd h (by omega), fun h => absurd h (by omega), fun h => absurd h (by omega), fun c2 h2 h3 => absurd h3 (by omega)⟩ hP1 hD1 hS1
      · refine va_newa (atype := .long) (ty := .long) (a0 := (n, .inr (.inl (fun _ => 0)))) (N' := n) hx hb (hB.w hW (show Cond.arrayClass .long ∈ lw_tbl from zw_in (i := 127) (by decide +kernel)) rfl) rfl hK hP hD hS (zA_up hC) (fun cA => rfl) hiv hcl (by show n * 8 ≤ 536870912; omega) (by omega) (by omega) hdg (fun q cA H1 hK1 hP1 hD1 hS1 => ?_)
        have hcA : cA = c4.2.1 := by
          have h7 := (hK1.2 4 (cA, .long) rfl).2
          have h8 := (hK1.2 1 (c4.2.1, .long) rfl).2
          exact Option.some.inj (h7.symm.trans h8)
        subst hcA
        refine go q _ H1 ⟨fun h => absurd h (by omega), fun _ => ⟨fun _ => 0, by rw [hk.2], fun j => by rw [hz2]⟩, fun h => absurd h (by omega), fun h => absurd h (by omega), fun c2 h2 h3 => absurd h3 (by omega)⟩ hP1 hD1 hS1
      · refine va_newa (atype := .boolean) (ty := .boolean) (a0 := (n, .inl (fun _ => 0))) (N' := n) hx hb (hB.w hW (show Cond.arrayClass .boolean ∈ lw_tbl from zw_in (i := 351) (by decide +kernel)) rfl) rfl hK hP hD hS (zA_up hC) (fun cA => rfl) hiv hcl (by show n * 1 ≤ 536870912; omega) (by omega) (by omega) hdg (fun q cA H1 hK1 hP1 hD1 hS1 => ?_)
        have hcA : cA = c4.2.2.1 := by
          have h7 := (hK1.2 4 (cA, .boolean) rfl).2
          have h8 := (hK1.2 2 (c4.2.2.1, .boolean) rfl).2
          exact Option.some.inj (h7.symm.trans h8)
        subst hcA
        refine go q _ H1 ⟨fun h => absurd h (by omega), fun h => absurd h (by omega), fun _ => ⟨fun _ => 0, by rw [hk.2], fun j => by rw [hz1]; rfl⟩, fun h => absurd h (by omega), fun c2 h2 h3 => absurd h3 (by omega)⟩ hP1 hD1 hS1
    · rw [if_neg hk] at h; cases h
  · simp [zmka] at h
  · simp [zmka] at h
  · simp [zmka] at h
theorem zr_newq {n : Nat} (hB : zBase s0 a0 D c4 b L xs adK) (hC : zCx p s0 s m meth c y) (hdg : decode (zB y) pc = .ok (.anewarray n, 3)) (hSt : zSt s0 D c4 b L xs adK s nL ad E σ H locs als ast ls st) (hq : zct (zinf y).1 n = some 8)
    (h : zmka false 23 y (pc + 3) als ast σ = some (.inl (f', σ'))) (hrc : cells + gC σ' ≤ R.cells + gC σ) (hrs : slots + gS σ' ≤ R.slots + gS σ) (kk : zKn s0 D c4 b L xs adK p l e R s m args below meth c Q nL σ ad cells slots f' σ') : W p l e R s m args below meth c H locs cells slots Q (F0 m pc ls st) := by
  obtain ⟨hx, hb, -, -, hown, -, -, -, hW, -⟩ := id hC
  obtain ⟨hS, hR, hL, hst⟩ := id hSt
  obtain ⟨hP, hD, hCo, h186, hz, -⟩ := id hR
  have hK := hB.2.1.moved hW.alike
  rcases ast with _ | ⟨((n9 | n9) | x | k), ast1⟩
  · simp [zmka] at h
  · simp only [zmka, zmk, cond_false] at h
    by_cases hk : zkd (gN σ + 1) = 23 ∧ zln (gN σ + 1) = n9
    · rw [if_pos hk] at h
      simp only [znx] at h
      cases h
      have hk1 := zkd_in (k := gN σ + 1) (by omega) (by omega) (by omega)
      have hsm := zln_small (gN σ + 1) (by omega)
      have e1 : gC (zal σ n9) = gC σ + 1 := rfl
      have e2 : gS (zal σ n9) = gS σ + n9 := rfl
      rw [e1] at hrc
      rw [e2] at hrs
      obtain ⟨iv, m1, rfl, ei, h1⟩ := zSr_i hst
      have hiv : ¬ iv < 0 := by
        rw [Int32.lt_iff_toInt_lt, ei]
        show ¬ (n9 : Int) < 0
        omega
      have hcl : iv.toNatClampNeg = n9 := by
        show iv.toInt.toNat = n9
        rw [ei]; rfl
      have hn : gN σ ≤ gN (zal σ n9) := Nat.le_succ _
      obtain ⟨r, hr, hw1, -, -⟩ := zct_ok hq
      have hr8 : r = ("Treegrab$Tree", zT_8, 13) := (Option.some.inj hr).symm
      subst hr8
      have hAO : va_AO "Treegrab$Tree" s := va_AO.moved hW.alike (va_AO.of (hB.1 _ (zw_in (i := 63) (by decide +kernel))))
      refine va_newq (C := "Treegrab$Tree") (N' := n9) hx hb hown (hB.w hW hw1 rfl) hAO hK hP hD hS (zA_up hC) hiv hcl (by omega) (by omega) (by omega) hdg (fun q cA H1 hK1 hP1 hD1 hS1 => ?_)
      have hcA : cA = c4.2.2.2 := by
        obtain ⟨kA, comp, h4, h5, h6, h7⟩ := (hK1.2 4 (cA, .object "Treegrab$Tree") rfl).2
        obtain ⟨kA', comp', h4', h5', h6', h8⟩ := (hK1.2 3 (c4.2.2.2, .object "Treegrab$Tree") rfl).2
        exact Option.some.inj (h7.symm.trans h8)
      subst hcA
      have hco : zCo c4 (fun i => if i = gN σ + 1 then q else ad i) (zal σ n9) (gN σ + 1) (.inl (c4.2.2.2, n9, .inr (.inr (.inr (.inr (fun _ => none)))))) := by
        refine ⟨fun h => absurd h (by omega), fun h => absurd h (by omega), fun h => absurd h (by omega), fun _ => ⟨fun _ => none, by rw [hk.2], fun j => Or.inl ⟨(hz (gN σ + 1) j (by omega) (by omega)).2.2, rfl⟩⟩, fun c2 h2 h3 => absurd h3 (by omega)⟩
      obtain ⟨hA, hR1⟩ := zRel_new hR hk1.2 hP1 hD1 hco
      refine kk H1 locs _ _ ls _ (cells + 1) (slots + n9) hA ⟨hS1, hR1, hL.up hA hn, ⟨?_, h1.up hA hn⟩⟩ (by rw [e1]; omega) (by rw [e2]; omega)
      exact Or.inr ⟨Or.inl ⟨by omega, Nat.le_refl _⟩, by simp⟩
    · rw [if_neg hk] at h; cases h
  · simp [zmka] at h
  · simp [zmka] at h
  · simp [zmka] at h
end ZNEXT
