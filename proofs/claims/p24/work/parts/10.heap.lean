/-! rows on objects and arrays -/
theorem zl_ok {c : Nat} {r : vw_C} (h : zcl[c]? = some r) : ∀ w ∈ u_ws r.1 r.2.1 r.2.2, w ∈ lw_tbl ∧ goodWord w = true := by
  intro w hw
  have h1 : w ∈ zth [] (zcl.map (fun r => u_ws r.1 r.2.1 r.2.2)) c := by
    rw [zth_getD, List.getD_eq_getElem?_getD, List.getElem?_map, h]; exact hw
  obtain ⟨i, hi⟩ := zallo_mem zl_all c w h1
  simp only [zlchk, Bool.and_eq_true, decide_eq_true_eq] at hi
  exact ⟨zw_in hi.1, hi.2⟩
theorem zft_ok {o n ci j ty : Nat} {fin : Bool} (h : zft o n = some (ci, j, ty, fin)) : ∃ (r : vw_C) (bn : Bool), zcl[ci]? = some r ∧ j < r.2.2 ∧ (r.2.1 j).1 = r.1 ∧ (r.2.1 j).2.2.2 = fin ∧ zfk ci j = ty ∧ zfw bn o n (r.2.1 j) ∈ lw_tbl ∧ (bn = true → o ≠ ci) := by
  obtain ⟨w, hw⟩ := zallo_mem zf_all o _ (zlk_mem h)
  rw [Nat.zero_add] at hw
  simp only [zfchk] at hw
  cases hr : zcl[ci]? with
  | none => rw [hr] at hw; cases hw
  | some r =>
    rw [hr] at hw
    simp only [Bool.and_eq_true, decide_eq_true_eq, Nat.blt_eq] at hw
    obtain ⟨h1, h2, h3, h4, h5, h6⟩ := hw
    refine ⟨r, w.1, rfl, h1, h2, h3, Nat.eq_of_beq_eq_true h4, zw_in h5, fun hb ho => ?_⟩
    subst ho
    rw [hb] at h6
    simp at h6
theorem zcn_all : ∀ c, c < 10 → (zcl[c]?).map (fun r => r.1) = some (zCn c) := by decide +kernel
theorem zcn_ok {c : Nat} {r : vw_C} (h : zcl[c]? = some r) : r.1 = zCn c := by
  have h1 := zcn_all c (List.getElem?_eq_some_iff.mp h).1
  rw [h] at h1
  exact Option.some.inj h1
def zftok (q : Nat) (t : FieldType) : Bool := match q, t with
  | 0, .int => true
  | 1, .boolean => true
  | 2, .long => true
  | 3, .object _ => true
  | 3, .array _ => true
  | _, _ => false
theorem zty_ok : ∀ (c : Nat) (r : vw_C), zcl[c]? = some r → ∃ ty : Nat → FieldType, (∀ k, k < r.2.2 → parseFieldDescriptor (r.2.1 k).2.2.1 = some (ty k)) ∧ (∀ a, a < r.2.2 → ∀ b, b < r.2.2 → a ≠ b → (r.2.1 a).2.1 ≠ (r.2.1 b).2.1) ∧ ∀ k, k < r.2.2 → zftok (zfk c k) (ty k) = true := by
  intro c r h
  have hc : c < 10 := (List.getElem?_eq_some_iff.mp h).1
  match c, hc with
  | 0, _ => cases h; exact ⟨zty_0, by decide +kernel, by decide +kernel, by decide +kernel⟩
  | 1, _ => cases h; exact ⟨zty_1, by decide +kernel, by decide +kernel, by decide +kernel⟩
  | 2, _ => cases h; exact ⟨zty_2, by decide +kernel, by decide +kernel, by decide +kernel⟩
  | 3, _ => cases h; exact ⟨zty_3, by decide +kernel, by decide +kernel, by decide +kernel⟩
  | 4, _ => cases h; exact ⟨zty_4, by decide +kernel, by decide +kernel, by decide +kernel⟩
  | 5, _ => cases h; exact ⟨zty_5, by decide +kernel, by decide +kernel, by decide +kernel⟩
  | 6, _ => cases h; exact ⟨zty_6, by decide +kernel, by decide +kernel, by decide +kernel⟩
  | 7, _ => cases h; exact ⟨zty_7, by decide +kernel, by decide +kernel, by decide +kernel⟩
  | 8, _ => cases h; exact ⟨zty_8, by decide +kernel, by decide +kernel, by decide +kernel⟩
  | 9, _ => cases h; exact ⟨zty_9, by decide +kernel, by decide +kernel, by decide +kernel⟩
theorem zfl_at {ci k : Nat} {r : vw_C} (hr : zcl[ci]? = some r) (hk : zkd k = ci + 1) : r.2.2 = zln k ∧ ci < 10 ∧ 1 ≤ k ∧ k ≤ 123 := by
  have hc : ci < 10 := (List.getElem?_eq_some_iff.mp hr).1
  have hin := zkd_in (k := k) (by omega) (by omega) (by omega)
  have h := zfl_len k (by omega) ci hc hk
  rw [hr] at h
  exact ⟨Option.some.inj h, hc, hin⟩
section ZHEAP
variable {s0 : State} {a0 : Array Value} {D : va_G} {c4 : zC4} {b L : Nat} {xs : Nat → Int32} {adK : Nat → Nat}
variable {p : Program} {l : Launch} {e : Env} {R : Room} {s : State} {m : MethodId} {args : Array Value} {below : List Frame} {meth : Method} {c : Code} {Q : State → Prop} {y : Nat}
variable {nL pc : Nat} {σ σ' : zW} {ad : Nat → Nat} {E : Nat → va_E} {H : Heap} {locs : List Loc} {cells slots : Nat} {als : List (Option zV)} {ast : List zV} {ls : Array Slot} {st : List Value} {f' : zF}
theorem zr_getf {n : Nat} (hB : zBase s0 a0 D c4 b L xs adK) (hC : zCx p s0 s m meth c y) (hdg : decode (zB y) pc = .ok (.getfield n, 3)) (hSt : zSt s0 D c4 b L xs adK s nL ad E σ H locs als ast ls st)
    (h : zgf false (zft (zinf y).1 n) y pc als ast σ = some (.inl (f', σ'))) (kk : zKn s0 D c4 b L xs adK p l e R s m args below meth c Q nL σ ad cells slots f' σ') : W p l e R s m args below meth c H locs cells slots Q (F0 m pc ls st) := by
  obtain ⟨hx, hb, -, -, hown, -, -, -, hW, -⟩ := id hC
  obtain ⟨hS, hR, hL, hst⟩ := id hSt
  obtain ⟨hP, hD, hCo, -⟩ := id hR
  cases hq : zft (zinf y).1 n with
  | none => rw [hq] at h; simp [zgf] at h
  | some q =>
    obtain ⟨ci, j, ty, fin⟩ := q
    rw [hq] at h
    rcases ast with _ | ⟨(z | x | k), ast1⟩
    · simp [zgf] at h
    · simp [zgf] at h
    · simp [zgf] at h
    · simp only [zgf] at h
      by_cases hk : zkd k = ci + 1
      · rw [if_pos hk] at h
        unfold znx at h
        cases h
        obtain ⟨r, bn, hr, hj, ht1, -, hty, hw, -⟩ := zft_ok hq
        obtain ⟨hrl, hci, hk1⟩ := zfl_at hr hk
        obtain ⟨m1, rfl, hok, h1⟩ := zSr_r (by omega) hst
        have hk2 := zok_in hok hk1
        obtain ⟨vs, hE, hlen, hvs⟩ := (hCo k hk2.1 hk2.2).2.2.2.2 ci hci hk
        obtain ⟨v, hv, hvr⟩ := hvs j (by omega)
        have he := zws_at (ad := ad) (E := E) hk2.1 hk2.2
        rw [hE] at he
        have hts : ∀ w ∈ u_ws r.1 r.2.1 r.2.2, w.before args s = true := fun w hw => hB.w hW (zl_ok hr w hw).1 (zl_ok hr w hw).2
        have hsame : ∀ x, s.fieldFound? (r.2.1 j).1 (r.2.1 j).2.1 (r.2.1 j).2.2.1 = some x → s.fieldFound? (r.2.1 j).1 (r.2.1 j).2.1 (r.2.1 j).2.2.1 = some x := fun _ h => h
        rw [hty] at hvr
        have kk1 := kk.same hSt hL (st1 := v :: m1) ⟨hvr, h1⟩
        cases bn with
        | true =>
          refine va_getN hx hb (T := r.2.1) (N := r.2.2) (C := r.1) (host := "Treegrab") hts (fun w h => h) hown (hB.2.1.moved hW.alike) hP (k - 1) he hr j hj ?_ hsame hv hdg kk1
          exact va_Nw.use rfl (va_Nw.warmF hW (va_Nw.of rfl (hB.1 _ hw)))
        | false =>
          refine va_get hx hb (T := r.2.1) (N := r.2.2) (C := r.1) hts (fun w h => h) hown (hB.2.1.moved hW.alike) hP (k - 1) he hr j hj ?_ hsame hv hdg kk1
          exact hB.w hW hw rfl
      · rw [if_neg hk] at h; cases h
/-- the world behind a store into an object -/
theorem zCo_put {k j : Nat} {vs : List Value} {v : Value} {ci : Nat} (hci : ci < 10) (hk : zkd k = ci + 1) (hE : E k = .inr (ci, vs)) (hlen : vs.length = zln k) (hj : j < zln k) (hvs : ∀ i, i < zln k → i ≠ j → ∃ u, vs[i]? = some u ∧ zVr ad (gN σ) (zrd (zfk ci i) σ' k i) u) (hv : zVr ad (gN σ) (zrd (zfk ci j) σ' k j) v) (hn : gN σ' = gN σ) :
    zCo c4 ad σ' k (.inr (ci, vs.set j v)) := by
  refine ⟨fun h => absurd h (by omega), fun h => absurd h (by omega), fun h => absurd h (by omega), fun h => absurd h (by omega), fun c2 h2 h3 => ?_⟩
  have : c2 = ci := by omega
  subst this
  refine ⟨vs.set j v, rfl, by rw [List.length_set]; exact hlen, fun i hi => ?_⟩
  by_cases hij : i = j
  · subst hij
    exact ⟨v, by rw [List.getElem?_set_self (by omega)], by rw [hn]; exact hv⟩
  · obtain ⟨u, h4, h5⟩ := hvs i hi hij
    exact ⟨u, by rw [List.getElem?_set_ne (fun q => hij q.symm)]; exact h4, by rw [hn]; exact h5⟩
/-- a cell's contents don't change with other cells -/
theorem zCo.eq {k : Nat} {x : va_E} (h : zCo c4 ad σ k x) (hI : ∀ j, gI σ' k j = gI σ k j) (hL : ∀ j, gL σ' k j = gL σ k j) (hR : ∀ j, gR σ' k j = gR σ k j) (hN : gN σ' = gN σ) : zCo c4 ad σ' k x := by
  obtain ⟨h1, h2, h3, h4, h5⟩ := h
  refine ⟨fun hk => ?_, fun hk => ?_, fun hk => ?_, fun hk => ?_, fun c2 h6 h7 => ?_⟩
  · obtain ⟨f, e1, e2⟩ := h1 hk; exact ⟨f, e1, fun j => by rw [hI]; exact e2 j⟩
  · obtain ⟨f, e1, e2⟩ := h2 hk; exact ⟨f, e1, fun j => by rw [hL]; exact e2 j⟩
  · obtain ⟨f, e1, e2⟩ := h3 hk; exact ⟨f, e1, fun j => by rw [hI]; exact e2 j⟩
  · obtain ⟨f, e1, e2⟩ := h4 hk; exact ⟨f, e1, fun j => by rw [hR, hN]; exact e2 j⟩
  · obtain ⟨vs, e1, e2, e3⟩ := h5 c2 h6 h7
    refine ⟨vs, e1, e2, fun j hj => ?_⟩
    obtain ⟨v, e4, e5⟩ := e3 j hj
    refine ⟨v, e4, ?_⟩
    have : zrd (zfk c2 j) σ' k j = zrd (zfk c2 j) σ k j := by
      unfold zrd
      split <;> simp only [hI, hL, hR]
    rw [this, hN]; exact e5
theorem gI_sI (σ : zW) (k j : Nat) (x : Int) (k' j' : Nat) : gI (sI σ k j x) k' j' = if k' = k ∧ j' = j then x else gI σ k' j' := rfl
theorem gL_sI (σ : zW) (k j : Nat) (x : Int) (k' j' : Nat) : gL (sI σ k j x) k' j' = gL σ k' j' := rfl
theorem gR_sI (σ : zW) (k j : Nat) (x : Int) (k' j' : Nat) : gR (sI σ k j x) k' j' = gR σ k' j' := rfl
theorem gI_sL (σ : zW) (k j : Nat) (x : Int64) (k' j' : Nat) : gI (sL σ k j x) k' j' = gI σ k' j' := rfl
theorem gL_sL (σ : zW) (k j : Nat) (x : Int64) (k' j' : Nat) : gL (sL σ k j x) k' j' = if k' = k ∧ j' = j then x else gL σ k' j' := rfl
theorem gR_sL (σ : zW) (k j : Nat) (x : Int64) (k' j' : Nat) : gR (sL σ k j x) k' j' = gR σ k' j' := rfl
theorem gI_sR (σ : zW) (k j x : Nat) (k' j' : Nat) : gI (sR σ k j x) k' j' = gI σ k' j' := rfl
theorem gL_sR (σ : zW) (k j x : Nat) (k' j' : Nat) : gL (sR σ k j x) k' j' = gL σ k' j' := rfl
theorem gR_sR (σ : zW) (k j x : Nat) (k' j' : Nat) : gR (sR σ k j x) k' j' = if k' = k ∧ j' = j then x else gR σ k' j' := rfl
theorem gN_sI (σ : zW) (k j : Nat) (x : Int) : gN (sI σ k j x) = gN σ := rfl
theorem gN_sL (σ : zW) (k j : Nat) (x : Int64) : gN (sL σ k j x) = gN σ := rfl
theorem gN_sR (σ : zW) (k j x : Nat) : gN (sR σ k j x) = gN σ := rfl
/-- the relation behind a store into cell k -/
theorem zRel_put {k : Nat} {x : va_E} {H1 : Heap} (hR : zRel s0 D c4 b L xs adK ad E σ H) (hk1 : 1 ≤ k) (hk2 : k ≤ gN σ) (hN : gN σ' = gN σ) (hI : ∀ k' j, k' ≠ k → gI σ' k' j = gI σ k' j) (hL : ∀ k' j, k' ≠ k → gL σ' k' j = gL σ k' j) (hRr : ∀ k' j, k' ≠ k → gR σ' k' j = gR σ k' j)
    (hP : va_P D zcl ((zws ad E (gN σ)).set (k - 1) (ad k, x)) H1) (hD : va_D (zA s0) ((zws ad E (gN σ)).set (k - 1) (ad k, x))) (hc : zCo c4 ad σ' k x) : zRel s0 D c4 b L xs adK ad (fun i => if i = k then x else E i) σ' H1 := by
  obtain ⟨-, -, hCo, h123, hz, hs, hl, hb, hK⟩ := hR
  rw [zws_set x hk1 hk2] at hP hD
  refine ⟨by rw [hN]; exact hP, by rw [hN]; exact hD, fun i h1 h2 => ?_, by rw [hN]; exact h123, fun i j h1 h2 => ?_, fun j hj => ?_, ?_, hb, hK⟩
  · by_cases hi : i = k
    · subst hi; simp only [if_true]; exact hc
    · simp only [if_neg hi]
      exact (hCo i h1 (by omega)).eq (fun j => hI i j hi) (fun j => hL i j hi) (fun j => hRr i j hi) hN
  · rw [hN] at h1
    have hi : i ≠ k := by omega
    rw [hI i j hi, hL i j hi, hRr i j hi]
    exact hz i j h1 h2
  · rw [hI _ _ (by omega)]; exact hs j hj
  · rw [hI _ _ (by omega)]; exact hl
theorem zr_putf {n : Nat} (hB : zBase s0 a0 D c4 b L xs adK) (hC : zCx p s0 s m meth c y) (hdg : decode (zB y) pc = .ok (.putfield n, 3)) (hSt : zSt s0 D c4 b L xs adK s nL ad E σ H locs als ast ls st)
    (h : zpf false (zft (zinf y).1 n) y pc als ast σ = some (.inl (f', σ'))) (kk : zKn s0 D c4 b L xs adK p l e R s m args below meth c Q nL σ ad cells slots f' σ') : W p l e R s m args below meth c H locs cells slots Q (F0 m pc ls st) := by
  obtain ⟨hx, hb, -, -, hown, -, hini, -, hW, -⟩ := id hC
  obtain ⟨hS, hR, hL, hst⟩ := id hSt
  obtain ⟨hP, hD, hCo, -⟩ := id hR
  cases hq : zft (zinf y).1 n with
  | none => rw [hq] at h; simp [zpf] at h
  | some q =>
    obtain ⟨ci, j, ty, fin⟩ := q
    rw [hq] at h
    rcases ast with _ | ⟨a, _ | ⟨(z | x | k), ast1⟩⟩
    · simp [zpf] at h
    · simp [zpf] at h
    · simp [zpf] at h
    · simp [zpf] at h
    · simp only [zpf] at h
      cases hfin : (!fin || (!false && (Nat.beq (zinf y).2.2.2.2 2 && Nat.beq ci (zinf y).1))) with
      | false => rw [hfin] at h; cases h
      | true =>
        rw [hfin] at h
        simp only [cond_true] at h
        by_cases hk : zkd k = ci + 1
        · rw [if_pos hk] at h
          obtain ⟨r, bn, hr, hj, ht1, htf, hty, hw, hbn⟩ := zft_ok hq
          obtain ⟨hrl, hci, hk1⟩ := zfl_at hr hk
          obtain ⟨v, m0, rfl, hvr, hst2⟩ := zSr_c hst
          obtain ⟨m1, rfl, hok, h1⟩ := zSr_r (by omega) hst2
          have hk2 := zok_in hok hk1
          obtain ⟨vs, hE, hlen, hvs⟩ := (hCo k hk2.1 hk2.2).2.2.2.2 ci hci hk
          have he := zws_at (ad := ad) (E := E) hk2.1 hk2.2
          rw [hE] at he
          have hts : ∀ w ∈ u_ws r.1 r.2.1 r.2.2, w.before args s = true := fun w hw => hB.w hW (zl_ok hr w hw).1 (zl_ok hr w hw).2
          obtain ⟨ft, hft, hnm, hfk⟩ := zty_ok ci r hr
          have hsame : ∀ x, s.fieldFound? (r.2.1 j).1 (r.2.1 j).2.1 (r.2.1 j).2.2.1 = some x → s.fieldFound? (r.2.1 j).1 (r.2.1 j).2.1 (r.2.1 j).2.2.1 = some x := fun _ h => h
          have hfj := hfk j hj
          rw [hty] at hfj
          -- the store itself, for any world that has it
          have go : ∀ (σ1 : zW), gN σ1 = gN σ → (∀ k' j', ¬ (k' = k ∧ j' = j) → gI σ1 k' j' = gI σ k' j' ∧ gL σ1 k' j' = gL σ k' j' ∧ gR σ1 k' j' = gR σ k' j') → gC σ1 = gC σ → gS σ1 = gS σ → zVr ad (gN σ) (zrd ty σ1 k j) v → narrow (ft j) v = v → fits (ft j) v = true →
              zKn s0 D c4 b L xs adK p l e R s m args below meth c Q nL σ ad cells slots (y, pc + 3, als, ast1) σ1 → W p l e R s m args below meth c H locs cells slots Q (F0 m pc ls (v :: .ref (ad k) :: m1)) := by
            intro σ1 hN ho hc1 hs1 hv1 hna hfi kk1
            have hco : zCo c4 ad σ1 k (.inr (ci, vs.set j v)) := by
              refine zCo_put (E := E) (σ := σ) hci hk hE hlen (by omega) (fun i hi hij => ?_) (by rw [hty]; exact hv1) hN
              obtain ⟨u, h4, h5⟩ := hvs i hi
              refine ⟨u, h4, ?_⟩
              obtain ⟨o1, o2, o3⟩ := ho k i (fun q => hij q.2)
              have : zrd (zfk ci i) σ1 k i = zrd (zfk ci i) σ k i := by
                unfold zrd
                split <;> simp only [o1, o2, o3]
              rw [this]; exact h5
            have fin2 : ∀ (H1 : Heap) (locs1 : List Loc), va_P D zcl ((zws ad E (gN σ)).set (k - 1) (ad k, .inr (ci, vs.set j v))) H1 → va_D (zA s0) ((zws ad E (gN σ)).set (k - 1) (ad k, .inr (ci, vs.set j v))) → va_S (zA s0) s.heap H1 locs1 → W p l e R s m args below meth c H1 locs1 cells slots Q (F0 m (pc + 3) ls m1) := by
              intro H1 locs1 hP1 hD1 hS1
              have hR1 := zRel_put hR hk2.1 hk2.2 hN (fun k' j' hne => (ho k' j' (fun q => hne q.1)).1) (fun k' j' hne => (ho k' j' (fun q => hne q.1)).2.1) (fun k' j' hne => (ho k' j' (fun q => hne q.1)).2.2) hP1 hD1 hco
              exact kk1 H1 locs1 ad _ ls m1 cells slots zAg.rf ⟨hS1, hR1, by rw [hN]; exact hL, by rw [hN]; exact h1⟩ (by rw [hc1]) (by rw [hs1])
            cases bn with
            | true =>
              cases hf2 : fin with
              | false =>
                refine va_putN hx hb (T := r.2.1) (N := r.2.2) (C := r.1) (host := "Treegrab") (ty := ft j) hts (fun w h => h) ft hft hnm hown (hB.2.1.moved hW.alike) hP hD hS (k - 1) he hr j hj ?_ hsame (by rw [htf, hf2]) (hft j hj) hna hfi (by omega) hdg fin2
                exact va_Nw.use rfl (va_Nw.warmF hW (va_Nw.of rfl (hB.1 _ hw)))
              | true =>
                rw [hf2] at hfin
                simp only [Bool.not_true, Bool.false_or, Bool.not_false, Bool.true_and, Bool.and_eq_true] at hfin
                exact absurd (Nat.eq_of_beq_eq_true hfin.2).symm (hbn rfl)
            | false =>
              cases hf2 : fin with
              | false =>
                refine va_put hx hb (T := r.2.1) (N := r.2.2) (C := r.1) (ty := ft j) hts (fun w h => h) ft hft hnm hown (hB.2.1.moved hW.alike) hP hD hS (k - 1) he hr j hj ?_ hsame (by rw [htf, hf2]) (hft j hj) hna hfi (by omega) hdg fin2
                exact hB.w hW hw rfl
              | true =>
                rw [hf2] at hfin
                simp only [Bool.not_true, Bool.false_or, Bool.not_false, Bool.true_and, Bool.and_eq_true] at hfin
                have hctor : (zinf y).2.2.2.2 = 2 := Nat.eq_of_beq_eq_true hfin.1
                have hown2 : ci = (zinf y).1 := Nat.eq_of_beq_eq_true hfin.2
                refine va_putF hx hb (T := r.2.1) (N := r.2.2) (C := r.1) (ty := ft j) hts (fun w h => h) ft hft hnm hown (hB.2.1.moved hW.alike) hP hD hS (k - 1) he hr j hj ?_ hsame (by rw [htf, hf2]) (hini hctor) ?_ (hft j hj) hna hfi (by omega) hdg fin2
                · exact hB.w hW hw rfl
                · rw [ht1, zcn_ok hr, hown2]
          match ty, a, hfj, h, hvr with
          | 0, .inl z, hfj, h, hvr =>
            simp only [znx] at h
            cases h
            obtain ⟨xv, rfl, ex⟩ := hvr
            have hfty : ft j = .int := by
              cases hq2 : ft j <;> rw [hq2] at hfj <;> first | rfl | cases hfj
            refine go (sI σ k j z) rfl (fun k' j' hne => ⟨by rw [gI_sI, if_neg hne], rfl, rfl⟩) rfl rfl ?_ (by rw [hfty]; rfl) (by rw [hfty]; rfl) kk
            show zVr ad (gN σ) (.inl (gI (sI σ k j z) k j)) _
            rw [gI_sI, if_pos ⟨rfl, rfl⟩]
            exact zVr_int xv ex
          | 1, .inl z, hfj, h, hvr =>
            have hfty : ft j = .boolean := by
              cases hq2 : ft j <;> rw [hq2] at hfj <;> first | rfl | cases hfj
            by_cases hz : z = 0 ∨ z = 1
            · simp only [if_pos hz, znx] at h
              cases h
              obtain ⟨xv, rfl, ex⟩ := hvr
              have hxv : xv = 0 ∨ xv = 1 := by
                rcases hz with hz | hz
                · exact Or.inl (Int32.toInt_inj.mp (by rw [ex, hz]; rfl))
                · exact Or.inr (Int32.toInt_inj.mp (by rw [ex, hz]; rfl))
              refine go (sI σ k j z) rfl (fun k' j' hne => ⟨by rw [gI_sI, if_neg hne], rfl, rfl⟩) rfl rfl ?_ (by rw [hfty]; rcases hxv with rfl | rfl <;> rfl) (by rw [hfty]; rcases hxv with rfl | rfl <;> rfl) kk
              show zVr ad (gN σ) (.inl (gI (sI σ k j z) k j)) _
              rw [gI_sI, if_pos ⟨rfl, rfl⟩]
              exact zVr_int xv ex
            · simp only [if_neg hz] at h
              cases h
          | 2, .inr (.inl x), hfj, h, hvr =>
            simp only [znx] at h
            cases h
            have hv2 : v = .long x := hvr
            subst hv2
            have hfty : ft j = .long := by
              cases hq2 : ft j <;> rw [hq2] at hfj <;> first | rfl | cases hfj
            refine go (sL σ k j x) rfl (fun k' j' hne => ⟨rfl, by rw [gL_sL, if_neg hne], rfl⟩) rfl rfl ?_ (by rw [hfty]; rfl) (by rw [hfty]; rfl) kk
            show zVr ad (gN σ) (.inr (.inl (gL (sL σ k j x) k j))) _
            rw [gL_sL, if_pos ⟨rfl, rfl⟩]
            exact zVr_long x
          | 3, .inr (.inr r2), hfj, h, hvr =>
            simp only [znx] at h
            cases h
            have hnf : narrow (ft j) v = v ∧ fits (ft j) v = true := by
              rcases hvr with ⟨-, rfl⟩ | ⟨-, rfl⟩
              · cases hq2 : ft j <;> rw [hq2] at hfj <;> first | exact ⟨rfl, rfl⟩ | cases hfj
              · cases hq2 : ft j <;> rw [hq2] at hfj <;> first | exact ⟨rfl, rfl⟩ | cases hfj
            refine go (sR σ k j r2) rfl (fun k' j' hne => ⟨rfl, rfl, by rw [gR_sR, if_neg hne]⟩) rfl rfl ?_ hnf.1 hnf.2 kk
            show zVr ad (gN σ) (.inr (.inr (gR (sR σ k j r2) k j))) _
            rw [gR_sR, if_pos ⟨rfl, rfl⟩]
            exact hvr
          | 0, .inr _, _, h, _ => cases h
          | 1, .inr _, _, h, _ => cases h
          | 2, .inl _, _, h, _ => cases h
          | 2, .inr (.inr _), _, h, _ => cases h
          | 3, .inl _, _, h, _ => cases h
          | 3, .inr (.inl _), _, h, _ => cases h
          | t + 4, _, _, h, _ => cases h
        · rw [if_neg hk] at h; cases h
end ZHEAP
