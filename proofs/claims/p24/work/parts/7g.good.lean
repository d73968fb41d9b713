/-! what is so of every state -/
theorem SG_feed {S : STA} {x : Int64} {z : Int} (hg : SG S) : SG (oFeed S x z).2.2 := by
  unfold oFeed
  by_cases c : z < 1 ∨ 8 < z
  · rw [if_pos c]; exact hg
  · rw [if_neg c]
    by_cases c2 : 600 < (qL S : Int) + z
    · rw [if_pos c2]; exact hg
    · rw [if_neg c2]; exact hg
theorem SG_nodes {S : STA} {z : Int} (hg : SG S) : SG (oNodes S z).2.2 := by
  unfold oNodes
  by_cases c : 0 ≤ z ∧ z < 3
  · rw [if_pos c]; exact hg
  · rw [if_neg c]; exact hg
theorem SG_node {S : STA} {z y a : Int} (hg : SG S) : SG (oNode S z y a).2.2 := by
  by_cases c : isN S z y
  · rw [oNode_t c]; exact hg
  · rw [oNode_f c]; exact hg
theorem SG_with {S : STA} {z : Int} (hg : SG S) : SG (oWith S z).2.2 := by
  unfold oWith
  by_cases c : 0 ≤ z ∧ z < 3
  · rw [if_pos c]; exact hg
  · rw [if_neg c]; exact hg
theorem SG_out {S : STA} {x : TX} (hg : SG S) (hx : x.1 ≤ 184) : SG (qsO S x) := ⟨hg.1, hg.2.1, hg.2.2.1, hg.2.2.2.1, hx⟩
theorem SG_show {S : STA} {z : Int} (hg : SG S) : SG (oShow S z).2.2 := by
  unfold oShow
  by_cases c : 0 ≤ z ∧ z < 3
  · rw [if_pos c]
    have hgT := hg.1 z.toNat (by omega)
    have h1 := shw_len hgT.1 _ (Nat.le_refl (qT S z.toNat).1)
    have h2 := opq_le (qT S z.toNat) (qT S z.toNat).1
    have hn := hgT.1.1
    refine SG_out hg ?_
    rw [if_neg (Nat.lt_irrefl _)] at h1
    omega
  · rw [if_neg c]; exact hg
theorem SG_label {S : STA} {z y : Int} (hg : SG S) : SG (oLabel S z y).2.2 := by
  unfold oLabel
  by_cases c : isN S z y
  · rw [if_pos c]
    have h1 := lbt_len ((qT S z.toNat).2.1 y.toNat) 6 0 (0, fun _ => 0)
    refine SG_out hg (Nat.le_trans h1 ?_)
    show 0 + 6 ≤ 184
    decide
  · rw [if_neg c]; exact hg
theorem SG_matches {S : STA} {z : Int} (hg : SG S) : SG (oMatches S z).2.2 := by
  unfold oMatches
  by_cases c : 0 ≤ z ∧ z < 3
  · rw [if_pos c]; exact hg
  · rw [if_neg c]; exact hg
theorem SG_matchAt {S : STA} {z i j : Int} (hg : SG S) : SG (oMatchAt S z i j).2.2 := by
  unfold oMatchAt
  by_cases c : isM S z i j
  · rw [if_pos c]; exact hg
  · rw [if_neg c]; exact hg
theorem SG_planAt {S : STA} {z i : Int} (hg : SG S) : SG (oPlanAt S z i).2.2 := by
  unfold oPlanAt
  by_cases c : isL S z i
  · rw [if_pos c]; exact hg
  · rw [if_neg c]; exact hg
theorem fup_gd {Ts : Nat → TRE} {p : Nat} {T : TRE} (h : ∀ q, q < 3 → tgd (Ts q)) (hT : tgd T) : ∀ q, q < 3 → tgd (fup Ts p T q) := fun q hq => by
  by_cases e : q = p
  · rw [e, fup_eq]; exact hT
  · rw [fup_ne e]; exact h q hq
theorem SG_plant {S : STA} {z : Int} (hg : SG S) : SG (oPlant S z).2.2 := by
  unfold oPlant
  by_cases c : 0 ≤ z ∧ z < 3
  · rw [if_pos c]
    cases h : tread (qF S) (qL S) with
    | inl e => exact hg
    | inr T => exact ⟨fup_gd hg.1 (tread_gd h).1, hg.2.1, hg.2.2.1, hg.2.2.2.1, hg.2.2.2.2⟩
  · rw [if_neg c]; exact hg
theorem SG_pattern {S : STA} (hg : SG S) (hL : qL S ≤ 600) : SG (oPattern S).2.2 := by
  unfold oPattern
  cases h : pread (qF S) (qL S) with
  | inl e => exact hg
  | inr st =>
    have h1 := pdO_g h
    have h2 := pread_l h
    by_cases c : pw st ∧ pup st ∧ 1 ≤ st.1
    · simp only
      rw [if_pos c]
      refine ⟨hg.1, fun st' pd' x => ?_, hg.2.2.1, hg.2.2.2.1, hg.2.2.2.2⟩
      have x1 := congrArg Prod.fst (Option.some.inj x)
      have x2 := congrArg Prod.snd (Option.some.inj x)
      simp only at x1 x2
      rw [← x1, ← x2]
      exact ⟨h1, c.1, c.2.1, c.2.2, by omega⟩
    · simp only
      rw [if_neg c]; exact hg
theorem SG_script {S : STA} (hg : SG S) : SG (oScript S).2.2 := by
  unfold oScript
  cases h : sread (qF S) (qL S) with
  | inl e => exact hg
  | inr r =>
    by_cases c : r.1 ≤ 8
    · simp only
      rw [if_pos c]
      exact ⟨hg.1, hg.2.1, c, sread_g h, hg.2.2.2.2⟩
    · simp only
      rw [if_neg c]; exact hg
theorem SG_undo {S : STA} {u : Nat} {z : Int} {σ : zW} (hg : SG S) (hC : CS S u σ) : SG (oUndo S z).2.2 := by
  unfold oUndo
  by_cases c : 0 ≤ z ∧ z < 3
  · rw [if_pos c]
    have hH := hC.2.2.2.2.2.2.1.2 z.toNat (by omega)
    cases h : qH S z.toNat with
    | nil => exact hg
    | cons T l =>
      rw [h] at hH
      obtain ⟨k, k1, k2, k3, k4, -⟩ := hH
      exact ⟨fup_gd hg.1 k4.1, hg.2.1, hg.2.2.1, hg.2.2.2.1, hg.2.2.2.2⟩
  · rw [if_neg c]; exact hg
theorem SG_edit {S : STA} {z : Int} (hg : SG S) : SG (oEdit S z).2.2 := by
  unfold oEdit
  by_cases c : 0 ≤ z ∧ z < 3
  · rw [if_pos c]
    cases hl : lMt S z.toNat with
    | nil => exact hg
    | cons c0 rest =>
      simp only
      cases he : edL (pOf S) (wdc ((qT S z.toNat).1 + 1) (nPs (qP S)) c0) (qS S).2 (qS S).1 0 (rfT (qT S z.toNat)) 0 with
      | none => exact hg
      | some o =>
        simp only
        by_cases cd : o.2 = 0
        · rw [if_pos cd]; exact hg
        · rw [if_neg cd]
          have hc : (lMt S z.toNat)[0]? = some c0 := by rw [hl]; rfl
          have hMc : mPs (qT S z.toNat) (qP S) c0 := ((lst_mem _).mp (List.mem_of_getElem? hc)).2
          obtain ⟨st, pd, hps⟩ : ∃ st pd, qP S = some (st, pd) := by
            cases h : qP S with
            | none => rw [h] at hMc; exact hMc.elim
            | some x => exact ⟨x.1, x.2, rfl⟩
          obtain ⟨g1, g2, g3, g4, g5⟩ := hg.2.1 st pd hps
          have hT1 : 1 ≤ (qT S z.toNat).1 := by
            rcases Nat.eq_zero_or_pos (qT S z.toNat).1 with x | x
            · rw [hps] at hMc; exact absurd hMc (MT_0 g1 g4 x)
            · exact x
          have hrg := edL_gd (qS S).1 0 0 _ o (rfT_g (hg.1 z.toNat (by omega)) hT1) (by show (0 : Int) ≤ 20; decide) (fun j hj => hg.2.2.2.1 j (by omega)) he
          exact ⟨fup_gd hg.1 ⟨hrg.1, hrg.2.2.1⟩, hg.2.1, hg.2.2.1, hg.2.2.2.1, hg.2.2.2.2⟩
  · rw [if_neg c]; exact hg
