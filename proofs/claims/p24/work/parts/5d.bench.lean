/-! rows of a tree that is edited: the class -/
abbrev rwq (cl cd ci : Nat) (σ : zW) (j : Nat) (x : Int64) (y : Nat) (z : Int) : Prop := gL σ cl j = x ∧ gI σ cd j = (y : Int) ∧ gI σ ci j = z
theorem rwq_bw {σ : zW} {j y : Nat} {x : Int64} {z : Int} : rwq 55 56 57 (sI (sI (sL σ 55 j x) 56 j (y : Int)) 57 j z) j x y z := by
  refine ⟨?_, ?_, yGI_hit⟩
  · rw [gL_sI, gL_sI, gL_sL, if_pos ⟨rfl, rfl⟩]
  · rw [gI_sI, if_neg (by omega), yGI_hit]
theorem rwq_bo {σ : zW} {j a y' : Nat} {x x' : Int64} {y z z' : Int} (h : a ≠ j) (hq : rwq 55 56 57 σ a x' y' z') : rwq 55 56 57 (sI (sI (sL σ 55 j x) 56 j y) 57 j z) a x' y' z' := by
  refine ⟨?_, ?_, ?_⟩
  · rw [gL_sI, gL_sI, gL_sL, if_neg (fun w => h w.2)]; exact hq.1
  · rw [gI_sI, if_neg (by omega), gI_sI, if_neg (fun w => h w.2), gI_sL]; exact hq.2.1
  · rw [gI_sI, if_neg (fun w => h w.2), gI_sI, if_neg (by omega), gI_sL]; exact hq.2.2
theorem rwq_fr {cl cd ci : Nat} {σ σ' : zW} {X : Nat → Nat → Prop} {j y : Nat} {x : Int64} {z : Int} (hq : rwq cl cd ci σ j x y z) (hF : yFr X σ σ') (h1 : ¬ X cl j) (h2 : ¬ X cd j) (h3 : ¬ X ci j) : rwq cl cd ci σ' j x y z := ⟨(hF.l h1).trans hq.1, (hF.i h2).trans hq.2.1, (hF.i h3).trans hq.2.2⟩
/-- row j of r -/
abbrev rwr (cl cd ci : Nat) (σ : zW) (j : Nat) (r : ROW) (i : Nat) : Prop := rwq cl cd ci σ j (r.2.1 i) (r.2.2.1 i) (r.2.2.2 i)
def bR (r : ROW) (σ : zW) : Prop := gI σ 54 6 = (r.1 : Int) ∧ ∀ i, i < r.1 → rwr 55 56 57 σ i r i
abbrev Xbn : Nat → Nat → Prop := fun k j => (k = 54 ∧ j = 6) ∨ (55 ≤ k ∧ k ≤ 57)
theorem bR_fr {r : ROW} {σ σ' : zW} {X : Nat → Nat → Prop} (h : bR r σ) (hF : yFr X σ σ') (hX : ∀ k j, X k j → ¬ Xbn k j) : bR r σ' := ⟨(hF.i (fun w => hX _ _ w (Or.inl ⟨rfl, rfl⟩))).trans h.1, fun i hi => rwq_fr (h.2 i hi) hF (fun w => hX _ _ w (by omega)) (fun w => hX _ _ w (by omega)) (fun w => hX _ _ w (by omega))⟩
def shl {α : Type} (s w : Nat) (f : Nat → α) : Nat → α := fun i => if i < s then f i else f (i + w)
def shr {α : Type} (s w : Nat) (f g : Nat → α) : Nat → α := fun i => if i < s then f i else if i < s + w then g (i - s) else f (i - w)
/-- w rows from s on taken out -/
def rcl (r : ROW) (s w : Nat) : ROW := (r.1 - w, shl s w r.2.1, shl s w r.2.2.1, shl s w r.2.2.2)
/-- w rows put in at s -/
def rin (r : ROW) (s w : Nat) (b : (Nat → Int64) × (Nat → Nat) × (Nat → Int)) : ROW := (r.1 + w, shr s w r.2.1 b.1, shr s w r.2.2.1 b.2.1, shr s w r.2.2.2 b.2.2)
theorem shl_lo {α : Type} {s w i : Nat} {f : Nat → α} (h : i < s) : shl s w f i = f i := if_pos h
theorem shl_hi {α : Type} {s w i : Nat} {f : Nat → α} (h : s ≤ i) : shl s w f i = f (i + w) := if_neg (by omega)
theorem shr_lo {α : Type} {s w i : Nat} {f g : Nat → α} (h : i < s) : shr s w f g i = f i := if_pos h
theorem shr_mid {α : Type} {s w i : Nat} {f g : Nat → α} (h : s ≤ i) (h2 : i < s + w) : shr s w f g i = g (i - s) := by
  unfold shr
  rw [if_neg (by omega), if_pos h2]
theorem shr_hi {α : Type} {s w i : Nat} {f g : Nat → α} (h : s + w ≤ i) : shr s w f g i = f (i - w) := by
  unfold shr
  rw [if_neg (by omega), if_neg (by omega)]
theorem rwr_cl_lo {cl cd ci : Nat} {σ : zW} {r : ROW} {s w i j : Nat} (h : rwr cl cd ci σ j r i) (hi : i < s) : rwr cl cd ci σ j (rcl r s w) i := by
  unfold rwr rcl
  simp only
  rw [shl_lo hi, shl_lo hi, shl_lo hi]; exact h
theorem rwr_cl_hi {cl cd ci : Nat} {σ : zW} {r : ROW} {s w i j : Nat} (h : rwr cl cd ci σ j r (i + w)) (hi : s ≤ i) : rwr cl cd ci σ j (rcl r s w) i := by
  unfold rwr rcl
  simp only
  rw [shl_hi hi, shl_hi hi, shl_hi hi]; exact h
theorem rwr_in_lo {cl cd ci : Nat} {σ : zW} {r : ROW} {s w i j : Nat} {b : (Nat → Int64) × (Nat → Nat) × (Nat → Int)} (h : rwr cl cd ci σ j r i) (hi : i < s) : rwr cl cd ci σ j (rin r s w b) i := by
  unfold rwr rin
  simp only
  rw [shr_lo hi, shr_lo hi, shr_lo hi]; exact h
theorem rwr_in_mid {cl cd ci : Nat} {σ : zW} {r : ROW} {s w i j : Nat} {b : (Nat → Int64) × (Nat → Nat) × (Nat → Int)} (h : rwq cl cd ci σ j (b.1 (i - s)) (b.2.1 (i - s)) (b.2.2 (i - s))) (hi : s ≤ i) (hi2 : i < s + w) : rwr cl cd ci σ j (rin r s w b) i := by
  unfold rwr rin
  simp only
  rw [shr_mid hi hi2, shr_mid hi hi2, shr_mid hi hi2]; exact h
theorem rwr_in_hi {cl cd ci : Nat} {σ : zW} {r : ROW} {s w i j : Nat} {b : (Nat → Int64) × (Nat → Nat) × (Nat → Int)} (h : rwr cl cd ci σ j r (i - w)) (hi : s + w ≤ i) : rwr cl cd ci σ j (rin r s w b) i := by
  unfold rwr rin
  simp only
  rw [shr_hi hi, shr_hi hi, shr_hi hi]; exact h
theorem b_close {K : List zF} {r : ROW} {s w : Nat} {x y : Int} {σ : zW} (h : bR r σ) (hn : r.1 ≤ 20) (hs : s + w ≤ r.1) (hx : x = (s : Int)) (hy : y = ((s + w : Nat) : Int))
    (k : ∀ σ' : zW, yFr Xbn σ σ' → bR (rcl r s w) σ' → zRet true K none σ') : zEv true (zent 8 [.inr (.inr 54), .inl x, .inl y] :: K) σ := by
  subst hx
  subst hy
  have ew : w32 (((s + w : Nat) : Int) - (s : Int)) = (w : Int) := by rw [zw_id (by omega) (by omega)]; omega
  have loop : ∀ (m i : Nat) (o1 o2 : Option zV) (σ2 : zW), r.1 - i = m → s + w ≤ i → i ≤ r.1 → yFr Xbn σ σ2 → gI σ2 54 6 = (r.1 : Int) → (∀ j, j < r.1 → (s ≤ j → j + w < i → rwr 55 56 57 σ2 j r (j + w)) ∧ ((j < s ∨ i ≤ j + w) → rwr 55 56 57 σ2 j r j)) → zEv true ((8, 7, [some (.inr (.inr 54)), o1, o2, some (.inl (w : Int)), some (.inl (i : Int))], []) :: K) σ2 := by
    intro m
    induction m with
    | zero =>
      intro i o1 o2 σ2 hm h1 h2 hF e6 hE
      have hF2 : yFr (fun k j => k = 54 ∧ j = 6) σ2 (sI σ2 54 6 ((r.1 - w : Nat) : Int)) := yFr.rf.I ⟨rfl, rfl⟩
      rw [zj_8_7, e6, if_pos (by omega), zw_id (by omega) (by omega), show (r.1 : Int) - (w : Int) = ((r.1 - w : Nat) : Int) by omega]
      refine k _ (hF.trans (hF2.mono (fun k j h => Or.inl h))) ⟨yGI_hit, fun j hj => ?_⟩
      have hj2 : j < r.1 - w := hj
      by_cases e : j < s
      · exact rwr_cl_lo (rwq_fr ((hE j (by omega)).2 (Or.inl e)) hF2 (by omega) (by omega) (by omega)) e
      · exact rwr_cl_hi (rwq_fr ((hE j (by omega)).1 (by omega) (by omega)) hF2 (by omega) (by omega) (by omega)) (by omega)
    | succ m ih =>
      intro i o1 o2 σ2 hm h1 h2 hF e6 hE
      have hcc : 0 ≤ (i : Int) ∧ (i : Int) < 20 := by omega
      have hcd : 0 ≤ ((i - w : Nat) : Int) ∧ ((i - w : Nat) : Int) < 20 := by omega
      have ei : w32 ((i : Int) - (w : Int)) = ((i - w : Nat) : Int) := by rw [zw_id (by omega) (by omega)]; omega
      have hq := (hE i (by omega)).2 (Or.inr (by omega))
      rw [zj_8_7, e6, if_neg (by omega), ei, yAnd hcc, yAnd hcd, yAnd hcc, yAnd hcd, yAnd hcc, yAnd hcd, Int.toNat_natCast, Int.toNat_natCast, hq.1, hq.2.1, hq.2.2, zw_id (by omega) (by omega), show (i : Int) + 1 = ((i + 1 : Nat) : Int) by omega]
      have hF2 : yFr (fun k j => 55 ≤ k ∧ k ≤ 57) σ2 (sI (sI (sL σ2 55 (i - w) (r.2.1 i)) 56 (i - w) ((r.2.2.1 i : Nat) : Int)) 57 (i - w) (r.2.2.2 i)) := ((yFr.rf.L (by omega)).I (by omega)).I (by omega)
      refine ih (i + 1) _ _ _ (by omega) (by omega) (by omega) (hF.trans (hF2.mono (fun k j h => Or.inr h))) ((hF2.i (by omega)).trans e6) (fun j hj => ⟨fun j1 j2 => ?_, fun j1 => ?_⟩)
      · by_cases e : j = i - w
        · subst e
          rw [show i - w + w = i by omega]
          exact rwq_bw
        · exact rwq_bo e ((hE j hj).1 j1 (by omega))
      · exact rwq_bo (by omega) ((hE j hj).2 (by omega))
  rw [ze_8, ew]
  exact loop _ (s + w) _ _ σ rfl (Nat.le_refl _) hs yFr.rf h.1 (fun j hj => ⟨fun j1 j2 => by omega, fun _ => h.2 j hj⟩)
/-- room for w rows at s -/
def bOp (r : ROW) (s w : Nat) (σ : zW) : Prop := gI σ 54 6 = ((r.1 + w : Nat) : Int) ∧ (∀ j, j < s → rwr 55 56 57 σ j r j) ∧ ∀ j, s ≤ j → j < r.1 → rwr 55 56 57 σ (j + w) r j
theorem b_open {K : List zF} {r : ROW} {s w : Nat} {x y : Int} {σ : zW} (h : bR r σ) (hs : s ≤ r.1) (hw : r.1 + w ≤ 20) (hx : x = (s : Int)) (hy : y = (w : Int))
    (k : ∀ σ' : zW, yFr Xbn σ σ' → bOp r s w σ' → zRet true K none σ') : zEv true (zent 9 [.inr (.inr 54), .inl x, .inl y] :: K) σ := by
  subst hx
  subst hy
  have loop : ∀ (m i : Nat) (z : Int) (σ2 : zW), i - s = m → s ≤ i → i ≤ r.1 → z = (i : Int) - 1 → yFr Xbn σ σ2 → gI σ2 54 6 = (r.1 : Int) → (∀ j, j < i → rwr 55 56 57 σ2 j r j) → (∀ j, i ≤ j → j < r.1 → rwr 55 56 57 σ2 (j + w) r j) → zEv true ((9, 7, [some (.inr (.inr 54)), some (.inl (s : Int)), some (.inl (w : Int)), some (.inl z)], []) :: K) σ2 := by
    intro m
    induction m with
    | zero =>
      intro i z σ2 hm h1 h2 hz hF e6 hE hE2
      have hF2 : yFr (fun k j => k = 54 ∧ j = 6) σ2 (sI σ2 54 6 ((r.1 + w : Nat) : Int)) := yFr.rf.I ⟨rfl, rfl⟩
      rw [zj_9_7, e6, if_pos (by omega), zw_id (by omega) (by omega), show (r.1 : Int) + (w : Int) = ((r.1 + w : Nat) : Int) by omega]
      refine k _ (hF.trans (hF2.mono (fun k j h => Or.inl h))) ⟨yGI_hit, fun j hj => ?_, fun j j1 j2 => ?_⟩
      · exact rwq_fr (hE j (by omega)) hF2 (by omega) (by omega) (by omega)
      · exact rwq_fr (hE2 j (by omega) j2) hF2 (by omega) (by omega) (by omega)
    | succ m ih =>
      intro i z σ2 hm h1 h2 hz hF e6 hE hE2
      have hz2 : z = ((i - 1 : Nat) : Int) := by omega
      subst hz2
      have hcc : 0 ≤ ((i - 1 : Nat) : Int) ∧ ((i - 1 : Nat) : Int) < 20 := by omega
      have hcd : 0 ≤ ((i - 1 + w : Nat) : Int) ∧ ((i - 1 + w : Nat) : Int) < 20 := by omega
      have ei : w32 (((i - 1 : Nat) : Int) + (w : Int)) = ((i - 1 + w : Nat) : Int) := by rw [zw_id (by omega) (by omega)]; omega
      have hq := hE (i - 1) (by omega)
      rw [zj_9_7, if_neg (by omega), ei, yAnd hcc, yAnd hcd, yAnd hcc, yAnd hcd, yAnd hcc, yAnd hcd, Int.toNat_natCast, Int.toNat_natCast, hq.1, hq.2.1, hq.2.2]
      have hF2 : yFr (fun k j => 55 ≤ k ∧ k ≤ 57) σ2 (sI (sI (sL σ2 55 (i - 1 + w) (r.2.1 (i - 1))) 56 (i - 1 + w) ((r.2.2.1 (i - 1) : Nat) : Int)) 57 (i - 1 + w) (r.2.2.2 (i - 1))) := ((yFr.rf.L (by omega)).I (by omega)).I (by omega)
      refine ih (i - 1) _ _ (by omega) (by omega) (by omega) (by rw [zw_id (by omega) (by omega)]; omega) (hF.trans (hF2.mono (fun k j h => Or.inr h))) ((hF2.i (by omega)).trans e6) (fun j hj => rwq_bo (by omega) (hE j (by omega))) (fun j j1 j2 => ?_)
      by_cases e : j = i - 1
      · subst e; exact rwq_bw
      · exact rwq_bo (by omega) (hE2 j (by omega) j2)
  rw [ze_9, h.1]
  exact loop _ r.1 _ σ rfl hs (Nat.le_refl _) (by rw [zw_id (by omega) (by omega)]) yFr.rf h.1 h.2 (fun j j1 j2 => by omega)
theorem b_fill {r : ROW} {s w : Nat} {b : (Nat → Int64) × (Nat → Nat) × (Nat → Int)} {σ : zW} (h : bOp r s w σ) (hs : s ≤ r.1) (hb : ∀ i, i < w → rwq 55 56 57 σ (s + i) (b.1 i) (b.2.1 i) (b.2.2 i)) : bR (rin r s w b) σ := by
  refine ⟨h.1, fun i hi => ?_⟩
  have hi2 : i < r.1 + w := hi
  by_cases e : i < s
  · exact rwr_in_lo (h.2.1 i e) e
  · by_cases e2 : i < s + w
    · refine rwr_in_mid ?_ (by omega) e2
      have := hb (i - s) (by omega)
      rw [show s + (i - s) = i by omega] at this
      exact this
    · refine rwr_in_hi ?_ (by omega)
      have := h.2.2 (i - w) (by omega) (by omega)
      rw [show i - w + w = i by omega] at this
      exact this
theorem b_put {K : List zF} {r : ROW} {s d : Nat} {v : Int64} {fr x : Int} {σ : zW} (h : bOp r s 1 σ) (hs : s ≤ r.1) (hn : r.1 + 1 ≤ 20) (h8 : gI σ 54 8 = fr) (hfr : 0 ≤ fr ∧ fr < 1000) (hx : x = (s : Int))
    (k : ∀ σ' : zW, yFr (fun k j => Xbn k j ∨ (k = 54 ∧ j = 8)) σ σ' → bR (rin r s 1 (fun _ => v, fun _ => d, fun _ => fr)) σ' → gI σ' 54 8 = fr + 1 → zRet true K none σ') : zEv true (zent 10 [.inr (.inr 54), .inl x, .inr (.inl v), .inl ((d : Nat) : Int)] :: K) σ := by
  subst hx
  have hcc : 0 ≤ (s : Int) ∧ (s : Int) < 20 := by omega
  rw [ze_10, yAnd hcc, yAnd hcc, yAnd hcc, Int.toNat_natCast, h8, zw_id (by omega) (by omega)]
  have hF2 : yFr (fun k j => 55 ≤ k ∧ k ≤ 57 ∧ j = s) σ (sI (sI (sL σ 55 s v) 56 s ((d : Nat) : Int)) 57 s fr) := ((yFr.rf.L (by omega)).I (by omega)).I (by omega)
  have hq : rwq 55 56 57 (sI (sI (sL σ 55 s v) 56 s ((d : Nat) : Int)) 57 s fr) s v d fr := rwq_bw
  generalize sI (sI (sL σ 55 s v) 56 s ((d : Nat) : Int)) 57 s fr = σ2 at hF2 hq ⊢
  have hF3 : yFr (fun k j => k = 54 ∧ j = 8) σ2 (sI σ2 54 8 (fr + 1)) := yFr.rf.I ⟨rfl, rfl⟩
  refine k _ ((hF2.mono (fun k j h => by omega)).trans (hF3.mono (fun k j h => by omega))) (b_fill ⟨?_, fun j hj => ?_, fun j j1 j2 => ?_⟩ hs (fun i hi => ?_)) yGI_hit
  · rw [hF3.i (by omega), hF2.i (by omega)]; exact h.1
  · exact rwq_fr (rwq_fr (h.2.1 j hj) hF2 (by omega) (by omega) (by omega)) hF3 (by omega) (by omega) (by omega)
  · exact rwq_fr (rwq_fr (h.2.2 j j1 j2) hF2 (by omega) (by omega) (by omega)) hF3 (by omega) (by omega) (by omega)
  · rw [show i = 0 by omega]
    exact rwq_fr hq hF3 (by omega) (by omega) (by omega)
