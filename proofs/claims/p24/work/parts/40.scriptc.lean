/-! scripts read by the class -/
/-- a name of one small letter: where it isn't, or its number and where it ends -/
def nmR (f : Nat → Int) (L a : Nat) : Nat ⊕ (Int × Nat) := if wl f L (sk f L a) = 1 ∧ zsml (tb f L (sk f L a)) then .inr (tb f L (sk f L a) - 97, sk f L a + 1) else .inl (sk f L a)
def whR (f : Nat → Int) (L a : Nat) : Nat ⊕ (Int × Nat) := if whI f L (sk f L a) = -1 then .inl (sk f L a) else .inr (whI f L (sk f L a), sk f L a + wl f L (sk f L a))
/-- an edit: its kind, x, y, label, where -/
abbrev EDT : Type := Int × Int × Int × Int64 × Int
def edC (f : Nat → Int) (L : Nat) (k : Int) (a : Nat) : (Nat × Nat) ⊕ ((Int × Int) × Nat) :=
  if k = 4 ∨ k = 5 then match whR f L a with
    | .inl p => .inl (1, p)
    | .inr w => match nmR f L w.2 with
      | .inl p => .inl (1, p)
      | .inr y => .inr ((w.1, y.1), y.2)
  else .inr ((-1, -1), a)
def edB (f : Nat → Int) (L : Nat) (k : Int) (a : Nat) : (Nat × Nat) ⊕ ((Int64 × Int × Int) × Nat) :=
  if k = 0 ∨ k = 3 ∨ k = 4 then match rdl f L a with
    | .inl e => .inl e
    | .inr v => match edC f L k v.2 with
      | .inl e => .inl e
      | .inr r => .inr ((v.1, r.1), r.2)
  else match edC f L k a with
    | .inl e => .inl e
    | .inr r => .inr ((0, r.1), r.2)
def edA (f : Nat → Int) (L : Nat) (k : Int) (a : Nat) : (Nat × Nat) ⊕ (EDT × Nat) :=
  if k = 4 then match edB f L k a with
    | .inl e => .inl e
    | .inr r => .inr ((k, -1, r.1.2.2, r.1.1, r.1.2.1), r.2)
  else match nmR f L a with
    | .inl p => .inl (1, p)
    | .inr x => match edB f L k x.2 with
      | .inl e => .inl e
      | .inr r => .inr ((k, x.1, r.1.2.2, r.1.1, r.1.2.1), r.2)
def edR (f : Nat → Int) (L p c : Nat) : (Nat × Nat) ⊕ (EDT × Nat) :=
  if kdR f L p = -1 then .inl (1, p) else if 8 ≤ c then .inl (3, p) else edA f L (kdR f L p) (p + wl f L p)
def scR (f : Nat → Int) (L : Nat) : Nat → Nat → Nat → (Nat → EDT) → (Nat × Nat) ⊕ (Nat × (Nat → EDT))
  | 0, _, _, _ => .inl (0, 0)
  | n + 1, a, c, es => match edR f L (sk f L a) c with
    | .inl e => .inl e
    | .inr r => if tb f L (sk f L r.2) = -1 then .inr (c + 1, fup es c r.1) else if tb f L (sk f L r.2) = 59 then scR f L n (sk f L r.2 + 1) (c + 1) (fup es c r.1) else .inl (1, sk f L r.2)
/-- the script of a text -/
def sread (f : Nat → Int) (L : Nat) : (Nat × Nat) ⊕ (Nat × (Nat → EDT)) := if tb f L (sk f L 0) = -1 then .inr (0, fun _ => (0, 0, 0, 0, 0)) else scR f L 10 (sk f L 0) 0 (fun _ => (0, 0, 0, 0, 0))
theorem kwI_ge (v : Int64) (b : Nat) : ∀ n i, -1 ≤ kwI v b n i ∧ kwI v b n i < i + n ∧ (kwI v b n i = -1 ∨ (i : Int) ≤ kwI v b n i) := by
  intro n
  induction n with
  | zero => intro i; unfold kwI; omega
  | succ n ih =>
    intro i
    rw [kwI]
    split
    · omega
    · have := ih (i + 1)
      omega
theorem kdR_b (f : Nat → Int) (L p : Nat) : -1 ≤ kdR f L p ∧ kdR f L p < 6 := by
  unfold kdR
  split
  · have := kwI_ge (pk f p (wl f L p)) 0 6 0; omega
  · omega
theorem whI_b (f : Nat → Int) (L p : Nat) : -1 ≤ whI f L p ∧ whI f L p < 4 := by
  unfold whI
  split
  · have := kwI_ge (pk f p (wl f L p)) 6 4 0; omega
  · omega
theorem kdR_wl {f : Nat → Int} {L p : Nat} (h : kdR f L p ≠ -1) : 1 ≤ wl f L p ∧ wl f L p ≤ 6 := by
  unfold kdR at h
  split at h
  · assumption
  · exact absurd rfl h
theorem whI_wl {f : Nat → Int} {L p : Nat} (h : whI f L p ≠ -1) : 1 ≤ wl f L p ∧ wl f L p ≤ 6 := by
  unfold whI at h
  split at h
  · assumption
  · exact absurd rfl h
theorem wl_le {f : Nat → Int} {L p : Nat} (h : p ≤ L) : p + wl f L p ≤ L := by
  by_cases hz : zlet (tb f L p)
  · have := wl_pos hz; omega
  · rw [wl_zero hz]; exact h
theorem nmR_ok {f : Nat → Int} {L a q : Nat} {x : Int} (h : nmR f L a = .inr (x, q)) : sk f L a < L ∧ q = sk f L a + 1 ∧ 0 ≤ x ∧ x < 26 ∧ x = tb f L (sk f L a) - 97 ∧ wl f L (sk f L a) = 1 := by
  unfold nmR at h
  split at h
  · rename_i h1
    cases h
    have hz : zlet (tb f L (sk f L a)) := Or.inl h1.2
    have := wl_pos hz
    have := h1.2
    exact ⟨by omega, rfl, by omega, by omega, rfl, h1.1⟩
  · cases h
theorem whR_ok {f : Nat → Int} {L a q : Nat} {w : Int} (h : whR f L a = .inr (w, q)) (haL : a ≤ L) : sk f L a < q ∧ q ≤ L ∧ 0 ≤ w ∧ w < 4 ∧ w = whI f L (sk f L a) ∧ q = sk f L a + wl f L (sk f L a) := by
  unfold whR at h
  split at h
  · cases h
  · rename_i h1
    cases h
    have h2 := whI_wl h1
    have h3 := wl_le (f := f) (sk_le (f := f) haL)
    have h4 := whI_b f L (sk f L a)
    exact ⟨by omega, h3, by omega, by omega, rfl, rfl⟩
theorem c_name {K : List zF} (hK : K.length + 3 ≤ 60) {f : Nat → Int} {L a : Nat} {σ : zW} (hT : cT f L σ) (ha : gI σ 2 2 = (a : Int)) (haL : a ≤ L) : zEv true (zent 64 [.inr (.inr 2)] :: K) σ = (match nmR f L a with
    | .inl p => zRet true K (some (.inl (-1))) (sI (sI (sI σ 2 2 (p : Nat)) 2 3 1) 2 4 (p : Nat))
    | .inr r => zRet true K (some (.inl r.1)) (sI σ 2 2 (r.2 : Nat))) := by
  have h6 := hT.2.2.1
  have hs := sk_le (f := f) haL
  have hT2 : cT f L (sI σ 2 2 (sk f L a : Nat)) := cT_u hT (by omega)
  have ha2 : gI (sI σ 2 2 (sk f L a : Nat)) 2 2 = (sk f L a : Nat) := yGI_hit
  rw [ze_64 (by omega), c_next (yL (by omega)) hT ha, zr_64_4 (by omega), c_wl (yL (by omega)) hT2 ha2, zr_64_9 (by omega)]
  unfold nmR
  have bad : ∀ o1 : Option zV, zEv true ((64, 20, [some (.inr (.inr 2)), o1], []) :: K) (sI σ 2 2 (sk f L a : Nat)) = zRet true K (some (.inl (-1))) (sI (sI (sI σ 2 2 (sk f L a : Nat)) 2 3 1) 2 4 (sk f L a : Nat)) := by
    intro o1
    rw [zj_64_20 (by omega), c_fail, zr_64_29, ha2]
  by_cases h1 : wl f L (sk f L a) = 1
  · rw [if_neg (by omega), c_isSmall, zr_64_17]
    by_cases h2 : zsml (tb f L (sk f L a))
    · have hz : zlet (tb f L (sk f L a)) := Or.inl h2
      have := wl_pos hz
      rw [if_pos (by rw [if_pos h2]; omega), if_pos ⟨h1, h2⟩, ha2, zw_id (by omega) (by omega), zw_id (by omega) (by omega), sI_sI]
      rfl
    · rw [if_neg (by rw [if_neg h2]; omega), if_neg (fun w => h2 w.2), bad]
  · rw [if_pos (by omega), if_neg (fun w => h1 w.1), bad]
theorem c_where {K : List zF} (hK : K.length + 4 ≤ 60) {f : Nat → Int} {L a : Nat} {σ : zW} (hT : cT f L σ) (ha : gI σ 2 2 = (a : Int)) (haL : a ≤ L) : zEv true (zent 62 [.inr (.inr 2)] :: K) σ = (match whR f L a with
    | .inl p => zRet true K (some (.inl (-1))) (sI (sI (sI σ 2 2 (p : Nat)) 2 3 1) 2 4 (p : Nat))
    | .inr r => zRet true K (some (.inl r.1)) (sI σ 2 2 (r.2 : Nat))) := by
  have h6 := hT.2.2.1
  have hs := sk_le (f := f) haL
  have hT2 : cT f L (sI σ 2 2 (sk f L a : Nat)) := cT_u hT (by omega)
  have ha2 : gI (sI σ 2 2 (sk f L a : Nat)) 2 2 = (sk f L a : Nat) := yGI_hit
  rw [ze_62 (by omega), c_next (yL (by omega)) hT ha, zr_62_4 (by omega), c_whereAt (yL (by omega)) hT2 ha2, zr_62_9 (by omega)]
  unfold whR
  by_cases h1 : whI f L (sk f L a) = -1
  · rw [if_neg (fun w => w h1), if_pos h1, c_fail, zr_62_24, ha2]
  · have h3 := wl_le (f := f) hs
    rw [if_pos h1, if_neg h1, ha2, c_wl (yL (by omega)) hT2 ha2, zr_62_36, zw_id (by omega) (by omega), sI_sI]
    rfl
abbrev Xsc (t c : Nat) : Nat → Nat → Prop := fun k j => (k = 2 ∧ 2 ≤ j ∧ j ≤ 4) ∨ (t + 1 ≤ k ∧ k ≤ t + 5 ∧ j = c) ∨ (k = t ∧ j = 5)
theorem zSc_b {t : Nat} (h : zSc t) : t = 110 ∨ t = 116 := h
/-- the row of an edit -/
def cEd (t c : Nat) (d : EDT) (σ : zW) : Prop := gI σ (t + 1) c = d.1 ∧ gI σ (t + 2) c = d.2.1 ∧ gI σ (t + 3) c = d.2.2.1 ∧ gL σ (t + 4) c = d.2.2.2.1 ∧ gI σ (t + 5) c = d.2.2.2.2
theorem c_edC {K : List zF} (hK : K.length + 5 ≤ 60) {f : Nat → Int} {L a t c : Nat} {k x : Int} {v : Int64} {o2 : Option zV} {σ : zW} (hs : zSc t) (hT : cT f L σ) (ha : gI σ 2 2 = (a : Int)) (haL : a ≤ L) (hc : c < 8) (hk0 : 0 ≤ k) (hE : cEd t c (k, x, -1, v, -1) σ)
    (k0 : ∀ (σ' : zW) (e : Nat × Nat), edC f L k a = .inl e → yFr (Xsc t c) σ σ' → gI σ' 2 3 = (e.1 : Nat) → gI σ' 2 4 = (e.2 : Nat) → gI σ' t 5 = gI σ t 5 → zRet true K (some (.inl 0)) σ')
    (k1 : ∀ (σ' : zW) (r : (Int × Int) × Nat), edC f L k a = .inr r → yFr (Xsc t c) σ σ' → gI σ' 2 3 = gI σ 2 3 → gI σ' 2 4 = gI σ 2 4 → gI σ' 2 2 = (r.2 : Nat) → gI σ' t 5 = gI σ t 5 → cEd t c (k, x, r.1.2, v, r.1.1) σ' → zRet true K (some (.inl 1)) σ') :
    zEv true ((60, 173, [some (.inr (.inr t)), some (.inr (.inr 2)), o2, some (.inl (c : Int))], []) :: K) σ := by
  obtain ⟨e1, e2, e3, e4, e5⟩ := hE
  simp only at e1 e2 e3 e4 e5
  have hb := zSc_b hs
  have h6 := hT.2.2.1
  have hcc : 0 ≤ (c : Int) ∧ (c : Int) < 8 := by omega
  rw [zj_60_173 (by omega) hs, ze_58 hs, yAnd hcc, Int.toNat_natCast, e1]
  unfold edC at k0 k1
  by_cases h4 : k = 4 ∨ k = 5
  · rw [if_pos h4] at k0 k1
    have go : zRet true ((60, 178, [some (.inr (.inr t)), some (.inr (.inr 2)), o2, some (.inl (c : Int))], []) :: K) (some (.inl 1)) σ := by
      rw [zr_60_178 (by omega) hs, if_pos (by omega), c_where (yKK (by omega)) hT ha haL]
      cases hw : whR f L a with
      | inl p =>
        rw [hw] at k0
        simp only
        rw [zr_60_192 (by omega) hs hs, yAnd hcc, yAnd hcc, Int.toNat_natCast, yGI_hit, if_neg (fun w => w rfl), yAnd hcc, yAnd hcc, if_pos rfl]
        refine k0 _ (1, p) rfl (((((yFr.rf.I ?_).I ?_).I ?_).I ?_).I ?_) ?_ ?_ ?_ <;> first | omega | (simp (disch := omega) only [if_pos, if_neg, yAnd, Int.toNat_natCast, zw_id, gI_sI, gI_sL, gI_sR, gL_sI, gL_sL, gL_sR, gR_sI, gR_sL, gR_sR, true_and, and_true, and_self, ite_true, ite_false, ite_self, not_true_eq_false, not_false_eq_true, or_true, true_or, or_false, false_or, yB0, yB1, Decidable.not_not]; done) | (simp (disch := omega) only [if_pos, if_neg, yAnd, Int.toNat_natCast, zw_id, gI_sI, gI_sL, gI_sR, gL_sI, gL_sL, gL_sR, gR_sI, gR_sL, gR_sR, true_and, and_true, and_self, ite_true, ite_false, ite_self, not_true_eq_false, not_false_eq_true, or_true, true_or, or_false, false_or, yB0, yB1, Decidable.not_not]; rfl) | (simp (disch := omega) only [if_pos, if_neg, yAnd, Int.toNat_natCast, zw_id, gI_sI, gI_sL, gI_sR, gL_sI, gL_sL, gL_sR, gR_sI, gR_sL, gR_sR, true_and, and_true, and_self, ite_true, ite_false, ite_self, not_true_eq_false, not_false_eq_true, or_true, true_or, or_false, false_or, yB0, yB1, Decidable.not_not]; omega)
      | inr r =>
        obtain ⟨w, q⟩ := r
        rw [hw] at k0 k1
        simp only at k0 k1 ⊢
        obtain ⟨g1, g2, g3, g4, -⟩ := whR_ok hw haL
        rw [zr_60_192 (by omega) hs hs, yAnd hcc, yAnd hcc, Int.toNat_natCast, yGI_hit, if_pos (by omega), c_name (yKK (by omega)) (cT_u (cT_u hT (by omega)) (by omega)) (by simp (disch := omega) only [if_pos, if_neg, yAnd, Int.toNat_natCast, zw_id, gI_sI, gI_sL, gI_sR, gL_sI, gL_sL, gL_sR, gR_sI, gR_sL, gR_sR, true_and, and_true, and_self, ite_true, ite_false, ite_self, not_true_eq_false, not_false_eq_true, or_true, true_or, or_false, false_or, yB0, yB1, Decidable.not_not]) g2]
        cases hn : nmR f L q with
        | inl p =>
          rw [hn] at k0
          simp only
          rw [zr_60_216 hs hs, yAnd hcc, yAnd hcc, Int.toNat_natCast, yGI_hit, if_pos rfl]
          refine k0 _ (1, p) rfl ((((((yFr.rf.I ?_).I ?_).I ?_).I ?_).I ?_).I ?_) ?_ ?_ ?_ <;> first | omega | (simp (disch := omega) only [if_pos, if_neg, yAnd, Int.toNat_natCast, zw_id, gI_sI, gI_sL, gI_sR, gL_sI, gL_sL, gL_sR, gR_sI, gR_sL, gR_sR, true_and, and_true, and_self, ite_true, ite_false, ite_self, not_true_eq_false, not_false_eq_true, or_true, true_or, or_false, false_or, yB0, yB1, Decidable.not_not]; done) | (simp (disch := omega) only [if_pos, if_neg, yAnd, Int.toNat_natCast, zw_id, gI_sI, gI_sL, gI_sR, gL_sI, gL_sL, gL_sR, gR_sI, gR_sL, gR_sR, true_and, and_true, and_self, ite_true, ite_false, ite_self, not_true_eq_false, not_false_eq_true, or_true, true_or, or_false, false_or, yB0, yB1, Decidable.not_not]; rfl) | (simp (disch := omega) only [if_pos, if_neg, yAnd, Int.toNat_natCast, zw_id, gI_sI, gI_sL, gI_sR, gL_sI, gL_sL, gL_sR, gR_sI, gR_sL, gR_sR, true_and, and_true, and_self, ite_true, ite_false, ite_self, not_true_eq_false, not_false_eq_true, or_true, true_or, or_false, false_or, yB0, yB1, Decidable.not_not]; omega)
        | inr r2 =>
          obtain ⟨y, q2⟩ := r2
          rw [hn] at k1
          simp only at k1 ⊢
          obtain ⟨n1, n2, n3, n4, -⟩ := nmR_ok hn
          rw [zr_60_216 hs hs, yAnd hcc, yAnd hcc, Int.toNat_natCast, yGI_hit, if_neg (by omega)]
          refine k1 _ ((w, y), q2) rfl ((((yFr.rf.I ?_).I ?_).I ?_).I ?_) ?_ ?_ ?_ ?_ ⟨?e1, ?e2, ?e3, ?e4, ?e5⟩
          case e1 => show gI _ _ _ = k; simp (disch := omega) only [e1, if_pos, if_neg, yAnd, Int.toNat_natCast, zw_id, gI_sI, gI_sL, gI_sR, gL_sI, gL_sL, gL_sR, gR_sI, gR_sL, gR_sR, true_and, and_true, and_self, ite_true, ite_false, ite_self, not_true_eq_false, not_false_eq_true, or_true, true_or, or_false, false_or, yB0, yB1, Decidable.not_not]
          case e2 => show gI _ _ _ = x; simp (disch := omega) only [e2, if_pos, if_neg, yAnd, Int.toNat_natCast, zw_id, gI_sI, gI_sL, gI_sR, gL_sI, gL_sL, gL_sR, gR_sI, gR_sL, gR_sR, true_and, and_true, and_self, ite_true, ite_false, ite_self, not_true_eq_false, not_false_eq_true, or_true, true_or, or_false, false_or, yB0, yB1, Decidable.not_not]
          case e3 => show gI _ _ _ = y; simp (disch := omega) only [if_pos, if_neg, yAnd, Int.toNat_natCast, zw_id, gI_sI, gI_sL, gI_sR, gL_sI, gL_sL, gL_sR, gR_sI, gR_sL, gR_sR, true_and, and_true, and_self, ite_true, ite_false, ite_self, not_true_eq_false, not_false_eq_true, or_true, true_or, or_false, false_or, yB0, yB1, Decidable.not_not]
          case e4 => show gL _ _ _ = v; simp (disch := omega) only [e4, if_pos, if_neg, yAnd, Int.toNat_natCast, zw_id, gI_sI, gI_sL, gI_sR, gL_sI, gL_sL, gL_sR, gR_sI, gR_sL, gR_sR, true_and, and_true, and_self, ite_true, ite_false, ite_self, not_true_eq_false, not_false_eq_true, or_true, true_or, or_false, false_or, yB0, yB1, Decidable.not_not]
          case e5 => show gI _ _ _ = w; simp (disch := omega) only [if_pos, if_neg, yAnd, Int.toNat_natCast, zw_id, gI_sI, gI_sL, gI_sR, gL_sI, gL_sL, gL_sR, gR_sI, gR_sL, gR_sR, true_and, and_true, and_self, ite_true, ite_false, ite_self, not_true_eq_false, not_false_eq_true, or_true, true_or, or_false, false_or, yB0, yB1, Decidable.not_not]
          all_goals first | omega | (simp (disch := omega) only [if_pos, if_neg, yAnd, Int.toNat_natCast, zw_id, gI_sI, gI_sL, gI_sR, gL_sI, gL_sL, gL_sR, gR_sI, gR_sL, gR_sR, true_and, and_true, and_self, ite_true, ite_false, ite_self, not_true_eq_false, not_false_eq_true, or_true, true_or, or_false, false_or, yB0, yB1, Decidable.not_not]; done) | (simp (disch := omega) only [if_pos, if_neg, yAnd, Int.toNat_natCast, zw_id, gI_sI, gI_sL, gI_sR, gL_sI, gL_sL, gL_sR, gR_sI, gR_sL, gR_sR, true_and, and_true, and_self, ite_true, ite_false, ite_self, not_true_eq_false, not_false_eq_true, or_true, true_or, or_false, false_or, yB0, yB1, Decidable.not_not]; rfl) | (simp (disch := omega) only [if_pos, if_neg, yAnd, Int.toNat_natCast, zw_id, gI_sI, gI_sL, gI_sR, gL_sI, gL_sL, gL_sR, gR_sI, gR_sL, gR_sR, true_and, and_true, and_self, ite_true, ite_false, ite_self, not_true_eq_false, not_false_eq_true, or_true, true_or, or_false, false_or, yB0, yB1, Decidable.not_not]; omega)
    by_cases h5 : k = 4
    · rw [if_pos h5]; exact go
    · rw [if_neg h5, yAnd hcc, if_neg (by omega)]; exact go
  · rw [if_neg h4] at k1
    rw [if_neg (by omega), yAnd hcc, if_pos (by omega), zr_60_178 (by omega) hs, if_neg (fun w => w rfl)]
    exact k1 σ ((-1, -1), a) rfl yFr.rf rfl rfl ha rfl ⟨e1, e2, e3, e4, e5⟩
