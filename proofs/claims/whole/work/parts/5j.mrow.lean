/-! the model's rows -/
theorem rwq_mw {σ : zW} {j y : Nat} {x : Int64} {z : Int} : rwq 181 180 179 (sL (sI (sI σ 179 j z) 180 j (y : Int)) 181 j x) j x y z := by
  refine ⟨?_, ?_, ?_⟩
  · rw [gL_sL, if_pos ⟨rfl, rfl⟩]
  · rw [gI_sL, yGI_hit]
  · rw [gI_sL, gI_sI, if_neg (by omega), yGI_hit]
theorem rwq_mo {σ : zW} {j a y' : Nat} {x x' : Int64} {y z z' : Int} (h : a ≠ j) (hq : rwq 181 180 179 σ a x' y' z') : rwq 181 180 179 (sL (sI (sI σ 179 j z) 180 j y) 181 j x) a x' y' z' := by
  refine ⟨?_, ?_, ?_⟩
  · rw [gL_sL, if_neg (fun w => h w.2), gL_sI, gL_sI]; exact hq.1
  · rw [gI_sL, gI_sI, if_neg (fun w => h w.2), gI_sI, if_neg (by omega)]; exact hq.2.1
  · rw [gI_sL, gI_sI, if_neg (by omega), gI_sI, if_neg (fun w => h w.2)]; exact hq.2.2
abbrev Xmr : Nat → Nat → Prop := fun k j => (k = 122 ∧ j = 77) ∨ (179 ≤ k ∧ k ≤ 181)
theorem m_close {K : List zF} {r : ROW} {s w : Nat} {x y : Int} {σ : zW} (h : mRw r σ) (hn : r.1 ≤ 20) (hs : s + w ≤ r.1) (hw : 0 < w) (hx : x = (s : Int)) (hy : y = -(w : Int))
    (k : ∀ σ' : zW, yFr Xmr σ σ' → mRw (rcl r s w) σ' → zRet true K none σ') : zEv true (zent 225 [.inr (.inr 122), .inl x, .inl y] :: K) σ := by
  subst hx
  subst hy
  have hr : ∀ i, i < r.1 → rwr 181 180 179 σ i r i := h.2
  have loop : ∀ (m i : Nat) (o1 : Option zV) (σ2 : zW), r.1 - w - i = m → s ≤ i → i ≤ r.1 - w → yFr Xmr σ σ2 → gI σ2 122 77 = (r.1 : Int) → (∀ j, j < r.1 → (s ≤ j → j < i → rwr 181 180 179 σ2 j r (j + w)) ∧ ((j < s ∨ i ≤ j) → rwr 181 180 179 σ2 j r j)) → zEv true ((225, 66, [some (.inr (.inr 122)), o1, some (.inl (-(w : Int))), some (.inl (i : Int))], []) :: K) σ2 := by
    intro m
    induction m with
    | zero =>
      intro i o1 σ2 hm h1 h2 hF e77 hE
      have hF2 : yFr (fun k j => k = 122 ∧ j = 77) σ2 (sI σ2 122 77 ((r.1 - w : Nat) : Int)) := yFr.rf.I ⟨rfl, rfl⟩
      have ew : w32 ((r.1 : Int) + -(w : Int)) = ((r.1 - w : Nat) : Int) := by rw [zw_id (by omega) (by omega)]; omega
      rw [zj_225_66, e77, ew, if_pos (by omega), zj_225_128, e77, ew]
      refine k _ (hF.trans (hF2.mono (fun k j h => Or.inl h))) ⟨yGI_hit, fun j hj => ?_⟩
      have hj2 : j < r.1 - w := hj
      by_cases e : j < s
      · exact rwr_cl_lo (rwq_fr ((hE j (by omega)).2 (Or.inl e)) hF2 (by omega) (by omega) (by omega)) e
      · exact rwr_cl_hi (rwq_fr ((hE j (by omega)).1 (by omega) (by omega)) hF2 (by omega) (by omega) (by omega)) (by omega)
    | succ m ih =>
      intro i o1 σ2 hm h1 h2 hF e77 hE
      have hcc : 0 ≤ (i : Int) ∧ (i : Int) < 24 := by omega
      have hcd : 0 ≤ ((i + w : Nat) : Int) ∧ ((i + w : Nat) : Int) < 24 := by omega
      have ei : w32 ((i : Int) - -(w : Int)) = ((i + w : Nat) : Int) := by rw [zw_id (by omega) (by omega)]; omega
      have ew : w32 ((r.1 : Int) + -(w : Int)) = ((r.1 - w : Nat) : Int) := by rw [zw_id (by omega) (by omega)]; omega
      have hq := (hE (i + w) (by omega)).2 (Or.inr (by omega))
      rw [zj_225_66, e77, ew, if_neg (by omega), if_neg (by omega), ei, yAnd hcd, yAnd hcc, yAnd hcd, yAnd hcc, yAnd hcd, yAnd hcc, Int.toNat_natCast, Int.toNat_natCast, hq.1, hq.2.1, hq.2.2, zw_id (by omega) (by omega), show (i : Int) + 1 = ((i + 1 : Nat) : Int) by omega]
      have hF2 : yFr (fun k j => 179 ≤ k ∧ k ≤ 181) σ2 (sL (sI (sI σ2 179 i (r.2.2.2 (i + w))) 180 i ((r.2.2.1 (i + w) : Nat) : Int)) 181 i (r.2.1 (i + w))) := ((yFr.rf.I (by omega)).I (by omega)).L (by omega)
      refine ih (i + 1) _ _ (by omega) (by omega) (by omega) (hF.trans (hF2.mono (fun k j h => Or.inr h))) ((hF2.i (by omega)).trans e77) (fun j hj => ⟨fun j1 j2 => ?_, fun j1 => ?_⟩)
      · by_cases e : j = i
        · subst e; exact rwq_mw
        · exact rwq_mo e ((hE j hj).1 j1 (by omega))
      · exact rwq_mo (by omega) ((hE j hj).2 (by omega))
  have h64 : ∀ o3 : Option zV, zEv true ((225, 64, [some (.inr (.inr 122)), some (.inl (s : Int)), some (.inl (-(w : Int))), o3], []) :: K) σ := fun o3 => by
    rw [zj_225_64]
    exact loop _ s _ σ rfl (Nat.le_refl _) (by omega) yFr.rf h.1 (fun j hj => ⟨fun j1 j2 => by omega, fun _ => hr j hj⟩)
  rw [ze_225, zj_225_7]
  split
  · exact h64 _
  · rw [if_pos (by omega)]; exact h64 _
/-- room for w rows at s -/
def mOp (r : ROW) (s w : Nat) (σ : zW) : Prop := gI σ 122 77 = ((r.1 + w : Nat) : Int) ∧ (∀ j, j < s → rwr 181 180 179 σ j r j) ∧ ∀ j, s ≤ j → j < r.1 → rwr 181 180 179 σ (j + w) r j
theorem m_open {K : List zF} {r : ROW} {s w : Nat} {x y : Int} {σ : zW} (h : mRw r σ) (hs : s ≤ r.1) (hw : r.1 + w ≤ 20) (hw0 : 0 < w) (hx : x = (s : Int)) (hy : y = (w : Int))
    (k : ∀ σ' : zW, yFr Xmr σ σ' → mOp r s w σ' → zRet true K none σ') : zEv true (zent 225 [.inr (.inr 122), .inl x, .inl y] :: K) σ := by
  subst hx
  subst hy
  have hr : ∀ i, i < r.1 → rwr 181 180 179 σ i r i := h.2
  have loop : ∀ (m i : Nat) (z : Int) (σ2 : zW), i - s = m → s ≤ i → i ≤ r.1 → z = (i : Int) - 1 → yFr Xmr σ σ2 → gI σ2 122 77 = (r.1 : Int) → (∀ j, j < i → rwr 181 180 179 σ2 j r j) → (∀ j, i ≤ j → j < r.1 → rwr 181 180 179 σ2 (j + w) r j) → zEv true ((225, 7, [some (.inr (.inr 122)), some (.inl (s : Int)), some (.inl (w : Int)), some (.inl z)], []) :: K) σ2 := by
    intro m
    induction m with
    | zero =>
      intro i z σ2 hm h1 h2 hz hF e77 hE hE2
      have hF2 : yFr (fun k j => k = 122 ∧ j = 77) σ2 (sI σ2 122 77 ((r.1 + w : Nat) : Int)) := yFr.rf.I ⟨rfl, rfl⟩
      have ew : w32 ((r.1 : Int) + (w : Int)) = ((r.1 + w : Nat) : Int) := by rw [zw_id (by omega) (by omega)]; omega
      rw [zj_225_7, if_pos (by omega), zj_225_64, zj_225_66, e77, ew, if_neg (by omega), if_pos (by omega), zj_225_128, e77, ew]
      refine k _ (hF.trans (hF2.mono (fun k j h => Or.inl h))) ⟨yGI_hit, fun j hj => ?_, fun j j1 j2 => ?_⟩
      · exact rwq_fr (hE j (by omega)) hF2 (by omega) (by omega) (by omega)
      · exact rwq_fr (hE2 j (by omega) j2) hF2 (by omega) (by omega) (by omega)
    | succ m ih =>
      intro i z σ2 hm h1 h2 hz hF e77 hE hE2
      have hz2 : z = ((i - 1 : Nat) : Int) := by omega
      subst hz2
      have hcc : 0 ≤ ((i - 1 : Nat) : Int) ∧ ((i - 1 : Nat) : Int) < 24 := by omega
      have hcd : 0 ≤ ((i - 1 + w : Nat) : Int) ∧ ((i - 1 + w : Nat) : Int) < 24 := by omega
      have ei : w32 (((i - 1 : Nat) : Int) + (w : Int)) = ((i - 1 + w : Nat) : Int) := by rw [zw_id (by omega) (by omega)]; omega
      have hq := hE (i - 1) (by omega)
      rw [zj_225_7, if_neg (by omega), if_neg (by omega), ei, yAnd hcc, yAnd hcd, yAnd hcc, yAnd hcd, yAnd hcc, yAnd hcd, Int.toNat_natCast, Int.toNat_natCast, hq.1, hq.2.1, hq.2.2]
      have hF2 : yFr (fun k j => 179 ≤ k ∧ k ≤ 181) σ2 (sL (sI (sI σ2 179 (i - 1 + w) (r.2.2.2 (i - 1))) 180 (i - 1 + w) ((r.2.2.1 (i - 1) : Nat) : Int)) 181 (i - 1 + w) (r.2.1 (i - 1))) := ((yFr.rf.I (by omega)).I (by omega)).L (by omega)
      refine ih (i - 1) _ _ (by omega) (by omega) (by omega) (by rw [zw_id (by omega) (by omega)]; omega) (hF.trans (hF2.mono (fun k j h => Or.inr h))) ((hF2.i (by omega)).trans e77) (fun j hj => rwq_mo (by omega) (hE j (by omega))) (fun j j1 j2 => ?_)
      by_cases e : j = i - 1
      · subst e; exact rwq_mw
      · exact rwq_mo (by omega) (hE2 j (by omega) j2)
  rw [ze_225, h.1]
  exact loop _ r.1 _ σ rfl hs (Nat.le_refl _) (by rw [zw_id (by omega) (by omega)]) yFr.rf h.1 hr (fun j j1 j2 => by omega)
theorem m_fill {r : ROW} {s w : Nat} {b : (Nat → Int64) × (Nat → Nat) × (Nat → Int)} {σ : zW} (h : mOp r s w σ) (hs : s ≤ r.1) (hb : ∀ i, i < w → rwq 181 180 179 σ (s + i) (b.1 i) (b.2.1 i) (b.2.2 i)) : mRw (rin r s w b) σ := by
  refine ⟨h.1, fun i hi => ?_⟩
  have hi2 : i < r.1 + w := hi
  show rwr 181 180 179 σ i (rin r s w b) i
  by_cases e : i < s
  · exact rwr_in_lo (h.2.1 i e) e
  · by_cases e2 : i < s + w
    · refine rwr_in_mid ?_ (by omega) e2
      have := hb (i - s) (by omega)
      rw [show s + (i - s) = i by omega] at this
      exact this
    · refine rwr_in_hi ?_ (by omega)
      have := h.2.2 (i - w) (by omega) (by omega)
      rw [show i - w + w = i by omega] at this
      exact this
theorem m_insert {K : List zF} (hK : K.length + 1 ≤ 60) {r : ROW} {s d : Nat} {v : Int64} {fr x y : Int} {σ : zW} (hR : mRw r σ) (hs : s ≤ r.1) (hn : r.1 + 1 ≤ 20) (h85 : gI σ 122 85 = fr) (hfr : 0 ≤ fr ∧ fr < 1000) (hx : x = (s : Int)) (hy : y = (d : Int))
    (k : ∀ σ' : zW, yFr (fun k j => Xmr k j ∨ (k = 122 ∧ j = 85)) σ σ' → mRw (rin r s 1 (fun _ => v, fun _ => d, fun _ => fr)) σ' → gI σ' 122 85 = fr + 1 → zRet true K none σ') : zEv true (zent 226 [.inr (.inr 122), .inl x, .inl y, .inr (.inl v)] :: K) σ := by
  subst hx
  subst hy
  have hcc : 0 ≤ (s : Int) ∧ (s : Int) < 24 := by omega
  rw [ze_226 (by omega)]
  refine m_open (s := s) (w := 1) hR hs hn (by omega) rfl rfl (fun σ1 hF1 h => ?_)
  rw [zr_226_6, yAnd hcc, yAnd hcc, yAnd hcc, Int.toNat_natCast, (hF1.i (k := 122) (j := 85) (by omega)).trans h85, zw_id (by omega) (by omega)]
  have hF2 : yFr (fun k j => 179 ≤ k ∧ k ≤ 181 ∧ j = s) σ1 (sL (sI (sI σ1 179 s fr) 180 s ((d : Nat) : Int)) 181 s v) := ((yFr.rf.I (by omega)).I (by omega)).L (by omega)
  have hq : rwq 181 180 179 (sL (sI (sI σ1 179 s fr) 180 s ((d : Nat) : Int)) 181 s v) s v d fr := rwq_mw
  generalize sL (sI (sI σ1 179 s fr) 180 s ((d : Nat) : Int)) 181 s v = σ2 at hF2 hq ⊢
  have hF3 : yFr (fun k j => k = 122 ∧ j = 85) σ2 (sI σ2 122 85 (fr + 1)) := yFr.rf.I ⟨rfl, rfl⟩
  refine k _ ((hF1.mono (fun k j h => by omega)).trans ((hF2.mono (fun k j h => by omega)).trans (hF3.mono (fun k j h => by omega)))) (m_fill ⟨?_, fun j hj => ?_, fun j j1 j2 => ?_⟩ hs (fun i hi => ?_)) yGI_hit
  · rw [hF3.i (by omega), hF2.i (by omega)]; exact h.1
  · exact rwq_fr (rwq_fr (h.2.1 j hj) hF2 (by omega) (by omega) (by omega)) hF3 (by omega) (by omega) (by omega)
  · exact rwq_fr (rwq_fr (h.2.2 j j1 j2) hF2 (by omega) (by omega) (by omega)) hF3 (by omega) (by omega) (by omega)
  · rw [show i = 0 by omega]
    exact rwq_fr hq hF3 (by omega) (by omega) (by omega)
theorem m_spot {K : List zF} {r : ROW} {fr x z : Int} {σ : zW} (hR : mRw r σ) (hg : rgd r fr) (hz : spI r x z) : zEv true (zent 221 [.inr (.inr 122), .inl x] :: K) σ = zRet true K (some (.inl z)) σ := by
  obtain ⟨n, lab, dep, id⟩ := r
  obtain ⟨r1, r2⟩ := hR
  have hn := hg.1.1
  have hu := hg.2.2.2.2
  simp only at r1 hn hu
  have r2 : ∀ i, i < n → gL σ 181 i = lab i ∧ gI σ 180 i = (dep i : Nat) ∧ gI σ 179 i = id i := r2
  -- what has been met so far
  have loop : ∀ (m i : Nat) (y : Int), n - i = m → i ≤ n → ((y = z ∧ ∀ j, i ≤ j → j < n → id j ≠ x) ∨ (∃ j : Nat, i ≤ j ∧ j < n ∧ id j = x)) → zEv true ((221, 4, [some (.inr (.inr 122)), some (.inl x), some (.inl y), some (.inl (i : Int))], []) :: K) σ = zRet true K (some (.inl z)) σ := by
    intro m
    induction m with
    | zero =>
      intro i y hm hi hv
      rw [zj_221_4, r1, if_pos (by omega)]
      rcases hv with ⟨h1, -⟩ | ⟨j, j1, j2, -⟩
      · rw [h1]
      · omega
    | succ m ih =>
      intro i y hm hi hv
      have hcc : 0 ≤ (i : Int) ∧ (i : Int) < 24 := by omega
      have b1 : n - (i + 1) = m := by clear hv hz; omega
      have b2 : i + 1 ≤ n := by clear hv hz; omega
      rw [zj_221_4, r1, if_neg (by omega), yAnd hcc, Int.toNat_natCast, (r2 i (by omega)).2.2, zw_id (by omega) (by omega), show (i : Int) + 1 = ((i + 1 : Nat) : Int) by omega]
      by_cases e : id i = x
      · rw [if_neg (fun w => w e)]
        refine ih (i + 1) _ b1 b2 (Or.inl ⟨?_, fun j j1 j2 w => ?_⟩)
        · rcases hz with ⟨j, j1, j2, j3⟩ | ⟨h1, -⟩
          · rw [j3, hu i j (by omega) j1 (by rw [e]; exact j2.symm)]
          · exact absurd e (h1 i (by show i < n; omega))
        · have := hu j i j2 (by omega) (by rw [w, e]); omega
      · rw [if_pos e]
        refine ih (i + 1) _ b1 b2 ?_
        rcases hv with ⟨h1, h2⟩ | ⟨j, j1, j2, j3⟩
        · exact Or.inl ⟨h1, fun j j1 j2 => h2 j (by omega) j2⟩
        · exact Or.inr ⟨j, by rcases Nat.lt_or_ge i j with q | q; omega; exact absurd (by rw [show i = j by omega]; exact j3) e, j2, j3⟩
  rw [ze_221]
  refine loop n 0 (-1) rfl (Nat.zero_le _) ?_
  rcases hz with ⟨j, j1, j2, j3⟩ | ⟨h1, h2⟩
  · exact Or.inr ⟨j, Nat.zero_le _, j1, j2⟩
  · exact Or.inl ⟨h2.symm, fun j _ j2 => h1 j j2⟩
theorem ed_root {n : Nat} {dep : Nat → Nat} (h : wfd n dep) (hn : 0 < n) : ed dep n 0 = n := by
  obtain ⟨s1, s2, s3, s4⟩ := ed_spec (dep := dep) hn
  rcases Nat.lt_or_ge (ed dep n 0) n with q | q
  · have a1 := s4 q
    have a2 := h.2.1 hn
    have a3 := wfd_pos h q (by omega)
    omega
  · omega
theorem m_tidies {K : List zF} (hK : K.length + 2 ≤ 60) {fr : Int} : ∀ (f : Nat) (r : ROW) (s : Nat) (o1 o3 : Option zV) (σ : zW), s ≤ f → s < r.1 → rgd r fr → mRw r σ →
    (∀ σ' : zW, yFr Xmr σ σ' → mRw (prn f r s).1 σ' → zRet true K (some (.inl (if 0 < (prn f r s).2 ∨ 1 < (prn f r s).1.1 then 1 else 0))) σ') →
    zEv true ((227, 2, [some (.inr (.inr 122)), o1, some (.inl (s : Int)), o3], []) :: K) σ := by
  intro f
  induction f with
  | zero =>
    intro r s o1 o3 σ hf hs hg hR k
    have hn := hg.2.1
    have hn2 := hg.1.1
    have hk := k σ yFr.rf hR
    have e : prn 0 r s = (r, s) := rfl
    rw [e] at hk
    simp only at hk
    have hsg := m_isSingle (K := (227, 40, [some (.inr (.inr 122)), o1, some (.inl (s : Int)), o3], []) :: K) (z := 0) (yL (by omega)) hR hn2 (show 0 < r.1 from hn) rfl
    rw [ed_root hg.1 hn] at hsg
    rw [zj_227_2 (by omega), if_pos (by omega), zj_227_31 (by omega), if_neg (by omega), hsg, zr_227_40]
    by_cases c : 1 < r.1
    · rw [if_neg (show ¬ ¬ (if r.1 = 0 + 1 then (1 : Int) else 0) = 0 by rw [if_neg (by omega)]; exact fun w => w rfl)]; rw [if_pos (Or.inr c)] at hk; exact hk
    · rw [if_pos (show ¬ (if r.1 = 0 + 1 then (1 : Int) else 0) = 0 by rw [if_pos (by omega)]; decide)]; rw [if_neg (by omega)] at hk; exact hk
  | succ f ih =>
    intro r s o1 o3 σ hf hs hg hR k
    have hn := hg.1.1
    have h1n := hg.2.1
    have stop : (prn (f + 1) r s) = (r, s) → ∀ o3 : Option zV, zEv true ((227, 31, [some (.inr (.inr 122)), o1, some (.inl (s : Int)), o3], []) :: K) σ := fun e o3 => by
      have hk := k σ yFr.rf (by rw [e]; exact hR)
      rw [e] at hk
      simp only at hk
      rw [zj_227_31 (by omega)]
      by_cases c : 0 < s
      · rw [if_pos (by omega)]; rw [if_pos (Or.inl c)] at hk; exact hk
      · have hsg := m_isSingle (K := (227, 40, [some (.inr (.inr 122)), o1, some (.inl (s : Int)), o3], []) :: K) (z := 0) (yL (by omega)) hR hn (show 0 < r.1 from h1n) rfl
        rw [ed_root hg.1 h1n] at hsg
        rw [if_neg (by omega), hsg, zr_227_40]
        by_cases c2 : 1 < r.1
        · rw [if_neg (show ¬ ¬ (if r.1 = 0 + 1 then (1 : Int) else 0) = 0 by rw [if_neg (by omega)]; exact fun w => w rfl)]; rw [if_pos (Or.inr c2)] at hk; exact hk
        · rw [if_pos (show ¬ (if r.1 = 0 + 1 then (1 : Int) else 0) = 0 by rw [if_pos (by omega)]; decide)]; rw [if_neg (by omega)] at hk; exact hk
    rw [zj_227_2 (by omega)]
    by_cases c : 0 < s
    · rw [if_neg (by omega), m_isSingle (yL (by omega)) hR hn hs rfl, zr_227_11 (by omega)]
      by_cases c2 : ed r.2.2.1 r.1 s = s + 1
      · have ep : prn (f + 1) r s = prn f (rcl r s 1) (par r.2.2.1 s).toNat := by rw [prn, if_pos ⟨c, c2⟩]
        have hp := par_nat hg.1 hs c
        have hgl := rgd_leaf hg c hs c2
        rw [if_neg (show ¬ (if ed r.2.2.1 r.1 s = s + 1 then (1 : Int) else 0) = 0 by rw [if_pos c2]; decide), m_upOf hR hn hs rfl, zr_227_19 (by omega)]
        refine m_close (s := s) (w := 1) hR hn (by omega) (by omega) rfl rfl (fun σ1 hF1 hR1 => ?_)
        rw [zr_227_26, hp.2]
        refine ih (rcl r s 1) (par r.2.2.1 s).toNat _ _ σ1 (by omega) (by show _ < r.1 - 1; omega) hgl hR1 (fun σ' hF2 hR2 => ?_)
        rw [← ep] at hR2 ⊢
        exact k σ' (hF1.trans hF2) hR2
      · rw [if_pos (show (if ed r.2.2.1 r.1 s = s + 1 then (1 : Int) else 0) = 0 by rw [if_neg c2])]
        exact stop (by rw [prn, if_neg (fun w => c2 w.2)]) _
    · rw [if_pos (by omega)]
      exact stop (by rw [prn, if_neg (fun w => c w.1)]) _
