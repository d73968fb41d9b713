/-! the model's edits -/
abbrev Xmd : Nat → Nat → Prop := fun k j => (k = 122 ∧ (j = 77 ∨ j = 81 ∨ j = 85)) ∨ (179 ≤ k ∧ k ≤ 184)
def mDo (x : Option RF) (K : List zF) (σ : zW) : Prop := (x = none → ∀ σ' : zW, yFr Xmd σ σ' → zRet true K (some (.inl 0)) σ') ∧
  ∀ y : RF, x = some y → ∀ σ' : zW, yFr Xmd σ σ' → mRw y.1 σ' → gI σ' 122 85 = y.2 → zRet true K (some (.inl 1)) σ'
theorem m_tidiesO {K : List zF} (hK : K.length + 2 ≤ 60) {fr : Int} {f s : Nat} {r : ROW} {σ0 σ : zW} (hF0 : yFr Xmd σ0 σ) (hs : s ≤ f) (hs2 : s < r.1) (hg : rgd r fr) (hR : mRw r σ) (h8 : gI σ 122 85 = fr) (k : mDo (prnO (prn f r s) fr) K σ0) : zEv true (zent 227 [.inr (.inr 122), .inl (s : Int)] :: K) σ := by
  rw [ze_227]
  refine m_tidies hK f r s _ _ σ hs hs2 hg hR (fun σ' hF hR' => ?_)
  have hFF := hF0.trans (hF.mono (fun k j h => by omega))
  have h88 : gI σ' 122 85 = fr := (hF.i (by omega)).trans h8
  unfold prnO at k
  by_cases c : 0 < (prn f r s).2 ∨ 1 < (prn f r s).1.1
  · rw [if_pos c] at k ⊢
    exact k.2 _ rfl σ' hFF hR' h88
  · rw [if_neg c] at k ⊢
    exact k.1 rfl σ' hFF
theorem m_deletes {K : List zF} (hK : K.length + 3 ≤ 60) {fr : Int} {s : Nat} {r : ROW} {σ : zW} (hs : s < r.1) (hg : rgd r fr) (hR : mRw r σ) (h8 : gI σ 122 85 = fr) (k : mDo (edDel r fr s) K σ) : zEv true (zent 228 [.inr (.inr 122), .inl (s : Int)] :: K) σ := by
  have hn := hg.1.1
  have hsp := ed_spec (dep := r.2.2.1) hs
  unfold edDel at k
  rw [ze_228 (by omega)]
  by_cases c : s = 0
  · rw [if_pos c] at k
    rw [if_neg (fun w => w (by omega))]
    exact k.1 rfl σ yFr.rf
  · rw [if_neg c] at k
    rw [if_pos (by omega), m_upOf hR hn hs rfl, zr_228_11 (by omega), m_end hR hn hs rfl, zr_228_20 (by omega)]
    have hp := par_nat hg.1 hs (by omega)
    have hgc : rgd (rcl r s (ed r.2.2.1 r.1 s - s)) fr := rgd_cl hg (by omega) hsp.1 hsp.2.1 hsp.2.2.2
    generalize he : ed r.2.2.1 r.1 s = e at *
    refine m_close (s := s) (w := e - s) hR hn (by omega) (by omega) rfl (by rw [zw_id (by omega) (by omega)]; omega) (fun σ1 hF1 hR1 => ?_)
    rw [zr_228_24 (by omega), hp.2]
    refine m_tidiesO (f := (par r.2.2.1 s).toNat) (yKK (K := K) (by omega)) (hF1.mono (fun k j h => by omega)) (Nat.le_refl _) (by show _ < r.1 - (e - s); omega) hgc hR1 ((hF1.i (by omega)).trans h8) ⟨fun hx σ' hF => ?_, fun y hy σ' hF hR2 h82 => ?_⟩
    · rw [zr_228_29, yAnd (Or.inl rfl)]; exact k.1 hx σ' hF
    · rw [zr_228_29, yAnd (Or.inr rfl)]; exact k.2 y hy σ' hF hR2 h82
/-- how many of the nodes a .. i - 1 have the depth d -/
def cnd (dep : Nat → Nat) (d a : Nat) : Nat → Nat
  | 0 => 0
  | i + 1 => cnd dep d a i + if a ≤ i ∧ dep i = d then 1 else 0
theorem cnd_le (dep : Nat → Nat) (d a : Nat) : ∀ i, cnd dep d a i ≤ i := by
  intro i
  induction i with
  | zero => exact Nat.le_refl _
  | succ i ih => rw [cnd]; split <;> omega
theorem cnd_lo {dep : Nat → Nat} {d a : Nat} : ∀ i, i ≤ a → cnd dep d a i = 0 := by
  intro i
  induction i with
  | zero => intro _; rfl
  | succ i ih => intro h; rw [cnd, ih (by omega), if_neg (by omega)]
theorem cnd_mono {dep : Nat → Nat} {d a : Nat} : ∀ {i j}, i ≤ j → cnd dep d a i ≤ cnd dep d a j := by
  intro i j
  induction j with
  | zero => intro h; rw [show i = 0 by omega]; exact Nat.le_refl _
  | succ j ih =>
    intro h
    by_cases e : i = j + 1
    · rw [e]; exact Nat.le_refl _
    · have := ih (by omega)
      rw [cnd]; omega
theorem cnd_hit {dep : Nat → Nat} {d a i : Nat} (h1 : a ≤ i) (h2 : dep i = d) : cnd dep d a (i + 1) = cnd dep d a i + 1 := by
  rw [cnd, if_pos ⟨h1, h2⟩]
theorem cnd_miss {dep : Nat → Nat} {d a i : Nat} (h2 : ¬ dep i = d) : cnd dep d a (i + 1) = cnd dep d a i := by
  rw [cnd, if_neg (fun w => h2 w.2)]; rfl
theorem cnd_same {dep : Nat → Nat} {d a : Nat} : ∀ (j i : Nat), i ≤ j → (∀ k, i ≤ k → k < j → ¬ dep k = d) → cnd dep d a j = cnd dep d a i := by
  intro j
  induction j with
  | zero => intro i h _; rw [show i = 0 by omega]
  | succ j ih =>
    intro i h hk
    by_cases e : i = j + 1
    · rw [e]
    · rw [cnd_miss (hk j (by omega) (by omega))]
      exact ih i (by omega) (fun k k1 k2 => hk k k1 (by omega))
/-- the model's condition is the class's -/
theorem exc_cond {n s : Nat} {dep : Nat → Nat} (h : wfd n dep) (hs : s < n) : (cnd dep (dep s + 1) (s + 1) (ed dep n s) = 0 ↔ ed dep n s = s + 1) ∧ (s = 0 → 1 < n → (cnd dep (dep s + 1) (s + 1) (ed dep n s) ≤ 1 ↔ ¬ ed dep n 1 < n)) := by
  obtain ⟨s1, s2, s3, s4⟩ := ed_spec (dep := dep) hs
  have h1 : s + 1 < ed dep n s → cnd dep (dep s + 1) (s + 1) (s + 1 + 1) = 1 := fun q => by
    have a1 := s3 (s + 1) (by omega) q
    have a2 := (h.2.2 s (by omega)).2
    rw [cnd_hit (Nat.le_refl _) (by omega), cnd_lo _ (Nat.le_refl _)]
  refine ⟨⟨fun q => ?_, fun q => by rw [q]; exact cnd_lo _ (Nat.le_refl _)⟩, fun q0 q1 => ?_⟩
  · by_cases c : s + 1 < ed dep n s
    · have a1 := h1 c
      have a2 := cnd_mono (dep := dep) (d := dep s + 1) (a := s + 1) (show s + 1 + 1 ≤ ed dep n s by omega)
      omega
    · omega
  · subst q0
    have er := ed_root h (by omega)
    have d0 := h.2.1 (by omega)
    rw [er] at h1 ⊢
    have a1 := h1 (by omega)
    obtain ⟨t1, t2, t3, t4⟩ := ed_spec (dep := dep) q1
    have d1 : dep 1 = dep 0 + 1 := by
      have b1 := (h.2.2 0 (by omega))
      have e1 : (0 : Nat) + 1 = 1 := rfl
      rw [e1] at b1
      omega
    constructor
    · intro q c
      have a4 := t4 c
      have a5 := wfd_pos h c (by omega)
      have a6 := cnd_hit (dep := dep) (d := dep 0 + 1) (a := 0 + 1) (i := ed dep n 1) (by omega) (by omega)
      have a7 := cnd_mono (dep := dep) (d := dep 0 + 1) (a := 0 + 1) (show 0 + 1 + 1 ≤ ed dep n 1 by omega)
      have a8 := cnd_mono (dep := dep) (d := dep 0 + 1) (a := 0 + 1) (show ed dep n 1 + 1 ≤ n by omega)
      omega
    · intro c
      have a6 := cnd_same (dep := dep) (d := dep 0 + 1) (a := 0 + 1) n (0 + 1 + 1) (by omega) (fun k k1 k2 => by
        have := t3 k (by omega) (by omega)
        omega)
      omega
theorem mRw_dep {r : ROW} {σ σ' : zW} {dep' : Nat → Nat} (h : mRw r σ) (hF : yFr (fun k _ => k = 180) σ σ') (hd : ∀ i, i < r.1 → gI σ' 180 i = (dep' i : Nat)) : mRw (r.1, r.2.1, dep', r.2.2.2) σ' := ⟨(hF.i (by omega)).trans h.1, fun i hi => ⟨(hF.l (by omega)).trans (h.2 i hi).1, hd i hi, (hF.i (by omega)).trans (h.2 i hi).2.2⟩⟩
theorem m_excises {K : List zF} (hK : K.length + 3 ≤ 60) {fr : Int} {s : Nat} {r : ROW} {σ : zW} (hs : s < r.1) (hg : rgd r fr) (hR : mRw r σ) (h8 : gI σ 122 85 = fr) (k : mDo (edExc r fr s) K σ) : zEv true (zent 229 [.inr (.inr 122), .inl (s : Int)] :: K) σ := by
  have hn := hg.1.1
  have hsp := ed_spec (dep := r.2.2.1) hs
  have hec := exc_cond hg.1 hs
  have hdl := fun i hi => wfd_lt hg.1 i hi
  unfold edExc at k
  have me : ∀ (fr : zF), zEv true (zent 222 [.inr (.inr 122), .inl (s : Int)] :: fr :: K) σ = zRet true (fr :: K) (some (.inl ((ed r.2.2.1 r.1 s : Nat) : Int))) σ := fun fr => m_end hR hn hs rfl
  have main : ¬ (ed r.2.2.1 r.1 s = s + 1 ∨ (s = 0 ∧ ed r.2.2.1 r.1 1 < r.1)) → ∀ o2 o3 o4 : Option zV, zEv true ((229, 61, [some (.inr (.inr 122)), some (.inl (s : Int)), o2, o3, o4], []) :: K) σ := by
    intro c o2 o3 o4
    rw [if_neg c] at k
    rw [zj_229_61 (by omega), me, zr_229_66]
    generalize he : ed r.2.2.1 r.1 s = e at *
    have loop : ∀ (m i : Nat) (o2 : Option zV) (σ2 : zW), e - i = m → s < i → i ≤ e → yFr (fun k _ => k = 180) σ σ2 → (∀ j, j < r.1 → gI σ2 180 j = (ddn s i r.2.2.1 j : Nat)) → zEv true ((229, 72, [some (.inr (.inr 122)), some (.inl (s : Int)), o2, some (.inl (e : Int)), some (.inl (i : Int))], []) :: K) σ2 := by
      intro m
      induction m with
      | zero =>
        intro i o2 σ2 hm h1 h2 hF hd
        have ei : i = e := by omega
        subst ei
        have hR2 := mRw_dep hR hF hd
        rw [zj_229_72 (by omega), if_pos (by omega)]
        refine m_close (s := s) (w := 1) hR2 hn (by show s + 1 ≤ r.1; omega) (by omega) rfl rfl (fun σ3 hF3 hR3 => ?_)
        rw [zr_229_101]
        exact k.2 _ rfl σ3 ((hF.mono (fun k j h => by omega)).trans (hF3.mono (fun k j h => by omega))) hR3 (by rw [hF3.i (by omega), hF.i (by omega)]; exact h8)
      | succ m ih =>
        intro i o2 σ2 hm h1 h2 hF hd
        have hcc : 0 ≤ (i : Int) ∧ (i : Int) < 24 := by omega
        have hdi : ddn s i r.2.2.1 i = r.2.2.1 i := by unfold ddn; rw [if_neg (by omega)]
        have hpos := hsp.2.2.1 i h1 (by omega)
        have hdl := wfd_lt hg.1 i (by omega)
        rw [zj_229_72 (by omega), if_neg (by omega), yAnd hcc, yAnd hcc, Int.toNat_natCast, hd i (by omega), hdi, zw_id (by omega) (by omega), zw_id (by omega) (by omega), show (i : Int) + 1 = ((i + 1 : Nat) : Int) by omega]
        refine ih (i + 1) _ _ (by omega) (by omega) (by omega) (hF.I rfl) (fun j hj => ?_)
        unfold ddn
        by_cases ej : j = i
        · subst ej
          rw [yGI_hit, if_pos ⟨h1, by omega⟩]; omega
        · rw [gI_sI, if_neg (fun w => ej w.2), hd j hj]
          unfold ddn
          by_cases c : s < j ∧ j < i
          · rw [if_pos c, if_pos (by omega)]
          · rw [if_neg c, if_neg (by omega)]
    rw [zw_id (by omega) (by omega), show (s : Int) + 1 = ((s + 1 : Nat) : Int) by omega]
    refine loop _ (s + 1) _ σ rfl (by omega) (by omega) yFr.rf (fun j hj => ?_)
    unfold ddn
    rw [if_neg (by omega)]; exact (hR.2 j hj).2.1
  have cloop : ∀ (m i : Nat) (o4 : Option zV), ed r.2.2.1 r.1 s - i = m → s < i → i ≤ ed r.2.2.1 r.1 s → zEv true ((229, 6, [some (.inr (.inr 122)), some (.inl (s : Int)), some (.inl ((cnd r.2.2.1 (r.2.2.1 s + 1) (s + 1) i : Nat) : Int)), some (.inl (i : Int)), o4], []) :: K) σ := by
    intro m
    induction m with
    | zero =>
      intro i o4 hm h1 h2
      have ei : i = ed r.2.2.1 r.1 s := by omega
      rw [zj_229_6 (by omega), me, zr_229_12, if_pos (by omega)]
      by_cases c1 : ed r.2.2.1 r.1 s = s + 1
      · rw [if_pos (Or.inl c1)] at k
        rw [if_pos (by rw [ei, hec.1.mpr c1]; rfl)]
        exact k.1 rfl σ yFr.rf
      · have hne : ¬ ((cnd r.2.2.1 (r.2.2.1 s + 1) (s + 1) i : Nat) : Int) = 0 := fun w => c1 (hec.1.mp (by rw [← ei]; omega))
        rw [if_neg hne]
        by_cases c0 : s = 0
        · rw [if_neg (show ¬ ¬ (s : Int) = 0 from fun w => w (by omega))]
          have h2c := hec.2 c0 (by omega)
          by_cases c2 : ed r.2.2.1 r.1 1 < r.1
          · rw [if_pos (Or.inr ⟨c0, c2⟩)] at k
            rw [if_neg (fun w => (h2c.mp (by rw [← ei]; omega)) c2)]
            exact k.1 rfl σ yFr.rf
          · rw [if_pos (by have := h2c.mpr c2; rw [← ei] at this; omega)]
            exact main (fun w => by rcases w with w | w; exact c1 w; exact c2 w.2) _ _ _
        · rw [if_pos (by omega)]
          exact main (fun w => by rcases w with w | w; exact c1 w; exact c0 w.1) _ _ _
    | succ m ih =>
      intro i o4 hm h1 h2
      have hcc : 0 ≤ (i : Int) ∧ (i : Int) < 24 := by omega
      have hcs : 0 ≤ (s : Int) ∧ (s : Int) < 24 := by omega
      have hds := hdl s hs
      have hcl := cnd_le r.2.2.1 (r.2.2.1 s + 1) (s + 1) i
      rw [zj_229_6 (by omega), me, zr_229_12, if_neg (by omega), yAnd hcc, yAnd hcs, Int.toNat_natCast, Int.toNat_natCast, (hR.2 i (by omega)).2.1, (hR.2 s hs).2.1, zw_id (z := ((r.2.2.1 s : Nat) : Int) + 1) (by omega) (by omega), zw_id (z := (i : Int) + 1) (by omega) (by omega), show (i : Int) + 1 = ((i + 1 : Nat) : Int) by omega]
      have e : w32 (((cnd r.2.2.1 (r.2.2.1 s + 1) (s + 1) i : Nat) : Int) + (if ¬ ((r.2.2.1 i : Nat) : Int) = ((r.2.2.1 s : Nat) : Int) + 1 then 0 else 1 : Int)) = ((cnd r.2.2.1 (r.2.2.1 s + 1) (s + 1) (i + 1) : Nat) : Int) := by
        by_cases c : r.2.2.1 i = r.2.2.1 s + 1
        · rw [if_neg (by omega), cnd_hit (by omega) c, zw_id (by omega) (by omega)]; omega
        · rw [if_pos (by omega), cnd_miss c, zw_id (by omega) (by omega)]; omega
      rw [e]
      exact ih (i + 1) _ (by omega) (by omega) (by omega)
  rw [ze_229, zw_id (by omega) (by omega), show (s : Int) + 1 = ((s + 1 : Nat) : Int) by omega]
  have := cloop _ (s + 1) none rfl (by omega) (by omega)
  rw [cnd_lo _ (Nat.le_refl _)] at this
  exact this
