/-! which nodes fit a part of a pattern -/
def insP (B : Nat → Int64) (lo hi : Nat) (v : Int64) : Prop := ∃ i, lo ≤ i ∧ i < hi ∧ B i = v
theorem insP_s {B : Nat → Int64} {lo hi : Nat} {v : Int64} (h : lo < hi) : insP B lo hi v ↔ (B lo = v ∨ insP B (lo + 1) hi v) := by
  constructor
  · rintro ⟨i, h1, h2, h3⟩
    by_cases e : i = lo
    · rw [e] at h3; exact Or.inl h3
    · exact Or.inr ⟨i, by omega, h2, h3⟩
  · rintro (h1 | ⟨i, h1, h2, h3⟩)
    · exact ⟨lo, Nat.le_refl _, h, h1⟩
    · exact ⟨i, by omega, h2, h3⟩
/-- a label fits a part, of itself -/
def ftP (R : PRW) (B : Nat → Int64) (p : Nat) (v : Int64) : Prop := (R 1 p = 1 → insP B (R 6 p).toNat (R 7 p).toNat v) ∧ (R 1 p = 2 → ¬ insP B (R 6 p).toNat (R 7 p).toNat v)
theorem c_isFitting {K : List zF} {t p : Nat} {st : PST} {pd : Nat → Nat} {v : Int64} {z : Int} {σ : zW} (ht : zPn t) (hP : cP t st σ) (hg : pgd st pd) (hc : st.1 ≤ 8) (hl : st.2.1 ≤ 300) (hp : p < st.1) (hz : z = (p : Int)) : zEv true (zent 55 [.inr (.inr t), .inl z, .inr (.inl v)] :: K) σ = zRet true K (some (.inl (zb (ftP st.2.2.2.1 st.2.2.2.2 p v)))) σ := by
  subst hz
  obtain ⟨c, l, n, R, B⟩ := st
  obtain ⟨-, -, -, p4, -, -, p7⟩ := hP
  obtain ⟨-, g2, -⟩ := hg
  simp only at p4 p7 g2 hc hl hp
  have e1 : gI σ (t + 1) p = R 1 p := p4 1 p (by omega) (by omega) (by omega) hp
  have e6 : gI σ (t + 6) p = R 6 p := p4 6 p (by omega) (by omega) (by omega) hp
  have e7 : gI σ (t + 7) p = R 7 p := p4 7 p (by omega) (by omega) (by omega) hp
  obtain ⟨-, -, -, -, -, ⟨lo, hi, q6, q7, qle, qhi⟩, -⟩ := g2 p hp
  have hcp : 0 ≤ (p : Int) ∧ (p : Int) < 8 := by omega
  show _ = zRet true K (some (.inl (zb (ftP R B p v)))) σ
  have loop : (R 1 p = 1 ∨ R 1 p = 2) → ∀ (d i : Nat), hi - i = d → i ≤ hi → (insP B lo hi v ↔ insP B i hi v) → zEv true ((55, 30, [some (.inr (.inr t)), some (.inl (p : Int)), some (.inr (.inl v)), none, some (.inl (i : Int))], []) :: K) σ = zRet true K (some (.inl (zb (ftP R B p v)))) σ := by
    intro hk d
    induction d with
    | zero =>
      intro i hd hi2 hE
      have hno : ¬ insP B lo hi v := fun w => by obtain ⟨j, j1, j2, -⟩ := hE.mp w; omega
      rw [zj_55_30 ht, yAnd hcp, Int.toNat_natCast, e7, q7, if_pos (by omega), yAnd hcp, e1]
      by_cases c2 : R 1 p = 2
      · rw [if_neg (fun w => w c2), zb_t]
        exact ⟨fun w => by omega, fun _ => by rw [q6, q7]; exact hno⟩
      · rw [if_pos c2, zb_f]
        rintro ⟨w, -⟩
        have := w (by omega)
        rw [q6, q7] at this
        exact hno this
    | succ d ih =>
      intro i hd hi2 hE
      have hci : 0 ≤ (i : Int) ∧ (i : Int) < 600 := by omega
      rw [zj_55_30 ht, yAnd hcp, Int.toNat_natCast, e7, q7, if_neg (by omega), yAnd hci, Int.toNat_natCast, p7 i (by omega)]
      by_cases c : B i = v
      · have hyes : insP B lo hi v := hE.mpr ((insP_s (by omega)).mpr (Or.inl c))
        rw [if_neg (fun w => w (zlc_eq.mpr c)), yAnd hcp, e1]
        by_cases c1 : R 1 p = 1
        · rw [if_neg (fun w => w c1), zb_t]
          exact ⟨fun _ => by rw [q6, q7]; exact hyes, fun w => by omega⟩
        · rw [if_pos c1, zb_f]
          rintro ⟨-, w⟩
          have := w (by omega)
          rw [q6, q7] at this
          exact this hyes
      · rw [if_pos (fun w => c (zlc_eq.mp w)), zw_id (by omega) (by omega), show (i : Int) + 1 = ((i + 1 : Nat) : Int) by omega]
        exact ih (i + 1) (by omega) (by omega) (hE.trans ((insP_s (by omega)).trans ⟨fun w => by rcases w with w | w; exact absurd w c; exact w, fun w => Or.inr w⟩))
  have h22 : (R 1 p = 1 ∨ R 1 p = 2) → zEv true ((55, 22, [some (.inr (.inr t)), some (.inl (p : Int)), some (.inr (.inl v)), none, none], []) :: K) σ = zRet true K (some (.inl (zb (ftP R B p v)))) σ := fun hk => by
    rw [zj_55_22 ht, yAnd hcp, Int.toNat_natCast, e6, q6]
    exact loop hk _ lo rfl qle Iff.rfl
  rw [ze_55 ht, yAnd hcp, Int.toNat_natCast, e1]
  by_cases c1 : R 1 p = 1
  · rw [if_pos c1]; exact h22 (Or.inl c1)
  · rw [if_neg c1, yAnd hcp]
    by_cases c2 : R 1 p = 2
    · rw [if_pos c2]; exact h22 (Or.inr c2)
    · rw [if_neg c2, zb_t]
      exact ⟨fun w => absurd w c1, fun w => absurd w c2⟩
