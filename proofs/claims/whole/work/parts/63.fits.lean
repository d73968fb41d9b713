/-! which nodes fit a part of a pattern -/
def insP (B : Nat → Int64) (lo hi : Nat) (v : Int64) : Prop := ∃ i, lo ≤ i ∧ i < hi ∧ B i = v
theorem insP_s {B : Nat → Int64} {lo hi : Nat} {v : Int64} (h : lo < hi) : insP B lo hi v ↔ (B lo = v ∨ insP B (lo + 1) hi v) := by
  constructor
  · rintro ⟨i, h1, h2, h3⟩
    by_cases e : i = lo
    · rw [e] at h3; exact Or.inl h3
    · exact Or.inr ⟨i, by omega, h2, h3⟩
  · rintro (h1 | ⟨i, h1, h2, h3⟩)
    · exact ⟨lo, Nat.le_refl _, h, h1⟩
    · exact ⟨i, by omega, h2, h3⟩
/-- a label fits a part, of itself -/
def ftP (R : PRW) (B : Nat → Int64) (p : Nat) (v : Int64) : Prop := (R 1 p = 1 → insP B (R 6 p).toNat (R 7 p).toNat v) ∧ (R 1 p = 2 → ¬ insP B (R 6 p).toNat (R 7 p).toNat v)
theorem c_isFitting {K : List zF} {t p : Nat} {st : PST} {pd : Nat → Nat} {v : Int64} {z : Int} {σ : zW} (ht : zPn t) (hP : cP t st σ) (hg : pgd st pd) (hc : st.1 ≤ 8) (hl : st.2.1 ≤ 300) (hp : p < st.1) (hz : z = (p : Int)) : zEv true (zent 55 [.inr (.inr t), .inl z, .inr (.inl v)] :: K) σ = zRet true K (some (.inl (zb (ftP st.2.2.2.1 st.2.2.2.2 p v)))) σ := by
  subst hz
  obtain ⟨c, l, n, R, B⟩ := st
  obtain ⟨-, -, -, p4, -, -, p7⟩ := hP
  obtain ⟨-, g2, -⟩ := hg
  simp only at p4 p7 g2 hc hl hp
  have e1 : gI σ (t + 1) p = R 1 p := p4 1 p (by omega) (by omega) (by omega) hp
  have e6 : gI σ (t + 6) p = R 6 p := p4 6 p (by omega) (by omega) (by omega) hp
  have e7 : gI σ (t + 7) p = R 7 p := p4 7 p (by omega) (by omega) (by omega) hp
  obtain ⟨-, -, -, -, -, ⟨lo, hi, q6, q7, qle, qhi⟩, -⟩ := g2 p hp
  have hcp : 0 ≤ (p : Int) ∧ (p : Int) < 8 := by omega
  show _ = zRet true K (some (.inl (zb (ftP R B p v)))) σ
  have loop : (R 1 p = 1 ∨ R 1 p = 2) → ∀ (d i : Nat), hi - i = d → i ≤ hi → (insP B lo hi v ↔ insP B i hi v) → zEv true ((55, 30, [some (.inr (.inr t)), some (.inl (p : Int)), some (.inr (.inl v)), none, some (.inl (i : Int))], []) :: K) σ = zRet true K (some (.inl (zb (ftP R B p v)))) σ := by
    intro hk d
    induction d with
    | zero =>
      intro i hd hi2 hE
      have hno : ¬ insP B lo hi v := fun w => by obtain ⟨j, j1, j2, -⟩ := hE.mp w; omega
      rw [zj_55_30 ht, yAnd hcp, Int.toNat_natCast, e7, q7, if_pos (by omega), yAnd hcp, e1]
      by_cases c2 : R 1 p = 2
      · rw [if_neg (fun w => w c2), zb_t]
        exact ⟨fun w => by omega, fun _ => by rw [q6, q7]; exact hno⟩
      · rw [if_pos c2, zb_f]
        rintro ⟨w, -⟩
        have := w (by omega)
        rw [q6, q7] at this
        exact hno this
    | succ d ih =>
      intro i hd hi2 hE
      have hci : 0 ≤ (i : Int) ∧ (i : Int) < 600 := by omega
      rw [zj_55_30 ht, yAnd hcp, Int.toNat_natCast, e7, q7, if_neg (by omega), yAnd hci, Int.toNat_natCast, p7 i (by omega)]
      by_cases c : B i = v
      · have hyes : insP B lo hi v := hE.mpr ((insP_s (by omega)).mpr (Or.inl c))
        rw [if_neg (fun w => w (zlc_eq.mpr c)), yAnd hcp, e1]
        by_cases c1 : R 1 p = 1
        · rw [if_neg (fun w => w c1), zb_t]
          exact ⟨fun _ => by rw [q6, q7]; exact hyes, fun w => by omega⟩
        · rw [if_pos c1, zb_f]
          rintro ⟨-, w⟩
          have := w (by omega)
          rw [q6, q7] at this
          exact this hyes
      · rw [if_pos (fun w => c (zlc_eq.mp w)), zw_id (by omega) (by omega), show (i : Int) + 1 = ((i + 1 : Nat) : Int) by omega]
        exact ih (i + 1) (by omega) (by omega) (hE.trans ((insP_s (by omega)).trans ⟨fun w => by rcases w with w | w; exact absurd w c; exact w, fun w => Or.inr w⟩))
  have h22 : (R 1 p = 1 ∨ R 1 p = 2) → zEv true ((55, 22, [some (.inr (.inr t)), some (.inl (p : Int)), some (.inr (.inl v)), none, none], []) :: K) σ = zRet true K (some (.inl (zb (ftP R B p v)))) σ := fun hk => by
    rw [zj_55_22 ht, yAnd hcp, Int.toNat_natCast, e6, q6]
    exact loop hk _ lo rfl qle Iff.rfl
  rw [ze_55 ht, yAnd hcp, Int.toNat_natCast, e1]
  by_cases c1 : R 1 p = 1
  · rw [if_pos c1]; exact h22 (Or.inl c1)
  · rw [if_neg c1, yAnd hcp]
    by_cases c2 : R 1 p = 2
    · rw [if_pos c2]; exact h22 (Or.inr c2)
    · rw [if_neg c2, zb_t]
      exact ⟨fun w => absurd w c1, fun w => absurd w c2⟩
theorem mG_k {st : PST} {σ : zW} (h : mG st σ) {q i : Nat} (hq : q < 12) (hq1 : q ≠ 1) (hi : i < st.1) : gI σ (132 + q) i = MR st.2.2.2.1 q i := h.2.2.2.1 q i hq (fun w => absurd w hq1) hi
theorem m_inSet {K : List zF} {p : Nat} {st : PST} {pd : Nat → Nat} {v : Int64} {z : Int} {σ : zW} (hG : mG st σ) (hg : pgd st pd) (hc : st.1 ≤ 8) (hl : st.2.1 ≤ 300) (hp : p < st.1) (hz : z = (p : Int)) : zEv true (zent 192 [.inr (.inr 122), .inl z, .inr (.inl v)] :: K) σ = zRet true K (some (.inl (zb (insP st.2.2.2.2 (st.2.2.2.1 6 p).toNat (st.2.2.2.1 7 p).toNat v)))) σ := by
  subst hz
  have e134 := mG_k hG (q := 2) (i := p) (by omega) (by omega) hp
  have e133 := fun w => hG.2.2.2.1 1 p (by omega) (fun _ => w) hp
  have e144 := hG.2.2.2.2.1
  obtain ⟨c, l, n, R, B⟩ := st
  obtain ⟨-, g2, -⟩ := hg
  simp only at e134 e133 e144 g2 hc hl hp
  obtain ⟨-, -, -, -, -, ⟨lo, hi, q6, q7, qle, qhi⟩, -⟩ := g2 p hp
  have hcp : 0 ≤ (p : Int) ∧ (p : Int) < 8 := by omega
  have e134' : gI σ 134 p = ((hi - lo : Nat) : Int) := by
    have : gI σ 134 p = R 7 p - R 6 p := e134
    rw [this, q6, q7]; omega
  have e133' : lo < hi → gI σ 133 p = (lo : Int) := fun w => by
    have : gI σ 133 p = R 6 p := e133 (by rw [q6, q7]; omega)
    rw [this, q6]
  show _ = zRet true K (some (.inl (zb (insP B (R 6 p).toNat (R 7 p).toNat v)))) σ
  rw [q6, q7, Int.toNat_natCast, Int.toNat_natCast]
  have loop : ∀ (d i : Nat) (y : Int), hi - (lo + i) = d → lo + i ≤ hi → ((y = 1 ∧ insP B lo hi v) ∨ (y = 0 ∧ (insP B lo hi v ↔ insP B (lo + i) hi v))) → zEv true ((192, 6, [some (.inr (.inr 122)), some (.inl (p : Int)), some (.inr (.inl v)), none, some (.inl y), some (.inl (i : Int))], []) :: K) σ = zRet true K (some (.inl (zb (insP B lo hi v)))) σ := by
    intro d
    induction d with
    | zero =>
      intro i y hd hi2 hE
      have h1 : (((hi - lo : Nat) : Int)) ≤ (i : Int) := by clear hE; omega
      rw [zj_192_6, yAnd hcp, Int.toNat_natCast, e134', if_pos h1]
      rcases hE with ⟨y1, h⟩ | ⟨y0, h⟩
      · rw [y1, yAnd (Or.inr rfl), zb_t h]
      · rw [y0, yAnd (Or.inl rfl), zb_f (fun w => by obtain ⟨j, j1, j2, -⟩ := h.mp w; omega)]
    | succ d ih =>
      intro i y hd hi2 hE
      have h1 : ¬ (((hi - lo : Nat) : Int)) ≤ (i : Int) := by clear hE; omega
      have hlt : lo < hi := by clear hE; omega
      have hd1 : hi - (lo + (i + 1)) = d := by clear hE; omega
      have hd2 : lo + (i + 1) ≤ hi := by clear hE; omega
      have hcx : 0 ≤ ((lo + i : Nat) : Int) ∧ ((lo + i : Nat) : Int) < 300 := by clear hE; omega
      have hil : lo + i < l := by clear hE; omega
      have ex : w32 ((lo : Int) + (i : Int)) = ((lo + i : Nat) : Int) := by clear hE; rw [zw_id (by omega) (by omega)]; omega
      have ei : w32 ((i : Int) + 1) = ((i + 1 : Nat) : Int) := by clear hE ex; rw [zw_id (by omega) (by omega)]; omega
      have eB : gL σ 144 (lo + i) = B (lo + i) := e144 _ hil
      rw [zj_192_6, yAnd hcp, Int.toNat_natCast, e134', if_neg h1, e133' hlt, ex, yAnd (fun _ => ⟨hcp, hcx⟩), Int.toNat_natCast, eB, ei]
      rcases hE with ⟨y1, h⟩ | ⟨y0, h⟩
      · rw [y1, if_pos (show ¬ (1 : Int) = 0 by decide)]
        exact ih (i + 1) 1 hd1 hd2 (Or.inl ⟨rfl, h⟩)
      · rw [y0, if_neg (show ¬ ¬ (0 : Int) = 0 from fun w => w rfl)]
        have hs := insP_s (B := B) (lo := lo + i) (hi := hi) (v := v) (by clear ex ei; omega)
        by_cases c : B (lo + i) = v
        · rw [if_neg (fun w => w (zlc_eq.mpr c))]
          exact ih (i + 1) 1 hd1 hd2 (Or.inl ⟨rfl, h.mpr (hs.mpr (Or.inl c))⟩)
        · rw [if_pos (fun w => c (zlc_eq.mp w))]
          exact ih (i + 1) 0 hd1 hd2 (Or.inr ⟨rfl, h.trans (hs.trans ⟨fun w => by rcases w with w | w; exact absurd w c; exact w, fun w => Or.inr w⟩)⟩)
  rw [ze_192]
  exact loop _ 0 0 rfl (by omega) (Or.inr ⟨rfl, Iff.rfl⟩)
theorem m_fitsAlone {K : List zF} (hK : K.length + 1 ≤ 60) {p q a : Nat} {T : TRE} {st : PST} {pd : Nat → Nat} {z x : Int} {σ : zW} (hq : q < 3) (hgT : tgd T) (hM : mTr q T σ) (h64 : gI σ 122 64 = (q : Int)) (hG : mG st σ) (hg : pgd st pd) (hc : st.1 ≤ 8) (hl : st.2.1 ≤ 300) (hp : p < st.1) (ha : a < T.1) (hz : z = (p : Int)) (hx : x = (a : Int)) : zEv true (zent 193 [.inr (.inr 122), .inl z, .inl x] :: K) σ = zRet true K (some (.inl (zb (ftP st.2.2.2.1 st.2.2.2.2 p (T.2.1 a))))) σ := by
  subst hz
  subst hx
  have hcp : 0 ≤ (p : Int) ∧ (p : Int) < 8 := by omega
  have e132 : gI σ 132 p = st.2.2.2.1 1 p := mG_k hG (q := 0) (i := p) (by omega) (by omega) hp
  rw [ze_193 (by omega), yAnd hcp, Int.toNat_natCast, e132]
  unfold ftP
  by_cases c1 : st.2.2.2.1 1 p = 1
  · rw [if_neg (fun w => w c1), m_labelOf hq hgT hM h64 ha rfl, zr_193_17 (by omega), m_inSet hG hg hc hl hp rfl, zr_193_20, yAnd (zb01 _)]
    have hz : insP st.2.2.2.2 (st.2.2.2.1 6 p).toNat (st.2.2.2.1 7 p).toNat (T.2.1 a) ↔ ((st.2.2.2.1 1 p = 1 → insP st.2.2.2.2 (st.2.2.2.1 6 p).toNat (st.2.2.2.1 7 p).toNat (T.2.1 a)) ∧ (st.2.2.2.1 1 p = 2 → ¬ insP st.2.2.2.2 (st.2.2.2.1 6 p).toNat (st.2.2.2.1 7 p).toNat (T.2.1 a))) := ⟨fun w => ⟨fun _ => w, fun w2 => by omega⟩, fun w => w.1 c1⟩
    rw [zb_c hz]
  · rw [if_pos c1, yAnd hcp]
    by_cases c2 : st.2.2.2.1 1 p = 2
    · rw [if_neg (fun w => w c2), m_labelOf hq hgT hM h64 ha rfl, zr_193_40 (by omega), m_inSet hG hg hc hl hp rfl, zr_193_43]
      rcases Classical.em (insP st.2.2.2.2 (st.2.2.2.1 6 p).toNat (st.2.2.2.1 7 p).toNat (T.2.1 a)) with h | h
      · rw [zb_t h, if_pos (show ¬ (1 : Int) = 0 by decide), zb_f (fun w => w.2 c2 h)]
      · rw [zb_f h, if_neg (show ¬ ¬ (0 : Int) = 0 from fun w => w rfl), zb_t ⟨fun w => absurd w c1, fun _ => h⟩]
    · rw [if_pos c2, zb_t ⟨fun w => absurd w c1, fun w => absurd w c2⟩]
