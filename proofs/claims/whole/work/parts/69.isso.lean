/-! the model: is a relation so -/
/-- the values w of all numbers lie in the model -/
def mVl (st : PST) (w : Nat → Int) (σ : zW) : Prop := ∀ p, p < st.1 → st.2.2.2.1 8 p ≠ -1 → gI σ 174 p = vp w st.2.2.2.1 p
def gvn (st : PST) (w : Nat → Int) (h : Int) : Prop := ∃ p, p < st.1 ∧ st.2.2.2.1 9 p = h ∧ st.2.2.2.1 8 p ≠ -1 ∧ vp w st.2.2.2.1 p ≠ -1
def hnm (st : PST) (h : Int) : Prop := ∃ p, p < st.1 ∧ st.2.2.2.1 9 p = h ∧ st.2.2.2.1 8 p ≠ -1
theorem m_isGiven {K : List zF} {q : Nat} {T : TRE} {st : PST} {w : Nat → Int} {h z : Int} {σ : zW} (hO : mOn q T st σ) (hc : st.1 ≤ 8) (hV : mVl st w σ) (hz : z = h + 1) : zEv true (zent 199 [.inr (.inr 122), .inl z] :: K) σ = zRet true K (some (.inl (zb (gvn st w h)))) σ := by
  subst hz
  have loop : ∀ (d i : Nat) (y : Int), st.1 - i = d → i ≤ st.1 → ((y = 1 ∧ gvn st w h) ∨ (y = 0 ∧ ∀ p, p < i → ¬ (st.2.2.2.1 9 p = h ∧ st.2.2.2.1 8 p ≠ -1 ∧ vp w st.2.2.2.1 p ≠ -1))) → zEv true ((199, 4, [some (.inr (.inr 122)), some (.inl (h + 1)), some (.inl y), some (.inl (i : Int))], []) :: K) σ = zRet true K (some (.inl (zb (gvn st w h)))) σ := by
    intro d
    induction d with
    | zero =>
      intro i y hd hi hv
      have h1 : ((st.1 : Nat) : Int) ≤ (i : Int) := by clear hv; omega
      have h2 : ∀ b, b < st.1 → b < i := fun b hb => by clear hv; omega
      rw [zj_199_4, hO.2.2.2.2.1, if_pos h1]
      rcases hv with ⟨y1, hh⟩ | ⟨y0, hh⟩
      · rw [y1, yAnd (Or.inr rfl), zb_t hh]
      · rw [y0, yAnd (Or.inl rfl), zb_f (fun ⟨b, b1, b2⟩ => hh b (h2 b b1) b2)]
    | succ d ih =>
      intro i y hd hi hv
      have hi' : i < st.1 := by clear hv; omega
      have h1 : ¬ ((st.1 : Nat) : Int) ≤ (i : Int) := by clear hv; omega
      have hd1 : st.1 - (i + 1) = d := by clear hv; omega
      have hci : 0 ≤ (i : Int) ∧ (i : Int) < 8 := by clear hv; omega
      have e138 : gI σ 138 i = st.2.2.2.1 9 i + 1 := mG_k hO.2.2.2.2 (q := 6) (i := i) (by clear hv; omega) (by clear hv; omega) hi'
      have e136 : gI σ 136 i = st.2.2.2.1 8 i := mG_k hO.2.2.2.2 (q := 4) (i := i) (by clear hv e138; omega) (by clear hv e138; omega) hi'
      have ei : w32 ((i : Int) + 1) = ((i + 1 : Nat) : Int) := by clear hv e138 e136; rw [zw_id (by omega) (by omega)]; omega
      rw [zj_199_4, hO.2.2.2.2.1, if_neg h1]
      rcases hv with ⟨y1, hh⟩ | ⟨y0, hh⟩
      · rw [y1, if_pos (show ¬ (1 : Int) = 0 by decide), ei]
        exact ih (i + 1) 1 hd1 hi' (Or.inl ⟨rfl, hh⟩)
      · have next : ¬ (st.2.2.2.1 9 i = h ∧ st.2.2.2.1 8 i ≠ -1 ∧ vp w st.2.2.2.1 i ≠ -1) → ∀ b, b < i + 1 → ¬ (st.2.2.2.1 9 b = h ∧ st.2.2.2.1 8 b ≠ -1 ∧ vp w st.2.2.2.1 b ≠ -1) := fun q b hb => by
          by_cases e : b = i
          · rw [e]; exact q
          · exact hh b (by clear ei e138 e136; omega)
        rw [y0, if_neg (show ¬ ¬ (0 : Int) = 0 from fun w => w rfl), yAnd hci, Int.toNat_natCast, e138, e136, ei]
        by_cases c : st.2.2.2.1 9 i = h
        · rw [if_neg (fun w => w (by rw [c])), yAnd hci]
          by_cases c8 : st.2.2.2.1 8 i = -1
          · rw [if_pos c8, zj_199_50, ei]
            exact ih (i + 1) 0 hd1 hi' (Or.inr ⟨rfl, next (fun w => w.2.1 c8)⟩)
          · rw [if_neg c8, yAnd hci, hV i hi' c8]
            by_cases cv : vp w st.2.2.2.1 i = -1
            · rw [if_pos cv, zj_199_50, ei]
              exact ih (i + 1) 0 hd1 hi' (Or.inr ⟨rfl, next (fun w => w.2.2 cv)⟩)
            · rw [if_neg cv]
              exact ih (i + 1) 1 hd1 hi' (Or.inl ⟨rfl, i, hi', c, c8, cv⟩)
        · rw [if_pos (fun w => c (by clear ei e138 e136 hh next; omega)), zj_199_50, ei]
          exact ih (i + 1) 0 hd1 hi' (Or.inr ⟨rfl, next (fun w => c w.1)⟩)
  rw [ze_199]
  exact loop st.1 0 0 (Nat.sub_zero _) (Nat.zero_le _) (Or.inr ⟨rfl, fun b hb => absurd hb (Nat.not_lt_zero _)⟩)
theorem m_hasNumbers {K : List zF} {q : Nat} {T : TRE} {st : PST} {h z : Int} {σ : zW} (hO : mOn q T st σ) (hc : st.1 ≤ 8) (hz : z = h + 1) : zEv true (zent 200 [.inr (.inr 122), .inl z] :: K) σ = zRet true K (some (.inl (zb (hnm st h)))) σ := by
  subst hz
  have loop : ∀ (d i : Nat) (y : Int), st.1 - i = d → i ≤ st.1 → ((y = 1 ∧ hnm st h) ∨ (y = 0 ∧ ∀ p, p < i → ¬ (st.2.2.2.1 9 p = h ∧ st.2.2.2.1 8 p ≠ -1))) → zEv true ((200, 4, [some (.inr (.inr 122)), some (.inl (h + 1)), some (.inl y), some (.inl (i : Int))], []) :: K) σ = zRet true K (some (.inl (zb (hnm st h)))) σ := by
    intro d
    induction d with
    | zero =>
      intro i y hd hi hv
      have h1 : ((st.1 : Nat) : Int) ≤ (i : Int) := by clear hv; omega
      have h2 : ∀ b, b < st.1 → b < i := fun b hb => by clear hv; omega
      rw [zj_200_4, hO.2.2.2.2.1, if_pos h1]
      rcases hv with ⟨y1, hh⟩ | ⟨y0, hh⟩
      · rw [y1, yAnd (Or.inr rfl), zb_t hh]
      · rw [y0, yAnd (Or.inl rfl), zb_f (fun ⟨b, b1, b2⟩ => hh b (h2 b b1) b2)]
    | succ d ih =>
      intro i y hd hi hv
      have hi' : i < st.1 := by clear hv; omega
      have h1 : ¬ ((st.1 : Nat) : Int) ≤ (i : Int) := by clear hv; omega
      have hd1 : st.1 - (i + 1) = d := by clear hv; omega
      have hci : 0 ≤ (i : Int) ∧ (i : Int) < 8 := by clear hv; omega
      have e138 : gI σ 138 i = st.2.2.2.1 9 i + 1 := mG_k hO.2.2.2.2 (q := 6) (i := i) (by clear hv; omega) (by clear hv; omega) hi'
      have e136 : gI σ 136 i = st.2.2.2.1 8 i := mG_k hO.2.2.2.2 (q := 4) (i := i) (by clear hv e138; omega) (by clear hv e138; omega) hi'
      have ei : w32 ((i : Int) + 1) = ((i + 1 : Nat) : Int) := by clear hv e138 e136; rw [zw_id (by omega) (by omega)]; omega
      rw [zj_200_4, hO.2.2.2.2.1, if_neg h1]
      rcases hv with ⟨y1, hh⟩ | ⟨y0, hh⟩
      · rw [y1, if_pos (show ¬ (1 : Int) = 0 by decide), ei]
        exact ih (i + 1) 1 hd1 hi' (Or.inl ⟨rfl, hh⟩)
      · have next : ¬ (st.2.2.2.1 9 i = h ∧ st.2.2.2.1 8 i ≠ -1) → ∀ b, b < i + 1 → ¬ (st.2.2.2.1 9 b = h ∧ st.2.2.2.1 8 b ≠ -1) := fun q b hb => by
          by_cases e : b = i
          · rw [e]; exact q
          · exact hh b (by clear ei e138 e136; omega)
        rw [y0, if_neg (show ¬ ¬ (0 : Int) = 0 from fun w => w rfl), yAnd hci, Int.toNat_natCast, e138, e136, ei]
        by_cases c : st.2.2.2.1 9 i = h
        · rw [if_neg (fun w => w (by rw [c])), yAnd hci]
          by_cases c8 : st.2.2.2.1 8 i = -1
          · rw [if_pos c8, zj_200_40, ei]
            exact ih (i + 1) 0 hd1 hi' (Or.inr ⟨rfl, next (fun w => w.2 c8)⟩)
          · rw [if_neg c8]
            exact ih (i + 1) 1 hd1 hi' (Or.inl ⟨rfl, i, hi', c, c8⟩)
        · rw [if_pos (fun w => c (by clear ei e138 e136 hh next; omega)), zj_200_40, ei]
          exact ih (i + 1) 0 hd1 hi' (Or.inr ⟨rfl, next (fun w => c w.1)⟩)
  rw [ze_200]
  exact loop st.1 0 0 (Nat.sub_zero _) (Nat.zero_le _) (Or.inr ⟨rfl, fun b hb => absurd hb (Nat.not_lt_zero _)⟩)
theorem again_num {st : PST} {pd : Nat → Nat} (hg : pgd st pd) {p : Nat} (hp : p < st.1) (h4 : st.2.2.2.1 1 p = 3 ∨ st.2.2.2.1 1 p = 4) : ∃ o : Nat, st.2.2.2.1 2 p = (o : Int) ∧ o < p ∧ pln st.2.2.2.1 o ∧ st.2.2.2.1 1 o ≠ 4 ∧ st.2.2.2.1 8 o ≠ -1 := by
  obtain ⟨o, o1, o2, o3, o4, o5⟩ := (hg.2.1 p hp).2.2.2.2.1 h4
  obtain ⟨k, k1, -⟩ := (hg.2.1 o (by omega)).2.2.2.2.2.2.1 ⟨o3, o5⟩
  exact ⟨o, o1, o2, ⟨o3, o4⟩, o5, by omega⟩
theorem m_valueOf {K : List zF} {p q : Nat} {T : TRE} {st : PST} {pd : Nat → Nat} {w : Nat → Int} {z : Int} {σ : zW} (hO : mOn q T st σ) (hg : pgd st pd) (hc : st.1 ≤ 8) (hV : mVl st w σ) (hp : p < st.1) (h11 : st.2.2.2.1 11 p = 0) (hz : z = (p : Int)) : zEv true (zent 195 [.inr (.inr 122), .inl z] :: K) σ = zRet true K (some (.inl (vlp w st.2.2.2.1 p))) σ := by
  subst hz
  have hcp : 0 ≤ (p : Int) ∧ (p : Int) < 8 := by omega
  have e132 : gI σ 132 p = st.2.2.2.1 1 p := mG_k hO.2.2.2.2 (q := 0) (i := p) (by omega) (by omega) hp
  have e135 : gI σ 135 p = st.2.2.2.1 2 p := mG_k hO.2.2.2.2 (q := 3) (i := p) (by omega) (by omega) hp
  rw [ze_195, yAnd hcp, Int.toNat_natCast, e132, e135]
  unfold vlp mt
  by_cases c4 : st.2.2.2.1 1 p = 4
  · obtain ⟨o, o1, o2, -, -, o5⟩ := again_num hg hp (Or.inr c4)
    have hco : 0 ≤ (o : Int) ∧ (o : Int) < 8 := by clear e132 e135; omega
    rw [o1, Int.toNat_natCast, yAnd (fun w => hcp), yAnd (fun _ => ⟨hcp, hco⟩), if_neg (fun w => w c4), if_pos c4, hV o (by clear e132 e135; omega) o5]
  · obtain ⟨k, k1, -⟩ := (hg.2.1 p hp).2.2.2.2.2.2.1 ⟨h11, c4⟩
    rw [yAnd (fun w => hcp), yAnd (fun w => absurd c4 w), if_pos c4, if_neg c4, hV p hp (by clear e132 e135; omega)]
