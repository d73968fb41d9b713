/-! the model's relation -/
theorem m_isOver {K : List zF} (hK : K.length + 2 ≤ 60) {p m k a b : Nat} {T : TRE} {σ : zW} {z x y : Int} (hp : p < 3) (hg : tgd T) (hM : mTr p T σ) (hL : mLd T σ) (h64 : gI σ 122 64 = (p : Int)) (hm : 1 ≤ m ∧ m ≤ 5) (ha : a < T.1) (hb : b < T.1) (hz : z = (m : Int)) (hx : x = (a : Int)) (hy : y = (b : Int)) :
    zEv true (zent 189 [.inr (.inr 122), .inl z, .inl (k : Int), .inl x, .inl y] :: K) σ = zRet true K (some (.inl (zb (rbP T ((m : Int) - 1) k a b)))) σ := by
  subst hx
  subst hy
  subst hz
  have hn := hg.1.1
  have hca : 0 ≤ (a : Int) ∧ (a : Int) < 20 := by omega
  have hcb : 0 ≤ (b : Int) ∧ (b : Int) < 20 := by omega
  have a173 := (hL.2 a ha).1
  have b172 := (hL.2 b hb).2.2.2.2 a
  have hkn := kidc_le (dep := T.2.2) (a := a) T.1
  have hkb := kidc_le (dep := T.2.2) (a := a) (b + 1)
  rw [ze_189 (by omega), m_parentOf hp hg hM h64 hb rfl, zr_189_6 (by omega)]
  have hm5 : m = 1 ∨ m = 2 ∨ m = 3 ∨ m = 4 ∨ m = 5 := by clear a173; omega
  by_cases hpa : par T.2.2 b = (a : Int)
  · have e : (if ¬ par T.2.2 b = (a : Int) then (0 : Int) else 1) = 1 := if_neg (fun w => w hpa)
    rw [e, Int.toNat_natCast, Int.toNat_natCast, a173, b172 hpa]
    clear e a173 b172
    rcases hm5 with rfl | rfl | rfl | rfl | rfl
    · rw [if_neg (by decide), if_neg (by decide), yAnd (Or.inr rfl)]
      show _ = zRet true K (some (.inl (zb (par T.2.2 b = (a : Int))))) σ
      rw [zb_t hpa]
    · rw [if_neg (by decide), if_pos (by decide), m_isBelow (yKK (by omega)) hp hg hM h64 ha hb rfl rfl, zr_189_39, yAnd (by split; exact Or.inr rfl; exact Or.inl rfl)]
      show _ = zRet true K (some (.inl (zb (a < b ∧ b < ed T.2.2 T.1 a)))) σ
      by_cases c : a < b ∧ b < ed T.2.2 T.1 a
      · rw [if_pos c, zb_t c]
      · rw [if_neg c, zb_f c]
    · rw [if_pos (by decide), if_neg (by decide), if_neg (by decide), yAnd hca]
      show _ = zRet true K (some (.inl (zb (par T.2.2 b = (a : Int) ∧ kidc T.2.2 a T.1 = 1)))) σ
      by_cases c : kidc T.2.2 a T.1 = 1
      · rw [if_neg (fun w => w (by omega)), zb_t ⟨hpa, c⟩]
      · rw [if_pos (by omega), zj_189_106, zb_f (fun w => c w.2)]
    · rw [if_pos (by decide), if_neg (by decide), if_pos (by decide), if_neg (by decide), yAnd hcb]
      show _ = zRet true K (some (.inl (zb (par T.2.2 b = (a : Int) ∧ kidc T.2.2 a (b + 1) = k)))) σ
      by_cases c : kidc T.2.2 a (b + 1) = k
      · rw [if_neg (fun w => w (by omega)), zb_t ⟨hpa, c⟩]
      · rw [if_pos (by omega), zj_189_106, zb_f (fun w => c w.2)]
    · have e : w32 (w32 (((kidc T.2.2 a T.1 : Nat) : Int) + 1) - ((kidc T.2.2 a (b + 1) : Nat) : Int)) = ((kidc T.2.2 a T.1 : Nat) : Int) + 1 - ((kidc T.2.2 a (b + 1) : Nat) : Int) := by
        rw [zw_id (z := ((kidc T.2.2 a T.1 : Nat) : Int) + 1) (by omega) (by omega), zw_id (by omega) (by omega)]
      rw [if_pos (by decide), if_neg (by decide), if_pos (by decide), if_pos (by decide), yAnd hca, yAnd hcb, e]
      clear e
      show _ = zRet true K (some (.inl (zb (par T.2.2 b = (a : Int) ∧ kidc T.2.2 a T.1 + 1 = k + kidc T.2.2 a (b + 1))))) σ
      by_cases c : kidc T.2.2 a T.1 + 1 = k + kidc T.2.2 a (b + 1)
      · rw [if_neg (fun w => w (by omega)), zb_t ⟨hpa, c⟩]
      · rw [if_pos (by omega), zj_189_106, zb_f (fun w => c w.2)]
  · have e : (if ¬ par T.2.2 b = (a : Int) then (0 : Int) else 1) = 0 := if_pos hpa
    rw [e]
    clear e a173 b172
    rcases hm5 with rfl | rfl | rfl | rfl | rfl
    · rw [if_neg (by decide), if_neg (by decide), yAnd (Or.inl rfl)]
      show _ = zRet true K (some (.inl (zb (par T.2.2 b = (a : Int))))) σ
      rw [zb_f hpa]
    · rw [if_neg (by decide), if_pos (by decide), m_isBelow (yKK (by omega)) hp hg hM h64 ha hb rfl rfl, zr_189_39, yAnd (by split; exact Or.inr rfl; exact Or.inl rfl)]
      show _ = zRet true K (some (.inl (zb (a < b ∧ b < ed T.2.2 T.1 a)))) σ
      by_cases c : a < b ∧ b < ed T.2.2 T.1 a
      · rw [if_pos c, zb_t c]
      · rw [if_neg c, zb_f c]
    · rw [if_pos (by decide), if_pos rfl, zj_189_106]
      show _ = zRet true K (some (.inl (zb (par T.2.2 b = (a : Int) ∧ kidc T.2.2 a T.1 = 1)))) σ
      rw [zb_f (fun w => hpa w.1)]
    · rw [if_pos (by decide), if_pos rfl, zj_189_106]
      show _ = zRet true K (some (.inl (zb (par T.2.2 b = (a : Int) ∧ kidc T.2.2 a (b + 1) = k)))) σ
      rw [zb_f (fun w => hpa w.1)]
    · rw [if_pos (by decide), if_pos rfl, zj_189_106]
      show _ = zRet true K (some (.inl (zb (par T.2.2 b = (a : Int) ∧ kidc T.2.2 a T.1 + 1 = k + kidc T.2.2 a (b + 1))))) σ
      rw [zb_f (fun w => hpa w.1)]
/-- brothers, and how far -/
def bsd (T : TRE) (m a b : Nat) : Prop := sib T a b ∧ (m = 15 ∨ (m = 16 ∧ rnk T b = rnk T a + 1) ∨ (m = 17 ∧ rnk T a < rnk T b) ∨ (m = 18 ∧ rnk T a = rnk T b + 1) ∨ (m = 19 ∧ rnk T b < rnk T a))
theorem m_isBeside {K : List zF} (hK : K.length + 1 ≤ 60) {p m a b : Nat} {T : TRE} {σ : zW} (hp : p < 3) (hg : tgd T) (hM : mTr p T σ) (hL : mLd T σ) (h64 : gI σ 122 64 = (p : Int)) (hm : 15 ≤ m ∧ m ≤ 19) (ha : a < T.1) (hb : b < T.1) :
    zEv true (zent 190 [.inr (.inr 122), .inl (m : Int), .inl (a : Int), .inl (b : Int)] :: K) σ = zRet true K (some (.inl (zb (bsd T m a b)))) σ := by
  have hn := hg.1.1
  have hca : 0 ≤ (a : Int) ∧ (a : Int) < 20 := by omega
  have hcb : 0 ≤ (b : Int) ∧ (b : Int) < 20 := by omega
  have no : ¬ sib T a b → ∀ o4 o5 : Option zV, zEv true ((190, 31, [some (.inr (.inr 122)), some (.inl (m : Int)), some (.inl (a : Int)), some (.inl (b : Int)), o4, o5], []) :: K) σ = zRet true K (some (.inl (zb (bsd T m a b)))) σ := fun h o4 o5 => by
    rw [zj_190_31, yAnd hcb, yAnd hca, if_pos rfl, zj_190_110, zb_f (fun w => h w.1)]
  rw [ze_190 (by omega)]
  by_cases c1 : a = b
  · rw [if_pos (by rw [c1])]
    exact no (fun w => w.1 c1) _ _
  · rw [if_neg (fun w => c1 (by omega)), m_parentOf hp hg hM h64 ha rfl, zr_190_10 (by omega)]
    by_cases c2 : par T.2.2 a = -1
    · rw [if_pos c2]
      exact no (fun w => w.2.1 c2) _ _
    · rw [if_neg c2, m_parentOf hp hg hM h64 ha rfl, zr_190_19 (by omega), m_parentOf hp hg hM h64 hb rfl, zr_190_24]
      by_cases c3 : par T.2.2 a = par T.2.2 b
      · have hs : sib T a b := ⟨c1, c2, c3⟩
        obtain ⟨q, p1, p2, p3, p4⟩ := rnk_sib hs
        have a6 := (hL.2 a ha).2.2.2.2 q p1
        have b6 := (hL.2 b hb).2.2.2.2 q p2
        have hra : rnk T a ≤ a + 1 := by rw [p3]; exact kidc_le _
        have hrb : rnk T b ≤ b + 1 := by rw [p4]; exact kidc_le _
        rw [← p3] at a6
        rw [← p4] at b6
        have e : w32 (((rnk T b : Nat) : Int) - ((rnk T a : Nat) : Int)) = ((rnk T b : Nat) : Int) - ((rnk T a : Nat) : Int) := zw_id (by omega) (by omega)
        rw [if_neg (fun w => w c3), yAnd hcb, yAnd hca, Int.toNat_natCast, Int.toNat_natCast, a6, b6, e, if_neg (by decide)]
        clear e a6 b6 p1 p2 p3 p4
        have hm5 : m = 15 ∨ m = 16 ∨ m = 17 ∨ m = 18 ∨ m = 19 := by omega
        rcases hm5 with rfl | rfl | rfl | rfl | rfl
        · rw [if_pos (by decide), zb_t ⟨hs, Or.inl rfl⟩]
        · rw [if_neg (by decide), if_neg (fun w => w rfl)]
          by_cases c : rnk T b = rnk T a + 1
          · rw [if_pos (by omega), zb_t ⟨hs, Or.inr (Or.inl ⟨rfl, c⟩)⟩]
          · rw [if_neg (by omega), zj_190_72, if_pos (by decide), zj_190_83, if_pos (by decide), zj_190_95, if_pos (by decide), zj_190_110, zb_f (fun w => by rcases w.2 with q | q | q | q | q <;> omega)]
        · rw [if_neg (by decide), if_pos (by decide), zj_190_72, if_neg (fun w => w rfl)]
          by_cases c : rnk T a < rnk T b
          · rw [if_pos (by omega), zb_t ⟨hs, Or.inr (Or.inr (Or.inl ⟨rfl, c⟩))⟩]
          · rw [if_neg (by omega), zj_190_83, if_pos (by decide), zj_190_95, if_pos (by decide), zj_190_110, zb_f (fun w => by rcases w.2 with q | q | q | q | q <;> omega)]
        · rw [if_neg (by decide), if_pos (by decide), zj_190_72, if_pos (by decide), zj_190_83, if_neg (fun w => w rfl)]
          by_cases c : rnk T a = rnk T b + 1
          · rw [if_pos (by omega), zb_t ⟨hs, Or.inr (Or.inr (Or.inr (Or.inl ⟨rfl, c⟩)))⟩]
          · rw [if_neg (by omega), zj_190_95, if_pos (by decide), zj_190_110, zb_f (fun w => by rcases w.2 with q | q | q | q | q <;> omega)]
        · rw [if_neg (by decide), if_pos (by decide), zj_190_72, if_pos (by decide), zj_190_83, if_pos (by decide), zj_190_95, if_neg (fun w => w rfl)]
          by_cases c : rnk T b < rnk T a
          · rw [if_neg (by omega), zb_t ⟨hs, Or.inr (Or.inr (Or.inr (Or.inr ⟨rfl, c⟩)))⟩]
          · rw [if_pos (by omega), zj_190_110, zb_f (fun w => by rcases w.2 with q | q | q | q | q <;> omega)]
      · rw [if_pos c3]
        exact no (fun w => c3 w.2.2) _ _
theorem sib_comm {T : TRE} {a b : Nat} : sib T a b ↔ sib T b a := by
  constructor
  · intro h; exact ⟨fun w => h.1 w.symm, by rw [← h.2.2]; exact h.2.1, h.2.2.symm⟩
  · intro h; exact ⟨fun w => h.1 w.symm, by rw [← h.2.2]; exact h.2.1, h.2.2.symm⟩
theorem relP_bsd {T : TRE} {m k a b : Nat} (hm : 15 ≤ m ∧ m ≤ 19) : bsd T m a b ↔ relP T m k a b := by
  have hm5 : m = 15 ∨ m = 16 ∨ m = 17 ∨ m = 18 ∨ m = 19 := by omega
  unfold relP bsd
  rcases hm5 with rfl | rfl | rfl | rfl | rfl
  · have ht : ¬ trm 15 := by unfold trm; omega
    exact ⟨fun w => Or.inr ⟨ht, w.1⟩, fun w => by rcases w with w | w; exact absurd w.1 ht; exact ⟨w.2, Or.inl rfl⟩⟩
  · have ht : ¬ trm 16 := by unfold trm; omega
    refine ⟨fun w => Or.inr ⟨ht, w.1, ?_⟩, fun w => ?_⟩
    · rcases w.2 with q | q | q | q | q <;> omega
    · rcases w with w | w
      · exact absurd w.1 ht
      · have h2 : sib T a b ∧ rnk T b = rnk T a + 1 := w.2
        exact ⟨h2.1, Or.inr (Or.inl ⟨rfl, h2.2⟩)⟩
  · have ht : ¬ trm 17 := by unfold trm; omega
    refine ⟨fun w => Or.inr ⟨ht, w.1, ?_⟩, fun w => ?_⟩
    · rcases w.2 with q | q | q | q | q <;> omega
    · rcases w with w | w
      · exact absurd w.1 ht
      · have h2 : sib T a b ∧ rnk T a < rnk T b := w.2
        exact ⟨h2.1, Or.inr (Or.inr (Or.inl ⟨rfl, h2.2⟩))⟩
  · have ht : trm 18 := by unfold trm; omega
    refine ⟨fun w => Or.inl ⟨ht, sib_comm.mp w.1, ?_⟩, fun w => ?_⟩
    · rcases w.2 with q | q | q | q | q <;> omega
    · rcases w with w | w
      · have h2 : sib T b a ∧ rnk T a = rnk T b + 1 := w.2
        exact ⟨sib_comm.mp h2.1, Or.inr (Or.inr (Or.inr (Or.inl ⟨rfl, h2.2⟩)))⟩
      · exact absurd ht w.1
  · have ht : trm 19 := by unfold trm; omega
    refine ⟨fun w => Or.inl ⟨ht, sib_comm.mp w.1, ?_⟩, fun w => ?_⟩
    · rcases w.2 with q | q | q | q | q <;> omega
    · rcases w with w | w
      · have h2 : sib T b a ∧ rnk T b < rnk T a := w.2
        exact ⟨sib_comm.mp h2.1, Or.inr (Or.inr (Or.inr (Or.inr ⟨rfl, h2.2⟩)))⟩
      · exact absurd ht w.1
theorem zrem2 : ∀ m, m < 20 → zrem ((m : Nat) : Int) 2 = ((m % 2 : Nat) : Int) := by decide +kernel
/-- whether the relation of a part holds -/
theorem m_holds {K : List zF} (hK : K.length + 3 ≤ 60) {p q m k a b : Nat} {T : TRE} {σ : zW} {z x y : Int} (hp : p < 3) (hg : tgd T) (hM : mTr p T σ) (hL : mLd T σ) (h64 : gI σ 122 64 = (p : Int)) (hq : q < 8) (h142 : gI σ 142 q = (m : Int)) (h143 : gI σ 143 q = (k : Int)) (hm : 1 ≤ m ∧ m ≤ 19) (ha : a < T.1) (hb : b < T.1) (hz : z = (q : Int)) (hx : x = (a : Int)) (hy : y = (b : Int)) :
    zEv true (zent 191 [.inr (.inr 122), .inl z, .inl x, .inl y] :: K) σ = zRet true K (some (.inl (zb (relP T m k a b)))) σ := by
  subst hz
  subst hx
  subst hy
  have hn := hg.1.1
  have hcq : 0 ≤ (q : Int) ∧ (q : Int) < 8 := by omega
  have hca : 0 ≤ (a : Int) ∧ (a : Int) < 20 := by omega
  have hcb : 0 ≤ (b : Int) ∧ (b : Int) < 20 := by omega
  rw [ze_191 (by omega), yAnd hcq, Int.toNat_natCast, Int.toNat_natCast, Int.toNat_natCast, h142, h143]
  clear h142 h143
  by_cases c11 : 11 ≤ m
  · rw [if_pos (by omega)]
    by_cases c14 : m ≤ 14
    · obtain ⟨-, a170, a171, -, -⟩ := hL.2 a ha
      obtain ⟨-, b170, b171, -, -⟩ := hL.2 b hb
      have ea := (ed_spec (dep := T.2.2) ha).2.1
      have eb := (ed_spec (dep := T.2.2) hb).2.1
      have wa := wrd_le (dep := T.2.2) (n := T.1) (ed T.2.2 T.1 a)
      have wb := wrd_le (dep := T.2.2) (n := T.1) (ed T.2.2 T.1 b)
      have va := wrd_le (dep := T.2.2) (n := T.1) a
      have vb := wrd_le (dep := T.2.2) (n := T.1) b
      rw [if_pos (by clear a170 a171 b170 b171; omega), yAnd (fun _ => ⟨hca, hcb⟩), yAnd (fun _ => ⟨hcb, hca⟩), zrem2 m (by clear a170 a171 b170 b171; omega), a170, a171, b170, b171]
      clear a170 a171 b170 b171
      generalize hxa : wrd T.2.2 T.1 (ed T.2.2 T.1 a) = xa at *
      generalize hxb : wrd T.2.2 T.1 (ed T.2.2 T.1 b) = xb at *
      generalize hya : wrd T.2.2 T.1 a = ya at *
      generalize hyb : wrd T.2.2 T.1 b = yb at *
      have r5 : ∀ k : Nat, rbP T 5 k a b ↔ xa = yb := fun k => by rw [← hxa, ← hyb]; exact Iff.rfl
      have r6 : ∀ k : Nat, rbP T 6 k a b ↔ xa ≤ yb := fun k => by rw [← hxa, ← hyb]; exact Iff.rfl
      have s5 : ∀ k : Nat, rbP T 5 k b a ↔ xb = ya := fun k => by rw [← hxb, ← hya]; exact Iff.rfl
      have s6 : ∀ k : Nat, rbP T 6 k b a ↔ xb ≤ ya := fun k => by rw [← hxb, ← hya]; exact Iff.rfl
      have e1 : w32 (((yb : Nat) : Int) - (((xa : Nat) : Int) - 1)) = ((yb : Nat) : Int) - (((xa : Nat) : Int) - 1) := zw_id (by omega) (by omega)
      have e2 : w32 (((ya : Nat) : Int) - (((xb : Nat) : Int) - 1)) = ((ya : Nat) : Int) - (((xb : Nat) : Int) - 1) := by clear e1; exact zw_id (by omega) (by omega)
      rw [e1, e2]
      clear e1 e2 hxa hxb hya hyb
      have hm4 : m = 11 ∨ m = 12 ∨ m = 13 ∨ m = 14 := by omega
      unfold relP
      rcases hm4 with rfl | rfl | rfl | rfl
      · have ht : ¬ trm 11 := by unfold trm; omega
        have hz : ((trm 11 ∧ rbP T (kdm 11) k b a) ∨ (¬ trm 11 ∧ rbP T (kdm 11) k a b)) ↔ xa = yb := ⟨fun w => by rcases w with w | w; exact absurd w.1 ht; exact (r5 k).mp w.2, fun w => Or.inr ⟨ht, (r5 k).mpr w⟩⟩
        rw [zb_c hz, if_neg (show ¬ (13 : Int) ≤ ((11 : Nat) : Int) by decide), if_neg (show ¬ ¬ ((11 % 2 : Nat) : Int) = 1 by decide)]
        by_cases c : xa = yb
        · rw [if_neg (fun w => w (by omega)), zb_t c]
        · rw [if_pos (by omega), zb_f c]
      · have ht : ¬ trm 12 := by unfold trm; omega
        have hz : ((trm 12 ∧ rbP T (kdm 12) k b a) ∨ (¬ trm 12 ∧ rbP T (kdm 12) k a b)) ↔ xa ≤ yb := ⟨fun w => by rcases w with w | w; exact absurd w.1 ht; exact (r6 k).mp w.2, fun w => Or.inr ⟨ht, (r6 k).mpr w⟩⟩
        rw [zb_c hz, if_neg (show ¬ (13 : Int) ≤ ((12 : Nat) : Int) by decide), if_pos (show ¬ ((12 % 2 : Nat) : Int) = 1 by decide)]
        by_cases c : xa ≤ yb
        · rw [if_neg (by omega), zb_t c]
        · rw [if_pos (by omega), zb_f c]
      · have ht : trm 13 := by unfold trm; omega
        have hz : ((trm 13 ∧ rbP T (kdm 13) k b a) ∨ (¬ trm 13 ∧ rbP T (kdm 13) k a b)) ↔ xb = ya := ⟨fun w => by rcases w with w | w; exact (s5 k).mp w.2; exact absurd ht w.1, fun w => Or.inl ⟨ht, (s5 k).mpr w⟩⟩
        rw [zb_c hz, if_pos (show (13 : Int) ≤ ((13 : Nat) : Int) by decide), if_neg (show ¬ ¬ ((13 % 2 : Nat) : Int) = 1 by decide)]
        by_cases c : xb = ya
        · rw [if_neg (fun w => w (by omega)), zb_t c]
        · rw [if_pos (by omega), zb_f c]
      · have ht : trm 14 := by unfold trm; omega
        have hz : ((trm 14 ∧ rbP T (kdm 14) k b a) ∨ (¬ trm 14 ∧ rbP T (kdm 14) k a b)) ↔ xb ≤ ya := ⟨fun w => by rcases w with w | w; exact (s6 k).mp w.2; exact absurd ht w.1, fun w => Or.inl ⟨ht, (s6 k).mpr w⟩⟩
        rw [zb_c hz, if_pos (show (13 : Int) ≤ ((14 : Nat) : Int) by decide), if_pos (show ¬ ((14 % 2 : Nat) : Int) = 1 by decide)]
        by_cases c : xb ≤ ya
        · rw [if_neg (by omega), zb_t c]
        · rw [if_pos (by omega), zb_f c]
    · rw [if_neg (by omega), m_isBeside (yKK (by omega)) hp hg hM hL h64 (by omega) ha hb, zr_191_71, yAnd (zb01 _), zb_c (relP_bsd (T := T) (k := k) (a := a) (b := b) (m := m) (by omega))]
  · rw [if_neg (by omega)]
    by_cases c6 : 6 ≤ m
    · have ht : trm m := by unfold trm; omega
      have ek : ((m - 5 : Nat) : Int) - 1 = kdm m := by unfold kdm; rw [if_neg (by omega), if_neg (by omega), if_pos (by omega)]; omega
      have hz : relP T m k a b ↔ rbP T (((m - 5 : Nat) : Int) - 1) k b a := by
        rw [ek]
        unfold relP
        exact ⟨fun w => by rcases w with w | w; exact w.2; exact absurd ht w.1, fun w => Or.inl ⟨ht, w⟩⟩
      have e5 : w32 ((m : Int) - 5) = ((m - 5 : Nat) : Int) := by clear ek; rw [zw_id (by omega) (by omega)]; omega
      rw [if_pos (by clear e5 ek; omega), yAnd hcq, e5]
      clear e5
      rw [m_isOver (m := m - 5) (yKK (by omega)) hp hg hM hL h64 (by omega) hb ha rfl rfl rfl, zr_191_55, yAnd (zb01 _), zb_c hz]
    · have ht : ¬ trm m := by unfold trm; omega
      have ek : (m : Int) - 1 = kdm m := by unfold kdm; rw [if_neg (by omega), if_pos (by omega)]
      have hz : relP T m k a b ↔ rbP T ((m : Int) - 1) k a b := by
        rw [ek]
        unfold relP
        exact ⟨fun w => by rcases w with w | w; exact absurd w.1 ht; exact w.2, fun w => Or.inr ⟨ht, w⟩⟩
      rw [if_neg (by omega), yAnd hcq, m_isOver (m := m) (yKK (by omega)) hp hg hM hL h64 (by omega) ha hb rfl rfl rfl, zr_191_36, yAnd (zb01 _), zb_c hz]
