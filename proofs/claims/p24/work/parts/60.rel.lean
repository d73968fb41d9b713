/-! relations of nodes -/
noncomputable def zb (P : Prop) : Int := @ite Int P (Classical.propDecidable P) 1 0
theorem zb_t {P : Prop} (h : P) : zb P = 1 := by unfold zb; rw [if_pos h]
theorem zb_f {P : Prop} (h : ¬ P) : zb P = 0 := by unfold zb; rw [if_neg h]
theorem zb_c {P Q : Prop} (h : P ↔ Q) : zb P = zb Q := by
  rcases Classical.em P with q | q
  · rw [zb_t q, zb_t (h.mp q)]
  · rw [zb_f q, zb_f (fun w => q (h.mpr w))]
theorem zb01 (P : Prop) : zb P = 0 ∨ zb P = 1 := by
  rcases Classical.em P with q | q
  · exact Or.inr (zb_t q)
  · exact Or.inl (zb_f q)
theorem zb0 {P : Prop} : zb P = 0 ↔ ¬ P := by
  rcases Classical.em P with q | q
  · rw [zb_t q]; exact ⟨fun w => absurd w (by decide), fun w => absurd q w⟩
  · rw [zb_f q]; exact ⟨fun _ => q, fun _ => rfl⟩
def sib (T : TRE) (a b : Nat) : Prop := a ≠ b ∧ par T.2.2 a ≠ -1 ∧ par T.2.2 a = par T.2.2 b
def rnk (T : TRE) (x : Nat) : Nat := kidc T.2.2 (par T.2.2 x).toNat (x + 1)
/-- the relation q of a and b, with a number k -/
def rbP (T : TRE) (q : Int) (k a b : Nat) : Prop :=
  if q = 0 then par T.2.2 b = (a : Int) else if q = 1 then a < b ∧ b < ed T.2.2 T.1 a
  else if q = 2 then par T.2.2 b = (a : Int) ∧ kidc T.2.2 a T.1 = 1
  else if q = 3 then par T.2.2 b = (a : Int) ∧ kidc T.2.2 a (b + 1) = k
  else if q = 4 then par T.2.2 b = (a : Int) ∧ kidc T.2.2 a T.1 + 1 = k + kidc T.2.2 a (b + 1)
  else if q = 5 then wrd T.2.2 T.1 (ed T.2.2 T.1 a) = wrd T.2.2 T.1 b
  else if q = 6 then wrd T.2.2 T.1 (ed T.2.2 T.1 a) ≤ wrd T.2.2 T.1 b
  else if q = 7 then sib T a b
  else if q = 8 then sib T a b ∧ rnk T b = rnk T a + 1
  else sib T a b ∧ rnk T a < rnk T b
/-- an operator m is a relation, told of this node and the other, or of the other and this -/
def kdm (m : Nat) : Int := if m = 0 then 0 else if m ≤ 5 then (m : Int) - 1 else if m ≤ 10 then (m : Int) - 6 else if m = 11 ∨ m = 13 then 5 else if m = 12 ∨ m = 14 then 6 else if m = 15 then 7 else if m = 16 ∨ m = 18 then 8 else 9
def trm (m : Nat) : Prop := (6 ≤ m ∧ m ≤ 10) ∨ m = 13 ∨ m = 14 ∨ m = 18 ∨ m = 19
def relP (T : TRE) (m k a b : Nat) : Prop := (trm m ∧ rbP T (kdm m) k b a) ∨ (¬ trm m ∧ rbP T (kdm m) k a b)
def trmB (m : Nat) : Bool := (decide (6 ≤ m) && decide (m ≤ 10)) || decide (m = 13) || decide (m = 14) || decide (m = 18) || decide (m = 19)
theorem trmB_iff (m : Nat) : trmB m = true ↔ trm m := by
  unfold trmB trm
  simp only [Bool.or_eq_true, Bool.and_eq_true, decide_eq_true_eq]
  constructor <;> intro h <;> omega
theorem cop_all : ∀ m, m < 20 → ∀ k, k < 10 → zand (cop m k) 15 = kdm m ∧ (zand (cop m k) 16 = 0 ↔ trmB m = false) ∧ (1 ≤ m → m ≤ 10 → zshr (cop m k) 5 = (k : Int)) := by decide +kernel
theorem kdm_b {m : Nat} (h : m ≤ 19) : 0 ≤ kdm m ∧ kdm m ≤ 9 := by
  unfold kdm
  repeat' split
  all_goals omega
abbrev Xno : Nat → Nat → Prop := fun _ _ => False
/-- the chain of the class's relations for nodes that aren't brothers -/
theorem c_rel_no {K : List zF} {t : Nat} {T : TRE} {σ : zW} (ht : zTr t) (hg : tgd T) (hT : cTr t T σ) {op q th u : Int} {k a b : Nat} {o2 o3 o4 o9 : Option zV} (hq : zand op 15 = q) (hqb : 0 ≤ q ∧ q ≤ 9) (hth : q = 3 ∨ q = 4 → th = (k : Int)) (ha : a < T.1) (hb : b < T.1) (hu : u = zb (par T.2.2 b = (a : Int))) (hs : ¬ sib T a b) :
    zEv true ((102, 101, [some (.inr (.inr t)), some (.inl op), o2, o3, o4, some (.inl (a : Int)), some (.inl (b : Int)), some (.inl th), some (.inl u), o9], []) :: K) σ = zRet true K (some (.inl (zb (rbP T q k a b)))) σ := by
  have hn := hg.1.1
  have hca : 0 ≤ (a : Int) ∧ (a : Int) < 20 := by omega
  have hcb : 0 ≤ (b : Int) ∧ (b : Int) < 20 := by omega
  obtain ⟨a3, a4, a5, a7, a8⟩ := hT.2.1 a ha
  obtain ⟨b3, b4, b5, b7, b8⟩ := hT.2.1 b hb
  have b6 := hT.2.2.1 b a hb
  have hwa := wrd_le (dep := T.2.2) (n := T.1) (ed T.2.2 T.1 a)
  have hea := (ed_spec (dep := T.2.2) ha).2.1
  have hkn := kidc_le (dep := T.2.2) (a := a) T.1
  have hkb := kidc_le (dep := T.2.2) (a := a) (b + 1)
  rw [zj_102_101 ht, hq, Int.toNat_natCast, Int.toNat_natCast, a4, a5, a8, b7]
  have hq10 : q = 0 ∨ q = 1 ∨ q = 2 ∨ q = 3 ∨ q = 4 ∨ q = 5 ∨ q = 6 ∨ q = 7 ∨ q = 8 ∨ q = 9 := by clear a3 a4 a5 a7 a8 b3 b4 b5 b7 b8 hwa hea hkn hkb hq hu hth; omega
  have und : u = 0 ↔ ¬ par T.2.2 b = (a : Int) := by rw [hu]; exact zb0
  clear a3 a4 a5 a7 a8 b3 b4 b5 b7 b8
  rcases hq10 with rfl | rfl | rfl | rfl | rfl | rfl | rfl | rfl | rfl | rfl
  · rw [if_pos rfl, hu, yAnd (zb01 _)]
    rfl
  · rw [if_neg (by decide), if_pos rfl]
    show _ = zRet true K (some (.inl (zb (a < b ∧ b < ed T.2.2 T.1 a)))) σ
    by_cases c : b ≤ a
    · rw [if_pos (by omega), zj_102_190, zb_f (by omega)]
    · rw [if_neg (by omega), yAnd hca]
      by_cases c2 : ed T.2.2 T.1 a ≤ b
      · rw [if_pos (by omega), zj_102_190, zb_f (by omega)]
      · rw [if_neg (by omega), zb_t (by omega)]
  · rw [if_neg (by decide), if_neg (by decide), if_pos rfl]
    show _ = zRet true K (some (.inl (zb (par T.2.2 b = (a : Int) ∧ kidc T.2.2 a T.1 = 1)))) σ
    by_cases c : u = 0
    · rw [if_pos c, zj_102_212, zb_f (fun w => (und.mp c) w.1)]
    · rw [if_neg c, yAnd hca]
      have hp : par T.2.2 b = (a : Int) := Classical.byContradiction (fun w => c (und.mpr w))
      by_cases c2 : kidc T.2.2 a T.1 = 1
      · rw [if_neg (fun w => w (by omega)), zb_t ⟨hp, c2⟩]
      · rw [if_pos (by omega), zj_102_212, zb_f (fun w => c2 w.2)]
  · rw [if_neg (by decide), if_neg (by decide), if_neg (by decide), if_pos rfl]
    show _ = zRet true K (some (.inl (zb (par T.2.2 b = (a : Int) ∧ kidc T.2.2 a (b + 1) = k)))) σ
    by_cases c : u = 0
    · rw [if_pos c, zj_102_235, zb_f (fun w => (und.mp c) w.1)]
    · have hp : par T.2.2 b = (a : Int) := Classical.byContradiction (fun w => c (und.mpr w))
      rw [if_neg c, yAnd hcb, b6 hp, hth (Or.inl rfl)]
      by_cases c2 : kidc T.2.2 a (b + 1) = k
      · rw [if_neg (fun w => w (by omega)), zb_t ⟨hp, c2⟩]
      · rw [if_pos (by omega), zj_102_235, zb_f (fun w => c2 w.2)]
  · rw [if_neg (by decide), if_neg (by decide), if_neg (by decide), if_neg (by decide), if_pos rfl]
    show _ = zRet true K (some (.inl (zb (par T.2.2 b = (a : Int) ∧ kidc T.2.2 a T.1 + 1 = k + kidc T.2.2 a (b + 1))))) σ
    by_cases c : u = 0
    · rw [if_pos c, zj_102_268, zb_f (fun w => (und.mp c) w.1)]
    · have hp : par T.2.2 b = (a : Int) := Classical.byContradiction (fun w => c (und.mpr w))
      have e : w32 (w32 (((kidc T.2.2 a T.1 : Nat) : Int) - ((kidc T.2.2 a (b + 1) : Nat) : Int)) + 1) = ((kidc T.2.2 a T.1 : Nat) : Int) - ((kidc T.2.2 a (b + 1) : Nat) : Int) + 1 := by
        rw [zw_id (z := ((kidc T.2.2 a T.1 : Nat) : Int) - ((kidc T.2.2 a (b + 1) : Nat) : Int)) (by omega) (by omega), zw_id (by omega) (by omega)]
      rw [if_neg c, yAnd hca, yAnd hcb, b6 hp, hth (Or.inr rfl), e]
      clear e
      by_cases c2 : kidc T.2.2 a T.1 + 1 = k + kidc T.2.2 a (b + 1)
      · rw [if_neg (fun w => w (by omega)), zb_t ⟨hp, c2⟩]
      · rw [if_pos (by omega), zj_102_268, zb_f (fun w => c2 w.2)]
  · rw [if_neg (by decide), if_neg (by decide), if_neg (by decide), if_neg (by decide), if_neg (by decide), if_pos rfl]
    show _ = zRet true K (some (.inl (zb (wrd T.2.2 T.1 (ed T.2.2 T.1 a) = wrd T.2.2 T.1 b)))) σ
    have e : w32 (((wrd T.2.2 T.1 (ed T.2.2 T.1 a) : Nat) : Int) - 1 + 1) = ((wrd T.2.2 T.1 (ed T.2.2 T.1 a) : Nat) : Int) := by rw [zw_id (by omega) (by omega)]; omega
    rw [yAnd hca, yAnd hcb, e]
    clear e
    by_cases c : wrd T.2.2 T.1 (ed T.2.2 T.1 a) = wrd T.2.2 T.1 b
    · rw [if_neg (fun w => w (by omega)), zb_t c]
    · rw [if_pos (by omega), zb_f c]
  · rw [if_neg (by decide), if_neg (by decide), if_neg (by decide), if_neg (by decide), if_neg (by decide), if_neg (by decide), if_pos rfl]
    show _ = zRet true K (some (.inl (zb (wrd T.2.2 T.1 (ed T.2.2 T.1 a) ≤ wrd T.2.2 T.1 b)))) σ
    rw [yAnd hca, yAnd hcb]
    by_cases c : wrd T.2.2 T.1 (ed T.2.2 T.1 a) ≤ wrd T.2.2 T.1 b
    · rw [if_neg (by omega), zb_t c]
    · rw [if_pos (by omega), zb_f c]
  · rw [if_neg (by decide), if_neg (by decide), if_neg (by decide), if_neg (by decide), if_neg (by decide), if_neg (by decide), if_neg (by decide), if_pos rfl]
    show _ = zRet true K (some (.inl (zb (sib T a b)))) σ
    rw [zb_f hs]
  · rw [if_neg (by decide), if_neg (by decide), if_neg (by decide), if_neg (by decide), if_neg (by decide), if_neg (by decide), if_neg (by decide), if_neg (by decide), if_pos rfl, if_pos rfl, zj_102_349]
    show _ = zRet true K (some (.inl (zb (sib T a b ∧ rnk T b = rnk T a + 1)))) σ
    rw [zb_f (fun w => hs w.1)]
  · rw [if_neg (by decide), if_neg (by decide), if_neg (by decide), if_neg (by decide), if_neg (by decide), if_neg (by decide), if_neg (by decide), if_neg (by decide), if_neg (by decide), if_pos rfl, if_pos rfl, zj_102_377]
    show _ = zRet true K (some (.inl (zb (sib T a b ∧ rnk T a < rnk T b)))) σ
    rw [zb_f (fun w => hs w.1)]
