/-! the class's relation -/
theorem rnk_sib {T : TRE} {a b : Nat} (h : sib T a b) : ∃ p : Nat, par T.2.2 a = (p : Int) ∧ par T.2.2 b = (p : Int) ∧ rnk T a = kidc T.2.2 p (a + 1) ∧ rnk T b = kidc T.2.2 p (b + 1) := by
  have h1 := par_lt T.2.2 a
  obtain ⟨p, hp⟩ : ∃ p : Nat, par T.2.2 a = (p : Int) := ⟨(par T.2.2 a).toNat, by have := h.2.1; omega⟩
  have hp2 : par T.2.2 b = (p : Int) := by rw [← h.2.2]; exact hp
  refine ⟨p, hp, hp2, ?_, ?_⟩
  · unfold rnk; rw [hp, Int.toNat_natCast]
  · unfold rnk; rw [hp2, Int.toNat_natCast]
/-- the relation of two nodes as the class tells it -/
theorem c_relAB {K : List zF} {t : Nat} {T : TRE} {σ : zW} (ht : zTr t) (hg : tgd T) (hT : cTr t T σ) {op q : Int} {k a b : Nat} {x y : Int} {tv : Int} (hq : zand op 15 = q) (hqb : 0 ≤ q ∧ q ≤ 9) (hth : q = 3 ∨ q = 4 → zshr op 5 = (k : Int)) (ha : a < T.1) (hb : b < T.1)
    (htv : (if zand op 16 = 0 then (0 : Int) else 1) = tv) (hA : (if tv = 0 then x else y : Int) = (a : Int)) (hB : (if tv = 0 then y else x : Int) = (b : Int)) :
    zEv true (zent 102 [.inr (.inr t), .inl op, .inl x, .inl y] :: K) σ = zRet true K (some (.inl (zb (rbP T q k a b)))) σ := by
  have hn := hg.1.1
  have hca : 0 ≤ (a : Int) ∧ (a : Int) < 20 := by omega
  have hcb : 0 ≤ (b : Int) ∧ (b : Int) < 20 := by omega
  have a3 := (hT.2.1 a ha).1
  have b3 := (hT.2.1 b hb).1
  have hu : (if ¬ par T.2.2 b = (a : Int) then (0 : Int) else 1) = zb (par T.2.2 b = (a : Int)) := by
    by_cases c : par T.2.2 b = (a : Int)
    · rw [if_neg (fun w => w c), zb_t c]
    · rw [if_pos c, zb_f c]
  rw [ze_102 ht, htv, hA, hB, Int.toNat_natCast, Int.toNat_natCast, b3, a3, hu, yAnd hcb]
  by_cases c1 : a = b
  · rw [if_pos (by rw [c1])]
    exact c_rel_no ht hg hT hq hqb hth ha hb rfl (fun w => w.1 c1)
  · rw [if_neg (fun w => c1 (by omega)), yAnd hca]
    by_cases c2 : par T.2.2 a = -1
    · rw [if_pos c2]
      exact c_rel_no ht hg hT hq hqb hth ha hb rfl (fun w => w.2.1 c2)
    · rw [if_neg c2, yAnd hca, yAnd hcb]
      by_cases c3 : par T.2.2 a = par T.2.2 b
      · have hs : sib T a b := ⟨c1, c2, c3⟩
        obtain ⟨p, p1, p2, p3, p4⟩ := rnk_sib hs
        obtain ⟨-, a4, a5, a7, a8⟩ := hT.2.1 a ha
        obtain ⟨-, b4, b5, b7, b8⟩ := hT.2.1 b hb
        have b6 := hT.2.2.1 b p hb p2
        have a6 := hT.2.2.1 a p ha p1
        rw [← p4] at b6
        rw [← p3] at a6
        have hra : rnk T a ≤ a + 1 := by rw [p3]; exact kidc_le _
        have hpb : par T.2.2 b ≠ (a : Int) := fun w => by
          have := par_lt T.2.2 a
          rw [c3, w] at this
          omega
        have hwa := wrd_le (dep := T.2.2) (n := T.1) (ed T.2.2 T.1 a)
        have hea := (ed_spec (dep := T.2.2) ha).2.1
        rw [if_neg (fun w => w c3), hq, a4, a5, a8, b7, a6, b6]
        have hq10 : q = 0 ∨ q = 1 ∨ q = 2 ∨ q = 3 ∨ q = 4 ∨ q = 5 ∨ q = 6 ∨ q = 7 ∨ q = 8 ∨ q = 9 := by clear a3 a4 a5 a7 a8 b3 b4 b5 b7 b8 hwa hea hq hu hth a6 b6 htv hA hB hra p1 p2 p3 p4 c2 c3; omega
        have hzu : zb (par T.2.2 b = (a : Int)) = 0 := zb_f hpb
        clear a3 a4 a5 a7 a8 b3 b4 b5 b7 b8 a6 b6 hu p1 p2 p3 p4 htv hA hB
        rcases hq10 with rfl | rfl | rfl | rfl | rfl | rfl | rfl | rfl | rfl | rfl
        · rw [if_pos rfl, yAnd (zb01 _)]
          rfl
        · rw [if_neg (by decide), if_pos rfl]
          show _ = zRet true K (some (.inl (zb (a < b ∧ b < ed T.2.2 T.1 a)))) σ
          by_cases c : b ≤ a
          · rw [if_pos (by omega), zj_102_190, zb_f (by omega)]
          · rw [if_neg (by omega), yAnd hca]
            by_cases c2 : ed T.2.2 T.1 a ≤ b
            · rw [if_pos (by omega), zj_102_190, zb_f (by omega)]
            · rw [if_neg (by omega), zb_t (by omega)]
        · rw [if_neg (by decide), if_neg (by decide), if_pos rfl, if_pos hzu, zj_102_212]
          show _ = zRet true K (some (.inl (zb (par T.2.2 b = (a : Int) ∧ kidc T.2.2 a T.1 = 1)))) σ
          rw [zb_f (fun w => hpb w.1)]
        · rw [if_neg (by decide), if_neg (by decide), if_neg (by decide), if_pos rfl, if_pos hzu, zj_102_235]
          show _ = zRet true K (some (.inl (zb (par T.2.2 b = (a : Int) ∧ kidc T.2.2 a (b + 1) = k)))) σ
          rw [zb_f (fun w => hpb w.1)]
        · rw [if_neg (by decide), if_neg (by decide), if_neg (by decide), if_neg (by decide), if_pos rfl, if_pos hzu, zj_102_268]
          show _ = zRet true K (some (.inl (zb (par T.2.2 b = (a : Int) ∧ kidc T.2.2 a T.1 + 1 = k + kidc T.2.2 a (b + 1))))) σ
          rw [zb_f (fun w => hpb w.1)]
        · rw [if_neg (by decide), if_neg (by decide), if_neg (by decide), if_neg (by decide), if_neg (by decide), if_pos rfl]
          show _ = zRet true K (some (.inl (zb (wrd T.2.2 T.1 (ed T.2.2 T.1 a) = wrd T.2.2 T.1 b)))) σ
          have e : w32 (((wrd T.2.2 T.1 (ed T.2.2 T.1 a) : Nat) : Int) - 1 + 1) = ((wrd T.2.2 T.1 (ed T.2.2 T.1 a) : Nat) : Int) := by rw [zw_id (by omega) (by omega)]; omega
          rw [yAnd hca, yAnd hcb, e]
          clear e
          by_cases c : wrd T.2.2 T.1 (ed T.2.2 T.1 a) = wrd T.2.2 T.1 b
          · rw [if_neg (fun w => w (by omega)), zb_t c]
          · rw [if_pos (by omega), zb_f c]
        · rw [if_neg (by decide), if_neg (by decide), if_neg (by decide), if_neg (by decide), if_neg (by decide), if_neg (by decide), if_pos rfl]
          show _ = zRet true K (some (.inl (zb (wrd T.2.2 T.1 (ed T.2.2 T.1 a) ≤ wrd T.2.2 T.1 b)))) σ
          rw [yAnd hca, yAnd hcb]
          by_cases c : wrd T.2.2 T.1 (ed T.2.2 T.1 a) ≤ wrd T.2.2 T.1 b
          · rw [if_neg (by omega), zb_t c]
          · rw [if_pos (by omega), zb_f c]
        · rw [if_neg (by decide), if_neg (by decide), if_neg (by decide), if_neg (by decide), if_neg (by decide), if_neg (by decide), if_neg (by decide), if_pos rfl]
          show _ = zRet true K (some (.inl (zb (sib T a b)))) σ
          rw [zb_t hs]
        · rw [if_neg (by decide), if_neg (by decide), if_neg (by decide), if_neg (by decide), if_neg (by decide), if_neg (by decide), if_neg (by decide), if_neg (by decide), if_pos rfl, if_neg (by decide), yAnd hcb, yAnd hca]
          show _ = zRet true K (some (.inl (zb (sib T a b ∧ rnk T b = rnk T a + 1)))) σ
          have e : w32 (((rnk T a : Nat) : Int) + 1) = ((rnk T a : Nat) : Int) + 1 := zw_id (by omega) (by omega)
          rw [e]
          clear e
          by_cases c : rnk T b = rnk T a + 1
          · rw [if_neg (fun w => w (by omega)), zb_t ⟨hs, c⟩]
          · rw [if_pos (by omega), zj_102_349, zb_f (fun w => c w.2)]
        · rw [if_neg (by decide), if_neg (by decide), if_neg (by decide), if_neg (by decide), if_neg (by decide), if_neg (by decide), if_neg (by decide), if_neg (by decide), if_neg (by decide), if_pos rfl, if_neg (by decide), yAnd hcb, yAnd hca]
          show _ = zRet true K (some (.inl (zb (sib T a b ∧ rnk T a < rnk T b)))) σ
          by_cases c : rnk T a < rnk T b
          · rw [if_neg (by omega), zb_t ⟨hs, c⟩]
          · rw [if_pos (by omega), zj_102_377, zb_f (fun w => c w.2)]
      · rw [if_pos c3]
        exact c_rel_no ht hg hT hq hqb hth ha hb rfl (fun w => c3 w.2.2)
theorem c_isRelated {K : List zF} {t : Nat} {T : TRE} {σ : zW} (ht : zTr t) (hg : tgd T) (hT : cTr t T σ) {m k a b : Nat} {op x y : Int} (hop : op = cop m k) (hm : m ≤ 19) (hk : k ≤ 9) (ha : a < T.1) (hb : b < T.1) (hx : x = (a : Int)) (hy : y = (b : Int)) :
    zEv true (zent 102 [.inr (.inr t), .inl op, .inl x, .inl y] :: K) σ = zRet true K (some (.inl (zb (relP T m k a b)))) σ := by
  subst hop
  subst hx
  subst hy
  obtain ⟨c1, c2, c3⟩ := cop_all m (by omega) k (by omega)
  have h34 : kdm m = 3 ∨ kdm m = 4 → zshr (cop m k) 5 = (k : Int) := fun w => by
    have hh : 1 ≤ m ∧ m ≤ 10 := by
      unfold kdm at w
      clear c1 c2 c3
      repeat' split at w
      all_goals omega
    exact c3 hh.1 hh.2
  have hz : zand (cop m k) 16 = 0 ↔ ¬ trm m := by rw [c2, ← trmB_iff]; simp
  by_cases c : zand (cop m k) 16 = 0
  · rw [c_relAB (a := a) (b := b) (k := k) (tv := 0) ht hg hT c1 (kdm_b hm) h34 ha hb (if_pos c) (if_pos rfl) (if_pos rfl), zb_c (P := rbP T (kdm m) k a b) (Q := relP T m k a b)]
    have := hz.mp c
    unfold relP
    exact ⟨fun w => Or.inr ⟨this, w⟩, fun w => by rcases w with w | w; exact absurd w.1 this; exact w.2⟩
  · rw [c_relAB (a := b) (b := a) (k := k) (tv := 1) ht hg hT c1 (kdm_b hm) h34 hb ha (if_neg c) (if_neg (by decide)) (if_neg (by decide)), zb_c (P := rbP T (kdm m) k b a) (Q := relP T m k a b)]
    have : trm m := Classical.byContradiction (fun w => c (hz.mpr w))
    unfold relP
    exact ⟨fun w => Or.inl ⟨this, w⟩, fun w => by rcases w with w | w; exact w.2; exact absurd this w.1⟩
