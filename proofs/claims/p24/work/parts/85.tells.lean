/-! a tree told, or compared with what is shown -/
theorem zb_flip {P : Prop} : (if ¬ zb P = 0 then 0 else 1 : Int) = zb (¬ P) := by
  rcases Classical.em P with h | h
  · rw [zb_t h, zb_f (fun w => w h)]; rfl
  · rw [zb_f h, zb_t h]; rfl
theorem und_next {T : TRE} (hw : wfd T.1 T.2.2) {p k : Nat} (hp : p < T.1) (hk : k + 1 < T.1) (hpk : und T p k) : und T p (k + 1) ↔ T.2.2 p < T.2.2 (k + 1) := by
  obtain ⟨s1, s2, s3, s4⟩ := ed_spec (dep := T.2.2) hp
  unfold und at hpk ⊢
  constructor
  · intro h; exact s3 (k + 1) (by omega) h.2
  · intro h
    refine ⟨by omega, ?_⟩
    rcases Nat.lt_or_ge (k + 1) (ed T.2.2 T.1 p) with q | q
    · exact q
    · have e : ed T.2.2 T.1 p = k + 1 := by omega
      rw [e] at s4
      have := s4 hk
      omega
section YTELLS
variable {K : List zF} {T : TRE} {tt lb : Nat → Int} {b : Int} {σ0 : zW} {full : List Int} {J : List Int → zW → Prop}
/-- what the telling of one byte does -/
def pJ (K : List zF) (b : Int) (full : List Int) (J : List Int → zW → Prop) : Prop := ∀ (pre suf : List Int) (c : Int) (σ : zW) (F : zF), J pre σ → full = pre ++ c :: suf → (∀ σ', lFr 1 σ σ' → J (pre ++ [c]) σ' → zRet true (F :: K) (some (.inl 1)) σ') → zEv true (zent 150 [.inr (.inr 1), .inl c, .inl (pre.length : Int), .inl b] :: F :: K) σ
abbrev tF (b : Int) (pc x4 x5 x6 : Int) (o7 o8 : Option zV) : List (Option zV) := [some (.inr (.inr 1)), some (.inr (.inr 122)), some (.inr (.inr 123)), some (.inl b), some (.inl x4), some (.inl x5), some (.inl x6), o7, o8]
theorem app1 {pre suf : List Int} {c : Int} : pre ++ c :: suf = (pre ++ [c]) ++ suf := by simp
theorem len1 {pre : List Int} {c : Int} : (pre ++ [c]).length = pre.length + 1 := by simp
theorem tpre_le {pre suf : List Int} (h : full = pre ++ suf) : pre.length ≤ full.length := by rw [h, List.length_append]; omega
theorem t_close (hK : K.length + 2 < 60) (hT : tmT T tt lb) (hA : tmA T.1 tt lb σ0) (hJ : pJ K b full J) (hL : full.length ≤ 600) {k : Nat} {rest : List Int} (hk : k < T.1) (hleaf : kidc T.2.2 k T.1 = 0)
    (next : ∀ (σ : zW) (pre : List Int) (o7 o8 : Option zV), full = pre ++ rest → J pre σ → lFr pre.length σ0 σ → zEv true ((149, 9, [some (.inr (.inr 1)), some (.inr (.inr 122)), some (.inr (.inr 123)), some (.inl b), some (.inl (pre.length : Int)), some (.inl 1), some (.inl ((k + 1 : Nat) : Int)), o7, o8], []) :: K) σ) :
    ∀ (d : Nat) (pre : List Int) (σ : zW) (x8 : Int), ((x8 = -1 ∧ d = 0) ∨ ∃ p : Nat, x8 = (p : Int) ∧ p < T.1 ∧ T.2.2 p + 1 = d ∧ und T p k) → full = pre ++ (List.replicate (d - nxt T k) 41 ++ rest) → J pre σ → lFr pre.length σ0 σ → zEv true ((149, 165, [some (.inr (.inr 1)), some (.inr (.inr 122)), some (.inr (.inr 123)), some (.inl b), some (.inl (pre.length : Int)), some (.inl 1), some (.inl (k : Int)), some (.inl 1), some (.inl x8)], []) :: K) σ := by
  have h9 := hT.2.2.1
  have hw := hT.1
  intro d
  induction d with
  | zero =>
    intro pre σ x8 hx hf hj hF
    rcases hx with ⟨e, -⟩ | ⟨p, -, -, e, -⟩
    · rw [e, zj_149_165 (by omega), if_pos (by decide), ws1 (by omega)]
      rw [Nat.zero_sub, List.replicate, List.nil_append] at hf
      exact next σ pre _ _ hf hj hF
    · omega
  | succ d ih =>
    intro pre σ x8 hx hf hj hF
    rcases hx with ⟨-, e⟩ | ⟨p, e, hp, hd, hu⟩
    · omega
    · subst e
      have hdp : T.2.2 p = d := by omega
      have hA' := tmA_fr hA hF
      have hle := tpre_le hf
      rw [zj_149_165 (by omega), if_neg (by omega), if_neg (by decide), ws1 (by omega), hA'.2.1]
      -- what follows at 225
      have up : ∀ (pre' : List Int) (σ' : zW), full = pre' ++ (List.replicate (d - nxt T k) 41 ++ rest) → J pre' σ' → lFr pre'.length σ0 σ' → zEv true ((149, 225, [some (.inr (.inr 1)), some (.inr (.inr 122)), some (.inr (.inr 123)), some (.inl b), some (.inl (pre'.length : Int)), some (.inl 1), some (.inl (k : Int)), some (.inl 1), some (.inl (p : Int))], []) :: K) σ' := by
        intro pre' σ' hf' hj' hF'
        have hA2 := tmA_fr hA hF'
        rw [zj_149_225, yAnd (by omega), Int.toNat_natCast, (hA2.2.2 p hp).1, ← (hT.2.2.2 p hp).1]
        refine ih pre' σ' _ ?_ hf' hj' hF'
        by_cases p0 : p = 0
        · left
          subst p0
          exact ⟨par_root hw, by rw [← hdp]; exact hw.2.1 hp⟩
        · right
          obtain ⟨q, q1, q2, q3⟩ := par_some hw hp (by omega)
          refine ⟨q, q1, by omega, by omega, ?_⟩
          have h5 := ed_child hw hp q1
          unfold und at hu ⊢
          omega
      -- a closing is put
      have put : nxt T k ≤ d → zEv true ((149, 198, [some (.inr (.inr 1)), some (.inr (.inr 122)), some (.inr (.inr 123)), some (.inl b), some (.inl (pre.length : Int)), some (.inl 1), some (.inl (k : Int)), some (.inl 1), some (.inl (p : Int))], []) :: K) σ := by
        intro hn
        rw [zj_149_198 (by omega), if_neg (by decide)]
        have e9 : d + 1 - nxt T k = (d - nxt T k) + 1 := by omega
        rw [e9, List.replicate_succ, List.cons_append] at hf
        refine hJ pre _ 41 σ _ hj hf (fun σ' hF1 hj' => ?_)
        rw [zr_149_212, if_neg (by decide), ws1 (by omega)]
        have hl : (pre ++ [41]).length = pre.length + 1 := len1
        rw [← hl]
        exact up _ σ' (by rw [← app1]; exact hf) hj' (by rw [hl]; exact hF.trans hF1)
      by_cases c : k + 1 = T.1
      · rw [if_pos (by omega)]
        refine put ?_
        unfold nxt
        rw [if_neg (by omega)]
        exact Nat.zero_le _
      · rw [if_neg (by omega)]
        have hk1 : k + 1 < T.1 := by omega
        have hnx : nxt T k = T.2.2 (k + 1) := by unfold nxt; rw [if_pos hk1]
        rw [q_isUnder hA' hT hk1 hp rfl rfl, zr_149_195]
        rcases Classical.em (und T p (k + 1)) with q | q
        · rw [zb_t q, if_pos (by decide)]
          have h5 := (und_next hw hp hk1 hu).mp q
          refine up pre σ ?_ hj hF
          rw [show d + 1 - nxt T k = d - nxt T k by omega] at hf
          exact hf
        · rw [zb_f q, if_neg (fun w => w rfl)]
          have h5 : ¬ T.2.2 p < T.2.2 (k + 1) := fun w => q ((und_next hw hp hk1 hu).mpr w)
          exact put (by omega)
theorem v_tells (hK : K.length + 2 < 60) (hT : tmT T tt lb) (hA : tmA T.1 tt lb σ0) (hfull : full = ttx T lb T.1) (hJ : pJ K b full J) (hL : full.length ≤ 600) (hj0 : J [] σ0) (kk : ∀ σ', lFr full.length σ0 σ' → J full σ' → zRet true K (some (.inl (full.length : Int))) σ') : zEv true (zent 149 [.inr (.inr 1), .inr (.inr 122), .inr (.inr 123), .inl b] :: K) σ0 := by
  have h9 := hT.2.2.1
  have hw := hT.1
  have loop : ∀ (m k : Nat) (pre : List Int) (σ : zW) (o7 o8 : Option zV), k + m = T.1 → full = pre ++ rtx T lb m k → J pre σ → lFr pre.length σ0 σ → zEv true ((149, 9, [some (.inr (.inr 1)), some (.inr (.inr 122)), some (.inr (.inr 123)), some (.inl b), some (.inl (pre.length : Int)), some (.inl 1), some (.inl (k : Int)), o7, o8], []) :: K) σ := by
    intro m
    induction m with
    | zero =>
      intro k pre σ o7 o8 hk hf hj hF
      rw [rtx, List.append_nil] at hf
      have hA' := tmA_fr hA hF
      rw [zj_149_9 (by omega), hA'.2.1, if_pos (by omega), zj_149_240, if_neg (by decide), ← hf]
      rw [← hf] at hj hF
      exact kk σ hF hj
    | succ m ih =>
      intro k pre σ o7 o8 hkm hf hj hF
      have hk : k < T.1 := by omega
      have hA' := tmA_fr hA hF
      have hle := tpre_le hf
      rw [zj_149_9 (by omega), hA'.2.1, if_neg (by omega), if_neg (by decide), q_hasChild hA', zr_149_29 (by omega), if_neg (by decide), zb_flip]
      have hx7 : zb (¬ ∃ j, j < T.1 ∧ tt j = (k : Int)) = if kidc T.2.2 k T.1 = 0 then 1 else 0 := by
        by_cases c : kidc T.2.2 k T.1 = 0
        · rw [if_pos c, zb_t (fun w => (leaf_tt hT).mp w c)]
        · rw [if_neg c, zb_f (fun w => w ((leaf_tt hT).mpr c))]
      rw [hx7]
      rw [rtx, ndx, List.append_assoc] at hf
      have hlbk : ∀ {σ' : zW}, lFr (pre.length + 0) σ0 σ' ∨ tmA T.1 tt lb σ' → True := fun _ => trivial
      -- behind the label
      have aft : ∀ (pre' : List Int) (σ' : zW) (o8 : Option zV), full = pre' ++ ((if kidc T.2.2 k T.1 = 0 then List.replicate (T.2.2 k - nxt T k) 41 else []) ++ rtx T lb m (k + 1)) → J pre' σ' → lFr pre'.length σ0 σ' → zEv true ((149, 165, [some (.inr (.inr 1)), some (.inr (.inr 122)), some (.inr (.inr 123)), some (.inl b), some (.inl (pre'.length : Int)), some (.inl 1), some (.inl (k : Int)), some (.inl (if kidc T.2.2 k T.1 = 0 then 1 else 0)), some (.inl (gI σ' 122 k))], []) :: K) σ' := by
        intro pre' σ' o8 hf' hj' hF'
        have hA2 := tmA_fr hA hF'
        rw [(hA2.2.2 k hk).1, ← (hT.2.2.2 k hk).1]
        by_cases c : kidc T.2.2 k T.1 = 0
        · rw [if_pos c] at hf' ⊢
          refine t_close hK hT hA hJ hL hk c (fun σ2 pre2 o7 o8 hf2 hj2 hF2 => ih (k + 1) pre2 σ2 o7 o8 (by omega) hf2 hj2 hF2) (T.2.2 k) pre' σ' _ ?_ hf' hj' hF'
          by_cases k0 : k = 0
          · left
            subst k0
            exact ⟨par_root hw, hw.2.1 hk⟩
          · right
            obtain ⟨q, q1, q2, q3⟩ := par_some hw hk (by omega)
            have h5 := ed_child hw hk q1
            exact ⟨q, q1, by omega, q3, by unfold und; omega⟩
        · rw [if_neg c] at hf' ⊢
          rw [List.nil_append] at hf'
          have nx := ih (k + 1) pre' σ'
          rw [zj_149_165 (by omega), ws1 (by omega)]
          by_cases c8 : par T.2.2 k < 0
          · rw [if_pos c8]; exact nx _ _ (by omega) hf' hj' hF'
          · rw [if_neg c8, if_pos rfl]; exact nx _ _ (by omega) hf' hj' hF'
      -- the label
      have lab : ∀ (pre' : List Int) (σ' : zW) (o8 : Option zV) (F : zF), full = pre' ++ (lb k :: ((if kidc T.2.2 k T.1 = 0 then List.replicate (T.2.2 k - nxt T k) 41 else []) ++ rtx T lb m (k + 1))) → J pre' σ' → lFr pre'.length σ0 σ' → F = (149, 146, [some (.inr (.inr 1)), some (.inr (.inr 122)), some (.inr (.inr 123)), some (.inl b), some (.inl (pre'.length : Int)), some (.inl 1), some (.inl (k : Int)), some (.inl (if kidc T.2.2 k T.1 = 0 then 1 else 0)), o8], []) → zEv true (zent 150 [.inr (.inr 1), .inl (gI σ' 122 (w32 (20 + (k : Int))).toNat), .inl (pre'.length : Int), .inl b] :: F :: K) σ' := by
        intro pre' σ' o8 F hf' hj' hF' hFe
        have hA2 := tmA_fr hA hF'
        have hle' := tpre_le hf'
        have e20 : (w32 (20 + (k : Int))).toNat = 20 + k := by rw [zw_id (by omega) (by omega)]; omega
        rw [e20, (hA2.2.2 k hk).2]
        refine hJ pre' _ _ σ' F hj' hf' (fun σ2 hF2 hj2 => ?_)
        have hl : (pre' ++ [lb k]).length = pre'.length + 1 := len1
        rw [hFe, zr_149_146, if_neg (by decide), yAnd (by omega), Int.toNat_natCast, ws1 (by omega), ← hl]
        exact aft _ σ2 o8 (by rw [← app1]; exact hf') hj2 (by rw [hl]; exact hF'.trans hF2)
      have c20 : 0 ≤ w32 (20 + (k : Int)) ∧ w32 (20 + (k : Int)) < 40 := by rw [zw_id (by omega) (by omega)]; omega
      -- the bracket, then the label
      have brk : ∀ (pre' : List Int) (σ' : zW) (o8 : Option zV), ¬ kidc T.2.2 k T.1 = 0 → full = pre' ++ (40 :: lb k :: ((if kidc T.2.2 k T.1 = 0 then List.replicate (T.2.2 k - nxt T k) 41 else []) ++ rtx T lb m (k + 1))) → J pre' σ' → lFr pre'.length σ0 σ' → zEv true (zent 150 [.inr (.inr 1), .inl 40, .inl (pre'.length : Int), .inl b] :: (149, 102, [some (.inr (.inr 1)), some (.inr (.inr 122)), some (.inr (.inr 123)), some (.inl b), some (.inl (pre'.length : Int)), some (.inl 1), some (.inl (k : Int)), some (.inl 0), o8], []) :: K) σ' := by
        intro pre' σ' o8 c hf' hj' hF'
        have hle' := tpre_le hf'
        refine hJ pre' _ _ σ' _ hj' hf' (fun σ2 hF2 hj2 => ?_)
        have hl : (pre' ++ [40]).length = pre'.length + 1 := len1
        rw [zr_149_102 (by omega), if_neg (by decide), if_neg (by decide), yAnd c20, if_pos rfl, ws1 (by omega), ← hl]
        exact lab _ σ2 o8 _ (by rw [← app1]; exact hf') hj2 (by rw [hl]; exact hF'.trans hF2) (by rw [if_neg c])
      by_cases k0 : k = 0
      · have e0 : (if ¬ (k : Int) = 0 then 1 else 0 : Int) = 0 := by rw [if_neg (by omega)]
        rw [if_pos (show (k : Int) = 0 by omega), if_neg (by decide), e0]
        rw [if_pos k0, List.nil_append] at hf
        have ez : w32 ((pre.length : Int) + 0) = (pre.length : Int) := by rw [zw_id (by omega) (by omega)]; omega
        rw [ez]
        by_cases c : kidc T.2.2 k T.1 = 0
        · have hf2 := hf
          rw [if_pos c, List.nil_append, List.cons_append] at hf2
          have el := lab pre σ o8 _ hf2 hj hF rfl
          rw [if_pos c] at el ⊢
          rw [if_pos (by decide), if_neg (by decide), yAnd c20, if_neg (show ¬ (1 : Int) = 0 by decide), ez]
          exact el
        · have hf2 := hf
          rw [if_neg c, if_neg c] at hf2
          have el := brk pre σ o8 c (by rw [if_neg c]; exact hf2) hj hF
          rw [if_neg c, if_neg (fun w => w rfl)]
          exact el
      · rw [if_neg (show ¬ (k : Int) = 0 by omega)]
        rw [if_neg k0, List.cons_append, List.nil_append] at hf
        refine hJ pre _ 32 σ _ hj hf (fun σ1 hF1 hj1 => ?_)
        have hl : (pre ++ [32]).length = pre.length + 1 := len1
        have e1 : (if ¬ (k : Int) = 0 then 1 else 0 : Int) = 1 := by rw [if_pos (by omega)]
        have hle1 := tpre_le (full := full) (pre := pre ++ [32]) (by rw [← app1]; exact hf)
        rw [zr_149_58 (by omega), if_neg (by decide), if_neg (by decide), e1, ws1 (by omega), ← hl]
        have hf3 := hf
        rw [app1] at hf3
        by_cases c : kidc T.2.2 k T.1 = 0
        · have hf2 := hf3
          rw [if_pos c, List.nil_append, List.cons_append] at hf2
          have el := lab (pre ++ [32]) σ1 o8 _ hf2 hj1 (by rw [hl]; exact hF.trans hF1) rfl
          have ez : w32 (((pre ++ [32]).length : Int) + 0) = ((pre ++ [32]).length : Int) := by rw [zw_id (by omega) (by omega)]; omega
          rw [if_pos c] at el ⊢
          rw [if_pos (by decide), if_neg (by decide), yAnd c20, if_neg (show ¬ (1 : Int) = 0 by decide), ez]
          exact el
        · have hf2 := hf3
          rw [if_neg c, if_neg c] at hf2
          have el := brk (pre ++ [32]) σ1 o8 c (by rw [if_neg c]; exact hf2) hj1 (by rw [hl]; exact hF.trans hF1)
          rw [if_neg c, if_neg (fun w => w rfl)]
          exact el
  rw [ze_149]
  have e : ttx T lb T.1 = rtx T lb T.1 0 := by
    have := ttx_rtx T lb T.1 0
    rw [Nat.zero_add] at this
    rw [this]; rfl
  exact loop T.1 0 [] σ0 none none (Nat.zero_add _) (by rw [hfull, e]; rfl) hj0 lFr.rf
end YTELLS
/-- told to the tape -/
theorem p_said {K : List zF} (hK : K.length + 11 ≤ 60) {full : List Int} {R : STR} {u : Nat} (hb : ∀ x ∈ full, 0 ≤ x ∧ x < 256) (hL : full.length ≤ 600) : pJ K 0 full (fun l σ => LV l R u σ) := by
  intro pre suf c σ F hj hf kk
  have hc := hb c (by rw [hf]; simp)
  have hle : pre.length + 1 ≤ full.length := by rw [hf, List.length_append, List.length_cons]; omega
  rw [ze_150 (by show K.length + 1 < 60; omega), if_pos rfl]
  refine v_says (by show K.length + 1 + 1 + 9 ≤ 60; omega) hj hc.1 hc.2 (by omega) (fun σ' hF hV => ?_)
  rw [zr_150_24]
  exact kk σ' hF hV
/-- compared with the out -/
theorem p_shown {K : List zF} (hK : K.length + 11 ≤ 60) {full l : List Int} {R : STR} {u : Nat} (hb : ∀ x ∈ full, 0 ≤ x ∧ x < 256) (hL : full.length ≤ 184) (hO : txl R.2.2.2.2.1 full) : pJ K 1 full (fun _ σ => LV l R u σ) := by
  intro pre suf c σ F hj hf kk
  have hle : pre.length + 1 ≤ full.length := by rw [hf, List.length_append, List.length_cons]; omega
  have ht : ∀ i, i < R.2.2.2.2.1.1 → 0 ≤ R.2.2.2.2.1.2 i ∧ R.2.2.2.2.1.2 i < 256 := fun i hi => by
    rw [hO.1] at hi
    rw [hO.2 i hi]
    exact hb _ (by unfold lfn; rw [List.getD_eq_getElem?_getD, List.getElem?_eq_getElem hi]; exact List.getElem_mem hi)
  rw [ze_150 (by show K.length + 1 < 60; omega), if_neg (by decide), q_out (by show K.length + 1 + 1 + 3 ≤ 60; omega) hj ht rfl (by omega), if_pos (by rw [hO.1]; omega), hO.2 _ (by omega), zr_150_9]
  have hcc : lfn full pre.length = c := by
    rw [hf, lfn_app, if_neg (Nat.lt_irrefl _), Nat.sub_self]
    rfl
  rw [hcc, if_neg (fun w => w rfl)]
  exact kk σ lFr.rf hj
