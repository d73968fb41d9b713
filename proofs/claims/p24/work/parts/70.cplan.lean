/-! the plan of the class -/
theorem c_needed {K : List zF} (hK : K.length < 60) {t k : Nat} {st : PST} {pd : Nat → Nat} {z : Int} {σ : zW} (ht : zPn t) (hP : cP t st σ) (hg : pgd st pd) (hw8 : pw st) (hk : k < st.2.2.1) (hz : z = (k : Int)) : zEv true (zent 41 [.inr (.inr t), .inl z] :: K) σ = zRet true K (some (.inl (zb (pln st.2.2.2.1 (np st k))))) σ := by
  subst hz
  have hN := hw8.2.1
  have hc := hw8.1
  obtain ⟨n1, n2, -⟩ := np_ok hg hk
  have hck : 0 ≤ (k : Int) ∧ (k : Int) < 4 := by clear n2; omega
  have g14 : gI σ (t + 14) k = (np st k : Int) := (hP.2.2.2.2.2.1 k hk).trans n2
  have g11 : gI σ (t + 11) (np st k) = st.2.2.2.1 11 (np st k) := hP.2.2.2.1 11 _ (by omega) (by omega) (by omega) n1
  have g9 : gI σ (t + 9) (np st k) = st.2.2.2.1 9 (np st k) := hP.2.2.2.1 9 _ (by omega) (by omega) (by omega) n1
  rw [ze_41 hK ht, yAnd hck, Int.toNat_natCast, g14, c_plain ht rfl (Nat.lt_of_lt_of_le n1 hc) g11 g9, zr_41_10]
  by_cases cp : pln st.2.2.2.1 (np st k)
  · rw [if_pos (show _ ∧ _ from cp), zb_t cp, yAnd (Or.inr rfl)]
  · rw [if_neg (show ¬ (_ ∧ _) from cp), zb_f cp, yAnd (Or.inl rfl)]
theorem c_fitting {K : List zF} (hK : K.length < 60) {t tp k : Nat} {T : TRE} {st : PST} {pd : Nat → Nat} {z : Int} {σ : zW} (hgT : tgd T) (hg : pgd st pd) (hw8 : pw st) (hS : sOn t tp T st σ) (h42 : ∀ p, p < st.1 → gI σ 42 p = ((bs (fun a => ftP st.2.2.2.1 st.2.2.2.2 p (T.2.1 a)) T.1 : Nat) : Int)) (hk : k < st.2.2.1) (hz : z = (k : Int)) : zEv true (zent 70 [.inr (.inr 41), .inl z] :: K) σ = zRet true K (some (.inl (fcN T st k : Int))) σ := by
  subst hz
  have hn := hgT.1.1
  have hN := hw8.2.1
  have hc := hw8.1
  obtain ⟨s1, s2, s3, s4, s5, s6⟩ := hS
  obtain ⟨n1, n2, -⟩ := np_ok hg hk
  have hck : 0 ≤ (k : Int) ∧ (k : Int) < 4 := by clear n2; omega
  have g14 : gI σ (tp + 14) k = (np st k : Int) := (s6.2.2.2.2.2.1 k hk).trans n2
  have hcn : 0 ≤ (np st k : Int) ∧ (np st k : Int) < 8 := by clear n2 g14; omega
  rw [ze_70 hK (by rw [s4]; exact s2), yAnd hck, s4, Int.toNat_natCast, g14, yAnd hcn, Int.toNat_natCast, h42 _ n1]
  have hlt : bs (fun a => ftP st.2.2.2.1 st.2.2.2.2 (np st k) (T.2.1 a)) T.1 < 2 ^ 20 := Nat.lt_of_lt_of_le (bs_lt _ _) (Nat.pow_le_pow_right (by decide) hn)
  have hp : pop 4 (bs (fun a => ftP st.2.2.2.1 st.2.2.2.2 (np st k) (T.2.1 a)) T.1) = fcN T st k := by
    rw [pop_cnt]
    unfold fcN
    have h1 : lst (fun i => (bs (fun a => ftP st.2.2.2.1 st.2.2.2.2 (np st k) (T.2.1 a)) T.1).testBit i = true) (8 * 4) = lst (fun i => (bs (fun a => ftP st.2.2.2.1 st.2.2.2.2 (np st k) (T.2.1 a)) T.1).testBit i = true) T.1 := lst_skip (8 * 4) (by clear n2 g14 hlt; omega) (fun c c1 _ hc => by
      have := ((bs_bit _ _ _).mp hc).1
      omega)
    rw [h1]
    congr 1
    exact cnt_c _ (fun i hi => (bs_bit _ _ _).trans ⟨fun x => x.2, fun x => ⟨hi, x⟩⟩)
  rw [c_bitCount hlt rfl, zr_70_17, hp]
theorem jnd_s {st : PST} {M : Nat → Prop} {k E : Nat} (hE : 1 ≤ E) : jnd st M k (E + 1) ↔ (jnd st M k E ∨ (pln st.2.2.2.1 E ∧ ((nm st (fr3 st E) = k ∧ M (nm st E)) ∨ (nm st E = k ∧ M (nm st (fr3 st E)))))) := by
  constructor
  · rintro ⟨r, r1, r2, r3⟩
    rcases Nat.lt_succ_iff_lt_or_eq.mp r2 with x | x
    · exact Or.inl ⟨r, r1, x, r3⟩
    · rw [x] at r3; exact Or.inr r3
  · rintro (⟨r, r1, r2, r3⟩ | x)
    · exact ⟨r, r1, Nat.lt_succ_of_lt r2, r3⟩
    · exact ⟨E, hE, Nat.lt_succ_self E, x⟩
theorem jnd_up {st : PST} {M : Nat → Prop} {k E E' : Nat} (h : jnd st M k E) (hE : E ≤ E') : jnd st M k E' := by
  obtain ⟨r, r1, r2, r3⟩ := h
  exact ⟨r, r1, by omega, r3⟩
theorem c_isJoined {K : List zF} (hK : K.length < 60) {t tp k : Nat} {T : TRE} {st : PST} {pd : Nat → Nat} {M : Nat → Prop} {z : Int} {σ : zW} (hg : pgd st pd) (hw8 : pw st) (hu : pup st) (h1c : 1 ≤ st.1) (hS : sOn t tp T st σ) (hz : z = (k : Int)) : zEv true (zent 71 [.inr (.inr 41), .inl z, .inl ((bs M 4 : Nat) : Int)] :: K) σ = zRet true K (some (.inl (zb (jnd st M k st.1)))) σ := by
  subst hz
  have hc := hw8.1
  have hN := hw8.2.1
  obtain ⟨s1, s2, s3, s4, s5, s6⟩ := hS
  rw [ze_71]
  have L : ∀ (d E : Nat) (o4 o5 : Option zV), st.1 - E = d → 1 ≤ E → E ≤ st.1 → ¬ jnd st M k E → zEv true ((71, 2, [some (.inr (.inr 41)), some (.inl (k : Int)), some (.inl ((bs M 4 : Nat) : Int)), some (.inl (E : Int)), o4, o5], []) :: K) σ = zRet true K (some (.inl (zb (jnd st M k st.1)))) σ := by
    intro d
    induction d with
    | zero =>
      intro E o4 o5 hd hE1 hE2 hj
      have e : E = st.1 := by omega
      rw [e] at hj
      rw [zj_71_2 hK (by rw [s4]; exact s2), s4, s6.1, e, if_pos (Int.le_refl _), zb_f hj]
    | succ d ih =>
      intro E o4 o5 hd hE1 hE2 hj
      have hEc : E < st.1 := by omega
      have h0 : E ≠ 0 := by omega
      have hcE : 0 ≤ (E : Int) ∧ (E : Int) < 8 := by omega
      have hni : ¬ (st.1 : Int) ≤ (E : Int) := by omega
      have hd1 : st.1 - (E + 1) = d := by omega
      have eE : ∀ _ : Unit, w32 ((E : Int) + 1) = ((E + 1 : Nat) : Int) := fun _ => w_s (by omega)
      have g11 : gI σ (tp + 11) E = st.2.2.2.1 11 E := s6.2.2.2.1 11 E (by omega) (by omega) (by omega) hEc
      have g9 : gI σ (tp + 9) E = st.2.2.2.1 9 E := s6.2.2.2.1 9 E (by omega) (by omega) (by omega) hEc
      have g3 : gI σ (tp + 3) E = st.2.2.2.1 3 E := s6.2.2.2.1 3 E (by omega) (by omega) (by omega) hEc
      have hI := fun o4 o5 h => ih (E + 1) o4 o5 hd1 (Nat.le_add_left 1 E) hEc h
      rw [zj_71_2 hK (by rw [s4]; exact s2), s4, s6.1, if_neg hni, c_plain s2 rfl (Nat.lt_of_lt_of_le hEc hc) g11 g9, zr_71_21 hK (by rw [s4]; exact s2), s4]
      by_cases cp : pln st.2.2.2.1 E
      · obtain ⟨f1, f2, f3⟩ := fr_pln hg hw8 hu hEc h0 cp
        obtain ⟨m1, m2, -⟩ := nm_ok hg hEc cp
        obtain ⟨q1, q2, -⟩ := nm_ok hg (Nat.lt_trans f2 hEc) f3
        rw [if_pos (show _ ∧ _ from cp), if_neg (by decide), yAnd hcE, Int.toNat_natCast, g3, f1, c_numberAt s2 s6 hg hc (Nat.lt_trans f2 hEc) f3 rfl, zr_71_40 hK (by rw [s4]; exact s2), s4, c_numberAt s2 s6 hg hc hEc cp rfl, zr_71_50]
        have tx := bs_test (P := M) (n := 4) (i := nm st (fr3 st E)) (by decide) (Nat.lt_of_lt_of_le q2 hN)
        have ty := bs_test (P := M) (n := 4) (i := nm st E) (by decide) (Nat.lt_of_lt_of_le m2 hN)
        have second : zEv true ((71, 67, [some (.inr (.inr 41)), some (.inl (k : Int)), some (.inl ((bs M 4 : Nat) : Int)), some (.inl (E : Int)), some (.inl (nm st (fr3 st E) : Int)), some (.inl (nm st E : Int))], []) :: K) σ = zRet true K (some (.inl (zb (jnd st M k st.1)))) σ ∨ (nm st (fr3 st E) = k ∧ M (nm st E)) := by
          rcases Classical.em (nm st (fr3 st E) = k ∧ M (nm st E)) with q | q
          · exact Or.inr q
          · refine Or.inl ?_
            rw [zj_71_67]
            by_cases a1 : nm st E = k
            · rw [if_neg (fun x => x (by rw [a1]))]
              rcases Classical.em (M (nm st (fr3 st E))) with a2 | a2
              · rw [if_neg (fun x => tx.mp x a2), zb_t (jnd_up ((jnd_s hE1).mpr (Or.inr ⟨cp, Or.inr ⟨a1, a2⟩⟩)) hEc)]
              · rw [if_pos (tx.mpr a2), (eE ())]
                refine hI _ _ (fun y => ?_)
                rcases (jnd_s hE1).mp y with y | ⟨-, y | y⟩
                · exact hj y
                · exact q y
                · exact a2 y.2
            · rw [if_pos (ne_i a1), (eE ())]
              refine hI _ _ (fun y => ?_)
              rcases (jnd_s hE1).mp y with y | ⟨-, y | y⟩
              · exact hj y
              · exact q y
              · exact a1 y.1
        by_cases a1 : nm st (fr3 st E) = k
        · rw [if_neg (fun x => x (by rw [a1]))]
          rcases Classical.em (M (nm st E)) with a2 | a2
          · rw [if_pos (fun x => ty.mp x a2), zb_t (jnd_up ((jnd_s hE1).mpr (Or.inr ⟨cp, Or.inl ⟨a1, a2⟩⟩)) hEc)]
          · rw [if_neg (fun x => x (ty.mpr a2))]
            rcases second with s | s
            · exact s
            · exact absurd s.2 a2
        · rw [if_pos (ne_i a1)]
          rcases second with s | s
          · exact s
          · exact absurd s.1 a1
      · rw [if_neg (show ¬ (_ ∧ _) from cp), if_pos rfl, (eE ())]
        refine hI _ _ (fun y => ?_)
        rcases (jnd_s hE1).mp y with y | y
        · exact hj y
        · exact cp y.1
  exact L (st.1 - 1) 1 _ _ rfl (Nat.le_refl 1) h1c (fun ⟨r, r1, r2, _⟩ => by omega)
/-- one number of the plan -/
theorem c_pick {K : List zF} (hK : K.length + 1 < 60) {t tp : Nat} {T : TRE} {st : PST} {pd : Nat → Nat} {M : Nat → Prop} {x2 : Int} {σ : zW} (hgT : tgd T) (hg : pgd st pd) (hw8 : pw st) (hu : pup st) (h1c : 1 ≤ st.1) (hS : sOn t tp T st σ) (h42 : ∀ p, p < st.1 → gI σ 42 p = ((bs (fun a => ftP st.2.2.2.1 st.2.2.2.2 p (T.2.1 a)) T.1 : Nat) : Int))
    (kz : ∀ o5, zEv true ((69, 19, [some (.inr (.inr 41)), some (.inl ((bs M 4 : Nat) : Int)), some (.inl x2), some (.inl (bst T st M st.2.2.1)), some (.inl (st.2.2.1 : Int)), o5], []) :: K) σ) :
    ∀ (d k : Nat) (o5 : Option zV), st.2.2.1 - k = d → k ≤ st.2.2.1 → zEv true ((69, 19, [some (.inr (.inr 41)), some (.inl ((bs M 4 : Nat) : Int)), some (.inl x2), some (.inl (bst T st M k)), some (.inl (k : Int)), o5], []) :: K) σ := by
  have hc := hw8.1
  have hN := hw8.2.1
  have hSS := hS
  obtain ⟨s1, s2, s3, s4, s5, s6⟩ := hS
  intro d
  induction d with
  | zero =>
    intro k o5 hd hk
    have e : k = st.2.2.1 := by omega
    rw [e]
    exact kz o5
  | succ d ih =>
    intro k o5 hd hk
    have hk' : k < st.2.2.1 := by omega
    have hni : ¬ (st.2.2.1 : Int) ≤ (k : Int) := by omega
    have hd1 : st.2.2.1 - (k + 1) = d := by omega
    have ek : ∀ _ : Unit, w32 ((k : Int) + 1) = ((k + 1 : Nat) : Int) := fun _ => w_s (by omega)
    have hKl : K.length < 60 := by omega
    have hI := fun o5 => ih (k + 1) o5 hd1 hk'
    have tk := bs_test (P := M) (n := 4) (i := k) (by decide) (Nat.lt_of_lt_of_le hk' hN)
    have hno : ¬ elg st M k → bst T st M (k + 1) = bst T st M k := fun h => bst_n (fun x => h x.1)
    have skip : bst T st M (k + 1) = bst T st M k → ∀ o5, zEv true ((69, 19, [some (.inr (.inr 41)), some (.inl ((bs M 4 : Nat) : Int)), some (.inl x2), some (.inl (bst T st M k)), some (.inl (w32 ((k : Int) + 1))), o5], []) :: K) σ := fun h o5 => by
      rw [(ek ()), ← h]; exact hI o5
    have j56 : ¬ elg st M k → ∀ o5, zEv true ((69, 56, [some (.inr (.inr 41)), some (.inl ((bs M 4 : Nat) : Int)), some (.inl x2), some (.inl (bst T st M k)), some (.inl (k : Int)), o5], []) :: K) σ := fun h o5 => by
      rw [zj_69_56 hKl, if_pos rfl]
      exact skip (hno h) _
    rw [zj_69_19 hKl (by rw [s4]; exact s2), s4, s6.2.2.1, if_neg hni, c_needed (by show K.length + 1 < 60; exact hK) s2 s6 hg hw8 hk' rfl, zr_69_40 hKl]
    by_cases cp : pln st.2.2.2.1 (np st k)
    · rw [zb_t cp, if_neg (by decide)]
      rcases Classical.em (M k) with mk | mk
      · rw [if_pos (fun x => tk.mp x mk)]
        exact j56 (fun x => x.2.1 mk) _
      · rw [if_neg (fun x => x (tk.mpr mk)), if_neg (by decide)]
        -- when it may be chosen
        have j78 : elg st M k → zEv true ((69, 78, [some (.inr (.inr 41)), some (.inl ((bs M 4 : Nat) : Int)), some (.inl x2), some (.inl (bst T st M k)), some (.inl (k : Int)), some (.inl 1)], []) :: K) σ := fun he => by
          have take : btr T st M (bst T st M k) k → zEv true ((69, 97, [some (.inr (.inr 41)), some (.inl ((bs M 4 : Nat) : Int)), some (.inl x2), some (.inl (bst T st M k)), some (.inl (k : Int)), some (.inl 1)], []) :: K) σ := fun hb => by
            rw [zj_69_97, (ek ()), ← bst_y hb]
            exact hI _
          rw [zj_69_78 hKl]
          rcases bst_spec (T := T) (st := st) (M := M) k with ⟨b1, -⟩ | ⟨b, b1, b2, -⟩
          · rw [if_pos b1]
            exact take ⟨he, Or.inl b1⟩
          · have hb1 : bst T st M k ≠ -1 := by rw [b2]; omega
            have hbN : b < st.2.2.1 := by omega
            rw [if_neg hb1, c_fitting (by show K.length + 1 < 60; exact hK) hgT hg hw8 hSS h42 hk' rfl, zr_69_89 hKl, c_fitting (by show K.length + 1 < 60; exact hK) hgT hg hw8 hSS h42 hbN b2, zr_69_94]
            by_cases hf : fcN T st b ≤ fcN T st k
            · rw [if_pos (Int.ofNat_le.mpr hf)]
              refine skip (bst_n (fun x => ?_)) _
              rcases x.2 with y | y
              · exact hb1 y
              · rw [b2, Int.toNat_natCast] at y
                exact absurd hf (Nat.not_le.mpr y)
            · rw [if_neg (fun x => hf (Int.ofNat_le.mp x))]
              refine take ⟨he, Or.inr ?_⟩
              rw [b2, Int.toNat_natCast]
              exact Nat.not_le.mp hf
        rcases Classical.em (∀ x, x < 4 → ¬ M x) with em | em
        · have e0 : bs M 4 = 0 := bs_zero.mpr em
          rw [if_pos (show ((bs M 4 : Nat) : Int) = 0 by rw [e0]; rfl)]
          exact j78 ⟨cp, mk, Or.inl em⟩
        · have e0 : ¬ ((bs M 4 : Nat) : Int) = 0 := fun x => em (bs_zero.mp (Int.ofNat.inj x))
          rw [if_neg e0, c_isJoined (by show K.length + 1 < 60; exact hK) hg hw8 hu h1c hSS rfl, zr_69_75]
          rcases Classical.em (jnd st M k st.1) with jk | jk
          · rw [zb_t jk, if_neg (by decide)]
            exact j78 ⟨cp, mk, Or.inr jk⟩
          · rw [zb_f jk, if_pos rfl]
            refine skip (hno (fun x => ?_)) _
            rcases x.2.2 with y | y
            · exact em y
            · exact jk y
    · rw [zb_f cp, if_pos rfl]
      exact j56 (fun x => cp x.1) _
theorem c_makePlan {K : List zF} (hK : K.length + 1 < 60) {t tp m : Nat} {T : TRE} {st : PST} {pd : Nat → Nat} {σ : zW} (hgT : tgd T) (hg : pgd st pd) (hw8 : pw st) (hu : pup st) (h1c : 1 ≤ st.1) (hS : sOn t tp T st σ) (h42 : ∀ p, p < st.1 → gI σ 42 p = ((bs (fun a => ftP st.2.2.2.1 st.2.2.2.2 p (T.2.1 a)) T.1 : Nat) : Int)) (hm : m ≤ st.2.2.1) (h1 : ∀ j, j < m → bst T st (chs T st j) st.2.2.1 ≠ -1) (h2 : bst T st (chs T st m) st.2.2.1 = -1)
    (k : ∀ σ' : zW, yFr (fun k j => (k = 41 ∧ j = 8) ∨ k = 49) σ σ' → gI σ' 41 8 = (m : Int) → (∀ j, j < m → gI σ' 49 j = (pl T st j : Int)) → zRet true K none σ') : zEv true (zent 69 [.inr (.inr 41)] :: K) σ := by
  have hN := hw8.2.1
  rw [ze_69]
  have hF0 : yFr (fun k j => (k = 41 ∧ j = 8) ∨ k = 49) σ (sI σ 41 8 0) := yFr.rf.I (Or.inl ⟨rfl, rfl⟩)
  have h80 : gI (sI σ 41 8 0) 41 8 = ((0 : Nat) : Int) := yGI_hit
  generalize sI σ 41 8 0 = σ1 at hF0 h80 ⊢
  have L : ∀ (d i : Nat) (z : Int) (o3 o4 o5 : Option zV) (σ2 : zW), m - i = d → i ≤ m → z = ((bs (chs T st i) 4 : Nat) : Int) → yFr (fun k j => (k = 41 ∧ j = 8) ∨ k = 49) σ σ2 → gI σ2 41 8 = (i : Int) → (∀ j, j < i → gI σ2 49 j = (pl T st j : Int)) → zEv true ((69, 9, [some (.inr (.inr 41)), some (.inl z), some (.inl (i : Int)), o3, o4, o5], []) :: K) σ2 := by
    intro d
    induction d with
    | zero =>
      intro i z o3 o4 o5 σ2 hd hi hz hF h8 h9
      subst hz
      have e : i = m := by omega
      rw [e] at h8 h9 ⊢
      rw [zj_69_9]
      by_cases c4 : (4 : Int) ≤ (m : Int)
      · rw [if_pos c4]
        exact k σ2 hF h8 h9
      · rw [if_neg c4]
        have hS2 : sOn t tp T st σ2 := sOn_fr hS hF (fun k j x => by omega)
        have h42' : ∀ p, p < st.1 → gI σ2 42 p = ((bs (fun a => ftP st.2.2.2.1 st.2.2.2.2 p (T.2.1 a)) T.1 : Nat) : Int) := fun p hp => (hF.i (by omega)).trans (h42 p hp)
        refine c_pick (M := chs T st m) hK hgT hg hw8 hu h1c hS2 h42' (fun o5 => ?_) st.2.2.1 0 o5 (Nat.sub_zero _) (Nat.zero_le _)
        obtain ⟨s1, s2, s3, s4, s5, s6⟩ := hS2
        rw [zj_69_19 (by omega) (by rw [s4]; exact s2), s4, s6.2.2.1, if_pos (Int.le_refl _), h2, if_neg (fun x => x rfl)]
        exact k σ2 hF h8 h9
    | succ d ih =>
      intro i z o3 o4 o5 σ2 hd hi hz hF h8 h9
      subst hz
      have him : i < m := by omega
      have c4 : ¬ (4 : Int) ≤ (i : Int) := by omega
      rw [zj_69_9, if_neg c4]
      have hS2 : sOn t tp T st σ2 := sOn_fr hS hF (fun k j x => by omega)
      have h42' : ∀ p, p < st.1 → gI σ2 42 p = ((bs (fun a => ftP st.2.2.2.1 st.2.2.2.2 p (T.2.1 a)) T.1 : Nat) : Int) := fun p hp => (hF.i (by omega)).trans (h42 p hp)
      refine c_pick (M := chs T st i) hK hgT hg hw8 hu h1c hS2 h42' (fun o5 => ?_) st.2.2.1 0 o5 (Nat.sub_zero _) (Nat.zero_le _)
      · obtain ⟨s1, s2, s3, s4, s5, s6⟩ := hS2
        rcases bst_spec (T := T) (st := st) (M := chs T st i) st.2.2.1 with x | ⟨b, b1, b2, b3⟩
        · exact absurd x.1 (h1 i him)
        · have hpl : pl T st i = b := by unfold pl; rw [b2, Int.toNat_natCast]
          have hci : 0 ≤ (i : Int) ∧ (i : Int) < 4 := by omega
          have ei : ∀ _ : Unit, w32 ((i : Int) + 1) = ((i + 1 : Nat) : Int) := fun _ => w_s (by omega)
          have hmask : ∀ _ : Unit, zor ((bs (chs T st i) 4 : Nat) : Int) (zshl 1 (b : Int)) = ((bs (chs T st (i + 1)) 4 : Nat) : Int) := fun _ => by
            rw [zshl_all b (by omega), zor_nat (bs_lt31 _ (by decide)) (Nat.pow_lt_pow_right (by decide) (by omega)), bs_add (by omega)]
            refine bsI (fun a _ => ?_)
            show _ ↔ (chs T st i a ∨ bst T st (chs T st i) st.2.2.1 = (a : Int))
            rw [b2]
            exact ⟨fun x => x.imp id (fun y => by rw [y]), fun x => x.imp id (fun y => (Int.ofNat.inj y).symm)⟩
          rw [zj_69_19 (by omega) (by rw [s4]; exact s2), s4, s6.2.2.1, if_pos (Int.le_refl _), b2, if_pos (by omega), h8, yAnd hci, Int.toNat_natCast, (ei ()), (hmask ())]
          have hF2 : yFr (fun k j => (k = 41 ∧ j = 8) ∨ (k = 49 ∧ j = i)) σ2 (sI (sI σ2 49 i (b : Int)) 41 8 ((i + 1 : Nat) : Int)) := (yFr.rf.I (X := fun k j => (k = 41 ∧ j = 8) ∨ (k = 49 ∧ j = i)) (Or.inr ⟨rfl, rfl⟩)).I (Or.inl ⟨rfl, rfl⟩)
          have e8 : gI (sI (sI σ2 49 i (b : Int)) 41 8 ((i + 1 : Nat) : Int)) 41 8 = ((i + 1 : Nat) : Int) := yGI_hit
          have e9 : gI (sI (sI σ2 49 i (b : Int)) 41 8 ((i + 1 : Nat) : Int)) 49 i = (b : Int) := by rw [gI_sI, if_neg (by omega)]; exact yGI_hit
          generalize sI (sI σ2 49 i (b : Int)) 41 8 ((i + 1 : Nat) : Int) = σ3 at hF2 e8 e9 ⊢
          refine ih (i + 1) _ _ _ _ σ3 (by omega) him rfl (hF.trans (hF2.mono (fun k j x => x.imp id (fun y => y.1)))) e8 (fun j hj => ?_)
          by_cases e : j = i
          · rw [e, e9, hpl]
          · rw [hF2.i (by omega)]; exact h9 j (by omega)
  refine L m 0 0 _ _ _ σ1 (Nat.sub_zero _) (Nat.zero_le _) ?_ hF0 h80 (fun j hj => absurd hj (Nat.not_lt_zero j))
  have : bs (chs T st 0) 4 = 0 := bs_zero.mpr (fun _ _ x => x)
  rw [this]; rfl
