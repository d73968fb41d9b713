/-! the search of the class, prepared -/
abbrev Xp (k j : Nat) : Prop := (k = 41 ∧ (j = 8 ∨ j = 10 ∨ j = 11)) ∨ (42 ≤ k ∧ k ≤ 45) ∨ k = 49
theorem c_alikes {K : List zF} {t tp : Nat} {T : TRE} {st : PST} {pd : Nat → Nat} {o1 : Option zV} {σ : zW} (hgT : tgd T) (hS : sOn t tp T st σ) (hA : cPa tp st pd σ)
    (k : ∀ (σ' : zW) (o2 o4 : Option zV), yFr (fun k _ => k = 45) σ σ' → (∀ a, a < T.1 → gI σ' 45 a = ((bs (fun b => T.2.1 a = T.2.1 b) T.1 : Nat) : Int)) → zEv true ((66, 99, [some (.inr (.inr 41)), o1, o2, some (.inl 0), o4], []) :: K) σ') :
    ∀ (d a : Nat) (o2 o4 : Option zV) (σ2 : zW), T.1 - a = d → a ≤ T.1 → yFr (fun k _ => k = 45) σ σ2 → (∀ a', a' < a → gI σ2 45 a' = ((bs (fun b => T.2.1 a' = T.2.1 b) T.1 : Nat) : Int)) → zEv true ((66, 12, [some (.inr (.inr 41)), o1, o2, some (.inl (a : Int)), o4], []) :: K) σ2 := by
  have hn := hgT.1.1
  intro d
  induction d with
  | zero =>
    intro a o2 o4 σ2 hd ha hF h45
    have e : a = T.1 := by omega
    obtain ⟨s1, s2, s3, s4, s5, s6⟩ := sOn_fr hS hF (fun k j x => by omega)
    rw [zj_66_12 (by rw [s3]; exact s1), s3, s5.1.1, e, if_pos (Int.le_refl _)]
    exact k σ2 _ _ hF (fun a2 ha2 => h45 a2 (by rw [e]; exact ha2))
  | succ d ih =>
    intro a o2 o4 σ2 hd ha hF h45
    have ha' : a < T.1 := by omega
    have hni : ¬ (T.1 : Int) ≤ (a : Int) := by omega
    have hca : 0 ≤ (a : Int) ∧ (a : Int) < 20 := by omega
    have hd1 : T.1 - (a + 1) = d := by omega
    have ea : ∀ _ : Unit, w32 ((a : Int) + 1) = ((a + 1 : Nat) : Int) := fun _ => w_s (by omega)
    have hSb := sOn_fr hS hF (fun k j x => by omega)
    obtain ⟨s1, s2, s3, s4, s5, s6⟩ := id hSb
    rw [zj_66_12 (by rw [s3]; exact s1), s3, s5.1.1, if_neg hni, yAnd hca, Int.toNat_natCast]
    have hF1 : yFr (fun k j => k = 45 ∧ j = a) σ2 (sI σ2 45 a 0) := yFr.rf.I ⟨rfl, rfl⟩
    have e1 : gI (sI σ2 45 a 0) 45 a = ((bs (fun b => b < 0 ∧ T.2.1 a = T.2.1 b) T.1 : Nat) : Int) := by
      have : bs (fun b => b < 0 ∧ T.2.1 a = T.2.1 b) T.1 = 0 := bs_zero.mpr (fun i _ x => Nat.not_lt_zero i x.1)
      rw [this]; exact yGI_hit
    generalize sI σ2 45 a 0 = σ3 at hF1 e1 ⊢
    have L : ∀ (d' b : Nat) (σ4 : zW), T.1 - b = d' → b ≤ T.1 → yFr (fun k j => k = 45 ∧ j = a) σ2 σ4 → gI σ4 45 a = ((bs (fun b' => b' < b ∧ T.2.1 a = T.2.1 b') T.1 : Nat) : Int) → zEv true ((66, 33, [some (.inr (.inr 41)), o1, o2, some (.inl (a : Int)), some (.inl (b : Int))], []) :: K) σ4 := by
      intro d'
      induction d' with
      | zero =>
        intro b σ4 hd' hb hF4 h4
        have e : b = T.1 := by omega
        obtain ⟨t1, t2, t3, t4, t5, t6⟩ := sOn_fr hSb hF4 (fun k j x => by omega)
        rw [zj_66_33 (by rw [t3]; exact t1), t3, t5.1.1, e, if_pos (Int.le_refl _), (ea ())]
        refine ih (a + 1) _ _ σ4 hd1 ha' (hF.trans (hF4.mono (fun k j x => x.1))) (fun a' ha2 => ?_)
        by_cases ea' : a' = a
        · rw [ea', h4]
          exact bsI (fun i hi => ⟨fun x => x.2, fun x => ⟨by rw [e]; exact hi, x⟩⟩)
        · rw [hF4.i (fun x => ea' x.2)]
          exact h45 a' (by omega)
      | succ d' ih' =>
        intro b σ4 hd' hb hF4 h4
        have hb' : b < T.1 := by omega
        have hnb : ¬ (T.1 : Int) ≤ (b : Int) := by omega
        have hcb : 0 ≤ (b : Int) ∧ (b : Int) < 20 := by omega
        have hd1' : T.1 - (b + 1) = d' := by omega
        have eb : ∀ _ : Unit, w32 ((b : Int) + 1) = ((b + 1 : Nat) : Int) := fun _ => w_s (by clear ea; omega)
        obtain ⟨t1, t2, t3, t4, t5, t6⟩ := sOn_fr hSb hF4 (fun k j x => by omega)
        have la := (t5.1.2 a ha').1
        have lb := (t5.1.2 b hb').1
        rw [zj_66_33 (by rw [t3]; exact t1), t3, t5.1.1, if_neg hnb, yAnd hca, yAnd hca, yAnd hcb, yAnd hca, Int.toNat_natCast, Int.toNat_natCast, la, lb, h4, (eb ())]
        clear ea eb
        have hnew : ∀ _ : Unit, zor ((bs (fun b' => b' < b ∧ T.2.1 a = T.2.1 b') T.1 : Nat) : Int) (if ¬ zlc (T.2.1 a) (T.2.1 b) = 0 then 0 else zshl 1 (b : Int) : Int) = ((bs (fun b' => b' < b + 1 ∧ T.2.1 a = T.2.1 b') T.1 : Nat) : Int) := fun _ => by
          have z31 := bs_lt31 (fun b' => b' < b ∧ T.2.1 a = T.2.1 b') hn
          by_cases q : T.2.1 a = T.2.1 b
          · rw [if_neg (fun x => x (zlc_eq.mpr q)), zshl_all b (by clear h4 la lb; omega), zor_nat z31 (Nat.pow_lt_pow_right (by decide) (by clear h4 la lb; omega)), bs_add hb']
            refine bsI (fun i _ => ⟨fun x => ?_, fun x => ?_⟩)
            · rcases x with x | x
              · exact ⟨Nat.lt_succ_of_lt x.1, x.2⟩
              · rw [x]; exact ⟨Nat.lt_succ_self b, q⟩
            · rcases Nat.lt_succ_iff_lt_or_eq.mp x.1 with y | y
              · exact Or.inl ⟨y, x.2⟩
              · exact Or.inr y
          · rw [if_pos (fun x => q (zlc_eq.mp x)), show (0 : Int) = ((0 : Nat) : Int) from rfl, zor_nat z31 (by decide), Nat.or_zero]
            refine bsI (fun i _ => ⟨fun x => ⟨Nat.lt_succ_of_lt x.1, x.2⟩, fun x => ?_⟩)
            rcases Nat.lt_succ_iff_lt_or_eq.mp x.1 with y | y
            · exact ⟨y, x.2⟩
            · rw [y] at x; exact absurd x.2 q
        rw [(hnew ())]
        have hF5 : yFr (fun k j => k = 45 ∧ j = a) σ4 (sI σ4 45 a ((bs (fun b' => b' < b + 1 ∧ T.2.1 a = T.2.1 b') T.1 : Nat) : Int)) := yFr.rf.I ⟨rfl, rfl⟩
        have e5 : gI (sI σ4 45 a ((bs (fun b' => b' < b + 1 ∧ T.2.1 a = T.2.1 b') T.1 : Nat) : Int)) 45 a = ((bs (fun b' => b' < b + 1 ∧ T.2.1 a = T.2.1 b') T.1 : Nat) : Int) := yGI_hit
        generalize sI σ4 45 a ((bs (fun b' => b' < b + 1 ∧ T.2.1 a = T.2.1 b') T.1 : Nat) : Int) = σ5 at hF5 e5 ⊢
        exact ih' (b + 1) σ5 hd1' hb' (hF4.trans hF5) e5
    exact L T.1 0 σ3 (Nat.sub_zero _) (Nat.zero_le _) hF1 e1
theorem c_prepare {K : List zF} (hK : K.length + 3 ≤ 60) {t tp m : Nat} {T : TRE} {st : PST} {pd : Nat → Nat} {σ : zW} (hgT : tgd T) (hg : pgd st pd) (hw8 : pw st) (hu : pup st) (h1c : 1 ≤ st.1) (hl : st.2.1 ≤ 300) (ht : zTr t) (htp : zPn tp) (hT : cTr t T σ) (hP : cP tp st σ) (hA : cPa tp st pd σ) (hm : m ≤ st.2.2.1) (h1 : ∀ j, j < m → bst T st (chs T st j) st.2.2.1 ≠ -1) (h2 : bst T st (chs T st m) st.2.2.1 = -1)
    (k : ∀ σ' : zW, yFr Xp σ σ' → sAll t tp T st pd σ' → gI σ' 41 8 = (m : Int) → (∀ j, j < m → gI σ' 49 j = (pl T st j : Int)) → zRet true K none σ') : zEv true (zent 66 [.inr (.inr 41), .inr (.inr t), .inr (.inr tp)] :: K) σ := by
  have hc := hw8.1
  have htb := zTr_b ht
  have htpb : tp = 80 ∨ tp = 95 := htp
  have hKl : K.length < 60 := by omega
  rw [ze_66]
  have hF0 : yFr (fun k j => k = 41 ∧ (j = 10 ∨ j = 11)) σ (sR (sR σ 41 10 t) 41 11 tp) := (yFr.rf.R (X := fun k j => k = 41 ∧ (j = 10 ∨ j = 11)) ⟨rfl, Or.inl rfl⟩).R ⟨rfl, Or.inr rfl⟩
  have hS0 : sOn t tp T st (sR (sR σ 41 10 t) 41 11 tp) := by
    refine ⟨ht, htp, ?_, ?_, cTr_fr hT hF0 (fun k j x => by have : t = 5 ∨ t = 17 ∨ t = 29 ∨ t = 68 := ht; omega), cP_fr2 hP hF0 (fun k j k1 k2 => by omega)⟩
    · rw [gR_sR, if_neg (by omega), gR_sR, if_pos ⟨rfl, rfl⟩]
    · rw [gR_sR, if_pos ⟨rfl, rfl⟩]
  have hA0 : cPa tp st pd (sR (sR σ 41 10 t) 41 11 tp) := fun j hj => (hF0.i (by omega)).trans (hA j hj)
  generalize sR (sR σ 41 10 t) 41 11 tp = σ0 at hF0 hS0 hA0 ⊢
  refine c_alikes hgT hS0 hA0 (fun σ1 o2 o4 hF1 h45 => ?_) T.1 0 _ _ σ0 (Nat.sub_zero _) (Nat.zero_le _) yFr.rf (fun a ha => absurd ha (Nat.not_lt_zero a))
  have hS1 := sOn_fr hS0 hF1 (fun k j x => by omega)
  have L : ∀ (d p : Nat) (o2 : Option zV) (σ2 : zW), st.1 - p = d → p ≤ st.1 → yFr (fun k _ => 42 ≤ k ∧ k ≤ 44) σ1 σ2 → (∀ p', p' < p → gI σ2 42 p' = ((bs (fun a => ftP st.2.2.2.1 st.2.2.2.2 p' (T.2.1 a)) T.1 : Nat) : Int)) → (∀ p', p' < p → rbS T st.2.2.2.1 p' (fun _ _ => True) σ2) → zEv true ((66, 99, [some (.inr (.inr 41)), some (.inr (.inr t)), o2, some (.inl (p : Int)), o4], []) :: K) σ2 := by
    intro d
    induction d with
    | zero =>
      intro p o2 σ2 hd hp hF2 h42 hrb
      have e : p = st.1 := by omega
      rw [e] at h42 hrb
      have hS2 := sOn_fr hS1 hF2 (fun k j x => by omega)
      obtain ⟨s1, s2, s3, s4, s5, s6⟩ := id hS2
      rw [zj_66_99 hKl (by rw [s4]; exact s2), s4, s6.1, e, if_pos (Int.le_refl _)]
      refine c_makePlan (by show K.length + 1 + 1 < 60; omega) hgT hg hw8 hu h1c hS2 h42 hm h1 h2 (fun σ3 hF3 h8 h49 => ?_)
      rw [zr_66_130]
      refine k σ3 ((hF0.mono (fun k j x => ?_)).trans ((hF1.mono (fun k j x => ?_)).trans ((hF2.mono (fun k j x => ?_)).trans (hF3.mono (fun k j x => ?_))))) ⟨sOn_fr hS2 hF3 (fun k j x => by omega), fun j hj => ?_, ⟨fun p hp => (hF3.i (by omega)).trans (h42 p hp), fun p hp a ha => ?_, fun a ha => ?_⟩⟩ h8 h49
      · show (k = 41 ∧ (j = 8 ∨ j = 10 ∨ j = 11)) ∨ (42 ≤ k ∧ k ≤ 45) ∨ k = 49; omega
      · show (k = 41 ∧ (j = 8 ∨ j = 10 ∨ j = 11)) ∨ (42 ≤ k ∧ k ≤ 45) ∨ k = 49; omega
      · show (k = 41 ∧ (j = 8 ∨ j = 10 ∨ j = 11)) ∨ (42 ≤ k ∧ k ≤ 45) ∨ k = 49; omega
      · show (k = 41 ∧ (j = 8 ∨ j = 10 ∨ j = 11)) ∨ (42 ≤ k ∧ k ≤ 45) ∨ k = 49; omega
      · exact (hF3.i (by omega)).trans ((hF2.i (by omega)).trans ((hF1.i (by omega)).trans (hA0 j hj)))
      · obtain ⟨r1, r2⟩ := hrb p hp a ha
        exact ⟨(hF3.i (by omega)).trans r1, (hF3.i (by omega)).trans r2⟩
      · exact (hF3.i (by omega)).trans ((hF2.i (by omega)).trans (h45 a ha))
    | succ d ih =>
      intro p o2 σ2 hd hp hF2 h42 hrb
      have hp' : p < st.1 := by omega
      have hni : ¬ (st.1 : Int) ≤ (p : Int) := by omega
      have hd1 : st.1 - (p + 1) = d := by omega
      have ep : ∀ _ : Unit, w32 ((p : Int) + 1) = ((p + 1 : Nat) : Int) := fun _ => w_s (by omega)
      have hS2 := sOn_fr hS1 hF2 (fun k j x => by omega)
      obtain ⟨s1, s2, s3, s4, s5, s6⟩ := id hS2
      rw [zj_66_99 hKl (by rw [s4]; exact s2), s4, s6.1, if_neg hni]
      refine c_prepFits (by show K.length + 1 + 1 ≤ 60; omega) hgT hg hc hl hp' hS2 (fun σ3 hF3 h3 => ?_)
      rw [zr_66_115 hKl]
      refine c_prepReaches (by show K.length + 1 + 1 ≤ 60; omega) hgT hg hc hp' (sOn_fr hS2 hF3 (fun k j x => by omega)) (fun σ4 hF4 h4 => ?_)
      rw [zr_66_120, (ep ())]
      refine ih (p + 1) _ σ4 hd1 hp' (hF2.trans ((hF3.mono (fun k j x => by omega)).trans (hF4.mono (fun k j x => by omega)))) (fun p' hp2 => ?_) (fun p' hp2 => ?_)
      · rw [hF4.i (by clear ep; omega)]
        by_cases e : p' = p
        · rw [e]; exact h3
        · rw [hF3.i (by clear ep; omega)]
          exact h42 p' (by clear ep; omega)
      · by_cases e : p' = p
        · rw [e]; exact h4
        · intro a ha
          have hn := hgT.1.1
          obtain ⟨r1, r2⟩ := hrb p' (by clear ep; omega) a ha
          refine ⟨(hF4.i ?_).trans ((hF3.i ?_).trans r1), (hF4.i ?_).trans ((hF3.i ?_).trans r2)⟩ <;> (clear ep r1 r2; omega)
  exact L st.1 0 _ σ1 (Nat.sub_zero _) (Nat.zero_le _) yFr.rf (fun p hp => absurd hp (Nat.not_lt_zero p)) (fun p hp => absurd hp (Nat.not_lt_zero p))
