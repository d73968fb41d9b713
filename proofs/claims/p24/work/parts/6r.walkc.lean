/-! the walk of the class: a node is taken -/
theorem wOn_put {t tp tf a : Nat} {T : TRE} {st : PST} {pd : Nat → Nat} {ah : Prop} {p : Nat} {w τ : Nat → Int} {P : Nat → Prop} {σ σ3 : zW} (htf : zFo tf) (hg : pgd st pd) (h : wOn t tp tf T st pd ah p w τ P σ) (hp : p < st.1) (ha : a < T.1) (hpl : ah → pln st.2.2.2.1 p → st.2.2.2.1 8 p ≠ -1 → vp w st.2.2.2.1 p = (a : Int))
    (h3 : (st.2.2.2.1 8 p = -1 ∧ σ3 = sI σ 47 p (a : Int)) ∨ ∃ k : Nat, k < st.2.2.1 ∧ st.2.2.2.1 8 p = (k : Int) ∧ np st k = p ∧ σ3 = sI (sI σ 47 p (a : Int)) 48 k (a : Int)) : yFr (Xw st ah tf p) σ σ3 ∧ wOn t tp tf T st pd ah (p + 1) (nwst st w p a) (wst τ p (a : Int)) P σ3 := by
  have htf' : tf = 50 ∨ tf = 52 := htf
  have base : yFr (fun k j => Xw st ah tf p k j ∧ (k = 47 ∨ k = 48)) σ σ3 ∧ (∀ k, k < st.2.2.1 → np st k = p → gI σ3 48 k = (a : Int)) ∧ gI σ3 47 p = (a : Int) := by
    rcases h3 with ⟨e8, e⟩ | ⟨k, k1, k2, k3, e⟩
    · subst e
      refine ⟨yFr.rf.I ⟨Or.inr (Or.inl ⟨rfl, Nat.le_refl p⟩), Or.inl rfl⟩, fun j j1 j2 => ?_, yGI_hit⟩
      have := (np_ok hg j1).2.2.1
      rw [j2, e8] at this; omega
    · have hu : ∀ j, j < st.2.2.1 → np st j = p → j = k := fun j j1 j2 => by
        have := (np_ok hg j1).2.2.1
        rw [j2, k2] at this
        exact (Int.ofNat.inj this).symm
      have h47 : gI (sI (sI σ 47 p (a : Int)) 48 k (a : Int)) 47 p = (a : Int) := by rw [gI_sI, if_neg (by omega)]; exact yGI_hit
      have h48 : gI (sI (sI σ 47 p (a : Int)) 48 k (a : Int)) 48 k = (a : Int) := yGI_hit
      have F1 : yFr (fun k j => Xw st ah tf p k j ∧ (k = 47 ∨ k = 48)) σ (sI σ 47 p (a : Int)) := yFr.rf.I ⟨Or.inr (Or.inl ⟨rfl, Nat.le_refl p⟩), Or.inl rfl⟩
      refine ⟨?_, fun j j1 j2 => ?_, ?_⟩
      · rw [e]
        by_cases cc : ah ∧ pln st.2.2.2.1 p
        · have hb := (h.2.2.2.2.2.2.1 cc.1 k k1 (by rw [k3]; exact cc.2) (by rw [k3]; exact hp)).1
          have hv := hpl cc.1 cc.2 (by rw [k2]; omega)
          unfold vp at hv
          rw [k2, Int.toNat_natCast] at hv
          have hid : sI (sI σ 47 p (a : Int)) 48 k (a : Int) = sI σ 47 p (a : Int) := sI_id (by rw [gI_sI, if_neg (by omega), hb, hv])
          rw [hid]; exact F1
        · exact F1.I ⟨Or.inr (Or.inr (Or.inl ⟨rfl, by rw [k3]; exact Nat.le_refl p, fun x y => cc ⟨x, by rw [k3] at y; exact y⟩⟩)), Or.inr rfl⟩
      · rw [e, hu j j1 j2]; exact h48
      · rw [e]; exact h47
  obtain ⟨hF2, hA, hB⟩ := base
  clear h3
  have hQ : fdS tf (T.1 + 1) st.2.2.1 P σ3 := fdS_fr h.2.2.2.1 hF2 (fun k j x => by have := x.2; omega)
  have hF : yFr (Xw st ah tf p) σ σ3 := hF2.mono (fun k j x => x.1)
  obtain ⟨h1, h2, h3, h4, h5, h6, h7, h8⟩ := wOn_fr htf h hF hQ
  refine ⟨hF, h1, h2, h3, h4, fun k k1 k2 => ?_, fun k k1 k2 k3 => ?_, fun hah k k1 k2 k3 => ?_, fun q q1 q2 => ?_⟩
  · by_cases e : np st k = p
    · rw [nwst_e hg k1 e]
      exact ⟨hA k k1 e, by omega, by omega⟩
    · rw [nwst_n hg hp k1 e]; exact h5 k k1 (by omega)
  · by_cases e : np st k = p
    · rw [nwst_e hg k1 e]
      exact ⟨hA k k1 e, a, ha, rfl⟩
    · rw [nwst_n hg hp k1 e]; exact h6 k k1 k2 (by omega)
  · by_cases e : np st k = p
    · rw [nwst_e hg k1 e]
      exact ⟨hA k k1 e, a, ha, rfl⟩
    · rw [nwst_n hg hp k1 e]; exact h7 hah k k1 k2 k3
  · by_cases e : q = p
    · rw [e, wst_e]
      exact ⟨hB, a, ha, rfl⟩
    · rw [wst_n e] at q2 ⊢; exact h8 q (by omega) q2
theorem cutK_put {st : PST} {pd : Nat → Nat} {p a : Nat} {τ : Nat → Int} (h : cutK st pd p τ) : cutK st pd (p + 1) (wst τ p (a : Int)) := fun q hq => by
  by_cases e : q = p
  · rw [e, wst_e]; exact Or.inl (by omega)
  · rw [wst_n e]
    rcases h q (by omega) with x | ⟨b, b1, b2, b3, b4⟩
    · exact Or.inl x
    · exact Or.inr ⟨b, b1, b2, b3, by omega⟩
theorem cutK_cut {st : PST} {pd : Nat → Nat} {p : Nat} {τ : Nat → Int} (hp : p < st.1) (h : cutK st pd p τ) : cutK st pd (ed pd st.1 p) (cutT τ p (ed pd st.1 p)) := fun q hq => by
  obtain ⟨d1, d2, -, -⟩ := ed_spec (dep := pd) hp
  unfold cutT
  by_cases c : p ≤ q ∧ q < ed pd st.1 p
  · rw [if_pos c]
    exact Or.inr ⟨p, hp, c.1, c.2, Nat.le_refl _⟩
  · rw [if_neg c]
    rcases h q (by omega) with x | ⟨b, b1, b2, b3, b4⟩
    · exact Or.inl x
    · exact Or.inr ⟨b, b1, b2, b3, by omega⟩
theorem cutK_act {st : PST} {pd : Nat → Nat} {p : Nat} {τ : Nat → Int} (hg : pgd st pd) (hw8 : pw st) (hu : pup st) (hp : p < st.1) (h0 : p ≠ 0) (h : cutK st pd p τ) : τ (fr3 st p) ≠ -1 := by
  rcases h (fr3 st p) (up_lt hw8 hu hp h0) with x | ⟨b, b1, b2, b3, b4⟩
  · exact x
  · have h3 : par pd p = ((fr3 st p : Nat) : Int) := by
      have e := fr_par hg hp
      have h1 := hu p (by omega) hp
      have h2 : fr3 st p = (st.2.2.2.1 3 p).toNat := rfl
      rw [← e, h2, Int.toNat_of_nonneg h1]
    have h4 := (ed_child hg.1 hp h3).1
    have h5 := ed_in (pd := pd) b1 b2 b3
    omega
/-- what the walk from part p on does -/
def wSp (t tp tf : Nat) (T : TRE) (st : PST) (pd : Nat → Nat) (ah : Prop) (p L : Nat) : Prop := ∀ (K : List zF) (w τ : Nat → Int) (P : Nat → Prop) (σ : zW), K.length + L ≤ 60 → wOn t tp tf T st pd ah p w τ P σ → cutK st pd p τ → (∀ (σ' : zW) (Q : Nat → Prop), yFr (Xw st ah tf p) σ σ' → fdS tf (T.1 + 1) st.2.2.1 Q σ' → (∀ c, Q c ↔ (P c ∨ ∃ v, wk T st ah p w τ v ∧ c = pcn (T.1 + 1) v st.2.2.1)) → zRet true K none σ') → zEv true (zent 76 [.inr (.inr 41), .inl (p : Int)] :: K) σ
theorem c_wloop {K : List zF} {t tp tf p L : Nat} {T : TRE} {st : PST} {pd : Nat → Nat} {ah : Prop} {w τ : Nat → Int} {P O : Nat → Prop} {σ : zW} (hgT : tgd T) (hg : pgd st pd) (hw8 : pw st) (htf : zFo tf) (hp : p < st.1) (hL : wSp t tp tf T st pd ah (p + 1) L) (hL1 : 1 ≤ L) (hK : K.length + 1 + L ≤ 60) (hO : ∀ a, O a → ah → pln st.2.2.2.1 p → st.2.2.2.1 8 p ≠ -1 → vp w st.2.2.2.1 p = (a : Int)) (hcut : cutK st pd p τ)
    (k : ∀ (σ' : zW) (Q : Nat → Prop), yFr (Xw st ah tf p) σ σ' → fdS tf (T.1 + 1) st.2.2.1 Q σ' → (∀ c, Q c ↔ (P c ∨ ∃ a, a < T.1 ∧ O a ∧ ∃ v, wk T st ah (p + 1) (nwst st w p a) (wst τ p (a : Int)) v ∧ c = pcn (T.1 + 1) v st.2.2.1)) → zRet true K none σ') :
    ∀ (d a : Nat) (P2 : Nat → Prop) (σ2 : zW), T.1 - a = d → a ≤ T.1 → yFr (Xw st ah tf p) σ σ2 → wOn t tp tf T st pd ah p w τ P2 σ2 → (∀ c, P2 c ↔ (P c ∨ ∃ a', a' < a ∧ O a' ∧ ∃ v, wk T st ah (p + 1) (nwst st w p a') (wst τ p (a' : Int)) v ∧ c = pcn (T.1 + 1) v st.2.2.1)) → zEv true ((76, 194, [some (.inr (.inr 41)), some (.inl (p : Int)), some (.inl ((bs O T.1 : Nat) : Int)), some (.inl (st.2.2.2.1 8 p)), some (.inl (a : Int))], []) :: K) σ2 := by
  have hn := hgT.1.1
  have hc := hw8.1
  have hN := hw8.2.1
  have hcp : 0 ≤ (p : Int) ∧ (p : Int) < 8 := by omega
  have hwp : ∀ _ : Unit, w32 ((p : Int) + 1) = ((p + 1 : Nat) : Int) := fun _ => w_s (by omega)
  intro d
  induction d with
  | zero =>
    intro a P2 σ2 hd ha hF hW hP
    have ea : a = T.1 := by omega
    obtain ⟨⟨⟨s1, s2, s3, s4, s5, s6⟩, -, -⟩, -, -, w4, -⟩ := hW
    rw [zj_76_194 (by rw [s3]; exact s1), s3, s5.1.1, ea, if_pos (Int.le_refl _)]
    refine k σ2 P2 hF w4 (fun c => ?_)
    rw [hP c, ea]
  | succ d ih =>
    intro a P2 σ2 hd ha hF hW hP
    have ha' : a < T.1 := by omega
    have hna : ¬ (T.1 : Int) ≤ (a : Int) := by omega
    have hea : ∀ _ : Unit, w32 ((a : Int) + 1) = ((a + 1 : Nat) : Int) := fun _ => w_s (by omega)
    have hd1 : T.1 - (a + 1) = d := by omega
    have hsa := hW.1
    obtain ⟨⟨s1, s2, s3, s4, s5, s6⟩, -, -⟩ := hsa
    have ht := bs_test (P := O) hn ha'
    rw [zj_76_194 (by rw [s3]; exact s1), s3, s5.1.1, if_neg hna]
    rcases Classical.em (O a) with o | o
    · rw [if_neg (fun x => ht.mp x o), yAnd hcp, Int.toNat_natCast]
      have fin : ∀ σ3 : zW, ((st.2.2.2.1 8 p = -1 ∧ σ3 = sI σ2 47 p (a : Int)) ∨ ∃ k : Nat, k < st.2.2.1 ∧ st.2.2.2.1 8 p = (k : Int) ∧ np st k = p ∧ σ3 = sI (sI σ2 47 p (a : Int)) 48 k (a : Int)) → zEv true ((76, 236, [some (.inr (.inr 41)), some (.inl (p : Int)), some (.inl ((bs O T.1 : Nat) : Int)), some (.inl (st.2.2.2.1 8 p)), some (.inl (a : Int))], []) :: K) σ3 := fun σ3 h3 => by
        obtain ⟨hF3, hW3⟩ := wOn_put htf hg hW hp ha' (hO a o) h3
        clear h3
        rw [zj_76_236 (by omega), (hwp ())]
        refine hL _ _ _ P2 σ3 (by show K.length + 1 + L ≤ 60; exact hK) hW3 (cutK_put hcut) (fun σ4 Q hF4 hQ hQc => ?_)
        rw [zr_76_243, (hea ())]
        have hF24 : yFr (Xw st ah tf p) σ2 σ4 := hF3.trans (hF4.mono (fun k j x => Xw_mono (Nat.le_succ p) x))
        refine ih (a + 1) Q σ4 hd1 ha' (hF.trans hF24) (wOn_fr htf hW hF24 hQ) (fun c => ?_)
        rw [hQc c, hP c]
        constructor
        · rintro ((x | ⟨b, b1, b2⟩) | x)
          · exact Or.inl x
          · exact Or.inr ⟨b, Nat.lt_succ_of_lt b1, b2⟩
          · exact Or.inr ⟨a, Nat.lt_succ_self a, o, x⟩
        · rintro (x | ⟨b, b1, b2⟩)
          · exact Or.inl (Or.inl x)
          · rcases Nat.lt_succ_iff_lt_or_eq.mp b1 with y | y
            · exact Or.inl (Or.inr ⟨b, y, b2⟩)
            · rw [y] at b2; exact Or.inr b2.2
      by_cases e8 : st.2.2.2.1 8 p = -1
      · rw [if_pos e8]
        exact fin _ (Or.inl ⟨e8, rfl⟩)
      · obtain ⟨m, m1, m2, m3⟩ := np_num hg hp e8
        rw [if_neg e8]
        have hcm : 0 ≤ st.2.2.2.1 8 p ∧ st.2.2.2.1 8 p < 4 := by rw [m2]; omega
        rw [yAnd hcm]
        refine fin _ (Or.inr ⟨m, m1, m2, m3, ?_⟩)
        rw [m2, Int.toNat_natCast]
    · rw [if_pos (ht.mpr o), (hea ())]
      refine ih (a + 1) P2 σ2 hd1 ha' hF hW (fun c => ?_)
      rw [hP c]
      constructor
      · rintro (x | ⟨b, b1, b2⟩)
        · exact Or.inl x
        · exact Or.inr ⟨b, Nat.lt_succ_of_lt b1, b2⟩
      · rintro (x | ⟨b, b1, b2⟩)
        · exact Or.inl x
        · rcases Nat.lt_succ_iff_lt_or_eq.mp b1 with y | y
          · exact Or.inr ⟨b, y, b2⟩
          · rw [y] at b2; exact absurd b2.1 o
