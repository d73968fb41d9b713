/-! the walk of the class: whole -/
def X0p (T : TRE) (st : PST) (p : Nat) (τ : Nat → Int) (a : Nat) : Prop := (p = 0 → ftP st.2.2.2.1 st.2.2.2.2 0 (T.2.1 a)) ∧ (p ≠ 0 → rlp T st.2.2.2.1 p (τ (fr3 st p)).toNat a)
theorem c_went {K : List zF} {t tp tf p : Nat} {T : TRE} {st : PST} {pd : Nat → Nat} {ah : Prop} {w τ : Nat → Int} {P : Nat → Prop} {σ : zW} (hgT : tgd T) (hg : pgd st pd) (hw8 : pw st) (hu : pup st) (htf : zFo tf) (hp : p < st.1) (hK : K.length < 60) (hW : wOn t tp tf T st pd ah p w τ P σ) (hτ : p ≠ 0 → τ (fr3 st p) ≠ -1) : zEv true (zent 76 [.inr (.inr 41), .inl (p : Int)] :: K) σ = (if st.2.2.2.1 11 p = 0 then (if ¬ st.2.2.2.1 9 p = (p : Int) then zEv true ((76, 139, [some (.inr (.inr 41)), some (.inl (p : Int)), some (.inl ((bs (X0p T st p τ) T.1 : Nat) : Int)), none, none], []) :: K) σ else zEv true (zent 79 [.inr (.inr 41), .inl (p : Int)] :: (76, 116, [some (.inr (.inr 41)), some (.inl (p : Int)), some (.inl ((bs (X0p T st p τ) T.1 : Nat) : Int)), none, none], [.inl ((bs (X0p T st p τ) T.1 : Nat) : Int)]) :: K) σ) else zEv true (zent 79 [.inr (.inr 41), .inl (p : Int)] :: (76, 79, [some (.inr (.inr 41)), some (.inl (p : Int)), some (.inl ((bs (X0p T st p τ) T.1 : Nat) : Int)), none, none], [.inl ((bs (X0p T st p τ) T.1 : Nat) : Int)]) :: K) σ) := by
  have hn := hgT.1.1
  have hc := hw8.1
  have hcp : 0 ≤ (p : Int) ∧ (p : Int) < 8 := by omega
  have hlt : (p : Int) < (st.1 : Int) := by omega
  obtain ⟨⟨⟨s1, s2, s3, s4, s5, s6⟩, hpa, hr1, hr2, hr3⟩, w2, w3, w4, w5, w6, w7, w8⟩ := hW
  have g11 : gI σ (tp + 11) p = st.2.2.2.1 11 p := s6.2.2.2.1 11 p (by omega) (by omega) (by omega) hp
  have g9 : gI σ (tp + 9) p = st.2.2.2.1 9 p := s6.2.2.2.1 9 p (by omega) (by omega) (by omega) hp
  have g3 : gI σ (tp + 3) p = st.2.2.2.1 3 p := s6.2.2.2.1 3 p (by omega) (by omega) (by omega) hp
  have g15 : gI σ tp 15 = (st.1 : Int) := s6.1
  rw [ze_76 hK (by rw [s4]; exact s2) (by rw [w3]; exact htf), s4, g15, if_pos hlt, Int.toNat_natCast, g11, g9, g3]
  by_cases h0 : p = 0
  · have hX : gI σ 42 0 = ((bs (X0p T st p τ) T.1 : Nat) : Int) := by
      rw [hr1 0 (by omega)]
      refine bsI (fun a ha => ⟨fun x => ⟨fun _ => x, fun y => absurd h0 y⟩, fun x => x.1 h0⟩)
    have e0 : (p : Int) = 0 := by omega
    rw [yAnd (fun x => absurd e0 x), yAnd hcp, yAnd hcp, if_neg (show ¬ ¬ (p : Int) = 0 from fun x => x e0), hX]
  · have e0 : ¬ (p : Int) = 0 := by omega
    have hul := up_lt hw8 hu hp h0
    have e3 : st.2.2.2.1 3 p = ((fr3 st p : Nat) : Int) := by
      have h1 := hu p (by omega) hp
      have h2 : fr3 st p = (st.2.2.2.1 3 p).toNat := rfl
      rw [h2, Int.toNat_of_nonneg h1]
    obtain ⟨a1, j, j1, j2⟩ := w8 (fr3 st p) hul (hτ h0)
    have hcu : 0 ≤ ((fr3 st p : Nat) : Int) ∧ ((fr3 st p : Nat) : Int) < 8 := by clear g11 g9 g3; omega
    have hix : 20 * p + j < 160 := by clear g11 g9 g3; omega
    have hcx : 0 ≤ ((20 * p + j : Nat) : Int) ∧ ((20 * p + j : Nat) : Int) < 160 := by clear g11 g9 g3; omega
    have hX : gI σ 43 (20 * p + j) = ((bs (X0p T st p τ) T.1 : Nat) : Int) := by
      rw [(hr2 p hp j j1).1]
      refine bsI (fun a ha => ⟨fun x => ⟨fun y => absurd y h0, fun _ => by rw [j2, Int.toNat_natCast]; exact x.2⟩, fun x => ⟨trivial, ?_⟩⟩)
      have := x.2 h0
      rw [j2, Int.toNat_natCast] at this
      exact this
    rw [e3, Int.toNat_natCast, a1, j2, w160 hix, Int.toNat_natCast, yAnd (fun _ => ⟨⟨hcp, hcu⟩, hcx⟩), yAnd hcp, yAnd hcp, if_pos e0, hX]
/-- the nodes that part p may have -/
def oP (T : TRE) (st : PST) (ah : Prop) (w τ : Nat → Int) (p a : Nat) : Prop := own T st w p a ∧ (p ≠ 0 → rlp T st.2.2.2.1 p (τ (fr3 st p)).toNat a) ∧ (ah → pln st.2.2.2.1 p → st.2.2.2.1 8 p ≠ -1 → vp w st.2.2.2.1 p = (a : Int))
theorem own_0 {T : TRE} {st : PST} {pd : Nat → Nat} {w : Nat → Int} {a : Nat} (hg : pgd st pd) (hp : 0 < st.1) : own T st w 0 a ↔ ftP st.2.2.2.1 st.2.2.2.2 0 (T.2.1 a) := by
  unfold own
  rw [if_neg (fun x => by have := ref_own hg hp (Or.inl x); omega), if_neg (fun x => by have := ref_own hg hp (Or.inr x); omega)]
theorem oP_x {T : TRE} {st : PST} {pd : Nat → Nat} {ah : Prop} {w τ : Nat → Int} {p a : Nat} (hg : pgd st pd) (hp : p < st.1) : (X0p T st p τ a ∧ own T st w p a) ↔ (own T st w p a ∧ (p ≠ 0 → rlp T st.2.2.2.1 p (τ (fr3 st p)).toNat a)) := by
  constructor
  · rintro ⟨x1, x2⟩
    exact ⟨x2, x1.2⟩
  · rintro ⟨x1, x2⟩
    refine ⟨⟨fun y => ?_, x2⟩, x1⟩
    rw [y] at x1 hp
    exact (own_0 hg hp).mp x1
theorem c_wact {K : List zF} {t tp tf p L : Nat} {T : TRE} {st : PST} {pd : Nat → Nat} {ah : Prop} {w τ : Nat → Int} {P : Nat → Prop} {σ σ0 : zW} (hgT : tgd T) (hg : pgd st pd) (hw8 : pw st) (hu : pup st) (htf : zFo tf) (hp : p < st.1) (hL : wSp t tp tf T st pd ah (p + 1) L) (hL1 : 1 ≤ L) (hK : K.length + 1 + L ≤ 60) (hcut : cutK st pd p τ) (h11 : st.2.2.2.1 11 p = 0) (hτ : p ≠ 0 → τ (fr3 st p) ≠ -1) (hs : st.2.2.2.1 9 p = (p : Int) → smo T st w p (τ (fr3 st p)).toNat) (hF : yFr (Xw st ah tf p) σ0 σ) (hW : wOn t tp tf T st pd ah p w τ P σ)
    (k : ∀ (σ' : zW) (Q : Nat → Prop), yFr (Xw st ah tf p) σ0 σ' → fdS tf (T.1 + 1) st.2.2.1 Q σ' → (∀ c, Q c ↔ (P c ∨ ∃ v, wk T st ah p w τ v ∧ c = pcn (T.1 + 1) v st.2.2.1)) → zRet true K none σ') : zEv true ((76, 139, [some (.inr (.inr 41)), some (.inl (p : Int)), some (.inl ((bs (X0p T st p τ) T.1 : Nat) : Int)), none, none], []) :: K) σ := by
  have hn := hgT.1.1
  have hc := hw8.1
  have hN := hw8.2.1
  have hcp : 0 ≤ (p : Int) ∧ (p : Int) < 8 := by omega
  have hKl : K.length < 60 := by omega
  obtain ⟨⟨⟨s1, s2, s3, s4, s5, s6⟩, hpa, hr1, hr2, hr3⟩, w2, w3, w4, w5, w6, w7, w8⟩ := id hW
  have g8 : gI σ (tp + 8) p = st.2.2.2.1 8 p := s6.2.2.2.1 8 p (by omega) (by omega) (by omega) hp
  have g11 : gI σ (tp + 11) p = st.2.2.2.1 11 p := s6.2.2.2.1 11 p (by omega) (by omega) (by omega) hp
  have g9 : gI σ (tp + 9) p = st.2.2.2.1 9 p := s6.2.2.2.1 9 p (by omega) (by omega) (by omega) hp
  rw [zj_76_139 hKl (by rw [s4]; exact s2), s4, yAnd hcp, Int.toNat_natCast, g8, c_ownNodes hgT hg hw8 hW.1 w6 hp (fun c => ref_own hg hp c) rfl, zr_76_155 hKl (by rw [s4]; exact s2), zand_nat (bs_lt31 _ hn) (bs_lt31 _ hn), bs_and, w2, s4]
  have loop : zEv true ((76, 191, [some (.inr (.inr 41)), some (.inl (p : Int)), some (.inl ((bs (oP T st ah w τ p) T.1 : Nat) : Int)), some (.inl (st.2.2.2.1 8 p)), none], []) :: K) σ := by
    rw [zj_76_191]
    refine c_wloop (P := P) hgT hg hw8 htf hp hL hL1 hK (fun a oa => oa.2.2) hcut (fun σ' Q hF' hQ hQc => k σ' Q (hF.trans hF') hQ (fun c => ?_)) T.1 0 P σ (Nat.sub_zero _) (Nat.zero_le _) yFr.rf hW (fun c => ⟨fun x => Or.inl x, fun x => ?_⟩)
    · rw [hQc c]
      constructor
      · rintro (x | ⟨a, a1, a2, v, v1, v2⟩)
        · exact Or.inl x
        · exact Or.inr ⟨v, (wk_act hg hw8 hu hp h11 hτ hs).mpr ⟨a, a1, a2, v1⟩, v2⟩
      · rintro (x | ⟨v, v1, v2⟩)
        · exact Or.inl x
        · obtain ⟨a, a1, a2, a3⟩ := (wk_act hg hw8 hu hp h11 hτ hs).mp v1
          exact Or.inr ⟨a, a1, a2, v, a3, v2⟩
    · rcases x with x | ⟨b, b1, -⟩
      · exact x
      · exact absurd b1 (Nat.not_lt_zero b)
  rcases Classical.em ah with ha | ha
  · rw [zb_t ha, if_neg (by decide)]
    by_cases c8 : st.2.2.2.1 8 p = -1
    · rw [if_pos c8, bs_c (Q := oP T st ah w τ p) (fun a _ => (oP_x (ah := ah) hg hp).trans ⟨fun x => ⟨x.1, x.2, fun _ _ y => absurd c8 y⟩, fun x => ⟨x.1, x.2.1⟩⟩)]
      exact loop
    · rw [if_neg c8, c_plain s2 rfl (by omega) g11 g9, zr_76_177]
      by_cases cp : pln st.2.2.2.1 p
      · obtain ⟨m, m1, m2, m3⟩ := np_num hg hp c8
        obtain ⟨b1, j, j1, j2⟩ := w7 ha m m1 (by rw [m3]; exact cp) (by rw [m3]; exact hp)
        have hcm : 0 ≤ st.2.2.2.1 8 p ∧ st.2.2.2.1 8 p < 4 := by rw [m2]; clear g8 b1 j2 g11 g9; omega
        have hj30 : j < 31 := by clear g8 b1 j2 g11 g9; omega
        have h2j : (2 ^ j : Nat) < 2 ^ 31 := Nat.pow_lt_pow_right (by decide) hj30
        have hvp : vp w st.2.2.2.1 p = (j : Int) := by unfold vp; rw [m2, Int.toNat_natCast, j2]
        rw [if_pos (show _ ∧ _ from cp), if_neg (by decide), yAnd hcm, m2, Int.toNat_natCast, b1, j2, zshl_all j hj30, zand_nat (bs_lt31 _ hn) h2j, bs_one j1, bs_and, bs_c (Q := oP T st ah w τ p) (fun a _ => ?_)]
        · rw [m2] at loop; exact loop
        · constructor
          · rintro ⟨x1, x2⟩
            have := (oP_x (ah := ah) hg hp).mp x1
            exact ⟨this.1, this.2, fun _ _ _ => by rw [hvp, x2]⟩
          · rintro ⟨x1, x2, x3⟩
            refine ⟨(oP_x (ah := ah) hg hp).mpr ⟨x1, x2⟩, ?_⟩
            have := x3 ha cp c8
            rw [hvp] at this
            exact (Int.ofNat.inj this).symm
      · rw [if_neg (show ¬ (_ ∧ _) from cp), if_pos rfl, bs_c (Q := oP T st ah w τ p) (fun a _ => (oP_x (ah := ah) hg hp).trans ⟨fun x => ⟨x.1, x.2, fun _ y => absurd y cp⟩, fun x => ⟨x.1, x.2.1⟩⟩)]
        exact loop
  · rw [zb_f ha, if_pos rfl, bs_c (Q := oP T st ah w τ p) (fun a _ => (oP_x (ah := ah) hg hp).trans ⟨fun x => ⟨x.1, x.2, fun y => absurd y ha⟩, fun x => ⟨x.1, x.2.1⟩⟩)]
    exact loop
theorem smo_bs {T : TRE} {st : PST} {w τ : Nat → Int} {p : Nat} (hn : T.1 ≤ 20) (h0 : p ≠ 0) : zand ((bs (X0p T st p τ) T.1 : Nat) : Int) ((bs (sat T st w p) T.1 : Nat) : Int) = 0 ↔ ¬ smo T st w p (τ (fr3 st p)).toNat := by
  rw [zand_nat (bs_lt31 _ hn) (bs_lt31 _ hn), bs_and]
  have hz : ((bs (fun i => X0p T st p τ i ∧ sat T st w p i) T.1 : Nat) : Int) = 0 ↔ bs (fun i => X0p T st p τ i ∧ sat T st w p i) T.1 = 0 := by omega
  rw [hz, bs_zero]
  constructor
  · rintro h ⟨b, b1, b2, b3⟩
    exact h b b1 ⟨⟨fun x => absurd x h0, fun _ => b2⟩, b3⟩
  · rintro h b b1 ⟨b2, b3⟩
    exact h ⟨b, b1, b2.2 h0, b3⟩
theorem c_walk {t tp tf : Nat} {T : TRE} {st : PST} {pd : Nat → Nat} {ah : Prop} (hgT : tgd T) (hg : pgd st pd) (hw8 : pw st) (hu : pup st) (htf : zFo tf) : ∀ (d p : Nat), st.1 - p ≤ d → p ≤ st.1 → wSp t tp tf T st pd ah p (d + 2) := by
  have hn := hgT.1.1
  have hc := hw8.1
  have hN := hw8.2.1
  have htf' : tf = 50 ∨ tf = 52 := htf
  have done : ∀ (L : Nat), 1 ≤ L → wSp t tp tf T st pd ah st.1 L := fun L hL K w τ P σ hK hW hcut k => by
    obtain ⟨⟨⟨s1, s2, s3, s4, s5, s6⟩, -⟩, -, w3, w4, w5, -⟩ := id hW
    rw [ze_76 (by omega) (by rw [s4]; exact s2) (by rw [w3]; exact htf), s4, s6.1, if_neg (Int.lt_irrefl _), w3]
    refine c_foundEnter htf (Nat.le_add_left 1 _) (by omega) hN (fun j hj => ?_) (fun j hj => (w5 j hj (np_ok hg hj).1).1) w4 (fun σ' hF hQ => ?_)
    · have := (w5 j hj (np_ok hg hj).1).2
      omega
    · rw [zr_76_22]
      refine k σ' _ (hF.mono (fun k j x => ?_)) hQ (fun c => ?_)
      · rcases x with x | x
        · exact Or.inr (Or.inr (Or.inr (Or.inl x)))
        · exact Or.inr (Or.inr (Or.inr (Or.inr x)))
      · constructor
        · rintro (x | x)
          · exact Or.inl x
          · refine Or.inr ⟨fun k => if k < st.2.2.1 then w k else 0, (wk_end hg).mpr ⟨fun k hk => if_pos hk, fun k hk => if_neg (by omega)⟩, ?_⟩
            rw [x]
            exact pcn_congr _ (fun k hk => (if_pos hk).symm)
        · rintro (x | ⟨v, v1, v2⟩)
          · exact Or.inl x
          · rw [v2]
            exact Or.inr (pcn_congr _ (fun k hk => ((wk_end hg).mp v1).1 k hk))
  intro d
  induction d with
  | zero =>
    intro p hd hp
    have e : p = st.1 := by omega
    rw [e]
    exact done _ (by omega)
  | succ d ih =>
    intro p hd hp
    rcases Nat.lt_or_ge p st.1 with hp1 | hp1
    · intro K w τ P σ hK hW hcut k
      obtain ⟨d1, d2, -, -⟩ := ed_spec (dep := pd) hp1
      have hKl : K.length < 60 := by omega
      have hτ : p ≠ 0 → τ (fr3 st p) ≠ -1 := fun h0 => cutK_act hg hw8 hu hp1 h0 hcut
      have hL := ih (p + 1) (by omega) (by omega)
      have hLe := ih (ed pd st.1 p) (by omega) d2
      rw [c_went hgT hg hw8 hu htf hp1 hKl hW hτ]
      have hS2 : ∀ {σ2 : zW}, wOn t tp tf T st pd ah p w τ P σ2 → zPn (gR σ2 41 11) ∧ gI σ2 (gR σ2 41 11 + 10) p = ((ed pd st.1 p : Nat) : Int) := fun {σ2} h => by
        obtain ⟨⟨⟨s1, s2, s3, s4, s5, s6⟩, hpa, -⟩, -⟩ := h
        rw [s4]
        exact ⟨s2, hpa p hp1⟩
      have hcp : 0 ≤ (p : Int) ∧ (p : Int) < 8 := by clear d1 d2; omega
      have h46 : ∀ {σ2 : zW}, yFr (fun k _ => k = 46) σ σ2 → yFr (Xw st ah tf p) σ σ2 ∧ wOn t tp tf T st pd ah p w τ P σ2 := fun {σ2} h => by
        have hF := h.mono (Y := Xw st ah tf p) (fun k j x => Or.inl x)
        exact ⟨hF, wOn_fr htf hW hF (fdS_fr hW.2.2.2.1 h (fun k j x => by omega))⟩
      by_cases h11 : st.2.2.2.1 11 p = 0
      · rw [if_pos h11]
        by_cases h9 : st.2.2.2.1 9 p = (p : Int)
        · rw [if_neg (fun x => x h9)]
          have h90 := (hg.2.1 p hp1).2.2.2.2.2.2.2.2.1
          have h0 : p ≠ 0 := fun e => by have := (h90 e).2.1; omega
          have hnp : ¬ pln st.2.2.2.1 p := fun q => by have := q.2; omega
          refine c_satisfying (m := p) (by show K.length + 1 + 1 < 60; omega) hgT hg hw8 hW.1 hW.2.2.2.2.2.1 hp1 (fun q q1 q2 q3 => ref_lt hg hp1 hnp q1 q2 q3) rfl (fun σ1 hF1 => ?_)
          obtain ⟨hF1', hW1⟩ := h46 hF1
          rw [zr_76_116 hKl]
          rcases Classical.em (smo T st w p (τ (fr3 st p)).toNat) with hs | hs
          · rw [if_pos (fun x => (smo_bs hn h0).mp x hs)]
            exact c_wact hgT hg hw8 hu htf hp1 hL (by omega) (by omega) hcut h11 hτ (fun _ => hs) hF1' hW1 k
          · rw [if_neg (fun x => x ((smo_bs hn h0).mpr hs))]
            refine c_leaveOut hg hw8 hW1.1 hp1 rfl (fun σ2 hF2 h2 => ?_)
            have hin := nonpl_in hg hp1 hnp
            have hF2' : yFr (Xw st ah tf p) σ1 σ2 := hF2.mono (fun k j x => Or.inr (Or.inr (Or.inl ⟨x.1, x.2.1, fun _ => hin _ x.2.1 x.2.2⟩)))
            have hW2 := wOn_fr htf hW1 hF2' (fdS_fr hW1.2.2.2.1 hF2 (fun k j x => by omega))
            obtain ⟨z1, z2⟩ := hS2 hW2
            rw [zr_76_125 hKl z1, yAnd hcp, Int.toNat_natCast, z2]
            have hcw : ∀ k, k < st.2.2.1 → pln st.2.2.2.1 (np st k) → cutW st w p (ed pd st.1 p) k = w k := fun k k1 k2 => by
              unfold cutW
              rw [if_neg (fun x => hin _ x.1 x.2 k2)]
            have hW3 : wOn t tp tf T st pd ah (ed pd st.1 p) (cutW st w p (ed pd st.1 p)) (cutT τ p (ed pd st.1 p)) P σ2 := by
              obtain ⟨h1, h2', h3, h4, h5, h6, h7, h8⟩ := hW2
              refine ⟨h1, h2', h3, h4, fun k k1 k2 => ?_, fun k k1 k2 k3 => ?_, fun hah k k1 k2 k3 => ?_, fun q q1 q2 => ?_⟩
              · unfold cutW
                by_cases c : p ≤ np st k ∧ np st k < ed pd st.1 p
                · rw [if_pos c]
                  exact ⟨h2 k k1 c.1 c.2, by omega, by omega⟩
                · rw [if_neg c]
                  exact h5 k k1 (by omega)
              · rw [hcw k k1 k2]
                refine h6 k k1 k2 ?_
                rcases Nat.lt_or_ge (np st k) p with x | x
                · exact x
                · exact absurd k2 (hin _ x k3)
              · rw [hcw k k1 k2]; exact h7 hah k k1 k2 k3
              · unfold cutT at q2 ⊢
                by_cases c : p ≤ q ∧ q < ed pd st.1 p
                · rw [if_pos c] at q2; exact absurd rfl q2
                · rw [if_neg c] at q2 ⊢
                  exact h8 q (by omega) q2
            refine hLe _ _ _ P σ2 (by show K.length + 1 + (d + 2) ≤ 60; omega) hW3 (cutK_cut hp1 hcut) (fun σ3 Q hF3 hQ hQc => ?_)
            rw [zr_76_138]
            refine k σ3 Q (hF1'.trans (hF2'.trans (hF3.mono (fun k j x => Xw_mono (Nat.le_of_lt d1) x)))) hQ (fun c => ?_)
            rw [hQc c]
            constructor
            · rintro (x | ⟨v, v1, v2⟩)
              · exact Or.inl x
              · exact Or.inr ⟨v, (wk_out hg hw8 hu hp1 h0 h11 h9 (hτ h0) hs).mpr v1, v2⟩
            · rintro (x | ⟨v, v1, v2⟩)
              · exact Or.inl x
              · exact Or.inr ⟨v, (wk_out hg hw8 hu hp1 h0 h11 h9 (hτ h0) hs).mp v1, v2⟩
        · rw [if_pos h9]
          exact c_wact hgT hg hw8 hu htf hp1 hL (by omega) (by omega) hcut h11 hτ (fun x => absurd x h9) yFr.rf hW k
      · rw [if_neg h11]
        have h90 := (hg.2.1 p hp1).2.2.2.2.2.2.2.2.1
        have h0 : p ≠ 0 := fun e => by have := (h90 e).2.2; omega
        have hnp : ¬ pln st.2.2.2.1 p := fun q => h11 q.1
        refine c_satisfying (m := p) (by show K.length + 1 + 1 < 60; omega) hgT hg hw8 hW.1 hW.2.2.2.2.2.1 hp1 (fun q q1 q2 q3 => ref_lt hg hp1 hnp q1 q2 q3) rfl (fun σ1 hF1 => ?_)
        obtain ⟨hF1', hW1⟩ := h46 hF1
        obtain ⟨z1, z2⟩ := hS2 hW1
        rw [zr_76_79 hKl z1]
        rcases Classical.em (smo T st w p (τ (fr3 st p)).toNat) with hs | hs
        · rw [if_pos (fun x => (smo_bs hn h0).mp x hs)]
          refine k σ1 P hF1' hW1.2.2.2.1 (fun c => ⟨fun x => Or.inl x, fun x => ?_⟩)
          rcases x with x | ⟨v, v1, -⟩
          · exact x
          · exact absurd v1 (wk_den0 hg hw8 hu hp1 h0 h11 (hτ h0) hs)
        · rw [if_neg (fun x => x ((smo_bs hn h0).mpr hs)), yAnd hcp, Int.toNat_natCast, z2]
          have hden := den_in hg hp1 h11
          have hno8 : ∀ q, p ≤ q → q < ed pd st.1 p → st.2.2.2.1 8 q = -1 := fun q q1 q2 => (hg.2.1 q (by omega)).2.2.2.2.2.2.2.1 (fun x => hden q q1 q2 x.1)
          have hnum : ∀ k, k < st.2.2.1 → np st k < ed pd st.1 p → np st k < p := fun k k1 k2 => by
            rcases Nat.lt_or_ge (np st k) p with x | x
            · exact x
            · exact absurd (hno8 _ x k2) (vp_np (v := w) hg k1).2
          have hW3 : wOn t tp tf T st pd ah (ed pd st.1 p) w (cutT τ p (ed pd st.1 p)) P σ1 := by
            obtain ⟨h1, h2', h3, h4, h5, h6, h7, h8⟩ := hW1
            refine ⟨h1, h2', h3, h4, fun k k1 k2 => h5 k k1 (hnum k k1 k2), fun k k1 k2 k3 => h6 k k1 k2 (hnum k k1 k3), h7, fun q q1 q2 => ?_⟩
            unfold cutT at q2 ⊢
            by_cases c : p ≤ q ∧ q < ed pd st.1 p
            · rw [if_pos c] at q2; exact absurd rfl q2
            · rw [if_neg c] at q2 ⊢
              exact h8 q (by omega) q2
          refine hLe _ _ _ P σ1 (by show K.length + 1 + (d + 2) ≤ 60; omega) hW3 (cutK_cut hp1 hcut) (fun σ3 Q hF3 hQ hQc => ?_)
          rw [zr_76_96]
          refine k σ3 Q (hF1'.trans (hF3.mono (fun k j x => Xw_mono (Nat.le_of_lt d1) x))) hQ (fun c => ?_)
          rw [hQc c]
          constructor
          · rintro (x | ⟨v, v1, v2⟩)
            · exact Or.inl x
            · exact Or.inr ⟨v, (wk_den hg hw8 hu hp1 h0 h11 (hτ h0) hs).mpr v1, v2⟩
          · rintro (x | ⟨v, v1, v2⟩)
            · exact Or.inl x
            · exact Or.inr ⟨v, (wk_den hg hw8 hu hp1 h0 h11 (hτ h0) hs).mp v1, v2⟩
    · have e : p = st.1 := by omega
      rw [e]
      exact done _ (by omega)
