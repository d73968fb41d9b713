/-! patterns read by the model, the whole -/
abbrev Xmp : Nat → Nat → Prop := fun k j => (k = 122 ∧ ((2 ≤ j ∧ j ≤ 7) ∨ j = 35 ∨ j = 49 ∨ j = 50)) ∨ (146 ≤ k ∧ k ≤ 159)
/-- the open parts -/
def opn (R : PRW) (σ : zW) : Nat → Nat → Prop
  | 0, _ => True
  | d + 1, h => gI σ 159 d = R 3 h ∧ opn R σ d (R 3 h).toNat
theorem opn_mono {R R' : PRW} {σ σ' : zW} {c : Nat} (hR : ∀ i, i < c → R' 3 i = R 3 i) : ∀ (d h : Nat), (∀ j, j < d → gI σ' 159 j = gI σ 159 j) → chn R c d h → opn R σ d h → opn R' σ' d h := by
  intro d
  induction d with
  | zero => intro h _ _ _; trivial
  | succ d ih =>
    intro h hs hc ho
    obtain ⟨c1, c2, c3⟩ := hc
    obtain ⟨o1, o2⟩ := ho
    refine ⟨?_, ?_⟩
    · rw [hs d (by omega), hR h c1]; exact o1
    · rw [hR h c1]
      exact ih _ (fun j hj => hs j (by omega)) c3 o2
theorem stR_bad {f : Nat → Int} {L p here : Nat} {st : PST} (hsp : sk f L p = p) (h : tb f L p = -1 ∨ tb f L p = 41) : stR f L st here p = .inl (1, p) := by
  have e : mkR f L st.2.2.2.1 here p = .inr (0, p) := by
    unfold mkR
    rw [if_neg (by omega), if_neg (by omega)]
  have e2 : opR f L p = .inl (1, p) := by
    unfold opR opS
    rw [hsp, if_neg (by omega), if_neg (by omega), if_neg (by omega), if_neg (by omega), if_neg (by omega)]
  unfold stR
  rw [e]
  simp only
  rw [e2]
theorem m_pt_loop {K : List zF} (hK : K.length + 11 ≤ 60) {f : Nat → Int} {L : Nat} : ∀ (n a d here : Nat) (st : PST) (σ : zW) (o4 o5 : Option zV), L < a + n → a ≤ L → 2 * st.2.1 ≤ a + 1 → d ≤ a → mT f L σ → gI σ 122 2 = (sk f L a : Nat) → mP st σ → pw st → nw st → pup st → 1 ≤ st.1 → chn st.2.2.2.1 st.1 d here → opn st.2.2.2.1 σ d here →
    (∀ (σ' : zW) (e : Nat × Nat), ptR f L n st here d a = .inl e → yFr Xmp σ σ' → gI σ' 122 6 = (e.1 : Nat) → gI σ' 122 7 = (e.2 : Nat) → zRet true K (some (.inl 0)) σ') →
    (∀ (σ' : zW) (st' : PST), ptR f L n st here d a = .inr st' → yFr Xmp σ σ' → mP st' σ' → pw st' → nw st' → pup st' → 1 ≤ st'.1 → zRet true K (some (.inl 1)) σ') →
    zEv true ((162, 37, [some (.inr (.inr 122)), some (.inl (d : Int)), some (.inl (here : Int)), some (.inl (tb f L (sk f L a))), o4, o5], []) :: K) σ := by
  intro n
  induction n with
  | zero => intro a d here st σ o4 o5 h1 h2; omega
  | succ n ih =>
    intro a d here st σ o4 o5 hn haL hl hd hT ha hP hw hnw hu hst hch hop k0 k1
    have h6 := hT.2.2.1
    have hs := sk_le (f := f) haL
    have hg := sk_ge f L a
    have hlt := chn_lt hch
    have hc8 := hw.1
    rw [ptR_st] at k0 k1
    generalize hpp : sk f L a = p at k0 k1 hs hg ha ⊢
    have hsp : sk f L p = p := by rw [← hpp]; exact sk_sk f L a
    have hcc : 0 ≤ (here : Int) ∧ (here : Int) < 8 := by omega
    have e153 : gI σ 153 here = st.2.2.2.1 11 here := hP.2.2.2.1 7 here (by decide) (fun w => absurd w (by decide)) hlt
    have e152 : gI σ 152 here = st.2.2.2.1 9 here + 1 := hP.2.2.2.1 6 here (by decide) (fun w => absurd w (by decide)) hlt
    have h9 := (hw.2.2.2 here hlt).2.2.1
    -- behind a place: the next sign
    have next : ∀ (σ' : zW) (q d' here' : Nat) (st' : PST) (o3 o4 o5 : Option zV), L < q + n → q ≤ L → 2 * st'.2.1 ≤ q + 1 → d' ≤ q → yFr Xmp σ σ' → gI σ' 122 2 = (q : Int) → mP st' σ' → pw st' → nw st' → pup st' → 1 ≤ st'.1 → chn st'.2.2.2.1 st'.1 d' here' → opn st'.2.2.2.1 σ' d' here' →
        (∀ (σ2 : zW) (e : Nat × Nat), ptR f L n st' here' d' q = .inl e → yFr Xmp σ σ2 → gI σ2 122 6 = (e.1 : Nat) → gI σ2 122 7 = (e.2 : Nat) → zRet true K (some (.inl 0)) σ2) →
        (∀ (σ2 : zW) (st2 : PST), ptR f L n st' here' d' q = .inr st2 → yFr Xmp σ σ2 → mP st2 σ2 → pw st2 → nw st2 → pup st2 → 1 ≤ st2.1 → zRet true K (some (.inl 1)) σ2) →
        zEv true ((162, 215, [some (.inr (.inr 122)), some (.inl (d' : Int)), some (.inl (here' : Int)), o3, o4, o5], []) :: K) σ' := by
      intro σ' q d' here' st' o3 o4 o5 q1 q2 q3 q4 hF g2 gP gw gn gu g1 gc go j0 j1
      have hT' := mT_fr hT hF (fun k j h => by omega)
      rw [zj_162_215 (by omega), m_sign (yKK (by omega)) hT' g2, zr_162_219]
      have hF2 : yFr Xmp σ (sI σ' 122 2 (sk f L q : Nat)) := hF.I (by omega)
      have hF3 : yFr (fun k j => k = 122 ∧ j = 2) σ' (sI σ' 122 2 (sk f L q : Nat)) := yFr.rf.I ⟨rfl, rfl⟩
      have gP2 : mP st' (sI σ' 122 2 (sk f L q : Nat)) := by
        obtain ⟨a1, a2, a3, a4, a5⟩ := gP
        exact ⟨(hF3.i (by omega)).trans a1, (hF3.i (by omega)).trans a2, (hF3.i (by omega)).trans a3, fun q i q1 q2 hi => (hF3.i (by omega)).trans (a4 q i q1 q2 hi), fun i hi => (hF3.l (by omega)).trans (a5 i hi)⟩
      exact ih q d' here' st' _ _ _ q1 q2 q3 q4 (mT_u hT' (by omega)) yGI_hit gP2 gw gn gu g1 gc (opn_mono (fun _ _ => rfl) d' here' (fun j hj => hF3.i (by omega)) gc go) (fun σ2 e he hF4 => j0 σ2 e he (hF2.trans hF4)) (fun σ2 st2 he hF4 => j1 σ2 st2 he (hF2.trans hF4))
    have bad : stR f L st here p = .inl (1, p) → ¬ (d = 0 ∧ tb f L p = -1) → ¬ (0 < d ∧ tb f L p = 41) → zRet true K (some (.inl 0)) (sI (sI σ 122 6 1) 122 7 (p : Int)) := by
      intro hsr c1 c2
      rw [if_neg c1, if_neg c2, hsr] at k0
      exact k0 _ (1, p) rfl ((yFr.rf.I (by omega)).I (by omega)) (by rw [gI_sI, if_neg (by omega), yGI_hit]; rfl) yGI_hit
    rw [zj_162_37 (by omega)]
    by_cases hz1 : tb f L p = -1
    · rw [if_pos hz1]
      by_cases h0 : d = 0
      · rw [if_pos ⟨h0, hz1⟩] at k1
        rw [if_pos (by omega)]
        exact k1 σ st rfl yFr.rf hP hw hnw hu hst
      · rw [if_neg (by omega), m_fails, zr_162_236, if_pos (show (0 : Int) = 0 from rfl), ha]
        exact bad (stR_bad hsp (Or.inl hz1)) (by omega) (by omega)
    · rw [if_neg hz1]
      by_cases h41 : tb f L p = 41
      · have hpl := tb_in (f := f) (L := L) (p := p) (by omega)
        rw [if_neg (show ¬ ¬ tb f L p = 41 from fun w => w h41)]
        by_cases h0 : d = 0
        · rw [if_neg (show ¬ ¬ (d : Int) = 0 by omega), m_fails, zr_162_61, yAnd (Or.inl rfl), ha]
          exact bad (stR_bad hsp (Or.inr h41)) (by omega) (by omega)
        · obtain ⟨d', rfl⟩ : ∃ d', d = d' + 1 := ⟨d - 1, by omega⟩
          rw [if_neg (by omega), if_pos ⟨by omega, h41⟩] at k0 k1
          obtain ⟨x1, x2, x3⟩ := hch
          obtain ⟨y1, y2⟩ := hop
          have hcd : 0 ≤ (d' : Int) ∧ (d' : Int) < 600 := by omega
          rw [if_pos (show ¬ ((d' + 1 : Nat) : Int) = 0 by omega), zw_id (by omega) (by omega), show ((d' + 1 : Nat) : Int) + -1 = (d' : Int) by omega, yAnd hcd, Int.toNat_natCast, y1, ha, zw_id (by omega) (by omega), show (p : Int) + 1 = ((p + 1 : Nat) : Int) by omega, show st.2.2.2.1 3 here = (((st.2.2.2.1 3 here).toNat : Nat) : Int) by omega]
          have hF3 : yFr (fun k j => k = 122 ∧ j = 2) σ (sI σ 122 2 ((p + 1 : Nat) : Int)) := yFr.rf.I ⟨rfl, rfl⟩
          have gP2 : mP st (sI σ 122 2 ((p + 1 : Nat) : Int)) := by
            obtain ⟨a1, a2, a3, a4, a5⟩ := hP
            exact ⟨(hF3.i (by omega)).trans a1, (hF3.i (by omega)).trans a2, (hF3.i (by omega)).trans a3, fun q i q1 q2 hi => (hF3.i (by omega)).trans (a4 q i q1 q2 hi), fun i hi => (hF3.l (by omega)).trans (a5 i hi)⟩
          refine next _ (p + 1) d' _ st _ _ _ (by omega) (by omega) (by omega) (by omega) (hF3.mono (fun k j h => by omega)) yGI_hit gP2 hw hnw hu hst x3 (opn_mono (fun _ _ => rfl) d' _ (fun j hj => hF3.i (by omega)) x3 y2) (fun σ2 e he => k0 σ2 e ?_) (fun σ2 st2 he => k1 σ2 st2 ?_)
          · exact he
          · exact he
      · rw [if_pos h41]
        -- a relation
        have rel : ∀ (mk : Int) (q1 : Nat) (o5 : Option zV) (x3 x4 : Int), mkR f L st.2.2.2.1 here p = .inr (mk, q1) → (mk = 0 ∨ mk = 1 ∨ mk = 2) → (mk = 2 → st.2.2.2.1 9 here = -1) → ((x4 = 0 ∧ q1 = p) ∨ (x4 = 1 ∧ q1 = p + 1)) → q1 ≤ L → sgR mk = (if x4 = 0 then 0 else x3 : Int) → zEv true ((162, 138, [some (.inr (.inr 122)), some (.inl (d : Int)), some (.inl (here : Int)), some (.inl x3), some (.inl x4), o5], []) :: K) σ := by
          intro mk q1 o5 x3 x4 hm hmk hmk2 q2 q3 hsg
          rw [if_neg (by omega), if_neg (by omega)] at k0 k1
          have e1 : w32 ((p : Int) + (if x4 = 0 then 0 else 1)) = (q1 : Int) := by
            rcases q2 with ⟨w1, w2⟩ | ⟨w1, w2⟩
            · rw [if_pos w1, zw_id (by omega) (by omega)]; omega
            · rw [if_neg (by omega), zw_id (by omega) (by omega)]; omega
          have hF3 : yFr (fun k j => k = 122 ∧ j = 2) σ (sI σ 122 2 (q1 : Nat)) := yFr.rf.I ⟨rfl, rfl⟩
          have gP2 : mP st (sI σ 122 2 (q1 : Nat)) := by
            obtain ⟨a1, a2, a3, a4, a5⟩ := hP
            exact ⟨(hF3.i (by omega)).trans a1, (hF3.i (by omega)).trans a2, (hF3.i (by omega)).trans a3, fun q i q1 q2 hi => (hF3.i (by omega)).trans (a4 q i q1 q2 hi), fun i hi => (hF3.l (by omega)).trans (a5 i hi)⟩
          rw [zj_162_138 (by omega), ← hsg, ha, e1]
          refine m_rel (K := _) (yKK (K := K) (by omega)) (mT_u hT (by omega)) yGI_hit q3 gP2 hw hnw (by omega) hlt hmk hmk2 (fun σ2 e he hF2 h3 h4 => ?_) (fun σ2 x he hF2 g2 gP gn n1 n2 n3 v1 v2 v4 v5 => ?_)
          · have hsr : stR f L st here p = .inl e := by
              unfold stR
              rw [hm]
              exact he
            rw [hsr] at k0
            rw [zr_162_172, if_neg (show ¬ ¬ (-2 : Int) = -2 from fun w => w rfl)]
            exact k0 σ2 e rfl ((hF3.mono (fun k j h => by omega)).trans (hF2.mono (fun k j h => by omega))) h3 h4
          · have hsr : stR f L st here p = .inr x := by
              unfold stR
              rw [hm]
              exact he
            rw [hsr] at k0 k1
            simp only at k0 k1
            have hcd : 0 ≤ (d : Int) ∧ (d : Int) < 600 := by omega
            have hF4 : yFr Xmp σ (sI σ2 159 d (here : Nat)) := ((hF3.mono (fun k j h => by omega)).trans (hF2.mono (fun k j h => by omega))).I (by omega)
            have hF5 : yFr (fun k j => k = 159 ∧ j = d) σ2 (sI σ2 159 d (here : Nat)) := yFr.rf.I ⟨rfl, rfl⟩
            have gP3 : mP x.2.1 (sI σ2 159 d (here : Nat)) := by
              obtain ⟨a1, a2, a3, a4, a5⟩ := gP
              exact ⟨(hF5.i (by omega)).trans a1, (hF5.i (by omega)).trans a2, (hF5.i (by omega)).trans a3, fun q i q1 q2 hi => (hF5.i (by omega)).trans (a4 q i q1 q2 hi), fun i hi => (hF5.l (by omega)).trans (a5 i hi)⟩
            have hup' : pup x.2.1 := by
              intro i i1 i2
              by_cases e : i = st.1
              · rw [e, v5]; omega
              · rw [v4 i (by omega)]; exact hu i i1 (by omega)
            have hch' : chn x.2.1.2.2.2.1 x.2.1.1 d here := chn_mono (by omega) v4 d here hch
            have hop' : opn x.2.1.2.2.2.1 (sI σ2 159 d (here : Nat)) d here := opn_mono v4 d here (fun j hj => by rw [gI_sI, if_neg (by omega), hF2.i (by omega), hF3.i (by omega)]) hch hop
            have e159 : gI (sI σ2 159 d (here : Nat)) 159 d = (here : Nat) := yGI_hit
            have hT3 : gI (sI σ2 159 d (here : Nat)) 122 2 = (x.2.2 : Nat) := (hF5.i (by omega)).trans g2
            by_cases h40 : tb f L (sk f L x.1) = 40
            · rw [if_pos h40, if_pos h40] at k0 k1
              have hv : (if tb f L (sk f L x.1) = 40 then (st.1 : Int) else -1) = (st.1 : Int) := if_pos h40
              rw [hv, zr_162_172, if_pos (show ¬ (st.1 : Int) = -2 by omega), yAnd hcd, Int.toNat_natCast, if_neg (show ¬ (st.1 : Int) < 0 by omega), if_neg (show ¬ (st.1 : Int) < 0 by omega), zw_id (by omega) (by omega), show (d : Int) + 1 = ((d + 1 : Nat) : Int) by omega]
              refine next _ x.2.2 (d + 1) st.1 x.2.1 _ _ _ (by omega) n2 n3 (by omega) hF4 hT3 gP3 v1 gn hup' (by omega) ⟨by omega, by rw [v5]; omega, ?_⟩ ⟨by rw [e159, v5], ?_⟩ k0 k1
              · rw [v5, Int.toNat_natCast]; exact hch'
              · rw [v5, Int.toNat_natCast]; exact hop'
            · rw [if_neg h40, if_neg h40] at k0 k1
              have hv : (if tb f L (sk f L x.1) = 40 then (st.1 : Int) else -1) = -1 := if_neg h40
              rw [hv, zr_162_172, if_pos (show ¬ (-1 : Int) = -2 by omega), yAnd hcd, Int.toNat_natCast, if_pos (show (-1 : Int) < 0 by omega), if_pos (show (-1 : Int) < 0 by omega), zw_id (by omega) (by omega), Int.add_zero]
              exact next _ x.2.2 d here x.2.1 _ _ _ (by omega) n2 n3 (by omega) hF4 hT3 gP3 v1 gn hup' (by omega) hch' hop' k0 k1
        by_cases h63 : tb f L p = 63
        · have hpl := tb_in (f := f) (L := L) (p := p) (by omega)
          have e : (if tb f L p = 33 then (1 : Int) else (if ¬ tb f L p = 63 then 0 else 1 : Int)) = 1 := by rw [if_neg (by omega), if_neg (fun w => w h63)]
          have bad63 : ¬ pln st.2.2.2.1 here → ∀ o4 o5 : Option zV, zEv true ((162, 128, [some (.inr (.inr 122)), some (.inl (d : Int)), some (.inl (here : Int)), some (.inl (tb f L p)), o4, o5], []) :: K) σ := by
            intro hp o4 o5
            have hm : mkR f L st.2.2.2.1 here p = .inl (1, p) := by
              unfold mkR
              rw [if_neg (by omega), if_pos h63, if_neg hp]
            have hsr : stR f L st here p = .inl (1, p) := by
              unfold stR
              rw [hm]
            rw [zj_162_128 (by omega), m_fails, zr_162_137, yAnd (Or.inl rfl), ha]
            exact bad hsr (by omega) (by omega)
          rw [if_neg (show ¬ ¬ tb f L p = 63 from fun w => w h63), yAnd hcc, Int.toNat_natCast, e153, e]
          by_cases h11 : st.2.2.2.1 11 here = 0
          · rw [if_neg (show ¬ ¬ st.2.2.2.1 11 here = 0 from fun w => w h11), yAnd hcc, e152]
            by_cases h92 : st.2.2.2.1 9 here + 1 ≤ 0
            · have h9' : st.2.2.2.1 9 here = -1 := by omega
              rw [if_pos h92]
              refine rel 2 (p + 1) _ _ 1 ?_ (by omega) (fun _ => h9') (Or.inr ⟨rfl, rfl⟩) (by omega) ?_
              · unfold mkR
                rw [if_neg (by omega), if_pos h63, if_pos ⟨h11, h9'⟩]
              · rw [if_neg (by omega), h63]; rfl
            · rw [if_neg h92]
              exact bad63 (fun w => by have := w.2; omega) _ _
          · rw [if_pos h11]
            exact bad63 (fun w => h11 w.1) _ _
        · rw [if_pos h63]
          by_cases h33 : tb f L p = 33
          · have hpl := tb_in (f := f) (L := L) (p := p) (by omega)
            have e : (if tb f L p = 33 then (1 : Int) else (if ¬ tb f L p = 63 then 0 else 1 : Int)) = 1 := if_pos h33
            rw [e]
            refine rel 1 (p + 1) _ _ 1 ?_ (by omega) (fun w => absurd w (by decide)) (Or.inr ⟨rfl, rfl⟩) (by omega) ?_
            · unfold mkR
              rw [if_pos h33]
            · rw [if_neg (by omega), h33]; rfl
          · have e : (if tb f L p = 33 then (1 : Int) else (if ¬ tb f L p = 63 then 0 else 1 : Int)) = 0 := by rw [if_neg h33, if_pos h63]
            rw [e]
            refine rel 0 p _ _ 0 ?_ (by omega) (fun w => absurd w (by decide)) (Or.inl ⟨rfl, rfl⟩) hs ?_
            · unfold mkR
              rw [if_neg h33, if_neg h63]
            · rw [if_pos rfl]; rfl
/-- isPattern -/
theorem m_pattern {K : List zF} (hK : K.length + 11 ≤ 60) {f : Nat → Int} {L : Nat} {σ : zW} (hT : mT f L σ) (ha : gI σ 122 2 = 0)
    (k0 : ∀ (σ' : zW) (e : Nat × Nat), pread f L = .inl e → yFr Xmp σ σ' → gI σ' 122 6 = (e.1 : Nat) → gI σ' 122 7 = (e.2 : Nat) → zRet true K (some (.inl 0)) σ')
    (k1 : ∀ (σ' : zW) (st : PST), pread f L = .inr st → yFr Xmp σ σ' → mP st σ' → pw st → nw st → pup st → 1 ≤ st.1 → zRet true K (some (.inl 1)) σ') :
    zEv true (zent 162 [.inr (.inr 122)] :: K) σ := by
  rw [ze_162 (by omega)]
  have hF0 : yFr Xmp σ (sI (sI (sI σ 122 35 0) 122 49 0) 122 50 0) := ((yFr.rf.I (by omega)).I (by omega)).I (by omega)
  have e35 : gI (sI (sI (sI σ 122 35 0) 122 49 0) 122 50 0) 122 35 = 0 := by rw [gI_sI, if_neg (by omega), gI_sI, if_neg (by omega), yGI_hit]
  have e49 : gI (sI (sI (sI σ 122 35 0) 122 49 0) 122 50 0) 122 49 = 0 := by rw [gI_sI, if_neg (by omega), yGI_hit]
  have e50 : gI (sI (sI (sI σ 122 35 0) 122 49 0) 122 50 0) 122 50 = 0 := yGI_hit
  have e2 : gI (sI (sI (sI σ 122 35 0) 122 49 0) 122 50 0) 122 2 = ((0 : Nat) : Int) := by rw [gI_sI, if_neg (by omega), gI_sI, if_neg (by omega), gI_sI, if_neg (by omega)]; exact ha
  generalize sI (sI (sI σ 122 35 0) 122 49 0) 122 50 0 = σ0 at hF0 e35 e49 e50 e2 ⊢
  have hT0 := mT_fr hT hF0 (fun k j h => by omega)
  have hP0 : mP (0, 0, 0, fun k _ => if k = 13 then -1 else 0, fun _ => 0) σ0 := ⟨e35, e49, e50, fun q i _ _ q4 => absurd q4 (Nat.not_lt_zero _), fun i hi => absurd hi (Nat.not_lt_zero _)⟩
  have hw0 : pw (0, 0, 0, fun k _ => if k = 13 then -1 else 0, fun _ => 0) := ⟨by decide, by decide, fun x hx => ⟨by show (-1 : Int) ≤ -1; omega, by show (-1 : Int) < 0; omega⟩, fun i hi => absurd hi (Nat.not_lt_zero _)⟩
  have hn0 : nw (0, 0, 0, fun k _ => if k = 13 then -1 else 0, fun _ => 0) := ⟨fun i hi => absurd hi (Nat.not_lt_zero _), fun x hx => Or.inl ⟨rfl, fun i hi => absurd hi (Nat.not_lt_zero _)⟩⟩
  unfold pread at k0 k1
  have hs0 := sk_le (f := f) (Nat.zero_le L)
  refine m_node (K := _) (mk := 0) (m := 0) (k := 0) (yKK (K := K) (by omega)) hT0 e2 (Nat.zero_le _) hP0 hw0 hn0 (by decide) (Or.inl rfl) (Or.inl rfl) (fun w => absurd w (by decide)) (fun σ' e he hF h3 h4 => ?_) (fun σ' r hr hF n4 n5 n6 => ?_)
  · rw [he] at k0
    rw [zr_162_25 (by omega), if_neg (show ¬ ¬ (0 : Int) = 0 from fun w => w rfl)]
    exact k0 σ' e rfl (hF0.trans (hF.mono (fun k j h => by omega))) h3 h4
  · rw [hr] at k0 k1
    simp only at k0 k1
    obtain ⟨n1, n2, n3⟩ := nodP_pos hs0 (Nat.zero_le _) hr
    obtain ⟨v1, v2, v3, v4, v5⟩ := nodP_pw hw0 (Or.inl rfl) hr
    have hFa : yFr Xmp σ σ' := hF0.trans (hF.mono (fun k j h => by omega))
    have hT' := mT_fr hT hFa (fun k j h => by omega)
    rw [zr_162_25 (by omega), if_pos (show ¬ (1 : Int) = 0 by omega), m_sign (yKK (by omega)) hT' n4, zr_162_36]
    have hFb : yFr Xmp σ (sI σ' 122 2 (sk f L r.2 : Nat)) := hFa.I (by omega)
    have hF3 : yFr (fun k j => k = 122 ∧ j = 2) σ' (sI σ' 122 2 (sk f L r.2 : Nat)) := yFr.rf.I ⟨rfl, rfl⟩
    have gP2 : mP r.1 (sI σ' 122 2 (sk f L r.2 : Nat)) := by
      obtain ⟨a1, a2, a3, a4, a5⟩ := n5
      exact ⟨(hF3.i (by omega)).trans a1, (hF3.i (by omega)).trans a2, (hF3.i (by omega)).trans a3, fun q i q1 q2 hi => (hF3.i (by omega)).trans (a4 q i q1 q2 hi), fun i hi => (hF3.l (by omega)).trans (a5 i hi)⟩
    have hv2 : r.1.1 = 1 := v2
    exact m_pt_loop hK (L + 1) r.2 0 0 r.1 _ _ _ (by omega) n2 n3 (Nat.zero_le _) (mT_u hT' (by omega)) yGI_hit gP2 v1 n6 (fun i i1 i2 => by omega) (by omega) (show 0 < r.1.1 by omega) trivial (fun σ2 e he hF2 => k0 σ2 e he (hFb.trans hF2)) (fun σ2 st2 he hF2 => k1 σ2 st2 he (hFb.trans hF2))
