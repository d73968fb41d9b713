/-! the search: which nodes satisfy a part with its own relations -/
theorem fr_in {c : Nat} {pd : Nat → Nat} (hw : wfd c pd) {h q : Nat} (hh : h < c) (h1 : h < q) (h2 : q < ed pd c h) : ∃ u : Nat, par pd q = (u : Int) ∧ h ≤ u ∧ u < q := by
  obtain ⟨e1, e2, e3, e4⟩ := ed_spec (dep := pd) hh
  have hq : q < c := by omega
  obtain ⟨a, a1, a2, a3⟩ := par_some hw hq (by omega)
  obtain ⟨p1, p2, p3⟩ := par_dep hw hq a1
  refine ⟨a, a1, ?_, p1⟩
  rcases Nat.lt_or_ge a h with w | w
  · have := p3 h w h1
    have := e3 q h1 h2
    omega
  · exact w
theorem ed_in {c : Nat} {pd : Nat → Nat} {h q : Nat} (hh : h < c) (h1 : h ≤ q) (h2 : q < ed pd c h) : ed pd c q ≤ ed pd c h := by
  obtain ⟨e1, e2, e3, e4⟩ := ed_spec (dep := pd) hh
  obtain ⟨f1, f2, f3, f4⟩ := ed_spec (dep := pd) (show q < c by omega)
  by_cases e : q = h
  · rw [e]; exact Nat.le_refl _
  · have g1 := e3 q (by omega) h2
    rcases Nat.lt_or_ge (ed pd c h) (ed pd c q) with w | w
    · have := f3 _ h2 w
      have := e4 (by omega)
      omega
    · exact w
theorem fr_par {st : PST} {pd : Nat → Nat} (hg : pgd st pd) {q : Nat} (hq : q < st.1) : st.2.2.2.1 3 q = par pd q := (hg.2.1 q hq).1
/-- the relations of part p from q on are left out -/
def stP (T : TRE) (st : PST) (w : Nat → Int) (E q p a : Nat) : Prop := own T st w p a ∧ ∀ r, q < r → r < E → st.2.2.2.1 3 r = (p : Int) → (smo T st w r a ↔ st.2.2.2.1 4 r ≠ 1)
theorem stP_sat {T : TRE} {st : PST} {pd : Nat → Nat} {w : Nat → Int} (hg : pgd st pd) {E p a : Nat} (hp : p < st.1) (hE : ed pd st.1 p ≤ E) (hE2 : E ≤ st.1) : stP T st w E p p a ↔ sat T st w p a := by
  rw [sat_iff hp]
  unfold stP
  constructor
  · rintro ⟨h1, h2⟩
    refine ⟨h1, fun q q1 q2 q3 => h2 q q1 ?_ q3⟩
    have := (ed_child hg.1 q2 ((fr_par hg q2).symm.trans q3)).1
    omega
  · rintro ⟨h1, h2⟩
    exact ⟨h1, fun q q1 q2 q3 => h2 q q1 (by omega) q3⟩
theorem c_satisfying {K : List zF} (hK : K.length + 1 < 60) {t tp h m : Nat} {T : TRE} {st : PST} {pd : Nat → Nat} {w : Nat → Int} {z : Int} {σ : zW} (hgT : tgd T) (hg : pgd st pd) (hw8 : pw st) (hS : sAll t tp T st pd σ) (hB : bOn T st w m σ) (hh : h < st.1) (hm : ∀ q, h ≤ q → q < ed pd st.1 h → st.2.2.2.1 1 q = 3 ∨ st.2.2.2.1 1 q = 4 → (st.2.2.2.1 2 q).toNat < m) (hz : z = (h : Int))
    (k : ∀ σ' : zW, yFr (fun k _ => k = 46) σ σ' → zRet true K (some (.inl ((bs (sat T st w h) T.1 : Nat) : Int))) σ') : zEv true (zent 79 [.inr (.inr 41), .inl z] :: K) σ := by
  subst hz
  have hn := hgT.1.1
  have hc := hw8.1
  obtain ⟨d1, d2, d3, d4⟩ := ed_spec (dep := pd) hh
  have hch : 0 ≤ (h : Int) ∧ (h : Int) < 8 := by omega
  have hpa : gI σ (tp + 10) h = (ed pd st.1 h : Nat) := hS.2.1 h hh
  have X0 : ∀ σ2 : zW, yFr (fun k _ => k = 46) σ σ2 → sAll t tp T st pd σ2 ∧ bOn T st w m σ2 := fun σ2 hF => ⟨sAll_fr hS hF (fun k j w => by omega), fun k k1 k2 k3 => by
    obtain ⟨b1, b2⟩ := hB k k1 k2 k3
    exact ⟨(hF.i (by omega)).trans b1, b2⟩⟩
  have hsub : ∀ q, h ≤ q → q < ed pd st.1 h → ed pd st.1 q ≤ ed pd st.1 h := fun q q1 q2 => ed_in hh q1 q2
  have loop2 : ∀ (d q : Nat) (o2 o4 o5 : Option zV) (σ2 : zW), q - h = d → h ≤ q → q < ed pd st.1 h → yFr (fun k _ => k = 46) σ σ2 → (∀ p, h ≤ p → p < ed pd st.1 h → gI σ2 46 p = ((bs (stP T st w (ed pd st.1 h) q p) T.1 : Nat) : Int)) → zEv true ((79, 38, [some (.inr (.inr 41)), some (.inl (h : Int)), o2, some (.inl (q : Int)), o4, o5], []) :: K) σ2 := by
    intro d
    induction d with
    | zero =>
      intro q o2 o4 o5 σ2 hd hq1 hq2 hF hE
      have eq : q = h := by omega
      subst eq
      rw [zj_79_38, if_pos (Int.le_refl _), yAnd hch, Int.toNat_natCast, hE q (Nat.le_refl _) d1]
      rw [bs_c (Q := sat T st w q) (fun a ha => stP_sat hg hh (Nat.le_refl _) d2)]
      exact k σ2 hF
    | succ d ih =>
      intro q o2 o4 o5 σ2 hd hq1 hq2 hF hE
      obtain ⟨u, u1, u2, u3⟩ := fr_in hg.1 hh (show h < q by omega) hq2
      have hqc : q < st.1 := by omega
      have huE : u < ed pd st.1 h := by omega
      have hcq : 0 ≤ (q : Int) ∧ (q : Int) < 8 := by omega
      have hcu : 0 ≤ (u : Int) ∧ (u : Int) < 8 := by omega
      have e3 : st.2.2.2.1 3 q = (u : Int) := (fr_par hg hqc).trans u1
      obtain ⟨⟨⟨s1, s2, s3, s4, s5, s6⟩, -, hr1, hr2, hr3⟩, -⟩ := X0 σ2 hF
      have g3 : gI σ2 (tp + 3) q = (u : Int) := (s6.2.2.2.1 3 q (by omega) (by omega) (by omega) hqc).trans e3
      have g4 : gI σ2 (tp + 4) q = st.2.2.2.1 4 q := s6.2.2.2.1 4 q (by omega) (by omega) (by omega) hqc
      have hq46 : gI σ2 46 q = ((bs (sat T st w q) T.1 : Nat) : Int) := by
        rw [hE q hq1 hq2]
        exact bsI (fun a ha => stP_sat hg hqc (hsub q hq1 hq2) d2)
      have hrq := hr2 q hqc
      have hqz : w32 ((q : Int) + (-1)) = ((q - 1 : Nat) : Int) := by clear g3 g4 hq46 e3 u1 hpa; rw [zw_id (by omega) (by omega)]; omega
      have loop3 : ∀ (d' i : Nat), T.1 - i = d' → i ≤ T.1 → zEv true ((79, 49, [some (.inr (.inr 41)), some (.inl (h : Int)), o2, some (.inl (q : Int)), some (.inl ((bs (fun a => ∃ b, b < i ∧ rlp T st.2.2.2.1 q a b ∧ sat T st w q b) T.1 : Nat) : Int)), some (.inl (i : Int))], []) :: K) σ2 := by
        intro d'
        induction d' with
        | zero =>
          intro i hd' hi
          have ei : i = T.1 := by clear g3 g4 hq46 e3 u1 hpa hqz; omega
          subst ei
          rw [zj_79_49 (by rw [s3]; exact s1) (by rw [s4]; exact s2), s3, s4, s5.1.1, if_pos (Int.le_refl _), yAnd hcq, Int.toNat_natCast, g3, yAnd hcu, yAnd hcq, yAnd hcu, Int.toNat_natCast, g4, hqz, hE u u2 huE]
          have hnew : zand ((bs (stP T st w (ed pd st.1 h) q u) T.1 : Nat) : Int) (if ¬ st.2.2.2.1 4 q = 1 then ((bs (fun a => ∃ b, b < T.1 ∧ rlp T st.2.2.2.1 q a b ∧ sat T st w q b) T.1 : Nat) : Int) else zxor ((bs (fun a => ∃ b, b < T.1 ∧ rlp T st.2.2.2.1 q a b ∧ sat T st w q b) T.1 : Nat) : Int) (-1) : Int) = ((bs (stP T st w (ed pd st.1 h) (q - 1) u) T.1 : Nat) : Int) := by
            have hone : ∀ a, stP T st w (ed pd st.1 h) (q - 1) u a ↔ (stP T st w (ed pd st.1 h) q u a ∧ (smo T st w q a ↔ st.2.2.2.1 4 q ≠ 1)) := fun a => by
              unfold stP
              constructor
              · rintro ⟨x1, x2⟩
                exact ⟨⟨x1, fun r r1 r2 r3 => x2 r (by omega) r2 r3⟩, x2 q (by omega) hq2 e3⟩
              · rintro ⟨⟨x1, x2⟩, x3⟩
                refine ⟨x1, fun r r1 r2 r3 => ?_⟩
                by_cases er : r = q
                · rw [er]; exact x3
                · exact x2 r (by omega) r2 r3
            by_cases c1 : st.2.2.2.1 4 q = 1
            · rw [if_neg (fun w => w c1), znd_nat (bs_lt31 _ hn) (bs_lt31 _ hn), bs_nd _ _ hn]
              refine bsI (fun a ha => ?_)
              rw [hone]
              constructor
              · rintro ⟨x1, x2⟩; exact ⟨x1, ⟨fun w => absurd w x2, fun w => absurd c1 w⟩⟩
              · rintro ⟨x1, x2⟩; exact ⟨x1, fun w => x2.mp w c1⟩
            · rw [if_pos c1, zand_nat (bs_lt31 _ hn) (bs_lt31 _ hn), bs_and]
              refine bsI (fun a ha => ?_)
              rw [hone]
              constructor
              · rintro ⟨x1, x2⟩; exact ⟨x1, ⟨fun _ => c1, fun _ => x2⟩⟩
              · rintro ⟨x1, x2⟩; exact ⟨x1, x2.mpr c1⟩
          rw [hnew]
          have hF1 : yFr (fun k j => k = 46 ∧ j = u) σ2 (sI σ2 46 u ((bs (stP T st w (ed pd st.1 h) (q - 1) u) T.1 : Nat) : Int)) := yFr.rf.I ⟨rfl, rfl⟩
          have h46 : gI (sI σ2 46 u ((bs (stP T st w (ed pd st.1 h) (q - 1) u) T.1 : Nat) : Int)) 46 u = ((bs (stP T st w (ed pd st.1 h) (q - 1) u) T.1 : Nat) : Int) := yGI_hit
          generalize sI σ2 46 u ((bs (stP T st w (ed pd st.1 h) (q - 1) u) T.1 : Nat) : Int) = σ3 at hF1 h46 ⊢
          refine ih (q - 1) _ _ _ σ3 (by clear hnew h46 g3 g4 hq46 hqz e3 u1 hpa; omega) (by clear hnew h46 g3 g4 hq46 hqz e3 u1 hpa; omega) (by clear hnew h46 g3 g4 hq46 hqz e3 u1 hpa; omega) (hF.trans (hF1.mono (fun k j h => h.1))) (fun p hp1 hp2 => ?_)
          by_cases e : p = u
          · rw [e, h46]
          · rw [hF1.i (fun w => e w.2), hE p hp1 hp2]
            refine bsI (fun a ha => ?_)
            unfold stP
            refine ⟨fun w => ⟨w.1, fun r r1 r2 r3 => ?_⟩, fun w => ⟨w.1, fun r r1 r2 r3 => w.2 r (by clear hnew h46 g3 g4 hq46 hqz e3 u1 hpa; omega) r2 r3⟩⟩
            by_cases er : r = q
            · rw [er, e3] at r3
              exact absurd (Int.ofNat.inj r3).symm e
            · exact w.2 r (by clear hnew h46 g3 g4 hq46 hqz e3 u1 hpa; omega) r2 r3
        | succ d' ih' =>
          intro i hd' hi
          have hi' : i < T.1 := by clear g3 g4 hq46 e3 u1 hpa hqz; omega
          have hix : 20 * q + i < 160 := by clear g3 g4 hq46 e3 u1 hpa hqz; omega
          have hcx : 0 ≤ ((20 * q + i : Nat) : Int) ∧ ((20 * q + i : Nat) : Int) < 160 := by clear g3 g4 hq46 e3 u1 hpa hqz; omega
          have ei : w32 ((i : Int) + 1) = ((i + 1 : Nat) : Int) := by clear g3 g4 hq46 e3 u1 hpa hqz; rw [zw_id (by omega) (by omega)]; omega
          have hni : ¬ (T.1 : Int) ≤ (i : Int) := by clear g3 g4 hq46 e3 u1 hpa hqz ei; omega
          have hd1 : T.1 - (i + 1) = d' := by clear g3 g4 hq46 e3 u1 hpa hqz ei; omega
          rw [zj_79_49 (by rw [s3]; exact s1) (by rw [s4]; exact s2), s3, s5.1.1, if_neg hni, yAnd hcq, Int.toNat_natCast, hq46, w160 hix, yAnd (fun _ => hcx), Int.toNat_natCast, (hrq i hi').2, ei]
          clear ei
          have hnew : zor ((bs (fun a => ∃ b, b < i ∧ rlp T st.2.2.2.1 q a b ∧ sat T st w q b) T.1 : Nat) : Int) (if zand (zshr ((bs (sat T st w q) T.1 : Nat) : Int) (i : Int)) 1 = 0 then 0 else ((bs (fun b => True ∧ rlp T st.2.2.2.1 q b i) T.1 : Nat) : Int) : Int) = ((bs (fun a => ∃ b, b < i + 1 ∧ rlp T st.2.2.2.1 q a b ∧ sat T st w q b) T.1 : Nat) : Int) := by
            have z31' := bs_lt31 (fun a => ∃ b, b < i ∧ rlp T st.2.2.2.1 q a b ∧ sat T st w q b) hn
            have ht := bs_test (P := sat T st w q) hn hi'
            rcases Classical.em (sat T st w q i) with hs | hs
            · rw [if_neg (fun w => ht.mp w hs), zor_nat z31' (bs_lt31 _ hn), bs_or]
              refine bsI (fun a ha => ⟨fun x => ?_, fun x => ?_⟩)
              · rcases x with ⟨b, b1, b2⟩ | x
                · exact ⟨b, Nat.lt_succ_of_lt b1, b2⟩
                · exact ⟨i, Nat.lt_succ_self i, x.2, hs⟩
              · obtain ⟨b, b1, b2⟩ := x
                by_cases e : b = i
                · rw [e] at b2; exact Or.inr ⟨trivial, b2.1⟩
                · exact Or.inl ⟨b, Nat.lt_of_le_of_ne (Nat.le_of_lt_succ b1) e, b2⟩
            · rw [if_pos (ht.mpr hs), show (0 : Int) = ((0 : Nat) : Int) from rfl, zor_nat z31' (by decide), Nat.or_zero]
              refine bsI (fun a ha => ⟨fun ⟨b, b1, b2⟩ => ⟨b, Nat.lt_succ_of_lt b1, b2⟩, fun ⟨b, b1, b2⟩ => ?_⟩)
              by_cases e : b = i
              · rw [e] at b2; exact absurd b2.2 hs
              · exact ⟨b, Nat.lt_of_le_of_ne (Nat.le_of_lt_succ b1) e, b2⟩
          rw [hnew]
          exact ih' (i + 1) hd1 hi'
      have h0 : bs (fun a => ∃ b, b < 0 ∧ rlp T st.2.2.2.1 q a b ∧ sat T st w q b) T.1 = 0 := bs_zero.mpr (fun i _ ⟨b, b1, _⟩ => Nat.not_lt_zero b b1)
      have l3 := loop3 T.1 0 (Nat.sub_zero _) (Nat.zero_le _)
      rw [h0] at l3
      rw [zj_79_38, if_neg (by clear g3 g4 hq46 e3 u1 hpa hqz; omega)]
      exact l3
  have loop1 : ∀ (d q : Nat) (σ2 : zW), ed pd st.1 h - q = d → h ≤ q → q ≤ ed pd st.1 h → yFr (fun k _ => k = 46) σ σ2 → (∀ p, h ≤ p → p < q → gI σ2 46 p = ((bs (own T st w p) T.1 : Nat) : Int)) → zEv true ((79, 12, [some (.inr (.inr 41)), some (.inl (h : Int)), some (.inl ((ed pd st.1 h : Nat) : Int)), some (.inl (q : Int)), none, none], []) :: K) σ2 := by
    intro d
    induction d with
    | zero =>
      intro q σ2 hd hq1 hq2 hF hE
      have eq : q = ed pd st.1 h := by clear hpa; omega
      have e1 : w32 (((ed pd st.1 h : Nat) : Int) - 1) = ((ed pd st.1 h - 1 : Nat) : Int) := by clear hpa; rw [zw_id (by omega) (by omega)]; omega
      rw [zj_79_12 (by clear hpa; omega), if_pos (by clear hpa; omega), e1]
      refine loop2 _ (ed pd st.1 h - 1) _ _ _ σ2 rfl (by clear hpa e1; omega) (by clear hpa e1; omega) hF (fun p hp1 hp2 => ?_)
      rw [hE p hp1 (by clear hpa e1; omega)]
      refine bsI (fun a ha => ⟨fun x => ⟨x, fun r r1 r2 _ => ?_⟩, fun x => x.1⟩)
      clear hpa e1
      omega
    | succ d ih =>
      intro q σ2 hd hq1 hq2 hF hE
      have hq' : q < ed pd st.1 h := by clear hpa; omega
      have hqc : q < st.1 := by clear hpa; omega
      have hcq : 0 ≤ (q : Int) ∧ (q : Int) < 8 := by clear hpa; omega
      have hnq : ¬ ((ed pd st.1 h : Nat) : Int) ≤ (q : Int) := by clear hpa; omega
      have e7 : w32 ((q : Int) + 1) = ((q + 1 : Nat) : Int) := by clear hpa; rw [zw_id (by omega) (by omega)]; omega
      obtain ⟨hS2, hB2⟩ := X0 σ2 hF
      rw [zj_79_12 (by clear hpa e7; omega), if_neg hnq, c_ownNodes hgT hg hw8 hS2 hB2 hqc (hm q hq1 hq') rfl, zr_79_27, yAnd hcq, Int.toNat_natCast, e7]
      refine ih (q + 1) _ (by clear hpa e7; omega) (by clear hpa e7; omega) hq' (hF.I rfl) (fun p hp1 hp2 => ?_)
      by_cases e : p = q
      · rw [e]; exact yGI_hit
      · rw [gI_sI, if_neg (fun w => e w.2)]
        exact hE p hp1 (by clear hpa e7; omega)
  obtain ⟨⟨s1, s2, s3, s4, s5, s6⟩, -⟩ := hS
  rw [ze_79 (by rw [s4]; exact s2), s4, yAnd hch, Int.toNat_natCast, hpa]
  exact loop1 _ h σ rfl (Nat.le_refl _) (by clear hpa; omega) yFr.rf (fun p hp1 hp2 => by clear hpa; omega)
