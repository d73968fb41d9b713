/-! the order of the search: what may be bound -/
def nm (st : PST) (r : Nat) : Nat := (st.2.2.2.1 8 (mt st.2.2.2.1 r)).toNat
theorem vlp_nm {st : PST} {w : Nat → Int} {r : Nat} : vlp w st.2.2.2.1 r = w (nm st r) := rfl
theorem nm_ok {st : PST} {pd : Nat → Nat} (hg : pgd st pd) {r : Nat} (hr : r < st.1) (hp : pln st.2.2.2.1 r) : st.2.2.2.1 8 (mt st.2.2.2.1 r) = (nm st r : Int) ∧ nm st r < st.2.2.1 ∧ np st (nm st r) = mt st.2.2.2.1 r ∧ pln st.2.2.2.1 (mt st.2.2.2.1 r) ∧ mt st.2.2.2.1 r < st.1 ∧ st.2.2.2.1 1 (mt st.2.2.2.1 r) ≠ 4 := by
  have key : mt st.2.2.2.1 r < st.1 ∧ pln st.2.2.2.1 (mt st.2.2.2.1 r) ∧ st.2.2.2.1 1 (mt st.2.2.2.1 r) ≠ 4 := by
    unfold mt
    by_cases c : st.2.2.2.1 1 r = 4
    · obtain ⟨o, o1, o2, o3, o4, o5⟩ := again_num hg hr (Or.inr c)
      rw [if_pos c, o1, Int.toNat_natCast]
      exact ⟨by omega, o3, o4⟩
    · rw [if_neg c]; exact ⟨hr, hp, c⟩
  obtain ⟨k1, k2, k3⟩ := key
  obtain ⟨k, e1, e2, e3⟩ := (hg.2.1 _ k1).2.2.2.2.2.2.1 ⟨k2.1, k3⟩
  have en : nm st r = k := by unfold nm; rw [e1, Int.toNat_natCast]
  refine ⟨by rw [en]; exact e1, by rw [en]; exact e2, ?_, k2, k1, k3⟩
  rw [en]; unfold np; rw [e3, Int.toNat_natCast]
theorem fr_pln {st : PST} {pd : Nat → Nat} (hg : pgd st pd) (hw8 : pw st) (hu : pup st) {r : Nat} (hr : r < st.1) (h0 : r ≠ 0) (hp : pln st.2.2.2.1 r) : st.2.2.2.1 3 r = (fr3 st r : Int) ∧ fr3 st r < r ∧ pln st.2.2.2.1 (fr3 st r) := by
  have h1 := hu r (by omega) hr
  have h2 : st.2.2.2.1 3 r = (fr3 st r : Int) := by
    have h3 : fr3 st r = (st.2.2.2.1 3 r).toNat := rfl
    rw [h3, Int.toNat_of_nonneg h1]
  refine ⟨h2, up_lt hw8 hu hr h0, Classical.byContradiction (fun w => ?_)⟩
  exact inpart_child hg hr (by omega) h2 w hp
theorem c_numberAt {K : List zF} {t r : Nat} {st : PST} {pd : Nat → Nat} {z : Int} {σ : zW} (ht : zPn t) (hP : cP t st σ) (hg : pgd st pd) (hc : st.1 ≤ 8) (hr : r < st.1) (hp : pln st.2.2.2.1 r) (hz : z = (r : Int)) : zEv true (zent 42 [.inr (.inr t), .inl z] :: K) σ = zRet true K (some (.inl (nm st r : Int))) σ := by
  subst hz
  have hcr : 0 ≤ (r : Int) ∧ (r : Int) < 8 := by omega
  have g1 : gI σ (t + 1) r = st.2.2.2.1 1 r := hP.2.2.2.1 1 r (by omega) (by omega) (by omega) hr
  have g2 : gI σ (t + 2) r = st.2.2.2.1 2 r := hP.2.2.2.1 2 r (by omega) (by omega) (by omega) hr
  obtain ⟨n1, n2, n3, n4, n5, n6⟩ := nm_ok hg hr hp
  have e : (if ¬ st.2.2.2.1 1 r = 4 then (r : Int) else st.2.2.2.1 2 r : Int) = (mt st.2.2.2.1 r : Int) := by
    unfold mt
    by_cases c : st.2.2.2.1 1 r = 4
    · obtain ⟨o, o1, -⟩ := again_num hg hr (Or.inr c)
      rw [if_neg (fun x => x c), if_pos c, o1, Int.toNat_natCast]
    · rw [if_pos c, if_neg c]
  have g8 : gI σ (t + 8) (mt st.2.2.2.1 r) = st.2.2.2.1 8 (mt st.2.2.2.1 r) := hP.2.2.2.1 8 _ (by omega) (by omega) (by omega) n5
  have hcm : 0 ≤ (mt st.2.2.2.1 r : Int) ∧ (mt st.2.2.2.1 r : Int) < 8 := by clear g1 g2 g8 e n1; omega
  rw [ze_42 ht, yAnd hcr, yAnd (fun _ => hcr), Int.toNat_natCast, g1, g2, e, yAnd hcm, Int.toNat_natCast, g8, n1]
/-- the nodes that number k may have with the numbers of M bound -/
def optQ (T : TRE) (st : PST) (w : Nat → Int) (M : Nat → Prop) (k E a : Nat) : Prop := ftP st.2.2.2.1 st.2.2.2.2 (np st k) (T.2.1 a) ∧ ∀ r, 1 ≤ r → r < E → pln st.2.2.2.1 r → (nm st r = k → M (nm st (fr3 st r)) → rlp T st.2.2.2.1 r (w (nm st (fr3 st r))).toNat a) ∧ (nm st (fr3 st r) = k → M (nm st r) → rlp T st.2.2.2.1 r a (w (nm st r)).toNat)
theorem optQ_s {T : TRE} {st : PST} {w : Nat → Int} {M : Nat → Prop} {k E a : Nat} (hE : 1 ≤ E) : optQ T st w M k (E + 1) a ↔ (optQ T st w M k E a ∧ (pln st.2.2.2.1 E → (nm st E = k → M (nm st (fr3 st E)) → rlp T st.2.2.2.1 E (w (nm st (fr3 st E))).toNat a) ∧ (nm st (fr3 st E) = k → M (nm st E) → rlp T st.2.2.2.1 E a (w (nm st E)).toNat))) := by
  constructor
  · rintro ⟨h1, h2⟩
    exact ⟨⟨h1, fun r r1 r2 r3 => h2 r r1 (Nat.lt_succ_of_lt r2) r3⟩, h2 E hE (Nat.lt_succ_self E)⟩
  · rintro ⟨⟨h1, h2⟩, h3⟩
    refine ⟨h1, fun r r1 r2 r3 => ?_⟩
    rcases Nat.lt_succ_iff_lt_or_eq.mp r2 with x | x
    · exact h2 r r1 x r3
    · rw [x] at r3 ⊢; exact h3 r3
theorem c_options {K : List zF} (hK : K.length + 1 < 60) {t tp k : Nat} {T : TRE} {st : PST} {pd : Nat → Nat} {w : Nat → Int} {M : Nat → Prop} {z : Int} {σ : zW} (hgT : tgd T) (hg : pgd st pd) (hw8 : pw st) (hu : pup st) (h1c : 1 ≤ st.1) (hS : sAll t tp T st pd σ) (hk : k < st.2.2.1) (hB : ∀ k', M k' → gI σ 48 k' = w k' ∧ ∃ j : Nat, j < T.1 ∧ w k' = (j : Int)) (hz : z = (k : Int)) : zEv true (zent 75 [.inr (.inr 41), .inl z, .inl ((bs M 4 : Nat) : Int)] :: K) σ = zRet true K (some (.inl ((bs (optQ T st w M k st.1) T.1 : Nat) : Int))) σ := by
  subst hz
  have hn := hgT.1.1
  have hc := hw8.1
  have hN := hw8.2.1
  obtain ⟨⟨s1, s2, s3, s4, s5, s6⟩, hpa, hr1, hr2, hr3⟩ := hS
  obtain ⟨n1, n2, n3, n4, n5⟩ := np_ok hg hk
  have hck : 0 ≤ (k : Int) ∧ (k : Int) < 4 := by clear n2 n3; omega
  have g14 : gI σ (tp + 14) k = (np st k : Int) := (s6.2.2.2.2.2.1 k hk).trans n2
  have hcn : 0 ≤ (np st k : Int) ∧ (np st k : Int) < 8 := by clear n2 n3 g14; omega
  rw [ze_75 (by rw [s4]; exact s2), yAnd hck, s4, Int.toNat_natCast, g14, yAnd hcn, Int.toNat_natCast, hr1 _ n1]
  suffices L : ∀ (d E : Nat) (o5 o6 : Option zV), st.1 - E = d → 1 ≤ E → E ≤ st.1 → zEv true ((75, 18, [some (.inr (.inr 41)), some (.inl (k : Int)), some (.inl ((bs M 4 : Nat) : Int)), some (.inl ((bs (optQ T st w M k E) T.1 : Nat) : Int)), some (.inl (E : Int)), o5, o6], []) :: K) σ = zRet true K (some (.inl ((bs (optQ T st w M k st.1) T.1 : Nat) : Int))) σ by
    have := L _ 1 none none rfl (Nat.le_refl 1) h1c
    rw [bs_c (n := T.1) (Q := optQ T st w M k 1) (fun a _ => ⟨fun x => ⟨x, fun r r1 r2 => by omega⟩, fun x => x.1⟩)]
    exact this
  intro d
  induction d with
  | zero =>
    intro E o5 o6 hd hE1 hE2
    have e : E = st.1 := by clear n2 n3 g14; omega
    rw [zj_75_18 (by omega) (by rw [s4]; exact s2), s4, s6.1, if_pos (by rw [e]; exact Int.le_refl _), e]
  | succ d ih =>
    intro E o5 o6 hd hE1 hE2
    have hEc : E < st.1 := by clear n2 n3 g14; omega
    have hcE : 0 ≤ (E : Int) ∧ (E : Int) < 8 := by clear n2 n3 g14; omega
    have hni : ¬ (st.1 : Int) ≤ (E : Int) := by clear n2 n3 g14; omega
    have eE : ∀ _ : Unit, w32 ((E : Int) + 1) = ((E + 1 : Nat) : Int) := fun _ => w_s (by clear n2 n3 g14; omega)
    have hd1 : st.1 - (E + 1) = d := by clear n2 n3 g14 eE; omega
    have g11 : gI σ (tp + 11) E = st.2.2.2.1 11 E := s6.2.2.2.1 11 E (by omega) (by omega) (by omega) hEc
    have g9 : gI σ (tp + 9) E = st.2.2.2.1 9 E := s6.2.2.2.1 9 E (by omega) (by omega) (by omega) hEc
    have g3 : gI σ (tp + 3) E = st.2.2.2.1 3 E := s6.2.2.2.1 3 E (by omega) (by omega) (by omega) hEc
    have hKl : K.length < 60 := by clear n2 n3 g14 eE g11 g9 g3; omega
    have hI := fun o5 o6 => ih (E + 1) o5 o6 hd1 (Nat.le_add_left 1 E) hEc
    rw [zj_75_18 hKl (by rw [s4]; exact s2), s4, s6.1, if_neg hni, c_plain s2 rfl (Nat.lt_of_lt_of_le hEc hc) g11 g9, zr_75_39 hKl (by rw [s4]; exact s2), s4]
    by_cases cp : pln st.2.2.2.1 E
    · have h0 : E ≠ 0 := by clear n2 n3 g14 eE g11 g9 g3; omega
      obtain ⟨f1, f2, f3⟩ := fr_pln hg hw8 hu hEc h0 cp
      obtain ⟨m1, m2, m3, m4, m5, m6⟩ := nm_ok hg hEc cp
      obtain ⟨q1, q2, q3, q4, q5, q6⟩ := nm_ok hg (Nat.lt_trans f2 hEc) f3
      rw [if_pos (show _ ∧ _ from cp), if_neg (by decide), yAnd hcE, Int.toNat_natCast, g3, f1, c_numberAt s2 s6 hg hc (Nat.lt_trans f2 hEc) f3 rfl, zr_75_59 hKl (by rw [s4]; exact s2), s4, c_numberAt s2 s6 hg hc hEc cp rfl, zr_75_70]
      clear g11 g9 g3 g14 n2 n3 f1 m1 q1
      generalize hx : nm st (fr3 st E) = x at q2 q3 ⊢
      generalize hy : nm st E = y at m2 m3 ⊢
      have tx := bs_test (P := M) (n := 4) (i := x) (by decide) (by clear eE hEc hcE; omega)
      have ty := bs_test (P := M) (n := 4) (i := y) (by decide) (by clear eE hEc hcE; omega)
      have z31 := bs_lt31 (optQ T st w M k E) hn
      have hcx : 0 ≤ (x : Int) ∧ (x : Int) < 4 := by clear eE tx ty; omega
      have hcy : 0 ≤ (y : Int) ∧ (y : Int) < 4 := by clear eE tx ty; omega
      -- the second half
      have half2 : ∀ (Q : Nat → Prop), (∀ a, a < T.1 → ((Q a ∧ (x = k → M y → rlp T st.2.2.2.1 E a (w y).toNat)) ↔ optQ T st w M k (E + 1) a)) → zEv true ((75, 108, [some (.inr (.inr 41)), some (.inl (k : Int)), some (.inl ((bs M 4 : Nat) : Int)), some (.inl ((bs Q T.1 : Nat) : Int)), some (.inl (E : Int)), some (.inl (x : Int)), some (.inl (y : Int))], []) :: K) σ = zRet true K (some (.inl ((bs (optQ T st w M k st.1) T.1 : Nat) : Int))) σ := fun Q hQ => by
        rw [zj_75_108]
        by_cases ck : x = k
        · rw [if_neg (fun h => h (by rw [ck]))]
          rcases Classical.em (M y) with my | my
          · obtain ⟨b1, j, j1, j2⟩ := hB y my
            have hix : 20 * E + j < 160 := by clear tx ty b1 j2 eE; omega
            have hci : 0 ≤ ((20 * E + j : Nat) : Int) ∧ ((20 * E + j : Nat) : Int) < 160 := by clear tx ty b1 j2 eE; omega
            rw [if_neg (fun h => ty.mp h my), yAnd hcy, Int.toNat_natCast, b1, j2, w160 hix, yAnd hci, Int.toNat_natCast, (hr2 E hEc j j1).2, zand_nat (bs_lt31 _ hn) (bs_lt31 _ hn), bs_and, (eE ())]
            rw [bs_c (n := T.1) (Q := optQ T st w M k (E + 1)) (fun a ha => ?_)]
            · exact hI _ _
            · rw [← hQ a ha, j2, Int.toNat_natCast]
              exact ⟨fun h => ⟨h.1, fun _ _ => h.2.2⟩, fun h => ⟨h.1, trivial, h.2 ck my⟩⟩
          · rw [if_pos (ty.mpr my), (eE ()), bs_c (n := T.1) (Q := optQ T st w M k (E + 1)) (fun a ha => ?_)]
            · exact hI _ _
            · rw [← hQ a ha]
              exact ⟨fun h => ⟨h, fun _ h' => absurd h' my⟩, fun h => h.1⟩
        · rw [if_pos (ne_i ck), (eE ()), bs_c (n := T.1) (Q := optQ T st w M k (E + 1)) (fun a ha => ?_)]
          · exact hI _ _
          · rw [← hQ a ha]
            exact ⟨fun h => ⟨h, fun h' => absurd h' ck⟩, fun h => h.1⟩
      by_cases ck : y = k
      · rw [if_neg (fun h => h (by rw [ck]))]
        rcases Classical.em (M x) with mx | mx
        · obtain ⟨b1, j, j1, j2⟩ := hB x mx
          have hix : 20 * E + j < 160 := by clear tx ty b1 j2 eE; omega
          have hci : 0 ≤ ((20 * E + j : Nat) : Int) ∧ ((20 * E + j : Nat) : Int) < 160 := by clear tx ty b1 j2 eE; omega
          rw [if_neg (fun h => tx.mp h mx), yAnd hcx, Int.toNat_natCast, b1, j2, w160 hix, yAnd hci, Int.toNat_natCast, (hr2 E hEc j j1).1, zand_nat (bs_lt31 _ hn) (bs_lt31 _ hn), bs_and]
          refine half2 _ (fun a ha => ?_)
          rw [optQ_s hE1, hx, hy, j2, Int.toNat_natCast]
          exact ⟨fun h => ⟨h.1.1, fun _ => ⟨fun _ _ => h.1.2.2, h.2⟩⟩, fun h => ⟨⟨h.1, trivial, (h.2 cp).1 ck mx⟩, (h.2 cp).2⟩⟩
        · rw [if_pos (tx.mpr mx)]
          refine half2 _ (fun a ha => ?_)
          rw [optQ_s hE1, hx, hy]
          exact ⟨fun h => ⟨h.1, fun _ => ⟨fun _ h' => absurd h' mx, h.2⟩⟩, fun h => ⟨h.1, (h.2 cp).2⟩⟩
      · rw [if_pos (ne_i ck)]
        refine half2 _ (fun a ha => ?_)
        rw [optQ_s hE1, hx, hy]
        exact ⟨fun h => ⟨h.1, fun _ => ⟨fun h' => absurd h' ck, h.2⟩⟩, fun h => ⟨h.1, (h.2 cp).2⟩⟩
    · rw [if_neg (show ¬ (_ ∧ _) from cp), if_pos rfl, (eE ()), bs_c (n := T.1) (Q := optQ T st w M k (E + 1)) (fun a _ => ?_)]
      · exact hI _ _
      · rw [optQ_s hE1]
        exact ⟨fun h => ⟨h, fun h' => absurd h' cp⟩, fun h => h.1⟩
