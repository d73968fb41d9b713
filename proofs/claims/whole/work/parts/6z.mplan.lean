/-! the plan of the model -/
theorem mt_eq {st : PST} {pd : Nat → Nat} (hg : pgd st pd) {r k : Nat} (hr : r < st.1) (hp : pln st.2.2.2.1 r) (hk : k < st.2.2.1) : mt st.2.2.2.1 r = np st k ↔ nm st r = k := by
  obtain ⟨m1, m2, m3, m4, m5, m6⟩ := nm_ok hg hr hp
  rw [← m3]
  constructor
  · intro h
    rcases Nat.lt_trichotomy (nm st r) k with x | x | x
    · have := np_lt hg x hk; omega
    · exact x
    · have := np_lt hg x m2; omega
  · intro h; rw [h]
theorem m_meant {K : List zF} {r q : Nat} {T : TRE} {st : PST} {pd : Nat → Nat} {z : Int} {σ : zW} (hO : mOn q T st σ) (hg : pgd st pd) (hc : st.1 ≤ 8) (hr : r < st.1) (hz : z = (r : Int)) : zEv true (zent 215 [.inr (.inr 122), .inl z] :: K) σ = zRet true K (some (.inl (mt st.2.2.2.1 r : Int))) σ := by
  subst hz
  have hcr : 0 ≤ (r : Int) ∧ (r : Int) < 8 := by omega
  have e132 : gI σ 132 r = st.2.2.2.1 1 r := mG_k hO.2.2.2.2 (q := 0) (i := r) (by omega) (by omega) hr
  have e135 : gI σ 135 r = st.2.2.2.1 2 r := mG_k hO.2.2.2.2 (q := 3) (i := r) (by omega) (by omega) hr
  have e : (if ¬ st.2.2.2.1 1 r = 4 then (r : Int) else st.2.2.2.1 2 r : Int) = (mt st.2.2.2.1 r : Int) := by
    unfold mt
    by_cases c : st.2.2.2.1 1 r = 4
    · obtain ⟨o, o1, -⟩ := again_num hg hr (Or.inr c)
      rw [if_neg (fun x => x c), if_pos c, o1, Int.toNat_natCast]
    · rw [if_pos c, if_neg c]
  rw [ze_215, yAnd hcr, yAnd (fun _ => hcr), Int.toNat_natCast, e132, e135, e]
def told (st : PST) (k k' E : Nat) : Prop := ∃ r, 1 ≤ r ∧ r < E ∧ pln st.2.2.2.1 r ∧ ((nm st r = k ∧ nm st (fr3 st r) = k') ∨ (nm st r = k' ∧ nm st (fr3 st r) = k))
theorem told_s {st : PST} {k k' E : Nat} (hE : 1 ≤ E) : told st k k' (E + 1) ↔ (told st k k' E ∨ (pln st.2.2.2.1 E ∧ ((nm st E = k ∧ nm st (fr3 st E) = k') ∨ (nm st E = k' ∧ nm st (fr3 st E) = k)))) := by
  constructor
  · rintro ⟨r, r1, r2, r3⟩
    rcases Nat.lt_succ_iff_lt_or_eq.mp r2 with x | x
    · exact Or.inl ⟨r, r1, x, r3⟩
    · rw [x] at r3; exact Or.inr r3
  · rintro (⟨r, r1, r2, r3⟩ | x)
    · exact ⟨r, r1, Nat.lt_succ_of_lt r2, r3⟩
    · exact ⟨E, hE, Nat.lt_succ_self E, x⟩
theorem pln_sg {st : PST} {pd : Nat → Nat} (hg : pgd st pd) (hw8 : pw st) {r : Nat} (hr : r < st.1) (h0 : r ≠ 0) (hp : pln st.2.2.2.1 r) : st.2.2.2.1 4 r = 0 := by
  have h1 := (hg.2.1 r hr).2.2.1
  have h2 := ((par11 hg hr h0).mp hp.1).1
  have h3 : st.2.2.2.1 4 r ≠ 2 := fun x => by
    have := (head_iff hg hr (by omega) hw8).mpr x
    have := hp.2
    omega
  omega
theorem m_areTold {K : List zF} (hK : K.length < 60) {k k' q : Nat} {T : TRE} {st : PST} {pd : Nat → Nat} {z z' : Int} {σ : zW} (hO : mOn q T st σ) (hg : pgd st pd) (hw8 : pw st) (hu : pup st) (h1c : 1 ≤ st.1) (hk : k < st.2.2.1) (hk' : k' < st.2.2.1) (hz : z = (np st k : Int)) (hz' : z' = (np st k' : Int)) : zEv true (zent 216 [.inr (.inr 122), .inl z, .inl z'] :: K) σ = zRet true K (some (.inl (zb (told st k k' st.1)))) σ := by
  subst hz
  subst hz'
  have hc := hw8.1
  have h18 : gI σ 122 18 = (st.1 : Int) := hO.2.2.2.2.1
  rw [ze_216]
  have L : ∀ (d E : Nat) (x3 : Int) (o5 o6 o7 : Option zV), st.1 - E = d → 1 ≤ E → E ≤ st.1 → x3 = zb (told st k k' E) → zEv true ((216, 5, [some (.inr (.inr 122)), some (.inl (np st k : Int)), some (.inl (np st k' : Int)), some (.inl x3), some (.inl (E : Int)), o5, o6, o7], []) :: K) σ = zRet true K (some (.inl (zb (told st k k' st.1)))) σ := by
    intro d
    induction d with
    | zero =>
      intro E x3 o5 o6 o7 hd hE1 hE2 hx
      have e : E = st.1 := by omega
      rw [zj_216_5 hK, h18, if_pos (by omega), hx, yAnd (zb01 _), e]
    | succ d ih =>
      intro E x3 o5 o6 o7 hd hE1 hE2 hx
      have hEc : E < st.1 := by omega
      have h0 : E ≠ 0 := by omega
      have hcE : 0 ≤ (E : Int) ∧ (E : Int) < 8 := by omega
      have hni : ¬ (st.1 : Int) ≤ (E : Int) := by omega
      have hd1 : st.1 - (E + 1) = d := by omega
      have eE : ∀ _ : Unit, w32 ((E : Int) + 1) = ((E + 1 : Nat) : Int) := fun _ => w_s (by omega)
      have hlt := up_lt hw8 hu hEc h0
      have hfc := Nat.lt_trans hlt hEc
      have e3 : st.2.2.2.1 3 E = ((fr3 st E : Nat) : Int) := by
        have h1 := hu E hE1 hEc
        have h3 : fr3 st E = (st.2.2.2.1 3 E).toNat := rfl
        rw [h3, Int.toNat_of_nonneg h1]
      have e140 : gI σ 140 E = st.2.2.2.1 3 E := mG_k hO.2.2.2.2 (q := 8) (i := E) (by omega) (by omega) hEc
      have e141 : gI σ 141 E = sgR (st.2.2.2.1 4 E) := mG_k hO.2.2.2.2 (q := 9) (i := E) (by omega) (by omega) hEc
      have hpw := (hw8.2.2.2 E hEc).2.2.1
      have hb := (hg.2.1 E hEc).2.2.1
      rw [zj_216_5 hK, h18, if_neg hni, m_meant hO hg hc hEc rfl, zr_216_20 hK, yAnd hcE, Int.toNat_natCast, e140, e3, m_meant hO hg hc hfc rfl, zr_216_33 hK, m_isInPart hO hc hEc hpw rfl, zr_216_41]
      have no : ¬ (pln st.2.2.2.1 E ∧ ((nm st E = k ∧ nm st (fr3 st E) = k') ∨ (nm st E = k' ∧ nm st (fr3 st E) = k))) → x3 = zb (told st k k' (E + 1)) := fun h => by
        rw [hx]
        exact zb_c ((told_s hE1).trans ⟨fun y => by rcases y with y | y; exact y; exact absurd y h, fun y => Or.inl y⟩).symm
      have yes : (told st k k' E ∨ (pln st.2.2.2.1 E ∧ ((nm st E = k ∧ nm st (fr3 st E) = k') ∨ (nm st E = k' ∧ nm st (fr3 st E) = k)))) → (1 : Int) = zb (told st k k' (E + 1)) := fun h => (zb_t ((told_s hE1).mpr h)).symm
      by_cases hx3 : x3 = 0
      · have hnt : ¬ told st k k' E := zb0.mp (by rw [← hx]; exact hx3)
        by_cases cp : pln st.2.2.2.1 E
        · have hfp := (fr_pln hg hw8 hu hEc h0 cp).2.2
          have hsg : gI σ 141 E = 0 := by rw [e141, pln_sg hg hw8 hEc h0 cp]; rfl
          rw [zb_f (fun x => x cp), if_neg (fun x => x rfl), yAnd hcE, Int.toNat_natCast, hsg, if_neg (fun x => x rfl), if_neg (fun x => x hx3), if_neg (by decide)]
          have i1 := mt_eq hg hEc cp hk
          have i2 := mt_eq hg hEc cp hk'
          have i3 := mt_eq hg hfc hfp hk
          have i4 := mt_eq hg hfc hfp hk'
          have second : zEv true ((216, 82, [some (.inr (.inr 122)), some (.inl (np st k : Int)), some (.inl (np st k' : Int)), some (.inl x3), some (.inl (E : Int)), some (.inl (mt st.2.2.2.1 E : Int)), some (.inl (mt st.2.2.2.1 (fr3 st E) : Int)), some (.inl 1)], []) :: K) σ = zRet true K (some (.inl (zb (told st k k' st.1)))) σ ∨ (nm st E = k ∧ nm st (fr3 st E) = k') := by
            by_cases q1 : nm st E = k ∧ nm st (fr3 st E) = k'
            · exact Or.inr q1
            · refine Or.inl ?_
              rw [zj_216_82]
              by_cases a1 : nm st E = k'
              · rw [if_neg (fun x => x (by rw [i2.mpr a1]))]
                by_cases a2 : nm st (fr3 st E) = k
                · rw [if_neg (fun x => x (by rw [i3.mpr a2])), (eE ())]
                  exact ih (E + 1) _ _ _ _ hd1 (Nat.le_add_left 1 E) hEc (yes (Or.inr ⟨cp, Or.inr ⟨a1, a2⟩⟩))
                · rw [if_pos (ne_i (fun x => a2 (i3.mp x))), zj_216_98, (eE ())]
                  refine ih (E + 1) _ _ _ _ hd1 (Nat.le_add_left 1 E) hEc ?_
                  rw [← hx3]
                  exact no (fun y => by rcases y.2 with y | y; exact q1 y; exact a2 y.2)
              · rw [if_pos (ne_i (fun x => a1 (i2.mp x))), zj_216_98, (eE ())]
                refine ih (E + 1) _ _ _ _ hd1 (Nat.le_add_left 1 E) hEc ?_
                rw [← hx3]
                exact no (fun y => by rcases y.2 with y | y; exact q1 y; exact a1 y.1)
          by_cases a1 : nm st E = k
          · rw [if_neg (fun x => x (by rw [i1.mpr a1]))]
            by_cases a2 : nm st (fr3 st E) = k'
            · rw [if_pos (by rw [i4.mpr a2]), (eE ())]
              exact ih (E + 1) _ _ _ _ hd1 (Nat.le_add_left 1 E) hEc (yes (Or.inr ⟨cp, Or.inl ⟨a1, a2⟩⟩))
            · rw [if_neg (ne_i (fun x => a2 (i4.mp x)))]
              rcases second with s | s
              · exact s
              · exact absurd s.2 a2
          · rw [if_pos (ne_i (fun x => a1 (i1.mp x)))]
            rcases second with s | s
            · exact s
            · exact absurd s.1 a1
        · rw [zb_t cp, if_pos (by decide), zj_216_58, if_neg (fun x => x hx3), if_pos rfl, zj_216_98, (eE ())]
          refine ih (E + 1) _ _ _ _ hd1 (Nat.le_add_left 1 E) hEc ?_
          rw [← hx3]
          exact no (fun y => cp y.1)
      · have ht : told st k k' E := Classical.byContradiction (fun y => hx3 (by rw [hx]; exact zb_f y))
        have go : ∀ o5 o6 o7, zEv true ((216, 5, [some (.inr (.inr 122)), some (.inl (np st k : Int)), some (.inl (np st k' : Int)), some (.inl 1), some (.inl ((E + 1 : Nat) : Int)), o5, o6, o7], []) :: K) σ = zRet true K (some (.inl (zb (told st k k' st.1)))) σ := fun o5 o6 o7 => ih (E + 1) _ _ _ _ hd1 (Nat.le_add_left 1 E) hEc (yes (Or.inl ht))
        by_cases cp : pln st.2.2.2.1 E
        · have hsg : gI σ 141 E = 0 := by rw [e141, pln_sg hg hw8 hEc h0 cp]; rfl
          rw [zb_f (fun x => x cp), if_neg (fun x => x rfl), yAnd hcE, Int.toNat_natCast, hsg, if_neg (fun x => x rfl), if_pos hx3, (eE ())]
          exact go _ _ _
        · rw [zb_t cp, if_pos (by decide), zj_216_58, if_pos hx3, (eE ())]
          exact go _ _ _
  exact L (st.1 - 1) 1 0 _ _ _ rfl (Nat.le_refl 1) h1c (zb_f (fun ⟨r, r1, r2, _⟩ => by omega)).symm
theorem m_fitting {K : List zF} (hK : K.length + 2 ≤ 60) {k q : Nat} {T : TRE} {st : PST} {pd : Nat → Nat} {z : Int} {σ : zW} (hgT : tgd T) (hO : mOn q T st σ) (hg : pgd st pd) (hw8 : pw st) (hl : st.2.1 ≤ 300) (hk : k < st.2.2.1) (hz : z = (np st k : Int)) : zEv true (zent 214 [.inr (.inr 122), .inl z] :: K) σ = zRet true K (some (.inl (fcN T st k : Int))) σ := by
  subst hz
  have hn := hgT.1.1
  have hc := hw8.1
  obtain ⟨n1, -⟩ := np_ok hg hk
  have h65 : gI σ 122 65 = (T.1 : Int) := hO.2.2.1.1
  rw [ze_214]
  have L : ∀ (d a : Nat), T.1 - a = d → a ≤ T.1 → zEv true ((214, 4, [some (.inr (.inr 122)), some (.inl (np st k : Int)), some (.inl (((lst (fun a => ftP st.2.2.2.1 st.2.2.2.2 (np st k) (T.2.1 a)) a).length : Nat) : Int)), some (.inl (a : Int))], []) :: K) σ = zRet true K (some (.inl (fcN T st k : Int))) σ := by
    intro d
    induction d with
    | zero =>
      intro a hd ha
      have e : a = T.1 := by omega
      rw [zj_214_4 (by omega), h65, e, if_pos (Int.le_refl _)]
      rfl
    | succ d ih =>
      intro a hd ha
      have ha' : a < T.1 := by omega
      have hni : ¬ (T.1 : Int) ≤ (a : Int) := by omega
      have hd1 : T.1 - (a + 1) = d := by omega
      have ea : ∀ _ : Unit, w32 ((a : Int) + 1) = ((a + 1 : Nat) : Int) := fun _ => w_s (by omega)
      have hll := lst_len (P := fun a => ftP st.2.2.2.1 st.2.2.2.2 (np st k) (T.2.1 a)) a
      have hI := ih (a + 1) hd1 ha'
      rw [zj_214_4 (by omega), h65, if_neg hni, m_fitsAlone (by show K.length + 1 + 1 ≤ 60; omega) hO.1 hgT hO.2.1 hO.2.2.2.1 hO.2.2.2.2 hg hc hl n1 ha' rfl rfl, zr_214_19, (ea ())]
      rcases Classical.em (ftP st.2.2.2.1 st.2.2.2.2 (np st k) (T.2.1 a)) with c | c
      · rw [lst_y (P := fun a => ftP st.2.2.2.1 st.2.2.2.2 (np st k) (T.2.1 a)) c, List.length_append] at hI
        rw [zb_t c, if_neg (by decide)]
        have e1 : w32 ((((lst (fun a => ftP st.2.2.2.1 st.2.2.2.2 (np st k) (T.2.1 a)) a).length : Nat) : Int) + 1) = (((lst (fun a => ftP st.2.2.2.1 st.2.2.2.2 (np st k) (T.2.1 a)) a).length + [a].length : Nat) : Int) := by
          show _ = (((lst (fun a => ftP st.2.2.2.1 st.2.2.2.2 (np st k) (T.2.1 a)) a).length + 1 : Nat) : Int)
          generalize (lst (fun a => ftP st.2.2.2.1 st.2.2.2.2 (np st k) (T.2.1 a)) a).length = l at hll
          clear ea hI h65
          rw [zw_id (by omega) (by omega)]; omega
        rw [e1]
        exact hI
      · rw [lst_n (P := fun a => ftP st.2.2.2.1 st.2.2.2.2 (np st k) (T.2.1 a)) c] at hI
        rw [zb_f c, if_pos rfl]
        have e1 : w32 ((((lst (fun a => ftP st.2.2.2.1 st.2.2.2.2 (np st k) (T.2.1 a)) a).length : Nat) : Int) + 0) = (((lst (fun a => ftP st.2.2.2.1 st.2.2.2.2 (np st k) (T.2.1 a)) a).length : Nat) : Int) := by
          generalize (lst (fun a => ftP st.2.2.2.1 st.2.2.2.2 (np st k) (T.2.1 a)) a).length = l at hll
          clear ea hI h65
          rw [zw_id (by omega) (by omega)]; omega
        rw [e1]
        exact hI
  exact L T.1 0 (Nat.sub_zero _) (Nat.zero_le _)
