/-! what a pattern's text makes good -/
theorem entR_c {R : PRW} {c n nb : Nat} {nm : Int} {row : Nat → Int} {q : Nat} (h1 : q ≠ 13) (h2 : q ≠ 14) : entR R c n nb nm row q c = row q := by
  unfold entR
  rw [if_neg h1, if_neg h2, if_pos rfl]
theorem entR_oo {R : PRW} {c n nb : Nat} {nm : Int} {row : Nat → Int} {q i : Nat} (h1 : q ≠ 13) (h2 : q ≠ 14) (h : i ≠ c) : entR R c n nb nm row q i = R q i := by
  unfold entR
  rw [if_neg h1, if_neg h2, if_neg h]
theorem entR_14 {R : PRW} {c n nb : Nat} {nm : Int} {row : Nat → Int} {i : Nat} : entR R c n nb nm row 14 i = if nb = 1 ∧ i = n then (c : Int) else R 14 i := rfl
theorem entR_13 {R : PRW} {c n nb : Nat} {nm : Int} {row : Nat → Int} {i : Nat} : entR R c n nb nm row 13 i = if nm = (i : Int) + 97 then (c : Int) else R 13 i := rfl
/-- a part i is good: pd its depth, l labels, n numbers -/
def pgi (l n : Nat) (R : PRW) (pd : Nat → Nat) (i : Nat) : Prop :=
  R 3 i = pa pd (pd i) i ∧ (0 ≤ R 1 i ∧ R 1 i ≤ 4) ∧ (0 ≤ R 4 i ∧ R 4 i ≤ 2) ∧
  (∃ m k : Nat, R 17 i = (m : Int) ∧ R 16 i = (k : Int) ∧ m ≤ 19 ∧ k ≤ 9 ∧ (0 < i → 1 ≤ m) ∧ R 5 i = cop m k) ∧
  (R 1 i = 3 ∨ R 1 i = 4 → ∃ j : Nat, R 2 i = (j : Int) ∧ j < i ∧ R 11 j = 0 ∧ R 9 j = -1 ∧ R 1 j ≠ 4) ∧
  (∃ a b : Nat, R 6 i = (a : Int) ∧ R 7 i = (b : Int) ∧ a ≤ b ∧ b ≤ l) ∧
  (R 11 i = 0 ∧ R 1 i ≠ 4 → ∃ k : Nat, R 8 i = (k : Int) ∧ k < n ∧ R 14 k = (i : Int)) ∧
  (¬ (R 11 i = 0 ∧ R 1 i ≠ 4) → R 8 i = -1) ∧
  (i = 0 → R 4 i = 0 ∧ R 9 i = -1 ∧ R 11 i = 0 ∧ R 1 i ≠ 4) ∧
  (0 < i → R 11 i = (if R 4 i = 1 ∨ R 11 (R 3 i).toNat ≠ 0 then 1 else 0) ∧ R 9 i = (if R 9 (R 3 i).toNat ≠ -1 then R 9 (R 3 i).toNat else if R 4 i = 2 then (i : Int) else -1) ∧ (R 4 i = 2 → R 9 (R 3 i).toNat = -1 ∧ R 11 (R 3 i).toNat = 0))
theorem pgi_congr {l l' n n' : Nat} {R R' : PRW} {pd pd' : Nat → Nat} {i : Nat} (h : pgi l n R pd i) (hl : l ≤ l') (hn : n ≤ n') (hR : ∀ q j, q ≠ 13 → q ≠ 14 → j ≤ i → R' q j = R q j) (h14 : ∀ k, k < n → R' 14 k = R 14 k) (hpd : ∀ j, j ≤ i → pd' j = pd j) : pgi l' n' R' pd' i := by
  obtain ⟨a1, a2, a3, ⟨m, k, b1, b2, b3, b4, b5, b6⟩, a5, ⟨a, b, c1, c2, c3, c4⟩, a7, a8, a9, a10⟩ := h
  have e := fun q h1 h2 => hR q i h1 h2 (Nat.le_refl i)
  have hpa := pa_ge pd (pd i) i
  have hu : (R 3 i).toNat ≤ i := by rw [a1]; omega
  refine ⟨?_, ?_, ?_, ⟨m, k, ?_, ?_, b3, b4, b5, ?_⟩, fun h => ?_, ⟨a, b, ?_, ?_, c3, by omega⟩, fun h => ?_, fun h => ?_, fun h => ?_, fun h => ?_⟩
  · rw [e 3 (by omega) (by omega), a1, hpd i (Nat.le_refl i)]
    exact pa_congr (fun j hj => (hpd j (by omega)).symm)
  · rw [e 1 (by omega) (by omega)]; exact a2
  · rw [e 4 (by omega) (by omega)]; exact a3
  · rw [e 17 (by omega) (by omega)]; exact b1
  · rw [e 16 (by omega) (by omega)]; exact b2
  · rw [e 5 (by omega) (by omega)]; exact b6
  · rw [e 1 (by omega) (by omega)] at h
    obtain ⟨j, j1, j2, j3, j4, j5⟩ := a5 h
    refine ⟨j, ?_, j2, ?_, ?_, ?_⟩
    · rw [e 2 (by omega) (by omega)]; exact j1
    · rw [hR 11 j (by omega) (by omega) (by omega)]; exact j3
    · rw [hR 9 j (by omega) (by omega) (by omega)]; exact j4
    · rw [hR 1 j (by omega) (by omega) (by omega)]; exact j5
  · rw [e 6 (by omega) (by omega)]; exact c1
  · rw [e 7 (by omega) (by omega)]; exact c2
  · rw [e 11 (by omega) (by omega), e 1 (by omega) (by omega)] at h
    obtain ⟨k, k1, k2, k3⟩ := a7 h
    exact ⟨k, by rw [e 8 (by omega) (by omega)]; exact k1, by omega, by rw [h14 k k2]; exact k3⟩
  · rw [e 11 (by omega) (by omega), e 1 (by omega) (by omega)] at h
    rw [e 8 (by omega) (by omega)]; exact a8 h
  · rw [e 4 (by omega) (by omega), e 9 (by omega) (by omega), e 11 (by omega) (by omega), e 1 (by omega) (by omega)]; exact a9 h
  · rw [e 4 (by omega) (by omega), e 9 (by omega) (by omega), e 11 (by omega) (by omega), e 3 (by omega) (by omega), hR 11 _ (by omega) (by omega) hu, hR 9 _ (by omega) (by omega) hu]; exact a10 h
/-- a pattern's state is good -/
def pgd (st : PST) (pd : Nat → Nat) : Prop := wfd st.1 pd ∧ (∀ i, i < st.1 → pgi st.2.1 st.2.2.1 st.2.2.2.1 pd i) ∧ (∀ k, k < st.2.2.1 → ∃ i : Nat, i < st.1 ∧ st.2.2.2.1 14 k = (i : Int) ∧ st.2.2.2.1 8 i = (k : Int)) ∧ (∀ k k' : Nat, k < k' → k' < st.2.2.1 → st.2.2.2.1 14 k < st.2.2.2.1 14 k') ∧ (∀ x, x < 26 → st.2.2.2.1 13 x = -1 ∨ ∃ j : Nat, j < st.1 ∧ st.2.2.2.1 13 x = (j : Int) ∧ st.2.2.2.1 1 j ≠ 4)
theorem lbR_mono {f : Nat → Int} {L : Nat} : ∀ (n a l : Nat) (B : Nat → Int64) (r : Nat × (Nat → Int64) × Nat), lbR f L n a l B = .inr r → l ≤ r.1 := by
  intro n
  induction n with
  | zero => intro a l B r h; cases h
  | succ n ih =>
    intro a l B r h
    rw [lbR] at h
    split at h
    · cases h
    · split at h
      · have := ih _ _ _ _ h; omega
      · cases h; exact Nat.le_succ l
theorem bodR_g {f : Nat → Int} {L : Nat} {R : PRW} {z : Int} {a l : Nat} {B : Nat → Int64} {b : Int × Nat × (Nat → Int64) × Nat} (h : bodR f L R z a l B = .inr b) : l ≤ b.2.1 ∧ (z = 61 ∨ z = 126 → ∃ x : Nat, x < 26 ∧ b.1 = R 13 x ∧ R 13 x ≠ -1 ∧ pln R (R 13 x).toNat) := by
  unfold bodR at h
  split at h
  · cases h; exact ⟨Nat.le_refl _, fun w => by omega⟩
  · split at h
    · split at h
      · cases h
      · rename_i x hx
        cases h
        refine ⟨Nat.le_refl _, fun _ => ?_⟩
        unfold tolR at hx
        split at hx
        · cases hx
        · rename_i y hy
          split at hx
          · cases hx
          · rename_i hn
            cases hx
            obtain ⟨y1, y2⟩ := y
            have := nmA_ok hy
            exact ⟨y1, this.2.2.1, rfl, fun w => hn (Or.inl w), Decidable.not_not.mp (fun w => hn (Or.inr w))⟩
    · rename_i h2
      split at h
      · cases h
      · rename_i x hx
        cases h
        exact ⟨lbR_mono _ _ _ _ _ hx, fun w => absurd w h2⟩
theorem kndR_r (z : Int) : (0 ≤ kndR z ∧ kndR z ≤ 4) ∧ (kndR z = 4 ↔ z = 61) ∧ (kndR z = 3 ↔ z = 126) := by
  unfold kndR
  repeat' split
  all_goals omega
theorem nodP_gd {f : Nat → Int} {L p m k o : Nat} {st : PST} {pd : Nat → Nat} {here mk : Int} {r : PST × Nat} (hg : pgd st pd) (hw : wfo st.1 o pd) (hh : here = pa pd o st.1) (hmk : mk = 0 ∨ mk = 1 ∨ (mk = 2 ∧ pln st.2.2.2.1 here.toNat))
    (h0 : st.1 = 0 → mk = 0) (h1 : st.1 ≠ 0 → o ≠ 0 ∧ 1 ≤ m) (hm : m ≤ 19) (hk : k ≤ 9) (h : nodP f L st here mk m k p = .inr r) : pgd r.1 (fup pd st.1 o) := by
  obtain ⟨c, l, n, R, B⟩ := st
  obtain ⟨g1, g2, g3, g4, g5⟩ := hg
  simp only at g1 g2 g3 g4 g5 hw hh hmk h0 h1
  have hmk2 : 0 ≤ mk ∧ mk ≤ 2 := by rcases hmk with q | q | ⟨q, -⟩ <;> rw [q] <;> decide
  unfold nodP at h
  simp only at h
  split at h
  · cases h
  · rename_i hbg
    obtain ⟨hc8, hn4, -, -⟩ := begR_none hbg
    split at h
    · cases h
    · rename_i b hb
      split at h
      · cases h
      · rename_i w hwn
        cases h
        obtain ⟨hl, hbt⟩ := bodR_g hb
        have hnm := namR_nm hwn
        have hkn := kndR_r (tb f L p)
        unfold nodE
        simp only
        generalize hdn : denR R here mk = dn at *
        have hdn01 : dn = 0 ∨ dn = 1 := by rw [← hdn]; unfold denR; split <;> omega
        generalize hz : tb f L p = z at *
        generalize hnb : nbrR dn z = nb at *
        have hnb1 : (nb = 1 ∧ dn = 0 ∧ z ≠ 61) ∨ (nb = 0 ∧ ¬ (dn = 0 ∧ z ≠ 61)) := by rw [← hnb]; unfold nbrR; split <;> omega
        have hpa := pa_ge pd o c
        have hpe : pa (fup pd c o) (fup pd c o c) c = pa pd o c := by rw [fup_eq]; exact pa_congr (fun j hj => fup_ne (by omega))
        generalize hrow : rowR (kndR z) b.1 here mk (cop m k) (l : Nat) (b.2.1 : Nat) (if nb = 1 then (n : Nat) else -1) (hdR R here mk c) dn w.1 (k : Nat) (m : Nat) = row
        have e0 : ∀ q, q ≠ 13 → q ≠ 14 → entR R c n nb w.1 row q c = row q := fun q q1 q2 => entR_c q1 q2
        have r1 : row 1 = kndR z := by rw [← hrow]; rfl
        have r2 : row 2 = b.1 := by rw [← hrow]; rfl
        have r3 : row 3 = here := by rw [← hrow]; rfl
        have r4 : row 4 = mk := by rw [← hrow]; rfl
        have r5 : row 5 = cop m k := by rw [← hrow]; rfl
        have r6 : row 6 = (l : Nat) := by rw [← hrow]; rfl
        have r7 : row 7 = (b.2.1 : Nat) := by rw [← hrow]; rfl
        have r8 : row 8 = (if nb = 1 then (n : Int) else -1) := by rw [← hrow]; rfl
        have r9 : row 9 = hdR R here mk c := by rw [← hrow]; rfl
        have r11 : row 11 = dn := by rw [← hrow]; rfl
        have r16 : row 16 = (k : Nat) := by rw [← hrow]; rfl
        have r17 : row 17 = (m : Nat) := by rw [← hrow]; rfl
        have hh3 : 0 < c → 0 ≤ here := fun w => by
          obtain ⟨j, hj⟩ := pa_some hw (by have := h1 (by omega); omega)
          rw [hh, hj]; omega
        refine ⟨?_, fun i hi => ?_, fun k' hk' => ?_, fun k1 k2 hk1 hk2 => ?_, fun x hx => ?_⟩
        · rcases Nat.eq_zero_or_pos c with e | e
          · subst e
            have := hw.2.1 rfl
            subst this
            exact ⟨by show 1 ≤ 20; omega, fun _ => fup_eq, fun i hi => by have hi2 : i + 1 < 0 + 1 := hi; omega⟩
          · exact (wfo_push (o' := 0) hw (by omega) (fun q => (h1 (by omega)).1 q.2) (by omega)).1
        · have hi2 : i < c + 1 := hi
          show pgi b.2.1 (n + nb) (entR R c n nb w.1 row) (fup pd c o) i
          by_cases e : i = c
          · subst e
            have hoth : (kndR z = 3 ∨ kndR z = 4) → ∃ j : Nat, b.1 = (j : Int) ∧ j < i ∧ R 11 j = 0 ∧ R 9 j = -1 ∧ R 1 j ≠ 4 := fun q => by
              obtain ⟨x, x1, x2, x3, x4⟩ := hbt (by omega)
              rcases g5 x x1 with q | ⟨j, j1, j2, j3⟩
              · exact absurd q x3
              · rw [j2, Int.toNat_natCast] at x4
                exact ⟨j, by rw [x2, j2], j1, x4.1, x4.2, j3⟩
            refine ⟨?_, ?_, ?_, ⟨m, k, ?_, ?_, hm, hk, fun q => (h1 (by omega)).2, ?_⟩, fun q => ?_, ⟨l, b.2.1, ?_, ?_, hl, Nat.le_refl _⟩, fun q => ?_, fun q => ?_, fun q => ?_, fun q => ?_⟩
            · rw [e0 3 (by omega) (by omega), r3, hpe]; exact hh
            · rw [e0 1 (by omega) (by omega), r1]; exact hkn.1
            · rw [e0 4 (by omega) (by omega), r4]; exact hmk2
            · rw [e0 17 (by omega) (by omega), r17]
            · rw [e0 16 (by omega) (by omega), r16]
            · rw [e0 5 (by omega) (by omega), r5]
            · rw [e0 1 (by omega) (by omega), r1] at q
              obtain ⟨j, j1, j2, j3, j4, j5⟩ := hoth q
              refine ⟨j, ?_, j2, ?_, ?_, ?_⟩
              · rw [e0 2 (by omega) (by omega), r2]; exact j1
              · rw [entR_oo (by omega) (by omega) (by omega)]; exact j3
              · rw [entR_oo (by omega) (by omega) (by omega)]; exact j4
              · rw [entR_oo (by omega) (by omega) (by omega)]; exact j5
            · rw [e0 6 (by omega) (by omega), r6]
            · rw [e0 7 (by omega) (by omega), r7]
            · rw [e0 11 (by omega) (by omega), e0 1 (by omega) (by omega), r1, r11] at q
              have hnb2 : nb = 1 := by clear hoth hbt g3 g5; omega
              refine ⟨n, ?_, by omega, ?_⟩
              · rw [e0 8 (by omega) (by omega), r8, if_pos hnb2]
              · rw [entR_14, if_pos ⟨hnb2, rfl⟩]
            · rw [e0 11 (by omega) (by omega), e0 1 (by omega) (by omega), r1, r11] at q
              rw [e0 8 (by omega) (by omega), r8, if_neg (by clear hoth hbt g3 g5; omega)]
            · rw [e0 4 (by omega) (by omega), e0 9 (by omega) (by omega), e0 11 (by omega) (by omega), e0 1 (by omega) (by omega), r1, r4, r9, r11]
              have hm0 := h0 q
              have hm1 : here = -1 := by subst q; rw [hh]; rfl
              refine ⟨hm0, ?_, ?_, fun w => ?_⟩
              · unfold hdR; rw [if_neg (by omega), if_neg (by omega)]
              · rw [← hdn]; unfold denR; rw [if_neg (by omega)]
              · obtain ⟨j, -, j2, -⟩ := hoth (Or.inr w)
                omega
            · have hhp := hh3 q
              have hti : here.toNat ≠ i := by omega
              rw [e0 4 (by omega) (by omega), e0 9 (by omega) (by omega), e0 11 (by omega) (by omega), e0 3 (by omega) (by omega), r3, r4, r9, r11, entR_oo (by omega) (by omega) hti, entR_oo (by omega) (by omega) hti]
              refine ⟨?_, ?_, fun w => ?_⟩
              · rw [← hdn]; unfold denR
                by_cases c1 : mk = 1 ∨ R 11 here.toNat ≠ 0
                · rw [if_pos c1, if_pos (by omega)]
                · rw [if_neg c1, if_neg (by omega)]
              · unfold hdR
                by_cases c1 : R 9 here.toNat = -1
                · rw [if_neg (show ¬ (here ≠ -1 ∧ R 9 here.toNat ≠ -1) from fun w => w.2 c1), if_neg (show ¬ R 9 here.toNat ≠ -1 from fun w => w c1)]
                · rw [if_pos ⟨by omega, c1⟩, if_pos c1]
              · rcases hmk with q2 | q2 | ⟨-, q2⟩
                · omega
                · omega
                · exact ⟨q2.2, q2.1⟩
          · refine pgi_congr (g2 i (by omega)) hl (by omega) (fun q j q1 q2 hj => entR_oo q1 q2 (by omega)) (fun k' hk' => ?_) (fun j hj => fup_ne (by omega))
            rw [entR_14, if_neg (by omega)]
        · have hk2 : k' < n + nb := hk'
          show ∃ i : Nat, i < c + 1 ∧ entR R c n nb w.1 row 14 k' = (i : Int) ∧ entR R c n nb w.1 row 8 i = (k' : Int)
          by_cases e : nb = 1 ∧ k' = n
          · refine ⟨c, by omega, ?_, ?_⟩
            · rw [entR_14, if_pos e]
            · rw [e0 8 (by omega) (by omega), r8, if_pos e.1, e.2]
          · obtain ⟨i, i1, i2, i3⟩ := g3 k' (by omega)
            refine ⟨i, by omega, ?_, ?_⟩
            · rw [entR_14, if_neg e]; exact i2
            · rw [entR_oo (by omega) (by omega) (by omega)]; exact i3
        · have hk3 : k2 < n + nb := hk2
          show entR R c n nb w.1 row 14 k1 < entR R c n nb w.1 row 14 k2
          rw [entR_14, entR_14, if_neg (show ¬ (nb = 1 ∧ k1 = n) by omega)]
          by_cases e : nb = 1 ∧ k2 = n
          · rw [if_pos e]
            obtain ⟨i, i1, i2, i3⟩ := g3 k1 (by omega)
            rw [i2]; omega
          · rw [if_neg e]; exact g4 k1 k2 hk1 (by omega)
        · show entR R c n nb w.1 row 13 x = -1 ∨ ∃ j : Nat, j < c + 1 ∧ entR R c n nb w.1 row 13 x = (j : Int) ∧ entR R c n nb w.1 row 1 j ≠ 4
          rw [entR_13]
          by_cases e : w.1 = (x : Int) + 97
          · right
            rw [if_pos e]
            refine ⟨c, by omega, rfl, ?_⟩
            rw [e0 1 (by omega) (by omega), r1]
            intro q
            have hz61 := hkn.2.1.mp q
            unfold namR at hwn
            rw [if_pos hz61] at hwn
            cases hwn
            omega
          · rw [if_neg e]
            rcases g5 x hx with q | ⟨j, j1, j2, j3⟩
            · exact Or.inl q
            · right
              exact ⟨j, by omega, j2, by rw [entR_oo (by omega) (by omega) (by omega)]; exact j3⟩
theorem mkR_mk {f : Nat → Int} {L : Nat} {R : PRW} {here p : Nat} {g : Int × Nat} (h : mkR f L R here p = .inr g) : g.1 = 0 ∨ g.1 = 1 ∨ (g.1 = 2 ∧ pln R here) := by
  unfold mkR at h
  split at h
  · cases h; exact Or.inr (Or.inl rfl)
  · split at h
    · split at h
      · rename_i q; cases h; exact Or.inr (Or.inr ⟨rfl, q⟩)
      · cases h
    · cases h; exact Or.inl rfl
theorem ptR_gd {f : Nat → Int} {L : Nat} : ∀ (k : Nat) (st st' : PST) (pd : Nat → Nat) (here d a : Nat), pgd st pd → pw st → 1 ≤ st.1 → wfo st.1 (d + 1) pd → pa pd (d + 1) st.1 = (here : Int) → ptR f L k st here d a = .inr st' → ∃ pd', pgd st' pd' ∧ 1 ≤ st'.1 := by
  intro k
  induction k with
  | zero => intro st st' pd here d a _ _ _ _ _ h; cases h
  | succ k ih =>
    intro st st' pd here d a hg hw h1 hwf hpa h
    rw [ptR] at h
    split at h
    · cases h; exact ⟨pd, hg, h1⟩
    · split at h
      · rename_i hcl
        obtain ⟨g1, g2, g3⟩ := pa_spec hpa
        have hdp := pa_depth hwf hpa
        have hup := pa_up hwf hpa
        have h3 := (hg.2.1 here g1).1
        refine ih st st' pd _ (d - 1) _ hg hw h1 (by rw [show d - 1 + 1 = d + 1 - 1 by omega]; exact wfo_pop hwf) ?_ h
        rw [h3, hup, show d - 1 + 1 = d + 1 - 1 by omega]
        obtain ⟨j, hj⟩ := pa_some (wfo_pop hwf) (by omega)
        rw [hj, Int.toNat_natCast]
      · split at h
        · cases h
        · rename_i g hgm
          split at h
          · cases h
          · rename_i o ho
            split at h
            · cases h
            · rename_i r hr
              have hop := opS_ok ho
              obtain ⟨g1, g2, g3⟩ := pa_spec hpa
              have hgd := nodP_gd (o := d + 1) hg hwf hpa.symm (by rw [Int.toNat_natCast]; exact mkR_mk hgm) (fun q => by omega) (fun q => ⟨by omega, hop.2.2.1⟩) hop.2.2.2.1 hop.2.2.2.2 hr
              obtain ⟨v1, v2, v3, v4, v5⟩ := nodP_pw hw (Or.inr ⟨here, g1, rfl⟩) hr
              have hwf2 : ∀ o', o' ≤ d + 1 + 1 → wfo r.1.1 o' (fup pd st.1 (d + 1)) := fun o' ho' => by
                rw [v2]; exact wfo_push hwf (by omega) (by omega) ho'
              refine ih r.1 st' _ _ _ _ hgd v1 (by omega) (hwf2 _ (by split <;> omega)) ?_ h
              rw [v2, pa, fup_eq]
              by_cases hb : tb f L (sk f L o.2.2) = 40
              · rw [if_pos hb, if_pos hb, if_pos (by omega)]
              · rw [if_neg hb, if_neg hb, if_neg (by omega), ← hpa]
                exact pa_congr (fun j hj => fup_ne (by omega))
theorem pread_gd {f : Nat → Int} {L : Nat} {st : PST} (h : pread f L = .inr st) : ∃ pd, pgd st pd := by
  unfold pread at h
  split at h
  · cases h
  · rename_i r hr
    have hg0 : pgd (0, 0, 0, fun k _ => if k = 13 then -1 else 0, fun _ => 0) (fun _ => 0) := ⟨⟨by decide, fun w => absurd w (by decide), fun i hi => absurd hi (Nat.not_lt_zero _)⟩, fun i hi => absurd hi (Nat.not_lt_zero _), fun i hi => absurd hi (Nat.not_lt_zero _), fun i j _ hj => absurd hj (Nat.not_lt_zero _), fun x _ => Or.inl rfl⟩
    have hw0 : pw (0, 0, 0, fun k _ => if k = 13 then -1 else 0, fun _ => 0) := ⟨by decide, by decide, fun x hx => ⟨by show (-1 : Int) ≤ -1; omega, by show (-1 : Int) < 0; omega⟩, fun i hi => absurd hi (Nat.not_lt_zero _)⟩
    have hwf0 : wfo (0 : Nat) 0 (fun _ => 0) := ⟨⟨by decide, fun w => absurd w (by decide), fun i hi => absurd hi (Nat.not_lt_zero _)⟩, fun _ => rfl, fun q => absurd q (by decide)⟩
    have hgd := nodP_gd (o := 0) hg0 hwf0 rfl (Or.inl rfl) (fun _ => rfl) (fun q => absurd rfl q) (by decide) (by decide) hr
    obtain ⟨v1, v2, v3, v4, v5⟩ := nodP_pw hw0 (Or.inl rfl) hr
    have v6 : r.1.1 = 1 := v2
    obtain ⟨pd', h1, h2⟩ := ptR_gd (L + 1) r.1 st _ 0 0 r.2 hgd v1 (by omega) ⟨hgd.1, fun q => by omega, fun q => by omega⟩ (by rw [v6]; rfl) h
    exact ⟨pd', h1⟩
