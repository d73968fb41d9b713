/-! what the search finds is what a match is: one way -/
theorem up_b {st : PST} {pd : Nat → Nat} (hg : pgd st pd) {p : Nat} (hp : p < st.1) (h0 : p ≠ 0) : st.2.2.2.1 11 p = (if st.2.2.2.1 4 p = 1 ∨ st.2.2.2.1 11 (fr3 st p) ≠ 0 then 1 else 0) ∧ st.2.2.2.1 9 p = (if st.2.2.2.1 9 (fr3 st p) ≠ -1 then st.2.2.2.1 9 (fr3 st p) else if st.2.2.2.1 4 p = 2 then (p : Int) else -1) ∧ (st.2.2.2.1 4 p = 2 → st.2.2.2.1 9 (fr3 st p) = -1 ∧ st.2.2.2.1 11 (fr3 st p) = 0) := (hg.2.1 p hp).2.2.2.2.2.2.2.2.2 (by omega)
theorem par11 {st : PST} {pd : Nat → Nat} (hg : pgd st pd) {p : Nat} (hp : p < st.1) (h0 : p ≠ 0) : st.2.2.2.1 11 p = 0 ↔ (st.2.2.2.1 4 p ≠ 1 ∧ st.2.2.2.1 11 (fr3 st p) = 0) := by
  have b := (up_b hg hp h0).1
  rw [b]
  by_cases c : st.2.2.2.1 4 p = 1 ∨ st.2.2.2.1 11 (fr3 st p) ≠ 0
  · rw [if_pos c]
    exact ⟨fun x => absurd x (by decide), fun x => by rcases c with c | c; exact absurd c x.1; exact absurd x.2 c⟩
  · rw [if_neg c]
    exact ⟨fun _ => ⟨fun x => c (Or.inl x), Classical.byContradiction (fun x => c (Or.inr x))⟩, fun _ => rfl⟩
theorem par9 {st : PST} {pd : Nat → Nat} (hg : pgd st pd) {p : Nat} (hp : p < st.1) (h0 : p ≠ 0) (h : st.2.2.2.1 9 p ≠ (p : Int)) : st.2.2.2.1 9 p = st.2.2.2.1 9 (fr3 st p) := by
  have b := (up_b hg hp h0).2.1
  by_cases c : st.2.2.2.1 9 (fr3 st p) ≠ -1
  · rw [if_pos c] at b; exact b
  · rw [if_neg c] at b
    by_cases c2 : st.2.2.2.1 4 p = 2
    · rw [if_pos c2] at b; exact absurd b h
    · rw [if_neg c2] at b
      rw [b]; exact (Classical.byContradiction c).symm
theorem head9 {st : PST} {pd : Nat → Nat} (hg : pgd st pd) (hw8 : pw st) {p : Nat} (hp : p < st.1) (h : st.2.2.2.1 9 p = (p : Int)) : p ≠ 0 ∧ st.2.2.2.1 4 p = 2 ∧ pln st.2.2.2.1 (fr3 st p) ∧ st.2.2.2.1 11 p = 0 := by
  have h0 : p ≠ 0 := fun e => by
    have := ((hg.2.1 p hp).2.2.2.2.2.2.2.2.1 e).2.1
    omega
  have h4 := (head_iff hg hp (by omega) hw8).mp h
  obtain ⟨b1, b2, b3⟩ := up_b hg hp h0
  obtain ⟨c1, c2⟩ := b3 h4
  exact ⟨h0, h4, ⟨c2, c1⟩, (par11 hg hp h0).mpr ⟨by omega, c2⟩⟩
theorem grp {st : PST} {pd : Nat → Nat} (hg : pgd st pd) (hw8 : pw st) (hu : pup st) : ∀ q, q < st.1 → st.2.2.2.1 9 q ≠ -1 → ∃ h : Nat, st.2.2.2.1 9 q = (h : Int) ∧ h ≤ q ∧ st.2.2.2.1 9 h = (h : Int) := by
  intro q
  induction q using Nat.strongRecOn with
  | _ q ih =>
    intro hq h9
    by_cases e : st.2.2.2.1 9 q = (q : Int)
    · exact ⟨q, e, Nat.le_refl q, e⟩
    · have h0 : q ≠ 0 := fun e0 => h9 ((hg.2.1 q hq).2.2.2.2.2.2.2.2.1 e0).2.1
      have e9 := par9 hg hq h0 e
      have hlt := up_lt hw8 hu hq h0
      obtain ⟨h, h1, h2, h3⟩ := ih (fr3 st q) hlt (Nat.lt_trans hlt hq) (by rw [← e9]; exact h9)
      exact ⟨h, e9.trans h1, by omega, h3⟩
theorem Dq_act {T : TRE} {st : PST} {v t : Nat → Int} {q : Nat} (h : Dq T st v t q) (ht : t q ≠ -1) : st.2.2.2.1 11 q = 0 ∧ (q ≠ 0 → t (fr3 st q) ≠ -1) ∧ (∃ a : Nat, a < T.1 ∧ t q = (a : Int) ∧ own T st v q a ∧ (q ≠ 0 → rlp T st.2.2.2.1 q (t (fr3 st q)).toNat a) ∧ (st.2.2.2.1 8 q ≠ -1 → vp v st.2.2.2.1 q = (a : Int))) ∧ (st.2.2.2.1 9 q = (q : Int) → smo T st v q (t (fr3 st q)).toNat) := by
  unfold Dq at h
  by_cases c1 : q ≠ 0 ∧ t (fr3 st q) = -1
  · rw [if_pos c1] at h; exact absurd h.1 ht
  · rw [if_neg c1] at h
    by_cases c2 : st.2.2.2.1 11 q ≠ 0
    · rw [if_pos c2] at h; exact absurd h.1 ht
    · rw [if_neg c2, if_neg (fun x => ht x.2)] at h
      exact ⟨Classical.byContradiction c2, fun h0 x => c1 ⟨h0, x⟩, h⟩
theorem FL_parts {T : TRE} {st : PST} {pd : Nat → Nat} (hg : pgd st pd) (hw8 : pw st) (hu : pup st) {v t : Nat → Int} (hD : ∀ q, q < st.1 → Dq T st v t q) :
    (∀ q, q < st.1 → st.2.2.2.1 8 q ≠ -1 → t q = vp v st.2.2.2.1 q) ∧ (∀ q, q < st.1 → t q ≠ -1 → vlp v st.2.2.2.1 q = t q) ∧ (∀ q, q < st.1 → pln st.2.2.2.1 q → t q ≠ -1) ∧ (∀ q h : Nat, q < st.1 → st.2.2.2.1 11 q = 0 → st.2.2.2.1 9 q = (h : Int) → (t q = -1 ↔ t h = -1)) := by
  refine ⟨fun q hq h8 => ?_, fun q hq ht => ?_, ?_, ?_⟩
  · by_cases ht : t q = -1
    · have h := hD q hq
      unfold Dq at h
      by_cases c1 : q ≠ 0 ∧ t (fr3 st q) = -1
      · rw [if_pos c1] at h; rw [ht, h.2 h8]
      · rw [if_neg c1] at h
        by_cases c2 : st.2.2.2.1 11 q ≠ 0
        · exact absurd ((hg.2.1 q hq).2.2.2.2.2.2.2.1 (fun x => c2 x.1)) h8
        · rw [if_neg c2] at h
          by_cases c3 : st.2.2.2.1 9 q = (q : Int) ∧ t q = -1
          · rw [if_pos c3] at h; rw [ht, h.1 h8]
          · rw [if_neg c3] at h
            obtain ⟨⟨a, a1, a2, -⟩, -⟩ := h
            rw [ht] at a2; omega
    · obtain ⟨-, -, ⟨a, a1, a2, a3, a4, a5⟩, -⟩ := Dq_act (hD q hq) ht
      rw [a2, a5 h8]
  · obtain ⟨h11, -, ⟨a, a1, a2, a3, a4, a5⟩, -⟩ := Dq_act (hD q hq) ht
    rw [a2]
    unfold vlp mt
    by_cases c4 : st.2.2.2.1 1 q = 4
    · rw [if_pos c4]
      unfold own at a3
      rw [if_neg (by omega), if_pos c4] at a3
      exact a3.symm
    · rw [if_neg c4]
      refine a5 ?_
      obtain ⟨k', k1', -⟩ := (hg.2.1 q hq).2.2.2.2.2.2.1 ⟨h11, c4⟩
      omega
  · intro q
    induction q using Nat.strongRecOn with
    | _ q ih =>
      intro hq hp ht
      have h := hD q hq
      unfold Dq at h
      have hc : ¬ (q ≠ 0 ∧ t (fr3 st q) = -1) := fun x => by
        obtain ⟨f1, f2, f3⟩ := fr_pln hg hw8 hu hq x.1 hp
        exact ih (fr3 st q) f2 (Nat.lt_trans f2 hq) f3 x.2
      rw [if_neg hc, if_neg (fun x => x hp.1), if_neg (fun x => by have := hp.2; omega)] at h
      obtain ⟨⟨a, a1, a2, -⟩, -⟩ := h
      omega
  · intro q
    induction q using Nat.strongRecOn with
    | _ q ih =>
      intro h hq h11 h9
      by_cases e : q = h
      · rw [e]
      · have h0 : q ≠ 0 := fun e0 => by
          have := ((hg.2.1 q hq).2.2.2.2.2.2.2.2.1 e0).2.1
          omega
        have hlt := up_lt hw8 hu hq h0
        have e9 := par9 hg hq h0 (fun x => e (by omega))
        have e11 := ((par11 hg hq h0).mp h11).2
        have hf := ih (fr3 st q) hlt h (Nat.lt_trans hlt hq) e11 (by rw [← e9]; exact h9)
        have hd := hD q hq
        rw [← hf]
        constructor
        · intro hq1
          refine Classical.byContradiction (fun hne => ?_)
          unfold Dq at hd
          rw [if_neg (fun x => hne x.2), if_neg (fun x => x h11), if_neg (fun x => by have := x.1; omega)] at hd
          obtain ⟨⟨a, a1, a2, -⟩, -⟩ := hd
          omega
        · intro hf1
          exact ((Dq_skip h0 hf1).mp hd).1
theorem FL_gvn {T : TRE} {st : PST} {pd : Nat → Nat} (hg : pgd st pd) (hw8 : pw st) (hu : pup st) {v t : Nat → Int} (hD : ∀ q, q < st.1 → Dq T st v t q) {h : Nat} : gvn st v (h : Int) ↔ (hnm st (h : Int) ∧ t h ≠ -1) := by
  obtain ⟨A, B, C, E⟩ := FL_parts hg hw8 hu hD
  have h11 : ∀ p, p < st.1 → st.2.2.2.1 8 p ≠ -1 → st.2.2.2.1 11 p = 0 := fun p hp h8 => Classical.byContradiction (fun x => h8 ((hg.2.1 p hp).2.2.2.2.2.2.2.1 (fun y => x y.1)))
  constructor
  · rintro ⟨p, p1, p2, p3, p4⟩
    refine ⟨⟨p, p1, p2, p3⟩, fun x => p4 ?_⟩
    rw [← A p p1 p3]
    exact (E p h p1 (h11 p p1 p3) p2).mpr x
  · rintro ⟨⟨p, p1, p2, p3⟩, x⟩
    refine ⟨p, p1, p2, p3, fun y => x ?_⟩
    rw [← A p p1 p3] at y
    exact (E p h p1 (h11 p p1 p3) p2).mp y
theorem FL_FM {T : TRE} {st : PST} {pd : Nat → Nat} (hg : pgd st pd) (hw8 : pw st) (hu : pup st) {v : Nat → Int} (h : FL T st v) : FM T st v := by
  obtain ⟨t, hz, hD⟩ := h
  obtain ⟨A, B, C, E⟩ := FL_parts hg hw8 hu hD
  have hk : ∀ k, k < st.2.2.1 → t (np st k) = v k := fun k hk => by
    obtain ⟨e1, e2⟩ := vp_np (v := v) hg hk
    rw [A _ (np_ok hg hk).1 e2, e1]
  have hnn : ∀ q, q < st.1 → t q = -1 ∨ ∃ a : Nat, a < T.1 ∧ t q = (a : Int) := fun q hq => by
    by_cases ht : t q = -1
    · exact Or.inl ht
    · obtain ⟨-, -, ⟨a, a1, a2, -⟩, -⟩ := Dq_act (hD q hq) ht
      exact Or.inr ⟨a, a1, a2⟩
  refine ⟨fun k hkN => ⟨?_, fun h9 => ?_, fun e he q1 q2 => ?_, fun hne => ?_⟩, fun p p0 hp => ?_⟩
  · rw [← hk k hkN]
    rcases hnn _ (np_ok hg hkN).1 with x | ⟨a, a1, a2⟩ <;> omega
  · have := C _ (np_ok hg hkN).1 ⟨(np_ok hg hkN).2.2.2.1, h9⟩
    rw [← hk k hkN]
    rcases hnn _ (np_ok hg hkN).1 with x | ⟨a, a1, a2⟩ <;> omega
  · have heN : e < st.2.2.1 := by omega
    obtain ⟨b, b1, b2, b3⟩ := grp hg hw8 hu _ (np_ok hg hkN).1 q1
    rw [← hk k hkN, ← hk e heN, E _ b (np_ok hg hkN).1 (np_ok hg hkN).2.2.2.1 b1, E _ b (np_ok hg heN).1 (np_ok hg heN).2.2.2.1 (q2.trans b1)]
  · rw [← hk k hkN] at hne ⊢
    obtain ⟨h11, hf, ⟨a, a1, a2, a3, a4, a5⟩, -⟩ := Dq_act (hD _ (np_ok hg hkN).1) hne
    rw [a2, Int.toNat_natCast]
    refine ⟨a3, fun h0 => ?_⟩
    have hlt := up_lt hw8 hu (np_ok hg hkN).1 h0
    unfold ndu
    rw [B _ (Nat.lt_trans hlt (np_ok hg hkN).1) (hf h0)]
    exact a4 h0
  · intro h11 h9
    have h0 : p ≠ 0 := by omega
    have hlt := up_lt hw8 hu hp h0
    have hfc := Nat.lt_trans hlt hp
    have htf : t (fr3 st p) ≠ -1 := by
      by_cases c9 : st.2.2.2.1 9 (fr3 st p) = -1
      · exact C _ hfc ⟨h11, c9⟩
      · obtain ⟨b, b1, b2, b3⟩ := grp hg hw8 hu _ hfc c9
        have hgv := h9 c9
        rw [b1] at hgv
        exact fun x => ((FL_gvn hg hw8 hu hD).mp hgv).2 ((E _ b hfc h11 b1).mp x)
    have end' : ndu st v p = (t (fr3 st p)).toNat := by unfold ndu; rw [B _ hfc htf]
    rw [end']
    have hd := hD p hp
    refine ⟨fun c4 => ?_, fun c4 hn hgv => ?_, fun c4 hc => ?_⟩
    · refine ((Dq_den htf (fun x => ?_)).mp hd).2
      exact ((par11 hg hp h0).mp x).1 c4
    · have hhd := (head_iff hg hp (by omega) hw8).mpr c4
      have htp : t p = -1 := Classical.byContradiction (fun x => hgv ((FL_gvn hg hw8 hu hD).mpr ⟨hn, x⟩))
      have h11p : st.2.2.2.1 11 p = 0 := (par11 hg hp h0).mpr ⟨by omega, h11⟩
      unfold Dq at hd
      rw [if_neg (fun x => htf x.2), if_neg (fun x => x h11p), if_pos ⟨hhd, htp⟩] at hd
      exact hd.2
    · have h11p : st.2.2.2.1 11 p = 0 := (par11 hg hp h0).mpr ⟨c4, h11⟩
      have htp : t p ≠ -1 := by
        by_cases c2 : st.2.2.2.1 4 p = 2
        · exact ((FL_gvn hg hw8 hu hD).mp (hc c2).2).2
        · intro x
          have hnh : st.2.2.2.1 9 p ≠ (p : Int) := fun y => c2 ((head_iff hg hp (by omega) hw8).mp y)
          unfold Dq at hd
          rw [if_neg (fun x => htf x.2), if_neg (fun x => x h11p), if_neg (fun x => hnh x.1)] at hd
          obtain ⟨⟨a, a1, a2, -⟩, -⟩ := hd
          omega
      obtain ⟨-, -, ⟨a, a1, a2, a3, a4, a5⟩, -⟩ := Dq_act hd htp
      rw [B p hp htp, a2, Int.toNat_natCast]
      exact a4 h0
