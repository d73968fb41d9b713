/-! what the search finds is what a match is: the other way -/
def actH (T : TRE) (st : PST) (v : Nat → Int) (h : Int) : Prop := (hnm st h ∧ gvn st v h) ∨ (¬ hnm st h ∧ smo T st v h.toNat (ndu st v h.toNat))
def actQ (T : TRE) (st : PST) (v : Nat → Int) (q : Nat) : Prop := st.2.2.2.1 11 q = 0 ∧ (st.2.2.2.1 9 q = -1 ∨ (st.2.2.2.1 9 q ≠ -1 ∧ actH T st v (st.2.2.2.1 9 q)))
noncomputable def tq (T : TRE) (st : PST) (v : Nat → Int) (q : Nat) : Int := @ite Int (actQ T st v q) (Classical.propDecidable _) (vlp v st.2.2.2.1 q) (-1)
theorem tq_t {T : TRE} {st : PST} {v : Nat → Int} {q : Nat} (h : actQ T st v q) : tq T st v q = vlp v st.2.2.2.1 q := if_pos h
theorem tq_f {T : TRE} {st : PST} {v : Nat → Int} {q : Nat} (h : ¬ actQ T st v q) : tq T st v q = -1 := if_neg h
theorem num_11 {st : PST} {pd : Nat → Nat} (hg : pgd st pd) {q : Nat} (hq : q < st.1) (h8 : st.2.2.2.1 8 q ≠ -1) : st.2.2.2.1 11 q = 0 ∧ st.2.2.2.1 1 q ≠ 4 := Classical.byContradiction (fun x => h8 ((hg.2.1 q hq).2.2.2.2.2.2.2.1 x))
theorem vlp_4 {st : PST} {v : Nat → Int} {q : Nat} (h : st.2.2.2.1 1 q = 4) : vlp v st.2.2.2.1 q = vp v st.2.2.2.1 (st.2.2.2.1 2 q).toNat := by unfold vlp mt; rw [if_pos h]
theorem vlp_n4 {st : PST} {v : Nat → Int} {q : Nat} (h : st.2.2.2.1 1 q ≠ 4) : vlp v st.2.2.2.1 q = vp v st.2.2.2.1 q := by unfold vlp mt; rw [if_neg h]
theorem own_vl {T : TRE} {st : PST} {pd : Nat → Nat} {v : Nat → Int} {q a : Nat} (hg : pgd st pd) (hp : pre T st v st.2.2.1) (hq : q < st.1) (h11 : st.2.2.2.1 11 q = 0) (hv : vlp v st.2.2.2.1 q = (a : Int)) : own T st v q a := by
  by_cases c4 : st.2.2.2.1 1 q = 4
  · unfold own
    rw [if_neg (by omega), if_pos c4, ← vlp_4 c4, hv]
  · have h8 : st.2.2.2.1 8 q ≠ -1 := by
      obtain ⟨k', k1', -⟩ := (hg.2.1 q hq).2.2.2.2.2.2.1 ⟨h11, c4⟩
      omega
    obtain ⟨k, k1, k2, k3⟩ := np_num hg hq h8
    have e : v k = (a : Int) := by
      rw [← hv, vlp_n4 c4]
      unfold vp
      rw [k2, Int.toNat_natCast]
    have := ((hp k k1).2.2.2 (by omega)).1
    rw [e, Int.toNat_natCast, k3] at this
    exact this
theorem live_1 {T : TRE} {st : PST} {pd : Nat → Nat} {v : Nat → Int} (hg : pgd st pd) (hw8 : pw st) (hu : pup st) (h : FM T st v) {q : Nat} (hq : q < st.1) (h11 : st.2.2.2.1 11 q = 0) (hl : st.2.2.2.1 9 q = -1 ∨ gvn st v (st.2.2.2.1 9 q)) : ∃ a : Nat, a < T.1 ∧ vlp v st.2.2.2.1 q = (a : Int) ∧ own T st v q a ∧ (q ≠ 0 → rlp T st.2.2.2.1 q (ndu st v q) a) := by
  obtain ⟨a, a1, a2⟩ := pre_vld hg hw8 h.1 q hq h11 hl
  refine ⟨a, a1, a2, own_vl hg h.1 hq h11 a2, fun h0 => ?_⟩
  obtain ⟨p1, p2⟩ := (par11 hg hq h0).mp h11
  have h3 := (h.2 q (by omega) hq p2 (fun c => ?_)).2.2 p1 (fun c4 => ?_)
  · rw [a2, Int.toNat_natCast] at h3; exact h3
  · have b := (up_b hg hq h0).2.1
    rw [if_pos c] at b
    rw [b] at hl
    rcases hl with x | x
    · exact absurd x c
    · exact x
  · have h9 := (head_iff hg hq (by omega) hw8).mpr c4
    have hgv : gvn st v (q : Int) := by
      rcases hl with x | x
      · omega
      · rw [h9] at x; exact x
    obtain ⟨o, o1, o2, o3, -⟩ := id hgv
    exact ⟨⟨o, o1, o2, o3⟩, hgv⟩
theorem live_2 {T : TRE} {st : PST} {pd : Nat → Nat} {v : Nat → Int} (hg : pgd st pd) (hw8 : pw st) (hu : pup st) (h : FM T st v) {b : Nat} (hgv : gvn st v (b : Int)) : ∀ (d q a : Nat), st.1 - q ≤ d → q < st.1 → st.2.2.2.1 11 q = 0 → st.2.2.2.1 9 q = (b : Int) → vlp v st.2.2.2.1 q = (a : Int) → sat T st v q a := by
  intro d
  induction d with
  | zero => intro q a hd hq; omega
  | succ d ih =>
    intro q a hd hq h11 h9 hv
    refine (sat_iff hq).mpr ⟨own_vl hg h.1 hq h11 hv, fun r r1 r2 r3 => ?_⟩
    have h0 : r ≠ 0 := by omega
    have hf : fr3 st r = q := by show (st.2.2.2.1 3 r).toNat = q; rw [r3, Int.toNat_natCast]
    have hnd : ndu st v r = a := by unfold ndu; rw [hf, hv, Int.toNat_natCast]
    by_cases c4 : st.2.2.2.1 4 r = 1
    · have h1 := (h.2 r (by omega) r2 (by rw [hf]; exact h11) (fun _ => by rw [hf, h9]; exact hgv)).1 c4
      rw [hnd] at h1
      exact ⟨fun x => absurd x h1, fun x => absurd c4 x⟩
    · have e11 : st.2.2.2.1 11 r = 0 := (par11 hg r2 h0).mpr ⟨c4, by rw [hf]; exact h11⟩
      have e9 : st.2.2.2.1 9 r = (b : Int) := by
        have bb := (up_b hg r2 h0).2.1
        rw [hf, if_pos (by omega), h9] at bb
        exact bb
      obtain ⟨a', a1, a2, a3, a4⟩ := live_1 hg hw8 hu h r2 e11 (Or.inr (by rw [e9]; exact hgv))
      have := a4 h0
      rw [hnd] at this
      exact ⟨fun _ => c4, fun _ => ⟨a', a1, this, ih r a' (by omega) r2 e11 e9 a2⟩⟩
theorem live_3 {T : TRE} {st : PST} {pd : Nat → Nat} {v : Nat → Int} (hg : pgd st pd) (hw8 : pw st) (hu : pup st) {b : Nat} (hn : ¬ hnm st (b : Int)) (hs : smo T st v b (ndu st v b)) : ∀ q, q < st.1 → st.2.2.2.1 11 q = 0 → st.2.2.2.1 9 q = (b : Int) → ∃ a : Nat, a < T.1 ∧ vlp v st.2.2.2.1 q = (a : Int) ∧ own T st v q a ∧ rlp T st.2.2.2.1 q (ndu st v q) a ∧ sat T st v q a := by
  have fin : ∀ q, q < st.1 → st.2.2.2.1 11 q = 0 → st.2.2.2.1 9 q = (b : Int) → smo T st v q (ndu st v q) → ∃ a : Nat, a < T.1 ∧ vlp v st.2.2.2.1 q = (a : Int) ∧ own T st v q a ∧ rlp T st.2.2.2.1 q (ndu st v q) a ∧ sat T st v q a := fun q hq h11 h9 hs => by
    obtain ⟨a, a1, a2, a3⟩ := hs
    have ho := ((sat_iff hq).mp a3).1
    refine ⟨a, a1, ?_, ho, a2, a3⟩
    have c4 : st.2.2.2.1 1 q = 4 := Classical.byContradiction (fun x => by
      obtain ⟨k', k1', -⟩ := (hg.2.1 q hq).2.2.2.2.2.2.1 ⟨h11, x⟩
      exact hn ⟨q, hq, h9, by omega⟩)
    unfold own at ho
    rw [if_neg (by omega), if_pos c4] at ho
    rw [vlp_4 c4]; exact ho.symm
  intro q
  induction q using Nat.strongRecOn with
  | _ q ih =>
    intro hq h11 h9
    by_cases e : q = b
    · rw [← e] at hs
      exact fin q hq h11 h9 hs
    · have h0 : q ≠ 0 := fun e0 => by
        have := ((hg.2.1 q hq).2.2.2.2.2.2.2.2.1 e0).2.1
        omega
      have hlt := up_lt hw8 hu hq h0
      obtain ⟨p1, p2⟩ := (par11 hg hq h0).mp h11
      have e9 := par9 hg hq h0 (fun x => e (by omega))
      obtain ⟨a, a1, a2, a3, a4, a5⟩ := ih (fr3 st q) hlt (Nat.lt_trans hlt hq) p2 (by rw [← e9]; exact h9)
      have hnd : ndu st v q = a := by unfold ndu; rw [a2, Int.toNat_natCast]
      have e3 : st.2.2.2.1 3 q = ((fr3 st q : Nat) : Int) := by
        have h1 := hu q (by omega) hq
        have h3 : fr3 st q = (st.2.2.2.1 3 q).toNat := rfl
        rw [h3, Int.toNat_of_nonneg h1]
      have h6 := (((sat_iff (Nat.lt_trans hlt hq)).mp a5).2 q hlt hq e3).mpr p1
      rw [← hnd] at h6
      exact fin q hq h11 h9 h6
theorem act_all {T : TRE} {st : PST} {pd : Nat → Nat} {v : Nat → Int} (hg : pgd st pd) (hw8 : pw st) (hu : pup st) (h : FM T st v) {q : Nat} (hq : q < st.1) (ha : actQ T st v q) : (∃ a : Nat, a < T.1 ∧ vlp v st.2.2.2.1 q = (a : Int) ∧ own T st v q a ∧ (q ≠ 0 → rlp T st.2.2.2.1 q (ndu st v q) a) ∧ (st.2.2.2.1 9 q ≠ -1 → sat T st v q a)) ∧ (q ≠ 0 → actQ T st v (fr3 st q)) := by
  obtain ⟨h11, hh⟩ := ha
  constructor
  · rcases hh with h9 | ⟨h9, hb⟩
    · obtain ⟨a, a1, a2, a3, a4⟩ := live_1 hg hw8 hu h hq h11 (Or.inl h9)
      exact ⟨a, a1, a2, a3, a4, fun x => absurd h9 x⟩
    · obtain ⟨b, b1, b2, b3⟩ := grp hg hw8 hu q hq h9
      rw [b1] at hb
      rcases hb with ⟨-, hgv⟩ | ⟨hn, hs⟩
      · obtain ⟨a, a1, a2, a3, a4⟩ := live_1 hg hw8 hu h hq h11 (Or.inr (by rw [b1]; exact hgv))
        exact ⟨a, a1, a2, a3, a4, fun _ => live_2 hg hw8 hu h hgv _ q a (Nat.le_refl _) hq h11 b1 a2⟩
      · rw [Int.toNat_natCast] at hs
        obtain ⟨a, a1, a2, a3, a4, a5⟩ := live_3 hg hw8 hu hn hs q hq h11 b1
        exact ⟨a, a1, a2, a3, fun _ => a4, fun _ => a5⟩
  · intro h0
    have p2 := ((par11 hg hq h0).mp h11).2
    refine ⟨p2, ?_⟩
    by_cases c : st.2.2.2.1 9 (fr3 st q) = -1
    · exact Or.inl c
    · have b := (up_b hg hq h0).2.1
      rw [if_pos c] at b
      refine Or.inr ⟨c, ?_⟩
      rw [← b]
      rcases hh with x | x
      · rw [b] at x; exact absurd x c
      · exact x.2
theorem FM_FL {T : TRE} {st : PST} {pd : Nat → Nat} {v : Nat → Int} (hg : pgd st pd) (hw8 : pw st) (hu : pup st) (hz : ∀ k, st.2.2.1 ≤ k → v k = 0) (h : FM T st v) : FL T st v := by
  refine ⟨tq T st v, hz, fun q hq => ?_⟩
  have AC : ∀ {q : Nat}, q < st.1 → actQ T st v q → tq T st v q ≠ -1 := fun {q} hq ha => by
    obtain ⟨⟨a, a1, a2, -⟩, -⟩ := act_all hg hw8 hu h hq ha
    rw [tq_t ha, a2]; omega
  have hgn : ∀ {b : Nat} {q : Nat}, q < st.1 → st.2.2.2.1 9 q = (b : Int) → st.2.2.2.1 8 q ≠ -1 → ¬ actH T st v (b : Int) → vp v st.2.2.2.1 q = -1 := fun {b q} hq h9 h8 hn => by
    refine Classical.byContradiction (fun x => hn (Or.inl ⟨⟨q, hq, h9, h8⟩, ⟨q, hq, h9, h8, x⟩⟩))
  by_cases c1 : q ≠ 0 ∧ tq T st v (fr3 st q) = -1
  · have hlt := up_lt hw8 hu hq c1.1
    have hnf : ¬ actQ T st v (fr3 st q) := fun x => AC (Nat.lt_trans hlt hq) x c1.2
    have hnq : ¬ actQ T st v q := fun x => hnf ((act_all hg hw8 hu h hq x).2 c1.1)
    refine (Dq_skip c1.1 c1.2).mpr ⟨tq_f hnq, fun h8 => ?_⟩
    have h11 := (num_11 hg hq h8).1
    have p2 := ((par11 hg hq c1.1).mp h11).2
    have c9 : st.2.2.2.1 9 (fr3 st q) ≠ -1 := fun x => hnf ⟨p2, Or.inl x⟩
    have b := (up_b hg hq c1.1).2.1
    rw [if_pos c9] at b
    obtain ⟨g, g1, g2, g3⟩ := grp hg hw8 hu q hq (by rw [b]; exact c9)
    exact hgn hq g1 h8 (fun x => hnf ⟨p2, Or.inr ⟨c9, by rw [← b, g1]; exact x⟩⟩)
  · have hfa : q ≠ 0 → actQ T st v (fr3 st q) := fun h0 => Classical.byContradiction (fun x => c1 ⟨h0, tq_f x⟩)
    have hnd : q ≠ 0 → (tq T st v (fr3 st q)).toNat = ndu st v q := fun h0 => by rw [tq_t (hfa h0)]; rfl
    unfold Dq
    rw [if_neg c1]
    by_cases c2 : st.2.2.2.1 11 q ≠ 0
    · have h0 : q ≠ 0 := fun e => c2 ((hg.2.1 q hq).2.2.2.2.2.2.2.2.1 e).2.2.1
      have hlt := up_lt hw8 hu hq h0
      have hfc := Nat.lt_trans hlt hq
      have hf := hfa h0
      have c4 : st.2.2.2.1 4 q = 1 := Classical.byContradiction (fun x => c2 ((par11 hg hq h0).mpr ⟨x, hf.1⟩))
      rw [if_pos c2, hnd h0]
      refine ⟨tq_f (fun x => c2 x.1), ?_⟩
      obtain ⟨⟨a, a1, a2, a3, a4, a5⟩, -⟩ := act_all hg hw8 hu h hfc hf
      by_cases c9 : st.2.2.2.1 9 (fr3 st q) = -1
      · exact (h.2 q (by omega) hq hf.1 (fun x => absurd c9 x)).1 c4
      · have h6 := ((sat_iff hfc).mp (a5 c9)).2 q hlt hq (by
          have h1 := hu q (by omega) hq
          have h3 : fr3 st q = (st.2.2.2.1 3 q).toNat := rfl
          rw [h3, Int.toNat_of_nonneg h1])
        have he : ndu st v q = a := by unfold ndu; rw [a2, Int.toNat_natCast]
        rw [he]
        exact fun x => (h6.mp x) c4
    · have h11 : st.2.2.2.1 11 q = 0 := Classical.byContradiction c2
      rw [if_neg c2]
      by_cases c3 : st.2.2.2.1 9 q = (q : Int) ∧ tq T st v q = -1
      · rw [if_pos c3]
        obtain ⟨h0, h4, hpf, -⟩ := head9 hg hw8 hq c3.1
        have hnq : ¬ actQ T st v q := fun x => AC hq x c3.2
        have hna : ¬ actH T st v (q : Int) := fun x => hnq ⟨h11, Or.inr ⟨by rw [c3.1]; omega, by rw [c3.1]; exact x⟩⟩
        refine ⟨fun h8 => hgn hq c3.1 h8 hna, ?_⟩
        rw [hnd h0]
        by_cases cn : hnm st (q : Int)
        · exact (h.2 q (by omega) hq hpf.1 (fun x => absurd hpf.2 x)).2.1 h4 cn (fun x => hna (Or.inl ⟨cn, x⟩))
        · exact fun x => hna (Or.inr ⟨cn, by rw [Int.toNat_natCast]; exact x⟩)
      · rw [if_neg c3]
        have ha : actQ T st v q := by
          by_cases e9 : st.2.2.2.1 9 q = (q : Int)
          · exact Classical.byContradiction (fun x => c3 ⟨e9, tq_f x⟩)
          · by_cases h0 : q = 0
            · exact ⟨h11, Or.inl ((hg.2.1 q hq).2.2.2.2.2.2.2.2.1 h0).2.1⟩
            · have b := par9 hg hq h0 e9
              refine ⟨h11, ?_⟩
              rw [b]
              exact (hfa h0).2
        obtain ⟨⟨a, a1, a2, a3, a4, a5⟩, -⟩ := act_all hg hw8 hu h hq ha
        refine ⟨⟨a, a1, by rw [tq_t ha, a2], a3, fun h0 => by rw [hnd h0]; exact a4 h0, fun h8 => by rw [← vlp_n4 (num_11 hg hq h8).2, a2]⟩, fun e9 => ?_⟩
        obtain ⟨h0, -⟩ := head9 hg hw8 hq e9
        rw [hnd h0]
        exact ⟨a, a1, a4 h0, a5 (by rw [e9]; omega)⟩
/-- the numbers of the matches are the numbers of what the search finds -/
theorem FL_MT {T : TRE} {st : PST} {pd : Nat → Nat} (hg : pgd st pd) (hw8 : pw st) (hu : pup st) {c : Nat} : (∃ v, FL T st v ∧ c = pcn (T.1 + 1) v st.2.2.1) ↔ MT T st c := by
  constructor
  · rintro ⟨v, v1, v2⟩
    have hM := FL_FM hg hw8 hu v1
    have hd := pre_dgt hM.1
    have hz : ∀ k, st.2.2.1 ≤ k → v k = 0 := by
      obtain ⟨t, t1, -⟩ := v1
      exact t1
    refine ⟨by rw [v2]; exact pcn_lt _ hd, ?_⟩
    rw [v2, wdc_pcn hd hz]
    exact hM
  · rintro ⟨h1, h2⟩
    refine ⟨wdc (T.1 + 1) st.2.2.1 c, FM_FL hg hw8 hu wdc_z h2, ?_⟩
    rw [pcn_wdc (Nat.succ_pos _) _ (Nat.le_refl _) h1, Nat.sub_self, Nat.pow_zero, Nat.div_one]
