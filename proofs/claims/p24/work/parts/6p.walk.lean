/-! the branches of the walk -/
theorem up_lt {st : PST} (hw8 : pw st) (hu : pup st) {p : Nat} (hp : p < st.1) (h0 : p ≠ 0) : fr3 st p < p := by
  have h1 := (hw8.2.2.2 p hp).2.1
  have h2 := hu p (by omega) hp
  show (st.2.2.2.1 3 p).toNat < p
  omega
theorem wk_agr {T : TRE} {st : PST} {pd : Nat → Nat} {p : Nat} {w v : Nat → Int} (h : ∀ k, k < st.2.2.1 → np st k < p → v k = w k) : agr st p w v := fun k h1 _ h3 => (h k h1 h3).symm
theorem vp_np {st : PST} {pd : Nat → Nat} (hg : pgd st pd) {v : Nat → Int} {k : Nat} (hk : k < st.2.2.1) : vp v st.2.2.2.1 (np st k) = v k ∧ st.2.2.2.1 8 (np st k) ≠ -1 := by
  have h := (np_ok hg hk).2.2.1
  refine ⟨?_, by omega⟩
  unfold vp
  rw [h, Int.toNat_natCast]
theorem wk_den {T : TRE} {st : PST} {pd : Nat → Nat} {ah : Prop} {p : Nat} {w τ v : Nat → Int} (hg : pgd st pd) (hw8 : pw st) (hu : pup st) (hp : p < st.1) (h0 : p ≠ 0) (h11 : st.2.2.2.1 11 p ≠ 0) (hτ : τ (fr3 st p) ≠ -1) (hs : ¬ smo T st w p (τ (fr3 st p)).toNat) : wk T st ah p w τ v ↔ wk T st ah (ed pd st.1 p) w (cutT τ p (ed pd st.1 p)) v := by
  obtain ⟨d1, d2, d3, d4⟩ := ed_spec (dep := pd) hp
  have hul := up_lt hw8 hu hp h0
  have hnp : ¬ pln st.2.2.2.1 p := fun q => h11 q.1
  have hden := den_in hg hp h11
  have hno8 : ∀ q, p ≤ q → q < ed pd st.1 p → st.2.2.2.1 8 q = -1 := fun q q1 q2 => (hg.2.1 q (by omega)).2.2.2.2.2.2.2.1 (fun x => hden q q1 q2 x.1)
  have hnum : ∀ k, k < st.2.2.1 → np st k < ed pd st.1 p → np st k < p := fun k k1 k2 => by
    rcases Nat.lt_or_ge (np st k) p with x | x
    · exact x
    · exact absurd (hno8 _ x k2) (vp_np (v := v) hg k1).2
  constructor
  · rintro ⟨t, t1, t2, t3, t4, t5⟩
    have hDp := (Dq_den (v := v) (by rw [t1 _ hul]; exact hτ) h11).mp (t5 p (Nat.le_refl p) hp)
    have hsk := skip_all hg hp hDp.1 (fun q q1 q2 => t5 q (by omega) (by omega))
    refine ⟨t, fun q hq => ?_, fun k k1 k2 => t2 k k1 (hnum k k1 k2), t3, t4, fun q q1 q2 => t5 q (by omega) q2⟩
    unfold cutT
    by_cases c : p ≤ q ∧ q < ed pd st.1 p
    · rw [if_pos c]
      by_cases e : q = p
      · rw [e]; exact hDp.1
      · exact (hsk q (by omega) c.2).1
    · rw [if_neg c]; exact t1 q (by omega)
  · rintro ⟨t, t1, t2, t3, t4, t5⟩
    have htp : ∀ q, p ≤ q → q < ed pd st.1 p → t q = -1 := fun q q1 q2 => by
      rw [t1 q q2]; unfold cutT; rw [if_pos ⟨q1, q2⟩]
    have htl : ∀ q, q < p → t q = τ q := fun q q1 => by
      rw [t1 q (by omega)]; unfold cutT; rw [if_neg (by omega)]
    have hv : ∀ k, k < st.2.2.1 → np st k < p → v k = w k := fun k k1 k2 => t2 k k1 (by omega)
    have hmk := skip_mk (T := T) (v := v) hg hp htp (fun q q1 q2 q3 => absurd (hno8 q (by omega) q2) q3)
    refine ⟨t, htl, hv, t3, t4, fun q q1 q2 => ?_⟩
    by_cases e : q = p
    · rw [e]
      refine (Dq_den (by rw [htl _ hul]; exact hτ) h11).mpr ⟨htp p (Nat.le_refl p) d1, ?_⟩
      rw [htl _ hul]
      exact fun x => hs ((smo_c hg hp hnp (wk_agr (T := T) (pd := pd) hv)).mpr x)
    · rcases Nat.lt_or_ge q (ed pd st.1 p) with x | x
      · exact hmk q (by omega) x
      · exact t5 q x q2
theorem wk_den0 {T : TRE} {st : PST} {pd : Nat → Nat} {ah : Prop} {p : Nat} {w τ v : Nat → Int} (hg : pgd st pd) (hw8 : pw st) (hu : pup st) (hp : p < st.1) (h0 : p ≠ 0) (h11 : st.2.2.2.1 11 p ≠ 0) (hτ : τ (fr3 st p) ≠ -1) (hs : smo T st w p (τ (fr3 st p)).toNat) : ¬ wk T st ah p w τ v := by
  have hul := up_lt hw8 hu hp h0
  have hnp : ¬ pln st.2.2.2.1 p := fun q => h11 q.1
  rintro ⟨t, t1, t2, t3, t4, t5⟩
  have hDp := (Dq_den (v := v) (by rw [t1 _ hul]; exact hτ) h11).mp (t5 p (Nat.le_refl p) hp)
  rw [t1 _ hul] at hDp
  exact hDp.2 ((smo_c hg hp hnp (wk_agr (T := T) (pd := pd) t2)).mp hs)
theorem wk_out {T : TRE} {st : PST} {pd : Nat → Nat} {ah : Prop} {p : Nat} {w τ v : Nat → Int} (hg : pgd st pd) (hw8 : pw st) (hu : pup st) (hp : p < st.1) (h0 : p ≠ 0) (h11 : st.2.2.2.1 11 p = 0) (h9 : st.2.2.2.1 9 p = (p : Int)) (hτ : τ (fr3 st p) ≠ -1) (hs : ¬ smo T st w p (τ (fr3 st p)).toNat) : wk T st ah p w τ v ↔ wk T st ah (ed pd st.1 p) (cutW st w p (ed pd st.1 p)) (cutT τ p (ed pd st.1 p)) v := by
  obtain ⟨d1, d2, d3, d4⟩ := ed_spec (dep := pd) hp
  have hul := up_lt hw8 hu hp h0
  have hnp : ¬ pln st.2.2.2.1 p := fun q => by have := q.2; omega
  have hin := nonpl_in hg hp hnp
  have hcp : ∀ k, k < st.2.2.1 → pln st.2.2.2.1 (np st k) → cutW st w p (ed pd st.1 p) k = w k := fun k k1 k2 => by
    unfold cutW
    rw [if_neg (fun x => hin _ x.1 x.2 k2)]
  constructor
  · rintro ⟨t, t1, t2, t3, t4, t5⟩
    have hag := wk_agr (T := T) (pd := pd) t2
    have hDp := t5 p (Nat.le_refl p) hp
    unfold Dq at hDp
    rw [if_neg (fun x => hτ (by rw [← t1 _ hul]; exact x.2)), if_neg (fun x => x h11), t1 _ hul] at hDp
    have htp : t p = -1 := Classical.byContradiction (fun x => by
      rw [if_neg (fun y => x y.2)] at hDp
      exact hs ((smo_c hg hp hnp hag).mpr (hDp.2 h9)))
    rw [if_pos ⟨h9, htp⟩] at hDp
    have hsk := skip_all hg hp htp (fun q q1 q2 => t5 q (by omega) (by omega))
    have hval : ∀ q, p ≤ q → q < ed pd st.1 p → t q = -1 ∧ (st.2.2.2.1 8 q ≠ -1 → vp v st.2.2.2.1 q = -1) := fun q q1 q2 => by
      by_cases e : q = p
      · rw [e]; exact ⟨htp, hDp.1⟩
      · exact hsk q (by omega) q2
    refine ⟨t, fun q hq => ?_, fun k k1 k2 => ?_, fun ha k k1 k2 k3 => ?_, t4, fun q q1 q2 => t5 q (by omega) q2⟩
    · unfold cutT
      by_cases c : p ≤ q ∧ q < ed pd st.1 p
      · rw [if_pos c]; exact (hval q c.1 c.2).1
      · rw [if_neg c]; exact t1 q (by omega)
    · unfold cutW
      by_cases c : p ≤ np st k ∧ np st k < ed pd st.1 p
      · rw [if_pos c]
        obtain ⟨e1, e2⟩ := vp_np (v := v) hg k1
        rw [← e1]; exact (hval _ c.1 c.2).2 e2
      · rw [if_neg c]; exact t2 k k1 (by omega)
    · rw [hcp k k1 k2]; exact t3 ha k k1 k2 k3
  · rintro ⟨t, t1, t2, t3, t4, t5⟩
    have htp : ∀ q, p ≤ q → q < ed pd st.1 p → t q = -1 := fun q q1 q2 => by
      rw [t1 q q2]; unfold cutT; rw [if_pos ⟨q1, q2⟩]
    have htl : ∀ q, q < p → t q = τ q := fun q q1 => by
      rw [t1 q (by omega)]; unfold cutT; rw [if_neg (by omega)]
    have hv : ∀ k, k < st.2.2.1 → np st k < p → v k = w k := fun k k1 k2 => by
      rw [t2 k k1 (by omega)]; unfold cutW; rw [if_neg (by omega)]
    have hv8 : ∀ q, p ≤ q → q < ed pd st.1 p → st.2.2.2.1 8 q ≠ -1 → vp v st.2.2.2.1 q = -1 := fun q q1 q2 q3 => by
      obtain ⟨k, k1, k2, k3⟩ := np_num hg (show q < st.1 by omega) q3
      have := (vp_np (v := v) hg k1).1
      rw [k3] at this
      rw [this, t2 k k1 (by omega)]
      unfold cutW
      rw [if_pos (by omega)]
    have hmk := skip_mk (T := T) (v := v) hg hp htp (fun q q1 q2 q3 => hv8 q (by omega) q2 q3)
    refine ⟨t, htl, hv, fun ha k k1 k2 k3 => ?_, t4, fun q q1 q2 => ?_⟩
    · rw [← hcp k k1 k2]; exact t3 ha k k1 k2 k3
    · by_cases e : q = p
      · rw [e]
        unfold Dq
        rw [if_neg (fun x => hτ (by rw [← htl _ hul]; exact x.2)), if_neg (fun x => x h11), if_pos ⟨h9, htp p (Nat.le_refl p) d1⟩, htl _ hul]
        exact ⟨hv8 p (Nat.le_refl p) d1, fun x => hs ((smo_c hg hp hnp (wk_agr (T := T) (pd := pd) hv)).mpr x)⟩
      · rcases Nat.lt_or_ge q (ed pd st.1 p) with x | x
        · exact hmk q (by omega) x
        · exact t5 q x q2
/-- the values with part p's number given -/
def nwst (st : PST) (w : Nat → Int) (p : Nat) (a : Nat) : Nat → Int := if st.2.2.2.1 8 p = -1 then w else wst w (st.2.2.2.1 8 p).toNat (a : Int)
theorem nwst_e {st : PST} {pd : Nat → Nat} (hg : pgd st pd) {w : Nat → Int} {p a k : Nat} (hk : k < st.2.2.1) (h : np st k = p) : nwst st w p a k = (a : Int) := by
  have h8 := (np_ok hg hk).2.2.1
  rw [h] at h8
  unfold nwst
  rw [if_neg (by omega), h8, Int.toNat_natCast, wst_e]
theorem nwst_n {st : PST} {pd : Nat → Nat} (hg : pgd st pd) {w : Nat → Int} {p a k : Nat} (hp : p < st.1) (hk : k < st.2.2.1) (h : np st k ≠ p) : nwst st w p a k = w k := by
  unfold nwst
  by_cases c : st.2.2.2.1 8 p = -1
  · rw [if_pos c]
  · obtain ⟨j, j1, j2, j3⟩ := np_num hg hp c
    rw [if_neg c, j2, Int.toNat_natCast, wst_n (fun e => h (by rw [e, j3]))]
theorem wk_act {T : TRE} {st : PST} {pd : Nat → Nat} {ah : Prop} {p : Nat} {w τ v : Nat → Int} (hg : pgd st pd) (hw8 : pw st) (hu : pup st) (hp : p < st.1) (h11 : st.2.2.2.1 11 p = 0) (hτ : p ≠ 0 → τ (fr3 st p) ≠ -1) (hs : st.2.2.2.1 9 p = (p : Int) → smo T st w p (τ (fr3 st p)).toNat) : wk T st ah p w τ v ↔ ∃ a, a < T.1 ∧ (own T st w p a ∧ (p ≠ 0 → rlp T st.2.2.2.1 p (τ (fr3 st p)).toNat a) ∧ (ah → pln st.2.2.2.1 p → st.2.2.2.1 8 p ≠ -1 → vp w st.2.2.2.1 p = (a : Int))) ∧ wk T st ah (p + 1) (nwst st w p a) (wst τ p (a : Int)) v := by
  have hul := fun h0 => up_lt hw8 hu hp h0
  have h90 : st.2.2.2.1 9 p = (p : Int) → p ≠ 0 ∧ ¬ pln st.2.2.2.1 p := fun h9 => by
    have h90 := (hg.2.1 p hp).2.2.2.2.2.2.2.2.1
    refine ⟨fun e => ?_, fun q => ?_⟩
    · have := (h90 e).2.1; omega
    · have := q.2; omega
  constructor
  · rintro ⟨t, t1, t2, t3, t4, t5⟩
    have hag := wk_agr (T := T) (pd := pd) t2
    have hDp := t5 p (Nat.le_refl p) hp
    unfold Dq at hDp
    rw [if_neg (fun x => hτ x.1 (by rw [← t1 _ (hul x.1)]; exact x.2)), if_neg (fun x => x h11)] at hDp
    have hnot : ¬ (st.2.2.2.1 9 p = (p : Int) ∧ t p = -1) := fun x => by
      obtain ⟨y1, y2⟩ := h90 x.1
      rw [if_pos x, t1 _ (hul y1)] at hDp
      exact hDp.2 ((smo_c hg hp y2 hag).mp (hs x.1))
    rw [if_neg hnot] at hDp
    obtain ⟨⟨a, a1, a2, a3, a4, a5⟩, -⟩ := hDp
    refine ⟨a, a1, ⟨(own_c hg hp hag (fun c => ref_own hg hp c)).mpr a3, fun x => by rw [← t1 _ (hul x)]; exact a4 x, fun ha x1 x2 => ?_⟩, t, fun q hq => ?_, fun k k1 k2 => ?_, fun ha k k1 k2 k3 => ?_, t4, fun q q1 q2 => t5 q (by omega) q2⟩
    · obtain ⟨j, j1, j2, j3⟩ := np_num hg hp x2
      rw [← a5 x2]
      unfold vp
      rw [j2, Int.toNat_natCast]
      exact t3 ha j j1 (by rw [j3]; exact x1) (by rw [j3]; exact hp)
    · by_cases e : q = p
      · rw [e, wst_e]; exact a2
      · rw [wst_n e]; exact t1 q (by omega)
    · by_cases e : np st k = p
      · rw [nwst_e hg k1 e]
        obtain ⟨e1, e2⟩ := vp_np (v := v) hg k1
        rw [← e1, e]; rw [e] at e2; exact a5 e2
      · rw [nwst_n hg hp k1 e]; exact t2 k k1 (by omega)
    · by_cases e : np st k = p
      · rw [nwst_e hg k1 e]
        obtain ⟨e1, e2⟩ := vp_np (v := v) hg k1
        rw [← e1, e]; rw [e] at e2; exact (a5 e2).symm
      · rw [nwst_n hg hp k1 e]; exact t3 ha k k1 k2 k3
  · rintro ⟨a, a1, ⟨a2, a3, a4⟩, t, t1, t2, t3, t4, t5⟩
    have htp : t p = (a : Int) := by rw [t1 p (Nat.lt_succ_self p), wst_e]
    have htl : ∀ q, q < p → t q = τ q := fun q hq => by rw [t1 q (by omega), wst_n (by omega)]
    have hv : ∀ k, k < st.2.2.1 → np st k < p → v k = w k := fun k k1 k2 => by rw [t2 k k1 (by omega), nwst_n hg hp k1 (by omega)]
    have hag := wk_agr (T := T) (pd := pd) hv
    refine ⟨t, htl, hv, fun ha k k1 k2 k3 => ?_, t4, fun q q1 q2 => ?_⟩
    · by_cases e : np st k = p
      · rw [t2 k k1 (by omega), nwst_e hg k1 e]
        obtain ⟨e1, e2⟩ := vp_np (v := w) hg k1
        rw [← e1, e]
        rw [e] at e2 k2
        exact a4 ha k2 e2
      · rw [← nwst_n (w := w) (a := a) hg hp k1 e]; exact t3 ha k k1 k2 k3
    · by_cases e : q = p
      · rw [e]
        unfold Dq
        rw [if_neg (fun x => hτ x.1 (by rw [← htl _ (hul x.1)]; exact x.2)), if_neg (fun x => x h11), if_neg (fun x => by have := x.2; omega)]
        refine ⟨⟨a, a1, htp, (own_c hg hp hag (fun c => ref_own hg hp c)).mp a2, fun x => by rw [htl _ (hul x)]; exact a3 x, fun x => ?_⟩, fun x => ?_⟩
        · obtain ⟨j, j1, j2, j3⟩ := np_num hg hp x
          unfold vp
          rw [j2, Int.toNat_natCast, t2 j j1 (by omega), nwst_e hg j1 j3]
        · obtain ⟨y1, y2⟩ := h90 x
          rw [htl _ (hul y1)]
          exact (smo_c hg hp y2 hag).mp (hs x)
      · exact t5 q (by omega) q2
theorem wk_end {T : TRE} {st : PST} {pd : Nat → Nat} {ah : Prop} {w τ v : Nat → Int} (hg : pgd st pd) : wk T st ah st.1 w τ v ↔ (∀ k, k < st.2.2.1 → v k = w k) ∧ ∀ k, st.2.2.1 ≤ k → v k = 0 := by
  constructor
  · rintro ⟨t, t1, t2, t3, t4, t5⟩
    exact ⟨fun k hk => t2 k hk (np_ok hg hk).1, t4⟩
  · rintro ⟨h1, h2⟩
    exact ⟨τ, fun _ _ => rfl, fun k hk _ => h1 k hk, fun _ k hk _ _ => (h1 k hk).symm, h2, fun q q1 q2 => by omega⟩
