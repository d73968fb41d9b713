/-! what a match is -/
def FM (T : TRE) (st : PST) (w : Nat → Int) : Prop := pre T st w st.2.2.1 ∧ ∀ p, 0 < p → p < st.1 → soP T st w p
def MT (T : TRE) (st : PST) (c : Nat) : Prop := c < (T.1 + 1) ^ st.2.2.1 ∧ FM T st (wdc (T.1 + 1) st.2.2.1 c)
theorem pre_dgt {T : TRE} {st : PST} {w : Nat → Int} {m : Nat} (h : pre T st w m) : dgt (T.1 + 1) w m := fun k hk => by
  have := (h k hk).1
  constructor <;> omega
/-- the number that is meant where a number's part hangs -/
theorem from_num {st : PST} {pd : Nat → Nat} (hg : pgd st pd) (hw8 : pw st) (hu : pup st) {k : Nat} (hk : k < st.2.2.1) (h0 : np st k ≠ 0) : ∃ j : Nat, j < k ∧ ∀ w : Nat → Int, vlp w st.2.2.2.1 (fr3 st (np st k)) = w j := by
  obtain ⟨n1, n2, n3, n4, n5⟩ := np_ok hg hk
  obtain ⟨u, hu3⟩ : ∃ u : Nat, st.2.2.2.1 3 (np st k) = (u : Int) := ⟨(st.2.2.2.1 3 (np st k)).toNat, by have := hu (np st k) (by omega) n1; omega⟩
  have hup : u < np st k := by have := (hw8.2.2.2 (np st k) n1).2.1; omega
  obtain ⟨b1, b2, b3⟩ := (hg.2.1 (np st k) n1).2.2.2.2.2.2.2.2.2 (by omega)
  rw [hu3, Int.toNat_natCast] at b1
  have h11 : st.2.2.2.1 11 u = 0 := Classical.byContradiction (fun q => by
    rw [if_pos (Or.inr q), n4] at b1
    exact absurd b1 (by decide))
  have hfr : fr3 st (np st k) = u := by show (st.2.2.2.1 3 (np st k)).toNat = u; rw [hu3, Int.toNat_natCast]
  rw [hfr]
  unfold vlp vp mt
  by_cases c4 : st.2.2.2.1 1 u = 4
  · obtain ⟨o, o1, o2, o3, o4, o5⟩ := again_num hg (show u < st.1 by omega) (Or.inr c4)
    obtain ⟨j, j1, j2, j3⟩ := np_num hg (show o < st.1 by omega) o5
    refine ⟨j, np_mono hg j1 hk (by omega), fun w => ?_⟩
    rw [if_pos c4, o1, Int.toNat_natCast, j2, Int.toNat_natCast]
  · have h8 : st.2.2.2.1 8 u ≠ -1 := by
      obtain ⟨k', k1', -⟩ := (hg.2.1 u (by omega)).2.2.2.2.2.2.1 ⟨h11, c4⟩
      omega
    obtain ⟨j, j1, j2, j3⟩ := np_num hg (show u < st.1 by omega) h8
    refine ⟨j, np_mono hg j1 hk (by omega), fun w => ?_⟩
    rw [if_neg c4, j2, Int.toNat_natCast]
theorem own_num {T : TRE} {st : PST} {pd : Nat → Nat} (hg : pgd st pd) {k a : Nat} {w w' : Nat → Int} (hk : k < st.2.2.1) (h : ∀ j, j < k → w j = w' j) : own T st w (np st k) a ↔ own T st w' (np st k) a := by
  obtain ⟨n1, n2, n3, n4, n5⟩ := np_ok hg hk
  unfold own
  by_cases c3 : st.2.2.2.1 1 (np st k) = 3
  · obtain ⟨o, o1, o2, o3, o4, o5⟩ := again_num hg n1 (Or.inl c3)
    obtain ⟨j, j1, j2, j3⟩ := np_num hg (show o < st.1 by omega) o5
    have hjk : j < k := np_mono hg j1 hk (by omega)
    rw [if_pos c3, if_pos c3, o1, Int.toNat_natCast]
    unfold vp
    rw [j2, Int.toNat_natCast, h j hjk]
  · rw [if_neg c3, if_neg c3, if_neg n5, if_neg n5]
theorem canP_c {T : TRE} {st : PST} {pd : Nat → Nat} (hg : pgd st pd) (hw8 : pw st) (hu : pup st) {k : Nat} {w w' : Nat → Int} (hk : k < st.2.2.1) (h : ∀ j, j ≤ k → w j = w' j) : canP T st w k → canP T st w' k := by
  rintro ⟨h1, h2⟩
  have hkk := h k (Nat.le_refl k)
  refine ⟨fun e he q1 q2 => ?_, fun q => ?_⟩
  · rw [← h e (by omega), ← hkk]; exact h1 e he q1 q2
  · rw [← hkk] at q
    obtain ⟨a1, a2⟩ := h2 q
    rw [← hkk]
    refine ⟨(own_num hg hk (fun j hj => h j (by omega))).mp a1, fun q0 => ?_⟩
    have a3 := a2 q0
    obtain ⟨j, j1, j2⟩ := from_num hg hw8 hu hk q0
    unfold ndu at a3 ⊢
    rw [j2] at a3 ⊢
    rw [← h j (by omega)]; exact a3
theorem pre_c {T : TRE} {st : PST} {pd : Nat → Nat} (hg : pgd st pd) (hw8 : pw st) (hu : pup st) {m : Nat} {w w' : Nat → Int} (hm : m ≤ st.2.2.1) (h : ∀ j, j < m → w j = w' j) (hp : pre T st w m) : pre T st w' m := fun k hk => by
  obtain ⟨p1, p2, p3⟩ := hp k hk
  rw [h k hk] at p1 p2
  exact ⟨p1, p2, canP_c hg hw8 hu (by omega) (fun j hj => h j (by omega)) p3⟩
/-- behind all numbers, what is active has a node -/
theorem pre_vld {T : TRE} {st : PST} {pd : Nat → Nat} {w : Nat → Int} (hg : pgd st pd) (hw8 : pw st) (hp : pre T st w st.2.2.1) : vld T st w := by
  intro r hr h11 hact
  -- the meant part, its number
  have fin : ∀ o, o < st.1 → st.2.2.2.1 8 o ≠ -1 → (st.2.2.2.1 9 o = -1 ∨ gvn st w (st.2.2.2.1 9 o)) → ∃ a : Nat, a < T.1 ∧ vp w st.2.2.2.1 o = (a : Int) := fun o ho h8 hact => by
    obtain ⟨j, j1, j2, j3⟩ := np_num hg ho h8
    have e : vp w st.2.2.2.1 o = w j := by unfold vp; rw [j2, Int.toNat_natCast]
    obtain ⟨⟨w1, w2⟩, w3, w4⟩ := hp j j1
    have hne : 0 ≤ w j := by
      rcases hact with c | c
      · exact w3 (by rw [j3]; exact c)
      · by_cases c9 : st.2.2.2.1 9 o = -1
        · exact w3 (by rw [j3]; exact c9)
        · obtain ⟨o', q1, q2, q3, q4⟩ := c
          obtain ⟨i, i1, i2, i3⟩ := np_num hg q1 q3
          have e' : vp w st.2.2.2.1 o' = w i := by unfold vp; rw [i2, Int.toNat_natCast]
          rw [e'] at q4
          have hn : w j ≠ -1 := by
            rcases Nat.lt_trichotomy i j with c | c | c
            · have := w4.1 i c (by rw [j3]; exact c9) (by rw [i3, j3]; exact q2)
              exact fun q => q4 (this.mpr q)
            · rw [← c]; exact q4
            · have := (hp i i1).2.2.1 j c (by rw [i3, q2]; exact c9) (by rw [i3, j3]; exact q2.symm)
              exact fun q => q4 (this.mp q)
          omega
    exact ⟨(w j).toNat, by omega, by rw [e]; omega⟩
  unfold vlp mt
  by_cases c4 : st.2.2.2.1 1 r = 4
  · obtain ⟨o, o1, o2, o3, o4, o5⟩ := again_num hg hr (Or.inr c4)
    rw [if_pos c4, o1, Int.toNat_natCast]
    exact fin o (by omega) o5 (Or.inl o3.2)
  · have h8 : st.2.2.2.1 8 r ≠ -1 := by
      obtain ⟨k', k1', -⟩ := (hg.2.1 r hr).2.2.2.2.2.2.1 ⟨h11, c4⟩
      omega
    rw [if_neg c4]
    exact fin r hr h8 hact
/-- what the model has found so far: the matches below P -/
def fST (T : TRE) (st : PST) (P : Nat) (σ : zW) : Prop := gI σ 122 73 = ((lst (MT T st) P).length : Int) ∧ ∀ i c : Nat, (lst (MT T st) P)[i]? = some c → i < 4096 → gI σ 177 i = (enN (wdc (T.1 + 1) st.2.2.1 c) st.2.2.1 : Nat)
theorem fST_fr {T : TRE} {st : PST} {P : Nat} {σ σ' : zW} {X : Nat → Nat → Prop} (h : fST T st P σ) (hF : yFr X σ σ') (hX : ∀ k j, X k j → k ≠ 177 ∧ ¬ (k = 122 ∧ j = 73)) : fST T st P σ' := ⟨(hF.i (fun w => (hX _ _ w).2 ⟨rfl, rfl⟩)).trans h.1, fun i c h1 h2 => (hF.i (fun w => (hX _ _ w).1 rfl)).trans (h.2 i c h1 h2)⟩
theorem fST_skip {T : TRE} {st : PST} {P P' : Nat} {σ : zW} (h : fST T st P σ) (hP : P ≤ P') (hn : ∀ c, P ≤ c → c < P' → ¬ MT T st c) : fST T st P' σ := by
  unfold fST
  rw [lst_skip P' hP hn]
  exact h
theorem m_keeps {K : List zF} {q c : Nat} {T : TRE} {st : PST} {pd : Nat → Nat} {w : Nat → Int} {σ : zW} (hgT : tgd T) (hO : mOn q T st σ) (hg : pgd st pd) (hw8 : pw st) (hV : mVm st w st.2.2.1 σ) (hd : dgt (T.1 + 1) w st.2.2.1) (hw : w = wdc (T.1 + 1) st.2.2.1 c) (hM : MT T st c) (hc : c < 1000000) (hf : fST T st c σ)
    (k : ∀ σ' : zW, yFr (fun k j => k = 177 ∨ (k = 122 ∧ j = 73)) σ σ' → fST T st (c + 1) σ' → zRet true K none σ') : zEv true (zent 205 [.inr (.inr 122)] :: K) σ := by
  have hN := hw8.2.1
  have hn := hgT.1.1
  have hlen := lst_len (P := MT T st) c
  have hd21 : dgt 21 w st.2.2.1 := fun j hj => by have := hd j hj; omega
  have loop : ∀ (d i : Nat), st.2.2.1 - i = d → i ≤ st.2.2.1 → zEv true ((205, 4, [some (.inr (.inr 122)), some (.inl ((enN w i : Nat) : Int)), some (.inl (i : Int))], []) :: K) σ := by
    intro d
    induction d with
    | zero =>
      intro i hdd hi
      have ei : i = st.2.2.1 := by omega
      rw [zj_205_4, hO.2.2.2.2.2.2.1, if_pos (by omega), hf.1]
      have hlast : ∀ i c', (lst (MT T st) (c + 1))[i]? = some c' → (i < (lst (MT T st) c).length ∧ (lst (MT T st) c)[i]? = some c') ∨ (i = (lst (MT T st) c).length ∧ c' = c) := fun i c' h => by
        rw [lst_y hM] at h
        by_cases q : i < (lst (MT T st) c).length
        · rw [List.getElem?_append_left q] at h; exact Or.inl ⟨q, h⟩
        · rw [List.getElem?_append_right (by omega)] at h
          by_cases q2 : i = (lst (MT T st) c).length
          · rw [q2, Nat.sub_self] at h
            exact Or.inr ⟨q2, (Option.some.inj h).symm⟩
          · rw [show i - (lst (MT T st) c).length = (i - (lst (MT T st) c).length - 1) + 1 by omega] at h
            exact absurd h (by simp)
      have hl1 : ((lst (MT T st) (c + 1)).length : Int) = ((lst (MT T st) c).length : Int) + 1 := by rw [lst_y hM, List.length_append]; rfl
      by_cases c4 : (4096 : Int) ≤ ((lst (MT T st) c).length : Int)
      · rw [if_pos c4, zj_205_58, hf.1, zw_id (by omega) (by omega)]
        have hF : yFr (fun k j => k = 122 ∧ j = 73) σ (sI σ 122 73 (((lst (MT T st) c).length : Int) + 1)) := yFr.rf.I ⟨rfl, rfl⟩
        refine k _ (hF.mono (fun k j h => Or.inr h)) ⟨by rw [yGI_hit, hl1], fun i c' h1 h2 => ?_⟩
        rw [hF.i (by omega)]
        rcases hlast i c' h1 with ⟨q1, q2⟩ | ⟨q1, q2⟩
        · exact hf.2 i c' q2 h2
        · omega
      · rw [if_neg c4, yAnd (by omega), Int.toNat_natCast, zj_205_58, gI_sI, if_neg (by omega), hf.1, zw_id (by omega) (by omega)]
        have hF : yFr (fun k j => (k = 177 ∧ j = (lst (MT T st) c).length) ∨ (k = 122 ∧ j = 73)) σ (sI (sI σ 177 (lst (MT T st) c).length ((enN w i : Nat) : Int)) 122 73 (((lst (MT T st) c).length : Int) + 1)) := (yFr.rf.I (Or.inl ⟨rfl, rfl⟩)).I (Or.inr ⟨rfl, rfl⟩)
        refine k _ (hF.mono (fun k j h => by rcases h with h | h; exact Or.inl h.1; exact Or.inr h)) ⟨by rw [yGI_hit, hl1], fun i' c' h1 h2 => ?_⟩
        rcases hlast i' c' h1 with ⟨q1, q2⟩ | ⟨q1, q2⟩
        · rw [hF.i (by omega)]; exact hf.2 i' c' q2 h2
        · rw [gI_sI, if_neg (by omega), gI_sI, if_pos ⟨rfl, q1⟩, q2, ← hw, ei]
    | succ d ih =>
      intro i hdd hi
      have hi' : i < st.2.2.1 := by omega
      have hn1 : ¬ ((st.2.2.1 : Nat) : Int) ≤ (i : Int) := by omega
      obtain ⟨n1, n2, -⟩ := np_ok hg hi'
      have hci : 0 ≤ (i : Int) ∧ (i : Int) < 4 := by omega
      have hc1 := hw8.1
      have hcn : 0 ≤ (np st i : Int) ∧ (np st i : Int) < 8 := by omega
      have e145 : gI σ 145 i = (np st i : Int) := (hO.2.2.2.2.2.2.2.2.2 i hi').trans n2
      have h1 := hd21 i hi'
      have hen := enN_lt (w := w) i (fun j hj => hd21 j (by omega))
      obtain ⟨dd, hdd2⟩ : ∃ dd : Nat, w i + 1 = (dd : Int) := ⟨(w i + 1).toNat, by omega⟩
      have hdd3 : dd < 32 := by omega
      have eV := hV i hi'
      have e5 : w32 (5 * (i : Int)) = ((5 * i : Nat) : Int) := by clear hen; rw [zw_id (by omega) (by omega)]; omega
      have e6 : w32 (w i + 1) = ((dd : Nat) : Int) := by clear hen e5; rw [zw_id (by omega) (by omega), hdd2]
      have e7 : w32 ((i : Int) + 1) = ((i + 1 : Nat) : Int) := by clear hen e5 e6; rw [zw_id (by omega) (by omega)]; omega
      rw [zj_205_4, hO.2.2.2.2.2.2.1, if_neg hn1, yAnd hci, Int.toNat_natCast, e145, yAnd hcn, Int.toNat_natCast, eV, e5, e6, e7, zshl5 dd hdd3 i (by clear hen e5 e6 e7; omega), zor_en hen hdd3 (by clear hen e5 e6 e7; omega)]
      clear e5 e6 e7
      have hstep : enN w i + dd * 32 ^ i = enN w (i + 1) := by rw [enN, hdd2, Int.toNat_natCast]
      rw [hstep]
      exact ih (i + 1) (by clear hen hstep; omega) (by clear hen hstep; omega)
  rw [ze_205]
  exact loop st.2.2.1 0 (Nat.sub_zero _) (Nat.zero_le _)
