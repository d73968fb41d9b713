/-! isEdited: up to the edit -/
def wdA (z : Int) : Int64 := if ¬ z = 0 then (if ¬ z = 1 then (if ¬ z = 2 then 7020021451971650657 else 5845805496558252663 : Int64) else 8728087628436235620 : Int64) else 8656030004266558834
def wdB (z : Int) : Int64 := if ¬ z = 0 then (if ¬ z = 3 then 32 else 2015392883 : Int64) else 20768
def wdN (z : Int) : Int := if ¬ z = 0 then (if ¬ z = 3 then 1 else 4 : Int) else 2
theorem feeds_i : ∀ i : Nat, i < 4 → ([] ++ byl (wdA (i : Int)) 8) ++ byl (wdB (i : Int)) (wdN (i : Int)).toNat = esT i ∧ (1 ≤ (wdN (i : Int)).toNat ∧ (wdN (i : Int)).toNat ≤ 8) ∧ wdN (i : Int) = ((wdN (i : Int)).toNat : Int) := by decide +kernel
section YEE
variable {K : List zF} {R : STR} {u : Nat} {tt lb : Nat → Int} {A : Int64} {σ : zW} {o3 o4 o6 o7 o8 o9 o10 o11 o12 o13 o14 o15 o16 : Option zV}
theorem ed_pre (hK : K.length + 33 ≤ 60) {i : Nat} {has one two : Int} (h : LO [] R u σ) (hi : i < 4) (k : ∀ (r : Nat × (Nat → EDT)) (σ' : zW) (o4 : Option zV), r.1 = 1 → r.2 0 = esD i → lFr 3 σ σ' → LO [] (rS R r) u σ' → zEv true ((161, 215, [some (.inr (.inr 1)), some (.inr (.inr 122)), some (.inr (.inr 123)), o3, o4, some (.inl 1), some (.inl has), some (.inl one), some (.inl two), some (.inl (i : Int)), some (.inr (.inl (allH R.1 (fun p => (lM R p).length)))), none, some (.inl 0), some (.inl 0), o14, o15, o16], []) :: K) σ') : zEv true (zent 140 [.inr (.inr 1), .inl 0, .inr (.inl (wdA (i : Int))), .inl 8] :: (161, 127, [some (.inr (.inr 1)), some (.inr (.inr 122)), some (.inr (.inr 123)), o3, o4, some (.inl 1), some (.inl has), some (.inl one), some (.inl two), some (.inl (i : Int)), o10, o11, o12, o13, o14, o15, o16], []) :: K) σ := by
  have hKl : K.length < 60 := by omega
  obtain ⟨f1, f2, f3⟩ := feeds_i i hi
  have hln : ∀ (x : Int64) n, (byl x n).length = n := fun x n => by unfold byl; simp
  obtain ⟨r, s1, s2, s3⟩ := srt_e (scr_i i hi)
  refine v_feedO (n := 8) (l2 := [] ++ byl (wdA (i : Int)) 8) (by show K.length + 1 + 8 ≤ 60; omega) h rfl (by decide) (by decide) rfl (fun σ1 v1 hF1 hV1 => ?_)
  rw [zr_161_127 hKl]
  refine v_feedO (n := (wdN (i : Int)).toNat) (l2 := esT i) (by show K.length + 1 + 8 ≤ 60; omega) hV1 f3 f2 (by rw [List.nil_append, hln]; omega) f1 (fun σ2 v2 hF2 hV2 => ?_)
  rw [zr_161_179 hKl, if_neg (by decide)]
  refine v_script (by show K.length + 1 + 14 ≤ 60; omega) hV2 s1 s2 (fun σ3 hF3 hV3 => ?_)
  rw [zr_161_192 hKl, if_neg (fun w => w rfl)]
  refine v_all (by show K.length + 1 + 23 ≤ 60; omega) hV3 (fun σ4 hF4 hV4 => ?_)
  have e : allH (rS R r).1 (fun p => (lM (rS R r) p).length) = allH R.1 (fun p => (lM R p).length) := rfl
  rw [e, zr_161_207]
  exact k r σ4 _ s2 s3 ((((hF1.trans hF2).trans hF3).trans hF4).le (by omega)) hV4
/-- how many of the first k are under b -/
def lsn (b e k : Nat) : Nat := if k ≤ b then 0 else (if k ≤ e then k else e) - b
theorem lsn_s {T : TRE} {b k : Nat} : ((lsn b (ed T.2.2 T.1 b) k : Nat) : Int) + zb (und T b k) = ((lsn b (ed T.2.2 T.1 b) (k + 1) : Nat) : Int) ∨ ¬ b < ed T.2.2 T.1 b := by
  by_cases he : b < ed T.2.2 T.1 b
  · left
    by_cases c : und T b k
    · rw [zb_t c]
      unfold und at c
      unfold lsn
      (repeat' split) <;> omega
    · rw [zb_f c]
      unfold und at c
      unfold lsn
      (repeat' split) <;> omega
  · exact Or.inr he
theorem lsn_le (b e k : Nat) : lsn b e k ≤ k := by unfold lsn; (repeat' split) <;> omega
theorem ed_lost (hK : K.length + 33 ≤ 60) {T : TRE} {b i : Nat} {one : Int} (hT : tmT T tt lb) (hA : tmA T.1 tt lb σ) (hb : b < T.1) (k : ∀ o13, zEv true ((161, 255, [some (.inr (.inr 1)), some (.inr (.inr 122)), some (.inr (.inr 123)), o3, o4, some (.inl 1), some (.inl 1), some (.inl one), some (.inl (b : Int)), some (.inl (i : Int)), some (.inr (.inl A)), none, some (.inl ((ed T.2.2 T.1 b - b : Nat) : Int)), o13, o14, o15, o16], []) :: K) σ) : zEv true ((161, 215, [some (.inr (.inr 1)), some (.inr (.inr 122)), some (.inr (.inr 123)), o3, o4, some (.inl 1), some (.inl 1), some (.inl one), some (.inl (b : Int)), some (.inl (i : Int)), some (.inr (.inl A)), none, some (.inl 0), some (.inl 0), o14, o15, o16], []) :: K) σ := by
  have hKl : K.length < 60 := by omega
  obtain ⟨e1, e2, -⟩ := ed_spec (dep := T.2.2) hb
  have hn9 := hT.2.2.1
  have loop : ∀ (m j : Nat), T.1 - j = m → j ≤ T.1 → zEv true ((161, 215, [some (.inr (.inr 1)), some (.inr (.inr 122)), some (.inr (.inr 123)), o3, o4, some (.inl 1), some (.inl 1), some (.inl one), some (.inl (b : Int)), some (.inl (i : Int)), some (.inr (.inl A)), none, some (.inl ((lsn b (ed T.2.2 T.1 b) j : Nat) : Int)), some (.inl (j : Int)), o14, o15, o16], []) :: K) σ := by
    intro m
    induction m with
    | zero =>
      intro j hm hj
      have e : j = T.1 := by omega
      have hl : lsn b (ed T.2.2 T.1 b) j = ed T.2.2 T.1 b - b := by
        unfold lsn
        rw [if_neg (by omega)]
        by_cases c : j ≤ ed T.2.2 T.1 b
        · rw [if_pos c]; omega
        · rw [if_neg c]
      rw [zj_161_215 hKl, hA.2.1, if_pos (by omega), hl]
      exact k _
    | succ m ih =>
      intro j hm hj
      have hll := lsn_le b (ed T.2.2 T.1 b) j
      have hll2 := lsn_le b (ed T.2.2 T.1 b) (j + 1)
      have hstep := fun _ : Unit => (lsn_s (T := T) (b := b) (k := j)).elim id (fun w => absurd e1 w)
      have hw : ∀ _ : Unit, w32 (((lsn b (ed T.2.2 T.1 b) (j + 1) : Nat) : Int)) = ((lsn b (ed T.2.2 T.1 b) (j + 1) : Nat) : Int) := fun _ => zw_id (by omega) (by omega)
      rw [zj_161_215 hKl, hA.2.1, if_neg (by omega), if_neg (by decide), q_isUnder hA hT (show j < T.1 by omega) hb rfl rfl, zr_161_238, zb_n, hstep (), hw (), ws1 (by omega)]
      exact ih (j + 1) (by omega) (by omega)
  have h0 : ((lsn b (ed T.2.2 T.1 b) 0 : Nat) : Int) = 0 := by unfold lsn; rw [if_pos (Nat.zero_le _)]; rfl
  have := loop _ 0 rfl (Nat.zero_le _)
  rw [h0] at this
  exact this
/-- how many brothers -/
theorem ed_bro (hK : K.length + 33 ≤ 60) {T : TRE} {s p i : Nat} {has one two lost : Int} (hT : tmT T tt lb) (hA : tmA T.1 tt lb σ) (hs : s < T.1) (hp : par T.2.2 s = (p : Int)) (k : ∀ o15 o16, zEv true ((161, 263, [some (.inr (.inr 1)), some (.inr (.inr 122)), some (.inr (.inr 123)), o3, o4, some (.inl 1), some (.inl has), some (.inl one), some (.inl two), some (.inl (i : Int)), some (.inr (.inl A)), none, some (.inl (w32 (lost + (if kidc T.2.2 p T.1 = 1 then 1 else 0)))), some (.inl (if kidc T.2.2 p T.1 = 1 then 1 else 0)), some (.inl (p : Int)), o15, o16], []) :: K) σ) : zEv true ((161, 279, [some (.inr (.inr 1)), some (.inr (.inr 122)), some (.inr (.inr 123)), o3, o4, some (.inl 1), some (.inl has), some (.inl one), some (.inl two), some (.inl (i : Int)), some (.inr (.inl A)), none, some (.inl lost), o13, some (.inl (s : Int)), some (.inl 0), some (.inl 0)], []) :: K) σ := by
  have hKl : K.length < 60 := by omega
  have hn9 := hT.2.2.1
  have hAs := hA.2.2 s hs
  have hTs := hT.2.2.2 s hs
  have hcs : ∀ m, s < m → 1 ≤ kidc T.2.2 p m := fun m hm => by have := kidc_lt hp hm; omega
  have loop : ∀ (m j : Nat), T.1 - j = m → j ≤ T.1 → zEv true ((161, 279, [some (.inr (.inr 1)), some (.inr (.inr 122)), some (.inr (.inr 123)), o3, o4, some (.inl 1), some (.inl has), some (.inl one), some (.inl two), some (.inl (i : Int)), some (.inr (.inl A)), none, some (.inl lost), o13, some (.inl (s : Int)), some (.inl ((kidc T.2.2 p j - (if s < j then 1 else 0) : Nat) : Int)), some (.inl (j : Int))], []) :: K) σ := by
    intro m
    induction m with
    | zero =>
      intro j hm hj
      have e : j = T.1 := by omega
      subst e
      have h1 := hcs T.1 hs
      rw [zj_161_279, hA.2.1, if_pos (Int.le_refl _), yAnd (by omega), Int.toNat_natCast, hAs.1, ← hTs.1, hp, if_pos hs]
      have he : (if ¬ ((kidc T.2.2 p T.1 - 1 : Nat) : Int) = 0 then 0 else 1 : Int) = (if kidc T.2.2 p T.1 = 1 then 1 else 0) := by
        by_cases c : kidc T.2.2 p T.1 = 1
        · rw [if_pos c, if_neg (by omega)]
        · rw [if_neg c, if_pos (by omega)]
      rw [he]
      exact k _ _
    | succ m ih =>
      intro j hm hj
      have hj' : j < T.1 := by omega
      have hAj := hA.2.2 j hj'
      have hTj := hT.2.2.2 j hj'
      have hkl := kidc_le (dep := T.2.2) (a := p) j
      have hgo := ih (j + 1) (by omega) (by omega)
      have h1 := hcs j
      rw [zj_161_279, hA.2.1, if_neg (by omega), yAnd (by omega), yAnd (by omega), Int.toNat_natCast, Int.toNat_natCast, hAj.1, hAs.1, ← hTj.1, ← hTs.1, hp, ws1 (by omega)]
      have hst : ∀ _ : Unit, w32 (((kidc T.2.2 p j - (if s < j then 1 else 0) : Nat) : Int) + (if ¬ par T.2.2 j = (p : Int) then 0 else (if (j : Int) = (s : Int) then 0 else 1 : Int) : Int)) = ((kidc T.2.2 p (j + 1) - (if s < j + 1 then 1 else 0) : Nat) : Int) := fun _ => by
        by_cases c : par T.2.2 j = (p : Int)
        · rw [if_neg (show ¬ ¬ par T.2.2 j = (p : Int) from fun w => w c), kidc_eq c]
          by_cases c2 : j = s
          · rw [if_neg (show ¬ s < j by omega), if_pos (show (j : Int) = (s : Int) by omega), if_pos (show s < j + 1 by omega), Int.add_zero, zw_id (by omega) (by omega)]
            omega
          · rw [if_neg (show ¬ (j : Int) = (s : Int) by omega)]
            by_cases c3 : s < j
            · have := h1 c3
              rw [if_pos c3, if_pos (show s < j + 1 by omega), zw_id (by omega) (by omega)]
              omega
            · rw [if_neg c3, if_neg (show ¬ s < j + 1 by omega), zw_id (by omega) (by omega)]
              omega
        · rw [if_pos (show ¬ par T.2.2 j = (p : Int) from c), kidc_ne c, Int.add_zero]
          have c2 : j ≠ s := fun e => c (by rw [e]; exact hp)
          by_cases c3 : s < j
          · rw [if_pos c3, if_pos (show s < j + 1 by omega), zw_id (by omega) (by omega)]
          · rw [if_neg c3, if_neg (show ¬ s < j + 1 by omega), zw_id (by omega) (by omega)]
      rw [hst ()]
      exact hgo
  have := loop _ 0 rfl (Nat.zero_le _)
  exact this
/-- up to where nothing is left alone -/
theorem ed_up (hK : K.length + 33 ≤ 60) {T : TRE} {e i : Nat} {one two : Int} (hT : tmT T tt lb) (hA : tmA T.1 tt lb σ) (he : e ≤ 9) : ∀ (s : Nat), s < T.1 → s ≤ e → ∀ (o15 o16 : Option zV), (∀ o14 o15 o16, zEv true ((161, 357, [some (.inr (.inr 1)), some (.inr (.inr 122)), some (.inr (.inr 123)), o3, o4, some (.inl 1), some (.inl 1), some (.inl one), some (.inl two), some (.inl (i : Int)), some (.inr (.inl A)), none, some (.inl ((e - (dlu T.2.2 T.1 s).1 : Nat) : Int)), some (.inl (if (dlu T.2.2 T.1 s).2 = true then 1 else 0)), o14, o15, o16], []) :: K) σ) → zEv true ((161, 263, [some (.inr (.inr 1)), some (.inr (.inr 122)), some (.inr (.inr 123)), o3, o4, some (.inl 1), some (.inl 1), some (.inl one), some (.inl two), some (.inl (i : Int)), some (.inr (.inl A)), none, some (.inl ((e - s : Nat) : Int)), some (.inl 1), some (.inl (s : Int)), o15, o16], []) :: K) σ := by
  have hKl : K.length < 60 := by omega
  intro s
  induction s with
  | zero =>
    intro _ _ o15 o16 k
    rw [zj_161_263, if_pos (by decide)]
    exact k _ _ _
  | succ s ih =>
    intro hs hse o15 o16 k
    obtain ⟨p, hp, hpc, -⟩ := par_some hT.1 hs (Nat.succ_pos _)
    have hpt : (par T.2.2 (s + 1)).toNat = p := by rw [hp, Int.toNat_natCast]
    rw [dlu, hpt] at k
    rw [zj_161_263, if_neg (by omega), if_neg (by decide)]
    refine ed_bro hK hT hA hs hp (fun o15 o16 => ?_)
    by_cases c : kidc T.2.2 p T.1 = 1
    · rw [if_pos c] at k ⊢
      obtain ⟨o1, o2⟩ := only_child hT.1 hs hp c
      have hps : p = s := by omega
      subst hps
      have hw : ∀ _ : Unit, w32 (((e - (p + 1) : Nat) : Int) + 1) = ((e - p : Nat) : Int) := fun _ => by rw [zw_id (by omega) (by omega)]; omega
      rw [hw ()]
      exact ih (by omega) (by omega) o15 o16 k
    · rw [if_neg c] at k ⊢
      rw [Int.add_zero, zw_id (by omega) (by omega), zj_161_263]
      have k' := fun o14 o15 o16 => k o14 o15 o16
      by_cases c0 : (p : Int) ≤ 0
      · rw [if_pos c0]
        exact k' _ _ _
      · rw [if_neg c0, if_pos rfl]
        exact k' _ _ _
end YEE
