/-! the law's questions about matches -/
def rP (R : STR) (ps : Option (PST × (Nat → Nat))) : STR := (R.1, ps, R.2.2.1, (0, 0), R.2.2.2.2.1, R.2.2.2.2.2)
theorem v_pattern {K : List zF} (hK : K.length + 14 ≤ 60) {l : List Int} {R : STR} {u : Nat} {x : Int64} {z : Int} {st : PST} {σ : zW} (h : LO l R u σ) (hr : pread (lfn l) l.length = .inr st) (hp : pw st ∧ pup st ∧ 1 ≤ st.1) (k : ∀ σ', lFr 1 σ σ' → LO [] (rP R (some (st, pdO st))) u σ' → zRet true K (some (.inl (st.2.2.1 : Int))) σ') : zEv true (zent 140 [.inr (.inr 1), .inl 2, .inr (.inl x), .inl z] :: K) σ := by
  obtain ⟨y, f, hW, he⟩ := h
  rw [← pread_cg he] at hr
  have e : oPattern ((f, l.length), rO R y) = (0, (st.2.2.1 : Int), ((f, 0), rO (rP R (some (st, pdO st))) y)) := by
    unfold oPattern
    show (match pread f l.length with | .inl e => _ | .inr st => _) = _
    rw [hr]
    simp only
    rw [if_pos hp]
    rfl
  refine v_act2 hK hW (fun σ' hF hW' => ?_)
  rw [e] at hW' ⊢
  exact k σ' hF ⟨y, f, hW', fun i hi => absurd hi (Nat.not_lt_zero i)⟩
theorem LO.pg {l : List Int} {R : STR} {u : Nat} {σ : zW} {st : PST} {pd : Nat → Nat} (h : LO l (rP R (some (st, pd))) u σ) : pgd st pd := by
  obtain ⟨y, f, hW, he⟩ := h
  exact (hW.1.2.1 st pd rfl).1
noncomputable def lM (R : STR) (p : Nat) : List Nat := lst (mPs (R.1 p) R.2.1) (((R.1 p).1 + 1) ^ nPs R.2.1)
theorem v_matches {K : List zF} (hK : K.length + 22 ≤ 60) {l : List Int} {R : STR} {u p : Nat} {z : Int} {σ : zW} (h : LO l R u σ) (hp : p < 3) (hz : z = (p : Int)) (k : ∀ σ', lFr 0 σ σ' → LO l R u σ' → zRet true K (some (.inl ((lM R p).length : Int))) σ') : zEv true (zent 115 [.inr (.inr 1), .inl z] :: K) σ := by
  obtain ⟨y, f, ⟨hg, u', hu, hC⟩, he⟩ := h
  subst hz
  have e : oMatches ((f, l.length), rO R y) (p : Int) = (0, ((lM R p).length : Int), ((f, l.length), rO R y)) := by
    unfold oMatches
    rw [if_pos (by omega), Int.toNat_natCast]
    rfl
  refine l_matches hK hg hC ?_
  rw [e]
  exact ⟨fun _ σ' u2 hF hC' hl2 => k σ' (lFr.of hF) ⟨y, f, ⟨hg, u2, by omega, hC'⟩, he⟩, fun x => absurd rfl x⟩
theorem v_trying {K : List zF} (hK : K.length + 22 ≤ 60) {l : List Int} {R : STR} {u p : Nat} {z : Int} {σ : zW} (h : LO l R u σ) (hp : p < 3) (hz : z = (p : Int)) (k : ∀ σ', lFr 0 σ σ' → LO l R u σ' → zRet true K (some (.inl ((lM R p).length : Int))) σ') : zEv true (zent 116 [.inr (.inr 1), .inl z] :: K) σ := by
  obtain ⟨y, f, ⟨hg, u', hu, hC⟩, he⟩ := h
  subst hz
  have e : oMatches ((f, l.length), rO R y) (p : Int) = (0, ((lM R p).length : Int), ((f, l.length), rO R y)) := by
    unfold oMatches
    rw [if_pos (by omega), Int.toNat_natCast]
    rfl
  refine l_byTrying hK hg hC ?_
  rw [e]
  exact ⟨fun _ σ' u2 hF hC' hl2 => k σ' (lFr.of hF) ⟨y, f, ⟨hg, u2, by omega, hC'⟩, he⟩, fun x => absurd rfl x⟩
/-- what is told of node j of match i -/
noncomputable def mAt (R : STR) (i j : Nat) : Int := if i < (lM R 0).length ∧ j < nPs R.2.1 then wdc ((R.1 0).1 + 1) (nPs R.2.1) ((lM R 0).getD i 0) j else -1191
theorem oMat_e {f : Nat → Int} {L i j : Nat} {R : STR} {y : TX} : (oMatchAt ((f, L), rO R y) 0 (i : Int) (j : Int)).2.2 = ((f, L), rO R y) ∧ ac κP (oMatchAt ((f, L), rO R y) 0 (i : Int) (j : Int)) = mAt R i j ∧ ((i < (lM R 0).length ∧ j < nPs R.2.1) → (oMatchAt ((f, L), rO R y) 0 (i : Int) (j : Int)).1 = 0 ∧ (oMatchAt ((f, L), rO R y) 0 (i : Int) (j : Int)).2.1 = mAt R i j) := by
  have hM : isM ((f, L), rO R y) 0 (i : Int) (j : Int) ↔ i < (lM R 0).length ∧ j < nPs R.2.1 := by
    unfold isM
    show (_ ∧ (_ ∧ (i : Int) < ((lM R 0).length : Int)) ∧ _ ∧ (j : Int) < (nPs R.2.1 : Int)) ↔ _
    constructor
    · rintro ⟨-, ⟨-, h1⟩, -, h2⟩; exact ⟨by omega, by omega⟩
    · rintro ⟨h1, h2⟩; exact ⟨by decide, ⟨by omega, by omega⟩, by omega, by omega⟩
  unfold oMatchAt mAt ac
  by_cases c : i < (lM R 0).length ∧ j < nPs R.2.1
  · rw [if_pos (hM.mpr c), if_pos c]
    exact ⟨rfl, rfl, fun _ => ⟨rfl, rfl⟩⟩
  · rw [if_neg (fun w => c (hM.mp w)), if_neg c]
    exact ⟨rfl, rfl, fun w => absurd w c⟩
theorem v_mat8 {K : List zF} (hK : K.length + 24 ≤ 60) {l : List Int} {R : STR} {u i j : Nat} {y z : Int} {σ : zW} (h : LO l R u σ) (hy : y = (i : Int)) (hz : z = (j : Int)) (k : ∀ σ', lFr 1 σ σ' → LO l R u σ' → zRet true K (some (.inl (mAt R i j))) σ') : zEv true (zent 141 [.inr (.inr 1), .inl 8, .inl 0, .inl y, .inl z] :: K) σ := by
  obtain ⟨x, f, hW, he⟩ := h
  subst hy
  subst hz
  obtain ⟨e1, e2, -⟩ := oMat_e (f := f) (L := l.length) (i := i) (j := j) (R := R) (y := x)
  refine v_of8 hK hW (fun σ' hF hW' => ?_)
  rw [e1] at hW'
  rw [e2]
  exact k σ' hF ⟨x, f, hW', he⟩
theorem v_mat9 {K : List zF} (hK : K.length + 24 ≤ 60) {l : List Int} {R : STR} {u i j : Nat} {y z : Int} {σ : zW} (h : LO l R u σ) (hy : y = (i : Int)) (hz : z = (j : Int)) (k : ∀ σ', lFr 1 σ σ' → LO l R u σ' → zRet true K (some (.inl (mAt R i j))) σ') : zEv true (zent 141 [.inr (.inr 1), .inl 9, .inl 0, .inl y, .inl z] :: K) σ := by
  obtain ⟨x, f, hW, he⟩ := h
  subst hy
  subst hz
  obtain ⟨e1, e2, -⟩ := oMat_e (f := f) (L := l.length) (i := i) (j := j) (R := R) (y := x)
  refine v_of9 hK hW (fun σ' hF hW' => ?_)
  rw [e1] at hW'
  rw [e2]
  exact k σ' hF ⟨x, f, hW', he⟩
theorem v_matD {K : List zF} (hK : K.length + 22 ≤ 60) {l : List Int} {R : STR} {u i j : Nat} {y z : Int} {σ : zW} (h : LO l R u σ) (hy : y = (i : Int)) (hz : z = (j : Int)) (hi : i < (lM R 0).length) (hj : j < nPs R.2.1) (k : ∀ σ', lFr 0 σ σ' → LO l R u σ' → zRet true K (some (.inl (mAt R i j))) σ') : zEv true (zent 117 [.inr (.inr 1), .inl 0, .inl y, .inl z] :: K) σ := by
  obtain ⟨x, f, ⟨hg, u', hu, hC⟩, he⟩ := h
  subst hy
  subst hz
  obtain ⟨e1, -, e3⟩ := oMat_e (f := f) (L := l.length) (i := i) (j := j) (R := R) (y := x)
  obtain ⟨e4, e5⟩ := e3 ⟨hi, hj⟩
  refine l_matchAt hK hg hC ?_
  refine ⟨fun _ σ' u2 hF hC' hl2 => ?_, fun x => absurd e4 x⟩
  rw [e1] at hC'
  rw [e5]
  exact k σ' (lFr.of hF) ⟨x, f, ⟨hg, u2, by omega, hC'⟩, he⟩
/-- fits -/
theorem v_fits {K : List zF} (hK : K.length + 13 ≤ 60) {l : List Int} {R : STR} {u a b : Nat} {x y : Int} {lb : Nat → Int} {σ : zW} (h : LO l R u σ) (hb : b < (R.1 0).1) (hl : labT (R.1 0) lb) (ha : a < 2147483648) (hx : x = (a : Int)) (hy : y = (b : Int)) (k : ∀ σ', lFr 0 σ σ' → LO l R u σ' → zRet true K (some (.inl (zb (fitP lb a b)))) σ') : zEv true (zent 157 [.inr (.inr 1), .inl x, .inl y] :: K) σ := by
  subst hx
  subst hy
  have hKl : K.length < 60 := by omega
  have hr : ∀ _ : Unit, zrem (a : Int) 4 = ((a % 4 : Nat) : Int) := fun _ => zrem_nat (x := a) (y := 4) (by omega) (by decide)
  rw [ze_157 hKl, hr ()]
  by_cases c : a % 4 = 0
  · rw [if_pos (by omega)]
    have := k σ lFr.rf h
    rw [zb_t (show fitP lb a b from Or.inl c)] at this
    exact this
  · rw [if_neg (by omega)]
    refine v_label (by show K.length + 1 + 11 ≤ 60; omega) h hb rfl (hl b hb).1 (hl b hb).2 (fun σ' hF hV => ?_)
    have e : w32 (w32 (65 + ((a % 4 : Nat) : Int)) - 1) = lbc a := by
      unfold lbc
      rw [if_neg c, zw_id (z := 65 + ((a % 4 : Nat) : Int)) (by omega) (by omega), zw_id (by omega) (by omega)]
      omega
    rw [zr_157_11, hr (), e, ret_if (P := fitP lb a b) (by
      unfold fitP
      rw [Decidable.not_not]
      exact ⟨fun w => w.elim (fun w => absurd w c) id, Or.inr⟩)]
    exact k σ' hF hV
/-- the plan of three plain nodes -/
theorem pl_3 {T : TRE} {st : PST} {pd : Nat → Nat} (hg : pgd st pd) (h1 : pw st) (h2 : pup st) (h3 : st.2.2.1 = 3) (hp : ∀ k, k < 3 → pln st.2.2.2.1 (np st k)) : pLn T st = 3 ∧ (pl T st 0 < 3 ∧ pl T st 1 < 3 ∧ pl T st 2 < 3) ∧ pl T st 0 ≠ pl T st 1 ∧ pl T st 0 ≠ pl T st 2 ∧ pl T st 1 ≠ pl T st 2 := by
  obtain ⟨m1, m2, m3⟩ := pLn_k T st
  obtain ⟨p1, p2, p3, p4⟩ := plan_ok hg h1 h2 m1 m2 m3
  rw [h3] at m1 p2 p4
  generalize pLn T st = m at *
  obtain ⟨a, a1, a2⟩ := p4 0 (by decide) (hp 0 (by decide))
  obtain ⟨b, b1, b2⟩ := p4 1 (by decide) (hp 1 (by decide))
  obtain ⟨c, c1, c2⟩ := p4 2 (by decide) (hp 2 (by decide))
  have hab : a ≠ b := fun e => by rw [e] at a2; omega
  have hac : a ≠ c := fun e => by rw [e] at a2; omega
  have hbc : b ≠ c := fun e => by rw [e] at b2; omega
  have hm : m = 3 := by omega
  subst hm
  exact ⟨rfl, ⟨(p2 0 (by decide)).1, (p2 1 (by decide)).1, (p2 2 (by decide)).1⟩, p3 0 1 (by decide) (by decide), p3 0 2 (by decide) (by decide), p3 1 2 (by decide) (by decide)⟩
theorem seen_all : ∀ a, a < 3 → ∀ b, b < 3 → ∀ c, c < 3 → a ≠ b → a ≠ c → b ≠ c → zor (zor (zor 0 (zshl 1 (a : Nat))) (zshl 1 (b : Nat))) (zshl 1 (c : Nat)) = w32 (zshl 1 3 - 1) := by
  intro a ha b hb c hc hab hac hbc
  have ha' : a = 0 ∨ a = 1 ∨ a = 2 := by omega
  have hb' : b = 0 ∨ b = 1 ∨ b = 2 := by omega
  have hc' : c = 0 ∨ c = 1 ∨ c = 2 := by omega
  rcases ha' with rfl | rfl | rfl <;> rcases hb' with rfl | rfl | rfl <;> rcases hc' with rfl | rfl | rfl <;> first | (exfalso; omega) | decide +kernel
theorem oPlan_e {f : Nat → Int} {L p : Nat} {i : Int} {R : STR} {y : TX} {st : PST} {pd : Nat → Nat} (hps : R.2.1 = some (st, pd)) : (oPlanAt ((f, L), rO R y) (p : Int) i).2.2 = ((f, L), rO R y) ∧ ((p < 3 ∧ (R.1 p).1 ≠ 0 ∧ 0 ≤ i ∧ i < (pLn (R.1 p) st : Int)) → (oPlanAt ((f, L), rO R y) (p : Int) i).1 = 0 ∧ (oPlanAt ((f, L), rO R y) (p : Int) i).2.1 = (pl (R.1 p) st i.toNat : Int)) ∧ (¬ ((R.1 p).1 ≠ 0 ∧ 0 ≤ i ∧ i < (pLn (R.1 p) st : Int)) → ac κP (oPlanAt ((f, L), rO R y) (p : Int) i) = -1191) := by
  have hL : isL ((f, L), rO R y) (p : Int) i ↔ p < 3 ∧ (R.1 p).1 ≠ 0 ∧ 0 ≤ i ∧ i < (pLn (R.1 p) st : Int) := by
    unfold isL
    rw [Int.toNat_natCast]
    show (_ ∧ (R.1 p).1 ≠ 0 ∧ ∃ st pd, R.2.1 = some (st, pd) ∧ 0 ≤ i ∧ i < (pLn (R.1 p) st : Int)) ↔ _
    rw [hps]
    constructor
    · rintro ⟨h1, h2, st', pd', h3, h4, h5⟩
      have e1 := congrArg Prod.fst (Option.some.inj h3)
      simp only at e1
      rw [← e1] at h5
      exact ⟨by omega, h2, h4, h5⟩
    · rintro ⟨h1, h2, h4, h5⟩; exact ⟨by omega, h2, st, pd, rfl, h4, h5⟩
  have hpo : pOf ((f, L), rO R y) = st := by
    unfold pOf
    show (match R.2.1 with | none => _ | some x => _) = _
    rw [hps]
  unfold oPlanAt ac
  by_cases c : p < 3 ∧ (R.1 p).1 ≠ 0 ∧ 0 ≤ i ∧ i < (pLn (R.1 p) st : Int)
  · rw [if_pos (hL.mpr c), hpo, Int.toNat_natCast]
    exact ⟨rfl, fun _ => ⟨rfl, rfl⟩, fun w => absurd c.2 w⟩
  · rw [if_neg (fun w => c (hL.mp w))]
    exact ⟨rfl, fun w => absurd w c, fun _ => rfl⟩
theorem v_isPlan {K : List zF} (hK : K.length + 26 ≤ 60) {l : List Int} {R : STR} {u : Nat} {σ : zW} {st : PST} {pd : Nat → Nat} (h : LO l R u σ) (hps : R.2.1 = some (st, pd)) (hg : pgd st pd) (h1 : pw st) (h2 : pup st) (h3 : st.2.2.1 = 3) (hp : ∀ k, k < 3 → pln st.2.2.2.1 (np st k)) (h0 : (R.1 0).1 ≠ 0) (h9 : (R.1 1).1 = 0) (k : ∀ σ', lFr 3 σ σ' → LO l R u σ' → zRet true K (some (.inl 1)) σ') : zEv true (zent 159 [.inr (.inr 1), .inl 3] :: K) σ := by
  have hKl : K.length < 60 := by omega
  obtain ⟨p1, ⟨p2, p3, p4⟩, p5, p6, p7⟩ := pl_3 (T := R.1 0) hg h1 h2 h3 hp
  -- a step of the plan
  have step : ∀ (i : Nat) (y : Int) (F : zF) (σ1 : zW), i < 3 → y = (i : Int) → LO l R u σ1 → (∀ σ', lFr 0 σ1 σ' → LO l R u σ' → zRet true (F :: K) (some (.inl (pl (R.1 0) st i : Int))) σ') → zEv true (zent 119 [.inr (.inr 1), .inl 0, .inl y] :: F :: K) σ1 := by
    intro i y F σ1 hi hy hV kk
    obtain ⟨x, f, ⟨hgS, u', hu, hC⟩, he⟩ := hV
    subst hy
    obtain ⟨e1, e2, -⟩ := oPlan_e (f := f) (L := l.length) (p := 0) (i := (i : Int)) (y := x) hps
    obtain ⟨e4, e5⟩ := e2 ⟨by decide, h0, by omega, by rw [p1]; omega⟩
    refine l_planAt (by show K.length + 1 + 22 ≤ 60; omega) hgS hC ?_
    refine ⟨fun _ σ' u2 hF hC' hl2 => ?_, fun x => absurd e4 x⟩
    have hC2 : CS ((f, l.length), rO R x) u2 σ' := by rw [← e1]; exact hC'
    have hv : (oPlanAt ((f, l.length), rO R x) 0 (i : Int)).2.1 = (pl (R.1 0) st i : Int) := by
      have := e5
      rw [Int.toNat_natCast] at this
      exact this
    rw [hv]
    exact kk σ' (lFr.of hF) ⟨x, f, ⟨hgS, u2, by omega, hC2⟩, he⟩
  have none9 : ∀ (p : Nat) (z i c : Int) (F : zF) (σ1 : zW), z = (p : Int) → ¬ ((R.1 p).1 ≠ 0 ∧ 0 ≤ i ∧ i < (pLn (R.1 p) st : Int)) → LO l R u σ1 → (∀ σ', lFr 1 σ1 σ' → LO l R u σ' → zRet true (F :: K) (some (.inl (-1191))) σ') → zEv true (zent 141 [.inr (.inr 1), .inl 10, .inl z, .inl i, .inl c] :: F :: K) σ1 := by
    intro p z i c F σ1 hz hn hV kk
    obtain ⟨x, f, hW, he⟩ := hV
    subst hz
    obtain ⟨e1, -, e3⟩ := oPlan_e (f := f) (L := l.length) (p := p) (i := i) (y := x) hps
    refine v_of10 (by show K.length + 1 + 24 ≤ 60; omega) hW (fun σ' hF hW' => ?_)
    rw [e1] at hW'
    rw [e3 hn]
    exact kk σ' hF ⟨x, f, hW', he⟩
  rw [ze_159, zj_159_4 hKl, if_neg (by decide)]
  refine step 0 0 _ σ (by decide) rfl h (fun σ1 hF1 hV1 => ?_)
  rw [zr_159_17, show w32 ((0 : Int) + 1) = 1 by decide, zj_159_4 hKl, if_neg (by decide)]
  refine step 1 1 _ σ1 (by decide) rfl hV1 (fun σ2 hF2 hV2 => ?_)
  rw [zr_159_17, show w32 ((1 : Int) + 1) = 2 by decide, zj_159_4 hKl, if_neg (by decide)]
  refine step 2 2 _ σ2 (by decide) rfl hV2 (fun σ3 hF3 hV3 => ?_)
  rw [zr_159_17, show w32 ((2 : Int) + 1) = 3 by decide, zj_159_4 hKl, if_pos (by decide), seen_all _ p2 _ p3 _ p4 p5 p6 p7, if_neg (fun w => w rfl)]
  refine none9 0 0 3 0 _ σ3 rfl (by rw [p1]; omega) hV3 (fun σ4 hF4 hV4 => ?_)
  rw [zr_159_44 hKl, if_neg (fun w => w rfl)]
  refine none9 0 0 (-1) 0 _ σ4 rfl (by omega) hV4 (fun σ5 hF5 hV5 => ?_)
  rw [zr_159_59 hKl, if_neg (fun w => w rfl)]
  refine none9 1 1 0 0 _ σ5 rfl (fun w => w.1 h9) hV5 (fun σ6 hF6 hV6 => ?_)
  rw [zr_159_74, if_neg (fun w => w rfl)]
  exact k σ6 ((((((hF1.trans hF2).trans hF3).trans hF4).trans hF5).trans hF6).le (by omega)) hV6
