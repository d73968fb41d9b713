/-! the calls of the class about matches -/
theorem plK_u {T : TRE} {st : PST} {m m' : Nat} (h : plK T st m) (h' : plK T st m') : m = m' := by
  rcases Nat.lt_trichotomy m m' with x | x | x
  · exact absurd h.2.2 (h'.2.1 m x)
  · exact x
  · exact absurd h'.2.2 (h.2.1 m' x)
noncomputable def pLn (T : TRE) (st : PST) : Nat := Classical.choose (plan_len (T := T) (st := st))
theorem pLn_k (T : TRE) (st : PST) : plK T st (pLn T st) := Classical.choose_spec (plan_len (T := T) (st := st))
theorem MT_0 {T : TRE} {st : PST} {pd : Nat → Nat} {c : Nat} (hg : pgd st pd) (h1c : 1 ≤ st.1) (h0 : T.1 = 0) : ¬ MT T st c := fun h => by
  obtain ⟨n1, n2⟩ := num_pos hg h1c
  obtain ⟨⟨a1, a2⟩, a3, -⟩ := h.2.1 0 n1
  have h9 := ((hg.2.1 0 h1c).2.2.2.2.2.2.2.2.1 rfl).2.1
  rw [n2] at a3
  have := a3 h9
  omega
theorem c_unsearchable {K : List zF} {S : STA} {p : Nat} {σ : zW} (hp : p < 3) (hT : kTr (qT S) σ) (hP : kPt (qP S) σ) (hg : SG S) (k1 : (qP S = none ∨ (qT S p).1 = 0) → zRet true K (some (.inl 1)) σ) (k2 : ∀ st pd, qP S = some (st, pd) → (qT S p).1 ≠ 0 → zRet true K (some (.inl 0)) σ) : zEv true (zent 130 [.inr (.inr 1), .inl (p : Int)] :: K) σ := by
  obtain ⟨t1, t2, t3⟩ := hT.1 p hp
  rw [ze_130 (by rw [Int.toNat_natCast]; exact t1) hP.1, yAnd (by omega), Int.toNat_natCast, t2.1.1]
  by_cases c0 : (qT S p).1 = 0
  · rw [if_pos (by omega)]; exact k1 (Or.inr c0)
  · rw [if_neg (by omega)]
    cases hps : qP S with
    | none =>
      rw [(hP.2.2.2.1 hps).1, if_neg (fun x => x rfl)]
      exact k1 (Or.inl hps)
    | some x =>
      obtain ⟨st, pd⟩ := x
      have h15 := (hP.2.2.2.2 st pd hps).1.1
      have hc := (hg.2.1 st pd hps).2.2.2.1
      rw [h15, if_pos (by omega)]
      exact k2 st pd hps c0
abbrev Xps (k j : Nat) : Prop := Xp k j ∨ (k = 1 ∧ j = 15)
theorem c_prepSearch {K : List zF} (hK : K.length + 5 ≤ 60) {S : STA} {p : Nat} {st : PST} {pd : Nat → Nat} {σ : zW} (hp : p < 3) (hg : SG S) (hT : kTr (qT S) σ) (hP : kPt (qP S) σ) (hQ : kPr (qT S) (qP S) σ) (hps : qP S = some (st, pd))
    (k : ∀ σ' : zW, yFr Xps σ σ' → gI σ' 1 15 = (p : Int) → sAll (gR σ' 4 p) (gR σ' 1 9) (qT S p) st pd σ' → gI σ' 41 8 = (pLn (qT S p) st : Int) → (∀ j, j < pLn (qT S p) st → gI σ' 49 j = (pl (qT S p) st j : Int)) → zRet true K none σ') : zEv true (zent 131 [.inr (.inr 1), .inl (p : Int)] :: K) σ := by
  obtain ⟨g1, g2, g3, g4, g5⟩ := hg.2.1 st pd hps
  obtain ⟨t1, t2, t3⟩ := hT.1 p hp
  rw [ze_131 (by omega)]
  by_cases c : gI σ 1 15 = (p : Int)
  · rw [if_pos c]
    rcases hQ with h | ⟨p', st', pd', m, h1, h2, h3, h4, h5, h6, h7⟩
    · omega
    · have ep : p' = p := by omega
      subst ep
      rw [hps] at h2
      have e1 := congrArg Prod.fst (Option.some.inj h2)
      have e2 := congrArg Prod.snd (Option.some.inj h2)
      simp only at e1 e2
      subst e1
      subst e2
      have em := plK_u h5 (pLn_k (qT S p') st)
      rw [em] at h6 h7
      exact k σ yFr.rf h3 h4 h6 h7
  · rw [if_neg c, yAnd (by omega), Int.toNat_natCast]
    obtain ⟨hP1, hA1⟩ := hP.2.2.2.2 st pd hps
    obtain ⟨m1, m2, m3⟩ := pLn_k (qT S p) st
    refine c_prepare (by show K.length + 1 + 3 ≤ 60; omega) (hg.1 p hp) g1 g2 g3 g4 g5 t1 hP.1 t2 hP1 hA1 m1 m2 m3 (fun σ1 hF1 hS1 h8 h49 => ?_)
    rw [zr_131_25]
    have hF2 : yFr (fun k j => k = 1 ∧ j = 15) σ1 (sI σ1 1 15 (p : Int)) := yFr.rf.I ⟨rfl, rfl⟩
    have e15 : gI (sI σ1 1 15 (p : Int)) 1 15 = (p : Int) := yGI_hit
    generalize sI σ1 1 15 (p : Int) = σ2 at hF2 e15 ⊢
    have ha : gR σ 4 p = 5 ∨ gR σ 4 p = 17 ∨ gR σ 4 p = 29 ∨ gR σ 4 p = 68 := t1
    have hb : gR σ 1 9 = 80 ∨ gR σ 1 9 = 95 := hP.1
    refine k σ2 ((hF1.mono (fun k j x => Or.inl x)).trans (hF2.mono (fun k j x => Or.inr x))) e15 ?_ ((hF2.i (by omega)).trans h8) (fun j hj => (hF2.i (by omega)).trans (h49 j hj))
    rw [hF2.r (by omega), hF2.r (by omega), hF1.r (by omega), hF1.r (by omega)]
    exact sAll_fr2 hS1 hF2 (fun k j x => by omega)
abbrev Xfd (tf k j : Nat) : Prop := (k = tf ∧ 1 ≤ j) ∨ k = tf + 1 ∨ Xps k j ∨ Xr tf k j
theorem kPt_16 {S : STA} {σ : zW} (hP : kPt (qP S) σ) : gI σ (gR σ 1 9) 16 = (nPs (qP S) : Int) := by
  cases hps : qP S with
  | none => exact (hP.2.2.2.1 hps).2
  | some x =>
    obtain ⟨st, pd⟩ := x
    exact (hP.2.2.2.2 st pd hps).1.2.2.1
theorem nPs_le {S : STA} (hg : SG S) : nPs (qP S) ≤ 4 := by
  cases hps : qP S with
  | none => exact Nat.zero_le _
  | some x =>
    obtain ⟨st, pd⟩ := x
    exact (hg.2.1 st pd hps).2.1.2.1
theorem mPs_no {S : STA} {p : Nat} (hg : SG S) (h : qP S = none ∨ (qT S p).1 = 0) (c : Nat) : ¬ mPs (qT S p) (qP S) c := by
  cases hps : qP S with
  | none => exact fun x => x
  | some x =>
    obtain ⟨st, pd⟩ := x
    obtain ⟨g1, g2, g3, g4, g5⟩ := hg.2.1 st pd hps
    rcases h with h | h
    · rw [hps] at h; cases h
    · exact MT_0 g1 g4 h
/-- the matches found anew, whichever way -/
theorem c_findNew {K : List zF} {tf : Nat} {S : STA} {u p : Nat} {σ : zW} (htf : zFo tf) (hp : p < 3) (hg : SG S) (hC : CS S u σ) {σ' : zW} (hF : yFr (Xfd tf) σ σ') (hQ : kPr (qT S) (qP S) σ') (h1 : gI σ' tf 1 = (p : Int)) (hf : fdS tf ((qT S p).1 + 1) (nPs (qP S)) (mPs (qT S p) (qP S)) σ') : CS S u σ' := by
  have htf' : tf = 50 ∨ tf = 52 := htf
  have hX : ∀ k j, Xfd tf k j → (k = tf ∧ 1 ≤ j) ∨ k = tf + 1 ∨ (k = 41 ∧ (8 ≤ j ∧ j ≤ 12)) ∨ (42 ≤ k ∧ k ≤ 49) ∨ (k = 1 ∧ j = 15) := fun k j x => by
    rcases x with x | x | (x | x) | x
    · exact Or.inl x
    · exact Or.inr (Or.inl x)
    · have x' : (k = 41 ∧ (j = 8 ∨ j = 10 ∨ j = 11)) ∨ (42 ≤ k ∧ k ≤ 45) ∨ k = 49 := x
      omega
    · omega
    · have x' : (k = 41 ∧ (j = 9 ∨ j = 12)) ∨ k = 46 ∨ k = 47 ∨ k = 48 ∨ (k = tf ∧ j = 5) ∨ k = tf + 1 := x
      omega
  obtain ⟨h1', h2, h3, h4, h5, h6, h7, h8, h9, h10⟩ := hC
  have hnew : kFd tf (qT S) (qP S) σ' := Or.inr ⟨p, hp, h1, hf⟩
  refine ⟨cT_fr h1' hF (fun k j x => by have := hX k j x; omega), kTr_fr h2 hF (fun k j x => by have := hX k j x; omega), kPt_fr h3 hF (fun k j x => by have := hX k j x; omega), kSc_fr h4 hF (fun k j x => by have := hX k j x; omega), kFl_fr h5 hF (fun k j x => by have := hX k j x; omega), cO_fr h6 hF (fun k j x => by have := hX k j x; omega), cH_fr h7 hF (fun k j w x => by have := hX k j x; omega), hQ, ?_, ?_⟩
  · rcases htf with e | e
    · rw [e] at hnew; exact hnew
    · exact kFd_fr h9 hF (fun k j x => by have := hX k j x; omega)
  · rcases htf with e | e
    · exact kFd_fr h10 hF (fun k j x => by have := hX k j x; omega)
    · rw [e] at hnew; exact hnew
theorem c_find {K : List zF} {tf : Nat} {S : STA} {u p : Nat} {σ : zW} (htf : zFo tf) (hp : p < 3) (hg : SG S) (hC : CS S u σ) (hne : gI σ tf 1 ≠ (p : Int)) (hK : K.length + 6 ≤ 60)
    (run : ∀ (K' : List zF) (st : PST) (pd ℓ : Nat → Nat) (t tp m : Nat) (P : Nat → Prop) (σ1 : zW), qP S = some (st, pd) → sAll t tp (qT S p) st pd σ1 → fdS tf ((qT S p).1 + 1) st.2.2.1 P σ1 → plOK st ℓ m → gI σ1 41 8 = (m : Int) → (∀ j, j < m → gI σ1 49 j = (ℓ j : Int)) → K'.length = K.length + 1 → (∀ (σ' : zW) (Q : Nat → Prop), yFr (Xr tf) σ1 σ' → fdS tf ((qT S p).1 + 1) st.2.2.1 Q σ' → (∀ c, Q c ↔ (P c ∨ MT (qT S p) st c)) → zRet true K' none σ') → zEv true (zent (if tf = 50 then 72 else 73) [.inr (.inr 41), .inr (.inr tf)] :: K') σ1)
    (F1 F2 F3 F4 : zF)
    (e1 : ∀ σ, zRet true (F1 :: K) none σ = zEv true (zent 130 [.inr (.inr 1), .inl (p : Int)] :: F2 :: K) σ)
    (e2 : ∀ (v : Int) σ, zRet true (F2 :: K) (some (.inl v)) σ = if ¬ v = 0 then zRet true K none σ else zEv true (zent 131 [.inr (.inr 1), .inl (p : Int)] :: F3 :: K) σ)
    (e3 : ∀ σ, zRet true (F3 :: K) none σ = zEv true (zent (if tf = 50 then 72 else 73) [.inr (.inr 41), .inr (.inr tf)] :: F4 :: K) σ)
    (e4 : ∀ σ, zRet true (F4 :: K) none σ = zRet true K none σ)
    (k : ∀ σ' : zW, yFr (fun k _ => k < 122) σ σ' → CS S u σ' → gI σ' tf 1 = (p : Int) → fdS tf ((qT S p).1 + 1) (nPs (qP S)) (mPs (qT S p) (qP S)) σ' → zRet true K none σ') : zEv true (zent 23 [.inr (.inr tf), .inl (p : Int), .inl ((qT S p).1 : Int), .inl (nPs (qP S) : Int)] :: F1 :: K) σ := by
  have htf' : tf = 50 ∨ tf = 52 := htf
  have hn := (hg.1 p hp).1.1
  refine c_foundClear htf hn (nPs_le hg) rfl rfl (fun σ1 hF1 hf1 h11 => ?_)
  rw [e1]
  have hT1 : kTr (qT S) σ1 := kTr_fr hC.2.1 hF1 (fun k j x => by omega)
  have hP1 : kPt (qP S) σ1 := kPt_fr hC.2.2.1 hF1 (fun k j x => by omega)
  have hQ1 : kPr (qT S) (qP S) σ1 := kPr_fr hC.2.2.2.2.2.2.2.1 hF1 (fun k j x => by omega)
  have hF1' : yFr (Xfd tf) σ σ1 := hF1.mono (fun k j x => x.imp id (fun y => Or.inl y))
  have low : ∀ k j, Xfd tf k j → k < 122 := fun k j x => by
    rcases x with x | x | (x | x) | x
    · omega
    · omega
    · have x' : (k = 41 ∧ (j = 8 ∨ j = 10 ∨ j = 11)) ∨ (42 ≤ k ∧ k ≤ 45) ∨ k = 49 := x
      omega
    · omega
    · have x' : (k = 41 ∧ (j = 9 ∨ j = 12)) ∨ k = 46 ∨ k = 47 ∨ k = 48 ∨ (k = tf ∧ j = 5) ∨ k = tf + 1 := x
      omega
  refine c_unsearchable hp hT1 hP1 hg (fun h => ?_) (fun st pd hps h0 => ?_)
  · rw [e2, if_pos (by decide)]
    have hf2 : fdS tf ((qT S p).1 + 1) (nPs (qP S)) (mPs (qT S p) (qP S)) σ1 := fdS_c hf1 (fun c => ⟨fun x => x.elim, fun x => mPs_no hg h c x⟩)
    exact k σ1 (hF1'.mono low) (c_findNew (K := K) htf hp hg hC hF1' hQ1 h11 hf2) h11 hf2
  · rw [e2, if_neg (fun x => x rfl)]
    refine c_prepSearch (by show K.length + 1 + 5 ≤ 60; omega) hp hg hT1 hP1 hQ1 hps (fun σ2 hF2 h15 hS2 h8 h49 => ?_)
    rw [e3]
    have hX2 : ∀ k j, Xps k j → (k = 41 ∧ (8 ≤ j ∧ j ≤ 12)) ∨ (42 ≤ k ∧ k ≤ 49) ∨ (k = 1 ∧ j = 15) := fun k j x => by
      rcases x with x | x
      · have x' : (k = 41 ∧ (j = 8 ∨ j = 10 ∨ j = 11)) ∨ (42 ≤ k ∧ k ≤ 45) ∨ k = 49 := x
        omega
      · omega
    obtain ⟨g1, g2, g3, g4, g5⟩ := hg.2.1 st pd hps
    have hN : nPs (qP S) = st.2.2.1 := by rw [hps]; rfl
    have hf2 : fdS tf ((qT S p).1 + 1) st.2.2.1 (fun _ => False) σ2 := by
      rw [← hN]
      exact fdS_fr hf1 hF2 (fun k j x => by have := hX2 k j x; omega)
    obtain ⟨m1, m2, m3⟩ := pLn_k (qT S p) st
    refine run (F4 :: K) st pd (pl (qT S p) st) _ _ (pLn (qT S p) st) _ σ2 hps hS2 hf2 (plan_ok g1 g2 g3 m1 m2 m3) h8 h49 rfl (fun σ3 Q hF3 hQ hQc => ?_)
    rw [e4]
    have hX3 : ∀ k j, Xr tf k j → (k = 41 ∧ (j = 9 ∨ j = 12)) ∨ k = 46 ∨ k = 47 ∨ k = 48 ∨ (k = tf ∧ j = 5) ∨ k = tf + 1 := fun k j x => x
    have hf3 : fdS tf ((qT S p).1 + 1) (nPs (qP S)) (mPs (qT S p) (qP S)) σ3 := by
      rw [hN, hps]
      refine fdS_c hQ (fun c => (hQc c).trans ⟨fun x => ?_, fun x => Or.inr x⟩)
      rcases x with x | x
      · exact x.elim
      · exact x
    have h13 : gI σ3 tf 1 = (p : Int) := (hF3.i (fun x => by have := hX3 _ _ x; omega)).trans ((hF2.i (fun x => by have := hX2 _ _ x; omega)).trans h11)
    have hFall : yFr (Xfd tf) σ σ3 := hF1'.trans ((hF2.mono (fun k j x => Or.inr (Or.inr (Or.inl x)))).trans (hF3.mono (fun k j x => Or.inr (Or.inr (Or.inr x)))))
    have hQ2 : kPr (qT S) (qP S) σ2 := Or.inr ⟨p, st, pd, _, hp, hps, h15, hS2, pLn_k (qT S p) st, h8, h49⟩
    have hQ3 : kPr (qT S) (qP S) σ3 := kPr_fr hQ2 hF3 (fun k j x => by have := hX3 k j x; omega)
    exact k σ3 (hFall.mono low) (c_findNew (K := K) htf hp hg hC hFall hQ3 h13 hf3) h13 hf3
theorem c_planned {K : List zF} (hK : K.length + 18 ≤ 60) {S : STA} {u p : Nat} {σ : zW} (hp : p < 3) (hg : SG S) (hC : CS S u σ)
    (k : ∀ σ' : zW, yFr (fun k _ => k < 122) σ σ' → CS S u σ' → gI σ' 50 1 = (p : Int) → fdS 50 ((qT S p).1 + 1) (nPs (qP S)) (mPs (qT S p) (qP S)) σ' → zRet true K none σ') : zEv true (zent 133 [.inr (.inr 1), .inl (p : Int)] :: K) σ := by
  obtain ⟨t1, t2, t3⟩ := hC.2.1.1 p hp
  have hcc : K.length < 60 := by omega
  rw [ze_133 hcc (by rw [Int.toNat_natCast]; exact t1) hC.2.2.1.1]
  by_cases c : gI σ 50 1 = (p : Int)
  · rw [if_neg (fun x => x c)]
    rcases hC.2.2.2.2.2.2.2.2.1 with h | ⟨p', h1, h2, h3⟩
    · omega
    · have e : p' = p := by omega
      subst e
      exact k σ yFr.rf hC c h3
  · rw [if_pos c, yAnd (by omega), Int.toNat_natCast, t2.1.1, kPt_16 hC.2.2.1]
    refine c_find (Or.inl rfl) hp hg hC c (by omega) (fun K' st pd ℓ t tp m P σ1 hps hS hf hl h8 h49 hKl kk => ?_) _ (133, 41, [some (.inr (.inr 1)), some (.inl (p : Int))], []) (133, 49, [some (.inr (.inr 1)), some (.inl (p : Int))], []) (133, 60, [some (.inr (.inr 1)), some (.inl (p : Int))], []) (fun σ => zr_133_36 hcc) (fun v σ => zr_133_41 hcc) (fun σ => zr_133_49 hcc) (fun σ => zr_133_60) k
    obtain ⟨g1, g2, g3, g4, g5⟩ := hg.2.1 st pd hps
    exact c_runPlan (by omega) (hg.1 p hp) g1 g2 g3 g4 (Or.inl rfl) hS hf hl h8 h49 kk
theorem c_tried {K : List zF} (hK : K.length + 18 ≤ 60) {S : STA} {u p : Nat} {σ : zW} (hp : p < 3) (hg : SG S) (hC : CS S u σ)
    (k : ∀ σ' : zW, yFr (fun k _ => k < 122) σ σ' → CS S u σ' → gI σ' 52 1 = (p : Int) → fdS 52 ((qT S p).1 + 1) (nPs (qP S)) (mPs (qT S p) (qP S)) σ' → zRet true K none σ') : zEv true (zent 134 [.inr (.inr 1), .inl (p : Int)] :: K) σ := by
  obtain ⟨t1, t2, t3⟩ := hC.2.1.1 p hp
  have hcc : K.length < 60 := by omega
  rw [ze_134 hcc (by rw [Int.toNat_natCast]; exact t1) hC.2.2.1.1]
  by_cases c : gI σ 52 1 = (p : Int)
  · rw [if_neg (fun x => x c)]
    rcases hC.2.2.2.2.2.2.2.2.2 with h | ⟨p', h1, h2, h3⟩
    · omega
    · have e : p' = p := by omega
      subst e
      exact k σ yFr.rf hC c h3
  · rw [if_pos c, yAnd (by omega), Int.toNat_natCast, t2.1.1, kPt_16 hC.2.2.1]
    refine c_find (Or.inr rfl) hp hg hC c (by omega) (fun K' st pd ℓ t tp m P σ1 hps hS hf hl h8 h49 hKl kk => ?_) _ (134, 41, [some (.inr (.inr 1)), some (.inl (p : Int))], []) (134, 49, [some (.inr (.inr 1)), some (.inl (p : Int))], []) (134, 60, [some (.inr (.inr 1)), some (.inl (p : Int))], []) (fun σ => zr_134_36 hcc) (fun v σ => zr_134_41 hcc) (fun σ => zr_134_49 hcc) (fun σ => zr_134_60) k
    obtain ⟨g1, g2, g3, g4, g5⟩ := hg.2.1 st pd hps
    exact c_runAll (by omega) (hg.1 p hp) g1 g2 g3 (Or.inr rfl) hS hf kk
noncomputable def lMt (S : STA) (p : Nat) : List Nat := lst (mPs (qT S p) (qP S)) (((qT S p).1 + 1) ^ nPs (qP S))
noncomputable def oMatches (S : STA) (z : Int) : OUT := if 0 ≤ z ∧ z < 3 then (0, ((lMt S z.toNat).length : Int), S) else (1, 0, S)
def isM (S : STA) (z i j : Int) : Prop := (0 ≤ z ∧ z < 3) ∧ (0 ≤ i ∧ i < ((lMt S z.toNat).length : Int)) ∧ 0 ≤ j ∧ j < (nPs (qP S) : Int)
noncomputable def oMatchAt (S : STA) (z i j : Int) : OUT := @ite OUT (isM S z i j) (Classical.propDecidable _) (0, wdc ((qT S z.toNat).1 + 1) (nPs (qP S)) ((lMt S z.toNat).getD i.toNat 0) j.toNat, S) (1, 0, S)
def isL (S : STA) (z i : Int) : Prop := (0 ≤ z ∧ z < 3) ∧ (qT S z.toNat).1 ≠ 0 ∧ ∃ st pd, qP S = some (st, pd) ∧ 0 ≤ i ∧ i < (pLn (qT S z.toNat) st : Int)
noncomputable def pOf (S : STA) : PST := match qP S with
  | none => (0, 0, 0, fun _ _ => 0, fun _ => 0)
  | some x => x.1
noncomputable def oPlanAt (S : STA) (z i : Int) : OUT := @ite OUT (isL S z i) (Classical.propDecidable _) (0, (pl (qT S z.toNat) (pOf S) i.toNat : Int), S) (1, 0, S)
theorem l_matches {K : List zF} (hK : K.length + 22 ≤ 60) {S : STA} {u : Nat} {z : Int} {σ : zW} (hg : SG S) (hC : CS S u σ) (k : kOp κP S u σ K (oMatches S z)) : zEv true (zent 115 [.inr (.inr 1), .inl z] :: K) σ := by
  rw [ze_115 (by show K.length < 60; omega), c_requirePlace (by show K.length + 1 < 60; omega)]
  unfold oMatches at k
  by_cases hp : 0 ≤ z ∧ z < 3
  · rw [if_pos hp] at k ⊢
    obtain ⟨p, rfl⟩ : ∃ p : Nat, z = p := ⟨z.toNat, by omega⟩
    have hp3 : p < 3 := by omega
    rw [Int.toNat_natCast] at k
    rw [zr_115_4 (by show K.length < 60; omega)]
    refine c_planned (by show K.length + 1 + 18 ≤ 60; omega) hp3 hg hC (fun σ' hF hC' h1 hf => ?_)
    rw [zr_115_9, hf.2.2.2.2.1]
    exact k_ok k rfl rfl hF hC' (Nat.le_refl u)
  · rw [if_neg hp] at k ⊢
    rw [zThr_no (m := 115) rfl]
    exact k_ex (e := 1) k rfl (by decide) yFr.rf hC (Nat.le_refl u)
theorem l_byTrying {K : List zF} (hK : K.length + 22 ≤ 60) {S : STA} {u : Nat} {z : Int} {σ : zW} (hg : SG S) (hC : CS S u σ) (k : kOp κP S u σ K (oMatches S z)) : zEv true (zent 116 [.inr (.inr 1), .inl z] :: K) σ := by
  rw [ze_116 (by show K.length < 60; omega), c_requirePlace (by show K.length + 1 < 60; omega)]
  unfold oMatches at k
  by_cases hp : 0 ≤ z ∧ z < 3
  · rw [if_pos hp] at k ⊢
    obtain ⟨p, rfl⟩ : ∃ p : Nat, z = p := ⟨z.toNat, by omega⟩
    have hp3 : p < 3 := by omega
    rw [Int.toNat_natCast] at k
    rw [zr_116_4 (by show K.length < 60; omega)]
    refine c_tried (by show K.length + 1 + 18 ≤ 60; omega) hp3 hg hC (fun σ' hF hC' h1 hf => ?_)
    rw [zr_116_9, hf.2.2.2.2.1]
    exact k_ok k rfl rfl hF hC' (Nat.le_refl u)
  · rw [if_neg hp] at k ⊢
    rw [zThr_no (m := 116) rfl]
    exact k_ex (e := 1) k rfl (by decide) yFr.rf hC (Nat.le_refl u)
theorem c_requireMatch {K : List zF} {tf : Nat} {S : STA} {p : Nat} {i j : Int} {σ : zW} (htf : zFo tf) (hp : p < 3) (hP : kPt (qP S) σ) (hf : fdS tf ((qT S p).1 + 1) (nPs (qP S)) (mPs (qT S p) (qP S)) σ) (k1 : isM S (p : Int) i j → zRet true K none σ) (k2 : ¬ isM S (p : Int) i j → zThr true K 2 (zex σ)) : zEv true (zent 128 [.inr (.inr 1), .inr (.inr tf), .inl i, .inl j] :: K) σ := by
  have h5 : gI σ tf 5 = ((lMt S p).length : Int) := hf.2.2.2.2.1
  have h16 := kPt_16 (S := S) hP
  have hM : isM S (p : Int) i j ↔ (0 ≤ i ∧ i < ((lMt S p).length : Int)) ∧ 0 ≤ j ∧ j < (nPs (qP S) : Int) := by
    unfold isM
    rw [Int.toNat_natCast]
    exact ⟨fun x => x.2, fun x => ⟨by omega, x⟩⟩
  rw [hM] at k1 k2
  rw [ze_128 htf hP.1, h5, h16]
  by_cases a1 : i < 0
  · rw [if_pos a1, zj_128_12]; exact k2 (fun x => by omega)
  · rw [if_neg a1]
    by_cases a2 : i < ((lMt S p).length : Int)
    · rw [if_pos a2]
      by_cases a3 : j < 0
      · rw [if_pos a3, zj_128_38]; exact k2 (fun x => by omega)
      · rw [if_neg a3]
        by_cases a4 : j < (nPs (qP S) : Int)
        · rw [if_pos a4]; exact k1 ⟨⟨by omega, a2⟩, by omega, a4⟩
        · rw [if_neg a4, zj_128_38]; exact k2 (fun x => a4 x.2.2)
    · rw [if_neg a2, zj_128_12]; exact k2 (fun x => a2 x.1.2)
theorem getD_some {l : List Nat} {i : Nat} (h : i < l.length) : l[i]? = some (l.getD i 0) := by
  rw [List.getD_eq_getElem?_getD, List.getElem?_eq_getElem h]; rfl
theorem l_matchAt {K : List zF} (hK : K.length + 22 ≤ 60) {S : STA} {u : Nat} {z i j : Int} {σ : zW} (hg : SG S) (hC : CS S u σ) (k : kOp κP S u σ K (oMatchAt S z i j)) : zEv true (zent 117 [.inr (.inr 1), .inl z, .inl i, .inl j] :: K) σ := by
  rw [ze_117 (by show K.length < 60; omega), c_requirePlace (by show K.length + 1 < 60; omega)]
  unfold oMatchAt at k
  by_cases hp : 0 ≤ z ∧ z < 3
  · rw [if_pos hp]
    obtain ⟨p, rfl⟩ : ∃ p : Nat, z = p := ⟨z.toNat, by omega⟩
    have hp3 : p < 3 := by omega
    have hn := (hg.1 p hp3).1.1
    rw [Int.toNat_natCast] at k
    rw [zr_117_4 (by show K.length < 60; omega)]
    refine c_planned (by show K.length + 1 + 18 ≤ 60; omega) hp3 hg hC (fun σ' hF hC' h1 hf => ?_)
    rw [zr_117_9 (by show K.length < 60; omega)]
    refine c_requireMatch (Or.inl rfl) hp3 hC'.2.2.1 hf (fun hm => ?_) (fun hm => ?_)
    · rw [if_pos hm] at k
      obtain ⟨-, ⟨i0, i1⟩, j0, j1⟩ := hm
      rw [Int.toNat_natCast] at i1
      have hi : i.toNat < (lMt S p).length := by omega
      rw [zr_117_19 (by show K.length < 60; omega), c_nodeIn (j := j.toNat) (by show K.length + 1 + 2 < 60; omega) (Or.inl rfl) (by omega) (Nat.le_add_left 1 _) (nPs_le hg) hf (getD_some hi) (by omega) (by omega) (by omega), zr_117_28]
      exact k_ok k rfl rfl hF hC' (Nat.le_refl u)
    · rw [if_neg hm] at k
      rw [zThr_no (m := 117) rfl]
      exact k_ex (e := 1) k rfl (by decide) hF hC' (Nat.le_refl u)
  · rw [if_neg (fun x => hp x.1)] at k
    rw [if_neg hp, zThr_no (m := 117) rfl]
    exact k_ex (e := 1) k rfl (by decide) yFr.rf hC (Nat.le_refl u)
theorem l_matchTry {K : List zF} (hK : K.length + 22 ≤ 60) {S : STA} {u : Nat} {z i j : Int} {σ : zW} (hg : SG S) (hC : CS S u σ) (k : kOp κP S u σ K (oMatchAt S z i j)) : zEv true (zent 118 [.inr (.inr 1), .inl z, .inl i, .inl j] :: K) σ := by
  rw [ze_118 (by show K.length < 60; omega), c_requirePlace (by show K.length + 1 < 60; omega)]
  unfold oMatchAt at k
  by_cases hp : 0 ≤ z ∧ z < 3
  · rw [if_pos hp]
    obtain ⟨p, rfl⟩ : ∃ p : Nat, z = p := ⟨z.toNat, by omega⟩
    have hp3 : p < 3 := by omega
    have hn := (hg.1 p hp3).1.1
    rw [Int.toNat_natCast] at k
    rw [zr_118_4 (by show K.length < 60; omega)]
    refine c_tried (by show K.length + 1 + 18 ≤ 60; omega) hp3 hg hC (fun σ' hF hC' h1 hf => ?_)
    rw [zr_118_9 (by show K.length < 60; omega)]
    refine c_requireMatch (Or.inr rfl) hp3 hC'.2.2.1 hf (fun hm => ?_) (fun hm => ?_)
    · rw [if_pos hm] at k
      obtain ⟨-, ⟨i0, i1⟩, j0, j1⟩ := hm
      rw [Int.toNat_natCast] at i1
      have hi : i.toNat < (lMt S p).length := by omega
      rw [zr_118_19 (by show K.length < 60; omega), c_nodeIn (j := j.toNat) (by show K.length + 1 + 2 < 60; omega) (Or.inr rfl) (by omega) (Nat.le_add_left 1 _) (nPs_le hg) hf (getD_some hi) (by omega) (by omega) (by omega), zr_118_28]
      exact k_ok k rfl rfl hF hC' (Nat.le_refl u)
    · rw [if_neg hm] at k
      rw [zThr_no (m := 118) rfl]
      exact k_ex (e := 1) k rfl (by decide) hF hC' (Nat.le_refl u)
  · rw [if_neg (fun x => hp x.1)] at k
    rw [if_neg hp, zThr_no (m := 118) rfl]
    exact k_ex (e := 1) k rfl (by decide) yFr.rf hC (Nat.le_refl u)
theorem CS_prep {S : STA} {u p : Nat} {st : PST} {pd : Nat → Nat} {σ σ' : zW} (hp : p < 3) (hC : CS S u σ) (hps : qP S = some (st, pd)) (hF : yFr Xps σ σ') (h15 : gI σ' 1 15 = (p : Int)) (hS : sAll (gR σ' 4 p) (gR σ' 1 9) (qT S p) st pd σ') (h8 : gI σ' 41 8 = (pLn (qT S p) st : Int)) (h49 : ∀ j, j < pLn (qT S p) st → gI σ' 49 j = (pl (qT S p) st j : Int)) : CS S u σ' := by
  have hX : ∀ k j, Xps k j → (k = 41 ∧ (8 ≤ j ∧ j ≤ 12)) ∨ (42 ≤ k ∧ k ≤ 49) ∨ (k = 1 ∧ j = 15) := fun k j x => by
    rcases x with x | x
    · have x' : (k = 41 ∧ (j = 8 ∨ j = 10 ∨ j = 11)) ∨ (42 ≤ k ∧ k ≤ 45) ∨ k = 49 := x
      omega
    · omega
  obtain ⟨h1', h2, h3, h4, h5, h6, h7, -, h9, h10⟩ := hC
  exact ⟨cT_fr h1' hF (fun k j x => by have := hX k j x; omega), kTr_fr h2 hF (fun k j x => by have := hX k j x; omega), kPt_fr h3 hF (fun k j x => by have := hX k j x; omega), kSc_fr h4 hF (fun k j x => by have := hX k j x; omega), kFl_fr h5 hF (fun k j x => by have := hX k j x; omega), cO_fr h6 hF (fun k j x => by have := hX k j x; omega), cH_fr h7 hF (fun k j w x => by have := hX k j x; omega), Or.inr ⟨p, st, pd, _, hp, hps, h15, hS, pLn_k (qT S p) st, h8, h49⟩, kFd_fr h9 hF (fun k j x => by have := hX k j x; omega), kFd_fr h10 hF (fun k j x => by have := hX k j x; omega)⟩
theorem l_planAt {K : List zF} (hK : K.length + 22 ≤ 60) {S : STA} {u : Nat} {z i : Int} {σ : zW} (hg : SG S) (hC : CS S u σ) (k : kOp κP S u σ K (oPlanAt S z i)) : zEv true (zent 119 [.inr (.inr 1), .inl z, .inl i] :: K) σ := by
  rw [ze_119 (by show K.length < 60; omega), c_requirePlace (by show K.length + 1 < 60; omega)]
  unfold oPlanAt at k
  by_cases hp : 0 ≤ z ∧ z < 3
  · rw [if_pos hp]
    obtain ⟨p, rfl⟩ : ∃ p : Nat, z = p := ⟨z.toNat, by omega⟩
    have hp3 : p < 3 := by omega
    rw [Int.toNat_natCast] at k
    rw [zr_119_4 (by show K.length < 60; omega)]
    refine c_unsearchable hp3 hC.2.1 hC.2.2.1 hg (fun h => ?_) (fun st pd hps h0 => ?_)
    · rw [if_neg (fun x => by
        obtain ⟨x1, x2, st, pd, x3, -⟩ := x
        rw [Int.toNat_natCast] at x2
        rcases h with h | h
        · rw [h] at x3; cases x3
        · exact x2 h)] at k
      rw [zr_119_9 (by show K.length < 60; omega), if_neg (by decide)]
      exact k_ex (e := 1) k rfl (by decide) yFr.rf hC (Nat.le_refl u)
    · rw [zr_119_9 (by show K.length < 60; omega), if_pos rfl]
      refine c_prepSearch (by show K.length + 1 + 5 ≤ 60; omega) hp3 hg hC.2.1 hC.2.2.1 hC.2.2.2.2.2.2.2.1 hps (fun σ2 hF2 h15 hS2 h8 h49 => ?_)
      have hC2 := CS_prep hp3 hC hps hF2 h15 hS2 h8 h49
      have hlow : ∀ k j, Xps k j → k < 122 := fun k j x => by
        rcases x with x | x
        · have x' : (k = 41 ∧ (j = 8 ∨ j = 10 ∨ j = 11)) ∨ (42 ≤ k ∧ k ≤ 45) ∨ k = 49 := x
          omega
        · omega
      have hpo : pOf S = st := by unfold pOf; rw [hps]
      have hL : isL S (p : Int) i ↔ 0 ≤ i ∧ i < (pLn (qT S p) st : Int) := by
        unfold isL
        rw [Int.toNat_natCast]
        constructor
        · rintro ⟨-, -, st', pd', x3, x4⟩
          rw [hps] at x3
          have e1 := congrArg Prod.fst (Option.some.inj x3)
          simp only at e1
          rw [e1]; exact x4
        · exact fun x => ⟨by omega, h0, st, pd, hps, x⟩
      have hm4 : pLn (qT S p) st ≤ 4 := by
        have h1 := (pLn_k (qT S p) st).1
        have h2 := (hg.2.1 st pd hps).2.1.2.1
        omega
      rw [zr_119_27, h8]
      by_cases a1 : i < 0
      · rw [if_neg (fun x => by have := hL.mp x; omega)] at k
        rw [if_pos a1, zj_119_42]
        exact k_ex (e := 1) k rfl (by decide) (hF2.mono hlow) hC2 (Nat.le_refl u)
      · rw [if_neg a1]
        by_cases a2 : i < (pLn (qT S p) st : Int)
        · rw [if_pos (hL.mpr ⟨by omega, a2⟩), hpo] at k
          rw [if_pos a2, yAnd (by omega), h49 i.toNat (by omega)]
          exact k_ok k rfl rfl (hF2.mono hlow) hC2 (Nat.le_refl u)
        · rw [if_neg (fun x => a2 (hL.mp x).2)] at k
          rw [if_neg a2, zj_119_42]
          exact k_ex (e := 1) k rfl (by decide) (hF2.mono hlow) hC2 (Nat.le_refl u)
  · rw [if_neg (fun x => hp x.1)] at k
    rw [if_neg hp, zThr_no (m := 119) rfl]
    exact k_ex (e := 1) k rfl (by decide) yFr.rf hC (Nat.le_refl u)
