/-! what is refused -/
def tin (t : (Nat × Nat) ⊕ TRE) (a b : Nat) : Bool := match t with | .inl e => e.1 == a && e.2 == b | .inr _ => false
theorem tin_e {t : (Nat × Nat) ⊕ TRE} {a b : Nat} (h : tin t a b = true) : t = .inl (a, b) := by
  cases t with
  | inl e =>
    have h' : (e.1 == a && e.2 == b) = true := h
    rw [Bool.and_eq_true, beq_iff_eq, beq_iff_eq] at h'
    rw [← h'.1, ← h'.2]
  | inr _ => exact Bool.noConfusion h
def pin (t : (Nat × Nat) ⊕ PST) (a b : Nat) : Bool := match t with | .inl e => e.1 == a && e.2 == b | .inr _ => false
theorem pin_e {t : (Nat × Nat) ⊕ PST} {a b : Nat} (h : pin t a b = true) : t = .inl (a, b) := by
  cases t with
  | inl e =>
    have h' : (e.1 == a && e.2 == b) = true := h
    rw [Bool.and_eq_true, beq_iff_eq, beq_iff_eq] at h'
    rw [← h'.1, ← h'.2]
  | inr _ => exact Bool.noConfusion h
def sin (t : (Nat × Nat) ⊕ (Nat × (Nat → EDT))) (a b : Nat) : Bool := match t with | .inl e => e.1 == a && e.2 == b | .inr _ => false
theorem sin_e {t : (Nat × Nat) ⊕ (Nat × (Nat → EDT))} {a b : Nat} (h : sin t a b = true) : t = .inl (a, b) := by
  cases t with
  | inl e =>
    have h' : (e.1 == a && e.2 == b) = true := h
    rw [Bool.and_eq_true, beq_iff_eq, beq_iff_eq] at h'
    rw [← h'.1, ← h'.2]
  | inr _ => exact Bool.noConfusion h
def badw : Nat → List Int
  | 0 => [40, 97]
  | n + 1 => badw n ++ [32, 98]
theorem badw_len : ∀ n, (badw n).length = 2 * n + 2 := by
  intro n
  induction n with
  | zero => rfl
  | succ n ih => rw [badw, List.length_append, ih]; show 2 * n + 2 + 2 = _; omega
theorem bad_read : ∀ n, n < 12 → tin (tread (lfn (badw n ++ [36])) (badw n ++ [36]).length) 1 (2 + 2 * n) = true := by decide +kernel
theorem bad_pat : pin (pread (lfn [65, 32, 60]) 3) 1 3 = true := by decide +kernel
theorem bad_scr : sin (sread (lfn [112, 112, 32]) 3) 1 0 = true := by decide +kernel
theorem byl_a : byl 24872 2 = [40, 97] := by decide +kernel
theorem byl_b : byl 25120 2 = [32, 98] := by decide +kernel
theorem byl_p : byl 3940417 3 = [65, 32, 60] := by decide +kernel
theorem byl_s : byl 2125936 3 = [112, 112, 32] := by decide +kernel
/-- a question about a place that is none -/
theorem v_badof {K : List zF} (hK : K.length + 24 ≤ 60) {R : STR} {u i : Nat} {x z b c : Int} {σ : zW} (h : LO [] R u σ) (hi : i < 13) (hx : x = (i : Int)) (hz : ¬ (0 ≤ z ∧ z < 3)) (k : ∀ σ', lFr 1 σ σ' → LO [] R u σ' → zRet true K (some (.inl (-1191))) σ') : zEv true (zent 141 [.inr (.inr 1), .inl x, .inl z, .inl b, .inl c] :: K) σ := by
  obtain ⟨y, f, hW, he⟩ := h
  subst hx
  have hW : LW ((f, 0), rO R y) u σ := hW
  have go : ∀ (o : OUT), (∃ S', o = (1, 0, S') ∧ S' = ((f, 0), rO R y)) → ∀ σ', lFr 1 σ σ' → LW o.2.2 u σ' → zRet true K (some (.inl (ac κP o))) σ' := by
    rintro o ⟨S', rfl, rfl⟩ σ' hF hW'
    exact k σ' hF ⟨y, f, hW', he⟩
  have hN : ∀ w, ¬ isN ((f, 0), rO R y) z w := fun w q => hz q.1
  have hi' : i = 0 ∨ i = 1 ∨ i = 2 ∨ i = 3 ∨ i = 4 ∨ i = 5 ∨ i = 6 ∨ i = 7 ∨ i = 8 ∨ i = 9 ∨ i = 10 ∨ i = 11 ∨ i = 12 := by omega
  rcases hi' with rfl | rfl | rfl | rfl | rfl | rfl | rfl | rfl | rfl | rfl | rfl | rfl | rfl
  · exact v_of0 (by omega) hW (go _ ⟨_, by unfold oNodes; rw [if_neg hz], rfl⟩)
  · exact v_of1 (by omega) hW (go _ ⟨_, by unfold oParent oNode; rw [if_neg (hN _)], rfl⟩)
  · exact v_of2 (by omega) hW (go _ ⟨_, by unfold oKids oNode; rw [if_neg (hN _)], rfl⟩)
  · exact v_of3 (by omega) hW (go _ ⟨_, by unfold oWordOf oNode; rw [if_neg (hN _)], rfl⟩)
  · exact v_of4 (by omega) hW (go _ ⟨_, by unfold oWith; rw [if_neg hz]; rfl, rfl⟩)
  · exact v_of5 (by omega) hW (go _ ⟨_, by unfold oWith; rw [if_neg hz]; rfl, rfl⟩)
  · exact v_of6 (by omega) hW (go _ ⟨_, by unfold oMatches; rw [if_neg hz], rfl⟩)
  · exact v_of7 (by omega) hW (go _ ⟨_, by unfold oMatches; rw [if_neg hz], rfl⟩)
  · exact v_of8 (by omega) hW (go _ ⟨_, by unfold oMatchAt; rw [if_neg (fun q => hz q.1)], rfl⟩)
  · exact v_of9 (by omega) hW (go _ ⟨_, by unfold oMatchAt; rw [if_neg (fun q => hz q.1)], rfl⟩)
  · exact v_of10 (by omega) hW (go _ ⟨_, by unfold oPlanAt; rw [if_neg (fun q => hz q.1)], rfl⟩)
  · exact v_of11 (by omega) hW (go _ ⟨_, by unfold oShow; rw [if_neg hz], rfl⟩)
  · exact v_of12 (by omega) hW (go _ ⟨_, by unfold oLabel; rw [if_neg (hN _)], rfl⟩)
/-- a question about a node that is none -/
theorem v_badnode {K : List zF} (hK : K.length + 24 ≤ 60) {R : STR} {u i : Nat} {x b c : Int} {σ : zW} (h : LO [] R u σ) (hi : i = 1 ∨ i = 2 ∨ i = 3 ∨ i = 12) (hx : x = (i : Int)) (hb : b < 0 ∨ ((R.1 0).1 : Int) ≤ b) (k : ∀ σ', lFr 1 σ σ' → LO [] R u σ' → zRet true K (some (.inl (-1191))) σ') : zEv true (zent 141 [.inr (.inr 1), .inl x, .inl 0, .inl b, .inl c] :: K) σ := by
  obtain ⟨y, f, hW, he⟩ := h
  subst hx
  have hW : LW ((f, 0), rO R y) u σ := hW
  have go : ∀ (o : OUT), (∃ S', o = (1, 0, S') ∧ S' = ((f, 0), rO R y)) → ∀ σ', lFr 1 σ σ' → LW o.2.2 u σ' → zRet true K (some (.inl (ac κP o))) σ' := by
    rintro o ⟨S', rfl, rfl⟩ σ' hF hW'
    exact k σ' hF ⟨y, f, hW', he⟩
  have hN : ¬ isN ((f, 0), rO R y) 0 b := fun q => by
    have h3 : b < ((R.1 0).1 : Int) := q.2.2
    have h2 := q.2.1
    omega
  rcases hi with rfl | rfl | rfl | rfl
  · exact v_of1 (by omega) hW (go _ ⟨_, by unfold oParent oNode; rw [if_neg hN], rfl⟩)
  · exact v_of2 (by omega) hW (go _ ⟨_, by unfold oKids oNode; rw [if_neg hN], rfl⟩)
  · exact v_of3 (by omega) hW (go _ ⟨_, by unfold oWordOf oNode; rw [if_neg hN], rfl⟩)
  · exact v_of12 (by omega) hW (go _ ⟨_, by unfold oLabel; rw [if_neg hN], rfl⟩)
/-- what is done to a place that is none -/
theorem v_badact {K : List zF} (hK : K.length + 26 ≤ 60) {l : List Int} {R : STR} {u i : Nat} {w : Int64} {x z : Int} {σ : zW} (h : LO l R u σ) (hi : i = 1 ∧ l ≠ [] ∨ i = 4 ∧ l = [] ∨ i = 5 ∧ l = []) (hu : u < 512) (hx : x = (i : Int)) (hz : ¬ (0 ≤ z ∧ z < 3)) (k : ∀ σ', lFr 1 σ σ' → LO [] R (u + 1) σ' → zRet true K (some (.inl (-1191))) σ') : zEv true (zent 140 [.inr (.inr 1), .inl x, .inr (.inl w), .inl z] :: K) σ := by
  obtain ⟨y, f, hW, he⟩ := h
  subst hx
  have hW1 : LW ((f, l.length), rO R y) (u + 1) σ := ⟨hW.1, hW.2.imp (fun u' q => ⟨by omega, q.2⟩)⟩
  have e0 : eqT ([] : List Int).length f (lfn []) := fun i hi => absurd hi (Nat.not_lt_zero i)
  rcases hi with ⟨rfl, -⟩ | ⟨rfl, rfl⟩ | ⟨rfl, rfl⟩
  · refine v_act1 (by omega) hW1 (fun σ' hF hW' => ?_)
    have e : oPlant ((f, l.length), rO R y) z = (1, 0, qDr ((f, l.length), rO R y)) := by unfold oPlant; rw [if_neg hz]
    rw [e] at hW' ⊢
    exact k σ' hF ⟨y, f, hW', e0⟩
  · refine v_act4 hK hW hu (fun σ' hF hW' => ?_)
    have e : oEdit ((f, ([] : List Int).length), rO R y) z = (1, 0, ((f, ([] : List Int).length), rO R y)) := by unfold oEdit; rw [if_neg hz]
    rw [e] at hW' ⊢
    exact k σ' hF ⟨y, f, hW', e0⟩
  · refine v_act5 (by omega) hW1 hu (fun σ' hF hW' => ?_)
    have e : oUndo ((f, ([] : List Int).length), rO R y) z = (1, 0, ((f, ([] : List Int).length), rO R y)) := by unfold oUndo; rw [if_neg hz]
    rw [e] at hW' ⊢
    exact k σ' hF ⟨y, f, hW', e0⟩
/-- the fault in place of what it was -/
def rX (R : STR) (a b : Nat) : STR := (R.1, R.2.1, R.2.2.1, ((a : Int), (b : Int)), R.2.2.2.2.1, R.2.2.2.2.2)
theorem v_badplant {K : List zF} (hK : K.length + 14 ≤ 60) {l : List Int} {R : STR} {u a b : Nat} {w : Int64} {z : Int} {σ : zW} (h : LO l R u σ) (hr : tread (lfn l) l.length = .inl (a, b)) (hz : 0 ≤ z ∧ z < 3) (k : ∀ σ', lFr 1 σ σ' → LO [] (rX R a b) u σ' → zRet true K (some (.inl (-1193))) σ') : zEv true (zent 140 [.inr (.inr 1), .inl 1, .inr (.inl w), .inl z] :: K) σ := by
  obtain ⟨y, f, hW, he⟩ := h
  rw [← tread_cg he] at hr
  have e : oPlant ((f, l.length), rO R y) z = (2, 0, ((f, 0), rO (rX R a b) y)) := by
    unfold oPlant
    rw [if_pos hz]
    show (match tread f l.length with | .inl e => _ | .inr T => _) = _
    rw [hr]
    rfl
  refine v_act1 hK hW (fun σ' hF hW' => ?_)
  rw [e] at hW' ⊢
  exact k σ' hF ⟨y, f, hW', fun i hi => absurd hi (Nat.not_lt_zero i)⟩
theorem v_badpat {K : List zF} (hK : K.length + 14 ≤ 60) {l : List Int} {R : STR} {u a b : Nat} {w : Int64} {z : Int} {σ : zW} (h : LO l R u σ) (hr : pread (lfn l) l.length = .inl (a, b)) (k : ∀ σ', lFr 1 σ σ' → LO [] (rX R a b) u σ' → zRet true K (some (.inl (-1193))) σ') : zEv true (zent 140 [.inr (.inr 1), .inl 2, .inr (.inl w), .inl z] :: K) σ := by
  obtain ⟨y, f, hW, he⟩ := h
  rw [← pread_cg he] at hr
  have e : oPattern ((f, l.length), rO R y) = (1, 0, ((f, 0), rO (rX R a b) y)) := by
    unfold oPattern
    show (match pread f l.length with | .inl e => _ | .inr st => _) = _
    rw [hr]
    rfl
  refine v_act2 hK hW (fun σ' hF hW' => ?_)
  rw [e] at hW' ⊢
  exact k σ' hF ⟨y, f, hW', fun i hi => absurd hi (Nat.not_lt_zero i)⟩
theorem v_badscr {K : List zF} (hK : K.length + 14 ≤ 60) {l : List Int} {R : STR} {u a b : Nat} {w : Int64} {z : Int} {σ : zW} (h : LO l R u σ) (hr : sread (lfn l) l.length = .inl (a, b)) (k : ∀ σ', lFr 1 σ σ' → LO [] (rX R a b) u σ' → zRet true K (some (.inl (-1193))) σ') : zEv true (zent 140 [.inr (.inr 1), .inl 3, .inr (.inl w), .inl z] :: K) σ := by
  obtain ⟨y, f, hW, he⟩ := h
  rw [← sread_cg he] at hr
  have e : oScript ((f, l.length), rO R y) = (1, 0, ((f, 0), rO (rX R a b) y)) := by
    unfold oScript
    show (match sread f l.length with | .inl e => _ | .inr st => _) = _
    rw [hr]
    rfl
  refine v_act3 hK hW (fun σ' hF hW' => ?_)
  rw [e] at hW' ⊢
  exact k σ' hF ⟨y, f, hW', fun i hi => absurd hi (Nat.not_lt_zero i)⟩
/-- feeding what is told whatever the out -/
theorem v_feedO {K : List zF} (hK : K.length + 8 ≤ 60) {l l2 : List Int} {R : STR} {u n : Nat} {x : Int64} {z : Int} {σ : zW} (h : LO l R u σ) (hz : z = (n : Int)) (hn : 1 ≤ n ∧ n ≤ 8) (hl : l.length + n ≤ 600) (he : l ++ byl x n = l2) (k : ∀ σ' v, lFr 1 σ σ' → LO l2 R u σ' → zRet true K (some (.inl v)) σ') : zEv true (zent 140 [.inr (.inr 1), .inl 0, .inr (.inl x), .inl z] :: K) σ := by
  obtain ⟨y, h⟩ := h
  refine v_feed hK h hz hn hl (fun σ' hF hV => ?_)
  rw [he] at hV
  exact k σ' _ hF ⟨y, hV⟩
theorem v_saysO {K : List zF} (hK : K.length + 9 ≤ 60) {l : List Int} {R : STR} {u : Nat} {z : Int} {σ : zW} (h : LO l R u σ) (h0 : 0 ≤ z) (h1 : z < 256) (hl : l.length < 600) (k : ∀ σ', lFr 1 σ σ' → LO (l ++ [z]) R u σ' → zRet true K none σ') : zEv true (zent 142 [.inr (.inr 1), .inl z] :: K) σ := by
  obtain ⟨y, h⟩ := h
  exact v_says hK h h0 h1 hl (fun σ' hF hV => k σ' hF ⟨y, hV⟩)
theorem v_isRefused {K : List zF} (hK : K.length + 27 ≤ 60) {Ts : Nat → TRE} {H : Nat → List TRE} {u x : Nat} {y : Int} {σ : zW} (h : LT Ts H u σ) (hm : gI σ 123 0 = ((Ts 0).1 : Int)) (h9 : (Ts 0).1 ≤ 9) (hu : u + 3 < 512) (hx : x < 2147483648) (hy : y = (x : Int)) (k : ∀ σ', lFr 60 σ σ' → LT Ts H (u + 4) σ' → zRet true K (some (.inl 1)) σ') : zEv true (zent 164 [.inr (.inr 1), .inr (.inr 123), .inl y] :: K) σ := by
  have hKl : K.length < 60 := by omega
  obtain ⟨ps, sc, fx, h⟩ := h
  subst hy
  have r30 : ∀ _ : Unit, zrem (x : Int) 30 = ((x % 30 : Nat) : Int) := fun _ => zrem_nat (x := x) (y := 30) (by omega) (by decide)
  have r2 : ∀ _ : Unit, zrem (x : Int) 2 = ((x % 2 : Nat) : Int) := fun _ => zrem_nat (x := x) (y := 2) (by omega) (by decide)
  have d2 : ∀ _ : Unit, zrem (zdiv (x : Int) 2) 12 = ((x / 2 % 12 : Nat) : Int) := fun _ => by
    have g9 : zdiv (x : Int) 2 = ((x / 2 : Nat) : Int) := zdiv_pos (a := x) (b := 2) hx (by decide)
    rw [g9]
    exact zrem_nat (x := x / 2) (y := 12) (by omega) (by decide)
  have d24 : ∀ _ : Unit, zrem (zdiv (x : Int) 24) 3 = ((x / 24 % 3 : Nat) : Int) := fun _ => by
    have g9 : zdiv (x : Int) 24 = ((x / 24 : Nat) : Int) := zdiv_pos (a := x) (b := 24) hx (by decide)
    rw [g9]
    exact zrem_nat (x := x / 24) (y := 3) (by omega) (by decide)
  have hKs : ∀ F : zF, (F :: K).length + 8 ≤ 60 := fun F => by show K.length + 1 + 8 ≤ 60; omega
  have hK1 : ∀ F : zF, (F :: K).length + 24 ≤ 60 := fun F => by show K.length + 1 + 24 ≤ 60; omega
  have hK2 : ∀ F : zF, (F :: K).length + 26 ≤ 60 := fun F => by show K.length + 1 + 26 ≤ 60; omega
  have hK3 : ∀ F : zF, (F :: K).length + 14 ≤ 60 := fun F => by show K.length + 1 + 14 ≤ 60; omega
  rw [ze_164 hKl, r2 (), r30 (), hm]
  generalize hpl : (if ¬ ((x % 2 : Nat) : Int) = 0 then w32 (3 + ((x % 30 : Nat) : Int)) else w32 (-1 - ((x % 30 : Nat) : Int))) = pl
  generalize hno : (if ¬ ((x % 2 : Nat) : Int) = 0 then w32 (((Ts 0).1 : Int) + ((x % 30 : Nat) : Int)) else w32 (-1 - ((x % 30 : Nat) : Int))) = no
  have hpl' : ¬ (0 ≤ pl ∧ pl < 3) := by
    rw [← hpl]
    split
    · rw [zw_id (by omega) (by omega)]; omega
    · rw [zw_id (by omega) (by omega)]; omega
  have hno' : no < 0 ∨ ((Ts 0).1 : Int) ≤ no := by
    rw [← hno]
    split
    · rw [zw_id (by omega) (by omega)]; omega
    · rw [zw_id (by omega) (by omega)]; omega
  refine v_all (by show K.length + 1 + 23 ≤ 60; omega) h (fun σ1 hF1 hV1 => ?_)
  generalize hA : allH _ _ = A
  rw [zr_164_51 hKl, r2 (), r30 ()]
  obtain ⟨y1, hV1⟩ := hV1
  refine v_badfeed (hKs _) hV1 (by
    split
    · right; decide
    · left; rw [zw_id (by omega) (by omega)]; omega) (fun σ2 hF2 hV2 => ?_)
  have hV2 : LO [] (Ts, ps, sc, fx, (0, fun _ => 0), H) u σ2 := ⟨y1, hV2⟩
  rw [zr_164_78 hKl, if_neg (fun w => w rfl)]
  refine v_badact (i := 4) (hK2 _) hV2 (Or.inr (Or.inl ⟨rfl, rfl⟩)) (by omega) rfl hpl' (fun σ3 hF3 hV3 => ?_)
  rw [zr_164_91 hKl, if_neg (fun w => w rfl)]
  refine v_badact (i := 5) (hK2 _) hV3 (Or.inr (Or.inr ⟨rfl, rfl⟩)) (by omega) rfl hpl' (fun σ4 hF4 hV4 => ?_)
  have hF04 : lFr 3 σ σ4 := (((hF1.trans hF2).trans hF3).trans hF4).le (by omega)
  rw [zr_164_104, if_neg (fun w => w rfl)]
  -- behind the questions
  have rest : ∀ (σ5 : zW) (o8 o9 : Option zV), lFr 16 σ σ5 → LO [] (Ts, ps, sc, fx, (0, fun _ => 0), H) (u + 2) σ5 → zEv true ((164, 160, [some (.inr (.inr 1)), some (.inr (.inr 123)), some (.inl (x : Int)), some (.inl pl), some (.inl no), some (.inr (.inl A)), none, some (.inl 1), o8, o9], []) :: K) σ5 := by
    intro σ5 o8 o9 hF5 hV5
    rw [zj_164_160 hKl, if_neg (by decide)]
    refine v_badnode (i := 1) (hK1 _) hV5 (by decide) rfl hno' (fun σ6 hF6 hV6 => ?_)
    rw [zr_164_174 hKl, if_neg (fun w => w rfl)]
    refine v_badnode (i := 2) (hK1 _) hV6 (by decide) rfl hno' (fun σ7 hF7 hV7 => ?_)
    rw [zr_164_189 hKl, if_neg (fun w => w rfl)]
    refine v_badnode (i := 3) (hK1 _) hV7 (by decide) rfl hno' (fun σ8 hF8 hV8 => ?_)
    rw [zr_164_204 hKl, if_neg (fun w => w rfl)]
    refine v_badnode (i := 12) (hK1 _) hV8 (by decide) rfl hno' (fun σ9 hF9 hV9 => ?_)
    have hF09 : lFr 20 σ σ9 := ((((hF5.trans hF6).trans hF7).trans hF8).trans hF9).le (by omega)
    rw [zr_164_220 hKl, if_neg (fun w => w rfl)]
    refine v_saysO (by show K.length + 1 + 9 ≤ 60; omega) hV9 (by decide) (by decide) (by decide) (fun σ10 hF10 hV10 => ?_)
    rw [zr_164_239 hKl, if_neg (by decide)]
    refine v_badact (i := 1) (hK2 _) hV10 (Or.inl ⟨rfl, fun q => by cases q⟩) (by omega) rfl hpl' (fun σ11 hF11 hV11 => ?_)
    rw [zr_164_251 hKl, if_neg (fun w => w rfl), d2 ()]
    refine v_feedO (n := 2) (l2 := badw 0) (hKs _) hV11 rfl (by decide) (by decide) (by rw [byl_a]; rfl) (fun σ12 v12 hF12 hV12 => ?_)
    have hF12 : lFr 23 σ σ12 := (((hF09.trans hF10).trans hF11).trans hF12).le (by omega)
    have hg : x / 2 % 12 < 12 := Nat.mod_lt _ (by decide)
    generalize x / 2 % 12 = g at hg
    rw [zr_164_281]
    have loop : ∀ (m j : Nat) (σ13 : zW), g - j = m → j ≤ g → lFr (23 + j) σ σ13 → LO (badw j) (Ts, ps, sc, fx, (0, fun _ => 0), H) (u + 3) σ13 → zEv true ((164, 285, [some (.inr (.inr 1)), some (.inr (.inr 123)), some (.inl (x : Int)), some (.inl pl), some (.inl no), some (.inr (.inl A)), none, some (.inl 1), some (.inl (g : Int)), some (.inl (j : Int))], []) :: K) σ13 := by
      intro m
      induction m with
      | succ m ih =>
        intro j σ13 hm hj hF13 hV13
        rw [zj_164_285 hKl, if_neg (by omega)]
        refine v_feedO (n := 2) (l2 := badw (j + 1)) (hKs _) hV13 rfl (by decide) (by rw [badw_len]; omega) (by rw [byl_b]; rfl) (fun σ14 v14 hF14 hV14 => ?_)
        rw [zr_164_301, ws1 (by omega)]
        exact ih (j + 1) σ14 (by omega) (by omega) ((hF13.trans hF14).le (by omega)) hV14
      | zero =>
        intro j σ13 hm hj hF13 hV13
        have e : j = g := by omega
        subst e
        rw [zj_164_285 hKl, if_pos (by omega)]
        refine v_saysO (by show K.length + 1 + 9 ≤ 60; omega) hV13 (by decide) (by decide) (by rw [badw_len]; omega) (fun σ14 hF14 hV14 => ?_)
        rw [zr_164_314 hKl, if_neg (by decide), d24 ()]
        refine v_badplant (hK3 _) hV14 (tin_e (bad_read j hg)) (by omega) (fun σ15 hF15 hV15 => ?_)
        rw [zr_164_331 hKl, if_neg (fun w => w rfl), e_fault hV15, zr_164_342 hKl, if_neg (fun w => w rfl), e_fault hV15, zr_164_351 hKl, if_neg (fun w => w (by
          rw [zw_id (z := 2 * (j : Int)) (by omega) (by omega), zw_id (by omega) (by omega)]
          show ((2 + 2 * j : Nat) : Int) = _
          omega))]
        refine v_feedO (n := 3) (l2 := [65, 32, 60]) (hKs _) hV15 rfl (by decide) (by decide) (by rw [byl_p]; rfl) (fun σ16 v16 hF16 hV16 => ?_)
        rw [zr_164_376 hKl, if_neg (by decide)]
        refine v_badpat (hK3 _) hV16 (pin_e bad_pat) (fun σ17 hF17 hV17 => ?_)
        rw [zr_164_389 hKl, if_neg (fun w => w rfl), e_fault hV17, zr_164_400 hKl, if_neg (fun w => w rfl), e_fault hV17, zr_164_409 hKl, if_neg (fun w => w rfl)]
        refine v_feedO (n := 3) (l2 := [112, 112, 32]) (hKs _) hV17 rfl (by decide) (by decide) (by rw [byl_s]; rfl) (fun σ18 v18 hF18 hV18 => ?_)
        rw [zr_164_429 hKl, if_neg (by decide)]
        refine v_badscr (hK3 _) hV18 (sin_e bad_scr) (fun σ19 hF19 hV19 => ?_)
        rw [zr_164_442 hKl, if_neg (fun w => w rfl), e_fault hV19, zr_164_453 hKl, if_neg (fun w => w rfl), e_fault hV19, zr_164_462 hKl, if_neg (fun w => w rfl)]
        refine v_all (by show K.length + 1 + 23 ≤ 60; omega) hV19 (fun σ20 hF20 hV20 => ?_)
        have hz : zlc A A = 0 := by unfold zlc; simp
        rw [zr_164_469, ← hA]
        rw [← hA] at hz
        have hF : lFr 60 σ σ20 := (((((((hF13.trans hF14).trans hF15).trans hF16).trans hF17).trans hF18).trans hF19).trans hF20).le (by omega)
        have hL : LT Ts H (u + 4) σ20 := LT.of (hV20.le (by omega))
        refine Eq.mpr (congrArg id (if_neg (fun w => w hz))) ?_
        exact k σ20 hF hL
    exact loop _ 0 σ12 rfl (Nat.zero_le _) hF12 hV12
  have qs : ∀ (m i : Nat) (σ5 : zW) (o9 : Option zV), 13 - i = m → i ≤ 13 → lFr (3 + i) σ σ5 → LO [] (Ts, ps, sc, fx, (0, fun _ => 0), H) (u + 2) σ5 → zEv true ((164, 120, [some (.inr (.inr 1)), some (.inr (.inr 123)), some (.inl (x : Int)), some (.inl pl), some (.inl no), some (.inr (.inl A)), none, some (.inl 1), some (.inl (i : Int)), o9], []) :: K) σ5 := by
    intro m
    induction m with
    | zero =>
      intro i σ5 o9 hm hi hF5 hV5
      rw [zj_164_120 hKl, if_pos (by omega)]
      exact rest σ5 _ _ (hF5.le (by omega)) hV5
    | succ m ih =>
      intro i σ5 o9 hm hi hF5 hV5
      rw [zj_164_120 hKl, if_neg (by omega), if_neg (by decide)]
      refine v_badof (i := i) (hK1 _) hV5 (by omega) rfl hpl' (fun σ6 hF6 hV6 => ?_)
      rw [zr_164_141, if_neg (fun w => w rfl), ws1 (by omega)]
      exact ih (i + 1) σ6 o9 (by omega) (by omega) ((hF5.trans hF6).le (by omega)) hV6
  exact qs _ 0 σ4 _ rfl (Nat.zero_le _) hF04 hV4
