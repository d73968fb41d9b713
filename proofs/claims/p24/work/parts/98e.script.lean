/-! the four scripts of the law -/
def srt (t : (Nat × Nat) ⊕ (Nat × (Nat → EDT))) (d : EDT) : Bool := match t with | .inl _ => false | .inr r => r.1 == 1 && decide (r.2 0 = d)
theorem srt_e {t : (Nat × Nat) ⊕ (Nat × (Nat → EDT))} {d : EDT} (h : srt t d = true) : ∃ r, t = .inr r ∧ r.1 = 1 ∧ r.2 0 = d := by
  cases t with
  | inl e => exact Bool.noConfusion h
  | inr r =>
    have h' : (r.1 == 1 && decide (r.2 0 = d)) = true := h
    rw [Bool.and_eq_true, beq_iff_eq, decide_eq_true_eq] at h'
    exact ⟨r, rfl, h'.1, h'.2⟩
def esT (i : Nat) : List Int := if i = 0 then [114, 101, 110, 97, 109, 101, 32, 120, 32, 81] else if i = 1 then [100, 101, 108, 101, 116, 101, 32, 121, 32] else if i = 2 then [119, 114, 97, 112, 32, 121, 32, 81, 32] else [97, 100, 100, 32, 81, 32, 108, 97, 115, 116, 32, 120]
def esD (i : Nat) : EDT := if i = 0 then (0, 23, -1, zi2l 81, -1) else if i = 1 then (1, 24, -1, 0, -1) else if i = 2 then (3, 24, -1, zi2l 81, -1) else (4, -1, 23, zi2l 81, 1)
theorem scr_i : ∀ i, i < 4 → srt (sread (lfn (esT i)) (esT i).length) (esD i) = true := by decide +kernel
theorem byl_w0 : byl 8656030004266558834 8 = [114, 101, 110, 97, 109, 101, 32, 120] := by decide +kernel
theorem byl_w1 : byl 8728087628436235620 8 = [100, 101, 108, 101, 116, 101, 32, 121] := by decide +kernel
theorem byl_w2 : byl 5845805496558252663 8 = [119, 114, 97, 112, 32, 121, 32, 81] := by decide +kernel
theorem byl_w3 : byl 7020021451971650657 8 = [97, 100, 100, 32, 81, 32, 108, 97] := by decide +kernel
theorem byl_v0 : byl 20768 2 = [32, 81] := by decide +kernel
theorem byl_v1 : byl 32 1 = [32] := by decide +kernel
theorem byl_v3 : byl 2015392883 4 = [115, 116, 32, 120] := by decide +kernel
/-- the script in place of what it was -/
def rS (R : STR) (r : Nat × (Nat → EDT)) : STR := (R.1, R.2.1, r, (0, 0), R.2.2.2.2.1, R.2.2.2.2.2)
/-- a place's tree and what is kept of it -/
def rT (R : STR) (T : TRE) (l : List TRE) : STR := (fup R.1 0 T, R.2.1, R.2.2.1, R.2.2.2.1, R.2.2.2.2.1, fup R.2.2.2.2.2 0 l)
theorem v_script {K : List zF} (hK : K.length + 14 ≤ 60) {l : List Int} {R : STR} {u : Nat} {w : Int64} {z : Int} {r : Nat × (Nat → EDT)} {σ : zW} (h : LO l R u σ) (hr : sread (lfn l) l.length = .inr r) (h1 : r.1 = 1) (k : ∀ σ', lFr 1 σ σ' → LO [] (rS R r) u σ' → zRet true K (some (.inl 1)) σ') : zEv true (zent 140 [.inr (.inr 1), .inl 3, .inr (.inl w), .inl z] :: K) σ := by
  obtain ⟨y, f, hW, he⟩ := h
  rw [← sread_cg he] at hr
  have e : oScript ((f, l.length), rO R y) = (0, 1, ((f, 0), rO (rS R r) y)) := by
    unfold oScript
    show (match sread f l.length with | .inl e => _ | .inr st => _) = _
    rw [hr]
    simp only
    rw [if_pos (show r.1 ≤ 8 by omega), h1]
    rfl
  refine v_act3 hK hW (fun σ' hF hW' => ?_)
  rw [e] at hW' ⊢
  exact k σ' hF ⟨y, f, hW', fun i hi => absurd hi (Nat.not_lt_zero i)⟩
theorem bnd_x {w q a b : Nat} : bndP (st2 w q) (vec2 a b) 23 = (a : Int) ∧ bndP (st2 w q) (vec2 a b) 24 = (b : Int) ∧ bndP (st2 w q) (vec2 a b) (-1) = -1 := by
  obtain ⟨p0, p1⟩ := pl2 w q
  have g3 : (st2 w q).2.2.2.1 13 23 = 0 := by rw [giv2]; rfl
  have g4 : (st2 w q).2.2.2.1 13 24 = 1 := by rw [giv2]; rfl
  have n0 : (st2 w q).2.2.2.1 8 0 = 0 := p0.2.2.2.1
  have n1 : (st2 w q).2.2.2.1 8 1 = 1 := p1.2.2.2.1
  refine ⟨?_, ?_, ?_⟩
  · unfold bndP
    rw [if_neg (by decide), show (23 : Int).toNat = 23 from rfl, g3, if_neg (by decide), show (0 : Int).toNat = 0 from rfl, n0, if_neg (by decide)]
    rfl
  · unfold bndP
    rw [if_neg (by decide), show (24 : Int).toNat = 24 from rfl, g4, if_neg (by decide), show (1 : Int).toNat = 1 from rfl, n1, if_neg (by decide)]
    rfl
  · unfold bndP
    rw [if_pos (by decide)]
/-- an edit without a match -/
theorem v_edit0 {K : List zF} (hK : K.length + 26 ≤ 60) {R : STR} {u : Nat} {w : Int64} {σ : zW} (h : LO [] R u σ) (hu : u < 512) (hm : lM R 0 = []) (k : ∀ σ', lFr 1 σ σ' → LO [] R (u + 1) σ' → zRet true K (some (.inl 0)) σ') : zEv true (zent 140 [.inr (.inr 1), .inl 4, .inr (.inl w), .inl 0] :: K) σ := by
  obtain ⟨y, f, hW, he⟩ := h
  have e : oEdit ((f, ([] : List Int).length), rO R y) 0 = (0, 0, ((f, ([] : List Int).length), rO R y)) := by
    unfold oEdit
    rw [if_pos (by decide)]
    show (match lM R 0 with | [] => _ | c :: _ => _) = _
    rw [hm]
  refine v_act4 hK hW hu (fun σ' hF hW' => ?_)
  rw [e] at hW' ⊢
  exact k σ' hF ⟨y, f, hW', he⟩
/-- the state in which the law edits -/
def eST (R : STR) (w q a b : Nat) (d : EDT) : Prop := (∃ pd, R.2.1 = some (st2 w q, pd)) ∧ R.2.2.1.1 = 1 ∧ R.2.2.1.2 0 = d ∧ ∃ c l, lM R 0 = c :: l ∧ wdc ((R.1 0).1 + 1) 2 c = vec2 a b
theorem edit_e {R : STR} {w q a b : Nat} {d : EDT} (h : eST R w q a b d) (hn : enm d (bndP (st2 w q) (vec2 a b) d.2.1) (bndP (st2 w q) (vec2 a b) d.2.2.1)) (f : Nat → Int) (y : TX) : oEdit ((f, 0), rO R y) 0 = (match pedit (rwT (R.1 0)) 20 d (bndP (st2 w q) (vec2 a b) d.2.1) (bndP (st2 w q) (vec2 a b) d.2.2.1) with | none => (2, 0, ((f, 0), rO R y)) | some z => (0, 1, ((f, 0), rO (rT R (z.1.1, z.1.2.1, z.1.2.2.1) (R.1 0 :: R.2.2.2.2.2 0)) y))) := by
  obtain ⟨⟨pd, h1⟩, h2, h3, c, l, h4, h5⟩ := h
  have hpo : pOf ((f, 0), rO R y) = st2 w q := by
    unfold pOf
    show (match R.2.1 with | none => _ | some x => _) = _
    rw [h1]
  have hnp : nPs R.2.1 = 2 := by rw [h1]; show (st2 w q).2.2.1 = 2; rw [st2_e]
  unfold oEdit
  rw [if_pos (by decide)]
  show (match lM R 0 with | [] => _ | c :: _ => (match edL (pOf ((f, 0), rO R y)) (wdc ((R.1 0).1 + 1) (nPs R.2.1) c) R.2.2.1.2 R.2.2.1.1 0 (rfT (R.1 0)) 0 with | none => _ | some o => _)) = _
  rw [h4]
  simp only
  rw [hpo, hnp, h5, h2]
  have hen : enm (R.2.2.1.2 0) (bndP (st2 w q) (vec2 a b) (R.2.2.1.2 0).2.1) (bndP (st2 w q) (vec2 a b) (R.2.2.1.2 0).2.2.1) := by rw [h3]; exact hn
  cases hp : pedit (rwT (R.1 0)) 20 d (bndP (st2 w q) (vec2 a b) d.2.1) (bndP (st2 w q) (vec2 a b) d.2.2.1) with
  | none =>
    have e := edL_0 (es := R.2.2.1.2) (n := 0) (i := 0) (dn := 0) (r := rfT (R.1 0)) hen (by rw [h3]; exact hp)
    rw [e]
  | some z =>
    have e := edL_1 (es := R.2.2.1.2) (n := 0) (i := 0) (dn := 0) (r := rfT (R.1 0)) (z := z) hen (by rw [h3]; exact hp)
    rw [e]
    rfl
theorem v_editN {K : List zF} (hK : K.length + 26 ≤ 60) {R : STR} {u w q a b : Nat} {d : EDT} {v : Int64} {σ : zW} (h : LO [] R u σ) (hu : u < 512) (hs : eST R w q a b d) (hn : enm d (bndP (st2 w q) (vec2 a b) d.2.1) (bndP (st2 w q) (vec2 a b) d.2.2.1)) (hp : pedit (rwT (R.1 0)) 20 d (bndP (st2 w q) (vec2 a b) d.2.1) (bndP (st2 w q) (vec2 a b) d.2.2.1) = none) (k : ∀ σ', lFr 1 σ σ' → LO [] R (u + 1) σ' → zRet true K (some (.inl (-1193))) σ') : zEv true (zent 140 [.inr (.inr 1), .inl 4, .inr (.inl v), .inl 0] :: K) σ := by
  obtain ⟨y, f, hW, he⟩ := h
  have hW : LW ((f, 0), rO R y) u σ := hW
  have e := edit_e hs hn f y
  rw [hp] at e
  refine v_act4 hK hW hu (fun σ' hF hW' => ?_)
  rw [e] at hW' ⊢
  exact k σ' hF ⟨y, f, hW', he⟩
theorem v_editS {K : List zF} (hK : K.length + 26 ≤ 60) {R : STR} {u w q a b : Nat} {d : EDT} {v : Int64} {z : RF} {σ : zW} (h : LO [] R u σ) (hu : u < 512) (hs : eST R w q a b d) (hn : enm d (bndP (st2 w q) (vec2 a b) d.2.1) (bndP (st2 w q) (vec2 a b) d.2.2.1)) (hp : pedit (rwT (R.1 0)) 20 d (bndP (st2 w q) (vec2 a b) d.2.1) (bndP (st2 w q) (vec2 a b) d.2.2.1) = some z) (k : ∀ σ', lFr 1 σ σ' → LO [] (rT R (z.1.1, z.1.2.1, z.1.2.2.1) (R.1 0 :: R.2.2.2.2.2 0)) (u + 1) σ' → zRet true K (some (.inl 1)) σ') : zEv true (zent 140 [.inr (.inr 1), .inl 4, .inr (.inl v), .inl 0] :: K) σ := by
  obtain ⟨y, f, hW, he⟩ := h
  have hW : LW ((f, 0), rO R y) u σ := hW
  have e := edit_e hs hn f y
  rw [hp] at e
  refine v_act4 hK hW hu (fun σ' hF hW' => ?_)
  rw [e] at hW' ⊢
  exact k σ' hF ⟨y, f, hW', he⟩
/-- undoing nothing, undoing -/
theorem v_undoN {K : List zF} (hK : K.length + 14 ≤ 60) {R : STR} {u : Nat} {v : Int64} {σ : zW} (h : LO [] R u σ) (hu : u ≤ 512) (hH : R.2.2.2.2.2 0 = []) (k : ∀ σ', lFr 1 σ σ' → LO [] R u σ' → zRet true K (some (.inl (-1193))) σ') : zEv true (zent 140 [.inr (.inr 1), .inl 5, .inr (.inl v), .inl 0] :: K) σ := by
  obtain ⟨y, f, hW, he⟩ := h
  have hW : LW ((f, 0), rO R y) u σ := hW
  have e : oUndo ((f, 0), rO R y) 0 = (2, 0, ((f, 0), rO R y)) := by
    unfold oUndo
    rw [if_pos (by decide)]
    show (match R.2.2.2.2.2 0 with | [] => _ | T :: l => _) = _
    rw [hH]
  refine v_act5 hK hW hu (fun σ' hF hW' => ?_)
  rw [e] at hW' ⊢
  exact k σ' hF ⟨y, f, hW', he⟩
theorem v_undoS {K : List zF} (hK : K.length + 14 ≤ 60) {R : STR} {u : Nat} {v : Int64} {T : TRE} {l : List TRE} {σ : zW} (h : LO [] R u σ) (hu : u ≤ 512) (hH : R.2.2.2.2.2 0 = T :: l) (k : ∀ σ', lFr 1 σ σ' → LO [] (rT R T l) u σ' → zRet true K (some (.inl (T.1 : Int))) σ') : zEv true (zent 140 [.inr (.inr 1), .inl 5, .inr (.inl v), .inl 0] :: K) σ := by
  obtain ⟨y, f, hW, he⟩ := h
  have hW : LW ((f, 0), rO R y) u σ := hW
  have e : oUndo ((f, 0), rO R y) 0 = (0, (T.1 : Int), ((f, 0), rO (rT R T l) y)) := by
    unfold oUndo
    rw [if_pos (by decide)]
    show (match R.2.2.2.2.2 0 with | [] => _ | T :: l => _) = _
    rw [hH]
    rfl
  refine v_act5 hK hW hu (fun σ' hF hW' => ?_)
  rw [e] at hW' ⊢
  exact k σ' hF ⟨y, f, hW', he⟩
theorem rT_back {R : STR} {T' : TRE} {l : List TRE} (h : R.2.2.2.2.2 0 = []) : rT (rT R T' l) (R.1 0) [] = R := by
  obtain ⟨Ts, ps, sc, fx, out, H⟩ := R
  have h' : H 0 = [] := h
  unfold rT
  have e1 : fup (fup Ts 0 T') 0 (Ts 0) = Ts := by
    funext i
    by_cases c : i = 0
    · rw [c, fup_eq]
    · rw [fup_ne c, fup_ne c]
  have e2 : fup (fup H 0 l) 0 [] = H := by
    funext i
    by_cases c : i = 0
    · rw [c, fup_eq, h']
    · rw [fup_ne c, fup_ne c]
  show (fup (fup Ts 0 T') 0 (Ts 0), ps, sc, fx, out, fup (fup H 0 l) 0 []) = _
  rw [e1, e2]
