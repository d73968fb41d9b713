/-! how many nodes have a label -/
theorem v_with {K : List zF} (hK : K.length + 8 ≤ 60) {l : List Int} {R : STR} {u : Nat} {σ : zW} (h : LO l R u σ) (k : ∀ σ', lFr 0 σ σ' → LO [] R u σ' → zRet true K (some (.inl ((cns (lfn l) l.length (R.1 0).2.1 (R.1 0).1 : Nat) : Int))) σ') : zEv true (zent 113 [.inr (.inr 1), .inl 0] :: K) σ := by
  obtain ⟨x, f, ⟨hg, u', hu, hC⟩, he⟩ := h
  have e : oWith ((f, l.length), rO R x) 0 = (0, ((cns (lfn l) l.length (R.1 0).2.1 (R.1 0).1 : Nat) : Int), ((f, 0), rO R x)) := by
    unfold oWith
    rw [if_pos (by decide)]
    show (0, ((cns f l.length (R.1 0).2.1 (R.1 0).1 : Nat) : Int), ((f, 0), rO R x)) = _
    rw [cns_cg he]
  have hsg := SG_with (z := 0) hg
  refine l_with (by omega) hg hC ?_
  rw [e] at hsg ⊢
  refine ⟨fun _ σ' u2 hF hC' hl2 => ?_, fun x => absurd rfl x⟩
  exact k σ' (lFr.of hF) ⟨x, f, ⟨hsg, u2, by omega, hC'⟩, fun i hi => absurd hi (Nat.not_lt_zero i)⟩
theorem v_walk {K : List zF} (hK : K.length + 8 ≤ 60) {l : List Int} {R : STR} {u : Nat} {σ : zW} (h : LO l R u σ) (k : ∀ σ', lFr 0 σ σ' → LO [] R u σ' → zRet true K (some (.inl ((cns (lfn l) l.length (R.1 0).2.1 (R.1 0).1 : Nat) : Int))) σ') : zEv true (zent 114 [.inr (.inr 1), .inl 0] :: K) σ := by
  obtain ⟨x, f, ⟨hg, u', hu, hC⟩, he⟩ := h
  have e : oWith ((f, l.length), rO R x) 0 = (0, ((cns (lfn l) l.length (R.1 0).2.1 (R.1 0).1 : Nat) : Int), ((f, 0), rO R x)) := by
    unfold oWith
    rw [if_pos (by decide)]
    show (0, ((cns f l.length (R.1 0).2.1 (R.1 0).1 : Nat) : Int), ((f, 0), rO R x)) = _
    rw [cns_cg he]
  have hsg := SG_with (z := 0) hg
  refine l_walk (by omega) hg hC ?_
  rw [e] at hsg ⊢
  refine ⟨fun _ σ' u2 hF hC' hl2 => ?_, fun x => absurd rfl x⟩
  exact k σ' (lFr.of hF) ⟨x, f, ⟨hsg, u2, by omega, hC'⟩, fun i hi => absurd hi (Nat.not_lt_zero i)⟩
/-- how many of the first letters are z -/
def lcn (lb : Nat → Int) (z : Int) : Nat → Nat
  | 0 => 0
  | i + 1 => lcn lb z i + if lb i = z then 1 else 0
theorem lcn_le {lb : Nat → Int} {z : Int} : ∀ i, lcn lb z i ≤ i := by
  intro i
  induction i with
  | zero => exact Nat.le_refl _
  | succ i ih => rw [lcn]; split <;> omega
theorem zi2l_inj {x y : Int} (hx : 0 ≤ x ∧ x < 256) (hy : 0 ≤ y ∧ y < 256) (h : zi2l x = zi2l y) : x = y := by
  have h1 := byt_lo hx.1 hx.2
  have h2 := byt_lo hy.1 hy.2
  rw [← h1, ← h2, h]
theorem cns_1 {lb : Nat → Int} {lab : Nat → Int64} {z : Int} (hz : 0 < z ∧ z < 256) : ∀ n, (∀ i, i < n → lab i = zi2l (lb i) ∧ lb1 (lb i)) → cns (lfn [z]) 1 lab n = lcn lb z n := by
  intro n
  induction n with
  | zero => intro _; rfl
  | succ n ih =>
    intro h
    obtain ⟨h1, h2⟩ := h n (by omega)
    unfold lb1 at h2
    rw [cns, lcn, ih (fun i hi => h i (by omega))]
    congr 1
    have hp : pkf (lfn [z]) 1 = zi2l z := pkf_1 (z := z) rfl (by omega) hz.2
    by_cases c : lb n = z
    · rw [if_pos c, if_pos]
      unfold spl
      refine ⟨by decide, fun k hk => ?_, ?_⟩
      · have : k = 0 := by omega
        subst this
        exact hz.1
      · rw [hp, h1, c]
    · rw [if_neg c, if_neg]
      rintro ⟨-, -, w⟩
      rw [hp, h1] at w
      exact c (zi2l_inj (by omega) (by omega) w)
theorem cns_0 {f : Nat → Int} {lab : Nat → Int64} : ∀ n, cns f 0 lab n = 0 := by
  intro n
  induction n with
  | zero => rfl
  | succ n ih =>
    rw [cns, ih, if_neg]
    rintro ⟨w, -⟩
    omega
theorem v_areLabelled {K : List zF} (hK : K.length + 14 ≤ 60) {R : STR} {u : Nat} {tt lb : Nat → Int} {z : Int} {σ : zW} (h : LO [] R u σ) (hT : tmT (R.1 0) tt lb) (hl : lbT (R.1 0) lb) (hz : 0 < z ∧ z < 256) (k : ∀ σ', lFr 2 σ σ' → LO [] R u σ' → zRet true K (some (.inl 1)) σ') : zEv true (zent 152 [.inr (.inr 1), .inl z] :: K) σ := by
  have hKl : K.length < 60 := by omega
  have h9 := hT.2.2.1
  have hlb : ∀ i, i < (R.1 0).1 → lb1 (lb i) := fun i hi => (hT.2.2.2 i hi).2
  have hc1 : cns (lfn [z]) [z].length (R.1 0).2.1 (R.1 0).1 = lcn lb z (R.1 0).1 := cns_1 hz _ (fun i hi => ⟨hl i hi, hlb i hi⟩)
  have hc2 : cns (lfn (([] : List Int) ++ [z])) (([] : List Int) ++ [z]).length (R.1 0).2.1 (R.1 0).1 = lcn lb z (R.1 0).1 := hc1
  have loop : ∀ (m i : Nat) (σ1 : zW), (R.1 0).1 - i = m → i ≤ (R.1 0).1 → lFr 0 σ σ1 → LO [] R u σ1 → zEv true ((152, 4, [some (.inr (.inr 1)), some (.inl z), some (.inl ((lcn lb z i : Nat) : Int)), some (.inl (i : Int))], []) :: K) σ1 := by
    intro m
    induction m with
    | zero =>
      intro i σ1 hm hi hF hV
      have e : i = (R.1 0).1 := by omega
      obtain ⟨x, hV⟩ := hV
      rw [zj_152_4 hKl, e_nodes (p := 0) (z := 0) (by show K.length + 1 + 4 ≤ 60; omega) (LO.rO hV) (by decide) rfl, zr_152_10 hKl, if_pos (by omega)]
      refine v_says (by show K.length + 1 + 9 ≤ 60; omega) hV (by omega) hz.2 (by decide) (fun σ2 hF2 hV2 => ?_)
      rw [zr_152_41 hKl]
      refine v_with (by show K.length + 1 + 8 ≤ 60; omega) (LO.rO hV2) (fun σ3 hF3 hV3 => ?_)
      rw [hc2, zr_152_46 hKl, e, if_neg (fun w => w rfl)]
      obtain ⟨x3, hV3⟩ := hV3
      refine v_says (by show K.length + 1 + 9 ≤ 60; omega) hV3 (by omega) hz.2 (by decide) (fun σ4 hF4 hV4 => ?_)
      rw [zr_152_61 hKl, if_neg (by decide)]
      refine v_walk (by show K.length + 1 + 8 ≤ 60; omega) (LO.rO hV4) (fun σ5 hF5 hV5 => ?_)
      rw [hc2, zr_152_70 hKl, if_neg (fun w => w rfl)]
      refine v_with (by show K.length + 1 + 8 ≤ 60; omega) hV5 (fun σ6 hF6 hV6 => ?_)
      rw [show cns (lfn []) ([] : List Int).length (R.1 0).2.1 (R.1 0).1 = 0 from cns_0 _, zr_152_79, if_neg (fun w => w rfl)]
      exact k σ6 ((((((hF.trans hF2).trans hF3).trans hF4).trans hF5).trans hF6).le (by omega)) hV6
    | succ m ih =>
      intro i σ1 hm hi hF hV
      have hi' : i < (R.1 0).1 := by omega
      have hcl := lcn_le (lb := lb) (z := z) i
      rw [zj_152_4 hKl, e_nodes (p := 0) (z := 0) (by show K.length + 1 + 4 ≤ 60; omega) hV (by decide) rfl, zr_152_10 hKl, if_neg (by omega)]
      refine v_label (by show K.length + 1 + 11 ≤ 60; omega) hV hi' rfl (hl i hi') (hlb i hi') (fun σ2 hF2 hV2 => ?_)
      have e7 : ∀ _ : Unit, w32 (((lcn lb z i : Nat) : Int) + (if ¬ lb i = z then 0 else 1)) = ((lcn lb z (i + 1) : Nat) : Int) := fun _ => by
        rw [lcn]
        by_cases c : lb i = z
        · rw [if_neg (fun w => w c), if_pos c, zw_id (by omega) (by omega)]; omega
        · rw [if_pos c, if_neg c, zw_id (by omega) (by omega)]; omega
      rw [zr_152_19, e7 (), ws1 (by omega)]
      exact ih (i + 1) σ2 (by omega) hi' (hF.trans hF2) hV2
  rw [ze_152]
  exact loop (R.1 0).1 0 σ rfl (Nat.zero_le _) lFr.rf h
