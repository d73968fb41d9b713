/-! the law's calls: act and of -/
def LW (S : STA) (u : Nat) (σ : zW) : Prop := SG S ∧ ∃ u', u' ≤ u ∧ CS S u' σ
/-- what the law's own cells keep, and how much room is taken -/
def lFr (n : Nat) (σ σ' : zW) : Prop := (∀ k j, 122 ≤ k → gI σ' k j = gI σ k j) ∧ gC σ' ≤ gC σ + n ∧ gS σ' ≤ gS σ + 6 * n
theorem lFr.rf {σ : zW} {n : Nat} : lFr n σ σ := ⟨fun _ _ _ => rfl, Nat.le_add_right _ _, Nat.le_add_right _ _⟩
theorem lFr.trans {n m : Nat} {σ σ1 σ2 : zW} (h : lFr n σ σ1) (h' : lFr m σ1 σ2) : lFr (n + m) σ σ2 := ⟨fun k j hk => (h'.1 k j hk).trans (h.1 k j hk), by have := h.2.1; have := h'.2.1; omega, by have := h.2.2; have := h'.2.2; omega⟩
theorem lFr.le {n m : Nat} {σ σ1 : zW} (h : lFr n σ σ1) (hm : n ≤ m) : lFr m σ σ1 := ⟨h.1, by have := h.2.1; omega, by have := h.2.2; omega⟩
theorem lFr.of {σ σ' : zW} (h : yFr (fun k _ => k < 122) σ σ') {n : Nat} : lFr n σ σ' := ⟨fun k j hk => h.i (by omega), by have := h.2.2.1; omega, by have := h.2.2.2; omega⟩
theorem lFr.ex {σ σ' : zW} (h : yFr (fun k _ => k < 122) σ σ') {n : Nat} (hn : 1 ≤ n) : lFr n σ (zex σ') := ⟨fun k j hk => h.i (by omega), by have := h.2.2.1; show gC σ' + 1 ≤ _; omega, by have := h.2.2.2; show gS σ' + 6 ≤ _; omega⟩
def ac (κ : Nat → Nat) (o : OUT) : Int := if o.1 = 0 then o.2.1 else if κ o.1 = 2 then -1191 else if κ o.1 = 0 then -1192 else -1193
theorem k_act {κ : Nat → Nat} {S : STA} {u U : Nat} {σ : zW} {K : List zF} {o : OUT} {F : zF} (hr : ∀ v σ, zRet true (F :: K) (some (.inl v)) σ = zRet true K (some (.inl v)) σ) (h0 : ∀ σ, zThr true (F :: K) 0 σ = zRet true K (some (.inl (-1192))) σ) (h1 : ∀ σ, zThr true (F :: K) 1 σ = zRet true K (some (.inl (-1193))) σ) (h2 : ∀ σ, zThr true (F :: K) 2 σ = zRet true K (some (.inl (-1191))) σ) (hk : o.1 ≠ 0 → κ o.1 ≤ 2) (hg : SG o.2.2) (hu : u ≤ U)
    (k : ∀ σ', lFr 1 σ σ' → LW o.2.2 U σ' → zRet true K (some (.inl (ac κ o))) σ') : kOp κ S u σ (F :: K) o := by
  refine ⟨fun e σ' u' hF hC hl => ?_, fun e σ' u' hF hC hl => ?_⟩
  · rw [hr]
    have := k σ' (lFr.of hF) ⟨hg, u', by omega, hC⟩
    unfold ac at this
    rw [if_pos e] at this
    exact this
  · have := k (zex σ') (lFr.ex hF (Nat.le_refl 1)) ⟨hg, u', by omega, CS_ex hC⟩
    unfold ac at this
    rw [if_neg e] at this
    have h3 := hk e
    have h4 : κ o.1 = 0 ∨ κ o.1 = 1 ∨ κ o.1 = 2 := by omega
    rcases h4 with h4 | h4 | h4
    · rw [h4, if_neg (by decide), if_pos rfl] at this
      rw [h4, h0]; exact this
    · rw [h4, if_neg (by decide), if_neg (by decide)] at this
      rw [h4, h1]; exact this
    · rw [h4, if_pos rfl] at this
      rw [h4, h2]; exact this
theorem oFeed_c {S : STA} {x : Int64} {z : Int} : (oFeed S x z).1 ≠ 0 → κF (oFeed S x z).1 ≤ 2 := by
  unfold oFeed κF
  split
  · intro _; exact Nat.le_of_ble_eq_true rfl
  · split
    · intro _; exact Nat.le_of_ble_eq_true rfl
    · intro _; exact Nat.le_of_ble_eq_true rfl
theorem oPlant_c {S : STA} {z : Int} : (oPlant S z).1 ≠ 0 → κP (oPlant S z).1 ≤ 2 := by
  unfold oPlant κP
  split
  · split
    · intro _; exact Nat.le_of_ble_eq_true rfl
    · intro h; exact absurd rfl h
  · intro _; exact Nat.le_of_ble_eq_true rfl
theorem oPattern_c {S : STA} : (oPattern S).1 ≠ 0 → κR (oPattern S).1 ≤ 2 := by
  unfold oPattern κR
  split
  · intro _; exact Nat.le_of_ble_eq_true rfl
  · split
    · intro h; exact absurd rfl h
    · intro h; exact absurd rfl h
theorem oScript_c {S : STA} : (oScript S).1 ≠ 0 → κR (oScript S).1 ≤ 2 := by
  unfold oScript κR
  split
  · intro _; exact Nat.le_of_ble_eq_true rfl
  · split
    · intro h; exact absurd rfl h
    · intro h; exact absurd rfl h
theorem oEdit_c {S : STA} {z : Int} : (oEdit S z).1 ≠ 0 → κP (oEdit S z).1 ≤ 2 := by
  unfold oEdit κP
  split
  · split
    · intro h; exact absurd rfl h
    · split
      · intro _; exact Nat.le_of_ble_eq_true rfl
      · split
        · intro h; exact absurd rfl h
        · intro h; exact absurd rfl h
  · intro _; exact Nat.le_of_ble_eq_true rfl
theorem oUndo_c {S : STA} {z : Int} : (oUndo S z).1 ≠ 0 → κP (oUndo S z).1 ≤ 2 := by
  unfold oUndo κP
  split
  · split
    · intro _; exact Nat.le_of_ble_eq_true rfl
    · intro h; exact absurd rfl h
  · intro _; exact Nat.le_of_ble_eq_true rfl
theorem v_act0 {K : List zF} (hK : K.length + 8 ≤ 60) {S : STA} {u : Nat} {x : Int64} {z : Int} {σ : zW} (h : LW S u σ) (k : ∀ σ', lFr 1 σ σ' → LW (oFeed S x z).2.2 u σ' → zRet true K (some (.inl (ac κF (oFeed S x z)))) σ') : zEv true (zent 140 [.inr (.inr 1), .inl 0, .inr (.inl x), .inl z] :: K) σ := by
  obtain ⟨hg, u', hu, hC⟩ := h
  rw [ze_140 (by omega), if_neg (fun e => e rfl)]
  exact l_feed (by show K.length + 1 + 6 ≤ 60; omega) hC (k_act (fun v σ => zr_140_11) (fun σ => zx_140_11_0) (fun σ => zx_140_11_1) (fun σ => zx_140_11_2) oFeed_c (SG_feed hg) hu k)
theorem v_act1 {K : List zF} (hK : K.length + 14 ≤ 60) {S : STA} {u : Nat} {x : Int64} {z : Int} {σ : zW} (h : LW S u σ) (k : ∀ σ', lFr 1 σ σ' → LW (oPlant S z).2.2 u σ' → zRet true K (some (.inl (ac κP (oPlant S z)))) σ') : zEv true (zent 140 [.inr (.inr 1), .inl 1, .inr (.inl x), .inl z] :: K) σ := by
  obtain ⟨hg, u', hu, hC⟩ := h
  rw [ze_140 (by omega), if_pos (by decide), if_neg (fun e => e rfl)]
  exact l_plant (by show K.length + 1 + 12 ≤ 60; omega) hC (k_act (fun v σ => zr_140_25) (fun σ => zx_140_25_0) (fun σ => zx_140_25_1) (fun σ => zx_140_25_2) oPlant_c (SG_plant hg) hu k)
theorem v_act2 {K : List zF} (hK : K.length + 14 ≤ 60) {S : STA} {u : Nat} {x : Int64} {z : Int} {σ : zW} (h : LW S u σ) (k : ∀ σ', lFr 1 σ σ' → LW (oPattern S).2.2 u σ' → zRet true K (some (.inl (ac κR (oPattern S)))) σ') : zEv true (zent 140 [.inr (.inr 1), .inl 2, .inr (.inl x), .inl z] :: K) σ := by
  obtain ⟨hg, u', hu, hC⟩ := h
  rw [ze_140 (by omega), if_pos (by decide), if_pos (by decide), if_neg (fun e => e rfl)]
  exact l_pattern (by show K.length + 1 + 12 ≤ 60; omega) hC (k_act (fun v σ => zr_140_37) (fun σ => zx_140_37_0) (fun σ => zx_140_37_1) (fun σ => zx_140_37_2) oPattern_c (SG_pattern hg hC.1.2.2.1) hu k)
theorem v_act3 {K : List zF} (hK : K.length + 14 ≤ 60) {S : STA} {u : Nat} {x : Int64} {z : Int} {σ : zW} (h : LW S u σ) (k : ∀ σ', lFr 1 σ σ' → LW (oScript S).2.2 u σ' → zRet true K (some (.inl (ac κR (oScript S)))) σ') : zEv true (zent 140 [.inr (.inr 1), .inl 3, .inr (.inl x), .inl z] :: K) σ := by
  obtain ⟨hg, u', hu, hC⟩ := h
  rw [ze_140 (by omega), if_pos (by decide), if_pos (by decide), if_pos (by decide), if_neg (fun e => e rfl)]
  exact l_script (by show K.length + 1 + 12 ≤ 60; omega) hC (k_act (fun v σ => zr_140_49) (fun σ => zx_140_49_0) (fun σ => zx_140_49_1) (fun σ => zx_140_49_2) oScript_c (SG_script hg) hu k)
theorem v_act4 {K : List zF} (hK : K.length + 26 ≤ 60) {S : STA} {u : Nat} {x : Int64} {z : Int} {σ : zW} (h : LW S u σ) (hu5 : u < 512) (k : ∀ σ', lFr 1 σ σ' → LW (oEdit S z).2.2 (u + 1) σ' → zRet true K (some (.inl (ac κP (oEdit S z)))) σ') : zEv true (zent 140 [.inr (.inr 1), .inl 4, .inr (.inl x), .inl z] :: K) σ := by
  obtain ⟨hg, u', hu, hC⟩ := h
  rw [ze_140 (by omega), if_pos (by decide), if_pos (by decide), if_pos (by decide), if_pos (by decide), if_neg (fun e => e rfl)]
  exact l_edit (by show K.length + 1 + 24 ≤ 60; omega) hg hC (by omega) (k_act (fun v σ => zr_140_63) (fun σ => zx_140_63_0) (fun σ => zx_140_63_1) (fun σ => zx_140_63_2) oEdit_c (SG_edit hg) (by omega) k)
theorem v_act5 {K : List zF} (hK : K.length + 14 ≤ 60) {S : STA} {u : Nat} {x : Int64} {z : Int} {σ : zW} (h : LW S u σ) (hu5 : u ≤ 512) (k : ∀ σ', lFr 1 σ σ' → LW (oUndo S z).2.2 u σ' → zRet true K (some (.inl (ac κP (oUndo S z)))) σ') : zEv true (zent 140 [.inr (.inr 1), .inl 5, .inr (.inl x), .inl z] :: K) σ := by
  obtain ⟨hg, u', hu, hC⟩ := h
  rw [ze_140 (by omega), if_pos (by decide), if_pos (by decide), if_pos (by decide), if_pos (by decide), if_pos (by decide)]
  exact l_undo (by show K.length + 1 + 12 ≤ 60; omega) hC (by omega) (k_act (fun v σ => zr_140_72) (fun σ => zx_140_72_0) (fun σ => zx_140_72_1) (fun σ => zx_140_72_2) oUndo_c (SG_undo hg hC) hu k)
/-- of: only a wrong place, node, match, number or step is caught there -/
theorem k_of {κ : Nat → Nat} {S : STA} {u U : Nat} {σ : zW} {K : List zF} {o : OUT} {F : zF} (hr : ∀ v σ, zRet true (F :: K) (some (.inl v)) σ = zRet true K (some (.inl v)) σ) (h2 : ∀ σ, zThr true (F :: K) 2 σ = zRet true K (some (.inl (-1191))) σ) (hk : o.1 ≠ 0 → κ o.1 = 2) (hg : SG o.2.2) (hu : u ≤ U)
    (k : ∀ σ', lFr 1 σ σ' → LW o.2.2 U σ' → zRet true K (some (.inl (ac κ o))) σ') : kOp κ S u σ (F :: K) o := by
  refine ⟨fun e σ' u' hF hC hl => ?_, fun e σ' u' hF hC hl => ?_⟩
  · rw [hr]
    have := k σ' (lFr.of hF) ⟨hg, u', by omega, hC⟩
    unfold ac at this
    rw [if_pos e] at this
    exact this
  · have := k (zex σ') (lFr.ex hF (Nat.le_refl 1)) ⟨hg, u', by omega, CS_ex hC⟩
    unfold ac at this
    rw [if_neg e, if_pos (hk e)] at this
    rw [hk e, h2]
    exact this
theorem oNodes_c {S : STA} {z : Int} : (oNodes S z).1 ≠ 0 → κP (oNodes S z).1 = 2 := by
  unfold oNodes κP
  split
  · intro h; exact absurd rfl h
  · intro _; rfl
theorem oNode_c {S : STA} {z y a : Int} : (oNode S z y a).1 ≠ 0 → κP (oNode S z y a).1 = 2 := by
  unfold oNode κP
  split
  · intro h; exact absurd rfl h
  · intro _; rfl
theorem oWith_c {S : STA} {z : Int} : (oWith S z).1 ≠ 0 → κP (oWith S z).1 = 2 := by
  unfold oWith κP
  split
  · intro h; exact absurd rfl h
  · intro _; rfl
theorem oMatches_c {S : STA} {z : Int} : (oMatches S z).1 ≠ 0 → κP (oMatches S z).1 = 2 := by
  unfold oMatches κP
  split
  · intro h; exact absurd rfl h
  · intro _; rfl
theorem oMatchAt_c {S : STA} {z i j : Int} : (oMatchAt S z i j).1 ≠ 0 → κP (oMatchAt S z i j).1 = 2 := by
  unfold oMatchAt κP
  split
  · intro h; exact absurd rfl h
  · intro _; rfl
theorem oPlanAt_c {S : STA} {z i : Int} : (oPlanAt S z i).1 ≠ 0 → κP (oPlanAt S z i).1 = 2 := by
  unfold oPlanAt κP
  split
  · intro h; exact absurd rfl h
  · intro _; rfl
theorem oShow_c {S : STA} {z : Int} : (oShow S z).1 ≠ 0 → κP (oShow S z).1 = 2 := by
  unfold oShow κP
  split
  · intro h; exact absurd rfl h
  · intro _; rfl
theorem oLabel_c {S : STA} {z y : Int} : (oLabel S z y).1 ≠ 0 → κP (oLabel S z y).1 = 2 := by
  unfold oLabel κP
  split
  · intro h; exact absurd rfl h
  · intro _; rfl
theorem v_of0 {K : List zF} (hK : K.length + 8 ≤ 60) {S : STA} {u : Nat} {a b c : Int} {σ : zW} (h : LW S u σ) (k : ∀ σ', lFr 1 σ σ' → LW (oNodes S a).2.2 u σ' → zRet true K (some (.inl (ac κP (oNodes S a)))) σ') : zEv true (zent 141 [.inr (.inr 1), .inl 0, .inl a, .inl b, .inl c] :: K) σ := by
  obtain ⟨hg, u', hu, hC⟩ := h
  rw [ze_141 (by omega), if_neg (fun e => e rfl)]
  exact l_nodes (by show K.length + 1 + 6 ≤ 60; omega) hC (k_of (fun v σ => zr_141_9) (fun σ => zx_141_9_2) oNodes_c (SG_nodes hg) hu k)
theorem v_of1 {K : List zF} (hK : K.length + 8 ≤ 60) {S : STA} {u : Nat} {a b c : Int} {σ : zW} (h : LW S u σ) (k : ∀ σ', lFr 1 σ σ' → LW (oParent S a b).2.2 u σ' → zRet true K (some (.inl (ac κP (oParent S a b)))) σ') : zEv true (zent 141 [.inr (.inr 1), .inl 1, .inl a, .inl b, .inl c] :: K) σ := by
  obtain ⟨hg, u', hu, hC⟩ := h
  rw [ze_141 (by omega), if_pos (by decide), if_neg (fun e => e rfl)]
  exact l_parent (by show K.length + 1 + 6 ≤ 60; omega) hg hC (k_of (fun v σ => zr_141_23) (fun σ => zx_141_23_2) oNode_c (SG_node hg) hu k)
theorem v_of2 {K : List zF} (hK : K.length + 8 ≤ 60) {S : STA} {u : Nat} {a b c : Int} {σ : zW} (h : LW S u σ) (k : ∀ σ', lFr 1 σ σ' → LW (oKids S a b).2.2 u σ' → zRet true K (some (.inl (ac κP (oKids S a b)))) σ') : zEv true (zent 141 [.inr (.inr 1), .inl 2, .inl a, .inl b, .inl c] :: K) σ := by
  obtain ⟨hg, u', hu, hC⟩ := h
  rw [ze_141 (by omega), if_pos (by decide), if_pos (by decide), if_neg (fun e => e rfl)]
  exact l_kids (by show K.length + 1 + 6 ≤ 60; omega) hg hC (k_of (fun v σ => zr_141_37) (fun σ => zx_141_37_2) oNode_c (SG_node hg) hu k)
theorem v_of3 {K : List zF} (hK : K.length + 8 ≤ 60) {S : STA} {u : Nat} {a b c : Int} {σ : zW} (h : LW S u σ) (k : ∀ σ', lFr 1 σ σ' → LW (oWordOf S a b (if ¬ c = 1 then 0 else 1)).2.2 u σ' → zRet true K (some (.inl (ac κP (oWordOf S a b (if ¬ c = 1 then 0 else 1))))) σ') : zEv true (zent 141 [.inr (.inr 1), .inl 3, .inl a, .inl b, .inl c] :: K) σ := by
  obtain ⟨hg, u', hu, hC⟩ := h
  rw [ze_141 (by omega), if_pos (by decide), if_pos (by decide), if_pos (by decide), if_neg (fun e => e rfl)]
  exact l_wordOf (by show K.length + 1 + 6 ≤ 60; omega) hg hC (k_of (fun v σ => zr_141_62) (fun σ => zx_141_62_2) oNode_c (SG_node hg) hu k)
theorem v_of4 {K : List zF} (hK : K.length + 10 ≤ 60) {S : STA} {u : Nat} {a b c : Int} {σ : zW} (h : LW S u σ) (k : ∀ σ', lFr 1 σ σ' → LW (oWith S a).2.2 u σ' → zRet true K (some (.inl (ac κP (oWith S a)))) σ') : zEv true (zent 141 [.inr (.inr 1), .inl 4, .inl a, .inl b, .inl c] :: K) σ := by
  obtain ⟨hg, u', hu, hC⟩ := h
  rw [ze_141 (by omega), if_pos (by decide), if_pos (by decide), if_pos (by decide), if_pos (by decide), if_neg (fun e => e rfl)]
  exact l_with (by show K.length + 1 + 8 ≤ 60; omega) hg hC (k_of (fun v σ => zr_141_75) (fun σ => zx_141_75_2) oWith_c (SG_with hg) hu k)
theorem v_of5 {K : List zF} (hK : K.length + 10 ≤ 60) {S : STA} {u : Nat} {a b c : Int} {σ : zW} (h : LW S u σ) (k : ∀ σ', lFr 1 σ σ' → LW (oWith S a).2.2 u σ' → zRet true K (some (.inl (ac κP (oWith S a)))) σ') : zEv true (zent 141 [.inr (.inr 1), .inl 5, .inl a, .inl b, .inl c] :: K) σ := by
  obtain ⟨hg, u', hu, hC⟩ := h
  rw [ze_141 (by omega), if_pos (by decide), if_pos (by decide), if_pos (by decide), if_pos (by decide), if_pos (by decide), if_neg (fun e => e rfl)]
  exact l_walk (by show K.length + 1 + 8 ≤ 60; omega) hg hC (k_of (fun v σ => zr_141_88) (fun σ => zx_141_88_2) oWith_c (SG_with hg) hu k)
theorem v_of6 {K : List zF} (hK : K.length + 24 ≤ 60) {S : STA} {u : Nat} {a b c : Int} {σ : zW} (h : LW S u σ) (k : ∀ σ', lFr 1 σ σ' → LW (oMatches S a).2.2 u σ' → zRet true K (some (.inl (ac κP (oMatches S a)))) σ') : zEv true (zent 141 [.inr (.inr 1), .inl 6, .inl a, .inl b, .inl c] :: K) σ := by
  obtain ⟨hg, u', hu, hC⟩ := h
  rw [ze_141 (by omega), if_pos (by decide), if_pos (by decide), if_pos (by decide), if_pos (by decide), if_pos (by decide), if_pos (by decide), if_neg (fun e => e rfl)]
  exact l_matches (by show K.length + 1 + 22 ≤ 60; omega) hg hC (k_of (fun v σ => zr_141_102) (fun σ => zx_141_102_2) oMatches_c (SG_matches hg) hu k)
theorem v_of7 {K : List zF} (hK : K.length + 24 ≤ 60) {S : STA} {u : Nat} {a b c : Int} {σ : zW} (h : LW S u σ) (k : ∀ σ', lFr 1 σ σ' → LW (oMatches S a).2.2 u σ' → zRet true K (some (.inl (ac κP (oMatches S a)))) σ') : zEv true (zent 141 [.inr (.inr 1), .inl 7, .inl a, .inl b, .inl c] :: K) σ := by
  obtain ⟨hg, u', hu, hC⟩ := h
  rw [ze_141 (by omega), if_pos (by decide), if_pos (by decide), if_pos (by decide), if_pos (by decide), if_pos (by decide), if_pos (by decide), if_pos (by decide), if_neg (fun e => e rfl)]
  exact l_byTrying (by show K.length + 1 + 22 ≤ 60; omega) hg hC (k_of (fun v σ => zr_141_116) (fun σ => zx_141_116_2) oMatches_c (SG_matches hg) hu k)
theorem v_of8 {K : List zF} (hK : K.length + 24 ≤ 60) {S : STA} {u : Nat} {a b c : Int} {σ : zW} (h : LW S u σ) (k : ∀ σ', lFr 1 σ σ' → LW (oMatchAt S a b c).2.2 u σ' → zRet true K (some (.inl (ac κP (oMatchAt S a b c)))) σ') : zEv true (zent 141 [.inr (.inr 1), .inl 8, .inl a, .inl b, .inl c] :: K) σ := by
  obtain ⟨hg, u', hu, hC⟩ := h
  rw [ze_141 (by omega), if_pos (by decide), if_pos (by decide), if_pos (by decide), if_pos (by decide), if_pos (by decide), if_pos (by decide), if_pos (by decide), if_pos (by decide), if_neg (fun e => e rfl)]
  exact l_matchAt (by show K.length + 1 + 22 ≤ 60; omega) hg hC (k_of (fun v σ => zr_141_133) (fun σ => zx_141_133_2) oMatchAt_c (SG_matchAt hg) hu k)
theorem v_of9 {K : List zF} (hK : K.length + 24 ≤ 60) {S : STA} {u : Nat} {a b c : Int} {σ : zW} (h : LW S u σ) (k : ∀ σ', lFr 1 σ σ' → LW (oMatchAt S a b c).2.2 u σ' → zRet true K (some (.inl (ac κP (oMatchAt S a b c)))) σ') : zEv true (zent 141 [.inr (.inr 1), .inl 9, .inl a, .inl b, .inl c] :: K) σ := by
  obtain ⟨hg, u', hu, hC⟩ := h
  rw [ze_141 (by omega), if_pos (by decide), if_pos (by decide), if_pos (by decide), if_pos (by decide), if_pos (by decide), if_pos (by decide), if_pos (by decide), if_pos (by decide), if_pos (by decide), if_neg (fun e => e rfl)]
  exact l_matchTry (by show K.length + 1 + 22 ≤ 60; omega) hg hC (k_of (fun v σ => zr_141_150) (fun σ => zx_141_150_2) oMatchAt_c (SG_matchAt hg) hu k)
theorem v_of10 {K : List zF} (hK : K.length + 24 ≤ 60) {S : STA} {u : Nat} {a b c : Int} {σ : zW} (h : LW S u σ) (k : ∀ σ', lFr 1 σ σ' → LW (oPlanAt S a b).2.2 u σ' → zRet true K (some (.inl (ac κP (oPlanAt S a b)))) σ') : zEv true (zent 141 [.inr (.inr 1), .inl 10, .inl a, .inl b, .inl c] :: K) σ := by
  obtain ⟨hg, u', hu, hC⟩ := h
  rw [ze_141 (by omega), if_pos (by decide), if_pos (by decide), if_pos (by decide), if_pos (by decide), if_pos (by decide), if_pos (by decide), if_pos (by decide), if_pos (by decide), if_pos (by decide), if_pos (by decide), if_neg (fun e => e rfl)]
  exact l_planAt (by show K.length + 1 + 22 ≤ 60; omega) hg hC (k_of (fun v σ => zr_141_165) (fun σ => zx_141_165_2) oPlanAt_c (SG_planAt hg) hu k)
theorem v_of11 {K : List zF} (hK : K.length + 10 ≤ 60) {S : STA} {u : Nat} {a b c : Int} {σ : zW} (h : LW S u σ) (k : ∀ σ', lFr 1 σ σ' → LW (oShow S a).2.2 u σ' → zRet true K (some (.inl (ac κP (oShow S a)))) σ') : zEv true (zent 141 [.inr (.inr 1), .inl 11, .inl a, .inl b, .inl c] :: K) σ := by
  obtain ⟨hg, u', hu, hC⟩ := h
  rw [ze_141 (by omega), if_pos (by decide), if_pos (by decide), if_pos (by decide), if_pos (by decide), if_pos (by decide), if_pos (by decide), if_pos (by decide), if_pos (by decide), if_pos (by decide), if_pos (by decide), if_pos (by decide), if_neg (fun e => e rfl)]
  exact l_show (by show K.length + 1 + 8 ≤ 60; omega) hg hC (k_of (fun v σ => zr_141_179) (fun σ => zx_141_179_2) oShow_c (SG_show hg) hu k)
theorem v_of12 {K : List zF} (hK : K.length + 10 ≤ 60) {S : STA} {u : Nat} {a b c : Int} {σ : zW} (h : LW S u σ) (k : ∀ σ', lFr 1 σ σ' → LW (oLabel S a b).2.2 u σ' → zRet true K (some (.inl (ac κP (oLabel S a b)))) σ') : zEv true (zent 141 [.inr (.inr 1), .inl 12, .inl a, .inl b, .inl c] :: K) σ := by
  obtain ⟨hg, u', hu, hC⟩ := h
  rw [ze_141 (by omega), if_pos (by decide), if_pos (by decide), if_pos (by decide), if_pos (by decide), if_pos (by decide), if_pos (by decide), if_pos (by decide), if_pos (by decide), if_pos (by decide), if_pos (by decide), if_pos (by decide), if_pos (by decide)]
  exact l_label (by show K.length + 1 + 8 ≤ 60; omega) hg hC (k_of (fun v σ => zr_141_188) (fun σ => zx_141_188_2) oLabel_c (SG_label hg) hu k)
