/-! scripts read -/
/-- the words of edits and of places, as numbers -/
def kwd : List (List Int × Int64) := [([114, 101, 110, 97, 109, 101], 111520460465522), ([100, 101, 108, 101, 116, 101], 111550592214372), ([101, 120, 99, 105, 115, 101], 111546363770981), ([119, 114, 97, 112], 1885434487), ([97, 100, 100], 6579297), ([109, 111, 118, 101], 1702260589), ([102, 105, 114, 115, 116], 500153084262), ([108, 97, 115, 116], 1953718636), ([98, 101, 102, 111, 114, 101], 111542169658722), ([97, 102, 116, 101, 114], 491328398945)]
def kwn (i : Nat) : Int64 := (zth ([], 0) kwd i).2
def kwb (i : Nat) (j : Nat) : Int := zth 0 (zth ([], 0) kwd i).1 j
def kwl (i : Nat) : Nat := (zth ([], 0) kwd i).1.length
theorem kw_all : ∀ i, i < 10 → kwn i = pkf (kwb i) (kwl i) ∧ 1 ≤ kwl i ∧ kwl i ≤ 6 ∧ (ztx (100000 + i)).length = kwl i ∧ ∀ j, j < kwl i → ((zth 0 (ztx (100000 + i)) j : Nat) : Int) = kwb i j ∧ 1 ≤ kwb i j ∧ kwb i j < 256 := by decide +kernel
/-- whether the label at a place is the word i -/
def isKw (f : Nat → Int) (L p i : Nat) : Prop := 1 ≤ wl f L p ∧ wl f L p ≤ 6 ∧ pk f p (wl f L p) = kwn i
theorem wl_chars {f : Nat → Int} {L p j : Nat} (h : j < wl f L p) : 48 ≤ f (p + j) ∧ f (p + j) ≤ 122 := by
  have hz : zlet (tb f L p) := Decidable.not_not.mp (fun q => by have := wl_zero q; omega)
  have hp := wl_pos hz
  have hw : wl f L p = wend f L (p + 1) - p := if_pos hz
  rw [tb_lt hp.2.2] at hz
  rcases Nat.eq_zero_or_pos j with e | e
  · subst e; rw [Nat.add_zero]; omega
  · have := wrun_all f L _ (p + 1) (p + j) (by omega) (show _ < wend f L (p + 1) by omega)
    omega
theorem isKw_iff {f : Nat → Int} {L p i : Nat} (hi : i < 10) : isKw f L p i ↔ wl f L p = kwl i ∧ ∀ j, j < kwl i → f (p + j) = kwb i j := by
  obtain ⟨h1, h2, h3, -, h4⟩ := kw_all i hi
  unfold isKw
  constructor
  · rintro ⟨g1, g2, g3⟩
    unfold pk at g3
    rw [show min (wl f L p) 6 = wl f L p by omega, h1] at g3
    have := (pkf_inj (by omega) (by omega) (fun j hj => by have := wl_chars hj; omega) (fun j hj => (h4 j hj).2)).mp g3
    exact ⟨this.1, fun j hj => this.2 j (by omega)⟩
  · rintro ⟨g1, g2⟩
    refine ⟨by omega, by omega, ?_⟩
    unfold pk
    rw [g1, show min (kwl i) 6 = kwl i by omega, h1]
    exact pkf_congr _ g2
theorem isKw_dec (f : Nat → Int) (L p i : Nat) : isKw f L p i ∨ ¬ isKw f L p i := Classical.em _
theorem kwn_ne {i j : Nat} (hi : i < 10) (hj : j < 10) (h : kwn i = kwn j) : i = j := by
  have : ∀ i, i < 10 → ∀ j, j < 10 → kwn i = kwn j → i = j := by decide +kernel
  exact this i hi j hj h
theorem zTxx_i {i : Nat} (hi : i < 10) : zTxx (100000 + i) := by unfold zTxx; omega
theorem c_spells_loop {K : List zF} (hK : K.length < 60) {f : Nat → Int} {L p i : Nat} (hi : i < 10) {σ : zW} (hT : cT f L σ) (ha : gI σ 2 2 = (p : Int)) (hl : wl f L p = kwl i) : ∀ (n j : Nat), kwl i - j = n → j ≤ kwl i → (∀ m, m < j → f (p + m) = kwb i m) → zEv true ((91, 15, [some (.inr (.inr 2)), some (.inr (.inr (100000 + i))), some (.inl (j : Int))], []) :: K) σ = zRet true K (some (.inl (@ite _ (isKw f L p i) (Classical.propDecidable _) 1 0))) σ := by
  obtain ⟨h1, h2, h3, h5, h4⟩ := kw_all i hi
  have h6 := hT.2.2.1
  have hpl : p + kwl i ≤ L := by
    have hz : zlet (tb f L p) := Decidable.not_not.mp (fun q => by have := wl_zero q; omega)
    have := wl_pos hz
    omega
  intro n
  induction n with
  | zero =>
    intro j hn hj hm
    rw [zj_91_15 hK (zTxx_i hi), h5, if_pos (by omega), if_pos ((isKw_iff hi).mpr ⟨hl, fun m hm2 => hm m (by omega)⟩)]
  | succ n ih =>
    intro j hn hj hm
    rw [zj_91_15 hK (zTxx_i hi), h5, if_neg (by omega), ha, zw_id (by omega) (by omega), show ((p : Int) + (j : Int)) = ((p + j : Nat) : Int) by omega, c_byteAt hT rfl, tb_lt (by omega), zr_91_33 (zTxx_i hi), h5, yAnd (by omega), Int.toNat_natCast, (h4 j (by omega)).1]
    by_cases e : f (p + j) = kwb i j
    · rw [if_pos e, zw_id (by omega) (by omega), show ((j : Int) + 1) = ((j + 1 : Nat) : Int) by omega]
      exact ih (j + 1) (by omega) (by omega) (fun m hm2 => by
        by_cases e2 : m = j
        · rw [e2]; exact e
        · exact hm m (by omega))
    · rw [if_neg e, if_neg (fun w => e (((isKw_iff hi).mp w).2 j (by omega)))]
theorem c_spells {K : List zF} (hK : K.length < 59) {f : Nat → Int} {L p i : Nat} (hi : i < 10) {σ : zW} (hT : cT f L σ) (ha : gI σ 2 2 = (p : Int)) : zEv true (zent 91 [.inr (.inr 2), .inr (.inr (100000 + i))] :: K) σ = zRet true K (some (.inl (@ite _ (isKw f L p i) (Classical.propDecidable _) 1 0))) σ := by
  obtain ⟨h1, h2, h3, h5, h4⟩ := kw_all i hi
  rw [ze_91 (by omega), c_wl (yL (by omega)) hT ha, zr_91_4 (zTxx_i hi), h5]
  by_cases hl : wl f L p = kwl i
  · rw [if_pos (by omega)]
    exact c_spells_loop (by omega) hi hT ha hl _ 0 rfl (Nat.zero_le _) (fun m hm => by omega)
  · rw [if_neg (by omega), if_neg (fun w => hl ((isKw_iff hi).mp w).1)]
/-- which of the words from b on, n of them, the label at p is; -1 if none -/
def kwI (v : Int64) (b : Nat) : Nat → Nat → Int
  | 0, _ => -1
  | n + 1, i => if v = kwn (b + i) then (i : Nat) else kwI v b n (i + 1)
def kdR (f : Nat → Int) (L p : Nat) : Int := if 1 ≤ wl f L p ∧ wl f L p ≤ 6 then kwI (pk f p (wl f L p)) 0 6 0 else -1
def whI (f : Nat → Int) (L p : Nat) : Int := if 1 ≤ wl f L p ∧ wl f L p ≤ 6 then kwI (pk f p (wl f L p)) 6 4 0 else -1
theorem isKw_no {f : Nat → Int} {L p i : Nat} (h : ¬ (1 ≤ wl f L p ∧ wl f L p ≤ 6)) : ¬ isKw f L p i := fun w => h ⟨w.1, w.2.1⟩
theorem isKw_y {f : Nat → Int} {L p i : Nat} (h : 1 ≤ wl f L p ∧ wl f L p ≤ 6) : isKw f L p i ↔ pk f p (wl f L p) = kwn i := ⟨fun w => w.2.2, fun w => ⟨h.1, h.2, w⟩⟩
theorem c_kindAt {K : List zF} (hK : K.length < 58) {f : Nat → Int} {L p : Nat} {σ : zW} (hT : cT f L σ) (ha : gI σ 2 2 = (p : Int)) : zEv true (zent 61 [.inr (.inr 2)] :: K) σ = zRet true K (some (.inl (kdR f L p))) σ := by
  have sp := fun (i : Nat) (hi : i < 10) (fr : zF) => c_spells (K := fr :: K) (by rw [List.length_cons]; omega) hi hT ha
  rw [ze_61 (by omega), sp 0 (by omega), zr_61_6 (by omega)]
  unfold kdR
  by_cases h : 1 ≤ wl f L p ∧ wl f L p ≤ 6
  · rw [if_pos h]
    simp only [isKw_y h, kwI, Nat.zero_add, Nat.reduceAdd]
    by_cases h0 : pk f p (wl f L p) = kwn 0
    · rw [if_pos h0, if_pos h0, if_neg (by omega)]; rfl
    · rw [if_neg h0, if_neg h0, if_pos rfl, sp 1 (by omega), zr_61_17 (by omega)]
      simp only [isKw_y h]
      by_cases h1 : pk f p (wl f L p) = kwn 1
      · rw [if_pos h1, if_pos h1, if_neg (by omega)]; rfl
      · rw [if_neg h1, if_neg h1, if_pos rfl, sp 2 (by omega), zr_61_28 (by omega)]
        simp only [isKw_y h]
        by_cases h2 : pk f p (wl f L p) = kwn 2
        · rw [if_pos h2, if_pos h2, if_neg (by omega)]; rfl
        · rw [if_neg h2, if_neg h2, if_pos rfl, sp 3 (by omega), zr_61_39 (by omega)]
          simp only [isKw_y h]
          by_cases h3 : pk f p (wl f L p) = kwn 3
          · rw [if_pos h3, if_pos h3, if_neg (by omega)]; rfl
          · rw [if_neg h3, if_neg h3, if_pos rfl, sp 4 (by omega), zr_61_50 (by omega)]
            simp only [isKw_y h]
            by_cases h4 : pk f p (wl f L p) = kwn 4
            · rw [if_pos h4, if_pos h4, if_neg (by omega)]; rfl
            · rw [if_neg h4, if_neg h4, if_pos rfl, sp 5 (by omega), zr_61_61]
              simp only [isKw_y h]
              by_cases h5 : pk f p (wl f L p) = kwn 5
              · rw [if_pos h5, if_pos h5, if_neg (by omega)]; rfl
              · rw [if_neg h5, if_neg h5, if_pos rfl]
  · rw [if_neg h, if_neg (isKw_no h), if_pos rfl, sp 1 (by omega), zr_61_17 (by omega), if_neg (isKw_no h), if_pos rfl, sp 2 (by omega), zr_61_28 (by omega), if_neg (isKw_no h), if_pos rfl, sp 3 (by omega), zr_61_39 (by omega), if_neg (isKw_no h), if_pos rfl, sp 4 (by omega), zr_61_50 (by omega), if_neg (isKw_no h), if_pos rfl, sp 5 (by omega), zr_61_61, if_neg (isKw_no h), if_pos rfl]
theorem c_whereAt {K : List zF} (hK : K.length < 58) {f : Nat → Int} {L p : Nat} {σ : zW} (hT : cT f L σ) (ha : gI σ 2 2 = (p : Int)) : zEv true (zent 63 [.inr (.inr 2)] :: K) σ = zRet true K (some (.inl (whI f L p))) σ := by
  have sp := fun (i : Nat) (hi : i < 10) (fr : zF) => c_spells (K := fr :: K) (by rw [List.length_cons]; omega) hi hT ha
  rw [ze_63 (by omega), sp 6 (by omega), zr_63_6 (by omega)]
  unfold whI
  by_cases h : 1 ≤ wl f L p ∧ wl f L p ≤ 6
  · rw [if_pos h]
    simp only [isKw_y h, kwI, Nat.zero_add, Nat.reduceAdd]
    by_cases h0 : pk f p (wl f L p) = kwn 6
    · rw [if_pos h0, if_pos h0, if_neg (by omega)]; rfl
    · rw [if_neg h0, if_neg h0, if_pos rfl, sp 7 (by omega), zr_63_17 (by omega)]
      simp only [isKw_y h]
      by_cases h1 : pk f p (wl f L p) = kwn 7
      · rw [if_pos h1, if_pos h1, if_neg (by omega)]; rfl
      · rw [if_neg h1, if_neg h1, if_pos rfl, sp 8 (by omega), zr_63_28 (by omega)]
        simp only [isKw_y h]
        by_cases h2 : pk f p (wl f L p) = kwn 8
        · rw [if_pos h2, if_pos h2, if_neg (by omega)]; rfl
        · rw [if_neg h2, if_neg h2, if_pos rfl, sp 9 (by omega), zr_63_39]
          simp only [isKw_y h]
          by_cases h3 : pk f p (wl f L p) = kwn 9
          · rw [if_pos h3, if_pos h3, if_neg (by omega)]; rfl
          · rw [if_neg h3, if_neg h3, if_pos rfl]
  · rw [if_neg h, if_neg (isKw_no h), if_pos rfl, sp 7 (by omega), zr_63_17 (by omega), if_neg (isKw_no h), if_pos rfl, sp 8 (by omega), zr_63_28 (by omega), if_neg (isKw_no h), if_pos rfl, sp 9 (by omega), zr_63_39, if_neg (isKw_no h), if_pos rfl]
