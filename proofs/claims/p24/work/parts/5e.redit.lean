/-! edits of rows, pure -/
theorem wfd_cl {n s e : Nat} {dep : Nat → Nat} (h : wfd n dep) (h0 : 0 < s) (h1 : s < e) (h2 : e ≤ n) (hd : e < n → dep e ≤ dep s) : wfd (n - (e - s)) (shl s (e - s) dep) := by
  obtain ⟨w1, w2, w3⟩ := h
  refine ⟨by omega, fun _ => by rw [shl_lo h0]; exact w2 (by omega), fun i hi => ?_⟩
  by_cases c1 : i + 1 < s
  · rw [shl_lo c1, shl_lo (show i < s by omega)]; exact w3 i (by omega)
  · by_cases c2 : i + 1 = s
    · rw [shl_hi (show s ≤ i + 1 by omega), shl_lo (show i < s by omega), show i + 1 + (e - s) = e by omega]
      have a1 := hd (by omega)
      have a2 := w3 i (by omega)
      have a3 := w3 (e - 1) (by omega)
      rw [c2] at a2
      rw [show e - 1 + 1 = e by omega] at a3
      omega
    · rw [shl_hi (show s ≤ i + 1 by omega), shl_hi (show s ≤ i by omega)]
      have a2 := w3 (i + (e - s)) (by omega)
      rw [show i + (e - s) + 1 = i + 1 + (e - s) by omega] at a2
      exact a2
theorem wfd_in {n q w : Nat} {dep bd : Nat → Nat} (h : wfd n dep) (h0 : 0 < q) (h1 : q ≤ n) (h2 : n + w ≤ 20) (hw : 0 < w) (b1 : 1 ≤ bd 0) (b2 : bd 0 ≤ dep (q - 1) + 1) (b3 : ∀ i, i + 1 < w → 1 ≤ bd (i + 1) ∧ bd (i + 1) ≤ bd i + 1) (b4 : q < n → dep q ≤ bd (w - 1) + 1) : wfd (n + w) (shr q w dep bd) := by
  obtain ⟨w1, w2, w3⟩ := h
  refine ⟨h2, fun _ => by rw [shr_lo h0]; exact w2 (by omega), fun i hi => ?_⟩
  by_cases c1 : i + 1 < q
  · rw [shr_lo c1, shr_lo (show i < q by omega)]; exact w3 i (by omega)
  · by_cases c2 : i + 1 = q
    · rw [shr_mid (show q ≤ i + 1 by omega) (by omega), shr_lo (show i < q by omega), show i + 1 - q = 0 by omega]
      rw [show q - 1 = i by omega] at b2
      exact ⟨b1, b2⟩
    · by_cases c3 : i + 1 < q + w
      · rw [shr_mid (show q ≤ i + 1 by omega) c3, shr_mid (show q ≤ i by omega) (by omega)]
        have := b3 (i - q) (by omega)
        rw [show i - q + 1 = i + 1 - q by omega] at this
        exact this
      · by_cases c4 : i + 1 = q + w
        · rw [shr_hi (show q + w ≤ i + 1 by omega), shr_mid (show q ≤ i by omega) (by omega), show i + 1 - w = q by omega, show i - q = w - 1 by omega]
          have a1 := w3 (q - 1) (by omega)
          rw [show q - 1 + 1 = q by omega] at a1
          exact ⟨a1.1, b4 (by omega)⟩
        · rw [shr_hi (show q + w ≤ i + 1 by omega), shr_hi (show q + w ≤ i by omega)]
          have := w3 (i - w) (by omega)
          rw [show i - w + 1 = i + 1 - w by omega] at this
          exact this
/-- depths between s and e one less, one more -/
def ddn (s e : Nat) (dep : Nat → Nat) : Nat → Nat := fun i => if s < i ∧ i < e then dep i - 1 else dep i
def dup (s e : Nat) (dep : Nat → Nat) : Nat → Nat := fun i => if s ≤ i ∧ i < e then dep i + 1 else dep i
theorem wfd_ex {n s e : Nat} {dep : Nat → Nat} (h : wfd n dep) (h1 : s + 1 < e) (h2 : e ≤ n) (hi : ∀ j, s < j → j < e → dep s < dep j) (hd : e < n → dep e ≤ dep s) (h0 : s = 0 → e = n ∧ ∀ j, 1 < j → j < n → dep 1 < dep j) : wfd (n - 1) (shl s 1 (ddn s e dep)) := by
  obtain ⟨w1, w2, w3⟩ := h
  have hs1 : dep (s + 1) = dep s + 1 := by
    have := w3 s (by omega)
    have := hi (s + 1) (by omega) h1
    omega
  have hv : ∀ i, i < n - 1 → shl s 1 (ddn s e dep) i = if i < s then dep i else if i + 1 < e then dep (i + 1) - 1 else dep (i + 1) := fun i hi => by
    by_cases c : i < s
    · rw [shl_lo c, if_pos c]; unfold ddn; rw [if_neg (by omega)]
    · rw [shl_hi (by omega), if_neg c]
      unfold ddn
      by_cases c2 : i + 1 < e
      · rw [if_pos ⟨by omega, c2⟩, if_pos c2]
      · rw [if_neg (fun w => c2 w.2), if_neg c2]
  refine ⟨by omega, fun hn => ?_, fun i hin => ?_⟩
  · rw [hv 0 hn]
    by_cases c : 0 < s
    · rw [if_pos c]; exact w2 (by omega)
    · have e0 : s = 0 := by omega
      subst e0
      have := w2 (by omega)
      rw [if_neg c, if_pos (by omega)]
      omega
  · rw [hv i (by omega), hv (i + 1) hin]
    by_cases c1 : i + 1 < s
    · rw [if_pos c1, if_pos (by omega)]; exact w3 i (by omega)
    · rw [if_neg c1]
      by_cases c2 : i + 1 = s
      · have a2 := w3 i (by omega)
        rw [c2] at a2
        rw [if_pos (show i < s by omega), if_pos (show i + 1 + 1 < e by omega), c2, hs1]
        omega
      · rw [if_neg (show ¬ i < s by omega)]
        by_cases c3 : i + 1 + 1 < e
        · rw [if_pos c3, if_pos (by omega)]
          have a1 := w3 (i + 1) (by omega)
          have a2 := hi (i + 1 + 1) (by omega) c3
          have a3 := hi (i + 1) (by omega) (by omega)
          by_cases c4 : s = 0
          · have := (h0 c4).2 (i + 1 + 1) (by omega) (by omega)
            have hs2 : dep 1 = dep 0 + 1 := by rw [c4] at hs1; exact hs1
            omega
          · have a4 := w3 (s - 1) (by omega)
            rw [show s - 1 + 1 = s by omega] at a4
            omega
        · rw [if_neg c3]
          by_cases c5 : i + 1 + 1 = e
          · have a3 := hi (i + 1) (by omega) (by omega)
            have a4 := w3 (i + 1) (by omega)
            have a5 := hd (by omega)
            rw [if_pos (by omega)]
            rw [c5] at a4 ⊢
            omega
          · rw [if_neg (by omega)]
            exact w3 (i + 1) (by omega)
theorem wfd_wr {n s e : Nat} {dep : Nat → Nat} (h : wfd n dep) (hn : n < 20) (h1 : s < e) (h2 : e ≤ n) (hi : ∀ j, s < j → j < e → dep s < dep j) (hd : e < n → dep e ≤ dep s) : wfd (n + 1) (shr s 1 (dup s e dep) (fun _ => dep s)) := by
  obtain ⟨w1, w2, w3⟩ := h
  have hv : ∀ i, i < n + 1 → shr s 1 (dup s e dep) (fun _ => dep s) i = if i < s then dep i else if i = s then dep s else if i ≤ e then dep (i - 1) + 1 else dep (i - 1) := fun i hi => by
    by_cases c : i < s
    · rw [shr_lo c, if_pos c]; unfold dup; rw [if_neg (by omega)]
    · rw [if_neg c]
      by_cases c2 : i = s
      · rw [shr_mid (by omega) (by omega), if_pos c2]
      · rw [shr_hi (by omega), if_neg c2]
        unfold dup
        by_cases c3 : i ≤ e
        · rw [if_pos ⟨by omega, by omega⟩, if_pos c3]
        · rw [if_neg (fun w => c3 (by omega)), if_neg c3]
  refine ⟨by omega, fun _ => ?_, fun i hin => ?_⟩
  · rw [hv 0 (by omega)]
    by_cases c : 0 < s
    · rw [if_pos c]; exact w2 (by omega)
    · have e0 : s = 0 := by omega
      subst e0
      rw [if_neg c, if_pos rfl]; exact w2 (by omega)
  · rw [hv i (by omega), hv (i + 1) hin]
    by_cases c1 : i + 1 < s
    · rw [if_pos c1, if_pos (by omega)]; exact w3 i (by omega)
    · rw [if_neg c1]
      by_cases c2 : i + 1 = s
      · rw [if_pos c2, if_pos (by omega)]
        have := w3 i (by omega)
        rw [c2] at this; exact this
      · rw [if_neg c2, if_neg (show ¬ i < s by omega)]
        by_cases c3 : i = s
        · rw [if_pos c3, if_pos (by omega), show i + 1 - 1 = s by omega]; omega
        · rw [if_neg c3, show i + 1 - 1 = i by omega]
          have a1 := w3 (i - 1) (by omega)
          rw [show i - 1 + 1 = i by omega] at a1
          by_cases c4 : i + 1 ≤ e
          · rw [if_pos c4, if_pos (by omega)]; omega
          · rw [if_neg c4]
            by_cases c5 : i ≤ e
            · have e5 : i = e := by omega
              subst e5
              have a5 := hd (by omega)
              rw [if_pos c5]
              by_cases c6 : i - 1 = s
              · rw [c6]; omega
              · have := hi (i - 1) (by omega) (by omega); omega
            · rw [if_neg c5]; exact a1
/-- a row as it may be: fr is the next id -/
def rgd (r : ROW) (fr : Int) : Prop := wfd r.1 r.2.2.1 ∧ 1 ≤ r.1 ∧ (∀ i, i < r.1 → lgs (r.2.1 i)) ∧ (∀ i, i < r.1 → 0 ≤ r.2.2.2 i ∧ r.2.2.2 i < fr) ∧ ∀ i j, i < r.1 → j < r.1 → r.2.2.2 i = r.2.2.2 j → i = j
/-- where row i of what is left was -/
def bk (s w i : Nat) : Nat := if i < s then i else i + w
theorem shl_bk {α : Type} {s w i : Nat} {f : Nat → α} : shl s w f i = f (bk s w i) := by
  unfold shl bk
  split <;> rfl
theorem rgd_cl {r : ROW} {fr : Int} {s e : Nat} (h : rgd r fr) (h0 : 0 < s) (h1 : s < e) (h2 : e ≤ r.1) (hd : e < r.1 → r.2.2.1 e ≤ r.2.2.1 s) : rgd (rcl r s (e - s)) fr := by
  obtain ⟨g1, g2, g3, g4, g5⟩ := h
  have hb : ∀ i, i < r.1 - (e - s) → bk s (e - s) i < r.1 := fun i hi => by unfold bk; split <;> omega
  refine ⟨wfd_cl g1 h0 h1 h2 hd, ?_, fun i hi => ?_, fun i hi => ?_, fun i j hi hj hE => ?_⟩
  · show 1 ≤ r.1 - (e - s); omega
  · show lgs (shl s (e - s) r.2.1 i)
    rw [shl_bk]; exact g3 _ (hb i hi)
  · show 0 ≤ shl s (e - s) r.2.2.2 i ∧ shl s (e - s) r.2.2.2 i < fr
    rw [shl_bk]; exact g4 _ (hb i hi)
  · have hE2 : shl s (e - s) r.2.2.2 i = shl s (e - s) r.2.2.2 j := hE
    rw [shl_bk, shl_bk] at hE2
    have := g5 _ _ (hb i hi) (hb j hj) hE2
    unfold bk at this
    split at this <;> split at this <;> omega
/-- nodes that have lost their children go, from s upward -/
def prn : Nat → ROW → Nat → ROW × Nat
  | 0, r, s => (r, s)
  | k + 1, r, s => if 0 < s ∧ ed r.2.2.1 r.1 s = s + 1 then prn k (rcl r s 1) (par r.2.2.1 s).toNat else (r, s)
theorem rgd_leaf {r : ROW} {fr : Int} {s : Nat} (h : rgd r fr) (h0 : 0 < s) (hs : s < r.1) (he : ed r.2.2.1 r.1 s = s + 1) : rgd (rcl r s 1) fr := by
  have hsp := (ed_spec (dep := r.2.2.1) hs).2.2.2
  rw [he] at hsp
  have := rgd_cl (e := s + 1) h h0 (by omega) (by omega) hsp
  rw [show s + 1 - s = 1 by omega] at this
  exact this
theorem par_nat {n : Nat} {dep : Nat → Nat} (h : wfd n dep) {s : Nat} (hs : s < n) (h0 : 0 < s) : (par dep s).toNat < s ∧ par dep s = ((par dep s).toNat : Int) := by
  obtain ⟨a, ha, ha2, -⟩ := par_some h hs h0
  rw [ha, Int.toNat_natCast]; exact ⟨ha2, rfl⟩
theorem prn_gd {fr : Int} : ∀ (k : Nat) (r : ROW) (s : Nat), rgd r fr → s < r.1 → rgd (prn k r s).1 fr := by
  intro k
  induction k with
  | zero => intro r s h _; exact h
  | succ k ih =>
    intro r s h hs
    rw [prn]
    by_cases c : 0 < s ∧ ed r.2.2.1 r.1 s = s + 1
    · rw [if_pos c]
      have hp := par_nat h.1 hs c.1
      exact ih _ _ (rgd_leaf h c.1 hs c.2) (by show _ < r.1 - 1; omega)
    · rw [if_neg c]; exact h
