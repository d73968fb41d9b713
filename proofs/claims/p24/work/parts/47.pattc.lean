/-! a part entered by the class -/
def cP (t : Nat) (st : PST) (σ : zW) : Prop := gI σ t 15 = (st.1 : Nat) ∧ gI σ t 14 = (st.2.1 : Nat) ∧ gI σ t 16 = (st.2.2.1 : Nat) ∧ (∀ q i, 1 ≤ q → q ≤ 11 → q ≠ 10 → i < st.1 → gI σ (t + q) i = st.2.2.2.1 q i) ∧ (∀ x, x < 26 → gI σ (t + 13) x = st.2.2.2.1 13 x) ∧ (∀ i, i < st.2.2.1 → gI σ (t + 14) i = st.2.2.2.1 14 i) ∧ (∀ i, i < st.2.1 → gL σ (t + 12) i = st.2.2.2.2 i)
/-- the bounds of a pattern's state -/
def pw (st : PST) : Prop := st.1 ≤ 8 ∧ st.2.2.1 ≤ 4 ∧ (∀ x, x < 26 → -1 ≤ st.2.2.2.1 13 x ∧ st.2.2.2.1 13 x < (st.1 : Nat)) ∧ (∀ i, i < st.1 → -1 ≤ st.2.2.2.1 3 i ∧ st.2.2.2.1 3 i < (i : Nat) ∧ -1 ≤ st.2.2.2.1 9 i ∧ st.2.2.2.1 9 i ≤ (i : Nat) ∧ (st.2.2.2.1 11 i = 0 ∨ st.2.2.2.1 11 i = 1))
abbrev Xnd (t c n : Nat) : Nat → Nat → Prop := fun k j => (k = 2 ∧ j = 2) ∨ (t + 1 ≤ k ∧ k ≤ t + 11 ∧ j = c) ∨ k = t + 12 ∨ k = t + 13 ∨ (k = t + 14 ∧ j = n) ∨ (k = t ∧ 14 ≤ j ∧ j ≤ 16)
abbrev Xen (t c n : Nat) : Nat → Nat → Prop := fun k j => (t + 1 ≤ k ∧ k ≤ t + 11 ∧ j = c) ∨ (k = t + 14 ∧ j = n) ∨ (k = t ∧ 15 ≤ j ∧ j ≤ 16)
theorem q_cases {q : Nat} (h1 : 1 ≤ q) (h2 : q ≤ 11) (h3 : q ≠ 10) : q = 1 ∨ q = 2 ∨ q = 3 ∨ q = 4 ∨ q = 5 ∨ q = 6 ∨ q = 7 ∨ q = 8 ∨ q = 9 ∨ q = 11 := by omega
def rwc (t c : Nat) (l : List Nat) (RW : Nat → Int) (σ : zW) : Prop := ∀ q, q ∈ l → gI σ (t + q) c = RW q
theorem rwc_w {t c : Nat} {l : List Nat} {RW : Nat → Int} {σ : zW} (h : rwc t c l RW σ) {q0 : Nat} {v : Int} (hv : v = RW q0) : rwc t c (q0 :: l) RW (sI σ (t + q0) c v) := by
  intro q hq
  rw [gI_sI]
  by_cases e : q = q0
  · subst e; rw [if_pos ⟨rfl, rfl⟩]; exact hv
  · rw [if_neg (fun w => e (Nat.add_left_cancel w.1))]
    rcases List.mem_cons.mp hq with w | w
    · exact absurd w e
    · exact h q w
theorem rwc_o {t c : Nat} {l : List Nat} {RW : Nat → Int} {σ : zW} (h : rwc t c l RW σ) {q0 j0 : Nat} {v : Int} (hq0 : q0 ∉ l) : rwc t c l RW (sI σ (t + q0) j0 v) := by
  intro q hq
  rw [gI_sI, if_neg (fun w => hq0 (by rw [← Nat.add_left_cancel w.1]; exact hq))]
  exact h q hq
theorem rwc_get {t c : Nat} {l : List Nat} {RW : Nat → Int} {σ : zW} (h : rwc t c l RW σ) {q : Nat} (hq : q ∈ l) : gI σ (t + q) c = RW q := h q hq
theorem rwc_nil {t c : Nat} {RW : Nat → Int} {σ : zW} : rwc t c [] RW σ := fun q hq => absurd hq (by simp)
theorem cP_end {t : Nat} {st : PST} {here mk : Int} {m k : Nat} {z : Int} {b : Int × Nat × (Nat → Int64) × Nat} {nm : Int} {σ σ' : zW} (ht : zPn t) (h : cP t st σ) (hF : yFr (Xnd t st.1 st.2.2.1) σ σ') (h15 : gI σ' t 15 = ((st.1 + 1 : Nat) : Int)) (h14 : gI σ' t 14 = (b.2.1 : Nat)) (h16 : gI σ' t 16 = ((st.2.2.1 + nbrR (denR st.2.2.2.1 here mk) z : Nat) : Int))
    (hrow : ∀ q, 1 ≤ q → q ≤ 11 → q ≠ 10 → gI σ' (t + q) st.1 = rowR (kndR z) b.1 here mk (cop m k) (st.2.1 : Nat) (b.2.1 : Nat) (if nbrR (denR st.2.2.2.1 here mk) z = 1 then (st.2.2.1 : Nat) else -1) (hdR st.2.2.2.1 here mk st.1) (denR st.2.2.2.1 here mk) nm (k : Nat) (m : Nat) q)
    (h13 : ∀ x : Nat, x < 26 → gI σ' (t + 13) x = if nm = (x : Int) + 97 then (st.1 : Int) else st.2.2.2.1 13 x) (h14n : nbrR (denR st.2.2.2.1 here mk) z = 1 → gI σ' (t + 14) st.2.2.1 = (st.1 : Nat)) (hB : ∀ i, i < b.2.1 → gL σ' (t + 12) i = b.2.2.1 i) : cP t (nodE st here mk m k z b nm) σ' := by
  have hb := zPn_b ht
  obtain ⟨a1, a2, a3, a4, a5, a6, a7⟩ := h
  unfold nodE
  have hn1 : nbrR (denR st.2.2.2.1 here mk) z ≤ 1 := by unfold nbrR; split <;> omega
  generalize hnb : nbrR (denR st.2.2.2.1 here mk) z = nb at *
  refine ⟨h15, h14, h16, fun q i q1 q2 q3 hi => ?_, fun x hx => ?_, fun i hi => ?_, hB⟩
  · dsimp only [entR]
    rw [if_neg (by omega), if_neg (by omega)]
    by_cases e : i = st.1
    · rw [if_pos e, e]; exact hrow q q1 q2 q3
    · have hi2 : i < st.1 + 1 := hi
      rw [if_neg e, hF.i (by omega)]; exact a4 q i q1 q2 q3 (by omega)
  · dsimp only [entR]
    rw [if_pos rfl]
    exact h13 x hx
  · dsimp only [entR]
    rw [if_neg (by omega), if_pos rfl]
    have hi2 : i < st.2.2.1 + nb := hi
    by_cases e : nb = 1 ∧ i = st.2.2.1
    · rw [if_pos e, e.2]; exact h14n e.1
    · rw [if_neg e, hF.i (by omega)]; exact a6 i (by omega)
theorem c_enter {K : List zF} (hK : K.length + 1 ≤ 60) {t c l n nb p : Nat} {here mk op dn z hd : Int} {o6 : Option zV} {σ : zW} (ht : zPn t) (h15 : gI σ t 15 = (c : Int)) (h14 : gI σ t 14 = (l : Int)) (h16 : gI σ t 16 = (n : Int)) (hp : gI σ 2 2 = (p : Int)) (hc : c < 8) (hnb : nb ≤ 1) (hn : nb = 1 → n < 4) (hh : here = -1 ∨ ∃ h : Nat, h < c ∧ here = (h : Int))
    (hhd : hd = if here ≠ -1 ∧ gI σ (t + 9) here.toNat ≠ -1 then gI σ (t + 9) here.toNat else if mk = 2 then (c : Int) else -1)
    (k0 : ∀ σ8 : zW, yFr (Xen t c n) σ σ8 → gI σ8 t 15 = ((c + 1 : Nat) : Int) → gI σ8 t 16 = ((n + nb : Nat) : Int) → (nb = 1 → gI σ8 (t + 14) n = (c : Int)) → (∀ (kd nm : Int) (k m : Int) (q : Nat), 2 ≤ q → q ≤ 11 → q ≠ 10 → gI σ8 (t + q) c = rowR kd (-1) here mk op l l (if nb = 1 then (n : Int) else -1) hd dn nm k m q) →
      zRet true ((47, 104, [some (.inr (.inr t)), some (.inr (.inr 2)), some (.inl here), some (.inl mk), some (.inl op), some (.inl z), o6, some (.inl (nb : Int)), some (.inl (c : Int))], [.inl (p : Int), .inr (.inr 2)]) :: K) (some (.inl (if zlet z then 1 else 0))) σ8) :
    zEv true (zent 49 [.inr (.inr t), .inl here, .inl mk, .inl op] :: (47, 88, [some (.inr (.inr t)), some (.inr (.inr 2)), some (.inl here), some (.inl mk), some (.inl op), some (.inl z), o6, some (.inl (nb : Int)), some (.inl (c : Int))], []) :: K) (sI σ (t + 11) c dn) := by
  have hb := zPn_b ht
  have hcc : 0 ≤ (c : Int) ∧ (c : Int) < 8 := by omega
  have e15 : gI (sI σ (t + 11) c dn) t 15 = (c : Int) := by rw [gI_sI, if_neg (by omega)]; exact h15
  have e9 : gI (sI σ (t + 11) c dn) (t + 9) here.toNat = gI σ (t + 9) here.toNat := by rw [gI_sI, if_neg (by omega)]
  have ehd : (if ¬ (if ¬ here = (-1) then gI σ (t + 9) here.toNat else (-1) : Int) = (-1) then (if ¬ here = (-1) then gI σ (t + 9) here.toNat else (-1) : Int) else (if ¬ mk = 2 then (if ¬ here = (-1) then gI σ (t + 9) here.toNat else (-1) : Int) else (c : Int) : Int) : Int) = hd := by
    rw [hhd]
    by_cases h1 : here = -1
    · have e : (if ¬ here = (-1) then gI σ (t + 9) here.toNat else (-1) : Int) = -1 := if_neg (fun w => w h1)
      rw [e, if_neg (show ¬ ¬ (-1 : Int) = -1 by omega), if_neg (show ¬ (here ≠ -1 ∧ gI σ (t + 9) here.toNat ≠ -1) from fun w => w.1 h1)]
      by_cases h2 : mk = 2
      · rw [if_neg (fun w => w h2), if_pos h2]
      · rw [if_pos h2, if_neg h2]
    · have e : (if ¬ here = (-1) then gI σ (t + 9) here.toNat else (-1) : Int) = gI σ (t + 9) here.toNat := if_pos h1
      rw [e]
      by_cases h3 : gI σ (t + 9) here.toNat = -1
      · rw [if_neg (show ¬ ¬ gI σ (t + 9) here.toNat = -1 from fun w => w h3), if_neg (show ¬ (here ≠ -1 ∧ gI σ (t + 9) here.toNat ≠ -1) from fun w => w.2 h3)]
        by_cases h2 : mk = 2
        · rw [if_neg (fun w => w h2), if_pos h2]
        · rw [if_pos h2, if_neg h2, h3]
      · rw [if_pos h3, if_pos ⟨h1, h3⟩]
  rw [ze_49 ht, yAnd (fun w => by rcases hh with h | ⟨h, h1, h2⟩ <;> omega), e15, yAnd hcc, yAnd hcc, yAnd hcc, yAnd hcc, Int.toNat_natCast, e9, ehd, zr_47_88 (by omega) ht]
  clear ehd e9 hhd
  have hFa : yFr (fun k j => (t + 1 ≤ k ∧ k ≤ t + 11 ∧ j = c)) σ (sI (sI (sI (sI (sI σ (t + 11) c dn) (t + 3) c here) (t + 4) c mk) (t + 5) c op) (t + 9) c hd) := by
    refine ((((yFr.rf.I ?_).I ?_).I ?_).I ?_).I ?_ <;> exact ⟨by omega, by omega, rfl⟩
  have f15 := (hFa.i (k := t) (j := 15) (by omega)).trans h15
  have f14 := (hFa.i (k := t) (j := 14) (by omega)).trans h14
  have f16 := (hFa.i (k := t) (j := 16) (by omega)).trans h16
  have hra : ∀ (kd nm : Int) (k m : Int), rwc t c [9, 5, 4, 3, 11] (rowR kd (-1) here mk op l l (if nb = 1 then (n : Int) else -1) hd dn nm k m) (sI (sI (sI (sI (sI σ (t + 11) c dn) (t + 3) c here) (t + 4) c mk) (t + 5) c op) (t + 9) c hd) := fun kd nm k m => rwc_w (q0 := 9) (rwc_w (q0 := 5) (rwc_w (q0 := 4) (rwc_w (q0 := 3) (rwc_w (q0 := 11) rwc_nil rfl) rfl) rfl) rfl) rfl
  rw [ze_50 ht, f15, f14, f16, yAnd hcc, yAnd hcc, yAnd hcc, yAnd hcc, Int.toNat_natCast]
  have z3 : ∀ (σ8 : zW), gI σ8 2 2 = (p : Int) → zRet true ((47, 104, [some (.inr (.inr t)), some (.inr (.inr 2)), some (.inl here), some (.inl mk), some (.inl op), some (.inl z), o6, some (.inl (nb : Int)), some (.inl (c : Int))], [.inl (p : Int), .inr (.inr 2)]) :: K) (some (.inl (if zlet z then 1 else 0))) σ8 → zRet true ((47, 94, [some (.inr (.inr t)), some (.inr (.inr 2)), some (.inl here), some (.inl mk), some (.inl op), some (.inl z), o6, some (.inl (nb : Int)), some (.inl (c : Int))], []) :: K) none σ8 := by
    intro σ8 e h
    rw [zr_47_94 (by omega), e, c_isLetter]
    exact h
  generalize (sI (sI (sI (sI (sI σ (t + 11) c dn) (t + 3) c here) (t + 4) c mk) (t + 5) c op) (t + 9) c hd) = σa at hFa f15 f14 f16 hra ⊢
  have hFb : yFr (fun k j => (t + 1 ≤ k ∧ k ≤ t + 11 ∧ j = c)) σ (sI (sI (sI (sI σa (t + 2) c (-1)) (t + 6) c l) (t + 7) c l) (t + 8) c (-1)) := by
    refine (((hFa.I ?_).I ?_).I ?_).I ?_ <;> exact ⟨by omega, by omega, rfl⟩
  have hrb : nb = 0 → ∀ (kd nm : Int) (k m : Int), rwc t c [8, 7, 6, 2, 9, 5, 4, 3, 11] (rowR kd (-1) here mk op l l (if nb = 1 then (n : Int) else -1) hd dn nm k m) (sI (sI (sI (sI σa (t + 2) c (-1)) (t + 6) c l) (t + 7) c l) (t + 8) c (-1)) := fun h0 kd nm k m => rwc_w (q0 := 8) (rwc_w (q0 := 7) (rwc_w (q0 := 6) (rwc_w (q0 := 2) (hra kd nm k m) rfl) rfl) rfl) (by show _ = (if nb = 1 then (n : Int) else -1); rw [if_neg (by omega)])
  have hrc : ∀ (kd nm : Int) (k m : Int), rwc t c [7, 6, 2, 9, 5, 4, 3, 11] (rowR kd (-1) here mk op l l (if nb = 1 then (n : Int) else -1) hd dn nm k m) (sI (sI (sI (sI σa (t + 2) c (-1)) (t + 6) c l) (t + 7) c l) (t + 8) c (-1)) := fun kd nm k m => rwc_o (q0 := 8) (rwc_w (q0 := 7) (rwc_w (q0 := 6) (rwc_w (q0 := 2) (hra kd nm k m) rfl) rfl) rfl) (by decide)
  generalize sI (sI (sI (sI σa (t + 2) c (-1)) (t + 6) c l) (t + 7) c l) (t + 8) c (-1) = σb at hFb hrb hrc ⊢
  have fin : ∀ σt : zW, yFr (fun k j => (t + 1 ≤ k ∧ k ≤ t + 11 ∧ j = c) ∨ (k = t + 14 ∧ j = n) ∨ (k = t ∧ j = 16)) σ σt → gI σt t 16 = ((n + nb : Nat) : Int) → (nb = 1 → gI σt (t + 14) n = (c : Int)) → (∀ (kd nm : Int) (k m : Int), rwc t c [8, 7, 6, 2, 9, 5, 4, 3, 11] (rowR kd (-1) here mk op l l (if nb = 1 then (n : Int) else -1) hd dn nm k m) σt) → zEv true ((50, 86, [some (.inr (.inr t)), some (.inl (nb : Int))], []) :: (47, 94, [some (.inr (.inr t)), some (.inr (.inr 2)), some (.inl here), some (.inl mk), some (.inl op), some (.inl z), o6, some (.inl (nb : Int)), some (.inl (c : Int))], []) :: K) σt := by
    intro σt hF g16 g14 hr
    have g15 := (hF.i (k := t) (j := 15) (by omega)).trans h15
    have gp := (hF.i (k := 2) (j := 2) (by omega)).trans hp
    rw [zj_50_86 ht, g15, zw_id (by omega) (by omega)]
    refine z3 _ (by rw [gI_sI, if_neg (by omega)]; exact gp) (k0 _ ((hF.mono (fun k j h => by omega)).I (by omega)) (by rw [yGI_hit]; omega) (by rw [gI_sI, if_neg (by omega)]; exact g16) (fun w => by rw [gI_sI, if_neg (by omega)]; exact g14 w) (fun kd nm k m q q1 q2 q3 => ?_))
    refine rwc_get (l := [8, 7, 6, 2, 9, 5, 4, 3, 11]) (RW := rowR kd (-1) here mk op l l (if nb = 1 then (n : Int) else -1) hd dn nm k m) (rwc_o (q0 := 0) (hr kd nm k m) (by decide)) ?_
    rcases q_cases (by omega) q2 q3 with rfl | rfl | rfl | rfl | rfl | rfl | rfl | rfl | rfl | rfl
    · omega
    all_goals decide
  by_cases h0 : nb = 0
  · rw [if_pos (by omega)]
    exact fin _ (hFb.mono (fun k j h => Or.inl h)) (((hFb.i (k := t) (j := 16) (by omega)).trans h16).trans (by omega)) (fun w => by omega) (hrb h0)
  · have h1 : nb = 1 := by omega
    have hn4 := hn h1
    have hcc4 : 0 ≤ (n : Int) ∧ (n : Int) < 4 := by omega
    rw [if_neg (by omega), yAnd hcc, yAnd hcc4, Int.toNat_natCast, zw_id (by omega) (by omega)]
    refine fin _ ((((hFb.mono (fun k j h => Or.inl h)).I ?x1).I ?x2).I ?x3) (by rw [yGI_hit]; omega) (fun _ => by rw [gI_sI, if_neg (by omega), yGI_hit]) (fun kd nm k m => rwc_o (q0 := 0) (rwc_o (q0 := 14) (rwc_w (q0 := 8) (hrc kd nm k m) (by show _ = (if nb = 1 then (n : Int) else -1); rw [if_pos h1])) (by decide)) (by decide))
    case x1 => exact Or.inl ⟨by omega, by omega, rfl⟩
    case x2 => exact Or.inr (Or.inl ⟨rfl, rfl⟩)
    case x3 => exact Or.inr (Or.inr ⟨rfl, rfl⟩)
