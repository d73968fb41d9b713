/-! what an edit comes to -/
/-- a node that has no brothers goes up: where it ends, and whether that is at the root -/
def dlu (dep : Nat → Nat) (n : Nat) : Nat → Nat × Bool
  | 0 => (0, true)
  | s + 1 => if kidc dep (par dep (s + 1)).toNat n = 1 then dlu dep n s else (s + 1, false)
theorem dlu_le {dep : Nat → Nat} {n : Nat} : ∀ s, (dlu dep n s).1 ≤ s ∧ ((dlu dep n s).2 = true → (dlu dep n s).1 = 0) ∧ ((dlu dep n s).2 = false → 0 < (dlu dep n s).1) := by
  intro s
  induction s with
  | zero => exact ⟨Nat.le_refl _, fun _ => rfl, fun h => Bool.noConfusion h⟩
  | succ s ih =>
    rw [dlu]
    split
    · exact ⟨by omega, ih.2.1, ih.2.2⟩
    · exact ⟨Nat.le_refl _, fun h => Bool.noConfusion h, fun _ => Nat.succ_pos _⟩
theorem nxt_child {n : Nat} {dep : Nat → Nat} (hw : wfd n dep) {s p : Nat} (hs : s < n) (hp : par dep s = (p : Int)) : p < s ∧ dep p < dep (p + 1) ∧ par dep (p + 1) = (p : Int) := by
  obtain ⟨h1, h2, h3⟩ := pa_spec hp
  have h4 : dep p < dep (p + 1) := by
    by_cases c : p + 1 = s
    · rw [c]; exact h2
    · have := h3 (p + 1) (by omega) (by omega); omega
  exact ⟨h1, h4, pa_of (Nat.lt_succ_self _) h4 (fun i i1 i2 => by omega)⟩
/-- an only child -/
theorem only_child {n : Nat} {dep : Nat → Nat} (hw : wfd n dep) {s p : Nat} (hs : s < n) (hp : par dep s = (p : Int)) (h1 : kidc dep p n = 1) : s = p + 1 ∧ ed dep n p = ed dep n s := by
  obtain ⟨a1, a2, a3⟩ := nxt_child hw hs hp
  have k0 : kidc dep p (p + 1) = 0 := kidc_zero (Nat.le_refl _)
  have k1 : kidc dep p (p + 2) = 1 := by rw [kidc_eq a3, k0]
  have e : s = p + 1 := by
    by_cases c : s = p + 1
    · exact c
    · exfalso
      have q1 := kidc_lt hp hs
      have q2 := kidc_mono (dep := dep) (a := p) (show p + 2 ≤ s by omega)
      omega
  refine ⟨e, ?_⟩
  subst e
  exact (ed_lastchild hw hs hp (by rw [h1]; exact k1)).symm
/-- a child that is not -/
theorem two_child {n : Nat} {dep : Nat → Nat} (hw : wfd n dep) {s p : Nat} (hs : s < n) (hp : par dep s = (p : Int)) (h1 : kidc dep p n ≠ 1) : (p + 1 < s ∧ dep p < dep (p + 1)) ∨ (s = p + 1 ∧ ed dep n s < n ∧ dep p < dep (ed dep n s)) := by
  obtain ⟨a1, a2, a3⟩ := nxt_child hw hs hp
  by_cases c : s = p + 1
  · right
    subst c
    have k0 : kidc dep p (p + 1) = 0 := kidc_zero (Nat.le_refl _)
    have k1 : kidc dep p (p + 2) = 1 := by rw [kidc_eq a3, k0]
    have km := kidc_mono (dep := dep) (a := p) (show p + 2 ≤ n by omega)
    obtain ⟨j, j1, j2, j3⟩ := kidc_ex (dep := dep) (a := p) (c := p + 2) (c' := n) (by omega)
    obtain ⟨s1, s2, s3, s4⟩ := ed_spec (dep := dep) hs
    obtain ⟨b1, b2, b3⟩ := pa_spec j3
    have hje : ed dep n (p + 1) ≤ j := by
      by_cases q : j < ed dep n (p + 1)
      · have g1 := s3 j (by omega) q
        have g2 := b3 (p + 1) (by omega) (by omega)
        omega
      · omega
    refine ⟨rfl, by omega, ?_⟩
    by_cases q : ed dep n (p + 1) = j
    · rw [q]; exact b2
    · have := b3 (ed dep n (p + 1)) (by omega) (by omega)
      omega
  · left
    exact ⟨by omega, a2⟩
theorem shl_lt {α : Type} {s w i : Nat} {f : Nat → α} (h : i < s) : shl s w f i = f i := if_pos h
theorem shl_ge {α : Type} {s w i : Nat} {f : Nat → α} (h : s ≤ i) : shl s w f i = f (i + w) := if_neg (by omega)
theorem shl_shl {α : Type} {p w : Nat} {f : Nat → α} : shl p 1 (shl (p + 1) w f) = shl p (w + 1) f := by
  funext i
  by_cases c : i < p
  · rw [shl_lt c, shl_lt c, shl_lt (by omega)]
  · rw [shl_ge (by omega), shl_ge (by omega), shl_ge (by omega)]
    congr 1
    omega
theorem rcl_rcl {r : ROW} {p w : Nat} : rcl (rcl r (p + 1) w) p 1 = rcl r p (w + 1) := by
  obtain ⟨n, lab, dep, id⟩ := r
  unfold rcl
  dsimp only
  rw [shl_shl, shl_shl, shl_shl]
  congr 1
/-- what is cut away above a node that goes -/
theorem prn_dlu {r : ROW} {n : Nat} {dep : Nat → Nat} (hr : r.1 = n ∧ r.2.2.1 = dep) (hw : wfd n dep) : ∀ (s : Nat), 0 < s → s < n → ∀ k, (par dep s).toNat ≤ k → ∃ s' p' : Nat, prn k (rcl r s (ed dep n s - s)) (par dep s).toNat = (rcl r s' (ed dep n s - s'), p') ∧ 0 < s' ∧ s' ≤ s ∧ ((dlu dep n s).2 = false → s' = (dlu dep n s).1 ∧ (0 < p' ∨ 1 < n - (ed dep n s - s'))) ∧ ((dlu dep n s).2 = true → s' = 1 ∧ p' = 0 ∧ ed dep n s = n) := by
  intro s
  induction s with
  | zero => intro h; exact absurd h (Nat.lt_irrefl 0)
  | succ s ih =>
    intro _ hs k hk
    obtain ⟨p, hp, hpc, -⟩ := par_some hw hs (Nat.succ_pos _)
    obtain ⟨e1, e2, e3, e4⟩ := ed_spec (dep := dep) hs
    have hpt : (par dep (s + 1)).toNat = p := by rw [hp, Int.toNat_natCast]
    rw [hpt] at hk ⊢
    have hd : dlu dep n (s + 1) = if kidc dep p n = 1 then dlu dep n s else (s + 1, false) := by rw [dlu, hpt]
    generalize hE : ed dep n (s + 1) = e at e1 e2 e3 e4
    have hdep : (rcl r (s + 1) (e - (s + 1))).2.2.1 = shl (s + 1) (e - (s + 1)) dep := by rw [← hr.2]; rfl
    have hcnt : (rcl r (s + 1) (e - (s + 1))).1 = n - (e - (s + 1)) := by rw [← hr.1]; rfl
    by_cases c : kidc dep p n = 1
    · rw [if_pos c] at hd
      rw [hd]
      obtain ⟨o1, o2⟩ := only_child hw hs hp c
      have hps : p = s := by omega
      subst hps
      rw [hE] at o2
      by_cases p0 : p = 0
      · subst p0
        refine ⟨1, 0, ?_, by decide, by omega, fun h => Bool.noConfusion h, fun _ => ⟨rfl, rfl, ?_⟩⟩
        · cases k with
          | zero => rfl
          | succ k => rw [prn, if_neg (fun w => absurd w.1 (Nat.lt_irrefl 0))]
        · rw [← o2]; exact ed_root hw (by omega)
      · obtain ⟨k', hk'⟩ : ∃ k', k = k' + 1 := ⟨k - 1, by omega⟩
        subst hk'
        obtain ⟨f1, f2, f3, f4⟩ := ed_spec (dep := dep) (n := n) (a := p) (by omega)
        rw [o2] at f1 f2 f3 f4
        have hed : ed (shl (p + 1) (e - (p + 1)) dep) (n - (e - (p + 1))) p = p + 1 := by
          refine ed_of (Nat.lt_succ_self _) (by omega) (fun j j1 j2 => by omega) (fun h => ?_)
          rw [shl_ge (Nat.le_refl _), shl_lt (by omega)]
          have := f4 (by omega)
          rw [show p + 1 + (e - (p + 1)) = e by omega]
          exact this
        have hpar : par (shl (p + 1) (e - (p + 1)) dep) p = par dep p := by
          unfold par
          rw [shl_lt (by omega)]
          exact pa_congr (fun i hi => shl_lt (by omega))
        rw [prn, hdep, hcnt, if_pos ⟨by omega, hed⟩, hpar, rcl_rcl]
        have hlt := par_lt dep p
        obtain ⟨s', p', i1, i2, i3, i4, i5⟩ := ih (by omega) (by omega) k' (by omega)
        rw [o2] at i1 i4 i5
        rw [show e - (p + 1) + 1 = e - p by omega]
        exact ⟨s', p', i1, i2, by omega, i4, i5⟩
    · rw [if_neg c] at hd
      rw [hd]
      have tc := two_child hw hs hp c
      rw [hE] at tc
      refine ⟨s + 1, p, ?_, Nat.succ_pos _, Nat.le_refl _, fun _ => ⟨rfl, ?_⟩, fun h => Bool.noConfusion h⟩
      · cases k with
        | zero => rfl
        | succ k =>
          rw [prn, hdep, hcnt, if_neg]
          rintro ⟨p0, he⟩
          obtain ⟨g1, g2, g3, g4⟩ := ed_spec (dep := shl (s + 1) (e - (s + 1)) dep) (n := n - (e - (s + 1))) (a := p) (by omega)
          rw [he] at g4
          rcases tc with ⟨t1, t2⟩ | ⟨t1, t2, t3⟩
          · have := g4 (by omega)
            rw [shl_lt (by omega), shl_lt (by omega)] at this
            omega
          · have := g4 (by omega)
            rw [← t1, shl_ge (Nat.le_refl _), shl_lt (by omega), show s + 1 + (e - (s + 1)) = e by omega] at this
            omega
      · rcases tc with ⟨t1, t2⟩ | ⟨t1, t2, t3⟩
        · right; omega
        · right; omega
/-- the rows of a tree -/
abbrev rwT (T : TRE) : ROW := (T.1, T.2.1, T.2.2, fun i : Nat => (i : Int))
theorem spz_id {T : TRE} {a : Nat} (ha : a < T.1) : spz (rwT T) (a : Int) = (a : Int) := by
  rcases spz_ok (rwT T) (a : Int) with ⟨i, h1, h2, h3⟩ | ⟨h1, h2⟩
  · have h2' : (i : Int) = (a : Int) := h2
    rw [h3, h2']
  · exact absurd rfl (h1 a ha)
theorem pd_ren {T : TRE} {a : Nat} {v : Int64} {y : Int} (ha : a < T.1) : pedit (rwT T) 20 (0, 23, -1, v, -1) (a : Int) y = some ((T.1, fup T.2.1 a v, T.2.2, fun i : Nat => (i : Int)), 20) := by
  unfold pedit
  rw [spz_id ha, if_neg (by
    rintro (⟨-, w⟩ | ⟨w, -⟩)
    · omega
    · rcases w with w | w
      · exact absurd (show (0 : Int) = 4 from w) (by decide)
      · exact absurd (show (0 : Int) = 5 from w) (by decide)), if_pos rfl, Int.toNat_natCast]
  rfl
theorem pd_del {T : TRE} {b : Nat} {v : Int64} {y : Int} (hw : wfd T.1 T.2.2) (hb : b < T.1) : ((dlu T.2.2 T.1 b).2 = true → pedit (rwT T) 20 (1, 24, -1, v, -1) (b : Int) y = none) ∧ ((dlu T.2.2 T.1 b).2 = false → pedit (rwT T) 20 (1, 24, -1, v, -1) (b : Int) y = some (rcl (rwT T) (dlu T.2.2 T.1 b).1 (ed T.2.2 T.1 b - (dlu T.2.2 T.1 b).1), 20)) := by
  have e : pedit (rwT T) 20 (1, 24, -1, v, -1) (b : Int) y = edDel (rwT T) 20 b := by
    unfold pedit
    rw [spz_id hb, if_neg (by
      rintro (⟨-, w⟩ | ⟨w, -⟩)
      · omega
      · rcases w with w | w
        · exact absurd (show (1 : Int) = 4 from w) (by decide)
        · exact absurd (show (1 : Int) = 5 from w) (by decide)), if_neg (show ¬ (1 : Int) = 0 by decide), if_pos rfl, Int.toNat_natCast]
  rw [e]
  unfold edDel
  by_cases c : b = 0
  · subst c
    rw [if_pos rfl]
    exact ⟨fun _ => rfl, fun h => Bool.noConfusion h⟩
  · rw [if_neg c]
    obtain ⟨s', p', i1, i2, i3, i4, i5⟩ := prn_dlu (r := rwT T) (n := T.1) (dep := T.2.2) ⟨rfl, rfl⟩ hw b (by omega) hb _ (Nat.le_refl _)
    obtain ⟨e1, e2, -⟩ := ed_spec (dep := T.2.2) hb
    have i1' : prn (par (rwT T).2.2.1 b).toNat (rcl (rwT T) b (ed (rwT T).2.2.1 (rwT T).1 b - b)) (par (rwT T).2.2.1 b).toNat = (rcl (rwT T) s' (ed T.2.2 T.1 b - s'), p') := i1
    rw [i1']
    unfold prnO
    constructor
    · intro h
      obtain ⟨j1, j2, j3⟩ := i5 h
      rw [if_neg]
      show ¬ (0 < p' ∨ 1 < T.1 - (ed T.2.2 T.1 b - s'))
      omega
    · intro h
      obtain ⟨j1, j2⟩ := i4 h
      exact (if_pos j2).trans (by rw [j1])
theorem pd_wrp {T : TRE} {b : Nat} {v : Int64} {y : Int} (h9 : T.1 < 20) (hb : b < T.1) : pedit (rwT T) 20 (3, 24, -1, v, -1) (b : Int) y = some (rin (T.1, T.2.1, dup b (ed T.2.2 T.1 b) T.2.2, fun i : Nat => (i : Int)) b 1 (fun _ => v, fun _ => T.2.2 b, fun _ => 20), 21) := by
  unfold pedit
  rw [spz_id hb, if_neg (by
    rintro (⟨-, w⟩ | ⟨w, -⟩)
    · omega
    · rcases w with w | w
      · exact absurd (show (3 : Int) = 4 from w) (by decide)
      · exact absurd (show (3 : Int) = 5 from w) (by decide)), if_neg (show ¬ (3 : Int) = 0 by decide), if_neg (show ¬ (3 : Int) = 1 by decide), if_neg (show ¬ (3 : Int) = 2 by decide), if_pos rfl, Int.toNat_natCast]
  unfold edWrp
  rw [if_neg (by show ¬ 20 ≤ T.1; omega)]
  rfl
theorem pd_add {T : TRE} {a : Nat} {v : Int64} {x : Int} (h9 : T.1 < 20) (ha : a < T.1) : (ed T.2.2 T.1 a = a + 1 → pedit (rwT T) 20 (4, -1, 23, v, 1) x (a : Int) = none) ∧ (ed T.2.2 T.1 a ≠ a + 1 → pedit (rwT T) 20 (4, -1, 23, v, 1) x (a : Int) = some (rin (rwT T) (ed T.2.2 T.1 a) 1 (fun _ => v, fun _ => T.2.2 a + 1, fun _ => 20), 21)) := by
  have e : pedit (rwT T) 20 (4, -1, 23, v, 1) x (a : Int) = edAdd (rwT T) 20 v 1 a := by
    unfold pedit
    rw [spz_id ha, if_neg (by
      rintro (⟨w, -⟩ | ⟨-, w⟩)
      · exact absurd rfl w
      · omega), if_neg (show ¬ (4 : Int) = 0 by decide), if_neg (show ¬ (4 : Int) = 1 by decide), if_neg (show ¬ (4 : Int) = 2 by decide), if_neg (show ¬ (4 : Int) = 3 by decide), if_pos rfl, Int.toNat_natCast]
  rw [e]
  unfold edAdd
  constructor
  · intro h
    rw [if_pos (Or.inr (Or.inl ⟨Or.inr rfl, h⟩))]
  · intro h
    rw [if_neg]
    · rfl
    · rintro (w | ⟨-, w⟩ | ⟨w, -⟩)
      · have w' : 20 ≤ T.1 := w
        omega
      · exact h w
      · exact w (Or.inr rfl)
