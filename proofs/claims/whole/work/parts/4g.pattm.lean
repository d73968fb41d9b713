/-! a part entered by the model -/
def sgR (m : Int) : Int := if m = 1 then 33 else if m = 2 then 63 else 0
/-- the fields as the model keeps them, cell 146 and on -/
def MR (R : PRW) (q i : Nat) : Int := if q = 0 then R 1 i else if q = 1 then R 6 i else if q = 2 then R 7 i - R 6 i else if q = 3 then R 2 i else if q = 4 then R 8 i else if q = 5 then R 15 i else if q = 6 then R 9 i + 1 else if q = 7 then R 11 i else if q = 8 then R 3 i else if q = 9 then sgR (R 4 i) else if q = 10 then R 17 i else R 16 i
def mP (st : PST) (σ : zW) : Prop := gI σ 122 35 = (st.1 : Nat) ∧ gI σ 122 49 = (st.2.1 : Nat) ∧ gI σ 122 50 = (st.2.2.1 : Nat) ∧ (∀ q i, q < 12 → (q = 1 → st.2.2.2.1 7 i ≠ st.2.2.2.1 6 i) → i < st.1 → gI σ (146 + q) i = MR st.2.2.2.1 q i) ∧ ∀ i, i < st.2.1 → gL σ 158 i = st.2.2.2.2 i
abbrev Xnm (c : Nat) : Nat → Nat → Prop := fun k j => (k = 122 ∧ ((2 ≤ j ∧ j ≤ 7) ∨ j = 35 ∨ j = 49 ∨ j = 50)) ∨ (146 ≤ k ∧ k ≤ 157 ∧ j = c) ∨ k = 158
theorem entR_o {R : PRW} {c n nb : Nat} {nm : Int} {row : Nat → Int} {k i : Nat} (h1 : k ≠ 13) (h2 : k ≠ 14) (hi : i ≠ c) : entR R c n nb nm row k i = R k i := by
  unfold entR
  rw [if_neg h1, if_neg h2, if_neg hi]
theorem entR_n {R : PRW} {c n nb : Nat} {nm : Int} {row : Nat → Int} {k : Nat} (h1 : k ≠ 13) (h2 : k ≠ 14) : entR R c n nb nm row k c = row k := by
  unfold entR
  rw [if_neg h1, if_neg h2, if_pos rfl]
theorem MR_old {R : PRW} {c n nb : Nat} {nm : Int} {row : Nat → Int} {q i : Nat} (hi : i ≠ c) : MR (entR R c n nb nm row) q i = MR R q i := by
  have e : ∀ k, k ≠ 13 → k ≠ 14 → entR R c n nb nm row k i = R k i := by
    intro k h1 h2
    unfold entR
    rw [if_neg h1, if_neg h2, if_neg hi]
  unfold MR
  rw [e 1 (by decide) (by decide), e 6 (by decide) (by decide), e 7 (by decide) (by decide), e 2 (by decide) (by decide), e 8 (by decide) (by decide), e 15 (by decide) (by decide), e 9 (by decide) (by decide), e 11 (by decide) (by decide), e 3 (by decide) (by decide), e 4 (by decide) (by decide), e 17 (by decide) (by decide), e 16 (by decide) (by decide)]
theorem MR_new {R : PRW} {c n nb : Nat} {nm : Int} {row : Nat → Int} {q : Nat} : MR (entR R c n nb nm row) q c = MR (fun k _ => row k) q c := by
  have e : ∀ k, k ≠ 13 → k ≠ 14 → entR R c n nb nm row k c = row k := by
    intro k h1 h2
    unfold entR
    rw [if_neg h1, if_neg h2, if_pos rfl]
  unfold MR
  rw [e 1 (by decide) (by decide), e 6 (by decide) (by decide), e 7 (by decide) (by decide), e 2 (by decide) (by decide), e 8 (by decide) (by decide), e 15 (by decide) (by decide), e 9 (by decide) (by decide), e 11 (by decide) (by decide), e 3 (by decide) (by decide), e 4 (by decide) (by decide), e 17 (by decide) (by decide), e 16 (by decide) (by decide)]
theorem mP_end {st : PST} {here mk : Int} {m k : Nat} {z : Int} {b : Int × Nat × (Nat → Int64) × Nat} {nm : Int} {σ σ' : zW} (h : mP st σ) (hF : yFr (Xnm st.1) σ σ') (h35 : gI σ' 122 35 = ((st.1 + 1 : Nat) : Int)) (h49 : gI σ' 122 49 = (b.2.1 : Nat)) (h50 : gI σ' 122 50 = ((st.2.2.1 + nbrR (denR st.2.2.2.1 here mk) z : Nat) : Int))
    (hrow : ∀ q, q < 12 → (q = 1 → b.2.1 ≠ st.2.1) → gI σ' (146 + q) st.1 = MR (fun j _ => rowR (kndR z) b.1 here mk (cop m k) (st.2.1 : Nat) (b.2.1 : Nat) (if nbrR (denR st.2.2.2.1 here mk) z = 1 then (st.2.2.1 : Nat) else -1) (hdR st.2.2.2.1 here mk st.1) (denR st.2.2.2.1 here mk) nm (k : Nat) (m : Nat) j) q st.1) (hB : ∀ i, i < b.2.1 → gL σ' 158 i = b.2.2.1 i) : mP (nodE st here mk m k z b nm) σ' := by
  obtain ⟨a1, a2, a3, a4, a5⟩ := h
  unfold nodE
  refine ⟨h35, h49, h50, fun q i q1 q2 hi => ?_, hB⟩
  have hi2 : i < st.1 + 1 := hi
  by_cases e : i = st.1
  · subst e
    show gI σ' (146 + q) st.1 = MR (entR _ _ _ _ _ _) q st.1
    rw [MR_new]
    refine hrow q q1 (fun w w2 => ?_)
    refine q2 w ?_
    dsimp only
    rw [entR_n (by decide) (by decide), entR_n (by decide) (by decide)]
    show ((b.2.1 : Nat) : Int) = (st.2.1 : Nat)
    omega
  · show gI σ' (146 + q) i = MR (entR _ _ _ _ _ _) q i
    rw [MR_old e, hF.i (by omega)]
    refine a4 q i q1 (fun w w2 => ?_) (by omega)
    refine q2 w ?_
    dsimp only
    rw [entR_o (by decide) (by decide) e, entR_o (by decide) (by decide) e]
    exact w2
theorem rwc_u {t c : Nat} {l : List Nat} {RW : Nat → Int} {σ : zW} (h : rwc t c l RW σ) {k0 j0 : Nat} {v : Int} (hk : k0 < t) : rwc t c l RW (sI σ k0 j0 v) := by
  intro q hq
  rw [gI_sI, if_neg (fun w => by omega)]
  exact h q hq
def rowM (kd hr sg m k dn hd nu : Int) (q : Nat) : Int := if q = 0 then kd else if q = 2 then 0 else if q = 3 then -1 else if q = 4 then nu else if q = 5 then 0 else if q = 6 then hd else if q = 7 then dn else if q = 8 then hr else if q = 9 then sg else if q = 10 then m else k
theorem m_enter {K : List zF} (hK : K.length + 4 ≤ 60) {f : Nat → Int} {L c n nb p : Nat} {here sg m k dn x6 z hd : Int} {σ : zW} (hT : mT f L σ) (h2 : gI σ 122 2 = (p : Int)) (hz : tb f L p = z) (h35 : gI σ 122 35 = (c : Int)) (h50 : gI σ 122 50 = (n : Int)) (hc : c < 8) (hn4 : n ≤ 4) (hdn : dn = 0 ∨ dn = 1) (hnb : nb = nbrR dn z) (hhd : hd = if ¬ sg = 63 then x6 else (c : Int) + 1)
    (k0 : ∀ σ8 : zW, yFr (Xnm c) σ σ8 → gI σ8 122 35 = ((c + 1 : Nat) : Int) → gI σ8 122 50 = ((n + nb : Nat) : Int) → rwc 146 c [0, 4, 3, 2, 5, 6, 7, 11, 10, 9, 8] (rowM (kndR z) here sg m k dn hd (if nb = 1 then (n : Int) else -1)) σ8 → (∀ j, ¬ (j = 35 ∨ j = 50) → gI σ8 122 j = gI σ 122 j) → (∀ i, gL σ8 158 i = gL σ 158 i) →
      zRet true ((158, 303, [some (.inr (.inr 122)), some (.inl here), some (.inl sg), some (.inl m), some (.inl k), some (.inl dn), some (.inl x6), some (.inl (c : Int)), some (.inl z)], [.inl (p : Int), .inr (.inr 122)]) :: K) (some (.inl (if zlet z then 1 else 0))) σ8) :
    zRet true ((158, 73, [some (.inr (.inr 122)), some (.inl here), some (.inl sg), some (.inl m), some (.inl k), some (.inl dn), some (.inl x6), none, none], []) :: K) (some (.inl 1)) σ := by
  have hcc : 0 ≤ (c : Int) ∧ (c : Int) < 8 := by omega
  have ekd : (if ¬ z = 42 then (if ¬ z = 33 then (if ¬ z = 126 then (if ¬ z = 61 then 1 else 4 : Int) else 3 : Int) else 2 : Int) else 0 : Int) = kndR z := by
    unfold kndR
    by_cases h1 : z = 42
    · rw [if_neg (fun w => w h1), if_pos h1]
    · rw [if_pos h1, if_neg h1]
      by_cases h2 : z = 61
      · rw [if_pos (show ¬ z = 33 by omega), if_pos (show ¬ z = 126 by omega), if_neg (fun w => w h2), if_pos h2]
      · rw [if_neg h2]
        by_cases h3 : z = 126
        · rw [if_pos (show ¬ z = 33 by omega), if_neg (fun w => w h3), if_pos h3]
        · rw [if_neg h3]
          by_cases h4 : z = 33
          · rw [if_neg (fun w => w h4), if_pos h4]
          · rw [if_pos h4, if_pos h3, if_pos h2, if_neg h4]
  have enu : (if ¬ dn = 0 then (-1) else (if ¬ z = 61 then (n : Int) else (-1) : Int) : Int) = if nb = 1 then (n : Int) else -1 := by
    rw [hnb]; unfold nbrR
    by_cases h1 : dn = 0
    · by_cases h2 : z = 61
      · rw [if_neg (fun w => w h1), if_neg (fun w => w h2), if_neg (by rw [if_neg (fun w => w.2 h2)]; omega)]
      · rw [if_neg (fun w => w h1), if_pos h2, if_pos (if_pos ⟨h1, h2⟩)]
    · rw [if_pos h1, if_neg (by rw [if_neg (fun w => h1 w.1)]; omega)]
  have enn : (if ¬ dn = 0 then 0 else (if ¬ z = 61 then 1 else 0 : Int) : Int) = (nb : Int) := by
    rw [hnb]; unfold nbrR
    by_cases h1 : dn = 0
    · by_cases h2 : z = 61
      · rw [if_neg (fun w => w h1), if_neg (fun w => w h2), if_neg (fun w => w.2 h2)]; rfl
      · rw [if_neg (fun w => w h1), if_pos h2, if_pos ⟨h1, h2⟩]; rfl
    · rw [if_pos h1, if_neg (fun w => h1 w.1)]; rfl
  have hn1 : nb ≤ 1 := by rw [hnb]; unfold nbrR; split <;> omega
  have ehd : (if ¬ sg = 63 then x6 else w32 ((c : Int) + 1) : Int) = hd := by rw [hhd, zw_id (by omega) (by omega)]
  rw [zr_158_73 (by omega), if_pos (show ¬ (1 : Int) = 0 by omega), m_code hT h2, hz, h35, zr_158_88 (by omega), yAnd hcc, yAnd hcc, yAnd hcc, yAnd hcc, yAnd ⟨hcc, hdn⟩, yAnd hcc, yAnd hcc, yAnd hcc, yAnd hcc, yAnd hcc, yAnd hcc, Int.toNat_natCast, h50, h35, h2, ekd, enu, enn, ehd, zw_id (by omega) (by omega), zw_id (by omega) (by omega), m_isLetter (yKK (by omega))]
  have hr : rwc 146 c [0, 4, 3, 2, 5, 6, 7, 11, 10, 9, 8] (rowM (kndR z) here sg m k dn hd (if nb = 1 then (n : Int) else -1)) (sI (sI (sI (sI (sI (sI (sI (sI (sI (sI (sI (sI (sI σ 122 35 ((c : Int) + 1)) 154 c here) 155 c sg) 156 c m) 157 c k) 153 c dn) 152 c hd) 151 c 0) 148 c 0) 149 c (-1)) 150 c (if nb = 1 then (n : Int) else -1)) 122 50 ((n : Int) + nb)) 146 c (kndR z)) :=
    rwc_w (q0 := 0) (rwc_u (rwc_w (q0 := 4) (rwc_w (q0 := 3) (rwc_w (q0 := 2) (rwc_w (q0 := 5) (rwc_w (q0 := 6) (rwc_w (q0 := 7) (rwc_w (q0 := 11) (rwc_w (q0 := 10) (rwc_w (q0 := 9) (rwc_w (q0 := 8) (rwc_u rwc_nil (by decide)) rfl) rfl) rfl) rfl) rfl) rfl) rfl) rfl) rfl) rfl) (by decide)) rfl
  refine k0 _ ?_ ?_ ?_ hr ?_ (fun i => rfl)
  · refine (((((((((((((yFr.rf.I ?_).I ?_).I ?_).I ?_).I ?_).I ?_).I ?_).I ?_).I ?_).I ?_).I ?_).I ?_).I ?_) <;> omega
  · rw [yGI_nk (by decide), yGI_nj (by decide)]
    repeat rw [yGI_nk (by decide)]
    rw [yGI_hit]; omega
  · rw [yGI_nk (by decide), yGI_hit]; omega
  · intro j hj
    rw [yGI_nk (by decide), yGI_nj (by omega)]
    repeat rw [yGI_nk (by decide)]
    rw [yGI_nj (by omega)]
