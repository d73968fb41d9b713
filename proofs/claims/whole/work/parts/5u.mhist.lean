/-! the model drops what it kept -/
theorem m_dropRow {K : List zF} {k n c : Nat} {o1 : Option zV} {σ : zW} (hk : k < 512) (hc : c ≤ 20) (hn : n = 20 - c)
    (h : ∀ σ' : zW, yFr (fun k' j => k' = 131 ∧ 20 * k ≤ j ∧ j < 20 * k + 20) σ σ' → (∀ i, c ≤ i → i < 20 → gL σ' 131 (20 * k + i) = gL σ 131 (20 * (k + 1) + i)) → (∀ i, i < c → gL σ' 131 (20 * k + i) = gL σ 131 (20 * k + i)) → zEv true ((242, 12, [some (.inr (.inr 122)), (zcut 0 o1), some (.inl ((k + 1 : Nat) : Int)), some (.inl 20)], []) :: K) σ') :
    zEv true ((242, 50, [some (.inr (.inr 122)), o1, some (.inl (k : Int)), some (.inl (c : Int))], []) :: K) σ := by
  have loop : ∀ (n c : Nat) (σ2 : zW), n = 20 - c → c ≤ 20 → yFr (fun k' j => k' = 131 ∧ 20 * k ≤ j ∧ j < 20 * k + c) σ σ2 → (∀ σ' : zW, yFr (fun k' j => k' = 131 ∧ 20 * k ≤ j ∧ j < 20 * k + 20) σ2 σ' → (∀ i, c ≤ i → i < 20 → gL σ' 131 (20 * k + i) = gL σ 131 (20 * (k + 1) + i)) → (∀ i, i < c → gL σ' 131 (20 * k + i) = gL σ2 131 (20 * k + i)) → zEv true ((242, 12, [some (.inr (.inr 122)), (zcut 0 o1), some (.inl ((k + 1 : Nat) : Int)), some (.inl 20)], []) :: K) σ') → zEv true ((242, 50, [some (.inr (.inr 122)), o1, some (.inl (k : Int)), some (.inl (c : Int))], []) :: K) σ2 := by
    intro n
    induction n with
    | zero =>
      intro c σ2 hn hc hF h
      have ec : c = 20 := by omega
      subst ec
      have b4 : w32 ((k : Int) + 1) = ((k + 1 : Nat) : Int) := by rw [zw_id (by omega) (by omega)]; omega
      rw [zj_242_50, if_pos (by clear b4; omega), b4]
      exact h σ2 yFr.rf (fun i h1 h2 => by omega) (fun i _ => rfl)
    | succ n ih =>
      intro c σ2 hn hc hF h
      have hcx : 0 ≤ ((20 * (k + 1) + c : Nat) : Int) ∧ ((20 * (k + 1) + c : Nat) : Int) < 10260 := by omega
      have hcy : 0 ≤ ((20 * k + c : Nat) : Int) ∧ ((20 * k + c : Nat) : Int) < 10260 := by omega
      have hn1 : ¬ (20 : Int) ≤ (c : Int) := by omega
      have hn2 : n = 20 - (c + 1) := by omega
      have hn3 : c + 1 ≤ 20 := by omega
      have b4 : w32 ((k : Int) + 1) = ((k + 1 : Nat) : Int) := by rw [zw_id (by omega) (by omega)]; omega
      have b5 : w32 ((c : Int) + 1) = ((c + 1 : Nat) : Int) := by clear b4; rw [zw_id (by omega) (by omega)]; omega
      rw [zj_242_50, if_neg hn1, b4, b5, idx20l (e := k + 1) (i := c) (by clear b4 b5; omega), idx20l (e := k) (i := c) (by clear b4 b5; omega), yAnd hcx, yAnd hcy, Int.toNat_natCast, Int.toNat_natCast]
      clear b4 b5
      have eo : gL σ2 131 (20 * (k + 1) + c) = gL σ 131 (20 * (k + 1) + c) := hF.l (by omega)
      have hF2 : yFr (fun k' j => k' = 131 ∧ j = 20 * k + c) σ2 (sL σ2 131 (20 * k + c) (gL σ2 131 (20 * (k + 1) + c))) := yFr.rf.L ⟨rfl, rfl⟩
      have hq : gL (sL σ2 131 (20 * k + c) (gL σ2 131 (20 * (k + 1) + c))) 131 (20 * k + c) = gL σ 131 (20 * (k + 1) + c) := by rw [gL_sL, if_pos ⟨rfl, rfl⟩, eo]
      generalize sL σ2 131 (20 * k + c) (gL σ2 131 (20 * (k + 1) + c)) = σ3 at hF2 hq ⊢
      refine ih (c + 1) σ3 hn2 hn3 ((hF.mono (fun k' j h => by omega)).trans (hF2.mono (fun k' j h => by omega))) (fun σ' hF3 q1 q2 => h σ' ((hF2.mono (fun k' j h => by omega)).trans hF3) (fun i h1 h2 => ?_) (fun i h1 => ?_))
      · by_cases e : i = c
        · rw [e, q2 c (by omega), hq]
        · exact q1 i (by omega) h2
      · rw [q2 i (by omega), hF2.l (by omega)]
  exact loop n c σ hn hc yFr.rf h
theorem m_drops {K : List zF} {m g : Nat} {pl : Nat → Nat} {Ts : Nat → TRE} {z : Int} {σ : zW} (hm : m ≤ 513) (hg : g < m) (h : mH m pl Ts σ) (hz : z = (g : Int))
    (k : ∀ σ' : zW, yFr Xmh σ σ' → mH (m - 1) (shl g 1 pl) (shl g 1 Ts) σ' → zRet true K none σ') : zEv true (zent 242 [.inr (.inr 122), .inl z] :: K) σ := by
  subst hz
  have loop : ∀ (n i : Nat) (o1 o3 : Option zV) (σ2 : zW), n = m - 1 - i → g ≤ i → i ≤ m - 1 → yFr Xmh σ σ2 → gI σ2 122 14 = ((m - 1 : Nat) : Int) → (∀ j, j < m → (g ≤ j → j < i → mHe σ2 j (pl (j + 1)) (Ts (j + 1))) ∧ ((j < g ∨ i ≤ j) → mHe σ2 j (pl j) (Ts j))) → zEv true ((242, 12, [some (.inr (.inr 122)), o1, some (.inl (i : Int)), o3], []) :: K) σ2 := by
    intro n
    induction n with
    | zero =>
      intro i o1 o3 σ2 hn h1 h2 hF e14 hE
      rw [zj_242_12, e14, if_pos (by omega)]
      refine k σ2 hF ⟨e14, fun j hj => ?_⟩
      by_cases e : j < g
      · rw [shl_lo e, shl_lo e]
        exact ⟨(h.2 j (by omega)).1, (hE j (by omega)).2 (Or.inl e)⟩
      · rw [shl_hi (by omega), shl_hi (by omega)]
        exact ⟨(h.2 (j + 1) (by omega)).1, (hE j (by omega)).1 (by omega) (by omega)⟩
    | succ n ih =>
      intro i o1 o3 σ2 hn h1 h2 hF e14 hE
      have hcc : 0 ≤ (i : Int) ∧ (i : Int) < 513 := by omega
      have hcd : 0 ≤ ((i + 1 : Nat) : Int) ∧ ((i + 1 : Nat) : Int) < 513 := by omega
      have hn1 : ¬ ((m - 1 : Nat) : Int) ≤ (i : Int) := by omega
      have hq := (hE (i + 1) (by omega)).2 (Or.inr (by omega))
      have hT20 := (h.2 (i + 1) (by omega)).1.2.1.1.1
      have b4 : w32 ((i : Int) + 1) = ((i + 1 : Nat) : Int) := by rw [zw_id (by omega) (by omega)]; omega
      rw [zj_242_12, e14, if_neg hn1, b4, yAnd hcd, yAnd hcc, yAnd hcd, yAnd hcc, Int.toNat_natCast, Int.toNat_natCast, hq.1, hq.2.1]
      clear b4
      have hF2 : yFr (fun k j => (k = 129 ∨ k = 130) ∧ j = i) σ2 (sI (sI σ2 129 i ((pl (i + 1) : Nat) : Int)) 130 i ((Ts (i + 1)).1 : Int)) := (yFr.rf.I (by omega)).I (by omega)
      have q129 : gI (sI (sI σ2 129 i ((pl (i + 1) : Nat) : Int)) 130 i ((Ts (i + 1)).1 : Int)) 129 i = ((pl (i + 1) : Nat) : Int) := by rw [gI_sI, if_neg (by omega), yGI_hit]
      have q130 : gI (sI (sI σ2 129 i ((pl (i + 1) : Nat) : Int)) 130 i ((Ts (i + 1)).1 : Int)) 130 i = ((Ts (i + 1)).1 : Int) := yGI_hit
      generalize sI (sI σ2 129 i ((pl (i + 1) : Nat) : Int)) 130 i ((Ts (i + 1)).1 : Int) = σ3 at hF2 q129 q130 ⊢
      refine m_dropRow (n := 20) (c := 0) (by omega) (by omega) rfl (fun σ4 hF4 r1 r2 => ?_)
      have hFF : yFr (fun k j => ((k = 129 ∨ k = 130) ∧ j = i) ∨ (k = 131 ∧ 20 * i ≤ j ∧ j < 20 * i + 20)) σ2 σ4 := (hF2.mono (fun k j h => Or.inl h)).trans (hF4.mono (fun k j h => Or.inr h))
      refine ih (i + 1) _ _ σ4 (by omega) (by omega) (by omega) (hF.trans (hFF.mono (fun k j h => by omega))) ((hFF.i (by omega)).trans e14) (fun j hj => ⟨fun j1 j2 => ?_, fun j1 => ?_⟩)
      · by_cases e : j = i
        · subst e
          refine ⟨(hF4.i (by omega)).trans q129, (hF4.i (by omega)).trans q130, fun b hb => ?_⟩
          rw [r1 b (Nat.zero_le _) (by omega), hF2.l (by omega)]
          exact hq.2.2 b hb
        · exact mHe_fr ((hE j hj).1 j1 (by omega)) ((h.2 (j + 1) (by omega)).1.2.1.1.1) hFF (by omega) (by omega) (fun b hb => by omega)
      · exact mHe_fr ((hE j hj).2 (by omega)) ((h.2 j hj).1.2.1.1.1) hFF (by omega) (by omega) (fun b hb => by omega)
  have b4 : w32 ((m : Int) - 1) = ((m - 1 : Nat) : Int) := by rw [zw_id (by omega) (by omega)]; omega
  rw [ze_242, h.1, b4]
  clear b4
  have hF0 : yFr (fun k j => k = 122 ∧ j = 14) σ (sI σ 122 14 ((m - 1 : Nat) : Int)) := yFr.rf.I ⟨rfl, rfl⟩
  exact loop _ g _ _ _ rfl (Nat.le_refl _) (by omega) (hF0.mono (fun k j h => Or.inl h)) yGI_hit (fun j hj => ⟨fun j1 j2 => by omega, fun _ => mHe_fr (h.2 j hj).2 ((h.2 j hj).1.2.1.1.1) hF0 (by omega) (by omega) (fun b hb => by omega)⟩)
/-- the latest entry of a place, dropped -/
theorem mHi_drop {m k p : Nat} {pl : Nat → Nat} {Ts : Nat → TRE} {H : Nat → List TRE} {σ' : zW} (hkm : k < m) (hp3 : p < 3) (hp : pl k = p) (hlast : ∀ j, k < j → j < m → pl j ≠ p) (hH : ∀ q, q < 3 → hl pl Ts q m = H q) (h : mH (m - 1) (shl k 1 pl) (shl k 1 Ts) σ') : ∃ l, H p = Ts k :: l ∧ mHi (m - 1) (fup H p l) σ' := by
  refine ⟨hl (shl k 1 pl) (shl k 1 Ts) p (m - 1), ?_, shl k 1 pl, shl k 1 Ts, h, fun q hq => ?_⟩
  · rw [← hH p hp3]; exact hl_dropK hp hkm hlast
  · by_cases e : q = p
    · rw [e, fup_eq]
    · rw [fup_ne e, ← hH q hq]
      have := hl_dropO (Ts := Ts) (q := q) (pl := pl) (k := k) (by rw [hp]; exact fun w => e w.symm) (m - 1) (by omega)
      rw [this, show m - 1 + 1 = m by omega]
theorem m_forgets_loop {K : List zF} (hK : K.length + 1 ≤ 60) {p : Nat} (hp : p < 3) : ∀ (f m : Nat) (pl : Nat → Nat) (Ts : Nat → TRE) (H : Nat → List TRE) (z : Int) (σ : zW), m ≤ f → m ≤ 513 → mH m pl Ts σ → (∀ q, q < 3 → hl pl Ts q m = H q) → laI m pl p z →
    (∀ (m' : Nat) (σ' : zW), m' ≤ m → yFr Xmh σ σ' → mHi m' (fup H p []) σ' → zRet true K none σ') → zEv true ((244, 6, [some (.inr (.inr 122)), some (.inl (p : Int)), some (.inl z)], []) :: K) σ := by
  intro f
  induction f with
  | zero =>
    intro m pl Ts H z σ hm hm5 h1 h2 hz k
    rcases hz with ⟨j, j1, -⟩ | ⟨j1, j2⟩
    · omega
    · rw [zj_244_6 (by omega), if_pos j2]
      refine k m σ (Nat.le_refl _) yFr.rf ⟨pl, Ts, h1, fun q hq => ?_⟩
      by_cases e : q = p
      · rw [e, fup_eq]; exact hl_none m j1
      · rw [fup_ne e]; exact h2 q hq
  | succ f ih =>
    intro m pl Ts H z σ hm hm5 h1 h2 hz k
    rcases hz with ⟨j, j1, j2, j3, j4⟩ | ⟨j1, j2⟩
    · rw [zj_244_6 (by omega), if_neg (by omega)]
      refine m_drops hm5 j1 h1 j4 (fun σ' hF h' => ?_)
      obtain ⟨l, l1, -⟩ := mHi_drop j1 hp j2 j3 h2 h'
      obtain ⟨z', hz'⟩ := laI_ex (m - 1) (shl j 1 pl) p
      have h2' : ∀ q, q < 3 → hl (shl j 1 pl) (shl j 1 Ts) q (m - 1) = fup H p l q := fun q hq => by
        by_cases e : q = p
        · have := hl_dropK (Ts := Ts) (q := p) j2 j1 j3
          rw [h2 p hp, l1] at this
          rw [e, fup_eq]
          exact (List.cons.inj this).2.symm
        · have := hl_dropO (Ts := Ts) (q := q) (pl := pl) (k := j) (by rw [j2]; exact fun w => e w.symm) (m - 1) (by omega)
          rw [this, fup_ne e, show m - 1 + 1 = m by omega]; exact h2 q hq
      rw [zr_244_16 (by omega), m_latest (m := m - 1) (pl := shl j 1 pl) (by omega) h'.1 (fun k hk => (h'.2 k hk).2.1) hz', zr_244_21]
      refine ih (m - 1) _ _ (fup H p l) z' σ' (by omega) (by omega) h' h2' hz' (fun m' σ2 hm' hF2 h3 => k m' σ2 (by omega) (hF.trans hF2) ?_)
      have e : fup (fup H p l) p [] = fup H p [] := by
        funext q
        by_cases e : q = p
        · rw [e, fup_eq, fup_eq]
        · rw [fup_ne e, fup_ne e, fup_ne e]
      rw [e] at h3
      exact h3
    · rw [zj_244_6 (by omega), if_pos j2]
      refine k m σ (Nat.le_refl _) yFr.rf ⟨pl, Ts, h1, fun q hq => ?_⟩
      by_cases e : q = p
      · rw [e, fup_eq]; exact hl_none m j1
      · rw [fup_ne e]; exact h2 q hq
theorem m_forgets {K : List zF} (hK : K.length + 1 ≤ 60) {p m : Nat} {H : Nat → List TRE} {σ : zW} (hp : p < 3) (hm : m ≤ 513) (h : mHi m H σ)
    (k : ∀ (m' : Nat) (σ' : zW), m' ≤ m → yFr Xmh σ σ' → mHi m' (fup H p []) σ' → zRet true K none σ') : zEv true (zent 244 [.inr (.inr 122), .inl (p : Int)] :: K) σ := by
  obtain ⟨pl, Ts, h1, h2⟩ := h
  obtain ⟨z, hz⟩ := laI_ex m pl p
  rw [ze_244 (by omega), m_latest hm h1.1 (fun k hk => (h1.2 k hk).2.1) hz, zr_244_5]
  exact m_forgets_loop hK hp m m pl Ts H z σ (Nat.le_refl _) hm h1 h2 hz k
