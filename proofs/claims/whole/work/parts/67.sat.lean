/-! what a node must be for a part, with its own relations -/
def vp (w : Nat → Int) (R : PRW) (p : Nat) : Int := w (R 8 p).toNat
def mt (R : PRW) (p : Nat) : Nat := if R 1 p = 4 then (R 2 p).toNat else p
def vlp (w : Nat → Int) (R : PRW) (p : Nat) : Int := vp w R (mt R p)
def own (T : TRE) (st : PST) (w : Nat → Int) (p a : Nat) : Prop := if st.2.2.2.1 1 p = 3 then T.2.1 a = T.2.1 (vp w st.2.2.2.1 (st.2.2.2.1 2 p).toNat).toNat else if st.2.2.2.1 1 p = 4 then (a : Int) = vp w st.2.2.2.1 (st.2.2.2.1 2 p).toNat else ftP st.2.2.2.1 st.2.2.2.2 p (T.2.1 a)
def satF (T : TRE) (st : PST) (w : Nat → Int) : Nat → Nat → Nat → Prop
  | 0, _, _ => True
  | f + 1, p, a => own T st w p a ∧ ∀ q, p < q → q < st.1 → st.2.2.2.1 3 q = (p : Int) → ((∃ b, b < T.1 ∧ rlp T st.2.2.2.1 q a b ∧ satF T st w f q b) ↔ st.2.2.2.1 4 q ≠ 1)
def sat (T : TRE) (st : PST) (w : Nat → Int) (p a : Nat) : Prop := satF T st w (st.1 - p) p a
theorem satF_fuel {T : TRE} {st : PST} {w : Nat → Int} : ∀ (f f' p a : Nat), st.1 - p ≤ f → st.1 - p ≤ f' → p < st.1 → (satF T st w f p a ↔ satF T st w f' p a) := by
  intro f
  induction f with
  | zero => intro f' p a h _ hp; omega
  | succ f ih =>
    intro f' p a h h' hp
    cases f' with
    | zero => omega
    | succ f' =>
      rw [satF, satF]
      have key : ∀ q, p < q → q < st.1 → ((∃ b, b < T.1 ∧ rlp T st.2.2.2.1 q a b ∧ satF T st w f q b) ↔ (∃ b, b < T.1 ∧ rlp T st.2.2.2.1 q a b ∧ satF T st w f' q b)) := fun q h1 h2 => by
        constructor
        · rintro ⟨b, b1, b2, b3⟩; exact ⟨b, b1, b2, (ih f' q b (by omega) (by omega) h2).mp b3⟩
        · rintro ⟨b, b1, b2, b3⟩; exact ⟨b, b1, b2, (ih f' q b (by omega) (by omega) h2).mpr b3⟩
      constructor
      · rintro ⟨h1, h2⟩; exact ⟨h1, fun q q1 q2 q3 => (key q q1 q2).symm.trans (h2 q q1 q2 q3)⟩
      · rintro ⟨h1, h2⟩; exact ⟨h1, fun q q1 q2 q3 => (key q q1 q2).trans (h2 q q1 q2 q3)⟩
/-- some node would do for part q, told of a -/
def smo (T : TRE) (st : PST) (w : Nat → Int) (q a : Nat) : Prop := ∃ b, b < T.1 ∧ rlp T st.2.2.2.1 q a b ∧ sat T st w q b
theorem sat_iff {T : TRE} {st : PST} {w : Nat → Int} {p a : Nat} (hp : p < st.1) : sat T st w p a ↔ (own T st w p a ∧ ∀ q, p < q → q < st.1 → st.2.2.2.1 3 q = (p : Int) → (smo T st w q a ↔ st.2.2.2.1 4 q ≠ 1)) := by
  unfold sat smo
  rw [show st.1 - p = (st.1 - p - 1) + 1 by omega, satF]
  have key : ∀ q, p < q → q < st.1 → ((∃ b, b < T.1 ∧ rlp T st.2.2.2.1 q a b ∧ satF T st w (st.1 - p - 1) q b) ↔ (∃ b, b < T.1 ∧ rlp T st.2.2.2.1 q a b ∧ sat T st w q b)) := fun q h1 h2 => by
    constructor
    · rintro ⟨b, b1, b2, b3⟩; exact ⟨b, b1, b2, (satF_fuel _ _ q b (by omega) (Nat.le_refl _) h2).mp b3⟩
    · rintro ⟨b, b1, b2, b3⟩; exact ⟨b, b1, b2, (satF_fuel _ _ q b (by omega) (Nat.le_refl _) h2).mpr b3⟩
  constructor
  · rintro ⟨h1, h2⟩; exact ⟨h1, fun q q1 q2 q3 => (key q q1 q2).symm.trans (h2 q q1 q2 q3)⟩
  · rintro ⟨h1, h2⟩; exact ⟨h1, fun q q1 q2 q3 => (key q q1 q2).trans (h2 q q1 q2 q3)⟩
/-- the model lies at tree T, pattern st, the values w of the first m numbers are given -/
def mOn (q : Nat) (T : TRE) (st : PST) (σ : zW) : Prop := q < 3 ∧ mTr q T σ ∧ mLd T σ ∧ gI σ 122 64 = (q : Int) ∧ mG st σ
theorem mG_fr {st : PST} {σ σ' : zW} {X : Nat → Nat → Prop} (h : mG st σ) (hF : yFr X σ σ') (hX : ∀ k j, X k j → ¬ (132 ≤ k ∧ k ≤ 145) ∧ ¬ (k = 122 ∧ (j = 18 ∨ j = 32 ∨ j = 34))) : mG st σ' := by
  obtain ⟨a1, a2, a3, a4, a5, a6⟩ := h
  exact ⟨(hF.i (fun w => (hX _ _ w).2 (by omega))).trans a1, (hF.i (fun w => (hX _ _ w).2 (by omega))).trans a2, (hF.i (fun w => (hX _ _ w).2 (by omega))).trans a3, fun q i q1 q2 hi => (hF.i (fun w => (hX _ _ w).1 (by omega))).trans (a4 q i q1 q2 hi), fun i hi => (hF.l (fun w => (hX _ _ w).1 (by omega))).trans (a5 i hi), fun k hk => (hF.i (fun w => (hX _ _ w).1 (by omega))).trans (a6 k hk)⟩
theorem mOn_fr {q : Nat} {T : TRE} {st : PST} {σ σ' : zW} {X : Nat → Nat → Prop} (h : mOn q T st σ) (hF : yFr X σ σ') (hX : ∀ k j, X k j → (k = 122 ∧ (j = 73 ∨ j = 75 ∨ j = 88)) ∨ (174 ≤ k ∧ k ≤ 178)) : mOn q T st σ' := by
  obtain ⟨h1, h2, h3, h4, h5⟩ := h
  exact ⟨h1, mTr_fr h2 hF (fun k j w => by have := hX k j w; omega), mLd_fr h3 hF (fun k j w => by have := hX k j w; omega), (hF.i (fun w => by have := hX _ _ w; omega)).trans h4, mG_fr h5 hF (fun k j w => by have := hX k j w; omega)⟩
theorem m_fits {K : List zF} (hK : K.length + 2 ≤ 60) {p q a : Nat} {T : TRE} {st : PST} {pd : Nat → Nat} {w : Nat → Int} {z x : Int} {σ : zW} (hgT : tgd T) (hO : mOn q T st σ) (hg : pgd st pd) (hc : st.1 ≤ 8) (hl : st.2.1 ≤ 300) (hp : p < st.1) (ha : a < T.1) (h34 : st.2.2.2.1 1 p = 3 ∨ st.2.2.2.1 1 p = 4 → gI σ 174 (st.2.2.2.1 2 p).toNat = vp w st.2.2.2.1 (st.2.2.2.1 2 p).toNat) (h3 : st.2.2.2.1 1 p = 3 → ∃ j : Nat, j < T.1 ∧ vp w st.2.2.2.1 (st.2.2.2.1 2 p).toNat = (j : Int)) (hz : z = (p : Int)) (hx : x = (a : Int)) : zEv true (zent 194 [.inr (.inr 122), .inl z, .inl x] :: K) σ = zRet true K (some (.inl (zb (own T st w p a)))) σ := by
  subst hz
  subst hx
  obtain ⟨hq, hM, hL, h64, hG⟩ := hO
  have hcp : 0 ≤ (p : Int) ∧ (p : Int) < 8 := by omega
  have e132 : gI σ 132 p = st.2.2.2.1 1 p := mG_k hG (q := 0) (i := p) (by omega) (by omega) hp
  have e135 : gI σ 135 p = st.2.2.2.1 2 p := mG_k hG (q := 3) (i := p) (by omega) (by omega) hp
  have h2 := (hg.2.1 p hp).2.2.2.2.1
  unfold own
  rw [ze_194 (by omega), yAnd hcp, Int.toNat_natCast, e132]
  by_cases c3 : st.2.2.2.1 1 p = 3
  · obtain ⟨o, o1, o2, -⟩ := h2 (Or.inl c3)
    have hco : 0 ≤ (o : Int) ∧ (o : Int) < 8 := by omega
    have e174 := h34 (Or.inl c3)
    obtain ⟨j, j1, j2⟩ := h3 c3
    rw [o1, Int.toNat_natCast] at e174 j2
    rw [if_neg (fun w => w c3), m_labelOf hq hgT hM h64 ha rfl, zr_194_15 (by omega), yAnd hcp, Int.toNat_natCast, e135, o1, yAnd hco, Int.toNat_natCast, e174, j2, m_labelOf hq hgT hM h64 j1 rfl, zr_194_30, if_pos c3, Int.toNat_natCast]
    by_cases c : T.2.1 a = T.2.1 j
    · rw [if_neg (fun w => w (zlc_eq.mpr c)), zb_t c]
    · rw [if_pos (fun w => c (zlc_eq.mp w)), zb_f c]
  · rw [if_pos c3, yAnd hcp, if_neg c3]
    by_cases c4 : st.2.2.2.1 1 p = 4
    · obtain ⟨o, o1, o2, -⟩ := h2 (Or.inr c4)
      have hco : 0 ≤ (o : Int) ∧ (o : Int) < 8 := by omega
      have e174 := h34 (Or.inr c4)
      rw [o1, Int.toNat_natCast] at e174
      rw [if_neg (fun w => w c4), yAnd hcp, e135, o1, yAnd hco, Int.toNat_natCast, e174, if_pos c4]
      by_cases c : (a : Int) = vp w st.2.2.2.1 o
      · rw [if_neg (fun w => w c), zb_t c]
      · rw [if_pos c, zb_f c]
    · rw [if_pos c4, m_fitsAlone (yKK (by omega)) hq hgT hM h64 hG hg hc hl hp ha rfl rfl, zr_194_79, yAnd (zb01 _), if_neg c4]
theorem m_isInPart {K : List zF} {p q : Nat} {T : TRE} {st : PST} {z : Int} {σ : zW} (hO : mOn q T st σ) (hc : st.1 ≤ 8) (hp : p < st.1) (hw : -1 ≤ st.2.2.2.1 9 p) (hz : z = (p : Int)) : zEv true (zent 196 [.inr (.inr 122), .inl z] :: K) σ = zRet true K (some (.inl (zb (¬ pln st.2.2.2.1 p)))) σ := by
  subst hz
  have hcp : 0 ≤ (p : Int) ∧ (p : Int) < 8 := by omega
  have e139 : gI σ 139 p = st.2.2.2.1 11 p := mG_k hO.2.2.2.2 (q := 7) (i := p) (by omega) (by omega) hp
  have e138 : gI σ 138 p = st.2.2.2.1 9 p + 1 := mG_k hO.2.2.2.2 (q := 6) (i := p) (by omega) (by omega) hp
  rw [ze_196, yAnd hcp, Int.toNat_natCast, e139, e138]
  by_cases c : st.2.2.2.1 11 p = 0
  · rw [if_neg (fun w => w c), yAnd hcp]
    by_cases c2 : st.2.2.2.1 9 p = -1
    · rw [if_pos (by omega), zb_f (fun w => w ⟨c, c2⟩)]
    · rw [if_neg (by omega), zb_t (fun w => c2 w.2)]
  · rw [if_pos c, zb_t (fun w => c w.1)]
/-- whether some node would do for part p, told of a -/
theorem m_isSome {K : List zF} (hK : K.length + 4 ≤ 60) {p q a : Nat} {T : TRE} {st : PST} {pd : Nat → Nat} {w : Nat → Int} {z x : Int} {σ : zW} (hgT : tgd T) (hO : mOn q T st σ) (hg : pgd st pd) (hc : st.1 ≤ 8) (hp : p < st.1) (hp0 : 0 < p) (ha : a < T.1) (hS : ∀ b, b < T.1 → gI σ 175 (20 * p + b) = zb (sat T st w p b)) (hz : z = (p : Int)) (hx : x = (a : Int)) : zEv true (zent 197 [.inr (.inr 122), .inl z, .inl x] :: K) σ = zRet true K (some (.inl (zb (smo T st w p a)))) σ := by
  subst hz
  subst hx
  have hn := hgT.1.1
  obtain ⟨hq, hM, hL, h64, hG⟩ := hO
  obtain ⟨m, kk, hm17, hk16, hm19, hk9, hm1, h5⟩ := (hg.2.1 p hp).2.2.2.1
  have e142 : gI σ 142 p = (m : Int) := (mG_k hG (q := 10) (i := p) (by omega) (by omega) hp).trans hm17
  have e143 : gI σ 143 p = (kk : Int) := (mG_k hG (q := 11) (i := p) (by omega) (by omega) hp).trans hk16
  have hrlp : ∀ b, rlp T st.2.2.2.1 p a b ↔ relP T m kk a b := fun b => by
    show relP T (st.2.2.2.1 17 p).toNat (st.2.2.2.1 16 p).toNat a b ↔ _
    rw [hm17, hk16, Int.toNat_natCast, Int.toNat_natCast]
  have loop : ∀ (d i : Nat) (y : Int), T.1 - i = d → i ≤ T.1 → ((y = 1 ∧ smo T st w p a) ∨ (y = 0 ∧ ∀ b, b < i → ¬ (rlp T st.2.2.2.1 p a b ∧ sat T st w p b))) → zEv true ((197, 5, [some (.inr (.inr 122)), some (.inl (p : Int)), some (.inl (a : Int)), some (.inl y), some (.inl (i : Int))], []) :: K) σ = zRet true K (some (.inl (zb (smo T st w p a)))) σ := by
    intro d
    induction d with
    | zero =>
      intro i y hd hi hv
      have h1 : (T.1 : Int) ≤ (i : Int) := by clear hv; omega
      have h2 : ∀ b, b < T.1 → b < i := fun b hb => by clear hv; omega
      rw [zj_197_5 (by omega), hL.1, if_pos h1]
      rcases hv with ⟨y1, h⟩ | ⟨y0, h⟩
      · rw [y1, yAnd (Or.inr rfl), zb_t h]
      · rw [y0, yAnd (Or.inl rfl), zb_f (fun ⟨b, b1, b2, b3⟩ => h b (h2 b b1) ⟨b2, b3⟩)]
    | succ d ih =>
      intro i y hd hi hv
      have hi' : i < T.1 := by clear hv; omega
      have h1 : ¬ (T.1 : Int) ≤ (i : Int) := by clear hv; omega
      have hd1 : T.1 - (i + 1) = d := by clear hv; omega
      have hcx : 0 ≤ ((20 * p + i : Nat) : Int) ∧ ((20 * p + i : Nat) : Int) < 160 := by clear hv; omega
      have hix : 20 * p + i < 100000 := by clear hv; omega
      have ei : w32 ((i : Int) + 1) = ((i + 1 : Nat) : Int) := by clear hv; rw [zw_id (by omega) (by omega)]; omega
      rw [zj_197_5 (by clear hv ei; omega), hL.1, if_neg h1]
      rcases hv with ⟨y1, h⟩ | ⟨y0, h⟩
      · rw [y1, if_pos (show ¬ (1 : Int) = 0 by decide), yAnd (Or.inr rfl), zb_t h]
      · rw [y0, if_neg (show ¬ ¬ (0 : Int) = 0 from fun w => w rfl), idx20l (e := p) (i := i) hix, yAnd hcx, Int.toNat_natCast, hS i hi']
        have next : ¬ (rlp T st.2.2.2.1 p a i ∧ sat T st w p i) → ∀ b, b < i + 1 → ¬ (rlp T st.2.2.2.1 p a b ∧ sat T st w p b) := fun q b hb => by
          by_cases e : b = i
          · rw [e]; exact q
          · exact h b (by clear ei; omega)
        rcases Classical.em (sat T st w p i) with hs | hs
        · rw [if_neg (fun w => zb0.mp w hs), m_holds (yKK (by clear ei; omega)) hq hgT hM hL h64 (by clear ei; omega) e142 e143 ⟨hm1 hp0, hm19⟩ ha hi' rfl rfl rfl, zr_197_41]
          rcases Classical.em (relP T m kk a i) with hr | hr
          · rw [if_neg (fun w => zb0.mp w hr), ei]
            exact ih (i + 1) 1 hd1 hi' (Or.inl ⟨rfl, i, hi', (hrlp i).mpr hr, hs⟩)
          · rw [if_pos (zb0.mpr hr), zj_197_48, ei]
            exact ih (i + 1) 0 hd1 hi' (Or.inr ⟨rfl, next (fun w => hr ((hrlp i).mp w.1))⟩)
        · rw [if_pos (zb0.mpr hs), zj_197_48, ei]
          exact ih (i + 1) 0 hd1 hi' (Or.inr ⟨rfl, next (fun w => hs w.2)⟩)
  rw [ze_197]
  exact loop T.1 0 0 (Nat.sub_zero _) (Nat.zero_le _) (Or.inr ⟨rfl, fun b hb => absurd hb (Nat.not_lt_zero _)⟩)
