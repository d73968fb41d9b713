/-! the model: is all so -/
abbrev fr3 (st : PST) (p : Nat) : Nat := (st.2.2.2.1 3 p).toNat
/-- the node that a part's relation is told of -/
def ndu (st : PST) (w : Nat → Int) (p : Nat) : Nat := (vlp w st.2.2.2.1 (fr3 st p)).toNat
/-- the relation of part p is so -/
def soP (T : TRE) (st : PST) (w : Nat → Int) (p : Nat) : Prop :=
  st.2.2.2.1 11 (fr3 st p) = 0 → (st.2.2.2.1 9 (fr3 st p) ≠ -1 → gvn st w (st.2.2.2.1 9 (fr3 st p))) →
  (st.2.2.2.1 4 p = 1 → ¬ smo T st w p (ndu st w p)) ∧
  (st.2.2.2.1 4 p = 2 → hnm st p → ¬ gvn st w p → ¬ smo T st w p (ndu st w p)) ∧
  (st.2.2.2.1 4 p ≠ 1 → (st.2.2.2.1 4 p = 2 → hnm st p ∧ gvn st w p) → rlp T st.2.2.2.1 p (ndu st w p) (vlp w st.2.2.2.1 p).toNat)
/-- what is active has a node -/
def vld (T : TRE) (st : PST) (w : Nat → Int) : Prop := ∀ r, r < st.1 → st.2.2.2.1 11 r = 0 → (st.2.2.2.1 9 r = -1 ∨ gvn st w (st.2.2.2.1 9 r)) → ∃ a : Nat, a < T.1 ∧ vlp w st.2.2.2.1 r = (a : Int)
theorem head_iff {st : PST} {pd : Nat → Nat} (hg : pgd st pd) {p : Nat} (hp : p < st.1) (h0 : 0 < p) (hw : pw st) : (st.2.2.2.1 9 p = (p : Int) ↔ st.2.2.2.1 4 p = 2) := by
  obtain ⟨b1, b2, b3⟩ := (hg.2.1 p hp).2.2.2.2.2.2.2.2.2 h0
  have h3 := (hg.2.1 p hp).1
  have hpa := pa_ge pd (pd p) p
  rw [← h3] at hpa
  have h9 := hw.2.2.2 (fr3 st p) (by show (st.2.2.2.1 3 p).toNat < _; omega)
  constructor
  · intro h
    rw [b2] at h
    by_cases c : st.2.2.2.1 9 (st.2.2.2.1 3 p).toNat ≠ -1
    · rw [if_pos c] at h
      have h9' : st.2.2.2.1 9 (st.2.2.2.1 3 p).toNat ≤ (((st.2.2.2.1 3 p).toNat : Nat) : Int) := h9.2.2.2.1
      omega
    · rw [if_neg c] at h
      by_cases c2 : st.2.2.2.1 4 p = 2
      · exact c2
      · rw [if_neg c2] at h; omega
  · intro h
    have := b3 h
    rw [b2, if_neg (fun w => w this.1), if_pos h]
theorem m_isSo {K : List zF} (hK : K.length + 6 ≤ 60) {p q : Nat} {T : TRE} {st : PST} {pd : Nat → Nat} {w : Nat → Int} {z : Int} {σ : zW} (hgT : tgd T) (hO : mOn q T st σ) (hg : pgd st pd) (hw8 : pw st) (hu : pup st) (hp : p < st.1) (hp0 : 0 < p) (hV : mVl st w σ) (hL : lyd T st w 0 σ) (hvl : vld T st w) (hz : z = (p : Int)) : zEv true (zent 201 [.inr (.inr 122), .inl z] :: K) σ = zRet true K (some (.inl (zb (soP T st w p)))) σ := by
  subst hz
  have hc := hw8.1
  have hcp : 0 ≤ (p : Int) ∧ (p : Int) < 8 := by omega
  obtain ⟨u, hu3⟩ : ∃ u : Nat, st.2.2.2.1 3 p = (u : Int) := ⟨(st.2.2.2.1 3 p).toNat, by have := hu p hp0 hp; omega⟩
  have hup : u < p := by have := (hw8.2.2.2 p hp).2.1; omega
  have huc : u < st.1 := by omega
  have hcu : 0 ≤ (u : Int) ∧ (u : Int) < 8 := by omega
  have hw9u := (hw8.2.2.2 u huc).2.2.1
  have hw9p := (hw8.2.2.2 p hp).2.2.1
  have hfr : fr3 st p = u := by show (st.2.2.2.1 3 p).toNat = u; rw [hu3, Int.toNat_natCast]
  have hhead := head_iff hg hp hp0 hw8
  obtain ⟨b1, b2, b3⟩ := (hg.2.1 p hp).2.2.2.2.2.2.2.2.2 hp0
  rw [hu3, Int.toNat_natCast] at b1 b2 b3
  have hb4 := (hg.2.1 p hp).2.2.1
  have e138 : gI σ 138 p = st.2.2.2.1 9 p + 1 := mG_k hO.2.2.2.2 (q := 6) (i := p) (by omega) (by omega) hp
  have e138u : gI σ 138 u = st.2.2.2.1 9 u + 1 := mG_k hO.2.2.2.2 (q := 6) (i := u) (by omega) (by omega) huc
  have e139u : gI σ 139 u = st.2.2.2.1 11 u := mG_k hO.2.2.2.2 (q := 7) (i := u) (by omega) (by omega) huc
  have e140 : gI σ 140 p = (u : Int) := (mG_k hO.2.2.2.2 (q := 8) (i := p) (by omega) (by omega) hp).trans hu3
  have e141 : gI σ 141 p = sgR (st.2.2.2.1 4 p) := mG_k hO.2.2.2.2 (q := 9) (i := p) (by omega) (by omega) hp
  obtain ⟨m, kk, hm17, hk16, hm19, hk9, hm1, -⟩ := (hg.2.1 p hp).2.2.2.1
  have e142 : gI σ 142 p = (m : Int) := (mG_k hO.2.2.2.2 (q := 10) (i := p) (by omega) (by omega) hp).trans hm17
  have e143 : gI σ 143 p = (kk : Int) := (mG_k hO.2.2.2.2 (q := 11) (i := p) (by omega) (by omega) hp).trans hk16
  have hrlp : ∀ a b, rlp T st.2.2.2.1 p a b ↔ relP T m kk a b := fun a b => by
    show relP T (st.2.2.2.1 17 p).toNat (st.2.2.2.1 16 p).toNat a b ↔ _
    rw [hm17, hk16, Int.toNat_natCast, Int.toNat_natCast]
  have es : w32 ((p : Int) + 1) = (p : Int) + 1 := zw_id (by omega) (by omega)
  have hs33 := sgR_33 hb4
  have hs63 : sgR (st.2.2.2.1 4 p) = 63 ↔ st.2.2.2.1 4 p = 2 := by
    have : st.2.2.2.1 4 p = 0 ∨ st.2.2.2.1 4 p = 1 ∨ st.2.2.2.1 4 p = 2 := by clear e138 e138u e139u e140 e141 e142 e143 es hs33 b1 b2; omega
    rcases this with h | h | h <;> rw [h] <;> decide
  clear hm17 hk16
  -- behind the first look: hd tells whether p is a head
  have part : ∀ hd : Nat, (hd = 1 ∧ st.2.2.2.1 4 p = 2) ∨ (hd = 0 ∧ st.2.2.2.1 4 p ≠ 2) → st.2.2.2.1 11 u = 0 → (st.2.2.2.1 9 u ≠ -1 → gvn st w (st.2.2.2.1 9 u)) → ∀ o4 : Option zV, zEv true ((201, 69, [some (.inr (.inr 122)), some (.inl (p : Int)), some (.inl (u : Int)), some (.inl (hd : Int)), o4], []) :: K) σ = zRet true K (some (.inl (zb (soP T st w p)))) σ := by
    intro hd hhd h11 h9 o4
    obtain ⟨a, a1, a2⟩ := hvl u huc h11 (by rcases Classical.em (st.2.2.2.1 9 u = -1) with h | h; exact Or.inl h; exact Or.inr (h9 h))
    have hnd : ndu st w p = a := by unfold ndu; rw [hfr, a2, Int.toNat_natCast]
    have hpn : st.2.2.2.1 4 p = 1 ∨ st.2.2.2.1 4 p = 2 → ¬ pln st.2.2.2.1 p := fun q w => by
      rcases q with q | q
      · rw [if_pos (Or.inl q)] at b1
        have := w.1
        rw [b1] at this
        exact absurd this (by decide)
      · have h1 := hhead.mpr q
        rw [w.2] at h1
        exact absurd h1 (by clear e138 e138u e139u e140 e141 e142 e143 es a2 b2 b1; omega)
    have some1 : st.2.2.2.1 4 p = 1 ∨ st.2.2.2.1 4 p = 2 → ∀ fr : zF, zEv true (zent 197 [.inr (.inr 122), .inl (p : Int), .inl (a : Int)] :: fr :: K) σ = zRet true (fr :: K) (some (.inl (zb (smo T st w p a)))) σ := fun q fr => m_isSome (yKK (by clear e138 e138u e139u e140 e141 e142 e143 es a2 b2 b1; omega)) hgT hO hg hc hp hp0 a1 (hL p hp0 hp (hpn q)) rfl rfl
    rw [zj_201_69 (by clear e138 e138u e139u e140 e141 e142 e143 es a2 b2 b1; omega), m_valueOf hO hg hc hV huc h11 rfl, a2, zr_201_74 (by clear e138 e138u e139u e140 e141 e142 e143 es a2 b2 b1; omega), yAnd hcp, Int.toNat_natCast, e141]
    unfold soP
    rw [hfr, hnd]
    clear a2
    by_cases c1 : st.2.2.2.1 4 p = 1
    · rw [if_neg (fun w => w (hs33.mpr c1)), some1 (Or.inl c1), zr_201_94]
      rcases Classical.em (smo T st w p a) with h | h
      · rw [zb_t h, if_pos (show ¬ (1 : Int) = 0 by decide), zb_f (fun w => (w h11 h9).1 c1 h)]
      · rw [zb_f h, if_neg (show ¬ ¬ (0 : Int) = 0 from fun w => w rfl), zb_t (fun _ _ => ⟨fun _ => h, fun q => by rw [c1] at q; exact absurd q (by decide), fun q => absurd c1 q⟩)]
    · rw [if_pos (fun w => c1 (hs33.mp w))]
      have h11p : st.2.2.2.1 11 p = 0 := by rw [b1, if_neg (fun w => by rcases w with w | w; exact c1 w; exact w h11)]
      -- the relation itself
      have rel : ((st.2.2.2.1 4 p = 2 → hnm st p ∧ gvn st w p)) → ∀ o2 o3 : Option zV, zEv true ((201, 157, [some (.inr (.inr 122)), some (.inl (p : Int)), o2, o3, some (.inl (a : Int))], []) :: K) σ = zRet true K (some (.inl (zb (rlp T st.2.2.2.1 p a (vlp w st.2.2.2.1 p).toNat)))) σ := fun hh o2 o3 => by
        obtain ⟨b, q1, q2⟩ := hvl p hp h11p (by
          by_cases c2 : st.2.2.2.1 4 p = 2
          · rw [hhead.mpr c2]; exact Or.inr (hh c2).2
          · rw [b2]
            by_cases c9 : st.2.2.2.1 9 u ≠ -1
            · rw [if_pos c9]; exact Or.inr (h9 c9)
            · rw [if_neg c9, if_neg c2]; exact Or.inl rfl)
        rw [zj_201_157 (by clear e138 e138u e139u e140 e141 e142 e143 es q2 b2 b1; omega), m_valueOf hO hg hc hV hp h11p rfl, q2, zr_201_166 (by clear e138 e138u e139u e140 e141 e142 e143 es q2 b2 b1; omega), m_holds (yKK (by clear e138 e138u e139u e140 e141 e142 e143 es q2 b2 b1; omega)) hO.1 hgT hO.2.1 hO.2.2.1 hO.2.2.2.1 (by clear e138 e138u e139u e140 e141 e142 e143 es q2 b2 b1; omega) e142 e143 ⟨hm1 hp0, hm19⟩ a1 q1 rfl rfl rfl, zr_201_169, yAnd (zb01 _), Int.toNat_natCast, zb_c (hrlp a b)]
      rcases hhd with ⟨d1, d2⟩ | ⟨d1, d2⟩
      · rw [d1, if_neg (show ¬ ((1 : Nat) : Int) = 0 by decide), yAnd hcp, e138, hhead.mpr d2, m_hasNumbers hO hc rfl, zr_201_117]
        rcases Classical.em (hnm st p) with hn | hn
        · rw [zb_t hn, if_pos (show ¬ (1 : Int) = 0 by decide), zj_201_122 (by clear e138 e138u e139u e140 e141 e142 e143 es b2 b1; omega), if_neg (show ¬ ((1 : Nat) : Int) = 0 by decide), yAnd hcp, Int.toNat_natCast, e138, hhead.mpr d2, m_isGiven hO hc hV rfl, zr_201_136 (by clear e138 e138u e139u e140 e141 e142 e143 es b2 b1; omega)]
          rcases Classical.em (gvn st w p) with hv | hv
          · rw [zb_t hv, if_pos (show ¬ (1 : Int) = 0 by decide), rel (fun _ => ⟨hn, hv⟩)]
            exact congrArg (fun x => zRet true K (some (.inl x)) σ) (zb_c ⟨fun r _ _ => ⟨fun q => absurd q c1, fun _ _ q => absurd hv q, fun _ _ => r⟩, fun r => (r h11 h9).2.2 c1 (fun _ => ⟨hn, hv⟩)⟩)
          · rw [zb_f hv, if_neg (show ¬ ¬ (0 : Int) = 0 from fun w => w rfl), some1 (Or.inr d2), zr_201_146]
            rcases Classical.em (smo T st w p a) with h | h
            · rw [zb_t h, if_pos (show ¬ (1 : Int) = 0 by decide), zb_f (fun w => (w h11 h9).2.1 d2 hn hv h)]
            · rw [zb_f h, if_neg (show ¬ ¬ (0 : Int) = 0 from fun w => w rfl), zb_t (fun _ _ => ⟨fun q => absurd q c1, fun _ _ _ => h, fun _ q => absurd (q d2).2 hv⟩)]
        · rw [zb_f hn, if_neg (show ¬ ¬ (0 : Int) = 0 from fun w => w rfl), zb_t (fun _ _ => ⟨fun q => absurd q c1, fun _ q => absurd q hn, fun _ q => absurd (q d2).1 hn⟩)]
      · rw [d1, if_pos (show ((0 : Nat) : Int) = 0 from rfl), zj_201_122 (by clear e138 e138u e139u e140 e141 e142 e143 es b2 b1; omega), if_pos (show ((0 : Nat) : Int) = 0 from rfl), rel (fun q => absurd q d2)]
        exact congrArg (fun x => zRet true K (some (.inl x)) σ) (zb_c ⟨fun r _ _ => ⟨fun q => absurd q c1, fun q => absurd q d2, fun _ _ => r⟩, fun r => (r h11 h9).2.2 c1 (fun q => absurd q d2)⟩)
  have tru : ¬ (st.2.2.2.1 11 u = 0 ∧ (st.2.2.2.1 9 u ≠ -1 → gvn st w (st.2.2.2.1 9 u))) → zb (soP T st w p) = 1 := fun h => zb_t (fun q1 q2 => absurd ⟨by rw [hfr] at q1; exact q1, by rw [hfr] at q2; exact q2⟩ h)
  have clr : K.length < 60 := by clear e138 e138u e139u e140 e141 e142 e143 es b2 b1; omega
  have h34 : st.2.2.2.1 4 p ≠ 2 → ∀ o3 o4 : Option zV, zEv true ((201, 34, [some (.inr (.inr 122)), some (.inl (p : Int)), some (.inl (u : Int)), o3, o4], []) :: K) σ = zRet true K (some (.inl (zb (soP T st w p)))) σ := fun c2 o3 o4 => by
    rw [zj_201_34 clr, yAnd hcu, Int.toNat_natCast, e139u]
    by_cases h11 : st.2.2.2.1 11 u = 0
    · rw [if_neg (fun w => w h11), yAnd hcu, e138u]
      by_cases h9 : st.2.2.2.1 9 u = -1
      · rw [if_pos (by rw [h9]; decide)]
        exact part 0 (Or.inr ⟨rfl, c2⟩) h11 (fun w => absurd h9 w) _
      · rw [if_neg (by clear e138 e138u e139u e140 e141 e142 e143 es b2 b1; omega), yAnd hcu, m_isGiven hO hc hV rfl, zr_201_64]
        rcases Classical.em (gvn st w (st.2.2.2.1 9 u)) with hv | hv
        · rw [zb_t hv, if_pos (show ¬ (1 : Int) = 0 by decide)]
          exact part 0 (Or.inr ⟨rfl, c2⟩) h11 (fun _ => hv) _
        · rw [zb_f hv, if_neg (show ¬ ¬ (0 : Int) = 0 from fun w => w rfl), tru (fun w => hv (w.2 h9))]
    · rw [if_pos h11, tru (fun w => h11 w.1)]
  rw [ze_201 clr, yAnd hcp, yAnd hcp, Int.toNat_natCast, e138, e140, es]
  by_cases c2 : st.2.2.2.1 4 p = 2
  · have hb := (b3 c2)
    rw [if_neg (fun w => w (by rw [hhead.mpr c2])), yAnd hcp, e141, if_neg (fun w => w (hs63.mpr c2)), yAnd hcu, Int.toNat_natCast, e139u, if_neg (fun w => w hb.2), yAnd hcu, e138u, if_pos (by rw [hb.1]; decide)]
    exact part 1 (Or.inl ⟨rfl, c2⟩) hb.2 (fun w => absurd hb.1 w) _
  · by_cases c9 : st.2.2.2.1 9 p + 1 = (p : Int) + 1
    · exact absurd (hhead.mp (by clear e138 e138u e139u e140 e141 e142 e143 es b2 b1; omega)) c2
    · rw [if_pos c9]
      exact h34 c2 _ _
theorem m_isMatch {K : List zF} (hK : K.length + 8 ≤ 60) {q : Nat} {T : TRE} {st : PST} {pd : Nat → Nat} {w : Nat → Int} {σ : zW} (hgT : tgd T) (hO : mOn q T st σ) (hg : pgd st pd) (hw8 : pw st) (hu : pup st) (h1c : 1 ≤ st.1) (hl : st.2.1 ≤ 300) (hV : mVl st w σ) (hvl : vld T st w)
    (k : ∀ σ' : zW, yFr (fun k _ => k = 175) σ σ' → zRet true K (some (.inl (zb (∀ p, 0 < p → p < st.1 → soP T st w p)))) σ') : zEv true (zent 202 [.inr (.inr 122)] :: K) σ := by
  have hc := hw8.1
  have hvo : vOn T st w σ := fun p hp => ⟨fun q => by
    obtain ⟨o, o1, o2, -, -, o5⟩ := again_num hg hp q
    rw [o1, Int.toNat_natCast]; exact hV o (by omega) o5, fun q => by
    obtain ⟨o, o1, o2, o3, o4, o5⟩ := again_num hg hp (Or.inl q)
    obtain ⟨a, a1, a2⟩ := hvl o (by omega) o3.1 (Or.inl o3.2)
    refine ⟨a, a1, ?_⟩
    rw [o1, Int.toNat_natCast]
    unfold vlp mt at a2
    rw [if_neg o4] at a2
    exact a2⟩
  rw [ze_202 (by omega)]
  refine m_laysParts (yKK (K := K) (by omega)) hgT hO hg hw8 h1c hl hvo (fun σ1 hF hL => ?_)
  have hO1 := mOn_fr hO hF (fun k j w => by omega)
  have hV1 : mVl st w σ1 := fun p hp h8 => (hF.i (by omega)).trans (hV p hp h8)
  rw [zr_202_4]
  have k := k σ1 hF
  have loop : ∀ (d i : Nat) (y : Int), st.1 - i = d → 0 < i → i ≤ st.1 → ((y = 0 ∧ ¬ ∀ p, 0 < p → p < st.1 → soP T st w p) ∨ (y = 1 ∧ ∀ p, 0 < p → p < i → soP T st w p)) → zEv true ((202, 8, [some (.inr (.inr 122)), some (.inl y), some (.inl (i : Int))], []) :: K) σ1 := by
    intro d
    induction d with
    | zero =>
      intro i y hd hi0 hi hv
      have h1 : ((st.1 : Nat) : Int) ≤ (i : Int) := by clear hv; omega
      have h2 : ∀ b, b < st.1 → b < i := fun b hb => by clear hv; omega
      rw [zj_202_8 (by clear hv; omega), hO1.2.2.2.2.1, if_pos h1]
      rcases hv with ⟨y0, hh⟩ | ⟨y1, hh⟩
      · rw [y0, yAnd (Or.inl rfl)]; rw [zb_f hh] at k; exact k
      · rw [y1, yAnd (Or.inr rfl)]; rw [zb_t (fun p p0 p1 => hh p p0 (h2 p p1))] at k; exact k
    | succ d ih =>
      intro i y hd hi0 hi hv
      have hi' : i < st.1 := by clear hv; omega
      have h1 : ¬ ((st.1 : Nat) : Int) ≤ (i : Int) := by clear hv; omega
      have hd1 : st.1 - (i + 1) = d := by clear hv; omega
      have ei : w32 ((i : Int) + 1) = ((i + 1 : Nat) : Int) := by clear hv; rw [zw_id (by omega) (by omega)]; omega
      rw [zj_202_8 (by clear hv ei; omega), hO1.2.2.2.2.1, if_neg h1]
      rcases hv with ⟨y0, hh⟩ | ⟨y1, hh⟩
      · rw [y0, if_pos (show (0 : Int) = 0 from rfl), yAnd (Or.inl rfl)]; rw [zb_f hh] at k; exact k
      · rw [y1, if_neg (show ¬ (1 : Int) = 0 by decide), m_isSo (yKK (by clear ei; omega)) hgT hO1 hg hw8 hu hi' hi0 hV1 hL hvl rfl, zr_202_25, ei]
        rcases Classical.em (soP T st w i) with hs | hs
        · rw [zb_t hs]
          refine ih (i + 1) 1 hd1 (Nat.succ_pos i) hi' (Or.inr ⟨rfl, fun p p0 p1 => ?_⟩)
          by_cases e : p = i
          · rw [e]; exact hs
          · exact hh p p0 (by clear ei; omega)
        · rw [zb_f hs]
          exact ih (i + 1) 0 hd1 (Nat.succ_pos i) hi' (Or.inl ⟨rfl, fun hall => hs (hall i hi0 hi')⟩)
  exact loop _ 1 1 rfl (by omega) h1c (Or.inr ⟨rfl, fun p p0 p1 => by omega⟩)
