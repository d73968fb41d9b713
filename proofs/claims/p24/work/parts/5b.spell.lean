/-! how often the tape is a label -/
/-- the tape spells a label -/
def spl (f : Nat → Int) (L : Nat) (v : Int64) : Prop := (1 ≤ L ∧ L ≤ 6) ∧ (∀ k, k < L → 0 < f k) ∧ v = pkf f L
noncomputable def splD (f : Nat → Int) (L : Nat) (v : Int64) : Decidable (spl f L v) := Classical.propDecidable _
noncomputable def cns (f : Nat → Int) (L : Nat) (lab : Nat → Int64) : Nat → Nat
  | 0 => 0
  | c + 1 => cns f L lab c + @ite _ (spl f L (lab c)) (splD f L (lab c)) 1 0
theorem cns_y {f : Nat → Int} {L c : Nat} {lab : Nat → Int64} (h : spl f L (lab c)) : cns f L lab (c + 1) = cns f L lab c + 1 := by
  show cns f L lab c + _ = _
  rw [if_pos h]
theorem cns_n {f : Nat → Int} {L c : Nat} {lab : Nat → Int64} (h : ¬ spl f L (lab c)) : cns f L lab (c + 1) = cns f L lab c := by
  show cns f L lab c + _ = _
  rw [if_neg h]; rfl
theorem cns_le {f : Nat → Int} {L : Nat} {lab : Nat → Int64} : ∀ c, cns f L lab c ≤ c := by
  intro c
  induction c with
  | zero => exact Nat.le_refl _
  | succ c ih =>
    rcases Classical.em (spl f L (lab c)) with h | h
    · rw [cns_y h]; omega
    · rw [cns_n h]; omega
def wlb (f : Nat → Int) (L : Nat) : Int64 := if wl f L 0 = L ∧ L ≤ 6 then pk f 0 L else 0
theorem wend_word {f : Nat → Int} {L : Nat} : ∀ (n a : Nat), L - a = n → a ≤ L → (∀ i, a ≤ i → i < L → zlet (f i) ∨ zdig (f i)) → wend f L a = L := by
  intro n
  induction n with
  | zero => intro a h1 h2 h3; rw [wend_no (by omega)]; omega
  | succ n ih =>
    intro a h1 h2 h3
    rw [wend_go (by omega) (h3 a (Nat.le_refl _) (by omega))]
    exact ih (a + 1) (by omega) (by omega) (fun i h4 h5 => h3 i (by omega) h5)
theorem pk_pkf {f : Nat → Int} {L : Nat} (h : L ≤ 6) : pk f 0 L = pkf f L := by
  unfold pk
  rw [show min L 6 = L by omega]
  exact pkf_congr L (fun i hi => by show f (0 + i) = f i; rw [Nat.zero_add])
theorem spl_wlb {f : Nat → Int} {L : Nat} {v : Int64} (hf : ∀ i, i < L → 0 ≤ f i ∧ f i < 256) (hv : lgs v) : spl f L v ↔ (wlb f L = v ∧ wlb f L ≠ 0) := by
  have hv0 : v ≠ 0 := fun w => zlc0 (lgs_good hv) (zlc_eq.mpr w)
  obtain ⟨g, n, h1, h2, h3, h4, h5⟩ := hv
  constructor
  · rintro ⟨q1, q2, q3⟩
    have := (pkf_inj (g := f) (g' := g) (n := L) (n' := n) (by omega) (by omega) (fun i hi => by have := q2 i hi; have := hf i hi; omega) (fun i hi => by have := h4 i hi; omega)).mp (by rw [← q3, h5])
    obtain ⟨e1, e2⟩ := this
    have hz : zlet (tb f L 0) := by rw [tb_lt (by omega), e2 0 (by omega)]; exact h3
    have hwl : wl f L 0 = L := by
      have : wl f L 0 = wend f L (0 + 1) - 0 := if_pos hz
      rw [this, wend_word _ 1 rfl (by omega) (fun i _ hi => by rw [e2 i hi]; exact h4 i (by omega))]
      omega
    have : wlb f L = v := by
      unfold wlb
      rw [if_pos ⟨hwl, by omega⟩, pk_pkf (by omega), q3]
    exact ⟨this, by rw [this]; exact hv0⟩
  · rintro ⟨q1, q2⟩
    unfold wlb at q1 q2
    by_cases c : wl f L 0 = L ∧ L ≤ 6
    · rw [if_pos c] at q1
      have hL : 1 ≤ L := by
        rcases Nat.eq_zero_or_pos L with e | e
        · rw [if_pos c] at q2
          subst e
          exact absurd rfl q2
        · exact e
      refine ⟨⟨hL, c.2⟩, fun k hk => ?_, by rw [← q1, pk_pkf c.2]⟩
      have := wl_chars (f := f) (L := L) (p := 0) (j := k) (by omega)
      rw [Nat.zero_add] at this
      omega
    · rw [if_neg c] at q2; exact absurd rfl q2
theorem cns_cnl {f : Nat → Int} {L : Nat} {lab : Nat → Int64} (hf : ∀ i, i < L → 0 ≤ f i ∧ f i < 256) : ∀ c, (∀ i, i < c → lgs (lab i)) → cns f L lab c = if wlb f L = 0 then 0 else cnl lab (wlb f L) c := by
  intro c
  induction c with
  | zero => intro _; split <;> rfl
  | succ c ih =>
    intro h
    have h1 := ih (fun i hi => h i (by omega))
    have h2 := spl_wlb hf (h c (by omega))
    by_cases e : wlb f L = 0
    · rw [if_pos e] at h1 ⊢
      rw [cns_n (fun w => (h2.mp w).2 e), h1]
    · rw [if_neg e] at h1 ⊢
      by_cases e2 : wlb f L = lab c
      · rw [cns_y (h2.mpr ⟨e2, e⟩), h1, cnl_eq e2.symm]
      · rw [cns_n (fun w => e2 (h2.mp w).1), h1, cnl_ne (fun w => e2 w.symm)]
theorem c_wholeLabel {K : List zF} (hK : K.length + 2 ≤ 60) {f : Nat → Int} {L : Nat} {σ : zW} (hT : cT f L σ) (k : ∀ σ' : zW, yFr (fun k j => k = 2 ∧ j = 2) σ σ' → zRet true K (some (.inr (.inl (wlb f L)))) σ') : zEv true (zent 90 [.inr (.inr 2)] :: K) σ := by
  have hT2 : cT f L (sI σ 2 2 0) := cT_u hT (by omega)
  have hF : yFr (fun k j => k = 2 ∧ j = 2) σ (sI σ 2 2 0) := yFr.rf.I ⟨rfl, rfl⟩
  have h6 := hT.2.2.1
  rw [ze_90 (by omega), c_wl (a := 0) (yL (by omega)) hT2 yGI_hit, zr_90_9 (by omega), hT2.2.1]
  have k := k _ hF
  unfold wlb at k
  by_cases h1 : wl f L 0 = L
  · rw [if_neg (fun w => w (by omega))]
    by_cases h2 : L ≤ 6
    · rw [if_pos ⟨h1, h2⟩] at k
      rw [if_neg (by omega), c_packed (a := 0) (m := L) (x := 0) (y := ((wl f L 0 : Nat) : Int)) (yL (by omega)) hT2 rfl (by rw [h1]) (by omega), zr_90_30]
      exact k
    · rw [if_neg (fun w => h2 w.2)] at k
      rw [if_pos (by omega), zj_90_33]; exact k
  · rw [if_neg (fun w => h1 w.1)] at k
    rw [if_pos (by omega), zj_90_33]; exact k
theorem c_byIndex {K : List zF} (hK : K.length + 1 ≤ 60) {t : Nat} {T : TRE} {v : Int64} {σ : zW} (ht : zTr t) (hg : tgd T) (hT : cTr t T σ) (k : zRet true K (some (.inl ((cnl T.2.1 v T.1 : Nat) : Int))) σ) : zEv true (zent 99 [.inr (.inr t), .inr (.inl v)] :: K) σ := by
  obtain ⟨ic, i1, i2, i3, i4, i5⟩ := hT.2.2.2
  have hn := hg.1.1
  rw [ze_99 (by omega) ht]
  refine c_seek ht (by omega) i2 i3 (fun s s1 s2 s3 => ?_)
  have no : (∀ a, a < ic → gL σ (t + 9) a ≠ v) → zEv true ((99, 34, [some (.inr (.inr t)), some (.inr (.inl v)), none, some (.inl (s : Int))], []) :: K) σ := fun h => by
    rw [zj_99_34]
    rw [cnl_zero _ (fun i hi w => by obtain ⟨a, a1, a2⟩ := i5 i hi; exact h a a1 (by rw [a2, w]))] at k
    exact k
  rw [zr_99_5 ht, i2]
  by_cases e : ic ≤ s
  · rw [if_pos (by omega)]
    exact no (fun a ha w => by have := s2 a (by omega); rw [w] at this; omega)
  · have hcc : 0 ≤ (s : Int) ∧ (s : Int) < 20 := by omega
    rw [if_neg (by omega), yAnd hcc, Int.toNat_natCast]
    by_cases hz : gL σ (t + 9) s = v
    · rw [if_neg (fun w => w (zlc_eq.mpr hz)), yAnd hcc, i4 s (by omega), hz]
      exact k
    · rw [if_pos (fun w => hz (zlc_eq.mp w))]
      refine no (fun a ha w => ?_)
      rcases Nat.lt_trichotomy a s with q | q | q
      · have := s2 a q; rw [w] at this; omega
      · rw [q] at w; exact hz w
      · have h1 := i3 s a q ha
        have h2 := s3 s (Nat.le_refl _) (by omega)
        rw [w] at h1; omega
theorem c_isSpelled {K : List zF} {f : Nat → Int} {L : Nat} {v : Int64} {σ : zW} (hT : ∀ i, gI σ 3 i = f i) (h6 : L ≤ 600) (hf : ∀ i, i < L → 0 ≤ f i ∧ f i < 256) (hv : lgs v) : zEv true (zent 101 [.inr (.inl v), .inr (.inr 3), .inl (L : Int)] :: K) σ = zRet true K (some (.inl (@ite _ (spl f L v) (splD f L v) 1 0))) σ := by
  obtain ⟨g, n, h1, h2, h3, h4, h5⟩ := hv
  have hb : ∀ i, i < n → 0 ≤ g i ∧ g i < 256 := fun i hi => by have := h4 i hi; omega
  have hby : ∀ i, byt v i = if i < n then g i else 0 := fun i => by
    unfold byt
    rw [h5, nv_pkf n (by omega) hb, ← pow256, pkn_digit n i hb]
    by_cases e : i < n
    · rw [if_pos e, if_pos e]; have := hb i e; omega
    · rw [if_neg e, if_neg e]; rfl
  have hsp : spl f L v ↔ (L = n ∧ ∀ i, i < n → f i = g i) := by
    constructor
    · rintro ⟨q1, q2, q3⟩
      have := (pkf_inj (g := f) (g' := g) (n := L) (n' := n) (by omega) (by omega) (fun i hi => by have := q2 i hi; have := hf i hi; omega) (fun i hi => by have := h4 i hi; omega)).mp (by rw [← q3, h5])
      exact ⟨this.1, fun i hi => this.2 i (by omega)⟩
    · rintro ⟨q1, q2⟩
      subst q1
      exact ⟨⟨h1, h2⟩, fun i hi => by rw [q2 i hi]; have := h4 i hi; omega, by rw [h5]; exact (pkf_congr _ q2).symm⟩
  rw [ze_101]
  by_cases c1 : L < 1
  · rw [if_pos (by omega), if_neg (fun w => by have := (hsp.mp w).1; omega)]
  · rw [if_neg (by omega)]
    by_cases c2 : L ≤ 6
    · rw [if_pos (by omega)]
      have loop : ∀ (m i : Nat) (o5 : Option zV), L - i = m → i ≤ L → i ≤ n → (∀ j, j < i → f j = g j) → zEv true ((101, 16, [some (.inr (.inl v)), none, some (.inr (.inr 3)), some (.inl (L : Int)), some (.inl (i : Int)), o5], []) :: K) σ = zRet true K (some (.inl (@ite _ (spl f L v) (splD f L v) 1 0))) σ := by
        intro m
        induction m with
        | zero =>
          intro i o5 hm hi hin he
          have ei : i = L := by omega
          subst ei
          have hz : zlushr v (w32 (8 * (i : Int))) = 0 ↔ i = n := by
            rw [zw_id (by omega) (by omega), show (8 * (i : Int)) = ((8 * i : Nat) : Int) by omega]
            have e1 : nv (zlushr v ((8 * i : Nat) : Int)) = nv v / 256 ^ i := by rw [nv_ushr (by omega), pow256]
            constructor
            · intro w
              rw [w] at e1
              rcases Nat.lt_or_ge i n with q | q
              · have e2 := hby i
                rw [if_pos q] at e2
                unfold byt at e2
                rw [← pow256, ← e1] at e2
                have : nv (0 : Int64) = 0 := rfl
                rw [this] at e2
                have := h4 i q
                omega
              · omega
            · intro w
              refine nv_inj ?_
              rw [e1, h5, nv_pkf n (by omega) hb, Nat.div_eq_of_lt (by rw [w]; exact pkn_lt n hb)]; rfl
          rw [zj_101_16, if_pos (by omega)]
          by_cases e : i = n
          · rw [if_neg (fun w => w (zlc_eq.mpr (hz.mpr e))), if_pos (hsp.mpr ⟨e, fun j hj => he j (by omega)⟩)]
          · rw [if_pos (fun w => e (hz.mp (zlc_eq.mp w))), if_neg (fun w => e (hsp.mp w).1)]
        | succ m ih =>
          intro i o5 hm hi hin he
          have hcc : 0 ≤ (i : Int) ∧ (i : Int) < 600 := by omega
          rw [zj_101_16, if_neg (by omega), c_byte (k := i) (by omega) (by rw [zw_id (by omega) (by omega)]; omega), hby i]
          by_cases q : i < n
          · have := h4 i q
            rw [if_pos q, if_neg (by omega), yAnd hcc, Int.toNat_natCast, hT i]
            by_cases e : g i = f i
            · rw [if_pos e, zw_id (by omega) (by omega), show (i : Int) + 1 = ((i + 1 : Nat) : Int) by omega]
              exact ih (i + 1) _ (by omega) (by omega) (by omega) (fun j hj => by
                by_cases ej : j = i
                · rw [ej]; exact e.symm
                · exact he j (by omega))
            · rw [if_neg e, if_neg (fun w => e ((hsp.mp w).2 i q).symm)]
          · rw [if_neg q, if_pos rfl, if_neg (fun w => by have := (hsp.mp w).1; omega)]
      exact loop L 0 none rfl (Nat.zero_le _) (Nat.zero_le _) (fun j hj => by omega)
    · rw [if_neg (by omega), if_neg (fun w => by have := (hsp.mp w).1; omega)]
theorem c_byWalk {K : List zF} (hK : K.length + 1 ≤ 60) {f : Nat → Int} {L t : Nat} {T : TRE} {σ : zW} (ht : zTr t) (hg : tgd T) (hR : cTr t T σ) (hb3 : (∀ i, gI σ 3 i = f i) ∧ L ≤ 600 ∧ ∀ i, i < L → 0 ≤ f i ∧ f i < 256) : zEv true (zent 100 [.inr (.inr t), .inr (.inr 3), .inl (L : Int)] :: K) σ = zRet true K (some (.inl ((cns f L T.2.1 T.1 : Nat) : Int))) σ := by
  have hn := hg.1.1
  have loop : ∀ (m i : Nat), T.1 - i = m → i ≤ T.1 → zEv true ((100, 5, [some (.inr (.inr t)), some (.inr (.inr 3)), some (.inl (L : Int)), some (.inl ((cns f L T.2.1 i : Nat) : Int)), some (.inl (i : Int))], []) :: K) σ = zRet true K (some (.inl ((cns f L T.2.1 T.1 : Nat) : Int))) σ := by
    intro m
    induction m with
    | zero =>
      intro i hm hi
      rw [zj_100_5 (by omega) ht, hR.1.1, if_pos (by omega), show T.1 = i by omega]
    | succ m ih =>
      intro i hm hi
      have hi' : i < T.1 := by omega
      have hcc : 0 ≤ (i : Int) ∧ (i : Int) < 20 := by omega
      have hle := cns_le (f := f) (L := L) (lab := T.2.1) i
      rw [zj_100_5 (by omega) ht, hR.1.1, if_neg (by omega), yAnd hcc, Int.toNat_natCast, (hR.1.2 i hi').1, c_isSpelled hb3.1 hb3.2.1 hb3.2.2 (hg.2 i hi'), zr_100_27, zw_id (z := (i : Int) + 1) (by omega) (by omega), show (i : Int) + 1 = ((i + 1 : Nat) : Int) by omega]
      have e : w32 (((cns f L T.2.1 i : Nat) : Int) + (if (@ite _ (spl f L (T.2.1 i)) (splD f L (T.2.1 i)) (1 : Int) 0) = 0 then 0 else 1 : Int)) = ((cns f L T.2.1 (i + 1) : Nat) : Int) := by
        rcases Classical.em (spl f L (T.2.1 i)) with q | q
        · rw [if_pos q, cns_y q, if_neg (by omega), zw_id (by omega) (by omega)]; omega
        · rw [if_neg q, cns_n q, if_pos rfl, zw_id (by omega) (by omega)]; omega
      rw [e]
      exact ih (i + 1) (by omega) (by omega)
  rw [ze_100]
  exact loop T.1 0 rfl (Nat.zero_le _)
