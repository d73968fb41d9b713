/-! the index of a tree in the class -/
abbrev Xix (t : Nat) : Nat → Nat → Prop := fun k j => k = t + 9 ∨ k = t + 10 ∨ (k = t ∧ j = 11)
/-- the index holds the first m labels -/
def cIx (t m : Nat) (lab : Nat → Int64) (σ : zW) : Prop := ∃ ic : Nat, ic ≤ m ∧ gI σ t 11 = (ic : Int) ∧ (∀ a b, a < b → b < ic → (gL σ (t + 9) a).toInt < (gL σ (t + 9) b).toInt) ∧ (∀ a, a < ic → gI σ (t + 10) a = (cnl lab (gL σ (t + 9) a) m : Nat)) ∧ ∀ i, i < m → ∃ a, a < ic ∧ gL σ (t + 9) a = lab i
theorem cIx_fr {t m : Nat} {lab : Nat → Int64} {σ σ' : zW} {X : Nat → Nat → Prop} (h : cIx t m lab σ) (hF : yFr X σ σ') (hX : ∀ k j, Xix t k j → ¬ X k j) : cIx t m lab σ' := by
  obtain ⟨ic, h1, h2, h3, h4, h5⟩ := h
  have e9 : ∀ a, gL σ' (t + 9) a = gL σ (t + 9) a := fun a => hF.l (hX _ _ (Or.inl rfl))
  refine ⟨ic, h1, (hF.i (hX _ _ (by omega))).trans h2, fun a b h6 h7 => ?_, fun a ha => ?_, fun i hi => ?_⟩
  · rw [e9, e9]; exact h3 a b h6 h7
  · rw [hF.i (hX _ _ (by omega)), e9]; exact h4 a ha
  · obtain ⟨a, a1, a2⟩ := h5 i hi
    exact ⟨a, a1, by rw [e9]; exact a2⟩
theorem c_seek {K : List zF} {t ic : Nat} {v : Int64} {σ : zW} (ht : zTr t) (hic : ic ≤ 20) (h11 : gI σ t 11 = (ic : Int)) (hs : ∀ a b, a < b → b < ic → (gL σ (t + 9) a).toInt < (gL σ (t + 9) b).toInt)
    (k : ∀ s : Nat, s ≤ ic → (∀ a, a < s → (gL σ (t + 9) a).toInt < v.toInt) → (∀ a, s ≤ a → a < ic → v.toInt ≤ (gL σ (t + 9) a).toInt) → zRet true K (some (.inl (s : Int))) σ) :
    zEv true (zent 98 [.inr (.inr t), .inr (.inl v)] :: K) σ := by
  have loop : ∀ (n lo hi : Nat) (o5 : Option zV), hi - lo ≤ n → lo ≤ hi → hi ≤ ic → (∀ a, a < lo → (gL σ (t + 9) a).toInt < v.toInt) → (∀ a, hi ≤ a → a < ic → v.toInt ≤ (gL σ (t + 9) a).toInt) → zEv true ((98, 8, [some (.inr (.inr t)), some (.inr (.inl v)), none, some (.inl (lo : Int)), some (.inl (hi : Int)), o5], []) :: K) σ := by
    intro n
    induction n with
    | zero =>
      intro lo hi o5 hn h1 h2 h3 h4
      rw [zj_98_8 ht, if_pos (by omega)]
      exact k lo (by omega) h3 (fun a h5 h6 => h4 a (by omega) h6)
    | succ n ih =>
      intro lo hi o5 hn h1 h2 h3 h4
      by_cases e : hi ≤ lo
      · rw [zj_98_8 ht, if_pos (by omega)]
        exact k lo (by omega) h3 (fun a h5 h6 => h4 a (by omega) h6)
      · have hm : zdiv (w32 ((lo : Int) + (hi : Int))) 2 = (((lo + hi) / 2 : Nat) : Int) := by
          rw [zw_id (by omega) (by omega), show (lo : Int) + (hi : Int) = ((lo + hi : Nat) : Int) by omega]
          exact zdiv_pos (b := 2) (by omega) (by omega)
        have hcc : 0 ≤ (((lo + hi) / 2 : Nat) : Int) ∧ (((lo + hi) / 2 : Nat) : Int) < 20 := by omega
        rw [zj_98_8 ht, if_neg (by omega), hm, yAnd hcc, Int.toNat_natCast]
        by_cases hz : v.toInt ≤ (gL σ (t + 9) ((lo + hi) / 2)).toInt
        · rw [if_pos (zlc_ge.mpr hz)]
          refine ih lo ((lo + hi) / 2) _ (by omega) (by omega) (by omega) h3 (fun a h5 h6 => ?_)
          by_cases e2 : a = (lo + hi) / 2
          · rw [e2]; exact hz
          · have := hs ((lo + hi) / 2) a (by omega) h6
            omega
        · rw [if_neg (fun w => hz (zlc_ge.mp w)), zw_id (by omega) (by omega), show (((lo + hi) / 2 : Nat) : Int) + 1 = (((lo + hi) / 2 + 1 : Nat) : Int) by omega]
          refine ih ((lo + hi) / 2 + 1) hi _ (by omega) (by omega) h2 (fun a h5 => ?_) h4
          by_cases e2 : a = (lo + hi) / 2
          · rw [e2]; omega
          · have := hs a ((lo + hi) / 2) (by omega) (by omega)
            omega
  rw [ze_98 ht, h11]
  exact loop ic 0 ic none (by omega) (Nat.zero_le _) (Nat.le_refl _) (fun a h => by omega) (fun a h1 h2 => by omega)
theorem c_enterIx {K : List zF} (hK : K.length + 1 ≤ 60) {t m : Nat} {lab : Nat → Int64} {v : Int64} {σ : zW} (ht : zTr t) (hm : m < 20) (hv : lab m = v) (hI : cIx t m lab σ)
    (k : ∀ σ' : zW, yFr (Xix t) σ σ' → cIx t (m + 1) lab σ' → zRet true K none σ') : zEv true (zent 97 [.inr (.inr t), .inr (.inl v)] :: K) σ := by
  have hb := zTr_b ht
  obtain ⟨ic, h1, h2, h3, h4, h5⟩ := hI
  rw [ze_97 (by omega) ht]
  refine c_seek ht (by omega) h2 h3 (fun s s1 s2 s3 => ?_)
  have ins : (∀ a, s ≤ a → a < ic → v.toInt < (gL σ (t + 9) a).toInt) → ∀ o4 : Option zV, zEv true ((97, 36, [some (.inr (.inr t)), some (.inr (.inl v)), none, some (.inl (s : Int)), o4], []) :: K) σ := by
    intro s4 o4
    have loop : ∀ (n i : Nat) (σ2 : zW), i - s = n → s ≤ i → i ≤ ic → yFr (Xix t) σ σ2 → gI σ2 t 11 = (ic : Int) → (∀ a, a ≤ ic → gL σ2 (t + 9) a = (if i < a then gL σ (t + 9) (a - 1) else gL σ (t + 9) a) ∧ gI σ2 (t + 10) a = (if i < a then gI σ (t + 10) (a - 1) else gI σ (t + 10) a)) → zEv true ((97, 42, [some (.inr (.inr t)), some (.inr (.inl v)), none, some (.inl (s : Int)), some (.inl (i : Int))], []) :: K) σ2 := by
      intro n
      induction n with
      | zero =>
        intro i σ2 hn hi1 hi2 hF h11 hE
        have e : i = s := by omega
        subst e
        have hcc : 0 ≤ (i : Int) ∧ (i : Int) < 20 := by omega
        rw [zj_97_42 ht, if_pos (by omega), yAnd hcc, yAnd hcc, Int.toNat_natCast, h11, zw_id (by omega) (by omega), show (ic : Int) + 1 = ((ic + 1 : Nat) : Int) by omega]
        have hF2 : yFr (Xix t) σ (sI (sI (sL σ2 (t + 9) i v) (t + 10) i 1) t 11 ((ic + 1 : Nat) : Int)) := ((hF.L (by omega)).I (by omega)).I (by omega)
        have n9 : ∀ a, a ≤ ic → gL (sI (sI (sL σ2 (t + 9) i v) (t + 10) i 1) t 11 ((ic + 1 : Nat) : Int)) (t + 9) a = if a = i then v else if i < a then gL σ (t + 9) (a - 1) else gL σ (t + 9) a := fun a ha => by
          rw [gL_sI, gL_sI, gL_sL]
          by_cases e : a = i
          · rw [if_pos ⟨rfl, e⟩, if_pos e]
          · rw [if_neg (fun w => e w.2), if_neg e]; exact (hE a ha).1
        have n10 : ∀ a, a ≤ ic → gI (sI (sI (sL σ2 (t + 9) i v) (t + 10) i 1) t 11 ((ic + 1 : Nat) : Int)) (t + 10) a = if a = i then 1 else if i < a then gI σ (t + 10) (a - 1) else gI σ (t + 10) a := fun a ha => by
          rw [gI_sI, if_neg (by omega), gI_sI]
          by_cases e : a = i
          · rw [if_pos ⟨rfl, e⟩, if_pos e]
          · rw [if_neg (fun w => e w.2), if_neg e, gI_sL]; exact (hE a ha).2
        have n11 : gI (sI (sI (sL σ2 (t + 9) i v) (t + 10) i 1) t 11 ((ic + 1 : Nat) : Int)) t 11 = ((ic + 1 : Nat) : Int) := yGI_hit
        generalize sI (sI (sL σ2 (t + 9) i v) (t + 10) i 1) t 11 ((ic + 1 : Nat) : Int) = σ3 at hF2 n9 n10 n11 ⊢
        have hnv : ∀ j, j < m → lab j ≠ v := fun j hj w => by
          obtain ⟨a, a1, a2⟩ := h5 j hj
          rcases Nat.lt_or_ge a i with q | q
          · have := s2 a q; rw [a2, w] at this; omega
          · have := s4 a q a1; rw [a2, w] at this; omega
        refine k σ3 hF2 ⟨ic + 1, by omega, n11, fun a b ha hb2 => ?_, fun a ha => ?_, fun j hj => ?_⟩
        · rw [n9 a (by omega), n9 b (by omega)]
          by_cases ea : a = i
          · rw [if_pos ea, if_neg (by omega), if_pos (by omega)]; exact s4 (b - 1) (by omega) (by omega)
          · rw [if_neg ea]
            by_cases ea2 : i < a
            · rw [if_pos ea2, if_neg (by omega), if_pos (by omega)]; exact h3 (a - 1) (b - 1) (by omega) (by omega)
            · rw [if_neg ea2]
              by_cases eb : b = i
              · rw [if_pos eb]; exact s2 a (by omega)
              · rw [if_neg eb]
                by_cases eb2 : i < b
                · rw [if_pos eb2]
                  have q1 := s2 a (by omega)
                  have q2 := s4 (b - 1) (by omega) (by omega)
                  omega
                · rw [if_neg eb2]; exact h3 a b ha (by omega)
        · rw [n10 a (by omega), n9 a (by omega)]
          by_cases ea : a = i
          · rw [if_pos ea, if_pos ea, cnl_eq hv, cnl_zero m hnv]; rfl
          · rw [if_neg ea, if_neg ea]
            by_cases ea2 : i < a
            · rw [if_pos ea2, if_pos ea2, h4 (a - 1) (by omega), cnl_ne]
              intro w
              have := s4 (a - 1) (by omega) (by omega)
              rw [← w, hv] at this; omega
            · rw [if_neg ea2, if_neg ea2, h4 a (by omega), cnl_ne]
              intro w
              have := s2 a (by omega)
              rw [← w, hv] at this; omega
        · by_cases ej : j = m
          · exact ⟨i, by omega, by rw [n9 i (by omega), if_pos rfl, ej, hv]⟩
          · obtain ⟨a, a1, a2⟩ := h5 j (by omega)
            by_cases ea : a < i
            · exact ⟨a, by omega, by rw [n9 a (by omega), if_neg (by omega), if_neg (by omega)]; exact a2⟩
            · exact ⟨a + 1, by omega, by rw [n9 (a + 1) (by omega), if_neg (by omega), if_pos (by omega)]; exact a2⟩
      | succ n ih =>
        intro i σ2 hn hi1 hi2 hF h11 hE
        have hw1 : w32 ((i : Int) - 1) = ((i - 1 : Nat) : Int) := by rw [zw_id (by omega) (by omega)]; omega
        have hw2 : w32 ((i : Int) + -1) = ((i - 1 : Nat) : Int) := by rw [zw_id (by omega) (by omega)]; omega
        have hcc : 0 ≤ (i : Int) ∧ (i : Int) < 20 := by omega
        have hcd : 0 ≤ ((i - 1 : Nat) : Int) ∧ ((i - 1 : Nat) : Int) < 20 := by omega
        rw [zj_97_42 ht, if_neg (by omega), hw1, hw2, yAnd hcd, yAnd hcc, yAnd hcd, yAnd hcc, Int.toNat_natCast, Int.toNat_natCast]
        refine ih (i - 1) _ (by omega) (by omega) (by omega) ((hF.L (by omega)).I (by omega)) ?_ (fun a ha => ?_)
        · rw [gI_sI, if_neg (by omega), gI_sL]; exact h11
        · have q1 := hE (i - 1) (by omega)
          rw [if_neg (show ¬ i < i - 1 by omega), if_neg (show ¬ i < i - 1 by omega)] at q1
          have q2 := hE a ha
          refine ⟨?_, ?_⟩
          · rw [gL_sI, gL_sL]
            by_cases e : a = i
            · subst e
              rw [if_pos ⟨rfl, rfl⟩, q1.1, if_pos (show a - 1 < a by omega)]
            · rw [if_neg (fun w => e w.2), q2.1]
              by_cases e2 : i < a
              · rw [if_pos e2, if_pos (show i - 1 < a by omega)]
              · rw [if_neg e2, if_neg (show ¬ i - 1 < a by omega)]
          · rw [gI_sI]
            by_cases e : a = i
            · subst e
              rw [if_pos ⟨rfl, rfl⟩, q1.2, if_pos (show a - 1 < a by omega)]
            · rw [if_neg (fun w => e w.2), gI_sL, q2.2]
              by_cases e2 : i < a
              · rw [if_pos e2, if_pos (show i - 1 < a by omega)]
              · rw [if_neg e2, if_neg (show ¬ i - 1 < a by omega)]
    rw [zj_97_36 ht, h2]
    exact loop _ ic σ rfl s1 (Nat.le_refl _) yFr.rf h2 (fun a ha => by rw [if_neg (by omega), if_neg (by omega)]; exact ⟨rfl, rfl⟩)
  rw [zr_97_5 ht, h2]
  by_cases e : ic ≤ s
  · rw [if_pos (by omega)]
    exact ins (fun a a1 a2 => by omega) _
  · have hcc : 0 ≤ (s : Int) ∧ (s : Int) < 20 := by omega
    rw [if_neg (by omega), yAnd hcc, Int.toNat_natCast]
    by_cases hz : gL σ (t + 9) s = v
    · have e0 : zlc (gL σ (t + 9) s) v = 0 := zlc_eq.mpr hz
      rw [if_neg (fun w => w e0), yAnd hcc, yAnd hcc]
      have hF2 : yFr (Xix t) σ (sI σ (t + 10) s (w32 (gI σ (t + 10) s + 1))) := yFr.rf.I (by omega)
      have hcn := cnl_le (lab := lab) (v := gL σ (t + 9) s) m
      refine k _ hF2 ⟨ic, by omega, ?_, fun a b ha hb2 => ?_, fun a ha => ?_, fun j hj => ?_⟩
      · rw [gI_sI, if_neg (by omega)]; exact h2
      · rw [gL_sI, gL_sI]; exact h3 a b ha hb2
      · rw [gL_sI, gI_sI]
        by_cases ea : a = s
        · subst ea
          rw [if_pos ⟨rfl, rfl⟩, h4 a ha, zw_id (by omega) (by omega), cnl_eq (by rw [hv, hz])]
          omega
        · rw [if_neg (fun w => ea w.2), h4 a ha, cnl_ne]
          intro w
          rw [hv, ← hz] at w
          rcases Nat.lt_trichotomy a s with q | q | q
          · have := h3 a s q (by omega); rw [w] at this; omega
          · exact ea q
          · have := h3 s a q ha; rw [w] at this; omega
      · rw [show gL (sI σ (t + 10) s (w32 (gI σ (t + 10) s + 1))) = gL σ from funext fun _ => funext fun _ => gL_sI _ _ _ _ _ _]
        by_cases ej : j = m
        · exact ⟨s, by omega, by rw [hz, ej, hv]⟩
        · obtain ⟨a, a1, a2⟩ := h5 j (by omega)
          exact ⟨a, a1, a2⟩
    · have hz2 : ¬ zlc (gL σ (t + 9) s) v = 0 := fun w => hz (zlc_eq.mp w)
      rw [if_pos hz2]
      refine ins (fun a a1 a2 => ?_) _
      have h6 := s3 a a1 a2
      rcases Int.lt_or_eq_of_le h6 with q | q
      · exact q
      · exfalso
        have h7 : gL σ (t + 9) a = v := Int64.toInt_inj.mp q.symm
        by_cases ea : a = s
        · exact hz (by rw [← ea]; exact h7)
        · have := h3 s a (by omega) a2
          have := s3 s (Nat.le_refl _) (by omega)
          omega
