/-! a relation read by the class -/
theorem c_rel0 {K : List zF} {t : Nat} {e : Nat × Nat} {x2 x3 x4 x6 : Int} {o5 o8 : Option zV} {σ1 σ9 : zW} (hK : K.length < 60) (ht : zPn t) (hF : yFr (fun k j => k = 2 ∧ j = 2) σ1 σ9)
    (k0 : ∀ σ' : zW, yFr (Xpt t) σ1 σ' → gI σ' 2 3 = (e.1 : Nat) → gI σ' 2 4 = (e.2 : Nat) → zRet true K (some (.inl 0)) σ') :
    zEv true ((37, 135, [some (.inr (.inr t)), some (.inr (.inr 2)), some (.inl x2), some (.inl x3), some (.inl x4), o5, some (.inl x6), some (.inl (-1)), o8], []) :: K) (cfw e σ9) := by
  have hb := zPn_b ht
  rw [zj_37_135 hK ht, if_pos (show (-1 : Int) = -1 from rfl)]
  generalize w32 (gI (cfw e σ9) 2 2 + (if (0 : Int) = 0 then 0 else 1)) = w
  refine k0 _ (((((hF.mono ?x0).I ?x1).I ?x2).I ?x3).I ?x4) ?x5 ?x6
  case x0 => intro k j h; exact Or.inl ⟨h.1, by omega, by omega⟩
  case x1 => exact Or.inl ⟨rfl, by omega, by omega⟩
  case x2 => exact Or.inl ⟨rfl, by omega, by omega⟩
  case x3 => exact Or.inl ⟨rfl, by omega, by omega⟩
  case x4 => exact Or.inl ⟨rfl, by omega, by omega⟩
  case x5 => rw [gI_sI, if_neg (show ¬ (2 = 2 ∧ 3 = 2) by omega), gI_sI, if_neg (show ¬ (2 = 2 ∧ 3 = 4) by omega), yGI_hit]
  case x6 => rw [gI_sI, if_neg (show ¬ (2 = 2 ∧ 4 = 2) by omega), yGI_hit]
theorem c_rel {K : List zF} (hK : K.length + 7 ≤ 60) {f : Nat → Int} {L t p s d here : Nat} {st : PST} {σ1 : zW} {o5 o6 o7 o8 : Option zV} (ht : zPn t) (hT1 : cT f L σ1) (g2 : gI σ1 2 2 = (p : Int)) (hs : p ≤ L) (hsp : sk f L p = p) (hP1 : cP t st σ1) (hw : pw st) (hl : 2 * st.2.1 ≤ p + 1) (hlt : here < st.1) (hd : d ≤ 600) (hs6 : s ≤ 600)
    (k0 : ∀ (σ' : zW) (e : Nat × Nat), stR f L st here p = .inl e → yFr (Xpt t) σ1 σ' → gI σ' 2 3 = (e.1 : Nat) → gI σ' 2 4 = (e.2 : Nat) → zRet true K (some (.inl 0)) σ')
    (k1 : ∀ (σ' : zW) (x : Nat × PST × Nat) (o5 o6 o7 o8 : Option zV), stR f L st here p = .inr x → yFr (Xpg t) σ1 σ' → x.2.2 ≤ L → p < x.2.2 → 2 * x.2.1.2.1 ≤ x.2.2 + 1 → gI σ' 2 2 = (x.2.2 : Nat) → cP t x.2.1 σ' → pw x.2.1 → x.2.1.1 = st.1 + 1 → (∀ i, i < st.1 → x.2.1.2.2.2.1 3 i = st.2.2.2.1 3 i) → x.2.1.2.2.2.1 3 st.1 = (here : Nat) →
      zEv true ((37, 28, [some (.inr (.inr t)), some (.inr (.inr 2)), some (.inl ((if tb f L (sk f L x.1) = 40 then st.1 else here : Nat) : Int)), some (.inl ((if tb f L (sk f L x.1) = 40 then d + 1 else d : Nat) : Int)), some (.inl ((s + 1 : Nat) : Int)), o5, o6, o7, o8], []) :: K) σ') :
    zEv true ((37, 92, [some (.inr (.inr t)), some (.inr (.inr 2)), some (.inl (here : Int)), some (.inl (d : Int)), some (.inl (s : Int)), o5, o6, o7, o8], []) :: K) σ1 := by
  have hb := zPn_b ht
  have h6 := hT1.2.2.1
  have hc8 := hw.1
  have r9 := hP1.2.2.2.1 9 here (by omega) (by omega) (by omega) hlt
  have r11 := hP1.2.2.2.1 11 here (by omega) (by omega) (by omega) hlt
  unfold stR at k0 k1
  rw [zj_37_92 (by omega) ht, c_mark (R := st.2.2.2.1) (yKK (by omega)) ht hT1 g2 hs rfl (by omega) r11 r9, hsp]
  cases hm : mkR f L st.2.2.2.1 here p with
  | inl e =>
    rw [hm] at k0
    simp only at k0 ⊢
    rw [zr_37_98 (by omega), if_neg (show ¬ ¬ (-1 : Int) = -1 from fun w => w rfl), if_pos (show (-1 : Int) = -1 from rfl)]
    exact c_rel0 (by omega) ht yFr.rf (fun σ' hF h3 h4 => k0 σ' e rfl hF h3 h4)
  | inr g =>
    obtain ⟨mk0, q1⟩ := g
    rw [hm] at k0 k1
    simp only at k0 k1 ⊢
    obtain ⟨m1, m2, m3⟩ := mkR_ok hm hs
    simp only at m1 m2 m3
    rw [zr_37_98 (by omega), if_pos m3, c_op (yKK (by omega)) (cT_u hT1 (by omega)) yGI_hit m2]
    cases ho : opR f L q1 with
    | inl e =>
      rw [ho] at k0
      simp only at k0 ⊢
      rw [zr_37_114 (by omega), if_pos (show (-1 : Int) = -1 from rfl)]
      exact c_rel0 (by omega) ht (yFr.rf.I ⟨rfl, rfl⟩) (fun σ' hF h3 h4 => k0 σ' e rfl hF h3 h4)
    | inr o =>
      obtain ⟨m, k, q2⟩ := o
      have hsq := sk_ge f L q1
      have hok := opS_ok (show opS f L (sk f L q1) = .inr (m, k, q2) from ho)
      simp only at hok
      obtain ⟨o1, o2, o3, o4, o5'⟩ := hok
      have hcp : 0 ≤ cop m k := cop_pos o3
      rw [ho] at k0 k1
      simp only at k0 k1 ⊢
      have hs3 := sk_le (f := f) o2
      have hg3 := sk_ge f L q2
      obtain ⟨b1, b2⟩ := brR_ok (f := f) hs3
      rw [zr_37_114 (by omega), if_neg (by omega), sI_sI, c_next (yL (by omega)) (cT_u hT1 (by omega)) yGI_hit, sI_sI]
      have hT9 : cT f L (sI σ1 2 2 (brR f L (sk f L q2) : Nat)) := cT_u hT1 (by omega)
      have hF9 : yFr (fun k j => k = 2 ∧ j = 2) σ1 (sI σ1 2 2 (brR f L (sk f L q2) : Nat)) := yFr.rf.I ⟨rfl, rfl⟩
      have g9 : gI (sI σ1 2 2 (brR f L (sk f L q2) : Nat)) 2 2 = (brR f L (sk f L q2) : Nat) := yGI_hit
      have hP9 := cP_fr ht hP1 hF9 (fun k j h => by omega)
      have fin : ∀ (x8 : Int) (o5 : Option zV), x8 = (if tb f L (sk f L q2) = 40 then 1 else 0) → zEv true (zent 47 [.inr (.inr t), .inr (.inr 2), .inl (here : Int), .inl mk0, .inl (cop m k)] :: (37, 173, [some (.inr (.inr t)), some (.inr (.inr 2)), some (.inl (here : Int)), some (.inl (d : Int)), some (.inl (s : Int)), o5, some (.inl mk0), some (.inl (cop m k)), some (.inl x8)], []) :: K) (sI σ1 2 2 (brR f L (sk f L q2) : Nat)) := by
        intro x8 o5 hx8
        generalize sI σ1 2 2 (brR f L (sk f L q2) : Nat) = σ9 at hT9 hF9 g9 hP9 ⊢
        generalize hbr : brR f L (sk f L q2) = q9 at k0 k1 b1 b2 g9 ⊢
        refine c_node (yKK (K := K) (by omega)) ht hT9 g9 b2 hP9 hw (by omega) (Or.inr ⟨here, hlt, rfl⟩) (fun σ' e he hF h3 h4 => ?_) (fun σ' r hr hF n1 n2 n3 n4 n5 n6 => ?_)
        · rw [he] at k0
          rw [zr_37_173 ht, if_neg (fun w => w rfl)]
          exact k0 σ' e rfl ((hF9.mono (fun k j h => by omega)).trans hF) h3 h4
        · rw [hr] at k1
          simp only at k1
          obtain ⟨v1, v2, v3, v4, v5⟩ := nodP_pw hw (Or.inr ⟨here, hlt, rfl⟩) hr
          have hFr : yFr (Xpg t) σ1 σ' := (hF9.mono (fun k j h => by omega)).trans hF
          have kk := fun o5 o6 o7 o8 => k1 σ' (q2, r) o5 o6 o7 o8 rfl hFr n1 (by dsimp only; omega) n3 n4 n5 n6 v2 (fun i hi => v4 3 i hi (by omega) (by omega)) v5
          rw [zr_37_173 ht, if_pos (by omega), n5.1, v2]
          by_cases h40 : tb f L (sk f L q2) = 40
          · rw [if_pos h40] at hx8
            simp only [if_pos h40] at kk
            rw [hx8, if_neg (by omega), if_neg (by omega), zw_id (by omega) (by omega), zw_id (by omega) (by omega), zw_id (by omega) (by omega), show ((st.1 + 1 : Nat) : Int) - 1 = ((st.1 : Nat) : Int) by omega, show (d : Int) + 1 = ((d + 1 : Nat) : Int) by omega, show (s : Int) + 1 = ((s + 1 : Nat) : Int) by omega]
            exact kk _ _ _ _
          · rw [if_neg h40] at hx8
            simp only [if_neg h40] at kk
            rw [hx8, if_pos rfl, if_pos rfl, zw_id (by omega) (by omega), zw_id (by omega) (by omega), show (d : Int) + 0 = ((d : Nat) : Int) by omega, show (s : Int) + 1 = ((s + 1 : Nat) : Int) by omega]
            exact kk _ _ _ _
      by_cases h40 : tb f L (sk f L q2) = 40
      · have e9 : brR f L (sk f L q2) = sk f L q2 + 1 := if_pos h40
        have h := fun o5 => fin 1 o5 (by rw [if_pos h40])
        rw [e9] at h b2
        rw [zr_37_126 (by omega) ht, if_neg (fun w => w h40), if_neg (by omega), yGI_hit, if_neg (by omega), zw_id (by omega) (by omega), sI_sI, show ((sk f L q2 : Nat) : Int) + 1 = ((sk f L q2 + 1 : Nat) : Int) by omega]
        exact h _
      · have e9 : brR f L (sk f L q2) = sk f L q2 := if_neg h40
        have h := fun o5 => fin 0 o5 (by rw [if_neg h40])
        rw [e9] at h
        rw [zr_37_126 (by omega) ht, if_pos h40, zj_37_135 (by omega) ht, if_neg (by omega), yGI_hit, if_pos rfl, zw_id (by omega) (by omega), sI_sI, Int.add_zero]
        exact h _
