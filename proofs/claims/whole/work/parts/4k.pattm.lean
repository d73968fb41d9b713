/-! a relation read by the model -/
theorem nodP_pos {f : Nat → Int} {L p m k : Nat} {st : PST} {here mk : Int} {r : PST × Nat} (hp : p ≤ L) (hl : 2 * st.2.1 ≤ p) (h : nodP f L st here mk m k p = .inr r) : p < r.2 ∧ r.2 ≤ L ∧ 2 * r.1.2.1 ≤ r.2 + 1 := by
  unfold nodP at h
  split at h
  · cases h
  · rename_i hb
    obtain ⟨b1, b2, b3, b4⟩ := begR_none hb
    split at h
    · cases h
    · rename_i b hbo
      split at h
      · cases h
      · rename_i w hna
        cases h
        have hbp : p < b.2.2.2 ∧ b.2.2.2 ≤ L ∧ 2 * b.2.1 ≤ b.2.2.2 + 1 := by
          generalize ha1 : (if zlet (tb f L p) then p else p + 1) = a1 at hbo
          have a1L : a1 ≤ L := by rw [← ha1]; split <;> omega
          have pa1 : p ≤ a1 := by rw [← ha1]; split <;> omega
          unfold bodR at hbo
          split at hbo
          · rename_i h42
            have hnl : ¬ zlet (tb f L p) := by rw [h42]; decide
            rw [if_neg hnl] at ha1
            cases hbo
            dsimp only
            omega
          · split at hbo
            · split at hbo
              · cases hbo
              · rename_i x hx
                have := tolR_ok hx
                cases hbo
                dsimp only
                omega
            · split at hbo
              · cases hbo
              · rename_i x hx
                have := lbR_ok _ _ _ _ _ hx a1L (by omega)
                cases hbo
                dsimp only
                omega
        have hq : b.2.2.2 ≤ w.2 ∧ w.2 ≤ L := by
          unfold namR at hna
          split at hna
          · cases hna; exact ⟨Nat.le_refl _, hbp.2.1⟩
          · exact givR_ok hna hbp.2.1
        refine ⟨by dsimp only; omega, hq.2, ?_⟩
        show 2 * b.2.1 ≤ w.2 + 1
        omega
theorem m_rel {K : List zF} (hK : K.length + 10 ≤ 60) {f : Nat → Int} {L q1 here : Nat} {st : PST} {mk : Int} {σ : zW} (hT : mT f L σ) (ha : gI σ 122 2 = (q1 : Int)) (haL : q1 ≤ L) (hP : mP st σ) (hw : pw st) (hnw : nw st) (hl : 2 * st.2.1 ≤ q1 + 1) (hlt : here < st.1) (hmk : mk = 0 ∨ mk = 1 ∨ mk = 2) (hmk2 : mk = 2 → st.2.2.2.1 9 here = -1)
    (k0 : ∀ (σ' : zW) (e : Nat × Nat), (match opR f L q1 with | .inl e => .inl e | .inr o => match nodP f L st (here : Nat) mk o.1 o.2.1 (sk f L (brR f L (sk f L o.2.2))) with | .inl e => .inl e | .inr r => .inr (o.2.2, r) : (Nat × Nat) ⊕ (Nat × PST × Nat)) = .inl e → yFr Xnp σ σ' → gI σ' 122 6 = (e.1 : Nat) → gI σ' 122 7 = (e.2 : Nat) → zRet true K (some (.inl (-2))) σ')
    (k1 : ∀ (σ' : zW) (x : Nat × PST × Nat), (match opR f L q1 with | .inl e => .inl e | .inr o => match nodP f L st (here : Nat) mk o.1 o.2.1 (sk f L (brR f L (sk f L o.2.2))) with | .inl e => .inl e | .inr r => .inr (o.2.2, r) : (Nat × Nat) ⊕ (Nat × PST × Nat)) = .inr x → yFr Xnp σ σ' → gI σ' 122 2 = (x.2.2 : Nat) → mP x.2.1 σ' → nw x.2.1 → q1 < x.2.2 → x.2.2 ≤ L → 2 * x.2.1.2.1 ≤ x.2.2 + 1 → pw x.2.1 → x.2.1.1 = st.1 + 1 → (∀ i, i < st.1 → x.2.1.2.2.2.1 3 i = st.2.2.2.1 3 i) → x.2.1.2.2.2.1 3 st.1 = (here : Nat) → zRet true K (some (.inl (if tb f L (sk f L x.1) = 40 then (st.1 : Int) else -1))) σ') :
    zEv true (zent 161 [.inr (.inr 122), .inl (here : Int), .inl (sgR mk)] :: K) σ := by
  have h6 := hT.2.2.1
  have hc8 := hw.1
  rw [ze_161 (by omega)]
  refine m_op (K := _) (yKK (K := K) (by omega)) hT ha haL (fun σ' e he hF h3 h4 => ?_) (fun σ' m k q2 he hF h3 h4 => ?_)
  · rw [he] at k0
    rw [zr_161_4 (by omega), if_neg (show ¬ ¬ (0 : Int) = 0 from fun w => w rfl)]
    exact k0 σ' e rfl (hF.mono (fun k j h => by omega)) h3 h4
  · have hsq := sk_ge f L q1
    have hok := opS_ok (show opS f L (sk f L q1) = .inr (m, k, q2) from he)
    simp only at hok
    obtain ⟨o1, o2, o3, o4, o5⟩ := hok
    rw [he] at k0 k1
    simp only at k0 k1
    have hs3 := sk_le (f := f) o2
    have hg3 := sk_ge f L q2
    obtain ⟨b1, b2⟩ := brR_ok (f := f) hs3
    have hT1 := mT_fr hT hF (fun k j h => by omega)
    have hd : ∀ n : Nat, n < 10 → zl2i (zi2l (n : Int)) = (n : Int) := by decide +kernel
    have eat : w32 (((sk f L q2 : Nat) : Int) + (if (if ¬ tb f L (sk f L q2) = 40 then (0 : Int) else 1) = 0 then 0 else 1)) = (brR f L (sk f L q2) : Nat) := by
      unfold brR
      by_cases w : tb f L (sk f L q2) = 40
      · have := tb_in (f := f) (L := L) (p := sk f L q2) (by omega)
        rw [if_neg (by rw [if_neg (fun q => q w)]; omega), if_pos w, zw_id (by omega) (by omega)]; omega
      · rw [if_pos (by rw [if_pos w]), if_neg w, zw_id (by omega) (by omega)]; omega
    rw [zr_161_4 (by omega), if_pos (show ¬ ((m : Nat) : Int) = 0 by omega), h4, hd k (by omega), m_sign (yKK (by omega)) hT1 h3, zr_161_23 (by omega), yGI_hit, eat, sI_sI]
    have hFx : yFr Xlb σ (sI σ' 122 2 (brR f L (sk f L q2) : Nat)) := hF.I (by omega)
    have gx : gI (sI σ' 122 2 (brR f L (sk f L q2) : Nat)) 122 2 = (brR f L (sk f L q2) : Nat) := yGI_hit
    generalize sI σ' 122 2 (brR f L (sk f L q2) : Nat) = σ1 at hFx gx ⊢
    have hP1 : mP st σ1 := by
      obtain ⟨a1, a2, a3, a4, a5⟩ := hP
      exact ⟨(hFx.i (by omega)).trans a1, (hFx.i (by omega)).trans a2, (hFx.i (by omega)).trans a3, fun q i q1 q2 hi => (hFx.i (by omega)).trans (a4 q i q1 q2 hi), fun i hi => (hFx.l (by omega)).trans (a5 i hi)⟩
    refine m_node (K := _) (yKK (K := K) (by omega)) (mT_fr hT hFx (fun k j h => by omega)) gx b2 hP1 hw hnw (by omega) (Or.inr ⟨here, hlt, rfl⟩) hmk (fun w => Or.inr (by rw [Int.toNat_natCast]; exact hmk2 w)) (fun σ2 e he2 hF2 h3 h4 => ?_) (fun σ2 r hr hF2 h3 h4 h5 => ?_)
    · rw [he2] at k0
      rw [zr_161_63, if_neg (show ¬ ¬ (0 : Int) = 0 from fun w => w rfl)]
      exact k0 σ2 e rfl ((hFx.mono (fun k j h => by omega)).trans hF2) h3 h4
    · rw [hr] at k1
      have hsb := sk_le (f := f) b2
      have hgb := sk_ge f L (brR f L (sk f L q2))
      obtain ⟨n1, n2, n3⟩ := nodP_pos hsb (by omega) hr
      obtain ⟨v1, v2, v3, v4, v5⟩ := nodP_pw hw (Or.inr ⟨here, hlt, rfl⟩) hr
      have kk := k1 σ2 (q2, r) rfl ((hFx.mono (fun k j h => by omega)).trans hF2) h3 h4 h5 (by dsimp only; omega) n2 n3 v1 v2 (fun i hi => v4 3 i hi (by omega) (by omega)) v5
      rw [zr_161_63, if_pos (show ¬ (1 : Int) = 0 by omega), h4.1, v2]
      by_cases w : tb f L (sk f L q2) = 40
      · simp only [if_pos w] at kk
        rw [if_neg (by rw [if_neg (fun q => q w)]; omega), zw_id (by omega) (by omega), show ((st.1 + 1 : Nat) : Int) - 1 = (st.1 : Int) by omega]
        exact kk
      · simp only [if_neg w] at kk
        rw [if_pos (by rw [if_pos w])]
        exact kk
