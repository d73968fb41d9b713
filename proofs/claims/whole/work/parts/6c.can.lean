/-! can -/
theorem m_can {K : List zF} (hK : K.length + 4 ≤ 60) {q k : Nat} {T : TRE} {st : PST} {pd : Nat → Nat} {w : Nat → Int} {z : Int} {σ : zW} (hgT : tgd T) (hO : mOn q T st σ) (hg : pgd st pd) (hw8 : pw st) (hu : pup st) (hl : st.2.1 ≤ 300) (hk : k < st.2.2.1) (hp : pre T st w k) (hwk : -1 ≤ w k ∧ w k < (T.1 : Int)) (hV : mVm st w (k + 1) σ) (hz : z = (k : Int)) : zEv true (zent 203 [.inr (.inr 122), .inl z] :: K) σ = zRet true K (some (.inl (zb (canP T st w k)))) σ := by
  subst hz
  have hN := hw8.2.1
  have hc := hw8.1
  obtain ⟨n1, n2, n3, n4, n5⟩ := np_ok hg hk
  have hck : 0 ≤ (k : Int) ∧ (k : Int) < 4 := by omega
  have hcn : 0 ≤ (np st k : Int) ∧ (np st k : Int) < 8 := by omega
  have e145 : ∀ e, e < st.2.2.1 → gI σ 145 e = (np st e : Int) := fun e he => (hO.2.2.2.2.2.2.2.2.2 e he).trans (np_ok hg he).2.1
  have e138 : ∀ e, e < st.2.2.1 → gI σ 138 (np st e) = st.2.2.2.1 9 (np st e) + 1 := fun e he => mG_k hO.2.2.2.2 (q := 6) (i := np st e) (by omega) (by omega) (np_ok hg he).1
  have h9 := (hw8.2.2.2 (np st k) n1).2.2.1
  have loop : ∀ (d e : Nat) (y : Int) (o6 : Option zV), k - e = d → e ≤ k → ((y = 1 ∧ ∀ f, f < e → st.2.2.2.1 9 (np st k) ≠ -1 → st.2.2.2.1 9 (np st f) = st.2.2.2.1 9 (np st k) → (w f = -1 ↔ w k = -1)) ∨ (y = 0 ∧ ¬ ∀ e, e < k → st.2.2.2.1 9 (np st k) ≠ -1 → st.2.2.2.1 9 (np st e) = st.2.2.2.1 9 (np st k) → (w e = -1 ↔ w k = -1))) → zEv true ((203, 20, [some (.inr (.inr 122)), some (.inl (k : Int)), some (.inl (np st k : Int)), some (.inl (w k)), some (.inl y), some (.inl (e : Int)), o6], []) :: K) σ = zRet true K (some (.inl (zb (canP T st w k)))) σ := by
    intro d
    induction d with
    | zero =>
      intro e y o6 hd he hv
      have h1 : (k : Int) ≤ (e : Int) := by clear hv; omega
      have h2 : ∀ f, f < k → f < e := fun f hf => by clear hv; omega
      rw [zj_203_20 (by clear hv; omega), if_pos h1]
      rcases hv with ⟨y1, hh⟩ | ⟨y0, hh⟩
      · have hgr : ∀ f, f < k → st.2.2.2.1 9 (np st k) ≠ -1 → st.2.2.2.1 9 (np st f) = st.2.2.2.1 9 (np st k) → (w f = -1 ↔ w k = -1) := fun f hf => hh f (h2 f hf)
        rw [y1, if_neg (show ¬ (1 : Int) = 0 by decide)]
        by_cases cw : w k = -1
        · rw [if_neg (fun q => q cw), yAnd (Or.inr rfl), zb_t ⟨hgr, fun q => absurd cw q⟩]
        · obtain ⟨a, ha⟩ : ∃ a : Nat, w k = (a : Int) := ⟨(w k).toNat, by omega⟩
          have haT : a < T.1 := by omega
          have h34 : st.2.2.2.1 1 (np st k) = 3 ∨ st.2.2.2.1 1 (np st k) = 4 → ∃ (o j : Nat), st.2.2.2.1 2 (np st k) = (o : Int) ∧ st.2.2.2.1 8 o = (j : Int) ∧ j < k ∧ np st j = o ∧ 0 ≤ w j ∧ w j < (T.1 : Int) := fun c => by
            obtain ⟨o, o1, o2, o3, o4, o5⟩ := again_num hg n1 c
            obtain ⟨j, j1, j2, j3⟩ := np_num hg (show o < st.1 by omega) o5
            have hjk : j < k := np_mono hg j1 hk (by omega)
            obtain ⟨⟨w1, w2⟩, w3, -⟩ := hp j hjk
            exact ⟨o, j, o1, j2, hjk, j3, w3 (by rw [j3]; exact o3.2), w2⟩
          have hf := m_fits (K := (203, 126, [some (.inr (.inr 122)), some (.inl (k : Int)), some (.inl (np st k : Int)), some (.inl (w k)), some (.inl 1), some (.inl (e : Int)), o6], []) :: K) (p := np st k) (a := a) (w := w) (yKK (by omega)) hgT hO hg hc hl n1 haT (fun c => by
            obtain ⟨o, j, o1, o2, o3, o4, -⟩ := h34 c
            have := hV j (by omega)
            rw [o4] at this
            rw [o1, Int.toNat_natCast, this]
            unfold vp
            rw [o2, Int.toNat_natCast]) (fun c => by
            obtain ⟨o, j, o1, o2, o3, o4, o5, o6⟩ := h34 (Or.inl c)
            refine ⟨(w j).toNat, by omega, ?_⟩
            rw [o1, Int.toNat_natCast]
            unfold vp
            rw [o2, Int.toNat_natCast]; omega) rfl ha
          rw [if_pos cw, hf, zr_203_126 (by omega)]
          rcases Classical.em (own T st w (np st k) a) with ho | ho
          · rw [if_neg (fun q => zb0.mp q ho)]
            by_cases c0 : np st k = 0
            · rw [if_pos (by omega), zb_t ⟨hgr, fun _ => ⟨by rw [ha, Int.toNat_natCast]; exact ho, fun q => absurd c0 q⟩⟩]
            · obtain ⟨u, j, b, u1, u2, u3, u4, u5, u6, u7, u8, u9, u10⟩ := from_node hg hw8 hu hk hp cw hgr c0
              obtain ⟨m, kk, hm17, hk16, hm19, hk9, hm1, -⟩ := (hg.2.1 (np st k) n1).2.2.2.1
              have e140 : gI σ 140 (np st k) = (u : Int) := (mG_k hO.2.2.2.2 (q := 8) (i := np st k) (by omega) (by omega) n1).trans u1
              have e142 : gI σ 142 (np st k) = (m : Int) := (mG_k hO.2.2.2.2 (q := 10) (i := np st k) (by omega) (by omega) n1).trans hm17
              have e143 : gI σ 143 (np st k) = (kk : Int) := (mG_k hO.2.2.2.2 (q := 11) (i := np st k) (by omega) (by omega) n1).trans hk16
              have hcu : 0 ≤ (u : Int) ∧ (u : Int) < 8 := by omega
              have huc : u < st.1 := by omega
              have v195 : ∀ fr : zF, zEv true (zent 195 [.inr (.inr 122), .inl (u : Int)] :: fr :: K) σ = zRet true (fr :: K) (some (.inl (b : Int))) σ := fun fr => by
                have e132 : gI σ 132 u = st.2.2.2.1 1 u := mG_k hO.2.2.2.2 (q := 0) (i := u) (by omega) (by omega) huc
                have e135 : gI σ 135 u = st.2.2.2.1 2 u := mG_k hO.2.2.2.2 (q := 3) (i := u) (by omega) (by omega) huc
                have eV : gI σ 174 (mt st.2.2.2.1 u) = (b : Int) := by rw [← u7, ← u8]; exact hV j (by omega)
                rw [ze_195, yAnd hcu, Int.toNat_natCast, e132, e135]
                unfold mt at eV
                by_cases c4 : st.2.2.2.1 1 u = 4
                · obtain ⟨o, o1, o2, -, -, o5⟩ := again_num hg huc (Or.inr c4)
                  have hco : 0 ≤ (o : Int) ∧ (o : Int) < 8 := by clear e132 e135; omega
                  rw [if_pos c4, o1, Int.toNat_natCast] at eV
                  rw [o1, Int.toNat_natCast, yAnd (fun w => hcu), yAnd (fun _ => ⟨hcu, hco⟩), if_neg (fun w => w c4), eV]
                · rw [if_neg c4] at eV
                  rw [yAnd (fun w => hcu), yAnd (fun w => absurd c4 w), if_pos c4, eV]
              have hnd : ndu st w (np st k) = b := by
                unfold ndu
                have : fr3 st (np st k) = u := by show (st.2.2.2.1 3 (np st k)).toNat = u; rw [u1, Int.toNat_natCast]
                rw [this, u10, Int.toNat_natCast]
              rw [if_neg (by omega), yAnd hcn, Int.toNat_natCast, e140, v195, zr_203_145 (by omega), m_holds (yKK (by omega)) hO.1 hgT hO.2.1 hO.2.2.1 hO.2.2.2.1 (by omega) e142 e143 ⟨hm1 (by omega), hm19⟩ u9 haT rfl rfl ha, zr_203_149]
              have hr : rlp T st.2.2.2.1 (np st k) b a ↔ relP T m kk b a := by
                show relP T (st.2.2.2.1 17 (np st k)).toNat (st.2.2.2.1 16 (np st k)).toNat b a ↔ _
                rw [hm17, hk16, Int.toNat_natCast, Int.toNat_natCast]
              rcases Classical.em (relP T m kk b a) with h | h
              · rw [if_neg (fun q => zb0.mp q h), zb_t ⟨hgr, fun _ => by
                  rw [hnd, ha, Int.toNat_natCast]; exact ⟨ho, fun _ => hr.mpr h⟩⟩]
              · rw [if_pos (zb0.mpr h), zj_203_156, zb_f (fun q => by
                  have := (q.2 cw).2 c0
                  rw [hnd, ha, Int.toNat_natCast] at this
                  exact h (hr.mp this))]
          · rw [if_pos (zb0.mpr ho), zj_203_156, zb_f (fun q => by
              have := (q.2 cw).1
              rw [ha, Int.toNat_natCast] at this
              exact ho this)]
      · rw [y0, if_pos (show (0 : Int) = 0 from rfl), yAnd (Or.inl rfl), zb_f (fun q => hh q.1)]
    | succ d ih =>
      intro e y o6 hd he hv
      have he' : e < k := by clear hv; omega
      have h1 : ¬ (k : Int) ≤ (e : Int) := by clear hv; omega
      have hd1 : k - (e + 1) = d := by clear hv; omega
      have heN : e < st.2.2.1 := by clear hv; omega
      have hce : 0 ≤ (e : Int) ∧ (e : Int) < 4 := by clear hv; omega
      have hcm : 0 ≤ (np st e : Int) ∧ (np st e : Int) < 8 := by have := (np_ok hg heN).1; clear hv; omega
      have eVe := hV e (by clear hv; omega)
      have eVk := hV k (Nat.lt_succ_self k)
      have ei : w32 ((e : Int) + 1) = ((e + 1 : Nat) : Int) := by clear hv eVe eVk; rw [zw_id (by omega) (by omega)]; omega
      rw [zj_203_20 (by clear hv ei eVe eVk; omega), if_neg h1, yAnd hce]
      rcases hv with ⟨y1, hh⟩ | ⟨y0, hh⟩
      · have next : (st.2.2.2.1 9 (np st k) ≠ -1 → st.2.2.2.1 9 (np st e) = st.2.2.2.1 9 (np st k) → (w e = -1 ↔ w k = -1)) → ∀ f, f < e + 1 → st.2.2.2.1 9 (np st k) ≠ -1 → st.2.2.2.1 9 (np st f) = st.2.2.2.1 9 (np st k) → (w f = -1 ↔ w k = -1) := fun q f hf => by
          by_cases c : f = e
          · rw [c]; exact q
          · exact hh f (by clear ei eVe eVk; omega)
        rw [y1, if_neg (show ¬ (1 : Int) = 0 by decide), yAnd hcn, Int.toNat_natCast, Int.toNat_natCast, e138 k hk, e145 e heN, ei]
        by_cases c9 : st.2.2.2.1 9 (np st k) = -1
        · rw [if_pos (by rw [c9]; decide)]
          exact ih (e + 1) 1 _ hd1 he' (Or.inl ⟨rfl, next (fun q => absurd c9 q)⟩)
        · rw [if_neg (by clear ei eVe eVk next; omega), yAnd hcm, yAnd hcn, Int.toNat_natCast, e138 e heN]
          by_cases ce : st.2.2.2.1 9 (np st e) = st.2.2.2.1 9 (np st k)
          · rw [if_neg (fun q => q (by rw [ce])), yAnd hcm, eVe]
            by_cases c1 : w e = -1 <;> by_cases c2 : w k = -1
            · rw [if_neg (fun q => q (by rw [if_neg (fun q => q c1), if_neg (fun q => q c2)]))]
              exact ih (e + 1) 1 _ hd1 he' (Or.inl ⟨rfl, next (fun _ _ => ⟨fun _ => c2, fun _ => c1⟩)⟩)
            · rw [if_pos (by rw [if_neg (fun q => q c1), if_pos c2]; decide), zj_203_98, ei]
              exact ih (e + 1) 0 _ hd1 he' (Or.inr ⟨rfl, fun q => c2 ((q e he' c9 ce).mp c1)⟩)
            · rw [if_pos (by rw [if_pos c1, if_neg (fun q => q c2)]; decide), zj_203_98, ei]
              exact ih (e + 1) 0 _ hd1 he' (Or.inr ⟨rfl, fun q => c1 ((q e he' c9 ce).mpr c2)⟩)
            · rw [if_neg (fun q => q (by rw [if_pos c1, if_pos c2]))]
              exact ih (e + 1) 1 _ hd1 he' (Or.inl ⟨rfl, next (fun _ _ => ⟨fun q => absurd q c1, fun q => absurd q c2⟩)⟩)
          · rw [if_pos (fun q => ce (by clear ei eVe eVk next; omega))]
            exact ih (e + 1) 1 _ hd1 he' (Or.inl ⟨rfl, next (fun _ q => absurd q ce)⟩)
      · rw [y0, if_pos (show (0 : Int) = 0 from rfl), Int.toNat_natCast, e145 e heN, zj_203_98, ei]
        exact ih (e + 1) 0 _ hd1 he' (Or.inr ⟨rfl, hh⟩)
  rw [ze_203, yAnd hck, Int.toNat_natCast, e145 k hk, yAnd hcn, Int.toNat_natCast, hV k (Nat.lt_succ_self k)]
  exact loop k 0 1 _ (Nat.sub_zero _) (Nat.zero_le _) (Or.inl ⟨rfl, fun f hf => absurd hf (Nat.not_lt_zero _)⟩)
