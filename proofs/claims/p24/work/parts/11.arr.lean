/-! rows on arrays, and on what is made -/
theorem zkd25 {k : Nat} (h : zkd k = 25) : k = 99999 := by
  rcases Nat.lt_or_ge k 124 with h1 | h1
  · exfalso
    have : ∀ k, k < 124 → zkd k ≠ 25 := by decide +kernel
    exact this k h1 h
  · unfold zkd at h
    rw [Nat.ble_eq.mpr h1] at h
    simp only [cond_true] at h
    cases h3 : Nat.beq k 99999 with
    | true => exact Nat.eq_of_beq_eq_true h3
    | false =>
      rw [h3] at h
      simp only [cond_false] at h
      cases h4 : (Nat.ble 100000 k && Nat.blt k 100010) with
      | true => rw [h4] at h; cases h
      | false => rw [h4] at h; cases h
theorem zkd31 {k : Nat} (h : zkd k = 31) : 100000 ≤ k ∧ k < 100010 := by
  rcases Nat.lt_or_ge k 124 with h1 | h1
  · exfalso
    have : ∀ k, k < 124 → zkd k ≠ 31 := by decide +kernel
    exact this k h1 h
  · unfold zkd at h
    rw [Nat.ble_eq.mpr h1] at h
    simp only [cond_true] at h
    cases h3 : Nat.beq k 99999 with
    | true => rw [h3] at h; cases h
    | false =>
      rw [h3] at h
      simp only [cond_false] at h
      cases h4 : (Nat.ble 100000 k && Nat.blt k 100010) with
      | true =>
        simp only [Bool.and_eq_true, Nat.blt_eq] at h4
        exact ⟨Nat.le_of_ble_eq_true h4.1, h4.2⟩
      | false => rw [h4] at h; cases h
theorem zln_small : ∀ k, k < 124 → zln k < 20000 := by decide +kernel
theorem zin_vp {x : Int32} {z : Int} {n : Nat} (ex : x.toInt = z) (h : 0 ≤ z ∧ z < (n : Int)) : vp_in x n ∧ x.toNatClampNeg = z.toNat := by
  refine ⟨vp_in_iff.mpr (by rw [ex]; exact h), ?_⟩
  rw [← ex]; rfl
section ZARR
variable {s0 : State} {a0 : Array Value} {D : va_G} {c4 : zC4} {b L : Nat} {xs : Nat → Int32} {adK : Nat → Nat}
variable {p : Program} {l : Launch} {e : Env} {R : Room} {s : State} {m : MethodId} {args : Array Value} {below : List Frame} {meth : Method} {c : Code} {Q : State → Prop} {y : Nat}
variable {nL pc : Nat} {σ σ' : zW} {ad : Nat → Nat} {E : Nat → va_E} {H : Heap} {locs : List Loc} {cells slots : Nat} {als : List (Option zV)} {ast : List zV} {ls : Array Slot} {st : List Value} {f' : zF}
theorem zX_at (hB : zBase s0 a0 D c4 b L xs adK) (hC : zCx p s0 s m meth c y) : va_X b L xs s s.heap ∧ b < s.heap.size ∧ ¬ zA s0 b := by
  obtain ⟨-, -, -, -, -, -, -, -, hW, hsz, hold⟩ := hC
  obtain ⟨-, -, hX, hbl, -⟩ := hB
  refine ⟨va_X.moved hW.alike (hX.kept (hold b hbl)), by omega, ?_⟩
  show ¬ s0.heap.size ≤ b
  omega
theorem zr_ald {t : Nat} {i : Instr} (hi : (t = 20 ∧ i = .iaload) ∨ (t = 21 ∧ i = .laload) ∨ (t = 22 ∧ i = .baload) ∨ (t = 23 ∧ i = .aaload)) (hB : zBase s0 a0 D c4 b L xs adK) (hC : zCx p s0 s m meth c y) (hdg : decode (zB y) pc = .ok (i, 1)) (hSt : zSt s0 D c4 b L xs adK s nL ad E σ H locs als ast ls st)
    (h : zald t y pc als ast σ = some (.inl (f', σ'))) (kk : zKn s0 D c4 b L xs adK p l e R s m args below meth c Q nL σ ad cells slots f' σ') : W p l e R s m args below meth c H locs cells slots Q (F0 m pc ls st) := by
  obtain ⟨hx, hb, -, -, hown, -, -, -, hW, -⟩ := id hC
  obtain ⟨hS, hR, hL, hst⟩ := id hSt
  obtain ⟨hP, hD, hCo, -, -, hxs, hxl, hadb, -⟩ := id hR
  have hK := hB.2.1.moved hW.alike
  rcases ast with _ | ⟨(z | x | k), _ | ⟨(z2 | x2 | k2), ast1⟩⟩
  · simp [zald] at h
  · simp [zald] at h
  · simp [zald] at h
  · simp [zald] at h
  · simp only [zald] at h
    obtain ⟨iv, m0, rfl, ei, hst2⟩ := zSr_i hst
    by_cases hk : zkd k2 = t
    · rw [if_pos hk] at h
      by_cases hz : 0 ≤ z ∧ z < (zln k2 : Int)
      · rw [if_pos hz] at h
        have h0 : zkd k2 ≠ 0 := by rcases hi with ⟨q, -⟩ | ⟨q, -⟩ | ⟨q, -⟩ | ⟨q, -⟩ <;> omega
        have hk1 := zkd_in h0 (by rcases hi with ⟨q, -⟩ | ⟨q, -⟩ | ⟨q, -⟩ | ⟨q, -⟩ <;> omega) (by rcases hi with ⟨q, -⟩ | ⟨q, -⟩ | ⟨q, -⟩ | ⟨q, -⟩ <;> omega)
        obtain ⟨m1, rfl, hok, h1⟩ := zSr_r h0 hst2
        have hk2 := zok_in hok hk1
        obtain ⟨co1, co2, co3, co4, -⟩ := hCo k2 hk2.1 hk2.2
        have he := zws_at (ad := ad) (E := E) hk2.1 hk2.2
        obtain ⟨hin, hcl⟩ := zin_vp ei hz
        rcases hi with ⟨rfl, rfl⟩ | ⟨rfl, rfl⟩ | ⟨rfl, rfl⟩ | ⟨rfl, rfl⟩
        · simp only [znx] at h
          cases h
          obtain ⟨f, hE, hf⟩ := co1 hk
          rw [hE] at he
          exact va_iald hx hb hK hP (k2 - 1) 0 he rfl hin hdg (kk.same hSt hL ⟨zVr_int _ (by rw [hcl]; exact hf _), h1⟩)
        · simp only [znx] at h
          cases h
          obtain ⟨f, hE, hf⟩ := co2 hk
          rw [hE] at he
          exact va_lald hx hb hK hP (k2 - 1) 1 he rfl hin hdg (kk.same hSt hL ⟨by rw [hcl, hf]; exact zVr_long _, h1⟩)
        · simp only [znx] at h
          cases h
          obtain ⟨f, hE, hf⟩ := co3 hk
          rw [hE] at he
          exact va_zald hx hb hK hP (k2 - 1) 2 he rfl hin hdg (kk.same hSt hL ⟨zVr_int _ (by rw [hcl]; exact hf _), h1⟩)
        · simp only [znx] at h
          cases h
          obtain ⟨f, hE, hf⟩ := co4 hk
          rw [hE] at he
          refine va_aldq hx hb hK hP (k2 - 1) 3 he rfl hin hdg (kk.same hSt hL ⟨?_, h1⟩)
          rw [hcl]
          rcases hf z.toNat with ⟨h5, h6⟩ | ⟨h5, h6, h7⟩
          · rw [h6]; exact Or.inl ⟨h5, rfl⟩
          · rw [h7]; exact Or.inr ⟨Or.inl ⟨h5, h6⟩, rfl⟩
      · rw [if_neg hz] at h; cases h
    · rw [if_neg hk] at h
      by_cases hk2 : t = 20 ∧ zkd k2 = 25
      · rw [if_pos hk2] at h
        by_cases hz : 0 ≤ z ∧ z < gI σ 99998 0
        · rw [if_pos hz] at h
          simp only [znx] at h
          cases h
          obtain ⟨ht, h25⟩ := hk2
          subst ht
          obtain ⟨m1, rfl, hok, h1⟩ := zSr_r (by omega) hst2
          have e9 := zkd25 h25
          subst e9
          have hii : i = .iaload := by rcases hi with ⟨-, q⟩ | ⟨q, -⟩ | ⟨q, -⟩ | ⟨q, -⟩ <;> first | exact q | omega
          subst hii
          rw [hxl] at hz
          obtain ⟨hin, hcl⟩ := zin_vp ei hz
          obtain ⟨hX, hbl, hbA⟩ := zX_at hB hC
          rw [hadb]
          refine va_sld hx hb hX hbl hbA hS hin hdg (kk.same hSt hL ⟨zVr_int _ ?_, h1⟩)
          rw [hcl, hxs _ (by omega)]
        · rw [if_neg hz] at h; cases h
      · rw [if_neg hk2] at h; cases h
  all_goals (simp [zald] at h)
theorem zr_ast {t : Nat} {i : Instr} (hi : (t = 20 ∧ i = .iastore) ∨ (t = 21 ∧ i = .lastore) ∨ (t = 22 ∧ i = .bastore) ∨ (t = 23 ∧ i = .aastore)) (hB : zBase s0 a0 D c4 b L xs adK) (hC : zCx p s0 s m meth c y) (hdg : decode (zB y) pc = .ok (i, 1)) (hSt : zSt s0 D c4 b L xs adK s nL ad E σ H locs als ast ls st)
    (h : zast t y pc als ast σ = some (.inl (f', σ'))) (kk : zKn s0 D c4 b L xs adK p l e R s m args below meth c Q nL σ ad cells slots f' σ') : W p l e R s m args below meth c H locs cells slots Q (F0 m pc ls st) := by
  obtain ⟨hx, hb, -, -, hown, -, -, -, hW, -⟩ := id hC
  obtain ⟨hS, hR, hL, hst⟩ := id hSt
  obtain ⟨hP, hD, hCo, h123, -⟩ := id hR
  have hK := hB.2.1.moved hW.alike
  rcases ast with _ | ⟨a, _ | ⟨(z | x | k), _ | ⟨(z2 | x2 | k2), ast1⟩⟩⟩
  · simp [zast] at h
  · simp [zast] at h
  · simp [zast] at h
  · simp [zast] at h
  · simp [zast] at h
  · simp only [zast] at h
    obtain ⟨v, m00, rfl, hvr, hst1⟩ := zSr_c hst
    obtain ⟨iv, m0, rfl, ei, hst2⟩ := zSr_i hst1
    by_cases hk : zkd k2 = t
    · rw [if_pos hk] at h
      by_cases hz : 0 ≤ z ∧ z < (zln k2 : Int)
      · rw [if_pos hz] at h
        have h0 : zkd k2 ≠ 0 := by rcases hi with ⟨q, -⟩ | ⟨q, -⟩ | ⟨q, -⟩ | ⟨q, -⟩ <;> omega
        have hk1 := zkd_in h0 (by rcases hi with ⟨q, -⟩ | ⟨q, -⟩ | ⟨q, -⟩ | ⟨q, -⟩ <;> omega) (by rcases hi with ⟨q, -⟩ | ⟨q, -⟩ | ⟨q, -⟩ | ⟨q, -⟩ <;> omega)
        obtain ⟨m1, rfl, hok, h1⟩ := zSr_r h0 hst2
        have hk2 := zok_in hok hk1
        obtain ⟨co1, co2, co3, co4, -⟩ := hCo k2 hk2.1 hk2.2
        have he := zws_at (ad := ad) (E := E) hk2.1 hk2.2
        obtain ⟨hin, hcl⟩ := zin_vp ei hz
        -- behind the store
        have fin2 : ∀ (σ1 : zW) (x : va_E), gN σ1 = gN σ → (∀ k' j', ¬ (k' = k2 ∧ j' = z.toNat) → gI σ1 k' j' = gI σ k' j' ∧ gL σ1 k' j' = gL σ k' j' ∧ gR σ1 k' j' = gR σ k' j') → gC σ1 = gC σ → gS σ1 = gS σ → zCo c4 ad σ1 k2 x →
            zKn s0 D c4 b L xs adK p l e R s m args below meth c Q nL σ ad cells slots (y, pc + 1, als, ast1) σ1 →
            ∀ (H1 : Heap) (locs1 : List Loc), va_P D zcl ((zws ad E (gN σ)).set (k2 - 1) (ad k2, x)) H1 → va_D (zA s0) ((zws ad E (gN σ)).set (k2 - 1) (ad k2, x)) → va_S (zA s0) s.heap H1 locs1 → W p l e R s m args below meth c H1 locs1 cells slots Q (F0 m (pc + 1) ls m1) := by
          intro σ1 x hN ho hc1 hs1 hco kk1 H1 locs1 hP1 hD1 hS1
          have hR1 := zRel_put hR hk2.1 hk2.2 hN (fun k' j' hne => (ho k' j' (fun q => hne q.1)).1) (fun k' j' hne => (ho k' j' (fun q => hne q.1)).2.1) (fun k' j' hne => (ho k' j' (fun q => hne q.1)).2.2) hP1 hD1 hco
          exact kk1 H1 locs1 ad _ ls m1 cells slots zAg.rf ⟨hS1, hR1, by rw [hN]; exact hL, by rw [hN]; exact h1⟩ (by rw [hc1]) (by rw [hs1])
        rcases hi with ⟨rfl, rfl⟩ | ⟨rfl, rfl⟩ | ⟨rfl, rfl⟩ | ⟨rfl, rfl⟩
        · rcases a with zv | xv | kv
          · simp only [znx] at h
            cases h
            obtain ⟨vv, rfl, ev⟩ := hvr
            obtain ⟨f, hE, hf⟩ := co1 hk
            rw [hE] at he
            refine va_iast hx hb hK hP hD hS (k2 - 1) 0 he rfl hin hdg (fin2 (sI σ k2 z.toNat zv) _ rfl (fun k' j' hne => ⟨by rw [gI_sI, if_neg hne], rfl, rfl⟩) rfl rfl ?_ kk)
            refine ⟨fun _ => ⟨_, rfl, fun j => ?_⟩, fun q => absurd q (by omega), fun q => absurd q (by omega), fun q => absurd q (by omega), fun c2 h6 h7 => absurd h7 (by omega)⟩
            rw [gI_sI, hcl]
            by_cases hj : j = z.toNat
            · subst hj; rw [if_pos ⟨rfl, rfl⟩]; unfold upd; rw [if_pos rfl]; exact ev
            · rw [if_neg (fun q => hj q.2)]; unfold upd; rw [if_neg hj]; exact hf j
          · cases h
          · cases h
        · rcases a with zv | xv | kv
          · cases h
          · simp only [znx] at h
            cases h
            have hv2 : v = .long xv := hvr
            subst hv2
            obtain ⟨f, hE, hf⟩ := co2 hk
            rw [hE] at he
            refine va_last hx hb hK hP hD hS (k2 - 1) 1 he rfl hin hdg (fin2 (sL σ k2 z.toNat xv) _ rfl (fun k' j' hne => ⟨rfl, by rw [gL_sL, if_neg hne], rfl⟩) rfl rfl ?_ kk)
            refine ⟨fun q => absurd q (by omega), fun _ => ⟨_, rfl, fun j => ?_⟩, fun q => absurd q (by omega), fun q => absurd q (by omega), fun c2 h6 h7 => absurd h7 (by omega)⟩
            rw [gL_sL, hcl]
            by_cases hj : j = z.toNat
            · subst hj; rw [if_pos ⟨rfl, rfl⟩]; unfold vp_updL; rw [if_pos rfl]
            · rw [if_neg (fun q => hj q.2)]; unfold vp_updL; rw [if_neg hj]; exact hf j
          · cases h
        · rcases a with zv | xv | kv
          · by_cases hzv : zv = 0 ∨ zv = 1
            · simp only [if_pos hzv, znx] at h
              cases h
              obtain ⟨vv, rfl, ev⟩ := hvr
              have hxv : vp_nar .boolean vv = vv := by
                rcases hzv with hz9 | hz9
                · have : vv = 0 := Int32.toInt_inj.mp (by rw [ev, hz9]; rfl)
                  subst this; rfl
                · have : vv = 1 := Int32.toInt_inj.mp (by rw [ev, hz9]; rfl)
                  subst this; rfl
              obtain ⟨f, hE, hf⟩ := co3 hk
              rw [hE] at he
              refine va_zast hx hb hK hP hD hS (k2 - 1) 2 he rfl hin hdg (fin2 (sI σ k2 z.toNat zv) _ rfl (fun k' j' hne => ⟨by rw [gI_sI, if_neg hne], rfl, rfl⟩) rfl rfl ?_ kk)
              refine ⟨fun q => absurd q (by omega), fun q => absurd q (by omega), fun _ => ⟨_, rfl, fun j => ?_⟩, fun q => absurd q (by omega), fun c2 h6 h7 => absurd h7 (by omega)⟩
              rw [gI_sI, hcl, hxv]
              by_cases hj : j = z.toNat
              · subst hj; rw [if_pos ⟨rfl, rfl⟩]; unfold upd; rw [if_pos rfl]; exact ev
              · rw [if_neg (fun q => hj q.2)]; unfold upd; rw [if_neg hj]; exact hf j
            · simp only [if_neg hzv] at h
              cases h
          · cases h
          · cases h
        · rcases a with zv | xv | kv
          · cases h
          · cases h
          · by_cases hkv : zkd kv = 9
            · simp only [if_pos hkv, znx] at h
              cases h
              have hkv1 := zkd_in (k := kv) (by omega) (by omega) (by omega)
              rcases hvr with ⟨q, -⟩ | ⟨hokv, rfl⟩
              · subst q; exact absurd hkv1.1 (by omega)
              · have hkv2 := zok_in hokv hkv1
                obtain ⟨f, hE, hf⟩ := co4 hk
                rw [hE] at he
                obtain ⟨vs, hEv, -, -⟩ := (hCo kv hkv2.1 hkv2.2).2.2.2.2 8 (by omega) hkv
                have hev := zws_at (ad := ad) (E := E) hkv2.1 hkv2.2
                rw [hEv] at hev
                refine va_astq hx hb hK hP hD hS (k2 - 1) 3 (kv - 1) 8 (r := ("Treegrab$Tree", zT_8, 13)) he rfl hev rfl hin hdg (fin2 (sR σ k2 z.toNat kv) _ rfl (fun k' j' hne => ⟨rfl, rfl, by rw [gR_sR, if_neg hne]⟩) rfl rfl ?_ kk)
                refine ⟨fun q => absurd q (by omega), fun q => absurd q (by omega), fun q => absurd q (by omega), fun _ => ⟨_, rfl, fun j => ?_⟩, fun c2 h6 h7 => absurd h7 (by omega)⟩
                rw [gR_sR, hcl]
                by_cases hj : j = z.toNat
                · subst hj; rw [if_pos ⟨rfl, rfl⟩]; unfold va_up; rw [if_pos rfl]; exact Or.inr ⟨hkv2.1, hkv2.2, rfl⟩
                · rw [if_neg (fun q => hj q.2)]; unfold va_up; rw [if_neg hj]; exact hf j
            · simp only [if_neg hkv] at h
              cases h
      · rw [if_neg hz] at h; cases h
    · rw [if_neg hk] at h; cases h
  all_goals (simp [zast] at h)
theorem zr_len (hB : zBase s0 a0 D c4 b L xs adK) (hC : zCx p s0 s m meth c y) (hdg : decode (zB y) pc = .ok (.arraylength, 1)) (hSt : zSt s0 D c4 b L xs adK s nL ad E σ H locs als ast ls st)
    (h : zlng y pc als ast σ = some (.inl (f', σ'))) (kk : zKn s0 D c4 b L xs adK p l e R s m args below meth c Q nL σ ad cells slots f' σ') : W p l e R s m args below meth c H locs cells slots Q (F0 m pc ls st) := by
  obtain ⟨hx, hb, -, -, hown, -, -, -, hW, -⟩ := id hC
  obtain ⟨hS, hR, hL, hst⟩ := id hSt
  obtain ⟨hP, hD, hCo, -, -, hxs, hxl, hadb, -⟩ := id hR
  have hK := hB.2.1.moved hW.alike
  rcases ast with _ | ⟨(z | x | k), ast1⟩
  · simp [zlng] at h
  · simp [zlng] at h
  · simp [zlng] at h
  · simp only [zlng] at h
    by_cases h25 : zkd k = 25
    · rw [if_pos h25] at h
      simp only [znx] at h
      cases h
      obtain ⟨m1, rfl, hok, h1⟩ := zSr_r (by omega) hst
      have e9 := zkd25 h25
      subst e9
      obtain ⟨hX, hbl, hbA⟩ := zX_at hB hC
      rw [hadb]
      refine va_slen hx hb hX hbl hbA hS hdg (kk.same hSt hL ⟨zVr_int _ ?_, h1⟩)
      rw [hxl]
      exact Int32.toInt_ofNat_small hB.2.2.2.2.1
    · rw [if_neg h25] at h
      by_cases h20 : 20 ≤ zkd k ∧ zkd k ≤ 22
      · rw [if_pos h20] at h
        simp only [znx] at h
        cases h
        have hk1 := zkd_in (k := k) (by omega) (by omega) (by omega)
        obtain ⟨m1, rfl, hok, h1⟩ := zSr_r (by omega) hst
        have hk2 := zok_in hok hk1
        obtain ⟨co1, co2, co3, -, -⟩ := hCo k hk2.1 hk2.2
        have he := zws_at (ad := ad) (E := E) hk2.1 hk2.2
        have hsm := zln_small k (by omega)
        have hv : (Int32.ofNat (zln k)).toInt = (zln k : Int) := Int32.toInt_ofNat_small (by omega)
        rcases (show zkd k = 20 ∨ zkd k = 21 ∨ zkd k = 22 by omega) with q | q | q
        · obtain ⟨f, hE, hf⟩ := co1 q
          rw [hE] at he
          exact va_alen hx hb hK hP (k - 1) 0 he rfl rfl hdg (kk.same hSt hL ⟨zVr_int _ hv, h1⟩)
        · obtain ⟨f, hE, hf⟩ := co2 q
          rw [hE] at he
          exact va_alen hx hb hK hP (k - 1) 1 he rfl rfl hdg (kk.same hSt hL ⟨zVr_int _ hv, h1⟩)
        · obtain ⟨f, hE, hf⟩ := co3 q
          rw [hE] at he
          exact va_alen hx hb hK hP (k - 1) 2 he rfl rfl hdg (kk.same hSt hL ⟨zVr_int _ hv, h1⟩)
      · rw [if_neg h20] at h; cases h
theorem zCo.up {ad' : Nat → Nat} {k n : Nat} {x : va_E} (h : zCo c4 ad σ k x) (hA : zAg (gN σ) ad ad') : zCo c4 ad' (zal σ n) k x := by
  have hn : gN σ ≤ gN (zal σ n) := Nat.le_succ _
  obtain ⟨h1, h2, h3, h4, h5⟩ := h
  refine ⟨fun hk => ?_, fun hk => ?_, fun hk => ?_, fun hk => ?_, fun c2 h6 h7 => ?_⟩
  · obtain ⟨f, e1, e2⟩ := h1 hk; exact ⟨f, e1, e2⟩
  · obtain ⟨f, e1, e2⟩ := h2 hk; exact ⟨f, e1, e2⟩
  · obtain ⟨f, e1, e2⟩ := h3 hk; exact ⟨f, e1, e2⟩
  · obtain ⟨f, e1, e2⟩ := h4 hk; exact ⟨f, e1, fun j => (e2 j).up hA hn⟩
  · obtain ⟨vs, e1, e2, e3⟩ := h5 c2 h6 h7
    refine ⟨vs, e1, e2, fun j hj => ?_⟩
    obtain ⟨v, e4, e5⟩ := e3 j hj
    refine ⟨v, e4, ?_⟩
    have : zrd (zfk c2 j) (zal σ n) k j = zrd (zfk c2 j) σ k j := rfl
    rw [this]; exact e5.up hA hn
/-- the relation behind the making of a cell -/
theorem zRel_new {n q : Nat} {x : va_E} {H1 : Heap} (hR : zRel s0 D c4 b L xs adK ad E σ H) (hlt : gN σ + 1 ≤ 123)
    (hP : va_P D zcl (zws ad E (gN σ) ++ [(q, x)]) H1) (hD : va_D (zA s0) (zws ad E (gN σ) ++ [(q, x)])) (hc : zCo c4 (fun i => if i = gN σ + 1 then q else ad i) (zal σ n) (gN σ + 1) x) :
    zAg (gN σ) ad (fun i => if i = gN σ + 1 then q else ad i) ∧ zRel s0 D c4 b L xs adK (fun i => if i = gN σ + 1 then q else ad i) (fun i => if i = gN σ + 1 then x else E i) (zal σ n) H1 := by
  obtain ⟨-, -, hCo, h123, hz, hs, hl, hb, hK⟩ := hR
  rw [zws_push] at hP hD
  have hA : zAg (gN σ) ad (fun i => if i = gN σ + 1 then q else ad i) := ⟨fun k hk => if_neg (by omega), fun k hk => if_neg (by omega)⟩
  refine ⟨hA, hP, hD, fun k h1 h2 => ?_, hlt, fun k j h1 h2 => hz k j (Nat.lt_of_succ_lt h1) h2, hs, hl, (hA.2 99999 (by omega)).trans hb, fun i hi => (hA.2 _ (by omega)).trans (hK i hi)⟩
  by_cases hk : k = gN σ + 1
  · subst hk; simp only [if_true]; exact hc
  · simp only [if_neg hk]
    have h2 : k ≤ gN σ + 1 := h2
    exact (hCo k h1 (by omega)).up hA
end ZARR
