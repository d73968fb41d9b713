/-! the step: all instructions that go on in the same frame -/
theorem zcall_inl {kd y9 y pc : Nat} {als : List (Option zV)} {ast : List zV} {σ : zW} {w : zF × zW} (h : zcall kd y9 y pc als ast σ = some (.inl w)) : False := by
  unfold zcall at h
  split at h
  · cases h
  · rename_i as rest hp
    cases q : (Nat.beq (zinf y9).2.2.2.2 kd && (Nat.ble (zcat rest) 8 && Nat.ble (zlay as).length (zinf y9).2.2.1)) with
    | false => rw [q] at h; cases h
    | true =>
      rw [q] at h
      simp only [cond_true] at h
      cases q2 : Nat.beq kd 1 with
      | true => rw [q2] at h; cases h
      | false =>
        rw [q2] at h
        simp only [cond_false] at h
        split at h <;> cases h
theorem zlp_pos {x d : Int} {pc : Nat} (hd : zpos pc d = true) : ∀ l : List (Int × Int), (l.all fun q => zpos pc q.2) = true → zpos pc (Op.lookupswitch.offset l d x) = true
  | [], _ => hd
  | q :: l, h => by
    simp only [List.all_cons, Bool.and_eq_true] at h
    have ih := zlp_pos (x := x) hd l h.2
    by_cases hk : q.1 = x
    · have : Op.lookupswitch.offset (q :: l) d x = q.2 := by simp [Op.lookupswitch.offset, hk]
      rw [this]; exact h.1
    · have : Op.lookupswitch.offset (q :: l) d x = Op.lookupswitch.offset l d x := by simp [Op.lookupswitch.offset, hk]
      rw [this]; exact ih
theorem z_i2c {x : Int32} (h0 : 0 ≤ x.toInt) (h1 : x.toInt < 65536) : (x.toUInt32 % 65536).toInt32 = x := by
  have hx : x.toUInt32.toNat = x.toInt.toNat := by
    have h2 : x.toInt = (x.toUInt32.toNat : Int) := by
      have h3 : x.toBitVec.toInt = x.toInt := rfl
      have h4 : x.toUInt32.toNat = x.toBitVec.toNat := rfl
      rw [h4, ← h3]
      rw [← h3] at h0 h1
      rw [BitVec.toInt_eq_toNat_cond] at h0 h1 ⊢
      have := x.toBitVec.isLt
      split at h0 <;> split <;> omega
    omega
  have h5 : x.toUInt32 % 65536 = x.toUInt32 := by
    apply UInt32.toNat_inj.mp
    rw [UInt32.toNat_mod]
    show x.toUInt32.toNat % 65536 = _
    exact Nat.mod_eq_of_lt (by omega)
  rw [h5]
  rfl
section ZSTEP
variable {s0 : State} {a0 : Array Value} {D : va_G} {c4 : zC4} {b L : Nat} {xs : Nat → Int32} {adK : Nat → Nat}
variable {p : Program} {l : Launch} {e : Env} {R : Room} {s : State} {m : MethodId} {args : Array Value} {below : List Frame} {meth : Method} {c : Code} {Q : State → Prop} {y : Nat}
variable {nL pc : Nat} {σ σ' : zW} {ad : Nat → Nat} {E : Nat → va_E} {H : Heap} {locs : List Loc} {cells slots : Nat} {als : List (Option zV)} {ast : List zV} {ls : Array Slot} {st : List Value} {f' : zF}
/-- what is owed for the texts: length and charAt of a literal -/
def zTxt (s0 : State) (D : va_G) (c4 : zC4) (b L : Nat) (xs : Nat → Int32) (adK : Nat → Nat) (p : Program) (l : Launch) (e : Env) (R : Room) (s : State) (m : MethodId) (args : Array Value) (below : List Frame) (meth : Method) (c : Code) (Q : State → Prop) (y : Nat) : Prop :=
  (∀ (n k pc : Nat) (H : Heap) (locs : List Loc) (cells slots : Nat) (ls : Array Slot) (rest : List Value), ls.size = c.maxLocals → va_S (zA s0) s.heap H locs → zmt (zinf y).1 n = some 9002 → zkd k = 31 → decode (zB y) pc = .ok (.invokevirtual n, 3) → (rest.map fun v => v.category).sum ≤ 8 → cells ≤ R.cells → slots ≤ R.slots →
    (∀ (H1 : Heap) (locs1 : List Loc), H1 = H → va_S (zA s0) s.heap H1 locs1 → W p l e R s m args below meth c H1 locs1 cells slots Q (F0 m (pc + 3) ls (.int (Int32.ofNat (ztx k).length) :: rest))) → W p l e R s m args below meth c H locs cells slots Q (F0 m pc ls (.ref (adK (k - 100000)) :: rest))) ∧
  (∀ (n k j pc : Nat) (H : Heap) (locs : List Loc) (cells slots : Nat) (ls : Array Slot) (rest : List Value) (x : Int32), ls.size = c.maxLocals → va_S (zA s0) s.heap H locs → zmt (zinf y).1 n = some 9003 → zkd k = 31 → j < (ztx k).length → x.toInt = (j : Int) → decode (zB y) pc = .ok (.invokevirtual n, 3) → (rest.map fun v => v.category).sum ≤ 8 → cells ≤ R.cells → slots ≤ R.slots →
    (∀ (H1 : Heap) (locs1 : List Loc), H1 = H → va_S (zA s0) s.heap H1 locs1 → W p l e R s m args below meth c H1 locs1 cells slots Q (F0 m (pc + 3) ls (.int (Int32.ofNat (zth 0 (ztx k) j)) :: rest))) → W p l e R s m args below meth c H locs cells slots Q (F0 m pc ls (.int x :: .ref (adK (k - 100000)) :: rest)))
theorem ztx_small : ∀ k, k < 10 → (ztx (100000 + k)).length < 100 ∧ ∀ j, j < (ztx (100000 + k)).length → zth 0 (ztx (100000 + k)) j < 256 := by decide +kernel
theorem zr_inv {n kd : Nat} {i : Instr} (hi : (kd = 0 ∧ i = .invokevirtual n) ∨ (kd = 1 ∧ i = .invokestatic n) ∨ (kd = 2 ∧ i = .invokespecial n)) (hB : zBase s0 a0 D c4 b L xs adK) (hC : zCx p s0 s m meth c y) (hT : zTxt s0 D c4 b L xs adK p l e R s m args below meth c Q y) (hdg : decode (zB y) pc = .ok (i, 3)) (hSt : zSt s0 D c4 b L xs adK s nL ad E σ H locs als ast ls st)
    (hnL : c.maxLocals = nL) (hfr : 20 ≤ R.frames) (hlo : 400 ≤ R.locals) (hce : cells ≤ R.cells) (hsl : slots ≤ R.slots) (h : zinv kd (zmt (zinf y).1 n) y pc als ast σ = some (.inl (f', σ'))) (kk : zKn s0 D c4 b L xs adK p l e R s m args below meth c Q nL σ ad cells slots f' σ') : W p l e R s m args below meth c H locs cells slots Q (F0 m pc ls st) := by
  obtain ⟨hx, hb, -, -, hown, -, -, -, hW, -⟩ := id hC
  obtain ⟨hS, hR, hL, hst⟩ := id hSt
  have hlsz : ls.size = nL := by obtain ⟨-, lv, h9, -⟩ := hL; exact h9.1
  obtain ⟨-, -, -, -, -, -, -, -, hadK⟩ := id hR
  cases hq : zmt (zinf y).1 n with
  | none => rw [hq] at h; simp [zinv] at h
  | some y9 =>
    rw [hq] at h
    obtain ⟨-, hr⟩ := zmt_ok hq
    unfold zinv at h
    simp only at h
    cases hb9 : Nat.ble 9000 y9 with
    | false =>
      rw [hb9] at h
      simp only [cond_false] at h
      exact (zcall_inl h).elim
    | true =>
      rw [hb9] at h
      simp only [cond_true] at h
      have h9000 := Nat.le_of_ble_eq_true hb9
      rcases hr with ⟨h1, -⟩ | ⟨h1, h2, hw⟩
      · omega
      · split at h
        · rename_i k ast1
          cases hkd : (Nat.beq kd 2 && Nat.ble (zcat ast1) 8) with
          | false => rw [hkd] at h; cases h
          | true =>
            rw [hkd] at h
            simp only [cond_true] at h
            simp only [Bool.and_eq_true] at hkd
            have e2 := Nat.eq_of_beq_eq_true hkd.1
            have e3 := Nat.le_of_ble_eq_true hkd.2
            subst e2
            have hii : i = .invokespecial n := by rcases hi with ⟨q, -⟩ | ⟨q, -⟩ | ⟨-, q⟩ <;> first | exact q | omega
            subst hii
            by_cases h0 : zkd k = 0
            · rw [if_pos h0] at h; cases h
            · rw [if_neg h0] at h
              simp only [znx] at h
              cases h
              obtain ⟨m1, rfl, hok, h3⟩ := zSr_r h0 hst
              have hcat := zSr_cat h3
              refine W.objInit hx hb hown (hB.w hW hw rfl) (hB.w hW (zw_in (i := 30) (by decide +kernel)) rfl) (hB.w hW (zw_in (i := 31) (by decide +kernel)) rfl) rfl (by rw [hnL]; exact hlsz) rfl hdg (by omega) ?_ (kk.same hSt hL h3)
              show 2 * 0 + _ + 12 ≤ _
              rw [hcat]; omega
        · rename_i k ast1
          cases hkd : (Nat.beq kd 0 && Nat.ble (zcat ast1) 8) with
          | false => rw [hkd] at h; cases h
          | true =>
            rw [hkd] at h
            simp only [cond_true] at h
            simp only [Bool.and_eq_true] at hkd
            have e2 := Nat.eq_of_beq_eq_true hkd.1
            have e3 := Nat.le_of_ble_eq_true hkd.2
            subst e2
            have hii : i = .invokevirtual n := by rcases hi with ⟨-, q⟩ | ⟨q, -⟩ | ⟨q, -⟩ <;> first | exact q | omega
            subst hii
            by_cases h0 : zkd k = 31
            · rw [if_pos h0] at h
              simp only [znx] at h
              cases h
              obtain ⟨m1, rfl, hok, h3⟩ := zSr_r (by omega) hst
              have hk := zkd31 h0
              have hadk : ad k = adK (k - 100000) := by
                have := hadK (k - 100000) (by omega)
                rw [show 100000 + (k - 100000) = k by omega] at this
                exact this
              have hsm := ztx_small (k - 100000) (by omega)
              rw [show 100000 + (k - 100000) = k by omega] at hsm
              rw [hadk]
              refine hT.1 n k pc H locs cells slots ls m1 (by rw [hnL]; exact hlsz) hS hq h0 hdg (by rw [zSr_cat h3]; exact e3) hce hsl (fun H1 locs1 e1 hS1 => ?_)
              subst e1
              exact kk H1 locs1 ad E ls _ cells slots zAg.rf ⟨hS1, hR, hL, ⟨zVr_int _ (Int32.toInt_ofNat_small (by omega)), h3⟩⟩ rfl rfl
            · rw [if_neg h0] at h; cases h
        · rename_i z k ast1
          cases hkd : (Nat.beq kd 0 && Nat.ble (zcat ast1) 8) with
          | false => rw [hkd] at h; cases h
          | true =>
            rw [hkd] at h
            simp only [cond_true] at h
            simp only [Bool.and_eq_true] at hkd
            have e2 := Nat.eq_of_beq_eq_true hkd.1
            have e3 := Nat.le_of_ble_eq_true hkd.2
            subst e2
            have hii : i = .invokevirtual n := by rcases hi with ⟨-, q⟩ | ⟨q, -⟩ | ⟨q, -⟩ <;> first | exact q | omega
            subst hii
            by_cases h0 : zkd k = 31 ∧ 0 ≤ z ∧ z < ((ztx k).length : Int)
            · rw [if_pos h0] at h
              simp only [znx] at h
              cases h
              obtain ⟨x, m0, rfl, ex, hst1⟩ := zSr_i hst
              obtain ⟨m1, rfl, hok, h3⟩ := zSr_r (by omega) hst1
              have hk := zkd31 h0.1
              have hadk : ad k = adK (k - 100000) := by
                have := hadK (k - 100000) (by omega)
                rw [show 100000 + (k - 100000) = k by omega] at this
                exact this
              have hsm := ztx_small (k - 100000) (by omega)
              rw [show 100000 + (k - 100000) = k by omega] at hsm
              have hlt := hsm.2 z.toNat (by omega)
              rw [hadk]
              refine hT.2 n k z.toNat pc H locs cells slots ls m1 x (by rw [hnL]; exact hlsz) hS hq h0.1 (by omega) (by rw [ex]; omega) hdg (by rw [zSr_cat h3]; exact e3) hce hsl (fun H1 locs1 e1 hS1 => ?_)
              subst e1
              exact kk H1 locs1 ad E ls _ cells slots zAg.rf ⟨hS1, hR, hL, ⟨zVr_int _ (Int32.toInt_ofNat_small (by omega)), h3⟩⟩ rfl rfl
            · rw [if_neg h0] at h; cases h
        · rename_i yz xz ast1
          cases hkd : (Nat.beq kd 1 && Nat.ble (zcat ast1) 8) with
          | false => rw [hkd] at h; cases h
          | true =>
            rw [hkd] at h
            simp only [cond_true, znx] at h
            cases h
            simp only [Bool.and_eq_true] at hkd
            have e2 := Nat.eq_of_beq_eq_true hkd.1
            have e3 := Nat.le_of_ble_eq_true hkd.2
            subst e2
            have hii : i = .invokestatic n := by rcases hi with ⟨q, -⟩ | ⟨-, q⟩ | ⟨q, -⟩ <;> first | exact q | omega
            subst hii
            obtain ⟨yv, m0, rfl, ey, h3⟩ := zSr_i hst
            obtain ⟨xv, m1, rfl, ex, h4⟩ := zSr_i h3
            refine va_mmax hx hb (by rw [hnL]; exact hlsz.symm) hown (hB.w hW hw rfl) (hB.w hW (show Cond.static Lib.Math.max.name ∈ lw_tbl from zw_in (i := 628) (by decide +kernel)) rfl) (hB.w hW (show Cond.initialized "java/lang/Math" ∈ lw_tbl from zw_in (i := 15) (by decide +kernel)) rfl) (hB.w hW (show Cond.code Lib.Math.max.name Lib.Math.max.code 2 (some .int) ∈ lw_tbl from zw_in (i := 629) (by decide +kernel)) rfl) (by omega) (by rw [zSr_cat h4]; omega) hce hsl hdg (kk.same hSt hL ⟨zVr_int _ ?_, h4⟩)
            by_cases hlt : xv < yv
            · rw [if_pos hlt, if_pos ((z2_lt ex ey).mp hlt)]; exact ey
            · rw [if_neg hlt, if_neg (fun q => hlt ((z2_lt ex ey).mpr q))]; exact ex
        · rename_i yz xz ast1
          cases hkd : (Nat.beq kd 1 && Nat.ble (zcat ast1) 8) with
          | false => rw [hkd] at h; cases h
          | true =>
            rw [hkd] at h
            simp only [cond_true, znx] at h
            cases h
            simp only [Bool.and_eq_true] at hkd
            have e2 := Nat.eq_of_beq_eq_true hkd.1
            have e3 := Nat.le_of_ble_eq_true hkd.2
            subst e2
            have hii : i = .invokestatic n := by rcases hi with ⟨q, -⟩ | ⟨-, q⟩ | ⟨q, -⟩ <;> first | exact q | omega
            subst hii
            obtain ⟨yv, m0, rfl, ey, h3⟩ := zSr_i hst
            obtain ⟨xv, m1, rfl, ex, h4⟩ := zSr_i h3
            refine va_mmin hx hb (by rw [hnL]; exact hlsz.symm) hown (hB.w hW hw rfl) (hB.w hW (show Cond.static Lib.Math.min.name ∈ lw_tbl from zw_in (i := 835) (by decide +kernel)) rfl) (hB.w hW (show Cond.initialized "java/lang/Math" ∈ lw_tbl from zw_in (i := 15) (by decide +kernel)) rfl) (hB.w hW (show Cond.code Lib.Math.min.name Lib.Math.min.code 2 (some .int) ∈ lw_tbl from zw_in (i := 836) (by decide +kernel)) rfl) (by omega) (by rw [zSr_cat h4]; omega) hce hsl hdg (kk.same hSt hL ⟨zVr_int _ ?_, h4⟩)
            by_cases hlt : yv < xv
            · rw [if_pos hlt, if_pos ((z2_lt ey ex).mp hlt)]; exact ey
            · rw [if_neg hlt, if_neg (fun q => hlt ((z2_lt ey ex).mpr q))]; exact ex
        · cases h
theorem z_next {i : Instr} {len : Nat} (hB : zBase s0 a0 D c4 b L xs adK) (hC : zCx p s0 s m meth c y) (hT : zTxt s0 D c4 b L xs adK p l e R s m args below meth c Q y) (hdg : decode (zB y) pc = .ok (i, len)) (hlen : (Nat.beq (zil i) 0 || Nat.beq (zil i) len) = true) (hSt : zSt s0 D c4 b L xs adK s nL ad E σ H locs als ast ls st)
    (hnL : c.maxLocals = nL) (hfr : 20 ≤ R.frames) (hlo : 400 ≤ R.locals) (hce : cells ≤ R.cells) (hsl : slots ≤ R.slots) (hrc : cells + gC σ' ≤ R.cells + gC σ) (hrs : slots + gS σ' ≤ R.slots + gS σ) (h : zexec false i len y pc als ast σ = some (.inl (f', σ'))) (kk : zKn s0 D c4 b L xs adK p l e R s m args below meth c Q nL σ ad cells slots f' σ') : W p l e R s m args below meth c H locs cells slots Q (F0 m pc ls st) := by
  obtain ⟨hx, hb, -, -, hown, -, -, -, hW, -⟩ := id hC
  obtain ⟨hS, hR, hL, hst⟩ := id hSt
  cases i <;> first | (simp only [zexec] at h; cases h; done) | (simp only [zexec] at h)
  case iconst z =>
    obtain rfl := zil_eq hlen rfl
    cases hz : zin 128 z with
    | false => rw [hz] at h; cases h
    | true =>
      rw [hz] at h
      simp only [cond_true] at h
      have hz2 := zin_b hz
      exact zr_const (x := Int32.ofInt z) (fun k => lv_iconst hx hb hdg rfl k) (by rw [z_ofInt]; exact zw_id (by omega) (by omega)) hSt h kk
  case bipush z =>
    obtain rfl := zil_eq hlen rfl
    cases hz : zin 128 z with
    | false => rw [hz] at h; cases h
    | true =>
      rw [hz] at h
      simp only [cond_true] at h
      have hz2 := zin_b hz
      exact zr_const (x := (Int8.ofInt z).toInt32) (fun k => lv_bipush hx hb hdg rfl k) (by rw [Int8.toInt_toInt32, Int8.toInt_ofInt]; unfold Int.bmod; simp only [show ((2 ^ 8 : Nat) : Int) = 256 by decide]; split <;> omega) hSt h kk
  case sipush z =>
    obtain rfl := zil_eq hlen rfl
    cases hz : zin 32768 z with
    | false => rw [hz] at h; cases h
    | true =>
      rw [hz] at h
      simp only [cond_true] at h
      have hz2 := zin_b hz
      exact zr_const (x := (Int16.ofInt z).toInt32) (fun k => lv_sipush hx hb hdg rfl k) (by rw [Int16.toInt_toInt32, Int16.toInt_ofInt]; unfold Int.bmod; simp only [show ((2 ^ 16 : Nat) : Int) = 65536 by decide]; split <;> omega) hSt h kk
  case lconst n =>
    obtain rfl := zil_eq hlen rfl
    exact zr_lconst (fun k => lv_lconst hx hb hdg (by match n with | 0 => rfl | 1 => rfl) k) hSt h kk
  case ldc n =>
    obtain rfl := zil_eq hlen rfl
    cases hq : zst (zinf y).1 n with
    | none =>
      rw [hq] at h
      simp only at h
      cases hq2 : zit (zinf y).1 n with
      | none => rw [hq2] at h; cases h
      | some z =>
        rw [hq2] at h
        have hz := zit_ok hq2
        exact zr_const (fun k => lv_ldc hx hb hown (hB.w hW hz.1 rfl) hdg k) hz.2 hSt h kk
    | some k =>
      rw [hq] at h
      simp only [znx] at h
      cases h
      obtain ⟨hk, tx, hv⟩ := hB.2.2.2.2.2 _ n k hq
      obtain ⟨-, -, -, -, -, -, -, -, hadK⟩ := id hR
      refine va_ldcS hx hb hown (vk_R.warm hW hv) hdg (kk.same hSt hL ⟨Or.inr ⟨Or.inr (Or.inr ⟨by omega, by omega⟩), ?_⟩, hst⟩)
      rw [hadK k hk]
  case ldc_w n =>
    obtain rfl := zil_eq hlen rfl
    cases hq : zit (zinf y).1 n with
    | none => rw [hq] at h; cases h
    | some z =>
      rw [hq] at h
      have hz := zit_ok hq
      exact zr_const (fun k => lv_ldcw hx hb hown (hB.w hW hz.1 rfl) hdg k) hz.2 hSt h kk
  case ldc2_w n =>
    obtain rfl := zil_eq hlen rfl
    cases hq : zlt (zinf y).1 n with
    | none => rw [hq] at h; cases h
    | some x =>
      rw [hq] at h
      exact zr_lconst (fun k => lv_ldc2 hx hb hown (hB.w hW (zlt_ok hq) rfl) hdg k) hSt h kk
  case iload_n k =>
    obtain rfl := zil_eq hlen rfl
    exact zr_ldi (fun x h1 k2 => lv_iload_n hx hb hdg rfl h1 k2) hSt h kk
  case iload k =>
    obtain rfl := zil_eq hlen rfl
    exact zr_ldi (fun x h1 k2 => lv_iload hx hb hdg h1 k2) hSt h kk
  case lload_n k =>
    obtain rfl := zil_eq hlen rfl
    exact zr_ldl (fun x h1 k2 => lv_lload_n hx hb hdg rfl h1 k2) hSt h kk
  case lload k =>
    obtain rfl := zil_eq hlen rfl
    exact zr_ldl (fun x h1 k2 => lv_lload hx hb hdg h1 k2) hSt h kk
  case aload_n k =>
    obtain rfl := zil_eq hlen rfl
    exact zr_ldr (fun x h1 k2 => lv_aload_n hx hb hdg rfl h1 k2) (fun h1 k2 => lv_aload_nN hx hb hdg rfl h1 k2) hSt h kk
  case aload k =>
    obtain rfl := zil_eq hlen rfl
    exact zr_ldr (fun x h1 k2 => lv_aload hx hb hdg h1 k2) (fun h1 k2 => lv_aloadN hx hb hdg h1 k2) hSt h kk
  case istore_n k =>
    obtain rfl := zil_eq hlen rfl
    exact zr_sti (fun x rest lv h1 h2 k2 => lv_istore_n hx hb hdg rfl h2 h1 rfl k2) hSt h kk
  case istore k =>
    obtain rfl := zil_eq hlen rfl
    exact zr_sti (fun x rest lv h1 h2 k2 => lv_istore hx hb hdg h2 h1 rfl k2) hSt h kk
  case lstore_n k =>
    obtain rfl := zil_eq hlen rfl
    exact zr_stl (fun x rest lv h1 h2 k2 => lv_lstore_n hx hb hdg rfl h2 h1 rfl k2) hSt h kk
  case lstore k =>
    obtain rfl := zil_eq hlen rfl
    exact zr_stl (fun x rest lv h1 h2 k2 => lv_lstore hx hb hdg h2 h1 rfl k2) hSt h kk
  case astore_n k =>
    obtain rfl := zil_eq hlen rfl
    exact zr_str (fun x rest lv h1 h2 k2 => lv_astore_n hx hb hdg rfl h2 h1 rfl k2) (fun rest lv h1 h2 k2 => lv_astore_nN hx hb hdg rfl h2 h1 rfl k2) hSt h kk
  case astore k =>
    obtain rfl := zil_eq hlen rfl
    exact zr_str (fun x rest lv h1 h2 k2 => lv_astore hx hb hdg h2 h1 rfl k2) (fun rest lv h1 h2 k2 => lv_astoreN hx hb hdg h2 h1 rfl k2) hSt h kk
  case iinc k c9 =>
    obtain rfl := zil_eq hlen rfl
    split at h
    · rename_i z hz
      cases hb9 : (zin 32768 c9 && Nat.blt k als.length) with
      | false => rw [hb9] at h; cases h
      | true =>
        rw [hb9] at h
        simp only [cond_true, znx] at h
        cases h
        simp only [Bool.and_eq_true, Nat.blt_eq] at hb9
        obtain ⟨hlen9, lv, hlv, h3⟩ := id hL
        obtain ⟨v, hv, x, rfl, ex⟩ := h3 k _ hz
        obtain ⟨j, hj⟩ := List.getElem?_of_mem hv
        have hc9 := zin_b hb9.1
        refine lv_iinc hx hb hdg hlv hj rfl (by rw [← hlen9]; exact hb9.2) rfl (fun ls1 h4 => kk.same hSt (zLr.st1 hlen9 h3 (fun a ha => ?_) h4) hst)
        cases ha
        exact zVr_int _ (by rw [z_add, ex, z_ofInt, zw_id (z := c9) (by omega) (by omega)])
    · cases h
  case iadd =>
    obtain rfl := zil_eq hlen rfl
    exact zr_bin (fun x y => x + y) z_add (fun x y rest k => lv_iadd hx hb hdg k) hSt h kk
  case isub =>
    obtain rfl := zil_eq hlen rfl
    exact zr_bin (fun x y => x - y) z_sub (fun x y rest k => lv_isub hx hb hdg k) hSt h kk
  case imul =>
    obtain rfl := zil_eq hlen rfl
    exact zr_bin (fun x y => x * y) z_mul (fun x y rest k => lv_imul hx hb hdg k) hSt h kk
  case iand =>
    obtain rfl := zil_eq hlen rfl
    exact zr_bin (fun x y => x &&& y) (fun x y => zl_and) (fun x y rest k => lv_iand hx hb hdg k) hSt h kk
  case ior =>
    obtain rfl := zil_eq hlen rfl
    exact zr_bin (fun x y => x ||| y) (fun x y => zl_or) (fun x y rest k => lv_ior hx hb hdg k) hSt h kk
  case ixor =>
    obtain rfl := zil_eq hlen rfl
    exact zr_bin (fun x y => x ^^^ y) (fun x y => zl_xor) (fun x y rest k => lv_ixor hx hb hdg k) hSt h kk
  case ishl =>
    obtain rfl := zil_eq hlen rfl
    exact zr_bin (fun x y => x <<< (y &&& 31)) (fun x y => zl_shl) (fun x y rest k => lv_ishl hx hb hdg k) hSt h kk
  case ishr =>
    obtain rfl := zil_eq hlen rfl
    exact zr_bin (fun x y => x >>> (y &&& 31)) (fun x y => zl_shr) (fun x y rest k => lv_ishr hx hb hdg k) hSt h kk
  case iushr =>
    obtain rfl := zil_eq hlen rfl
    exact zr_bin (fun x y => (x.toUInt32 >>> (y.toUInt32 &&& Int32.toUInt32 31)).toInt32) (fun x y => zl_ushr) (fun x y rest k => lv_iushr hx hb hdg rfl k) hSt h kk
  case idiv =>
    obtain rfl := zil_eq hlen rfl
    split at h
    · rename_i yz xz ast1
      by_cases h0 : yz = 0
      · rw [if_pos h0] at h; cases h
      · rw [if_neg h0] at h
        simp only [znx] at h
        cases h
        obtain ⟨yv, m0, rfl, ey, h3⟩ := zSr_i hst
        obtain ⟨xv, m1, rfl, ex, h4⟩ := zSr_i h3
        refine lv_idiv hx hb hdg (fun q => h0 ((z0_eq ey).mp q)) (kk.same hSt hL ⟨zVr_int _ ?_, h4⟩)
        unfold zdiv
        rw [← ex, ← ey, z_of, z_of]
    · cases h
  case irem =>
    obtain rfl := zil_eq hlen rfl
    split at h
    · rename_i yz xz ast1
      by_cases h0 : yz = 0
      · rw [if_pos h0] at h; cases h
      · rw [if_neg h0] at h
        simp only [znx] at h
        cases h
        obtain ⟨yv, m0, rfl, ey, h3⟩ := zSr_i hst
        obtain ⟨xv, m1, rfl, ex, h4⟩ := zSr_i h3
        refine lv_irem hx hb hdg (fun q => h0 ((z0_eq ey).mp q)) (kk.same hSt hL ⟨zVr_int _ ?_, h4⟩)
        unfold zrem
        rw [← ex, ← ey, z_of, z_of]
    · cases h
  case ineg =>
    obtain rfl := zil_eq hlen rfl
    split at h
    · simp only [znx] at h
      cases h
      obtain ⟨xv, m1, rfl, ex, h4⟩ := zSr_i hst
      exact lv_ineg hx hb hdg (kk.same hSt hL ⟨zVr_int _ (by rw [z_neg, ex]), h4⟩)
    · cases h
  case ladd =>
    obtain rfl := zil_eq hlen rfl
    exact zr_lbin (fun x y rest k => lv_ladd hx hb hdg k) hSt h kk
  case lsub =>
    obtain rfl := zil_eq hlen rfl
    exact zr_lbin (fun x y rest k => lv_lsub hx hb hdg k) hSt h kk
  case lmul =>
    obtain rfl := zil_eq hlen rfl
    exact zr_lbin (fun x y rest k => lv_lmul hx hb hdg k) hSt h kk
  case land =>
    obtain rfl := zil_eq hlen rfl
    exact zr_lbin (fun x y rest k => lv_land hx hb hdg k) hSt h kk
  case lor =>
    obtain rfl := zil_eq hlen rfl
    exact zr_lbin (fun x y rest k => lv_lor hx hb hdg k) hSt h kk
  case lshl =>
    obtain rfl := zil_eq hlen rfl
    exact zr_lsh (fun x y => x <<< (y.toInt64 &&& 63)) (fun x y => by unfold zlshl; rw [z_of]) (fun x y rest k => lv_lshl hx hb hdg rfl k) hSt h kk
  case lshr =>
    obtain rfl := zil_eq hlen rfl
    exact zr_lsh (fun x y => x >>> (y.toInt64 &&& 63)) (fun x y => by unfold zlshr; rw [z_of]) (fun x y rest k => lv_lshr hx hb hdg rfl k) hSt h kk
  case lushr =>
    obtain rfl := zil_eq hlen rfl
    exact zr_lsh (fun x y => (x.toUInt64 >>> (y.toInt64.toUInt64 &&& Int64.toUInt64 63)).toInt64) (fun x y => by unfold zlushr; rw [z_of]) (fun x y rest k => lv_lushr hx hb hdg rfl k) hSt h kk
  case i2l =>
    obtain rfl := zil_eq hlen rfl
    split at h
    · simp only [znx] at h
      cases h
      obtain ⟨xv, m1, rfl, ex, h4⟩ := zSr_i hst
      refine lv_i2l hx hb hdg rfl (kk.same hSt hL ⟨?_, h4⟩)
      rw [z_i2l, ex]
      exact zVr_long _
    · cases h
  case i2c =>
    obtain rfl := zil_eq hlen rfl
    split at h
    · rename_i x9 st9
      by_cases hx9 : 0 ≤ x9 ∧ x9 < 65536
      · rw [if_pos hx9] at h
        simp only [znx] at h
        cases h
        obtain ⟨xv, m1, rfl, ex, h4⟩ := zSr_i hst
        exact lv_i2c hx hb hdg (z_i2c (by rw [ex]; exact hx9.1) (by rw [ex]; exact hx9.2)) (kk.same hSt hL ⟨zVr_int _ ex, h4⟩)
      · rw [if_neg hx9] at h; cases h
    · cases h
  case l2i =>
    obtain rfl := zil_eq hlen rfl
    split at h
    · simp only [znx] at h
      cases h
      obtain ⟨m1, rfl, h4⟩ := zSr_l hst
      exact lv_l2i hx hb hdg rfl (kk.same hSt hL ⟨zVr_int _ rfl, h4⟩)
    · cases h
  case lcmp =>
    obtain rfl := zil_eq hlen rfl
    split at h
    · simp only [znx] at h
      cases h
      obtain ⟨m0, rfl, h3⟩ := zSr_l hst
      obtain ⟨m1, rfl, h4⟩ := zSr_l h3
      exact W.lcmp hx hb hdg (kk.same hSt hL ⟨zVr_int _ (z_lcmp _ _), h4⟩)
    · cases h
  case dup =>
    obtain rfl := zil_eq hlen rfl
    rcases ast with _ | ⟨(z | x | k), ast1⟩
    · simp at h
    · simp only [znx] at h
      cases h
      obtain ⟨v, m1, rfl, hv, h4⟩ := zSr_c hst
      exact lv_dup hx hb hdg (zVr_cat hv) (kk.same hSt hL ⟨hv, hv, h4⟩)
    · simp at h
    · simp only [znx] at h
      cases h
      obtain ⟨v, m1, rfl, hv, h4⟩ := zSr_c hst
      exact lv_dup hx hb hdg (zVr_cat hv) (kk.same hSt hL ⟨hv, hv, h4⟩)
  case pop =>
    obtain rfl := zil_eq hlen rfl
    rcases ast with _ | ⟨(z | x | k), ast1⟩
    · simp at h
    · simp only [znx] at h
      cases h
      obtain ⟨v, m1, rfl, hv, h4⟩ := zSr_c hst
      exact lv_pop hx hb hdg (zVr_cat hv) (kk.same hSt hL h4)
    · simp at h
    · simp only [znx] at h
      cases h
      obtain ⟨v, m1, rfl, hv, h4⟩ := zSr_c hst
      exact lv_pop hx hb hdg (zVr_cat hv) (kk.same hSt hL h4)
  case dup2 =>
    obtain rfl := zil_eq hlen rfl
    split at h
    · simp only [znx] at h
      cases h
      obtain ⟨v, m1, rfl, hv, h4⟩ := zSr_c hst
      exact lv_dup2_2 hx hb hdg (zVr_cat hv) (kk.same hSt hL ⟨hv, hv, h4⟩)
    · cases h
    · rename_i v9 w9 ast1 hn1 hn2
      simp only [znx] at h
      cases h
      obtain ⟨v, m0, rfl, hv, h3⟩ := zSr_c hst
      obtain ⟨w, m1, rfl, hw, h4⟩ := zSr_c h3
      have c1 : v.category = 1 := by
        rw [zVr_cat hv]
        match v9, hn1 with
        | .inl _, _ => rfl
        | .inr (.inl x), hn1 => exact (hn1 x rfl).elim
        | .inr (.inr _), _ => rfl
      have c2 : w.category = 1 := by
        rw [zVr_cat hw]
        match w9, hn2 with
        | .inl _, _ => rfl
        | .inr (.inl x), hn2 => exact (hn2 x rfl).elim
        | .inr (.inr _), _ => rfl
      exact lv_dup2_11 hx hb hdg c1 c2 (kk.same hSt hL ⟨hv, hw, hv, hw, h4⟩)
    · cases h
  case ifCond c9 off =>
    obtain rfl := zil_eq hlen rfl
    split at h
    · obtain ⟨xv, m1, rfl, ex, h4⟩ := zSr_i hst
      cases c9 <;> simp only [zbr] at h
      case eq => exact zr_if (z0_eq ex) (fun tgt ht kt kf => lv_if_eq hx hb hdg ht kt kf) hSt h4 h kk
      case ne => exact zr_if ((not_congr (z0_eq ex))) (fun tgt ht kt kf => lv_if_ne hx hb hdg ht kt (fun q => kf (fun h => h q))) hSt h4 h kk
      case lt => exact zr_if (z2_lt ex z_0) (fun tgt ht kt kf => lv_if_lt hx hb hdg ht kt kf) hSt h4 h kk
      case ge => exact zr_if (z2_le z_0 ex) (fun tgt ht kt kf => lv_if_ge hx hb hdg ht kt kf) hSt h4 h kk
      case gt => exact zr_if (z2_lt z_0 ex) (fun tgt ht kt kf => lv_if_gt hx hb hdg ht kt kf) hSt h4 h kk
      case le => exact zr_if (z2_le ex z_0) (fun tgt ht kt kf => lv_if_le hx hb hdg ht kt kf) hSt h4 h kk
    · cases h
  case if_icmp c9 off =>
    obtain rfl := zil_eq hlen rfl
    split at h
    · obtain ⟨yv, m0, rfl, ey, h3⟩ := zSr_i hst
      obtain ⟨xv, m1, rfl, ex, h4⟩ := zSr_i h3
      cases c9 <;> simp only [zbr] at h
      case eq => exact zr_if (z2_eq ex ey) (fun tgt ht kt kf => lv_icmp_eq hx hb hdg ht kt kf) hSt h4 h kk
      case ne => exact zr_if ((not_congr (z2_eq ex ey))) (fun tgt ht kt kf => lv_icmp_ne hx hb hdg ht kt (fun q => kf (fun h => h q))) hSt h4 h kk
      case lt => exact zr_if (z2_lt ex ey) (fun tgt ht kt kf => lv_icmp_lt hx hb hdg ht kt kf) hSt h4 h kk
      case ge => exact zr_if (z2_le ey ex) (fun tgt ht kt kf => lv_icmp_ge hx hb hdg ht kt kf) hSt h4 h kk
      case gt => exact zr_if (z2_lt ey ex) (fun tgt ht kt kf => lv_icmp_gt hx hb hdg ht kt kf) hSt h4 h kk
      case le => exact zr_if (z2_le ex ey) (fun tgt ht kt kf => lv_icmp_le hx hb hdg ht kt kf) hSt h4 h kk
    · cases h
  case goto off =>
    obtain rfl := zil_eq hlen rfl
    split at h
    · rename_i t ht
      simp only [znx] at h
      cases h
      exact lv_goto hx hb hdg ht (kk.same hSt hL hst)
    · cases h
  case tableswitch d lo hi offs =>
    split at h
    · rename_i xz ast1
      cases hb9 : (zpos pc d && (offs.toList.all (zpos pc) && decide (hi = lo + (offs.toList.length : Int) - 1))) with
      | false => rw [hb9] at h; cases h
      | true =>
        rw [hb9] at h
        simp only [cond_true, znx] at h
        cases h
        simp only [Bool.and_eq_true, decide_eq_true_eq] at hb9
        obtain ⟨b1, b2, b3⟩ := hb9
        obtain ⟨xv, m1, rfl, ex, h4⟩ := zSr_i hst
        have ht := ztb_at (x := xz) (lo := lo) (d := d) (pc := pc) offs.toList lo
        by_cases hr : lo ≤ xz ∧ xz < lo + (offs.toList.length : Int)
        · obtain ⟨o, h5, h6⟩ := ht.1 hr
          have h7 : zpos pc o = true := List.all_eq_true.mp b2 o (List.mem_of_getElem? h5)
          have k2 := kk.same hSt hL h4
          rw [h6] at k2
          exact lv_tableIn hx hb hdg (by rw [ex]; omega) (by rw [ex]; omega) (by rw [ex, ← Array.getElem?_toList]; exact h5) (zpos_t h7) k2
        · have k2 := kk.same hSt hL h4
          rw [ht.2 hr] at k2
          exact lv_tableOut hx hb hdg (by rw [ex]; omega) (zpos_t b1) k2
    · cases h
  case lookupswitch d ps =>
    split at h
    · rename_i xz ast1
      cases hb9 : (zpos pc d && ((ps.toList.all fun q => zpos pc q.snd) && (ps.toList.zip (List.drop 1 ps.toList)).all fun x => decide (x.fst.fst < x.snd.fst))) with
      | false => rw [hb9] at h; cases h
      | true =>
        rw [hb9] at h
        simp only [cond_true, znx] at h
        cases h
        simp only [Bool.and_eq_true] at hb9
        obtain ⟨b1, b2, b3⟩ := hb9
        obtain ⟨xv, m1, rfl, ex, h4⟩ := zSr_i hst
        have k2 := kk.same hSt hL h4
        rw [zlp_at] at k2
        exact lv_lookup hx hb hdg b3 (by rw [ex]) (zpos_t (zlp_pos b1 _ b2)) k2
    · cases h
  case getfield n =>
    obtain rfl := zil_eq hlen rfl
    exact zr_getf hB hC hdg hSt h kk
  case putfield n =>
    obtain rfl := zil_eq hlen rfl
    exact zr_putf hB hC hdg hSt h kk
  case iaload =>
    obtain rfl := zil_eq hlen rfl
    exact zr_ald (Or.inl ⟨rfl, rfl⟩) hB hC hdg hSt h kk
  case iastore =>
    obtain rfl := zil_eq hlen rfl
    exact zr_ast (Or.inl ⟨rfl, rfl⟩) hB hC hdg hSt h kk
  case laload =>
    obtain rfl := zil_eq hlen rfl
    exact zr_ald (Or.inr (Or.inl ⟨rfl, rfl⟩)) hB hC hdg hSt h kk
  case lastore =>
    obtain rfl := zil_eq hlen rfl
    exact zr_ast (Or.inr (Or.inl ⟨rfl, rfl⟩)) hB hC hdg hSt h kk
  case baload =>
    obtain rfl := zil_eq hlen rfl
    exact zr_ald (Or.inr (Or.inr (Or.inl ⟨rfl, rfl⟩))) hB hC hdg hSt h kk
  case bastore =>
    obtain rfl := zil_eq hlen rfl
    exact zr_ast (Or.inr (Or.inr (Or.inl ⟨rfl, rfl⟩))) hB hC hdg hSt h kk
  case aaload =>
    obtain rfl := zil_eq hlen rfl
    exact zr_ald (Or.inr (Or.inr (Or.inr ⟨rfl, rfl⟩))) hB hC hdg hSt h kk
  case aastore =>
    obtain rfl := zil_eq hlen rfl
    exact zr_ast (Or.inr (Or.inr (Or.inr ⟨rfl, rfl⟩))) hB hC hdg hSt h kk
  case arraylength =>
    obtain rfl := zil_eq hlen rfl
    exact zr_len hB hC hdg hSt h kk
  case new n =>
    obtain rfl := zil_eq hlen rfl
    split at h
    · cases h9 : Nat.ble (zcat ast) 8 with
      | false => rw [h9] at h; cases h
      | true => rw [h9] at h; cases h
    · split at h
      · rename_i ci hci
        exact zr_new hB hC hdg hSt hci h hrc hrs kk
      · cases h
  case newarray t =>
    obtain rfl := zil_eq hlen rfl
    cases t <;> simp only at h
    case int => exact zr_newa (Or.inl ⟨rfl, rfl⟩) hB hC hdg hSt h hrc hrs kk
    case long => exact zr_newa (Or.inr (Or.inl ⟨rfl, rfl⟩)) hB hC hdg hSt h hrc hrs kk
    case boolean => exact zr_newa (Or.inr (Or.inr ⟨rfl, rfl⟩)) hB hC hdg hSt h hrc hrs kk
    all_goals (cases h)
  case anewarray n =>
    obtain rfl := zil_eq hlen rfl
    split at h
    · rename_i ci hci
      cases h9 : Nat.beq ci 8 with
      | false => rw [h9] at h; cases h
      | true =>
        rw [h9] at h
        simp only [cond_true] at h
        have := Nat.eq_of_beq_eq_true h9
        subst this
        exact zr_newq hB hC hdg hSt hci h hrc hrs kk
    · cases h
  case invokevirtual n =>
    obtain rfl := zil_eq hlen rfl
    exact zr_inv (Or.inl ⟨rfl, rfl⟩) hB hC hT hdg hSt hnL hfr hlo hce hsl h kk
  case invokestatic n =>
    obtain rfl := zil_eq hlen rfl
    exact zr_inv (Or.inr (Or.inl ⟨rfl, rfl⟩)) hB hC hT hdg hSt hnL hfr hlo hce hsl h kk
  case invokespecial n =>
    obtain rfl := zil_eq hlen rfl
    exact zr_inv (Or.inr (Or.inr ⟨rfl, rfl⟩)) hB hC hT hdg hSt hnL hfr hlo hce hsl h kk
  case ireturn =>
    split at h
    · split at h
      · cases h
      · split at h <;> cases h
      · split at h <;> cases h
      · cases h
    · cases h
  case lreturn =>
    split at h
    · cases h9 : Nat.beq (zinf y).2.2.2.1 3 with
      | false => rw [h9] at h; cases h
      | true => rw [h9] at h; cases h
    · cases h
  case return_ =>
    split at h
    · cases h9 : Nat.beq (zinf y).2.2.2.1 0 with
      | false => rw [h9] at h; cases h
      | true => rw [h9] at h; cases h
    · cases h
end ZSTEP
