/-! the walk: by induction on the fuel -/
theorem zRm_f {d mc ms : Nat} : (zRm d mc ms).frames = d + 20 := rfl
theorem zRm_l {d mc ms : Nat} : (zRm d mc ms).locals = 64 * d + 400 := rfl
set_option maxRecDepth 100000 in
theorem z_room {z d RL : Nat} (h : z ≤ 40) (h2 : 64 * (d + 1) + 400 ≤ RL) : 8 + (z + 11) + (64 * d + 400) ≤ RL := by omega
theorem z_n16 {x : Int32} (h0 : 0 ≤ x.toInt) (h1 : x.toInt < 65536) : x.toUInt32.toUInt16.toUInt32.toInt32 = x := by
  have h := z_i2c h0 h1
  have e : x.toUInt32.toUInt16.toUInt32 = x.toUInt32 % 65536 := by
    apply UInt32.toNat_inj.mp
    rw [UInt16.toNat_toUInt32, UInt32.toNat_toUInt16, UInt32.toNat_mod]
    rfl
  rw [e]; exact h
section ZWALK
variable {s0 : State} {a0 : Array Value} {D : va_G} {c4 : zC4} {b L : Nat} {xs : Nat → Int32} {adK : Nat → Nat} {l : Launch}
/-- what is owed for the texts, wherever a method stands -/
def zTx (s0 : State) (D : va_G) (c4 : zC4) (b L : Nat) (xs : Nat → Int32) (adK : Nat → Nat) (l : Launch) : Prop :=
  ∀ (p : Program) (e : Env) (R : Room) (s : State) (m : MethodId) (args : Array Value) (below : List Frame) (meth : Method) (c : Code) (Q : State → Prop) (y : Nat), zCx p s0 s m meth c y → 20 ≤ R.frames → 400 ≤ R.locals → zTxt s0 D c4 b L xs adK p l e R s m args below meth c Q y
theorem zhf_no {k p : Nat} : ∀ {l : List (Nat × Nat × Nat × Nat × Nat × Nat)}, zhf k p l = none → ∀ a ∈ l, ¬ (a.1 ≤ p ∧ p < a.2.1 ∧ a.2.2.2.1 = k)
  | [], _, a, h => by cases h
  | q :: l, h, a, ha => by
    obtain ⟨a1, a2, a3, a4, a5, a6⟩ := q
    rw [zhf] at h
    cases hb : (Nat.ble a1 p && (Nat.blt p a2 && Nat.beq a4 k)) with
    | true => rw [hb] at h; cases h
    | false =>
      rw [hb] at h
      rcases List.mem_cons.mp ha with rfl | ha
      · rintro ⟨h1, h2, h3⟩
        have : (Nat.ble a1 p && (Nat.blt p a2 && Nat.beq a4 k)) = true := by
          simp only [Bool.and_eq_true, Nat.blt_eq]
          exact ⟨Nat.ble_eq.mpr h1, h2, by have h3 : a4 = k := h3; rw [h3]; exact Nat.beq_refl k⟩
        rw [hb] at this
        cases this
      · exact zhf_no h a ha
theorem zhf_yes {k p t i : Nat} : ∀ {l : List (Nat × Nat × Nat × Nat × Nat × Nat × Nat)}, zhf k p (l.map (fun a => (a.1, a.2.1, a.2.2.1, a.2.2.2.1, a.2.2.2.2.1, a.2.2.2.2.2.1))) = some (t, i) → ∃ (pre suf : List (Nat × Nat × Nat × Nat × Nat × Nat × Nat)) (a : Nat × Nat × Nat × Nat × Nat × Nat × Nat), l = pre ++ a :: suf ∧ a.1 ≤ p ∧ p < a.2.1 ∧ a.2.2.2.1 = k ∧ a.2.2.2.2.1 = t ∧ a.2.2.2.2.2.1 = i ∧ ∀ z ∈ pre, ¬ (z.1 ≤ p ∧ p < z.2.1 ∧ z.2.2.2.1 = k)
  | [], h => by cases h
  | q :: l, h => by
    obtain ⟨a1, a2, a3, a4, a5, a6, a7⟩ := q
    rw [List.map_cons, zhf] at h
    cases hb : (Nat.ble a1 p && (Nat.blt p a2 && Nat.beq a4 k)) with
    | true =>
      rw [hb] at h
      cases h
      simp only [Bool.and_eq_true, Nat.blt_eq] at hb
      exact ⟨[], l, (a1, a2, a3, a4, a5, a6, a7), rfl, Nat.le_of_ble_eq_true hb.1, hb.2.1, Nat.eq_of_beq_eq_true hb.2.2, rfl, rfl, fun z hz => by cases hz⟩
    | false =>
      rw [hb] at h
      obtain ⟨pre, suf, a, h1, h2, h3, h4, h5, h6, h7⟩ := zhf_yes h
      refine ⟨(a1, a2, a3, a4, a5, a6, a7) :: pre, suf, a, by rw [h1]; rfl, h2, h3, h4, h5, h6, fun z hz => ?_⟩
      rcases List.mem_cons.mp hz with rfl | hz
      · rintro ⟨g1, g2, g3⟩
        have : (Nat.ble a1 p && (Nat.blt p a2 && Nat.beq a4 k)) = true := by
          simp only [Bool.and_eq_true, Nat.blt_eq]
          exact ⟨Nat.ble_eq.mpr g1, g2, by have g3 : a4 = k := g3; rw [g3]; exact Nat.beq_refl k⟩
        rw [hb] at this
        cases this
      · exact h7 z hz
def zth2z : List Nat := [0, 1, 2]
set_option maxRecDepth 100000 in
theorem zcst_all : (zth2z.all fun k => decide (Cond.castable (zXn k) (zXn k) ∈ lw_tbl)) = true := by decide +kernel
theorem zcst_in (k : Nat) (hk : k < 3) : Cond.castable (zXn k) (zXn k) ∈ lw_tbl := by
  have h := List.all_eq_true.mp zcst_all k (by unfold zth2z; match k, hk with | 0, _ => simp | 1, _ => simp | 2, _ => simp)
  exact of_decide_eq_true h
/-- a handler's facts -/
theorem zhd_ok {y : Nat} {l2 : List (Nat × Nat × Nat × Nat × Nat × Nat × Nat)} (h : (y, l2) ∈ zhd2) : zhh y = l2.map (fun a => (a.1, a.2.1, a.2.2.1, a.2.2.2.2.2.2)) ∧ y < 170 ∧ (zinf y).1 = 11 ∧ ∀ a ∈ l2, Cond.classLink "TreegrabLaw" a.2.2.2.2.2.2 (zXn a.2.2.2.1) ∈ lw_tbl ∧ a.2.2.2.1 < 3 ∧ a.2.2.2.2.2.2 ≠ 0 ∧ a.2.2.2.2.2.1 < (zinf y).2.2.1 ∧
    ((∃ k : Fin 4, k.val = a.2.2.2.2.2.1 ∧ a.2.2.2.2.1 = a.2.2.1 + 1 ∧ decode (zB y) a.2.2.1 = .ok (.astore_n k, 1)) ∨ (a.2.2.2.2.1 = a.2.2.1 + 2 ∧ decode (zB y) a.2.2.1 = .ok (.astore a.2.2.2.2.2.1, 2))) := by
  have h0 := List.all_eq_true.mp zhchk_all _ h
  simp only [zhchk, Bool.and_eq_true, decide_eq_true_eq, Nat.blt_eq] at h0
  obtain ⟨h1, h2, h3, h4⟩ := h0
  refine ⟨h1, h2, Nat.eq_of_beq_eq_true h3, fun a ha => ?_⟩
  have h5 := List.all_eq_true.mp h4 a ha
  simp only [Bool.and_eq_true, decide_eq_true_eq, Nat.blt_eq, Bool.not_eq_true'] at h5
  obtain ⟨g1, g2, g3, g4, g5⟩ := h5
  refine ⟨g1, g2, (fun q => by rw [q] at g3; cases g3), g4, ?_⟩
  split at g5
  · rename_i k len hz
    simp only [Bool.and_eq_true] at g5
    have hd := zraw_ok h2 hz
    have hlen := zil_eq hd.2 rfl
    subst hlen
    exact Or.inl ⟨k, Nat.eq_of_beq_eq_true g5.1, Nat.eq_of_beq_eq_true g5.2, hd.1⟩
  · rename_i k len hz
    simp only [Bool.and_eq_true] at g5
    have hd := zraw_ok h2 hz
    have hlen := zil_eq hd.2 rfl
    subst hlen
    have hk := Nat.eq_of_beq_eq_true g5.1
    subst hk
    exact Or.inr ⟨Nat.eq_of_beq_eq_true g5.2, hd.1⟩
  · cases g5
theorem z_recv {ad : Nat → Nat} {E : Nat → va_E} {σ : zW} {H : Heap} {s : State} {k c : Nat} (hB : zBase s0 a0 D c4 b L xs adK) (hR : zRel s0 D c4 b L xs adK ad E σ H) (hW : s0.WarmedH s.vm) (hk : zkd k = c + 1) (hc : c < 10) (hok : zok (gN σ) k) : ∃ cell : Cell, H[ad k]? = some cell ∧ cell.vm.isStatics = false ∧ s.vm.findClass (zCn c) = some cell.cls := by
  obtain ⟨hP, hD, hCo, -⟩ := hR
  have hin := zkd_in (k := k) (by omega) (by omega) (by omega)
  have hkn : 1 ≤ k ∧ k ≤ gN σ := by
    rcases hok with h | h | h
    · exact h
    · omega
    · omega
  obtain ⟨vs, he, -, -⟩ := (hCo k hkn.1 hkn.2).2.2.2.2 c hc hk
  have hlc : c < zcl.length := by show c < 10; exact hc
  have hr : zcl[c]? = some zcl[c] := List.getElem?_eq_getElem hlc
  have hat : (zws ad E (gN σ))[k - 1]? = some (ad k, .inr (c, vs)) := by
    unfold zws
    rw [List.getElem?_map, List.getElem?_range (by omega)]
    show some (ad (k - 1 + 1), E (k - 1 + 1)) = _
    rw [show k - 1 + 1 = k by omega, he]
  obtain ⟨cell, h1, h2, h3⟩ := va_recv (hB.2.1.moved hW.alike) hP hr hat
  exact ⟨cell, h1, h2, by rw [← zcn_ok hr]; exact h3⟩
theorem z_walk (hl : l.stackTraces = false) (hB : zBase s0 a0 D c4 b L xs adK) (hTh : zThB s0) (hTx : zTx s0 D c4 b L xs adK l) : ∀ n, zWk s0 D c4 b L xs adK l n := by
  intro n
  induction n with
  | zero => intro d f σ out σF h; simp [zbig] at h
  | succ n ih =>
    intro d f σ out σF h hy p e R s m args below meth c H locs cells slots mc ms ad0 n0 ad E ls st hC hSt hn0 hA0 hRf hRl hc hs hRc hRs
    obtain ⟨y, pc, als, ast⟩ := f
    simp only at hy hC hSt
    have hmono := zbig_mono _ _ _ _ _ _ h
    obtain ⟨hx, hb, hret, hml, hown, htab, hini, hlk, hW, hsz, hold⟩ := id hC
    obtain ⟨hS, hR, hL, hst⟩ := id hSt
    have hlsz : ls.size = (zinf y).2.2.1 := by obtain ⟨-, lv, h9, -⟩ := hL; exact h9.1
    rw [zbig] at h
    cases hstep : zstep false (y, pc, als, ast) σ with
    | none => rw [hstep] at h; cases h
    | some w =>
      rw [hstep] at h
      have hle1 := zstep_le hstep
      unfold zstep at hstep
      simp only at hstep
      cases hraw : zraw y pc with
      | none => rw [hraw] at hstep; cases hstep
      | some q =>
        obtain ⟨i, len⟩ := q
        rw [hraw] at hstep
        simp only at hstep
        obtain ⟨hdg, hlen⟩ := zraw_ok hy hraw
        have hTxt := hTx p e R s m args below meth c (vx_MQ below (zQc s0 D c4 b L xs adK ad0 n0 out σF) (zXC s0 D c4 b L xs adK ad0 n0 out σF) args s mc ms (zA s0)) y hC (by omega) (by omega)
        rcases zexec_cls hstep with ⟨f', σ', rfl, hfm, hle⟩ | ⟨kd, nn, y9, hi, hmt, hy9, hcall⟩ | hretc | ⟨k, nn, rfl, hth, hcat, rfl⟩
        · -- goes on
          simp only at h
          have hm2 := zbig_mono _ _ _ _ _ _ h
          refine z_next hB hC hTxt hdg hlen hSt hml (by omega) (by omega) ?_ ?_ ?_ ?_ hstep ?_
          · have := hmono.2.1; omega
          · have := hmono.2.2; omega
          · have := hm2.2.1; omega
          · have := hm2.2.2; omega
          · intro H1 locs1 ad1 E1 ls1 st1 cells1 slots1 hA1 hSt1 hc1 hs1
            subst hfm
            exact ih d f' σ' out σF h hy p e R s m args below meth c H1 locs1 cells1 slots1 mc ms ad0 n0 ad1 E1 ls1 st1 hC hSt1 (Nat.le_trans hn0 hle.1) (hA0.trans hA1 hn0) hRf hRl (by omega) (by omega) hRc hRs
        · -- a call
          obtain ⟨as, rest, hpop, hkd, hcat, hlay, hrk, rfl⟩ := zcall_cls hcall
          cases d with
          | zero => cases h
          | succ d =>
            simp only at h
            cases hg : zbig false n d (zent y9 as) σ with
            | none => rw [hg] at h; cases h
            | some w2 =>
              obtain ⟨o2, σ2⟩ := w2
              rw [hg] at h
              try simp only at h
              obtain ⟨bn, hlw, hnest, hyy⟩ := zmt_ok2 hmt
              obtain ⟨hy1, hy2⟩ := hyy hy9
              have hgm := zbig_mono _ _ _ _ _ _ hg
              have hMet := z_met (ad := ad) (E := E) ih hg hy1 hy2 hlay
              obtain ⟨f1, f2, f3, f4, f5, f6, f7, f8, f9, f10, f11, f12⟩ := zy_facts hy1 hy2
              obtain ⟨ll, hll, hast, has⟩ := zpop_spec _ _ _ _ _ hpop
              rw [List.append_nil] at has
              rw [hast] at hst
              obtain ⟨lc, rc, hstc, hlc, hrc⟩ := zSr_app hst
              have hvs := zSr_rev hlc
              rw [← has] at hvs
              have hcatc := zSr_cat hrc
              have hmY : zmY y9 = zY y9 := by
                unfold zmY
                split
                · omega
                · omega
                · omega
                · omega
                · omega
                · rfl
              have hlw2 : zmw bn (zCn (zinf y).1 |> fun _ => (zinf y).1) nn y9 ∈ lw_tbl := hlw
              -- the parts of a call
              have hcode : ∀ (a' : Array Value) (U : State), s.WarmedH U.vm → (zcw y9).before a' U = true := fun a' U hU => hB.w (State.WarmedH.trans hW hU) f1 (zcw_good y9)
              have hws : ∀ w ∈ [zcw y9], ∀ (a' : Array Value) (U : State), s.WarmedH U.vm → w.before a' U = true := fun w hw a' U hU => by
                rw [List.mem_singleton.mp hw]; exact hcode a' U hU
              have hcodes : (zcw y9).before args s = true := hB.w hW f1 (zcw_good y9)
              have hinis : (Cond.initialized (zY y9).cls).before args s = true := hB.w hW f3 rfl
              have hPc : ∀ U : State, U.heap = H → s.WarmedH U.vm → zPc s0 D c4 b L xs adK ad E σ as (lc.reverse).toArray U := fun U hU hWU => ⟨⟨lc.reverse, rfl, hvs⟩, State.WarmedH.trans hW hWU, by rw [hU]; exact Nat.le_trans hsz hS.1, fun q hq => by
                rw [hU, hS.2.1 q (by omega) (by show ¬ s0.heap.size ≤ q; omega)]; exact hold q hq, by rw [hU]; exact hR⟩
              have hroomF : (zRm d (gC σ2 - gC σ) (gS σ2 - gS σ)).frames + 1 ≤ R.frames := by rw [zRm_f]; omega
              have hroomL : 8 + ((zinf y9).2.2.1 + 11) + (zRm d (gC σ2 - gC σ) (gS σ2 - gS σ)).locals ≤ R.locals := by rw [zRm_l]; exact z_room f11 hRl
              have hle2 : gC σ2 ≤ gC σF ∧ gS σ2 ≤ gS σF := by
                cases o2 with
                | inl v => exact (zbig_mono _ _ _ _ _ _ h).2
                | inr k =>
                  simp only at h
                  cases hc9 : zcth (y, pc + 3, als, rest) k with
                  | none => rw [hc9] at h; cases h; exact ⟨Nat.le_refl _, Nat.le_refl _⟩
                  | some f9 => rw [hc9] at h; exact (zbig_mono _ _ _ _ _ _ h).2
              have hroomC : cells + (gC σ2 - gC σ) ≤ R.cells ∧ slots + (gS σ2 - gS σ) ≤ R.slots := by
                have h1 := hgm.2.1; have h2 := hgm.2.2
                omega
              have hlcl : lc.reverse.length = (zinf y9).2.1 := by rw [List.length_reverse, zSr_len hlc, hll]
              have hCF : CallFix p m c (zB y) (zinf y).2.2.1 s args [] (zCn (zinf y).1) := ⟨hx, hb, hml, hown, fun w hw => by cases hw⟩
              have hstk : st = lc.reverse.reverse ++ rc := by rw [List.reverse_reverse]; exact hstc
              -- the run of the call, whatever its kind
              have hrun : vx_Run p l e R s m args below meth c H locs cells slots (gC σ2 - gC σ) (gS σ2 - gS σ) (F0 m pc ls st) rc (fun st₀ o t => zQc s0 D c4 b L xs adK ad (gN σ) o2 σ2 #[] st₀ o t) (zXC s0 D c4 b L xs adK ad (gN σ) o2 σ2) (zA s0) := by
                have hmth : bn = false → (Cond.methodLink (zCn (zinf y).1) nn (zY y9)).before args s = true := fun hbn => by
                  subst hbn
                  have := hB.w hW (args := args) hlw (by rfl)
                  rw [show zmw false (zinf y).1 nn y9 = Cond.methodLink (zCn (zinf y).1) nn (zmY y9) from rfl, hmY] at this
                  exact this
                have hmthN : bn = true → (Cond.methodLinkNest (zCn (zinf y).1) nn (zY y9) "Treegrab").before args s = true := fun hbn => by
                  subst hbn
                  have h1 : (Cond.methodLinkNest (zCn (zinf y).1) nn (zY y9) "Treegrab") ∈ lw_tbl := by
                    rw [show zmw true (zinf y).1 nn y9 = Cond.methodLinkNest (zCn (zinf y).1) nn (zmY y9) "Treegrab" from rfl, hmY] at hlw
                    exact hlw
                  exact va_Nw.use rfl (va_Nw.warmM hW (va_Nw.of rfl (hB.1 _ h1)))
                have hsig : ∀ nr : Nat, nr = ((zinf y9).2.1 - (bif Nat.beq (zinf y9).2.2.2.2 1 then 0 else 1)) → ∀ sig, parseMethodDescriptor (zY y9).desc = some sig → nr = sig.parameters.length := fun nr hn sig hs => by
                  rw [hs] at f8
                  rw [hn]
                  exact (Option.some.inj f8).symm
                have hWr : 2 * (F0 m pc ls st).monitorRoom + (rc.map fun v => v.category).sum ≤ 8 := by
                  show 2 * 0 + _ ≤ 8
                  rw [hcatc]; omega
                have hf9 : cells + (gC σ2 - gC σ) ≤ R.cells ∧ slots + (gS σ2 - gS σ) ≤ R.slots := hroomC
                have hsz9 : (F0 m pc ls st).locals.size = (zinf y).2.2.1 := hlsz
                have hpre : FrameBlind (zPc s0 D c4 b L xs adK ad E σ as) := z_blind
                have hcN : zhh y9 = [] → zcw y9 = Cond.code (zY y9) (zB y9) (zinf y9).2.2.1 (zRt y9) := fun hh => by unfold zcw; rw [hh]
                rcases hi with ⟨rfl, rfl⟩ | ⟨rfl, rfl⟩ | ⟨rfl, rfl⟩
                · -- virtual
                  have e3 := zil_eq hlen rfl
                  subst e3
                  obtain ⟨g1, g2, g3⟩ := f9 (by omega)
                  have hrk9 := hrk (by omega)
                  have hkb : Nat.beq (zinf y9).2.2.2.2 1 = false := by rw [hkd]; rfl
                  rw [hkb] at f2 hsig
                  simp only [cond_false] at f2 hsig
                  rcases as with _ | ⟨(z | x | k), as1⟩
                  · simp [zrk, zkd] at hrk9
                  · simp [zrk] at hrk9
                  · simp [zrk] at hrk9
                  · have hrk9 : zkd k = (zinf y9).1 + 1 := hrk9
                    obtain ⟨As, hAs, hok, hAs2⟩ := zSr_r (by omega) hvs
                    have hPV : PreV s H (zY y9).cls (ad k) (zPc s0 D c4 b L xs adK ad E σ (.inr (.inr k) :: as1)) As := by
                      refine ⟨hpre, ?_, fun U hU hWU => ?_⟩
                      · rw [f5]; exact z_recv hB hR hW hrk9 g2 hok
                      · have := hPc U hU hWU
                        rw [hAs] at this
                        exact this
                    have hAl : As.length = (zinf y9).2.1 - 1 := by
                      have := hlcl
                      rw [hAs, List.length_cons] at this
                      omega
                    have hstk2 : (F0 m pc ls st).stack = As.reverse ++ .ref (ad k) :: rc := by
                      show st = _
                      rw [hstk, hAs]; simp
                    have hcod := hcodes
                    rw [hcN g3] at hcod
                    have hinm := hB.w hW (args := args) f2 rfl
                    have hsel := hB.w hW (args := args) (f4 hkd) rfl
                    cases bn with
                    | false => exact vx_runV (ret := zRt y9) (bytes := zB y9) (maxL := (zinf y9).2.2.1) hCF hMet ⟨⟨rfl, rfl, hroomF, hroomL, hws, by rw [hcN g3]; exact List.mem_cons_self, hcod, hinis, f7, hsig _ hAl, hmth rfl⟩, hinm, hsel⟩ hPV rfl rfl hsz9 hstk2 hWr hdg hf9
                    | true => exact vx_runVN (ret := zRt y9) (bytes := zB y9) (maxL := (zinf y9).2.2.1) hCF hMet ⟨⟨⟨rfl, rfl, hroomF, hroomL, hws, by rw [hcN g3]; exact List.mem_cons_self⟩, hcod, hinis, f7, hsig _ hAl, hmthN rfl⟩, hinm, hsel⟩ hPV rfl rfl hsz9 hstk2 hWr hdg hf9
                · -- static
                  have e3 := zil_eq hlen rfl
                  subst e3
                  have hkb : Nat.beq (zinf y9).2.2.2.2 1 = true := by rw [hkd]; rfl
                  rw [hkb] at f2 hsig
                  simp only [cond_true] at f2 hsig
                  have hPS : PreS s H (zPc s0 D c4 b L xs adK ad E σ as) lc.reverse := ⟨hpre, fun U hU hWU => hPc U hU hWU⟩
                  have hstt := hB.w hW (args := args) f2 rfl
                  have hsg := hsig lc.reverse.length (by rw [hlcl]; omega)
                  cases hh : zhh y9 with
                  | nil =>
                    have hcod := hcodes
                    rw [hcN hh] at hcod
                    cases bn with
                    | false => exact vx_runS (As := lc.reverse) (ret := zRt y9) (bytes := zB y9) (maxL := (zinf y9).2.2.1) hCF hMet ⟨⟨rfl, rfl, hroomF, hroomL, hws, by rw [hcN hh]; exact List.mem_cons_self, hcod, hinis, f7, hsg, hmth rfl⟩, hstt⟩ hPS rfl rfl hsz9 hstk hWr hdg hf9
                    | true => exact vx_runSN (As := lc.reverse) (ret := zRt y9) (bytes := zB y9) (maxL := (zinf y9).2.2.1) hCF hMet ⟨⟨⟨rfl, rfl, hroomF, hroomL, hws, by rw [hcN hh]; exact List.mem_cons_self⟩, hcod, hinis, f7, hsg, hmthN rfl⟩, hstt, trivial⟩ hPS rfl rfl hsz9 hstk hWr hdg hf9
                  | cons h1 h2 =>
                    have hcW : zcw y9 = Cond.codeWith (zY y9) (zB y9) (zinf y9).2.2.1 (zRt y9) (zhh y9) := by unfold zcw; rw [hh]
                    have hcod := hcodes
                    rw [hcW] at hcod
                    cases bn with
                    | false => exact vx_runSX (As := lc.reverse) (hh := zhh y9) (ret := zRt y9) (bytes := zB y9) (maxL := (zinf y9).2.2.1) hCF hMet ⟨⟨rfl, rfl, hroomF, hroomL, hws, by rw [hcW]; exact List.mem_cons_self⟩, hcod, hinis, f7, hsg, hmth rfl, hstt⟩ hPS rfl rfl hsz9 hstk hWr hdg hf9
                    | true => exact absurd (hnest rfl) (by rw [hh]; exact List.cons_ne_nil _ _)
                · -- special
                  have e3 := zil_eq hlen rfl
                  subst e3
                  obtain ⟨g1, g2, g3⟩ := f9 (by omega)
                  obtain ⟨hin0, hrt0⟩ := f10 hkd
                  have hrk9 := hrk (by omega)
                  have hkb : Nat.beq (zinf y9).2.2.2.2 1 = false := by rw [hkd]; rfl
                  rw [hkb] at f2 hsig
                  simp only [cond_false] at f2 hsig
                  rcases as with _ | ⟨(z | x | k), as1⟩
                  · simp [zrk, zkd] at hrk9
                  · simp [zrk] at hrk9
                  · simp [zrk] at hrk9
                  · have hrk9 : zkd k = (zinf y9).1 + 1 := hrk9
                    obtain ⟨As, hAs, hok, hAs2⟩ := zSr_r (by omega) hvs
                    have hPS : PreS s H (zPc s0 D c4 b L xs adK ad E σ (.inr (.inr k) :: as1)) (.ref (ad k) :: As) := by
                      refine ⟨hpre, fun U hU hWU => ?_⟩
                      have := hPc U hU hWU
                      rw [hAs] at this
                      exact this
                    have hAl : As.length = (zinf y9).2.1 - 1 := by
                      have := hlcl
                      rw [hAs, List.length_cons] at this
                      omega
                    have hstk2 : (F0 m pc ls st).stack = As.reverse ++ .ref (ad k) :: rc := by
                      show st = _
                      rw [hstk, hAs]; simp
                    have hrtn : zRt y9 = none := by unfold zRt; rw [hrt0]; rfl
                    have hcod := hcodes
                    rw [hcN g3, hrtn] at hcod
                    have hinm := hB.w hW (args := args) f2 rfl
                    cases bn with
                    | false => exact vx_runI (bytes := zB y9) (maxL := (zinf y9).2.2.1) hCF hMet ⟨⟨rfl, rfl, hroomF, hroomL, hws, by rw [hcN g3, hrtn]; exact List.mem_cons_self, hcod, hinis, f7, hsig _ hAl, hmth rfl⟩, hin0, hinm⟩ hPS rfl rfl hsz9 hstk2 hWr hdg hf9
                    | true => exact vx_runIN (bytes := zB y9) (maxL := (zinf y9).2.2.1) hCF hMet ⟨⟨⟨rfl, rfl, hroomF, hroomL, hws, by rw [hcN g3, hrtn]; exact List.mem_cons_self⟩, hcod, hinis, f7, hsig _ hAl, hmthN rfl⟩, hin0, hinm⟩ hPS rfl rfl hsz9 hstk2 hWr hdg hf9
              refine z_callW hrun (fun v st₀ t L9 h0 hal hL9 hq => ?_) (fun X ce q st₀ t L9 h0 hal hL9 hq hce hcv hcl => ?_)
              · obtain ⟨v9, a, ad1, E1, hv9, ho2, hov, hag, hR1, hF⟩ := hq
                cases hv9
                subst ho2
                simp only at h
                obtain ⟨-, -, hS1⟩ := vx_keep (H0 := s.heap) (T' := t) h0 rfl hS (fun q _ hq => hq) (fun q hq => hq) hL9 hF
                have hadd : zSt s0 D c4 b L xs adK s (zinf y).2.2.1 ad1 E1 σ2 t.heap (locs ++ L9) (zpsh (y, pc + 3, als, rest) a).2.2.1 (zpsh (y, pc + 3, als, rest) a).2.2.2 ls (v.toList ++ rc) := by
                  refine ⟨hS1, hR1, ?_, ?_⟩
                  · have : (zpsh (y, pc + 3, als, rest) a).2.2.1 = als := by cases a <;> rfl
                    rw [this]; exact hL.up hag hgm.1
                  · cases a with
                    | none =>
                      cases v with
                      | none => exact hrc.up hag hgm.1
                      | some v => exact hov.elim
                    | some a =>
                      cases v with
                      | none => exact hov.elim
                      | some v => exact ⟨hov, hrc.up hag hgm.1⟩
                have hy3 : (zpsh (y, pc + 3, als, rest) a).1 = y := by cases a <;> rfl
                have hp3 : (zpsh (y, pc + 3, als, rest) a).2.1 = pc + 3 := by cases a <;> rfl
                have k := ih (d + 1) (zpsh (y, pc + 3, als, rest) a) σ2 out σF h (by rw [hy3]; exact hy) p e R s m args below meth c t.heap (locs ++ L9) (cells + (gC σ2 - gC σ)) (slots + (gS σ2 - gS σ)) mc ms ad0 n0 ad1 E1 ls (v.toList ++ rc) (by rw [hy3]; exact hC) (by rw [hy3]; exact hadd) (Nat.le_trans hn0 hgm.1) (hA0.trans hag hn0) hRf hRl (by have := hgm.2.1; omega) (by have := hgm.2.2; omega) hRc hRs
                rw [hp3] at k
                exact k
              · obtain ⟨k, ad1, E1, ho2, hk3, rfl, hag, hR1, hF⟩ := hq
                subst ho2
                simp only at h
                obtain ⟨-, -, hS1⟩ := vx_keep (H0 := s.heap) (T' := t) h0 rfl hS (fun q _ hq => hq) (fun q hq => hq) hL9 hF
                have hNc : ∀ i j : Nat, i < 3 → j < 3 → i ≠ j → va_Nc (zXn i) (zXn j) s := fun i j h1 h2 h3 => (hTh.2.2.2 i j h1 h2 h3).moved hW.alike
                cases hc9 : zcth (y, pc + 3, als, rest) k with
                | none =>
                  rw [hc9] at h
                  cases h
                  refine vx_outP (E := zXn k) hown hlk ?_ hce hcv hcl (fun t2 ht2 _ => ⟨k, ad1, E1, rfl, hk3, rfl, hA0.trans hag hn0, by rw [ht2]; exact hR1, hS1.F ht2⟩) hS1.2.2 (by have := hgm.2.1; omega) (by have := hgm.2.2; omega)
                  rw [htab]
                  unfold zcth at hc9
                  cases hd : zlk zhds y with
                  | none =>
                    rw [zhh_none hd]
                    intro z hz
                    cases hz
                  | some l9 =>
                    simp only [hd] at hc9
                    obtain ⟨l2, hl2, rfl⟩ := zhds_some hd
                    obtain ⟨q1, q2, q3, q4⟩ := zhd_ok hl2
                    have hzf : zhf k pc (l2.map (fun a => (a.1, a.2.1, a.2.2.1, a.2.2.2.1, a.2.2.2.2.1, a.2.2.2.2.2.1))) = none := by
                      cases hzf : zhf k (pc + 3 - 3) (l2.map (fun a => (a.1, a.2.1, a.2.2.1, a.2.2.2.1, a.2.2.2.2.1, a.2.2.2.2.2.1))) with
                      | none => exact hzf
                      | some _ => rw [hzf] at hc9; cases hc9
                    have hno := zhf_no hzf
                    rw [q1]
                    intro z hz
                    unfold tableOf at hz
                    rw [List.map_map] at hz
                    obtain ⟨r, hr, rfl⟩ := List.mem_map.mp hz
                    obtain ⟨w1, w2, w3, w4, w5⟩ := q4 r hr
                    have hno2 := hno _ (List.mem_map.mpr ⟨r, hr, rfl⟩)
                    by_cases hcov : r.1 ≤ pc ∧ pc < r.2.1
                    · have hne : r.2.2.2.1 ≠ k := fun q => hno2 ⟨hcov.1, hcov.2, q⟩
                      refine Or.inr ⟨w3, zXn r.2.2.2.1, ?_, hNc k r.2.2.2.1 hk3 w2 (fun q => hne q.symm)⟩
                      have := hB.w hW (args := args) w1 rfl
                      rw [q3]
                      exact this
                    · refine Or.inl ?_
                      show (decide (r.1 ≤ pc) && decide (pc < r.2.1)) = false
                      rw [Bool.and_eq_false_iff, decide_eq_false_iff_not, decide_eq_false_iff_not]
                      by_cases h8 : r.1 ≤ pc
                      · exact Or.inr (fun h9 => hcov ⟨h8, h9⟩)
                      · exact Or.inl h8
                | some f2 =>
                  rw [hc9] at h
                  simp only at h
                  unfold zcth at hc9
                  cases hd : zlk zhds y with
                  | none => simp only [hd] at hc9; cases hc9
                  | some l9 =>
                    simp only [hd] at hc9
                    obtain ⟨l2, hl2, rfl⟩ := zhds_some hd
                    obtain ⟨q1, q2, q3, q4⟩ := zhd_ok hl2
                    cases hzf : zhf k (pc + 3 - 3) (l2.map (fun a => (a.1, a.2.1, a.2.2.1, a.2.2.2.1, a.2.2.2.2.1, a.2.2.2.2.2.1))) with
                    | none => rw [hzf] at hc9; cases hc9
                    | some ti =>
                      obtain ⟨t9, i9⟩ := ti
                      rw [hzf] at hc9
                      cases hc9
                      rw [show pc + 3 - 3 = pc by omega] at hzf
                      obtain ⟨pre, suf, a, rfl, r1, r2, r3, r4, r5, r6⟩ := zhf_yes hzf
                      have hal : a ∈ pre ++ a :: suf := List.mem_append_right _ List.mem_cons_self
                      obtain ⟨w1, w2, w3, w4, w5⟩ := q4 a hal
                      have hzX : zXn a.2.2.2.1 = zXn k := by rw [r3]
                      have hlnk := hB.w hW (args := args) w1 rfl
                      have hown3 : s.vm.findClass "TreegrabLaw" = some m.cls := by
                        rw [q3] at hown
                        exact hown
                      have hrdy : zLr ad1 (gN σ2) als ls (zinf y).2.2.1 := hL.up hag hgm.1
                      have fin : ∀ ls' : Array Slot, zLr ad1 (gN σ2) (zst1 als i9 none) ls' (zinf y).2.2.1 → W p l e R s m args below meth c t.heap (locs ++ L9) (cells + (gC σ2 - gC σ)) (slots + (gS σ2 - gS σ)) (vx_MQ below (zQc s0 D c4 b L xs adK ad0 n0 out σF) (zXC s0 D c4 b L xs adK ad0 n0 out σF) args s mc ms (zA s0)) (F0 m t9 ls' []) := fun ls' hls' =>
                        ih (d + 1) (y, t9, zst1 als i9 none, []) σ2 out σF h hy p e R s m args below meth c t.heap (locs ++ L9) (cells + (gC σ2 - gC σ)) (slots + (gS σ2 - gS σ)) mc ms ad0 n0 ad1 E1 ls' [] hC ⟨hS1, hR1, hls', trivial⟩ (Nat.le_trans hn0 hgm.1) (hA0.trans hag hn0) hRf hRl (by have := hgm.2.1; omega) (by have := hgm.2.2; omega) hRc hRs
                      obtain ⟨hlen9, lv, hlv, h3⟩ := hrdy
                      have hcst : (Cond.castable (zXn k) (zXn k)).before args s = true := va_Nw.use rfl (va_Nw.warmC hW (va_Nw.of rfl (hB.1 _ (zcst_in k hk3))))
                      refine vx_catch (own := "TreegrabLaw") (name := zXn k) hown3 _ _ _ (by rw [htab, q1]; unfold tableOf; rw [List.map_map, List.map_append, List.map_cons]) (fun z hz => ?_) ?_ w3 (by rw [← hzX]; exact hlnk) hcst hce hcv hcl ?_
                      · obtain ⟨r, hr, rfl⟩ := List.mem_map.mp hz
                        obtain ⟨v1, v2, v3, v4, v5⟩ := q4 r (List.mem_append_left _ hr)
                        have hno2 := r6 r hr
                        by_cases hcov : r.1 ≤ pc ∧ pc < r.2.1
                        · have hne : r.2.2.2.1 ≠ k := fun q => hno2 ⟨hcov.1, hcov.2, q⟩
                          exact Or.inr ⟨v3, zXn r.2.2.2.1, hB.w hW (args := args) v1 rfl, hNc k r.2.2.2.1 hk3 v2 (fun q => hne q.symm)⟩
                        · refine Or.inl ?_
                          show (decide (r.1 ≤ pc) && decide (pc < r.2.1)) = false
                          rw [Bool.and_eq_false_iff, decide_eq_false_iff_not, decide_eq_false_iff_not]
                          by_cases h8 : r.1 ≤ pc
                          · exact Or.inr (fun h9 => hcov ⟨h8, h9⟩)
                          · exact Or.inl h8
                      · show (decide (a.1 ≤ pc) && decide (pc < a.2.1)) = true
                        rw [Bool.and_eq_true, decide_eq_true_iff, decide_eq_true_iff]
                        exact ⟨r1, r2⟩
                      · rcases w5 with ⟨k4, e4, e5, e6⟩ | ⟨e5, e6⟩
                        · refine lv_astore_n hx hb e6 (e4.trans r5) hlv (by rw [← r5]; exact w4) rfl (fun ls' h' => ?_)
                          have := fin ls' (zLr.st1 (w := .ref q) hlen9 h3 (fun a ha => by cases ha) h')
                          rw [← r4, e5] at this
                          exact this
                        · rw [r5] at e6 w4
                          refine lv_astore hx hb e6 hlv w4 rfl (fun ls' h' => ?_)
                          have := fin ls' (zLr.st1 (w := .ref q) hlen9 h3 (fun a ha => by cases ha) h')
                          rw [← r4, e5] at this
                          exact this
        · -- a return
          have hfre : ∀ q ∈ locs, zA s0 q.base := hS.2.2
          have hcl : cells ≤ mc ∧ slots ≤ ms := by have h1 := hmono.2.1; have h2 := hmono.2.2; omega
          rcases hretc with ⟨z, rfl, rfl, rfl, hrt⟩ | ⟨x, rfl, rfl, rfl, hrt⟩ | ⟨rfl, rfl, rfl, hrt⟩
          · cases h
            have e1 := zil_eq hlen rfl
            subst e1
            obtain ⟨xv, m1, rfl, ex, h4⟩ := zSr_i hst
            rw [zSr_n h4]
            have hq : ∀ t : State, t.heap = H → s.WarmedH t.vm → zQc s0 D c4 b L xs adK ad0 n0 (.inl (some (.inl z))) σ args s (.returned (some (.int xv))) t := fun t ht _ => ⟨_, _, ad, E, rfl, rfl, (show zVr ad (gN σ) (.inl z) (.int xv) from zVr_int xv ex), hA0, by rw [ht]; exact hR, hS.F ht⟩
            rcases hrt with hrt | ⟨hrt, hz⟩ | ⟨hrt, hz⟩
            · have hr2 : meth.sig.returnType = some .int := by rw [hret]; unfold zRt; rw [hrt]; rfl
              exact W.widen hcl.1 hcl.2 (vx_ret (W.iret hx hb hr2 hq hfre hdg hlk))
            · have hr2 : meth.sig.returnType = some .boolean := by rw [hret]; unfold zRt; rw [hrt]; rfl
              have hna : narrow .boolean (.int xv) = .int xv := by
                rcases hz with hz | hz
                · have : xv = 0 := Int32.toInt_inj.mp (by rw [ex, hz]; rfl)
                  subst this; rfl
                · have : xv = 1 := Int32.toInt_inj.mp (by rw [ex, hz]; rfl)
                  subst this; rfl
              exact W.widen hcl.1 hcl.2 (vx_ret (W.zret hx hb hr2 hna hq hfre hdg hlk))
            · have hr2 : meth.sig.returnType = some .char := by rw [hret]; unfold zRt; rw [hrt]; rfl
              have hna : narrow .char (.int xv) = .int xv := by
                show Value.int xv.toUInt32.toUInt16.toUInt32.toInt32 = _
                rw [z_n16 (by rw [ex]; exact hz.1) (by rw [ex]; exact hz.2)]
              exact W.widen hcl.1 hcl.2 (vx_ret (W.zret hx hb hr2 hna hq hfre hdg hlk))
          · cases h
            have e1 := zil_eq hlen rfl
            subst e1
            obtain ⟨m1, rfl, h4⟩ := zSr_l hst
            rw [zSr_n h4]
            have hr2 : meth.sig.returnType = some .long := by rw [hret]; unfold zRt; rw [hrt]; rfl
            exact W.widen hcl.1 hcl.2 (vx_ret (W.lret hx hb hr2 (fun t ht _ => ⟨_, _, ad, E, rfl, rfl, (show zVr ad (gN σ) (.inr (.inl x)) (.long x) from zVr_long x), hA0, by rw [ht]; exact hR, hS.F ht⟩) hfre hdg hlk))
          · cases h
            have e1 := zil_eq hlen rfl
            subst e1
            rw [zSr_n hst]
            have hr2 : meth.sig.returnType = none := by rw [hret]; unfold zRt; rw [hrt]; rfl
            exact W.widen hcl.1 hcl.2 (vx_ret (W.vret hx hb hr2 (fun t ht _ => ⟨_, _, ad, E, rfl, rfl, trivial, hA0, by rw [ht]; exact hR, hS.F ht⟩) hfre hdg hlk))
        · -- a throw
          cases h
          obtain ⟨⟨y8, pc8, k8, ik8, is8, ic8, w8⟩, hq8, e1, e2, e3⟩ := zth_ok hth
          have hk3 := (zat_ok hq8).1
          simp only at e3
          rw [e3] at hk3
          have c1 : gC (zex σ) = gC σ + 1 := rfl
          have c2 : gS (zex σ) = gS σ + 6 := rfl
          rw [c1] at hc
          rw [c2] at hs
          refine zr_throw hl hB hTh hC hth hcat hSt hml (by omega) (by omega) (by omega) (by omega) hRc hRs (fun t hal hsz2 hkeep => ?_)
          refine ⟨k, ad, E, rfl, hk3, rfl, hA0, ?_, ⟨Nat.le_trans hS.1 hsz2, fun q hq hnq => ?_⟩⟩
          · obtain ⟨r1, r2, r3⟩ := hR
            exact ⟨r1.kept (fun k2 q2 hk2 => hkeep q2.1 (r1 k2 q2 hk2).lt), r2, r3⟩
          · rw [hkeep q (Nat.lt_of_lt_of_le hq hS.1)]
            exact hS.2.1 q hq hnq
end ZWALK
