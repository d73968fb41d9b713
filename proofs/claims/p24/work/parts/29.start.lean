/-! the constructors, run by the kernel, whatever the script is -/
def zsc (h : Nat → Nat → Int) (σ : zW) : zW := (fun k j => if 99990 ≤ k then h k j else σ.1 k j, σ.2)
def zscR (h : Nat → Nat → Int) : zR → zR
  | .inl (f, σ) => .inl (f, zsc h σ)
  | .inr (.inl (g, f, σ)) => .inr (.inl (g, f, zsc h σ))
  | .inr (.inr (.inl (v, σ))) => .inr (.inr (.inl (v, zsc h σ)))
  | .inr (.inr (.inr (k, σ))) => .inr (.inr (.inr (k, zsc h σ)))
def yC (h : Nat → Nat → Int) (o o' : Option zR) : Prop := ∀ w, o = some w → o' = some (zscR h w)
theorem yC_no {h : Nat → Nat → Int} {o' : Option zR} : yC h none o' := fun w q => by cases q
theorem yC_so {h : Nat → Nat → Int} {w : zR} {o' : Option zR} (q : o' = some (zscR h w)) : yC h (some w) o' := fun w2 e => by cases e; exact q
theorem yC_nx {h : Nat → Nat → Int} {m pc : Nat} {ls : List (Option zV)} {st : List zV} {σ σ' : zW} (q : σ' = zsc h σ) : yC h (znx m pc ls st σ) (znx m pc ls st σ') := by
  subst q
  exact fun w e => by cases e; rfl
theorem yC_ite {h : Nat → Nat → Int} {c : Prop} {dc : Decidable c} {a b a' b' : Option zR} (ha : c → yC h a a') (hb : ¬ c → yC h b b') : yC h (if c then a else b) (if c then a' else b') := by
  by_cases q : c
  · rw [if_pos q, if_pos q]; exact ha q
  · rw [if_neg q, if_neg q]; exact hb q
theorem yC_bif {h : Nat → Nat → Int} {c : Bool} {a b a' b' : Option zR} (ha : yC h a a') (hb : yC h b b') : yC h (bif c then a else b) (bif c then a' else b') := by
  cases c
  · exact hb
  · exact ha
theorem zsc_I {h : Nat → Nat → Int} {σ : zW} {k j : Nat} {x : Int} (hk : k < 99990) : sI (zsc h σ) k j x = zsc h (sI σ k j x) := by
  unfold sI zsc
  refine Prod.ext ?_ rfl
  funext k' j'
  show zup (fun k j => if 99990 ≤ k then h k j else σ.1 k j) k j x k' j' = if 99990 ≤ k' then h k' j' else zup σ.1 k j x k' j'
  unfold zup
  by_cases q : k' = k ∧ j' = j
  · rw [if_pos q, if_pos q, if_neg (by omega)]
  · rw [if_neg q, if_neg q]
theorem zkd_small {k : Nat} (h0 : zkd k ≠ 0) (h1 : zkd k < 25) : k < 99990 := by
  have := zkd_in h0 (by omega) (by omega)
  omega
def yok : Instr → Bool
  | .iaload => false
  | .laload => false
  | .baload => false
  | .aaload => false
  | .arraylength => false
  | _ => true
section YSC
variable {h : Nat → Nat → Int} {m pc : Nat} {ls : List (Option zV)} {st : List zV} {σ : zW}
theorem yC_call {kd y : Nat} : yC h (zcall kd y m pc ls st σ) (zcall kd y m pc ls st (zsc h σ)) := by
  unfold zcall
  split
  · exact yC_no
  · exact yC_bif (yC_bif (yC_so rfl) (yC_ite (fun _ => yC_so rfl) (fun _ => yC_no))) yC_no
theorem yC_inv {kd : Nat} {q : Option Nat} : yC h (zinv kd q m pc ls st σ) (zinv kd q m pc ls st (zsc h σ)) := by
  unfold zinv
  split
  · exact yC_no
  · refine yC_bif ?_ yC_call
    split
    · exact yC_bif (yC_ite (fun _ => yC_no) (fun _ => yC_nx rfl)) yC_no
    · exact yC_bif (yC_ite (fun _ => yC_nx rfl) (fun _ => yC_no)) yC_no
    · exact yC_bif (yC_ite (fun _ => yC_nx rfl) (fun _ => yC_no)) yC_no
    · exact yC_bif (yC_nx rfl) yC_no
    · exact yC_bif (yC_nx rfl) yC_no
    · exact yC_no
theorem yC_if {P : Prop} {dP : Decidable P} {off : Int} : yC h (@zif P dP m pc off ls st σ) (@zif P dP m pc off ls st (zsc h σ)) := by
  unfold zif; split <;> first | exact yC_nx rfl | exact yC_no
theorem yC_br {c : ClassFile.Cond} {x y off : Int} : yC h (zbr c x y m pc off ls st σ) (zbr c x y m pc off ls st (zsc h σ)) := by
  cases c <;> exact yC_if
theorem yC_gf {o n : Nat} : yC h (zgf false (zft o n) m pc ls st σ) (zgf false (zft o n) m pc ls st (zsc h σ)) := by
  unfold zgf
  split
  · rename_i ci j ty fin k st' hq
    refine yC_ite (fun hk => ?_) (fun _ => yC_no)
    have h1 := (yft_ok hq).1
    have h2 : k < 99990 := zkd_small (by omega) (by omega)
    have h3 : zrd ty (zsc h σ) k j = zrd ty σ k j := by
      have : gI (zsc h σ) k j = gI σ k j := if_neg (by omega)
      match ty with
      | 0 => show (.inl (gI (zsc h σ) k j) : zV) = _; rw [this]; rfl
      | 1 => show (.inl (gI (zsc h σ) k j) : zV) = _; rw [this]; rfl
      | 2 => rfl
      | _ + 3 => rfl
    simp only [Bool.false_and, cond_false, h3]
    exact yC_nx rfl
  · exact yC_no
theorem yC_pf {o n : Nat} : yC h (zpf false (zft o n) m pc ls st σ) (zpf false (zft o n) m pc ls st (zsc h σ)) := by
  unfold zpf
  split
  · rename_i ci j ty fin v k st' hq
    refine yC_bif (yC_ite (fun hk => ?_) (fun _ => yC_no)) yC_no
    have h1 := (yft_ok hq).1
    have h2 : k < 99990 := zkd_small (by omega) (by omega)
    split
    · exact yC_nx (zsc_I h2)
    · exact yC_ite (fun _ => yC_nx (zsc_I h2)) (fun _ => yC_no)
    · exact yC_nx rfl
    · exact yC_nx rfl
    · exact yC_no
  · exact yC_no
theorem yC_ast {t : Nat} (ht : 20 ≤ t ∧ t < 25) : yC h (zast t m pc ls st σ) (zast t m pc ls st (zsc h σ)) := by
  unfold zast
  split
  · refine yC_ite (fun hk => yC_ite (fun _ => ?_) (fun _ => yC_no)) (fun _ => yC_no)
    rename_i k st' hb
    have h2 : k < 99990 := zkd_small (by omega) (by omega)
    split
    · exact yC_nx (zsc_I h2)
    · exact yC_nx rfl
    · exact yC_ite (fun _ => yC_nx (zsc_I h2)) (fun _ => yC_no)
    · exact yC_ite (fun _ => yC_nx rfl) (fun _ => yC_no)
    · exact yC_no
  · exact yC_no
theorem yC_mk {t n : Nat} : yC h (zmk false t n m pc ls st σ) (zmk false t n m pc ls st (zsc h σ)) := yC_ite (fun _ => yC_nx rfl) (fun _ => yC_no)
theorem yC_mka {t : Nat} : yC h (zmka false t m pc ls st σ) (zmka false t m pc ls st (zsc h σ)) := by
  unfold zmka
  split <;> first | exact yC_mk | exact yC_no
theorem yC_exec {i : Instr} {len : Nat} (hi : yok i = true) : yC h (zexec false i len m pc ls st σ) (zexec false i len m pc ls st (zsc h σ)) := by
  cases i <;> first | (simp only [zexec]; exact yC_no) | (cases hi; done) | simp only [zexec]
  case getfield => exact yC_gf
  case putfield => exact yC_pf
  case iastore => exact yC_ast (by omega)
  case lastore => exact yC_ast (by omega)
  case bastore => exact yC_ast (by omega)
  case aastore => exact yC_ast (by omega)
  case new =>
    split
    · exact yC_bif (yC_so rfl) yC_no
    · split
      · exact yC_mk
      · exact yC_no
  case newarray => split <;> first | exact yC_mka | exact yC_no
  case anewarray => split <;> first | exact yC_bif yC_mka yC_no | exact yC_no
  case invokevirtual => exact yC_inv
  case invokestatic => exact yC_inv
  case invokespecial => exact yC_inv
  case ifCond => split <;> first | exact yC_br | exact yC_no
  case if_icmp => split <;> first | exact yC_br | exact yC_no
  case ireturn => split <;> first | (split <;> first | exact yC_so rfl | exact yC_ite (fun _ => yC_so rfl) (fun _ => yC_no) | exact yC_no) | exact yC_no
  case lreturn => split <;> first | exact yC_bif (yC_so rfl) yC_no | exact yC_no
  case return_ => split <;> first | exact yC_bif (yC_so rfl) yC_no | exact yC_no
  case iload_n => unfold zldi; split <;> first | exact yC_nx rfl | exact yC_no
  case iload => unfold zldi; split <;> first | exact yC_nx rfl | exact yC_no
  case lload_n => unfold zldl; split <;> first | exact yC_nx rfl | exact yC_no
  case lload => unfold zldl; split <;> first | exact yC_nx rfl | exact yC_no
  case aload_n => unfold zldr; split <;> first | exact yC_nx rfl | exact yC_no
  case aload => unfold zldr; split <;> first | exact yC_nx rfl | exact yC_no
  case istore_n => unfold zsti; split <;> first | exact yC_bif (yC_nx rfl) yC_no | exact yC_no
  case istore => unfold zsti; split <;> first | exact yC_bif (yC_nx rfl) yC_no | exact yC_no
  case lstore_n => unfold zstl; split <;> first | exact yC_bif (yC_nx rfl) yC_no | exact yC_no
  case lstore => unfold zstl; split <;> first | exact yC_bif (yC_nx rfl) yC_no | exact yC_no
  case astore_n => unfold zstr; split <;> first | exact yC_bif (yC_nx rfl) yC_no | exact yC_no
  case astore => unfold zstr; split <;> first | exact yC_bif (yC_nx rfl) yC_no | exact yC_no
  case goto => split <;> first | exact yC_nx rfl | exact yC_no
  case ldc => split <;> first | exact yC_nx rfl | (split <;> first | exact yC_nx rfl | exact yC_no)
  case i2c => split <;> first | exact yC_ite (fun _ => yC_nx rfl) (fun _ => yC_no) | exact yC_no
  all_goals first
    | exact yC_nx rfl
    | exact yC_bif (yC_nx rfl) yC_no
    | (unfold zbin; split <;> first | exact yC_nx rfl | exact yC_no)
    | (unfold zlbin; split <;> first | exact yC_nx rfl | exact yC_no)
    | (unfold zlsh; split <;> first | exact yC_nx rfl | exact yC_no)
    | (split <;> first | exact yC_nx rfl | exact yC_no | exact yC_bif (yC_nx rfl) yC_no | exact yC_ite (fun _ => yC_no) (fun _ => yC_nx rfl))
end YSC
/-- the constructors: none of them looks at an array -/
def ycons : List Nat := [0, 22, 27, 31, 36, 56, 65, 80, 92, 103]
def yokc (y : Nat) : Bool := (zth2 [] zcodes y).all fun l => l.all fun e => yok e.2.1 && (match e.2.1 with
  | .invokevirtual n => (match zmt (zinf y).1 n with | some y9 => Nat.ble 9000 y9 || ycons.any (Nat.beq y9) | none => true)
  | .invokestatic n => (match zmt (zinf y).1 n with | some y9 => Nat.ble 9000 y9 || ycons.any (Nat.beq y9) | none => true)
  | .invokespecial n => (match zmt (zinf y).1 n with | some y9 => Nat.ble 9000 y9 || ycons.any (Nat.beq y9) | none => true)
  | _ => true)
theorem yokc_all : ycons.all yokc = true := by decide +kernel
theorem yok_at {y pc len : Nat} {i : Instr} (hy : y ∈ ycons) (hr : zraw y pc = some (i, len)) : yok i = true ∧ ∀ n y9, (i = .invokevirtual n ∨ i = .invokestatic n ∨ i = .invokespecial n) → zmt (zinf y).1 n = some y9 → y9 < 9000 → y9 ∈ ycons := by
  have h1 := zlk_mem hr
  have h2 := List.all_eq_true.mp yokc_all y hy
  unfold yokc at h2
  have key : ∀ (ls : List (List (Nat × Instr × Nat))) (P : Nat × Instr × Nat → Bool), (ls.all fun l => l.all P) = true → ∀ n, (zth [] ls n).all P = true := by
    intro ls P hl n
    exact zth_all (P := fun x => (List.all x P) = true) rfl (List.all_eq_true.mp hl) n
  have h3 := List.all_eq_true.mp (key _ _ h2 (pc / 32)) _ h1
  simp only [Bool.and_eq_true] at h3
  refine ⟨h3.1, fun n y9 hi hm h9 => ?_⟩
  have h4 := h3.2
  have hb : Nat.ble 9000 y9 = false := by
    cases q : Nat.ble 9000 y9 with
    | false => rfl
    | true => have := Nat.le_of_ble_eq_true q; omega
  rcases hi with rfl | rfl | rfl
  · simp only [hm, hb, Bool.false_or] at h4
    obtain ⟨x, h5, h6⟩ := List.any_eq_true.mp h4
    rw [Nat.eq_of_beq_eq_true h6]; exact h5
  · simp only [hm, hb, Bool.false_or] at h4
    obtain ⟨x, h5, h6⟩ := List.any_eq_true.mp h4
    rw [Nat.eq_of_beq_eq_true h6]; exact h5
  · simp only [hm, hb, Bool.false_or] at h4
    obtain ⟨x, h5, h6⟩ := List.any_eq_true.mp h4
    rw [Nat.eq_of_beq_eq_true h6]; exact h5
theorem ycth_none {f : zF} {k : Nat} (hf : f.1 ∈ ycons) : zcth f k = none := by
  have h : (ycons.all fun y => (zlk zhds y).isNone) = true := by decide +kernel
  have h2 := List.all_eq_true.mp h f.1 hf
  unfold zcth
  rw [Option.isNone_iff_eq_none.mp h2]
theorem ybig_sc {h : Nat → Nat → Int} : ∀ (n d : Nat) (f : zF) (σ : zW) (r : zO × zW), f.1 ∈ ycons → zbig false n d f σ = some r → zbig false n d f (zsc h σ) = some (r.1, zsc h r.2) := by
  intro n
  induction n with
  | zero => intro d f σ r _ e; simp [zbig] at e
  | succ n ih =>
    intro d f σ r hf e
    rw [zbig] at e ⊢
    cases hs : zstep false f σ with
    | none => rw [hs] at e; cases e
    | some w =>
      have hs2 := hs
      unfold zstep at hs2
      cases hr : zraw f.1 f.2.1 with
      | none => rw [hr] at hs2; cases hs2
      | some q =>
        obtain ⟨i, len⟩ := q
        rw [hr] at hs2
        simp only at hs2
        obtain ⟨k1, k2⟩ := yok_at hf hr
        have h1 : zstep false f (zsc h σ) = some (zscR h w) := by
          unfold zstep
          rw [hr]
          exact yC_exec k1 w hs2
        rw [hs] at e
        rw [h1]
        rcases zexec_cls hs2 with ⟨f', σ', rfl, hfm, hle⟩ | ⟨kd, nn, y9, hi, hmt, hy9, hcall⟩ | hretc | ⟨k, nn, rfl, hth, hcat, rfl⟩
        · exact ih d f' σ' r (by rw [hfm]; exact hf) e
        · have hy : y9 ∈ ycons := k2 nn y9 (by rcases hi with ⟨-, hi⟩ | ⟨-, hi⟩ | ⟨-, hi⟩ <;> simp [hi]) hmt hy9
          obtain ⟨as, rest, hpop, hkd, hcat, hlay, hrk, rfl⟩ := zcall_cls hcall
          cases d with
          | zero => cases e
          | succ d =>
            simp only [zscR] at e ⊢
            cases hg : zbig false n d (zent y9 as) σ with
            | none => rw [hg] at e; cases e
            | some w2 =>
              rw [hg] at e
              have h3 := ih d (zent y9 as) σ w2 hy hg
              rw [h3]
              match w2 with
              | (.inl v, σ2) =>
                refine ih _ _ _ _ ?_ e
                cases v <;> exact hf
              | (.inr k, σ2) =>
                simp only at e ⊢
                have hc : zcth (f.1, f.2.1 + 3, f.2.2.1, rest) k = none := ycth_none hf
                rw [hc] at e ⊢
                cases e
                rfl
        · rcases hretc with ⟨z, rfl, hst, rfl, hrt⟩ | ⟨x, rfl, hst, rfl, hrt⟩ | ⟨rfl, hst, rfl, hrt⟩
          · cases e; rfl
          · cases e; rfl
          · cases e; rfl
        · cases e; rfl

/-- the world before anything is made -/
def yz0 : zW := (fun _ _ => 0, fun _ _ => 0, fun _ _ => 0, 0, 0, 0)
def ydn (r : Option (zO × zW)) : Option zW := match r with
  | some (.inl none, σ) => some σ
  | _ => none
def yc1 : Option zW := ydn (zbig false 4000 59 (zent 103 [.inr (.inr 1)]) (zal yz0 16))
/-- what is asked of the world behind the constructors -/
def yini : List (Nat × Nat × Int) := [(1, 13, 0), (1, 14, 0), (1, 15, (-1)), (2, 1, 0), (2, 2, 0), (2, 3, 0), (2, 4, 0), (5, 11, 0), (5, 12, 0), (17, 11, 0), (17, 12, 0), (29, 11, 0), (29, 12, 0), (68, 11, 0), (68, 12, 0), (41, 8, 0), (41, 9, 0), (50, 1, (-1)), (50, 2, 1), (50, 3, 0), (50, 4, 0), (50, 5, 0), (52, 1, (-1)), (52, 2, 1), (52, 3, 0), (52, 4, 0), (52, 5, 0), (54, 6, 0), (54, 7, 0), (54, 8, 0), (54, 9, 0), (61, 4, 0), (65, 0, (-1)), (65, 1, (-1)), (65, 2, (-1)), (66, 1, 0), (80, 14, 0), (80, 15, 0), (80, 16, 0), (95, 14, 0), (95, 15, 0), (95, 16, 0), (110, 5, 0), (116, 5, 0)]
def yrfs : List (Nat × Nat × Nat) := [(1, 8, 68), (1, 9, 80), (1, 10, 95), (1, 11, 110), (1, 12, 116), (4, 0, 5), (4, 1, 17), (4, 2, 29)]
def ychk (τ : zW) : Bool :=
  (yini.all fun e => decide (gI τ e.1 e.2.1 = e.2.2)) && ((yrfs.all fun e => Nat.beq (gR τ e.1 e.2.1) e.2.2) && (
  Nat.beq (gN τ) 121 && (Nat.beq (gC τ) 121 && (Nat.ble (gS τ) 40000 &&
  ((List.range 122).all fun k => bif Nat.blt (zkd k) 12 && Nat.blt 0 (zkd k) then (List.range (zln k)).all fun j => !(yFin (zkd k - 1) j) || Nat.beq (gR τ k j) (zrf (zkd k - 1) k j) else true)))))
theorem ychk_I {τ : zW} (h : ychk τ = true) {k j : Nat} {x : Int} (hm : (k, j, x) ∈ yini) : gI τ k j = x := by
  unfold ychk at h
  simp only [Bool.and_eq_true] at h
  exact of_decide_eq_true (List.all_eq_true.mp h.1 _ hm)
theorem ychk_R {τ : zW} (h : ychk τ = true) {k j x : Nat} (hm : (k, j, x) ∈ yrfs) : gR τ k j = x := by
  unfold ychk at h
  simp only [Bool.and_eq_true] at h
  exact Nat.eq_of_beq_eq_true (List.all_eq_true.mp h.2.1 _ hm)
theorem yFin_j : ((List.range 11).all fun ci => zfts.all fun l => l.all fun e => Nat.blt e.2.2.1 (bif Nat.beq e.2.1 0 then 10 else bif Nat.beq e.2.1 1 then 6 else bif Nat.beq e.2.1 2 then 5 else bif Nat.beq e.2.1 3 then 2 else bif Nat.beq e.2.1 4 then 17 else bif Nat.beq e.2.1 5 then 6 else bif Nat.beq e.2.1 6 then 13 else bif Nat.beq e.2.1 7 then 5 else bif Nat.beq e.2.1 8 then 13 else bif Nat.beq e.2.1 9 then 16 else 89)) = true := by decide +kernel
theorem zln_obj : ((List.range 124).all fun k => bif Nat.blt 0 (zkd k) && Nat.blt (zkd k) 12 then (List.range 11).all fun ci => bif Nat.beq (zkd k) (ci + 1) then Nat.blt k 122 && zfts.all fun l => l.all fun e => bif Nat.beq e.2.1 ci then Nat.blt e.2.2.1 (zln k) else true else true else true) = true := by decide +kernel
theorem ychk_Ld {τ : zW} (h : ychk τ = true) : yLd τ := by
  intro ci k j hk hf
  have hci := yFin_lt hf
  have hin := zkd_in (k := k) (by omega) (by omega) (by omega)
  unfold ychk at h
  simp only [Bool.and_eq_true] at h
  have h1 := List.all_eq_true.mp zln_obj k (List.mem_range.mpr (by omega))
  have hb : (Nat.blt 0 (zkd k) && Nat.blt (zkd k) 12) = true := by
    rw [Bool.and_eq_true, Nat.blt_eq, Nat.blt_eq]; omega
  rw [hb] at h1
  have h2 := List.all_eq_true.mp h1 ci (List.mem_range.mpr hci)
  rw [hk, Nat.beq_refl] at h2
  simp only [cond_true, Bool.and_eq_true, Nat.blt_eq] at h2
  have hj : j < zln k := by
    unfold yFin at hf
    obtain ⟨l, g1, g2⟩ := List.any_eq_true.mp hf
    obtain ⟨e, g3, g4⟩ := List.any_eq_true.mp g2
    simp only [Bool.and_eq_true] at g4
    have g5 := List.all_eq_true.mp (List.all_eq_true.mp h2.2 l g1) e g3
    rw [g4.1] at g5
    simp only [cond_true, Nat.blt_eq] at g5
    rw [← Nat.eq_of_beq_eq_true g4.2.1]
    exact g5
  have h3 := List.all_eq_true.mp h.2.2.2.2.2 k (List.mem_range.mpr h2.1)
  have hb2 : (Nat.blt (zkd k) 12 && Nat.blt 0 (zkd k)) = true := by
    rw [Bool.and_eq_true, Nat.blt_eq, Nat.blt_eq]; omega
  rw [hb2] at h3
  have h4 := List.all_eq_true.mp h3 j (List.mem_range.mpr hj)
  rw [show zkd k - 1 = ci by omega, hf] at h4
  simp only [Bool.not_true, Bool.false_or] at h4
  exact Nat.eq_of_beq_eq_true h4
theorem zE_big {b : Bool} {n : Nat} {g : zF} {K : List zF} {σ σ2 : zW} {v : Option zV} (h : zbig b n (zD - K.length) g σ = some (.inl v, σ2)) : zEv b (g :: K) σ = zRet b K v σ2 := by
  apply propext
  constructor
  · rintro ⟨n2, q, r, h1, h2, h3⟩
    have e1 := zbig_le h1 (Nat.le_max_left n2 n)
    have e2 := zbig_le h (Nat.le_max_right n2 n)
    rw [e1] at e2
    cases e2
    exact ⟨n2, r, h2, h3⟩
  · rintro ⟨n2, r, h2, h3⟩
    exact ⟨max n n2, _, r, zbig_le h (Nat.le_max_left _ _), zgo_le (Nat.le_max_right _ _) _ _ _ h2, h3⟩
theorem y_new {m pc n ci k : Nat} {ls : List (Option zV)} {st : List zV} {σ : zW} (hr : zraw m pc = some (.new n, 3)) (hth : zths m pc = none) (hct : zct (zinf m).1 n = some ci) (hN : gN σ + 1 = k) (hk : zkd k = ci + 1) : zstep false (m, pc, ls, st) σ = some (.inl ((m, pc + 3, ls, .inr (.inr k) :: st), zal σ (zln k))) := by
  subst hN
  unfold zstep
  simp only [hr, zexec, hth, hct, zmk, cond_false]
  rw [if_pos ⟨hk, trivial⟩]
  rfl
theorem y_newi {m pc k n : Nat} {z : Int} {ls : List (Option zV)} {st : List zV} {σ : zW} (hz : z = Int.ofNat n) (hr : zraw m pc = some (.newarray .int, 2)) (hN : gN σ + 1 = k) (hk : zkd k = 20 ∧ zln k = n) : zstep false (m, pc, ls, .inl z :: st) σ = some (.inl ((m, pc + 2, ls, .inr (.inr k) :: st), zal σ n)) := by
  subst hN
  subst hz
  unfold zstep
  simp only [hr, zexec, zmka, zmk, cond_false]
  rw [if_pos hk]
  rfl
theorem zsc_al {h : Nat → Nat → Int} {σ : zW} {n : Nat} : zal (zsc h σ) n = zsc h (zal σ n) := rfl
theorem yl_0 : zraw 165 0 = some (.new 10, 3) ∧ zths 165 0 = none ∧ zct (zinf 165).1 10 = some 9 ∧ zkd 1 = 9 + 1 ∧ zln 1 = 16 := by decide +kernel
theorem yl_10 : zraw 165 10 = some (.newarray .int, 2) ∧ zkd 122 = 20 ∧ zln 122 = 40 := by decide +kernel
theorem yl_14 : zraw 165 14 = some (.newarray .int, 2) ∧ zkd 123 = 20 ∧ zln 123 = 1 := by decide +kernel
