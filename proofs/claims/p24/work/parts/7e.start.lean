/-! the start again: the tapes are empty -/
def zcut3 (k j : Nat) : Prop := 99990 ≤ k ∨ (k = 3 ∧ 600 ≤ j)
noncomputable def zsk (h : Nat → Nat → Int) (σ : zW) : zW := (fun k j => @ite Int (zcut3 k j) (Classical.propDecidable _) (h k j) (σ.1 k j), σ.2)
noncomputable def zskR (h : Nat → Nat → Int) : zR → zR
  | .inl (f, σ) => .inl (f, zsk h σ)
  | .inr (.inl (g, f, σ)) => .inr (.inl (g, f, zsk h σ))
  | .inr (.inr (.inl (v, σ))) => .inr (.inr (.inl (v, zsk h σ)))
  | .inr (.inr (.inr (k, σ))) => .inr (.inr (.inr (k, zsk h σ)))
def yE (h : Nat → Nat → Int) (o o' : Option zR) : Prop := ∀ w, o = some w → o' = some (zskR h w)
theorem yE_no {h : Nat → Nat → Int} {o' : Option zR} : yE h none o' := fun w q => by cases q
theorem yE_so {h : Nat → Nat → Int} {w : zR} {o' : Option zR} (q : o' = some (zskR h w)) : yE h (some w) o' := fun w2 e => by cases e; exact q
theorem yE_nx {h : Nat → Nat → Int} {m pc : Nat} {ls : List (Option zV)} {st : List zV} {σ σ' : zW} (q : σ' = zsk h σ) : yE h (znx m pc ls st σ) (znx m pc ls st σ') := by
  subst q
  exact fun w e => by cases e; rfl
theorem yE_ite {h : Nat → Nat → Int} {c : Prop} {dc : Decidable c} {a b a' b' : Option zR} (ha : c → yE h a a') (hb : ¬ c → yE h b b') : yE h (if c then a else b) (if c then a' else b') := by
  by_cases q : c
  · rw [if_pos q, if_pos q]; exact ha q
  · rw [if_neg q, if_neg q]; exact hb q
theorem yE_bif {h : Nat → Nat → Int} {c : Bool} {a b a' b' : Option zR} (ha : yE h a a') (hb : yE h b b') : yE h (bif c then a else b) (bif c then a' else b') := by
  cases c
  · exact hb
  · exact ha
theorem zsk_I {h : Nat → Nat → Int} {σ : zW} {k j : Nat} {x : Int} (hk : ¬ zcut3 k j) : sI (zsk h σ) k j x = zsk h (sI σ k j x) := by
  unfold sI zsk
  refine Prod.ext ?_ rfl
  funext k' j'
  show zup (fun k j => @ite Int (zcut3 k j) (Classical.propDecidable _) (h k j) (σ.1 k j)) k j x k' j' = @ite Int (zcut3 k' j') (Classical.propDecidable _) (h k' j') (zup σ.1 k j x k' j')
  unfold zup
  by_cases q : k' = k ∧ j' = j
  · rw [if_pos q, if_pos q, if_neg (by rw [q.1, q.2]; exact hk)]
  · rw [if_neg q, if_neg q]
theorem zkd_nc {k j : Nat} (h0 : zkd k ≠ 0) (h1 : zkd k < 12) : ¬ zcut3 k j := by
  have h2 := zkd_small h0 (by omega)
  have h3 : zkd 3 = 20 := by decide +kernel
  unfold zcut3
  rintro (x | ⟨x, -⟩)
  · omega
  · rw [x] at h1; omega
theorem zkd_nl {k : Nat} {i : Int} (h0 : zkd k ≠ 0) (h1 : zkd k < 25) (hi : 0 ≤ i ∧ i < (zln k : Int)) : ¬ zcut3 k i.toNat := by
  have h2 := zkd_small h0 h1
  have h3 : zln 3 = 600 := by decide +kernel
  unfold zcut3
  rintro (x | ⟨x, y⟩)
  · omega
  · rw [x] at hi; omega
section YSK
variable {h : Nat → Nat → Int} {m pc : Nat} {ls : List (Option zV)} {st : List zV} {σ : zW}
theorem yE_call {kd y : Nat} : yE h (zcall kd y m pc ls st σ) (zcall kd y m pc ls st (zsk h σ)) := by
  unfold zcall
  split
  · exact yE_no
  · exact yE_bif (yE_bif (yE_so rfl) (yE_ite (fun _ => yE_so rfl) (fun _ => yE_no))) yE_no
theorem yE_inv {kd : Nat} {q : Option Nat} : yE h (zinv kd q m pc ls st σ) (zinv kd q m pc ls st (zsk h σ)) := by
  unfold zinv
  split
  · exact yE_no
  · refine yE_bif ?_ yE_call
    split
    · exact yE_bif (yE_ite (fun _ => yE_no) (fun _ => yE_nx rfl)) yE_no
    · exact yE_bif (yE_ite (fun _ => yE_nx rfl) (fun _ => yE_no)) yE_no
    · exact yE_bif (yE_ite (fun _ => yE_nx rfl) (fun _ => yE_no)) yE_no
    · exact yE_bif (yE_nx rfl) yE_no
    · exact yE_bif (yE_nx rfl) yE_no
    · exact yE_no
theorem yE_if {P : Prop} {dP : Decidable P} {off : Int} : yE h (@zif P dP m pc off ls st σ) (@zif P dP m pc off ls st (zsk h σ)) := by
  unfold zif; split <;> first | exact yE_nx rfl | exact yE_no
theorem yE_br {c : ClassFile.Cond} {x y off : Int} : yE h (zbr c x y m pc off ls st σ) (zbr c x y m pc off ls st (zsk h σ)) := by
  cases c <;> exact yE_if
theorem yE_gf {o n : Nat} : yE h (zgf false (zft o n) m pc ls st σ) (zgf false (zft o n) m pc ls st (zsk h σ)) := by
  unfold zgf
  split
  · rename_i ci j ty fin k st' hq
    refine yE_ite (fun hk => ?_) (fun _ => yE_no)
    have h1 := (yft_ok hq).1
    have h2 : ¬ zcut3 k j := zkd_nc (by omega) (by omega)
    have h3 : zrd ty (zsk h σ) k j = zrd ty σ k j := by
      have : gI (zsk h σ) k j = gI σ k j := if_neg h2
      match ty with
      | 0 => show (.inl (gI (zsk h σ) k j) : zV) = _; rw [this]; rfl
      | 1 => show (.inl (gI (zsk h σ) k j) : zV) = _; rw [this]; rfl
      | 2 => rfl
      | _ + 3 => rfl
    simp only [Bool.false_and, cond_false, h3]
    exact yE_nx rfl
  · exact yE_no
theorem yE_pf {o n : Nat} : yE h (zpf false (zft o n) m pc ls st σ) (zpf false (zft o n) m pc ls st (zsk h σ)) := by
  unfold zpf
  split
  · rename_i ci j ty fin v k st' hq
    refine yE_bif (yE_ite (fun hk => ?_) (fun _ => yE_no)) yE_no
    have h1 := (yft_ok hq).1
    have h2 : ¬ zcut3 k j := zkd_nc (by omega) (by omega)
    split
    · exact yE_nx (zsk_I h2)
    · exact yE_ite (fun _ => yE_nx (zsk_I h2)) (fun _ => yE_no)
    · exact yE_nx rfl
    · exact yE_nx rfl
    · exact yE_no
  · exact yE_no
theorem yE_ast {t : Nat} (ht : 20 ≤ t ∧ t < 25) : yE h (zast t m pc ls st σ) (zast t m pc ls st (zsk h σ)) := by
  unfold zast
  split
  · refine yE_ite (fun hk => yE_ite (fun hb => ?_) (fun _ => yE_no)) (fun _ => yE_no)
    have h2 := zkd_nl (by omega) (by omega) hb
    split
    · exact yE_nx (zsk_I h2)
    · exact yE_nx rfl
    · exact yE_ite (fun _ => yE_nx (zsk_I h2)) (fun _ => yE_no)
    · exact yE_ite (fun _ => yE_nx rfl) (fun _ => yE_no)
    · exact yE_no
  · exact yE_no
theorem yE_mk {t n : Nat} : yE h (zmk false t n m pc ls st σ) (zmk false t n m pc ls st (zsk h σ)) := yE_ite (fun _ => yE_nx rfl) (fun _ => yE_no)
theorem yE_mka {t : Nat} : yE h (zmka false t m pc ls st σ) (zmka false t m pc ls st (zsk h σ)) := by
  unfold zmka
  split <;> first | exact yE_mk | exact yE_no
theorem yE_exec {i : Instr} {len : Nat} (hi : yok i = true) : yE h (zexec false i len m pc ls st σ) (zexec false i len m pc ls st (zsk h σ)) := by
  cases i <;> first | (simp only [zexec]; exact yE_no) | (cases hi; done) | simp only [zexec]
  case getfield => exact yE_gf
  case putfield => exact yE_pf
  case iastore => exact yE_ast (by omega)
  case lastore => exact yE_ast (by omega)
  case bastore => exact yE_ast (by omega)
  case aastore => exact yE_ast (by omega)
  case new =>
    split
    · exact yE_bif (yE_so rfl) yE_no
    · split
      · exact yE_mk
      · exact yE_no
  case newarray => split <;> first | exact yE_mka | exact yE_no
  case anewarray => split <;> first | exact yE_bif yE_mka yE_no | exact yE_no
  case invokevirtual => exact yE_inv
  case invokestatic => exact yE_inv
  case invokespecial => exact yE_inv
  case ifCond => split <;> first | exact yE_br | exact yE_no
  case if_icmp => split <;> first | exact yE_br | exact yE_no
  case ireturn => split <;> first | (split <;> first | exact yE_so rfl | exact yE_ite (fun _ => yE_so rfl) (fun _ => yE_no) | exact yE_no) | exact yE_no
  case lreturn => split <;> first | exact yE_bif (yE_so rfl) yE_no | exact yE_no
  case return_ => split <;> first | exact yE_bif (yE_so rfl) yE_no | exact yE_no
  case iload_n => unfold zldi; split <;> first | exact yE_nx rfl | exact yE_no
  case iload => unfold zldi; split <;> first | exact yE_nx rfl | exact yE_no
  case lload_n => unfold zldl; split <;> first | exact yE_nx rfl | exact yE_no
  case lload => unfold zldl; split <;> first | exact yE_nx rfl | exact yE_no
  case aload_n => unfold zldr; split <;> first | exact yE_nx rfl | exact yE_no
  case aload => unfold zldr; split <;> first | exact yE_nx rfl | exact yE_no
  case istore_n => unfold zsti; split <;> first | exact yE_bif (yE_nx rfl) yE_no | exact yE_no
  case istore => unfold zsti; split <;> first | exact yE_bif (yE_nx rfl) yE_no | exact yE_no
  case lstore_n => unfold zstl; split <;> first | exact yE_bif (yE_nx rfl) yE_no | exact yE_no
  case lstore => unfold zstl; split <;> first | exact yE_bif (yE_nx rfl) yE_no | exact yE_no
  case astore_n => unfold zstr; split <;> first | exact yE_bif (yE_nx rfl) yE_no | exact yE_no
  case astore => unfold zstr; split <;> first | exact yE_bif (yE_nx rfl) yE_no | exact yE_no
  case goto => split <;> first | exact yE_nx rfl | exact yE_no
  case ldc => split <;> first | exact yE_nx rfl | (split <;> first | exact yE_nx rfl | exact yE_no)
  case i2c => split <;> first | exact yE_ite (fun _ => yE_nx rfl) (fun _ => yE_no) | exact yE_no
  all_goals first
    | exact yE_nx rfl
    | exact yE_bif (yE_nx rfl) yE_no
    | (unfold zbin; split <;> first | exact yE_nx rfl | exact yE_no)
    | (unfold zlbin; split <;> first | exact yE_nx rfl | exact yE_no)
    | (unfold zlsh; split <;> first | exact yE_nx rfl | exact yE_no)
    | (split <;> first | exact yE_nx rfl | exact yE_no | exact yE_bif (yE_nx rfl) yE_no | exact yE_ite (fun _ => yE_no) (fun _ => yE_nx rfl))
end YSK
theorem ybig_sk {h : Nat → Nat → Int} : ∀ (n d : Nat) (f : zF) (σ : zW) (r : zO × zW), f.1 ∈ ycons → zbig false n d f σ = some r → zbig false n d f (zsk h σ) = some (r.1, zsk h r.2) := by
  intro n
  induction n with
  | zero => intro d f σ r _ e; simp [zbig] at e
  | succ n ih =>
    intro d f σ r hf e
    rw [zbig] at e ⊢
    cases hs : zstep false f σ with
    | none => rw [hs] at e; cases e
    | some w =>
      have hs2 := hs
      unfold zstep at hs2
      cases hr : zraw f.1 f.2.1 with
      | none => rw [hr] at hs2; cases hs2
      | some q =>
        obtain ⟨i, len⟩ := q
        rw [hr] at hs2
        simp only at hs2
        obtain ⟨k1, k2⟩ := yok_at hf hr
        have h1 : zstep false f (zsk h σ) = some (zskR h w) := by
          unfold zstep
          rw [hr]
          exact yE_exec k1 w hs2
        rw [hs] at e
        rw [h1]
        rcases zexec_cls hs2 with ⟨f', σ', rfl, hfm, hle⟩ | ⟨kd, nn, y9, hi, hmt, hy9, hcall⟩ | hretc | ⟨k, nn, rfl, hth, hcat, rfl⟩
        · exact ih d f' σ' r (by rw [hfm]; exact hf) e
        · have hy : y9 ∈ ycons := k2 nn y9 (by rcases hi with ⟨-, hi⟩ | ⟨-, hi⟩ | ⟨-, hi⟩ <;> simp [hi]) hmt hy9
          obtain ⟨as, rest, hpop, hkd, hcat, hlay, hrk, rfl⟩ := zcall_cls hcall
          cases d with
          | zero => cases e
          | succ d =>
            simp only [zskR] at e ⊢
            cases hg : zbig false n d (zent y9 as) σ with
            | none => rw [hg] at e; cases e
            | some w2 =>
              rw [hg] at e
              have h3 := ih d (zent y9 as) σ w2 hy hg
              rw [h3]
              match w2 with
              | (.inl v, σ2) =>
                refine ih _ _ _ _ ?_ e
                cases v <;> exact hf
              | (.inr k, σ2) =>
                simp only at e ⊢
                have hc : zcth (f.1, f.2.1 + 3, f.2.2.1, rest) k = none := ycth_none hf
                rw [hc] at e ⊢
                cases e
                rfl
        · rcases hretc with ⟨z, rfl, hst, rfl, hrt⟩ | ⟨x, rfl, hst, rfl, hrt⟩ | ⟨rfl, hst, rfl, hrt⟩
          · cases e; rfl
          · cases e; rfl
          · cases e; rfl
        · cases e; rfl

