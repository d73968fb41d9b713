/-! what a step can be; facts of the methods -/
def zle (σ σ' : zW) : Prop := gN σ ≤ gN σ' ∧ gC σ ≤ gC σ' ∧ gS σ ≤ gS σ'
theorem zle.rf {σ : zW} : zle σ σ := ⟨Nat.le_refl _, Nat.le_refl _, Nat.le_refl _⟩
theorem zle.trans {a b c : zW} (h : zle a b) (h2 : zle b c) : zle a c := ⟨Nat.le_trans h.1 h2.1, Nat.le_trans h.2.1 h2.2.1, Nat.le_trans h.2.2 h2.2.2⟩
/-- goes on in the same method, or isn't -/
def zN (m : Nat) (σ : zW) (o : Option zR) : Prop := ∀ w, o = some w → ∃ (f' : zF) (σ' : zW), w = .inl (f', σ') ∧ f'.1 = m ∧ zle σ σ'
theorem zN_no {m : Nat} {σ : zW} : zN m σ none := fun w h => by cases h
theorem zN_nx {m pc : Nat} {ls : List (Option zV)} {st : List zV} {σ σ' : zW} (h : zle σ σ') : zN m σ (znx m pc ls st σ') := fun w e => by cases e; exact ⟨_, _, rfl, rfl, h⟩
theorem zN_ite {m : Nat} {σ : zW} {c : Prop} {dc : Decidable c} {a b : Option zR} (ha : zN m σ a) (hb : zN m σ b) : zN m σ (if c then a else b) := by
  by_cases h : c
  · rw [if_pos h]; exact ha
  · rw [if_neg h]; exact hb
theorem zN_bif {m : Nat} {σ : zW} {c : Bool} {a b : Option zR} (ha : zN m σ a) (hb : zN m σ b) : zN m σ (bif c then a else b) := by
  cases c
  · exact hb
  · exact ha
theorem zle_I {σ : zW} {k j : Nat} {x : Int} : zle σ (sI σ k j x) := ⟨Nat.le_refl _, Nat.le_refl _, Nat.le_refl _⟩
theorem zle_L {σ : zW} {k j : Nat} {x : Int64} : zle σ (sL σ k j x) := ⟨Nat.le_refl _, Nat.le_refl _, Nat.le_refl _⟩
theorem zle_R {σ : zW} {k j x : Nat} : zle σ (sR σ k j x) := ⟨Nat.le_refl _, Nat.le_refl _, Nat.le_refl _⟩
theorem zle_al {σ : zW} {n : Nat} : zle σ (zal σ n) := ⟨Nat.le_succ _, Nat.le_succ _, Nat.le_add_right _ _⟩
theorem zle_ex {σ : zW} : zle σ (zex σ) := ⟨Nat.le_refl _, Nat.le_succ _, Nat.le_add_right _ _⟩
section ZCLS
variable {m pc : Nat} {ls : List (Option zV)} {st : List zV} {σ : zW}
theorem zN_if {P : Prop} {dP : Decidable P} {off : Int} : zN m σ (@zif P dP m pc off ls st σ) := by
  unfold zif; split <;> first | exact zN_nx zle.rf | exact zN_no
theorem zN_br {c : ClassFile.Cond} {x y off : Int} : zN m σ (zbr c x y m pc off ls st σ) := by
  cases c <;> exact zN_if
theorem zN_ldi {k : Nat} : zN m σ (zldi m pc k ls st σ) := by unfold zldi; split <;> first | exact zN_nx zle.rf | exact zN_no
theorem zN_ldl {k : Nat} : zN m σ (zldl m pc k ls st σ) := by unfold zldl; split <;> first | exact zN_nx zle.rf | exact zN_no
theorem zN_ldr {k : Nat} : zN m σ (zldr m pc k ls st σ) := by unfold zldr; split <;> first | exact zN_nx zle.rf | exact zN_no
theorem zN_sti {k : Nat} : zN m σ (zsti m pc k ls st σ) := by unfold zsti; split <;> first | exact zN_bif (zN_nx zle.rf) zN_no | exact zN_no
theorem zN_stl {k : Nat} : zN m σ (zstl m pc k ls st σ) := by unfold zstl; split <;> first | exact zN_bif (zN_nx zle.rf) zN_no | exact zN_no
theorem zN_str {k : Nat} : zN m σ (zstr m pc k ls st σ) := by unfold zstr; split <;> first | exact zN_bif (zN_nx zle.rf) zN_no | exact zN_no
theorem zN_gf {b : Bool} {q : Option (Nat × Nat × Nat × Bool)} : zN m σ (zgf b q m pc ls st σ) := by unfold zgf; split <;> first | exact zN_ite (zN_nx zle.rf) zN_no | exact zN_no
theorem zN_pf {b : Bool} {q : Option (Nat × Nat × Nat × Bool)} : zN m σ (zpf b q m pc ls st σ) := by
  unfold zpf
  split
  · refine zN_bif (zN_ite ?_ zN_no) zN_no
    split <;> first | exact zN_nx zle_I | exact zN_ite (zN_nx zle_I) zN_no | exact zN_nx zle_L | exact zN_nx zle_R | exact zN_no
  · exact zN_no
theorem zN_ald {t : Nat} : zN m σ (zald t m pc ls st σ) := by
  unfold zald
  split
  · refine zN_ite (zN_ite ?_ zN_no) (zN_ite (zN_ite (zN_nx zle.rf) zN_no) zN_no)
    split <;> first | exact zN_nx zle.rf | exact zN_no
  · exact zN_no
theorem zN_ast {t : Nat} : zN m σ (zast t m pc ls st σ) := by
  unfold zast
  split
  · refine zN_ite (zN_ite ?_ zN_no) zN_no
    split <;> first | exact zN_nx zle_I | exact zN_nx zle_L | exact zN_ite (zN_nx zle_I) zN_no | exact zN_ite (zN_nx zle_R) zN_no | exact zN_no
  · exact zN_no
theorem zN_lng : zN m σ (zlng m pc ls st σ) := by
  unfold zlng
  split
  · exact zN_ite (zN_nx zle.rf) (zN_ite (zN_nx zle.rf) zN_no)
  · exact zN_no
theorem zN_mk {b : Bool} {t n : Nat} : zN m σ (zmk b t n m pc ls st σ) := by
  unfold zmk
  exact zN_bif zN_no (zN_ite (zN_nx zle_al) zN_no)
theorem zN_mka {b : Bool} {t : Nat} : zN m σ (zmka b t m pc ls st σ) := by
  unfold zmka
  split
  · exact zN_mk
  · exact zN_no
theorem zN_bin {f : Int → Int → Int} : zN m σ (zbin f m pc ls st σ) := by unfold zbin; split <;> first | exact zN_nx zle.rf | exact zN_no
theorem zN_lbin {f : Int64 → Int64 → Int64} : zN m σ (zlbin f m pc ls st σ) := by unfold zlbin; split <;> first | exact zN_nx zle.rf | exact zN_no
theorem zN_lsh {f : Int64 → Int → Int64} : zN m σ (zlsh f m pc ls st σ) := by unfold zlsh; split <;> first | exact zN_nx zle.rf | exact zN_no
theorem zinv_cls {kd : Nat} {q : Option Nat} {w : zR} (h : zinv kd q m pc ls st σ = some w) : (∃ (f' : zF) (σ' : zW), w = .inl (f', σ') ∧ f'.1 = m ∧ zle σ σ') ∨ ∃ y9, q = some y9 ∧ y9 < 9000 ∧ zcall kd y9 m pc ls st σ = some w := by
  unfold zinv at h
  split at h
  · cases h
  · rename_i y9
    cases hb : Nat.ble 9000 y9 with
    | false =>
      rw [hb] at h
      refine Or.inr ⟨y9, rfl, ?_, h⟩
      rcases Nat.lt_or_ge y9 9000 with q | q
      · exact q
      · rw [Nat.ble_eq.mpr q] at hb; cases hb
    | true =>
      rw [hb] at h
      simp only [cond_true] at h
      refine Or.inl ?_
      split at h
      · exact (zN_bif (zN_ite zN_no (zN_nx zle.rf)) zN_no : zN m σ _) w h
      · exact (zN_bif (zN_ite (zN_nx zle.rf) zN_no) zN_no : zN m σ _) w h
      · exact (zN_bif (zN_ite (zN_nx zle.rf) zN_no) zN_no : zN m σ _) w h
      · exact (zN_bif (zN_nx zle.rf) zN_no : zN m σ _) w h
      · exact (zN_bif (zN_nx zle.rf) zN_no : zN m σ _) w h
      · cases h
/-- the four kinds of a step -/
theorem zexec_cls {b : Bool} {i : Instr} {len : Nat} {w : zR} (h : zexec b i len m pc ls st σ = some w) :
    (∃ (f' : zF) (σ' : zW), w = .inl (f', σ') ∧ f'.1 = m ∧ zle σ σ') ∨
    (∃ kd n y9, ((kd = 0 ∧ i = .invokevirtual n) ∨ (kd = 1 ∧ i = .invokestatic n) ∨ (kd = 2 ∧ i = .invokespecial n)) ∧ zmt (zinf m).1 n = some y9 ∧ y9 < 9000 ∧ zcall kd y9 m pc ls st σ = some w) ∨
    ((∃ z, i = .ireturn ∧ st = [.inl z] ∧ w = .inr (.inr (.inl (some (.inl z), σ))) ∧ ((zinf m).2.2.2.1 = 1 ∨ ((zinf m).2.2.2.1 = 2 ∧ (z = 0 ∨ z = 1)) ∨ ((zinf m).2.2.2.1 = 4 ∧ (0 ≤ z ∧ z < 65536)))) ∨
     (∃ x, i = .lreturn ∧ st = [.inr (.inl x)] ∧ w = .inr (.inr (.inl (some (.inr (.inl x)), σ))) ∧ (zinf m).2.2.2.1 = 3) ∨
     (i = .return_ ∧ st = [] ∧ w = .inr (.inr (.inl (none, σ))) ∧ (zinf m).2.2.2.1 = 0)) ∨
    (∃ k n, i = .new n ∧ zths m pc = some k ∧ zcat st ≤ 8 ∧ w = .inr (.inr (.inr (k, zex σ)))) := by
  cases i <;> first | (simp only [zexec] at h; cases h; done) | (simp only [zexec] at h)
  case invokevirtual n =>
    rcases zinv_cls h with q | ⟨y9, h1, h2, h3⟩
    · exact Or.inl q
    · exact Or.inr (Or.inl ⟨0, n, y9, Or.inl ⟨rfl, rfl⟩, h1, h2, h3⟩)
  case invokestatic n =>
    rcases zinv_cls h with q | ⟨y9, h1, h2, h3⟩
    · exact Or.inl q
    · exact Or.inr (Or.inl ⟨1, n, y9, Or.inr (Or.inl ⟨rfl, rfl⟩), h1, h2, h3⟩)
  case invokespecial n =>
    rcases zinv_cls h with q | ⟨y9, h1, h2, h3⟩
    · exact Or.inl q
    · exact Or.inr (Or.inl ⟨2, n, y9, Or.inr (Or.inr ⟨rfl, rfl⟩), h1, h2, h3⟩)
  case ireturn =>
    refine Or.inr (Or.inr (Or.inl (Or.inl ?_)))
    split at h
    · rename_i st9 z
      split at h
      · rename_i hr
        cases h
        exact ⟨z, rfl, rfl, rfl, Or.inl hr⟩
      · rename_i hr
        by_cases hz : z = 0 ∨ z = 1
        · rw [if_pos hz] at h
          cases h
          exact ⟨z, rfl, rfl, rfl, Or.inr (Or.inl ⟨hr, hz⟩)⟩
        · rw [if_neg hz] at h; cases h
      · rename_i hr
        by_cases hz : 0 ≤ z ∧ z < 65536
        · rw [if_pos hz] at h
          cases h
          exact ⟨z, rfl, rfl, rfl, Or.inr (Or.inr ⟨hr, hz⟩)⟩
        · rw [if_neg hz] at h; cases h
      · cases h
    · cases h
  case lreturn =>
    refine Or.inr (Or.inr (Or.inl (Or.inr (Or.inl ?_))))
    split at h
    · rename_i st9 x
      cases hr : Nat.beq (zinf m).2.2.2.1 3 with
      | false => rw [hr] at h; cases h
      | true => rw [hr] at h; cases h; exact ⟨x, rfl, rfl, rfl, Nat.eq_of_beq_eq_true hr⟩
    · cases h
  case return_ =>
    refine Or.inr (Or.inr (Or.inl (Or.inr (Or.inr ?_))))
    split at h
    · cases hr : Nat.beq (zinf m).2.2.2.1 0 with
      | false => rw [hr] at h; cases h
      | true => rw [hr] at h; cases h; exact ⟨rfl, rfl, rfl, Nat.eq_of_beq_eq_true hr⟩
    · cases h
  case new n =>
    split at h
    · rename_i k hk
      cases hc : Nat.ble (zcat st) 8 with
      | false => rw [hc] at h; cases h
      | true => rw [hc] at h; cases h; exact Or.inr (Or.inr (Or.inr ⟨k, n, rfl, hk, Nat.le_of_ble_eq_true hc, rfl⟩))
    · refine Or.inl ?_
      split at h
      · exact zN_mk w h
      · cases h
  all_goals refine Or.inl ?_
  case iconst => exact (zN_bif (zN_nx zle.rf) zN_no : zN m σ _) w h
  case bipush => exact (zN_bif (zN_nx zle.rf) zN_no : zN m σ _) w h
  case sipush => exact (zN_bif (zN_nx zle.rf) zN_no : zN m σ _) w h
  case lconst => exact zN_nx zle.rf w h
  case ldc => split at h <;> first | exact zN_nx zle.rf w h | (split at h <;> first | exact zN_nx zle.rf w h | cases h)
  case ldc_w => split at h <;> first | exact zN_nx zle.rf w h | cases h
  case ldc2_w => split at h <;> first | exact zN_nx zle.rf w h | cases h
  case iload_n => exact zN_ldi w h
  case iload => exact zN_ldi w h
  case lload_n => exact zN_ldl w h
  case lload => exact zN_ldl w h
  case aload_n => exact zN_ldr w h
  case aload => exact zN_ldr w h
  case istore_n => exact zN_sti w h
  case istore => exact zN_sti w h
  case lstore_n => exact zN_stl w h
  case lstore => exact zN_stl w h
  case astore_n => exact zN_str w h
  case astore => exact zN_str w h
  case iinc => split at h <;> first | exact (zN_bif (zN_nx zle.rf) zN_no : zN m σ _) w h | cases h
  case iadd => exact zN_bin w h
  case isub => exact zN_bin w h
  case imul => exact zN_bin w h
  case iand => exact zN_bin w h
  case ior => exact zN_bin w h
  case ixor => exact zN_bin w h
  case ishl => exact zN_bin w h
  case ishr => exact zN_bin w h
  case iushr => exact zN_bin w h
  case idiv => split at h <;> first | exact (zN_ite zN_no (zN_nx zle.rf) : zN m σ _) w h | cases h
  case irem => split at h <;> first | exact (zN_ite zN_no (zN_nx zle.rf) : zN m σ _) w h | cases h
  case ineg => split at h <;> first | exact zN_nx zle.rf w h | cases h
  case ladd => exact zN_lbin w h
  case lsub => exact zN_lbin w h
  case lmul => exact zN_lbin w h
  case land => exact zN_lbin w h
  case lor => exact zN_lbin w h
  case lshl => exact zN_lsh w h
  case lshr => exact zN_lsh w h
  case lushr => exact zN_lsh w h
  case i2l => split at h <;> first | exact zN_nx zle.rf w h | cases h
  case i2c => split at h <;> first | exact (zN_ite (zN_nx zle.rf) zN_no : zN m σ _) w h | cases h
  case l2i => split at h <;> first | exact zN_nx zle.rf w h | cases h
  case lcmp => split at h <;> first | exact zN_nx zle.rf w h | cases h
  case dup => split at h <;> first | exact zN_nx zle.rf w h | cases h
  case dup2 => split at h <;> first | exact zN_nx zle.rf w h | cases h
  case pop => split at h <;> first | exact zN_nx zle.rf w h | cases h
  case ifCond => split at h <;> first | exact zN_br w h | cases h
  case if_icmp => split at h <;> first | exact zN_br w h | cases h
  case goto => split at h <;> first | exact zN_nx zle.rf w h | cases h
  case tableswitch => split at h <;> first | exact (zN_bif (zN_nx zle.rf) zN_no : zN m σ _) w h | cases h
  case lookupswitch => split at h <;> first | exact (zN_bif (zN_nx zle.rf) zN_no : zN m σ _) w h | cases h
  case getfield => exact zN_gf w h
  case putfield => exact zN_pf w h
  case iaload => exact zN_ald w h
  case laload => exact zN_ald w h
  case baload => exact zN_ald w h
  case aaload => exact zN_ald w h
  case iastore => exact zN_ast w h
  case lastore => exact zN_ast w h
  case bastore => exact zN_ast w h
  case aastore => exact zN_ast w h
  case arraylength => exact zN_lng w h
  case newarray => split at h <;> first | exact zN_mka w h | cases h
  case anewarray => split at h <;> first | exact (zN_bif zN_mka zN_no : zN m σ _) w h | cases h
/-- a call -/
theorem zcall_cls {kd y9 : Nat} {w : zR} (h : zcall kd y9 m pc ls st σ = some w) : ∃ as rest, zpop (zinf y9).2.1 st [] = some (as, rest) ∧ (zinf y9).2.2.2.2 = kd ∧ zcat rest ≤ 8 ∧ (zlay as).length ≤ (zinf y9).2.2.1 ∧ (kd ≠ 1 → zrk as = (zinf y9).1 + 1) ∧ w = .inr (.inl (zent y9 as, (m, pc + 3, ls, rest), σ)) := by
  unfold zcall at h
  split at h
  · cases h
  · rename_i as rest hp
    cases hb : (Nat.beq (zinf y9).2.2.2.2 kd && (Nat.ble (zcat rest) 8 && Nat.ble (zlay as).length (zinf y9).2.2.1)) with
    | false => rw [hb] at h; cases h
    | true =>
      rw [hb] at h
      simp only [Bool.and_eq_true] at hb
      obtain ⟨b1, b2, b3⟩ := hb
      simp only [cond_true] at h
      cases hk : Nat.beq kd 1 with
      | true =>
        rw [hk] at h
        cases h
        exact ⟨as, rest, hp, Nat.eq_of_beq_eq_true b1, Nat.le_of_ble_eq_true b2, Nat.le_of_ble_eq_true b3, fun q => absurd (Nat.eq_of_beq_eq_true hk) q, rfl⟩
      | false =>
        rw [hk] at h
        simp only [cond_false] at h
        by_cases hr : zrk as = (zinf y9).1 + 1
        · rw [if_pos hr] at h
          cases h
          exact ⟨as, rest, hp, Nat.eq_of_beq_eq_true b1, Nat.le_of_ble_eq_true b2, Nat.le_of_ble_eq_true b3, fun _ => hr, rfl⟩
        · rw [if_neg hr] at h; cases h
end ZCLS
/-- the world of a step -/
def zwd : zR → zW
  | .inl (_, σ) => σ
  | .inr (.inl (_, _, σ)) => σ
  | .inr (.inr (.inl (_, σ))) => σ
  | .inr (.inr (.inr (_, σ))) => σ
theorem zstep_le {b : Bool} {f : zF} {σ : zW} {w : zR} (h : zstep b f σ = some w) : zle σ (zwd w) := by
  unfold zstep at h
  split at h
  · rcases zexec_cls h with ⟨f', σ', rfl, -, h1⟩ | ⟨kd, n, y9, -, -, -, h1⟩ | (⟨z, -, -, rfl, -⟩ | ⟨x, -, -, rfl, -⟩ | ⟨-, -, rfl, -⟩) | ⟨k, n, -, -, -, rfl⟩
    · exact h1
    · obtain ⟨as, rest, -, -, -, -, -, rfl⟩ := zcall_cls h1
      exact zle.rf
    · exact zle.rf
    · exact zle.rf
    · exact zle.rf
    · exact zle_ex
  · cases h
theorem zbig_mono {b : Bool} : ∀ (n d : Nat) (f : zF) (σ : zW) (o : zO) (σ' : zW), zbig b n d f σ = some (o, σ') → zle σ σ' := by
  intro n
  induction n with
  | zero => intro d f σ o σ' h; simp [zbig] at h
  | succ n ih =>
    intro d f σ o σ' h
    rw [zbig] at h
    cases hs : zstep b f σ with
    | none => rw [hs] at h; cases h
    | some w =>
      rw [hs] at h
      have hl := zstep_le hs
      match w, h, hl with
      | .inl (f', σ1), h, hl => exact hl.trans (ih _ _ _ _ _ h)
      | .inr (.inl (g, f', σ1)), h, hl =>
        cases d with
        | zero => cases h
        | succ d =>
          simp only at h
          cases hg : zbig b n d g σ1 with
          | none => rw [hg] at h; cases h
          | some w2 =>
            rw [hg] at h
            obtain ⟨o2, σ2⟩ := w2
            have h2 := ih _ _ _ _ _ hg
            cases o2 with
            | inl v => exact (hl.trans h2).trans (ih _ _ _ _ _ h)
            | inr k =>
              simp only at h
              cases hc : zcth f' k with
              | none => rw [hc] at h; cases h; exact hl.trans h2
              | some f2 => rw [hc] at h; exact (hl.trans h2).trans (ih _ _ _ _ _ h)
      | .inr (.inr (.inl (v, σ1))), h, hl => cases h; exact hl
      | .inr (.inr (.inr (k, σ1))), h, hl => cases h; exact hl
theorem zy_facts {y : Nat} (h : y < 170) (h2 : y ≠ 165) : zcw y ∈ lw_tbl ∧ (bif Nat.beq (zinf y).2.2.2.2 1 then Cond.static (zY y) else Cond.instanceMethod (zY y)) ∈ lw_tbl ∧ Cond.initialized (zY y).cls ∈ lw_tbl ∧ ((zinf y).2.2.2.2 = 0 → Cond.selects (zY y).cls (zY y) (zY y) ∈ lw_tbl) ∧ (zY y).cls = zCn (zinf y).1 ∧ plainName (zY y).cls = true ∧
    ((zY y).cls ≠ "java/lang/invoke/MethodHandle" ∧ (zY y).cls ≠ "java/lang/invoke/VarHandle") ∧ (parseMethodDescriptor (zY y).desc).map (fun d => d.parameters.length) = some ((zinf y).2.1 - (bif Nat.beq (zinf y).2.2.2.2 1 then 0 else 1)) ∧ ((zinf y).2.2.2.2 ≠ 1 → 0 < (zinf y).2.1 ∧ (zinf y).1 < 10 ∧ zhh y = []) ∧ ((zinf y).2.2.2.2 = 2 → (zY y).name = "<init>" ∧ (zinf y).2.2.2.1 = 0) ∧ (zinf y).2.2.1 ≤ 40 ∧ (zinf y).2.2.2.1 ≤ 4 := by
  have hk := zy_ok h h2
  simp only [zychk, Bool.and_eq_true, decide_eq_true_eq, Bool.or_eq_true, Bool.not_eq_true', Nat.blt_eq] at hk
  obtain ⟨k1, k2, k3, k4, k5, k6, k7, k8, k9, k10, k11, k12, k13, k14⟩ := hk
  have hb165 : Nat.beq y 165 = false := by
    cases q : Nat.beq y 165 with
    | false => rfl
    | true => exact absurd (Nat.eq_of_beq_eq_true q) h2
  refine ⟨?_, zw_in k2, zw_in k3, fun hq => ?_, k5, k6, k7, k8, fun hq => ?_, fun hq => ?_, Nat.le_of_ble_eq_true k12, Nat.le_of_ble_eq_true k13⟩
  · refine zw_in (i := (zyp y).1) ?_
    split at k1
    · rename_i x b9 n r hx
      simp only [Bool.and_eq_true, decide_eq_true_eq] at k1
      obtain ⟨e0, e1, e2, e3⟩ := k1
      have hz : zB y = b9 := by
        unfold zB
        rw [hb165]
        simp only [cond_false]
        rw [hx]
      unfold zcw
      rw [hx]
      have hh : zhh y = [] := List.isEmpty_iff.mp e0
      rw [hh]
      simp only
      rw [hz, e1, ← Nat.eq_of_beq_eq_true e2, e3]
    · rename_i x b9 n r hh9 hx
      simp only [Bool.and_eq_true, decide_eq_true_eq, Bool.not_eq_true'] at k1
      obtain ⟨e0, e1, e2, e3, e4⟩ := k1
      have hz : zB y = b9 := by
        unfold zB
        rw [hb165]
        simp only [cond_false]
        rw [hx]
      unfold zcw
      rw [hx]
      cases hh : zhh y with
      | nil => rw [hh] at e0; cases e0
      | cons a l =>
        simp only
        rw [hz, e1, ← Nat.eq_of_beq_eq_true e2, e3, e4, hh]
    · cases k1
  · rcases k4 with k4 | k4
    · rw [hq] at k4; cases k4
    · exact List.mem_of_getElem? k4
  · refine ⟨?_, ?_, ?_⟩
    · rcases k9 with q | q
      · exact absurd (Nat.eq_of_beq_eq_true q) hq
      · exact q
    · rcases k11 with q | q
      · exact absurd (Nat.eq_of_beq_eq_true q) hq
      · exact q
    · rcases k14 with q | q
      · exact absurd (Nat.eq_of_beq_eq_true q) hq
      · exact List.isEmpty_iff.mp q
  · rcases k10 with q | q
    · rw [hq] at q; cases q
    · exact ⟨q.1, Nat.eq_of_beq_eq_true q.2⟩
/-- the handlers, with the pool entries of what they catch -/
def zhd2 : List (Nat × List (Nat × Nat × Nat × Nat × Nat × Nat × Nat)) := [(140, [(0, 72, 73, 2, 75, 5, 32), (0, 72, 79, 0, 81, 5, 34), (0, 72, 85, 1, 87, 5, 36)]), (141, [(0, 188, 189, 2, 191, 5, 32)])]
theorem zhd2_eq : zhds = zhd2.map (fun e => (e.1, e.2.map (fun a => (a.1, a.2.1, a.2.2.1, a.2.2.2.1, a.2.2.2.2.1, a.2.2.2.2.2.1)))) := rfl
def zhchk (e : Nat × List (Nat × Nat × Nat × Nat × Nat × Nat × Nat)) : Bool := decide (zhh e.1 = e.2.map (fun a => (a.1, a.2.1, a.2.2.1, a.2.2.2.2.2.2))) && (Nat.blt e.1 170 && (Nat.beq (zinf e.1).1 11 && e.2.all (fun a => decide (Cond.classLink "TreegrabLaw" a.2.2.2.2.2.2 (zXn a.2.2.2.1) ∈ lw_tbl) && (Nat.blt a.2.2.2.1 3 && (!Nat.beq a.2.2.2.2.2.2 0 && (Nat.blt a.2.2.2.2.2.1 (zinf e.1).2.2.1 &&
  (match zraw e.1 a.2.2.1 with
    | some (.astore_n k, _) => Nat.beq k.val a.2.2.2.2.2.1 && Nat.beq a.2.2.2.2.1 (a.2.2.1 + 1)
    | some (.astore k, _) => Nat.beq k a.2.2.2.2.2.1 && Nat.beq a.2.2.2.2.1 (a.2.2.1 + 2)
    | _ => false)))))))
set_option maxRecDepth 100000 in
theorem zhchk_all : zhd2.all zhchk = true := by decide +kernel
theorem zhh_no : zhhs.all (fun e => (zlk zhds e.1).isSome) = true := by decide +kernel
theorem zhh_none {y : Nat} (h : zlk zhds y = none) : zhh y = [] := by
  unfold zhh
  cases hq : zlk zhhs y with
  | none => rfl
  | some l =>
    have := List.all_eq_true.mp zhh_no _ (zlk_mem hq)
    rw [h] at this
    cases this
theorem zhds_some {y : Nat} {l : List (Nat × Nat × Nat × Nat × Nat × Nat)} (h : zlk zhds y = some l) : ∃ l2, (y, l2) ∈ zhd2 ∧ l = l2.map (fun a => (a.1, a.2.1, a.2.2.1, a.2.2.2.1, a.2.2.2.2.1, a.2.2.2.2.2.1)) := by
  have h1 := zlk_mem h
  rw [zhd2_eq] at h1
  obtain ⟨e, he, h2⟩ := List.mem_map.mp h1
  obtain ⟨y2, l2⟩ := e
  cases h2
  exact ⟨l2, he, rfl⟩
