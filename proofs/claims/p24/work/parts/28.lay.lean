/-! behind the constructors: final fields are read from the layout; the constructors never look at the script -/
/-- a final reference field -/
def yFin (ci j : Nat) : Bool := zfts.any fun l => l.any fun e => Nat.beq e.2.1 ci && (Nat.beq e.2.2.1 j && (Nat.beq e.2.2.2.1 3 && e.2.2.2.2))
def yLd (σ : zW) : Prop := ∀ ci k j, zkd k = ci + 1 → yFin ci j = true → gR σ k j = zrf ci k j
theorem yfts_all : zfts.all (fun l => l.all fun e => Nat.blt e.2.1 11 && (bif e.2.2.2.2 then true else !(yFin e.2.1 e.2.2.1))) = true := by decide +kernel
theorem zft_mem {o n : Nat} {q : Nat × Nat × Nat × Bool} (h : zft o n = some q) : ∃ l ∈ zfts, (n, q) ∈ l := by
  have h1 := zlk_mem h
  have key : ∀ (ls : List (List (Nat × Nat × Nat × Nat × Bool))) (o : Nat), (n, q) ∈ zth [] ls o → ∃ l ∈ ls, (n, q) ∈ l := by
    intro ls
    induction ls with
    | nil => intro o h; cases o <;> cases h
    | cons a ls ih =>
      intro o h
      cases o with
      | zero => exact ⟨a, List.mem_cons_self, h⟩
      | succ o => obtain ⟨l, h1, h2⟩ := ih o h; exact ⟨l, List.mem_cons_of_mem _ h1, h2⟩
  exact key _ _ h1
theorem yft_ok {o n ci j ty : Nat} {fin : Bool} (h : zft o n = some (ci, j, ty, fin)) : ci < 11 ∧ (fin = false → yFin ci j = false) ∧ (fin = true → ty = 3 → yFin ci j = true) := by
  obtain ⟨l, h1, h2⟩ := zft_mem h
  have h3 := List.all_eq_true.mp (List.all_eq_true.mp yfts_all l h1) _ h2
  simp only [Bool.and_eq_true, Nat.blt_eq] at h3
  refine ⟨h3.1, fun hf => ?_, fun hf ht => ?_⟩
  · subst hf
    have := h3.2
    simp only [cond_false, Bool.not_eq_true'] at this
    exact this
  · subst hf; subst ht
    unfold yFin
    exact List.any_eq_true.mpr ⟨l, h1, List.any_eq_true.mpr ⟨_, h2, by simp only [Nat.beq_refl, Bool.and_self]⟩⟩
theorem yFin_lt {ci j : Nat} (h : yFin ci j = true) : ci < 11 := by
  unfold yFin at h
  obtain ⟨l, h1, h2⟩ := List.any_eq_true.mp h
  obtain ⟨e, h3, h4⟩ := List.any_eq_true.mp h2
  simp only [Bool.and_eq_true] at h4
  have h5 := List.all_eq_true.mp (List.all_eq_true.mp yfts_all l h1) _ h3
  simp only [Bool.and_eq_true, Nat.blt_eq] at h5
  rw [← Nat.eq_of_beq_eq_true h4.1]
  exact h5.1
theorem yLd_I {σ : zW} (h : yLd σ) {k j : Nat} {x : Int} : yLd (sI σ k j x) := h
theorem yLd_L {σ : zW} (h : yLd σ) {k j : Nat} {x : Int64} : yLd (sL σ k j x) := h
theorem yLd_ex {σ : zW} (h : yLd σ) : yLd (zex σ) := h
theorem yLd_R {σ : zW} (h : yLd σ) {k j x : Nat} (hn : ∀ ci, zkd k = ci + 1 → yFin ci j = false) : yLd (sR σ k j x) := by
  intro ci k2 j2 h1 h2
  rw [gR_sR]
  by_cases q : k2 = k ∧ j2 = j
  · obtain ⟨rfl, rfl⟩ := q
    rw [hn ci h1] at h2
    cases h2
  · rw [if_neg q]; exact h ci k2 j2 h1 h2
def yP (o o' : Option zR) : Prop := ∀ w, o = some w → o' = some w ∧ yLd (zwd w)
theorem yP_no {o' : Option zR} : yP none o' := fun w h => by cases h
theorem yP_rf {σ : zW} {m : Nat} {o : Option zR} (hs : zN m σ o) (hL : ∀ w, o = some w → yLd (zwd w)) : yP o o := fun w h => ⟨h, hL w h⟩
theorem yP_nx {m pc : Nat} {ls : List (Option zV)} {st : List zV} {σ : zW} (h : yLd σ) : yP (znx m pc ls st σ) (znx m pc ls st σ) := fun w e => ⟨e, by cases e; exact h⟩
theorem yP_ite {c : Prop} {dc : Decidable c} {a b a' b' : Option zR} (ha : c → yP a a') (hb : ¬ c → yP b b') : yP (if c then a else b) (if c then a' else b') := by
  by_cases h : c
  · rw [if_pos h, if_pos h]; exact ha h
  · rw [if_neg h, if_neg h]; exact hb h
theorem yP_bif {c : Bool} {a b a' b' : Option zR} (ha : yP a a') (hb : yP b b') : yP (bif c then a else b) (bif c then a' else b') := by
  cases c
  · exact hb
  · exact ha
/-- the world's references stay, in most steps -/
def yK (σ : zW) (o : Option zR) : Prop := ∀ w, o = some w → (zwd w).2.2.1 = σ.2.2.1
theorem yK_no {σ : zW} : yK σ none := fun w h => by cases h
theorem yK_nx {m pc : Nat} {ls : List (Option zV)} {st : List zV} {σ σ' : zW} (h : σ'.2.2.1 = σ.2.2.1) : yK σ (znx m pc ls st σ') := fun w e => by cases e; exact h
theorem yK_ite {σ : zW} {c : Prop} {dc : Decidable c} {a b : Option zR} (ha : yK σ a) (hb : yK σ b) : yK σ (if c then a else b) := by
  by_cases h : c
  · rw [if_pos h]; exact ha
  · rw [if_neg h]; exact hb
theorem yK_bif {σ : zW} {c : Bool} {a b : Option zR} (ha : yK σ a) (hb : yK σ b) : yK σ (bif c then a else b) := by
  cases c
  · exact hb
  · exact ha
theorem yK_so {σ : zW} {w : zR} (h : (zwd w).2.2.1 = σ.2.2.1) : yK σ (some w) := fun w e => by cases e; exact h
theorem yK_P {σ : zW} {o : Option zR} (h : yK σ o) (hL : yLd σ) : yP o o := fun w e => ⟨e, fun ci k j h1 h2 => by
  have := h w e
  show (zwd w).2.2.1 k j = _
  rw [this]
  exact hL ci k j h1 h2⟩
section YLAY
variable {m pc : Nat} {ls : List (Option zV)} {st : List zV} {σ : zW}
theorem yK_call {kd y : Nat} : yK σ (zcall kd y m pc ls st σ) := by
  unfold zcall
  split
  · exact yK_no
  · exact yK_bif (yK_bif (yK_so rfl) (yK_ite (yK_so rfl) yK_no)) yK_no
theorem yK_inv {kd : Nat} {q : Option Nat} : yK σ (zinv kd q m pc ls st σ) := by
  unfold zinv
  split
  · exact yK_no
  · refine yK_bif ?_ yK_call
    split
    · exact yK_bif (yK_ite yK_no (yK_nx rfl)) yK_no
    · exact yK_bif (yK_ite (yK_nx rfl) yK_no) yK_no
    · exact yK_bif (yK_ite (yK_nx rfl) yK_no) yK_no
    · exact yK_bif (yK_nx rfl) yK_no
    · exact yK_bif (yK_nx rfl) yK_no
    · exact yK_no
theorem yK_if {P : Prop} {dP : Decidable P} {off : Int} : yK σ (@zif P dP m pc off ls st σ) := by
  unfold zif; split <;> first | exact yK_nx rfl | exact yK_no
theorem yK_br {c : ClassFile.Cond} {x y off : Int} : yK σ (zbr c x y m pc off ls st σ) := by
  cases c <;> exact yK_if
theorem yK_ald {t : Nat} : yK σ (zald t m pc ls st σ) := by
  unfold zald
  split
  · refine yK_ite (yK_ite ?_ yK_no) (yK_ite (yK_ite (yK_nx rfl) yK_no) yK_no)
    split <;> first | exact yK_nx rfl | exact yK_no
  · exact yK_no
theorem yP_ast {t : Nat} (hL : yLd σ) : yP (zast t m pc ls st σ) (zast t m pc ls st σ) := by
  unfold zast
  split
  · refine yP_ite (fun hk => yP_ite (fun _ => ?_) (fun _ => yP_no)) (fun _ => yP_no)
    split
    · exact yP_nx (yLd_I hL)
    · exact yP_nx (yLd_L hL)
    · exact yP_ite (fun _ => yP_nx (yLd_I hL)) (fun _ => yP_no)
    · refine yP_ite (fun _ => yP_nx (yLd_R hL (fun ci h => ?_))) (fun _ => yP_no)
      cases hf : yFin ci _ with
      | false => rfl
      | true => have := yFin_lt hf; omega
    · exact yP_no
  · exact yP_no
theorem yP_gf {o n : Nat} (hL : yLd σ) : yP (zgf true (zft o n) m pc ls st σ) (zgf false (zft o n) m pc ls st σ) := by
  unfold zgf
  split
  · rename_i ci j ty fin k st' hq
    refine yP_ite (fun hk => ?_) (fun _ => yP_no)
    intro w h
    cases h
    refine ⟨?_, hL⟩
    cases fin with
    | false => rfl
    | true =>
      cases ht : Nat.beq ty 3 with
      | false => rfl
      | true =>
        have ht := Nat.eq_of_beq_eq_true ht
        subst ht
        have h1 := hL ci k j hk ((yft_ok hq).2.2 rfl rfl)
        show some (Sum.inl ((m, pc + 3, ls, .inr (.inr (gR σ k j)) :: st'), σ)) = some (Sum.inl ((m, pc + 3, ls, .inr (.inr (zrf ci k j)) :: st'), σ))
        rw [h1]
  · exact yP_no
theorem yP_pf {o n : Nat} (hL : yLd σ) : yP (zpf true (zft o n) m pc ls st σ) (zpf false (zft o n) m pc ls st σ) := by
  unfold zpf
  split
  · rename_i ci j ty fin v k st' hq
    cases fin with
    | true => exact yP_no
    | false =>
      have hf := (yft_ok hq).2.1 rfl
      refine yP_ite (fun hk => ?_) (fun _ => yP_no)
      split
      · exact yP_nx (yLd_I hL)
      · exact yP_ite (fun _ => yP_nx (yLd_I hL)) (fun _ => yP_no)
      · exact yP_nx (yLd_L hL)
      · refine yP_nx (yLd_R hL (fun ci2 h => ?_))
        have : ci2 = ci := by omega
        rw [this]; exact hf
      · exact yP_no
  · exact yP_no
theorem yP_exec {i : Instr} {len : Nat} (hL : yLd σ) : yP (zexec true i len m pc ls st σ) (zexec false i len m pc ls st σ) := by
  cases i <;> first | (simp only [zexec]; exact yP_no) | simp only [zexec]
  case getfield => exact yP_gf hL
  case putfield => exact yP_pf hL
  case iastore => exact yP_ast hL
  case lastore => exact yP_ast hL
  case bastore => exact yP_ast hL
  case aastore => exact yP_ast hL
  case new =>
    split
    · refine yP_bif (fun w h => ?_) yP_no
      cases h
      exact ⟨rfl, yLd_ex hL⟩
    · split
      · exact yP_no
      · exact yP_no
  case newarray => split <;> first | exact yP_no | (unfold zmka; split <;> exact yP_no)
  case anewarray => split <;> first | exact yP_no | (refine yP_bif ?_ yP_no; unfold zmka; split <;> exact yP_no)
  all_goals refine yK_P ?_ hL
  case iaload => exact yK_ald
  case laload => exact yK_ald
  case baload => exact yK_ald
  case aaload => exact yK_ald
  case invokevirtual => exact yK_inv
  case invokestatic => exact yK_inv
  case invokespecial => exact yK_inv
  case ifCond => split <;> first | exact yK_br | exact yK_no
  case if_icmp => split <;> first | exact yK_br | exact yK_no
  case arraylength => unfold zlng; split <;> first | exact yK_ite (yK_nx rfl) (yK_ite (yK_nx rfl) yK_no) | exact yK_no
  case ireturn => split <;> first | (split <;> first | exact yK_so rfl | exact yK_ite (yK_so rfl) yK_no | exact yK_no) | exact yK_no
  case lreturn => split <;> first | exact yK_bif (yK_so rfl) yK_no | exact yK_no
  case return_ => split <;> first | exact yK_bif (yK_so rfl) yK_no | exact yK_no
  case iload_n => unfold zldi; split <;> first | exact yK_nx rfl | exact yK_no
  case iload => unfold zldi; split <;> first | exact yK_nx rfl | exact yK_no
  case lload_n => unfold zldl; split <;> first | exact yK_nx rfl | exact yK_no
  case lload => unfold zldl; split <;> first | exact yK_nx rfl | exact yK_no
  case aload_n => unfold zldr; split <;> first | exact yK_nx rfl | exact yK_no
  case aload => unfold zldr; split <;> first | exact yK_nx rfl | exact yK_no
  case istore_n => unfold zsti; split <;> first | exact yK_bif (yK_nx rfl) yK_no | exact yK_no
  case istore => unfold zsti; split <;> first | exact yK_bif (yK_nx rfl) yK_no | exact yK_no
  case lstore_n => unfold zstl; split <;> first | exact yK_bif (yK_nx rfl) yK_no | exact yK_no
  case lstore => unfold zstl; split <;> first | exact yK_bif (yK_nx rfl) yK_no | exact yK_no
  case astore_n => unfold zstr; split <;> first | exact yK_bif (yK_nx rfl) yK_no | exact yK_no
  case astore => unfold zstr; split <;> first | exact yK_bif (yK_nx rfl) yK_no | exact yK_no
  case goto => split <;> first | exact yK_nx rfl | exact yK_no
  case ldc => split <;> first | exact yK_nx rfl | (split <;> first | exact yK_nx rfl | exact yK_no)
  case i2c => split <;> first | exact yK_ite (yK_nx rfl) yK_no | exact yK_no
  all_goals first
    | exact yK_nx rfl
    | exact yK_bif (yK_nx rfl) yK_no
    | (unfold zbin; split <;> first | exact yK_nx rfl | exact yK_no)
    | (unfold zlbin; split <;> first | exact yK_nx rfl | exact yK_no)
    | (unfold zlsh; split <;> first | exact yK_nx rfl | exact yK_no)
    | (split <;> first | exact yK_nx rfl | exact yK_no | exact yK_bif (yK_nx rfl) yK_no | exact yK_ite yK_no (yK_nx rfl))
end YLAY
theorem ystep_lay {f : zF} {σ : zW} {w : zR} (hL : yLd σ) (h : zstep true f σ = some w) : zstep false f σ = some w ∧ yLd (zwd w) := by
  unfold zstep at h ⊢
  split at h
  · exact yP_exec hL w h
  · cases h
/-- what is shown of the machine with the layout holds of the true one -/
theorem ybig_lay : ∀ (n d : Nat) (f : zF) (σ : zW) (r : zO × zW), yLd σ → zbig true n d f σ = some r → zbig false n d f σ = some r ∧ yLd r.2 := by
  intro n
  induction n with
  | zero => intro d f σ r _ h; simp [zbig] at h
  | succ n ih =>
    intro d f σ r hL h
    rw [zbig] at h ⊢
    cases hs : zstep true f σ with
    | none => rw [hs] at h; cases h
    | some w =>
      obtain ⟨h1, h2⟩ := ystep_lay hL hs
      rw [hs] at h
      rw [h1]
      match w with
      | .inl (f', σ') => exact ih d f' σ' r h2 h
      | .inr (.inl (g, f', σ')) =>
        cases d with
        | zero => cases h
        | succ d =>
          simp only at h ⊢
          cases hg : zbig true n d g σ' with
          | none => rw [hg] at h; cases h
          | some w2 =>
            rw [hg] at h
            obtain ⟨h3, h4⟩ := ih d g σ' w2 h2 hg
            rw [h3]
            match w2, h4 with
            | (.inl v, σ2), h4 => exact ih _ _ _ _ h4 h
            | (.inr k, σ2), h4 =>
              simp only at h ⊢
              cases hc : zcth f' k with
              | none => rw [hc] at h; cases h; exact ⟨rfl, h4⟩
              | some f2 => rw [hc] at h; exact ih _ _ _ _ h4 h
      | .inr (.inr (.inl (v, σ'))) => cases h; exact ⟨rfl, h2⟩
      | .inr (.inr (.inr (k, σ'))) => cases h; exact ⟨rfl, h2⟩
