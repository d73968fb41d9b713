/-! a rule an instruction: the trees of the methods are made of these (written by wip/p24/gen/emitT.py) -/
theorem yN {m pc : Nat} {ls : List (Option zV)} {st : List zV} {K : List zF} {σ σ' : zW} {f' : zF} {A : Prop} {i : Instr} {len : Nat} (hr : zraw m pc = some (i, len)) (hx : zexec true i len m pc ls st σ = some (.inl (f', σ'))) (h : zEv true (f' :: K) σ' = A) : zEv true ((m, pc, ls, st) :: K) σ = A :=
  (zE_next (by unfold zstep; simp only [hr]; exact hx)).trans h
theorem yNc {m pc : Nat} {ls : List (Option zV)} {st : List zV} {K : List zF} {σ σ' : zW} {f' : zF} {A c : Prop} {dc : Decidable c} {i : Instr} {len : Nat} (hr : zraw m pc = some (i, len)) (hx : zexec true i len m pc ls st σ = @ite _ c dc (some (.inl (f', σ'))) none) (h : zEv true (f' :: K) σ' = A) : zEv true ((m, pc, ls, st) :: K) σ = (c ∧ A) := by
  rw [zS_if 0 (show zsteps true 0 (m, pc, ls, st) σ = _ by unfold zsteps zstep; simp only [hr]; exact hx), h]
theorem yI_iconst {m pc q : Nat} {ls : List (Option zV)} {st : List zV} {K : List zF} {σ : zW} {A : Prop} {z : Int} (hr : zraw m pc = some (.iconst z, 1) ∧ zin 128 z = true ∧ pc + 1 = q) (h : zEv true ((m, q, ls, .inl z :: st) :: K) σ = A) : zEv true ((m, pc, ls, st) :: K) σ = A := by
  obtain ⟨hr, hz, rfl⟩ := hr
  exact yN hr (by simp only [zexec, hz, cond_true, znx]) h
theorem yI_bipush {m pc q : Nat} {ls : List (Option zV)} {st : List zV} {K : List zF} {σ : zW} {A : Prop} {z : Int} (hr : zraw m pc = some (.bipush z, 2) ∧ zin 128 z = true ∧ pc + 2 = q) (h : zEv true ((m, q, ls, .inl z :: st) :: K) σ = A) : zEv true ((m, pc, ls, st) :: K) σ = A := by
  obtain ⟨hr, hz, rfl⟩ := hr
  exact yN hr (by simp only [zexec, hz, cond_true, znx]) h
theorem yI_sipush {m pc q : Nat} {ls : List (Option zV)} {st : List zV} {K : List zF} {σ : zW} {A : Prop} {z : Int} (hr : zraw m pc = some (.sipush z, 3) ∧ zin 32768 z = true ∧ pc + 3 = q) (h : zEv true ((m, q, ls, .inl z :: st) :: K) σ = A) : zEv true ((m, pc, ls, st) :: K) σ = A := by
  obtain ⟨hr, hz, rfl⟩ := hr
  exact yN hr (by simp only [zexec, hz, cond_true, znx]) h
theorem yI_lconst {m pc q : Nat} {ls : List (Option zV)} {st : List zV} {K : List zF} {σ : zW} {A : Prop} {n : Fin 2} {x : Int64} (hr : zraw m pc = some (.lconst n, 1) ∧ (bif Nat.beq n.val 0 then 0 else 1) = x ∧ pc + 1 = q) (h : zEv true ((m, q, ls, .inr (.inl x) :: st) :: K) σ = A) : zEv true ((m, pc, ls, st) :: K) σ = A := by
  obtain ⟨hr, rfl, rfl⟩ := hr
  exact yN hr rfl h
theorem yI_ldc {m pc q : Nat} {ls : List (Option zV)} {st : List zV} {K : List zF} {σ : zW} {A : Prop} {n k r : Nat} (hr : zraw m pc = some (.ldc n, 2) ∧ zst (zinf m).1 n = some k ∧ 100000 + k = r ∧ pc + 2 = q) (h : zEv true ((m, q, ls, .inr (.inr r) :: st) :: K) σ = A) : zEv true ((m, pc, ls, st) :: K) σ = A := by
  obtain ⟨hr, hz, rfl, rfl⟩ := hr
  exact yN hr (by simp only [zexec, hz, znx]) h
theorem yI_ldc_i {m pc q : Nat} {ls : List (Option zV)} {st : List zV} {K : List zF} {σ : zW} {A : Prop} {n : Nat} {z : Int} (hr : zraw m pc = some (.ldc n, 2) ∧ zst (zinf m).1 n = none ∧ zit (zinf m).1 n = some z ∧ pc + 2 = q) (h : zEv true ((m, q, ls, .inl z :: st) :: K) σ = A) : zEv true ((m, pc, ls, st) :: K) σ = A := by
  obtain ⟨hr, h0, hz, rfl⟩ := hr
  exact yN hr (by simp only [zexec, h0, hz, znx]) h
theorem yI_ldc_w {m pc q : Nat} {ls : List (Option zV)} {st : List zV} {K : List zF} {σ : zW} {A : Prop} {n : Nat} {z : Int} (hr : zraw m pc = some (.ldc_w n, 3) ∧ zit (zinf m).1 n = some z ∧ pc + 3 = q) (h : zEv true ((m, q, ls, .inl z :: st) :: K) σ = A) : zEv true ((m, pc, ls, st) :: K) σ = A := by
  obtain ⟨hr, hz, rfl⟩ := hr
  exact yN hr (by simp only [zexec, hz, znx]) h
theorem yI_ldc2_w {m pc q : Nat} {ls : List (Option zV)} {st : List zV} {K : List zF} {σ : zW} {A : Prop} {n : Nat} {z : Int64} (hr : zraw m pc = some (.ldc2_w n, 3) ∧ zlt (zinf m).1 n = some z ∧ pc + 3 = q) (h : zEv true ((m, q, ls, .inr (.inl z) :: st) :: K) σ = A) : zEv true ((m, pc, ls, st) :: K) σ = A := by
  obtain ⟨hr, hz, rfl⟩ := hr
  exact yN hr (by simp only [zexec, hz, znx]) h
theorem yI_iload_n {m pc q : Nat} {ls : List (Option zV)} {st : List zV} {K : List zF} {σ : zW} {A : Prop} {k : Fin 4} {x : Int} (hr : zraw m pc = some (.iload_n k, 1) ∧ pc + 1 = q) (hl : zget ls k.val = some (.inl x)) (h : zEv true ((m, q, ls, .inl x :: st) :: K) σ = A) : zEv true ((m, pc, ls, st) :: K) σ = A := by
  obtain ⟨hr, rfl⟩ := hr
  exact yN hr (by simp only [zexec, zldi, hl, znx]) h
theorem yI_iload {m pc q : Nat} {ls : List (Option zV)} {st : List zV} {K : List zF} {σ : zW} {A : Prop} {k : Nat} {x : Int} (hr : zraw m pc = some (.iload k, 2) ∧ pc + 2 = q) (hl : zget ls k = some (.inl x)) (h : zEv true ((m, q, ls, .inl x :: st) :: K) σ = A) : zEv true ((m, pc, ls, st) :: K) σ = A := by
  obtain ⟨hr, rfl⟩ := hr
  exact yN hr (by simp only [zexec, zldi, hl, znx]) h
theorem yI_istore_n {m pc q : Nat} {ls : List (Option zV)} {st : List zV} {K : List zF} {σ : zW} {A : Prop} {k : Fin 4} {x : Int} {l : List (Option zV)} (hr : zraw m pc = some (.istore_n k, 1) ∧ pc + 1 = q) (hk : Nat.blt k.val ls.length = true) (hl : zst1 ls k.val (some (.inl x)) = l) (h : zEv true ((m, q, l, st) :: K) σ = A) : zEv true ((m, pc, ls, .inl x :: st) :: K) σ = A := by
  obtain ⟨hr, rfl⟩ := hr
  subst hl
  exact yN hr (by simp only [zexec, zsti, hk, cond_true, znx]) h
theorem yI_istore {m pc q : Nat} {ls : List (Option zV)} {st : List zV} {K : List zF} {σ : zW} {A : Prop} {k : Nat} {x : Int} {l : List (Option zV)} (hr : zraw m pc = some (.istore k, 2) ∧ pc + 2 = q) (hk : Nat.blt k ls.length = true) (hl : zst1 ls k (some (.inl x)) = l) (h : zEv true ((m, q, l, st) :: K) σ = A) : zEv true ((m, pc, ls, .inl x :: st) :: K) σ = A := by
  obtain ⟨hr, rfl⟩ := hr
  subst hl
  exact yN hr (by simp only [zexec, zsti, hk, cond_true, znx]) h
theorem yI_lload_n {m pc q : Nat} {ls : List (Option zV)} {st : List zV} {K : List zF} {σ : zW} {A : Prop} {k : Fin 4} {x : Int64} (hr : zraw m pc = some (.lload_n k, 1) ∧ pc + 1 = q) (hl : zget ls k.val = some (.inr (.inl x))) (h : zEv true ((m, q, ls, .inr (.inl x) :: st) :: K) σ = A) : zEv true ((m, pc, ls, st) :: K) σ = A := by
  obtain ⟨hr, rfl⟩ := hr
  exact yN hr (by simp only [zexec, zldl, hl, znx]) h
theorem yI_lload {m pc q : Nat} {ls : List (Option zV)} {st : List zV} {K : List zF} {σ : zW} {A : Prop} {k : Nat} {x : Int64} (hr : zraw m pc = some (.lload k, 2) ∧ pc + 2 = q) (hl : zget ls k = some (.inr (.inl x))) (h : zEv true ((m, q, ls, .inr (.inl x) :: st) :: K) σ = A) : zEv true ((m, pc, ls, st) :: K) σ = A := by
  obtain ⟨hr, rfl⟩ := hr
  exact yN hr (by simp only [zexec, zldl, hl, znx]) h
theorem yI_lstore_n {m pc q : Nat} {ls : List (Option zV)} {st : List zV} {K : List zF} {σ : zW} {A : Prop} {k : Fin 4} {x : Int64} {l : List (Option zV)} (hr : zraw m pc = some (.lstore_n k, 1) ∧ pc + 1 = q) (hk : Nat.blt (k.val + 1) ls.length = true) (hl : zst2 ls k.val (some (.inr (.inl x))) = l) (h : zEv true ((m, q, l, st) :: K) σ = A) : zEv true ((m, pc, ls, .inr (.inl x) :: st) :: K) σ = A := by
  obtain ⟨hr, rfl⟩ := hr
  subst hl
  exact yN hr (by simp only [zexec, zstl, hk, cond_true, znx]) h
theorem yI_lstore {m pc q : Nat} {ls : List (Option zV)} {st : List zV} {K : List zF} {σ : zW} {A : Prop} {k : Nat} {x : Int64} {l : List (Option zV)} (hr : zraw m pc = some (.lstore k, 2) ∧ pc + 2 = q) (hk : Nat.blt (k + 1) ls.length = true) (hl : zst2 ls k (some (.inr (.inl x))) = l) (h : zEv true ((m, q, l, st) :: K) σ = A) : zEv true ((m, pc, ls, .inr (.inl x) :: st) :: K) σ = A := by
  obtain ⟨hr, rfl⟩ := hr
  subst hl
  exact yN hr (by simp only [zexec, zstl, hk, cond_true, znx]) h
theorem yI_aload_n {m pc q : Nat} {ls : List (Option zV)} {st : List zV} {K : List zF} {σ : zW} {A : Prop} {k : Fin 4} {x : Nat} (hr : zraw m pc = some (.aload_n k, 1) ∧ pc + 1 = q) (hl : zget ls k.val = some (.inr (.inr x))) (h : zEv true ((m, q, ls, .inr (.inr x) :: st) :: K) σ = A) : zEv true ((m, pc, ls, st) :: K) σ = A := by
  obtain ⟨hr, rfl⟩ := hr
  exact yN hr (by simp only [zexec, zldr, hl, znx]) h
theorem yI_aload {m pc q : Nat} {ls : List (Option zV)} {st : List zV} {K : List zF} {σ : zW} {A : Prop} {k : Nat} {x : Nat} (hr : zraw m pc = some (.aload k, 2) ∧ pc + 2 = q) (hl : zget ls k = some (.inr (.inr x))) (h : zEv true ((m, q, ls, .inr (.inr x) :: st) :: K) σ = A) : zEv true ((m, pc, ls, st) :: K) σ = A := by
  obtain ⟨hr, rfl⟩ := hr
  exact yN hr (by simp only [zexec, zldr, hl, znx]) h
theorem yI_astore_n {m pc q : Nat} {ls : List (Option zV)} {st : List zV} {K : List zF} {σ : zW} {A : Prop} {k : Fin 4} {x : Nat} {l : List (Option zV)} (hr : zraw m pc = some (.astore_n k, 1) ∧ pc + 1 = q) (hk : Nat.blt k.val ls.length = true) (hl : zst1 ls k.val (some (.inr (.inr x))) = l) (h : zEv true ((m, q, l, st) :: K) σ = A) : zEv true ((m, pc, ls, .inr (.inr x) :: st) :: K) σ = A := by
  obtain ⟨hr, rfl⟩ := hr
  subst hl
  exact yN hr (by simp only [zexec, zstr, hk, cond_true, znx]) h
theorem yI_astore {m pc q : Nat} {ls : List (Option zV)} {st : List zV} {K : List zF} {σ : zW} {A : Prop} {k : Nat} {x : Nat} {l : List (Option zV)} (hr : zraw m pc = some (.astore k, 2) ∧ pc + 2 = q) (hk : Nat.blt k ls.length = true) (hl : zst1 ls k (some (.inr (.inr x))) = l) (h : zEv true ((m, q, l, st) :: K) σ = A) : zEv true ((m, pc, ls, .inr (.inr x) :: st) :: K) σ = A := by
  obtain ⟨hr, rfl⟩ := hr
  subst hl
  exact yN hr (by simp only [zexec, zstr, hk, cond_true, znx]) h
theorem yI_iinc {m pc q : Nat} {ls : List (Option zV)} {st : List zV} {K : List zF} {σ : zW} {A : Prop} {k : Nat} {c x : Int} {l : List (Option zV)} (hr : zraw m pc = some (.iinc k c, 3) ∧ zin 32768 c = true ∧ pc + 3 = q) (hx : zget ls k = some (.inl x)) (hk : Nat.blt k ls.length = true) (hl : zst1 ls k (some (.inl (w32 (x + c)))) = l) (h : zEv true ((m, q, l, st) :: K) σ = A) : zEv true ((m, pc, ls, st) :: K) σ = A := by
  obtain ⟨hr, hc, rfl⟩ := hr
  subst hl
  exact yN hr (by simp only [zexec, hx, hc, hk, Bool.and_self, cond_true, znx]) h
theorem yI_iadd {m pc q : Nat} {ls : List (Option zV)} {st : List zV} {K : List zF} {σ : zW} {A : Prop} {x y : Int} (hr : zraw m pc = some (.iadd, 1) ∧ pc + 1 = q) (h : zEv true ((m, q, ls, .inl (w32 (x + y)) :: st) :: K) σ = A) : zEv true ((m, pc, ls, .inl y :: .inl x :: st) :: K) σ = A := by
  obtain ⟨hr, rfl⟩ := hr
  exact yN hr rfl h
theorem yI_isub {m pc q : Nat} {ls : List (Option zV)} {st : List zV} {K : List zF} {σ : zW} {A : Prop} {x y : Int} (hr : zraw m pc = some (.isub, 1) ∧ pc + 1 = q) (h : zEv true ((m, q, ls, .inl (w32 (x - y)) :: st) :: K) σ = A) : zEv true ((m, pc, ls, .inl y :: .inl x :: st) :: K) σ = A := by
  obtain ⟨hr, rfl⟩ := hr
  exact yN hr rfl h
theorem yI_imul {m pc q : Nat} {ls : List (Option zV)} {st : List zV} {K : List zF} {σ : zW} {A : Prop} {x y : Int} (hr : zraw m pc = some (.imul, 1) ∧ pc + 1 = q) (h : zEv true ((m, q, ls, .inl (w32 (x * y)) :: st) :: K) σ = A) : zEv true ((m, pc, ls, .inl y :: .inl x :: st) :: K) σ = A := by
  obtain ⟨hr, rfl⟩ := hr
  exact yN hr rfl h
theorem yI_iand {m pc q : Nat} {ls : List (Option zV)} {st : List zV} {K : List zF} {σ : zW} {A : Prop} {x y : Int} (hr : zraw m pc = some (.iand, 1) ∧ pc + 1 = q) (h : zEv true ((m, q, ls, .inl (zand x y) :: st) :: K) σ = A) : zEv true ((m, pc, ls, .inl y :: .inl x :: st) :: K) σ = A := by
  obtain ⟨hr, rfl⟩ := hr
  exact yN hr rfl h
theorem yI_ior {m pc q : Nat} {ls : List (Option zV)} {st : List zV} {K : List zF} {σ : zW} {A : Prop} {x y : Int} (hr : zraw m pc = some (.ior, 1) ∧ pc + 1 = q) (h : zEv true ((m, q, ls, .inl (zor x y) :: st) :: K) σ = A) : zEv true ((m, pc, ls, .inl y :: .inl x :: st) :: K) σ = A := by
  obtain ⟨hr, rfl⟩ := hr
  exact yN hr rfl h
theorem yI_ixor {m pc q : Nat} {ls : List (Option zV)} {st : List zV} {K : List zF} {σ : zW} {A : Prop} {x y : Int} (hr : zraw m pc = some (.ixor, 1) ∧ pc + 1 = q) (h : zEv true ((m, q, ls, .inl (zxor x y) :: st) :: K) σ = A) : zEv true ((m, pc, ls, .inl y :: .inl x :: st) :: K) σ = A := by
  obtain ⟨hr, rfl⟩ := hr
  exact yN hr rfl h
theorem yI_ishl {m pc q : Nat} {ls : List (Option zV)} {st : List zV} {K : List zF} {σ : zW} {A : Prop} {x y : Int} (hr : zraw m pc = some (.ishl, 1) ∧ pc + 1 = q) (h : zEv true ((m, q, ls, .inl (zshl x y) :: st) :: K) σ = A) : zEv true ((m, pc, ls, .inl y :: .inl x :: st) :: K) σ = A := by
  obtain ⟨hr, rfl⟩ := hr
  exact yN hr rfl h
theorem yI_ishr {m pc q : Nat} {ls : List (Option zV)} {st : List zV} {K : List zF} {σ : zW} {A : Prop} {x y : Int} (hr : zraw m pc = some (.ishr, 1) ∧ pc + 1 = q) (h : zEv true ((m, q, ls, .inl (zshr x y) :: st) :: K) σ = A) : zEv true ((m, pc, ls, .inl y :: .inl x :: st) :: K) σ = A := by
  obtain ⟨hr, rfl⟩ := hr
  exact yN hr rfl h
theorem yI_iushr {m pc q : Nat} {ls : List (Option zV)} {st : List zV} {K : List zF} {σ : zW} {A : Prop} {x y : Int} (hr : zraw m pc = some (.iushr, 1) ∧ pc + 1 = q) (h : zEv true ((m, q, ls, .inl (zushr x y) :: st) :: K) σ = A) : zEv true ((m, pc, ls, .inl y :: .inl x :: st) :: K) σ = A := by
  obtain ⟨hr, rfl⟩ := hr
  exact yN hr rfl h
theorem yI_ladd {m pc q : Nat} {ls : List (Option zV)} {st : List zV} {K : List zF} {σ : zW} {A : Prop} {x y : Int64} (hr : zraw m pc = some (.ladd, 1) ∧ pc + 1 = q) (h : zEv true ((m, q, ls, .inr (.inl (x + y)) :: st) :: K) σ = A) : zEv true ((m, pc, ls, .inr (.inl y) :: .inr (.inl x) :: st) :: K) σ = A := by
  obtain ⟨hr, rfl⟩ := hr
  exact yN hr rfl h
theorem yI_lsub {m pc q : Nat} {ls : List (Option zV)} {st : List zV} {K : List zF} {σ : zW} {A : Prop} {x y : Int64} (hr : zraw m pc = some (.lsub, 1) ∧ pc + 1 = q) (h : zEv true ((m, q, ls, .inr (.inl (x - y)) :: st) :: K) σ = A) : zEv true ((m, pc, ls, .inr (.inl y) :: .inr (.inl x) :: st) :: K) σ = A := by
  obtain ⟨hr, rfl⟩ := hr
  exact yN hr rfl h
theorem yI_lmul {m pc q : Nat} {ls : List (Option zV)} {st : List zV} {K : List zF} {σ : zW} {A : Prop} {x y : Int64} (hr : zraw m pc = some (.lmul, 1) ∧ pc + 1 = q) (h : zEv true ((m, q, ls, .inr (.inl (x * y)) :: st) :: K) σ = A) : zEv true ((m, pc, ls, .inr (.inl y) :: .inr (.inl x) :: st) :: K) σ = A := by
  obtain ⟨hr, rfl⟩ := hr
  exact yN hr rfl h
theorem yI_land {m pc q : Nat} {ls : List (Option zV)} {st : List zV} {K : List zF} {σ : zW} {A : Prop} {x y : Int64} (hr : zraw m pc = some (.land, 1) ∧ pc + 1 = q) (h : zEv true ((m, q, ls, .inr (.inl (x &&& y)) :: st) :: K) σ = A) : zEv true ((m, pc, ls, .inr (.inl y) :: .inr (.inl x) :: st) :: K) σ = A := by
  obtain ⟨hr, rfl⟩ := hr
  exact yN hr rfl h
theorem yI_lor {m pc q : Nat} {ls : List (Option zV)} {st : List zV} {K : List zF} {σ : zW} {A : Prop} {x y : Int64} (hr : zraw m pc = some (.lor, 1) ∧ pc + 1 = q) (h : zEv true ((m, q, ls, .inr (.inl (x ||| y)) :: st) :: K) σ = A) : zEv true ((m, pc, ls, .inr (.inl y) :: .inr (.inl x) :: st) :: K) σ = A := by
  obtain ⟨hr, rfl⟩ := hr
  exact yN hr rfl h
theorem yI_lshl {m pc q : Nat} {ls : List (Option zV)} {st : List zV} {K : List zF} {σ : zW} {A : Prop} {x : Int64} {y : Int} (hr : zraw m pc = some (.lshl, 1) ∧ pc + 1 = q) (h : zEv true ((m, q, ls, .inr (.inl (zlshl x y)) :: st) :: K) σ = A) : zEv true ((m, pc, ls, .inl y :: .inr (.inl x) :: st) :: K) σ = A := by
  obtain ⟨hr, rfl⟩ := hr
  exact yN hr rfl h
theorem yI_lshr {m pc q : Nat} {ls : List (Option zV)} {st : List zV} {K : List zF} {σ : zW} {A : Prop} {x : Int64} {y : Int} (hr : zraw m pc = some (.lshr, 1) ∧ pc + 1 = q) (h : zEv true ((m, q, ls, .inr (.inl (zlshr x y)) :: st) :: K) σ = A) : zEv true ((m, pc, ls, .inl y :: .inr (.inl x) :: st) :: K) σ = A := by
  obtain ⟨hr, rfl⟩ := hr
  exact yN hr rfl h
theorem yI_lushr {m pc q : Nat} {ls : List (Option zV)} {st : List zV} {K : List zF} {σ : zW} {A : Prop} {x : Int64} {y : Int} (hr : zraw m pc = some (.lushr, 1) ∧ pc + 1 = q) (h : zEv true ((m, q, ls, .inr (.inl (zlushr x y)) :: st) :: K) σ = A) : zEv true ((m, pc, ls, .inl y :: .inr (.inl x) :: st) :: K) σ = A := by
  obtain ⟨hr, rfl⟩ := hr
  exact yN hr rfl h
theorem yI_idiv {m pc q : Nat} {ls : List (Option zV)} {st : List zV} {K : List zF} {σ : zW} {A : Prop} {x y : Int} (hr : zraw m pc = some (.idiv, 1) ∧ pc + 1 = q) (hy : ¬ y = 0) (h : zEv true ((m, q, ls, .inl (zdiv x y) :: st) :: K) σ = A) : zEv true ((m, pc, ls, .inl y :: .inl x :: st) :: K) σ = A := by
  obtain ⟨hr, rfl⟩ := hr
  exact yN hr (by simp only [zexec, if_neg hy, znx]) h
theorem yI_idivc {m pc q : Nat} {ls : List (Option zV)} {st : List zV} {K : List zF} {σ : zW} {A : Prop} {x y : Int} (hr : zraw m pc = some (.idiv, 1) ∧ pc + 1 = q) (h : zEv true ((m, q, ls, .inl (zdiv x y) :: st) :: K) σ = A) : zEv true ((m, pc, ls, .inl y :: .inl x :: st) :: K) σ = (¬ y = 0 ∧ A) := by
  obtain ⟨hr, rfl⟩ := hr
  refine yNc (dc := inferInstance) (c := ¬ y = 0) hr (f' := (m, pc + 1, ls, .inl (zdiv x y) :: st)) (σ' := σ) ?_ h
  by_cases q : y = 0
  · rw [if_neg (fun w => w q)]; simp only [zexec, if_pos q]
  · rw [if_pos q]; simp only [zexec, if_neg q, znx]
theorem yI_irem {m pc q : Nat} {ls : List (Option zV)} {st : List zV} {K : List zF} {σ : zW} {A : Prop} {x y : Int} (hr : zraw m pc = some (.irem, 1) ∧ pc + 1 = q) (hy : ¬ y = 0) (h : zEv true ((m, q, ls, .inl (zrem x y) :: st) :: K) σ = A) : zEv true ((m, pc, ls, .inl y :: .inl x :: st) :: K) σ = A := by
  obtain ⟨hr, rfl⟩ := hr
  exact yN hr (by simp only [zexec, if_neg hy, znx]) h
theorem yI_iremc {m pc q : Nat} {ls : List (Option zV)} {st : List zV} {K : List zF} {σ : zW} {A : Prop} {x y : Int} (hr : zraw m pc = some (.irem, 1) ∧ pc + 1 = q) (h : zEv true ((m, q, ls, .inl (zrem x y) :: st) :: K) σ = A) : zEv true ((m, pc, ls, .inl y :: .inl x :: st) :: K) σ = (¬ y = 0 ∧ A) := by
  obtain ⟨hr, rfl⟩ := hr
  refine yNc (dc := inferInstance) (c := ¬ y = 0) hr (f' := (m, pc + 1, ls, .inl (zrem x y) :: st)) (σ' := σ) ?_ h
  by_cases q : y = 0
  · rw [if_neg (fun w => w q)]; simp only [zexec, if_pos q]
  · rw [if_pos q]; simp only [zexec, if_neg q, znx]
theorem yI_ineg {m pc q : Nat} {ls : List (Option zV)} {st : List zV} {K : List zF} {σ : zW} {A : Prop} {x : Int} (hr : zraw m pc = some (.ineg, 1) ∧ pc + 1 = q) (h : zEv true ((m, q, ls, .inl (w32 (-x)) :: st) :: K) σ = A) : zEv true ((m, pc, ls, .inl x :: st) :: K) σ = A := by
  obtain ⟨hr, rfl⟩ := hr
  exact yN hr rfl h
theorem yI_i2l {m pc q : Nat} {ls : List (Option zV)} {st : List zV} {K : List zF} {σ : zW} {A : Prop} {x : Int} (hr : zraw m pc = some (.i2l, 1) ∧ pc + 1 = q) (h : zEv true ((m, q, ls, .inr (.inl (zi2l x)) :: st) :: K) σ = A) : zEv true ((m, pc, ls, .inl x :: st) :: K) σ = A := by
  obtain ⟨hr, rfl⟩ := hr
  exact yN hr rfl h
theorem yI_l2i {m pc q : Nat} {ls : List (Option zV)} {st : List zV} {K : List zF} {σ : zW} {A : Prop} {x : Int64} (hr : zraw m pc = some (.l2i, 1) ∧ pc + 1 = q) (h : zEv true ((m, q, ls, .inl (zl2i x) :: st) :: K) σ = A) : zEv true ((m, pc, ls, .inr (.inl x) :: st) :: K) σ = A := by
  obtain ⟨hr, rfl⟩ := hr
  exact yN hr rfl h
theorem yI_i2c {m pc q : Nat} {ls : List (Option zV)} {st : List zV} {K : List zF} {σ : zW} {A : Prop} {x : Int} (hr : zraw m pc = some (.i2c, 1) ∧ pc + 1 = q) (h : zEv true ((m, q, ls, .inl x :: st) :: K) σ = A) : zEv true ((m, pc, ls, .inl x :: st) :: K) σ = ((0 ≤ x ∧ x < 65536) ∧ A) := by
  obtain ⟨hr, rfl⟩ := hr
  refine yNc (dc := inferInstance) (c := 0 ≤ x ∧ x < 65536) hr (f' := (m, pc + 1, ls, .inl x :: st)) (σ' := σ) ?_ h
  simp only [zexec, znx]
theorem yI_lcmp {m pc q : Nat} {ls : List (Option zV)} {st : List zV} {K : List zF} {σ : zW} {A : Prop} {x y : Int64} (hr : zraw m pc = some (.lcmp, 1) ∧ pc + 1 = q) (h : zEv true ((m, q, ls, .inl (zlc x y) :: st) :: K) σ = A) : zEv true ((m, pc, ls, .inr (.inl y) :: .inr (.inl x) :: st) :: K) σ = A := by
  obtain ⟨hr, rfl⟩ := hr
  exact yN hr rfl h
theorem yI_dup_i {m pc q : Nat} {ls : List (Option zV)} {st : List zV} {K : List zF} {σ : zW} {A : Prop} {x : Int} (hr : zraw m pc = some (.dup, 1) ∧ pc + 1 = q) (h : zEv true ((m, q, ls, .inl x :: .inl x :: st) :: K) σ = A) : zEv true ((m, pc, ls, .inl x :: st) :: K) σ = A := by
  obtain ⟨hr, rfl⟩ := hr
  exact yN hr rfl h
theorem yI_dup_r {m pc q : Nat} {ls : List (Option zV)} {st : List zV} {K : List zF} {σ : zW} {A : Prop} {x : Nat} (hr : zraw m pc = some (.dup, 1) ∧ pc + 1 = q) (h : zEv true ((m, q, ls, .inr (.inr x) :: .inr (.inr x) :: st) :: K) σ = A) : zEv true ((m, pc, ls, .inr (.inr x) :: st) :: K) σ = A := by
  obtain ⟨hr, rfl⟩ := hr
  exact yN hr rfl h
theorem yI_dup2_l {m pc q : Nat} {ls : List (Option zV)} {st : List zV} {K : List zF} {σ : zW} {A : Prop} {x : Int64} (hr : zraw m pc = some (.dup2, 1) ∧ pc + 1 = q) (h : zEv true ((m, q, ls, .inr (.inl x) :: .inr (.inl x) :: st) :: K) σ = A) : zEv true ((m, pc, ls, .inr (.inl x) :: st) :: K) σ = A := by
  obtain ⟨hr, rfl⟩ := hr
  exact yN hr rfl h
theorem yI_dup2_ir {m pc q : Nat} {ls : List (Option zV)} {st : List zV} {K : List zF} {σ : zW} {A : Prop} {i : Int} {x : Nat} (hr : zraw m pc = some (.dup2, 1) ∧ pc + 1 = q) (h : zEv true ((m, q, ls, .inl i :: .inr (.inr x) :: .inl i :: .inr (.inr x) :: st) :: K) σ = A) : zEv true ((m, pc, ls, .inl i :: .inr (.inr x) :: st) :: K) σ = A := by
  obtain ⟨hr, rfl⟩ := hr
  exact yN hr rfl h
theorem yI_pop_i {m pc q : Nat} {ls : List (Option zV)} {st : List zV} {K : List zF} {σ : zW} {A : Prop} {x : Int} (hr : zraw m pc = some (.pop, 1) ∧ pc + 1 = q) (h : zEv true ((m, q, ls, st) :: K) σ = A) : zEv true ((m, pc, ls, .inl x :: st) :: K) σ = A := by
  obtain ⟨hr, rfl⟩ := hr
  exact yN hr rfl h
theorem yI_pop_r {m pc q : Nat} {ls : List (Option zV)} {st : List zV} {K : List zF} {σ : zW} {A : Prop} {x : Nat} (hr : zraw m pc = some (.pop, 1) ∧ pc + 1 = q) (h : zEv true ((m, q, ls, st) :: K) σ = A) : zEv true ((m, pc, ls, .inr (.inr x) :: st) :: K) σ = A := by
  obtain ⟨hr, rfl⟩ := hr
  exact yN hr rfl h
theorem yI_goto {m pc q : Nat} {ls : List (Option zV)} {st : List zV} {K : List zF} {σ : zW} {A : Prop} {off : Int} (hr : zraw m pc = some (.goto off, 3) ∧ (pc : Int) + off = Int.ofNat q) (h : zEv true ((m, q, ls, st) :: K) σ = A) : zEv true ((m, pc, ls, st) :: K) σ = A := by
  obtain ⟨hr, hq⟩ := hr
  exact yN hr (by simp only [zexec, hq, znx]) h
theorem yI_ic_eq {m pc q : Nat} {ls : List (Option zV)} {st : List zV} {K : List zF} {σ : zW} {A : Prop} {x y : Int} {off : Int} {t : Nat} (hr : zraw m pc = some (.if_icmp .eq off, 3) ∧ (pc : Int) + off = Int.ofNat t ∧ pc + 3 = q) (h : zEv true ((m, (if x = y then t else q), ls, st) :: K) σ = A) : zEv true ((m, pc, ls, .inl y :: .inl x :: st) :: K) σ = A := by
  obtain ⟨hr, ht, rfl⟩ := hr
  refine yN hr ?_ h
  simp only [zexec, zbr, zif, ht, znx]
theorem yI_if_eq {m pc q : Nat} {ls : List (Option zV)} {st : List zV} {K : List zF} {σ : zW} {A : Prop} {x : Int} {off : Int} {t : Nat} (hr : zraw m pc = some (.ifCond .eq off, 3) ∧ (pc : Int) + off = Int.ofNat t ∧ pc + 3 = q) (h : zEv true ((m, (if x = 0 then t else q), ls, st) :: K) σ = A) : zEv true ((m, pc, ls, .inl x :: st) :: K) σ = A := by
  obtain ⟨hr, ht, rfl⟩ := hr
  refine yN hr ?_ h
  simp only [zexec, zbr, zif, ht, znx]
theorem yI_ic_ne {m pc q : Nat} {ls : List (Option zV)} {st : List zV} {K : List zF} {σ : zW} {A : Prop} {x y : Int} {off : Int} {t : Nat} (hr : zraw m pc = some (.if_icmp .ne off, 3) ∧ (pc : Int) + off = Int.ofNat t ∧ pc + 3 = q) (h : zEv true ((m, (if ¬ x = y then t else q), ls, st) :: K) σ = A) : zEv true ((m, pc, ls, .inl y :: .inl x :: st) :: K) σ = A := by
  obtain ⟨hr, ht, rfl⟩ := hr
  refine yN hr ?_ h
  simp only [zexec, zbr, zif, ht, znx]
theorem yI_if_ne {m pc q : Nat} {ls : List (Option zV)} {st : List zV} {K : List zF} {σ : zW} {A : Prop} {x : Int} {off : Int} {t : Nat} (hr : zraw m pc = some (.ifCond .ne off, 3) ∧ (pc : Int) + off = Int.ofNat t ∧ pc + 3 = q) (h : zEv true ((m, (if ¬ x = 0 then t else q), ls, st) :: K) σ = A) : zEv true ((m, pc, ls, .inl x :: st) :: K) σ = A := by
  obtain ⟨hr, ht, rfl⟩ := hr
  refine yN hr ?_ h
  simp only [zexec, zbr, zif, ht, znx]
theorem yI_ic_lt {m pc q : Nat} {ls : List (Option zV)} {st : List zV} {K : List zF} {σ : zW} {A : Prop} {x y : Int} {off : Int} {t : Nat} (hr : zraw m pc = some (.if_icmp .lt off, 3) ∧ (pc : Int) + off = Int.ofNat t ∧ pc + 3 = q) (h : zEv true ((m, (if x < y then t else q), ls, st) :: K) σ = A) : zEv true ((m, pc, ls, .inl y :: .inl x :: st) :: K) σ = A := by
  obtain ⟨hr, ht, rfl⟩ := hr
  refine yN hr ?_ h
  simp only [zexec, zbr, zif, ht, znx]
theorem yI_if_lt {m pc q : Nat} {ls : List (Option zV)} {st : List zV} {K : List zF} {σ : zW} {A : Prop} {x : Int} {off : Int} {t : Nat} (hr : zraw m pc = some (.ifCond .lt off, 3) ∧ (pc : Int) + off = Int.ofNat t ∧ pc + 3 = q) (h : zEv true ((m, (if x < 0 then t else q), ls, st) :: K) σ = A) : zEv true ((m, pc, ls, .inl x :: st) :: K) σ = A := by
  obtain ⟨hr, ht, rfl⟩ := hr
  refine yN hr ?_ h
  simp only [zexec, zbr, zif, ht, znx]
theorem yI_ic_ge {m pc q : Nat} {ls : List (Option zV)} {st : List zV} {K : List zF} {σ : zW} {A : Prop} {x y : Int} {off : Int} {t : Nat} (hr : zraw m pc = some (.if_icmp .ge off, 3) ∧ (pc : Int) + off = Int.ofNat t ∧ pc + 3 = q) (h : zEv true ((m, (if y ≤ x then t else q), ls, st) :: K) σ = A) : zEv true ((m, pc, ls, .inl y :: .inl x :: st) :: K) σ = A := by
  obtain ⟨hr, ht, rfl⟩ := hr
  refine yN hr ?_ h
  simp only [zexec, zbr, zif, ht, znx]
theorem yI_if_ge {m pc q : Nat} {ls : List (Option zV)} {st : List zV} {K : List zF} {σ : zW} {A : Prop} {x : Int} {off : Int} {t : Nat} (hr : zraw m pc = some (.ifCond .ge off, 3) ∧ (pc : Int) + off = Int.ofNat t ∧ pc + 3 = q) (h : zEv true ((m, (if 0 ≤ x then t else q), ls, st) :: K) σ = A) : zEv true ((m, pc, ls, .inl x :: st) :: K) σ = A := by
  obtain ⟨hr, ht, rfl⟩ := hr
  refine yN hr ?_ h
  simp only [zexec, zbr, zif, ht, znx]
theorem yI_ic_gt {m pc q : Nat} {ls : List (Option zV)} {st : List zV} {K : List zF} {σ : zW} {A : Prop} {x y : Int} {off : Int} {t : Nat} (hr : zraw m pc = some (.if_icmp .gt off, 3) ∧ (pc : Int) + off = Int.ofNat t ∧ pc + 3 = q) (h : zEv true ((m, (if y < x then t else q), ls, st) :: K) σ = A) : zEv true ((m, pc, ls, .inl y :: .inl x :: st) :: K) σ = A := by
  obtain ⟨hr, ht, rfl⟩ := hr
  refine yN hr ?_ h
  simp only [zexec, zbr, zif, ht, znx]
theorem yI_if_gt {m pc q : Nat} {ls : List (Option zV)} {st : List zV} {K : List zF} {σ : zW} {A : Prop} {x : Int} {off : Int} {t : Nat} (hr : zraw m pc = some (.ifCond .gt off, 3) ∧ (pc : Int) + off = Int.ofNat t ∧ pc + 3 = q) (h : zEv true ((m, (if 0 < x then t else q), ls, st) :: K) σ = A) : zEv true ((m, pc, ls, .inl x :: st) :: K) σ = A := by
  obtain ⟨hr, ht, rfl⟩ := hr
  refine yN hr ?_ h
  simp only [zexec, zbr, zif, ht, znx]
theorem yI_ic_le {m pc q : Nat} {ls : List (Option zV)} {st : List zV} {K : List zF} {σ : zW} {A : Prop} {x y : Int} {off : Int} {t : Nat} (hr : zraw m pc = some (.if_icmp .le off, 3) ∧ (pc : Int) + off = Int.ofNat t ∧ pc + 3 = q) (h : zEv true ((m, (if x ≤ y then t else q), ls, st) :: K) σ = A) : zEv true ((m, pc, ls, .inl y :: .inl x :: st) :: K) σ = A := by
  obtain ⟨hr, ht, rfl⟩ := hr
  refine yN hr ?_ h
  simp only [zexec, zbr, zif, ht, znx]
theorem yI_if_le {m pc q : Nat} {ls : List (Option zV)} {st : List zV} {K : List zF} {σ : zW} {A : Prop} {x : Int} {off : Int} {t : Nat} (hr : zraw m pc = some (.ifCond .le off, 3) ∧ (pc : Int) + off = Int.ofNat t ∧ pc + 3 = q) (h : zEv true ((m, (if x ≤ 0 then t else q), ls, st) :: K) σ = A) : zEv true ((m, pc, ls, .inl x :: st) :: K) σ = A := by
  obtain ⟨hr, ht, rfl⟩ := hr
  refine yN hr ?_ h
  simp only [zexec, zbr, zif, ht, znx]
theorem yI_tsw {m pc q : Nat} {ls : List (Option zV)} {st : List zV} {K : List zF} {σ : zW} {A : Prop} {len : Nat} {x d lo hi : Int} {offs : Array Int} (hr : zraw m pc = some (.tableswitch d lo hi offs, len) ∧ (zpos pc d && (offs.toList.all (zpos pc) && decide (hi = lo + (offs.toList.length : Int) - 1))) = true) (hq : ztb x pc d lo offs.toList = q) (h : zEv true ((m, q, ls, st) :: K) σ = A) : zEv true ((m, pc, ls, .inl x :: st) :: K) σ = A := by
  obtain ⟨hr, hz⟩ := hr
  subst hq
  exact yN hr (by simp only [zexec, hz, cond_true, znx]) h
theorem yI_lsw {m pc q : Nat} {ls : List (Option zV)} {st : List zV} {K : List zF} {σ : zW} {A : Prop} {len : Nat} {x d : Int} {ps : Array (Int × Int)} (hr : zraw m pc = some (.lookupswitch d ps, len) ∧ (zpos pc d && (ps.toList.all (fun q => zpos pc q.2) && (ps.toList.zip (ps.toList.drop 1)).all (fun (a, next) => a.1 < next.1))) = true) (hq : zlp x pc d ps.toList = q) (h : zEv true ((m, q, ls, st) :: K) σ = A) : zEv true ((m, pc, ls, .inl x :: st) :: K) σ = A := by
  obtain ⟨hr, hz⟩ := hr
  subst hq
  exact yN hr (by simp only [zexec, hz, cond_true, znx]) h
theorem yI_gf_i {m pc q : Nat} {ls : List (Option zV)} {st : List zV} {K : List zF} {σ : zW} {A : Prop} {n ci j k : Nat} {v : Int} {fin : Bool} (hr : zraw m pc = some (.getfield n, 3) ∧ zft (zinf m).1 n = some (ci, j, 0, fin) ∧ pc + 3 = q) (hk : zkd k = ci + 1) (hv : gI σ k j = v) (h : zEv true ((m, q, ls, .inl v :: st) :: K) σ = A) : zEv true ((m, pc, ls, .inr (.inr k) :: st) :: K) σ = A := by
  obtain ⟨hr, hf, rfl⟩ := hr
  subst hv
  refine yN hr ?_ h
  simp only [zexec, hf, zgf, if_pos hk, znx]
  first | rfl | (cases fin <;> rfl)
theorem yI_gf_z {m pc q : Nat} {ls : List (Option zV)} {st : List zV} {K : List zF} {σ : zW} {A : Prop} {n ci j k : Nat} {v : Int} {fin : Bool} (hr : zraw m pc = some (.getfield n, 3) ∧ zft (zinf m).1 n = some (ci, j, 1, fin) ∧ pc + 3 = q) (hk : zkd k = ci + 1) (hv : gI σ k j = v) (h : zEv true ((m, q, ls, .inl v :: st) :: K) σ = A) : zEv true ((m, pc, ls, .inr (.inr k) :: st) :: K) σ = A := by
  obtain ⟨hr, hf, rfl⟩ := hr
  subst hv
  refine yN hr ?_ h
  simp only [zexec, hf, zgf, if_pos hk, znx]
  first | rfl | (cases fin <;> rfl)
theorem yI_gf_l {m pc q : Nat} {ls : List (Option zV)} {st : List zV} {K : List zF} {σ : zW} {A : Prop} {n ci j k : Nat} {v : Int64} {fin : Bool} (hr : zraw m pc = some (.getfield n, 3) ∧ zft (zinf m).1 n = some (ci, j, 2, fin) ∧ pc + 3 = q) (hk : zkd k = ci + 1) (hv : gL σ k j = v) (h : zEv true ((m, q, ls, .inr (.inl v) :: st) :: K) σ = A) : zEv true ((m, pc, ls, .inr (.inr k) :: st) :: K) σ = A := by
  obtain ⟨hr, hf, rfl⟩ := hr
  subst hv
  refine yN hr ?_ h
  simp only [zexec, hf, zgf, if_pos hk, znx]
  first | rfl | (cases fin <;> rfl)
theorem yI_gf_r {m pc q : Nat} {ls : List (Option zV)} {st : List zV} {K : List zF} {σ : zW} {A : Prop} {n ci j k : Nat} {v : Nat} (hr : zraw m pc = some (.getfield n, 3) ∧ zft (zinf m).1 n = some (ci, j, 3, false) ∧ pc + 3 = q) (hk : zkd k = ci + 1) (hv : gR σ k j = v) (h : zEv true ((m, q, ls, .inr (.inr v) :: st) :: K) σ = A) : zEv true ((m, pc, ls, .inr (.inr k) :: st) :: K) σ = A := by
  obtain ⟨hr, hf, rfl⟩ := hr
  subst hv
  refine yN hr ?_ h
  simp only [zexec, hf, zgf, if_pos hk, znx]
  first | rfl | (cases fin <;> rfl)
theorem yI_gf_f {m pc q : Nat} {ls : List (Option zV)} {st : List zV} {K : List zF} {σ : zW} {A : Prop} {n ci j k v : Nat} (hr : zraw m pc = some (.getfield n, 3) ∧ zft (zinf m).1 n = some (ci, j, 3, true) ∧ pc + 3 = q) (hk : zkd k = ci + 1) (hv : zrf ci k j = v) (h : zEv true ((m, q, ls, .inr (.inr v) :: st) :: K) σ = A) : zEv true ((m, pc, ls, .inr (.inr k) :: st) :: K) σ = A := by
  obtain ⟨hr, hf, rfl⟩ := hr
  subst hv
  refine yN hr ?_ h
  simp only [zexec, hf, zgf, if_pos hk, znx]
  rfl
theorem yI_pf_i {m pc q : Nat} {ls : List (Option zV)} {st : List zV} {K : List zF} {σ : zW} {A : Prop} {n ci j k : Nat} {v : Int} (hr : zraw m pc = some (.putfield n, 3) ∧ zft (zinf m).1 n = some (ci, j, 0, false) ∧ pc + 3 = q) (hk : zkd k = ci + 1) (h : zEv true ((m, q, ls, st) :: K) (sI σ k j v) = A) : zEv true ((m, pc, ls, .inl v :: .inr (.inr k) :: st) :: K) σ = A := by
  obtain ⟨hr, hf, rfl⟩ := hr
  refine yN hr ?_ h
  simp only [zexec, hf, zpf, if_pos hk, znx]
  rfl
theorem yI_pf_z {m pc q : Nat} {ls : List (Option zV)} {st : List zV} {K : List zF} {σ : zW} {A : Prop} {n ci j k : Nat} {v : Int} (hr : zraw m pc = some (.putfield n, 3) ∧ zft (zinf m).1 n = some (ci, j, 1, false) ∧ pc + 3 = q) (hk : zkd k = ci + 1) (h : zEv true ((m, q, ls, st) :: K) (sI σ k j v) = A) : zEv true ((m, pc, ls, .inl v :: .inr (.inr k) :: st) :: K) σ = ((v = 0 ∨ v = 1) ∧ A) := by
  obtain ⟨hr, hf, rfl⟩ := hr
  refine yNc (dc := inferInstance) hr (f' := (m, pc + 3, ls, st)) (σ' := sI σ k j v) ?_ h
  simp only [zexec, hf, zpf, if_pos hk, znx]
  rfl
theorem yI_pf_b {m pc q : Nat} {ls : List (Option zV)} {st : List zV} {K : List zF} {σ : zW} {A : Prop} {n ci j k : Nat} {v : Int} (hr : zraw m pc = some (.putfield n, 3) ∧ zft (zinf m).1 n = some (ci, j, 1, false) ∧ pc + 3 = q) (hk : zkd k = ci + 1) (hv : v = 0 ∨ v = 1) (h : zEv true ((m, q, ls, st) :: K) (sI σ k j v) = A) : zEv true ((m, pc, ls, .inl v :: .inr (.inr k) :: st) :: K) σ = A := by
  obtain ⟨hr, hf, rfl⟩ := hr
  refine yN hr ?_ h
  simp only [zexec, hf, zpf, if_pos hk, if_pos hv, znx]
  rfl
theorem yI_pf_l {m pc q : Nat} {ls : List (Option zV)} {st : List zV} {K : List zF} {σ : zW} {A : Prop} {n ci j k : Nat} {v : Int64} (hr : zraw m pc = some (.putfield n, 3) ∧ zft (zinf m).1 n = some (ci, j, 2, false) ∧ pc + 3 = q) (hk : zkd k = ci + 1) (h : zEv true ((m, q, ls, st) :: K) (sL σ k j v) = A) : zEv true ((m, pc, ls, .inr (.inl v) :: .inr (.inr k) :: st) :: K) σ = A := by
  obtain ⟨hr, hf, rfl⟩ := hr
  refine yN hr ?_ h
  simp only [zexec, hf, zpf, if_pos hk, znx]
  rfl
theorem yI_pf_r {m pc q : Nat} {ls : List (Option zV)} {st : List zV} {K : List zF} {σ : zW} {A : Prop} {n ci j k : Nat} {v : Nat} (hr : zraw m pc = some (.putfield n, 3) ∧ zft (zinf m).1 n = some (ci, j, 3, false) ∧ pc + 3 = q) (hk : zkd k = ci + 1) (h : zEv true ((m, q, ls, st) :: K) (sR σ k j v) = A) : zEv true ((m, pc, ls, .inr (.inr v) :: .inr (.inr k) :: st) :: K) σ = A := by
  obtain ⟨hr, hf, rfl⟩ := hr
  refine yN hr ?_ h
  simp only [zexec, hf, zpf, if_pos hk, znx]
  rfl
theorem yI_ialoadc {m pc q : Nat} {ls : List (Option zV)} {st : List zV} {K : List zF} {σ : zW} {A : Prop} {i : Int} {k L : Nat} {v : Int} (hr : zraw m pc = some (.iaload, 1) ∧ pc + 1 = q) (hk : zkd k = 20 ∧ zln k = L) (hv : gI σ k i.toNat = v) (h : zEv true ((m, q, ls, .inl v :: st) :: K) σ = A) : zEv true ((m, pc, ls, .inl i :: .inr (.inr k) :: st) :: K) σ = ((0 ≤ i ∧ i < (L : Int)) ∧ A) := by
  obtain ⟨hr, rfl⟩ := hr
  obtain ⟨hk, rfl⟩ := hk
  subst hv
  refine yNc (dc := inferInstance) hr ?_ h
  simp only [zexec, zald, if_pos hk, znx]
theorem yI_iaload {m pc q : Nat} {ls : List (Option zV)} {st : List zV} {K : List zF} {σ : zW} {A : Prop} {i : Int} {k L : Nat} {v : Int} (hr : zraw m pc = some (.iaload, 1) ∧ pc + 1 = q) (hk : zkd k = 20 ∧ zln k = L) (hc : 0 ≤ i ∧ i < (L : Int)) (hv : gI σ k i.toNat = v) (h : zEv true ((m, q, ls, .inl v :: st) :: K) σ = A) : zEv true ((m, pc, ls, .inl i :: .inr (.inr k) :: st) :: K) σ = A := by
  obtain ⟨hr, rfl⟩ := hr
  obtain ⟨hk, rfl⟩ := hk
  subst hv
  refine yN hr ?_ h
  simp only [zexec, zald, if_pos hk, znx, if_pos hc]
theorem yI_laloadc {m pc q : Nat} {ls : List (Option zV)} {st : List zV} {K : List zF} {σ : zW} {A : Prop} {i : Int} {k L : Nat} {v : Int64} (hr : zraw m pc = some (.laload, 1) ∧ pc + 1 = q) (hk : zkd k = 21 ∧ zln k = L) (hv : gL σ k i.toNat = v) (h : zEv true ((m, q, ls, .inr (.inl v) :: st) :: K) σ = A) : zEv true ((m, pc, ls, .inl i :: .inr (.inr k) :: st) :: K) σ = ((0 ≤ i ∧ i < (L : Int)) ∧ A) := by
  obtain ⟨hr, rfl⟩ := hr
  obtain ⟨hk, rfl⟩ := hk
  subst hv
  refine yNc (dc := inferInstance) hr ?_ h
  simp only [zexec, zald, if_pos hk, znx]
theorem yI_laload {m pc q : Nat} {ls : List (Option zV)} {st : List zV} {K : List zF} {σ : zW} {A : Prop} {i : Int} {k L : Nat} {v : Int64} (hr : zraw m pc = some (.laload, 1) ∧ pc + 1 = q) (hk : zkd k = 21 ∧ zln k = L) (hc : 0 ≤ i ∧ i < (L : Int)) (hv : gL σ k i.toNat = v) (h : zEv true ((m, q, ls, .inr (.inl v) :: st) :: K) σ = A) : zEv true ((m, pc, ls, .inl i :: .inr (.inr k) :: st) :: K) σ = A := by
  obtain ⟨hr, rfl⟩ := hr
  obtain ⟨hk, rfl⟩ := hk
  subst hv
  refine yN hr ?_ h
  simp only [zexec, zald, if_pos hk, znx, if_pos hc]
theorem yI_baloadc {m pc q : Nat} {ls : List (Option zV)} {st : List zV} {K : List zF} {σ : zW} {A : Prop} {i : Int} {k L : Nat} {v : Int} (hr : zraw m pc = some (.baload, 1) ∧ pc + 1 = q) (hk : zkd k = 22 ∧ zln k = L) (hv : gI σ k i.toNat = v) (h : zEv true ((m, q, ls, .inl v :: st) :: K) σ = A) : zEv true ((m, pc, ls, .inl i :: .inr (.inr k) :: st) :: K) σ = ((0 ≤ i ∧ i < (L : Int)) ∧ A) := by
  obtain ⟨hr, rfl⟩ := hr
  obtain ⟨hk, rfl⟩ := hk
  subst hv
  refine yNc (dc := inferInstance) hr ?_ h
  simp only [zexec, zald, if_pos hk, znx]
theorem yI_baload {m pc q : Nat} {ls : List (Option zV)} {st : List zV} {K : List zF} {σ : zW} {A : Prop} {i : Int} {k L : Nat} {v : Int} (hr : zraw m pc = some (.baload, 1) ∧ pc + 1 = q) (hk : zkd k = 22 ∧ zln k = L) (hc : 0 ≤ i ∧ i < (L : Int)) (hv : gI σ k i.toNat = v) (h : zEv true ((m, q, ls, .inl v :: st) :: K) σ = A) : zEv true ((m, pc, ls, .inl i :: .inr (.inr k) :: st) :: K) σ = A := by
  obtain ⟨hr, rfl⟩ := hr
  obtain ⟨hk, rfl⟩ := hk
  subst hv
  refine yN hr ?_ h
  simp only [zexec, zald, if_pos hk, znx, if_pos hc]
theorem yI_aaloadc {m pc q : Nat} {ls : List (Option zV)} {st : List zV} {K : List zF} {σ : zW} {A : Prop} {i : Int} {k L : Nat} {v : Nat} (hr : zraw m pc = some (.aaload, 1) ∧ pc + 1 = q) (hk : zkd k = 23 ∧ zln k = L) (hv : gR σ k i.toNat = v) (h : zEv true ((m, q, ls, .inr (.inr v) :: st) :: K) σ = A) : zEv true ((m, pc, ls, .inl i :: .inr (.inr k) :: st) :: K) σ = ((0 ≤ i ∧ i < (L : Int)) ∧ A) := by
  obtain ⟨hr, rfl⟩ := hr
  obtain ⟨hk, rfl⟩ := hk
  subst hv
  refine yNc (dc := inferInstance) hr ?_ h
  simp only [zexec, zald, if_pos hk, znx]
theorem yI_aaload {m pc q : Nat} {ls : List (Option zV)} {st : List zV} {K : List zF} {σ : zW} {A : Prop} {i : Int} {k L : Nat} {v : Nat} (hr : zraw m pc = some (.aaload, 1) ∧ pc + 1 = q) (hk : zkd k = 23 ∧ zln k = L) (hc : 0 ≤ i ∧ i < (L : Int)) (hv : gR σ k i.toNat = v) (h : zEv true ((m, q, ls, .inr (.inr v) :: st) :: K) σ = A) : zEv true ((m, pc, ls, .inl i :: .inr (.inr k) :: st) :: K) σ = A := by
  obtain ⟨hr, rfl⟩ := hr
  obtain ⟨hk, rfl⟩ := hk
  subst hv
  refine yN hr ?_ h
  simp only [zexec, zald, if_pos hk, znx, if_pos hc]
theorem yI_iastorec {m pc q : Nat} {ls : List (Option zV)} {st : List zV} {K : List zF} {σ : zW} {A : Prop} {i : Int} {k L : Nat} {v : Int} (hr : zraw m pc = some (.iastore, 1) ∧ pc + 1 = q) (hk : zkd k = 20 ∧ zln k = L) (h : zEv true ((m, q, ls, st) :: K) (sI σ k i.toNat v) = A) : zEv true ((m, pc, ls, .inl v :: .inl i :: .inr (.inr k) :: st) :: K) σ = ((0 ≤ i ∧ i < (L : Int)) ∧ A) := by
  obtain ⟨hr, rfl⟩ := hr
  obtain ⟨hk, rfl⟩ := hk
  refine yNc (dc := inferInstance) hr ?_ h
  simp only [zexec, zast, if_pos hk, znx]
theorem yI_iastore {m pc q : Nat} {ls : List (Option zV)} {st : List zV} {K : List zF} {σ : zW} {A : Prop} {i : Int} {k L : Nat} {v : Int} (hr : zraw m pc = some (.iastore, 1) ∧ pc + 1 = q) (hk : zkd k = 20 ∧ zln k = L) (hc : 0 ≤ i ∧ i < (L : Int)) (h : zEv true ((m, q, ls, st) :: K) (sI σ k i.toNat v) = A) : zEv true ((m, pc, ls, .inl v :: .inl i :: .inr (.inr k) :: st) :: K) σ = A := by
  obtain ⟨hr, rfl⟩ := hr
  obtain ⟨hk, rfl⟩ := hk
  refine yN hr ?_ h
  simp only [zexec, zast, if_pos hk, znx, if_pos hc]
theorem yI_lastorec {m pc q : Nat} {ls : List (Option zV)} {st : List zV} {K : List zF} {σ : zW} {A : Prop} {i : Int} {k L : Nat} {v : Int64} (hr : zraw m pc = some (.lastore, 1) ∧ pc + 1 = q) (hk : zkd k = 21 ∧ zln k = L) (h : zEv true ((m, q, ls, st) :: K) (sL σ k i.toNat v) = A) : zEv true ((m, pc, ls, .inr (.inl v) :: .inl i :: .inr (.inr k) :: st) :: K) σ = ((0 ≤ i ∧ i < (L : Int)) ∧ A) := by
  obtain ⟨hr, rfl⟩ := hr
  obtain ⟨hk, rfl⟩ := hk
  refine yNc (dc := inferInstance) hr ?_ h
  simp only [zexec, zast, if_pos hk, znx]
theorem yI_lastore {m pc q : Nat} {ls : List (Option zV)} {st : List zV} {K : List zF} {σ : zW} {A : Prop} {i : Int} {k L : Nat} {v : Int64} (hr : zraw m pc = some (.lastore, 1) ∧ pc + 1 = q) (hk : zkd k = 21 ∧ zln k = L) (hc : 0 ≤ i ∧ i < (L : Int)) (h : zEv true ((m, q, ls, st) :: K) (sL σ k i.toNat v) = A) : zEv true ((m, pc, ls, .inr (.inl v) :: .inl i :: .inr (.inr k) :: st) :: K) σ = A := by
  obtain ⟨hr, rfl⟩ := hr
  obtain ⟨hk, rfl⟩ := hk
  refine yN hr ?_ h
  simp only [zexec, zast, if_pos hk, znx, if_pos hc]
theorem yI_bastorec {m pc q : Nat} {ls : List (Option zV)} {st : List zV} {K : List zF} {σ : zW} {A : Prop} {i v : Int} {k L : Nat} (hr : zraw m pc = some (.bastore, 1) ∧ pc + 1 = q) (hk : zkd k = 22 ∧ zln k = L) (hz : v = 0 ∨ v = 1) (h : zEv true ((m, q, ls, st) :: K) (sI σ k i.toNat v) = A) : zEv true ((m, pc, ls, .inl v :: .inl i :: .inr (.inr k) :: st) :: K) σ = ((0 ≤ i ∧ i < (L : Int)) ∧ A) := by
  obtain ⟨hr, rfl⟩ := hr
  obtain ⟨hk, rfl⟩ := hk
  refine yNc (dc := inferInstance) hr ?_ h
  simp only [zexec, zast, if_pos hk, if_pos hz, znx]
theorem yI_bastoreb {m pc q : Nat} {ls : List (Option zV)} {st : List zV} {K : List zF} {σ : zW} {A : Prop} {i v : Int} {k L : Nat} (hr : zraw m pc = some (.bastore, 1) ∧ pc + 1 = q) (hk : zkd k = 22 ∧ zln k = L) (h : zEv true ((m, q, ls, st) :: K) (sI σ k i.toNat v) = A) : zEv true ((m, pc, ls, .inl v :: .inl i :: .inr (.inr k) :: st) :: K) σ = (((0 ≤ i ∧ i < (L : Int)) ∧ (v = 0 ∨ v = 1)) ∧ A) := by
  obtain ⟨hr, rfl⟩ := hr
  obtain ⟨hk, rfl⟩ := hk
  refine yNc (dc := inferInstance) (c := (0 ≤ i ∧ i < (zln k : Int)) ∧ (v = 0 ∨ v = 1)) hr (f' := (m, pc + 1, ls, st)) (σ' := sI σ k i.toNat v) ?_ h
  simp only [zexec, zast, if_pos hk, znx]
  by_cases q : 0 ≤ i ∧ i < (zln k : Int)
  · by_cases q2 : v = 0 ∨ v = 1
    · rw [if_pos q, if_pos q2, if_pos ⟨q, q2⟩]
    · rw [if_pos q, if_neg q2, if_neg (fun w => q2 w.2)]
  · rw [if_neg q, if_neg (fun w => q w.1)]
theorem yI_aastorec {m pc q : Nat} {ls : List (Option zV)} {st : List zV} {K : List zF} {σ : zW} {A : Prop} {i : Int} {k L v : Nat} (hr : zraw m pc = some (.aastore, 1) ∧ pc + 1 = q) (hk : zkd k = 23 ∧ zln k = L) (hz : zkd v = 9) (h : zEv true ((m, q, ls, st) :: K) (sR σ k i.toNat v) = A) : zEv true ((m, pc, ls, .inr (.inr v) :: .inl i :: .inr (.inr k) :: st) :: K) σ = ((0 ≤ i ∧ i < (L : Int)) ∧ A) := by
  obtain ⟨hr, rfl⟩ := hr
  obtain ⟨hk, rfl⟩ := hk
  refine yNc (dc := inferInstance) hr ?_ h
  simp only [zexec, zast, if_pos hk, if_pos hz, znx]
theorem yI_scr {m pc q : Nat} {ls : List (Option zV)} {st : List zV} {K : List zF} {σ : zW} {A : Prop} {i : Int} (hr : zraw m pc = some (.iaload, 1) ∧ pc + 1 = q) (h : zEv true ((m, q, ls, .inl (gI σ 99999 i.toNat) :: st) :: K) σ = A) : zEv true ((m, pc, ls, .inl i :: .inr (.inr 99999) :: st) :: K) σ = ((0 ≤ i ∧ i < gI σ 99998 0) ∧ A) := by
  obtain ⟨hr, rfl⟩ := hr
  refine yNc (dc := inferInstance) hr ?_ h
  have h1 : ¬ zkd 99999 = 20 := by decide +kernel
  have h2 : True ∧ zkd 99999 = 25 := by decide +kernel
  simp only [zexec, zald, if_neg h1, znx]
  exact if_pos h2
theorem yI_alen {m pc q : Nat} {ls : List (Option zV)} {st : List zV} {K : List zF} {σ : zW} {A : Prop} {k L : Nat} {v : Int} (hr : zraw m pc = some (.arraylength, 1) ∧ pc + 1 = q) (hk : (zkd k = 20 ∧ zln k = L)) (hv : (L : Int) = v) (h : zEv true ((m, q, ls, .inl v :: st) :: K) σ = A) : zEv true ((m, pc, ls, .inr (.inr k) :: st) :: K) σ = A := by
  obtain ⟨hr, rfl⟩ := hr
  obtain ⟨hk, rfl⟩ := hk
  subst hv
  refine yN hr ?_ h
  have h1 : ¬ zkd k = 25 := by omega
  have h2 : 20 ≤ zkd k ∧ zkd k ≤ 22 := by omega
  simp only [zexec, zlng, if_neg h1, if_pos h2, znx]
theorem yI_slen {m pc q : Nat} {ls : List (Option zV)} {st : List zV} {K : List zF} {σ : zW} {A : Prop}  (hr : zraw m pc = some (.arraylength, 1) ∧ pc + 1 = q) (h : zEv true ((m, q, ls, .inl (gI σ 99998 0) :: st) :: K) σ = A) : zEv true ((m, pc, ls, .inr (.inr 99999) :: st) :: K) σ = A := by
  obtain ⟨hr, rfl⟩ := hr
  refine yN hr ?_ h
  have h1 : zkd 99999 = 25 := by decide +kernel
  simp only [zexec, zlng, if_pos h1, znx]
theorem yI_max {m pc q : Nat} {ls : List (Option zV)} {st : List zV} {K : List zF} {σ : zW} {A : Prop} {n : Nat} {x y : Int} (hr : zraw m pc = some (.invokestatic n, 3) ∧ zmt (zinf m).1 n = some 9004 ∧ pc + 3 = q) (hc : Nat.ble (zcat st) 8 = true) (h : zEv true ((m, q, ls, .inl (if x < y then y else x) :: st) :: K) σ = A) : zEv true ((m, pc, ls, .inl y :: .inl x :: st) :: K) σ = A := by
  obtain ⟨hr, hf, rfl⟩ := hr
  refine yN hr ?_ h
  simp only [zexec, hf, zinv, hc]
  rfl
theorem yI_min {m pc q : Nat} {ls : List (Option zV)} {st : List zV} {K : List zF} {σ : zW} {A : Prop} {n : Nat} {x y : Int} (hr : zraw m pc = some (.invokestatic n, 3) ∧ zmt (zinf m).1 n = some 9005 ∧ pc + 3 = q) (hc : Nat.ble (zcat st) 8 = true) (h : zEv true ((m, q, ls, .inl (if y < x then y else x) :: st) :: K) σ = A) : zEv true ((m, pc, ls, .inl y :: .inl x :: st) :: K) σ = A := by
  obtain ⟨hr, hf, rfl⟩ := hr
  refine yN hr ?_ h
  simp only [zexec, hf, zinv, hc]
  rfl
theorem yI_tln {m pc q : Nat} {ls : List (Option zV)} {st : List zV} {K : List zF} {σ : zW} {A : Prop} {n k : Nat} (hr : zraw m pc = some (.invokevirtual n, 3) ∧ zmt (zinf m).1 n = some 9002 ∧ pc + 3 = q) (hk : zkd k = 31) (hc : Nat.ble (zcat st) 8 = true) (h : zEv true ((m, q, ls, .inl ((ztx k).length : Int) :: st) :: K) σ = A) : zEv true ((m, pc, ls, .inr (.inr k) :: st) :: K) σ = A := by
  obtain ⟨hr, hf, rfl⟩ := hr
  refine yN hr ?_ h
  simp only [zexec, hf, zinv, hc, if_pos hk]
  rfl
theorem yI_tat {m pc q : Nat} {ls : List (Option zV)} {st : List zV} {K : List zF} {σ : zW} {A : Prop} {n k : Nat} {i : Int} (hr : zraw m pc = some (.invokevirtual n, 3) ∧ zmt (zinf m).1 n = some 9003 ∧ pc + 3 = q) (hk : zkd k = 31) (hc : Nat.ble (zcat st) 8 = true) (h : zEv true ((m, q, ls, .inl ((zth 0 (ztx k) i.toNat : Nat) : Int) :: st) :: K) σ = A) : zEv true ((m, pc, ls, .inl i :: .inr (.inr k) :: st) :: K) σ = ((0 ≤ i ∧ i < ((ztx k).length : Int)) ∧ A) := by
  obtain ⟨hr, hf, rfl⟩ := hr
  refine yNc (dc := inferInstance) (c := 0 ≤ i ∧ i < ((ztx k).length : Int)) hr (f' := (m, pc + 3, ls, .inl ((zth 0 (ztx k) i.toNat : Nat) : Int) :: st)) (σ' := σ) ?_ h
  simp only [zexec, hf, zinv, hc]
  by_cases q : 0 ≤ i ∧ i < ((ztx k).length : Int)
  · rw [if_pos q, if_pos ⟨hk, q⟩]; rfl
  · rw [if_neg q, if_neg (fun w => q w.2)]; rfl
theorem yI_cv {m pc q n y c na ml rt : Nat} {ls : List (Option zV)} {st as rest : List zV} {K : List zF} {σ : zW} (hr : zraw m pc = some (.invokevirtual n, 3) ∧ zmt (zinf m).1 n = some y ∧ Nat.ble 9000 y = false ∧ zinf y = (c, na, ml, rt, 0) ∧ pc + 3 = q) (hp : zpop na st [] = some (as, rest)) (hc : (Nat.ble (zcat rest) 8 && Nat.ble (zlay as).length ml) = true) (hz : zrk as = c + 1) (hd : K.length < 60) : zEv true ((m, pc, ls, st) :: K) σ = zEv true (zent y as :: (m, q, ls, rest) :: K) σ := by
  obtain ⟨hr, hf, h9, hi, rfl⟩ := hr
  refine zE_call ?_ hd
  unfold zstep
  simp only [hr, zexec, hf, zinv, h9, cond_false, zcall, hi, hp]
  rw [hc]
  simp only [Nat.beq_refl, Bool.and_self, cond_true, if_pos hz]
  rfl
theorem yI_cs {m pc q n y c na ml rt : Nat} {ls : List (Option zV)} {st as rest : List zV} {K : List zF} {σ : zW} (hr : zraw m pc = some (.invokestatic n, 3) ∧ zmt (zinf m).1 n = some y ∧ Nat.ble 9000 y = false ∧ zinf y = (c, na, ml, rt, 1) ∧ pc + 3 = q) (hp : zpop na st [] = some (as, rest)) (hc : (Nat.ble (zcat rest) 8 && Nat.ble (zlay as).length ml) = true) (hd : K.length < 60) : zEv true ((m, pc, ls, st) :: K) σ = zEv true (zent y as :: (m, q, ls, rest) :: K) σ := by
  obtain ⟨hr, hf, h9, hi, rfl⟩ := hr
  refine zE_call ?_ hd
  unfold zstep
  simp only [hr, zexec, hf, zinv, h9, cond_false, zcall, hi, hp]
  rw [hc]
  rfl
theorem yI_ci {m pc q n y c na ml rt : Nat} {ls : List (Option zV)} {st as rest : List zV} {K : List zF} {σ : zW} (hr : zraw m pc = some (.invokespecial n, 3) ∧ zmt (zinf m).1 n = some y ∧ Nat.ble 9000 y = false ∧ zinf y = (c, na, ml, rt, 2) ∧ pc + 3 = q) (hp : zpop na st [] = some (as, rest)) (hc : (Nat.ble (zcat rest) 8 && Nat.ble (zlay as).length ml) = true) (hz : zrk as = c + 1) (hd : K.length < 60) : zEv true ((m, pc, ls, st) :: K) σ = zEv true (zent y as :: (m, q, ls, rest) :: K) σ := by
  obtain ⟨hr, hf, h9, hi, rfl⟩ := hr
  refine zE_call ?_ hd
  unfold zstep
  simp only [hr, zexec, hf, zinv, h9, cond_false, zcall, hi, hp]
  rw [hc]
  simp only [Nat.beq_refl, Bool.and_self, cond_true, if_pos hz]
  rfl
theorem yI_ret {m pc : Nat} {ls : List (Option zV)} {K : List zF} {σ : zW} (hr : zraw m pc = some (.return_, 1) ∧ (zinf m).2.2.2.1 = 0) : zEv true ((m, pc, ls, []) :: K) σ = zRet true K none σ := by
  refine zE_ret ?_
  unfold zstep
  simp only [hr.1, zexec, hr.2]
  rfl
theorem yI_ireturn {m pc : Nat} {ls : List (Option zV)} {K : List zF} {σ : zW} {z : Int} (hr : zraw m pc = some (.ireturn, 1) ∧ (zinf m).2.2.2.1 = 1) : zEv true ((m, pc, ls, [.inl z]) :: K) σ = zRet true K (some (.inl z)) σ := by
  refine zE_ret ?_
  unfold zstep
  simp only [hr.1, zexec, hr.2]
theorem yI_lreturn {m pc : Nat} {ls : List (Option zV)} {K : List zF} {σ : zW} {z : Int64} (hr : zraw m pc = some (.lreturn, 1) ∧ (zinf m).2.2.2.1 = 3) : zEv true ((m, pc, ls, [.inr (.inl z)]) :: K) σ = zRet true K (some (.inr (.inl z))) σ := by
  refine zE_ret ?_
  unfold zstep
  simp only [hr.1, zexec, hr.2]
  rfl
theorem yI_zreturn {m pc : Nat} {ls : List (Option zV)} {K : List zF} {σ : zW} {z : Int} (hr : zraw m pc = some (.ireturn, 1) ∧ (zinf m).2.2.2.1 = 2) (hz : z = 0 ∨ z = 1) : zEv true ((m, pc, ls, [.inl z]) :: K) σ = zRet true K (some (.inl z)) σ := by
  refine zE_ret ?_
  unfold zstep
  simp only [hr.1, zexec, hr.2, if_pos hz]
theorem yI_zreturnc {m pc : Nat} {ls : List (Option zV)} {K : List zF} {σ : zW} {z : Int} (hr : zraw m pc = some (.ireturn, 1) ∧ (zinf m).2.2.2.1 = 2) : zEv true ((m, pc, ls, [.inl z]) :: K) σ = ((z = 0 ∨ z = 1) ∧ zRet true K (some (.inl z)) σ) := by
  by_cases hz : z = 0 ∨ z = 1
  · rw [yI_zreturn hr hz, eq_true hz, true_and]
  · apply propext
    constructor
    · intro w
      exfalso
      refine zE_none ?_ w
      unfold zstep
      simp only [hr.1, zexec, hr.2, if_neg hz]
    · intro w; exact absurd w.1 hz
theorem yI_creturn {m pc : Nat} {ls : List (Option zV)} {K : List zF} {σ : zW} {z : Int} (hr : zraw m pc = some (.ireturn, 1) ∧ (zinf m).2.2.2.1 = 4) (hz : 0 ≤ z ∧ z < 65536) : zEv true ((m, pc, ls, [.inl z]) :: K) σ = zRet true K (some (.inl z)) σ := by
  refine zE_ret ?_
  unfold zstep
  simp only [hr.1, zexec, hr.2, if_pos hz]
theorem yI_creturnc {m pc : Nat} {ls : List (Option zV)} {K : List zF} {σ : zW} {z : Int} (hr : zraw m pc = some (.ireturn, 1) ∧ (zinf m).2.2.2.1 = 4) : zEv true ((m, pc, ls, [.inl z]) :: K) σ = ((0 ≤ z ∧ z < 65536) ∧ zRet true K (some (.inl z)) σ) := by
  by_cases hz : 0 ≤ z ∧ z < 65536
  · rw [yI_creturn hr hz, eq_true hz, true_and]
  · apply propext
    constructor
    · intro w
      exfalso
      refine zE_none ?_ w
      unfold zstep
      simp only [hr.1, zexec, hr.2, if_neg hz]
    · intro w; exact absurd w.1 hz
theorem yI_throw {m pc n k : Nat} {ls : List (Option zV)} {st : List zV} {K : List zF} {σ : zW} (hr : zraw m pc = some (.new n, 3) ∧ zths m pc = some k) (hc : Nat.ble (zcat st) 8 = true) : zEv true ((m, pc, ls, st) :: K) σ = zThr true K k (zex σ) := by
  refine zE_thr ?_
  unfold zstep
  simp only [hr.1, zexec, hr.2, hc, cond_true]
theorem yBr {b : Bool} {m t u : Nat} {ls : List (Option zV)} {st : List zV} {K : List zF} {σ : zW} {A B P : Prop} {dP dQ : Decidable P} (h1 : zEv b ((m, t, ls, st) :: K) σ = A) (h2 : zEv b ((m, u, ls, st) :: K) σ = B) : zEv b ((m, @ite _ P dP t u, ls, st) :: K) σ = @ite _ P dQ A B := by
  by_cases q : P
  · rw [if_pos q, if_pos q]; exact h1
  · rw [if_neg q, if_neg q]; exact h2
theorem yT_en {b : Bool} {g f : zF} {K : List zF} {σ : zW} {A : Prop} (h : g = f) (h1 : zEv b (f :: K) σ = A) : zEv b (g :: K) σ = A := by rw [h, h1]
theorem yT_rt {b : Bool} {m pc : Nat} {ls : List (Option zV)} {st : List zV} {v : zV} {K : List zF} {σ : zW} {A : Prop} (h : zEv b ((m, pc, ls, v :: st) :: K) σ = A) : zRet b ((m, pc, ls, st) :: K) (some v) σ = A := (zRet_cons _ _ _ _).trans h
theorem yT_rv {b : Bool} {m pc : Nat} {ls : List (Option zV)} {st : List zV} {K : List zF} {σ : zW} {A : Prop} (h : zEv b ((m, pc, ls, st) :: K) σ = A) : zRet b ((m, pc, ls, st) :: K) none σ = A := (zRet_cons _ _ _ _).trans h
theorem zThr_no {b : Bool} {m pc : Nat} {ls : List (Option zV)} {st : List zV} {K : List zF} {σ : zW} {k : Nat} (h : zlk zhds m = none) : zThr b ((m, pc, ls, st) :: K) k σ = zThr b K k σ := zThr_pass K σ (by simp only [zcth, h])
theorem yMi0 {b : Bool} {m t u j : Nat} {ls ls2 : List (Option zV)} {st st2 : List zV} {K : List zF} {σ σ2 : zW} {x y : Int} {A P  : Prop} {dP dQ : Decidable P} (h1 : zEv b ((m, t, ls, st) :: K) σ = zEv b ((m, j, ls2, .inl x :: st2) :: K) σ2) (h2 : zEv b ((m, u, ls, st) :: K) σ = zEv b ((m, j, ls2, .inl y :: st2) :: K) σ2) (h3 : zEv b ((m, j, ls2, .inl (@ite _ P dQ x y) :: st2) :: K) σ2 = A) : zEv b ((m, @ite _ P dP t u, ls, st) :: K) σ = A := by
  by_cases q : P
  · rw [if_pos q] at h3; rw [if_pos q, h1, h3]
  · rw [if_neg q] at h3; rw [if_neg q, h2, h3]
theorem yMi1 {b : Bool} {m t u j : Nat} {ls ls2 : List (Option zV)} {st st2 : List zV} {K : List zF} {σ σ2 : zW} {x y : Int} {A P c1 : Prop} {dP dQ : Decidable P} (h1 : zEv b ((m, t, ls, st) :: K) σ = (c1 ∧ zEv b ((m, j, ls2, .inl x :: st2) :: K) σ2)) (h2 : zEv b ((m, u, ls, st) :: K) σ = zEv b ((m, j, ls2, .inl y :: st2) :: K) σ2) (h3 : zEv b ((m, j, ls2, .inl (@ite _ P dQ x y) :: st2) :: K) σ2 = A) : zEv b ((m, @ite _ P dP t u, ls, st) :: K) σ = ((P → c1) ∧ A) := by
  by_cases q : P
  · rw [if_pos q] at h3; rw [if_pos q, h1, h3]; apply propext; constructor <;> intro w <;> simp_all
  · rw [if_neg q] at h3; rw [if_neg q, h2, h3]; apply propext; constructor <;> intro w <;> simp_all
theorem yMi2 {b : Bool} {m t u j : Nat} {ls ls2 : List (Option zV)} {st st2 : List zV} {K : List zF} {σ σ2 : zW} {x y : Int} {A P c2 : Prop} {dP dQ : Decidable P} (h1 : zEv b ((m, t, ls, st) :: K) σ = zEv b ((m, j, ls2, .inl x :: st2) :: K) σ2) (h2 : zEv b ((m, u, ls, st) :: K) σ = (c2 ∧ zEv b ((m, j, ls2, .inl y :: st2) :: K) σ2)) (h3 : zEv b ((m, j, ls2, .inl (@ite _ P dQ x y) :: st2) :: K) σ2 = A) : zEv b ((m, @ite _ P dP t u, ls, st) :: K) σ = ((¬ P → c2) ∧ A) := by
  by_cases q : P
  · rw [if_pos q] at h3; rw [if_pos q, h1, h3]; apply propext; constructor <;> intro w <;> simp_all
  · rw [if_neg q] at h3; rw [if_neg q, h2, h3]; apply propext; constructor <;> intro w <;> simp_all
theorem yMi3 {b : Bool} {m t u j : Nat} {ls ls2 : List (Option zV)} {st st2 : List zV} {K : List zF} {σ σ2 : zW} {x y : Int} {A P c1 c2 : Prop} {dP dQ : Decidable P} (h1 : zEv b ((m, t, ls, st) :: K) σ = (c1 ∧ zEv b ((m, j, ls2, .inl x :: st2) :: K) σ2)) (h2 : zEv b ((m, u, ls, st) :: K) σ = (c2 ∧ zEv b ((m, j, ls2, .inl y :: st2) :: K) σ2)) (h3 : zEv b ((m, j, ls2, .inl (@ite _ P dQ x y) :: st2) :: K) σ2 = A) : zEv b ((m, @ite _ P dP t u, ls, st) :: K) σ = ((P → c1) ∧ ((¬ P → c2) ∧ A)) := by
  by_cases q : P
  · rw [if_pos q] at h3; rw [if_pos q, h1, h3]; apply propext; constructor <;> intro w <;> simp_all
  · rw [if_neg q] at h3; rw [if_neg q, h2, h3]; apply propext; constructor <;> intro w <;> simp_all
theorem yMl0 {b : Bool} {m t u j : Nat} {ls ls2 : List (Option zV)} {st st2 : List zV} {K : List zF} {σ σ2 : zW} {x y : Int64} {A P  : Prop} {dP dQ : Decidable P} (h1 : zEv b ((m, t, ls, st) :: K) σ = zEv b ((m, j, ls2, .inr (.inl x) :: st2) :: K) σ2) (h2 : zEv b ((m, u, ls, st) :: K) σ = zEv b ((m, j, ls2, .inr (.inl y) :: st2) :: K) σ2) (h3 : zEv b ((m, j, ls2, .inr (.inl (@ite _ P dQ x y)) :: st2) :: K) σ2 = A) : zEv b ((m, @ite _ P dP t u, ls, st) :: K) σ = A := by
  by_cases q : P
  · rw [if_pos q] at h3; rw [if_pos q, h1, h3]
  · rw [if_neg q] at h3; rw [if_neg q, h2, h3]
theorem yMl1 {b : Bool} {m t u j : Nat} {ls ls2 : List (Option zV)} {st st2 : List zV} {K : List zF} {σ σ2 : zW} {x y : Int64} {A P c1 : Prop} {dP dQ : Decidable P} (h1 : zEv b ((m, t, ls, st) :: K) σ = (c1 ∧ zEv b ((m, j, ls2, .inr (.inl x) :: st2) :: K) σ2)) (h2 : zEv b ((m, u, ls, st) :: K) σ = zEv b ((m, j, ls2, .inr (.inl y) :: st2) :: K) σ2) (h3 : zEv b ((m, j, ls2, .inr (.inl (@ite _ P dQ x y)) :: st2) :: K) σ2 = A) : zEv b ((m, @ite _ P dP t u, ls, st) :: K) σ = ((P → c1) ∧ A) := by
  by_cases q : P
  · rw [if_pos q] at h3; rw [if_pos q, h1, h3]; apply propext; constructor <;> intro w <;> simp_all
  · rw [if_neg q] at h3; rw [if_neg q, h2, h3]; apply propext; constructor <;> intro w <;> simp_all
theorem yMl2 {b : Bool} {m t u j : Nat} {ls ls2 : List (Option zV)} {st st2 : List zV} {K : List zF} {σ σ2 : zW} {x y : Int64} {A P c2 : Prop} {dP dQ : Decidable P} (h1 : zEv b ((m, t, ls, st) :: K) σ = zEv b ((m, j, ls2, .inr (.inl x) :: st2) :: K) σ2) (h2 : zEv b ((m, u, ls, st) :: K) σ = (c2 ∧ zEv b ((m, j, ls2, .inr (.inl y) :: st2) :: K) σ2)) (h3 : zEv b ((m, j, ls2, .inr (.inl (@ite _ P dQ x y)) :: st2) :: K) σ2 = A) : zEv b ((m, @ite _ P dP t u, ls, st) :: K) σ = ((¬ P → c2) ∧ A) := by
  by_cases q : P
  · rw [if_pos q] at h3; rw [if_pos q, h1, h3]; apply propext; constructor <;> intro w <;> simp_all
  · rw [if_neg q] at h3; rw [if_neg q, h2, h3]; apply propext; constructor <;> intro w <;> simp_all
theorem yMl3 {b : Bool} {m t u j : Nat} {ls ls2 : List (Option zV)} {st st2 : List zV} {K : List zF} {σ σ2 : zW} {x y : Int64} {A P c1 c2 : Prop} {dP dQ : Decidable P} (h1 : zEv b ((m, t, ls, st) :: K) σ = (c1 ∧ zEv b ((m, j, ls2, .inr (.inl x) :: st2) :: K) σ2)) (h2 : zEv b ((m, u, ls, st) :: K) σ = (c2 ∧ zEv b ((m, j, ls2, .inr (.inl y) :: st2) :: K) σ2)) (h3 : zEv b ((m, j, ls2, .inr (.inl (@ite _ P dQ x y)) :: st2) :: K) σ2 = A) : zEv b ((m, @ite _ P dP t u, ls, st) :: K) σ = ((P → c1) ∧ ((¬ P → c2) ∧ A)) := by
  by_cases q : P
  · rw [if_pos q] at h3; rw [if_pos q, h1, h3]; apply propext; constructor <;> intro w <;> simp_all
  · rw [if_neg q] at h3; rw [if_neg q, h2, h3]; apply propext; constructor <;> intro w <;> simp_all
/-- the objects of Treegrab$Tree -/
def zTr (t : Nat) : Prop := t = 5 ∨ t = 17 ∨ t = 29 ∨ t = 68
theorem zTr_k {t : Nat} (h : zTr t) : zkd t = 8 + 1 := by rcases h with rfl | rfl | rfl | rfl <;> decide +kernel
theorem zTr_a1 {t : Nat} (h : zTr t) : zkd (t + 1) = 21 ∧ zln (t + 1) = 20 := by rcases h with rfl | rfl | rfl | rfl <;> decide +kernel
theorem zTr_a2 {t : Nat} (h : zTr t) : zkd (t + 2) = 20 ∧ zln (t + 2) = 20 := by rcases h with rfl | rfl | rfl | rfl <;> decide +kernel
theorem zTr_a3 {t : Nat} (h : zTr t) : zkd (t + 3) = 20 ∧ zln (t + 3) = 20 := by rcases h with rfl | rfl | rfl | rfl <;> decide +kernel
theorem zTr_a4 {t : Nat} (h : zTr t) : zkd (t + 4) = 20 ∧ zln (t + 4) = 20 := by rcases h with rfl | rfl | rfl | rfl <;> decide +kernel
theorem zTr_a5 {t : Nat} (h : zTr t) : zkd (t + 5) = 20 ∧ zln (t + 5) = 20 := by rcases h with rfl | rfl | rfl | rfl <;> decide +kernel
theorem zTr_a6 {t : Nat} (h : zTr t) : zkd (t + 6) = 20 ∧ zln (t + 6) = 20 := by rcases h with rfl | rfl | rfl | rfl <;> decide +kernel
theorem zTr_a7 {t : Nat} (h : zTr t) : zkd (t + 7) = 20 ∧ zln (t + 7) = 20 := by rcases h with rfl | rfl | rfl | rfl <;> decide +kernel
theorem zTr_a8 {t : Nat} (h : zTr t) : zkd (t + 8) = 20 ∧ zln (t + 8) = 20 := by rcases h with rfl | rfl | rfl | rfl <;> decide +kernel
theorem zTr_a9 {t : Nat} (h : zTr t) : zkd (t + 9) = 21 ∧ zln (t + 9) = 20 := by rcases h with rfl | rfl | rfl | rfl <;> decide +kernel
theorem zTr_a10 {t : Nat} (h : zTr t) : zkd (t + 10) = 20 ∧ zln (t + 10) = 20 := by rcases h with rfl | rfl | rfl | rfl <;> decide +kernel
theorem zTr_a11 {t : Nat} (h : zTr t) : zkd (t + 11) = 20 ∧ zln (t + 11) = 21 := by rcases h with rfl | rfl | rfl | rfl <;> decide +kernel
/-- the objects of Treegrab$Pattern -/
def zPn (t : Nat) : Prop := t = 80 ∨ t = 95
theorem zPn_k {t : Nat} (h : zPn t) : zkd t = 4 + 1 := by rcases h with rfl | rfl <;> decide +kernel
theorem zPn_a1 {t : Nat} (h : zPn t) : zkd (t + 1) = 20 ∧ zln (t + 1) = 8 := by rcases h with rfl | rfl <;> decide +kernel
theorem zPn_a2 {t : Nat} (h : zPn t) : zkd (t + 2) = 20 ∧ zln (t + 2) = 8 := by rcases h with rfl | rfl <;> decide +kernel
theorem zPn_a3 {t : Nat} (h : zPn t) : zkd (t + 3) = 20 ∧ zln (t + 3) = 8 := by rcases h with rfl | rfl <;> decide +kernel
theorem zPn_a4 {t : Nat} (h : zPn t) : zkd (t + 4) = 20 ∧ zln (t + 4) = 8 := by rcases h with rfl | rfl <;> decide +kernel
theorem zPn_a5 {t : Nat} (h : zPn t) : zkd (t + 5) = 20 ∧ zln (t + 5) = 8 := by rcases h with rfl | rfl <;> decide +kernel
theorem zPn_a6 {t : Nat} (h : zPn t) : zkd (t + 6) = 20 ∧ zln (t + 6) = 8 := by rcases h with rfl | rfl <;> decide +kernel
theorem zPn_a7 {t : Nat} (h : zPn t) : zkd (t + 7) = 20 ∧ zln (t + 7) = 8 := by rcases h with rfl | rfl <;> decide +kernel
theorem zPn_a8 {t : Nat} (h : zPn t) : zkd (t + 8) = 20 ∧ zln (t + 8) = 8 := by rcases h with rfl | rfl <;> decide +kernel
theorem zPn_a9 {t : Nat} (h : zPn t) : zkd (t + 9) = 20 ∧ zln (t + 9) = 8 := by rcases h with rfl | rfl <;> decide +kernel
theorem zPn_a10 {t : Nat} (h : zPn t) : zkd (t + 10) = 20 ∧ zln (t + 10) = 8 := by rcases h with rfl | rfl <;> decide +kernel
theorem zPn_a11 {t : Nat} (h : zPn t) : zkd (t + 11) = 22 ∧ zln (t + 11) = 8 := by rcases h with rfl | rfl <;> decide +kernel
theorem zPn_a12 {t : Nat} (h : zPn t) : zkd (t + 12) = 21 ∧ zln (t + 12) = 600 := by rcases h with rfl | rfl <;> decide +kernel
theorem zPn_a13 {t : Nat} (h : zPn t) : zkd (t + 13) = 20 ∧ zln (t + 13) = 26 := by rcases h with rfl | rfl <;> decide +kernel
theorem zPn_a14 {t : Nat} (h : zPn t) : zkd (t + 14) = 20 ∧ zln (t + 14) = 4 := by rcases h with rfl | rfl <;> decide +kernel
/-- the objects of Treegrab$Script -/
def zSc (t : Nat) : Prop := t = 110 ∨ t = 116
theorem zSc_k {t : Nat} (h : zSc t) : zkd t = 5 + 1 := by rcases h with rfl | rfl <;> decide +kernel
theorem zSc_a1 {t : Nat} (h : zSc t) : zkd (t + 1) = 20 ∧ zln (t + 1) = 8 := by rcases h with rfl | rfl <;> decide +kernel
theorem zSc_a2 {t : Nat} (h : zSc t) : zkd (t + 2) = 20 ∧ zln (t + 2) = 8 := by rcases h with rfl | rfl <;> decide +kernel
theorem zSc_a3 {t : Nat} (h : zSc t) : zkd (t + 3) = 20 ∧ zln (t + 3) = 8 := by rcases h with rfl | rfl <;> decide +kernel
theorem zSc_a4 {t : Nat} (h : zSc t) : zkd (t + 4) = 21 ∧ zln (t + 4) = 8 := by rcases h with rfl | rfl <;> decide +kernel
theorem zSc_a5 {t : Nat} (h : zSc t) : zkd (t + 5) = 20 ∧ zln (t + 5) = 8 := by rcases h with rfl | rfl <;> decide +kernel
/-- the objects of Treegrab$Found -/
def zFo (t : Nat) : Prop := t = 50 ∨ t = 52
theorem zFo_k {t : Nat} (h : zFo t) : zkd t = 1 + 1 := by rcases h with rfl | rfl <;> decide +kernel
theorem zFo_a1 {t : Nat} (h : zFo t) : zkd (t + 1) = 21 ∧ zln (t + 1) = 3039 := by rcases h with rfl | rfl <;> decide +kernel
def zTxx (t : Nat) : Prop := t = 100000 ∨ t = 100001 ∨ t = 100002 ∨ t = 100003 ∨ t = 100004 ∨ t = 100005 ∨ t = 100006 ∨ t = 100007 ∨ t = 100008 ∨ t = 100009
theorem zTxx_k {t : Nat} (h : zTxx t) : zkd t = 31 := by rcases h with rfl | rfl | rfl | rfl | rfl | rfl | rfl | rfl | rfl | rfl <;> decide +kernel
theorem yGI_hit {σ : zW} {k j : Nat} {x : Int} : gI (sI σ k j x) k j = x := if_pos ⟨rfl, rfl⟩
theorem yGI_nj {σ : zW} {k j j2 : Nat} {x : Int} (h : j2 ≠ j) : gI (sI σ k j x) k j2 = gI σ k j2 := if_neg (fun w => h w.2)
theorem yGI_nk {σ : zW} {k j k2 j2 : Nat} {x : Int} (h : k2 ≠ k) : gI (sI σ k j x) k2 j2 = gI σ k2 j2 := if_neg (fun w => h w.1)
theorem yGL_hit {σ : zW} {k j : Nat} {x : Int64} : gL (sL σ k j x) k j = x := if_pos ⟨rfl, rfl⟩
theorem yGL_nj {σ : zW} {k j j2 : Nat} {x : Int64} (h : j2 ≠ j) : gL (sL σ k j x) k j2 = gL σ k j2 := if_neg (fun w => h w.2)
theorem yGL_nk {σ : zW} {k j k2 j2 : Nat} {x : Int64} (h : k2 ≠ k) : gL (sL σ k j x) k2 j2 = gL σ k2 j2 := if_neg (fun w => h w.1)
theorem yGR_hit {σ : zW} {k j : Nat} {x : Nat} : gR (sR σ k j x) k j = x := if_pos ⟨rfl, rfl⟩
theorem yGR_nj {σ : zW} {k j j2 : Nat} {x : Nat} (h : j2 ≠ j) : gR (sR σ k j x) k j2 = gR σ k j2 := if_neg (fun w => h w.2)
theorem yGR_nk {σ : zW} {k j k2 j2 : Nat} {x : Nat} (h : k2 ≠ k) : gR (sR σ k j x) k2 j2 = gR σ k2 j2 := if_neg (fun w => h w.1)
theorem zk_1 : zkd 1 = 9 + 1 := by decide +kernel
theorem zk_2 : zkd 2 = 7 + 1 := by decide +kernel
theorem za_3 : zkd 3 = 20 ∧ zln 3 = 600 := by decide +kernel
theorem za_4 : zkd 4 = 23 ∧ zln 4 = 3 := by decide +kernel
theorem zk_5 : zkd 5 = 8 + 1 := by decide +kernel
theorem za_6 : zkd 6 = 21 ∧ zln 6 = 20 := by decide +kernel
theorem za_7 : zkd 7 = 20 ∧ zln 7 = 20 := by decide +kernel
theorem za_8 : zkd 8 = 20 ∧ zln 8 = 20 := by decide +kernel
theorem za_9 : zkd 9 = 20 ∧ zln 9 = 20 := by decide +kernel
theorem za_10 : zkd 10 = 20 ∧ zln 10 = 20 := by decide +kernel
theorem za_11 : zkd 11 = 20 ∧ zln 11 = 20 := by decide +kernel
theorem za_12 : zkd 12 = 20 ∧ zln 12 = 20 := by decide +kernel
theorem za_13 : zkd 13 = 20 ∧ zln 13 = 20 := by decide +kernel
theorem za_14 : zkd 14 = 21 ∧ zln 14 = 20 := by decide +kernel
theorem za_15 : zkd 15 = 20 ∧ zln 15 = 20 := by decide +kernel
theorem za_16 : zkd 16 = 20 ∧ zln 16 = 21 := by decide +kernel
theorem zk_17 : zkd 17 = 8 + 1 := by decide +kernel
theorem za_18 : zkd 18 = 21 ∧ zln 18 = 20 := by decide +kernel
theorem za_19 : zkd 19 = 20 ∧ zln 19 = 20 := by decide +kernel
theorem za_20 : zkd 20 = 20 ∧ zln 20 = 20 := by decide +kernel
theorem za_21 : zkd 21 = 20 ∧ zln 21 = 20 := by decide +kernel
theorem za_22 : zkd 22 = 20 ∧ zln 22 = 20 := by decide +kernel
theorem za_23 : zkd 23 = 20 ∧ zln 23 = 20 := by decide +kernel
theorem za_24 : zkd 24 = 20 ∧ zln 24 = 20 := by decide +kernel
theorem za_25 : zkd 25 = 20 ∧ zln 25 = 20 := by decide +kernel
theorem za_26 : zkd 26 = 21 ∧ zln 26 = 20 := by decide +kernel
theorem za_27 : zkd 27 = 20 ∧ zln 27 = 20 := by decide +kernel
theorem za_28 : zkd 28 = 20 ∧ zln 28 = 21 := by decide +kernel
theorem zk_29 : zkd 29 = 8 + 1 := by decide +kernel
theorem za_30 : zkd 30 = 21 ∧ zln 30 = 20 := by decide +kernel
theorem za_31 : zkd 31 = 20 ∧ zln 31 = 20 := by decide +kernel
theorem za_32 : zkd 32 = 20 ∧ zln 32 = 20 := by decide +kernel
theorem za_33 : zkd 33 = 20 ∧ zln 33 = 20 := by decide +kernel
theorem za_34 : zkd 34 = 20 ∧ zln 34 = 20 := by decide +kernel
theorem za_35 : zkd 35 = 20 ∧ zln 35 = 20 := by decide +kernel
theorem za_36 : zkd 36 = 20 ∧ zln 36 = 20 := by decide +kernel
theorem za_37 : zkd 37 = 20 ∧ zln 37 = 20 := by decide +kernel
theorem za_38 : zkd 38 = 21 ∧ zln 38 = 20 := by decide +kernel
theorem za_39 : zkd 39 = 20 ∧ zln 39 = 20 := by decide +kernel
theorem za_40 : zkd 40 = 20 ∧ zln 40 = 21 := by decide +kernel
theorem zk_41 : zkd 41 = 6 + 1 := by decide +kernel
theorem za_42 : zkd 42 = 20 ∧ zln 42 = 8 := by decide +kernel
theorem za_43 : zkd 43 = 20 ∧ zln 43 = 160 := by decide +kernel
theorem za_44 : zkd 44 = 20 ∧ zln 44 = 160 := by decide +kernel
theorem za_45 : zkd 45 = 20 ∧ zln 45 = 20 := by decide +kernel
theorem za_46 : zkd 46 = 20 ∧ zln 46 = 8 := by decide +kernel
theorem za_47 : zkd 47 = 20 ∧ zln 47 = 8 := by decide +kernel
theorem za_48 : zkd 48 = 20 ∧ zln 48 = 4 := by decide +kernel
theorem za_49 : zkd 49 = 20 ∧ zln 49 = 4 := by decide +kernel
theorem zk_50 : zkd 50 = 1 + 1 := by decide +kernel
theorem za_51 : zkd 51 = 21 ∧ zln 51 = 3039 := by decide +kernel
theorem zk_52 : zkd 52 = 1 + 1 := by decide +kernel
theorem za_53 : zkd 53 = 21 ∧ zln 53 = 3039 := by decide +kernel
theorem zk_54 : zkd 54 = 0 + 1 := by decide +kernel
theorem za_55 : zkd 55 = 21 ∧ zln 55 = 20 := by decide +kernel
theorem za_56 : zkd 56 = 20 ∧ zln 56 = 20 := by decide +kernel
theorem za_57 : zkd 57 = 20 ∧ zln 57 = 20 := by decide +kernel
theorem za_58 : zkd 58 = 21 ∧ zln 58 = 20 := by decide +kernel
theorem za_59 : zkd 59 = 20 ∧ zln 59 = 20 := by decide +kernel
theorem za_60 : zkd 60 = 20 ∧ zln 60 = 20 := by decide +kernel
theorem zk_61 : zkd 61 = 2 + 1 := by decide +kernel
theorem za_62 : zkd 62 = 21 ∧ zln 62 = 10240 := by decide +kernel
theorem za_63 : zkd 63 = 20 ∧ zln 63 = 512 := by decide +kernel
theorem za_64 : zkd 64 = 20 ∧ zln 64 = 512 := by decide +kernel
theorem za_65 : zkd 65 = 20 ∧ zln 65 = 3 := by decide +kernel
theorem zk_66 : zkd 66 = 3 + 1 := by decide +kernel
theorem za_67 : zkd 67 = 20 ∧ zln 67 = 184 := by decide +kernel
theorem zk_68 : zkd 68 = 8 + 1 := by decide +kernel
theorem za_69 : zkd 69 = 21 ∧ zln 69 = 20 := by decide +kernel
theorem za_70 : zkd 70 = 20 ∧ zln 70 = 20 := by decide +kernel
theorem za_71 : zkd 71 = 20 ∧ zln 71 = 20 := by decide +kernel
theorem za_72 : zkd 72 = 20 ∧ zln 72 = 20 := by decide +kernel
theorem za_73 : zkd 73 = 20 ∧ zln 73 = 20 := by decide +kernel
theorem za_74 : zkd 74 = 20 ∧ zln 74 = 20 := by decide +kernel
theorem za_75 : zkd 75 = 20 ∧ zln 75 = 20 := by decide +kernel
theorem za_76 : zkd 76 = 20 ∧ zln 76 = 20 := by decide +kernel
theorem za_77 : zkd 77 = 21 ∧ zln 77 = 20 := by decide +kernel
theorem za_78 : zkd 78 = 20 ∧ zln 78 = 20 := by decide +kernel
theorem za_79 : zkd 79 = 20 ∧ zln 79 = 21 := by decide +kernel
theorem zk_80 : zkd 80 = 4 + 1 := by decide +kernel
theorem za_81 : zkd 81 = 20 ∧ zln 81 = 8 := by decide +kernel
theorem za_82 : zkd 82 = 20 ∧ zln 82 = 8 := by decide +kernel
theorem za_83 : zkd 83 = 20 ∧ zln 83 = 8 := by decide +kernel
theorem za_84 : zkd 84 = 20 ∧ zln 84 = 8 := by decide +kernel
theorem za_85 : zkd 85 = 20 ∧ zln 85 = 8 := by decide +kernel
theorem za_86 : zkd 86 = 20 ∧ zln 86 = 8 := by decide +kernel
theorem za_87 : zkd 87 = 20 ∧ zln 87 = 8 := by decide +kernel
theorem za_88 : zkd 88 = 20 ∧ zln 88 = 8 := by decide +kernel
theorem za_89 : zkd 89 = 20 ∧ zln 89 = 8 := by decide +kernel
theorem za_90 : zkd 90 = 20 ∧ zln 90 = 8 := by decide +kernel
theorem za_91 : zkd 91 = 22 ∧ zln 91 = 8 := by decide +kernel
theorem za_92 : zkd 92 = 21 ∧ zln 92 = 600 := by decide +kernel
theorem za_93 : zkd 93 = 20 ∧ zln 93 = 26 := by decide +kernel
theorem za_94 : zkd 94 = 20 ∧ zln 94 = 4 := by decide +kernel
theorem zk_95 : zkd 95 = 4 + 1 := by decide +kernel
theorem za_96 : zkd 96 = 20 ∧ zln 96 = 8 := by decide +kernel
theorem za_97 : zkd 97 = 20 ∧ zln 97 = 8 := by decide +kernel
theorem za_98 : zkd 98 = 20 ∧ zln 98 = 8 := by decide +kernel
theorem za_99 : zkd 99 = 20 ∧ zln 99 = 8 := by decide +kernel
theorem za_100 : zkd 100 = 20 ∧ zln 100 = 8 := by decide +kernel
theorem za_101 : zkd 101 = 20 ∧ zln 101 = 8 := by decide +kernel
theorem za_102 : zkd 102 = 20 ∧ zln 102 = 8 := by decide +kernel
theorem za_103 : zkd 103 = 20 ∧ zln 103 = 8 := by decide +kernel
theorem za_104 : zkd 104 = 20 ∧ zln 104 = 8 := by decide +kernel
theorem za_105 : zkd 105 = 20 ∧ zln 105 = 8 := by decide +kernel
theorem za_106 : zkd 106 = 22 ∧ zln 106 = 8 := by decide +kernel
theorem za_107 : zkd 107 = 21 ∧ zln 107 = 600 := by decide +kernel
theorem za_108 : zkd 108 = 20 ∧ zln 108 = 26 := by decide +kernel
theorem za_109 : zkd 109 = 20 ∧ zln 109 = 4 := by decide +kernel
theorem zk_110 : zkd 110 = 5 + 1 := by decide +kernel
theorem za_111 : zkd 111 = 20 ∧ zln 111 = 8 := by decide +kernel
theorem za_112 : zkd 112 = 20 ∧ zln 112 = 8 := by decide +kernel
theorem za_113 : zkd 113 = 20 ∧ zln 113 = 8 := by decide +kernel
theorem za_114 : zkd 114 = 21 ∧ zln 114 = 8 := by decide +kernel
theorem za_115 : zkd 115 = 20 ∧ zln 115 = 8 := by decide +kernel
theorem zk_116 : zkd 116 = 5 + 1 := by decide +kernel
theorem za_117 : zkd 117 = 20 ∧ zln 117 = 8 := by decide +kernel
theorem za_118 : zkd 118 = 20 ∧ zln 118 = 8 := by decide +kernel
theorem za_119 : zkd 119 = 20 ∧ zln 119 = 8 := by decide +kernel
theorem za_120 : zkd 120 = 21 ∧ zln 120 = 8 := by decide +kernel
theorem za_121 : zkd 121 = 20 ∧ zln 121 = 8 := by decide +kernel
theorem za_122 : zkd 122 = 20 ∧ zln 122 = 40 := by decide +kernel
theorem za_123 : zkd 123 = 20 ∧ zln 123 = 1 := by decide +kernel
