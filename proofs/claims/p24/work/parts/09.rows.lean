/-! the rows: a step of the machine in the small is a step of the machine -/
theorem zth_getD {α : Type} (d : α) : ∀ (l : List α) (n : Nat), zth d l n = l.getD n d
  | [], n => by cases n <;> rfl
  | a :: l, 0 => rfl
  | a :: l, n + 1 => by rw [zth, zth_getD d l n]; simp
def zc4t (c4 : zC4) : List (ClassId × FieldType) := [(c4.1, .int), (c4.2.1, .long), (c4.2.2.1, .boolean), (c4.2.2.2, .object "Treegrab$Tree")]
/-- a throw: method, pc, kind, pool entries of the class, the text, the constructor; 1 if the text is by a wide entry -/
abbrev zTh : Type := Nat × Nat × Nat × Nat × Nat × Nat × Nat
/-- what holds at the law's start: the words, the classes, the script, the texts -/
def zBase (s0 : State) (a0 : Array Value) (D : va_G) (c4 : zC4) (b L : Nat) (xs : Nat → Int32) (adK : Nat → Nat) : Prop :=
  (∀ w ∈ lw_tbl, w.before a0 s0 = true) ∧ va_K D zcl (zc4t c4) s0 ∧ va_X b L xs s0 s0.heap ∧ b < s0.heap.size ∧ L < 2 ^ 31 ∧ (∀ o n k, zst o n = some k → k < 10 ∧ ∃ tx, vk_R (zCn o) n tx (adK k) s0)
theorem zBase.w {s0 : State} {a0 : Array Value} {D : va_G} {c4 : zC4} {b L : Nat} {xs : Nat → Int32} {adK : Nat → Nat} (hB : zBase s0 a0 D c4 b L xs adK) {s : State} (hW : s0.WarmedH s.vm) {args : Array Value} {w : Cond} (hw : w ∈ lw_tbl) (hg : goodWord w = true) : w.before args s = true := word_at hW (good_of_word hg) (hB.1 w hw)
def zCx (p : Program) (s0 s : State) (m : MethodId) (meth : Method) (c : Code) (y : Nat) : Prop :=
  p.tables.exec = Jvm.exec ∧ c.code = zB y ∧ meth.sig.returnType = zRt y ∧ c.maxLocals = (zinf y).2.2.1 ∧ s.vm.findClass (zCn (zinf y).1) = some m.cls ∧ c.exceptionTable.toList = tableOf (zhh y) ∧ ((zinf y).2.2.2.2 = 2 → meth.name = "<init>") ∧ meth.locks = false ∧ s0.WarmedH s.vm ∧ s0.heap.size ≤ s.heap.size ∧ ∀ q : Nat, q < s0.heap.size → s.heap[q]? = s0.heap[q]?
def zSt (s0 : State) (D : va_G) (c4 : zC4) (b L : Nat) (xs : Nat → Int32) (adK : Nat → Nat) (s : State) (nL : Nat) (ad : Nat → Nat) (E : Nat → va_E) (σ : zW) (H : Heap) (locs : List Loc) (als : List (Option zV)) (ast : List zV) (ls : Array Slot) (st : List Value) : Prop :=
  va_S (zA s0) s.heap H locs ∧ zRel s0 D c4 b L xs adK ad E σ H ∧ zLr ad (gN σ) als ls nL ∧ zSr ad (gN σ) ast st
section ZROWS
variable {s0 : State} {a0 : Array Value} {D : va_G} {c4 : zC4} {b L : Nat} {xs : Nat → Int32} {adK : Nat → Nat}
variable {p : Program} {l : Launch} {e : Env} {R : Room} {s : State} {m : MethodId} {args : Array Value} {below : List Frame} {meth : Method} {c : Code} {Q : State → Prop} {y : Nat}
/-- how it goes on from the next frame -/
def zKn (s0 : State) (D : va_G) (c4 : zC4) (b L : Nat) (xs : Nat → Int32) (adK : Nat → Nat) (p : Program) (l : Launch) (e : Env) (R : Room) (s : State) (m : MethodId) (args : Array Value) (below : List Frame) (meth : Method) (c : Code) (Q : State → Prop) (nL : Nat) (σ : zW) (ad : Nat → Nat) (cells slots : Nat) (f' : zF) (σ' : zW) : Prop :=
  ∀ (H1 : Heap) (locs1 : List Loc) (ad1 : Nat → Nat) (E1 : Nat → va_E) (ls1 : Array Slot) (st1 : List Value) (cells1 slots1 : Nat), zAg (gN σ) ad ad1 → zSt s0 D c4 b L xs adK s nL ad1 E1 σ' H1 locs1 f'.2.2.1 f'.2.2.2 ls1 st1 → cells1 + gC σ = cells + gC σ' → slots1 + gS σ = slots + gS σ' →
    W p l e R s m args below meth c H1 locs1 cells1 slots1 Q (F0 m f'.2.1 ls1 st1)
variable {nL pc : Nat} {σ σ' : zW} {ad : Nat → Nat} {E : Nat → va_E} {H : Heap} {locs : List Loc} {cells slots : Nat} {als : List (Option zV)} {ast : List zV} {ls : Array Slot} {st : List Value} {f' : zF}
theorem zKn.same {als1 : List (Option zV)} {ast1 : List zV} {pc1 : Nat} (kk : zKn s0 D c4 b L xs adK p l e R s m args below meth c Q nL σ ad cells slots (y, pc1, als1, ast1) σ) (hSt : zSt s0 D c4 b L xs adK s nL ad E σ H locs als ast ls st) {ls1 : Array Slot} {st1 : List Value} (hL : zLr ad (gN σ) als1 ls1 nL) (h1 : zSr ad (gN σ) ast1 st1) : W p l e R s m args below meth c H locs cells slots Q (F0 m pc1 ls1 st1) :=
  kk H locs ad E ls1 st1 cells slots zAg.rf ⟨hSt.1, hSt.2.1, hL, h1⟩ rfl rfl
theorem zr_const {v : Int} {x : Int32} {pc1 : Nat} (row : W p l e R s m args below meth c H locs cells slots Q (F0 m pc1 ls (.int x :: st)) → W p l e R s m args below meth c H locs cells slots Q (F0 m pc ls st)) (hx : x.toInt = v) (hSt : zSt s0 D c4 b L xs adK s nL ad E σ H locs als ast ls st)
    (h : znx y pc1 als (.inl v :: ast) σ = some (.inl (f', σ'))) (kk : zKn s0 D c4 b L xs adK p l e R s m args below meth c Q nL σ ad cells slots f' σ') : W p l e R s m args below meth c H locs cells slots Q (F0 m pc ls st) := by
  unfold znx at h
  cases h
  exact row (kk.same hSt hSt.2.2.1 ⟨zVr_int x hx, hSt.2.2.2⟩)
theorem zr_lconst {x : Int64} {pc1 : Nat} (row : W p l e R s m args below meth c H locs cells slots Q (F0 m pc1 ls (.long x :: st)) → W p l e R s m args below meth c H locs cells slots Q (F0 m pc ls st)) (hSt : zSt s0 D c4 b L xs adK s nL ad E σ H locs als ast ls st)
    (h : znx y pc1 als (.inr (.inl x) :: ast) σ = some (.inl (f', σ'))) (kk : zKn s0 D c4 b L xs adK p l e R s m args below meth c Q nL σ ad cells slots f' σ') : W p l e R s m args below meth c H locs cells slots Q (F0 m pc ls st) := by
  unfold znx at h
  cases h
  exact row (kk.same hSt hSt.2.2.1 ⟨zVr_long x, hSt.2.2.2⟩)
theorem zr_ldi {k pc1 : Nat} (row : ∀ x : Int32, ls[k]? = some (.val (.int x)) → W p l e R s m args below meth c H locs cells slots Q (F0 m pc1 ls (.int x :: st)) → W p l e R s m args below meth c H locs cells slots Q (F0 m pc ls st)) (hSt : zSt s0 D c4 b L xs adK s nL ad E σ H locs als ast ls st)
    (h : zldi y pc1 k als ast σ = some (.inl (f', σ'))) (kk : zKn s0 D c4 b L xs adK p l e R s m args below meth c Q nL σ ad cells slots f' σ') : W p l e R s m args below meth c H locs cells slots Q (F0 m pc ls st) := by
  unfold zldi at h
  split at h
  · rename_i z hz
    unfold znx at h
    cases h
    obtain ⟨v, h1, x, rfl, ex⟩ := hSt.2.2.1.at hz
    exact row x h1 (kk.same hSt hSt.2.2.1 ⟨zVr_int x ex, hSt.2.2.2⟩)
  · cases h
theorem zr_ldl {k pc1 : Nat} (row : ∀ x : Int64, ls[k]? = some (.val (.long x)) → W p l e R s m args below meth c H locs cells slots Q (F0 m pc1 ls (.long x :: st)) → W p l e R s m args below meth c H locs cells slots Q (F0 m pc ls st)) (hSt : zSt s0 D c4 b L xs adK s nL ad E σ H locs als ast ls st)
    (h : zldl y pc1 k als ast σ = some (.inl (f', σ'))) (kk : zKn s0 D c4 b L xs adK p l e R s m args below meth c Q nL σ ad cells slots f' σ') : W p l e R s m args below meth c H locs cells slots Q (F0 m pc ls st) := by
  unfold zldl at h
  split at h
  · rename_i z hz
    unfold znx at h
    cases h
    obtain ⟨v, h1, h2⟩ := hSt.2.2.1.at hz
    have h2 : v = .long z := h2
    subst h2
    exact row z h1 (kk.same hSt hSt.2.2.1 ⟨zVr_long z, hSt.2.2.2⟩)
  · cases h
theorem zr_ldr {k pc1 : Nat} (row : ∀ x : Nat, ls[k]? = some (.val (.ref x)) → W p l e R s m args below meth c H locs cells slots Q (F0 m pc1 ls (.ref x :: st)) → W p l e R s m args below meth c H locs cells slots Q (F0 m pc ls st))
    (rown : ls[k]? = some (.val .null) → W p l e R s m args below meth c H locs cells slots Q (F0 m pc1 ls (.null :: st)) → W p l e R s m args below meth c H locs cells slots Q (F0 m pc ls st)) (hSt : zSt s0 D c4 b L xs adK s nL ad E σ H locs als ast ls st)
    (h : zldr y pc1 k als ast σ = some (.inl (f', σ'))) (kk : zKn s0 D c4 b L xs adK p l e R s m args below meth c Q nL σ ad cells slots f' σ') : W p l e R s m args below meth c H locs cells slots Q (F0 m pc ls st) := by
  unfold zldr at h
  split at h
  · rename_i z hz
    unfold znx at h
    cases h
    obtain ⟨v, h1, h2⟩ := hSt.2.2.1.at hz
    rcases id h2 with ⟨rfl, rfl⟩ | ⟨hk, rfl⟩
    · exact rown h1 (kk.same hSt hSt.2.2.1 ⟨h2, hSt.2.2.2⟩)
    · exact row _ h1 (kk.same hSt hSt.2.2.1 ⟨h2, hSt.2.2.2⟩)
  · cases h
theorem zr_sti {k pc1 : Nat} (row : ∀ (x : Int32) (rest : List Value) (lv : List (Nat × Value)), k < nL → lv_has ls nL lv → (∀ ls' : Array Slot, lv_has ls' nL ((k, Value.int x) :: lv.filter (fun q => !(q.1 == k) && !(q.1 + 1 == k && q.2.category == 2))) → W p l e R s m args below meth c H locs cells slots Q (F0 m pc1 ls' rest)) → W p l e R s m args below meth c H locs cells slots Q (F0 m pc ls (.int x :: rest))) (hSt : zSt s0 D c4 b L xs adK s nL ad E σ H locs als ast ls st)
    (h : zsti y pc1 k als ast σ = some (.inl (f', σ'))) (kk : zKn s0 D c4 b L xs adK p l e R s m args below meth c Q nL σ ad cells slots f' σ') : W p l e R s m args below meth c H locs cells slots Q (F0 m pc ls st) := by
  unfold zsti at h
  split at h
  · rename_i ast0 z ast1
    cases hk : Nat.blt k als.length with
    | false => rw [hk] at h; cases h
    | true =>
      rw [hk] at h
      unfold znx at h
      cases h
      obtain ⟨x, m1, rfl, ex, h1⟩ := zSr_i hSt.2.2.2
      obtain ⟨hlen, lv, hlv, h3⟩ := hSt.2.2.1
      have hk2 : k < nL := by rw [← hlen]; simpa [Nat.blt_eq] using hk
      exact row x m1 lv hk2 hlv (fun ls' h4 => kk.same hSt (zLr.st1 hlen h3 (fun a ha => by cases ha; exact zVr_int x ex) h4) h1)
  · cases h
theorem zr_stl {k pc1 : Nat} (row : ∀ (x : Int64) (rest : List Value) (lv : List (Nat × Value)), k + 1 < nL → lv_has ls nL lv → (∀ ls' : Array Slot, lv_has ls' nL ((k, Value.long x) :: lv.filter (fun q => !(q.1 == k) && (!(q.1 == k + 1) && !(q.1 + 1 == k && q.2.category == 2)))) → W p l e R s m args below meth c H locs cells slots Q (F0 m pc1 ls' rest)) → W p l e R s m args below meth c H locs cells slots Q (F0 m pc ls (.long x :: rest))) (hSt : zSt s0 D c4 b L xs adK s nL ad E σ H locs als ast ls st)
    (h : zstl y pc1 k als ast σ = some (.inl (f', σ'))) (kk : zKn s0 D c4 b L xs adK p l e R s m args below meth c Q nL σ ad cells slots f' σ') : W p l e R s m args below meth c H locs cells slots Q (F0 m pc ls st) := by
  unfold zstl at h
  split at h
  · rename_i ast0 z ast1
    cases hk : Nat.blt (k + 1) als.length with
    | false => rw [hk] at h; cases h
    | true =>
      rw [hk] at h
      unfold znx at h
      cases h
      obtain ⟨m1, rfl, h1⟩ := zSr_l hSt.2.2.2
      obtain ⟨hlen, lv, hlv, h3⟩ := hSt.2.2.1
      have hk2 : k + 1 < nL := by rw [← hlen]; simpa [Nat.blt_eq] using hk
      exact row z m1 lv hk2 hlv (fun ls' h4 => kk.same hSt (zLr.st2 hlen h3 (zVr_long z) h4) h1)
  · cases h
theorem zr_str {k pc1 : Nat} (row : ∀ (x : Nat) (rest : List Value) (lv : List (Nat × Value)), k < nL → lv_has ls nL lv → (∀ ls' : Array Slot, lv_has ls' nL ((k, Value.ref x) :: lv.filter (fun q => !(q.1 == k) && !(q.1 + 1 == k && q.2.category == 2))) → W p l e R s m args below meth c H locs cells slots Q (F0 m pc1 ls' rest)) → W p l e R s m args below meth c H locs cells slots Q (F0 m pc ls (.ref x :: rest)))
    (rown : ∀ (rest : List Value) (lv : List (Nat × Value)), k < nL → lv_has ls nL lv → (∀ ls' : Array Slot, lv_has ls' nL ((k, Value.null) :: lv.filter (fun q => !(q.1 == k) && !(q.1 + 1 == k && q.2.category == 2))) → W p l e R s m args below meth c H locs cells slots Q (F0 m pc1 ls' rest)) → W p l e R s m args below meth c H locs cells slots Q (F0 m pc ls (.null :: rest))) (hSt : zSt s0 D c4 b L xs adK s nL ad E σ H locs als ast ls st)
    (h : zstr y pc1 k als ast σ = some (.inl (f', σ'))) (kk : zKn s0 D c4 b L xs adK p l e R s m args below meth c Q nL σ ad cells slots f' σ') : W p l e R s m args below meth c H locs cells slots Q (F0 m pc ls st) := by
  unfold zstr at h
  split at h
  · rename_i ast0 z ast1
    cases hk : Nat.blt k als.length with
    | false => rw [hk] at h; cases h
    | true =>
      rw [hk] at h
      unfold znx at h
      cases h
      obtain ⟨v, m1, rfl, h2, h1⟩ := zSr_c hSt.2.2.2
      obtain ⟨hlen, lv, hlv, h3⟩ := hSt.2.2.1
      have hk2 : k < nL := by rw [← hlen]; simpa [Nat.blt_eq] using hk
      rcases id h2 with ⟨rfl, rfl⟩ | ⟨hk, rfl⟩
      · exact rown m1 lv hk2 hlv (fun ls' h4 => kk.same hSt (zLr.st1 hlen h3 (fun a ha => by cases ha; exact h2) h4) h1)
      · exact row _ m1 lv hk2 hlv (fun ls' h4 => kk.same hSt (zLr.st1 hlen h3 (fun a ha => by cases ha; exact h2) h4) h1)
  · cases h
theorem zr_bin {g : Int → Int → Int} (g32 : Int32 → Int32 → Int32) (hg : ∀ x y, (g32 x y).toInt = g x.toInt y.toInt) (row : ∀ (x y : Int32) (rest : List Value), W p l e R s m args below meth c H locs cells slots Q (F0 m (pc + 1) ls (.int (g32 x y) :: rest)) → W p l e R s m args below meth c H locs cells slots Q (F0 m pc ls (.int y :: .int x :: rest))) (hSt : zSt s0 D c4 b L xs adK s nL ad E σ H locs als ast ls st)
    (h : zbin g y pc als ast σ = some (.inl (f', σ'))) (kk : zKn s0 D c4 b L xs adK p l e R s m args below meth c Q nL σ ad cells slots f' σ') : W p l e R s m args below meth c H locs cells slots Q (F0 m pc ls st) := by
  unfold zbin at h
  split at h
  · unfold znx at h
    cases h
    obtain ⟨yv, m1, rfl, ey, h1⟩ := zSr_i hSt.2.2.2
    obtain ⟨xv, m2, rfl, ex, h2⟩ := zSr_i h1
    exact row xv yv m2 (kk.same hSt hSt.2.2.1 ⟨zVr_int _ (by rw [hg, ex, ey]), h2⟩)
  · cases h
theorem zr_lbin {g : Int64 → Int64 → Int64} (row : ∀ (x y : Int64) (rest : List Value), W p l e R s m args below meth c H locs cells slots Q (F0 m (pc + 1) ls (.long (g x y) :: rest)) → W p l e R s m args below meth c H locs cells slots Q (F0 m pc ls (.long y :: .long x :: rest))) (hSt : zSt s0 D c4 b L xs adK s nL ad E σ H locs als ast ls st)
    (h : zlbin g y pc als ast σ = some (.inl (f', σ'))) (kk : zKn s0 D c4 b L xs adK p l e R s m args below meth c Q nL σ ad cells slots f' σ') : W p l e R s m args below meth c H locs cells slots Q (F0 m pc ls st) := by
  unfold zlbin at h
  split at h
  · unfold znx at h
    cases h
    obtain ⟨m1, rfl, h1⟩ := zSr_l hSt.2.2.2
    obtain ⟨m2, rfl, h2⟩ := zSr_l h1
    exact row _ _ m2 (kk.same hSt hSt.2.2.1 ⟨zVr_long _, h2⟩)
  · cases h
theorem zr_lsh {g : Int64 → Int → Int64} (g32 : Int64 → Int32 → Int64) (hg : ∀ x y, g32 x y = g x y.toInt) (row : ∀ (x : Int64) (y : Int32) (rest : List Value), W p l e R s m args below meth c H locs cells slots Q (F0 m (pc + 1) ls (.long (g32 x y) :: rest)) → W p l e R s m args below meth c H locs cells slots Q (F0 m pc ls (.int y :: .long x :: rest))) (hSt : zSt s0 D c4 b L xs adK s nL ad E σ H locs als ast ls st)
    (h : zlsh g y pc als ast σ = some (.inl (f', σ'))) (kk : zKn s0 D c4 b L xs adK p l e R s m args below meth c Q nL σ ad cells slots f' σ') : W p l e R s m args below meth c H locs cells slots Q (F0 m pc ls st) := by
  unfold zlsh at h
  split at h
  · unfold znx at h
    cases h
    obtain ⟨yv, m1, rfl, ey, h1⟩ := zSr_i hSt.2.2.2
    obtain ⟨m2, rfl, h2⟩ := zSr_l h1
    exact row _ yv m2 (kk.same hSt hSt.2.2.1 ⟨by rw [hg, ey]; exact zVr_long _, h2⟩)
  · cases h
theorem zr_if {P P32 : Prop} {dP : Decidable P} {off : Int} {rest : List Value} {ast1 : List zV} (hP : P32 ↔ P) (row : ∀ tgt : Nat, (pc : Int) + off = (tgt : Int) → (P32 → W p l e R s m args below meth c H locs cells slots Q (F0 m tgt ls rest)) → (¬ P32 → W p l e R s m args below meth c H locs cells slots Q (F0 m (pc + 3) ls rest)) → W p l e R s m args below meth c H locs cells slots Q (F0 m pc ls st)) (hSt : zSt s0 D c4 b L xs adK s nL ad E σ H locs als ast ls st) (hr : zSr ad (gN σ) ast1 rest)
    (h : @zif P dP y pc off als ast1 σ = some (.inl (f', σ'))) (kk : zKn s0 D c4 b L xs adK p l e R s m args below meth c Q nL σ ad cells slots f' σ') : W p l e R s m args below meth c H locs cells slots Q (F0 m pc ls st) := by
  unfold zif at h
  split at h
  · rename_i t ht
    unfold znx at h
    cases h
    refine row t ht (fun h1 => ?_) (fun h1 => ?_)
    · have k2 := kk.same hSt hSt.2.2.1 hr
      rw [if_pos (hP.mp h1)] at k2
      exact k2
    · have k2 := kk.same hSt hSt.2.2.1 hr
      rw [if_neg (fun q => h1 (hP.mpr q))] at k2
      exact k2
  · cases h
end ZROWS
