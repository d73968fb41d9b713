/-! soundness: what the machine in the small comes to, the machine comes to -/
def zmchk2 (o : Nat) (q : Nat × Nat) (w : Bool × Nat) : Bool := zmchk o q w && (!w.1 || (zhh q.2).isEmpty)
set_option maxRecDepth 100000 in
theorem zm_all2 : zallo zmchk2 0 zmts zmps = true := by decide +kernel
theorem zmt_ok2 {o n y : Nat} (h : zmt o n = some y) : ∃ bn : Bool, zmw bn o n y ∈ lw_tbl ∧ (bn = true → zhh y = []) ∧ (y < 9000 → y < 170 ∧ y ≠ 165) := by
  obtain ⟨w, hw⟩ := zallo_mem zm_all2 o _ (zlk_mem h)
  rw [Nat.zero_add] at hw
  simp only [zmchk2, zmchk, Bool.and_eq_true, Bool.or_eq_true, decide_eq_true_eq, Nat.blt_eq, Bool.not_eq_true'] at hw
  obtain ⟨⟨h1, h2⟩, h3⟩ := hw
  refine ⟨w.1, zw_in h1, fun hb => ?_, fun hy => ?_⟩
  · rcases h3 with h3 | h3
    · rw [hb] at h3; cases h3
    · exact List.isEmpty_iff.mp h3
  · rcases h2 with ⟨h2, h4⟩ | ⟨-, h4, -⟩
    · exact ⟨h2, fun q => by subst q; simp at h4⟩
    · have := Nat.le_of_ble_eq_true h4; omega
theorem zcw_good (y : Nat) : goodWord (zcw y) = true := by
  unfold zcw; split <;> rfl
theorem zpop_spec : ∀ (n : Nat) (st acc as rest : List zV), zpop n st acc = some (as, rest) → ∃ l : List zV, l.length = n ∧ st = l ++ rest ∧ as = l.reverse ++ acc
  | 0, st, acc, as, rest, h => by cases h; exact ⟨[], rfl, rfl, rfl⟩
  | n + 1, v :: st, acc, as, rest, h => by
    obtain ⟨l, h1, h2, h3⟩ := zpop_spec n st (v :: acc) as rest h
    exact ⟨v :: l, by rw [List.length_cons, h1], by rw [h2]; rfl, by rw [h3]; simp⟩
  | n + 1, [], acc, as, rest, h => by cases h
theorem zSr_len {ad : Nat → Nat} {n : Nat} : ∀ {l : List zV} {st : List Value}, zSr ad n l st → st.length = l.length
  | [], st, h => by rw [zSr_n h]; rfl
  | a :: l, st, h => by
    obtain ⟨v, m, rfl, -, h2⟩ := zSr_c h
    rw [List.length_cons, List.length_cons, zSr_len h2]
theorem zSr_app {ad : Nat → Nat} {n : Nat} : ∀ {l r : List zV} {st : List Value}, zSr ad n (l ++ r) st → ∃ lc rc : List Value, st = lc ++ rc ∧ zSr ad n l lc ∧ zSr ad n r rc
  | [], r, st, h => ⟨[], st, rfl, trivial, h⟩
  | a :: l, r, st, h => by
    obtain ⟨v, m, rfl, h1, h2⟩ := zSr_c (l := l ++ r) h
    obtain ⟨lc, rc, rfl, h3, h4⟩ := zSr_app h2
    exact ⟨v :: lc, rc, rfl, ⟨h1, h3⟩, h4⟩
theorem zSr_snoc {ad : Nat → Nat} {n : Nat} {a : zV} {v : Value} (hv : zVr ad n a v) : ∀ {l : List zV} {st : List Value}, zSr ad n l st → zSr ad n (l ++ [a]) (st ++ [v])
  | [], st, h => by rw [zSr_n h]; exact ⟨hv, trivial⟩
  | a2 :: l, st, h => by
    obtain ⟨v2, m, rfl, h1, h2⟩ := zSr_c h
    exact ⟨h1, zSr_snoc hv h2⟩
theorem zSr_rev {ad : Nat → Nat} {n : Nat} : ∀ {l : List zV} {st : List Value}, zSr ad n l st → zSr ad n l.reverse st.reverse
  | [], st, h => by rw [zSr_n h]; trivial
  | a :: l, st, h => by
    obtain ⟨v, m, rfl, h1, h2⟩ := zSr_c h
    rw [List.reverse_cons, List.reverse_cons]
    exact zSr_snoc h1 (zSr_rev h2)
theorem zlay_len {ad : Nat → Nat} {n : Nat} : ∀ {as : List zV} {vs : List Value}, zSr ad n as vs → (lg_sl vs).length = (zlay as).length
  | [], vs, h => by rw [zSr_n h]; rfl
  | a :: l, vs, h => by
    obtain ⟨v, m, rfl, h1, h2⟩ := zSr_c h
    have ih := zlay_len h2
    have hc := zVr_cat h1
    have e : lg_sl (v :: m) = (if v.category = 2 then [Slot.val v, Slot.second] else [Slot.val v]) ++ lg_sl m := rfl
    rw [e, List.length_append, ih, hc]
    match a with
    | .inl z => simp [zcat, zlay]; omega
    | .inr (.inl x) => simp [zcat, zlay]; omega
    | .inr (.inr k) => simp [zcat, zlay]; omega
theorem zget_none : ∀ (n i : Nat) (a : zV), zget (List.replicate n none) i = some a → False
  | 0, i, a, h => by cases i <;> cases h
  | n + 1, 0, a, h => by cases h
  | n + 1, i + 1, a, h => zget_none n i a h
theorem zlay_get {ad : Nat → Nat} {n m : Nat} : ∀ {as : List zV} {vs : List Value}, zSr ad n as vs → ∀ (k i : Nat) (a : zV), zget (zlay as ++ List.replicate m none) i = some a → ∃ v, (k + i, v) ∈ lv_args k vs ∧ zVr ad n a v
  | [], vs, h, k, i, a, hi => by
    exact (zget_none _ _ _ hi).elim
  | a0 :: l, vs, h, k, i, a, hi => by
    obtain ⟨v, w, rfl, h1, h2⟩ := zSr_c h
    have hc := zVr_cat h1
    match a0, h1, hc, hi with
    | .inl z, h1, hc, hi =>
      have e : lv_args k (v :: w) = (k, v) :: lv_args (k + 1) w := by
        show (k, v) :: lv_args (if v.category = 2 then k + 2 else k + 1) w = _
        rw [hc]; rfl
      rw [e]
      cases i with
      | zero => cases hi; exact ⟨v, by simp, h1⟩
      | succ i =>
        obtain ⟨v2, h3, h4⟩ := zlay_get h2 (k + 1) i a hi
        exact ⟨v2, List.mem_cons_of_mem _ (by rw [show k + (i + 1) = k + 1 + i by omega]; exact h3), h4⟩
    | .inr (.inr z), h1, hc, hi =>
      have e : lv_args k (v :: w) = (k, v) :: lv_args (k + 1) w := by
        show (k, v) :: lv_args (if v.category = 2 then k + 2 else k + 1) w = _
        rw [hc]; rfl
      rw [e]
      cases i with
      | zero => cases hi; exact ⟨v, by simp, h1⟩
      | succ i =>
        obtain ⟨v2, h3, h4⟩ := zlay_get h2 (k + 1) i a hi
        exact ⟨v2, List.mem_cons_of_mem _ (by rw [show k + (i + 1) = k + 1 + i by omega]; exact h3), h4⟩
    | .inr (.inl z), h1, hc, hi =>
      have e : lv_args k (v :: w) = (k, v) :: lv_args (k + 2) w := by
        show (k, v) :: lv_args (if v.category = 2 then k + 2 else k + 1) w = _
        rw [hc]; rfl
      rw [e]
      match i, hi with
      | 0, hi => cases hi; exact ⟨v, by simp, h1⟩
      | 1, hi => cases hi
      | i + 2, hi =>
        obtain ⟨v2, h3, h4⟩ := zlay_get h2 (k + 2) i a hi
        exact ⟨v2, List.mem_cons_of_mem _ (by rw [show k + (i + 2) = k + 2 + i by omega]; exact h3), h4⟩
def zOv (ad : Nat → Nat) (n : Nat) : Option zV → Option Value → Prop
  | none, none => True
  | some a, some v => zVr ad n a v
  | _, _ => False
def zQc (s0 : State) (D : va_G) (c4 : zC4) (b L : Nat) (xs : Nat → Int32) (adK : Nat → Nat) (ad0 : Nat → Nat) (n0 : Nat) (out : zO) (σF : zW) : Array Value → State → Outcome → State → Prop := fun _ st o t =>
  ∃ (v : Option Value) (a : Option zV) (ad1 : Nat → Nat) (E1 : Nat → va_E), o = .returned v ∧ out = .inl a ∧ zOv ad1 (gN σF) a v ∧ zAg n0 ad0 ad1 ∧ zRel s0 D c4 b L xs adK ad1 E1 σF t.heap ∧ va_F (zA s0) st t
def zXC (s0 : State) (D : va_G) (c4 : zC4) (b L : Nat) (xs : Nat → Int32) (adK : Nat → Nat) (ad0 : Nat → Nat) (n0 : Nat) (out : zO) (σF : zW) : String → State → State → Prop := fun X st t =>
  ∃ (k : Nat) (ad1 : Nat → Nat) (E1 : Nat → va_E), out = .inr k ∧ k < 3 ∧ X = zXn k ∧ zAg n0 ad0 ad1 ∧ zRel s0 D c4 b L xs adK ad1 E1 σF t.heap ∧ va_F (zA s0) st t
def zPc (s0 : State) (D : va_G) (c4 : zC4) (b L : Nat) (xs : Nat → Int32) (adK : Nat → Nat) (ad : Nat → Nat) (E : Nat → va_E) (σ : zW) (as : List zV) : Array Value → State → Prop := fun v U =>
  (∃ vs : List Value, v = vs.toArray ∧ zSr ad (gN σ) as vs) ∧ s0.WarmedH U.vm ∧ s0.heap.size ≤ U.heap.size ∧ (∀ q : Nat, q < s0.heap.size → U.heap[q]? = s0.heap[q]?) ∧ zRel s0 D c4 b L xs adK ad E σ U.heap
def zRm (d mc ms : Nat) : Room := { frames := d + 20, cells := mc, slots := ms, locals := 64 * d + 400 }
section ZSOUND
variable {s0 : State} {a0 : Array Value} {D : va_G} {c4 : zC4} {b L : Nat} {xs : Nat → Int32} {adK : Nat → Nat} {l : Launch}
def zWk (s0 : State) (D : va_G) (c4 : zC4) (b L : Nat) (xs : Nat → Int32) (adK : Nat → Nat) (l : Launch) (n : Nat) : Prop :=
  ∀ (d : Nat) (f : zF) (σ : zW) (out : zO) (σF : zW), zbig false n d f σ = some (out, σF) → f.1 < 170 →
  ∀ (p : Program) (e : Env) (R : Room) (s : State) (m : MethodId) (args : Array Value) (below : List Frame) (meth : Method) (c : Code) (H : Heap) (locs : List Loc) (cells slots mc ms : Nat) (ad0 : Nat → Nat) (n0 : Nat) (ad : Nat → Nat) (E : Nat → va_E) (ls : Array Slot) (st : List Value),
    zCx p s0 s m meth c f.1 → zSt s0 D c4 b L xs adK s (zinf f.1).2.2.1 ad E σ H locs f.2.2.1 f.2.2.2 ls st → n0 ≤ gN σ → zAg n0 ad0 ad → d + 20 ≤ R.frames → 64 * d + 400 ≤ R.locals → cells + gC σF ≤ mc + gC σ → slots + gS σF ≤ ms + gS σ → mc ≤ R.cells → ms ≤ R.slots →
    W p l e R s m args below meth c H locs cells slots (vx_MQ below (zQc s0 D c4 b L xs adK ad0 n0 out σF) (zXC s0 D c4 b L xs adK ad0 n0 out σF) args s mc ms (zA s0)) (F0 m f.2.1 ls st)
theorem z_blind {ad : Nat → Nat} {E : Nat → va_E} {σ : zW} {as : List zV} : FrameBlind (zPc s0 D c4 b L xs adK ad E σ as) := fun a U g mk h => h
theorem z_met {n d y : Nat} {as : List zV} {σ σF : zW} {out : zO} {ad : Nat → Nat} {E : Nat → va_E} (hW : zWk s0 D c4 b L xs adK l n) (h : zbig false n d (zent y as) σ = some (out, σF)) (hy : y < 170) (hy2 : y ≠ 165) (hlen : (zlay as).length ≤ (zinf y).2.2.1) :
    vx_Met l (zY y) [zcw y] (zRm d (gC σF - gC σ) (gS σF - gS σ)) (zPc s0 D c4 b L xs adK ad E σ as) (zQc s0 D c4 b L xs adK ad (gN σ) out σF) (zXC s0 D c4 b L xs adK ad (gN σ) out σF) (gC σF - gC σ) (gS σF - gS σ) (zA s0) := by
  obtain ⟨-, -, -, -, hcls, hpl, -, -, -, hini, -, -⟩ := zy_facts hy hy2
  have hle := zbig_mono _ _ _ _ _ _ h
  have body : ∀ (p : Program) (e : Env) (s : State) (m : MethodId) (args : Array Value) (below : List Frame) (meth : Method) (c : Code), p.tables.exec = Jvm.exec → c.code = zB y → meth.sig.returnType = zRt y → c.maxLocals = (zinf y).2.2.1 → s.vm.findClass (zY y).cls = some m.cls → c.exceptionTable.toList = tableOf (zhh y) → meth.name = (zY y).name → meth.locks = false → zPc s0 D c4 b L xs adK ad E σ as args s →
      W p l e (zRm d (gC σF - gC σ) (gS σF - gS σ)) s m args below meth c s.heap [] 0 0 (vx_MQ below (zQc s0 D c4 b L xs adK ad (gN σ) out σF) (zXC s0 D c4 b L xs adK ad (gN σ) out σF) args s (gC σF - gC σ) (gS σF - gS σ) (zA s0)) (entryFrame m args (zinf y).2.2.1) := by
    intro p e s m args below meth c h1 h2 h3 h4 h5 h6 h7 h8 hP
    obtain ⟨⟨vs, rfl, hvs⟩, hWm, hsz, hold, hR⟩ := hP
    have hl2 := zlay_len hvs
    rw [lg_entry_eq]
    refine hW d (zent y as) σ out σF h hy p e _ s m _ below meth c s.heap [] 0 0 _ _ ad (gN σ) ad E _ [] ⟨h1, h2, h3, h4, by show s.vm.findClass (zCn (zinf y).1) = _; rw [← hcls]; exact h5, h6, fun q => by rw [h7]; exact (hini q).1, h8, hWm, hsz, hold⟩ ⟨va_S.rf, hR, ⟨?_, lv_args 0 vs, lv_entry vs (by omega), fun i a hi => ?_⟩, trivial⟩ (Nat.le_refl _) zAg.rf (Nat.le_refl _) (Nat.le_refl _) ?_ ?_ (Nat.le_refl _) (Nat.le_refl _)
    · show (zlay as ++ List.replicate _ none).length = (zinf y).2.2.1
      rw [List.length_append, List.length_replicate]
      omega
    · have := zlay_get hvs 0 i a hi
      rw [Nat.zero_add] at this
      exact this
    · have := hle.2.1; omega
    · have := hle.2.2; omega
  cases hh : zhh y with
  | nil =>
    have hw : [zcw y] = Cond.code (zY y) (zB y) (zinf y).2.2.1 (zRt y) :: [] := by
      unfold zcw; rw [hh]
    refine vx_ofW hpl hw ?_
    intro p e s m args below meth c s₁ Bd hml htab hP
    refine body p e s m args below meth c Bd.exec Bd.bytes Bd.returns hml (findClass_of_methodNamed Bd.named) ?_ (name_of_methodNamed Bd.named Bd.method).1 Bd.notSynchronized hP
    rw [hh]
    show c.exceptionTable.toList = []
    exact List.eq_nil_iff_forall_not_mem.mpr (fun x hx => htab x hx)
  | cons q1 qs =>
    have hw : [zcw y] = Cond.codeWith (zY y) (zB y) (zinf y).2.2.1 (zRt y) (zhh y) :: [] := by
      unfold zcw; rw [hh]
    refine vx_ofWH hpl hw ?_
    intro p e s m args below meth c s₁ Bd hml hP
    refine body p e s m args below meth c Bd.exec Bd.bytes Bd.returns hml (findClass_of_methodNamed Bd.named) ?_ (name_of_methodNamed Bd.named Bd.method).1 Bd.notSynchronized hP
    have hpre := atoms_spec (ws := [zcw y]) Bd.pre _ List.mem_cons_self
    have e1 : zcw y = Cond.codeWith (zY y) (zB y) (zinf y).2.2.1 (zRt y) (zhh y) := (List.cons.inj hw).1
    rw [e1] at hpre
    exact vx_table (x := zY y) Bd hpre
variable {p : Program} {e : Env} {R : Room} {s : State} {m : MethodId} {args : Array Value} {below : List Frame} {meth : Method} {c : Code} {H : Heap} {locs : List Loc} {cells slots : Nat} {Q : State → Prop}
theorem z_callW {pc mc ms : Nat} {ls : Array Slot} {st0 rest : List Value} {Qa : State → Outcome → State → Prop} {XC : String → State → State → Prop} {free : Addr → Prop} (hr : vx_Run p l e R s m args below meth c H locs cells slots mc ms (F0 m pc ls st0) rest Qa XC free)
    (kk : ∀ (v : Option Value) (st₀ t : State) (L9 : List Loc), st₀.heap = H → s.vm.Alike t.vm → (∀ q ∈ L9, free q.base) → Qa st₀ (.returned v) t → W p l e R s m args below meth c t.heap (locs ++ L9) (cells + mc) (slots + ms) Q (F0 m (pc + 3) ls (v.toList ++ rest)))
    (kx : ∀ (X : String) (ce : Cell) (q : Addr) (st₀ t : State) (L9 : List Loc), st₀.heap = H → s.vm.Alike t.vm → (∀ z ∈ L9, free z.base) → XC X st₀ t → t.heap[q]? = some ce → ce.vm = .none → s.vm.findClass X = some ce.cls → vx_W p l e R s m args below meth c t.heap (locs ++ L9) (cells + mc) (slots + ms) Q (F0 m pc ls rest) q) : W p l e R s m args below meth c H locs cells slots Q (F0 m pc ls st0) := by
  intro T hT X
  rcases hr T hT X with ⟨v, st₀, t, T', L9, h0, X', hL, e1, e2, hq, st⟩ | ⟨q, st₀, t, T', L9, E, ce, h0, X', hL, e1, e2, hx, hce, hcv, hcl, st⟩
  · obtain ⟨t2, a1, b1⟩ := kk v st₀ t L9 h0 (by rw [← e2]; exact X'.warmed.alike) hL hq T' e1 X'
    exact ⟨t2, st t2 a1, b1⟩
  · obtain ⟨t2, a1, b1⟩ := kx E ce q st₀ t L9 h0 (by rw [← e2]; exact X'.warmed.alike) hL hx hce hcv hcl T' e1 X'
    exact ⟨t2, st.trans a1, b1⟩
end ZSOUND
