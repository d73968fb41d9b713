/-! the texts: length and charAt of a literal, walked in the JDK's own code -/
def yOk (s0 U : State) : Prop := s0.WarmedH U.vm ∧ s0.heap.size ≤ U.heap.size ∧ ∀ q : Nat, q < s0.heap.size → U.heap[q]? = s0.heap[q]?
def yPc (s0 : State) (vs : List Value) : Array Value → State → Prop := fun a U => a = vs.toArray ∧ yOk s0 U
def yQc (v : Option Value) : Array Value → State → Outcome → State → Prop := fun _ st o t => o = .returned v ∧ t.heap = st.heap
def yRm (k : Nat) : Room := { frames := k, cells := 0, slots := 0, locals := 32 * k }
/-- a method that changes nothing: its answer to these arguments -/
def yM (l : Launch) (s0 : State) (y : MethodName) (w : Cond) (vs : List Value) (v : Option Value) (k : Nat) : Prop := vx_Met l y [w] (yRm k) (yPc s0 vs) (yQc v) (fun _ _ _ => False) 0 0 (fun _ => False)
theorem yPc_blind {s0 : State} {vs : List Value} : FrameBlind (yPc s0 vs) := fun a U g mk h => h
section YTXT
variable {s0 : State} {a0 : Array Value} {l : Launch}
theorem yOk.ins {s s2 : State} (h : yOk s0 s) {A : Nat → Prop} {H : Heap} {locs : List Loc} (hA : ∀ q, A q → s0.heap.size ≤ q) (hS : va_S A s.heap H locs) {U : State} (hU : U.heap = H) (hW : s.WarmedH U.vm) : yOk s0 U := by
  obtain ⟨h1, h2, h3⟩ := h
  refine ⟨State.WarmedH.trans h1 hW, by rw [hU]; exact Nat.le_trans h2 hS.1, fun q hq => ?_⟩
  rw [hU, hS.2.1 q (by omega) (fun w => absurd (hA q w) (by omega))]
  exact h3 q hq
theorem y_body {y : MethodName} {bytes : ByteArray} {maxL k : Nat} {ret : Option FieldType} {vs : List Value} {v : Option Value} (hp : plainName y.cls = true)
    (h : ∀ (p : Program) (e : Env) (s : State) (m : MethodId) (below : List Frame) (meth : Method) (c : Code), p.tables.exec = Jvm.exec → c.code = bytes → meth.sig.returnType = ret → c.maxLocals = maxL → s.vm.findClass y.cls = some m.cls → meth.locks = false → yOk s0 s →
      W p l e (yRm k) s m vs.toArray below meth c s.heap [] 0 0 (vx_MQ below (yQc v) (fun _ _ _ => False) vs.toArray s 0 0 (fun _ => False)) (entryFrame m vs.toArray maxL)) : yM l s0 y (Cond.code y bytes maxL ret) vs v k := by
  refine vx_ofW hp rfl ?_
  intro p e s m args below meth c s₁ Bd hml htab hP
  obtain ⟨rfl, hok⟩ := hP
  exact h p e s m below meth c Bd.exec Bd.bytes Bd.returns hml (findClass_of_methodNamed Bd.named) Bd.notSynchronized hok
variable {p : Program} {e : Env} {R : Room} {s : State} {m : MethodId} {args : Array Value} {below : List Frame} {meth : Method} {c : Code} {H : Heap} {locs : List Loc} {cells slots : Nat} {Q : State → Prop}
theorem y_callv {y : MethodName} {bytes cc : ByteArray} {maxL k nL index pc n : Nat} {ret : Option FieldType} {As rest : List Value} {q : Nat} {v : Option Value} {own : String} {A : Nat → Prop} {ls : Array Slot} (hM : yM l s0 y (Cond.code y bytes maxL ret) (.ref q :: As) v k)
    (hx : p.tables.exec = Jvm.exec) (hb : c.code = cc) (hml : c.maxLocals = nL) (hown : s.vm.findClass own = some m.cls) (hts : ∀ w ∈ lw_tbl, w.before a0 s0 = true) (hok : yOk s0 s) (hA : ∀ q, A q → s0.heap.size ≤ q) (hS : va_S A s.heap H locs)
    (w1 : Cond.code y bytes maxL ret ∈ lw_tbl) (w2 : Cond.initialized y.cls ∈ lw_tbl) (w3 : Cond.methodLink own index y ∈ lw_tbl) (w4 : Cond.instanceMethod y ∈ lw_tbl) (w5 : Cond.selects y.cls y y ∈ lw_tbl) (hd : y.cls ≠ "java/lang/invoke/MethodHandle" ∧ y.cls ≠ "java/lang/invoke/VarHandle") (hpar : (parseMethodDescriptor y.desc).map (fun d => d.parameters.length) = some n) (hn : As.length = n)
    (hcell : ∃ cellB : Cell, H[q]? = some cellB ∧ cellB.vm.isStatics = false ∧ s.vm.findClass y.cls = some cellB.cls) (hf : k + 1 ≤ R.frames) (hlo : 8 + (maxL + 11) + 32 * k ≤ R.locals) (hsz : ls.size = nL) (hcat : (rest.map fun v => v.category).sum ≤ 8) (hce : cells ≤ R.cells) (hsl : slots ≤ R.slots) (hdg : decode cc pc = .ok (.invokevirtual index, 3))
    (kk : W p l e R s m args below meth c H locs cells slots Q (F0 m (pc + 3) ls (v.toList ++ rest))) : W p l e R s m args below meth c H locs cells slots Q (F0 m pc ls (As.reverse ++ .ref q :: rest)) := by
  have wd : ∀ {w : Cond}, w ∈ lw_tbl → goodWord w = true → w.before args s = true := fun hw hg => word_at hok.1 (good_of_word hg) (hts _ hw)
  have hrun := vx_runV (H := H) (locs := locs) (cells := cells) (slots := slots) (g := F0 m pc ls (As.reverse ++ .ref q :: rest)) (rest := rest) (As := As) (b := q) (ret := ret) (bytes := bytes) (maxL := maxL) (C := y.cls) (own := own) (index := index) (n := n) (R := R) (s := s) (args := args) (below := below) (meth := meth) (Ts := []) (e := e)
    (show CallFix p m c cc nL s args [] own from ⟨hx, hb, hml, hown, fun w hw => by cases hw⟩) hM
    ⟨⟨rfl, rfl, hf, hlo, fun w hw a' U hU => by rw [List.mem_singleton.mp hw]; exact word_at (State.WarmedH.trans hok.1 hU) (good_of_word rfl) (hts _ w1), List.mem_cons_self, wd w1 rfl, wd w2 rfl, hd, fun sig h => by rw [h] at hpar; exact (Option.some.inj hpar).symm, wd w3 rfl⟩, wd w4 rfl, wd w5 rfl⟩
    ⟨yPc_blind, hcell, fun U hU hW => ⟨rfl, hok.ins (s2 := U) hA hS hU hW⟩⟩ rfl hn hsz rfl (by show 2 * 0 + _ ≤ 8; omega) hdg ⟨by omega, by omega⟩
  refine z_callW hrun (fun v9 st₀ t L9 h0 hal hL9 hq => ?_) (fun X ce q9 st₀ t L9 h0 hal hL9 hq hce hcv hcl => hq.elim)
  obtain ⟨hv, ht⟩ := hq
  cases hv
  have hL : L9 = [] := List.eq_nil_iff_forall_not_mem.mpr (fun z hz => hL9 z hz)
  subst hL
  rw [ht, h0, List.append_nil]
  exact kk
theorem y_calls {y : MethodName} {bytes cc : ByteArray} {maxL k nL index pc n : Nat} {ret : Option FieldType} {As rest : List Value} {v : Option Value} {own : String} {A : Nat → Prop} {ls : Array Slot} (hM : yM l s0 y (Cond.code y bytes maxL ret) As v k)
    (hx : p.tables.exec = Jvm.exec) (hb : c.code = cc) (hml : c.maxLocals = nL) (hown : s.vm.findClass own = some m.cls) (hts : ∀ w ∈ lw_tbl, w.before a0 s0 = true) (hok : yOk s0 s) (hA : ∀ q, A q → s0.heap.size ≤ q) (hS : va_S A s.heap H locs)
    (w1 : Cond.code y bytes maxL ret ∈ lw_tbl) (w2 : Cond.initialized y.cls ∈ lw_tbl) (w3 : Cond.methodLink own index y ∈ lw_tbl) (w4 : Cond.static y ∈ lw_tbl) (hd : y.cls ≠ "java/lang/invoke/MethodHandle" ∧ y.cls ≠ "java/lang/invoke/VarHandle") (hpar : (parseMethodDescriptor y.desc).map (fun d => d.parameters.length) = some n) (hn : As.length = n)
    (hf : k + 1 ≤ R.frames) (hlo : 8 + (maxL + 11) + 32 * k ≤ R.locals) (hsz : ls.size = nL) (hcat : (rest.map fun v => v.category).sum ≤ 8) (hce : cells ≤ R.cells) (hsl : slots ≤ R.slots) (hdg : decode cc pc = .ok (.invokestatic index, 3))
    (kk : W p l e R s m args below meth c H locs cells slots Q (F0 m (pc + 3) ls (v.toList ++ rest))) : W p l e R s m args below meth c H locs cells slots Q (F0 m pc ls (As.reverse ++ rest)) := by
  have wd : ∀ {w : Cond}, w ∈ lw_tbl → goodWord w = true → w.before args s = true := fun hw hg => word_at hok.1 (good_of_word hg) (hts _ hw)
  have hrun := vx_runS (H := H) (locs := locs) (cells := cells) (slots := slots) (g := F0 m pc ls (As.reverse ++ rest)) (rest := rest) (As := As) (ret := ret) (bytes := bytes) (maxL := maxL) (own := own) (index := index) (n := n) (R := R) (s := s) (args := args) (below := below) (meth := meth) (Ts := []) (e := e)
    (show CallFix p m c cc nL s args [] own from ⟨hx, hb, hml, hown, fun w hw => by cases hw⟩) hM
    ⟨⟨rfl, rfl, hf, hlo, fun w hw a' U hU => by rw [List.mem_singleton.mp hw]; exact word_at (State.WarmedH.trans hok.1 hU) (good_of_word rfl) (hts _ w1), List.mem_cons_self, wd w1 rfl, wd w2 rfl, hd, fun sig h => by rw [h] at hpar; exact (Option.some.inj hpar).symm, wd w3 rfl⟩, wd w4 rfl⟩
    ⟨yPc_blind, fun U hU hW => ⟨rfl, hok.ins (s2 := U) hA hS hU hW⟩⟩ rfl hn hsz rfl (by show 2 * 0 + _ ≤ 8; omega) hdg ⟨by omega, by omega⟩
  refine z_callW hrun (fun v9 st₀ t L9 h0 hal hL9 hq => ?_) (fun X ce q9 st₀ t L9 h0 hal hL9 hq hce hcv hcl => hq.elim)
  obtain ⟨hv, ht⟩ := hq
  cases hv
  have hL : L9 = [] := List.eq_nil_iff_forall_not_mem.mpr (fun z hz => hL9 z hz)
  subst hL
  rw [ht, h0, List.append_nil]
  exact kk
end YTXT
