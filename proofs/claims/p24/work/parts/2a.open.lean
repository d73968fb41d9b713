-- ===== end of PART A; then your names; then what follows =====
/-! THE CLAIM OUT OF ONE WALK OF THE LAW'S BODY. Your part is whole_start (and what it stands on); all else here is the same for every law, but numbers. -/
def R_law : String := "TreegrabLaw"
def lw_P (b : Addr) (xs : List Int32) (args : Array Value) (s : State) : Prop := args = #[.ref b] ∧ s.IntsAt b xs ∧ xs.length ≤ 260 ∧ (Jvm.Cond.and given_1 narrow_1).before args s = true
def lw_Q (_ : Array Value) (s : State) (o : Outcome) (t : State) : Prop := o = .returned (some (.int 1)) ∧ Framed s o t [] 600130 7301080
def lw_Z (below : List Frame) (a : Array Value) (s : State) : State → Prop := fun t => ∃ o, t.status = .running ∧ Ended t below o ∧ lw_Q a s o t
/-- the law's own end, with 1 on the stack, nothing written that was there before, its room as the claim has it -/
theorem lw_ret {p : Program} {l : Launch} {e : Env} {s : State} {m : MethodId} {below : List Frame} {meth : Method} {c : Code} {b : Nat} (hx : p.tables.exec = Jvm.exec) (hb : c.code = code) (hr : meth.sig.returnType = ret) (hlocks : meth.locks = false) {pc : Nat} {H : Heap} {ls : Array Slot} (hdg : decode code pc = .ok (.ireturn, 1)) : W p l e room_1 s m #[Value.ref b] below meth c H [] 600130 7301080 (lw_Z below #[Value.ref b] s) (F0 m pc ls [.int 1]) := by
  intro T hT X
  obtain ⟨fs, hret, hrun, hended, hW, hframe⟩ := X.leave (v := some (.int 1)) (hlocks := hlocks) (fun h => by rw [hr] at h; cases h)
  have hmeth' : T.vm.method? m = some meth := X.method'
  refine ⟨T.setFrames fs, ?_, .returned (some (.int 1)), hrun, hended, rfl, ⟨_, rfl⟩, hW, hframe⟩
  jvm_step X.here [X.here.top, hx, hb, hdg, hmeth', hr, ret, narrow_b1]
  (try refine ⟨rfl, ?_⟩); (try refine ⟨rfl, ?_⟩)
  first | (intro acts; rw [hret _ acts rfl rfl rfl]) | rw [hret _ _ rfl rfl rfl]
  exact Steps.refl _
/-- what holds at the law's entry: the machine, the code, the tables' words (any of lw_tbl by 'hts w (by decide +kernel)'), the script of L ints xs at the cell b, what the Statement gives of the start (any of its parts by flat_of_before) -/
def lw_At (p : Program) (s : State) (m : MethodId) (meth : Method) (c : Code) (b L : Nat) (xs : Nat → Int32) : Prop :=
  p.tables.exec = Jvm.exec ∧ c.code = code ∧ meth.sig.returnType = ret ∧ c.maxLocals = 11 ∧ s.vm.findClass R_law = some m.cls ∧ (∀ w ∈ lw_tbl, w.before #[Value.ref b] s = true) ∧ va_X b L xs s s.heap ∧ b < s.heap.size ∧ meth.locks = false ∧ (Jvm.Cond.and given_1 narrow_1).before #[Value.ref b] s = true
/-! the claim out of the machine in the small -/
def yTxn : List Nat := [76, 82, 84, 86, 88, 90, 95, 97, 99, 101]
def yTx (i : Nat) : Nat := zth 0 yTxn i
def yTxs : List String := ["rename", "delete", "excise", "wrap", "add", "move", "first", "last", "before", "after"]
def yLen : List Nat := [6, 6, 6, 4, 3, 4, 5, 4, 6, 5]
def yByt : List (List Int32) := [[114, 101, 110, 97, 109, 101], [100, 101, 108, 101, 116, 101], [101, 120, 99, 105, 115, 101], [119, 114, 97, 112], [97, 100, 100], [109, 111, 118, 101], [102, 105, 114, 115, 116], [108, 97, 115, 116], [98, 101, 102, 111, 114, 101], [97, 102, 116, 101, 114]]
def ytm (i : Nat) : Term := .string "Treegrab$Script" (yTx i)
def yfl : List Cond := flatC (Jvm.Cond.and given_1 narrow_1)
def ybs : List Nat := [160, 175, 191, 208, 224, 240, 258, 278, 298, 321]
def yne : List (List Nat) := [[0, 190, 206, 221, 236, 253, 272, 291, 313, 335], [190, 0, 207, 222, 237, 254, 273, 292, 314, 336], [206, 207, 0, 223, 238, 255, 274, 293, 315, 337], [221, 222, 223, 0, 239, 256, 275, 294, 316, 338], [236, 237, 238, 239, 0, 257, 276, 295, 317, 339], [253, 254, 255, 256, 257, 0, 277, 296, 318, 340], [272, 273, 274, 275, 276, 277, 0, 297, 319, 341], [291, 292, 293, 294, 295, 296, 297, 0, 320, 342], [313, 314, 315, 316, 317, 318, 319, 320, 0, 343], [335, 336, 337, 338, 339, 340, 341, 342, 343, 0]]
def yth : List Nat := [47, 62, 83, 102, 129, 344, 468, 502, 538, 576, 631, 385, 427]
def ync : List (List Nat) := [[0, 46, 21], [34, 0, 22], [33, 45, 0]]
section YOPEN
variable {s : State} {b : Nat}
theorem y_fl (hgv : (Jvm.Cond.and given_1 narrow_1).before #[Value.ref b] s = true) {w : Cond} {n : Nat} (hw : yfl[n]? = some w) : w.before #[Value.ref b] s = true := flat_of_before _ hgv w (List.mem_of_getElem? hw)
set_option maxRecDepth 1000000 in
theorem y_in0 : (List.range 10).all (fun i => decide (yfl[zth 0 ybs i]? = some (Cond.exactly (ytm i) "java/lang/String")) && (decide (yfl[zth 0 ybs i + 1]? = some (Cond.eq (.field (ytm i) "java/lang/String" "coder" "B") (.int 0))) && (decide (yfl[zth 0 ybs i + 2]? = some (Cond.arrayOf (.field (ytm i) "java/lang/String" "value" "[B") .byte)) && decide (yfl[zth 0 ybs i + 3]? = some (Cond.eq (.length (.field (ytm i) "java/lang/String" "value" "[B")) (.int (Int32.ofNat (yLen.getD i 0)))))))) = true := by decide +kernel
set_option maxRecDepth 1000000 in
theorem y_in1 : (List.range 10).all (fun i => (List.range (yLen.getD i 0)).all fun j => decide (yfl[zth 0 ybs i + 4 + j]? = some (Cond.eq (.elem (.field (ytm i) "java/lang/String" "value" "[B") (.int (Int32.ofNat j))) (.int ((yByt.getD i []).getD j 0))))) = true := by decide +kernel
set_option maxRecDepth 1000000 in
theorem y_in2 : (List.range 10).all (fun i => (List.range 10).all fun j => Nat.beq i j || (decide (yfl[zth 0 (zth [] yne i) j]? = some (Cond.not (Cond.eq (ytm i) (ytm j)))) || decide (yfl[zth 0 (zth [] yne i) j]? = some (Cond.not (Cond.eq (ytm j) (ytm i)))))) = true := by decide +kernel
theorem y_texts (hgv : (Jvm.Cond.and given_1 narrow_1).before #[Value.ref b] s = true) : ∃ adK adV : Nat → Nat, vk_S 10 yLen yByt adK adV (zA s) s s.heap ∧ ∀ i : Nat, i < 10 → (ytm i).eval #[Value.ref b] s none [] s = some (.ref (adK i)) := by
  have h0 := fun i (hi : i < 10) => List.all_eq_true.mp y_in0 i (List.mem_range.mpr hi)
  have h1 := fun i (hi : i < 10) => List.all_eq_true.mp y_in1 i (List.mem_range.mpr hi)
  have h2 := fun i (hi : i < 10) j (hj : j < 10) => List.all_eq_true.mp (List.all_eq_true.mp y_in2 i (List.mem_range.mpr hi)) j (List.mem_range.mpr hj)
  simp only [Bool.and_eq_true, Bool.or_eq_true, decide_eq_true_eq] at h0 h2
  refine vk_Sof (tm := ytm) (fun i hi => ?_) (fun i hi => y_fl hgv (h0 i hi).1) (fun i hi => y_fl hgv (h0 i hi).2.1) (fun i hi => y_fl hgv (h0 i hi).2.2.1) (fun i hi => y_fl hgv (h0 i hi).2.2.2) (fun i hi j hj => y_fl hgv (of_decide_eq_true (List.all_eq_true.mp (h1 i hi) j (List.mem_range.mpr hj)))) (fun i j hi hj hij => ?_) (fun a ha => Nat.not_le.mpr ha)
  · have : ∀ i, i < 10 → yLen.getD i 0 < 100 := by decide
    have := this i hi
    omega
  · rcases h2 i hi j hj with q | q | q
    · exact absurd (Nat.eq_of_beq_eq_true q) hij
    · exact Or.inl (y_fl hgv q)
    · exact Or.inr (y_fl hgv q)
def yThs : List (Nat × String × Nat × Nat) := [(91, "n is 1 to 8", 492, 47), (101, "the tape is full", 528, 62), (117, "no such place", 559, 83), (127, "the tree has a fault", 614, 102), (143, "the pattern has a fault", 717, 129), (149, "the script has a fault", 818, 344), (282, "no such node", 1112, 468), (284, "no such match", 1203, 502), (286, "no such number", 1204, 538), (211, "there is no tree or no pattern", 1213, 576), (219, "the plan has no such step", 1214, 631), (248, "an EDIT cannot be done", 1033, 385), (264, "no edit to take back", 1053, 427)]
def yTxw : List Nat := [735, 788, 789, 790, 791, 792, 814, 815, 816, 817]
def yInw : List Nat := [204, 177, 242, 264, 278, 353, 129, 33, 64, 25]
set_option maxRecDepth 1000000 in
theorem y_in3 : yThs.all (fun q => decide (tables_1[q.2.2.1]? = some (Cond.stringRef "Treegrab" q.1 q.2.1)) && decide (yfl[q.2.2.2]? = some (Cond.exactly (.string "Treegrab" q.1) "java/lang/String"))) = true := by decide +kernel
theorem y_in4 : zthq.all (fun q => yThs.any fun t => Nat.beq t.1 q.2.2.2.2.1) = true := by decide +kernel
set_option maxRecDepth 1000000 in
theorem y_in5 : (List.range 10).all (fun i => decide (tables_1[zth 0 yTxw i]? = some (Cond.stringRef "Treegrab$Script" (yTx i) (zth "" yTxs i)))) = true := by decide +kernel
set_option maxRecDepth 1000000 in
theorem y_in6 : (List.range 3).all (fun i => (List.range 3).all fun j => Nat.beq i j || decide (yfl[zth 0 (zth [] ync i) j]? = some (Cond.not (Cond.castable (zXn i) (zXn j))))) = true := by decide +kernel
set_option maxRecDepth 1000000 in
theorem y_in7 : (tables_1[478]? = some (Cond.laysStatic Bundle.tN "UNASSIGNED_STACK" Bundle.steD) ∧ tables_1[480]? = some (Cond.laysStatic Bundle.tN "SUPPRESSED_SENTINEL" Bundle.listD) ∧ tables_1[11]? = some (Cond.initialized Bundle.tN)) ∧ yfl[4]? = some (Cond.isRef (.static Bundle.tN "UNASSIGNED_STACK" Bundle.steD)) ∧ yfl[5]? = some (Cond.isRef (.static Bundle.tN "SUPPRESSED_SENTINEL" Bundle.listD)) := by decide +kernel
theorem y_thb (hts : ∀ w ∈ lw_tbl, w.before #[Value.ref b] s = true) (hgv : (Jvm.Cond.and given_1 narrow_1).before #[Value.ref b] s = true) : zThB s := by
  have hA : ∀ a : Nat, a < s.heap.size → ¬ zA s a := fun a ha => Nat.not_le.mpr ha
  obtain ⟨⟨k1, k2, k3⟩, k4, k5⟩ := y_in7
  refine ⟨vx_Zqof (hts _ (zw_in k1)) (hts _ (zw_in k3)) (y_fl hgv k4) hA, vx_Zqof (hts _ (zw_in k2)) (hts _ (zw_in k3)) (y_fl hgv k5) hA, fun q hq => ?_, fun i j hi hj hij => ?_⟩
  · have h1 := List.all_eq_true.mp y_in4 q hq
    obtain ⟨t, ht, h2⟩ := List.any_eq_true.mp h1
    have h3 := List.all_eq_true.mp y_in3 t ht
    simp only [Bool.and_eq_true, decide_eq_true_eq] at h3
    obtain ⟨a, c, cA, kA, q1, -⟩ := Cond.exactly_spec (args := #[Value.ref b]) (first := s) (o := none) (s := s) (idx := []) (t := .string "Treegrab" t.1) (cls := "java/lang/String") (y_fl hgv h3.2)
    rw [← Nat.eq_of_beq_eq_true h2]
    exact ⟨t.2.1, a, vk_R.of (hts _ (zw_in h3.1)) q1⟩
  · have h1 := List.all_eq_true.mp (List.all_eq_true.mp y_in6 i (List.mem_range.mpr hi)) j (List.mem_range.mpr hj)
    simp only [Bool.or_eq_true, decide_eq_true_eq] at h1
    rcases h1 with h1 | h1
    · exact absurd (Nat.eq_of_beq_eq_true h1) hij
    · exact va_Nc.of (y_fl hgv h1)
theorem y_arr {ty : FieldType} (hp : ∀ C, ty ≠ .object C) (h : (Cond.arrayClass ty).before #[Value.ref b] s = true) : ∃ cA : ClassId, ArrOfT s cA ty ∧ va_RA s cA ty := by
  obtain ⟨cA, kA, comp, h1, h2, h3⟩ := Cond.arrayClass_spec h
  refine ⟨cA, fun n z => ⟨fun k h => (by cases h), kA, h2, comp, h3⟩, ?_⟩
  cases ty with
  | object C => exact absurd rfl (hp C)
  | _ => exact h1
theorem y_arrq {C : String} (h : (Cond.arrayOver (.object C)).before #[Value.ref b] s = true) : ∃ cA : ClassId, ArrOfT s cA (.object C) ∧ va_RA s cA (.object C) := by
  obtain ⟨comp, c, k, h1, h2, h3, h4, h5⟩ := Cond.arrayOver_spec h
  exact ⟨c, fun n z => ⟨fun k h => (by cases h), k, h3, comp, h4⟩, k, comp, h3, h4, h1, h5⟩
set_option maxRecDepth 1000000 in
theorem y_in8 : (List.range 10).all (fun c => match zcl[c]? with | none => false | some q => decide (tables_1[zth 0 yInw c]? = some (Cond.instantiable q.1 q.2.2))) = true := by decide +kernel
theorem y_known (hts : ∀ w ∈ lw_tbl, w.before #[Value.ref b] s = true) : ∃ D : va_G, ∀ (c : Nat) (q : vw_C), zcl[c]? = some q → u_Kn s q.1 q.2.1 q.2.2 (D.1 c) (D.2 c) := by
  have h0 : ∀ c : Nat, ∃ D : ClassId × (Nat → Nat), ∀ q : vw_C, zcl[c]? = some q → u_Kn s q.1 q.2.1 q.2.2 D.1 D.2 := by
    intro c
    cases hq : zcl[c]? with
    | none => exact ⟨(0, fun _ => 0), fun q h => by cases h⟩
    | some q =>
      have hc : c < 10 := (List.getElem?_eq_some_iff.mp hq).1
      have h1 := List.all_eq_true.mp y_in8 c (List.mem_range.mpr hc)
      rw [hq] at h1
      simp only [decide_eq_true_eq] at h1
      obtain ⟨cC, iS, hk⟩ := u_known (C := q.1) (T := q.2.1) (N := q.2.2) (n := q.2.2) hts (fun w hw => (zl_ok hq w hw).1) (hts _ (zw_in h1))
      exact ⟨(cC, iS), fun q2 h2 => by cases h2; exact hk⟩
  obtain ⟨D, hD⟩ := Classical.axiomOfChoice h0
  exact ⟨(fun c => (D c).1, fun c => (D c).2), fun c q hq => hD c q hq⟩
end YOPEN
