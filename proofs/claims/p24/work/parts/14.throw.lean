/-! throws -/
def zXns : List String := ["java/lang/IllegalArgumentException", "java/lang/IllegalStateException", "java/lang/IndexOutOfBoundsException"]
def zXn (k : Nat) : String := zth "" zXns k
def zNm : List String := ["java/lang/RuntimeException", "java/lang/Exception"]
/-- method, pc, kind, entries of the class, the text and the constructor, 1 if the text's is wide -/
def zthq : List zTh := [(104, 11, 0, 89, 91, 93, 0), (104, 36, 1, 99, 101, 103, 0), (105, 14, 2, 115, 117, 119, 0), (105, 44, 1, 99, 127, 103, 0), (106, 20, 1, 99, 143, 103, 0), (107, 20, 1, 99, 149, 103, 0), (119, 12, 2, 115, 211, 119, 0), (119, 42, 2, 115, 219, 119, 0), (120, 139, 1, 99, 248, 103, 0), (121, 21, 1, 99, 264, 103, 1), (126, 7, 2, 115, 117, 119, 0), (127, 21, 2, 115, 282, 119, 1), (128, 12, 2, 115, 284, 119, 1), (128, 38, 2, 115, 286, 119, 1)]
theorem zthq_all : ∀ e ∈ zthss, ∀ f ∈ e.2, ∃ q ∈ zthq, q.1 = e.1 ∧ q.2.1 = f.1 ∧ q.2.2.1 = f.2 := by decide +kernel
theorem zth_ok {y pc k : Nat} (h : zths y pc = some k) : ∃ q ∈ zthq, q.1 = y ∧ q.2.1 = pc ∧ q.2.2.1 = k := by
  unfold zths at h
  cases h1 : zlk zthss y with
  | none => rw [h1] at h; cases h
  | some l =>
    rw [h1] at h
    exact zthq_all _ (zlk_mem h1) _ (zlk_mem h)
def zthchk (q : zTh) : Bool := match q with
  | (y, pc, k, ik, is, ic, w) =>
    decide (zraw y pc = some (.new ik, 3)) && (decide (zraw y (pc + 3) = some (.dup, 1)) && ((bif Nat.beq w 1 then decide (zraw y (pc + 4) = some (.ldc_w is, 3)) && (decide (zraw y (pc + 7) = some (.invokespecial ic, 3)) && decide (zraw y (pc + 10) = some (.athrow, 1))) else decide (zraw y (pc + 4) = some (.ldc is, 2)) && (decide (zraw y (pc + 6) = some (.invokespecial ic, 3)) && decide (zraw y (pc + 9) = some (.athrow, 1)))) && (Nat.beq (zinf y).1 9 && (decide (zhh y = []) && (Nat.blt y 170 && ((Nat.beq ic 93 && (Nat.beq k 0 && Nat.beq ik 89)) || ((Nat.beq ic 103 && (Nat.beq k 1 && Nat.beq ik 99)) || (Nat.beq ic 119 && (Nat.beq k 2 && Nat.beq ik 115)))))))))
theorem zthchk_all : zthq.all zthchk = true := by decide +kernel
def zwarm (w : Cond) : Bool := match w with
  | .castable _ _ => true
  | .declares _ => true
  | w => goodWord w
theorem zwarm_at {s0 s : State} {a0 args : Array Value} {w : Cond} (hW : s0.WarmedH s.vm) (hw : zwarm w = true) (h : w.before a0 s0 = true) : w.before args s = true := by
  cases w
  case castable C T => exact va_Nw.use rfl (va_Nw.warmC hW (va_Nw.of rfl h))
  case declares x => exact va_tabs rfl (rfl : (s0.setVm s.vm).vm = s.vm) (by rw [Cond.declares_setVm hW.alike]; exact h)
  all_goals exact word_at hW (good_of_word hw) h
def zatchk (ic : Nat) (X : String) (w : Cond) : Bool := decide (w ∈ lw_tbl) && (vx_ot w && zwarm w)
set_option maxRecDepth 100000 in
theorem zat_0 : (vx_atS "Treegrab" 93 (zXn 0) zNm).all (zatchk 93 (zXn 0)) = true := by decide +kernel
set_option maxRecDepth 100000 in
theorem zat_1 : (vx_atS "Treegrab" 103 (zXn 1) zNm).all (zatchk 103 (zXn 1)) = true := by decide +kernel
set_option maxRecDepth 100000 in
theorem zat_2 : (vx_atS "Treegrab" 119 (zXn 2) zNm).all (zatchk 119 (zXn 2)) = true := by decide +kernel
set_option maxRecDepth 100000 in
theorem zat_w : (Cond.classLink "Treegrab" 89 (zXn 0) ∈ lw_tbl ∧ Cond.classLink "Treegrab" 99 (zXn 1) ∈ lw_tbl ∧ Cond.classLink "Treegrab" 115 (zXn 2) ∈ lw_tbl) ∧ ∀ k, k < 3 → Cond.initialized (zXn k) ∈ lw_tbl ∧ Cond.castable (zXn k) (zXn k) ∈ lw_tbl := by decide +kernel
theorem zat_fit : ∀ k, k < 3 → Bundle.fit (zXn k) = true := by decide +kernel
theorem zNm_fit : ∀ n ∈ zNm, Bundle.fit n = true := by decide +kernel
theorem zat_ok {y pc k ik is ic w : Nat} (hq : (y, pc, k, ik, is, ic, w) ∈ zthq) : k < 3 ∧ Cond.classLink "Treegrab" ik (zXn k) ∈ lw_tbl ∧ Cond.initialized (zXn k) ∈ lw_tbl ∧ ∀ v ∈ vx_atS "Treegrab" ic (zXn k) zNm, v ∈ lw_tbl ∧ vx_ot v = true ∧ zwarm v = true := by
  have h := List.all_eq_true.mp zthchk_all _ hq
  simp only [zthchk, Bool.and_eq_true] at h
  obtain ⟨-, -, -, -, -, -, h⟩ := h
  have fin : ∀ {ic k : Nat}, (vx_atS "Treegrab" ic (zXn k) zNm).all (zatchk ic (zXn k)) = true → ∀ v ∈ vx_atS "Treegrab" ic (zXn k) zNm, v ∈ lw_tbl ∧ vx_ot v = true ∧ zwarm v = true := by
    intro ic k h v hv
    have h1 := List.all_eq_true.mp h v hv
    simp only [zatchk, Bool.and_eq_true, Bool.or_eq_true, decide_eq_true_eq] at h1
    exact h1
  rcases Bool.or_eq_true _ _ ▸ h with h | h
  · simp only [Bool.and_eq_true] at h
    obtain ⟨h1, h2, h3⟩ := h
    cases Nat.eq_of_beq_eq_true h1; cases Nat.eq_of_beq_eq_true h2; cases Nat.eq_of_beq_eq_true h3
    exact ⟨by omega, zat_w.1.1, (zat_w.2 0 (by omega)).1, fin zat_0⟩
  · rcases Bool.or_eq_true _ _ ▸ h with h | h
    · simp only [Bool.and_eq_true] at h
      obtain ⟨h1, h2, h3⟩ := h
      cases Nat.eq_of_beq_eq_true h1; cases Nat.eq_of_beq_eq_true h2; cases Nat.eq_of_beq_eq_true h3
      exact ⟨by omega, zat_w.1.2.1, (zat_w.2 1 (by omega)).1, fin zat_1⟩
    · simp only [Bool.and_eq_true] at h
      obtain ⟨h1, h2, h3⟩ := h
      cases Nat.eq_of_beq_eq_true h1; cases Nat.eq_of_beq_eq_true h2; cases Nat.eq_of_beq_eq_true h3
      exact ⟨by omega, zat_w.1.2.2, (zat_w.2 2 (by omega)).1, fin zat_2⟩
/-- a row of the code table is a row of the code -/
theorem zraw_ok {y p : Nat} {i : Instr} {len : Nat} (hy : y < 170) (h : zraw y p = some (i, len)) : decode (zB y) p = .ok (i, len) ∧ (Nat.beq (zil i) 0 || Nat.beq (zil i) len) = true := by
  have h1 := zlk_mem h
  have h2 := zd_ok hy
  unfold zdchk at h2
  rw [List.all_eq_true] at h2
  have key : ∀ (ls : List (List (Nat × Instr × Nat))), (∀ x ∈ ls, (x.all (zd1 y)) = true) → ∀ n, (zth [] ls n).all (zd1 y) = true := by
    intro ls hl n
    exact zth_all (P := fun x => (List.all x (zd1 y)) = true) rfl hl n
  have h3 := List.all_eq_true.mp (key _ h2 (p / 32)) _ h1
  simp only [zd1, Bool.and_eq_true, decide_eq_true_eq] at h3
  exact h3
/-- what the throws need of the start -/
def zThB (s0 : State) : Prop :=
  vx_Zq Bundle.tN "UNASSIGNED_STACK" Bundle.steD (zA s0) s0 s0.heap ∧ vx_Zq Bundle.tN "SUPPRESSED_SENTINEL" Bundle.listD (zA s0) s0 s0.heap ∧ (∀ q ∈ zthq, ∃ tx sa, vk_R "Treegrab" q.2.2.2.2.1 tx sa s0) ∧ ∀ i j : Nat, i < 3 → j < 3 → i ≠ j → va_Nc (zXn i) (zXn j) s0
section ZTHR
variable {s0 : State} {a0 : Array Value} {D : va_G} {c4 : zC4} {b L : Nat} {xs : Nat → Int32} {adK : Nat → Nat}
variable {p : Program} {l : Launch} {e : Env} {R : Room} {s : State} {m : MethodId} {args : Array Value} {below : List Frame} {meth : Method} {c : Code} {Q : State → Prop} {y : Nat}
variable {nL pc : Nat} {σ σ' : zW} {ad : Nat → Nat} {E : Nat → va_E} {H : Heap} {locs : List Loc} {cells slots : Nat} {als : List (Option zV)} {ast : List zV} {ls : Array Slot} {st : List Value} {f' : zF}
theorem zr_throw {k mc ms : Nat} {Qc : Array Value → State → Outcome → State → Prop} {XC : String → State → State → Prop} (hl : l.stackTraces = false) (hB : zBase s0 a0 D c4 b L xs adK) (hTh : zThB s0) (hC : zCx p s0 s m meth c y) (hth : zths y pc = some k) (hcat : zcat ast ≤ 8) (hSt : zSt s0 D c4 b L xs adK s nL ad E σ H locs als ast ls st)
    (hnL : c.maxLocals = nL) (hfr : 20 ≤ R.frames) (hlo : 400 ≤ R.locals) (hmc : cells + 1 ≤ mc) (hms : slots + 6 ≤ ms) (hRc : mc ≤ R.cells) (hRs : ms ≤ R.slots)
    (hX : ∀ t : State, s.vm.Alike t.vm → H.size ≤ t.heap.size → (∀ q : Nat, q < H.size → t.heap[q]? = H[q]?) → XC (zXn k) s t) : W p l e R s m args below meth c H locs cells slots (vx_MQ below Qc XC args s mc ms (zA s0)) (F0 m pc ls st) := by
  obtain ⟨hx, hb, -, -, hown, htab, -, hlk, hW, hsz, hold⟩ := id hC
  obtain ⟨hS, hR, hL, hst⟩ := id hSt
  have hlsz : ls.size = nL := by obtain ⟨-, lv, h9, -⟩ := hL; exact h9.1
  obtain ⟨⟨y9, pc9, k9, ik, is, ic, w⟩, hq, e1, e2, e3⟩ := zth_ok hth
  simp only at e1 e2 e3
  subst e1; subst e2; subst e3
  obtain ⟨hk3, hw1, hw2, hw3⟩ := zat_ok hq
  have h := List.all_eq_true.mp zthchk_all _ hq
  simp only [zthchk, Bool.and_eq_true, decide_eq_true_eq] at h
  obtain ⟨d0, d3, dw, hown9, hh9, hy9, -⟩ := h
  have hy : y9 < 170 := by simpa [Nat.blt_eq] using hy9
  have hown2 : s.vm.findClass "Treegrab" = some m.cls := by
    rw [Nat.eq_of_beq_eq_true hown9] at hown
    exact hown
  have htab2 : c.exceptionTable.toList = [] := by rw [htab, hh9]; rfl
  have hout : ∀ (z : Nat), ∀ x ∈ c.exceptionTable.toList, covers x z = false := by
    intro z x hx9
    rw [htab2] at hx9
    cases hx9
  obtain ⟨hU, hN, hT, -⟩ := hTh
  obtain ⟨tx, sa, hv⟩ := hT _ hq
  have hcat2 := zSr_cat hst
  have hat : ∀ v ∈ vx_atS "Treegrab" ic (zXn k9) zNm, v.before args s = true := by
    intro v hv9
    obtain ⟨h1, h2, h3⟩ := hw3 v hv9
    exact zwarm_at hW h3 (hB.1 _ h1)
  have hgood : ∀ v ∈ Cond.classLink "Treegrab" ik (zXn k9) :: Cond.initialized (zXn k9) :: vx_atS "Treegrab" ic (zXn k9) zNm, vx_ot v = true := by
    intro v hv9
    rcases List.mem_cons.mp hv9 with rfl | hv9
    · rfl
    · rcases List.mem_cons.mp hv9 with rfl | hv9
      · rfl
      · exact (hw3 v hv9).2.1
  have hU2 : vx_Zq Bundle.tN "UNASSIGNED_STACK" Bundle.steD (zA s0) s s.heap := vx_Zq.moved hW.alike (hU.kept (fun a ha _ => hold a ha))
  have hN2 : vx_Zq Bundle.tN "SUPPRESSED_SENTINEL" Bundle.listD (zA s0) s s.heap := vx_Zq.moved hW.alike (hN.kept (fun a ha _ => hold a ha))
  have hf : ∀ z ∈ locs, zA s0 z.base := hS.2.2
  cases hw : Nat.beq w 1 with
  | true =>
    rw [hw] at dw
    simp only [cond_true, Bool.and_eq_true, decide_eq_true_eq] at dw
    obtain ⟨d4, d7, d10⟩ := dw
    exact vx_throwSW (names := zNm) hx hb hl hown2 (zat_fit _ hk3) zNm_fit (hB.w hW hw1 rfl) (hB.w hW hw2 rfl) (vk_R.warm hW hv) hat hgood hU2 hN2 hS (by rw [hnL]; exact hlsz) (zraw_ok hy d0).1 (zraw_ok hy d3).1 (zraw_ok hy d4).1 (zraw_ok hy d7).1 (zraw_ok hy d10).1 (hout _) (by show 2 + 3 < _; omega) (by rw [hcat2]; show zcat ast + (13 * (2 + 1) + 43) ≤ _; omega) (by omega) (by omega) hlk hX hf hmc hms
  | false =>
    rw [hw] at dw
    simp only [cond_false, Bool.and_eq_true, decide_eq_true_eq] at dw
    obtain ⟨d4, d6, d9⟩ := dw
    exact vx_throwS (names := zNm) hx hb hl hown2 (zat_fit _ hk3) zNm_fit (hB.w hW hw1 rfl) (hB.w hW hw2 rfl) (vk_R.warm hW hv) hat hgood hU2 hN2 hS (by rw [hnL]; exact hlsz) (zraw_ok hy d0).1 (zraw_ok hy d3).1 (zraw_ok hy d4).1 (zraw_ok hy d6).1 (zraw_ok hy d9).1 (hout _) (by show 2 + 3 < _; omega) (by rw [hcat2]; show zcat ast + (13 * (2 + 1) + 43) ≤ _; omega) (by omega) (by omega) hlk hX hf hmc hms
end ZTHR
