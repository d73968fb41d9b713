/-! the code tables against the bytes (written by emit06.py) -/
/-- the lengths of instructions; 0: not told here -/
def zil : Instr → Nat
  | .tableswitch _ _ _ _ => 0
  | .lookupswitch _ _ => 0
  | .bipush _ => 2
  | .sipush _ => 3
  | .ldc _ => 2
  | .ldc_w _ => 3
  | .ldc2_w _ => 3
  | .iload _ => 2
  | .lload _ => 2
  | .aload _ => 2
  | .istore _ => 2
  | .lstore _ => 2
  | .astore _ => 2
  | .iinc _ _ => 3
  | .ifCond _ _ => 3
  | .if_icmp _ _ => 3
  | .goto _ => 3
  | .getfield _ => 3
  | .putfield _ => 3
  | .new _ => 3
  | .newarray _ => 2
  | .anewarray _ => 3
  | .invokevirtual _ => 3
  | .invokestatic _ => 3
  | .invokespecial _ => 3
  | _ => 1
def zd1 (y : Nat) (e : Nat × Instr × Nat) : Bool := decide (decode (zB y) e.1 = .ok e.2) && (Nat.beq (zil e.2.1) 0 || Nat.beq (zil e.2.1) e.2.2)
def zdchk (y : Nat) : Bool := (zth2 [] zcodes y).all (fun l => l.all (zd1 y))
set_option maxRecDepth 1000000 in
theorem zd_law0 : ((zc_165.drop 0).take 3).all (fun l => l.all (zd1 165)) = true := by decide +kernel
set_option maxRecDepth 1000000 in
theorem zd_law1 : ((zc_165.drop 3).take 3).all (fun l => l.all (zd1 165)) = true := by decide +kernel
set_option maxRecDepth 1000000 in
theorem zd_law2 : ((zc_165.drop 6).take 3).all (fun l => l.all (zd1 165)) = true := by decide +kernel
set_option maxRecDepth 1000000 in
theorem zd_law3 : ((zc_165.drop 9).take 3).all (fun l => l.all (zd1 165)) = true := by decide +kernel
set_option maxRecDepth 1000000 in
theorem zd_law4 : ((zc_165.drop 12).take 3).all (fun l => l.all (zd1 165)) = true := by decide +kernel
theorem zd_lawS : zc_165 = (zc_165.drop 0).take 3 ++ ((zc_165.drop 3).take 3 ++ ((zc_165.drop 6).take 3 ++ ((zc_165.drop 9).take 3 ++ ((zc_165.drop 12).take 3)))) := rfl
theorem zd_law : zc_165.all (fun l => l.all (zd1 165)) = true := by
  rw [zd_lawS]
  simp only [List.all_append, zd_law0, zd_law1, zd_law2, zd_law3, zd_law4, Bool.and_self]
set_option maxRecDepth 1000000 in
theorem zd_all0 : (List.range 25).all (fun i => zdchk (0 + i)) = true := by decide +kernel
set_option maxRecDepth 1000000 in
theorem zd_all1 : (List.range 21).all (fun i => zdchk (25 + i)) = true := by decide +kernel
set_option maxRecDepth 1000000 in
theorem zd_all2 : (List.range 19).all (fun i => zdchk (46 + i)) = true := by decide +kernel
set_option maxRecDepth 1000000 in
theorem zd_all3 : (List.range 20).all (fun i => zdchk (65 + i)) = true := by decide +kernel
set_option maxRecDepth 1000000 in
theorem zd_all4 : (List.range 17).all (fun i => zdchk (85 + i)) = true := by decide +kernel
set_option maxRecDepth 1000000 in
theorem zd_all5 : (List.range 31).all (fun i => zdchk (102 + i)) = true := by decide +kernel
set_option maxRecDepth 1000000 in
theorem zd_all6 : (List.range 22).all (fun i => zdchk (133 + i)) = true := by decide +kernel
set_option maxRecDepth 1000000 in
theorem zd_all7 : (List.range 6).all (fun i => zdchk (155 + i)) = true := by decide +kernel
set_option maxRecDepth 1000000 in
theorem zd_all8 : (List.range 4).all (fun i => zdchk (161 + i)) = true := by decide +kernel
theorem zd_all9 : (List.range 1).all (fun i => zdchk (165 + i)) = true := by
  show (zdchk 165 && true) = true
  rw [Bool.and_true]; exact zd_law
set_option maxRecDepth 1000000 in
theorem zd_all10 : (List.range 4).all (fun i => zdchk (166 + i)) = true := by decide +kernel
theorem zd_ok {y : Nat} (h : y < 170) : zdchk y = true := by
  rcases Nat.lt_or_ge y 25 with q0 | q0
  · have h0 := List.all_eq_true.mp zd_all0 (y - 0) (List.mem_range.mpr (by omega))
    rw [show 0 + (y - 0) = y by omega] at h0
    exact h0
  rcases Nat.lt_or_ge y 46 with q1 | q1
  · have h0 := List.all_eq_true.mp zd_all1 (y - 25) (List.mem_range.mpr (by omega))
    rw [show 25 + (y - 25) = y by omega] at h0
    exact h0
  rcases Nat.lt_or_ge y 65 with q2 | q2
  · have h0 := List.all_eq_true.mp zd_all2 (y - 46) (List.mem_range.mpr (by omega))
    rw [show 46 + (y - 46) = y by omega] at h0
    exact h0
  rcases Nat.lt_or_ge y 85 with q3 | q3
  · have h0 := List.all_eq_true.mp zd_all3 (y - 65) (List.mem_range.mpr (by omega))
    rw [show 65 + (y - 65) = y by omega] at h0
    exact h0
  rcases Nat.lt_or_ge y 102 with q4 | q4
  · have h0 := List.all_eq_true.mp zd_all4 (y - 85) (List.mem_range.mpr (by omega))
    rw [show 85 + (y - 85) = y by omega] at h0
    exact h0
  rcases Nat.lt_or_ge y 133 with q5 | q5
  · have h0 := List.all_eq_true.mp zd_all5 (y - 102) (List.mem_range.mpr (by omega))
    rw [show 102 + (y - 102) = y by omega] at h0
    exact h0
  rcases Nat.lt_or_ge y 155 with q6 | q6
  · have h0 := List.all_eq_true.mp zd_all6 (y - 133) (List.mem_range.mpr (by omega))
    rw [show 133 + (y - 133) = y by omega] at h0
    exact h0
  rcases Nat.lt_or_ge y 161 with q7 | q7
  · have h0 := List.all_eq_true.mp zd_all7 (y - 155) (List.mem_range.mpr (by omega))
    rw [show 155 + (y - 155) = y by omega] at h0
    exact h0
  rcases Nat.lt_or_ge y 165 with q8 | q8
  · have h0 := List.all_eq_true.mp zd_all8 (y - 161) (List.mem_range.mpr (by omega))
    rw [show 161 + (y - 161) = y by omega] at h0
    exact h0
  rcases Nat.lt_or_ge y 166 with q9 | q9
  · have h0 := List.all_eq_true.mp zd_all9 (y - 165) (List.mem_range.mpr (by omega))
    rw [show 165 + (y - 165) = y by omega] at h0
    exact h0
  have h0 := List.all_eq_true.mp zd_all10 (y - 166) (List.mem_range.mpr (by omega))
  rw [show 166 + (y - 166) = y by omega] at h0
  exact h0
