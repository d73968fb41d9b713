/-! the code tables against the bytes (written by emit06.py) -/
/-- the lengths of instructions; 0: not told here -/
def zil : Instr → Nat
  | .tableswitch _ _ _ _ => 0
  | .lookupswitch _ _ => 0
  | .bipush _ => 2
  | .sipush _ => 3
  | .ldc _ => 2
  | .ldc_w _ => 3
  | .ldc2_w _ => 3
  | .iload _ => 2
  | .lload _ => 2
  | .aload _ => 2
  | .istore _ => 2
  | .lstore _ => 2
  | .astore _ => 2
  | .iinc _ _ => 3
  | .ifCond _ _ => 3
  | .if_icmp _ _ => 3
  | .goto _ => 3
  | .getfield _ => 3
  | .putfield _ => 3
  | .new _ => 3
  | .newarray _ => 2
  | .anewarray _ => 3
  | .invokevirtual _ => 3
  | .invokestatic _ => 3
  | .invokespecial _ => 3
  | _ => 1
def zd1 (y : Nat) (e : Nat × Instr × Nat) : Bool := decide (decode (zB y) e.1 = .ok e.2) && (Nat.beq (zil e.2.1) 0 || Nat.beq (zil e.2.1) e.2.2)
def zdchk (y : Nat) : Bool := (zth2 [] zcodes y).all (fun l => l.all (zd1 y))
set_option maxRecDepth 1000000 in
theorem zd_b102_0 : ((zc_102.drop 0).take 3).all (fun l => l.all (zd1 102)) = true := by decide +kernel
set_option maxRecDepth 1000000 in
theorem zd_b102_1 : ((zc_102.drop 3).take 3).all (fun l => l.all (zd1 102)) = true := by decide +kernel
set_option maxRecDepth 1000000 in
theorem zd_b102_2 : ((zc_102.drop 6).take 3).all (fun l => l.all (zd1 102)) = true := by decide +kernel
set_option maxRecDepth 1000000 in
theorem zd_b102_3 : ((zc_102.drop 9).take 3).all (fun l => l.all (zd1 102)) = true := by decide +kernel
theorem zd_bS102 : zc_102 = (zc_102.drop 0).take 3 ++ ((zc_102.drop 3).take 3 ++ ((zc_102.drop 6).take 3 ++ ((zc_102.drop 9).take 3))) := rfl
theorem zd_b102 : zc_102.all (fun l => l.all (zd1 102)) = true := by
  rw [zd_bS102]
  simp only [List.all_append, zd_b102_0, zd_b102_1, zd_b102_2, zd_b102_3, Bool.and_self]
set_option maxRecDepth 1000000 in
theorem zd_b158_0 : ((zc_158.drop 0).take 3).all (fun l => l.all (zd1 158)) = true := by decide +kernel
set_option maxRecDepth 1000000 in
theorem zd_b158_1 : ((zc_158.drop 3).take 3).all (fun l => l.all (zd1 158)) = true := by decide +kernel
set_option maxRecDepth 1000000 in
theorem zd_b158_2 : ((zc_158.drop 6).take 3).all (fun l => l.all (zd1 158)) = true := by decide +kernel
set_option maxRecDepth 1000000 in
theorem zd_b158_3 : ((zc_158.drop 9).take 3).all (fun l => l.all (zd1 158)) = true := by decide +kernel
theorem zd_bS158 : zc_158 = (zc_158.drop 0).take 3 ++ ((zc_158.drop 3).take 3 ++ ((zc_158.drop 6).take 3 ++ ((zc_158.drop 9).take 3))) := rfl
theorem zd_b158 : zc_158.all (fun l => l.all (zd1 158)) = true := by
  rw [zd_bS158]
  simp only [List.all_append, zd_b158_0, zd_b158_1, zd_b158_2, zd_b158_3, Bool.and_self]
set_option maxRecDepth 1000000 in
theorem zd_b160_0 : ((zc_160.drop 0).take 3).all (fun l => l.all (zd1 160)) = true := by decide +kernel
set_option maxRecDepth 1000000 in
theorem zd_b160_1 : ((zc_160.drop 3).take 3).all (fun l => l.all (zd1 160)) = true := by decide +kernel
set_option maxRecDepth 1000000 in
theorem zd_b160_2 : ((zc_160.drop 6).take 3).all (fun l => l.all (zd1 160)) = true := by decide +kernel
set_option maxRecDepth 1000000 in
theorem zd_b160_3 : ((zc_160.drop 9).take 3).all (fun l => l.all (zd1 160)) = true := by decide +kernel
theorem zd_bS160 : zc_160 = (zc_160.drop 0).take 3 ++ ((zc_160.drop 3).take 3 ++ ((zc_160.drop 6).take 3 ++ ((zc_160.drop 9).take 3))) := rfl
theorem zd_b160 : zc_160.all (fun l => l.all (zd1 160)) = true := by
  rw [zd_bS160]
  simp only [List.all_append, zd_b160_0, zd_b160_1, zd_b160_2, zd_b160_3, Bool.and_self]
set_option maxRecDepth 1000000 in
theorem zd_b161_0 : ((zc_161.drop 0).take 3).all (fun l => l.all (zd1 161)) = true := by decide +kernel
set_option maxRecDepth 1000000 in
theorem zd_b161_1 : ((zc_161.drop 3).take 3).all (fun l => l.all (zd1 161)) = true := by decide +kernel
set_option maxRecDepth 1000000 in
theorem zd_b161_2 : ((zc_161.drop 6).take 3).all (fun l => l.all (zd1 161)) = true := by decide +kernel
set_option maxRecDepth 1000000 in
theorem zd_b161_3 : ((zc_161.drop 9).take 3).all (fun l => l.all (zd1 161)) = true := by decide +kernel
set_option maxRecDepth 1000000 in
theorem zd_b161_4 : ((zc_161.drop 12).take 3).all (fun l => l.all (zd1 161)) = true := by decide +kernel
set_option maxRecDepth 1000000 in
theorem zd_b161_5 : ((zc_161.drop 15).take 3).all (fun l => l.all (zd1 161)) = true := by decide +kernel
set_option maxRecDepth 1000000 in
theorem zd_b161_6 : ((zc_161.drop 18).take 3).all (fun l => l.all (zd1 161)) = true := by decide +kernel
set_option maxRecDepth 1000000 in
theorem zd_b161_7 : ((zc_161.drop 21).take 3).all (fun l => l.all (zd1 161)) = true := by decide +kernel
set_option maxRecDepth 1000000 in
theorem zd_b161_8 : ((zc_161.drop 24).take 3).all (fun l => l.all (zd1 161)) = true := by decide +kernel
theorem zd_bS161 : zc_161 = (zc_161.drop 0).take 3 ++ ((zc_161.drop 3).take 3 ++ ((zc_161.drop 6).take 3 ++ ((zc_161.drop 9).take 3 ++ ((zc_161.drop 12).take 3 ++ ((zc_161.drop 15).take 3 ++ ((zc_161.drop 18).take 3 ++ ((zc_161.drop 21).take 3 ++ ((zc_161.drop 24).take 3)))))))) := rfl
theorem zd_b161 : zc_161.all (fun l => l.all (zd1 161)) = true := by
  rw [zd_bS161]
  simp only [List.all_append, zd_b161_0, zd_b161_1, zd_b161_2, zd_b161_3, zd_b161_4, zd_b161_5, zd_b161_6, zd_b161_7, zd_b161_8, Bool.and_self]
set_option maxRecDepth 1000000 in
theorem zd_b164_0 : ((zc_164.drop 0).take 3).all (fun l => l.all (zd1 164)) = true := by decide +kernel
set_option maxRecDepth 1000000 in
theorem zd_b164_1 : ((zc_164.drop 3).take 3).all (fun l => l.all (zd1 164)) = true := by decide +kernel
set_option maxRecDepth 1000000 in
theorem zd_b164_2 : ((zc_164.drop 6).take 3).all (fun l => l.all (zd1 164)) = true := by decide +kernel
set_option maxRecDepth 1000000 in
theorem zd_b164_3 : ((zc_164.drop 9).take 3).all (fun l => l.all (zd1 164)) = true := by decide +kernel
set_option maxRecDepth 1000000 in
theorem zd_b164_4 : ((zc_164.drop 12).take 3).all (fun l => l.all (zd1 164)) = true := by decide +kernel
set_option maxRecDepth 1000000 in
theorem zd_b164_5 : ((zc_164.drop 15).take 3).all (fun l => l.all (zd1 164)) = true := by decide +kernel
theorem zd_bS164 : zc_164 = (zc_164.drop 0).take 3 ++ ((zc_164.drop 3).take 3 ++ ((zc_164.drop 6).take 3 ++ ((zc_164.drop 9).take 3 ++ ((zc_164.drop 12).take 3 ++ ((zc_164.drop 15).take 3))))) := rfl
theorem zd_b164 : zc_164.all (fun l => l.all (zd1 164)) = true := by
  rw [zd_bS164]
  simp only [List.all_append, zd_b164_0, zd_b164_1, zd_b164_2, zd_b164_3, zd_b164_4, zd_b164_5, Bool.and_self]
set_option maxRecDepth 1000000 in
theorem zd_b165_0 : ((zc_165.drop 0).take 3).all (fun l => l.all (zd1 165)) = true := by decide +kernel
set_option maxRecDepth 1000000 in
theorem zd_b165_1 : ((zc_165.drop 3).take 3).all (fun l => l.all (zd1 165)) = true := by decide +kernel
set_option maxRecDepth 1000000 in
theorem zd_b165_2 : ((zc_165.drop 6).take 3).all (fun l => l.all (zd1 165)) = true := by decide +kernel
set_option maxRecDepth 1000000 in
theorem zd_b165_3 : ((zc_165.drop 9).take 3).all (fun l => l.all (zd1 165)) = true := by decide +kernel
set_option maxRecDepth 1000000 in
theorem zd_b165_4 : ((zc_165.drop 12).take 3).all (fun l => l.all (zd1 165)) = true := by decide +kernel
theorem zd_bS165 : zc_165 = (zc_165.drop 0).take 3 ++ ((zc_165.drop 3).take 3 ++ ((zc_165.drop 6).take 3 ++ ((zc_165.drop 9).take 3 ++ ((zc_165.drop 12).take 3)))) := rfl
theorem zd_b165 : zc_165.all (fun l => l.all (zd1 165)) = true := by
  rw [zd_bS165]
  simp only [List.all_append, zd_b165_0, zd_b165_1, zd_b165_2, zd_b165_3, zd_b165_4, Bool.and_self]
set_option maxRecDepth 1000000 in
theorem zd_all0 : (List.range 19).all (fun i => zdchk (0 + i)) = true := by decide +kernel
set_option maxRecDepth 1000000 in
theorem zd_all1 : (List.range 15).all (fun i => zdchk (19 + i)) = true := by decide +kernel
set_option maxRecDepth 1000000 in
theorem zd_all2 : (List.range 11).all (fun i => zdchk (34 + i)) = true := by decide +kernel
set_option maxRecDepth 1000000 in
theorem zd_all3 : (List.range 10).all (fun i => zdchk (45 + i)) = true := by decide +kernel
set_option maxRecDepth 1000000 in
theorem zd_all4 : (List.range 13).all (fun i => zdchk (55 + i)) = true := by decide +kernel
set_option maxRecDepth 1000000 in
theorem zd_all5 : (List.range 11).all (fun i => zdchk (68 + i)) = true := by decide +kernel
set_option maxRecDepth 1000000 in
theorem zd_all6 : (List.range 16).all (fun i => zdchk (79 + i)) = true := by decide +kernel
set_option maxRecDepth 1000000 in
theorem zd_all7 : (List.range 7).all (fun i => zdchk (95 + i)) = true := by decide +kernel
theorem zd_all8 : (List.range 1).all (fun i => zdchk (102 + i)) = true := by
  show (zdchk 102 && true) = true
  rw [Bool.and_true]; exact zd_b102
set_option maxRecDepth 1000000 in
theorem zd_all9 : (List.range 22).all (fun i => zdchk (103 + i)) = true := by decide +kernel
set_option maxRecDepth 1000000 in
theorem zd_all10 : (List.range 24).all (fun i => zdchk (125 + i)) = true := by decide +kernel
set_option maxRecDepth 1000000 in
theorem zd_all11 : (List.range 7).all (fun i => zdchk (149 + i)) = true := by decide +kernel
set_option maxRecDepth 1000000 in
theorem zd_all12 : (List.range 2).all (fun i => zdchk (156 + i)) = true := by decide +kernel
theorem zd_all13 : (List.range 1).all (fun i => zdchk (158 + i)) = true := by
  show (zdchk 158 && true) = true
  rw [Bool.and_true]; exact zd_b158
set_option maxRecDepth 1000000 in
theorem zd_all14 : (List.range 1).all (fun i => zdchk (159 + i)) = true := by decide +kernel
theorem zd_all15 : (List.range 1).all (fun i => zdchk (160 + i)) = true := by
  show (zdchk 160 && true) = true
  rw [Bool.and_true]; exact zd_b160
theorem zd_all16 : (List.range 1).all (fun i => zdchk (161 + i)) = true := by
  show (zdchk 161 && true) = true
  rw [Bool.and_true]; exact zd_b161
set_option maxRecDepth 1000000 in
theorem zd_all17 : (List.range 2).all (fun i => zdchk (162 + i)) = true := by decide +kernel
theorem zd_all18 : (List.range 1).all (fun i => zdchk (164 + i)) = true := by
  show (zdchk 164 && true) = true
  rw [Bool.and_true]; exact zd_b164
theorem zd_all19 : (List.range 1).all (fun i => zdchk (165 + i)) = true := by
  show (zdchk 165 && true) = true
  rw [Bool.and_true]; exact zd_b165
set_option maxRecDepth 1000000 in
theorem zd_all20 : (List.range 4).all (fun i => zdchk (166 + i)) = true := by decide +kernel
theorem zd_ok {y : Nat} (h : y < 170) : zdchk y = true := by
  rcases Nat.lt_or_ge y 19 with q0 | q0
  · have h0 := List.all_eq_true.mp zd_all0 (y - 0) (List.mem_range.mpr (by omega))
    rw [show 0 + (y - 0) = y by omega] at h0
    exact h0
  rcases Nat.lt_or_ge y 34 with q1 | q1
  · have h0 := List.all_eq_true.mp zd_all1 (y - 19) (List.mem_range.mpr (by omega))
    rw [show 19 + (y - 19) = y by omega] at h0
    exact h0
  rcases Nat.lt_or_ge y 45 with q2 | q2
  · have h0 := List.all_eq_true.mp zd_all2 (y - 34) (List.mem_range.mpr (by omega))
    rw [show 34 + (y - 34) = y by omega] at h0
    exact h0
  rcases Nat.lt_or_ge y 55 with q3 | q3
  · have h0 := List.all_eq_true.mp zd_all3 (y - 45) (List.mem_range.mpr (by omega))
    rw [show 45 + (y - 45) = y by omega] at h0
    exact h0
  rcases Nat.lt_or_ge y 68 with q4 | q4
  · have h0 := List.all_eq_true.mp zd_all4 (y - 55) (List.mem_range.mpr (by omega))
    rw [show 55 + (y - 55) = y by omega] at h0
    exact h0
  rcases Nat.lt_or_ge y 79 with q5 | q5
  · have h0 := List.all_eq_true.mp zd_all5 (y - 68) (List.mem_range.mpr (by omega))
    rw [show 68 + (y - 68) = y by omega] at h0
    exact h0
  rcases Nat.lt_or_ge y 95 with q6 | q6
  · have h0 := List.all_eq_true.mp zd_all6 (y - 79) (List.mem_range.mpr (by omega))
    rw [show 79 + (y - 79) = y by omega] at h0
    exact h0
  rcases Nat.lt_or_ge y 102 with q7 | q7
  · have h0 := List.all_eq_true.mp zd_all7 (y - 95) (List.mem_range.mpr (by omega))
    rw [show 95 + (y - 95) = y by omega] at h0
    exact h0
  rcases Nat.lt_or_ge y 103 with q8 | q8
  · have h0 := List.all_eq_true.mp zd_all8 (y - 102) (List.mem_range.mpr (by omega))
    rw [show 102 + (y - 102) = y by omega] at h0
    exact h0
  rcases Nat.lt_or_ge y 125 with q9 | q9
  · have h0 := List.all_eq_true.mp zd_all9 (y - 103) (List.mem_range.mpr (by omega))
    rw [show 103 + (y - 103) = y by omega] at h0
    exact h0
  rcases Nat.lt_or_ge y 149 with q10 | q10
  · have h0 := List.all_eq_true.mp zd_all10 (y - 125) (List.mem_range.mpr (by omega))
    rw [show 125 + (y - 125) = y by omega] at h0
    exact h0
  rcases Nat.lt_or_ge y 156 with q11 | q11
  · have h0 := List.all_eq_true.mp zd_all11 (y - 149) (List.mem_range.mpr (by omega))
    rw [show 149 + (y - 149) = y by omega] at h0
    exact h0
  rcases Nat.lt_or_ge y 158 with q12 | q12
  · have h0 := List.all_eq_true.mp zd_all12 (y - 156) (List.mem_range.mpr (by omega))
    rw [show 156 + (y - 156) = y by omega] at h0
    exact h0
  rcases Nat.lt_or_ge y 159 with q13 | q13
  · have h0 := List.all_eq_true.mp zd_all13 (y - 158) (List.mem_range.mpr (by omega))
    rw [show 158 + (y - 158) = y by omega] at h0
    exact h0
  rcases Nat.lt_or_ge y 160 with q14 | q14
  · have h0 := List.all_eq_true.mp zd_all14 (y - 159) (List.mem_range.mpr (by omega))
    rw [show 159 + (y - 159) = y by omega] at h0
    exact h0
  rcases Nat.lt_or_ge y 161 with q15 | q15
  · have h0 := List.all_eq_true.mp zd_all15 (y - 160) (List.mem_range.mpr (by omega))
    rw [show 160 + (y - 160) = y by omega] at h0
    exact h0
  rcases Nat.lt_or_ge y 162 with q16 | q16
  · have h0 := List.all_eq_true.mp zd_all16 (y - 161) (List.mem_range.mpr (by omega))
    rw [show 161 + (y - 161) = y by omega] at h0
    exact h0
  rcases Nat.lt_or_ge y 164 with q17 | q17
  · have h0 := List.all_eq_true.mp zd_all17 (y - 162) (List.mem_range.mpr (by omega))
    rw [show 162 + (y - 162) = y by omega] at h0
    exact h0
  rcases Nat.lt_or_ge y 165 with q18 | q18
  · have h0 := List.all_eq_true.mp zd_all18 (y - 164) (List.mem_range.mpr (by omega))
    rw [show 164 + (y - 164) = y by omega] at h0
    exact h0
  rcases Nat.lt_or_ge y 166 with q19 | q19
  · have h0 := List.all_eq_true.mp zd_all19 (y - 165) (List.mem_range.mpr (by omega))
    rw [show 165 + (y - 165) = y by omega] at h0
    exact h0
  have h0 := List.all_eq_true.mp zd_all20 (y - 166) (List.mem_range.mpr (by omega))
  rw [show 166 + (y - 166) = y by omega] at h0
  exact h0
