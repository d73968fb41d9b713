/-! the trees of methods 230 to 269, written by wip/whole/gen/emit_trees.py -/
/-- 230 TreegrabModel.wraps(IJ)Z -/
theorem zi_230_0 : zraw 230 0 = some (.aload_n 0, 1) ∧ 0 + 1 = 1 := by decide +kernel
theorem zi_230_1 : zraw 230 1 = some (.getfield 498, 3) ∧ zft (zinf 230).1 498 = some (10, 77, 0, false) ∧ 1 + 3 = 4 := by decide +kernel
theorem zi_230_4 : zraw 230 4 = some (.bipush 20, 2) ∧ zin 128 20 = true ∧ 4 + 2 = 6 := by decide +kernel
theorem zi_230_6 : zraw 230 6 = some (.if_icmp .ne 5, 3) ∧ ((6 : Nat) : Int) + 5 = Int.ofNat 11 ∧ 6 + 3 = 9 := by decide +kernel
theorem zi_230_9 : zraw 230 9 = some (.iconst 0, 1) ∧ zin 128 0 = true ∧ 9 + 1 = 10 := by decide +kernel
theorem zi_230_10 : zraw 230 10 = some (.ireturn, 1) ∧ (zinf 230).2.2.2.1 = 2 := by decide +kernel
theorem zi_230_11 : zraw 230 11 = some (.aload_n 0, 1) ∧ 11 + 1 = 12 := by decide +kernel
theorem zi_230_12 : zraw 230 12 = some (.iload_n 1, 1) ∧ 12 + 1 = 13 := by decide +kernel
theorem zi_230_13 : zraw 230 13 = some (.invokevirtual 501, 3) ∧ zmt (zinf 230).1 501 = some 222 ∧ Nat.ble 9000 222 = false ∧ zinf 222 = (10, 2, 3, 1, 0) ∧ 13 + 3 = 16 := by decide +kernel
theorem zi_230_16 : zraw 230 16 = some (.istore 4, 2) ∧ 16 + 2 = 18 := by decide +kernel
theorem zi_230_18 : zraw 230 18 = some (.aload_n 0, 1) ∧ 18 + 1 = 19 := by decide +kernel
theorem zi_230_19 : zraw 230 19 = some (.getfield 187, 3) ∧ zft (zinf 230).1 187 = some (10, 79, 3, true) ∧ 19 + 3 = 22 := by decide +kernel
theorem zi_230_22 : zraw 230 22 = some (.iload_n 1, 1) ∧ 22 + 1 = 23 := by decide +kernel
theorem zi_230_23 : zraw 230 23 = some (.iaload, 1) ∧ 23 + 1 = 24 := by decide +kernel
theorem zi_230_24 : zraw 230 24 = some (.istore 5, 2) ∧ 24 + 2 = 26 := by decide +kernel
theorem zi_230_26 : zraw 230 26 = some (.iload_n 1, 1) ∧ 26 + 1 = 27 := by decide +kernel
theorem zi_230_27 : zraw 230 27 = some (.istore 6, 2) ∧ 27 + 2 = 29 := by decide +kernel
theorem zi_230_29 : zraw 230 29 = some (.iload 6, 2) ∧ 29 + 2 = 31 := by decide +kernel
theorem zi_230_31 : zraw 230 31 = some (.iload 4, 2) ∧ 31 + 2 = 33 := by decide +kernel
theorem zi_230_33 : zraw 230 33 = some (.if_icmp .ge 20, 3) ∧ ((33 : Nat) : Int) + 20 = Int.ofNat 53 ∧ 33 + 3 = 36 := by decide +kernel
theorem zi_230_36 : zraw 230 36 = some (.aload_n 0, 1) ∧ 36 + 1 = 37 := by decide +kernel
theorem zi_230_37 : zraw 230 37 = some (.getfield 187, 3) ∧ zft (zinf 230).1 187 = some (10, 79, 3, true) ∧ 37 + 3 = 40 := by decide +kernel
theorem zi_230_40 : zraw 230 40 = some (.iload 6, 2) ∧ 40 + 2 = 42 := by decide +kernel
theorem zi_230_42 : zraw 230 42 = some (.dup2, 1) ∧ 42 + 1 = 43 := by decide +kernel
theorem zi_230_43 : zraw 230 43 = some (.iaload, 1) ∧ 43 + 1 = 44 := by decide +kernel
theorem zi_230_44 : zraw 230 44 = some (.iconst 1, 1) ∧ zin 128 1 = true ∧ 44 + 1 = 45 := by decide +kernel
theorem zi_230_45 : zraw 230 45 = some (.iadd, 1) ∧ 45 + 1 = 46 := by decide +kernel
theorem zi_230_46 : zraw 230 46 = some (.iastore, 1) ∧ 46 + 1 = 47 := by decide +kernel
theorem zi_230_47 : zraw 230 47 = some (.iinc 6 1, 3) ∧ zin 32768 1 = true ∧ 47 + 3 = 50 := by decide +kernel
theorem zi_230_50 : zraw 230 50 = some (.goto (-21), 3) ∧ ((50 : Nat) : Int) + (-21) = Int.ofNat 29 := by decide +kernel
theorem zi_230_53 : zraw 230 53 = some (.aload_n 0, 1) ∧ 53 + 1 = 54 := by decide +kernel
theorem zi_230_54 : zraw 230 54 = some (.iload_n 1, 1) ∧ 54 + 1 = 55 := by decide +kernel
theorem zi_230_55 : zraw 230 55 = some (.iload 5, 2) ∧ 55 + 2 = 57 := by decide +kernel
theorem zi_230_57 : zraw 230 57 = some (.lload_n 2, 1) ∧ 57 + 1 = 58 := by decide +kernel
theorem zi_230_58 : zraw 230 58 = some (.invokevirtual 520, 3) ∧ zmt (zinf 230).1 520 = some 226 ∧ Nat.ble 9000 226 = false ∧ zinf 226 = (10, 4, 5, 0, 0) ∧ 58 + 3 = 61 := by decide +kernel
theorem zi_230_61 : zraw 230 61 = some (.iconst 1, 1) ∧ zin 128 1 = true ∧ 61 + 1 = 62 := by decide +kernel
theorem zi_230_62 : zraw 230 62 = some (.ireturn, 1) ∧ (zinf 230).2.2.2.1 = 2 := by decide +kernel
theorem ze_230 {K : List zF} {σ : zW} {x1 : Int} {x2 : Int64} (hK : K.length < 60) : zEv true (zent 230 [.inr (.inr 122), .inl x1, .inr (.inl x2)] :: K) σ = (if ¬ (gI σ 122 77) = 20 then zEv true (zent 222 [.inr (.inr 122), .inl x1] :: (230, 16, [some (.inr (.inr 122)), some (.inl x1), some (.inr (.inl x2)), none, none, none, none], []) :: K) σ else zRet true K (some (.inl 0)) σ) :=
  yT_en (f := (230, 0, [some (.inr (.inr 122)), some (.inl x1), some (.inr (.inl x2)), none, none, none, none], [])) rfl (yI_aload_n zi_230_0 rfl <| yI_gf_i (v := gI σ 122 77) zi_230_1 zk_122 rfl <| yI_bipush zi_230_4 <| yI_ic_ne zi_230_6 <| yBr (yI_aload_n zi_230_11 rfl <| yI_iload_n zi_230_12 rfl <| yI_cv zi_230_13 rfl rfl zk_122 hK) (yI_iconst zi_230_9 <| yI_zreturn zi_230_10 (by decide)))
theorem zr_230_16 {K : List zF} {σ : zW} {x1 : Int} {x2 : Int64} {o4 : Option zV} {o5 : Option zV} {o6 : Option zV} {v : Int} : zRet true ((230, 16, [some (.inr (.inr 122)), some (.inl x1), some (.inr (.inl x2)), none, o4, o5, o6], []) :: K) (some (.inl v)) σ = ((0 ≤ x1 ∧ x1 < 24) ∧ zEv true ((230, 29, [some (.inr (.inr 122)), some (.inl x1), some (.inr (.inl x2)), none, some (.inl v), some (.inl (gI σ 180 x1.toNat)), some (.inl x1)], []) :: K) σ) :=
  yT_rt (yI_istore (l := [some (.inr (.inr 122)), some (.inl x1), some (.inr (.inl x2)), none, some (.inl v), o5, o6]) zi_230_16 rfl rfl <| yI_aload_n zi_230_18 rfl <| yI_gf_f (v := 180) zi_230_19 zk_122 rfl <| yI_iload_n zi_230_22 rfl <| yI_ialoadc (v := gI σ 180 x1.toNat) zi_230_23 za_180 rfl <| yI_istore (l := [some (.inr (.inr 122)), some (.inl x1), some (.inr (.inl x2)), none, some (.inl v), some (.inl (gI σ 180 x1.toNat)), o6]) zi_230_24 rfl rfl <| yI_iload_n zi_230_26 rfl <| yI_istore (l := [some (.inr (.inr 122)), some (.inl x1), some (.inr (.inl x2)), none, some (.inl v), some (.inl (gI σ 180 x1.toNat)), some (.inl x1)]) zi_230_27 rfl rfl <| rfl)
theorem zj_230_29 {K : List zF} {σ : zW} {x1 : Int} {x2 : Int64} {x4 : Int} {x5 : Int} {x6 : Int} (hK : K.length < 60) : zEv true ((230, 29, [some (.inr (.inr 122)), some (.inl x1), some (.inr (.inl x2)), none, some (.inl x4), some (.inl x5), some (.inl x6)], []) :: K) σ = (if x4 ≤ x6 then zEv true (zent 226 [.inr (.inr 122), .inl x1, .inl x5, .inr (.inl x2)] :: (230, 61, [some (.inr (.inr 122)), some (.inl x1), some (.inr (.inl x2)), none, some (.inl x4), some (.inl x5), some (.inl x6)], []) :: K) σ else (0 ≤ x6 ∧ x6 < 24) ∧ ((0 ≤ x6 ∧ x6 < 24) ∧ zEv true ((230, 29, [some (.inr (.inr 122)), some (.inl x1), some (.inr (.inl x2)), none, some (.inl x4), some (.inl x5), some (.inl (w32 (x6 + 1)))], []) :: K) (sI σ 180 x6.toNat (w32 ((gI σ 180 x6.toNat) + 1))))) :=
  yI_iload zi_230_29 rfl <| yI_iload zi_230_31 rfl <| yI_ic_ge zi_230_33 <| yBr (yI_aload_n zi_230_53 rfl <| yI_iload_n zi_230_54 rfl <| yI_iload zi_230_55 rfl <| yI_lload_n zi_230_57 rfl <| yI_cv zi_230_58 rfl rfl zk_122 hK) (yI_aload_n zi_230_36 rfl <| yI_gf_f (v := 180) zi_230_37 zk_122 rfl <| yI_iload zi_230_40 rfl <| yI_dup2_ir zi_230_42 <| yI_ialoadc (v := gI σ 180 x6.toNat) zi_230_43 za_180 rfl <| yI_iconst zi_230_44 <| yI_iadd zi_230_45 <| yI_iastorec zi_230_46 za_180 <| yI_iinc (l := [some (.inr (.inr 122)), some (.inl x1), some (.inr (.inl x2)), none, some (.inl x4), some (.inl x5), some (.inl (w32 (x6 + 1)))]) zi_230_47 rfl rfl rfl <| yI_goto zi_230_50 <| rfl)
theorem zr_230_61 {K : List zF} {σ : zW} {o0 : Option zV} {o1 : Option zV} {o2 : Option zV} {o3 : Option zV} {o4 : Option zV} {o5 : Option zV} {o6 : Option zV} : zRet true ((230, 61, [o0, o1, o2, o3, o4, o5, o6], []) :: K) none σ = (zRet true K (some (.inl 1)) σ) :=
  yT_rv (yI_iconst zi_230_61 <| yI_zreturn zi_230_62 (by decide))
/-- 231 TreegrabModel.isBarred(JI)Z -/
theorem zi_231_0 : zraw 231 0 = some (.lload_n 1, 1) ∧ 0 + 1 = 1 := by decide +kernel
theorem zi_231_1 : zraw 231 1 = some (.ldc2_w 327, 3) ∧ zlt (zinf 231).1 327 = some 500153084262 ∧ 1 + 3 = 4 := by decide +kernel
theorem zi_231_4 : zraw 231 4 = some (.lcmp, 1) ∧ 4 + 1 = 5 := by decide +kernel
theorem zi_231_5 : zraw 231 5 = some (.ifCond .eq 11, 3) ∧ ((5 : Nat) : Int) + 11 = Int.ofNat 16 ∧ 5 + 3 = 8 := by decide +kernel
theorem zi_231_8 : zraw 231 8 = some (.lload_n 1, 1) ∧ 8 + 1 = 9 := by decide +kernel
theorem zi_231_9 : zraw 231 9 = some (.ldc2_w 329, 3) ∧ zlt (zinf 231).1 329 = some 1953718636 ∧ 9 + 3 = 12 := by decide +kernel
theorem zi_231_12 : zraw 231 12 = some (.lcmp, 1) ∧ 12 + 1 = 13 := by decide +kernel
theorem zi_231_13 : zraw 231 13 = some (.ifCond .ne 11, 3) ∧ ((13 : Nat) : Int) + 11 = Int.ofNat 24 ∧ 13 + 3 = 16 := by decide +kernel
theorem zi_231_16 : zraw 231 16 = some (.aload_n 0, 1) ∧ 16 + 1 = 17 := by decide +kernel
theorem zi_231_17 : zraw 231 17 = some (.iload_n 3, 1) ∧ 17 + 1 = 18 := by decide +kernel
theorem zi_231_18 : zraw 231 18 = some (.invokevirtual 511, 3) ∧ zmt (zinf 231).1 511 = some 224 ∧ Nat.ble 9000 224 = false ∧ zinf 224 = (10, 2, 2, 2, 0) ∧ 18 + 3 = 21 := by decide +kernel
theorem zi_231_21 : zraw 231 21 = some (.goto 12, 3) ∧ ((21 : Nat) : Int) + 12 = Int.ofNat 33 := by decide +kernel
theorem zi_231_24 : zraw 231 24 = some (.iload_n 3, 1) ∧ 24 + 1 = 25 := by decide +kernel
theorem zi_231_25 : zraw 231 25 = some (.ifCond .ne 7, 3) ∧ ((25 : Nat) : Int) + 7 = Int.ofNat 32 ∧ 25 + 3 = 28 := by decide +kernel
theorem zi_231_28 : zraw 231 28 = some (.iconst 1, 1) ∧ zin 128 1 = true ∧ 28 + 1 = 29 := by decide +kernel
theorem zi_231_29 : zraw 231 29 = some (.goto 4, 3) ∧ ((29 : Nat) : Int) + 4 = Int.ofNat 33 := by decide +kernel
theorem zi_231_32 : zraw 231 32 = some (.iconst 0, 1) ∧ zin 128 0 = true ∧ 32 + 1 = 33 := by decide +kernel
theorem zi_231_33 : zraw 231 33 = some (.ireturn, 1) ∧ (zinf 231).2.2.2.1 = 2 := by decide +kernel
theorem ze_231 {K : List zF} {σ : zW} {x1 : Int64} {x3 : Int} : zEv true (zent 231 [.inr (.inr 122), .inr (.inl x1), .inl x3] :: K) σ = (if (zlc x1 500153084262) = 0 then zEv true ((231, 16, [some (.inr (.inr 122)), some (.inr (.inl x1)), none, some (.inl x3)], []) :: K) σ else if ¬ (zlc x1 1953718636) = 0 then if ¬ x3 = 0 then zRet true K (some (.inl 0)) σ else zRet true K (some (.inl 1)) σ else zEv true ((231, 16, [some (.inr (.inr 122)), some (.inr (.inl x1)), none, some (.inl x3)], []) :: K) σ) :=
  yT_en (f := (231, 0, [some (.inr (.inr 122)), some (.inr (.inl x1)), none, some (.inl x3)], [])) rfl (yI_lload_n zi_231_0 rfl <| yI_ldc2_w zi_231_1 <| yI_lcmp zi_231_4 <| yI_if_eq zi_231_5 <| yBr (rfl) (yI_lload_n zi_231_8 rfl <| yI_ldc2_w zi_231_9 <| yI_lcmp zi_231_12 <| yI_if_ne zi_231_13 <| yBr (yI_iload_n zi_231_24 rfl <| yI_if_ne zi_231_25 <| yBr (yI_iconst zi_231_32 <| yI_zreturn zi_231_33 (by decide)) (yI_iconst zi_231_28 <| yI_goto zi_231_29 <| yI_zreturn zi_231_33 (by decide))) (rfl)))
theorem zj_231_16 {K : List zF} {σ : zW} {o1 : Option zV} {o2 : Option zV} {x3 : Int} (hK : K.length < 60) : zEv true ((231, 16, [some (.inr (.inr 122)), o1, o2, some (.inl x3)], []) :: K) σ = (zEv true (zent 224 [.inr (.inr 122), .inl x3] :: (231, 21, [some (.inr (.inr 122)), o1, o2, some (.inl x3)], []) :: K) σ) :=
  yI_aload_n zi_231_16 rfl <| yI_iload_n zi_231_17 rfl <| yI_cv zi_231_18 rfl rfl zk_122 hK
theorem zr_231_21 {K : List zF} {σ : zW} {o0 : Option zV} {o1 : Option zV} {o2 : Option zV} {o3 : Option zV} {v : Int} : zRet true ((231, 21, [o0, o1, o2, o3], []) :: K) (some (.inl v)) σ = ((v = 0 ∨ v = 1) ∧ zRet true K (some (.inl v)) σ) :=
  yT_rt (yI_goto zi_231_21 <| yI_zreturnc zi_231_33)
/-- 232 TreegrabModel.spotFor(JI)I -/
theorem zi_232_0 : zraw 232 0 = some (.lload_n 1, 1) ∧ 0 + 1 = 1 := by decide +kernel
theorem zi_232_1 : zraw 232 1 = some (.ldc2_w 327, 3) ∧ zlt (zinf 232).1 327 = some 500153084262 ∧ 1 + 3 = 4 := by decide +kernel
theorem zi_232_4 : zraw 232 4 = some (.lcmp, 1) ∧ 4 + 1 = 5 := by decide +kernel
theorem zi_232_5 : zraw 232 5 = some (.ifCond .ne 9, 3) ∧ ((5 : Nat) : Int) + 9 = Int.ofNat 14 ∧ 5 + 3 = 8 := by decide +kernel
theorem zi_232_8 : zraw 232 8 = some (.iload_n 3, 1) ∧ 8 + 1 = 9 := by decide +kernel
theorem zi_232_9 : zraw 232 9 = some (.iconst 1, 1) ∧ zin 128 1 = true ∧ 9 + 1 = 10 := by decide +kernel
theorem zi_232_10 : zraw 232 10 = some (.iadd, 1) ∧ 10 + 1 = 11 := by decide +kernel
theorem zi_232_11 : zraw 232 11 = some (.goto 20, 3) ∧ ((11 : Nat) : Int) + 20 = Int.ofNat 31 := by decide +kernel
theorem zi_232_14 : zraw 232 14 = some (.lload_n 1, 1) ∧ 14 + 1 = 15 := by decide +kernel
theorem zi_232_15 : zraw 232 15 = some (.ldc2_w 331, 3) ∧ zlt (zinf 232).1 331 = some 111542169658722 ∧ 15 + 3 = 18 := by decide +kernel
theorem zi_232_18 : zraw 232 18 = some (.lcmp, 1) ∧ 18 + 1 = 19 := by decide +kernel
theorem zi_232_19 : zraw 232 19 = some (.ifCond .ne 7, 3) ∧ ((19 : Nat) : Int) + 7 = Int.ofNat 26 ∧ 19 + 3 = 22 := by decide +kernel
theorem zi_232_22 : zraw 232 22 = some (.iload_n 3, 1) ∧ 22 + 1 = 23 := by decide +kernel
theorem zi_232_23 : zraw 232 23 = some (.goto 8, 3) ∧ ((23 : Nat) : Int) + 8 = Int.ofNat 31 := by decide +kernel
theorem zi_232_26 : zraw 232 26 = some (.aload_n 0, 1) ∧ 26 + 1 = 27 := by decide +kernel
theorem zi_232_27 : zraw 232 27 = some (.iload_n 3, 1) ∧ 27 + 1 = 28 := by decide +kernel
theorem zi_232_28 : zraw 232 28 = some (.invokevirtual 501, 3) ∧ zmt (zinf 232).1 501 = some 222 ∧ Nat.ble 9000 222 = false ∧ zinf 222 = (10, 2, 3, 1, 0) ∧ 28 + 3 = 31 := by decide +kernel
theorem zi_232_31 : zraw 232 31 = some (.ireturn, 1) ∧ (zinf 232).2.2.2.1 = 1 := by decide +kernel
theorem ze_232 {K : List zF} {σ : zW} {x1 : Int64} {x3 : Int} (hK : K.length < 60) : zEv true (zent 232 [.inr (.inr 122), .inr (.inl x1), .inl x3] :: K) σ = (if ¬ (zlc x1 500153084262) = 0 then if ¬ (zlc x1 111542169658722) = 0 then zEv true (zent 222 [.inr (.inr 122), .inl x3] :: (232, 31, [some (.inr (.inr 122)), some (.inr (.inl x1)), none, some (.inl x3)], []) :: K) σ else zRet true K (some (.inl x3)) σ else zRet true K (some (.inl (w32 (x3 + 1)))) σ) :=
  yT_en (f := (232, 0, [some (.inr (.inr 122)), some (.inr (.inl x1)), none, some (.inl x3)], [])) rfl (yI_lload_n zi_232_0 rfl <| yI_ldc2_w zi_232_1 <| yI_lcmp zi_232_4 <| yI_if_ne zi_232_5 <| yBr (yI_lload_n zi_232_14 rfl <| yI_ldc2_w zi_232_15 <| yI_lcmp zi_232_18 <| yI_if_ne zi_232_19 <| yBr (yI_aload_n zi_232_26 rfl <| yI_iload_n zi_232_27 rfl <| yI_cv zi_232_28 rfl rfl zk_122 hK) (yI_iload_n zi_232_22 rfl <| yI_goto zi_232_23 <| yI_ireturn zi_232_31)) (yI_iload_n zi_232_8 rfl <| yI_iconst zi_232_9 <| yI_iadd zi_232_10 <| yI_goto zi_232_11 <| yI_ireturn zi_232_31))
theorem zr_232_31 {K : List zF} {σ : zW} {o0 : Option zV} {o1 : Option zV} {o2 : Option zV} {o3 : Option zV} {v : Int} : zRet true ((232, 31, [o0, o1, o2, o3], []) :: K) (some (.inl v)) σ = (zRet true K (some (.inl v)) σ) :=
  yT_rt (yI_ireturn zi_232_31)
/-- 233 TreegrabModel.depthFor(JI)I -/
theorem zi_233_0 : zraw 233 0 = some (.aload_n 0, 1) ∧ 0 + 1 = 1 := by decide +kernel
theorem zi_233_1 : zraw 233 1 = some (.getfield 187, 3) ∧ zft (zinf 233).1 187 = some (10, 79, 3, true) ∧ 1 + 3 = 4 := by decide +kernel
theorem zi_233_4 : zraw 233 4 = some (.iload_n 3, 1) ∧ 4 + 1 = 5 := by decide +kernel
theorem zi_233_5 : zraw 233 5 = some (.iaload, 1) ∧ 5 + 1 = 6 := by decide +kernel
theorem zi_233_6 : zraw 233 6 = some (.lload_n 1, 1) ∧ 6 + 1 = 7 := by decide +kernel
theorem zi_233_7 : zraw 233 7 = some (.ldc2_w 327, 3) ∧ zlt (zinf 233).1 327 = some 500153084262 ∧ 7 + 3 = 10 := by decide +kernel
theorem zi_233_10 : zraw 233 10 = some (.lcmp, 1) ∧ 10 + 1 = 11 := by decide +kernel
theorem zi_233_11 : zraw 233 11 = some (.ifCond .eq 11, 3) ∧ ((11 : Nat) : Int) + 11 = Int.ofNat 22 ∧ 11 + 3 = 14 := by decide +kernel
theorem zi_233_14 : zraw 233 14 = some (.lload_n 1, 1) ∧ 14 + 1 = 15 := by decide +kernel
theorem zi_233_15 : zraw 233 15 = some (.ldc2_w 329, 3) ∧ zlt (zinf 233).1 329 = some 1953718636 ∧ 15 + 3 = 18 := by decide +kernel
theorem zi_233_18 : zraw 233 18 = some (.lcmp, 1) ∧ 18 + 1 = 19 := by decide +kernel
theorem zi_233_19 : zraw 233 19 = some (.ifCond .ne 7, 3) ∧ ((19 : Nat) : Int) + 7 = Int.ofNat 26 ∧ 19 + 3 = 22 := by decide +kernel
theorem zi_233_22 : zraw 233 22 = some (.iconst 1, 1) ∧ zin 128 1 = true ∧ 22 + 1 = 23 := by decide +kernel
theorem zi_233_23 : zraw 233 23 = some (.goto 4, 3) ∧ ((23 : Nat) : Int) + 4 = Int.ofNat 27 := by decide +kernel
theorem zi_233_26 : zraw 233 26 = some (.iconst 0, 1) ∧ zin 128 0 = true ∧ 26 + 1 = 27 := by decide +kernel
theorem zi_233_27 : zraw 233 27 = some (.iadd, 1) ∧ 27 + 1 = 28 := by decide +kernel
theorem zi_233_28 : zraw 233 28 = some (.ireturn, 1) ∧ (zinf 233).2.2.2.1 = 1 := by decide +kernel
theorem ze_233 {K : List zF} {σ : zW} {x1 : Int64} {x3 : Int} : zEv true (zent 233 [.inr (.inr 122), .inr (.inl x1), .inl x3] :: K) σ = ((0 ≤ x3 ∧ x3 < 24) ∧ zRet true K (some (.inl (w32 ((gI σ 180 x3.toNat) + (if (zlc x1 500153084262) = 0 then 1 else (if ¬ (zlc x1 1953718636) = 0 then 0 else 1 : Int) : Int))))) σ) :=
  yT_en (f := (233, 0, [some (.inr (.inr 122)), some (.inr (.inl x1)), none, some (.inl x3)], [])) rfl (yI_aload_n zi_233_0 rfl <| yI_gf_f (v := 180) zi_233_1 zk_122 rfl <| yI_iload_n zi_233_4 rfl <| yI_ialoadc (v := gI σ 180 x3.toNat) zi_233_5 za_180 rfl <| yI_lload_n zi_233_6 rfl <| yI_ldc2_w zi_233_7 <| yI_lcmp zi_233_10 <| yI_if_eq zi_233_11 <| yMi0 (j := 27) (ls2 := [some (.inr (.inr 122)), some (.inr (.inl x1)), none, some (.inl x3)]) (st2 := [.inl (gI σ 180 x3.toNat)]) (x := 1) (y := (if ¬ (zlc x1 1953718636) = 0 then 0 else 1 : Int)) (σ2 := σ) (yI_iconst zi_233_22 <| yI_goto zi_233_23 <| rfl) (yI_lload_n zi_233_14 rfl <| yI_ldc2_w zi_233_15 <| yI_lcmp zi_233_18 <| yI_if_ne zi_233_19 <| yMi0 (j := 27) (ls2 := [some (.inr (.inr 122)), some (.inr (.inl x1)), none, some (.inl x3)]) (st2 := [.inl (gI σ 180 x3.toNat)]) (x := 0) (y := 1) (σ2 := σ) (yI_iconst zi_233_26 <| rfl) (yI_iconst zi_233_22 <| yI_goto zi_233_23 <| rfl) <| rfl) <| yI_iadd zi_233_27 <| yI_ireturn zi_233_28)
/-- 234 TreegrabModel.adds(JJI)Z -/
theorem zi_234_0 : zraw 234 0 = some (.aload_n 0, 1) ∧ 0 + 1 = 1 := by decide +kernel
theorem zi_234_1 : zraw 234 1 = some (.getfield 498, 3) ∧ zft (zinf 234).1 498 = some (10, 77, 0, false) ∧ 1 + 3 = 4 := by decide +kernel
theorem zi_234_4 : zraw 234 4 = some (.bipush 20, 2) ∧ zin 128 20 = true ∧ 4 + 2 = 6 := by decide +kernel
theorem zi_234_6 : zraw 234 6 = some (.if_icmp .eq 13, 3) ∧ ((6 : Nat) : Int) + 13 = Int.ofNat 19 ∧ 6 + 3 = 9 := by decide +kernel
theorem zi_234_9 : zraw 234 9 = some (.aload_n 0, 1) ∧ 9 + 1 = 10 := by decide +kernel
theorem zi_234_10 : zraw 234 10 = some (.lload_n 3, 1) ∧ 10 + 1 = 11 := by decide +kernel
theorem zi_234_11 : zraw 234 11 = some (.iload 5, 2) ∧ 11 + 2 = 13 := by decide +kernel
theorem zi_234_13 : zraw 234 13 = some (.invokevirtual 524, 3) ∧ zmt (zinf 234).1 524 = some 231 ∧ Nat.ble 9000 231 = false ∧ zinf 231 = (10, 3, 4, 2, 0) ∧ 13 + 3 = 16 := by decide +kernel
theorem zi_234_16 : zraw 234 16 = some (.ifCond .eq 5, 3) ∧ ((16 : Nat) : Int) + 5 = Int.ofNat 21 ∧ 16 + 3 = 19 := by decide +kernel
theorem zi_234_19 : zraw 234 19 = some (.iconst 0, 1) ∧ zin 128 0 = true ∧ 19 + 1 = 20 := by decide +kernel
theorem zi_234_20 : zraw 234 20 = some (.ireturn, 1) ∧ (zinf 234).2.2.2.1 = 2 := by decide +kernel
theorem zi_234_21 : zraw 234 21 = some (.aload_n 0, 1) ∧ 21 + 1 = 22 := by decide +kernel
theorem zi_234_22 : zraw 234 22 = some (.aload_n 0, 1) ∧ 22 + 1 = 23 := by decide +kernel
theorem zi_234_23 : zraw 234 23 = some (.lload_n 3, 1) ∧ 23 + 1 = 24 := by decide +kernel
theorem zi_234_24 : zraw 234 24 = some (.iload 5, 2) ∧ 24 + 2 = 26 := by decide +kernel
theorem zi_234_26 : zraw 234 26 = some (.invokevirtual 528, 3) ∧ zmt (zinf 234).1 528 = some 232 ∧ Nat.ble 9000 232 = false ∧ zinf 232 = (10, 3, 4, 1, 0) ∧ 26 + 3 = 29 := by decide +kernel
theorem zi_234_29 : zraw 234 29 = some (.aload_n 0, 1) ∧ 29 + 1 = 30 := by decide +kernel
theorem zi_234_30 : zraw 234 30 = some (.lload_n 3, 1) ∧ 30 + 1 = 31 := by decide +kernel
theorem zi_234_31 : zraw 234 31 = some (.iload 5, 2) ∧ 31 + 2 = 33 := by decide +kernel
theorem zi_234_33 : zraw 234 33 = some (.invokevirtual 532, 3) ∧ zmt (zinf 234).1 532 = some 233 ∧ Nat.ble 9000 233 = false ∧ zinf 233 = (10, 3, 4, 1, 0) ∧ 33 + 3 = 36 := by decide +kernel
theorem zi_234_36 : zraw 234 36 = some (.lload_n 1, 1) ∧ 36 + 1 = 37 := by decide +kernel
theorem zi_234_37 : zraw 234 37 = some (.invokevirtual 520, 3) ∧ zmt (zinf 234).1 520 = some 226 ∧ Nat.ble 9000 226 = false ∧ zinf 226 = (10, 4, 5, 0, 0) ∧ 37 + 3 = 40 := by decide +kernel
theorem zi_234_40 : zraw 234 40 = some (.iconst 1, 1) ∧ zin 128 1 = true ∧ 40 + 1 = 41 := by decide +kernel
theorem zi_234_41 : zraw 234 41 = some (.ireturn, 1) ∧ (zinf 234).2.2.2.1 = 2 := by decide +kernel
theorem ze_234 {K : List zF} {σ : zW} {x1 : Int64} {x3 : Int64} {x5 : Int} (hK : K.length < 60) : zEv true (zent 234 [.inr (.inr 122), .inr (.inl x1), .inr (.inl x3), .inl x5] :: K) σ = (if (gI σ 122 77) = 20 then zRet true K (some (.inl 0)) σ else zEv true (zent 231 [.inr (.inr 122), .inr (.inl x3), .inl x5] :: (234, 16, [some (.inr (.inr 122)), some (.inr (.inl x1)), none, some (.inr (.inl x3)), none, some (.inl x5)], []) :: K) σ) :=
  yT_en (f := (234, 0, [some (.inr (.inr 122)), some (.inr (.inl x1)), none, some (.inr (.inl x3)), none, some (.inl x5)], [])) rfl (yI_aload_n zi_234_0 rfl <| yI_gf_i (v := gI σ 122 77) zi_234_1 zk_122 rfl <| yI_bipush zi_234_4 <| yI_ic_eq zi_234_6 <| yBr (yI_iconst zi_234_19 <| yI_zreturn zi_234_20 (by decide)) (yI_aload_n zi_234_9 rfl <| yI_lload_n zi_234_10 rfl <| yI_iload zi_234_11 rfl <| yI_cv zi_234_13 rfl rfl zk_122 hK))
theorem zr_234_16 {K : List zF} {σ : zW} {x1 : Int64} {x3 : Int64} {x5 : Int} {v : Int} (hK : K.length < 60) : zRet true ((234, 16, [some (.inr (.inr 122)), some (.inr (.inl x1)), none, some (.inr (.inl x3)), none, some (.inl x5)], []) :: K) (some (.inl v)) σ = (if v = 0 then zEv true (zent 232 [.inr (.inr 122), .inr (.inl x3), .inl x5] :: (234, 29, [some (.inr (.inr 122)), some (.inr (.inl x1)), none, some (.inr (.inl x3)), none, some (.inl x5)], [.inr (.inr 122)]) :: K) σ else zRet true K (some (.inl 0)) σ) :=
  yT_rt (yI_if_eq zi_234_16 <| yBr (yI_aload_n zi_234_21 rfl <| yI_aload_n zi_234_22 rfl <| yI_lload_n zi_234_23 rfl <| yI_iload zi_234_24 rfl <| yI_cv zi_234_26 rfl rfl zk_122 hK) (yI_iconst zi_234_19 <| yI_zreturn zi_234_20 (by decide)))
theorem zr_234_29 {K : List zF} {σ : zW} {x1 : Int64} {x3 : Int64} {x5 : Int} {v : Int} (hK : K.length < 60) : zRet true ((234, 29, [some (.inr (.inr 122)), some (.inr (.inl x1)), none, some (.inr (.inl x3)), none, some (.inl x5)], [.inr (.inr 122)]) :: K) (some (.inl v)) σ = (zEv true (zent 233 [.inr (.inr 122), .inr (.inl x3), .inl x5] :: (234, 36, [some (.inr (.inr 122)), some (.inr (.inl x1)), none, some (.inr (.inl x3)), none, some (.inl x5)], [.inl v, .inr (.inr 122)]) :: K) σ) :=
  yT_rt (yI_aload_n zi_234_29 rfl <| yI_lload_n zi_234_30 rfl <| yI_iload zi_234_31 rfl <| yI_cv zi_234_33 rfl rfl zk_122 hK)
theorem zr_234_36 {K : List zF} {σ : zW} {o0 : Option zV} {x1 : Int64} {o3 : Option zV} {o4 : Option zV} {o5 : Option zV} {s0 : Int} {v : Int} (hK : K.length < 60) : zRet true ((234, 36, [o0, some (.inr (.inl x1)), none, o3, o4, o5], [.inl s0, .inr (.inr 122)]) :: K) (some (.inl v)) σ = (zEv true (zent 226 [.inr (.inr 122), .inl s0, .inl v, .inr (.inl x1)] :: (234, 40, [o0, some (.inr (.inl x1)), none, o3, o4, o5], []) :: K) σ) :=
  yT_rt (yI_lload_n zi_234_36 rfl <| yI_cv zi_234_37 rfl rfl zk_122 hK)
theorem zr_234_40 {K : List zF} {σ : zW} {o0 : Option zV} {o1 : Option zV} {o2 : Option zV} {o3 : Option zV} {o4 : Option zV} {o5 : Option zV} : zRet true ((234, 40, [o0, o1, o2, o3, o4, o5], []) :: K) none σ = (zRet true K (some (.inl 1)) σ) :=
  yT_rv (yI_iconst zi_234_40 <| yI_zreturn zi_234_41 (by decide))
/-- 235 TreegrabModel.moves(IJI)Z -/
theorem zi_235_0 : zraw 235 0 = some (.iload_n 1, 1) ∧ 0 + 1 = 1 := by decide +kernel
theorem zi_235_1 : zraw 235 1 = some (.ifCond .eq 29, 3) ∧ ((1 : Nat) : Int) + 29 = Int.ofNat 30 ∧ 1 + 3 = 4 := by decide +kernel
theorem zi_235_4 : zraw 235 4 = some (.iload 4, 2) ∧ 4 + 2 = 6 := by decide +kernel
theorem zi_235_6 : zraw 235 6 = some (.iload_n 1, 1) ∧ 6 + 1 = 7 := by decide +kernel
theorem zi_235_7 : zraw 235 7 = some (.if_icmp .lt 13, 3) ∧ ((7 : Nat) : Int) + 13 = Int.ofNat 20 ∧ 7 + 3 = 10 := by decide +kernel
theorem zi_235_10 : zraw 235 10 = some (.iload 4, 2) ∧ 10 + 2 = 12 := by decide +kernel
theorem zi_235_12 : zraw 235 12 = some (.aload_n 0, 1) ∧ 12 + 1 = 13 := by decide +kernel
theorem zi_235_13 : zraw 235 13 = some (.iload_n 1, 1) ∧ 13 + 1 = 14 := by decide +kernel
theorem zi_235_14 : zraw 235 14 = some (.invokevirtual 501, 3) ∧ zmt (zinf 235).1 501 = some 222 ∧ Nat.ble 9000 222 = false ∧ zinf 222 = (10, 2, 3, 1, 0) ∧ 14 + 3 = 17 := by decide +kernel
theorem zi_235_17 : zraw 235 17 = some (.if_icmp .lt 13, 3) ∧ ((17 : Nat) : Int) + 13 = Int.ofNat 30 ∧ 17 + 3 = 20 := by decide +kernel
theorem zi_235_20 : zraw 235 20 = some (.aload_n 0, 1) ∧ 20 + 1 = 21 := by decide +kernel
theorem zi_235_21 : zraw 235 21 = some (.lload_n 2, 1) ∧ 21 + 1 = 22 := by decide +kernel
theorem zi_235_22 : zraw 235 22 = some (.iload 4, 2) ∧ 22 + 2 = 24 := by decide +kernel
theorem zi_235_24 : zraw 235 24 = some (.invokevirtual 524, 3) ∧ zmt (zinf 235).1 524 = some 231 ∧ Nat.ble 9000 231 = false ∧ zinf 231 = (10, 3, 4, 2, 0) ∧ 24 + 3 = 27 := by decide +kernel
theorem zi_235_27 : zraw 235 27 = some (.ifCond .eq 5, 3) ∧ ((27 : Nat) : Int) + 5 = Int.ofNat 32 ∧ 27 + 3 = 30 := by decide +kernel
theorem zi_235_30 : zraw 235 30 = some (.iconst 0, 1) ∧ zin 128 0 = true ∧ 30 + 1 = 31 := by decide +kernel
theorem zi_235_31 : zraw 235 31 = some (.ireturn, 1) ∧ (zinf 235).2.2.2.1 = 2 := by decide +kernel
theorem zi_235_32 : zraw 235 32 = some (.aload_n 0, 1) ∧ 32 + 1 = 33 := by decide +kernel
theorem zi_235_33 : zraw 235 33 = some (.getfield 184, 3) ∧ zft (zinf 235).1 184 = some (10, 78, 3, true) ∧ 33 + 3 = 36 := by decide +kernel
theorem zi_235_36 : zraw 235 36 = some (.aload_n 0, 1) ∧ 36 + 1 = 37 := by decide +kernel
theorem zi_235_37 : zraw 235 37 = some (.iload_n 1, 1) ∧ 37 + 1 = 38 := by decide +kernel
theorem zi_235_38 : zraw 235 38 = some (.invokevirtual 514, 3) ∧ zmt (zinf 235).1 514 = some 223 ∧ Nat.ble 9000 223 = false ∧ zinf 223 = (10, 2, 3, 1, 0) ∧ 38 + 3 = 41 := by decide +kernel
theorem zi_235_41 : zraw 235 41 = some (.iaload, 1) ∧ 41 + 1 = 42 := by decide +kernel
theorem zi_235_42 : zraw 235 42 = some (.istore 5, 2) ∧ 42 + 2 = 44 := by decide +kernel
theorem zi_235_44 : zraw 235 44 = some (.aload_n 0, 1) ∧ 44 + 1 = 45 := by decide +kernel
theorem zi_235_45 : zraw 235 45 = some (.getfield 184, 3) ∧ zft (zinf 235).1 184 = some (10, 78, 3, true) ∧ 45 + 3 = 48 := by decide +kernel
theorem zi_235_48 : zraw 235 48 = some (.iload 4, 2) ∧ 48 + 2 = 50 := by decide +kernel
theorem zi_235_50 : zraw 235 50 = some (.iaload, 1) ∧ 50 + 1 = 51 := by decide +kernel
theorem zi_235_51 : zraw 235 51 = some (.istore 6, 2) ∧ 51 + 2 = 53 := by decide +kernel
theorem zi_235_53 : zraw 235 53 = some (.aload_n 0, 1) ∧ 53 + 1 = 54 := by decide +kernel
theorem zi_235_54 : zraw 235 54 = some (.aload_n 0, 1) ∧ 54 + 1 = 55 := by decide +kernel
theorem zi_235_55 : zraw 235 55 = some (.iload_n 1, 1) ∧ 55 + 1 = 56 := by decide +kernel
theorem zi_235_56 : zraw 235 56 = some (.invokevirtual 501, 3) ∧ zmt (zinf 235).1 501 = some 222 ∧ Nat.ble 9000 222 = false ∧ zinf 222 = (10, 2, 3, 1, 0) ∧ 56 + 3 = 59 := by decide +kernel
theorem zi_235_59 : zraw 235 59 = some (.iload_n 1, 1) ∧ 59 + 1 = 60 := by decide +kernel
theorem zi_235_60 : zraw 235 60 = some (.isub, 1) ∧ 60 + 1 = 61 := by decide +kernel
theorem zi_235_61 : zraw 235 61 = some (.putfield 535, 3) ∧ zft (zinf 235).1 535 = some (10, 81, 0, false) ∧ 61 + 3 = 64 := by decide +kernel
theorem zi_235_64 : zraw 235 64 = some (.iconst 0, 1) ∧ zin 128 0 = true ∧ 64 + 1 = 65 := by decide +kernel
theorem zi_235_65 : zraw 235 65 = some (.istore 7, 2) ∧ 65 + 2 = 67 := by decide +kernel
theorem zi_235_67 : zraw 235 67 = some (.iload 7, 2) ∧ 67 + 2 = 69 := by decide +kernel
theorem zi_235_69 : zraw 235 69 = some (.aload_n 0, 1) ∧ 69 + 1 = 70 := by decide +kernel
theorem zi_235_70 : zraw 235 70 = some (.getfield 535, 3) ∧ zft (zinf 235).1 535 = some (10, 81, 0, false) ∧ 70 + 3 = 73 := by decide +kernel
theorem zi_235_73 : zraw 235 73 = some (.if_icmp .ge 64, 3) ∧ ((73 : Nat) : Int) + 64 = Int.ofNat 137 ∧ 73 + 3 = 76 := by decide +kernel
theorem zi_235_76 : zraw 235 76 = some (.aload_n 0, 1) ∧ 76 + 1 = 77 := by decide +kernel
theorem zi_235_77 : zraw 235 77 = some (.getfield 193, 3) ∧ zft (zinf 235).1 193 = some (10, 82, 3, true) ∧ 77 + 3 = 80 := by decide +kernel
theorem zi_235_80 : zraw 235 80 = some (.iload 7, 2) ∧ 80 + 2 = 82 := by decide +kernel
theorem zi_235_82 : zraw 235 82 = some (.aload_n 0, 1) ∧ 82 + 1 = 83 := by decide +kernel
theorem zi_235_83 : zraw 235 83 = some (.getfield 184, 3) ∧ zft (zinf 235).1 184 = some (10, 78, 3, true) ∧ 83 + 3 = 86 := by decide +kernel
theorem zi_235_86 : zraw 235 86 = some (.iload_n 1, 1) ∧ 86 + 1 = 87 := by decide +kernel
theorem zi_235_87 : zraw 235 87 = some (.iload 7, 2) ∧ 87 + 2 = 89 := by decide +kernel
theorem zi_235_89 : zraw 235 89 = some (.iadd, 1) ∧ 89 + 1 = 90 := by decide +kernel
theorem zi_235_90 : zraw 235 90 = some (.iaload, 1) ∧ 90 + 1 = 91 := by decide +kernel
theorem zi_235_91 : zraw 235 91 = some (.iastore, 1) ∧ 91 + 1 = 92 := by decide +kernel
theorem zi_235_92 : zraw 235 92 = some (.aload_n 0, 1) ∧ 92 + 1 = 93 := by decide +kernel
theorem zi_235_93 : zraw 235 93 = some (.getfield 196, 3) ∧ zft (zinf 235).1 196 = some (10, 83, 3, true) ∧ 93 + 3 = 96 := by decide +kernel
theorem zi_235_96 : zraw 235 96 = some (.iload 7, 2) ∧ 96 + 2 = 98 := by decide +kernel
theorem zi_235_98 : zraw 235 98 = some (.aload_n 0, 1) ∧ 98 + 1 = 99 := by decide +kernel
theorem zi_235_99 : zraw 235 99 = some (.getfield 187, 3) ∧ zft (zinf 235).1 187 = some (10, 79, 3, true) ∧ 99 + 3 = 102 := by decide +kernel
theorem zi_235_102 : zraw 235 102 = some (.iload_n 1, 1) ∧ 102 + 1 = 103 := by decide +kernel
theorem zi_235_103 : zraw 235 103 = some (.iload 7, 2) ∧ 103 + 2 = 105 := by decide +kernel
theorem zi_235_105 : zraw 235 105 = some (.iadd, 1) ∧ 105 + 1 = 106 := by decide +kernel
theorem zi_235_106 : zraw 235 106 = some (.iaload, 1) ∧ 106 + 1 = 107 := by decide +kernel
theorem zi_235_107 : zraw 235 107 = some (.aload_n 0, 1) ∧ 107 + 1 = 108 := by decide +kernel
theorem zi_235_108 : zraw 235 108 = some (.getfield 187, 3) ∧ zft (zinf 235).1 187 = some (10, 79, 3, true) ∧ 108 + 3 = 111 := by decide +kernel
theorem zi_235_111 : zraw 235 111 = some (.iload_n 1, 1) ∧ 111 + 1 = 112 := by decide +kernel
theorem zi_235_112 : zraw 235 112 = some (.iaload, 1) ∧ 112 + 1 = 113 := by decide +kernel
theorem zi_235_113 : zraw 235 113 = some (.isub, 1) ∧ 113 + 1 = 114 := by decide +kernel
theorem zi_235_114 : zraw 235 114 = some (.iastore, 1) ∧ 114 + 1 = 115 := by decide +kernel
theorem zi_235_115 : zraw 235 115 = some (.aload_n 0, 1) ∧ 115 + 1 = 116 := by decide +kernel
theorem zi_235_116 : zraw 235 116 = some (.getfield 199, 3) ∧ zft (zinf 235).1 199 = some (10, 84, 3, true) ∧ 116 + 3 = 119 := by decide +kernel
theorem zi_235_119 : zraw 235 119 = some (.iload 7, 2) ∧ 119 + 2 = 121 := by decide +kernel
theorem zi_235_121 : zraw 235 121 = some (.aload_n 0, 1) ∧ 121 + 1 = 122 := by decide +kernel
theorem zi_235_122 : zraw 235 122 = some (.getfield 190, 3) ∧ zft (zinf 235).1 190 = some (10, 80, 3, true) ∧ 122 + 3 = 125 := by decide +kernel
theorem zi_235_125 : zraw 235 125 = some (.iload_n 1, 1) ∧ 125 + 1 = 126 := by decide +kernel
theorem zi_235_126 : zraw 235 126 = some (.iload 7, 2) ∧ 126 + 2 = 128 := by decide +kernel
theorem zi_235_128 : zraw 235 128 = some (.iadd, 1) ∧ 128 + 1 = 129 := by decide +kernel
theorem zi_235_129 : zraw 235 129 = some (.laload, 1) ∧ 129 + 1 = 130 := by decide +kernel
theorem zi_235_130 : zraw 235 130 = some (.lastore, 1) ∧ 130 + 1 = 131 := by decide +kernel
theorem zi_235_131 : zraw 235 131 = some (.iinc 7 1, 3) ∧ zin 32768 1 = true ∧ 131 + 3 = 134 := by decide +kernel
theorem zi_235_134 : zraw 235 134 = some (.goto (-67), 3) ∧ ((134 : Nat) : Int) + (-67) = Int.ofNat 67 := by decide +kernel
theorem zi_235_137 : zraw 235 137 = some (.aload_n 0, 1) ∧ 137 + 1 = 138 := by decide +kernel
theorem zi_235_138 : zraw 235 138 = some (.iload_n 1, 1) ∧ 138 + 1 = 139 := by decide +kernel
theorem zi_235_139 : zraw 235 139 = some (.aload_n 0, 1) ∧ 139 + 1 = 140 := by decide +kernel
theorem zi_235_140 : zraw 235 140 = some (.getfield 535, 3) ∧ zft (zinf 235).1 535 = some (10, 81, 0, false) ∧ 140 + 3 = 143 := by decide +kernel
theorem zi_235_143 : zraw 235 143 = some (.ineg, 1) ∧ 143 + 1 = 144 := by decide +kernel
theorem zi_235_144 : zraw 235 144 = some (.invokevirtual 504, 3) ∧ zmt (zinf 235).1 504 = some 225 ∧ Nat.ble 9000 225 = false ∧ zinf 225 = (10, 3, 4, 0, 0) ∧ 144 + 3 = 147 := by decide +kernel
theorem zi_235_147 : zraw 235 147 = some (.aload_n 0, 1) ∧ 147 + 1 = 148 := by decide +kernel
theorem zi_235_148 : zraw 235 148 = some (.iload 6, 2) ∧ 148 + 2 = 150 := by decide +kernel
theorem zi_235_150 : zraw 235 150 = some (.invokevirtual 538, 3) ∧ zmt (zinf 235).1 538 = some 221 ∧ Nat.ble 9000 221 = false ∧ zinf 221 = (10, 2, 4, 1, 0) ∧ 150 + 3 = 153 := by decide +kernel
theorem zi_235_153 : zraw 235 153 = some (.istore 7, 2) ∧ 153 + 2 = 155 := by decide +kernel
theorem zi_235_155 : zraw 235 155 = some (.aload_n 0, 1) ∧ 155 + 1 = 156 := by decide +kernel
theorem zi_235_156 : zraw 235 156 = some (.lload_n 2, 1) ∧ 156 + 1 = 157 := by decide +kernel
theorem zi_235_157 : zraw 235 157 = some (.iload 7, 2) ∧ 157 + 2 = 159 := by decide +kernel
theorem zi_235_159 : zraw 235 159 = some (.invokevirtual 532, 3) ∧ zmt (zinf 235).1 532 = some 233 ∧ Nat.ble 9000 233 = false ∧ zinf 233 = (10, 3, 4, 1, 0) ∧ 159 + 3 = 162 := by decide +kernel
theorem zi_235_162 : zraw 235 162 = some (.istore 8, 2) ∧ 162 + 2 = 164 := by decide +kernel
theorem zi_235_164 : zraw 235 164 = some (.aload_n 0, 1) ∧ 164 + 1 = 165 := by decide +kernel
theorem zi_235_165 : zraw 235 165 = some (.lload_n 2, 1) ∧ 165 + 1 = 166 := by decide +kernel
theorem zi_235_166 : zraw 235 166 = some (.iload 7, 2) ∧ 166 + 2 = 168 := by decide +kernel
theorem zi_235_168 : zraw 235 168 = some (.invokevirtual 528, 3) ∧ zmt (zinf 235).1 528 = some 232 ∧ Nat.ble 9000 232 = false ∧ zinf 232 = (10, 3, 4, 1, 0) ∧ 168 + 3 = 171 := by decide +kernel
theorem zi_235_171 : zraw 235 171 = some (.istore 9, 2) ∧ 171 + 2 = 173 := by decide +kernel
theorem zi_235_173 : zraw 235 173 = some (.aload_n 0, 1) ∧ 173 + 1 = 174 := by decide +kernel
theorem zi_235_174 : zraw 235 174 = some (.iload 9, 2) ∧ 174 + 2 = 176 := by decide +kernel
theorem zi_235_176 : zraw 235 176 = some (.aload_n 0, 1) ∧ 176 + 1 = 177 := by decide +kernel
theorem zi_235_177 : zraw 235 177 = some (.getfield 535, 3) ∧ zft (zinf 235).1 535 = some (10, 81, 0, false) ∧ 177 + 3 = 180 := by decide +kernel
theorem zi_235_180 : zraw 235 180 = some (.invokevirtual 504, 3) ∧ zmt (zinf 235).1 504 = some 225 ∧ Nat.ble 9000 225 = false ∧ zinf 225 = (10, 3, 4, 0, 0) ∧ 180 + 3 = 183 := by decide +kernel
theorem zi_235_183 : zraw 235 183 = some (.iconst 0, 1) ∧ zin 128 0 = true ∧ 183 + 1 = 184 := by decide +kernel
theorem zi_235_184 : zraw 235 184 = some (.istore 10, 2) ∧ 184 + 2 = 186 := by decide +kernel
theorem zi_235_186 : zraw 235 186 = some (.iload 10, 2) ∧ 186 + 2 = 188 := by decide +kernel
theorem zi_235_188 : zraw 235 188 = some (.aload_n 0, 1) ∧ 188 + 1 = 189 := by decide +kernel
theorem zi_235_189 : zraw 235 189 = some (.getfield 535, 3) ∧ zft (zinf 235).1 535 = some (10, 81, 0, false) ∧ 189 + 3 = 192 := by decide +kernel
theorem zi_235_192 : zraw 235 192 = some (.if_icmp .ge 63, 3) ∧ ((192 : Nat) : Int) + 63 = Int.ofNat 255 ∧ 192 + 3 = 195 := by decide +kernel
theorem zi_235_195 : zraw 235 195 = some (.aload_n 0, 1) ∧ 195 + 1 = 196 := by decide +kernel
theorem zi_235_196 : zraw 235 196 = some (.getfield 184, 3) ∧ zft (zinf 235).1 184 = some (10, 78, 3, true) ∧ 196 + 3 = 199 := by decide +kernel
theorem zi_235_199 : zraw 235 199 = some (.iload 9, 2) ∧ 199 + 2 = 201 := by decide +kernel
theorem zi_235_201 : zraw 235 201 = some (.iload 10, 2) ∧ 201 + 2 = 203 := by decide +kernel
theorem zi_235_203 : zraw 235 203 = some (.iadd, 1) ∧ 203 + 1 = 204 := by decide +kernel
theorem zi_235_204 : zraw 235 204 = some (.aload_n 0, 1) ∧ 204 + 1 = 205 := by decide +kernel
theorem zi_235_205 : zraw 235 205 = some (.getfield 193, 3) ∧ zft (zinf 235).1 193 = some (10, 82, 3, true) ∧ 205 + 3 = 208 := by decide +kernel
theorem zi_235_208 : zraw 235 208 = some (.iload 10, 2) ∧ 208 + 2 = 210 := by decide +kernel
theorem zi_235_210 : zraw 235 210 = some (.iaload, 1) ∧ 210 + 1 = 211 := by decide +kernel
theorem zi_235_211 : zraw 235 211 = some (.iastore, 1) ∧ 211 + 1 = 212 := by decide +kernel
theorem zi_235_212 : zraw 235 212 = some (.aload_n 0, 1) ∧ 212 + 1 = 213 := by decide +kernel
theorem zi_235_213 : zraw 235 213 = some (.getfield 187, 3) ∧ zft (zinf 235).1 187 = some (10, 79, 3, true) ∧ 213 + 3 = 216 := by decide +kernel
theorem zi_235_216 : zraw 235 216 = some (.iload 9, 2) ∧ 216 + 2 = 218 := by decide +kernel
theorem zi_235_218 : zraw 235 218 = some (.iload 10, 2) ∧ 218 + 2 = 220 := by decide +kernel
theorem zi_235_220 : zraw 235 220 = some (.iadd, 1) ∧ 220 + 1 = 221 := by decide +kernel
theorem zi_235_221 : zraw 235 221 = some (.iload 8, 2) ∧ 221 + 2 = 223 := by decide +kernel
theorem zi_235_223 : zraw 235 223 = some (.aload_n 0, 1) ∧ 223 + 1 = 224 := by decide +kernel
theorem zi_235_224 : zraw 235 224 = some (.getfield 196, 3) ∧ zft (zinf 235).1 196 = some (10, 83, 3, true) ∧ 224 + 3 = 227 := by decide +kernel
theorem zi_235_227 : zraw 235 227 = some (.iload 10, 2) ∧ 227 + 2 = 229 := by decide +kernel
theorem zi_235_229 : zraw 235 229 = some (.iaload, 1) ∧ 229 + 1 = 230 := by decide +kernel
theorem zi_235_230 : zraw 235 230 = some (.iadd, 1) ∧ 230 + 1 = 231 := by decide +kernel
theorem zi_235_231 : zraw 235 231 = some (.iastore, 1) ∧ 231 + 1 = 232 := by decide +kernel
theorem zi_235_232 : zraw 235 232 = some (.aload_n 0, 1) ∧ 232 + 1 = 233 := by decide +kernel
theorem zi_235_233 : zraw 235 233 = some (.getfield 190, 3) ∧ zft (zinf 235).1 190 = some (10, 80, 3, true) ∧ 233 + 3 = 236 := by decide +kernel
theorem zi_235_236 : zraw 235 236 = some (.iload 9, 2) ∧ 236 + 2 = 238 := by decide +kernel
theorem zi_235_238 : zraw 235 238 = some (.iload 10, 2) ∧ 238 + 2 = 240 := by decide +kernel
theorem zi_235_240 : zraw 235 240 = some (.iadd, 1) ∧ 240 + 1 = 241 := by decide +kernel
theorem zi_235_241 : zraw 235 241 = some (.aload_n 0, 1) ∧ 241 + 1 = 242 := by decide +kernel
theorem zi_235_242 : zraw 235 242 = some (.getfield 199, 3) ∧ zft (zinf 235).1 199 = some (10, 84, 3, true) ∧ 242 + 3 = 245 := by decide +kernel
theorem zi_235_245 : zraw 235 245 = some (.iload 10, 2) ∧ 245 + 2 = 247 := by decide +kernel
theorem zi_235_247 : zraw 235 247 = some (.laload, 1) ∧ 247 + 1 = 248 := by decide +kernel
theorem zi_235_248 : zraw 235 248 = some (.lastore, 1) ∧ 248 + 1 = 249 := by decide +kernel
theorem zi_235_249 : zraw 235 249 = some (.iinc 10 1, 3) ∧ zin 32768 1 = true ∧ 249 + 3 = 252 := by decide +kernel
theorem zi_235_252 : zraw 235 252 = some (.goto (-66), 3) ∧ ((252 : Nat) : Int) + (-66) = Int.ofNat 186 := by decide +kernel
theorem zi_235_255 : zraw 235 255 = some (.aload_n 0, 1) ∧ 255 + 1 = 256 := by decide +kernel
theorem zi_235_256 : zraw 235 256 = some (.aload_n 0, 1) ∧ 256 + 1 = 257 := by decide +kernel
theorem zi_235_257 : zraw 235 257 = some (.iload 5, 2) ∧ 257 + 2 = 259 := by decide +kernel
theorem zi_235_259 : zraw 235 259 = some (.invokevirtual 538, 3) ∧ zmt (zinf 235).1 538 = some 221 ∧ Nat.ble 9000 221 = false ∧ zinf 221 = (10, 2, 4, 1, 0) ∧ 259 + 3 = 262 := by decide +kernel
theorem zi_235_262 : zraw 235 262 = some (.invokevirtual 517, 3) ∧ zmt (zinf 235).1 517 = some 227 ∧ Nat.ble 9000 227 = false ∧ zinf 227 = (10, 2, 4, 2, 0) ∧ 262 + 3 = 265 := by decide +kernel
theorem zi_235_265 : zraw 235 265 = some (.ireturn, 1) ∧ (zinf 235).2.2.2.1 = 2 := by decide +kernel
theorem ze_235 {K : List zF} {σ : zW} {x1 : Int} {x2 : Int64} {x4 : Int} (hK : K.length < 60) : zEv true (zent 235 [.inr (.inr 122), .inl x1, .inr (.inl x2), .inl x4] :: K) σ = (if x1 = 0 then zRet true K (some (.inl 0)) σ else if x4 < x1 then zEv true ((235, 20, [some (.inr (.inr 122)), some (.inl x1), some (.inr (.inl x2)), none, some (.inl x4), none, none, none, none, none, none], []) :: K) σ else zEv true (zent 222 [.inr (.inr 122), .inl x1] :: (235, 17, [some (.inr (.inr 122)), some (.inl x1), some (.inr (.inl x2)), none, some (.inl x4), none, none, none, none, none, none], [.inl x4]) :: K) σ) :=
  yT_en (f := (235, 0, [some (.inr (.inr 122)), some (.inl x1), some (.inr (.inl x2)), none, some (.inl x4), none, none, none, none, none, none], [])) rfl (yI_iload_n zi_235_0 rfl <| yI_if_eq zi_235_1 <| yBr (yI_iconst zi_235_30 <| yI_zreturn zi_235_31 (by decide)) (yI_iload zi_235_4 rfl <| yI_iload_n zi_235_6 rfl <| yI_ic_lt zi_235_7 <| yBr (rfl) (yI_iload zi_235_10 rfl <| yI_aload_n zi_235_12 rfl <| yI_iload_n zi_235_13 rfl <| yI_cv zi_235_14 rfl rfl zk_122 hK)))
theorem zj_235_20 {K : List zF} {σ : zW} {x1 : Int} {x2 : Int64} {x4 : Int} {o5 : Option zV} {o6 : Option zV} {o7 : Option zV} {o8 : Option zV} {o9 : Option zV} {o10 : Option zV} (hK : K.length < 60) : zEv true ((235, 20, [some (.inr (.inr 122)), some (.inl x1), some (.inr (.inl x2)), none, some (.inl x4), o5, o6, o7, o8, o9, o10], []) :: K) σ = (zEv true (zent 231 [.inr (.inr 122), .inr (.inl x2), .inl x4] :: (235, 27, [some (.inr (.inr 122)), some (.inl x1), some (.inr (.inl x2)), none, some (.inl x4), o5, o6, o7, o8, o9, o10], []) :: K) σ) :=
  yI_aload_n zi_235_20 rfl <| yI_lload_n zi_235_21 rfl <| yI_iload zi_235_22 rfl <| yI_cv zi_235_24 rfl rfl zk_122 hK
theorem zr_235_17 {K : List zF} {σ : zW} {x1 : Int} {x2 : Int64} {x4 : Int} {o5 : Option zV} {o6 : Option zV} {o7 : Option zV} {o8 : Option zV} {o9 : Option zV} {o10 : Option zV} {s0 : Int} {v : Int} : zRet true ((235, 17, [some (.inr (.inr 122)), some (.inl x1), some (.inr (.inl x2)), none, some (.inl x4), o5, o6, o7, o8, o9, o10], [.inl s0]) :: K) (some (.inl v)) σ = (if s0 < v then zRet true K (some (.inl 0)) σ else zEv true ((235, 20, [some (.inr (.inr 122)), some (.inl x1), some (.inr (.inl x2)), none, some (.inl x4), o5, o6, o7, o8, o9, o10], []) :: K) σ) :=
  yT_rt (yI_ic_lt zi_235_17 <| yBr (yI_iconst zi_235_30 <| yI_zreturn zi_235_31 (by decide)) (rfl))
theorem zr_235_27 {K : List zF} {σ : zW} {x1 : Int} {x2 : Int64} {x4 : Int} {o5 : Option zV} {o6 : Option zV} {o7 : Option zV} {o8 : Option zV} {o9 : Option zV} {o10 : Option zV} {v : Int} (hK : K.length < 60) : zRet true ((235, 27, [some (.inr (.inr 122)), some (.inl x1), some (.inr (.inl x2)), none, some (.inl x4), o5, o6, o7, o8, o9, o10], []) :: K) (some (.inl v)) σ = (if v = 0 then zEv true (zent 223 [.inr (.inr 122), .inl x1] :: (235, 41, [some (.inr (.inr 122)), some (.inl x1), some (.inr (.inl x2)), none, some (.inl x4), o5, o6, o7, o8, o9, o10], [.inr (.inr 179)]) :: K) σ else zRet true K (some (.inl 0)) σ) :=
  yT_rt (yI_if_eq zi_235_27 <| yBr (yI_aload_n zi_235_32 rfl <| yI_gf_f (v := 179) zi_235_33 zk_122 rfl <| yI_aload_n zi_235_36 rfl <| yI_iload_n zi_235_37 rfl <| yI_cv zi_235_38 rfl rfl zk_122 hK) (yI_iconst zi_235_30 <| yI_zreturn zi_235_31 (by decide)))
theorem zr_235_41 {K : List zF} {σ : zW} {x1 : Int} {x2 : Int64} {x4 : Int} {o5 : Option zV} {o6 : Option zV} {o7 : Option zV} {o8 : Option zV} {o9 : Option zV} {o10 : Option zV} {v : Int} (hK : K.length < 60) : zRet true ((235, 41, [some (.inr (.inr 122)), some (.inl x1), some (.inr (.inl x2)), none, some (.inl x4), o5, o6, o7, o8, o9, o10], [.inr (.inr 179)]) :: K) (some (.inl v)) σ = ((0 ≤ v ∧ v < 24) ∧ ((0 ≤ x4 ∧ x4 < 24) ∧ zEv true (zent 222 [.inr (.inr 122), .inl x1] :: (235, 59, [some (.inr (.inr 122)), some (.inl x1), some (.inr (.inl x2)), none, some (.inl x4), some (.inl (gI σ 179 v.toNat)), some (.inl (gI σ 179 x4.toNat)), o7, o8, o9, o10], [.inr (.inr 122)]) :: K) σ)) :=
  yT_rt (yI_ialoadc (v := gI σ 179 v.toNat) zi_235_41 za_179 rfl <| yI_istore (l := [some (.inr (.inr 122)), some (.inl x1), some (.inr (.inl x2)), none, some (.inl x4), some (.inl (gI σ 179 v.toNat)), o6, o7, o8, o9, o10]) zi_235_42 rfl rfl <| yI_aload_n zi_235_44 rfl <| yI_gf_f (v := 179) zi_235_45 zk_122 rfl <| yI_iload zi_235_48 rfl <| yI_ialoadc (v := gI σ 179 x4.toNat) zi_235_50 za_179 rfl <| yI_istore (l := [some (.inr (.inr 122)), some (.inl x1), some (.inr (.inl x2)), none, some (.inl x4), some (.inl (gI σ 179 v.toNat)), some (.inl (gI σ 179 x4.toNat)), o7, o8, o9, o10]) zi_235_51 rfl rfl <| yI_aload_n zi_235_53 rfl <| yI_aload_n zi_235_54 rfl <| yI_iload_n zi_235_55 rfl <| yI_cv zi_235_56 rfl rfl zk_122 hK)
theorem zr_235_59 {K : List zF} {σ : zW} {x1 : Int} {x2 : Int64} {o4 : Option zV} {x5 : Int} {x6 : Int} {o7 : Option zV} {o8 : Option zV} {o9 : Option zV} {o10 : Option zV} {v : Int} : zRet true ((235, 59, [some (.inr (.inr 122)), some (.inl x1), some (.inr (.inl x2)), none, o4, some (.inl x5), some (.inl x6), o7, o8, o9, o10], [.inr (.inr 122)]) :: K) (some (.inl v)) σ = (zEv true ((235, 67, [some (.inr (.inr 122)), some (.inl x1), some (.inr (.inl x2)), none, o4, some (.inl x5), some (.inl x6), some (.inl 0), o8, o9, o10], []) :: K) (sI σ 122 81 (w32 (v - x1)))) :=
  yT_rt (yI_iload_n zi_235_59 rfl <| yI_isub zi_235_60 <| yI_pf_i zi_235_61 zk_122 <| yI_iconst zi_235_64 <| yI_istore (l := [some (.inr (.inr 122)), some (.inl x1), some (.inr (.inl x2)), none, o4, some (.inl x5), some (.inl x6), some (.inl 0), o8, o9, o10]) zi_235_65 rfl rfl <| rfl)
theorem zj_235_67 {K : List zF} {σ : zW} {x1 : Int} {x2 : Int64} {o4 : Option zV} {x5 : Int} {x6 : Int} {x7 : Int} {o8 : Option zV} {o9 : Option zV} {o10 : Option zV} (hK : K.length < 60) : zEv true ((235, 67, [some (.inr (.inr 122)), some (.inl x1), some (.inr (.inl x2)), none, o4, some (.inl x5), some (.inl x6), some (.inl x7), o8, o9, o10], []) :: K) σ = (if (gI σ 122 81) ≤ x7 then zEv true (zent 225 [.inr (.inr 122), .inl x1, .inl (w32 (-(gI σ 122 81)))] :: (235, 147, [some (.inr (.inr 122)), some (.inl x1), some (.inr (.inl x2)), none, o4, some (.inl x5), some (.inl x6), some (.inl x7), o8, o9, o10], []) :: K) σ else (0 ≤ (w32 (x1 + x7)) ∧ (w32 (x1 + x7)) < 24) ∧ ((0 ≤ x7 ∧ x7 < 24) ∧ ((0 ≤ (w32 (x1 + x7)) ∧ (w32 (x1 + x7)) < 24) ∧ ((0 ≤ x1 ∧ x1 < 24) ∧ ((0 ≤ x7 ∧ x7 < 24) ∧ ((0 ≤ (w32 (x1 + x7)) ∧ (w32 (x1 + x7)) < 24) ∧ ((0 ≤ x7 ∧ x7 < 24) ∧ zEv true ((235, 67, [some (.inr (.inr 122)), some (.inl x1), some (.inr (.inl x2)), none, o4, some (.inl x5), some (.inl x6), some (.inl (w32 (x7 + 1))), o8, o9, o10], []) :: K) (sL (sI (sI σ 182 x7.toNat (gI σ 179 ((w32 (x1 + x7)).toNat))) 183 x7.toNat (w32 ((gI σ 180 ((w32 (x1 + x7)).toNat)) - (gI σ 180 x1.toNat)))) 184 x7.toNat (gL σ 181 ((w32 (x1 + x7)).toNat)))))))))) :=
  yI_iload zi_235_67 rfl <| yI_aload_n zi_235_69 rfl <| yI_gf_i (v := gI σ 122 81) zi_235_70 zk_122 rfl <| yI_ic_ge zi_235_73 <| yBr (yI_aload_n zi_235_137 rfl <| yI_iload_n zi_235_138 rfl <| yI_aload_n zi_235_139 rfl <| yI_gf_i (v := gI σ 122 81) zi_235_140 zk_122 rfl <| yI_ineg zi_235_143 <| yI_cv zi_235_144 rfl rfl zk_122 hK) (yI_aload_n zi_235_76 rfl <| yI_gf_f (v := 182) zi_235_77 zk_122 rfl <| yI_iload zi_235_80 rfl <| yI_aload_n zi_235_82 rfl <| yI_gf_f (v := 179) zi_235_83 zk_122 rfl <| yI_iload_n zi_235_86 rfl <| yI_iload zi_235_87 rfl <| yI_iadd zi_235_89 <| yI_ialoadc (v := gI σ 179 ((w32 (x1 + x7)).toNat)) zi_235_90 za_179 rfl <| yI_iastorec zi_235_91 za_182 <| yI_aload_n zi_235_92 rfl <| yI_gf_f (v := 183) zi_235_93 zk_122 rfl <| yI_iload zi_235_96 rfl <| yI_aload_n zi_235_98 rfl <| yI_gf_f (v := 180) zi_235_99 zk_122 rfl <| yI_iload_n zi_235_102 rfl <| yI_iload zi_235_103 rfl <| yI_iadd zi_235_105 <| yI_ialoadc (v := gI σ 180 ((w32 (x1 + x7)).toNat)) zi_235_106 za_180 (yGI_nk (by decide)) <| yI_aload_n zi_235_107 rfl <| yI_gf_f (v := 180) zi_235_108 zk_122 rfl <| yI_iload_n zi_235_111 rfl <| yI_ialoadc (v := gI σ 180 x1.toNat) zi_235_112 za_180 (yGI_nk (by decide)) <| yI_isub zi_235_113 <| yI_iastorec zi_235_114 za_183 <| yI_aload_n zi_235_115 rfl <| yI_gf_f (v := 184) zi_235_116 zk_122 rfl <| yI_iload zi_235_119 rfl <| yI_aload_n zi_235_121 rfl <| yI_gf_f (v := 181) zi_235_122 zk_122 rfl <| yI_iload_n zi_235_125 rfl <| yI_iload zi_235_126 rfl <| yI_iadd zi_235_128 <| yI_laloadc (v := gL σ 181 ((w32 (x1 + x7)).toNat)) zi_235_129 za_181 rfl <| yI_lastorec zi_235_130 za_184 <| yI_iinc (l := [some (.inr (.inr 122)), some (.inl x1), some (.inr (.inl x2)), none, o4, some (.inl x5), some (.inl x6), some (.inl (w32 (x7 + 1))), o8, o9, o10]) zi_235_131 rfl rfl rfl <| yI_goto zi_235_134 <| rfl)
theorem zr_235_147 {K : List zF} {σ : zW} {o1 : Option zV} {x2 : Int64} {o4 : Option zV} {x5 : Int} {x6 : Int} {o7 : Option zV} {o8 : Option zV} {o9 : Option zV} {o10 : Option zV} (hK : K.length < 60) : zRet true ((235, 147, [some (.inr (.inr 122)), o1, some (.inr (.inl x2)), none, o4, some (.inl x5), some (.inl x6), o7, o8, o9, o10], []) :: K) none σ = (zEv true (zent 221 [.inr (.inr 122), .inl x6] :: (235, 153, [some (.inr (.inr 122)), o1, some (.inr (.inl x2)), none, o4, some (.inl x5), some (.inl x6), o7, o8, o9, o10], []) :: K) σ) :=
  yT_rv (yI_aload_n zi_235_147 rfl <| yI_iload zi_235_148 rfl <| yI_cv zi_235_150 rfl rfl zk_122 hK)
theorem zr_235_153 {K : List zF} {σ : zW} {o1 : Option zV} {x2 : Int64} {o4 : Option zV} {x5 : Int} {o6 : Option zV} {o7 : Option zV} {o8 : Option zV} {o9 : Option zV} {o10 : Option zV} {v : Int} (hK : K.length < 60) : zRet true ((235, 153, [some (.inr (.inr 122)), o1, some (.inr (.inl x2)), none, o4, some (.inl x5), o6, o7, o8, o9, o10], []) :: K) (some (.inl v)) σ = (zEv true (zent 233 [.inr (.inr 122), .inr (.inl x2), .inl v] :: (235, 162, [some (.inr (.inr 122)), o1, some (.inr (.inl x2)), none, o4, some (.inl x5), (zcut 0 o6), some (.inl v), o8, o9, o10], []) :: K) σ) :=
  yT_rt (yI_istore (l := [some (.inr (.inr 122)), o1, some (.inr (.inl x2)), none, o4, some (.inl x5), (zcut 0 o6), some (.inl v), o8, o9, o10]) zi_235_153 rfl rfl <| yI_aload_n zi_235_155 rfl <| yI_lload_n zi_235_156 rfl <| yI_iload zi_235_157 rfl <| yI_cv zi_235_159 rfl rfl zk_122 hK)
theorem zr_235_162 {K : List zF} {σ : zW} {o1 : Option zV} {x2 : Int64} {o4 : Option zV} {x5 : Int} {o6 : Option zV} {x7 : Int} {o8 : Option zV} {o9 : Option zV} {o10 : Option zV} {v : Int} (hK : K.length < 60) : zRet true ((235, 162, [some (.inr (.inr 122)), o1, some (.inr (.inl x2)), none, o4, some (.inl x5), o6, some (.inl x7), o8, o9, o10], []) :: K) (some (.inl v)) σ = (zEv true (zent 232 [.inr (.inr 122), .inr (.inl x2), .inl x7] :: (235, 171, [some (.inr (.inr 122)), o1, some (.inr (.inl x2)), none, o4, some (.inl x5), o6, some (.inl x7), some (.inl v), o9, o10], []) :: K) σ) :=
  yT_rt (yI_istore (l := [some (.inr (.inr 122)), o1, some (.inr (.inl x2)), none, o4, some (.inl x5), o6, some (.inl x7), some (.inl v), o9, o10]) zi_235_162 rfl rfl <| yI_aload_n zi_235_164 rfl <| yI_lload_n zi_235_165 rfl <| yI_iload zi_235_166 rfl <| yI_cv zi_235_168 rfl rfl zk_122 hK)
theorem zr_235_171 {K : List zF} {σ : zW} {o1 : Option zV} {o2 : Option zV} {o3 : Option zV} {o4 : Option zV} {x5 : Int} {o6 : Option zV} {o7 : Option zV} {x8 : Int} {o9 : Option zV} {o10 : Option zV} {v : Int} (hK : K.length < 60) : zRet true ((235, 171, [some (.inr (.inr 122)), o1, o2, o3, o4, some (.inl x5), o6, o7, some (.inl x8), o9, o10], []) :: K) (some (.inl v)) σ = (zEv true (zent 225 [.inr (.inr 122), .inl v, .inl (gI σ 122 81)] :: (235, 183, [some (.inr (.inr 122)), o1, o2, o3, o4, some (.inl x5), o6, o7, some (.inl x8), some (.inl v), o10], []) :: K) σ) :=
  yT_rt (yI_istore (l := [some (.inr (.inr 122)), o1, o2, o3, o4, some (.inl x5), o6, o7, some (.inl x8), some (.inl v), o10]) zi_235_171 rfl rfl <| yI_aload_n zi_235_173 rfl <| yI_iload zi_235_174 rfl <| yI_aload_n zi_235_176 rfl <| yI_gf_i (v := gI σ 122 81) zi_235_177 zk_122 rfl <| yI_cv zi_235_180 rfl rfl zk_122 hK)
theorem zr_235_183 {K : List zF} {σ : zW} {o1 : Option zV} {o2 : Option zV} {o3 : Option zV} {o4 : Option zV} {x5 : Int} {o6 : Option zV} {o7 : Option zV} {x8 : Int} {x9 : Int} {o10 : Option zV} : zRet true ((235, 183, [some (.inr (.inr 122)), o1, o2, o3, o4, some (.inl x5), o6, o7, some (.inl x8), some (.inl x9), o10], []) :: K) none σ = (zEv true ((235, 186, [some (.inr (.inr 122)), o1, o2, o3, o4, some (.inl x5), o6, o7, some (.inl x8), some (.inl x9), some (.inl 0)], []) :: K) σ) :=
  yT_rv (yI_iconst zi_235_183 <| yI_istore (l := [some (.inr (.inr 122)), o1, o2, o3, o4, some (.inl x5), o6, o7, some (.inl x8), some (.inl x9), some (.inl 0)]) zi_235_184 rfl rfl <| rfl)
theorem zj_235_186 {K : List zF} {σ : zW} {o1 : Option zV} {o2 : Option zV} {o3 : Option zV} {o4 : Option zV} {x5 : Int} {o6 : Option zV} {o7 : Option zV} {x8 : Int} {x9 : Int} {x10 : Int} (hK : K.length < 60) : zEv true ((235, 186, [some (.inr (.inr 122)), o1, o2, o3, o4, some (.inl x5), o6, o7, some (.inl x8), some (.inl x9), some (.inl x10)], []) :: K) σ = (if (gI σ 122 81) ≤ x10 then zEv true (zent 221 [.inr (.inr 122), .inl x5] :: (235, 262, [some (.inr (.inr 122)), o1, o2, o3, o4, some (.inl x5), o6, o7, some (.inl x8), some (.inl x9), some (.inl x10)], [.inr (.inr 122)]) :: K) σ else (0 ≤ x10 ∧ x10 < 24) ∧ ((0 ≤ (w32 (x9 + x10)) ∧ (w32 (x9 + x10)) < 24) ∧ ((0 ≤ x10 ∧ x10 < 24) ∧ ((0 ≤ (w32 (x9 + x10)) ∧ (w32 (x9 + x10)) < 24) ∧ ((0 ≤ x10 ∧ x10 < 24) ∧ ((0 ≤ (w32 (x9 + x10)) ∧ (w32 (x9 + x10)) < 24) ∧ zEv true ((235, 186, [some (.inr (.inr 122)), o1, o2, o3, o4, some (.inl x5), o6, o7, some (.inl x8), some (.inl x9), some (.inl (w32 (x10 + 1)))], []) :: K) (sL (sI (sI σ 179 ((w32 (x9 + x10)).toNat) (gI σ 182 x10.toNat)) 180 ((w32 (x9 + x10)).toNat) (w32 (x8 + (gI σ 183 x10.toNat)))) 181 ((w32 (x9 + x10)).toNat) (gL σ 184 x10.toNat)))))))) :=
  yI_iload zi_235_186 rfl <| yI_aload_n zi_235_188 rfl <| yI_gf_i (v := gI σ 122 81) zi_235_189 zk_122 rfl <| yI_ic_ge zi_235_192 <| yBr (yI_aload_n zi_235_255 rfl <| yI_aload_n zi_235_256 rfl <| yI_iload zi_235_257 rfl <| yI_cv zi_235_259 rfl rfl zk_122 hK) (yI_aload_n zi_235_195 rfl <| yI_gf_f (v := 179) zi_235_196 zk_122 rfl <| yI_iload zi_235_199 rfl <| yI_iload zi_235_201 rfl <| yI_iadd zi_235_203 <| yI_aload_n zi_235_204 rfl <| yI_gf_f (v := 182) zi_235_205 zk_122 rfl <| yI_iload zi_235_208 rfl <| yI_ialoadc (v := gI σ 182 x10.toNat) zi_235_210 za_182 rfl <| yI_iastorec zi_235_211 za_179 <| yI_aload_n zi_235_212 rfl <| yI_gf_f (v := 180) zi_235_213 zk_122 rfl <| yI_iload zi_235_216 rfl <| yI_iload zi_235_218 rfl <| yI_iadd zi_235_220 <| yI_iload zi_235_221 rfl <| yI_aload_n zi_235_223 rfl <| yI_gf_f (v := 183) zi_235_224 zk_122 rfl <| yI_iload zi_235_227 rfl <| yI_ialoadc (v := gI σ 183 x10.toNat) zi_235_229 za_183 (yGI_nk (by decide)) <| yI_iadd zi_235_230 <| yI_iastorec zi_235_231 za_180 <| yI_aload_n zi_235_232 rfl <| yI_gf_f (v := 181) zi_235_233 zk_122 rfl <| yI_iload zi_235_236 rfl <| yI_iload zi_235_238 rfl <| yI_iadd zi_235_240 <| yI_aload_n zi_235_241 rfl <| yI_gf_f (v := 184) zi_235_242 zk_122 rfl <| yI_iload zi_235_245 rfl <| yI_laloadc (v := gL σ 184 x10.toNat) zi_235_247 za_184 rfl <| yI_lastorec zi_235_248 za_181 <| yI_iinc (l := [some (.inr (.inr 122)), o1, o2, o3, o4, some (.inl x5), o6, o7, some (.inl x8), some (.inl x9), some (.inl (w32 (x10 + 1)))]) zi_235_249 rfl rfl rfl <| yI_goto zi_235_252 <| rfl)
theorem zr_235_262 {K : List zF} {σ : zW} {o0 : Option zV} {o1 : Option zV} {o2 : Option zV} {o3 : Option zV} {o4 : Option zV} {o5 : Option zV} {o6 : Option zV} {o7 : Option zV} {o8 : Option zV} {o9 : Option zV} {o10 : Option zV} {v : Int} (hK : K.length < 60) : zRet true ((235, 262, [o0, o1, o2, o3, o4, o5, o6, o7, o8, o9, o10], [.inr (.inr 122)]) :: K) (some (.inl v)) σ = (zEv true (zent 227 [.inr (.inr 122), .inl v] :: (235, 265, [o0, o1, o2, o3, o4, o5, o6, o7, o8, o9, o10], []) :: K) σ) :=
  yT_rt (yI_cv zi_235_262 rfl rfl zk_122 hK)
theorem zr_235_265 {K : List zF} {σ : zW} {o0 : Option zV} {o1 : Option zV} {o2 : Option zV} {o3 : Option zV} {o4 : Option zV} {o5 : Option zV} {o6 : Option zV} {o7 : Option zV} {o8 : Option zV} {o9 : Option zV} {o10 : Option zV} {v : Int} : zRet true ((235, 265, [o0, o1, o2, o3, o4, o5, o6, o7, o8, o9, o10], []) :: K) (some (.inl v)) σ = ((v = 0 ∨ v = 1) ∧ zRet true K (some (.inl v)) σ) :=
  yT_rt (yI_zreturnc zi_235_265)
/-- 236 TreegrabModel.bound(I)I -/
theorem zi_236_0 : zraw 236 0 = some (.iconst (-1), 1) ∧ zin 128 (-1) = true ∧ 0 + 1 = 1 := by decide +kernel
theorem zi_236_1 : zraw 236 1 = some (.istore_n 2, 1) ∧ 1 + 1 = 2 := by decide +kernel
theorem zi_236_2 : zraw 236 2 = some (.iconst 0, 1) ∧ zin 128 0 = true ∧ 2 + 1 = 3 := by decide +kernel
theorem zi_236_3 : zraw 236 3 = some (.istore_n 3, 1) ∧ 3 + 1 = 4 := by decide +kernel
theorem zi_236_4 : zraw 236 4 = some (.iload_n 3, 1) ∧ 4 + 1 = 5 := by decide +kernel
theorem zi_236_5 : zraw 236 5 = some (.aload_n 0, 1) ∧ 5 + 1 = 6 := by decide +kernel
theorem zi_236_6 : zraw 236 6 = some (.getfield 306, 3) ∧ zft (zinf 236).1 306 = some (10, 18, 0, false) ∧ 6 + 3 = 9 := by decide +kernel
theorem zi_236_9 : zraw 236 9 = some (.if_icmp .ge 40, 3) ∧ ((9 : Nat) : Int) + 40 = Int.ofNat 49 ∧ 9 + 3 = 12 := by decide +kernel
theorem zi_236_12 : zraw 236 12 = some (.aload_n 0, 1) ∧ 12 + 1 = 13 := by decide +kernel
theorem zi_236_13 : zraw 236 13 = some (.getfield 53, 3) ∧ zft (zinf 236).1 53 = some (10, 24, 3, true) ∧ 13 + 3 = 16 := by decide +kernel
theorem zi_236_16 : zraw 236 16 = some (.iload_n 3, 1) ∧ 16 + 1 = 17 := by decide +kernel
theorem zi_236_17 : zraw 236 17 = some (.iaload, 1) ∧ 17 + 1 = 18 := by decide +kernel
theorem zi_236_18 : zraw 236 18 = some (.iload_n 1, 1) ∧ 18 + 1 = 19 := by decide +kernel
theorem zi_236_19 : zraw 236 19 = some (.if_icmp .ne 22, 3) ∧ ((19 : Nat) : Int) + 22 = Int.ofNat 41 ∧ 19 + 3 = 22 := by decide +kernel
theorem zi_236_22 : zraw 236 22 = some (.aload_n 0, 1) ∧ 22 + 1 = 23 := by decide +kernel
theorem zi_236_23 : zraw 236 23 = some (.getfield 50, 3) ∧ zft (zinf 236).1 50 = some (10, 23, 3, true) ∧ 23 + 3 = 26 := by decide +kernel
theorem zi_236_26 : zraw 236 26 = some (.iload_n 3, 1) ∧ 26 + 1 = 27 := by decide +kernel
theorem zi_236_27 : zraw 236 27 = some (.iaload, 1) ∧ 27 + 1 = 28 := by decide +kernel
theorem zi_236_28 : zraw 236 28 = some (.iconst (-1), 1) ∧ zin 128 (-1) = true ∧ 28 + 1 = 29 := by decide +kernel
theorem zi_236_29 : zraw 236 29 = some (.if_icmp .eq 12, 3) ∧ ((29 : Nat) : Int) + 12 = Int.ofNat 41 ∧ 29 + 3 = 32 := by decide +kernel
theorem zi_236_32 : zraw 236 32 = some (.aload_n 0, 1) ∧ 32 + 1 = 33 := by decide +kernel
theorem zi_236_33 : zraw 236 33 = some (.getfield 169, 3) ∧ zft (zinf 236).1 169 = some (10, 70, 3, true) ∧ 33 + 3 = 36 := by decide +kernel
theorem zi_236_36 : zraw 236 36 = some (.iload_n 3, 1) ∧ 36 + 1 = 37 := by decide +kernel
theorem zi_236_37 : zraw 236 37 = some (.iaload, 1) ∧ 37 + 1 = 38 := by decide +kernel
theorem zi_236_38 : zraw 236 38 = some (.goto 4, 3) ∧ ((38 : Nat) : Int) + 4 = Int.ofNat 42 := by decide +kernel
theorem zi_236_41 : zraw 236 41 = some (.iload_n 2, 1) ∧ 41 + 1 = 42 := by decide +kernel
theorem zi_236_42 : zraw 236 42 = some (.istore_n 2, 1) ∧ 42 + 1 = 43 := by decide +kernel
theorem zi_236_43 : zraw 236 43 = some (.iinc 3 1, 3) ∧ zin 32768 1 = true ∧ 43 + 3 = 46 := by decide +kernel
theorem zi_236_46 : zraw 236 46 = some (.goto (-42), 3) ∧ ((46 : Nat) : Int) + (-42) = Int.ofNat 4 := by decide +kernel
theorem zi_236_49 : zraw 236 49 = some (.iload_n 2, 1) ∧ 49 + 1 = 50 := by decide +kernel
theorem zi_236_50 : zraw 236 50 = some (.ireturn, 1) ∧ (zinf 236).2.2.2.1 = 1 := by decide +kernel
theorem ze_236 {K : List zF} {σ : zW} {x1 : Int} : zEv true (zent 236 [.inr (.inr 122), .inl x1] :: K) σ = (zEv true ((236, 4, [some (.inr (.inr 122)), some (.inl x1), some (.inl (-1)), some (.inl 0)], []) :: K) σ) :=
  yT_en (f := (236, 0, [some (.inr (.inr 122)), some (.inl x1), none, none], [])) rfl (yI_iconst zi_236_0 <| yI_istore_n (l := [some (.inr (.inr 122)), some (.inl x1), some (.inl (-1)), none]) zi_236_1 rfl rfl <| yI_iconst zi_236_2 <| yI_istore_n (l := [some (.inr (.inr 122)), some (.inl x1), some (.inl (-1)), some (.inl 0)]) zi_236_3 rfl rfl <| rfl)
theorem zj_236_4 {K : List zF} {σ : zW} {x1 : Int} {x2 : Int} {x3 : Int} : zEv true ((236, 4, [some (.inr (.inr 122)), some (.inl x1), some (.inl x2), some (.inl x3)], []) :: K) σ = (if (gI σ 122 18) ≤ x3 then zRet true K (some (.inl x2)) σ else (0 ≤ x3 ∧ x3 < 8) ∧ (if ¬ (gI σ 137 x3.toNat) = x1 then zEv true ((236, 41, [some (.inr (.inr 122)), some (.inl x1), some (.inl x2), some (.inl x3)], []) :: K) σ else (0 ≤ x3 ∧ x3 < 8) ∧ (if (gI σ 136 x3.toNat) = (-1) then zEv true ((236, 41, [some (.inr (.inr 122)), some (.inl x1), some (.inl x2), some (.inl x3)], []) :: K) σ else (0 ≤ x3 ∧ x3 < 8) ∧ zEv true ((236, 4, [some (.inr (.inr 122)), some (.inl x1), some (.inl (gI σ 174 x3.toNat)), some (.inl (w32 (x3 + 1)))], []) :: K) σ))) :=
  yI_iload_n zi_236_4 rfl <| yI_aload_n zi_236_5 rfl <| yI_gf_i (v := gI σ 122 18) zi_236_6 zk_122 rfl <| yI_ic_ge zi_236_9 <| yBr (yI_iload_n zi_236_49 rfl <| yI_ireturn zi_236_50) (yI_aload_n zi_236_12 rfl <| yI_gf_f (v := 137) zi_236_13 zk_122 rfl <| yI_iload_n zi_236_16 rfl <| yI_ialoadc (v := gI σ 137 x3.toNat) zi_236_17 za_137 rfl <| yI_iload_n zi_236_18 rfl <| yI_ic_ne zi_236_19 <| yBr (rfl) (yI_aload_n zi_236_22 rfl <| yI_gf_f (v := 136) zi_236_23 zk_122 rfl <| yI_iload_n zi_236_26 rfl <| yI_ialoadc (v := gI σ 136 x3.toNat) zi_236_27 za_136 rfl <| yI_iconst zi_236_28 <| yI_ic_eq zi_236_29 <| yBr (rfl) (yI_aload_n zi_236_32 rfl <| yI_gf_f (v := 174) zi_236_33 zk_122 rfl <| yI_iload_n zi_236_36 rfl <| yI_ialoadc (v := gI σ 174 x3.toNat) zi_236_37 za_174 rfl <| yI_goto zi_236_38 <| yI_istore_n (l := [some (.inr (.inr 122)), some (.inl x1), some (.inl (gI σ 174 x3.toNat)), some (.inl x3)]) zi_236_42 rfl rfl <| yI_iinc (l := [some (.inr (.inr 122)), some (.inl x1), some (.inl (gI σ 174 x3.toNat)), some (.inl (w32 (x3 + 1)))]) zi_236_43 rfl rfl rfl <| yI_goto zi_236_46 <| rfl)))
theorem zj_236_41 {K : List zF} {σ : zW} {x1 : Int} {x2 : Int} {x3 : Int} : zEv true ((236, 41, [some (.inr (.inr 122)), some (.inl x1), some (.inl x2), some (.inl x3)], []) :: K) σ = (zEv true ((236, 4, [some (.inr (.inr 122)), some (.inl x1), some (.inl x2), some (.inl (w32 (x3 + 1)))], []) :: K) σ) :=
  yI_iload_n zi_236_41 rfl <| yI_istore_n (l := [some (.inr (.inr 122)), some (.inl x1), some (.inl x2), some (.inl x3)]) zi_236_42 rfl rfl <| yI_iinc (l := [some (.inr (.inr 122)), some (.inl x1), some (.inl x2), some (.inl (w32 (x3 + 1)))]) zi_236_43 rfl rfl rfl <| yI_goto zi_236_46 <| rfl
/-- 237 TreegrabModel.does(I)I -/
theorem zi_237_0 : zraw 237 0 = some (.aload_n 0, 1) ∧ 0 + 1 = 1 := by decide +kernel
theorem zi_237_1 : zraw 237 1 = some (.getfield 123, 3) ∧ zft (zinf 237).1 123 = some (10, 53, 3, true) ∧ 1 + 3 = 4 := by decide +kernel
theorem zi_237_4 : zraw 237 4 = some (.iload_n 1, 1) ∧ 4 + 1 = 5 := by decide +kernel
theorem zi_237_5 : zraw 237 5 = some (.laload, 1) ∧ 5 + 1 = 6 := by decide +kernel
theorem zi_237_6 : zraw 237 6 = some (.ldc2_w 323, 3) ∧ zlt (zinf 237).1 323 = some 6579297 ∧ 6 + 3 = 9 := by decide +kernel
theorem zi_237_9 : zraw 237 9 = some (.lcmp, 1) ∧ 9 + 1 = 10 := by decide +kernel
theorem zi_237_10 : zraw 237 10 = some (.ifCond .ne 7, 3) ∧ ((10 : Nat) : Int) + 7 = Int.ofNat 17 ∧ 10 + 3 = 13 := by decide +kernel
theorem zi_237_13 : zraw 237 13 = some (.iconst 0, 1) ∧ zin 128 0 = true ∧ 13 + 1 = 14 := by decide +kernel
theorem zi_237_14 : zraw 237 14 = some (.goto 13, 3) ∧ ((14 : Nat) : Int) + 13 = Int.ofNat 27 := by decide +kernel
theorem zi_237_17 : zraw 237 17 = some (.aload_n 0, 1) ∧ 17 + 1 = 18 := by decide +kernel
theorem zi_237_18 : zraw 237 18 = some (.aload_n 0, 1) ∧ 18 + 1 = 19 := by decide +kernel
theorem zi_237_19 : zraw 237 19 = some (.getfield 126, 3) ∧ zft (zinf 237).1 126 = some (10, 54, 3, true) ∧ 19 + 3 = 22 := by decide +kernel
theorem zi_237_22 : zraw 237 22 = some (.iload_n 1, 1) ∧ 22 + 1 = 23 := by decide +kernel
theorem zi_237_23 : zraw 237 23 = some (.iaload, 1) ∧ 23 + 1 = 24 := by decide +kernel
theorem zi_237_24 : zraw 237 24 = some (.invokevirtual 541, 3) ∧ zmt (zinf 237).1 541 = some 236 ∧ Nat.ble 9000 236 = false ∧ zinf 236 = (10, 2, 4, 1, 0) ∧ 24 + 3 = 27 := by decide +kernel
theorem zi_237_27 : zraw 237 27 = some (.istore_n 2, 1) ∧ 27 + 1 = 28 := by decide +kernel
theorem zi_237_28 : zraw 237 28 = some (.aload_n 0, 1) ∧ 28 + 1 = 29 := by decide +kernel
theorem zi_237_29 : zraw 237 29 = some (.getfield 123, 3) ∧ zft (zinf 237).1 123 = some (10, 53, 3, true) ∧ 29 + 3 = 32 := by decide +kernel
theorem zi_237_32 : zraw 237 32 = some (.iload_n 1, 1) ∧ 32 + 1 = 33 := by decide +kernel
theorem zi_237_33 : zraw 237 33 = some (.laload, 1) ∧ 33 + 1 = 34 := by decide +kernel
theorem zi_237_34 : zraw 237 34 = some (.ldc2_w 323, 3) ∧ zlt (zinf 237).1 323 = some 6579297 ∧ 34 + 3 = 37 := by decide +kernel
theorem zi_237_37 : zraw 237 37 = some (.lcmp, 1) ∧ 37 + 1 = 38 := by decide +kernel
theorem zi_237_38 : zraw 237 38 = some (.ifCond .eq 16, 3) ∧ ((38 : Nat) : Int) + 16 = Int.ofNat 54 ∧ 38 + 3 = 41 := by decide +kernel
theorem zi_237_41 : zraw 237 41 = some (.aload_n 0, 1) ∧ 41 + 1 = 42 := by decide +kernel
theorem zi_237_42 : zraw 237 42 = some (.getfield 123, 3) ∧ zft (zinf 237).1 123 = some (10, 53, 3, true) ∧ 42 + 3 = 45 := by decide +kernel
theorem zi_237_45 : zraw 237 45 = some (.iload_n 1, 1) ∧ 45 + 1 = 46 := by decide +kernel
theorem zi_237_46 : zraw 237 46 = some (.laload, 1) ∧ 46 + 1 = 47 := by decide +kernel
theorem zi_237_47 : zraw 237 47 = some (.ldc2_w 325, 3) ∧ zlt (zinf 237).1 325 = some 1702260589 ∧ 47 + 3 = 50 := by decide +kernel
theorem zi_237_50 : zraw 237 50 = some (.lcmp, 1) ∧ 50 + 1 = 51 := by decide +kernel
theorem zi_237_51 : zraw 237 51 = some (.ifCond .ne 16, 3) ∧ ((51 : Nat) : Int) + 16 = Int.ofNat 67 ∧ 51 + 3 = 54 := by decide +kernel
theorem zi_237_54 : zraw 237 54 = some (.aload_n 0, 1) ∧ 54 + 1 = 55 := by decide +kernel
theorem zi_237_55 : zraw 237 55 = some (.aload_n 0, 1) ∧ 55 + 1 = 56 := by decide +kernel
theorem zi_237_56 : zraw 237 56 = some (.getfield 129, 3) ∧ zft (zinf 237).1 129 = some (10, 55, 3, true) ∧ 56 + 3 = 59 := by decide +kernel
theorem zi_237_59 : zraw 237 59 = some (.iload_n 1, 1) ∧ 59 + 1 = 60 := by decide +kernel
theorem zi_237_60 : zraw 237 60 = some (.iaload, 1) ∧ 60 + 1 = 61 := by decide +kernel
theorem zi_237_61 : zraw 237 61 = some (.invokevirtual 541, 3) ∧ zmt (zinf 237).1 541 = some 236 ∧ Nat.ble 9000 236 = false ∧ zinf 236 = (10, 2, 4, 1, 0) ∧ 61 + 3 = 64 := by decide +kernel
theorem zi_237_64 : zraw 237 64 = some (.goto 4, 3) ∧ ((64 : Nat) : Int) + 4 = Int.ofNat 68 := by decide +kernel
theorem zi_237_67 : zraw 237 67 = some (.iconst 0, 1) ∧ zin 128 0 = true ∧ 67 + 1 = 68 := by decide +kernel
theorem zi_237_68 : zraw 237 68 = some (.istore_n 3, 1) ∧ 68 + 1 = 69 := by decide +kernel
theorem zi_237_69 : zraw 237 69 = some (.iload_n 2, 1) ∧ 69 + 1 = 70 := by decide +kernel
theorem zi_237_70 : zraw 237 70 = some (.iconst (-1), 1) ∧ zin 128 (-1) = true ∧ 70 + 1 = 71 := by decide +kernel
theorem zi_237_71 : zraw 237 71 = some (.if_icmp .eq 8, 3) ∧ ((71 : Nat) : Int) + 8 = Int.ofNat 79 ∧ 71 + 3 = 74 := by decide +kernel
theorem zi_237_74 : zraw 237 74 = some (.iload_n 3, 1) ∧ 74 + 1 = 75 := by decide +kernel
theorem zi_237_75 : zraw 237 75 = some (.iconst (-1), 1) ∧ zin 128 (-1) = true ∧ 75 + 1 = 76 := by decide +kernel
theorem zi_237_76 : zraw 237 76 = some (.if_icmp .ne 5, 3) ∧ ((76 : Nat) : Int) + 5 = Int.ofNat 81 ∧ 76 + 3 = 79 := by decide +kernel
theorem zi_237_79 : zraw 237 79 = some (.iconst 0, 1) ∧ zin 128 0 = true ∧ 79 + 1 = 80 := by decide +kernel
theorem zi_237_80 : zraw 237 80 = some (.ireturn, 1) ∧ (zinf 237).2.2.2.1 = 1 := by decide +kernel
theorem zi_237_81 : zraw 237 81 = some (.aload_n 0, 1) ∧ 81 + 1 = 82 := by decide +kernel
theorem zi_237_82 : zraw 237 82 = some (.getfield 123, 3) ∧ zft (zinf 237).1 123 = some (10, 53, 3, true) ∧ 82 + 3 = 85 := by decide +kernel
theorem zi_237_85 : zraw 237 85 = some (.iload_n 1, 1) ∧ 85 + 1 = 86 := by decide +kernel
theorem zi_237_86 : zraw 237 86 = some (.laload, 1) ∧ 86 + 1 = 87 := by decide +kernel
theorem zi_237_87 : zraw 237 87 = some (.ldc2_w 323, 3) ∧ zlt (zinf 237).1 323 = some 6579297 ∧ 87 + 3 = 90 := by decide +kernel
theorem zi_237_90 : zraw 237 90 = some (.lcmp, 1) ∧ 90 + 1 = 91 := by decide +kernel
theorem zi_237_91 : zraw 237 91 = some (.ifCond .ne 7, 3) ∧ ((91 : Nat) : Int) + 7 = Int.ofNat 98 ∧ 91 + 3 = 94 := by decide +kernel
theorem zi_237_94 : zraw 237 94 = some (.iconst 0, 1) ∧ zin 128 0 = true ∧ 94 + 1 = 95 := by decide +kernel
theorem zi_237_95 : zraw 237 95 = some (.goto 8, 3) ∧ ((95 : Nat) : Int) + 8 = Int.ofNat 103 := by decide +kernel
theorem zi_237_98 : zraw 237 98 = some (.aload_n 0, 1) ∧ 98 + 1 = 99 := by decide +kernel
theorem zi_237_99 : zraw 237 99 = some (.iload_n 2, 1) ∧ 99 + 1 = 100 := by decide +kernel
theorem zi_237_100 : zraw 237 100 = some (.invokevirtual 538, 3) ∧ zmt (zinf 237).1 538 = some 221 ∧ Nat.ble 9000 221 = false ∧ zinf 221 = (10, 2, 4, 1, 0) ∧ 100 + 3 = 103 := by decide +kernel
theorem zi_237_103 : zraw 237 103 = some (.istore 4, 2) ∧ 103 + 2 = 105 := by decide +kernel
theorem zi_237_105 : zraw 237 105 = some (.aload_n 0, 1) ∧ 105 + 1 = 106 := by decide +kernel
theorem zi_237_106 : zraw 237 106 = some (.getfield 123, 3) ∧ zft (zinf 237).1 123 = some (10, 53, 3, true) ∧ 106 + 3 = 109 := by decide +kernel
theorem zi_237_109 : zraw 237 109 = some (.iload_n 1, 1) ∧ 109 + 1 = 110 := by decide +kernel
theorem zi_237_110 : zraw 237 110 = some (.laload, 1) ∧ 110 + 1 = 111 := by decide +kernel
theorem zi_237_111 : zraw 237 111 = some (.ldc2_w 323, 3) ∧ zlt (zinf 237).1 323 = some 6579297 ∧ 111 + 3 = 114 := by decide +kernel
theorem zi_237_114 : zraw 237 114 = some (.lcmp, 1) ∧ 114 + 1 = 115 := by decide +kernel
theorem zi_237_115 : zraw 237 115 = some (.ifCond .eq 16, 3) ∧ ((115 : Nat) : Int) + 16 = Int.ofNat 131 ∧ 115 + 3 = 118 := by decide +kernel
theorem zi_237_118 : zraw 237 118 = some (.aload_n 0, 1) ∧ 118 + 1 = 119 := by decide +kernel
theorem zi_237_119 : zraw 237 119 = some (.getfield 123, 3) ∧ zft (zinf 237).1 123 = some (10, 53, 3, true) ∧ 119 + 3 = 122 := by decide +kernel
theorem zi_237_122 : zraw 237 122 = some (.iload_n 1, 1) ∧ 122 + 1 = 123 := by decide +kernel
theorem zi_237_123 : zraw 237 123 = some (.laload, 1) ∧ 123 + 1 = 124 := by decide +kernel
theorem zi_237_124 : zraw 237 124 = some (.ldc2_w 325, 3) ∧ zlt (zinf 237).1 325 = some 1702260589 ∧ 124 + 3 = 127 := by decide +kernel
theorem zi_237_127 : zraw 237 127 = some (.lcmp, 1) ∧ 127 + 1 = 128 := by decide +kernel
theorem zi_237_128 : zraw 237 128 = some (.ifCond .ne 11, 3) ∧ ((128 : Nat) : Int) + 11 = Int.ofNat 139 ∧ 128 + 3 = 131 := by decide +kernel
theorem zi_237_131 : zraw 237 131 = some (.aload_n 0, 1) ∧ 131 + 1 = 132 := by decide +kernel
theorem zi_237_132 : zraw 237 132 = some (.iload_n 3, 1) ∧ 132 + 1 = 133 := by decide +kernel
theorem zi_237_133 : zraw 237 133 = some (.invokevirtual 538, 3) ∧ zmt (zinf 237).1 538 = some 221 ∧ Nat.ble 9000 221 = false ∧ zinf 221 = (10, 2, 4, 1, 0) ∧ 133 + 3 = 136 := by decide +kernel
theorem zi_237_136 : zraw 237 136 = some (.goto 4, 3) ∧ ((136 : Nat) : Int) + 4 = Int.ofNat 140 := by decide +kernel
theorem zi_237_139 : zraw 237 139 = some (.iconst 0, 1) ∧ zin 128 0 = true ∧ 139 + 1 = 140 := by decide +kernel
theorem zi_237_140 : zraw 237 140 = some (.istore 5, 2) ∧ 140 + 2 = 142 := by decide +kernel
theorem zi_237_142 : zraw 237 142 = some (.iload 4, 2) ∧ 142 + 2 = 144 := by decide +kernel
theorem zi_237_144 : zraw 237 144 = some (.iconst (-1), 1) ∧ zin 128 (-1) = true ∧ 144 + 1 = 145 := by decide +kernel
theorem zi_237_145 : zraw 237 145 = some (.if_icmp .eq 9, 3) ∧ ((145 : Nat) : Int) + 9 = Int.ofNat 154 ∧ 145 + 3 = 148 := by decide +kernel
theorem zi_237_148 : zraw 237 148 = some (.iload 5, 2) ∧ 148 + 2 = 150 := by decide +kernel
theorem zi_237_150 : zraw 237 150 = some (.iconst (-1), 1) ∧ zin 128 (-1) = true ∧ 150 + 1 = 151 := by decide +kernel
theorem zi_237_151 : zraw 237 151 = some (.if_icmp .ne 5, 3) ∧ ((151 : Nat) : Int) + 5 = Int.ofNat 156 ∧ 151 + 3 = 154 := by decide +kernel
theorem zi_237_154 : zraw 237 154 = some (.iconst 2, 1) ∧ zin 128 2 = true ∧ 154 + 1 = 155 := by decide +kernel
theorem zi_237_155 : zraw 237 155 = some (.ireturn, 1) ∧ (zinf 237).2.2.2.1 = 1 := by decide +kernel
theorem zi_237_156 : zraw 237 156 = some (.iconst 1, 1) ∧ zin 128 1 = true ∧ 156 + 1 = 157 := by decide +kernel
theorem zi_237_157 : zraw 237 157 = some (.istore 6, 2) ∧ 157 + 2 = 159 := by decide +kernel
theorem zi_237_159 : zraw 237 159 = some (.aload_n 0, 1) ∧ 159 + 1 = 160 := by decide +kernel
theorem zi_237_160 : zraw 237 160 = some (.getfield 123, 3) ∧ zft (zinf 237).1 123 = some (10, 53, 3, true) ∧ 160 + 3 = 163 := by decide +kernel
theorem zi_237_163 : zraw 237 163 = some (.iload_n 1, 1) ∧ 163 + 1 = 164 := by decide +kernel
theorem zi_237_164 : zraw 237 164 = some (.laload, 1) ∧ 164 + 1 = 165 := by decide +kernel
theorem zi_237_165 : zraw 237 165 = some (.ldc2_w 315, 3) ∧ zlt (zinf 237).1 315 = some 111520460465522 ∧ 165 + 3 = 168 := by decide +kernel
theorem zi_237_168 : zraw 237 168 = some (.lcmp, 1) ∧ 168 + 1 = 169 := by decide +kernel
theorem zi_237_169 : zraw 237 169 = some (.ifCond .ne 19, 3) ∧ ((169 : Nat) : Int) + 19 = Int.ofNat 188 ∧ 169 + 3 = 172 := by decide +kernel
theorem zi_237_172 : zraw 237 172 = some (.aload_n 0, 1) ∧ 172 + 1 = 173 := by decide +kernel
theorem zi_237_173 : zraw 237 173 = some (.getfield 190, 3) ∧ zft (zinf 237).1 190 = some (10, 80, 3, true) ∧ 173 + 3 = 176 := by decide +kernel
theorem zi_237_176 : zraw 237 176 = some (.iload 4, 2) ∧ 176 + 2 = 178 := by decide +kernel
theorem zi_237_178 : zraw 237 178 = some (.aload_n 0, 1) ∧ 178 + 1 = 179 := by decide +kernel
theorem zi_237_179 : zraw 237 179 = some (.getfield 132, 3) ∧ zft (zinf 237).1 132 = some (10, 56, 3, true) ∧ 179 + 3 = 182 := by decide +kernel
theorem zi_237_182 : zraw 237 182 = some (.iload_n 1, 1) ∧ 182 + 1 = 183 := by decide +kernel
theorem zi_237_183 : zraw 237 183 = some (.laload, 1) ∧ 183 + 1 = 184 := by decide +kernel
theorem zi_237_184 : zraw 237 184 = some (.lastore, 1) ∧ 184 + 1 = 185 := by decide +kernel
theorem zi_237_185 : zraw 237 185 = some (.goto 129, 3) ∧ ((185 : Nat) : Int) + 129 = Int.ofNat 314 := by decide +kernel
theorem zi_237_188 : zraw 237 188 = some (.aload_n 0, 1) ∧ 188 + 1 = 189 := by decide +kernel
theorem zi_237_189 : zraw 237 189 = some (.getfield 123, 3) ∧ zft (zinf 237).1 123 = some (10, 53, 3, true) ∧ 189 + 3 = 192 := by decide +kernel
theorem zi_237_192 : zraw 237 192 = some (.iload_n 1, 1) ∧ 192 + 1 = 193 := by decide +kernel
theorem zi_237_193 : zraw 237 193 = some (.laload, 1) ∧ 193 + 1 = 194 := by decide +kernel
theorem zi_237_194 : zraw 237 194 = some (.ldc2_w 321, 3) ∧ zlt (zinf 237).1 321 = some 1885434487 ∧ 194 + 3 = 197 := by decide +kernel
theorem zi_237_197 : zraw 237 197 = some (.lcmp, 1) ∧ 197 + 1 = 198 := by decide +kernel
theorem zi_237_198 : zraw 237 198 = some (.ifCond .ne 20, 3) ∧ ((198 : Nat) : Int) + 20 = Int.ofNat 218 ∧ 198 + 3 = 201 := by decide +kernel
theorem zi_237_201 : zraw 237 201 = some (.aload_n 0, 1) ∧ 201 + 1 = 202 := by decide +kernel
theorem zi_237_202 : zraw 237 202 = some (.iload 4, 2) ∧ 202 + 2 = 204 := by decide +kernel
theorem zi_237_204 : zraw 237 204 = some (.aload_n 0, 1) ∧ 204 + 1 = 205 := by decide +kernel
theorem zi_237_205 : zraw 237 205 = some (.getfield 132, 3) ∧ zft (zinf 237).1 132 = some (10, 56, 3, true) ∧ 205 + 3 = 208 := by decide +kernel
theorem zi_237_208 : zraw 237 208 = some (.iload_n 1, 1) ∧ 208 + 1 = 209 := by decide +kernel
theorem zi_237_209 : zraw 237 209 = some (.laload, 1) ∧ 209 + 1 = 210 := by decide +kernel
theorem zi_237_210 : zraw 237 210 = some (.invokevirtual 544, 3) ∧ zmt (zinf 237).1 544 = some 230 ∧ Nat.ble 9000 230 = false ∧ zinf 230 = (10, 3, 7, 2, 0) ∧ 210 + 3 = 213 := by decide +kernel
theorem zi_237_213 : zraw 237 213 = some (.istore 6, 2) ∧ 213 + 2 = 215 := by decide +kernel
theorem zi_237_215 : zraw 237 215 = some (.goto 99, 3) ∧ ((215 : Nat) : Int) + 99 = Int.ofNat 314 := by decide +kernel
theorem zi_237_218 : zraw 237 218 = some (.aload_n 0, 1) ∧ 218 + 1 = 219 := by decide +kernel
theorem zi_237_219 : zraw 237 219 = some (.getfield 123, 3) ∧ zft (zinf 237).1 123 = some (10, 53, 3, true) ∧ 219 + 3 = 222 := by decide +kernel
theorem zi_237_222 : zraw 237 222 = some (.iload_n 1, 1) ∧ 222 + 1 = 223 := by decide +kernel
theorem zi_237_223 : zraw 237 223 = some (.laload, 1) ∧ 223 + 1 = 224 := by decide +kernel
theorem zi_237_224 : zraw 237 224 = some (.ldc2_w 323, 3) ∧ zlt (zinf 237).1 323 = some 6579297 ∧ 224 + 3 = 227 := by decide +kernel
theorem zi_237_227 : zraw 237 227 = some (.lcmp, 1) ∧ 227 + 1 = 228 := by decide +kernel
theorem zi_237_228 : zraw 237 228 = some (.ifCond .ne 26, 3) ∧ ((228 : Nat) : Int) + 26 = Int.ofNat 254 ∧ 228 + 3 = 231 := by decide +kernel
theorem zi_237_231 : zraw 237 231 = some (.aload_n 0, 1) ∧ 231 + 1 = 232 := by decide +kernel
theorem zi_237_232 : zraw 237 232 = some (.aload_n 0, 1) ∧ 232 + 1 = 233 := by decide +kernel
theorem zi_237_233 : zraw 237 233 = some (.getfield 132, 3) ∧ zft (zinf 237).1 132 = some (10, 56, 3, true) ∧ 233 + 3 = 236 := by decide +kernel
theorem zi_237_236 : zraw 237 236 = some (.iload_n 1, 1) ∧ 236 + 1 = 237 := by decide +kernel
theorem zi_237_237 : zraw 237 237 = some (.laload, 1) ∧ 237 + 1 = 238 := by decide +kernel
theorem zi_237_238 : zraw 237 238 = some (.aload_n 0, 1) ∧ 238 + 1 = 239 := by decide +kernel
theorem zi_237_239 : zraw 237 239 = some (.getfield 135, 3) ∧ zft (zinf 237).1 135 = some (10, 57, 3, true) ∧ 239 + 3 = 242 := by decide +kernel
theorem zi_237_242 : zraw 237 242 = some (.iload_n 1, 1) ∧ 242 + 1 = 243 := by decide +kernel
theorem zi_237_243 : zraw 237 243 = some (.laload, 1) ∧ 243 + 1 = 244 := by decide +kernel
theorem zi_237_244 : zraw 237 244 = some (.iload 5, 2) ∧ 244 + 2 = 246 := by decide +kernel
theorem zi_237_246 : zraw 237 246 = some (.invokevirtual 547, 3) ∧ zmt (zinf 237).1 547 = some 234 ∧ Nat.ble 9000 234 = false ∧ zinf 234 = (10, 4, 6, 2, 0) ∧ 246 + 3 = 249 := by decide +kernel
theorem zi_237_249 : zraw 237 249 = some (.istore 6, 2) ∧ 249 + 2 = 251 := by decide +kernel
theorem zi_237_251 : zraw 237 251 = some (.goto 63, 3) ∧ ((251 : Nat) : Int) + 63 = Int.ofNat 314 := by decide +kernel
theorem zi_237_254 : zraw 237 254 = some (.aload_n 0, 1) ∧ 254 + 1 = 255 := by decide +kernel
theorem zi_237_255 : zraw 237 255 = some (.getfield 123, 3) ∧ zft (zinf 237).1 123 = some (10, 53, 3, true) ∧ 255 + 3 = 258 := by decide +kernel
theorem zi_237_258 : zraw 237 258 = some (.iload_n 1, 1) ∧ 258 + 1 = 259 := by decide +kernel
theorem zi_237_259 : zraw 237 259 = some (.laload, 1) ∧ 259 + 1 = 260 := by decide +kernel
theorem zi_237_260 : zraw 237 260 = some (.ldc2_w 317, 3) ∧ zlt (zinf 237).1 317 = some 111550592214372 ∧ 260 + 3 = 263 := by decide +kernel
theorem zi_237_263 : zraw 237 263 = some (.lcmp, 1) ∧ 263 + 1 = 264 := by decide +kernel
theorem zi_237_264 : zraw 237 264 = some (.ifCond .ne 12, 3) ∧ ((264 : Nat) : Int) + 12 = Int.ofNat 276 ∧ 264 + 3 = 267 := by decide +kernel
theorem zi_237_267 : zraw 237 267 = some (.aload_n 0, 1) ∧ 267 + 1 = 268 := by decide +kernel
theorem zi_237_268 : zraw 237 268 = some (.iload 4, 2) ∧ 268 + 2 = 270 := by decide +kernel
theorem zi_237_270 : zraw 237 270 = some (.invokevirtual 551, 3) ∧ zmt (zinf 237).1 551 = some 228 ∧ Nat.ble 9000 228 = false ∧ zinf 228 = (10, 2, 3, 2, 0) ∧ 270 + 3 = 273 := by decide +kernel
theorem zi_237_273 : zraw 237 273 = some (.goto 39, 3) ∧ ((273 : Nat) : Int) + 39 = Int.ofNat 312 := by decide +kernel
theorem zi_237_276 : zraw 237 276 = some (.aload_n 0, 1) ∧ 276 + 1 = 277 := by decide +kernel
theorem zi_237_277 : zraw 237 277 = some (.getfield 123, 3) ∧ zft (zinf 237).1 123 = some (10, 53, 3, true) ∧ 277 + 3 = 280 := by decide +kernel
theorem zi_237_280 : zraw 237 280 = some (.iload_n 1, 1) ∧ 280 + 1 = 281 := by decide +kernel
theorem zi_237_281 : zraw 237 281 = some (.laload, 1) ∧ 281 + 1 = 282 := by decide +kernel
theorem zi_237_282 : zraw 237 282 = some (.ldc2_w 319, 3) ∧ zlt (zinf 237).1 319 = some 111546363770981 ∧ 282 + 3 = 285 := by decide +kernel
theorem zi_237_285 : zraw 237 285 = some (.lcmp, 1) ∧ 285 + 1 = 286 := by decide +kernel
theorem zi_237_286 : zraw 237 286 = some (.ifCond .ne 12, 3) ∧ ((286 : Nat) : Int) + 12 = Int.ofNat 298 ∧ 286 + 3 = 289 := by decide +kernel
theorem zi_237_289 : zraw 237 289 = some (.aload_n 0, 1) ∧ 289 + 1 = 290 := by decide +kernel
theorem zi_237_290 : zraw 237 290 = some (.iload 4, 2) ∧ 290 + 2 = 292 := by decide +kernel
theorem zi_237_292 : zraw 237 292 = some (.invokevirtual 554, 3) ∧ zmt (zinf 237).1 554 = some 229 ∧ Nat.ble 9000 229 = false ∧ zinf 229 = (10, 2, 5, 2, 0) ∧ 292 + 3 = 295 := by decide +kernel
theorem zi_237_295 : zraw 237 295 = some (.goto 17, 3) ∧ ((295 : Nat) : Int) + 17 = Int.ofNat 312 := by decide +kernel
theorem zi_237_298 : zraw 237 298 = some (.aload_n 0, 1) ∧ 298 + 1 = 299 := by decide +kernel
theorem zi_237_299 : zraw 237 299 = some (.iload 4, 2) ∧ 299 + 2 = 301 := by decide +kernel
theorem zi_237_301 : zraw 237 301 = some (.aload_n 0, 1) ∧ 301 + 1 = 302 := by decide +kernel
theorem zi_237_302 : zraw 237 302 = some (.getfield 135, 3) ∧ zft (zinf 237).1 135 = some (10, 57, 3, true) ∧ 302 + 3 = 305 := by decide +kernel
theorem zi_237_305 : zraw 237 305 = some (.iload_n 1, 1) ∧ 305 + 1 = 306 := by decide +kernel
theorem zi_237_306 : zraw 237 306 = some (.laload, 1) ∧ 306 + 1 = 307 := by decide +kernel
theorem zi_237_307 : zraw 237 307 = some (.iload 5, 2) ∧ 307 + 2 = 309 := by decide +kernel
theorem zi_237_309 : zraw 237 309 = some (.invokevirtual 557, 3) ∧ zmt (zinf 237).1 557 = some 235 ∧ Nat.ble 9000 235 = false ∧ zinf 235 = (10, 4, 11, 2, 0) ∧ 309 + 3 = 312 := by decide +kernel
theorem zi_237_312 : zraw 237 312 = some (.istore 6, 2) ∧ 312 + 2 = 314 := by decide +kernel
theorem zi_237_314 : zraw 237 314 = some (.iload 6, 2) ∧ 314 + 2 = 316 := by decide +kernel
theorem zi_237_316 : zraw 237 316 = some (.ifCond .eq 7, 3) ∧ ((316 : Nat) : Int) + 7 = Int.ofNat 323 ∧ 316 + 3 = 319 := by decide +kernel
theorem zi_237_319 : zraw 237 319 = some (.iconst 1, 1) ∧ zin 128 1 = true ∧ 319 + 1 = 320 := by decide +kernel
theorem zi_237_320 : zraw 237 320 = some (.goto 4, 3) ∧ ((320 : Nat) : Int) + 4 = Int.ofNat 324 := by decide +kernel
theorem zi_237_323 : zraw 237 323 = some (.iconst 2, 1) ∧ zin 128 2 = true ∧ 323 + 1 = 324 := by decide +kernel
theorem zi_237_324 : zraw 237 324 = some (.ireturn, 1) ∧ (zinf 237).2.2.2.1 = 1 := by decide +kernel
theorem ze_237 {K : List zF} {σ : zW} {x1 : Int} (hK : K.length < 60) : zEv true (zent 237 [.inr (.inr 122), .inl x1] :: K) σ = ((0 ≤ x1 ∧ x1 < 8) ∧ (if ¬ (zlc (gL σ 160 x1.toNat) 6579297) = 0 then (0 ≤ x1 ∧ x1 < 8) ∧ zEv true (zent 236 [.inr (.inr 122), .inl (gI σ 161 x1.toNat)] :: (237, 27, [some (.inr (.inr 122)), some (.inl x1), none, none, none, none, none], []) :: K) σ else (0 ≤ x1 ∧ x1 < 8) ∧ (if (zlc (gL σ 160 x1.toNat) 6579297) = 0 then zEv true ((237, 54, [some (.inr (.inr 122)), some (.inl x1), some (.inl 0), none, none, none, none], []) :: K) σ else (0 ≤ x1 ∧ x1 < 8) ∧ (if ¬ (zlc (gL σ 160 x1.toNat) 1702260589) = 0 then if (0 : Int) = (-1) then zRet true K (some (.inl 0)) σ else if ¬ (0 : Int) = (-1) then (0 ≤ x1 ∧ x1 < 8) ∧ (if ¬ (zlc (gL σ 160 x1.toNat) 6579297) = 0 then zEv true (zent 221 [.inr (.inr 122), .inl 0] :: (237, 103, [some (.inr (.inr 122)), some (.inl x1), some (.inl 0), some (.inl 0), none, none, none], []) :: K) σ else (0 ≤ x1 ∧ x1 < 8) ∧ (if (zlc (gL σ 160 x1.toNat) 6579297) = 0 then zEv true ((237, 131, [some (.inr (.inr 122)), some (.inl x1), some (.inl 0), some (.inl 0), some (.inl 0), none, none], []) :: K) σ else (0 ≤ x1 ∧ x1 < 8) ∧ (if ¬ (zlc (gL σ 160 x1.toNat) 1702260589) = 0 then if (0 : Int) = (-1) then zRet true K (some (.inl 2)) σ else if ¬ (0 : Int) = (-1) then (0 ≤ x1 ∧ x1 < 8) ∧ (if ¬ (zlc (gL σ 160 x1.toNat) 111520460465522) = 0 then (0 ≤ x1 ∧ x1 < 8) ∧ (if ¬ (zlc (gL σ 160 x1.toNat) 1885434487) = 0 then (0 ≤ x1 ∧ x1 < 8) ∧ (if ¬ (zlc (gL σ 160 x1.toNat) 6579297) = 0 then (0 ≤ x1 ∧ x1 < 8) ∧ (if ¬ (zlc (gL σ 160 x1.toNat) 111550592214372) = 0 then (0 ≤ x1 ∧ x1 < 8) ∧ (if ¬ (zlc (gL σ 160 x1.toNat) 111546363770981) = 0 then (0 ≤ x1 ∧ x1 < 8) ∧ zEv true (zent 235 [.inr (.inr 122), .inl 0, .inr (.inl (gL σ 164 x1.toNat)), .inl 0] :: (237, 312, [some (.inr (.inr 122)), some (.inl x1), some (.inl 0), some (.inl 0), some (.inl 0), some (.inl 0), some (.inl 1)], []) :: K) σ else zEv true (zent 229 [.inr (.inr 122), .inl 0] :: (237, 295, [some (.inr (.inr 122)), some (.inl x1), some (.inl 0), some (.inl 0), some (.inl 0), some (.inl 0), some (.inl 1)], []) :: K) σ) else zEv true (zent 228 [.inr (.inr 122), .inl 0] :: (237, 273, [some (.inr (.inr 122)), some (.inl x1), some (.inl 0), some (.inl 0), some (.inl 0), some (.inl 0), some (.inl 1)], []) :: K) σ) else (0 ≤ x1 ∧ x1 < 8) ∧ ((0 ≤ x1 ∧ x1 < 8) ∧ zEv true (zent 234 [.inr (.inr 122), .inr (.inl (gL σ 163 x1.toNat)), .inr (.inl (gL σ 164 x1.toNat)), .inl 0] :: (237, 249, [some (.inr (.inr 122)), some (.inl x1), some (.inl 0), some (.inl 0), some (.inl 0), some (.inl 0), some (.inl 1)], []) :: K) σ)) else (0 ≤ x1 ∧ x1 < 8) ∧ zEv true (zent 230 [.inr (.inr 122), .inl 0, .inr (.inl (gL σ 163 x1.toNat))] :: (237, 213, [some (.inr (.inr 122)), some (.inl x1), some (.inl 0), some (.inl 0), some (.inl 0), some (.inl 0), some (.inl 1)], []) :: K) σ) else (0 ≤ x1 ∧ x1 < 8) ∧ zEv true ((237, 314, [some (.inr (.inr 122)), some (.inl x1), some (.inl 0), some (.inl 0), some (.inl 0), some (.inl 0), some (.inl 1)], []) :: K) (sL σ 181 0 (gL σ 163 x1.toNat))) else zRet true K (some (.inl 2)) σ else zEv true ((237, 131, [some (.inr (.inr 122)), some (.inl x1), some (.inl 0), some (.inl 0), some (.inl 0), none, none], []) :: K) σ))) else zRet true K (some (.inl 0)) σ else zEv true ((237, 54, [some (.inr (.inr 122)), some (.inl x1), some (.inl 0), none, none, none, none], []) :: K) σ)))) :=
  yT_en (f := (237, 0, [some (.inr (.inr 122)), some (.inl x1), none, none, none, none, none], [])) rfl (yI_aload_n zi_237_0 rfl <| yI_gf_f (v := 160) zi_237_1 zk_122 rfl <| yI_iload_n zi_237_4 rfl <| yI_laloadc (v := gL σ 160 x1.toNat) zi_237_5 za_160 rfl <| yI_ldc2_w zi_237_6 <| yI_lcmp zi_237_9 <| yI_if_ne zi_237_10 <| yBr (yI_aload_n zi_237_17 rfl <| yI_aload_n zi_237_18 rfl <| yI_gf_f (v := 161) zi_237_19 zk_122 rfl <| yI_iload_n zi_237_22 rfl <| yI_ialoadc (v := gI σ 161 x1.toNat) zi_237_23 za_161 rfl <| yI_cv zi_237_24 rfl rfl zk_122 hK) (yI_iconst zi_237_13 <| yI_goto zi_237_14 <| yI_istore_n (l := [some (.inr (.inr 122)), some (.inl x1), some (.inl 0), none, none, none, none]) zi_237_27 rfl rfl <| yI_aload_n zi_237_28 rfl <| yI_gf_f (v := 160) zi_237_29 zk_122 rfl <| yI_iload_n zi_237_32 rfl <| yI_laloadc (v := gL σ 160 x1.toNat) zi_237_33 za_160 rfl <| yI_ldc2_w zi_237_34 <| yI_lcmp zi_237_37 <| yI_if_eq zi_237_38 <| yBr (rfl) (yI_aload_n zi_237_41 rfl <| yI_gf_f (v := 160) zi_237_42 zk_122 rfl <| yI_iload_n zi_237_45 rfl <| yI_laloadc (v := gL σ 160 x1.toNat) zi_237_46 za_160 rfl <| yI_ldc2_w zi_237_47 <| yI_lcmp zi_237_50 <| yI_if_ne zi_237_51 <| yBr (yI_iconst zi_237_67 <| yI_istore_n (l := [some (.inr (.inr 122)), some (.inl x1), some (.inl 0), some (.inl 0), none, none, none]) zi_237_68 rfl rfl <| yI_iload_n zi_237_69 rfl <| yI_iconst zi_237_70 <| yI_ic_eq zi_237_71 <| yBr (yI_iconst zi_237_79 <| yI_ireturn zi_237_80) (yI_iload_n zi_237_74 rfl <| yI_iconst zi_237_75 <| yI_ic_ne zi_237_76 <| yBr (yI_aload_n zi_237_81 rfl <| yI_gf_f (v := 160) zi_237_82 zk_122 rfl <| yI_iload_n zi_237_85 rfl <| yI_laloadc (v := gL σ 160 x1.toNat) zi_237_86 za_160 rfl <| yI_ldc2_w zi_237_87 <| yI_lcmp zi_237_90 <| yI_if_ne zi_237_91 <| yBr (yI_aload_n zi_237_98 rfl <| yI_iload_n zi_237_99 rfl <| yI_cv zi_237_100 rfl rfl zk_122 hK) (yI_iconst zi_237_94 <| yI_goto zi_237_95 <| yI_istore (l := [some (.inr (.inr 122)), some (.inl x1), some (.inl 0), some (.inl 0), some (.inl 0), none, none]) zi_237_103 rfl rfl <| yI_aload_n zi_237_105 rfl <| yI_gf_f (v := 160) zi_237_106 zk_122 rfl <| yI_iload_n zi_237_109 rfl <| yI_laloadc (v := gL σ 160 x1.toNat) zi_237_110 za_160 rfl <| yI_ldc2_w zi_237_111 <| yI_lcmp zi_237_114 <| yI_if_eq zi_237_115 <| yBr (rfl) (yI_aload_n zi_237_118 rfl <| yI_gf_f (v := 160) zi_237_119 zk_122 rfl <| yI_iload_n zi_237_122 rfl <| yI_laloadc (v := gL σ 160 x1.toNat) zi_237_123 za_160 rfl <| yI_ldc2_w zi_237_124 <| yI_lcmp zi_237_127 <| yI_if_ne zi_237_128 <| yBr (yI_iconst zi_237_139 <| yI_istore (l := [some (.inr (.inr 122)), some (.inl x1), some (.inl 0), some (.inl 0), some (.inl 0), some (.inl 0), none]) zi_237_140 rfl rfl <| yI_iload zi_237_142 rfl <| yI_iconst zi_237_144 <| yI_ic_eq zi_237_145 <| yBr (yI_iconst zi_237_154 <| yI_ireturn zi_237_155) (yI_iload zi_237_148 rfl <| yI_iconst zi_237_150 <| yI_ic_ne zi_237_151 <| yBr (yI_iconst zi_237_156 <| yI_istore (l := [some (.inr (.inr 122)), some (.inl x1), some (.inl 0), some (.inl 0), some (.inl 0), some (.inl 0), some (.inl 1)]) zi_237_157 rfl rfl <| yI_aload_n zi_237_159 rfl <| yI_gf_f (v := 160) zi_237_160 zk_122 rfl <| yI_iload_n zi_237_163 rfl <| yI_laloadc (v := gL σ 160 x1.toNat) zi_237_164 za_160 rfl <| yI_ldc2_w zi_237_165 <| yI_lcmp zi_237_168 <| yI_if_ne zi_237_169 <| yBr (yI_aload_n zi_237_188 rfl <| yI_gf_f (v := 160) zi_237_189 zk_122 rfl <| yI_iload_n zi_237_192 rfl <| yI_laloadc (v := gL σ 160 x1.toNat) zi_237_193 za_160 rfl <| yI_ldc2_w zi_237_194 <| yI_lcmp zi_237_197 <| yI_if_ne zi_237_198 <| yBr (yI_aload_n zi_237_218 rfl <| yI_gf_f (v := 160) zi_237_219 zk_122 rfl <| yI_iload_n zi_237_222 rfl <| yI_laloadc (v := gL σ 160 x1.toNat) zi_237_223 za_160 rfl <| yI_ldc2_w zi_237_224 <| yI_lcmp zi_237_227 <| yI_if_ne zi_237_228 <| yBr (yI_aload_n zi_237_254 rfl <| yI_gf_f (v := 160) zi_237_255 zk_122 rfl <| yI_iload_n zi_237_258 rfl <| yI_laloadc (v := gL σ 160 x1.toNat) zi_237_259 za_160 rfl <| yI_ldc2_w zi_237_260 <| yI_lcmp zi_237_263 <| yI_if_ne zi_237_264 <| yBr (yI_aload_n zi_237_276 rfl <| yI_gf_f (v := 160) zi_237_277 zk_122 rfl <| yI_iload_n zi_237_280 rfl <| yI_laloadc (v := gL σ 160 x1.toNat) zi_237_281 za_160 rfl <| yI_ldc2_w zi_237_282 <| yI_lcmp zi_237_285 <| yI_if_ne zi_237_286 <| yBr (yI_aload_n zi_237_298 rfl <| yI_iload zi_237_299 rfl <| yI_aload_n zi_237_301 rfl <| yI_gf_f (v := 164) zi_237_302 zk_122 rfl <| yI_iload_n zi_237_305 rfl <| yI_laloadc (v := gL σ 164 x1.toNat) zi_237_306 za_164 rfl <| yI_iload zi_237_307 rfl <| yI_cv zi_237_309 rfl rfl zk_122 hK) (yI_aload_n zi_237_289 rfl <| yI_iload zi_237_290 rfl <| yI_cv zi_237_292 rfl rfl zk_122 hK)) (yI_aload_n zi_237_267 rfl <| yI_iload zi_237_268 rfl <| yI_cv zi_237_270 rfl rfl zk_122 hK)) (yI_aload_n zi_237_231 rfl <| yI_aload_n zi_237_232 rfl <| yI_gf_f (v := 163) zi_237_233 zk_122 rfl <| yI_iload_n zi_237_236 rfl <| yI_laloadc (v := gL σ 163 x1.toNat) zi_237_237 za_163 rfl <| yI_aload_n zi_237_238 rfl <| yI_gf_f (v := 164) zi_237_239 zk_122 rfl <| yI_iload_n zi_237_242 rfl <| yI_laloadc (v := gL σ 164 x1.toNat) zi_237_243 za_164 rfl <| yI_iload zi_237_244 rfl <| yI_cv zi_237_246 rfl rfl zk_122 hK)) (yI_aload_n zi_237_201 rfl <| yI_iload zi_237_202 rfl <| yI_aload_n zi_237_204 rfl <| yI_gf_f (v := 163) zi_237_205 zk_122 rfl <| yI_iload_n zi_237_208 rfl <| yI_laloadc (v := gL σ 163 x1.toNat) zi_237_209 za_163 rfl <| yI_cv zi_237_210 rfl rfl zk_122 hK)) (yI_aload_n zi_237_172 rfl <| yI_gf_f (v := 181) zi_237_173 zk_122 rfl <| yI_iload zi_237_176 rfl <| yI_aload_n zi_237_178 rfl <| yI_gf_f (v := 163) zi_237_179 zk_122 rfl <| yI_iload_n zi_237_182 rfl <| yI_laloadc (v := gL σ 163 x1.toNat) zi_237_183 za_163 rfl <| yI_lastore zi_237_184 za_181 (by decide) <| yI_goto zi_237_185 <| rfl)) (yI_iconst zi_237_154 <| yI_ireturn zi_237_155))) (rfl)))) (yI_iconst zi_237_79 <| yI_ireturn zi_237_80))) (rfl))))
theorem zr_237_27 {K : List zF} {σ : zW} {x1 : Int} {o2 : Option zV} {o3 : Option zV} {o4 : Option zV} {o5 : Option zV} {o6 : Option zV} {v : Int} (hK : K.length < 60) : zRet true ((237, 27, [some (.inr (.inr 122)), some (.inl x1), o2, o3, o4, o5, o6], []) :: K) (some (.inl v)) σ = ((0 ≤ x1 ∧ x1 < 8) ∧ (if (zlc (gL σ 160 x1.toNat) 6579297) = 0 then zEv true ((237, 54, [some (.inr (.inr 122)), some (.inl x1), some (.inl v), o3, o4, o5, o6], []) :: K) σ else (0 ≤ x1 ∧ x1 < 8) ∧ (if ¬ (zlc (gL σ 160 x1.toNat) 1702260589) = 0 then if v = (-1) then zRet true K (some (.inl 0)) σ else if ¬ (0 : Int) = (-1) then (0 ≤ x1 ∧ x1 < 8) ∧ (if ¬ (zlc (gL σ 160 x1.toNat) 6579297) = 0 then zEv true (zent 221 [.inr (.inr 122), .inl v] :: (237, 103, [some (.inr (.inr 122)), some (.inl x1), some (.inl v), some (.inl 0), o4, o5, o6], []) :: K) σ else (0 ≤ x1 ∧ x1 < 8) ∧ (if (zlc (gL σ 160 x1.toNat) 6579297) = 0 then zEv true ((237, 131, [some (.inr (.inr 122)), some (.inl x1), some (.inl v), some (.inl 0), some (.inl 0), o5, o6], []) :: K) σ else (0 ≤ x1 ∧ x1 < 8) ∧ (if ¬ (zlc (gL σ 160 x1.toNat) 1702260589) = 0 then if (0 : Int) = (-1) then zRet true K (some (.inl 2)) σ else if ¬ (0 : Int) = (-1) then (0 ≤ x1 ∧ x1 < 8) ∧ (if ¬ (zlc (gL σ 160 x1.toNat) 111520460465522) = 0 then (0 ≤ x1 ∧ x1 < 8) ∧ (if ¬ (zlc (gL σ 160 x1.toNat) 1885434487) = 0 then (0 ≤ x1 ∧ x1 < 8) ∧ (if ¬ (zlc (gL σ 160 x1.toNat) 6579297) = 0 then (0 ≤ x1 ∧ x1 < 8) ∧ (if ¬ (zlc (gL σ 160 x1.toNat) 111550592214372) = 0 then (0 ≤ x1 ∧ x1 < 8) ∧ (if ¬ (zlc (gL σ 160 x1.toNat) 111546363770981) = 0 then (0 ≤ x1 ∧ x1 < 8) ∧ zEv true (zent 235 [.inr (.inr 122), .inl 0, .inr (.inl (gL σ 164 x1.toNat)), .inl 0] :: (237, 312, [some (.inr (.inr 122)), some (.inl x1), some (.inl v), some (.inl 0), some (.inl 0), some (.inl 0), some (.inl 1)], []) :: K) σ else zEv true (zent 229 [.inr (.inr 122), .inl 0] :: (237, 295, [some (.inr (.inr 122)), some (.inl x1), some (.inl v), some (.inl 0), some (.inl 0), some (.inl 0), some (.inl 1)], []) :: K) σ) else zEv true (zent 228 [.inr (.inr 122), .inl 0] :: (237, 273, [some (.inr (.inr 122)), some (.inl x1), some (.inl v), some (.inl 0), some (.inl 0), some (.inl 0), some (.inl 1)], []) :: K) σ) else (0 ≤ x1 ∧ x1 < 8) ∧ ((0 ≤ x1 ∧ x1 < 8) ∧ zEv true (zent 234 [.inr (.inr 122), .inr (.inl (gL σ 163 x1.toNat)), .inr (.inl (gL σ 164 x1.toNat)), .inl 0] :: (237, 249, [some (.inr (.inr 122)), some (.inl x1), some (.inl v), some (.inl 0), some (.inl 0), some (.inl 0), some (.inl 1)], []) :: K) σ)) else (0 ≤ x1 ∧ x1 < 8) ∧ zEv true (zent 230 [.inr (.inr 122), .inl 0, .inr (.inl (gL σ 163 x1.toNat))] :: (237, 213, [some (.inr (.inr 122)), some (.inl x1), some (.inl v), some (.inl 0), some (.inl 0), some (.inl 0), some (.inl 1)], []) :: K) σ) else (0 ≤ x1 ∧ x1 < 8) ∧ zEv true ((237, 314, [some (.inr (.inr 122)), some (.inl x1), some (.inl v), some (.inl 0), some (.inl 0), some (.inl 0), some (.inl 1)], []) :: K) (sL σ 181 0 (gL σ 163 x1.toNat))) else zRet true K (some (.inl 2)) σ else zEv true ((237, 131, [some (.inr (.inr 122)), some (.inl x1), some (.inl v), some (.inl 0), some (.inl 0), o5, o6], []) :: K) σ))) else zRet true K (some (.inl 0)) σ else zEv true ((237, 54, [some (.inr (.inr 122)), some (.inl x1), some (.inl v), o3, o4, o5, o6], []) :: K) σ))) :=
  yT_rt (yI_istore_n (l := [some (.inr (.inr 122)), some (.inl x1), some (.inl v), o3, o4, o5, o6]) zi_237_27 rfl rfl <| yI_aload_n zi_237_28 rfl <| yI_gf_f (v := 160) zi_237_29 zk_122 rfl <| yI_iload_n zi_237_32 rfl <| yI_laloadc (v := gL σ 160 x1.toNat) zi_237_33 za_160 rfl <| yI_ldc2_w zi_237_34 <| yI_lcmp zi_237_37 <| yI_if_eq zi_237_38 <| yBr (rfl) (yI_aload_n zi_237_41 rfl <| yI_gf_f (v := 160) zi_237_42 zk_122 rfl <| yI_iload_n zi_237_45 rfl <| yI_laloadc (v := gL σ 160 x1.toNat) zi_237_46 za_160 rfl <| yI_ldc2_w zi_237_47 <| yI_lcmp zi_237_50 <| yI_if_ne zi_237_51 <| yBr (yI_iconst zi_237_67 <| yI_istore_n (l := [some (.inr (.inr 122)), some (.inl x1), some (.inl v), some (.inl 0), o4, o5, o6]) zi_237_68 rfl rfl <| yI_iload_n zi_237_69 rfl <| yI_iconst zi_237_70 <| yI_ic_eq zi_237_71 <| yBr (yI_iconst zi_237_79 <| yI_ireturn zi_237_80) (yI_iload_n zi_237_74 rfl <| yI_iconst zi_237_75 <| yI_ic_ne zi_237_76 <| yBr (yI_aload_n zi_237_81 rfl <| yI_gf_f (v := 160) zi_237_82 zk_122 rfl <| yI_iload_n zi_237_85 rfl <| yI_laloadc (v := gL σ 160 x1.toNat) zi_237_86 za_160 rfl <| yI_ldc2_w zi_237_87 <| yI_lcmp zi_237_90 <| yI_if_ne zi_237_91 <| yBr (yI_aload_n zi_237_98 rfl <| yI_iload_n zi_237_99 rfl <| yI_cv zi_237_100 rfl rfl zk_122 hK) (yI_iconst zi_237_94 <| yI_goto zi_237_95 <| yI_istore (l := [some (.inr (.inr 122)), some (.inl x1), some (.inl v), some (.inl 0), some (.inl 0), o5, o6]) zi_237_103 rfl rfl <| yI_aload_n zi_237_105 rfl <| yI_gf_f (v := 160) zi_237_106 zk_122 rfl <| yI_iload_n zi_237_109 rfl <| yI_laloadc (v := gL σ 160 x1.toNat) zi_237_110 za_160 rfl <| yI_ldc2_w zi_237_111 <| yI_lcmp zi_237_114 <| yI_if_eq zi_237_115 <| yBr (rfl) (yI_aload_n zi_237_118 rfl <| yI_gf_f (v := 160) zi_237_119 zk_122 rfl <| yI_iload_n zi_237_122 rfl <| yI_laloadc (v := gL σ 160 x1.toNat) zi_237_123 za_160 rfl <| yI_ldc2_w zi_237_124 <| yI_lcmp zi_237_127 <| yI_if_ne zi_237_128 <| yBr (yI_iconst zi_237_139 <| yI_istore (l := [some (.inr (.inr 122)), some (.inl x1), some (.inl v), some (.inl 0), some (.inl 0), some (.inl 0), o6]) zi_237_140 rfl rfl <| yI_iload zi_237_142 rfl <| yI_iconst zi_237_144 <| yI_ic_eq zi_237_145 <| yBr (yI_iconst zi_237_154 <| yI_ireturn zi_237_155) (yI_iload zi_237_148 rfl <| yI_iconst zi_237_150 <| yI_ic_ne zi_237_151 <| yBr (yI_iconst zi_237_156 <| yI_istore (l := [some (.inr (.inr 122)), some (.inl x1), some (.inl v), some (.inl 0), some (.inl 0), some (.inl 0), some (.inl 1)]) zi_237_157 rfl rfl <| yI_aload_n zi_237_159 rfl <| yI_gf_f (v := 160) zi_237_160 zk_122 rfl <| yI_iload_n zi_237_163 rfl <| yI_laloadc (v := gL σ 160 x1.toNat) zi_237_164 za_160 rfl <| yI_ldc2_w zi_237_165 <| yI_lcmp zi_237_168 <| yI_if_ne zi_237_169 <| yBr (yI_aload_n zi_237_188 rfl <| yI_gf_f (v := 160) zi_237_189 zk_122 rfl <| yI_iload_n zi_237_192 rfl <| yI_laloadc (v := gL σ 160 x1.toNat) zi_237_193 za_160 rfl <| yI_ldc2_w zi_237_194 <| yI_lcmp zi_237_197 <| yI_if_ne zi_237_198 <| yBr (yI_aload_n zi_237_218 rfl <| yI_gf_f (v := 160) zi_237_219 zk_122 rfl <| yI_iload_n zi_237_222 rfl <| yI_laloadc (v := gL σ 160 x1.toNat) zi_237_223 za_160 rfl <| yI_ldc2_w zi_237_224 <| yI_lcmp zi_237_227 <| yI_if_ne zi_237_228 <| yBr (yI_aload_n zi_237_254 rfl <| yI_gf_f (v := 160) zi_237_255 zk_122 rfl <| yI_iload_n zi_237_258 rfl <| yI_laloadc (v := gL σ 160 x1.toNat) zi_237_259 za_160 rfl <| yI_ldc2_w zi_237_260 <| yI_lcmp zi_237_263 <| yI_if_ne zi_237_264 <| yBr (yI_aload_n zi_237_276 rfl <| yI_gf_f (v := 160) zi_237_277 zk_122 rfl <| yI_iload_n zi_237_280 rfl <| yI_laloadc (v := gL σ 160 x1.toNat) zi_237_281 za_160 rfl <| yI_ldc2_w zi_237_282 <| yI_lcmp zi_237_285 <| yI_if_ne zi_237_286 <| yBr (yI_aload_n zi_237_298 rfl <| yI_iload zi_237_299 rfl <| yI_aload_n zi_237_301 rfl <| yI_gf_f (v := 164) zi_237_302 zk_122 rfl <| yI_iload_n zi_237_305 rfl <| yI_laloadc (v := gL σ 164 x1.toNat) zi_237_306 za_164 rfl <| yI_iload zi_237_307 rfl <| yI_cv zi_237_309 rfl rfl zk_122 hK) (yI_aload_n zi_237_289 rfl <| yI_iload zi_237_290 rfl <| yI_cv zi_237_292 rfl rfl zk_122 hK)) (yI_aload_n zi_237_267 rfl <| yI_iload zi_237_268 rfl <| yI_cv zi_237_270 rfl rfl zk_122 hK)) (yI_aload_n zi_237_231 rfl <| yI_aload_n zi_237_232 rfl <| yI_gf_f (v := 163) zi_237_233 zk_122 rfl <| yI_iload_n zi_237_236 rfl <| yI_laloadc (v := gL σ 163 x1.toNat) zi_237_237 za_163 rfl <| yI_aload_n zi_237_238 rfl <| yI_gf_f (v := 164) zi_237_239 zk_122 rfl <| yI_iload_n zi_237_242 rfl <| yI_laloadc (v := gL σ 164 x1.toNat) zi_237_243 za_164 rfl <| yI_iload zi_237_244 rfl <| yI_cv zi_237_246 rfl rfl zk_122 hK)) (yI_aload_n zi_237_201 rfl <| yI_iload zi_237_202 rfl <| yI_aload_n zi_237_204 rfl <| yI_gf_f (v := 163) zi_237_205 zk_122 rfl <| yI_iload_n zi_237_208 rfl <| yI_laloadc (v := gL σ 163 x1.toNat) zi_237_209 za_163 rfl <| yI_cv zi_237_210 rfl rfl zk_122 hK)) (yI_aload_n zi_237_172 rfl <| yI_gf_f (v := 181) zi_237_173 zk_122 rfl <| yI_iload zi_237_176 rfl <| yI_aload_n zi_237_178 rfl <| yI_gf_f (v := 163) zi_237_179 zk_122 rfl <| yI_iload_n zi_237_182 rfl <| yI_laloadc (v := gL σ 163 x1.toNat) zi_237_183 za_163 rfl <| yI_lastore zi_237_184 za_181 (by decide) <| yI_goto zi_237_185 <| rfl)) (yI_iconst zi_237_154 <| yI_ireturn zi_237_155))) (rfl)))) (yI_iconst zi_237_79 <| yI_ireturn zi_237_80))) (rfl)))
theorem zj_237_54 {K : List zF} {σ : zW} {x1 : Int} {x2 : Int} {o3 : Option zV} {o4 : Option zV} {o5 : Option zV} {o6 : Option zV} (hK : K.length < 60) : zEv true ((237, 54, [some (.inr (.inr 122)), some (.inl x1), some (.inl x2), o3, o4, o5, o6], []) :: K) σ = ((0 ≤ x1 ∧ x1 < 8) ∧ zEv true (zent 236 [.inr (.inr 122), .inl (gI σ 162 x1.toNat)] :: (237, 64, [some (.inr (.inr 122)), some (.inl x1), some (.inl x2), o3, o4, o5, o6], []) :: K) σ) :=
  yI_aload_n zi_237_54 rfl <| yI_aload_n zi_237_55 rfl <| yI_gf_f (v := 162) zi_237_56 zk_122 rfl <| yI_iload_n zi_237_59 rfl <| yI_ialoadc (v := gI σ 162 x1.toNat) zi_237_60 za_162 rfl <| yI_cv zi_237_61 rfl rfl zk_122 hK
theorem zr_237_103 {K : List zF} {σ : zW} {x1 : Int} {o2 : Option zV} {x3 : Int} {o4 : Option zV} {o5 : Option zV} {o6 : Option zV} {v : Int} (hK : K.length < 60) : zRet true ((237, 103, [some (.inr (.inr 122)), some (.inl x1), o2, some (.inl x3), o4, o5, o6], []) :: K) (some (.inl v)) σ = ((0 ≤ x1 ∧ x1 < 8) ∧ (if (zlc (gL σ 160 x1.toNat) 6579297) = 0 then zEv true ((237, 131, [some (.inr (.inr 122)), some (.inl x1), o2, some (.inl x3), some (.inl v), o5, o6], []) :: K) σ else (0 ≤ x1 ∧ x1 < 8) ∧ (if ¬ (zlc (gL σ 160 x1.toNat) 1702260589) = 0 then if v = (-1) then zRet true K (some (.inl 2)) σ else if ¬ (0 : Int) = (-1) then (0 ≤ x1 ∧ x1 < 8) ∧ (if ¬ (zlc (gL σ 160 x1.toNat) 111520460465522) = 0 then (0 ≤ x1 ∧ x1 < 8) ∧ (if ¬ (zlc (gL σ 160 x1.toNat) 1885434487) = 0 then (0 ≤ x1 ∧ x1 < 8) ∧ (if ¬ (zlc (gL σ 160 x1.toNat) 6579297) = 0 then (0 ≤ x1 ∧ x1 < 8) ∧ (if ¬ (zlc (gL σ 160 x1.toNat) 111550592214372) = 0 then (0 ≤ x1 ∧ x1 < 8) ∧ (if ¬ (zlc (gL σ 160 x1.toNat) 111546363770981) = 0 then (0 ≤ x1 ∧ x1 < 8) ∧ zEv true (zent 235 [.inr (.inr 122), .inl v, .inr (.inl (gL σ 164 x1.toNat)), .inl 0] :: (237, 312, [some (.inr (.inr 122)), some (.inl x1), o2, some (.inl x3), some (.inl v), some (.inl 0), some (.inl 1)], []) :: K) σ else zEv true (zent 229 [.inr (.inr 122), .inl v] :: (237, 295, [some (.inr (.inr 122)), some (.inl x1), o2, some (.inl x3), some (.inl v), some (.inl 0), some (.inl 1)], []) :: K) σ) else zEv true (zent 228 [.inr (.inr 122), .inl v] :: (237, 273, [some (.inr (.inr 122)), some (.inl x1), o2, some (.inl x3), some (.inl v), some (.inl 0), some (.inl 1)], []) :: K) σ) else (0 ≤ x1 ∧ x1 < 8) ∧ ((0 ≤ x1 ∧ x1 < 8) ∧ zEv true (zent 234 [.inr (.inr 122), .inr (.inl (gL σ 163 x1.toNat)), .inr (.inl (gL σ 164 x1.toNat)), .inl 0] :: (237, 249, [some (.inr (.inr 122)), some (.inl x1), o2, some (.inl x3), some (.inl v), some (.inl 0), some (.inl 1)], []) :: K) σ)) else (0 ≤ x1 ∧ x1 < 8) ∧ zEv true (zent 230 [.inr (.inr 122), .inl v, .inr (.inl (gL σ 163 x1.toNat))] :: (237, 213, [some (.inr (.inr 122)), some (.inl x1), o2, some (.inl x3), some (.inl v), some (.inl 0), some (.inl 1)], []) :: K) σ) else (0 ≤ x1 ∧ x1 < 8) ∧ ((0 ≤ v ∧ v < 24) ∧ zEv true ((237, 314, [some (.inr (.inr 122)), some (.inl x1), o2, some (.inl x3), some (.inl v), some (.inl 0), some (.inl 1)], []) :: K) (sL σ 181 v.toNat (gL σ 163 x1.toNat)))) else zRet true K (some (.inl 2)) σ else zEv true ((237, 131, [some (.inr (.inr 122)), some (.inl x1), o2, some (.inl x3), some (.inl v), o5, o6], []) :: K) σ))) :=
  yT_rt (yI_istore (l := [some (.inr (.inr 122)), some (.inl x1), o2, some (.inl x3), some (.inl v), o5, o6]) zi_237_103 rfl rfl <| yI_aload_n zi_237_105 rfl <| yI_gf_f (v := 160) zi_237_106 zk_122 rfl <| yI_iload_n zi_237_109 rfl <| yI_laloadc (v := gL σ 160 x1.toNat) zi_237_110 za_160 rfl <| yI_ldc2_w zi_237_111 <| yI_lcmp zi_237_114 <| yI_if_eq zi_237_115 <| yBr (rfl) (yI_aload_n zi_237_118 rfl <| yI_gf_f (v := 160) zi_237_119 zk_122 rfl <| yI_iload_n zi_237_122 rfl <| yI_laloadc (v := gL σ 160 x1.toNat) zi_237_123 za_160 rfl <| yI_ldc2_w zi_237_124 <| yI_lcmp zi_237_127 <| yI_if_ne zi_237_128 <| yBr (yI_iconst zi_237_139 <| yI_istore (l := [some (.inr (.inr 122)), some (.inl x1), o2, some (.inl x3), some (.inl v), some (.inl 0), o6]) zi_237_140 rfl rfl <| yI_iload zi_237_142 rfl <| yI_iconst zi_237_144 <| yI_ic_eq zi_237_145 <| yBr (yI_iconst zi_237_154 <| yI_ireturn zi_237_155) (yI_iload zi_237_148 rfl <| yI_iconst zi_237_150 <| yI_ic_ne zi_237_151 <| yBr (yI_iconst zi_237_156 <| yI_istore (l := [some (.inr (.inr 122)), some (.inl x1), o2, some (.inl x3), some (.inl v), some (.inl 0), some (.inl 1)]) zi_237_157 rfl rfl <| yI_aload_n zi_237_159 rfl <| yI_gf_f (v := 160) zi_237_160 zk_122 rfl <| yI_iload_n zi_237_163 rfl <| yI_laloadc (v := gL σ 160 x1.toNat) zi_237_164 za_160 rfl <| yI_ldc2_w zi_237_165 <| yI_lcmp zi_237_168 <| yI_if_ne zi_237_169 <| yBr (yI_aload_n zi_237_188 rfl <| yI_gf_f (v := 160) zi_237_189 zk_122 rfl <| yI_iload_n zi_237_192 rfl <| yI_laloadc (v := gL σ 160 x1.toNat) zi_237_193 za_160 rfl <| yI_ldc2_w zi_237_194 <| yI_lcmp zi_237_197 <| yI_if_ne zi_237_198 <| yBr (yI_aload_n zi_237_218 rfl <| yI_gf_f (v := 160) zi_237_219 zk_122 rfl <| yI_iload_n zi_237_222 rfl <| yI_laloadc (v := gL σ 160 x1.toNat) zi_237_223 za_160 rfl <| yI_ldc2_w zi_237_224 <| yI_lcmp zi_237_227 <| yI_if_ne zi_237_228 <| yBr (yI_aload_n zi_237_254 rfl <| yI_gf_f (v := 160) zi_237_255 zk_122 rfl <| yI_iload_n zi_237_258 rfl <| yI_laloadc (v := gL σ 160 x1.toNat) zi_237_259 za_160 rfl <| yI_ldc2_w zi_237_260 <| yI_lcmp zi_237_263 <| yI_if_ne zi_237_264 <| yBr (yI_aload_n zi_237_276 rfl <| yI_gf_f (v := 160) zi_237_277 zk_122 rfl <| yI_iload_n zi_237_280 rfl <| yI_laloadc (v := gL σ 160 x1.toNat) zi_237_281 za_160 rfl <| yI_ldc2_w zi_237_282 <| yI_lcmp zi_237_285 <| yI_if_ne zi_237_286 <| yBr (yI_aload_n zi_237_298 rfl <| yI_iload zi_237_299 rfl <| yI_aload_n zi_237_301 rfl <| yI_gf_f (v := 164) zi_237_302 zk_122 rfl <| yI_iload_n zi_237_305 rfl <| yI_laloadc (v := gL σ 164 x1.toNat) zi_237_306 za_164 rfl <| yI_iload zi_237_307 rfl <| yI_cv zi_237_309 rfl rfl zk_122 hK) (yI_aload_n zi_237_289 rfl <| yI_iload zi_237_290 rfl <| yI_cv zi_237_292 rfl rfl zk_122 hK)) (yI_aload_n zi_237_267 rfl <| yI_iload zi_237_268 rfl <| yI_cv zi_237_270 rfl rfl zk_122 hK)) (yI_aload_n zi_237_231 rfl <| yI_aload_n zi_237_232 rfl <| yI_gf_f (v := 163) zi_237_233 zk_122 rfl <| yI_iload_n zi_237_236 rfl <| yI_laloadc (v := gL σ 163 x1.toNat) zi_237_237 za_163 rfl <| yI_aload_n zi_237_238 rfl <| yI_gf_f (v := 164) zi_237_239 zk_122 rfl <| yI_iload_n zi_237_242 rfl <| yI_laloadc (v := gL σ 164 x1.toNat) zi_237_243 za_164 rfl <| yI_iload zi_237_244 rfl <| yI_cv zi_237_246 rfl rfl zk_122 hK)) (yI_aload_n zi_237_201 rfl <| yI_iload zi_237_202 rfl <| yI_aload_n zi_237_204 rfl <| yI_gf_f (v := 163) zi_237_205 zk_122 rfl <| yI_iload_n zi_237_208 rfl <| yI_laloadc (v := gL σ 163 x1.toNat) zi_237_209 za_163 rfl <| yI_cv zi_237_210 rfl rfl zk_122 hK)) (yI_aload_n zi_237_172 rfl <| yI_gf_f (v := 181) zi_237_173 zk_122 rfl <| yI_iload zi_237_176 rfl <| yI_aload_n zi_237_178 rfl <| yI_gf_f (v := 163) zi_237_179 zk_122 rfl <| yI_iload_n zi_237_182 rfl <| yI_laloadc (v := gL σ 163 x1.toNat) zi_237_183 za_163 rfl <| yI_lastorec zi_237_184 za_181 <| yI_goto zi_237_185 <| rfl)) (yI_iconst zi_237_154 <| yI_ireturn zi_237_155))) (rfl)))
theorem zj_237_131 {K : List zF} {σ : zW} {x1 : Int} {o2 : Option zV} {x3 : Int} {x4 : Int} {o5 : Option zV} {o6 : Option zV} (hK : K.length < 60) : zEv true ((237, 131, [some (.inr (.inr 122)), some (.inl x1), o2, some (.inl x3), some (.inl x4), o5, o6], []) :: K) σ = (zEv true (zent 221 [.inr (.inr 122), .inl x3] :: (237, 136, [some (.inr (.inr 122)), some (.inl x1), o2, some (.inl x3), some (.inl x4), o5, o6], []) :: K) σ) :=
  yI_aload_n zi_237_131 rfl <| yI_iload_n zi_237_132 rfl <| yI_cv zi_237_133 rfl rfl zk_122 hK
theorem zr_237_312 {K : List zF} {σ : zW} {o0 : Option zV} {o1 : Option zV} {o2 : Option zV} {o3 : Option zV} {o4 : Option zV} {o5 : Option zV} {o6 : Option zV} {v : Int} : zRet true ((237, 312, [o0, o1, o2, o3, o4, o5, o6], []) :: K) (some (.inl v)) σ = (zEv true ((237, 314, [o0, o1, o2, o3, o4, (zcut 0 o5), some (.inl v)], []) :: K) σ) :=
  yT_rt (yI_istore (l := [o0, o1, o2, o3, o4, (zcut 0 o5), some (.inl v)]) zi_237_312 rfl rfl <| rfl)
theorem zr_237_295 {K : List zF} {σ : zW} {o0 : Option zV} {o1 : Option zV} {o2 : Option zV} {o3 : Option zV} {o4 : Option zV} {o5 : Option zV} {o6 : Option zV} {v : Int} : zRet true ((237, 295, [o0, o1, o2, o3, o4, o5, o6], []) :: K) (some (.inl v)) σ = (zEv true ((237, 314, [o0, o1, o2, o3, o4, (zcut 0 o5), some (.inl v)], []) :: K) σ) :=
  yT_rt (yI_goto zi_237_295 <| yI_istore (l := [o0, o1, o2, o3, o4, (zcut 0 o5), some (.inl v)]) zi_237_312 rfl rfl <| rfl)
theorem zr_237_273 {K : List zF} {σ : zW} {o0 : Option zV} {o1 : Option zV} {o2 : Option zV} {o3 : Option zV} {o4 : Option zV} {o5 : Option zV} {o6 : Option zV} {v : Int} : zRet true ((237, 273, [o0, o1, o2, o3, o4, o5, o6], []) :: K) (some (.inl v)) σ = (zEv true ((237, 314, [o0, o1, o2, o3, o4, (zcut 0 o5), some (.inl v)], []) :: K) σ) :=
  yT_rt (yI_goto zi_237_273 <| yI_istore (l := [o0, o1, o2, o3, o4, (zcut 0 o5), some (.inl v)]) zi_237_312 rfl rfl <| rfl)
theorem zr_237_249 {K : List zF} {σ : zW} {o0 : Option zV} {o1 : Option zV} {o2 : Option zV} {o3 : Option zV} {o4 : Option zV} {o5 : Option zV} {o6 : Option zV} {v : Int} : zRet true ((237, 249, [o0, o1, o2, o3, o4, o5, o6], []) :: K) (some (.inl v)) σ = (zEv true ((237, 314, [o0, o1, o2, o3, o4, (zcut 0 o5), some (.inl v)], []) :: K) σ) :=
  yT_rt (yI_istore (l := [o0, o1, o2, o3, o4, (zcut 0 o5), some (.inl v)]) zi_237_249 rfl rfl <| yI_goto zi_237_251 <| rfl)
theorem zr_237_213 {K : List zF} {σ : zW} {o0 : Option zV} {o1 : Option zV} {o2 : Option zV} {o3 : Option zV} {o4 : Option zV} {o5 : Option zV} {o6 : Option zV} {v : Int} : zRet true ((237, 213, [o0, o1, o2, o3, o4, o5, o6], []) :: K) (some (.inl v)) σ = (zEv true ((237, 314, [o0, o1, o2, o3, o4, (zcut 0 o5), some (.inl v)], []) :: K) σ) :=
  yT_rt (yI_istore (l := [o0, o1, o2, o3, o4, (zcut 0 o5), some (.inl v)]) zi_237_213 rfl rfl <| yI_goto zi_237_215 <| rfl)
theorem zj_237_314 {K : List zF} {σ : zW} {o0 : Option zV} {o1 : Option zV} {o2 : Option zV} {o3 : Option zV} {o4 : Option zV} {o5 : Option zV} {x6 : Int} : zEv true ((237, 314, [o0, o1, o2, o3, o4, o5, some (.inl x6)], []) :: K) σ = (zRet true K (some (.inl (if x6 = 0 then 2 else 1 : Int))) σ) :=
  yI_iload zi_237_314 rfl <| yI_if_eq zi_237_316 <| yMi0 (j := 324) (ls2 := [o0, o1, o2, o3, o4, o5, some (.inl x6)]) (st2 := []) (x := 2) (y := 1) (σ2 := σ) (yI_iconst zi_237_323 <| rfl) (yI_iconst zi_237_319 <| yI_goto zi_237_320 <| rfl) <| yI_ireturn zi_237_324
theorem zr_237_64 {K : List zF} {σ : zW} {x1 : Int} {x2 : Int} {o3 : Option zV} {o4 : Option zV} {o5 : Option zV} {o6 : Option zV} {v : Int} (hK : K.length < 60) : zRet true ((237, 64, [some (.inr (.inr 122)), some (.inl x1), some (.inl x2), o3, o4, o5, o6], []) :: K) (some (.inl v)) σ = (if x2 = (-1) then zRet true K (some (.inl 0)) σ else if ¬ v = (-1) then (0 ≤ x1 ∧ x1 < 8) ∧ (if ¬ (zlc (gL σ 160 x1.toNat) 6579297) = 0 then zEv true (zent 221 [.inr (.inr 122), .inl x2] :: (237, 103, [some (.inr (.inr 122)), some (.inl x1), some (.inl x2), some (.inl v), o4, o5, o6], []) :: K) σ else (0 ≤ x1 ∧ x1 < 8) ∧ (if (zlc (gL σ 160 x1.toNat) 6579297) = 0 then zEv true ((237, 131, [some (.inr (.inr 122)), some (.inl x1), some (.inl x2), some (.inl v), some (.inl 0), o5, o6], []) :: K) σ else (0 ≤ x1 ∧ x1 < 8) ∧ (if ¬ (zlc (gL σ 160 x1.toNat) 1702260589) = 0 then if (0 : Int) = (-1) then zRet true K (some (.inl 2)) σ else if ¬ (0 : Int) = (-1) then (0 ≤ x1 ∧ x1 < 8) ∧ (if ¬ (zlc (gL σ 160 x1.toNat) 111520460465522) = 0 then (0 ≤ x1 ∧ x1 < 8) ∧ (if ¬ (zlc (gL σ 160 x1.toNat) 1885434487) = 0 then (0 ≤ x1 ∧ x1 < 8) ∧ (if ¬ (zlc (gL σ 160 x1.toNat) 6579297) = 0 then (0 ≤ x1 ∧ x1 < 8) ∧ (if ¬ (zlc (gL σ 160 x1.toNat) 111550592214372) = 0 then (0 ≤ x1 ∧ x1 < 8) ∧ (if ¬ (zlc (gL σ 160 x1.toNat) 111546363770981) = 0 then (0 ≤ x1 ∧ x1 < 8) ∧ zEv true (zent 235 [.inr (.inr 122), .inl 0, .inr (.inl (gL σ 164 x1.toNat)), .inl 0] :: (237, 312, [some (.inr (.inr 122)), some (.inl x1), some (.inl x2), some (.inl v), some (.inl 0), some (.inl 0), some (.inl 1)], []) :: K) σ else zEv true (zent 229 [.inr (.inr 122), .inl 0] :: (237, 295, [some (.inr (.inr 122)), some (.inl x1), some (.inl x2), some (.inl v), some (.inl 0), some (.inl 0), some (.inl 1)], []) :: K) σ) else zEv true (zent 228 [.inr (.inr 122), .inl 0] :: (237, 273, [some (.inr (.inr 122)), some (.inl x1), some (.inl x2), some (.inl v), some (.inl 0), some (.inl 0), some (.inl 1)], []) :: K) σ) else (0 ≤ x1 ∧ x1 < 8) ∧ ((0 ≤ x1 ∧ x1 < 8) ∧ zEv true (zent 234 [.inr (.inr 122), .inr (.inl (gL σ 163 x1.toNat)), .inr (.inl (gL σ 164 x1.toNat)), .inl 0] :: (237, 249, [some (.inr (.inr 122)), some (.inl x1), some (.inl x2), some (.inl v), some (.inl 0), some (.inl 0), some (.inl 1)], []) :: K) σ)) else (0 ≤ x1 ∧ x1 < 8) ∧ zEv true (zent 230 [.inr (.inr 122), .inl 0, .inr (.inl (gL σ 163 x1.toNat))] :: (237, 213, [some (.inr (.inr 122)), some (.inl x1), some (.inl x2), some (.inl v), some (.inl 0), some (.inl 0), some (.inl 1)], []) :: K) σ) else (0 ≤ x1 ∧ x1 < 8) ∧ zEv true ((237, 314, [some (.inr (.inr 122)), some (.inl x1), some (.inl x2), some (.inl v), some (.inl 0), some (.inl 0), some (.inl 1)], []) :: K) (sL σ 181 0 (gL σ 163 x1.toNat))) else zRet true K (some (.inl 2)) σ else zEv true ((237, 131, [some (.inr (.inr 122)), some (.inl x1), some (.inl x2), some (.inl v), some (.inl 0), o5, o6], []) :: K) σ))) else zRet true K (some (.inl 0)) σ) :=
  yT_rt (yI_goto zi_237_64 <| yI_istore_n (l := [some (.inr (.inr 122)), some (.inl x1), some (.inl x2), some (.inl v), o4, o5, o6]) zi_237_68 rfl rfl <| yI_iload_n zi_237_69 rfl <| yI_iconst zi_237_70 <| yI_ic_eq zi_237_71 <| yBr (yI_iconst zi_237_79 <| yI_ireturn zi_237_80) (yI_iload_n zi_237_74 rfl <| yI_iconst zi_237_75 <| yI_ic_ne zi_237_76 <| yBr (yI_aload_n zi_237_81 rfl <| yI_gf_f (v := 160) zi_237_82 zk_122 rfl <| yI_iload_n zi_237_85 rfl <| yI_laloadc (v := gL σ 160 x1.toNat) zi_237_86 za_160 rfl <| yI_ldc2_w zi_237_87 <| yI_lcmp zi_237_90 <| yI_if_ne zi_237_91 <| yBr (yI_aload_n zi_237_98 rfl <| yI_iload_n zi_237_99 rfl <| yI_cv zi_237_100 rfl rfl zk_122 hK) (yI_iconst zi_237_94 <| yI_goto zi_237_95 <| yI_istore (l := [some (.inr (.inr 122)), some (.inl x1), some (.inl x2), some (.inl v), some (.inl 0), o5, o6]) zi_237_103 rfl rfl <| yI_aload_n zi_237_105 rfl <| yI_gf_f (v := 160) zi_237_106 zk_122 rfl <| yI_iload_n zi_237_109 rfl <| yI_laloadc (v := gL σ 160 x1.toNat) zi_237_110 za_160 rfl <| yI_ldc2_w zi_237_111 <| yI_lcmp zi_237_114 <| yI_if_eq zi_237_115 <| yBr (rfl) (yI_aload_n zi_237_118 rfl <| yI_gf_f (v := 160) zi_237_119 zk_122 rfl <| yI_iload_n zi_237_122 rfl <| yI_laloadc (v := gL σ 160 x1.toNat) zi_237_123 za_160 rfl <| yI_ldc2_w zi_237_124 <| yI_lcmp zi_237_127 <| yI_if_ne zi_237_128 <| yBr (yI_iconst zi_237_139 <| yI_istore (l := [some (.inr (.inr 122)), some (.inl x1), some (.inl x2), some (.inl v), some (.inl 0), some (.inl 0), o6]) zi_237_140 rfl rfl <| yI_iload zi_237_142 rfl <| yI_iconst zi_237_144 <| yI_ic_eq zi_237_145 <| yBr (yI_iconst zi_237_154 <| yI_ireturn zi_237_155) (yI_iload zi_237_148 rfl <| yI_iconst zi_237_150 <| yI_ic_ne zi_237_151 <| yBr (yI_iconst zi_237_156 <| yI_istore (l := [some (.inr (.inr 122)), some (.inl x1), some (.inl x2), some (.inl v), some (.inl 0), some (.inl 0), some (.inl 1)]) zi_237_157 rfl rfl <| yI_aload_n zi_237_159 rfl <| yI_gf_f (v := 160) zi_237_160 zk_122 rfl <| yI_iload_n zi_237_163 rfl <| yI_laloadc (v := gL σ 160 x1.toNat) zi_237_164 za_160 rfl <| yI_ldc2_w zi_237_165 <| yI_lcmp zi_237_168 <| yI_if_ne zi_237_169 <| yBr (yI_aload_n zi_237_188 rfl <| yI_gf_f (v := 160) zi_237_189 zk_122 rfl <| yI_iload_n zi_237_192 rfl <| yI_laloadc (v := gL σ 160 x1.toNat) zi_237_193 za_160 rfl <| yI_ldc2_w zi_237_194 <| yI_lcmp zi_237_197 <| yI_if_ne zi_237_198 <| yBr (yI_aload_n zi_237_218 rfl <| yI_gf_f (v := 160) zi_237_219 zk_122 rfl <| yI_iload_n zi_237_222 rfl <| yI_laloadc (v := gL σ 160 x1.toNat) zi_237_223 za_160 rfl <| yI_ldc2_w zi_237_224 <| yI_lcmp zi_237_227 <| yI_if_ne zi_237_228 <| yBr (yI_aload_n zi_237_254 rfl <| yI_gf_f (v := 160) zi_237_255 zk_122 rfl <| yI_iload_n zi_237_258 rfl <| yI_laloadc (v := gL σ 160 x1.toNat) zi_237_259 za_160 rfl <| yI_ldc2_w zi_237_260 <| yI_lcmp zi_237_263 <| yI_if_ne zi_237_264 <| yBr (yI_aload_n zi_237_276 rfl <| yI_gf_f (v := 160) zi_237_277 zk_122 rfl <| yI_iload_n zi_237_280 rfl <| yI_laloadc (v := gL σ 160 x1.toNat) zi_237_281 za_160 rfl <| yI_ldc2_w zi_237_282 <| yI_lcmp zi_237_285 <| yI_if_ne zi_237_286 <| yBr (yI_aload_n zi_237_298 rfl <| yI_iload zi_237_299 rfl <| yI_aload_n zi_237_301 rfl <| yI_gf_f (v := 164) zi_237_302 zk_122 rfl <| yI_iload_n zi_237_305 rfl <| yI_laloadc (v := gL σ 164 x1.toNat) zi_237_306 za_164 rfl <| yI_iload zi_237_307 rfl <| yI_cv zi_237_309 rfl rfl zk_122 hK) (yI_aload_n zi_237_289 rfl <| yI_iload zi_237_290 rfl <| yI_cv zi_237_292 rfl rfl zk_122 hK)) (yI_aload_n zi_237_267 rfl <| yI_iload zi_237_268 rfl <| yI_cv zi_237_270 rfl rfl zk_122 hK)) (yI_aload_n zi_237_231 rfl <| yI_aload_n zi_237_232 rfl <| yI_gf_f (v := 163) zi_237_233 zk_122 rfl <| yI_iload_n zi_237_236 rfl <| yI_laloadc (v := gL σ 163 x1.toNat) zi_237_237 za_163 rfl <| yI_aload_n zi_237_238 rfl <| yI_gf_f (v := 164) zi_237_239 zk_122 rfl <| yI_iload_n zi_237_242 rfl <| yI_laloadc (v := gL σ 164 x1.toNat) zi_237_243 za_164 rfl <| yI_iload zi_237_244 rfl <| yI_cv zi_237_246 rfl rfl zk_122 hK)) (yI_aload_n zi_237_201 rfl <| yI_iload zi_237_202 rfl <| yI_aload_n zi_237_204 rfl <| yI_gf_f (v := 163) zi_237_205 zk_122 rfl <| yI_iload_n zi_237_208 rfl <| yI_laloadc (v := gL σ 163 x1.toNat) zi_237_209 za_163 rfl <| yI_cv zi_237_210 rfl rfl zk_122 hK)) (yI_aload_n zi_237_172 rfl <| yI_gf_f (v := 181) zi_237_173 zk_122 rfl <| yI_iload zi_237_176 rfl <| yI_aload_n zi_237_178 rfl <| yI_gf_f (v := 163) zi_237_179 zk_122 rfl <| yI_iload_n zi_237_182 rfl <| yI_laloadc (v := gL σ 163 x1.toNat) zi_237_183 za_163 rfl <| yI_lastore zi_237_184 za_181 (by decide) <| yI_goto zi_237_185 <| rfl)) (yI_iconst zi_237_154 <| yI_ireturn zi_237_155))) (rfl)))) (yI_iconst zi_237_79 <| yI_ireturn zi_237_80)))
theorem zr_237_136 {K : List zF} {σ : zW} {x1 : Int} {o2 : Option zV} {o3 : Option zV} {x4 : Int} {o5 : Option zV} {o6 : Option zV} {v : Int} (hK : K.length < 60) : zRet true ((237, 136, [some (.inr (.inr 122)), some (.inl x1), o2, o3, some (.inl x4), o5, o6], []) :: K) (some (.inl v)) σ = (if x4 = (-1) then zRet true K (some (.inl 2)) σ else if ¬ v = (-1) then (0 ≤ x1 ∧ x1 < 8) ∧ (if ¬ (zlc (gL σ 160 x1.toNat) 111520460465522) = 0 then (0 ≤ x1 ∧ x1 < 8) ∧ (if ¬ (zlc (gL σ 160 x1.toNat) 1885434487) = 0 then (0 ≤ x1 ∧ x1 < 8) ∧ (if ¬ (zlc (gL σ 160 x1.toNat) 6579297) = 0 then (0 ≤ x1 ∧ x1 < 8) ∧ (if ¬ (zlc (gL σ 160 x1.toNat) 111550592214372) = 0 then (0 ≤ x1 ∧ x1 < 8) ∧ (if ¬ (zlc (gL σ 160 x1.toNat) 111546363770981) = 0 then (0 ≤ x1 ∧ x1 < 8) ∧ zEv true (zent 235 [.inr (.inr 122), .inl x4, .inr (.inl (gL σ 164 x1.toNat)), .inl v] :: (237, 312, [some (.inr (.inr 122)), some (.inl x1), o2, o3, some (.inl x4), some (.inl v), some (.inl 1)], []) :: K) σ else zEv true (zent 229 [.inr (.inr 122), .inl x4] :: (237, 295, [some (.inr (.inr 122)), some (.inl x1), o2, o3, some (.inl x4), some (.inl v), some (.inl 1)], []) :: K) σ) else zEv true (zent 228 [.inr (.inr 122), .inl x4] :: (237, 273, [some (.inr (.inr 122)), some (.inl x1), o2, o3, some (.inl x4), some (.inl v), some (.inl 1)], []) :: K) σ) else (0 ≤ x1 ∧ x1 < 8) ∧ ((0 ≤ x1 ∧ x1 < 8) ∧ zEv true (zent 234 [.inr (.inr 122), .inr (.inl (gL σ 163 x1.toNat)), .inr (.inl (gL σ 164 x1.toNat)), .inl v] :: (237, 249, [some (.inr (.inr 122)), some (.inl x1), o2, o3, some (.inl x4), some (.inl v), some (.inl 1)], []) :: K) σ)) else (0 ≤ x1 ∧ x1 < 8) ∧ zEv true (zent 230 [.inr (.inr 122), .inl x4, .inr (.inl (gL σ 163 x1.toNat))] :: (237, 213, [some (.inr (.inr 122)), some (.inl x1), o2, o3, some (.inl x4), some (.inl v), some (.inl 1)], []) :: K) σ) else (0 ≤ x1 ∧ x1 < 8) ∧ ((0 ≤ x4 ∧ x4 < 24) ∧ zEv true ((237, 314, [some (.inr (.inr 122)), some (.inl x1), o2, o3, some (.inl x4), some (.inl v), some (.inl 1)], []) :: K) (sL σ 181 x4.toNat (gL σ 163 x1.toNat)))) else zRet true K (some (.inl 2)) σ) :=
  yT_rt (yI_goto zi_237_136 <| yI_istore (l := [some (.inr (.inr 122)), some (.inl x1), o2, o3, some (.inl x4), some (.inl v), o6]) zi_237_140 rfl rfl <| yI_iload zi_237_142 rfl <| yI_iconst zi_237_144 <| yI_ic_eq zi_237_145 <| yBr (yI_iconst zi_237_154 <| yI_ireturn zi_237_155) (yI_iload zi_237_148 rfl <| yI_iconst zi_237_150 <| yI_ic_ne zi_237_151 <| yBr (yI_iconst zi_237_156 <| yI_istore (l := [some (.inr (.inr 122)), some (.inl x1), o2, o3, some (.inl x4), some (.inl v), some (.inl 1)]) zi_237_157 rfl rfl <| yI_aload_n zi_237_159 rfl <| yI_gf_f (v := 160) zi_237_160 zk_122 rfl <| yI_iload_n zi_237_163 rfl <| yI_laloadc (v := gL σ 160 x1.toNat) zi_237_164 za_160 rfl <| yI_ldc2_w zi_237_165 <| yI_lcmp zi_237_168 <| yI_if_ne zi_237_169 <| yBr (yI_aload_n zi_237_188 rfl <| yI_gf_f (v := 160) zi_237_189 zk_122 rfl <| yI_iload_n zi_237_192 rfl <| yI_laloadc (v := gL σ 160 x1.toNat) zi_237_193 za_160 rfl <| yI_ldc2_w zi_237_194 <| yI_lcmp zi_237_197 <| yI_if_ne zi_237_198 <| yBr (yI_aload_n zi_237_218 rfl <| yI_gf_f (v := 160) zi_237_219 zk_122 rfl <| yI_iload_n zi_237_222 rfl <| yI_laloadc (v := gL σ 160 x1.toNat) zi_237_223 za_160 rfl <| yI_ldc2_w zi_237_224 <| yI_lcmp zi_237_227 <| yI_if_ne zi_237_228 <| yBr (yI_aload_n zi_237_254 rfl <| yI_gf_f (v := 160) zi_237_255 zk_122 rfl <| yI_iload_n zi_237_258 rfl <| yI_laloadc (v := gL σ 160 x1.toNat) zi_237_259 za_160 rfl <| yI_ldc2_w zi_237_260 <| yI_lcmp zi_237_263 <| yI_if_ne zi_237_264 <| yBr (yI_aload_n zi_237_276 rfl <| yI_gf_f (v := 160) zi_237_277 zk_122 rfl <| yI_iload_n zi_237_280 rfl <| yI_laloadc (v := gL σ 160 x1.toNat) zi_237_281 za_160 rfl <| yI_ldc2_w zi_237_282 <| yI_lcmp zi_237_285 <| yI_if_ne zi_237_286 <| yBr (yI_aload_n zi_237_298 rfl <| yI_iload zi_237_299 rfl <| yI_aload_n zi_237_301 rfl <| yI_gf_f (v := 164) zi_237_302 zk_122 rfl <| yI_iload_n zi_237_305 rfl <| yI_laloadc (v := gL σ 164 x1.toNat) zi_237_306 za_164 rfl <| yI_iload zi_237_307 rfl <| yI_cv zi_237_309 rfl rfl zk_122 hK) (yI_aload_n zi_237_289 rfl <| yI_iload zi_237_290 rfl <| yI_cv zi_237_292 rfl rfl zk_122 hK)) (yI_aload_n zi_237_267 rfl <| yI_iload zi_237_268 rfl <| yI_cv zi_237_270 rfl rfl zk_122 hK)) (yI_aload_n zi_237_231 rfl <| yI_aload_n zi_237_232 rfl <| yI_gf_f (v := 163) zi_237_233 zk_122 rfl <| yI_iload_n zi_237_236 rfl <| yI_laloadc (v := gL σ 163 x1.toNat) zi_237_237 za_163 rfl <| yI_aload_n zi_237_238 rfl <| yI_gf_f (v := 164) zi_237_239 zk_122 rfl <| yI_iload_n zi_237_242 rfl <| yI_laloadc (v := gL σ 164 x1.toNat) zi_237_243 za_164 rfl <| yI_iload zi_237_244 rfl <| yI_cv zi_237_246 rfl rfl zk_122 hK)) (yI_aload_n zi_237_201 rfl <| yI_iload zi_237_202 rfl <| yI_aload_n zi_237_204 rfl <| yI_gf_f (v := 163) zi_237_205 zk_122 rfl <| yI_iload_n zi_237_208 rfl <| yI_laloadc (v := gL σ 163 x1.toNat) zi_237_209 za_163 rfl <| yI_cv zi_237_210 rfl rfl zk_122 hK)) (yI_aload_n zi_237_172 rfl <| yI_gf_f (v := 181) zi_237_173 zk_122 rfl <| yI_iload zi_237_176 rfl <| yI_aload_n zi_237_178 rfl <| yI_gf_f (v := 163) zi_237_179 zk_122 rfl <| yI_iload_n zi_237_182 rfl <| yI_laloadc (v := gL σ 163 x1.toNat) zi_237_183 za_163 rfl <| yI_lastorec zi_237_184 za_181 <| yI_goto zi_237_185 <| rfl)) (yI_iconst zi_237_154 <| yI_ireturn zi_237_155)))
/-- 238 TreegrabModel.unrolls(I)V -/
theorem zi_238_0 : zraw 238 0 = some (.aload_n 0, 1) ∧ 0 + 1 = 1 := by decide +kernel
theorem zi_238_1 : zraw 238 1 = some (.aload_n 0, 1) ∧ 1 + 1 = 2 := by decide +kernel
theorem zi_238_2 : zraw 238 2 = some (.getfield 13, 3) ∧ zft (zinf 238).1 13 = some (10, 8, 3, true) ∧ 2 + 3 = 5 := by decide +kernel
theorem zi_238_5 : zraw 238 5 = some (.iload_n 1, 1) ∧ 5 + 1 = 6 := by decide +kernel
theorem zi_238_6 : zraw 238 6 = some (.iaload, 1) ∧ 6 + 1 = 7 := by decide +kernel
theorem zi_238_7 : zraw 238 7 = some (.putfield 498, 3) ∧ zft (zinf 238).1 498 = some (10, 77, 0, false) ∧ 7 + 3 = 10 := by decide +kernel
theorem zi_238_10 : zraw 238 10 = some (.aload_n 0, 1) ∧ 10 + 1 = 11 := by decide +kernel
theorem zi_238_11 : zraw 238 11 = some (.bipush 20, 2) ∧ zin 128 20 = true ∧ 11 + 2 = 13 := by decide +kernel
theorem zi_238_13 : zraw 238 13 = some (.putfield 508, 3) ∧ zft (zinf 238).1 508 = some (10, 85, 0, false) ∧ 13 + 3 = 16 := by decide +kernel
theorem zi_238_16 : zraw 238 16 = some (.iconst 0, 1) ∧ zin 128 0 = true ∧ 16 + 1 = 17 := by decide +kernel
theorem zi_238_17 : zraw 238 17 = some (.istore_n 2, 1) ∧ 17 + 1 = 18 := by decide +kernel
theorem zi_238_18 : zraw 238 18 = some (.iload_n 2, 1) ∧ 18 + 1 = 19 := by decide +kernel
theorem zi_238_19 : zraw 238 19 = some (.aload_n 0, 1) ∧ 19 + 1 = 20 := by decide +kernel
theorem zi_238_20 : zraw 238 20 = some (.getfield 498, 3) ∧ zft (zinf 238).1 498 = some (10, 77, 0, false) ∧ 20 + 3 = 23 := by decide +kernel
theorem zi_238_23 : zraw 238 23 = some (.if_icmp .ge 68, 3) ∧ ((23 : Nat) : Int) + 68 = Int.ofNat 91 ∧ 23 + 3 = 26 := by decide +kernel
theorem zi_238_26 : zraw 238 26 = some (.aload_n 0, 1) ∧ 26 + 1 = 27 := by decide +kernel
theorem zi_238_27 : zraw 238 27 = some (.getfield 20, 3) ∧ zft (zinf 238).1 20 = some (10, 10, 3, true) ∧ 27 + 3 = 30 := by decide +kernel
theorem zi_238_30 : zraw 238 30 = some (.bipush 20, 2) ∧ zin 128 20 = true ∧ 30 + 2 = 32 := by decide +kernel
theorem zi_238_32 : zraw 238 32 = some (.iload_n 1, 1) ∧ 32 + 1 = 33 := by decide +kernel
theorem zi_238_33 : zraw 238 33 = some (.imul, 1) ∧ 33 + 1 = 34 := by decide +kernel
theorem zi_238_34 : zraw 238 34 = some (.iload_n 2, 1) ∧ 34 + 1 = 35 := by decide +kernel
theorem zi_238_35 : zraw 238 35 = some (.iadd, 1) ∧ 35 + 1 = 36 := by decide +kernel
theorem zi_238_36 : zraw 238 36 = some (.iaload, 1) ∧ 36 + 1 = 37 := by decide +kernel
theorem zi_238_37 : zraw 238 37 = some (.istore_n 3, 1) ∧ 37 + 1 = 38 := by decide +kernel
theorem zi_238_38 : zraw 238 38 = some (.aload_n 0, 1) ∧ 38 + 1 = 39 := by decide +kernel
theorem zi_238_39 : zraw 238 39 = some (.getfield 184, 3) ∧ zft (zinf 238).1 184 = some (10, 78, 3, true) ∧ 39 + 3 = 42 := by decide +kernel
theorem zi_238_42 : zraw 238 42 = some (.iload_n 2, 1) ∧ 42 + 1 = 43 := by decide +kernel
theorem zi_238_43 : zraw 238 43 = some (.iload_n 2, 1) ∧ 43 + 1 = 44 := by decide +kernel
theorem zi_238_44 : zraw 238 44 = some (.iastore, 1) ∧ 44 + 1 = 45 := by decide +kernel
theorem zi_238_45 : zraw 238 45 = some (.aload_n 0, 1) ∧ 45 + 1 = 46 := by decide +kernel
theorem zi_238_46 : zraw 238 46 = some (.getfield 187, 3) ∧ zft (zinf 238).1 187 = some (10, 79, 3, true) ∧ 46 + 3 = 49 := by decide +kernel
theorem zi_238_49 : zraw 238 49 = some (.iload_n 2, 1) ∧ 49 + 1 = 50 := by decide +kernel
theorem zi_238_50 : zraw 238 50 = some (.iload_n 3, 1) ∧ 50 + 1 = 51 := by decide +kernel
theorem zi_238_51 : zraw 238 51 = some (.iconst (-1), 1) ∧ zin 128 (-1) = true ∧ 51 + 1 = 52 := by decide +kernel
theorem zi_238_52 : zraw 238 52 = some (.if_icmp .ne 7, 3) ∧ ((52 : Nat) : Int) + 7 = Int.ofNat 59 ∧ 52 + 3 = 55 := by decide +kernel
theorem zi_238_55 : zraw 238 55 = some (.iconst 0, 1) ∧ zin 128 0 = true ∧ 55 + 1 = 56 := by decide +kernel
theorem zi_238_56 : zraw 238 56 = some (.goto 11, 3) ∧ ((56 : Nat) : Int) + 11 = Int.ofNat 67 := by decide +kernel
theorem zi_238_59 : zraw 238 59 = some (.aload_n 0, 1) ∧ 59 + 1 = 60 := by decide +kernel
theorem zi_238_60 : zraw 238 60 = some (.getfield 187, 3) ∧ zft (zinf 238).1 187 = some (10, 79, 3, true) ∧ 60 + 3 = 63 := by decide +kernel
theorem zi_238_63 : zraw 238 63 = some (.iload_n 3, 1) ∧ 63 + 1 = 64 := by decide +kernel
theorem zi_238_64 : zraw 238 64 = some (.iaload, 1) ∧ 64 + 1 = 65 := by decide +kernel
theorem zi_238_65 : zraw 238 65 = some (.iconst 1, 1) ∧ zin 128 1 = true ∧ 65 + 1 = 66 := by decide +kernel
theorem zi_238_66 : zraw 238 66 = some (.iadd, 1) ∧ 66 + 1 = 67 := by decide +kernel
theorem zi_238_67 : zraw 238 67 = some (.iastore, 1) ∧ 67 + 1 = 68 := by decide +kernel
theorem zi_238_68 : zraw 238 68 = some (.aload_n 0, 1) ∧ 68 + 1 = 69 := by decide +kernel
theorem zi_238_69 : zraw 238 69 = some (.getfield 190, 3) ∧ zft (zinf 238).1 190 = some (10, 80, 3, true) ∧ 69 + 3 = 72 := by decide +kernel
theorem zi_238_72 : zraw 238 72 = some (.iload_n 2, 1) ∧ 72 + 1 = 73 := by decide +kernel
theorem zi_238_73 : zraw 238 73 = some (.aload_n 0, 1) ∧ 73 + 1 = 74 := by decide +kernel
theorem zi_238_74 : zraw 238 74 = some (.getfield 16, 3) ∧ zft (zinf 238).1 16 = some (10, 9, 3, true) ∧ 74 + 3 = 77 := by decide +kernel
theorem zi_238_77 : zraw 238 77 = some (.bipush 20, 2) ∧ zin 128 20 = true ∧ 77 + 2 = 79 := by decide +kernel
theorem zi_238_79 : zraw 238 79 = some (.iload_n 1, 1) ∧ 79 + 1 = 80 := by decide +kernel
theorem zi_238_80 : zraw 238 80 = some (.imul, 1) ∧ 80 + 1 = 81 := by decide +kernel
theorem zi_238_81 : zraw 238 81 = some (.iload_n 2, 1) ∧ 81 + 1 = 82 := by decide +kernel
theorem zi_238_82 : zraw 238 82 = some (.iadd, 1) ∧ 82 + 1 = 83 := by decide +kernel
theorem zi_238_83 : zraw 238 83 = some (.laload, 1) ∧ 83 + 1 = 84 := by decide +kernel
theorem zi_238_84 : zraw 238 84 = some (.lastore, 1) ∧ 84 + 1 = 85 := by decide +kernel
theorem zi_238_85 : zraw 238 85 = some (.iinc 2 1, 3) ∧ zin 32768 1 = true ∧ 85 + 3 = 88 := by decide +kernel
theorem zi_238_88 : zraw 238 88 = some (.goto (-70), 3) ∧ ((88 : Nat) : Int) + (-70) = Int.ofNat 18 := by decide +kernel
theorem zi_238_91 : zraw 238 91 = some (.return_, 1) ∧ (zinf 238).2.2.2.1 = 0 := by decide +kernel
theorem ze_238 {K : List zF} {σ : zW} {x1 : Int} : zEv true (zent 238 [.inr (.inr 122), .inl x1] :: K) σ = ((0 ≤ x1 ∧ x1 < 3) ∧ zEv true ((238, 18, [some (.inr (.inr 122)), some (.inl x1), some (.inl 0), none], []) :: K) (sI (sI σ 122 77 (gI σ 124 x1.toNat)) 122 85 20)) :=
  yT_en (f := (238, 0, [some (.inr (.inr 122)), some (.inl x1), none, none], [])) rfl (yI_aload_n zi_238_0 rfl <| yI_aload_n zi_238_1 rfl <| yI_gf_f (v := 124) zi_238_2 zk_122 rfl <| yI_iload_n zi_238_5 rfl <| yI_ialoadc (v := gI σ 124 x1.toNat) zi_238_6 za_124 rfl <| yI_pf_i zi_238_7 zk_122 <| yI_aload_n zi_238_10 rfl <| yI_bipush zi_238_11 <| yI_pf_i zi_238_13 zk_122 <| yI_iconst zi_238_16 <| yI_istore_n (l := [some (.inr (.inr 122)), some (.inl x1), some (.inl 0), none]) zi_238_17 rfl rfl <| rfl)
theorem zj_238_18 {K : List zF} {σ : zW} {x1 : Int} {x2 : Int} {o3 : Option zV} : zEv true ((238, 18, [some (.inr (.inr 122)), some (.inl x1), some (.inl x2), o3], []) :: K) σ = (if (gI σ 122 77) ≤ x2 then zRet true K none σ else (0 ≤ (w32 ((w32 (20 * x1)) + x2)) ∧ (w32 ((w32 (20 * x1)) + x2)) < 60) ∧ ((0 ≤ x2 ∧ x2 < 24) ∧ (((¬ (gI σ 126 ((w32 ((w32 (20 * x1)) + x2)).toNat)) = (-1)) → (0 ≤ (gI σ 126 ((w32 ((w32 (20 * x1)) + x2)).toNat)) ∧ (gI σ 126 ((w32 ((w32 (20 * x1)) + x2)).toNat)) < 24)) ∧ ((0 ≤ x2 ∧ x2 < 24) ∧ ((0 ≤ (w32 ((w32 (20 * x1)) + x2)) ∧ (w32 ((w32 (20 * x1)) + x2)) < 60) ∧ ((0 ≤ x2 ∧ x2 < 24) ∧ zEv true ((238, 18, [some (.inr (.inr 122)), some (.inl x1), some (.inl (w32 (x2 + 1))), some (.inl (gI σ 126 ((w32 ((w32 (20 * x1)) + x2)).toNat)))], []) :: K) (sL (sI (sI σ 179 x2.toNat x2) 180 x2.toNat (if ¬ (gI σ 126 ((w32 ((w32 (20 * x1)) + x2)).toNat)) = (-1) then w32 ((gI σ 180 ((gI σ 126 ((w32 ((w32 (20 * x1)) + x2)).toNat)).toNat)) + 1) else 0 : Int)) 181 x2.toNat (gL σ 125 ((w32 ((w32 (20 * x1)) + x2)).toNat))))))))) :=
  yI_iload_n zi_238_18 rfl <| yI_aload_n zi_238_19 rfl <| yI_gf_i (v := gI σ 122 77) zi_238_20 zk_122 rfl <| yI_ic_ge zi_238_23 <| yBr (yI_ret zi_238_91) (yI_aload_n zi_238_26 rfl <| yI_gf_f (v := 126) zi_238_27 zk_122 rfl <| yI_bipush zi_238_30 <| yI_iload_n zi_238_32 rfl <| yI_imul zi_238_33 <| yI_iload_n zi_238_34 rfl <| yI_iadd zi_238_35 <| yI_ialoadc (v := gI σ 126 ((w32 ((w32 (20 * x1)) + x2)).toNat)) zi_238_36 za_126 rfl <| yI_istore_n (l := [some (.inr (.inr 122)), some (.inl x1), some (.inl x2), some (.inl (gI σ 126 ((w32 ((w32 (20 * x1)) + x2)).toNat)))]) zi_238_37 rfl rfl <| yI_aload_n zi_238_38 rfl <| yI_gf_f (v := 179) zi_238_39 zk_122 rfl <| yI_iload_n zi_238_42 rfl <| yI_iload_n zi_238_43 rfl <| yI_iastorec zi_238_44 za_179 <| yI_aload_n zi_238_45 rfl <| yI_gf_f (v := 180) zi_238_46 zk_122 rfl <| yI_iload_n zi_238_49 rfl <| yI_iload_n zi_238_50 rfl <| yI_iconst zi_238_51 <| yI_ic_ne zi_238_52 <| yMi1 (j := 67) (ls2 := [some (.inr (.inr 122)), some (.inl x1), some (.inl x2), some (.inl (gI σ 126 ((w32 ((w32 (20 * x1)) + x2)).toNat)))]) (st2 := [.inl x2, .inr (.inr 180)]) (x := w32 ((gI σ 180 ((gI σ 126 ((w32 ((w32 (20 * x1)) + x2)).toNat)).toNat)) + 1)) (y := 0) (σ2 := (sI σ 179 x2.toNat x2)) (yI_aload_n zi_238_59 rfl <| yI_gf_f (v := 180) zi_238_60 zk_122 rfl <| yI_iload_n zi_238_63 rfl <| yI_ialoadc (v := gI σ 180 ((gI σ 126 ((w32 ((w32 (20 * x1)) + x2)).toNat)).toNat)) zi_238_64 za_180 (yGI_nk (by decide)) <| yI_iconst zi_238_65 <| yI_iadd zi_238_66 <| rfl) (yI_iconst zi_238_55 <| yI_goto zi_238_56 <| rfl) <| yI_iastorec zi_238_67 za_180 <| yI_aload_n zi_238_68 rfl <| yI_gf_f (v := 181) zi_238_69 zk_122 rfl <| yI_iload_n zi_238_72 rfl <| yI_aload_n zi_238_73 rfl <| yI_gf_f (v := 125) zi_238_74 zk_122 rfl <| yI_bipush zi_238_77 <| yI_iload_n zi_238_79 rfl <| yI_imul zi_238_80 <| yI_iload_n zi_238_81 rfl <| yI_iadd zi_238_82 <| yI_laloadc (v := gL σ 125 ((w32 ((w32 (20 * x1)) + x2)).toNat)) zi_238_83 za_125 rfl <| yI_lastorec zi_238_84 za_181 <| yI_iinc (l := [some (.inr (.inr 122)), some (.inl x1), some (.inl (w32 (x2 + 1))), some (.inl (gI σ 126 ((w32 ((w32 (20 * x1)) + x2)).toNat)))]) zi_238_85 rfl rfl rfl <| yI_goto zi_238_88 <| rfl)
/-- 239 TreegrabModel.rolls(I)V -/
theorem zi_239_0 : zraw 239 0 = some (.aload_n 0, 1) ∧ 0 + 1 = 1 := by decide +kernel
theorem zi_239_1 : zraw 239 1 = some (.getfield 13, 3) ∧ zft (zinf 239).1 13 = some (10, 8, 3, true) ∧ 1 + 3 = 4 := by decide +kernel
theorem zi_239_4 : zraw 239 4 = some (.iload_n 1, 1) ∧ 4 + 1 = 5 := by decide +kernel
theorem zi_239_5 : zraw 239 5 = some (.aload_n 0, 1) ∧ 5 + 1 = 6 := by decide +kernel
theorem zi_239_6 : zraw 239 6 = some (.getfield 498, 3) ∧ zft (zinf 239).1 498 = some (10, 77, 0, false) ∧ 6 + 3 = 9 := by decide +kernel
theorem zi_239_9 : zraw 239 9 = some (.iastore, 1) ∧ 9 + 1 = 10 := by decide +kernel
theorem zi_239_10 : zraw 239 10 = some (.iconst 0, 1) ∧ zin 128 0 = true ∧ 10 + 1 = 11 := by decide +kernel
theorem zi_239_11 : zraw 239 11 = some (.istore_n 2, 1) ∧ 11 + 1 = 12 := by decide +kernel
theorem zi_239_12 : zraw 239 12 = some (.iload_n 2, 1) ∧ 12 + 1 = 13 := by decide +kernel
theorem zi_239_13 : zraw 239 13 = some (.aload_n 0, 1) ∧ 13 + 1 = 14 := by decide +kernel
theorem zi_239_14 : zraw 239 14 = some (.getfield 498, 3) ∧ zft (zinf 239).1 498 = some (10, 77, 0, false) ∧ 14 + 3 = 17 := by decide +kernel
theorem zi_239_17 : zraw 239 17 = some (.if_icmp .ge 42, 3) ∧ ((17 : Nat) : Int) + 42 = Int.ofNat 59 ∧ 17 + 3 = 20 := by decide +kernel
theorem zi_239_20 : zraw 239 20 = some (.aload_n 0, 1) ∧ 20 + 1 = 21 := by decide +kernel
theorem zi_239_21 : zraw 239 21 = some (.getfield 16, 3) ∧ zft (zinf 239).1 16 = some (10, 9, 3, true) ∧ 21 + 3 = 24 := by decide +kernel
theorem zi_239_24 : zraw 239 24 = some (.bipush 20, 2) ∧ zin 128 20 = true ∧ 24 + 2 = 26 := by decide +kernel
theorem zi_239_26 : zraw 239 26 = some (.iload_n 1, 1) ∧ 26 + 1 = 27 := by decide +kernel
theorem zi_239_27 : zraw 239 27 = some (.imul, 1) ∧ 27 + 1 = 28 := by decide +kernel
theorem zi_239_28 : zraw 239 28 = some (.iload_n 2, 1) ∧ 28 + 1 = 29 := by decide +kernel
theorem zi_239_29 : zraw 239 29 = some (.iadd, 1) ∧ 29 + 1 = 30 := by decide +kernel
theorem zi_239_30 : zraw 239 30 = some (.aload_n 0, 1) ∧ 30 + 1 = 31 := by decide +kernel
theorem zi_239_31 : zraw 239 31 = some (.getfield 190, 3) ∧ zft (zinf 239).1 190 = some (10, 80, 3, true) ∧ 31 + 3 = 34 := by decide +kernel
theorem zi_239_34 : zraw 239 34 = some (.iload_n 2, 1) ∧ 34 + 1 = 35 := by decide +kernel
theorem zi_239_35 : zraw 239 35 = some (.laload, 1) ∧ 35 + 1 = 36 := by decide +kernel
theorem zi_239_36 : zraw 239 36 = some (.lastore, 1) ∧ 36 + 1 = 37 := by decide +kernel
theorem zi_239_37 : zraw 239 37 = some (.aload_n 0, 1) ∧ 37 + 1 = 38 := by decide +kernel
theorem zi_239_38 : zraw 239 38 = some (.getfield 20, 3) ∧ zft (zinf 239).1 20 = some (10, 10, 3, true) ∧ 38 + 3 = 41 := by decide +kernel
theorem zi_239_41 : zraw 239 41 = some (.bipush 20, 2) ∧ zin 128 20 = true ∧ 41 + 2 = 43 := by decide +kernel
theorem zi_239_43 : zraw 239 43 = some (.iload_n 1, 1) ∧ 43 + 1 = 44 := by decide +kernel
theorem zi_239_44 : zraw 239 44 = some (.imul, 1) ∧ 44 + 1 = 45 := by decide +kernel
theorem zi_239_45 : zraw 239 45 = some (.iload_n 2, 1) ∧ 45 + 1 = 46 := by decide +kernel
theorem zi_239_46 : zraw 239 46 = some (.iadd, 1) ∧ 46 + 1 = 47 := by decide +kernel
theorem zi_239_47 : zraw 239 47 = some (.aload_n 0, 1) ∧ 47 + 1 = 48 := by decide +kernel
theorem zi_239_48 : zraw 239 48 = some (.iload_n 2, 1) ∧ 48 + 1 = 49 := by decide +kernel
theorem zi_239_49 : zraw 239 49 = some (.invokevirtual 514, 3) ∧ zmt (zinf 239).1 514 = some 223 ∧ Nat.ble 9000 223 = false ∧ zinf 223 = (10, 2, 3, 1, 0) ∧ 49 + 3 = 52 := by decide +kernel
theorem zi_239_52 : zraw 239 52 = some (.iastore, 1) ∧ 52 + 1 = 53 := by decide +kernel
theorem zi_239_53 : zraw 239 53 = some (.iinc 2 1, 3) ∧ zin 32768 1 = true ∧ 53 + 3 = 56 := by decide +kernel
theorem zi_239_56 : zraw 239 56 = some (.goto (-44), 3) ∧ ((56 : Nat) : Int) + (-44) = Int.ofNat 12 := by decide +kernel
theorem zi_239_59 : zraw 239 59 = some (.return_, 1) ∧ (zinf 239).2.2.2.1 = 0 := by decide +kernel
theorem ze_239 {K : List zF} {σ : zW} {x1 : Int} : zEv true (zent 239 [.inr (.inr 122), .inl x1] :: K) σ = ((0 ≤ x1 ∧ x1 < 3) ∧ zEv true ((239, 12, [some (.inr (.inr 122)), some (.inl x1), some (.inl 0)], []) :: K) (sI σ 124 x1.toNat (gI σ 122 77))) :=
  yT_en (f := (239, 0, [some (.inr (.inr 122)), some (.inl x1), none], [])) rfl (yI_aload_n zi_239_0 rfl <| yI_gf_f (v := 124) zi_239_1 zk_122 rfl <| yI_iload_n zi_239_4 rfl <| yI_aload_n zi_239_5 rfl <| yI_gf_i (v := gI σ 122 77) zi_239_6 zk_122 rfl <| yI_iastorec zi_239_9 za_124 <| yI_iconst zi_239_10 <| yI_istore_n (l := [some (.inr (.inr 122)), some (.inl x1), some (.inl 0)]) zi_239_11 rfl rfl <| rfl)
theorem zj_239_12 {K : List zF} {σ : zW} {x1 : Int} {x2 : Int} (hK : K.length < 60) : zEv true ((239, 12, [some (.inr (.inr 122)), some (.inl x1), some (.inl x2)], []) :: K) σ = (if (gI σ 122 77) ≤ x2 then zRet true K none σ else (0 ≤ x2 ∧ x2 < 24) ∧ ((0 ≤ (w32 ((w32 (20 * x1)) + x2)) ∧ (w32 ((w32 (20 * x1)) + x2)) < 60) ∧ zEv true (zent 223 [.inr (.inr 122), .inl x2] :: (239, 52, [some (.inr (.inr 122)), some (.inl x1), some (.inl x2)], [.inl (w32 ((w32 (20 * x1)) + x2)), .inr (.inr 126)]) :: K) (sL σ 125 ((w32 ((w32 (20 * x1)) + x2)).toNat) (gL σ 181 x2.toNat)))) :=
  yI_iload_n zi_239_12 rfl <| yI_aload_n zi_239_13 rfl <| yI_gf_i (v := gI σ 122 77) zi_239_14 zk_122 rfl <| yI_ic_ge zi_239_17 <| yBr (yI_ret zi_239_59) (yI_aload_n zi_239_20 rfl <| yI_gf_f (v := 125) zi_239_21 zk_122 rfl <| yI_bipush zi_239_24 <| yI_iload_n zi_239_26 rfl <| yI_imul zi_239_27 <| yI_iload_n zi_239_28 rfl <| yI_iadd zi_239_29 <| yI_aload_n zi_239_30 rfl <| yI_gf_f (v := 181) zi_239_31 zk_122 rfl <| yI_iload_n zi_239_34 rfl <| yI_laloadc (v := gL σ 181 x2.toNat) zi_239_35 za_181 rfl <| yI_lastorec zi_239_36 za_125 <| yI_aload_n zi_239_37 rfl <| yI_gf_f (v := 126) zi_239_38 zk_122 rfl <| yI_bipush zi_239_41 <| yI_iload_n zi_239_43 rfl <| yI_imul zi_239_44 <| yI_iload_n zi_239_45 rfl <| yI_iadd zi_239_46 <| yI_aload_n zi_239_47 rfl <| yI_iload_n zi_239_48 rfl <| yI_cv zi_239_49 rfl rfl zk_122 hK)
theorem zr_239_52 {K : List zF} {σ : zW} {x1 : Int} {x2 : Int} {s0 : Int} {v : Int} : zRet true ((239, 52, [some (.inr (.inr 122)), some (.inl x1), some (.inl x2)], [.inl s0, .inr (.inr 126)]) :: K) (some (.inl v)) σ = ((0 ≤ s0 ∧ s0 < 60) ∧ zEv true ((239, 12, [some (.inr (.inr 122)), some (.inl x1), some (.inl (w32 (x2 + 1)))], []) :: K) (sI σ 126 s0.toNat v)) :=
  yT_rt (yI_iastorec zi_239_52 za_126 <| yI_iinc (l := [some (.inr (.inr 122)), some (.inl x1), some (.inl (w32 (x2 + 1)))]) zi_239_53 rfl rfl rfl <| yI_goto zi_239_56 <| rfl)
/-- 240 TreegrabModel.edit(I)I -/
theorem zi_240_0 : zraw 240 0 = some (.aload_n 0, 1) ∧ 0 + 1 = 1 := by decide +kernel
theorem zi_240_1 : zraw 240 1 = some (.iload_n 1, 1) ∧ 1 + 1 = 2 := by decide +kernel
theorem zi_240_2 : zraw 240 2 = some (.invokestatic 358, 3) ∧ zmt (zinf 240).1 358 = some 143 ∧ Nat.ble 9000 143 = false ∧ zinf 143 = (10, 1, 1, 2, 1) ∧ 2 + 3 = 5 := by decide +kernel
theorem zi_240_5 : zraw 240 5 = some (.ifCond .eq 7, 3) ∧ ((5 : Nat) : Int) + 7 = Int.ofNat 12 ∧ 5 + 3 = 8 := by decide +kernel
theorem zi_240_8 : zraw 240 8 = some (.iconst 0, 1) ∧ zin 128 0 = true ∧ 8 + 1 = 9 := by decide +kernel
theorem zi_240_9 : zraw 240 9 = some (.goto 4, 3) ∧ ((9 : Nat) : Int) + 4 = Int.ofNat 13 := by decide +kernel
theorem zi_240_12 : zraw 240 12 = some (.iconst 1, 1) ∧ zin 128 1 = true ∧ 12 + 1 = 13 := by decide +kernel
theorem zi_240_13 : zraw 240 13 = some (.invokevirtual 353, 3) ∧ zmt (zinf 240).1 353 = some 141 ∧ Nat.ble 9000 141 = false ∧ zinf 141 = (10, 2, 2, 2, 0) ∧ 13 + 3 = 16 := by decide +kernel
theorem zi_240_16 : zraw 240 16 = some (.ifCond .eq 11, 3) ∧ ((16 : Nat) : Int) + 11 = Int.ofNat 27 ∧ 16 + 3 = 19 := by decide +kernel
theorem zi_240_19 : zraw 240 19 = some (.aload_n 0, 1) ∧ 19 + 1 = 20 := by decide +kernel
theorem zi_240_20 : zraw 240 20 = some (.iload_n 1, 1) ∧ 20 + 1 = 21 := by decide +kernel
theorem zi_240_21 : zraw 240 21 = some (.invokevirtual 470, 3) ∧ zmt (zinf 240).1 470 = some 207 ∧ Nat.ble 9000 207 = false ∧ zinf 207 = (10, 2, 2, 1, 0) ∧ 21 + 3 = 24 := by decide +kernel
theorem zi_240_24 : zraw 240 24 = some (.ifCond .ne 5, 3) ∧ ((24 : Nat) : Int) + 5 = Int.ofNat 29 ∧ 24 + 3 = 27 := by decide +kernel
theorem zi_240_27 : zraw 240 27 = some (.iconst 0, 1) ∧ zin 128 0 = true ∧ 27 + 1 = 28 := by decide +kernel
theorem zi_240_28 : zraw 240 28 = some (.ireturn, 1) ∧ (zinf 240).2.2.2.1 = 1 := by decide +kernel
theorem zi_240_29 : zraw 240 29 = some (.aload_n 0, 1) ∧ 29 + 1 = 30 := by decide +kernel
theorem zi_240_30 : zraw 240 30 = some (.iconst 0, 1) ∧ zin 128 0 = true ∧ 30 + 1 = 31 := by decide +kernel
theorem zi_240_31 : zraw 240 31 = some (.invokevirtual 473, 3) ∧ zmt (zinf 240).1 473 = some 210 ∧ Nat.ble 9000 210 = false ∧ zinf 210 = (10, 2, 3, 0, 0) ∧ 31 + 3 = 34 := by decide +kernel
theorem zi_240_34 : zraw 240 34 = some (.aload_n 0, 1) ∧ 34 + 1 = 35 := by decide +kernel
theorem zi_240_35 : zraw 240 35 = some (.iload_n 1, 1) ∧ 35 + 1 = 36 := by decide +kernel
theorem zi_240_36 : zraw 240 36 = some (.invokevirtual 561, 3) ∧ zmt (zinf 240).1 561 = some 238 ∧ Nat.ble 9000 238 = false ∧ zinf 238 = (10, 2, 4, 0, 0) ∧ 36 + 3 = 39 := by decide +kernel
theorem zi_240_39 : zraw 240 39 = some (.iconst 0, 1) ∧ zin 128 0 = true ∧ 39 + 1 = 40 := by decide +kernel
theorem zi_240_40 : zraw 240 40 = some (.istore_n 2, 1) ∧ 40 + 1 = 41 := by decide +kernel
theorem zi_240_41 : zraw 240 41 = some (.iconst 0, 1) ∧ zin 128 0 = true ∧ 41 + 1 = 42 := by decide +kernel
theorem zi_240_42 : zraw 240 42 = some (.istore_n 3, 1) ∧ 42 + 1 = 43 := by decide +kernel
theorem zi_240_43 : zraw 240 43 = some (.iload_n 3, 1) ∧ 43 + 1 = 44 := by decide +kernel
theorem zi_240_44 : zraw 240 44 = some (.aload_n 0, 1) ∧ 44 + 1 = 45 := by decide +kernel
theorem zi_240_45 : zraw 240 45 = some (.getfield 350, 3) ∧ zft (zinf 240).1 350 = some (10, 52, 0, false) ∧ 45 + 3 = 48 := by decide +kernel
theorem zi_240_48 : zraw 240 48 = some (.if_icmp .ge 41, 3) ∧ ((48 : Nat) : Int) + 41 = Int.ofNat 89 ∧ 48 + 3 = 51 := by decide +kernel
theorem zi_240_51 : zraw 240 51 = some (.aload_n 0, 1) ∧ 51 + 1 = 52 := by decide +kernel
theorem zi_240_52 : zraw 240 52 = some (.iload_n 3, 1) ∧ 52 + 1 = 53 := by decide +kernel
theorem zi_240_53 : zraw 240 53 = some (.invokevirtual 564, 3) ∧ zmt (zinf 240).1 564 = some 237 ∧ Nat.ble 9000 237 = false ∧ zinf 237 = (10, 2, 7, 1, 0) ∧ 53 + 3 = 56 := by decide +kernel
theorem zi_240_56 : zraw 240 56 = some (.istore 4, 2) ∧ 56 + 2 = 58 := by decide +kernel
theorem zi_240_58 : zraw 240 58 = some (.aload_n 0, 1) ∧ 58 + 1 = 59 := by decide +kernel
theorem zi_240_59 : zraw 240 59 = some (.iload 4, 2) ∧ 59 + 2 = 61 := by decide +kernel
theorem zi_240_61 : zraw 240 61 = some (.iconst 2, 1) ∧ zin 128 2 = true ∧ 61 + 1 = 62 := by decide +kernel
theorem zi_240_62 : zraw 240 62 = some (.if_icmp .ne 7, 3) ∧ ((62 : Nat) : Int) + 7 = Int.ofNat 69 ∧ 62 + 3 = 65 := by decide +kernel
theorem zi_240_65 : zraw 240 65 = some (.iconst 2, 1) ∧ zin 128 2 = true ∧ 65 + 1 = 66 := by decide +kernel
theorem zi_240_66 : zraw 240 66 = some (.goto 4, 3) ∧ ((66 : Nat) : Int) + 4 = Int.ofNat 70 := by decide +kernel
theorem zi_240_69 : zraw 240 69 = some (.iconst 0, 1) ∧ zin 128 0 = true ∧ 69 + 1 = 70 := by decide +kernel
theorem zi_240_70 : zraw 240 70 = some (.invokevirtual 353, 3) ∧ zmt (zinf 240).1 353 = some 141 ∧ Nat.ble 9000 141 = false ∧ zinf 141 = (10, 2, 2, 2, 0) ∧ 70 + 3 = 73 := by decide +kernel
theorem zi_240_73 : zraw 240 73 = some (.ifCond .ne 5, 3) ∧ ((73 : Nat) : Int) + 5 = Int.ofNat 78 ∧ 73 + 3 = 76 := by decide +kernel
theorem zi_240_76 : zraw 240 76 = some (.iconst 0, 1) ∧ zin 128 0 = true ∧ 76 + 1 = 77 := by decide +kernel
theorem zi_240_77 : zraw 240 77 = some (.ireturn, 1) ∧ (zinf 240).2.2.2.1 = 1 := by decide +kernel
theorem zi_240_78 : zraw 240 78 = some (.iload_n 2, 1) ∧ 78 + 1 = 79 := by decide +kernel
theorem zi_240_79 : zraw 240 79 = some (.iload 4, 2) ∧ 79 + 2 = 81 := by decide +kernel
theorem zi_240_81 : zraw 240 81 = some (.iadd, 1) ∧ 81 + 1 = 82 := by decide +kernel
theorem zi_240_82 : zraw 240 82 = some (.istore_n 2, 1) ∧ 82 + 1 = 83 := by decide +kernel
theorem zi_240_83 : zraw 240 83 = some (.iinc 3 1, 3) ∧ zin 32768 1 = true ∧ 83 + 3 = 86 := by decide +kernel
theorem zi_240_86 : zraw 240 86 = some (.goto (-43), 3) ∧ ((86 : Nat) : Int) + (-43) = Int.ofNat 43 := by decide +kernel
theorem zi_240_89 : zraw 240 89 = some (.iload_n 2, 1) ∧ 89 + 1 = 90 := by decide +kernel
theorem zi_240_90 : zraw 240 90 = some (.ifCond .le 18, 3) ∧ ((90 : Nat) : Int) + 18 = Int.ofNat 108 ∧ 90 + 3 = 93 := by decide +kernel
theorem zi_240_93 : zraw 240 93 = some (.aload_n 0, 1) ∧ 93 + 1 = 94 := by decide +kernel
theorem zi_240_94 : zraw 240 94 = some (.iload_n 1, 1) ∧ 94 + 1 = 95 := by decide +kernel
theorem zi_240_95 : zraw 240 95 = some (.invokevirtual 567, 3) ∧ zmt (zinf 240).1 567 = some 241 ∧ Nat.ble 9000 241 = false ∧ zinf 241 = (10, 2, 3, 0, 0) ∧ 95 + 3 = 98 := by decide +kernel
theorem zi_240_98 : zraw 240 98 = some (.aload_n 0, 1) ∧ 98 + 1 = 99 := by decide +kernel
theorem zi_240_99 : zraw 240 99 = some (.iload_n 1, 1) ∧ 99 + 1 = 100 := by decide +kernel
theorem zi_240_100 : zraw 240 100 = some (.invokevirtual 570, 3) ∧ zmt (zinf 240).1 570 = some 239 ∧ Nat.ble 9000 239 = false ∧ zinf 239 = (10, 2, 3, 0, 0) ∧ 100 + 3 = 103 := by decide +kernel
theorem zi_240_103 : zraw 240 103 = some (.aload_n 0, 1) ∧ 103 + 1 = 104 := by decide +kernel
theorem zi_240_104 : zraw 240 104 = some (.iconst (-1), 1) ∧ zin 128 (-1) = true ∧ 104 + 1 = 105 := by decide +kernel
theorem zi_240_105 : zraw 240 105 = some (.putfield 153, 3) ∧ zft (zinf 240).1 153 = some (10, 64, 0, false) ∧ 105 + 3 = 108 := by decide +kernel
theorem zi_240_108 : zraw 240 108 = some (.iload_n 2, 1) ∧ 108 + 1 = 109 := by decide +kernel
theorem zi_240_109 : zraw 240 109 = some (.ireturn, 1) ∧ (zinf 240).2.2.2.1 = 1 := by decide +kernel
theorem ze_240 {K : List zF} {σ : zW} {x1 : Int} (hK : K.length < 60) : zEv true (zent 240 [.inr (.inr 122), .inl x1] :: K) σ = (zEv true (zent 143 [.inl x1] :: (240, 5, [some (.inr (.inr 122)), some (.inl x1), none, none, none], [.inr (.inr 122)]) :: K) σ) :=
  yT_en (f := (240, 0, [some (.inr (.inr 122)), some (.inl x1), none, none, none], [])) rfl (yI_aload_n zi_240_0 rfl <| yI_iload_n zi_240_1 rfl <| yI_cs zi_240_2 rfl rfl hK)
theorem zr_240_5 {K : List zF} {σ : zW} {x1 : Int} {o2 : Option zV} {o3 : Option zV} {o4 : Option zV} {v : Int} (hK : K.length < 60) : zRet true ((240, 5, [some (.inr (.inr 122)), some (.inl x1), o2, o3, o4], [.inr (.inr 122)]) :: K) (some (.inl v)) σ = (zEv true (zent 141 [.inr (.inr 122), .inl (if v = 0 then 1 else 0 : Int)] :: (240, 16, [some (.inr (.inr 122)), some (.inl x1), o2, o3, o4], []) :: K) σ) :=
  yT_rt (yI_if_eq zi_240_5 <| yMi0 (j := 13) (ls2 := [some (.inr (.inr 122)), some (.inl x1), o2, o3, o4]) (st2 := [.inr (.inr 122)]) (x := 1) (y := 0) (σ2 := σ) (yI_iconst zi_240_12 <| rfl) (yI_iconst zi_240_8 <| yI_goto zi_240_9 <| rfl) <| yI_cv zi_240_13 rfl rfl zk_122 hK)
theorem zr_240_16 {K : List zF} {σ : zW} {x1 : Int} {o2 : Option zV} {o3 : Option zV} {o4 : Option zV} {v : Int} (hK : K.length < 60) : zRet true ((240, 16, [some (.inr (.inr 122)), some (.inl x1), o2, o3, o4], []) :: K) (some (.inl v)) σ = (if v = 0 then zRet true K (some (.inl 0)) σ else zEv true (zent 207 [.inr (.inr 122), .inl x1] :: (240, 24, [some (.inr (.inr 122)), some (.inl x1), o2, o3, o4], []) :: K) σ) :=
  yT_rt (yI_if_eq zi_240_16 <| yBr (yI_iconst zi_240_27 <| yI_ireturn zi_240_28) (yI_aload_n zi_240_19 rfl <| yI_iload_n zi_240_20 rfl <| yI_cv zi_240_21 rfl rfl zk_122 hK))
theorem zr_240_24 {K : List zF} {σ : zW} {x1 : Int} {o2 : Option zV} {o3 : Option zV} {o4 : Option zV} {v : Int} (hK : K.length < 60) : zRet true ((240, 24, [some (.inr (.inr 122)), some (.inl x1), o2, o3, o4], []) :: K) (some (.inl v)) σ = (if ¬ v = 0 then zEv true (zent 210 [.inr (.inr 122), .inl 0] :: (240, 34, [some (.inr (.inr 122)), some (.inl x1), o2, o3, o4], []) :: K) σ else zRet true K (some (.inl 0)) σ) :=
  yT_rt (yI_if_ne zi_240_24 <| yBr (yI_aload_n zi_240_29 rfl <| yI_iconst zi_240_30 <| yI_cv zi_240_31 rfl rfl zk_122 hK) (yI_iconst zi_240_27 <| yI_ireturn zi_240_28))
theorem zr_240_34 {K : List zF} {σ : zW} {x1 : Int} {o2 : Option zV} {o3 : Option zV} {o4 : Option zV} (hK : K.length < 60) : zRet true ((240, 34, [some (.inr (.inr 122)), some (.inl x1), o2, o3, o4], []) :: K) none σ = (zEv true (zent 238 [.inr (.inr 122), .inl x1] :: (240, 39, [some (.inr (.inr 122)), some (.inl x1), o2, o3, o4], []) :: K) σ) :=
  yT_rv (yI_aload_n zi_240_34 rfl <| yI_iload_n zi_240_35 rfl <| yI_cv zi_240_36 rfl rfl zk_122 hK)
theorem zr_240_39 {K : List zF} {σ : zW} {x1 : Int} {o2 : Option zV} {o3 : Option zV} {o4 : Option zV} : zRet true ((240, 39, [some (.inr (.inr 122)), some (.inl x1), o2, o3, o4], []) :: K) none σ = (zEv true ((240, 43, [some (.inr (.inr 122)), some (.inl x1), some (.inl 0), some (.inl 0), o4], []) :: K) σ) :=
  yT_rv (yI_iconst zi_240_39 <| yI_istore_n (l := [some (.inr (.inr 122)), some (.inl x1), some (.inl 0), o3, o4]) zi_240_40 rfl rfl <| yI_iconst zi_240_41 <| yI_istore_n (l := [some (.inr (.inr 122)), some (.inl x1), some (.inl 0), some (.inl 0), o4]) zi_240_42 rfl rfl <| rfl)
theorem zj_240_43 {K : List zF} {σ : zW} {x1 : Int} {x2 : Int} {x3 : Int} {o4 : Option zV} (hK : K.length < 60) : zEv true ((240, 43, [some (.inr (.inr 122)), some (.inl x1), some (.inl x2), some (.inl x3), o4], []) :: K) σ = (if (gI σ 122 52) ≤ x3 then if x2 ≤ 0 then zRet true K (some (.inl x2)) σ else zEv true (zent 241 [.inr (.inr 122), .inl x1] :: (240, 98, [some (.inr (.inr 122)), some (.inl x1), some (.inl x2), some (.inl x3), o4], []) :: K) σ else zEv true (zent 237 [.inr (.inr 122), .inl x3] :: (240, 56, [some (.inr (.inr 122)), some (.inl x1), some (.inl x2), some (.inl x3), o4], []) :: K) σ) :=
  yI_iload_n zi_240_43 rfl <| yI_aload_n zi_240_44 rfl <| yI_gf_i (v := gI σ 122 52) zi_240_45 zk_122 rfl <| yI_ic_ge zi_240_48 <| yBr (yI_iload_n zi_240_89 rfl <| yI_if_le zi_240_90 <| yBr (yI_iload_n zi_240_108 rfl <| yI_ireturn zi_240_109) (yI_aload_n zi_240_93 rfl <| yI_iload_n zi_240_94 rfl <| yI_cv zi_240_95 rfl rfl zk_122 hK)) (yI_aload_n zi_240_51 rfl <| yI_iload_n zi_240_52 rfl <| yI_cv zi_240_53 rfl rfl zk_122 hK)
theorem zr_240_98 {K : List zF} {σ : zW} {x1 : Int} {x2 : Int} {o3 : Option zV} {o4 : Option zV} (hK : K.length < 60) : zRet true ((240, 98, [some (.inr (.inr 122)), some (.inl x1), some (.inl x2), o3, o4], []) :: K) none σ = (zEv true (zent 239 [.inr (.inr 122), .inl x1] :: (240, 103, [some (.inr (.inr 122)), some (.inl x1), some (.inl x2), o3, o4], []) :: K) σ) :=
  yT_rv (yI_aload_n zi_240_98 rfl <| yI_iload_n zi_240_99 rfl <| yI_cv zi_240_100 rfl rfl zk_122 hK)
theorem zr_240_56 {K : List zF} {σ : zW} {x1 : Int} {x2 : Int} {x3 : Int} {o4 : Option zV} {v : Int} (hK : K.length < 60) : zRet true ((240, 56, [some (.inr (.inr 122)), some (.inl x1), some (.inl x2), some (.inl x3), o4], []) :: K) (some (.inl v)) σ = (zEv true (zent 141 [.inr (.inr 122), .inl (if ¬ v = 2 then 0 else 2 : Int)] :: (240, 73, [some (.inr (.inr 122)), some (.inl x1), some (.inl x2), some (.inl x3), some (.inl v)], []) :: K) σ) :=
  yT_rt (yI_istore (l := [some (.inr (.inr 122)), some (.inl x1), some (.inl x2), some (.inl x3), some (.inl v)]) zi_240_56 rfl rfl <| yI_aload_n zi_240_58 rfl <| yI_iload zi_240_59 rfl <| yI_iconst zi_240_61 <| yI_ic_ne zi_240_62 <| yMi0 (j := 70) (ls2 := [some (.inr (.inr 122)), some (.inl x1), some (.inl x2), some (.inl x3), some (.inl v)]) (st2 := [.inr (.inr 122)]) (x := 0) (y := 2) (σ2 := σ) (yI_iconst zi_240_69 <| rfl) (yI_iconst zi_240_65 <| yI_goto zi_240_66 <| rfl) <| yI_cv zi_240_70 rfl rfl zk_122 hK)
theorem zr_240_103 {K : List zF} {σ : zW} {o1 : Option zV} {x2 : Int} {o3 : Option zV} {o4 : Option zV} : zRet true ((240, 103, [some (.inr (.inr 122)), o1, some (.inl x2), o3, o4], []) :: K) none σ = (zRet true K (some (.inl x2)) (sI σ 122 64 (-1))) :=
  yT_rv (yI_aload_n zi_240_103 rfl <| yI_iconst zi_240_104 <| yI_pf_i zi_240_105 zk_122 <| yI_iload_n zi_240_108 rfl <| yI_ireturn zi_240_109)
theorem zr_240_73 {K : List zF} {σ : zW} {x1 : Int} {x2 : Int} {x3 : Int} {x4 : Int} {v : Int} : zRet true ((240, 73, [some (.inr (.inr 122)), some (.inl x1), some (.inl x2), some (.inl x3), some (.inl x4)], []) :: K) (some (.inl v)) σ = (if ¬ v = 0 then zEv true ((240, 43, [some (.inr (.inr 122)), some (.inl x1), some (.inl (w32 (x2 + x4))), some (.inl (w32 (x3 + 1))), some (.inl x4)], []) :: K) σ else zRet true K (some (.inl 0)) σ) :=
  yT_rt (yI_if_ne zi_240_73 <| yBr (yI_iload_n zi_240_78 rfl <| yI_iload zi_240_79 rfl <| yI_iadd zi_240_81 <| yI_istore_n (l := [some (.inr (.inr 122)), some (.inl x1), some (.inl (w32 (x2 + x4))), some (.inl x3), some (.inl x4)]) zi_240_82 rfl rfl <| yI_iinc (l := [some (.inr (.inr 122)), some (.inl x1), some (.inl (w32 (x2 + x4))), some (.inl (w32 (x3 + 1))), some (.inl x4)]) zi_240_83 rfl rfl rfl <| yI_goto zi_240_86 <| rfl) (yI_iconst zi_240_76 <| yI_ireturn zi_240_77))
/-- 241 TreegrabModel.remembers(I)V -/
theorem zi_241_0 : zraw 241 0 = some (.aload_n 0, 1) ∧ 0 + 1 = 1 := by decide +kernel
theorem zi_241_1 : zraw 241 1 = some (.getfield 29, 3) ∧ zft (zinf 241).1 29 = some (10, 15, 3, true) ∧ 1 + 3 = 4 := by decide +kernel
theorem zi_241_4 : zraw 241 4 = some (.aload_n 0, 1) ∧ 4 + 1 = 5 := by decide +kernel
theorem zi_241_5 : zraw 241 5 = some (.getfield 573, 3) ∧ zft (zinf 241).1 573 = some (10, 14, 0, false) ∧ 5 + 3 = 8 := by decide +kernel
theorem zi_241_8 : zraw 241 8 = some (.iload_n 1, 1) ∧ 8 + 1 = 9 := by decide +kernel
theorem zi_241_9 : zraw 241 9 = some (.iastore, 1) ∧ 9 + 1 = 10 := by decide +kernel
theorem zi_241_10 : zraw 241 10 = some (.aload_n 0, 1) ∧ 10 + 1 = 11 := by decide +kernel
theorem zi_241_11 : zraw 241 11 = some (.getfield 32, 3) ∧ zft (zinf 241).1 32 = some (10, 16, 3, true) ∧ 11 + 3 = 14 := by decide +kernel
theorem zi_241_14 : zraw 241 14 = some (.aload_n 0, 1) ∧ 14 + 1 = 15 := by decide +kernel
theorem zi_241_15 : zraw 241 15 = some (.getfield 573, 3) ∧ zft (zinf 241).1 573 = some (10, 14, 0, false) ∧ 15 + 3 = 18 := by decide +kernel
theorem zi_241_18 : zraw 241 18 = some (.aload_n 0, 1) ∧ 18 + 1 = 19 := by decide +kernel
theorem zi_241_19 : zraw 241 19 = some (.getfield 13, 3) ∧ zft (zinf 241).1 13 = some (10, 8, 3, true) ∧ 19 + 3 = 22 := by decide +kernel
theorem zi_241_22 : zraw 241 22 = some (.iload_n 1, 1) ∧ 22 + 1 = 23 := by decide +kernel
theorem zi_241_23 : zraw 241 23 = some (.iaload, 1) ∧ 23 + 1 = 24 := by decide +kernel
theorem zi_241_24 : zraw 241 24 = some (.iastore, 1) ∧ 24 + 1 = 25 := by decide +kernel
theorem zi_241_25 : zraw 241 25 = some (.iconst 0, 1) ∧ zin 128 0 = true ∧ 25 + 1 = 26 := by decide +kernel
theorem zi_241_26 : zraw 241 26 = some (.istore_n 2, 1) ∧ 26 + 1 = 27 := by decide +kernel
theorem zi_241_27 : zraw 241 27 = some (.iload_n 2, 1) ∧ 27 + 1 = 28 := by decide +kernel
theorem zi_241_28 : zraw 241 28 = some (.aload_n 0, 1) ∧ 28 + 1 = 29 := by decide +kernel
theorem zi_241_29 : zraw 241 29 = some (.getfield 13, 3) ∧ zft (zinf 241).1 13 = some (10, 8, 3, true) ∧ 29 + 3 = 32 := by decide +kernel
theorem zi_241_32 : zraw 241 32 = some (.iload_n 1, 1) ∧ 32 + 1 = 33 := by decide +kernel
theorem zi_241_33 : zraw 241 33 = some (.iaload, 1) ∧ 33 + 1 = 34 := by decide +kernel
theorem zi_241_34 : zraw 241 34 = some (.if_icmp .ge 52, 3) ∧ ((34 : Nat) : Int) + 52 = Int.ofNat 86 ∧ 34 + 3 = 37 := by decide +kernel
theorem zi_241_37 : zraw 241 37 = some (.aload_n 0, 1) ∧ 37 + 1 = 38 := by decide +kernel
theorem zi_241_38 : zraw 241 38 = some (.getfield 35, 3) ∧ zft (zinf 241).1 35 = some (10, 17, 3, true) ∧ 38 + 3 = 41 := by decide +kernel
theorem zi_241_41 : zraw 241 41 = some (.bipush 20, 2) ∧ zin 128 20 = true ∧ 41 + 2 = 43 := by decide +kernel
theorem zi_241_43 : zraw 241 43 = some (.aload_n 0, 1) ∧ 43 + 1 = 44 := by decide +kernel
theorem zi_241_44 : zraw 241 44 = some (.getfield 573, 3) ∧ zft (zinf 241).1 573 = some (10, 14, 0, false) ∧ 44 + 3 = 47 := by decide +kernel
theorem zi_241_47 : zraw 241 47 = some (.imul, 1) ∧ 47 + 1 = 48 := by decide +kernel
theorem zi_241_48 : zraw 241 48 = some (.iload_n 2, 1) ∧ 48 + 1 = 49 := by decide +kernel
theorem zi_241_49 : zraw 241 49 = some (.iadd, 1) ∧ 49 + 1 = 50 := by decide +kernel
theorem zi_241_50 : zraw 241 50 = some (.aload_n 0, 1) ∧ 50 + 1 = 51 := by decide +kernel
theorem zi_241_51 : zraw 241 51 = some (.getfield 16, 3) ∧ zft (zinf 241).1 16 = some (10, 9, 3, true) ∧ 51 + 3 = 54 := by decide +kernel
theorem zi_241_54 : zraw 241 54 = some (.bipush 20, 2) ∧ zin 128 20 = true ∧ 54 + 2 = 56 := by decide +kernel
theorem zi_241_56 : zraw 241 56 = some (.iload_n 1, 1) ∧ 56 + 1 = 57 := by decide +kernel
theorem zi_241_57 : zraw 241 57 = some (.imul, 1) ∧ 57 + 1 = 58 := by decide +kernel
theorem zi_241_58 : zraw 241 58 = some (.iload_n 2, 1) ∧ 58 + 1 = 59 := by decide +kernel
theorem zi_241_59 : zraw 241 59 = some (.iadd, 1) ∧ 59 + 1 = 60 := by decide +kernel
theorem zi_241_60 : zraw 241 60 = some (.laload, 1) ∧ 60 + 1 = 61 := by decide +kernel
theorem zi_241_61 : zraw 241 61 = some (.aload_n 0, 1) ∧ 61 + 1 = 62 := by decide +kernel
theorem zi_241_62 : zraw 241 62 = some (.getfield 20, 3) ∧ zft (zinf 241).1 20 = some (10, 10, 3, true) ∧ 62 + 3 = 65 := by decide +kernel
theorem zi_241_65 : zraw 241 65 = some (.bipush 20, 2) ∧ zin 128 20 = true ∧ 65 + 2 = 67 := by decide +kernel
theorem zi_241_67 : zraw 241 67 = some (.iload_n 1, 1) ∧ 67 + 1 = 68 := by decide +kernel
theorem zi_241_68 : zraw 241 68 = some (.imul, 1) ∧ 68 + 1 = 69 := by decide +kernel
theorem zi_241_69 : zraw 241 69 = some (.iload_n 2, 1) ∧ 69 + 1 = 70 := by decide +kernel
theorem zi_241_70 : zraw 241 70 = some (.iadd, 1) ∧ 70 + 1 = 71 := by decide +kernel
theorem zi_241_71 : zraw 241 71 = some (.iaload, 1) ∧ 71 + 1 = 72 := by decide +kernel
theorem zi_241_72 : zraw 241 72 = some (.iconst 1, 1) ∧ zin 128 1 = true ∧ 72 + 1 = 73 := by decide +kernel
theorem zi_241_73 : zraw 241 73 = some (.iadd, 1) ∧ 73 + 1 = 74 := by decide +kernel
theorem zi_241_74 : zraw 241 74 = some (.i2l, 1) ∧ 74 + 1 = 75 := by decide +kernel
theorem zi_241_75 : zraw 241 75 = some (.bipush 48, 2) ∧ zin 128 48 = true ∧ 75 + 2 = 77 := by decide +kernel
theorem zi_241_77 : zraw 241 77 = some (.lshl, 1) ∧ 77 + 1 = 78 := by decide +kernel
theorem zi_241_78 : zraw 241 78 = some (.lor, 1) ∧ 78 + 1 = 79 := by decide +kernel
theorem zi_241_79 : zraw 241 79 = some (.lastore, 1) ∧ 79 + 1 = 80 := by decide +kernel
theorem zi_241_80 : zraw 241 80 = some (.iinc 2 1, 3) ∧ zin 32768 1 = true ∧ 80 + 3 = 83 := by decide +kernel
theorem zi_241_83 : zraw 241 83 = some (.goto (-56), 3) ∧ ((83 : Nat) : Int) + (-56) = Int.ofNat 27 := by decide +kernel
theorem zi_241_86 : zraw 241 86 = some (.aload_n 0, 1) ∧ 86 + 1 = 87 := by decide +kernel
theorem zi_241_87 : zraw 241 87 = some (.dup, 1) ∧ 87 + 1 = 88 := by decide +kernel
theorem zi_241_88 : zraw 241 88 = some (.getfield 573, 3) ∧ zft (zinf 241).1 573 = some (10, 14, 0, false) ∧ 88 + 3 = 91 := by decide +kernel
theorem zi_241_91 : zraw 241 91 = some (.iconst 1, 1) ∧ zin 128 1 = true ∧ 91 + 1 = 92 := by decide +kernel
theorem zi_241_92 : zraw 241 92 = some (.iadd, 1) ∧ 92 + 1 = 93 := by decide +kernel
theorem zi_241_93 : zraw 241 93 = some (.putfield 573, 3) ∧ zft (zinf 241).1 573 = some (10, 14, 0, false) ∧ 93 + 3 = 96 := by decide +kernel
theorem zi_241_96 : zraw 241 96 = some (.return_, 1) ∧ (zinf 241).2.2.2.1 = 0 := by decide +kernel
theorem ze_241 {K : List zF} {σ : zW} {x1 : Int} : zEv true (zent 241 [.inr (.inr 122), .inl x1] :: K) σ = ((0 ≤ (gI σ 122 14) ∧ (gI σ 122 14) < 513) ∧ ((0 ≤ x1 ∧ x1 < 3) ∧ ((0 ≤ (gI σ 122 14) ∧ (gI σ 122 14) < 513) ∧ zEv true ((241, 27, [some (.inr (.inr 122)), some (.inl x1), some (.inl 0)], []) :: K) (sI (sI σ 129 ((gI σ 122 14).toNat) x1) 130 ((gI σ 122 14).toNat) (gI σ 124 x1.toNat))))) :=
  yT_en (f := (241, 0, [some (.inr (.inr 122)), some (.inl x1), none], [])) rfl (yI_aload_n zi_241_0 rfl <| yI_gf_f (v := 129) zi_241_1 zk_122 rfl <| yI_aload_n zi_241_4 rfl <| yI_gf_i (v := gI σ 122 14) zi_241_5 zk_122 rfl <| yI_iload_n zi_241_8 rfl <| yI_iastorec zi_241_9 za_129 <| yI_aload_n zi_241_10 rfl <| yI_gf_f (v := 130) zi_241_11 zk_122 rfl <| yI_aload_n zi_241_14 rfl <| yI_gf_i (v := gI σ 122 14) zi_241_15 zk_122 (yGI_nk (by decide)) <| yI_aload_n zi_241_18 rfl <| yI_gf_f (v := 124) zi_241_19 zk_122 rfl <| yI_iload_n zi_241_22 rfl <| yI_ialoadc (v := gI σ 124 x1.toNat) zi_241_23 za_124 (yGI_nk (by decide)) <| yI_iastorec zi_241_24 za_130 <| yI_iconst zi_241_25 <| yI_istore_n (l := [some (.inr (.inr 122)), some (.inl x1), some (.inl 0)]) zi_241_26 rfl rfl <| rfl)
theorem zj_241_27 {K : List zF} {σ : zW} {x1 : Int} {x2 : Int} : zEv true ((241, 27, [some (.inr (.inr 122)), some (.inl x1), some (.inl x2)], []) :: K) σ = ((0 ≤ x1 ∧ x1 < 3) ∧ (if (gI σ 124 x1.toNat) ≤ x2 then zRet true K none (sI σ 122 14 (w32 ((gI σ 122 14) + 1))) else (0 ≤ (w32 ((w32 (20 * x1)) + x2)) ∧ (w32 ((w32 (20 * x1)) + x2)) < 60) ∧ ((0 ≤ (w32 ((w32 (20 * x1)) + x2)) ∧ (w32 ((w32 (20 * x1)) + x2)) < 60) ∧ ((0 ≤ (w32 ((w32 (20 * (gI σ 122 14))) + x2)) ∧ (w32 ((w32 (20 * (gI σ 122 14))) + x2)) < 10260) ∧ zEv true ((241, 27, [some (.inr (.inr 122)), some (.inl x1), some (.inl (w32 (x2 + 1)))], []) :: K) (sL σ 131 ((w32 ((w32 (20 * (gI σ 122 14))) + x2)).toNat) ((gL σ 125 ((w32 ((w32 (20 * x1)) + x2)).toNat)) ||| (zlshl (zi2l (w32 ((gI σ 126 ((w32 ((w32 (20 * x1)) + x2)).toNat)) + 1))) 48))))))) :=
  yI_iload_n zi_241_27 rfl <| yI_aload_n zi_241_28 rfl <| yI_gf_f (v := 124) zi_241_29 zk_122 rfl <| yI_iload_n zi_241_32 rfl <| yI_ialoadc (v := gI σ 124 x1.toNat) zi_241_33 za_124 rfl <| yI_ic_ge zi_241_34 <| yBr (yI_aload_n zi_241_86 rfl <| yI_dup_r zi_241_87 <| yI_gf_i (v := gI σ 122 14) zi_241_88 zk_122 rfl <| yI_iconst zi_241_91 <| yI_iadd zi_241_92 <| yI_pf_i zi_241_93 zk_122 <| yI_ret zi_241_96) (yI_aload_n zi_241_37 rfl <| yI_gf_f (v := 131) zi_241_38 zk_122 rfl <| yI_bipush zi_241_41 <| yI_aload_n zi_241_43 rfl <| yI_gf_i (v := gI σ 122 14) zi_241_44 zk_122 rfl <| yI_imul zi_241_47 <| yI_iload_n zi_241_48 rfl <| yI_iadd zi_241_49 <| yI_aload_n zi_241_50 rfl <| yI_gf_f (v := 125) zi_241_51 zk_122 rfl <| yI_bipush zi_241_54 <| yI_iload_n zi_241_56 rfl <| yI_imul zi_241_57 <| yI_iload_n zi_241_58 rfl <| yI_iadd zi_241_59 <| yI_laloadc (v := gL σ 125 ((w32 ((w32 (20 * x1)) + x2)).toNat)) zi_241_60 za_125 rfl <| yI_aload_n zi_241_61 rfl <| yI_gf_f (v := 126) zi_241_62 zk_122 rfl <| yI_bipush zi_241_65 <| yI_iload_n zi_241_67 rfl <| yI_imul zi_241_68 <| yI_iload_n zi_241_69 rfl <| yI_iadd zi_241_70 <| yI_ialoadc (v := gI σ 126 ((w32 ((w32 (20 * x1)) + x2)).toNat)) zi_241_71 za_126 rfl <| yI_iconst zi_241_72 <| yI_iadd zi_241_73 <| yI_i2l zi_241_74 <| yI_bipush zi_241_75 <| yI_lshl zi_241_77 <| yI_lor zi_241_78 <| yI_lastorec zi_241_79 za_131 <| yI_iinc (l := [some (.inr (.inr 122)), some (.inl x1), some (.inl (w32 (x2 + 1)))]) zi_241_80 rfl rfl rfl <| yI_goto zi_241_83 <| rfl)
/-- 242 TreegrabModel.drops(I)V -/
theorem zi_242_0 : zraw 242 0 = some (.aload_n 0, 1) ∧ 0 + 1 = 1 := by decide +kernel
theorem zi_242_1 : zraw 242 1 = some (.dup, 1) ∧ 1 + 1 = 2 := by decide +kernel
theorem zi_242_2 : zraw 242 2 = some (.getfield 573, 3) ∧ zft (zinf 242).1 573 = some (10, 14, 0, false) ∧ 2 + 3 = 5 := by decide +kernel
theorem zi_242_5 : zraw 242 5 = some (.iconst 1, 1) ∧ zin 128 1 = true ∧ 5 + 1 = 6 := by decide +kernel
theorem zi_242_6 : zraw 242 6 = some (.isub, 1) ∧ 6 + 1 = 7 := by decide +kernel
theorem zi_242_7 : zraw 242 7 = some (.putfield 573, 3) ∧ zft (zinf 242).1 573 = some (10, 14, 0, false) ∧ 7 + 3 = 10 := by decide +kernel
theorem zi_242_10 : zraw 242 10 = some (.iload_n 1, 1) ∧ 10 + 1 = 11 := by decide +kernel
theorem zi_242_11 : zraw 242 11 = some (.istore_n 2, 1) ∧ 11 + 1 = 12 := by decide +kernel
theorem zi_242_12 : zraw 242 12 = some (.iload_n 2, 1) ∧ 12 + 1 = 13 := by decide +kernel
theorem zi_242_13 : zraw 242 13 = some (.aload_n 0, 1) ∧ 13 + 1 = 14 := by decide +kernel
theorem zi_242_14 : zraw 242 14 = some (.getfield 573, 3) ∧ zft (zinf 242).1 573 = some (10, 14, 0, false) ∧ 14 + 3 = 17 := by decide +kernel
theorem zi_242_17 : zraw 242 17 = some (.if_icmp .ge 75, 3) ∧ ((17 : Nat) : Int) + 75 = Int.ofNat 92 ∧ 17 + 3 = 20 := by decide +kernel
theorem zi_242_20 : zraw 242 20 = some (.aload_n 0, 1) ∧ 20 + 1 = 21 := by decide +kernel
theorem zi_242_21 : zraw 242 21 = some (.getfield 29, 3) ∧ zft (zinf 242).1 29 = some (10, 15, 3, true) ∧ 21 + 3 = 24 := by decide +kernel
theorem zi_242_24 : zraw 242 24 = some (.iload_n 2, 1) ∧ 24 + 1 = 25 := by decide +kernel
theorem zi_242_25 : zraw 242 25 = some (.aload_n 0, 1) ∧ 25 + 1 = 26 := by decide +kernel
theorem zi_242_26 : zraw 242 26 = some (.getfield 29, 3) ∧ zft (zinf 242).1 29 = some (10, 15, 3, true) ∧ 26 + 3 = 29 := by decide +kernel
theorem zi_242_29 : zraw 242 29 = some (.iload_n 2, 1) ∧ 29 + 1 = 30 := by decide +kernel
theorem zi_242_30 : zraw 242 30 = some (.iconst 1, 1) ∧ zin 128 1 = true ∧ 30 + 1 = 31 := by decide +kernel
theorem zi_242_31 : zraw 242 31 = some (.iadd, 1) ∧ 31 + 1 = 32 := by decide +kernel
theorem zi_242_32 : zraw 242 32 = some (.iaload, 1) ∧ 32 + 1 = 33 := by decide +kernel
theorem zi_242_33 : zraw 242 33 = some (.iastore, 1) ∧ 33 + 1 = 34 := by decide +kernel
theorem zi_242_34 : zraw 242 34 = some (.aload_n 0, 1) ∧ 34 + 1 = 35 := by decide +kernel
theorem zi_242_35 : zraw 242 35 = some (.getfield 32, 3) ∧ zft (zinf 242).1 32 = some (10, 16, 3, true) ∧ 35 + 3 = 38 := by decide +kernel
theorem zi_242_38 : zraw 242 38 = some (.iload_n 2, 1) ∧ 38 + 1 = 39 := by decide +kernel
theorem zi_242_39 : zraw 242 39 = some (.aload_n 0, 1) ∧ 39 + 1 = 40 := by decide +kernel
theorem zi_242_40 : zraw 242 40 = some (.getfield 32, 3) ∧ zft (zinf 242).1 32 = some (10, 16, 3, true) ∧ 40 + 3 = 43 := by decide +kernel
theorem zi_242_43 : zraw 242 43 = some (.iload_n 2, 1) ∧ 43 + 1 = 44 := by decide +kernel
theorem zi_242_44 : zraw 242 44 = some (.iconst 1, 1) ∧ zin 128 1 = true ∧ 44 + 1 = 45 := by decide +kernel
theorem zi_242_45 : zraw 242 45 = some (.iadd, 1) ∧ 45 + 1 = 46 := by decide +kernel
theorem zi_242_46 : zraw 242 46 = some (.iaload, 1) ∧ 46 + 1 = 47 := by decide +kernel
theorem zi_242_47 : zraw 242 47 = some (.iastore, 1) ∧ 47 + 1 = 48 := by decide +kernel
theorem zi_242_48 : zraw 242 48 = some (.iconst 0, 1) ∧ zin 128 0 = true ∧ 48 + 1 = 49 := by decide +kernel
theorem zi_242_49 : zraw 242 49 = some (.istore_n 3, 1) ∧ 49 + 1 = 50 := by decide +kernel
theorem zi_242_50 : zraw 242 50 = some (.iload_n 3, 1) ∧ 50 + 1 = 51 := by decide +kernel
theorem zi_242_51 : zraw 242 51 = some (.bipush 20, 2) ∧ zin 128 20 = true ∧ 51 + 2 = 53 := by decide +kernel
theorem zi_242_53 : zraw 242 53 = some (.if_icmp .ge 33, 3) ∧ ((53 : Nat) : Int) + 33 = Int.ofNat 86 ∧ 53 + 3 = 56 := by decide +kernel
theorem zi_242_56 : zraw 242 56 = some (.aload_n 0, 1) ∧ 56 + 1 = 57 := by decide +kernel
theorem zi_242_57 : zraw 242 57 = some (.getfield 35, 3) ∧ zft (zinf 242).1 35 = some (10, 17, 3, true) ∧ 57 + 3 = 60 := by decide +kernel
theorem zi_242_60 : zraw 242 60 = some (.bipush 20, 2) ∧ zin 128 20 = true ∧ 60 + 2 = 62 := by decide +kernel
theorem zi_242_62 : zraw 242 62 = some (.iload_n 2, 1) ∧ 62 + 1 = 63 := by decide +kernel
theorem zi_242_63 : zraw 242 63 = some (.imul, 1) ∧ 63 + 1 = 64 := by decide +kernel
theorem zi_242_64 : zraw 242 64 = some (.iload_n 3, 1) ∧ 64 + 1 = 65 := by decide +kernel
theorem zi_242_65 : zraw 242 65 = some (.iadd, 1) ∧ 65 + 1 = 66 := by decide +kernel
theorem zi_242_66 : zraw 242 66 = some (.aload_n 0, 1) ∧ 66 + 1 = 67 := by decide +kernel
theorem zi_242_67 : zraw 242 67 = some (.getfield 35, 3) ∧ zft (zinf 242).1 35 = some (10, 17, 3, true) ∧ 67 + 3 = 70 := by decide +kernel
theorem zi_242_70 : zraw 242 70 = some (.bipush 20, 2) ∧ zin 128 20 = true ∧ 70 + 2 = 72 := by decide +kernel
theorem zi_242_72 : zraw 242 72 = some (.iload_n 2, 1) ∧ 72 + 1 = 73 := by decide +kernel
theorem zi_242_73 : zraw 242 73 = some (.iconst 1, 1) ∧ zin 128 1 = true ∧ 73 + 1 = 74 := by decide +kernel
theorem zi_242_74 : zraw 242 74 = some (.iadd, 1) ∧ 74 + 1 = 75 := by decide +kernel
theorem zi_242_75 : zraw 242 75 = some (.imul, 1) ∧ 75 + 1 = 76 := by decide +kernel
theorem zi_242_76 : zraw 242 76 = some (.iload_n 3, 1) ∧ 76 + 1 = 77 := by decide +kernel
theorem zi_242_77 : zraw 242 77 = some (.iadd, 1) ∧ 77 + 1 = 78 := by decide +kernel
theorem zi_242_78 : zraw 242 78 = some (.laload, 1) ∧ 78 + 1 = 79 := by decide +kernel
theorem zi_242_79 : zraw 242 79 = some (.lastore, 1) ∧ 79 + 1 = 80 := by decide +kernel
theorem zi_242_80 : zraw 242 80 = some (.iinc 3 1, 3) ∧ zin 32768 1 = true ∧ 80 + 3 = 83 := by decide +kernel
theorem zi_242_83 : zraw 242 83 = some (.goto (-33), 3) ∧ ((83 : Nat) : Int) + (-33) = Int.ofNat 50 := by decide +kernel
theorem zi_242_86 : zraw 242 86 = some (.iinc 2 1, 3) ∧ zin 32768 1 = true ∧ 86 + 3 = 89 := by decide +kernel
theorem zi_242_89 : zraw 242 89 = some (.goto (-77), 3) ∧ ((89 : Nat) : Int) + (-77) = Int.ofNat 12 := by decide +kernel
theorem zi_242_92 : zraw 242 92 = some (.return_, 1) ∧ (zinf 242).2.2.2.1 = 0 := by decide +kernel
theorem ze_242 {K : List zF} {σ : zW} {x1 : Int} : zEv true (zent 242 [.inr (.inr 122), .inl x1] :: K) σ = (zEv true ((242, 12, [some (.inr (.inr 122)), some (.inl x1), some (.inl x1), none], []) :: K) (sI σ 122 14 (w32 ((gI σ 122 14) - 1)))) :=
  yT_en (f := (242, 0, [some (.inr (.inr 122)), some (.inl x1), none, none], [])) rfl (yI_aload_n zi_242_0 rfl <| yI_dup_r zi_242_1 <| yI_gf_i (v := gI σ 122 14) zi_242_2 zk_122 rfl <| yI_iconst zi_242_5 <| yI_isub zi_242_6 <| yI_pf_i zi_242_7 zk_122 <| yI_iload_n zi_242_10 rfl <| yI_istore_n (l := [some (.inr (.inr 122)), some (.inl x1), some (.inl x1), none]) zi_242_11 rfl rfl <| rfl)
theorem zj_242_12 {K : List zF} {σ : zW} {o1 : Option zV} {x2 : Int} {o3 : Option zV} : zEv true ((242, 12, [some (.inr (.inr 122)), o1, some (.inl x2), o3], []) :: K) σ = (if (gI σ 122 14) ≤ x2 then zRet true K none σ else (0 ≤ (w32 (x2 + 1)) ∧ (w32 (x2 + 1)) < 513) ∧ ((0 ≤ x2 ∧ x2 < 513) ∧ ((0 ≤ (w32 (x2 + 1)) ∧ (w32 (x2 + 1)) < 513) ∧ ((0 ≤ x2 ∧ x2 < 513) ∧ zEv true ((242, 50, [some (.inr (.inr 122)), o1, some (.inl x2), some (.inl 0)], []) :: K) (sI (sI σ 129 x2.toNat (gI σ 129 ((w32 (x2 + 1)).toNat))) 130 x2.toNat (gI σ 130 ((w32 (x2 + 1)).toNat))))))) :=
  yI_iload_n zi_242_12 rfl <| yI_aload_n zi_242_13 rfl <| yI_gf_i (v := gI σ 122 14) zi_242_14 zk_122 rfl <| yI_ic_ge zi_242_17 <| yBr (yI_ret zi_242_92) (yI_aload_n zi_242_20 rfl <| yI_gf_f (v := 129) zi_242_21 zk_122 rfl <| yI_iload_n zi_242_24 rfl <| yI_aload_n zi_242_25 rfl <| yI_gf_f (v := 129) zi_242_26 zk_122 rfl <| yI_iload_n zi_242_29 rfl <| yI_iconst zi_242_30 <| yI_iadd zi_242_31 <| yI_ialoadc (v := gI σ 129 ((w32 (x2 + 1)).toNat)) zi_242_32 za_129 rfl <| yI_iastorec zi_242_33 za_129 <| yI_aload_n zi_242_34 rfl <| yI_gf_f (v := 130) zi_242_35 zk_122 rfl <| yI_iload_n zi_242_38 rfl <| yI_aload_n zi_242_39 rfl <| yI_gf_f (v := 130) zi_242_40 zk_122 rfl <| yI_iload_n zi_242_43 rfl <| yI_iconst zi_242_44 <| yI_iadd zi_242_45 <| yI_ialoadc (v := gI σ 130 ((w32 (x2 + 1)).toNat)) zi_242_46 za_130 (yGI_nk (by decide)) <| yI_iastorec zi_242_47 za_130 <| yI_iconst zi_242_48 <| yI_istore_n (l := [some (.inr (.inr 122)), o1, some (.inl x2), some (.inl 0)]) zi_242_49 rfl rfl <| rfl)
theorem zj_242_50 {K : List zF} {σ : zW} {o1 : Option zV} {x2 : Int} {x3 : Int} : zEv true ((242, 50, [some (.inr (.inr 122)), o1, some (.inl x2), some (.inl x3)], []) :: K) σ = (if 20 ≤ x3 then zEv true ((242, 12, [some (.inr (.inr 122)), (zcut 0 o1), some (.inl (w32 (x2 + 1))), some (.inl x3)], []) :: K) σ else (0 ≤ (w32 ((w32 (20 * (w32 (x2 + 1)))) + x3)) ∧ (w32 ((w32 (20 * (w32 (x2 + 1)))) + x3)) < 10260) ∧ ((0 ≤ (w32 ((w32 (20 * x2)) + x3)) ∧ (w32 ((w32 (20 * x2)) + x3)) < 10260) ∧ zEv true ((242, 50, [some (.inr (.inr 122)), o1, some (.inl x2), some (.inl (w32 (x3 + 1)))], []) :: K) (sL σ 131 ((w32 ((w32 (20 * x2)) + x3)).toNat) (gL σ 131 ((w32 ((w32 (20 * (w32 (x2 + 1)))) + x3)).toNat))))) :=
  yI_iload_n zi_242_50 rfl <| yI_bipush zi_242_51 <| yI_ic_ge zi_242_53 <| yBr (yI_iinc (l := [some (.inr (.inr 122)), (zcut 0 o1), some (.inl (w32 (x2 + 1))), some (.inl x3)]) zi_242_86 rfl rfl rfl <| yI_goto zi_242_89 <| rfl) (yI_aload_n zi_242_56 rfl <| yI_gf_f (v := 131) zi_242_57 zk_122 rfl <| yI_bipush zi_242_60 <| yI_iload_n zi_242_62 rfl <| yI_imul zi_242_63 <| yI_iload_n zi_242_64 rfl <| yI_iadd zi_242_65 <| yI_aload_n zi_242_66 rfl <| yI_gf_f (v := 131) zi_242_67 zk_122 rfl <| yI_bipush zi_242_70 <| yI_iload_n zi_242_72 rfl <| yI_iconst zi_242_73 <| yI_iadd zi_242_74 <| yI_imul zi_242_75 <| yI_iload_n zi_242_76 rfl <| yI_iadd zi_242_77 <| yI_laloadc (v := gL σ 131 ((w32 ((w32 (20 * (w32 (x2 + 1)))) + x3)).toNat)) zi_242_78 za_131 rfl <| yI_lastorec zi_242_79 za_131 <| yI_iinc (l := [some (.inr (.inr 122)), o1, some (.inl x2), some (.inl (w32 (x3 + 1)))]) zi_242_80 rfl rfl rfl <| yI_goto zi_242_83 <| rfl)
/-- 243 TreegrabModel.latest(I)I -/
theorem zi_243_0 : zraw 243 0 = some (.iconst (-1), 1) ∧ zin 128 (-1) = true ∧ 0 + 1 = 1 := by decide +kernel
theorem zi_243_1 : zraw 243 1 = some (.istore_n 2, 1) ∧ 1 + 1 = 2 := by decide +kernel
theorem zi_243_2 : zraw 243 2 = some (.iconst 0, 1) ∧ zin 128 0 = true ∧ 2 + 1 = 3 := by decide +kernel
theorem zi_243_3 : zraw 243 3 = some (.istore_n 3, 1) ∧ 3 + 1 = 4 := by decide +kernel
theorem zi_243_4 : zraw 243 4 = some (.iload_n 3, 1) ∧ 4 + 1 = 5 := by decide +kernel
theorem zi_243_5 : zraw 243 5 = some (.aload_n 0, 1) ∧ 5 + 1 = 6 := by decide +kernel
theorem zi_243_6 : zraw 243 6 = some (.getfield 573, 3) ∧ zft (zinf 243).1 573 = some (10, 14, 0, false) ∧ 6 + 3 = 9 := by decide +kernel
theorem zi_243_9 : zraw 243 9 = some (.if_icmp .ge 25, 3) ∧ ((9 : Nat) : Int) + 25 = Int.ofNat 34 ∧ 9 + 3 = 12 := by decide +kernel
theorem zi_243_12 : zraw 243 12 = some (.aload_n 0, 1) ∧ 12 + 1 = 13 := by decide +kernel
theorem zi_243_13 : zraw 243 13 = some (.getfield 29, 3) ∧ zft (zinf 243).1 29 = some (10, 15, 3, true) ∧ 13 + 3 = 16 := by decide +kernel
theorem zi_243_16 : zraw 243 16 = some (.iload_n 3, 1) ∧ 16 + 1 = 17 := by decide +kernel
theorem zi_243_17 : zraw 243 17 = some (.iaload, 1) ∧ 17 + 1 = 18 := by decide +kernel
theorem zi_243_18 : zraw 243 18 = some (.iload_n 1, 1) ∧ 18 + 1 = 19 := by decide +kernel
theorem zi_243_19 : zraw 243 19 = some (.if_icmp .ne 7, 3) ∧ ((19 : Nat) : Int) + 7 = Int.ofNat 26 ∧ 19 + 3 = 22 := by decide +kernel
theorem zi_243_22 : zraw 243 22 = some (.iload_n 3, 1) ∧ 22 + 1 = 23 := by decide +kernel
theorem zi_243_23 : zraw 243 23 = some (.goto 4, 3) ∧ ((23 : Nat) : Int) + 4 = Int.ofNat 27 := by decide +kernel
theorem zi_243_26 : zraw 243 26 = some (.iload_n 2, 1) ∧ 26 + 1 = 27 := by decide +kernel
theorem zi_243_27 : zraw 243 27 = some (.istore_n 2, 1) ∧ 27 + 1 = 28 := by decide +kernel
theorem zi_243_28 : zraw 243 28 = some (.iinc 3 1, 3) ∧ zin 32768 1 = true ∧ 28 + 3 = 31 := by decide +kernel
theorem zi_243_31 : zraw 243 31 = some (.goto (-27), 3) ∧ ((31 : Nat) : Int) + (-27) = Int.ofNat 4 := by decide +kernel
theorem zi_243_34 : zraw 243 34 = some (.iload_n 2, 1) ∧ 34 + 1 = 35 := by decide +kernel
theorem zi_243_35 : zraw 243 35 = some (.ireturn, 1) ∧ (zinf 243).2.2.2.1 = 1 := by decide +kernel
theorem ze_243 {K : List zF} {σ : zW} {x1 : Int} : zEv true (zent 243 [.inr (.inr 122), .inl x1] :: K) σ = (zEv true ((243, 4, [some (.inr (.inr 122)), some (.inl x1), some (.inl (-1)), some (.inl 0)], []) :: K) σ) :=
  yT_en (f := (243, 0, [some (.inr (.inr 122)), some (.inl x1), none, none], [])) rfl (yI_iconst zi_243_0 <| yI_istore_n (l := [some (.inr (.inr 122)), some (.inl x1), some (.inl (-1)), none]) zi_243_1 rfl rfl <| yI_iconst zi_243_2 <| yI_istore_n (l := [some (.inr (.inr 122)), some (.inl x1), some (.inl (-1)), some (.inl 0)]) zi_243_3 rfl rfl <| rfl)
theorem zj_243_4 {K : List zF} {σ : zW} {x1 : Int} {x2 : Int} {x3 : Int} : zEv true ((243, 4, [some (.inr (.inr 122)), some (.inl x1), some (.inl x2), some (.inl x3)], []) :: K) σ = (if (gI σ 122 14) ≤ x3 then zRet true K (some (.inl x2)) σ else (0 ≤ x3 ∧ x3 < 513) ∧ zEv true ((243, 4, [some (.inr (.inr 122)), some (.inl x1), some (.inl (if ¬ (gI σ 129 x3.toNat) = x1 then x2 else x3 : Int)), some (.inl (w32 (x3 + 1)))], []) :: K) σ) :=
  yI_iload_n zi_243_4 rfl <| yI_aload_n zi_243_5 rfl <| yI_gf_i (v := gI σ 122 14) zi_243_6 zk_122 rfl <| yI_ic_ge zi_243_9 <| yBr (yI_iload_n zi_243_34 rfl <| yI_ireturn zi_243_35) (yI_aload_n zi_243_12 rfl <| yI_gf_f (v := 129) zi_243_13 zk_122 rfl <| yI_iload_n zi_243_16 rfl <| yI_ialoadc (v := gI σ 129 x3.toNat) zi_243_17 za_129 rfl <| yI_iload_n zi_243_18 rfl <| yI_ic_ne zi_243_19 <| yMi0 (j := 27) (ls2 := [some (.inr (.inr 122)), some (.inl x1), some (.inl x2), some (.inl x3)]) (st2 := []) (x := x2) (y := x3) (σ2 := σ) (yI_iload_n zi_243_26 rfl <| rfl) (yI_iload_n zi_243_22 rfl <| yI_goto zi_243_23 <| rfl) <| yI_istore_n (l := [some (.inr (.inr 122)), some (.inl x1), some (.inl (if ¬ (gI σ 129 x3.toNat) = x1 then x2 else x3 : Int)), some (.inl x3)]) zi_243_27 rfl rfl <| yI_iinc (l := [some (.inr (.inr 122)), some (.inl x1), some (.inl (if ¬ (gI σ 129 x3.toNat) = x1 then x2 else x3 : Int)), some (.inl (w32 (x3 + 1)))]) zi_243_28 rfl rfl rfl <| yI_goto zi_243_31 <| rfl)
/-- 244 TreegrabModel.forgets(I)V -/
theorem zi_244_0 : zraw 244 0 = some (.aload_n 0, 1) ∧ 0 + 1 = 1 := by decide +kernel
theorem zi_244_1 : zraw 244 1 = some (.iload_n 1, 1) ∧ 1 + 1 = 2 := by decide +kernel
theorem zi_244_2 : zraw 244 2 = some (.invokevirtual 576, 3) ∧ zmt (zinf 244).1 576 = some 243 ∧ Nat.ble 9000 243 = false ∧ zinf 243 = (10, 2, 4, 1, 0) ∧ 2 + 3 = 5 := by decide +kernel
theorem zi_244_5 : zraw 244 5 = some (.istore_n 2, 1) ∧ 5 + 1 = 6 := by decide +kernel
theorem zi_244_6 : zraw 244 6 = some (.iload_n 2, 1) ∧ 6 + 1 = 7 := by decide +kernel
theorem zi_244_7 : zraw 244 7 = some (.iconst (-1), 1) ∧ zin 128 (-1) = true ∧ 7 + 1 = 8 := by decide +kernel
theorem zi_244_8 : zraw 244 8 = some (.if_icmp .eq 17, 3) ∧ ((8 : Nat) : Int) + 17 = Int.ofNat 25 ∧ 8 + 3 = 11 := by decide +kernel
theorem zi_244_11 : zraw 244 11 = some (.aload_n 0, 1) ∧ 11 + 1 = 12 := by decide +kernel
theorem zi_244_12 : zraw 244 12 = some (.iload_n 2, 1) ∧ 12 + 1 = 13 := by decide +kernel
theorem zi_244_13 : zraw 244 13 = some (.invokevirtual 579, 3) ∧ zmt (zinf 244).1 579 = some 242 ∧ Nat.ble 9000 242 = false ∧ zinf 242 = (10, 2, 4, 0, 0) ∧ 13 + 3 = 16 := by decide +kernel
theorem zi_244_16 : zraw 244 16 = some (.aload_n 0, 1) ∧ 16 + 1 = 17 := by decide +kernel
theorem zi_244_17 : zraw 244 17 = some (.iload_n 1, 1) ∧ 17 + 1 = 18 := by decide +kernel
theorem zi_244_18 : zraw 244 18 = some (.invokevirtual 576, 3) ∧ zmt (zinf 244).1 576 = some 243 ∧ Nat.ble 9000 243 = false ∧ zinf 243 = (10, 2, 4, 1, 0) ∧ 18 + 3 = 21 := by decide +kernel
theorem zi_244_21 : zraw 244 21 = some (.istore_n 2, 1) ∧ 21 + 1 = 22 := by decide +kernel
theorem zi_244_22 : zraw 244 22 = some (.goto (-16), 3) ∧ ((22 : Nat) : Int) + (-16) = Int.ofNat 6 := by decide +kernel
theorem zi_244_25 : zraw 244 25 = some (.return_, 1) ∧ (zinf 244).2.2.2.1 = 0 := by decide +kernel
theorem ze_244 {K : List zF} {σ : zW} {x1 : Int} (hK : K.length < 60) : zEv true (zent 244 [.inr (.inr 122), .inl x1] :: K) σ = (zEv true (zent 243 [.inr (.inr 122), .inl x1] :: (244, 5, [some (.inr (.inr 122)), some (.inl x1), none], []) :: K) σ) :=
  yT_en (f := (244, 0, [some (.inr (.inr 122)), some (.inl x1), none], [])) rfl (yI_aload_n zi_244_0 rfl <| yI_iload_n zi_244_1 rfl <| yI_cv zi_244_2 rfl rfl zk_122 hK)
theorem zr_244_5 {K : List zF} {σ : zW} {x1 : Int} {o2 : Option zV} {v : Int} : zRet true ((244, 5, [some (.inr (.inr 122)), some (.inl x1), o2], []) :: K) (some (.inl v)) σ = (zEv true ((244, 6, [some (.inr (.inr 122)), some (.inl x1), some (.inl v)], []) :: K) σ) :=
  yT_rt (yI_istore_n (l := [some (.inr (.inr 122)), some (.inl x1), some (.inl v)]) zi_244_5 rfl rfl <| rfl)
theorem zj_244_6 {K : List zF} {σ : zW} {x1 : Int} {x2 : Int} (hK : K.length < 60) : zEv true ((244, 6, [some (.inr (.inr 122)), some (.inl x1), some (.inl x2)], []) :: K) σ = (if x2 = (-1) then zRet true K none σ else zEv true (zent 242 [.inr (.inr 122), .inl x2] :: (244, 16, [some (.inr (.inr 122)), some (.inl x1), some (.inl x2)], []) :: K) σ) :=
  yI_iload_n zi_244_6 rfl <| yI_iconst zi_244_7 <| yI_ic_eq zi_244_8 <| yBr (yI_ret zi_244_25) (yI_aload_n zi_244_11 rfl <| yI_iload_n zi_244_12 rfl <| yI_cv zi_244_13 rfl rfl zk_122 hK)
theorem zr_244_16 {K : List zF} {σ : zW} {x1 : Int} {o2 : Option zV} (hK : K.length < 60) : zRet true ((244, 16, [some (.inr (.inr 122)), some (.inl x1), o2], []) :: K) none σ = (zEv true (zent 243 [.inr (.inr 122), .inl x1] :: (244, 21, [some (.inr (.inr 122)), some (.inl x1), o2], []) :: K) σ) :=
  yT_rv (yI_aload_n zi_244_16 rfl <| yI_iload_n zi_244_17 rfl <| yI_cv zi_244_18 rfl rfl zk_122 hK)
theorem zr_244_21 {K : List zF} {σ : zW} {x1 : Int} {o2 : Option zV} {v : Int} : zRet true ((244, 21, [some (.inr (.inr 122)), some (.inl x1), o2], []) :: K) (some (.inl v)) σ = (zEv true ((244, 6, [some (.inr (.inr 122)), some (.inl x1), some (.inl v)], []) :: K) σ) :=
  yT_rt (yI_istore_n (l := [some (.inr (.inr 122)), some (.inl x1), some (.inl v)]) zi_244_21 rfl rfl <| yI_goto zi_244_22 <| rfl)
/-- 245 TreegrabModel.undo(I)I -/
theorem zi_245_0 : zraw 245 0 = some (.aload_n 0, 1) ∧ 0 + 1 = 1 := by decide +kernel
theorem zi_245_1 : zraw 245 1 = some (.iload_n 1, 1) ∧ 1 + 1 = 2 := by decide +kernel
theorem zi_245_2 : zraw 245 2 = some (.invokestatic 358, 3) ∧ zmt (zinf 245).1 358 = some 143 ∧ Nat.ble 9000 143 = false ∧ zinf 143 = (10, 1, 1, 2, 1) ∧ 2 + 3 = 5 := by decide +kernel
theorem zi_245_5 : zraw 245 5 = some (.ifCond .eq 7, 3) ∧ ((5 : Nat) : Int) + 7 = Int.ofNat 12 ∧ 5 + 3 = 8 := by decide +kernel
theorem zi_245_8 : zraw 245 8 = some (.iconst 0, 1) ∧ zin 128 0 = true ∧ 8 + 1 = 9 := by decide +kernel
theorem zi_245_9 : zraw 245 9 = some (.goto 4, 3) ∧ ((9 : Nat) : Int) + 4 = Int.ofNat 13 := by decide +kernel
theorem zi_245_12 : zraw 245 12 = some (.iconst 1, 1) ∧ zin 128 1 = true ∧ 12 + 1 = 13 := by decide +kernel
theorem zi_245_13 : zraw 245 13 = some (.invokevirtual 353, 3) ∧ zmt (zinf 245).1 353 = some 141 ∧ Nat.ble 9000 141 = false ∧ zinf 141 = (10, 2, 2, 2, 0) ∧ 13 + 3 = 16 := by decide +kernel
theorem zi_245_16 : zraw 245 16 = some (.ifCond .ne 5, 3) ∧ ((16 : Nat) : Int) + 5 = Int.ofNat 21 ∧ 16 + 3 = 19 := by decide +kernel
theorem zi_245_19 : zraw 245 19 = some (.iconst 0, 1) ∧ zin 128 0 = true ∧ 19 + 1 = 20 := by decide +kernel
theorem zi_245_20 : zraw 245 20 = some (.ireturn, 1) ∧ (zinf 245).2.2.2.1 = 1 := by decide +kernel
theorem zi_245_21 : zraw 245 21 = some (.aload_n 0, 1) ∧ 21 + 1 = 22 := by decide +kernel
theorem zi_245_22 : zraw 245 22 = some (.iload_n 1, 1) ∧ 22 + 1 = 23 := by decide +kernel
theorem zi_245_23 : zraw 245 23 = some (.invokevirtual 576, 3) ∧ zmt (zinf 245).1 576 = some 243 ∧ Nat.ble 9000 243 = false ∧ zinf 243 = (10, 2, 4, 1, 0) ∧ 23 + 3 = 26 := by decide +kernel
theorem zi_245_26 : zraw 245 26 = some (.istore_n 2, 1) ∧ 26 + 1 = 27 := by decide +kernel
theorem zi_245_27 : zraw 245 27 = some (.aload_n 0, 1) ∧ 27 + 1 = 28 := by decide +kernel
theorem zi_245_28 : zraw 245 28 = some (.iload_n 2, 1) ∧ 28 + 1 = 29 := by decide +kernel
theorem zi_245_29 : zraw 245 29 = some (.iconst (-1), 1) ∧ zin 128 (-1) = true ∧ 29 + 1 = 30 := by decide +kernel
theorem zi_245_30 : zraw 245 30 = some (.if_icmp .ne 7, 3) ∧ ((30 : Nat) : Int) + 7 = Int.ofNat 37 ∧ 30 + 3 = 33 := by decide +kernel
theorem zi_245_33 : zraw 245 33 = some (.iconst 2, 1) ∧ zin 128 2 = true ∧ 33 + 1 = 34 := by decide +kernel
theorem zi_245_34 : zraw 245 34 = some (.goto 4, 3) ∧ ((34 : Nat) : Int) + 4 = Int.ofNat 38 := by decide +kernel
theorem zi_245_37 : zraw 245 37 = some (.iconst 0, 1) ∧ zin 128 0 = true ∧ 37 + 1 = 38 := by decide +kernel
theorem zi_245_38 : zraw 245 38 = some (.invokevirtual 353, 3) ∧ zmt (zinf 245).1 353 = some 141 ∧ Nat.ble 9000 141 = false ∧ zinf 141 = (10, 2, 2, 2, 0) ∧ 38 + 3 = 41 := by decide +kernel
theorem zi_245_41 : zraw 245 41 = some (.ifCond .ne 5, 3) ∧ ((41 : Nat) : Int) + 5 = Int.ofNat 46 ∧ 41 + 3 = 44 := by decide +kernel
theorem zi_245_44 : zraw 245 44 = some (.iconst 0, 1) ∧ zin 128 0 = true ∧ 44 + 1 = 45 := by decide +kernel
theorem zi_245_45 : zraw 245 45 = some (.ireturn, 1) ∧ (zinf 245).2.2.2.1 = 1 := by decide +kernel
theorem zi_245_46 : zraw 245 46 = some (.aload_n 0, 1) ∧ 46 + 1 = 47 := by decide +kernel
theorem zi_245_47 : zraw 245 47 = some (.getfield 13, 3) ∧ zft (zinf 245).1 13 = some (10, 8, 3, true) ∧ 47 + 3 = 50 := by decide +kernel
theorem zi_245_50 : zraw 245 50 = some (.iload_n 1, 1) ∧ 50 + 1 = 51 := by decide +kernel
theorem zi_245_51 : zraw 245 51 = some (.aload_n 0, 1) ∧ 51 + 1 = 52 := by decide +kernel
theorem zi_245_52 : zraw 245 52 = some (.getfield 32, 3) ∧ zft (zinf 245).1 32 = some (10, 16, 3, true) ∧ 52 + 3 = 55 := by decide +kernel
theorem zi_245_55 : zraw 245 55 = some (.iload_n 2, 1) ∧ 55 + 1 = 56 := by decide +kernel
theorem zi_245_56 : zraw 245 56 = some (.iaload, 1) ∧ 56 + 1 = 57 := by decide +kernel
theorem zi_245_57 : zraw 245 57 = some (.iastore, 1) ∧ 57 + 1 = 58 := by decide +kernel
theorem zi_245_58 : zraw 245 58 = some (.iconst 0, 1) ∧ zin 128 0 = true ∧ 58 + 1 = 59 := by decide +kernel
theorem zi_245_59 : zraw 245 59 = some (.istore_n 3, 1) ∧ 59 + 1 = 60 := by decide +kernel
theorem zi_245_60 : zraw 245 60 = some (.iload_n 3, 1) ∧ 60 + 1 = 61 := by decide +kernel
theorem zi_245_61 : zraw 245 61 = some (.aload_n 0, 1) ∧ 61 + 1 = 62 := by decide +kernel
theorem zi_245_62 : zraw 245 62 = some (.getfield 13, 3) ∧ zft (zinf 245).1 13 = some (10, 8, 3, true) ∧ 62 + 3 = 65 := by decide +kernel
theorem zi_245_65 : zraw 245 65 = some (.iload_n 1, 1) ∧ 65 + 1 = 66 := by decide +kernel
theorem zi_245_66 : zraw 245 66 = some (.iaload, 1) ∧ 66 + 1 = 67 := by decide +kernel
theorem zi_245_67 : zraw 245 67 = some (.if_icmp .ge 58, 3) ∧ ((67 : Nat) : Int) + 58 = Int.ofNat 125 ∧ 67 + 3 = 70 := by decide +kernel
theorem zi_245_70 : zraw 245 70 = some (.aload_n 0, 1) ∧ 70 + 1 = 71 := by decide +kernel
theorem zi_245_71 : zraw 245 71 = some (.getfield 35, 3) ∧ zft (zinf 245).1 35 = some (10, 17, 3, true) ∧ 71 + 3 = 74 := by decide +kernel
theorem zi_245_74 : zraw 245 74 = some (.bipush 20, 2) ∧ zin 128 20 = true ∧ 74 + 2 = 76 := by decide +kernel
theorem zi_245_76 : zraw 245 76 = some (.iload_n 2, 1) ∧ 76 + 1 = 77 := by decide +kernel
theorem zi_245_77 : zraw 245 77 = some (.imul, 1) ∧ 77 + 1 = 78 := by decide +kernel
theorem zi_245_78 : zraw 245 78 = some (.iload_n 3, 1) ∧ 78 + 1 = 79 := by decide +kernel
theorem zi_245_79 : zraw 245 79 = some (.iadd, 1) ∧ 79 + 1 = 80 := by decide +kernel
theorem zi_245_80 : zraw 245 80 = some (.laload, 1) ∧ 80 + 1 = 81 := by decide +kernel
theorem zi_245_81 : zraw 245 81 = some (.lstore 4, 2) ∧ 81 + 2 = 83 := by decide +kernel
theorem zi_245_83 : zraw 245 83 = some (.aload_n 0, 1) ∧ 83 + 1 = 84 := by decide +kernel
theorem zi_245_84 : zraw 245 84 = some (.getfield 16, 3) ∧ zft (zinf 245).1 16 = some (10, 9, 3, true) ∧ 84 + 3 = 87 := by decide +kernel
theorem zi_245_87 : zraw 245 87 = some (.bipush 20, 2) ∧ zin 128 20 = true ∧ 87 + 2 = 89 := by decide +kernel
theorem zi_245_89 : zraw 245 89 = some (.iload_n 1, 1) ∧ 89 + 1 = 90 := by decide +kernel
theorem zi_245_90 : zraw 245 90 = some (.imul, 1) ∧ 90 + 1 = 91 := by decide +kernel
theorem zi_245_91 : zraw 245 91 = some (.iload_n 3, 1) ∧ 91 + 1 = 92 := by decide +kernel
theorem zi_245_92 : zraw 245 92 = some (.iadd, 1) ∧ 92 + 1 = 93 := by decide +kernel
theorem zi_245_93 : zraw 245 93 = some (.lload 4, 2) ∧ 93 + 2 = 95 := by decide +kernel
theorem zi_245_95 : zraw 245 95 = some (.ldc2_w 582, 3) ∧ zlt (zinf 245).1 582 = some 281474976710655 ∧ 95 + 3 = 98 := by decide +kernel
theorem zi_245_98 : zraw 245 98 = some (.land, 1) ∧ 98 + 1 = 99 := by decide +kernel
theorem zi_245_99 : zraw 245 99 = some (.lastore, 1) ∧ 99 + 1 = 100 := by decide +kernel
theorem zi_245_100 : zraw 245 100 = some (.aload_n 0, 1) ∧ 100 + 1 = 101 := by decide +kernel
theorem zi_245_101 : zraw 245 101 = some (.getfield 20, 3) ∧ zft (zinf 245).1 20 = some (10, 10, 3, true) ∧ 101 + 3 = 104 := by decide +kernel
theorem zi_245_104 : zraw 245 104 = some (.bipush 20, 2) ∧ zin 128 20 = true ∧ 104 + 2 = 106 := by decide +kernel
theorem zi_245_106 : zraw 245 106 = some (.iload_n 1, 1) ∧ 106 + 1 = 107 := by decide +kernel
theorem zi_245_107 : zraw 245 107 = some (.imul, 1) ∧ 107 + 1 = 108 := by decide +kernel
theorem zi_245_108 : zraw 245 108 = some (.iload_n 3, 1) ∧ 108 + 1 = 109 := by decide +kernel
theorem zi_245_109 : zraw 245 109 = some (.iadd, 1) ∧ 109 + 1 = 110 := by decide +kernel
theorem zi_245_110 : zraw 245 110 = some (.lload 4, 2) ∧ 110 + 2 = 112 := by decide +kernel
theorem zi_245_112 : zraw 245 112 = some (.bipush 48, 2) ∧ zin 128 48 = true ∧ 112 + 2 = 114 := by decide +kernel
theorem zi_245_114 : zraw 245 114 = some (.lshr, 1) ∧ 114 + 1 = 115 := by decide +kernel
theorem zi_245_115 : zraw 245 115 = some (.l2i, 1) ∧ 115 + 1 = 116 := by decide +kernel
theorem zi_245_116 : zraw 245 116 = some (.iconst 1, 1) ∧ zin 128 1 = true ∧ 116 + 1 = 117 := by decide +kernel
theorem zi_245_117 : zraw 245 117 = some (.isub, 1) ∧ 117 + 1 = 118 := by decide +kernel
theorem zi_245_118 : zraw 245 118 = some (.iastore, 1) ∧ 118 + 1 = 119 := by decide +kernel
theorem zi_245_119 : zraw 245 119 = some (.iinc 3 1, 3) ∧ zin 32768 1 = true ∧ 119 + 3 = 122 := by decide +kernel
theorem zi_245_122 : zraw 245 122 = some (.goto (-62), 3) ∧ ((122 : Nat) : Int) + (-62) = Int.ofNat 60 := by decide +kernel
theorem zi_245_125 : zraw 245 125 = some (.aload_n 0, 1) ∧ 125 + 1 = 126 := by decide +kernel
theorem zi_245_126 : zraw 245 126 = some (.iload_n 2, 1) ∧ 126 + 1 = 127 := by decide +kernel
theorem zi_245_127 : zraw 245 127 = some (.invokevirtual 579, 3) ∧ zmt (zinf 245).1 579 = some 242 ∧ Nat.ble 9000 242 = false ∧ zinf 242 = (10, 2, 4, 0, 0) ∧ 127 + 3 = 130 := by decide +kernel
theorem zi_245_130 : zraw 245 130 = some (.aload_n 0, 1) ∧ 130 + 1 = 131 := by decide +kernel
theorem zi_245_131 : zraw 245 131 = some (.iconst (-1), 1) ∧ zin 128 (-1) = true ∧ 131 + 1 = 132 := by decide +kernel
theorem zi_245_132 : zraw 245 132 = some (.putfield 153, 3) ∧ zft (zinf 245).1 153 = some (10, 64, 0, false) ∧ 132 + 3 = 135 := by decide +kernel
theorem zi_245_135 : zraw 245 135 = some (.aload_n 0, 1) ∧ 135 + 1 = 136 := by decide +kernel
theorem zi_245_136 : zraw 245 136 = some (.getfield 13, 3) ∧ zft (zinf 245).1 13 = some (10, 8, 3, true) ∧ 136 + 3 = 139 := by decide +kernel
theorem zi_245_139 : zraw 245 139 = some (.iload_n 1, 1) ∧ 139 + 1 = 140 := by decide +kernel
theorem zi_245_140 : zraw 245 140 = some (.iaload, 1) ∧ 140 + 1 = 141 := by decide +kernel
theorem zi_245_141 : zraw 245 141 = some (.ireturn, 1) ∧ (zinf 245).2.2.2.1 = 1 := by decide +kernel
theorem ze_245 {K : List zF} {σ : zW} {x1 : Int} (hK : K.length < 60) : zEv true (zent 245 [.inr (.inr 122), .inl x1] :: K) σ = (zEv true (zent 143 [.inl x1] :: (245, 5, [some (.inr (.inr 122)), some (.inl x1), none, none, none, none], [.inr (.inr 122)]) :: K) σ) :=
  yT_en (f := (245, 0, [some (.inr (.inr 122)), some (.inl x1), none, none, none, none], [])) rfl (yI_aload_n zi_245_0 rfl <| yI_iload_n zi_245_1 rfl <| yI_cs zi_245_2 rfl rfl hK)
theorem zr_245_5 {K : List zF} {σ : zW} {x1 : Int} {o2 : Option zV} {o3 : Option zV} {o4 : Option zV} {o5 : Option zV} {v : Int} (hK : K.length < 60) : zRet true ((245, 5, [some (.inr (.inr 122)), some (.inl x1), o2, o3, o4, o5], [.inr (.inr 122)]) :: K) (some (.inl v)) σ = (zEv true (zent 141 [.inr (.inr 122), .inl (if v = 0 then 1 else 0 : Int)] :: (245, 16, [some (.inr (.inr 122)), some (.inl x1), o2, o3, o4, o5], []) :: K) σ) :=
  yT_rt (yI_if_eq zi_245_5 <| yMi0 (j := 13) (ls2 := [some (.inr (.inr 122)), some (.inl x1), o2, o3, o4, o5]) (st2 := [.inr (.inr 122)]) (x := 1) (y := 0) (σ2 := σ) (yI_iconst zi_245_12 <| rfl) (yI_iconst zi_245_8 <| yI_goto zi_245_9 <| rfl) <| yI_cv zi_245_13 rfl rfl zk_122 hK)
theorem zr_245_16 {K : List zF} {σ : zW} {x1 : Int} {o2 : Option zV} {o3 : Option zV} {o4 : Option zV} {o5 : Option zV} {v : Int} (hK : K.length < 60) : zRet true ((245, 16, [some (.inr (.inr 122)), some (.inl x1), o2, o3, o4, o5], []) :: K) (some (.inl v)) σ = (if ¬ v = 0 then zEv true (zent 243 [.inr (.inr 122), .inl x1] :: (245, 26, [some (.inr (.inr 122)), some (.inl x1), o2, o3, o4, o5], []) :: K) σ else zRet true K (some (.inl 0)) σ) :=
  yT_rt (yI_if_ne zi_245_16 <| yBr (yI_aload_n zi_245_21 rfl <| yI_iload_n zi_245_22 rfl <| yI_cv zi_245_23 rfl rfl zk_122 hK) (yI_iconst zi_245_19 <| yI_ireturn zi_245_20))
theorem zr_245_26 {K : List zF} {σ : zW} {x1 : Int} {o2 : Option zV} {o3 : Option zV} {o4 : Option zV} {o5 : Option zV} {v : Int} (hK : K.length < 60) : zRet true ((245, 26, [some (.inr (.inr 122)), some (.inl x1), o2, o3, o4, o5], []) :: K) (some (.inl v)) σ = (zEv true (zent 141 [.inr (.inr 122), .inl (if ¬ v = (-1) then 0 else 2 : Int)] :: (245, 41, [some (.inr (.inr 122)), some (.inl x1), some (.inl v), o3, o4, o5], []) :: K) σ) :=
  yT_rt (yI_istore_n (l := [some (.inr (.inr 122)), some (.inl x1), some (.inl v), o3, o4, o5]) zi_245_26 rfl rfl <| yI_aload_n zi_245_27 rfl <| yI_iload_n zi_245_28 rfl <| yI_iconst zi_245_29 <| yI_ic_ne zi_245_30 <| yMi0 (j := 38) (ls2 := [some (.inr (.inr 122)), some (.inl x1), some (.inl v), o3, o4, o5]) (st2 := [.inr (.inr 122)]) (x := 0) (y := 2) (σ2 := σ) (yI_iconst zi_245_37 <| rfl) (yI_iconst zi_245_33 <| yI_goto zi_245_34 <| rfl) <| yI_cv zi_245_38 rfl rfl zk_122 hK)
theorem zr_245_41 {K : List zF} {σ : zW} {x1 : Int} {x2 : Int} {o3 : Option zV} {o4 : Option zV} {o5 : Option zV} {v : Int} : zRet true ((245, 41, [some (.inr (.inr 122)), some (.inl x1), some (.inl x2), o3, o4, o5], []) :: K) (some (.inl v)) σ = (if ¬ v = 0 then (0 ≤ x2 ∧ x2 < 513) ∧ ((0 ≤ x1 ∧ x1 < 3) ∧ zEv true ((245, 60, [some (.inr (.inr 122)), some (.inl x1), some (.inl x2), some (.inl 0), o4, o5], []) :: K) (sI σ 124 x1.toNat (gI σ 130 x2.toNat))) else zRet true K (some (.inl 0)) σ) :=
  yT_rt (yI_if_ne zi_245_41 <| yBr (yI_aload_n zi_245_46 rfl <| yI_gf_f (v := 124) zi_245_47 zk_122 rfl <| yI_iload_n zi_245_50 rfl <| yI_aload_n zi_245_51 rfl <| yI_gf_f (v := 130) zi_245_52 zk_122 rfl <| yI_iload_n zi_245_55 rfl <| yI_ialoadc (v := gI σ 130 x2.toNat) zi_245_56 za_130 rfl <| yI_iastorec zi_245_57 za_124 <| yI_iconst zi_245_58 <| yI_istore_n (l := [some (.inr (.inr 122)), some (.inl x1), some (.inl x2), some (.inl 0), o4, o5]) zi_245_59 rfl rfl <| rfl) (yI_iconst zi_245_44 <| yI_ireturn zi_245_45))
theorem zj_245_60 {K : List zF} {σ : zW} {x1 : Int} {x2 : Int} {x3 : Int} {o4 : Option zV} {o5 : Option zV} (hK : K.length < 60) : zEv true ((245, 60, [some (.inr (.inr 122)), some (.inl x1), some (.inl x2), some (.inl x3), o4, o5], []) :: K) σ = ((0 ≤ x1 ∧ x1 < 3) ∧ (if (gI σ 124 x1.toNat) ≤ x3 then zEv true (zent 242 [.inr (.inr 122), .inl x2] :: (245, 130, [some (.inr (.inr 122)), some (.inl x1), some (.inl x2), some (.inl x3), o4, o5], []) :: K) σ else (0 ≤ (w32 ((w32 (20 * x2)) + x3)) ∧ (w32 ((w32 (20 * x2)) + x3)) < 10260) ∧ ((0 ≤ (w32 ((w32 (20 * x1)) + x3)) ∧ (w32 ((w32 (20 * x1)) + x3)) < 60) ∧ ((0 ≤ (w32 ((w32 (20 * x1)) + x3)) ∧ (w32 ((w32 (20 * x1)) + x3)) < 60) ∧ zEv true ((245, 60, [some (.inr (.inr 122)), some (.inl x1), some (.inl x2), some (.inl (w32 (x3 + 1))), some (.inr (.inl (gL σ 131 ((w32 ((w32 (20 * x2)) + x3)).toNat)))), none], []) :: K) (sI (sL σ 125 ((w32 ((w32 (20 * x1)) + x3)).toNat) ((gL σ 131 ((w32 ((w32 (20 * x2)) + x3)).toNat)) &&& 281474976710655)) 126 ((w32 ((w32 (20 * x1)) + x3)).toNat) (w32 ((zl2i (zlshr (gL σ 131 ((w32 ((w32 (20 * x2)) + x3)).toNat)) 48)) - 1))))))) :=
  yI_iload_n zi_245_60 rfl <| yI_aload_n zi_245_61 rfl <| yI_gf_f (v := 124) zi_245_62 zk_122 rfl <| yI_iload_n zi_245_65 rfl <| yI_ialoadc (v := gI σ 124 x1.toNat) zi_245_66 za_124 rfl <| yI_ic_ge zi_245_67 <| yBr (yI_aload_n zi_245_125 rfl <| yI_iload_n zi_245_126 rfl <| yI_cv zi_245_127 rfl rfl zk_122 hK) (yI_aload_n zi_245_70 rfl <| yI_gf_f (v := 131) zi_245_71 zk_122 rfl <| yI_bipush zi_245_74 <| yI_iload_n zi_245_76 rfl <| yI_imul zi_245_77 <| yI_iload_n zi_245_78 rfl <| yI_iadd zi_245_79 <| yI_laloadc (v := gL σ 131 ((w32 ((w32 (20 * x2)) + x3)).toNat)) zi_245_80 za_131 rfl <| yI_lstore (l := [some (.inr (.inr 122)), some (.inl x1), some (.inl x2), some (.inl x3), some (.inr (.inl (gL σ 131 ((w32 ((w32 (20 * x2)) + x3)).toNat)))), none]) zi_245_81 rfl rfl <| yI_aload_n zi_245_83 rfl <| yI_gf_f (v := 125) zi_245_84 zk_122 rfl <| yI_bipush zi_245_87 <| yI_iload_n zi_245_89 rfl <| yI_imul zi_245_90 <| yI_iload_n zi_245_91 rfl <| yI_iadd zi_245_92 <| yI_lload zi_245_93 rfl <| yI_ldc2_w zi_245_95 <| yI_land zi_245_98 <| yI_lastorec zi_245_99 za_125 <| yI_aload_n zi_245_100 rfl <| yI_gf_f (v := 126) zi_245_101 zk_122 rfl <| yI_bipush zi_245_104 <| yI_iload_n zi_245_106 rfl <| yI_imul zi_245_107 <| yI_iload_n zi_245_108 rfl <| yI_iadd zi_245_109 <| yI_lload zi_245_110 rfl <| yI_bipush zi_245_112 <| yI_lshr zi_245_114 <| yI_l2i zi_245_115 <| yI_iconst zi_245_116 <| yI_isub zi_245_117 <| yI_iastorec zi_245_118 za_126 <| yI_iinc (l := [some (.inr (.inr 122)), some (.inl x1), some (.inl x2), some (.inl (w32 (x3 + 1))), some (.inr (.inl (gL σ 131 ((w32 ((w32 (20 * x2)) + x3)).toNat)))), none]) zi_245_119 rfl rfl rfl <| yI_goto zi_245_122 <| rfl)
theorem zr_245_130 {K : List zF} {σ : zW} {x1 : Int} {o2 : Option zV} {o3 : Option zV} {o4 : Option zV} {o5 : Option zV} : zRet true ((245, 130, [some (.inr (.inr 122)), some (.inl x1), o2, o3, o4, o5], []) :: K) none σ = ((0 ≤ x1 ∧ x1 < 3) ∧ zRet true K (some (.inl (gI σ 124 x1.toNat))) (sI σ 122 64 (-1))) :=
  yT_rv (yI_aload_n zi_245_130 rfl <| yI_iconst zi_245_131 <| yI_pf_i zi_245_132 zk_122 <| yI_aload_n zi_245_135 rfl <| yI_gf_f (v := 124) zi_245_136 zk_122 rfl <| yI_iload_n zi_245_139 rfl <| yI_ialoadc (v := gI σ 124 x1.toNat) zi_245_140 za_124 (yGI_nk (by decide)) <| yI_ireturn zi_245_141)
/-- 246 TreegrabModel.prints(I)V -/
theorem zi_246_0 : zraw 246 0 = some (.aload_n 0, 1) ∧ 0 + 1 = 1 := by decide +kernel
theorem zi_246_1 : zraw 246 1 = some (.getfield 202, 3) ∧ zft (zinf 246).1 202 = some (10, 86, 3, true) ∧ 1 + 3 = 4 := by decide +kernel
theorem zi_246_4 : zraw 246 4 = some (.aload_n 0, 1) ∧ 4 + 1 = 5 := by decide +kernel
theorem zi_246_5 : zraw 246 5 = some (.getfield 584, 3) ∧ zft (zinf 246).1 584 = some (10, 87, 0, false) ∧ 5 + 3 = 8 := by decide +kernel
theorem zi_246_8 : zraw 246 8 = some (.iload_n 1, 1) ∧ 8 + 1 = 9 := by decide +kernel
theorem zi_246_9 : zraw 246 9 = some (.iastore, 1) ∧ 9 + 1 = 10 := by decide +kernel
theorem zi_246_10 : zraw 246 10 = some (.aload_n 0, 1) ∧ 10 + 1 = 11 := by decide +kernel
theorem zi_246_11 : zraw 246 11 = some (.dup, 1) ∧ 11 + 1 = 12 := by decide +kernel
theorem zi_246_12 : zraw 246 12 = some (.getfield 584, 3) ∧ zft (zinf 246).1 584 = some (10, 87, 0, false) ∧ 12 + 3 = 15 := by decide +kernel
theorem zi_246_15 : zraw 246 15 = some (.iconst 1, 1) ∧ zin 128 1 = true ∧ 15 + 1 = 16 := by decide +kernel
theorem zi_246_16 : zraw 246 16 = some (.iadd, 1) ∧ 16 + 1 = 17 := by decide +kernel
theorem zi_246_17 : zraw 246 17 = some (.putfield 584, 3) ∧ zft (zinf 246).1 584 = some (10, 87, 0, false) ∧ 17 + 3 = 20 := by decide +kernel
theorem zi_246_20 : zraw 246 20 = some (.return_, 1) ∧ (zinf 246).2.2.2.1 = 0 := by decide +kernel
theorem ze_246 {K : List zF} {σ : zW} {x1 : Int} : zEv true (zent 246 [.inr (.inr 122), .inl x1] :: K) σ = ((0 ≤ (gI σ 122 87) ∧ (gI σ 122 87) < 512) ∧ zRet true K none (sI (sI σ 185 ((gI σ 122 87).toNat) x1) 122 87 (w32 ((gI σ 122 87) + 1)))) :=
  yT_en (f := (246, 0, [some (.inr (.inr 122)), some (.inl x1)], [])) rfl (yI_aload_n zi_246_0 rfl <| yI_gf_f (v := 185) zi_246_1 zk_122 rfl <| yI_aload_n zi_246_4 rfl <| yI_gf_i (v := gI σ 122 87) zi_246_5 zk_122 rfl <| yI_iload_n zi_246_8 rfl <| yI_iastorec zi_246_9 za_185 <| yI_aload_n zi_246_10 rfl <| yI_dup_r zi_246_11 <| yI_gf_i (v := gI σ 122 87) zi_246_12 zk_122 (yGI_nk (by decide)) <| yI_iconst zi_246_15 <| yI_iadd zi_246_16 <| yI_pf_i zi_246_17 zk_122 <| yI_ret zi_246_20)
/-- 247 TreegrabModel.printsLabel(J)V -/
theorem zi_247_0 : zraw 247 0 = some (.lload_n 1, 1) ∧ 0 + 1 = 1 := by decide +kernel
theorem zi_247_1 : zraw 247 1 = some (.lstore_n 3, 1) ∧ 1 + 1 = 2 := by decide +kernel
theorem zi_247_2 : zraw 247 2 = some (.lload_n 3, 1) ∧ 2 + 1 = 3 := by decide +kernel
theorem zi_247_3 : zraw 247 3 = some (.lconst 0, 1) ∧ (bif Nat.beq (0 : Fin 2).val 0 then (0 : Int64) else 1) = 0 ∧ 3 + 1 = 4 := by decide +kernel
theorem zi_247_4 : zraw 247 4 = some (.lcmp, 1) ∧ 4 + 1 = 5 := by decide +kernel
theorem zi_247_5 : zraw 247 5 = some (.ifCond .eq 21, 3) ∧ ((5 : Nat) : Int) + 21 = Int.ofNat 26 ∧ 5 + 3 = 8 := by decide +kernel
theorem zi_247_8 : zraw 247 8 = some (.aload_n 0, 1) ∧ 8 + 1 = 9 := by decide +kernel
theorem zi_247_9 : zraw 247 9 = some (.lload_n 3, 1) ∧ 9 + 1 = 10 := by decide +kernel
theorem zi_247_10 : zraw 247 10 = some (.ldc2_w 356, 3) ∧ zlt (zinf 247).1 356 = some 255 ∧ 10 + 3 = 13 := by decide +kernel
theorem zi_247_13 : zraw 247 13 = some (.land, 1) ∧ 13 + 1 = 14 := by decide +kernel
theorem zi_247_14 : zraw 247 14 = some (.l2i, 1) ∧ 14 + 1 = 15 := by decide +kernel
theorem zi_247_15 : zraw 247 15 = some (.invokevirtual 587, 3) ∧ zmt (zinf 247).1 587 = some 246 ∧ Nat.ble 9000 246 = false ∧ zinf 246 = (10, 2, 2, 0, 0) ∧ 15 + 3 = 18 := by decide +kernel
theorem zi_247_18 : zraw 247 18 = some (.lload_n 3, 1) ∧ 18 + 1 = 19 := by decide +kernel
theorem zi_247_19 : zraw 247 19 = some (.bipush 8, 2) ∧ zin 128 8 = true ∧ 19 + 2 = 21 := by decide +kernel
theorem zi_247_21 : zraw 247 21 = some (.lshr, 1) ∧ 21 + 1 = 22 := by decide +kernel
theorem zi_247_22 : zraw 247 22 = some (.lstore_n 3, 1) ∧ 22 + 1 = 23 := by decide +kernel
theorem zi_247_23 : zraw 247 23 = some (.goto (-21), 3) ∧ ((23 : Nat) : Int) + (-21) = Int.ofNat 2 := by decide +kernel
theorem zi_247_26 : zraw 247 26 = some (.return_, 1) ∧ (zinf 247).2.2.2.1 = 0 := by decide +kernel
theorem ze_247 {K : List zF} {σ : zW} {x1 : Int64} : zEv true (zent 247 [.inr (.inr 122), .inr (.inl x1)] :: K) σ = (zEv true ((247, 2, [some (.inr (.inr 122)), some (.inr (.inl x1)), none, some (.inr (.inl x1)), none], []) :: K) σ) :=
  yT_en (f := (247, 0, [some (.inr (.inr 122)), some (.inr (.inl x1)), none, none, none], [])) rfl (yI_lload_n zi_247_0 rfl <| yI_lstore_n (l := [some (.inr (.inr 122)), some (.inr (.inl x1)), none, some (.inr (.inl x1)), none]) zi_247_1 rfl rfl <| rfl)
theorem zj_247_2 {K : List zF} {σ : zW} {o1 : Option zV} {o2 : Option zV} {x3 : Int64} (hK : K.length < 60) : zEv true ((247, 2, [some (.inr (.inr 122)), o1, o2, some (.inr (.inl x3)), none], []) :: K) σ = (if (zlc x3 0) = 0 then zRet true K none σ else zEv true (zent 246 [.inr (.inr 122), .inl (zl2i (x3 &&& 255))] :: (247, 18, [some (.inr (.inr 122)), o1, o2, some (.inr (.inl x3)), none], []) :: K) σ) :=
  yI_lload_n zi_247_2 rfl <| yI_lconst zi_247_3 <| yI_lcmp zi_247_4 <| yI_if_eq zi_247_5 <| yBr (yI_ret zi_247_26) (yI_aload_n zi_247_8 rfl <| yI_lload_n zi_247_9 rfl <| yI_ldc2_w zi_247_10 <| yI_land zi_247_13 <| yI_l2i zi_247_14 <| yI_cv zi_247_15 rfl rfl zk_122 hK)
theorem zr_247_18 {K : List zF} {σ : zW} {o1 : Option zV} {o2 : Option zV} {x3 : Int64} : zRet true ((247, 18, [some (.inr (.inr 122)), o1, o2, some (.inr (.inl x3)), none], []) :: K) none σ = (zEv true ((247, 2, [some (.inr (.inr 122)), o1, (zcut 0 o2), some (.inr (.inl (zlshr x3 8))), none], []) :: K) σ) :=
  yT_rv (yI_lload_n zi_247_18 rfl <| yI_bipush zi_247_19 <| yI_lshr zi_247_21 <| yI_lstore_n (l := [some (.inr (.inr 122)), o1, (zcut 0 o2), some (.inr (.inl (zlshr x3 8))), none]) zi_247_22 rfl rfl <| yI_goto zi_247_23 <| rfl)
/-- 248 TreegrabModel.show(I)I -/
theorem zi_248_0 : zraw 248 0 = some (.aload_n 0, 1) ∧ 0 + 1 = 1 := by decide +kernel
theorem zi_248_1 : zraw 248 1 = some (.iload_n 1, 1) ∧ 1 + 1 = 2 := by decide +kernel
theorem zi_248_2 : zraw 248 2 = some (.invokestatic 358, 3) ∧ zmt (zinf 248).1 358 = some 143 ∧ Nat.ble 9000 143 = false ∧ zinf 143 = (10, 1, 1, 2, 1) ∧ 2 + 3 = 5 := by decide +kernel
theorem zi_248_5 : zraw 248 5 = some (.ifCond .eq 7, 3) ∧ ((5 : Nat) : Int) + 7 = Int.ofNat 12 ∧ 5 + 3 = 8 := by decide +kernel
theorem zi_248_8 : zraw 248 8 = some (.iconst 0, 1) ∧ zin 128 0 = true ∧ 8 + 1 = 9 := by decide +kernel
theorem zi_248_9 : zraw 248 9 = some (.goto 4, 3) ∧ ((9 : Nat) : Int) + 4 = Int.ofNat 13 := by decide +kernel
theorem zi_248_12 : zraw 248 12 = some (.iconst 1, 1) ∧ zin 128 1 = true ∧ 12 + 1 = 13 := by decide +kernel
theorem zi_248_13 : zraw 248 13 = some (.invokevirtual 353, 3) ∧ zmt (zinf 248).1 353 = some 141 ∧ Nat.ble 9000 141 = false ∧ zinf 141 = (10, 2, 2, 2, 0) ∧ 13 + 3 = 16 := by decide +kernel
theorem zi_248_16 : zraw 248 16 = some (.ifCond .ne 5, 3) ∧ ((16 : Nat) : Int) + 5 = Int.ofNat 21 ∧ 16 + 3 = 19 := by decide +kernel
theorem zi_248_19 : zraw 248 19 = some (.iconst 0, 1) ∧ zin 128 0 = true ∧ 19 + 1 = 20 := by decide +kernel
theorem zi_248_20 : zraw 248 20 = some (.ireturn, 1) ∧ (zinf 248).2.2.2.1 = 1 := by decide +kernel
theorem zi_248_21 : zraw 248 21 = some (.aload_n 0, 1) ∧ 21 + 1 = 22 := by decide +kernel
theorem zi_248_22 : zraw 248 22 = some (.iconst 0, 1) ∧ zin 128 0 = true ∧ 22 + 1 = 23 := by decide +kernel
theorem zi_248_23 : zraw 248 23 = some (.putfield 584, 3) ∧ zft (zinf 248).1 584 = some (10, 87, 0, false) ∧ 23 + 3 = 26 := by decide +kernel
theorem zi_248_26 : zraw 248 26 = some (.aload_n 0, 1) ∧ 26 + 1 = 27 := by decide +kernel
theorem zi_248_27 : zraw 248 27 = some (.iload_n 1, 1) ∧ 27 + 1 = 28 := by decide +kernel
theorem zi_248_28 : zraw 248 28 = some (.invokevirtual 561, 3) ∧ zmt (zinf 248).1 561 = some 238 ∧ Nat.ble 9000 238 = false ∧ zinf 238 = (10, 2, 4, 0, 0) ∧ 28 + 3 = 31 := by decide +kernel
theorem zi_248_31 : zraw 248 31 = some (.iconst 0, 1) ∧ zin 128 0 = true ∧ 31 + 1 = 32 := by decide +kernel
theorem zi_248_32 : zraw 248 32 = some (.istore_n 2, 1) ∧ 32 + 1 = 33 := by decide +kernel
theorem zi_248_33 : zraw 248 33 = some (.iload_n 2, 1) ∧ 33 + 1 = 34 := by decide +kernel
theorem zi_248_34 : zraw 248 34 = some (.aload_n 0, 1) ∧ 34 + 1 = 35 := by decide +kernel
theorem zi_248_35 : zraw 248 35 = some (.getfield 498, 3) ∧ zft (zinf 248).1 498 = some (10, 77, 0, false) ∧ 35 + 3 = 38 := by decide +kernel
theorem zi_248_38 : zraw 248 38 = some (.if_icmp .ge 92, 3) ∧ ((38 : Nat) : Int) + 92 = Int.ofNat 130 ∧ 38 + 3 = 41 := by decide +kernel
theorem zi_248_41 : zraw 248 41 = some (.iload_n 2, 1) ∧ 41 + 1 = 42 := by decide +kernel
theorem zi_248_42 : zraw 248 42 = some (.ifCond .le 9, 3) ∧ ((42 : Nat) : Int) + 9 = Int.ofNat 51 ∧ 42 + 3 = 45 := by decide +kernel
theorem zi_248_45 : zraw 248 45 = some (.aload_n 0, 1) ∧ 45 + 1 = 46 := by decide +kernel
theorem zi_248_46 : zraw 248 46 = some (.bipush 32, 2) ∧ zin 128 32 = true ∧ 46 + 2 = 48 := by decide +kernel
theorem zi_248_48 : zraw 248 48 = some (.invokevirtual 587, 3) ∧ zmt (zinf 248).1 587 = some 246 ∧ Nat.ble 9000 246 = false ∧ zinf 246 = (10, 2, 2, 0, 0) ∧ 48 + 3 = 51 := by decide +kernel
theorem zi_248_51 : zraw 248 51 = some (.aload_n 0, 1) ∧ 51 + 1 = 52 := by decide +kernel
theorem zi_248_52 : zraw 248 52 = some (.iload_n 2, 1) ∧ 52 + 1 = 53 := by decide +kernel
theorem zi_248_53 : zraw 248 53 = some (.invokevirtual 511, 3) ∧ zmt (zinf 248).1 511 = some 224 ∧ Nat.ble 9000 224 = false ∧ zinf 224 = (10, 2, 2, 2, 0) ∧ 53 + 3 = 56 := by decide +kernel
theorem zi_248_56 : zraw 248 56 = some (.ifCond .ne 9, 3) ∧ ((56 : Nat) : Int) + 9 = Int.ofNat 65 ∧ 56 + 3 = 59 := by decide +kernel
theorem zi_248_59 : zraw 248 59 = some (.aload_n 0, 1) ∧ 59 + 1 = 60 := by decide +kernel
theorem zi_248_60 : zraw 248 60 = some (.bipush 40, 2) ∧ zin 128 40 = true ∧ 60 + 2 = 62 := by decide +kernel
theorem zi_248_62 : zraw 248 62 = some (.invokevirtual 587, 3) ∧ zmt (zinf 248).1 587 = some 246 ∧ Nat.ble 9000 246 = false ∧ zinf 246 = (10, 2, 2, 0, 0) ∧ 62 + 3 = 65 := by decide +kernel
theorem zi_248_65 : zraw 248 65 = some (.aload_n 0, 1) ∧ 65 + 1 = 66 := by decide +kernel
theorem zi_248_66 : zraw 248 66 = some (.aload_n 0, 1) ∧ 66 + 1 = 67 := by decide +kernel
theorem zi_248_67 : zraw 248 67 = some (.getfield 190, 3) ∧ zft (zinf 248).1 190 = some (10, 80, 3, true) ∧ 67 + 3 = 70 := by decide +kernel
theorem zi_248_70 : zraw 248 70 = some (.iload_n 2, 1) ∧ 70 + 1 = 71 := by decide +kernel
theorem zi_248_71 : zraw 248 71 = some (.laload, 1) ∧ 71 + 1 = 72 := by decide +kernel
theorem zi_248_72 : zraw 248 72 = some (.invokevirtual 590, 3) ∧ zmt (zinf 248).1 590 = some 247 ∧ Nat.ble 9000 247 = false ∧ zinf 247 = (10, 2, 5, 0, 0) ∧ 72 + 3 = 75 := by decide +kernel
theorem zi_248_75 : zraw 248 75 = some (.iload_n 2, 1) ∧ 75 + 1 = 76 := by decide +kernel
theorem zi_248_76 : zraw 248 76 = some (.iconst 1, 1) ∧ zin 128 1 = true ∧ 76 + 1 = 77 := by decide +kernel
theorem zi_248_77 : zraw 248 77 = some (.iadd, 1) ∧ 77 + 1 = 78 := by decide +kernel
theorem zi_248_78 : zraw 248 78 = some (.aload_n 0, 1) ∧ 78 + 1 = 79 := by decide +kernel
theorem zi_248_79 : zraw 248 79 = some (.getfield 498, 3) ∧ zft (zinf 248).1 498 = some (10, 77, 0, false) ∧ 79 + 3 = 82 := by decide +kernel
theorem zi_248_82 : zraw 248 82 = some (.if_icmp .ge 14, 3) ∧ ((82 : Nat) : Int) + 14 = Int.ofNat 96 ∧ 82 + 3 = 85 := by decide +kernel
theorem zi_248_85 : zraw 248 85 = some (.aload_n 0, 1) ∧ 85 + 1 = 86 := by decide +kernel
theorem zi_248_86 : zraw 248 86 = some (.getfield 187, 3) ∧ zft (zinf 248).1 187 = some (10, 79, 3, true) ∧ 86 + 3 = 89 := by decide +kernel
theorem zi_248_89 : zraw 248 89 = some (.iload_n 2, 1) ∧ 89 + 1 = 90 := by decide +kernel
theorem zi_248_90 : zraw 248 90 = some (.iconst 1, 1) ∧ zin 128 1 = true ∧ 90 + 1 = 91 := by decide +kernel
theorem zi_248_91 : zraw 248 91 = some (.iadd, 1) ∧ 91 + 1 = 92 := by decide +kernel
theorem zi_248_92 : zraw 248 92 = some (.iaload, 1) ∧ 92 + 1 = 93 := by decide +kernel
theorem zi_248_93 : zraw 248 93 = some (.goto 4, 3) ∧ ((93 : Nat) : Int) + 4 = Int.ofNat 97 := by decide +kernel
theorem zi_248_96 : zraw 248 96 = some (.iconst 0, 1) ∧ zin 128 0 = true ∧ 96 + 1 = 97 := by decide +kernel
theorem zi_248_97 : zraw 248 97 = some (.istore_n 3, 1) ∧ 97 + 1 = 98 := by decide +kernel
theorem zi_248_98 : zraw 248 98 = some (.aload_n 0, 1) ∧ 98 + 1 = 99 := by decide +kernel
theorem zi_248_99 : zraw 248 99 = some (.getfield 187, 3) ∧ zft (zinf 248).1 187 = some (10, 79, 3, true) ∧ 99 + 3 = 102 := by decide +kernel
theorem zi_248_102 : zraw 248 102 = some (.iload_n 2, 1) ∧ 102 + 1 = 103 := by decide +kernel
theorem zi_248_103 : zraw 248 103 = some (.iaload, 1) ∧ 103 + 1 = 104 := by decide +kernel
theorem zi_248_104 : zraw 248 104 = some (.istore 4, 2) ∧ 104 + 2 = 106 := by decide +kernel
theorem zi_248_106 : zraw 248 106 = some (.iload 4, 2) ∧ 106 + 2 = 108 := by decide +kernel
theorem zi_248_108 : zraw 248 108 = some (.iload_n 3, 1) ∧ 108 + 1 = 109 := by decide +kernel
theorem zi_248_109 : zraw 248 109 = some (.if_icmp .le 15, 3) ∧ ((109 : Nat) : Int) + 15 = Int.ofNat 124 ∧ 109 + 3 = 112 := by decide +kernel
theorem zi_248_112 : zraw 248 112 = some (.aload_n 0, 1) ∧ 112 + 1 = 113 := by decide +kernel
theorem zi_248_113 : zraw 248 113 = some (.bipush 41, 2) ∧ zin 128 41 = true ∧ 113 + 2 = 115 := by decide +kernel
theorem zi_248_115 : zraw 248 115 = some (.invokevirtual 587, 3) ∧ zmt (zinf 248).1 587 = some 246 ∧ Nat.ble 9000 246 = false ∧ zinf 246 = (10, 2, 2, 0, 0) ∧ 115 + 3 = 118 := by decide +kernel
theorem zi_248_118 : zraw 248 118 = some (.iinc 4 (-1), 3) ∧ zin 32768 (-1) = true ∧ 118 + 3 = 121 := by decide +kernel
theorem zi_248_121 : zraw 248 121 = some (.goto (-15), 3) ∧ ((121 : Nat) : Int) + (-15) = Int.ofNat 106 := by decide +kernel
theorem zi_248_124 : zraw 248 124 = some (.iinc 2 1, 3) ∧ zin 32768 1 = true ∧ 124 + 3 = 127 := by decide +kernel
theorem zi_248_127 : zraw 248 127 = some (.goto (-94), 3) ∧ ((127 : Nat) : Int) + (-94) = Int.ofNat 33 := by decide +kernel
theorem zi_248_130 : zraw 248 130 = some (.aload_n 0, 1) ∧ 130 + 1 = 131 := by decide +kernel
theorem zi_248_131 : zraw 248 131 = some (.getfield 584, 3) ∧ zft (zinf 248).1 584 = some (10, 87, 0, false) ∧ 131 + 3 = 134 := by decide +kernel
theorem zi_248_134 : zraw 248 134 = some (.ireturn, 1) ∧ (zinf 248).2.2.2.1 = 1 := by decide +kernel
theorem ze_248 {K : List zF} {σ : zW} {x1 : Int} (hK : K.length < 60) : zEv true (zent 248 [.inr (.inr 122), .inl x1] :: K) σ = (zEv true (zent 143 [.inl x1] :: (248, 5, [some (.inr (.inr 122)), some (.inl x1), none, none, none], [.inr (.inr 122)]) :: K) σ) :=
  yT_en (f := (248, 0, [some (.inr (.inr 122)), some (.inl x1), none, none, none], [])) rfl (yI_aload_n zi_248_0 rfl <| yI_iload_n zi_248_1 rfl <| yI_cs zi_248_2 rfl rfl hK)
theorem zr_248_5 {K : List zF} {σ : zW} {x1 : Int} {o2 : Option zV} {o3 : Option zV} {o4 : Option zV} {v : Int} (hK : K.length < 60) : zRet true ((248, 5, [some (.inr (.inr 122)), some (.inl x1), o2, o3, o4], [.inr (.inr 122)]) :: K) (some (.inl v)) σ = (zEv true (zent 141 [.inr (.inr 122), .inl (if v = 0 then 1 else 0 : Int)] :: (248, 16, [some (.inr (.inr 122)), some (.inl x1), o2, o3, o4], []) :: K) σ) :=
  yT_rt (yI_if_eq zi_248_5 <| yMi0 (j := 13) (ls2 := [some (.inr (.inr 122)), some (.inl x1), o2, o3, o4]) (st2 := [.inr (.inr 122)]) (x := 1) (y := 0) (σ2 := σ) (yI_iconst zi_248_12 <| rfl) (yI_iconst zi_248_8 <| yI_goto zi_248_9 <| rfl) <| yI_cv zi_248_13 rfl rfl zk_122 hK)
theorem zr_248_16 {K : List zF} {σ : zW} {x1 : Int} {o2 : Option zV} {o3 : Option zV} {o4 : Option zV} {v : Int} (hK : K.length < 60) : zRet true ((248, 16, [some (.inr (.inr 122)), some (.inl x1), o2, o3, o4], []) :: K) (some (.inl v)) σ = (if ¬ v = 0 then zEv true (zent 238 [.inr (.inr 122), .inl x1] :: (248, 31, [some (.inr (.inr 122)), some (.inl x1), o2, o3, o4], []) :: K) (sI σ 122 87 0) else zRet true K (some (.inl 0)) σ) :=
  yT_rt (yI_if_ne zi_248_16 <| yBr (yI_aload_n zi_248_21 rfl <| yI_iconst zi_248_22 <| yI_pf_i zi_248_23 zk_122 <| yI_aload_n zi_248_26 rfl <| yI_iload_n zi_248_27 rfl <| yI_cv zi_248_28 rfl rfl zk_122 hK) (yI_iconst zi_248_19 <| yI_ireturn zi_248_20))
theorem zr_248_31 {K : List zF} {σ : zW} {o1 : Option zV} {o2 : Option zV} {o3 : Option zV} {o4 : Option zV} : zRet true ((248, 31, [some (.inr (.inr 122)), o1, o2, o3, o4], []) :: K) none σ = (zEv true ((248, 33, [some (.inr (.inr 122)), (zcut 0 o1), some (.inl 0), o3, o4], []) :: K) σ) :=
  yT_rv (yI_iconst zi_248_31 <| yI_istore_n (l := [some (.inr (.inr 122)), (zcut 0 o1), some (.inl 0), o3, o4]) zi_248_32 rfl rfl <| rfl)
theorem zj_248_33 {K : List zF} {σ : zW} {o1 : Option zV} {x2 : Int} {o3 : Option zV} {o4 : Option zV} (hK : K.length < 60) : zEv true ((248, 33, [some (.inr (.inr 122)), o1, some (.inl x2), o3, o4], []) :: K) σ = (if (gI σ 122 77) ≤ x2 then zRet true K (some (.inl (gI σ 122 87))) σ else if x2 ≤ 0 then zEv true ((248, 51, [some (.inr (.inr 122)), o1, some (.inl x2), o3, o4], []) :: K) σ else zEv true (zent 246 [.inr (.inr 122), .inl 32] :: (248, 51, [some (.inr (.inr 122)), o1, some (.inl x2), o3, o4], []) :: K) σ) :=
  yI_iload_n zi_248_33 rfl <| yI_aload_n zi_248_34 rfl <| yI_gf_i (v := gI σ 122 77) zi_248_35 zk_122 rfl <| yI_ic_ge zi_248_38 <| yBr (yI_aload_n zi_248_130 rfl <| yI_gf_i (v := gI σ 122 87) zi_248_131 zk_122 rfl <| yI_ireturn zi_248_134) (yI_iload_n zi_248_41 rfl <| yI_if_le zi_248_42 <| yBr (rfl) (yI_aload_n zi_248_45 rfl <| yI_bipush zi_248_46 <| yI_cv zi_248_48 rfl rfl zk_122 hK))
theorem zj_248_51 {K : List zF} {σ : zW} {o1 : Option zV} {x2 : Int} {o3 : Option zV} {o4 : Option zV} (hK : K.length < 60) : zEv true ((248, 51, [some (.inr (.inr 122)), o1, some (.inl x2), o3, o4], []) :: K) σ = (zEv true (zent 224 [.inr (.inr 122), .inl x2] :: (248, 56, [some (.inr (.inr 122)), o1, some (.inl x2), o3, o4], []) :: K) σ) :=
  yI_aload_n zi_248_51 rfl <| yI_iload_n zi_248_52 rfl <| yI_cv zi_248_53 rfl rfl zk_122 hK
theorem zr_248_51 {K : List zF} {σ : zW} {o1 : Option zV} {x2 : Int} {o3 : Option zV} {o4 : Option zV} (hK : K.length < 60) : zRet true ((248, 51, [some (.inr (.inr 122)), o1, some (.inl x2), o3, o4], []) :: K) none σ = (zEv true (zent 224 [.inr (.inr 122), .inl x2] :: (248, 56, [some (.inr (.inr 122)), o1, some (.inl x2), o3, o4], []) :: K) σ) :=
  yT_rv (yI_aload_n zi_248_51 rfl <| yI_iload_n zi_248_52 rfl <| yI_cv zi_248_53 rfl rfl zk_122 hK)
theorem zr_248_56 {K : List zF} {σ : zW} {o1 : Option zV} {x2 : Int} {o3 : Option zV} {o4 : Option zV} {v : Int} (hK : K.length < 60) : zRet true ((248, 56, [some (.inr (.inr 122)), o1, some (.inl x2), o3, o4], []) :: K) (some (.inl v)) σ = (if ¬ v = 0 then zEv true ((248, 65, [some (.inr (.inr 122)), o1, some (.inl x2), o3, o4], []) :: K) σ else zEv true (zent 246 [.inr (.inr 122), .inl 40] :: (248, 65, [some (.inr (.inr 122)), o1, some (.inl x2), o3, o4], []) :: K) σ) :=
  yT_rt (yI_if_ne zi_248_56 <| yBr (rfl) (yI_aload_n zi_248_59 rfl <| yI_bipush zi_248_60 <| yI_cv zi_248_62 rfl rfl zk_122 hK))
theorem zj_248_65 {K : List zF} {σ : zW} {o1 : Option zV} {x2 : Int} {o3 : Option zV} {o4 : Option zV} (hK : K.length < 60) : zEv true ((248, 65, [some (.inr (.inr 122)), o1, some (.inl x2), o3, o4], []) :: K) σ = ((0 ≤ x2 ∧ x2 < 24) ∧ zEv true (zent 247 [.inr (.inr 122), .inr (.inl (gL σ 181 x2.toNat))] :: (248, 75, [some (.inr (.inr 122)), o1, some (.inl x2), o3, o4], []) :: K) σ) :=
  yI_aload_n zi_248_65 rfl <| yI_aload_n zi_248_66 rfl <| yI_gf_f (v := 181) zi_248_67 zk_122 rfl <| yI_iload_n zi_248_70 rfl <| yI_laloadc (v := gL σ 181 x2.toNat) zi_248_71 za_181 rfl <| yI_cv zi_248_72 rfl rfl zk_122 hK
theorem zr_248_65 {K : List zF} {σ : zW} {o1 : Option zV} {x2 : Int} {o3 : Option zV} {o4 : Option zV} (hK : K.length < 60) : zRet true ((248, 65, [some (.inr (.inr 122)), o1, some (.inl x2), o3, o4], []) :: K) none σ = ((0 ≤ x2 ∧ x2 < 24) ∧ zEv true (zent 247 [.inr (.inr 122), .inr (.inl (gL σ 181 x2.toNat))] :: (248, 75, [some (.inr (.inr 122)), o1, some (.inl x2), o3, o4], []) :: K) σ) :=
  yT_rv (yI_aload_n zi_248_65 rfl <| yI_aload_n zi_248_66 rfl <| yI_gf_f (v := 181) zi_248_67 zk_122 rfl <| yI_iload_n zi_248_70 rfl <| yI_laloadc (v := gL σ 181 x2.toNat) zi_248_71 za_181 rfl <| yI_cv zi_248_72 rfl rfl zk_122 hK)
theorem zr_248_75 {K : List zF} {σ : zW} {o1 : Option zV} {x2 : Int} {o3 : Option zV} {o4 : Option zV} : zRet true ((248, 75, [some (.inr (.inr 122)), o1, some (.inl x2), o3, o4], []) :: K) none σ = ((¬ ((gI σ 122 77) ≤ (w32 (x2 + 1))) → (0 ≤ (w32 (x2 + 1)) ∧ (w32 (x2 + 1)) < 24)) ∧ ((0 ≤ x2 ∧ x2 < 24) ∧ zEv true ((248, 106, [some (.inr (.inr 122)), o1, some (.inl x2), some (.inl (if (gI σ 122 77) ≤ (w32 (x2 + 1)) then 0 else gI σ 180 ((w32 (x2 + 1)).toNat) : Int)), some (.inl (gI σ 180 x2.toNat))], []) :: K) σ)) :=
  yT_rv (yI_iload_n zi_248_75 rfl <| yI_iconst zi_248_76 <| yI_iadd zi_248_77 <| yI_aload_n zi_248_78 rfl <| yI_gf_i (v := gI σ 122 77) zi_248_79 zk_122 rfl <| yI_ic_ge zi_248_82 <| yMi2 (j := 97) (ls2 := [some (.inr (.inr 122)), o1, some (.inl x2), o3, o4]) (st2 := []) (x := 0) (y := gI σ 180 ((w32 (x2 + 1)).toNat)) (σ2 := σ) (yI_iconst zi_248_96 <| rfl) (yI_aload_n zi_248_85 rfl <| yI_gf_f (v := 180) zi_248_86 zk_122 rfl <| yI_iload_n zi_248_89 rfl <| yI_iconst zi_248_90 <| yI_iadd zi_248_91 <| yI_ialoadc (v := gI σ 180 ((w32 (x2 + 1)).toNat)) zi_248_92 za_180 rfl <| yI_goto zi_248_93 <| rfl) <| yI_istore_n (l := [some (.inr (.inr 122)), o1, some (.inl x2), some (.inl (if (gI σ 122 77) ≤ (w32 (x2 + 1)) then 0 else gI σ 180 ((w32 (x2 + 1)).toNat) : Int)), o4]) zi_248_97 rfl rfl <| yI_aload_n zi_248_98 rfl <| yI_gf_f (v := 180) zi_248_99 zk_122 rfl <| yI_iload_n zi_248_102 rfl <| yI_ialoadc (v := gI σ 180 x2.toNat) zi_248_103 za_180 rfl <| yI_istore (l := [some (.inr (.inr 122)), o1, some (.inl x2), some (.inl (if (gI σ 122 77) ≤ (w32 (x2 + 1)) then 0 else gI σ 180 ((w32 (x2 + 1)).toNat) : Int)), some (.inl (gI σ 180 x2.toNat))]) zi_248_104 rfl rfl <| rfl)
theorem zj_248_106 {K : List zF} {σ : zW} {o1 : Option zV} {x2 : Int} {x3 : Int} {x4 : Int} (hK : K.length < 60) : zEv true ((248, 106, [some (.inr (.inr 122)), o1, some (.inl x2), some (.inl x3), some (.inl x4)], []) :: K) σ = (if x4 ≤ x3 then zEv true ((248, 33, [some (.inr (.inr 122)), (zcut 0 o1), some (.inl (w32 (x2 + 1))), some (.inl x3), some (.inl x4)], []) :: K) σ else zEv true (zent 246 [.inr (.inr 122), .inl 41] :: (248, 118, [some (.inr (.inr 122)), o1, some (.inl x2), some (.inl x3), some (.inl x4)], []) :: K) σ) :=
  yI_iload zi_248_106 rfl <| yI_iload_n zi_248_108 rfl <| yI_ic_le zi_248_109 <| yBr (yI_iinc (l := [some (.inr (.inr 122)), (zcut 0 o1), some (.inl (w32 (x2 + 1))), some (.inl x3), some (.inl x4)]) zi_248_124 rfl rfl rfl <| yI_goto zi_248_127 <| rfl) (yI_aload_n zi_248_112 rfl <| yI_bipush zi_248_113 <| yI_cv zi_248_115 rfl rfl zk_122 hK)
theorem zr_248_118 {K : List zF} {σ : zW} {o1 : Option zV} {x2 : Int} {x3 : Int} {x4 : Int} : zRet true ((248, 118, [some (.inr (.inr 122)), o1, some (.inl x2), some (.inl x3), some (.inl x4)], []) :: K) none σ = (zEv true ((248, 106, [some (.inr (.inr 122)), o1, some (.inl x2), some (.inl x3), some (.inl (w32 (x4 + (-1))))], []) :: K) σ) :=
  yT_rv (yI_iinc (l := [some (.inr (.inr 122)), o1, some (.inl x2), some (.inl x3), some (.inl (w32 (x4 + (-1))))]) zi_248_118 rfl rfl rfl <| yI_goto zi_248_121 <| rfl)
/-- 249 TreegrabModel.label(II)I -/
theorem zi_249_0 : zraw 249 0 = some (.aload_n 0, 1) ∧ 0 + 1 = 1 := by decide +kernel
theorem zi_249_1 : zraw 249 1 = some (.iload_n 1, 1) ∧ 1 + 1 = 2 := by decide +kernel
theorem zi_249_2 : zraw 249 2 = some (.iload_n 2, 1) ∧ 2 + 1 = 3 := by decide +kernel
theorem zi_249_3 : zraw 249 3 = some (.invokevirtual 386, 3) ∧ zmt (zinf 249).1 386 = some 178 ∧ Nat.ble 9000 178 = false ∧ zinf 178 = (10, 3, 4, 2, 0) ∧ 3 + 3 = 6 := by decide +kernel
theorem zi_249_6 : zraw 249 6 = some (.ifCond .ne 5, 3) ∧ ((6 : Nat) : Int) + 5 = Int.ofNat 11 ∧ 6 + 3 = 9 := by decide +kernel
theorem zi_249_9 : zraw 249 9 = some (.iconst 0, 1) ∧ zin 128 0 = true ∧ 9 + 1 = 10 := by decide +kernel
theorem zi_249_10 : zraw 249 10 = some (.ireturn, 1) ∧ (zinf 249).2.2.2.1 = 1 := by decide +kernel
theorem zi_249_11 : zraw 249 11 = some (.aload_n 0, 1) ∧ 11 + 1 = 12 := by decide +kernel
theorem zi_249_12 : zraw 249 12 = some (.iconst 0, 1) ∧ zin 128 0 = true ∧ 12 + 1 = 13 := by decide +kernel
theorem zi_249_13 : zraw 249 13 = some (.putfield 584, 3) ∧ zft (zinf 249).1 584 = some (10, 87, 0, false) ∧ 13 + 3 = 16 := by decide +kernel
theorem zi_249_16 : zraw 249 16 = some (.aload_n 0, 1) ∧ 16 + 1 = 17 := by decide +kernel
theorem zi_249_17 : zraw 249 17 = some (.aload_n 0, 1) ∧ 17 + 1 = 18 := by decide +kernel
theorem zi_249_18 : zraw 249 18 = some (.getfield 16, 3) ∧ zft (zinf 249).1 16 = some (10, 9, 3, true) ∧ 18 + 3 = 21 := by decide +kernel
theorem zi_249_21 : zraw 249 21 = some (.bipush 20, 2) ∧ zin 128 20 = true ∧ 21 + 2 = 23 := by decide +kernel
theorem zi_249_23 : zraw 249 23 = some (.iload_n 1, 1) ∧ 23 + 1 = 24 := by decide +kernel
theorem zi_249_24 : zraw 249 24 = some (.imul, 1) ∧ 24 + 1 = 25 := by decide +kernel
theorem zi_249_25 : zraw 249 25 = some (.iload_n 2, 1) ∧ 25 + 1 = 26 := by decide +kernel
theorem zi_249_26 : zraw 249 26 = some (.iadd, 1) ∧ 26 + 1 = 27 := by decide +kernel
theorem zi_249_27 : zraw 249 27 = some (.laload, 1) ∧ 27 + 1 = 28 := by decide +kernel
theorem zi_249_28 : zraw 249 28 = some (.invokevirtual 590, 3) ∧ zmt (zinf 249).1 590 = some 247 ∧ Nat.ble 9000 247 = false ∧ zinf 247 = (10, 2, 5, 0, 0) ∧ 28 + 3 = 31 := by decide +kernel
theorem zi_249_31 : zraw 249 31 = some (.aload_n 0, 1) ∧ 31 + 1 = 32 := by decide +kernel
theorem zi_249_32 : zraw 249 32 = some (.getfield 584, 3) ∧ zft (zinf 249).1 584 = some (10, 87, 0, false) ∧ 32 + 3 = 35 := by decide +kernel
theorem zi_249_35 : zraw 249 35 = some (.ireturn, 1) ∧ (zinf 249).2.2.2.1 = 1 := by decide +kernel
theorem ze_249 {K : List zF} {σ : zW} {x1 : Int} {x2 : Int} (hK : K.length < 60) : zEv true (zent 249 [.inr (.inr 122), .inl x1, .inl x2] :: K) σ = (zEv true (zent 178 [.inr (.inr 122), .inl x1, .inl x2] :: (249, 6, [some (.inr (.inr 122)), some (.inl x1), some (.inl x2)], []) :: K) σ) :=
  yT_en (f := (249, 0, [some (.inr (.inr 122)), some (.inl x1), some (.inl x2)], [])) rfl (yI_aload_n zi_249_0 rfl <| yI_iload_n zi_249_1 rfl <| yI_iload_n zi_249_2 rfl <| yI_cv zi_249_3 rfl rfl zk_122 hK)
theorem zr_249_6 {K : List zF} {σ : zW} {x1 : Int} {x2 : Int} {v : Int} (hK : K.length < 60) : zRet true ((249, 6, [some (.inr (.inr 122)), some (.inl x1), some (.inl x2)], []) :: K) (some (.inl v)) σ = (if ¬ v = 0 then (0 ≤ (w32 ((w32 (20 * x1)) + x2)) ∧ (w32 ((w32 (20 * x1)) + x2)) < 60) ∧ zEv true (zent 247 [.inr (.inr 122), .inr (.inl (gL σ 125 ((w32 ((w32 (20 * x1)) + x2)).toNat)))] :: (249, 31, [some (.inr (.inr 122)), some (.inl x1), some (.inl x2)], []) :: K) (sI σ 122 87 0) else zRet true K (some (.inl 0)) σ) :=
  yT_rt (yI_if_ne zi_249_6 <| yBr (yI_aload_n zi_249_11 rfl <| yI_iconst zi_249_12 <| yI_pf_i zi_249_13 zk_122 <| yI_aload_n zi_249_16 rfl <| yI_aload_n zi_249_17 rfl <| yI_gf_f (v := 125) zi_249_18 zk_122 rfl <| yI_bipush zi_249_21 <| yI_iload_n zi_249_23 rfl <| yI_imul zi_249_24 <| yI_iload_n zi_249_25 rfl <| yI_iadd zi_249_26 <| yI_laloadc (v := gL σ 125 ((w32 ((w32 (20 * x1)) + x2)).toNat)) zi_249_27 za_125 rfl <| yI_cv zi_249_28 rfl rfl zk_122 hK) (yI_iconst zi_249_9 <| yI_ireturn zi_249_10))
theorem zr_249_31 {K : List zF} {σ : zW} {o1 : Option zV} {o2 : Option zV} : zRet true ((249, 31, [some (.inr (.inr 122)), o1, o2], []) :: K) none σ = (zRet true K (some (.inl (gI σ 122 87))) σ) :=
  yT_rv (yI_aload_n zi_249_31 rfl <| yI_gf_i (v := gI σ 122 87) zi_249_32 zk_122 rfl <| yI_ireturn zi_249_35)
/-- 250 TreegrabModel.word(I)J -/
theorem zi_250_0 : zraw 250 0 = some (.aload_n 0, 1) ∧ 0 + 1 = 1 := by decide +kernel
theorem zi_250_1 : zraw 250 1 = some (.iconst 0, 1) ∧ zin 128 0 = true ∧ 1 + 1 = 2 := by decide +kernel
theorem zi_250_2 : zraw 250 2 = some (.putfield 205, 3) ∧ zft (zinf 250).1 205 = some (10, 88, 0, false) ∧ 2 + 3 = 5 := by decide +kernel
theorem zi_250_5 : zraw 250 5 = some (.lconst 0, 1) ∧ (bif Nat.beq (0 : Fin 2).val 0 then (0 : Int64) else 1) = 0 ∧ 5 + 1 = 6 := by decide +kernel
theorem zi_250_6 : zraw 250 6 = some (.lstore_n 2, 1) ∧ 6 + 1 = 7 := by decide +kernel
theorem zi_250_7 : zraw 250 7 = some (.iconst 0, 1) ∧ zin 128 0 = true ∧ 7 + 1 = 8 := by decide +kernel
theorem zi_250_8 : zraw 250 8 = some (.istore 4, 2) ∧ 8 + 2 = 10 := by decide +kernel
theorem zi_250_10 : zraw 250 10 = some (.iload 4, 2) ∧ 10 + 2 = 12 := by decide +kernel
theorem zi_250_12 : zraw 250 12 = some (.bipush 8, 2) ∧ zin 128 8 = true ∧ 12 + 2 = 14 := by decide +kernel
theorem zi_250_14 : zraw 250 14 = some (.if_icmp .ge 61, 3) ∧ ((14 : Nat) : Int) + 61 = Int.ofNat 75 ∧ 14 + 3 = 17 := by decide +kernel
theorem zi_250_17 : zraw 250 17 = some (.ldc2_w 594, 3) ∧ zlt (zinf 250).1 594 = some 8 ∧ 17 + 3 = 20 := by decide +kernel
theorem zi_250_20 : zraw 250 20 = some (.iload_n 1, 1) ∧ 20 + 1 = 21 := by decide +kernel
theorem zi_250_21 : zraw 250 21 = some (.i2l, 1) ∧ 21 + 1 = 22 := by decide +kernel
theorem zi_250_22 : zraw 250 22 = some (.lmul, 1) ∧ 22 + 1 = 23 := by decide +kernel
theorem zi_250_23 : zraw 250 23 = some (.iload 4, 2) ∧ 23 + 2 = 25 := by decide +kernel
theorem zi_250_25 : zraw 250 25 = some (.i2l, 1) ∧ 25 + 1 = 26 := by decide +kernel
theorem zi_250_26 : zraw 250 26 = some (.ladd, 1) ∧ 26 + 1 = 27 := by decide +kernel
theorem zi_250_27 : zraw 250 27 = some (.lstore 5, 2) ∧ 27 + 2 = 29 := by decide +kernel
theorem zi_250_29 : zraw 250 29 = some (.lload_n 2, 1) ∧ 29 + 1 = 30 := by decide +kernel
theorem zi_250_30 : zraw 250 30 = some (.lload 5, 2) ∧ 30 + 2 = 32 := by decide +kernel
theorem zi_250_32 : zraw 250 32 = some (.lconst 0, 1) ∧ (bif Nat.beq (0 : Fin 2).val 0 then (0 : Int64) else 1) = 0 ∧ 32 + 1 = 33 := by decide +kernel
theorem zi_250_33 : zraw 250 33 = some (.lcmp, 1) ∧ 33 + 1 = 34 := by decide +kernel
theorem zi_250_34 : zraw 250 34 = some (.ifCond .lt 32, 3) ∧ ((34 : Nat) : Int) + 32 = Int.ofNat 66 ∧ 34 + 3 = 37 := by decide +kernel
theorem zi_250_37 : zraw 250 37 = some (.lload 5, 2) ∧ 37 + 2 = 39 := by decide +kernel
theorem zi_250_39 : zraw 250 39 = some (.aload_n 0, 1) ∧ 39 + 1 = 40 := by decide +kernel
theorem zi_250_40 : zraw 250 40 = some (.getfield 584, 3) ∧ zft (zinf 250).1 584 = some (10, 87, 0, false) ∧ 40 + 3 = 43 := by decide +kernel
theorem zi_250_43 : zraw 250 43 = some (.i2l, 1) ∧ 43 + 1 = 44 := by decide +kernel
theorem zi_250_44 : zraw 250 44 = some (.lcmp, 1) ∧ 44 + 1 = 45 := by decide +kernel
theorem zi_250_45 : zraw 250 45 = some (.ifCond .ge 21, 3) ∧ ((45 : Nat) : Int) + 21 = Int.ofNat 66 ∧ 45 + 3 = 48 := by decide +kernel
theorem zi_250_48 : zraw 250 48 = some (.aload_n 0, 1) ∧ 48 + 1 = 49 := by decide +kernel
theorem zi_250_49 : zraw 250 49 = some (.getfield 202, 3) ∧ zft (zinf 250).1 202 = some (10, 86, 3, true) ∧ 49 + 3 = 52 := by decide +kernel
theorem zi_250_52 : zraw 250 52 = some (.lload 5, 2) ∧ 52 + 2 = 54 := by decide +kernel
theorem zi_250_54 : zraw 250 54 = some (.l2i, 1) ∧ 54 + 1 = 55 := by decide +kernel
theorem zi_250_55 : zraw 250 55 = some (.iaload, 1) ∧ 55 + 1 = 56 := by decide +kernel
theorem zi_250_56 : zraw 250 56 = some (.i2l, 1) ∧ 56 + 1 = 57 := by decide +kernel
theorem zi_250_57 : zraw 250 57 = some (.bipush 8, 2) ∧ zin 128 8 = true ∧ 57 + 2 = 59 := by decide +kernel
theorem zi_250_59 : zraw 250 59 = some (.iload 4, 2) ∧ 59 + 2 = 61 := by decide +kernel
theorem zi_250_61 : zraw 250 61 = some (.imul, 1) ∧ 61 + 1 = 62 := by decide +kernel
theorem zi_250_62 : zraw 250 62 = some (.lshl, 1) ∧ 62 + 1 = 63 := by decide +kernel
theorem zi_250_63 : zraw 250 63 = some (.goto 4, 3) ∧ ((63 : Nat) : Int) + 4 = Int.ofNat 67 := by decide +kernel
theorem zi_250_66 : zraw 250 66 = some (.lconst 0, 1) ∧ (bif Nat.beq (0 : Fin 2).val 0 then (0 : Int64) else 1) = 0 ∧ 66 + 1 = 67 := by decide +kernel
theorem zi_250_67 : zraw 250 67 = some (.lor, 1) ∧ 67 + 1 = 68 := by decide +kernel
theorem zi_250_68 : zraw 250 68 = some (.lstore_n 2, 1) ∧ 68 + 1 = 69 := by decide +kernel
theorem zi_250_69 : zraw 250 69 = some (.iinc 4 1, 3) ∧ zin 32768 1 = true ∧ 69 + 3 = 72 := by decide +kernel
theorem zi_250_72 : zraw 250 72 = some (.goto (-62), 3) ∧ ((72 : Nat) : Int) + (-62) = Int.ofNat 10 := by decide +kernel
theorem zi_250_75 : zraw 250 75 = some (.lload_n 2, 1) ∧ 75 + 1 = 76 := by decide +kernel
theorem zi_250_76 : zraw 250 76 = some (.lreturn, 1) ∧ (zinf 250).2.2.2.1 = 3 := by decide +kernel
theorem ze_250 {K : List zF} {σ : zW} {x1 : Int} : zEv true (zent 250 [.inr (.inr 122), .inl x1] :: K) σ = (zEv true ((250, 10, [some (.inr (.inr 122)), some (.inl x1), some (.inr (.inl 0)), none, some (.inl 0), none, none], []) :: K) (sI σ 122 88 0)) :=
  yT_en (f := (250, 0, [some (.inr (.inr 122)), some (.inl x1), none, none, none, none, none], [])) rfl (yI_aload_n zi_250_0 rfl <| yI_iconst zi_250_1 <| yI_pf_i zi_250_2 zk_122 <| yI_lconst zi_250_5 <| yI_lstore_n (l := [some (.inr (.inr 122)), some (.inl x1), some (.inr (.inl 0)), none, none, none, none]) zi_250_6 rfl rfl <| yI_iconst zi_250_7 <| yI_istore (l := [some (.inr (.inr 122)), some (.inl x1), some (.inr (.inl 0)), none, some (.inl 0), none, none]) zi_250_8 rfl rfl <| rfl)
theorem zj_250_10 {K : List zF} {σ : zW} {x1 : Int} {x2 : Int64} {x4 : Int} {o5 : Option zV} {o6 : Option zV} : zEv true ((250, 10, [some (.inr (.inr 122)), some (.inl x1), some (.inr (.inl x2)), none, some (.inl x4), o5, o6], []) :: K) σ = (if 8 ≤ x4 then zRet true K (some (.inr (.inl x2))) σ else (¬ ((zlc ((8 * (zi2l x1)) + (zi2l x4)) 0) < 0) → (¬ (0 ≤ (zlc ((8 * (zi2l x1)) + (zi2l x4)) (zi2l (gI σ 122 87)))) → (0 ≤ (zl2i ((8 * (zi2l x1)) + (zi2l x4))) ∧ (zl2i ((8 * (zi2l x1)) + (zi2l x4))) < 512))) ∧ zEv true ((250, 10, [some (.inr (.inr 122)), some (.inl x1), some (.inr (.inl (x2 ||| (if (zlc ((8 * (zi2l x1)) + (zi2l x4)) 0) < 0 then 0 else (if 0 ≤ (zlc ((8 * (zi2l x1)) + (zi2l x4)) (zi2l (gI σ 122 87))) then 0 else zlshl (zi2l (gI σ 185 ((zl2i ((8 * (zi2l x1)) + (zi2l x4))).toNat))) (w32 (8 * x4)) : Int64) : Int64)))), none, some (.inl (w32 (x4 + 1))), some (.inr (.inl ((8 * (zi2l x1)) + (zi2l x4)))), none], []) :: K) σ) :=
  yI_iload zi_250_10 rfl <| yI_bipush zi_250_12 <| yI_ic_ge zi_250_14 <| yBr (yI_lload_n zi_250_75 rfl <| yI_lreturn zi_250_76) (yI_ldc2_w zi_250_17 <| yI_iload_n zi_250_20 rfl <| yI_i2l zi_250_21 <| yI_lmul zi_250_22 <| yI_iload zi_250_23 rfl <| yI_i2l zi_250_25 <| yI_ladd zi_250_26 <| yI_lstore (l := [some (.inr (.inr 122)), some (.inl x1), some (.inr (.inl x2)), none, some (.inl x4), some (.inr (.inl ((8 * (zi2l x1)) + (zi2l x4)))), none]) zi_250_27 rfl rfl <| yI_lload_n zi_250_29 rfl <| yI_lload zi_250_30 rfl <| yI_lconst zi_250_32 <| yI_lcmp zi_250_33 <| yI_if_lt zi_250_34 <| yMl2 (j := 67) (ls2 := [some (.inr (.inr 122)), some (.inl x1), some (.inr (.inl x2)), none, some (.inl x4), some (.inr (.inl ((8 * (zi2l x1)) + (zi2l x4)))), none]) (st2 := [.inr (.inl x2)]) (x := 0) (y := (if 0 ≤ (zlc ((8 * (zi2l x1)) + (zi2l x4)) (zi2l (gI σ 122 87))) then 0 else zlshl (zi2l (gI σ 185 ((zl2i ((8 * (zi2l x1)) + (zi2l x4))).toNat))) (w32 (8 * x4)) : Int64)) (σ2 := σ) (yI_lconst zi_250_66 <| rfl) (yI_lload zi_250_37 rfl <| yI_aload_n zi_250_39 rfl <| yI_gf_i (v := gI σ 122 87) zi_250_40 zk_122 rfl <| yI_i2l zi_250_43 <| yI_lcmp zi_250_44 <| yI_if_ge zi_250_45 <| yMl2 (j := 67) (ls2 := [some (.inr (.inr 122)), some (.inl x1), some (.inr (.inl x2)), none, some (.inl x4), some (.inr (.inl ((8 * (zi2l x1)) + (zi2l x4)))), none]) (st2 := [.inr (.inl x2)]) (x := 0) (y := zlshl (zi2l (gI σ 185 ((zl2i ((8 * (zi2l x1)) + (zi2l x4))).toNat))) (w32 (8 * x4))) (σ2 := σ) (yI_lconst zi_250_66 <| rfl) (yI_aload_n zi_250_48 rfl <| yI_gf_f (v := 185) zi_250_49 zk_122 rfl <| yI_lload zi_250_52 rfl <| yI_l2i zi_250_54 <| yI_ialoadc (v := gI σ 185 ((zl2i ((8 * (zi2l x1)) + (zi2l x4))).toNat)) zi_250_55 za_185 rfl <| yI_i2l zi_250_56 <| yI_bipush zi_250_57 <| yI_iload zi_250_59 rfl <| yI_imul zi_250_61 <| yI_lshl zi_250_62 <| yI_goto zi_250_63 <| rfl) <| rfl) <| yI_lor zi_250_67 <| yI_lstore_n (l := [some (.inr (.inr 122)), some (.inl x1), some (.inr (.inl (x2 ||| (if (zlc ((8 * (zi2l x1)) + (zi2l x4)) 0) < 0 then 0 else (if 0 ≤ (zlc ((8 * (zi2l x1)) + (zi2l x4)) (zi2l (gI σ 122 87))) then 0 else zlshl (zi2l (gI σ 185 ((zl2i ((8 * (zi2l x1)) + (zi2l x4))).toNat))) (w32 (8 * x4)) : Int64) : Int64)))), none, some (.inl x4), some (.inr (.inl ((8 * (zi2l x1)) + (zi2l x4)))), none]) zi_250_68 rfl rfl <| yI_iinc (l := [some (.inr (.inr 122)), some (.inl x1), some (.inr (.inl (x2 ||| (if (zlc ((8 * (zi2l x1)) + (zi2l x4)) 0) < 0 then 0 else (if 0 ≤ (zlc ((8 * (zi2l x1)) + (zi2l x4)) (zi2l (gI σ 122 87))) then 0 else zlshl (zi2l (gI σ 185 ((zl2i ((8 * (zi2l x1)) + (zi2l x4))).toNat))) (w32 (8 * x4)) : Int64) : Int64)))), none, some (.inl (w32 (x4 + 1))), some (.inr (.inl ((8 * (zi2l x1)) + (zi2l x4)))), none]) zi_250_69 rfl rfl rfl <| yI_goto zi_250_72 <| rfl)
/-- 251 TreegrabLaw.feed(LTreegrab;JI[J)I -/
theorem zi_251_0 : zraw 251 0 = some (.aload 4, 2) ∧ 0 + 2 = 2 := by decide +kernel
theorem zi_251_2 : zraw 251 2 = some (.iconst 0, 1) ∧ zin 128 0 = true ∧ 2 + 1 = 3 := by decide +kernel
theorem zi_251_3 : zraw 251 3 = some (.aload_n 0, 1) ∧ 3 + 1 = 4 := by decide +kernel
theorem zi_251_4 : zraw 251 4 = some (.lload_n 1, 1) ∧ 4 + 1 = 5 := by decide +kernel
theorem zi_251_5 : zraw 251 5 = some (.iload_n 3, 1) ∧ 5 + 1 = 6 := by decide +kernel
theorem zi_251_6 : zraw 251 6 = some (.invokevirtual 7, 3) ∧ zmt (zinf 251).1 7 = some 104 ∧ Nat.ble 9000 104 = false ∧ zinf 104 = (9, 3, 4, 1, 0) ∧ 6 + 3 = 9 := by decide +kernel
theorem zi_251_9 : zraw 251 9 = some (.i2l, 1) ∧ 9 + 1 = 10 := by decide +kernel
theorem zi_251_10 : zraw 251 10 = some (.lastore, 1) ∧ 10 + 1 = 11 := by decide +kernel
theorem zi_251_11 : zraw 251 11 = some (.goto 11, 3) ∧ ((11 : Nat) : Int) + 11 = Int.ofNat 22 := by decide +kernel
theorem zi_251_22 : zraw 251 22 = some (.iconst 0, 1) ∧ zin 128 0 = true ∧ 22 + 1 = 23 := by decide +kernel
theorem zi_251_23 : zraw 251 23 = some (.ireturn, 1) ∧ (zinf 251).2.2.2.1 = 1 := by decide +kernel
theorem ze_251 {K : List zF} {σ : zW} {x1 : Int64} {x3 : Int} (hK : K.length < 60) : zEv true (zent 251 [.inr (.inr 1), .inr (.inl x1), .inl x3, .inr (.inr 186)] :: K) σ = (zEv true (zent 104 [.inr (.inr 1), .inr (.inl x1), .inl x3] :: (251, 9, [some (.inr (.inr 1)), some (.inr (.inl x1)), none, some (.inl x3), some (.inr (.inr 186)), none], [.inl 0, .inr (.inr 186)]) :: K) σ) :=
  yT_en (f := (251, 0, [some (.inr (.inr 1)), some (.inr (.inl x1)), none, some (.inl x3), some (.inr (.inr 186)), none], [])) rfl (yI_aload zi_251_0 rfl <| yI_iconst zi_251_2 <| yI_aload_n zi_251_3 rfl <| yI_lload_n zi_251_4 rfl <| yI_iload_n zi_251_5 rfl <| yI_cv zi_251_6 rfl rfl zk_1 hK)
theorem zr_251_9 {K : List zF} {σ : zW} {o0 : Option zV} {o1 : Option zV} {o2 : Option zV} {o3 : Option zV} {o4 : Option zV} {o5 : Option zV} {s0 : Int} {v : Int} : zRet true ((251, 9, [o0, o1, o2, o3, o4, o5], [.inl s0, .inr (.inr 186)]) :: K) (some (.inl v)) σ = ((0 ≤ s0 ∧ s0 < 1) ∧ zRet true K (some (.inl 0)) (sL σ 186 s0.toNat (zi2l v))) :=
  yT_rt (yI_i2l zi_251_9 <| yI_lastorec zi_251_10 za_186 <| yI_goto zi_251_11 <| yI_iconst zi_251_22 <| yI_ireturn zi_251_23)
/-- 252 TreegrabLaw.plant(LTreegrab;I[J)I -/
theorem zi_252_0 : zraw 252 0 = some (.aload_n 2, 1) ∧ 0 + 1 = 1 := by decide +kernel
theorem zi_252_1 : zraw 252 1 = some (.iconst 0, 1) ∧ zin 128 0 = true ∧ 1 + 1 = 2 := by decide +kernel
theorem zi_252_2 : zraw 252 2 = some (.aload_n 0, 1) ∧ 2 + 1 = 3 := by decide +kernel
theorem zi_252_3 : zraw 252 3 = some (.iload_n 1, 1) ∧ 3 + 1 = 4 := by decide +kernel
theorem zi_252_4 : zraw 252 4 = some (.invokevirtual 17, 3) ∧ zmt (zinf 252).1 17 = some 105 ∧ Nat.ble 9000 105 = false ∧ zinf 105 = (9, 2, 4, 1, 0) ∧ 4 + 3 = 7 := by decide +kernel
theorem zi_252_7 : zraw 252 7 = some (.i2l, 1) ∧ 7 + 1 = 8 := by decide +kernel
theorem zi_252_8 : zraw 252 8 = some (.lastore, 1) ∧ 8 + 1 = 9 := by decide +kernel
theorem zi_252_9 : zraw 252 9 = some (.goto 9, 3) ∧ ((9 : Nat) : Int) + 9 = Int.ofNat 18 := by decide +kernel
theorem zi_252_18 : zraw 252 18 = some (.iconst 0, 1) ∧ zin 128 0 = true ∧ 18 + 1 = 19 := by decide +kernel
theorem zi_252_19 : zraw 252 19 = some (.ireturn, 1) ∧ (zinf 252).2.2.2.1 = 1 := by decide +kernel
theorem ze_252 {K : List zF} {σ : zW} {x1 : Int} (hK : K.length < 60) : zEv true (zent 252 [.inr (.inr 1), .inl x1, .inr (.inr 186)] :: K) σ = (zEv true (zent 105 [.inr (.inr 1), .inl x1] :: (252, 7, [some (.inr (.inr 1)), some (.inl x1), some (.inr (.inr 186)), none], [.inl 0, .inr (.inr 186)]) :: K) σ) :=
  yT_en (f := (252, 0, [some (.inr (.inr 1)), some (.inl x1), some (.inr (.inr 186)), none], [])) rfl (yI_aload_n zi_252_0 rfl <| yI_iconst zi_252_1 <| yI_aload_n zi_252_2 rfl <| yI_iload_n zi_252_3 rfl <| yI_cv zi_252_4 rfl rfl zk_1 hK)
theorem zr_252_7 {K : List zF} {σ : zW} {o0 : Option zV} {o1 : Option zV} {o2 : Option zV} {o3 : Option zV} {s0 : Int} {v : Int} : zRet true ((252, 7, [o0, o1, o2, o3], [.inl s0, .inr (.inr 186)]) :: K) (some (.inl v)) σ = ((0 ≤ s0 ∧ s0 < 1) ∧ zRet true K (some (.inl 0)) (sL σ 186 s0.toNat (zi2l v))) :=
  yT_rt (yI_i2l zi_252_7 <| yI_lastorec zi_252_8 za_186 <| yI_goto zi_252_9 <| yI_iconst zi_252_18 <| yI_ireturn zi_252_19)
/-- 253 TreegrabLaw.pattern(LTreegrab;[J)I -/
theorem zi_253_0 : zraw 253 0 = some (.aload_n 1, 1) ∧ 0 + 1 = 1 := by decide +kernel
theorem zi_253_1 : zraw 253 1 = some (.iconst 0, 1) ∧ zin 128 0 = true ∧ 1 + 1 = 2 := by decide +kernel
theorem zi_253_2 : zraw 253 2 = some (.aload_n 0, 1) ∧ 2 + 1 = 3 := by decide +kernel
theorem zi_253_3 : zraw 253 3 = some (.invokevirtual 23, 3) ∧ zmt (zinf 253).1 23 = some 106 ∧ Nat.ble 9000 106 = false ∧ zinf 106 = (9, 1, 3, 1, 0) ∧ 3 + 3 = 6 := by decide +kernel
theorem zi_253_6 : zraw 253 6 = some (.i2l, 1) ∧ 6 + 1 = 7 := by decide +kernel
theorem zi_253_7 : zraw 253 7 = some (.lastore, 1) ∧ 7 + 1 = 8 := by decide +kernel
theorem zi_253_8 : zraw 253 8 = some (.goto 6, 3) ∧ ((8 : Nat) : Int) + 6 = Int.ofNat 14 := by decide +kernel
theorem zi_253_14 : zraw 253 14 = some (.iconst 0, 1) ∧ zin 128 0 = true ∧ 14 + 1 = 15 := by decide +kernel
theorem zi_253_15 : zraw 253 15 = some (.ireturn, 1) ∧ (zinf 253).2.2.2.1 = 1 := by decide +kernel
theorem ze_253 {K : List zF} {σ : zW} (hK : K.length < 60) : zEv true (zent 253 [.inr (.inr 1), .inr (.inr 186)] :: K) σ = (zEv true (zent 106 [.inr (.inr 1)] :: (253, 6, [some (.inr (.inr 1)), some (.inr (.inr 186)), none], [.inl 0, .inr (.inr 186)]) :: K) σ) :=
  yT_en (f := (253, 0, [some (.inr (.inr 1)), some (.inr (.inr 186)), none], [])) rfl (yI_aload_n zi_253_0 rfl <| yI_iconst zi_253_1 <| yI_aload_n zi_253_2 rfl <| yI_cv zi_253_3 rfl rfl zk_1 hK)
theorem zr_253_6 {K : List zF} {σ : zW} {o0 : Option zV} {o1 : Option zV} {o2 : Option zV} {s0 : Int} {v : Int} : zRet true ((253, 6, [o0, o1, o2], [.inl s0, .inr (.inr 186)]) :: K) (some (.inl v)) σ = ((0 ≤ s0 ∧ s0 < 1) ∧ zRet true K (some (.inl 0)) (sL σ 186 s0.toNat (zi2l v))) :=
  yT_rt (yI_i2l zi_253_6 <| yI_lastorec zi_253_7 za_186 <| yI_goto zi_253_8 <| yI_iconst zi_253_14 <| yI_ireturn zi_253_15)
/-- 254 TreegrabLaw.script(LTreegrab;[J)I -/
theorem zi_254_0 : zraw 254 0 = some (.aload_n 1, 1) ∧ 0 + 1 = 1 := by decide +kernel
theorem zi_254_1 : zraw 254 1 = some (.iconst 0, 1) ∧ zin 128 0 = true ∧ 1 + 1 = 2 := by decide +kernel
theorem zi_254_2 : zraw 254 2 = some (.aload_n 0, 1) ∧ 2 + 1 = 3 := by decide +kernel
theorem zi_254_3 : zraw 254 3 = some (.invokevirtual 27, 3) ∧ zmt (zinf 254).1 27 = some 107 ∧ Nat.ble 9000 107 = false ∧ zinf 107 = (9, 1, 3, 1, 0) ∧ 3 + 3 = 6 := by decide +kernel
theorem zi_254_6 : zraw 254 6 = some (.i2l, 1) ∧ 6 + 1 = 7 := by decide +kernel
theorem zi_254_7 : zraw 254 7 = some (.lastore, 1) ∧ 7 + 1 = 8 := by decide +kernel
theorem zi_254_8 : zraw 254 8 = some (.goto 6, 3) ∧ ((8 : Nat) : Int) + 6 = Int.ofNat 14 := by decide +kernel
theorem zi_254_14 : zraw 254 14 = some (.iconst 0, 1) ∧ zin 128 0 = true ∧ 14 + 1 = 15 := by decide +kernel
theorem zi_254_15 : zraw 254 15 = some (.ireturn, 1) ∧ (zinf 254).2.2.2.1 = 1 := by decide +kernel
theorem ze_254 {K : List zF} {σ : zW} (hK : K.length < 60) : zEv true (zent 254 [.inr (.inr 1), .inr (.inr 186)] :: K) σ = (zEv true (zent 107 [.inr (.inr 1)] :: (254, 6, [some (.inr (.inr 1)), some (.inr (.inr 186)), none], [.inl 0, .inr (.inr 186)]) :: K) σ) :=
  yT_en (f := (254, 0, [some (.inr (.inr 1)), some (.inr (.inr 186)), none], [])) rfl (yI_aload_n zi_254_0 rfl <| yI_iconst zi_254_1 <| yI_aload_n zi_254_2 rfl <| yI_cv zi_254_3 rfl rfl zk_1 hK)
theorem zr_254_6 {K : List zF} {σ : zW} {o0 : Option zV} {o1 : Option zV} {o2 : Option zV} {s0 : Int} {v : Int} : zRet true ((254, 6, [o0, o1, o2], [.inl s0, .inr (.inr 186)]) :: K) (some (.inl v)) σ = ((0 ≤ s0 ∧ s0 < 1) ∧ zRet true K (some (.inl 0)) (sL σ 186 s0.toNat (zi2l v))) :=
  yT_rt (yI_i2l zi_254_6 <| yI_lastorec zi_254_7 za_186 <| yI_goto zi_254_8 <| yI_iconst zi_254_14 <| yI_ireturn zi_254_15)
/-- 255 TreegrabLaw.nodes(LTreegrab;I[J)I -/
theorem zi_255_0 : zraw 255 0 = some (.aload_n 2, 1) ∧ 0 + 1 = 1 := by decide +kernel
theorem zi_255_1 : zraw 255 1 = some (.iconst 0, 1) ∧ zin 128 0 = true ∧ 1 + 1 = 2 := by decide +kernel
theorem zi_255_2 : zraw 255 2 = some (.aload_n 0, 1) ∧ 2 + 1 = 3 := by decide +kernel
theorem zi_255_3 : zraw 255 3 = some (.iload_n 1, 1) ∧ 3 + 1 = 4 := by decide +kernel
theorem zi_255_4 : zraw 255 4 = some (.invokevirtual 30, 3) ∧ zmt (zinf 255).1 30 = some 109 ∧ Nat.ble 9000 109 = false ∧ zinf 109 = (9, 2, 2, 1, 0) ∧ 4 + 3 = 7 := by decide +kernel
theorem zi_255_7 : zraw 255 7 = some (.i2l, 1) ∧ 7 + 1 = 8 := by decide +kernel
theorem zi_255_8 : zraw 255 8 = some (.lastore, 1) ∧ 8 + 1 = 9 := by decide +kernel
theorem zi_255_9 : zraw 255 9 = some (.goto 6, 3) ∧ ((9 : Nat) : Int) + 6 = Int.ofNat 15 := by decide +kernel
theorem zi_255_15 : zraw 255 15 = some (.iconst 0, 1) ∧ zin 128 0 = true ∧ 15 + 1 = 16 := by decide +kernel
theorem zi_255_16 : zraw 255 16 = some (.ireturn, 1) ∧ (zinf 255).2.2.2.1 = 1 := by decide +kernel
theorem ze_255 {K : List zF} {σ : zW} {x1 : Int} (hK : K.length < 60) : zEv true (zent 255 [.inr (.inr 1), .inl x1, .inr (.inr 186)] :: K) σ = (zEv true (zent 109 [.inr (.inr 1), .inl x1] :: (255, 7, [some (.inr (.inr 1)), some (.inl x1), some (.inr (.inr 186)), none], [.inl 0, .inr (.inr 186)]) :: K) σ) :=
  yT_en (f := (255, 0, [some (.inr (.inr 1)), some (.inl x1), some (.inr (.inr 186)), none], [])) rfl (yI_aload_n zi_255_0 rfl <| yI_iconst zi_255_1 <| yI_aload_n zi_255_2 rfl <| yI_iload_n zi_255_3 rfl <| yI_cv zi_255_4 rfl rfl zk_1 hK)
theorem zr_255_7 {K : List zF} {σ : zW} {o0 : Option zV} {o1 : Option zV} {o2 : Option zV} {o3 : Option zV} {s0 : Int} {v : Int} : zRet true ((255, 7, [o0, o1, o2, o3], [.inl s0, .inr (.inr 186)]) :: K) (some (.inl v)) σ = ((0 ≤ s0 ∧ s0 < 1) ∧ zRet true K (some (.inl 0)) (sL σ 186 s0.toNat (zi2l v))) :=
  yT_rt (yI_i2l zi_255_7 <| yI_lastorec zi_255_8 za_186 <| yI_goto zi_255_9 <| yI_iconst zi_255_15 <| yI_ireturn zi_255_16)
/-- 256 TreegrabLaw.parent(LTreegrab;II[J)I -/
theorem zi_256_0 : zraw 256 0 = some (.aload_n 3, 1) ∧ 0 + 1 = 1 := by decide +kernel
theorem zi_256_1 : zraw 256 1 = some (.iconst 0, 1) ∧ zin 128 0 = true ∧ 1 + 1 = 2 := by decide +kernel
theorem zi_256_2 : zraw 256 2 = some (.aload_n 0, 1) ∧ 2 + 1 = 3 := by decide +kernel
theorem zi_256_3 : zraw 256 3 = some (.iload_n 1, 1) ∧ 3 + 1 = 4 := by decide +kernel
theorem zi_256_4 : zraw 256 4 = some (.iload_n 2, 1) ∧ 4 + 1 = 5 := by decide +kernel
theorem zi_256_5 : zraw 256 5 = some (.invokevirtual 33, 3) ∧ zmt (zinf 256).1 33 = some 110 ∧ Nat.ble 9000 110 = false ∧ zinf 110 = (9, 3, 3, 1, 0) ∧ 5 + 3 = 8 := by decide +kernel
theorem zi_256_8 : zraw 256 8 = some (.i2l, 1) ∧ 8 + 1 = 9 := by decide +kernel
theorem zi_256_9 : zraw 256 9 = some (.lastore, 1) ∧ 9 + 1 = 10 := by decide +kernel
theorem zi_256_10 : zraw 256 10 = some (.goto 7, 3) ∧ ((10 : Nat) : Int) + 7 = Int.ofNat 17 := by decide +kernel
theorem zi_256_17 : zraw 256 17 = some (.iconst 0, 1) ∧ zin 128 0 = true ∧ 17 + 1 = 18 := by decide +kernel
theorem zi_256_18 : zraw 256 18 = some (.ireturn, 1) ∧ (zinf 256).2.2.2.1 = 1 := by decide +kernel
theorem ze_256 {K : List zF} {σ : zW} {x1 : Int} {x2 : Int} (hK : K.length < 60) : zEv true (zent 256 [.inr (.inr 1), .inl x1, .inl x2, .inr (.inr 186)] :: K) σ = (zEv true (zent 110 [.inr (.inr 1), .inl x1, .inl x2] :: (256, 8, [some (.inr (.inr 1)), some (.inl x1), some (.inl x2), some (.inr (.inr 186)), none], [.inl 0, .inr (.inr 186)]) :: K) σ) :=
  yT_en (f := (256, 0, [some (.inr (.inr 1)), some (.inl x1), some (.inl x2), some (.inr (.inr 186)), none], [])) rfl (yI_aload_n zi_256_0 rfl <| yI_iconst zi_256_1 <| yI_aload_n zi_256_2 rfl <| yI_iload_n zi_256_3 rfl <| yI_iload_n zi_256_4 rfl <| yI_cv zi_256_5 rfl rfl zk_1 hK)
theorem zr_256_8 {K : List zF} {σ : zW} {o0 : Option zV} {o1 : Option zV} {o2 : Option zV} {o3 : Option zV} {o4 : Option zV} {s0 : Int} {v : Int} : zRet true ((256, 8, [o0, o1, o2, o3, o4], [.inl s0, .inr (.inr 186)]) :: K) (some (.inl v)) σ = ((0 ≤ s0 ∧ s0 < 1) ∧ zRet true K (some (.inl 0)) (sL σ 186 s0.toNat (zi2l v))) :=
  yT_rt (yI_i2l zi_256_8 <| yI_lastorec zi_256_9 za_186 <| yI_goto zi_256_10 <| yI_iconst zi_256_17 <| yI_ireturn zi_256_18)
/-- 257 TreegrabLaw.children(LTreegrab;II[J)I -/
theorem zi_257_0 : zraw 257 0 = some (.aload_n 3, 1) ∧ 0 + 1 = 1 := by decide +kernel
theorem zi_257_1 : zraw 257 1 = some (.iconst 0, 1) ∧ zin 128 0 = true ∧ 1 + 1 = 2 := by decide +kernel
theorem zi_257_2 : zraw 257 2 = some (.aload_n 0, 1) ∧ 2 + 1 = 3 := by decide +kernel
theorem zi_257_3 : zraw 257 3 = some (.iload_n 1, 1) ∧ 3 + 1 = 4 := by decide +kernel
theorem zi_257_4 : zraw 257 4 = some (.iload_n 2, 1) ∧ 4 + 1 = 5 := by decide +kernel
theorem zi_257_5 : zraw 257 5 = some (.invokevirtual 37, 3) ∧ zmt (zinf 257).1 37 = some 111 ∧ Nat.ble 9000 111 = false ∧ zinf 111 = (9, 3, 3, 1, 0) ∧ 5 + 3 = 8 := by decide +kernel
theorem zi_257_8 : zraw 257 8 = some (.i2l, 1) ∧ 8 + 1 = 9 := by decide +kernel
theorem zi_257_9 : zraw 257 9 = some (.lastore, 1) ∧ 9 + 1 = 10 := by decide +kernel
theorem zi_257_10 : zraw 257 10 = some (.goto 7, 3) ∧ ((10 : Nat) : Int) + 7 = Int.ofNat 17 := by decide +kernel
theorem zi_257_17 : zraw 257 17 = some (.iconst 0, 1) ∧ zin 128 0 = true ∧ 17 + 1 = 18 := by decide +kernel
theorem zi_257_18 : zraw 257 18 = some (.ireturn, 1) ∧ (zinf 257).2.2.2.1 = 1 := by decide +kernel
theorem ze_257 {K : List zF} {σ : zW} {x1 : Int} {x2 : Int} (hK : K.length < 60) : zEv true (zent 257 [.inr (.inr 1), .inl x1, .inl x2, .inr (.inr 186)] :: K) σ = (zEv true (zent 111 [.inr (.inr 1), .inl x1, .inl x2] :: (257, 8, [some (.inr (.inr 1)), some (.inl x1), some (.inl x2), some (.inr (.inr 186)), none], [.inl 0, .inr (.inr 186)]) :: K) σ) :=
  yT_en (f := (257, 0, [some (.inr (.inr 1)), some (.inl x1), some (.inl x2), some (.inr (.inr 186)), none], [])) rfl (yI_aload_n zi_257_0 rfl <| yI_iconst zi_257_1 <| yI_aload_n zi_257_2 rfl <| yI_iload_n zi_257_3 rfl <| yI_iload_n zi_257_4 rfl <| yI_cv zi_257_5 rfl rfl zk_1 hK)
theorem zr_257_8 {K : List zF} {σ : zW} {o0 : Option zV} {o1 : Option zV} {o2 : Option zV} {o3 : Option zV} {o4 : Option zV} {s0 : Int} {v : Int} : zRet true ((257, 8, [o0, o1, o2, o3, o4], [.inl s0, .inr (.inr 186)]) :: K) (some (.inl v)) σ = ((0 ≤ s0 ∧ s0 < 1) ∧ zRet true K (some (.inl 0)) (sL σ 186 s0.toNat (zi2l v))) :=
  yT_rt (yI_i2l zi_257_8 <| yI_lastorec zi_257_9 za_186 <| yI_goto zi_257_10 <| yI_iconst zi_257_17 <| yI_ireturn zi_257_18)
/-- 258 TreegrabLaw.wordOf(LTreegrab;IIZ[J)I -/
theorem zi_258_0 : zraw 258 0 = some (.aload 4, 2) ∧ 0 + 2 = 2 := by decide +kernel
theorem zi_258_2 : zraw 258 2 = some (.iconst 0, 1) ∧ zin 128 0 = true ∧ 2 + 1 = 3 := by decide +kernel
theorem zi_258_3 : zraw 258 3 = some (.aload_n 0, 1) ∧ 3 + 1 = 4 := by decide +kernel
theorem zi_258_4 : zraw 258 4 = some (.iload_n 1, 1) ∧ 4 + 1 = 5 := by decide +kernel
theorem zi_258_5 : zraw 258 5 = some (.iload_n 2, 1) ∧ 5 + 1 = 6 := by decide +kernel
theorem zi_258_6 : zraw 258 6 = some (.iload_n 3, 1) ∧ 6 + 1 = 7 := by decide +kernel
theorem zi_258_7 : zraw 258 7 = some (.invokevirtual 40, 3) ∧ zmt (zinf 258).1 40 = some 112 ∧ Nat.ble 9000 112 = false ∧ zinf 112 = (9, 4, 4, 1, 0) ∧ 7 + 3 = 10 := by decide +kernel
theorem zi_258_10 : zraw 258 10 = some (.i2l, 1) ∧ 10 + 1 = 11 := by decide +kernel
theorem zi_258_11 : zraw 258 11 = some (.lastore, 1) ∧ 11 + 1 = 12 := by decide +kernel
theorem zi_258_12 : zraw 258 12 = some (.goto 7, 3) ∧ ((12 : Nat) : Int) + 7 = Int.ofNat 19 := by decide +kernel
theorem zi_258_19 : zraw 258 19 = some (.iconst 0, 1) ∧ zin 128 0 = true ∧ 19 + 1 = 20 := by decide +kernel
theorem zi_258_20 : zraw 258 20 = some (.ireturn, 1) ∧ (zinf 258).2.2.2.1 = 1 := by decide +kernel
theorem ze_258 {K : List zF} {σ : zW} {x1 : Int} {x2 : Int} {x3 : Int} (hK : K.length < 60) : zEv true (zent 258 [.inr (.inr 1), .inl x1, .inl x2, .inl x3, .inr (.inr 186)] :: K) σ = (zEv true (zent 112 [.inr (.inr 1), .inl x1, .inl x2, .inl x3] :: (258, 10, [some (.inr (.inr 1)), some (.inl x1), some (.inl x2), some (.inl x3), some (.inr (.inr 186)), none], [.inl 0, .inr (.inr 186)]) :: K) σ) :=
  yT_en (f := (258, 0, [some (.inr (.inr 1)), some (.inl x1), some (.inl x2), some (.inl x3), some (.inr (.inr 186)), none], [])) rfl (yI_aload zi_258_0 rfl <| yI_iconst zi_258_2 <| yI_aload_n zi_258_3 rfl <| yI_iload_n zi_258_4 rfl <| yI_iload_n zi_258_5 rfl <| yI_iload_n zi_258_6 rfl <| yI_cv zi_258_7 rfl rfl zk_1 hK)
theorem zr_258_10 {K : List zF} {σ : zW} {o0 : Option zV} {o1 : Option zV} {o2 : Option zV} {o3 : Option zV} {o4 : Option zV} {o5 : Option zV} {s0 : Int} {v : Int} : zRet true ((258, 10, [o0, o1, o2, o3, o4, o5], [.inl s0, .inr (.inr 186)]) :: K) (some (.inl v)) σ = ((0 ≤ s0 ∧ s0 < 1) ∧ zRet true K (some (.inl 0)) (sL σ 186 s0.toNat (zi2l v))) :=
  yT_rt (yI_i2l zi_258_10 <| yI_lastorec zi_258_11 za_186 <| yI_goto zi_258_12 <| yI_iconst zi_258_19 <| yI_ireturn zi_258_20)
/-- 259 TreegrabLaw.withLabel(LTreegrab;I[J)I -/
theorem zi_259_0 : zraw 259 0 = some (.aload_n 2, 1) ∧ 0 + 1 = 1 := by decide +kernel
theorem zi_259_1 : zraw 259 1 = some (.iconst 0, 1) ∧ zin 128 0 = true ∧ 1 + 1 = 2 := by decide +kernel
theorem zi_259_2 : zraw 259 2 = some (.aload_n 0, 1) ∧ 2 + 1 = 3 := by decide +kernel
theorem zi_259_3 : zraw 259 3 = some (.iload_n 1, 1) ∧ 3 + 1 = 4 := by decide +kernel
theorem zi_259_4 : zraw 259 4 = some (.invokevirtual 44, 3) ∧ zmt (zinf 259).1 44 = some 113 ∧ Nat.ble 9000 113 = false ∧ zinf 113 = (9, 2, 4, 1, 0) ∧ 4 + 3 = 7 := by decide +kernel
theorem zi_259_7 : zraw 259 7 = some (.i2l, 1) ∧ 7 + 1 = 8 := by decide +kernel
theorem zi_259_8 : zraw 259 8 = some (.lastore, 1) ∧ 8 + 1 = 9 := by decide +kernel
theorem zi_259_9 : zraw 259 9 = some (.goto 6, 3) ∧ ((9 : Nat) : Int) + 6 = Int.ofNat 15 := by decide +kernel
theorem zi_259_15 : zraw 259 15 = some (.iconst 0, 1) ∧ zin 128 0 = true ∧ 15 + 1 = 16 := by decide +kernel
theorem zi_259_16 : zraw 259 16 = some (.ireturn, 1) ∧ (zinf 259).2.2.2.1 = 1 := by decide +kernel
theorem ze_259 {K : List zF} {σ : zW} {x1 : Int} (hK : K.length < 60) : zEv true (zent 259 [.inr (.inr 1), .inl x1, .inr (.inr 186)] :: K) σ = (zEv true (zent 113 [.inr (.inr 1), .inl x1] :: (259, 7, [some (.inr (.inr 1)), some (.inl x1), some (.inr (.inr 186)), none], [.inl 0, .inr (.inr 186)]) :: K) σ) :=
  yT_en (f := (259, 0, [some (.inr (.inr 1)), some (.inl x1), some (.inr (.inr 186)), none], [])) rfl (yI_aload_n zi_259_0 rfl <| yI_iconst zi_259_1 <| yI_aload_n zi_259_2 rfl <| yI_iload_n zi_259_3 rfl <| yI_cv zi_259_4 rfl rfl zk_1 hK)
theorem zr_259_7 {K : List zF} {σ : zW} {o0 : Option zV} {o1 : Option zV} {o2 : Option zV} {o3 : Option zV} {s0 : Int} {v : Int} : zRet true ((259, 7, [o0, o1, o2, o3], [.inl s0, .inr (.inr 186)]) :: K) (some (.inl v)) σ = ((0 ≤ s0 ∧ s0 < 1) ∧ zRet true K (some (.inl 0)) (sL σ 186 s0.toNat (zi2l v))) :=
  yT_rt (yI_i2l zi_259_7 <| yI_lastorec zi_259_8 za_186 <| yI_goto zi_259_9 <| yI_iconst zi_259_15 <| yI_ireturn zi_259_16)
/-- 260 TreegrabLaw.withLabelByWalk(LTreegrab;I[J)I -/
theorem zi_260_0 : zraw 260 0 = some (.aload_n 2, 1) ∧ 0 + 1 = 1 := by decide +kernel
theorem zi_260_1 : zraw 260 1 = some (.iconst 0, 1) ∧ zin 128 0 = true ∧ 1 + 1 = 2 := by decide +kernel
theorem zi_260_2 : zraw 260 2 = some (.aload_n 0, 1) ∧ 2 + 1 = 3 := by decide +kernel
theorem zi_260_3 : zraw 260 3 = some (.iload_n 1, 1) ∧ 3 + 1 = 4 := by decide +kernel
theorem zi_260_4 : zraw 260 4 = some (.invokevirtual 47, 3) ∧ zmt (zinf 260).1 47 = some 114 ∧ Nat.ble 9000 114 = false ∧ zinf 114 = (9, 2, 3, 1, 0) ∧ 4 + 3 = 7 := by decide +kernel
theorem zi_260_7 : zraw 260 7 = some (.i2l, 1) ∧ 7 + 1 = 8 := by decide +kernel
theorem zi_260_8 : zraw 260 8 = some (.lastore, 1) ∧ 8 + 1 = 9 := by decide +kernel
theorem zi_260_9 : zraw 260 9 = some (.goto 6, 3) ∧ ((9 : Nat) : Int) + 6 = Int.ofNat 15 := by decide +kernel
theorem zi_260_15 : zraw 260 15 = some (.iconst 0, 1) ∧ zin 128 0 = true ∧ 15 + 1 = 16 := by decide +kernel
theorem zi_260_16 : zraw 260 16 = some (.ireturn, 1) ∧ (zinf 260).2.2.2.1 = 1 := by decide +kernel
theorem ze_260 {K : List zF} {σ : zW} {x1 : Int} (hK : K.length < 60) : zEv true (zent 260 [.inr (.inr 1), .inl x1, .inr (.inr 186)] :: K) σ = (zEv true (zent 114 [.inr (.inr 1), .inl x1] :: (260, 7, [some (.inr (.inr 1)), some (.inl x1), some (.inr (.inr 186)), none], [.inl 0, .inr (.inr 186)]) :: K) σ) :=
  yT_en (f := (260, 0, [some (.inr (.inr 1)), some (.inl x1), some (.inr (.inr 186)), none], [])) rfl (yI_aload_n zi_260_0 rfl <| yI_iconst zi_260_1 <| yI_aload_n zi_260_2 rfl <| yI_iload_n zi_260_3 rfl <| yI_cv zi_260_4 rfl rfl zk_1 hK)
theorem zr_260_7 {K : List zF} {σ : zW} {o0 : Option zV} {o1 : Option zV} {o2 : Option zV} {o3 : Option zV} {s0 : Int} {v : Int} : zRet true ((260, 7, [o0, o1, o2, o3], [.inl s0, .inr (.inr 186)]) :: K) (some (.inl v)) σ = ((0 ≤ s0 ∧ s0 < 1) ∧ zRet true K (some (.inl 0)) (sL σ 186 s0.toNat (zi2l v))) :=
  yT_rt (yI_i2l zi_260_7 <| yI_lastorec zi_260_8 za_186 <| yI_goto zi_260_9 <| yI_iconst zi_260_15 <| yI_ireturn zi_260_16)
/-- 261 TreegrabLaw.matches(LTreegrab;I[J)I -/
theorem zi_261_0 : zraw 261 0 = some (.aload_n 2, 1) ∧ 0 + 1 = 1 := by decide +kernel
theorem zi_261_1 : zraw 261 1 = some (.iconst 0, 1) ∧ zin 128 0 = true ∧ 1 + 1 = 2 := by decide +kernel
theorem zi_261_2 : zraw 261 2 = some (.aload_n 0, 1) ∧ 2 + 1 = 3 := by decide +kernel
theorem zi_261_3 : zraw 261 3 = some (.iload_n 1, 1) ∧ 3 + 1 = 4 := by decide +kernel
theorem zi_261_4 : zraw 261 4 = some (.invokevirtual 50, 3) ∧ zmt (zinf 261).1 50 = some 115 ∧ Nat.ble 9000 115 = false ∧ zinf 115 = (9, 2, 2, 1, 0) ∧ 4 + 3 = 7 := by decide +kernel
theorem zi_261_7 : zraw 261 7 = some (.i2l, 1) ∧ 7 + 1 = 8 := by decide +kernel
theorem zi_261_8 : zraw 261 8 = some (.lastore, 1) ∧ 8 + 1 = 9 := by decide +kernel
theorem zi_261_9 : zraw 261 9 = some (.goto 6, 3) ∧ ((9 : Nat) : Int) + 6 = Int.ofNat 15 := by decide +kernel
theorem zi_261_15 : zraw 261 15 = some (.iconst 0, 1) ∧ zin 128 0 = true ∧ 15 + 1 = 16 := by decide +kernel
theorem zi_261_16 : zraw 261 16 = some (.ireturn, 1) ∧ (zinf 261).2.2.2.1 = 1 := by decide +kernel
theorem ze_261 {K : List zF} {σ : zW} {x1 : Int} (hK : K.length < 60) : zEv true (zent 261 [.inr (.inr 1), .inl x1, .inr (.inr 186)] :: K) σ = (zEv true (zent 115 [.inr (.inr 1), .inl x1] :: (261, 7, [some (.inr (.inr 1)), some (.inl x1), some (.inr (.inr 186)), none], [.inl 0, .inr (.inr 186)]) :: K) σ) :=
  yT_en (f := (261, 0, [some (.inr (.inr 1)), some (.inl x1), some (.inr (.inr 186)), none], [])) rfl (yI_aload_n zi_261_0 rfl <| yI_iconst zi_261_1 <| yI_aload_n zi_261_2 rfl <| yI_iload_n zi_261_3 rfl <| yI_cv zi_261_4 rfl rfl zk_1 hK)
theorem zr_261_7 {K : List zF} {σ : zW} {o0 : Option zV} {o1 : Option zV} {o2 : Option zV} {o3 : Option zV} {s0 : Int} {v : Int} : zRet true ((261, 7, [o0, o1, o2, o3], [.inl s0, .inr (.inr 186)]) :: K) (some (.inl v)) σ = ((0 ≤ s0 ∧ s0 < 1) ∧ zRet true K (some (.inl 0)) (sL σ 186 s0.toNat (zi2l v))) :=
  yT_rt (yI_i2l zi_261_7 <| yI_lastorec zi_261_8 za_186 <| yI_goto zi_261_9 <| yI_iconst zi_261_15 <| yI_ireturn zi_261_16)
/-- 262 TreegrabLaw.matchesByTrying(LTreegrab;I[J)I -/
theorem zi_262_0 : zraw 262 0 = some (.aload_n 2, 1) ∧ 0 + 1 = 1 := by decide +kernel
theorem zi_262_1 : zraw 262 1 = some (.iconst 0, 1) ∧ zin 128 0 = true ∧ 1 + 1 = 2 := by decide +kernel
theorem zi_262_2 : zraw 262 2 = some (.aload_n 0, 1) ∧ 2 + 1 = 3 := by decide +kernel
theorem zi_262_3 : zraw 262 3 = some (.iload_n 1, 1) ∧ 3 + 1 = 4 := by decide +kernel
theorem zi_262_4 : zraw 262 4 = some (.invokevirtual 53, 3) ∧ zmt (zinf 262).1 53 = some 116 ∧ Nat.ble 9000 116 = false ∧ zinf 116 = (9, 2, 2, 1, 0) ∧ 4 + 3 = 7 := by decide +kernel
theorem zi_262_7 : zraw 262 7 = some (.i2l, 1) ∧ 7 + 1 = 8 := by decide +kernel
theorem zi_262_8 : zraw 262 8 = some (.lastore, 1) ∧ 8 + 1 = 9 := by decide +kernel
theorem zi_262_9 : zraw 262 9 = some (.goto 6, 3) ∧ ((9 : Nat) : Int) + 6 = Int.ofNat 15 := by decide +kernel
theorem zi_262_15 : zraw 262 15 = some (.iconst 0, 1) ∧ zin 128 0 = true ∧ 15 + 1 = 16 := by decide +kernel
theorem zi_262_16 : zraw 262 16 = some (.ireturn, 1) ∧ (zinf 262).2.2.2.1 = 1 := by decide +kernel
theorem ze_262 {K : List zF} {σ : zW} {x1 : Int} (hK : K.length < 60) : zEv true (zent 262 [.inr (.inr 1), .inl x1, .inr (.inr 186)] :: K) σ = (zEv true (zent 116 [.inr (.inr 1), .inl x1] :: (262, 7, [some (.inr (.inr 1)), some (.inl x1), some (.inr (.inr 186)), none], [.inl 0, .inr (.inr 186)]) :: K) σ) :=
  yT_en (f := (262, 0, [some (.inr (.inr 1)), some (.inl x1), some (.inr (.inr 186)), none], [])) rfl (yI_aload_n zi_262_0 rfl <| yI_iconst zi_262_1 <| yI_aload_n zi_262_2 rfl <| yI_iload_n zi_262_3 rfl <| yI_cv zi_262_4 rfl rfl zk_1 hK)
theorem zr_262_7 {K : List zF} {σ : zW} {o0 : Option zV} {o1 : Option zV} {o2 : Option zV} {o3 : Option zV} {s0 : Int} {v : Int} : zRet true ((262, 7, [o0, o1, o2, o3], [.inl s0, .inr (.inr 186)]) :: K) (some (.inl v)) σ = ((0 ≤ s0 ∧ s0 < 1) ∧ zRet true K (some (.inl 0)) (sL σ 186 s0.toNat (zi2l v))) :=
  yT_rt (yI_i2l zi_262_7 <| yI_lastorec zi_262_8 za_186 <| yI_goto zi_262_9 <| yI_iconst zi_262_15 <| yI_ireturn zi_262_16)
/-- 263 TreegrabLaw.matchAt(LTreegrab;III[J)I -/
theorem zi_263_0 : zraw 263 0 = some (.aload 4, 2) ∧ 0 + 2 = 2 := by decide +kernel
theorem zi_263_2 : zraw 263 2 = some (.iconst 0, 1) ∧ zin 128 0 = true ∧ 2 + 1 = 3 := by decide +kernel
theorem zi_263_3 : zraw 263 3 = some (.aload_n 0, 1) ∧ 3 + 1 = 4 := by decide +kernel
theorem zi_263_4 : zraw 263 4 = some (.iload_n 1, 1) ∧ 4 + 1 = 5 := by decide +kernel
theorem zi_263_5 : zraw 263 5 = some (.iload_n 2, 1) ∧ 5 + 1 = 6 := by decide +kernel
theorem zi_263_6 : zraw 263 6 = some (.iload_n 3, 1) ∧ 6 + 1 = 7 := by decide +kernel
theorem zi_263_7 : zraw 263 7 = some (.invokevirtual 56, 3) ∧ zmt (zinf 263).1 56 = some 117 ∧ Nat.ble 9000 117 = false ∧ zinf 117 = (9, 4, 4, 1, 0) ∧ 7 + 3 = 10 := by decide +kernel
theorem zi_263_10 : zraw 263 10 = some (.i2l, 1) ∧ 10 + 1 = 11 := by decide +kernel
theorem zi_263_11 : zraw 263 11 = some (.lastore, 1) ∧ 11 + 1 = 12 := by decide +kernel
theorem zi_263_12 : zraw 263 12 = some (.goto 7, 3) ∧ ((12 : Nat) : Int) + 7 = Int.ofNat 19 := by decide +kernel
theorem zi_263_19 : zraw 263 19 = some (.iconst 0, 1) ∧ zin 128 0 = true ∧ 19 + 1 = 20 := by decide +kernel
theorem zi_263_20 : zraw 263 20 = some (.ireturn, 1) ∧ (zinf 263).2.2.2.1 = 1 := by decide +kernel
theorem ze_263 {K : List zF} {σ : zW} {x1 : Int} {x2 : Int} {x3 : Int} (hK : K.length < 60) : zEv true (zent 263 [.inr (.inr 1), .inl x1, .inl x2, .inl x3, .inr (.inr 186)] :: K) σ = (zEv true (zent 117 [.inr (.inr 1), .inl x1, .inl x2, .inl x3] :: (263, 10, [some (.inr (.inr 1)), some (.inl x1), some (.inl x2), some (.inl x3), some (.inr (.inr 186)), none], [.inl 0, .inr (.inr 186)]) :: K) σ) :=
  yT_en (f := (263, 0, [some (.inr (.inr 1)), some (.inl x1), some (.inl x2), some (.inl x3), some (.inr (.inr 186)), none], [])) rfl (yI_aload zi_263_0 rfl <| yI_iconst zi_263_2 <| yI_aload_n zi_263_3 rfl <| yI_iload_n zi_263_4 rfl <| yI_iload_n zi_263_5 rfl <| yI_iload_n zi_263_6 rfl <| yI_cv zi_263_7 rfl rfl zk_1 hK)
theorem zr_263_10 {K : List zF} {σ : zW} {o0 : Option zV} {o1 : Option zV} {o2 : Option zV} {o3 : Option zV} {o4 : Option zV} {o5 : Option zV} {s0 : Int} {v : Int} : zRet true ((263, 10, [o0, o1, o2, o3, o4, o5], [.inl s0, .inr (.inr 186)]) :: K) (some (.inl v)) σ = ((0 ≤ s0 ∧ s0 < 1) ∧ zRet true K (some (.inl 0)) (sL σ 186 s0.toNat (zi2l v))) :=
  yT_rt (yI_i2l zi_263_10 <| yI_lastorec zi_263_11 za_186 <| yI_goto zi_263_12 <| yI_iconst zi_263_19 <| yI_ireturn zi_263_20)
/-- 264 TreegrabLaw.matchAtByTrying(LTreegrab;III[J)I -/
theorem zi_264_0 : zraw 264 0 = some (.aload 4, 2) ∧ 0 + 2 = 2 := by decide +kernel
theorem zi_264_2 : zraw 264 2 = some (.iconst 0, 1) ∧ zin 128 0 = true ∧ 2 + 1 = 3 := by decide +kernel
theorem zi_264_3 : zraw 264 3 = some (.aload_n 0, 1) ∧ 3 + 1 = 4 := by decide +kernel
theorem zi_264_4 : zraw 264 4 = some (.iload_n 1, 1) ∧ 4 + 1 = 5 := by decide +kernel
theorem zi_264_5 : zraw 264 5 = some (.iload_n 2, 1) ∧ 5 + 1 = 6 := by decide +kernel
theorem zi_264_6 : zraw 264 6 = some (.iload_n 3, 1) ∧ 6 + 1 = 7 := by decide +kernel
theorem zi_264_7 : zraw 264 7 = some (.invokevirtual 60, 3) ∧ zmt (zinf 264).1 60 = some 118 ∧ Nat.ble 9000 118 = false ∧ zinf 118 = (9, 4, 4, 1, 0) ∧ 7 + 3 = 10 := by decide +kernel
theorem zi_264_10 : zraw 264 10 = some (.i2l, 1) ∧ 10 + 1 = 11 := by decide +kernel
theorem zi_264_11 : zraw 264 11 = some (.lastore, 1) ∧ 11 + 1 = 12 := by decide +kernel
theorem zi_264_12 : zraw 264 12 = some (.goto 7, 3) ∧ ((12 : Nat) : Int) + 7 = Int.ofNat 19 := by decide +kernel
theorem zi_264_19 : zraw 264 19 = some (.iconst 0, 1) ∧ zin 128 0 = true ∧ 19 + 1 = 20 := by decide +kernel
theorem zi_264_20 : zraw 264 20 = some (.ireturn, 1) ∧ (zinf 264).2.2.2.1 = 1 := by decide +kernel
theorem ze_264 {K : List zF} {σ : zW} {x1 : Int} {x2 : Int} {x3 : Int} (hK : K.length < 60) : zEv true (zent 264 [.inr (.inr 1), .inl x1, .inl x2, .inl x3, .inr (.inr 186)] :: K) σ = (zEv true (zent 118 [.inr (.inr 1), .inl x1, .inl x2, .inl x3] :: (264, 10, [some (.inr (.inr 1)), some (.inl x1), some (.inl x2), some (.inl x3), some (.inr (.inr 186)), none], [.inl 0, .inr (.inr 186)]) :: K) σ) :=
  yT_en (f := (264, 0, [some (.inr (.inr 1)), some (.inl x1), some (.inl x2), some (.inl x3), some (.inr (.inr 186)), none], [])) rfl (yI_aload zi_264_0 rfl <| yI_iconst zi_264_2 <| yI_aload_n zi_264_3 rfl <| yI_iload_n zi_264_4 rfl <| yI_iload_n zi_264_5 rfl <| yI_iload_n zi_264_6 rfl <| yI_cv zi_264_7 rfl rfl zk_1 hK)
theorem zr_264_10 {K : List zF} {σ : zW} {o0 : Option zV} {o1 : Option zV} {o2 : Option zV} {o3 : Option zV} {o4 : Option zV} {o5 : Option zV} {s0 : Int} {v : Int} : zRet true ((264, 10, [o0, o1, o2, o3, o4, o5], [.inl s0, .inr (.inr 186)]) :: K) (some (.inl v)) σ = ((0 ≤ s0 ∧ s0 < 1) ∧ zRet true K (some (.inl 0)) (sL σ 186 s0.toNat (zi2l v))) :=
  yT_rt (yI_i2l zi_264_10 <| yI_lastorec zi_264_11 za_186 <| yI_goto zi_264_12 <| yI_iconst zi_264_19 <| yI_ireturn zi_264_20)
/-- 265 TreegrabLaw.planAt(LTreegrab;II[J)I -/
theorem zi_265_0 : zraw 265 0 = some (.aload_n 3, 1) ∧ 0 + 1 = 1 := by decide +kernel
theorem zi_265_1 : zraw 265 1 = some (.iconst 0, 1) ∧ zin 128 0 = true ∧ 1 + 1 = 2 := by decide +kernel
theorem zi_265_2 : zraw 265 2 = some (.aload_n 0, 1) ∧ 2 + 1 = 3 := by decide +kernel
theorem zi_265_3 : zraw 265 3 = some (.iload_n 1, 1) ∧ 3 + 1 = 4 := by decide +kernel
theorem zi_265_4 : zraw 265 4 = some (.iload_n 2, 1) ∧ 4 + 1 = 5 := by decide +kernel
theorem zi_265_5 : zraw 265 5 = some (.invokevirtual 63, 3) ∧ zmt (zinf 265).1 63 = some 119 ∧ Nat.ble 9000 119 = false ∧ zinf 119 = (9, 3, 3, 1, 0) ∧ 5 + 3 = 8 := by decide +kernel
theorem zi_265_8 : zraw 265 8 = some (.i2l, 1) ∧ 8 + 1 = 9 := by decide +kernel
theorem zi_265_9 : zraw 265 9 = some (.lastore, 1) ∧ 9 + 1 = 10 := by decide +kernel
theorem zi_265_10 : zraw 265 10 = some (.goto 7, 3) ∧ ((10 : Nat) : Int) + 7 = Int.ofNat 17 := by decide +kernel
theorem zi_265_17 : zraw 265 17 = some (.iconst 0, 1) ∧ zin 128 0 = true ∧ 17 + 1 = 18 := by decide +kernel
theorem zi_265_18 : zraw 265 18 = some (.ireturn, 1) ∧ (zinf 265).2.2.2.1 = 1 := by decide +kernel
theorem ze_265 {K : List zF} {σ : zW} {x1 : Int} {x2 : Int} (hK : K.length < 60) : zEv true (zent 265 [.inr (.inr 1), .inl x1, .inl x2, .inr (.inr 186)] :: K) σ = (zEv true (zent 119 [.inr (.inr 1), .inl x1, .inl x2] :: (265, 8, [some (.inr (.inr 1)), some (.inl x1), some (.inl x2), some (.inr (.inr 186)), none], [.inl 0, .inr (.inr 186)]) :: K) σ) :=
  yT_en (f := (265, 0, [some (.inr (.inr 1)), some (.inl x1), some (.inl x2), some (.inr (.inr 186)), none], [])) rfl (yI_aload_n zi_265_0 rfl <| yI_iconst zi_265_1 <| yI_aload_n zi_265_2 rfl <| yI_iload_n zi_265_3 rfl <| yI_iload_n zi_265_4 rfl <| yI_cv zi_265_5 rfl rfl zk_1 hK)
theorem zr_265_8 {K : List zF} {σ : zW} {o0 : Option zV} {o1 : Option zV} {o2 : Option zV} {o3 : Option zV} {o4 : Option zV} {s0 : Int} {v : Int} : zRet true ((265, 8, [o0, o1, o2, o3, o4], [.inl s0, .inr (.inr 186)]) :: K) (some (.inl v)) σ = ((0 ≤ s0 ∧ s0 < 1) ∧ zRet true K (some (.inl 0)) (sL σ 186 s0.toNat (zi2l v))) :=
  yT_rt (yI_i2l zi_265_8 <| yI_lastorec zi_265_9 za_186 <| yI_goto zi_265_10 <| yI_iconst zi_265_17 <| yI_ireturn zi_265_18)
/-- 266 TreegrabLaw.edit(LTreegrab;I[J)I -/
theorem zi_266_0 : zraw 266 0 = some (.aload_n 2, 1) ∧ 0 + 1 = 1 := by decide +kernel
theorem zi_266_1 : zraw 266 1 = some (.iconst 0, 1) ∧ zin 128 0 = true ∧ 1 + 1 = 2 := by decide +kernel
theorem zi_266_2 : zraw 266 2 = some (.aload_n 0, 1) ∧ 2 + 1 = 3 := by decide +kernel
theorem zi_266_3 : zraw 266 3 = some (.iload_n 1, 1) ∧ 3 + 1 = 4 := by decide +kernel
theorem zi_266_4 : zraw 266 4 = some (.invokevirtual 66, 3) ∧ zmt (zinf 266).1 66 = some 120 ∧ Nat.ble 9000 120 = false ∧ zinf 120 = (9, 2, 6, 1, 0) ∧ 4 + 3 = 7 := by decide +kernel
theorem zi_266_7 : zraw 266 7 = some (.i2l, 1) ∧ 7 + 1 = 8 := by decide +kernel
theorem zi_266_8 : zraw 266 8 = some (.lastore, 1) ∧ 8 + 1 = 9 := by decide +kernel
theorem zi_266_9 : zraw 266 9 = some (.goto 9, 3) ∧ ((9 : Nat) : Int) + 9 = Int.ofNat 18 := by decide +kernel
theorem zi_266_18 : zraw 266 18 = some (.iconst 0, 1) ∧ zin 128 0 = true ∧ 18 + 1 = 19 := by decide +kernel
theorem zi_266_19 : zraw 266 19 = some (.ireturn, 1) ∧ (zinf 266).2.2.2.1 = 1 := by decide +kernel
theorem ze_266 {K : List zF} {σ : zW} {x1 : Int} (hK : K.length < 60) : zEv true (zent 266 [.inr (.inr 1), .inl x1, .inr (.inr 186)] :: K) σ = (zEv true (zent 120 [.inr (.inr 1), .inl x1] :: (266, 7, [some (.inr (.inr 1)), some (.inl x1), some (.inr (.inr 186)), none], [.inl 0, .inr (.inr 186)]) :: K) σ) :=
  yT_en (f := (266, 0, [some (.inr (.inr 1)), some (.inl x1), some (.inr (.inr 186)), none], [])) rfl (yI_aload_n zi_266_0 rfl <| yI_iconst zi_266_1 <| yI_aload_n zi_266_2 rfl <| yI_iload_n zi_266_3 rfl <| yI_cv zi_266_4 rfl rfl zk_1 hK)
theorem zr_266_7 {K : List zF} {σ : zW} {o0 : Option zV} {o1 : Option zV} {o2 : Option zV} {o3 : Option zV} {s0 : Int} {v : Int} : zRet true ((266, 7, [o0, o1, o2, o3], [.inl s0, .inr (.inr 186)]) :: K) (some (.inl v)) σ = ((0 ≤ s0 ∧ s0 < 1) ∧ zRet true K (some (.inl 0)) (sL σ 186 s0.toNat (zi2l v))) :=
  yT_rt (yI_i2l zi_266_7 <| yI_lastorec zi_266_8 za_186 <| yI_goto zi_266_9 <| yI_iconst zi_266_18 <| yI_ireturn zi_266_19)
/-- 267 TreegrabLaw.undo(LTreegrab;I[J)I -/
theorem zi_267_0 : zraw 267 0 = some (.aload_n 2, 1) ∧ 0 + 1 = 1 := by decide +kernel
theorem zi_267_1 : zraw 267 1 = some (.iconst 0, 1) ∧ zin 128 0 = true ∧ 1 + 1 = 2 := by decide +kernel
theorem zi_267_2 : zraw 267 2 = some (.aload_n 0, 1) ∧ 2 + 1 = 3 := by decide +kernel
theorem zi_267_3 : zraw 267 3 = some (.iload_n 1, 1) ∧ 3 + 1 = 4 := by decide +kernel
theorem zi_267_4 : zraw 267 4 = some (.invokevirtual 69, 3) ∧ zmt (zinf 267).1 69 = some 121 ∧ Nat.ble 9000 121 = false ∧ zinf 121 = (9, 2, 2, 1, 0) ∧ 4 + 3 = 7 := by decide +kernel
theorem zi_267_7 : zraw 267 7 = some (.i2l, 1) ∧ 7 + 1 = 8 := by decide +kernel
theorem zi_267_8 : zraw 267 8 = some (.lastore, 1) ∧ 8 + 1 = 9 := by decide +kernel
theorem zi_267_9 : zraw 267 9 = some (.goto 9, 3) ∧ ((9 : Nat) : Int) + 9 = Int.ofNat 18 := by decide +kernel
theorem zi_267_18 : zraw 267 18 = some (.iconst 0, 1) ∧ zin 128 0 = true ∧ 18 + 1 = 19 := by decide +kernel
theorem zi_267_19 : zraw 267 19 = some (.ireturn, 1) ∧ (zinf 267).2.2.2.1 = 1 := by decide +kernel
theorem ze_267 {K : List zF} {σ : zW} {x1 : Int} (hK : K.length < 60) : zEv true (zent 267 [.inr (.inr 1), .inl x1, .inr (.inr 186)] :: K) σ = (zEv true (zent 121 [.inr (.inr 1), .inl x1] :: (267, 7, [some (.inr (.inr 1)), some (.inl x1), some (.inr (.inr 186)), none], [.inl 0, .inr (.inr 186)]) :: K) σ) :=
  yT_en (f := (267, 0, [some (.inr (.inr 1)), some (.inl x1), some (.inr (.inr 186)), none], [])) rfl (yI_aload_n zi_267_0 rfl <| yI_iconst zi_267_1 <| yI_aload_n zi_267_2 rfl <| yI_iload_n zi_267_3 rfl <| yI_cv zi_267_4 rfl rfl zk_1 hK)
theorem zr_267_7 {K : List zF} {σ : zW} {o0 : Option zV} {o1 : Option zV} {o2 : Option zV} {o3 : Option zV} {s0 : Int} {v : Int} : zRet true ((267, 7, [o0, o1, o2, o3], [.inl s0, .inr (.inr 186)]) :: K) (some (.inl v)) σ = ((0 ≤ s0 ∧ s0 < 1) ∧ zRet true K (some (.inl 0)) (sL σ 186 s0.toNat (zi2l v))) :=
  yT_rt (yI_i2l zi_267_7 <| yI_lastorec zi_267_8 za_186 <| yI_goto zi_267_9 <| yI_iconst zi_267_18 <| yI_ireturn zi_267_19)
/-- 268 TreegrabLaw.show(LTreegrab;I[J)I -/
theorem zi_268_0 : zraw 268 0 = some (.aload_n 2, 1) ∧ 0 + 1 = 1 := by decide +kernel
theorem zi_268_1 : zraw 268 1 = some (.iconst 0, 1) ∧ zin 128 0 = true ∧ 1 + 1 = 2 := by decide +kernel
theorem zi_268_2 : zraw 268 2 = some (.aload_n 0, 1) ∧ 2 + 1 = 3 := by decide +kernel
theorem zi_268_3 : zraw 268 3 = some (.iload_n 1, 1) ∧ 3 + 1 = 4 := by decide +kernel
theorem zi_268_4 : zraw 268 4 = some (.invokevirtual 72, 3) ∧ zmt (zinf 268).1 72 = some 122 ∧ Nat.ble 9000 122 = false ∧ zinf 122 = (9, 2, 2, 1, 0) ∧ 4 + 3 = 7 := by decide +kernel
theorem zi_268_7 : zraw 268 7 = some (.i2l, 1) ∧ 7 + 1 = 8 := by decide +kernel
theorem zi_268_8 : zraw 268 8 = some (.lastore, 1) ∧ 8 + 1 = 9 := by decide +kernel
theorem zi_268_9 : zraw 268 9 = some (.goto 6, 3) ∧ ((9 : Nat) : Int) + 6 = Int.ofNat 15 := by decide +kernel
theorem zi_268_15 : zraw 268 15 = some (.iconst 0, 1) ∧ zin 128 0 = true ∧ 15 + 1 = 16 := by decide +kernel
theorem zi_268_16 : zraw 268 16 = some (.ireturn, 1) ∧ (zinf 268).2.2.2.1 = 1 := by decide +kernel
theorem ze_268 {K : List zF} {σ : zW} {x1 : Int} (hK : K.length < 60) : zEv true (zent 268 [.inr (.inr 1), .inl x1, .inr (.inr 186)] :: K) σ = (zEv true (zent 122 [.inr (.inr 1), .inl x1] :: (268, 7, [some (.inr (.inr 1)), some (.inl x1), some (.inr (.inr 186)), none], [.inl 0, .inr (.inr 186)]) :: K) σ) :=
  yT_en (f := (268, 0, [some (.inr (.inr 1)), some (.inl x1), some (.inr (.inr 186)), none], [])) rfl (yI_aload_n zi_268_0 rfl <| yI_iconst zi_268_1 <| yI_aload_n zi_268_2 rfl <| yI_iload_n zi_268_3 rfl <| yI_cv zi_268_4 rfl rfl zk_1 hK)
theorem zr_268_7 {K : List zF} {σ : zW} {o0 : Option zV} {o1 : Option zV} {o2 : Option zV} {o3 : Option zV} {s0 : Int} {v : Int} : zRet true ((268, 7, [o0, o1, o2, o3], [.inl s0, .inr (.inr 186)]) :: K) (some (.inl v)) σ = ((0 ≤ s0 ∧ s0 < 1) ∧ zRet true K (some (.inl 0)) (sL σ 186 s0.toNat (zi2l v))) :=
  yT_rt (yI_i2l zi_268_7 <| yI_lastorec zi_268_8 za_186 <| yI_goto zi_268_9 <| yI_iconst zi_268_15 <| yI_ireturn zi_268_16)
/-- 269 TreegrabLaw.label(LTreegrab;II[J)I -/
theorem zi_269_0 : zraw 269 0 = some (.aload_n 3, 1) ∧ 0 + 1 = 1 := by decide +kernel
theorem zi_269_1 : zraw 269 1 = some (.iconst 0, 1) ∧ zin 128 0 = true ∧ 1 + 1 = 2 := by decide +kernel
theorem zi_269_2 : zraw 269 2 = some (.aload_n 0, 1) ∧ 2 + 1 = 3 := by decide +kernel
theorem zi_269_3 : zraw 269 3 = some (.iload_n 1, 1) ∧ 3 + 1 = 4 := by decide +kernel
theorem zi_269_4 : zraw 269 4 = some (.iload_n 2, 1) ∧ 4 + 1 = 5 := by decide +kernel
theorem zi_269_5 : zraw 269 5 = some (.invokevirtual 75, 3) ∧ zmt (zinf 269).1 75 = some 123 ∧ Nat.ble 9000 123 = false ∧ zinf 123 = (9, 3, 3, 1, 0) ∧ 5 + 3 = 8 := by decide +kernel
theorem zi_269_8 : zraw 269 8 = some (.i2l, 1) ∧ 8 + 1 = 9 := by decide +kernel
theorem zi_269_9 : zraw 269 9 = some (.lastore, 1) ∧ 9 + 1 = 10 := by decide +kernel
theorem zi_269_10 : zraw 269 10 = some (.goto 7, 3) ∧ ((10 : Nat) : Int) + 7 = Int.ofNat 17 := by decide +kernel
theorem zi_269_17 : zraw 269 17 = some (.iconst 0, 1) ∧ zin 128 0 = true ∧ 17 + 1 = 18 := by decide +kernel
theorem zi_269_18 : zraw 269 18 = some (.ireturn, 1) ∧ (zinf 269).2.2.2.1 = 1 := by decide +kernel
theorem ze_269 {K : List zF} {σ : zW} {x1 : Int} {x2 : Int} (hK : K.length < 60) : zEv true (zent 269 [.inr (.inr 1), .inl x1, .inl x2, .inr (.inr 186)] :: K) σ = (zEv true (zent 123 [.inr (.inr 1), .inl x1, .inl x2] :: (269, 8, [some (.inr (.inr 1)), some (.inl x1), some (.inl x2), some (.inr (.inr 186)), none], [.inl 0, .inr (.inr 186)]) :: K) σ) :=
  yT_en (f := (269, 0, [some (.inr (.inr 1)), some (.inl x1), some (.inl x2), some (.inr (.inr 186)), none], [])) rfl (yI_aload_n zi_269_0 rfl <| yI_iconst zi_269_1 <| yI_aload_n zi_269_2 rfl <| yI_iload_n zi_269_3 rfl <| yI_iload_n zi_269_4 rfl <| yI_cv zi_269_5 rfl rfl zk_1 hK)
theorem zr_269_8 {K : List zF} {σ : zW} {o0 : Option zV} {o1 : Option zV} {o2 : Option zV} {o3 : Option zV} {o4 : Option zV} {s0 : Int} {v : Int} : zRet true ((269, 8, [o0, o1, o2, o3, o4], [.inl s0, .inr (.inr 186)]) :: K) (some (.inl v)) σ = ((0 ≤ s0 ∧ s0 < 1) ∧ zRet true K (some (.inl 0)) (sL σ 186 s0.toNat (zi2l v))) :=
  yT_rt (yI_i2l zi_269_8 <| yI_lastorec zi_269_9 za_186 <| yI_goto zi_269_10 <| yI_iconst zi_269_17 <| yI_ireturn zi_269_18)
