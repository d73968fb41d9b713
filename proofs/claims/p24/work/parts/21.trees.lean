/-! the trees of methods 44 to 74, written by wip/p24/gen/emit_trees.py -/
/-- 44 Treegrab$Pattern.readOperator(LTreegrab$Tape;)I -/
theorem zi_44_0 : zraw 44 0 = some (.aload_n 0, 1) ∧ 0 + 1 = 1 := by decide +kernel
theorem zi_44_1 : zraw 44 1 = some (.invokevirtual 68, 3) ∧ zmt (zinf 44).1 68 = some 85 ∧ Nat.ble 9000 85 = false ∧ zinf 85 = (7, 1, 1, 1, 0) ∧ 1 + 3 = 4 := by decide +kernel
theorem zi_44_4 : zraw 44 4 = some (.istore_n 1, 1) ∧ 4 + 1 = 5 := by decide +kernel
theorem zi_44_5 : zraw 44 5 = some (.iload_n 1, 1) ∧ 5 + 1 = 6 := by decide +kernel
theorem zi_44_6 : zraw 44 6 = some (.bipush 60, 2) ∧ zin 128 60 = true ∧ 6 + 2 = 8 := by decide +kernel
theorem zi_44_8 : zraw 44 8 = some (.if_icmp .eq 9, 3) ∧ ((8 : Nat) : Int) + 9 = Int.ofNat 17 ∧ 8 + 3 = 11 := by decide +kernel
theorem zi_44_11 : zraw 44 11 = some (.iload_n 1, 1) ∧ 11 + 1 = 12 := by decide +kernel
theorem zi_44_12 : zraw 44 12 = some (.bipush 62, 2) ∧ zin 128 62 = true ∧ 12 + 2 = 14 := by decide +kernel
theorem zi_44_14 : zraw 44 14 = some (.if_icmp .ne 9, 3) ∧ ((14 : Nat) : Int) + 9 = Int.ofNat 23 ∧ 14 + 3 = 17 := by decide +kernel
theorem zi_44_17 : zraw 44 17 = some (.aload_n 0, 1) ∧ 17 + 1 = 18 := by decide +kernel
theorem zi_44_18 : zraw 44 18 = some (.iload_n 1, 1) ∧ 18 + 1 = 19 := by decide +kernel
theorem zi_44_19 : zraw 44 19 = some (.invokestatic 110, 3) ∧ zmt (zinf 44).1 110 = some 45 ∧ Nat.ble 9000 45 = false ∧ zinf 45 = (4, 2, 6, 1, 1) ∧ 19 + 3 = 22 := by decide +kernel
theorem zi_44_22 : zraw 44 22 = some (.ireturn, 1) ∧ (zinf 44).2.2.2.1 = 1 := by decide +kernel
theorem zi_44_23 : zraw 44 23 = some (.iload_n 1, 1) ∧ 23 + 1 = 24 := by decide +kernel
theorem zi_44_24 : zraw 44 24 = some (.bipush 46, 2) ∧ zin 128 46 = true ∧ 24 + 2 = 26 := by decide +kernel
theorem zi_44_26 : zraw 44 26 = some (.if_icmp .eq 9, 3) ∧ ((26 : Nat) : Int) + 9 = Int.ofNat 35 ∧ 26 + 3 = 29 := by decide +kernel
theorem zi_44_29 : zraw 44 29 = some (.iload_n 1, 1) ∧ 29 + 1 = 30 := by decide +kernel
theorem zi_44_30 : zraw 44 30 = some (.bipush 44, 2) ∧ zin 128 44 = true ∧ 30 + 2 = 32 := by decide +kernel
theorem zi_44_32 : zraw 44 32 = some (.if_icmp .ne 12, 3) ∧ ((32 : Nat) : Int) + 12 = Int.ofNat 44 ∧ 32 + 3 = 35 := by decide +kernel
theorem zi_44_35 : zraw 44 35 = some (.aload_n 0, 1) ∧ 35 + 1 = 36 := by decide +kernel
theorem zi_44_36 : zraw 44 36 = some (.iload_n 1, 1) ∧ 36 + 1 = 37 := by decide +kernel
theorem zi_44_37 : zraw 44 37 = some (.iconst 5, 1) ∧ zin 128 5 = true ∧ 37 + 1 = 38 := by decide +kernel
theorem zi_44_38 : zraw 44 38 = some (.bipush 6, 2) ∧ zin 128 6 = true ∧ 38 + 2 = 40 := by decide +kernel
theorem zi_44_40 : zraw 44 40 = some (.invokestatic 113, 3) ∧ zmt (zinf 44).1 113 = some 46 ∧ Nat.ble 9000 46 = false ∧ zinf 46 = (4, 4, 5, 1, 1) ∧ 40 + 3 = 43 := by decide +kernel
theorem zi_44_43 : zraw 44 43 = some (.ireturn, 1) ∧ (zinf 44).2.2.2.1 = 1 := by decide +kernel
theorem zi_44_44 : zraw 44 44 = some (.iload_n 1, 1) ∧ 44 + 1 = 45 := by decide +kernel
theorem zi_44_45 : zraw 44 45 = some (.bipush 36, 2) ∧ zin 128 36 = true ∧ 45 + 2 = 47 := by decide +kernel
theorem zi_44_47 : zraw 44 47 = some (.if_icmp .eq 15, 3) ∧ ((47 : Nat) : Int) + 15 = Int.ofNat 62 ∧ 47 + 3 = 50 := by decide +kernel
theorem zi_44_50 : zraw 44 50 = some (.aload_n 0, 1) ∧ 50 + 1 = 51 := by decide +kernel
theorem zi_44_51 : zraw 44 51 = some (.iconst 1, 1) ∧ zin 128 1 = true ∧ 51 + 1 = 52 := by decide +kernel
theorem zi_44_52 : zraw 44 52 = some (.aload_n 0, 1) ∧ 52 + 1 = 53 := by decide +kernel
theorem zi_44_53 : zraw 44 53 = some (.getfield 75, 3) ∧ zft (zinf 44).1 75 = some (7, 2, 0, false) ∧ 53 + 3 = 56 := by decide +kernel
theorem zi_44_56 : zraw 44 56 = some (.invokevirtual 106, 3) ∧ zmt (zinf 44).1 106 = some 86 ∧ Nat.ble 9000 86 = false ∧ zinf 86 = (7, 3, 3, 2, 0) ∧ 56 + 3 = 59 := by decide +kernel
theorem zi_44_59 : zraw 44 59 = some (.pop, 1) ∧ 59 + 1 = 60 := by decide +kernel
theorem zi_44_60 : zraw 44 60 = some (.iconst (-1), 1) ∧ zin 128 (-1) = true ∧ 60 + 1 = 61 := by decide +kernel
theorem zi_44_61 : zraw 44 61 = some (.ireturn, 1) ∧ (zinf 44).2.2.2.1 = 1 := by decide +kernel
theorem zi_44_62 : zraw 44 62 = some (.aload_n 0, 1) ∧ 62 + 1 = 63 := by decide +kernel
theorem zi_44_63 : zraw 44 63 = some (.dup, 1) ∧ 63 + 1 = 64 := by decide +kernel
theorem zi_44_64 : zraw 44 64 = some (.getfield 75, 3) ∧ zft (zinf 44).1 75 = some (7, 2, 0, false) ∧ 64 + 3 = 67 := by decide +kernel
theorem zi_44_67 : zraw 44 67 = some (.iconst 1, 1) ∧ zin 128 1 = true ∧ 67 + 1 = 68 := by decide +kernel
theorem zi_44_68 : zraw 44 68 = some (.iadd, 1) ∧ 68 + 1 = 69 := by decide +kernel
theorem zi_44_69 : zraw 44 69 = some (.putfield 75, 3) ∧ zft (zinf 44).1 75 = some (7, 2, 0, false) ∧ 69 + 3 = 72 := by decide +kernel
theorem zi_44_72 : zraw 44 72 = some (.aload_n 0, 1) ∧ 72 + 1 = 73 := by decide +kernel
theorem zi_44_73 : zraw 44 73 = some (.aload_n 0, 1) ∧ 73 + 1 = 74 := by decide +kernel
theorem zi_44_74 : zraw 44 74 = some (.getfield 75, 3) ∧ zft (zinf 44).1 75 = some (7, 2, 0, false) ∧ 74 + 3 = 77 := by decide +kernel
theorem zi_44_77 : zraw 44 77 = some (.invokevirtual 117, 3) ∧ zmt (zinf 44).1 117 = some 84 ∧ Nat.ble 9000 84 = false ∧ zinf 84 = (7, 2, 2, 1, 0) ∧ 77 + 3 = 80 := by decide +kernel
theorem zi_44_80 : zraw 44 80 = some (.istore_n 2, 1) ∧ 80 + 1 = 81 := by decide +kernel
theorem zi_44_81 : zraw 44 81 = some (.iload_n 2, 1) ∧ 81 + 1 = 82 := by decide +kernel
theorem zi_44_82 : zraw 44 82 = some (.bipush 46, 2) ∧ zin 128 46 = true ∧ 82 + 2 = 84 := by decide +kernel
theorem zi_44_84 : zraw 44 84 = some (.if_icmp .eq 9, 3) ∧ ((84 : Nat) : Int) + 9 = Int.ofNat 93 ∧ 84 + 3 = 87 := by decide +kernel
theorem zi_44_87 : zraw 44 87 = some (.iload_n 2, 1) ∧ 87 + 1 = 88 := by decide +kernel
theorem zi_44_88 : zraw 44 88 = some (.bipush 44, 2) ∧ zin 128 44 = true ∧ 88 + 2 = 90 := by decide +kernel
theorem zi_44_90 : zraw 44 90 = some (.if_icmp .ne 7, 3) ∧ ((90 : Nat) : Int) + 7 = Int.ofNat 97 ∧ 90 + 3 = 93 := by decide +kernel
theorem zi_44_93 : zraw 44 93 = some (.iconst 1, 1) ∧ zin 128 1 = true ∧ 93 + 1 = 94 := by decide +kernel
theorem zi_44_94 : zraw 44 94 = some (.goto 4, 3) ∧ ((94 : Nat) : Int) + 4 = Int.ofNat 98 := by decide +kernel
theorem zi_44_97 : zraw 44 97 = some (.iconst 0, 1) ∧ zin 128 0 = true ∧ 97 + 1 = 98 := by decide +kernel
theorem zi_44_98 : zraw 44 98 = some (.istore_n 3, 1) ∧ 98 + 1 = 99 := by decide +kernel
theorem zi_44_99 : zraw 44 99 = some (.iload_n 3, 1) ∧ 99 + 1 = 100 := by decide +kernel
theorem zi_44_100 : zraw 44 100 = some (.ifCond .eq 15, 3) ∧ ((100 : Nat) : Int) + 15 = Int.ofNat 115 ∧ 100 + 3 = 103 := by decide +kernel
theorem zi_44_103 : zraw 44 103 = some (.aload_n 0, 1) ∧ 103 + 1 = 104 := by decide +kernel
theorem zi_44_104 : zraw 44 104 = some (.iload_n 2, 1) ∧ 104 + 1 = 105 := by decide +kernel
theorem zi_44_105 : zraw 44 105 = some (.bipush 8, 2) ∧ zin 128 8 = true ∧ 105 + 2 = 107 := by decide +kernel
theorem zi_44_107 : zraw 44 107 = some (.bipush 9, 2) ∧ zin 128 9 = true ∧ 107 + 2 = 109 := by decide +kernel
theorem zi_44_109 : zraw 44 109 = some (.invokestatic 113, 3) ∧ zmt (zinf 44).1 113 = some 46 ∧ Nat.ble 9000 46 = false ∧ zinf 46 = (4, 4, 5, 1, 1) ∧ 109 + 3 = 112 := by decide +kernel
theorem zi_44_112 : zraw 44 112 = some (.goto 5, 3) ∧ ((112 : Nat) : Int) + 5 = Int.ofNat 117 := by decide +kernel
theorem zi_44_115 : zraw 44 115 = some (.bipush 7, 2) ∧ zin 128 7 = true ∧ 115 + 2 = 117 := by decide +kernel
theorem zi_44_117 : zraw 44 117 = some (.ireturn, 1) ∧ (zinf 44).2.2.2.1 = 1 := by decide +kernel
theorem ze_44 {K : List zF} {σ : zW} (hK : K.length < 60) : zEv true (zent 44 [.inr (.inr 2)] :: K) σ = (zEv true (zent 85 [.inr (.inr 2)] :: (44, 4, [some (.inr (.inr 2)), none, none, none], []) :: K) σ) :=
  yT_en (f := (44, 0, [some (.inr (.inr 2)), none, none, none], [])) rfl (yI_aload_n zi_44_0 rfl <| yI_cv zi_44_1 rfl rfl zk_2 hK)
theorem zr_44_4 {K : List zF} {σ : zW} {o1 : Option zV} {o2 : Option zV} {o3 : Option zV} {v : Int} (hK : K.length < 60) : zRet true ((44, 4, [some (.inr (.inr 2)), o1, o2, o3], []) :: K) (some (.inl v)) σ = (if v = 60 then zEv true ((44, 17, [some (.inr (.inr 2)), some (.inl v), o2, o3], []) :: K) σ else if ¬ v = 62 then if v = 46 then zEv true ((44, 35, [some (.inr (.inr 2)), some (.inl v), o2, o3], []) :: K) σ else if ¬ v = 44 then if v = 36 then zEv true (zent 84 [.inr (.inr 2), .inl (w32 ((gI σ 2 2) + 1))] :: (44, 80, [some (.inr (.inr 2)), some (.inl v), o2, o3], []) :: K) (sI σ 2 2 (w32 ((gI σ 2 2) + 1))) else zEv true (zent 86 [.inr (.inr 2), .inl 1, .inl (gI σ 2 2)] :: (44, 59, [some (.inr (.inr 2)), some (.inl v), o2, o3], []) :: K) σ else zEv true ((44, 35, [some (.inr (.inr 2)), some (.inl v), o2, o3], []) :: K) σ else zEv true ((44, 17, [some (.inr (.inr 2)), some (.inl v), o2, o3], []) :: K) σ) :=
  yT_rt (yI_istore_n (l := [some (.inr (.inr 2)), some (.inl v), o2, o3]) zi_44_4 rfl rfl <| yI_iload_n zi_44_5 rfl <| yI_bipush zi_44_6 <| yI_ic_eq zi_44_8 <| yBr (rfl) (yI_iload_n zi_44_11 rfl <| yI_bipush zi_44_12 <| yI_ic_ne zi_44_14 <| yBr (yI_iload_n zi_44_23 rfl <| yI_bipush zi_44_24 <| yI_ic_eq zi_44_26 <| yBr (rfl) (yI_iload_n zi_44_29 rfl <| yI_bipush zi_44_30 <| yI_ic_ne zi_44_32 <| yBr (yI_iload_n zi_44_44 rfl <| yI_bipush zi_44_45 <| yI_ic_eq zi_44_47 <| yBr (yI_aload_n zi_44_62 rfl <| yI_dup_r zi_44_63 <| yI_gf_i (v := gI σ 2 2) zi_44_64 zk_2 rfl <| yI_iconst zi_44_67 <| yI_iadd zi_44_68 <| yI_pf_i zi_44_69 zk_2 <| yI_aload_n zi_44_72 rfl <| yI_aload_n zi_44_73 rfl <| yI_gf_i (v := w32 ((gI σ 2 2) + 1)) zi_44_74 zk_2 (yGI_hit) <| yI_cv zi_44_77 rfl rfl zk_2 hK) (yI_aload_n zi_44_50 rfl <| yI_iconst zi_44_51 <| yI_aload_n zi_44_52 rfl <| yI_gf_i (v := gI σ 2 2) zi_44_53 zk_2 rfl <| yI_cv zi_44_56 rfl rfl zk_2 hK)) (rfl))) (rfl)))
theorem zj_44_17 {K : List zF} {σ : zW} {x1 : Int} {o2 : Option zV} {o3 : Option zV} (hK : K.length < 60) : zEv true ((44, 17, [some (.inr (.inr 2)), some (.inl x1), o2, o3], []) :: K) σ = (zEv true (zent 45 [.inr (.inr 2), .inl x1] :: (44, 22, [some (.inr (.inr 2)), some (.inl x1), o2, o3], []) :: K) σ) :=
  yI_aload_n zi_44_17 rfl <| yI_iload_n zi_44_18 rfl <| yI_cs zi_44_19 rfl rfl hK
theorem zj_44_35 {K : List zF} {σ : zW} {x1 : Int} {o2 : Option zV} {o3 : Option zV} (hK : K.length < 60) : zEv true ((44, 35, [some (.inr (.inr 2)), some (.inl x1), o2, o3], []) :: K) σ = (zEv true (zent 46 [.inr (.inr 2), .inl x1, .inl 5, .inl 6] :: (44, 43, [some (.inr (.inr 2)), some (.inl x1), o2, o3], []) :: K) σ) :=
  yI_aload_n zi_44_35 rfl <| yI_iload_n zi_44_36 rfl <| yI_iconst zi_44_37 <| yI_bipush zi_44_38 <| yI_cs zi_44_40 rfl rfl hK
theorem zr_44_80 {K : List zF} {σ : zW} {o1 : Option zV} {o2 : Option zV} {o3 : Option zV} {v : Int} (hK : K.length < 60) : zRet true ((44, 80, [some (.inr (.inr 2)), o1, o2, o3], []) :: K) (some (.inl v)) σ = (if (if v = 46 then 1 else (if ¬ v = 44 then 0 else 1 : Int) : Int) = 0 then zRet true K (some (.inl 7)) σ else zEv true (zent 46 [.inr (.inr 2), .inl v, .inl 8, .inl 9] :: (44, 112, [some (.inr (.inr 2)), (zcut 0 o1), some (.inl v), some (.inl (if v = 46 then 1 else (if ¬ v = 44 then 0 else 1 : Int) : Int))], []) :: K) σ) :=
  yT_rt (yI_istore_n (l := [some (.inr (.inr 2)), (zcut 0 o1), some (.inl v), o3]) zi_44_80 rfl rfl <| yI_iload_n zi_44_81 rfl <| yI_bipush zi_44_82 <| yI_ic_eq zi_44_84 <| yMi0 (j := 98) (ls2 := [some (.inr (.inr 2)), (zcut 0 o1), some (.inl v), o3]) (st2 := []) (x := 1) (y := (if ¬ v = 44 then 0 else 1 : Int)) (σ2 := σ) (yI_iconst zi_44_93 <| yI_goto zi_44_94 <| rfl) (yI_iload_n zi_44_87 rfl <| yI_bipush zi_44_88 <| yI_ic_ne zi_44_90 <| yMi0 (j := 98) (ls2 := [some (.inr (.inr 2)), (zcut 0 o1), some (.inl v), o3]) (st2 := []) (x := 0) (y := 1) (σ2 := σ) (yI_iconst zi_44_97 <| rfl) (yI_iconst zi_44_93 <| yI_goto zi_44_94 <| rfl) <| rfl) <| yI_istore_n (l := [some (.inr (.inr 2)), (zcut 0 o1), some (.inl v), some (.inl (if v = 46 then 1 else (if ¬ v = 44 then 0 else 1 : Int) : Int))]) zi_44_98 rfl rfl <| yI_iload_n zi_44_99 rfl <| yI_if_eq zi_44_100 <| yBr (yI_bipush zi_44_115 <| yI_ireturn zi_44_117) (yI_aload_n zi_44_103 rfl <| yI_iload_n zi_44_104 rfl <| yI_bipush zi_44_105 <| yI_bipush zi_44_107 <| yI_cs zi_44_109 rfl rfl hK))
theorem zr_44_59 {K : List zF} {σ : zW} {o0 : Option zV} {o1 : Option zV} {o2 : Option zV} {o3 : Option zV} {v : Int} : zRet true ((44, 59, [o0, o1, o2, o3], []) :: K) (some (.inl v)) σ = (zRet true K (some (.inl (-1))) σ) :=
  yT_rt (yI_pop_i zi_44_59 <| yI_iconst zi_44_60 <| yI_ireturn zi_44_61)
theorem zr_44_22 {K : List zF} {σ : zW} {o0 : Option zV} {o1 : Option zV} {o2 : Option zV} {o3 : Option zV} {v : Int} : zRet true ((44, 22, [o0, o1, o2, o3], []) :: K) (some (.inl v)) σ = (zRet true K (some (.inl v)) σ) :=
  yT_rt (yI_ireturn zi_44_22)
theorem zr_44_43 {K : List zF} {σ : zW} {o0 : Option zV} {o1 : Option zV} {o2 : Option zV} {o3 : Option zV} {v : Int} : zRet true ((44, 43, [o0, o1, o2, o3], []) :: K) (some (.inl v)) σ = (zRet true K (some (.inl v)) σ) :=
  yT_rt (yI_ireturn zi_44_43)
theorem zr_44_112 {K : List zF} {σ : zW} {o0 : Option zV} {o1 : Option zV} {o2 : Option zV} {o3 : Option zV} {v : Int} : zRet true ((44, 112, [o0, o1, o2, o3], []) :: K) (some (.inl v)) σ = (zRet true K (some (.inl v)) σ) :=
  yT_rt (yI_goto zi_44_112 <| yI_ireturn zi_44_117)
/-- 45 Treegrab$Pattern.readDominance(LTreegrab$Tape;I)I -/
theorem zi_45_0 : zraw 45 0 = some (.iload_n 1, 1) ∧ 0 + 1 = 1 := by decide +kernel
theorem zi_45_1 : zraw 45 1 = some (.bipush 62, 2) ∧ zin 128 62 = true ∧ 1 + 2 = 3 := by decide +kernel
theorem zi_45_3 : zraw 45 3 = some (.if_icmp .ne 8, 3) ∧ ((3 : Nat) : Int) + 8 = Int.ofNat 11 ∧ 3 + 3 = 6 := by decide +kernel
theorem zi_45_6 : zraw 45 6 = some (.bipush 16, 2) ∧ zin 128 16 = true ∧ 6 + 2 = 8 := by decide +kernel
theorem zi_45_8 : zraw 45 8 = some (.goto 4, 3) ∧ ((8 : Nat) : Int) + 4 = Int.ofNat 12 := by decide +kernel
theorem zi_45_11 : zraw 45 11 = some (.iconst 0, 1) ∧ zin 128 0 = true ∧ 11 + 1 = 12 := by decide +kernel
theorem zi_45_12 : zraw 45 12 = some (.istore_n 2, 1) ∧ 12 + 1 = 13 := by decide +kernel
theorem zi_45_13 : zraw 45 13 = some (.aload_n 0, 1) ∧ 13 + 1 = 14 := by decide +kernel
theorem zi_45_14 : zraw 45 14 = some (.dup, 1) ∧ 14 + 1 = 15 := by decide +kernel
theorem zi_45_15 : zraw 45 15 = some (.getfield 75, 3) ∧ zft (zinf 45).1 75 = some (7, 2, 0, false) ∧ 15 + 3 = 18 := by decide +kernel
theorem zi_45_18 : zraw 45 18 = some (.iconst 1, 1) ∧ zin 128 1 = true ∧ 18 + 1 = 19 := by decide +kernel
theorem zi_45_19 : zraw 45 19 = some (.iadd, 1) ∧ 19 + 1 = 20 := by decide +kernel
theorem zi_45_20 : zraw 45 20 = some (.putfield 75, 3) ∧ zft (zinf 45).1 75 = some (7, 2, 0, false) ∧ 20 + 3 = 23 := by decide +kernel
theorem zi_45_23 : zraw 45 23 = some (.aload_n 0, 1) ∧ 23 + 1 = 24 := by decide +kernel
theorem zi_45_24 : zraw 45 24 = some (.aload_n 0, 1) ∧ 24 + 1 = 25 := by decide +kernel
theorem zi_45_25 : zraw 45 25 = some (.getfield 75, 3) ∧ zft (zinf 45).1 75 = some (7, 2, 0, false) ∧ 25 + 3 = 28 := by decide +kernel
theorem zi_45_28 : zraw 45 28 = some (.invokevirtual 117, 3) ∧ zmt (zinf 45).1 117 = some 84 ∧ Nat.ble 9000 84 = false ∧ zinf 84 = (7, 2, 2, 1, 0) ∧ 28 + 3 = 31 := by decide +kernel
theorem zi_45_31 : zraw 45 31 = some (.istore_n 3, 1) ∧ 31 + 1 = 32 := by decide +kernel
theorem zi_45_32 : zraw 45 32 = some (.iload_n 3, 1) ∧ 32 + 1 = 33 := by decide +kernel
theorem zi_45_33 : zraw 45 33 = some (.iload_n 1, 1) ∧ 33 + 1 = 34 := by decide +kernel
theorem zi_45_34 : zraw 45 34 = some (.if_icmp .ne 17, 3) ∧ ((34 : Nat) : Int) + 17 = Int.ofNat 51 ∧ 34 + 3 = 37 := by decide +kernel
theorem zi_45_37 : zraw 45 37 = some (.aload_n 0, 1) ∧ 37 + 1 = 38 := by decide +kernel
theorem zi_45_38 : zraw 45 38 = some (.dup, 1) ∧ 38 + 1 = 39 := by decide +kernel
theorem zi_45_39 : zraw 45 39 = some (.getfield 75, 3) ∧ zft (zinf 45).1 75 = some (7, 2, 0, false) ∧ 39 + 3 = 42 := by decide +kernel
theorem zi_45_42 : zraw 45 42 = some (.iconst 1, 1) ∧ zin 128 1 = true ∧ 42 + 1 = 43 := by decide +kernel
theorem zi_45_43 : zraw 45 43 = some (.iadd, 1) ∧ 43 + 1 = 44 := by decide +kernel
theorem zi_45_44 : zraw 45 44 = some (.putfield 75, 3) ∧ zft (zinf 45).1 75 = some (7, 2, 0, false) ∧ 44 + 3 = 47 := by decide +kernel
theorem zi_45_47 : zraw 45 47 = some (.iload_n 2, 1) ∧ 47 + 1 = 48 := by decide +kernel
theorem zi_45_48 : zraw 45 48 = some (.iconst 1, 1) ∧ zin 128 1 = true ∧ 48 + 1 = 49 := by decide +kernel
theorem zi_45_49 : zraw 45 49 = some (.ior, 1) ∧ 49 + 1 = 50 := by decide +kernel
theorem zi_45_50 : zraw 45 50 = some (.ireturn, 1) ∧ (zinf 45).2.2.2.1 = 1 := by decide +kernel
theorem zi_45_51 : zraw 45 51 = some (.iload_n 3, 1) ∧ 51 + 1 = 52 := by decide +kernel
theorem zi_45_52 : zraw 45 52 = some (.bipush 58, 2) ∧ zin 128 58 = true ∧ 52 + 2 = 54 := by decide +kernel
theorem zi_45_54 : zraw 45 54 = some (.if_icmp .ne 17, 3) ∧ ((54 : Nat) : Int) + 17 = Int.ofNat 71 ∧ 54 + 3 = 57 := by decide +kernel
theorem zi_45_57 : zraw 45 57 = some (.aload_n 0, 1) ∧ 57 + 1 = 58 := by decide +kernel
theorem zi_45_58 : zraw 45 58 = some (.dup, 1) ∧ 58 + 1 = 59 := by decide +kernel
theorem zi_45_59 : zraw 45 59 = some (.getfield 75, 3) ∧ zft (zinf 45).1 75 = some (7, 2, 0, false) ∧ 59 + 3 = 62 := by decide +kernel
theorem zi_45_62 : zraw 45 62 = some (.iconst 1, 1) ∧ zin 128 1 = true ∧ 62 + 1 = 63 := by decide +kernel
theorem zi_45_63 : zraw 45 63 = some (.iadd, 1) ∧ 63 + 1 = 64 := by decide +kernel
theorem zi_45_64 : zraw 45 64 = some (.putfield 75, 3) ∧ zft (zinf 45).1 75 = some (7, 2, 0, false) ∧ 64 + 3 = 67 := by decide +kernel
theorem zi_45_67 : zraw 45 67 = some (.iload_n 2, 1) ∧ 67 + 1 = 68 := by decide +kernel
theorem zi_45_68 : zraw 45 68 = some (.iconst 2, 1) ∧ zin 128 2 = true ∧ 68 + 1 = 69 := by decide +kernel
theorem zi_45_69 : zraw 45 69 = some (.ior, 1) ∧ 69 + 1 = 70 := by decide +kernel
theorem zi_45_70 : zraw 45 70 = some (.ireturn, 1) ∧ (zinf 45).2.2.2.1 = 1 := by decide +kernel
theorem zi_45_71 : zraw 45 71 = some (.iload_n 3, 1) ∧ 71 + 1 = 72 := by decide +kernel
theorem zi_45_72 : zraw 45 72 = some (.bipush 45, 2) ∧ zin 128 45 = true ∧ 72 + 2 = 74 := by decide +kernel
theorem zi_45_74 : zraw 45 74 = some (.if_icmp .ne 7, 3) ∧ ((74 : Nat) : Int) + 7 = Int.ofNat 81 ∧ 74 + 3 = 77 := by decide +kernel
theorem zi_45_77 : zraw 45 77 = some (.iconst 1, 1) ∧ zin 128 1 = true ∧ 77 + 1 = 78 := by decide +kernel
theorem zi_45_78 : zraw 45 78 = some (.goto 4, 3) ∧ ((78 : Nat) : Int) + 4 = Int.ofNat 82 := by decide +kernel
theorem zi_45_81 : zraw 45 81 = some (.iconst 0, 1) ∧ zin 128 0 = true ∧ 81 + 1 = 82 := by decide +kernel
theorem zi_45_82 : zraw 45 82 = some (.istore 4, 2) ∧ 82 + 2 = 84 := by decide +kernel
theorem zi_45_84 : zraw 45 84 = some (.aload_n 0, 1) ∧ 84 + 1 = 85 := by decide +kernel
theorem zi_45_85 : zraw 45 85 = some (.dup, 1) ∧ 85 + 1 = 86 := by decide +kernel
theorem zi_45_86 : zraw 45 86 = some (.getfield 75, 3) ∧ zft (zinf 45).1 75 = some (7, 2, 0, false) ∧ 86 + 3 = 89 := by decide +kernel
theorem zi_45_89 : zraw 45 89 = some (.iload 4, 2) ∧ 89 + 2 = 91 := by decide +kernel
theorem zi_45_91 : zraw 45 91 = some (.ifCond .eq 7, 3) ∧ ((91 : Nat) : Int) + 7 = Int.ofNat 98 ∧ 91 + 3 = 94 := by decide +kernel
theorem zi_45_94 : zraw 45 94 = some (.iconst 1, 1) ∧ zin 128 1 = true ∧ 94 + 1 = 95 := by decide +kernel
theorem zi_45_95 : zraw 45 95 = some (.goto 4, 3) ∧ ((95 : Nat) : Int) + 4 = Int.ofNat 99 := by decide +kernel
theorem zi_45_98 : zraw 45 98 = some (.iconst 0, 1) ∧ zin 128 0 = true ∧ 98 + 1 = 99 := by decide +kernel
theorem zi_45_99 : zraw 45 99 = some (.iadd, 1) ∧ 99 + 1 = 100 := by decide +kernel
theorem zi_45_100 : zraw 45 100 = some (.putfield 75, 3) ∧ zft (zinf 45).1 75 = some (7, 2, 0, false) ∧ 100 + 3 = 103 := by decide +kernel
theorem zi_45_103 : zraw 45 103 = some (.aload_n 0, 1) ∧ 103 + 1 = 104 := by decide +kernel
theorem zi_45_104 : zraw 45 104 = some (.aload_n 0, 1) ∧ 104 + 1 = 105 := by decide +kernel
theorem zi_45_105 : zraw 45 105 = some (.getfield 75, 3) ∧ zft (zinf 45).1 75 = some (7, 2, 0, false) ∧ 105 + 3 = 108 := by decide +kernel
theorem zi_45_108 : zraw 45 108 = some (.invokevirtual 117, 3) ∧ zmt (zinf 45).1 117 = some 84 ∧ Nat.ble 9000 84 = false ∧ zinf 84 = (7, 2, 2, 1, 0) ∧ 108 + 3 = 111 := by decide +kernel
theorem zi_45_111 : zraw 45 111 = some (.bipush 48, 2) ∧ zin 128 48 = true ∧ 111 + 2 = 113 := by decide +kernel
theorem zi_45_113 : zraw 45 113 = some (.isub, 1) ∧ 113 + 1 = 114 := by decide +kernel
theorem zi_45_114 : zraw 45 114 = some (.istore 5, 2) ∧ 114 + 2 = 116 := by decide +kernel
theorem zi_45_116 : zraw 45 116 = some (.iload 5, 2) ∧ 116 + 2 = 118 := by decide +kernel
theorem zi_45_118 : zraw 45 118 = some (.iconst 1, 1) ∧ zin 128 1 = true ∧ 118 + 1 = 119 := by decide +kernel
theorem zi_45_119 : zraw 45 119 = some (.if_icmp .lt 38, 3) ∧ ((119 : Nat) : Int) + 38 = Int.ofNat 157 ∧ 119 + 3 = 122 := by decide +kernel
theorem zi_45_122 : zraw 45 122 = some (.iload 5, 2) ∧ 122 + 2 = 124 := by decide +kernel
theorem zi_45_124 : zraw 45 124 = some (.bipush 9, 2) ∧ zin 128 9 = true ∧ 124 + 2 = 126 := by decide +kernel
theorem zi_45_126 : zraw 45 126 = some (.if_icmp .gt 31, 3) ∧ ((126 : Nat) : Int) + 31 = Int.ofNat 157 ∧ 126 + 3 = 129 := by decide +kernel
theorem zi_45_129 : zraw 45 129 = some (.aload_n 0, 1) ∧ 129 + 1 = 130 := by decide +kernel
theorem zi_45_130 : zraw 45 130 = some (.dup, 1) ∧ 130 + 1 = 131 := by decide +kernel
theorem zi_45_131 : zraw 45 131 = some (.getfield 75, 3) ∧ zft (zinf 45).1 75 = some (7, 2, 0, false) ∧ 131 + 3 = 134 := by decide +kernel
theorem zi_45_134 : zraw 45 134 = some (.iconst 1, 1) ∧ zin 128 1 = true ∧ 134 + 1 = 135 := by decide +kernel
theorem zi_45_135 : zraw 45 135 = some (.iadd, 1) ∧ 135 + 1 = 136 := by decide +kernel
theorem zi_45_136 : zraw 45 136 = some (.putfield 75, 3) ∧ zft (zinf 45).1 75 = some (7, 2, 0, false) ∧ 136 + 3 = 139 := by decide +kernel
theorem zi_45_139 : zraw 45 139 = some (.iload 5, 2) ∧ 139 + 2 = 141 := by decide +kernel
theorem zi_45_141 : zraw 45 141 = some (.iconst 5, 1) ∧ zin 128 5 = true ∧ 141 + 1 = 142 := by decide +kernel
theorem zi_45_142 : zraw 45 142 = some (.ishl, 1) ∧ 142 + 1 = 143 := by decide +kernel
theorem zi_45_143 : zraw 45 143 = some (.iload_n 2, 1) ∧ 143 + 1 = 144 := by decide +kernel
theorem zi_45_144 : zraw 45 144 = some (.ior, 1) ∧ 144 + 1 = 145 := by decide +kernel
theorem zi_45_145 : zraw 45 145 = some (.iload 4, 2) ∧ 145 + 2 = 147 := by decide +kernel
theorem zi_45_147 : zraw 45 147 = some (.ifCond .eq 7, 3) ∧ ((147 : Nat) : Int) + 7 = Int.ofNat 154 ∧ 147 + 3 = 150 := by decide +kernel
theorem zi_45_150 : zraw 45 150 = some (.iconst 4, 1) ∧ zin 128 4 = true ∧ 150 + 1 = 151 := by decide +kernel
theorem zi_45_151 : zraw 45 151 = some (.goto 4, 3) ∧ ((151 : Nat) : Int) + 4 = Int.ofNat 155 := by decide +kernel
theorem zi_45_154 : zraw 45 154 = some (.iconst 3, 1) ∧ zin 128 3 = true ∧ 154 + 1 = 155 := by decide +kernel
theorem zi_45_155 : zraw 45 155 = some (.ior, 1) ∧ 155 + 1 = 156 := by decide +kernel
theorem zi_45_156 : zraw 45 156 = some (.ireturn, 1) ∧ (zinf 45).2.2.2.1 = 1 := by decide +kernel
theorem zi_45_157 : zraw 45 157 = some (.iload 4, 2) ∧ 157 + 2 = 159 := by decide +kernel
theorem zi_45_159 : zraw 45 159 = some (.ifCond .eq 15, 3) ∧ ((159 : Nat) : Int) + 15 = Int.ofNat 174 ∧ 159 + 3 = 162 := by decide +kernel
theorem zi_45_162 : zraw 45 162 = some (.aload_n 0, 1) ∧ 162 + 1 = 163 := by decide +kernel
theorem zi_45_163 : zraw 45 163 = some (.iconst 1, 1) ∧ zin 128 1 = true ∧ 163 + 1 = 164 := by decide +kernel
theorem zi_45_164 : zraw 45 164 = some (.aload_n 0, 1) ∧ 164 + 1 = 165 := by decide +kernel
theorem zi_45_165 : zraw 45 165 = some (.getfield 75, 3) ∧ zft (zinf 45).1 75 = some (7, 2, 0, false) ∧ 165 + 3 = 168 := by decide +kernel
theorem zi_45_168 : zraw 45 168 = some (.invokevirtual 106, 3) ∧ zmt (zinf 45).1 106 = some 86 ∧ Nat.ble 9000 86 = false ∧ zinf 86 = (7, 3, 3, 2, 0) ∧ 168 + 3 = 171 := by decide +kernel
theorem zi_45_171 : zraw 45 171 = some (.pop, 1) ∧ 171 + 1 = 172 := by decide +kernel
theorem zi_45_172 : zraw 45 172 = some (.iconst (-1), 1) ∧ zin 128 (-1) = true ∧ 172 + 1 = 173 := by decide +kernel
theorem zi_45_173 : zraw 45 173 = some (.ireturn, 1) ∧ (zinf 45).2.2.2.1 = 1 := by decide +kernel
theorem zi_45_174 : zraw 45 174 = some (.iload_n 2, 1) ∧ 174 + 1 = 175 := by decide +kernel
theorem zi_45_175 : zraw 45 175 = some (.iconst 0, 1) ∧ zin 128 0 = true ∧ 175 + 1 = 176 := by decide +kernel
theorem zi_45_176 : zraw 45 176 = some (.ior, 1) ∧ 176 + 1 = 177 := by decide +kernel
theorem zi_45_177 : zraw 45 177 = some (.ireturn, 1) ∧ (zinf 45).2.2.2.1 = 1 := by decide +kernel
theorem ze_45 {K : List zF} {σ : zW} {x1 : Int} (hK : K.length < 60) : zEv true (zent 45 [.inr (.inr 2), .inl x1] :: K) σ = (zEv true (zent 84 [.inr (.inr 2), .inl (w32 ((gI σ 2 2) + 1))] :: (45, 31, [some (.inr (.inr 2)), some (.inl x1), some (.inl (if ¬ x1 = 62 then 0 else 16 : Int)), none, none, none], []) :: K) (sI σ 2 2 (w32 ((gI σ 2 2) + 1)))) :=
  yT_en (f := (45, 0, [some (.inr (.inr 2)), some (.inl x1), none, none, none, none], [])) rfl (yI_iload_n zi_45_0 rfl <| yI_bipush zi_45_1 <| yI_ic_ne zi_45_3 <| yMi0 (j := 12) (ls2 := [some (.inr (.inr 2)), some (.inl x1), none, none, none, none]) (st2 := []) (x := 0) (y := 16) (σ2 := σ) (yI_iconst zi_45_11 <| rfl) (yI_bipush zi_45_6 <| yI_goto zi_45_8 <| rfl) <| yI_istore_n (l := [some (.inr (.inr 2)), some (.inl x1), some (.inl (if ¬ x1 = 62 then 0 else 16 : Int)), none, none, none]) zi_45_12 rfl rfl <| yI_aload_n zi_45_13 rfl <| yI_dup_r zi_45_14 <| yI_gf_i (v := gI σ 2 2) zi_45_15 zk_2 rfl <| yI_iconst zi_45_18 <| yI_iadd zi_45_19 <| yI_pf_i zi_45_20 zk_2 <| yI_aload_n zi_45_23 rfl <| yI_aload_n zi_45_24 rfl <| yI_gf_i (v := w32 ((gI σ 2 2) + 1)) zi_45_25 zk_2 (yGI_hit) <| yI_cv zi_45_28 rfl rfl zk_2 hK)
theorem zr_45_31 {K : List zF} {σ : zW} {x1 : Int} {x2 : Int} {o3 : Option zV} {o4 : Option zV} {o5 : Option zV} {v : Int} (hK : K.length < 60) : zRet true ((45, 31, [some (.inr (.inr 2)), some (.inl x1), some (.inl x2), o3, o4, o5], []) :: K) (some (.inl v)) σ = (if ¬ v = x1 then if ¬ v = 58 then zEv true (zent 84 [.inr (.inr 2), .inl (w32 ((gI σ 2 2) + (if (if ¬ v = 45 then 0 else 1 : Int) = 0 then 0 else 1 : Int)))] :: (45, 111, [some (.inr (.inr 2)), some (.inl x1), some (.inl x2), some (.inl v), some (.inl (if ¬ v = 45 then 0 else 1 : Int)), o5], []) :: K) (sI σ 2 2 (w32 ((gI σ 2 2) + (if (if ¬ v = 45 then 0 else 1 : Int) = 0 then 0 else 1 : Int)))) else zRet true K (some (.inl (zor x2 2))) (sI σ 2 2 (w32 ((gI σ 2 2) + 1))) else zRet true K (some (.inl (zor x2 1))) (sI σ 2 2 (w32 ((gI σ 2 2) + 1)))) :=
  yT_rt (yI_istore_n (l := [some (.inr (.inr 2)), some (.inl x1), some (.inl x2), some (.inl v), o4, o5]) zi_45_31 rfl rfl <| yI_iload_n zi_45_32 rfl <| yI_iload_n zi_45_33 rfl <| yI_ic_ne zi_45_34 <| yBr (yI_iload_n zi_45_51 rfl <| yI_bipush zi_45_52 <| yI_ic_ne zi_45_54 <| yBr (yI_iload_n zi_45_71 rfl <| yI_bipush zi_45_72 <| yI_ic_ne zi_45_74 <| yMi0 (j := 82) (ls2 := [some (.inr (.inr 2)), some (.inl x1), some (.inl x2), some (.inl v), o4, o5]) (st2 := []) (x := 0) (y := 1) (σ2 := σ) (yI_iconst zi_45_81 <| rfl) (yI_iconst zi_45_77 <| yI_goto zi_45_78 <| rfl) <| yI_istore (l := [some (.inr (.inr 2)), some (.inl x1), some (.inl x2), some (.inl v), some (.inl (if ¬ v = 45 then 0 else 1 : Int)), o5]) zi_45_82 rfl rfl <| yI_aload_n zi_45_84 rfl <| yI_dup_r zi_45_85 <| yI_gf_i (v := gI σ 2 2) zi_45_86 zk_2 rfl <| yI_iload zi_45_89 rfl <| yI_if_eq zi_45_91 <| yMi0 (j := 99) (ls2 := [some (.inr (.inr 2)), some (.inl x1), some (.inl x2), some (.inl v), some (.inl (if ¬ v = 45 then 0 else 1 : Int)), o5]) (st2 := [.inl (gI σ 2 2), .inr (.inr 2)]) (x := 0) (y := 1) (σ2 := σ) (yI_iconst zi_45_98 <| rfl) (yI_iconst zi_45_94 <| yI_goto zi_45_95 <| rfl) <| yI_iadd zi_45_99 <| yI_pf_i zi_45_100 zk_2 <| yI_aload_n zi_45_103 rfl <| yI_aload_n zi_45_104 rfl <| yI_gf_i (v := w32 ((gI σ 2 2) + (if (if ¬ v = 45 then 0 else 1 : Int) = 0 then 0 else 1 : Int))) zi_45_105 zk_2 (yGI_hit) <| yI_cv zi_45_108 rfl rfl zk_2 hK) (yI_aload_n zi_45_57 rfl <| yI_dup_r zi_45_58 <| yI_gf_i (v := gI σ 2 2) zi_45_59 zk_2 rfl <| yI_iconst zi_45_62 <| yI_iadd zi_45_63 <| yI_pf_i zi_45_64 zk_2 <| yI_iload_n zi_45_67 rfl <| yI_iconst zi_45_68 <| yI_ior zi_45_69 <| yI_ireturn zi_45_70)) (yI_aload_n zi_45_37 rfl <| yI_dup_r zi_45_38 <| yI_gf_i (v := gI σ 2 2) zi_45_39 zk_2 rfl <| yI_iconst zi_45_42 <| yI_iadd zi_45_43 <| yI_pf_i zi_45_44 zk_2 <| yI_iload_n zi_45_47 rfl <| yI_iconst zi_45_48 <| yI_ior zi_45_49 <| yI_ireturn zi_45_50))
theorem zr_45_111 {K : List zF} {σ : zW} {o1 : Option zV} {x2 : Int} {o3 : Option zV} {x4 : Int} {o5 : Option zV} {v : Int} : zRet true ((45, 111, [some (.inr (.inr 2)), o1, some (.inl x2), o3, some (.inl x4), o5], []) :: K) (some (.inl v)) σ = (if (w32 (v - 48)) < 1 then zEv true ((45, 157, [some (.inr (.inr 2)), o1, some (.inl x2), o3, some (.inl x4), some (.inl (w32 (v - 48)))], []) :: K) σ else if 9 < (w32 (v - 48)) then zEv true ((45, 157, [some (.inr (.inr 2)), o1, some (.inl x2), o3, some (.inl x4), some (.inl (w32 (v - 48)))], []) :: K) σ else zRet true K (some (.inl (zor (zor (zshl (w32 (v - 48)) 5) x2) (if x4 = 0 then 3 else 4 : Int)))) (sI σ 2 2 (w32 ((gI σ 2 2) + 1)))) :=
  yT_rt (yI_bipush zi_45_111 <| yI_isub zi_45_113 <| yI_istore (l := [some (.inr (.inr 2)), o1, some (.inl x2), o3, some (.inl x4), some (.inl (w32 (v - 48)))]) zi_45_114 rfl rfl <| yI_iload zi_45_116 rfl <| yI_iconst zi_45_118 <| yI_ic_lt zi_45_119 <| yBr (rfl) (yI_iload zi_45_122 rfl <| yI_bipush zi_45_124 <| yI_ic_gt zi_45_126 <| yBr (rfl) (yI_aload_n zi_45_129 rfl <| yI_dup_r zi_45_130 <| yI_gf_i (v := gI σ 2 2) zi_45_131 zk_2 rfl <| yI_iconst zi_45_134 <| yI_iadd zi_45_135 <| yI_pf_i zi_45_136 zk_2 <| yI_iload zi_45_139 rfl <| yI_iconst zi_45_141 <| yI_ishl zi_45_142 <| yI_iload_n zi_45_143 rfl <| yI_ior zi_45_144 <| yI_iload zi_45_145 rfl <| yI_if_eq zi_45_147 <| yMi0 (j := 155) (ls2 := [some (.inr (.inr 2)), o1, some (.inl x2), o3, some (.inl x4), some (.inl (w32 (v - 48)))]) (st2 := [.inl (zor (zshl (w32 (v - 48)) 5) x2)]) (x := 3) (y := 4) (σ2 := (sI σ 2 2 (w32 ((gI σ 2 2) + 1)))) (yI_iconst zi_45_154 <| rfl) (yI_iconst zi_45_150 <| yI_goto zi_45_151 <| rfl) <| yI_ior zi_45_155 <| yI_ireturn zi_45_156)))
theorem zj_45_157 {K : List zF} {σ : zW} {o1 : Option zV} {x2 : Int} {o3 : Option zV} {x4 : Int} {o5 : Option zV} (hK : K.length < 60) : zEv true ((45, 157, [some (.inr (.inr 2)), o1, some (.inl x2), o3, some (.inl x4), o5], []) :: K) σ = (if x4 = 0 then zRet true K (some (.inl (zor x2 0))) σ else zEv true (zent 86 [.inr (.inr 2), .inl 1, .inl (gI σ 2 2)] :: (45, 171, [some (.inr (.inr 2)), o1, some (.inl x2), o3, some (.inl x4), o5], []) :: K) σ) :=
  yI_iload zi_45_157 rfl <| yI_if_eq zi_45_159 <| yBr (yI_iload_n zi_45_174 rfl <| yI_iconst zi_45_175 <| yI_ior zi_45_176 <| yI_ireturn zi_45_177) (yI_aload_n zi_45_162 rfl <| yI_iconst zi_45_163 <| yI_aload_n zi_45_164 rfl <| yI_gf_i (v := gI σ 2 2) zi_45_165 zk_2 rfl <| yI_cv zi_45_168 rfl rfl zk_2 hK)
theorem zr_45_171 {K : List zF} {σ : zW} {o0 : Option zV} {o1 : Option zV} {o2 : Option zV} {o3 : Option zV} {o4 : Option zV} {o5 : Option zV} {v : Int} : zRet true ((45, 171, [o0, o1, o2, o3, o4, o5], []) :: K) (some (.inl v)) σ = (zRet true K (some (.inl (-1))) σ) :=
  yT_rt (yI_pop_i zi_45_171 <| yI_iconst zi_45_172 <| yI_ireturn zi_45_173)
/-- 46 Treegrab$Pattern.readOrder(LTreegrab$Tape;III)I -/
theorem zi_46_0 : zraw 46 0 = some (.iload_n 1, 1) ∧ 0 + 1 = 1 := by decide +kernel
theorem zi_46_1 : zraw 46 1 = some (.bipush 44, 2) ∧ zin 128 44 = true ∧ 1 + 2 = 3 := by decide +kernel
theorem zi_46_3 : zraw 46 3 = some (.if_icmp .ne 8, 3) ∧ ((3 : Nat) : Int) + 8 = Int.ofNat 11 ∧ 3 + 3 = 6 := by decide +kernel
theorem zi_46_6 : zraw 46 6 = some (.bipush 16, 2) ∧ zin 128 16 = true ∧ 6 + 2 = 8 := by decide +kernel
theorem zi_46_8 : zraw 46 8 = some (.goto 4, 3) ∧ ((8 : Nat) : Int) + 4 = Int.ofNat 12 := by decide +kernel
theorem zi_46_11 : zraw 46 11 = some (.iconst 0, 1) ∧ zin 128 0 = true ∧ 11 + 1 = 12 := by decide +kernel
theorem zi_46_12 : zraw 46 12 = some (.istore 4, 2) ∧ 12 + 2 = 14 := by decide +kernel
theorem zi_46_14 : zraw 46 14 = some (.aload_n 0, 1) ∧ 14 + 1 = 15 := by decide +kernel
theorem zi_46_15 : zraw 46 15 = some (.dup, 1) ∧ 15 + 1 = 16 := by decide +kernel
theorem zi_46_16 : zraw 46 16 = some (.getfield 75, 3) ∧ zft (zinf 46).1 75 = some (7, 2, 0, false) ∧ 16 + 3 = 19 := by decide +kernel
theorem zi_46_19 : zraw 46 19 = some (.iconst 1, 1) ∧ zin 128 1 = true ∧ 19 + 1 = 20 := by decide +kernel
theorem zi_46_20 : zraw 46 20 = some (.iadd, 1) ∧ 20 + 1 = 21 := by decide +kernel
theorem zi_46_21 : zraw 46 21 = some (.putfield 75, 3) ∧ zft (zinf 46).1 75 = some (7, 2, 0, false) ∧ 21 + 3 = 24 := by decide +kernel
theorem zi_46_24 : zraw 46 24 = some (.aload_n 0, 1) ∧ 24 + 1 = 25 := by decide +kernel
theorem zi_46_25 : zraw 46 25 = some (.aload_n 0, 1) ∧ 25 + 1 = 26 := by decide +kernel
theorem zi_46_26 : zraw 46 26 = some (.getfield 75, 3) ∧ zft (zinf 46).1 75 = some (7, 2, 0, false) ∧ 26 + 3 = 29 := by decide +kernel
theorem zi_46_29 : zraw 46 29 = some (.invokevirtual 117, 3) ∧ zmt (zinf 46).1 117 = some 84 ∧ Nat.ble 9000 84 = false ∧ zinf 84 = (7, 2, 2, 1, 0) ∧ 29 + 3 = 32 := by decide +kernel
theorem zi_46_32 : zraw 46 32 = some (.iload_n 1, 1) ∧ 32 + 1 = 33 := by decide +kernel
theorem zi_46_33 : zraw 46 33 = some (.if_icmp .eq 8, 3) ∧ ((33 : Nat) : Int) + 8 = Int.ofNat 41 ∧ 33 + 3 = 36 := by decide +kernel
theorem zi_46_36 : zraw 46 36 = some (.iload 4, 2) ∧ 36 + 2 = 38 := by decide +kernel
theorem zi_46_38 : zraw 46 38 = some (.iload_n 2, 1) ∧ 38 + 1 = 39 := by decide +kernel
theorem zi_46_39 : zraw 46 39 = some (.ior, 1) ∧ 39 + 1 = 40 := by decide +kernel
theorem zi_46_40 : zraw 46 40 = some (.ireturn, 1) ∧ (zinf 46).2.2.2.1 = 1 := by decide +kernel
theorem zi_46_41 : zraw 46 41 = some (.aload_n 0, 1) ∧ 41 + 1 = 42 := by decide +kernel
theorem zi_46_42 : zraw 46 42 = some (.dup, 1) ∧ 42 + 1 = 43 := by decide +kernel
theorem zi_46_43 : zraw 46 43 = some (.getfield 75, 3) ∧ zft (zinf 46).1 75 = some (7, 2, 0, false) ∧ 43 + 3 = 46 := by decide +kernel
theorem zi_46_46 : zraw 46 46 = some (.iconst 1, 1) ∧ zin 128 1 = true ∧ 46 + 1 = 47 := by decide +kernel
theorem zi_46_47 : zraw 46 47 = some (.iadd, 1) ∧ 47 + 1 = 48 := by decide +kernel
theorem zi_46_48 : zraw 46 48 = some (.putfield 75, 3) ∧ zft (zinf 46).1 75 = some (7, 2, 0, false) ∧ 48 + 3 = 51 := by decide +kernel
theorem zi_46_51 : zraw 46 51 = some (.iload 4, 2) ∧ 51 + 2 = 53 := by decide +kernel
theorem zi_46_53 : zraw 46 53 = some (.iload_n 3, 1) ∧ 53 + 1 = 54 := by decide +kernel
theorem zi_46_54 : zraw 46 54 = some (.ior, 1) ∧ 54 + 1 = 55 := by decide +kernel
theorem zi_46_55 : zraw 46 55 = some (.ireturn, 1) ∧ (zinf 46).2.2.2.1 = 1 := by decide +kernel
theorem ze_46 {K : List zF} {σ : zW} {x1 : Int} {x2 : Int} {x3 : Int} (hK : K.length < 60) : zEv true (zent 46 [.inr (.inr 2), .inl x1, .inl x2, .inl x3] :: K) σ = (zEv true (zent 84 [.inr (.inr 2), .inl (w32 ((gI σ 2 2) + 1))] :: (46, 32, [some (.inr (.inr 2)), some (.inl x1), some (.inl x2), some (.inl x3), some (.inl (if ¬ x1 = 44 then 0 else 16 : Int))], []) :: K) (sI σ 2 2 (w32 ((gI σ 2 2) + 1)))) :=
  yT_en (f := (46, 0, [some (.inr (.inr 2)), some (.inl x1), some (.inl x2), some (.inl x3), none], [])) rfl (yI_iload_n zi_46_0 rfl <| yI_bipush zi_46_1 <| yI_ic_ne zi_46_3 <| yMi0 (j := 12) (ls2 := [some (.inr (.inr 2)), some (.inl x1), some (.inl x2), some (.inl x3), none]) (st2 := []) (x := 0) (y := 16) (σ2 := σ) (yI_iconst zi_46_11 <| rfl) (yI_bipush zi_46_6 <| yI_goto zi_46_8 <| rfl) <| yI_istore (l := [some (.inr (.inr 2)), some (.inl x1), some (.inl x2), some (.inl x3), some (.inl (if ¬ x1 = 44 then 0 else 16 : Int))]) zi_46_12 rfl rfl <| yI_aload_n zi_46_14 rfl <| yI_dup_r zi_46_15 <| yI_gf_i (v := gI σ 2 2) zi_46_16 zk_2 rfl <| yI_iconst zi_46_19 <| yI_iadd zi_46_20 <| yI_pf_i zi_46_21 zk_2 <| yI_aload_n zi_46_24 rfl <| yI_aload_n zi_46_25 rfl <| yI_gf_i (v := w32 ((gI σ 2 2) + 1)) zi_46_26 zk_2 (yGI_hit) <| yI_cv zi_46_29 rfl rfl zk_2 hK)
theorem zr_46_32 {K : List zF} {σ : zW} {x1 : Int} {x2 : Int} {x3 : Int} {x4 : Int} {v : Int} : zRet true ((46, 32, [some (.inr (.inr 2)), some (.inl x1), some (.inl x2), some (.inl x3), some (.inl x4)], []) :: K) (some (.inl v)) σ = (if v = x1 then zRet true K (some (.inl (zor x4 x3))) (sI σ 2 2 (w32 ((gI σ 2 2) + 1))) else zRet true K (some (.inl (zor x4 x2))) σ) :=
  yT_rt (yI_iload_n zi_46_32 rfl <| yI_ic_eq zi_46_33 <| yBr (yI_aload_n zi_46_41 rfl <| yI_dup_r zi_46_42 <| yI_gf_i (v := gI σ 2 2) zi_46_43 zk_2 rfl <| yI_iconst zi_46_46 <| yI_iadd zi_46_47 <| yI_pf_i zi_46_48 zk_2 <| yI_iload zi_46_51 rfl <| yI_iload_n zi_46_53 rfl <| yI_ior zi_46_54 <| yI_ireturn zi_46_55) (yI_iload zi_46_36 rfl <| yI_iload_n zi_46_38 rfl <| yI_ior zi_46_39 <| yI_ireturn zi_46_40))
/-- 47 Treegrab$Pattern.readNode(LTreegrab$Tape;III)Z -/
theorem zi_47_0 : zraw 47 0 = some (.aload_n 1, 1) ∧ 0 + 1 = 1 := by decide +kernel
theorem zi_47_1 : zraw 47 1 = some (.invokevirtual 68, 3) ∧ zmt (zinf 47).1 68 = some 85 ∧ Nat.ble 9000 85 = false ∧ zinf 85 = (7, 1, 1, 1, 0) ∧ 1 + 3 = 4 := by decide +kernel
theorem zi_47_4 : zraw 47 4 = some (.istore 5, 2) ∧ 4 + 2 = 6 := by decide +kernel
theorem zi_47_6 : zraw 47 6 = some (.iload_n 3, 1) ∧ 6 + 1 = 7 := by decide +kernel
theorem zi_47_7 : zraw 47 7 = some (.iconst 1, 1) ∧ zin 128 1 = true ∧ 7 + 1 = 8 := by decide +kernel
theorem zi_47_8 : zraw 47 8 = some (.if_icmp .eq 17, 3) ∧ ((8 : Nat) : Int) + 17 = Int.ofNat 25 ∧ 8 + 3 = 11 := by decide +kernel
theorem zi_47_11 : zraw 47 11 = some (.iload_n 2, 1) ∧ 11 + 1 = 12 := by decide +kernel
theorem zi_47_12 : zraw 47 12 = some (.iconst (-1), 1) ∧ zin 128 (-1) = true ∧ 12 + 1 = 13 := by decide +kernel
theorem zi_47_13 : zraw 47 13 = some (.if_icmp .eq 16, 3) ∧ ((13 : Nat) : Int) + 16 = Int.ofNat 29 ∧ 13 + 3 = 16 := by decide +kernel
theorem zi_47_16 : zraw 47 16 = some (.aload_n 0, 1) ∧ 16 + 1 = 17 := by decide +kernel
theorem zi_47_17 : zraw 47 17 = some (.getfield 42, 3) ∧ zft (zinf 47).1 42 = some (4, 10, 3, true) ∧ 17 + 3 = 20 := by decide +kernel
theorem zi_47_20 : zraw 47 20 = some (.iload_n 2, 1) ∧ 20 + 1 = 21 := by decide +kernel
theorem zi_47_21 : zraw 47 21 = some (.baload, 1) ∧ 21 + 1 = 22 := by decide +kernel
theorem zi_47_22 : zraw 47 22 = some (.ifCond .eq 7, 3) ∧ ((22 : Nat) : Int) + 7 = Int.ofNat 29 ∧ 22 + 3 = 25 := by decide +kernel
theorem zi_47_25 : zraw 47 25 = some (.iconst 1, 1) ∧ zin 128 1 = true ∧ 25 + 1 = 26 := by decide +kernel
theorem zi_47_26 : zraw 47 26 = some (.goto 4, 3) ∧ ((26 : Nat) : Int) + 4 = Int.ofNat 30 := by decide +kernel
theorem zi_47_29 : zraw 47 29 = some (.iconst 0, 1) ∧ zin 128 0 = true ∧ 29 + 1 = 30 := by decide +kernel
theorem zi_47_30 : zraw 47 30 = some (.istore 6, 2) ∧ 30 + 2 = 32 := by decide +kernel
theorem zi_47_32 : zraw 47 32 = some (.iload 5, 2) ∧ 32 + 2 = 34 := by decide +kernel
theorem zi_47_34 : zraw 47 34 = some (.bipush 61, 2) ∧ zin 128 61 = true ∧ 34 + 2 = 36 := by decide +kernel
theorem zi_47_36 : zraw 47 36 = some (.if_icmp .eq 12, 3) ∧ ((36 : Nat) : Int) + 12 = Int.ofNat 48 ∧ 36 + 3 = 39 := by decide +kernel
theorem zi_47_39 : zraw 47 39 = some (.iload 6, 2) ∧ 39 + 2 = 41 := by decide +kernel
theorem zi_47_41 : zraw 47 41 = some (.ifCond .ne 7, 3) ∧ ((41 : Nat) : Int) + 7 = Int.ofNat 48 ∧ 41 + 3 = 44 := by decide +kernel
theorem zi_47_44 : zraw 47 44 = some (.iconst 1, 1) ∧ zin 128 1 = true ∧ 44 + 1 = 45 := by decide +kernel
theorem zi_47_45 : zraw 47 45 = some (.goto 4, 3) ∧ ((45 : Nat) : Int) + 4 = Int.ofNat 49 := by decide +kernel
theorem zi_47_48 : zraw 47 48 = some (.iconst 0, 1) ∧ zin 128 0 = true ∧ 48 + 1 = 49 := by decide +kernel
theorem zi_47_49 : zraw 47 49 = some (.istore 7, 2) ∧ 49 + 2 = 51 := by decide +kernel
theorem zi_47_51 : zraw 47 51 = some (.aload_n 0, 1) ∧ 51 + 1 = 52 := by decide +kernel
theorem zi_47_52 : zraw 47 52 = some (.aload_n 1, 1) ∧ 52 + 1 = 53 := by decide +kernel
theorem zi_47_53 : zraw 47 53 = some (.iload 5, 2) ∧ 53 + 2 = 55 := by decide +kernel
theorem zi_47_55 : zraw 47 55 = some (.iload 7, 2) ∧ 55 + 2 = 57 := by decide +kernel
theorem zi_47_57 : zraw 47 57 = some (.invokevirtual 121, 3) ∧ zmt (zinf 47).1 121 = some 48 ∧ Nat.ble 9000 48 = false ∧ zinf 48 = (4, 4, 6, 2, 0) ∧ 57 + 3 = 60 := by decide +kernel
theorem zi_47_60 : zraw 47 60 = some (.ifCond .ne 5, 3) ∧ ((60 : Nat) : Int) + 5 = Int.ofNat 65 ∧ 60 + 3 = 63 := by decide +kernel
theorem zi_47_63 : zraw 47 63 = some (.iconst 0, 1) ∧ zin 128 0 = true ∧ 63 + 1 = 64 := by decide +kernel
theorem zi_47_64 : zraw 47 64 = some (.ireturn, 1) ∧ (zinf 47).2.2.2.1 = 2 := by decide +kernel
theorem zi_47_65 : zraw 47 65 = some (.aload_n 0, 1) ∧ 65 + 1 = 66 := by decide +kernel
theorem zi_47_66 : zraw 47 66 = some (.getfield 87, 3) ∧ zft (zinf 47).1 87 = some (4, 15, 0, false) ∧ 66 + 3 = 69 := by decide +kernel
theorem zi_47_69 : zraw 47 69 = some (.istore 8, 2) ∧ 69 + 2 = 71 := by decide +kernel
theorem zi_47_71 : zraw 47 71 = some (.aload_n 0, 1) ∧ 71 + 1 = 72 := by decide +kernel
theorem zi_47_72 : zraw 47 72 = some (.getfield 42, 3) ∧ zft (zinf 47).1 42 = some (4, 10, 3, true) ∧ 72 + 3 = 75 := by decide +kernel
theorem zi_47_75 : zraw 47 75 = some (.iload 8, 2) ∧ 75 + 2 = 77 := by decide +kernel
theorem zi_47_77 : zraw 47 77 = some (.iload 6, 2) ∧ 77 + 2 = 79 := by decide +kernel
theorem zi_47_79 : zraw 47 79 = some (.bastore, 1) ∧ 79 + 1 = 80 := by decide +kernel
theorem zi_47_80 : zraw 47 80 = some (.aload_n 0, 1) ∧ 80 + 1 = 81 := by decide +kernel
theorem zi_47_81 : zraw 47 81 = some (.iload_n 2, 1) ∧ 81 + 1 = 82 := by decide +kernel
theorem zi_47_82 : zraw 47 82 = some (.iload_n 3, 1) ∧ 82 + 1 = 83 := by decide +kernel
theorem zi_47_83 : zraw 47 83 = some (.iload 4, 2) ∧ 83 + 2 = 85 := by decide +kernel
theorem zi_47_85 : zraw 47 85 = some (.invokevirtual 125, 3) ∧ zmt (zinf 47).1 125 = some 49 ∧ Nat.ble 9000 49 = false ∧ zinf 49 = (4, 4, 5, 0, 0) ∧ 85 + 3 = 88 := by decide +kernel
theorem zi_47_88 : zraw 47 88 = some (.aload_n 0, 1) ∧ 88 + 1 = 89 := by decide +kernel
theorem zi_47_89 : zraw 47 89 = some (.iload 7, 2) ∧ 89 + 2 = 91 := by decide +kernel
theorem zi_47_91 : zraw 47 91 = some (.invokevirtual 129, 3) ∧ zmt (zinf 47).1 129 = some 50 ∧ Nat.ble 9000 50 = false ∧ zinf 50 = (4, 2, 2, 0, 0) ∧ 91 + 3 = 94 := by decide +kernel
theorem zi_47_94 : zraw 47 94 = some (.aload_n 1, 1) ∧ 94 + 1 = 95 := by decide +kernel
theorem zi_47_95 : zraw 47 95 = some (.dup, 1) ∧ 95 + 1 = 96 := by decide +kernel
theorem zi_47_96 : zraw 47 96 = some (.getfield 75, 3) ∧ zft (zinf 47).1 75 = some (7, 2, 0, false) ∧ 96 + 3 = 99 := by decide +kernel
theorem zi_47_99 : zraw 47 99 = some (.iload 5, 2) ∧ 99 + 2 = 101 := by decide +kernel
theorem zi_47_101 : zraw 47 101 = some (.invokestatic 133, 3) ∧ zmt (zinf 47).1 133 = some 136 ∧ Nat.ble 9000 136 = false ∧ zinf 136 = (9, 1, 1, 2, 1) ∧ 101 + 3 = 104 := by decide +kernel
theorem zi_47_104 : zraw 47 104 = some (.ifCond .eq 7, 3) ∧ ((104 : Nat) : Int) + 7 = Int.ofNat 111 ∧ 104 + 3 = 107 := by decide +kernel
theorem zi_47_107 : zraw 47 107 = some (.iconst 0, 1) ∧ zin 128 0 = true ∧ 107 + 1 = 108 := by decide +kernel
theorem zi_47_108 : zraw 47 108 = some (.goto 4, 3) ∧ ((108 : Nat) : Int) + 4 = Int.ofNat 112 := by decide +kernel
theorem zi_47_111 : zraw 47 111 = some (.iconst 1, 1) ∧ zin 128 1 = true ∧ 111 + 1 = 112 := by decide +kernel
theorem zi_47_112 : zraw 47 112 = some (.iadd, 1) ∧ 112 + 1 = 113 := by decide +kernel
theorem zi_47_113 : zraw 47 113 = some (.putfield 75, 3) ∧ zft (zinf 47).1 75 = some (7, 2, 0, false) ∧ 113 + 3 = 116 := by decide +kernel
theorem zi_47_116 : zraw 47 116 = some (.iload 5, 2) ∧ 116 + 2 = 118 := by decide +kernel
theorem zi_47_118 : zraw 47 118 = some (.lookupswitch 100 #[(42, 84), (61, 34), (126, 50)], 34) ∧ (zpos 118 100 && ((#[(42, 84), (61, 34), (126, 50)] : Array (Int × Int)).toList.all (fun q => zpos 118 q.2) && (((#[(42, 84), (61, 34), (126, 50)] : Array (Int × Int)).toList.zip ((#[(42, 84), (61, 34), (126, 50)] : Array (Int × Int)).toList.drop 1)).all (fun (a, next) => a.1 < next.1)))) = true := by decide +kernel
theorem zi_47_152 : zraw 47 152 = some (.aload_n 0, 1) ∧ 152 + 1 = 153 := by decide +kernel
theorem zi_47_153 : zraw 47 153 = some (.getfield 9, 3) ∧ zft (zinf 47).1 9 = some (4, 0, 3, true) ∧ 153 + 3 = 156 := by decide +kernel
theorem zi_47_156 : zraw 47 156 = some (.iload 8, 2) ∧ 156 + 2 = 158 := by decide +kernel
theorem zi_47_158 : zraw 47 158 = some (.iconst 4, 1) ∧ zin 128 4 = true ∧ 158 + 1 = 159 := by decide +kernel
theorem zi_47_159 : zraw 47 159 = some (.iastore, 1) ∧ 159 + 1 = 160 := by decide +kernel
theorem zi_47_160 : zraw 47 160 = some (.aload_n 0, 1) ∧ 160 + 1 = 161 := by decide +kernel
theorem zi_47_161 : zraw 47 161 = some (.aload_n 1, 1) ∧ 161 + 1 = 162 := by decide +kernel
theorem zi_47_162 : zraw 47 162 = some (.iload 8, 2) ∧ 162 + 2 = 164 := by decide +kernel
theorem zi_47_164 : zraw 47 164 = some (.invokevirtual 136, 3) ∧ zmt (zinf 47).1 136 = some 53 ∧ Nat.ble 9000 53 = false ∧ zinf 53 = (4, 3, 5, 2, 0) ∧ 164 + 3 = 167 := by decide +kernel
theorem zi_47_167 : zraw 47 167 = some (.ireturn, 1) ∧ (zinf 47).2.2.2.1 = 2 := by decide +kernel
theorem zi_47_168 : zraw 47 168 = some (.aload_n 0, 1) ∧ 168 + 1 = 169 := by decide +kernel
theorem zi_47_169 : zraw 47 169 = some (.getfield 9, 3) ∧ zft (zinf 47).1 9 = some (4, 0, 3, true) ∧ 169 + 3 = 172 := by decide +kernel
theorem zi_47_172 : zraw 47 172 = some (.iload 8, 2) ∧ 172 + 2 = 174 := by decide +kernel
theorem zi_47_174 : zraw 47 174 = some (.iconst 3, 1) ∧ zin 128 3 = true ∧ 174 + 1 = 175 := by decide +kernel
theorem zi_47_175 : zraw 47 175 = some (.iastore, 1) ∧ 175 + 1 = 176 := by decide +kernel
theorem zi_47_176 : zraw 47 176 = some (.aload_n 0, 1) ∧ 176 + 1 = 177 := by decide +kernel
theorem zi_47_177 : zraw 47 177 = some (.aload_n 1, 1) ∧ 177 + 1 = 178 := by decide +kernel
theorem zi_47_178 : zraw 47 178 = some (.iload 8, 2) ∧ 178 + 2 = 180 := by decide +kernel
theorem zi_47_180 : zraw 47 180 = some (.invokevirtual 136, 3) ∧ zmt (zinf 47).1 136 = some 53 ∧ Nat.ble 9000 53 = false ∧ zinf 53 = (4, 3, 5, 2, 0) ∧ 180 + 3 = 183 := by decide +kernel
theorem zi_47_183 : zraw 47 183 = some (.ifCond .eq 17, 3) ∧ ((183 : Nat) : Int) + 17 = Int.ofNat 200 ∧ 183 + 3 = 186 := by decide +kernel
theorem zi_47_186 : zraw 47 186 = some (.aload_n 0, 1) ∧ 186 + 1 = 187 := by decide +kernel
theorem zi_47_187 : zraw 47 187 = some (.aload_n 1, 1) ∧ 187 + 1 = 188 := by decide +kernel
theorem zi_47_188 : zraw 47 188 = some (.iload 8, 2) ∧ 188 + 2 = 190 := by decide +kernel
theorem zi_47_190 : zraw 47 190 = some (.invokevirtual 140, 3) ∧ zmt (zinf 47).1 140 = some 54 ∧ Nat.ble 9000 54 = false ∧ zinf 54 = (4, 3, 4, 2, 0) ∧ 190 + 3 = 193 := by decide +kernel
theorem zi_47_193 : zraw 47 193 = some (.ifCond .eq 7, 3) ∧ ((193 : Nat) : Int) + 7 = Int.ofNat 200 ∧ 193 + 3 = 196 := by decide +kernel
theorem zi_47_196 : zraw 47 196 = some (.iconst 1, 1) ∧ zin 128 1 = true ∧ 196 + 1 = 197 := by decide +kernel
theorem zi_47_197 : zraw 47 197 = some (.goto 4, 3) ∧ ((197 : Nat) : Int) + 4 = Int.ofNat 201 := by decide +kernel
theorem zi_47_200 : zraw 47 200 = some (.iconst 0, 1) ∧ zin 128 0 = true ∧ 200 + 1 = 201 := by decide +kernel
theorem zi_47_201 : zraw 47 201 = some (.ireturn, 1) ∧ (zinf 47).2.2.2.1 = 2 := by decide +kernel
theorem zi_47_202 : zraw 47 202 = some (.aload_n 0, 1) ∧ 202 + 1 = 203 := by decide +kernel
theorem zi_47_203 : zraw 47 203 = some (.getfield 9, 3) ∧ zft (zinf 47).1 9 = some (4, 0, 3, true) ∧ 203 + 3 = 206 := by decide +kernel
theorem zi_47_206 : zraw 47 206 = some (.iload 8, 2) ∧ 206 + 2 = 208 := by decide +kernel
theorem zi_47_208 : zraw 47 208 = some (.iconst 0, 1) ∧ zin 128 0 = true ∧ 208 + 1 = 209 := by decide +kernel
theorem zi_47_209 : zraw 47 209 = some (.iastore, 1) ∧ 209 + 1 = 210 := by decide +kernel
theorem zi_47_210 : zraw 47 210 = some (.aload_n 0, 1) ∧ 210 + 1 = 211 := by decide +kernel
theorem zi_47_211 : zraw 47 211 = some (.aload_n 1, 1) ∧ 211 + 1 = 212 := by decide +kernel
theorem zi_47_212 : zraw 47 212 = some (.iload 8, 2) ∧ 212 + 2 = 214 := by decide +kernel
theorem zi_47_214 : zraw 47 214 = some (.invokevirtual 140, 3) ∧ zmt (zinf 47).1 140 = some 54 ∧ Nat.ble 9000 54 = false ∧ zinf 54 = (4, 3, 4, 2, 0) ∧ 214 + 3 = 217 := by decide +kernel
theorem zi_47_217 : zraw 47 217 = some (.ireturn, 1) ∧ (zinf 47).2.2.2.1 = 2 := by decide +kernel
theorem zi_47_218 : zraw 47 218 = some (.aload_n 0, 1) ∧ 218 + 1 = 219 := by decide +kernel
theorem zi_47_219 : zraw 47 219 = some (.getfield 9, 3) ∧ zft (zinf 47).1 9 = some (4, 0, 3, true) ∧ 219 + 3 = 222 := by decide +kernel
theorem zi_47_222 : zraw 47 222 = some (.iload 8, 2) ∧ 222 + 2 = 224 := by decide +kernel
theorem zi_47_224 : zraw 47 224 = some (.iload 5, 2) ∧ 224 + 2 = 226 := by decide +kernel
theorem zi_47_226 : zraw 47 226 = some (.bipush 33, 2) ∧ zin 128 33 = true ∧ 226 + 2 = 228 := by decide +kernel
theorem zi_47_228 : zraw 47 228 = some (.if_icmp .ne 7, 3) ∧ ((228 : Nat) : Int) + 7 = Int.ofNat 235 ∧ 228 + 3 = 231 := by decide +kernel
theorem zi_47_231 : zraw 47 231 = some (.iconst 2, 1) ∧ zin 128 2 = true ∧ 231 + 1 = 232 := by decide +kernel
theorem zi_47_232 : zraw 47 232 = some (.goto 4, 3) ∧ ((232 : Nat) : Int) + 4 = Int.ofNat 236 := by decide +kernel
theorem zi_47_235 : zraw 47 235 = some (.iconst 1, 1) ∧ zin 128 1 = true ∧ 235 + 1 = 236 := by decide +kernel
theorem zi_47_236 : zraw 47 236 = some (.iastore, 1) ∧ 236 + 1 = 237 := by decide +kernel
theorem zi_47_237 : zraw 47 237 = some (.aload_n 0, 1) ∧ 237 + 1 = 238 := by decide +kernel
theorem zi_47_238 : zraw 47 238 = some (.aload_n 1, 1) ∧ 238 + 1 = 239 := by decide +kernel
theorem zi_47_239 : zraw 47 239 = some (.iload 8, 2) ∧ 239 + 2 = 241 := by decide +kernel
theorem zi_47_241 : zraw 47 241 = some (.invokevirtual 143, 3) ∧ zmt (zinf 47).1 143 = some 51 ∧ Nat.ble 9000 51 = false ∧ zinf 51 = (4, 3, 6, 2, 0) ∧ 241 + 3 = 244 := by decide +kernel
theorem zi_47_244 : zraw 47 244 = some (.ifCond .eq 17, 3) ∧ ((244 : Nat) : Int) + 17 = Int.ofNat 261 ∧ 244 + 3 = 247 := by decide +kernel
theorem zi_47_247 : zraw 47 247 = some (.aload_n 0, 1) ∧ 247 + 1 = 248 := by decide +kernel
theorem zi_47_248 : zraw 47 248 = some (.aload_n 1, 1) ∧ 248 + 1 = 249 := by decide +kernel
theorem zi_47_249 : zraw 47 249 = some (.iload 8, 2) ∧ 249 + 2 = 251 := by decide +kernel
theorem zi_47_251 : zraw 47 251 = some (.invokevirtual 140, 3) ∧ zmt (zinf 47).1 140 = some 54 ∧ Nat.ble 9000 54 = false ∧ zinf 54 = (4, 3, 4, 2, 0) ∧ 251 + 3 = 254 := by decide +kernel
theorem zi_47_254 : zraw 47 254 = some (.ifCond .eq 7, 3) ∧ ((254 : Nat) : Int) + 7 = Int.ofNat 261 ∧ 254 + 3 = 257 := by decide +kernel
theorem zi_47_257 : zraw 47 257 = some (.iconst 1, 1) ∧ zin 128 1 = true ∧ 257 + 1 = 258 := by decide +kernel
theorem zi_47_258 : zraw 47 258 = some (.goto 4, 3) ∧ ((258 : Nat) : Int) + 4 = Int.ofNat 262 := by decide +kernel
theorem zi_47_261 : zraw 47 261 = some (.iconst 0, 1) ∧ zin 128 0 = true ∧ 261 + 1 = 262 := by decide +kernel
theorem zi_47_262 : zraw 47 262 = some (.ireturn, 1) ∧ (zinf 47).2.2.2.1 = 2 := by decide +kernel
theorem ze_47 {K : List zF} {σ : zW} {t : Nat} {x2 : Int} {x3 : Int} {x4 : Int} (hK : K.length < 60) : zEv true (zent 47 [.inr (.inr t), .inr (.inr 2), .inl x2, .inl x3, .inl x4] :: K) σ = (zEv true (zent 85 [.inr (.inr 2)] :: (47, 4, [some (.inr (.inr t)), some (.inr (.inr 2)), some (.inl x2), some (.inl x3), some (.inl x4), none, none, none, none], []) :: K) σ) :=
  yT_en (f := (47, 0, [some (.inr (.inr t)), some (.inr (.inr 2)), some (.inl x2), some (.inl x3), some (.inl x4), none, none, none, none], [])) rfl (yI_aload_n zi_47_0 rfl <| yI_cv zi_47_1 rfl rfl zk_2 hK)
theorem zr_47_4 {K : List zF} {σ : zW} {x0 : Nat} {x2 : Int} {x3 : Int} {x4 : Int} {o5 : Option zV} {o6 : Option zV} {o7 : Option zV} {o8 : Option zV} {v : Int} (hK : K.length < 60) (h1 : zPn x0) : zRet true ((47, 4, [some (.inr (.inr x0)), some (.inr (.inr 2)), some (.inl x2), some (.inl x3), some (.inl x4), o5, o6, o7, o8], []) :: K) (some (.inl v)) σ = (if x3 = 1 then if v = 61 then zEv true ((47, 48, [some (.inr (.inr x0)), some (.inr (.inr 2)), some (.inl x2), some (.inl x3), some (.inl x4), some (.inl v), some (.inl 1), o7, o8], []) :: K) σ else if ¬ (1 : Int) = 0 then zEv true ((47, 48, [some (.inr (.inr x0)), some (.inr (.inr 2)), some (.inl x2), some (.inl x3), some (.inl x4), some (.inl v), some (.inl 1), o7, o8], []) :: K) σ else zEv true (zent 48 [.inr (.inr x0), .inr (.inr 2), .inl v, .inl 1] :: (47, 60, [some (.inr (.inr x0)), some (.inr (.inr 2)), some (.inl x2), some (.inl x3), some (.inl x4), some (.inl v), some (.inl 1), some (.inl 1), o8], []) :: K) σ else if x2 = (-1) then zEv true ((47, 29, [some (.inr (.inr x0)), some (.inr (.inr 2)), some (.inl x2), some (.inl x3), some (.inl x4), some (.inl v), o6, o7, o8], []) :: K) σ else (0 ≤ x2 ∧ x2 < 8) ∧ (if (gI σ (x0 + 11) x2.toNat) = 0 then zEv true ((47, 29, [some (.inr (.inr x0)), some (.inr (.inr 2)), some (.inl x2), some (.inl x3), some (.inl x4), some (.inl v), o6, o7, o8], []) :: K) σ else if v = 61 then zEv true ((47, 48, [some (.inr (.inr x0)), some (.inr (.inr 2)), some (.inl x2), some (.inl x3), some (.inl x4), some (.inl v), some (.inl 1), o7, o8], []) :: K) σ else if ¬ (1 : Int) = 0 then zEv true ((47, 48, [some (.inr (.inr x0)), some (.inr (.inr 2)), some (.inl x2), some (.inl x3), some (.inl x4), some (.inl v), some (.inl 1), o7, o8], []) :: K) σ else zEv true (zent 48 [.inr (.inr x0), .inr (.inr 2), .inl v, .inl 1] :: (47, 60, [some (.inr (.inr x0)), some (.inr (.inr 2)), some (.inl x2), some (.inl x3), some (.inl x4), some (.inl v), some (.inl 1), some (.inl 1), o8], []) :: K) σ)) :=
  yT_rt (yI_istore (l := [some (.inr (.inr x0)), some (.inr (.inr 2)), some (.inl x2), some (.inl x3), some (.inl x4), some (.inl v), o6, o7, o8]) zi_47_4 rfl rfl <| yI_iload_n zi_47_6 rfl <| yI_iconst zi_47_7 <| yI_ic_eq zi_47_8 <| yBr (yI_iconst zi_47_25 <| yI_goto zi_47_26 <| yI_istore (l := [some (.inr (.inr x0)), some (.inr (.inr 2)), some (.inl x2), some (.inl x3), some (.inl x4), some (.inl v), some (.inl 1), o7, o8]) zi_47_30 rfl rfl <| yI_iload zi_47_32 rfl <| yI_bipush zi_47_34 <| yI_ic_eq zi_47_36 <| yBr (rfl) (yI_iload zi_47_39 rfl <| yI_if_ne zi_47_41 <| yBr (rfl) (yI_iconst zi_47_44 <| yI_goto zi_47_45 <| yI_istore (l := [some (.inr (.inr x0)), some (.inr (.inr 2)), some (.inl x2), some (.inl x3), some (.inl x4), some (.inl v), some (.inl 1), some (.inl 1), o8]) zi_47_49 rfl rfl <| yI_aload_n zi_47_51 rfl <| yI_aload_n zi_47_52 rfl <| yI_iload zi_47_53 rfl <| yI_iload zi_47_55 rfl <| yI_cv zi_47_57 rfl rfl (zPn_k h1) hK))) (yI_iload_n zi_47_11 rfl <| yI_iconst zi_47_12 <| yI_ic_eq zi_47_13 <| yBr (rfl) (yI_aload_n zi_47_16 rfl <| yI_gf_f (v := x0 + 11) zi_47_17 (zPn_k h1) rfl <| yI_iload_n zi_47_20 rfl <| yI_baloadc (v := gI σ (x0 + 11) x2.toNat) zi_47_21 (zPn_a11 h1) rfl <| yI_if_eq zi_47_22 <| yBr (rfl) (yI_iconst zi_47_25 <| yI_goto zi_47_26 <| yI_istore (l := [some (.inr (.inr x0)), some (.inr (.inr 2)), some (.inl x2), some (.inl x3), some (.inl x4), some (.inl v), some (.inl 1), o7, o8]) zi_47_30 rfl rfl <| yI_iload zi_47_32 rfl <| yI_bipush zi_47_34 <| yI_ic_eq zi_47_36 <| yBr (rfl) (yI_iload zi_47_39 rfl <| yI_if_ne zi_47_41 <| yBr (rfl) (yI_iconst zi_47_44 <| yI_goto zi_47_45 <| yI_istore (l := [some (.inr (.inr x0)), some (.inr (.inr 2)), some (.inl x2), some (.inl x3), some (.inl x4), some (.inl v), some (.inl 1), some (.inl 1), o8]) zi_47_49 rfl rfl <| yI_aload_n zi_47_51 rfl <| yI_aload_n zi_47_52 rfl <| yI_iload zi_47_53 rfl <| yI_iload zi_47_55 rfl <| yI_cv zi_47_57 rfl rfl (zPn_k h1) hK))))))
theorem zj_47_29 {K : List zF} {σ : zW} {x0 : Nat} {x2 : Int} {x3 : Int} {x4 : Int} {x5 : Int} {o6 : Option zV} {o7 : Option zV} {o8 : Option zV} (hK : K.length < 60) (h1 : zPn x0) : zEv true ((47, 29, [some (.inr (.inr x0)), some (.inr (.inr 2)), some (.inl x2), some (.inl x3), some (.inl x4), some (.inl x5), o6, o7, o8], []) :: K) σ = (if x5 = 61 then zEv true ((47, 48, [some (.inr (.inr x0)), some (.inr (.inr 2)), some (.inl x2), some (.inl x3), some (.inl x4), some (.inl x5), some (.inl 0), o7, o8], []) :: K) σ else if ¬ (0 : Int) = 0 then zEv true ((47, 48, [some (.inr (.inr x0)), some (.inr (.inr 2)), some (.inl x2), some (.inl x3), some (.inl x4), some (.inl x5), some (.inl 0), o7, o8], []) :: K) σ else zEv true (zent 48 [.inr (.inr x0), .inr (.inr 2), .inl x5, .inl 1] :: (47, 60, [some (.inr (.inr x0)), some (.inr (.inr 2)), some (.inl x2), some (.inl x3), some (.inl x4), some (.inl x5), some (.inl 0), some (.inl 1), o8], []) :: K) σ) :=
  yI_iconst zi_47_29 <| yI_istore (l := [some (.inr (.inr x0)), some (.inr (.inr 2)), some (.inl x2), some (.inl x3), some (.inl x4), some (.inl x5), some (.inl 0), o7, o8]) zi_47_30 rfl rfl <| yI_iload zi_47_32 rfl <| yI_bipush zi_47_34 <| yI_ic_eq zi_47_36 <| yBr (rfl) (yI_iload zi_47_39 rfl <| yI_if_ne zi_47_41 <| yBr (rfl) (yI_iconst zi_47_44 <| yI_goto zi_47_45 <| yI_istore (l := [some (.inr (.inr x0)), some (.inr (.inr 2)), some (.inl x2), some (.inl x3), some (.inl x4), some (.inl x5), some (.inl 0), some (.inl 1), o8]) zi_47_49 rfl rfl <| yI_aload_n zi_47_51 rfl <| yI_aload_n zi_47_52 rfl <| yI_iload zi_47_53 rfl <| yI_iload zi_47_55 rfl <| yI_cv zi_47_57 rfl rfl (zPn_k h1) hK))
theorem zj_47_48 {K : List zF} {σ : zW} {x0 : Nat} {x2 : Int} {x3 : Int} {x4 : Int} {x5 : Int} {x6 : Int} {o7 : Option zV} {o8 : Option zV} (hK : K.length < 60) (h1 : zPn x0) : zEv true ((47, 48, [some (.inr (.inr x0)), some (.inr (.inr 2)), some (.inl x2), some (.inl x3), some (.inl x4), some (.inl x5), some (.inl x6), o7, o8], []) :: K) σ = (zEv true (zent 48 [.inr (.inr x0), .inr (.inr 2), .inl x5, .inl 0] :: (47, 60, [some (.inr (.inr x0)), some (.inr (.inr 2)), some (.inl x2), some (.inl x3), some (.inl x4), some (.inl x5), some (.inl x6), some (.inl 0), o8], []) :: K) σ) :=
  yI_iconst zi_47_48 <| yI_istore (l := [some (.inr (.inr x0)), some (.inr (.inr 2)), some (.inl x2), some (.inl x3), some (.inl x4), some (.inl x5), some (.inl x6), some (.inl 0), o8]) zi_47_49 rfl rfl <| yI_aload_n zi_47_51 rfl <| yI_aload_n zi_47_52 rfl <| yI_iload zi_47_53 rfl <| yI_iload zi_47_55 rfl <| yI_cv zi_47_57 rfl rfl (zPn_k h1) hK
theorem zr_47_60 {K : List zF} {σ : zW} {x0 : Nat} {x2 : Int} {x3 : Int} {x4 : Int} {x5 : Int} {x6 : Int} {x7 : Int} {o8 : Option zV} {v : Int} (hK : K.length < 60) (h1 : zPn x0) : zRet true ((47, 60, [some (.inr (.inr x0)), some (.inr (.inr 2)), some (.inl x2), some (.inl x3), some (.inl x4), some (.inl x5), some (.inl x6), some (.inl x7), o8], []) :: K) (some (.inl v)) σ = (if ¬ v = 0 then ((0 ≤ (gI σ x0 15) ∧ (gI σ x0 15) < 8) ∧ (x6 = 0 ∨ x6 = 1)) ∧ zEv true (zent 49 [.inr (.inr x0), .inl x2, .inl x3, .inl x4] :: (47, 88, [some (.inr (.inr x0)), some (.inr (.inr 2)), some (.inl x2), some (.inl x3), some (.inl x4), some (.inl x5), some (.inl x6), some (.inl x7), some (.inl (gI σ x0 15))], []) :: K) (sI σ (x0 + 11) ((gI σ x0 15).toNat) x6) else zRet true K (some (.inl 0)) σ) :=
  yT_rt (yI_if_ne zi_47_60 <| yBr (yI_aload_n zi_47_65 rfl <| yI_gf_i (v := gI σ x0 15) zi_47_66 (zPn_k h1) rfl <| yI_istore (l := [some (.inr (.inr x0)), some (.inr (.inr 2)), some (.inl x2), some (.inl x3), some (.inl x4), some (.inl x5), some (.inl x6), some (.inl x7), some (.inl (gI σ x0 15))]) zi_47_69 rfl rfl <| yI_aload_n zi_47_71 rfl <| yI_gf_f (v := x0 + 11) zi_47_72 (zPn_k h1) rfl <| yI_iload zi_47_75 rfl <| yI_iload zi_47_77 rfl <| yI_bastoreb zi_47_79 (zPn_a11 h1) <| yI_aload_n zi_47_80 rfl <| yI_iload_n zi_47_81 rfl <| yI_iload_n zi_47_82 rfl <| yI_iload zi_47_83 rfl <| yI_cv zi_47_85 rfl rfl (zPn_k h1) hK) (yI_iconst zi_47_63 <| yI_zreturn zi_47_64 (by decide)))
theorem zr_47_88 {K : List zF} {σ : zW} {x0 : Nat} {o2 : Option zV} {o3 : Option zV} {o4 : Option zV} {x5 : Int} {o6 : Option zV} {x7 : Int} {x8 : Int} (hK : K.length < 60) (h1 : zPn x0) : zRet true ((47, 88, [some (.inr (.inr x0)), some (.inr (.inr 2)), o2, o3, o4, some (.inl x5), o6, some (.inl x7), some (.inl x8)], []) :: K) none σ = (zEv true (zent 50 [.inr (.inr x0), .inl x7] :: (47, 94, [some (.inr (.inr x0)), some (.inr (.inr 2)), o2, o3, o4, some (.inl x5), o6, some (.inl x7), some (.inl x8)], []) :: K) σ) :=
  yT_rv (yI_aload_n zi_47_88 rfl <| yI_iload zi_47_89 rfl <| yI_cv zi_47_91 rfl rfl (zPn_k h1) hK)
theorem zr_47_94 {K : List zF} {σ : zW} {x0 : Nat} {o2 : Option zV} {o3 : Option zV} {o4 : Option zV} {x5 : Int} {o6 : Option zV} {o7 : Option zV} {x8 : Int} (hK : K.length < 60) : zRet true ((47, 94, [some (.inr (.inr x0)), some (.inr (.inr 2)), o2, o3, o4, some (.inl x5), o6, o7, some (.inl x8)], []) :: K) none σ = (zEv true (zent 136 [.inl x5] :: (47, 104, [some (.inr (.inr x0)), some (.inr (.inr 2)), o2, o3, o4, some (.inl x5), o6, o7, some (.inl x8)], [.inl (gI σ 2 2), .inr (.inr 2)]) :: K) σ) :=
  yT_rv (yI_aload_n zi_47_94 rfl <| yI_dup_r zi_47_95 <| yI_gf_i (v := gI σ 2 2) zi_47_96 zk_2 rfl <| yI_iload zi_47_99 rfl <| yI_cs zi_47_101 rfl rfl hK)
theorem zr_47_104 {K : List zF} {σ : zW} {x0 : Nat} {o2 : Option zV} {o3 : Option zV} {o4 : Option zV} {x5 : Int} {o6 : Option zV} {o7 : Option zV} {x8 : Int} {s0 : Int} {v : Int} (hK : K.length < 60) (h1 : zPn x0) : zRet true ((47, 104, [some (.inr (.inr x0)), some (.inr (.inr 2)), o2, o3, o4, some (.inl x5), o6, o7, some (.inl x8)], [.inl s0, .inr (.inr 2)]) :: K) (some (.inl v)) σ = (if x5 = 42 then (0 ≤ x8 ∧ x8 < 8) ∧ zEv true (zent 54 [.inr (.inr x0), .inr (.inr 2), .inl x8] :: (47, 217, [some (.inr (.inr x0)), some (.inr (.inr 2)), o2, o3, o4, some (.inl x5), o6, o7, some (.inl x8)], []) :: K) (sI (sI σ 2 2 (w32 (s0 + (if v = 0 then 1 else 0 : Int)))) (x0 + 1) x8.toNat 0) else if x5 = 61 then (0 ≤ x8 ∧ x8 < 8) ∧ zEv true (zent 53 [.inr (.inr x0), .inr (.inr 2), .inl x8] :: (47, 167, [some (.inr (.inr x0)), some (.inr (.inr 2)), o2, o3, o4, some (.inl x5), o6, o7, some (.inl x8)], []) :: K) (sI (sI σ 2 2 (w32 (s0 + (if v = 0 then 1 else 0 : Int)))) (x0 + 1) x8.toNat 4) else if x5 = 126 then (0 ≤ x8 ∧ x8 < 8) ∧ zEv true (zent 53 [.inr (.inr x0), .inr (.inr 2), .inl x8] :: (47, 183, [some (.inr (.inr x0)), some (.inr (.inr 2)), o2, o3, o4, some (.inl x5), o6, o7, some (.inl x8)], []) :: K) (sI (sI σ 2 2 (w32 (s0 + (if v = 0 then 1 else 0 : Int)))) (x0 + 1) x8.toNat 3) else (0 ≤ x8 ∧ x8 < 8) ∧ zEv true (zent 51 [.inr (.inr x0), .inr (.inr 2), .inl x8] :: (47, 244, [some (.inr (.inr x0)), some (.inr (.inr 2)), o2, o3, o4, some (.inl x5), o6, o7, some (.inl x8)], []) :: K) (sI (sI σ 2 2 (w32 (s0 + (if v = 0 then 1 else 0 : Int)))) (x0 + 1) x8.toNat (if ¬ x5 = 33 then 1 else 2 : Int))) :=
  yT_rt (yI_if_eq zi_47_104 <| yMi0 (j := 112) (ls2 := [some (.inr (.inr x0)), some (.inr (.inr 2)), o2, o3, o4, some (.inl x5), o6, o7, some (.inl x8)]) (st2 := [.inl s0, .inr (.inr 2)]) (x := 1) (y := 0) (σ2 := σ) (yI_iconst zi_47_111 <| rfl) (yI_iconst zi_47_107 <| yI_goto zi_47_108 <| rfl) <| yI_iadd zi_47_112 <| yI_pf_i zi_47_113 zk_2 <| yI_iload zi_47_116 rfl <| yI_lsw (q := if x5 = 42 then 202 else if x5 = 61 then 152 else if x5 = 126 then 168 else 218) zi_47_118 (by with_unfolding_all rfl) <| yBr (yI_aload_n zi_47_202 rfl <| yI_gf_f (v := x0 + 1) zi_47_203 (zPn_k h1) rfl <| yI_iload zi_47_206 rfl <| yI_iconst zi_47_208 <| yI_iastorec zi_47_209 (zPn_a1 h1) <| yI_aload_n zi_47_210 rfl <| yI_aload_n zi_47_211 rfl <| yI_iload zi_47_212 rfl <| yI_cv zi_47_214 rfl rfl (zPn_k h1) hK) (yBr (yI_aload_n zi_47_152 rfl <| yI_gf_f (v := x0 + 1) zi_47_153 (zPn_k h1) rfl <| yI_iload zi_47_156 rfl <| yI_iconst zi_47_158 <| yI_iastorec zi_47_159 (zPn_a1 h1) <| yI_aload_n zi_47_160 rfl <| yI_aload_n zi_47_161 rfl <| yI_iload zi_47_162 rfl <| yI_cv zi_47_164 rfl rfl (zPn_k h1) hK) (yBr (yI_aload_n zi_47_168 rfl <| yI_gf_f (v := x0 + 1) zi_47_169 (zPn_k h1) rfl <| yI_iload zi_47_172 rfl <| yI_iconst zi_47_174 <| yI_iastorec zi_47_175 (zPn_a1 h1) <| yI_aload_n zi_47_176 rfl <| yI_aload_n zi_47_177 rfl <| yI_iload zi_47_178 rfl <| yI_cv zi_47_180 rfl rfl (zPn_k h1) hK) (yI_aload_n zi_47_218 rfl <| yI_gf_f (v := x0 + 1) zi_47_219 (zPn_k h1) rfl <| yI_iload zi_47_222 rfl <| yI_iload zi_47_224 rfl <| yI_bipush zi_47_226 <| yI_ic_ne zi_47_228 <| yMi0 (j := 236) (ls2 := [some (.inr (.inr x0)), some (.inr (.inr 2)), o2, o3, o4, some (.inl x5), o6, o7, some (.inl x8)]) (st2 := [.inl x8, .inr (.inr (x0 + 1))]) (x := 1) (y := 2) (σ2 := (sI σ 2 2 (w32 (s0 + (if v = 0 then 1 else 0 : Int))))) (yI_iconst zi_47_235 <| rfl) (yI_iconst zi_47_231 <| yI_goto zi_47_232 <| rfl) <| yI_iastorec zi_47_236 (zPn_a1 h1) <| yI_aload_n zi_47_237 rfl <| yI_aload_n zi_47_238 rfl <| yI_iload zi_47_239 rfl <| yI_cv zi_47_241 rfl rfl (zPn_k h1) hK))))
theorem zr_47_217 {K : List zF} {σ : zW} {o0 : Option zV} {o1 : Option zV} {o2 : Option zV} {o3 : Option zV} {o4 : Option zV} {o5 : Option zV} {o6 : Option zV} {o7 : Option zV} {o8 : Option zV} {v : Int} : zRet true ((47, 217, [o0, o1, o2, o3, o4, o5, o6, o7, o8], []) :: K) (some (.inl v)) σ = ((v = 0 ∨ v = 1) ∧ zRet true K (some (.inl v)) σ) :=
  yT_rt (yI_zreturnc zi_47_217)
theorem zr_47_167 {K : List zF} {σ : zW} {o0 : Option zV} {o1 : Option zV} {o2 : Option zV} {o3 : Option zV} {o4 : Option zV} {o5 : Option zV} {o6 : Option zV} {o7 : Option zV} {o8 : Option zV} {v : Int} : zRet true ((47, 167, [o0, o1, o2, o3, o4, o5, o6, o7, o8], []) :: K) (some (.inl v)) σ = ((v = 0 ∨ v = 1) ∧ zRet true K (some (.inl v)) σ) :=
  yT_rt (yI_zreturnc zi_47_167)
theorem zr_47_183 {K : List zF} {σ : zW} {x0 : Nat} {o2 : Option zV} {o3 : Option zV} {o4 : Option zV} {o5 : Option zV} {o6 : Option zV} {o7 : Option zV} {x8 : Int} {v : Int} (hK : K.length < 60) (h1 : zPn x0) : zRet true ((47, 183, [some (.inr (.inr x0)), some (.inr (.inr 2)), o2, o3, o4, o5, o6, o7, some (.inl x8)], []) :: K) (some (.inl v)) σ = (if v = 0 then zEv true ((47, 200, [some (.inr (.inr x0)), some (.inr (.inr 2)), o2, o3, o4, o5, o6, o7, some (.inl x8)], []) :: K) σ else zEv true (zent 54 [.inr (.inr x0), .inr (.inr 2), .inl x8] :: (47, 193, [some (.inr (.inr x0)), some (.inr (.inr 2)), o2, o3, o4, o5, o6, o7, some (.inl x8)], []) :: K) σ) :=
  yT_rt (yI_if_eq zi_47_183 <| yBr (rfl) (yI_aload_n zi_47_186 rfl <| yI_aload_n zi_47_187 rfl <| yI_iload zi_47_188 rfl <| yI_cv zi_47_190 rfl rfl (zPn_k h1) hK))
theorem zr_47_244 {K : List zF} {σ : zW} {x0 : Nat} {o2 : Option zV} {o3 : Option zV} {o4 : Option zV} {o5 : Option zV} {o6 : Option zV} {o7 : Option zV} {x8 : Int} {v : Int} (hK : K.length < 60) (h1 : zPn x0) : zRet true ((47, 244, [some (.inr (.inr x0)), some (.inr (.inr 2)), o2, o3, o4, o5, o6, o7, some (.inl x8)], []) :: K) (some (.inl v)) σ = (if v = 0 then zEv true ((47, 261, [some (.inr (.inr x0)), some (.inr (.inr 2)), o2, o3, o4, o5, o6, o7, some (.inl x8)], []) :: K) σ else zEv true (zent 54 [.inr (.inr x0), .inr (.inr 2), .inl x8] :: (47, 254, [some (.inr (.inr x0)), some (.inr (.inr 2)), o2, o3, o4, o5, o6, o7, some (.inl x8)], []) :: K) σ) :=
  yT_rt (yI_if_eq zi_47_244 <| yBr (rfl) (yI_aload_n zi_47_247 rfl <| yI_aload_n zi_47_248 rfl <| yI_iload zi_47_249 rfl <| yI_cv zi_47_251 rfl rfl (zPn_k h1) hK))
theorem zj_47_200 {K : List zF} {σ : zW} {o0 : Option zV} {o1 : Option zV} {o2 : Option zV} {o3 : Option zV} {o4 : Option zV} {o5 : Option zV} {o6 : Option zV} {o7 : Option zV} {o8 : Option zV} : zEv true ((47, 200, [o0, o1, o2, o3, o4, o5, o6, o7, o8], []) :: K) σ = (zRet true K (some (.inl 0)) σ) :=
  yI_iconst zi_47_200 <| yI_zreturn zi_47_201 (by decide)
theorem zr_47_193 {K : List zF} {σ : zW} {o0 : Option zV} {o1 : Option zV} {o2 : Option zV} {o3 : Option zV} {o4 : Option zV} {o5 : Option zV} {o6 : Option zV} {o7 : Option zV} {o8 : Option zV} {v : Int} : zRet true ((47, 193, [o0, o1, o2, o3, o4, o5, o6, o7, o8], []) :: K) (some (.inl v)) σ = (if v = 0 then zEv true ((47, 200, [o0, o1, o2, o3, o4, o5, o6, o7, o8], []) :: K) σ else zRet true K (some (.inl 1)) σ) :=
  yT_rt (yI_if_eq zi_47_193 <| yBr (rfl) (yI_iconst zi_47_196 <| yI_goto zi_47_197 <| yI_zreturn zi_47_201 (by decide)))
theorem zj_47_261 {K : List zF} {σ : zW} {o0 : Option zV} {o1 : Option zV} {o2 : Option zV} {o3 : Option zV} {o4 : Option zV} {o5 : Option zV} {o6 : Option zV} {o7 : Option zV} {o8 : Option zV} : zEv true ((47, 261, [o0, o1, o2, o3, o4, o5, o6, o7, o8], []) :: K) σ = (zRet true K (some (.inl 0)) σ) :=
  yI_iconst zi_47_261 <| yI_zreturn zi_47_262 (by decide)
theorem zr_47_254 {K : List zF} {σ : zW} {o0 : Option zV} {o1 : Option zV} {o2 : Option zV} {o3 : Option zV} {o4 : Option zV} {o5 : Option zV} {o6 : Option zV} {o7 : Option zV} {o8 : Option zV} {v : Int} : zRet true ((47, 254, [o0, o1, o2, o3, o4, o5, o6, o7, o8], []) :: K) (some (.inl v)) σ = (if v = 0 then zEv true ((47, 261, [o0, o1, o2, o3, o4, o5, o6, o7, o8], []) :: K) σ else zRet true K (some (.inl 1)) σ) :=
  yT_rt (yI_if_eq zi_47_254 <| yBr (rfl) (yI_iconst zi_47_257 <| yI_goto zi_47_258 <| yI_zreturn zi_47_262 (by decide)))
/-- 48 Treegrab$Pattern.isBegun(LTreegrab$Tape;IZ)Z -/
theorem zi_48_0 : zraw 48 0 = some (.iload_n 2, 1) ∧ 0 + 1 = 1 := by decide +kernel
theorem zi_48_1 : zraw 48 1 = some (.invokestatic 133, 3) ∧ zmt (zinf 48).1 133 = some 136 ∧ Nat.ble 9000 136 = false ∧ zinf 136 = (9, 1, 1, 2, 1) ∧ 1 + 3 = 4 := by decide +kernel
theorem zi_48_4 : zraw 48 4 = some (.istore 4, 2) ∧ 4 + 2 = 6 := by decide +kernel
theorem zi_48_6 : zraw 48 6 = some (.iload 4, 2) ∧ 6 + 2 = 8 := by decide +kernel
theorem zi_48_8 : zraw 48 8 = some (.ifCond .ne 37, 3) ∧ ((8 : Nat) : Int) + 37 = Int.ofNat 45 ∧ 8 + 3 = 11 := by decide +kernel
theorem zi_48_11 : zraw 48 11 = some (.iload_n 2, 1) ∧ 11 + 1 = 12 := by decide +kernel
theorem zi_48_12 : zraw 48 12 = some (.bipush 42, 2) ∧ zin 128 42 = true ∧ 12 + 2 = 14 := by decide +kernel
theorem zi_48_14 : zraw 48 14 = some (.if_icmp .eq 31, 3) ∧ ((14 : Nat) : Int) + 31 = Int.ofNat 45 ∧ 14 + 3 = 17 := by decide +kernel
theorem zi_48_17 : zraw 48 17 = some (.iload_n 2, 1) ∧ 17 + 1 = 18 := by decide +kernel
theorem zi_48_18 : zraw 48 18 = some (.bipush 61, 2) ∧ zin 128 61 = true ∧ 18 + 2 = 20 := by decide +kernel
theorem zi_48_20 : zraw 48 20 = some (.if_icmp .eq 25, 3) ∧ ((20 : Nat) : Int) + 25 = Int.ofNat 45 ∧ 20 + 3 = 23 := by decide +kernel
theorem zi_48_23 : zraw 48 23 = some (.iload_n 2, 1) ∧ 23 + 1 = 24 := by decide +kernel
theorem zi_48_24 : zraw 48 24 = some (.bipush 126, 2) ∧ zin 128 126 = true ∧ 24 + 2 = 26 := by decide +kernel
theorem zi_48_26 : zraw 48 26 = some (.if_icmp .eq 19, 3) ∧ ((26 : Nat) : Int) + 19 = Int.ofNat 45 ∧ 26 + 3 = 29 := by decide +kernel
theorem zi_48_29 : zraw 48 29 = some (.iload_n 2, 1) ∧ 29 + 1 = 30 := by decide +kernel
theorem zi_48_30 : zraw 48 30 = some (.bipush 33, 2) ∧ zin 128 33 = true ∧ 30 + 2 = 32 := by decide +kernel
theorem zi_48_32 : zraw 48 32 = some (.if_icmp .eq 13, 3) ∧ ((32 : Nat) : Int) + 13 = Int.ofNat 45 ∧ 32 + 3 = 35 := by decide +kernel
theorem zi_48_35 : zraw 48 35 = some (.aload_n 1, 1) ∧ 35 + 1 = 36 := by decide +kernel
theorem zi_48_36 : zraw 48 36 = some (.iconst 1, 1) ∧ zin 128 1 = true ∧ 36 + 1 = 37 := by decide +kernel
theorem zi_48_37 : zraw 48 37 = some (.aload_n 1, 1) ∧ 37 + 1 = 38 := by decide +kernel
theorem zi_48_38 : zraw 48 38 = some (.getfield 75, 3) ∧ zft (zinf 48).1 75 = some (7, 2, 0, false) ∧ 38 + 3 = 41 := by decide +kernel
theorem zi_48_41 : zraw 48 41 = some (.invokevirtual 106, 3) ∧ zmt (zinf 48).1 106 = some 86 ∧ Nat.ble 9000 86 = false ∧ zinf 86 = (7, 3, 3, 2, 0) ∧ 41 + 3 = 44 := by decide +kernel
theorem zi_48_44 : zraw 48 44 = some (.ireturn, 1) ∧ (zinf 48).2.2.2.1 = 2 := by decide +kernel
theorem zi_48_45 : zraw 48 45 = some (.iload 4, 2) ∧ 45 + 2 = 47 := by decide +kernel
theorem zi_48_47 : zraw 48 47 = some (.ifCond .eq 22, 3) ∧ ((47 : Nat) : Int) + 22 = Int.ofNat 69 ∧ 47 + 3 = 50 := by decide +kernel
theorem zi_48_50 : zraw 48 50 = some (.aload_n 1, 1) ∧ 50 + 1 = 51 := by decide +kernel
theorem zi_48_51 : zraw 48 51 = some (.invokevirtual 146, 3) ∧ zmt (zinf 48).1 146 = some 87 ∧ Nat.ble 9000 87 = false ∧ zinf 87 = (7, 1, 2, 1, 0) ∧ 51 + 3 = 54 := by decide +kernel
theorem zi_48_54 : zraw 48 54 = some (.bipush 6, 2) ∧ zin 128 6 = true ∧ 54 + 2 = 56 := by decide +kernel
theorem zi_48_56 : zraw 48 56 = some (.if_icmp .le 13, 3) ∧ ((56 : Nat) : Int) + 13 = Int.ofNat 69 ∧ 56 + 3 = 59 := by decide +kernel
theorem zi_48_59 : zraw 48 59 = some (.aload_n 1, 1) ∧ 59 + 1 = 60 := by decide +kernel
theorem zi_48_60 : zraw 48 60 = some (.iconst 2, 1) ∧ zin 128 2 = true ∧ 60 + 1 = 61 := by decide +kernel
theorem zi_48_61 : zraw 48 61 = some (.aload_n 1, 1) ∧ 61 + 1 = 62 := by decide +kernel
theorem zi_48_62 : zraw 48 62 = some (.getfield 75, 3) ∧ zft (zinf 48).1 75 = some (7, 2, 0, false) ∧ 62 + 3 = 65 := by decide +kernel
theorem zi_48_65 : zraw 48 65 = some (.invokevirtual 106, 3) ∧ zmt (zinf 48).1 106 = some 86 ∧ Nat.ble 9000 86 = false ∧ zinf 86 = (7, 3, 3, 2, 0) ∧ 65 + 3 = 68 := by decide +kernel
theorem zi_48_68 : zraw 48 68 = some (.ireturn, 1) ∧ (zinf 48).2.2.2.1 = 2 := by decide +kernel
theorem zi_48_69 : zraw 48 69 = some (.aload_n 0, 1) ∧ 69 + 1 = 70 := by decide +kernel
theorem zi_48_70 : zraw 48 70 = some (.getfield 87, 3) ∧ zft (zinf 48).1 87 = some (4, 15, 0, false) ∧ 70 + 3 = 73 := by decide +kernel
theorem zi_48_73 : zraw 48 73 = some (.bipush 8, 2) ∧ zin 128 8 = true ∧ 73 + 2 = 75 := by decide +kernel
theorem zi_48_75 : zraw 48 75 = some (.if_icmp .ge 15, 3) ∧ ((75 : Nat) : Int) + 15 = Int.ofNat 90 ∧ 75 + 3 = 78 := by decide +kernel
theorem zi_48_78 : zraw 48 78 = some (.iload_n 3, 1) ∧ 78 + 1 = 79 := by decide +kernel
theorem zi_48_79 : zraw 48 79 = some (.ifCond .eq 15, 3) ∧ ((79 : Nat) : Int) + 15 = Int.ofNat 94 ∧ 79 + 3 = 82 := by decide +kernel
theorem zi_48_82 : zraw 48 82 = some (.aload_n 0, 1) ∧ 82 + 1 = 83 := by decide +kernel
theorem zi_48_83 : zraw 48 83 = some (.getfield 93, 3) ∧ zft (zinf 48).1 93 = some (4, 16, 0, false) ∧ 83 + 3 = 86 := by decide +kernel
theorem zi_48_86 : zraw 48 86 = some (.iconst 4, 1) ∧ zin 128 4 = true ∧ 86 + 1 = 87 := by decide +kernel
theorem zi_48_87 : zraw 48 87 = some (.if_icmp .lt 7, 3) ∧ ((87 : Nat) : Int) + 7 = Int.ofNat 94 ∧ 87 + 3 = 90 := by decide +kernel
theorem zi_48_90 : zraw 48 90 = some (.iconst 1, 1) ∧ zin 128 1 = true ∧ 90 + 1 = 91 := by decide +kernel
theorem zi_48_91 : zraw 48 91 = some (.goto 4, 3) ∧ ((91 : Nat) : Int) + 4 = Int.ofNat 95 := by decide +kernel
theorem zi_48_94 : zraw 48 94 = some (.iconst 0, 1) ∧ zin 128 0 = true ∧ 94 + 1 = 95 := by decide +kernel
theorem zi_48_95 : zraw 48 95 = some (.istore 5, 2) ∧ 95 + 2 = 97 := by decide +kernel
theorem zi_48_97 : zraw 48 97 = some (.iload 5, 2) ∧ 97 + 2 = 99 := by decide +kernel
theorem zi_48_99 : zraw 48 99 = some (.ifCond .eq 15, 3) ∧ ((99 : Nat) : Int) + 15 = Int.ofNat 114 ∧ 99 + 3 = 102 := by decide +kernel
theorem zi_48_102 : zraw 48 102 = some (.aload_n 1, 1) ∧ 102 + 1 = 103 := by decide +kernel
theorem zi_48_103 : zraw 48 103 = some (.iconst 3, 1) ∧ zin 128 3 = true ∧ 103 + 1 = 104 := by decide +kernel
theorem zi_48_104 : zraw 48 104 = some (.aload_n 1, 1) ∧ 104 + 1 = 105 := by decide +kernel
theorem zi_48_105 : zraw 48 105 = some (.getfield 75, 3) ∧ zft (zinf 48).1 75 = some (7, 2, 0, false) ∧ 105 + 3 = 108 := by decide +kernel
theorem zi_48_108 : zraw 48 108 = some (.invokevirtual 106, 3) ∧ zmt (zinf 48).1 106 = some 86 ∧ Nat.ble 9000 86 = false ∧ zinf 86 = (7, 3, 3, 2, 0) ∧ 108 + 3 = 111 := by decide +kernel
theorem zi_48_111 : zraw 48 111 = some (.ifCond .eq 7, 3) ∧ ((111 : Nat) : Int) + 7 = Int.ofNat 118 ∧ 111 + 3 = 114 := by decide +kernel
theorem zi_48_114 : zraw 48 114 = some (.iconst 1, 1) ∧ zin 128 1 = true ∧ 114 + 1 = 115 := by decide +kernel
theorem zi_48_115 : zraw 48 115 = some (.goto 4, 3) ∧ ((115 : Nat) : Int) + 4 = Int.ofNat 119 := by decide +kernel
theorem zi_48_118 : zraw 48 118 = some (.iconst 0, 1) ∧ zin 128 0 = true ∧ 118 + 1 = 119 := by decide +kernel
theorem zi_48_119 : zraw 48 119 = some (.ireturn, 1) ∧ (zinf 48).2.2.2.1 = 2 := by decide +kernel
theorem ze_48 {K : List zF} {σ : zW} {t : Nat} {x2 : Int} {x3 : Int} (hK : K.length < 60) : zEv true (zent 48 [.inr (.inr t), .inr (.inr 2), .inl x2, .inl x3] :: K) σ = (zEv true (zent 136 [.inl x2] :: (48, 4, [some (.inr (.inr t)), some (.inr (.inr 2)), some (.inl x2), some (.inl x3), none, none], []) :: K) σ) :=
  yT_en (f := (48, 0, [some (.inr (.inr t)), some (.inr (.inr 2)), some (.inl x2), some (.inl x3), none, none], [])) rfl (yI_iload_n zi_48_0 rfl <| yI_cs zi_48_1 rfl rfl hK)
theorem zr_48_4 {K : List zF} {σ : zW} {x0 : Nat} {x2 : Int} {x3 : Int} {o4 : Option zV} {o5 : Option zV} {v : Int} (hK : K.length < 60) : zRet true ((48, 4, [some (.inr (.inr x0)), some (.inr (.inr 2)), some (.inl x2), some (.inl x3), o4, o5], []) :: K) (some (.inl v)) σ = (if ¬ v = 0 then zEv true ((48, 45, [some (.inr (.inr x0)), some (.inr (.inr 2)), some (.inl x2), some (.inl x3), some (.inl v), o5], []) :: K) σ else if x2 = 42 then zEv true ((48, 45, [some (.inr (.inr x0)), some (.inr (.inr 2)), some (.inl x2), some (.inl x3), some (.inl v), o5], []) :: K) σ else if x2 = 61 then zEv true ((48, 45, [some (.inr (.inr x0)), some (.inr (.inr 2)), some (.inl x2), some (.inl x3), some (.inl v), o5], []) :: K) σ else if x2 = 126 then zEv true ((48, 45, [some (.inr (.inr x0)), some (.inr (.inr 2)), some (.inl x2), some (.inl x3), some (.inl v), o5], []) :: K) σ else if x2 = 33 then zEv true ((48, 45, [some (.inr (.inr x0)), some (.inr (.inr 2)), some (.inl x2), some (.inl x3), some (.inl v), o5], []) :: K) σ else zEv true (zent 86 [.inr (.inr 2), .inl 1, .inl (gI σ 2 2)] :: (48, 44, [some (.inr (.inr x0)), some (.inr (.inr 2)), some (.inl x2), some (.inl x3), some (.inl v), o5], []) :: K) σ) :=
  yT_rt (yI_istore (l := [some (.inr (.inr x0)), some (.inr (.inr 2)), some (.inl x2), some (.inl x3), some (.inl v), o5]) zi_48_4 rfl rfl <| yI_iload zi_48_6 rfl <| yI_if_ne zi_48_8 <| yBr (rfl) (yI_iload_n zi_48_11 rfl <| yI_bipush zi_48_12 <| yI_ic_eq zi_48_14 <| yBr (rfl) (yI_iload_n zi_48_17 rfl <| yI_bipush zi_48_18 <| yI_ic_eq zi_48_20 <| yBr (rfl) (yI_iload_n zi_48_23 rfl <| yI_bipush zi_48_24 <| yI_ic_eq zi_48_26 <| yBr (rfl) (yI_iload_n zi_48_29 rfl <| yI_bipush zi_48_30 <| yI_ic_eq zi_48_32 <| yBr (rfl) (yI_aload_n zi_48_35 rfl <| yI_iconst zi_48_36 <| yI_aload_n zi_48_37 rfl <| yI_gf_i (v := gI σ 2 2) zi_48_38 zk_2 rfl <| yI_cv zi_48_41 rfl rfl zk_2 hK))))))
theorem zj_48_45 {K : List zF} {σ : zW} {x0 : Nat} {o2 : Option zV} {x3 : Int} {x4 : Int} {o5 : Option zV} (hK : K.length < 60) : zEv true ((48, 45, [some (.inr (.inr x0)), some (.inr (.inr 2)), o2, some (.inl x3), some (.inl x4), o5], []) :: K) σ = (if x4 = 0 then zEv true ((48, 69, [some (.inr (.inr x0)), some (.inr (.inr 2)), o2, some (.inl x3), some (.inl x4), o5], []) :: K) σ else zEv true (zent 87 [.inr (.inr 2)] :: (48, 54, [some (.inr (.inr x0)), some (.inr (.inr 2)), o2, some (.inl x3), some (.inl x4), o5], []) :: K) σ) :=
  yI_iload zi_48_45 rfl <| yI_if_eq zi_48_47 <| yBr (rfl) (yI_aload_n zi_48_50 rfl <| yI_cv zi_48_51 rfl rfl zk_2 hK)
theorem zr_48_44 {K : List zF} {σ : zW} {o0 : Option zV} {o1 : Option zV} {o2 : Option zV} {o3 : Option zV} {o4 : Option zV} {o5 : Option zV} {v : Int} : zRet true ((48, 44, [o0, o1, o2, o3, o4, o5], []) :: K) (some (.inl v)) σ = ((v = 0 ∨ v = 1) ∧ zRet true K (some (.inl v)) σ) :=
  yT_rt (yI_zreturnc zi_48_44)
theorem zj_48_69 {K : List zF} {σ : zW} {x0 : Nat} {o2 : Option zV} {x3 : Int} {o4 : Option zV} {o5 : Option zV} (hK : K.length < 60) (h1 : zPn x0) : zEv true ((48, 69, [some (.inr (.inr x0)), some (.inr (.inr 2)), o2, some (.inl x3), o4, o5], []) :: K) σ = (if 8 ≤ (gI σ x0 15) then if (1 : Int) = 0 then zRet true K (some (.inl 1)) σ else zEv true (zent 86 [.inr (.inr 2), .inl 3, .inl (gI σ 2 2)] :: (48, 111, [some (.inr (.inr x0)), some (.inr (.inr 2)), o2, some (.inl x3), (zcut 0 o4), some (.inl 1)], []) :: K) σ else if x3 = 0 then zEv true ((48, 94, [some (.inr (.inr x0)), some (.inr (.inr 2)), o2, some (.inl x3), o4, o5], []) :: K) σ else if (gI σ x0 16) < 4 then zEv true ((48, 94, [some (.inr (.inr x0)), some (.inr (.inr 2)), o2, some (.inl x3), o4, o5], []) :: K) σ else if (1 : Int) = 0 then zRet true K (some (.inl 1)) σ else zEv true (zent 86 [.inr (.inr 2), .inl 3, .inl (gI σ 2 2)] :: (48, 111, [some (.inr (.inr x0)), some (.inr (.inr 2)), o2, some (.inl x3), (zcut 0 o4), some (.inl 1)], []) :: K) σ) :=
  yI_aload_n zi_48_69 rfl <| yI_gf_i (v := gI σ x0 15) zi_48_70 (zPn_k h1) rfl <| yI_bipush zi_48_73 <| yI_ic_ge zi_48_75 <| yBr (yI_iconst zi_48_90 <| yI_goto zi_48_91 <| yI_istore (l := [some (.inr (.inr x0)), some (.inr (.inr 2)), o2, some (.inl x3), (zcut 0 o4), some (.inl 1)]) zi_48_95 rfl rfl <| yI_iload zi_48_97 rfl <| yI_if_eq zi_48_99 <| yBr (yI_iconst zi_48_114 <| yI_goto zi_48_115 <| yI_zreturn zi_48_119 (by decide)) (yI_aload_n zi_48_102 rfl <| yI_iconst zi_48_103 <| yI_aload_n zi_48_104 rfl <| yI_gf_i (v := gI σ 2 2) zi_48_105 zk_2 rfl <| yI_cv zi_48_108 rfl rfl zk_2 hK)) (yI_iload_n zi_48_78 rfl <| yI_if_eq zi_48_79 <| yBr (rfl) (yI_aload_n zi_48_82 rfl <| yI_gf_i (v := gI σ x0 16) zi_48_83 (zPn_k h1) rfl <| yI_iconst zi_48_86 <| yI_ic_lt zi_48_87 <| yBr (rfl) (yI_iconst zi_48_90 <| yI_goto zi_48_91 <| yI_istore (l := [some (.inr (.inr x0)), some (.inr (.inr 2)), o2, some (.inl x3), (zcut 0 o4), some (.inl 1)]) zi_48_95 rfl rfl <| yI_iload zi_48_97 rfl <| yI_if_eq zi_48_99 <| yBr (yI_iconst zi_48_114 <| yI_goto zi_48_115 <| yI_zreturn zi_48_119 (by decide)) (yI_aload_n zi_48_102 rfl <| yI_iconst zi_48_103 <| yI_aload_n zi_48_104 rfl <| yI_gf_i (v := gI σ 2 2) zi_48_105 zk_2 rfl <| yI_cv zi_48_108 rfl rfl zk_2 hK))))
theorem zr_48_54 {K : List zF} {σ : zW} {x0 : Nat} {o2 : Option zV} {x3 : Int} {o4 : Option zV} {o5 : Option zV} {v : Int} (hK : K.length < 60) : zRet true ((48, 54, [some (.inr (.inr x0)), some (.inr (.inr 2)), o2, some (.inl x3), o4, o5], []) :: K) (some (.inl v)) σ = (if v ≤ 6 then zEv true ((48, 69, [some (.inr (.inr x0)), some (.inr (.inr 2)), o2, some (.inl x3), o4, o5], []) :: K) σ else zEv true (zent 86 [.inr (.inr 2), .inl 2, .inl (gI σ 2 2)] :: (48, 68, [some (.inr (.inr x0)), some (.inr (.inr 2)), o2, some (.inl x3), o4, o5], []) :: K) σ) :=
  yT_rt (yI_bipush zi_48_54 <| yI_ic_le zi_48_56 <| yBr (rfl) (yI_aload_n zi_48_59 rfl <| yI_iconst zi_48_60 <| yI_aload_n zi_48_61 rfl <| yI_gf_i (v := gI σ 2 2) zi_48_62 zk_2 rfl <| yI_cv zi_48_65 rfl rfl zk_2 hK))
theorem zj_48_94 {K : List zF} {σ : zW} {o0 : Option zV} {o2 : Option zV} {o3 : Option zV} {o4 : Option zV} {o5 : Option zV} (hK : K.length < 60) : zEv true ((48, 94, [o0, some (.inr (.inr 2)), o2, o3, o4, o5], []) :: K) σ = (if (0 : Int) = 0 then zRet true K (some (.inl 1)) σ else zEv true (zent 86 [.inr (.inr 2), .inl 3, .inl (gI σ 2 2)] :: (48, 111, [o0, some (.inr (.inr 2)), o2, o3, (zcut 0 o4), some (.inl 0)], []) :: K) σ) :=
  yI_iconst zi_48_94 <| yI_istore (l := [o0, some (.inr (.inr 2)), o2, o3, (zcut 0 o4), some (.inl 0)]) zi_48_95 rfl rfl <| yI_iload zi_48_97 rfl <| yI_if_eq zi_48_99 <| yBr (yI_iconst zi_48_114 <| yI_goto zi_48_115 <| yI_zreturn zi_48_119 (by decide)) (yI_aload_n zi_48_102 rfl <| yI_iconst zi_48_103 <| yI_aload_n zi_48_104 rfl <| yI_gf_i (v := gI σ 2 2) zi_48_105 zk_2 rfl <| yI_cv zi_48_108 rfl rfl zk_2 hK)
theorem zr_48_111 {K : List zF} {σ : zW} {o0 : Option zV} {o1 : Option zV} {o2 : Option zV} {o3 : Option zV} {o4 : Option zV} {o5 : Option zV} {v : Int} : zRet true ((48, 111, [o0, o1, o2, o3, o4, o5], []) :: K) (some (.inl v)) σ = (if v = 0 then zRet true K (some (.inl 0)) σ else zRet true K (some (.inl 1)) σ) :=
  yT_rt (yI_if_eq zi_48_111 <| yBr (yI_iconst zi_48_118 <| yI_zreturn zi_48_119 (by decide)) (yI_iconst zi_48_114 <| yI_goto zi_48_115 <| yI_zreturn zi_48_119 (by decide)))
theorem zr_48_68 {K : List zF} {σ : zW} {o0 : Option zV} {o1 : Option zV} {o2 : Option zV} {o3 : Option zV} {o4 : Option zV} {o5 : Option zV} {v : Int} : zRet true ((48, 68, [o0, o1, o2, o3, o4, o5], []) :: K) (some (.inl v)) σ = ((v = 0 ∨ v = 1) ∧ zRet true K (some (.inl v)) σ) :=
  yT_rt (yI_zreturnc zi_48_68)
/-- 49 Treegrab$Pattern.enterRelation(III)V -/
theorem zi_49_0 : zraw 49 0 = some (.iload_n 1, 1) ∧ 0 + 1 = 1 := by decide +kernel
theorem zi_49_1 : zraw 49 1 = some (.iconst (-1), 1) ∧ zin 128 (-1) = true ∧ 1 + 1 = 2 := by decide +kernel
theorem zi_49_2 : zraw 49 2 = some (.if_icmp .ne 7, 3) ∧ ((2 : Nat) : Int) + 7 = Int.ofNat 9 ∧ 2 + 3 = 5 := by decide +kernel
theorem zi_49_5 : zraw 49 5 = some (.iconst (-1), 1) ∧ zin 128 (-1) = true ∧ 5 + 1 = 6 := by decide +kernel
theorem zi_49_6 : zraw 49 6 = some (.goto 9, 3) ∧ ((6 : Nat) : Int) + 9 = Int.ofNat 15 := by decide +kernel
theorem zi_49_9 : zraw 49 9 = some (.aload_n 0, 1) ∧ 9 + 1 = 10 := by decide +kernel
theorem zi_49_10 : zraw 49 10 = some (.getfield 36, 3) ∧ zft (zinf 49).1 36 = some (4, 8, 3, true) ∧ 10 + 3 = 13 := by decide +kernel
theorem zi_49_13 : zraw 49 13 = some (.iload_n 1, 1) ∧ 13 + 1 = 14 := by decide +kernel
theorem zi_49_14 : zraw 49 14 = some (.iaload, 1) ∧ 14 + 1 = 15 := by decide +kernel
theorem zi_49_15 : zraw 49 15 = some (.istore 4, 2) ∧ 15 + 2 = 17 := by decide +kernel
theorem zi_49_17 : zraw 49 17 = some (.aload_n 0, 1) ∧ 17 + 1 = 18 := by decide +kernel
theorem zi_49_18 : zraw 49 18 = some (.getfield 18, 3) ∧ zft (zinf 49).1 18 = some (4, 2, 3, true) ∧ 18 + 3 = 21 := by decide +kernel
theorem zi_49_21 : zraw 49 21 = some (.aload_n 0, 1) ∧ 21 + 1 = 22 := by decide +kernel
theorem zi_49_22 : zraw 49 22 = some (.getfield 87, 3) ∧ zft (zinf 49).1 87 = some (4, 15, 0, false) ∧ 22 + 3 = 25 := by decide +kernel
theorem zi_49_25 : zraw 49 25 = some (.iload_n 1, 1) ∧ 25 + 1 = 26 := by decide +kernel
theorem zi_49_26 : zraw 49 26 = some (.iastore, 1) ∧ 26 + 1 = 27 := by decide +kernel
theorem zi_49_27 : zraw 49 27 = some (.aload_n 0, 1) ∧ 27 + 1 = 28 := by decide +kernel
theorem zi_49_28 : zraw 49 28 = some (.getfield 21, 3) ∧ zft (zinf 49).1 21 = some (4, 3, 3, true) ∧ 28 + 3 = 31 := by decide +kernel
theorem zi_49_31 : zraw 49 31 = some (.aload_n 0, 1) ∧ 31 + 1 = 32 := by decide +kernel
theorem zi_49_32 : zraw 49 32 = some (.getfield 87, 3) ∧ zft (zinf 49).1 87 = some (4, 15, 0, false) ∧ 32 + 3 = 35 := by decide +kernel
theorem zi_49_35 : zraw 49 35 = some (.iload_n 2, 1) ∧ 35 + 1 = 36 := by decide +kernel
theorem zi_49_36 : zraw 49 36 = some (.iastore, 1) ∧ 36 + 1 = 37 := by decide +kernel
theorem zi_49_37 : zraw 49 37 = some (.aload_n 0, 1) ∧ 37 + 1 = 38 := by decide +kernel
theorem zi_49_38 : zraw 49 38 = some (.getfield 24, 3) ∧ zft (zinf 49).1 24 = some (4, 4, 3, true) ∧ 38 + 3 = 41 := by decide +kernel
theorem zi_49_41 : zraw 49 41 = some (.aload_n 0, 1) ∧ 41 + 1 = 42 := by decide +kernel
theorem zi_49_42 : zraw 49 42 = some (.getfield 87, 3) ∧ zft (zinf 49).1 87 = some (4, 15, 0, false) ∧ 42 + 3 = 45 := by decide +kernel
theorem zi_49_45 : zraw 49 45 = some (.iload_n 3, 1) ∧ 45 + 1 = 46 := by decide +kernel
theorem zi_49_46 : zraw 49 46 = some (.iastore, 1) ∧ 46 + 1 = 47 := by decide +kernel
theorem zi_49_47 : zraw 49 47 = some (.aload_n 0, 1) ∧ 47 + 1 = 48 := by decide +kernel
theorem zi_49_48 : zraw 49 48 = some (.getfield 36, 3) ∧ zft (zinf 49).1 36 = some (4, 8, 3, true) ∧ 48 + 3 = 51 := by decide +kernel
theorem zi_49_51 : zraw 49 51 = some (.aload_n 0, 1) ∧ 51 + 1 = 52 := by decide +kernel
theorem zi_49_52 : zraw 49 52 = some (.getfield 87, 3) ∧ zft (zinf 49).1 87 = some (4, 15, 0, false) ∧ 52 + 3 = 55 := by decide +kernel
theorem zi_49_55 : zraw 49 55 = some (.iload 4, 2) ∧ 55 + 2 = 57 := by decide +kernel
theorem zi_49_57 : zraw 49 57 = some (.iconst (-1), 1) ∧ zin 128 (-1) = true ∧ 57 + 1 = 58 := by decide +kernel
theorem zi_49_58 : zraw 49 58 = some (.if_icmp .ne 15, 3) ∧ ((58 : Nat) : Int) + 15 = Int.ofNat 73 ∧ 58 + 3 = 61 := by decide +kernel
theorem zi_49_61 : zraw 49 61 = some (.iload_n 2, 1) ∧ 61 + 1 = 62 := by decide +kernel
theorem zi_49_62 : zraw 49 62 = some (.iconst 2, 1) ∧ zin 128 2 = true ∧ 62 + 1 = 63 := by decide +kernel
theorem zi_49_63 : zraw 49 63 = some (.if_icmp .ne 10, 3) ∧ ((63 : Nat) : Int) + 10 = Int.ofNat 73 ∧ 63 + 3 = 66 := by decide +kernel
theorem zi_49_66 : zraw 49 66 = some (.aload_n 0, 1) ∧ 66 + 1 = 67 := by decide +kernel
theorem zi_49_67 : zraw 49 67 = some (.getfield 87, 3) ∧ zft (zinf 49).1 87 = some (4, 15, 0, false) ∧ 67 + 3 = 70 := by decide +kernel
theorem zi_49_70 : zraw 49 70 = some (.goto 5, 3) ∧ ((70 : Nat) : Int) + 5 = Int.ofNat 75 := by decide +kernel
theorem zi_49_73 : zraw 49 73 = some (.iload 4, 2) ∧ 73 + 2 = 75 := by decide +kernel
theorem zi_49_75 : zraw 49 75 = some (.iastore, 1) ∧ 75 + 1 = 76 := by decide +kernel
theorem zi_49_76 : zraw 49 76 = some (.return_, 1) ∧ (zinf 49).2.2.2.1 = 0 := by decide +kernel
theorem ze_49 {K : List zF} {σ : zW} {t : Nat} {x1 : Int} {x2 : Int} {x3 : Int} (h1 : zPn t) : zEv true (zent 49 [.inr (.inr t), .inl x1, .inl x2, .inl x3] :: K) σ = (((¬ x1 = (-1)) → (0 ≤ x1 ∧ x1 < 8)) ∧ ((0 ≤ (gI σ t 15) ∧ (gI σ t 15) < 8) ∧ ((0 ≤ (gI σ t 15) ∧ (gI σ t 15) < 8) ∧ ((0 ≤ (gI σ t 15) ∧ (gI σ t 15) < 8) ∧ ((0 ≤ (gI σ t 15) ∧ (gI σ t 15) < 8) ∧ zRet true K none (sI (sI (sI (sI σ (t + 3) ((gI σ t 15).toNat) x1) (t + 4) ((gI σ t 15).toNat) x2) (t + 5) ((gI σ t 15).toNat) x3) (t + 9) ((gI σ t 15).toNat) (if ¬ (if ¬ x1 = (-1) then gI σ (t + 9) x1.toNat else (-1) : Int) = (-1) then (if ¬ x1 = (-1) then gI σ (t + 9) x1.toNat else (-1) : Int) else (if ¬ x2 = 2 then (if ¬ x1 = (-1) then gI σ (t + 9) x1.toNat else (-1) : Int) else gI σ t 15 : Int) : Int))))))) :=
  yT_en (f := (49, 0, [some (.inr (.inr t)), some (.inl x1), some (.inl x2), some (.inl x3), none], [])) rfl (yI_iload_n zi_49_0 rfl <| yI_iconst zi_49_1 <| yI_ic_ne zi_49_2 <| yMi1 (j := 15) (ls2 := [some (.inr (.inr t)), some (.inl x1), some (.inl x2), some (.inl x3), none]) (st2 := []) (x := gI σ (t + 9) x1.toNat) (y := (-1)) (σ2 := σ) (yI_aload_n zi_49_9 rfl <| yI_gf_f (v := t + 9) zi_49_10 (zPn_k h1) rfl <| yI_iload_n zi_49_13 rfl <| yI_ialoadc (v := gI σ (t + 9) x1.toNat) zi_49_14 (zPn_a9 h1) rfl <| rfl) (yI_iconst zi_49_5 <| yI_goto zi_49_6 <| rfl) <| yI_istore (l := [some (.inr (.inr t)), some (.inl x1), some (.inl x2), some (.inl x3), some (.inl (if ¬ x1 = (-1) then gI σ (t + 9) x1.toNat else (-1) : Int))]) zi_49_15 rfl rfl <| yI_aload_n zi_49_17 rfl <| yI_gf_f (v := t + 3) zi_49_18 (zPn_k h1) rfl <| yI_aload_n zi_49_21 rfl <| yI_gf_i (v := gI σ t 15) zi_49_22 (zPn_k h1) rfl <| yI_iload_n zi_49_25 rfl <| yI_iastorec zi_49_26 (zPn_a3 h1) <| yI_aload_n zi_49_27 rfl <| yI_gf_f (v := t + 4) zi_49_28 (zPn_k h1) rfl <| yI_aload_n zi_49_31 rfl <| yI_gf_i (v := gI σ t 15) zi_49_32 (zPn_k h1) (yGI_nk (by omega)) <| yI_iload_n zi_49_35 rfl <| yI_iastorec zi_49_36 (zPn_a4 h1) <| yI_aload_n zi_49_37 rfl <| yI_gf_f (v := t + 5) zi_49_38 (zPn_k h1) rfl <| yI_aload_n zi_49_41 rfl <| yI_gf_i (v := gI σ t 15) zi_49_42 (zPn_k h1) ((yGI_nk (by omega)).trans (yGI_nk (by omega))) <| yI_iload_n zi_49_45 rfl <| yI_iastorec zi_49_46 (zPn_a5 h1) <| yI_aload_n zi_49_47 rfl <| yI_gf_f (v := t + 9) zi_49_48 (zPn_k h1) rfl <| yI_aload_n zi_49_51 rfl <| yI_gf_i (v := gI σ t 15) zi_49_52 (zPn_k h1) ((yGI_nk (by omega)).trans ((yGI_nk (by omega)).trans (yGI_nk (by omega)))) <| yI_iload zi_49_55 rfl <| yI_iconst zi_49_57 <| yI_ic_ne zi_49_58 <| yMi0 (j := 75) (ls2 := [some (.inr (.inr t)), some (.inl x1), some (.inl x2), some (.inl x3), some (.inl (if ¬ x1 = (-1) then gI σ (t + 9) x1.toNat else (-1) : Int))]) (st2 := [.inl (gI σ t 15), .inr (.inr (t + 9))]) (x := (if ¬ x1 = (-1) then gI σ (t + 9) x1.toNat else (-1) : Int)) (y := (if ¬ x2 = 2 then (if ¬ x1 = (-1) then gI σ (t + 9) x1.toNat else (-1) : Int) else gI σ t 15 : Int)) (σ2 := (sI (sI (sI σ (t + 3) ((gI σ t 15).toNat) x1) (t + 4) ((gI σ t 15).toNat) x2) (t + 5) ((gI σ t 15).toNat) x3)) (yI_iload zi_49_73 rfl <| rfl) (yI_iload_n zi_49_61 rfl <| yI_iconst zi_49_62 <| yI_ic_ne zi_49_63 <| yMi0 (j := 75) (ls2 := [some (.inr (.inr t)), some (.inl x1), some (.inl x2), some (.inl x3), some (.inl (if ¬ x1 = (-1) then gI σ (t + 9) x1.toNat else (-1) : Int))]) (st2 := [.inl (gI σ t 15), .inr (.inr (t + 9))]) (x := (if ¬ x1 = (-1) then gI σ (t + 9) x1.toNat else (-1) : Int)) (y := gI σ t 15) (σ2 := (sI (sI (sI σ (t + 3) ((gI σ t 15).toNat) x1) (t + 4) ((gI σ t 15).toNat) x2) (t + 5) ((gI σ t 15).toNat) x3)) (yI_iload zi_49_73 rfl <| rfl) (yI_aload_n zi_49_66 rfl <| yI_gf_i (v := gI σ t 15) zi_49_67 (zPn_k h1) ((yGI_nk (by omega)).trans ((yGI_nk (by omega)).trans (yGI_nk (by omega)))) <| yI_goto zi_49_70 <| rfl) <| rfl) <| yI_iastorec zi_49_75 (zPn_a9 h1) <| yI_ret zi_49_76)
/-- 50 Treegrab$Pattern.enterNode(Z)V -/
theorem zi_50_0 : zraw 50 0 = some (.aload_n 0, 1) ∧ 0 + 1 = 1 := by decide +kernel
theorem zi_50_1 : zraw 50 1 = some (.getfield 15, 3) ∧ zft (zinf 50).1 15 = some (4, 1, 3, true) ∧ 1 + 3 = 4 := by decide +kernel
theorem zi_50_4 : zraw 50 4 = some (.aload_n 0, 1) ∧ 4 + 1 = 5 := by decide +kernel
theorem zi_50_5 : zraw 50 5 = some (.getfield 87, 3) ∧ zft (zinf 50).1 87 = some (4, 15, 0, false) ∧ 5 + 3 = 8 := by decide +kernel
theorem zi_50_8 : zraw 50 8 = some (.iconst (-1), 1) ∧ zin 128 (-1) = true ∧ 8 + 1 = 9 := by decide +kernel
theorem zi_50_9 : zraw 50 9 = some (.iastore, 1) ∧ 9 + 1 = 10 := by decide +kernel
theorem zi_50_10 : zraw 50 10 = some (.aload_n 0, 1) ∧ 10 + 1 = 11 := by decide +kernel
theorem zi_50_11 : zraw 50 11 = some (.getfield 27, 3) ∧ zft (zinf 50).1 27 = some (4, 5, 3, true) ∧ 11 + 3 = 14 := by decide +kernel
theorem zi_50_14 : zraw 50 14 = some (.aload_n 0, 1) ∧ 14 + 1 = 15 := by decide +kernel
theorem zi_50_15 : zraw 50 15 = some (.getfield 87, 3) ∧ zft (zinf 50).1 87 = some (4, 15, 0, false) ∧ 15 + 3 = 18 := by decide +kernel
theorem zi_50_18 : zraw 50 18 = some (.aload_n 0, 1) ∧ 18 + 1 = 19 := by decide +kernel
theorem zi_50_19 : zraw 50 19 = some (.getfield 90, 3) ∧ zft (zinf 50).1 90 = some (4, 14, 0, false) ∧ 19 + 3 = 22 := by decide +kernel
theorem zi_50_22 : zraw 50 22 = some (.iastore, 1) ∧ 22 + 1 = 23 := by decide +kernel
theorem zi_50_23 : zraw 50 23 = some (.aload_n 0, 1) ∧ 23 + 1 = 24 := by decide +kernel
theorem zi_50_24 : zraw 50 24 = some (.getfield 30, 3) ∧ zft (zinf 50).1 30 = some (4, 6, 3, true) ∧ 24 + 3 = 27 := by decide +kernel
theorem zi_50_27 : zraw 50 27 = some (.aload_n 0, 1) ∧ 27 + 1 = 28 := by decide +kernel
theorem zi_50_28 : zraw 50 28 = some (.getfield 87, 3) ∧ zft (zinf 50).1 87 = some (4, 15, 0, false) ∧ 28 + 3 = 31 := by decide +kernel
theorem zi_50_31 : zraw 50 31 = some (.aload_n 0, 1) ∧ 31 + 1 = 32 := by decide +kernel
theorem zi_50_32 : zraw 50 32 = some (.getfield 90, 3) ∧ zft (zinf 50).1 90 = some (4, 14, 0, false) ∧ 32 + 3 = 35 := by decide +kernel
theorem zi_50_35 : zraw 50 35 = some (.iastore, 1) ∧ 35 + 1 = 36 := by decide +kernel
theorem zi_50_36 : zraw 50 36 = some (.aload_n 0, 1) ∧ 36 + 1 = 37 := by decide +kernel
theorem zi_50_37 : zraw 50 37 = some (.getfield 33, 3) ∧ zft (zinf 50).1 33 = some (4, 7, 3, true) ∧ 37 + 3 = 40 := by decide +kernel
theorem zi_50_40 : zraw 50 40 = some (.aload_n 0, 1) ∧ 40 + 1 = 41 := by decide +kernel
theorem zi_50_41 : zraw 50 41 = some (.getfield 87, 3) ∧ zft (zinf 50).1 87 = some (4, 15, 0, false) ∧ 41 + 3 = 44 := by decide +kernel
theorem zi_50_44 : zraw 50 44 = some (.iconst (-1), 1) ∧ zin 128 (-1) = true ∧ 44 + 1 = 45 := by decide +kernel
theorem zi_50_45 : zraw 50 45 = some (.iastore, 1) ∧ 45 + 1 = 46 := by decide +kernel
theorem zi_50_46 : zraw 50 46 = some (.iload_n 1, 1) ∧ 46 + 1 = 47 := by decide +kernel
theorem zi_50_47 : zraw 50 47 = some (.ifCond .eq 39, 3) ∧ ((47 : Nat) : Int) + 39 = Int.ofNat 86 ∧ 47 + 3 = 50 := by decide +kernel
theorem zi_50_50 : zraw 50 50 = some (.aload_n 0, 1) ∧ 50 + 1 = 51 := by decide +kernel
theorem zi_50_51 : zraw 50 51 = some (.getfield 33, 3) ∧ zft (zinf 50).1 33 = some (4, 7, 3, true) ∧ 51 + 3 = 54 := by decide +kernel
theorem zi_50_54 : zraw 50 54 = some (.aload_n 0, 1) ∧ 54 + 1 = 55 := by decide +kernel
theorem zi_50_55 : zraw 50 55 = some (.getfield 87, 3) ∧ zft (zinf 50).1 87 = some (4, 15, 0, false) ∧ 55 + 3 = 58 := by decide +kernel
theorem zi_50_58 : zraw 50 58 = some (.aload_n 0, 1) ∧ 58 + 1 = 59 := by decide +kernel
theorem zi_50_59 : zraw 50 59 = some (.getfield 93, 3) ∧ zft (zinf 50).1 93 = some (4, 16, 0, false) ∧ 59 + 3 = 62 := by decide +kernel
theorem zi_50_62 : zraw 50 62 = some (.iastore, 1) ∧ 62 + 1 = 63 := by decide +kernel
theorem zi_50_63 : zraw 50 63 = some (.aload_n 0, 1) ∧ 63 + 1 = 64 := by decide +kernel
theorem zi_50_64 : zraw 50 64 = some (.getfield 53, 3) ∧ zft (zinf 50).1 53 = some (4, 13, 3, true) ∧ 64 + 3 = 67 := by decide +kernel
theorem zi_50_67 : zraw 50 67 = some (.aload_n 0, 1) ∧ 67 + 1 = 68 := by decide +kernel
theorem zi_50_68 : zraw 50 68 = some (.getfield 93, 3) ∧ zft (zinf 50).1 93 = some (4, 16, 0, false) ∧ 68 + 3 = 71 := by decide +kernel
theorem zi_50_71 : zraw 50 71 = some (.aload_n 0, 1) ∧ 71 + 1 = 72 := by decide +kernel
theorem zi_50_72 : zraw 50 72 = some (.getfield 87, 3) ∧ zft (zinf 50).1 87 = some (4, 15, 0, false) ∧ 72 + 3 = 75 := by decide +kernel
theorem zi_50_75 : zraw 50 75 = some (.iastore, 1) ∧ 75 + 1 = 76 := by decide +kernel
theorem zi_50_76 : zraw 50 76 = some (.aload_n 0, 1) ∧ 76 + 1 = 77 := by decide +kernel
theorem zi_50_77 : zraw 50 77 = some (.dup, 1) ∧ 77 + 1 = 78 := by decide +kernel
theorem zi_50_78 : zraw 50 78 = some (.getfield 93, 3) ∧ zft (zinf 50).1 93 = some (4, 16, 0, false) ∧ 78 + 3 = 81 := by decide +kernel
theorem zi_50_81 : zraw 50 81 = some (.iconst 1, 1) ∧ zin 128 1 = true ∧ 81 + 1 = 82 := by decide +kernel
theorem zi_50_82 : zraw 50 82 = some (.iadd, 1) ∧ 82 + 1 = 83 := by decide +kernel
theorem zi_50_83 : zraw 50 83 = some (.putfield 93, 3) ∧ zft (zinf 50).1 93 = some (4, 16, 0, false) ∧ 83 + 3 = 86 := by decide +kernel
theorem zi_50_86 : zraw 50 86 = some (.aload_n 0, 1) ∧ 86 + 1 = 87 := by decide +kernel
theorem zi_50_87 : zraw 50 87 = some (.dup, 1) ∧ 87 + 1 = 88 := by decide +kernel
theorem zi_50_88 : zraw 50 88 = some (.getfield 87, 3) ∧ zft (zinf 50).1 87 = some (4, 15, 0, false) ∧ 88 + 3 = 91 := by decide +kernel
theorem zi_50_91 : zraw 50 91 = some (.iconst 1, 1) ∧ zin 128 1 = true ∧ 91 + 1 = 92 := by decide +kernel
theorem zi_50_92 : zraw 50 92 = some (.iadd, 1) ∧ 92 + 1 = 93 := by decide +kernel
theorem zi_50_93 : zraw 50 93 = some (.putfield 87, 3) ∧ zft (zinf 50).1 87 = some (4, 15, 0, false) ∧ 93 + 3 = 96 := by decide +kernel
theorem zi_50_96 : zraw 50 96 = some (.return_, 1) ∧ (zinf 50).2.2.2.1 = 0 := by decide +kernel
theorem ze_50 {K : List zF} {σ : zW} {t : Nat} {x1 : Int} (h1 : zPn t) : zEv true (zent 50 [.inr (.inr t), .inl x1] :: K) σ = ((0 ≤ (gI σ t 15) ∧ (gI σ t 15) < 8) ∧ ((0 ≤ (gI σ t 15) ∧ (gI σ t 15) < 8) ∧ ((0 ≤ (gI σ t 15) ∧ (gI σ t 15) < 8) ∧ ((0 ≤ (gI σ t 15) ∧ (gI σ t 15) < 8) ∧ (if x1 = 0 then zEv true ((50, 86, [some (.inr (.inr t)), some (.inl x1)], []) :: K) (sI (sI (sI (sI σ (t + 2) ((gI σ t 15).toNat) (-1)) (t + 6) ((gI σ t 15).toNat) (gI σ t 14)) (t + 7) ((gI σ t 15).toNat) (gI σ t 14)) (t + 8) ((gI σ t 15).toNat) (-1)) else (0 ≤ (gI σ t 15) ∧ (gI σ t 15) < 8) ∧ ((0 ≤ (gI σ t 16) ∧ (gI σ t 16) < 4) ∧ zEv true ((50, 86, [some (.inr (.inr t)), some (.inl x1)], []) :: K) (sI (sI (sI (sI (sI (sI (sI σ (t + 2) ((gI σ t 15).toNat) (-1)) (t + 6) ((gI σ t 15).toNat) (gI σ t 14)) (t + 7) ((gI σ t 15).toNat) (gI σ t 14)) (t + 8) ((gI σ t 15).toNat) (-1)) (t + 8) ((gI σ t 15).toNat) (gI σ t 16)) (t + 14) ((gI σ t 16).toNat) (gI σ t 15)) t 16 (w32 ((gI σ t 16) + 1))))))))) :=
  yT_en (f := (50, 0, [some (.inr (.inr t)), some (.inl x1)], [])) rfl (yI_aload_n zi_50_0 rfl <| yI_gf_f (v := t + 2) zi_50_1 (zPn_k h1) rfl <| yI_aload_n zi_50_4 rfl <| yI_gf_i (v := gI σ t 15) zi_50_5 (zPn_k h1) rfl <| yI_iconst zi_50_8 <| yI_iastorec zi_50_9 (zPn_a2 h1) <| yI_aload_n zi_50_10 rfl <| yI_gf_f (v := t + 6) zi_50_11 (zPn_k h1) rfl <| yI_aload_n zi_50_14 rfl <| yI_gf_i (v := gI σ t 15) zi_50_15 (zPn_k h1) (yGI_nk (by omega)) <| yI_aload_n zi_50_18 rfl <| yI_gf_i (v := gI σ t 14) zi_50_19 (zPn_k h1) (yGI_nk (by omega)) <| yI_iastorec zi_50_22 (zPn_a6 h1) <| yI_aload_n zi_50_23 rfl <| yI_gf_f (v := t + 7) zi_50_24 (zPn_k h1) rfl <| yI_aload_n zi_50_27 rfl <| yI_gf_i (v := gI σ t 15) zi_50_28 (zPn_k h1) ((yGI_nk (by omega)).trans (yGI_nk (by omega))) <| yI_aload_n zi_50_31 rfl <| yI_gf_i (v := gI σ t 14) zi_50_32 (zPn_k h1) ((yGI_nk (by omega)).trans (yGI_nk (by omega))) <| yI_iastorec zi_50_35 (zPn_a7 h1) <| yI_aload_n zi_50_36 rfl <| yI_gf_f (v := t + 8) zi_50_37 (zPn_k h1) rfl <| yI_aload_n zi_50_40 rfl <| yI_gf_i (v := gI σ t 15) zi_50_41 (zPn_k h1) ((yGI_nk (by omega)).trans ((yGI_nk (by omega)).trans (yGI_nk (by omega)))) <| yI_iconst zi_50_44 <| yI_iastorec zi_50_45 (zPn_a8 h1) <| yI_iload_n zi_50_46 rfl <| yI_if_eq zi_50_47 <| yBr (rfl) (yI_aload_n zi_50_50 rfl <| yI_gf_f (v := t + 8) zi_50_51 (zPn_k h1) rfl <| yI_aload_n zi_50_54 rfl <| yI_gf_i (v := gI σ t 15) zi_50_55 (zPn_k h1) ((yGI_nk (by omega)).trans ((yGI_nk (by omega)).trans ((yGI_nk (by omega)).trans (yGI_nk (by omega))))) <| yI_aload_n zi_50_58 rfl <| yI_gf_i (v := gI σ t 16) zi_50_59 (zPn_k h1) ((yGI_nk (by omega)).trans ((yGI_nk (by omega)).trans ((yGI_nk (by omega)).trans (yGI_nk (by omega))))) <| yI_iastorec zi_50_62 (zPn_a8 h1) <| yI_aload_n zi_50_63 rfl <| yI_gf_f (v := t + 14) zi_50_64 (zPn_k h1) rfl <| yI_aload_n zi_50_67 rfl <| yI_gf_i (v := gI σ t 16) zi_50_68 (zPn_k h1) ((yGI_nk (by omega)).trans ((yGI_nk (by omega)).trans ((yGI_nk (by omega)).trans ((yGI_nk (by omega)).trans (yGI_nk (by omega)))))) <| yI_aload_n zi_50_71 rfl <| yI_gf_i (v := gI σ t 15) zi_50_72 (zPn_k h1) ((yGI_nk (by omega)).trans ((yGI_nk (by omega)).trans ((yGI_nk (by omega)).trans ((yGI_nk (by omega)).trans (yGI_nk (by omega)))))) <| yI_iastorec zi_50_75 (zPn_a14 h1) <| yI_aload_n zi_50_76 rfl <| yI_dup_r zi_50_77 <| yI_gf_i (v := gI σ t 16) zi_50_78 (zPn_k h1) ((yGI_nk (by omega)).trans ((yGI_nk (by omega)).trans ((yGI_nk (by omega)).trans ((yGI_nk (by omega)).trans ((yGI_nk (by omega)).trans (yGI_nk (by omega))))))) <| yI_iconst zi_50_81 <| yI_iadd zi_50_82 <| yI_pf_i zi_50_83 (zPn_k h1) <| rfl))
theorem zj_50_86 {K : List zF} {σ : zW} {x0 : Nat} {o1 : Option zV} (h1 : zPn x0) : zEv true ((50, 86, [some (.inr (.inr x0)), o1], []) :: K) σ = (zRet true K none (sI σ x0 15 (w32 ((gI σ x0 15) + 1)))) :=
  yI_aload_n zi_50_86 rfl <| yI_dup_r zi_50_87 <| yI_gf_i (v := gI σ x0 15) zi_50_88 (zPn_k h1) rfl <| yI_iconst zi_50_91 <| yI_iadd zi_50_92 <| yI_pf_i zi_50_93 (zPn_k h1) <| yI_ret zi_50_96
/-- 51 Treegrab$Pattern.readLabels(LTreegrab$Tape;I)Z -/
theorem zi_51_0 : zraw 51 0 = some (.iconst 0, 1) ∧ zin 128 0 = true ∧ 0 + 1 = 1 := by decide +kernel
theorem zi_51_1 : zraw 51 1 = some (.istore_n 3, 1) ∧ 1 + 1 = 2 := by decide +kernel
theorem zi_51_2 : zraw 51 2 = some (.iload_n 3, 1) ∧ 2 + 1 = 3 := by decide +kernel
theorem zi_51_3 : zraw 51 3 = some (.sipush 600, 3) ∧ zin 32768 600 = true ∧ 3 + 3 = 6 := by decide +kernel
theorem zi_51_6 : zraw 51 6 = some (.if_icmp .ge 86, 3) ∧ ((6 : Nat) : Int) + 86 = Int.ofNat 92 ∧ 6 + 3 = 9 := by decide +kernel
theorem zi_51_9 : zraw 51 9 = some (.aload_n 0, 1) ∧ 9 + 1 = 10 := by decide +kernel
theorem zi_51_10 : zraw 51 10 = some (.getfield 90, 3) ∧ zft (zinf 51).1 90 = some (4, 14, 0, false) ∧ 10 + 3 = 13 := by decide +kernel
theorem zi_51_13 : zraw 51 13 = some (.sipush 600, 3) ∧ zin 32768 600 = true ∧ 13 + 3 = 16 := by decide +kernel
theorem zi_51_16 : zraw 51 16 = some (.if_icmp .ge 76, 3) ∧ ((16 : Nat) : Int) + 76 = Int.ofNat 92 ∧ 16 + 3 = 19 := by decide +kernel
theorem zi_51_19 : zraw 51 19 = some (.aload_n 1, 1) ∧ 19 + 1 = 20 := by decide +kernel
theorem zi_51_20 : zraw 51 20 = some (.invokevirtual 149, 3) ∧ zmt (zinf 51).1 149 = some 89 ∧ Nat.ble 9000 89 = false ∧ zinf 89 = (7, 1, 4, 3, 0) ∧ 20 + 3 = 23 := by decide +kernel
theorem zi_51_23 : zraw 51 23 = some (.lstore 4, 2) ∧ 23 + 2 = 25 := by decide +kernel
theorem zi_51_25 : zraw 51 25 = some (.lload 4, 2) ∧ 25 + 2 = 27 := by decide +kernel
theorem zi_51_27 : zraw 51 27 = some (.lconst 0, 1) ∧ (bif Nat.beq (0 : Fin 2).val 0 then (0 : Int64) else 1) = 0 ∧ 27 + 1 = 28 := by decide +kernel
theorem zi_51_28 : zraw 51 28 = some (.lcmp, 1) ∧ 28 + 1 = 29 := by decide +kernel
theorem zi_51_29 : zraw 51 29 = some (.ifCond .ne 5, 3) ∧ ((29 : Nat) : Int) + 5 = Int.ofNat 34 ∧ 29 + 3 = 32 := by decide +kernel
theorem zi_51_32 : zraw 51 32 = some (.iconst 0, 1) ∧ zin 128 0 = true ∧ 32 + 1 = 33 := by decide +kernel
theorem zi_51_33 : zraw 51 33 = some (.ireturn, 1) ∧ (zinf 51).2.2.2.1 = 2 := by decide +kernel
theorem zi_51_34 : zraw 51 34 = some (.aload_n 0, 1) ∧ 34 + 1 = 35 := by decide +kernel
theorem zi_51_35 : zraw 51 35 = some (.getfield 46, 3) ∧ zft (zinf 51).1 46 = some (4, 11, 3, true) ∧ 35 + 3 = 38 := by decide +kernel
theorem zi_51_38 : zraw 51 38 = some (.aload_n 0, 1) ∧ 38 + 1 = 39 := by decide +kernel
theorem zi_51_39 : zraw 51 39 = some (.getfield 90, 3) ∧ zft (zinf 51).1 90 = some (4, 14, 0, false) ∧ 39 + 3 = 42 := by decide +kernel
theorem zi_51_42 : zraw 51 42 = some (.lload 4, 2) ∧ 42 + 2 = 44 := by decide +kernel
theorem zi_51_44 : zraw 51 44 = some (.lastore, 1) ∧ 44 + 1 = 45 := by decide +kernel
theorem zi_51_45 : zraw 51 45 = some (.aload_n 0, 1) ∧ 45 + 1 = 46 := by decide +kernel
theorem zi_51_46 : zraw 51 46 = some (.dup, 1) ∧ 46 + 1 = 47 := by decide +kernel
theorem zi_51_47 : zraw 51 47 = some (.getfield 90, 3) ∧ zft (zinf 51).1 90 = some (4, 14, 0, false) ∧ 47 + 3 = 50 := by decide +kernel
theorem zi_51_50 : zraw 51 50 = some (.iconst 1, 1) ∧ zin 128 1 = true ∧ 50 + 1 = 51 := by decide +kernel
theorem zi_51_51 : zraw 51 51 = some (.iadd, 1) ∧ 51 + 1 = 52 := by decide +kernel
theorem zi_51_52 : zraw 51 52 = some (.putfield 90, 3) ∧ zft (zinf 51).1 90 = some (4, 14, 0, false) ∧ 52 + 3 = 55 := by decide +kernel
theorem zi_51_55 : zraw 51 55 = some (.aload_n 0, 1) ∧ 55 + 1 = 56 := by decide +kernel
theorem zi_51_56 : zraw 51 56 = some (.getfield 30, 3) ∧ zft (zinf 51).1 30 = some (4, 6, 3, true) ∧ 56 + 3 = 59 := by decide +kernel
theorem zi_51_59 : zraw 51 59 = some (.iload_n 2, 1) ∧ 59 + 1 = 60 := by decide +kernel
theorem zi_51_60 : zraw 51 60 = some (.aload_n 0, 1) ∧ 60 + 1 = 61 := by decide +kernel
theorem zi_51_61 : zraw 51 61 = some (.getfield 90, 3) ∧ zft (zinf 51).1 90 = some (4, 14, 0, false) ∧ 61 + 3 = 64 := by decide +kernel
theorem zi_51_64 : zraw 51 64 = some (.iastore, 1) ∧ 64 + 1 = 65 := by decide +kernel
theorem zi_51_65 : zraw 51 65 = some (.aload_n 1, 1) ∧ 65 + 1 = 66 := by decide +kernel
theorem zi_51_66 : zraw 51 66 = some (.invokevirtual 68, 3) ∧ zmt (zinf 51).1 68 = some 85 ∧ Nat.ble 9000 85 = false ∧ zinf 85 = (7, 1, 1, 1, 0) ∧ 66 + 3 = 69 := by decide +kernel
theorem zi_51_69 : zraw 51 69 = some (.bipush 124, 2) ∧ zin 128 124 = true ∧ 69 + 2 = 71 := by decide +kernel
theorem zi_51_71 : zraw 51 71 = some (.if_icmp .eq 5, 3) ∧ ((71 : Nat) : Int) + 5 = Int.ofNat 76 ∧ 71 + 3 = 74 := by decide +kernel
theorem zi_51_74 : zraw 51 74 = some (.iconst 1, 1) ∧ zin 128 1 = true ∧ 74 + 1 = 75 := by decide +kernel
theorem zi_51_75 : zraw 51 75 = some (.ireturn, 1) ∧ (zinf 51).2.2.2.1 = 2 := by decide +kernel
theorem zi_51_76 : zraw 51 76 = some (.aload_n 1, 1) ∧ 76 + 1 = 77 := by decide +kernel
theorem zi_51_77 : zraw 51 77 = some (.dup, 1) ∧ 77 + 1 = 78 := by decide +kernel
theorem zi_51_78 : zraw 51 78 = some (.getfield 75, 3) ∧ zft (zinf 51).1 75 = some (7, 2, 0, false) ∧ 78 + 3 = 81 := by decide +kernel
theorem zi_51_81 : zraw 51 81 = some (.iconst 1, 1) ∧ zin 128 1 = true ∧ 81 + 1 = 82 := by decide +kernel
theorem zi_51_82 : zraw 51 82 = some (.iadd, 1) ∧ 82 + 1 = 83 := by decide +kernel
theorem zi_51_83 : zraw 51 83 = some (.putfield 75, 3) ∧ zft (zinf 51).1 75 = some (7, 2, 0, false) ∧ 83 + 3 = 86 := by decide +kernel
theorem zi_51_86 : zraw 51 86 = some (.iinc 3 1, 3) ∧ zin 32768 1 = true ∧ 86 + 3 = 89 := by decide +kernel
theorem zi_51_89 : zraw 51 89 = some (.goto (-87), 3) ∧ ((89 : Nat) : Int) + (-87) = Int.ofNat 2 := by decide +kernel
theorem zi_51_92 : zraw 51 92 = some (.iconst 0, 1) ∧ zin 128 0 = true ∧ 92 + 1 = 93 := by decide +kernel
theorem zi_51_93 : zraw 51 93 = some (.ireturn, 1) ∧ (zinf 51).2.2.2.1 = 2 := by decide +kernel
theorem ze_51 {K : List zF} {σ : zW} {t : Nat} {x2 : Int} : zEv true (zent 51 [.inr (.inr t), .inr (.inr 2), .inl x2] :: K) σ = (zEv true ((51, 2, [some (.inr (.inr t)), some (.inr (.inr 2)), some (.inl x2), some (.inl 0), none, none], []) :: K) σ) :=
  yT_en (f := (51, 0, [some (.inr (.inr t)), some (.inr (.inr 2)), some (.inl x2), none, none, none], [])) rfl (yI_iconst zi_51_0 <| yI_istore_n (l := [some (.inr (.inr t)), some (.inr (.inr 2)), some (.inl x2), some (.inl 0), none, none]) zi_51_1 rfl rfl <| rfl)
theorem zj_51_2 {K : List zF} {σ : zW} {x0 : Nat} {x2 : Int} {x3 : Int} {o4 : Option zV} {o5 : Option zV} (hK : K.length < 60) (h1 : zPn x0) : zEv true ((51, 2, [some (.inr (.inr x0)), some (.inr (.inr 2)), some (.inl x2), some (.inl x3), o4, o5], []) :: K) σ = (if 600 ≤ x3 then zRet true K (some (.inl 0)) σ else if 600 ≤ (gI σ x0 14) then zRet true K (some (.inl 0)) σ else zEv true (zent 89 [.inr (.inr 2)] :: (51, 23, [some (.inr (.inr x0)), some (.inr (.inr 2)), some (.inl x2), some (.inl x3), o4, o5], []) :: K) σ) :=
  yI_iload_n zi_51_2 rfl <| yI_sipush zi_51_3 <| yI_ic_ge zi_51_6 <| yBr (yI_iconst zi_51_92 <| yI_zreturn zi_51_93 (by decide)) (yI_aload_n zi_51_9 rfl <| yI_gf_i (v := gI σ x0 14) zi_51_10 (zPn_k h1) rfl <| yI_sipush zi_51_13 <| yI_ic_ge zi_51_16 <| yBr (yI_iconst zi_51_92 <| yI_zreturn zi_51_93 (by decide)) (yI_aload_n zi_51_19 rfl <| yI_cv zi_51_20 rfl rfl zk_2 hK))
theorem zr_51_23 {K : List zF} {σ : zW} {x0 : Nat} {x2 : Int} {x3 : Int} {o4 : Option zV} {o5 : Option zV} {v : Int64} (hK : K.length < 60) (h1 : zPn x0) : zRet true ((51, 23, [some (.inr (.inr x0)), some (.inr (.inr 2)), some (.inl x2), some (.inl x3), o4, o5], []) :: K) (some (.inr (.inl v))) σ = (if ¬ (zlc v 0) = 0 then (0 ≤ (gI σ x0 14) ∧ (gI σ x0 14) < 600) ∧ ((0 ≤ x2 ∧ x2 < 8) ∧ zEv true (zent 85 [.inr (.inr 2)] :: (51, 69, [some (.inr (.inr x0)), some (.inr (.inr 2)), some (.inl x2), some (.inl x3), some (.inr (.inl v)), none], []) :: K) (sI (sI (sL σ (x0 + 12) ((gI σ x0 14).toNat) v) x0 14 (w32 ((gI σ x0 14) + 1))) (x0 + 7) x2.toNat (w32 ((gI σ x0 14) + 1)))) else zRet true K (some (.inl 0)) σ) :=
  yT_rt (yI_lstore (l := [some (.inr (.inr x0)), some (.inr (.inr 2)), some (.inl x2), some (.inl x3), some (.inr (.inl v)), none]) zi_51_23 rfl rfl <| yI_lload zi_51_25 rfl <| yI_lconst zi_51_27 <| yI_lcmp zi_51_28 <| yI_if_ne zi_51_29 <| yBr (yI_aload_n zi_51_34 rfl <| yI_gf_f (v := x0 + 12) zi_51_35 (zPn_k h1) rfl <| yI_aload_n zi_51_38 rfl <| yI_gf_i (v := gI σ x0 14) zi_51_39 (zPn_k h1) rfl <| yI_lload zi_51_42 rfl <| yI_lastorec zi_51_44 (zPn_a12 h1) <| yI_aload_n zi_51_45 rfl <| yI_dup_r zi_51_46 <| yI_gf_i (v := gI σ x0 14) zi_51_47 (zPn_k h1) rfl <| yI_iconst zi_51_50 <| yI_iadd zi_51_51 <| yI_pf_i zi_51_52 (zPn_k h1) <| yI_aload_n zi_51_55 rfl <| yI_gf_f (v := x0 + 7) zi_51_56 (zPn_k h1) rfl <| yI_iload_n zi_51_59 rfl <| yI_aload_n zi_51_60 rfl <| yI_gf_i (v := w32 ((gI σ x0 14) + 1)) zi_51_61 (zPn_k h1) (yGI_hit) <| yI_iastorec zi_51_64 (zPn_a7 h1) <| yI_aload_n zi_51_65 rfl <| yI_cv zi_51_66 rfl rfl zk_2 hK) (yI_iconst zi_51_32 <| yI_zreturn zi_51_33 (by decide)))
theorem zr_51_69 {K : List zF} {σ : zW} {x0 : Nat} {x2 : Int} {x3 : Int} {o4 : Option zV} {o5 : Option zV} {v : Int} : zRet true ((51, 69, [some (.inr (.inr x0)), some (.inr (.inr 2)), some (.inl x2), some (.inl x3), o4, o5], []) :: K) (some (.inl v)) σ = (if v = 124 then zEv true ((51, 2, [some (.inr (.inr x0)), some (.inr (.inr 2)), some (.inl x2), some (.inl (w32 (x3 + 1))), o4, o5], []) :: K) (sI σ 2 2 (w32 ((gI σ 2 2) + 1))) else zRet true K (some (.inl 1)) σ) :=
  yT_rt (yI_bipush zi_51_69 <| yI_ic_eq zi_51_71 <| yBr (yI_aload_n zi_51_76 rfl <| yI_dup_r zi_51_77 <| yI_gf_i (v := gI σ 2 2) zi_51_78 zk_2 rfl <| yI_iconst zi_51_81 <| yI_iadd zi_51_82 <| yI_pf_i zi_51_83 zk_2 <| yI_iinc (l := [some (.inr (.inr x0)), some (.inr (.inr 2)), some (.inl x2), some (.inl (w32 (x3 + 1))), o4, o5]) zi_51_86 rfl rfl rfl <| yI_goto zi_51_89 <| rfl) (yI_iconst zi_51_74 <| yI_zreturn zi_51_75 (by decide)))
/-- 52 Treegrab$Pattern.readName(LTreegrab$Tape;)I -/
theorem zi_52_0 : zraw 52 0 = some (.aload_n 0, 1) ∧ 0 + 1 = 1 := by decide +kernel
theorem zi_52_1 : zraw 52 1 = some (.invokevirtual 68, 3) ∧ zmt (zinf 52).1 68 = some 85 ∧ Nat.ble 9000 85 = false ∧ zinf 85 = (7, 1, 1, 1, 0) ∧ 1 + 3 = 4 := by decide +kernel
theorem zi_52_4 : zraw 52 4 = some (.istore_n 1, 1) ∧ 4 + 1 = 5 := by decide +kernel
theorem zi_52_5 : zraw 52 5 = some (.iload_n 1, 1) ∧ 5 + 1 = 6 := by decide +kernel
theorem zi_52_6 : zraw 52 6 = some (.invokestatic 153, 3) ∧ zmt (zinf 52).1 153 = some 137 ∧ Nat.ble 9000 137 = false ∧ zinf 137 = (9, 1, 1, 2, 1) ∧ 6 + 3 = 9 := by decide +kernel
theorem zi_52_9 : zraw 52 9 = some (.ifCond .ne 15, 3) ∧ ((9 : Nat) : Int) + 15 = Int.ofNat 24 ∧ 9 + 3 = 12 := by decide +kernel
theorem zi_52_12 : zraw 52 12 = some (.aload_n 0, 1) ∧ 12 + 1 = 13 := by decide +kernel
theorem zi_52_13 : zraw 52 13 = some (.iconst 1, 1) ∧ zin 128 1 = true ∧ 13 + 1 = 14 := by decide +kernel
theorem zi_52_14 : zraw 52 14 = some (.aload_n 0, 1) ∧ 14 + 1 = 15 := by decide +kernel
theorem zi_52_15 : zraw 52 15 = some (.getfield 75, 3) ∧ zft (zinf 52).1 75 = some (7, 2, 0, false) ∧ 15 + 3 = 18 := by decide +kernel
theorem zi_52_18 : zraw 52 18 = some (.invokevirtual 106, 3) ∧ zmt (zinf 52).1 106 = some 86 ∧ Nat.ble 9000 86 = false ∧ zinf 86 = (7, 3, 3, 2, 0) ∧ 18 + 3 = 21 := by decide +kernel
theorem zi_52_21 : zraw 52 21 = some (.pop, 1) ∧ 21 + 1 = 22 := by decide +kernel
theorem zi_52_22 : zraw 52 22 = some (.iconst (-1), 1) ∧ zin 128 (-1) = true ∧ 22 + 1 = 23 := by decide +kernel
theorem zi_52_23 : zraw 52 23 = some (.ireturn, 1) ∧ (zinf 52).2.2.2.1 = 1 := by decide +kernel
theorem zi_52_24 : zraw 52 24 = some (.aload_n 0, 1) ∧ 24 + 1 = 25 := by decide +kernel
theorem zi_52_25 : zraw 52 25 = some (.dup, 1) ∧ 25 + 1 = 26 := by decide +kernel
theorem zi_52_26 : zraw 52 26 = some (.getfield 75, 3) ∧ zft (zinf 52).1 75 = some (7, 2, 0, false) ∧ 26 + 3 = 29 := by decide +kernel
theorem zi_52_29 : zraw 52 29 = some (.iconst 1, 1) ∧ zin 128 1 = true ∧ 29 + 1 = 30 := by decide +kernel
theorem zi_52_30 : zraw 52 30 = some (.iadd, 1) ∧ 30 + 1 = 31 := by decide +kernel
theorem zi_52_31 : zraw 52 31 = some (.putfield 75, 3) ∧ zft (zinf 52).1 75 = some (7, 2, 0, false) ∧ 31 + 3 = 34 := by decide +kernel
theorem zi_52_34 : zraw 52 34 = some (.iload_n 1, 1) ∧ 34 + 1 = 35 := by decide +kernel
theorem zi_52_35 : zraw 52 35 = some (.bipush 97, 2) ∧ zin 128 97 = true ∧ 35 + 2 = 37 := by decide +kernel
theorem zi_52_37 : zraw 52 37 = some (.isub, 1) ∧ 37 + 1 = 38 := by decide +kernel
theorem zi_52_38 : zraw 52 38 = some (.ireturn, 1) ∧ (zinf 52).2.2.2.1 = 1 := by decide +kernel
theorem ze_52 {K : List zF} {σ : zW} (hK : K.length < 60) : zEv true (zent 52 [.inr (.inr 2)] :: K) σ = (zEv true (zent 85 [.inr (.inr 2)] :: (52, 4, [some (.inr (.inr 2)), none], []) :: K) σ) :=
  yT_en (f := (52, 0, [some (.inr (.inr 2)), none], [])) rfl (yI_aload_n zi_52_0 rfl <| yI_cv zi_52_1 rfl rfl zk_2 hK)
theorem zr_52_4 {K : List zF} {σ : zW} {o1 : Option zV} {v : Int} (hK : K.length < 60) : zRet true ((52, 4, [some (.inr (.inr 2)), o1], []) :: K) (some (.inl v)) σ = (zEv true (zent 137 [.inl v] :: (52, 9, [some (.inr (.inr 2)), some (.inl v)], []) :: K) σ) :=
  yT_rt (yI_istore_n (l := [some (.inr (.inr 2)), some (.inl v)]) zi_52_4 rfl rfl <| yI_iload_n zi_52_5 rfl <| yI_cs zi_52_6 rfl rfl hK)
theorem zr_52_9 {K : List zF} {σ : zW} {x1 : Int} {v : Int} (hK : K.length < 60) : zRet true ((52, 9, [some (.inr (.inr 2)), some (.inl x1)], []) :: K) (some (.inl v)) σ = (if ¬ v = 0 then zRet true K (some (.inl (w32 (x1 - 97)))) (sI σ 2 2 (w32 ((gI σ 2 2) + 1))) else zEv true (zent 86 [.inr (.inr 2), .inl 1, .inl (gI σ 2 2)] :: (52, 21, [some (.inr (.inr 2)), some (.inl x1)], []) :: K) σ) :=
  yT_rt (yI_if_ne zi_52_9 <| yBr (yI_aload_n zi_52_24 rfl <| yI_dup_r zi_52_25 <| yI_gf_i (v := gI σ 2 2) zi_52_26 zk_2 rfl <| yI_iconst zi_52_29 <| yI_iadd zi_52_30 <| yI_pf_i zi_52_31 zk_2 <| yI_iload_n zi_52_34 rfl <| yI_bipush zi_52_35 <| yI_isub zi_52_37 <| yI_ireturn zi_52_38) (yI_aload_n zi_52_12 rfl <| yI_iconst zi_52_13 <| yI_aload_n zi_52_14 rfl <| yI_gf_i (v := gI σ 2 2) zi_52_15 zk_2 rfl <| yI_cv zi_52_18 rfl rfl zk_2 hK))
theorem zr_52_21 {K : List zF} {σ : zW} {o0 : Option zV} {o1 : Option zV} {v : Int} : zRet true ((52, 21, [o0, o1], []) :: K) (some (.inl v)) σ = (zRet true K (some (.inl (-1))) σ) :=
  yT_rt (yI_pop_i zi_52_21 <| yI_iconst zi_52_22 <| yI_ireturn zi_52_23)
/-- 53 Treegrab$Pattern.readToldName(LTreegrab$Tape;I)Z -/
theorem zi_53_0 : zraw 53 0 = some (.aload_n 1, 1) ∧ 0 + 1 = 1 := by decide +kernel
theorem zi_53_1 : zraw 53 1 = some (.invokestatic 156, 3) ∧ zmt (zinf 53).1 156 = some 52 ∧ Nat.ble 9000 52 = false ∧ zinf 52 = (4, 1, 2, 1, 1) ∧ 1 + 3 = 4 := by decide +kernel
theorem zi_53_4 : zraw 53 4 = some (.istore_n 3, 1) ∧ 4 + 1 = 5 := by decide +kernel
theorem zi_53_5 : zraw 53 5 = some (.iload_n 3, 1) ∧ 5 + 1 = 6 := by decide +kernel
theorem zi_53_6 : zraw 53 6 = some (.iconst (-1), 1) ∧ zin 128 (-1) = true ∧ 6 + 1 = 7 := by decide +kernel
theorem zi_53_7 : zraw 53 7 = some (.if_icmp .ne 5, 3) ∧ ((7 : Nat) : Int) + 5 = Int.ofNat 12 ∧ 7 + 3 = 10 := by decide +kernel
theorem zi_53_10 : zraw 53 10 = some (.iconst 0, 1) ∧ zin 128 0 = true ∧ 10 + 1 = 11 := by decide +kernel
theorem zi_53_11 : zraw 53 11 = some (.ireturn, 1) ∧ (zinf 53).2.2.2.1 = 2 := by decide +kernel
theorem zi_53_12 : zraw 53 12 = some (.aload_n 0, 1) ∧ 12 + 1 = 13 := by decide +kernel
theorem zi_53_13 : zraw 53 13 = some (.getfield 50, 3) ∧ zft (zinf 53).1 50 = some (4, 12, 3, true) ∧ 13 + 3 = 16 := by decide +kernel
theorem zi_53_16 : zraw 53 16 = some (.iload_n 3, 1) ∧ 16 + 1 = 17 := by decide +kernel
theorem zi_53_17 : zraw 53 17 = some (.iaload, 1) ∧ 17 + 1 = 18 := by decide +kernel
theorem zi_53_18 : zraw 53 18 = some (.istore 4, 2) ∧ 18 + 2 = 20 := by decide +kernel
theorem zi_53_20 : zraw 53 20 = some (.iload 4, 2) ∧ 20 + 2 = 22 := by decide +kernel
theorem zi_53_22 : zraw 53 22 = some (.iconst (-1), 1) ∧ zin 128 (-1) = true ∧ 22 + 1 = 23 := by decide +kernel
theorem zi_53_23 : zraw 53 23 = some (.if_icmp .eq 12, 3) ∧ ((23 : Nat) : Int) + 12 = Int.ofNat 35 ∧ 23 + 3 = 26 := by decide +kernel
theorem zi_53_26 : zraw 53 26 = some (.aload_n 0, 1) ∧ 26 + 1 = 27 := by decide +kernel
theorem zi_53_27 : zraw 53 27 = some (.iload 4, 2) ∧ 27 + 2 = 29 := by decide +kernel
theorem zi_53_29 : zraw 53 29 = some (.invokevirtual 102, 3) ∧ zmt (zinf 53).1 102 = some 40 ∧ Nat.ble 9000 40 = false ∧ zinf 40 = (4, 2, 2, 2, 0) ∧ 29 + 3 = 32 := by decide +kernel
theorem zi_53_32 : zraw 53 32 = some (.ifCond .ne 15, 3) ∧ ((32 : Nat) : Int) + 15 = Int.ofNat 47 ∧ 32 + 3 = 35 := by decide +kernel
theorem zi_53_35 : zraw 53 35 = some (.aload_n 1, 1) ∧ 35 + 1 = 36 := by decide +kernel
theorem zi_53_36 : zraw 53 36 = some (.iconst 4, 1) ∧ zin 128 4 = true ∧ 36 + 1 = 37 := by decide +kernel
theorem zi_53_37 : zraw 53 37 = some (.aload_n 1, 1) ∧ 37 + 1 = 38 := by decide +kernel
theorem zi_53_38 : zraw 53 38 = some (.getfield 75, 3) ∧ zft (zinf 53).1 75 = some (7, 2, 0, false) ∧ 38 + 3 = 41 := by decide +kernel
theorem zi_53_41 : zraw 53 41 = some (.iconst 1, 1) ∧ zin 128 1 = true ∧ 41 + 1 = 42 := by decide +kernel
theorem zi_53_42 : zraw 53 42 = some (.isub, 1) ∧ 42 + 1 = 43 := by decide +kernel
theorem zi_53_43 : zraw 53 43 = some (.invokevirtual 106, 3) ∧ zmt (zinf 53).1 106 = some 86 ∧ Nat.ble 9000 86 = false ∧ zinf 86 = (7, 3, 3, 2, 0) ∧ 43 + 3 = 46 := by decide +kernel
theorem zi_53_46 : zraw 53 46 = some (.ireturn, 1) ∧ (zinf 53).2.2.2.1 = 2 := by decide +kernel
theorem zi_53_47 : zraw 53 47 = some (.aload_n 0, 1) ∧ 47 + 1 = 48 := by decide +kernel
theorem zi_53_48 : zraw 53 48 = some (.getfield 15, 3) ∧ zft (zinf 53).1 15 = some (4, 1, 3, true) ∧ 48 + 3 = 51 := by decide +kernel
theorem zi_53_51 : zraw 53 51 = some (.iload_n 2, 1) ∧ 51 + 1 = 52 := by decide +kernel
theorem zi_53_52 : zraw 53 52 = some (.iload 4, 2) ∧ 52 + 2 = 54 := by decide +kernel
theorem zi_53_54 : zraw 53 54 = some (.iastore, 1) ∧ 54 + 1 = 55 := by decide +kernel
theorem zi_53_55 : zraw 53 55 = some (.iconst 1, 1) ∧ zin 128 1 = true ∧ 55 + 1 = 56 := by decide +kernel
theorem zi_53_56 : zraw 53 56 = some (.ireturn, 1) ∧ (zinf 53).2.2.2.1 = 2 := by decide +kernel
theorem ze_53 {K : List zF} {σ : zW} {t : Nat} {x2 : Int} (hK : K.length < 60) : zEv true (zent 53 [.inr (.inr t), .inr (.inr 2), .inl x2] :: K) σ = (zEv true (zent 52 [.inr (.inr 2)] :: (53, 4, [some (.inr (.inr t)), some (.inr (.inr 2)), some (.inl x2), none, none], []) :: K) σ) :=
  yT_en (f := (53, 0, [some (.inr (.inr t)), some (.inr (.inr 2)), some (.inl x2), none, none], [])) rfl (yI_aload_n zi_53_0 rfl <| yI_cs zi_53_1 rfl rfl hK)
theorem zr_53_4 {K : List zF} {σ : zW} {x0 : Nat} {x2 : Int} {o3 : Option zV} {o4 : Option zV} {v : Int} (hK : K.length < 60) (h1 : zPn x0) : zRet true ((53, 4, [some (.inr (.inr x0)), some (.inr (.inr 2)), some (.inl x2), o3, o4], []) :: K) (some (.inl v)) σ = (if ¬ v = (-1) then (0 ≤ v ∧ v < 26) ∧ (if (gI σ (x0 + 13) v.toNat) = (-1) then zEv true ((53, 35, [some (.inr (.inr x0)), some (.inr (.inr 2)), some (.inl x2), some (.inl v), some (.inl (gI σ (x0 + 13) v.toNat))], []) :: K) σ else zEv true (zent 40 [.inr (.inr x0), .inl (gI σ (x0 + 13) v.toNat)] :: (53, 32, [some (.inr (.inr x0)), some (.inr (.inr 2)), some (.inl x2), some (.inl v), some (.inl (gI σ (x0 + 13) v.toNat))], []) :: K) σ) else zRet true K (some (.inl 0)) σ) :=
  yT_rt (yI_istore_n (l := [some (.inr (.inr x0)), some (.inr (.inr 2)), some (.inl x2), some (.inl v), o4]) zi_53_4 rfl rfl <| yI_iload_n zi_53_5 rfl <| yI_iconst zi_53_6 <| yI_ic_ne zi_53_7 <| yBr (yI_aload_n zi_53_12 rfl <| yI_gf_f (v := x0 + 13) zi_53_13 (zPn_k h1) rfl <| yI_iload_n zi_53_16 rfl <| yI_ialoadc (v := gI σ (x0 + 13) v.toNat) zi_53_17 (zPn_a13 h1) rfl <| yI_istore (l := [some (.inr (.inr x0)), some (.inr (.inr 2)), some (.inl x2), some (.inl v), some (.inl (gI σ (x0 + 13) v.toNat))]) zi_53_18 rfl rfl <| yI_iload zi_53_20 rfl <| yI_iconst zi_53_22 <| yI_ic_eq zi_53_23 <| yBr (rfl) (yI_aload_n zi_53_26 rfl <| yI_iload zi_53_27 rfl <| yI_cv zi_53_29 rfl rfl (zPn_k h1) hK)) (yI_iconst zi_53_10 <| yI_zreturn zi_53_11 (by decide)))
theorem zj_53_35 {K : List zF} {σ : zW} {o0 : Option zV} {o2 : Option zV} {o3 : Option zV} {o4 : Option zV} (hK : K.length < 60) : zEv true ((53, 35, [o0, some (.inr (.inr 2)), o2, o3, o4], []) :: K) σ = (zEv true (zent 86 [.inr (.inr 2), .inl 4, .inl (w32 ((gI σ 2 2) - 1))] :: (53, 46, [o0, some (.inr (.inr 2)), o2, o3, o4], []) :: K) σ) :=
  yI_aload_n zi_53_35 rfl <| yI_iconst zi_53_36 <| yI_aload_n zi_53_37 rfl <| yI_gf_i (v := gI σ 2 2) zi_53_38 zk_2 rfl <| yI_iconst zi_53_41 <| yI_isub zi_53_42 <| yI_cv zi_53_43 rfl rfl zk_2 hK
theorem zr_53_32 {K : List zF} {σ : zW} {x0 : Nat} {x2 : Int} {o3 : Option zV} {x4 : Int} {v : Int} (h1 : zPn x0) : zRet true ((53, 32, [some (.inr (.inr x0)), some (.inr (.inr 2)), some (.inl x2), o3, some (.inl x4)], []) :: K) (some (.inl v)) σ = (if ¬ v = 0 then (0 ≤ x2 ∧ x2 < 8) ∧ zRet true K (some (.inl 1)) (sI σ (x0 + 2) x2.toNat x4) else zEv true ((53, 35, [some (.inr (.inr x0)), some (.inr (.inr 2)), some (.inl x2), o3, some (.inl x4)], []) :: K) σ) :=
  yT_rt (yI_if_ne zi_53_32 <| yBr (yI_aload_n zi_53_47 rfl <| yI_gf_f (v := x0 + 2) zi_53_48 (zPn_k h1) rfl <| yI_iload_n zi_53_51 rfl <| yI_iload zi_53_52 rfl <| yI_iastorec zi_53_54 (zPn_a2 h1) <| yI_iconst zi_53_55 <| yI_zreturn zi_53_56 (by decide)) (rfl))
theorem zr_53_46 {K : List zF} {σ : zW} {o0 : Option zV} {o1 : Option zV} {o2 : Option zV} {o3 : Option zV} {o4 : Option zV} {v : Int} : zRet true ((53, 46, [o0, o1, o2, o3, o4], []) :: K) (some (.inl v)) σ = ((v = 0 ∨ v = 1) ∧ zRet true K (some (.inl v)) σ) :=
  yT_rt (yI_zreturnc zi_53_46)
/-- 54 Treegrab$Pattern.readGivenName(LTreegrab$Tape;I)Z -/
theorem zi_54_0 : zraw 54 0 = some (.aload_n 1, 1) ∧ 0 + 1 = 1 := by decide +kernel
theorem zi_54_1 : zraw 54 1 = some (.invokevirtual 68, 3) ∧ zmt (zinf 54).1 68 = some 85 ∧ Nat.ble 9000 85 = false ∧ zinf 85 = (7, 1, 1, 1, 0) ∧ 1 + 3 = 4 := by decide +kernel
theorem zi_54_4 : zraw 54 4 = some (.bipush 61, 2) ∧ zin 128 61 = true ∧ 4 + 2 = 6 := by decide +kernel
theorem zi_54_6 : zraw 54 6 = some (.if_icmp .eq 5, 3) ∧ ((6 : Nat) : Int) + 5 = Int.ofNat 11 ∧ 6 + 3 = 9 := by decide +kernel
theorem zi_54_9 : zraw 54 9 = some (.iconst 1, 1) ∧ zin 128 1 = true ∧ 9 + 1 = 10 := by decide +kernel
theorem zi_54_10 : zraw 54 10 = some (.ireturn, 1) ∧ (zinf 54).2.2.2.1 = 2 := by decide +kernel
theorem zi_54_11 : zraw 54 11 = some (.aload_n 1, 1) ∧ 11 + 1 = 12 := by decide +kernel
theorem zi_54_12 : zraw 54 12 = some (.dup, 1) ∧ 12 + 1 = 13 := by decide +kernel
theorem zi_54_13 : zraw 54 13 = some (.getfield 75, 3) ∧ zft (zinf 54).1 75 = some (7, 2, 0, false) ∧ 13 + 3 = 16 := by decide +kernel
theorem zi_54_16 : zraw 54 16 = some (.iconst 1, 1) ∧ zin 128 1 = true ∧ 16 + 1 = 17 := by decide +kernel
theorem zi_54_17 : zraw 54 17 = some (.iadd, 1) ∧ 17 + 1 = 18 := by decide +kernel
theorem zi_54_18 : zraw 54 18 = some (.putfield 75, 3) ∧ zft (zinf 54).1 75 = some (7, 2, 0, false) ∧ 18 + 3 = 21 := by decide +kernel
theorem zi_54_21 : zraw 54 21 = some (.aload_n 1, 1) ∧ 21 + 1 = 22 := by decide +kernel
theorem zi_54_22 : zraw 54 22 = some (.invokestatic 156, 3) ∧ zmt (zinf 54).1 156 = some 52 ∧ Nat.ble 9000 52 = false ∧ zinf 52 = (4, 1, 2, 1, 1) ∧ 22 + 3 = 25 := by decide +kernel
theorem zi_54_25 : zraw 54 25 = some (.istore_n 3, 1) ∧ 25 + 1 = 26 := by decide +kernel
theorem zi_54_26 : zraw 54 26 = some (.iload_n 3, 1) ∧ 26 + 1 = 27 := by decide +kernel
theorem zi_54_27 : zraw 54 27 = some (.iconst (-1), 1) ∧ zin 128 (-1) = true ∧ 27 + 1 = 28 := by decide +kernel
theorem zi_54_28 : zraw 54 28 = some (.if_icmp .ne 5, 3) ∧ ((28 : Nat) : Int) + 5 = Int.ofNat 33 ∧ 28 + 3 = 31 := by decide +kernel
theorem zi_54_31 : zraw 54 31 = some (.iconst 0, 1) ∧ zin 128 0 = true ∧ 31 + 1 = 32 := by decide +kernel
theorem zi_54_32 : zraw 54 32 = some (.ireturn, 1) ∧ (zinf 54).2.2.2.1 = 2 := by decide +kernel
theorem zi_54_33 : zraw 54 33 = some (.aload_n 0, 1) ∧ 33 + 1 = 34 := by decide +kernel
theorem zi_54_34 : zraw 54 34 = some (.getfield 50, 3) ∧ zft (zinf 54).1 50 = some (4, 12, 3, true) ∧ 34 + 3 = 37 := by decide +kernel
theorem zi_54_37 : zraw 54 37 = some (.iload_n 3, 1) ∧ 37 + 1 = 38 := by decide +kernel
theorem zi_54_38 : zraw 54 38 = some (.iaload, 1) ∧ 38 + 1 = 39 := by decide +kernel
theorem zi_54_39 : zraw 54 39 = some (.iconst (-1), 1) ∧ zin 128 (-1) = true ∧ 39 + 1 = 40 := by decide +kernel
theorem zi_54_40 : zraw 54 40 = some (.if_icmp .eq 15, 3) ∧ ((40 : Nat) : Int) + 15 = Int.ofNat 55 ∧ 40 + 3 = 43 := by decide +kernel
theorem zi_54_43 : zraw 54 43 = some (.aload_n 1, 1) ∧ 43 + 1 = 44 := by decide +kernel
theorem zi_54_44 : zraw 54 44 = some (.iconst 4, 1) ∧ zin 128 4 = true ∧ 44 + 1 = 45 := by decide +kernel
theorem zi_54_45 : zraw 54 45 = some (.aload_n 1, 1) ∧ 45 + 1 = 46 := by decide +kernel
theorem zi_54_46 : zraw 54 46 = some (.getfield 75, 3) ∧ zft (zinf 54).1 75 = some (7, 2, 0, false) ∧ 46 + 3 = 49 := by decide +kernel
theorem zi_54_49 : zraw 54 49 = some (.iconst 1, 1) ∧ zin 128 1 = true ∧ 49 + 1 = 50 := by decide +kernel
theorem zi_54_50 : zraw 54 50 = some (.isub, 1) ∧ 50 + 1 = 51 := by decide +kernel
theorem zi_54_51 : zraw 54 51 = some (.invokevirtual 106, 3) ∧ zmt (zinf 54).1 106 = some 86 ∧ Nat.ble 9000 86 = false ∧ zinf 86 = (7, 3, 3, 2, 0) ∧ 51 + 3 = 54 := by decide +kernel
theorem zi_54_54 : zraw 54 54 = some (.ireturn, 1) ∧ (zinf 54).2.2.2.1 = 2 := by decide +kernel
theorem zi_54_55 : zraw 54 55 = some (.aload_n 0, 1) ∧ 55 + 1 = 56 := by decide +kernel
theorem zi_54_56 : zraw 54 56 = some (.getfield 50, 3) ∧ zft (zinf 54).1 50 = some (4, 12, 3, true) ∧ 56 + 3 = 59 := by decide +kernel
theorem zi_54_59 : zraw 54 59 = some (.iload_n 3, 1) ∧ 59 + 1 = 60 := by decide +kernel
theorem zi_54_60 : zraw 54 60 = some (.iload_n 2, 1) ∧ 60 + 1 = 61 := by decide +kernel
theorem zi_54_61 : zraw 54 61 = some (.iastore, 1) ∧ 61 + 1 = 62 := by decide +kernel
theorem zi_54_62 : zraw 54 62 = some (.iconst 1, 1) ∧ zin 128 1 = true ∧ 62 + 1 = 63 := by decide +kernel
theorem zi_54_63 : zraw 54 63 = some (.ireturn, 1) ∧ (zinf 54).2.2.2.1 = 2 := by decide +kernel
theorem ze_54 {K : List zF} {σ : zW} {t : Nat} {x2 : Int} (hK : K.length < 60) : zEv true (zent 54 [.inr (.inr t), .inr (.inr 2), .inl x2] :: K) σ = (zEv true (zent 85 [.inr (.inr 2)] :: (54, 4, [some (.inr (.inr t)), some (.inr (.inr 2)), some (.inl x2), none], []) :: K) σ) :=
  yT_en (f := (54, 0, [some (.inr (.inr t)), some (.inr (.inr 2)), some (.inl x2), none], [])) rfl (yI_aload_n zi_54_0 rfl <| yI_cv zi_54_1 rfl rfl zk_2 hK)
theorem zr_54_4 {K : List zF} {σ : zW} {x0 : Nat} {x2 : Int} {o3 : Option zV} {v : Int} (hK : K.length < 60) : zRet true ((54, 4, [some (.inr (.inr x0)), some (.inr (.inr 2)), some (.inl x2), o3], []) :: K) (some (.inl v)) σ = (if v = 61 then zEv true (zent 52 [.inr (.inr 2)] :: (54, 25, [some (.inr (.inr x0)), some (.inr (.inr 2)), some (.inl x2), o3], []) :: K) (sI σ 2 2 (w32 ((gI σ 2 2) + 1))) else zRet true K (some (.inl 1)) σ) :=
  yT_rt (yI_bipush zi_54_4 <| yI_ic_eq zi_54_6 <| yBr (yI_aload_n zi_54_11 rfl <| yI_dup_r zi_54_12 <| yI_gf_i (v := gI σ 2 2) zi_54_13 zk_2 rfl <| yI_iconst zi_54_16 <| yI_iadd zi_54_17 <| yI_pf_i zi_54_18 zk_2 <| yI_aload_n zi_54_21 rfl <| yI_cs zi_54_22 rfl rfl hK) (yI_iconst zi_54_9 <| yI_zreturn zi_54_10 (by decide)))
theorem zr_54_25 {K : List zF} {σ : zW} {x0 : Nat} {x2 : Int} {o3 : Option zV} {v : Int} (hK : K.length < 60) (h1 : zPn x0) : zRet true ((54, 25, [some (.inr (.inr x0)), some (.inr (.inr 2)), some (.inl x2), o3], []) :: K) (some (.inl v)) σ = (if ¬ v = (-1) then (0 ≤ v ∧ v < 26) ∧ (if (gI σ (x0 + 13) v.toNat) = (-1) then (0 ≤ v ∧ v < 26) ∧ zRet true K (some (.inl 1)) (sI σ (x0 + 13) v.toNat x2) else zEv true (zent 86 [.inr (.inr 2), .inl 4, .inl (w32 ((gI σ 2 2) - 1))] :: (54, 54, [some (.inr (.inr x0)), some (.inr (.inr 2)), some (.inl x2), some (.inl v)], []) :: K) σ) else zRet true K (some (.inl 0)) σ) :=
  yT_rt (yI_istore_n (l := [some (.inr (.inr x0)), some (.inr (.inr 2)), some (.inl x2), some (.inl v)]) zi_54_25 rfl rfl <| yI_iload_n zi_54_26 rfl <| yI_iconst zi_54_27 <| yI_ic_ne zi_54_28 <| yBr (yI_aload_n zi_54_33 rfl <| yI_gf_f (v := x0 + 13) zi_54_34 (zPn_k h1) rfl <| yI_iload_n zi_54_37 rfl <| yI_ialoadc (v := gI σ (x0 + 13) v.toNat) zi_54_38 (zPn_a13 h1) rfl <| yI_iconst zi_54_39 <| yI_ic_eq zi_54_40 <| yBr (yI_aload_n zi_54_55 rfl <| yI_gf_f (v := x0 + 13) zi_54_56 (zPn_k h1) rfl <| yI_iload_n zi_54_59 rfl <| yI_iload_n zi_54_60 rfl <| yI_iastorec zi_54_61 (zPn_a13 h1) <| yI_iconst zi_54_62 <| yI_zreturn zi_54_63 (by decide)) (yI_aload_n zi_54_43 rfl <| yI_iconst zi_54_44 <| yI_aload_n zi_54_45 rfl <| yI_gf_i (v := gI σ 2 2) zi_54_46 zk_2 rfl <| yI_iconst zi_54_49 <| yI_isub zi_54_50 <| yI_cv zi_54_51 rfl rfl zk_2 hK)) (yI_iconst zi_54_31 <| yI_zreturn zi_54_32 (by decide)))
theorem zr_54_54 {K : List zF} {σ : zW} {o0 : Option zV} {o1 : Option zV} {o2 : Option zV} {o3 : Option zV} {v : Int} : zRet true ((54, 54, [o0, o1, o2, o3], []) :: K) (some (.inl v)) σ = ((v = 0 ∨ v = 1) ∧ zRet true K (some (.inl v)) σ) :=
  yT_rt (yI_zreturnc zi_54_54)
/-- 55 Treegrab$Pattern.isFitting(IJ)Z -/
theorem zi_55_0 : zraw 55 0 = some (.aload_n 0, 1) ∧ 0 + 1 = 1 := by decide +kernel
theorem zi_55_1 : zraw 55 1 = some (.getfield 9, 3) ∧ zft (zinf 55).1 9 = some (4, 0, 3, true) ∧ 1 + 3 = 4 := by decide +kernel
theorem zi_55_4 : zraw 55 4 = some (.iload_n 1, 1) ∧ 4 + 1 = 5 := by decide +kernel
theorem zi_55_5 : zraw 55 5 = some (.iaload, 1) ∧ 5 + 1 = 6 := by decide +kernel
theorem zi_55_6 : zraw 55 6 = some (.iconst 1, 1) ∧ zin 128 1 = true ∧ 6 + 1 = 7 := by decide +kernel
theorem zi_55_7 : zraw 55 7 = some (.if_icmp .eq 15, 3) ∧ ((7 : Nat) : Int) + 15 = Int.ofNat 22 ∧ 7 + 3 = 10 := by decide +kernel
theorem zi_55_10 : zraw 55 10 = some (.aload_n 0, 1) ∧ 10 + 1 = 11 := by decide +kernel
theorem zi_55_11 : zraw 55 11 = some (.getfield 9, 3) ∧ zft (zinf 55).1 9 = some (4, 0, 3, true) ∧ 11 + 3 = 14 := by decide +kernel
theorem zi_55_14 : zraw 55 14 = some (.iload_n 1, 1) ∧ 14 + 1 = 15 := by decide +kernel
theorem zi_55_15 : zraw 55 15 = some (.iaload, 1) ∧ 15 + 1 = 16 := by decide +kernel
theorem zi_55_16 : zraw 55 16 = some (.iconst 2, 1) ∧ zin 128 2 = true ∧ 16 + 1 = 17 := by decide +kernel
theorem zi_55_17 : zraw 55 17 = some (.if_icmp .eq 5, 3) ∧ ((17 : Nat) : Int) + 5 = Int.ofNat 22 ∧ 17 + 3 = 20 := by decide +kernel
theorem zi_55_20 : zraw 55 20 = some (.iconst 1, 1) ∧ zin 128 1 = true ∧ 20 + 1 = 21 := by decide +kernel
theorem zi_55_21 : zraw 55 21 = some (.ireturn, 1) ∧ (zinf 55).2.2.2.1 = 2 := by decide +kernel
theorem zi_55_22 : zraw 55 22 = some (.aload_n 0, 1) ∧ 22 + 1 = 23 := by decide +kernel
theorem zi_55_23 : zraw 55 23 = some (.getfield 27, 3) ∧ zft (zinf 55).1 27 = some (4, 5, 3, true) ∧ 23 + 3 = 26 := by decide +kernel
theorem zi_55_26 : zraw 55 26 = some (.iload_n 1, 1) ∧ 26 + 1 = 27 := by decide +kernel
theorem zi_55_27 : zraw 55 27 = some (.iaload, 1) ∧ 27 + 1 = 28 := by decide +kernel
theorem zi_55_28 : zraw 55 28 = some (.istore 4, 2) ∧ 28 + 2 = 30 := by decide +kernel
theorem zi_55_30 : zraw 55 30 = some (.iload 4, 2) ∧ 30 + 2 = 32 := by decide +kernel
theorem zi_55_32 : zraw 55 32 = some (.aload_n 0, 1) ∧ 32 + 1 = 33 := by decide +kernel
theorem zi_55_33 : zraw 55 33 = some (.getfield 30, 3) ∧ zft (zinf 55).1 30 = some (4, 6, 3, true) ∧ 33 + 3 = 36 := by decide +kernel
theorem zi_55_36 : zraw 55 36 = some (.iload_n 1, 1) ∧ 36 + 1 = 37 := by decide +kernel
theorem zi_55_37 : zraw 55 37 = some (.iaload, 1) ∧ 37 + 1 = 38 := by decide +kernel
theorem zi_55_38 : zraw 55 38 = some (.if_icmp .ge 37, 3) ∧ ((38 : Nat) : Int) + 37 = Int.ofNat 75 ∧ 38 + 3 = 41 := by decide +kernel
theorem zi_55_41 : zraw 55 41 = some (.aload_n 0, 1) ∧ 41 + 1 = 42 := by decide +kernel
theorem zi_55_42 : zraw 55 42 = some (.getfield 46, 3) ∧ zft (zinf 55).1 46 = some (4, 11, 3, true) ∧ 42 + 3 = 45 := by decide +kernel
theorem zi_55_45 : zraw 55 45 = some (.iload 4, 2) ∧ 45 + 2 = 47 := by decide +kernel
theorem zi_55_47 : zraw 55 47 = some (.laload, 1) ∧ 47 + 1 = 48 := by decide +kernel
theorem zi_55_48 : zraw 55 48 = some (.lload_n 2, 1) ∧ 48 + 1 = 49 := by decide +kernel
theorem zi_55_49 : zraw 55 49 = some (.lcmp, 1) ∧ 49 + 1 = 50 := by decide +kernel
theorem zi_55_50 : zraw 55 50 = some (.ifCond .ne 19, 3) ∧ ((50 : Nat) : Int) + 19 = Int.ofNat 69 ∧ 50 + 3 = 53 := by decide +kernel
theorem zi_55_53 : zraw 55 53 = some (.aload_n 0, 1) ∧ 53 + 1 = 54 := by decide +kernel
theorem zi_55_54 : zraw 55 54 = some (.getfield 9, 3) ∧ zft (zinf 55).1 9 = some (4, 0, 3, true) ∧ 54 + 3 = 57 := by decide +kernel
theorem zi_55_57 : zraw 55 57 = some (.iload_n 1, 1) ∧ 57 + 1 = 58 := by decide +kernel
theorem zi_55_58 : zraw 55 58 = some (.iaload, 1) ∧ 58 + 1 = 59 := by decide +kernel
theorem zi_55_59 : zraw 55 59 = some (.iconst 1, 1) ∧ zin 128 1 = true ∧ 59 + 1 = 60 := by decide +kernel
theorem zi_55_60 : zraw 55 60 = some (.if_icmp .ne 7, 3) ∧ ((60 : Nat) : Int) + 7 = Int.ofNat 67 ∧ 60 + 3 = 63 := by decide +kernel
theorem zi_55_63 : zraw 55 63 = some (.iconst 1, 1) ∧ zin 128 1 = true ∧ 63 + 1 = 64 := by decide +kernel
theorem zi_55_64 : zraw 55 64 = some (.goto 4, 3) ∧ ((64 : Nat) : Int) + 4 = Int.ofNat 68 := by decide +kernel
theorem zi_55_67 : zraw 55 67 = some (.iconst 0, 1) ∧ zin 128 0 = true ∧ 67 + 1 = 68 := by decide +kernel
theorem zi_55_68 : zraw 55 68 = some (.ireturn, 1) ∧ (zinf 55).2.2.2.1 = 2 := by decide +kernel
theorem zi_55_69 : zraw 55 69 = some (.iinc 4 1, 3) ∧ zin 32768 1 = true ∧ 69 + 3 = 72 := by decide +kernel
theorem zi_55_72 : zraw 55 72 = some (.goto (-42), 3) ∧ ((72 : Nat) : Int) + (-42) = Int.ofNat 30 := by decide +kernel
theorem zi_55_75 : zraw 55 75 = some (.aload_n 0, 1) ∧ 75 + 1 = 76 := by decide +kernel
theorem zi_55_76 : zraw 55 76 = some (.getfield 9, 3) ∧ zft (zinf 55).1 9 = some (4, 0, 3, true) ∧ 76 + 3 = 79 := by decide +kernel
theorem zi_55_79 : zraw 55 79 = some (.iload_n 1, 1) ∧ 79 + 1 = 80 := by decide +kernel
theorem zi_55_80 : zraw 55 80 = some (.iaload, 1) ∧ 80 + 1 = 81 := by decide +kernel
theorem zi_55_81 : zraw 55 81 = some (.iconst 2, 1) ∧ zin 128 2 = true ∧ 81 + 1 = 82 := by decide +kernel
theorem zi_55_82 : zraw 55 82 = some (.if_icmp .ne 7, 3) ∧ ((82 : Nat) : Int) + 7 = Int.ofNat 89 ∧ 82 + 3 = 85 := by decide +kernel
theorem zi_55_85 : zraw 55 85 = some (.iconst 1, 1) ∧ zin 128 1 = true ∧ 85 + 1 = 86 := by decide +kernel
theorem zi_55_86 : zraw 55 86 = some (.goto 4, 3) ∧ ((86 : Nat) : Int) + 4 = Int.ofNat 90 := by decide +kernel
theorem zi_55_89 : zraw 55 89 = some (.iconst 0, 1) ∧ zin 128 0 = true ∧ 89 + 1 = 90 := by decide +kernel
theorem zi_55_90 : zraw 55 90 = some (.ireturn, 1) ∧ (zinf 55).2.2.2.1 = 2 := by decide +kernel
theorem ze_55 {K : List zF} {σ : zW} {t : Nat} {x1 : Int} {x2 : Int64} (h1 : zPn t) : zEv true (zent 55 [.inr (.inr t), .inl x1, .inr (.inl x2)] :: K) σ = ((0 ≤ x1 ∧ x1 < 8) ∧ (if (gI σ (t + 1) x1.toNat) = 1 then zEv true ((55, 22, [some (.inr (.inr t)), some (.inl x1), some (.inr (.inl x2)), none, none], []) :: K) σ else (0 ≤ x1 ∧ x1 < 8) ∧ (if (gI σ (t + 1) x1.toNat) = 2 then zEv true ((55, 22, [some (.inr (.inr t)), some (.inl x1), some (.inr (.inl x2)), none, none], []) :: K) σ else zRet true K (some (.inl 1)) σ))) :=
  yT_en (f := (55, 0, [some (.inr (.inr t)), some (.inl x1), some (.inr (.inl x2)), none, none], [])) rfl (yI_aload_n zi_55_0 rfl <| yI_gf_f (v := t + 1) zi_55_1 (zPn_k h1) rfl <| yI_iload_n zi_55_4 rfl <| yI_ialoadc (v := gI σ (t + 1) x1.toNat) zi_55_5 (zPn_a1 h1) rfl <| yI_iconst zi_55_6 <| yI_ic_eq zi_55_7 <| yBr (rfl) (yI_aload_n zi_55_10 rfl <| yI_gf_f (v := t + 1) zi_55_11 (zPn_k h1) rfl <| yI_iload_n zi_55_14 rfl <| yI_ialoadc (v := gI σ (t + 1) x1.toNat) zi_55_15 (zPn_a1 h1) rfl <| yI_iconst zi_55_16 <| yI_ic_eq zi_55_17 <| yBr (rfl) (yI_iconst zi_55_20 <| yI_zreturn zi_55_21 (by decide))))
theorem zj_55_22 {K : List zF} {σ : zW} {x0 : Nat} {x1 : Int} {x2 : Int64} {o4 : Option zV} (h1 : zPn x0) : zEv true ((55, 22, [some (.inr (.inr x0)), some (.inl x1), some (.inr (.inl x2)), none, o4], []) :: K) σ = ((0 ≤ x1 ∧ x1 < 8) ∧ zEv true ((55, 30, [some (.inr (.inr x0)), some (.inl x1), some (.inr (.inl x2)), none, some (.inl (gI σ (x0 + 6) x1.toNat))], []) :: K) σ) :=
  yI_aload_n zi_55_22 rfl <| yI_gf_f (v := x0 + 6) zi_55_23 (zPn_k h1) rfl <| yI_iload_n zi_55_26 rfl <| yI_ialoadc (v := gI σ (x0 + 6) x1.toNat) zi_55_27 (zPn_a6 h1) rfl <| yI_istore (l := [some (.inr (.inr x0)), some (.inl x1), some (.inr (.inl x2)), none, some (.inl (gI σ (x0 + 6) x1.toNat))]) zi_55_28 rfl rfl <| rfl
theorem zj_55_30 {K : List zF} {σ : zW} {x0 : Nat} {x1 : Int} {x2 : Int64} {x4 : Int} (h1 : zPn x0) : zEv true ((55, 30, [some (.inr (.inr x0)), some (.inl x1), some (.inr (.inl x2)), none, some (.inl x4)], []) :: K) σ = ((0 ≤ x1 ∧ x1 < 8) ∧ (if (gI σ (x0 + 7) x1.toNat) ≤ x4 then (0 ≤ x1 ∧ x1 < 8) ∧ (if ¬ (gI σ (x0 + 1) x1.toNat) = 2 then zRet true K (some (.inl 0)) σ else zRet true K (some (.inl 1)) σ) else (0 ≤ x4 ∧ x4 < 600) ∧ (if ¬ (zlc (gL σ (x0 + 12) x4.toNat) x2) = 0 then zEv true ((55, 30, [some (.inr (.inr x0)), some (.inl x1), some (.inr (.inl x2)), none, some (.inl (w32 (x4 + 1)))], []) :: K) σ else (0 ≤ x1 ∧ x1 < 8) ∧ (if ¬ (gI σ (x0 + 1) x1.toNat) = 1 then zRet true K (some (.inl 0)) σ else zRet true K (some (.inl 1)) σ)))) :=
  yI_iload zi_55_30 rfl <| yI_aload_n zi_55_32 rfl <| yI_gf_f (v := x0 + 7) zi_55_33 (zPn_k h1) rfl <| yI_iload_n zi_55_36 rfl <| yI_ialoadc (v := gI σ (x0 + 7) x1.toNat) zi_55_37 (zPn_a7 h1) rfl <| yI_ic_ge zi_55_38 <| yBr (yI_aload_n zi_55_75 rfl <| yI_gf_f (v := x0 + 1) zi_55_76 (zPn_k h1) rfl <| yI_iload_n zi_55_79 rfl <| yI_ialoadc (v := gI σ (x0 + 1) x1.toNat) zi_55_80 (zPn_a1 h1) rfl <| yI_iconst zi_55_81 <| yI_ic_ne zi_55_82 <| yBr (yI_iconst zi_55_89 <| yI_zreturn zi_55_90 (by decide)) (yI_iconst zi_55_85 <| yI_goto zi_55_86 <| yI_zreturn zi_55_90 (by decide))) (yI_aload_n zi_55_41 rfl <| yI_gf_f (v := x0 + 12) zi_55_42 (zPn_k h1) rfl <| yI_iload zi_55_45 rfl <| yI_laloadc (v := gL σ (x0 + 12) x4.toNat) zi_55_47 (zPn_a12 h1) rfl <| yI_lload_n zi_55_48 rfl <| yI_lcmp zi_55_49 <| yI_if_ne zi_55_50 <| yBr (yI_iinc (l := [some (.inr (.inr x0)), some (.inl x1), some (.inr (.inl x2)), none, some (.inl (w32 (x4 + 1)))]) zi_55_69 rfl rfl rfl <| yI_goto zi_55_72 <| rfl) (yI_aload_n zi_55_53 rfl <| yI_gf_f (v := x0 + 1) zi_55_54 (zPn_k h1) rfl <| yI_iload_n zi_55_57 rfl <| yI_ialoadc (v := gI σ (x0 + 1) x1.toNat) zi_55_58 (zPn_a1 h1) rfl <| yI_iconst zi_55_59 <| yI_ic_ne zi_55_60 <| yBr (yI_iconst zi_55_67 <| yI_zreturn zi_55_68 (by decide)) (yI_iconst zi_55_63 <| yI_goto zi_55_64 <| yI_zreturn zi_55_68 (by decide))))
/-- 57 Treegrab$Script.needsX(I)Z -/
theorem zi_57_0 : zraw 57 0 = some (.aload_n 0, 1) ∧ 0 + 1 = 1 := by decide +kernel
theorem zi_57_1 : zraw 57 1 = some (.getfield 9, 3) ∧ zft (zinf 57).1 9 = some (5, 0, 3, true) ∧ 1 + 3 = 4 := by decide +kernel
theorem zi_57_4 : zraw 57 4 = some (.iload_n 1, 1) ∧ 4 + 1 = 5 := by decide +kernel
theorem zi_57_5 : zraw 57 5 = some (.iaload, 1) ∧ 5 + 1 = 6 := by decide +kernel
theorem zi_57_6 : zraw 57 6 = some (.iconst 4, 1) ∧ zin 128 4 = true ∧ 6 + 1 = 7 := by decide +kernel
theorem zi_57_7 : zraw 57 7 = some (.if_icmp .eq 7, 3) ∧ ((7 : Nat) : Int) + 7 = Int.ofNat 14 ∧ 7 + 3 = 10 := by decide +kernel
theorem zi_57_10 : zraw 57 10 = some (.iconst 1, 1) ∧ zin 128 1 = true ∧ 10 + 1 = 11 := by decide +kernel
theorem zi_57_11 : zraw 57 11 = some (.goto 4, 3) ∧ ((11 : Nat) : Int) + 4 = Int.ofNat 15 := by decide +kernel
theorem zi_57_14 : zraw 57 14 = some (.iconst 0, 1) ∧ zin 128 0 = true ∧ 14 + 1 = 15 := by decide +kernel
theorem zi_57_15 : zraw 57 15 = some (.ireturn, 1) ∧ (zinf 57).2.2.2.1 = 2 := by decide +kernel
theorem ze_57 {K : List zF} {σ : zW} {t : Nat} {x1 : Int} (h1 : zSc t) : zEv true (zent 57 [.inr (.inr t), .inl x1] :: K) σ = ((0 ≤ x1 ∧ x1 < 8) ∧ (if (gI σ (t + 1) x1.toNat) = 4 then zRet true K (some (.inl 0)) σ else zRet true K (some (.inl 1)) σ)) :=
  yT_en (f := (57, 0, [some (.inr (.inr t)), some (.inl x1)], [])) rfl (yI_aload_n zi_57_0 rfl <| yI_gf_f (v := t + 1) zi_57_1 (zSc_k h1) rfl <| yI_iload_n zi_57_4 rfl <| yI_ialoadc (v := gI σ (t + 1) x1.toNat) zi_57_5 (zSc_a1 h1) rfl <| yI_iconst zi_57_6 <| yI_ic_eq zi_57_7 <| yBr (yI_iconst zi_57_14 <| yI_zreturn zi_57_15 (by decide)) (yI_iconst zi_57_10 <| yI_goto zi_57_11 <| yI_zreturn zi_57_15 (by decide)))
/-- 58 Treegrab$Script.needsY(I)Z -/
theorem zi_58_0 : zraw 58 0 = some (.aload_n 0, 1) ∧ 0 + 1 = 1 := by decide +kernel
theorem zi_58_1 : zraw 58 1 = some (.getfield 9, 3) ∧ zft (zinf 58).1 9 = some (5, 0, 3, true) ∧ 1 + 3 = 4 := by decide +kernel
theorem zi_58_4 : zraw 58 4 = some (.iload_n 1, 1) ∧ 4 + 1 = 5 := by decide +kernel
theorem zi_58_5 : zraw 58 5 = some (.iaload, 1) ∧ 5 + 1 = 6 := by decide +kernel
theorem zi_58_6 : zraw 58 6 = some (.iconst 4, 1) ∧ zin 128 4 = true ∧ 6 + 1 = 7 := by decide +kernel
theorem zi_58_7 : zraw 58 7 = some (.if_icmp .eq 13, 3) ∧ ((7 : Nat) : Int) + 13 = Int.ofNat 20 ∧ 7 + 3 = 10 := by decide +kernel
theorem zi_58_10 : zraw 58 10 = some (.aload_n 0, 1) ∧ 10 + 1 = 11 := by decide +kernel
theorem zi_58_11 : zraw 58 11 = some (.getfield 9, 3) ∧ zft (zinf 58).1 9 = some (5, 0, 3, true) ∧ 11 + 3 = 14 := by decide +kernel
theorem zi_58_14 : zraw 58 14 = some (.iload_n 1, 1) ∧ 14 + 1 = 15 := by decide +kernel
theorem zi_58_15 : zraw 58 15 = some (.iaload, 1) ∧ 15 + 1 = 16 := by decide +kernel
theorem zi_58_16 : zraw 58 16 = some (.iconst 5, 1) ∧ zin 128 5 = true ∧ 16 + 1 = 17 := by decide +kernel
theorem zi_58_17 : zraw 58 17 = some (.if_icmp .ne 7, 3) ∧ ((17 : Nat) : Int) + 7 = Int.ofNat 24 ∧ 17 + 3 = 20 := by decide +kernel
theorem zi_58_20 : zraw 58 20 = some (.iconst 1, 1) ∧ zin 128 1 = true ∧ 20 + 1 = 21 := by decide +kernel
theorem zi_58_21 : zraw 58 21 = some (.goto 4, 3) ∧ ((21 : Nat) : Int) + 4 = Int.ofNat 25 := by decide +kernel
theorem zi_58_24 : zraw 58 24 = some (.iconst 0, 1) ∧ zin 128 0 = true ∧ 24 + 1 = 25 := by decide +kernel
theorem zi_58_25 : zraw 58 25 = some (.ireturn, 1) ∧ (zinf 58).2.2.2.1 = 2 := by decide +kernel
theorem ze_58 {K : List zF} {σ : zW} {t : Nat} {x1 : Int} (h1 : zSc t) : zEv true (zent 58 [.inr (.inr t), .inl x1] :: K) σ = ((0 ≤ x1 ∧ x1 < 8) ∧ (if (gI σ (t + 1) x1.toNat) = 4 then zRet true K (some (.inl 1)) σ else (0 ≤ x1 ∧ x1 < 8) ∧ (if ¬ (gI σ (t + 1) x1.toNat) = 5 then zRet true K (some (.inl 0)) σ else zRet true K (some (.inl 1)) σ))) :=
  yT_en (f := (58, 0, [some (.inr (.inr t)), some (.inl x1)], [])) rfl (yI_aload_n zi_58_0 rfl <| yI_gf_f (v := t + 1) zi_58_1 (zSc_k h1) rfl <| yI_iload_n zi_58_4 rfl <| yI_ialoadc (v := gI σ (t + 1) x1.toNat) zi_58_5 (zSc_a1 h1) rfl <| yI_iconst zi_58_6 <| yI_ic_eq zi_58_7 <| yBr (yI_iconst zi_58_20 <| yI_goto zi_58_21 <| yI_zreturn zi_58_25 (by decide)) (yI_aload_n zi_58_10 rfl <| yI_gf_f (v := t + 1) zi_58_11 (zSc_k h1) rfl <| yI_iload_n zi_58_14 rfl <| yI_ialoadc (v := gI σ (t + 1) x1.toNat) zi_58_15 (zSc_a1 h1) rfl <| yI_iconst zi_58_16 <| yI_ic_ne zi_58_17 <| yBr (yI_iconst zi_58_24 <| yI_zreturn zi_58_25 (by decide)) (yI_iconst zi_58_20 <| yI_goto zi_58_21 <| yI_zreturn zi_58_25 (by decide))))
/-- 59 Treegrab$Script.read(LTreegrab$Tape;)Z -/
theorem zi_59_0 : zraw 59 0 = some (.aload_n 1, 1) ∧ 0 + 1 = 1 := by decide +kernel
theorem zi_59_1 : zraw 59 1 = some (.invokevirtual 28, 3) ∧ zmt (zinf 59).1 28 = some 83 ∧ Nat.ble 9000 83 = false ∧ zinf 83 = (7, 1, 1, 0, 0) ∧ 1 + 3 = 4 := by decide +kernel
theorem zi_59_4 : zraw 59 4 = some (.aload_n 0, 1) ∧ 4 + 1 = 5 := by decide +kernel
theorem zi_59_5 : zraw 59 5 = some (.iconst 0, 1) ∧ zin 128 0 = true ∧ 5 + 1 = 6 := by decide +kernel
theorem zi_59_6 : zraw 59 6 = some (.putfield 33, 3) ∧ zft (zinf 59).1 33 = some (5, 5, 0, false) ∧ 6 + 3 = 9 := by decide +kernel
theorem zi_59_9 : zraw 59 9 = some (.aload_n 1, 1) ∧ 9 + 1 = 10 := by decide +kernel
theorem zi_59_10 : zraw 59 10 = some (.invokevirtual 37, 3) ∧ zmt (zinf 59).1 37 = some 85 ∧ Nat.ble 9000 85 = false ∧ zinf 85 = (7, 1, 1, 1, 0) ∧ 10 + 3 = 13 := by decide +kernel
theorem zi_59_13 : zraw 59 13 = some (.iconst (-1), 1) ∧ zin 128 (-1) = true ∧ 13 + 1 = 14 := by decide +kernel
theorem zi_59_14 : zraw 59 14 = some (.if_icmp .ne 5, 3) ∧ ((14 : Nat) : Int) + 5 = Int.ofNat 19 ∧ 14 + 3 = 17 := by decide +kernel
theorem zi_59_17 : zraw 59 17 = some (.iconst 1, 1) ∧ zin 128 1 = true ∧ 17 + 1 = 18 := by decide +kernel
theorem zi_59_18 : zraw 59 18 = some (.ireturn, 1) ∧ (zinf 59).2.2.2.1 = 2 := by decide +kernel
theorem zi_59_19 : zraw 59 19 = some (.iconst 0, 1) ∧ zin 128 0 = true ∧ 19 + 1 = 20 := by decide +kernel
theorem zi_59_20 : zraw 59 20 = some (.istore_n 2, 1) ∧ 20 + 1 = 21 := by decide +kernel
theorem zi_59_21 : zraw 59 21 = some (.iload_n 2, 1) ∧ 21 + 1 = 22 := by decide +kernel
theorem zi_59_22 : zraw 59 22 = some (.bipush 8, 2) ∧ zin 128 8 = true ∧ 22 + 2 = 24 := by decide +kernel
theorem zi_59_24 : zraw 59 24 = some (.if_icmp .gt 57, 3) ∧ ((24 : Nat) : Int) + 57 = Int.ofNat 81 ∧ 24 + 3 = 27 := by decide +kernel
theorem zi_59_27 : zraw 59 27 = some (.aload_n 0, 1) ∧ 27 + 1 = 28 := by decide +kernel
theorem zi_59_28 : zraw 59 28 = some (.aload_n 1, 1) ∧ 28 + 1 = 29 := by decide +kernel
theorem zi_59_29 : zraw 59 29 = some (.invokevirtual 41, 3) ∧ zmt (zinf 59).1 41 = some 60 ∧ Nat.ble 9000 60 = false ∧ zinf 60 = (5, 2, 4, 2, 0) ∧ 29 + 3 = 32 := by decide +kernel
theorem zi_59_32 : zraw 59 32 = some (.ifCond .ne 5, 3) ∧ ((32 : Nat) : Int) + 5 = Int.ofNat 37 ∧ 32 + 3 = 35 := by decide +kernel
theorem zi_59_35 : zraw 59 35 = some (.iconst 0, 1) ∧ zin 128 0 = true ∧ 35 + 1 = 36 := by decide +kernel
theorem zi_59_36 : zraw 59 36 = some (.ireturn, 1) ∧ (zinf 59).2.2.2.1 = 2 := by decide +kernel
theorem zi_59_37 : zraw 59 37 = some (.aload_n 1, 1) ∧ 37 + 1 = 38 := by decide +kernel
theorem zi_59_38 : zraw 59 38 = some (.invokevirtual 37, 3) ∧ zmt (zinf 59).1 37 = some 85 ∧ Nat.ble 9000 85 = false ∧ zinf 85 = (7, 1, 1, 1, 0) ∧ 38 + 3 = 41 := by decide +kernel
theorem zi_59_41 : zraw 59 41 = some (.istore_n 3, 1) ∧ 41 + 1 = 42 := by decide +kernel
theorem zi_59_42 : zraw 59 42 = some (.iload_n 3, 1) ∧ 42 + 1 = 43 := by decide +kernel
theorem zi_59_43 : zraw 59 43 = some (.iconst (-1), 1) ∧ zin 128 (-1) = true ∧ 43 + 1 = 44 := by decide +kernel
theorem zi_59_44 : zraw 59 44 = some (.if_icmp .ne 5, 3) ∧ ((44 : Nat) : Int) + 5 = Int.ofNat 49 ∧ 44 + 3 = 47 := by decide +kernel
theorem zi_59_47 : zraw 59 47 = some (.iconst 1, 1) ∧ zin 128 1 = true ∧ 47 + 1 = 48 := by decide +kernel
theorem zi_59_48 : zraw 59 48 = some (.ireturn, 1) ∧ (zinf 59).2.2.2.1 = 2 := by decide +kernel
theorem zi_59_49 : zraw 59 49 = some (.iload_n 3, 1) ∧ 49 + 1 = 50 := by decide +kernel
theorem zi_59_50 : zraw 59 50 = some (.bipush 59, 2) ∧ zin 128 59 = true ∧ 50 + 2 = 52 := by decide +kernel
theorem zi_59_52 : zraw 59 52 = some (.if_icmp .eq 13, 3) ∧ ((52 : Nat) : Int) + 13 = Int.ofNat 65 ∧ 52 + 3 = 55 := by decide +kernel
theorem zi_59_55 : zraw 59 55 = some (.aload_n 1, 1) ∧ 55 + 1 = 56 := by decide +kernel
theorem zi_59_56 : zraw 59 56 = some (.iconst 1, 1) ∧ zin 128 1 = true ∧ 56 + 1 = 57 := by decide +kernel
theorem zi_59_57 : zraw 59 57 = some (.aload_n 1, 1) ∧ 57 + 1 = 58 := by decide +kernel
theorem zi_59_58 : zraw 59 58 = some (.getfield 45, 3) ∧ zft (zinf 59).1 45 = some (7, 2, 0, false) ∧ 58 + 3 = 61 := by decide +kernel
theorem zi_59_61 : zraw 59 61 = some (.invokevirtual 48, 3) ∧ zmt (zinf 59).1 48 = some 86 ∧ Nat.ble 9000 86 = false ∧ zinf 86 = (7, 3, 3, 2, 0) ∧ 61 + 3 = 64 := by decide +kernel
theorem zi_59_64 : zraw 59 64 = some (.ireturn, 1) ∧ (zinf 59).2.2.2.1 = 2 := by decide +kernel
theorem zi_59_65 : zraw 59 65 = some (.aload_n 1, 1) ∧ 65 + 1 = 66 := by decide +kernel
theorem zi_59_66 : zraw 59 66 = some (.dup, 1) ∧ 66 + 1 = 67 := by decide +kernel
theorem zi_59_67 : zraw 59 67 = some (.getfield 45, 3) ∧ zft (zinf 59).1 45 = some (7, 2, 0, false) ∧ 67 + 3 = 70 := by decide +kernel
theorem zi_59_70 : zraw 59 70 = some (.iconst 1, 1) ∧ zin 128 1 = true ∧ 70 + 1 = 71 := by decide +kernel
theorem zi_59_71 : zraw 59 71 = some (.iadd, 1) ∧ 71 + 1 = 72 := by decide +kernel
theorem zi_59_72 : zraw 59 72 = some (.putfield 45, 3) ∧ zft (zinf 59).1 45 = some (7, 2, 0, false) ∧ 72 + 3 = 75 := by decide +kernel
theorem zi_59_75 : zraw 59 75 = some (.iinc 2 1, 3) ∧ zin 32768 1 = true ∧ 75 + 3 = 78 := by decide +kernel
theorem zi_59_78 : zraw 59 78 = some (.goto (-57), 3) ∧ ((78 : Nat) : Int) + (-57) = Int.ofNat 21 := by decide +kernel
theorem zi_59_81 : zraw 59 81 = some (.iconst 0, 1) ∧ zin 128 0 = true ∧ 81 + 1 = 82 := by decide +kernel
theorem zi_59_82 : zraw 59 82 = some (.ireturn, 1) ∧ (zinf 59).2.2.2.1 = 2 := by decide +kernel
theorem ze_59 {K : List zF} {σ : zW} {t : Nat} (hK : K.length < 60) : zEv true (zent 59 [.inr (.inr t), .inr (.inr 2)] :: K) σ = (zEv true (zent 83 [.inr (.inr 2)] :: (59, 4, [some (.inr (.inr t)), some (.inr (.inr 2)), none, none], []) :: K) σ) :=
  yT_en (f := (59, 0, [some (.inr (.inr t)), some (.inr (.inr 2)), none, none], [])) rfl (yI_aload_n zi_59_0 rfl <| yI_cv zi_59_1 rfl rfl zk_2 hK)
theorem zr_59_4 {K : List zF} {σ : zW} {x0 : Nat} {o2 : Option zV} {o3 : Option zV} (hK : K.length < 60) (h1 : zSc x0) : zRet true ((59, 4, [some (.inr (.inr x0)), some (.inr (.inr 2)), o2, o3], []) :: K) none σ = (zEv true (zent 85 [.inr (.inr 2)] :: (59, 13, [some (.inr (.inr x0)), some (.inr (.inr 2)), o2, o3], []) :: K) (sI σ x0 5 0)) :=
  yT_rv (yI_aload_n zi_59_4 rfl <| yI_iconst zi_59_5 <| yI_pf_i zi_59_6 (zSc_k h1) <| yI_aload_n zi_59_9 rfl <| yI_cv zi_59_10 rfl rfl zk_2 hK)
theorem zr_59_13 {K : List zF} {σ : zW} {x0 : Nat} {o2 : Option zV} {o3 : Option zV} {v : Int} : zRet true ((59, 13, [some (.inr (.inr x0)), some (.inr (.inr 2)), o2, o3], []) :: K) (some (.inl v)) σ = (if ¬ v = (-1) then zEv true ((59, 21, [some (.inr (.inr x0)), some (.inr (.inr 2)), some (.inl 0), o3], []) :: K) σ else zRet true K (some (.inl 1)) σ) :=
  yT_rt (yI_iconst zi_59_13 <| yI_ic_ne zi_59_14 <| yBr (yI_iconst zi_59_19 <| yI_istore_n (l := [some (.inr (.inr x0)), some (.inr (.inr 2)), some (.inl 0), o3]) zi_59_20 rfl rfl <| rfl) (yI_iconst zi_59_17 <| yI_zreturn zi_59_18 (by decide)))
theorem zj_59_21 {K : List zF} {σ : zW} {x0 : Nat} {x2 : Int} {o3 : Option zV} (hK : K.length < 60) (h1 : zSc x0) : zEv true ((59, 21, [some (.inr (.inr x0)), some (.inr (.inr 2)), some (.inl x2), o3], []) :: K) σ = (if 8 < x2 then zRet true K (some (.inl 0)) σ else zEv true (zent 60 [.inr (.inr x0), .inr (.inr 2)] :: (59, 32, [some (.inr (.inr x0)), some (.inr (.inr 2)), some (.inl x2), o3], []) :: K) σ) :=
  yI_iload_n zi_59_21 rfl <| yI_bipush zi_59_22 <| yI_ic_gt zi_59_24 <| yBr (yI_iconst zi_59_81 <| yI_zreturn zi_59_82 (by decide)) (yI_aload_n zi_59_27 rfl <| yI_aload_n zi_59_28 rfl <| yI_cv zi_59_29 rfl rfl (zSc_k h1) hK)
theorem zr_59_32 {K : List zF} {σ : zW} {x0 : Nat} {x2 : Int} {o3 : Option zV} {v : Int} (hK : K.length < 60) : zRet true ((59, 32, [some (.inr (.inr x0)), some (.inr (.inr 2)), some (.inl x2), o3], []) :: K) (some (.inl v)) σ = (if ¬ v = 0 then zEv true (zent 85 [.inr (.inr 2)] :: (59, 41, [some (.inr (.inr x0)), some (.inr (.inr 2)), some (.inl x2), o3], []) :: K) σ else zRet true K (some (.inl 0)) σ) :=
  yT_rt (yI_if_ne zi_59_32 <| yBr (yI_aload_n zi_59_37 rfl <| yI_cv zi_59_38 rfl rfl zk_2 hK) (yI_iconst zi_59_35 <| yI_zreturn zi_59_36 (by decide)))
theorem zr_59_41 {K : List zF} {σ : zW} {x0 : Nat} {x2 : Int} {o3 : Option zV} {v : Int} (hK : K.length < 60) : zRet true ((59, 41, [some (.inr (.inr x0)), some (.inr (.inr 2)), some (.inl x2), o3], []) :: K) (some (.inl v)) σ = (if ¬ v = (-1) then if v = 59 then zEv true ((59, 21, [some (.inr (.inr x0)), some (.inr (.inr 2)), some (.inl (w32 (x2 + 1))), some (.inl v)], []) :: K) (sI σ 2 2 (w32 ((gI σ 2 2) + 1))) else zEv true (zent 86 [.inr (.inr 2), .inl 1, .inl (gI σ 2 2)] :: (59, 64, [some (.inr (.inr x0)), some (.inr (.inr 2)), some (.inl x2), some (.inl v)], []) :: K) σ else zRet true K (some (.inl 1)) σ) :=
  yT_rt (yI_istore_n (l := [some (.inr (.inr x0)), some (.inr (.inr 2)), some (.inl x2), some (.inl v)]) zi_59_41 rfl rfl <| yI_iload_n zi_59_42 rfl <| yI_iconst zi_59_43 <| yI_ic_ne zi_59_44 <| yBr (yI_iload_n zi_59_49 rfl <| yI_bipush zi_59_50 <| yI_ic_eq zi_59_52 <| yBr (yI_aload_n zi_59_65 rfl <| yI_dup_r zi_59_66 <| yI_gf_i (v := gI σ 2 2) zi_59_67 zk_2 rfl <| yI_iconst zi_59_70 <| yI_iadd zi_59_71 <| yI_pf_i zi_59_72 zk_2 <| yI_iinc (l := [some (.inr (.inr x0)), some (.inr (.inr 2)), some (.inl (w32 (x2 + 1))), some (.inl v)]) zi_59_75 rfl rfl rfl <| yI_goto zi_59_78 <| rfl) (yI_aload_n zi_59_55 rfl <| yI_iconst zi_59_56 <| yI_aload_n zi_59_57 rfl <| yI_gf_i (v := gI σ 2 2) zi_59_58 zk_2 rfl <| yI_cv zi_59_61 rfl rfl zk_2 hK)) (yI_iconst zi_59_47 <| yI_zreturn zi_59_48 (by decide)))
theorem zr_59_64 {K : List zF} {σ : zW} {o0 : Option zV} {o1 : Option zV} {o2 : Option zV} {o3 : Option zV} {v : Int} : zRet true ((59, 64, [o0, o1, o2, o3], []) :: K) (some (.inl v)) σ = ((v = 0 ∨ v = 1) ∧ zRet true K (some (.inl v)) σ) :=
  yT_rt (yI_zreturnc zi_59_64)
/-- 60 Treegrab$Script.readEdit(LTreegrab$Tape;)Z -/
theorem zi_60_0 : zraw 60 0 = some (.aload_n 1, 1) ∧ 0 + 1 = 1 := by decide +kernel
theorem zi_60_1 : zraw 60 1 = some (.invokevirtual 37, 3) ∧ zmt (zinf 60).1 37 = some 85 ∧ Nat.ble 9000 85 = false ∧ zinf 85 = (7, 1, 1, 1, 0) ∧ 1 + 3 = 4 := by decide +kernel
theorem zi_60_4 : zraw 60 4 = some (.pop, 1) ∧ 4 + 1 = 5 := by decide +kernel
theorem zi_60_5 : zraw 60 5 = some (.aload_n 1, 1) ∧ 5 + 1 = 6 := by decide +kernel
theorem zi_60_6 : zraw 60 6 = some (.invokestatic 52, 3) ∧ zmt (zinf 60).1 52 = some 61 ∧ Nat.ble 9000 61 = false ∧ zinf 61 = (5, 1, 1, 1, 1) ∧ 6 + 3 = 9 := by decide +kernel
theorem zi_60_9 : zraw 60 9 = some (.istore_n 2, 1) ∧ 9 + 1 = 10 := by decide +kernel
theorem zi_60_10 : zraw 60 10 = some (.iload_n 2, 1) ∧ 10 + 1 = 11 := by decide +kernel
theorem zi_60_11 : zraw 60 11 = some (.iconst (-1), 1) ∧ zin 128 (-1) = true ∧ 11 + 1 = 12 := by decide +kernel
theorem zi_60_12 : zraw 60 12 = some (.if_icmp .eq 12, 3) ∧ ((12 : Nat) : Int) + 12 = Int.ofNat 24 ∧ 12 + 3 = 15 := by decide +kernel
theorem zi_60_15 : zraw 60 15 = some (.aload_n 0, 1) ∧ 15 + 1 = 16 := by decide +kernel
theorem zi_60_16 : zraw 60 16 = some (.getfield 33, 3) ∧ zft (zinf 60).1 33 = some (5, 5, 0, false) ∧ 16 + 3 = 19 := by decide +kernel
theorem zi_60_19 : zraw 60 19 = some (.bipush 8, 2) ∧ zin 128 8 = true ∧ 19 + 2 = 21 := by decide +kernel
theorem zi_60_21 : zraw 60 21 = some (.if_icmp .lt 22, 3) ∧ ((21 : Nat) : Int) + 22 = Int.ofNat 43 ∧ 21 + 3 = 24 := by decide +kernel
theorem zi_60_24 : zraw 60 24 = some (.aload_n 1, 1) ∧ 24 + 1 = 25 := by decide +kernel
theorem zi_60_25 : zraw 60 25 = some (.iload_n 2, 1) ∧ 25 + 1 = 26 := by decide +kernel
theorem zi_60_26 : zraw 60 26 = some (.iconst (-1), 1) ∧ zin 128 (-1) = true ∧ 26 + 1 = 27 := by decide +kernel
theorem zi_60_27 : zraw 60 27 = some (.if_icmp .ne 7, 3) ∧ ((27 : Nat) : Int) + 7 = Int.ofNat 34 ∧ 27 + 3 = 30 := by decide +kernel
theorem zi_60_30 : zraw 60 30 = some (.iconst 1, 1) ∧ zin 128 1 = true ∧ 30 + 1 = 31 := by decide +kernel
theorem zi_60_31 : zraw 60 31 = some (.goto 4, 3) ∧ ((31 : Nat) : Int) + 4 = Int.ofNat 35 := by decide +kernel
theorem zi_60_34 : zraw 60 34 = some (.iconst 3, 1) ∧ zin 128 3 = true ∧ 34 + 1 = 35 := by decide +kernel
theorem zi_60_35 : zraw 60 35 = some (.aload_n 1, 1) ∧ 35 + 1 = 36 := by decide +kernel
theorem zi_60_36 : zraw 60 36 = some (.getfield 45, 3) ∧ zft (zinf 60).1 45 = some (7, 2, 0, false) ∧ 36 + 3 = 39 := by decide +kernel
theorem zi_60_39 : zraw 60 39 = some (.invokevirtual 48, 3) ∧ zmt (zinf 60).1 48 = some 86 ∧ Nat.ble 9000 86 = false ∧ zinf 86 = (7, 3, 3, 2, 0) ∧ 39 + 3 = 42 := by decide +kernel
theorem zi_60_42 : zraw 60 42 = some (.ireturn, 1) ∧ (zinf 60).2.2.2.1 = 2 := by decide +kernel
theorem zi_60_43 : zraw 60 43 = some (.aload_n 1, 1) ∧ 43 + 1 = 44 := by decide +kernel
theorem zi_60_44 : zraw 60 44 = some (.dup, 1) ∧ 44 + 1 = 45 := by decide +kernel
theorem zi_60_45 : zraw 60 45 = some (.getfield 45, 3) ∧ zft (zinf 60).1 45 = some (7, 2, 0, false) ∧ 45 + 3 = 48 := by decide +kernel
theorem zi_60_48 : zraw 60 48 = some (.aload_n 1, 1) ∧ 48 + 1 = 49 := by decide +kernel
theorem zi_60_49 : zraw 60 49 = some (.invokevirtual 56, 3) ∧ zmt (zinf 60).1 56 = some 87 ∧ Nat.ble 9000 87 = false ∧ zinf 87 = (7, 1, 2, 1, 0) ∧ 49 + 3 = 52 := by decide +kernel
theorem zi_60_52 : zraw 60 52 = some (.iadd, 1) ∧ 52 + 1 = 53 := by decide +kernel
theorem zi_60_53 : zraw 60 53 = some (.putfield 45, 3) ∧ zft (zinf 60).1 45 = some (7, 2, 0, false) ∧ 53 + 3 = 56 := by decide +kernel
theorem zi_60_56 : zraw 60 56 = some (.aload_n 0, 1) ∧ 56 + 1 = 57 := by decide +kernel
theorem zi_60_57 : zraw 60 57 = some (.getfield 33, 3) ∧ zft (zinf 60).1 33 = some (5, 5, 0, false) ∧ 57 + 3 = 60 := by decide +kernel
theorem zi_60_60 : zraw 60 60 = some (.istore_n 3, 1) ∧ 60 + 1 = 61 := by decide +kernel
theorem zi_60_61 : zraw 60 61 = some (.aload_n 0, 1) ∧ 61 + 1 = 62 := by decide +kernel
theorem zi_60_62 : zraw 60 62 = some (.dup, 1) ∧ 62 + 1 = 63 := by decide +kernel
theorem zi_60_63 : zraw 60 63 = some (.getfield 33, 3) ∧ zft (zinf 60).1 33 = some (5, 5, 0, false) ∧ 63 + 3 = 66 := by decide +kernel
theorem zi_60_66 : zraw 60 66 = some (.iconst 1, 1) ∧ zin 128 1 = true ∧ 66 + 1 = 67 := by decide +kernel
theorem zi_60_67 : zraw 60 67 = some (.iadd, 1) ∧ 67 + 1 = 68 := by decide +kernel
theorem zi_60_68 : zraw 60 68 = some (.putfield 33, 3) ∧ zft (zinf 60).1 33 = some (5, 5, 0, false) ∧ 68 + 3 = 71 := by decide +kernel
theorem zi_60_71 : zraw 60 71 = some (.aload_n 0, 1) ∧ 71 + 1 = 72 := by decide +kernel
theorem zi_60_72 : zraw 60 72 = some (.getfield 9, 3) ∧ zft (zinf 60).1 9 = some (5, 0, 3, true) ∧ 72 + 3 = 75 := by decide +kernel
theorem zi_60_75 : zraw 60 75 = some (.iload_n 3, 1) ∧ 75 + 1 = 76 := by decide +kernel
theorem zi_60_76 : zraw 60 76 = some (.iload_n 2, 1) ∧ 76 + 1 = 77 := by decide +kernel
theorem zi_60_77 : zraw 60 77 = some (.iastore, 1) ∧ 77 + 1 = 78 := by decide +kernel
theorem zi_60_78 : zraw 60 78 = some (.aload_n 0, 1) ∧ 78 + 1 = 79 := by decide +kernel
theorem zi_60_79 : zraw 60 79 = some (.getfield 15, 3) ∧ zft (zinf 60).1 15 = some (5, 1, 3, true) ∧ 79 + 3 = 82 := by decide +kernel
theorem zi_60_82 : zraw 60 82 = some (.iload_n 3, 1) ∧ 82 + 1 = 83 := by decide +kernel
theorem zi_60_83 : zraw 60 83 = some (.iconst (-1), 1) ∧ zin 128 (-1) = true ∧ 83 + 1 = 84 := by decide +kernel
theorem zi_60_84 : zraw 60 84 = some (.iastore, 1) ∧ 84 + 1 = 85 := by decide +kernel
theorem zi_60_85 : zraw 60 85 = some (.aload_n 0, 1) ∧ 85 + 1 = 86 := by decide +kernel
theorem zi_60_86 : zraw 60 86 = some (.getfield 18, 3) ∧ zft (zinf 60).1 18 = some (5, 2, 3, true) ∧ 86 + 3 = 89 := by decide +kernel
theorem zi_60_89 : zraw 60 89 = some (.iload_n 3, 1) ∧ 89 + 1 = 90 := by decide +kernel
theorem zi_60_90 : zraw 60 90 = some (.iconst (-1), 1) ∧ zin 128 (-1) = true ∧ 90 + 1 = 91 := by decide +kernel
theorem zi_60_91 : zraw 60 91 = some (.iastore, 1) ∧ 91 + 1 = 92 := by decide +kernel
theorem zi_60_92 : zraw 60 92 = some (.aload_n 0, 1) ∧ 92 + 1 = 93 := by decide +kernel
theorem zi_60_93 : zraw 60 93 = some (.getfield 21, 3) ∧ zft (zinf 60).1 21 = some (5, 3, 3, true) ∧ 93 + 3 = 96 := by decide +kernel
theorem zi_60_96 : zraw 60 96 = some (.iload_n 3, 1) ∧ 96 + 1 = 97 := by decide +kernel
theorem zi_60_97 : zraw 60 97 = some (.lconst 0, 1) ∧ (bif Nat.beq (0 : Fin 2).val 0 then (0 : Int64) else 1) = 0 ∧ 97 + 1 = 98 := by decide +kernel
theorem zi_60_98 : zraw 60 98 = some (.lastore, 1) ∧ 98 + 1 = 99 := by decide +kernel
theorem zi_60_99 : zraw 60 99 = some (.aload_n 0, 1) ∧ 99 + 1 = 100 := by decide +kernel
theorem zi_60_100 : zraw 60 100 = some (.getfield 25, 3) ∧ zft (zinf 60).1 25 = some (5, 4, 3, true) ∧ 100 + 3 = 103 := by decide +kernel
theorem zi_60_103 : zraw 60 103 = some (.iload_n 3, 1) ∧ 103 + 1 = 104 := by decide +kernel
theorem zi_60_104 : zraw 60 104 = some (.iconst (-1), 1) ∧ zin 128 (-1) = true ∧ 104 + 1 = 105 := by decide +kernel
theorem zi_60_105 : zraw 60 105 = some (.iastore, 1) ∧ 105 + 1 = 106 := by decide +kernel
theorem zi_60_106 : zraw 60 106 = some (.aload_n 0, 1) ∧ 106 + 1 = 107 := by decide +kernel
theorem zi_60_107 : zraw 60 107 = some (.iload_n 3, 1) ∧ 107 + 1 = 108 := by decide +kernel
theorem zi_60_108 : zraw 60 108 = some (.invokevirtual 59, 3) ∧ zmt (zinf 60).1 59 = some 57 ∧ Nat.ble 9000 57 = false ∧ zinf 57 = (5, 2, 2, 2, 0) ∧ 108 + 3 = 111 := by decide +kernel
theorem zi_60_111 : zraw 60 111 = some (.ifCond .eq 25, 3) ∧ ((111 : Nat) : Int) + 25 = Int.ofNat 136 ∧ 111 + 3 = 114 := by decide +kernel
theorem zi_60_114 : zraw 60 114 = some (.aload_n 0, 1) ∧ 114 + 1 = 115 := by decide +kernel
theorem zi_60_115 : zraw 60 115 = some (.getfield 15, 3) ∧ zft (zinf 60).1 15 = some (5, 1, 3, true) ∧ 115 + 3 = 118 := by decide +kernel
theorem zi_60_118 : zraw 60 118 = some (.iload_n 3, 1) ∧ 118 + 1 = 119 := by decide +kernel
theorem zi_60_119 : zraw 60 119 = some (.aload_n 1, 1) ∧ 119 + 1 = 120 := by decide +kernel
theorem zi_60_120 : zraw 60 120 = some (.invokestatic 63, 3) ∧ zmt (zinf 60).1 63 = some 64 ∧ Nat.ble 9000 64 = false ∧ zinf 64 = (5, 1, 2, 1, 1) ∧ 120 + 3 = 123 := by decide +kernel
theorem zi_60_123 : zraw 60 123 = some (.iastore, 1) ∧ 123 + 1 = 124 := by decide +kernel
theorem zi_60_124 : zraw 60 124 = some (.aload_n 0, 1) ∧ 124 + 1 = 125 := by decide +kernel
theorem zi_60_125 : zraw 60 125 = some (.getfield 15, 3) ∧ zft (zinf 60).1 15 = some (5, 1, 3, true) ∧ 125 + 3 = 128 := by decide +kernel
theorem zi_60_128 : zraw 60 128 = some (.iload_n 3, 1) ∧ 128 + 1 = 129 := by decide +kernel
theorem zi_60_129 : zraw 60 129 = some (.iaload, 1) ∧ 129 + 1 = 130 := by decide +kernel
theorem zi_60_130 : zraw 60 130 = some (.iconst (-1), 1) ∧ zin 128 (-1) = true ∧ 130 + 1 = 131 := by decide +kernel
theorem zi_60_131 : zraw 60 131 = some (.if_icmp .ne 5, 3) ∧ ((131 : Nat) : Int) + 5 = Int.ofNat 136 ∧ 131 + 3 = 134 := by decide +kernel
theorem zi_60_134 : zraw 60 134 = some (.iconst 0, 1) ∧ zin 128 0 = true ∧ 134 + 1 = 135 := by decide +kernel
theorem zi_60_135 : zraw 60 135 = some (.ireturn, 1) ∧ (zinf 60).2.2.2.1 = 2 := by decide +kernel
theorem zi_60_136 : zraw 60 136 = some (.iload_n 2, 1) ∧ 136 + 1 = 137 := by decide +kernel
theorem zi_60_137 : zraw 60 137 = some (.ifCond .eq 13, 3) ∧ ((137 : Nat) : Int) + 13 = Int.ofNat 150 ∧ 137 + 3 = 140 := by decide +kernel
theorem zi_60_140 : zraw 60 140 = some (.iload_n 2, 1) ∧ 140 + 1 = 141 := by decide +kernel
theorem zi_60_141 : zraw 60 141 = some (.iconst 3, 1) ∧ zin 128 3 = true ∧ 141 + 1 = 142 := by decide +kernel
theorem zi_60_142 : zraw 60 142 = some (.if_icmp .eq 8, 3) ∧ ((142 : Nat) : Int) + 8 = Int.ofNat 150 ∧ 142 + 3 = 145 := by decide +kernel
theorem zi_60_145 : zraw 60 145 = some (.iload_n 2, 1) ∧ 145 + 1 = 146 := by decide +kernel
theorem zi_60_146 : zraw 60 146 = some (.iconst 4, 1) ∧ zin 128 4 = true ∧ 146 + 1 = 147 := by decide +kernel
theorem zi_60_147 : zraw 60 147 = some (.if_icmp .ne 26, 3) ∧ ((147 : Nat) : Int) + 26 = Int.ofNat 173 ∧ 147 + 3 = 150 := by decide +kernel
theorem zi_60_150 : zraw 60 150 = some (.aload_n 0, 1) ∧ 150 + 1 = 151 := by decide +kernel
theorem zi_60_151 : zraw 60 151 = some (.getfield 21, 3) ∧ zft (zinf 60).1 21 = some (5, 3, 3, true) ∧ 151 + 3 = 154 := by decide +kernel
theorem zi_60_154 : zraw 60 154 = some (.iload_n 3, 1) ∧ 154 + 1 = 155 := by decide +kernel
theorem zi_60_155 : zraw 60 155 = some (.aload_n 1, 1) ∧ 155 + 1 = 156 := by decide +kernel
theorem zi_60_156 : zraw 60 156 = some (.invokevirtual 66, 3) ∧ zmt (zinf 60).1 66 = some 89 ∧ Nat.ble 9000 89 = false ∧ zinf 89 = (7, 1, 4, 3, 0) ∧ 156 + 3 = 159 := by decide +kernel
theorem zi_60_159 : zraw 60 159 = some (.lastore, 1) ∧ 159 + 1 = 160 := by decide +kernel
theorem zi_60_160 : zraw 60 160 = some (.aload_n 0, 1) ∧ 160 + 1 = 161 := by decide +kernel
theorem zi_60_161 : zraw 60 161 = some (.getfield 21, 3) ∧ zft (zinf 60).1 21 = some (5, 3, 3, true) ∧ 161 + 3 = 164 := by decide +kernel
theorem zi_60_164 : zraw 60 164 = some (.iload_n 3, 1) ∧ 164 + 1 = 165 := by decide +kernel
theorem zi_60_165 : zraw 60 165 = some (.laload, 1) ∧ 165 + 1 = 166 := by decide +kernel
theorem zi_60_166 : zraw 60 166 = some (.lconst 0, 1) ∧ (bif Nat.beq (0 : Fin 2).val 0 then (0 : Int64) else 1) = 0 ∧ 166 + 1 = 167 := by decide +kernel
theorem zi_60_167 : zraw 60 167 = some (.lcmp, 1) ∧ 167 + 1 = 168 := by decide +kernel
theorem zi_60_168 : zraw 60 168 = some (.ifCond .ne 5, 3) ∧ ((168 : Nat) : Int) + 5 = Int.ofNat 173 ∧ 168 + 3 = 171 := by decide +kernel
theorem zi_60_171 : zraw 60 171 = some (.iconst 0, 1) ∧ zin 128 0 = true ∧ 171 + 1 = 172 := by decide +kernel
theorem zi_60_172 : zraw 60 172 = some (.ireturn, 1) ∧ (zinf 60).2.2.2.1 = 2 := by decide +kernel
theorem zi_60_173 : zraw 60 173 = some (.aload_n 0, 1) ∧ 173 + 1 = 174 := by decide +kernel
theorem zi_60_174 : zraw 60 174 = some (.iload_n 3, 1) ∧ 174 + 1 = 175 := by decide +kernel
theorem zi_60_175 : zraw 60 175 = some (.invokevirtual 70, 3) ∧ zmt (zinf 60).1 70 = some 58 ∧ Nat.ble 9000 58 = false ∧ zinf 58 = (5, 2, 2, 2, 0) ∧ 175 + 3 = 178 := by decide +kernel
theorem zi_60_178 : zraw 60 178 = some (.ifCond .ne 5, 3) ∧ ((178 : Nat) : Int) + 5 = Int.ofNat 183 ∧ 178 + 3 = 181 := by decide +kernel
theorem zi_60_181 : zraw 60 181 = some (.iconst 1, 1) ∧ zin 128 1 = true ∧ 181 + 1 = 182 := by decide +kernel
theorem zi_60_182 : zraw 60 182 = some (.ireturn, 1) ∧ (zinf 60).2.2.2.1 = 2 := by decide +kernel
theorem zi_60_183 : zraw 60 183 = some (.aload_n 0, 1) ∧ 183 + 1 = 184 := by decide +kernel
theorem zi_60_184 : zraw 60 184 = some (.getfield 25, 3) ∧ zft (zinf 60).1 25 = some (5, 4, 3, true) ∧ 184 + 3 = 187 := by decide +kernel
theorem zi_60_187 : zraw 60 187 = some (.iload_n 3, 1) ∧ 187 + 1 = 188 := by decide +kernel
theorem zi_60_188 : zraw 60 188 = some (.aload_n 1, 1) ∧ 188 + 1 = 189 := by decide +kernel
theorem zi_60_189 : zraw 60 189 = some (.invokestatic 73, 3) ∧ zmt (zinf 60).1 73 = some 62 ∧ Nat.ble 9000 62 = false ∧ zinf 62 = (5, 1, 2, 1, 1) ∧ 189 + 3 = 192 := by decide +kernel
theorem zi_60_192 : zraw 60 192 = some (.iastore, 1) ∧ 192 + 1 = 193 := by decide +kernel
theorem zi_60_193 : zraw 60 193 = some (.aload_n 0, 1) ∧ 193 + 1 = 194 := by decide +kernel
theorem zi_60_194 : zraw 60 194 = some (.getfield 18, 3) ∧ zft (zinf 60).1 18 = some (5, 2, 3, true) ∧ 194 + 3 = 197 := by decide +kernel
theorem zi_60_197 : zraw 60 197 = some (.iload_n 3, 1) ∧ 197 + 1 = 198 := by decide +kernel
theorem zi_60_198 : zraw 60 198 = some (.aload_n 0, 1) ∧ 198 + 1 = 199 := by decide +kernel
theorem zi_60_199 : zraw 60 199 = some (.getfield 25, 3) ∧ zft (zinf 60).1 25 = some (5, 4, 3, true) ∧ 199 + 3 = 202 := by decide +kernel
theorem zi_60_202 : zraw 60 202 = some (.iload_n 3, 1) ∧ 202 + 1 = 203 := by decide +kernel
theorem zi_60_203 : zraw 60 203 = some (.iaload, 1) ∧ 203 + 1 = 204 := by decide +kernel
theorem zi_60_204 : zraw 60 204 = some (.iconst (-1), 1) ∧ zin 128 (-1) = true ∧ 204 + 1 = 205 := by decide +kernel
theorem zi_60_205 : zraw 60 205 = some (.if_icmp .ne 7, 3) ∧ ((205 : Nat) : Int) + 7 = Int.ofNat 212 ∧ 205 + 3 = 208 := by decide +kernel
theorem zi_60_208 : zraw 60 208 = some (.iconst (-1), 1) ∧ zin 128 (-1) = true ∧ 208 + 1 = 209 := by decide +kernel
theorem zi_60_209 : zraw 60 209 = some (.goto 7, 3) ∧ ((209 : Nat) : Int) + 7 = Int.ofNat 216 := by decide +kernel
theorem zi_60_212 : zraw 60 212 = some (.aload_n 1, 1) ∧ 212 + 1 = 213 := by decide +kernel
theorem zi_60_213 : zraw 60 213 = some (.invokestatic 63, 3) ∧ zmt (zinf 60).1 63 = some 64 ∧ Nat.ble 9000 64 = false ∧ zinf 64 = (5, 1, 2, 1, 1) ∧ 213 + 3 = 216 := by decide +kernel
theorem zi_60_216 : zraw 60 216 = some (.iastore, 1) ∧ 216 + 1 = 217 := by decide +kernel
theorem zi_60_217 : zraw 60 217 = some (.aload_n 0, 1) ∧ 217 + 1 = 218 := by decide +kernel
theorem zi_60_218 : zraw 60 218 = some (.getfield 18, 3) ∧ zft (zinf 60).1 18 = some (5, 2, 3, true) ∧ 218 + 3 = 221 := by decide +kernel
theorem zi_60_221 : zraw 60 221 = some (.iload_n 3, 1) ∧ 221 + 1 = 222 := by decide +kernel
theorem zi_60_222 : zraw 60 222 = some (.iaload, 1) ∧ 222 + 1 = 223 := by decide +kernel
theorem zi_60_223 : zraw 60 223 = some (.iconst (-1), 1) ∧ zin 128 (-1) = true ∧ 223 + 1 = 224 := by decide +kernel
theorem zi_60_224 : zraw 60 224 = some (.if_icmp .eq 7, 3) ∧ ((224 : Nat) : Int) + 7 = Int.ofNat 231 ∧ 224 + 3 = 227 := by decide +kernel
theorem zi_60_227 : zraw 60 227 = some (.iconst 1, 1) ∧ zin 128 1 = true ∧ 227 + 1 = 228 := by decide +kernel
theorem zi_60_228 : zraw 60 228 = some (.goto 4, 3) ∧ ((228 : Nat) : Int) + 4 = Int.ofNat 232 := by decide +kernel
theorem zi_60_231 : zraw 60 231 = some (.iconst 0, 1) ∧ zin 128 0 = true ∧ 231 + 1 = 232 := by decide +kernel
theorem zi_60_232 : zraw 60 232 = some (.ireturn, 1) ∧ (zinf 60).2.2.2.1 = 2 := by decide +kernel
theorem ze_60 {K : List zF} {σ : zW} {t : Nat} (hK : K.length < 60) : zEv true (zent 60 [.inr (.inr t), .inr (.inr 2)] :: K) σ = (zEv true (zent 85 [.inr (.inr 2)] :: (60, 4, [some (.inr (.inr t)), some (.inr (.inr 2)), none, none], []) :: K) σ) :=
  yT_en (f := (60, 0, [some (.inr (.inr t)), some (.inr (.inr 2)), none, none], [])) rfl (yI_aload_n zi_60_0 rfl <| yI_cv zi_60_1 rfl rfl zk_2 hK)
theorem zr_60_4 {K : List zF} {σ : zW} {x0 : Nat} {o2 : Option zV} {o3 : Option zV} {v : Int} (hK : K.length < 60) : zRet true ((60, 4, [some (.inr (.inr x0)), some (.inr (.inr 2)), o2, o3], []) :: K) (some (.inl v)) σ = (zEv true (zent 61 [.inr (.inr 2)] :: (60, 9, [some (.inr (.inr x0)), some (.inr (.inr 2)), o2, o3], []) :: K) σ) :=
  yT_rt (yI_pop_i zi_60_4 <| yI_aload_n zi_60_5 rfl <| yI_cs zi_60_6 rfl rfl hK)
theorem zr_60_9 {K : List zF} {σ : zW} {x0 : Nat} {o2 : Option zV} {o3 : Option zV} {v : Int} (hK : K.length < 60) (h1 : zSc x0) : zRet true ((60, 9, [some (.inr (.inr x0)), some (.inr (.inr 2)), o2, o3], []) :: K) (some (.inl v)) σ = (if v = (-1) then zEv true ((60, 24, [some (.inr (.inr x0)), some (.inr (.inr 2)), some (.inl v), o3], []) :: K) σ else if (gI σ x0 5) < 8 then zEv true (zent 87 [.inr (.inr 2)] :: (60, 52, [some (.inr (.inr x0)), some (.inr (.inr 2)), some (.inl v), o3], [.inl (gI σ 2 2), .inr (.inr 2)]) :: K) σ else zEv true ((60, 24, [some (.inr (.inr x0)), some (.inr (.inr 2)), some (.inl v), o3], []) :: K) σ) :=
  yT_rt (yI_istore_n (l := [some (.inr (.inr x0)), some (.inr (.inr 2)), some (.inl v), o3]) zi_60_9 rfl rfl <| yI_iload_n zi_60_10 rfl <| yI_iconst zi_60_11 <| yI_ic_eq zi_60_12 <| yBr (rfl) (yI_aload_n zi_60_15 rfl <| yI_gf_i (v := gI σ x0 5) zi_60_16 (zSc_k h1) rfl <| yI_bipush zi_60_19 <| yI_ic_lt zi_60_21 <| yBr (yI_aload_n zi_60_43 rfl <| yI_dup_r zi_60_44 <| yI_gf_i (v := gI σ 2 2) zi_60_45 zk_2 rfl <| yI_aload_n zi_60_48 rfl <| yI_cv zi_60_49 rfl rfl zk_2 hK) (rfl)))
theorem zj_60_24 {K : List zF} {σ : zW} {o0 : Option zV} {x2 : Int} {o3 : Option zV} (hK : K.length < 60) : zEv true ((60, 24, [o0, some (.inr (.inr 2)), some (.inl x2), o3], []) :: K) σ = (zEv true (zent 86 [.inr (.inr 2), .inl (if ¬ x2 = (-1) then 3 else 1 : Int), .inl (gI σ 2 2)] :: (60, 42, [o0, some (.inr (.inr 2)), some (.inl x2), o3], []) :: K) σ) :=
  yI_aload_n zi_60_24 rfl <| yI_iload_n zi_60_25 rfl <| yI_iconst zi_60_26 <| yI_ic_ne zi_60_27 <| yMi0 (j := 35) (ls2 := [o0, some (.inr (.inr 2)), some (.inl x2), o3]) (st2 := [.inr (.inr 2)]) (x := 3) (y := 1) (σ2 := σ) (yI_iconst zi_60_34 <| rfl) (yI_iconst zi_60_30 <| yI_goto zi_60_31 <| rfl) <| yI_aload_n zi_60_35 rfl <| yI_gf_i (v := gI σ 2 2) zi_60_36 zk_2 rfl <| yI_cv zi_60_39 rfl rfl zk_2 hK
theorem zr_60_52 {K : List zF} {σ : zW} {x0 : Nat} {x2 : Int} {o3 : Option zV} {s0 : Int} {v : Int} (hK : K.length < 60) (h1 : zSc x0) : zRet true ((60, 52, [some (.inr (.inr x0)), some (.inr (.inr 2)), some (.inl x2), o3], [.inl s0, .inr (.inr 2)]) :: K) (some (.inl v)) σ = ((0 ≤ (gI (sI σ 2 2 (w32 (s0 + v))) x0 5) ∧ (gI (sI σ 2 2 (w32 (s0 + v))) x0 5) < 8) ∧ ((0 ≤ (gI (sI σ 2 2 (w32 (s0 + v))) x0 5) ∧ (gI (sI σ 2 2 (w32 (s0 + v))) x0 5) < 8) ∧ ((0 ≤ (gI (sI σ 2 2 (w32 (s0 + v))) x0 5) ∧ (gI (sI σ 2 2 (w32 (s0 + v))) x0 5) < 8) ∧ ((0 ≤ (gI (sI σ 2 2 (w32 (s0 + v))) x0 5) ∧ (gI (sI σ 2 2 (w32 (s0 + v))) x0 5) < 8) ∧ ((0 ≤ (gI (sI σ 2 2 (w32 (s0 + v))) x0 5) ∧ (gI (sI σ 2 2 (w32 (s0 + v))) x0 5) < 8) ∧ zEv true (zent 57 [.inr (.inr x0), .inl (gI (sI σ 2 2 (w32 (s0 + v))) x0 5)] :: (60, 111, [some (.inr (.inr x0)), some (.inr (.inr 2)), some (.inl x2), some (.inl (gI (sI σ 2 2 (w32 (s0 + v))) x0 5))], []) :: K) (sI (sL (sI (sI (sI (sI (sI σ 2 2 (w32 (s0 + v))) x0 5 (w32 ((gI (sI σ 2 2 (w32 (s0 + v))) x0 5) + 1))) (x0 + 1) ((gI (sI σ 2 2 (w32 (s0 + v))) x0 5).toNat) x2) (x0 + 2) ((gI (sI σ 2 2 (w32 (s0 + v))) x0 5).toNat) (-1)) (x0 + 3) ((gI (sI σ 2 2 (w32 (s0 + v))) x0 5).toNat) (-1)) (x0 + 4) ((gI (sI σ 2 2 (w32 (s0 + v))) x0 5).toNat) 0) (x0 + 5) ((gI (sI σ 2 2 (w32 (s0 + v))) x0 5).toNat) (-1))))))) :=
  yT_rt (yI_iadd zi_60_52 <| yI_pf_i zi_60_53 zk_2 <| yI_aload_n zi_60_56 rfl <| yI_gf_i (v := gI (sI σ 2 2 (w32 (s0 + v))) x0 5) zi_60_57 (zSc_k h1) rfl <| yI_istore_n (l := [some (.inr (.inr x0)), some (.inr (.inr 2)), some (.inl x2), some (.inl (gI (sI σ 2 2 (w32 (s0 + v))) x0 5))]) zi_60_60 rfl rfl <| yI_aload_n zi_60_61 rfl <| yI_dup_r zi_60_62 <| yI_gf_i (v := gI (sI σ 2 2 (w32 (s0 + v))) x0 5) zi_60_63 (zSc_k h1) rfl <| yI_iconst zi_60_66 <| yI_iadd zi_60_67 <| yI_pf_i zi_60_68 (zSc_k h1) <| yI_aload_n zi_60_71 rfl <| yI_gf_f (v := x0 + 1) zi_60_72 (zSc_k h1) rfl <| yI_iload_n zi_60_75 rfl <| yI_iload_n zi_60_76 rfl <| yI_iastorec zi_60_77 (zSc_a1 h1) <| yI_aload_n zi_60_78 rfl <| yI_gf_f (v := x0 + 2) zi_60_79 (zSc_k h1) rfl <| yI_iload_n zi_60_82 rfl <| yI_iconst zi_60_83 <| yI_iastorec zi_60_84 (zSc_a2 h1) <| yI_aload_n zi_60_85 rfl <| yI_gf_f (v := x0 + 3) zi_60_86 (zSc_k h1) rfl <| yI_iload_n zi_60_89 rfl <| yI_iconst zi_60_90 <| yI_iastorec zi_60_91 (zSc_a3 h1) <| yI_aload_n zi_60_92 rfl <| yI_gf_f (v := x0 + 4) zi_60_93 (zSc_k h1) rfl <| yI_iload_n zi_60_96 rfl <| yI_lconst zi_60_97 <| yI_lastorec zi_60_98 (zSc_a4 h1) <| yI_aload_n zi_60_99 rfl <| yI_gf_f (v := x0 + 5) zi_60_100 (zSc_k h1) rfl <| yI_iload_n zi_60_103 rfl <| yI_iconst zi_60_104 <| yI_iastorec zi_60_105 (zSc_a5 h1) <| yI_aload_n zi_60_106 rfl <| yI_iload_n zi_60_107 rfl <| yI_cv zi_60_108 rfl rfl (zSc_k h1) hK)
theorem zr_60_42 {K : List zF} {σ : zW} {o0 : Option zV} {o1 : Option zV} {o2 : Option zV} {o3 : Option zV} {v : Int} : zRet true ((60, 42, [o0, o1, o2, o3], []) :: K) (some (.inl v)) σ = ((v = 0 ∨ v = 1) ∧ zRet true K (some (.inl v)) σ) :=
  yT_rt (yI_zreturnc zi_60_42)
theorem zr_60_111 {K : List zF} {σ : zW} {x0 : Nat} {x2 : Int} {x3 : Int} {v : Int} (hK : K.length < 60) (h1 : zSc x0) : zRet true ((60, 111, [some (.inr (.inr x0)), some (.inr (.inr 2)), some (.inl x2), some (.inl x3)], []) :: K) (some (.inl v)) σ = (if v = 0 then zEv true ((60, 136, [some (.inr (.inr x0)), some (.inr (.inr 2)), some (.inl x2), some (.inl x3)], []) :: K) σ else zEv true (zent 64 [.inr (.inr 2)] :: (60, 123, [some (.inr (.inr x0)), some (.inr (.inr 2)), some (.inl x2), some (.inl x3)], [.inl x3, .inr (.inr (x0 + 2))]) :: K) σ) :=
  yT_rt (yI_if_eq zi_60_111 <| yBr (rfl) (yI_aload_n zi_60_114 rfl <| yI_gf_f (v := x0 + 2) zi_60_115 (zSc_k h1) rfl <| yI_iload_n zi_60_118 rfl <| yI_aload_n zi_60_119 rfl <| yI_cs zi_60_120 rfl rfl hK))
theorem zj_60_136 {K : List zF} {σ : zW} {x0 : Nat} {x2 : Int} {x3 : Int} : zEv true ((60, 136, [some (.inr (.inr x0)), some (.inr (.inr 2)), some (.inl x2), some (.inl x3)], []) :: K) σ = (if x2 = 0 then zEv true ((60, 150, [some (.inr (.inr x0)), some (.inr (.inr 2)), some (.inl x2), some (.inl x3)], []) :: K) σ else if x2 = 3 then zEv true ((60, 150, [some (.inr (.inr x0)), some (.inr (.inr 2)), some (.inl x2), some (.inl x3)], []) :: K) σ else if ¬ x2 = 4 then zEv true ((60, 173, [some (.inr (.inr x0)), some (.inr (.inr 2)), some (.inl x2), some (.inl x3)], []) :: K) σ else zEv true ((60, 150, [some (.inr (.inr x0)), some (.inr (.inr 2)), some (.inl x2), some (.inl x3)], []) :: K) σ) :=
  yI_iload_n zi_60_136 rfl <| yI_if_eq zi_60_137 <| yBr (rfl) (yI_iload_n zi_60_140 rfl <| yI_iconst zi_60_141 <| yI_ic_eq zi_60_142 <| yBr (rfl) (yI_iload_n zi_60_145 rfl <| yI_iconst zi_60_146 <| yI_ic_ne zi_60_147 <| yBr (rfl) (rfl)))
theorem zr_60_123 {K : List zF} {σ : zW} {x0 : Nat} {x2 : Int} {x3 : Int} {s0 : Int} {s1b : Nat} {v : Int} (h1 : zSc s1b) (h2 : zSc x0) : zRet true ((60, 123, [some (.inr (.inr x0)), some (.inr (.inr 2)), some (.inl x2), some (.inl x3)], [.inl s0, .inr (.inr (s1b + 2))]) :: K) (some (.inl v)) σ = ((0 ≤ s0 ∧ s0 < 8) ∧ ((0 ≤ x3 ∧ x3 < 8) ∧ (if ¬ (gI (sI σ (s1b + 2) s0.toNat v) (x0 + 2) x3.toNat) = (-1) then zEv true ((60, 136, [some (.inr (.inr x0)), some (.inr (.inr 2)), some (.inl x2), some (.inl x3)], []) :: K) (sI σ (s1b + 2) s0.toNat v) else zRet true K (some (.inl 0)) (sI σ (s1b + 2) s0.toNat v)))) :=
  yT_rt (yI_iastorec zi_60_123 (zSc_a2 h1) <| yI_aload_n zi_60_124 rfl <| yI_gf_f (v := x0 + 2) zi_60_125 (zSc_k h2) rfl <| yI_iload_n zi_60_128 rfl <| yI_ialoadc (v := gI (sI σ (s1b + 2) s0.toNat v) (x0 + 2) x3.toNat) zi_60_129 (zSc_a2 h2) rfl <| yI_iconst zi_60_130 <| yI_ic_ne zi_60_131 <| yBr (rfl) (yI_iconst zi_60_134 <| yI_zreturn zi_60_135 (by decide)))
theorem zj_60_150 {K : List zF} {σ : zW} {x0 : Nat} {o2 : Option zV} {x3 : Int} (hK : K.length < 60) (h1 : zSc x0) : zEv true ((60, 150, [some (.inr (.inr x0)), some (.inr (.inr 2)), o2, some (.inl x3)], []) :: K) σ = (zEv true (zent 89 [.inr (.inr 2)] :: (60, 159, [some (.inr (.inr x0)), some (.inr (.inr 2)), o2, some (.inl x3)], [.inl x3, .inr (.inr (x0 + 4))]) :: K) σ) :=
  yI_aload_n zi_60_150 rfl <| yI_gf_f (v := x0 + 4) zi_60_151 (zSc_k h1) rfl <| yI_iload_n zi_60_154 rfl <| yI_aload_n zi_60_155 rfl <| yI_cv zi_60_156 rfl rfl zk_2 hK
theorem zj_60_173 {K : List zF} {σ : zW} {x0 : Nat} {o2 : Option zV} {x3 : Int} (hK : K.length < 60) (h1 : zSc x0) : zEv true ((60, 173, [some (.inr (.inr x0)), some (.inr (.inr 2)), o2, some (.inl x3)], []) :: K) σ = (zEv true (zent 58 [.inr (.inr x0), .inl x3] :: (60, 178, [some (.inr (.inr x0)), some (.inr (.inr 2)), o2, some (.inl x3)], []) :: K) σ) :=
  yI_aload_n zi_60_173 rfl <| yI_iload_n zi_60_174 rfl <| yI_cv zi_60_175 rfl rfl (zSc_k h1) hK
theorem zr_60_159 {K : List zF} {σ : zW} {x0 : Nat} {o2 : Option zV} {x3 : Int} {s0 : Int} {s1b : Nat} {v : Int64} (h1 : zSc s1b) (h2 : zSc x0) : zRet true ((60, 159, [some (.inr (.inr x0)), some (.inr (.inr 2)), o2, some (.inl x3)], [.inl s0, .inr (.inr (s1b + 4))]) :: K) (some (.inr (.inl v))) σ = ((0 ≤ s0 ∧ s0 < 8) ∧ ((0 ≤ x3 ∧ x3 < 8) ∧ (if ¬ (zlc (gL (sL σ (s1b + 4) s0.toNat v) (x0 + 4) x3.toNat) 0) = 0 then zEv true ((60, 173, [some (.inr (.inr x0)), some (.inr (.inr 2)), o2, some (.inl x3)], []) :: K) (sL σ (s1b + 4) s0.toNat v) else zRet true K (some (.inl 0)) (sL σ (s1b + 4) s0.toNat v)))) :=
  yT_rt (yI_lastorec zi_60_159 (zSc_a4 h1) <| yI_aload_n zi_60_160 rfl <| yI_gf_f (v := x0 + 4) zi_60_161 (zSc_k h2) rfl <| yI_iload_n zi_60_164 rfl <| yI_laloadc (v := gL (sL σ (s1b + 4) s0.toNat v) (x0 + 4) x3.toNat) zi_60_165 (zSc_a4 h2) rfl <| yI_lconst zi_60_166 <| yI_lcmp zi_60_167 <| yI_if_ne zi_60_168 <| yBr (rfl) (yI_iconst zi_60_171 <| yI_zreturn zi_60_172 (by decide)))
theorem zr_60_178 {K : List zF} {σ : zW} {x0 : Nat} {o2 : Option zV} {x3 : Int} {v : Int} (hK : K.length < 60) (h1 : zSc x0) : zRet true ((60, 178, [some (.inr (.inr x0)), some (.inr (.inr 2)), o2, some (.inl x3)], []) :: K) (some (.inl v)) σ = (if ¬ v = 0 then zEv true (zent 62 [.inr (.inr 2)] :: (60, 192, [some (.inr (.inr x0)), some (.inr (.inr 2)), o2, some (.inl x3)], [.inl x3, .inr (.inr (x0 + 5))]) :: K) σ else zRet true K (some (.inl 1)) σ) :=
  yT_rt (yI_if_ne zi_60_178 <| yBr (yI_aload_n zi_60_183 rfl <| yI_gf_f (v := x0 + 5) zi_60_184 (zSc_k h1) rfl <| yI_iload_n zi_60_187 rfl <| yI_aload_n zi_60_188 rfl <| yI_cs zi_60_189 rfl rfl hK) (yI_iconst zi_60_181 <| yI_zreturn zi_60_182 (by decide)))
theorem zr_60_192 {K : List zF} {σ : zW} {x0 : Nat} {o2 : Option zV} {x3 : Int} {s0 : Int} {s1b : Nat} {v : Int} (hK : K.length < 60) (h1 : zSc s1b) (h2 : zSc x0) : zRet true ((60, 192, [some (.inr (.inr x0)), some (.inr (.inr 2)), o2, some (.inl x3)], [.inl s0, .inr (.inr (s1b + 5))]) :: K) (some (.inl v)) σ = ((0 ≤ s0 ∧ s0 < 8) ∧ ((0 ≤ x3 ∧ x3 < 8) ∧ (if ¬ (gI (sI σ (s1b + 5) s0.toNat v) (x0 + 5) x3.toNat) = (-1) then zEv true (zent 64 [.inr (.inr 2)] :: (60, 216, [some (.inr (.inr x0)), some (.inr (.inr 2)), o2, some (.inl x3)], [.inl x3, .inr (.inr (x0 + 3))]) :: K) (sI σ (s1b + 5) s0.toNat v) else (0 ≤ x3 ∧ x3 < 8) ∧ ((0 ≤ x3 ∧ x3 < 8) ∧ (if (-1 : Int) = (-1) then zRet true K (some (.inl 0)) (sI (sI σ (s1b + 5) s0.toNat v) (x0 + 3) x3.toNat (-1)) else zRet true K (some (.inl 1)) (sI (sI σ (s1b + 5) s0.toNat v) (x0 + 3) x3.toNat (-1))))))) :=
  yT_rt (yI_iastorec zi_60_192 (zSc_a5 h1) <| yI_aload_n zi_60_193 rfl <| yI_gf_f (v := x0 + 3) zi_60_194 (zSc_k h2) rfl <| yI_iload_n zi_60_197 rfl <| yI_aload_n zi_60_198 rfl <| yI_gf_f (v := x0 + 5) zi_60_199 (zSc_k h2) rfl <| yI_iload_n zi_60_202 rfl <| yI_ialoadc (v := gI (sI σ (s1b + 5) s0.toNat v) (x0 + 5) x3.toNat) zi_60_203 (zSc_a5 h2) rfl <| yI_iconst zi_60_204 <| yI_ic_ne zi_60_205 <| yBr (yI_aload_n zi_60_212 rfl <| yI_cs zi_60_213 rfl rfl hK) (yI_iconst zi_60_208 <| yI_goto zi_60_209 <| yI_iastorec zi_60_216 (zSc_a3 h2) <| yI_aload_n zi_60_217 rfl <| yI_gf_f (v := x0 + 3) zi_60_218 (zSc_k h2) rfl <| yI_iload_n zi_60_221 rfl <| yI_ialoadc (v := (-1)) zi_60_222 (zSc_a3 h2) (yGI_hit) <| yI_iconst zi_60_223 <| yI_ic_eq zi_60_224 <| yBr (yI_iconst zi_60_231 <| yI_zreturn zi_60_232 (by decide)) (yI_iconst zi_60_227 <| yI_goto zi_60_228 <| yI_zreturn zi_60_232 (by decide))))
theorem zr_60_216 {K : List zF} {σ : zW} {x0 : Nat} {o1 : Option zV} {o2 : Option zV} {x3 : Int} {s0 : Int} {s1b : Nat} {v : Int} (h1 : zSc s1b) (h2 : zSc x0) : zRet true ((60, 216, [some (.inr (.inr x0)), o1, o2, some (.inl x3)], [.inl s0, .inr (.inr (s1b + 3))]) :: K) (some (.inl v)) σ = ((0 ≤ s0 ∧ s0 < 8) ∧ ((0 ≤ x3 ∧ x3 < 8) ∧ (if (gI (sI σ (s1b + 3) s0.toNat v) (x0 + 3) x3.toNat) = (-1) then zRet true K (some (.inl 0)) (sI σ (s1b + 3) s0.toNat v) else zRet true K (some (.inl 1)) (sI σ (s1b + 3) s0.toNat v)))) :=
  yT_rt (yI_iastorec zi_60_216 (zSc_a3 h1) <| yI_aload_n zi_60_217 rfl <| yI_gf_f (v := x0 + 3) zi_60_218 (zSc_k h2) rfl <| yI_iload_n zi_60_221 rfl <| yI_ialoadc (v := gI (sI σ (s1b + 3) s0.toNat v) (x0 + 3) x3.toNat) zi_60_222 (zSc_a3 h2) rfl <| yI_iconst zi_60_223 <| yI_ic_eq zi_60_224 <| yBr (yI_iconst zi_60_231 <| yI_zreturn zi_60_232 (by decide)) (yI_iconst zi_60_227 <| yI_goto zi_60_228 <| yI_zreturn zi_60_232 (by decide)))
/-- 61 Treegrab$Script.kindAt(LTreegrab$Tape;)I -/
theorem zi_61_0 : zraw 61 0 = some (.aload_n 0, 1) ∧ 0 + 1 = 1 := by decide +kernel
theorem zi_61_1 : zraw 61 1 = some (.ldc 76, 2) ∧ zst (zinf 61).1 76 = some 0 ∧ 100000 + 0 = 100000 ∧ 1 + 2 = 3 := by decide +kernel
theorem zi_61_3 : zraw 61 3 = some (.invokevirtual 78, 3) ∧ zmt (zinf 61).1 78 = some 91 ∧ Nat.ble 9000 91 = false ∧ zinf 91 = (7, 2, 3, 2, 0) ∧ 3 + 3 = 6 := by decide +kernel
theorem zi_61_6 : zraw 61 6 = some (.ifCond .eq 5, 3) ∧ ((6 : Nat) : Int) + 5 = Int.ofNat 11 ∧ 6 + 3 = 9 := by decide +kernel
theorem zi_61_9 : zraw 61 9 = some (.iconst 0, 1) ∧ zin 128 0 = true ∧ 9 + 1 = 10 := by decide +kernel
theorem zi_61_10 : zraw 61 10 = some (.ireturn, 1) ∧ (zinf 61).2.2.2.1 = 1 := by decide +kernel
theorem zi_61_11 : zraw 61 11 = some (.aload_n 0, 1) ∧ 11 + 1 = 12 := by decide +kernel
theorem zi_61_12 : zraw 61 12 = some (.ldc 82, 2) ∧ zst (zinf 61).1 82 = some 1 ∧ 100000 + 1 = 100001 ∧ 12 + 2 = 14 := by decide +kernel
theorem zi_61_14 : zraw 61 14 = some (.invokevirtual 78, 3) ∧ zmt (zinf 61).1 78 = some 91 ∧ Nat.ble 9000 91 = false ∧ zinf 91 = (7, 2, 3, 2, 0) ∧ 14 + 3 = 17 := by decide +kernel
theorem zi_61_17 : zraw 61 17 = some (.ifCond .eq 5, 3) ∧ ((17 : Nat) : Int) + 5 = Int.ofNat 22 ∧ 17 + 3 = 20 := by decide +kernel
theorem zi_61_20 : zraw 61 20 = some (.iconst 1, 1) ∧ zin 128 1 = true ∧ 20 + 1 = 21 := by decide +kernel
theorem zi_61_21 : zraw 61 21 = some (.ireturn, 1) ∧ (zinf 61).2.2.2.1 = 1 := by decide +kernel
theorem zi_61_22 : zraw 61 22 = some (.aload_n 0, 1) ∧ 22 + 1 = 23 := by decide +kernel
theorem zi_61_23 : zraw 61 23 = some (.ldc 84, 2) ∧ zst (zinf 61).1 84 = some 2 ∧ 100000 + 2 = 100002 ∧ 23 + 2 = 25 := by decide +kernel
theorem zi_61_25 : zraw 61 25 = some (.invokevirtual 78, 3) ∧ zmt (zinf 61).1 78 = some 91 ∧ Nat.ble 9000 91 = false ∧ zinf 91 = (7, 2, 3, 2, 0) ∧ 25 + 3 = 28 := by decide +kernel
theorem zi_61_28 : zraw 61 28 = some (.ifCond .eq 5, 3) ∧ ((28 : Nat) : Int) + 5 = Int.ofNat 33 ∧ 28 + 3 = 31 := by decide +kernel
theorem zi_61_31 : zraw 61 31 = some (.iconst 2, 1) ∧ zin 128 2 = true ∧ 31 + 1 = 32 := by decide +kernel
theorem zi_61_32 : zraw 61 32 = some (.ireturn, 1) ∧ (zinf 61).2.2.2.1 = 1 := by decide +kernel
theorem zi_61_33 : zraw 61 33 = some (.aload_n 0, 1) ∧ 33 + 1 = 34 := by decide +kernel
theorem zi_61_34 : zraw 61 34 = some (.ldc 86, 2) ∧ zst (zinf 61).1 86 = some 3 ∧ 100000 + 3 = 100003 ∧ 34 + 2 = 36 := by decide +kernel
theorem zi_61_36 : zraw 61 36 = some (.invokevirtual 78, 3) ∧ zmt (zinf 61).1 78 = some 91 ∧ Nat.ble 9000 91 = false ∧ zinf 91 = (7, 2, 3, 2, 0) ∧ 36 + 3 = 39 := by decide +kernel
theorem zi_61_39 : zraw 61 39 = some (.ifCond .eq 5, 3) ∧ ((39 : Nat) : Int) + 5 = Int.ofNat 44 ∧ 39 + 3 = 42 := by decide +kernel
theorem zi_61_42 : zraw 61 42 = some (.iconst 3, 1) ∧ zin 128 3 = true ∧ 42 + 1 = 43 := by decide +kernel
theorem zi_61_43 : zraw 61 43 = some (.ireturn, 1) ∧ (zinf 61).2.2.2.1 = 1 := by decide +kernel
theorem zi_61_44 : zraw 61 44 = some (.aload_n 0, 1) ∧ 44 + 1 = 45 := by decide +kernel
theorem zi_61_45 : zraw 61 45 = some (.ldc 88, 2) ∧ zst (zinf 61).1 88 = some 4 ∧ 100000 + 4 = 100004 ∧ 45 + 2 = 47 := by decide +kernel
theorem zi_61_47 : zraw 61 47 = some (.invokevirtual 78, 3) ∧ zmt (zinf 61).1 78 = some 91 ∧ Nat.ble 9000 91 = false ∧ zinf 91 = (7, 2, 3, 2, 0) ∧ 47 + 3 = 50 := by decide +kernel
theorem zi_61_50 : zraw 61 50 = some (.ifCond .eq 5, 3) ∧ ((50 : Nat) : Int) + 5 = Int.ofNat 55 ∧ 50 + 3 = 53 := by decide +kernel
theorem zi_61_53 : zraw 61 53 = some (.iconst 4, 1) ∧ zin 128 4 = true ∧ 53 + 1 = 54 := by decide +kernel
theorem zi_61_54 : zraw 61 54 = some (.ireturn, 1) ∧ (zinf 61).2.2.2.1 = 1 := by decide +kernel
theorem zi_61_55 : zraw 61 55 = some (.aload_n 0, 1) ∧ 55 + 1 = 56 := by decide +kernel
theorem zi_61_56 : zraw 61 56 = some (.ldc 90, 2) ∧ zst (zinf 61).1 90 = some 5 ∧ 100000 + 5 = 100005 ∧ 56 + 2 = 58 := by decide +kernel
theorem zi_61_58 : zraw 61 58 = some (.invokevirtual 78, 3) ∧ zmt (zinf 61).1 78 = some 91 ∧ Nat.ble 9000 91 = false ∧ zinf 91 = (7, 2, 3, 2, 0) ∧ 58 + 3 = 61 := by decide +kernel
theorem zi_61_61 : zraw 61 61 = some (.ifCond .eq 7, 3) ∧ ((61 : Nat) : Int) + 7 = Int.ofNat 68 ∧ 61 + 3 = 64 := by decide +kernel
theorem zi_61_64 : zraw 61 64 = some (.iconst 5, 1) ∧ zin 128 5 = true ∧ 64 + 1 = 65 := by decide +kernel
theorem zi_61_65 : zraw 61 65 = some (.goto 4, 3) ∧ ((65 : Nat) : Int) + 4 = Int.ofNat 69 := by decide +kernel
theorem zi_61_68 : zraw 61 68 = some (.iconst (-1), 1) ∧ zin 128 (-1) = true ∧ 68 + 1 = 69 := by decide +kernel
theorem zi_61_69 : zraw 61 69 = some (.ireturn, 1) ∧ (zinf 61).2.2.2.1 = 1 := by decide +kernel
theorem ze_61 {K : List zF} {σ : zW} (hK : K.length < 60) : zEv true (zent 61 [.inr (.inr 2)] :: K) σ = (zEv true (zent 91 [.inr (.inr 2), .inr (.inr 100000)] :: (61, 6, [some (.inr (.inr 2))], []) :: K) σ) :=
  yT_en (f := (61, 0, [some (.inr (.inr 2))], [])) rfl (yI_aload_n zi_61_0 rfl <| yI_ldc zi_61_1 <| yI_cv zi_61_3 rfl rfl zk_2 hK)
theorem zr_61_6 {K : List zF} {σ : zW} {v : Int} (hK : K.length < 60) : zRet true ((61, 6, [some (.inr (.inr 2))], []) :: K) (some (.inl v)) σ = (if v = 0 then zEv true (zent 91 [.inr (.inr 2), .inr (.inr 100001)] :: (61, 17, [some (.inr (.inr 2))], []) :: K) σ else zRet true K (some (.inl 0)) σ) :=
  yT_rt (yI_if_eq zi_61_6 <| yBr (yI_aload_n zi_61_11 rfl <| yI_ldc zi_61_12 <| yI_cv zi_61_14 rfl rfl zk_2 hK) (yI_iconst zi_61_9 <| yI_ireturn zi_61_10))
theorem zr_61_17 {K : List zF} {σ : zW} {v : Int} (hK : K.length < 60) : zRet true ((61, 17, [some (.inr (.inr 2))], []) :: K) (some (.inl v)) σ = (if v = 0 then zEv true (zent 91 [.inr (.inr 2), .inr (.inr 100002)] :: (61, 28, [some (.inr (.inr 2))], []) :: K) σ else zRet true K (some (.inl 1)) σ) :=
  yT_rt (yI_if_eq zi_61_17 <| yBr (yI_aload_n zi_61_22 rfl <| yI_ldc zi_61_23 <| yI_cv zi_61_25 rfl rfl zk_2 hK) (yI_iconst zi_61_20 <| yI_ireturn zi_61_21))
theorem zr_61_28 {K : List zF} {σ : zW} {v : Int} (hK : K.length < 60) : zRet true ((61, 28, [some (.inr (.inr 2))], []) :: K) (some (.inl v)) σ = (if v = 0 then zEv true (zent 91 [.inr (.inr 2), .inr (.inr 100003)] :: (61, 39, [some (.inr (.inr 2))], []) :: K) σ else zRet true K (some (.inl 2)) σ) :=
  yT_rt (yI_if_eq zi_61_28 <| yBr (yI_aload_n zi_61_33 rfl <| yI_ldc zi_61_34 <| yI_cv zi_61_36 rfl rfl zk_2 hK) (yI_iconst zi_61_31 <| yI_ireturn zi_61_32))
theorem zr_61_39 {K : List zF} {σ : zW} {v : Int} (hK : K.length < 60) : zRet true ((61, 39, [some (.inr (.inr 2))], []) :: K) (some (.inl v)) σ = (if v = 0 then zEv true (zent 91 [.inr (.inr 2), .inr (.inr 100004)] :: (61, 50, [some (.inr (.inr 2))], []) :: K) σ else zRet true K (some (.inl 3)) σ) :=
  yT_rt (yI_if_eq zi_61_39 <| yBr (yI_aload_n zi_61_44 rfl <| yI_ldc zi_61_45 <| yI_cv zi_61_47 rfl rfl zk_2 hK) (yI_iconst zi_61_42 <| yI_ireturn zi_61_43))
theorem zr_61_50 {K : List zF} {σ : zW} {v : Int} (hK : K.length < 60) : zRet true ((61, 50, [some (.inr (.inr 2))], []) :: K) (some (.inl v)) σ = (if v = 0 then zEv true (zent 91 [.inr (.inr 2), .inr (.inr 100005)] :: (61, 61, [some (.inr (.inr 2))], []) :: K) σ else zRet true K (some (.inl 4)) σ) :=
  yT_rt (yI_if_eq zi_61_50 <| yBr (yI_aload_n zi_61_55 rfl <| yI_ldc zi_61_56 <| yI_cv zi_61_58 rfl rfl zk_2 hK) (yI_iconst zi_61_53 <| yI_ireturn zi_61_54))
theorem zr_61_61 {K : List zF} {σ : zW} {o0 : Option zV} {v : Int} : zRet true ((61, 61, [o0], []) :: K) (some (.inl v)) σ = (zRet true K (some (.inl (if v = 0 then (-1) else 5 : Int))) σ) :=
  yT_rt (yI_if_eq zi_61_61 <| yMi0 (j := 69) (ls2 := [o0]) (st2 := []) (x := (-1)) (y := 5) (σ2 := σ) (yI_iconst zi_61_68 <| rfl) (yI_iconst zi_61_64 <| yI_goto zi_61_65 <| rfl) <| yI_ireturn zi_61_69)
/-- 62 Treegrab$Script.readWhere(LTreegrab$Tape;)I -/
theorem zi_62_0 : zraw 62 0 = some (.aload_n 0, 1) ∧ 0 + 1 = 1 := by decide +kernel
theorem zi_62_1 : zraw 62 1 = some (.invokevirtual 37, 3) ∧ zmt (zinf 62).1 37 = some 85 ∧ Nat.ble 9000 85 = false ∧ zinf 85 = (7, 1, 1, 1, 0) ∧ 1 + 3 = 4 := by decide +kernel
theorem zi_62_4 : zraw 62 4 = some (.pop, 1) ∧ 4 + 1 = 5 := by decide +kernel
theorem zi_62_5 : zraw 62 5 = some (.aload_n 0, 1) ∧ 5 + 1 = 6 := by decide +kernel
theorem zi_62_6 : zraw 62 6 = some (.invokestatic 92, 3) ∧ zmt (zinf 62).1 92 = some 63 ∧ Nat.ble 9000 63 = false ∧ zinf 63 = (5, 1, 1, 1, 1) ∧ 6 + 3 = 9 := by decide +kernel
theorem zi_62_9 : zraw 62 9 = some (.istore_n 1, 1) ∧ 9 + 1 = 10 := by decide +kernel
theorem zi_62_10 : zraw 62 10 = some (.iload_n 1, 1) ∧ 10 + 1 = 11 := by decide +kernel
theorem zi_62_11 : zraw 62 11 = some (.iconst (-1), 1) ∧ zin 128 (-1) = true ∧ 11 + 1 = 12 := by decide +kernel
theorem zi_62_12 : zraw 62 12 = some (.if_icmp .ne 15, 3) ∧ ((12 : Nat) : Int) + 15 = Int.ofNat 27 ∧ 12 + 3 = 15 := by decide +kernel
theorem zi_62_15 : zraw 62 15 = some (.aload_n 0, 1) ∧ 15 + 1 = 16 := by decide +kernel
theorem zi_62_16 : zraw 62 16 = some (.iconst 1, 1) ∧ zin 128 1 = true ∧ 16 + 1 = 17 := by decide +kernel
theorem zi_62_17 : zraw 62 17 = some (.aload_n 0, 1) ∧ 17 + 1 = 18 := by decide +kernel
theorem zi_62_18 : zraw 62 18 = some (.getfield 45, 3) ∧ zft (zinf 62).1 45 = some (7, 2, 0, false) ∧ 18 + 3 = 21 := by decide +kernel
theorem zi_62_21 : zraw 62 21 = some (.invokevirtual 48, 3) ∧ zmt (zinf 62).1 48 = some 86 ∧ Nat.ble 9000 86 = false ∧ zinf 86 = (7, 3, 3, 2, 0) ∧ 21 + 3 = 24 := by decide +kernel
theorem zi_62_24 : zraw 62 24 = some (.pop, 1) ∧ 24 + 1 = 25 := by decide +kernel
theorem zi_62_25 : zraw 62 25 = some (.iconst (-1), 1) ∧ zin 128 (-1) = true ∧ 25 + 1 = 26 := by decide +kernel
theorem zi_62_26 : zraw 62 26 = some (.ireturn, 1) ∧ (zinf 62).2.2.2.1 = 1 := by decide +kernel
theorem zi_62_27 : zraw 62 27 = some (.aload_n 0, 1) ∧ 27 + 1 = 28 := by decide +kernel
theorem zi_62_28 : zraw 62 28 = some (.dup, 1) ∧ 28 + 1 = 29 := by decide +kernel
theorem zi_62_29 : zraw 62 29 = some (.getfield 45, 3) ∧ zft (zinf 62).1 45 = some (7, 2, 0, false) ∧ 29 + 3 = 32 := by decide +kernel
theorem zi_62_32 : zraw 62 32 = some (.aload_n 0, 1) ∧ 32 + 1 = 33 := by decide +kernel
theorem zi_62_33 : zraw 62 33 = some (.invokevirtual 56, 3) ∧ zmt (zinf 62).1 56 = some 87 ∧ Nat.ble 9000 87 = false ∧ zinf 87 = (7, 1, 2, 1, 0) ∧ 33 + 3 = 36 := by decide +kernel
theorem zi_62_36 : zraw 62 36 = some (.iadd, 1) ∧ 36 + 1 = 37 := by decide +kernel
theorem zi_62_37 : zraw 62 37 = some (.putfield 45, 3) ∧ zft (zinf 62).1 45 = some (7, 2, 0, false) ∧ 37 + 3 = 40 := by decide +kernel
theorem zi_62_40 : zraw 62 40 = some (.iload_n 1, 1) ∧ 40 + 1 = 41 := by decide +kernel
theorem zi_62_41 : zraw 62 41 = some (.ireturn, 1) ∧ (zinf 62).2.2.2.1 = 1 := by decide +kernel
theorem ze_62 {K : List zF} {σ : zW} (hK : K.length < 60) : zEv true (zent 62 [.inr (.inr 2)] :: K) σ = (zEv true (zent 85 [.inr (.inr 2)] :: (62, 4, [some (.inr (.inr 2)), none], []) :: K) σ) :=
  yT_en (f := (62, 0, [some (.inr (.inr 2)), none], [])) rfl (yI_aload_n zi_62_0 rfl <| yI_cv zi_62_1 rfl rfl zk_2 hK)
theorem zr_62_4 {K : List zF} {σ : zW} {o1 : Option zV} {v : Int} (hK : K.length < 60) : zRet true ((62, 4, [some (.inr (.inr 2)), o1], []) :: K) (some (.inl v)) σ = (zEv true (zent 63 [.inr (.inr 2)] :: (62, 9, [some (.inr (.inr 2)), o1], []) :: K) σ) :=
  yT_rt (yI_pop_i zi_62_4 <| yI_aload_n zi_62_5 rfl <| yI_cs zi_62_6 rfl rfl hK)
theorem zr_62_9 {K : List zF} {σ : zW} {o1 : Option zV} {v : Int} (hK : K.length < 60) : zRet true ((62, 9, [some (.inr (.inr 2)), o1], []) :: K) (some (.inl v)) σ = (if ¬ v = (-1) then zEv true (zent 87 [.inr (.inr 2)] :: (62, 36, [some (.inr (.inr 2)), some (.inl v)], [.inl (gI σ 2 2), .inr (.inr 2)]) :: K) σ else zEv true (zent 86 [.inr (.inr 2), .inl 1, .inl (gI σ 2 2)] :: (62, 24, [some (.inr (.inr 2)), some (.inl v)], []) :: K) σ) :=
  yT_rt (yI_istore_n (l := [some (.inr (.inr 2)), some (.inl v)]) zi_62_9 rfl rfl <| yI_iload_n zi_62_10 rfl <| yI_iconst zi_62_11 <| yI_ic_ne zi_62_12 <| yBr (yI_aload_n zi_62_27 rfl <| yI_dup_r zi_62_28 <| yI_gf_i (v := gI σ 2 2) zi_62_29 zk_2 rfl <| yI_aload_n zi_62_32 rfl <| yI_cv zi_62_33 rfl rfl zk_2 hK) (yI_aload_n zi_62_15 rfl <| yI_iconst zi_62_16 <| yI_aload_n zi_62_17 rfl <| yI_gf_i (v := gI σ 2 2) zi_62_18 zk_2 rfl <| yI_cv zi_62_21 rfl rfl zk_2 hK))
theorem zr_62_36 {K : List zF} {σ : zW} {o0 : Option zV} {x1 : Int} {s0 : Int} {v : Int} : zRet true ((62, 36, [o0, some (.inl x1)], [.inl s0, .inr (.inr 2)]) :: K) (some (.inl v)) σ = (zRet true K (some (.inl x1)) (sI σ 2 2 (w32 (s0 + v)))) :=
  yT_rt (yI_iadd zi_62_36 <| yI_pf_i zi_62_37 zk_2 <| yI_iload_n zi_62_40 rfl <| yI_ireturn zi_62_41)
theorem zr_62_24 {K : List zF} {σ : zW} {o0 : Option zV} {o1 : Option zV} {v : Int} : zRet true ((62, 24, [o0, o1], []) :: K) (some (.inl v)) σ = (zRet true K (some (.inl (-1))) σ) :=
  yT_rt (yI_pop_i zi_62_24 <| yI_iconst zi_62_25 <| yI_ireturn zi_62_26)
/-- 63 Treegrab$Script.whereAt(LTreegrab$Tape;)I -/
theorem zi_63_0 : zraw 63 0 = some (.aload_n 0, 1) ∧ 0 + 1 = 1 := by decide +kernel
theorem zi_63_1 : zraw 63 1 = some (.ldc 95, 2) ∧ zst (zinf 63).1 95 = some 6 ∧ 100000 + 6 = 100006 ∧ 1 + 2 = 3 := by decide +kernel
theorem zi_63_3 : zraw 63 3 = some (.invokevirtual 78, 3) ∧ zmt (zinf 63).1 78 = some 91 ∧ Nat.ble 9000 91 = false ∧ zinf 91 = (7, 2, 3, 2, 0) ∧ 3 + 3 = 6 := by decide +kernel
theorem zi_63_6 : zraw 63 6 = some (.ifCond .eq 5, 3) ∧ ((6 : Nat) : Int) + 5 = Int.ofNat 11 ∧ 6 + 3 = 9 := by decide +kernel
theorem zi_63_9 : zraw 63 9 = some (.iconst 0, 1) ∧ zin 128 0 = true ∧ 9 + 1 = 10 := by decide +kernel
theorem zi_63_10 : zraw 63 10 = some (.ireturn, 1) ∧ (zinf 63).2.2.2.1 = 1 := by decide +kernel
theorem zi_63_11 : zraw 63 11 = some (.aload_n 0, 1) ∧ 11 + 1 = 12 := by decide +kernel
theorem zi_63_12 : zraw 63 12 = some (.ldc 97, 2) ∧ zst (zinf 63).1 97 = some 7 ∧ 100000 + 7 = 100007 ∧ 12 + 2 = 14 := by decide +kernel
theorem zi_63_14 : zraw 63 14 = some (.invokevirtual 78, 3) ∧ zmt (zinf 63).1 78 = some 91 ∧ Nat.ble 9000 91 = false ∧ zinf 91 = (7, 2, 3, 2, 0) ∧ 14 + 3 = 17 := by decide +kernel
theorem zi_63_17 : zraw 63 17 = some (.ifCond .eq 5, 3) ∧ ((17 : Nat) : Int) + 5 = Int.ofNat 22 ∧ 17 + 3 = 20 := by decide +kernel
theorem zi_63_20 : zraw 63 20 = some (.iconst 1, 1) ∧ zin 128 1 = true ∧ 20 + 1 = 21 := by decide +kernel
theorem zi_63_21 : zraw 63 21 = some (.ireturn, 1) ∧ (zinf 63).2.2.2.1 = 1 := by decide +kernel
theorem zi_63_22 : zraw 63 22 = some (.aload_n 0, 1) ∧ 22 + 1 = 23 := by decide +kernel
theorem zi_63_23 : zraw 63 23 = some (.ldc 99, 2) ∧ zst (zinf 63).1 99 = some 8 ∧ 100000 + 8 = 100008 ∧ 23 + 2 = 25 := by decide +kernel
theorem zi_63_25 : zraw 63 25 = some (.invokevirtual 78, 3) ∧ zmt (zinf 63).1 78 = some 91 ∧ Nat.ble 9000 91 = false ∧ zinf 91 = (7, 2, 3, 2, 0) ∧ 25 + 3 = 28 := by decide +kernel
theorem zi_63_28 : zraw 63 28 = some (.ifCond .eq 5, 3) ∧ ((28 : Nat) : Int) + 5 = Int.ofNat 33 ∧ 28 + 3 = 31 := by decide +kernel
theorem zi_63_31 : zraw 63 31 = some (.iconst 2, 1) ∧ zin 128 2 = true ∧ 31 + 1 = 32 := by decide +kernel
theorem zi_63_32 : zraw 63 32 = some (.ireturn, 1) ∧ (zinf 63).2.2.2.1 = 1 := by decide +kernel
theorem zi_63_33 : zraw 63 33 = some (.aload_n 0, 1) ∧ 33 + 1 = 34 := by decide +kernel
theorem zi_63_34 : zraw 63 34 = some (.ldc 101, 2) ∧ zst (zinf 63).1 101 = some 9 ∧ 100000 + 9 = 100009 ∧ 34 + 2 = 36 := by decide +kernel
theorem zi_63_36 : zraw 63 36 = some (.invokevirtual 78, 3) ∧ zmt (zinf 63).1 78 = some 91 ∧ Nat.ble 9000 91 = false ∧ zinf 91 = (7, 2, 3, 2, 0) ∧ 36 + 3 = 39 := by decide +kernel
theorem zi_63_39 : zraw 63 39 = some (.ifCond .eq 7, 3) ∧ ((39 : Nat) : Int) + 7 = Int.ofNat 46 ∧ 39 + 3 = 42 := by decide +kernel
theorem zi_63_42 : zraw 63 42 = some (.iconst 3, 1) ∧ zin 128 3 = true ∧ 42 + 1 = 43 := by decide +kernel
theorem zi_63_43 : zraw 63 43 = some (.goto 4, 3) ∧ ((43 : Nat) : Int) + 4 = Int.ofNat 47 := by decide +kernel
theorem zi_63_46 : zraw 63 46 = some (.iconst (-1), 1) ∧ zin 128 (-1) = true ∧ 46 + 1 = 47 := by decide +kernel
theorem zi_63_47 : zraw 63 47 = some (.ireturn, 1) ∧ (zinf 63).2.2.2.1 = 1 := by decide +kernel
theorem ze_63 {K : List zF} {σ : zW} (hK : K.length < 60) : zEv true (zent 63 [.inr (.inr 2)] :: K) σ = (zEv true (zent 91 [.inr (.inr 2), .inr (.inr 100006)] :: (63, 6, [some (.inr (.inr 2))], []) :: K) σ) :=
  yT_en (f := (63, 0, [some (.inr (.inr 2))], [])) rfl (yI_aload_n zi_63_0 rfl <| yI_ldc zi_63_1 <| yI_cv zi_63_3 rfl rfl zk_2 hK)
theorem zr_63_6 {K : List zF} {σ : zW} {v : Int} (hK : K.length < 60) : zRet true ((63, 6, [some (.inr (.inr 2))], []) :: K) (some (.inl v)) σ = (if v = 0 then zEv true (zent 91 [.inr (.inr 2), .inr (.inr 100007)] :: (63, 17, [some (.inr (.inr 2))], []) :: K) σ else zRet true K (some (.inl 0)) σ) :=
  yT_rt (yI_if_eq zi_63_6 <| yBr (yI_aload_n zi_63_11 rfl <| yI_ldc zi_63_12 <| yI_cv zi_63_14 rfl rfl zk_2 hK) (yI_iconst zi_63_9 <| yI_ireturn zi_63_10))
theorem zr_63_17 {K : List zF} {σ : zW} {v : Int} (hK : K.length < 60) : zRet true ((63, 17, [some (.inr (.inr 2))], []) :: K) (some (.inl v)) σ = (if v = 0 then zEv true (zent 91 [.inr (.inr 2), .inr (.inr 100008)] :: (63, 28, [some (.inr (.inr 2))], []) :: K) σ else zRet true K (some (.inl 1)) σ) :=
  yT_rt (yI_if_eq zi_63_17 <| yBr (yI_aload_n zi_63_22 rfl <| yI_ldc zi_63_23 <| yI_cv zi_63_25 rfl rfl zk_2 hK) (yI_iconst zi_63_20 <| yI_ireturn zi_63_21))
theorem zr_63_28 {K : List zF} {σ : zW} {v : Int} (hK : K.length < 60) : zRet true ((63, 28, [some (.inr (.inr 2))], []) :: K) (some (.inl v)) σ = (if v = 0 then zEv true (zent 91 [.inr (.inr 2), .inr (.inr 100009)] :: (63, 39, [some (.inr (.inr 2))], []) :: K) σ else zRet true K (some (.inl 2)) σ) :=
  yT_rt (yI_if_eq zi_63_28 <| yBr (yI_aload_n zi_63_33 rfl <| yI_ldc zi_63_34 <| yI_cv zi_63_36 rfl rfl zk_2 hK) (yI_iconst zi_63_31 <| yI_ireturn zi_63_32))
theorem zr_63_39 {K : List zF} {σ : zW} {o0 : Option zV} {v : Int} : zRet true ((63, 39, [o0], []) :: K) (some (.inl v)) σ = (zRet true K (some (.inl (if v = 0 then (-1) else 3 : Int))) σ) :=
  yT_rt (yI_if_eq zi_63_39 <| yMi0 (j := 47) (ls2 := [o0]) (st2 := []) (x := (-1)) (y := 3) (σ2 := σ) (yI_iconst zi_63_46 <| rfl) (yI_iconst zi_63_42 <| yI_goto zi_63_43 <| rfl) <| yI_ireturn zi_63_47)
/-- 64 Treegrab$Script.readName(LTreegrab$Tape;)I -/
theorem zi_64_0 : zraw 64 0 = some (.aload_n 0, 1) ∧ 0 + 1 = 1 := by decide +kernel
theorem zi_64_1 : zraw 64 1 = some (.invokevirtual 37, 3) ∧ zmt (zinf 64).1 37 = some 85 ∧ Nat.ble 9000 85 = false ∧ zinf 85 = (7, 1, 1, 1, 0) ∧ 1 + 3 = 4 := by decide +kernel
theorem zi_64_4 : zraw 64 4 = some (.istore_n 1, 1) ∧ 4 + 1 = 5 := by decide +kernel
theorem zi_64_5 : zraw 64 5 = some (.aload_n 0, 1) ∧ 5 + 1 = 6 := by decide +kernel
theorem zi_64_6 : zraw 64 6 = some (.invokevirtual 56, 3) ∧ zmt (zinf 64).1 56 = some 87 ∧ Nat.ble 9000 87 = false ∧ zinf 87 = (7, 1, 2, 1, 0) ∧ 6 + 3 = 9 := by decide +kernel
theorem zi_64_9 : zraw 64 9 = some (.iconst 1, 1) ∧ zin 128 1 = true ∧ 9 + 1 = 10 := by decide +kernel
theorem zi_64_10 : zraw 64 10 = some (.if_icmp .ne 10, 3) ∧ ((10 : Nat) : Int) + 10 = Int.ofNat 20 ∧ 10 + 3 = 13 := by decide +kernel
theorem zi_64_13 : zraw 64 13 = some (.iload_n 1, 1) ∧ 13 + 1 = 14 := by decide +kernel
theorem zi_64_14 : zraw 64 14 = some (.invokestatic 103, 3) ∧ zmt (zinf 64).1 103 = some 137 ∧ Nat.ble 9000 137 = false ∧ zinf 137 = (9, 1, 1, 2, 1) ∧ 14 + 3 = 17 := by decide +kernel
theorem zi_64_17 : zraw 64 17 = some (.ifCond .ne 15, 3) ∧ ((17 : Nat) : Int) + 15 = Int.ofNat 32 ∧ 17 + 3 = 20 := by decide +kernel
theorem zi_64_20 : zraw 64 20 = some (.aload_n 0, 1) ∧ 20 + 1 = 21 := by decide +kernel
theorem zi_64_21 : zraw 64 21 = some (.iconst 1, 1) ∧ zin 128 1 = true ∧ 21 + 1 = 22 := by decide +kernel
theorem zi_64_22 : zraw 64 22 = some (.aload_n 0, 1) ∧ 22 + 1 = 23 := by decide +kernel
theorem zi_64_23 : zraw 64 23 = some (.getfield 45, 3) ∧ zft (zinf 64).1 45 = some (7, 2, 0, false) ∧ 23 + 3 = 26 := by decide +kernel
theorem zi_64_26 : zraw 64 26 = some (.invokevirtual 48, 3) ∧ zmt (zinf 64).1 48 = some 86 ∧ Nat.ble 9000 86 = false ∧ zinf 86 = (7, 3, 3, 2, 0) ∧ 26 + 3 = 29 := by decide +kernel
theorem zi_64_29 : zraw 64 29 = some (.pop, 1) ∧ 29 + 1 = 30 := by decide +kernel
theorem zi_64_30 : zraw 64 30 = some (.iconst (-1), 1) ∧ zin 128 (-1) = true ∧ 30 + 1 = 31 := by decide +kernel
theorem zi_64_31 : zraw 64 31 = some (.ireturn, 1) ∧ (zinf 64).2.2.2.1 = 1 := by decide +kernel
theorem zi_64_32 : zraw 64 32 = some (.aload_n 0, 1) ∧ 32 + 1 = 33 := by decide +kernel
theorem zi_64_33 : zraw 64 33 = some (.dup, 1) ∧ 33 + 1 = 34 := by decide +kernel
theorem zi_64_34 : zraw 64 34 = some (.getfield 45, 3) ∧ zft (zinf 64).1 45 = some (7, 2, 0, false) ∧ 34 + 3 = 37 := by decide +kernel
theorem zi_64_37 : zraw 64 37 = some (.iconst 1, 1) ∧ zin 128 1 = true ∧ 37 + 1 = 38 := by decide +kernel
theorem zi_64_38 : zraw 64 38 = some (.iadd, 1) ∧ 38 + 1 = 39 := by decide +kernel
theorem zi_64_39 : zraw 64 39 = some (.putfield 45, 3) ∧ zft (zinf 64).1 45 = some (7, 2, 0, false) ∧ 39 + 3 = 42 := by decide +kernel
theorem zi_64_42 : zraw 64 42 = some (.iload_n 1, 1) ∧ 42 + 1 = 43 := by decide +kernel
theorem zi_64_43 : zraw 64 43 = some (.bipush 97, 2) ∧ zin 128 97 = true ∧ 43 + 2 = 45 := by decide +kernel
theorem zi_64_45 : zraw 64 45 = some (.isub, 1) ∧ 45 + 1 = 46 := by decide +kernel
theorem zi_64_46 : zraw 64 46 = some (.ireturn, 1) ∧ (zinf 64).2.2.2.1 = 1 := by decide +kernel
theorem ze_64 {K : List zF} {σ : zW} (hK : K.length < 60) : zEv true (zent 64 [.inr (.inr 2)] :: K) σ = (zEv true (zent 85 [.inr (.inr 2)] :: (64, 4, [some (.inr (.inr 2)), none], []) :: K) σ) :=
  yT_en (f := (64, 0, [some (.inr (.inr 2)), none], [])) rfl (yI_aload_n zi_64_0 rfl <| yI_cv zi_64_1 rfl rfl zk_2 hK)
theorem zr_64_4 {K : List zF} {σ : zW} {o1 : Option zV} {v : Int} (hK : K.length < 60) : zRet true ((64, 4, [some (.inr (.inr 2)), o1], []) :: K) (some (.inl v)) σ = (zEv true (zent 87 [.inr (.inr 2)] :: (64, 9, [some (.inr (.inr 2)), some (.inl v)], []) :: K) σ) :=
  yT_rt (yI_istore_n (l := [some (.inr (.inr 2)), some (.inl v)]) zi_64_4 rfl rfl <| yI_aload_n zi_64_5 rfl <| yI_cv zi_64_6 rfl rfl zk_2 hK)
theorem zr_64_9 {K : List zF} {σ : zW} {x1 : Int} {v : Int} (hK : K.length < 60) : zRet true ((64, 9, [some (.inr (.inr 2)), some (.inl x1)], []) :: K) (some (.inl v)) σ = (if ¬ v = 1 then zEv true ((64, 20, [some (.inr (.inr 2)), some (.inl x1)], []) :: K) σ else zEv true (zent 137 [.inl x1] :: (64, 17, [some (.inr (.inr 2)), some (.inl x1)], []) :: K) σ) :=
  yT_rt (yI_iconst zi_64_9 <| yI_ic_ne zi_64_10 <| yBr (rfl) (yI_iload_n zi_64_13 rfl <| yI_cs zi_64_14 rfl rfl hK))
theorem zj_64_20 {K : List zF} {σ : zW} {o1 : Option zV} (hK : K.length < 60) : zEv true ((64, 20, [some (.inr (.inr 2)), o1], []) :: K) σ = (zEv true (zent 86 [.inr (.inr 2), .inl 1, .inl (gI σ 2 2)] :: (64, 29, [some (.inr (.inr 2)), o1], []) :: K) σ) :=
  yI_aload_n zi_64_20 rfl <| yI_iconst zi_64_21 <| yI_aload_n zi_64_22 rfl <| yI_gf_i (v := gI σ 2 2) zi_64_23 zk_2 rfl <| yI_cv zi_64_26 rfl rfl zk_2 hK
theorem zr_64_17 {K : List zF} {σ : zW} {x1 : Int} {v : Int} : zRet true ((64, 17, [some (.inr (.inr 2)), some (.inl x1)], []) :: K) (some (.inl v)) σ = (if ¬ v = 0 then zRet true K (some (.inl (w32 (x1 - 97)))) (sI σ 2 2 (w32 ((gI σ 2 2) + 1))) else zEv true ((64, 20, [some (.inr (.inr 2)), some (.inl x1)], []) :: K) σ) :=
  yT_rt (yI_if_ne zi_64_17 <| yBr (yI_aload_n zi_64_32 rfl <| yI_dup_r zi_64_33 <| yI_gf_i (v := gI σ 2 2) zi_64_34 zk_2 rfl <| yI_iconst zi_64_37 <| yI_iadd zi_64_38 <| yI_pf_i zi_64_39 zk_2 <| yI_iload_n zi_64_42 rfl <| yI_bipush zi_64_43 <| yI_isub zi_64_45 <| yI_ireturn zi_64_46) (rfl))
theorem zr_64_29 {K : List zF} {σ : zW} {o0 : Option zV} {o1 : Option zV} {v : Int} : zRet true ((64, 29, [o0, o1], []) :: K) (some (.inl v)) σ = (zRet true K (some (.inl (-1))) σ) :=
  yT_rt (yI_pop_i zi_64_29 <| yI_iconst zi_64_30 <| yI_ireturn zi_64_31)
/-- 66 Treegrab$Search.prepare(LTreegrab$Tree;LTreegrab$Pattern;)V -/
theorem zi_66_0 : zraw 66 0 = some (.aload_n 0, 1) ∧ 0 + 1 = 1 := by decide +kernel
theorem zi_66_1 : zraw 66 1 = some (.aload_n 1, 1) ∧ 1 + 1 = 2 := by decide +kernel
theorem zi_66_2 : zraw 66 2 = some (.putfield 36, 3) ∧ zft (zinf 66).1 36 = some (6, 10, 3, false) ∧ 2 + 3 = 5 := by decide +kernel
theorem zi_66_5 : zraw 66 5 = some (.aload_n 0, 1) ∧ 5 + 1 = 6 := by decide +kernel
theorem zi_66_6 : zraw 66 6 = some (.aload_n 2, 1) ∧ 6 + 1 = 7 := by decide +kernel
theorem zi_66_7 : zraw 66 7 = some (.putfield 40, 3) ∧ zft (zinf 66).1 40 = some (6, 11, 3, false) ∧ 7 + 3 = 10 := by decide +kernel
theorem zi_66_10 : zraw 66 10 = some (.iconst 0, 1) ∧ zin 128 0 = true ∧ 10 + 1 = 11 := by decide +kernel
theorem zi_66_11 : zraw 66 11 = some (.istore_n 3, 1) ∧ 11 + 1 = 12 := by decide +kernel
theorem zi_66_12 : zraw 66 12 = some (.iload_n 3, 1) ∧ 12 + 1 = 13 := by decide +kernel
theorem zi_66_13 : zraw 66 13 = some (.aload_n 0, 1) ∧ 13 + 1 = 14 := by decide +kernel
theorem zi_66_14 : zraw 66 14 = some (.getfield 36, 3) ∧ zft (zinf 66).1 36 = some (6, 10, 3, false) ∧ 14 + 3 = 17 := by decide +kernel
theorem zi_66_17 : zraw 66 17 = some (.getfield 44, 3) ∧ zft (zinf 66).1 44 = some (8, 12, 0, false) ∧ 17 + 3 = 20 := by decide +kernel
theorem zi_66_20 : zraw 66 20 = some (.if_icmp .ge 77, 3) ∧ ((20 : Nat) : Int) + 77 = Int.ofNat 97 ∧ 20 + 3 = 23 := by decide +kernel
theorem zi_66_23 : zraw 66 23 = some (.aload_n 0, 1) ∧ 23 + 1 = 24 := by decide +kernel
theorem zi_66_24 : zraw 66 24 = some (.getfield 21, 3) ∧ zft (zinf 66).1 21 = some (6, 3, 3, true) ∧ 24 + 3 = 27 := by decide +kernel
theorem zi_66_27 : zraw 66 27 = some (.iload_n 3, 1) ∧ 27 + 1 = 28 := by decide +kernel
theorem zi_66_28 : zraw 66 28 = some (.iconst 0, 1) ∧ zin 128 0 = true ∧ 28 + 1 = 29 := by decide +kernel
theorem zi_66_29 : zraw 66 29 = some (.iastore, 1) ∧ 29 + 1 = 30 := by decide +kernel
theorem zi_66_30 : zraw 66 30 = some (.iconst 0, 1) ∧ zin 128 0 = true ∧ 30 + 1 = 31 := by decide +kernel
theorem zi_66_31 : zraw 66 31 = some (.istore 4, 2) ∧ 31 + 2 = 33 := by decide +kernel
theorem zi_66_33 : zraw 66 33 = some (.iload 4, 2) ∧ 33 + 2 = 35 := by decide +kernel
theorem zi_66_35 : zraw 66 35 = some (.aload_n 0, 1) ∧ 35 + 1 = 36 := by decide +kernel
theorem zi_66_36 : zraw 66 36 = some (.getfield 36, 3) ∧ zft (zinf 66).1 36 = some (6, 10, 3, false) ∧ 36 + 3 = 39 := by decide +kernel
theorem zi_66_39 : zraw 66 39 = some (.getfield 44, 3) ∧ zft (zinf 66).1 44 = some (8, 12, 0, false) ∧ 39 + 3 = 42 := by decide +kernel
theorem zi_66_42 : zraw 66 42 = some (.if_icmp .ge 49, 3) ∧ ((42 : Nat) : Int) + 49 = Int.ofNat 91 ∧ 42 + 3 = 45 := by decide +kernel
theorem zi_66_45 : zraw 66 45 = some (.aload_n 0, 1) ∧ 45 + 1 = 46 := by decide +kernel
theorem zi_66_46 : zraw 66 46 = some (.getfield 21, 3) ∧ zft (zinf 66).1 21 = some (6, 3, 3, true) ∧ 46 + 3 = 49 := by decide +kernel
theorem zi_66_49 : zraw 66 49 = some (.iload_n 3, 1) ∧ 49 + 1 = 50 := by decide +kernel
theorem zi_66_50 : zraw 66 50 = some (.dup2, 1) ∧ 50 + 1 = 51 := by decide +kernel
theorem zi_66_51 : zraw 66 51 = some (.iaload, 1) ∧ 51 + 1 = 52 := by decide +kernel
theorem zi_66_52 : zraw 66 52 = some (.aload_n 0, 1) ∧ 52 + 1 = 53 := by decide +kernel
theorem zi_66_53 : zraw 66 53 = some (.getfield 36, 3) ∧ zft (zinf 66).1 36 = some (6, 10, 3, false) ∧ 53 + 3 = 56 := by decide +kernel
theorem zi_66_56 : zraw 66 56 = some (.getfield 50, 3) ∧ zft (zinf 66).1 50 = some (8, 0, 3, true) ∧ 56 + 3 = 59 := by decide +kernel
theorem zi_66_59 : zraw 66 59 = some (.iload_n 3, 1) ∧ 59 + 1 = 60 := by decide +kernel
theorem zi_66_60 : zraw 66 60 = some (.laload, 1) ∧ 60 + 1 = 61 := by decide +kernel
theorem zi_66_61 : zraw 66 61 = some (.aload_n 0, 1) ∧ 61 + 1 = 62 := by decide +kernel
theorem zi_66_62 : zraw 66 62 = some (.getfield 36, 3) ∧ zft (zinf 66).1 36 = some (6, 10, 3, false) ∧ 62 + 3 = 65 := by decide +kernel
theorem zi_66_65 : zraw 66 65 = some (.getfield 50, 3) ∧ zft (zinf 66).1 50 = some (8, 0, 3, true) ∧ 65 + 3 = 68 := by decide +kernel
theorem zi_66_68 : zraw 66 68 = some (.iload 4, 2) ∧ 68 + 2 = 70 := by decide +kernel
theorem zi_66_70 : zraw 66 70 = some (.laload, 1) ∧ 70 + 1 = 71 := by decide +kernel
theorem zi_66_71 : zraw 66 71 = some (.lcmp, 1) ∧ 71 + 1 = 72 := by decide +kernel
theorem zi_66_72 : zraw 66 72 = some (.ifCond .ne 10, 3) ∧ ((72 : Nat) : Int) + 10 = Int.ofNat 82 ∧ 72 + 3 = 75 := by decide +kernel
theorem zi_66_75 : zraw 66 75 = some (.iconst 1, 1) ∧ zin 128 1 = true ∧ 75 + 1 = 76 := by decide +kernel
theorem zi_66_76 : zraw 66 76 = some (.iload 4, 2) ∧ 76 + 2 = 78 := by decide +kernel
theorem zi_66_78 : zraw 66 78 = some (.ishl, 1) ∧ 78 + 1 = 79 := by decide +kernel
theorem zi_66_79 : zraw 66 79 = some (.goto 4, 3) ∧ ((79 : Nat) : Int) + 4 = Int.ofNat 83 := by decide +kernel
theorem zi_66_82 : zraw 66 82 = some (.iconst 0, 1) ∧ zin 128 0 = true ∧ 82 + 1 = 83 := by decide +kernel
theorem zi_66_83 : zraw 66 83 = some (.ior, 1) ∧ 83 + 1 = 84 := by decide +kernel
theorem zi_66_84 : zraw 66 84 = some (.iastore, 1) ∧ 84 + 1 = 85 := by decide +kernel
theorem zi_66_85 : zraw 66 85 = some (.iinc 4 1, 3) ∧ zin 32768 1 = true ∧ 85 + 3 = 88 := by decide +kernel
theorem zi_66_88 : zraw 66 88 = some (.goto (-55), 3) ∧ ((88 : Nat) : Int) + (-55) = Int.ofNat 33 := by decide +kernel
theorem zi_66_91 : zraw 66 91 = some (.iinc 3 1, 3) ∧ zin 32768 1 = true ∧ 91 + 3 = 94 := by decide +kernel
theorem zi_66_94 : zraw 66 94 = some (.goto (-82), 3) ∧ ((94 : Nat) : Int) + (-82) = Int.ofNat 12 := by decide +kernel
theorem zi_66_97 : zraw 66 97 = some (.iconst 0, 1) ∧ zin 128 0 = true ∧ 97 + 1 = 98 := by decide +kernel
theorem zi_66_98 : zraw 66 98 = some (.istore_n 3, 1) ∧ 98 + 1 = 99 := by decide +kernel
theorem zi_66_99 : zraw 66 99 = some (.iload_n 3, 1) ∧ 99 + 1 = 100 := by decide +kernel
theorem zi_66_100 : zraw 66 100 = some (.aload_n 0, 1) ∧ 100 + 1 = 101 := by decide +kernel
theorem zi_66_101 : zraw 66 101 = some (.getfield 40, 3) ∧ zft (zinf 66).1 40 = some (6, 11, 3, false) ∧ 101 + 3 = 104 := by decide +kernel
theorem zi_66_104 : zraw 66 104 = some (.getfield 54, 3) ∧ zft (zinf 66).1 54 = some (4, 15, 0, false) ∧ 104 + 3 = 107 := by decide +kernel
theorem zi_66_107 : zraw 66 107 = some (.if_icmp .ge 19, 3) ∧ ((107 : Nat) : Int) + 19 = Int.ofNat 126 ∧ 107 + 3 = 110 := by decide +kernel
theorem zi_66_110 : zraw 66 110 = some (.aload_n 0, 1) ∧ 110 + 1 = 111 := by decide +kernel
theorem zi_66_111 : zraw 66 111 = some (.iload_n 3, 1) ∧ 111 + 1 = 112 := by decide +kernel
theorem zi_66_112 : zraw 66 112 = some (.invokevirtual 57, 3) ∧ zmt (zinf 66).1 57 = some 67 ∧ Nat.ble 9000 67 = false ∧ zinf 67 = (6, 2, 3, 0, 0) ∧ 112 + 3 = 115 := by decide +kernel
theorem zi_66_115 : zraw 66 115 = some (.aload_n 0, 1) ∧ 115 + 1 = 116 := by decide +kernel
theorem zi_66_116 : zraw 66 116 = some (.iload_n 3, 1) ∧ 116 + 1 = 117 := by decide +kernel
theorem zi_66_117 : zraw 66 117 = some (.invokevirtual 61, 3) ∧ zmt (zinf 66).1 61 = some 68 ∧ Nat.ble 9000 68 = false ∧ zinf 68 = (6, 2, 5, 0, 0) ∧ 117 + 3 = 120 := by decide +kernel
theorem zi_66_120 : zraw 66 120 = some (.iinc 3 1, 3) ∧ zin 32768 1 = true ∧ 120 + 3 = 123 := by decide +kernel
theorem zi_66_123 : zraw 66 123 = some (.goto (-24), 3) ∧ ((123 : Nat) : Int) + (-24) = Int.ofNat 99 := by decide +kernel
theorem zi_66_126 : zraw 66 126 = some (.aload_n 0, 1) ∧ 126 + 1 = 127 := by decide +kernel
theorem zi_66_127 : zraw 66 127 = some (.invokevirtual 64, 3) ∧ zmt (zinf 66).1 64 = some 69 ∧ Nat.ble 9000 69 = false ∧ zinf 69 = (6, 1, 6, 0, 0) ∧ 127 + 3 = 130 := by decide +kernel
theorem zi_66_130 : zraw 66 130 = some (.return_, 1) ∧ (zinf 66).2.2.2.1 = 0 := by decide +kernel
theorem ze_66 {K : List zF} {σ : zW} {x1 : Nat} {x2 : Nat} : zEv true (zent 66 [.inr (.inr 41), .inr (.inr x1), .inr (.inr x2)] :: K) σ = (zEv true ((66, 12, [some (.inr (.inr 41)), some (.inr (.inr x1)), some (.inr (.inr x2)), some (.inl 0), none], []) :: K) (sR (sR σ 41 10 x1) 41 11 x2)) :=
  yT_en (f := (66, 0, [some (.inr (.inr 41)), some (.inr (.inr x1)), some (.inr (.inr x2)), none, none], [])) rfl (yI_aload_n zi_66_0 rfl <| yI_aload_n zi_66_1 rfl <| yI_pf_r zi_66_2 zk_41 <| yI_aload_n zi_66_5 rfl <| yI_aload_n zi_66_6 rfl <| yI_pf_r zi_66_7 zk_41 <| yI_iconst zi_66_10 <| yI_istore_n (l := [some (.inr (.inr 41)), some (.inr (.inr x1)), some (.inr (.inr x2)), some (.inl 0), none]) zi_66_11 rfl rfl <| rfl)
theorem zj_66_12 {K : List zF} {σ : zW} {o1 : Option zV} {o2 : Option zV} {x3 : Int} {o4 : Option zV} (h1 : zTr (gR σ 41 10)) : zEv true ((66, 12, [some (.inr (.inr 41)), o1, o2, some (.inl x3), o4], []) :: K) σ = (if (gI σ (gR σ 41 10) 12) ≤ x3 then zEv true ((66, 99, [some (.inr (.inr 41)), o1, (zcut 0 o2), some (.inl 0), o4], []) :: K) σ else (0 ≤ x3 ∧ x3 < 20) ∧ zEv true ((66, 33, [some (.inr (.inr 41)), o1, o2, some (.inl x3), some (.inl 0)], []) :: K) (sI σ 45 x3.toNat 0)) :=
  yI_iload_n zi_66_12 rfl <| yI_aload_n zi_66_13 rfl <| yI_gf_r (v := gR σ 41 10) zi_66_14 zk_41 rfl <| yI_gf_i (v := gI σ (gR σ 41 10) 12) zi_66_17 (zTr_k h1) rfl <| yI_ic_ge zi_66_20 <| yBr (yI_iconst zi_66_97 <| yI_istore_n (l := [some (.inr (.inr 41)), o1, (zcut 0 o2), some (.inl 0), o4]) zi_66_98 rfl rfl <| rfl) (yI_aload_n zi_66_23 rfl <| yI_gf_f (v := 45) zi_66_24 zk_41 rfl <| yI_iload_n zi_66_27 rfl <| yI_iconst zi_66_28 <| yI_iastorec zi_66_29 za_45 <| yI_iconst zi_66_30 <| yI_istore (l := [some (.inr (.inr 41)), o1, o2, some (.inl x3), some (.inl 0)]) zi_66_31 rfl rfl <| rfl)
theorem zj_66_99 {K : List zF} {σ : zW} {o1 : Option zV} {o2 : Option zV} {x3 : Int} {o4 : Option zV} (hK : K.length < 60) (h1 : zPn (gR σ 41 11)) : zEv true ((66, 99, [some (.inr (.inr 41)), o1, o2, some (.inl x3), o4], []) :: K) σ = (if (gI σ (gR σ 41 11) 15) ≤ x3 then zEv true (zent 69 [.inr (.inr 41)] :: (66, 130, [some (.inr (.inr 41)), o1, o2, some (.inl x3), o4], []) :: K) σ else zEv true (zent 67 [.inr (.inr 41), .inl x3] :: (66, 115, [some (.inr (.inr 41)), o1, o2, some (.inl x3), o4], []) :: K) σ) :=
  yI_iload_n zi_66_99 rfl <| yI_aload_n zi_66_100 rfl <| yI_gf_r (v := gR σ 41 11) zi_66_101 zk_41 rfl <| yI_gf_i (v := gI σ (gR σ 41 11) 15) zi_66_104 (zPn_k h1) rfl <| yI_ic_ge zi_66_107 <| yBr (yI_aload_n zi_66_126 rfl <| yI_cv zi_66_127 rfl rfl zk_41 hK) (yI_aload_n zi_66_110 rfl <| yI_iload_n zi_66_111 rfl <| yI_cv zi_66_112 rfl rfl zk_41 hK)
theorem zj_66_33 {K : List zF} {σ : zW} {o1 : Option zV} {o2 : Option zV} {x3 : Int} {x4 : Int} (h1 : zTr (gR σ 41 10)) : zEv true ((66, 33, [some (.inr (.inr 41)), o1, o2, some (.inl x3), some (.inl x4)], []) :: K) σ = (if (gI σ (gR σ 41 10) 12) ≤ x4 then zEv true ((66, 12, [some (.inr (.inr 41)), o1, (zcut 0 o2), some (.inl (w32 (x3 + 1))), some (.inl x4)], []) :: K) σ else (0 ≤ x3 ∧ x3 < 20) ∧ ((0 ≤ x3 ∧ x3 < 20) ∧ ((0 ≤ x4 ∧ x4 < 20) ∧ ((0 ≤ x3 ∧ x3 < 20) ∧ zEv true ((66, 33, [some (.inr (.inr 41)), o1, o2, some (.inl x3), some (.inl (w32 (x4 + 1)))], []) :: K) (sI σ 45 x3.toNat (zor (gI σ 45 x3.toNat) (if ¬ (zlc (gL σ ((gR σ 41 10) + 1) x3.toNat) (gL σ ((gR σ 41 10) + 1) x4.toNat)) = 0 then 0 else zshl 1 x4 : Int))))))) :=
  yI_iload zi_66_33 rfl <| yI_aload_n zi_66_35 rfl <| yI_gf_r (v := gR σ 41 10) zi_66_36 zk_41 rfl <| yI_gf_i (v := gI σ (gR σ 41 10) 12) zi_66_39 (zTr_k h1) rfl <| yI_ic_ge zi_66_42 <| yBr (yI_iinc (l := [some (.inr (.inr 41)), o1, (zcut 0 o2), some (.inl (w32 (x3 + 1))), some (.inl x4)]) zi_66_91 rfl rfl rfl <| yI_goto zi_66_94 <| rfl) (yI_aload_n zi_66_45 rfl <| yI_gf_f (v := 45) zi_66_46 zk_41 rfl <| yI_iload_n zi_66_49 rfl <| yI_dup2_ir zi_66_50 <| yI_ialoadc (v := gI σ 45 x3.toNat) zi_66_51 za_45 rfl <| yI_aload_n zi_66_52 rfl <| yI_gf_r (v := gR σ 41 10) zi_66_53 zk_41 rfl <| yI_gf_f (v := (gR σ 41 10) + 1) zi_66_56 (zTr_k h1) rfl <| yI_iload_n zi_66_59 rfl <| yI_laloadc (v := gL σ ((gR σ 41 10) + 1) x3.toNat) zi_66_60 (zTr_a1 h1) rfl <| yI_aload_n zi_66_61 rfl <| yI_gf_r (v := gR σ 41 10) zi_66_62 zk_41 rfl <| yI_gf_f (v := (gR σ 41 10) + 1) zi_66_65 (zTr_k h1) rfl <| yI_iload zi_66_68 rfl <| yI_laloadc (v := gL σ ((gR σ 41 10) + 1) x4.toNat) zi_66_70 (zTr_a1 h1) rfl <| yI_lcmp zi_66_71 <| yI_if_ne zi_66_72 <| yMi0 (j := 83) (ls2 := [some (.inr (.inr 41)), o1, o2, some (.inl x3), some (.inl x4)]) (st2 := [.inl (gI σ 45 x3.toNat), .inl x3, .inr (.inr 45)]) (x := 0) (y := zshl 1 x4) (σ2 := σ) (yI_iconst zi_66_82 <| rfl) (yI_iconst zi_66_75 <| yI_iload zi_66_76 rfl <| yI_ishl zi_66_78 <| yI_goto zi_66_79 <| rfl) <| yI_ior zi_66_83 <| yI_iastorec zi_66_84 za_45 <| yI_iinc (l := [some (.inr (.inr 41)), o1, o2, some (.inl x3), some (.inl (w32 (x4 + 1)))]) zi_66_85 rfl rfl rfl <| yI_goto zi_66_88 <| rfl)
theorem zr_66_130 {K : List zF} {σ : zW} {o0 : Option zV} {o1 : Option zV} {o2 : Option zV} {o3 : Option zV} {o4 : Option zV} : zRet true ((66, 130, [o0, o1, o2, o3, o4], []) :: K) none σ = (zRet true K none σ) :=
  yT_rv (yI_ret zi_66_130)
theorem zr_66_115 {K : List zF} {σ : zW} {o1 : Option zV} {o2 : Option zV} {x3 : Int} {o4 : Option zV} (hK : K.length < 60) : zRet true ((66, 115, [some (.inr (.inr 41)), o1, o2, some (.inl x3), o4], []) :: K) none σ = (zEv true (zent 68 [.inr (.inr 41), .inl x3] :: (66, 120, [some (.inr (.inr 41)), o1, o2, some (.inl x3), o4], []) :: K) σ) :=
  yT_rv (yI_aload_n zi_66_115 rfl <| yI_iload_n zi_66_116 rfl <| yI_cv zi_66_117 rfl rfl zk_41 hK)
theorem zr_66_120 {K : List zF} {σ : zW} {o1 : Option zV} {o2 : Option zV} {x3 : Int} {o4 : Option zV} : zRet true ((66, 120, [some (.inr (.inr 41)), o1, o2, some (.inl x3), o4], []) :: K) none σ = (zEv true ((66, 99, [some (.inr (.inr 41)), o1, (zcut 0 o2), some (.inl (w32 (x3 + 1))), o4], []) :: K) σ) :=
  yT_rv (yI_iinc (l := [some (.inr (.inr 41)), o1, (zcut 0 o2), some (.inl (w32 (x3 + 1))), o4]) zi_66_120 rfl rfl rfl <| yI_goto zi_66_123 <| rfl)
/-- 67 Treegrab$Search.prepareFits(I)V -/
theorem zi_67_0 : zraw 67 0 = some (.aload_n 0, 1) ∧ 0 + 1 = 1 := by decide +kernel
theorem zi_67_1 : zraw 67 1 = some (.getfield 9, 3) ∧ zft (zinf 67).1 9 = some (6, 0, 3, true) ∧ 1 + 3 = 4 := by decide +kernel
theorem zi_67_4 : zraw 67 4 = some (.iload_n 1, 1) ∧ 4 + 1 = 5 := by decide +kernel
theorem zi_67_5 : zraw 67 5 = some (.iconst 0, 1) ∧ zin 128 0 = true ∧ 5 + 1 = 6 := by decide +kernel
theorem zi_67_6 : zraw 67 6 = some (.iastore, 1) ∧ 6 + 1 = 7 := by decide +kernel
theorem zi_67_7 : zraw 67 7 = some (.iconst 0, 1) ∧ zin 128 0 = true ∧ 7 + 1 = 8 := by decide +kernel
theorem zi_67_8 : zraw 67 8 = some (.istore_n 2, 1) ∧ 8 + 1 = 9 := by decide +kernel
theorem zi_67_9 : zraw 67 9 = some (.iload_n 2, 1) ∧ 9 + 1 = 10 := by decide +kernel
theorem zi_67_10 : zraw 67 10 = some (.aload_n 0, 1) ∧ 10 + 1 = 11 := by decide +kernel
theorem zi_67_11 : zraw 67 11 = some (.getfield 36, 3) ∧ zft (zinf 67).1 36 = some (6, 10, 3, false) ∧ 11 + 3 = 14 := by decide +kernel
theorem zi_67_14 : zraw 67 14 = some (.getfield 44, 3) ∧ zft (zinf 67).1 44 = some (8, 12, 0, false) ∧ 14 + 3 = 17 := by decide +kernel
theorem zi_67_17 : zraw 67 17 = some (.if_icmp .ge 45, 3) ∧ ((17 : Nat) : Int) + 45 = Int.ofNat 62 ∧ 17 + 3 = 20 := by decide +kernel
theorem zi_67_20 : zraw 67 20 = some (.aload_n 0, 1) ∧ 20 + 1 = 21 := by decide +kernel
theorem zi_67_21 : zraw 67 21 = some (.getfield 9, 3) ∧ zft (zinf 67).1 9 = some (6, 0, 3, true) ∧ 21 + 3 = 24 := by decide +kernel
theorem zi_67_24 : zraw 67 24 = some (.iload_n 1, 1) ∧ 24 + 1 = 25 := by decide +kernel
theorem zi_67_25 : zraw 67 25 = some (.dup2, 1) ∧ 25 + 1 = 26 := by decide +kernel
theorem zi_67_26 : zraw 67 26 = some (.iaload, 1) ∧ 26 + 1 = 27 := by decide +kernel
theorem zi_67_27 : zraw 67 27 = some (.aload_n 0, 1) ∧ 27 + 1 = 28 := by decide +kernel
theorem zi_67_28 : zraw 67 28 = some (.getfield 40, 3) ∧ zft (zinf 67).1 40 = some (6, 11, 3, false) ∧ 28 + 3 = 31 := by decide +kernel
theorem zi_67_31 : zraw 67 31 = some (.iload_n 1, 1) ∧ 31 + 1 = 32 := by decide +kernel
theorem zi_67_32 : zraw 67 32 = some (.aload_n 0, 1) ∧ 32 + 1 = 33 := by decide +kernel
theorem zi_67_33 : zraw 67 33 = some (.getfield 36, 3) ∧ zft (zinf 67).1 36 = some (6, 10, 3, false) ∧ 33 + 3 = 36 := by decide +kernel
theorem zi_67_36 : zraw 67 36 = some (.getfield 50, 3) ∧ zft (zinf 67).1 50 = some (8, 0, 3, true) ∧ 36 + 3 = 39 := by decide +kernel
theorem zi_67_39 : zraw 67 39 = some (.iload_n 2, 1) ∧ 39 + 1 = 40 := by decide +kernel
theorem zi_67_40 : zraw 67 40 = some (.laload, 1) ∧ 40 + 1 = 41 := by decide +kernel
theorem zi_67_41 : zraw 67 41 = some (.invokevirtual 67, 3) ∧ zmt (zinf 67).1 67 = some 55 ∧ Nat.ble 9000 55 = false ∧ zinf 55 = (4, 3, 5, 2, 0) ∧ 41 + 3 = 44 := by decide +kernel
theorem zi_67_44 : zraw 67 44 = some (.ifCond .eq 9, 3) ∧ ((44 : Nat) : Int) + 9 = Int.ofNat 53 ∧ 44 + 3 = 47 := by decide +kernel
theorem zi_67_47 : zraw 67 47 = some (.iconst 1, 1) ∧ zin 128 1 = true ∧ 47 + 1 = 48 := by decide +kernel
theorem zi_67_48 : zraw 67 48 = some (.iload_n 2, 1) ∧ 48 + 1 = 49 := by decide +kernel
theorem zi_67_49 : zraw 67 49 = some (.ishl, 1) ∧ 49 + 1 = 50 := by decide +kernel
theorem zi_67_50 : zraw 67 50 = some (.goto 4, 3) ∧ ((50 : Nat) : Int) + 4 = Int.ofNat 54 := by decide +kernel
theorem zi_67_53 : zraw 67 53 = some (.iconst 0, 1) ∧ zin 128 0 = true ∧ 53 + 1 = 54 := by decide +kernel
theorem zi_67_54 : zraw 67 54 = some (.ior, 1) ∧ 54 + 1 = 55 := by decide +kernel
theorem zi_67_55 : zraw 67 55 = some (.iastore, 1) ∧ 55 + 1 = 56 := by decide +kernel
theorem zi_67_56 : zraw 67 56 = some (.iinc 2 1, 3) ∧ zin 32768 1 = true ∧ 56 + 3 = 59 := by decide +kernel
theorem zi_67_59 : zraw 67 59 = some (.goto (-50), 3) ∧ ((59 : Nat) : Int) + (-50) = Int.ofNat 9 := by decide +kernel
theorem zi_67_62 : zraw 67 62 = some (.return_, 1) ∧ (zinf 67).2.2.2.1 = 0 := by decide +kernel
theorem ze_67 {K : List zF} {σ : zW} {x1 : Int} : zEv true (zent 67 [.inr (.inr 41), .inl x1] :: K) σ = ((0 ≤ x1 ∧ x1 < 8) ∧ zEv true ((67, 9, [some (.inr (.inr 41)), some (.inl x1), some (.inl 0)], []) :: K) (sI σ 42 x1.toNat 0)) :=
  yT_en (f := (67, 0, [some (.inr (.inr 41)), some (.inl x1), none], [])) rfl (yI_aload_n zi_67_0 rfl <| yI_gf_f (v := 42) zi_67_1 zk_41 rfl <| yI_iload_n zi_67_4 rfl <| yI_iconst zi_67_5 <| yI_iastorec zi_67_6 za_42 <| yI_iconst zi_67_7 <| yI_istore_n (l := [some (.inr (.inr 41)), some (.inl x1), some (.inl 0)]) zi_67_8 rfl rfl <| rfl)
theorem zj_67_9 {K : List zF} {σ : zW} {x1 : Int} {x2 : Int} (hK : K.length < 60) (h1 : zTr (gR σ 41 10)) (h2 : zPn (gR σ 41 11)) : zEv true ((67, 9, [some (.inr (.inr 41)), some (.inl x1), some (.inl x2)], []) :: K) σ = (if (gI σ (gR σ 41 10) 12) ≤ x2 then zRet true K none σ else (0 ≤ x1 ∧ x1 < 8) ∧ ((0 ≤ x2 ∧ x2 < 20) ∧ zEv true (zent 55 [.inr (.inr (gR σ 41 11)), .inl x1, .inr (.inl (gL σ ((gR σ 41 10) + 1) x2.toNat))] :: (67, 44, [some (.inr (.inr 41)), some (.inl x1), some (.inl x2)], [.inl (gI σ 42 x1.toNat), .inl x1, .inr (.inr 42)]) :: K) σ)) :=
  yI_iload_n zi_67_9 rfl <| yI_aload_n zi_67_10 rfl <| yI_gf_r (v := gR σ 41 10) zi_67_11 zk_41 rfl <| yI_gf_i (v := gI σ (gR σ 41 10) 12) zi_67_14 (zTr_k h1) rfl <| yI_ic_ge zi_67_17 <| yBr (yI_ret zi_67_62) (yI_aload_n zi_67_20 rfl <| yI_gf_f (v := 42) zi_67_21 zk_41 rfl <| yI_iload_n zi_67_24 rfl <| yI_dup2_ir zi_67_25 <| yI_ialoadc (v := gI σ 42 x1.toNat) zi_67_26 za_42 rfl <| yI_aload_n zi_67_27 rfl <| yI_gf_r (v := gR σ 41 11) zi_67_28 zk_41 rfl <| yI_iload_n zi_67_31 rfl <| yI_aload_n zi_67_32 rfl <| yI_gf_r (v := gR σ 41 10) zi_67_33 zk_41 rfl <| yI_gf_f (v := (gR σ 41 10) + 1) zi_67_36 (zTr_k h1) rfl <| yI_iload_n zi_67_39 rfl <| yI_laloadc (v := gL σ ((gR σ 41 10) + 1) x2.toNat) zi_67_40 (zTr_a1 h1) rfl <| yI_cv zi_67_41 rfl rfl (zPn_k h2) hK)
theorem zr_67_44 {K : List zF} {σ : zW} {x1 : Int} {x2 : Int} {s0 : Int} {s1 : Int} {v : Int} : zRet true ((67, 44, [some (.inr (.inr 41)), some (.inl x1), some (.inl x2)], [.inl s0, .inl s1, .inr (.inr 42)]) :: K) (some (.inl v)) σ = ((0 ≤ s1 ∧ s1 < 8) ∧ zEv true ((67, 9, [some (.inr (.inr 41)), some (.inl x1), some (.inl (w32 (x2 + 1)))], []) :: K) (sI σ 42 s1.toNat (zor s0 (if v = 0 then 0 else zshl 1 x2 : Int)))) :=
  yT_rt (yI_if_eq zi_67_44 <| yMi0 (j := 54) (ls2 := [some (.inr (.inr 41)), some (.inl x1), some (.inl x2)]) (st2 := [.inl s0, .inl s1, .inr (.inr 42)]) (x := 0) (y := zshl 1 x2) (σ2 := σ) (yI_iconst zi_67_53 <| rfl) (yI_iconst zi_67_47 <| yI_iload_n zi_67_48 rfl <| yI_ishl zi_67_49 <| yI_goto zi_67_50 <| rfl) <| yI_ior zi_67_54 <| yI_iastorec zi_67_55 za_42 <| yI_iinc (l := [some (.inr (.inr 41)), some (.inl x1), some (.inl (w32 (x2 + 1)))]) zi_67_56 rfl rfl rfl <| yI_goto zi_67_59 <| rfl)
/-- 68 Treegrab$Search.prepareReaches(I)V -/
theorem zi_68_0 : zraw 68 0 = some (.iload_n 1, 1) ∧ 0 + 1 = 1 := by decide +kernel
theorem zi_68_1 : zraw 68 1 = some (.bipush 20, 2) ∧ zin 128 20 = true ∧ 1 + 2 = 3 := by decide +kernel
theorem zi_68_3 : zraw 68 3 = some (.imul, 1) ∧ 3 + 1 = 4 := by decide +kernel
theorem zi_68_4 : zraw 68 4 = some (.istore_n 2, 1) ∧ 4 + 1 = 5 := by decide +kernel
theorem zi_68_5 : zraw 68 5 = some (.iconst 0, 1) ∧ zin 128 0 = true ∧ 5 + 1 = 6 := by decide +kernel
theorem zi_68_6 : zraw 68 6 = some (.istore_n 3, 1) ∧ 6 + 1 = 7 := by decide +kernel
theorem zi_68_7 : zraw 68 7 = some (.iload_n 3, 1) ∧ 7 + 1 = 8 := by decide +kernel
theorem zi_68_8 : zraw 68 8 = some (.aload_n 0, 1) ∧ 8 + 1 = 9 := by decide +kernel
theorem zi_68_9 : zraw 68 9 = some (.getfield 36, 3) ∧ zft (zinf 68).1 36 = some (6, 10, 3, false) ∧ 9 + 3 = 12 := by decide +kernel
theorem zi_68_12 : zraw 68 12 = some (.getfield 44, 3) ∧ zft (zinf 68).1 44 = some (8, 12, 0, false) ∧ 12 + 3 = 15 := by decide +kernel
theorem zi_68_15 : zraw 68 15 = some (.if_icmp .ge 27, 3) ∧ ((15 : Nat) : Int) + 27 = Int.ofNat 42 ∧ 15 + 3 = 18 := by decide +kernel
theorem zi_68_18 : zraw 68 18 = some (.aload_n 0, 1) ∧ 18 + 1 = 19 := by decide +kernel
theorem zi_68_19 : zraw 68 19 = some (.getfield 15, 3) ∧ zft (zinf 68).1 15 = some (6, 1, 3, true) ∧ 19 + 3 = 22 := by decide +kernel
theorem zi_68_22 : zraw 68 22 = some (.iload_n 2, 1) ∧ 22 + 1 = 23 := by decide +kernel
theorem zi_68_23 : zraw 68 23 = some (.iload_n 3, 1) ∧ 23 + 1 = 24 := by decide +kernel
theorem zi_68_24 : zraw 68 24 = some (.iadd, 1) ∧ 24 + 1 = 25 := by decide +kernel
theorem zi_68_25 : zraw 68 25 = some (.iconst 0, 1) ∧ zin 128 0 = true ∧ 25 + 1 = 26 := by decide +kernel
theorem zi_68_26 : zraw 68 26 = some (.iastore, 1) ∧ 26 + 1 = 27 := by decide +kernel
theorem zi_68_27 : zraw 68 27 = some (.aload_n 0, 1) ∧ 27 + 1 = 28 := by decide +kernel
theorem zi_68_28 : zraw 68 28 = some (.getfield 18, 3) ∧ zft (zinf 68).1 18 = some (6, 2, 3, true) ∧ 28 + 3 = 31 := by decide +kernel
theorem zi_68_31 : zraw 68 31 = some (.iload_n 2, 1) ∧ 31 + 1 = 32 := by decide +kernel
theorem zi_68_32 : zraw 68 32 = some (.iload_n 3, 1) ∧ 32 + 1 = 33 := by decide +kernel
theorem zi_68_33 : zraw 68 33 = some (.iadd, 1) ∧ 33 + 1 = 34 := by decide +kernel
theorem zi_68_34 : zraw 68 34 = some (.iconst 0, 1) ∧ zin 128 0 = true ∧ 34 + 1 = 35 := by decide +kernel
theorem zi_68_35 : zraw 68 35 = some (.iastore, 1) ∧ 35 + 1 = 36 := by decide +kernel
theorem zi_68_36 : zraw 68 36 = some (.iinc 3 1, 3) ∧ zin 32768 1 = true ∧ 36 + 3 = 39 := by decide +kernel
theorem zi_68_39 : zraw 68 39 = some (.goto (-32), 3) ∧ ((39 : Nat) : Int) + (-32) = Int.ofNat 7 := by decide +kernel
theorem zi_68_42 : zraw 68 42 = some (.iconst 0, 1) ∧ zin 128 0 = true ∧ 42 + 1 = 43 := by decide +kernel
theorem zi_68_43 : zraw 68 43 = some (.istore_n 3, 1) ∧ 43 + 1 = 44 := by decide +kernel
theorem zi_68_44 : zraw 68 44 = some (.iload_n 3, 1) ∧ 44 + 1 = 45 := by decide +kernel
theorem zi_68_45 : zraw 68 45 = some (.aload_n 0, 1) ∧ 45 + 1 = 46 := by decide +kernel
theorem zi_68_46 : zraw 68 46 = some (.getfield 36, 3) ∧ zft (zinf 68).1 36 = some (6, 10, 3, false) ∧ 46 + 3 = 49 := by decide +kernel
theorem zi_68_49 : zraw 68 49 = some (.getfield 44, 3) ∧ zft (zinf 68).1 44 = some (8, 12, 0, false) ∧ 49 + 3 = 52 := by decide +kernel
theorem zi_68_52 : zraw 68 52 = some (.if_icmp .ge 82, 3) ∧ ((52 : Nat) : Int) + 82 = Int.ofNat 134 ∧ 52 + 3 = 55 := by decide +kernel
theorem zi_68_55 : zraw 68 55 = some (.iconst 0, 1) ∧ zin 128 0 = true ∧ 55 + 1 = 56 := by decide +kernel
theorem zi_68_56 : zraw 68 56 = some (.istore 4, 2) ∧ 56 + 2 = 58 := by decide +kernel
theorem zi_68_58 : zraw 68 58 = some (.iload 4, 2) ∧ 58 + 2 = 60 := by decide +kernel
theorem zi_68_60 : zraw 68 60 = some (.aload_n 0, 1) ∧ 60 + 1 = 61 := by decide +kernel
theorem zi_68_61 : zraw 68 61 = some (.getfield 36, 3) ∧ zft (zinf 68).1 36 = some (6, 10, 3, false) ∧ 61 + 3 = 64 := by decide +kernel
theorem zi_68_64 : zraw 68 64 = some (.getfield 44, 3) ∧ zft (zinf 68).1 44 = some (8, 12, 0, false) ∧ 64 + 3 = 67 := by decide +kernel
theorem zi_68_67 : zraw 68 67 = some (.if_icmp .ge 61, 3) ∧ ((67 : Nat) : Int) + 61 = Int.ofNat 128 ∧ 67 + 3 = 70 := by decide +kernel
theorem zi_68_70 : zraw 68 70 = some (.aload_n 0, 1) ∧ 70 + 1 = 71 := by decide +kernel
theorem zi_68_71 : zraw 68 71 = some (.getfield 36, 3) ∧ zft (zinf 68).1 36 = some (6, 10, 3, false) ∧ 71 + 3 = 74 := by decide +kernel
theorem zi_68_74 : zraw 68 74 = some (.aload_n 0, 1) ∧ 74 + 1 = 75 := by decide +kernel
theorem zi_68_75 : zraw 68 75 = some (.getfield 40, 3) ∧ zft (zinf 68).1 40 = some (6, 11, 3, false) ∧ 75 + 3 = 78 := by decide +kernel
theorem zi_68_78 : zraw 68 78 = some (.getfield 71, 3) ∧ zft (zinf 68).1 71 = some (4, 4, 3, true) ∧ 78 + 3 = 81 := by decide +kernel
theorem zi_68_81 : zraw 68 81 = some (.iload_n 1, 1) ∧ 81 + 1 = 82 := by decide +kernel
theorem zi_68_82 : zraw 68 82 = some (.iaload, 1) ∧ 82 + 1 = 83 := by decide +kernel
theorem zi_68_83 : zraw 68 83 = some (.iload_n 3, 1) ∧ 83 + 1 = 84 := by decide +kernel
theorem zi_68_84 : zraw 68 84 = some (.iload 4, 2) ∧ 84 + 2 = 86 := by decide +kernel
theorem zi_68_86 : zraw 68 86 = some (.invokevirtual 74, 3) ∧ zmt (zinf 68).1 74 = some 102 ∧ Nat.ble 9000 102 = false ∧ zinf 102 = (8, 4, 10, 2, 0) ∧ 86 + 3 = 89 := by decide +kernel
theorem zi_68_89 : zraw 68 89 = some (.ifCond .eq 33, 3) ∧ ((89 : Nat) : Int) + 33 = Int.ofNat 122 ∧ 89 + 3 = 92 := by decide +kernel
theorem zi_68_92 : zraw 68 92 = some (.aload_n 0, 1) ∧ 92 + 1 = 93 := by decide +kernel
theorem zi_68_93 : zraw 68 93 = some (.getfield 15, 3) ∧ zft (zinf 68).1 15 = some (6, 1, 3, true) ∧ 93 + 3 = 96 := by decide +kernel
theorem zi_68_96 : zraw 68 96 = some (.iload_n 2, 1) ∧ 96 + 1 = 97 := by decide +kernel
theorem zi_68_97 : zraw 68 97 = some (.iload_n 3, 1) ∧ 97 + 1 = 98 := by decide +kernel
theorem zi_68_98 : zraw 68 98 = some (.iadd, 1) ∧ 98 + 1 = 99 := by decide +kernel
theorem zi_68_99 : zraw 68 99 = some (.dup2, 1) ∧ 99 + 1 = 100 := by decide +kernel
theorem zi_68_100 : zraw 68 100 = some (.iaload, 1) ∧ 100 + 1 = 101 := by decide +kernel
theorem zi_68_101 : zraw 68 101 = some (.iconst 1, 1) ∧ zin 128 1 = true ∧ 101 + 1 = 102 := by decide +kernel
theorem zi_68_102 : zraw 68 102 = some (.iload 4, 2) ∧ 102 + 2 = 104 := by decide +kernel
theorem zi_68_104 : zraw 68 104 = some (.ishl, 1) ∧ 104 + 1 = 105 := by decide +kernel
theorem zi_68_105 : zraw 68 105 = some (.ior, 1) ∧ 105 + 1 = 106 := by decide +kernel
theorem zi_68_106 : zraw 68 106 = some (.iastore, 1) ∧ 106 + 1 = 107 := by decide +kernel
theorem zi_68_107 : zraw 68 107 = some (.aload_n 0, 1) ∧ 107 + 1 = 108 := by decide +kernel
theorem zi_68_108 : zraw 68 108 = some (.getfield 18, 3) ∧ zft (zinf 68).1 18 = some (6, 2, 3, true) ∧ 108 + 3 = 111 := by decide +kernel
theorem zi_68_111 : zraw 68 111 = some (.iload_n 2, 1) ∧ 111 + 1 = 112 := by decide +kernel
theorem zi_68_112 : zraw 68 112 = some (.iload 4, 2) ∧ 112 + 2 = 114 := by decide +kernel
theorem zi_68_114 : zraw 68 114 = some (.iadd, 1) ∧ 114 + 1 = 115 := by decide +kernel
theorem zi_68_115 : zraw 68 115 = some (.dup2, 1) ∧ 115 + 1 = 116 := by decide +kernel
theorem zi_68_116 : zraw 68 116 = some (.iaload, 1) ∧ 116 + 1 = 117 := by decide +kernel
theorem zi_68_117 : zraw 68 117 = some (.iconst 1, 1) ∧ zin 128 1 = true ∧ 117 + 1 = 118 := by decide +kernel
theorem zi_68_118 : zraw 68 118 = some (.iload_n 3, 1) ∧ 118 + 1 = 119 := by decide +kernel
theorem zi_68_119 : zraw 68 119 = some (.ishl, 1) ∧ 119 + 1 = 120 := by decide +kernel
theorem zi_68_120 : zraw 68 120 = some (.ior, 1) ∧ 120 + 1 = 121 := by decide +kernel
theorem zi_68_121 : zraw 68 121 = some (.iastore, 1) ∧ 121 + 1 = 122 := by decide +kernel
theorem zi_68_122 : zraw 68 122 = some (.iinc 4 1, 3) ∧ zin 32768 1 = true ∧ 122 + 3 = 125 := by decide +kernel
theorem zi_68_125 : zraw 68 125 = some (.goto (-67), 3) ∧ ((125 : Nat) : Int) + (-67) = Int.ofNat 58 := by decide +kernel
theorem zi_68_128 : zraw 68 128 = some (.iinc 3 1, 3) ∧ zin 32768 1 = true ∧ 128 + 3 = 131 := by decide +kernel
theorem zi_68_131 : zraw 68 131 = some (.goto (-87), 3) ∧ ((131 : Nat) : Int) + (-87) = Int.ofNat 44 := by decide +kernel
theorem zi_68_134 : zraw 68 134 = some (.return_, 1) ∧ (zinf 68).2.2.2.1 = 0 := by decide +kernel
theorem ze_68 {K : List zF} {σ : zW} {x1 : Int} : zEv true (zent 68 [.inr (.inr 41), .inl x1] :: K) σ = (zEv true ((68, 7, [some (.inr (.inr 41)), some (.inl x1), some (.inl (w32 (x1 * 20))), some (.inl 0), none], []) :: K) σ) :=
  yT_en (f := (68, 0, [some (.inr (.inr 41)), some (.inl x1), none, none, none], [])) rfl (yI_iload_n zi_68_0 rfl <| yI_bipush zi_68_1 <| yI_imul zi_68_3 <| yI_istore_n (l := [some (.inr (.inr 41)), some (.inl x1), some (.inl (w32 (x1 * 20))), none, none]) zi_68_4 rfl rfl <| yI_iconst zi_68_5 <| yI_istore_n (l := [some (.inr (.inr 41)), some (.inl x1), some (.inl (w32 (x1 * 20))), some (.inl 0), none]) zi_68_6 rfl rfl <| rfl)
theorem zj_68_7 {K : List zF} {σ : zW} {x1 : Int} {x2 : Int} {x3 : Int} {o4 : Option zV} (h1 : zTr (gR σ 41 10)) : zEv true ((68, 7, [some (.inr (.inr 41)), some (.inl x1), some (.inl x2), some (.inl x3), o4], []) :: K) σ = (if (gI σ (gR σ 41 10) 12) ≤ x3 then zEv true ((68, 44, [some (.inr (.inr 41)), some (.inl x1), some (.inl x2), some (.inl 0), o4], []) :: K) σ else (0 ≤ (w32 (x2 + x3)) ∧ (w32 (x2 + x3)) < 160) ∧ ((0 ≤ (w32 (x2 + x3)) ∧ (w32 (x2 + x3)) < 160) ∧ zEv true ((68, 7, [some (.inr (.inr 41)), some (.inl x1), some (.inl x2), some (.inl (w32 (x3 + 1))), o4], []) :: K) (sI (sI σ 43 ((w32 (x2 + x3)).toNat) 0) 44 ((w32 (x2 + x3)).toNat) 0))) :=
  yI_iload_n zi_68_7 rfl <| yI_aload_n zi_68_8 rfl <| yI_gf_r (v := gR σ 41 10) zi_68_9 zk_41 rfl <| yI_gf_i (v := gI σ (gR σ 41 10) 12) zi_68_12 (zTr_k h1) rfl <| yI_ic_ge zi_68_15 <| yBr (yI_iconst zi_68_42 <| yI_istore_n (l := [some (.inr (.inr 41)), some (.inl x1), some (.inl x2), some (.inl 0), o4]) zi_68_43 rfl rfl <| rfl) (yI_aload_n zi_68_18 rfl <| yI_gf_f (v := 43) zi_68_19 zk_41 rfl <| yI_iload_n zi_68_22 rfl <| yI_iload_n zi_68_23 rfl <| yI_iadd zi_68_24 <| yI_iconst zi_68_25 <| yI_iastorec zi_68_26 za_43 <| yI_aload_n zi_68_27 rfl <| yI_gf_f (v := 44) zi_68_28 zk_41 rfl <| yI_iload_n zi_68_31 rfl <| yI_iload_n zi_68_32 rfl <| yI_iadd zi_68_33 <| yI_iconst zi_68_34 <| yI_iastorec zi_68_35 za_44 <| yI_iinc (l := [some (.inr (.inr 41)), some (.inl x1), some (.inl x2), some (.inl (w32 (x3 + 1))), o4]) zi_68_36 rfl rfl rfl <| yI_goto zi_68_39 <| rfl)
theorem zj_68_44 {K : List zF} {σ : zW} {x1 : Int} {x2 : Int} {x3 : Int} {o4 : Option zV} (h1 : zTr (gR σ 41 10)) : zEv true ((68, 44, [some (.inr (.inr 41)), some (.inl x1), some (.inl x2), some (.inl x3), o4], []) :: K) σ = (if (gI σ (gR σ 41 10) 12) ≤ x3 then zRet true K none σ else zEv true ((68, 58, [some (.inr (.inr 41)), some (.inl x1), some (.inl x2), some (.inl x3), some (.inl 0)], []) :: K) σ) :=
  yI_iload_n zi_68_44 rfl <| yI_aload_n zi_68_45 rfl <| yI_gf_r (v := gR σ 41 10) zi_68_46 zk_41 rfl <| yI_gf_i (v := gI σ (gR σ 41 10) 12) zi_68_49 (zTr_k h1) rfl <| yI_ic_ge zi_68_52 <| yBr (yI_ret zi_68_134) (yI_iconst zi_68_55 <| yI_istore (l := [some (.inr (.inr 41)), some (.inl x1), some (.inl x2), some (.inl x3), some (.inl 0)]) zi_68_56 rfl rfl <| rfl)
theorem zj_68_58 {K : List zF} {σ : zW} {x1 : Int} {x2 : Int} {x3 : Int} {x4 : Int} (hK : K.length < 60) (h1 : zTr (gR σ 41 10)) (h2 : zPn (gR σ 41 11)) : zEv true ((68, 58, [some (.inr (.inr 41)), some (.inl x1), some (.inl x2), some (.inl x3), some (.inl x4)], []) :: K) σ = (if (gI σ (gR σ 41 10) 12) ≤ x4 then zEv true ((68, 44, [some (.inr (.inr 41)), some (.inl x1), some (.inl x2), some (.inl (w32 (x3 + 1))), some (.inl x4)], []) :: K) σ else (0 ≤ x1 ∧ x1 < 8) ∧ zEv true (zent 102 [.inr (.inr (gR σ 41 10)), .inl (gI σ ((gR σ 41 11) + 5) x1.toNat), .inl x3, .inl x4] :: (68, 89, [some (.inr (.inr 41)), some (.inl x1), some (.inl x2), some (.inl x3), some (.inl x4)], []) :: K) σ) :=
  yI_iload zi_68_58 rfl <| yI_aload_n zi_68_60 rfl <| yI_gf_r (v := gR σ 41 10) zi_68_61 zk_41 rfl <| yI_gf_i (v := gI σ (gR σ 41 10) 12) zi_68_64 (zTr_k h1) rfl <| yI_ic_ge zi_68_67 <| yBr (yI_iinc (l := [some (.inr (.inr 41)), some (.inl x1), some (.inl x2), some (.inl (w32 (x3 + 1))), some (.inl x4)]) zi_68_128 rfl rfl rfl <| yI_goto zi_68_131 <| rfl) (yI_aload_n zi_68_70 rfl <| yI_gf_r (v := gR σ 41 10) zi_68_71 zk_41 rfl <| yI_aload_n zi_68_74 rfl <| yI_gf_r (v := gR σ 41 11) zi_68_75 zk_41 rfl <| yI_gf_f (v := (gR σ 41 11) + 5) zi_68_78 (zPn_k h2) rfl <| yI_iload_n zi_68_81 rfl <| yI_ialoadc (v := gI σ ((gR σ 41 11) + 5) x1.toNat) zi_68_82 (zPn_a5 h2) rfl <| yI_iload_n zi_68_83 rfl <| yI_iload zi_68_84 rfl <| yI_cv zi_68_86 rfl rfl (zTr_k h1) hK)
theorem zr_68_89 {K : List zF} {σ : zW} {x1 : Int} {x2 : Int} {x3 : Int} {x4 : Int} {v : Int} : zRet true ((68, 89, [some (.inr (.inr 41)), some (.inl x1), some (.inl x2), some (.inl x3), some (.inl x4)], []) :: K) (some (.inl v)) σ = (if v = 0 then zEv true ((68, 58, [some (.inr (.inr 41)), some (.inl x1), some (.inl x2), some (.inl x3), some (.inl (w32 (x4 + 1)))], []) :: K) σ else (0 ≤ (w32 (x2 + x3)) ∧ (w32 (x2 + x3)) < 160) ∧ ((0 ≤ (w32 (x2 + x3)) ∧ (w32 (x2 + x3)) < 160) ∧ ((0 ≤ (w32 (x2 + x4)) ∧ (w32 (x2 + x4)) < 160) ∧ ((0 ≤ (w32 (x2 + x4)) ∧ (w32 (x2 + x4)) < 160) ∧ zEv true ((68, 58, [some (.inr (.inr 41)), some (.inl x1), some (.inl x2), some (.inl x3), some (.inl (w32 (x4 + 1)))], []) :: K) (sI (sI σ 43 ((w32 (x2 + x3)).toNat) (zor (gI σ 43 ((w32 (x2 + x3)).toNat)) (zshl 1 x4))) 44 ((w32 (x2 + x4)).toNat) (zor (gI σ 44 ((w32 (x2 + x4)).toNat)) (zshl 1 x3))))))) :=
  yT_rt (yI_if_eq zi_68_89 <| yBr (yI_iinc (l := [some (.inr (.inr 41)), some (.inl x1), some (.inl x2), some (.inl x3), some (.inl (w32 (x4 + 1)))]) zi_68_122 rfl rfl rfl <| yI_goto zi_68_125 <| rfl) (yI_aload_n zi_68_92 rfl <| yI_gf_f (v := 43) zi_68_93 zk_41 rfl <| yI_iload_n zi_68_96 rfl <| yI_iload_n zi_68_97 rfl <| yI_iadd zi_68_98 <| yI_dup2_ir zi_68_99 <| yI_ialoadc (v := gI σ 43 ((w32 (x2 + x3)).toNat)) zi_68_100 za_43 rfl <| yI_iconst zi_68_101 <| yI_iload zi_68_102 rfl <| yI_ishl zi_68_104 <| yI_ior zi_68_105 <| yI_iastorec zi_68_106 za_43 <| yI_aload_n zi_68_107 rfl <| yI_gf_f (v := 44) zi_68_108 zk_41 rfl <| yI_iload_n zi_68_111 rfl <| yI_iload zi_68_112 rfl <| yI_iadd zi_68_114 <| yI_dup2_ir zi_68_115 <| yI_ialoadc (v := gI σ 44 ((w32 (x2 + x4)).toNat)) zi_68_116 za_44 (yGI_nk (by decide)) <| yI_iconst zi_68_117 <| yI_iload_n zi_68_118 rfl <| yI_ishl zi_68_119 <| yI_ior zi_68_120 <| yI_iastorec zi_68_121 za_44 <| yI_iinc (l := [some (.inr (.inr 41)), some (.inl x1), some (.inl x2), some (.inl x3), some (.inl (w32 (x4 + 1)))]) zi_68_122 rfl rfl rfl <| yI_goto zi_68_125 <| rfl))
/-- 69 Treegrab$Search.makePlan()V -/
theorem zi_69_0 : zraw 69 0 = some (.aload_n 0, 1) ∧ 0 + 1 = 1 := by decide +kernel
theorem zi_69_1 : zraw 69 1 = some (.iconst 0, 1) ∧ zin 128 0 = true ∧ 1 + 1 = 2 := by decide +kernel
theorem zi_69_2 : zraw 69 2 = some (.putfield 78, 3) ∧ zft (zinf 69).1 78 = some (6, 8, 0, false) ∧ 2 + 3 = 5 := by decide +kernel
theorem zi_69_5 : zraw 69 5 = some (.iconst 0, 1) ∧ zin 128 0 = true ∧ 5 + 1 = 6 := by decide +kernel
theorem zi_69_6 : zraw 69 6 = some (.istore_n 1, 1) ∧ 6 + 1 = 7 := by decide +kernel
theorem zi_69_7 : zraw 69 7 = some (.iconst 0, 1) ∧ zin 128 0 = true ∧ 7 + 1 = 8 := by decide +kernel
theorem zi_69_8 : zraw 69 8 = some (.istore_n 2, 1) ∧ 8 + 1 = 9 := by decide +kernel
theorem zi_69_9 : zraw 69 9 = some (.iload_n 2, 1) ∧ 9 + 1 = 10 := by decide +kernel
theorem zi_69_10 : zraw 69 10 = some (.iconst 4, 1) ∧ zin 128 4 = true ∧ 10 + 1 = 11 := by decide +kernel
theorem zi_69_11 : zraw 69 11 = some (.if_icmp .ge 133, 3) ∧ ((11 : Nat) : Int) + 133 = Int.ofNat 144 ∧ 11 + 3 = 14 := by decide +kernel
theorem zi_69_14 : zraw 69 14 = some (.iconst (-1), 1) ∧ zin 128 (-1) = true ∧ 14 + 1 = 15 := by decide +kernel
theorem zi_69_15 : zraw 69 15 = some (.istore_n 3, 1) ∧ 15 + 1 = 16 := by decide +kernel
theorem zi_69_16 : zraw 69 16 = some (.iconst 0, 1) ∧ zin 128 0 = true ∧ 16 + 1 = 17 := by decide +kernel
theorem zi_69_17 : zraw 69 17 = some (.istore 4, 2) ∧ 17 + 2 = 19 := by decide +kernel
theorem zi_69_19 : zraw 69 19 = some (.iload 4, 2) ∧ 19 + 2 = 21 := by decide +kernel
theorem zi_69_21 : zraw 69 21 = some (.aload_n 0, 1) ∧ 21 + 1 = 22 := by decide +kernel
theorem zi_69_22 : zraw 69 22 = some (.getfield 40, 3) ∧ zft (zinf 69).1 40 = some (6, 11, 3, false) ∧ 22 + 3 = 25 := by decide +kernel
theorem zi_69_25 : zraw 69 25 = some (.getfield 81, 3) ∧ zft (zinf 69).1 81 = some (4, 16, 0, false) ∧ 25 + 3 = 28 := by decide +kernel
theorem zi_69_28 : zraw 69 28 = some (.if_icmp .ge 78, 3) ∧ ((28 : Nat) : Int) + 78 = Int.ofNat 106 ∧ 28 + 3 = 31 := by decide +kernel
theorem zi_69_31 : zraw 69 31 = some (.aload_n 0, 1) ∧ 31 + 1 = 32 := by decide +kernel
theorem zi_69_32 : zraw 69 32 = some (.getfield 40, 3) ∧ zft (zinf 69).1 40 = some (6, 11, 3, false) ∧ 32 + 3 = 35 := by decide +kernel
theorem zi_69_35 : zraw 69 35 = some (.iload 4, 2) ∧ 35 + 2 = 37 := by decide +kernel
theorem zi_69_37 : zraw 69 37 = some (.invokevirtual 84, 3) ∧ zmt (zinf 69).1 84 = some 41 ∧ Nat.ble 9000 41 = false ∧ zinf 41 = (4, 2, 2, 2, 0) ∧ 37 + 3 = 40 := by decide +kernel
theorem zi_69_40 : zraw 69 40 = some (.ifCond .eq 16, 3) ∧ ((40 : Nat) : Int) + 16 = Int.ofNat 56 ∧ 40 + 3 = 43 := by decide +kernel
theorem zi_69_43 : zraw 69 43 = some (.iload_n 1, 1) ∧ 43 + 1 = 44 := by decide +kernel
theorem zi_69_44 : zraw 69 44 = some (.iload 4, 2) ∧ 44 + 2 = 46 := by decide +kernel
theorem zi_69_46 : zraw 69 46 = some (.ishr, 1) ∧ 46 + 1 = 47 := by decide +kernel
theorem zi_69_47 : zraw 69 47 = some (.iconst 1, 1) ∧ zin 128 1 = true ∧ 47 + 1 = 48 := by decide +kernel
theorem zi_69_48 : zraw 69 48 = some (.iand, 1) ∧ 48 + 1 = 49 := by decide +kernel
theorem zi_69_49 : zraw 69 49 = some (.ifCond .ne 7, 3) ∧ ((49 : Nat) : Int) + 7 = Int.ofNat 56 ∧ 49 + 3 = 52 := by decide +kernel
theorem zi_69_52 : zraw 69 52 = some (.iconst 1, 1) ∧ zin 128 1 = true ∧ 52 + 1 = 53 := by decide +kernel
theorem zi_69_53 : zraw 69 53 = some (.goto 4, 3) ∧ ((53 : Nat) : Int) + 4 = Int.ofNat 57 := by decide +kernel
theorem zi_69_56 : zraw 69 56 = some (.iconst 0, 1) ∧ zin 128 0 = true ∧ 56 + 1 = 57 := by decide +kernel
theorem zi_69_57 : zraw 69 57 = some (.istore 5, 2) ∧ 57 + 2 = 59 := by decide +kernel
theorem zi_69_59 : zraw 69 59 = some (.iload 5, 2) ∧ 59 + 2 = 61 := by decide +kernel
theorem zi_69_61 : zraw 69 61 = some (.ifCond .eq 39, 3) ∧ ((61 : Nat) : Int) + 39 = Int.ofNat 100 ∧ 61 + 3 = 64 := by decide +kernel
theorem zi_69_64 : zraw 69 64 = some (.iload_n 1, 1) ∧ 64 + 1 = 65 := by decide +kernel
theorem zi_69_65 : zraw 69 65 = some (.ifCond .eq 13, 3) ∧ ((65 : Nat) : Int) + 13 = Int.ofNat 78 ∧ 65 + 3 = 68 := by decide +kernel
theorem zi_69_68 : zraw 69 68 = some (.aload_n 0, 1) ∧ 68 + 1 = 69 := by decide +kernel
theorem zi_69_69 : zraw 69 69 = some (.iload 4, 2) ∧ 69 + 2 = 71 := by decide +kernel
theorem zi_69_71 : zraw 69 71 = some (.iload_n 1, 1) ∧ 71 + 1 = 72 := by decide +kernel
theorem zi_69_72 : zraw 69 72 = some (.invokevirtual 88, 3) ∧ zmt (zinf 69).1 88 = some 71 ∧ Nat.ble 9000 71 = false ∧ zinf 71 = (6, 3, 6, 2, 0) ∧ 72 + 3 = 75 := by decide +kernel
theorem zi_69_75 : zraw 69 75 = some (.ifCond .eq 25, 3) ∧ ((75 : Nat) : Int) + 25 = Int.ofNat 100 ∧ 75 + 3 = 78 := by decide +kernel
theorem zi_69_78 : zraw 69 78 = some (.iload_n 3, 1) ∧ 78 + 1 = 79 := by decide +kernel
theorem zi_69_79 : zraw 69 79 = some (.iconst (-1), 1) ∧ zin 128 (-1) = true ∧ 79 + 1 = 80 := by decide +kernel
theorem zi_69_80 : zraw 69 80 = some (.if_icmp .eq 17, 3) ∧ ((80 : Nat) : Int) + 17 = Int.ofNat 97 ∧ 80 + 3 = 83 := by decide +kernel
theorem zi_69_83 : zraw 69 83 = some (.aload_n 0, 1) ∧ 83 + 1 = 84 := by decide +kernel
theorem zi_69_84 : zraw 69 84 = some (.iload 4, 2) ∧ 84 + 2 = 86 := by decide +kernel
theorem zi_69_86 : zraw 69 86 = some (.invokevirtual 92, 3) ∧ zmt (zinf 69).1 92 = some 70 ∧ Nat.ble 9000 70 = false ∧ zinf 70 = (6, 2, 2, 1, 0) ∧ 86 + 3 = 89 := by decide +kernel
theorem zi_69_89 : zraw 69 89 = some (.aload_n 0, 1) ∧ 89 + 1 = 90 := by decide +kernel
theorem zi_69_90 : zraw 69 90 = some (.iload_n 3, 1) ∧ 90 + 1 = 91 := by decide +kernel
theorem zi_69_91 : zraw 69 91 = some (.invokevirtual 92, 3) ∧ zmt (zinf 69).1 92 = some 70 ∧ Nat.ble 9000 70 = false ∧ zinf 70 = (6, 2, 2, 1, 0) ∧ 91 + 3 = 94 := by decide +kernel
theorem zi_69_94 : zraw 69 94 = some (.if_icmp .ge 6, 3) ∧ ((94 : Nat) : Int) + 6 = Int.ofNat 100 ∧ 94 + 3 = 97 := by decide +kernel
theorem zi_69_97 : zraw 69 97 = some (.iload 4, 2) ∧ 97 + 2 = 99 := by decide +kernel
theorem zi_69_99 : zraw 69 99 = some (.istore_n 3, 1) ∧ 99 + 1 = 100 := by decide +kernel
theorem zi_69_100 : zraw 69 100 = some (.iinc 4 1, 3) ∧ zin 32768 1 = true ∧ 100 + 3 = 103 := by decide +kernel
theorem zi_69_103 : zraw 69 103 = some (.goto (-84), 3) ∧ ((103 : Nat) : Int) + (-84) = Int.ofNat 19 := by decide +kernel
theorem zi_69_106 : zraw 69 106 = some (.iload_n 3, 1) ∧ 106 + 1 = 107 := by decide +kernel
theorem zi_69_107 : zraw 69 107 = some (.iconst (-1), 1) ∧ zin 128 (-1) = true ∧ 107 + 1 = 108 := by decide +kernel
theorem zi_69_108 : zraw 69 108 = some (.if_icmp .ne 4, 3) ∧ ((108 : Nat) : Int) + 4 = Int.ofNat 112 ∧ 108 + 3 = 111 := by decide +kernel
theorem zi_69_111 : zraw 69 111 = some (.return_, 1) ∧ (zinf 69).2.2.2.1 = 0 := by decide +kernel
theorem zi_69_112 : zraw 69 112 = some (.aload_n 0, 1) ∧ 112 + 1 = 113 := by decide +kernel
theorem zi_69_113 : zraw 69 113 = some (.getfield 33, 3) ∧ zft (zinf 69).1 33 = some (6, 7, 3, true) ∧ 113 + 3 = 116 := by decide +kernel
theorem zi_69_116 : zraw 69 116 = some (.aload_n 0, 1) ∧ 116 + 1 = 117 := by decide +kernel
theorem zi_69_117 : zraw 69 117 = some (.getfield 78, 3) ∧ zft (zinf 69).1 78 = some (6, 8, 0, false) ∧ 117 + 3 = 120 := by decide +kernel
theorem zi_69_120 : zraw 69 120 = some (.iload_n 3, 1) ∧ 120 + 1 = 121 := by decide +kernel
theorem zi_69_121 : zraw 69 121 = some (.iastore, 1) ∧ 121 + 1 = 122 := by decide +kernel
theorem zi_69_122 : zraw 69 122 = some (.aload_n 0, 1) ∧ 122 + 1 = 123 := by decide +kernel
theorem zi_69_123 : zraw 69 123 = some (.dup, 1) ∧ 123 + 1 = 124 := by decide +kernel
theorem zi_69_124 : zraw 69 124 = some (.getfield 78, 3) ∧ zft (zinf 69).1 78 = some (6, 8, 0, false) ∧ 124 + 3 = 127 := by decide +kernel
theorem zi_69_127 : zraw 69 127 = some (.iconst 1, 1) ∧ zin 128 1 = true ∧ 127 + 1 = 128 := by decide +kernel
theorem zi_69_128 : zraw 69 128 = some (.iadd, 1) ∧ 128 + 1 = 129 := by decide +kernel
theorem zi_69_129 : zraw 69 129 = some (.putfield 78, 3) ∧ zft (zinf 69).1 78 = some (6, 8, 0, false) ∧ 129 + 3 = 132 := by decide +kernel
theorem zi_69_132 : zraw 69 132 = some (.iload_n 1, 1) ∧ 132 + 1 = 133 := by decide +kernel
theorem zi_69_133 : zraw 69 133 = some (.iconst 1, 1) ∧ zin 128 1 = true ∧ 133 + 1 = 134 := by decide +kernel
theorem zi_69_134 : zraw 69 134 = some (.iload_n 3, 1) ∧ 134 + 1 = 135 := by decide +kernel
theorem zi_69_135 : zraw 69 135 = some (.ishl, 1) ∧ 135 + 1 = 136 := by decide +kernel
theorem zi_69_136 : zraw 69 136 = some (.ior, 1) ∧ 136 + 1 = 137 := by decide +kernel
theorem zi_69_137 : zraw 69 137 = some (.istore_n 1, 1) ∧ 137 + 1 = 138 := by decide +kernel
theorem zi_69_138 : zraw 69 138 = some (.iinc 2 1, 3) ∧ zin 32768 1 = true ∧ 138 + 3 = 141 := by decide +kernel
theorem zi_69_141 : zraw 69 141 = some (.goto (-132), 3) ∧ ((141 : Nat) : Int) + (-132) = Int.ofNat 9 := by decide +kernel
theorem zi_69_144 : zraw 69 144 = some (.return_, 1) ∧ (zinf 69).2.2.2.1 = 0 := by decide +kernel
theorem ze_69 {K : List zF} {σ : zW} : zEv true (zent 69 [.inr (.inr 41)] :: K) σ = (zEv true ((69, 9, [some (.inr (.inr 41)), some (.inl 0), some (.inl 0), none, none, none], []) :: K) (sI σ 41 8 0)) :=
  yT_en (f := (69, 0, [some (.inr (.inr 41)), none, none, none, none, none], [])) rfl (yI_aload_n zi_69_0 rfl <| yI_iconst zi_69_1 <| yI_pf_i zi_69_2 zk_41 <| yI_iconst zi_69_5 <| yI_istore_n (l := [some (.inr (.inr 41)), some (.inl 0), none, none, none, none]) zi_69_6 rfl rfl <| yI_iconst zi_69_7 <| yI_istore_n (l := [some (.inr (.inr 41)), some (.inl 0), some (.inl 0), none, none, none]) zi_69_8 rfl rfl <| rfl)
theorem zj_69_9 {K : List zF} {σ : zW} {x1 : Int} {x2 : Int} {o3 : Option zV} {o4 : Option zV} {o5 : Option zV} : zEv true ((69, 9, [some (.inr (.inr 41)), some (.inl x1), some (.inl x2), o3, o4, o5], []) :: K) σ = (if 4 ≤ x2 then zRet true K none σ else zEv true ((69, 19, [some (.inr (.inr 41)), some (.inl x1), some (.inl x2), some (.inl (-1)), some (.inl 0), o5], []) :: K) σ) :=
  yI_iload_n zi_69_9 rfl <| yI_iconst zi_69_10 <| yI_ic_ge zi_69_11 <| yBr (yI_ret zi_69_144) (yI_iconst zi_69_14 <| yI_istore_n (l := [some (.inr (.inr 41)), some (.inl x1), some (.inl x2), some (.inl (-1)), o4, o5]) zi_69_15 rfl rfl <| yI_iconst zi_69_16 <| yI_istore (l := [some (.inr (.inr 41)), some (.inl x1), some (.inl x2), some (.inl (-1)), some (.inl 0), o5]) zi_69_17 rfl rfl <| rfl)
theorem zj_69_19 {K : List zF} {σ : zW} {x1 : Int} {x2 : Int} {x3 : Int} {x4 : Int} {o5 : Option zV} (hK : K.length < 60) (h1 : zPn (gR σ 41 11)) : zEv true ((69, 19, [some (.inr (.inr 41)), some (.inl x1), some (.inl x2), some (.inl x3), some (.inl x4), o5], []) :: K) σ = (if (gI σ (gR σ 41 11) 16) ≤ x4 then if ¬ x3 = (-1) then (0 ≤ (gI σ 41 8) ∧ (gI σ 41 8) < 4) ∧ zEv true ((69, 9, [some (.inr (.inr 41)), some (.inl (zor x1 (zshl 1 x3))), some (.inl (w32 (x2 + 1))), some (.inl x3), some (.inl x4), o5], []) :: K) (sI (sI σ 49 ((gI σ 41 8).toNat) x3) 41 8 (w32 ((gI σ 41 8) + 1))) else zRet true K none σ else zEv true (zent 41 [.inr (.inr (gR σ 41 11)), .inl x4] :: (69, 40, [some (.inr (.inr 41)), some (.inl x1), some (.inl x2), some (.inl x3), some (.inl x4), o5], []) :: K) σ) :=
  yI_iload zi_69_19 rfl <| yI_aload_n zi_69_21 rfl <| yI_gf_r (v := gR σ 41 11) zi_69_22 zk_41 rfl <| yI_gf_i (v := gI σ (gR σ 41 11) 16) zi_69_25 (zPn_k h1) rfl <| yI_ic_ge zi_69_28 <| yBr (yI_iload_n zi_69_106 rfl <| yI_iconst zi_69_107 <| yI_ic_ne zi_69_108 <| yBr (yI_aload_n zi_69_112 rfl <| yI_gf_f (v := 49) zi_69_113 zk_41 rfl <| yI_aload_n zi_69_116 rfl <| yI_gf_i (v := gI σ 41 8) zi_69_117 zk_41 rfl <| yI_iload_n zi_69_120 rfl <| yI_iastorec zi_69_121 za_49 <| yI_aload_n zi_69_122 rfl <| yI_dup_r zi_69_123 <| yI_gf_i (v := gI σ 41 8) zi_69_124 zk_41 (yGI_nk (by decide)) <| yI_iconst zi_69_127 <| yI_iadd zi_69_128 <| yI_pf_i zi_69_129 zk_41 <| yI_iload_n zi_69_132 rfl <| yI_iconst zi_69_133 <| yI_iload_n zi_69_134 rfl <| yI_ishl zi_69_135 <| yI_ior zi_69_136 <| yI_istore_n (l := [some (.inr (.inr 41)), some (.inl (zor x1 (zshl 1 x3))), some (.inl x2), some (.inl x3), some (.inl x4), o5]) zi_69_137 rfl rfl <| yI_iinc (l := [some (.inr (.inr 41)), some (.inl (zor x1 (zshl 1 x3))), some (.inl (w32 (x2 + 1))), some (.inl x3), some (.inl x4), o5]) zi_69_138 rfl rfl rfl <| yI_goto zi_69_141 <| rfl) (yI_ret zi_69_111)) (yI_aload_n zi_69_31 rfl <| yI_gf_r (v := gR σ 41 11) zi_69_32 zk_41 rfl <| yI_iload zi_69_35 rfl <| yI_cv zi_69_37 rfl rfl (zPn_k h1) hK)
theorem zr_69_40 {K : List zF} {σ : zW} {x1 : Int} {x2 : Int} {x3 : Int} {x4 : Int} {o5 : Option zV} {v : Int} (hK : K.length < 60) : zRet true ((69, 40, [some (.inr (.inr 41)), some (.inl x1), some (.inl x2), some (.inl x3), some (.inl x4), o5], []) :: K) (some (.inl v)) σ = (if v = 0 then zEv true ((69, 56, [some (.inr (.inr 41)), some (.inl x1), some (.inl x2), some (.inl x3), some (.inl x4), o5], []) :: K) σ else if ¬ (zand (zshr x1 x4) 1) = 0 then zEv true ((69, 56, [some (.inr (.inr 41)), some (.inl x1), some (.inl x2), some (.inl x3), some (.inl x4), o5], []) :: K) σ else if (1 : Int) = 0 then zEv true ((69, 19, [some (.inr (.inr 41)), some (.inl x1), some (.inl x2), some (.inl x3), some (.inl (w32 (x4 + 1))), some (.inl 1)], []) :: K) σ else if x1 = 0 then zEv true ((69, 78, [some (.inr (.inr 41)), some (.inl x1), some (.inl x2), some (.inl x3), some (.inl x4), some (.inl 1)], []) :: K) σ else zEv true (zent 71 [.inr (.inr 41), .inl x4, .inl x1] :: (69, 75, [some (.inr (.inr 41)), some (.inl x1), some (.inl x2), some (.inl x3), some (.inl x4), some (.inl 1)], []) :: K) σ) :=
  yT_rt (yI_if_eq zi_69_40 <| yBr (rfl) (yI_iload_n zi_69_43 rfl <| yI_iload zi_69_44 rfl <| yI_ishr zi_69_46 <| yI_iconst zi_69_47 <| yI_iand zi_69_48 <| yI_if_ne zi_69_49 <| yBr (rfl) (yI_iconst zi_69_52 <| yI_goto zi_69_53 <| yI_istore (l := [some (.inr (.inr 41)), some (.inl x1), some (.inl x2), some (.inl x3), some (.inl x4), some (.inl 1)]) zi_69_57 rfl rfl <| yI_iload zi_69_59 rfl <| yI_if_eq zi_69_61 <| yBr (yI_iinc (l := [some (.inr (.inr 41)), some (.inl x1), some (.inl x2), some (.inl x3), some (.inl (w32 (x4 + 1))), some (.inl 1)]) zi_69_100 rfl rfl rfl <| yI_goto zi_69_103 <| rfl) (yI_iload_n zi_69_64 rfl <| yI_if_eq zi_69_65 <| yBr (rfl) (yI_aload_n zi_69_68 rfl <| yI_iload zi_69_69 rfl <| yI_iload_n zi_69_71 rfl <| yI_cv zi_69_72 rfl rfl zk_41 hK)))))
theorem zj_69_56 {K : List zF} {σ : zW} {x1 : Int} {x2 : Int} {x3 : Int} {x4 : Int} {o5 : Option zV} (hK : K.length < 60) : zEv true ((69, 56, [some (.inr (.inr 41)), some (.inl x1), some (.inl x2), some (.inl x3), some (.inl x4), o5], []) :: K) σ = (if (0 : Int) = 0 then zEv true ((69, 19, [some (.inr (.inr 41)), some (.inl x1), some (.inl x2), some (.inl x3), some (.inl (w32 (x4 + 1))), some (.inl 0)], []) :: K) σ else if x1 = 0 then zEv true ((69, 78, [some (.inr (.inr 41)), some (.inl x1), some (.inl x2), some (.inl x3), some (.inl x4), some (.inl 0)], []) :: K) σ else zEv true (zent 71 [.inr (.inr 41), .inl x4, .inl x1] :: (69, 75, [some (.inr (.inr 41)), some (.inl x1), some (.inl x2), some (.inl x3), some (.inl x4), some (.inl 0)], []) :: K) σ) :=
  yI_iconst zi_69_56 <| yI_istore (l := [some (.inr (.inr 41)), some (.inl x1), some (.inl x2), some (.inl x3), some (.inl x4), some (.inl 0)]) zi_69_57 rfl rfl <| yI_iload zi_69_59 rfl <| yI_if_eq zi_69_61 <| yBr (yI_iinc (l := [some (.inr (.inr 41)), some (.inl x1), some (.inl x2), some (.inl x3), some (.inl (w32 (x4 + 1))), some (.inl 0)]) zi_69_100 rfl rfl rfl <| yI_goto zi_69_103 <| rfl) (yI_iload_n zi_69_64 rfl <| yI_if_eq zi_69_65 <| yBr (rfl) (yI_aload_n zi_69_68 rfl <| yI_iload zi_69_69 rfl <| yI_iload_n zi_69_71 rfl <| yI_cv zi_69_72 rfl rfl zk_41 hK))
theorem zj_69_78 {K : List zF} {σ : zW} {x1 : Int} {x2 : Int} {x3 : Int} {x4 : Int} {o5 : Option zV} (hK : K.length < 60) : zEv true ((69, 78, [some (.inr (.inr 41)), some (.inl x1), some (.inl x2), some (.inl x3), some (.inl x4), o5], []) :: K) σ = (if x3 = (-1) then zEv true ((69, 97, [some (.inr (.inr 41)), some (.inl x1), some (.inl x2), some (.inl x3), some (.inl x4), o5], []) :: K) σ else zEv true (zent 70 [.inr (.inr 41), .inl x4] :: (69, 89, [some (.inr (.inr 41)), some (.inl x1), some (.inl x2), some (.inl x3), some (.inl x4), o5], []) :: K) σ) :=
  yI_iload_n zi_69_78 rfl <| yI_iconst zi_69_79 <| yI_ic_eq zi_69_80 <| yBr (rfl) (yI_aload_n zi_69_83 rfl <| yI_iload zi_69_84 rfl <| yI_cv zi_69_86 rfl rfl zk_41 hK)
theorem zr_69_75 {K : List zF} {σ : zW} {x1 : Int} {x2 : Int} {x3 : Int} {x4 : Int} {o5 : Option zV} {v : Int} : zRet true ((69, 75, [some (.inr (.inr 41)), some (.inl x1), some (.inl x2), some (.inl x3), some (.inl x4), o5], []) :: K) (some (.inl v)) σ = (if v = 0 then zEv true ((69, 19, [some (.inr (.inr 41)), some (.inl x1), some (.inl x2), some (.inl x3), some (.inl (w32 (x4 + 1))), o5], []) :: K) σ else zEv true ((69, 78, [some (.inr (.inr 41)), some (.inl x1), some (.inl x2), some (.inl x3), some (.inl x4), o5], []) :: K) σ) :=
  yT_rt (yI_if_eq zi_69_75 <| yBr (yI_iinc (l := [some (.inr (.inr 41)), some (.inl x1), some (.inl x2), some (.inl x3), some (.inl (w32 (x4 + 1))), o5]) zi_69_100 rfl rfl rfl <| yI_goto zi_69_103 <| rfl) (rfl))
theorem zj_69_97 {K : List zF} {σ : zW} {x1 : Int} {x2 : Int} {o3 : Option zV} {x4 : Int} {o5 : Option zV} : zEv true ((69, 97, [some (.inr (.inr 41)), some (.inl x1), some (.inl x2), o3, some (.inl x4), o5], []) :: K) σ = (zEv true ((69, 19, [some (.inr (.inr 41)), some (.inl x1), some (.inl x2), some (.inl x4), some (.inl (w32 (x4 + 1))), o5], []) :: K) σ) :=
  yI_iload zi_69_97 rfl <| yI_istore_n (l := [some (.inr (.inr 41)), some (.inl x1), some (.inl x2), some (.inl x4), some (.inl x4), o5]) zi_69_99 rfl rfl <| yI_iinc (l := [some (.inr (.inr 41)), some (.inl x1), some (.inl x2), some (.inl x4), some (.inl (w32 (x4 + 1))), o5]) zi_69_100 rfl rfl rfl <| yI_goto zi_69_103 <| rfl
theorem zr_69_89 {K : List zF} {σ : zW} {x1 : Int} {x2 : Int} {x3 : Int} {x4 : Int} {o5 : Option zV} {v : Int} (hK : K.length < 60) : zRet true ((69, 89, [some (.inr (.inr 41)), some (.inl x1), some (.inl x2), some (.inl x3), some (.inl x4), o5], []) :: K) (some (.inl v)) σ = (zEv true (zent 70 [.inr (.inr 41), .inl x3] :: (69, 94, [some (.inr (.inr 41)), some (.inl x1), some (.inl x2), some (.inl x3), some (.inl x4), o5], [.inl v]) :: K) σ) :=
  yT_rt (yI_aload_n zi_69_89 rfl <| yI_iload_n zi_69_90 rfl <| yI_cv zi_69_91 rfl rfl zk_41 hK)
theorem zr_69_94 {K : List zF} {σ : zW} {x1 : Int} {x2 : Int} {x3 : Int} {x4 : Int} {o5 : Option zV} {s0 : Int} {v : Int} : zRet true ((69, 94, [some (.inr (.inr 41)), some (.inl x1), some (.inl x2), some (.inl x3), some (.inl x4), o5], [.inl s0]) :: K) (some (.inl v)) σ = (if v ≤ s0 then zEv true ((69, 19, [some (.inr (.inr 41)), some (.inl x1), some (.inl x2), some (.inl x3), some (.inl (w32 (x4 + 1))), o5], []) :: K) σ else zEv true ((69, 97, [some (.inr (.inr 41)), some (.inl x1), some (.inl x2), some (.inl x3), some (.inl x4), o5], []) :: K) σ) :=
  yT_rt (yI_ic_ge zi_69_94 <| yBr (yI_iinc (l := [some (.inr (.inr 41)), some (.inl x1), some (.inl x2), some (.inl x3), some (.inl (w32 (x4 + 1))), o5]) zi_69_100 rfl rfl rfl <| yI_goto zi_69_103 <| rfl) (rfl))
/-- 70 Treegrab$Search.fitting(I)I -/
theorem zi_70_0 : zraw 70 0 = some (.aload_n 0, 1) ∧ 0 + 1 = 1 := by decide +kernel
theorem zi_70_1 : zraw 70 1 = some (.getfield 9, 3) ∧ zft (zinf 70).1 9 = some (6, 0, 3, true) ∧ 1 + 3 = 4 := by decide +kernel
theorem zi_70_4 : zraw 70 4 = some (.aload_n 0, 1) ∧ 4 + 1 = 5 := by decide +kernel
theorem zi_70_5 : zraw 70 5 = some (.getfield 40, 3) ∧ zft (zinf 70).1 40 = some (6, 11, 3, false) ∧ 5 + 3 = 8 := by decide +kernel
theorem zi_70_8 : zraw 70 8 = some (.getfield 96, 3) ∧ zft (zinf 70).1 96 = some (4, 13, 3, true) ∧ 8 + 3 = 11 := by decide +kernel
theorem zi_70_11 : zraw 70 11 = some (.iload_n 1, 1) ∧ 11 + 1 = 12 := by decide +kernel
theorem zi_70_12 : zraw 70 12 = some (.iaload, 1) ∧ 12 + 1 = 13 := by decide +kernel
theorem zi_70_13 : zraw 70 13 = some (.iaload, 1) ∧ 13 + 1 = 14 := by decide +kernel
theorem zi_70_14 : zraw 70 14 = some (.invokestatic 99, 3) ∧ zmt (zinf 70).1 99 = some 166 ∧ Nat.ble 9000 166 = false ∧ zinf 166 = (12, 1, 1, 1, 1) ∧ 14 + 3 = 17 := by decide +kernel
theorem zi_70_17 : zraw 70 17 = some (.ireturn, 1) ∧ (zinf 70).2.2.2.1 = 1 := by decide +kernel
theorem ze_70 {K : List zF} {σ : zW} {x1 : Int} (hK : K.length < 60) (h1 : zPn (gR σ 41 11)) : zEv true (zent 70 [.inr (.inr 41), .inl x1] :: K) σ = ((0 ≤ x1 ∧ x1 < 4) ∧ ((0 ≤ (gI σ ((gR σ 41 11) + 14) x1.toNat) ∧ (gI σ ((gR σ 41 11) + 14) x1.toNat) < 8) ∧ zEv true (zent 166 [.inl (gI σ 42 ((gI σ ((gR σ 41 11) + 14) x1.toNat).toNat))] :: (70, 17, [some (.inr (.inr 41)), some (.inl x1)], []) :: K) σ)) :=
  yT_en (f := (70, 0, [some (.inr (.inr 41)), some (.inl x1)], [])) rfl (yI_aload_n zi_70_0 rfl <| yI_gf_f (v := 42) zi_70_1 zk_41 rfl <| yI_aload_n zi_70_4 rfl <| yI_gf_r (v := gR σ 41 11) zi_70_5 zk_41 rfl <| yI_gf_f (v := (gR σ 41 11) + 14) zi_70_8 (zPn_k h1) rfl <| yI_iload_n zi_70_11 rfl <| yI_ialoadc (v := gI σ ((gR σ 41 11) + 14) x1.toNat) zi_70_12 (zPn_a14 h1) rfl <| yI_ialoadc (v := gI σ 42 ((gI σ ((gR σ 41 11) + 14) x1.toNat).toNat)) zi_70_13 za_42 rfl <| yI_cs zi_70_14 rfl rfl hK)
theorem zr_70_17 {K : List zF} {σ : zW} {o0 : Option zV} {o1 : Option zV} {v : Int} : zRet true ((70, 17, [o0, o1], []) :: K) (some (.inl v)) σ = (zRet true K (some (.inl v)) σ) :=
  yT_rt (yI_ireturn zi_70_17)
/-- 71 Treegrab$Search.isJoined(II)Z -/
theorem zi_71_0 : zraw 71 0 = some (.iconst 1, 1) ∧ zin 128 1 = true ∧ 0 + 1 = 1 := by decide +kernel
theorem zi_71_1 : zraw 71 1 = some (.istore_n 3, 1) ∧ 1 + 1 = 2 := by decide +kernel
theorem zi_71_2 : zraw 71 2 = some (.iload_n 3, 1) ∧ 2 + 1 = 3 := by decide +kernel
theorem zi_71_3 : zraw 71 3 = some (.aload_n 0, 1) ∧ 3 + 1 = 4 := by decide +kernel
theorem zi_71_4 : zraw 71 4 = some (.getfield 40, 3) ∧ zft (zinf 71).1 40 = some (6, 11, 3, false) ∧ 4 + 3 = 7 := by decide +kernel
theorem zi_71_7 : zraw 71 7 = some (.getfield 54, 3) ∧ zft (zinf 71).1 54 = some (4, 15, 0, false) ∧ 7 + 3 = 10 := by decide +kernel
theorem zi_71_10 : zraw 71 10 = some (.if_icmp .ge 80, 3) ∧ ((10 : Nat) : Int) + 80 = Int.ofNat 90 ∧ 10 + 3 = 13 := by decide +kernel
theorem zi_71_13 : zraw 71 13 = some (.aload_n 0, 1) ∧ 13 + 1 = 14 := by decide +kernel
theorem zi_71_14 : zraw 71 14 = some (.getfield 40, 3) ∧ zft (zinf 71).1 40 = some (6, 11, 3, false) ∧ 14 + 3 = 17 := by decide +kernel
theorem zi_71_17 : zraw 71 17 = some (.iload_n 3, 1) ∧ 17 + 1 = 18 := by decide +kernel
theorem zi_71_18 : zraw 71 18 = some (.invokevirtual 104, 3) ∧ zmt (zinf 71).1 104 = some 40 ∧ Nat.ble 9000 40 = false ∧ zinf 40 = (4, 2, 2, 2, 0) ∧ 18 + 3 = 21 := by decide +kernel
theorem zi_71_21 : zraw 71 21 = some (.ifCond .eq 63, 3) ∧ ((21 : Nat) : Int) + 63 = Int.ofNat 84 ∧ 21 + 3 = 24 := by decide +kernel
theorem zi_71_24 : zraw 71 24 = some (.aload_n 0, 1) ∧ 24 + 1 = 25 := by decide +kernel
theorem zi_71_25 : zraw 71 25 = some (.getfield 40, 3) ∧ zft (zinf 71).1 40 = some (6, 11, 3, false) ∧ 25 + 3 = 28 := by decide +kernel
theorem zi_71_28 : zraw 71 28 = some (.aload_n 0, 1) ∧ 28 + 1 = 29 := by decide +kernel
theorem zi_71_29 : zraw 71 29 = some (.getfield 40, 3) ∧ zft (zinf 71).1 40 = some (6, 11, 3, false) ∧ 29 + 3 = 32 := by decide +kernel
theorem zi_71_32 : zraw 71 32 = some (.getfield 107, 3) ∧ zft (zinf 71).1 107 = some (4, 2, 3, true) ∧ 32 + 3 = 35 := by decide +kernel
theorem zi_71_35 : zraw 71 35 = some (.iload_n 3, 1) ∧ 35 + 1 = 36 := by decide +kernel
theorem zi_71_36 : zraw 71 36 = some (.iaload, 1) ∧ 36 + 1 = 37 := by decide +kernel
theorem zi_71_37 : zraw 71 37 = some (.invokevirtual 110, 3) ∧ zmt (zinf 71).1 110 = some 42 ∧ Nat.ble 9000 42 = false ∧ zinf 42 = (4, 2, 2, 1, 0) ∧ 37 + 3 = 40 := by decide +kernel
theorem zi_71_40 : zraw 71 40 = some (.istore 4, 2) ∧ 40 + 2 = 42 := by decide +kernel
theorem zi_71_42 : zraw 71 42 = some (.aload_n 0, 1) ∧ 42 + 1 = 43 := by decide +kernel
theorem zi_71_43 : zraw 71 43 = some (.getfield 40, 3) ∧ zft (zinf 71).1 40 = some (6, 11, 3, false) ∧ 43 + 3 = 46 := by decide +kernel
theorem zi_71_46 : zraw 71 46 = some (.iload_n 3, 1) ∧ 46 + 1 = 47 := by decide +kernel
theorem zi_71_47 : zraw 71 47 = some (.invokevirtual 110, 3) ∧ zmt (zinf 71).1 110 = some 42 ∧ Nat.ble 9000 42 = false ∧ zinf 42 = (4, 2, 2, 1, 0) ∧ 47 + 3 = 50 := by decide +kernel
theorem zi_71_50 : zraw 71 50 = some (.istore 5, 2) ∧ 50 + 2 = 52 := by decide +kernel
theorem zi_71_52 : zraw 71 52 = some (.iload 4, 2) ∧ 52 + 2 = 54 := by decide +kernel
theorem zi_71_54 : zraw 71 54 = some (.iload_n 1, 1) ∧ 54 + 1 = 55 := by decide +kernel
theorem zi_71_55 : zraw 71 55 = some (.if_icmp .ne 12, 3) ∧ ((55 : Nat) : Int) + 12 = Int.ofNat 67 ∧ 55 + 3 = 58 := by decide +kernel
theorem zi_71_58 : zraw 71 58 = some (.iload_n 2, 1) ∧ 58 + 1 = 59 := by decide +kernel
theorem zi_71_59 : zraw 71 59 = some (.iload 5, 2) ∧ 59 + 2 = 61 := by decide +kernel
theorem zi_71_61 : zraw 71 61 = some (.ishr, 1) ∧ 61 + 1 = 62 := by decide +kernel
theorem zi_71_62 : zraw 71 62 = some (.iconst 1, 1) ∧ zin 128 1 = true ∧ 62 + 1 = 63 := by decide +kernel
theorem zi_71_63 : zraw 71 63 = some (.iand, 1) ∧ 63 + 1 = 64 := by decide +kernel
theorem zi_71_64 : zraw 71 64 = some (.ifCond .ne 18, 3) ∧ ((64 : Nat) : Int) + 18 = Int.ofNat 82 ∧ 64 + 3 = 67 := by decide +kernel
theorem zi_71_67 : zraw 71 67 = some (.iload 5, 2) ∧ 67 + 2 = 69 := by decide +kernel
theorem zi_71_69 : zraw 71 69 = some (.iload_n 1, 1) ∧ 69 + 1 = 70 := by decide +kernel
theorem zi_71_70 : zraw 71 70 = some (.if_icmp .ne 14, 3) ∧ ((70 : Nat) : Int) + 14 = Int.ofNat 84 ∧ 70 + 3 = 73 := by decide +kernel
theorem zi_71_73 : zraw 71 73 = some (.iload_n 2, 1) ∧ 73 + 1 = 74 := by decide +kernel
theorem zi_71_74 : zraw 71 74 = some (.iload 4, 2) ∧ 74 + 2 = 76 := by decide +kernel
theorem zi_71_76 : zraw 71 76 = some (.ishr, 1) ∧ 76 + 1 = 77 := by decide +kernel
theorem zi_71_77 : zraw 71 77 = some (.iconst 1, 1) ∧ zin 128 1 = true ∧ 77 + 1 = 78 := by decide +kernel
theorem zi_71_78 : zraw 71 78 = some (.iand, 1) ∧ 78 + 1 = 79 := by decide +kernel
theorem zi_71_79 : zraw 71 79 = some (.ifCond .eq 5, 3) ∧ ((79 : Nat) : Int) + 5 = Int.ofNat 84 ∧ 79 + 3 = 82 := by decide +kernel
theorem zi_71_82 : zraw 71 82 = some (.iconst 1, 1) ∧ zin 128 1 = true ∧ 82 + 1 = 83 := by decide +kernel
theorem zi_71_83 : zraw 71 83 = some (.ireturn, 1) ∧ (zinf 71).2.2.2.1 = 2 := by decide +kernel
theorem zi_71_84 : zraw 71 84 = some (.iinc 3 1, 3) ∧ zin 32768 1 = true ∧ 84 + 3 = 87 := by decide +kernel
theorem zi_71_87 : zraw 71 87 = some (.goto (-85), 3) ∧ ((87 : Nat) : Int) + (-85) = Int.ofNat 2 := by decide +kernel
theorem zi_71_90 : zraw 71 90 = some (.iconst 0, 1) ∧ zin 128 0 = true ∧ 90 + 1 = 91 := by decide +kernel
theorem zi_71_91 : zraw 71 91 = some (.ireturn, 1) ∧ (zinf 71).2.2.2.1 = 2 := by decide +kernel
theorem ze_71 {K : List zF} {σ : zW} {x1 : Int} {x2 : Int} : zEv true (zent 71 [.inr (.inr 41), .inl x1, .inl x2] :: K) σ = (zEv true ((71, 2, [some (.inr (.inr 41)), some (.inl x1), some (.inl x2), some (.inl 1), none, none], []) :: K) σ) :=
  yT_en (f := (71, 0, [some (.inr (.inr 41)), some (.inl x1), some (.inl x2), none, none, none], [])) rfl (yI_iconst zi_71_0 <| yI_istore_n (l := [some (.inr (.inr 41)), some (.inl x1), some (.inl x2), some (.inl 1), none, none]) zi_71_1 rfl rfl <| rfl)
theorem zj_71_2 {K : List zF} {σ : zW} {x1 : Int} {x2 : Int} {x3 : Int} {o4 : Option zV} {o5 : Option zV} (hK : K.length < 60) (h1 : zPn (gR σ 41 11)) : zEv true ((71, 2, [some (.inr (.inr 41)), some (.inl x1), some (.inl x2), some (.inl x3), o4, o5], []) :: K) σ = (if (gI σ (gR σ 41 11) 15) ≤ x3 then zRet true K (some (.inl 0)) σ else zEv true (zent 40 [.inr (.inr (gR σ 41 11)), .inl x3] :: (71, 21, [some (.inr (.inr 41)), some (.inl x1), some (.inl x2), some (.inl x3), o4, o5], []) :: K) σ) :=
  yI_iload_n zi_71_2 rfl <| yI_aload_n zi_71_3 rfl <| yI_gf_r (v := gR σ 41 11) zi_71_4 zk_41 rfl <| yI_gf_i (v := gI σ (gR σ 41 11) 15) zi_71_7 (zPn_k h1) rfl <| yI_ic_ge zi_71_10 <| yBr (yI_iconst zi_71_90 <| yI_zreturn zi_71_91 (by decide)) (yI_aload_n zi_71_13 rfl <| yI_gf_r (v := gR σ 41 11) zi_71_14 zk_41 rfl <| yI_iload_n zi_71_17 rfl <| yI_cv zi_71_18 rfl rfl (zPn_k h1) hK)
theorem zr_71_21 {K : List zF} {σ : zW} {x1 : Int} {x2 : Int} {x3 : Int} {o4 : Option zV} {o5 : Option zV} {v : Int} (hK : K.length < 60) (h1 : zPn (gR σ 41 11)) : zRet true ((71, 21, [some (.inr (.inr 41)), some (.inl x1), some (.inl x2), some (.inl x3), o4, o5], []) :: K) (some (.inl v)) σ = (if v = 0 then zEv true ((71, 2, [some (.inr (.inr 41)), some (.inl x1), some (.inl x2), some (.inl (w32 (x3 + 1))), o4, o5], []) :: K) σ else (0 ≤ x3 ∧ x3 < 8) ∧ zEv true (zent 42 [.inr (.inr (gR σ 41 11)), .inl (gI σ ((gR σ 41 11) + 3) x3.toNat)] :: (71, 40, [some (.inr (.inr 41)), some (.inl x1), some (.inl x2), some (.inl x3), o4, o5], []) :: K) σ) :=
  yT_rt (yI_if_eq zi_71_21 <| yBr (yI_iinc (l := [some (.inr (.inr 41)), some (.inl x1), some (.inl x2), some (.inl (w32 (x3 + 1))), o4, o5]) zi_71_84 rfl rfl rfl <| yI_goto zi_71_87 <| rfl) (yI_aload_n zi_71_24 rfl <| yI_gf_r (v := gR σ 41 11) zi_71_25 zk_41 rfl <| yI_aload_n zi_71_28 rfl <| yI_gf_r (v := gR σ 41 11) zi_71_29 zk_41 rfl <| yI_gf_f (v := (gR σ 41 11) + 3) zi_71_32 (zPn_k h1) rfl <| yI_iload_n zi_71_35 rfl <| yI_ialoadc (v := gI σ ((gR σ 41 11) + 3) x3.toNat) zi_71_36 (zPn_a3 h1) rfl <| yI_cv zi_71_37 rfl rfl (zPn_k h1) hK))
theorem zr_71_40 {K : List zF} {σ : zW} {x1 : Int} {x2 : Int} {x3 : Int} {o4 : Option zV} {o5 : Option zV} {v : Int} (hK : K.length < 60) (h1 : zPn (gR σ 41 11)) : zRet true ((71, 40, [some (.inr (.inr 41)), some (.inl x1), some (.inl x2), some (.inl x3), o4, o5], []) :: K) (some (.inl v)) σ = (zEv true (zent 42 [.inr (.inr (gR σ 41 11)), .inl x3] :: (71, 50, [some (.inr (.inr 41)), some (.inl x1), some (.inl x2), some (.inl x3), some (.inl v), o5], []) :: K) σ) :=
  yT_rt (yI_istore (l := [some (.inr (.inr 41)), some (.inl x1), some (.inl x2), some (.inl x3), some (.inl v), o5]) zi_71_40 rfl rfl <| yI_aload_n zi_71_42 rfl <| yI_gf_r (v := gR σ 41 11) zi_71_43 zk_41 rfl <| yI_iload_n zi_71_46 rfl <| yI_cv zi_71_47 rfl rfl (zPn_k h1) hK)
theorem zr_71_50 {K : List zF} {σ : zW} {x1 : Int} {x2 : Int} {x3 : Int} {x4 : Int} {o5 : Option zV} {v : Int} : zRet true ((71, 50, [some (.inr (.inr 41)), some (.inl x1), some (.inl x2), some (.inl x3), some (.inl x4), o5], []) :: K) (some (.inl v)) σ = (if ¬ x4 = x1 then zEv true ((71, 67, [some (.inr (.inr 41)), some (.inl x1), some (.inl x2), some (.inl x3), some (.inl x4), some (.inl v)], []) :: K) σ else if ¬ (zand (zshr x2 v) 1) = 0 then zRet true K (some (.inl 1)) σ else zEv true ((71, 67, [some (.inr (.inr 41)), some (.inl x1), some (.inl x2), some (.inl x3), some (.inl x4), some (.inl v)], []) :: K) σ) :=
  yT_rt (yI_istore (l := [some (.inr (.inr 41)), some (.inl x1), some (.inl x2), some (.inl x3), some (.inl x4), some (.inl v)]) zi_71_50 rfl rfl <| yI_iload zi_71_52 rfl <| yI_iload_n zi_71_54 rfl <| yI_ic_ne zi_71_55 <| yBr (rfl) (yI_iload_n zi_71_58 rfl <| yI_iload zi_71_59 rfl <| yI_ishr zi_71_61 <| yI_iconst zi_71_62 <| yI_iand zi_71_63 <| yI_if_ne zi_71_64 <| yBr (yI_iconst zi_71_82 <| yI_zreturn zi_71_83 (by decide)) (rfl)))
theorem zj_71_67 {K : List zF} {σ : zW} {x1 : Int} {x2 : Int} {x3 : Int} {x4 : Int} {x5 : Int} : zEv true ((71, 67, [some (.inr (.inr 41)), some (.inl x1), some (.inl x2), some (.inl x3), some (.inl x4), some (.inl x5)], []) :: K) σ = (if ¬ x5 = x1 then zEv true ((71, 2, [some (.inr (.inr 41)), some (.inl x1), some (.inl x2), some (.inl (w32 (x3 + 1))), some (.inl x4), some (.inl x5)], []) :: K) σ else if (zand (zshr x2 x4) 1) = 0 then zEv true ((71, 2, [some (.inr (.inr 41)), some (.inl x1), some (.inl x2), some (.inl (w32 (x3 + 1))), some (.inl x4), some (.inl x5)], []) :: K) σ else zRet true K (some (.inl 1)) σ) :=
  yI_iload zi_71_67 rfl <| yI_iload_n zi_71_69 rfl <| yI_ic_ne zi_71_70 <| yBr (yI_iinc (l := [some (.inr (.inr 41)), some (.inl x1), some (.inl x2), some (.inl (w32 (x3 + 1))), some (.inl x4), some (.inl x5)]) zi_71_84 rfl rfl rfl <| yI_goto zi_71_87 <| rfl) (yI_iload_n zi_71_73 rfl <| yI_iload zi_71_74 rfl <| yI_ishr zi_71_76 <| yI_iconst zi_71_77 <| yI_iand zi_71_78 <| yI_if_eq zi_71_79 <| yBr (yI_iinc (l := [some (.inr (.inr 41)), some (.inl x1), some (.inl x2), some (.inl (w32 (x3 + 1))), some (.inl x4), some (.inl x5)]) zi_71_84 rfl rfl rfl <| yI_goto zi_71_87 <| rfl) (yI_iconst zi_71_82 <| yI_zreturn zi_71_83 (by decide)))
/-- 72 Treegrab$Search.runPlan(LTreegrab$Found;)V -/
theorem zi_72_0 : zraw 72 0 = some (.aload_n 0, 1) ∧ 0 + 1 = 1 := by decide +kernel
theorem zi_72_1 : zraw 72 1 = some (.aload_n 1, 1) ∧ 1 + 1 = 2 := by decide +kernel
theorem zi_72_2 : zraw 72 2 = some (.putfield 113, 3) ∧ zft (zinf 72).1 113 = some (6, 12, 3, false) ∧ 2 + 3 = 5 := by decide +kernel
theorem zi_72_5 : zraw 72 5 = some (.aload_n 0, 1) ∧ 5 + 1 = 6 := by decide +kernel
theorem zi_72_6 : zraw 72 6 = some (.iconst 1, 1) ∧ zin 128 1 = true ∧ 6 + 1 = 7 := by decide +kernel
theorem zi_72_7 : zraw 72 7 = some (.putfield 117, 3) ∧ zft (zinf 72).1 117 = some (6, 9, 1, false) ∧ 7 + 3 = 10 := by decide +kernel
theorem zi_72_10 : zraw 72 10 = some (.aload_n 0, 1) ∧ 10 + 1 = 11 := by decide +kernel
theorem zi_72_11 : zraw 72 11 = some (.iconst 0, 1) ∧ zin 128 0 = true ∧ 11 + 1 = 12 := by decide +kernel
theorem zi_72_12 : zraw 72 12 = some (.iconst 0, 1) ∧ zin 128 0 = true ∧ 12 + 1 = 13 := by decide +kernel
theorem zi_72_13 : zraw 72 13 = some (.invokevirtual 121, 3) ∧ zmt (zinf 72).1 121 = some 74 ∧ Nat.ble 9000 74 = false ∧ zinf 74 = (6, 3, 6, 0, 0) ∧ 13 + 3 = 16 := by decide +kernel
theorem zi_72_16 : zraw 72 16 = some (.return_, 1) ∧ (zinf 72).2.2.2.1 = 0 := by decide +kernel
theorem ze_72 {K : List zF} {σ : zW} {x1 : Nat} (hK : K.length < 60) : zEv true (zent 72 [.inr (.inr 41), .inr (.inr x1)] :: K) σ = (zEv true (zent 74 [.inr (.inr 41), .inl 0, .inl 0] :: (72, 16, [some (.inr (.inr 41)), some (.inr (.inr x1))], []) :: K) (sI (sR σ 41 12 x1) 41 9 1)) :=
  yT_en (f := (72, 0, [some (.inr (.inr 41)), some (.inr (.inr x1))], [])) rfl (yI_aload_n zi_72_0 rfl <| yI_aload_n zi_72_1 rfl <| yI_pf_r zi_72_2 zk_41 <| yI_aload_n zi_72_5 rfl <| yI_iconst zi_72_6 <| yI_pf_b zi_72_7 zk_41 (by decide) <| yI_aload_n zi_72_10 rfl <| yI_iconst zi_72_11 <| yI_iconst zi_72_12 <| yI_cv zi_72_13 rfl rfl zk_41 hK)
theorem zr_72_16 {K : List zF} {σ : zW} {o0 : Option zV} {o1 : Option zV} : zRet true ((72, 16, [o0, o1], []) :: K) none σ = (zRet true K none σ) :=
  yT_rv (yI_ret zi_72_16)
/-- 73 Treegrab$Search.runAll(LTreegrab$Found;)V -/
theorem zi_73_0 : zraw 73 0 = some (.aload_n 0, 1) ∧ 0 + 1 = 1 := by decide +kernel
theorem zi_73_1 : zraw 73 1 = some (.aload_n 1, 1) ∧ 1 + 1 = 2 := by decide +kernel
theorem zi_73_2 : zraw 73 2 = some (.putfield 113, 3) ∧ zft (zinf 73).1 113 = some (6, 12, 3, false) ∧ 2 + 3 = 5 := by decide +kernel
theorem zi_73_5 : zraw 73 5 = some (.aload_n 0, 1) ∧ 5 + 1 = 6 := by decide +kernel
theorem zi_73_6 : zraw 73 6 = some (.iconst 0, 1) ∧ zin 128 0 = true ∧ 6 + 1 = 7 := by decide +kernel
theorem zi_73_7 : zraw 73 7 = some (.putfield 117, 3) ∧ zft (zinf 73).1 117 = some (6, 9, 1, false) ∧ 7 + 3 = 10 := by decide +kernel
theorem zi_73_10 : zraw 73 10 = some (.aload_n 0, 1) ∧ 10 + 1 = 11 := by decide +kernel
theorem zi_73_11 : zraw 73 11 = some (.iconst 0, 1) ∧ zin 128 0 = true ∧ 11 + 1 = 12 := by decide +kernel
theorem zi_73_12 : zraw 73 12 = some (.invokevirtual 125, 3) ∧ zmt (zinf 73).1 125 = some 76 ∧ Nat.ble 9000 76 = false ∧ zinf 76 = (6, 2, 5, 0, 0) ∧ 12 + 3 = 15 := by decide +kernel
theorem zi_73_15 : zraw 73 15 = some (.return_, 1) ∧ (zinf 73).2.2.2.1 = 0 := by decide +kernel
theorem ze_73 {K : List zF} {σ : zW} {x1 : Nat} (hK : K.length < 60) : zEv true (zent 73 [.inr (.inr 41), .inr (.inr x1)] :: K) σ = (zEv true (zent 76 [.inr (.inr 41), .inl 0] :: (73, 15, [some (.inr (.inr 41)), some (.inr (.inr x1))], []) :: K) (sI (sR σ 41 12 x1) 41 9 0)) :=
  yT_en (f := (73, 0, [some (.inr (.inr 41)), some (.inr (.inr x1))], [])) rfl (yI_aload_n zi_73_0 rfl <| yI_aload_n zi_73_1 rfl <| yI_pf_r zi_73_2 zk_41 <| yI_aload_n zi_73_5 rfl <| yI_iconst zi_73_6 <| yI_pf_b zi_73_7 zk_41 (by decide) <| yI_aload_n zi_73_10 rfl <| yI_iconst zi_73_11 <| yI_cv zi_73_12 rfl rfl zk_41 hK)
theorem zr_73_15 {K : List zF} {σ : zW} {o0 : Option zV} {o1 : Option zV} : zRet true ((73, 15, [o0, o1], []) :: K) none σ = (zRet true K none σ) :=
  yT_rv (yI_ret zi_73_15)
/-- 74 Treegrab$Search.bind(II)V -/
theorem zi_74_0 : zraw 74 0 = some (.iload_n 1, 1) ∧ 0 + 1 = 1 := by decide +kernel
theorem zi_74_1 : zraw 74 1 = some (.aload_n 0, 1) ∧ 1 + 1 = 2 := by decide +kernel
theorem zi_74_2 : zraw 74 2 = some (.getfield 78, 3) ∧ zft (zinf 74).1 78 = some (6, 8, 0, false) ∧ 2 + 3 = 5 := by decide +kernel
theorem zi_74_5 : zraw 74 5 = some (.if_icmp .lt 9, 3) ∧ ((5 : Nat) : Int) + 9 = Int.ofNat 14 ∧ 5 + 3 = 8 := by decide +kernel
theorem zi_74_8 : zraw 74 8 = some (.aload_n 0, 1) ∧ 8 + 1 = 9 := by decide +kernel
theorem zi_74_9 : zraw 74 9 = some (.iconst 0, 1) ∧ zin 128 0 = true ∧ 9 + 1 = 10 := by decide +kernel
theorem zi_74_10 : zraw 74 10 = some (.invokevirtual 125, 3) ∧ zmt (zinf 74).1 125 = some 76 ∧ Nat.ble 9000 76 = false ∧ zinf 76 = (6, 2, 5, 0, 0) ∧ 10 + 3 = 13 := by decide +kernel
theorem zi_74_13 : zraw 74 13 = some (.return_, 1) ∧ (zinf 74).2.2.2.1 = 0 := by decide +kernel
theorem zi_74_14 : zraw 74 14 = some (.aload_n 0, 1) ∧ 14 + 1 = 15 := by decide +kernel
theorem zi_74_15 : zraw 74 15 = some (.getfield 33, 3) ∧ zft (zinf 74).1 33 = some (6, 7, 3, true) ∧ 15 + 3 = 18 := by decide +kernel
theorem zi_74_18 : zraw 74 18 = some (.iload_n 1, 1) ∧ 18 + 1 = 19 := by decide +kernel
theorem zi_74_19 : zraw 74 19 = some (.iaload, 1) ∧ 19 + 1 = 20 := by decide +kernel
theorem zi_74_20 : zraw 74 20 = some (.istore_n 3, 1) ∧ 20 + 1 = 21 := by decide +kernel
theorem zi_74_21 : zraw 74 21 = some (.aload_n 0, 1) ∧ 21 + 1 = 22 := by decide +kernel
theorem zi_74_22 : zraw 74 22 = some (.iload_n 3, 1) ∧ 22 + 1 = 23 := by decide +kernel
theorem zi_74_23 : zraw 74 23 = some (.iload_n 2, 1) ∧ 23 + 1 = 24 := by decide +kernel
theorem zi_74_24 : zraw 74 24 = some (.invokevirtual 128, 3) ∧ zmt (zinf 74).1 128 = some 75 ∧ Nat.ble 9000 75 = false ∧ zinf 75 = (6, 3, 7, 1, 0) ∧ 24 + 3 = 27 := by decide +kernel
theorem zi_74_27 : zraw 74 27 = some (.istore 4, 2) ∧ 27 + 2 = 29 := by decide +kernel
theorem zi_74_29 : zraw 74 29 = some (.iconst 0, 1) ∧ zin 128 0 = true ∧ 29 + 1 = 30 := by decide +kernel
theorem zi_74_30 : zraw 74 30 = some (.istore 5, 2) ∧ 30 + 2 = 32 := by decide +kernel
theorem zi_74_32 : zraw 74 32 = some (.iload 5, 2) ∧ 32 + 2 = 34 := by decide +kernel
theorem zi_74_34 : zraw 74 34 = some (.aload_n 0, 1) ∧ 34 + 1 = 35 := by decide +kernel
theorem zi_74_35 : zraw 74 35 = some (.getfield 36, 3) ∧ zft (zinf 74).1 36 = some (6, 10, 3, false) ∧ 35 + 3 = 38 := by decide +kernel
theorem zi_74_38 : zraw 74 38 = some (.getfield 44, 3) ∧ zft (zinf 74).1 44 = some (8, 12, 0, false) ∧ 38 + 3 = 41 := by decide +kernel
theorem zi_74_41 : zraw 74 41 = some (.if_icmp .ge 39, 3) ∧ ((41 : Nat) : Int) + 39 = Int.ofNat 80 ∧ 41 + 3 = 44 := by decide +kernel
theorem zi_74_44 : zraw 74 44 = some (.iload 4, 2) ∧ 44 + 2 = 46 := by decide +kernel
theorem zi_74_46 : zraw 74 46 = some (.iload 5, 2) ∧ 46 + 2 = 48 := by decide +kernel
theorem zi_74_48 : zraw 74 48 = some (.ishr, 1) ∧ 48 + 1 = 49 := by decide +kernel
theorem zi_74_49 : zraw 74 49 = some (.iconst 1, 1) ∧ zin 128 1 = true ∧ 49 + 1 = 50 := by decide +kernel
theorem zi_74_50 : zraw 74 50 = some (.iand, 1) ∧ 50 + 1 = 51 := by decide +kernel
theorem zi_74_51 : zraw 74 51 = some (.ifCond .eq 23, 3) ∧ ((51 : Nat) : Int) + 23 = Int.ofNat 74 ∧ 51 + 3 = 54 := by decide +kernel
theorem zi_74_54 : zraw 74 54 = some (.aload_n 0, 1) ∧ 54 + 1 = 55 := by decide +kernel
theorem zi_74_55 : zraw 74 55 = some (.getfield 30, 3) ∧ zft (zinf 74).1 30 = some (6, 6, 3, true) ∧ 55 + 3 = 58 := by decide +kernel
theorem zi_74_58 : zraw 74 58 = some (.iload_n 3, 1) ∧ 58 + 1 = 59 := by decide +kernel
theorem zi_74_59 : zraw 74 59 = some (.iload 5, 2) ∧ 59 + 2 = 61 := by decide +kernel
theorem zi_74_61 : zraw 74 61 = some (.iastore, 1) ∧ 61 + 1 = 62 := by decide +kernel
theorem zi_74_62 : zraw 74 62 = some (.aload_n 0, 1) ∧ 62 + 1 = 63 := by decide +kernel
theorem zi_74_63 : zraw 74 63 = some (.iload_n 1, 1) ∧ 63 + 1 = 64 := by decide +kernel
theorem zi_74_64 : zraw 74 64 = some (.iconst 1, 1) ∧ zin 128 1 = true ∧ 64 + 1 = 65 := by decide +kernel
theorem zi_74_65 : zraw 74 65 = some (.iadd, 1) ∧ 65 + 1 = 66 := by decide +kernel
theorem zi_74_66 : zraw 74 66 = some (.iload_n 2, 1) ∧ 66 + 1 = 67 := by decide +kernel
theorem zi_74_67 : zraw 74 67 = some (.iconst 1, 1) ∧ zin 128 1 = true ∧ 67 + 1 = 68 := by decide +kernel
theorem zi_74_68 : zraw 74 68 = some (.iload_n 3, 1) ∧ 68 + 1 = 69 := by decide +kernel
theorem zi_74_69 : zraw 74 69 = some (.ishl, 1) ∧ 69 + 1 = 70 := by decide +kernel
theorem zi_74_70 : zraw 74 70 = some (.ior, 1) ∧ 70 + 1 = 71 := by decide +kernel
theorem zi_74_71 : zraw 74 71 = some (.invokevirtual 121, 3) ∧ zmt (zinf 74).1 121 = some 74 ∧ Nat.ble 9000 74 = false ∧ zinf 74 = (6, 3, 6, 0, 0) ∧ 71 + 3 = 74 := by decide +kernel
theorem zi_74_74 : zraw 74 74 = some (.iinc 5 1, 3) ∧ zin 32768 1 = true ∧ 74 + 3 = 77 := by decide +kernel
theorem zi_74_77 : zraw 74 77 = some (.goto (-45), 3) ∧ ((77 : Nat) : Int) + (-45) = Int.ofNat 32 := by decide +kernel
theorem zi_74_80 : zraw 74 80 = some (.return_, 1) ∧ (zinf 74).2.2.2.1 = 0 := by decide +kernel
theorem ze_74 {K : List zF} {σ : zW} {x1 : Int} {x2 : Int} (hK : K.length < 60) : zEv true (zent 74 [.inr (.inr 41), .inl x1, .inl x2] :: K) σ = (if x1 < (gI σ 41 8) then (0 ≤ x1 ∧ x1 < 4) ∧ zEv true (zent 75 [.inr (.inr 41), .inl (gI σ 49 x1.toNat), .inl x2] :: (74, 27, [some (.inr (.inr 41)), some (.inl x1), some (.inl x2), some (.inl (gI σ 49 x1.toNat)), none, none], []) :: K) σ else zEv true (zent 76 [.inr (.inr 41), .inl 0] :: (74, 13, [some (.inr (.inr 41)), some (.inl x1), some (.inl x2), none, none, none], []) :: K) σ) :=
  yT_en (f := (74, 0, [some (.inr (.inr 41)), some (.inl x1), some (.inl x2), none, none, none], [])) rfl (yI_iload_n zi_74_0 rfl <| yI_aload_n zi_74_1 rfl <| yI_gf_i (v := gI σ 41 8) zi_74_2 zk_41 rfl <| yI_ic_lt zi_74_5 <| yBr (yI_aload_n zi_74_14 rfl <| yI_gf_f (v := 49) zi_74_15 zk_41 rfl <| yI_iload_n zi_74_18 rfl <| yI_ialoadc (v := gI σ 49 x1.toNat) zi_74_19 za_49 rfl <| yI_istore_n (l := [some (.inr (.inr 41)), some (.inl x1), some (.inl x2), some (.inl (gI σ 49 x1.toNat)), none, none]) zi_74_20 rfl rfl <| yI_aload_n zi_74_21 rfl <| yI_iload_n zi_74_22 rfl <| yI_iload_n zi_74_23 rfl <| yI_cv zi_74_24 rfl rfl zk_41 hK) (yI_aload_n zi_74_8 rfl <| yI_iconst zi_74_9 <| yI_cv zi_74_10 rfl rfl zk_41 hK))
theorem zr_74_27 {K : List zF} {σ : zW} {x1 : Int} {x2 : Int} {x3 : Int} {o4 : Option zV} {o5 : Option zV} {v : Int} : zRet true ((74, 27, [some (.inr (.inr 41)), some (.inl x1), some (.inl x2), some (.inl x3), o4, o5], []) :: K) (some (.inl v)) σ = (zEv true ((74, 32, [some (.inr (.inr 41)), some (.inl x1), some (.inl x2), some (.inl x3), some (.inl v), some (.inl 0)], []) :: K) σ) :=
  yT_rt (yI_istore (l := [some (.inr (.inr 41)), some (.inl x1), some (.inl x2), some (.inl x3), some (.inl v), o5]) zi_74_27 rfl rfl <| yI_iconst zi_74_29 <| yI_istore (l := [some (.inr (.inr 41)), some (.inl x1), some (.inl x2), some (.inl x3), some (.inl v), some (.inl 0)]) zi_74_30 rfl rfl <| rfl)
theorem zr_74_13 {K : List zF} {σ : zW} {o0 : Option zV} {o1 : Option zV} {o2 : Option zV} {o3 : Option zV} {o4 : Option zV} {o5 : Option zV} : zRet true ((74, 13, [o0, o1, o2, o3, o4, o5], []) :: K) none σ = (zRet true K none σ) :=
  yT_rv (yI_ret zi_74_13)
theorem zj_74_32 {K : List zF} {σ : zW} {x1 : Int} {x2 : Int} {x3 : Int} {x4 : Int} {x5 : Int} (hK : K.length < 60) (h1 : zTr (gR σ 41 10)) : zEv true ((74, 32, [some (.inr (.inr 41)), some (.inl x1), some (.inl x2), some (.inl x3), some (.inl x4), some (.inl x5)], []) :: K) σ = (if (gI σ (gR σ 41 10) 12) ≤ x5 then zRet true K none σ else if (zand (zshr x4 x5) 1) = 0 then zEv true ((74, 32, [some (.inr (.inr 41)), some (.inl x1), some (.inl x2), some (.inl x3), some (.inl x4), some (.inl (w32 (x5 + 1)))], []) :: K) σ else (0 ≤ x3 ∧ x3 < 4) ∧ zEv true (zent 74 [.inr (.inr 41), .inl (w32 (x1 + 1)), .inl (zor x2 (zshl 1 x3))] :: (74, 74, [some (.inr (.inr 41)), some (.inl x1), some (.inl x2), some (.inl x3), some (.inl x4), some (.inl x5)], []) :: K) (sI σ 48 x3.toNat x5)) :=
  yI_iload zi_74_32 rfl <| yI_aload_n zi_74_34 rfl <| yI_gf_r (v := gR σ 41 10) zi_74_35 zk_41 rfl <| yI_gf_i (v := gI σ (gR σ 41 10) 12) zi_74_38 (zTr_k h1) rfl <| yI_ic_ge zi_74_41 <| yBr (yI_ret zi_74_80) (yI_iload zi_74_44 rfl <| yI_iload zi_74_46 rfl <| yI_ishr zi_74_48 <| yI_iconst zi_74_49 <| yI_iand zi_74_50 <| yI_if_eq zi_74_51 <| yBr (yI_iinc (l := [some (.inr (.inr 41)), some (.inl x1), some (.inl x2), some (.inl x3), some (.inl x4), some (.inl (w32 (x5 + 1)))]) zi_74_74 rfl rfl rfl <| yI_goto zi_74_77 <| rfl) (yI_aload_n zi_74_54 rfl <| yI_gf_f (v := 48) zi_74_55 zk_41 rfl <| yI_iload_n zi_74_58 rfl <| yI_iload zi_74_59 rfl <| yI_iastorec zi_74_61 za_48 <| yI_aload_n zi_74_62 rfl <| yI_iload_n zi_74_63 rfl <| yI_iconst zi_74_64 <| yI_iadd zi_74_65 <| yI_iload_n zi_74_66 rfl <| yI_iconst zi_74_67 <| yI_iload_n zi_74_68 rfl <| yI_ishl zi_74_69 <| yI_ior zi_74_70 <| yI_cv zi_74_71 rfl rfl zk_41 hK))
theorem zr_74_74 {K : List zF} {σ : zW} {x1 : Int} {x2 : Int} {x3 : Int} {x4 : Int} {x5 : Int} : zRet true ((74, 74, [some (.inr (.inr 41)), some (.inl x1), some (.inl x2), some (.inl x3), some (.inl x4), some (.inl x5)], []) :: K) none σ = (zEv true ((74, 32, [some (.inr (.inr 41)), some (.inl x1), some (.inl x2), some (.inl x3), some (.inl x4), some (.inl (w32 (x5 + 1)))], []) :: K) σ) :=
  yT_rv (yI_iinc (l := [some (.inr (.inr 41)), some (.inl x1), some (.inl x2), some (.inl x3), some (.inl x4), some (.inl (w32 (x5 + 1)))]) zi_74_74 rfl rfl rfl <| yI_goto zi_74_77 <| rfl)
