/-! the trees of methods 191 to 229, written by wip/whole/gen/emit_trees.py -/
/-- 191 TreegrabModel.holds(III)Z -/
theorem zi_191_0 : zraw 191 0 = some (.aload_n 0, 1) ∧ 0 + 1 = 1 := by decide +kernel
theorem zi_191_1 : zraw 191 1 = some (.getfield 69, 3) ∧ zft (zinf 191).1 69 = some (10, 29, 3, true) ∧ 1 + 3 = 4 := by decide +kernel
theorem zi_191_4 : zraw 191 4 = some (.iload_n 1, 1) ∧ 4 + 1 = 5 := by decide +kernel
theorem zi_191_5 : zraw 191 5 = some (.iaload, 1) ∧ 5 + 1 = 6 := by decide +kernel
theorem zi_191_6 : zraw 191 6 = some (.istore 4, 2) ∧ 6 + 2 = 8 := by decide +kernel
theorem zi_191_8 : zraw 191 8 = some (.iload 4, 2) ∧ 8 + 2 = 10 := by decide +kernel
theorem zi_191_10 : zraw 191 10 = some (.bipush 11, 2) ∧ zin 128 11 = true ∧ 10 + 2 = 12 := by decide +kernel
theorem zi_191_12 : zraw 191 12 = some (.if_icmp .ge 44, 3) ∧ ((12 : Nat) : Int) + 44 = Int.ofNat 56 ∧ 12 + 3 = 15 := by decide +kernel
theorem zi_191_15 : zraw 191 15 = some (.iload 4, 2) ∧ 15 + 2 = 17 := by decide +kernel
theorem zi_191_17 : zraw 191 17 = some (.bipush 6, 2) ∧ zin 128 6 = true ∧ 17 + 2 = 19 := by decide +kernel
theorem zi_191_19 : zraw 191 19 = some (.if_icmp .ge 20, 3) ∧ ((19 : Nat) : Int) + 20 = Int.ofNat 39 ∧ 19 + 3 = 22 := by decide +kernel
theorem zi_191_22 : zraw 191 22 = some (.aload_n 0, 1) ∧ 22 + 1 = 23 := by decide +kernel
theorem zi_191_23 : zraw 191 23 = some (.iload 4, 2) ∧ 23 + 2 = 25 := by decide +kernel
theorem zi_191_25 : zraw 191 25 = some (.aload_n 0, 1) ∧ 25 + 1 = 26 := by decide +kernel
theorem zi_191_26 : zraw 191 26 = some (.getfield 72, 3) ∧ zft (zinf 191).1 72 = some (10, 30, 3, true) ∧ 26 + 3 = 29 := by decide +kernel
theorem zi_191_29 : zraw 191 29 = some (.iload_n 1, 1) ∧ 29 + 1 = 30 := by decide +kernel
theorem zi_191_30 : zraw 191 30 = some (.iaload, 1) ∧ 30 + 1 = 31 := by decide +kernel
theorem zi_191_31 : zraw 191 31 = some (.iload_n 2, 1) ∧ 31 + 1 = 32 := by decide +kernel
theorem zi_191_32 : zraw 191 32 = some (.iload_n 3, 1) ∧ 32 + 1 = 33 := by decide +kernel
theorem zi_191_33 : zraw 191 33 = some (.invokevirtual 408, 3) ∧ zmt (zinf 191).1 408 = some 189 ∧ Nat.ble 9000 189 = false ∧ zinf 189 = (10, 5, 6, 2, 0) ∧ 33 + 3 = 36 := by decide +kernel
theorem zi_191_36 : zraw 191 36 = some (.goto 19, 3) ∧ ((36 : Nat) : Int) + 19 = Int.ofNat 55 := by decide +kernel
theorem zi_191_39 : zraw 191 39 = some (.aload_n 0, 1) ∧ 39 + 1 = 40 := by decide +kernel
theorem zi_191_40 : zraw 191 40 = some (.iload 4, 2) ∧ 40 + 2 = 42 := by decide +kernel
theorem zi_191_42 : zraw 191 42 = some (.iconst 5, 1) ∧ zin 128 5 = true ∧ 42 + 1 = 43 := by decide +kernel
theorem zi_191_43 : zraw 191 43 = some (.isub, 1) ∧ 43 + 1 = 44 := by decide +kernel
theorem zi_191_44 : zraw 191 44 = some (.aload_n 0, 1) ∧ 44 + 1 = 45 := by decide +kernel
theorem zi_191_45 : zraw 191 45 = some (.getfield 72, 3) ∧ zft (zinf 191).1 72 = some (10, 30, 3, true) ∧ 45 + 3 = 48 := by decide +kernel
theorem zi_191_48 : zraw 191 48 = some (.iload_n 1, 1) ∧ 48 + 1 = 49 := by decide +kernel
theorem zi_191_49 : zraw 191 49 = some (.iaload, 1) ∧ 49 + 1 = 50 := by decide +kernel
theorem zi_191_50 : zraw 191 50 = some (.iload_n 3, 1) ∧ 50 + 1 = 51 := by decide +kernel
theorem zi_191_51 : zraw 191 51 = some (.iload_n 2, 1) ∧ 51 + 1 = 52 := by decide +kernel
theorem zi_191_52 : zraw 191 52 = some (.invokevirtual 408, 3) ∧ zmt (zinf 191).1 408 = some 189 ∧ Nat.ble 9000 189 = false ∧ zinf 189 = (10, 5, 6, 2, 0) ∧ 52 + 3 = 55 := by decide +kernel
theorem zi_191_55 : zraw 191 55 = some (.ireturn, 1) ∧ (zinf 191).2.2.2.1 = 2 := by decide +kernel
theorem zi_191_56 : zraw 191 56 = some (.iload 4, 2) ∧ 56 + 2 = 58 := by decide +kernel
theorem zi_191_58 : zraw 191 58 = some (.bipush 14, 2) ∧ zin 128 14 = true ∧ 58 + 2 = 60 := by decide +kernel
theorem zi_191_60 : zraw 191 60 = some (.if_icmp .le 12, 3) ∧ ((60 : Nat) : Int) + 12 = Int.ofNat 72 ∧ 60 + 3 = 63 := by decide +kernel
theorem zi_191_63 : zraw 191 63 = some (.aload_n 0, 1) ∧ 63 + 1 = 64 := by decide +kernel
theorem zi_191_64 : zraw 191 64 = some (.iload 4, 2) ∧ 64 + 2 = 66 := by decide +kernel
theorem zi_191_66 : zraw 191 66 = some (.iload_n 2, 1) ∧ 66 + 1 = 67 := by decide +kernel
theorem zi_191_67 : zraw 191 67 = some (.iload_n 3, 1) ∧ 67 + 1 = 68 := by decide +kernel
theorem zi_191_68 : zraw 191 68 = some (.invokevirtual 411, 3) ∧ zmt (zinf 191).1 411 = some 190 ∧ Nat.ble 9000 190 = false ∧ zinf 190 = (10, 4, 6, 2, 0) ∧ 68 + 3 = 71 := by decide +kernel
theorem zi_191_71 : zraw 191 71 = some (.ireturn, 1) ∧ (zinf 191).2.2.2.1 = 2 := by decide +kernel
theorem zi_191_72 : zraw 191 72 = some (.iload 4, 2) ∧ 72 + 2 = 74 := by decide +kernel
theorem zi_191_74 : zraw 191 74 = some (.bipush 13, 2) ∧ zin 128 13 = true ∧ 74 + 2 = 76 := by decide +kernel
theorem zi_191_76 : zraw 191 76 = some (.if_icmp .ge 19, 3) ∧ ((76 : Nat) : Int) + 19 = Int.ofNat 95 ∧ 76 + 3 = 79 := by decide +kernel
theorem zi_191_79 : zraw 191 79 = some (.aload_n 0, 1) ∧ 79 + 1 = 80 := by decide +kernel
theorem zi_191_80 : zraw 191 80 = some (.getfield 157, 3) ∧ zft (zinf 191).1 157 = some (10, 66, 3, true) ∧ 80 + 3 = 83 := by decide +kernel
theorem zi_191_83 : zraw 191 83 = some (.iload_n 3, 1) ∧ 83 + 1 = 84 := by decide +kernel
theorem zi_191_84 : zraw 191 84 = some (.iaload, 1) ∧ 84 + 1 = 85 := by decide +kernel
theorem zi_191_85 : zraw 191 85 = some (.aload_n 0, 1) ∧ 85 + 1 = 86 := by decide +kernel
theorem zi_191_86 : zraw 191 86 = some (.getfield 160, 3) ∧ zft (zinf 191).1 160 = some (10, 67, 3, true) ∧ 86 + 3 = 89 := by decide +kernel
theorem zi_191_89 : zraw 191 89 = some (.iload_n 2, 1) ∧ 89 + 1 = 90 := by decide +kernel
theorem zi_191_90 : zraw 191 90 = some (.iaload, 1) ∧ 90 + 1 = 91 := by decide +kernel
theorem zi_191_91 : zraw 191 91 = some (.isub, 1) ∧ 91 + 1 = 92 := by decide +kernel
theorem zi_191_92 : zraw 191 92 = some (.goto 16, 3) ∧ ((92 : Nat) : Int) + 16 = Int.ofNat 108 := by decide +kernel
theorem zi_191_95 : zraw 191 95 = some (.aload_n 0, 1) ∧ 95 + 1 = 96 := by decide +kernel
theorem zi_191_96 : zraw 191 96 = some (.getfield 157, 3) ∧ zft (zinf 191).1 157 = some (10, 66, 3, true) ∧ 96 + 3 = 99 := by decide +kernel
theorem zi_191_99 : zraw 191 99 = some (.iload_n 2, 1) ∧ 99 + 1 = 100 := by decide +kernel
theorem zi_191_100 : zraw 191 100 = some (.iaload, 1) ∧ 100 + 1 = 101 := by decide +kernel
theorem zi_191_101 : zraw 191 101 = some (.aload_n 0, 1) ∧ 101 + 1 = 102 := by decide +kernel
theorem zi_191_102 : zraw 191 102 = some (.getfield 160, 3) ∧ zft (zinf 191).1 160 = some (10, 67, 3, true) ∧ 102 + 3 = 105 := by decide +kernel
theorem zi_191_105 : zraw 191 105 = some (.iload_n 3, 1) ∧ 105 + 1 = 106 := by decide +kernel
theorem zi_191_106 : zraw 191 106 = some (.iaload, 1) ∧ 106 + 1 = 107 := by decide +kernel
theorem zi_191_107 : zraw 191 107 = some (.isub, 1) ∧ 107 + 1 = 108 := by decide +kernel
theorem zi_191_108 : zraw 191 108 = some (.istore 5, 2) ∧ 108 + 2 = 110 := by decide +kernel
theorem zi_191_110 : zraw 191 110 = some (.iload 4, 2) ∧ 110 + 2 = 112 := by decide +kernel
theorem zi_191_112 : zraw 191 112 = some (.iconst 2, 1) ∧ zin 128 2 = true ∧ 112 + 1 = 113 := by decide +kernel
theorem zi_191_113 : zraw 191 113 = some (.irem, 1) ∧ 113 + 1 = 114 := by decide +kernel
theorem zi_191_114 : zraw 191 114 = some (.iconst 1, 1) ∧ zin 128 1 = true ∧ 114 + 1 = 115 := by decide +kernel
theorem zi_191_115 : zraw 191 115 = some (.if_icmp .ne 17, 3) ∧ ((115 : Nat) : Int) + 17 = Int.ofNat 132 ∧ 115 + 3 = 118 := by decide +kernel
theorem zi_191_118 : zraw 191 118 = some (.iload 5, 2) ∧ 118 + 2 = 120 := by decide +kernel
theorem zi_191_120 : zraw 191 120 = some (.iconst 1, 1) ∧ zin 128 1 = true ∧ 120 + 1 = 121 := by decide +kernel
theorem zi_191_121 : zraw 191 121 = some (.if_icmp .ne 7, 3) ∧ ((121 : Nat) : Int) + 7 = Int.ofNat 128 ∧ 121 + 3 = 124 := by decide +kernel
theorem zi_191_124 : zraw 191 124 = some (.iconst 1, 1) ∧ zin 128 1 = true ∧ 124 + 1 = 125 := by decide +kernel
theorem zi_191_125 : zraw 191 125 = some (.goto 17, 3) ∧ ((125 : Nat) : Int) + 17 = Int.ofNat 142 := by decide +kernel
theorem zi_191_128 : zraw 191 128 = some (.iconst 0, 1) ∧ zin 128 0 = true ∧ 128 + 1 = 129 := by decide +kernel
theorem zi_191_129 : zraw 191 129 = some (.goto 13, 3) ∧ ((129 : Nat) : Int) + 13 = Int.ofNat 142 := by decide +kernel
theorem zi_191_132 : zraw 191 132 = some (.iload 5, 2) ∧ 132 + 2 = 134 := by decide +kernel
theorem zi_191_134 : zraw 191 134 = some (.ifCond .le 7, 3) ∧ ((134 : Nat) : Int) + 7 = Int.ofNat 141 ∧ 134 + 3 = 137 := by decide +kernel
theorem zi_191_137 : zraw 191 137 = some (.iconst 1, 1) ∧ zin 128 1 = true ∧ 137 + 1 = 138 := by decide +kernel
theorem zi_191_138 : zraw 191 138 = some (.goto 4, 3) ∧ ((138 : Nat) : Int) + 4 = Int.ofNat 142 := by decide +kernel
theorem zi_191_141 : zraw 191 141 = some (.iconst 0, 1) ∧ zin 128 0 = true ∧ 141 + 1 = 142 := by decide +kernel
theorem zi_191_142 : zraw 191 142 = some (.ireturn, 1) ∧ (zinf 191).2.2.2.1 = 2 := by decide +kernel
theorem ze_191 {K : List zF} {σ : zW} {x1 : Int} {x2 : Int} {x3 : Int} (hK : K.length < 60) : zEv true (zent 191 [.inr (.inr 122), .inl x1, .inl x2, .inl x3] :: K) σ = ((0 ≤ x1 ∧ x1 < 8) ∧ (if 11 ≤ (gI σ 142 x1.toNat) then if (gI σ 142 x1.toNat) ≤ 14 then ((13 ≤ (gI σ 142 x1.toNat)) → ((0 ≤ x2 ∧ x2 < 20) ∧ (0 ≤ x3 ∧ x3 < 20))) ∧ ((¬ (13 ≤ (gI σ 142 x1.toNat)) → ((0 ≤ x3 ∧ x3 < 20) ∧ (0 ≤ x2 ∧ x2 < 20))) ∧ (if ¬ (zrem (gI σ 142 x1.toNat) 2) = 1 then if (if 13 ≤ (gI σ 142 x1.toNat) then w32 ((gI σ 170 x2.toNat) - (gI σ 171 x3.toNat)) else w32 ((gI σ 170 x3.toNat) - (gI σ 171 x2.toNat)) : Int) ≤ 0 then zRet true K (some (.inl 0)) σ else zRet true K (some (.inl 1)) σ else if ¬ (if 13 ≤ (gI σ 142 x1.toNat) then w32 ((gI σ 170 x2.toNat) - (gI σ 171 x3.toNat)) else w32 ((gI σ 170 x3.toNat) - (gI σ 171 x2.toNat)) : Int) = 1 then zRet true K (some (.inl 0)) σ else zRet true K (some (.inl 1)) σ)) else zEv true (zent 190 [.inr (.inr 122), .inl (gI σ 142 x1.toNat), .inl x2, .inl x3] :: (191, 71, [some (.inr (.inr 122)), some (.inl x1), some (.inl x2), some (.inl x3), some (.inl (gI σ 142 x1.toNat)), none], []) :: K) σ else if 6 ≤ (gI σ 142 x1.toNat) then (0 ≤ x1 ∧ x1 < 8) ∧ zEv true (zent 189 [.inr (.inr 122), .inl (w32 ((gI σ 142 x1.toNat) - 5)), .inl (gI σ 143 x1.toNat), .inl x3, .inl x2] :: (191, 55, [some (.inr (.inr 122)), some (.inl x1), some (.inl x2), some (.inl x3), some (.inl (gI σ 142 x1.toNat)), none], []) :: K) σ else (0 ≤ x1 ∧ x1 < 8) ∧ zEv true (zent 189 [.inr (.inr 122), .inl (gI σ 142 x1.toNat), .inl (gI σ 143 x1.toNat), .inl x2, .inl x3] :: (191, 36, [some (.inr (.inr 122)), some (.inl x1), some (.inl x2), some (.inl x3), some (.inl (gI σ 142 x1.toNat)), none], []) :: K) σ)) :=
  yT_en (f := (191, 0, [some (.inr (.inr 122)), some (.inl x1), some (.inl x2), some (.inl x3), none, none], [])) rfl (yI_aload_n zi_191_0 rfl <| yI_gf_f (v := 142) zi_191_1 zk_122 rfl <| yI_iload_n zi_191_4 rfl <| yI_ialoadc (v := gI σ 142 x1.toNat) zi_191_5 za_142 rfl <| yI_istore (l := [some (.inr (.inr 122)), some (.inl x1), some (.inl x2), some (.inl x3), some (.inl (gI σ 142 x1.toNat)), none]) zi_191_6 rfl rfl <| yI_iload zi_191_8 rfl <| yI_bipush zi_191_10 <| yI_ic_ge zi_191_12 <| yBr (yI_iload zi_191_56 rfl <| yI_bipush zi_191_58 <| yI_ic_le zi_191_60 <| yBr (yI_iload zi_191_72 rfl <| yI_bipush zi_191_74 <| yI_ic_ge zi_191_76 <| yMi3 (j := 108) (ls2 := [some (.inr (.inr 122)), some (.inl x1), some (.inl x2), some (.inl x3), some (.inl (gI σ 142 x1.toNat)), none]) (st2 := []) (x := w32 ((gI σ 170 x2.toNat) - (gI σ 171 x3.toNat))) (y := w32 ((gI σ 170 x3.toNat) - (gI σ 171 x2.toNat))) (σ2 := σ) ((yI_aload_n zi_191_95 rfl <| yI_gf_f (v := 170) zi_191_96 zk_122 rfl <| yI_iload_n zi_191_99 rfl <| yI_ialoadc (v := gI σ 170 x2.toNat) zi_191_100 za_170 rfl <| yI_aload_n zi_191_101 rfl <| yI_gf_f (v := 171) zi_191_102 zk_122 rfl <| yI_iload_n zi_191_105 rfl <| yI_ialoadc (v := gI σ 171 x3.toNat) zi_191_106 za_171 rfl <| yI_isub zi_191_107 <| rfl).trans (propext and_assoc.symm)) ((yI_aload_n zi_191_79 rfl <| yI_gf_f (v := 170) zi_191_80 zk_122 rfl <| yI_iload_n zi_191_83 rfl <| yI_ialoadc (v := gI σ 170 x3.toNat) zi_191_84 za_170 rfl <| yI_aload_n zi_191_85 rfl <| yI_gf_f (v := 171) zi_191_86 zk_122 rfl <| yI_iload_n zi_191_89 rfl <| yI_ialoadc (v := gI σ 171 x2.toNat) zi_191_90 za_171 rfl <| yI_isub zi_191_91 <| yI_goto zi_191_92 <| rfl).trans (propext and_assoc.symm)) <| yI_istore (l := [some (.inr (.inr 122)), some (.inl x1), some (.inl x2), some (.inl x3), some (.inl (gI σ 142 x1.toNat)), some (.inl (if 13 ≤ (gI σ 142 x1.toNat) then w32 ((gI σ 170 x2.toNat) - (gI σ 171 x3.toNat)) else w32 ((gI σ 170 x3.toNat) - (gI σ 171 x2.toNat)) : Int))]) zi_191_108 rfl rfl <| yI_iload zi_191_110 rfl <| yI_iconst zi_191_112 <| yI_irem zi_191_113 (by decide) <| yI_iconst zi_191_114 <| yI_ic_ne zi_191_115 <| yBr (yI_iload zi_191_132 rfl <| yI_if_le zi_191_134 <| yBr (yI_iconst zi_191_141 <| yI_zreturn zi_191_142 (by decide)) (yI_iconst zi_191_137 <| yI_goto zi_191_138 <| yI_zreturn zi_191_142 (by decide))) (yI_iload zi_191_118 rfl <| yI_iconst zi_191_120 <| yI_ic_ne zi_191_121 <| yBr (yI_iconst zi_191_128 <| yI_goto zi_191_129 <| yI_zreturn zi_191_142 (by decide)) (yI_iconst zi_191_124 <| yI_goto zi_191_125 <| yI_zreturn zi_191_142 (by decide)))) (yI_aload_n zi_191_63 rfl <| yI_iload zi_191_64 rfl <| yI_iload_n zi_191_66 rfl <| yI_iload_n zi_191_67 rfl <| yI_cv zi_191_68 rfl rfl zk_122 hK)) (yI_iload zi_191_15 rfl <| yI_bipush zi_191_17 <| yI_ic_ge zi_191_19 <| yBr (yI_aload_n zi_191_39 rfl <| yI_iload zi_191_40 rfl <| yI_iconst zi_191_42 <| yI_isub zi_191_43 <| yI_aload_n zi_191_44 rfl <| yI_gf_f (v := 143) zi_191_45 zk_122 rfl <| yI_iload_n zi_191_48 rfl <| yI_ialoadc (v := gI σ 143 x1.toNat) zi_191_49 za_143 rfl <| yI_iload_n zi_191_50 rfl <| yI_iload_n zi_191_51 rfl <| yI_cv zi_191_52 rfl rfl zk_122 hK) (yI_aload_n zi_191_22 rfl <| yI_iload zi_191_23 rfl <| yI_aload_n zi_191_25 rfl <| yI_gf_f (v := 143) zi_191_26 zk_122 rfl <| yI_iload_n zi_191_29 rfl <| yI_ialoadc (v := gI σ 143 x1.toNat) zi_191_30 za_143 rfl <| yI_iload_n zi_191_31 rfl <| yI_iload_n zi_191_32 rfl <| yI_cv zi_191_33 rfl rfl zk_122 hK)))
theorem zr_191_71 {K : List zF} {σ : zW} {o0 : Option zV} {o1 : Option zV} {o2 : Option zV} {o3 : Option zV} {o4 : Option zV} {o5 : Option zV} {v : Int} : zRet true ((191, 71, [o0, o1, o2, o3, o4, o5], []) :: K) (some (.inl v)) σ = ((v = 0 ∨ v = 1) ∧ zRet true K (some (.inl v)) σ) :=
  yT_rt (yI_zreturnc zi_191_71)
theorem zr_191_55 {K : List zF} {σ : zW} {o0 : Option zV} {o1 : Option zV} {o2 : Option zV} {o3 : Option zV} {o4 : Option zV} {o5 : Option zV} {v : Int} : zRet true ((191, 55, [o0, o1, o2, o3, o4, o5], []) :: K) (some (.inl v)) σ = ((v = 0 ∨ v = 1) ∧ zRet true K (some (.inl v)) σ) :=
  yT_rt (yI_zreturnc zi_191_55)
theorem zr_191_36 {K : List zF} {σ : zW} {o0 : Option zV} {o1 : Option zV} {o2 : Option zV} {o3 : Option zV} {o4 : Option zV} {o5 : Option zV} {v : Int} : zRet true ((191, 36, [o0, o1, o2, o3, o4, o5], []) :: K) (some (.inl v)) σ = ((v = 0 ∨ v = 1) ∧ zRet true K (some (.inl v)) σ) :=
  yT_rt (yI_goto zi_191_36 <| yI_zreturnc zi_191_55)
/-- 192 TreegrabModel.isInSet(IJ)Z -/
theorem zi_192_0 : zraw 192 0 = some (.iconst 0, 1) ∧ zin 128 0 = true ∧ 0 + 1 = 1 := by decide +kernel
theorem zi_192_1 : zraw 192 1 = some (.istore 4, 2) ∧ 1 + 2 = 3 := by decide +kernel
theorem zi_192_3 : zraw 192 3 = some (.iconst 0, 1) ∧ zin 128 0 = true ∧ 3 + 1 = 4 := by decide +kernel
theorem zi_192_4 : zraw 192 4 = some (.istore 5, 2) ∧ 4 + 2 = 6 := by decide +kernel
theorem zi_192_6 : zraw 192 6 = some (.iload 5, 2) ∧ 6 + 2 = 8 := by decide +kernel
theorem zi_192_8 : zraw 192 8 = some (.aload_n 0, 1) ∧ 8 + 1 = 9 := by decide +kernel
theorem zi_192_9 : zraw 192 9 = some (.getfield 44, 3) ∧ zft (zinf 192).1 44 = some (10, 21, 3, true) ∧ 9 + 3 = 12 := by decide +kernel
theorem zi_192_12 : zraw 192 12 = some (.iload_n 1, 1) ∧ 12 + 1 = 13 := by decide +kernel
theorem zi_192_13 : zraw 192 13 = some (.iaload, 1) ∧ 13 + 1 = 14 := by decide +kernel
theorem zi_192_14 : zraw 192 14 = some (.if_icmp .ge 40, 3) ∧ ((14 : Nat) : Int) + 40 = Int.ofNat 54 ∧ 14 + 3 = 17 := by decide +kernel
theorem zi_192_17 : zraw 192 17 = some (.iload 4, 2) ∧ 17 + 2 = 19 := by decide +kernel
theorem zi_192_19 : zraw 192 19 = some (.ifCond .ne 22, 3) ∧ ((19 : Nat) : Int) + 22 = Int.ofNat 41 ∧ 19 + 3 = 22 := by decide +kernel
theorem zi_192_22 : zraw 192 22 = some (.aload_n 0, 1) ∧ 22 + 1 = 23 := by decide +kernel
theorem zi_192_23 : zraw 192 23 = some (.getfield 75, 3) ∧ zft (zinf 192).1 75 = some (10, 31, 3, true) ∧ 23 + 3 = 26 := by decide +kernel
theorem zi_192_26 : zraw 192 26 = some (.aload_n 0, 1) ∧ 26 + 1 = 27 := by decide +kernel
theorem zi_192_27 : zraw 192 27 = some (.getfield 41, 3) ∧ zft (zinf 192).1 41 = some (10, 20, 3, true) ∧ 27 + 3 = 30 := by decide +kernel
theorem zi_192_30 : zraw 192 30 = some (.iload_n 1, 1) ∧ 30 + 1 = 31 := by decide +kernel
theorem zi_192_31 : zraw 192 31 = some (.iaload, 1) ∧ 31 + 1 = 32 := by decide +kernel
theorem zi_192_32 : zraw 192 32 = some (.iload 5, 2) ∧ 32 + 2 = 34 := by decide +kernel
theorem zi_192_34 : zraw 192 34 = some (.iadd, 1) ∧ 34 + 1 = 35 := by decide +kernel
theorem zi_192_35 : zraw 192 35 = some (.laload, 1) ∧ 35 + 1 = 36 := by decide +kernel
theorem zi_192_36 : zraw 192 36 = some (.lload_n 2, 1) ∧ 36 + 1 = 37 := by decide +kernel
theorem zi_192_37 : zraw 192 37 = some (.lcmp, 1) ∧ 37 + 1 = 38 := by decide +kernel
theorem zi_192_38 : zraw 192 38 = some (.ifCond .ne 7, 3) ∧ ((38 : Nat) : Int) + 7 = Int.ofNat 45 ∧ 38 + 3 = 41 := by decide +kernel
theorem zi_192_41 : zraw 192 41 = some (.iconst 1, 1) ∧ zin 128 1 = true ∧ 41 + 1 = 42 := by decide +kernel
theorem zi_192_42 : zraw 192 42 = some (.goto 4, 3) ∧ ((42 : Nat) : Int) + 4 = Int.ofNat 46 := by decide +kernel
theorem zi_192_45 : zraw 192 45 = some (.iconst 0, 1) ∧ zin 128 0 = true ∧ 45 + 1 = 46 := by decide +kernel
theorem zi_192_46 : zraw 192 46 = some (.istore 4, 2) ∧ 46 + 2 = 48 := by decide +kernel
theorem zi_192_48 : zraw 192 48 = some (.iinc 5 1, 3) ∧ zin 32768 1 = true ∧ 48 + 3 = 51 := by decide +kernel
theorem zi_192_51 : zraw 192 51 = some (.goto (-45), 3) ∧ ((51 : Nat) : Int) + (-45) = Int.ofNat 6 := by decide +kernel
theorem zi_192_54 : zraw 192 54 = some (.iload 4, 2) ∧ 54 + 2 = 56 := by decide +kernel
theorem zi_192_56 : zraw 192 56 = some (.ireturn, 1) ∧ (zinf 192).2.2.2.1 = 2 := by decide +kernel
theorem ze_192 {K : List zF} {σ : zW} {x1 : Int} {x2 : Int64} : zEv true (zent 192 [.inr (.inr 122), .inl x1, .inr (.inl x2)] :: K) σ = (zEv true ((192, 6, [some (.inr (.inr 122)), some (.inl x1), some (.inr (.inl x2)), none, some (.inl 0), some (.inl 0)], []) :: K) σ) :=
  yT_en (f := (192, 0, [some (.inr (.inr 122)), some (.inl x1), some (.inr (.inl x2)), none, none, none], [])) rfl (yI_iconst zi_192_0 <| yI_istore (l := [some (.inr (.inr 122)), some (.inl x1), some (.inr (.inl x2)), none, some (.inl 0), none]) zi_192_1 rfl rfl <| yI_iconst zi_192_3 <| yI_istore (l := [some (.inr (.inr 122)), some (.inl x1), some (.inr (.inl x2)), none, some (.inl 0), some (.inl 0)]) zi_192_4 rfl rfl <| rfl)
theorem zj_192_6 {K : List zF} {σ : zW} {x1 : Int} {x2 : Int64} {x4 : Int} {x5 : Int} : zEv true ((192, 6, [some (.inr (.inr 122)), some (.inl x1), some (.inr (.inl x2)), none, some (.inl x4), some (.inl x5)], []) :: K) σ = ((0 ≤ x1 ∧ x1 < 8) ∧ (if (gI σ 134 x1.toNat) ≤ x5 then (x4 = 0 ∨ x4 = 1) ∧ zRet true K (some (.inl x4)) σ else (¬ (¬ x4 = 0) → ((0 ≤ x1 ∧ x1 < 8) ∧ (0 ≤ (w32 ((gI σ 133 x1.toNat) + x5)) ∧ (w32 ((gI σ 133 x1.toNat) + x5)) < 300))) ∧ zEv true ((192, 6, [some (.inr (.inr 122)), some (.inl x1), some (.inr (.inl x2)), none, some (.inl (if ¬ x4 = 0 then 1 else (if ¬ (zlc (gL σ 144 ((w32 ((gI σ 133 x1.toNat) + x5)).toNat)) x2) = 0 then 0 else 1 : Int) : Int)), some (.inl (w32 (x5 + 1)))], []) :: K) σ)) :=
  yI_iload zi_192_6 rfl <| yI_aload_n zi_192_8 rfl <| yI_gf_f (v := 134) zi_192_9 zk_122 rfl <| yI_iload_n zi_192_12 rfl <| yI_ialoadc (v := gI σ 134 x1.toNat) zi_192_13 za_134 rfl <| yI_ic_ge zi_192_14 <| yBr (yI_iload zi_192_54 rfl <| yI_zreturnc zi_192_56) (yI_iload zi_192_17 rfl <| yI_if_ne zi_192_19 <| yMi2 (j := 46) (ls2 := [some (.inr (.inr 122)), some (.inl x1), some (.inr (.inl x2)), none, some (.inl x4), some (.inl x5)]) (st2 := []) (x := 1) (y := (if ¬ (zlc (gL σ 144 ((w32 ((gI σ 133 x1.toNat) + x5)).toNat)) x2) = 0 then 0 else 1 : Int)) (σ2 := σ) (yI_iconst zi_192_41 <| yI_goto zi_192_42 <| rfl) ((yI_aload_n zi_192_22 rfl <| yI_gf_f (v := 144) zi_192_23 zk_122 rfl <| yI_aload_n zi_192_26 rfl <| yI_gf_f (v := 133) zi_192_27 zk_122 rfl <| yI_iload_n zi_192_30 rfl <| yI_ialoadc (v := gI σ 133 x1.toNat) zi_192_31 za_133 rfl <| yI_iload zi_192_32 rfl <| yI_iadd zi_192_34 <| yI_laloadc (v := gL σ 144 ((w32 ((gI σ 133 x1.toNat) + x5)).toNat)) zi_192_35 za_144 rfl <| yI_lload_n zi_192_36 rfl <| yI_lcmp zi_192_37 <| yI_if_ne zi_192_38 <| yMi0 (j := 46) (ls2 := [some (.inr (.inr 122)), some (.inl x1), some (.inr (.inl x2)), none, some (.inl x4), some (.inl x5)]) (st2 := []) (x := 0) (y := 1) (σ2 := σ) (yI_iconst zi_192_45 <| rfl) (yI_iconst zi_192_41 <| yI_goto zi_192_42 <| rfl) <| rfl).trans (propext and_assoc.symm)) <| yI_istore (l := [some (.inr (.inr 122)), some (.inl x1), some (.inr (.inl x2)), none, some (.inl (if ¬ x4 = 0 then 1 else (if ¬ (zlc (gL σ 144 ((w32 ((gI σ 133 x1.toNat) + x5)).toNat)) x2) = 0 then 0 else 1 : Int) : Int)), some (.inl x5)]) zi_192_46 rfl rfl <| yI_iinc (l := [some (.inr (.inr 122)), some (.inl x1), some (.inr (.inl x2)), none, some (.inl (if ¬ x4 = 0 then 1 else (if ¬ (zlc (gL σ 144 ((w32 ((gI σ 133 x1.toNat) + x5)).toNat)) x2) = 0 then 0 else 1 : Int) : Int)), some (.inl (w32 (x5 + 1)))]) zi_192_48 rfl rfl rfl <| yI_goto zi_192_51 <| rfl)
/-- 193 TreegrabModel.fitsAlone(II)Z -/
theorem zi_193_0 : zraw 193 0 = some (.aload_n 0, 1) ∧ 0 + 1 = 1 := by decide +kernel
theorem zi_193_1 : zraw 193 1 = some (.getfield 38, 3) ∧ zft (zinf 193).1 38 = some (10, 19, 3, true) ∧ 1 + 3 = 4 := by decide +kernel
theorem zi_193_4 : zraw 193 4 = some (.iload_n 1, 1) ∧ 4 + 1 = 5 := by decide +kernel
theorem zi_193_5 : zraw 193 5 = some (.iaload, 1) ∧ 5 + 1 = 6 := by decide +kernel
theorem zi_193_6 : zraw 193 6 = some (.iconst 1, 1) ∧ zin 128 1 = true ∧ 6 + 1 = 7 := by decide +kernel
theorem zi_193_7 : zraw 193 7 = some (.if_icmp .ne 16, 3) ∧ ((7 : Nat) : Int) + 16 = Int.ofNat 23 ∧ 7 + 3 = 10 := by decide +kernel
theorem zi_193_10 : zraw 193 10 = some (.aload_n 0, 1) ∧ 10 + 1 = 11 := by decide +kernel
theorem zi_193_11 : zraw 193 11 = some (.iload_n 1, 1) ∧ 11 + 1 = 12 := by decide +kernel
theorem zi_193_12 : zraw 193 12 = some (.aload_n 0, 1) ∧ 12 + 1 = 13 := by decide +kernel
theorem zi_193_13 : zraw 193 13 = some (.iload_n 2, 1) ∧ 13 + 1 = 14 := by decide +kernel
theorem zi_193_14 : zraw 193 14 = some (.invokevirtual 414, 3) ∧ zmt (zinf 193).1 414 = some 182 ∧ Nat.ble 9000 182 = false ∧ zinf 182 = (10, 2, 2, 3, 0) ∧ 14 + 3 = 17 := by decide +kernel
theorem zi_193_17 : zraw 193 17 = some (.invokevirtual 418, 3) ∧ zmt (zinf 193).1 418 = some 192 ∧ Nat.ble 9000 192 = false ∧ zinf 192 = (10, 3, 6, 2, 0) ∧ 17 + 3 = 20 := by decide +kernel
theorem zi_193_20 : zraw 193 20 = some (.goto 31, 3) ∧ ((20 : Nat) : Int) + 31 = Int.ofNat 51 := by decide +kernel
theorem zi_193_23 : zraw 193 23 = some (.aload_n 0, 1) ∧ 23 + 1 = 24 := by decide +kernel
theorem zi_193_24 : zraw 193 24 = some (.getfield 38, 3) ∧ zft (zinf 193).1 38 = some (10, 19, 3, true) ∧ 24 + 3 = 27 := by decide +kernel
theorem zi_193_27 : zraw 193 27 = some (.iload_n 1, 1) ∧ 27 + 1 = 28 := by decide +kernel
theorem zi_193_28 : zraw 193 28 = some (.iaload, 1) ∧ 28 + 1 = 29 := by decide +kernel
theorem zi_193_29 : zraw 193 29 = some (.iconst 2, 1) ∧ zin 128 2 = true ∧ 29 + 1 = 30 := by decide +kernel
theorem zi_193_30 : zraw 193 30 = some (.if_icmp .ne 16, 3) ∧ ((30 : Nat) : Int) + 16 = Int.ofNat 46 ∧ 30 + 3 = 33 := by decide +kernel
theorem zi_193_33 : zraw 193 33 = some (.aload_n 0, 1) ∧ 33 + 1 = 34 := by decide +kernel
theorem zi_193_34 : zraw 193 34 = some (.iload_n 1, 1) ∧ 34 + 1 = 35 := by decide +kernel
theorem zi_193_35 : zraw 193 35 = some (.aload_n 0, 1) ∧ 35 + 1 = 36 := by decide +kernel
theorem zi_193_36 : zraw 193 36 = some (.iload_n 2, 1) ∧ 36 + 1 = 37 := by decide +kernel
theorem zi_193_37 : zraw 193 37 = some (.invokevirtual 414, 3) ∧ zmt (zinf 193).1 414 = some 182 ∧ Nat.ble 9000 182 = false ∧ zinf 182 = (10, 2, 2, 3, 0) ∧ 37 + 3 = 40 := by decide +kernel
theorem zi_193_40 : zraw 193 40 = some (.invokevirtual 418, 3) ∧ zmt (zinf 193).1 418 = some 192 ∧ Nat.ble 9000 192 = false ∧ zinf 192 = (10, 3, 6, 2, 0) ∧ 40 + 3 = 43 := by decide +kernel
theorem zi_193_43 : zraw 193 43 = some (.ifCond .ne 7, 3) ∧ ((43 : Nat) : Int) + 7 = Int.ofNat 50 ∧ 43 + 3 = 46 := by decide +kernel
theorem zi_193_46 : zraw 193 46 = some (.iconst 1, 1) ∧ zin 128 1 = true ∧ 46 + 1 = 47 := by decide +kernel
theorem zi_193_47 : zraw 193 47 = some (.goto 4, 3) ∧ ((47 : Nat) : Int) + 4 = Int.ofNat 51 := by decide +kernel
theorem zi_193_50 : zraw 193 50 = some (.iconst 0, 1) ∧ zin 128 0 = true ∧ 50 + 1 = 51 := by decide +kernel
theorem zi_193_51 : zraw 193 51 = some (.ireturn, 1) ∧ (zinf 193).2.2.2.1 = 2 := by decide +kernel
theorem ze_193 {K : List zF} {σ : zW} {x1 : Int} {x2 : Int} (hK : K.length < 60) : zEv true (zent 193 [.inr (.inr 122), .inl x1, .inl x2] :: K) σ = ((0 ≤ x1 ∧ x1 < 8) ∧ (if ¬ (gI σ 132 x1.toNat) = 1 then (0 ≤ x1 ∧ x1 < 8) ∧ (if ¬ (gI σ 132 x1.toNat) = 2 then zRet true K (some (.inl 1)) σ else zEv true (zent 182 [.inr (.inr 122), .inl x2] :: (193, 40, [some (.inr (.inr 122)), some (.inl x1), some (.inl x2)], [.inl x1, .inr (.inr 122)]) :: K) σ) else zEv true (zent 182 [.inr (.inr 122), .inl x2] :: (193, 17, [some (.inr (.inr 122)), some (.inl x1), some (.inl x2)], [.inl x1, .inr (.inr 122)]) :: K) σ)) :=
  yT_en (f := (193, 0, [some (.inr (.inr 122)), some (.inl x1), some (.inl x2)], [])) rfl (yI_aload_n zi_193_0 rfl <| yI_gf_f (v := 132) zi_193_1 zk_122 rfl <| yI_iload_n zi_193_4 rfl <| yI_ialoadc (v := gI σ 132 x1.toNat) zi_193_5 za_132 rfl <| yI_iconst zi_193_6 <| yI_ic_ne zi_193_7 <| yBr (yI_aload_n zi_193_23 rfl <| yI_gf_f (v := 132) zi_193_24 zk_122 rfl <| yI_iload_n zi_193_27 rfl <| yI_ialoadc (v := gI σ 132 x1.toNat) zi_193_28 za_132 rfl <| yI_iconst zi_193_29 <| yI_ic_ne zi_193_30 <| yBr (yI_iconst zi_193_46 <| yI_goto zi_193_47 <| yI_zreturn zi_193_51 (by decide)) (yI_aload_n zi_193_33 rfl <| yI_iload_n zi_193_34 rfl <| yI_aload_n zi_193_35 rfl <| yI_iload_n zi_193_36 rfl <| yI_cv zi_193_37 rfl rfl zk_122 hK)) (yI_aload_n zi_193_10 rfl <| yI_iload_n zi_193_11 rfl <| yI_aload_n zi_193_12 rfl <| yI_iload_n zi_193_13 rfl <| yI_cv zi_193_14 rfl rfl zk_122 hK))
theorem zr_193_40 {K : List zF} {σ : zW} {o0 : Option zV} {o1 : Option zV} {o2 : Option zV} {s0 : Int} {v : Int64} (hK : K.length < 60) : zRet true ((193, 40, [o0, o1, o2], [.inl s0, .inr (.inr 122)]) :: K) (some (.inr (.inl v))) σ = (zEv true (zent 192 [.inr (.inr 122), .inl s0, .inr (.inl v)] :: (193, 43, [o0, o1, o2], []) :: K) σ) :=
  yT_rt (yI_cv zi_193_40 rfl rfl zk_122 hK)
theorem zr_193_17 {K : List zF} {σ : zW} {o0 : Option zV} {o1 : Option zV} {o2 : Option zV} {s0 : Int} {v : Int64} (hK : K.length < 60) : zRet true ((193, 17, [o0, o1, o2], [.inl s0, .inr (.inr 122)]) :: K) (some (.inr (.inl v))) σ = (zEv true (zent 192 [.inr (.inr 122), .inl s0, .inr (.inl v)] :: (193, 20, [o0, o1, o2], []) :: K) σ) :=
  yT_rt (yI_cv zi_193_17 rfl rfl zk_122 hK)
theorem zr_193_43 {K : List zF} {σ : zW} {o0 : Option zV} {o1 : Option zV} {o2 : Option zV} {v : Int} : zRet true ((193, 43, [o0, o1, o2], []) :: K) (some (.inl v)) σ = (if ¬ v = 0 then zRet true K (some (.inl 0)) σ else zRet true K (some (.inl 1)) σ) :=
  yT_rt (yI_if_ne zi_193_43 <| yBr (yI_iconst zi_193_50 <| yI_zreturn zi_193_51 (by decide)) (yI_iconst zi_193_46 <| yI_goto zi_193_47 <| yI_zreturn zi_193_51 (by decide)))
theorem zr_193_20 {K : List zF} {σ : zW} {o0 : Option zV} {o1 : Option zV} {o2 : Option zV} {v : Int} : zRet true ((193, 20, [o0, o1, o2], []) :: K) (some (.inl v)) σ = ((v = 0 ∨ v = 1) ∧ zRet true K (some (.inl v)) σ) :=
  yT_rt (yI_goto zi_193_20 <| yI_zreturnc zi_193_51)
/-- 194 TreegrabModel.fits(II)Z -/
theorem zi_194_0 : zraw 194 0 = some (.aload_n 0, 1) ∧ 0 + 1 = 1 := by decide +kernel
theorem zi_194_1 : zraw 194 1 = some (.getfield 38, 3) ∧ zft (zinf 194).1 38 = some (10, 19, 3, true) ∧ 1 + 3 = 4 := by decide +kernel
theorem zi_194_4 : zraw 194 4 = some (.iload_n 1, 1) ∧ 4 + 1 = 5 := by decide +kernel
theorem zi_194_5 : zraw 194 5 = some (.iaload, 1) ∧ 5 + 1 = 6 := by decide +kernel
theorem zi_194_6 : zraw 194 6 = some (.iconst 3, 1) ∧ zin 128 3 = true ∧ 6 + 1 = 7 := by decide +kernel
theorem zi_194_7 : zraw 194 7 = some (.if_icmp .ne 33, 3) ∧ ((7 : Nat) : Int) + 33 = Int.ofNat 40 ∧ 7 + 3 = 10 := by decide +kernel
theorem zi_194_10 : zraw 194 10 = some (.aload_n 0, 1) ∧ 10 + 1 = 11 := by decide +kernel
theorem zi_194_11 : zraw 194 11 = some (.iload_n 2, 1) ∧ 11 + 1 = 12 := by decide +kernel
theorem zi_194_12 : zraw 194 12 = some (.invokevirtual 414, 3) ∧ zmt (zinf 194).1 414 = some 182 ∧ Nat.ble 9000 182 = false ∧ zinf 182 = (10, 2, 2, 3, 0) ∧ 12 + 3 = 15 := by decide +kernel
theorem zi_194_15 : zraw 194 15 = some (.aload_n 0, 1) ∧ 15 + 1 = 16 := by decide +kernel
theorem zi_194_16 : zraw 194 16 = some (.aload_n 0, 1) ∧ 16 + 1 = 17 := by decide +kernel
theorem zi_194_17 : zraw 194 17 = some (.getfield 169, 3) ∧ zft (zinf 194).1 169 = some (10, 70, 3, true) ∧ 17 + 3 = 20 := by decide +kernel
theorem zi_194_20 : zraw 194 20 = some (.aload_n 0, 1) ∧ 20 + 1 = 21 := by decide +kernel
theorem zi_194_21 : zraw 194 21 = some (.getfield 47, 3) ∧ zft (zinf 194).1 47 = some (10, 22, 3, true) ∧ 21 + 3 = 24 := by decide +kernel
theorem zi_194_24 : zraw 194 24 = some (.iload_n 1, 1) ∧ 24 + 1 = 25 := by decide +kernel
theorem zi_194_25 : zraw 194 25 = some (.iaload, 1) ∧ 25 + 1 = 26 := by decide +kernel
theorem zi_194_26 : zraw 194 26 = some (.iaload, 1) ∧ 26 + 1 = 27 := by decide +kernel
theorem zi_194_27 : zraw 194 27 = some (.invokevirtual 414, 3) ∧ zmt (zinf 194).1 414 = some 182 ∧ Nat.ble 9000 182 = false ∧ zinf 182 = (10, 2, 2, 3, 0) ∧ 27 + 3 = 30 := by decide +kernel
theorem zi_194_30 : zraw 194 30 = some (.lcmp, 1) ∧ 30 + 1 = 31 := by decide +kernel
theorem zi_194_31 : zraw 194 31 = some (.ifCond .ne 7, 3) ∧ ((31 : Nat) : Int) + 7 = Int.ofNat 38 ∧ 31 + 3 = 34 := by decide +kernel
theorem zi_194_34 : zraw 194 34 = some (.iconst 1, 1) ∧ zin 128 1 = true ∧ 34 + 1 = 35 := by decide +kernel
theorem zi_194_35 : zraw 194 35 = some (.goto 4, 3) ∧ ((35 : Nat) : Int) + 4 = Int.ofNat 39 := by decide +kernel
theorem zi_194_38 : zraw 194 38 = some (.iconst 0, 1) ∧ zin 128 0 = true ∧ 38 + 1 = 39 := by decide +kernel
theorem zi_194_39 : zraw 194 39 = some (.ireturn, 1) ∧ (zinf 194).2.2.2.1 = 2 := by decide +kernel
theorem zi_194_40 : zraw 194 40 = some (.aload_n 0, 1) ∧ 40 + 1 = 41 := by decide +kernel
theorem zi_194_41 : zraw 194 41 = some (.getfield 38, 3) ∧ zft (zinf 194).1 38 = some (10, 19, 3, true) ∧ 41 + 3 = 44 := by decide +kernel
theorem zi_194_44 : zraw 194 44 = some (.iload_n 1, 1) ∧ 44 + 1 = 45 := by decide +kernel
theorem zi_194_45 : zraw 194 45 = some (.iaload, 1) ∧ 45 + 1 = 46 := by decide +kernel
theorem zi_194_46 : zraw 194 46 = some (.iconst 4, 1) ∧ zin 128 4 = true ∧ 46 + 1 = 47 := by decide +kernel
theorem zi_194_47 : zraw 194 47 = some (.if_icmp .ne 26, 3) ∧ ((47 : Nat) : Int) + 26 = Int.ofNat 73 ∧ 47 + 3 = 50 := by decide +kernel
theorem zi_194_50 : zraw 194 50 = some (.iload_n 2, 1) ∧ 50 + 1 = 51 := by decide +kernel
theorem zi_194_51 : zraw 194 51 = some (.aload_n 0, 1) ∧ 51 + 1 = 52 := by decide +kernel
theorem zi_194_52 : zraw 194 52 = some (.getfield 169, 3) ∧ zft (zinf 194).1 169 = some (10, 70, 3, true) ∧ 52 + 3 = 55 := by decide +kernel
theorem zi_194_55 : zraw 194 55 = some (.aload_n 0, 1) ∧ 55 + 1 = 56 := by decide +kernel
theorem zi_194_56 : zraw 194 56 = some (.getfield 47, 3) ∧ zft (zinf 194).1 47 = some (10, 22, 3, true) ∧ 56 + 3 = 59 := by decide +kernel
theorem zi_194_59 : zraw 194 59 = some (.iload_n 1, 1) ∧ 59 + 1 = 60 := by decide +kernel
theorem zi_194_60 : zraw 194 60 = some (.iaload, 1) ∧ 60 + 1 = 61 := by decide +kernel
theorem zi_194_61 : zraw 194 61 = some (.iaload, 1) ∧ 61 + 1 = 62 := by decide +kernel
theorem zi_194_62 : zraw 194 62 = some (.if_icmp .ne 7, 3) ∧ ((62 : Nat) : Int) + 7 = Int.ofNat 69 ∧ 62 + 3 = 65 := by decide +kernel
theorem zi_194_65 : zraw 194 65 = some (.iconst 1, 1) ∧ zin 128 1 = true ∧ 65 + 1 = 66 := by decide +kernel
theorem zi_194_66 : zraw 194 66 = some (.goto 13, 3) ∧ ((66 : Nat) : Int) + 13 = Int.ofNat 79 := by decide +kernel
theorem zi_194_69 : zraw 194 69 = some (.iconst 0, 1) ∧ zin 128 0 = true ∧ 69 + 1 = 70 := by decide +kernel
theorem zi_194_70 : zraw 194 70 = some (.goto 9, 3) ∧ ((70 : Nat) : Int) + 9 = Int.ofNat 79 := by decide +kernel
theorem zi_194_73 : zraw 194 73 = some (.aload_n 0, 1) ∧ 73 + 1 = 74 := by decide +kernel
theorem zi_194_74 : zraw 194 74 = some (.iload_n 1, 1) ∧ 74 + 1 = 75 := by decide +kernel
theorem zi_194_75 : zraw 194 75 = some (.iload_n 2, 1) ∧ 75 + 1 = 76 := by decide +kernel
theorem zi_194_76 : zraw 194 76 = some (.invokevirtual 422, 3) ∧ zmt (zinf 194).1 422 = some 193 ∧ Nat.ble 9000 193 = false ∧ zinf 193 = (10, 3, 3, 2, 0) ∧ 76 + 3 = 79 := by decide +kernel
theorem zi_194_79 : zraw 194 79 = some (.ireturn, 1) ∧ (zinf 194).2.2.2.1 = 2 := by decide +kernel
theorem ze_194 {K : List zF} {σ : zW} {x1 : Int} {x2 : Int} (hK : K.length < 60) : zEv true (zent 194 [.inr (.inr 122), .inl x1, .inl x2] :: K) σ = ((0 ≤ x1 ∧ x1 < 8) ∧ (if ¬ (gI σ 132 x1.toNat) = 3 then (0 ≤ x1 ∧ x1 < 8) ∧ (if ¬ (gI σ 132 x1.toNat) = 4 then zEv true (zent 193 [.inr (.inr 122), .inl x1, .inl x2] :: (194, 79, [some (.inr (.inr 122)), some (.inl x1), some (.inl x2)], []) :: K) σ else (0 ≤ x1 ∧ x1 < 8) ∧ ((0 ≤ (gI σ 135 x1.toNat) ∧ (gI σ 135 x1.toNat) < 8) ∧ (if ¬ x2 = (gI σ 174 ((gI σ 135 x1.toNat).toNat)) then zRet true K (some (.inl 0)) σ else zRet true K (some (.inl 1)) σ))) else zEv true (zent 182 [.inr (.inr 122), .inl x2] :: (194, 15, [some (.inr (.inr 122)), some (.inl x1), some (.inl x2)], []) :: K) σ)) :=
  yT_en (f := (194, 0, [some (.inr (.inr 122)), some (.inl x1), some (.inl x2)], [])) rfl (yI_aload_n zi_194_0 rfl <| yI_gf_f (v := 132) zi_194_1 zk_122 rfl <| yI_iload_n zi_194_4 rfl <| yI_ialoadc (v := gI σ 132 x1.toNat) zi_194_5 za_132 rfl <| yI_iconst zi_194_6 <| yI_ic_ne zi_194_7 <| yBr (yI_aload_n zi_194_40 rfl <| yI_gf_f (v := 132) zi_194_41 zk_122 rfl <| yI_iload_n zi_194_44 rfl <| yI_ialoadc (v := gI σ 132 x1.toNat) zi_194_45 za_132 rfl <| yI_iconst zi_194_46 <| yI_ic_ne zi_194_47 <| yBr (yI_aload_n zi_194_73 rfl <| yI_iload_n zi_194_74 rfl <| yI_iload_n zi_194_75 rfl <| yI_cv zi_194_76 rfl rfl zk_122 hK) (yI_iload_n zi_194_50 rfl <| yI_aload_n zi_194_51 rfl <| yI_gf_f (v := 174) zi_194_52 zk_122 rfl <| yI_aload_n zi_194_55 rfl <| yI_gf_f (v := 135) zi_194_56 zk_122 rfl <| yI_iload_n zi_194_59 rfl <| yI_ialoadc (v := gI σ 135 x1.toNat) zi_194_60 za_135 rfl <| yI_ialoadc (v := gI σ 174 ((gI σ 135 x1.toNat).toNat)) zi_194_61 za_174 rfl <| yI_ic_ne zi_194_62 <| yBr (yI_iconst zi_194_69 <| yI_goto zi_194_70 <| yI_zreturn zi_194_79 (by decide)) (yI_iconst zi_194_65 <| yI_goto zi_194_66 <| yI_zreturn zi_194_79 (by decide)))) (yI_aload_n zi_194_10 rfl <| yI_iload_n zi_194_11 rfl <| yI_cv zi_194_12 rfl rfl zk_122 hK))
theorem zr_194_79 {K : List zF} {σ : zW} {o0 : Option zV} {o1 : Option zV} {o2 : Option zV} {v : Int} : zRet true ((194, 79, [o0, o1, o2], []) :: K) (some (.inl v)) σ = ((v = 0 ∨ v = 1) ∧ zRet true K (some (.inl v)) σ) :=
  yT_rt (yI_zreturnc zi_194_79)
theorem zr_194_15 {K : List zF} {σ : zW} {x1 : Int} {o2 : Option zV} {v : Int64} (hK : K.length < 60) : zRet true ((194, 15, [some (.inr (.inr 122)), some (.inl x1), o2], []) :: K) (some (.inr (.inl v))) σ = ((0 ≤ x1 ∧ x1 < 8) ∧ ((0 ≤ (gI σ 135 x1.toNat) ∧ (gI σ 135 x1.toNat) < 8) ∧ zEv true (zent 182 [.inr (.inr 122), .inl (gI σ 174 ((gI σ 135 x1.toNat).toNat))] :: (194, 30, [some (.inr (.inr 122)), some (.inl x1), o2], [.inr (.inl v)]) :: K) σ)) :=
  yT_rt (yI_aload_n zi_194_15 rfl <| yI_aload_n zi_194_16 rfl <| yI_gf_f (v := 174) zi_194_17 zk_122 rfl <| yI_aload_n zi_194_20 rfl <| yI_gf_f (v := 135) zi_194_21 zk_122 rfl <| yI_iload_n zi_194_24 rfl <| yI_ialoadc (v := gI σ 135 x1.toNat) zi_194_25 za_135 rfl <| yI_ialoadc (v := gI σ 174 ((gI σ 135 x1.toNat).toNat)) zi_194_26 za_174 rfl <| yI_cv zi_194_27 rfl rfl zk_122 hK)
theorem zr_194_30 {K : List zF} {σ : zW} {o0 : Option zV} {o1 : Option zV} {o2 : Option zV} {s0 : Int64} {v : Int64} : zRet true ((194, 30, [o0, o1, o2], [.inr (.inl s0)]) :: K) (some (.inr (.inl v))) σ = (if ¬ (zlc s0 v) = 0 then zRet true K (some (.inl 0)) σ else zRet true K (some (.inl 1)) σ) :=
  yT_rt (yI_lcmp zi_194_30 <| yI_if_ne zi_194_31 <| yBr (yI_iconst zi_194_38 <| yI_zreturn zi_194_39 (by decide)) (yI_iconst zi_194_34 <| yI_goto zi_194_35 <| yI_zreturn zi_194_39 (by decide)))
/-- 195 TreegrabModel.valueOf(I)I -/
theorem zi_195_0 : zraw 195 0 = some (.aload_n 0, 1) ∧ 0 + 1 = 1 := by decide +kernel
theorem zi_195_1 : zraw 195 1 = some (.getfield 38, 3) ∧ zft (zinf 195).1 38 = some (10, 19, 3, true) ∧ 1 + 3 = 4 := by decide +kernel
theorem zi_195_4 : zraw 195 4 = some (.iload_n 1, 1) ∧ 4 + 1 = 5 := by decide +kernel
theorem zi_195_5 : zraw 195 5 = some (.iaload, 1) ∧ 5 + 1 = 6 := by decide +kernel
theorem zi_195_6 : zraw 195 6 = some (.iconst 4, 1) ∧ zin 128 4 = true ∧ 6 + 1 = 7 := by decide +kernel
theorem zi_195_7 : zraw 195 7 = some (.if_icmp .ne 17, 3) ∧ ((7 : Nat) : Int) + 17 = Int.ofNat 24 ∧ 7 + 3 = 10 := by decide +kernel
theorem zi_195_10 : zraw 195 10 = some (.aload_n 0, 1) ∧ 10 + 1 = 11 := by decide +kernel
theorem zi_195_11 : zraw 195 11 = some (.getfield 169, 3) ∧ zft (zinf 195).1 169 = some (10, 70, 3, true) ∧ 11 + 3 = 14 := by decide +kernel
theorem zi_195_14 : zraw 195 14 = some (.aload_n 0, 1) ∧ 14 + 1 = 15 := by decide +kernel
theorem zi_195_15 : zraw 195 15 = some (.getfield 47, 3) ∧ zft (zinf 195).1 47 = some (10, 22, 3, true) ∧ 15 + 3 = 18 := by decide +kernel
theorem zi_195_18 : zraw 195 18 = some (.iload_n 1, 1) ∧ 18 + 1 = 19 := by decide +kernel
theorem zi_195_19 : zraw 195 19 = some (.iaload, 1) ∧ 19 + 1 = 20 := by decide +kernel
theorem zi_195_20 : zraw 195 20 = some (.iaload, 1) ∧ 20 + 1 = 21 := by decide +kernel
theorem zi_195_21 : zraw 195 21 = some (.goto 9, 3) ∧ ((21 : Nat) : Int) + 9 = Int.ofNat 30 := by decide +kernel
theorem zi_195_24 : zraw 195 24 = some (.aload_n 0, 1) ∧ 24 + 1 = 25 := by decide +kernel
theorem zi_195_25 : zraw 195 25 = some (.getfield 169, 3) ∧ zft (zinf 195).1 169 = some (10, 70, 3, true) ∧ 25 + 3 = 28 := by decide +kernel
theorem zi_195_28 : zraw 195 28 = some (.iload_n 1, 1) ∧ 28 + 1 = 29 := by decide +kernel
theorem zi_195_29 : zraw 195 29 = some (.iaload, 1) ∧ 29 + 1 = 30 := by decide +kernel
theorem zi_195_30 : zraw 195 30 = some (.ireturn, 1) ∧ (zinf 195).2.2.2.1 = 1 := by decide +kernel
theorem ze_195 {K : List zF} {σ : zW} {x1 : Int} : zEv true (zent 195 [.inr (.inr 122), .inl x1] :: K) σ = ((0 ≤ x1 ∧ x1 < 8) ∧ (((¬ (gI σ 132 x1.toNat) = 4) → (0 ≤ x1 ∧ x1 < 8)) ∧ ((¬ (¬ (gI σ 132 x1.toNat) = 4) → ((0 ≤ x1 ∧ x1 < 8) ∧ (0 ≤ (gI σ 135 x1.toNat) ∧ (gI σ 135 x1.toNat) < 8))) ∧ zRet true K (some (.inl (if ¬ (gI σ 132 x1.toNat) = 4 then gI σ 174 x1.toNat else gI σ 174 ((gI σ 135 x1.toNat).toNat) : Int))) σ))) :=
  yT_en (f := (195, 0, [some (.inr (.inr 122)), some (.inl x1)], [])) rfl (yI_aload_n zi_195_0 rfl <| yI_gf_f (v := 132) zi_195_1 zk_122 rfl <| yI_iload_n zi_195_4 rfl <| yI_ialoadc (v := gI σ 132 x1.toNat) zi_195_5 za_132 rfl <| yI_iconst zi_195_6 <| yI_ic_ne zi_195_7 <| yMi3 (j := 30) (ls2 := [some (.inr (.inr 122)), some (.inl x1)]) (st2 := []) (x := gI σ 174 x1.toNat) (y := gI σ 174 ((gI σ 135 x1.toNat).toNat)) (σ2 := σ) (yI_aload_n zi_195_24 rfl <| yI_gf_f (v := 174) zi_195_25 zk_122 rfl <| yI_iload_n zi_195_28 rfl <| yI_ialoadc (v := gI σ 174 x1.toNat) zi_195_29 za_174 rfl <| rfl) ((yI_aload_n zi_195_10 rfl <| yI_gf_f (v := 174) zi_195_11 zk_122 rfl <| yI_aload_n zi_195_14 rfl <| yI_gf_f (v := 135) zi_195_15 zk_122 rfl <| yI_iload_n zi_195_18 rfl <| yI_ialoadc (v := gI σ 135 x1.toNat) zi_195_19 za_135 rfl <| yI_ialoadc (v := gI σ 174 ((gI σ 135 x1.toNat).toNat)) zi_195_20 za_174 rfl <| yI_goto zi_195_21 <| rfl).trans (propext and_assoc.symm)) <| yI_ireturn zi_195_30)
/-- 196 TreegrabModel.isInPart(I)Z -/
theorem zi_196_0 : zraw 196 0 = some (.aload_n 0, 1) ∧ 0 + 1 = 1 := by decide +kernel
theorem zi_196_1 : zraw 196 1 = some (.getfield 59, 3) ∧ zft (zinf 196).1 59 = some (10, 26, 3, true) ∧ 1 + 3 = 4 := by decide +kernel
theorem zi_196_4 : zraw 196 4 = some (.iload_n 1, 1) ∧ 4 + 1 = 5 := by decide +kernel
theorem zi_196_5 : zraw 196 5 = some (.baload, 1) ∧ 5 + 1 = 6 := by decide +kernel
theorem zi_196_6 : zraw 196 6 = some (.ifCond .ne 12, 3) ∧ ((6 : Nat) : Int) + 12 = Int.ofNat 18 ∧ 6 + 3 = 9 := by decide +kernel
theorem zi_196_9 : zraw 196 9 = some (.aload_n 0, 1) ∧ 9 + 1 = 10 := by decide +kernel
theorem zi_196_10 : zraw 196 10 = some (.getfield 56, 3) ∧ zft (zinf 196).1 56 = some (10, 25, 3, true) ∧ 10 + 3 = 13 := by decide +kernel
theorem zi_196_13 : zraw 196 13 = some (.iload_n 1, 1) ∧ 13 + 1 = 14 := by decide +kernel
theorem zi_196_14 : zraw 196 14 = some (.iaload, 1) ∧ 14 + 1 = 15 := by decide +kernel
theorem zi_196_15 : zraw 196 15 = some (.ifCond .le 7, 3) ∧ ((15 : Nat) : Int) + 7 = Int.ofNat 22 ∧ 15 + 3 = 18 := by decide +kernel
theorem zi_196_18 : zraw 196 18 = some (.iconst 1, 1) ∧ zin 128 1 = true ∧ 18 + 1 = 19 := by decide +kernel
theorem zi_196_19 : zraw 196 19 = some (.goto 4, 3) ∧ ((19 : Nat) : Int) + 4 = Int.ofNat 23 := by decide +kernel
theorem zi_196_22 : zraw 196 22 = some (.iconst 0, 1) ∧ zin 128 0 = true ∧ 22 + 1 = 23 := by decide +kernel
theorem zi_196_23 : zraw 196 23 = some (.ireturn, 1) ∧ (zinf 196).2.2.2.1 = 2 := by decide +kernel
theorem ze_196 {K : List zF} {σ : zW} {x1 : Int} : zEv true (zent 196 [.inr (.inr 122), .inl x1] :: K) σ = ((0 ≤ x1 ∧ x1 < 8) ∧ (if ¬ (gI σ 139 x1.toNat) = 0 then zRet true K (some (.inl 1)) σ else (0 ≤ x1 ∧ x1 < 8) ∧ (if (gI σ 138 x1.toNat) ≤ 0 then zRet true K (some (.inl 0)) σ else zRet true K (some (.inl 1)) σ))) :=
  yT_en (f := (196, 0, [some (.inr (.inr 122)), some (.inl x1)], [])) rfl (yI_aload_n zi_196_0 rfl <| yI_gf_f (v := 139) zi_196_1 zk_122 rfl <| yI_iload_n zi_196_4 rfl <| yI_baloadc (v := gI σ 139 x1.toNat) zi_196_5 za_139 rfl <| yI_if_ne zi_196_6 <| yBr (yI_iconst zi_196_18 <| yI_goto zi_196_19 <| yI_zreturn zi_196_23 (by decide)) (yI_aload_n zi_196_9 rfl <| yI_gf_f (v := 138) zi_196_10 zk_122 rfl <| yI_iload_n zi_196_13 rfl <| yI_ialoadc (v := gI σ 138 x1.toNat) zi_196_14 za_138 rfl <| yI_if_le zi_196_15 <| yBr (yI_iconst zi_196_22 <| yI_zreturn zi_196_23 (by decide)) (yI_iconst zi_196_18 <| yI_goto zi_196_19 <| yI_zreturn zi_196_23 (by decide))))
/-- 197 TreegrabModel.isSome(II)Z -/
theorem zi_197_0 : zraw 197 0 = some (.iconst 0, 1) ∧ zin 128 0 = true ∧ 0 + 1 = 1 := by decide +kernel
theorem zi_197_1 : zraw 197 1 = some (.istore_n 3, 1) ∧ 1 + 1 = 2 := by decide +kernel
theorem zi_197_2 : zraw 197 2 = some (.iconst 0, 1) ∧ zin 128 0 = true ∧ 2 + 1 = 3 := by decide +kernel
theorem zi_197_3 : zraw 197 3 = some (.istore 4, 2) ∧ 3 + 2 = 5 := by decide +kernel
theorem zi_197_5 : zraw 197 5 = some (.iload 4, 2) ∧ 5 + 2 = 7 := by decide +kernel
theorem zi_197_7 : zraw 197 7 = some (.aload_n 0, 1) ∧ 7 + 1 = 8 := by decide +kernel
theorem zi_197_8 : zraw 197 8 = some (.getfield 389, 3) ∧ zft (zinf 197).1 389 = some (10, 65, 0, false) ∧ 8 + 3 = 11 := by decide +kernel
theorem zi_197_11 : zraw 197 11 = some (.if_icmp .ge 45, 3) ∧ ((11 : Nat) : Int) + 45 = Int.ofNat 56 ∧ 11 + 3 = 14 := by decide +kernel
theorem zi_197_14 : zraw 197 14 = some (.iload_n 3, 1) ∧ 14 + 1 = 15 := by decide +kernel
theorem zi_197_15 : zraw 197 15 = some (.ifCond .ne 41, 3) ∧ ((15 : Nat) : Int) + 41 = Int.ofNat 56 ∧ 15 + 3 = 18 := by decide +kernel
theorem zi_197_18 : zraw 197 18 = some (.aload_n 0, 1) ∧ 18 + 1 = 19 := by decide +kernel
theorem zi_197_19 : zraw 197 19 = some (.getfield 172, 3) ∧ zft (zinf 197).1 172 = some (10, 71, 3, true) ∧ 19 + 3 = 22 := by decide +kernel
theorem zi_197_22 : zraw 197 22 = some (.bipush 20, 2) ∧ zin 128 20 = true ∧ 22 + 2 = 24 := by decide +kernel
theorem zi_197_24 : zraw 197 24 = some (.iload_n 1, 1) ∧ 24 + 1 = 25 := by decide +kernel
theorem zi_197_25 : zraw 197 25 = some (.imul, 1) ∧ 25 + 1 = 26 := by decide +kernel
theorem zi_197_26 : zraw 197 26 = some (.iload 4, 2) ∧ 26 + 2 = 28 := by decide +kernel
theorem zi_197_28 : zraw 197 28 = some (.iadd, 1) ∧ 28 + 1 = 29 := by decide +kernel
theorem zi_197_29 : zraw 197 29 = some (.baload, 1) ∧ 29 + 1 = 30 := by decide +kernel
theorem zi_197_30 : zraw 197 30 = some (.ifCond .eq 18, 3) ∧ ((30 : Nat) : Int) + 18 = Int.ofNat 48 ∧ 30 + 3 = 33 := by decide +kernel
theorem zi_197_33 : zraw 197 33 = some (.aload_n 0, 1) ∧ 33 + 1 = 34 := by decide +kernel
theorem zi_197_34 : zraw 197 34 = some (.iload_n 1, 1) ∧ 34 + 1 = 35 := by decide +kernel
theorem zi_197_35 : zraw 197 35 = some (.iload_n 2, 1) ∧ 35 + 1 = 36 := by decide +kernel
theorem zi_197_36 : zraw 197 36 = some (.iload 4, 2) ∧ 36 + 2 = 38 := by decide +kernel
theorem zi_197_38 : zraw 197 38 = some (.invokevirtual 425, 3) ∧ zmt (zinf 197).1 425 = some 191 ∧ Nat.ble 9000 191 = false ∧ zinf 191 = (10, 4, 6, 2, 0) ∧ 38 + 3 = 41 := by decide +kernel
theorem zi_197_41 : zraw 197 41 = some (.ifCond .eq 7, 3) ∧ ((41 : Nat) : Int) + 7 = Int.ofNat 48 ∧ 41 + 3 = 44 := by decide +kernel
theorem zi_197_44 : zraw 197 44 = some (.iconst 1, 1) ∧ zin 128 1 = true ∧ 44 + 1 = 45 := by decide +kernel
theorem zi_197_45 : zraw 197 45 = some (.goto 4, 3) ∧ ((45 : Nat) : Int) + 4 = Int.ofNat 49 := by decide +kernel
theorem zi_197_48 : zraw 197 48 = some (.iconst 0, 1) ∧ zin 128 0 = true ∧ 48 + 1 = 49 := by decide +kernel
theorem zi_197_49 : zraw 197 49 = some (.istore_n 3, 1) ∧ 49 + 1 = 50 := by decide +kernel
theorem zi_197_50 : zraw 197 50 = some (.iinc 4 1, 3) ∧ zin 32768 1 = true ∧ 50 + 3 = 53 := by decide +kernel
theorem zi_197_53 : zraw 197 53 = some (.goto (-48), 3) ∧ ((53 : Nat) : Int) + (-48) = Int.ofNat 5 := by decide +kernel
theorem zi_197_56 : zraw 197 56 = some (.iload_n 3, 1) ∧ 56 + 1 = 57 := by decide +kernel
theorem zi_197_57 : zraw 197 57 = some (.ireturn, 1) ∧ (zinf 197).2.2.2.1 = 2 := by decide +kernel
theorem ze_197 {K : List zF} {σ : zW} {x1 : Int} {x2 : Int} : zEv true (zent 197 [.inr (.inr 122), .inl x1, .inl x2] :: K) σ = (zEv true ((197, 5, [some (.inr (.inr 122)), some (.inl x1), some (.inl x2), some (.inl 0), some (.inl 0)], []) :: K) σ) :=
  yT_en (f := (197, 0, [some (.inr (.inr 122)), some (.inl x1), some (.inl x2), none, none], [])) rfl (yI_iconst zi_197_0 <| yI_istore_n (l := [some (.inr (.inr 122)), some (.inl x1), some (.inl x2), some (.inl 0), none]) zi_197_1 rfl rfl <| yI_iconst zi_197_2 <| yI_istore (l := [some (.inr (.inr 122)), some (.inl x1), some (.inl x2), some (.inl 0), some (.inl 0)]) zi_197_3 rfl rfl <| rfl)
theorem zj_197_5 {K : List zF} {σ : zW} {x1 : Int} {x2 : Int} {x3 : Int} {x4 : Int} (hK : K.length < 60) : zEv true ((197, 5, [some (.inr (.inr 122)), some (.inl x1), some (.inl x2), some (.inl x3), some (.inl x4)], []) :: K) σ = (if (gI σ 122 65) ≤ x4 then (x3 = 0 ∨ x3 = 1) ∧ zRet true K (some (.inl x3)) σ else if ¬ x3 = 0 then (x3 = 0 ∨ x3 = 1) ∧ zRet true K (some (.inl x3)) σ else (0 ≤ (w32 ((w32 (20 * x1)) + x4)) ∧ (w32 ((w32 (20 * x1)) + x4)) < 160) ∧ (if (gI σ 175 ((w32 ((w32 (20 * x1)) + x4)).toNat)) = 0 then zEv true ((197, 48, [some (.inr (.inr 122)), some (.inl x1), some (.inl x2), some (.inl x3), some (.inl x4)], []) :: K) σ else zEv true (zent 191 [.inr (.inr 122), .inl x1, .inl x2, .inl x4] :: (197, 41, [some (.inr (.inr 122)), some (.inl x1), some (.inl x2), some (.inl x3), some (.inl x4)], []) :: K) σ)) :=
  yI_iload zi_197_5 rfl <| yI_aload_n zi_197_7 rfl <| yI_gf_i (v := gI σ 122 65) zi_197_8 zk_122 rfl <| yI_ic_ge zi_197_11 <| yBr (yI_iload_n zi_197_56 rfl <| yI_zreturnc zi_197_57) (yI_iload_n zi_197_14 rfl <| yI_if_ne zi_197_15 <| yBr (yI_iload_n zi_197_56 rfl <| yI_zreturnc zi_197_57) (yI_aload_n zi_197_18 rfl <| yI_gf_f (v := 175) zi_197_19 zk_122 rfl <| yI_bipush zi_197_22 <| yI_iload_n zi_197_24 rfl <| yI_imul zi_197_25 <| yI_iload zi_197_26 rfl <| yI_iadd zi_197_28 <| yI_baloadc (v := gI σ 175 ((w32 ((w32 (20 * x1)) + x4)).toNat)) zi_197_29 za_175 rfl <| yI_if_eq zi_197_30 <| yBr (rfl) (yI_aload_n zi_197_33 rfl <| yI_iload_n zi_197_34 rfl <| yI_iload_n zi_197_35 rfl <| yI_iload zi_197_36 rfl <| yI_cv zi_197_38 rfl rfl zk_122 hK)))
theorem zj_197_48 {K : List zF} {σ : zW} {x1 : Int} {x2 : Int} {o3 : Option zV} {x4 : Int} : zEv true ((197, 48, [some (.inr (.inr 122)), some (.inl x1), some (.inl x2), o3, some (.inl x4)], []) :: K) σ = (zEv true ((197, 5, [some (.inr (.inr 122)), some (.inl x1), some (.inl x2), some (.inl 0), some (.inl (w32 (x4 + 1)))], []) :: K) σ) :=
  yI_iconst zi_197_48 <| yI_istore_n (l := [some (.inr (.inr 122)), some (.inl x1), some (.inl x2), some (.inl 0), some (.inl x4)]) zi_197_49 rfl rfl <| yI_iinc (l := [some (.inr (.inr 122)), some (.inl x1), some (.inl x2), some (.inl 0), some (.inl (w32 (x4 + 1)))]) zi_197_50 rfl rfl rfl <| yI_goto zi_197_53 <| rfl
theorem zr_197_41 {K : List zF} {σ : zW} {x1 : Int} {x2 : Int} {o3 : Option zV} {x4 : Int} {v : Int} : zRet true ((197, 41, [some (.inr (.inr 122)), some (.inl x1), some (.inl x2), o3, some (.inl x4)], []) :: K) (some (.inl v)) σ = (if v = 0 then zEv true ((197, 48, [some (.inr (.inr 122)), some (.inl x1), some (.inl x2), o3, some (.inl x4)], []) :: K) σ else zEv true ((197, 5, [some (.inr (.inr 122)), some (.inl x1), some (.inl x2), some (.inl 1), some (.inl (w32 (x4 + 1)))], []) :: K) σ) :=
  yT_rt (yI_if_eq zi_197_41 <| yBr (rfl) (yI_iconst zi_197_44 <| yI_goto zi_197_45 <| yI_istore_n (l := [some (.inr (.inr 122)), some (.inl x1), some (.inl x2), some (.inl 1), some (.inl x4)]) zi_197_49 rfl rfl <| yI_iinc (l := [some (.inr (.inr 122)), some (.inl x1), some (.inl x2), some (.inl 1), some (.inl (w32 (x4 + 1)))]) zi_197_50 rfl rfl rfl <| yI_goto zi_197_53 <| rfl))
/-- 198 TreegrabModel.laysParts()V -/
theorem zi_198_0 : zraw 198 0 = some (.aload_n 0, 1) ∧ 0 + 1 = 1 := by decide +kernel
theorem zi_198_1 : zraw 198 1 = some (.getfield 306, 3) ∧ zft (zinf 198).1 306 = some (10, 18, 0, false) ∧ 1 + 3 = 4 := by decide +kernel
theorem zi_198_4 : zraw 198 4 = some (.iconst 1, 1) ∧ zin 128 1 = true ∧ 4 + 1 = 5 := by decide +kernel
theorem zi_198_5 : zraw 198 5 = some (.isub, 1) ∧ 5 + 1 = 6 := by decide +kernel
theorem zi_198_6 : zraw 198 6 = some (.istore_n 1, 1) ∧ 6 + 1 = 7 := by decide +kernel
theorem zi_198_7 : zraw 198 7 = some (.iload_n 1, 1) ∧ 7 + 1 = 8 := by decide +kernel
theorem zi_198_8 : zraw 198 8 = some (.ifCond .le 120, 3) ∧ ((8 : Nat) : Int) + 120 = Int.ofNat 128 ∧ 8 + 3 = 11 := by decide +kernel
theorem zi_198_11 : zraw 198 11 = some (.iconst 0, 1) ∧ zin 128 0 = true ∧ 11 + 1 = 12 := by decide +kernel
theorem zi_198_12 : zraw 198 12 = some (.istore_n 2, 1) ∧ 12 + 1 = 13 := by decide +kernel
theorem zi_198_13 : zraw 198 13 = some (.iload_n 2, 1) ∧ 13 + 1 = 14 := by decide +kernel
theorem zi_198_14 : zraw 198 14 = some (.aload_n 0, 1) ∧ 14 + 1 = 15 := by decide +kernel
theorem zi_198_15 : zraw 198 15 = some (.getfield 389, 3) ∧ zft (zinf 198).1 389 = some (10, 65, 0, false) ∧ 15 + 3 = 18 := by decide +kernel
theorem zi_198_18 : zraw 198 18 = some (.if_icmp .ge 104, 3) ∧ ((18 : Nat) : Int) + 104 = Int.ofNat 122 ∧ 18 + 3 = 21 := by decide +kernel
theorem zi_198_21 : zraw 198 21 = some (.aload_n 0, 1) ∧ 21 + 1 = 22 := by decide +kernel
theorem zi_198_22 : zraw 198 22 = some (.iload_n 1, 1) ∧ 22 + 1 = 23 := by decide +kernel
theorem zi_198_23 : zraw 198 23 = some (.invokevirtual 428, 3) ∧ zmt (zinf 198).1 428 = some 196 ∧ Nat.ble 9000 196 = false ∧ zinf 196 = (10, 2, 2, 2, 0) ∧ 23 + 3 = 26 := by decide +kernel
theorem zi_198_26 : zraw 198 26 = some (.ifCond .eq 96, 3) ∧ ((26 : Nat) : Int) + 96 = Int.ofNat 122 ∧ 26 + 3 = 29 := by decide +kernel
theorem zi_198_29 : zraw 198 29 = some (.aload_n 0, 1) ∧ 29 + 1 = 30 := by decide +kernel
theorem zi_198_30 : zraw 198 30 = some (.iload_n 1, 1) ∧ 30 + 1 = 31 := by decide +kernel
theorem zi_198_31 : zraw 198 31 = some (.iload_n 2, 1) ∧ 31 + 1 = 32 := by decide +kernel
theorem zi_198_32 : zraw 198 32 = some (.invokevirtual 431, 3) ∧ zmt (zinf 198).1 431 = some 194 ∧ Nat.ble 9000 194 = false ∧ zinf 194 = (10, 3, 3, 2, 0) ∧ 32 + 3 = 35 := by decide +kernel
theorem zi_198_35 : zraw 198 35 = some (.istore_n 3, 1) ∧ 35 + 1 = 36 := by decide +kernel
theorem zi_198_36 : zraw 198 36 = some (.iload_n 1, 1) ∧ 36 + 1 = 37 := by decide +kernel
theorem zi_198_37 : zraw 198 37 = some (.iconst 1, 1) ∧ zin 128 1 = true ∧ 37 + 1 = 38 := by decide +kernel
theorem zi_198_38 : zraw 198 38 = some (.iadd, 1) ∧ 38 + 1 = 39 := by decide +kernel
theorem zi_198_39 : zraw 198 39 = some (.istore 4, 2) ∧ 39 + 2 = 41 := by decide +kernel
theorem zi_198_41 : zraw 198 41 = some (.iload 4, 2) ∧ 41 + 2 = 43 := by decide +kernel
theorem zi_198_43 : zraw 198 43 = some (.aload_n 0, 1) ∧ 43 + 1 = 44 := by decide +kernel
theorem zi_198_44 : zraw 198 44 = some (.getfield 306, 3) ∧ zft (zinf 198).1 306 = some (10, 18, 0, false) ∧ 44 + 3 = 47 := by decide +kernel
theorem zi_198_47 : zraw 198 47 = some (.if_icmp .ge 57, 3) ∧ ((47 : Nat) : Int) + 57 = Int.ofNat 104 ∧ 47 + 3 = 50 := by decide +kernel
theorem zi_198_50 : zraw 198 50 = some (.iload_n 3, 1) ∧ 50 + 1 = 51 := by decide +kernel
theorem zi_198_51 : zraw 198 51 = some (.ifCond .eq 53, 3) ∧ ((51 : Nat) : Int) + 53 = Int.ofNat 104 ∧ 51 + 3 = 54 := by decide +kernel
theorem zi_198_54 : zraw 198 54 = some (.aload_n 0, 1) ∧ 54 + 1 = 55 := by decide +kernel
theorem zi_198_55 : zraw 198 55 = some (.getfield 63, 3) ∧ zft (zinf 198).1 63 = some (10, 27, 3, true) ∧ 55 + 3 = 58 := by decide +kernel
theorem zi_198_58 : zraw 198 58 = some (.iload 4, 2) ∧ 58 + 2 = 60 := by decide +kernel
theorem zi_198_60 : zraw 198 60 = some (.iaload, 1) ∧ 60 + 1 = 61 := by decide +kernel
theorem zi_198_61 : zraw 198 61 = some (.iload_n 1, 1) ∧ 61 + 1 = 62 := by decide +kernel
theorem zi_198_62 : zraw 198 62 = some (.if_icmp .ne 30, 3) ∧ ((62 : Nat) : Int) + 30 = Int.ofNat 92 ∧ 62 + 3 = 65 := by decide +kernel
theorem zi_198_65 : zraw 198 65 = some (.aload_n 0, 1) ∧ 65 + 1 = 66 := by decide +kernel
theorem zi_198_66 : zraw 198 66 = some (.iload 4, 2) ∧ 66 + 2 = 68 := by decide +kernel
theorem zi_198_68 : zraw 198 68 = some (.iload_n 2, 1) ∧ 68 + 1 = 69 := by decide +kernel
theorem zi_198_69 : zraw 198 69 = some (.invokevirtual 434, 3) ∧ zmt (zinf 198).1 434 = some 197 ∧ Nat.ble 9000 197 = false ∧ zinf 197 = (10, 3, 5, 2, 0) ∧ 69 + 3 = 72 := by decide +kernel
theorem zi_198_72 : zraw 198 72 = some (.aload_n 0, 1) ∧ 72 + 1 = 73 := by decide +kernel
theorem zi_198_73 : zraw 198 73 = some (.getfield 66, 3) ∧ zft (zinf 198).1 66 = some (10, 28, 3, true) ∧ 73 + 3 = 76 := by decide +kernel
theorem zi_198_76 : zraw 198 76 = some (.iload 4, 2) ∧ 76 + 2 = 78 := by decide +kernel
theorem zi_198_78 : zraw 198 78 = some (.iaload, 1) ∧ 78 + 1 = 79 := by decide +kernel
theorem zi_198_79 : zraw 198 79 = some (.bipush 33, 2) ∧ zin 128 33 = true ∧ 79 + 2 = 81 := by decide +kernel
theorem zi_198_81 : zraw 198 81 = some (.if_icmp .eq 7, 3) ∧ ((81 : Nat) : Int) + 7 = Int.ofNat 88 ∧ 81 + 3 = 84 := by decide +kernel
theorem zi_198_84 : zraw 198 84 = some (.iconst 1, 1) ∧ zin 128 1 = true ∧ 84 + 1 = 85 := by decide +kernel
theorem zi_198_85 : zraw 198 85 = some (.goto 4, 3) ∧ ((85 : Nat) : Int) + 4 = Int.ofNat 89 := by decide +kernel
theorem zi_198_88 : zraw 198 88 = some (.iconst 0, 1) ∧ zin 128 0 = true ∧ 88 + 1 = 89 := by decide +kernel
theorem zi_198_89 : zraw 198 89 = some (.if_icmp .ne 7, 3) ∧ ((89 : Nat) : Int) + 7 = Int.ofNat 96 ∧ 89 + 3 = 92 := by decide +kernel
theorem zi_198_92 : zraw 198 92 = some (.iconst 1, 1) ∧ zin 128 1 = true ∧ 92 + 1 = 93 := by decide +kernel
theorem zi_198_93 : zraw 198 93 = some (.goto 4, 3) ∧ ((93 : Nat) : Int) + 4 = Int.ofNat 97 := by decide +kernel
theorem zi_198_96 : zraw 198 96 = some (.iconst 0, 1) ∧ zin 128 0 = true ∧ 96 + 1 = 97 := by decide +kernel
theorem zi_198_97 : zraw 198 97 = some (.istore_n 3, 1) ∧ 97 + 1 = 98 := by decide +kernel
theorem zi_198_98 : zraw 198 98 = some (.iinc 4 1, 3) ∧ zin 32768 1 = true ∧ 98 + 3 = 101 := by decide +kernel
theorem zi_198_101 : zraw 198 101 = some (.goto (-60), 3) ∧ ((101 : Nat) : Int) + (-60) = Int.ofNat 41 := by decide +kernel
theorem zi_198_104 : zraw 198 104 = some (.aload_n 0, 1) ∧ 104 + 1 = 105 := by decide +kernel
theorem zi_198_105 : zraw 198 105 = some (.getfield 172, 3) ∧ zft (zinf 198).1 172 = some (10, 71, 3, true) ∧ 105 + 3 = 108 := by decide +kernel
theorem zi_198_108 : zraw 198 108 = some (.bipush 20, 2) ∧ zin 128 20 = true ∧ 108 + 2 = 110 := by decide +kernel
theorem zi_198_110 : zraw 198 110 = some (.iload_n 1, 1) ∧ 110 + 1 = 111 := by decide +kernel
theorem zi_198_111 : zraw 198 111 = some (.imul, 1) ∧ 111 + 1 = 112 := by decide +kernel
theorem zi_198_112 : zraw 198 112 = some (.iload_n 2, 1) ∧ 112 + 1 = 113 := by decide +kernel
theorem zi_198_113 : zraw 198 113 = some (.iadd, 1) ∧ 113 + 1 = 114 := by decide +kernel
theorem zi_198_114 : zraw 198 114 = some (.iload_n 3, 1) ∧ 114 + 1 = 115 := by decide +kernel
theorem zi_198_115 : zraw 198 115 = some (.bastore, 1) ∧ 115 + 1 = 116 := by decide +kernel
theorem zi_198_116 : zraw 198 116 = some (.iinc 2 1, 3) ∧ zin 32768 1 = true ∧ 116 + 3 = 119 := by decide +kernel
theorem zi_198_119 : zraw 198 119 = some (.goto (-106), 3) ∧ ((119 : Nat) : Int) + (-106) = Int.ofNat 13 := by decide +kernel
theorem zi_198_122 : zraw 198 122 = some (.iinc 1 (-1), 3) ∧ zin 32768 (-1) = true ∧ 122 + 3 = 125 := by decide +kernel
theorem zi_198_125 : zraw 198 125 = some (.goto (-118), 3) ∧ ((125 : Nat) : Int) + (-118) = Int.ofNat 7 := by decide +kernel
theorem zi_198_128 : zraw 198 128 = some (.return_, 1) ∧ (zinf 198).2.2.2.1 = 0 := by decide +kernel
theorem ze_198 {K : List zF} {σ : zW} : zEv true (zent 198 [.inr (.inr 122)] :: K) σ = (zEv true ((198, 7, [some (.inr (.inr 122)), some (.inl (w32 ((gI σ 122 18) - 1))), none, none, none], []) :: K) σ) :=
  yT_en (f := (198, 0, [some (.inr (.inr 122)), none, none, none, none], [])) rfl (yI_aload_n zi_198_0 rfl <| yI_gf_i (v := gI σ 122 18) zi_198_1 zk_122 rfl <| yI_iconst zi_198_4 <| yI_isub zi_198_5 <| yI_istore_n (l := [some (.inr (.inr 122)), some (.inl (w32 ((gI σ 122 18) - 1))), none, none, none]) zi_198_6 rfl rfl <| rfl)
theorem zj_198_7 {K : List zF} {σ : zW} {x1 : Int} {o2 : Option zV} {o3 : Option zV} {o4 : Option zV} : zEv true ((198, 7, [some (.inr (.inr 122)), some (.inl x1), o2, o3, o4], []) :: K) σ = (if x1 ≤ 0 then zRet true K none σ else zEv true ((198, 13, [some (.inr (.inr 122)), some (.inl x1), some (.inl 0), o3, o4], []) :: K) σ) :=
  yI_iload_n zi_198_7 rfl <| yI_if_le zi_198_8 <| yBr (yI_ret zi_198_128) (yI_iconst zi_198_11 <| yI_istore_n (l := [some (.inr (.inr 122)), some (.inl x1), some (.inl 0), o3, o4]) zi_198_12 rfl rfl <| rfl)
theorem zj_198_13 {K : List zF} {σ : zW} {x1 : Int} {x2 : Int} {o3 : Option zV} {o4 : Option zV} (hK : K.length < 60) : zEv true ((198, 13, [some (.inr (.inr 122)), some (.inl x1), some (.inl x2), o3, o4], []) :: K) σ = (if (gI σ 122 65) ≤ x2 then zEv true ((198, 7, [some (.inr (.inr 122)), some (.inl (w32 (x1 + (-1)))), some (.inl x2), o3, o4], []) :: K) σ else zEv true (zent 196 [.inr (.inr 122), .inl x1] :: (198, 26, [some (.inr (.inr 122)), some (.inl x1), some (.inl x2), o3, o4], []) :: K) σ) :=
  yI_iload_n zi_198_13 rfl <| yI_aload_n zi_198_14 rfl <| yI_gf_i (v := gI σ 122 65) zi_198_15 zk_122 rfl <| yI_ic_ge zi_198_18 <| yBr (yI_iinc (l := [some (.inr (.inr 122)), some (.inl (w32 (x1 + (-1)))), some (.inl x2), o3, o4]) zi_198_122 rfl rfl rfl <| yI_goto zi_198_125 <| rfl) (yI_aload_n zi_198_21 rfl <| yI_iload_n zi_198_22 rfl <| yI_cv zi_198_23 rfl rfl zk_122 hK)
theorem zr_198_26 {K : List zF} {σ : zW} {x1 : Int} {x2 : Int} {o3 : Option zV} {o4 : Option zV} {v : Int} (hK : K.length < 60) : zRet true ((198, 26, [some (.inr (.inr 122)), some (.inl x1), some (.inl x2), o3, o4], []) :: K) (some (.inl v)) σ = (if v = 0 then zEv true ((198, 7, [some (.inr (.inr 122)), some (.inl (w32 (x1 + (-1)))), some (.inl x2), o3, o4], []) :: K) σ else zEv true (zent 194 [.inr (.inr 122), .inl x1, .inl x2] :: (198, 35, [some (.inr (.inr 122)), some (.inl x1), some (.inl x2), o3, o4], []) :: K) σ) :=
  yT_rt (yI_if_eq zi_198_26 <| yBr (yI_iinc (l := [some (.inr (.inr 122)), some (.inl (w32 (x1 + (-1)))), some (.inl x2), o3, o4]) zi_198_122 rfl rfl rfl <| yI_goto zi_198_125 <| rfl) (yI_aload_n zi_198_29 rfl <| yI_iload_n zi_198_30 rfl <| yI_iload_n zi_198_31 rfl <| yI_cv zi_198_32 rfl rfl zk_122 hK))
theorem zr_198_35 {K : List zF} {σ : zW} {x1 : Int} {x2 : Int} {o3 : Option zV} {o4 : Option zV} {v : Int} : zRet true ((198, 35, [some (.inr (.inr 122)), some (.inl x1), some (.inl x2), o3, o4], []) :: K) (some (.inl v)) σ = (zEv true ((198, 41, [some (.inr (.inr 122)), some (.inl x1), some (.inl x2), some (.inl v), some (.inl (w32 (x1 + 1)))], []) :: K) σ) :=
  yT_rt (yI_istore_n (l := [some (.inr (.inr 122)), some (.inl x1), some (.inl x2), some (.inl v), o4]) zi_198_35 rfl rfl <| yI_iload_n zi_198_36 rfl <| yI_iconst zi_198_37 <| yI_iadd zi_198_38 <| yI_istore (l := [some (.inr (.inr 122)), some (.inl x1), some (.inl x2), some (.inl v), some (.inl (w32 (x1 + 1)))]) zi_198_39 rfl rfl <| rfl)
theorem zj_198_41 {K : List zF} {σ : zW} {x1 : Int} {x2 : Int} {x3 : Int} {x4 : Int} (hK : K.length < 60) : zEv true ((198, 41, [some (.inr (.inr 122)), some (.inl x1), some (.inl x2), some (.inl x3), some (.inl x4)], []) :: K) σ = (if (gI σ 122 18) ≤ x4 then zEv true ((198, 104, [some (.inr (.inr 122)), some (.inl x1), some (.inl x2), some (.inl x3), some (.inl x4)], []) :: K) σ else if x3 = 0 then zEv true ((198, 104, [some (.inr (.inr 122)), some (.inl x1), some (.inl x2), some (.inl x3), some (.inl x4)], []) :: K) σ else (0 ≤ x4 ∧ x4 < 8) ∧ (if ¬ (gI σ 140 x4.toNat) = x1 then zEv true ((198, 41, [some (.inr (.inr 122)), some (.inl x1), some (.inl x2), some (.inl 1), some (.inl (w32 (x4 + 1)))], []) :: K) σ else zEv true (zent 197 [.inr (.inr 122), .inl x4, .inl x2] :: (198, 72, [some (.inr (.inr 122)), some (.inl x1), some (.inl x2), some (.inl x3), some (.inl x4)], []) :: K) σ)) :=
  yI_iload zi_198_41 rfl <| yI_aload_n zi_198_43 rfl <| yI_gf_i (v := gI σ 122 18) zi_198_44 zk_122 rfl <| yI_ic_ge zi_198_47 <| yBr (rfl) (yI_iload_n zi_198_50 rfl <| yI_if_eq zi_198_51 <| yBr (rfl) (yI_aload_n zi_198_54 rfl <| yI_gf_f (v := 140) zi_198_55 zk_122 rfl <| yI_iload zi_198_58 rfl <| yI_ialoadc (v := gI σ 140 x4.toNat) zi_198_60 za_140 rfl <| yI_iload_n zi_198_61 rfl <| yI_ic_ne zi_198_62 <| yBr (yI_iconst zi_198_92 <| yI_goto zi_198_93 <| yI_istore_n (l := [some (.inr (.inr 122)), some (.inl x1), some (.inl x2), some (.inl 1), some (.inl x4)]) zi_198_97 rfl rfl <| yI_iinc (l := [some (.inr (.inr 122)), some (.inl x1), some (.inl x2), some (.inl 1), some (.inl (w32 (x4 + 1)))]) zi_198_98 rfl rfl rfl <| yI_goto zi_198_101 <| rfl) (yI_aload_n zi_198_65 rfl <| yI_iload zi_198_66 rfl <| yI_iload_n zi_198_68 rfl <| yI_cv zi_198_69 rfl rfl zk_122 hK)))
theorem zj_198_104 {K : List zF} {σ : zW} {x1 : Int} {x2 : Int} {x3 : Int} {o4 : Option zV} : zEv true ((198, 104, [some (.inr (.inr 122)), some (.inl x1), some (.inl x2), some (.inl x3), o4], []) :: K) σ = (((0 ≤ (w32 ((w32 (20 * x1)) + x2)) ∧ (w32 ((w32 (20 * x1)) + x2)) < 160) ∧ (x3 = 0 ∨ x3 = 1)) ∧ zEv true ((198, 13, [some (.inr (.inr 122)), some (.inl x1), some (.inl (w32 (x2 + 1))), some (.inl x3), o4], []) :: K) (sI σ 175 ((w32 ((w32 (20 * x1)) + x2)).toNat) x3)) :=
  yI_aload_n zi_198_104 rfl <| yI_gf_f (v := 175) zi_198_105 zk_122 rfl <| yI_bipush zi_198_108 <| yI_iload_n zi_198_110 rfl <| yI_imul zi_198_111 <| yI_iload_n zi_198_112 rfl <| yI_iadd zi_198_113 <| yI_iload_n zi_198_114 rfl <| yI_bastoreb zi_198_115 za_175 <| yI_iinc (l := [some (.inr (.inr 122)), some (.inl x1), some (.inl (w32 (x2 + 1))), some (.inl x3), o4]) zi_198_116 rfl rfl rfl <| yI_goto zi_198_119 <| rfl
theorem zr_198_72 {K : List zF} {σ : zW} {x1 : Int} {x2 : Int} {o3 : Option zV} {x4 : Int} {v : Int} : zRet true ((198, 72, [some (.inr (.inr 122)), some (.inl x1), some (.inl x2), o3, some (.inl x4)], []) :: K) (some (.inl v)) σ = ((0 ≤ x4 ∧ x4 < 8) ∧ zEv true ((198, 41, [some (.inr (.inr 122)), some (.inl x1), some (.inl x2), some (.inl (if ¬ v = (if (gI σ 141 x4.toNat) = 33 then 0 else 1 : Int) then 0 else 1 : Int)), some (.inl (w32 (x4 + 1)))], []) :: K) σ) :=
  yT_rt (yI_aload_n zi_198_72 rfl <| yI_gf_f (v := 141) zi_198_73 zk_122 rfl <| yI_iload zi_198_76 rfl <| yI_ialoadc (v := gI σ 141 x4.toNat) zi_198_78 za_141 rfl <| yI_bipush zi_198_79 <| yI_ic_eq zi_198_81 <| yMi0 (j := 89) (ls2 := [some (.inr (.inr 122)), some (.inl x1), some (.inl x2), o3, some (.inl x4)]) (st2 := [.inl v]) (x := 0) (y := 1) (σ2 := σ) (yI_iconst zi_198_88 <| rfl) (yI_iconst zi_198_84 <| yI_goto zi_198_85 <| rfl) <| yI_ic_ne zi_198_89 <| yMi0 (j := 97) (ls2 := [some (.inr (.inr 122)), some (.inl x1), some (.inl x2), o3, some (.inl x4)]) (st2 := []) (x := 0) (y := 1) (σ2 := σ) (yI_iconst zi_198_96 <| rfl) (yI_iconst zi_198_92 <| yI_goto zi_198_93 <| rfl) <| yI_istore_n (l := [some (.inr (.inr 122)), some (.inl x1), some (.inl x2), some (.inl (if ¬ v = (if (gI σ 141 x4.toNat) = 33 then 0 else 1 : Int) then 0 else 1 : Int)), some (.inl x4)]) zi_198_97 rfl rfl <| yI_iinc (l := [some (.inr (.inr 122)), some (.inl x1), some (.inl x2), some (.inl (if ¬ v = (if (gI σ 141 x4.toNat) = 33 then 0 else 1 : Int) then 0 else 1 : Int)), some (.inl (w32 (x4 + 1)))]) zi_198_98 rfl rfl rfl <| yI_goto zi_198_101 <| rfl)
/-- 199 TreegrabModel.isGiven(I)Z -/
theorem zi_199_0 : zraw 199 0 = some (.iconst 0, 1) ∧ zin 128 0 = true ∧ 0 + 1 = 1 := by decide +kernel
theorem zi_199_1 : zraw 199 1 = some (.istore_n 2, 1) ∧ 1 + 1 = 2 := by decide +kernel
theorem zi_199_2 : zraw 199 2 = some (.iconst 0, 1) ∧ zin 128 0 = true ∧ 2 + 1 = 3 := by decide +kernel
theorem zi_199_3 : zraw 199 3 = some (.istore_n 3, 1) ∧ 3 + 1 = 4 := by decide +kernel
theorem zi_199_4 : zraw 199 4 = some (.iload_n 3, 1) ∧ 4 + 1 = 5 := by decide +kernel
theorem zi_199_5 : zraw 199 5 = some (.aload_n 0, 1) ∧ 5 + 1 = 6 := by decide +kernel
theorem zi_199_6 : zraw 199 6 = some (.getfield 306, 3) ∧ zft (zinf 199).1 306 = some (10, 18, 0, false) ∧ 6 + 3 = 9 := by decide +kernel
theorem zi_199_9 : zraw 199 9 = some (.if_icmp .ge 49, 3) ∧ ((9 : Nat) : Int) + 49 = Int.ofNat 58 ∧ 9 + 3 = 12 := by decide +kernel
theorem zi_199_12 : zraw 199 12 = some (.iload_n 2, 1) ∧ 12 + 1 = 13 := by decide +kernel
theorem zi_199_13 : zraw 199 13 = some (.ifCond .ne 33, 3) ∧ ((13 : Nat) : Int) + 33 = Int.ofNat 46 ∧ 13 + 3 = 16 := by decide +kernel
theorem zi_199_16 : zraw 199 16 = some (.aload_n 0, 1) ∧ 16 + 1 = 17 := by decide +kernel
theorem zi_199_17 : zraw 199 17 = some (.getfield 56, 3) ∧ zft (zinf 199).1 56 = some (10, 25, 3, true) ∧ 17 + 3 = 20 := by decide +kernel
theorem zi_199_20 : zraw 199 20 = some (.iload_n 3, 1) ∧ 20 + 1 = 21 := by decide +kernel
theorem zi_199_21 : zraw 199 21 = some (.iaload, 1) ∧ 21 + 1 = 22 := by decide +kernel
theorem zi_199_22 : zraw 199 22 = some (.iload_n 1, 1) ∧ 22 + 1 = 23 := by decide +kernel
theorem zi_199_23 : zraw 199 23 = some (.if_icmp .ne 27, 3) ∧ ((23 : Nat) : Int) + 27 = Int.ofNat 50 ∧ 23 + 3 = 26 := by decide +kernel
theorem zi_199_26 : zraw 199 26 = some (.aload_n 0, 1) ∧ 26 + 1 = 27 := by decide +kernel
theorem zi_199_27 : zraw 199 27 = some (.getfield 50, 3) ∧ zft (zinf 199).1 50 = some (10, 23, 3, true) ∧ 27 + 3 = 30 := by decide +kernel
theorem zi_199_30 : zraw 199 30 = some (.iload_n 3, 1) ∧ 30 + 1 = 31 := by decide +kernel
theorem zi_199_31 : zraw 199 31 = some (.iaload, 1) ∧ 31 + 1 = 32 := by decide +kernel
theorem zi_199_32 : zraw 199 32 = some (.iconst (-1), 1) ∧ zin 128 (-1) = true ∧ 32 + 1 = 33 := by decide +kernel
theorem zi_199_33 : zraw 199 33 = some (.if_icmp .eq 17, 3) ∧ ((33 : Nat) : Int) + 17 = Int.ofNat 50 ∧ 33 + 3 = 36 := by decide +kernel
theorem zi_199_36 : zraw 199 36 = some (.aload_n 0, 1) ∧ 36 + 1 = 37 := by decide +kernel
theorem zi_199_37 : zraw 199 37 = some (.getfield 169, 3) ∧ zft (zinf 199).1 169 = some (10, 70, 3, true) ∧ 37 + 3 = 40 := by decide +kernel
theorem zi_199_40 : zraw 199 40 = some (.iload_n 3, 1) ∧ 40 + 1 = 41 := by decide +kernel
theorem zi_199_41 : zraw 199 41 = some (.iaload, 1) ∧ 41 + 1 = 42 := by decide +kernel
theorem zi_199_42 : zraw 199 42 = some (.iconst (-1), 1) ∧ zin 128 (-1) = true ∧ 42 + 1 = 43 := by decide +kernel
theorem zi_199_43 : zraw 199 43 = some (.if_icmp .eq 7, 3) ∧ ((43 : Nat) : Int) + 7 = Int.ofNat 50 ∧ 43 + 3 = 46 := by decide +kernel
theorem zi_199_46 : zraw 199 46 = some (.iconst 1, 1) ∧ zin 128 1 = true ∧ 46 + 1 = 47 := by decide +kernel
theorem zi_199_47 : zraw 199 47 = some (.goto 4, 3) ∧ ((47 : Nat) : Int) + 4 = Int.ofNat 51 := by decide +kernel
theorem zi_199_50 : zraw 199 50 = some (.iconst 0, 1) ∧ zin 128 0 = true ∧ 50 + 1 = 51 := by decide +kernel
theorem zi_199_51 : zraw 199 51 = some (.istore_n 2, 1) ∧ 51 + 1 = 52 := by decide +kernel
theorem zi_199_52 : zraw 199 52 = some (.iinc 3 1, 3) ∧ zin 32768 1 = true ∧ 52 + 3 = 55 := by decide +kernel
theorem zi_199_55 : zraw 199 55 = some (.goto (-51), 3) ∧ ((55 : Nat) : Int) + (-51) = Int.ofNat 4 := by decide +kernel
theorem zi_199_58 : zraw 199 58 = some (.iload_n 2, 1) ∧ 58 + 1 = 59 := by decide +kernel
theorem zi_199_59 : zraw 199 59 = some (.ireturn, 1) ∧ (zinf 199).2.2.2.1 = 2 := by decide +kernel
theorem ze_199 {K : List zF} {σ : zW} {x1 : Int} : zEv true (zent 199 [.inr (.inr 122), .inl x1] :: K) σ = (zEv true ((199, 4, [some (.inr (.inr 122)), some (.inl x1), some (.inl 0), some (.inl 0)], []) :: K) σ) :=
  yT_en (f := (199, 0, [some (.inr (.inr 122)), some (.inl x1), none, none], [])) rfl (yI_iconst zi_199_0 <| yI_istore_n (l := [some (.inr (.inr 122)), some (.inl x1), some (.inl 0), none]) zi_199_1 rfl rfl <| yI_iconst zi_199_2 <| yI_istore_n (l := [some (.inr (.inr 122)), some (.inl x1), some (.inl 0), some (.inl 0)]) zi_199_3 rfl rfl <| rfl)
theorem zj_199_4 {K : List zF} {σ : zW} {x1 : Int} {x2 : Int} {x3 : Int} : zEv true ((199, 4, [some (.inr (.inr 122)), some (.inl x1), some (.inl x2), some (.inl x3)], []) :: K) σ = (if (gI σ 122 18) ≤ x3 then (x2 = 0 ∨ x2 = 1) ∧ zRet true K (some (.inl x2)) σ else if ¬ x2 = 0 then zEv true ((199, 4, [some (.inr (.inr 122)), some (.inl x1), some (.inl 1), some (.inl (w32 (x3 + 1)))], []) :: K) σ else (0 ≤ x3 ∧ x3 < 8) ∧ (if ¬ (gI σ 138 x3.toNat) = x1 then zEv true ((199, 50, [some (.inr (.inr 122)), some (.inl x1), some (.inl x2), some (.inl x3)], []) :: K) σ else (0 ≤ x3 ∧ x3 < 8) ∧ (if (gI σ 136 x3.toNat) = (-1) then zEv true ((199, 50, [some (.inr (.inr 122)), some (.inl x1), some (.inl x2), some (.inl x3)], []) :: K) σ else (0 ≤ x3 ∧ x3 < 8) ∧ (if (gI σ 174 x3.toNat) = (-1) then zEv true ((199, 50, [some (.inr (.inr 122)), some (.inl x1), some (.inl x2), some (.inl x3)], []) :: K) σ else zEv true ((199, 4, [some (.inr (.inr 122)), some (.inl x1), some (.inl 1), some (.inl (w32 (x3 + 1)))], []) :: K) σ)))) :=
  yI_iload_n zi_199_4 rfl <| yI_aload_n zi_199_5 rfl <| yI_gf_i (v := gI σ 122 18) zi_199_6 zk_122 rfl <| yI_ic_ge zi_199_9 <| yBr (yI_iload_n zi_199_58 rfl <| yI_zreturnc zi_199_59) (yI_iload_n zi_199_12 rfl <| yI_if_ne zi_199_13 <| yBr (yI_iconst zi_199_46 <| yI_goto zi_199_47 <| yI_istore_n (l := [some (.inr (.inr 122)), some (.inl x1), some (.inl 1), some (.inl x3)]) zi_199_51 rfl rfl <| yI_iinc (l := [some (.inr (.inr 122)), some (.inl x1), some (.inl 1), some (.inl (w32 (x3 + 1)))]) zi_199_52 rfl rfl rfl <| yI_goto zi_199_55 <| rfl) (yI_aload_n zi_199_16 rfl <| yI_gf_f (v := 138) zi_199_17 zk_122 rfl <| yI_iload_n zi_199_20 rfl <| yI_ialoadc (v := gI σ 138 x3.toNat) zi_199_21 za_138 rfl <| yI_iload_n zi_199_22 rfl <| yI_ic_ne zi_199_23 <| yBr (rfl) (yI_aload_n zi_199_26 rfl <| yI_gf_f (v := 136) zi_199_27 zk_122 rfl <| yI_iload_n zi_199_30 rfl <| yI_ialoadc (v := gI σ 136 x3.toNat) zi_199_31 za_136 rfl <| yI_iconst zi_199_32 <| yI_ic_eq zi_199_33 <| yBr (rfl) (yI_aload_n zi_199_36 rfl <| yI_gf_f (v := 174) zi_199_37 zk_122 rfl <| yI_iload_n zi_199_40 rfl <| yI_ialoadc (v := gI σ 174 x3.toNat) zi_199_41 za_174 rfl <| yI_iconst zi_199_42 <| yI_ic_eq zi_199_43 <| yBr (rfl) (yI_iconst zi_199_46 <| yI_goto zi_199_47 <| yI_istore_n (l := [some (.inr (.inr 122)), some (.inl x1), some (.inl 1), some (.inl x3)]) zi_199_51 rfl rfl <| yI_iinc (l := [some (.inr (.inr 122)), some (.inl x1), some (.inl 1), some (.inl (w32 (x3 + 1)))]) zi_199_52 rfl rfl rfl <| yI_goto zi_199_55 <| rfl)))))
theorem zj_199_50 {K : List zF} {σ : zW} {x1 : Int} {o2 : Option zV} {x3 : Int} : zEv true ((199, 50, [some (.inr (.inr 122)), some (.inl x1), o2, some (.inl x3)], []) :: K) σ = (zEv true ((199, 4, [some (.inr (.inr 122)), some (.inl x1), some (.inl 0), some (.inl (w32 (x3 + 1)))], []) :: K) σ) :=
  yI_iconst zi_199_50 <| yI_istore_n (l := [some (.inr (.inr 122)), some (.inl x1), some (.inl 0), some (.inl x3)]) zi_199_51 rfl rfl <| yI_iinc (l := [some (.inr (.inr 122)), some (.inl x1), some (.inl 0), some (.inl (w32 (x3 + 1)))]) zi_199_52 rfl rfl rfl <| yI_goto zi_199_55 <| rfl
/-- 200 TreegrabModel.hasNumbers(I)Z -/
theorem zi_200_0 : zraw 200 0 = some (.iconst 0, 1) ∧ zin 128 0 = true ∧ 0 + 1 = 1 := by decide +kernel
theorem zi_200_1 : zraw 200 1 = some (.istore_n 2, 1) ∧ 1 + 1 = 2 := by decide +kernel
theorem zi_200_2 : zraw 200 2 = some (.iconst 0, 1) ∧ zin 128 0 = true ∧ 2 + 1 = 3 := by decide +kernel
theorem zi_200_3 : zraw 200 3 = some (.istore_n 3, 1) ∧ 3 + 1 = 4 := by decide +kernel
theorem zi_200_4 : zraw 200 4 = some (.iload_n 3, 1) ∧ 4 + 1 = 5 := by decide +kernel
theorem zi_200_5 : zraw 200 5 = some (.aload_n 0, 1) ∧ 5 + 1 = 6 := by decide +kernel
theorem zi_200_6 : zraw 200 6 = some (.getfield 306, 3) ∧ zft (zinf 200).1 306 = some (10, 18, 0, false) ∧ 6 + 3 = 9 := by decide +kernel
theorem zi_200_9 : zraw 200 9 = some (.if_icmp .ge 39, 3) ∧ ((9 : Nat) : Int) + 39 = Int.ofNat 48 ∧ 9 + 3 = 12 := by decide +kernel
theorem zi_200_12 : zraw 200 12 = some (.iload_n 2, 1) ∧ 12 + 1 = 13 := by decide +kernel
theorem zi_200_13 : zraw 200 13 = some (.ifCond .ne 23, 3) ∧ ((13 : Nat) : Int) + 23 = Int.ofNat 36 ∧ 13 + 3 = 16 := by decide +kernel
theorem zi_200_16 : zraw 200 16 = some (.aload_n 0, 1) ∧ 16 + 1 = 17 := by decide +kernel
theorem zi_200_17 : zraw 200 17 = some (.getfield 56, 3) ∧ zft (zinf 200).1 56 = some (10, 25, 3, true) ∧ 17 + 3 = 20 := by decide +kernel
theorem zi_200_20 : zraw 200 20 = some (.iload_n 3, 1) ∧ 20 + 1 = 21 := by decide +kernel
theorem zi_200_21 : zraw 200 21 = some (.iaload, 1) ∧ 21 + 1 = 22 := by decide +kernel
theorem zi_200_22 : zraw 200 22 = some (.iload_n 1, 1) ∧ 22 + 1 = 23 := by decide +kernel
theorem zi_200_23 : zraw 200 23 = some (.if_icmp .ne 17, 3) ∧ ((23 : Nat) : Int) + 17 = Int.ofNat 40 ∧ 23 + 3 = 26 := by decide +kernel
theorem zi_200_26 : zraw 200 26 = some (.aload_n 0, 1) ∧ 26 + 1 = 27 := by decide +kernel
theorem zi_200_27 : zraw 200 27 = some (.getfield 50, 3) ∧ zft (zinf 200).1 50 = some (10, 23, 3, true) ∧ 27 + 3 = 30 := by decide +kernel
theorem zi_200_30 : zraw 200 30 = some (.iload_n 3, 1) ∧ 30 + 1 = 31 := by decide +kernel
theorem zi_200_31 : zraw 200 31 = some (.iaload, 1) ∧ 31 + 1 = 32 := by decide +kernel
theorem zi_200_32 : zraw 200 32 = some (.iconst (-1), 1) ∧ zin 128 (-1) = true ∧ 32 + 1 = 33 := by decide +kernel
theorem zi_200_33 : zraw 200 33 = some (.if_icmp .eq 7, 3) ∧ ((33 : Nat) : Int) + 7 = Int.ofNat 40 ∧ 33 + 3 = 36 := by decide +kernel
theorem zi_200_36 : zraw 200 36 = some (.iconst 1, 1) ∧ zin 128 1 = true ∧ 36 + 1 = 37 := by decide +kernel
theorem zi_200_37 : zraw 200 37 = some (.goto 4, 3) ∧ ((37 : Nat) : Int) + 4 = Int.ofNat 41 := by decide +kernel
theorem zi_200_40 : zraw 200 40 = some (.iconst 0, 1) ∧ zin 128 0 = true ∧ 40 + 1 = 41 := by decide +kernel
theorem zi_200_41 : zraw 200 41 = some (.istore_n 2, 1) ∧ 41 + 1 = 42 := by decide +kernel
theorem zi_200_42 : zraw 200 42 = some (.iinc 3 1, 3) ∧ zin 32768 1 = true ∧ 42 + 3 = 45 := by decide +kernel
theorem zi_200_45 : zraw 200 45 = some (.goto (-41), 3) ∧ ((45 : Nat) : Int) + (-41) = Int.ofNat 4 := by decide +kernel
theorem zi_200_48 : zraw 200 48 = some (.iload_n 2, 1) ∧ 48 + 1 = 49 := by decide +kernel
theorem zi_200_49 : zraw 200 49 = some (.ireturn, 1) ∧ (zinf 200).2.2.2.1 = 2 := by decide +kernel
theorem ze_200 {K : List zF} {σ : zW} {x1 : Int} : zEv true (zent 200 [.inr (.inr 122), .inl x1] :: K) σ = (zEv true ((200, 4, [some (.inr (.inr 122)), some (.inl x1), some (.inl 0), some (.inl 0)], []) :: K) σ) :=
  yT_en (f := (200, 0, [some (.inr (.inr 122)), some (.inl x1), none, none], [])) rfl (yI_iconst zi_200_0 <| yI_istore_n (l := [some (.inr (.inr 122)), some (.inl x1), some (.inl 0), none]) zi_200_1 rfl rfl <| yI_iconst zi_200_2 <| yI_istore_n (l := [some (.inr (.inr 122)), some (.inl x1), some (.inl 0), some (.inl 0)]) zi_200_3 rfl rfl <| rfl)
theorem zj_200_4 {K : List zF} {σ : zW} {x1 : Int} {x2 : Int} {x3 : Int} : zEv true ((200, 4, [some (.inr (.inr 122)), some (.inl x1), some (.inl x2), some (.inl x3)], []) :: K) σ = (if (gI σ 122 18) ≤ x3 then (x2 = 0 ∨ x2 = 1) ∧ zRet true K (some (.inl x2)) σ else if ¬ x2 = 0 then zEv true ((200, 4, [some (.inr (.inr 122)), some (.inl x1), some (.inl 1), some (.inl (w32 (x3 + 1)))], []) :: K) σ else (0 ≤ x3 ∧ x3 < 8) ∧ (if ¬ (gI σ 138 x3.toNat) = x1 then zEv true ((200, 40, [some (.inr (.inr 122)), some (.inl x1), some (.inl x2), some (.inl x3)], []) :: K) σ else (0 ≤ x3 ∧ x3 < 8) ∧ (if (gI σ 136 x3.toNat) = (-1) then zEv true ((200, 40, [some (.inr (.inr 122)), some (.inl x1), some (.inl x2), some (.inl x3)], []) :: K) σ else zEv true ((200, 4, [some (.inr (.inr 122)), some (.inl x1), some (.inl 1), some (.inl (w32 (x3 + 1)))], []) :: K) σ))) :=
  yI_iload_n zi_200_4 rfl <| yI_aload_n zi_200_5 rfl <| yI_gf_i (v := gI σ 122 18) zi_200_6 zk_122 rfl <| yI_ic_ge zi_200_9 <| yBr (yI_iload_n zi_200_48 rfl <| yI_zreturnc zi_200_49) (yI_iload_n zi_200_12 rfl <| yI_if_ne zi_200_13 <| yBr (yI_iconst zi_200_36 <| yI_goto zi_200_37 <| yI_istore_n (l := [some (.inr (.inr 122)), some (.inl x1), some (.inl 1), some (.inl x3)]) zi_200_41 rfl rfl <| yI_iinc (l := [some (.inr (.inr 122)), some (.inl x1), some (.inl 1), some (.inl (w32 (x3 + 1)))]) zi_200_42 rfl rfl rfl <| yI_goto zi_200_45 <| rfl) (yI_aload_n zi_200_16 rfl <| yI_gf_f (v := 138) zi_200_17 zk_122 rfl <| yI_iload_n zi_200_20 rfl <| yI_ialoadc (v := gI σ 138 x3.toNat) zi_200_21 za_138 rfl <| yI_iload_n zi_200_22 rfl <| yI_ic_ne zi_200_23 <| yBr (rfl) (yI_aload_n zi_200_26 rfl <| yI_gf_f (v := 136) zi_200_27 zk_122 rfl <| yI_iload_n zi_200_30 rfl <| yI_ialoadc (v := gI σ 136 x3.toNat) zi_200_31 za_136 rfl <| yI_iconst zi_200_32 <| yI_ic_eq zi_200_33 <| yBr (rfl) (yI_iconst zi_200_36 <| yI_goto zi_200_37 <| yI_istore_n (l := [some (.inr (.inr 122)), some (.inl x1), some (.inl 1), some (.inl x3)]) zi_200_41 rfl rfl <| yI_iinc (l := [some (.inr (.inr 122)), some (.inl x1), some (.inl 1), some (.inl (w32 (x3 + 1)))]) zi_200_42 rfl rfl rfl <| yI_goto zi_200_45 <| rfl))))
theorem zj_200_40 {K : List zF} {σ : zW} {x1 : Int} {o2 : Option zV} {x3 : Int} : zEv true ((200, 40, [some (.inr (.inr 122)), some (.inl x1), o2, some (.inl x3)], []) :: K) σ = (zEv true ((200, 4, [some (.inr (.inr 122)), some (.inl x1), some (.inl 0), some (.inl (w32 (x3 + 1)))], []) :: K) σ) :=
  yI_iconst zi_200_40 <| yI_istore_n (l := [some (.inr (.inr 122)), some (.inl x1), some (.inl 0), some (.inl x3)]) zi_200_41 rfl rfl <| yI_iinc (l := [some (.inr (.inr 122)), some (.inl x1), some (.inl 0), some (.inl (w32 (x3 + 1)))]) zi_200_42 rfl rfl rfl <| yI_goto zi_200_45 <| rfl
/-- 201 TreegrabModel.isSo(I)Z -/
theorem zi_201_0 : zraw 201 0 = some (.aload_n 0, 1) ∧ 0 + 1 = 1 := by decide +kernel
theorem zi_201_1 : zraw 201 1 = some (.getfield 63, 3) ∧ zft (zinf 201).1 63 = some (10, 27, 3, true) ∧ 1 + 3 = 4 := by decide +kernel
theorem zi_201_4 : zraw 201 4 = some (.iload_n 1, 1) ∧ 4 + 1 = 5 := by decide +kernel
theorem zi_201_5 : zraw 201 5 = some (.iaload, 1) ∧ 5 + 1 = 6 := by decide +kernel
theorem zi_201_6 : zraw 201 6 = some (.istore_n 2, 1) ∧ 6 + 1 = 7 := by decide +kernel
theorem zi_201_7 : zraw 201 7 = some (.aload_n 0, 1) ∧ 7 + 1 = 8 := by decide +kernel
theorem zi_201_8 : zraw 201 8 = some (.getfield 56, 3) ∧ zft (zinf 201).1 56 = some (10, 25, 3, true) ∧ 8 + 3 = 11 := by decide +kernel
theorem zi_201_11 : zraw 201 11 = some (.iload_n 1, 1) ∧ 11 + 1 = 12 := by decide +kernel
theorem zi_201_12 : zraw 201 12 = some (.iaload, 1) ∧ 12 + 1 = 13 := by decide +kernel
theorem zi_201_13 : zraw 201 13 = some (.iload_n 1, 1) ∧ 13 + 1 = 14 := by decide +kernel
theorem zi_201_14 : zraw 201 14 = some (.iconst 1, 1) ∧ zin 128 1 = true ∧ 14 + 1 = 15 := by decide +kernel
theorem zi_201_15 : zraw 201 15 = some (.iadd, 1) ∧ 15 + 1 = 16 := by decide +kernel
theorem zi_201_16 : zraw 201 16 = some (.if_icmp .ne 18, 3) ∧ ((16 : Nat) : Int) + 18 = Int.ofNat 34 ∧ 16 + 3 = 19 := by decide +kernel
theorem zi_201_19 : zraw 201 19 = some (.aload_n 0, 1) ∧ 19 + 1 = 20 := by decide +kernel
theorem zi_201_20 : zraw 201 20 = some (.getfield 66, 3) ∧ zft (zinf 201).1 66 = some (10, 28, 3, true) ∧ 20 + 3 = 23 := by decide +kernel
theorem zi_201_23 : zraw 201 23 = some (.iload_n 1, 1) ∧ 23 + 1 = 24 := by decide +kernel
theorem zi_201_24 : zraw 201 24 = some (.iaload, 1) ∧ 24 + 1 = 25 := by decide +kernel
theorem zi_201_25 : zraw 201 25 = some (.bipush 63, 2) ∧ zin 128 63 = true ∧ 25 + 2 = 27 := by decide +kernel
theorem zi_201_27 : zraw 201 27 = some (.if_icmp .ne 7, 3) ∧ ((27 : Nat) : Int) + 7 = Int.ofNat 34 ∧ 27 + 3 = 30 := by decide +kernel
theorem zi_201_30 : zraw 201 30 = some (.iconst 1, 1) ∧ zin 128 1 = true ∧ 30 + 1 = 31 := by decide +kernel
theorem zi_201_31 : zraw 201 31 = some (.goto 4, 3) ∧ ((31 : Nat) : Int) + 4 = Int.ofNat 35 := by decide +kernel
theorem zi_201_34 : zraw 201 34 = some (.iconst 0, 1) ∧ zin 128 0 = true ∧ 34 + 1 = 35 := by decide +kernel
theorem zi_201_35 : zraw 201 35 = some (.istore_n 3, 1) ∧ 35 + 1 = 36 := by decide +kernel
theorem zi_201_36 : zraw 201 36 = some (.aload_n 0, 1) ∧ 36 + 1 = 37 := by decide +kernel
theorem zi_201_37 : zraw 201 37 = some (.getfield 59, 3) ∧ zft (zinf 201).1 59 = some (10, 26, 3, true) ∧ 37 + 3 = 40 := by decide +kernel
theorem zi_201_40 : zraw 201 40 = some (.iload_n 2, 1) ∧ 40 + 1 = 41 := by decide +kernel
theorem zi_201_41 : zraw 201 41 = some (.baload, 1) ∧ 41 + 1 = 42 := by decide +kernel
theorem zi_201_42 : zraw 201 42 = some (.ifCond .ne 25, 3) ∧ ((42 : Nat) : Int) + 25 = Int.ofNat 67 ∧ 42 + 3 = 45 := by decide +kernel
theorem zi_201_45 : zraw 201 45 = some (.aload_n 0, 1) ∧ 45 + 1 = 46 := by decide +kernel
theorem zi_201_46 : zraw 201 46 = some (.getfield 56, 3) ∧ zft (zinf 201).1 56 = some (10, 25, 3, true) ∧ 46 + 3 = 49 := by decide +kernel
theorem zi_201_49 : zraw 201 49 = some (.iload_n 2, 1) ∧ 49 + 1 = 50 := by decide +kernel
theorem zi_201_50 : zraw 201 50 = some (.iaload, 1) ∧ 50 + 1 = 51 := by decide +kernel
theorem zi_201_51 : zraw 201 51 = some (.ifCond .le 18, 3) ∧ ((51 : Nat) : Int) + 18 = Int.ofNat 69 ∧ 51 + 3 = 54 := by decide +kernel
theorem zi_201_54 : zraw 201 54 = some (.aload_n 0, 1) ∧ 54 + 1 = 55 := by decide +kernel
theorem zi_201_55 : zraw 201 55 = some (.aload_n 0, 1) ∧ 55 + 1 = 56 := by decide +kernel
theorem zi_201_56 : zraw 201 56 = some (.getfield 56, 3) ∧ zft (zinf 201).1 56 = some (10, 25, 3, true) ∧ 56 + 3 = 59 := by decide +kernel
theorem zi_201_59 : zraw 201 59 = some (.iload_n 2, 1) ∧ 59 + 1 = 60 := by decide +kernel
theorem zi_201_60 : zraw 201 60 = some (.iaload, 1) ∧ 60 + 1 = 61 := by decide +kernel
theorem zi_201_61 : zraw 201 61 = some (.invokevirtual 437, 3) ∧ zmt (zinf 201).1 437 = some 199 ∧ Nat.ble 9000 199 = false ∧ zinf 199 = (10, 2, 4, 2, 0) ∧ 61 + 3 = 64 := by decide +kernel
theorem zi_201_64 : zraw 201 64 = some (.ifCond .ne 5, 3) ∧ ((64 : Nat) : Int) + 5 = Int.ofNat 69 ∧ 64 + 3 = 67 := by decide +kernel
theorem zi_201_67 : zraw 201 67 = some (.iconst 1, 1) ∧ zin 128 1 = true ∧ 67 + 1 = 68 := by decide +kernel
theorem zi_201_68 : zraw 201 68 = some (.ireturn, 1) ∧ (zinf 201).2.2.2.1 = 2 := by decide +kernel
theorem zi_201_69 : zraw 201 69 = some (.aload_n 0, 1) ∧ 69 + 1 = 70 := by decide +kernel
theorem zi_201_70 : zraw 201 70 = some (.iload_n 2, 1) ∧ 70 + 1 = 71 := by decide +kernel
theorem zi_201_71 : zraw 201 71 = some (.invokevirtual 440, 3) ∧ zmt (zinf 201).1 440 = some 195 ∧ Nat.ble 9000 195 = false ∧ zinf 195 = (10, 2, 2, 1, 0) ∧ 71 + 3 = 74 := by decide +kernel
theorem zi_201_74 : zraw 201 74 = some (.istore 4, 2) ∧ 74 + 2 = 76 := by decide +kernel
theorem zi_201_76 : zraw 201 76 = some (.aload_n 0, 1) ∧ 76 + 1 = 77 := by decide +kernel
theorem zi_201_77 : zraw 201 77 = some (.getfield 66, 3) ∧ zft (zinf 201).1 66 = some (10, 28, 3, true) ∧ 77 + 3 = 80 := by decide +kernel
theorem zi_201_80 : zraw 201 80 = some (.iload_n 1, 1) ∧ 80 + 1 = 81 := by decide +kernel
theorem zi_201_81 : zraw 201 81 = some (.iaload, 1) ∧ 81 + 1 = 82 := by decide +kernel
theorem zi_201_82 : zraw 201 82 = some (.bipush 33, 2) ∧ zin 128 33 = true ∧ 82 + 2 = 84 := by decide +kernel
theorem zi_201_84 : zraw 201 84 = some (.if_icmp .ne 19, 3) ∧ ((84 : Nat) : Int) + 19 = Int.ofNat 103 ∧ 84 + 3 = 87 := by decide +kernel
theorem zi_201_87 : zraw 201 87 = some (.aload_n 0, 1) ∧ 87 + 1 = 88 := by decide +kernel
theorem zi_201_88 : zraw 201 88 = some (.iload_n 1, 1) ∧ 88 + 1 = 89 := by decide +kernel
theorem zi_201_89 : zraw 201 89 = some (.iload 4, 2) ∧ 89 + 2 = 91 := by decide +kernel
theorem zi_201_91 : zraw 201 91 = some (.invokevirtual 434, 3) ∧ zmt (zinf 201).1 434 = some 197 ∧ Nat.ble 9000 197 = false ∧ zinf 197 = (10, 3, 5, 2, 0) ∧ 91 + 3 = 94 := by decide +kernel
theorem zi_201_94 : zraw 201 94 = some (.ifCond .ne 7, 3) ∧ ((94 : Nat) : Int) + 7 = Int.ofNat 101 ∧ 94 + 3 = 97 := by decide +kernel
theorem zi_201_97 : zraw 201 97 = some (.iconst 1, 1) ∧ zin 128 1 = true ∧ 97 + 1 = 98 := by decide +kernel
theorem zi_201_98 : zraw 201 98 = some (.goto 4, 3) ∧ ((98 : Nat) : Int) + 4 = Int.ofNat 102 := by decide +kernel
theorem zi_201_101 : zraw 201 101 = some (.iconst 0, 1) ∧ zin 128 0 = true ∧ 101 + 1 = 102 := by decide +kernel
theorem zi_201_102 : zraw 201 102 = some (.ireturn, 1) ∧ (zinf 201).2.2.2.1 = 2 := by decide +kernel
theorem zi_201_103 : zraw 201 103 = some (.iload_n 3, 1) ∧ 103 + 1 = 104 := by decide +kernel
theorem zi_201_104 : zraw 201 104 = some (.ifCond .eq 18, 3) ∧ ((104 : Nat) : Int) + 18 = Int.ofNat 122 ∧ 104 + 3 = 107 := by decide +kernel
theorem zi_201_107 : zraw 201 107 = some (.aload_n 0, 1) ∧ 107 + 1 = 108 := by decide +kernel
theorem zi_201_108 : zraw 201 108 = some (.aload_n 0, 1) ∧ 108 + 1 = 109 := by decide +kernel
theorem zi_201_109 : zraw 201 109 = some (.getfield 56, 3) ∧ zft (zinf 201).1 56 = some (10, 25, 3, true) ∧ 109 + 3 = 112 := by decide +kernel
theorem zi_201_112 : zraw 201 112 = some (.iload_n 1, 1) ∧ 112 + 1 = 113 := by decide +kernel
theorem zi_201_113 : zraw 201 113 = some (.iaload, 1) ∧ 113 + 1 = 114 := by decide +kernel
theorem zi_201_114 : zraw 201 114 = some (.invokevirtual 443, 3) ∧ zmt (zinf 201).1 443 = some 200 ∧ Nat.ble 9000 200 = false ∧ zinf 200 = (10, 2, 4, 2, 0) ∧ 114 + 3 = 117 := by decide +kernel
theorem zi_201_117 : zraw 201 117 = some (.ifCond .ne 5, 3) ∧ ((117 : Nat) : Int) + 5 = Int.ofNat 122 ∧ 117 + 3 = 120 := by decide +kernel
theorem zi_201_120 : zraw 201 120 = some (.iconst 1, 1) ∧ zin 128 1 = true ∧ 120 + 1 = 121 := by decide +kernel
theorem zi_201_121 : zraw 201 121 = some (.ireturn, 1) ∧ (zinf 201).2.2.2.1 = 2 := by decide +kernel
theorem zi_201_122 : zraw 201 122 = some (.iload_n 3, 1) ∧ 122 + 1 = 123 := by decide +kernel
theorem zi_201_123 : zraw 201 123 = some (.ifCond .eq 34, 3) ∧ ((123 : Nat) : Int) + 34 = Int.ofNat 157 ∧ 123 + 3 = 126 := by decide +kernel
theorem zi_201_126 : zraw 201 126 = some (.aload_n 0, 1) ∧ 126 + 1 = 127 := by decide +kernel
theorem zi_201_127 : zraw 201 127 = some (.aload_n 0, 1) ∧ 127 + 1 = 128 := by decide +kernel
theorem zi_201_128 : zraw 201 128 = some (.getfield 56, 3) ∧ zft (zinf 201).1 56 = some (10, 25, 3, true) ∧ 128 + 3 = 131 := by decide +kernel
theorem zi_201_131 : zraw 201 131 = some (.iload_n 1, 1) ∧ 131 + 1 = 132 := by decide +kernel
theorem zi_201_132 : zraw 201 132 = some (.iaload, 1) ∧ 132 + 1 = 133 := by decide +kernel
theorem zi_201_133 : zraw 201 133 = some (.invokevirtual 437, 3) ∧ zmt (zinf 201).1 437 = some 199 ∧ Nat.ble 9000 199 = false ∧ zinf 199 = (10, 2, 4, 2, 0) ∧ 133 + 3 = 136 := by decide +kernel
theorem zi_201_136 : zraw 201 136 = some (.ifCond .ne 21, 3) ∧ ((136 : Nat) : Int) + 21 = Int.ofNat 157 ∧ 136 + 3 = 139 := by decide +kernel
theorem zi_201_139 : zraw 201 139 = some (.aload_n 0, 1) ∧ 139 + 1 = 140 := by decide +kernel
theorem zi_201_140 : zraw 201 140 = some (.iload_n 1, 1) ∧ 140 + 1 = 141 := by decide +kernel
theorem zi_201_141 : zraw 201 141 = some (.iload 4, 2) ∧ 141 + 2 = 143 := by decide +kernel
theorem zi_201_143 : zraw 201 143 = some (.invokevirtual 434, 3) ∧ zmt (zinf 201).1 434 = some 197 ∧ Nat.ble 9000 197 = false ∧ zinf 197 = (10, 3, 5, 2, 0) ∧ 143 + 3 = 146 := by decide +kernel
theorem zi_201_146 : zraw 201 146 = some (.ifCond .ne 7, 3) ∧ ((146 : Nat) : Int) + 7 = Int.ofNat 153 ∧ 146 + 3 = 149 := by decide +kernel
theorem zi_201_149 : zraw 201 149 = some (.iconst 1, 1) ∧ zin 128 1 = true ∧ 149 + 1 = 150 := by decide +kernel
theorem zi_201_150 : zraw 201 150 = some (.goto 19, 3) ∧ ((150 : Nat) : Int) + 19 = Int.ofNat 169 := by decide +kernel
theorem zi_201_153 : zraw 201 153 = some (.iconst 0, 1) ∧ zin 128 0 = true ∧ 153 + 1 = 154 := by decide +kernel
theorem zi_201_154 : zraw 201 154 = some (.goto 15, 3) ∧ ((154 : Nat) : Int) + 15 = Int.ofNat 169 := by decide +kernel
theorem zi_201_157 : zraw 201 157 = some (.aload_n 0, 1) ∧ 157 + 1 = 158 := by decide +kernel
theorem zi_201_158 : zraw 201 158 = some (.iload_n 1, 1) ∧ 158 + 1 = 159 := by decide +kernel
theorem zi_201_159 : zraw 201 159 = some (.iload 4, 2) ∧ 159 + 2 = 161 := by decide +kernel
theorem zi_201_161 : zraw 201 161 = some (.aload_n 0, 1) ∧ 161 + 1 = 162 := by decide +kernel
theorem zi_201_162 : zraw 201 162 = some (.iload_n 1, 1) ∧ 162 + 1 = 163 := by decide +kernel
theorem zi_201_163 : zraw 201 163 = some (.invokevirtual 440, 3) ∧ zmt (zinf 201).1 440 = some 195 ∧ Nat.ble 9000 195 = false ∧ zinf 195 = (10, 2, 2, 1, 0) ∧ 163 + 3 = 166 := by decide +kernel
theorem zi_201_166 : zraw 201 166 = some (.invokevirtual 425, 3) ∧ zmt (zinf 201).1 425 = some 191 ∧ Nat.ble 9000 191 = false ∧ zinf 191 = (10, 4, 6, 2, 0) ∧ 166 + 3 = 169 := by decide +kernel
theorem zi_201_169 : zraw 201 169 = some (.ireturn, 1) ∧ (zinf 201).2.2.2.1 = 2 := by decide +kernel
theorem ze_201 {K : List zF} {σ : zW} {x1 : Int} (hK : K.length < 60) : zEv true (zent 201 [.inr (.inr 122), .inl x1] :: K) σ = ((0 ≤ x1 ∧ x1 < 8) ∧ ((0 ≤ x1 ∧ x1 < 8) ∧ (if ¬ (gI σ 138 x1.toNat) = (w32 (x1 + 1)) then zEv true ((201, 34, [some (.inr (.inr 122)), some (.inl x1), some (.inl (gI σ 140 x1.toNat)), none, none], []) :: K) σ else (0 ≤ x1 ∧ x1 < 8) ∧ (if ¬ (gI σ 141 x1.toNat) = 63 then zEv true ((201, 34, [some (.inr (.inr 122)), some (.inl x1), some (.inl (gI σ 140 x1.toNat)), none, none], []) :: K) σ else (0 ≤ (gI σ 140 x1.toNat) ∧ (gI σ 140 x1.toNat) < 8) ∧ (if ¬ (gI σ 139 ((gI σ 140 x1.toNat).toNat)) = 0 then zRet true K (some (.inl 1)) σ else (0 ≤ (gI σ 140 x1.toNat) ∧ (gI σ 140 x1.toNat) < 8) ∧ (if (gI σ 138 ((gI σ 140 x1.toNat).toNat)) ≤ 0 then zEv true ((201, 69, [some (.inr (.inr 122)), some (.inl x1), some (.inl (gI σ 140 x1.toNat)), some (.inl 1), none], []) :: K) σ else (0 ≤ (gI σ 140 x1.toNat) ∧ (gI σ 140 x1.toNat) < 8) ∧ zEv true (zent 199 [.inr (.inr 122), .inl (gI σ 138 ((gI σ 140 x1.toNat).toNat))] :: (201, 64, [some (.inr (.inr 122)), some (.inl x1), some (.inl (gI σ 140 x1.toNat)), some (.inl 1), none], []) :: K) σ)))))) :=
  yT_en (f := (201, 0, [some (.inr (.inr 122)), some (.inl x1), none, none, none], [])) rfl (yI_aload_n zi_201_0 rfl <| yI_gf_f (v := 140) zi_201_1 zk_122 rfl <| yI_iload_n zi_201_4 rfl <| yI_ialoadc (v := gI σ 140 x1.toNat) zi_201_5 za_140 rfl <| yI_istore_n (l := [some (.inr (.inr 122)), some (.inl x1), some (.inl (gI σ 140 x1.toNat)), none, none]) zi_201_6 rfl rfl <| yI_aload_n zi_201_7 rfl <| yI_gf_f (v := 138) zi_201_8 zk_122 rfl <| yI_iload_n zi_201_11 rfl <| yI_ialoadc (v := gI σ 138 x1.toNat) zi_201_12 za_138 rfl <| yI_iload_n zi_201_13 rfl <| yI_iconst zi_201_14 <| yI_iadd zi_201_15 <| yI_ic_ne zi_201_16 <| yBr (rfl) (yI_aload_n zi_201_19 rfl <| yI_gf_f (v := 141) zi_201_20 zk_122 rfl <| yI_iload_n zi_201_23 rfl <| yI_ialoadc (v := gI σ 141 x1.toNat) zi_201_24 za_141 rfl <| yI_bipush zi_201_25 <| yI_ic_ne zi_201_27 <| yBr (rfl) (yI_iconst zi_201_30 <| yI_goto zi_201_31 <| yI_istore_n (l := [some (.inr (.inr 122)), some (.inl x1), some (.inl (gI σ 140 x1.toNat)), some (.inl 1), none]) zi_201_35 rfl rfl <| yI_aload_n zi_201_36 rfl <| yI_gf_f (v := 139) zi_201_37 zk_122 rfl <| yI_iload_n zi_201_40 rfl <| yI_baloadc (v := gI σ 139 ((gI σ 140 x1.toNat).toNat)) zi_201_41 za_139 rfl <| yI_if_ne zi_201_42 <| yBr (yI_iconst zi_201_67 <| yI_zreturn zi_201_68 (by decide)) (yI_aload_n zi_201_45 rfl <| yI_gf_f (v := 138) zi_201_46 zk_122 rfl <| yI_iload_n zi_201_49 rfl <| yI_ialoadc (v := gI σ 138 ((gI σ 140 x1.toNat).toNat)) zi_201_50 za_138 rfl <| yI_if_le zi_201_51 <| yBr (rfl) (yI_aload_n zi_201_54 rfl <| yI_aload_n zi_201_55 rfl <| yI_gf_f (v := 138) zi_201_56 zk_122 rfl <| yI_iload_n zi_201_59 rfl <| yI_ialoadc (v := gI σ 138 ((gI σ 140 x1.toNat).toNat)) zi_201_60 za_138 rfl <| yI_cv zi_201_61 rfl rfl zk_122 hK)))))
theorem zj_201_34 {K : List zF} {σ : zW} {x1 : Int} {x2 : Int} {o3 : Option zV} {o4 : Option zV} (hK : K.length < 60) : zEv true ((201, 34, [some (.inr (.inr 122)), some (.inl x1), some (.inl x2), o3, o4], []) :: K) σ = ((0 ≤ x2 ∧ x2 < 8) ∧ (if ¬ (gI σ 139 x2.toNat) = 0 then zRet true K (some (.inl 1)) σ else (0 ≤ x2 ∧ x2 < 8) ∧ (if (gI σ 138 x2.toNat) ≤ 0 then zEv true ((201, 69, [some (.inr (.inr 122)), some (.inl x1), some (.inl x2), some (.inl 0), o4], []) :: K) σ else (0 ≤ x2 ∧ x2 < 8) ∧ zEv true (zent 199 [.inr (.inr 122), .inl (gI σ 138 x2.toNat)] :: (201, 64, [some (.inr (.inr 122)), some (.inl x1), some (.inl x2), some (.inl 0), o4], []) :: K) σ))) :=
  yI_iconst zi_201_34 <| yI_istore_n (l := [some (.inr (.inr 122)), some (.inl x1), some (.inl x2), some (.inl 0), o4]) zi_201_35 rfl rfl <| yI_aload_n zi_201_36 rfl <| yI_gf_f (v := 139) zi_201_37 zk_122 rfl <| yI_iload_n zi_201_40 rfl <| yI_baloadc (v := gI σ 139 x2.toNat) zi_201_41 za_139 rfl <| yI_if_ne zi_201_42 <| yBr (yI_iconst zi_201_67 <| yI_zreturn zi_201_68 (by decide)) (yI_aload_n zi_201_45 rfl <| yI_gf_f (v := 138) zi_201_46 zk_122 rfl <| yI_iload_n zi_201_49 rfl <| yI_ialoadc (v := gI σ 138 x2.toNat) zi_201_50 za_138 rfl <| yI_if_le zi_201_51 <| yBr (rfl) (yI_aload_n zi_201_54 rfl <| yI_aload_n zi_201_55 rfl <| yI_gf_f (v := 138) zi_201_56 zk_122 rfl <| yI_iload_n zi_201_59 rfl <| yI_ialoadc (v := gI σ 138 x2.toNat) zi_201_60 za_138 rfl <| yI_cv zi_201_61 rfl rfl zk_122 hK))
theorem zj_201_69 {K : List zF} {σ : zW} {x1 : Int} {x2 : Int} {x3 : Int} {o4 : Option zV} (hK : K.length < 60) : zEv true ((201, 69, [some (.inr (.inr 122)), some (.inl x1), some (.inl x2), some (.inl x3), o4], []) :: K) σ = (zEv true (zent 195 [.inr (.inr 122), .inl x2] :: (201, 74, [some (.inr (.inr 122)), some (.inl x1), some (.inl x2), some (.inl x3), o4], []) :: K) σ) :=
  yI_aload_n zi_201_69 rfl <| yI_iload_n zi_201_70 rfl <| yI_cv zi_201_71 rfl rfl zk_122 hK
theorem zr_201_64 {K : List zF} {σ : zW} {x1 : Int} {x2 : Int} {x3 : Int} {o4 : Option zV} {v : Int} : zRet true ((201, 64, [some (.inr (.inr 122)), some (.inl x1), some (.inl x2), some (.inl x3), o4], []) :: K) (some (.inl v)) σ = (if ¬ v = 0 then zEv true ((201, 69, [some (.inr (.inr 122)), some (.inl x1), some (.inl x2), some (.inl x3), o4], []) :: K) σ else zRet true K (some (.inl 1)) σ) :=
  yT_rt (yI_if_ne zi_201_64 <| yBr (rfl) (yI_iconst zi_201_67 <| yI_zreturn zi_201_68 (by decide)))
theorem zr_201_74 {K : List zF} {σ : zW} {x1 : Int} {o2 : Option zV} {x3 : Int} {o4 : Option zV} {v : Int} (hK : K.length < 60) : zRet true ((201, 74, [some (.inr (.inr 122)), some (.inl x1), o2, some (.inl x3), o4], []) :: K) (some (.inl v)) σ = ((0 ≤ x1 ∧ x1 < 8) ∧ (if ¬ (gI σ 141 x1.toNat) = 33 then if x3 = 0 then zEv true ((201, 122, [some (.inr (.inr 122)), some (.inl x1), o2, some (.inl x3), some (.inl v)], []) :: K) σ else (0 ≤ x1 ∧ x1 < 8) ∧ zEv true (zent 200 [.inr (.inr 122), .inl (gI σ 138 x1.toNat)] :: (201, 117, [some (.inr (.inr 122)), some (.inl x1), o2, some (.inl x3), some (.inl v)], []) :: K) σ else zEv true (zent 197 [.inr (.inr 122), .inl x1, .inl v] :: (201, 94, [some (.inr (.inr 122)), some (.inl x1), o2, some (.inl x3), some (.inl v)], []) :: K) σ)) :=
  yT_rt (yI_istore (l := [some (.inr (.inr 122)), some (.inl x1), o2, some (.inl x3), some (.inl v)]) zi_201_74 rfl rfl <| yI_aload_n zi_201_76 rfl <| yI_gf_f (v := 141) zi_201_77 zk_122 rfl <| yI_iload_n zi_201_80 rfl <| yI_ialoadc (v := gI σ 141 x1.toNat) zi_201_81 za_141 rfl <| yI_bipush zi_201_82 <| yI_ic_ne zi_201_84 <| yBr (yI_iload_n zi_201_103 rfl <| yI_if_eq zi_201_104 <| yBr (rfl) (yI_aload_n zi_201_107 rfl <| yI_aload_n zi_201_108 rfl <| yI_gf_f (v := 138) zi_201_109 zk_122 rfl <| yI_iload_n zi_201_112 rfl <| yI_ialoadc (v := gI σ 138 x1.toNat) zi_201_113 za_138 rfl <| yI_cv zi_201_114 rfl rfl zk_122 hK)) (yI_aload_n zi_201_87 rfl <| yI_iload_n zi_201_88 rfl <| yI_iload zi_201_89 rfl <| yI_cv zi_201_91 rfl rfl zk_122 hK))
theorem zj_201_122 {K : List zF} {σ : zW} {x1 : Int} {o2 : Option zV} {x3 : Int} {x4 : Int} (hK : K.length < 60) : zEv true ((201, 122, [some (.inr (.inr 122)), some (.inl x1), o2, some (.inl x3), some (.inl x4)], []) :: K) σ = (if x3 = 0 then zEv true ((201, 157, [some (.inr (.inr 122)), some (.inl x1), o2, some (.inl x3), some (.inl x4)], []) :: K) σ else (0 ≤ x1 ∧ x1 < 8) ∧ zEv true (zent 199 [.inr (.inr 122), .inl (gI σ 138 x1.toNat)] :: (201, 136, [some (.inr (.inr 122)), some (.inl x1), o2, some (.inl x3), some (.inl x4)], []) :: K) σ) :=
  yI_iload_n zi_201_122 rfl <| yI_if_eq zi_201_123 <| yBr (rfl) (yI_aload_n zi_201_126 rfl <| yI_aload_n zi_201_127 rfl <| yI_gf_f (v := 138) zi_201_128 zk_122 rfl <| yI_iload_n zi_201_131 rfl <| yI_ialoadc (v := gI σ 138 x1.toNat) zi_201_132 za_138 rfl <| yI_cv zi_201_133 rfl rfl zk_122 hK)
theorem zr_201_117 {K : List zF} {σ : zW} {x1 : Int} {o2 : Option zV} {x3 : Int} {x4 : Int} {v : Int} : zRet true ((201, 117, [some (.inr (.inr 122)), some (.inl x1), o2, some (.inl x3), some (.inl x4)], []) :: K) (some (.inl v)) σ = (if ¬ v = 0 then zEv true ((201, 122, [some (.inr (.inr 122)), some (.inl x1), o2, some (.inl x3), some (.inl x4)], []) :: K) σ else zRet true K (some (.inl 1)) σ) :=
  yT_rt (yI_if_ne zi_201_117 <| yBr (rfl) (yI_iconst zi_201_120 <| yI_zreturn zi_201_121 (by decide)))
theorem zr_201_94 {K : List zF} {σ : zW} {o0 : Option zV} {o1 : Option zV} {o2 : Option zV} {o3 : Option zV} {o4 : Option zV} {v : Int} : zRet true ((201, 94, [o0, o1, o2, o3, o4], []) :: K) (some (.inl v)) σ = (if ¬ v = 0 then zRet true K (some (.inl 0)) σ else zRet true K (some (.inl 1)) σ) :=
  yT_rt (yI_if_ne zi_201_94 <| yBr (yI_iconst zi_201_101 <| yI_zreturn zi_201_102 (by decide)) (yI_iconst zi_201_97 <| yI_goto zi_201_98 <| yI_zreturn zi_201_102 (by decide)))
theorem zj_201_157 {K : List zF} {σ : zW} {x1 : Int} {o2 : Option zV} {o3 : Option zV} {x4 : Int} (hK : K.length < 60) : zEv true ((201, 157, [some (.inr (.inr 122)), some (.inl x1), o2, o3, some (.inl x4)], []) :: K) σ = (zEv true (zent 195 [.inr (.inr 122), .inl x1] :: (201, 166, [some (.inr (.inr 122)), some (.inl x1), o2, o3, some (.inl x4)], [.inl x4, .inl x1, .inr (.inr 122)]) :: K) σ) :=
  yI_aload_n zi_201_157 rfl <| yI_iload_n zi_201_158 rfl <| yI_iload zi_201_159 rfl <| yI_aload_n zi_201_161 rfl <| yI_iload_n zi_201_162 rfl <| yI_cv zi_201_163 rfl rfl zk_122 hK
theorem zr_201_136 {K : List zF} {σ : zW} {x1 : Int} {o2 : Option zV} {o3 : Option zV} {x4 : Int} {v : Int} (hK : K.length < 60) : zRet true ((201, 136, [some (.inr (.inr 122)), some (.inl x1), o2, o3, some (.inl x4)], []) :: K) (some (.inl v)) σ = (if ¬ v = 0 then zEv true ((201, 157, [some (.inr (.inr 122)), some (.inl x1), o2, o3, some (.inl x4)], []) :: K) σ else zEv true (zent 197 [.inr (.inr 122), .inl x1, .inl x4] :: (201, 146, [some (.inr (.inr 122)), some (.inl x1), o2, o3, some (.inl x4)], []) :: K) σ) :=
  yT_rt (yI_if_ne zi_201_136 <| yBr (rfl) (yI_aload_n zi_201_139 rfl <| yI_iload_n zi_201_140 rfl <| yI_iload zi_201_141 rfl <| yI_cv zi_201_143 rfl rfl zk_122 hK))
theorem zr_201_166 {K : List zF} {σ : zW} {o0 : Option zV} {o1 : Option zV} {o2 : Option zV} {o3 : Option zV} {o4 : Option zV} {s0 : Int} {s1 : Int} {v : Int} (hK : K.length < 60) : zRet true ((201, 166, [o0, o1, o2, o3, o4], [.inl s0, .inl s1, .inr (.inr 122)]) :: K) (some (.inl v)) σ = (zEv true (zent 191 [.inr (.inr 122), .inl s1, .inl s0, .inl v] :: (201, 169, [o0, o1, o2, o3, o4], []) :: K) σ) :=
  yT_rt (yI_cv zi_201_166 rfl rfl zk_122 hK)
theorem zr_201_146 {K : List zF} {σ : zW} {o0 : Option zV} {o1 : Option zV} {o2 : Option zV} {o3 : Option zV} {o4 : Option zV} {v : Int} : zRet true ((201, 146, [o0, o1, o2, o3, o4], []) :: K) (some (.inl v)) σ = (if ¬ v = 0 then zRet true K (some (.inl 0)) σ else zRet true K (some (.inl 1)) σ) :=
  yT_rt (yI_if_ne zi_201_146 <| yBr (yI_iconst zi_201_153 <| yI_goto zi_201_154 <| yI_zreturn zi_201_169 (by decide)) (yI_iconst zi_201_149 <| yI_goto zi_201_150 <| yI_zreturn zi_201_169 (by decide)))
theorem zr_201_169 {K : List zF} {σ : zW} {o0 : Option zV} {o1 : Option zV} {o2 : Option zV} {o3 : Option zV} {o4 : Option zV} {v : Int} : zRet true ((201, 169, [o0, o1, o2, o3, o4], []) :: K) (some (.inl v)) σ = ((v = 0 ∨ v = 1) ∧ zRet true K (some (.inl v)) σ) :=
  yT_rt (yI_zreturnc zi_201_169)
/-- 202 TreegrabModel.isMatch()Z -/
theorem zi_202_0 : zraw 202 0 = some (.aload_n 0, 1) ∧ 0 + 1 = 1 := by decide +kernel
theorem zi_202_1 : zraw 202 1 = some (.invokevirtual 446, 3) ∧ zmt (zinf 202).1 446 = some 198 ∧ Nat.ble 9000 198 = false ∧ zinf 198 = (10, 1, 5, 0, 0) ∧ 1 + 3 = 4 := by decide +kernel
theorem zi_202_4 : zraw 202 4 = some (.iconst 1, 1) ∧ zin 128 1 = true ∧ 4 + 1 = 5 := by decide +kernel
theorem zi_202_5 : zraw 202 5 = some (.istore_n 1, 1) ∧ 5 + 1 = 6 := by decide +kernel
theorem zi_202_6 : zraw 202 6 = some (.iconst 1, 1) ∧ zin 128 1 = true ∧ 6 + 1 = 7 := by decide +kernel
theorem zi_202_7 : zraw 202 7 = some (.istore_n 2, 1) ∧ 7 + 1 = 8 := by decide +kernel
theorem zi_202_8 : zraw 202 8 = some (.iload_n 2, 1) ∧ 8 + 1 = 9 := by decide +kernel
theorem zi_202_9 : zraw 202 9 = some (.aload_n 0, 1) ∧ 9 + 1 = 10 := by decide +kernel
theorem zi_202_10 : zraw 202 10 = some (.getfield 306, 3) ∧ zft (zinf 202).1 306 = some (10, 18, 0, false) ∧ 10 + 3 = 13 := by decide +kernel
theorem zi_202_13 : zraw 202 13 = some (.if_icmp .ge 19, 3) ∧ ((13 : Nat) : Int) + 19 = Int.ofNat 32 ∧ 13 + 3 = 16 := by decide +kernel
theorem zi_202_16 : zraw 202 16 = some (.iload_n 1, 1) ∧ 16 + 1 = 17 := by decide +kernel
theorem zi_202_17 : zraw 202 17 = some (.ifCond .eq 15, 3) ∧ ((17 : Nat) : Int) + 15 = Int.ofNat 32 ∧ 17 + 3 = 20 := by decide +kernel
theorem zi_202_20 : zraw 202 20 = some (.aload_n 0, 1) ∧ 20 + 1 = 21 := by decide +kernel
theorem zi_202_21 : zraw 202 21 = some (.iload_n 2, 1) ∧ 21 + 1 = 22 := by decide +kernel
theorem zi_202_22 : zraw 202 22 = some (.invokevirtual 449, 3) ∧ zmt (zinf 202).1 449 = some 201 ∧ Nat.ble 9000 201 = false ∧ zinf 201 = (10, 2, 5, 2, 0) ∧ 22 + 3 = 25 := by decide +kernel
theorem zi_202_25 : zraw 202 25 = some (.istore_n 1, 1) ∧ 25 + 1 = 26 := by decide +kernel
theorem zi_202_26 : zraw 202 26 = some (.iinc 2 1, 3) ∧ zin 32768 1 = true ∧ 26 + 3 = 29 := by decide +kernel
theorem zi_202_29 : zraw 202 29 = some (.goto (-21), 3) ∧ ((29 : Nat) : Int) + (-21) = Int.ofNat 8 := by decide +kernel
theorem zi_202_32 : zraw 202 32 = some (.iload_n 1, 1) ∧ 32 + 1 = 33 := by decide +kernel
theorem zi_202_33 : zraw 202 33 = some (.ireturn, 1) ∧ (zinf 202).2.2.2.1 = 2 := by decide +kernel
theorem ze_202 {K : List zF} {σ : zW} (hK : K.length < 60) : zEv true (zent 202 [.inr (.inr 122)] :: K) σ = (zEv true (zent 198 [.inr (.inr 122)] :: (202, 4, [some (.inr (.inr 122)), none, none], []) :: K) σ) :=
  yT_en (f := (202, 0, [some (.inr (.inr 122)), none, none], [])) rfl (yI_aload_n zi_202_0 rfl <| yI_cv zi_202_1 rfl rfl zk_122 hK)
theorem zr_202_4 {K : List zF} {σ : zW} {o1 : Option zV} {o2 : Option zV} : zRet true ((202, 4, [some (.inr (.inr 122)), o1, o2], []) :: K) none σ = (zEv true ((202, 8, [some (.inr (.inr 122)), some (.inl 1), some (.inl 1)], []) :: K) σ) :=
  yT_rv (yI_iconst zi_202_4 <| yI_istore_n (l := [some (.inr (.inr 122)), some (.inl 1), o2]) zi_202_5 rfl rfl <| yI_iconst zi_202_6 <| yI_istore_n (l := [some (.inr (.inr 122)), some (.inl 1), some (.inl 1)]) zi_202_7 rfl rfl <| rfl)
theorem zj_202_8 {K : List zF} {σ : zW} {x1 : Int} {x2 : Int} (hK : K.length < 60) : zEv true ((202, 8, [some (.inr (.inr 122)), some (.inl x1), some (.inl x2)], []) :: K) σ = (if (gI σ 122 18) ≤ x2 then (x1 = 0 ∨ x1 = 1) ∧ zRet true K (some (.inl x1)) σ else if x1 = 0 then (x1 = 0 ∨ x1 = 1) ∧ zRet true K (some (.inl x1)) σ else zEv true (zent 201 [.inr (.inr 122), .inl x2] :: (202, 25, [some (.inr (.inr 122)), some (.inl x1), some (.inl x2)], []) :: K) σ) :=
  yI_iload_n zi_202_8 rfl <| yI_aload_n zi_202_9 rfl <| yI_gf_i (v := gI σ 122 18) zi_202_10 zk_122 rfl <| yI_ic_ge zi_202_13 <| yBr (yI_iload_n zi_202_32 rfl <| yI_zreturnc zi_202_33) (yI_iload_n zi_202_16 rfl <| yI_if_eq zi_202_17 <| yBr (yI_iload_n zi_202_32 rfl <| yI_zreturnc zi_202_33) (yI_aload_n zi_202_20 rfl <| yI_iload_n zi_202_21 rfl <| yI_cv zi_202_22 rfl rfl zk_122 hK))
theorem zr_202_25 {K : List zF} {σ : zW} {o1 : Option zV} {x2 : Int} {v : Int} : zRet true ((202, 25, [some (.inr (.inr 122)), o1, some (.inl x2)], []) :: K) (some (.inl v)) σ = (zEv true ((202, 8, [some (.inr (.inr 122)), some (.inl v), some (.inl (w32 (x2 + 1)))], []) :: K) σ) :=
  yT_rt (yI_istore_n (l := [some (.inr (.inr 122)), some (.inl v), some (.inl x2)]) zi_202_25 rfl rfl <| yI_iinc (l := [some (.inr (.inr 122)), some (.inl v), some (.inl (w32 (x2 + 1)))]) zi_202_26 rfl rfl rfl <| yI_goto zi_202_29 <| rfl)
/-- 203 TreegrabModel.can(I)Z -/
theorem zi_203_0 : zraw 203 0 = some (.aload_n 0, 1) ∧ 0 + 1 = 1 := by decide +kernel
theorem zi_203_1 : zraw 203 1 = some (.getfield 78, 3) ∧ zft (zinf 203).1 78 = some (10, 33, 3, true) ∧ 1 + 3 = 4 := by decide +kernel
theorem zi_203_4 : zraw 203 4 = some (.iload_n 1, 1) ∧ 4 + 1 = 5 := by decide +kernel
theorem zi_203_5 : zraw 203 5 = some (.iaload, 1) ∧ 5 + 1 = 6 := by decide +kernel
theorem zi_203_6 : zraw 203 6 = some (.istore_n 2, 1) ∧ 6 + 1 = 7 := by decide +kernel
theorem zi_203_7 : zraw 203 7 = some (.aload_n 0, 1) ∧ 7 + 1 = 8 := by decide +kernel
theorem zi_203_8 : zraw 203 8 = some (.getfield 169, 3) ∧ zft (zinf 203).1 169 = some (10, 70, 3, true) ∧ 8 + 3 = 11 := by decide +kernel
theorem zi_203_11 : zraw 203 11 = some (.iload_n 2, 1) ∧ 11 + 1 = 12 := by decide +kernel
theorem zi_203_12 : zraw 203 12 = some (.iaload, 1) ∧ 12 + 1 = 13 := by decide +kernel
theorem zi_203_13 : zraw 203 13 = some (.istore_n 3, 1) ∧ 13 + 1 = 14 := by decide +kernel
theorem zi_203_14 : zraw 203 14 = some (.iconst 1, 1) ∧ zin 128 1 = true ∧ 14 + 1 = 15 := by decide +kernel
theorem zi_203_15 : zraw 203 15 = some (.istore 4, 2) ∧ 15 + 2 = 17 := by decide +kernel
theorem zi_203_17 : zraw 203 17 = some (.iconst 0, 1) ∧ zin 128 0 = true ∧ 17 + 1 = 18 := by decide +kernel
theorem zi_203_18 : zraw 203 18 = some (.istore 5, 2) ∧ 18 + 2 = 20 := by decide +kernel
theorem zi_203_20 : zraw 203 20 = some (.iload 5, 2) ∧ 20 + 2 = 22 := by decide +kernel
theorem zi_203_22 : zraw 203 22 = some (.iload_n 1, 1) ∧ 22 + 1 = 23 := by decide +kernel
theorem zi_203_23 : zraw 203 23 = some (.if_icmp .ge 84, 3) ∧ ((23 : Nat) : Int) + 84 = Int.ofNat 107 ∧ 23 + 3 = 26 := by decide +kernel
theorem zi_203_26 : zraw 203 26 = some (.aload_n 0, 1) ∧ 26 + 1 = 27 := by decide +kernel
theorem zi_203_27 : zraw 203 27 = some (.getfield 78, 3) ∧ zft (zinf 203).1 78 = some (10, 33, 3, true) ∧ 27 + 3 = 30 := by decide +kernel
theorem zi_203_30 : zraw 203 30 = some (.iload 5, 2) ∧ 30 + 2 = 32 := by decide +kernel
theorem zi_203_32 : zraw 203 32 = some (.iaload, 1) ∧ 32 + 1 = 33 := by decide +kernel
theorem zi_203_33 : zraw 203 33 = some (.istore 6, 2) ∧ 33 + 2 = 35 := by decide +kernel
theorem zi_203_35 : zraw 203 35 = some (.iload 4, 2) ∧ 35 + 2 = 37 := by decide +kernel
theorem zi_203_37 : zraw 203 37 = some (.ifCond .eq 61, 3) ∧ ((37 : Nat) : Int) + 61 = Int.ofNat 98 ∧ 37 + 3 = 40 := by decide +kernel
theorem zi_203_40 : zraw 203 40 = some (.aload_n 0, 1) ∧ 40 + 1 = 41 := by decide +kernel
theorem zi_203_41 : zraw 203 41 = some (.getfield 56, 3) ∧ zft (zinf 203).1 56 = some (10, 25, 3, true) ∧ 41 + 3 = 44 := by decide +kernel
theorem zi_203_44 : zraw 203 44 = some (.iload_n 2, 1) ∧ 44 + 1 = 45 := by decide +kernel
theorem zi_203_45 : zraw 203 45 = some (.iaload, 1) ∧ 45 + 1 = 46 := by decide +kernel
theorem zi_203_46 : zraw 203 46 = some (.ifCond .eq 48, 3) ∧ ((46 : Nat) : Int) + 48 = Int.ofNat 94 ∧ 46 + 3 = 49 := by decide +kernel
theorem zi_203_49 : zraw 203 49 = some (.aload_n 0, 1) ∧ 49 + 1 = 50 := by decide +kernel
theorem zi_203_50 : zraw 203 50 = some (.getfield 56, 3) ∧ zft (zinf 203).1 56 = some (10, 25, 3, true) ∧ 50 + 3 = 53 := by decide +kernel
theorem zi_203_53 : zraw 203 53 = some (.iload 6, 2) ∧ 53 + 2 = 55 := by decide +kernel
theorem zi_203_55 : zraw 203 55 = some (.iaload, 1) ∧ 55 + 1 = 56 := by decide +kernel
theorem zi_203_56 : zraw 203 56 = some (.aload_n 0, 1) ∧ 56 + 1 = 57 := by decide +kernel
theorem zi_203_57 : zraw 203 57 = some (.getfield 56, 3) ∧ zft (zinf 203).1 56 = some (10, 25, 3, true) ∧ 57 + 3 = 60 := by decide +kernel
theorem zi_203_60 : zraw 203 60 = some (.iload_n 2, 1) ∧ 60 + 1 = 61 := by decide +kernel
theorem zi_203_61 : zraw 203 61 = some (.iaload, 1) ∧ 61 + 1 = 62 := by decide +kernel
theorem zi_203_62 : zraw 203 62 = some (.if_icmp .ne 32, 3) ∧ ((62 : Nat) : Int) + 32 = Int.ofNat 94 ∧ 62 + 3 = 65 := by decide +kernel
theorem zi_203_65 : zraw 203 65 = some (.aload_n 0, 1) ∧ 65 + 1 = 66 := by decide +kernel
theorem zi_203_66 : zraw 203 66 = some (.getfield 169, 3) ∧ zft (zinf 203).1 169 = some (10, 70, 3, true) ∧ 66 + 3 = 69 := by decide +kernel
theorem zi_203_69 : zraw 203 69 = some (.iload 6, 2) ∧ 69 + 2 = 71 := by decide +kernel
theorem zi_203_71 : zraw 203 71 = some (.iaload, 1) ∧ 71 + 1 = 72 := by decide +kernel
theorem zi_203_72 : zraw 203 72 = some (.iconst (-1), 1) ∧ zin 128 (-1) = true ∧ 72 + 1 = 73 := by decide +kernel
theorem zi_203_73 : zraw 203 73 = some (.if_icmp .ne 7, 3) ∧ ((73 : Nat) : Int) + 7 = Int.ofNat 80 ∧ 73 + 3 = 76 := by decide +kernel
theorem zi_203_76 : zraw 203 76 = some (.iconst 1, 1) ∧ zin 128 1 = true ∧ 76 + 1 = 77 := by decide +kernel
theorem zi_203_77 : zraw 203 77 = some (.goto 4, 3) ∧ ((77 : Nat) : Int) + 4 = Int.ofNat 81 := by decide +kernel
theorem zi_203_80 : zraw 203 80 = some (.iconst 0, 1) ∧ zin 128 0 = true ∧ 80 + 1 = 81 := by decide +kernel
theorem zi_203_81 : zraw 203 81 = some (.iload_n 3, 1) ∧ 81 + 1 = 82 := by decide +kernel
theorem zi_203_82 : zraw 203 82 = some (.iconst (-1), 1) ∧ zin 128 (-1) = true ∧ 82 + 1 = 83 := by decide +kernel
theorem zi_203_83 : zraw 203 83 = some (.if_icmp .ne 7, 3) ∧ ((83 : Nat) : Int) + 7 = Int.ofNat 90 ∧ 83 + 3 = 86 := by decide +kernel
theorem zi_203_86 : zraw 203 86 = some (.iconst 1, 1) ∧ zin 128 1 = true ∧ 86 + 1 = 87 := by decide +kernel
theorem zi_203_87 : zraw 203 87 = some (.goto 4, 3) ∧ ((87 : Nat) : Int) + 4 = Int.ofNat 91 := by decide +kernel
theorem zi_203_90 : zraw 203 90 = some (.iconst 0, 1) ∧ zin 128 0 = true ∧ 90 + 1 = 91 := by decide +kernel
theorem zi_203_91 : zraw 203 91 = some (.if_icmp .ne 7, 3) ∧ ((91 : Nat) : Int) + 7 = Int.ofNat 98 ∧ 91 + 3 = 94 := by decide +kernel
theorem zi_203_94 : zraw 203 94 = some (.iconst 1, 1) ∧ zin 128 1 = true ∧ 94 + 1 = 95 := by decide +kernel
theorem zi_203_95 : zraw 203 95 = some (.goto 4, 3) ∧ ((95 : Nat) : Int) + 4 = Int.ofNat 99 := by decide +kernel
theorem zi_203_98 : zraw 203 98 = some (.iconst 0, 1) ∧ zin 128 0 = true ∧ 98 + 1 = 99 := by decide +kernel
theorem zi_203_99 : zraw 203 99 = some (.istore 4, 2) ∧ 99 + 2 = 101 := by decide +kernel
theorem zi_203_101 : zraw 203 101 = some (.iinc 5 1, 3) ∧ zin 32768 1 = true ∧ 101 + 3 = 104 := by decide +kernel
theorem zi_203_104 : zraw 203 104 = some (.goto (-84), 3) ∧ ((104 : Nat) : Int) + (-84) = Int.ofNat 20 := by decide +kernel
theorem zi_203_107 : zraw 203 107 = some (.iload 4, 2) ∧ 107 + 2 = 109 := by decide +kernel
theorem zi_203_109 : zraw 203 109 = some (.ifCond .eq 8, 3) ∧ ((109 : Nat) : Int) + 8 = Int.ofNat 117 ∧ 109 + 3 = 112 := by decide +kernel
theorem zi_203_112 : zraw 203 112 = some (.iload_n 3, 1) ∧ 112 + 1 = 113 := by decide +kernel
theorem zi_203_113 : zraw 203 113 = some (.iconst (-1), 1) ∧ zin 128 (-1) = true ∧ 113 + 1 = 114 := by decide +kernel
theorem zi_203_114 : zraw 203 114 = some (.if_icmp .ne 6, 3) ∧ ((114 : Nat) : Int) + 6 = Int.ofNat 120 ∧ 114 + 3 = 117 := by decide +kernel
theorem zi_203_117 : zraw 203 117 = some (.iload 4, 2) ∧ 117 + 2 = 119 := by decide +kernel
theorem zi_203_119 : zraw 203 119 = some (.ireturn, 1) ∧ (zinf 203).2.2.2.1 = 2 := by decide +kernel
theorem zi_203_120 : zraw 203 120 = some (.aload_n 0, 1) ∧ 120 + 1 = 121 := by decide +kernel
theorem zi_203_121 : zraw 203 121 = some (.iload_n 2, 1) ∧ 121 + 1 = 122 := by decide +kernel
theorem zi_203_122 : zraw 203 122 = some (.iload_n 3, 1) ∧ 122 + 1 = 123 := by decide +kernel
theorem zi_203_123 : zraw 203 123 = some (.invokevirtual 431, 3) ∧ zmt (zinf 203).1 431 = some 194 ∧ Nat.ble 9000 194 = false ∧ zinf 194 = (10, 3, 3, 2, 0) ∧ 123 + 3 = 126 := by decide +kernel
theorem zi_203_126 : zraw 203 126 = some (.ifCond .eq 30, 3) ∧ ((126 : Nat) : Int) + 30 = Int.ofNat 156 ∧ 126 + 3 = 129 := by decide +kernel
theorem zi_203_129 : zraw 203 129 = some (.iload_n 2, 1) ∧ 129 + 1 = 130 := by decide +kernel
theorem zi_203_130 : zraw 203 130 = some (.ifCond .eq 22, 3) ∧ ((130 : Nat) : Int) + 22 = Int.ofNat 152 ∧ 130 + 3 = 133 := by decide +kernel
theorem zi_203_133 : zraw 203 133 = some (.aload_n 0, 1) ∧ 133 + 1 = 134 := by decide +kernel
theorem zi_203_134 : zraw 203 134 = some (.iload_n 2, 1) ∧ 134 + 1 = 135 := by decide +kernel
theorem zi_203_135 : zraw 203 135 = some (.aload_n 0, 1) ∧ 135 + 1 = 136 := by decide +kernel
theorem zi_203_136 : zraw 203 136 = some (.aload_n 0, 1) ∧ 136 + 1 = 137 := by decide +kernel
theorem zi_203_137 : zraw 203 137 = some (.getfield 63, 3) ∧ zft (zinf 203).1 63 = some (10, 27, 3, true) ∧ 137 + 3 = 140 := by decide +kernel
theorem zi_203_140 : zraw 203 140 = some (.iload_n 2, 1) ∧ 140 + 1 = 141 := by decide +kernel
theorem zi_203_141 : zraw 203 141 = some (.iaload, 1) ∧ 141 + 1 = 142 := by decide +kernel
theorem zi_203_142 : zraw 203 142 = some (.invokevirtual 440, 3) ∧ zmt (zinf 203).1 440 = some 195 ∧ Nat.ble 9000 195 = false ∧ zinf 195 = (10, 2, 2, 1, 0) ∧ 142 + 3 = 145 := by decide +kernel
theorem zi_203_145 : zraw 203 145 = some (.iload_n 3, 1) ∧ 145 + 1 = 146 := by decide +kernel
theorem zi_203_146 : zraw 203 146 = some (.invokevirtual 425, 3) ∧ zmt (zinf 203).1 425 = some 191 ∧ Nat.ble 9000 191 = false ∧ zinf 191 = (10, 4, 6, 2, 0) ∧ 146 + 3 = 149 := by decide +kernel
theorem zi_203_149 : zraw 203 149 = some (.ifCond .eq 7, 3) ∧ ((149 : Nat) : Int) + 7 = Int.ofNat 156 ∧ 149 + 3 = 152 := by decide +kernel
theorem zi_203_152 : zraw 203 152 = some (.iconst 1, 1) ∧ zin 128 1 = true ∧ 152 + 1 = 153 := by decide +kernel
theorem zi_203_153 : zraw 203 153 = some (.goto 4, 3) ∧ ((153 : Nat) : Int) + 4 = Int.ofNat 157 := by decide +kernel
theorem zi_203_156 : zraw 203 156 = some (.iconst 0, 1) ∧ zin 128 0 = true ∧ 156 + 1 = 157 := by decide +kernel
theorem zi_203_157 : zraw 203 157 = some (.ireturn, 1) ∧ (zinf 203).2.2.2.1 = 2 := by decide +kernel
theorem ze_203 {K : List zF} {σ : zW} {x1 : Int} : zEv true (zent 203 [.inr (.inr 122), .inl x1] :: K) σ = ((0 ≤ x1 ∧ x1 < 4) ∧ ((0 ≤ (gI σ 145 x1.toNat) ∧ (gI σ 145 x1.toNat) < 8) ∧ zEv true ((203, 20, [some (.inr (.inr 122)), some (.inl x1), some (.inl (gI σ 145 x1.toNat)), some (.inl (gI σ 174 ((gI σ 145 x1.toNat).toNat))), some (.inl 1), some (.inl 0), none], []) :: K) σ)) :=
  yT_en (f := (203, 0, [some (.inr (.inr 122)), some (.inl x1), none, none, none, none, none], [])) rfl (yI_aload_n zi_203_0 rfl <| yI_gf_f (v := 145) zi_203_1 zk_122 rfl <| yI_iload_n zi_203_4 rfl <| yI_ialoadc (v := gI σ 145 x1.toNat) zi_203_5 za_145 rfl <| yI_istore_n (l := [some (.inr (.inr 122)), some (.inl x1), some (.inl (gI σ 145 x1.toNat)), none, none, none, none]) zi_203_6 rfl rfl <| yI_aload_n zi_203_7 rfl <| yI_gf_f (v := 174) zi_203_8 zk_122 rfl <| yI_iload_n zi_203_11 rfl <| yI_ialoadc (v := gI σ 174 ((gI σ 145 x1.toNat).toNat)) zi_203_12 za_174 rfl <| yI_istore_n (l := [some (.inr (.inr 122)), some (.inl x1), some (.inl (gI σ 145 x1.toNat)), some (.inl (gI σ 174 ((gI σ 145 x1.toNat).toNat))), none, none, none]) zi_203_13 rfl rfl <| yI_iconst zi_203_14 <| yI_istore (l := [some (.inr (.inr 122)), some (.inl x1), some (.inl (gI σ 145 x1.toNat)), some (.inl (gI σ 174 ((gI σ 145 x1.toNat).toNat))), some (.inl 1), none, none]) zi_203_15 rfl rfl <| yI_iconst zi_203_17 <| yI_istore (l := [some (.inr (.inr 122)), some (.inl x1), some (.inl (gI σ 145 x1.toNat)), some (.inl (gI σ 174 ((gI σ 145 x1.toNat).toNat))), some (.inl 1), some (.inl 0), none]) zi_203_18 rfl rfl <| rfl)
theorem zj_203_20 {K : List zF} {σ : zW} {x1 : Int} {x2 : Int} {x3 : Int} {x4 : Int} {x5 : Int} {o6 : Option zV} (hK : K.length < 60) : zEv true ((203, 20, [some (.inr (.inr 122)), some (.inl x1), some (.inl x2), some (.inl x3), some (.inl x4), some (.inl x5), o6], []) :: K) σ = (if x1 ≤ x5 then if x4 = 0 then (x4 = 0 ∨ x4 = 1) ∧ zRet true K (some (.inl x4)) σ else if ¬ x3 = (-1) then zEv true (zent 194 [.inr (.inr 122), .inl x2, .inl x3] :: (203, 126, [some (.inr (.inr 122)), some (.inl x1), some (.inl x2), some (.inl x3), some (.inl x4), some (.inl x5), o6], []) :: K) σ else (x4 = 0 ∨ x4 = 1) ∧ zRet true K (some (.inl x4)) σ else (0 ≤ x5 ∧ x5 < 4) ∧ (if x4 = 0 then zEv true ((203, 98, [some (.inr (.inr 122)), some (.inl x1), some (.inl x2), some (.inl x3), some (.inl x4), some (.inl x5), some (.inl (gI σ 145 x5.toNat))], []) :: K) σ else (0 ≤ x2 ∧ x2 < 8) ∧ (if (gI σ 138 x2.toNat) = 0 then zEv true ((203, 20, [some (.inr (.inr 122)), some (.inl x1), some (.inl x2), some (.inl x3), some (.inl 1), some (.inl (w32 (x5 + 1))), some (.inl (gI σ 145 x5.toNat))], []) :: K) σ else (0 ≤ (gI σ 145 x5.toNat) ∧ (gI σ 145 x5.toNat) < 8) ∧ ((0 ≤ x2 ∧ x2 < 8) ∧ (if ¬ (gI σ 138 ((gI σ 145 x5.toNat).toNat)) = (gI σ 138 x2.toNat) then zEv true ((203, 20, [some (.inr (.inr 122)), some (.inl x1), some (.inl x2), some (.inl x3), some (.inl 1), some (.inl (w32 (x5 + 1))), some (.inl (gI σ 145 x5.toNat))], []) :: K) σ else (0 ≤ (gI σ 145 x5.toNat) ∧ (gI σ 145 x5.toNat) < 8) ∧ (if ¬ (if ¬ (gI σ 174 ((gI σ 145 x5.toNat).toNat)) = (-1) then 0 else 1 : Int) = (if ¬ x3 = (-1) then 0 else 1 : Int) then zEv true ((203, 98, [some (.inr (.inr 122)), some (.inl x1), some (.inl x2), some (.inl x3), some (.inl x4), some (.inl x5), some (.inl (gI σ 145 x5.toNat))], []) :: K) σ else zEv true ((203, 20, [some (.inr (.inr 122)), some (.inl x1), some (.inl x2), some (.inl x3), some (.inl 1), some (.inl (w32 (x5 + 1))), some (.inl (gI σ 145 x5.toNat))], []) :: K) σ)))))) :=
  yI_iload zi_203_20 rfl <| yI_iload_n zi_203_22 rfl <| yI_ic_ge zi_203_23 <| yBr (yI_iload zi_203_107 rfl <| yI_if_eq zi_203_109 <| yBr (yI_iload zi_203_117 rfl <| yI_zreturnc zi_203_119) (yI_iload_n zi_203_112 rfl <| yI_iconst zi_203_113 <| yI_ic_ne zi_203_114 <| yBr (yI_aload_n zi_203_120 rfl <| yI_iload_n zi_203_121 rfl <| yI_iload_n zi_203_122 rfl <| yI_cv zi_203_123 rfl rfl zk_122 hK) (yI_iload zi_203_117 rfl <| yI_zreturnc zi_203_119))) (yI_aload_n zi_203_26 rfl <| yI_gf_f (v := 145) zi_203_27 zk_122 rfl <| yI_iload zi_203_30 rfl <| yI_ialoadc (v := gI σ 145 x5.toNat) zi_203_32 za_145 rfl <| yI_istore (l := [some (.inr (.inr 122)), some (.inl x1), some (.inl x2), some (.inl x3), some (.inl x4), some (.inl x5), some (.inl (gI σ 145 x5.toNat))]) zi_203_33 rfl rfl <| yI_iload zi_203_35 rfl <| yI_if_eq zi_203_37 <| yBr (rfl) (yI_aload_n zi_203_40 rfl <| yI_gf_f (v := 138) zi_203_41 zk_122 rfl <| yI_iload_n zi_203_44 rfl <| yI_ialoadc (v := gI σ 138 x2.toNat) zi_203_45 za_138 rfl <| yI_if_eq zi_203_46 <| yBr (yI_iconst zi_203_94 <| yI_goto zi_203_95 <| yI_istore (l := [some (.inr (.inr 122)), some (.inl x1), some (.inl x2), some (.inl x3), some (.inl 1), some (.inl x5), some (.inl (gI σ 145 x5.toNat))]) zi_203_99 rfl rfl <| yI_iinc (l := [some (.inr (.inr 122)), some (.inl x1), some (.inl x2), some (.inl x3), some (.inl 1), some (.inl (w32 (x5 + 1))), some (.inl (gI σ 145 x5.toNat))]) zi_203_101 rfl rfl rfl <| yI_goto zi_203_104 <| rfl) (yI_aload_n zi_203_49 rfl <| yI_gf_f (v := 138) zi_203_50 zk_122 rfl <| yI_iload zi_203_53 rfl <| yI_ialoadc (v := gI σ 138 ((gI σ 145 x5.toNat).toNat)) zi_203_55 za_138 rfl <| yI_aload_n zi_203_56 rfl <| yI_gf_f (v := 138) zi_203_57 zk_122 rfl <| yI_iload_n zi_203_60 rfl <| yI_ialoadc (v := gI σ 138 x2.toNat) zi_203_61 za_138 rfl <| yI_ic_ne zi_203_62 <| yBr (yI_iconst zi_203_94 <| yI_goto zi_203_95 <| yI_istore (l := [some (.inr (.inr 122)), some (.inl x1), some (.inl x2), some (.inl x3), some (.inl 1), some (.inl x5), some (.inl (gI σ 145 x5.toNat))]) zi_203_99 rfl rfl <| yI_iinc (l := [some (.inr (.inr 122)), some (.inl x1), some (.inl x2), some (.inl x3), some (.inl 1), some (.inl (w32 (x5 + 1))), some (.inl (gI σ 145 x5.toNat))]) zi_203_101 rfl rfl rfl <| yI_goto zi_203_104 <| rfl) (yI_aload_n zi_203_65 rfl <| yI_gf_f (v := 174) zi_203_66 zk_122 rfl <| yI_iload zi_203_69 rfl <| yI_ialoadc (v := gI σ 174 ((gI σ 145 x5.toNat).toNat)) zi_203_71 za_174 rfl <| yI_iconst zi_203_72 <| yI_ic_ne zi_203_73 <| yMi0 (j := 81) (ls2 := [some (.inr (.inr 122)), some (.inl x1), some (.inl x2), some (.inl x3), some (.inl x4), some (.inl x5), some (.inl (gI σ 145 x5.toNat))]) (st2 := []) (x := 0) (y := 1) (σ2 := σ) (yI_iconst zi_203_80 <| rfl) (yI_iconst zi_203_76 <| yI_goto zi_203_77 <| rfl) <| yI_iload_n zi_203_81 rfl <| yI_iconst zi_203_82 <| yI_ic_ne zi_203_83 <| yMi0 (j := 91) (ls2 := [some (.inr (.inr 122)), some (.inl x1), some (.inl x2), some (.inl x3), some (.inl x4), some (.inl x5), some (.inl (gI σ 145 x5.toNat))]) (st2 := [.inl (if ¬ (gI σ 174 ((gI σ 145 x5.toNat).toNat)) = (-1) then 0 else 1 : Int)]) (x := 0) (y := 1) (σ2 := σ) (yI_iconst zi_203_90 <| rfl) (yI_iconst zi_203_86 <| yI_goto zi_203_87 <| rfl) <| yI_ic_ne zi_203_91 <| yBr (rfl) (yI_iconst zi_203_94 <| yI_goto zi_203_95 <| yI_istore (l := [some (.inr (.inr 122)), some (.inl x1), some (.inl x2), some (.inl x3), some (.inl 1), some (.inl x5), some (.inl (gI σ 145 x5.toNat))]) zi_203_99 rfl rfl <| yI_iinc (l := [some (.inr (.inr 122)), some (.inl x1), some (.inl x2), some (.inl x3), some (.inl 1), some (.inl (w32 (x5 + 1))), some (.inl (gI σ 145 x5.toNat))]) zi_203_101 rfl rfl rfl <| yI_goto zi_203_104 <| rfl)))))
theorem zr_203_126 {K : List zF} {σ : zW} {o1 : Option zV} {x2 : Int} {x3 : Int} {o4 : Option zV} {o5 : Option zV} {o6 : Option zV} {v : Int} (hK : K.length < 60) : zRet true ((203, 126, [some (.inr (.inr 122)), o1, some (.inl x2), some (.inl x3), o4, o5, o6], []) :: K) (some (.inl v)) σ = (if v = 0 then zEv true ((203, 156, [some (.inr (.inr 122)), o1, some (.inl x2), some (.inl x3), o4, o5, o6], []) :: K) σ else if x2 = 0 then zRet true K (some (.inl 1)) σ else (0 ≤ x2 ∧ x2 < 8) ∧ zEv true (zent 195 [.inr (.inr 122), .inl (gI σ 140 x2.toNat)] :: (203, 145, [some (.inr (.inr 122)), o1, some (.inl x2), some (.inl x3), o4, o5, o6], [.inl x2, .inr (.inr 122)]) :: K) σ) :=
  yT_rt (yI_if_eq zi_203_126 <| yBr (rfl) (yI_iload_n zi_203_129 rfl <| yI_if_eq zi_203_130 <| yBr (yI_iconst zi_203_152 <| yI_goto zi_203_153 <| yI_zreturn zi_203_157 (by decide)) (yI_aload_n zi_203_133 rfl <| yI_iload_n zi_203_134 rfl <| yI_aload_n zi_203_135 rfl <| yI_aload_n zi_203_136 rfl <| yI_gf_f (v := 140) zi_203_137 zk_122 rfl <| yI_iload_n zi_203_140 rfl <| yI_ialoadc (v := gI σ 140 x2.toNat) zi_203_141 za_140 rfl <| yI_cv zi_203_142 rfl rfl zk_122 hK)))
theorem zj_203_98 {K : List zF} {σ : zW} {x1 : Int} {x2 : Int} {x3 : Int} {o4 : Option zV} {x5 : Int} {o6 : Option zV} : zEv true ((203, 98, [some (.inr (.inr 122)), some (.inl x1), some (.inl x2), some (.inl x3), o4, some (.inl x5), o6], []) :: K) σ = (zEv true ((203, 20, [some (.inr (.inr 122)), some (.inl x1), some (.inl x2), some (.inl x3), some (.inl 0), some (.inl (w32 (x5 + 1))), o6], []) :: K) σ) :=
  yI_iconst zi_203_98 <| yI_istore (l := [some (.inr (.inr 122)), some (.inl x1), some (.inl x2), some (.inl x3), some (.inl 0), some (.inl x5), o6]) zi_203_99 rfl rfl <| yI_iinc (l := [some (.inr (.inr 122)), some (.inl x1), some (.inl x2), some (.inl x3), some (.inl 0), some (.inl (w32 (x5 + 1))), o6]) zi_203_101 rfl rfl rfl <| yI_goto zi_203_104 <| rfl
theorem zj_203_156 {K : List zF} {σ : zW} {o0 : Option zV} {o1 : Option zV} {o2 : Option zV} {o3 : Option zV} {o4 : Option zV} {o5 : Option zV} {o6 : Option zV} : zEv true ((203, 156, [o0, o1, o2, o3, o4, o5, o6], []) :: K) σ = (zRet true K (some (.inl 0)) σ) :=
  yI_iconst zi_203_156 <| yI_zreturn zi_203_157 (by decide)
theorem zr_203_145 {K : List zF} {σ : zW} {o0 : Option zV} {o1 : Option zV} {o2 : Option zV} {x3 : Int} {o4 : Option zV} {o5 : Option zV} {o6 : Option zV} {s0 : Int} {v : Int} (hK : K.length < 60) : zRet true ((203, 145, [o0, o1, o2, some (.inl x3), o4, o5, o6], [.inl s0, .inr (.inr 122)]) :: K) (some (.inl v)) σ = (zEv true (zent 191 [.inr (.inr 122), .inl s0, .inl v, .inl x3] :: (203, 149, [o0, o1, o2, some (.inl x3), o4, o5, o6], []) :: K) σ) :=
  yT_rt (yI_iload_n zi_203_145 rfl <| yI_cv zi_203_146 rfl rfl zk_122 hK)
theorem zr_203_149 {K : List zF} {σ : zW} {o0 : Option zV} {o1 : Option zV} {o2 : Option zV} {o3 : Option zV} {o4 : Option zV} {o5 : Option zV} {o6 : Option zV} {v : Int} : zRet true ((203, 149, [o0, o1, o2, o3, o4, o5, o6], []) :: K) (some (.inl v)) σ = (if v = 0 then zEv true ((203, 156, [o0, o1, o2, o3, o4, o5, o6], []) :: K) σ else zRet true K (some (.inl 1)) σ) :=
  yT_rt (yI_if_eq zi_203_149 <| yBr (rfl) (yI_iconst zi_203_152 <| yI_goto zi_203_153 <| yI_zreturn zi_203_157 (by decide)))
/-- 204 TreegrabModel.least(I)I -/
theorem zi_204_0 : zraw 204 0 = some (.aload_n 0, 1) ∧ 0 + 1 = 1 := by decide +kernel
theorem zi_204_1 : zraw 204 1 = some (.getfield 56, 3) ∧ zft (zinf 204).1 56 = some (10, 25, 3, true) ∧ 1 + 3 = 4 := by decide +kernel
theorem zi_204_4 : zraw 204 4 = some (.aload_n 0, 1) ∧ 4 + 1 = 5 := by decide +kernel
theorem zi_204_5 : zraw 204 5 = some (.getfield 78, 3) ∧ zft (zinf 204).1 78 = some (10, 33, 3, true) ∧ 5 + 3 = 8 := by decide +kernel
theorem zi_204_8 : zraw 204 8 = some (.iload_n 1, 1) ∧ 8 + 1 = 9 := by decide +kernel
theorem zi_204_9 : zraw 204 9 = some (.iaload, 1) ∧ 9 + 1 = 10 := by decide +kernel
theorem zi_204_10 : zraw 204 10 = some (.iaload, 1) ∧ 10 + 1 = 11 := by decide +kernel
theorem zi_204_11 : zraw 204 11 = some (.ifCond .le 7, 3) ∧ ((11 : Nat) : Int) + 7 = Int.ofNat 18 ∧ 11 + 3 = 14 := by decide +kernel
theorem zi_204_14 : zraw 204 14 = some (.iconst (-1), 1) ∧ zin 128 (-1) = true ∧ 14 + 1 = 15 := by decide +kernel
theorem zi_204_15 : zraw 204 15 = some (.goto 4, 3) ∧ ((15 : Nat) : Int) + 4 = Int.ofNat 19 := by decide +kernel
theorem zi_204_18 : zraw 204 18 = some (.iconst 0, 1) ∧ zin 128 0 = true ∧ 18 + 1 = 19 := by decide +kernel
theorem zi_204_19 : zraw 204 19 = some (.ireturn, 1) ∧ (zinf 204).2.2.2.1 = 1 := by decide +kernel
theorem ze_204 {K : List zF} {σ : zW} {x1 : Int} : zEv true (zent 204 [.inr (.inr 122), .inl x1] :: K) σ = ((0 ≤ x1 ∧ x1 < 4) ∧ ((0 ≤ (gI σ 145 x1.toNat) ∧ (gI σ 145 x1.toNat) < 8) ∧ zRet true K (some (.inl (if (gI σ 138 ((gI σ 145 x1.toNat).toNat)) ≤ 0 then 0 else (-1) : Int))) σ)) :=
  yT_en (f := (204, 0, [some (.inr (.inr 122)), some (.inl x1)], [])) rfl (yI_aload_n zi_204_0 rfl <| yI_gf_f (v := 138) zi_204_1 zk_122 rfl <| yI_aload_n zi_204_4 rfl <| yI_gf_f (v := 145) zi_204_5 zk_122 rfl <| yI_iload_n zi_204_8 rfl <| yI_ialoadc (v := gI σ 145 x1.toNat) zi_204_9 za_145 rfl <| yI_ialoadc (v := gI σ 138 ((gI σ 145 x1.toNat).toNat)) zi_204_10 za_138 rfl <| yI_if_le zi_204_11 <| yMi0 (j := 19) (ls2 := [some (.inr (.inr 122)), some (.inl x1)]) (st2 := []) (x := 0) (y := (-1)) (σ2 := σ) (yI_iconst zi_204_18 <| rfl) (yI_iconst zi_204_14 <| yI_goto zi_204_15 <| rfl) <| yI_ireturn zi_204_19)
/-- 205 TreegrabModel.keeps()V -/
theorem zi_205_0 : zraw 205 0 = some (.iconst 0, 1) ∧ zin 128 0 = true ∧ 0 + 1 = 1 := by decide +kernel
theorem zi_205_1 : zraw 205 1 = some (.istore_n 1, 1) ∧ 1 + 1 = 2 := by decide +kernel
theorem zi_205_2 : zraw 205 2 = some (.iconst 0, 1) ∧ zin 128 0 = true ∧ 2 + 1 = 3 := by decide +kernel
theorem zi_205_3 : zraw 205 3 = some (.istore_n 2, 1) ∧ 3 + 1 = 4 := by decide +kernel
theorem zi_205_4 : zraw 205 4 = some (.iload_n 2, 1) ∧ 4 + 1 = 5 := by decide +kernel
theorem zi_205_5 : zraw 205 5 = some (.aload_n 0, 1) ∧ 5 + 1 = 6 := by decide +kernel
theorem zi_205_6 : zraw 205 6 = some (.getfield 312, 3) ∧ zft (zinf 205).1 312 = some (10, 34, 0, false) ∧ 6 + 3 = 9 := by decide +kernel
theorem zi_205_9 : zraw 205 9 = some (.if_icmp .ge 29, 3) ∧ ((9 : Nat) : Int) + 29 = Int.ofNat 38 ∧ 9 + 3 = 12 := by decide +kernel
theorem zi_205_12 : zraw 205 12 = some (.iload_n 1, 1) ∧ 12 + 1 = 13 := by decide +kernel
theorem zi_205_13 : zraw 205 13 = some (.aload_n 0, 1) ∧ 13 + 1 = 14 := by decide +kernel
theorem zi_205_14 : zraw 205 14 = some (.getfield 169, 3) ∧ zft (zinf 205).1 169 = some (10, 70, 3, true) ∧ 14 + 3 = 17 := by decide +kernel
theorem zi_205_17 : zraw 205 17 = some (.aload_n 0, 1) ∧ 17 + 1 = 18 := by decide +kernel
theorem zi_205_18 : zraw 205 18 = some (.getfield 78, 3) ∧ zft (zinf 205).1 78 = some (10, 33, 3, true) ∧ 18 + 3 = 21 := by decide +kernel
theorem zi_205_21 : zraw 205 21 = some (.iload_n 2, 1) ∧ 21 + 1 = 22 := by decide +kernel
theorem zi_205_22 : zraw 205 22 = some (.iaload, 1) ∧ 22 + 1 = 23 := by decide +kernel
theorem zi_205_23 : zraw 205 23 = some (.iaload, 1) ∧ 23 + 1 = 24 := by decide +kernel
theorem zi_205_24 : zraw 205 24 = some (.iconst 1, 1) ∧ zin 128 1 = true ∧ 24 + 1 = 25 := by decide +kernel
theorem zi_205_25 : zraw 205 25 = some (.iadd, 1) ∧ 25 + 1 = 26 := by decide +kernel
theorem zi_205_26 : zraw 205 26 = some (.iconst 5, 1) ∧ zin 128 5 = true ∧ 26 + 1 = 27 := by decide +kernel
theorem zi_205_27 : zraw 205 27 = some (.iload_n 2, 1) ∧ 27 + 1 = 28 := by decide +kernel
theorem zi_205_28 : zraw 205 28 = some (.imul, 1) ∧ 28 + 1 = 29 := by decide +kernel
theorem zi_205_29 : zraw 205 29 = some (.ishl, 1) ∧ 29 + 1 = 30 := by decide +kernel
theorem zi_205_30 : zraw 205 30 = some (.ior, 1) ∧ 30 + 1 = 31 := by decide +kernel
theorem zi_205_31 : zraw 205 31 = some (.istore_n 1, 1) ∧ 31 + 1 = 32 := by decide +kernel
theorem zi_205_32 : zraw 205 32 = some (.iinc 2 1, 3) ∧ zin 32768 1 = true ∧ 32 + 3 = 35 := by decide +kernel
theorem zi_205_35 : zraw 205 35 = some (.goto (-31), 3) ∧ ((35 : Nat) : Int) + (-31) = Int.ofNat 4 := by decide +kernel
theorem zi_205_38 : zraw 205 38 = some (.aload_n 0, 1) ∧ 38 + 1 = 39 := by decide +kernel
theorem zi_205_39 : zraw 205 39 = some (.getfield 452, 3) ∧ zft (zinf 205).1 452 = some (10, 73, 0, false) ∧ 39 + 3 = 42 := by decide +kernel
theorem zi_205_42 : zraw 205 42 = some (.sipush 4096, 3) ∧ zin 32768 4096 = true ∧ 42 + 3 = 45 := by decide +kernel
theorem zi_205_45 : zraw 205 45 = some (.if_icmp .ge 13, 3) ∧ ((45 : Nat) : Int) + 13 = Int.ofNat 58 ∧ 45 + 3 = 48 := by decide +kernel
theorem zi_205_48 : zraw 205 48 = some (.aload_n 0, 1) ∧ 48 + 1 = 49 := by decide +kernel
theorem zi_205_49 : zraw 205 49 = some (.getfield 178, 3) ∧ zft (zinf 205).1 178 = some (10, 74, 3, true) ∧ 49 + 3 = 52 := by decide +kernel
theorem zi_205_52 : zraw 205 52 = some (.aload_n 0, 1) ∧ 52 + 1 = 53 := by decide +kernel
theorem zi_205_53 : zraw 205 53 = some (.getfield 452, 3) ∧ zft (zinf 205).1 452 = some (10, 73, 0, false) ∧ 53 + 3 = 56 := by decide +kernel
theorem zi_205_56 : zraw 205 56 = some (.iload_n 1, 1) ∧ 56 + 1 = 57 := by decide +kernel
theorem zi_205_57 : zraw 205 57 = some (.iastore, 1) ∧ 57 + 1 = 58 := by decide +kernel
theorem zi_205_58 : zraw 205 58 = some (.aload_n 0, 1) ∧ 58 + 1 = 59 := by decide +kernel
theorem zi_205_59 : zraw 205 59 = some (.dup, 1) ∧ 59 + 1 = 60 := by decide +kernel
theorem zi_205_60 : zraw 205 60 = some (.getfield 452, 3) ∧ zft (zinf 205).1 452 = some (10, 73, 0, false) ∧ 60 + 3 = 63 := by decide +kernel
theorem zi_205_63 : zraw 205 63 = some (.iconst 1, 1) ∧ zin 128 1 = true ∧ 63 + 1 = 64 := by decide +kernel
theorem zi_205_64 : zraw 205 64 = some (.iadd, 1) ∧ 64 + 1 = 65 := by decide +kernel
theorem zi_205_65 : zraw 205 65 = some (.putfield 452, 3) ∧ zft (zinf 205).1 452 = some (10, 73, 0, false) ∧ 65 + 3 = 68 := by decide +kernel
theorem zi_205_68 : zraw 205 68 = some (.return_, 1) ∧ (zinf 205).2.2.2.1 = 0 := by decide +kernel
theorem ze_205 {K : List zF} {σ : zW} : zEv true (zent 205 [.inr (.inr 122)] :: K) σ = (zEv true ((205, 4, [some (.inr (.inr 122)), some (.inl 0), some (.inl 0)], []) :: K) σ) :=
  yT_en (f := (205, 0, [some (.inr (.inr 122)), none, none], [])) rfl (yI_iconst zi_205_0 <| yI_istore_n (l := [some (.inr (.inr 122)), some (.inl 0), none]) zi_205_1 rfl rfl <| yI_iconst zi_205_2 <| yI_istore_n (l := [some (.inr (.inr 122)), some (.inl 0), some (.inl 0)]) zi_205_3 rfl rfl <| rfl)
theorem zj_205_4 {K : List zF} {σ : zW} {x1 : Int} {x2 : Int} : zEv true ((205, 4, [some (.inr (.inr 122)), some (.inl x1), some (.inl x2)], []) :: K) σ = (if (gI σ 122 34) ≤ x2 then if 4096 ≤ (gI σ 122 73) then zEv true ((205, 58, [some (.inr (.inr 122)), some (.inl x1), some (.inl x2)], []) :: K) σ else (0 ≤ (gI σ 122 73) ∧ (gI σ 122 73) < 4096) ∧ zEv true ((205, 58, [some (.inr (.inr 122)), some (.inl x1), some (.inl x2)], []) :: K) (sI σ 177 ((gI σ 122 73).toNat) x1) else (0 ≤ x2 ∧ x2 < 4) ∧ ((0 ≤ (gI σ 145 x2.toNat) ∧ (gI σ 145 x2.toNat) < 8) ∧ zEv true ((205, 4, [some (.inr (.inr 122)), some (.inl (zor x1 (zshl (w32 ((gI σ 174 ((gI σ 145 x2.toNat).toNat)) + 1)) (w32 (5 * x2))))), some (.inl (w32 (x2 + 1)))], []) :: K) σ)) :=
  yI_iload_n zi_205_4 rfl <| yI_aload_n zi_205_5 rfl <| yI_gf_i (v := gI σ 122 34) zi_205_6 zk_122 rfl <| yI_ic_ge zi_205_9 <| yBr (yI_aload_n zi_205_38 rfl <| yI_gf_i (v := gI σ 122 73) zi_205_39 zk_122 rfl <| yI_sipush zi_205_42 <| yI_ic_ge zi_205_45 <| yBr (rfl) (yI_aload_n zi_205_48 rfl <| yI_gf_f (v := 177) zi_205_49 zk_122 rfl <| yI_aload_n zi_205_52 rfl <| yI_gf_i (v := gI σ 122 73) zi_205_53 zk_122 rfl <| yI_iload_n zi_205_56 rfl <| yI_iastorec zi_205_57 za_177 <| rfl)) (yI_iload_n zi_205_12 rfl <| yI_aload_n zi_205_13 rfl <| yI_gf_f (v := 174) zi_205_14 zk_122 rfl <| yI_aload_n zi_205_17 rfl <| yI_gf_f (v := 145) zi_205_18 zk_122 rfl <| yI_iload_n zi_205_21 rfl <| yI_ialoadc (v := gI σ 145 x2.toNat) zi_205_22 za_145 rfl <| yI_ialoadc (v := gI σ 174 ((gI σ 145 x2.toNat).toNat)) zi_205_23 za_174 rfl <| yI_iconst zi_205_24 <| yI_iadd zi_205_25 <| yI_iconst zi_205_26 <| yI_iload_n zi_205_27 rfl <| yI_imul zi_205_28 <| yI_ishl zi_205_29 <| yI_ior zi_205_30 <| yI_istore_n (l := [some (.inr (.inr 122)), some (.inl (zor x1 (zshl (w32 ((gI σ 174 ((gI σ 145 x2.toNat).toNat)) + 1)) (w32 (5 * x2))))), some (.inl x2)]) zi_205_31 rfl rfl <| yI_iinc (l := [some (.inr (.inr 122)), some (.inl (zor x1 (zshl (w32 ((gI σ 174 ((gI σ 145 x2.toNat).toNat)) + 1)) (w32 (5 * x2))))), some (.inl (w32 (x2 + 1)))]) zi_205_32 rfl rfl rfl <| yI_goto zi_205_35 <| rfl)
theorem zj_205_58 {K : List zF} {σ : zW} {o1 : Option zV} {o2 : Option zV} : zEv true ((205, 58, [some (.inr (.inr 122)), o1, o2], []) :: K) σ = (zRet true K none (sI σ 122 73 (w32 ((gI σ 122 73) + 1)))) :=
  yI_aload_n zi_205_58 rfl <| yI_dup_r zi_205_59 <| yI_gf_i (v := gI σ 122 73) zi_205_60 zk_122 rfl <| yI_iconst zi_205_63 <| yI_iadd zi_205_64 <| yI_pf_i zi_205_65 zk_122 <| yI_ret zi_205_68
/-- 206 TreegrabModel.finds(I)V -/
theorem zi_206_0 : zraw 206 0 = some (.aload_n 0, 1) ∧ 0 + 1 = 1 := by decide +kernel
theorem zi_206_1 : zraw 206 1 = some (.iconst 0, 1) ∧ zin 128 0 = true ∧ 1 + 1 = 2 := by decide +kernel
theorem zi_206_2 : zraw 206 2 = some (.putfield 452, 3) ∧ zft (zinf 206).1 452 = some (10, 73, 0, false) ∧ 2 + 3 = 5 := by decide +kernel
theorem zi_206_5 : zraw 206 5 = some (.iconst 0, 1) ∧ zin 128 0 = true ∧ 5 + 1 = 6 := by decide +kernel
theorem zi_206_6 : zraw 206 6 = some (.istore_n 2, 1) ∧ 6 + 1 = 7 := by decide +kernel
theorem zi_206_7 : zraw 206 7 = some (.aload_n 0, 1) ∧ 7 + 1 = 8 := by decide +kernel
theorem zi_206_8 : zraw 206 8 = some (.getfield 175, 3) ∧ zft (zinf 206).1 175 = some (10, 72, 3, true) ∧ 8 + 3 = 11 := by decide +kernel
theorem zi_206_11 : zraw 206 11 = some (.iconst 0, 1) ∧ zin 128 0 = true ∧ 11 + 1 = 12 := by decide +kernel
theorem zi_206_12 : zraw 206 12 = some (.aload_n 0, 1) ∧ 12 + 1 = 13 := by decide +kernel
theorem zi_206_13 : zraw 206 13 = some (.iconst 0, 1) ∧ zin 128 0 = true ∧ 13 + 1 = 14 := by decide +kernel
theorem zi_206_14 : zraw 206 14 = some (.invokevirtual 455, 3) ∧ zmt (zinf 206).1 455 = some 204 ∧ Nat.ble 9000 204 = false ∧ zinf 204 = (10, 2, 2, 1, 0) ∧ 14 + 3 = 17 := by decide +kernel
theorem zi_206_17 : zraw 206 17 = some (.iconst 1, 1) ∧ zin 128 1 = true ∧ 17 + 1 = 18 := by decide +kernel
theorem zi_206_18 : zraw 206 18 = some (.isub, 1) ∧ 18 + 1 = 19 := by decide +kernel
theorem zi_206_19 : zraw 206 19 = some (.iastore, 1) ∧ 19 + 1 = 20 := by decide +kernel
theorem zi_206_20 : zraw 206 20 = some (.iload_n 2, 1) ∧ 20 + 1 = 21 := by decide +kernel
theorem zi_206_21 : zraw 206 21 = some (.ifCond .lt 122, 3) ∧ ((21 : Nat) : Int) + 122 = Int.ofNat 143 ∧ 21 + 3 = 24 := by decide +kernel
theorem zi_206_24 : zraw 206 24 = some (.aload_n 0, 1) ∧ 24 + 1 = 25 := by decide +kernel
theorem zi_206_25 : zraw 206 25 = some (.getfield 175, 3) ∧ zft (zinf 206).1 175 = some (10, 72, 3, true) ∧ 25 + 3 = 28 := by decide +kernel
theorem zi_206_28 : zraw 206 28 = some (.iload_n 2, 1) ∧ 28 + 1 = 29 := by decide +kernel
theorem zi_206_29 : zraw 206 29 = some (.dup2, 1) ∧ 29 + 1 = 30 := by decide +kernel
theorem zi_206_30 : zraw 206 30 = some (.iaload, 1) ∧ 30 + 1 = 31 := by decide +kernel
theorem zi_206_31 : zraw 206 31 = some (.iconst 1, 1) ∧ zin 128 1 = true ∧ 31 + 1 = 32 := by decide +kernel
theorem zi_206_32 : zraw 206 32 = some (.iadd, 1) ∧ 32 + 1 = 33 := by decide +kernel
theorem zi_206_33 : zraw 206 33 = some (.iastore, 1) ∧ 33 + 1 = 34 := by decide +kernel
theorem zi_206_34 : zraw 206 34 = some (.aload_n 0, 1) ∧ 34 + 1 = 35 := by decide +kernel
theorem zi_206_35 : zraw 206 35 = some (.getfield 175, 3) ∧ zft (zinf 206).1 175 = some (10, 72, 3, true) ∧ 35 + 3 = 38 := by decide +kernel
theorem zi_206_38 : zraw 206 38 = some (.iload_n 2, 1) ∧ 38 + 1 = 39 := by decide +kernel
theorem zi_206_39 : zraw 206 39 = some (.iaload, 1) ∧ 39 + 1 = 40 := by decide +kernel
theorem zi_206_40 : zraw 206 40 = some (.aload_n 0, 1) ∧ 40 + 1 = 41 := by decide +kernel
theorem zi_206_41 : zraw 206 41 = some (.getfield 389, 3) ∧ zft (zinf 206).1 389 = some (10, 65, 0, false) ∧ 41 + 3 = 44 := by decide +kernel
theorem zi_206_44 : zraw 206 44 = some (.if_icmp .lt 9, 3) ∧ ((44 : Nat) : Int) + 9 = Int.ofNat 53 ∧ 44 + 3 = 47 := by decide +kernel
theorem zi_206_47 : zraw 206 47 = some (.iinc 2 (-1), 3) ∧ zin 32768 (-1) = true ∧ 47 + 3 = 50 := by decide +kernel
theorem zi_206_50 : zraw 206 50 = some (.goto (-30), 3) ∧ ((50 : Nat) : Int) + (-30) = Int.ofNat 20 := by decide +kernel
theorem zi_206_53 : zraw 206 53 = some (.aload_n 0, 1) ∧ 53 + 1 = 54 := by decide +kernel
theorem zi_206_54 : zraw 206 54 = some (.getfield 169, 3) ∧ zft (zinf 206).1 169 = some (10, 70, 3, true) ∧ 54 + 3 = 57 := by decide +kernel
theorem zi_206_57 : zraw 206 57 = some (.aload_n 0, 1) ∧ 57 + 1 = 58 := by decide +kernel
theorem zi_206_58 : zraw 206 58 = some (.getfield 78, 3) ∧ zft (zinf 206).1 78 = some (10, 33, 3, true) ∧ 58 + 3 = 61 := by decide +kernel
theorem zi_206_61 : zraw 206 61 = some (.iload_n 2, 1) ∧ 61 + 1 = 62 := by decide +kernel
theorem zi_206_62 : zraw 206 62 = some (.iaload, 1) ∧ 62 + 1 = 63 := by decide +kernel
theorem zi_206_63 : zraw 206 63 = some (.aload_n 0, 1) ∧ 63 + 1 = 64 := by decide +kernel
theorem zi_206_64 : zraw 206 64 = some (.getfield 175, 3) ∧ zft (zinf 206).1 175 = some (10, 72, 3, true) ∧ 64 + 3 = 67 := by decide +kernel
theorem zi_206_67 : zraw 206 67 = some (.iload_n 2, 1) ∧ 67 + 1 = 68 := by decide +kernel
theorem zi_206_68 : zraw 206 68 = some (.iaload, 1) ∧ 68 + 1 = 69 := by decide +kernel
theorem zi_206_69 : zraw 206 69 = some (.iastore, 1) ∧ 69 + 1 = 70 := by decide +kernel
theorem zi_206_70 : zraw 206 70 = some (.aload_n 0, 1) ∧ 70 + 1 = 71 := by decide +kernel
theorem zi_206_71 : zraw 206 71 = some (.iload_n 2, 1) ∧ 71 + 1 = 72 := by decide +kernel
theorem zi_206_72 : zraw 206 72 = some (.invokevirtual 458, 3) ∧ zmt (zinf 206).1 458 = some 203 ∧ Nat.ble 9000 203 = false ∧ zinf 203 = (10, 2, 7, 2, 0) ∧ 72 + 3 = 75 := by decide +kernel
theorem zi_206_75 : zraw 206 75 = some (.istore_n 3, 1) ∧ 75 + 1 = 76 := by decide +kernel
theorem zi_206_76 : zraw 206 76 = some (.iload_n 3, 1) ∧ 76 + 1 = 77 := by decide +kernel
theorem zi_206_77 : zraw 206 77 = some (.ifCond .eq 32, 3) ∧ ((77 : Nat) : Int) + 32 = Int.ofNat 109 ∧ 77 + 3 = 80 := by decide +kernel
theorem zi_206_80 : zraw 206 80 = some (.iload_n 2, 1) ∧ 80 + 1 = 81 := by decide +kernel
theorem zi_206_81 : zraw 206 81 = some (.aload_n 0, 1) ∧ 81 + 1 = 82 := by decide +kernel
theorem zi_206_82 : zraw 206 82 = some (.getfield 312, 3) ∧ zft (zinf 206).1 312 = some (10, 34, 0, false) ∧ 82 + 3 = 85 := by decide +kernel
theorem zi_206_85 : zraw 206 85 = some (.iconst 1, 1) ∧ zin 128 1 = true ∧ 85 + 1 = 86 := by decide +kernel
theorem zi_206_86 : zraw 206 86 = some (.isub, 1) ∧ 86 + 1 = 87 := by decide +kernel
theorem zi_206_87 : zraw 206 87 = some (.if_icmp .ge 22, 3) ∧ ((87 : Nat) : Int) + 22 = Int.ofNat 109 ∧ 87 + 3 = 90 := by decide +kernel
theorem zi_206_90 : zraw 206 90 = some (.iinc 2 1, 3) ∧ zin 32768 1 = true ∧ 90 + 3 = 93 := by decide +kernel
theorem zi_206_93 : zraw 206 93 = some (.aload_n 0, 1) ∧ 93 + 1 = 94 := by decide +kernel
theorem zi_206_94 : zraw 206 94 = some (.getfield 175, 3) ∧ zft (zinf 206).1 175 = some (10, 72, 3, true) ∧ 94 + 3 = 97 := by decide +kernel
theorem zi_206_97 : zraw 206 97 = some (.iload_n 2, 1) ∧ 97 + 1 = 98 := by decide +kernel
theorem zi_206_98 : zraw 206 98 = some (.aload_n 0, 1) ∧ 98 + 1 = 99 := by decide +kernel
theorem zi_206_99 : zraw 206 99 = some (.iload_n 2, 1) ∧ 99 + 1 = 100 := by decide +kernel
theorem zi_206_100 : zraw 206 100 = some (.invokevirtual 455, 3) ∧ zmt (zinf 206).1 455 = some 204 ∧ Nat.ble 9000 204 = false ∧ zinf 204 = (10, 2, 2, 1, 0) ∧ 100 + 3 = 103 := by decide +kernel
theorem zi_206_103 : zraw 206 103 = some (.iconst 1, 1) ∧ zin 128 1 = true ∧ 103 + 1 = 104 := by decide +kernel
theorem zi_206_104 : zraw 206 104 = some (.isub, 1) ∧ 104 + 1 = 105 := by decide +kernel
theorem zi_206_105 : zraw 206 105 = some (.iastore, 1) ∧ 105 + 1 = 106 := by decide +kernel
theorem zi_206_106 : zraw 206 106 = some (.goto 34, 3) ∧ ((106 : Nat) : Int) + 34 = Int.ofNat 140 := by decide +kernel
theorem zi_206_109 : zraw 206 109 = some (.iload_n 3, 1) ∧ 109 + 1 = 110 := by decide +kernel
theorem zi_206_110 : zraw 206 110 = some (.ifCond .eq 30, 3) ∧ ((110 : Nat) : Int) + 30 = Int.ofNat 140 ∧ 110 + 3 = 113 := by decide +kernel
theorem zi_206_113 : zraw 206 113 = some (.aload_n 0, 1) ∧ 113 + 1 = 114 := by decide +kernel
theorem zi_206_114 : zraw 206 114 = some (.invokevirtual 461, 3) ∧ zmt (zinf 206).1 461 = some 202 ∧ Nat.ble 9000 202 = false ∧ zinf 202 = (10, 1, 3, 2, 0) ∧ 114 + 3 = 117 := by decide +kernel
theorem zi_206_117 : zraw 206 117 = some (.ifCond .eq 23, 3) ∧ ((117 : Nat) : Int) + 23 = Int.ofNat 140 ∧ 117 + 3 = 120 := by decide +kernel
theorem zi_206_120 : zraw 206 120 = some (.aload_n 0, 1) ∧ 120 + 1 = 121 := by decide +kernel
theorem zi_206_121 : zraw 206 121 = some (.invokevirtual 464, 3) ∧ zmt (zinf 206).1 464 = some 205 ∧ Nat.ble 9000 205 = false ∧ zinf 205 = (10, 1, 3, 0, 0) ∧ 121 + 3 = 124 := by decide +kernel
theorem zi_206_124 : zraw 206 124 = some (.aload_n 0, 1) ∧ 124 + 1 = 125 := by decide +kernel
theorem zi_206_125 : zraw 206 125 = some (.getfield 452, 3) ∧ zft (zinf 206).1 452 = some (10, 73, 0, false) ∧ 125 + 3 = 128 := by decide +kernel
theorem zi_206_128 : zraw 206 128 = some (.iload_n 1, 1) ∧ 128 + 1 = 129 := by decide +kernel
theorem zi_206_129 : zraw 206 129 = some (.iconst 1, 1) ∧ zin 128 1 = true ∧ 129 + 1 = 130 := by decide +kernel
theorem zi_206_130 : zraw 206 130 = some (.iadd, 1) ∧ 130 + 1 = 131 := by decide +kernel
theorem zi_206_131 : zraw 206 131 = some (.if_icmp .ne 7, 3) ∧ ((131 : Nat) : Int) + 7 = Int.ofNat 138 ∧ 131 + 3 = 134 := by decide +kernel
theorem zi_206_134 : zraw 206 134 = some (.iconst (-1), 1) ∧ zin 128 (-1) = true ∧ 134 + 1 = 135 := by decide +kernel
theorem zi_206_135 : zraw 206 135 = some (.goto 4, 3) ∧ ((135 : Nat) : Int) + 4 = Int.ofNat 139 := by decide +kernel
theorem zi_206_138 : zraw 206 138 = some (.iload_n 2, 1) ∧ 138 + 1 = 139 := by decide +kernel
theorem zi_206_139 : zraw 206 139 = some (.istore_n 2, 1) ∧ 139 + 1 = 140 := by decide +kernel
theorem zi_206_140 : zraw 206 140 = some (.goto (-120), 3) ∧ ((140 : Nat) : Int) + (-120) = Int.ofNat 20 := by decide +kernel
theorem zi_206_143 : zraw 206 143 = some (.return_, 1) ∧ (zinf 206).2.2.2.1 = 0 := by decide +kernel
theorem ze_206 {K : List zF} {σ : zW} {x1 : Int} (hK : K.length < 60) : zEv true (zent 206 [.inr (.inr 122), .inl x1] :: K) σ = (zEv true (zent 204 [.inr (.inr 122), .inl 0] :: (206, 17, [some (.inr (.inr 122)), some (.inl x1), some (.inl 0), none], [.inl 0, .inr (.inr 176)]) :: K) (sI σ 122 73 0)) :=
  yT_en (f := (206, 0, [some (.inr (.inr 122)), some (.inl x1), none, none], [])) rfl (yI_aload_n zi_206_0 rfl <| yI_iconst zi_206_1 <| yI_pf_i zi_206_2 zk_122 <| yI_iconst zi_206_5 <| yI_istore_n (l := [some (.inr (.inr 122)), some (.inl x1), some (.inl 0), none]) zi_206_6 rfl rfl <| yI_aload_n zi_206_7 rfl <| yI_gf_f (v := 176) zi_206_8 zk_122 rfl <| yI_iconst zi_206_11 <| yI_aload_n zi_206_12 rfl <| yI_iconst zi_206_13 <| yI_cv zi_206_14 rfl rfl zk_122 hK)
theorem zr_206_17 {K : List zF} {σ : zW} {x1 : Int} {x2 : Int} {o3 : Option zV} {s0 : Int} {v : Int} : zRet true ((206, 17, [some (.inr (.inr 122)), some (.inl x1), some (.inl x2), o3], [.inl s0, .inr (.inr 176)]) :: K) (some (.inl v)) σ = ((0 ≤ s0 ∧ s0 < 4) ∧ zEv true ((206, 20, [some (.inr (.inr 122)), some (.inl x1), some (.inl x2), o3], []) :: K) (sI σ 176 s0.toNat (w32 (v - 1)))) :=
  yT_rt (yI_iconst zi_206_17 <| yI_isub zi_206_18 <| yI_iastorec zi_206_19 za_176 <| rfl)
theorem zj_206_20 {K : List zF} {σ : zW} {x1 : Int} {x2 : Int} {o3 : Option zV} (hK : K.length < 60) : zEv true ((206, 20, [some (.inr (.inr 122)), some (.inl x1), some (.inl x2), o3], []) :: K) σ = (if x2 < 0 then zRet true K none σ else (0 ≤ x2 ∧ x2 < 4) ∧ ((0 ≤ x2 ∧ x2 < 4) ∧ ((0 ≤ x2 ∧ x2 < 4) ∧ (if (w32 ((gI σ 176 x2.toNat) + 1)) < (gI σ 122 65) then (0 ≤ x2 ∧ x2 < 4) ∧ ((0 ≤ x2 ∧ x2 < 4) ∧ ((0 ≤ (gI σ 145 x2.toNat) ∧ (gI σ 145 x2.toNat) < 8) ∧ zEv true (zent 203 [.inr (.inr 122), .inl x2] :: (206, 75, [some (.inr (.inr 122)), some (.inl x1), some (.inl x2), o3], []) :: K) (sI (sI σ 176 x2.toNat (w32 ((gI σ 176 x2.toNat) + 1))) 174 ((gI σ 145 x2.toNat).toNat) (w32 ((gI σ 176 x2.toNat) + 1))))) else zEv true ((206, 20, [some (.inr (.inr 122)), some (.inl x1), some (.inl (w32 (x2 + (-1)))), o3], []) :: K) (sI σ 176 x2.toNat (w32 ((gI σ 176 x2.toNat) + 1))))))) :=
  yI_iload_n zi_206_20 rfl <| yI_if_lt zi_206_21 <| yBr (yI_ret zi_206_143) (yI_aload_n zi_206_24 rfl <| yI_gf_f (v := 176) zi_206_25 zk_122 rfl <| yI_iload_n zi_206_28 rfl <| yI_dup2_ir zi_206_29 <| yI_ialoadc (v := gI σ 176 x2.toNat) zi_206_30 za_176 rfl <| yI_iconst zi_206_31 <| yI_iadd zi_206_32 <| yI_iastorec zi_206_33 za_176 <| yI_aload_n zi_206_34 rfl <| yI_gf_f (v := 176) zi_206_35 zk_122 rfl <| yI_iload_n zi_206_38 rfl <| yI_ialoadc (v := w32 ((gI σ 176 x2.toNat) + 1)) zi_206_39 za_176 (yGI_hit) <| yI_aload_n zi_206_40 rfl <| yI_gf_i (v := gI σ 122 65) zi_206_41 zk_122 (yGI_nk (by decide)) <| yI_ic_lt zi_206_44 <| yBr (yI_aload_n zi_206_53 rfl <| yI_gf_f (v := 174) zi_206_54 zk_122 rfl <| yI_aload_n zi_206_57 rfl <| yI_gf_f (v := 145) zi_206_58 zk_122 rfl <| yI_iload_n zi_206_61 rfl <| yI_ialoadc (v := gI σ 145 x2.toNat) zi_206_62 za_145 (yGI_nk (by decide)) <| yI_aload_n zi_206_63 rfl <| yI_gf_f (v := 176) zi_206_64 zk_122 rfl <| yI_iload_n zi_206_67 rfl <| yI_ialoadc (v := w32 ((gI σ 176 x2.toNat) + 1)) zi_206_68 za_176 (yGI_hit) <| yI_iastorec zi_206_69 za_174 <| yI_aload_n zi_206_70 rfl <| yI_iload_n zi_206_71 rfl <| yI_cv zi_206_72 rfl rfl zk_122 hK) (yI_iinc (l := [some (.inr (.inr 122)), some (.inl x1), some (.inl (w32 (x2 + (-1)))), o3]) zi_206_47 rfl rfl rfl <| yI_goto zi_206_50 <| rfl))
theorem zr_206_75 {K : List zF} {σ : zW} {x1 : Int} {x2 : Int} {o3 : Option zV} {v : Int} (hK : K.length < 60) : zRet true ((206, 75, [some (.inr (.inr 122)), some (.inl x1), some (.inl x2), o3], []) :: K) (some (.inl v)) σ = (if v = 0 then zEv true ((206, 109, [some (.inr (.inr 122)), some (.inl x1), some (.inl x2), some (.inl v)], []) :: K) σ else if (w32 ((gI σ 122 34) - 1)) ≤ x2 then zEv true ((206, 109, [some (.inr (.inr 122)), some (.inl x1), some (.inl x2), some (.inl v)], []) :: K) σ else zEv true (zent 204 [.inr (.inr 122), .inl (w32 (x2 + 1))] :: (206, 103, [some (.inr (.inr 122)), some (.inl x1), some (.inl (w32 (x2 + 1))), some (.inl v)], [.inl (w32 (x2 + 1)), .inr (.inr 176)]) :: K) σ) :=
  yT_rt (yI_istore_n (l := [some (.inr (.inr 122)), some (.inl x1), some (.inl x2), some (.inl v)]) zi_206_75 rfl rfl <| yI_iload_n zi_206_76 rfl <| yI_if_eq zi_206_77 <| yBr (rfl) (yI_iload_n zi_206_80 rfl <| yI_aload_n zi_206_81 rfl <| yI_gf_i (v := gI σ 122 34) zi_206_82 zk_122 rfl <| yI_iconst zi_206_85 <| yI_isub zi_206_86 <| yI_ic_ge zi_206_87 <| yBr (rfl) (yI_iinc (l := [some (.inr (.inr 122)), some (.inl x1), some (.inl (w32 (x2 + 1))), some (.inl v)]) zi_206_90 rfl rfl rfl <| yI_aload_n zi_206_93 rfl <| yI_gf_f (v := 176) zi_206_94 zk_122 rfl <| yI_iload_n zi_206_97 rfl <| yI_aload_n zi_206_98 rfl <| yI_iload_n zi_206_99 rfl <| yI_cv zi_206_100 rfl rfl zk_122 hK)))
theorem zj_206_109 {K : List zF} {σ : zW} {x1 : Int} {x2 : Int} {x3 : Int} (hK : K.length < 60) : zEv true ((206, 109, [some (.inr (.inr 122)), some (.inl x1), some (.inl x2), some (.inl x3)], []) :: K) σ = (if x3 = 0 then zEv true ((206, 20, [some (.inr (.inr 122)), some (.inl x1), some (.inl x2), some (.inl x3)], []) :: K) σ else zEv true (zent 202 [.inr (.inr 122)] :: (206, 117, [some (.inr (.inr 122)), some (.inl x1), some (.inl x2), some (.inl x3)], []) :: K) σ) :=
  yI_iload_n zi_206_109 rfl <| yI_if_eq zi_206_110 <| yBr (yI_goto zi_206_140 <| rfl) (yI_aload_n zi_206_113 rfl <| yI_cv zi_206_114 rfl rfl zk_122 hK)
theorem zr_206_103 {K : List zF} {σ : zW} {x1 : Int} {x2 : Int} {o3 : Option zV} {s0 : Int} {v : Int} : zRet true ((206, 103, [some (.inr (.inr 122)), some (.inl x1), some (.inl x2), o3], [.inl s0, .inr (.inr 176)]) :: K) (some (.inl v)) σ = ((0 ≤ s0 ∧ s0 < 4) ∧ zEv true ((206, 20, [some (.inr (.inr 122)), some (.inl x1), some (.inl x2), o3], []) :: K) (sI σ 176 s0.toNat (w32 (v - 1)))) :=
  yT_rt (yI_iconst zi_206_103 <| yI_isub zi_206_104 <| yI_iastorec zi_206_105 za_176 <| yI_goto zi_206_106 <| yI_goto zi_206_140 <| rfl)
theorem zr_206_117 {K : List zF} {σ : zW} {x1 : Int} {x2 : Int} {o3 : Option zV} {v : Int} (hK : K.length < 60) : zRet true ((206, 117, [some (.inr (.inr 122)), some (.inl x1), some (.inl x2), o3], []) :: K) (some (.inl v)) σ = (if v = 0 then zEv true ((206, 20, [some (.inr (.inr 122)), some (.inl x1), some (.inl x2), o3], []) :: K) σ else zEv true (zent 205 [.inr (.inr 122)] :: (206, 124, [some (.inr (.inr 122)), some (.inl x1), some (.inl x2), o3], []) :: K) σ) :=
  yT_rt (yI_if_eq zi_206_117 <| yBr (yI_goto zi_206_140 <| rfl) (yI_aload_n zi_206_120 rfl <| yI_cv zi_206_121 rfl rfl zk_122 hK))
theorem zr_206_124 {K : List zF} {σ : zW} {x1 : Int} {x2 : Int} {o3 : Option zV} : zRet true ((206, 124, [some (.inr (.inr 122)), some (.inl x1), some (.inl x2), o3], []) :: K) none σ = (zEv true ((206, 20, [some (.inr (.inr 122)), some (.inl x1), some (.inl (if ¬ (gI σ 122 73) = (w32 (x1 + 1)) then x2 else (-1) : Int)), o3], []) :: K) σ) :=
  yT_rv (yI_aload_n zi_206_124 rfl <| yI_gf_i (v := gI σ 122 73) zi_206_125 zk_122 rfl <| yI_iload_n zi_206_128 rfl <| yI_iconst zi_206_129 <| yI_iadd zi_206_130 <| yI_ic_ne zi_206_131 <| yMi0 (j := 139) (ls2 := [some (.inr (.inr 122)), some (.inl x1), some (.inl x2), o3]) (st2 := []) (x := x2) (y := (-1)) (σ2 := σ) (yI_iload_n zi_206_138 rfl <| rfl) (yI_iconst zi_206_134 <| yI_goto zi_206_135 <| rfl) <| yI_istore_n (l := [some (.inr (.inr 122)), some (.inl x1), some (.inl (if ¬ (gI σ 122 73) = (w32 (x1 + 1)) then x2 else (-1) : Int)), o3]) zi_206_139 rfl rfl <| yI_goto zi_206_140 <| rfl)
/-- 207 TreegrabModel.matchesIn(I)I -/
theorem zi_207_0 : zraw 207 0 = some (.aload_n 0, 1) ∧ 0 + 1 = 1 := by decide +kernel
theorem zi_207_1 : zraw 207 1 = some (.getfield 306, 3) ∧ zft (zinf 207).1 306 = some (10, 18, 0, false) ∧ 1 + 3 = 4 := by decide +kernel
theorem zi_207_4 : zraw 207 4 = some (.ifCond .eq 12, 3) ∧ ((4 : Nat) : Int) + 12 = Int.ofNat 16 ∧ 4 + 3 = 7 := by decide +kernel
theorem zi_207_7 : zraw 207 7 = some (.aload_n 0, 1) ∧ 7 + 1 = 8 := by decide +kernel
theorem zi_207_8 : zraw 207 8 = some (.getfield 13, 3) ∧ zft (zinf 207).1 13 = some (10, 8, 3, true) ∧ 8 + 3 = 11 := by decide +kernel
theorem zi_207_11 : zraw 207 11 = some (.iload_n 1, 1) ∧ 11 + 1 = 12 := by decide +kernel
theorem zi_207_12 : zraw 207 12 = some (.iaload, 1) ∧ 12 + 1 = 13 := by decide +kernel
theorem zi_207_13 : zraw 207 13 = some (.ifCond .ne 5, 3) ∧ ((13 : Nat) : Int) + 5 = Int.ofNat 18 ∧ 13 + 3 = 16 := by decide +kernel
theorem zi_207_16 : zraw 207 16 = some (.iconst 0, 1) ∧ zin 128 0 = true ∧ 16 + 1 = 17 := by decide +kernel
theorem zi_207_17 : zraw 207 17 = some (.ireturn, 1) ∧ (zinf 207).2.2.2.1 = 1 := by decide +kernel
theorem zi_207_18 : zraw 207 18 = some (.aload_n 0, 1) ∧ 18 + 1 = 19 := by decide +kernel
theorem zi_207_19 : zraw 207 19 = some (.iload_n 1, 1) ∧ 19 + 1 = 20 := by decide +kernel
theorem zi_207_20 : zraw 207 20 = some (.invokevirtual 402, 3) ∧ zmt (zinf 207).1 402 = some 180 ∧ Nat.ble 9000 180 = false ∧ zinf 180 = (10, 2, 6, 0, 0) ∧ 20 + 3 = 23 := by decide +kernel
theorem zi_207_23 : zraw 207 23 = some (.aload_n 0, 1) ∧ 23 + 1 = 24 := by decide +kernel
theorem zi_207_24 : zraw 207 24 = some (.getfield 392, 3) ∧ zft (zinf 207).1 392 = some (10, 75, 1, false) ∧ 24 + 3 = 27 := by decide +kernel
theorem zi_207_27 : zraw 207 27 = some (.ifCond .ne 14, 3) ∧ ((27 : Nat) : Int) + 14 = Int.ofNat 41 ∧ 27 + 3 = 30 := by decide +kernel
theorem zi_207_30 : zraw 207 30 = some (.aload_n 0, 1) ∧ 30 + 1 = 31 := by decide +kernel
theorem zi_207_31 : zraw 207 31 = some (.bipush (-2), 2) ∧ zin 128 (-2) = true ∧ 31 + 2 = 33 := by decide +kernel
theorem zi_207_33 : zraw 207 33 = some (.invokevirtual 467, 3) ∧ zmt (zinf 207).1 467 = some 206 ∧ Nat.ble 9000 206 = false ∧ zinf 206 = (10, 2, 4, 0, 0) ∧ 33 + 3 = 36 := by decide +kernel
theorem zi_207_36 : zraw 207 36 = some (.aload_n 0, 1) ∧ 36 + 1 = 37 := by decide +kernel
theorem zi_207_37 : zraw 207 37 = some (.iconst 1, 1) ∧ zin 128 1 = true ∧ 37 + 1 = 38 := by decide +kernel
theorem zi_207_38 : zraw 207 38 = some (.putfield 392, 3) ∧ zft (zinf 207).1 392 = some (10, 75, 1, false) ∧ 38 + 3 = 41 := by decide +kernel
theorem zi_207_41 : zraw 207 41 = some (.aload_n 0, 1) ∧ 41 + 1 = 42 := by decide +kernel
theorem zi_207_42 : zraw 207 42 = some (.getfield 452, 3) ∧ zft (zinf 207).1 452 = some (10, 73, 0, false) ∧ 42 + 3 = 45 := by decide +kernel
theorem zi_207_45 : zraw 207 45 = some (.ireturn, 1) ∧ (zinf 207).2.2.2.1 = 1 := by decide +kernel
theorem ze_207 {K : List zF} {σ : zW} {x1 : Int} (hK : K.length < 60) : zEv true (zent 207 [.inr (.inr 122), .inl x1] :: K) σ = (if (gI σ 122 18) = 0 then zRet true K (some (.inl 0)) σ else (0 ≤ x1 ∧ x1 < 3) ∧ (if ¬ (gI σ 124 x1.toNat) = 0 then zEv true (zent 180 [.inr (.inr 122), .inl x1] :: (207, 23, [some (.inr (.inr 122)), some (.inl x1)], []) :: K) σ else zRet true K (some (.inl 0)) σ)) :=
  yT_en (f := (207, 0, [some (.inr (.inr 122)), some (.inl x1)], [])) rfl (yI_aload_n zi_207_0 rfl <| yI_gf_i (v := gI σ 122 18) zi_207_1 zk_122 rfl <| yI_if_eq zi_207_4 <| yBr (yI_iconst zi_207_16 <| yI_ireturn zi_207_17) (yI_aload_n zi_207_7 rfl <| yI_gf_f (v := 124) zi_207_8 zk_122 rfl <| yI_iload_n zi_207_11 rfl <| yI_ialoadc (v := gI σ 124 x1.toNat) zi_207_12 za_124 rfl <| yI_if_ne zi_207_13 <| yBr (yI_aload_n zi_207_18 rfl <| yI_iload_n zi_207_19 rfl <| yI_cv zi_207_20 rfl rfl zk_122 hK) (yI_iconst zi_207_16 <| yI_ireturn zi_207_17)))
theorem zr_207_23 {K : List zF} {σ : zW} {o1 : Option zV} (hK : K.length < 60) : zRet true ((207, 23, [some (.inr (.inr 122)), o1], []) :: K) none σ = (if ¬ (gI σ 122 75) = 0 then zEv true ((207, 41, [some (.inr (.inr 122)), o1], []) :: K) σ else zEv true (zent 206 [.inr (.inr 122), .inl (-2)] :: (207, 36, [some (.inr (.inr 122)), o1], []) :: K) σ) :=
  yT_rv (yI_aload_n zi_207_23 rfl <| yI_gf_z (v := gI σ 122 75) zi_207_24 zk_122 rfl <| yI_if_ne zi_207_27 <| yBr (rfl) (yI_aload_n zi_207_30 rfl <| yI_bipush zi_207_31 <| yI_cv zi_207_33 rfl rfl zk_122 hK))
theorem zj_207_41 {K : List zF} {σ : zW} {o1 : Option zV} : zEv true ((207, 41, [some (.inr (.inr 122)), o1], []) :: K) σ = (zRet true K (some (.inl (gI σ 122 73))) σ) :=
  yI_aload_n zi_207_41 rfl <| yI_gf_i (v := gI σ 122 73) zi_207_42 zk_122 rfl <| yI_ireturn zi_207_45
theorem zr_207_36 {K : List zF} {σ : zW} {o1 : Option zV} : zRet true ((207, 36, [some (.inr (.inr 122)), o1], []) :: K) none σ = (zEv true ((207, 41, [some (.inr (.inr 122)), o1], []) :: K) (sI σ 122 75 1)) :=
  yT_rv (yI_aload_n zi_207_36 rfl <| yI_iconst zi_207_37 <| yI_pf_b zi_207_38 zk_122 (by decide) <| rfl)
/-- 208 TreegrabModel.matches(I)I -/
theorem zi_208_0 : zraw 208 0 = some (.aload_n 0, 1) ∧ 0 + 1 = 1 := by decide +kernel
theorem zi_208_1 : zraw 208 1 = some (.iload_n 1, 1) ∧ 1 + 1 = 2 := by decide +kernel
theorem zi_208_2 : zraw 208 2 = some (.invokestatic 358, 3) ∧ zmt (zinf 208).1 358 = some 143 ∧ Nat.ble 9000 143 = false ∧ zinf 143 = (10, 1, 1, 2, 1) ∧ 2 + 3 = 5 := by decide +kernel
theorem zi_208_5 : zraw 208 5 = some (.ifCond .eq 7, 3) ∧ ((5 : Nat) : Int) + 7 = Int.ofNat 12 ∧ 5 + 3 = 8 := by decide +kernel
theorem zi_208_8 : zraw 208 8 = some (.iconst 0, 1) ∧ zin 128 0 = true ∧ 8 + 1 = 9 := by decide +kernel
theorem zi_208_9 : zraw 208 9 = some (.goto 4, 3) ∧ ((9 : Nat) : Int) + 4 = Int.ofNat 13 := by decide +kernel
theorem zi_208_12 : zraw 208 12 = some (.iconst 1, 1) ∧ zin 128 1 = true ∧ 12 + 1 = 13 := by decide +kernel
theorem zi_208_13 : zraw 208 13 = some (.invokevirtual 353, 3) ∧ zmt (zinf 208).1 353 = some 141 ∧ Nat.ble 9000 141 = false ∧ zinf 141 = (10, 2, 2, 2, 0) ∧ 13 + 3 = 16 := by decide +kernel
theorem zi_208_16 : zraw 208 16 = some (.ifCond .eq 11, 3) ∧ ((16 : Nat) : Int) + 11 = Int.ofNat 27 ∧ 16 + 3 = 19 := by decide +kernel
theorem zi_208_19 : zraw 208 19 = some (.aload_n 0, 1) ∧ 19 + 1 = 20 := by decide +kernel
theorem zi_208_20 : zraw 208 20 = some (.iload_n 1, 1) ∧ 20 + 1 = 21 := by decide +kernel
theorem zi_208_21 : zraw 208 21 = some (.invokevirtual 470, 3) ∧ zmt (zinf 208).1 470 = some 207 ∧ Nat.ble 9000 207 = false ∧ zinf 207 = (10, 2, 2, 1, 0) ∧ 21 + 3 = 24 := by decide +kernel
theorem zi_208_24 : zraw 208 24 = some (.goto 4, 3) ∧ ((24 : Nat) : Int) + 4 = Int.ofNat 28 := by decide +kernel
theorem zi_208_27 : zraw 208 27 = some (.iconst 0, 1) ∧ zin 128 0 = true ∧ 27 + 1 = 28 := by decide +kernel
theorem zi_208_28 : zraw 208 28 = some (.ireturn, 1) ∧ (zinf 208).2.2.2.1 = 1 := by decide +kernel
theorem ze_208 {K : List zF} {σ : zW} {x1 : Int} (hK : K.length < 60) : zEv true (zent 208 [.inr (.inr 122), .inl x1] :: K) σ = (zEv true (zent 143 [.inl x1] :: (208, 5, [some (.inr (.inr 122)), some (.inl x1)], [.inr (.inr 122)]) :: K) σ) :=
  yT_en (f := (208, 0, [some (.inr (.inr 122)), some (.inl x1)], [])) rfl (yI_aload_n zi_208_0 rfl <| yI_iload_n zi_208_1 rfl <| yI_cs zi_208_2 rfl rfl hK)
theorem zr_208_5 {K : List zF} {σ : zW} {x1 : Int} {v : Int} (hK : K.length < 60) : zRet true ((208, 5, [some (.inr (.inr 122)), some (.inl x1)], [.inr (.inr 122)]) :: K) (some (.inl v)) σ = (zEv true (zent 141 [.inr (.inr 122), .inl (if v = 0 then 1 else 0 : Int)] :: (208, 16, [some (.inr (.inr 122)), some (.inl x1)], []) :: K) σ) :=
  yT_rt (yI_if_eq zi_208_5 <| yMi0 (j := 13) (ls2 := [some (.inr (.inr 122)), some (.inl x1)]) (st2 := [.inr (.inr 122)]) (x := 1) (y := 0) (σ2 := σ) (yI_iconst zi_208_12 <| rfl) (yI_iconst zi_208_8 <| yI_goto zi_208_9 <| rfl) <| yI_cv zi_208_13 rfl rfl zk_122 hK)
theorem zr_208_16 {K : List zF} {σ : zW} {x1 : Int} {v : Int} (hK : K.length < 60) : zRet true ((208, 16, [some (.inr (.inr 122)), some (.inl x1)], []) :: K) (some (.inl v)) σ = (if v = 0 then zRet true K (some (.inl 0)) σ else zEv true (zent 207 [.inr (.inr 122), .inl x1] :: (208, 24, [some (.inr (.inr 122)), some (.inl x1)], []) :: K) σ) :=
  yT_rt (yI_if_eq zi_208_16 <| yBr (yI_iconst zi_208_27 <| yI_ireturn zi_208_28) (yI_aload_n zi_208_19 rfl <| yI_iload_n zi_208_20 rfl <| yI_cv zi_208_21 rfl rfl zk_122 hK))
theorem zr_208_24 {K : List zF} {σ : zW} {o0 : Option zV} {o1 : Option zV} {v : Int} : zRet true ((208, 24, [o0, o1], []) :: K) (some (.inl v)) σ = (zRet true K (some (.inl v)) σ) :=
  yT_rt (yI_goto zi_208_24 <| yI_ireturn zi_208_28)
/-- 209 TreegrabModel.matchesByTrying(I)I -/
theorem zi_209_0 : zraw 209 0 = some (.aload_n 0, 1) ∧ 0 + 1 = 1 := by decide +kernel
theorem zi_209_1 : zraw 209 1 = some (.iload_n 1, 1) ∧ 1 + 1 = 2 := by decide +kernel
theorem zi_209_2 : zraw 209 2 = some (.invokestatic 358, 3) ∧ zmt (zinf 209).1 358 = some 143 ∧ Nat.ble 9000 143 = false ∧ zinf 143 = (10, 1, 1, 2, 1) ∧ 2 + 3 = 5 := by decide +kernel
theorem zi_209_5 : zraw 209 5 = some (.ifCond .eq 7, 3) ∧ ((5 : Nat) : Int) + 7 = Int.ofNat 12 ∧ 5 + 3 = 8 := by decide +kernel
theorem zi_209_8 : zraw 209 8 = some (.iconst 0, 1) ∧ zin 128 0 = true ∧ 8 + 1 = 9 := by decide +kernel
theorem zi_209_9 : zraw 209 9 = some (.goto 4, 3) ∧ ((9 : Nat) : Int) + 4 = Int.ofNat 13 := by decide +kernel
theorem zi_209_12 : zraw 209 12 = some (.iconst 1, 1) ∧ zin 128 1 = true ∧ 12 + 1 = 13 := by decide +kernel
theorem zi_209_13 : zraw 209 13 = some (.invokevirtual 353, 3) ∧ zmt (zinf 209).1 353 = some 141 ∧ Nat.ble 9000 141 = false ∧ zinf 141 = (10, 2, 2, 2, 0) ∧ 13 + 3 = 16 := by decide +kernel
theorem zi_209_16 : zraw 209 16 = some (.ifCond .eq 11, 3) ∧ ((16 : Nat) : Int) + 11 = Int.ofNat 27 ∧ 16 + 3 = 19 := by decide +kernel
theorem zi_209_19 : zraw 209 19 = some (.aload_n 0, 1) ∧ 19 + 1 = 20 := by decide +kernel
theorem zi_209_20 : zraw 209 20 = some (.iload_n 1, 1) ∧ 20 + 1 = 21 := by decide +kernel
theorem zi_209_21 : zraw 209 21 = some (.invokevirtual 470, 3) ∧ zmt (zinf 209).1 470 = some 207 ∧ Nat.ble 9000 207 = false ∧ zinf 207 = (10, 2, 2, 1, 0) ∧ 21 + 3 = 24 := by decide +kernel
theorem zi_209_24 : zraw 209 24 = some (.goto 4, 3) ∧ ((24 : Nat) : Int) + 4 = Int.ofNat 28 := by decide +kernel
theorem zi_209_27 : zraw 209 27 = some (.iconst 0, 1) ∧ zin 128 0 = true ∧ 27 + 1 = 28 := by decide +kernel
theorem zi_209_28 : zraw 209 28 = some (.ireturn, 1) ∧ (zinf 209).2.2.2.1 = 1 := by decide +kernel
theorem ze_209 {K : List zF} {σ : zW} {x1 : Int} (hK : K.length < 60) : zEv true (zent 209 [.inr (.inr 122), .inl x1] :: K) σ = (zEv true (zent 143 [.inl x1] :: (209, 5, [some (.inr (.inr 122)), some (.inl x1)], [.inr (.inr 122)]) :: K) σ) :=
  yT_en (f := (209, 0, [some (.inr (.inr 122)), some (.inl x1)], [])) rfl (yI_aload_n zi_209_0 rfl <| yI_iload_n zi_209_1 rfl <| yI_cs zi_209_2 rfl rfl hK)
theorem zr_209_5 {K : List zF} {σ : zW} {x1 : Int} {v : Int} (hK : K.length < 60) : zRet true ((209, 5, [some (.inr (.inr 122)), some (.inl x1)], [.inr (.inr 122)]) :: K) (some (.inl v)) σ = (zEv true (zent 141 [.inr (.inr 122), .inl (if v = 0 then 1 else 0 : Int)] :: (209, 16, [some (.inr (.inr 122)), some (.inl x1)], []) :: K) σ) :=
  yT_rt (yI_if_eq zi_209_5 <| yMi0 (j := 13) (ls2 := [some (.inr (.inr 122)), some (.inl x1)]) (st2 := [.inr (.inr 122)]) (x := 1) (y := 0) (σ2 := σ) (yI_iconst zi_209_12 <| rfl) (yI_iconst zi_209_8 <| yI_goto zi_209_9 <| rfl) <| yI_cv zi_209_13 rfl rfl zk_122 hK)
theorem zr_209_16 {K : List zF} {σ : zW} {x1 : Int} {v : Int} (hK : K.length < 60) : zRet true ((209, 16, [some (.inr (.inr 122)), some (.inl x1)], []) :: K) (some (.inl v)) σ = (if v = 0 then zRet true K (some (.inl 0)) σ else zEv true (zent 207 [.inr (.inr 122), .inl x1] :: (209, 24, [some (.inr (.inr 122)), some (.inl x1)], []) :: K) σ) :=
  yT_rt (yI_if_eq zi_209_16 <| yBr (yI_iconst zi_209_27 <| yI_ireturn zi_209_28) (yI_aload_n zi_209_19 rfl <| yI_iload_n zi_209_20 rfl <| yI_cv zi_209_21 rfl rfl zk_122 hK))
theorem zr_209_24 {K : List zF} {σ : zW} {o0 : Option zV} {o1 : Option zV} {v : Int} : zRet true ((209, 24, [o0, o1], []) :: K) (some (.inl v)) σ = (zRet true K (some (.inl v)) σ) :=
  yT_rt (yI_goto zi_209_24 <| yI_ireturn zi_209_28)
/-- 210 TreegrabModel.gives(I)V -/
theorem zi_210_0 : zraw 210 0 = some (.iload_n 1, 1) ∧ 0 + 1 = 1 := by decide +kernel
theorem zi_210_1 : zraw 210 1 = some (.sipush 4096, 3) ∧ zin 32768 4096 = true ∧ 1 + 3 = 4 := by decide +kernel
theorem zi_210_4 : zraw 210 4 = some (.if_icmp .ge 48, 3) ∧ ((4 : Nat) : Int) + 48 = Int.ofNat 52 ∧ 4 + 3 = 7 := by decide +kernel
theorem zi_210_7 : zraw 210 7 = some (.iconst 0, 1) ∧ zin 128 0 = true ∧ 7 + 1 = 8 := by decide +kernel
theorem zi_210_8 : zraw 210 8 = some (.istore_n 2, 1) ∧ 8 + 1 = 9 := by decide +kernel
theorem zi_210_9 : zraw 210 9 = some (.iload_n 2, 1) ∧ 9 + 1 = 10 := by decide +kernel
theorem zi_210_10 : zraw 210 10 = some (.aload_n 0, 1) ∧ 10 + 1 = 11 := by decide +kernel
theorem zi_210_11 : zraw 210 11 = some (.getfield 312, 3) ∧ zft (zinf 210).1 312 = some (10, 34, 0, false) ∧ 11 + 3 = 14 := by decide +kernel
theorem zi_210_14 : zraw 210 14 = some (.if_icmp .ge 35, 3) ∧ ((14 : Nat) : Int) + 35 = Int.ofNat 49 ∧ 14 + 3 = 17 := by decide +kernel
theorem zi_210_17 : zraw 210 17 = some (.aload_n 0, 1) ∧ 17 + 1 = 18 := by decide +kernel
theorem zi_210_18 : zraw 210 18 = some (.getfield 169, 3) ∧ zft (zinf 210).1 169 = some (10, 70, 3, true) ∧ 18 + 3 = 21 := by decide +kernel
theorem zi_210_21 : zraw 210 21 = some (.aload_n 0, 1) ∧ 21 + 1 = 22 := by decide +kernel
theorem zi_210_22 : zraw 210 22 = some (.getfield 78, 3) ∧ zft (zinf 210).1 78 = some (10, 33, 3, true) ∧ 22 + 3 = 25 := by decide +kernel
theorem zi_210_25 : zraw 210 25 = some (.iload_n 2, 1) ∧ 25 + 1 = 26 := by decide +kernel
theorem zi_210_26 : zraw 210 26 = some (.iaload, 1) ∧ 26 + 1 = 27 := by decide +kernel
theorem zi_210_27 : zraw 210 27 = some (.aload_n 0, 1) ∧ 27 + 1 = 28 := by decide +kernel
theorem zi_210_28 : zraw 210 28 = some (.getfield 178, 3) ∧ zft (zinf 210).1 178 = some (10, 74, 3, true) ∧ 28 + 3 = 31 := by decide +kernel
theorem zi_210_31 : zraw 210 31 = some (.iload_n 1, 1) ∧ 31 + 1 = 32 := by decide +kernel
theorem zi_210_32 : zraw 210 32 = some (.iaload, 1) ∧ 32 + 1 = 33 := by decide +kernel
theorem zi_210_33 : zraw 210 33 = some (.iconst 5, 1) ∧ zin 128 5 = true ∧ 33 + 1 = 34 := by decide +kernel
theorem zi_210_34 : zraw 210 34 = some (.iload_n 2, 1) ∧ 34 + 1 = 35 := by decide +kernel
theorem zi_210_35 : zraw 210 35 = some (.imul, 1) ∧ 35 + 1 = 36 := by decide +kernel
theorem zi_210_36 : zraw 210 36 = some (.ishr, 1) ∧ 36 + 1 = 37 := by decide +kernel
theorem zi_210_37 : zraw 210 37 = some (.bipush 31, 2) ∧ zin 128 31 = true ∧ 37 + 2 = 39 := by decide +kernel
theorem zi_210_39 : zraw 210 39 = some (.iand, 1) ∧ 39 + 1 = 40 := by decide +kernel
theorem zi_210_40 : zraw 210 40 = some (.iconst 1, 1) ∧ zin 128 1 = true ∧ 40 + 1 = 41 := by decide +kernel
theorem zi_210_41 : zraw 210 41 = some (.isub, 1) ∧ 41 + 1 = 42 := by decide +kernel
theorem zi_210_42 : zraw 210 42 = some (.iastore, 1) ∧ 42 + 1 = 43 := by decide +kernel
theorem zi_210_43 : zraw 210 43 = some (.iinc 2 1, 3) ∧ zin 32768 1 = true ∧ 43 + 3 = 46 := by decide +kernel
theorem zi_210_46 : zraw 210 46 = some (.goto (-37), 3) ∧ ((46 : Nat) : Int) + (-37) = Int.ofNat 9 := by decide +kernel
theorem zi_210_49 : zraw 210 49 = some (.goto 13, 3) ∧ ((49 : Nat) : Int) + 13 = Int.ofNat 62 := by decide +kernel
theorem zi_210_52 : zraw 210 52 = some (.aload_n 0, 1) ∧ 52 + 1 = 53 := by decide +kernel
theorem zi_210_53 : zraw 210 53 = some (.iload_n 1, 1) ∧ 53 + 1 = 54 := by decide +kernel
theorem zi_210_54 : zraw 210 54 = some (.invokevirtual 467, 3) ∧ zmt (zinf 210).1 467 = some 206 ∧ Nat.ble 9000 206 = false ∧ zinf 206 = (10, 2, 4, 0, 0) ∧ 54 + 3 = 57 := by decide +kernel
theorem zi_210_57 : zraw 210 57 = some (.aload_n 0, 1) ∧ 57 + 1 = 58 := by decide +kernel
theorem zi_210_58 : zraw 210 58 = some (.iconst 0, 1) ∧ zin 128 0 = true ∧ 58 + 1 = 59 := by decide +kernel
theorem zi_210_59 : zraw 210 59 = some (.putfield 392, 3) ∧ zft (zinf 210).1 392 = some (10, 75, 1, false) ∧ 59 + 3 = 62 := by decide +kernel
theorem zi_210_62 : zraw 210 62 = some (.return_, 1) ∧ (zinf 210).2.2.2.1 = 0 := by decide +kernel
theorem ze_210 {K : List zF} {σ : zW} {x1 : Int} (hK : K.length < 60) : zEv true (zent 210 [.inr (.inr 122), .inl x1] :: K) σ = (if 4096 ≤ x1 then zEv true (zent 206 [.inr (.inr 122), .inl x1] :: (210, 57, [some (.inr (.inr 122)), some (.inl x1), none], []) :: K) σ else zEv true ((210, 9, [some (.inr (.inr 122)), some (.inl x1), some (.inl 0)], []) :: K) σ) :=
  yT_en (f := (210, 0, [some (.inr (.inr 122)), some (.inl x1), none], [])) rfl (yI_iload_n zi_210_0 rfl <| yI_sipush zi_210_1 <| yI_ic_ge zi_210_4 <| yBr (yI_aload_n zi_210_52 rfl <| yI_iload_n zi_210_53 rfl <| yI_cv zi_210_54 rfl rfl zk_122 hK) (yI_iconst zi_210_7 <| yI_istore_n (l := [some (.inr (.inr 122)), some (.inl x1), some (.inl 0)]) zi_210_8 rfl rfl <| rfl))
theorem zr_210_57 {K : List zF} {σ : zW} {o1 : Option zV} {o2 : Option zV} : zRet true ((210, 57, [some (.inr (.inr 122)), o1, o2], []) :: K) none σ = (zRet true K none (sI σ 122 75 0)) :=
  yT_rv (yI_aload_n zi_210_57 rfl <| yI_iconst zi_210_58 <| yI_pf_b zi_210_59 zk_122 (by decide) <| yI_ret zi_210_62)
theorem zj_210_9 {K : List zF} {σ : zW} {x1 : Int} {x2 : Int} : zEv true ((210, 9, [some (.inr (.inr 122)), some (.inl x1), some (.inl x2)], []) :: K) σ = (if (gI σ 122 34) ≤ x2 then zRet true K none σ else (0 ≤ x2 ∧ x2 < 4) ∧ ((0 ≤ x1 ∧ x1 < 4096) ∧ ((0 ≤ (gI σ 145 x2.toNat) ∧ (gI σ 145 x2.toNat) < 8) ∧ zEv true ((210, 9, [some (.inr (.inr 122)), some (.inl x1), some (.inl (w32 (x2 + 1)))], []) :: K) (sI σ 174 ((gI σ 145 x2.toNat).toNat) (w32 ((zand (zshr (gI σ 177 x1.toNat) (w32 (5 * x2))) 31) - 1)))))) :=
  yI_iload_n zi_210_9 rfl <| yI_aload_n zi_210_10 rfl <| yI_gf_i (v := gI σ 122 34) zi_210_11 zk_122 rfl <| yI_ic_ge zi_210_14 <| yBr (yI_goto zi_210_49 <| yI_ret zi_210_62) (yI_aload_n zi_210_17 rfl <| yI_gf_f (v := 174) zi_210_18 zk_122 rfl <| yI_aload_n zi_210_21 rfl <| yI_gf_f (v := 145) zi_210_22 zk_122 rfl <| yI_iload_n zi_210_25 rfl <| yI_ialoadc (v := gI σ 145 x2.toNat) zi_210_26 za_145 rfl <| yI_aload_n zi_210_27 rfl <| yI_gf_f (v := 177) zi_210_28 zk_122 rfl <| yI_iload_n zi_210_31 rfl <| yI_ialoadc (v := gI σ 177 x1.toNat) zi_210_32 za_177 rfl <| yI_iconst zi_210_33 <| yI_iload_n zi_210_34 rfl <| yI_imul zi_210_35 <| yI_ishr zi_210_36 <| yI_bipush zi_210_37 <| yI_iand zi_210_39 <| yI_iconst zi_210_40 <| yI_isub zi_210_41 <| yI_iastorec zi_210_42 za_174 <| yI_iinc (l := [some (.inr (.inr 122)), some (.inl x1), some (.inl (w32 (x2 + 1)))]) zi_210_43 rfl rfl rfl <| yI_goto zi_210_46 <| rfl)
/-- 211 TreegrabModel.givenBy(III)I -/
theorem zi_211_0 : zraw 211 0 = some (.iload_n 1, 1) ∧ 0 + 1 = 1 := by decide +kernel
theorem zi_211_1 : zraw 211 1 = some (.invokestatic 358, 3) ∧ zmt (zinf 211).1 358 = some 143 ∧ Nat.ble 9000 143 = false ∧ zinf 143 = (10, 1, 1, 2, 1) ∧ 1 + 3 = 4 := by decide +kernel
theorem zi_211_4 : zraw 211 4 = some (.ifCond .eq 25, 3) ∧ ((4 : Nat) : Int) + 25 = Int.ofNat 29 ∧ 4 + 3 = 7 := by decide +kernel
theorem zi_211_7 : zraw 211 7 = some (.iload_n 3, 1) ∧ 7 + 1 = 8 := by decide +kernel
theorem zi_211_8 : zraw 211 8 = some (.iconst 0, 1) ∧ zin 128 0 = true ∧ 8 + 1 = 9 := by decide +kernel
theorem zi_211_9 : zraw 211 9 = some (.aload_n 0, 1) ∧ 9 + 1 = 10 := by decide +kernel
theorem zi_211_10 : zraw 211 10 = some (.getfield 312, 3) ∧ zft (zinf 211).1 312 = some (10, 34, 0, false) ∧ 10 + 3 = 13 := by decide +kernel
theorem zi_211_13 : zraw 211 13 = some (.iconst 1, 1) ∧ zin 128 1 = true ∧ 13 + 1 = 14 := by decide +kernel
theorem zi_211_14 : zraw 211 14 = some (.isub, 1) ∧ 14 + 1 = 15 := by decide +kernel
theorem zi_211_15 : zraw 211 15 = some (.invokestatic 208, 3) ∧ zmt (zinf 211).1 208 = some 142 ∧ Nat.ble 9000 142 = false ∧ zinf 142 = (10, 3, 3, 2, 1) ∧ 15 + 3 = 18 := by decide +kernel
theorem zi_211_18 : zraw 211 18 = some (.ifCond .eq 11, 3) ∧ ((18 : Nat) : Int) + 11 = Int.ofNat 29 ∧ 18 + 3 = 21 := by decide +kernel
theorem zi_211_21 : zraw 211 21 = some (.iload_n 2, 1) ∧ 21 + 1 = 22 := by decide +kernel
theorem zi_211_22 : zraw 211 22 = some (.ifCond .lt 7, 3) ∧ ((22 : Nat) : Int) + 7 = Int.ofNat 29 ∧ 22 + 3 = 25 := by decide +kernel
theorem zi_211_25 : zraw 211 25 = some (.iconst 1, 1) ∧ zin 128 1 = true ∧ 25 + 1 = 26 := by decide +kernel
theorem zi_211_26 : zraw 211 26 = some (.goto 4, 3) ∧ ((26 : Nat) : Int) + 4 = Int.ofNat 30 := by decide +kernel
theorem zi_211_29 : zraw 211 29 = some (.iconst 0, 1) ∧ zin 128 0 = true ∧ 29 + 1 = 30 := by decide +kernel
theorem zi_211_30 : zraw 211 30 = some (.istore 4, 2) ∧ 30 + 2 = 32 := by decide +kernel
theorem zi_211_32 : zraw 211 32 = some (.iload 4, 2) ∧ 32 + 2 = 34 := by decide +kernel
theorem zi_211_34 : zraw 211 34 = some (.ifCond .eq 11, 3) ∧ ((34 : Nat) : Int) + 11 = Int.ofNat 45 ∧ 34 + 3 = 37 := by decide +kernel
theorem zi_211_37 : zraw 211 37 = some (.aload_n 0, 1) ∧ 37 + 1 = 38 := by decide +kernel
theorem zi_211_38 : zraw 211 38 = some (.iload_n 1, 1) ∧ 38 + 1 = 39 := by decide +kernel
theorem zi_211_39 : zraw 211 39 = some (.invokevirtual 470, 3) ∧ zmt (zinf 211).1 470 = some 207 ∧ Nat.ble 9000 207 = false ∧ zinf 207 = (10, 2, 2, 1, 0) ∧ 39 + 3 = 42 := by decide +kernel
theorem zi_211_42 : zraw 211 42 = some (.goto 4, 3) ∧ ((42 : Nat) : Int) + 4 = Int.ofNat 46 := by decide +kernel
theorem zi_211_45 : zraw 211 45 = some (.iconst 0, 1) ∧ zin 128 0 = true ∧ 45 + 1 = 46 := by decide +kernel
theorem zi_211_46 : zraw 211 46 = some (.istore 5, 2) ∧ 46 + 2 = 48 := by decide +kernel
theorem zi_211_48 : zraw 211 48 = some (.aload_n 0, 1) ∧ 48 + 1 = 49 := by decide +kernel
theorem zi_211_49 : zraw 211 49 = some (.iload 4, 2) ∧ 49 + 2 = 51 := by decide +kernel
theorem zi_211_51 : zraw 211 51 = some (.ifCond .eq 13, 3) ∧ ((51 : Nat) : Int) + 13 = Int.ofNat 64 ∧ 51 + 3 = 54 := by decide +kernel
theorem zi_211_54 : zraw 211 54 = some (.iload_n 2, 1) ∧ 54 + 1 = 55 := by decide +kernel
theorem zi_211_55 : zraw 211 55 = some (.iload 5, 2) ∧ 55 + 2 = 57 := by decide +kernel
theorem zi_211_57 : zraw 211 57 = some (.if_icmp .ge 7, 3) ∧ ((57 : Nat) : Int) + 7 = Int.ofNat 64 ∧ 57 + 3 = 60 := by decide +kernel
theorem zi_211_60 : zraw 211 60 = some (.iconst 0, 1) ∧ zin 128 0 = true ∧ 60 + 1 = 61 := by decide +kernel
theorem zi_211_61 : zraw 211 61 = some (.goto 4, 3) ∧ ((61 : Nat) : Int) + 4 = Int.ofNat 65 := by decide +kernel
theorem zi_211_64 : zraw 211 64 = some (.iconst 1, 1) ∧ zin 128 1 = true ∧ 64 + 1 = 65 := by decide +kernel
theorem zi_211_65 : zraw 211 65 = some (.invokevirtual 353, 3) ∧ zmt (zinf 211).1 353 = some 141 ∧ Nat.ble 9000 141 = false ∧ zinf 141 = (10, 2, 2, 2, 0) ∧ 65 + 3 = 68 := by decide +kernel
theorem zi_211_68 : zraw 211 68 = some (.ifCond .ne 5, 3) ∧ ((68 : Nat) : Int) + 5 = Int.ofNat 73 ∧ 68 + 3 = 71 := by decide +kernel
theorem zi_211_71 : zraw 211 71 = some (.iconst 0, 1) ∧ zin 128 0 = true ∧ 71 + 1 = 72 := by decide +kernel
theorem zi_211_72 : zraw 211 72 = some (.ireturn, 1) ∧ (zinf 211).2.2.2.1 = 1 := by decide +kernel
theorem zi_211_73 : zraw 211 73 = some (.aload_n 0, 1) ∧ 73 + 1 = 74 := by decide +kernel
theorem zi_211_74 : zraw 211 74 = some (.iload_n 2, 1) ∧ 74 + 1 = 75 := by decide +kernel
theorem zi_211_75 : zraw 211 75 = some (.invokevirtual 473, 3) ∧ zmt (zinf 211).1 473 = some 210 ∧ Nat.ble 9000 210 = false ∧ zinf 210 = (10, 2, 3, 0, 0) ∧ 75 + 3 = 78 := by decide +kernel
theorem zi_211_78 : zraw 211 78 = some (.aload_n 0, 1) ∧ 78 + 1 = 79 := by decide +kernel
theorem zi_211_79 : zraw 211 79 = some (.getfield 169, 3) ∧ zft (zinf 211).1 169 = some (10, 70, 3, true) ∧ 79 + 3 = 82 := by decide +kernel
theorem zi_211_82 : zraw 211 82 = some (.aload_n 0, 1) ∧ 82 + 1 = 83 := by decide +kernel
theorem zi_211_83 : zraw 211 83 = some (.getfield 78, 3) ∧ zft (zinf 211).1 78 = some (10, 33, 3, true) ∧ 83 + 3 = 86 := by decide +kernel
theorem zi_211_86 : zraw 211 86 = some (.iload_n 3, 1) ∧ 86 + 1 = 87 := by decide +kernel
theorem zi_211_87 : zraw 211 87 = some (.iaload, 1) ∧ 87 + 1 = 88 := by decide +kernel
theorem zi_211_88 : zraw 211 88 = some (.iaload, 1) ∧ 88 + 1 = 89 := by decide +kernel
theorem zi_211_89 : zraw 211 89 = some (.ireturn, 1) ∧ (zinf 211).2.2.2.1 = 1 := by decide +kernel
theorem ze_211 {K : List zF} {σ : zW} {x1 : Int} {x2 : Int} {x3 : Int} (hK : K.length < 60) : zEv true (zent 211 [.inr (.inr 122), .inl x1, .inl x2, .inl x3] :: K) σ = (zEv true (zent 143 [.inl x1] :: (211, 4, [some (.inr (.inr 122)), some (.inl x1), some (.inl x2), some (.inl x3), none, none], []) :: K) σ) :=
  yT_en (f := (211, 0, [some (.inr (.inr 122)), some (.inl x1), some (.inl x2), some (.inl x3), none, none], [])) rfl (yI_iload_n zi_211_0 rfl <| yI_cs zi_211_1 rfl rfl hK)
theorem zr_211_4 {K : List zF} {σ : zW} {x1 : Int} {x2 : Int} {x3 : Int} {o4 : Option zV} {o5 : Option zV} {v : Int} (hK : K.length < 60) : zRet true ((211, 4, [some (.inr (.inr 122)), some (.inl x1), some (.inl x2), some (.inl x3), o4, o5], []) :: K) (some (.inl v)) σ = (if v = 0 then zEv true ((211, 29, [some (.inr (.inr 122)), some (.inl x1), some (.inl x2), some (.inl x3), o4, o5], []) :: K) σ else zEv true (zent 142 [.inl x3, .inl 0, .inl (w32 ((gI σ 122 34) - 1))] :: (211, 18, [some (.inr (.inr 122)), some (.inl x1), some (.inl x2), some (.inl x3), o4, o5], []) :: K) σ) :=
  yT_rt (yI_if_eq zi_211_4 <| yBr (rfl) (yI_iload_n zi_211_7 rfl <| yI_iconst zi_211_8 <| yI_aload_n zi_211_9 rfl <| yI_gf_i (v := gI σ 122 34) zi_211_10 zk_122 rfl <| yI_iconst zi_211_13 <| yI_isub zi_211_14 <| yI_cs zi_211_15 rfl rfl hK))
theorem zj_211_29 {K : List zF} {σ : zW} {x1 : Int} {x2 : Int} {x3 : Int} {o4 : Option zV} {o5 : Option zV} (hK : K.length < 60) : zEv true ((211, 29, [some (.inr (.inr 122)), some (.inl x1), some (.inl x2), some (.inl x3), o4, o5], []) :: K) σ = (if (0 : Int) = 0 then zEv true (zent 141 [.inr (.inr 122), .inl (if (0 : Int) = 0 then 1 else (if 0 ≤ x2 then 1 else 0 : Int) : Int)] :: (211, 68, [some (.inr (.inr 122)), some (.inl x1), some (.inl x2), some (.inl x3), some (.inl 0), some (.inl 0)], []) :: K) σ else zEv true (zent 207 [.inr (.inr 122), .inl x1] :: (211, 42, [some (.inr (.inr 122)), some (.inl x1), some (.inl x2), some (.inl x3), some (.inl 0), o5], []) :: K) σ) :=
  yI_iconst zi_211_29 <| yI_istore (l := [some (.inr (.inr 122)), some (.inl x1), some (.inl x2), some (.inl x3), some (.inl 0), o5]) zi_211_30 rfl rfl <| yI_iload zi_211_32 rfl <| yI_if_eq zi_211_34 <| yBr (yI_iconst zi_211_45 <| yI_istore (l := [some (.inr (.inr 122)), some (.inl x1), some (.inl x2), some (.inl x3), some (.inl 0), some (.inl 0)]) zi_211_46 rfl rfl <| yI_aload_n zi_211_48 rfl <| yI_iload zi_211_49 rfl <| yI_if_eq zi_211_51 <| yMi0 (j := 65) (ls2 := [some (.inr (.inr 122)), some (.inl x1), some (.inl x2), some (.inl x3), some (.inl 0), some (.inl 0)]) (st2 := [.inr (.inr 122)]) (x := 1) (y := (if 0 ≤ x2 then 1 else 0 : Int)) (σ2 := σ) (yI_iconst zi_211_64 <| rfl) (yI_iload_n zi_211_54 rfl <| yI_iload zi_211_55 rfl <| yI_ic_ge zi_211_57 <| yMi0 (j := 65) (ls2 := [some (.inr (.inr 122)), some (.inl x1), some (.inl x2), some (.inl x3), some (.inl 0), some (.inl 0)]) (st2 := [.inr (.inr 122)]) (x := 1) (y := 0) (σ2 := σ) (yI_iconst zi_211_64 <| rfl) (yI_iconst zi_211_60 <| yI_goto zi_211_61 <| rfl) <| rfl) <| yI_cv zi_211_65 rfl rfl zk_122 hK) (yI_aload_n zi_211_37 rfl <| yI_iload_n zi_211_38 rfl <| yI_cv zi_211_39 rfl rfl zk_122 hK)
theorem zr_211_18 {K : List zF} {σ : zW} {x1 : Int} {x2 : Int} {x3 : Int} {o4 : Option zV} {o5 : Option zV} {v : Int} (hK : K.length < 60) : zRet true ((211, 18, [some (.inr (.inr 122)), some (.inl x1), some (.inl x2), some (.inl x3), o4, o5], []) :: K) (some (.inl v)) σ = (if v = 0 then zEv true ((211, 29, [some (.inr (.inr 122)), some (.inl x1), some (.inl x2), some (.inl x3), o4, o5], []) :: K) σ else if x2 < 0 then zEv true ((211, 29, [some (.inr (.inr 122)), some (.inl x1), some (.inl x2), some (.inl x3), o4, o5], []) :: K) σ else if (1 : Int) = 0 then zEv true (zent 141 [.inr (.inr 122), .inl (if (1 : Int) = 0 then 1 else (if 0 ≤ x2 then 1 else 0 : Int) : Int)] :: (211, 68, [some (.inr (.inr 122)), some (.inl x1), some (.inl x2), some (.inl x3), some (.inl 1), some (.inl 0)], []) :: K) σ else zEv true (zent 207 [.inr (.inr 122), .inl x1] :: (211, 42, [some (.inr (.inr 122)), some (.inl x1), some (.inl x2), some (.inl x3), some (.inl 1), o5], []) :: K) σ) :=
  yT_rt (yI_if_eq zi_211_18 <| yBr (rfl) (yI_iload_n zi_211_21 rfl <| yI_if_lt zi_211_22 <| yBr (rfl) (yI_iconst zi_211_25 <| yI_goto zi_211_26 <| yI_istore (l := [some (.inr (.inr 122)), some (.inl x1), some (.inl x2), some (.inl x3), some (.inl 1), o5]) zi_211_30 rfl rfl <| yI_iload zi_211_32 rfl <| yI_if_eq zi_211_34 <| yBr (yI_iconst zi_211_45 <| yI_istore (l := [some (.inr (.inr 122)), some (.inl x1), some (.inl x2), some (.inl x3), some (.inl 1), some (.inl 0)]) zi_211_46 rfl rfl <| yI_aload_n zi_211_48 rfl <| yI_iload zi_211_49 rfl <| yI_if_eq zi_211_51 <| yMi0 (j := 65) (ls2 := [some (.inr (.inr 122)), some (.inl x1), some (.inl x2), some (.inl x3), some (.inl 1), some (.inl 0)]) (st2 := [.inr (.inr 122)]) (x := 1) (y := (if 0 ≤ x2 then 1 else 0 : Int)) (σ2 := σ) (yI_iconst zi_211_64 <| rfl) (yI_iload_n zi_211_54 rfl <| yI_iload zi_211_55 rfl <| yI_ic_ge zi_211_57 <| yMi0 (j := 65) (ls2 := [some (.inr (.inr 122)), some (.inl x1), some (.inl x2), some (.inl x3), some (.inl 1), some (.inl 0)]) (st2 := [.inr (.inr 122)]) (x := 1) (y := 0) (σ2 := σ) (yI_iconst zi_211_64 <| rfl) (yI_iconst zi_211_60 <| yI_goto zi_211_61 <| rfl) <| rfl) <| yI_cv zi_211_65 rfl rfl zk_122 hK) (yI_aload_n zi_211_37 rfl <| yI_iload_n zi_211_38 rfl <| yI_cv zi_211_39 rfl rfl zk_122 hK))))
theorem zr_211_42 {K : List zF} {σ : zW} {o1 : Option zV} {x2 : Int} {x3 : Int} {x4 : Int} {o5 : Option zV} {v : Int} (hK : K.length < 60) : zRet true ((211, 42, [some (.inr (.inr 122)), o1, some (.inl x2), some (.inl x3), some (.inl x4), o5], []) :: K) (some (.inl v)) σ = (zEv true (zent 141 [.inr (.inr 122), .inl (if x4 = 0 then 1 else (if v ≤ x2 then 1 else 0 : Int) : Int)] :: (211, 68, [some (.inr (.inr 122)), o1, some (.inl x2), some (.inl x3), some (.inl x4), some (.inl v)], []) :: K) σ) :=
  yT_rt (yI_goto zi_211_42 <| yI_istore (l := [some (.inr (.inr 122)), o1, some (.inl x2), some (.inl x3), some (.inl x4), some (.inl v)]) zi_211_46 rfl rfl <| yI_aload_n zi_211_48 rfl <| yI_iload zi_211_49 rfl <| yI_if_eq zi_211_51 <| yMi0 (j := 65) (ls2 := [some (.inr (.inr 122)), o1, some (.inl x2), some (.inl x3), some (.inl x4), some (.inl v)]) (st2 := [.inr (.inr 122)]) (x := 1) (y := (if v ≤ x2 then 1 else 0 : Int)) (σ2 := σ) (yI_iconst zi_211_64 <| rfl) (yI_iload_n zi_211_54 rfl <| yI_iload zi_211_55 rfl <| yI_ic_ge zi_211_57 <| yMi0 (j := 65) (ls2 := [some (.inr (.inr 122)), o1, some (.inl x2), some (.inl x3), some (.inl x4), some (.inl v)]) (st2 := [.inr (.inr 122)]) (x := 1) (y := 0) (σ2 := σ) (yI_iconst zi_211_64 <| rfl) (yI_iconst zi_211_60 <| yI_goto zi_211_61 <| rfl) <| rfl) <| yI_cv zi_211_65 rfl rfl zk_122 hK)
theorem zr_211_68 {K : List zF} {σ : zW} {o1 : Option zV} {x2 : Int} {x3 : Int} {o4 : Option zV} {o5 : Option zV} {v : Int} (hK : K.length < 60) : zRet true ((211, 68, [some (.inr (.inr 122)), o1, some (.inl x2), some (.inl x3), o4, o5], []) :: K) (some (.inl v)) σ = (if ¬ v = 0 then zEv true (zent 210 [.inr (.inr 122), .inl x2] :: (211, 78, [some (.inr (.inr 122)), o1, some (.inl x2), some (.inl x3), o4, o5], []) :: K) σ else zRet true K (some (.inl 0)) σ) :=
  yT_rt (yI_if_ne zi_211_68 <| yBr (yI_aload_n zi_211_73 rfl <| yI_iload_n zi_211_74 rfl <| yI_cv zi_211_75 rfl rfl zk_122 hK) (yI_iconst zi_211_71 <| yI_ireturn zi_211_72))
theorem zr_211_78 {K : List zF} {σ : zW} {o1 : Option zV} {o2 : Option zV} {x3 : Int} {o4 : Option zV} {o5 : Option zV} : zRet true ((211, 78, [some (.inr (.inr 122)), o1, o2, some (.inl x3), o4, o5], []) :: K) none σ = ((0 ≤ x3 ∧ x3 < 4) ∧ ((0 ≤ (gI σ 145 x3.toNat) ∧ (gI σ 145 x3.toNat) < 8) ∧ zRet true K (some (.inl (gI σ 174 ((gI σ 145 x3.toNat).toNat)))) σ)) :=
  yT_rv (yI_aload_n zi_211_78 rfl <| yI_gf_f (v := 174) zi_211_79 zk_122 rfl <| yI_aload_n zi_211_82 rfl <| yI_gf_f (v := 145) zi_211_83 zk_122 rfl <| yI_iload_n zi_211_86 rfl <| yI_ialoadc (v := gI σ 145 x3.toNat) zi_211_87 za_145 rfl <| yI_ialoadc (v := gI σ 174 ((gI σ 145 x3.toNat).toNat)) zi_211_88 za_174 rfl <| yI_ireturn zi_211_89)
/-- 212 TreegrabModel.matchAt(III)I -/
theorem zi_212_0 : zraw 212 0 = some (.aload_n 0, 1) ∧ 0 + 1 = 1 := by decide +kernel
theorem zi_212_1 : zraw 212 1 = some (.iload_n 1, 1) ∧ 1 + 1 = 2 := by decide +kernel
theorem zi_212_2 : zraw 212 2 = some (.iload_n 2, 1) ∧ 2 + 1 = 3 := by decide +kernel
theorem zi_212_3 : zraw 212 3 = some (.iload_n 3, 1) ∧ 3 + 1 = 4 := by decide +kernel
theorem zi_212_4 : zraw 212 4 = some (.invokevirtual 476, 3) ∧ zmt (zinf 212).1 476 = some 211 ∧ Nat.ble 9000 211 = false ∧ zinf 211 = (10, 4, 6, 1, 0) ∧ 4 + 3 = 7 := by decide +kernel
theorem zi_212_7 : zraw 212 7 = some (.ireturn, 1) ∧ (zinf 212).2.2.2.1 = 1 := by decide +kernel
theorem ze_212 {K : List zF} {σ : zW} {x1 : Int} {x2 : Int} {x3 : Int} (hK : K.length < 60) : zEv true (zent 212 [.inr (.inr 122), .inl x1, .inl x2, .inl x3] :: K) σ = (zEv true (zent 211 [.inr (.inr 122), .inl x1, .inl x2, .inl x3] :: (212, 7, [some (.inr (.inr 122)), some (.inl x1), some (.inl x2), some (.inl x3)], []) :: K) σ) :=
  yT_en (f := (212, 0, [some (.inr (.inr 122)), some (.inl x1), some (.inl x2), some (.inl x3)], [])) rfl (yI_aload_n zi_212_0 rfl <| yI_iload_n zi_212_1 rfl <| yI_iload_n zi_212_2 rfl <| yI_iload_n zi_212_3 rfl <| yI_cv zi_212_4 rfl rfl zk_122 hK)
theorem zr_212_7 {K : List zF} {σ : zW} {o0 : Option zV} {o1 : Option zV} {o2 : Option zV} {o3 : Option zV} {v : Int} : zRet true ((212, 7, [o0, o1, o2, o3], []) :: K) (some (.inl v)) σ = (zRet true K (some (.inl v)) σ) :=
  yT_rt (yI_ireturn zi_212_7)
/-- 213 TreegrabModel.matchAtByTrying(III)I -/
theorem zi_213_0 : zraw 213 0 = some (.aload_n 0, 1) ∧ 0 + 1 = 1 := by decide +kernel
theorem zi_213_1 : zraw 213 1 = some (.iload_n 1, 1) ∧ 1 + 1 = 2 := by decide +kernel
theorem zi_213_2 : zraw 213 2 = some (.iload_n 2, 1) ∧ 2 + 1 = 3 := by decide +kernel
theorem zi_213_3 : zraw 213 3 = some (.iload_n 3, 1) ∧ 3 + 1 = 4 := by decide +kernel
theorem zi_213_4 : zraw 213 4 = some (.invokevirtual 476, 3) ∧ zmt (zinf 213).1 476 = some 211 ∧ Nat.ble 9000 211 = false ∧ zinf 211 = (10, 4, 6, 1, 0) ∧ 4 + 3 = 7 := by decide +kernel
theorem zi_213_7 : zraw 213 7 = some (.ireturn, 1) ∧ (zinf 213).2.2.2.1 = 1 := by decide +kernel
theorem ze_213 {K : List zF} {σ : zW} {x1 : Int} {x2 : Int} {x3 : Int} (hK : K.length < 60) : zEv true (zent 213 [.inr (.inr 122), .inl x1, .inl x2, .inl x3] :: K) σ = (zEv true (zent 211 [.inr (.inr 122), .inl x1, .inl x2, .inl x3] :: (213, 7, [some (.inr (.inr 122)), some (.inl x1), some (.inl x2), some (.inl x3)], []) :: K) σ) :=
  yT_en (f := (213, 0, [some (.inr (.inr 122)), some (.inl x1), some (.inl x2), some (.inl x3)], [])) rfl (yI_aload_n zi_213_0 rfl <| yI_iload_n zi_213_1 rfl <| yI_iload_n zi_213_2 rfl <| yI_iload_n zi_213_3 rfl <| yI_cv zi_213_4 rfl rfl zk_122 hK)
theorem zr_213_7 {K : List zF} {σ : zW} {o0 : Option zV} {o1 : Option zV} {o2 : Option zV} {o3 : Option zV} {v : Int} : zRet true ((213, 7, [o0, o1, o2, o3], []) :: K) (some (.inl v)) σ = (zRet true K (some (.inl v)) σ) :=
  yT_rt (yI_ireturn zi_213_7)
/-- 214 TreegrabModel.fitting(I)I -/
theorem zi_214_0 : zraw 214 0 = some (.iconst 0, 1) ∧ zin 128 0 = true ∧ 0 + 1 = 1 := by decide +kernel
theorem zi_214_1 : zraw 214 1 = some (.istore_n 2, 1) ∧ 1 + 1 = 2 := by decide +kernel
theorem zi_214_2 : zraw 214 2 = some (.iconst 0, 1) ∧ zin 128 0 = true ∧ 2 + 1 = 3 := by decide +kernel
theorem zi_214_3 : zraw 214 3 = some (.istore_n 3, 1) ∧ 3 + 1 = 4 := by decide +kernel
theorem zi_214_4 : zraw 214 4 = some (.iload_n 3, 1) ∧ 4 + 1 = 5 := by decide +kernel
theorem zi_214_5 : zraw 214 5 = some (.aload_n 0, 1) ∧ 5 + 1 = 6 := by decide +kernel
theorem zi_214_6 : zraw 214 6 = some (.getfield 389, 3) ∧ zft (zinf 214).1 389 = some (10, 65, 0, false) ∧ 6 + 3 = 9 := by decide +kernel
theorem zi_214_9 : zraw 214 9 = some (.if_icmp .ge 26, 3) ∧ ((9 : Nat) : Int) + 26 = Int.ofNat 35 ∧ 9 + 3 = 12 := by decide +kernel
theorem zi_214_12 : zraw 214 12 = some (.iload_n 2, 1) ∧ 12 + 1 = 13 := by decide +kernel
theorem zi_214_13 : zraw 214 13 = some (.aload_n 0, 1) ∧ 13 + 1 = 14 := by decide +kernel
theorem zi_214_14 : zraw 214 14 = some (.iload_n 1, 1) ∧ 14 + 1 = 15 := by decide +kernel
theorem zi_214_15 : zraw 214 15 = some (.iload_n 3, 1) ∧ 15 + 1 = 16 := by decide +kernel
theorem zi_214_16 : zraw 214 16 = some (.invokevirtual 422, 3) ∧ zmt (zinf 214).1 422 = some 193 ∧ Nat.ble 9000 193 = false ∧ zinf 193 = (10, 3, 3, 2, 0) ∧ 16 + 3 = 19 := by decide +kernel
theorem zi_214_19 : zraw 214 19 = some (.ifCond .eq 7, 3) ∧ ((19 : Nat) : Int) + 7 = Int.ofNat 26 ∧ 19 + 3 = 22 := by decide +kernel
theorem zi_214_22 : zraw 214 22 = some (.iconst 1, 1) ∧ zin 128 1 = true ∧ 22 + 1 = 23 := by decide +kernel
theorem zi_214_23 : zraw 214 23 = some (.goto 4, 3) ∧ ((23 : Nat) : Int) + 4 = Int.ofNat 27 := by decide +kernel
theorem zi_214_26 : zraw 214 26 = some (.iconst 0, 1) ∧ zin 128 0 = true ∧ 26 + 1 = 27 := by decide +kernel
theorem zi_214_27 : zraw 214 27 = some (.iadd, 1) ∧ 27 + 1 = 28 := by decide +kernel
theorem zi_214_28 : zraw 214 28 = some (.istore_n 2, 1) ∧ 28 + 1 = 29 := by decide +kernel
theorem zi_214_29 : zraw 214 29 = some (.iinc 3 1, 3) ∧ zin 32768 1 = true ∧ 29 + 3 = 32 := by decide +kernel
theorem zi_214_32 : zraw 214 32 = some (.goto (-28), 3) ∧ ((32 : Nat) : Int) + (-28) = Int.ofNat 4 := by decide +kernel
theorem zi_214_35 : zraw 214 35 = some (.iload_n 2, 1) ∧ 35 + 1 = 36 := by decide +kernel
theorem zi_214_36 : zraw 214 36 = some (.ireturn, 1) ∧ (zinf 214).2.2.2.1 = 1 := by decide +kernel
theorem ze_214 {K : List zF} {σ : zW} {x1 : Int} : zEv true (zent 214 [.inr (.inr 122), .inl x1] :: K) σ = (zEv true ((214, 4, [some (.inr (.inr 122)), some (.inl x1), some (.inl 0), some (.inl 0)], []) :: K) σ) :=
  yT_en (f := (214, 0, [some (.inr (.inr 122)), some (.inl x1), none, none], [])) rfl (yI_iconst zi_214_0 <| yI_istore_n (l := [some (.inr (.inr 122)), some (.inl x1), some (.inl 0), none]) zi_214_1 rfl rfl <| yI_iconst zi_214_2 <| yI_istore_n (l := [some (.inr (.inr 122)), some (.inl x1), some (.inl 0), some (.inl 0)]) zi_214_3 rfl rfl <| rfl)
theorem zj_214_4 {K : List zF} {σ : zW} {x1 : Int} {x2 : Int} {x3 : Int} (hK : K.length < 60) : zEv true ((214, 4, [some (.inr (.inr 122)), some (.inl x1), some (.inl x2), some (.inl x3)], []) :: K) σ = (if (gI σ 122 65) ≤ x3 then zRet true K (some (.inl x2)) σ else zEv true (zent 193 [.inr (.inr 122), .inl x1, .inl x3] :: (214, 19, [some (.inr (.inr 122)), some (.inl x1), some (.inl x2), some (.inl x3)], [.inl x2]) :: K) σ) :=
  yI_iload_n zi_214_4 rfl <| yI_aload_n zi_214_5 rfl <| yI_gf_i (v := gI σ 122 65) zi_214_6 zk_122 rfl <| yI_ic_ge zi_214_9 <| yBr (yI_iload_n zi_214_35 rfl <| yI_ireturn zi_214_36) (yI_iload_n zi_214_12 rfl <| yI_aload_n zi_214_13 rfl <| yI_iload_n zi_214_14 rfl <| yI_iload_n zi_214_15 rfl <| yI_cv zi_214_16 rfl rfl zk_122 hK)
theorem zr_214_19 {K : List zF} {σ : zW} {x1 : Int} {o2 : Option zV} {x3 : Int} {s0 : Int} {v : Int} : zRet true ((214, 19, [some (.inr (.inr 122)), some (.inl x1), o2, some (.inl x3)], [.inl s0]) :: K) (some (.inl v)) σ = (zEv true ((214, 4, [some (.inr (.inr 122)), some (.inl x1), some (.inl (w32 (s0 + (if v = 0 then 0 else 1 : Int)))), some (.inl (w32 (x3 + 1)))], []) :: K) σ) :=
  yT_rt (yI_if_eq zi_214_19 <| yMi0 (j := 27) (ls2 := [some (.inr (.inr 122)), some (.inl x1), o2, some (.inl x3)]) (st2 := [.inl s0]) (x := 0) (y := 1) (σ2 := σ) (yI_iconst zi_214_26 <| rfl) (yI_iconst zi_214_22 <| yI_goto zi_214_23 <| rfl) <| yI_iadd zi_214_27 <| yI_istore_n (l := [some (.inr (.inr 122)), some (.inl x1), some (.inl (w32 (s0 + (if v = 0 then 0 else 1 : Int)))), some (.inl x3)]) zi_214_28 rfl rfl <| yI_iinc (l := [some (.inr (.inr 122)), some (.inl x1), some (.inl (w32 (s0 + (if v = 0 then 0 else 1 : Int)))), some (.inl (w32 (x3 + 1)))]) zi_214_29 rfl rfl rfl <| yI_goto zi_214_32 <| rfl)
/-- 215 TreegrabModel.meant(I)I -/
theorem zi_215_0 : zraw 215 0 = some (.aload_n 0, 1) ∧ 0 + 1 = 1 := by decide +kernel
theorem zi_215_1 : zraw 215 1 = some (.getfield 38, 3) ∧ zft (zinf 215).1 38 = some (10, 19, 3, true) ∧ 1 + 3 = 4 := by decide +kernel
theorem zi_215_4 : zraw 215 4 = some (.iload_n 1, 1) ∧ 4 + 1 = 5 := by decide +kernel
theorem zi_215_5 : zraw 215 5 = some (.iaload, 1) ∧ 5 + 1 = 6 := by decide +kernel
theorem zi_215_6 : zraw 215 6 = some (.iconst 4, 1) ∧ zin 128 4 = true ∧ 6 + 1 = 7 := by decide +kernel
theorem zi_215_7 : zraw 215 7 = some (.if_icmp .ne 12, 3) ∧ ((7 : Nat) : Int) + 12 = Int.ofNat 19 ∧ 7 + 3 = 10 := by decide +kernel
theorem zi_215_10 : zraw 215 10 = some (.aload_n 0, 1) ∧ 10 + 1 = 11 := by decide +kernel
theorem zi_215_11 : zraw 215 11 = some (.getfield 47, 3) ∧ zft (zinf 215).1 47 = some (10, 22, 3, true) ∧ 11 + 3 = 14 := by decide +kernel
theorem zi_215_14 : zraw 215 14 = some (.iload_n 1, 1) ∧ 14 + 1 = 15 := by decide +kernel
theorem zi_215_15 : zraw 215 15 = some (.iaload, 1) ∧ 15 + 1 = 16 := by decide +kernel
theorem zi_215_16 : zraw 215 16 = some (.goto 4, 3) ∧ ((16 : Nat) : Int) + 4 = Int.ofNat 20 := by decide +kernel
theorem zi_215_19 : zraw 215 19 = some (.iload_n 1, 1) ∧ 19 + 1 = 20 := by decide +kernel
theorem zi_215_20 : zraw 215 20 = some (.ireturn, 1) ∧ (zinf 215).2.2.2.1 = 1 := by decide +kernel
theorem ze_215 {K : List zF} {σ : zW} {x1 : Int} : zEv true (zent 215 [.inr (.inr 122), .inl x1] :: K) σ = ((0 ≤ x1 ∧ x1 < 8) ∧ ((¬ (¬ (gI σ 132 x1.toNat) = 4) → (0 ≤ x1 ∧ x1 < 8)) ∧ zRet true K (some (.inl (if ¬ (gI σ 132 x1.toNat) = 4 then x1 else gI σ 135 x1.toNat : Int))) σ)) :=
  yT_en (f := (215, 0, [some (.inr (.inr 122)), some (.inl x1)], [])) rfl (yI_aload_n zi_215_0 rfl <| yI_gf_f (v := 132) zi_215_1 zk_122 rfl <| yI_iload_n zi_215_4 rfl <| yI_ialoadc (v := gI σ 132 x1.toNat) zi_215_5 za_132 rfl <| yI_iconst zi_215_6 <| yI_ic_ne zi_215_7 <| yMi2 (j := 20) (ls2 := [some (.inr (.inr 122)), some (.inl x1)]) (st2 := []) (x := x1) (y := gI σ 135 x1.toNat) (σ2 := σ) (yI_iload_n zi_215_19 rfl <| rfl) (yI_aload_n zi_215_10 rfl <| yI_gf_f (v := 135) zi_215_11 zk_122 rfl <| yI_iload_n zi_215_14 rfl <| yI_ialoadc (v := gI σ 135 x1.toNat) zi_215_15 za_135 rfl <| yI_goto zi_215_16 <| rfl) <| yI_ireturn zi_215_20)
/-- 216 TreegrabModel.areTold(II)Z -/
theorem zi_216_0 : zraw 216 0 = some (.iconst 0, 1) ∧ zin 128 0 = true ∧ 0 + 1 = 1 := by decide +kernel
theorem zi_216_1 : zraw 216 1 = some (.istore_n 3, 1) ∧ 1 + 1 = 2 := by decide +kernel
theorem zi_216_2 : zraw 216 2 = some (.iconst 1, 1) ∧ zin 128 1 = true ∧ 2 + 1 = 3 := by decide +kernel
theorem zi_216_3 : zraw 216 3 = some (.istore 4, 2) ∧ 3 + 2 = 5 := by decide +kernel
theorem zi_216_5 : zraw 216 5 = some (.iload 4, 2) ∧ 5 + 2 = 7 := by decide +kernel
theorem zi_216_7 : zraw 216 7 = some (.aload_n 0, 1) ∧ 7 + 1 = 8 := by decide +kernel
theorem zi_216_8 : zraw 216 8 = some (.getfield 306, 3) ∧ zft (zinf 216).1 306 = some (10, 18, 0, false) ∧ 8 + 3 = 11 := by decide +kernel
theorem zi_216_11 : zraw 216 11 = some (.if_icmp .ge 95, 3) ∧ ((11 : Nat) : Int) + 95 = Int.ofNat 106 ∧ 11 + 3 = 14 := by decide +kernel
theorem zi_216_14 : zraw 216 14 = some (.aload_n 0, 1) ∧ 14 + 1 = 15 := by decide +kernel
theorem zi_216_15 : zraw 216 15 = some (.iload 4, 2) ∧ 15 + 2 = 17 := by decide +kernel
theorem zi_216_17 : zraw 216 17 = some (.invokevirtual 480, 3) ∧ zmt (zinf 216).1 480 = some 215 ∧ Nat.ble 9000 215 = false ∧ zinf 215 = (10, 2, 2, 1, 0) ∧ 17 + 3 = 20 := by decide +kernel
theorem zi_216_20 : zraw 216 20 = some (.istore 5, 2) ∧ 20 + 2 = 22 := by decide +kernel
theorem zi_216_22 : zraw 216 22 = some (.aload_n 0, 1) ∧ 22 + 1 = 23 := by decide +kernel
theorem zi_216_23 : zraw 216 23 = some (.aload_n 0, 1) ∧ 23 + 1 = 24 := by decide +kernel
theorem zi_216_24 : zraw 216 24 = some (.getfield 63, 3) ∧ zft (zinf 216).1 63 = some (10, 27, 3, true) ∧ 24 + 3 = 27 := by decide +kernel
theorem zi_216_27 : zraw 216 27 = some (.iload 4, 2) ∧ 27 + 2 = 29 := by decide +kernel
theorem zi_216_29 : zraw 216 29 = some (.iaload, 1) ∧ 29 + 1 = 30 := by decide +kernel
theorem zi_216_30 : zraw 216 30 = some (.invokevirtual 480, 3) ∧ zmt (zinf 216).1 480 = some 215 ∧ Nat.ble 9000 215 = false ∧ zinf 215 = (10, 2, 2, 1, 0) ∧ 30 + 3 = 33 := by decide +kernel
theorem zi_216_33 : zraw 216 33 = some (.istore 6, 2) ∧ 33 + 2 = 35 := by decide +kernel
theorem zi_216_35 : zraw 216 35 = some (.aload_n 0, 1) ∧ 35 + 1 = 36 := by decide +kernel
theorem zi_216_36 : zraw 216 36 = some (.iload 4, 2) ∧ 36 + 2 = 38 := by decide +kernel
theorem zi_216_38 : zraw 216 38 = some (.invokevirtual 428, 3) ∧ zmt (zinf 216).1 428 = some 196 ∧ Nat.ble 9000 196 = false ∧ zinf 196 = (10, 2, 2, 2, 0) ∧ 38 + 3 = 41 := by decide +kernel
theorem zi_216_41 : zraw 216 41 = some (.ifCond .ne 17, 3) ∧ ((41 : Nat) : Int) + 17 = Int.ofNat 58 ∧ 41 + 3 = 44 := by decide +kernel
theorem zi_216_44 : zraw 216 44 = some (.aload_n 0, 1) ∧ 44 + 1 = 45 := by decide +kernel
theorem zi_216_45 : zraw 216 45 = some (.getfield 66, 3) ∧ zft (zinf 216).1 66 = some (10, 28, 3, true) ∧ 45 + 3 = 48 := by decide +kernel
theorem zi_216_48 : zraw 216 48 = some (.iload 4, 2) ∧ 48 + 2 = 50 := by decide +kernel
theorem zi_216_50 : zraw 216 50 = some (.iaload, 1) ∧ 50 + 1 = 51 := by decide +kernel
theorem zi_216_51 : zraw 216 51 = some (.ifCond .ne 7, 3) ∧ ((51 : Nat) : Int) + 7 = Int.ofNat 58 ∧ 51 + 3 = 54 := by decide +kernel
theorem zi_216_54 : zraw 216 54 = some (.iconst 1, 1) ∧ zin 128 1 = true ∧ 54 + 1 = 55 := by decide +kernel
theorem zi_216_55 : zraw 216 55 = some (.goto 4, 3) ∧ ((55 : Nat) : Int) + 4 = Int.ofNat 59 := by decide +kernel
theorem zi_216_58 : zraw 216 58 = some (.iconst 0, 1) ∧ zin 128 0 = true ∧ 58 + 1 = 59 := by decide +kernel
theorem zi_216_59 : zraw 216 59 = some (.istore 7, 2) ∧ 59 + 2 = 61 := by decide +kernel
theorem zi_216_61 : zraw 216 61 = some (.iload_n 3, 1) ∧ 61 + 1 = 62 := by decide +kernel
theorem zi_216_62 : zraw 216 62 = some (.ifCond .ne 32, 3) ∧ ((62 : Nat) : Int) + 32 = Int.ofNat 94 ∧ 62 + 3 = 65 := by decide +kernel
theorem zi_216_65 : zraw 216 65 = some (.iload 7, 2) ∧ 65 + 2 = 67 := by decide +kernel
theorem zi_216_67 : zraw 216 67 = some (.ifCond .eq 31, 3) ∧ ((67 : Nat) : Int) + 31 = Int.ofNat 98 ∧ 67 + 3 = 70 := by decide +kernel
theorem zi_216_70 : zraw 216 70 = some (.iload 5, 2) ∧ 70 + 2 = 72 := by decide +kernel
theorem zi_216_72 : zraw 216 72 = some (.iload_n 1, 1) ∧ 72 + 1 = 73 := by decide +kernel
theorem zi_216_73 : zraw 216 73 = some (.if_icmp .ne 9, 3) ∧ ((73 : Nat) : Int) + 9 = Int.ofNat 82 ∧ 73 + 3 = 76 := by decide +kernel
theorem zi_216_76 : zraw 216 76 = some (.iload 6, 2) ∧ 76 + 2 = 78 := by decide +kernel
theorem zi_216_78 : zraw 216 78 = some (.iload_n 2, 1) ∧ 78 + 1 = 79 := by decide +kernel
theorem zi_216_79 : zraw 216 79 = some (.if_icmp .eq 15, 3) ∧ ((79 : Nat) : Int) + 15 = Int.ofNat 94 ∧ 79 + 3 = 82 := by decide +kernel
theorem zi_216_82 : zraw 216 82 = some (.iload 5, 2) ∧ 82 + 2 = 84 := by decide +kernel
theorem zi_216_84 : zraw 216 84 = some (.iload_n 2, 1) ∧ 84 + 1 = 85 := by decide +kernel
theorem zi_216_85 : zraw 216 85 = some (.if_icmp .ne 13, 3) ∧ ((85 : Nat) : Int) + 13 = Int.ofNat 98 ∧ 85 + 3 = 88 := by decide +kernel
theorem zi_216_88 : zraw 216 88 = some (.iload 6, 2) ∧ 88 + 2 = 90 := by decide +kernel
theorem zi_216_90 : zraw 216 90 = some (.iload_n 1, 1) ∧ 90 + 1 = 91 := by decide +kernel
theorem zi_216_91 : zraw 216 91 = some (.if_icmp .ne 7, 3) ∧ ((91 : Nat) : Int) + 7 = Int.ofNat 98 ∧ 91 + 3 = 94 := by decide +kernel
theorem zi_216_94 : zraw 216 94 = some (.iconst 1, 1) ∧ zin 128 1 = true ∧ 94 + 1 = 95 := by decide +kernel
theorem zi_216_95 : zraw 216 95 = some (.goto 4, 3) ∧ ((95 : Nat) : Int) + 4 = Int.ofNat 99 := by decide +kernel
theorem zi_216_98 : zraw 216 98 = some (.iconst 0, 1) ∧ zin 128 0 = true ∧ 98 + 1 = 99 := by decide +kernel
theorem zi_216_99 : zraw 216 99 = some (.istore_n 3, 1) ∧ 99 + 1 = 100 := by decide +kernel
theorem zi_216_100 : zraw 216 100 = some (.iinc 4 1, 3) ∧ zin 32768 1 = true ∧ 100 + 3 = 103 := by decide +kernel
theorem zi_216_103 : zraw 216 103 = some (.goto (-98), 3) ∧ ((103 : Nat) : Int) + (-98) = Int.ofNat 5 := by decide +kernel
theorem zi_216_106 : zraw 216 106 = some (.iload_n 3, 1) ∧ 106 + 1 = 107 := by decide +kernel
theorem zi_216_107 : zraw 216 107 = some (.ireturn, 1) ∧ (zinf 216).2.2.2.1 = 2 := by decide +kernel
theorem ze_216 {K : List zF} {σ : zW} {x1 : Int} {x2 : Int} : zEv true (zent 216 [.inr (.inr 122), .inl x1, .inl x2] :: K) σ = (zEv true ((216, 5, [some (.inr (.inr 122)), some (.inl x1), some (.inl x2), some (.inl 0), some (.inl 1), none, none, none], []) :: K) σ) :=
  yT_en (f := (216, 0, [some (.inr (.inr 122)), some (.inl x1), some (.inl x2), none, none, none, none, none], [])) rfl (yI_iconst zi_216_0 <| yI_istore_n (l := [some (.inr (.inr 122)), some (.inl x1), some (.inl x2), some (.inl 0), none, none, none, none]) zi_216_1 rfl rfl <| yI_iconst zi_216_2 <| yI_istore (l := [some (.inr (.inr 122)), some (.inl x1), some (.inl x2), some (.inl 0), some (.inl 1), none, none, none]) zi_216_3 rfl rfl <| rfl)
theorem zj_216_5 {K : List zF} {σ : zW} {x1 : Int} {x2 : Int} {x3 : Int} {x4 : Int} {o5 : Option zV} {o6 : Option zV} {o7 : Option zV} (hK : K.length < 60) : zEv true ((216, 5, [some (.inr (.inr 122)), some (.inl x1), some (.inl x2), some (.inl x3), some (.inl x4), o5, o6, o7], []) :: K) σ = (if (gI σ 122 18) ≤ x4 then (x3 = 0 ∨ x3 = 1) ∧ zRet true K (some (.inl x3)) σ else zEv true (zent 215 [.inr (.inr 122), .inl x4] :: (216, 20, [some (.inr (.inr 122)), some (.inl x1), some (.inl x2), some (.inl x3), some (.inl x4), o5, o6, o7], []) :: K) σ) :=
  yI_iload zi_216_5 rfl <| yI_aload_n zi_216_7 rfl <| yI_gf_i (v := gI σ 122 18) zi_216_8 zk_122 rfl <| yI_ic_ge zi_216_11 <| yBr (yI_iload_n zi_216_106 rfl <| yI_zreturnc zi_216_107) (yI_aload_n zi_216_14 rfl <| yI_iload zi_216_15 rfl <| yI_cv zi_216_17 rfl rfl zk_122 hK)
theorem zr_216_20 {K : List zF} {σ : zW} {x1 : Int} {x2 : Int} {x3 : Int} {x4 : Int} {o5 : Option zV} {o6 : Option zV} {o7 : Option zV} {v : Int} (hK : K.length < 60) : zRet true ((216, 20, [some (.inr (.inr 122)), some (.inl x1), some (.inl x2), some (.inl x3), some (.inl x4), o5, o6, o7], []) :: K) (some (.inl v)) σ = ((0 ≤ x4 ∧ x4 < 8) ∧ zEv true (zent 215 [.inr (.inr 122), .inl (gI σ 140 x4.toNat)] :: (216, 33, [some (.inr (.inr 122)), some (.inl x1), some (.inl x2), some (.inl x3), some (.inl x4), some (.inl v), o6, o7], []) :: K) σ) :=
  yT_rt (yI_istore (l := [some (.inr (.inr 122)), some (.inl x1), some (.inl x2), some (.inl x3), some (.inl x4), some (.inl v), o6, o7]) zi_216_20 rfl rfl <| yI_aload_n zi_216_22 rfl <| yI_aload_n zi_216_23 rfl <| yI_gf_f (v := 140) zi_216_24 zk_122 rfl <| yI_iload zi_216_27 rfl <| yI_ialoadc (v := gI σ 140 x4.toNat) zi_216_29 za_140 rfl <| yI_cv zi_216_30 rfl rfl zk_122 hK)
theorem zr_216_33 {K : List zF} {σ : zW} {x1 : Int} {x2 : Int} {x3 : Int} {x4 : Int} {x5 : Int} {o6 : Option zV} {o7 : Option zV} {v : Int} (hK : K.length < 60) : zRet true ((216, 33, [some (.inr (.inr 122)), some (.inl x1), some (.inl x2), some (.inl x3), some (.inl x4), some (.inl x5), o6, o7], []) :: K) (some (.inl v)) σ = (zEv true (zent 196 [.inr (.inr 122), .inl x4] :: (216, 41, [some (.inr (.inr 122)), some (.inl x1), some (.inl x2), some (.inl x3), some (.inl x4), some (.inl x5), some (.inl v), o7], []) :: K) σ) :=
  yT_rt (yI_istore (l := [some (.inr (.inr 122)), some (.inl x1), some (.inl x2), some (.inl x3), some (.inl x4), some (.inl x5), some (.inl v), o7]) zi_216_33 rfl rfl <| yI_aload_n zi_216_35 rfl <| yI_iload zi_216_36 rfl <| yI_cv zi_216_38 rfl rfl zk_122 hK)
theorem zr_216_41 {K : List zF} {σ : zW} {x1 : Int} {x2 : Int} {x3 : Int} {x4 : Int} {x5 : Int} {x6 : Int} {o7 : Option zV} {v : Int} : zRet true ((216, 41, [some (.inr (.inr 122)), some (.inl x1), some (.inl x2), some (.inl x3), some (.inl x4), some (.inl x5), some (.inl x6), o7], []) :: K) (some (.inl v)) σ = (if ¬ v = 0 then zEv true ((216, 58, [some (.inr (.inr 122)), some (.inl x1), some (.inl x2), some (.inl x3), some (.inl x4), some (.inl x5), some (.inl x6), o7], []) :: K) σ else (0 ≤ x4 ∧ x4 < 8) ∧ (if ¬ (gI σ 141 x4.toNat) = 0 then zEv true ((216, 58, [some (.inr (.inr 122)), some (.inl x1), some (.inl x2), some (.inl x3), some (.inl x4), some (.inl x5), some (.inl x6), o7], []) :: K) σ else if ¬ x3 = 0 then zEv true ((216, 5, [some (.inr (.inr 122)), some (.inl x1), some (.inl x2), some (.inl 1), some (.inl (w32 (x4 + 1))), some (.inl x5), some (.inl x6), some (.inl 1)], []) :: K) σ else if (1 : Int) = 0 then zEv true ((216, 98, [some (.inr (.inr 122)), some (.inl x1), some (.inl x2), some (.inl x3), some (.inl x4), some (.inl x5), some (.inl x6), some (.inl 1)], []) :: K) σ else if ¬ x5 = x1 then zEv true ((216, 82, [some (.inr (.inr 122)), some (.inl x1), some (.inl x2), some (.inl x3), some (.inl x4), some (.inl x5), some (.inl x6), some (.inl 1)], []) :: K) σ else if x6 = x2 then zEv true ((216, 5, [some (.inr (.inr 122)), some (.inl x1), some (.inl x2), some (.inl 1), some (.inl (w32 (x4 + 1))), some (.inl x5), some (.inl x6), some (.inl 1)], []) :: K) σ else zEv true ((216, 82, [some (.inr (.inr 122)), some (.inl x1), some (.inl x2), some (.inl x3), some (.inl x4), some (.inl x5), some (.inl x6), some (.inl 1)], []) :: K) σ)) :=
  yT_rt (yI_if_ne zi_216_41 <| yBr (rfl) (yI_aload_n zi_216_44 rfl <| yI_gf_f (v := 141) zi_216_45 zk_122 rfl <| yI_iload zi_216_48 rfl <| yI_ialoadc (v := gI σ 141 x4.toNat) zi_216_50 za_141 rfl <| yI_if_ne zi_216_51 <| yBr (rfl) (yI_iconst zi_216_54 <| yI_goto zi_216_55 <| yI_istore (l := [some (.inr (.inr 122)), some (.inl x1), some (.inl x2), some (.inl x3), some (.inl x4), some (.inl x5), some (.inl x6), some (.inl 1)]) zi_216_59 rfl rfl <| yI_iload_n zi_216_61 rfl <| yI_if_ne zi_216_62 <| yBr (yI_iconst zi_216_94 <| yI_goto zi_216_95 <| yI_istore_n (l := [some (.inr (.inr 122)), some (.inl x1), some (.inl x2), some (.inl 1), some (.inl x4), some (.inl x5), some (.inl x6), some (.inl 1)]) zi_216_99 rfl rfl <| yI_iinc (l := [some (.inr (.inr 122)), some (.inl x1), some (.inl x2), some (.inl 1), some (.inl (w32 (x4 + 1))), some (.inl x5), some (.inl x6), some (.inl 1)]) zi_216_100 rfl rfl rfl <| yI_goto zi_216_103 <| rfl) (yI_iload zi_216_65 rfl <| yI_if_eq zi_216_67 <| yBr (rfl) (yI_iload zi_216_70 rfl <| yI_iload_n zi_216_72 rfl <| yI_ic_ne zi_216_73 <| yBr (rfl) (yI_iload zi_216_76 rfl <| yI_iload_n zi_216_78 rfl <| yI_ic_eq zi_216_79 <| yBr (yI_iconst zi_216_94 <| yI_goto zi_216_95 <| yI_istore_n (l := [some (.inr (.inr 122)), some (.inl x1), some (.inl x2), some (.inl 1), some (.inl x4), some (.inl x5), some (.inl x6), some (.inl 1)]) zi_216_99 rfl rfl <| yI_iinc (l := [some (.inr (.inr 122)), some (.inl x1), some (.inl x2), some (.inl 1), some (.inl (w32 (x4 + 1))), some (.inl x5), some (.inl x6), some (.inl 1)]) zi_216_100 rfl rfl rfl <| yI_goto zi_216_103 <| rfl) (rfl)))))))
theorem zj_216_58 {K : List zF} {σ : zW} {x1 : Int} {x2 : Int} {x3 : Int} {x4 : Int} {x5 : Int} {x6 : Int} {o7 : Option zV} : zEv true ((216, 58, [some (.inr (.inr 122)), some (.inl x1), some (.inl x2), some (.inl x3), some (.inl x4), some (.inl x5), some (.inl x6), o7], []) :: K) σ = (if ¬ x3 = 0 then zEv true ((216, 5, [some (.inr (.inr 122)), some (.inl x1), some (.inl x2), some (.inl 1), some (.inl (w32 (x4 + 1))), some (.inl x5), some (.inl x6), some (.inl 0)], []) :: K) σ else if (0 : Int) = 0 then zEv true ((216, 98, [some (.inr (.inr 122)), some (.inl x1), some (.inl x2), some (.inl x3), some (.inl x4), some (.inl x5), some (.inl x6), some (.inl 0)], []) :: K) σ else if ¬ x5 = x1 then zEv true ((216, 82, [some (.inr (.inr 122)), some (.inl x1), some (.inl x2), some (.inl x3), some (.inl x4), some (.inl x5), some (.inl x6), some (.inl 0)], []) :: K) σ else if x6 = x2 then zEv true ((216, 5, [some (.inr (.inr 122)), some (.inl x1), some (.inl x2), some (.inl 1), some (.inl (w32 (x4 + 1))), some (.inl x5), some (.inl x6), some (.inl 0)], []) :: K) σ else zEv true ((216, 82, [some (.inr (.inr 122)), some (.inl x1), some (.inl x2), some (.inl x3), some (.inl x4), some (.inl x5), some (.inl x6), some (.inl 0)], []) :: K) σ) :=
  yI_iconst zi_216_58 <| yI_istore (l := [some (.inr (.inr 122)), some (.inl x1), some (.inl x2), some (.inl x3), some (.inl x4), some (.inl x5), some (.inl x6), some (.inl 0)]) zi_216_59 rfl rfl <| yI_iload_n zi_216_61 rfl <| yI_if_ne zi_216_62 <| yBr (yI_iconst zi_216_94 <| yI_goto zi_216_95 <| yI_istore_n (l := [some (.inr (.inr 122)), some (.inl x1), some (.inl x2), some (.inl 1), some (.inl x4), some (.inl x5), some (.inl x6), some (.inl 0)]) zi_216_99 rfl rfl <| yI_iinc (l := [some (.inr (.inr 122)), some (.inl x1), some (.inl x2), some (.inl 1), some (.inl (w32 (x4 + 1))), some (.inl x5), some (.inl x6), some (.inl 0)]) zi_216_100 rfl rfl rfl <| yI_goto zi_216_103 <| rfl) (yI_iload zi_216_65 rfl <| yI_if_eq zi_216_67 <| yBr (rfl) (yI_iload zi_216_70 rfl <| yI_iload_n zi_216_72 rfl <| yI_ic_ne zi_216_73 <| yBr (rfl) (yI_iload zi_216_76 rfl <| yI_iload_n zi_216_78 rfl <| yI_ic_eq zi_216_79 <| yBr (yI_iconst zi_216_94 <| yI_goto zi_216_95 <| yI_istore_n (l := [some (.inr (.inr 122)), some (.inl x1), some (.inl x2), some (.inl 1), some (.inl x4), some (.inl x5), some (.inl x6), some (.inl 0)]) zi_216_99 rfl rfl <| yI_iinc (l := [some (.inr (.inr 122)), some (.inl x1), some (.inl x2), some (.inl 1), some (.inl (w32 (x4 + 1))), some (.inl x5), some (.inl x6), some (.inl 0)]) zi_216_100 rfl rfl rfl <| yI_goto zi_216_103 <| rfl) (rfl))))
theorem zj_216_98 {K : List zF} {σ : zW} {x1 : Int} {x2 : Int} {o3 : Option zV} {x4 : Int} {o5 : Option zV} {o6 : Option zV} {o7 : Option zV} : zEv true ((216, 98, [some (.inr (.inr 122)), some (.inl x1), some (.inl x2), o3, some (.inl x4), o5, o6, o7], []) :: K) σ = (zEv true ((216, 5, [some (.inr (.inr 122)), some (.inl x1), some (.inl x2), some (.inl 0), some (.inl (w32 (x4 + 1))), o5, o6, o7], []) :: K) σ) :=
  yI_iconst zi_216_98 <| yI_istore_n (l := [some (.inr (.inr 122)), some (.inl x1), some (.inl x2), some (.inl 0), some (.inl x4), o5, o6, o7]) zi_216_99 rfl rfl <| yI_iinc (l := [some (.inr (.inr 122)), some (.inl x1), some (.inl x2), some (.inl 0), some (.inl (w32 (x4 + 1))), o5, o6, o7]) zi_216_100 rfl rfl rfl <| yI_goto zi_216_103 <| rfl
theorem zj_216_82 {K : List zF} {σ : zW} {x1 : Int} {x2 : Int} {o3 : Option zV} {x4 : Int} {x5 : Int} {x6 : Int} {o7 : Option zV} : zEv true ((216, 82, [some (.inr (.inr 122)), some (.inl x1), some (.inl x2), o3, some (.inl x4), some (.inl x5), some (.inl x6), o7], []) :: K) σ = (if ¬ x5 = x2 then zEv true ((216, 98, [some (.inr (.inr 122)), some (.inl x1), some (.inl x2), o3, some (.inl x4), some (.inl x5), some (.inl x6), o7], []) :: K) σ else if ¬ x6 = x1 then zEv true ((216, 98, [some (.inr (.inr 122)), some (.inl x1), some (.inl x2), o3, some (.inl x4), some (.inl x5), some (.inl x6), o7], []) :: K) σ else zEv true ((216, 5, [some (.inr (.inr 122)), some (.inl x1), some (.inl x2), some (.inl 1), some (.inl (w32 (x4 + 1))), some (.inl x5), some (.inl x6), o7], []) :: K) σ) :=
  yI_iload zi_216_82 rfl <| yI_iload_n zi_216_84 rfl <| yI_ic_ne zi_216_85 <| yBr (rfl) (yI_iload zi_216_88 rfl <| yI_iload_n zi_216_90 rfl <| yI_ic_ne zi_216_91 <| yBr (rfl) (yI_iconst zi_216_94 <| yI_goto zi_216_95 <| yI_istore_n (l := [some (.inr (.inr 122)), some (.inl x1), some (.inl x2), some (.inl 1), some (.inl x4), some (.inl x5), some (.inl x6), o7]) zi_216_99 rfl rfl <| yI_iinc (l := [some (.inr (.inr 122)), some (.inl x1), some (.inl x2), some (.inl 1), some (.inl (w32 (x4 + 1))), some (.inl x5), some (.inl x6), o7]) zi_216_100 rfl rfl rfl <| yI_goto zi_216_103 <| rfl))
/-- 217 TreegrabModel.isBound(II)Z -/
theorem zi_217_0 : zraw 217 0 = some (.iconst 0, 1) ∧ zin 128 0 = true ∧ 0 + 1 = 1 := by decide +kernel
theorem zi_217_1 : zraw 217 1 = some (.istore_n 3, 1) ∧ 1 + 1 = 2 := by decide +kernel
theorem zi_217_2 : zraw 217 2 = some (.iconst 0, 1) ∧ zin 128 0 = true ∧ 2 + 1 = 3 := by decide +kernel
theorem zi_217_3 : zraw 217 3 = some (.istore 4, 2) ∧ 3 + 2 = 5 := by decide +kernel
theorem zi_217_5 : zraw 217 5 = some (.iload 4, 2) ∧ 5 + 2 = 7 := by decide +kernel
theorem zi_217_7 : zraw 217 7 = some (.iload_n 2, 1) ∧ 7 + 1 = 8 := by decide +kernel
theorem zi_217_8 : zraw 217 8 = some (.if_icmp .ge 30, 3) ∧ ((8 : Nat) : Int) + 30 = Int.ofNat 38 ∧ 8 + 3 = 11 := by decide +kernel
theorem zi_217_11 : zraw 217 11 = some (.iload_n 3, 1) ∧ 11 + 1 = 12 := by decide +kernel
theorem zi_217_12 : zraw 217 12 = some (.ifCond .ne 14, 3) ∧ ((12 : Nat) : Int) + 14 = Int.ofNat 26 ∧ 12 + 3 = 15 := by decide +kernel
theorem zi_217_15 : zraw 217 15 = some (.aload_n 0, 1) ∧ 15 + 1 = 16 := by decide +kernel
theorem zi_217_16 : zraw 217 16 = some (.getfield 181, 3) ∧ zft (zinf 217).1 181 = some (10, 76, 3, true) ∧ 16 + 3 = 19 := by decide +kernel
theorem zi_217_19 : zraw 217 19 = some (.iload 4, 2) ∧ 19 + 2 = 21 := by decide +kernel
theorem zi_217_21 : zraw 217 21 = some (.iaload, 1) ∧ 21 + 1 = 22 := by decide +kernel
theorem zi_217_22 : zraw 217 22 = some (.iload_n 1, 1) ∧ 22 + 1 = 23 := by decide +kernel
theorem zi_217_23 : zraw 217 23 = some (.if_icmp .ne 7, 3) ∧ ((23 : Nat) : Int) + 7 = Int.ofNat 30 ∧ 23 + 3 = 26 := by decide +kernel
theorem zi_217_26 : zraw 217 26 = some (.iconst 1, 1) ∧ zin 128 1 = true ∧ 26 + 1 = 27 := by decide +kernel
theorem zi_217_27 : zraw 217 27 = some (.goto 4, 3) ∧ ((27 : Nat) : Int) + 4 = Int.ofNat 31 := by decide +kernel
theorem zi_217_30 : zraw 217 30 = some (.iconst 0, 1) ∧ zin 128 0 = true ∧ 30 + 1 = 31 := by decide +kernel
theorem zi_217_31 : zraw 217 31 = some (.istore_n 3, 1) ∧ 31 + 1 = 32 := by decide +kernel
theorem zi_217_32 : zraw 217 32 = some (.iinc 4 1, 3) ∧ zin 32768 1 = true ∧ 32 + 3 = 35 := by decide +kernel
theorem zi_217_35 : zraw 217 35 = some (.goto (-30), 3) ∧ ((35 : Nat) : Int) + (-30) = Int.ofNat 5 := by decide +kernel
theorem zi_217_38 : zraw 217 38 = some (.iload_n 3, 1) ∧ 38 + 1 = 39 := by decide +kernel
theorem zi_217_39 : zraw 217 39 = some (.ireturn, 1) ∧ (zinf 217).2.2.2.1 = 2 := by decide +kernel
theorem ze_217 {K : List zF} {σ : zW} {x1 : Int} {x2 : Int} : zEv true (zent 217 [.inr (.inr 122), .inl x1, .inl x2] :: K) σ = (zEv true ((217, 5, [some (.inr (.inr 122)), some (.inl x1), some (.inl x2), some (.inl 0), some (.inl 0)], []) :: K) σ) :=
  yT_en (f := (217, 0, [some (.inr (.inr 122)), some (.inl x1), some (.inl x2), none, none], [])) rfl (yI_iconst zi_217_0 <| yI_istore_n (l := [some (.inr (.inr 122)), some (.inl x1), some (.inl x2), some (.inl 0), none]) zi_217_1 rfl rfl <| yI_iconst zi_217_2 <| yI_istore (l := [some (.inr (.inr 122)), some (.inl x1), some (.inl x2), some (.inl 0), some (.inl 0)]) zi_217_3 rfl rfl <| rfl)
theorem zj_217_5 {K : List zF} {σ : zW} {x1 : Int} {x2 : Int} {x3 : Int} {x4 : Int} : zEv true ((217, 5, [some (.inr (.inr 122)), some (.inl x1), some (.inl x2), some (.inl x3), some (.inl x4)], []) :: K) σ = (if x2 ≤ x4 then (x3 = 0 ∨ x3 = 1) ∧ zRet true K (some (.inl x3)) σ else (¬ (¬ x3 = 0) → (0 ≤ x4 ∧ x4 < 4)) ∧ zEv true ((217, 5, [some (.inr (.inr 122)), some (.inl x1), some (.inl x2), some (.inl (if ¬ x3 = 0 then 1 else (if ¬ (gI σ 178 x4.toNat) = x1 then 0 else 1 : Int) : Int)), some (.inl (w32 (x4 + 1)))], []) :: K) σ) :=
  yI_iload zi_217_5 rfl <| yI_iload_n zi_217_7 rfl <| yI_ic_ge zi_217_8 <| yBr (yI_iload_n zi_217_38 rfl <| yI_zreturnc zi_217_39) (yI_iload_n zi_217_11 rfl <| yI_if_ne zi_217_12 <| yMi2 (j := 31) (ls2 := [some (.inr (.inr 122)), some (.inl x1), some (.inl x2), some (.inl x3), some (.inl x4)]) (st2 := []) (x := 1) (y := (if ¬ (gI σ 178 x4.toNat) = x1 then 0 else 1 : Int)) (σ2 := σ) (yI_iconst zi_217_26 <| yI_goto zi_217_27 <| rfl) (yI_aload_n zi_217_15 rfl <| yI_gf_f (v := 178) zi_217_16 zk_122 rfl <| yI_iload zi_217_19 rfl <| yI_ialoadc (v := gI σ 178 x4.toNat) zi_217_21 za_178 rfl <| yI_iload_n zi_217_22 rfl <| yI_ic_ne zi_217_23 <| yMi0 (j := 31) (ls2 := [some (.inr (.inr 122)), some (.inl x1), some (.inl x2), some (.inl x3), some (.inl x4)]) (st2 := []) (x := 0) (y := 1) (σ2 := σ) (yI_iconst zi_217_30 <| rfl) (yI_iconst zi_217_26 <| yI_goto zi_217_27 <| rfl) <| rfl) <| yI_istore_n (l := [some (.inr (.inr 122)), some (.inl x1), some (.inl x2), some (.inl (if ¬ x3 = 0 then 1 else (if ¬ (gI σ 178 x4.toNat) = x1 then 0 else 1 : Int) : Int)), some (.inl x4)]) zi_217_31 rfl rfl <| yI_iinc (l := [some (.inr (.inr 122)), some (.inl x1), some (.inl x2), some (.inl (if ¬ x3 = 0 then 1 else (if ¬ (gI σ 178 x4.toNat) = x1 then 0 else 1 : Int) : Int)), some (.inl (w32 (x4 + 1)))]) zi_217_32 rfl rfl rfl <| yI_goto zi_217_35 <| rfl)
/-- 218 TreegrabModel.isTold(II)Z -/
theorem zi_218_0 : zraw 218 0 = some (.iload_n 2, 1) ∧ 0 + 1 = 1 := by decide +kernel
theorem zi_218_1 : zraw 218 1 = some (.ifCond .ne 7, 3) ∧ ((1 : Nat) : Int) + 7 = Int.ofNat 8 ∧ 1 + 3 = 4 := by decide +kernel
theorem zi_218_4 : zraw 218 4 = some (.iconst 1, 1) ∧ zin 128 1 = true ∧ 4 + 1 = 5 := by decide +kernel
theorem zi_218_5 : zraw 218 5 = some (.goto 4, 3) ∧ ((5 : Nat) : Int) + 4 = Int.ofNat 9 := by decide +kernel
theorem zi_218_8 : zraw 218 8 = some (.iconst 0, 1) ∧ zin 128 0 = true ∧ 8 + 1 = 9 := by decide +kernel
theorem zi_218_9 : zraw 218 9 = some (.istore_n 3, 1) ∧ 9 + 1 = 10 := by decide +kernel
theorem zi_218_10 : zraw 218 10 = some (.iconst 0, 1) ∧ zin 128 0 = true ∧ 10 + 1 = 11 := by decide +kernel
theorem zi_218_11 : zraw 218 11 = some (.istore 4, 2) ∧ 11 + 2 = 13 := by decide +kernel
theorem zi_218_13 : zraw 218 13 = some (.iload 4, 2) ∧ 13 + 2 = 15 := by decide +kernel
theorem zi_218_15 : zraw 218 15 = some (.iload_n 2, 1) ∧ 15 + 1 = 16 := by decide +kernel
theorem zi_218_16 : zraw 218 16 = some (.if_icmp .ge 34, 3) ∧ ((16 : Nat) : Int) + 34 = Int.ofNat 50 ∧ 16 + 3 = 19 := by decide +kernel
theorem zi_218_19 : zraw 218 19 = some (.iload_n 3, 1) ∧ 19 + 1 = 20 := by decide +kernel
theorem zi_218_20 : zraw 218 20 = some (.ifCond .ne 18, 3) ∧ ((20 : Nat) : Int) + 18 = Int.ofNat 38 ∧ 20 + 3 = 23 := by decide +kernel
theorem zi_218_23 : zraw 218 23 = some (.aload_n 0, 1) ∧ 23 + 1 = 24 := by decide +kernel
theorem zi_218_24 : zraw 218 24 = some (.aload_n 0, 1) ∧ 24 + 1 = 25 := by decide +kernel
theorem zi_218_25 : zraw 218 25 = some (.getfield 181, 3) ∧ zft (zinf 218).1 181 = some (10, 76, 3, true) ∧ 25 + 3 = 28 := by decide +kernel
theorem zi_218_28 : zraw 218 28 = some (.iload 4, 2) ∧ 28 + 2 = 30 := by decide +kernel
theorem zi_218_30 : zraw 218 30 = some (.iaload, 1) ∧ 30 + 1 = 31 := by decide +kernel
theorem zi_218_31 : zraw 218 31 = some (.iload_n 1, 1) ∧ 31 + 1 = 32 := by decide +kernel
theorem zi_218_32 : zraw 218 32 = some (.invokevirtual 483, 3) ∧ zmt (zinf 218).1 483 = some 216 ∧ Nat.ble 9000 216 = false ∧ zinf 216 = (10, 3, 8, 2, 0) ∧ 32 + 3 = 35 := by decide +kernel
theorem zi_218_35 : zraw 218 35 = some (.ifCond .eq 7, 3) ∧ ((35 : Nat) : Int) + 7 = Int.ofNat 42 ∧ 35 + 3 = 38 := by decide +kernel
theorem zi_218_38 : zraw 218 38 = some (.iconst 1, 1) ∧ zin 128 1 = true ∧ 38 + 1 = 39 := by decide +kernel
theorem zi_218_39 : zraw 218 39 = some (.goto 4, 3) ∧ ((39 : Nat) : Int) + 4 = Int.ofNat 43 := by decide +kernel
theorem zi_218_42 : zraw 218 42 = some (.iconst 0, 1) ∧ zin 128 0 = true ∧ 42 + 1 = 43 := by decide +kernel
theorem zi_218_43 : zraw 218 43 = some (.istore_n 3, 1) ∧ 43 + 1 = 44 := by decide +kernel
theorem zi_218_44 : zraw 218 44 = some (.iinc 4 1, 3) ∧ zin 32768 1 = true ∧ 44 + 3 = 47 := by decide +kernel
theorem zi_218_47 : zraw 218 47 = some (.goto (-34), 3) ∧ ((47 : Nat) : Int) + (-34) = Int.ofNat 13 := by decide +kernel
theorem zi_218_50 : zraw 218 50 = some (.iload_n 3, 1) ∧ 50 + 1 = 51 := by decide +kernel
theorem zi_218_51 : zraw 218 51 = some (.ireturn, 1) ∧ (zinf 218).2.2.2.1 = 2 := by decide +kernel
theorem ze_218 {K : List zF} {σ : zW} {x1 : Int} {x2 : Int} : zEv true (zent 218 [.inr (.inr 122), .inl x1, .inl x2] :: K) σ = (zEv true ((218, 13, [some (.inr (.inr 122)), some (.inl x1), some (.inl x2), some (.inl (if ¬ x2 = 0 then 0 else 1 : Int)), some (.inl 0)], []) :: K) σ) :=
  yT_en (f := (218, 0, [some (.inr (.inr 122)), some (.inl x1), some (.inl x2), none, none], [])) rfl (yI_iload_n zi_218_0 rfl <| yI_if_ne zi_218_1 <| yMi0 (j := 9) (ls2 := [some (.inr (.inr 122)), some (.inl x1), some (.inl x2), none, none]) (st2 := []) (x := 0) (y := 1) (σ2 := σ) (yI_iconst zi_218_8 <| rfl) (yI_iconst zi_218_4 <| yI_goto zi_218_5 <| rfl) <| yI_istore_n (l := [some (.inr (.inr 122)), some (.inl x1), some (.inl x2), some (.inl (if ¬ x2 = 0 then 0 else 1 : Int)), none]) zi_218_9 rfl rfl <| yI_iconst zi_218_10 <| yI_istore (l := [some (.inr (.inr 122)), some (.inl x1), some (.inl x2), some (.inl (if ¬ x2 = 0 then 0 else 1 : Int)), some (.inl 0)]) zi_218_11 rfl rfl <| rfl)
theorem zj_218_13 {K : List zF} {σ : zW} {x1 : Int} {x2 : Int} {x3 : Int} {x4 : Int} (hK : K.length < 60) : zEv true ((218, 13, [some (.inr (.inr 122)), some (.inl x1), some (.inl x2), some (.inl x3), some (.inl x4)], []) :: K) σ = (if x2 ≤ x4 then (x3 = 0 ∨ x3 = 1) ∧ zRet true K (some (.inl x3)) σ else if ¬ x3 = 0 then zEv true ((218, 13, [some (.inr (.inr 122)), some (.inl x1), some (.inl x2), some (.inl 1), some (.inl (w32 (x4 + 1)))], []) :: K) σ else (0 ≤ x4 ∧ x4 < 4) ∧ zEv true (zent 216 [.inr (.inr 122), .inl (gI σ 178 x4.toNat), .inl x1] :: (218, 35, [some (.inr (.inr 122)), some (.inl x1), some (.inl x2), some (.inl x3), some (.inl x4)], []) :: K) σ) :=
  yI_iload zi_218_13 rfl <| yI_iload_n zi_218_15 rfl <| yI_ic_ge zi_218_16 <| yBr (yI_iload_n zi_218_50 rfl <| yI_zreturnc zi_218_51) (yI_iload_n zi_218_19 rfl <| yI_if_ne zi_218_20 <| yBr (yI_iconst zi_218_38 <| yI_goto zi_218_39 <| yI_istore_n (l := [some (.inr (.inr 122)), some (.inl x1), some (.inl x2), some (.inl 1), some (.inl x4)]) zi_218_43 rfl rfl <| yI_iinc (l := [some (.inr (.inr 122)), some (.inl x1), some (.inl x2), some (.inl 1), some (.inl (w32 (x4 + 1)))]) zi_218_44 rfl rfl rfl <| yI_goto zi_218_47 <| rfl) (yI_aload_n zi_218_23 rfl <| yI_aload_n zi_218_24 rfl <| yI_gf_f (v := 178) zi_218_25 zk_122 rfl <| yI_iload zi_218_28 rfl <| yI_ialoadc (v := gI σ 178 x4.toNat) zi_218_30 za_178 rfl <| yI_iload_n zi_218_31 rfl <| yI_cv zi_218_32 rfl rfl zk_122 hK))
theorem zr_218_35 {K : List zF} {σ : zW} {x1 : Int} {x2 : Int} {o3 : Option zV} {x4 : Int} {v : Int} : zRet true ((218, 35, [some (.inr (.inr 122)), some (.inl x1), some (.inl x2), o3, some (.inl x4)], []) :: K) (some (.inl v)) σ = (zEv true ((218, 13, [some (.inr (.inr 122)), some (.inl x1), some (.inl x2), some (.inl (if v = 0 then 0 else 1 : Int)), some (.inl (w32 (x4 + 1)))], []) :: K) σ) :=
  yT_rt (yI_if_eq zi_218_35 <| yMi0 (j := 43) (ls2 := [some (.inr (.inr 122)), some (.inl x1), some (.inl x2), o3, some (.inl x4)]) (st2 := []) (x := 0) (y := 1) (σ2 := σ) (yI_iconst zi_218_42 <| rfl) (yI_iconst zi_218_38 <| yI_goto zi_218_39 <| rfl) <| yI_istore_n (l := [some (.inr (.inr 122)), some (.inl x1), some (.inl x2), some (.inl (if v = 0 then 0 else 1 : Int)), some (.inl x4)]) zi_218_43 rfl rfl <| yI_iinc (l := [some (.inr (.inr 122)), some (.inl x1), some (.inl x2), some (.inl (if v = 0 then 0 else 1 : Int)), some (.inl (w32 (x4 + 1)))]) zi_218_44 rfl rfl rfl <| yI_goto zi_218_47 <| rfl)
/-- 219 TreegrabModel.plans()I -/
theorem zi_219_0 : zraw 219 0 = some (.iconst 0, 1) ∧ zin 128 0 = true ∧ 0 + 1 = 1 := by decide +kernel
theorem zi_219_1 : zraw 219 1 = some (.istore_n 1, 1) ∧ 1 + 1 = 2 := by decide +kernel
theorem zi_219_2 : zraw 219 2 = some (.iconst 0, 1) ∧ zin 128 0 = true ∧ 2 + 1 = 3 := by decide +kernel
theorem zi_219_3 : zraw 219 3 = some (.istore_n 2, 1) ∧ 3 + 1 = 4 := by decide +kernel
theorem zi_219_4 : zraw 219 4 = some (.iload_n 2, 1) ∧ 4 + 1 = 5 := by decide +kernel
theorem zi_219_5 : zraw 219 5 = some (.iconst (-1), 1) ∧ zin 128 (-1) = true ∧ 5 + 1 = 6 := by decide +kernel
theorem zi_219_6 : zraw 219 6 = some (.if_icmp .eq 112, 3) ∧ ((6 : Nat) : Int) + 112 = Int.ofNat 118 ∧ 6 + 3 = 9 := by decide +kernel
theorem zi_219_9 : zraw 219 9 = some (.iconst (-1), 1) ∧ zin 128 (-1) = true ∧ 9 + 1 = 10 := by decide +kernel
theorem zi_219_10 : zraw 219 10 = some (.istore_n 2, 1) ∧ 10 + 1 = 11 := by decide +kernel
theorem zi_219_11 : zraw 219 11 = some (.iconst 0, 1) ∧ zin 128 0 = true ∧ 11 + 1 = 12 := by decide +kernel
theorem zi_219_12 : zraw 219 12 = some (.istore_n 3, 1) ∧ 12 + 1 = 13 := by decide +kernel
theorem zi_219_13 : zraw 219 13 = some (.iload_n 3, 1) ∧ 13 + 1 = 14 := by decide +kernel
theorem zi_219_14 : zraw 219 14 = some (.aload_n 0, 1) ∧ 14 + 1 = 15 := by decide +kernel
theorem zi_219_15 : zraw 219 15 = some (.getfield 306, 3) ∧ zft (zinf 219).1 306 = some (10, 18, 0, false) ∧ 15 + 3 = 18 := by decide +kernel
theorem zi_219_18 : zraw 219 18 = some (.if_icmp .ge 82, 3) ∧ ((18 : Nat) : Int) + 82 = Int.ofNat 100 ∧ 18 + 3 = 21 := by decide +kernel
theorem zi_219_21 : zraw 219 21 = some (.aload_n 0, 1) ∧ 21 + 1 = 22 := by decide +kernel
theorem zi_219_22 : zraw 219 22 = some (.getfield 50, 3) ∧ zft (zinf 219).1 50 = some (10, 23, 3, true) ∧ 22 + 3 = 25 := by decide +kernel
theorem zi_219_25 : zraw 219 25 = some (.iload_n 3, 1) ∧ 25 + 1 = 26 := by decide +kernel
theorem zi_219_26 : zraw 219 26 = some (.iaload, 1) ∧ 26 + 1 = 27 := by decide +kernel
theorem zi_219_27 : zraw 219 27 = some (.iconst (-1), 1) ∧ zin 128 (-1) = true ∧ 27 + 1 = 28 := by decide +kernel
theorem zi_219_28 : zraw 219 28 = some (.if_icmp .eq 34, 3) ∧ ((28 : Nat) : Int) + 34 = Int.ofNat 62 ∧ 28 + 3 = 31 := by decide +kernel
theorem zi_219_31 : zraw 219 31 = some (.aload_n 0, 1) ∧ 31 + 1 = 32 := by decide +kernel
theorem zi_219_32 : zraw 219 32 = some (.getfield 56, 3) ∧ zft (zinf 219).1 56 = some (10, 25, 3, true) ∧ 32 + 3 = 35 := by decide +kernel
theorem zi_219_35 : zraw 219 35 = some (.iload_n 3, 1) ∧ 35 + 1 = 36 := by decide +kernel
theorem zi_219_36 : zraw 219 36 = some (.iaload, 1) ∧ 36 + 1 = 37 := by decide +kernel
theorem zi_219_37 : zraw 219 37 = some (.ifCond .ne 25, 3) ∧ ((37 : Nat) : Int) + 25 = Int.ofNat 62 ∧ 37 + 3 = 40 := by decide +kernel
theorem zi_219_40 : zraw 219 40 = some (.aload_n 0, 1) ∧ 40 + 1 = 41 := by decide +kernel
theorem zi_219_41 : zraw 219 41 = some (.iload_n 3, 1) ∧ 41 + 1 = 42 := by decide +kernel
theorem zi_219_42 : zraw 219 42 = some (.iload_n 1, 1) ∧ 42 + 1 = 43 := by decide +kernel
theorem zi_219_43 : zraw 219 43 = some (.invokevirtual 486, 3) ∧ zmt (zinf 219).1 486 = some 217 ∧ Nat.ble 9000 217 = false ∧ zinf 217 = (10, 3, 5, 2, 0) ∧ 43 + 3 = 46 := by decide +kernel
theorem zi_219_46 : zraw 219 46 = some (.ifCond .ne 16, 3) ∧ ((46 : Nat) : Int) + 16 = Int.ofNat 62 ∧ 46 + 3 = 49 := by decide +kernel
theorem zi_219_49 : zraw 219 49 = some (.aload_n 0, 1) ∧ 49 + 1 = 50 := by decide +kernel
theorem zi_219_50 : zraw 219 50 = some (.iload_n 3, 1) ∧ 50 + 1 = 51 := by decide +kernel
theorem zi_219_51 : zraw 219 51 = some (.iload_n 1, 1) ∧ 51 + 1 = 52 := by decide +kernel
theorem zi_219_52 : zraw 219 52 = some (.invokevirtual 489, 3) ∧ zmt (zinf 219).1 489 = some 218 ∧ Nat.ble 9000 218 = false ∧ zinf 218 = (10, 3, 5, 2, 0) ∧ 52 + 3 = 55 := by decide +kernel
theorem zi_219_55 : zraw 219 55 = some (.ifCond .eq 7, 3) ∧ ((55 : Nat) : Int) + 7 = Int.ofNat 62 ∧ 55 + 3 = 58 := by decide +kernel
theorem zi_219_58 : zraw 219 58 = some (.iconst 1, 1) ∧ zin 128 1 = true ∧ 58 + 1 = 59 := by decide +kernel
theorem zi_219_59 : zraw 219 59 = some (.goto 4, 3) ∧ ((59 : Nat) : Int) + 4 = Int.ofNat 63 := by decide +kernel
theorem zi_219_62 : zraw 219 62 = some (.iconst 0, 1) ∧ zin 128 0 = true ∧ 62 + 1 = 63 := by decide +kernel
theorem zi_219_63 : zraw 219 63 = some (.istore 4, 2) ∧ 63 + 2 = 65 := by decide +kernel
theorem zi_219_65 : zraw 219 65 = some (.iload 4, 2) ∧ 65 + 2 = 67 := by decide +kernel
theorem zi_219_67 : zraw 219 67 = some (.ifCond .eq 25, 3) ∧ ((67 : Nat) : Int) + 25 = Int.ofNat 92 ∧ 67 + 3 = 70 := by decide +kernel
theorem zi_219_70 : zraw 219 70 = some (.iload_n 2, 1) ∧ 70 + 1 = 71 := by decide +kernel
theorem zi_219_71 : zraw 219 71 = some (.iconst (-1), 1) ∧ zin 128 (-1) = true ∧ 71 + 1 = 72 := by decide +kernel
theorem zi_219_72 : zraw 219 72 = some (.if_icmp .eq 16, 3) ∧ ((72 : Nat) : Int) + 16 = Int.ofNat 88 ∧ 72 + 3 = 75 := by decide +kernel
theorem zi_219_75 : zraw 219 75 = some (.aload_n 0, 1) ∧ 75 + 1 = 76 := by decide +kernel
theorem zi_219_76 : zraw 219 76 = some (.iload_n 3, 1) ∧ 76 + 1 = 77 := by decide +kernel
theorem zi_219_77 : zraw 219 77 = some (.invokevirtual 492, 3) ∧ zmt (zinf 219).1 492 = some 214 ∧ Nat.ble 9000 214 = false ∧ zinf 214 = (10, 2, 4, 1, 0) ∧ 77 + 3 = 80 := by decide +kernel
theorem zi_219_80 : zraw 219 80 = some (.aload_n 0, 1) ∧ 80 + 1 = 81 := by decide +kernel
theorem zi_219_81 : zraw 219 81 = some (.iload_n 2, 1) ∧ 81 + 1 = 82 := by decide +kernel
theorem zi_219_82 : zraw 219 82 = some (.invokevirtual 492, 3) ∧ zmt (zinf 219).1 492 = some 214 ∧ Nat.ble 9000 214 = false ∧ zinf 214 = (10, 2, 4, 1, 0) ∧ 82 + 3 = 85 := by decide +kernel
theorem zi_219_85 : zraw 219 85 = some (.if_icmp .ge 7, 3) ∧ ((85 : Nat) : Int) + 7 = Int.ofNat 92 ∧ 85 + 3 = 88 := by decide +kernel
theorem zi_219_88 : zraw 219 88 = some (.iload_n 3, 1) ∧ 88 + 1 = 89 := by decide +kernel
theorem zi_219_89 : zraw 219 89 = some (.goto 4, 3) ∧ ((89 : Nat) : Int) + 4 = Int.ofNat 93 := by decide +kernel
theorem zi_219_92 : zraw 219 92 = some (.iload_n 2, 1) ∧ 92 + 1 = 93 := by decide +kernel
theorem zi_219_93 : zraw 219 93 = some (.istore_n 2, 1) ∧ 93 + 1 = 94 := by decide +kernel
theorem zi_219_94 : zraw 219 94 = some (.iinc 3 1, 3) ∧ zin 32768 1 = true ∧ 94 + 3 = 97 := by decide +kernel
theorem zi_219_97 : zraw 219 97 = some (.goto (-84), 3) ∧ ((97 : Nat) : Int) + (-84) = Int.ofNat 13 := by decide +kernel
theorem zi_219_100 : zraw 219 100 = some (.iload_n 2, 1) ∧ 100 + 1 = 101 := by decide +kernel
theorem zi_219_101 : zraw 219 101 = some (.iconst (-1), 1) ∧ zin 128 (-1) = true ∧ 101 + 1 = 102 := by decide +kernel
theorem zi_219_102 : zraw 219 102 = some (.if_icmp .eq (-98), 3) ∧ ((102 : Nat) : Int) + (-98) = Int.ofNat 4 ∧ 102 + 3 = 105 := by decide +kernel
theorem zi_219_105 : zraw 219 105 = some (.aload_n 0, 1) ∧ 105 + 1 = 106 := by decide +kernel
theorem zi_219_106 : zraw 219 106 = some (.getfield 181, 3) ∧ zft (zinf 219).1 181 = some (10, 76, 3, true) ∧ 106 + 3 = 109 := by decide +kernel
theorem zi_219_109 : zraw 219 109 = some (.iload_n 1, 1) ∧ 109 + 1 = 110 := by decide +kernel
theorem zi_219_110 : zraw 219 110 = some (.iload_n 2, 1) ∧ 110 + 1 = 111 := by decide +kernel
theorem zi_219_111 : zraw 219 111 = some (.iastore, 1) ∧ 111 + 1 = 112 := by decide +kernel
theorem zi_219_112 : zraw 219 112 = some (.iinc 1 1, 3) ∧ zin 32768 1 = true ∧ 112 + 3 = 115 := by decide +kernel
theorem zi_219_115 : zraw 219 115 = some (.goto (-111), 3) ∧ ((115 : Nat) : Int) + (-111) = Int.ofNat 4 := by decide +kernel
theorem zi_219_118 : zraw 219 118 = some (.iload_n 1, 1) ∧ 118 + 1 = 119 := by decide +kernel
theorem zi_219_119 : zraw 219 119 = some (.ireturn, 1) ∧ (zinf 219).2.2.2.1 = 1 := by decide +kernel
theorem ze_219 {K : List zF} {σ : zW} : zEv true (zent 219 [.inr (.inr 122)] :: K) σ = (zEv true ((219, 4, [some (.inr (.inr 122)), some (.inl 0), some (.inl 0), none, none], []) :: K) σ) :=
  yT_en (f := (219, 0, [some (.inr (.inr 122)), none, none, none, none], [])) rfl (yI_iconst zi_219_0 <| yI_istore_n (l := [some (.inr (.inr 122)), some (.inl 0), none, none, none]) zi_219_1 rfl rfl <| yI_iconst zi_219_2 <| yI_istore_n (l := [some (.inr (.inr 122)), some (.inl 0), some (.inl 0), none, none]) zi_219_3 rfl rfl <| rfl)
theorem zj_219_4 {K : List zF} {σ : zW} {x1 : Int} {x2 : Int} {o3 : Option zV} {o4 : Option zV} : zEv true ((219, 4, [some (.inr (.inr 122)), some (.inl x1), some (.inl x2), o3, o4], []) :: K) σ = (if x2 = (-1) then zRet true K (some (.inl x1)) σ else zEv true ((219, 13, [some (.inr (.inr 122)), some (.inl x1), some (.inl (-1)), some (.inl 0), o4], []) :: K) σ) :=
  yI_iload_n zi_219_4 rfl <| yI_iconst zi_219_5 <| yI_ic_eq zi_219_6 <| yBr (yI_iload_n zi_219_118 rfl <| yI_ireturn zi_219_119) (yI_iconst zi_219_9 <| yI_istore_n (l := [some (.inr (.inr 122)), some (.inl x1), some (.inl (-1)), o3, o4]) zi_219_10 rfl rfl <| yI_iconst zi_219_11 <| yI_istore_n (l := [some (.inr (.inr 122)), some (.inl x1), some (.inl (-1)), some (.inl 0), o4]) zi_219_12 rfl rfl <| rfl)
theorem zj_219_13 {K : List zF} {σ : zW} {x1 : Int} {x2 : Int} {x3 : Int} {o4 : Option zV} (hK : K.length < 60) : zEv true ((219, 13, [some (.inr (.inr 122)), some (.inl x1), some (.inl x2), some (.inl x3), o4], []) :: K) σ = (if (gI σ 122 18) ≤ x3 then if x2 = (-1) then zEv true ((219, 4, [some (.inr (.inr 122)), some (.inl x1), some (.inl x2), some (.inl x3), o4], []) :: K) σ else (0 ≤ x1 ∧ x1 < 4) ∧ zEv true ((219, 4, [some (.inr (.inr 122)), some (.inl (w32 (x1 + 1))), some (.inl x2), some (.inl x3), o4], []) :: K) (sI σ 178 x1.toNat x2) else (0 ≤ x3 ∧ x3 < 8) ∧ (if (gI σ 136 x3.toNat) = (-1) then zEv true ((219, 62, [some (.inr (.inr 122)), some (.inl x1), some (.inl x2), some (.inl x3), o4], []) :: K) σ else (0 ≤ x3 ∧ x3 < 8) ∧ (if ¬ (gI σ 138 x3.toNat) = 0 then zEv true ((219, 62, [some (.inr (.inr 122)), some (.inl x1), some (.inl x2), some (.inl x3), o4], []) :: K) σ else zEv true (zent 217 [.inr (.inr 122), .inl x3, .inl x1] :: (219, 46, [some (.inr (.inr 122)), some (.inl x1), some (.inl x2), some (.inl x3), o4], []) :: K) σ))) :=
  yI_iload_n zi_219_13 rfl <| yI_aload_n zi_219_14 rfl <| yI_gf_i (v := gI σ 122 18) zi_219_15 zk_122 rfl <| yI_ic_ge zi_219_18 <| yBr (yI_iload_n zi_219_100 rfl <| yI_iconst zi_219_101 <| yI_ic_eq zi_219_102 <| yBr (rfl) (yI_aload_n zi_219_105 rfl <| yI_gf_f (v := 178) zi_219_106 zk_122 rfl <| yI_iload_n zi_219_109 rfl <| yI_iload_n zi_219_110 rfl <| yI_iastorec zi_219_111 za_178 <| yI_iinc (l := [some (.inr (.inr 122)), some (.inl (w32 (x1 + 1))), some (.inl x2), some (.inl x3), o4]) zi_219_112 rfl rfl rfl <| yI_goto zi_219_115 <| rfl)) (yI_aload_n zi_219_21 rfl <| yI_gf_f (v := 136) zi_219_22 zk_122 rfl <| yI_iload_n zi_219_25 rfl <| yI_ialoadc (v := gI σ 136 x3.toNat) zi_219_26 za_136 rfl <| yI_iconst zi_219_27 <| yI_ic_eq zi_219_28 <| yBr (rfl) (yI_aload_n zi_219_31 rfl <| yI_gf_f (v := 138) zi_219_32 zk_122 rfl <| yI_iload_n zi_219_35 rfl <| yI_ialoadc (v := gI σ 138 x3.toNat) zi_219_36 za_138 rfl <| yI_if_ne zi_219_37 <| yBr (rfl) (yI_aload_n zi_219_40 rfl <| yI_iload_n zi_219_41 rfl <| yI_iload_n zi_219_42 rfl <| yI_cv zi_219_43 rfl rfl zk_122 hK)))
theorem zj_219_62 {K : List zF} {σ : zW} {x1 : Int} {x2 : Int} {x3 : Int} {o4 : Option zV} (hK : K.length < 60) : zEv true ((219, 62, [some (.inr (.inr 122)), some (.inl x1), some (.inl x2), some (.inl x3), o4], []) :: K) σ = (if (0 : Int) = 0 then zEv true ((219, 92, [some (.inr (.inr 122)), some (.inl x1), some (.inl x2), some (.inl x3), some (.inl 0)], []) :: K) σ else if x2 = (-1) then zEv true ((219, 13, [some (.inr (.inr 122)), some (.inl x1), some (.inl x3), some (.inl (w32 (x3 + 1))), some (.inl 0)], []) :: K) σ else zEv true (zent 214 [.inr (.inr 122), .inl x3] :: (219, 80, [some (.inr (.inr 122)), some (.inl x1), some (.inl x2), some (.inl x3), some (.inl 0)], []) :: K) σ) :=
  yI_iconst zi_219_62 <| yI_istore (l := [some (.inr (.inr 122)), some (.inl x1), some (.inl x2), some (.inl x3), some (.inl 0)]) zi_219_63 rfl rfl <| yI_iload zi_219_65 rfl <| yI_if_eq zi_219_67 <| yBr (rfl) (yI_iload_n zi_219_70 rfl <| yI_iconst zi_219_71 <| yI_ic_eq zi_219_72 <| yBr (yI_iload_n zi_219_88 rfl <| yI_goto zi_219_89 <| yI_istore_n (l := [some (.inr (.inr 122)), some (.inl x1), some (.inl x3), some (.inl x3), some (.inl 0)]) zi_219_93 rfl rfl <| yI_iinc (l := [some (.inr (.inr 122)), some (.inl x1), some (.inl x3), some (.inl (w32 (x3 + 1))), some (.inl 0)]) zi_219_94 rfl rfl rfl <| yI_goto zi_219_97 <| rfl) (yI_aload_n zi_219_75 rfl <| yI_iload_n zi_219_76 rfl <| yI_cv zi_219_77 rfl rfl zk_122 hK))
theorem zr_219_46 {K : List zF} {σ : zW} {x1 : Int} {x2 : Int} {x3 : Int} {o4 : Option zV} {v : Int} (hK : K.length < 60) : zRet true ((219, 46, [some (.inr (.inr 122)), some (.inl x1), some (.inl x2), some (.inl x3), o4], []) :: K) (some (.inl v)) σ = (if ¬ v = 0 then zEv true ((219, 62, [some (.inr (.inr 122)), some (.inl x1), some (.inl x2), some (.inl x3), o4], []) :: K) σ else zEv true (zent 218 [.inr (.inr 122), .inl x3, .inl x1] :: (219, 55, [some (.inr (.inr 122)), some (.inl x1), some (.inl x2), some (.inl x3), o4], []) :: K) σ) :=
  yT_rt (yI_if_ne zi_219_46 <| yBr (rfl) (yI_aload_n zi_219_49 rfl <| yI_iload_n zi_219_50 rfl <| yI_iload_n zi_219_51 rfl <| yI_cv zi_219_52 rfl rfl zk_122 hK))
theorem zj_219_92 {K : List zF} {σ : zW} {x1 : Int} {x2 : Int} {x3 : Int} {o4 : Option zV} : zEv true ((219, 92, [some (.inr (.inr 122)), some (.inl x1), some (.inl x2), some (.inl x3), o4], []) :: K) σ = (zEv true ((219, 13, [some (.inr (.inr 122)), some (.inl x1), some (.inl x2), some (.inl (w32 (x3 + 1))), o4], []) :: K) σ) :=
  yI_iload_n zi_219_92 rfl <| yI_istore_n (l := [some (.inr (.inr 122)), some (.inl x1), some (.inl x2), some (.inl x3), o4]) zi_219_93 rfl rfl <| yI_iinc (l := [some (.inr (.inr 122)), some (.inl x1), some (.inl x2), some (.inl (w32 (x3 + 1))), o4]) zi_219_94 rfl rfl rfl <| yI_goto zi_219_97 <| rfl
theorem zr_219_80 {K : List zF} {σ : zW} {x1 : Int} {x2 : Int} {x3 : Int} {o4 : Option zV} {v : Int} (hK : K.length < 60) : zRet true ((219, 80, [some (.inr (.inr 122)), some (.inl x1), some (.inl x2), some (.inl x3), o4], []) :: K) (some (.inl v)) σ = (zEv true (zent 214 [.inr (.inr 122), .inl x2] :: (219, 85, [some (.inr (.inr 122)), some (.inl x1), some (.inl x2), some (.inl x3), o4], [.inl v]) :: K) σ) :=
  yT_rt (yI_aload_n zi_219_80 rfl <| yI_iload_n zi_219_81 rfl <| yI_cv zi_219_82 rfl rfl zk_122 hK)
theorem zr_219_55 {K : List zF} {σ : zW} {x1 : Int} {x2 : Int} {x3 : Int} {o4 : Option zV} {v : Int} (hK : K.length < 60) : zRet true ((219, 55, [some (.inr (.inr 122)), some (.inl x1), some (.inl x2), some (.inl x3), o4], []) :: K) (some (.inl v)) σ = (if v = 0 then zEv true ((219, 62, [some (.inr (.inr 122)), some (.inl x1), some (.inl x2), some (.inl x3), o4], []) :: K) σ else if (1 : Int) = 0 then zEv true ((219, 92, [some (.inr (.inr 122)), some (.inl x1), some (.inl x2), some (.inl x3), some (.inl 1)], []) :: K) σ else if x2 = (-1) then zEv true ((219, 13, [some (.inr (.inr 122)), some (.inl x1), some (.inl x3), some (.inl (w32 (x3 + 1))), some (.inl 1)], []) :: K) σ else zEv true (zent 214 [.inr (.inr 122), .inl x3] :: (219, 80, [some (.inr (.inr 122)), some (.inl x1), some (.inl x2), some (.inl x3), some (.inl 1)], []) :: K) σ) :=
  yT_rt (yI_if_eq zi_219_55 <| yBr (rfl) (yI_iconst zi_219_58 <| yI_goto zi_219_59 <| yI_istore (l := [some (.inr (.inr 122)), some (.inl x1), some (.inl x2), some (.inl x3), some (.inl 1)]) zi_219_63 rfl rfl <| yI_iload zi_219_65 rfl <| yI_if_eq zi_219_67 <| yBr (rfl) (yI_iload_n zi_219_70 rfl <| yI_iconst zi_219_71 <| yI_ic_eq zi_219_72 <| yBr (yI_iload_n zi_219_88 rfl <| yI_goto zi_219_89 <| yI_istore_n (l := [some (.inr (.inr 122)), some (.inl x1), some (.inl x3), some (.inl x3), some (.inl 1)]) zi_219_93 rfl rfl <| yI_iinc (l := [some (.inr (.inr 122)), some (.inl x1), some (.inl x3), some (.inl (w32 (x3 + 1))), some (.inl 1)]) zi_219_94 rfl rfl rfl <| yI_goto zi_219_97 <| rfl) (yI_aload_n zi_219_75 rfl <| yI_iload_n zi_219_76 rfl <| yI_cv zi_219_77 rfl rfl zk_122 hK))))
theorem zr_219_85 {K : List zF} {σ : zW} {x1 : Int} {x2 : Int} {x3 : Int} {o4 : Option zV} {s0 : Int} {v : Int} : zRet true ((219, 85, [some (.inr (.inr 122)), some (.inl x1), some (.inl x2), some (.inl x3), o4], [.inl s0]) :: K) (some (.inl v)) σ = (if v ≤ s0 then zEv true ((219, 92, [some (.inr (.inr 122)), some (.inl x1), some (.inl x2), some (.inl x3), o4], []) :: K) σ else zEv true ((219, 13, [some (.inr (.inr 122)), some (.inl x1), some (.inl x3), some (.inl (w32 (x3 + 1))), o4], []) :: K) σ) :=
  yT_rt (yI_ic_ge zi_219_85 <| yBr (rfl) (yI_iload_n zi_219_88 rfl <| yI_goto zi_219_89 <| yI_istore_n (l := [some (.inr (.inr 122)), some (.inl x1), some (.inl x3), some (.inl x3), o4]) zi_219_93 rfl rfl <| yI_iinc (l := [some (.inr (.inr 122)), some (.inl x1), some (.inl x3), some (.inl (w32 (x3 + 1))), o4]) zi_219_94 rfl rfl rfl <| yI_goto zi_219_97 <| rfl))
/-- 220 TreegrabModel.planAt(II)I -/
theorem zi_220_0 : zraw 220 0 = some (.iload_n 1, 1) ∧ 0 + 1 = 1 := by decide +kernel
theorem zi_220_1 : zraw 220 1 = some (.invokestatic 358, 3) ∧ zmt (zinf 220).1 358 = some 143 ∧ Nat.ble 9000 143 = false ∧ zinf 143 = (10, 1, 1, 2, 1) ∧ 1 + 3 = 4 := by decide +kernel
theorem zi_220_4 : zraw 220 4 = some (.ifCond .eq 18, 3) ∧ ((4 : Nat) : Int) + 18 = Int.ofNat 22 ∧ 4 + 3 = 7 := by decide +kernel
theorem zi_220_7 : zraw 220 7 = some (.iload_n 2, 1) ∧ 7 + 1 = 8 := by decide +kernel
theorem zi_220_8 : zraw 220 8 = some (.ifCond .lt 14, 3) ∧ ((8 : Nat) : Int) + 14 = Int.ofNat 22 ∧ 8 + 3 = 11 := by decide +kernel
theorem zi_220_11 : zraw 220 11 = some (.aload_n 0, 1) ∧ 11 + 1 = 12 := by decide +kernel
theorem zi_220_12 : zraw 220 12 = some (.getfield 306, 3) ∧ zft (zinf 220).1 306 = some (10, 18, 0, false) ∧ 12 + 3 = 15 := by decide +kernel
theorem zi_220_15 : zraw 220 15 = some (.ifCond .le 7, 3) ∧ ((15 : Nat) : Int) + 7 = Int.ofNat 22 ∧ 15 + 3 = 18 := by decide +kernel
theorem zi_220_18 : zraw 220 18 = some (.iconst 1, 1) ∧ zin 128 1 = true ∧ 18 + 1 = 19 := by decide +kernel
theorem zi_220_19 : zraw 220 19 = some (.goto 4, 3) ∧ ((19 : Nat) : Int) + 4 = Int.ofNat 23 := by decide +kernel
theorem zi_220_22 : zraw 220 22 = some (.iconst 0, 1) ∧ zin 128 0 = true ∧ 22 + 1 = 23 := by decide +kernel
theorem zi_220_23 : zraw 220 23 = some (.istore_n 3, 1) ∧ 23 + 1 = 24 := by decide +kernel
theorem zi_220_24 : zraw 220 24 = some (.aload_n 0, 1) ∧ 24 + 1 = 25 := by decide +kernel
theorem zi_220_25 : zraw 220 25 = some (.iload_n 3, 1) ∧ 25 + 1 = 26 := by decide +kernel
theorem zi_220_26 : zraw 220 26 = some (.ifCond .eq 16, 3) ∧ ((26 : Nat) : Int) + 16 = Int.ofNat 42 ∧ 26 + 3 = 29 := by decide +kernel
theorem zi_220_29 : zraw 220 29 = some (.aload_n 0, 1) ∧ 29 + 1 = 30 := by decide +kernel
theorem zi_220_30 : zraw 220 30 = some (.getfield 13, 3) ∧ zft (zinf 220).1 13 = some (10, 8, 3, true) ∧ 30 + 3 = 33 := by decide +kernel
theorem zi_220_33 : zraw 220 33 = some (.iload_n 1, 1) ∧ 33 + 1 = 34 := by decide +kernel
theorem zi_220_34 : zraw 220 34 = some (.iaload, 1) ∧ 34 + 1 = 35 := by decide +kernel
theorem zi_220_35 : zraw 220 35 = some (.ifCond .le 7, 3) ∧ ((35 : Nat) : Int) + 7 = Int.ofNat 42 ∧ 35 + 3 = 38 := by decide +kernel
theorem zi_220_38 : zraw 220 38 = some (.iconst 0, 1) ∧ zin 128 0 = true ∧ 38 + 1 = 39 := by decide +kernel
theorem zi_220_39 : zraw 220 39 = some (.goto 4, 3) ∧ ((39 : Nat) : Int) + 4 = Int.ofNat 43 := by decide +kernel
theorem zi_220_42 : zraw 220 42 = some (.iconst 1, 1) ∧ zin 128 1 = true ∧ 42 + 1 = 43 := by decide +kernel
theorem zi_220_43 : zraw 220 43 = some (.invokevirtual 353, 3) ∧ zmt (zinf 220).1 353 = some 141 ∧ Nat.ble 9000 141 = false ∧ zinf 141 = (10, 2, 2, 2, 0) ∧ 43 + 3 = 46 := by decide +kernel
theorem zi_220_46 : zraw 220 46 = some (.ifCond .ne 5, 3) ∧ ((46 : Nat) : Int) + 5 = Int.ofNat 51 ∧ 46 + 3 = 49 := by decide +kernel
theorem zi_220_49 : zraw 220 49 = some (.iconst 0, 1) ∧ zin 128 0 = true ∧ 49 + 1 = 50 := by decide +kernel
theorem zi_220_50 : zraw 220 50 = some (.ireturn, 1) ∧ (zinf 220).2.2.2.1 = 1 := by decide +kernel
theorem zi_220_51 : zraw 220 51 = some (.aload_n 0, 1) ∧ 51 + 1 = 52 := by decide +kernel
theorem zi_220_52 : zraw 220 52 = some (.iload_n 1, 1) ∧ 52 + 1 = 53 := by decide +kernel
theorem zi_220_53 : zraw 220 53 = some (.invokevirtual 402, 3) ∧ zmt (zinf 220).1 402 = some 180 ∧ Nat.ble 9000 180 = false ∧ zinf 180 = (10, 2, 6, 0, 0) ∧ 53 + 3 = 56 := by decide +kernel
theorem zi_220_56 : zraw 220 56 = some (.aload_n 0, 1) ∧ 56 + 1 = 57 := by decide +kernel
theorem zi_220_57 : zraw 220 57 = some (.iload_n 2, 1) ∧ 57 + 1 = 58 := by decide +kernel
theorem zi_220_58 : zraw 220 58 = some (.aload_n 0, 1) ∧ 58 + 1 = 59 := by decide +kernel
theorem zi_220_59 : zraw 220 59 = some (.invokevirtual 495, 3) ∧ zmt (zinf 220).1 495 = some 219 ∧ Nat.ble 9000 219 = false ∧ zinf 219 = (10, 1, 5, 1, 0) ∧ 59 + 3 = 62 := by decide +kernel
theorem zi_220_62 : zraw 220 62 = some (.if_icmp .ge 7, 3) ∧ ((62 : Nat) : Int) + 7 = Int.ofNat 69 ∧ 62 + 3 = 65 := by decide +kernel
theorem zi_220_65 : zraw 220 65 = some (.iconst 0, 1) ∧ zin 128 0 = true ∧ 65 + 1 = 66 := by decide +kernel
theorem zi_220_66 : zraw 220 66 = some (.goto 4, 3) ∧ ((66 : Nat) : Int) + 4 = Int.ofNat 70 := by decide +kernel
theorem zi_220_69 : zraw 220 69 = some (.iconst 1, 1) ∧ zin 128 1 = true ∧ 69 + 1 = 70 := by decide +kernel
theorem zi_220_70 : zraw 220 70 = some (.invokevirtual 353, 3) ∧ zmt (zinf 220).1 353 = some 141 ∧ Nat.ble 9000 141 = false ∧ zinf 141 = (10, 2, 2, 2, 0) ∧ 70 + 3 = 73 := by decide +kernel
theorem zi_220_73 : zraw 220 73 = some (.ifCond .eq 17, 3) ∧ ((73 : Nat) : Int) + 17 = Int.ofNat 90 ∧ 73 + 3 = 76 := by decide +kernel
theorem zi_220_76 : zraw 220 76 = some (.aload_n 0, 1) ∧ 76 + 1 = 77 := by decide +kernel
theorem zi_220_77 : zraw 220 77 = some (.getfield 50, 3) ∧ zft (zinf 220).1 50 = some (10, 23, 3, true) ∧ 77 + 3 = 80 := by decide +kernel
theorem zi_220_80 : zraw 220 80 = some (.aload_n 0, 1) ∧ 80 + 1 = 81 := by decide +kernel
theorem zi_220_81 : zraw 220 81 = some (.getfield 181, 3) ∧ zft (zinf 220).1 181 = some (10, 76, 3, true) ∧ 81 + 3 = 84 := by decide +kernel
theorem zi_220_84 : zraw 220 84 = some (.iload_n 2, 1) ∧ 84 + 1 = 85 := by decide +kernel
theorem zi_220_85 : zraw 220 85 = some (.iaload, 1) ∧ 85 + 1 = 86 := by decide +kernel
theorem zi_220_86 : zraw 220 86 = some (.iaload, 1) ∧ 86 + 1 = 87 := by decide +kernel
theorem zi_220_87 : zraw 220 87 = some (.goto 4, 3) ∧ ((87 : Nat) : Int) + 4 = Int.ofNat 91 := by decide +kernel
theorem zi_220_90 : zraw 220 90 = some (.iconst 0, 1) ∧ zin 128 0 = true ∧ 90 + 1 = 91 := by decide +kernel
theorem zi_220_91 : zraw 220 91 = some (.ireturn, 1) ∧ (zinf 220).2.2.2.1 = 1 := by decide +kernel
theorem ze_220 {K : List zF} {σ : zW} {x1 : Int} {x2 : Int} (hK : K.length < 60) : zEv true (zent 220 [.inr (.inr 122), .inl x1, .inl x2] :: K) σ = (zEv true (zent 143 [.inl x1] :: (220, 4, [some (.inr (.inr 122)), some (.inl x1), some (.inl x2), none], []) :: K) σ) :=
  yT_en (f := (220, 0, [some (.inr (.inr 122)), some (.inl x1), some (.inl x2), none], [])) rfl (yI_iload_n zi_220_0 rfl <| yI_cs zi_220_1 rfl rfl hK)
theorem zr_220_4 {K : List zF} {σ : zW} {x1 : Int} {x2 : Int} {o3 : Option zV} {v : Int} (hK : K.length < 60) : zRet true ((220, 4, [some (.inr (.inr 122)), some (.inl x1), some (.inl x2), o3], []) :: K) (some (.inl v)) σ = (if v = 0 then zEv true ((220, 22, [some (.inr (.inr 122)), some (.inl x1), some (.inl x2), o3], []) :: K) σ else if x2 < 0 then zEv true ((220, 22, [some (.inr (.inr 122)), some (.inl x1), some (.inl x2), o3], []) :: K) σ else if (gI σ 122 18) ≤ 0 then zEv true ((220, 22, [some (.inr (.inr 122)), some (.inl x1), some (.inl x2), o3], []) :: K) σ else (¬ ((1 : Int) = 0) → (0 ≤ x1 ∧ x1 < 3)) ∧ zEv true (zent 141 [.inr (.inr 122), .inl (if (1 : Int) = 0 then 1 else (if (gI σ 124 x1.toNat) ≤ 0 then 1 else 0 : Int) : Int)] :: (220, 46, [some (.inr (.inr 122)), some (.inl x1), some (.inl x2), some (.inl 1)], []) :: K) σ) :=
  yT_rt (yI_if_eq zi_220_4 <| yBr (rfl) (yI_iload_n zi_220_7 rfl <| yI_if_lt zi_220_8 <| yBr (rfl) (yI_aload_n zi_220_11 rfl <| yI_gf_i (v := gI σ 122 18) zi_220_12 zk_122 rfl <| yI_if_le zi_220_15 <| yBr (rfl) (yI_iconst zi_220_18 <| yI_goto zi_220_19 <| yI_istore_n (l := [some (.inr (.inr 122)), some (.inl x1), some (.inl x2), some (.inl 1)]) zi_220_23 rfl rfl <| yI_aload_n zi_220_24 rfl <| yI_iload_n zi_220_25 rfl <| yI_if_eq zi_220_26 <| yMi2 (j := 43) (ls2 := [some (.inr (.inr 122)), some (.inl x1), some (.inl x2), some (.inl 1)]) (st2 := [.inr (.inr 122)]) (x := 1) (y := (if (gI σ 124 x1.toNat) ≤ 0 then 1 else 0 : Int)) (σ2 := σ) (yI_iconst zi_220_42 <| rfl) (yI_aload_n zi_220_29 rfl <| yI_gf_f (v := 124) zi_220_30 zk_122 rfl <| yI_iload_n zi_220_33 rfl <| yI_ialoadc (v := gI σ 124 x1.toNat) zi_220_34 za_124 rfl <| yI_if_le zi_220_35 <| yMi0 (j := 43) (ls2 := [some (.inr (.inr 122)), some (.inl x1), some (.inl x2), some (.inl 1)]) (st2 := [.inr (.inr 122)]) (x := 1) (y := 0) (σ2 := σ) (yI_iconst zi_220_42 <| rfl) (yI_iconst zi_220_38 <| yI_goto zi_220_39 <| rfl) <| rfl) <| yI_cv zi_220_43 rfl rfl zk_122 hK))))
theorem zj_220_22 {K : List zF} {σ : zW} {x1 : Int} {x2 : Int} {o3 : Option zV} (hK : K.length < 60) : zEv true ((220, 22, [some (.inr (.inr 122)), some (.inl x1), some (.inl x2), o3], []) :: K) σ = ((¬ ((0 : Int) = 0) → (0 ≤ x1 ∧ x1 < 3)) ∧ zEv true (zent 141 [.inr (.inr 122), .inl (if (0 : Int) = 0 then 1 else (if (gI σ 124 x1.toNat) ≤ 0 then 1 else 0 : Int) : Int)] :: (220, 46, [some (.inr (.inr 122)), some (.inl x1), some (.inl x2), some (.inl 0)], []) :: K) σ) :=
  yI_iconst zi_220_22 <| yI_istore_n (l := [some (.inr (.inr 122)), some (.inl x1), some (.inl x2), some (.inl 0)]) zi_220_23 rfl rfl <| yI_aload_n zi_220_24 rfl <| yI_iload_n zi_220_25 rfl <| yI_if_eq zi_220_26 <| yMi2 (j := 43) (ls2 := [some (.inr (.inr 122)), some (.inl x1), some (.inl x2), some (.inl 0)]) (st2 := [.inr (.inr 122)]) (x := 1) (y := (if (gI σ 124 x1.toNat) ≤ 0 then 1 else 0 : Int)) (σ2 := σ) (yI_iconst zi_220_42 <| rfl) (yI_aload_n zi_220_29 rfl <| yI_gf_f (v := 124) zi_220_30 zk_122 rfl <| yI_iload_n zi_220_33 rfl <| yI_ialoadc (v := gI σ 124 x1.toNat) zi_220_34 za_124 rfl <| yI_if_le zi_220_35 <| yMi0 (j := 43) (ls2 := [some (.inr (.inr 122)), some (.inl x1), some (.inl x2), some (.inl 0)]) (st2 := [.inr (.inr 122)]) (x := 1) (y := 0) (σ2 := σ) (yI_iconst zi_220_42 <| rfl) (yI_iconst zi_220_38 <| yI_goto zi_220_39 <| rfl) <| rfl) <| yI_cv zi_220_43 rfl rfl zk_122 hK
theorem zr_220_46 {K : List zF} {σ : zW} {x1 : Int} {x2 : Int} {o3 : Option zV} {v : Int} (hK : K.length < 60) : zRet true ((220, 46, [some (.inr (.inr 122)), some (.inl x1), some (.inl x2), o3], []) :: K) (some (.inl v)) σ = (if ¬ v = 0 then zEv true (zent 180 [.inr (.inr 122), .inl x1] :: (220, 56, [some (.inr (.inr 122)), some (.inl x1), some (.inl x2), o3], []) :: K) σ else zRet true K (some (.inl 0)) σ) :=
  yT_rt (yI_if_ne zi_220_46 <| yBr (yI_aload_n zi_220_51 rfl <| yI_iload_n zi_220_52 rfl <| yI_cv zi_220_53 rfl rfl zk_122 hK) (yI_iconst zi_220_49 <| yI_ireturn zi_220_50))
theorem zr_220_56 {K : List zF} {σ : zW} {o1 : Option zV} {x2 : Int} {o3 : Option zV} (hK : K.length < 60) : zRet true ((220, 56, [some (.inr (.inr 122)), o1, some (.inl x2), o3], []) :: K) none σ = (zEv true (zent 219 [.inr (.inr 122)] :: (220, 62, [some (.inr (.inr 122)), o1, some (.inl x2), o3], [.inl x2, .inr (.inr 122)]) :: K) σ) :=
  yT_rv (yI_aload_n zi_220_56 rfl <| yI_iload_n zi_220_57 rfl <| yI_aload_n zi_220_58 rfl <| yI_cv zi_220_59 rfl rfl zk_122 hK)
theorem zr_220_62 {K : List zF} {σ : zW} {o1 : Option zV} {x2 : Int} {o3 : Option zV} {s0 : Int} {v : Int} (hK : K.length < 60) : zRet true ((220, 62, [some (.inr (.inr 122)), o1, some (.inl x2), o3], [.inl s0, .inr (.inr 122)]) :: K) (some (.inl v)) σ = (zEv true (zent 141 [.inr (.inr 122), .inl (if v ≤ s0 then 1 else 0 : Int)] :: (220, 73, [some (.inr (.inr 122)), o1, some (.inl x2), o3], []) :: K) σ) :=
  yT_rt (yI_ic_ge zi_220_62 <| yMi0 (j := 70) (ls2 := [some (.inr (.inr 122)), o1, some (.inl x2), o3]) (st2 := [.inr (.inr 122)]) (x := 1) (y := 0) (σ2 := σ) (yI_iconst zi_220_69 <| rfl) (yI_iconst zi_220_65 <| yI_goto zi_220_66 <| rfl) <| yI_cv zi_220_70 rfl rfl zk_122 hK)
theorem zr_220_73 {K : List zF} {σ : zW} {o1 : Option zV} {x2 : Int} {o3 : Option zV} {v : Int} : zRet true ((220, 73, [some (.inr (.inr 122)), o1, some (.inl x2), o3], []) :: K) (some (.inl v)) σ = ((¬ (v = 0) → ((0 ≤ x2 ∧ x2 < 4) ∧ (0 ≤ (gI σ 178 x2.toNat) ∧ (gI σ 178 x2.toNat) < 8))) ∧ zRet true K (some (.inl (if v = 0 then 0 else gI σ 136 ((gI σ 178 x2.toNat).toNat) : Int))) σ) :=
  yT_rt (yI_if_eq zi_220_73 <| yMi2 (j := 91) (ls2 := [some (.inr (.inr 122)), o1, some (.inl x2), o3]) (st2 := []) (x := 0) (y := gI σ 136 ((gI σ 178 x2.toNat).toNat)) (σ2 := σ) (yI_iconst zi_220_90 <| rfl) ((yI_aload_n zi_220_76 rfl <| yI_gf_f (v := 136) zi_220_77 zk_122 rfl <| yI_aload_n zi_220_80 rfl <| yI_gf_f (v := 178) zi_220_81 zk_122 rfl <| yI_iload_n zi_220_84 rfl <| yI_ialoadc (v := gI σ 178 x2.toNat) zi_220_85 za_178 rfl <| yI_ialoadc (v := gI σ 136 ((gI σ 178 x2.toNat).toNat)) zi_220_86 za_136 rfl <| yI_goto zi_220_87 <| rfl).trans (propext and_assoc.symm)) <| yI_ireturn zi_220_91)
/-- 221 TreegrabModel.spot(I)I -/
theorem zi_221_0 : zraw 221 0 = some (.iconst (-1), 1) ∧ zin 128 (-1) = true ∧ 0 + 1 = 1 := by decide +kernel
theorem zi_221_1 : zraw 221 1 = some (.istore_n 2, 1) ∧ 1 + 1 = 2 := by decide +kernel
theorem zi_221_2 : zraw 221 2 = some (.iconst 0, 1) ∧ zin 128 0 = true ∧ 2 + 1 = 3 := by decide +kernel
theorem zi_221_3 : zraw 221 3 = some (.istore_n 3, 1) ∧ 3 + 1 = 4 := by decide +kernel
theorem zi_221_4 : zraw 221 4 = some (.iload_n 3, 1) ∧ 4 + 1 = 5 := by decide +kernel
theorem zi_221_5 : zraw 221 5 = some (.aload_n 0, 1) ∧ 5 + 1 = 6 := by decide +kernel
theorem zi_221_6 : zraw 221 6 = some (.getfield 498, 3) ∧ zft (zinf 221).1 498 = some (10, 77, 0, false) ∧ 6 + 3 = 9 := by decide +kernel
theorem zi_221_9 : zraw 221 9 = some (.if_icmp .ge 25, 3) ∧ ((9 : Nat) : Int) + 25 = Int.ofNat 34 ∧ 9 + 3 = 12 := by decide +kernel
theorem zi_221_12 : zraw 221 12 = some (.aload_n 0, 1) ∧ 12 + 1 = 13 := by decide +kernel
theorem zi_221_13 : zraw 221 13 = some (.getfield 184, 3) ∧ zft (zinf 221).1 184 = some (10, 78, 3, true) ∧ 13 + 3 = 16 := by decide +kernel
theorem zi_221_16 : zraw 221 16 = some (.iload_n 3, 1) ∧ 16 + 1 = 17 := by decide +kernel
theorem zi_221_17 : zraw 221 17 = some (.iaload, 1) ∧ 17 + 1 = 18 := by decide +kernel
theorem zi_221_18 : zraw 221 18 = some (.iload_n 1, 1) ∧ 18 + 1 = 19 := by decide +kernel
theorem zi_221_19 : zraw 221 19 = some (.if_icmp .ne 7, 3) ∧ ((19 : Nat) : Int) + 7 = Int.ofNat 26 ∧ 19 + 3 = 22 := by decide +kernel
theorem zi_221_22 : zraw 221 22 = some (.iload_n 3, 1) ∧ 22 + 1 = 23 := by decide +kernel
theorem zi_221_23 : zraw 221 23 = some (.goto 4, 3) ∧ ((23 : Nat) : Int) + 4 = Int.ofNat 27 := by decide +kernel
theorem zi_221_26 : zraw 221 26 = some (.iload_n 2, 1) ∧ 26 + 1 = 27 := by decide +kernel
theorem zi_221_27 : zraw 221 27 = some (.istore_n 2, 1) ∧ 27 + 1 = 28 := by decide +kernel
theorem zi_221_28 : zraw 221 28 = some (.iinc 3 1, 3) ∧ zin 32768 1 = true ∧ 28 + 3 = 31 := by decide +kernel
theorem zi_221_31 : zraw 221 31 = some (.goto (-27), 3) ∧ ((31 : Nat) : Int) + (-27) = Int.ofNat 4 := by decide +kernel
theorem zi_221_34 : zraw 221 34 = some (.iload_n 2, 1) ∧ 34 + 1 = 35 := by decide +kernel
theorem zi_221_35 : zraw 221 35 = some (.ireturn, 1) ∧ (zinf 221).2.2.2.1 = 1 := by decide +kernel
theorem ze_221 {K : List zF} {σ : zW} {x1 : Int} : zEv true (zent 221 [.inr (.inr 122), .inl x1] :: K) σ = (zEv true ((221, 4, [some (.inr (.inr 122)), some (.inl x1), some (.inl (-1)), some (.inl 0)], []) :: K) σ) :=
  yT_en (f := (221, 0, [some (.inr (.inr 122)), some (.inl x1), none, none], [])) rfl (yI_iconst zi_221_0 <| yI_istore_n (l := [some (.inr (.inr 122)), some (.inl x1), some (.inl (-1)), none]) zi_221_1 rfl rfl <| yI_iconst zi_221_2 <| yI_istore_n (l := [some (.inr (.inr 122)), some (.inl x1), some (.inl (-1)), some (.inl 0)]) zi_221_3 rfl rfl <| rfl)
theorem zj_221_4 {K : List zF} {σ : zW} {x1 : Int} {x2 : Int} {x3 : Int} : zEv true ((221, 4, [some (.inr (.inr 122)), some (.inl x1), some (.inl x2), some (.inl x3)], []) :: K) σ = (if (gI σ 122 77) ≤ x3 then zRet true K (some (.inl x2)) σ else (0 ≤ x3 ∧ x3 < 24) ∧ zEv true ((221, 4, [some (.inr (.inr 122)), some (.inl x1), some (.inl (if ¬ (gI σ 179 x3.toNat) = x1 then x2 else x3 : Int)), some (.inl (w32 (x3 + 1)))], []) :: K) σ) :=
  yI_iload_n zi_221_4 rfl <| yI_aload_n zi_221_5 rfl <| yI_gf_i (v := gI σ 122 77) zi_221_6 zk_122 rfl <| yI_ic_ge zi_221_9 <| yBr (yI_iload_n zi_221_34 rfl <| yI_ireturn zi_221_35) (yI_aload_n zi_221_12 rfl <| yI_gf_f (v := 179) zi_221_13 zk_122 rfl <| yI_iload_n zi_221_16 rfl <| yI_ialoadc (v := gI σ 179 x3.toNat) zi_221_17 za_179 rfl <| yI_iload_n zi_221_18 rfl <| yI_ic_ne zi_221_19 <| yMi0 (j := 27) (ls2 := [some (.inr (.inr 122)), some (.inl x1), some (.inl x2), some (.inl x3)]) (st2 := []) (x := x2) (y := x3) (σ2 := σ) (yI_iload_n zi_221_26 rfl <| rfl) (yI_iload_n zi_221_22 rfl <| yI_goto zi_221_23 <| rfl) <| yI_istore_n (l := [some (.inr (.inr 122)), some (.inl x1), some (.inl (if ¬ (gI σ 179 x3.toNat) = x1 then x2 else x3 : Int)), some (.inl x3)]) zi_221_27 rfl rfl <| yI_iinc (l := [some (.inr (.inr 122)), some (.inl x1), some (.inl (if ¬ (gI σ 179 x3.toNat) = x1 then x2 else x3 : Int)), some (.inl (w32 (x3 + 1)))]) zi_221_28 rfl rfl rfl <| yI_goto zi_221_31 <| rfl)
/-- 222 TreegrabModel.end(I)I -/
theorem zi_222_0 : zraw 222 0 = some (.iload_n 1, 1) ∧ 0 + 1 = 1 := by decide +kernel
theorem zi_222_1 : zraw 222 1 = some (.iconst 1, 1) ∧ zin 128 1 = true ∧ 1 + 1 = 2 := by decide +kernel
theorem zi_222_2 : zraw 222 2 = some (.iadd, 1) ∧ 2 + 1 = 3 := by decide +kernel
theorem zi_222_3 : zraw 222 3 = some (.istore_n 2, 1) ∧ 3 + 1 = 4 := by decide +kernel
theorem zi_222_4 : zraw 222 4 = some (.iload_n 2, 1) ∧ 4 + 1 = 5 := by decide +kernel
theorem zi_222_5 : zraw 222 5 = some (.aload_n 0, 1) ∧ 5 + 1 = 6 := by decide +kernel
theorem zi_222_6 : zraw 222 6 = some (.getfield 498, 3) ∧ zft (zinf 222).1 498 = some (10, 77, 0, false) ∧ 6 + 3 = 9 := by decide +kernel
theorem zi_222_9 : zraw 222 9 = some (.if_icmp .ge 24, 3) ∧ ((9 : Nat) : Int) + 24 = Int.ofNat 33 ∧ 9 + 3 = 12 := by decide +kernel
theorem zi_222_12 : zraw 222 12 = some (.aload_n 0, 1) ∧ 12 + 1 = 13 := by decide +kernel
theorem zi_222_13 : zraw 222 13 = some (.getfield 187, 3) ∧ zft (zinf 222).1 187 = some (10, 79, 3, true) ∧ 13 + 3 = 16 := by decide +kernel
theorem zi_222_16 : zraw 222 16 = some (.iload_n 2, 1) ∧ 16 + 1 = 17 := by decide +kernel
theorem zi_222_17 : zraw 222 17 = some (.iaload, 1) ∧ 17 + 1 = 18 := by decide +kernel
theorem zi_222_18 : zraw 222 18 = some (.aload_n 0, 1) ∧ 18 + 1 = 19 := by decide +kernel
theorem zi_222_19 : zraw 222 19 = some (.getfield 187, 3) ∧ zft (zinf 222).1 187 = some (10, 79, 3, true) ∧ 19 + 3 = 22 := by decide +kernel
theorem zi_222_22 : zraw 222 22 = some (.iload_n 1, 1) ∧ 22 + 1 = 23 := by decide +kernel
theorem zi_222_23 : zraw 222 23 = some (.iaload, 1) ∧ 23 + 1 = 24 := by decide +kernel
theorem zi_222_24 : zraw 222 24 = some (.if_icmp .le 9, 3) ∧ ((24 : Nat) : Int) + 9 = Int.ofNat 33 ∧ 24 + 3 = 27 := by decide +kernel
theorem zi_222_27 : zraw 222 27 = some (.iinc 2 1, 3) ∧ zin 32768 1 = true ∧ 27 + 3 = 30 := by decide +kernel
theorem zi_222_30 : zraw 222 30 = some (.goto (-26), 3) ∧ ((30 : Nat) : Int) + (-26) = Int.ofNat 4 := by decide +kernel
theorem zi_222_33 : zraw 222 33 = some (.iload_n 2, 1) ∧ 33 + 1 = 34 := by decide +kernel
theorem zi_222_34 : zraw 222 34 = some (.ireturn, 1) ∧ (zinf 222).2.2.2.1 = 1 := by decide +kernel
theorem ze_222 {K : List zF} {σ : zW} {x1 : Int} : zEv true (zent 222 [.inr (.inr 122), .inl x1] :: K) σ = (zEv true ((222, 4, [some (.inr (.inr 122)), some (.inl x1), some (.inl (w32 (x1 + 1)))], []) :: K) σ) :=
  yT_en (f := (222, 0, [some (.inr (.inr 122)), some (.inl x1), none], [])) rfl (yI_iload_n zi_222_0 rfl <| yI_iconst zi_222_1 <| yI_iadd zi_222_2 <| yI_istore_n (l := [some (.inr (.inr 122)), some (.inl x1), some (.inl (w32 (x1 + 1)))]) zi_222_3 rfl rfl <| rfl)
theorem zj_222_4 {K : List zF} {σ : zW} {x1 : Int} {x2 : Int} : zEv true ((222, 4, [some (.inr (.inr 122)), some (.inl x1), some (.inl x2)], []) :: K) σ = (if (gI σ 122 77) ≤ x2 then zRet true K (some (.inl x2)) σ else (0 ≤ x2 ∧ x2 < 24) ∧ ((0 ≤ x1 ∧ x1 < 24) ∧ (if (gI σ 180 x2.toNat) ≤ (gI σ 180 x1.toNat) then zRet true K (some (.inl x2)) σ else zEv true ((222, 4, [some (.inr (.inr 122)), some (.inl x1), some (.inl (w32 (x2 + 1)))], []) :: K) σ))) :=
  yI_iload_n zi_222_4 rfl <| yI_aload_n zi_222_5 rfl <| yI_gf_i (v := gI σ 122 77) zi_222_6 zk_122 rfl <| yI_ic_ge zi_222_9 <| yBr (yI_iload_n zi_222_33 rfl <| yI_ireturn zi_222_34) (yI_aload_n zi_222_12 rfl <| yI_gf_f (v := 180) zi_222_13 zk_122 rfl <| yI_iload_n zi_222_16 rfl <| yI_ialoadc (v := gI σ 180 x2.toNat) zi_222_17 za_180 rfl <| yI_aload_n zi_222_18 rfl <| yI_gf_f (v := 180) zi_222_19 zk_122 rfl <| yI_iload_n zi_222_22 rfl <| yI_ialoadc (v := gI σ 180 x1.toNat) zi_222_23 za_180 rfl <| yI_ic_le zi_222_24 <| yBr (yI_iload_n zi_222_33 rfl <| yI_ireturn zi_222_34) (yI_iinc (l := [some (.inr (.inr 122)), some (.inl x1), some (.inl (w32 (x2 + 1)))]) zi_222_27 rfl rfl rfl <| yI_goto zi_222_30 <| rfl))
/-- 223 TreegrabModel.upOf(I)I -/
theorem zi_223_0 : zraw 223 0 = some (.iload_n 1, 1) ∧ 0 + 1 = 1 := by decide +kernel
theorem zi_223_1 : zraw 223 1 = some (.iconst 1, 1) ∧ zin 128 1 = true ∧ 1 + 1 = 2 := by decide +kernel
theorem zi_223_2 : zraw 223 2 = some (.isub, 1) ∧ 2 + 1 = 3 := by decide +kernel
theorem zi_223_3 : zraw 223 3 = some (.istore_n 2, 1) ∧ 3 + 1 = 4 := by decide +kernel
theorem zi_223_4 : zraw 223 4 = some (.iload_n 2, 1) ∧ 4 + 1 = 5 := by decide +kernel
theorem zi_223_5 : zraw 223 5 = some (.ifCond .lt 24, 3) ∧ ((5 : Nat) : Int) + 24 = Int.ofNat 29 ∧ 5 + 3 = 8 := by decide +kernel
theorem zi_223_8 : zraw 223 8 = some (.aload_n 0, 1) ∧ 8 + 1 = 9 := by decide +kernel
theorem zi_223_9 : zraw 223 9 = some (.getfield 187, 3) ∧ zft (zinf 223).1 187 = some (10, 79, 3, true) ∧ 9 + 3 = 12 := by decide +kernel
theorem zi_223_12 : zraw 223 12 = some (.iload_n 2, 1) ∧ 12 + 1 = 13 := by decide +kernel
theorem zi_223_13 : zraw 223 13 = some (.iaload, 1) ∧ 13 + 1 = 14 := by decide +kernel
theorem zi_223_14 : zraw 223 14 = some (.aload_n 0, 1) ∧ 14 + 1 = 15 := by decide +kernel
theorem zi_223_15 : zraw 223 15 = some (.getfield 187, 3) ∧ zft (zinf 223).1 187 = some (10, 79, 3, true) ∧ 15 + 3 = 18 := by decide +kernel
theorem zi_223_18 : zraw 223 18 = some (.iload_n 1, 1) ∧ 18 + 1 = 19 := by decide +kernel
theorem zi_223_19 : zraw 223 19 = some (.iaload, 1) ∧ 19 + 1 = 20 := by decide +kernel
theorem zi_223_20 : zraw 223 20 = some (.if_icmp .lt 9, 3) ∧ ((20 : Nat) : Int) + 9 = Int.ofNat 29 ∧ 20 + 3 = 23 := by decide +kernel
theorem zi_223_23 : zraw 223 23 = some (.iinc 2 (-1), 3) ∧ zin 32768 (-1) = true ∧ 23 + 3 = 26 := by decide +kernel
theorem zi_223_26 : zraw 223 26 = some (.goto (-22), 3) ∧ ((26 : Nat) : Int) + (-22) = Int.ofNat 4 := by decide +kernel
theorem zi_223_29 : zraw 223 29 = some (.iload_n 2, 1) ∧ 29 + 1 = 30 := by decide +kernel
theorem zi_223_30 : zraw 223 30 = some (.ireturn, 1) ∧ (zinf 223).2.2.2.1 = 1 := by decide +kernel
theorem ze_223 {K : List zF} {σ : zW} {x1 : Int} : zEv true (zent 223 [.inr (.inr 122), .inl x1] :: K) σ = (zEv true ((223, 4, [some (.inr (.inr 122)), some (.inl x1), some (.inl (w32 (x1 - 1)))], []) :: K) σ) :=
  yT_en (f := (223, 0, [some (.inr (.inr 122)), some (.inl x1), none], [])) rfl (yI_iload_n zi_223_0 rfl <| yI_iconst zi_223_1 <| yI_isub zi_223_2 <| yI_istore_n (l := [some (.inr (.inr 122)), some (.inl x1), some (.inl (w32 (x1 - 1)))]) zi_223_3 rfl rfl <| rfl)
theorem zj_223_4 {K : List zF} {σ : zW} {x1 : Int} {x2 : Int} : zEv true ((223, 4, [some (.inr (.inr 122)), some (.inl x1), some (.inl x2)], []) :: K) σ = (if x2 < 0 then zRet true K (some (.inl x2)) σ else (0 ≤ x2 ∧ x2 < 24) ∧ ((0 ≤ x1 ∧ x1 < 24) ∧ (if (gI σ 180 x2.toNat) < (gI σ 180 x1.toNat) then zRet true K (some (.inl x2)) σ else zEv true ((223, 4, [some (.inr (.inr 122)), some (.inl x1), some (.inl (w32 (x2 + (-1))))], []) :: K) σ))) :=
  yI_iload_n zi_223_4 rfl <| yI_if_lt zi_223_5 <| yBr (yI_iload_n zi_223_29 rfl <| yI_ireturn zi_223_30) (yI_aload_n zi_223_8 rfl <| yI_gf_f (v := 180) zi_223_9 zk_122 rfl <| yI_iload_n zi_223_12 rfl <| yI_ialoadc (v := gI σ 180 x2.toNat) zi_223_13 za_180 rfl <| yI_aload_n zi_223_14 rfl <| yI_gf_f (v := 180) zi_223_15 zk_122 rfl <| yI_iload_n zi_223_18 rfl <| yI_ialoadc (v := gI σ 180 x1.toNat) zi_223_19 za_180 rfl <| yI_ic_lt zi_223_20 <| yBr (yI_iload_n zi_223_29 rfl <| yI_ireturn zi_223_30) (yI_iinc (l := [some (.inr (.inr 122)), some (.inl x1), some (.inl (w32 (x2 + (-1))))]) zi_223_23 rfl rfl rfl <| yI_goto zi_223_26 <| rfl))
/-- 224 TreegrabModel.isSingle(I)Z -/
theorem zi_224_0 : zraw 224 0 = some (.aload_n 0, 1) ∧ 0 + 1 = 1 := by decide +kernel
theorem zi_224_1 : zraw 224 1 = some (.iload_n 1, 1) ∧ 1 + 1 = 2 := by decide +kernel
theorem zi_224_2 : zraw 224 2 = some (.invokevirtual 501, 3) ∧ zmt (zinf 224).1 501 = some 222 ∧ Nat.ble 9000 222 = false ∧ zinf 222 = (10, 2, 3, 1, 0) ∧ 2 + 3 = 5 := by decide +kernel
theorem zi_224_5 : zraw 224 5 = some (.iload_n 1, 1) ∧ 5 + 1 = 6 := by decide +kernel
theorem zi_224_6 : zraw 224 6 = some (.iconst 1, 1) ∧ zin 128 1 = true ∧ 6 + 1 = 7 := by decide +kernel
theorem zi_224_7 : zraw 224 7 = some (.iadd, 1) ∧ 7 + 1 = 8 := by decide +kernel
theorem zi_224_8 : zraw 224 8 = some (.if_icmp .ne 7, 3) ∧ ((8 : Nat) : Int) + 7 = Int.ofNat 15 ∧ 8 + 3 = 11 := by decide +kernel
theorem zi_224_11 : zraw 224 11 = some (.iconst 1, 1) ∧ zin 128 1 = true ∧ 11 + 1 = 12 := by decide +kernel
theorem zi_224_12 : zraw 224 12 = some (.goto 4, 3) ∧ ((12 : Nat) : Int) + 4 = Int.ofNat 16 := by decide +kernel
theorem zi_224_15 : zraw 224 15 = some (.iconst 0, 1) ∧ zin 128 0 = true ∧ 15 + 1 = 16 := by decide +kernel
theorem zi_224_16 : zraw 224 16 = some (.ireturn, 1) ∧ (zinf 224).2.2.2.1 = 2 := by decide +kernel
theorem ze_224 {K : List zF} {σ : zW} {x1 : Int} (hK : K.length < 60) : zEv true (zent 224 [.inr (.inr 122), .inl x1] :: K) σ = (zEv true (zent 222 [.inr (.inr 122), .inl x1] :: (224, 5, [some (.inr (.inr 122)), some (.inl x1)], []) :: K) σ) :=
  yT_en (f := (224, 0, [some (.inr (.inr 122)), some (.inl x1)], [])) rfl (yI_aload_n zi_224_0 rfl <| yI_iload_n zi_224_1 rfl <| yI_cv zi_224_2 rfl rfl zk_122 hK)
theorem zr_224_5 {K : List zF} {σ : zW} {o0 : Option zV} {x1 : Int} {v : Int} : zRet true ((224, 5, [o0, some (.inl x1)], []) :: K) (some (.inl v)) σ = (if ¬ v = (w32 (x1 + 1)) then zRet true K (some (.inl 0)) σ else zRet true K (some (.inl 1)) σ) :=
  yT_rt (yI_iload_n zi_224_5 rfl <| yI_iconst zi_224_6 <| yI_iadd zi_224_7 <| yI_ic_ne zi_224_8 <| yBr (yI_iconst zi_224_15 <| yI_zreturn zi_224_16 (by decide)) (yI_iconst zi_224_11 <| yI_goto zi_224_12 <| yI_zreturn zi_224_16 (by decide)))
/-- 225 TreegrabModel.shifts(II)V -/
theorem zi_225_0 : zraw 225 0 = some (.aload_n 0, 1) ∧ 0 + 1 = 1 := by decide +kernel
theorem zi_225_1 : zraw 225 1 = some (.getfield 498, 3) ∧ zft (zinf 225).1 498 = some (10, 77, 0, false) ∧ 1 + 3 = 4 := by decide +kernel
theorem zi_225_4 : zraw 225 4 = some (.iconst 1, 1) ∧ zin 128 1 = true ∧ 4 + 1 = 5 := by decide +kernel
theorem zi_225_5 : zraw 225 5 = some (.isub, 1) ∧ 5 + 1 = 6 := by decide +kernel
theorem zi_225_6 : zraw 225 6 = some (.istore_n 3, 1) ∧ 6 + 1 = 7 := by decide +kernel
theorem zi_225_7 : zraw 225 7 = some (.iload_n 3, 1) ∧ 7 + 1 = 8 := by decide +kernel
theorem zi_225_8 : zraw 225 8 = some (.iload_n 1, 1) ∧ 8 + 1 = 9 := by decide +kernel
theorem zi_225_9 : zraw 225 9 = some (.if_icmp .lt 55, 3) ∧ ((9 : Nat) : Int) + 55 = Int.ofNat 64 ∧ 9 + 3 = 12 := by decide +kernel
theorem zi_225_12 : zraw 225 12 = some (.iload_n 2, 1) ∧ 12 + 1 = 13 := by decide +kernel
theorem zi_225_13 : zraw 225 13 = some (.ifCond .le 51, 3) ∧ ((13 : Nat) : Int) + 51 = Int.ofNat 64 ∧ 13 + 3 = 16 := by decide +kernel
theorem zi_225_16 : zraw 225 16 = some (.aload_n 0, 1) ∧ 16 + 1 = 17 := by decide +kernel
theorem zi_225_17 : zraw 225 17 = some (.getfield 184, 3) ∧ zft (zinf 225).1 184 = some (10, 78, 3, true) ∧ 17 + 3 = 20 := by decide +kernel
theorem zi_225_20 : zraw 225 20 = some (.iload_n 3, 1) ∧ 20 + 1 = 21 := by decide +kernel
theorem zi_225_21 : zraw 225 21 = some (.iload_n 2, 1) ∧ 21 + 1 = 22 := by decide +kernel
theorem zi_225_22 : zraw 225 22 = some (.iadd, 1) ∧ 22 + 1 = 23 := by decide +kernel
theorem zi_225_23 : zraw 225 23 = some (.aload_n 0, 1) ∧ 23 + 1 = 24 := by decide +kernel
theorem zi_225_24 : zraw 225 24 = some (.getfield 184, 3) ∧ zft (zinf 225).1 184 = some (10, 78, 3, true) ∧ 24 + 3 = 27 := by decide +kernel
theorem zi_225_27 : zraw 225 27 = some (.iload_n 3, 1) ∧ 27 + 1 = 28 := by decide +kernel
theorem zi_225_28 : zraw 225 28 = some (.iaload, 1) ∧ 28 + 1 = 29 := by decide +kernel
theorem zi_225_29 : zraw 225 29 = some (.iastore, 1) ∧ 29 + 1 = 30 := by decide +kernel
theorem zi_225_30 : zraw 225 30 = some (.aload_n 0, 1) ∧ 30 + 1 = 31 := by decide +kernel
theorem zi_225_31 : zraw 225 31 = some (.getfield 187, 3) ∧ zft (zinf 225).1 187 = some (10, 79, 3, true) ∧ 31 + 3 = 34 := by decide +kernel
theorem zi_225_34 : zraw 225 34 = some (.iload_n 3, 1) ∧ 34 + 1 = 35 := by decide +kernel
theorem zi_225_35 : zraw 225 35 = some (.iload_n 2, 1) ∧ 35 + 1 = 36 := by decide +kernel
theorem zi_225_36 : zraw 225 36 = some (.iadd, 1) ∧ 36 + 1 = 37 := by decide +kernel
theorem zi_225_37 : zraw 225 37 = some (.aload_n 0, 1) ∧ 37 + 1 = 38 := by decide +kernel
theorem zi_225_38 : zraw 225 38 = some (.getfield 187, 3) ∧ zft (zinf 225).1 187 = some (10, 79, 3, true) ∧ 38 + 3 = 41 := by decide +kernel
theorem zi_225_41 : zraw 225 41 = some (.iload_n 3, 1) ∧ 41 + 1 = 42 := by decide +kernel
theorem zi_225_42 : zraw 225 42 = some (.iaload, 1) ∧ 42 + 1 = 43 := by decide +kernel
theorem zi_225_43 : zraw 225 43 = some (.iastore, 1) ∧ 43 + 1 = 44 := by decide +kernel
theorem zi_225_44 : zraw 225 44 = some (.aload_n 0, 1) ∧ 44 + 1 = 45 := by decide +kernel
theorem zi_225_45 : zraw 225 45 = some (.getfield 190, 3) ∧ zft (zinf 225).1 190 = some (10, 80, 3, true) ∧ 45 + 3 = 48 := by decide +kernel
theorem zi_225_48 : zraw 225 48 = some (.iload_n 3, 1) ∧ 48 + 1 = 49 := by decide +kernel
theorem zi_225_49 : zraw 225 49 = some (.iload_n 2, 1) ∧ 49 + 1 = 50 := by decide +kernel
theorem zi_225_50 : zraw 225 50 = some (.iadd, 1) ∧ 50 + 1 = 51 := by decide +kernel
theorem zi_225_51 : zraw 225 51 = some (.aload_n 0, 1) ∧ 51 + 1 = 52 := by decide +kernel
theorem zi_225_52 : zraw 225 52 = some (.getfield 190, 3) ∧ zft (zinf 225).1 190 = some (10, 80, 3, true) ∧ 52 + 3 = 55 := by decide +kernel
theorem zi_225_55 : zraw 225 55 = some (.iload_n 3, 1) ∧ 55 + 1 = 56 := by decide +kernel
theorem zi_225_56 : zraw 225 56 = some (.laload, 1) ∧ 56 + 1 = 57 := by decide +kernel
theorem zi_225_57 : zraw 225 57 = some (.lastore, 1) ∧ 57 + 1 = 58 := by decide +kernel
theorem zi_225_58 : zraw 225 58 = some (.iinc 3 (-1), 3) ∧ zin 32768 (-1) = true ∧ 58 + 3 = 61 := by decide +kernel
theorem zi_225_61 : zraw 225 61 = some (.goto (-54), 3) ∧ ((61 : Nat) : Int) + (-54) = Int.ofNat 7 := by decide +kernel
theorem zi_225_64 : zraw 225 64 = some (.iload_n 1, 1) ∧ 64 + 1 = 65 := by decide +kernel
theorem zi_225_65 : zraw 225 65 = some (.istore_n 3, 1) ∧ 65 + 1 = 66 := by decide +kernel
theorem zi_225_66 : zraw 225 66 = some (.iload_n 3, 1) ∧ 66 + 1 = 67 := by decide +kernel
theorem zi_225_67 : zraw 225 67 = some (.aload_n 0, 1) ∧ 67 + 1 = 68 := by decide +kernel
theorem zi_225_68 : zraw 225 68 = some (.getfield 498, 3) ∧ zft (zinf 225).1 498 = some (10, 77, 0, false) ∧ 68 + 3 = 71 := by decide +kernel
theorem zi_225_71 : zraw 225 71 = some (.iload_n 2, 1) ∧ 71 + 1 = 72 := by decide +kernel
theorem zi_225_72 : zraw 225 72 = some (.iadd, 1) ∧ 72 + 1 = 73 := by decide +kernel
theorem zi_225_73 : zraw 225 73 = some (.if_icmp .ge 55, 3) ∧ ((73 : Nat) : Int) + 55 = Int.ofNat 128 ∧ 73 + 3 = 76 := by decide +kernel
theorem zi_225_76 : zraw 225 76 = some (.iload_n 2, 1) ∧ 76 + 1 = 77 := by decide +kernel
theorem zi_225_77 : zraw 225 77 = some (.ifCond .ge 51, 3) ∧ ((77 : Nat) : Int) + 51 = Int.ofNat 128 ∧ 77 + 3 = 80 := by decide +kernel
theorem zi_225_80 : zraw 225 80 = some (.aload_n 0, 1) ∧ 80 + 1 = 81 := by decide +kernel
theorem zi_225_81 : zraw 225 81 = some (.getfield 184, 3) ∧ zft (zinf 225).1 184 = some (10, 78, 3, true) ∧ 81 + 3 = 84 := by decide +kernel
theorem zi_225_84 : zraw 225 84 = some (.iload_n 3, 1) ∧ 84 + 1 = 85 := by decide +kernel
theorem zi_225_85 : zraw 225 85 = some (.aload_n 0, 1) ∧ 85 + 1 = 86 := by decide +kernel
theorem zi_225_86 : zraw 225 86 = some (.getfield 184, 3) ∧ zft (zinf 225).1 184 = some (10, 78, 3, true) ∧ 86 + 3 = 89 := by decide +kernel
theorem zi_225_89 : zraw 225 89 = some (.iload_n 3, 1) ∧ 89 + 1 = 90 := by decide +kernel
theorem zi_225_90 : zraw 225 90 = some (.iload_n 2, 1) ∧ 90 + 1 = 91 := by decide +kernel
theorem zi_225_91 : zraw 225 91 = some (.isub, 1) ∧ 91 + 1 = 92 := by decide +kernel
theorem zi_225_92 : zraw 225 92 = some (.iaload, 1) ∧ 92 + 1 = 93 := by decide +kernel
theorem zi_225_93 : zraw 225 93 = some (.iastore, 1) ∧ 93 + 1 = 94 := by decide +kernel
theorem zi_225_94 : zraw 225 94 = some (.aload_n 0, 1) ∧ 94 + 1 = 95 := by decide +kernel
theorem zi_225_95 : zraw 225 95 = some (.getfield 187, 3) ∧ zft (zinf 225).1 187 = some (10, 79, 3, true) ∧ 95 + 3 = 98 := by decide +kernel
theorem zi_225_98 : zraw 225 98 = some (.iload_n 3, 1) ∧ 98 + 1 = 99 := by decide +kernel
theorem zi_225_99 : zraw 225 99 = some (.aload_n 0, 1) ∧ 99 + 1 = 100 := by decide +kernel
theorem zi_225_100 : zraw 225 100 = some (.getfield 187, 3) ∧ zft (zinf 225).1 187 = some (10, 79, 3, true) ∧ 100 + 3 = 103 := by decide +kernel
theorem zi_225_103 : zraw 225 103 = some (.iload_n 3, 1) ∧ 103 + 1 = 104 := by decide +kernel
theorem zi_225_104 : zraw 225 104 = some (.iload_n 2, 1) ∧ 104 + 1 = 105 := by decide +kernel
theorem zi_225_105 : zraw 225 105 = some (.isub, 1) ∧ 105 + 1 = 106 := by decide +kernel
theorem zi_225_106 : zraw 225 106 = some (.iaload, 1) ∧ 106 + 1 = 107 := by decide +kernel
theorem zi_225_107 : zraw 225 107 = some (.iastore, 1) ∧ 107 + 1 = 108 := by decide +kernel
theorem zi_225_108 : zraw 225 108 = some (.aload_n 0, 1) ∧ 108 + 1 = 109 := by decide +kernel
theorem zi_225_109 : zraw 225 109 = some (.getfield 190, 3) ∧ zft (zinf 225).1 190 = some (10, 80, 3, true) ∧ 109 + 3 = 112 := by decide +kernel
theorem zi_225_112 : zraw 225 112 = some (.iload_n 3, 1) ∧ 112 + 1 = 113 := by decide +kernel
theorem zi_225_113 : zraw 225 113 = some (.aload_n 0, 1) ∧ 113 + 1 = 114 := by decide +kernel
theorem zi_225_114 : zraw 225 114 = some (.getfield 190, 3) ∧ zft (zinf 225).1 190 = some (10, 80, 3, true) ∧ 114 + 3 = 117 := by decide +kernel
theorem zi_225_117 : zraw 225 117 = some (.iload_n 3, 1) ∧ 117 + 1 = 118 := by decide +kernel
theorem zi_225_118 : zraw 225 118 = some (.iload_n 2, 1) ∧ 118 + 1 = 119 := by decide +kernel
theorem zi_225_119 : zraw 225 119 = some (.isub, 1) ∧ 119 + 1 = 120 := by decide +kernel
theorem zi_225_120 : zraw 225 120 = some (.laload, 1) ∧ 120 + 1 = 121 := by decide +kernel
theorem zi_225_121 : zraw 225 121 = some (.lastore, 1) ∧ 121 + 1 = 122 := by decide +kernel
theorem zi_225_122 : zraw 225 122 = some (.iinc 3 1, 3) ∧ zin 32768 1 = true ∧ 122 + 3 = 125 := by decide +kernel
theorem zi_225_125 : zraw 225 125 = some (.goto (-59), 3) ∧ ((125 : Nat) : Int) + (-59) = Int.ofNat 66 := by decide +kernel
theorem zi_225_128 : zraw 225 128 = some (.aload_n 0, 1) ∧ 128 + 1 = 129 := by decide +kernel
theorem zi_225_129 : zraw 225 129 = some (.dup, 1) ∧ 129 + 1 = 130 := by decide +kernel
theorem zi_225_130 : zraw 225 130 = some (.getfield 498, 3) ∧ zft (zinf 225).1 498 = some (10, 77, 0, false) ∧ 130 + 3 = 133 := by decide +kernel
theorem zi_225_133 : zraw 225 133 = some (.iload_n 2, 1) ∧ 133 + 1 = 134 := by decide +kernel
theorem zi_225_134 : zraw 225 134 = some (.iadd, 1) ∧ 134 + 1 = 135 := by decide +kernel
theorem zi_225_135 : zraw 225 135 = some (.putfield 498, 3) ∧ zft (zinf 225).1 498 = some (10, 77, 0, false) ∧ 135 + 3 = 138 := by decide +kernel
theorem zi_225_138 : zraw 225 138 = some (.return_, 1) ∧ (zinf 225).2.2.2.1 = 0 := by decide +kernel
theorem ze_225 {K : List zF} {σ : zW} {x1 : Int} {x2 : Int} : zEv true (zent 225 [.inr (.inr 122), .inl x1, .inl x2] :: K) σ = (zEv true ((225, 7, [some (.inr (.inr 122)), some (.inl x1), some (.inl x2), some (.inl (w32 ((gI σ 122 77) - 1)))], []) :: K) σ) :=
  yT_en (f := (225, 0, [some (.inr (.inr 122)), some (.inl x1), some (.inl x2), none], [])) rfl (yI_aload_n zi_225_0 rfl <| yI_gf_i (v := gI σ 122 77) zi_225_1 zk_122 rfl <| yI_iconst zi_225_4 <| yI_isub zi_225_5 <| yI_istore_n (l := [some (.inr (.inr 122)), some (.inl x1), some (.inl x2), some (.inl (w32 ((gI σ 122 77) - 1)))]) zi_225_6 rfl rfl <| rfl)
theorem zj_225_7 {K : List zF} {σ : zW} {x1 : Int} {x2 : Int} {x3 : Int} : zEv true ((225, 7, [some (.inr (.inr 122)), some (.inl x1), some (.inl x2), some (.inl x3)], []) :: K) σ = (if x3 < x1 then zEv true ((225, 64, [some (.inr (.inr 122)), some (.inl x1), some (.inl x2), some (.inl x3)], []) :: K) σ else if x2 ≤ 0 then zEv true ((225, 64, [some (.inr (.inr 122)), some (.inl x1), some (.inl x2), some (.inl x3)], []) :: K) σ else (0 ≤ x3 ∧ x3 < 24) ∧ ((0 ≤ (w32 (x3 + x2)) ∧ (w32 (x3 + x2)) < 24) ∧ ((0 ≤ x3 ∧ x3 < 24) ∧ ((0 ≤ (w32 (x3 + x2)) ∧ (w32 (x3 + x2)) < 24) ∧ ((0 ≤ x3 ∧ x3 < 24) ∧ ((0 ≤ (w32 (x3 + x2)) ∧ (w32 (x3 + x2)) < 24) ∧ zEv true ((225, 7, [some (.inr (.inr 122)), some (.inl x1), some (.inl x2), some (.inl (w32 (x3 + (-1))))], []) :: K) (sL (sI (sI σ 179 ((w32 (x3 + x2)).toNat) (gI σ 179 x3.toNat)) 180 ((w32 (x3 + x2)).toNat) (gI σ 180 x3.toNat)) 181 ((w32 (x3 + x2)).toNat) (gL σ 181 x3.toNat)))))))) :=
  yI_iload_n zi_225_7 rfl <| yI_iload_n zi_225_8 rfl <| yI_ic_lt zi_225_9 <| yBr (rfl) (yI_iload_n zi_225_12 rfl <| yI_if_le zi_225_13 <| yBr (rfl) (yI_aload_n zi_225_16 rfl <| yI_gf_f (v := 179) zi_225_17 zk_122 rfl <| yI_iload_n zi_225_20 rfl <| yI_iload_n zi_225_21 rfl <| yI_iadd zi_225_22 <| yI_aload_n zi_225_23 rfl <| yI_gf_f (v := 179) zi_225_24 zk_122 rfl <| yI_iload_n zi_225_27 rfl <| yI_ialoadc (v := gI σ 179 x3.toNat) zi_225_28 za_179 rfl <| yI_iastorec zi_225_29 za_179 <| yI_aload_n zi_225_30 rfl <| yI_gf_f (v := 180) zi_225_31 zk_122 rfl <| yI_iload_n zi_225_34 rfl <| yI_iload_n zi_225_35 rfl <| yI_iadd zi_225_36 <| yI_aload_n zi_225_37 rfl <| yI_gf_f (v := 180) zi_225_38 zk_122 rfl <| yI_iload_n zi_225_41 rfl <| yI_ialoadc (v := gI σ 180 x3.toNat) zi_225_42 za_180 (yGI_nk (by decide)) <| yI_iastorec zi_225_43 za_180 <| yI_aload_n zi_225_44 rfl <| yI_gf_f (v := 181) zi_225_45 zk_122 rfl <| yI_iload_n zi_225_48 rfl <| yI_iload_n zi_225_49 rfl <| yI_iadd zi_225_50 <| yI_aload_n zi_225_51 rfl <| yI_gf_f (v := 181) zi_225_52 zk_122 rfl <| yI_iload_n zi_225_55 rfl <| yI_laloadc (v := gL σ 181 x3.toNat) zi_225_56 za_181 rfl <| yI_lastorec zi_225_57 za_181 <| yI_iinc (l := [some (.inr (.inr 122)), some (.inl x1), some (.inl x2), some (.inl (w32 (x3 + (-1))))]) zi_225_58 rfl rfl rfl <| yI_goto zi_225_61 <| rfl))
theorem zj_225_64 {K : List zF} {σ : zW} {x1 : Int} {x2 : Int} {o3 : Option zV} : zEv true ((225, 64, [some (.inr (.inr 122)), some (.inl x1), some (.inl x2), o3], []) :: K) σ = (zEv true ((225, 66, [some (.inr (.inr 122)), some (.inl x1), some (.inl x2), some (.inl x1)], []) :: K) σ) :=
  yI_iload_n zi_225_64 rfl <| yI_istore_n (l := [some (.inr (.inr 122)), some (.inl x1), some (.inl x2), some (.inl x1)]) zi_225_65 rfl rfl <| rfl
theorem zj_225_66 {K : List zF} {σ : zW} {o1 : Option zV} {x2 : Int} {x3 : Int} : zEv true ((225, 66, [some (.inr (.inr 122)), o1, some (.inl x2), some (.inl x3)], []) :: K) σ = (if (w32 ((gI σ 122 77) + x2)) ≤ x3 then zEv true ((225, 128, [some (.inr (.inr 122)), o1, some (.inl x2), some (.inl x3)], []) :: K) σ else if 0 ≤ x2 then zEv true ((225, 128, [some (.inr (.inr 122)), o1, some (.inl x2), some (.inl x3)], []) :: K) σ else (0 ≤ (w32 (x3 - x2)) ∧ (w32 (x3 - x2)) < 24) ∧ ((0 ≤ x3 ∧ x3 < 24) ∧ ((0 ≤ (w32 (x3 - x2)) ∧ (w32 (x3 - x2)) < 24) ∧ ((0 ≤ x3 ∧ x3 < 24) ∧ ((0 ≤ (w32 (x3 - x2)) ∧ (w32 (x3 - x2)) < 24) ∧ ((0 ≤ x3 ∧ x3 < 24) ∧ zEv true ((225, 66, [some (.inr (.inr 122)), o1, some (.inl x2), some (.inl (w32 (x3 + 1)))], []) :: K) (sL (sI (sI σ 179 x3.toNat (gI σ 179 ((w32 (x3 - x2)).toNat))) 180 x3.toNat (gI σ 180 ((w32 (x3 - x2)).toNat))) 181 x3.toNat (gL σ 181 ((w32 (x3 - x2)).toNat))))))))) :=
  yI_iload_n zi_225_66 rfl <| yI_aload_n zi_225_67 rfl <| yI_gf_i (v := gI σ 122 77) zi_225_68 zk_122 rfl <| yI_iload_n zi_225_71 rfl <| yI_iadd zi_225_72 <| yI_ic_ge zi_225_73 <| yBr (rfl) (yI_iload_n zi_225_76 rfl <| yI_if_ge zi_225_77 <| yBr (rfl) (yI_aload_n zi_225_80 rfl <| yI_gf_f (v := 179) zi_225_81 zk_122 rfl <| yI_iload_n zi_225_84 rfl <| yI_aload_n zi_225_85 rfl <| yI_gf_f (v := 179) zi_225_86 zk_122 rfl <| yI_iload_n zi_225_89 rfl <| yI_iload_n zi_225_90 rfl <| yI_isub zi_225_91 <| yI_ialoadc (v := gI σ 179 ((w32 (x3 - x2)).toNat)) zi_225_92 za_179 rfl <| yI_iastorec zi_225_93 za_179 <| yI_aload_n zi_225_94 rfl <| yI_gf_f (v := 180) zi_225_95 zk_122 rfl <| yI_iload_n zi_225_98 rfl <| yI_aload_n zi_225_99 rfl <| yI_gf_f (v := 180) zi_225_100 zk_122 rfl <| yI_iload_n zi_225_103 rfl <| yI_iload_n zi_225_104 rfl <| yI_isub zi_225_105 <| yI_ialoadc (v := gI σ 180 ((w32 (x3 - x2)).toNat)) zi_225_106 za_180 (yGI_nk (by decide)) <| yI_iastorec zi_225_107 za_180 <| yI_aload_n zi_225_108 rfl <| yI_gf_f (v := 181) zi_225_109 zk_122 rfl <| yI_iload_n zi_225_112 rfl <| yI_aload_n zi_225_113 rfl <| yI_gf_f (v := 181) zi_225_114 zk_122 rfl <| yI_iload_n zi_225_117 rfl <| yI_iload_n zi_225_118 rfl <| yI_isub zi_225_119 <| yI_laloadc (v := gL σ 181 ((w32 (x3 - x2)).toNat)) zi_225_120 za_181 rfl <| yI_lastorec zi_225_121 za_181 <| yI_iinc (l := [some (.inr (.inr 122)), o1, some (.inl x2), some (.inl (w32 (x3 + 1)))]) zi_225_122 rfl rfl rfl <| yI_goto zi_225_125 <| rfl))
theorem zj_225_128 {K : List zF} {σ : zW} {o1 : Option zV} {x2 : Int} {o3 : Option zV} : zEv true ((225, 128, [some (.inr (.inr 122)), o1, some (.inl x2), o3], []) :: K) σ = (zRet true K none (sI σ 122 77 (w32 ((gI σ 122 77) + x2)))) :=
  yI_aload_n zi_225_128 rfl <| yI_dup_r zi_225_129 <| yI_gf_i (v := gI σ 122 77) zi_225_130 zk_122 rfl <| yI_iload_n zi_225_133 rfl <| yI_iadd zi_225_134 <| yI_pf_i zi_225_135 zk_122 <| yI_ret zi_225_138
/-- 226 TreegrabModel.inserts(IIJ)V -/
theorem zi_226_0 : zraw 226 0 = some (.aload_n 0, 1) ∧ 0 + 1 = 1 := by decide +kernel
theorem zi_226_1 : zraw 226 1 = some (.iload_n 1, 1) ∧ 1 + 1 = 2 := by decide +kernel
theorem zi_226_2 : zraw 226 2 = some (.iconst 1, 1) ∧ zin 128 1 = true ∧ 2 + 1 = 3 := by decide +kernel
theorem zi_226_3 : zraw 226 3 = some (.invokevirtual 504, 3) ∧ zmt (zinf 226).1 504 = some 225 ∧ Nat.ble 9000 225 = false ∧ zinf 225 = (10, 3, 4, 0, 0) ∧ 3 + 3 = 6 := by decide +kernel
theorem zi_226_6 : zraw 226 6 = some (.aload_n 0, 1) ∧ 6 + 1 = 7 := by decide +kernel
theorem zi_226_7 : zraw 226 7 = some (.getfield 184, 3) ∧ zft (zinf 226).1 184 = some (10, 78, 3, true) ∧ 7 + 3 = 10 := by decide +kernel
theorem zi_226_10 : zraw 226 10 = some (.iload_n 1, 1) ∧ 10 + 1 = 11 := by decide +kernel
theorem zi_226_11 : zraw 226 11 = some (.aload_n 0, 1) ∧ 11 + 1 = 12 := by decide +kernel
theorem zi_226_12 : zraw 226 12 = some (.getfield 508, 3) ∧ zft (zinf 226).1 508 = some (10, 85, 0, false) ∧ 12 + 3 = 15 := by decide +kernel
theorem zi_226_15 : zraw 226 15 = some (.iastore, 1) ∧ 15 + 1 = 16 := by decide +kernel
theorem zi_226_16 : zraw 226 16 = some (.aload_n 0, 1) ∧ 16 + 1 = 17 := by decide +kernel
theorem zi_226_17 : zraw 226 17 = some (.getfield 187, 3) ∧ zft (zinf 226).1 187 = some (10, 79, 3, true) ∧ 17 + 3 = 20 := by decide +kernel
theorem zi_226_20 : zraw 226 20 = some (.iload_n 1, 1) ∧ 20 + 1 = 21 := by decide +kernel
theorem zi_226_21 : zraw 226 21 = some (.iload_n 2, 1) ∧ 21 + 1 = 22 := by decide +kernel
theorem zi_226_22 : zraw 226 22 = some (.iastore, 1) ∧ 22 + 1 = 23 := by decide +kernel
theorem zi_226_23 : zraw 226 23 = some (.aload_n 0, 1) ∧ 23 + 1 = 24 := by decide +kernel
theorem zi_226_24 : zraw 226 24 = some (.getfield 190, 3) ∧ zft (zinf 226).1 190 = some (10, 80, 3, true) ∧ 24 + 3 = 27 := by decide +kernel
theorem zi_226_27 : zraw 226 27 = some (.iload_n 1, 1) ∧ 27 + 1 = 28 := by decide +kernel
theorem zi_226_28 : zraw 226 28 = some (.lload_n 3, 1) ∧ 28 + 1 = 29 := by decide +kernel
theorem zi_226_29 : zraw 226 29 = some (.lastore, 1) ∧ 29 + 1 = 30 := by decide +kernel
theorem zi_226_30 : zraw 226 30 = some (.aload_n 0, 1) ∧ 30 + 1 = 31 := by decide +kernel
theorem zi_226_31 : zraw 226 31 = some (.dup, 1) ∧ 31 + 1 = 32 := by decide +kernel
theorem zi_226_32 : zraw 226 32 = some (.getfield 508, 3) ∧ zft (zinf 226).1 508 = some (10, 85, 0, false) ∧ 32 + 3 = 35 := by decide +kernel
theorem zi_226_35 : zraw 226 35 = some (.iconst 1, 1) ∧ zin 128 1 = true ∧ 35 + 1 = 36 := by decide +kernel
theorem zi_226_36 : zraw 226 36 = some (.iadd, 1) ∧ 36 + 1 = 37 := by decide +kernel
theorem zi_226_37 : zraw 226 37 = some (.putfield 508, 3) ∧ zft (zinf 226).1 508 = some (10, 85, 0, false) ∧ 37 + 3 = 40 := by decide +kernel
theorem zi_226_40 : zraw 226 40 = some (.return_, 1) ∧ (zinf 226).2.2.2.1 = 0 := by decide +kernel
theorem ze_226 {K : List zF} {σ : zW} {x1 : Int} {x2 : Int} {x3 : Int64} (hK : K.length < 60) : zEv true (zent 226 [.inr (.inr 122), .inl x1, .inl x2, .inr (.inl x3)] :: K) σ = (zEv true (zent 225 [.inr (.inr 122), .inl x1, .inl 1] :: (226, 6, [some (.inr (.inr 122)), some (.inl x1), some (.inl x2), some (.inr (.inl x3)), none], []) :: K) σ) :=
  yT_en (f := (226, 0, [some (.inr (.inr 122)), some (.inl x1), some (.inl x2), some (.inr (.inl x3)), none], [])) rfl (yI_aload_n zi_226_0 rfl <| yI_iload_n zi_226_1 rfl <| yI_iconst zi_226_2 <| yI_cv zi_226_3 rfl rfl zk_122 hK)
theorem zr_226_6 {K : List zF} {σ : zW} {x1 : Int} {x2 : Int} {x3 : Int64} : zRet true ((226, 6, [some (.inr (.inr 122)), some (.inl x1), some (.inl x2), some (.inr (.inl x3)), none], []) :: K) none σ = ((0 ≤ x1 ∧ x1 < 24) ∧ ((0 ≤ x1 ∧ x1 < 24) ∧ ((0 ≤ x1 ∧ x1 < 24) ∧ zRet true K none (sI (sL (sI (sI σ 179 x1.toNat (gI σ 122 85)) 180 x1.toNat x2) 181 x1.toNat x3) 122 85 (w32 ((gI σ 122 85) + 1)))))) :=
  yT_rv (yI_aload_n zi_226_6 rfl <| yI_gf_f (v := 179) zi_226_7 zk_122 rfl <| yI_iload_n zi_226_10 rfl <| yI_aload_n zi_226_11 rfl <| yI_gf_i (v := gI σ 122 85) zi_226_12 zk_122 rfl <| yI_iastorec zi_226_15 za_179 <| yI_aload_n zi_226_16 rfl <| yI_gf_f (v := 180) zi_226_17 zk_122 rfl <| yI_iload_n zi_226_20 rfl <| yI_iload_n zi_226_21 rfl <| yI_iastorec zi_226_22 za_180 <| yI_aload_n zi_226_23 rfl <| yI_gf_f (v := 181) zi_226_24 zk_122 rfl <| yI_iload_n zi_226_27 rfl <| yI_lload_n zi_226_28 rfl <| yI_lastorec zi_226_29 za_181 <| yI_aload_n zi_226_30 rfl <| yI_dup_r zi_226_31 <| yI_gf_i (v := gI σ 122 85) zi_226_32 zk_122 ((gI_sL _ _ _ _ _ _).trans ((yGI_nk (by decide)).trans (yGI_nk (by decide)))) <| yI_iconst zi_226_35 <| yI_iadd zi_226_36 <| yI_pf_i zi_226_37 zk_122 <| yI_ret zi_226_40)
/-- 227 TreegrabModel.tidies(I)Z -/
theorem zi_227_0 : zraw 227 0 = some (.iload_n 1, 1) ∧ 0 + 1 = 1 := by decide +kernel
theorem zi_227_1 : zraw 227 1 = some (.istore_n 2, 1) ∧ 1 + 1 = 2 := by decide +kernel
theorem zi_227_2 : zraw 227 2 = some (.iload_n 2, 1) ∧ 2 + 1 = 3 := by decide +kernel
theorem zi_227_3 : zraw 227 3 = some (.ifCond .le 28, 3) ∧ ((3 : Nat) : Int) + 28 = Int.ofNat 31 ∧ 3 + 3 = 6 := by decide +kernel
theorem zi_227_6 : zraw 227 6 = some (.aload_n 0, 1) ∧ 6 + 1 = 7 := by decide +kernel
theorem zi_227_7 : zraw 227 7 = some (.iload_n 2, 1) ∧ 7 + 1 = 8 := by decide +kernel
theorem zi_227_8 : zraw 227 8 = some (.invokevirtual 511, 3) ∧ zmt (zinf 227).1 511 = some 224 ∧ Nat.ble 9000 224 = false ∧ zinf 224 = (10, 2, 2, 2, 0) ∧ 8 + 3 = 11 := by decide +kernel
theorem zi_227_11 : zraw 227 11 = some (.ifCond .eq 20, 3) ∧ ((11 : Nat) : Int) + 20 = Int.ofNat 31 ∧ 11 + 3 = 14 := by decide +kernel
theorem zi_227_14 : zraw 227 14 = some (.aload_n 0, 1) ∧ 14 + 1 = 15 := by decide +kernel
theorem zi_227_15 : zraw 227 15 = some (.iload_n 2, 1) ∧ 15 + 1 = 16 := by decide +kernel
theorem zi_227_16 : zraw 227 16 = some (.invokevirtual 514, 3) ∧ zmt (zinf 227).1 514 = some 223 ∧ Nat.ble 9000 223 = false ∧ zinf 223 = (10, 2, 3, 1, 0) ∧ 16 + 3 = 19 := by decide +kernel
theorem zi_227_19 : zraw 227 19 = some (.istore_n 3, 1) ∧ 19 + 1 = 20 := by decide +kernel
theorem zi_227_20 : zraw 227 20 = some (.aload_n 0, 1) ∧ 20 + 1 = 21 := by decide +kernel
theorem zi_227_21 : zraw 227 21 = some (.iload_n 2, 1) ∧ 21 + 1 = 22 := by decide +kernel
theorem zi_227_22 : zraw 227 22 = some (.iconst (-1), 1) ∧ zin 128 (-1) = true ∧ 22 + 1 = 23 := by decide +kernel
theorem zi_227_23 : zraw 227 23 = some (.invokevirtual 504, 3) ∧ zmt (zinf 227).1 504 = some 225 ∧ Nat.ble 9000 225 = false ∧ zinf 225 = (10, 3, 4, 0, 0) ∧ 23 + 3 = 26 := by decide +kernel
theorem zi_227_26 : zraw 227 26 = some (.iload_n 3, 1) ∧ 26 + 1 = 27 := by decide +kernel
theorem zi_227_27 : zraw 227 27 = some (.istore_n 2, 1) ∧ 27 + 1 = 28 := by decide +kernel
theorem zi_227_28 : zraw 227 28 = some (.goto (-26), 3) ∧ ((28 : Nat) : Int) + (-26) = Int.ofNat 2 := by decide +kernel
theorem zi_227_31 : zraw 227 31 = some (.iload_n 2, 1) ∧ 31 + 1 = 32 := by decide +kernel
theorem zi_227_32 : zraw 227 32 = some (.ifCond .gt 11, 3) ∧ ((32 : Nat) : Int) + 11 = Int.ofNat 43 ∧ 32 + 3 = 35 := by decide +kernel
theorem zi_227_35 : zraw 227 35 = some (.aload_n 0, 1) ∧ 35 + 1 = 36 := by decide +kernel
theorem zi_227_36 : zraw 227 36 = some (.iconst 0, 1) ∧ zin 128 0 = true ∧ 36 + 1 = 37 := by decide +kernel
theorem zi_227_37 : zraw 227 37 = some (.invokevirtual 511, 3) ∧ zmt (zinf 227).1 511 = some 224 ∧ Nat.ble 9000 224 = false ∧ zinf 224 = (10, 2, 2, 2, 0) ∧ 37 + 3 = 40 := by decide +kernel
theorem zi_227_40 : zraw 227 40 = some (.ifCond .ne 7, 3) ∧ ((40 : Nat) : Int) + 7 = Int.ofNat 47 ∧ 40 + 3 = 43 := by decide +kernel
theorem zi_227_43 : zraw 227 43 = some (.iconst 1, 1) ∧ zin 128 1 = true ∧ 43 + 1 = 44 := by decide +kernel
theorem zi_227_44 : zraw 227 44 = some (.goto 4, 3) ∧ ((44 : Nat) : Int) + 4 = Int.ofNat 48 := by decide +kernel
theorem zi_227_47 : zraw 227 47 = some (.iconst 0, 1) ∧ zin 128 0 = true ∧ 47 + 1 = 48 := by decide +kernel
theorem zi_227_48 : zraw 227 48 = some (.ireturn, 1) ∧ (zinf 227).2.2.2.1 = 2 := by decide +kernel
theorem ze_227 {K : List zF} {σ : zW} {x1 : Int} : zEv true (zent 227 [.inr (.inr 122), .inl x1] :: K) σ = (zEv true ((227, 2, [some (.inr (.inr 122)), some (.inl x1), some (.inl x1), none], []) :: K) σ) :=
  yT_en (f := (227, 0, [some (.inr (.inr 122)), some (.inl x1), none, none], [])) rfl (yI_iload_n zi_227_0 rfl <| yI_istore_n (l := [some (.inr (.inr 122)), some (.inl x1), some (.inl x1), none]) zi_227_1 rfl rfl <| rfl)
theorem zj_227_2 {K : List zF} {σ : zW} {o1 : Option zV} {x2 : Int} {o3 : Option zV} (hK : K.length < 60) : zEv true ((227, 2, [some (.inr (.inr 122)), o1, some (.inl x2), o3], []) :: K) σ = (if x2 ≤ 0 then zEv true ((227, 31, [some (.inr (.inr 122)), o1, some (.inl x2), o3], []) :: K) σ else zEv true (zent 224 [.inr (.inr 122), .inl x2] :: (227, 11, [some (.inr (.inr 122)), o1, some (.inl x2), o3], []) :: K) σ) :=
  yI_iload_n zi_227_2 rfl <| yI_if_le zi_227_3 <| yBr (rfl) (yI_aload_n zi_227_6 rfl <| yI_iload_n zi_227_7 rfl <| yI_cv zi_227_8 rfl rfl zk_122 hK)
theorem zj_227_31 {K : List zF} {σ : zW} {o1 : Option zV} {x2 : Int} {o3 : Option zV} (hK : K.length < 60) : zEv true ((227, 31, [some (.inr (.inr 122)), o1, some (.inl x2), o3], []) :: K) σ = (if 0 < x2 then zRet true K (some (.inl 1)) σ else zEv true (zent 224 [.inr (.inr 122), .inl 0] :: (227, 40, [some (.inr (.inr 122)), o1, some (.inl x2), o3], []) :: K) σ) :=
  yI_iload_n zi_227_31 rfl <| yI_if_gt zi_227_32 <| yBr (yI_iconst zi_227_43 <| yI_goto zi_227_44 <| yI_zreturn zi_227_48 (by decide)) (yI_aload_n zi_227_35 rfl <| yI_iconst zi_227_36 <| yI_cv zi_227_37 rfl rfl zk_122 hK)
theorem zr_227_11 {K : List zF} {σ : zW} {o1 : Option zV} {x2 : Int} {o3 : Option zV} {v : Int} (hK : K.length < 60) : zRet true ((227, 11, [some (.inr (.inr 122)), o1, some (.inl x2), o3], []) :: K) (some (.inl v)) σ = (if v = 0 then zEv true ((227, 31, [some (.inr (.inr 122)), o1, some (.inl x2), o3], []) :: K) σ else zEv true (zent 223 [.inr (.inr 122), .inl x2] :: (227, 19, [some (.inr (.inr 122)), o1, some (.inl x2), o3], []) :: K) σ) :=
  yT_rt (yI_if_eq zi_227_11 <| yBr (rfl) (yI_aload_n zi_227_14 rfl <| yI_iload_n zi_227_15 rfl <| yI_cv zi_227_16 rfl rfl zk_122 hK))
theorem zr_227_40 {K : List zF} {σ : zW} {o0 : Option zV} {o1 : Option zV} {o2 : Option zV} {o3 : Option zV} {v : Int} : zRet true ((227, 40, [o0, o1, o2, o3], []) :: K) (some (.inl v)) σ = (if ¬ v = 0 then zRet true K (some (.inl 0)) σ else zRet true K (some (.inl 1)) σ) :=
  yT_rt (yI_if_ne zi_227_40 <| yBr (yI_iconst zi_227_47 <| yI_zreturn zi_227_48 (by decide)) (yI_iconst zi_227_43 <| yI_goto zi_227_44 <| yI_zreturn zi_227_48 (by decide)))
theorem zr_227_19 {K : List zF} {σ : zW} {o1 : Option zV} {x2 : Int} {o3 : Option zV} {v : Int} (hK : K.length < 60) : zRet true ((227, 19, [some (.inr (.inr 122)), o1, some (.inl x2), o3], []) :: K) (some (.inl v)) σ = (zEv true (zent 225 [.inr (.inr 122), .inl x2, .inl (-1)] :: (227, 26, [some (.inr (.inr 122)), o1, some (.inl x2), some (.inl v)], []) :: K) σ) :=
  yT_rt (yI_istore_n (l := [some (.inr (.inr 122)), o1, some (.inl x2), some (.inl v)]) zi_227_19 rfl rfl <| yI_aload_n zi_227_20 rfl <| yI_iload_n zi_227_21 rfl <| yI_iconst zi_227_22 <| yI_cv zi_227_23 rfl rfl zk_122 hK)
theorem zr_227_26 {K : List zF} {σ : zW} {o1 : Option zV} {o2 : Option zV} {x3 : Int} : zRet true ((227, 26, [some (.inr (.inr 122)), o1, o2, some (.inl x3)], []) :: K) none σ = (zEv true ((227, 2, [some (.inr (.inr 122)), (zcut 0 o1), some (.inl x3), some (.inl x3)], []) :: K) σ) :=
  yT_rv (yI_iload_n zi_227_26 rfl <| yI_istore_n (l := [some (.inr (.inr 122)), (zcut 0 o1), some (.inl x3), some (.inl x3)]) zi_227_27 rfl rfl <| yI_goto zi_227_28 <| rfl)
/-- 228 TreegrabModel.deletes(I)Z -/
theorem zi_228_0 : zraw 228 0 = some (.iload_n 1, 1) ∧ 0 + 1 = 1 := by decide +kernel
theorem zi_228_1 : zraw 228 1 = some (.ifCond .ne 5, 3) ∧ ((1 : Nat) : Int) + 5 = Int.ofNat 6 ∧ 1 + 3 = 4 := by decide +kernel
theorem zi_228_4 : zraw 228 4 = some (.iconst 0, 1) ∧ zin 128 0 = true ∧ 4 + 1 = 5 := by decide +kernel
theorem zi_228_5 : zraw 228 5 = some (.ireturn, 1) ∧ (zinf 228).2.2.2.1 = 2 := by decide +kernel
theorem zi_228_6 : zraw 228 6 = some (.aload_n 0, 1) ∧ 6 + 1 = 7 := by decide +kernel
theorem zi_228_7 : zraw 228 7 = some (.iload_n 1, 1) ∧ 7 + 1 = 8 := by decide +kernel
theorem zi_228_8 : zraw 228 8 = some (.invokevirtual 514, 3) ∧ zmt (zinf 228).1 514 = some 223 ∧ Nat.ble 9000 223 = false ∧ zinf 223 = (10, 2, 3, 1, 0) ∧ 8 + 3 = 11 := by decide +kernel
theorem zi_228_11 : zraw 228 11 = some (.istore_n 2, 1) ∧ 11 + 1 = 12 := by decide +kernel
theorem zi_228_12 : zraw 228 12 = some (.aload_n 0, 1) ∧ 12 + 1 = 13 := by decide +kernel
theorem zi_228_13 : zraw 228 13 = some (.iload_n 1, 1) ∧ 13 + 1 = 14 := by decide +kernel
theorem zi_228_14 : zraw 228 14 = some (.iload_n 1, 1) ∧ 14 + 1 = 15 := by decide +kernel
theorem zi_228_15 : zraw 228 15 = some (.aload_n 0, 1) ∧ 15 + 1 = 16 := by decide +kernel
theorem zi_228_16 : zraw 228 16 = some (.iload_n 1, 1) ∧ 16 + 1 = 17 := by decide +kernel
theorem zi_228_17 : zraw 228 17 = some (.invokevirtual 501, 3) ∧ zmt (zinf 228).1 501 = some 222 ∧ Nat.ble 9000 222 = false ∧ zinf 222 = (10, 2, 3, 1, 0) ∧ 17 + 3 = 20 := by decide +kernel
theorem zi_228_20 : zraw 228 20 = some (.isub, 1) ∧ 20 + 1 = 21 := by decide +kernel
theorem zi_228_21 : zraw 228 21 = some (.invokevirtual 504, 3) ∧ zmt (zinf 228).1 504 = some 225 ∧ Nat.ble 9000 225 = false ∧ zinf 225 = (10, 3, 4, 0, 0) ∧ 21 + 3 = 24 := by decide +kernel
theorem zi_228_24 : zraw 228 24 = some (.aload_n 0, 1) ∧ 24 + 1 = 25 := by decide +kernel
theorem zi_228_25 : zraw 228 25 = some (.iload_n 2, 1) ∧ 25 + 1 = 26 := by decide +kernel
theorem zi_228_26 : zraw 228 26 = some (.invokevirtual 517, 3) ∧ zmt (zinf 228).1 517 = some 227 ∧ Nat.ble 9000 227 = false ∧ zinf 227 = (10, 2, 4, 2, 0) ∧ 26 + 3 = 29 := by decide +kernel
theorem zi_228_29 : zraw 228 29 = some (.ireturn, 1) ∧ (zinf 228).2.2.2.1 = 2 := by decide +kernel
theorem ze_228 {K : List zF} {σ : zW} {x1 : Int} (hK : K.length < 60) : zEv true (zent 228 [.inr (.inr 122), .inl x1] :: K) σ = (if ¬ x1 = 0 then zEv true (zent 223 [.inr (.inr 122), .inl x1] :: (228, 11, [some (.inr (.inr 122)), some (.inl x1), none], []) :: K) σ else zRet true K (some (.inl 0)) σ) :=
  yT_en (f := (228, 0, [some (.inr (.inr 122)), some (.inl x1), none], [])) rfl (yI_iload_n zi_228_0 rfl <| yI_if_ne zi_228_1 <| yBr (yI_aload_n zi_228_6 rfl <| yI_iload_n zi_228_7 rfl <| yI_cv zi_228_8 rfl rfl zk_122 hK) (yI_iconst zi_228_4 <| yI_zreturn zi_228_5 (by decide)))
theorem zr_228_11 {K : List zF} {σ : zW} {x1 : Int} {o2 : Option zV} {v : Int} (hK : K.length < 60) : zRet true ((228, 11, [some (.inr (.inr 122)), some (.inl x1), o2], []) :: K) (some (.inl v)) σ = (zEv true (zent 222 [.inr (.inr 122), .inl x1] :: (228, 20, [some (.inr (.inr 122)), some (.inl x1), some (.inl v)], [.inl x1, .inl x1, .inr (.inr 122)]) :: K) σ) :=
  yT_rt (yI_istore_n (l := [some (.inr (.inr 122)), some (.inl x1), some (.inl v)]) zi_228_11 rfl rfl <| yI_aload_n zi_228_12 rfl <| yI_iload_n zi_228_13 rfl <| yI_iload_n zi_228_14 rfl <| yI_aload_n zi_228_15 rfl <| yI_iload_n zi_228_16 rfl <| yI_cv zi_228_17 rfl rfl zk_122 hK)
theorem zr_228_20 {K : List zF} {σ : zW} {o1 : Option zV} {x2 : Int} {s0 : Int} {s1 : Int} {v : Int} (hK : K.length < 60) : zRet true ((228, 20, [some (.inr (.inr 122)), o1, some (.inl x2)], [.inl s0, .inl s1, .inr (.inr 122)]) :: K) (some (.inl v)) σ = (zEv true (zent 225 [.inr (.inr 122), .inl s1, .inl (w32 (s0 - v))] :: (228, 24, [some (.inr (.inr 122)), o1, some (.inl x2)], []) :: K) σ) :=
  yT_rt (yI_isub zi_228_20 <| yI_cv zi_228_21 rfl rfl zk_122 hK)
theorem zr_228_24 {K : List zF} {σ : zW} {o1 : Option zV} {x2 : Int} (hK : K.length < 60) : zRet true ((228, 24, [some (.inr (.inr 122)), o1, some (.inl x2)], []) :: K) none σ = (zEv true (zent 227 [.inr (.inr 122), .inl x2] :: (228, 29, [some (.inr (.inr 122)), o1, some (.inl x2)], []) :: K) σ) :=
  yT_rv (yI_aload_n zi_228_24 rfl <| yI_iload_n zi_228_25 rfl <| yI_cv zi_228_26 rfl rfl zk_122 hK)
theorem zr_228_29 {K : List zF} {σ : zW} {o0 : Option zV} {o1 : Option zV} {o2 : Option zV} {v : Int} : zRet true ((228, 29, [o0, o1, o2], []) :: K) (some (.inl v)) σ = ((v = 0 ∨ v = 1) ∧ zRet true K (some (.inl v)) σ) :=
  yT_rt (yI_zreturnc zi_228_29)
/-- 229 TreegrabModel.excises(I)Z -/
theorem zi_229_0 : zraw 229 0 = some (.iconst 0, 1) ∧ zin 128 0 = true ∧ 0 + 1 = 1 := by decide +kernel
theorem zi_229_1 : zraw 229 1 = some (.istore_n 2, 1) ∧ 1 + 1 = 2 := by decide +kernel
theorem zi_229_2 : zraw 229 2 = some (.iload_n 1, 1) ∧ 2 + 1 = 3 := by decide +kernel
theorem zi_229_3 : zraw 229 3 = some (.iconst 1, 1) ∧ zin 128 1 = true ∧ 3 + 1 = 4 := by decide +kernel
theorem zi_229_4 : zraw 229 4 = some (.iadd, 1) ∧ 4 + 1 = 5 := by decide +kernel
theorem zi_229_5 : zraw 229 5 = some (.istore_n 3, 1) ∧ 5 + 1 = 6 := by decide +kernel
theorem zi_229_6 : zraw 229 6 = some (.iload_n 3, 1) ∧ 6 + 1 = 7 := by decide +kernel
theorem zi_229_7 : zraw 229 7 = some (.aload_n 0, 1) ∧ 7 + 1 = 8 := by decide +kernel
theorem zi_229_8 : zraw 229 8 = some (.iload_n 1, 1) ∧ 8 + 1 = 9 := by decide +kernel
theorem zi_229_9 : zraw 229 9 = some (.invokevirtual 501, 3) ∧ zmt (zinf 229).1 501 = some 222 ∧ Nat.ble 9000 222 = false ∧ zinf 222 = (10, 2, 3, 1, 0) ∧ 9 + 3 = 12 := by decide +kernel
theorem zi_229_12 : zraw 229 12 = some (.if_icmp .ge 34, 3) ∧ ((12 : Nat) : Int) + 34 = Int.ofNat 46 ∧ 12 + 3 = 15 := by decide +kernel
theorem zi_229_15 : zraw 229 15 = some (.iload_n 2, 1) ∧ 15 + 1 = 16 := by decide +kernel
theorem zi_229_16 : zraw 229 16 = some (.aload_n 0, 1) ∧ 16 + 1 = 17 := by decide +kernel
theorem zi_229_17 : zraw 229 17 = some (.getfield 187, 3) ∧ zft (zinf 229).1 187 = some (10, 79, 3, true) ∧ 17 + 3 = 20 := by decide +kernel
theorem zi_229_20 : zraw 229 20 = some (.iload_n 3, 1) ∧ 20 + 1 = 21 := by decide +kernel
theorem zi_229_21 : zraw 229 21 = some (.iaload, 1) ∧ 21 + 1 = 22 := by decide +kernel
theorem zi_229_22 : zraw 229 22 = some (.aload_n 0, 1) ∧ 22 + 1 = 23 := by decide +kernel
theorem zi_229_23 : zraw 229 23 = some (.getfield 187, 3) ∧ zft (zinf 229).1 187 = some (10, 79, 3, true) ∧ 23 + 3 = 26 := by decide +kernel
theorem zi_229_26 : zraw 229 26 = some (.iload_n 1, 1) ∧ 26 + 1 = 27 := by decide +kernel
theorem zi_229_27 : zraw 229 27 = some (.iaload, 1) ∧ 27 + 1 = 28 := by decide +kernel
theorem zi_229_28 : zraw 229 28 = some (.iconst 1, 1) ∧ zin 128 1 = true ∧ 28 + 1 = 29 := by decide +kernel
theorem zi_229_29 : zraw 229 29 = some (.iadd, 1) ∧ 29 + 1 = 30 := by decide +kernel
theorem zi_229_30 : zraw 229 30 = some (.if_icmp .ne 7, 3) ∧ ((30 : Nat) : Int) + 7 = Int.ofNat 37 ∧ 30 + 3 = 33 := by decide +kernel
theorem zi_229_33 : zraw 229 33 = some (.iconst 1, 1) ∧ zin 128 1 = true ∧ 33 + 1 = 34 := by decide +kernel
theorem zi_229_34 : zraw 229 34 = some (.goto 4, 3) ∧ ((34 : Nat) : Int) + 4 = Int.ofNat 38 := by decide +kernel
theorem zi_229_37 : zraw 229 37 = some (.iconst 0, 1) ∧ zin 128 0 = true ∧ 37 + 1 = 38 := by decide +kernel
theorem zi_229_38 : zraw 229 38 = some (.iadd, 1) ∧ 38 + 1 = 39 := by decide +kernel
theorem zi_229_39 : zraw 229 39 = some (.istore_n 2, 1) ∧ 39 + 1 = 40 := by decide +kernel
theorem zi_229_40 : zraw 229 40 = some (.iinc 3 1, 3) ∧ zin 32768 1 = true ∧ 40 + 3 = 43 := by decide +kernel
theorem zi_229_43 : zraw 229 43 = some (.goto (-37), 3) ∧ ((43 : Nat) : Int) + (-37) = Int.ofNat 6 := by decide +kernel
theorem zi_229_46 : zraw 229 46 = some (.iload_n 2, 1) ∧ 46 + 1 = 47 := by decide +kernel
theorem zi_229_47 : zraw 229 47 = some (.ifCond .eq 12, 3) ∧ ((47 : Nat) : Int) + 12 = Int.ofNat 59 ∧ 47 + 3 = 50 := by decide +kernel
theorem zi_229_50 : zraw 229 50 = some (.iload_n 1, 1) ∧ 50 + 1 = 51 := by decide +kernel
theorem zi_229_51 : zraw 229 51 = some (.ifCond .ne 10, 3) ∧ ((51 : Nat) : Int) + 10 = Int.ofNat 61 ∧ 51 + 3 = 54 := by decide +kernel
theorem zi_229_54 : zraw 229 54 = some (.iload_n 2, 1) ∧ 54 + 1 = 55 := by decide +kernel
theorem zi_229_55 : zraw 229 55 = some (.iconst 1, 1) ∧ zin 128 1 = true ∧ 55 + 1 = 56 := by decide +kernel
theorem zi_229_56 : zraw 229 56 = some (.if_icmp .le 5, 3) ∧ ((56 : Nat) : Int) + 5 = Int.ofNat 61 ∧ 56 + 3 = 59 := by decide +kernel
theorem zi_229_59 : zraw 229 59 = some (.iconst 0, 1) ∧ zin 128 0 = true ∧ 59 + 1 = 60 := by decide +kernel
theorem zi_229_60 : zraw 229 60 = some (.ireturn, 1) ∧ (zinf 229).2.2.2.1 = 2 := by decide +kernel
theorem zi_229_61 : zraw 229 61 = some (.aload_n 0, 1) ∧ 61 + 1 = 62 := by decide +kernel
theorem zi_229_62 : zraw 229 62 = some (.iload_n 1, 1) ∧ 62 + 1 = 63 := by decide +kernel
theorem zi_229_63 : zraw 229 63 = some (.invokevirtual 501, 3) ∧ zmt (zinf 229).1 501 = some 222 ∧ Nat.ble 9000 222 = false ∧ zinf 222 = (10, 2, 3, 1, 0) ∧ 63 + 3 = 66 := by decide +kernel
theorem zi_229_66 : zraw 229 66 = some (.istore_n 3, 1) ∧ 66 + 1 = 67 := by decide +kernel
theorem zi_229_67 : zraw 229 67 = some (.iload_n 1, 1) ∧ 67 + 1 = 68 := by decide +kernel
theorem zi_229_68 : zraw 229 68 = some (.iconst 1, 1) ∧ zin 128 1 = true ∧ 68 + 1 = 69 := by decide +kernel
theorem zi_229_69 : zraw 229 69 = some (.iadd, 1) ∧ 69 + 1 = 70 := by decide +kernel
theorem zi_229_70 : zraw 229 70 = some (.istore 4, 2) ∧ 70 + 2 = 72 := by decide +kernel
theorem zi_229_72 : zraw 229 72 = some (.iload 4, 2) ∧ 72 + 2 = 74 := by decide +kernel
theorem zi_229_74 : zraw 229 74 = some (.iload_n 3, 1) ∧ 74 + 1 = 75 := by decide +kernel
theorem zi_229_75 : zraw 229 75 = some (.if_icmp .ge 20, 3) ∧ ((75 : Nat) : Int) + 20 = Int.ofNat 95 ∧ 75 + 3 = 78 := by decide +kernel
theorem zi_229_78 : zraw 229 78 = some (.aload_n 0, 1) ∧ 78 + 1 = 79 := by decide +kernel
theorem zi_229_79 : zraw 229 79 = some (.getfield 187, 3) ∧ zft (zinf 229).1 187 = some (10, 79, 3, true) ∧ 79 + 3 = 82 := by decide +kernel
theorem zi_229_82 : zraw 229 82 = some (.iload 4, 2) ∧ 82 + 2 = 84 := by decide +kernel
theorem zi_229_84 : zraw 229 84 = some (.dup2, 1) ∧ 84 + 1 = 85 := by decide +kernel
theorem zi_229_85 : zraw 229 85 = some (.iaload, 1) ∧ 85 + 1 = 86 := by decide +kernel
theorem zi_229_86 : zraw 229 86 = some (.iconst 1, 1) ∧ zin 128 1 = true ∧ 86 + 1 = 87 := by decide +kernel
theorem zi_229_87 : zraw 229 87 = some (.isub, 1) ∧ 87 + 1 = 88 := by decide +kernel
theorem zi_229_88 : zraw 229 88 = some (.iastore, 1) ∧ 88 + 1 = 89 := by decide +kernel
theorem zi_229_89 : zraw 229 89 = some (.iinc 4 1, 3) ∧ zin 32768 1 = true ∧ 89 + 3 = 92 := by decide +kernel
theorem zi_229_92 : zraw 229 92 = some (.goto (-20), 3) ∧ ((92 : Nat) : Int) + (-20) = Int.ofNat 72 := by decide +kernel
theorem zi_229_95 : zraw 229 95 = some (.aload_n 0, 1) ∧ 95 + 1 = 96 := by decide +kernel
theorem zi_229_96 : zraw 229 96 = some (.iload_n 1, 1) ∧ 96 + 1 = 97 := by decide +kernel
theorem zi_229_97 : zraw 229 97 = some (.iconst (-1), 1) ∧ zin 128 (-1) = true ∧ 97 + 1 = 98 := by decide +kernel
theorem zi_229_98 : zraw 229 98 = some (.invokevirtual 504, 3) ∧ zmt (zinf 229).1 504 = some 225 ∧ Nat.ble 9000 225 = false ∧ zinf 225 = (10, 3, 4, 0, 0) ∧ 98 + 3 = 101 := by decide +kernel
theorem zi_229_101 : zraw 229 101 = some (.iconst 1, 1) ∧ zin 128 1 = true ∧ 101 + 1 = 102 := by decide +kernel
theorem zi_229_102 : zraw 229 102 = some (.ireturn, 1) ∧ (zinf 229).2.2.2.1 = 2 := by decide +kernel
theorem ze_229 {K : List zF} {σ : zW} {x1 : Int} : zEv true (zent 229 [.inr (.inr 122), .inl x1] :: K) σ = (zEv true ((229, 6, [some (.inr (.inr 122)), some (.inl x1), some (.inl 0), some (.inl (w32 (x1 + 1))), none], []) :: K) σ) :=
  yT_en (f := (229, 0, [some (.inr (.inr 122)), some (.inl x1), none, none, none], [])) rfl (yI_iconst zi_229_0 <| yI_istore_n (l := [some (.inr (.inr 122)), some (.inl x1), some (.inl 0), none, none]) zi_229_1 rfl rfl <| yI_iload_n zi_229_2 rfl <| yI_iconst zi_229_3 <| yI_iadd zi_229_4 <| yI_istore_n (l := [some (.inr (.inr 122)), some (.inl x1), some (.inl 0), some (.inl (w32 (x1 + 1))), none]) zi_229_5 rfl rfl <| rfl)
theorem zj_229_6 {K : List zF} {σ : zW} {x1 : Int} {x2 : Int} {x3 : Int} {o4 : Option zV} (hK : K.length < 60) : zEv true ((229, 6, [some (.inr (.inr 122)), some (.inl x1), some (.inl x2), some (.inl x3), o4], []) :: K) σ = (zEv true (zent 222 [.inr (.inr 122), .inl x1] :: (229, 12, [some (.inr (.inr 122)), some (.inl x1), some (.inl x2), some (.inl x3), o4], [.inl x3]) :: K) σ) :=
  yI_iload_n zi_229_6 rfl <| yI_aload_n zi_229_7 rfl <| yI_iload_n zi_229_8 rfl <| yI_cv zi_229_9 rfl rfl zk_122 hK
theorem zr_229_12 {K : List zF} {σ : zW} {x1 : Int} {x2 : Int} {x3 : Int} {o4 : Option zV} {s0 : Int} {v : Int} : zRet true ((229, 12, [some (.inr (.inr 122)), some (.inl x1), some (.inl x2), some (.inl x3), o4], [.inl s0]) :: K) (some (.inl v)) σ = (if v ≤ s0 then if x2 = 0 then zRet true K (some (.inl 0)) σ else if ¬ x1 = 0 then zEv true ((229, 61, [some (.inr (.inr 122)), some (.inl x1), some (.inl x2), some (.inl x3), o4], []) :: K) σ else if x2 ≤ 1 then zEv true ((229, 61, [some (.inr (.inr 122)), some (.inl x1), some (.inl x2), some (.inl x3), o4], []) :: K) σ else zRet true K (some (.inl 0)) σ else (0 ≤ x3 ∧ x3 < 24) ∧ ((0 ≤ x1 ∧ x1 < 24) ∧ zEv true ((229, 6, [some (.inr (.inr 122)), some (.inl x1), some (.inl (w32 (x2 + (if ¬ (gI σ 180 x3.toNat) = (w32 ((gI σ 180 x1.toNat) + 1)) then 0 else 1 : Int)))), some (.inl (w32 (x3 + 1))), o4], []) :: K) σ)) :=
  yT_rt (yI_ic_ge zi_229_12 <| yBr (yI_iload_n zi_229_46 rfl <| yI_if_eq zi_229_47 <| yBr (yI_iconst zi_229_59 <| yI_zreturn zi_229_60 (by decide)) (yI_iload_n zi_229_50 rfl <| yI_if_ne zi_229_51 <| yBr (rfl) (yI_iload_n zi_229_54 rfl <| yI_iconst zi_229_55 <| yI_ic_le zi_229_56 <| yBr (rfl) (yI_iconst zi_229_59 <| yI_zreturn zi_229_60 (by decide))))) (yI_iload_n zi_229_15 rfl <| yI_aload_n zi_229_16 rfl <| yI_gf_f (v := 180) zi_229_17 zk_122 rfl <| yI_iload_n zi_229_20 rfl <| yI_ialoadc (v := gI σ 180 x3.toNat) zi_229_21 za_180 rfl <| yI_aload_n zi_229_22 rfl <| yI_gf_f (v := 180) zi_229_23 zk_122 rfl <| yI_iload_n zi_229_26 rfl <| yI_ialoadc (v := gI σ 180 x1.toNat) zi_229_27 za_180 rfl <| yI_iconst zi_229_28 <| yI_iadd zi_229_29 <| yI_ic_ne zi_229_30 <| yMi0 (j := 38) (ls2 := [some (.inr (.inr 122)), some (.inl x1), some (.inl x2), some (.inl x3), o4]) (st2 := [.inl x2]) (x := 0) (y := 1) (σ2 := σ) (yI_iconst zi_229_37 <| rfl) (yI_iconst zi_229_33 <| yI_goto zi_229_34 <| rfl) <| yI_iadd zi_229_38 <| yI_istore_n (l := [some (.inr (.inr 122)), some (.inl x1), some (.inl (w32 (x2 + (if ¬ (gI σ 180 x3.toNat) = (w32 ((gI σ 180 x1.toNat) + 1)) then 0 else 1 : Int)))), some (.inl x3), o4]) zi_229_39 rfl rfl <| yI_iinc (l := [some (.inr (.inr 122)), some (.inl x1), some (.inl (w32 (x2 + (if ¬ (gI σ 180 x3.toNat) = (w32 ((gI σ 180 x1.toNat) + 1)) then 0 else 1 : Int)))), some (.inl (w32 (x3 + 1))), o4]) zi_229_40 rfl rfl rfl <| yI_goto zi_229_43 <| rfl))
theorem zj_229_61 {K : List zF} {σ : zW} {x1 : Int} {o2 : Option zV} {o3 : Option zV} {o4 : Option zV} (hK : K.length < 60) : zEv true ((229, 61, [some (.inr (.inr 122)), some (.inl x1), o2, o3, o4], []) :: K) σ = (zEv true (zent 222 [.inr (.inr 122), .inl x1] :: (229, 66, [some (.inr (.inr 122)), some (.inl x1), o2, o3, o4], []) :: K) σ) :=
  yI_aload_n zi_229_61 rfl <| yI_iload_n zi_229_62 rfl <| yI_cv zi_229_63 rfl rfl zk_122 hK
theorem zr_229_66 {K : List zF} {σ : zW} {x1 : Int} {o2 : Option zV} {o3 : Option zV} {o4 : Option zV} {v : Int} : zRet true ((229, 66, [some (.inr (.inr 122)), some (.inl x1), o2, o3, o4], []) :: K) (some (.inl v)) σ = (zEv true ((229, 72, [some (.inr (.inr 122)), some (.inl x1), (zcut 0 o2), some (.inl v), some (.inl (w32 (x1 + 1)))], []) :: K) σ) :=
  yT_rt (yI_istore_n (l := [some (.inr (.inr 122)), some (.inl x1), (zcut 0 o2), some (.inl v), o4]) zi_229_66 rfl rfl <| yI_iload_n zi_229_67 rfl <| yI_iconst zi_229_68 <| yI_iadd zi_229_69 <| yI_istore (l := [some (.inr (.inr 122)), some (.inl x1), (zcut 0 o2), some (.inl v), some (.inl (w32 (x1 + 1)))]) zi_229_70 rfl rfl <| rfl)
theorem zj_229_72 {K : List zF} {σ : zW} {x1 : Int} {o2 : Option zV} {x3 : Int} {x4 : Int} (hK : K.length < 60) : zEv true ((229, 72, [some (.inr (.inr 122)), some (.inl x1), o2, some (.inl x3), some (.inl x4)], []) :: K) σ = (if x3 ≤ x4 then zEv true (zent 225 [.inr (.inr 122), .inl x1, .inl (-1)] :: (229, 101, [some (.inr (.inr 122)), some (.inl x1), o2, some (.inl x3), some (.inl x4)], []) :: K) σ else (0 ≤ x4 ∧ x4 < 24) ∧ ((0 ≤ x4 ∧ x4 < 24) ∧ zEv true ((229, 72, [some (.inr (.inr 122)), some (.inl x1), o2, some (.inl x3), some (.inl (w32 (x4 + 1)))], []) :: K) (sI σ 180 x4.toNat (w32 ((gI σ 180 x4.toNat) - 1))))) :=
  yI_iload zi_229_72 rfl <| yI_iload_n zi_229_74 rfl <| yI_ic_ge zi_229_75 <| yBr (yI_aload_n zi_229_95 rfl <| yI_iload_n zi_229_96 rfl <| yI_iconst zi_229_97 <| yI_cv zi_229_98 rfl rfl zk_122 hK) (yI_aload_n zi_229_78 rfl <| yI_gf_f (v := 180) zi_229_79 zk_122 rfl <| yI_iload zi_229_82 rfl <| yI_dup2_ir zi_229_84 <| yI_ialoadc (v := gI σ 180 x4.toNat) zi_229_85 za_180 rfl <| yI_iconst zi_229_86 <| yI_isub zi_229_87 <| yI_iastorec zi_229_88 za_180 <| yI_iinc (l := [some (.inr (.inr 122)), some (.inl x1), o2, some (.inl x3), some (.inl (w32 (x4 + 1)))]) zi_229_89 rfl rfl rfl <| yI_goto zi_229_92 <| rfl)
theorem zr_229_101 {K : List zF} {σ : zW} {o0 : Option zV} {o1 : Option zV} {o2 : Option zV} {o3 : Option zV} {o4 : Option zV} : zRet true ((229, 101, [o0, o1, o2, o3, o4], []) :: K) none σ = (zRet true K (some (.inl 1)) σ) :=
  yT_rv (yI_iconst zi_229_101 <| yI_zreturn zi_229_102 (by decide))
