/-! the trees of methods 75 to 109, written by wip/p24/gen/emit_trees.py -/
/-- 75 Treegrab$Search.optionsInPlan(II)I -/
theorem zi_75_0 : zraw 75 0 = some (.aload_n 0, 1) ∧ 0 + 1 = 1 := by decide +kernel
theorem zi_75_1 : zraw 75 1 = some (.getfield 9, 3) ∧ zft (zinf 75).1 9 = some (6, 0, 3, true) ∧ 1 + 3 = 4 := by decide +kernel
theorem zi_75_4 : zraw 75 4 = some (.aload_n 0, 1) ∧ 4 + 1 = 5 := by decide +kernel
theorem zi_75_5 : zraw 75 5 = some (.getfield 40, 3) ∧ zft (zinf 75).1 40 = some (6, 11, 3, false) ∧ 5 + 3 = 8 := by decide +kernel
theorem zi_75_8 : zraw 75 8 = some (.getfield 96, 3) ∧ zft (zinf 75).1 96 = some (4, 13, 3, true) ∧ 8 + 3 = 11 := by decide +kernel
theorem zi_75_11 : zraw 75 11 = some (.iload_n 1, 1) ∧ 11 + 1 = 12 := by decide +kernel
theorem zi_75_12 : zraw 75 12 = some (.iaload, 1) ∧ 12 + 1 = 13 := by decide +kernel
theorem zi_75_13 : zraw 75 13 = some (.iaload, 1) ∧ 13 + 1 = 14 := by decide +kernel
theorem zi_75_14 : zraw 75 14 = some (.istore_n 3, 1) ∧ 14 + 1 = 15 := by decide +kernel
theorem zi_75_15 : zraw 75 15 = some (.iconst 1, 1) ∧ zin 128 1 = true ∧ 15 + 1 = 16 := by decide +kernel
theorem zi_75_16 : zraw 75 16 = some (.istore 4, 2) ∧ 16 + 2 = 18 := by decide +kernel
theorem zi_75_18 : zraw 75 18 = some (.iload 4, 2) ∧ 18 + 2 = 20 := by decide +kernel
theorem zi_75_20 : zraw 75 20 = some (.aload_n 0, 1) ∧ 20 + 1 = 21 := by decide +kernel
theorem zi_75_21 : zraw 75 21 = some (.getfield 40, 3) ∧ zft (zinf 75).1 40 = some (6, 11, 3, false) ∧ 21 + 3 = 24 := by decide +kernel
theorem zi_75_24 : zraw 75 24 = some (.getfield 54, 3) ∧ zft (zinf 75).1 54 = some (4, 15, 0, false) ∧ 24 + 3 = 27 := by decide +kernel
theorem zi_75_27 : zraw 75 27 = some (.if_icmp .ge 123, 3) ∧ ((27 : Nat) : Int) + 123 = Int.ofNat 150 ∧ 27 + 3 = 30 := by decide +kernel
theorem zi_75_30 : zraw 75 30 = some (.aload_n 0, 1) ∧ 30 + 1 = 31 := by decide +kernel
theorem zi_75_31 : zraw 75 31 = some (.getfield 40, 3) ∧ zft (zinf 75).1 40 = some (6, 11, 3, false) ∧ 31 + 3 = 34 := by decide +kernel
theorem zi_75_34 : zraw 75 34 = some (.iload 4, 2) ∧ 34 + 2 = 36 := by decide +kernel
theorem zi_75_36 : zraw 75 36 = some (.invokevirtual 104, 3) ∧ zmt (zinf 75).1 104 = some 40 ∧ Nat.ble 9000 40 = false ∧ zinf 40 = (4, 2, 2, 2, 0) ∧ 36 + 3 = 39 := by decide +kernel
theorem zi_75_39 : zraw 75 39 = some (.ifCond .eq 105, 3) ∧ ((39 : Nat) : Int) + 105 = Int.ofNat 144 ∧ 39 + 3 = 42 := by decide +kernel
theorem zi_75_42 : zraw 75 42 = some (.aload_n 0, 1) ∧ 42 + 1 = 43 := by decide +kernel
theorem zi_75_43 : zraw 75 43 = some (.getfield 40, 3) ∧ zft (zinf 75).1 40 = some (6, 11, 3, false) ∧ 43 + 3 = 46 := by decide +kernel
theorem zi_75_46 : zraw 75 46 = some (.aload_n 0, 1) ∧ 46 + 1 = 47 := by decide +kernel
theorem zi_75_47 : zraw 75 47 = some (.getfield 40, 3) ∧ zft (zinf 75).1 40 = some (6, 11, 3, false) ∧ 47 + 3 = 50 := by decide +kernel
theorem zi_75_50 : zraw 75 50 = some (.getfield 107, 3) ∧ zft (zinf 75).1 107 = some (4, 2, 3, true) ∧ 50 + 3 = 53 := by decide +kernel
theorem zi_75_53 : zraw 75 53 = some (.iload 4, 2) ∧ 53 + 2 = 55 := by decide +kernel
theorem zi_75_55 : zraw 75 55 = some (.iaload, 1) ∧ 55 + 1 = 56 := by decide +kernel
theorem zi_75_56 : zraw 75 56 = some (.invokevirtual 110, 3) ∧ zmt (zinf 75).1 110 = some 42 ∧ Nat.ble 9000 42 = false ∧ zinf 42 = (4, 2, 2, 1, 0) ∧ 56 + 3 = 59 := by decide +kernel
theorem zi_75_59 : zraw 75 59 = some (.istore 5, 2) ∧ 59 + 2 = 61 := by decide +kernel
theorem zi_75_61 : zraw 75 61 = some (.aload_n 0, 1) ∧ 61 + 1 = 62 := by decide +kernel
theorem zi_75_62 : zraw 75 62 = some (.getfield 40, 3) ∧ zft (zinf 75).1 40 = some (6, 11, 3, false) ∧ 62 + 3 = 65 := by decide +kernel
theorem zi_75_65 : zraw 75 65 = some (.iload 4, 2) ∧ 65 + 2 = 67 := by decide +kernel
theorem zi_75_67 : zraw 75 67 = some (.invokevirtual 110, 3) ∧ zmt (zinf 75).1 110 = some 42 ∧ Nat.ble 9000 42 = false ∧ zinf 42 = (4, 2, 2, 1, 0) ∧ 67 + 3 = 70 := by decide +kernel
theorem zi_75_70 : zraw 75 70 = some (.istore 6, 2) ∧ 70 + 2 = 72 := by decide +kernel
theorem zi_75_72 : zraw 75 72 = some (.iload 6, 2) ∧ 72 + 2 = 74 := by decide +kernel
theorem zi_75_74 : zraw 75 74 = some (.iload_n 1, 1) ∧ 74 + 1 = 75 := by decide +kernel
theorem zi_75_75 : zraw 75 75 = some (.if_icmp .ne 33, 3) ∧ ((75 : Nat) : Int) + 33 = Int.ofNat 108 ∧ 75 + 3 = 78 := by decide +kernel
theorem zi_75_78 : zraw 75 78 = some (.iload_n 2, 1) ∧ 78 + 1 = 79 := by decide +kernel
theorem zi_75_79 : zraw 75 79 = some (.iload 5, 2) ∧ 79 + 2 = 81 := by decide +kernel
theorem zi_75_81 : zraw 75 81 = some (.ishr, 1) ∧ 81 + 1 = 82 := by decide +kernel
theorem zi_75_82 : zraw 75 82 = some (.iconst 1, 1) ∧ zin 128 1 = true ∧ 82 + 1 = 83 := by decide +kernel
theorem zi_75_83 : zraw 75 83 = some (.iand, 1) ∧ 83 + 1 = 84 := by decide +kernel
theorem zi_75_84 : zraw 75 84 = some (.ifCond .eq 24, 3) ∧ ((84 : Nat) : Int) + 24 = Int.ofNat 108 ∧ 84 + 3 = 87 := by decide +kernel
theorem zi_75_87 : zraw 75 87 = some (.iload_n 3, 1) ∧ 87 + 1 = 88 := by decide +kernel
theorem zi_75_88 : zraw 75 88 = some (.aload_n 0, 1) ∧ 88 + 1 = 89 := by decide +kernel
theorem zi_75_89 : zraw 75 89 = some (.getfield 15, 3) ∧ zft (zinf 75).1 15 = some (6, 1, 3, true) ∧ 89 + 3 = 92 := by decide +kernel
theorem zi_75_92 : zraw 75 92 = some (.iload 4, 2) ∧ 92 + 2 = 94 := by decide +kernel
theorem zi_75_94 : zraw 75 94 = some (.bipush 20, 2) ∧ zin 128 20 = true ∧ 94 + 2 = 96 := by decide +kernel
theorem zi_75_96 : zraw 75 96 = some (.imul, 1) ∧ 96 + 1 = 97 := by decide +kernel
theorem zi_75_97 : zraw 75 97 = some (.aload_n 0, 1) ∧ 97 + 1 = 98 := by decide +kernel
theorem zi_75_98 : zraw 75 98 = some (.getfield 30, 3) ∧ zft (zinf 75).1 30 = some (6, 6, 3, true) ∧ 98 + 3 = 101 := by decide +kernel
theorem zi_75_101 : zraw 75 101 = some (.iload 5, 2) ∧ 101 + 2 = 103 := by decide +kernel
theorem zi_75_103 : zraw 75 103 = some (.iaload, 1) ∧ 103 + 1 = 104 := by decide +kernel
theorem zi_75_104 : zraw 75 104 = some (.iadd, 1) ∧ 104 + 1 = 105 := by decide +kernel
theorem zi_75_105 : zraw 75 105 = some (.iaload, 1) ∧ 105 + 1 = 106 := by decide +kernel
theorem zi_75_106 : zraw 75 106 = some (.iand, 1) ∧ 106 + 1 = 107 := by decide +kernel
theorem zi_75_107 : zraw 75 107 = some (.istore_n 3, 1) ∧ 107 + 1 = 108 := by decide +kernel
theorem zi_75_108 : zraw 75 108 = some (.iload 5, 2) ∧ 108 + 2 = 110 := by decide +kernel
theorem zi_75_110 : zraw 75 110 = some (.iload_n 1, 1) ∧ 110 + 1 = 111 := by decide +kernel
theorem zi_75_111 : zraw 75 111 = some (.if_icmp .ne 33, 3) ∧ ((111 : Nat) : Int) + 33 = Int.ofNat 144 ∧ 111 + 3 = 114 := by decide +kernel
theorem zi_75_114 : zraw 75 114 = some (.iload_n 2, 1) ∧ 114 + 1 = 115 := by decide +kernel
theorem zi_75_115 : zraw 75 115 = some (.iload 6, 2) ∧ 115 + 2 = 117 := by decide +kernel
theorem zi_75_117 : zraw 75 117 = some (.ishr, 1) ∧ 117 + 1 = 118 := by decide +kernel
theorem zi_75_118 : zraw 75 118 = some (.iconst 1, 1) ∧ zin 128 1 = true ∧ 118 + 1 = 119 := by decide +kernel
theorem zi_75_119 : zraw 75 119 = some (.iand, 1) ∧ 119 + 1 = 120 := by decide +kernel
theorem zi_75_120 : zraw 75 120 = some (.ifCond .eq 24, 3) ∧ ((120 : Nat) : Int) + 24 = Int.ofNat 144 ∧ 120 + 3 = 123 := by decide +kernel
theorem zi_75_123 : zraw 75 123 = some (.iload_n 3, 1) ∧ 123 + 1 = 124 := by decide +kernel
theorem zi_75_124 : zraw 75 124 = some (.aload_n 0, 1) ∧ 124 + 1 = 125 := by decide +kernel
theorem zi_75_125 : zraw 75 125 = some (.getfield 18, 3) ∧ zft (zinf 75).1 18 = some (6, 2, 3, true) ∧ 125 + 3 = 128 := by decide +kernel
theorem zi_75_128 : zraw 75 128 = some (.iload 4, 2) ∧ 128 + 2 = 130 := by decide +kernel
theorem zi_75_130 : zraw 75 130 = some (.bipush 20, 2) ∧ zin 128 20 = true ∧ 130 + 2 = 132 := by decide +kernel
theorem zi_75_132 : zraw 75 132 = some (.imul, 1) ∧ 132 + 1 = 133 := by decide +kernel
theorem zi_75_133 : zraw 75 133 = some (.aload_n 0, 1) ∧ 133 + 1 = 134 := by decide +kernel
theorem zi_75_134 : zraw 75 134 = some (.getfield 30, 3) ∧ zft (zinf 75).1 30 = some (6, 6, 3, true) ∧ 134 + 3 = 137 := by decide +kernel
theorem zi_75_137 : zraw 75 137 = some (.iload 6, 2) ∧ 137 + 2 = 139 := by decide +kernel
theorem zi_75_139 : zraw 75 139 = some (.iaload, 1) ∧ 139 + 1 = 140 := by decide +kernel
theorem zi_75_140 : zraw 75 140 = some (.iadd, 1) ∧ 140 + 1 = 141 := by decide +kernel
theorem zi_75_141 : zraw 75 141 = some (.iaload, 1) ∧ 141 + 1 = 142 := by decide +kernel
theorem zi_75_142 : zraw 75 142 = some (.iand, 1) ∧ 142 + 1 = 143 := by decide +kernel
theorem zi_75_143 : zraw 75 143 = some (.istore_n 3, 1) ∧ 143 + 1 = 144 := by decide +kernel
theorem zi_75_144 : zraw 75 144 = some (.iinc 4 1, 3) ∧ zin 32768 1 = true ∧ 144 + 3 = 147 := by decide +kernel
theorem zi_75_147 : zraw 75 147 = some (.goto (-129), 3) ∧ ((147 : Nat) : Int) + (-129) = Int.ofNat 18 := by decide +kernel
theorem zi_75_150 : zraw 75 150 = some (.iload_n 3, 1) ∧ 150 + 1 = 151 := by decide +kernel
theorem zi_75_151 : zraw 75 151 = some (.ireturn, 1) ∧ (zinf 75).2.2.2.1 = 1 := by decide +kernel
theorem ze_75 {K : List zF} {σ : zW} {x1 : Int} {x2 : Int} (h1 : zPn (gR σ 41 11)) : zEv true (zent 75 [.inr (.inr 41), .inl x1, .inl x2] :: K) σ = ((0 ≤ x1 ∧ x1 < 4) ∧ ((0 ≤ (gI σ ((gR σ 41 11) + 14) x1.toNat) ∧ (gI σ ((gR σ 41 11) + 14) x1.toNat) < 8) ∧ zEv true ((75, 18, [some (.inr (.inr 41)), some (.inl x1), some (.inl x2), some (.inl (gI σ 42 ((gI σ ((gR σ 41 11) + 14) x1.toNat).toNat))), some (.inl 1), none, none], []) :: K) σ)) :=
  yT_en (f := (75, 0, [some (.inr (.inr 41)), some (.inl x1), some (.inl x2), none, none, none, none], [])) rfl (yI_aload_n zi_75_0 rfl <| yI_gf_f (v := 42) zi_75_1 zk_41 rfl <| yI_aload_n zi_75_4 rfl <| yI_gf_r (v := gR σ 41 11) zi_75_5 zk_41 rfl <| yI_gf_f (v := (gR σ 41 11) + 14) zi_75_8 (zPn_k h1) rfl <| yI_iload_n zi_75_11 rfl <| yI_ialoadc (v := gI σ ((gR σ 41 11) + 14) x1.toNat) zi_75_12 (zPn_a14 h1) rfl <| yI_ialoadc (v := gI σ 42 ((gI σ ((gR σ 41 11) + 14) x1.toNat).toNat)) zi_75_13 za_42 rfl <| yI_istore_n (l := [some (.inr (.inr 41)), some (.inl x1), some (.inl x2), some (.inl (gI σ 42 ((gI σ ((gR σ 41 11) + 14) x1.toNat).toNat))), none, none, none]) zi_75_14 rfl rfl <| yI_iconst zi_75_15 <| yI_istore (l := [some (.inr (.inr 41)), some (.inl x1), some (.inl x2), some (.inl (gI σ 42 ((gI σ ((gR σ 41 11) + 14) x1.toNat).toNat))), some (.inl 1), none, none]) zi_75_16 rfl rfl <| rfl)
theorem zj_75_18 {K : List zF} {σ : zW} {x1 : Int} {x2 : Int} {x3 : Int} {x4 : Int} {o5 : Option zV} {o6 : Option zV} (hK : K.length < 60) (h1 : zPn (gR σ 41 11)) : zEv true ((75, 18, [some (.inr (.inr 41)), some (.inl x1), some (.inl x2), some (.inl x3), some (.inl x4), o5, o6], []) :: K) σ = (if (gI σ (gR σ 41 11) 15) ≤ x4 then zRet true K (some (.inl x3)) σ else zEv true (zent 40 [.inr (.inr (gR σ 41 11)), .inl x4] :: (75, 39, [some (.inr (.inr 41)), some (.inl x1), some (.inl x2), some (.inl x3), some (.inl x4), o5, o6], []) :: K) σ) :=
  yI_iload zi_75_18 rfl <| yI_aload_n zi_75_20 rfl <| yI_gf_r (v := gR σ 41 11) zi_75_21 zk_41 rfl <| yI_gf_i (v := gI σ (gR σ 41 11) 15) zi_75_24 (zPn_k h1) rfl <| yI_ic_ge zi_75_27 <| yBr (yI_iload_n zi_75_150 rfl <| yI_ireturn zi_75_151) (yI_aload_n zi_75_30 rfl <| yI_gf_r (v := gR σ 41 11) zi_75_31 zk_41 rfl <| yI_iload zi_75_34 rfl <| yI_cv zi_75_36 rfl rfl (zPn_k h1) hK)
theorem zr_75_39 {K : List zF} {σ : zW} {x1 : Int} {x2 : Int} {x3 : Int} {x4 : Int} {o5 : Option zV} {o6 : Option zV} {v : Int} (hK : K.length < 60) (h1 : zPn (gR σ 41 11)) : zRet true ((75, 39, [some (.inr (.inr 41)), some (.inl x1), some (.inl x2), some (.inl x3), some (.inl x4), o5, o6], []) :: K) (some (.inl v)) σ = (if v = 0 then zEv true ((75, 18, [some (.inr (.inr 41)), some (.inl x1), some (.inl x2), some (.inl x3), some (.inl (w32 (x4 + 1))), o5, o6], []) :: K) σ else (0 ≤ x4 ∧ x4 < 8) ∧ zEv true (zent 42 [.inr (.inr (gR σ 41 11)), .inl (gI σ ((gR σ 41 11) + 3) x4.toNat)] :: (75, 59, [some (.inr (.inr 41)), some (.inl x1), some (.inl x2), some (.inl x3), some (.inl x4), o5, o6], []) :: K) σ) :=
  yT_rt (yI_if_eq zi_75_39 <| yBr (yI_iinc (l := [some (.inr (.inr 41)), some (.inl x1), some (.inl x2), some (.inl x3), some (.inl (w32 (x4 + 1))), o5, o6]) zi_75_144 rfl rfl rfl <| yI_goto zi_75_147 <| rfl) (yI_aload_n zi_75_42 rfl <| yI_gf_r (v := gR σ 41 11) zi_75_43 zk_41 rfl <| yI_aload_n zi_75_46 rfl <| yI_gf_r (v := gR σ 41 11) zi_75_47 zk_41 rfl <| yI_gf_f (v := (gR σ 41 11) + 3) zi_75_50 (zPn_k h1) rfl <| yI_iload zi_75_53 rfl <| yI_ialoadc (v := gI σ ((gR σ 41 11) + 3) x4.toNat) zi_75_55 (zPn_a3 h1) rfl <| yI_cv zi_75_56 rfl rfl (zPn_k h1) hK))
theorem zr_75_59 {K : List zF} {σ : zW} {x1 : Int} {x2 : Int} {x3 : Int} {x4 : Int} {o5 : Option zV} {o6 : Option zV} {v : Int} (hK : K.length < 60) (h1 : zPn (gR σ 41 11)) : zRet true ((75, 59, [some (.inr (.inr 41)), some (.inl x1), some (.inl x2), some (.inl x3), some (.inl x4), o5, o6], []) :: K) (some (.inl v)) σ = (zEv true (zent 42 [.inr (.inr (gR σ 41 11)), .inl x4] :: (75, 70, [some (.inr (.inr 41)), some (.inl x1), some (.inl x2), some (.inl x3), some (.inl x4), some (.inl v), o6], []) :: K) σ) :=
  yT_rt (yI_istore (l := [some (.inr (.inr 41)), some (.inl x1), some (.inl x2), some (.inl x3), some (.inl x4), some (.inl v), o6]) zi_75_59 rfl rfl <| yI_aload_n zi_75_61 rfl <| yI_gf_r (v := gR σ 41 11) zi_75_62 zk_41 rfl <| yI_iload zi_75_65 rfl <| yI_cv zi_75_67 rfl rfl (zPn_k h1) hK)
theorem zr_75_70 {K : List zF} {σ : zW} {x1 : Int} {x2 : Int} {x3 : Int} {x4 : Int} {x5 : Int} {o6 : Option zV} {v : Int} : zRet true ((75, 70, [some (.inr (.inr 41)), some (.inl x1), some (.inl x2), some (.inl x3), some (.inl x4), some (.inl x5), o6], []) :: K) (some (.inl v)) σ = (if ¬ v = x1 then zEv true ((75, 108, [some (.inr (.inr 41)), some (.inl x1), some (.inl x2), some (.inl x3), some (.inl x4), some (.inl x5), some (.inl v)], []) :: K) σ else if (zand (zshr x2 x5) 1) = 0 then zEv true ((75, 108, [some (.inr (.inr 41)), some (.inl x1), some (.inl x2), some (.inl x3), some (.inl x4), some (.inl x5), some (.inl v)], []) :: K) σ else (0 ≤ x5 ∧ x5 < 4) ∧ ((0 ≤ (w32 ((w32 (x4 * 20)) + (gI σ 48 x5.toNat))) ∧ (w32 ((w32 (x4 * 20)) + (gI σ 48 x5.toNat))) < 160) ∧ zEv true ((75, 108, [some (.inr (.inr 41)), some (.inl x1), some (.inl x2), some (.inl (zand x3 (gI σ 43 ((w32 ((w32 (x4 * 20)) + (gI σ 48 x5.toNat))).toNat)))), some (.inl x4), some (.inl x5), some (.inl v)], []) :: K) σ)) :=
  yT_rt (yI_istore (l := [some (.inr (.inr 41)), some (.inl x1), some (.inl x2), some (.inl x3), some (.inl x4), some (.inl x5), some (.inl v)]) zi_75_70 rfl rfl <| yI_iload zi_75_72 rfl <| yI_iload_n zi_75_74 rfl <| yI_ic_ne zi_75_75 <| yBr (rfl) (yI_iload_n zi_75_78 rfl <| yI_iload zi_75_79 rfl <| yI_ishr zi_75_81 <| yI_iconst zi_75_82 <| yI_iand zi_75_83 <| yI_if_eq zi_75_84 <| yBr (rfl) (yI_iload_n zi_75_87 rfl <| yI_aload_n zi_75_88 rfl <| yI_gf_f (v := 43) zi_75_89 zk_41 rfl <| yI_iload zi_75_92 rfl <| yI_bipush zi_75_94 <| yI_imul zi_75_96 <| yI_aload_n zi_75_97 rfl <| yI_gf_f (v := 48) zi_75_98 zk_41 rfl <| yI_iload zi_75_101 rfl <| yI_ialoadc (v := gI σ 48 x5.toNat) zi_75_103 za_48 rfl <| yI_iadd zi_75_104 <| yI_ialoadc (v := gI σ 43 ((w32 ((w32 (x4 * 20)) + (gI σ 48 x5.toNat))).toNat)) zi_75_105 za_43 rfl <| yI_iand zi_75_106 <| yI_istore_n (l := [some (.inr (.inr 41)), some (.inl x1), some (.inl x2), some (.inl (zand x3 (gI σ 43 ((w32 ((w32 (x4 * 20)) + (gI σ 48 x5.toNat))).toNat)))), some (.inl x4), some (.inl x5), some (.inl v)]) zi_75_107 rfl rfl <| rfl)))
theorem zj_75_108 {K : List zF} {σ : zW} {x1 : Int} {x2 : Int} {x3 : Int} {x4 : Int} {x5 : Int} {x6 : Int} : zEv true ((75, 108, [some (.inr (.inr 41)), some (.inl x1), some (.inl x2), some (.inl x3), some (.inl x4), some (.inl x5), some (.inl x6)], []) :: K) σ = (if ¬ x5 = x1 then zEv true ((75, 18, [some (.inr (.inr 41)), some (.inl x1), some (.inl x2), some (.inl x3), some (.inl (w32 (x4 + 1))), some (.inl x5), some (.inl x6)], []) :: K) σ else if (zand (zshr x2 x6) 1) = 0 then zEv true ((75, 18, [some (.inr (.inr 41)), some (.inl x1), some (.inl x2), some (.inl x3), some (.inl (w32 (x4 + 1))), some (.inl x5), some (.inl x6)], []) :: K) σ else (0 ≤ x6 ∧ x6 < 4) ∧ ((0 ≤ (w32 ((w32 (x4 * 20)) + (gI σ 48 x6.toNat))) ∧ (w32 ((w32 (x4 * 20)) + (gI σ 48 x6.toNat))) < 160) ∧ zEv true ((75, 18, [some (.inr (.inr 41)), some (.inl x1), some (.inl x2), some (.inl (zand x3 (gI σ 44 ((w32 ((w32 (x4 * 20)) + (gI σ 48 x6.toNat))).toNat)))), some (.inl (w32 (x4 + 1))), some (.inl x5), some (.inl x6)], []) :: K) σ)) :=
  yI_iload zi_75_108 rfl <| yI_iload_n zi_75_110 rfl <| yI_ic_ne zi_75_111 <| yBr (yI_iinc (l := [some (.inr (.inr 41)), some (.inl x1), some (.inl x2), some (.inl x3), some (.inl (w32 (x4 + 1))), some (.inl x5), some (.inl x6)]) zi_75_144 rfl rfl rfl <| yI_goto zi_75_147 <| rfl) (yI_iload_n zi_75_114 rfl <| yI_iload zi_75_115 rfl <| yI_ishr zi_75_117 <| yI_iconst zi_75_118 <| yI_iand zi_75_119 <| yI_if_eq zi_75_120 <| yBr (yI_iinc (l := [some (.inr (.inr 41)), some (.inl x1), some (.inl x2), some (.inl x3), some (.inl (w32 (x4 + 1))), some (.inl x5), some (.inl x6)]) zi_75_144 rfl rfl rfl <| yI_goto zi_75_147 <| rfl) (yI_iload_n zi_75_123 rfl <| yI_aload_n zi_75_124 rfl <| yI_gf_f (v := 44) zi_75_125 zk_41 rfl <| yI_iload zi_75_128 rfl <| yI_bipush zi_75_130 <| yI_imul zi_75_132 <| yI_aload_n zi_75_133 rfl <| yI_gf_f (v := 48) zi_75_134 zk_41 rfl <| yI_iload zi_75_137 rfl <| yI_ialoadc (v := gI σ 48 x6.toNat) zi_75_139 za_48 rfl <| yI_iadd zi_75_140 <| yI_ialoadc (v := gI σ 44 ((w32 ((w32 (x4 * 20)) + (gI σ 48 x6.toNat))).toNat)) zi_75_141 za_44 rfl <| yI_iand zi_75_142 <| yI_istore_n (l := [some (.inr (.inr 41)), some (.inl x1), some (.inl x2), some (.inl (zand x3 (gI σ 44 ((w32 ((w32 (x4 * 20)) + (gI σ 48 x6.toNat))).toNat)))), some (.inl x4), some (.inl x5), some (.inl x6)]) zi_75_143 rfl rfl <| yI_iinc (l := [some (.inr (.inr 41)), some (.inl x1), some (.inl x2), some (.inl (zand x3 (gI σ 44 ((w32 ((w32 (x4 * 20)) + (gI σ 48 x6.toNat))).toNat)))), some (.inl (w32 (x4 + 1))), some (.inl x5), some (.inl x6)]) zi_75_144 rfl rfl rfl <| yI_goto zi_75_147 <| rfl))
/-- 76 Treegrab$Search.walk(I)V -/
theorem zi_76_0 : zraw 76 0 = some (.iload_n 1, 1) ∧ 0 + 1 = 1 := by decide +kernel
theorem zi_76_1 : zraw 76 1 = some (.aload_n 0, 1) ∧ 1 + 1 = 2 := by decide +kernel
theorem zi_76_2 : zraw 76 2 = some (.getfield 40, 3) ∧ zft (zinf 76).1 40 = some (6, 11, 3, false) ∧ 2 + 3 = 5 := by decide +kernel
theorem zi_76_5 : zraw 76 5 = some (.getfield 54, 3) ∧ zft (zinf 76).1 54 = some (4, 15, 0, false) ∧ 5 + 3 = 8 := by decide +kernel
theorem zi_76_8 : zraw 76 8 = some (.if_icmp .lt 15, 3) ∧ ((8 : Nat) : Int) + 15 = Int.ofNat 23 ∧ 8 + 3 = 11 := by decide +kernel
theorem zi_76_11 : zraw 76 11 = some (.aload_n 0, 1) ∧ 11 + 1 = 12 := by decide +kernel
theorem zi_76_12 : zraw 76 12 = some (.getfield 113, 3) ∧ zft (zinf 76).1 113 = some (6, 12, 3, false) ∧ 12 + 3 = 15 := by decide +kernel
theorem zi_76_15 : zraw 76 15 = some (.aload_n 0, 1) ∧ 15 + 1 = 16 := by decide +kernel
theorem zi_76_16 : zraw 76 16 = some (.getfield 30, 3) ∧ zft (zinf 76).1 30 = some (6, 6, 3, true) ∧ 16 + 3 = 19 := by decide +kernel
theorem zi_76_19 : zraw 76 19 = some (.invokevirtual 132, 3) ∧ zmt (zinf 76).1 132 = some 24 ∧ Nat.ble 9000 24 = false ∧ zinf 24 = (1, 2, 6, 0, 0) ∧ 19 + 3 = 22 := by decide +kernel
theorem zi_76_22 : zraw 76 22 = some (.return_, 1) ∧ (zinf 76).2.2.2.1 = 0 := by decide +kernel
theorem zi_76_23 : zraw 76 23 = some (.iload_n 1, 1) ∧ 23 + 1 = 24 := by decide +kernel
theorem zi_76_24 : zraw 76 24 = some (.ifCond .ne 12, 3) ∧ ((24 : Nat) : Int) + 12 = Int.ofNat 36 ∧ 24 + 3 = 27 := by decide +kernel
theorem zi_76_27 : zraw 76 27 = some (.aload_n 0, 1) ∧ 27 + 1 = 28 := by decide +kernel
theorem zi_76_28 : zraw 76 28 = some (.getfield 9, 3) ∧ zft (zinf 76).1 9 = some (6, 0, 3, true) ∧ 28 + 3 = 31 := by decide +kernel
theorem zi_76_31 : zraw 76 31 = some (.iconst 0, 1) ∧ zin 128 0 = true ∧ 31 + 1 = 32 := by decide +kernel
theorem zi_76_32 : zraw 76 32 = some (.iaload, 1) ∧ 32 + 1 = 33 := by decide +kernel
theorem zi_76_33 : zraw 76 33 = some (.goto 27, 3) ∧ ((33 : Nat) : Int) + 27 = Int.ofNat 60 := by decide +kernel
theorem zi_76_36 : zraw 76 36 = some (.aload_n 0, 1) ∧ 36 + 1 = 37 := by decide +kernel
theorem zi_76_37 : zraw 76 37 = some (.getfield 15, 3) ∧ zft (zinf 76).1 15 = some (6, 1, 3, true) ∧ 37 + 3 = 40 := by decide +kernel
theorem zi_76_40 : zraw 76 40 = some (.iload_n 1, 1) ∧ 40 + 1 = 41 := by decide +kernel
theorem zi_76_41 : zraw 76 41 = some (.bipush 20, 2) ∧ zin 128 20 = true ∧ 41 + 2 = 43 := by decide +kernel
theorem zi_76_43 : zraw 76 43 = some (.imul, 1) ∧ 43 + 1 = 44 := by decide +kernel
theorem zi_76_44 : zraw 76 44 = some (.aload_n 0, 1) ∧ 44 + 1 = 45 := by decide +kernel
theorem zi_76_45 : zraw 76 45 = some (.getfield 27, 3) ∧ zft (zinf 76).1 27 = some (6, 5, 3, true) ∧ 45 + 3 = 48 := by decide +kernel
theorem zi_76_48 : zraw 76 48 = some (.aload_n 0, 1) ∧ 48 + 1 = 49 := by decide +kernel
theorem zi_76_49 : zraw 76 49 = some (.getfield 40, 3) ∧ zft (zinf 76).1 40 = some (6, 11, 3, false) ∧ 49 + 3 = 52 := by decide +kernel
theorem zi_76_52 : zraw 76 52 = some (.getfield 107, 3) ∧ zft (zinf 76).1 107 = some (4, 2, 3, true) ∧ 52 + 3 = 55 := by decide +kernel
theorem zi_76_55 : zraw 76 55 = some (.iload_n 1, 1) ∧ 55 + 1 = 56 := by decide +kernel
theorem zi_76_56 : zraw 76 56 = some (.iaload, 1) ∧ 56 + 1 = 57 := by decide +kernel
theorem zi_76_57 : zraw 76 57 = some (.iaload, 1) ∧ 57 + 1 = 58 := by decide +kernel
theorem zi_76_58 : zraw 76 58 = some (.iadd, 1) ∧ 58 + 1 = 59 := by decide +kernel
theorem zi_76_59 : zraw 76 59 = some (.iaload, 1) ∧ 59 + 1 = 60 := by decide +kernel
theorem zi_76_60 : zraw 76 60 = some (.istore_n 2, 1) ∧ 60 + 1 = 61 := by decide +kernel
theorem zi_76_61 : zraw 76 61 = some (.aload_n 0, 1) ∧ 61 + 1 = 62 := by decide +kernel
theorem zi_76_62 : zraw 76 62 = some (.getfield 40, 3) ∧ zft (zinf 76).1 40 = some (6, 11, 3, false) ∧ 62 + 3 = 65 := by decide +kernel
theorem zi_76_65 : zraw 76 65 = some (.getfield 138, 3) ∧ zft (zinf 76).1 138 = some (4, 10, 3, true) ∧ 65 + 3 = 68 := by decide +kernel
theorem zi_76_68 : zraw 76 68 = some (.iload_n 1, 1) ∧ 68 + 1 = 69 := by decide +kernel
theorem zi_76_69 : zraw 76 69 = some (.baload, 1) ∧ 69 + 1 = 70 := by decide +kernel
theorem zi_76_70 : zraw 76 70 = some (.ifCond .eq 27, 3) ∧ ((70 : Nat) : Int) + 27 = Int.ofNat 97 ∧ 70 + 3 = 73 := by decide +kernel
theorem zi_76_73 : zraw 76 73 = some (.iload_n 2, 1) ∧ 73 + 1 = 74 := by decide +kernel
theorem zi_76_74 : zraw 76 74 = some (.aload_n 0, 1) ∧ 74 + 1 = 75 := by decide +kernel
theorem zi_76_75 : zraw 76 75 = some (.iload_n 1, 1) ∧ 75 + 1 = 76 := by decide +kernel
theorem zi_76_76 : zraw 76 76 = some (.invokevirtual 142, 3) ∧ zmt (zinf 76).1 142 = some 79 ∧ Nat.ble 9000 79 = false ∧ zinf 79 = (6, 2, 6, 1, 0) ∧ 76 + 3 = 79 := by decide +kernel
theorem zi_76_79 : zraw 76 79 = some (.iand, 1) ∧ 79 + 1 = 80 := by decide +kernel
theorem zi_76_80 : zraw 76 80 = some (.ifCond .ne 16, 3) ∧ ((80 : Nat) : Int) + 16 = Int.ofNat 96 ∧ 80 + 3 = 83 := by decide +kernel
theorem zi_76_83 : zraw 76 83 = some (.aload_n 0, 1) ∧ 83 + 1 = 84 := by decide +kernel
theorem zi_76_84 : zraw 76 84 = some (.aload_n 0, 1) ∧ 84 + 1 = 85 := by decide +kernel
theorem zi_76_85 : zraw 76 85 = some (.getfield 40, 3) ∧ zft (zinf 76).1 40 = some (6, 11, 3, false) ∧ 85 + 3 = 88 := by decide +kernel
theorem zi_76_88 : zraw 76 88 = some (.getfield 145, 3) ∧ zft (zinf 76).1 145 = some (4, 9, 3, true) ∧ 88 + 3 = 91 := by decide +kernel
theorem zi_76_91 : zraw 76 91 = some (.iload_n 1, 1) ∧ 91 + 1 = 92 := by decide +kernel
theorem zi_76_92 : zraw 76 92 = some (.iaload, 1) ∧ 92 + 1 = 93 := by decide +kernel
theorem zi_76_93 : zraw 76 93 = some (.invokevirtual 125, 3) ∧ zmt (zinf 76).1 125 = some 76 ∧ Nat.ble 9000 76 = false ∧ zinf 76 = (6, 2, 5, 0, 0) ∧ 93 + 3 = 96 := by decide +kernel
theorem zi_76_96 : zraw 76 96 = some (.return_, 1) ∧ (zinf 76).2.2.2.1 = 0 := by decide +kernel
theorem zi_76_97 : zraw 76 97 = some (.aload_n 0, 1) ∧ 97 + 1 = 98 := by decide +kernel
theorem zi_76_98 : zraw 76 98 = some (.getfield 40, 3) ∧ zft (zinf 76).1 40 = some (6, 11, 3, false) ∧ 98 + 3 = 101 := by decide +kernel
theorem zi_76_101 : zraw 76 101 = some (.getfield 148, 3) ∧ zft (zinf 76).1 148 = some (4, 8, 3, true) ∧ 101 + 3 = 104 := by decide +kernel
theorem zi_76_104 : zraw 76 104 = some (.iload_n 1, 1) ∧ 104 + 1 = 105 := by decide +kernel
theorem zi_76_105 : zraw 76 105 = some (.iaload, 1) ∧ 105 + 1 = 106 := by decide +kernel
theorem zi_76_106 : zraw 76 106 = some (.iload_n 1, 1) ∧ 106 + 1 = 107 := by decide +kernel
theorem zi_76_107 : zraw 76 107 = some (.if_icmp .ne 32, 3) ∧ ((107 : Nat) : Int) + 32 = Int.ofNat 139 ∧ 107 + 3 = 110 := by decide +kernel
theorem zi_76_110 : zraw 76 110 = some (.iload_n 2, 1) ∧ 110 + 1 = 111 := by decide +kernel
theorem zi_76_111 : zraw 76 111 = some (.aload_n 0, 1) ∧ 111 + 1 = 112 := by decide +kernel
theorem zi_76_112 : zraw 76 112 = some (.iload_n 1, 1) ∧ 112 + 1 = 113 := by decide +kernel
theorem zi_76_113 : zraw 76 113 = some (.invokevirtual 142, 3) ∧ zmt (zinf 76).1 142 = some 79 ∧ Nat.ble 9000 79 = false ∧ zinf 79 = (6, 2, 6, 1, 0) ∧ 113 + 3 = 116 := by decide +kernel
theorem zi_76_116 : zraw 76 116 = some (.iand, 1) ∧ 116 + 1 = 117 := by decide +kernel
theorem zi_76_117 : zraw 76 117 = some (.ifCond .ne 22, 3) ∧ ((117 : Nat) : Int) + 22 = Int.ofNat 139 ∧ 117 + 3 = 120 := by decide +kernel
theorem zi_76_120 : zraw 76 120 = some (.aload_n 0, 1) ∧ 120 + 1 = 121 := by decide +kernel
theorem zi_76_121 : zraw 76 121 = some (.iload_n 1, 1) ∧ 121 + 1 = 122 := by decide +kernel
theorem zi_76_122 : zraw 76 122 = some (.invokevirtual 151, 3) ∧ zmt (zinf 76).1 151 = some 77 ∧ Nat.ble 9000 77 = false ∧ zinf 77 = (6, 2, 3, 0, 0) ∧ 122 + 3 = 125 := by decide +kernel
theorem zi_76_125 : zraw 76 125 = some (.aload_n 0, 1) ∧ 125 + 1 = 126 := by decide +kernel
theorem zi_76_126 : zraw 76 126 = some (.aload_n 0, 1) ∧ 126 + 1 = 127 := by decide +kernel
theorem zi_76_127 : zraw 76 127 = some (.getfield 40, 3) ∧ zft (zinf 76).1 40 = some (6, 11, 3, false) ∧ 127 + 3 = 130 := by decide +kernel
theorem zi_76_130 : zraw 76 130 = some (.getfield 145, 3) ∧ zft (zinf 76).1 145 = some (4, 9, 3, true) ∧ 130 + 3 = 133 := by decide +kernel
theorem zi_76_133 : zraw 76 133 = some (.iload_n 1, 1) ∧ 133 + 1 = 134 := by decide +kernel
theorem zi_76_134 : zraw 76 134 = some (.iaload, 1) ∧ 134 + 1 = 135 := by decide +kernel
theorem zi_76_135 : zraw 76 135 = some (.invokevirtual 125, 3) ∧ zmt (zinf 76).1 125 = some 76 ∧ Nat.ble 9000 76 = false ∧ zinf 76 = (6, 2, 5, 0, 0) ∧ 135 + 3 = 138 := by decide +kernel
theorem zi_76_138 : zraw 76 138 = some (.return_, 1) ∧ (zinf 76).2.2.2.1 = 0 := by decide +kernel
theorem zi_76_139 : zraw 76 139 = some (.aload_n 0, 1) ∧ 139 + 1 = 140 := by decide +kernel
theorem zi_76_140 : zraw 76 140 = some (.getfield 40, 3) ∧ zft (zinf 76).1 40 = some (6, 11, 3, false) ∧ 140 + 3 = 143 := by decide +kernel
theorem zi_76_143 : zraw 76 143 = some (.getfield 154, 3) ∧ zft (zinf 76).1 154 = some (4, 7, 3, true) ∧ 143 + 3 = 146 := by decide +kernel
theorem zi_76_146 : zraw 76 146 = some (.iload_n 1, 1) ∧ 146 + 1 = 147 := by decide +kernel
theorem zi_76_147 : zraw 76 147 = some (.iaload, 1) ∧ 147 + 1 = 148 := by decide +kernel
theorem zi_76_148 : zraw 76 148 = some (.istore_n 3, 1) ∧ 148 + 1 = 149 := by decide +kernel
theorem zi_76_149 : zraw 76 149 = some (.iload_n 2, 1) ∧ 149 + 1 = 150 := by decide +kernel
theorem zi_76_150 : zraw 76 150 = some (.aload_n 0, 1) ∧ 150 + 1 = 151 := by decide +kernel
theorem zi_76_151 : zraw 76 151 = some (.iload_n 1, 1) ∧ 151 + 1 = 152 := by decide +kernel
theorem zi_76_152 : zraw 76 152 = some (.invokevirtual 157, 3) ∧ zmt (zinf 76).1 157 = some 78 ∧ Nat.ble 9000 78 = false ∧ zinf 78 = (6, 2, 2, 1, 0) ∧ 152 + 3 = 155 := by decide +kernel
theorem zi_76_155 : zraw 76 155 = some (.iand, 1) ∧ 155 + 1 = 156 := by decide +kernel
theorem zi_76_156 : zraw 76 156 = some (.istore_n 2, 1) ∧ 156 + 1 = 157 := by decide +kernel
theorem zi_76_157 : zraw 76 157 = some (.aload_n 0, 1) ∧ 157 + 1 = 158 := by decide +kernel
theorem zi_76_158 : zraw 76 158 = some (.getfield 117, 3) ∧ zft (zinf 76).1 117 = some (6, 9, 1, false) ∧ 158 + 3 = 161 := by decide +kernel
theorem zi_76_161 : zraw 76 161 = some (.ifCond .eq 30, 3) ∧ ((161 : Nat) : Int) + 30 = Int.ofNat 191 ∧ 161 + 3 = 164 := by decide +kernel
theorem zi_76_164 : zraw 76 164 = some (.iload_n 3, 1) ∧ 164 + 1 = 165 := by decide +kernel
theorem zi_76_165 : zraw 76 165 = some (.iconst (-1), 1) ∧ zin 128 (-1) = true ∧ 165 + 1 = 166 := by decide +kernel
theorem zi_76_166 : zraw 76 166 = some (.if_icmp .eq 25, 3) ∧ ((166 : Nat) : Int) + 25 = Int.ofNat 191 ∧ 166 + 3 = 169 := by decide +kernel
theorem zi_76_169 : zraw 76 169 = some (.aload_n 0, 1) ∧ 169 + 1 = 170 := by decide +kernel
theorem zi_76_170 : zraw 76 170 = some (.getfield 40, 3) ∧ zft (zinf 76).1 40 = some (6, 11, 3, false) ∧ 170 + 3 = 173 := by decide +kernel
theorem zi_76_173 : zraw 76 173 = some (.iload_n 1, 1) ∧ 173 + 1 = 174 := by decide +kernel
theorem zi_76_174 : zraw 76 174 = some (.invokevirtual 104, 3) ∧ zmt (zinf 76).1 104 = some 40 ∧ Nat.ble 9000 40 = false ∧ zinf 40 = (4, 2, 2, 2, 0) ∧ 174 + 3 = 177 := by decide +kernel
theorem zi_76_177 : zraw 76 177 = some (.ifCond .eq 14, 3) ∧ ((177 : Nat) : Int) + 14 = Int.ofNat 191 ∧ 177 + 3 = 180 := by decide +kernel
theorem zi_76_180 : zraw 76 180 = some (.iload_n 2, 1) ∧ 180 + 1 = 181 := by decide +kernel
theorem zi_76_181 : zraw 76 181 = some (.iconst 1, 1) ∧ zin 128 1 = true ∧ 181 + 1 = 182 := by decide +kernel
theorem zi_76_182 : zraw 76 182 = some (.aload_n 0, 1) ∧ 182 + 1 = 183 := by decide +kernel
theorem zi_76_183 : zraw 76 183 = some (.getfield 30, 3) ∧ zft (zinf 76).1 30 = some (6, 6, 3, true) ∧ 183 + 3 = 186 := by decide +kernel
theorem zi_76_186 : zraw 76 186 = some (.iload_n 3, 1) ∧ 186 + 1 = 187 := by decide +kernel
theorem zi_76_187 : zraw 76 187 = some (.iaload, 1) ∧ 187 + 1 = 188 := by decide +kernel
theorem zi_76_188 : zraw 76 188 = some (.ishl, 1) ∧ 188 + 1 = 189 := by decide +kernel
theorem zi_76_189 : zraw 76 189 = some (.iand, 1) ∧ 189 + 1 = 190 := by decide +kernel
theorem zi_76_190 : zraw 76 190 = some (.istore_n 2, 1) ∧ 190 + 1 = 191 := by decide +kernel
theorem zi_76_191 : zraw 76 191 = some (.iconst 0, 1) ∧ zin 128 0 = true ∧ 191 + 1 = 192 := by decide +kernel
theorem zi_76_192 : zraw 76 192 = some (.istore 4, 2) ∧ 192 + 2 = 194 := by decide +kernel
theorem zi_76_194 : zraw 76 194 = some (.iload 4, 2) ∧ 194 + 2 = 196 := by decide +kernel
theorem zi_76_196 : zraw 76 196 = some (.aload_n 0, 1) ∧ 196 + 1 = 197 := by decide +kernel
theorem zi_76_197 : zraw 76 197 = some (.getfield 36, 3) ∧ zft (zinf 76).1 36 = some (6, 10, 3, false) ∧ 197 + 3 = 200 := by decide +kernel
theorem zi_76_200 : zraw 76 200 = some (.getfield 44, 3) ∧ zft (zinf 76).1 44 = some (8, 12, 0, false) ∧ 200 + 3 = 203 := by decide +kernel
theorem zi_76_203 : zraw 76 203 = some (.if_icmp .ge 46, 3) ∧ ((203 : Nat) : Int) + 46 = Int.ofNat 249 ∧ 203 + 3 = 206 := by decide +kernel
theorem zi_76_206 : zraw 76 206 = some (.iload_n 2, 1) ∧ 206 + 1 = 207 := by decide +kernel
theorem zi_76_207 : zraw 76 207 = some (.iload 4, 2) ∧ 207 + 2 = 209 := by decide +kernel
theorem zi_76_209 : zraw 76 209 = some (.ishr, 1) ∧ 209 + 1 = 210 := by decide +kernel
theorem zi_76_210 : zraw 76 210 = some (.iconst 1, 1) ∧ zin 128 1 = true ∧ 210 + 1 = 211 := by decide +kernel
theorem zi_76_211 : zraw 76 211 = some (.iand, 1) ∧ 211 + 1 = 212 := by decide +kernel
theorem zi_76_212 : zraw 76 212 = some (.ifCond .eq 31, 3) ∧ ((212 : Nat) : Int) + 31 = Int.ofNat 243 ∧ 212 + 3 = 215 := by decide +kernel
theorem zi_76_215 : zraw 76 215 = some (.aload_n 0, 1) ∧ 215 + 1 = 216 := by decide +kernel
theorem zi_76_216 : zraw 76 216 = some (.getfield 27, 3) ∧ zft (zinf 76).1 27 = some (6, 5, 3, true) ∧ 216 + 3 = 219 := by decide +kernel
theorem zi_76_219 : zraw 76 219 = some (.iload_n 1, 1) ∧ 219 + 1 = 220 := by decide +kernel
theorem zi_76_220 : zraw 76 220 = some (.iload 4, 2) ∧ 220 + 2 = 222 := by decide +kernel
theorem zi_76_222 : zraw 76 222 = some (.iastore, 1) ∧ 222 + 1 = 223 := by decide +kernel
theorem zi_76_223 : zraw 76 223 = some (.iload_n 3, 1) ∧ 223 + 1 = 224 := by decide +kernel
theorem zi_76_224 : zraw 76 224 = some (.iconst (-1), 1) ∧ zin 128 (-1) = true ∧ 224 + 1 = 225 := by decide +kernel
theorem zi_76_225 : zraw 76 225 = some (.if_icmp .eq 11, 3) ∧ ((225 : Nat) : Int) + 11 = Int.ofNat 236 ∧ 225 + 3 = 228 := by decide +kernel
theorem zi_76_228 : zraw 76 228 = some (.aload_n 0, 1) ∧ 228 + 1 = 229 := by decide +kernel
theorem zi_76_229 : zraw 76 229 = some (.getfield 30, 3) ∧ zft (zinf 76).1 30 = some (6, 6, 3, true) ∧ 229 + 3 = 232 := by decide +kernel
theorem zi_76_232 : zraw 76 232 = some (.iload_n 3, 1) ∧ 232 + 1 = 233 := by decide +kernel
theorem zi_76_233 : zraw 76 233 = some (.iload 4, 2) ∧ 233 + 2 = 235 := by decide +kernel
theorem zi_76_235 : zraw 76 235 = some (.iastore, 1) ∧ 235 + 1 = 236 := by decide +kernel
theorem zi_76_236 : zraw 76 236 = some (.aload_n 0, 1) ∧ 236 + 1 = 237 := by decide +kernel
theorem zi_76_237 : zraw 76 237 = some (.iload_n 1, 1) ∧ 237 + 1 = 238 := by decide +kernel
theorem zi_76_238 : zraw 76 238 = some (.iconst 1, 1) ∧ zin 128 1 = true ∧ 238 + 1 = 239 := by decide +kernel
theorem zi_76_239 : zraw 76 239 = some (.iadd, 1) ∧ 239 + 1 = 240 := by decide +kernel
theorem zi_76_240 : zraw 76 240 = some (.invokevirtual 125, 3) ∧ zmt (zinf 76).1 125 = some 76 ∧ Nat.ble 9000 76 = false ∧ zinf 76 = (6, 2, 5, 0, 0) ∧ 240 + 3 = 243 := by decide +kernel
theorem zi_76_243 : zraw 76 243 = some (.iinc 4 1, 3) ∧ zin 32768 1 = true ∧ 243 + 3 = 246 := by decide +kernel
theorem zi_76_246 : zraw 76 246 = some (.goto (-52), 3) ∧ ((246 : Nat) : Int) + (-52) = Int.ofNat 194 := by decide +kernel
theorem zi_76_249 : zraw 76 249 = some (.return_, 1) ∧ (zinf 76).2.2.2.1 = 0 := by decide +kernel
theorem ze_76 {K : List zF} {σ : zW} {x1 : Int} (hK : K.length < 60) (h1 : zPn (gR σ 41 11)) (h2 : zFo (gR σ 41 12)) : zEv true (zent 76 [.inr (.inr 41), .inl x1] :: K) σ = (if x1 < (gI σ (gR σ 41 11) 15) then ((¬ x1 = 0) → (((0 ≤ x1 ∧ x1 < 8) ∧ (0 ≤ (gI σ ((gR σ 41 11) + 3) x1.toNat) ∧ (gI σ ((gR σ 41 11) + 3) x1.toNat) < 8)) ∧ (0 ≤ (w32 ((w32 (x1 * 20)) + (gI σ 47 ((gI σ ((gR σ 41 11) + 3) x1.toNat).toNat)))) ∧ (w32 ((w32 (x1 * 20)) + (gI σ 47 ((gI σ ((gR σ 41 11) + 3) x1.toNat).toNat)))) < 160))) ∧ ((0 ≤ x1 ∧ x1 < 8) ∧ (if (gI σ ((gR σ 41 11) + 11) x1.toNat) = 0 then (0 ≤ x1 ∧ x1 < 8) ∧ (if ¬ (gI σ ((gR σ 41 11) + 9) x1.toNat) = x1 then zEv true ((76, 139, [some (.inr (.inr 41)), some (.inl x1), some (.inl (if ¬ x1 = 0 then gI σ 43 ((w32 ((w32 (x1 * 20)) + (gI σ 47 ((gI σ ((gR σ 41 11) + 3) x1.toNat).toNat)))).toNat) else gI σ 42 0 : Int)), none, none], []) :: K) σ else zEv true (zent 79 [.inr (.inr 41), .inl x1] :: (76, 116, [some (.inr (.inr 41)), some (.inl x1), some (.inl (if ¬ x1 = 0 then gI σ 43 ((w32 ((w32 (x1 * 20)) + (gI σ 47 ((gI σ ((gR σ 41 11) + 3) x1.toNat).toNat)))).toNat) else gI σ 42 0 : Int)), none, none], [.inl (if ¬ x1 = 0 then gI σ 43 ((w32 ((w32 (x1 * 20)) + (gI σ 47 ((gI σ ((gR σ 41 11) + 3) x1.toNat).toNat)))).toNat) else gI σ 42 0 : Int)]) :: K) σ) else zEv true (zent 79 [.inr (.inr 41), .inl x1] :: (76, 79, [some (.inr (.inr 41)), some (.inl x1), some (.inl (if ¬ x1 = 0 then gI σ 43 ((w32 ((w32 (x1 * 20)) + (gI σ 47 ((gI σ ((gR σ 41 11) + 3) x1.toNat).toNat)))).toNat) else gI σ 42 0 : Int)), none, none], [.inl (if ¬ x1 = 0 then gI σ 43 ((w32 ((w32 (x1 * 20)) + (gI σ 47 ((gI σ ((gR σ 41 11) + 3) x1.toNat).toNat)))).toNat) else gI σ 42 0 : Int)]) :: K) σ)) else zEv true (zent 24 [.inr (.inr (gR σ 41 12)), .inr (.inr 48)] :: (76, 22, [some (.inr (.inr 41)), some (.inl x1), none, none, none], []) :: K) σ) :=
  yT_en (f := (76, 0, [some (.inr (.inr 41)), some (.inl x1), none, none, none], [])) rfl (yI_iload_n zi_76_0 rfl <| yI_aload_n zi_76_1 rfl <| yI_gf_r (v := gR σ 41 11) zi_76_2 zk_41 rfl <| yI_gf_i (v := gI σ (gR σ 41 11) 15) zi_76_5 (zPn_k h1) rfl <| yI_ic_lt zi_76_8 <| yBr (yI_iload_n zi_76_23 rfl <| yI_if_ne zi_76_24 <| yMi1 (j := 60) (ls2 := [some (.inr (.inr 41)), some (.inl x1), none, none, none]) (st2 := []) (x := gI σ 43 ((w32 ((w32 (x1 * 20)) + (gI σ 47 ((gI σ ((gR σ 41 11) + 3) x1.toNat).toNat)))).toNat)) (y := gI σ 42 0) (σ2 := σ) (((yI_aload_n zi_76_36 rfl <| yI_gf_f (v := 43) zi_76_37 zk_41 rfl <| yI_iload_n zi_76_40 rfl <| yI_bipush zi_76_41 <| yI_imul zi_76_43 <| yI_aload_n zi_76_44 rfl <| yI_gf_f (v := 47) zi_76_45 zk_41 rfl <| yI_aload_n zi_76_48 rfl <| yI_gf_r (v := gR σ 41 11) zi_76_49 zk_41 rfl <| yI_gf_f (v := (gR σ 41 11) + 3) zi_76_52 (zPn_k h1) rfl <| yI_iload_n zi_76_55 rfl <| yI_ialoadc (v := gI σ ((gR σ 41 11) + 3) x1.toNat) zi_76_56 (zPn_a3 h1) rfl <| yI_ialoadc (v := gI σ 47 ((gI σ ((gR σ 41 11) + 3) x1.toNat).toNat)) zi_76_57 za_47 rfl <| yI_iadd zi_76_58 <| yI_ialoadc (v := gI σ 43 ((w32 ((w32 (x1 * 20)) + (gI σ 47 ((gI σ ((gR σ 41 11) + 3) x1.toNat).toNat)))).toNat)) zi_76_59 za_43 rfl <| rfl).trans (propext and_assoc.symm)).trans (propext and_assoc.symm)) (yI_aload_n zi_76_27 rfl <| yI_gf_f (v := 42) zi_76_28 zk_41 rfl <| yI_iconst zi_76_31 <| yI_iaload (v := gI σ 42 0) zi_76_32 za_42 (by decide) rfl <| yI_goto zi_76_33 <| rfl) <| yI_istore_n (l := [some (.inr (.inr 41)), some (.inl x1), some (.inl (if ¬ x1 = 0 then gI σ 43 ((w32 ((w32 (x1 * 20)) + (gI σ 47 ((gI σ ((gR σ 41 11) + 3) x1.toNat).toNat)))).toNat) else gI σ 42 0 : Int)), none, none]) zi_76_60 rfl rfl <| yI_aload_n zi_76_61 rfl <| yI_gf_r (v := gR σ 41 11) zi_76_62 zk_41 rfl <| yI_gf_f (v := (gR σ 41 11) + 11) zi_76_65 (zPn_k h1) rfl <| yI_iload_n zi_76_68 rfl <| yI_baloadc (v := gI σ ((gR σ 41 11) + 11) x1.toNat) zi_76_69 (zPn_a11 h1) rfl <| yI_if_eq zi_76_70 <| yBr (yI_aload_n zi_76_97 rfl <| yI_gf_r (v := gR σ 41 11) zi_76_98 zk_41 rfl <| yI_gf_f (v := (gR σ 41 11) + 9) zi_76_101 (zPn_k h1) rfl <| yI_iload_n zi_76_104 rfl <| yI_ialoadc (v := gI σ ((gR σ 41 11) + 9) x1.toNat) zi_76_105 (zPn_a9 h1) rfl <| yI_iload_n zi_76_106 rfl <| yI_ic_ne zi_76_107 <| yBr (rfl) (yI_iload_n zi_76_110 rfl <| yI_aload_n zi_76_111 rfl <| yI_iload_n zi_76_112 rfl <| yI_cv zi_76_113 rfl rfl zk_41 hK)) (yI_iload_n zi_76_73 rfl <| yI_aload_n zi_76_74 rfl <| yI_iload_n zi_76_75 rfl <| yI_cv zi_76_76 rfl rfl zk_41 hK)) (yI_aload_n zi_76_11 rfl <| yI_gf_r (v := gR σ 41 12) zi_76_12 zk_41 rfl <| yI_aload_n zi_76_15 rfl <| yI_gf_f (v := 48) zi_76_16 zk_41 rfl <| yI_cv zi_76_19 rfl rfl (zFo_k h2) hK))
theorem zr_76_22 {K : List zF} {σ : zW} {o0 : Option zV} {o1 : Option zV} {o2 : Option zV} {o3 : Option zV} {o4 : Option zV} : zRet true ((76, 22, [o0, o1, o2, o3, o4], []) :: K) none σ = (zRet true K none σ) :=
  yT_rv (yI_ret zi_76_22)
theorem zj_76_139 {K : List zF} {σ : zW} {x1 : Int} {x2 : Int} {o3 : Option zV} {o4 : Option zV} (hK : K.length < 60) (h1 : zPn (gR σ 41 11)) : zEv true ((76, 139, [some (.inr (.inr 41)), some (.inl x1), some (.inl x2), o3, o4], []) :: K) σ = ((0 ≤ x1 ∧ x1 < 8) ∧ zEv true (zent 78 [.inr (.inr 41), .inl x1] :: (76, 155, [some (.inr (.inr 41)), some (.inl x1), some (.inl x2), some (.inl (gI σ ((gR σ 41 11) + 8) x1.toNat)), o4], [.inl x2]) :: K) σ) :=
  yI_aload_n zi_76_139 rfl <| yI_gf_r (v := gR σ 41 11) zi_76_140 zk_41 rfl <| yI_gf_f (v := (gR σ 41 11) + 8) zi_76_143 (zPn_k h1) rfl <| yI_iload_n zi_76_146 rfl <| yI_ialoadc (v := gI σ ((gR σ 41 11) + 8) x1.toNat) zi_76_147 (zPn_a8 h1) rfl <| yI_istore_n (l := [some (.inr (.inr 41)), some (.inl x1), some (.inl x2), some (.inl (gI σ ((gR σ 41 11) + 8) x1.toNat)), o4]) zi_76_148 rfl rfl <| yI_iload_n zi_76_149 rfl <| yI_aload_n zi_76_150 rfl <| yI_iload_n zi_76_151 rfl <| yI_cv zi_76_152 rfl rfl zk_41 hK
theorem zr_76_116 {K : List zF} {σ : zW} {x1 : Int} {x2 : Int} {o3 : Option zV} {o4 : Option zV} {s0 : Int} {v : Int} (hK : K.length < 60) : zRet true ((76, 116, [some (.inr (.inr 41)), some (.inl x1), some (.inl x2), o3, o4], [.inl s0]) :: K) (some (.inl v)) σ = (if ¬ (zand s0 v) = 0 then zEv true ((76, 139, [some (.inr (.inr 41)), some (.inl x1), some (.inl x2), o3, o4], []) :: K) σ else zEv true (zent 77 [.inr (.inr 41), .inl x1] :: (76, 125, [some (.inr (.inr 41)), some (.inl x1), some (.inl x2), o3, o4], []) :: K) σ) :=
  yT_rt (yI_iand zi_76_116 <| yI_if_ne zi_76_117 <| yBr (rfl) (yI_aload_n zi_76_120 rfl <| yI_iload_n zi_76_121 rfl <| yI_cv zi_76_122 rfl rfl zk_41 hK))
theorem zr_76_79 {K : List zF} {σ : zW} {x1 : Int} {o2 : Option zV} {o3 : Option zV} {o4 : Option zV} {s0 : Int} {v : Int} (hK : K.length < 60) (h1 : zPn (gR σ 41 11)) : zRet true ((76, 79, [some (.inr (.inr 41)), some (.inl x1), o2, o3, o4], [.inl s0]) :: K) (some (.inl v)) σ = (if ¬ (zand s0 v) = 0 then zRet true K none σ else (0 ≤ x1 ∧ x1 < 8) ∧ zEv true (zent 76 [.inr (.inr 41), .inl (gI σ ((gR σ 41 11) + 10) x1.toNat)] :: (76, 96, [some (.inr (.inr 41)), some (.inl x1), o2, o3, o4], []) :: K) σ) :=
  yT_rt (yI_iand zi_76_79 <| yI_if_ne zi_76_80 <| yBr (yI_ret zi_76_96) (yI_aload_n zi_76_83 rfl <| yI_aload_n zi_76_84 rfl <| yI_gf_r (v := gR σ 41 11) zi_76_85 zk_41 rfl <| yI_gf_f (v := (gR σ 41 11) + 10) zi_76_88 (zPn_k h1) rfl <| yI_iload_n zi_76_91 rfl <| yI_ialoadc (v := gI σ ((gR σ 41 11) + 10) x1.toNat) zi_76_92 (zPn_a10 h1) rfl <| yI_cv zi_76_93 rfl rfl zk_41 hK))
theorem zr_76_155 {K : List zF} {σ : zW} {x1 : Int} {o2 : Option zV} {x3 : Int} {o4 : Option zV} {s0 : Int} {v : Int} (hK : K.length < 60) (h1 : zPn (gR σ 41 11)) : zRet true ((76, 155, [some (.inr (.inr 41)), some (.inl x1), o2, some (.inl x3), o4], [.inl s0]) :: K) (some (.inl v)) σ = (if (gI σ 41 9) = 0 then zEv true ((76, 191, [some (.inr (.inr 41)), some (.inl x1), some (.inl (zand s0 v)), some (.inl x3), o4], []) :: K) σ else if x3 = (-1) then zEv true ((76, 191, [some (.inr (.inr 41)), some (.inl x1), some (.inl (zand s0 v)), some (.inl x3), o4], []) :: K) σ else zEv true (zent 40 [.inr (.inr (gR σ 41 11)), .inl x1] :: (76, 177, [some (.inr (.inr 41)), some (.inl x1), some (.inl (zand s0 v)), some (.inl x3), o4], []) :: K) σ) :=
  yT_rt (yI_iand zi_76_155 <| yI_istore_n (l := [some (.inr (.inr 41)), some (.inl x1), some (.inl (zand s0 v)), some (.inl x3), o4]) zi_76_156 rfl rfl <| yI_aload_n zi_76_157 rfl <| yI_gf_z (v := gI σ 41 9) zi_76_158 zk_41 rfl <| yI_if_eq zi_76_161 <| yBr (rfl) (yI_iload_n zi_76_164 rfl <| yI_iconst zi_76_165 <| yI_ic_eq zi_76_166 <| yBr (rfl) (yI_aload_n zi_76_169 rfl <| yI_gf_r (v := gR σ 41 11) zi_76_170 zk_41 rfl <| yI_iload_n zi_76_173 rfl <| yI_cv zi_76_174 rfl rfl (zPn_k h1) hK)))
theorem zr_76_125 {K : List zF} {σ : zW} {x1 : Int} {o2 : Option zV} {o3 : Option zV} {o4 : Option zV} (hK : K.length < 60) (h1 : zPn (gR σ 41 11)) : zRet true ((76, 125, [some (.inr (.inr 41)), some (.inl x1), o2, o3, o4], []) :: K) none σ = ((0 ≤ x1 ∧ x1 < 8) ∧ zEv true (zent 76 [.inr (.inr 41), .inl (gI σ ((gR σ 41 11) + 10) x1.toNat)] :: (76, 138, [some (.inr (.inr 41)), some (.inl x1), o2, o3, o4], []) :: K) σ) :=
  yT_rv (yI_aload_n zi_76_125 rfl <| yI_aload_n zi_76_126 rfl <| yI_gf_r (v := gR σ 41 11) zi_76_127 zk_41 rfl <| yI_gf_f (v := (gR σ 41 11) + 10) zi_76_130 (zPn_k h1) rfl <| yI_iload_n zi_76_133 rfl <| yI_ialoadc (v := gI σ ((gR σ 41 11) + 10) x1.toNat) zi_76_134 (zPn_a10 h1) rfl <| yI_cv zi_76_135 rfl rfl zk_41 hK)
theorem zr_76_96 {K : List zF} {σ : zW} {o0 : Option zV} {o1 : Option zV} {o2 : Option zV} {o3 : Option zV} {o4 : Option zV} : zRet true ((76, 96, [o0, o1, o2, o3, o4], []) :: K) none σ = (zRet true K none σ) :=
  yT_rv (yI_ret zi_76_96)
theorem zj_76_191 {K : List zF} {σ : zW} {x1 : Int} {x2 : Int} {x3 : Int} {o4 : Option zV} : zEv true ((76, 191, [some (.inr (.inr 41)), some (.inl x1), some (.inl x2), some (.inl x3), o4], []) :: K) σ = (zEv true ((76, 194, [some (.inr (.inr 41)), some (.inl x1), some (.inl x2), some (.inl x3), some (.inl 0)], []) :: K) σ) :=
  yI_iconst zi_76_191 <| yI_istore (l := [some (.inr (.inr 41)), some (.inl x1), some (.inl x2), some (.inl x3), some (.inl 0)]) zi_76_192 rfl rfl <| rfl
theorem zr_76_177 {K : List zF} {σ : zW} {x1 : Int} {x2 : Int} {x3 : Int} {o4 : Option zV} {v : Int} : zRet true ((76, 177, [some (.inr (.inr 41)), some (.inl x1), some (.inl x2), some (.inl x3), o4], []) :: K) (some (.inl v)) σ = (if v = 0 then zEv true ((76, 191, [some (.inr (.inr 41)), some (.inl x1), some (.inl x2), some (.inl x3), o4], []) :: K) σ else (0 ≤ x3 ∧ x3 < 4) ∧ zEv true ((76, 191, [some (.inr (.inr 41)), some (.inl x1), some (.inl (zand x2 (zshl 1 (gI σ 48 x3.toNat)))), some (.inl x3), o4], []) :: K) σ) :=
  yT_rt (yI_if_eq zi_76_177 <| yBr (rfl) (yI_iload_n zi_76_180 rfl <| yI_iconst zi_76_181 <| yI_aload_n zi_76_182 rfl <| yI_gf_f (v := 48) zi_76_183 zk_41 rfl <| yI_iload_n zi_76_186 rfl <| yI_ialoadc (v := gI σ 48 x3.toNat) zi_76_187 za_48 rfl <| yI_ishl zi_76_188 <| yI_iand zi_76_189 <| yI_istore_n (l := [some (.inr (.inr 41)), some (.inl x1), some (.inl (zand x2 (zshl 1 (gI σ 48 x3.toNat)))), some (.inl x3), o4]) zi_76_190 rfl rfl <| rfl))
theorem zr_76_138 {K : List zF} {σ : zW} {o0 : Option zV} {o1 : Option zV} {o2 : Option zV} {o3 : Option zV} {o4 : Option zV} : zRet true ((76, 138, [o0, o1, o2, o3, o4], []) :: K) none σ = (zRet true K none σ) :=
  yT_rv (yI_ret zi_76_138)
theorem zj_76_194 {K : List zF} {σ : zW} {x1 : Int} {x2 : Int} {x3 : Int} {x4 : Int} (h1 : zTr (gR σ 41 10)) : zEv true ((76, 194, [some (.inr (.inr 41)), some (.inl x1), some (.inl x2), some (.inl x3), some (.inl x4)], []) :: K) σ = (if (gI σ (gR σ 41 10) 12) ≤ x4 then zRet true K none σ else if (zand (zshr x2 x4) 1) = 0 then zEv true ((76, 194, [some (.inr (.inr 41)), some (.inl x1), some (.inl x2), some (.inl x3), some (.inl (w32 (x4 + 1)))], []) :: K) σ else (0 ≤ x1 ∧ x1 < 8) ∧ (if x3 = (-1) then zEv true ((76, 236, [some (.inr (.inr 41)), some (.inl x1), some (.inl x2), some (.inl x3), some (.inl x4)], []) :: K) (sI σ 47 x1.toNat x4) else (0 ≤ x3 ∧ x3 < 4) ∧ zEv true ((76, 236, [some (.inr (.inr 41)), some (.inl x1), some (.inl x2), some (.inl x3), some (.inl x4)], []) :: K) (sI (sI σ 47 x1.toNat x4) 48 x3.toNat x4))) :=
  yI_iload zi_76_194 rfl <| yI_aload_n zi_76_196 rfl <| yI_gf_r (v := gR σ 41 10) zi_76_197 zk_41 rfl <| yI_gf_i (v := gI σ (gR σ 41 10) 12) zi_76_200 (zTr_k h1) rfl <| yI_ic_ge zi_76_203 <| yBr (yI_ret zi_76_249) (yI_iload_n zi_76_206 rfl <| yI_iload zi_76_207 rfl <| yI_ishr zi_76_209 <| yI_iconst zi_76_210 <| yI_iand zi_76_211 <| yI_if_eq zi_76_212 <| yBr (yI_iinc (l := [some (.inr (.inr 41)), some (.inl x1), some (.inl x2), some (.inl x3), some (.inl (w32 (x4 + 1)))]) zi_76_243 rfl rfl rfl <| yI_goto zi_76_246 <| rfl) (yI_aload_n zi_76_215 rfl <| yI_gf_f (v := 47) zi_76_216 zk_41 rfl <| yI_iload_n zi_76_219 rfl <| yI_iload zi_76_220 rfl <| yI_iastorec zi_76_222 za_47 <| yI_iload_n zi_76_223 rfl <| yI_iconst zi_76_224 <| yI_ic_eq zi_76_225 <| yBr (rfl) (yI_aload_n zi_76_228 rfl <| yI_gf_f (v := 48) zi_76_229 zk_41 rfl <| yI_iload_n zi_76_232 rfl <| yI_iload zi_76_233 rfl <| yI_iastorec zi_76_235 za_48 <| rfl)))
theorem zj_76_236 {K : List zF} {σ : zW} {x1 : Int} {x2 : Int} {x3 : Int} {x4 : Int} (hK : K.length < 60) : zEv true ((76, 236, [some (.inr (.inr 41)), some (.inl x1), some (.inl x2), some (.inl x3), some (.inl x4)], []) :: K) σ = (zEv true (zent 76 [.inr (.inr 41), .inl (w32 (x1 + 1))] :: (76, 243, [some (.inr (.inr 41)), some (.inl x1), some (.inl x2), some (.inl x3), some (.inl x4)], []) :: K) σ) :=
  yI_aload_n zi_76_236 rfl <| yI_iload_n zi_76_237 rfl <| yI_iconst zi_76_238 <| yI_iadd zi_76_239 <| yI_cv zi_76_240 rfl rfl zk_41 hK
theorem zr_76_243 {K : List zF} {σ : zW} {x1 : Int} {x2 : Int} {x3 : Int} {x4 : Int} : zRet true ((76, 243, [some (.inr (.inr 41)), some (.inl x1), some (.inl x2), some (.inl x3), some (.inl x4)], []) :: K) none σ = (zEv true ((76, 194, [some (.inr (.inr 41)), some (.inl x1), some (.inl x2), some (.inl x3), some (.inl (w32 (x4 + 1)))], []) :: K) σ) :=
  yT_rv (yI_iinc (l := [some (.inr (.inr 41)), some (.inl x1), some (.inl x2), some (.inl x3), some (.inl (w32 (x4 + 1)))]) zi_76_243 rfl rfl rfl <| yI_goto zi_76_246 <| rfl)
/-- 77 Treegrab$Search.leaveOut(I)V -/
theorem zi_77_0 : zraw 77 0 = some (.iload_n 1, 1) ∧ 0 + 1 = 1 := by decide +kernel
theorem zi_77_1 : zraw 77 1 = some (.istore_n 2, 1) ∧ 1 + 1 = 2 := by decide +kernel
theorem zi_77_2 : zraw 77 2 = some (.iload_n 2, 1) ∧ 2 + 1 = 3 := by decide +kernel
theorem zi_77_3 : zraw 77 3 = some (.aload_n 0, 1) ∧ 3 + 1 = 4 := by decide +kernel
theorem zi_77_4 : zraw 77 4 = some (.getfield 40, 3) ∧ zft (zinf 77).1 40 = some (6, 11, 3, false) ∧ 4 + 3 = 7 := by decide +kernel
theorem zi_77_7 : zraw 77 7 = some (.getfield 145, 3) ∧ zft (zinf 77).1 145 = some (4, 9, 3, true) ∧ 7 + 3 = 10 := by decide +kernel
theorem zi_77_10 : zraw 77 10 = some (.iload_n 1, 1) ∧ 10 + 1 = 11 := by decide +kernel
theorem zi_77_11 : zraw 77 11 = some (.iaload, 1) ∧ 11 + 1 = 12 := by decide +kernel
theorem zi_77_12 : zraw 77 12 = some (.if_icmp .ge 37, 3) ∧ ((12 : Nat) : Int) + 37 = Int.ofNat 49 ∧ 12 + 3 = 15 := by decide +kernel
theorem zi_77_15 : zraw 77 15 = some (.aload_n 0, 1) ∧ 15 + 1 = 16 := by decide +kernel
theorem zi_77_16 : zraw 77 16 = some (.getfield 40, 3) ∧ zft (zinf 77).1 40 = some (6, 11, 3, false) ∧ 16 + 3 = 19 := by decide +kernel
theorem zi_77_19 : zraw 77 19 = some (.getfield 154, 3) ∧ zft (zinf 77).1 154 = some (4, 7, 3, true) ∧ 19 + 3 = 22 := by decide +kernel
theorem zi_77_22 : zraw 77 22 = some (.iload_n 2, 1) ∧ 22 + 1 = 23 := by decide +kernel
theorem zi_77_23 : zraw 77 23 = some (.iaload, 1) ∧ 23 + 1 = 24 := by decide +kernel
theorem zi_77_24 : zraw 77 24 = some (.iconst (-1), 1) ∧ zin 128 (-1) = true ∧ 24 + 1 = 25 := by decide +kernel
theorem zi_77_25 : zraw 77 25 = some (.if_icmp .eq 18, 3) ∧ ((25 : Nat) : Int) + 18 = Int.ofNat 43 ∧ 25 + 3 = 28 := by decide +kernel
theorem zi_77_28 : zraw 77 28 = some (.aload_n 0, 1) ∧ 28 + 1 = 29 := by decide +kernel
theorem zi_77_29 : zraw 77 29 = some (.getfield 30, 3) ∧ zft (zinf 77).1 30 = some (6, 6, 3, true) ∧ 29 + 3 = 32 := by decide +kernel
theorem zi_77_32 : zraw 77 32 = some (.aload_n 0, 1) ∧ 32 + 1 = 33 := by decide +kernel
theorem zi_77_33 : zraw 77 33 = some (.getfield 40, 3) ∧ zft (zinf 77).1 40 = some (6, 11, 3, false) ∧ 33 + 3 = 36 := by decide +kernel
theorem zi_77_36 : zraw 77 36 = some (.getfield 154, 3) ∧ zft (zinf 77).1 154 = some (4, 7, 3, true) ∧ 36 + 3 = 39 := by decide +kernel
theorem zi_77_39 : zraw 77 39 = some (.iload_n 2, 1) ∧ 39 + 1 = 40 := by decide +kernel
theorem zi_77_40 : zraw 77 40 = some (.iaload, 1) ∧ 40 + 1 = 41 := by decide +kernel
theorem zi_77_41 : zraw 77 41 = some (.iconst (-1), 1) ∧ zin 128 (-1) = true ∧ 41 + 1 = 42 := by decide +kernel
theorem zi_77_42 : zraw 77 42 = some (.iastore, 1) ∧ 42 + 1 = 43 := by decide +kernel
theorem zi_77_43 : zraw 77 43 = some (.iinc 2 1, 3) ∧ zin 32768 1 = true ∧ 43 + 3 = 46 := by decide +kernel
theorem zi_77_46 : zraw 77 46 = some (.goto (-44), 3) ∧ ((46 : Nat) : Int) + (-44) = Int.ofNat 2 := by decide +kernel
theorem zi_77_49 : zraw 77 49 = some (.return_, 1) ∧ (zinf 77).2.2.2.1 = 0 := by decide +kernel
theorem ze_77 {K : List zF} {σ : zW} {x1 : Int} : zEv true (zent 77 [.inr (.inr 41), .inl x1] :: K) σ = (zEv true ((77, 2, [some (.inr (.inr 41)), some (.inl x1), some (.inl x1)], []) :: K) σ) :=
  yT_en (f := (77, 0, [some (.inr (.inr 41)), some (.inl x1), none], [])) rfl (yI_iload_n zi_77_0 rfl <| yI_istore_n (l := [some (.inr (.inr 41)), some (.inl x1), some (.inl x1)]) zi_77_1 rfl rfl <| rfl)
theorem zj_77_2 {K : List zF} {σ : zW} {x1 : Int} {x2 : Int} (h1 : zPn (gR σ 41 11)) : zEv true ((77, 2, [some (.inr (.inr 41)), some (.inl x1), some (.inl x2)], []) :: K) σ = ((0 ≤ x1 ∧ x1 < 8) ∧ (if (gI σ ((gR σ 41 11) + 10) x1.toNat) ≤ x2 then zRet true K none σ else (0 ≤ x2 ∧ x2 < 8) ∧ (if (gI σ ((gR σ 41 11) + 8) x2.toNat) = (-1) then zEv true ((77, 2, [some (.inr (.inr 41)), some (.inl x1), some (.inl (w32 (x2 + 1)))], []) :: K) σ else (0 ≤ x2 ∧ x2 < 8) ∧ ((0 ≤ (gI σ ((gR σ 41 11) + 8) x2.toNat) ∧ (gI σ ((gR σ 41 11) + 8) x2.toNat) < 4) ∧ zEv true ((77, 2, [some (.inr (.inr 41)), some (.inl x1), some (.inl (w32 (x2 + 1)))], []) :: K) (sI σ 48 ((gI σ ((gR σ 41 11) + 8) x2.toNat).toNat) (-1)))))) :=
  yI_iload_n zi_77_2 rfl <| yI_aload_n zi_77_3 rfl <| yI_gf_r (v := gR σ 41 11) zi_77_4 zk_41 rfl <| yI_gf_f (v := (gR σ 41 11) + 10) zi_77_7 (zPn_k h1) rfl <| yI_iload_n zi_77_10 rfl <| yI_ialoadc (v := gI σ ((gR σ 41 11) + 10) x1.toNat) zi_77_11 (zPn_a10 h1) rfl <| yI_ic_ge zi_77_12 <| yBr (yI_ret zi_77_49) (yI_aload_n zi_77_15 rfl <| yI_gf_r (v := gR σ 41 11) zi_77_16 zk_41 rfl <| yI_gf_f (v := (gR σ 41 11) + 8) zi_77_19 (zPn_k h1) rfl <| yI_iload_n zi_77_22 rfl <| yI_ialoadc (v := gI σ ((gR σ 41 11) + 8) x2.toNat) zi_77_23 (zPn_a8 h1) rfl <| yI_iconst zi_77_24 <| yI_ic_eq zi_77_25 <| yBr (yI_iinc (l := [some (.inr (.inr 41)), some (.inl x1), some (.inl (w32 (x2 + 1)))]) zi_77_43 rfl rfl rfl <| yI_goto zi_77_46 <| rfl) (yI_aload_n zi_77_28 rfl <| yI_gf_f (v := 48) zi_77_29 zk_41 rfl <| yI_aload_n zi_77_32 rfl <| yI_gf_r (v := gR σ 41 11) zi_77_33 zk_41 rfl <| yI_gf_f (v := (gR σ 41 11) + 8) zi_77_36 (zPn_k h1) rfl <| yI_iload_n zi_77_39 rfl <| yI_ialoadc (v := gI σ ((gR σ 41 11) + 8) x2.toNat) zi_77_40 (zPn_a8 h1) rfl <| yI_iconst zi_77_41 <| yI_iastorec zi_77_42 za_48 <| yI_iinc (l := [some (.inr (.inr 41)), some (.inl x1), some (.inl (w32 (x2 + 1)))]) zi_77_43 rfl rfl rfl <| yI_goto zi_77_46 <| rfl))
/-- 78 Treegrab$Search.ownNodes(I)I -/
theorem zi_78_0 : zraw 78 0 = some (.aload_n 0, 1) ∧ 0 + 1 = 1 := by decide +kernel
theorem zi_78_1 : zraw 78 1 = some (.getfield 40, 3) ∧ zft (zinf 78).1 40 = some (6, 11, 3, false) ∧ 1 + 3 = 4 := by decide +kernel
theorem zi_78_4 : zraw 78 4 = some (.getfield 160, 3) ∧ zft (zinf 78).1 160 = some (4, 0, 3, true) ∧ 4 + 3 = 7 := by decide +kernel
theorem zi_78_7 : zraw 78 7 = some (.iload_n 1, 1) ∧ 7 + 1 = 8 := by decide +kernel
theorem zi_78_8 : zraw 78 8 = some (.iaload, 1) ∧ 8 + 1 = 9 := by decide +kernel
theorem zi_78_9 : zraw 78 9 = some (.iconst 4, 1) ∧ zin 128 4 = true ∧ 9 + 1 = 10 := by decide +kernel
theorem zi_78_10 : zraw 78 10 = some (.if_icmp .ne 28, 3) ∧ ((10 : Nat) : Int) + 28 = Int.ofNat 38 ∧ 10 + 3 = 13 := by decide +kernel
theorem zi_78_13 : zraw 78 13 = some (.iconst 1, 1) ∧ zin 128 1 = true ∧ 13 + 1 = 14 := by decide +kernel
theorem zi_78_14 : zraw 78 14 = some (.aload_n 0, 1) ∧ 14 + 1 = 15 := by decide +kernel
theorem zi_78_15 : zraw 78 15 = some (.getfield 30, 3) ∧ zft (zinf 78).1 30 = some (6, 6, 3, true) ∧ 15 + 3 = 18 := by decide +kernel
theorem zi_78_18 : zraw 78 18 = some (.aload_n 0, 1) ∧ 18 + 1 = 19 := by decide +kernel
theorem zi_78_19 : zraw 78 19 = some (.getfield 40, 3) ∧ zft (zinf 78).1 40 = some (6, 11, 3, false) ∧ 19 + 3 = 22 := by decide +kernel
theorem zi_78_22 : zraw 78 22 = some (.getfield 154, 3) ∧ zft (zinf 78).1 154 = some (4, 7, 3, true) ∧ 22 + 3 = 25 := by decide +kernel
theorem zi_78_25 : zraw 78 25 = some (.aload_n 0, 1) ∧ 25 + 1 = 26 := by decide +kernel
theorem zi_78_26 : zraw 78 26 = some (.getfield 40, 3) ∧ zft (zinf 78).1 40 = some (6, 11, 3, false) ∧ 26 + 3 = 29 := by decide +kernel
theorem zi_78_29 : zraw 78 29 = some (.getfield 163, 3) ∧ zft (zinf 78).1 163 = some (4, 1, 3, true) ∧ 29 + 3 = 32 := by decide +kernel
theorem zi_78_32 : zraw 78 32 = some (.iload_n 1, 1) ∧ 32 + 1 = 33 := by decide +kernel
theorem zi_78_33 : zraw 78 33 = some (.iaload, 1) ∧ 33 + 1 = 34 := by decide +kernel
theorem zi_78_34 : zraw 78 34 = some (.iaload, 1) ∧ 34 + 1 = 35 := by decide +kernel
theorem zi_78_35 : zraw 78 35 = some (.iaload, 1) ∧ 35 + 1 = 36 := by decide +kernel
theorem zi_78_36 : zraw 78 36 = some (.ishl, 1) ∧ 36 + 1 = 37 := by decide +kernel
theorem zi_78_37 : zraw 78 37 = some (.ireturn, 1) ∧ (zinf 78).2.2.2.1 = 1 := by decide +kernel
theorem zi_78_38 : zraw 78 38 = some (.aload_n 0, 1) ∧ 38 + 1 = 39 := by decide +kernel
theorem zi_78_39 : zraw 78 39 = some (.getfield 40, 3) ∧ zft (zinf 78).1 40 = some (6, 11, 3, false) ∧ 39 + 3 = 42 := by decide +kernel
theorem zi_78_42 : zraw 78 42 = some (.getfield 160, 3) ∧ zft (zinf 78).1 160 = some (4, 0, 3, true) ∧ 42 + 3 = 45 := by decide +kernel
theorem zi_78_45 : zraw 78 45 = some (.iload_n 1, 1) ∧ 45 + 1 = 46 := by decide +kernel
theorem zi_78_46 : zraw 78 46 = some (.iaload, 1) ∧ 46 + 1 = 47 := by decide +kernel
theorem zi_78_47 : zraw 78 47 = some (.iconst 3, 1) ∧ zin 128 3 = true ∧ 47 + 1 = 48 := by decide +kernel
theorem zi_78_48 : zraw 78 48 = some (.if_icmp .ne 31, 3) ∧ ((48 : Nat) : Int) + 31 = Int.ofNat 79 ∧ 48 + 3 = 51 := by decide +kernel
theorem zi_78_51 : zraw 78 51 = some (.aload_n 0, 1) ∧ 51 + 1 = 52 := by decide +kernel
theorem zi_78_52 : zraw 78 52 = some (.getfield 21, 3) ∧ zft (zinf 78).1 21 = some (6, 3, 3, true) ∧ 52 + 3 = 55 := by decide +kernel
theorem zi_78_55 : zraw 78 55 = some (.aload_n 0, 1) ∧ 55 + 1 = 56 := by decide +kernel
theorem zi_78_56 : zraw 78 56 = some (.getfield 30, 3) ∧ zft (zinf 78).1 30 = some (6, 6, 3, true) ∧ 56 + 3 = 59 := by decide +kernel
theorem zi_78_59 : zraw 78 59 = some (.aload_n 0, 1) ∧ 59 + 1 = 60 := by decide +kernel
theorem zi_78_60 : zraw 78 60 = some (.getfield 40, 3) ∧ zft (zinf 78).1 40 = some (6, 11, 3, false) ∧ 60 + 3 = 63 := by decide +kernel
theorem zi_78_63 : zraw 78 63 = some (.getfield 154, 3) ∧ zft (zinf 78).1 154 = some (4, 7, 3, true) ∧ 63 + 3 = 66 := by decide +kernel
theorem zi_78_66 : zraw 78 66 = some (.aload_n 0, 1) ∧ 66 + 1 = 67 := by decide +kernel
theorem zi_78_67 : zraw 78 67 = some (.getfield 40, 3) ∧ zft (zinf 78).1 40 = some (6, 11, 3, false) ∧ 67 + 3 = 70 := by decide +kernel
theorem zi_78_70 : zraw 78 70 = some (.getfield 163, 3) ∧ zft (zinf 78).1 163 = some (4, 1, 3, true) ∧ 70 + 3 = 73 := by decide +kernel
theorem zi_78_73 : zraw 78 73 = some (.iload_n 1, 1) ∧ 73 + 1 = 74 := by decide +kernel
theorem zi_78_74 : zraw 78 74 = some (.iaload, 1) ∧ 74 + 1 = 75 := by decide +kernel
theorem zi_78_75 : zraw 78 75 = some (.iaload, 1) ∧ 75 + 1 = 76 := by decide +kernel
theorem zi_78_76 : zraw 78 76 = some (.iaload, 1) ∧ 76 + 1 = 77 := by decide +kernel
theorem zi_78_77 : zraw 78 77 = some (.iaload, 1) ∧ 77 + 1 = 78 := by decide +kernel
theorem zi_78_78 : zraw 78 78 = some (.ireturn, 1) ∧ (zinf 78).2.2.2.1 = 1 := by decide +kernel
theorem zi_78_79 : zraw 78 79 = some (.aload_n 0, 1) ∧ 79 + 1 = 80 := by decide +kernel
theorem zi_78_80 : zraw 78 80 = some (.getfield 9, 3) ∧ zft (zinf 78).1 9 = some (6, 0, 3, true) ∧ 80 + 3 = 83 := by decide +kernel
theorem zi_78_83 : zraw 78 83 = some (.iload_n 1, 1) ∧ 83 + 1 = 84 := by decide +kernel
theorem zi_78_84 : zraw 78 84 = some (.iaload, 1) ∧ 84 + 1 = 85 := by decide +kernel
theorem zi_78_85 : zraw 78 85 = some (.ireturn, 1) ∧ (zinf 78).2.2.2.1 = 1 := by decide +kernel
theorem ze_78 {K : List zF} {σ : zW} {x1 : Int} (h1 : zPn (gR σ 41 11)) : zEv true (zent 78 [.inr (.inr 41), .inl x1] :: K) σ = ((0 ≤ x1 ∧ x1 < 8) ∧ (if ¬ (gI σ ((gR σ 41 11) + 1) x1.toNat) = 4 then (0 ≤ x1 ∧ x1 < 8) ∧ (if ¬ (gI σ ((gR σ 41 11) + 1) x1.toNat) = 3 then (0 ≤ x1 ∧ x1 < 8) ∧ zRet true K (some (.inl (gI σ 42 x1.toNat))) σ else (0 ≤ x1 ∧ x1 < 8) ∧ ((0 ≤ (gI σ ((gR σ 41 11) + 2) x1.toNat) ∧ (gI σ ((gR σ 41 11) + 2) x1.toNat) < 8) ∧ ((0 ≤ (gI σ ((gR σ 41 11) + 8) ((gI σ ((gR σ 41 11) + 2) x1.toNat).toNat)) ∧ (gI σ ((gR σ 41 11) + 8) ((gI σ ((gR σ 41 11) + 2) x1.toNat).toNat)) < 4) ∧ ((0 ≤ (gI σ 48 ((gI σ ((gR σ 41 11) + 8) ((gI σ ((gR σ 41 11) + 2) x1.toNat).toNat)).toNat)) ∧ (gI σ 48 ((gI σ ((gR σ 41 11) + 8) ((gI σ ((gR σ 41 11) + 2) x1.toNat).toNat)).toNat)) < 20) ∧ zRet true K (some (.inl (gI σ 45 ((gI σ 48 ((gI σ ((gR σ 41 11) + 8) ((gI σ ((gR σ 41 11) + 2) x1.toNat).toNat)).toNat)).toNat)))) σ)))) else (0 ≤ x1 ∧ x1 < 8) ∧ ((0 ≤ (gI σ ((gR σ 41 11) + 2) x1.toNat) ∧ (gI σ ((gR σ 41 11) + 2) x1.toNat) < 8) ∧ ((0 ≤ (gI σ ((gR σ 41 11) + 8) ((gI σ ((gR σ 41 11) + 2) x1.toNat).toNat)) ∧ (gI σ ((gR σ 41 11) + 8) ((gI σ ((gR σ 41 11) + 2) x1.toNat).toNat)) < 4) ∧ zRet true K (some (.inl (zshl 1 (gI σ 48 ((gI σ ((gR σ 41 11) + 8) ((gI σ ((gR σ 41 11) + 2) x1.toNat).toNat)).toNat))))) σ)))) :=
  yT_en (f := (78, 0, [some (.inr (.inr 41)), some (.inl x1)], [])) rfl (yI_aload_n zi_78_0 rfl <| yI_gf_r (v := gR σ 41 11) zi_78_1 zk_41 rfl <| yI_gf_f (v := (gR σ 41 11) + 1) zi_78_4 (zPn_k h1) rfl <| yI_iload_n zi_78_7 rfl <| yI_ialoadc (v := gI σ ((gR σ 41 11) + 1) x1.toNat) zi_78_8 (zPn_a1 h1) rfl <| yI_iconst zi_78_9 <| yI_ic_ne zi_78_10 <| yBr (yI_aload_n zi_78_38 rfl <| yI_gf_r (v := gR σ 41 11) zi_78_39 zk_41 rfl <| yI_gf_f (v := (gR σ 41 11) + 1) zi_78_42 (zPn_k h1) rfl <| yI_iload_n zi_78_45 rfl <| yI_ialoadc (v := gI σ ((gR σ 41 11) + 1) x1.toNat) zi_78_46 (zPn_a1 h1) rfl <| yI_iconst zi_78_47 <| yI_ic_ne zi_78_48 <| yBr (yI_aload_n zi_78_79 rfl <| yI_gf_f (v := 42) zi_78_80 zk_41 rfl <| yI_iload_n zi_78_83 rfl <| yI_ialoadc (v := gI σ 42 x1.toNat) zi_78_84 za_42 rfl <| yI_ireturn zi_78_85) (yI_aload_n zi_78_51 rfl <| yI_gf_f (v := 45) zi_78_52 zk_41 rfl <| yI_aload_n zi_78_55 rfl <| yI_gf_f (v := 48) zi_78_56 zk_41 rfl <| yI_aload_n zi_78_59 rfl <| yI_gf_r (v := gR σ 41 11) zi_78_60 zk_41 rfl <| yI_gf_f (v := (gR σ 41 11) + 8) zi_78_63 (zPn_k h1) rfl <| yI_aload_n zi_78_66 rfl <| yI_gf_r (v := gR σ 41 11) zi_78_67 zk_41 rfl <| yI_gf_f (v := (gR σ 41 11) + 2) zi_78_70 (zPn_k h1) rfl <| yI_iload_n zi_78_73 rfl <| yI_ialoadc (v := gI σ ((gR σ 41 11) + 2) x1.toNat) zi_78_74 (zPn_a2 h1) rfl <| yI_ialoadc (v := gI σ ((gR σ 41 11) + 8) ((gI σ ((gR σ 41 11) + 2) x1.toNat).toNat)) zi_78_75 (zPn_a8 h1) rfl <| yI_ialoadc (v := gI σ 48 ((gI σ ((gR σ 41 11) + 8) ((gI σ ((gR σ 41 11) + 2) x1.toNat).toNat)).toNat)) zi_78_76 za_48 rfl <| yI_ialoadc (v := gI σ 45 ((gI σ 48 ((gI σ ((gR σ 41 11) + 8) ((gI σ ((gR σ 41 11) + 2) x1.toNat).toNat)).toNat)).toNat)) zi_78_77 za_45 rfl <| yI_ireturn zi_78_78)) (yI_iconst zi_78_13 <| yI_aload_n zi_78_14 rfl <| yI_gf_f (v := 48) zi_78_15 zk_41 rfl <| yI_aload_n zi_78_18 rfl <| yI_gf_r (v := gR σ 41 11) zi_78_19 zk_41 rfl <| yI_gf_f (v := (gR σ 41 11) + 8) zi_78_22 (zPn_k h1) rfl <| yI_aload_n zi_78_25 rfl <| yI_gf_r (v := gR σ 41 11) zi_78_26 zk_41 rfl <| yI_gf_f (v := (gR σ 41 11) + 2) zi_78_29 (zPn_k h1) rfl <| yI_iload_n zi_78_32 rfl <| yI_ialoadc (v := gI σ ((gR σ 41 11) + 2) x1.toNat) zi_78_33 (zPn_a2 h1) rfl <| yI_ialoadc (v := gI σ ((gR σ 41 11) + 8) ((gI σ ((gR σ 41 11) + 2) x1.toNat).toNat)) zi_78_34 (zPn_a8 h1) rfl <| yI_ialoadc (v := gI σ 48 ((gI σ ((gR σ 41 11) + 8) ((gI σ ((gR σ 41 11) + 2) x1.toNat).toNat)).toNat)) zi_78_35 za_48 rfl <| yI_ishl zi_78_36 <| yI_ireturn zi_78_37))
/-- 79 Treegrab$Search.satisfying(I)I -/
theorem zi_79_0 : zraw 79 0 = some (.aload_n 0, 1) ∧ 0 + 1 = 1 := by decide +kernel
theorem zi_79_1 : zraw 79 1 = some (.getfield 40, 3) ∧ zft (zinf 79).1 40 = some (6, 11, 3, false) ∧ 1 + 3 = 4 := by decide +kernel
theorem zi_79_4 : zraw 79 4 = some (.getfield 145, 3) ∧ zft (zinf 79).1 145 = some (4, 9, 3, true) ∧ 4 + 3 = 7 := by decide +kernel
theorem zi_79_7 : zraw 79 7 = some (.iload_n 1, 1) ∧ 7 + 1 = 8 := by decide +kernel
theorem zi_79_8 : zraw 79 8 = some (.iaload, 1) ∧ 8 + 1 = 9 := by decide +kernel
theorem zi_79_9 : zraw 79 9 = some (.istore_n 2, 1) ∧ 9 + 1 = 10 := by decide +kernel
theorem zi_79_10 : zraw 79 10 = some (.iload_n 1, 1) ∧ 10 + 1 = 11 := by decide +kernel
theorem zi_79_11 : zraw 79 11 = some (.istore_n 3, 1) ∧ 11 + 1 = 12 := by decide +kernel
theorem zi_79_12 : zraw 79 12 = some (.iload_n 3, 1) ∧ 12 + 1 = 13 := by decide +kernel
theorem zi_79_13 : zraw 79 13 = some (.iload_n 2, 1) ∧ 13 + 1 = 14 := by decide +kernel
theorem zi_79_14 : zraw 79 14 = some (.if_icmp .ge 20, 3) ∧ ((14 : Nat) : Int) + 20 = Int.ofNat 34 ∧ 14 + 3 = 17 := by decide +kernel
theorem zi_79_17 : zraw 79 17 = some (.aload_n 0, 1) ∧ 17 + 1 = 18 := by decide +kernel
theorem zi_79_18 : zraw 79 18 = some (.getfield 24, 3) ∧ zft (zinf 79).1 24 = some (6, 4, 3, true) ∧ 18 + 3 = 21 := by decide +kernel
theorem zi_79_21 : zraw 79 21 = some (.iload_n 3, 1) ∧ 21 + 1 = 22 := by decide +kernel
theorem zi_79_22 : zraw 79 22 = some (.aload_n 0, 1) ∧ 22 + 1 = 23 := by decide +kernel
theorem zi_79_23 : zraw 79 23 = some (.iload_n 3, 1) ∧ 23 + 1 = 24 := by decide +kernel
theorem zi_79_24 : zraw 79 24 = some (.invokevirtual 157, 3) ∧ zmt (zinf 79).1 157 = some 78 ∧ Nat.ble 9000 78 = false ∧ zinf 78 = (6, 2, 2, 1, 0) ∧ 24 + 3 = 27 := by decide +kernel
theorem zi_79_27 : zraw 79 27 = some (.iastore, 1) ∧ 27 + 1 = 28 := by decide +kernel
theorem zi_79_28 : zraw 79 28 = some (.iinc 3 1, 3) ∧ zin 32768 1 = true ∧ 28 + 3 = 31 := by decide +kernel
theorem zi_79_31 : zraw 79 31 = some (.goto (-19), 3) ∧ ((31 : Nat) : Int) + (-19) = Int.ofNat 12 := by decide +kernel
theorem zi_79_34 : zraw 79 34 = some (.iload_n 2, 1) ∧ 34 + 1 = 35 := by decide +kernel
theorem zi_79_35 : zraw 79 35 = some (.iconst 1, 1) ∧ zin 128 1 = true ∧ 35 + 1 = 36 := by decide +kernel
theorem zi_79_36 : zraw 79 36 = some (.isub, 1) ∧ 36 + 1 = 37 := by decide +kernel
theorem zi_79_37 : zraw 79 37 = some (.istore_n 3, 1) ∧ 37 + 1 = 38 := by decide +kernel
theorem zi_79_38 : zraw 79 38 = some (.iload_n 3, 1) ∧ 38 + 1 = 39 := by decide +kernel
theorem zi_79_39 : zraw 79 39 = some (.iload_n 1, 1) ∧ 39 + 1 = 40 := by decide +kernel
theorem zi_79_40 : zraw 79 40 = some (.if_icmp .le 107, 3) ∧ ((40 : Nat) : Int) + 107 = Int.ofNat 147 ∧ 40 + 3 = 43 := by decide +kernel
theorem zi_79_43 : zraw 79 43 = some (.iconst 0, 1) ∧ zin 128 0 = true ∧ 43 + 1 = 44 := by decide +kernel
theorem zi_79_44 : zraw 79 44 = some (.istore 4, 2) ∧ 44 + 2 = 46 := by decide +kernel
theorem zi_79_46 : zraw 79 46 = some (.iconst 0, 1) ∧ zin 128 0 = true ∧ 46 + 1 = 47 := by decide +kernel
theorem zi_79_47 : zraw 79 47 = some (.istore 5, 2) ∧ 47 + 2 = 49 := by decide +kernel
theorem zi_79_49 : zraw 79 49 = some (.iload 5, 2) ∧ 49 + 2 = 51 := by decide +kernel
theorem zi_79_51 : zraw 79 51 = some (.aload_n 0, 1) ∧ 51 + 1 = 52 := by decide +kernel
theorem zi_79_52 : zraw 79 52 = some (.getfield 36, 3) ∧ zft (zinf 79).1 36 = some (6, 10, 3, false) ∧ 52 + 3 = 55 := by decide +kernel
theorem zi_79_55 : zraw 79 55 = some (.getfield 44, 3) ∧ zft (zinf 79).1 44 = some (8, 12, 0, false) ∧ 55 + 3 = 58 := by decide +kernel
theorem zi_79_58 : zraw 79 58 = some (.if_icmp .ge 44, 3) ∧ ((58 : Nat) : Int) + 44 = Int.ofNat 102 ∧ 58 + 3 = 61 := by decide +kernel
theorem zi_79_61 : zraw 79 61 = some (.iload 4, 2) ∧ 61 + 2 = 63 := by decide +kernel
theorem zi_79_63 : zraw 79 63 = some (.aload_n 0, 1) ∧ 63 + 1 = 64 := by decide +kernel
theorem zi_79_64 : zraw 79 64 = some (.getfield 24, 3) ∧ zft (zinf 79).1 24 = some (6, 4, 3, true) ∧ 64 + 3 = 67 := by decide +kernel
theorem zi_79_67 : zraw 79 67 = some (.iload_n 3, 1) ∧ 67 + 1 = 68 := by decide +kernel
theorem zi_79_68 : zraw 79 68 = some (.iaload, 1) ∧ 68 + 1 = 69 := by decide +kernel
theorem zi_79_69 : zraw 79 69 = some (.iload 5, 2) ∧ 69 + 2 = 71 := by decide +kernel
theorem zi_79_71 : zraw 79 71 = some (.ishr, 1) ∧ 71 + 1 = 72 := by decide +kernel
theorem zi_79_72 : zraw 79 72 = some (.iconst 1, 1) ∧ zin 128 1 = true ∧ 72 + 1 = 73 := by decide +kernel
theorem zi_79_73 : zraw 79 73 = some (.iand, 1) ∧ 73 + 1 = 74 := by decide +kernel
theorem zi_79_74 : zraw 79 74 = some (.ifCond .eq 18, 3) ∧ ((74 : Nat) : Int) + 18 = Int.ofNat 92 ∧ 74 + 3 = 77 := by decide +kernel
theorem zi_79_77 : zraw 79 77 = some (.aload_n 0, 1) ∧ 77 + 1 = 78 := by decide +kernel
theorem zi_79_78 : zraw 79 78 = some (.getfield 18, 3) ∧ zft (zinf 79).1 18 = some (6, 2, 3, true) ∧ 78 + 3 = 81 := by decide +kernel
theorem zi_79_81 : zraw 79 81 = some (.iload_n 3, 1) ∧ 81 + 1 = 82 := by decide +kernel
theorem zi_79_82 : zraw 79 82 = some (.bipush 20, 2) ∧ zin 128 20 = true ∧ 82 + 2 = 84 := by decide +kernel
theorem zi_79_84 : zraw 79 84 = some (.imul, 1) ∧ 84 + 1 = 85 := by decide +kernel
theorem zi_79_85 : zraw 79 85 = some (.iload 5, 2) ∧ 85 + 2 = 87 := by decide +kernel
theorem zi_79_87 : zraw 79 87 = some (.iadd, 1) ∧ 87 + 1 = 88 := by decide +kernel
theorem zi_79_88 : zraw 79 88 = some (.iaload, 1) ∧ 88 + 1 = 89 := by decide +kernel
theorem zi_79_89 : zraw 79 89 = some (.goto 4, 3) ∧ ((89 : Nat) : Int) + 4 = Int.ofNat 93 := by decide +kernel
theorem zi_79_92 : zraw 79 92 = some (.iconst 0, 1) ∧ zin 128 0 = true ∧ 92 + 1 = 93 := by decide +kernel
theorem zi_79_93 : zraw 79 93 = some (.ior, 1) ∧ 93 + 1 = 94 := by decide +kernel
theorem zi_79_94 : zraw 79 94 = some (.istore 4, 2) ∧ 94 + 2 = 96 := by decide +kernel
theorem zi_79_96 : zraw 79 96 = some (.iinc 5 1, 3) ∧ zin 32768 1 = true ∧ 96 + 3 = 99 := by decide +kernel
theorem zi_79_99 : zraw 79 99 = some (.goto (-50), 3) ∧ ((99 : Nat) : Int) + (-50) = Int.ofNat 49 := by decide +kernel
theorem zi_79_102 : zraw 79 102 = some (.aload_n 0, 1) ∧ 102 + 1 = 103 := by decide +kernel
theorem zi_79_103 : zraw 79 103 = some (.getfield 24, 3) ∧ zft (zinf 79).1 24 = some (6, 4, 3, true) ∧ 103 + 3 = 106 := by decide +kernel
theorem zi_79_106 : zraw 79 106 = some (.aload_n 0, 1) ∧ 106 + 1 = 107 := by decide +kernel
theorem zi_79_107 : zraw 79 107 = some (.getfield 40, 3) ∧ zft (zinf 79).1 40 = some (6, 11, 3, false) ∧ 107 + 3 = 110 := by decide +kernel
theorem zi_79_110 : zraw 79 110 = some (.getfield 107, 3) ∧ zft (zinf 79).1 107 = some (4, 2, 3, true) ∧ 110 + 3 = 113 := by decide +kernel
theorem zi_79_113 : zraw 79 113 = some (.iload_n 3, 1) ∧ 113 + 1 = 114 := by decide +kernel
theorem zi_79_114 : zraw 79 114 = some (.iaload, 1) ∧ 114 + 1 = 115 := by decide +kernel
theorem zi_79_115 : zraw 79 115 = some (.dup2, 1) ∧ 115 + 1 = 116 := by decide +kernel
theorem zi_79_116 : zraw 79 116 = some (.iaload, 1) ∧ 116 + 1 = 117 := by decide +kernel
theorem zi_79_117 : zraw 79 117 = some (.aload_n 0, 1) ∧ 117 + 1 = 118 := by decide +kernel
theorem zi_79_118 : zraw 79 118 = some (.getfield 40, 3) ∧ zft (zinf 79).1 40 = some (6, 11, 3, false) ∧ 118 + 3 = 121 := by decide +kernel
theorem zi_79_121 : zraw 79 121 = some (.getfield 166, 3) ∧ zft (zinf 79).1 166 = some (4, 3, 3, true) ∧ 121 + 3 = 124 := by decide +kernel
theorem zi_79_124 : zraw 79 124 = some (.iload_n 3, 1) ∧ 124 + 1 = 125 := by decide +kernel
theorem zi_79_125 : zraw 79 125 = some (.iaload, 1) ∧ 125 + 1 = 126 := by decide +kernel
theorem zi_79_126 : zraw 79 126 = some (.iconst 1, 1) ∧ zin 128 1 = true ∧ 126 + 1 = 127 := by decide +kernel
theorem zi_79_127 : zraw 79 127 = some (.if_icmp .ne 10, 3) ∧ ((127 : Nat) : Int) + 10 = Int.ofNat 137 ∧ 127 + 3 = 130 := by decide +kernel
theorem zi_79_130 : zraw 79 130 = some (.iload 4, 2) ∧ 130 + 2 = 132 := by decide +kernel
theorem zi_79_132 : zraw 79 132 = some (.iconst (-1), 1) ∧ zin 128 (-1) = true ∧ 132 + 1 = 133 := by decide +kernel
theorem zi_79_133 : zraw 79 133 = some (.ixor, 1) ∧ 133 + 1 = 134 := by decide +kernel
theorem zi_79_134 : zraw 79 134 = some (.goto 5, 3) ∧ ((134 : Nat) : Int) + 5 = Int.ofNat 139 := by decide +kernel
theorem zi_79_137 : zraw 79 137 = some (.iload 4, 2) ∧ 137 + 2 = 139 := by decide +kernel
theorem zi_79_139 : zraw 79 139 = some (.iand, 1) ∧ 139 + 1 = 140 := by decide +kernel
theorem zi_79_140 : zraw 79 140 = some (.iastore, 1) ∧ 140 + 1 = 141 := by decide +kernel
theorem zi_79_141 : zraw 79 141 = some (.iinc 3 (-1), 3) ∧ zin 32768 (-1) = true ∧ 141 + 3 = 144 := by decide +kernel
theorem zi_79_144 : zraw 79 144 = some (.goto (-106), 3) ∧ ((144 : Nat) : Int) + (-106) = Int.ofNat 38 := by decide +kernel
theorem zi_79_147 : zraw 79 147 = some (.aload_n 0, 1) ∧ 147 + 1 = 148 := by decide +kernel
theorem zi_79_148 : zraw 79 148 = some (.getfield 24, 3) ∧ zft (zinf 79).1 24 = some (6, 4, 3, true) ∧ 148 + 3 = 151 := by decide +kernel
theorem zi_79_151 : zraw 79 151 = some (.iload_n 1, 1) ∧ 151 + 1 = 152 := by decide +kernel
theorem zi_79_152 : zraw 79 152 = some (.iaload, 1) ∧ 152 + 1 = 153 := by decide +kernel
theorem zi_79_153 : zraw 79 153 = some (.ireturn, 1) ∧ (zinf 79).2.2.2.1 = 1 := by decide +kernel
theorem ze_79 {K : List zF} {σ : zW} {x1 : Int} (h1 : zPn (gR σ 41 11)) : zEv true (zent 79 [.inr (.inr 41), .inl x1] :: K) σ = ((0 ≤ x1 ∧ x1 < 8) ∧ zEv true ((79, 12, [some (.inr (.inr 41)), some (.inl x1), some (.inl (gI σ ((gR σ 41 11) + 10) x1.toNat)), some (.inl x1), none, none], []) :: K) σ) :=
  yT_en (f := (79, 0, [some (.inr (.inr 41)), some (.inl x1), none, none, none, none], [])) rfl (yI_aload_n zi_79_0 rfl <| yI_gf_r (v := gR σ 41 11) zi_79_1 zk_41 rfl <| yI_gf_f (v := (gR σ 41 11) + 10) zi_79_4 (zPn_k h1) rfl <| yI_iload_n zi_79_7 rfl <| yI_ialoadc (v := gI σ ((gR σ 41 11) + 10) x1.toNat) zi_79_8 (zPn_a10 h1) rfl <| yI_istore_n (l := [some (.inr (.inr 41)), some (.inl x1), some (.inl (gI σ ((gR σ 41 11) + 10) x1.toNat)), none, none, none]) zi_79_9 rfl rfl <| yI_iload_n zi_79_10 rfl <| yI_istore_n (l := [some (.inr (.inr 41)), some (.inl x1), some (.inl (gI σ ((gR σ 41 11) + 10) x1.toNat)), some (.inl x1), none, none]) zi_79_11 rfl rfl <| rfl)
theorem zj_79_12 {K : List zF} {σ : zW} {x1 : Int} {x2 : Int} {x3 : Int} {o4 : Option zV} {o5 : Option zV} (hK : K.length < 60) : zEv true ((79, 12, [some (.inr (.inr 41)), some (.inl x1), some (.inl x2), some (.inl x3), o4, o5], []) :: K) σ = (if x2 ≤ x3 then zEv true ((79, 38, [some (.inr (.inr 41)), some (.inl x1), some (.inl x2), some (.inl (w32 (x2 - 1))), o4, o5], []) :: K) σ else zEv true (zent 78 [.inr (.inr 41), .inl x3] :: (79, 27, [some (.inr (.inr 41)), some (.inl x1), some (.inl x2), some (.inl x3), o4, o5], [.inl x3, .inr (.inr 46)]) :: K) σ) :=
  yI_iload_n zi_79_12 rfl <| yI_iload_n zi_79_13 rfl <| yI_ic_ge zi_79_14 <| yBr (yI_iload_n zi_79_34 rfl <| yI_iconst zi_79_35 <| yI_isub zi_79_36 <| yI_istore_n (l := [some (.inr (.inr 41)), some (.inl x1), some (.inl x2), some (.inl (w32 (x2 - 1))), o4, o5]) zi_79_37 rfl rfl <| rfl) (yI_aload_n zi_79_17 rfl <| yI_gf_f (v := 46) zi_79_18 zk_41 rfl <| yI_iload_n zi_79_21 rfl <| yI_aload_n zi_79_22 rfl <| yI_iload_n zi_79_23 rfl <| yI_cv zi_79_24 rfl rfl zk_41 hK)
theorem zj_79_38 {K : List zF} {σ : zW} {x1 : Int} {o2 : Option zV} {x3 : Int} {o4 : Option zV} {o5 : Option zV} : zEv true ((79, 38, [some (.inr (.inr 41)), some (.inl x1), o2, some (.inl x3), o4, o5], []) :: K) σ = (if x3 ≤ x1 then (0 ≤ x1 ∧ x1 < 8) ∧ zRet true K (some (.inl (gI σ 46 x1.toNat))) σ else zEv true ((79, 49, [some (.inr (.inr 41)), some (.inl x1), o2, some (.inl x3), some (.inl 0), some (.inl 0)], []) :: K) σ) :=
  yI_iload_n zi_79_38 rfl <| yI_iload_n zi_79_39 rfl <| yI_ic_le zi_79_40 <| yBr (yI_aload_n zi_79_147 rfl <| yI_gf_f (v := 46) zi_79_148 zk_41 rfl <| yI_iload_n zi_79_151 rfl <| yI_ialoadc (v := gI σ 46 x1.toNat) zi_79_152 za_46 rfl <| yI_ireturn zi_79_153) (yI_iconst zi_79_43 <| yI_istore (l := [some (.inr (.inr 41)), some (.inl x1), o2, some (.inl x3), some (.inl 0), o5]) zi_79_44 rfl rfl <| yI_iconst zi_79_46 <| yI_istore (l := [some (.inr (.inr 41)), some (.inl x1), o2, some (.inl x3), some (.inl 0), some (.inl 0)]) zi_79_47 rfl rfl <| rfl)
theorem zr_79_27 {K : List zF} {σ : zW} {x1 : Int} {x2 : Int} {x3 : Int} {o4 : Option zV} {o5 : Option zV} {s0 : Int} {v : Int} : zRet true ((79, 27, [some (.inr (.inr 41)), some (.inl x1), some (.inl x2), some (.inl x3), o4, o5], [.inl s0, .inr (.inr 46)]) :: K) (some (.inl v)) σ = ((0 ≤ s0 ∧ s0 < 8) ∧ zEv true ((79, 12, [some (.inr (.inr 41)), some (.inl x1), some (.inl x2), some (.inl (w32 (x3 + 1))), o4, o5], []) :: K) (sI σ 46 s0.toNat v)) :=
  yT_rt (yI_iastorec zi_79_27 za_46 <| yI_iinc (l := [some (.inr (.inr 41)), some (.inl x1), some (.inl x2), some (.inl (w32 (x3 + 1))), o4, o5]) zi_79_28 rfl rfl rfl <| yI_goto zi_79_31 <| rfl)
theorem zj_79_49 {K : List zF} {σ : zW} {x1 : Int} {o2 : Option zV} {x3 : Int} {x4 : Int} {x5 : Int} (h1 : zTr (gR σ 41 10)) (h2 : zPn (gR σ 41 11)) : zEv true ((79, 49, [some (.inr (.inr 41)), some (.inl x1), o2, some (.inl x3), some (.inl x4), some (.inl x5)], []) :: K) σ = (if (gI σ (gR σ 41 10) 12) ≤ x5 then (0 ≤ x3 ∧ x3 < 8) ∧ ((0 ≤ (gI σ ((gR σ 41 11) + 3) x3.toNat) ∧ (gI σ ((gR σ 41 11) + 3) x3.toNat) < 8) ∧ ((0 ≤ x3 ∧ x3 < 8) ∧ ((0 ≤ (gI σ ((gR σ 41 11) + 3) x3.toNat) ∧ (gI σ ((gR σ 41 11) + 3) x3.toNat) < 8) ∧ zEv true ((79, 38, [some (.inr (.inr 41)), some (.inl x1), (zcut 0 o2), some (.inl (w32 (x3 + (-1)))), some (.inl x4), some (.inl x5)], []) :: K) (sI σ 46 ((gI σ ((gR σ 41 11) + 3) x3.toNat).toNat) (zand (gI σ 46 ((gI σ ((gR σ 41 11) + 3) x3.toNat).toNat)) (if ¬ (gI σ ((gR σ 41 11) + 4) x3.toNat) = 1 then x4 else zxor x4 (-1) : Int)))))) else (0 ≤ x3 ∧ x3 < 8) ∧ ((¬ ((zand (zshr (gI σ 46 x3.toNat) x5) 1) = 0) → (0 ≤ (w32 ((w32 (x3 * 20)) + x5)) ∧ (w32 ((w32 (x3 * 20)) + x5)) < 160)) ∧ zEv true ((79, 49, [some (.inr (.inr 41)), some (.inl x1), o2, some (.inl x3), some (.inl (zor x4 (if (zand (zshr (gI σ 46 x3.toNat) x5) 1) = 0 then 0 else gI σ 44 ((w32 ((w32 (x3 * 20)) + x5)).toNat) : Int))), some (.inl (w32 (x5 + 1)))], []) :: K) σ)) :=
  yI_iload zi_79_49 rfl <| yI_aload_n zi_79_51 rfl <| yI_gf_r (v := gR σ 41 10) zi_79_52 zk_41 rfl <| yI_gf_i (v := gI σ (gR σ 41 10) 12) zi_79_55 (zTr_k h1) rfl <| yI_ic_ge zi_79_58 <| yBr (yI_aload_n zi_79_102 rfl <| yI_gf_f (v := 46) zi_79_103 zk_41 rfl <| yI_aload_n zi_79_106 rfl <| yI_gf_r (v := gR σ 41 11) zi_79_107 zk_41 rfl <| yI_gf_f (v := (gR σ 41 11) + 3) zi_79_110 (zPn_k h2) rfl <| yI_iload_n zi_79_113 rfl <| yI_ialoadc (v := gI σ ((gR σ 41 11) + 3) x3.toNat) zi_79_114 (zPn_a3 h2) rfl <| yI_dup2_ir zi_79_115 <| yI_ialoadc (v := gI σ 46 ((gI σ ((gR σ 41 11) + 3) x3.toNat).toNat)) zi_79_116 za_46 rfl <| yI_aload_n zi_79_117 rfl <| yI_gf_r (v := gR σ 41 11) zi_79_118 zk_41 rfl <| yI_gf_f (v := (gR σ 41 11) + 4) zi_79_121 (zPn_k h2) rfl <| yI_iload_n zi_79_124 rfl <| yI_ialoadc (v := gI σ ((gR σ 41 11) + 4) x3.toNat) zi_79_125 (zPn_a4 h2) rfl <| yI_iconst zi_79_126 <| yI_ic_ne zi_79_127 <| yMi0 (j := 139) (ls2 := [some (.inr (.inr 41)), some (.inl x1), o2, some (.inl x3), some (.inl x4), some (.inl x5)]) (st2 := [.inl (gI σ 46 ((gI σ ((gR σ 41 11) + 3) x3.toNat).toNat)), .inl (gI σ ((gR σ 41 11) + 3) x3.toNat), .inr (.inr 46)]) (x := x4) (y := zxor x4 (-1)) (σ2 := σ) (yI_iload zi_79_137 rfl <| rfl) (yI_iload zi_79_130 rfl <| yI_iconst zi_79_132 <| yI_ixor zi_79_133 <| yI_goto zi_79_134 <| rfl) <| yI_iand zi_79_139 <| yI_iastorec zi_79_140 za_46 <| yI_iinc (l := [some (.inr (.inr 41)), some (.inl x1), (zcut 0 o2), some (.inl (w32 (x3 + (-1)))), some (.inl x4), some (.inl x5)]) zi_79_141 rfl rfl rfl <| yI_goto zi_79_144 <| rfl) (yI_iload zi_79_61 rfl <| yI_aload_n zi_79_63 rfl <| yI_gf_f (v := 46) zi_79_64 zk_41 rfl <| yI_iload_n zi_79_67 rfl <| yI_ialoadc (v := gI σ 46 x3.toNat) zi_79_68 za_46 rfl <| yI_iload zi_79_69 rfl <| yI_ishr zi_79_71 <| yI_iconst zi_79_72 <| yI_iand zi_79_73 <| yI_if_eq zi_79_74 <| yMi2 (j := 93) (ls2 := [some (.inr (.inr 41)), some (.inl x1), o2, some (.inl x3), some (.inl x4), some (.inl x5)]) (st2 := [.inl x4]) (x := 0) (y := gI σ 44 ((w32 ((w32 (x3 * 20)) + x5)).toNat)) (σ2 := σ) (yI_iconst zi_79_92 <| rfl) (yI_aload_n zi_79_77 rfl <| yI_gf_f (v := 44) zi_79_78 zk_41 rfl <| yI_iload_n zi_79_81 rfl <| yI_bipush zi_79_82 <| yI_imul zi_79_84 <| yI_iload zi_79_85 rfl <| yI_iadd zi_79_87 <| yI_ialoadc (v := gI σ 44 ((w32 ((w32 (x3 * 20)) + x5)).toNat)) zi_79_88 za_44 rfl <| yI_goto zi_79_89 <| rfl) <| yI_ior zi_79_93 <| yI_istore (l := [some (.inr (.inr 41)), some (.inl x1), o2, some (.inl x3), some (.inl (zor x4 (if (zand (zshr (gI σ 46 x3.toNat) x5) 1) = 0 then 0 else gI σ 44 ((w32 ((w32 (x3 * 20)) + x5)).toNat) : Int))), some (.inl x5)]) zi_79_94 rfl rfl <| yI_iinc (l := [some (.inr (.inr 41)), some (.inl x1), o2, some (.inl x3), some (.inl (zor x4 (if (zand (zshr (gI σ 46 x3.toNat) x5) 1) = 0 then 0 else gI σ 44 ((w32 ((w32 (x3 * 20)) + x5)).toNat) : Int))), some (.inl (w32 (x5 + 1)))]) zi_79_96 rfl rfl rfl <| yI_goto zi_79_99 <| rfl)
/-- 81 Treegrab$Tape.append(JI)V -/
theorem zi_81_0 : zraw 81 0 = some (.iconst 0, 1) ∧ zin 128 0 = true ∧ 0 + 1 = 1 := by decide +kernel
theorem zi_81_1 : zraw 81 1 = some (.istore 4, 2) ∧ 1 + 2 = 3 := by decide +kernel
theorem zi_81_3 : zraw 81 3 = some (.iload 4, 2) ∧ 3 + 2 = 5 := by decide +kernel
theorem zi_81_5 : zraw 81 5 = some (.iload_n 3, 1) ∧ 5 + 1 = 6 := by decide +kernel
theorem zi_81_6 : zraw 81 6 = some (.if_icmp .ge 50, 3) ∧ ((6 : Nat) : Int) + 50 = Int.ofNat 56 ∧ 6 + 3 = 9 := by decide +kernel
theorem zi_81_9 : zraw 81 9 = some (.aload_n 0, 1) ∧ 9 + 1 = 10 := by decide +kernel
theorem zi_81_10 : zraw 81 10 = some (.getfield 15, 3) ∧ zft (zinf 81).1 15 = some (7, 1, 0, false) ∧ 10 + 3 = 13 := by decide +kernel
theorem zi_81_13 : zraw 81 13 = some (.sipush 600, 3) ∧ zin 32768 600 = true ∧ 13 + 3 = 16 := by decide +kernel
theorem zi_81_16 : zraw 81 16 = some (.if_icmp .ge 40, 3) ∧ ((16 : Nat) : Int) + 40 = Int.ofNat 56 ∧ 16 + 3 = 19 := by decide +kernel
theorem zi_81_19 : zraw 81 19 = some (.aload_n 0, 1) ∧ 19 + 1 = 20 := by decide +kernel
theorem zi_81_20 : zraw 81 20 = some (.getfield 9, 3) ∧ zft (zinf 81).1 9 = some (7, 0, 3, true) ∧ 20 + 3 = 23 := by decide +kernel
theorem zi_81_23 : zraw 81 23 = some (.aload_n 0, 1) ∧ 23 + 1 = 24 := by decide +kernel
theorem zi_81_24 : zraw 81 24 = some (.getfield 15, 3) ∧ zft (zinf 81).1 15 = some (7, 1, 0, false) ∧ 24 + 3 = 27 := by decide +kernel
theorem zi_81_27 : zraw 81 27 = some (.lload_n 1, 1) ∧ 27 + 1 = 28 := by decide +kernel
theorem zi_81_28 : zraw 81 28 = some (.bipush 8, 2) ∧ zin 128 8 = true ∧ 28 + 2 = 30 := by decide +kernel
theorem zi_81_30 : zraw 81 30 = some (.iload 4, 2) ∧ 30 + 2 = 32 := by decide +kernel
theorem zi_81_32 : zraw 81 32 = some (.imul, 1) ∧ 32 + 1 = 33 := by decide +kernel
theorem zi_81_33 : zraw 81 33 = some (.lushr, 1) ∧ 33 + 1 = 34 := by decide +kernel
theorem zi_81_34 : zraw 81 34 = some (.l2i, 1) ∧ 34 + 1 = 35 := by decide +kernel
theorem zi_81_35 : zraw 81 35 = some (.sipush 255, 3) ∧ zin 32768 255 = true ∧ 35 + 3 = 38 := by decide +kernel
theorem zi_81_38 : zraw 81 38 = some (.iand, 1) ∧ 38 + 1 = 39 := by decide +kernel
theorem zi_81_39 : zraw 81 39 = some (.iastore, 1) ∧ 39 + 1 = 40 := by decide +kernel
theorem zi_81_40 : zraw 81 40 = some (.aload_n 0, 1) ∧ 40 + 1 = 41 := by decide +kernel
theorem zi_81_41 : zraw 81 41 = some (.dup, 1) ∧ 41 + 1 = 42 := by decide +kernel
theorem zi_81_42 : zraw 81 42 = some (.getfield 15, 3) ∧ zft (zinf 81).1 15 = some (7, 1, 0, false) ∧ 42 + 3 = 45 := by decide +kernel
theorem zi_81_45 : zraw 81 45 = some (.iconst 1, 1) ∧ zin 128 1 = true ∧ 45 + 1 = 46 := by decide +kernel
theorem zi_81_46 : zraw 81 46 = some (.iadd, 1) ∧ 46 + 1 = 47 := by decide +kernel
theorem zi_81_47 : zraw 81 47 = some (.putfield 15, 3) ∧ zft (zinf 81).1 15 = some (7, 1, 0, false) ∧ 47 + 3 = 50 := by decide +kernel
theorem zi_81_50 : zraw 81 50 = some (.iinc 4 1, 3) ∧ zin 32768 1 = true ∧ 50 + 3 = 53 := by decide +kernel
theorem zi_81_53 : zraw 81 53 = some (.goto (-50), 3) ∧ ((53 : Nat) : Int) + (-50) = Int.ofNat 3 := by decide +kernel
theorem zi_81_56 : zraw 81 56 = some (.return_, 1) ∧ (zinf 81).2.2.2.1 = 0 := by decide +kernel
theorem ze_81 {K : List zF} {σ : zW} {x1 : Int64} {x3 : Int} : zEv true (zent 81 [.inr (.inr 2), .inr (.inl x1), .inl x3] :: K) σ = (zEv true ((81, 3, [some (.inr (.inr 2)), some (.inr (.inl x1)), none, some (.inl x3), some (.inl 0)], []) :: K) σ) :=
  yT_en (f := (81, 0, [some (.inr (.inr 2)), some (.inr (.inl x1)), none, some (.inl x3), none], [])) rfl (yI_iconst zi_81_0 <| yI_istore (l := [some (.inr (.inr 2)), some (.inr (.inl x1)), none, some (.inl x3), some (.inl 0)]) zi_81_1 rfl rfl <| rfl)
theorem zj_81_3 {K : List zF} {σ : zW} {x1 : Int64} {x3 : Int} {x4 : Int} : zEv true ((81, 3, [some (.inr (.inr 2)), some (.inr (.inl x1)), none, some (.inl x3), some (.inl x4)], []) :: K) σ = (if x3 ≤ x4 then zRet true K none σ else if 600 ≤ (gI σ 2 1) then zRet true K none σ else (0 ≤ (gI σ 2 1) ∧ (gI σ 2 1) < 600) ∧ zEv true ((81, 3, [some (.inr (.inr 2)), some (.inr (.inl x1)), none, some (.inl x3), some (.inl (w32 (x4 + 1)))], []) :: K) (sI (sI σ 3 ((gI σ 2 1).toNat) (zand (zl2i (zlushr x1 (w32 (8 * x4)))) 255)) 2 1 (w32 ((gI σ 2 1) + 1)))) :=
  yI_iload zi_81_3 rfl <| yI_iload_n zi_81_5 rfl <| yI_ic_ge zi_81_6 <| yBr (yI_ret zi_81_56) (yI_aload_n zi_81_9 rfl <| yI_gf_i (v := gI σ 2 1) zi_81_10 zk_2 rfl <| yI_sipush zi_81_13 <| yI_ic_ge zi_81_16 <| yBr (yI_ret zi_81_56) (yI_aload_n zi_81_19 rfl <| yI_gf_f (v := 3) zi_81_20 zk_2 rfl <| yI_aload_n zi_81_23 rfl <| yI_gf_i (v := gI σ 2 1) zi_81_24 zk_2 rfl <| yI_lload_n zi_81_27 rfl <| yI_bipush zi_81_28 <| yI_iload zi_81_30 rfl <| yI_imul zi_81_32 <| yI_lushr zi_81_33 <| yI_l2i zi_81_34 <| yI_sipush zi_81_35 <| yI_iand zi_81_38 <| yI_iastorec zi_81_39 za_3 <| yI_aload_n zi_81_40 rfl <| yI_dup_r zi_81_41 <| yI_gf_i (v := gI σ 2 1) zi_81_42 zk_2 (yGI_nk (by decide)) <| yI_iconst zi_81_45 <| yI_iadd zi_81_46 <| yI_pf_i zi_81_47 zk_2 <| yI_iinc (l := [some (.inr (.inr 2)), some (.inr (.inl x1)), none, some (.inl x3), some (.inl (w32 (x4 + 1)))]) zi_81_50 rfl rfl rfl <| yI_goto zi_81_53 <| rfl))
/-- 82 Treegrab$Tape.drop()V -/
theorem zi_82_0 : zraw 82 0 = some (.aload_n 0, 1) ∧ 0 + 1 = 1 := by decide +kernel
theorem zi_82_1 : zraw 82 1 = some (.iconst 0, 1) ∧ zin 128 0 = true ∧ 1 + 1 = 2 := by decide +kernel
theorem zi_82_2 : zraw 82 2 = some (.putfield 15, 3) ∧ zft (zinf 82).1 15 = some (7, 1, 0, false) ∧ 2 + 3 = 5 := by decide +kernel
theorem zi_82_5 : zraw 82 5 = some (.return_, 1) ∧ (zinf 82).2.2.2.1 = 0 := by decide +kernel
theorem ze_82 {K : List zF} {σ : zW} : zEv true (zent 82 [.inr (.inr 2)] :: K) σ = (zRet true K none (sI σ 2 1 0)) :=
  yT_en (f := (82, 0, [some (.inr (.inr 2))], [])) rfl (yI_aload_n zi_82_0 rfl <| yI_iconst zi_82_1 <| yI_pf_i zi_82_2 zk_2 <| yI_ret zi_82_5)
/-- 83 Treegrab$Tape.begin()V -/
theorem zi_83_0 : zraw 83 0 = some (.aload_n 0, 1) ∧ 0 + 1 = 1 := by decide +kernel
theorem zi_83_1 : zraw 83 1 = some (.iconst 0, 1) ∧ zin 128 0 = true ∧ 1 + 1 = 2 := by decide +kernel
theorem zi_83_2 : zraw 83 2 = some (.putfield 19, 3) ∧ zft (zinf 83).1 19 = some (7, 2, 0, false) ∧ 2 + 3 = 5 := by decide +kernel
theorem zi_83_5 : zraw 83 5 = some (.aload_n 0, 1) ∧ 5 + 1 = 6 := by decide +kernel
theorem zi_83_6 : zraw 83 6 = some (.iconst 0, 1) ∧ zin 128 0 = true ∧ 6 + 1 = 7 := by decide +kernel
theorem zi_83_7 : zraw 83 7 = some (.putfield 22, 3) ∧ zft (zinf 83).1 22 = some (7, 3, 0, false) ∧ 7 + 3 = 10 := by decide +kernel
theorem zi_83_10 : zraw 83 10 = some (.aload_n 0, 1) ∧ 10 + 1 = 11 := by decide +kernel
theorem zi_83_11 : zraw 83 11 = some (.iconst 0, 1) ∧ zin 128 0 = true ∧ 11 + 1 = 12 := by decide +kernel
theorem zi_83_12 : zraw 83 12 = some (.putfield 25, 3) ∧ zft (zinf 83).1 25 = some (7, 4, 0, false) ∧ 12 + 3 = 15 := by decide +kernel
theorem zi_83_15 : zraw 83 15 = some (.return_, 1) ∧ (zinf 83).2.2.2.1 = 0 := by decide +kernel
theorem ze_83 {K : List zF} {σ : zW} : zEv true (zent 83 [.inr (.inr 2)] :: K) σ = (zRet true K none (sI (sI (sI σ 2 2 0) 2 3 0) 2 4 0)) :=
  yT_en (f := (83, 0, [some (.inr (.inr 2))], [])) rfl (yI_aload_n zi_83_0 rfl <| yI_iconst zi_83_1 <| yI_pf_i zi_83_2 zk_2 <| yI_aload_n zi_83_5 rfl <| yI_iconst zi_83_6 <| yI_pf_i zi_83_7 zk_2 <| yI_aload_n zi_83_10 rfl <| yI_iconst zi_83_11 <| yI_pf_i zi_83_12 zk_2 <| yI_ret zi_83_15)
/-- 84 Treegrab$Tape.byteAt(I)I -/
theorem zi_84_0 : zraw 84 0 = some (.iload_n 1, 1) ∧ 0 + 1 = 1 := by decide +kernel
theorem zi_84_1 : zraw 84 1 = some (.ifCond .lt 20, 3) ∧ ((1 : Nat) : Int) + 20 = Int.ofNat 21 ∧ 1 + 3 = 4 := by decide +kernel
theorem zi_84_4 : zraw 84 4 = some (.iload_n 1, 1) ∧ 4 + 1 = 5 := by decide +kernel
theorem zi_84_5 : zraw 84 5 = some (.aload_n 0, 1) ∧ 5 + 1 = 6 := by decide +kernel
theorem zi_84_6 : zraw 84 6 = some (.getfield 15, 3) ∧ zft (zinf 84).1 15 = some (7, 1, 0, false) ∧ 6 + 3 = 9 := by decide +kernel
theorem zi_84_9 : zraw 84 9 = some (.if_icmp .ge 12, 3) ∧ ((9 : Nat) : Int) + 12 = Int.ofNat 21 ∧ 9 + 3 = 12 := by decide +kernel
theorem zi_84_12 : zraw 84 12 = some (.aload_n 0, 1) ∧ 12 + 1 = 13 := by decide +kernel
theorem zi_84_13 : zraw 84 13 = some (.getfield 9, 3) ∧ zft (zinf 84).1 9 = some (7, 0, 3, true) ∧ 13 + 3 = 16 := by decide +kernel
theorem zi_84_16 : zraw 84 16 = some (.iload_n 1, 1) ∧ 16 + 1 = 17 := by decide +kernel
theorem zi_84_17 : zraw 84 17 = some (.iaload, 1) ∧ 17 + 1 = 18 := by decide +kernel
theorem zi_84_18 : zraw 84 18 = some (.goto 4, 3) ∧ ((18 : Nat) : Int) + 4 = Int.ofNat 22 := by decide +kernel
theorem zi_84_21 : zraw 84 21 = some (.iconst (-1), 1) ∧ zin 128 (-1) = true ∧ 21 + 1 = 22 := by decide +kernel
theorem zi_84_22 : zraw 84 22 = some (.ireturn, 1) ∧ (zinf 84).2.2.2.1 = 1 := by decide +kernel
theorem ze_84 {K : List zF} {σ : zW} {x1 : Int} : zEv true (zent 84 [.inr (.inr 2), .inl x1] :: K) σ = (if x1 < 0 then zEv true ((84, 21, [some (.inr (.inr 2)), some (.inl x1)], []) :: K) σ else if (gI σ 2 1) ≤ x1 then zEv true ((84, 21, [some (.inr (.inr 2)), some (.inl x1)], []) :: K) σ else (0 ≤ x1 ∧ x1 < 600) ∧ zRet true K (some (.inl (gI σ 3 x1.toNat))) σ) :=
  yT_en (f := (84, 0, [some (.inr (.inr 2)), some (.inl x1)], [])) rfl (yI_iload_n zi_84_0 rfl <| yI_if_lt zi_84_1 <| yBr (rfl) (yI_iload_n zi_84_4 rfl <| yI_aload_n zi_84_5 rfl <| yI_gf_i (v := gI σ 2 1) zi_84_6 zk_2 rfl <| yI_ic_ge zi_84_9 <| yBr (rfl) (yI_aload_n zi_84_12 rfl <| yI_gf_f (v := 3) zi_84_13 zk_2 rfl <| yI_iload_n zi_84_16 rfl <| yI_ialoadc (v := gI σ 3 x1.toNat) zi_84_17 za_3 rfl <| yI_goto zi_84_18 <| yI_ireturn zi_84_22)))
theorem zj_84_21 {K : List zF} {σ : zW} {o0 : Option zV} {o1 : Option zV} : zEv true ((84, 21, [o0, o1], []) :: K) σ = (zRet true K (some (.inl (-1))) σ) :=
  yI_iconst zi_84_21 <| yI_ireturn zi_84_22
/-- 85 Treegrab$Tape.next()I -/
theorem zi_85_0 : zraw 85 0 = some (.aload_n 0, 1) ∧ 0 + 1 = 1 := by decide +kernel
theorem zi_85_1 : zraw 85 1 = some (.getfield 19, 3) ∧ zft (zinf 85).1 19 = some (7, 2, 0, false) ∧ 1 + 3 = 4 := by decide +kernel
theorem zi_85_4 : zraw 85 4 = some (.aload_n 0, 1) ∧ 4 + 1 = 5 := by decide +kernel
theorem zi_85_5 : zraw 85 5 = some (.getfield 15, 3) ∧ zft (zinf 85).1 15 = some (7, 1, 0, false) ∧ 5 + 3 = 8 := by decide +kernel
theorem zi_85_8 : zraw 85 8 = some (.if_icmp .ge 58, 3) ∧ ((8 : Nat) : Int) + 58 = Int.ofNat 66 ∧ 8 + 3 = 11 := by decide +kernel
theorem zi_85_11 : zraw 85 11 = some (.aload_n 0, 1) ∧ 11 + 1 = 12 := by decide +kernel
theorem zi_85_12 : zraw 85 12 = some (.getfield 9, 3) ∧ zft (zinf 85).1 9 = some (7, 0, 3, true) ∧ 12 + 3 = 15 := by decide +kernel
theorem zi_85_15 : zraw 85 15 = some (.aload_n 0, 1) ∧ 15 + 1 = 16 := by decide +kernel
theorem zi_85_16 : zraw 85 16 = some (.getfield 19, 3) ∧ zft (zinf 85).1 19 = some (7, 2, 0, false) ∧ 16 + 3 = 19 := by decide +kernel
theorem zi_85_19 : zraw 85 19 = some (.iaload, 1) ∧ 19 + 1 = 20 := by decide +kernel
theorem zi_85_20 : zraw 85 20 = some (.bipush 9, 2) ∧ zin 128 9 = true ∧ 20 + 2 = 22 := by decide +kernel
theorem zi_85_22 : zraw 85 22 = some (.if_icmp .eq 31, 3) ∧ ((22 : Nat) : Int) + 31 = Int.ofNat 53 ∧ 22 + 3 = 25 := by decide +kernel
theorem zi_85_25 : zraw 85 25 = some (.aload_n 0, 1) ∧ 25 + 1 = 26 := by decide +kernel
theorem zi_85_26 : zraw 85 26 = some (.getfield 9, 3) ∧ zft (zinf 85).1 9 = some (7, 0, 3, true) ∧ 26 + 3 = 29 := by decide +kernel
theorem zi_85_29 : zraw 85 29 = some (.aload_n 0, 1) ∧ 29 + 1 = 30 := by decide +kernel
theorem zi_85_30 : zraw 85 30 = some (.getfield 19, 3) ∧ zft (zinf 85).1 19 = some (7, 2, 0, false) ∧ 30 + 3 = 33 := by decide +kernel
theorem zi_85_33 : zraw 85 33 = some (.iaload, 1) ∧ 33 + 1 = 34 := by decide +kernel
theorem zi_85_34 : zraw 85 34 = some (.bipush 32, 2) ∧ zin 128 32 = true ∧ 34 + 2 = 36 := by decide +kernel
theorem zi_85_36 : zraw 85 36 = some (.if_icmp .eq 17, 3) ∧ ((36 : Nat) : Int) + 17 = Int.ofNat 53 ∧ 36 + 3 = 39 := by decide +kernel
theorem zi_85_39 : zraw 85 39 = some (.aload_n 0, 1) ∧ 39 + 1 = 40 := by decide +kernel
theorem zi_85_40 : zraw 85 40 = some (.getfield 9, 3) ∧ zft (zinf 85).1 9 = some (7, 0, 3, true) ∧ 40 + 3 = 43 := by decide +kernel
theorem zi_85_43 : zraw 85 43 = some (.aload_n 0, 1) ∧ 43 + 1 = 44 := by decide +kernel
theorem zi_85_44 : zraw 85 44 = some (.getfield 19, 3) ∧ zft (zinf 85).1 19 = some (7, 2, 0, false) ∧ 44 + 3 = 47 := by decide +kernel
theorem zi_85_47 : zraw 85 47 = some (.iaload, 1) ∧ 47 + 1 = 48 := by decide +kernel
theorem zi_85_48 : zraw 85 48 = some (.bipush 10, 2) ∧ zin 128 10 = true ∧ 48 + 2 = 50 := by decide +kernel
theorem zi_85_50 : zraw 85 50 = some (.if_icmp .ne 16, 3) ∧ ((50 : Nat) : Int) + 16 = Int.ofNat 66 ∧ 50 + 3 = 53 := by decide +kernel
theorem zi_85_53 : zraw 85 53 = some (.aload_n 0, 1) ∧ 53 + 1 = 54 := by decide +kernel
theorem zi_85_54 : zraw 85 54 = some (.dup, 1) ∧ 54 + 1 = 55 := by decide +kernel
theorem zi_85_55 : zraw 85 55 = some (.getfield 19, 3) ∧ zft (zinf 85).1 19 = some (7, 2, 0, false) ∧ 55 + 3 = 58 := by decide +kernel
theorem zi_85_58 : zraw 85 58 = some (.iconst 1, 1) ∧ zin 128 1 = true ∧ 58 + 1 = 59 := by decide +kernel
theorem zi_85_59 : zraw 85 59 = some (.iadd, 1) ∧ 59 + 1 = 60 := by decide +kernel
theorem zi_85_60 : zraw 85 60 = some (.putfield 19, 3) ∧ zft (zinf 85).1 19 = some (7, 2, 0, false) ∧ 60 + 3 = 63 := by decide +kernel
theorem zi_85_63 : zraw 85 63 = some (.goto (-63), 3) ∧ ((63 : Nat) : Int) + (-63) = Int.ofNat 0 := by decide +kernel
theorem zi_85_66 : zraw 85 66 = some (.aload_n 0, 1) ∧ 66 + 1 = 67 := by decide +kernel
theorem zi_85_67 : zraw 85 67 = some (.aload_n 0, 1) ∧ 67 + 1 = 68 := by decide +kernel
theorem zi_85_68 : zraw 85 68 = some (.getfield 19, 3) ∧ zft (zinf 85).1 19 = some (7, 2, 0, false) ∧ 68 + 3 = 71 := by decide +kernel
theorem zi_85_71 : zraw 85 71 = some (.invokevirtual 28, 3) ∧ zmt (zinf 85).1 28 = some 84 ∧ Nat.ble 9000 84 = false ∧ zinf 84 = (7, 2, 2, 1, 0) ∧ 71 + 3 = 74 := by decide +kernel
theorem zi_85_74 : zraw 85 74 = some (.ireturn, 1) ∧ (zinf 85).2.2.2.1 = 1 := by decide +kernel
theorem ze_85 {K : List zF} {σ : zW} : zEv true (zent 85 [.inr (.inr 2)] :: K) σ = zEv true ((85, 0, [some (.inr (.inr 2))], []) :: K) σ := rfl
theorem zj_85_0 {K : List zF} {σ : zW} : zEv true ((85, 0, [some (.inr (.inr 2))], []) :: K) σ = (if (gI σ 2 1) ≤ (gI σ 2 2) then zEv true ((85, 66, [some (.inr (.inr 2))], []) :: K) σ else (0 ≤ (gI σ 2 2) ∧ (gI σ 2 2) < 600) ∧ (if (gI σ 3 ((gI σ 2 2).toNat)) = 9 then zEv true ((85, 53, [some (.inr (.inr 2))], []) :: K) σ else (0 ≤ (gI σ 2 2) ∧ (gI σ 2 2) < 600) ∧ (if (gI σ 3 ((gI σ 2 2).toNat)) = 32 then zEv true ((85, 53, [some (.inr (.inr 2))], []) :: K) σ else (0 ≤ (gI σ 2 2) ∧ (gI σ 2 2) < 600) ∧ (if ¬ (gI σ 3 ((gI σ 2 2).toNat)) = 10 then zEv true ((85, 66, [some (.inr (.inr 2))], []) :: K) σ else zEv true ((85, 53, [some (.inr (.inr 2))], []) :: K) σ)))) :=
  yI_aload_n zi_85_0 rfl <| yI_gf_i (v := gI σ 2 2) zi_85_1 zk_2 rfl <| yI_aload_n zi_85_4 rfl <| yI_gf_i (v := gI σ 2 1) zi_85_5 zk_2 rfl <| yI_ic_ge zi_85_8 <| yBr (rfl) (yI_aload_n zi_85_11 rfl <| yI_gf_f (v := 3) zi_85_12 zk_2 rfl <| yI_aload_n zi_85_15 rfl <| yI_gf_i (v := gI σ 2 2) zi_85_16 zk_2 rfl <| yI_ialoadc (v := gI σ 3 ((gI σ 2 2).toNat)) zi_85_19 za_3 rfl <| yI_bipush zi_85_20 <| yI_ic_eq zi_85_22 <| yBr (rfl) (yI_aload_n zi_85_25 rfl <| yI_gf_f (v := 3) zi_85_26 zk_2 rfl <| yI_aload_n zi_85_29 rfl <| yI_gf_i (v := gI σ 2 2) zi_85_30 zk_2 rfl <| yI_ialoadc (v := gI σ 3 ((gI σ 2 2).toNat)) zi_85_33 za_3 rfl <| yI_bipush zi_85_34 <| yI_ic_eq zi_85_36 <| yBr (rfl) (yI_aload_n zi_85_39 rfl <| yI_gf_f (v := 3) zi_85_40 zk_2 rfl <| yI_aload_n zi_85_43 rfl <| yI_gf_i (v := gI σ 2 2) zi_85_44 zk_2 rfl <| yI_ialoadc (v := gI σ 3 ((gI σ 2 2).toNat)) zi_85_47 za_3 rfl <| yI_bipush zi_85_48 <| yI_ic_ne zi_85_50 <| yBr (rfl) (rfl))))
theorem zj_85_66 {K : List zF} {σ : zW} (hK : K.length < 60) : zEv true ((85, 66, [some (.inr (.inr 2))], []) :: K) σ = (zEv true (zent 84 [.inr (.inr 2), .inl (gI σ 2 2)] :: (85, 74, [some (.inr (.inr 2))], []) :: K) σ) :=
  yI_aload_n zi_85_66 rfl <| yI_aload_n zi_85_67 rfl <| yI_gf_i (v := gI σ 2 2) zi_85_68 zk_2 rfl <| yI_cv zi_85_71 rfl rfl zk_2 hK
theorem zj_85_53 {K : List zF} {σ : zW} : zEv true ((85, 53, [some (.inr (.inr 2))], []) :: K) σ = (zEv true ((85, 0, [some (.inr (.inr 2))], []) :: K) (sI σ 2 2 (w32 ((gI σ 2 2) + 1)))) :=
  yI_aload_n zi_85_53 rfl <| yI_dup_r zi_85_54 <| yI_gf_i (v := gI σ 2 2) zi_85_55 zk_2 rfl <| yI_iconst zi_85_58 <| yI_iadd zi_85_59 <| yI_pf_i zi_85_60 zk_2 <| yI_goto zi_85_63 <| rfl
theorem zr_85_74 {K : List zF} {σ : zW} {o0 : Option zV} {v : Int} : zRet true ((85, 74, [o0], []) :: K) (some (.inl v)) σ = (zRet true K (some (.inl v)) σ) :=
  yT_rt (yI_ireturn zi_85_74)
/-- 86 Treegrab$Tape.fail(II)Z -/
theorem zi_86_0 : zraw 86 0 = some (.aload_n 0, 1) ∧ 0 + 1 = 1 := by decide +kernel
theorem zi_86_1 : zraw 86 1 = some (.iload_n 1, 1) ∧ 1 + 1 = 2 := by decide +kernel
theorem zi_86_2 : zraw 86 2 = some (.putfield 22, 3) ∧ zft (zinf 86).1 22 = some (7, 3, 0, false) ∧ 2 + 3 = 5 := by decide +kernel
theorem zi_86_5 : zraw 86 5 = some (.aload_n 0, 1) ∧ 5 + 1 = 6 := by decide +kernel
theorem zi_86_6 : zraw 86 6 = some (.iload_n 2, 1) ∧ 6 + 1 = 7 := by decide +kernel
theorem zi_86_7 : zraw 86 7 = some (.putfield 25, 3) ∧ zft (zinf 86).1 25 = some (7, 4, 0, false) ∧ 7 + 3 = 10 := by decide +kernel
theorem zi_86_10 : zraw 86 10 = some (.iconst 0, 1) ∧ zin 128 0 = true ∧ 10 + 1 = 11 := by decide +kernel
theorem zi_86_11 : zraw 86 11 = some (.ireturn, 1) ∧ (zinf 86).2.2.2.1 = 2 := by decide +kernel
theorem ze_86 {K : List zF} {σ : zW} {x1 : Int} {x2 : Int} : zEv true (zent 86 [.inr (.inr 2), .inl x1, .inl x2] :: K) σ = (zRet true K (some (.inl 0)) (sI (sI σ 2 3 x1) 2 4 x2)) :=
  yT_en (f := (86, 0, [some (.inr (.inr 2)), some (.inl x1), some (.inl x2)], [])) rfl (yI_aload_n zi_86_0 rfl <| yI_iload_n zi_86_1 rfl <| yI_pf_i zi_86_2 zk_2 <| yI_aload_n zi_86_5 rfl <| yI_iload_n zi_86_6 rfl <| yI_pf_i zi_86_7 zk_2 <| yI_iconst zi_86_10 <| yI_zreturn zi_86_11 (by decide))
/-- 87 Treegrab$Tape.wordLength()I -/
theorem zi_87_0 : zraw 87 0 = some (.aload_n 0, 1) ∧ 0 + 1 = 1 := by decide +kernel
theorem zi_87_1 : zraw 87 1 = some (.aload_n 0, 1) ∧ 1 + 1 = 2 := by decide +kernel
theorem zi_87_2 : zraw 87 2 = some (.getfield 19, 3) ∧ zft (zinf 87).1 19 = some (7, 2, 0, false) ∧ 2 + 3 = 5 := by decide +kernel
theorem zi_87_5 : zraw 87 5 = some (.invokevirtual 28, 3) ∧ zmt (zinf 87).1 28 = some 84 ∧ Nat.ble 9000 84 = false ∧ zinf 84 = (7, 2, 2, 1, 0) ∧ 5 + 3 = 8 := by decide +kernel
theorem zi_87_8 : zraw 87 8 = some (.invokestatic 32, 3) ∧ zmt (zinf 87).1 32 = some 136 ∧ Nat.ble 9000 136 = false ∧ zinf 136 = (9, 1, 1, 2, 1) ∧ 8 + 3 = 11 := by decide +kernel
theorem zi_87_11 : zraw 87 11 = some (.ifCond .ne 5, 3) ∧ ((11 : Nat) : Int) + 5 = Int.ofNat 16 ∧ 11 + 3 = 14 := by decide +kernel
theorem zi_87_14 : zraw 87 14 = some (.iconst 0, 1) ∧ zin 128 0 = true ∧ 14 + 1 = 15 := by decide +kernel
theorem zi_87_15 : zraw 87 15 = some (.ireturn, 1) ∧ (zinf 87).2.2.2.1 = 1 := by decide +kernel
theorem zi_87_16 : zraw 87 16 = some (.aload_n 0, 1) ∧ 16 + 1 = 17 := by decide +kernel
theorem zi_87_17 : zraw 87 17 = some (.getfield 19, 3) ∧ zft (zinf 87).1 19 = some (7, 2, 0, false) ∧ 17 + 3 = 20 := by decide +kernel
theorem zi_87_20 : zraw 87 20 = some (.iconst 1, 1) ∧ zin 128 1 = true ∧ 20 + 1 = 21 := by decide +kernel
theorem zi_87_21 : zraw 87 21 = some (.iadd, 1) ∧ 21 + 1 = 22 := by decide +kernel
theorem zi_87_22 : zraw 87 22 = some (.istore_n 1, 1) ∧ 22 + 1 = 23 := by decide +kernel
theorem zi_87_23 : zraw 87 23 = some (.iload_n 1, 1) ∧ 23 + 1 = 24 := by decide +kernel
theorem zi_87_24 : zraw 87 24 = some (.aload_n 0, 1) ∧ 24 + 1 = 25 := by decide +kernel
theorem zi_87_25 : zraw 87 25 = some (.getfield 15, 3) ∧ zft (zinf 87).1 15 = some (7, 1, 0, false) ∧ 25 + 3 = 28 := by decide +kernel
theorem zi_87_28 : zraw 87 28 = some (.if_icmp .ge 33, 3) ∧ ((28 : Nat) : Int) + 33 = Int.ofNat 61 ∧ 28 + 3 = 31 := by decide +kernel
theorem zi_87_31 : zraw 87 31 = some (.aload_n 0, 1) ∧ 31 + 1 = 32 := by decide +kernel
theorem zi_87_32 : zraw 87 32 = some (.getfield 9, 3) ∧ zft (zinf 87).1 9 = some (7, 0, 3, true) ∧ 32 + 3 = 35 := by decide +kernel
theorem zi_87_35 : zraw 87 35 = some (.iload_n 1, 1) ∧ 35 + 1 = 36 := by decide +kernel
theorem zi_87_36 : zraw 87 36 = some (.iaload, 1) ∧ 36 + 1 = 37 := by decide +kernel
theorem zi_87_37 : zraw 87 37 = some (.invokestatic 32, 3) ∧ zmt (zinf 87).1 32 = some 136 ∧ Nat.ble 9000 136 = false ∧ zinf 136 = (9, 1, 1, 2, 1) ∧ 37 + 3 = 40 := by decide +kernel
theorem zi_87_40 : zraw 87 40 = some (.ifCond .ne 15, 3) ∧ ((40 : Nat) : Int) + 15 = Int.ofNat 55 ∧ 40 + 3 = 43 := by decide +kernel
theorem zi_87_43 : zraw 87 43 = some (.aload_n 0, 1) ∧ 43 + 1 = 44 := by decide +kernel
theorem zi_87_44 : zraw 87 44 = some (.getfield 9, 3) ∧ zft (zinf 87).1 9 = some (7, 0, 3, true) ∧ 44 + 3 = 47 := by decide +kernel
theorem zi_87_47 : zraw 87 47 = some (.iload_n 1, 1) ∧ 47 + 1 = 48 := by decide +kernel
theorem zi_87_48 : zraw 87 48 = some (.iaload, 1) ∧ 48 + 1 = 49 := by decide +kernel
theorem zi_87_49 : zraw 87 49 = some (.invokestatic 36, 3) ∧ zmt (zinf 87).1 36 = some 138 ∧ Nat.ble 9000 138 = false ∧ zinf 138 = (9, 1, 1, 2, 1) ∧ 49 + 3 = 52 := by decide +kernel
theorem zi_87_52 : zraw 87 52 = some (.ifCond .eq 9, 3) ∧ ((52 : Nat) : Int) + 9 = Int.ofNat 61 ∧ 52 + 3 = 55 := by decide +kernel
theorem zi_87_55 : zraw 87 55 = some (.iinc 1 1, 3) ∧ zin 32768 1 = true ∧ 55 + 3 = 58 := by decide +kernel
theorem zi_87_58 : zraw 87 58 = some (.goto (-35), 3) ∧ ((58 : Nat) : Int) + (-35) = Int.ofNat 23 := by decide +kernel
theorem zi_87_61 : zraw 87 61 = some (.iload_n 1, 1) ∧ 61 + 1 = 62 := by decide +kernel
theorem zi_87_62 : zraw 87 62 = some (.aload_n 0, 1) ∧ 62 + 1 = 63 := by decide +kernel
theorem zi_87_63 : zraw 87 63 = some (.getfield 19, 3) ∧ zft (zinf 87).1 19 = some (7, 2, 0, false) ∧ 63 + 3 = 66 := by decide +kernel
theorem zi_87_66 : zraw 87 66 = some (.isub, 1) ∧ 66 + 1 = 67 := by decide +kernel
theorem zi_87_67 : zraw 87 67 = some (.ireturn, 1) ∧ (zinf 87).2.2.2.1 = 1 := by decide +kernel
theorem ze_87 {K : List zF} {σ : zW} (hK : K.length < 60) : zEv true (zent 87 [.inr (.inr 2)] :: K) σ = (zEv true (zent 84 [.inr (.inr 2), .inl (gI σ 2 2)] :: (87, 8, [some (.inr (.inr 2)), none], []) :: K) σ) :=
  yT_en (f := (87, 0, [some (.inr (.inr 2)), none], [])) rfl (yI_aload_n zi_87_0 rfl <| yI_aload_n zi_87_1 rfl <| yI_gf_i (v := gI σ 2 2) zi_87_2 zk_2 rfl <| yI_cv zi_87_5 rfl rfl zk_2 hK)
theorem zr_87_8 {K : List zF} {σ : zW} {o1 : Option zV} {v : Int} (hK : K.length < 60) : zRet true ((87, 8, [some (.inr (.inr 2)), o1], []) :: K) (some (.inl v)) σ = (zEv true (zent 136 [.inl v] :: (87, 11, [some (.inr (.inr 2)), o1], []) :: K) σ) :=
  yT_rt (yI_cs zi_87_8 rfl rfl hK)
theorem zr_87_11 {K : List zF} {σ : zW} {o1 : Option zV} {v : Int} : zRet true ((87, 11, [some (.inr (.inr 2)), o1], []) :: K) (some (.inl v)) σ = (if ¬ v = 0 then zEv true ((87, 23, [some (.inr (.inr 2)), some (.inl (w32 ((gI σ 2 2) + 1)))], []) :: K) σ else zRet true K (some (.inl 0)) σ) :=
  yT_rt (yI_if_ne zi_87_11 <| yBr (yI_aload_n zi_87_16 rfl <| yI_gf_i (v := gI σ 2 2) zi_87_17 zk_2 rfl <| yI_iconst zi_87_20 <| yI_iadd zi_87_21 <| yI_istore_n (l := [some (.inr (.inr 2)), some (.inl (w32 ((gI σ 2 2) + 1)))]) zi_87_22 rfl rfl <| rfl) (yI_iconst zi_87_14 <| yI_ireturn zi_87_15))
theorem zj_87_23 {K : List zF} {σ : zW} {x1 : Int} (hK : K.length < 60) : zEv true ((87, 23, [some (.inr (.inr 2)), some (.inl x1)], []) :: K) σ = (if (gI σ 2 1) ≤ x1 then zEv true ((87, 61, [some (.inr (.inr 2)), some (.inl x1)], []) :: K) σ else (0 ≤ x1 ∧ x1 < 600) ∧ zEv true (zent 136 [.inl (gI σ 3 x1.toNat)] :: (87, 40, [some (.inr (.inr 2)), some (.inl x1)], []) :: K) σ) :=
  yI_iload_n zi_87_23 rfl <| yI_aload_n zi_87_24 rfl <| yI_gf_i (v := gI σ 2 1) zi_87_25 zk_2 rfl <| yI_ic_ge zi_87_28 <| yBr (rfl) (yI_aload_n zi_87_31 rfl <| yI_gf_f (v := 3) zi_87_32 zk_2 rfl <| yI_iload_n zi_87_35 rfl <| yI_ialoadc (v := gI σ 3 x1.toNat) zi_87_36 za_3 rfl <| yI_cs zi_87_37 rfl rfl hK)
theorem zj_87_61 {K : List zF} {σ : zW} {x1 : Int} : zEv true ((87, 61, [some (.inr (.inr 2)), some (.inl x1)], []) :: K) σ = (zRet true K (some (.inl (w32 (x1 - (gI σ 2 2))))) σ) :=
  yI_iload_n zi_87_61 rfl <| yI_aload_n zi_87_62 rfl <| yI_gf_i (v := gI σ 2 2) zi_87_63 zk_2 rfl <| yI_isub zi_87_66 <| yI_ireturn zi_87_67
theorem zr_87_40 {K : List zF} {σ : zW} {x1 : Int} {v : Int} (hK : K.length < 60) : zRet true ((87, 40, [some (.inr (.inr 2)), some (.inl x1)], []) :: K) (some (.inl v)) σ = (if ¬ v = 0 then zEv true ((87, 23, [some (.inr (.inr 2)), some (.inl (w32 (x1 + 1)))], []) :: K) σ else (0 ≤ x1 ∧ x1 < 600) ∧ zEv true (zent 138 [.inl (gI σ 3 x1.toNat)] :: (87, 52, [some (.inr (.inr 2)), some (.inl x1)], []) :: K) σ) :=
  yT_rt (yI_if_ne zi_87_40 <| yBr (yI_iinc (l := [some (.inr (.inr 2)), some (.inl (w32 (x1 + 1)))]) zi_87_55 rfl rfl rfl <| yI_goto zi_87_58 <| rfl) (yI_aload_n zi_87_43 rfl <| yI_gf_f (v := 3) zi_87_44 zk_2 rfl <| yI_iload_n zi_87_47 rfl <| yI_ialoadc (v := gI σ 3 x1.toNat) zi_87_48 za_3 rfl <| yI_cs zi_87_49 rfl rfl hK))
theorem zr_87_52 {K : List zF} {σ : zW} {x1 : Int} {v : Int} : zRet true ((87, 52, [some (.inr (.inr 2)), some (.inl x1)], []) :: K) (some (.inl v)) σ = (if v = 0 then zEv true ((87, 61, [some (.inr (.inr 2)), some (.inl x1)], []) :: K) σ else zEv true ((87, 23, [some (.inr (.inr 2)), some (.inl (w32 (x1 + 1)))], []) :: K) σ) :=
  yT_rt (yI_if_eq zi_87_52 <| yBr (rfl) (yI_iinc (l := [some (.inr (.inr 2)), some (.inl (w32 (x1 + 1)))]) zi_87_55 rfl rfl rfl <| yI_goto zi_87_58 <| rfl))
/-- 88 Treegrab$Tape.packed(II)J -/
theorem zi_88_0 : zraw 88 0 = some (.lconst 0, 1) ∧ (bif Nat.beq (0 : Fin 2).val 0 then (0 : Int64) else 1) = 0 ∧ 0 + 1 = 1 := by decide +kernel
theorem zi_88_1 : zraw 88 1 = some (.lstore_n 3, 1) ∧ 1 + 1 = 2 := by decide +kernel
theorem zi_88_2 : zraw 88 2 = some (.iconst 0, 1) ∧ zin 128 0 = true ∧ 2 + 1 = 3 := by decide +kernel
theorem zi_88_3 : zraw 88 3 = some (.istore 5, 2) ∧ 3 + 2 = 5 := by decide +kernel
theorem zi_88_5 : zraw 88 5 = some (.iload 5, 2) ∧ 5 + 2 = 7 := by decide +kernel
theorem zi_88_7 : zraw 88 7 = some (.iload_n 2, 1) ∧ 7 + 1 = 8 := by decide +kernel
theorem zi_88_8 : zraw 88 8 = some (.if_icmp .ge 38, 3) ∧ ((8 : Nat) : Int) + 38 = Int.ofNat 46 ∧ 8 + 3 = 11 := by decide +kernel
theorem zi_88_11 : zraw 88 11 = some (.iload 5, 2) ∧ 11 + 2 = 13 := by decide +kernel
theorem zi_88_13 : zraw 88 13 = some (.bipush 6, 2) ∧ zin 128 6 = true ∧ 13 + 2 = 15 := by decide +kernel
theorem zi_88_15 : zraw 88 15 = some (.if_icmp .ge 31, 3) ∧ ((15 : Nat) : Int) + 31 = Int.ofNat 46 ∧ 15 + 3 = 18 := by decide +kernel
theorem zi_88_18 : zraw 88 18 = some (.lload_n 3, 1) ∧ 18 + 1 = 19 := by decide +kernel
theorem zi_88_19 : zraw 88 19 = some (.aload_n 0, 1) ∧ 19 + 1 = 20 := by decide +kernel
theorem zi_88_20 : zraw 88 20 = some (.iload_n 1, 1) ∧ 20 + 1 = 21 := by decide +kernel
theorem zi_88_21 : zraw 88 21 = some (.iload 5, 2) ∧ 21 + 2 = 23 := by decide +kernel
theorem zi_88_23 : zraw 88 23 = some (.iadd, 1) ∧ 23 + 1 = 24 := by decide +kernel
theorem zi_88_24 : zraw 88 24 = some (.invokevirtual 28, 3) ∧ zmt (zinf 88).1 28 = some 84 ∧ Nat.ble 9000 84 = false ∧ zinf 84 = (7, 2, 2, 1, 0) ∧ 24 + 3 = 27 := by decide +kernel
theorem zi_88_27 : zraw 88 27 = some (.sipush 255, 3) ∧ zin 32768 255 = true ∧ 27 + 3 = 30 := by decide +kernel
theorem zi_88_30 : zraw 88 30 = some (.iand, 1) ∧ 30 + 1 = 31 := by decide +kernel
theorem zi_88_31 : zraw 88 31 = some (.i2l, 1) ∧ 31 + 1 = 32 := by decide +kernel
theorem zi_88_32 : zraw 88 32 = some (.bipush 8, 2) ∧ zin 128 8 = true ∧ 32 + 2 = 34 := by decide +kernel
theorem zi_88_34 : zraw 88 34 = some (.iload 5, 2) ∧ 34 + 2 = 36 := by decide +kernel
theorem zi_88_36 : zraw 88 36 = some (.imul, 1) ∧ 36 + 1 = 37 := by decide +kernel
theorem zi_88_37 : zraw 88 37 = some (.lshl, 1) ∧ 37 + 1 = 38 := by decide +kernel
theorem zi_88_38 : zraw 88 38 = some (.lor, 1) ∧ 38 + 1 = 39 := by decide +kernel
theorem zi_88_39 : zraw 88 39 = some (.lstore_n 3, 1) ∧ 39 + 1 = 40 := by decide +kernel
theorem zi_88_40 : zraw 88 40 = some (.iinc 5 1, 3) ∧ zin 32768 1 = true ∧ 40 + 3 = 43 := by decide +kernel
theorem zi_88_43 : zraw 88 43 = some (.goto (-38), 3) ∧ ((43 : Nat) : Int) + (-38) = Int.ofNat 5 := by decide +kernel
theorem zi_88_46 : zraw 88 46 = some (.lload_n 3, 1) ∧ 46 + 1 = 47 := by decide +kernel
theorem zi_88_47 : zraw 88 47 = some (.lreturn, 1) ∧ (zinf 88).2.2.2.1 = 3 := by decide +kernel
theorem ze_88 {K : List zF} {σ : zW} {x1 : Int} {x2 : Int} : zEv true (zent 88 [.inr (.inr 2), .inl x1, .inl x2] :: K) σ = (zEv true ((88, 5, [some (.inr (.inr 2)), some (.inl x1), some (.inl x2), some (.inr (.inl 0)), none, some (.inl 0)], []) :: K) σ) :=
  yT_en (f := (88, 0, [some (.inr (.inr 2)), some (.inl x1), some (.inl x2), none, none, none], [])) rfl (yI_lconst zi_88_0 <| yI_lstore_n (l := [some (.inr (.inr 2)), some (.inl x1), some (.inl x2), some (.inr (.inl 0)), none, none]) zi_88_1 rfl rfl <| yI_iconst zi_88_2 <| yI_istore (l := [some (.inr (.inr 2)), some (.inl x1), some (.inl x2), some (.inr (.inl 0)), none, some (.inl 0)]) zi_88_3 rfl rfl <| rfl)
theorem zj_88_5 {K : List zF} {σ : zW} {x1 : Int} {x2 : Int} {x3 : Int64} {x5 : Int} (hK : K.length < 60) : zEv true ((88, 5, [some (.inr (.inr 2)), some (.inl x1), some (.inl x2), some (.inr (.inl x3)), none, some (.inl x5)], []) :: K) σ = (if x2 ≤ x5 then zRet true K (some (.inr (.inl x3))) σ else if 6 ≤ x5 then zRet true K (some (.inr (.inl x3))) σ else zEv true (zent 84 [.inr (.inr 2), .inl (w32 (x1 + x5))] :: (88, 27, [some (.inr (.inr 2)), some (.inl x1), some (.inl x2), some (.inr (.inl x3)), none, some (.inl x5)], [.inr (.inl x3)]) :: K) σ) :=
  yI_iload zi_88_5 rfl <| yI_iload_n zi_88_7 rfl <| yI_ic_ge zi_88_8 <| yBr (yI_lload_n zi_88_46 rfl <| yI_lreturn zi_88_47) (yI_iload zi_88_11 rfl <| yI_bipush zi_88_13 <| yI_ic_ge zi_88_15 <| yBr (yI_lload_n zi_88_46 rfl <| yI_lreturn zi_88_47) (yI_lload_n zi_88_18 rfl <| yI_aload_n zi_88_19 rfl <| yI_iload_n zi_88_20 rfl <| yI_iload zi_88_21 rfl <| yI_iadd zi_88_23 <| yI_cv zi_88_24 rfl rfl zk_2 hK))
theorem zr_88_27 {K : List zF} {σ : zW} {x1 : Int} {x2 : Int} {o3 : Option zV} {o4 : Option zV} {x5 : Int} {s0 : Int64} {v : Int} : zRet true ((88, 27, [some (.inr (.inr 2)), some (.inl x1), some (.inl x2), o3, o4, some (.inl x5)], [.inr (.inl s0)]) :: K) (some (.inl v)) σ = (zEv true ((88, 5, [some (.inr (.inr 2)), some (.inl x1), some (.inl x2), some (.inr (.inl (s0 ||| (zlshl (zi2l (zand v 255)) (w32 (8 * x5)))))), none, some (.inl (w32 (x5 + 1)))], []) :: K) σ) :=
  yT_rt (yI_sipush zi_88_27 <| yI_iand zi_88_30 <| yI_i2l zi_88_31 <| yI_bipush zi_88_32 <| yI_iload zi_88_34 rfl <| yI_imul zi_88_36 <| yI_lshl zi_88_37 <| yI_lor zi_88_38 <| yI_lstore_n (l := [some (.inr (.inr 2)), some (.inl x1), some (.inl x2), some (.inr (.inl (s0 ||| (zlshl (zi2l (zand v 255)) (w32 (8 * x5)))))), none, some (.inl x5)]) zi_88_39 rfl rfl <| yI_iinc (l := [some (.inr (.inr 2)), some (.inl x1), some (.inl x2), some (.inr (.inl (s0 ||| (zlshl (zi2l (zand v 255)) (w32 (8 * x5)))))), none, some (.inl (w32 (x5 + 1)))]) zi_88_40 rfl rfl rfl <| yI_goto zi_88_43 <| rfl)
/-- 89 Treegrab$Tape.readLabel()J -/
theorem zi_89_0 : zraw 89 0 = some (.aload_n 0, 1) ∧ 0 + 1 = 1 := by decide +kernel
theorem zi_89_1 : zraw 89 1 = some (.invokevirtual 39, 3) ∧ zmt (zinf 89).1 39 = some 85 ∧ Nat.ble 9000 85 = false ∧ zinf 85 = (7, 1, 1, 1, 0) ∧ 1 + 3 = 4 := by decide +kernel
theorem zi_89_4 : zraw 89 4 = some (.pop, 1) ∧ 4 + 1 = 5 := by decide +kernel
theorem zi_89_5 : zraw 89 5 = some (.aload_n 0, 1) ∧ 5 + 1 = 6 := by decide +kernel
theorem zi_89_6 : zraw 89 6 = some (.invokevirtual 43, 3) ∧ zmt (zinf 89).1 43 = some 87 ∧ Nat.ble 9000 87 = false ∧ zinf 87 = (7, 1, 2, 1, 0) ∧ 6 + 3 = 9 := by decide +kernel
theorem zi_89_9 : zraw 89 9 = some (.istore_n 1, 1) ∧ 9 + 1 = 10 := by decide +kernel
theorem zi_89_10 : zraw 89 10 = some (.iload_n 1, 1) ∧ 10 + 1 = 11 := by decide +kernel
theorem zi_89_11 : zraw 89 11 = some (.ifCond .eq 9, 3) ∧ ((11 : Nat) : Int) + 9 = Int.ofNat 20 ∧ 11 + 3 = 14 := by decide +kernel
theorem zi_89_14 : zraw 89 14 = some (.iload_n 1, 1) ∧ 14 + 1 = 15 := by decide +kernel
theorem zi_89_15 : zraw 89 15 = some (.bipush 6, 2) ∧ zin 128 6 = true ∧ 15 + 2 = 17 := by decide +kernel
theorem zi_89_17 : zraw 89 17 = some (.if_icmp .le 23, 3) ∧ ((17 : Nat) : Int) + 23 = Int.ofNat 40 ∧ 17 + 3 = 20 := by decide +kernel
theorem zi_89_20 : zraw 89 20 = some (.aload_n 0, 1) ∧ 20 + 1 = 21 := by decide +kernel
theorem zi_89_21 : zraw 89 21 = some (.iload_n 1, 1) ∧ 21 + 1 = 22 := by decide +kernel
theorem zi_89_22 : zraw 89 22 = some (.ifCond .ne 7, 3) ∧ ((22 : Nat) : Int) + 7 = Int.ofNat 29 ∧ 22 + 3 = 25 := by decide +kernel
theorem zi_89_25 : zraw 89 25 = some (.iconst 1, 1) ∧ zin 128 1 = true ∧ 25 + 1 = 26 := by decide +kernel
theorem zi_89_26 : zraw 89 26 = some (.goto 4, 3) ∧ ((26 : Nat) : Int) + 4 = Int.ofNat 30 := by decide +kernel
theorem zi_89_29 : zraw 89 29 = some (.iconst 2, 1) ∧ zin 128 2 = true ∧ 29 + 1 = 30 := by decide +kernel
theorem zi_89_30 : zraw 89 30 = some (.aload_n 0, 1) ∧ 30 + 1 = 31 := by decide +kernel
theorem zi_89_31 : zraw 89 31 = some (.getfield 19, 3) ∧ zft (zinf 89).1 19 = some (7, 2, 0, false) ∧ 31 + 3 = 34 := by decide +kernel
theorem zi_89_34 : zraw 89 34 = some (.invokevirtual 46, 3) ∧ zmt (zinf 89).1 46 = some 86 ∧ Nat.ble 9000 86 = false ∧ zinf 86 = (7, 3, 3, 2, 0) ∧ 34 + 3 = 37 := by decide +kernel
theorem zi_89_37 : zraw 89 37 = some (.pop, 1) ∧ 37 + 1 = 38 := by decide +kernel
theorem zi_89_38 : zraw 89 38 = some (.lconst 0, 1) ∧ (bif Nat.beq (0 : Fin 2).val 0 then (0 : Int64) else 1) = 0 ∧ 38 + 1 = 39 := by decide +kernel
theorem zi_89_39 : zraw 89 39 = some (.lreturn, 1) ∧ (zinf 89).2.2.2.1 = 3 := by decide +kernel
theorem zi_89_40 : zraw 89 40 = some (.aload_n 0, 1) ∧ 40 + 1 = 41 := by decide +kernel
theorem zi_89_41 : zraw 89 41 = some (.aload_n 0, 1) ∧ 41 + 1 = 42 := by decide +kernel
theorem zi_89_42 : zraw 89 42 = some (.getfield 19, 3) ∧ zft (zinf 89).1 19 = some (7, 2, 0, false) ∧ 42 + 3 = 45 := by decide +kernel
theorem zi_89_45 : zraw 89 45 = some (.iload_n 1, 1) ∧ 45 + 1 = 46 := by decide +kernel
theorem zi_89_46 : zraw 89 46 = some (.invokevirtual 50, 3) ∧ zmt (zinf 89).1 50 = some 88 ∧ Nat.ble 9000 88 = false ∧ zinf 88 = (7, 3, 6, 3, 0) ∧ 46 + 3 = 49 := by decide +kernel
theorem zi_89_49 : zraw 89 49 = some (.lstore_n 2, 1) ∧ 49 + 1 = 50 := by decide +kernel
theorem zi_89_50 : zraw 89 50 = some (.aload_n 0, 1) ∧ 50 + 1 = 51 := by decide +kernel
theorem zi_89_51 : zraw 89 51 = some (.dup, 1) ∧ 51 + 1 = 52 := by decide +kernel
theorem zi_89_52 : zraw 89 52 = some (.getfield 19, 3) ∧ zft (zinf 89).1 19 = some (7, 2, 0, false) ∧ 52 + 3 = 55 := by decide +kernel
theorem zi_89_55 : zraw 89 55 = some (.iload_n 1, 1) ∧ 55 + 1 = 56 := by decide +kernel
theorem zi_89_56 : zraw 89 56 = some (.iadd, 1) ∧ 56 + 1 = 57 := by decide +kernel
theorem zi_89_57 : zraw 89 57 = some (.putfield 19, 3) ∧ zft (zinf 89).1 19 = some (7, 2, 0, false) ∧ 57 + 3 = 60 := by decide +kernel
theorem zi_89_60 : zraw 89 60 = some (.lload_n 2, 1) ∧ 60 + 1 = 61 := by decide +kernel
theorem zi_89_61 : zraw 89 61 = some (.lreturn, 1) ∧ (zinf 89).2.2.2.1 = 3 := by decide +kernel
theorem ze_89 {K : List zF} {σ : zW} (hK : K.length < 60) : zEv true (zent 89 [.inr (.inr 2)] :: K) σ = (zEv true (zent 85 [.inr (.inr 2)] :: (89, 4, [some (.inr (.inr 2)), none, none, none], []) :: K) σ) :=
  yT_en (f := (89, 0, [some (.inr (.inr 2)), none, none, none], [])) rfl (yI_aload_n zi_89_0 rfl <| yI_cv zi_89_1 rfl rfl zk_2 hK)
theorem zr_89_4 {K : List zF} {σ : zW} {o1 : Option zV} {o2 : Option zV} {o3 : Option zV} {v : Int} (hK : K.length < 60) : zRet true ((89, 4, [some (.inr (.inr 2)), o1, o2, o3], []) :: K) (some (.inl v)) σ = (zEv true (zent 87 [.inr (.inr 2)] :: (89, 9, [some (.inr (.inr 2)), o1, o2, o3], []) :: K) σ) :=
  yT_rt (yI_pop_i zi_89_4 <| yI_aload_n zi_89_5 rfl <| yI_cv zi_89_6 rfl rfl zk_2 hK)
theorem zr_89_9 {K : List zF} {σ : zW} {o1 : Option zV} {o2 : Option zV} {o3 : Option zV} {v : Int} (hK : K.length < 60) : zRet true ((89, 9, [some (.inr (.inr 2)), o1, o2, o3], []) :: K) (some (.inl v)) σ = (if v = 0 then zEv true ((89, 20, [some (.inr (.inr 2)), some (.inl v), o2, o3], []) :: K) σ else if v ≤ 6 then zEv true (zent 88 [.inr (.inr 2), .inl (gI σ 2 2), .inl v] :: (89, 49, [some (.inr (.inr 2)), some (.inl v), o2, o3], []) :: K) σ else zEv true ((89, 20, [some (.inr (.inr 2)), some (.inl v), o2, o3], []) :: K) σ) :=
  yT_rt (yI_istore_n (l := [some (.inr (.inr 2)), some (.inl v), o2, o3]) zi_89_9 rfl rfl <| yI_iload_n zi_89_10 rfl <| yI_if_eq zi_89_11 <| yBr (rfl) (yI_iload_n zi_89_14 rfl <| yI_bipush zi_89_15 <| yI_ic_le zi_89_17 <| yBr (yI_aload_n zi_89_40 rfl <| yI_aload_n zi_89_41 rfl <| yI_gf_i (v := gI σ 2 2) zi_89_42 zk_2 rfl <| yI_iload_n zi_89_45 rfl <| yI_cv zi_89_46 rfl rfl zk_2 hK) (rfl)))
theorem zj_89_20 {K : List zF} {σ : zW} {x1 : Int} {o2 : Option zV} {o3 : Option zV} (hK : K.length < 60) : zEv true ((89, 20, [some (.inr (.inr 2)), some (.inl x1), o2, o3], []) :: K) σ = (zEv true (zent 86 [.inr (.inr 2), .inl (if ¬ x1 = 0 then 2 else 1 : Int), .inl (gI σ 2 2)] :: (89, 37, [some (.inr (.inr 2)), some (.inl x1), o2, o3], []) :: K) σ) :=
  yI_aload_n zi_89_20 rfl <| yI_iload_n zi_89_21 rfl <| yI_if_ne zi_89_22 <| yMi0 (j := 30) (ls2 := [some (.inr (.inr 2)), some (.inl x1), o2, o3]) (st2 := [.inr (.inr 2)]) (x := 2) (y := 1) (σ2 := σ) (yI_iconst zi_89_29 <| rfl) (yI_iconst zi_89_25 <| yI_goto zi_89_26 <| rfl) <| yI_aload_n zi_89_30 rfl <| yI_gf_i (v := gI σ 2 2) zi_89_31 zk_2 rfl <| yI_cv zi_89_34 rfl rfl zk_2 hK
theorem zr_89_49 {K : List zF} {σ : zW} {x1 : Int} {o2 : Option zV} {o3 : Option zV} {v : Int64} : zRet true ((89, 49, [some (.inr (.inr 2)), some (.inl x1), o2, o3], []) :: K) (some (.inr (.inl v))) σ = (zRet true K (some (.inr (.inl v))) (sI σ 2 2 (w32 ((gI σ 2 2) + x1)))) :=
  yT_rt (yI_lstore_n (l := [some (.inr (.inr 2)), some (.inl x1), some (.inr (.inl v)), none]) zi_89_49 rfl rfl <| yI_aload_n zi_89_50 rfl <| yI_dup_r zi_89_51 <| yI_gf_i (v := gI σ 2 2) zi_89_52 zk_2 rfl <| yI_iload_n zi_89_55 rfl <| yI_iadd zi_89_56 <| yI_pf_i zi_89_57 zk_2 <| yI_lload_n zi_89_60 rfl <| yI_lreturn zi_89_61)
theorem zr_89_37 {K : List zF} {σ : zW} {o0 : Option zV} {o1 : Option zV} {o2 : Option zV} {o3 : Option zV} {v : Int} : zRet true ((89, 37, [o0, o1, o2, o3], []) :: K) (some (.inl v)) σ = (zRet true K (some (.inr (.inl 0))) σ) :=
  yT_rt (yI_pop_i zi_89_37 <| yI_lconst zi_89_38 <| yI_lreturn zi_89_39)
/-- 90 Treegrab$Tape.wholeLabel()J -/
theorem zi_90_0 : zraw 90 0 = some (.aload_n 0, 1) ∧ 0 + 1 = 1 := by decide +kernel
theorem zi_90_1 : zraw 90 1 = some (.iconst 0, 1) ∧ zin 128 0 = true ∧ 1 + 1 = 2 := by decide +kernel
theorem zi_90_2 : zraw 90 2 = some (.putfield 19, 3) ∧ zft (zinf 90).1 19 = some (7, 2, 0, false) ∧ 2 + 3 = 5 := by decide +kernel
theorem zi_90_5 : zraw 90 5 = some (.aload_n 0, 1) ∧ 5 + 1 = 6 := by decide +kernel
theorem zi_90_6 : zraw 90 6 = some (.invokevirtual 43, 3) ∧ zmt (zinf 90).1 43 = some 87 ∧ Nat.ble 9000 87 = false ∧ zinf 87 = (7, 1, 2, 1, 0) ∧ 6 + 3 = 9 := by decide +kernel
theorem zi_90_9 : zraw 90 9 = some (.istore_n 1, 1) ∧ 9 + 1 = 10 := by decide +kernel
theorem zi_90_10 : zraw 90 10 = some (.iload_n 1, 1) ∧ 10 + 1 = 11 := by decide +kernel
theorem zi_90_11 : zraw 90 11 = some (.aload_n 0, 1) ∧ 11 + 1 = 12 := by decide +kernel
theorem zi_90_12 : zraw 90 12 = some (.getfield 15, 3) ∧ zft (zinf 90).1 15 = some (7, 1, 0, false) ∧ 12 + 3 = 15 := by decide +kernel
theorem zi_90_15 : zraw 90 15 = some (.if_icmp .ne 18, 3) ∧ ((15 : Nat) : Int) + 18 = Int.ofNat 33 ∧ 15 + 3 = 18 := by decide +kernel
theorem zi_90_18 : zraw 90 18 = some (.iload_n 1, 1) ∧ 18 + 1 = 19 := by decide +kernel
theorem zi_90_19 : zraw 90 19 = some (.bipush 6, 2) ∧ zin 128 6 = true ∧ 19 + 2 = 21 := by decide +kernel
theorem zi_90_21 : zraw 90 21 = some (.if_icmp .gt 12, 3) ∧ ((21 : Nat) : Int) + 12 = Int.ofNat 33 ∧ 21 + 3 = 24 := by decide +kernel
theorem zi_90_24 : zraw 90 24 = some (.aload_n 0, 1) ∧ 24 + 1 = 25 := by decide +kernel
theorem zi_90_25 : zraw 90 25 = some (.iconst 0, 1) ∧ zin 128 0 = true ∧ 25 + 1 = 26 := by decide +kernel
theorem zi_90_26 : zraw 90 26 = some (.iload_n 1, 1) ∧ 26 + 1 = 27 := by decide +kernel
theorem zi_90_27 : zraw 90 27 = some (.invokevirtual 50, 3) ∧ zmt (zinf 90).1 50 = some 88 ∧ Nat.ble 9000 88 = false ∧ zinf 88 = (7, 3, 6, 3, 0) ∧ 27 + 3 = 30 := by decide +kernel
theorem zi_90_30 : zraw 90 30 = some (.goto 4, 3) ∧ ((30 : Nat) : Int) + 4 = Int.ofNat 34 := by decide +kernel
theorem zi_90_33 : zraw 90 33 = some (.lconst 0, 1) ∧ (bif Nat.beq (0 : Fin 2).val 0 then (0 : Int64) else 1) = 0 ∧ 33 + 1 = 34 := by decide +kernel
theorem zi_90_34 : zraw 90 34 = some (.lreturn, 1) ∧ (zinf 90).2.2.2.1 = 3 := by decide +kernel
theorem ze_90 {K : List zF} {σ : zW} (hK : K.length < 60) : zEv true (zent 90 [.inr (.inr 2)] :: K) σ = (zEv true (zent 87 [.inr (.inr 2)] :: (90, 9, [some (.inr (.inr 2)), none], []) :: K) (sI σ 2 2 0)) :=
  yT_en (f := (90, 0, [some (.inr (.inr 2)), none], [])) rfl (yI_aload_n zi_90_0 rfl <| yI_iconst zi_90_1 <| yI_pf_i zi_90_2 zk_2 <| yI_aload_n zi_90_5 rfl <| yI_cv zi_90_6 rfl rfl zk_2 hK)
theorem zr_90_9 {K : List zF} {σ : zW} {o1 : Option zV} {v : Int} (hK : K.length < 60) : zRet true ((90, 9, [some (.inr (.inr 2)), o1], []) :: K) (some (.inl v)) σ = (if ¬ v = (gI σ 2 1) then zEv true ((90, 33, [some (.inr (.inr 2)), some (.inl v)], []) :: K) σ else if 6 < v then zEv true ((90, 33, [some (.inr (.inr 2)), some (.inl v)], []) :: K) σ else zEv true (zent 88 [.inr (.inr 2), .inl 0, .inl v] :: (90, 30, [some (.inr (.inr 2)), some (.inl v)], []) :: K) σ) :=
  yT_rt (yI_istore_n (l := [some (.inr (.inr 2)), some (.inl v)]) zi_90_9 rfl rfl <| yI_iload_n zi_90_10 rfl <| yI_aload_n zi_90_11 rfl <| yI_gf_i (v := gI σ 2 1) zi_90_12 zk_2 rfl <| yI_ic_ne zi_90_15 <| yBr (rfl) (yI_iload_n zi_90_18 rfl <| yI_bipush zi_90_19 <| yI_ic_gt zi_90_21 <| yBr (rfl) (yI_aload_n zi_90_24 rfl <| yI_iconst zi_90_25 <| yI_iload_n zi_90_26 rfl <| yI_cv zi_90_27 rfl rfl zk_2 hK)))
theorem zj_90_33 {K : List zF} {σ : zW} {o0 : Option zV} {o1 : Option zV} : zEv true ((90, 33, [o0, o1], []) :: K) σ = (zRet true K (some (.inr (.inl 0))) σ) :=
  yI_lconst zi_90_33 <| yI_lreturn zi_90_34
theorem zr_90_30 {K : List zF} {σ : zW} {o0 : Option zV} {o1 : Option zV} {v : Int64} : zRet true ((90, 30, [o0, o1], []) :: K) (some (.inr (.inl v))) σ = (zRet true K (some (.inr (.inl v))) σ) :=
  yT_rt (yI_goto zi_90_30 <| yI_lreturn zi_90_34)
/-- 91 Treegrab$Tape.spells(Ljava/lang/String;)Z -/
theorem zi_91_0 : zraw 91 0 = some (.aload_n 0, 1) ∧ 0 + 1 = 1 := by decide +kernel
theorem zi_91_1 : zraw 91 1 = some (.invokevirtual 43, 3) ∧ zmt (zinf 91).1 43 = some 87 ∧ Nat.ble 9000 87 = false ∧ zinf 87 = (7, 1, 2, 1, 0) ∧ 1 + 3 = 4 := by decide +kernel
theorem zi_91_4 : zraw 91 4 = some (.aload_n 1, 1) ∧ 4 + 1 = 5 := by decide +kernel
theorem zi_91_5 : zraw 91 5 = some (.invokevirtual 54, 3) ∧ zmt (zinf 91).1 54 = some 9002 ∧ 5 + 3 = 8 := by decide +kernel
theorem zi_91_8 : zraw 91 8 = some (.if_icmp .eq 5, 3) ∧ ((8 : Nat) : Int) + 5 = Int.ofNat 13 ∧ 8 + 3 = 11 := by decide +kernel
theorem zi_91_11 : zraw 91 11 = some (.iconst 0, 1) ∧ zin 128 0 = true ∧ 11 + 1 = 12 := by decide +kernel
theorem zi_91_12 : zraw 91 12 = some (.ireturn, 1) ∧ (zinf 91).2.2.2.1 = 2 := by decide +kernel
theorem zi_91_13 : zraw 91 13 = some (.iconst 0, 1) ∧ zin 128 0 = true ∧ 13 + 1 = 14 := by decide +kernel
theorem zi_91_14 : zraw 91 14 = some (.istore_n 2, 1) ∧ 14 + 1 = 15 := by decide +kernel
theorem zi_91_15 : zraw 91 15 = some (.iload_n 2, 1) ∧ 15 + 1 = 16 := by decide +kernel
theorem zi_91_16 : zraw 91 16 = some (.aload_n 1, 1) ∧ 16 + 1 = 17 := by decide +kernel
theorem zi_91_17 : zraw 91 17 = some (.invokevirtual 54, 3) ∧ zmt (zinf 91).1 54 = some 9002 ∧ 17 + 3 = 20 := by decide +kernel
theorem zi_91_20 : zraw 91 20 = some (.if_icmp .ge 29, 3) ∧ ((20 : Nat) : Int) + 29 = Int.ofNat 49 ∧ 20 + 3 = 23 := by decide +kernel
theorem zi_91_23 : zraw 91 23 = some (.aload_n 0, 1) ∧ 23 + 1 = 24 := by decide +kernel
theorem zi_91_24 : zraw 91 24 = some (.aload_n 0, 1) ∧ 24 + 1 = 25 := by decide +kernel
theorem zi_91_25 : zraw 91 25 = some (.getfield 19, 3) ∧ zft (zinf 91).1 19 = some (7, 2, 0, false) ∧ 25 + 3 = 28 := by decide +kernel
theorem zi_91_28 : zraw 91 28 = some (.iload_n 2, 1) ∧ 28 + 1 = 29 := by decide +kernel
theorem zi_91_29 : zraw 91 29 = some (.iadd, 1) ∧ 29 + 1 = 30 := by decide +kernel
theorem zi_91_30 : zraw 91 30 = some (.invokevirtual 28, 3) ∧ zmt (zinf 91).1 28 = some 84 ∧ Nat.ble 9000 84 = false ∧ zinf 84 = (7, 2, 2, 1, 0) ∧ 30 + 3 = 33 := by decide +kernel
theorem zi_91_33 : zraw 91 33 = some (.aload_n 1, 1) ∧ 33 + 1 = 34 := by decide +kernel
theorem zi_91_34 : zraw 91 34 = some (.iload_n 2, 1) ∧ 34 + 1 = 35 := by decide +kernel
theorem zi_91_35 : zraw 91 35 = some (.invokevirtual 58, 3) ∧ zmt (zinf 91).1 58 = some 9003 ∧ 35 + 3 = 38 := by decide +kernel
theorem zi_91_38 : zraw 91 38 = some (.if_icmp .eq 5, 3) ∧ ((38 : Nat) : Int) + 5 = Int.ofNat 43 ∧ 38 + 3 = 41 := by decide +kernel
theorem zi_91_41 : zraw 91 41 = some (.iconst 0, 1) ∧ zin 128 0 = true ∧ 41 + 1 = 42 := by decide +kernel
theorem zi_91_42 : zraw 91 42 = some (.ireturn, 1) ∧ (zinf 91).2.2.2.1 = 2 := by decide +kernel
theorem zi_91_43 : zraw 91 43 = some (.iinc 2 1, 3) ∧ zin 32768 1 = true ∧ 43 + 3 = 46 := by decide +kernel
theorem zi_91_46 : zraw 91 46 = some (.goto (-31), 3) ∧ ((46 : Nat) : Int) + (-31) = Int.ofNat 15 := by decide +kernel
theorem zi_91_49 : zraw 91 49 = some (.iconst 1, 1) ∧ zin 128 1 = true ∧ 49 + 1 = 50 := by decide +kernel
theorem zi_91_50 : zraw 91 50 = some (.ireturn, 1) ∧ (zinf 91).2.2.2.1 = 2 := by decide +kernel
theorem ze_91 {K : List zF} {σ : zW} {x1 : Nat} (hK : K.length < 60) : zEv true (zent 91 [.inr (.inr 2), .inr (.inr x1)] :: K) σ = (zEv true (zent 87 [.inr (.inr 2)] :: (91, 4, [some (.inr (.inr 2)), some (.inr (.inr x1)), none], []) :: K) σ) :=
  yT_en (f := (91, 0, [some (.inr (.inr 2)), some (.inr (.inr x1)), none], [])) rfl (yI_aload_n zi_91_0 rfl <| yI_cv zi_91_1 rfl rfl zk_2 hK)
theorem zr_91_4 {K : List zF} {σ : zW} {x1 : Nat} {o2 : Option zV} {v : Int} (h1 : zTxx x1) : zRet true ((91, 4, [some (.inr (.inr 2)), some (.inr (.inr x1)), o2], []) :: K) (some (.inl v)) σ = (if v = ((ztx x1).length : Int) then zEv true ((91, 15, [some (.inr (.inr 2)), some (.inr (.inr x1)), some (.inl 0)], []) :: K) σ else zRet true K (some (.inl 0)) σ) :=
  yT_rt (yI_aload_n zi_91_4 rfl <| yI_tln zi_91_5 (zTxx_k h1) rfl <| yI_ic_eq zi_91_8 <| yBr (yI_iconst zi_91_13 <| yI_istore_n (l := [some (.inr (.inr 2)), some (.inr (.inr x1)), some (.inl 0)]) zi_91_14 rfl rfl <| rfl) (yI_iconst zi_91_11 <| yI_zreturn zi_91_12 (by decide)))
theorem zj_91_15 {K : List zF} {σ : zW} {x1 : Nat} {x2 : Int} (hK : K.length < 60) (h1 : zTxx x1) : zEv true ((91, 15, [some (.inr (.inr 2)), some (.inr (.inr x1)), some (.inl x2)], []) :: K) σ = (if ((ztx x1).length : Int) ≤ x2 then zRet true K (some (.inl 1)) σ else zEv true (zent 84 [.inr (.inr 2), .inl (w32 ((gI σ 2 2) + x2))] :: (91, 33, [some (.inr (.inr 2)), some (.inr (.inr x1)), some (.inl x2)], []) :: K) σ) :=
  yI_iload_n zi_91_15 rfl <| yI_aload_n zi_91_16 rfl <| yI_tln zi_91_17 (zTxx_k h1) rfl <| yI_ic_ge zi_91_20 <| yBr (yI_iconst zi_91_49 <| yI_zreturn zi_91_50 (by decide)) (yI_aload_n zi_91_23 rfl <| yI_aload_n zi_91_24 rfl <| yI_gf_i (v := gI σ 2 2) zi_91_25 zk_2 rfl <| yI_iload_n zi_91_28 rfl <| yI_iadd zi_91_29 <| yI_cv zi_91_30 rfl rfl zk_2 hK)
theorem zr_91_33 {K : List zF} {σ : zW} {x1 : Nat} {x2 : Int} {v : Int} (h1 : zTxx x1) : zRet true ((91, 33, [some (.inr (.inr 2)), some (.inr (.inr x1)), some (.inl x2)], []) :: K) (some (.inl v)) σ = ((0 ≤ x2 ∧ x2 < ((ztx x1).length : Int)) ∧ (if v = ((zth 0 (ztx x1) x2.toNat : Nat) : Int) then zEv true ((91, 15, [some (.inr (.inr 2)), some (.inr (.inr x1)), some (.inl (w32 (x2 + 1)))], []) :: K) σ else zRet true K (some (.inl 0)) σ)) :=
  yT_rt (yI_aload_n zi_91_33 rfl <| yI_iload_n zi_91_34 rfl <| yI_tat zi_91_35 (zTxx_k h1) rfl <| yI_ic_eq zi_91_38 <| yBr (yI_iinc (l := [some (.inr (.inr 2)), some (.inr (.inr x1)), some (.inl (w32 (x2 + 1)))]) zi_91_43 rfl rfl rfl <| yI_goto zi_91_46 <| rfl) (yI_iconst zi_91_41 <| yI_zreturn zi_91_42 (by decide)))
/-- 93 Treegrab$Tree.read(LTreegrab$Tape;)Z -/
theorem zi_93_0 : zraw 93 0 = some (.aload_n 1, 1) ∧ 0 + 1 = 1 := by decide +kernel
theorem zi_93_1 : zraw 93 1 = some (.invokevirtual 46, 3) ∧ zmt (zinf 93).1 46 = some 83 ∧ Nat.ble 9000 83 = false ∧ zinf 83 = (7, 1, 1, 0, 0) ∧ 1 + 3 = 4 := by decide +kernel
theorem zi_93_4 : zraw 93 4 = some (.aload_n 0, 1) ∧ 4 + 1 = 5 := by decide +kernel
theorem zi_93_5 : zraw 93 5 = some (.iconst 0, 1) ∧ zin 128 0 = true ∧ 5 + 1 = 6 := by decide +kernel
theorem zi_93_6 : zraw 93 6 = some (.putfield 51, 3) ∧ zft (zinf 93).1 51 = some (8, 12, 0, false) ∧ 6 + 3 = 9 := by decide +kernel
theorem zi_93_9 : zraw 93 9 = some (.iconst 0, 1) ∧ zin 128 0 = true ∧ 9 + 1 = 10 := by decide +kernel
theorem zi_93_10 : zraw 93 10 = some (.istore_n 2, 1) ∧ 10 + 1 = 11 := by decide +kernel
theorem zi_93_11 : zraw 93 11 = some (.iconst 0, 1) ∧ zin 128 0 = true ∧ 11 + 1 = 12 := by decide +kernel
theorem zi_93_12 : zraw 93 12 = some (.istore_n 3, 1) ∧ 12 + 1 = 13 := by decide +kernel
theorem zi_93_13 : zraw 93 13 = some (.iload_n 3, 1) ∧ 13 + 1 = 14 := by decide +kernel
theorem zi_93_14 : zraw 93 14 = some (.sipush 600, 3) ∧ zin 32768 600 = true ∧ 14 + 3 = 17 := by decide +kernel
theorem zi_93_17 : zraw 93 17 = some (.if_icmp .gt 119, 3) ∧ ((17 : Nat) : Int) + 119 = Int.ofNat 136 ∧ 17 + 3 = 20 := by decide +kernel
theorem zi_93_20 : zraw 93 20 = some (.aload_n 1, 1) ∧ 20 + 1 = 21 := by decide +kernel
theorem zi_93_21 : zraw 93 21 = some (.invokevirtual 55, 3) ∧ zmt (zinf 93).1 55 = some 85 ∧ Nat.ble 9000 85 = false ∧ zinf 85 = (7, 1, 1, 1, 0) ∧ 21 + 3 = 24 := by decide +kernel
theorem zi_93_24 : zraw 93 24 = some (.istore 4, 2) ∧ 24 + 2 = 26 := by decide +kernel
theorem zi_93_26 : zraw 93 26 = some (.aload_n 1, 1) ∧ 26 + 1 = 27 := by decide +kernel
theorem zi_93_27 : zraw 93 27 = some (.getfield 59, 3) ∧ zft (zinf 93).1 59 = some (7, 2, 0, false) ∧ 27 + 3 = 30 := by decide +kernel
theorem zi_93_30 : zraw 93 30 = some (.istore 5, 2) ∧ 30 + 2 = 32 := by decide +kernel
theorem zi_93_32 : zraw 93 32 = some (.aload_n 0, 1) ∧ 32 + 1 = 33 := by decide +kernel
theorem zi_93_33 : zraw 93 33 = some (.getfield 51, 3) ∧ zft (zinf 93).1 51 = some (8, 12, 0, false) ∧ 33 + 3 = 36 := by decide +kernel
theorem zi_93_36 : zraw 93 36 = some (.ifCond .le 29, 3) ∧ ((36 : Nat) : Int) + 29 = Int.ofNat 65 ∧ 36 + 3 = 39 := by decide +kernel
theorem zi_93_39 : zraw 93 39 = some (.iload_n 2, 1) ∧ 39 + 1 = 40 := by decide +kernel
theorem zi_93_40 : zraw 93 40 = some (.ifCond .ne 25, 3) ∧ ((40 : Nat) : Int) + 25 = Int.ofNat 65 ∧ 40 + 3 = 43 := by decide +kernel
theorem zi_93_43 : zraw 93 43 = some (.iload 4, 2) ∧ 43 + 2 = 45 := by decide +kernel
theorem zi_93_45 : zraw 93 45 = some (.iconst (-1), 1) ∧ zin 128 (-1) = true ∧ 45 + 1 = 46 := by decide +kernel
theorem zi_93_46 : zraw 93 46 = some (.if_icmp .eq 13, 3) ∧ ((46 : Nat) : Int) + 13 = Int.ofNat 59 ∧ 46 + 3 = 49 := by decide +kernel
theorem zi_93_49 : zraw 93 49 = some (.aload_n 1, 1) ∧ 49 + 1 = 50 := by decide +kernel
theorem zi_93_50 : zraw 93 50 = some (.iconst 1, 1) ∧ zin 128 1 = true ∧ 50 + 1 = 51 := by decide +kernel
theorem zi_93_51 : zraw 93 51 = some (.iload 5, 2) ∧ 51 + 2 = 53 := by decide +kernel
theorem zi_93_53 : zraw 93 53 = some (.invokevirtual 62, 3) ∧ zmt (zinf 93).1 62 = some 86 ∧ Nat.ble 9000 86 = false ∧ zinf 86 = (7, 3, 3, 2, 0) ∧ 53 + 3 = 56 := by decide +kernel
theorem zi_93_56 : zraw 93 56 = some (.ifCond .eq 7, 3) ∧ ((56 : Nat) : Int) + 7 = Int.ofNat 63 ∧ 56 + 3 = 59 := by decide +kernel
theorem zi_93_59 : zraw 93 59 = some (.iconst 1, 1) ∧ zin 128 1 = true ∧ 59 + 1 = 60 := by decide +kernel
theorem zi_93_60 : zraw 93 60 = some (.goto 4, 3) ∧ ((60 : Nat) : Int) + 4 = Int.ofNat 64 := by decide +kernel
theorem zi_93_63 : zraw 93 63 = some (.iconst 0, 1) ∧ zin 128 0 = true ∧ 63 + 1 = 64 := by decide +kernel
theorem zi_93_64 : zraw 93 64 = some (.ireturn, 1) ∧ (zinf 93).2.2.2.1 = 2 := by decide +kernel
theorem zi_93_65 : zraw 93 65 = some (.iload 4, 2) ∧ 65 + 2 = 67 := by decide +kernel
theorem zi_93_67 : zraw 93 67 = some (.bipush 41, 2) ∧ zin 128 41 = true ∧ 67 + 2 = 69 := by decide +kernel
theorem zi_93_69 : zraw 93 69 = some (.if_icmp .ne 23, 3) ∧ ((69 : Nat) : Int) + 23 = Int.ofNat 92 ∧ 69 + 3 = 72 := by decide +kernel
theorem zi_93_72 : zraw 93 72 = some (.iload_n 2, 1) ∧ 72 + 1 = 73 := by decide +kernel
theorem zi_93_73 : zraw 93 73 = some (.ifCond .le 19, 3) ∧ ((73 : Nat) : Int) + 19 = Int.ofNat 92 ∧ 73 + 3 = 76 := by decide +kernel
theorem zi_93_76 : zraw 93 76 = some (.aload_n 1, 1) ∧ 76 + 1 = 77 := by decide +kernel
theorem zi_93_77 : zraw 93 77 = some (.dup, 1) ∧ 77 + 1 = 78 := by decide +kernel
theorem zi_93_78 : zraw 93 78 = some (.getfield 59, 3) ∧ zft (zinf 93).1 59 = some (7, 2, 0, false) ∧ 78 + 3 = 81 := by decide +kernel
theorem zi_93_81 : zraw 93 81 = some (.iconst 1, 1) ∧ zin 128 1 = true ∧ 81 + 1 = 82 := by decide +kernel
theorem zi_93_82 : zraw 93 82 = some (.iadd, 1) ∧ 82 + 1 = 83 := by decide +kernel
theorem zi_93_83 : zraw 93 83 = some (.putfield 59, 3) ∧ zft (zinf 93).1 59 = some (7, 2, 0, false) ∧ 83 + 3 = 86 := by decide +kernel
theorem zi_93_86 : zraw 93 86 = some (.iinc 2 (-1), 3) ∧ zin 32768 (-1) = true ∧ 86 + 3 = 89 := by decide +kernel
theorem zi_93_89 : zraw 93 89 = some (.goto 41, 3) ∧ ((89 : Nat) : Int) + 41 = Int.ofNat 130 := by decide +kernel
theorem zi_93_92 : zraw 93 92 = some (.aload_n 0, 1) ∧ 92 + 1 = 93 := by decide +kernel
theorem zi_93_93 : zraw 93 93 = some (.aload_n 1, 1) ∧ 93 + 1 = 94 := by decide +kernel
theorem zi_93_94 : zraw 93 94 = some (.iload 4, 2) ∧ 94 + 2 = 96 := by decide +kernel
theorem zi_93_96 : zraw 93 96 = some (.bipush 40, 2) ∧ zin 128 40 = true ∧ 96 + 2 = 98 := by decide +kernel
theorem zi_93_98 : zraw 93 98 = some (.if_icmp .ne 7, 3) ∧ ((98 : Nat) : Int) + 7 = Int.ofNat 105 ∧ 98 + 3 = 101 := by decide +kernel
theorem zi_93_101 : zraw 93 101 = some (.iconst 1, 1) ∧ zin 128 1 = true ∧ 101 + 1 = 102 := by decide +kernel
theorem zi_93_102 : zraw 93 102 = some (.goto 4, 3) ∧ ((102 : Nat) : Int) + 4 = Int.ofNat 106 := by decide +kernel
theorem zi_93_105 : zraw 93 105 = some (.iconst 0, 1) ∧ zin 128 0 = true ∧ 105 + 1 = 106 := by decide +kernel
theorem zi_93_106 : zraw 93 106 = some (.iload_n 2, 1) ∧ 106 + 1 = 107 := by decide +kernel
theorem zi_93_107 : zraw 93 107 = some (.invokevirtual 66, 3) ∧ zmt (zinf 93).1 66 = some 94 ∧ Nat.ble 9000 94 = false ∧ zinf 94 = (8, 4, 8, 2, 0) ∧ 107 + 3 = 110 := by decide +kernel
theorem zi_93_110 : zraw 93 110 = some (.ifCond .ne 5, 3) ∧ ((110 : Nat) : Int) + 5 = Int.ofNat 115 ∧ 110 + 3 = 113 := by decide +kernel
theorem zi_93_113 : zraw 93 113 = some (.iconst 0, 1) ∧ zin 128 0 = true ∧ 113 + 1 = 114 := by decide +kernel
theorem zi_93_114 : zraw 93 114 = some (.ireturn, 1) ∧ (zinf 93).2.2.2.1 = 2 := by decide +kernel
theorem zi_93_115 : zraw 93 115 = some (.iload_n 2, 1) ∧ 115 + 1 = 116 := by decide +kernel
theorem zi_93_116 : zraw 93 116 = some (.iload 4, 2) ∧ 116 + 2 = 118 := by decide +kernel
theorem zi_93_118 : zraw 93 118 = some (.bipush 40, 2) ∧ zin 128 40 = true ∧ 118 + 2 = 120 := by decide +kernel
theorem zi_93_120 : zraw 93 120 = some (.if_icmp .ne 7, 3) ∧ ((120 : Nat) : Int) + 7 = Int.ofNat 127 ∧ 120 + 3 = 123 := by decide +kernel
theorem zi_93_123 : zraw 93 123 = some (.iconst 1, 1) ∧ zin 128 1 = true ∧ 123 + 1 = 124 := by decide +kernel
theorem zi_93_124 : zraw 93 124 = some (.goto 4, 3) ∧ ((124 : Nat) : Int) + 4 = Int.ofNat 128 := by decide +kernel
theorem zi_93_127 : zraw 93 127 = some (.iconst 0, 1) ∧ zin 128 0 = true ∧ 127 + 1 = 128 := by decide +kernel
theorem zi_93_128 : zraw 93 128 = some (.iadd, 1) ∧ 128 + 1 = 129 := by decide +kernel
theorem zi_93_129 : zraw 93 129 = some (.istore_n 2, 1) ∧ 129 + 1 = 130 := by decide +kernel
theorem zi_93_130 : zraw 93 130 = some (.iinc 3 1, 3) ∧ zin 32768 1 = true ∧ 130 + 3 = 133 := by decide +kernel
theorem zi_93_133 : zraw 93 133 = some (.goto (-120), 3) ∧ ((133 : Nat) : Int) + (-120) = Int.ofNat 13 := by decide +kernel
theorem zi_93_136 : zraw 93 136 = some (.iconst 0, 1) ∧ zin 128 0 = true ∧ 136 + 1 = 137 := by decide +kernel
theorem zi_93_137 : zraw 93 137 = some (.ireturn, 1) ∧ (zinf 93).2.2.2.1 = 2 := by decide +kernel
theorem ze_93 {K : List zF} {σ : zW} {t : Nat} (hK : K.length < 60) : zEv true (zent 93 [.inr (.inr t), .inr (.inr 2)] :: K) σ = (zEv true (zent 83 [.inr (.inr 2)] :: (93, 4, [some (.inr (.inr t)), some (.inr (.inr 2)), none, none, none, none], []) :: K) σ) :=
  yT_en (f := (93, 0, [some (.inr (.inr t)), some (.inr (.inr 2)), none, none, none, none], [])) rfl (yI_aload_n zi_93_0 rfl <| yI_cv zi_93_1 rfl rfl zk_2 hK)
theorem zr_93_4 {K : List zF} {σ : zW} {x0 : Nat} {o2 : Option zV} {o3 : Option zV} {o4 : Option zV} {o5 : Option zV} (h1 : zTr x0) : zRet true ((93, 4, [some (.inr (.inr x0)), some (.inr (.inr 2)), o2, o3, o4, o5], []) :: K) none σ = (zEv true ((93, 13, [some (.inr (.inr x0)), some (.inr (.inr 2)), some (.inl 0), some (.inl 0), o4, o5], []) :: K) (sI σ x0 12 0)) :=
  yT_rv (yI_aload_n zi_93_4 rfl <| yI_iconst zi_93_5 <| yI_pf_i zi_93_6 (zTr_k h1) <| yI_iconst zi_93_9 <| yI_istore_n (l := [some (.inr (.inr x0)), some (.inr (.inr 2)), some (.inl 0), o3, o4, o5]) zi_93_10 rfl rfl <| yI_iconst zi_93_11 <| yI_istore_n (l := [some (.inr (.inr x0)), some (.inr (.inr 2)), some (.inl 0), some (.inl 0), o4, o5]) zi_93_12 rfl rfl <| rfl)
theorem zj_93_13 {K : List zF} {σ : zW} {x0 : Nat} {x2 : Int} {x3 : Int} {o4 : Option zV} {o5 : Option zV} (hK : K.length < 60) : zEv true ((93, 13, [some (.inr (.inr x0)), some (.inr (.inr 2)), some (.inl x2), some (.inl x3), o4, o5], []) :: K) σ = (if 600 < x3 then zRet true K (some (.inl 0)) σ else zEv true (zent 85 [.inr (.inr 2)] :: (93, 24, [some (.inr (.inr x0)), some (.inr (.inr 2)), some (.inl x2), some (.inl x3), o4, o5], []) :: K) σ) :=
  yI_iload_n zi_93_13 rfl <| yI_sipush zi_93_14 <| yI_ic_gt zi_93_17 <| yBr (yI_iconst zi_93_136 <| yI_zreturn zi_93_137 (by decide)) (yI_aload_n zi_93_20 rfl <| yI_cv zi_93_21 rfl rfl zk_2 hK)
theorem zr_93_24 {K : List zF} {σ : zW} {x0 : Nat} {x2 : Int} {x3 : Int} {o4 : Option zV} {o5 : Option zV} {v : Int} (hK : K.length < 60) (h1 : zTr x0) : zRet true ((93, 24, [some (.inr (.inr x0)), some (.inr (.inr 2)), some (.inl x2), some (.inl x3), o4, o5], []) :: K) (some (.inl v)) σ = (if (gI σ x0 12) ≤ 0 then zEv true ((93, 65, [some (.inr (.inr x0)), some (.inr (.inr 2)), some (.inl x2), some (.inl x3), some (.inl v), some (.inl (gI σ 2 2))], []) :: K) σ else if ¬ x2 = 0 then zEv true ((93, 65, [some (.inr (.inr x0)), some (.inr (.inr 2)), some (.inl x2), some (.inl x3), some (.inl v), some (.inl (gI σ 2 2))], []) :: K) σ else if v = (-1) then zRet true K (some (.inl 1)) σ else zEv true (zent 86 [.inr (.inr 2), .inl 1, .inl (gI σ 2 2)] :: (93, 56, [some (.inr (.inr x0)), some (.inr (.inr 2)), some (.inl x2), some (.inl x3), some (.inl v), some (.inl (gI σ 2 2))], []) :: K) σ) :=
  yT_rt (yI_istore (l := [some (.inr (.inr x0)), some (.inr (.inr 2)), some (.inl x2), some (.inl x3), some (.inl v), o5]) zi_93_24 rfl rfl <| yI_aload_n zi_93_26 rfl <| yI_gf_i (v := gI σ 2 2) zi_93_27 zk_2 rfl <| yI_istore (l := [some (.inr (.inr x0)), some (.inr (.inr 2)), some (.inl x2), some (.inl x3), some (.inl v), some (.inl (gI σ 2 2))]) zi_93_30 rfl rfl <| yI_aload_n zi_93_32 rfl <| yI_gf_i (v := gI σ x0 12) zi_93_33 (zTr_k h1) rfl <| yI_if_le zi_93_36 <| yBr (rfl) (yI_iload_n zi_93_39 rfl <| yI_if_ne zi_93_40 <| yBr (rfl) (yI_iload zi_93_43 rfl <| yI_iconst zi_93_45 <| yI_ic_eq zi_93_46 <| yBr (yI_iconst zi_93_59 <| yI_goto zi_93_60 <| yI_zreturn zi_93_64 (by decide)) (yI_aload_n zi_93_49 rfl <| yI_iconst zi_93_50 <| yI_iload zi_93_51 rfl <| yI_cv zi_93_53 rfl rfl zk_2 hK))))
theorem zj_93_65 {K : List zF} {σ : zW} {x0 : Nat} {x2 : Int} {x3 : Int} {x4 : Int} {o5 : Option zV} : zEv true ((93, 65, [some (.inr (.inr x0)), some (.inr (.inr 2)), some (.inl x2), some (.inl x3), some (.inl x4), o5], []) :: K) σ = (if ¬ x4 = 41 then zEv true ((93, 92, [some (.inr (.inr x0)), some (.inr (.inr 2)), some (.inl x2), some (.inl x3), some (.inl x4), o5], []) :: K) σ else if x2 ≤ 0 then zEv true ((93, 92, [some (.inr (.inr x0)), some (.inr (.inr 2)), some (.inl x2), some (.inl x3), some (.inl x4), o5], []) :: K) σ else zEv true ((93, 13, [some (.inr (.inr x0)), some (.inr (.inr 2)), some (.inl (w32 (x2 + (-1)))), some (.inl (w32 (x3 + 1))), some (.inl x4), o5], []) :: K) (sI σ 2 2 (w32 ((gI σ 2 2) + 1)))) :=
  yI_iload zi_93_65 rfl <| yI_bipush zi_93_67 <| yI_ic_ne zi_93_69 <| yBr (rfl) (yI_iload_n zi_93_72 rfl <| yI_if_le zi_93_73 <| yBr (rfl) (yI_aload_n zi_93_76 rfl <| yI_dup_r zi_93_77 <| yI_gf_i (v := gI σ 2 2) zi_93_78 zk_2 rfl <| yI_iconst zi_93_81 <| yI_iadd zi_93_82 <| yI_pf_i zi_93_83 zk_2 <| yI_iinc (l := [some (.inr (.inr x0)), some (.inr (.inr 2)), some (.inl (w32 (x2 + (-1)))), some (.inl x3), some (.inl x4), o5]) zi_93_86 rfl rfl rfl <| yI_goto zi_93_89 <| yI_iinc (l := [some (.inr (.inr x0)), some (.inr (.inr 2)), some (.inl (w32 (x2 + (-1)))), some (.inl (w32 (x3 + 1))), some (.inl x4), o5]) zi_93_130 rfl rfl rfl <| yI_goto zi_93_133 <| rfl))
theorem zr_93_56 {K : List zF} {σ : zW} {o0 : Option zV} {o1 : Option zV} {o2 : Option zV} {o3 : Option zV} {o4 : Option zV} {o5 : Option zV} {v : Int} : zRet true ((93, 56, [o0, o1, o2, o3, o4, o5], []) :: K) (some (.inl v)) σ = (if v = 0 then zRet true K (some (.inl 0)) σ else zRet true K (some (.inl 1)) σ) :=
  yT_rt (yI_if_eq zi_93_56 <| yBr (yI_iconst zi_93_63 <| yI_zreturn zi_93_64 (by decide)) (yI_iconst zi_93_59 <| yI_goto zi_93_60 <| yI_zreturn zi_93_64 (by decide)))
theorem zj_93_92 {K : List zF} {σ : zW} {x0 : Nat} {x2 : Int} {x3 : Int} {x4 : Int} {o5 : Option zV} (hK : K.length < 60) (h1 : zTr x0) : zEv true ((93, 92, [some (.inr (.inr x0)), some (.inr (.inr 2)), some (.inl x2), some (.inl x3), some (.inl x4), o5], []) :: K) σ = (zEv true (zent 94 [.inr (.inr x0), .inr (.inr 2), .inl (if ¬ x4 = 40 then 0 else 1 : Int), .inl x2] :: (93, 110, [some (.inr (.inr x0)), some (.inr (.inr 2)), some (.inl x2), some (.inl x3), some (.inl x4), o5], []) :: K) σ) :=
  yI_aload_n zi_93_92 rfl <| yI_aload_n zi_93_93 rfl <| yI_iload zi_93_94 rfl <| yI_bipush zi_93_96 <| yI_ic_ne zi_93_98 <| yMi0 (j := 106) (ls2 := [some (.inr (.inr x0)), some (.inr (.inr 2)), some (.inl x2), some (.inl x3), some (.inl x4), o5]) (st2 := [.inr (.inr 2), .inr (.inr x0)]) (x := 0) (y := 1) (σ2 := σ) (yI_iconst zi_93_105 <| rfl) (yI_iconst zi_93_101 <| yI_goto zi_93_102 <| rfl) <| yI_iload_n zi_93_106 rfl <| yI_cv zi_93_107 rfl rfl (zTr_k h1) hK
theorem zr_93_110 {K : List zF} {σ : zW} {x0 : Nat} {x2 : Int} {x3 : Int} {x4 : Int} {o5 : Option zV} {v : Int} : zRet true ((93, 110, [some (.inr (.inr x0)), some (.inr (.inr 2)), some (.inl x2), some (.inl x3), some (.inl x4), o5], []) :: K) (some (.inl v)) σ = (if ¬ v = 0 then zEv true ((93, 13, [some (.inr (.inr x0)), some (.inr (.inr 2)), some (.inl (w32 (x2 + (if ¬ x4 = 40 then 0 else 1 : Int)))), some (.inl (w32 (x3 + 1))), some (.inl x4), o5], []) :: K) σ else zRet true K (some (.inl 0)) σ) :=
  yT_rt (yI_if_ne zi_93_110 <| yBr (yI_iload_n zi_93_115 rfl <| yI_iload zi_93_116 rfl <| yI_bipush zi_93_118 <| yI_ic_ne zi_93_120 <| yMi0 (j := 128) (ls2 := [some (.inr (.inr x0)), some (.inr (.inr 2)), some (.inl x2), some (.inl x3), some (.inl x4), o5]) (st2 := [.inl x2]) (x := 0) (y := 1) (σ2 := σ) (yI_iconst zi_93_127 <| rfl) (yI_iconst zi_93_123 <| yI_goto zi_93_124 <| rfl) <| yI_iadd zi_93_128 <| yI_istore_n (l := [some (.inr (.inr x0)), some (.inr (.inr 2)), some (.inl (w32 (x2 + (if ¬ x4 = 40 then 0 else 1 : Int)))), some (.inl x3), some (.inl x4), o5]) zi_93_129 rfl rfl <| yI_iinc (l := [some (.inr (.inr x0)), some (.inr (.inr 2)), some (.inl (w32 (x2 + (if ¬ x4 = 40 then 0 else 1 : Int)))), some (.inl (w32 (x3 + 1))), some (.inl x4), o5]) zi_93_130 rfl rfl rfl <| yI_goto zi_93_133 <| rfl) (yI_iconst zi_93_113 <| yI_zreturn zi_93_114 (by decide)))
/-- 94 Treegrab$Tree.readNode(LTreegrab$Tape;ZI)Z -/
theorem zi_94_0 : zraw 94 0 = some (.aload_n 1, 1) ∧ 0 + 1 = 1 := by decide +kernel
theorem zi_94_1 : zraw 94 1 = some (.getfield 59, 3) ∧ zft (zinf 94).1 59 = some (7, 2, 0, false) ∧ 1 + 3 = 4 := by decide +kernel
theorem zi_94_4 : zraw 94 4 = some (.istore 4, 2) ∧ 4 + 2 = 6 := by decide +kernel
theorem zi_94_6 : zraw 94 6 = some (.aload_n 0, 1) ∧ 6 + 1 = 7 := by decide +kernel
theorem zi_94_7 : zraw 94 7 = some (.getfield 51, 3) ∧ zft (zinf 94).1 51 = some (8, 12, 0, false) ∧ 7 + 3 = 10 := by decide +kernel
theorem zi_94_10 : zraw 94 10 = some (.bipush 20, 2) ∧ zin 128 20 = true ∧ 10 + 2 = 12 := by decide +kernel
theorem zi_94_12 : zraw 94 12 = some (.if_icmp .lt 7, 3) ∧ ((12 : Nat) : Int) + 7 = Int.ofNat 19 ∧ 12 + 3 = 15 := by decide +kernel
theorem zi_94_15 : zraw 94 15 = some (.iconst 1, 1) ∧ zin 128 1 = true ∧ 15 + 1 = 16 := by decide +kernel
theorem zi_94_16 : zraw 94 16 = some (.goto 4, 3) ∧ ((16 : Nat) : Int) + 4 = Int.ofNat 20 := by decide +kernel
theorem zi_94_19 : zraw 94 19 = some (.iconst 0, 1) ∧ zin 128 0 = true ∧ 19 + 1 = 20 := by decide +kernel
theorem zi_94_20 : zraw 94 20 = some (.istore 5, 2) ∧ 20 + 2 = 22 := by decide +kernel
theorem zi_94_22 : zraw 94 22 = some (.iload_n 2, 1) ∧ 22 + 1 = 23 := by decide +kernel
theorem zi_94_23 : zraw 94 23 = some (.ifCond .eq 16, 3) ∧ ((23 : Nat) : Int) + 16 = Int.ofNat 39 ∧ 23 + 3 = 26 := by decide +kernel
theorem zi_94_26 : zraw 94 26 = some (.iload 5, 2) ∧ 26 + 2 = 28 := by decide +kernel
theorem zi_94_28 : zraw 94 28 = some (.ifCond .eq 11, 3) ∧ ((28 : Nat) : Int) + 11 = Int.ofNat 39 ∧ 28 + 3 = 31 := by decide +kernel
theorem zi_94_31 : zraw 94 31 = some (.aload_n 1, 1) ∧ 31 + 1 = 32 := by decide +kernel
theorem zi_94_32 : zraw 94 32 = some (.iconst 3, 1) ∧ zin 128 3 = true ∧ 32 + 1 = 33 := by decide +kernel
theorem zi_94_33 : zraw 94 33 = some (.iload 4, 2) ∧ 33 + 2 = 35 := by decide +kernel
theorem zi_94_35 : zraw 94 35 = some (.invokevirtual 62, 3) ∧ zmt (zinf 94).1 62 = some 86 ∧ Nat.ble 9000 86 = false ∧ zinf 86 = (7, 3, 3, 2, 0) ∧ 35 + 3 = 38 := by decide +kernel
theorem zi_94_38 : zraw 94 38 = some (.ireturn, 1) ∧ (zinf 94).2.2.2.1 = 2 := by decide +kernel
theorem zi_94_39 : zraw 94 39 = some (.aload_n 1, 1) ∧ 39 + 1 = 40 := by decide +kernel
theorem zi_94_40 : zraw 94 40 = some (.dup, 1) ∧ 40 + 1 = 41 := by decide +kernel
theorem zi_94_41 : zraw 94 41 = some (.getfield 59, 3) ∧ zft (zinf 94).1 59 = some (7, 2, 0, false) ∧ 41 + 3 = 44 := by decide +kernel
theorem zi_94_44 : zraw 94 44 = some (.iload_n 2, 1) ∧ 44 + 1 = 45 := by decide +kernel
theorem zi_94_45 : zraw 94 45 = some (.ifCond .eq 7, 3) ∧ ((45 : Nat) : Int) + 7 = Int.ofNat 52 ∧ 45 + 3 = 48 := by decide +kernel
theorem zi_94_48 : zraw 94 48 = some (.iconst 1, 1) ∧ zin 128 1 = true ∧ 48 + 1 = 49 := by decide +kernel
theorem zi_94_49 : zraw 94 49 = some (.goto 4, 3) ∧ ((49 : Nat) : Int) + 4 = Int.ofNat 53 := by decide +kernel
theorem zi_94_52 : zraw 94 52 = some (.iconst 0, 1) ∧ zin 128 0 = true ∧ 52 + 1 = 53 := by decide +kernel
theorem zi_94_53 : zraw 94 53 = some (.iadd, 1) ∧ 53 + 1 = 54 := by decide +kernel
theorem zi_94_54 : zraw 94 54 = some (.putfield 59, 3) ∧ zft (zinf 94).1 59 = some (7, 2, 0, false) ∧ 54 + 3 = 57 := by decide +kernel
theorem zi_94_57 : zraw 94 57 = some (.aload_n 1, 1) ∧ 57 + 1 = 58 := by decide +kernel
theorem zi_94_58 : zraw 94 58 = some (.invokevirtual 70, 3) ∧ zmt (zinf 94).1 70 = some 89 ∧ Nat.ble 9000 89 = false ∧ zinf 89 = (7, 1, 4, 3, 0) ∧ 58 + 3 = 61 := by decide +kernel
theorem zi_94_61 : zraw 94 61 = some (.lstore 6, 2) ∧ 61 + 2 = 63 := by decide +kernel
theorem zi_94_63 : zraw 94 63 = some (.lload 6, 2) ∧ 63 + 2 = 65 := by decide +kernel
theorem zi_94_65 : zraw 94 65 = some (.lconst 0, 1) ∧ (bif Nat.beq (0 : Fin 2).val 0 then (0 : Int64) else 1) = 0 ∧ 65 + 1 = 66 := by decide +kernel
theorem zi_94_66 : zraw 94 66 = some (.lcmp, 1) ∧ 66 + 1 = 67 := by decide +kernel
theorem zi_94_67 : zraw 94 67 = some (.ifCond .ne 5, 3) ∧ ((67 : Nat) : Int) + 5 = Int.ofNat 72 ∧ 67 + 3 = 70 := by decide +kernel
theorem zi_94_70 : zraw 94 70 = some (.iconst 0, 1) ∧ zin 128 0 = true ∧ 70 + 1 = 71 := by decide +kernel
theorem zi_94_71 : zraw 94 71 = some (.ireturn, 1) ∧ (zinf 94).2.2.2.1 = 2 := by decide +kernel
theorem zi_94_72 : zraw 94 72 = some (.iload 5, 2) ∧ 72 + 2 = 74 := by decide +kernel
theorem zi_94_74 : zraw 94 74 = some (.ifCond .eq 11, 3) ∧ ((74 : Nat) : Int) + 11 = Int.ofNat 85 ∧ 74 + 3 = 77 := by decide +kernel
theorem zi_94_77 : zraw 94 77 = some (.aload_n 1, 1) ∧ 77 + 1 = 78 := by decide +kernel
theorem zi_94_78 : zraw 94 78 = some (.iconst 3, 1) ∧ zin 128 3 = true ∧ 78 + 1 = 79 := by decide +kernel
theorem zi_94_79 : zraw 94 79 = some (.iload 4, 2) ∧ 79 + 2 = 81 := by decide +kernel
theorem zi_94_81 : zraw 94 81 = some (.invokevirtual 62, 3) ∧ zmt (zinf 94).1 62 = some 86 ∧ Nat.ble 9000 86 = false ∧ zinf 86 = (7, 3, 3, 2, 0) ∧ 81 + 3 = 84 := by decide +kernel
theorem zi_94_84 : zraw 94 84 = some (.ireturn, 1) ∧ (zinf 94).2.2.2.1 = 2 := by decide +kernel
theorem zi_94_85 : zraw 94 85 = some (.aload_n 0, 1) ∧ 85 + 1 = 86 := by decide +kernel
theorem zi_94_86 : zraw 94 86 = some (.getfield 9, 3) ∧ zft (zinf 94).1 9 = some (8, 0, 3, true) ∧ 86 + 3 = 89 := by decide +kernel
theorem zi_94_89 : zraw 94 89 = some (.aload_n 0, 1) ∧ 89 + 1 = 90 := by decide +kernel
theorem zi_94_90 : zraw 94 90 = some (.getfield 51, 3) ∧ zft (zinf 94).1 51 = some (8, 12, 0, false) ∧ 90 + 3 = 93 := by decide +kernel
theorem zi_94_93 : zraw 94 93 = some (.lload 6, 2) ∧ 93 + 2 = 95 := by decide +kernel
theorem zi_94_95 : zraw 94 95 = some (.lastore, 1) ∧ 95 + 1 = 96 := by decide +kernel
theorem zi_94_96 : zraw 94 96 = some (.aload_n 0, 1) ∧ 96 + 1 = 97 := by decide +kernel
theorem zi_94_97 : zraw 94 97 = some (.getfield 15, 3) ∧ zft (zinf 94).1 15 = some (8, 1, 3, true) ∧ 97 + 3 = 100 := by decide +kernel
theorem zi_94_100 : zraw 94 100 = some (.aload_n 0, 1) ∧ 100 + 1 = 101 := by decide +kernel
theorem zi_94_101 : zraw 94 101 = some (.getfield 51, 3) ∧ zft (zinf 94).1 51 = some (8, 12, 0, false) ∧ 101 + 3 = 104 := by decide +kernel
theorem zi_94_104 : zraw 94 104 = some (.iload_n 3, 1) ∧ 104 + 1 = 105 := by decide +kernel
theorem zi_94_105 : zraw 94 105 = some (.iastore, 1) ∧ 105 + 1 = 106 := by decide +kernel
theorem zi_94_106 : zraw 94 106 = some (.aload_n 0, 1) ∧ 106 + 1 = 107 := by decide +kernel
theorem zi_94_107 : zraw 94 107 = some (.dup, 1) ∧ 107 + 1 = 108 := by decide +kernel
theorem zi_94_108 : zraw 94 108 = some (.getfield 51, 3) ∧ zft (zinf 94).1 51 = some (8, 12, 0, false) ∧ 108 + 3 = 111 := by decide +kernel
theorem zi_94_111 : zraw 94 111 = some (.iconst 1, 1) ∧ zin 128 1 = true ∧ 111 + 1 = 112 := by decide +kernel
theorem zi_94_112 : zraw 94 112 = some (.iadd, 1) ∧ 112 + 1 = 113 := by decide +kernel
theorem zi_94_113 : zraw 94 113 = some (.putfield 51, 3) ∧ zft (zinf 94).1 51 = some (8, 12, 0, false) ∧ 113 + 3 = 116 := by decide +kernel
theorem zi_94_116 : zraw 94 116 = some (.iconst 1, 1) ∧ zin 128 1 = true ∧ 116 + 1 = 117 := by decide +kernel
theorem zi_94_117 : zraw 94 117 = some (.ireturn, 1) ∧ (zinf 94).2.2.2.1 = 2 := by decide +kernel
theorem ze_94 {K : List zF} {σ : zW} {t : Nat} {x2 : Int} {x3 : Int} (hK : K.length < 60) (h1 : zTr t) : zEv true (zent 94 [.inr (.inr t), .inr (.inr 2), .inl x2, .inl x3] :: K) σ = (if x2 = 0 then zEv true ((94, 39, [some (.inr (.inr t)), some (.inr (.inr 2)), some (.inl x2), some (.inl x3), some (.inl (gI σ 2 2)), some (.inl (if (gI σ t 12) < 20 then 0 else 1 : Int)), none, none], []) :: K) σ else if (if (gI σ t 12) < 20 then 0 else 1 : Int) = 0 then zEv true ((94, 39, [some (.inr (.inr t)), some (.inr (.inr 2)), some (.inl x2), some (.inl x3), some (.inl (gI σ 2 2)), some (.inl (if (gI σ t 12) < 20 then 0 else 1 : Int)), none, none], []) :: K) σ else zEv true (zent 86 [.inr (.inr 2), .inl 3, .inl (gI σ 2 2)] :: (94, 38, [some (.inr (.inr t)), some (.inr (.inr 2)), some (.inl x2), some (.inl x3), some (.inl (gI σ 2 2)), some (.inl (if (gI σ t 12) < 20 then 0 else 1 : Int)), none, none], []) :: K) σ) :=
  yT_en (f := (94, 0, [some (.inr (.inr t)), some (.inr (.inr 2)), some (.inl x2), some (.inl x3), none, none, none, none], [])) rfl (yI_aload_n zi_94_0 rfl <| yI_gf_i (v := gI σ 2 2) zi_94_1 zk_2 rfl <| yI_istore (l := [some (.inr (.inr t)), some (.inr (.inr 2)), some (.inl x2), some (.inl x3), some (.inl (gI σ 2 2)), none, none, none]) zi_94_4 rfl rfl <| yI_aload_n zi_94_6 rfl <| yI_gf_i (v := gI σ t 12) zi_94_7 (zTr_k h1) rfl <| yI_bipush zi_94_10 <| yI_ic_lt zi_94_12 <| yMi0 (j := 20) (ls2 := [some (.inr (.inr t)), some (.inr (.inr 2)), some (.inl x2), some (.inl x3), some (.inl (gI σ 2 2)), none, none, none]) (st2 := []) (x := 0) (y := 1) (σ2 := σ) (yI_iconst zi_94_19 <| rfl) (yI_iconst zi_94_15 <| yI_goto zi_94_16 <| rfl) <| yI_istore (l := [some (.inr (.inr t)), some (.inr (.inr 2)), some (.inl x2), some (.inl x3), some (.inl (gI σ 2 2)), some (.inl (if (gI σ t 12) < 20 then 0 else 1 : Int)), none, none]) zi_94_20 rfl rfl <| yI_iload_n zi_94_22 rfl <| yI_if_eq zi_94_23 <| yBr (rfl) (yI_iload zi_94_26 rfl <| yI_if_eq zi_94_28 <| yBr (rfl) (yI_aload_n zi_94_31 rfl <| yI_iconst zi_94_32 <| yI_iload zi_94_33 rfl <| yI_cv zi_94_35 rfl rfl zk_2 hK)))
theorem zj_94_39 {K : List zF} {σ : zW} {x0 : Nat} {x2 : Int} {x3 : Int} {x4 : Int} {x5 : Int} {o6 : Option zV} {o7 : Option zV} (hK : K.length < 60) : zEv true ((94, 39, [some (.inr (.inr x0)), some (.inr (.inr 2)), some (.inl x2), some (.inl x3), some (.inl x4), some (.inl x5), o6, o7], []) :: K) σ = (zEv true (zent 89 [.inr (.inr 2)] :: (94, 61, [some (.inr (.inr x0)), some (.inr (.inr 2)), some (.inl x2), some (.inl x3), some (.inl x4), some (.inl x5), o6, o7], []) :: K) (sI σ 2 2 (w32 ((gI σ 2 2) + (if x2 = 0 then 0 else 1 : Int))))) :=
  yI_aload_n zi_94_39 rfl <| yI_dup_r zi_94_40 <| yI_gf_i (v := gI σ 2 2) zi_94_41 zk_2 rfl <| yI_iload_n zi_94_44 rfl <| yI_if_eq zi_94_45 <| yMi0 (j := 53) (ls2 := [some (.inr (.inr x0)), some (.inr (.inr 2)), some (.inl x2), some (.inl x3), some (.inl x4), some (.inl x5), o6, o7]) (st2 := [.inl (gI σ 2 2), .inr (.inr 2)]) (x := 0) (y := 1) (σ2 := σ) (yI_iconst zi_94_52 <| rfl) (yI_iconst zi_94_48 <| yI_goto zi_94_49 <| rfl) <| yI_iadd zi_94_53 <| yI_pf_i zi_94_54 zk_2 <| yI_aload_n zi_94_57 rfl <| yI_cv zi_94_58 rfl rfl zk_2 hK
theorem zr_94_38 {K : List zF} {σ : zW} {o0 : Option zV} {o1 : Option zV} {o2 : Option zV} {o3 : Option zV} {o4 : Option zV} {o5 : Option zV} {o6 : Option zV} {o7 : Option zV} {v : Int} : zRet true ((94, 38, [o0, o1, o2, o3, o4, o5, o6, o7], []) :: K) (some (.inl v)) σ = ((v = 0 ∨ v = 1) ∧ zRet true K (some (.inl v)) σ) :=
  yT_rt (yI_zreturnc zi_94_38)
theorem zr_94_61 {K : List zF} {σ : zW} {x0 : Nat} {o2 : Option zV} {x3 : Int} {x4 : Int} {x5 : Int} {o6 : Option zV} {o7 : Option zV} {v : Int64} (hK : K.length < 60) (h1 : zTr x0) : zRet true ((94, 61, [some (.inr (.inr x0)), some (.inr (.inr 2)), o2, some (.inl x3), some (.inl x4), some (.inl x5), o6, o7], []) :: K) (some (.inr (.inl v))) σ = (if ¬ (zlc v 0) = 0 then if x5 = 0 then (0 ≤ (gI σ x0 12) ∧ (gI σ x0 12) < 20) ∧ ((0 ≤ (gI σ x0 12) ∧ (gI σ x0 12) < 20) ∧ zRet true K (some (.inl 1)) (sI (sI (sL σ (x0 + 1) ((gI σ x0 12).toNat) v) (x0 + 2) ((gI σ x0 12).toNat) x3) x0 12 (w32 ((gI σ x0 12) + 1)))) else zEv true (zent 86 [.inr (.inr 2), .inl 3, .inl x4] :: (94, 84, [some (.inr (.inr x0)), some (.inr (.inr 2)), o2, some (.inl x3), some (.inl x4), some (.inl x5), some (.inr (.inl v)), none], []) :: K) σ else zRet true K (some (.inl 0)) σ) :=
  yT_rt (yI_lstore (l := [some (.inr (.inr x0)), some (.inr (.inr 2)), o2, some (.inl x3), some (.inl x4), some (.inl x5), some (.inr (.inl v)), none]) zi_94_61 rfl rfl <| yI_lload zi_94_63 rfl <| yI_lconst zi_94_65 <| yI_lcmp zi_94_66 <| yI_if_ne zi_94_67 <| yBr (yI_iload zi_94_72 rfl <| yI_if_eq zi_94_74 <| yBr (yI_aload_n zi_94_85 rfl <| yI_gf_f (v := x0 + 1) zi_94_86 (zTr_k h1) rfl <| yI_aload_n zi_94_89 rfl <| yI_gf_i (v := gI σ x0 12) zi_94_90 (zTr_k h1) rfl <| yI_lload zi_94_93 rfl <| yI_lastorec zi_94_95 (zTr_a1 h1) <| yI_aload_n zi_94_96 rfl <| yI_gf_f (v := x0 + 2) zi_94_97 (zTr_k h1) rfl <| yI_aload_n zi_94_100 rfl <| yI_gf_i (v := gI σ x0 12) zi_94_101 (zTr_k h1) rfl <| yI_iload_n zi_94_104 rfl <| yI_iastorec zi_94_105 (zTr_a2 h1) <| yI_aload_n zi_94_106 rfl <| yI_dup_r zi_94_107 <| yI_gf_i (v := gI σ x0 12) zi_94_108 (zTr_k h1) ((yGI_nk (by omega)).trans (gI_sL _ _ _ _ _ _)) <| yI_iconst zi_94_111 <| yI_iadd zi_94_112 <| yI_pf_i zi_94_113 (zTr_k h1) <| yI_iconst zi_94_116 <| yI_zreturn zi_94_117 (by decide)) (yI_aload_n zi_94_77 rfl <| yI_iconst zi_94_78 <| yI_iload zi_94_79 rfl <| yI_cv zi_94_81 rfl rfl zk_2 hK)) (yI_iconst zi_94_70 <| yI_zreturn zi_94_71 (by decide)))
theorem zr_94_84 {K : List zF} {σ : zW} {o0 : Option zV} {o1 : Option zV} {o2 : Option zV} {o3 : Option zV} {o4 : Option zV} {o5 : Option zV} {o6 : Option zV} {o7 : Option zV} {v : Int} : zRet true ((94, 84, [o0, o1, o2, o3, o4, o5, o6, o7], []) :: K) (some (.inl v)) σ = ((v = 0 ∨ v = 1) ∧ zRet true K (some (.inl v)) σ) :=
  yT_rt (yI_zreturnc zi_94_84)
/-- 95 Treegrab$Tree.settle()V -/
theorem zi_95_0 : zraw 95 0 = some (.aload_n 0, 1) ∧ 0 + 1 = 1 := by decide +kernel
theorem zi_95_1 : zraw 95 1 = some (.iconst 0, 1) ∧ zin 128 0 = true ∧ 1 + 1 = 2 := by decide +kernel
theorem zi_95_2 : zraw 95 2 = some (.putfield 74, 3) ∧ zft (zinf 95).1 74 = some (8, 11, 0, false) ∧ 2 + 3 = 5 := by decide +kernel
theorem zi_95_5 : zraw 95 5 = some (.iconst 0, 1) ∧ zin 128 0 = true ∧ 5 + 1 = 6 := by decide +kernel
theorem zi_95_6 : zraw 95 6 = some (.istore_n 1, 1) ∧ 6 + 1 = 7 := by decide +kernel
theorem zi_95_7 : zraw 95 7 = some (.iload_n 1, 1) ∧ 7 + 1 = 8 := by decide +kernel
theorem zi_95_8 : zraw 95 8 = some (.aload_n 0, 1) ∧ 8 + 1 = 9 := by decide +kernel
theorem zi_95_9 : zraw 95 9 = some (.getfield 51, 3) ∧ zft (zinf 95).1 51 = some (8, 12, 0, false) ∧ 9 + 3 = 12 := by decide +kernel
theorem zi_95_12 : zraw 95 12 = some (.if_icmp .ge 113, 3) ∧ ((12 : Nat) : Int) + 113 = Int.ofNat 125 ∧ 12 + 3 = 15 := by decide +kernel
theorem zi_95_15 : zraw 95 15 = some (.aload_n 0, 1) ∧ 15 + 1 = 16 := by decide +kernel
theorem zi_95_16 : zraw 95 16 = some (.getfield 15, 3) ∧ zft (zinf 95).1 15 = some (8, 1, 3, true) ∧ 16 + 3 = 19 := by decide +kernel
theorem zi_95_19 : zraw 95 19 = some (.iload_n 1, 1) ∧ 19 + 1 = 20 := by decide +kernel
theorem zi_95_20 : zraw 95 20 = some (.iaload, 1) ∧ 20 + 1 = 21 := by decide +kernel
theorem zi_95_21 : zraw 95 21 = some (.istore_n 2, 1) ∧ 21 + 1 = 22 := by decide +kernel
theorem zi_95_22 : zraw 95 22 = some (.aload_n 0, 1) ∧ 22 + 1 = 23 := by decide +kernel
theorem zi_95_23 : zraw 95 23 = some (.getfield 43, 3) ∧ zft (zinf 95).1 43 = some (8, 10, 3, true) ∧ 23 + 3 = 26 := by decide +kernel
theorem zi_95_26 : zraw 95 26 = some (.iload_n 2, 1) ∧ 26 + 1 = 27 := by decide +kernel
theorem zi_95_27 : zraw 95 27 = some (.iload_n 1, 1) ∧ 27 + 1 = 28 := by decide +kernel
theorem zi_95_28 : zraw 95 28 = some (.iastore, 1) ∧ 28 + 1 = 29 := by decide +kernel
theorem zi_95_29 : zraw 95 29 = some (.aload_n 0, 1) ∧ 29 + 1 = 30 := by decide +kernel
theorem zi_95_30 : zraw 95 30 = some (.getfield 19, 3) ∧ zft (zinf 95).1 19 = some (8, 2, 3, true) ∧ 30 + 3 = 33 := by decide +kernel
theorem zi_95_33 : zraw 95 33 = some (.iload_n 1, 1) ∧ 33 + 1 = 34 := by decide +kernel
theorem zi_95_34 : zraw 95 34 = some (.iload_n 2, 1) ∧ 34 + 1 = 35 := by decide +kernel
theorem zi_95_35 : zraw 95 35 = some (.ifCond .ne 7, 3) ∧ ((35 : Nat) : Int) + 7 = Int.ofNat 42 ∧ 35 + 3 = 38 := by decide +kernel
theorem zi_95_38 : zraw 95 38 = some (.iconst (-1), 1) ∧ zin 128 (-1) = true ∧ 38 + 1 = 39 := by decide +kernel
theorem zi_95_39 : zraw 95 39 = some (.goto 11, 3) ∧ ((39 : Nat) : Int) + 11 = Int.ofNat 50 := by decide +kernel
theorem zi_95_42 : zraw 95 42 = some (.aload_n 0, 1) ∧ 42 + 1 = 43 := by decide +kernel
theorem zi_95_43 : zraw 95 43 = some (.getfield 43, 3) ∧ zft (zinf 95).1 43 = some (8, 10, 3, true) ∧ 43 + 3 = 46 := by decide +kernel
theorem zi_95_46 : zraw 95 46 = some (.iload_n 2, 1) ∧ 46 + 1 = 47 := by decide +kernel
theorem zi_95_47 : zraw 95 47 = some (.iconst 1, 1) ∧ zin 128 1 = true ∧ 47 + 1 = 48 := by decide +kernel
theorem zi_95_48 : zraw 95 48 = some (.isub, 1) ∧ 48 + 1 = 49 := by decide +kernel
theorem zi_95_49 : zraw 95 49 = some (.iaload, 1) ∧ 49 + 1 = 50 := by decide +kernel
theorem zi_95_50 : zraw 95 50 = some (.iastore, 1) ∧ 50 + 1 = 51 := by decide +kernel
theorem zi_95_51 : zraw 95 51 = some (.aload_n 0, 1) ∧ 51 + 1 = 52 := by decide +kernel
theorem zi_95_52 : zraw 95 52 = some (.getfield 25, 3) ∧ zft (zinf 95).1 25 = some (8, 4, 3, true) ∧ 52 + 3 = 55 := by decide +kernel
theorem zi_95_55 : zraw 95 55 = some (.iload_n 1, 1) ∧ 55 + 1 = 56 := by decide +kernel
theorem zi_95_56 : zraw 95 56 = some (.iconst 0, 1) ∧ zin 128 0 = true ∧ 56 + 1 = 57 := by decide +kernel
theorem zi_95_57 : zraw 95 57 = some (.iastore, 1) ∧ 57 + 1 = 58 := by decide +kernel
theorem zi_95_58 : zraw 95 58 = some (.aload_n 0, 1) ∧ 58 + 1 = 59 := by decide +kernel
theorem zi_95_59 : zraw 95 59 = some (.getfield 22, 3) ∧ zft (zinf 95).1 22 = some (8, 3, 3, true) ∧ 59 + 3 = 62 := by decide +kernel
theorem zi_95_62 : zraw 95 62 = some (.iload_n 1, 1) ∧ 62 + 1 = 63 := by decide +kernel
theorem zi_95_63 : zraw 95 63 = some (.iload_n 1, 1) ∧ 63 + 1 = 64 := by decide +kernel
theorem zi_95_64 : zraw 95 64 = some (.iconst 1, 1) ∧ zin 128 1 = true ∧ 64 + 1 = 65 := by decide +kernel
theorem zi_95_65 : zraw 95 65 = some (.iadd, 1) ∧ 65 + 1 = 66 := by decide +kernel
theorem zi_95_66 : zraw 95 66 = some (.iastore, 1) ∧ 66 + 1 = 67 := by decide +kernel
theorem zi_95_67 : zraw 95 67 = some (.aload_n 0, 1) ∧ 67 + 1 = 68 := by decide +kernel
theorem zi_95_68 : zraw 95 68 = some (.getfield 19, 3) ∧ zft (zinf 95).1 19 = some (8, 2, 3, true) ∧ 68 + 3 = 71 := by decide +kernel
theorem zi_95_71 : zraw 95 71 = some (.iload_n 1, 1) ∧ 71 + 1 = 72 := by decide +kernel
theorem zi_95_72 : zraw 95 72 = some (.iaload, 1) ∧ 72 + 1 = 73 := by decide +kernel
theorem zi_95_73 : zraw 95 73 = some (.iconst (-1), 1) ∧ zin 128 (-1) = true ∧ 73 + 1 = 74 := by decide +kernel
theorem zi_95_74 : zraw 95 74 = some (.if_icmp .eq 35, 3) ∧ ((74 : Nat) : Int) + 35 = Int.ofNat 109 ∧ 74 + 3 = 77 := by decide +kernel
theorem zi_95_77 : zraw 95 77 = some (.aload_n 0, 1) ∧ 77 + 1 = 78 := by decide +kernel
theorem zi_95_78 : zraw 95 78 = some (.getfield 25, 3) ∧ zft (zinf 95).1 25 = some (8, 4, 3, true) ∧ 78 + 3 = 81 := by decide +kernel
theorem zi_95_81 : zraw 95 81 = some (.aload_n 0, 1) ∧ 81 + 1 = 82 := by decide +kernel
theorem zi_95_82 : zraw 95 82 = some (.getfield 19, 3) ∧ zft (zinf 95).1 19 = some (8, 2, 3, true) ∧ 82 + 3 = 85 := by decide +kernel
theorem zi_95_85 : zraw 95 85 = some (.iload_n 1, 1) ∧ 85 + 1 = 86 := by decide +kernel
theorem zi_95_86 : zraw 95 86 = some (.iaload, 1) ∧ 86 + 1 = 87 := by decide +kernel
theorem zi_95_87 : zraw 95 87 = some (.dup2, 1) ∧ 87 + 1 = 88 := by decide +kernel
theorem zi_95_88 : zraw 95 88 = some (.iaload, 1) ∧ 88 + 1 = 89 := by decide +kernel
theorem zi_95_89 : zraw 95 89 = some (.iconst 1, 1) ∧ zin 128 1 = true ∧ 89 + 1 = 90 := by decide +kernel
theorem zi_95_90 : zraw 95 90 = some (.iadd, 1) ∧ 90 + 1 = 91 := by decide +kernel
theorem zi_95_91 : zraw 95 91 = some (.iastore, 1) ∧ 91 + 1 = 92 := by decide +kernel
theorem zi_95_92 : zraw 95 92 = some (.aload_n 0, 1) ∧ 92 + 1 = 93 := by decide +kernel
theorem zi_95_93 : zraw 95 93 = some (.getfield 28, 3) ∧ zft (zinf 95).1 28 = some (8, 5, 3, true) ∧ 93 + 3 = 96 := by decide +kernel
theorem zi_95_96 : zraw 95 96 = some (.iload_n 1, 1) ∧ 96 + 1 = 97 := by decide +kernel
theorem zi_95_97 : zraw 95 97 = some (.aload_n 0, 1) ∧ 97 + 1 = 98 := by decide +kernel
theorem zi_95_98 : zraw 95 98 = some (.getfield 25, 3) ∧ zft (zinf 95).1 25 = some (8, 4, 3, true) ∧ 98 + 3 = 101 := by decide +kernel
theorem zi_95_101 : zraw 95 101 = some (.aload_n 0, 1) ∧ 101 + 1 = 102 := by decide +kernel
theorem zi_95_102 : zraw 95 102 = some (.getfield 19, 3) ∧ zft (zinf 95).1 19 = some (8, 2, 3, true) ∧ 102 + 3 = 105 := by decide +kernel
theorem zi_95_105 : zraw 95 105 = some (.iload_n 1, 1) ∧ 105 + 1 = 106 := by decide +kernel
theorem zi_95_106 : zraw 95 106 = some (.iaload, 1) ∧ 106 + 1 = 107 := by decide +kernel
theorem zi_95_107 : zraw 95 107 = some (.iaload, 1) ∧ 107 + 1 = 108 := by decide +kernel
theorem zi_95_108 : zraw 95 108 = some (.iastore, 1) ∧ 108 + 1 = 109 := by decide +kernel
theorem zi_95_109 : zraw 95 109 = some (.aload_n 0, 1) ∧ 109 + 1 = 110 := by decide +kernel
theorem zi_95_110 : zraw 95 110 = some (.aload_n 0, 1) ∧ 110 + 1 = 111 := by decide +kernel
theorem zi_95_111 : zraw 95 111 = some (.getfield 9, 3) ∧ zft (zinf 95).1 9 = some (8, 0, 3, true) ∧ 111 + 3 = 114 := by decide +kernel
theorem zi_95_114 : zraw 95 114 = some (.iload_n 1, 1) ∧ 114 + 1 = 115 := by decide +kernel
theorem zi_95_115 : zraw 95 115 = some (.laload, 1) ∧ 115 + 1 = 116 := by decide +kernel
theorem zi_95_116 : zraw 95 116 = some (.invokevirtual 77, 3) ∧ zmt (zinf 95).1 77 = some 97 ∧ Nat.ble 9000 97 = false ∧ zinf 97 = (8, 2, 5, 0, 0) ∧ 116 + 3 = 119 := by decide +kernel
theorem zi_95_119 : zraw 95 119 = some (.iinc 1 1, 3) ∧ zin 32768 1 = true ∧ 119 + 3 = 122 := by decide +kernel
theorem zi_95_122 : zraw 95 122 = some (.goto (-115), 3) ∧ ((122 : Nat) : Int) + (-115) = Int.ofNat 7 := by decide +kernel
theorem zi_95_125 : zraw 95 125 = some (.aload_n 0, 1) ∧ 125 + 1 = 126 := by decide +kernel
theorem zi_95_126 : zraw 95 126 = some (.getfield 51, 3) ∧ zft (zinf 95).1 51 = some (8, 12, 0, false) ∧ 126 + 3 = 129 := by decide +kernel
theorem zi_95_129 : zraw 95 129 = some (.iconst 1, 1) ∧ zin 128 1 = true ∧ 129 + 1 = 130 := by decide +kernel
theorem zi_95_130 : zraw 95 130 = some (.isub, 1) ∧ 130 + 1 = 131 := by decide +kernel
theorem zi_95_131 : zraw 95 131 = some (.istore_n 1, 1) ∧ 131 + 1 = 132 := by decide +kernel
theorem zi_95_132 : zraw 95 132 = some (.iload_n 1, 1) ∧ 132 + 1 = 133 := by decide +kernel
theorem zi_95_133 : zraw 95 133 = some (.ifCond .le 37, 3) ∧ ((133 : Nat) : Int) + 37 = Int.ofNat 170 ∧ 133 + 3 = 136 := by decide +kernel
theorem zi_95_136 : zraw 95 136 = some (.aload_n 0, 1) ∧ 136 + 1 = 137 := by decide +kernel
theorem zi_95_137 : zraw 95 137 = some (.getfield 19, 3) ∧ zft (zinf 95).1 19 = some (8, 2, 3, true) ∧ 137 + 3 = 140 := by decide +kernel
theorem zi_95_140 : zraw 95 140 = some (.iload_n 1, 1) ∧ 140 + 1 = 141 := by decide +kernel
theorem zi_95_141 : zraw 95 141 = some (.iaload, 1) ∧ 141 + 1 = 142 := by decide +kernel
theorem zi_95_142 : zraw 95 142 = some (.istore_n 2, 1) ∧ 142 + 1 = 143 := by decide +kernel
theorem zi_95_143 : zraw 95 143 = some (.aload_n 0, 1) ∧ 143 + 1 = 144 := by decide +kernel
theorem zi_95_144 : zraw 95 144 = some (.getfield 22, 3) ∧ zft (zinf 95).1 22 = some (8, 3, 3, true) ∧ 144 + 3 = 147 := by decide +kernel
theorem zi_95_147 : zraw 95 147 = some (.iload_n 2, 1) ∧ 147 + 1 = 148 := by decide +kernel
theorem zi_95_148 : zraw 95 148 = some (.aload_n 0, 1) ∧ 148 + 1 = 149 := by decide +kernel
theorem zi_95_149 : zraw 95 149 = some (.getfield 22, 3) ∧ zft (zinf 95).1 22 = some (8, 3, 3, true) ∧ 149 + 3 = 152 := by decide +kernel
theorem zi_95_152 : zraw 95 152 = some (.iload_n 2, 1) ∧ 152 + 1 = 153 := by decide +kernel
theorem zi_95_153 : zraw 95 153 = some (.iaload, 1) ∧ 153 + 1 = 154 := by decide +kernel
theorem zi_95_154 : zraw 95 154 = some (.aload_n 0, 1) ∧ 154 + 1 = 155 := by decide +kernel
theorem zi_95_155 : zraw 95 155 = some (.getfield 22, 3) ∧ zft (zinf 95).1 22 = some (8, 3, 3, true) ∧ 155 + 3 = 158 := by decide +kernel
theorem zi_95_158 : zraw 95 158 = some (.iload_n 1, 1) ∧ 158 + 1 = 159 := by decide +kernel
theorem zi_95_159 : zraw 95 159 = some (.iaload, 1) ∧ 159 + 1 = 160 := by decide +kernel
theorem zi_95_160 : zraw 95 160 = some (.invokestatic 81, 3) ∧ zmt (zinf 95).1 81 = some 9004 ∧ 160 + 3 = 163 := by decide +kernel
theorem zi_95_163 : zraw 95 163 = some (.iastore, 1) ∧ 163 + 1 = 164 := by decide +kernel
theorem zi_95_164 : zraw 95 164 = some (.iinc 1 (-1), 3) ∧ zin 32768 (-1) = true ∧ 164 + 3 = 167 := by decide +kernel
theorem zi_95_167 : zraw 95 167 = some (.goto (-35), 3) ∧ ((167 : Nat) : Int) + (-35) = Int.ofNat 132 := by decide +kernel
theorem zi_95_170 : zraw 95 170 = some (.aload_n 0, 1) ∧ 170 + 1 = 171 := by decide +kernel
theorem zi_95_171 : zraw 95 171 = some (.invokevirtual 87, 3) ∧ zmt (zinf 95).1 87 = some 96 ∧ Nat.ble 9000 96 = false ∧ zinf 96 = (8, 1, 3, 0, 0) ∧ 171 + 3 = 174 := by decide +kernel
theorem zi_95_174 : zraw 95 174 = some (.return_, 1) ∧ (zinf 95).2.2.2.1 = 0 := by decide +kernel
theorem ze_95 {K : List zF} {σ : zW} {t : Nat} (h1 : zTr t) : zEv true (zent 95 [.inr (.inr t)] :: K) σ = (zEv true ((95, 7, [some (.inr (.inr t)), some (.inl 0), none], []) :: K) (sI σ t 11 0)) :=
  yT_en (f := (95, 0, [some (.inr (.inr t)), none, none], [])) rfl (yI_aload_n zi_95_0 rfl <| yI_iconst zi_95_1 <| yI_pf_i zi_95_2 (zTr_k h1) <| yI_iconst zi_95_5 <| yI_istore_n (l := [some (.inr (.inr t)), some (.inl 0), none]) zi_95_6 rfl rfl <| rfl)
theorem zj_95_7 {K : List zF} {σ : zW} {x0 : Nat} {x1 : Int} {o2 : Option zV} (h1 : zTr x0) : zEv true ((95, 7, [some (.inr (.inr x0)), some (.inl x1), o2], []) :: K) σ = (if (gI σ x0 12) ≤ x1 then zEv true ((95, 132, [some (.inr (.inr x0)), some (.inl (w32 ((gI σ x0 12) - 1))), o2], []) :: K) σ else (0 ≤ x1 ∧ x1 < 20) ∧ ((0 ≤ (gI σ (x0 + 2) x1.toNat) ∧ (gI σ (x0 + 2) x1.toNat) < 21) ∧ (((¬ (gI σ (x0 + 2) x1.toNat) = 0) → (0 ≤ (w32 ((gI σ (x0 + 2) x1.toNat) - 1)) ∧ (w32 ((gI σ (x0 + 2) x1.toNat) - 1)) < 21)) ∧ ((0 ≤ x1 ∧ x1 < 20) ∧ ((0 ≤ x1 ∧ x1 < 20) ∧ ((0 ≤ x1 ∧ x1 < 20) ∧ ((0 ≤ x1 ∧ x1 < 20) ∧ (if (if ¬ (gI σ (x0 + 2) x1.toNat) = 0 then gI (sI σ (x0 + 11) ((gI σ (x0 + 2) x1.toNat).toNat) x1) (x0 + 11) ((w32 ((gI σ (x0 + 2) x1.toNat) - 1)).toNat) else (-1) : Int) = (-1) then zEv true ((95, 109, [some (.inr (.inr x0)), some (.inl x1), some (.inl (gI σ (x0 + 2) x1.toNat))], []) :: K) (sI (sI (sI (sI σ (x0 + 11) ((gI σ (x0 + 2) x1.toNat).toNat) x1) (x0 + 3) x1.toNat (if ¬ (gI σ (x0 + 2) x1.toNat) = 0 then gI (sI σ (x0 + 11) ((gI σ (x0 + 2) x1.toNat).toNat) x1) (x0 + 11) ((w32 ((gI σ (x0 + 2) x1.toNat) - 1)).toNat) else (-1) : Int)) (x0 + 5) x1.toNat 0) (x0 + 4) x1.toNat (w32 (x1 + 1))) else (0 ≤ x1 ∧ x1 < 20) ∧ ((0 ≤ (if ¬ (gI σ (x0 + 2) x1.toNat) = 0 then gI (sI σ (x0 + 11) ((gI σ (x0 + 2) x1.toNat).toNat) x1) (x0 + 11) ((w32 ((gI σ (x0 + 2) x1.toNat) - 1)).toNat) else (-1) : Int) ∧ (if ¬ (gI σ (x0 + 2) x1.toNat) = 0 then gI (sI σ (x0 + 11) ((gI σ (x0 + 2) x1.toNat).toNat) x1) (x0 + 11) ((w32 ((gI σ (x0 + 2) x1.toNat) - 1)).toNat) else (-1) : Int) < 20) ∧ ((0 ≤ (if ¬ (gI σ (x0 + 2) x1.toNat) = 0 then gI (sI σ (x0 + 11) ((gI σ (x0 + 2) x1.toNat).toNat) x1) (x0 + 11) ((w32 ((gI σ (x0 + 2) x1.toNat) - 1)).toNat) else (-1) : Int) ∧ (if ¬ (gI σ (x0 + 2) x1.toNat) = 0 then gI (sI σ (x0 + 11) ((gI σ (x0 + 2) x1.toNat).toNat) x1) (x0 + 11) ((w32 ((gI σ (x0 + 2) x1.toNat) - 1)).toNat) else (-1) : Int) < 20) ∧ ((0 ≤ x1 ∧ x1 < 20) ∧ ((0 ≤ (if ¬ (gI σ (x0 + 2) x1.toNat) = 0 then gI (sI σ (x0 + 11) ((gI σ (x0 + 2) x1.toNat).toNat) x1) (x0 + 11) ((w32 ((gI σ (x0 + 2) x1.toNat) - 1)).toNat) else (-1) : Int) ∧ (if ¬ (gI σ (x0 + 2) x1.toNat) = 0 then gI (sI σ (x0 + 11) ((gI σ (x0 + 2) x1.toNat).toNat) x1) (x0 + 11) ((w32 ((gI σ (x0 + 2) x1.toNat) - 1)).toNat) else (-1) : Int) < 20) ∧ ((0 ≤ x1 ∧ x1 < 20) ∧ zEv true ((95, 109, [some (.inr (.inr x0)), some (.inl x1), some (.inl (gI σ (x0 + 2) x1.toNat))], []) :: K) (sI (sI (sI (sI (sI (sI σ (x0 + 11) ((gI σ (x0 + 2) x1.toNat).toNat) x1) (x0 + 3) x1.toNat (if ¬ (gI σ (x0 + 2) x1.toNat) = 0 then gI (sI σ (x0 + 11) ((gI σ (x0 + 2) x1.toNat).toNat) x1) (x0 + 11) ((w32 ((gI σ (x0 + 2) x1.toNat) - 1)).toNat) else (-1) : Int)) (x0 + 5) x1.toNat 0) (x0 + 4) x1.toNat (w32 (x1 + 1))) (x0 + 5) ((if ¬ (gI σ (x0 + 2) x1.toNat) = 0 then gI (sI σ (x0 + 11) ((gI σ (x0 + 2) x1.toNat).toNat) x1) (x0 + 11) ((w32 ((gI σ (x0 + 2) x1.toNat) - 1)).toNat) else (-1) : Int).toNat) (w32 ((gI (sI (sI (sI σ (x0 + 11) ((gI σ (x0 + 2) x1.toNat).toNat) x1) (x0 + 3) x1.toNat (if ¬ (gI σ (x0 + 2) x1.toNat) = 0 then gI (sI σ (x0 + 11) ((gI σ (x0 + 2) x1.toNat).toNat) x1) (x0 + 11) ((w32 ((gI σ (x0 + 2) x1.toNat) - 1)).toNat) else (-1) : Int)) (x0 + 5) x1.toNat 0) (x0 + 5) ((if ¬ (gI σ (x0 + 2) x1.toNat) = 0 then gI (sI σ (x0 + 11) ((gI σ (x0 + 2) x1.toNat).toNat) x1) (x0 + 11) ((w32 ((gI σ (x0 + 2) x1.toNat) - 1)).toNat) else (-1) : Int).toNat)) + 1))) (x0 + 6) x1.toNat (w32 ((gI (sI (sI (sI σ (x0 + 11) ((gI σ (x0 + 2) x1.toNat).toNat) x1) (x0 + 3) x1.toNat (if ¬ (gI σ (x0 + 2) x1.toNat) = 0 then gI (sI σ (x0 + 11) ((gI σ (x0 + 2) x1.toNat).toNat) x1) (x0 + 11) ((w32 ((gI σ (x0 + 2) x1.toNat) - 1)).toNat) else (-1) : Int)) (x0 + 5) x1.toNat 0) (x0 + 5) ((if ¬ (gI σ (x0 + 2) x1.toNat) = 0 then gI (sI σ (x0 + 11) ((gI σ (x0 + 2) x1.toNat).toNat) x1) (x0 + 11) ((w32 ((gI σ (x0 + 2) x1.toNat) - 1)).toNat) else (-1) : Int).toNat)) + 1)))))))))))))))) :=
  yI_iload_n zi_95_7 rfl <| yI_aload_n zi_95_8 rfl <| yI_gf_i (v := gI σ x0 12) zi_95_9 (zTr_k h1) rfl <| yI_ic_ge zi_95_12 <| yBr (yI_aload_n zi_95_125 rfl <| yI_gf_i (v := gI σ x0 12) zi_95_126 (zTr_k h1) rfl <| yI_iconst zi_95_129 <| yI_isub zi_95_130 <| yI_istore_n (l := [some (.inr (.inr x0)), some (.inl (w32 ((gI σ x0 12) - 1))), o2]) zi_95_131 rfl rfl <| rfl) (yI_aload_n zi_95_15 rfl <| yI_gf_f (v := x0 + 2) zi_95_16 (zTr_k h1) rfl <| yI_iload_n zi_95_19 rfl <| yI_ialoadc (v := gI σ (x0 + 2) x1.toNat) zi_95_20 (zTr_a2 h1) rfl <| yI_istore_n (l := [some (.inr (.inr x0)), some (.inl x1), some (.inl (gI σ (x0 + 2) x1.toNat))]) zi_95_21 rfl rfl <| yI_aload_n zi_95_22 rfl <| yI_gf_f (v := x0 + 11) zi_95_23 (zTr_k h1) rfl <| yI_iload_n zi_95_26 rfl <| yI_iload_n zi_95_27 rfl <| yI_iastorec zi_95_28 (zTr_a11 h1) <| yI_aload_n zi_95_29 rfl <| yI_gf_f (v := x0 + 3) zi_95_30 (zTr_k h1) rfl <| yI_iload_n zi_95_33 rfl <| yI_iload_n zi_95_34 rfl <| yI_if_ne zi_95_35 <| yMi1 (j := 50) (ls2 := [some (.inr (.inr x0)), some (.inl x1), some (.inl (gI σ (x0 + 2) x1.toNat))]) (st2 := [.inl x1, .inr (.inr (x0 + 3))]) (x := gI (sI σ (x0 + 11) ((gI σ (x0 + 2) x1.toNat).toNat) x1) (x0 + 11) ((w32 ((gI σ (x0 + 2) x1.toNat) - 1)).toNat)) (y := (-1)) (σ2 := (sI σ (x0 + 11) ((gI σ (x0 + 2) x1.toNat).toNat) x1)) (yI_aload_n zi_95_42 rfl <| yI_gf_f (v := x0 + 11) zi_95_43 (zTr_k h1) rfl <| yI_iload_n zi_95_46 rfl <| yI_iconst zi_95_47 <| yI_isub zi_95_48 <| yI_ialoadc (v := gI (sI σ (x0 + 11) ((gI σ (x0 + 2) x1.toNat).toNat) x1) (x0 + 11) ((w32 ((gI σ (x0 + 2) x1.toNat) - 1)).toNat)) zi_95_49 (zTr_a11 h1) rfl <| rfl) (yI_iconst zi_95_38 <| yI_goto zi_95_39 <| rfl) <| yI_iastorec zi_95_50 (zTr_a3 h1) <| yI_aload_n zi_95_51 rfl <| yI_gf_f (v := x0 + 5) zi_95_52 (zTr_k h1) rfl <| yI_iload_n zi_95_55 rfl <| yI_iconst zi_95_56 <| yI_iastorec zi_95_57 (zTr_a5 h1) <| yI_aload_n zi_95_58 rfl <| yI_gf_f (v := x0 + 4) zi_95_59 (zTr_k h1) rfl <| yI_iload_n zi_95_62 rfl <| yI_iload_n zi_95_63 rfl <| yI_iconst zi_95_64 <| yI_iadd zi_95_65 <| yI_iastorec zi_95_66 (zTr_a4 h1) <| yI_aload_n zi_95_67 rfl <| yI_gf_f (v := x0 + 3) zi_95_68 (zTr_k h1) rfl <| yI_iload_n zi_95_71 rfl <| yI_ialoadc (v := (if ¬ (gI σ (x0 + 2) x1.toNat) = 0 then gI (sI σ (x0 + 11) ((gI σ (x0 + 2) x1.toNat).toNat) x1) (x0 + 11) ((w32 ((gI σ (x0 + 2) x1.toNat) - 1)).toNat) else (-1) : Int)) zi_95_72 (zTr_a3 h1) ((yGI_nk (by omega)).trans ((yGI_nk (by omega)).trans (yGI_hit))) <| yI_iconst zi_95_73 <| yI_ic_eq zi_95_74 <| yBr (rfl) (yI_aload_n zi_95_77 rfl <| yI_gf_f (v := x0 + 5) zi_95_78 (zTr_k h1) rfl <| yI_aload_n zi_95_81 rfl <| yI_gf_f (v := x0 + 3) zi_95_82 (zTr_k h1) rfl <| yI_iload_n zi_95_85 rfl <| yI_ialoadc (v := (if ¬ (gI σ (x0 + 2) x1.toNat) = 0 then gI (sI σ (x0 + 11) ((gI σ (x0 + 2) x1.toNat).toNat) x1) (x0 + 11) ((w32 ((gI σ (x0 + 2) x1.toNat) - 1)).toNat) else (-1) : Int)) zi_95_86 (zTr_a3 h1) ((yGI_nk (by omega)).trans ((yGI_nk (by omega)).trans (yGI_hit))) <| yI_dup2_ir zi_95_87 <| yI_ialoadc (v := gI (sI (sI (sI σ (x0 + 11) ((gI σ (x0 + 2) x1.toNat).toNat) x1) (x0 + 3) x1.toNat (if ¬ (gI σ (x0 + 2) x1.toNat) = 0 then gI (sI σ (x0 + 11) ((gI σ (x0 + 2) x1.toNat).toNat) x1) (x0 + 11) ((w32 ((gI σ (x0 + 2) x1.toNat) - 1)).toNat) else (-1) : Int)) (x0 + 5) x1.toNat 0) (x0 + 5) ((if ¬ (gI σ (x0 + 2) x1.toNat) = 0 then gI (sI σ (x0 + 11) ((gI σ (x0 + 2) x1.toNat).toNat) x1) (x0 + 11) ((w32 ((gI σ (x0 + 2) x1.toNat) - 1)).toNat) else (-1) : Int).toNat)) zi_95_88 (zTr_a5 h1) (yGI_nk (by omega)) <| yI_iconst zi_95_89 <| yI_iadd zi_95_90 <| yI_iastorec zi_95_91 (zTr_a5 h1) <| yI_aload_n zi_95_92 rfl <| yI_gf_f (v := x0 + 6) zi_95_93 (zTr_k h1) rfl <| yI_iload_n zi_95_96 rfl <| yI_aload_n zi_95_97 rfl <| yI_gf_f (v := x0 + 5) zi_95_98 (zTr_k h1) rfl <| yI_aload_n zi_95_101 rfl <| yI_gf_f (v := x0 + 3) zi_95_102 (zTr_k h1) rfl <| yI_iload_n zi_95_105 rfl <| yI_ialoadc (v := (if ¬ (gI σ (x0 + 2) x1.toNat) = 0 then gI (sI σ (x0 + 11) ((gI σ (x0 + 2) x1.toNat).toNat) x1) (x0 + 11) ((w32 ((gI σ (x0 + 2) x1.toNat) - 1)).toNat) else (-1) : Int)) zi_95_106 (zTr_a3 h1) ((yGI_nk (by omega)).trans ((yGI_nk (by omega)).trans ((yGI_nk (by omega)).trans (yGI_hit)))) <| yI_ialoadc (v := w32 ((gI (sI (sI (sI σ (x0 + 11) ((gI σ (x0 + 2) x1.toNat).toNat) x1) (x0 + 3) x1.toNat (if ¬ (gI σ (x0 + 2) x1.toNat) = 0 then gI (sI σ (x0 + 11) ((gI σ (x0 + 2) x1.toNat).toNat) x1) (x0 + 11) ((w32 ((gI σ (x0 + 2) x1.toNat) - 1)).toNat) else (-1) : Int)) (x0 + 5) x1.toNat 0) (x0 + 5) ((if ¬ (gI σ (x0 + 2) x1.toNat) = 0 then gI (sI σ (x0 + 11) ((gI σ (x0 + 2) x1.toNat).toNat) x1) (x0 + 11) ((w32 ((gI σ (x0 + 2) x1.toNat) - 1)).toNat) else (-1) : Int).toNat)) + 1)) zi_95_107 (zTr_a5 h1) (yGI_hit) <| yI_iastorec zi_95_108 (zTr_a6 h1) <| rfl))
theorem zj_95_132 {K : List zF} {σ : zW} {x0 : Nat} {x1 : Int} {o2 : Option zV} (hK : K.length < 60) (h1 : zTr x0) : zEv true ((95, 132, [some (.inr (.inr x0)), some (.inl x1), o2], []) :: K) σ = (if x1 ≤ 0 then zEv true (zent 96 [.inr (.inr x0)] :: (95, 174, [some (.inr (.inr x0)), some (.inl x1), o2], []) :: K) σ else (0 ≤ x1 ∧ x1 < 20) ∧ ((0 ≤ (gI σ (x0 + 3) x1.toNat) ∧ (gI σ (x0 + 3) x1.toNat) < 20) ∧ ((0 ≤ x1 ∧ x1 < 20) ∧ ((0 ≤ (gI σ (x0 + 3) x1.toNat) ∧ (gI σ (x0 + 3) x1.toNat) < 20) ∧ zEv true ((95, 132, [some (.inr (.inr x0)), some (.inl (w32 (x1 + (-1)))), some (.inl (gI σ (x0 + 3) x1.toNat))], []) :: K) (sI σ (x0 + 4) ((gI σ (x0 + 3) x1.toNat).toNat) (if (gI σ (x0 + 4) ((gI σ (x0 + 3) x1.toNat).toNat)) < (gI σ (x0 + 4) x1.toNat) then gI σ (x0 + 4) x1.toNat else gI σ (x0 + 4) ((gI σ (x0 + 3) x1.toNat).toNat))))))) :=
  yI_iload_n zi_95_132 rfl <| yI_if_le zi_95_133 <| yBr (yI_aload_n zi_95_170 rfl <| yI_cv zi_95_171 rfl rfl (zTr_k h1) hK) (yI_aload_n zi_95_136 rfl <| yI_gf_f (v := x0 + 3) zi_95_137 (zTr_k h1) rfl <| yI_iload_n zi_95_140 rfl <| yI_ialoadc (v := gI σ (x0 + 3) x1.toNat) zi_95_141 (zTr_a3 h1) rfl <| yI_istore_n (l := [some (.inr (.inr x0)), some (.inl x1), some (.inl (gI σ (x0 + 3) x1.toNat))]) zi_95_142 rfl rfl <| yI_aload_n zi_95_143 rfl <| yI_gf_f (v := x0 + 4) zi_95_144 (zTr_k h1) rfl <| yI_iload_n zi_95_147 rfl <| yI_aload_n zi_95_148 rfl <| yI_gf_f (v := x0 + 4) zi_95_149 (zTr_k h1) rfl <| yI_iload_n zi_95_152 rfl <| yI_ialoadc (v := gI σ (x0 + 4) ((gI σ (x0 + 3) x1.toNat).toNat)) zi_95_153 (zTr_a4 h1) rfl <| yI_aload_n zi_95_154 rfl <| yI_gf_f (v := x0 + 4) zi_95_155 (zTr_k h1) rfl <| yI_iload_n zi_95_158 rfl <| yI_ialoadc (v := gI σ (x0 + 4) x1.toNat) zi_95_159 (zTr_a4 h1) rfl <| yI_max zi_95_160 rfl <| yI_iastorec zi_95_163 (zTr_a4 h1) <| yI_iinc (l := [some (.inr (.inr x0)), some (.inl (w32 (x1 + (-1)))), some (.inl (gI σ (x0 + 3) x1.toNat))]) zi_95_164 rfl rfl rfl <| yI_goto zi_95_167 <| rfl)
theorem zj_95_109 {K : List zF} {σ : zW} {x0 : Nat} {x1 : Int} {o2 : Option zV} (hK : K.length < 60) (h1 : zTr x0) : zEv true ((95, 109, [some (.inr (.inr x0)), some (.inl x1), o2], []) :: K) σ = ((0 ≤ x1 ∧ x1 < 20) ∧ zEv true (zent 97 [.inr (.inr x0), .inr (.inl (gL σ (x0 + 1) x1.toNat))] :: (95, 119, [some (.inr (.inr x0)), some (.inl x1), o2], []) :: K) σ) :=
  yI_aload_n zi_95_109 rfl <| yI_aload_n zi_95_110 rfl <| yI_gf_f (v := x0 + 1) zi_95_111 (zTr_k h1) rfl <| yI_iload_n zi_95_114 rfl <| yI_laloadc (v := gL σ (x0 + 1) x1.toNat) zi_95_115 (zTr_a1 h1) rfl <| yI_cv zi_95_116 rfl rfl (zTr_k h1) hK
theorem zr_95_174 {K : List zF} {σ : zW} {o0 : Option zV} {o1 : Option zV} {o2 : Option zV} : zRet true ((95, 174, [o0, o1, o2], []) :: K) none σ = (zRet true K none σ) :=
  yT_rv (yI_ret zi_95_174)
theorem zr_95_119 {K : List zF} {σ : zW} {x0 : Nat} {x1 : Int} {o2 : Option zV} : zRet true ((95, 119, [some (.inr (.inr x0)), some (.inl x1), o2], []) :: K) none σ = (zEv true ((95, 7, [some (.inr (.inr x0)), some (.inl (w32 (x1 + 1))), o2], []) :: K) σ) :=
  yT_rv (yI_iinc (l := [some (.inr (.inr x0)), some (.inl (w32 (x1 + 1))), o2]) zi_95_119 rfl rfl rfl <| yI_goto zi_95_122 <| rfl)
/-- 96 Treegrab$Tree.settleWords()V -/
theorem zi_96_0 : zraw 96 0 = some (.iconst 0, 1) ∧ zin 128 0 = true ∧ 0 + 1 = 1 := by decide +kernel
theorem zi_96_1 : zraw 96 1 = some (.istore_n 1, 1) ∧ 1 + 1 = 2 := by decide +kernel
theorem zi_96_2 : zraw 96 2 = some (.iconst 0, 1) ∧ zin 128 0 = true ∧ 2 + 1 = 3 := by decide +kernel
theorem zi_96_3 : zraw 96 3 = some (.istore_n 2, 1) ∧ 3 + 1 = 4 := by decide +kernel
theorem zi_96_4 : zraw 96 4 = some (.iload_n 2, 1) ∧ 4 + 1 = 5 := by decide +kernel
theorem zi_96_5 : zraw 96 5 = some (.aload_n 0, 1) ∧ 5 + 1 = 6 := by decide +kernel
theorem zi_96_6 : zraw 96 6 = some (.getfield 51, 3) ∧ zft (zinf 96).1 51 = some (8, 12, 0, false) ∧ 6 + 3 = 9 := by decide +kernel
theorem zi_96_9 : zraw 96 9 = some (.if_icmp .ge 33, 3) ∧ ((9 : Nat) : Int) + 33 = Int.ofNat 42 ∧ 9 + 3 = 12 := by decide +kernel
theorem zi_96_12 : zraw 96 12 = some (.aload_n 0, 1) ∧ 12 + 1 = 13 := by decide +kernel
theorem zi_96_13 : zraw 96 13 = some (.getfield 31, 3) ∧ zft (zinf 96).1 31 = some (8, 6, 3, true) ∧ 13 + 3 = 16 := by decide +kernel
theorem zi_96_16 : zraw 96 16 = some (.iload_n 2, 1) ∧ 16 + 1 = 17 := by decide +kernel
theorem zi_96_17 : zraw 96 17 = some (.iload_n 1, 1) ∧ 17 + 1 = 18 := by decide +kernel
theorem zi_96_18 : zraw 96 18 = some (.iastore, 1) ∧ 18 + 1 = 19 := by decide +kernel
theorem zi_96_19 : zraw 96 19 = some (.iload_n 1, 1) ∧ 19 + 1 = 20 := by decide +kernel
theorem zi_96_20 : zraw 96 20 = some (.aload_n 0, 1) ∧ 20 + 1 = 21 := by decide +kernel
theorem zi_96_21 : zraw 96 21 = some (.getfield 25, 3) ∧ zft (zinf 96).1 25 = some (8, 4, 3, true) ∧ 21 + 3 = 24 := by decide +kernel
theorem zi_96_24 : zraw 96 24 = some (.iload_n 2, 1) ∧ 24 + 1 = 25 := by decide +kernel
theorem zi_96_25 : zraw 96 25 = some (.iaload, 1) ∧ 25 + 1 = 26 := by decide +kernel
theorem zi_96_26 : zraw 96 26 = some (.ifCond .ne 7, 3) ∧ ((26 : Nat) : Int) + 7 = Int.ofNat 33 ∧ 26 + 3 = 29 := by decide +kernel
theorem zi_96_29 : zraw 96 29 = some (.iconst 1, 1) ∧ zin 128 1 = true ∧ 29 + 1 = 30 := by decide +kernel
theorem zi_96_30 : zraw 96 30 = some (.goto 4, 3) ∧ ((30 : Nat) : Int) + 4 = Int.ofNat 34 := by decide +kernel
theorem zi_96_33 : zraw 96 33 = some (.iconst 0, 1) ∧ zin 128 0 = true ∧ 33 + 1 = 34 := by decide +kernel
theorem zi_96_34 : zraw 96 34 = some (.iadd, 1) ∧ 34 + 1 = 35 := by decide +kernel
theorem zi_96_35 : zraw 96 35 = some (.istore_n 1, 1) ∧ 35 + 1 = 36 := by decide +kernel
theorem zi_96_36 : zraw 96 36 = some (.iinc 2 1, 3) ∧ zin 32768 1 = true ∧ 36 + 3 = 39 := by decide +kernel
theorem zi_96_39 : zraw 96 39 = some (.goto (-35), 3) ∧ ((39 : Nat) : Int) + (-35) = Int.ofNat 4 := by decide +kernel
theorem zi_96_42 : zraw 96 42 = some (.iconst 0, 1) ∧ zin 128 0 = true ∧ 42 + 1 = 43 := by decide +kernel
theorem zi_96_43 : zraw 96 43 = some (.istore_n 2, 1) ∧ 43 + 1 = 44 := by decide +kernel
theorem zi_96_44 : zraw 96 44 = some (.iload_n 2, 1) ∧ 44 + 1 = 45 := by decide +kernel
theorem zi_96_45 : zraw 96 45 = some (.aload_n 0, 1) ∧ 45 + 1 = 46 := by decide +kernel
theorem zi_96_46 : zraw 96 46 = some (.getfield 51, 3) ∧ zft (zinf 96).1 51 = some (8, 12, 0, false) ∧ 46 + 3 = 49 := by decide +kernel
theorem zi_96_49 : zraw 96 49 = some (.if_icmp .ge 45, 3) ∧ ((49 : Nat) : Int) + 45 = Int.ofNat 94 ∧ 49 + 3 = 52 := by decide +kernel
theorem zi_96_52 : zraw 96 52 = some (.aload_n 0, 1) ∧ 52 + 1 = 53 := by decide +kernel
theorem zi_96_53 : zraw 96 53 = some (.getfield 34, 3) ∧ zft (zinf 96).1 34 = some (8, 7, 3, true) ∧ 53 + 3 = 56 := by decide +kernel
theorem zi_96_56 : zraw 96 56 = some (.iload_n 2, 1) ∧ 56 + 1 = 57 := by decide +kernel
theorem zi_96_57 : zraw 96 57 = some (.aload_n 0, 1) ∧ 57 + 1 = 58 := by decide +kernel
theorem zi_96_58 : zraw 96 58 = some (.getfield 22, 3) ∧ zft (zinf 96).1 22 = some (8, 3, 3, true) ∧ 58 + 3 = 61 := by decide +kernel
theorem zi_96_61 : zraw 96 61 = some (.iload_n 2, 1) ∧ 61 + 1 = 62 := by decide +kernel
theorem zi_96_62 : zraw 96 62 = some (.iaload, 1) ∧ 62 + 1 = 63 := by decide +kernel
theorem zi_96_63 : zraw 96 63 = some (.aload_n 0, 1) ∧ 63 + 1 = 64 := by decide +kernel
theorem zi_96_64 : zraw 96 64 = some (.getfield 51, 3) ∧ zft (zinf 96).1 51 = some (8, 12, 0, false) ∧ 64 + 3 = 67 := by decide +kernel
theorem zi_96_67 : zraw 96 67 = some (.if_icmp .ge 17, 3) ∧ ((67 : Nat) : Int) + 17 = Int.ofNat 84 ∧ 67 + 3 = 70 := by decide +kernel
theorem zi_96_70 : zraw 96 70 = some (.aload_n 0, 1) ∧ 70 + 1 = 71 := by decide +kernel
theorem zi_96_71 : zraw 96 71 = some (.getfield 31, 3) ∧ zft (zinf 96).1 31 = some (8, 6, 3, true) ∧ 71 + 3 = 74 := by decide +kernel
theorem zi_96_74 : zraw 96 74 = some (.aload_n 0, 1) ∧ 74 + 1 = 75 := by decide +kernel
theorem zi_96_75 : zraw 96 75 = some (.getfield 22, 3) ∧ zft (zinf 96).1 22 = some (8, 3, 3, true) ∧ 75 + 3 = 78 := by decide +kernel
theorem zi_96_78 : zraw 96 78 = some (.iload_n 2, 1) ∧ 78 + 1 = 79 := by decide +kernel
theorem zi_96_79 : zraw 96 79 = some (.iaload, 1) ∧ 79 + 1 = 80 := by decide +kernel
theorem zi_96_80 : zraw 96 80 = some (.iaload, 1) ∧ 80 + 1 = 81 := by decide +kernel
theorem zi_96_81 : zraw 96 81 = some (.goto 4, 3) ∧ ((81 : Nat) : Int) + 4 = Int.ofNat 85 := by decide +kernel
theorem zi_96_84 : zraw 96 84 = some (.iload_n 1, 1) ∧ 84 + 1 = 85 := by decide +kernel
theorem zi_96_85 : zraw 96 85 = some (.iconst 1, 1) ∧ zin 128 1 = true ∧ 85 + 1 = 86 := by decide +kernel
theorem zi_96_86 : zraw 96 86 = some (.isub, 1) ∧ 86 + 1 = 87 := by decide +kernel
theorem zi_96_87 : zraw 96 87 = some (.iastore, 1) ∧ 87 + 1 = 88 := by decide +kernel
theorem zi_96_88 : zraw 96 88 = some (.iinc 2 1, 3) ∧ zin 32768 1 = true ∧ 88 + 3 = 91 := by decide +kernel
theorem zi_96_91 : zraw 96 91 = some (.goto (-47), 3) ∧ ((91 : Nat) : Int) + (-47) = Int.ofNat 44 := by decide +kernel
theorem zi_96_94 : zraw 96 94 = some (.return_, 1) ∧ (zinf 96).2.2.2.1 = 0 := by decide +kernel
theorem ze_96 {K : List zF} {σ : zW} {t : Nat} : zEv true (zent 96 [.inr (.inr t)] :: K) σ = (zEv true ((96, 4, [some (.inr (.inr t)), some (.inl 0), some (.inl 0)], []) :: K) σ) :=
  yT_en (f := (96, 0, [some (.inr (.inr t)), none, none], [])) rfl (yI_iconst zi_96_0 <| yI_istore_n (l := [some (.inr (.inr t)), some (.inl 0), none]) zi_96_1 rfl rfl <| yI_iconst zi_96_2 <| yI_istore_n (l := [some (.inr (.inr t)), some (.inl 0), some (.inl 0)]) zi_96_3 rfl rfl <| rfl)
theorem zj_96_4 {K : List zF} {σ : zW} {x0 : Nat} {x1 : Int} {x2 : Int} (h1 : zTr x0) : zEv true ((96, 4, [some (.inr (.inr x0)), some (.inl x1), some (.inl x2)], []) :: K) σ = (if (gI σ x0 12) ≤ x2 then zEv true ((96, 44, [some (.inr (.inr x0)), some (.inl x1), some (.inl 0)], []) :: K) σ else (0 ≤ x2 ∧ x2 < 20) ∧ ((0 ≤ x2 ∧ x2 < 20) ∧ zEv true ((96, 4, [some (.inr (.inr x0)), some (.inl (w32 (x1 + (if ¬ (gI σ (x0 + 5) x2.toNat) = 0 then 0 else 1 : Int)))), some (.inl (w32 (x2 + 1)))], []) :: K) (sI σ (x0 + 7) x2.toNat x1))) :=
  yI_iload_n zi_96_4 rfl <| yI_aload_n zi_96_5 rfl <| yI_gf_i (v := gI σ x0 12) zi_96_6 (zTr_k h1) rfl <| yI_ic_ge zi_96_9 <| yBr (yI_iconst zi_96_42 <| yI_istore_n (l := [some (.inr (.inr x0)), some (.inl x1), some (.inl 0)]) zi_96_43 rfl rfl <| rfl) (yI_aload_n zi_96_12 rfl <| yI_gf_f (v := x0 + 7) zi_96_13 (zTr_k h1) rfl <| yI_iload_n zi_96_16 rfl <| yI_iload_n zi_96_17 rfl <| yI_iastorec zi_96_18 (zTr_a7 h1) <| yI_iload_n zi_96_19 rfl <| yI_aload_n zi_96_20 rfl <| yI_gf_f (v := x0 + 5) zi_96_21 (zTr_k h1) rfl <| yI_iload_n zi_96_24 rfl <| yI_ialoadc (v := gI σ (x0 + 5) x2.toNat) zi_96_25 (zTr_a5 h1) (yGI_nk (by omega)) <| yI_if_ne zi_96_26 <| yMi0 (j := 34) (ls2 := [some (.inr (.inr x0)), some (.inl x1), some (.inl x2)]) (st2 := [.inl x1]) (x := 0) (y := 1) (σ2 := (sI σ (x0 + 7) x2.toNat x1)) (yI_iconst zi_96_33 <| rfl) (yI_iconst zi_96_29 <| yI_goto zi_96_30 <| rfl) <| yI_iadd zi_96_34 <| yI_istore_n (l := [some (.inr (.inr x0)), some (.inl (w32 (x1 + (if ¬ (gI σ (x0 + 5) x2.toNat) = 0 then 0 else 1 : Int)))), some (.inl x2)]) zi_96_35 rfl rfl <| yI_iinc (l := [some (.inr (.inr x0)), some (.inl (w32 (x1 + (if ¬ (gI σ (x0 + 5) x2.toNat) = 0 then 0 else 1 : Int)))), some (.inl (w32 (x2 + 1)))]) zi_96_36 rfl rfl rfl <| yI_goto zi_96_39 <| rfl)
theorem zj_96_44 {K : List zF} {σ : zW} {x0 : Nat} {x1 : Int} {x2 : Int} (h1 : zTr x0) : zEv true ((96, 44, [some (.inr (.inr x0)), some (.inl x1), some (.inl x2)], []) :: K) σ = (if (gI σ x0 12) ≤ x2 then zRet true K none σ else (0 ≤ x2 ∧ x2 < 20) ∧ ((¬ ((gI σ x0 12) ≤ (gI σ (x0 + 4) x2.toNat)) → ((0 ≤ x2 ∧ x2 < 20) ∧ (0 ≤ (gI σ (x0 + 4) x2.toNat) ∧ (gI σ (x0 + 4) x2.toNat) < 20))) ∧ ((0 ≤ x2 ∧ x2 < 20) ∧ zEv true ((96, 44, [some (.inr (.inr x0)), some (.inl x1), some (.inl (w32 (x2 + 1)))], []) :: K) (sI σ (x0 + 8) x2.toNat (w32 ((if (gI σ x0 12) ≤ (gI σ (x0 + 4) x2.toNat) then x1 else gI σ (x0 + 7) ((gI σ (x0 + 4) x2.toNat).toNat) : Int) - 1)))))) :=
  yI_iload_n zi_96_44 rfl <| yI_aload_n zi_96_45 rfl <| yI_gf_i (v := gI σ x0 12) zi_96_46 (zTr_k h1) rfl <| yI_ic_ge zi_96_49 <| yBr (yI_ret zi_96_94) (yI_aload_n zi_96_52 rfl <| yI_gf_f (v := x0 + 8) zi_96_53 (zTr_k h1) rfl <| yI_iload_n zi_96_56 rfl <| yI_aload_n zi_96_57 rfl <| yI_gf_f (v := x0 + 4) zi_96_58 (zTr_k h1) rfl <| yI_iload_n zi_96_61 rfl <| yI_ialoadc (v := gI σ (x0 + 4) x2.toNat) zi_96_62 (zTr_a4 h1) rfl <| yI_aload_n zi_96_63 rfl <| yI_gf_i (v := gI σ x0 12) zi_96_64 (zTr_k h1) rfl <| yI_ic_ge zi_96_67 <| yMi2 (j := 85) (ls2 := [some (.inr (.inr x0)), some (.inl x1), some (.inl x2)]) (st2 := [.inl x2, .inr (.inr (x0 + 8))]) (x := x1) (y := gI σ (x0 + 7) ((gI σ (x0 + 4) x2.toNat).toNat)) (σ2 := σ) (yI_iload_n zi_96_84 rfl <| rfl) ((yI_aload_n zi_96_70 rfl <| yI_gf_f (v := x0 + 7) zi_96_71 (zTr_k h1) rfl <| yI_aload_n zi_96_74 rfl <| yI_gf_f (v := x0 + 4) zi_96_75 (zTr_k h1) rfl <| yI_iload_n zi_96_78 rfl <| yI_ialoadc (v := gI σ (x0 + 4) x2.toNat) zi_96_79 (zTr_a4 h1) rfl <| yI_ialoadc (v := gI σ (x0 + 7) ((gI σ (x0 + 4) x2.toNat).toNat)) zi_96_80 (zTr_a7 h1) rfl <| yI_goto zi_96_81 <| rfl).trans (propext and_assoc.symm)) <| yI_iconst zi_96_85 <| yI_isub zi_96_86 <| yI_iastorec zi_96_87 (zTr_a8 h1) <| yI_iinc (l := [some (.inr (.inr x0)), some (.inl x1), some (.inl (w32 (x2 + 1)))]) zi_96_88 rfl rfl rfl <| yI_goto zi_96_91 <| rfl)
/-- 97 Treegrab$Tree.enterInIndex(J)V -/
theorem zi_97_0 : zraw 97 0 = some (.aload_n 0, 1) ∧ 0 + 1 = 1 := by decide +kernel
theorem zi_97_1 : zraw 97 1 = some (.lload_n 1, 1) ∧ 1 + 1 = 2 := by decide +kernel
theorem zi_97_2 : zraw 97 2 = some (.invokevirtual 90, 3) ∧ zmt (zinf 97).1 90 = some 98 ∧ Nat.ble 9000 98 = false ∧ zinf 98 = (8, 2, 6, 1, 0) ∧ 2 + 3 = 5 := by decide +kernel
theorem zi_97_5 : zraw 97 5 = some (.istore_n 3, 1) ∧ 5 + 1 = 6 := by decide +kernel
theorem zi_97_6 : zraw 97 6 = some (.iload_n 3, 1) ∧ 6 + 1 = 7 := by decide +kernel
theorem zi_97_7 : zraw 97 7 = some (.aload_n 0, 1) ∧ 7 + 1 = 8 := by decide +kernel
theorem zi_97_8 : zraw 97 8 = some (.getfield 74, 3) ∧ zft (zinf 97).1 74 = some (8, 11, 0, false) ∧ 8 + 3 = 11 := by decide +kernel
theorem zi_97_11 : zraw 97 11 = some (.if_icmp .ge 25, 3) ∧ ((11 : Nat) : Int) + 25 = Int.ofNat 36 ∧ 11 + 3 = 14 := by decide +kernel
theorem zi_97_14 : zraw 97 14 = some (.aload_n 0, 1) ∧ 14 + 1 = 15 := by decide +kernel
theorem zi_97_15 : zraw 97 15 = some (.getfield 37, 3) ∧ zft (zinf 97).1 37 = some (8, 8, 3, true) ∧ 15 + 3 = 18 := by decide +kernel
theorem zi_97_18 : zraw 97 18 = some (.iload_n 3, 1) ∧ 18 + 1 = 19 := by decide +kernel
theorem zi_97_19 : zraw 97 19 = some (.laload, 1) ∧ 19 + 1 = 20 := by decide +kernel
theorem zi_97_20 : zraw 97 20 = some (.lload_n 1, 1) ∧ 20 + 1 = 21 := by decide +kernel
theorem zi_97_21 : zraw 97 21 = some (.lcmp, 1) ∧ 21 + 1 = 22 := by decide +kernel
theorem zi_97_22 : zraw 97 22 = some (.ifCond .ne 14, 3) ∧ ((22 : Nat) : Int) + 14 = Int.ofNat 36 ∧ 22 + 3 = 25 := by decide +kernel
theorem zi_97_25 : zraw 97 25 = some (.aload_n 0, 1) ∧ 25 + 1 = 26 := by decide +kernel
theorem zi_97_26 : zraw 97 26 = some (.getfield 40, 3) ∧ zft (zinf 97).1 40 = some (8, 9, 3, true) ∧ 26 + 3 = 29 := by decide +kernel
theorem zi_97_29 : zraw 97 29 = some (.iload_n 3, 1) ∧ 29 + 1 = 30 := by decide +kernel
theorem zi_97_30 : zraw 97 30 = some (.dup2, 1) ∧ 30 + 1 = 31 := by decide +kernel
theorem zi_97_31 : zraw 97 31 = some (.iaload, 1) ∧ 31 + 1 = 32 := by decide +kernel
theorem zi_97_32 : zraw 97 32 = some (.iconst 1, 1) ∧ zin 128 1 = true ∧ 32 + 1 = 33 := by decide +kernel
theorem zi_97_33 : zraw 97 33 = some (.iadd, 1) ∧ 33 + 1 = 34 := by decide +kernel
theorem zi_97_34 : zraw 97 34 = some (.iastore, 1) ∧ 34 + 1 = 35 := by decide +kernel
theorem zi_97_35 : zraw 97 35 = some (.return_, 1) ∧ (zinf 97).2.2.2.1 = 0 := by decide +kernel
theorem zi_97_36 : zraw 97 36 = some (.aload_n 0, 1) ∧ 36 + 1 = 37 := by decide +kernel
theorem zi_97_37 : zraw 97 37 = some (.getfield 74, 3) ∧ zft (zinf 97).1 74 = some (8, 11, 0, false) ∧ 37 + 3 = 40 := by decide +kernel
theorem zi_97_40 : zraw 97 40 = some (.istore 4, 2) ∧ 40 + 2 = 42 := by decide +kernel
theorem zi_97_42 : zraw 97 42 = some (.iload 4, 2) ∧ 42 + 2 = 44 := by decide +kernel
theorem zi_97_44 : zraw 97 44 = some (.iload_n 3, 1) ∧ 44 + 1 = 45 := by decide +kernel
theorem zi_97_45 : zraw 97 45 = some (.if_icmp .le 41, 3) ∧ ((45 : Nat) : Int) + 41 = Int.ofNat 86 ∧ 45 + 3 = 48 := by decide +kernel
theorem zi_97_48 : zraw 97 48 = some (.aload_n 0, 1) ∧ 48 + 1 = 49 := by decide +kernel
theorem zi_97_49 : zraw 97 49 = some (.getfield 37, 3) ∧ zft (zinf 97).1 37 = some (8, 8, 3, true) ∧ 49 + 3 = 52 := by decide +kernel
theorem zi_97_52 : zraw 97 52 = some (.iload 4, 2) ∧ 52 + 2 = 54 := by decide +kernel
theorem zi_97_54 : zraw 97 54 = some (.aload_n 0, 1) ∧ 54 + 1 = 55 := by decide +kernel
theorem zi_97_55 : zraw 97 55 = some (.getfield 37, 3) ∧ zft (zinf 97).1 37 = some (8, 8, 3, true) ∧ 55 + 3 = 58 := by decide +kernel
theorem zi_97_58 : zraw 97 58 = some (.iload 4, 2) ∧ 58 + 2 = 60 := by decide +kernel
theorem zi_97_60 : zraw 97 60 = some (.iconst 1, 1) ∧ zin 128 1 = true ∧ 60 + 1 = 61 := by decide +kernel
theorem zi_97_61 : zraw 97 61 = some (.isub, 1) ∧ 61 + 1 = 62 := by decide +kernel
theorem zi_97_62 : zraw 97 62 = some (.laload, 1) ∧ 62 + 1 = 63 := by decide +kernel
theorem zi_97_63 : zraw 97 63 = some (.lastore, 1) ∧ 63 + 1 = 64 := by decide +kernel
theorem zi_97_64 : zraw 97 64 = some (.aload_n 0, 1) ∧ 64 + 1 = 65 := by decide +kernel
theorem zi_97_65 : zraw 97 65 = some (.getfield 40, 3) ∧ zft (zinf 97).1 40 = some (8, 9, 3, true) ∧ 65 + 3 = 68 := by decide +kernel
theorem zi_97_68 : zraw 97 68 = some (.iload 4, 2) ∧ 68 + 2 = 70 := by decide +kernel
theorem zi_97_70 : zraw 97 70 = some (.aload_n 0, 1) ∧ 70 + 1 = 71 := by decide +kernel
theorem zi_97_71 : zraw 97 71 = some (.getfield 40, 3) ∧ zft (zinf 97).1 40 = some (8, 9, 3, true) ∧ 71 + 3 = 74 := by decide +kernel
theorem zi_97_74 : zraw 97 74 = some (.iload 4, 2) ∧ 74 + 2 = 76 := by decide +kernel
theorem zi_97_76 : zraw 97 76 = some (.iconst 1, 1) ∧ zin 128 1 = true ∧ 76 + 1 = 77 := by decide +kernel
theorem zi_97_77 : zraw 97 77 = some (.isub, 1) ∧ 77 + 1 = 78 := by decide +kernel
theorem zi_97_78 : zraw 97 78 = some (.iaload, 1) ∧ 78 + 1 = 79 := by decide +kernel
theorem zi_97_79 : zraw 97 79 = some (.iastore, 1) ∧ 79 + 1 = 80 := by decide +kernel
theorem zi_97_80 : zraw 97 80 = some (.iinc 4 (-1), 3) ∧ zin 32768 (-1) = true ∧ 80 + 3 = 83 := by decide +kernel
theorem zi_97_83 : zraw 97 83 = some (.goto (-41), 3) ∧ ((83 : Nat) : Int) + (-41) = Int.ofNat 42 := by decide +kernel
theorem zi_97_86 : zraw 97 86 = some (.aload_n 0, 1) ∧ 86 + 1 = 87 := by decide +kernel
theorem zi_97_87 : zraw 97 87 = some (.getfield 37, 3) ∧ zft (zinf 97).1 37 = some (8, 8, 3, true) ∧ 87 + 3 = 90 := by decide +kernel
theorem zi_97_90 : zraw 97 90 = some (.iload_n 3, 1) ∧ 90 + 1 = 91 := by decide +kernel
theorem zi_97_91 : zraw 97 91 = some (.lload_n 1, 1) ∧ 91 + 1 = 92 := by decide +kernel
theorem zi_97_92 : zraw 97 92 = some (.lastore, 1) ∧ 92 + 1 = 93 := by decide +kernel
theorem zi_97_93 : zraw 97 93 = some (.aload_n 0, 1) ∧ 93 + 1 = 94 := by decide +kernel
theorem zi_97_94 : zraw 97 94 = some (.getfield 40, 3) ∧ zft (zinf 97).1 40 = some (8, 9, 3, true) ∧ 94 + 3 = 97 := by decide +kernel
theorem zi_97_97 : zraw 97 97 = some (.iload_n 3, 1) ∧ 97 + 1 = 98 := by decide +kernel
theorem zi_97_98 : zraw 97 98 = some (.iconst 1, 1) ∧ zin 128 1 = true ∧ 98 + 1 = 99 := by decide +kernel
theorem zi_97_99 : zraw 97 99 = some (.iastore, 1) ∧ 99 + 1 = 100 := by decide +kernel
theorem zi_97_100 : zraw 97 100 = some (.aload_n 0, 1) ∧ 100 + 1 = 101 := by decide +kernel
theorem zi_97_101 : zraw 97 101 = some (.dup, 1) ∧ 101 + 1 = 102 := by decide +kernel
theorem zi_97_102 : zraw 97 102 = some (.getfield 74, 3) ∧ zft (zinf 97).1 74 = some (8, 11, 0, false) ∧ 102 + 3 = 105 := by decide +kernel
theorem zi_97_105 : zraw 97 105 = some (.iconst 1, 1) ∧ zin 128 1 = true ∧ 105 + 1 = 106 := by decide +kernel
theorem zi_97_106 : zraw 97 106 = some (.iadd, 1) ∧ 106 + 1 = 107 := by decide +kernel
theorem zi_97_107 : zraw 97 107 = some (.putfield 74, 3) ∧ zft (zinf 97).1 74 = some (8, 11, 0, false) ∧ 107 + 3 = 110 := by decide +kernel
theorem zi_97_110 : zraw 97 110 = some (.return_, 1) ∧ (zinf 97).2.2.2.1 = 0 := by decide +kernel
theorem ze_97 {K : List zF} {σ : zW} {t : Nat} {x1 : Int64} (hK : K.length < 60) (h1 : zTr t) : zEv true (zent 97 [.inr (.inr t), .inr (.inl x1)] :: K) σ = (zEv true (zent 98 [.inr (.inr t), .inr (.inl x1)] :: (97, 5, [some (.inr (.inr t)), some (.inr (.inl x1)), none, none, none], []) :: K) σ) :=
  yT_en (f := (97, 0, [some (.inr (.inr t)), some (.inr (.inl x1)), none, none, none], [])) rfl (yI_aload_n zi_97_0 rfl <| yI_lload_n zi_97_1 rfl <| yI_cv zi_97_2 rfl rfl (zTr_k h1) hK)
theorem zr_97_5 {K : List zF} {σ : zW} {x0 : Nat} {x1 : Int64} {o3 : Option zV} {o4 : Option zV} {v : Int} (h1 : zTr x0) : zRet true ((97, 5, [some (.inr (.inr x0)), some (.inr (.inl x1)), none, o3, o4], []) :: K) (some (.inl v)) σ = (if (gI σ x0 11) ≤ v then zEv true ((97, 36, [some (.inr (.inr x0)), some (.inr (.inl x1)), none, some (.inl v), o4], []) :: K) σ else (0 ≤ v ∧ v < 20) ∧ (if ¬ (zlc (gL σ (x0 + 9) v.toNat) x1) = 0 then zEv true ((97, 36, [some (.inr (.inr x0)), some (.inr (.inl x1)), none, some (.inl v), o4], []) :: K) σ else (0 ≤ v ∧ v < 20) ∧ ((0 ≤ v ∧ v < 20) ∧ zRet true K none (sI σ (x0 + 10) v.toNat (w32 ((gI σ (x0 + 10) v.toNat) + 1)))))) :=
  yT_rt (yI_istore_n (l := [some (.inr (.inr x0)), some (.inr (.inl x1)), none, some (.inl v), o4]) zi_97_5 rfl rfl <| yI_iload_n zi_97_6 rfl <| yI_aload_n zi_97_7 rfl <| yI_gf_i (v := gI σ x0 11) zi_97_8 (zTr_k h1) rfl <| yI_ic_ge zi_97_11 <| yBr (rfl) (yI_aload_n zi_97_14 rfl <| yI_gf_f (v := x0 + 9) zi_97_15 (zTr_k h1) rfl <| yI_iload_n zi_97_18 rfl <| yI_laloadc (v := gL σ (x0 + 9) v.toNat) zi_97_19 (zTr_a9 h1) rfl <| yI_lload_n zi_97_20 rfl <| yI_lcmp zi_97_21 <| yI_if_ne zi_97_22 <| yBr (rfl) (yI_aload_n zi_97_25 rfl <| yI_gf_f (v := x0 + 10) zi_97_26 (zTr_k h1) rfl <| yI_iload_n zi_97_29 rfl <| yI_dup2_ir zi_97_30 <| yI_ialoadc (v := gI σ (x0 + 10) v.toNat) zi_97_31 (zTr_a10 h1) rfl <| yI_iconst zi_97_32 <| yI_iadd zi_97_33 <| yI_iastorec zi_97_34 (zTr_a10 h1) <| yI_ret zi_97_35)))
theorem zj_97_36 {K : List zF} {σ : zW} {x0 : Nat} {x1 : Int64} {x3 : Int} {o4 : Option zV} (h1 : zTr x0) : zEv true ((97, 36, [some (.inr (.inr x0)), some (.inr (.inl x1)), none, some (.inl x3), o4], []) :: K) σ = (zEv true ((97, 42, [some (.inr (.inr x0)), some (.inr (.inl x1)), none, some (.inl x3), some (.inl (gI σ x0 11))], []) :: K) σ) :=
  yI_aload_n zi_97_36 rfl <| yI_gf_i (v := gI σ x0 11) zi_97_37 (zTr_k h1) rfl <| yI_istore (l := [some (.inr (.inr x0)), some (.inr (.inl x1)), none, some (.inl x3), some (.inl (gI σ x0 11))]) zi_97_40 rfl rfl <| rfl
theorem zj_97_42 {K : List zF} {σ : zW} {x0 : Nat} {x1 : Int64} {x3 : Int} {x4 : Int} (h1 : zTr x0) : zEv true ((97, 42, [some (.inr (.inr x0)), some (.inr (.inl x1)), none, some (.inl x3), some (.inl x4)], []) :: K) σ = (if x4 ≤ x3 then (0 ≤ x3 ∧ x3 < 20) ∧ ((0 ≤ x3 ∧ x3 < 20) ∧ zRet true K none (sI (sI (sL σ (x0 + 9) x3.toNat x1) (x0 + 10) x3.toNat 1) x0 11 (w32 ((gI σ x0 11) + 1)))) else (0 ≤ (w32 (x4 - 1)) ∧ (w32 (x4 - 1)) < 20) ∧ ((0 ≤ x4 ∧ x4 < 20) ∧ ((0 ≤ (w32 (x4 - 1)) ∧ (w32 (x4 - 1)) < 20) ∧ ((0 ≤ x4 ∧ x4 < 20) ∧ zEv true ((97, 42, [some (.inr (.inr x0)), some (.inr (.inl x1)), none, some (.inl x3), some (.inl (w32 (x4 + (-1))))], []) :: K) (sI (sL σ (x0 + 9) x4.toNat (gL σ (x0 + 9) ((w32 (x4 - 1)).toNat))) (x0 + 10) x4.toNat (gI σ (x0 + 10) ((w32 (x4 - 1)).toNat))))))) :=
  yI_iload zi_97_42 rfl <| yI_iload_n zi_97_44 rfl <| yI_ic_le zi_97_45 <| yBr (yI_aload_n zi_97_86 rfl <| yI_gf_f (v := x0 + 9) zi_97_87 (zTr_k h1) rfl <| yI_iload_n zi_97_90 rfl <| yI_lload_n zi_97_91 rfl <| yI_lastorec zi_97_92 (zTr_a9 h1) <| yI_aload_n zi_97_93 rfl <| yI_gf_f (v := x0 + 10) zi_97_94 (zTr_k h1) rfl <| yI_iload_n zi_97_97 rfl <| yI_iconst zi_97_98 <| yI_iastorec zi_97_99 (zTr_a10 h1) <| yI_aload_n zi_97_100 rfl <| yI_dup_r zi_97_101 <| yI_gf_i (v := gI σ x0 11) zi_97_102 (zTr_k h1) ((yGI_nk (by omega)).trans (gI_sL _ _ _ _ _ _)) <| yI_iconst zi_97_105 <| yI_iadd zi_97_106 <| yI_pf_i zi_97_107 (zTr_k h1) <| yI_ret zi_97_110) (yI_aload_n zi_97_48 rfl <| yI_gf_f (v := x0 + 9) zi_97_49 (zTr_k h1) rfl <| yI_iload zi_97_52 rfl <| yI_aload_n zi_97_54 rfl <| yI_gf_f (v := x0 + 9) zi_97_55 (zTr_k h1) rfl <| yI_iload zi_97_58 rfl <| yI_iconst zi_97_60 <| yI_isub zi_97_61 <| yI_laloadc (v := gL σ (x0 + 9) ((w32 (x4 - 1)).toNat)) zi_97_62 (zTr_a9 h1) rfl <| yI_lastorec zi_97_63 (zTr_a9 h1) <| yI_aload_n zi_97_64 rfl <| yI_gf_f (v := x0 + 10) zi_97_65 (zTr_k h1) rfl <| yI_iload zi_97_68 rfl <| yI_aload_n zi_97_70 rfl <| yI_gf_f (v := x0 + 10) zi_97_71 (zTr_k h1) rfl <| yI_iload zi_97_74 rfl <| yI_iconst zi_97_76 <| yI_isub zi_97_77 <| yI_ialoadc (v := gI σ (x0 + 10) ((w32 (x4 - 1)).toNat)) zi_97_78 (zTr_a10 h1) rfl <| yI_iastorec zi_97_79 (zTr_a10 h1) <| yI_iinc (l := [some (.inr (.inr x0)), some (.inr (.inl x1)), none, some (.inl x3), some (.inl (w32 (x4 + (-1))))]) zi_97_80 rfl rfl rfl <| yI_goto zi_97_83 <| rfl)
/-- 98 Treegrab$Tree.seek(J)I -/
theorem zi_98_0 : zraw 98 0 = some (.iconst 0, 1) ∧ zin 128 0 = true ∧ 0 + 1 = 1 := by decide +kernel
theorem zi_98_1 : zraw 98 1 = some (.istore_n 3, 1) ∧ 1 + 1 = 2 := by decide +kernel
theorem zi_98_2 : zraw 98 2 = some (.aload_n 0, 1) ∧ 2 + 1 = 3 := by decide +kernel
theorem zi_98_3 : zraw 98 3 = some (.getfield 74, 3) ∧ zft (zinf 98).1 74 = some (8, 11, 0, false) ∧ 3 + 3 = 6 := by decide +kernel
theorem zi_98_6 : zraw 98 6 = some (.istore 4, 2) ∧ 6 + 2 = 8 := by decide +kernel
theorem zi_98_8 : zraw 98 8 = some (.iload_n 3, 1) ∧ 8 + 1 = 9 := by decide +kernel
theorem zi_98_9 : zraw 98 9 = some (.iload 4, 2) ∧ 9 + 2 = 11 := by decide +kernel
theorem zi_98_11 : zraw 98 11 = some (.if_icmp .ge 38, 3) ∧ ((11 : Nat) : Int) + 38 = Int.ofNat 49 ∧ 11 + 3 = 14 := by decide +kernel
theorem zi_98_14 : zraw 98 14 = some (.iload_n 3, 1) ∧ 14 + 1 = 15 := by decide +kernel
theorem zi_98_15 : zraw 98 15 = some (.iload 4, 2) ∧ 15 + 2 = 17 := by decide +kernel
theorem zi_98_17 : zraw 98 17 = some (.iadd, 1) ∧ 17 + 1 = 18 := by decide +kernel
theorem zi_98_18 : zraw 98 18 = some (.iconst 2, 1) ∧ zin 128 2 = true ∧ 18 + 1 = 19 := by decide +kernel
theorem zi_98_19 : zraw 98 19 = some (.idiv, 1) ∧ 19 + 1 = 20 := by decide +kernel
theorem zi_98_20 : zraw 98 20 = some (.istore 5, 2) ∧ 20 + 2 = 22 := by decide +kernel
theorem zi_98_22 : zraw 98 22 = some (.aload_n 0, 1) ∧ 22 + 1 = 23 := by decide +kernel
theorem zi_98_23 : zraw 98 23 = some (.getfield 37, 3) ∧ zft (zinf 98).1 37 = some (8, 8, 3, true) ∧ 23 + 3 = 26 := by decide +kernel
theorem zi_98_26 : zraw 98 26 = some (.iload 5, 2) ∧ 26 + 2 = 28 := by decide +kernel
theorem zi_98_28 : zraw 98 28 = some (.laload, 1) ∧ 28 + 1 = 29 := by decide +kernel
theorem zi_98_29 : zraw 98 29 = some (.lload_n 1, 1) ∧ 29 + 1 = 30 := by decide +kernel
theorem zi_98_30 : zraw 98 30 = some (.lcmp, 1) ∧ 30 + 1 = 31 := by decide +kernel
theorem zi_98_31 : zraw 98 31 = some (.ifCond .ge 11, 3) ∧ ((31 : Nat) : Int) + 11 = Int.ofNat 42 ∧ 31 + 3 = 34 := by decide +kernel
theorem zi_98_34 : zraw 98 34 = some (.iload 5, 2) ∧ 34 + 2 = 36 := by decide +kernel
theorem zi_98_36 : zraw 98 36 = some (.iconst 1, 1) ∧ zin 128 1 = true ∧ 36 + 1 = 37 := by decide +kernel
theorem zi_98_37 : zraw 98 37 = some (.iadd, 1) ∧ 37 + 1 = 38 := by decide +kernel
theorem zi_98_38 : zraw 98 38 = some (.istore_n 3, 1) ∧ 38 + 1 = 39 := by decide +kernel
theorem zi_98_39 : zraw 98 39 = some (.goto 7, 3) ∧ ((39 : Nat) : Int) + 7 = Int.ofNat 46 := by decide +kernel
theorem zi_98_42 : zraw 98 42 = some (.iload 5, 2) ∧ 42 + 2 = 44 := by decide +kernel
theorem zi_98_44 : zraw 98 44 = some (.istore 4, 2) ∧ 44 + 2 = 46 := by decide +kernel
theorem zi_98_46 : zraw 98 46 = some (.goto (-38), 3) ∧ ((46 : Nat) : Int) + (-38) = Int.ofNat 8 := by decide +kernel
theorem zi_98_49 : zraw 98 49 = some (.iload_n 3, 1) ∧ 49 + 1 = 50 := by decide +kernel
theorem zi_98_50 : zraw 98 50 = some (.ireturn, 1) ∧ (zinf 98).2.2.2.1 = 1 := by decide +kernel
theorem ze_98 {K : List zF} {σ : zW} {t : Nat} {x1 : Int64} (h1 : zTr t) : zEv true (zent 98 [.inr (.inr t), .inr (.inl x1)] :: K) σ = (zEv true ((98, 8, [some (.inr (.inr t)), some (.inr (.inl x1)), none, some (.inl 0), some (.inl (gI σ t 11)), none], []) :: K) σ) :=
  yT_en (f := (98, 0, [some (.inr (.inr t)), some (.inr (.inl x1)), none, none, none, none], [])) rfl (yI_iconst zi_98_0 <| yI_istore_n (l := [some (.inr (.inr t)), some (.inr (.inl x1)), none, some (.inl 0), none, none]) zi_98_1 rfl rfl <| yI_aload_n zi_98_2 rfl <| yI_gf_i (v := gI σ t 11) zi_98_3 (zTr_k h1) rfl <| yI_istore (l := [some (.inr (.inr t)), some (.inr (.inl x1)), none, some (.inl 0), some (.inl (gI σ t 11)), none]) zi_98_6 rfl rfl <| rfl)
theorem zj_98_8 {K : List zF} {σ : zW} {x0 : Nat} {x1 : Int64} {x3 : Int} {x4 : Int} {o5 : Option zV} (h1 : zTr x0) : zEv true ((98, 8, [some (.inr (.inr x0)), some (.inr (.inl x1)), none, some (.inl x3), some (.inl x4), o5], []) :: K) σ = (if x4 ≤ x3 then zRet true K (some (.inl x3)) σ else (0 ≤ (zdiv (w32 (x3 + x4)) 2) ∧ (zdiv (w32 (x3 + x4)) 2) < 20) ∧ (if 0 ≤ (zlc (gL σ (x0 + 9) ((zdiv (w32 (x3 + x4)) 2).toNat)) x1) then zEv true ((98, 8, [some (.inr (.inr x0)), some (.inr (.inl x1)), none, some (.inl x3), some (.inl (zdiv (w32 (x3 + x4)) 2)), some (.inl (zdiv (w32 (x3 + x4)) 2))], []) :: K) σ else zEv true ((98, 8, [some (.inr (.inr x0)), some (.inr (.inl x1)), none, some (.inl (w32 ((zdiv (w32 (x3 + x4)) 2) + 1))), some (.inl x4), some (.inl (zdiv (w32 (x3 + x4)) 2))], []) :: K) σ)) :=
  yI_iload_n zi_98_8 rfl <| yI_iload zi_98_9 rfl <| yI_ic_ge zi_98_11 <| yBr (yI_iload_n zi_98_49 rfl <| yI_ireturn zi_98_50) (yI_iload_n zi_98_14 rfl <| yI_iload zi_98_15 rfl <| yI_iadd zi_98_17 <| yI_iconst zi_98_18 <| yI_idiv zi_98_19 (by decide) <| yI_istore (l := [some (.inr (.inr x0)), some (.inr (.inl x1)), none, some (.inl x3), some (.inl x4), some (.inl (zdiv (w32 (x3 + x4)) 2))]) zi_98_20 rfl rfl <| yI_aload_n zi_98_22 rfl <| yI_gf_f (v := x0 + 9) zi_98_23 (zTr_k h1) rfl <| yI_iload zi_98_26 rfl <| yI_laloadc (v := gL σ (x0 + 9) ((zdiv (w32 (x3 + x4)) 2).toNat)) zi_98_28 (zTr_a9 h1) rfl <| yI_lload_n zi_98_29 rfl <| yI_lcmp zi_98_30 <| yI_if_ge zi_98_31 <| yBr (yI_iload zi_98_42 rfl <| yI_istore (l := [some (.inr (.inr x0)), some (.inr (.inl x1)), none, some (.inl x3), some (.inl (zdiv (w32 (x3 + x4)) 2)), some (.inl (zdiv (w32 (x3 + x4)) 2))]) zi_98_44 rfl rfl <| yI_goto zi_98_46 <| rfl) (yI_iload zi_98_34 rfl <| yI_iconst zi_98_36 <| yI_iadd zi_98_37 <| yI_istore_n (l := [some (.inr (.inr x0)), some (.inr (.inl x1)), none, some (.inl (w32 ((zdiv (w32 (x3 + x4)) 2) + 1))), some (.inl x4), some (.inl (zdiv (w32 (x3 + x4)) 2))]) zi_98_38 rfl rfl <| yI_goto zi_98_39 <| yI_goto zi_98_46 <| rfl))
/-- 99 Treegrab$Tree.holdersByIndex(J)I -/
theorem zi_99_0 : zraw 99 0 = some (.aload_n 0, 1) ∧ 0 + 1 = 1 := by decide +kernel
theorem zi_99_1 : zraw 99 1 = some (.lload_n 1, 1) ∧ 1 + 1 = 2 := by decide +kernel
theorem zi_99_2 : zraw 99 2 = some (.invokevirtual 90, 3) ∧ zmt (zinf 99).1 90 = some 98 ∧ Nat.ble 9000 98 = false ∧ zinf 98 = (8, 2, 6, 1, 0) ∧ 2 + 3 = 5 := by decide +kernel
theorem zi_99_5 : zraw 99 5 = some (.istore_n 3, 1) ∧ 5 + 1 = 6 := by decide +kernel
theorem zi_99_6 : zraw 99 6 = some (.iload_n 3, 1) ∧ 6 + 1 = 7 := by decide +kernel
theorem zi_99_7 : zraw 99 7 = some (.aload_n 0, 1) ∧ 7 + 1 = 8 := by decide +kernel
theorem zi_99_8 : zraw 99 8 = some (.getfield 74, 3) ∧ zft (zinf 99).1 74 = some (8, 11, 0, false) ∧ 8 + 3 = 11 := by decide +kernel
theorem zi_99_11 : zraw 99 11 = some (.if_icmp .ge 23, 3) ∧ ((11 : Nat) : Int) + 23 = Int.ofNat 34 ∧ 11 + 3 = 14 := by decide +kernel
theorem zi_99_14 : zraw 99 14 = some (.aload_n 0, 1) ∧ 14 + 1 = 15 := by decide +kernel
theorem zi_99_15 : zraw 99 15 = some (.getfield 37, 3) ∧ zft (zinf 99).1 37 = some (8, 8, 3, true) ∧ 15 + 3 = 18 := by decide +kernel
theorem zi_99_18 : zraw 99 18 = some (.iload_n 3, 1) ∧ 18 + 1 = 19 := by decide +kernel
theorem zi_99_19 : zraw 99 19 = some (.laload, 1) ∧ 19 + 1 = 20 := by decide +kernel
theorem zi_99_20 : zraw 99 20 = some (.lload_n 1, 1) ∧ 20 + 1 = 21 := by decide +kernel
theorem zi_99_21 : zraw 99 21 = some (.lcmp, 1) ∧ 21 + 1 = 22 := by decide +kernel
theorem zi_99_22 : zraw 99 22 = some (.ifCond .ne 12, 3) ∧ ((22 : Nat) : Int) + 12 = Int.ofNat 34 ∧ 22 + 3 = 25 := by decide +kernel
theorem zi_99_25 : zraw 99 25 = some (.aload_n 0, 1) ∧ 25 + 1 = 26 := by decide +kernel
theorem zi_99_26 : zraw 99 26 = some (.getfield 40, 3) ∧ zft (zinf 99).1 40 = some (8, 9, 3, true) ∧ 26 + 3 = 29 := by decide +kernel
theorem zi_99_29 : zraw 99 29 = some (.iload_n 3, 1) ∧ 29 + 1 = 30 := by decide +kernel
theorem zi_99_30 : zraw 99 30 = some (.iaload, 1) ∧ 30 + 1 = 31 := by decide +kernel
theorem zi_99_31 : zraw 99 31 = some (.goto 4, 3) ∧ ((31 : Nat) : Int) + 4 = Int.ofNat 35 := by decide +kernel
theorem zi_99_34 : zraw 99 34 = some (.iconst 0, 1) ∧ zin 128 0 = true ∧ 34 + 1 = 35 := by decide +kernel
theorem zi_99_35 : zraw 99 35 = some (.ireturn, 1) ∧ (zinf 99).2.2.2.1 = 1 := by decide +kernel
theorem ze_99 {K : List zF} {σ : zW} {t : Nat} {x1 : Int64} (hK : K.length < 60) (h1 : zTr t) : zEv true (zent 99 [.inr (.inr t), .inr (.inl x1)] :: K) σ = (zEv true (zent 98 [.inr (.inr t), .inr (.inl x1)] :: (99, 5, [some (.inr (.inr t)), some (.inr (.inl x1)), none, none], []) :: K) σ) :=
  yT_en (f := (99, 0, [some (.inr (.inr t)), some (.inr (.inl x1)), none, none], [])) rfl (yI_aload_n zi_99_0 rfl <| yI_lload_n zi_99_1 rfl <| yI_cv zi_99_2 rfl rfl (zTr_k h1) hK)
theorem zr_99_5 {K : List zF} {σ : zW} {x0 : Nat} {x1 : Int64} {o3 : Option zV} {v : Int} (h1 : zTr x0) : zRet true ((99, 5, [some (.inr (.inr x0)), some (.inr (.inl x1)), none, o3], []) :: K) (some (.inl v)) σ = (if (gI σ x0 11) ≤ v then zEv true ((99, 34, [some (.inr (.inr x0)), some (.inr (.inl x1)), none, some (.inl v)], []) :: K) σ else (0 ≤ v ∧ v < 20) ∧ (if ¬ (zlc (gL σ (x0 + 9) v.toNat) x1) = 0 then zEv true ((99, 34, [some (.inr (.inr x0)), some (.inr (.inl x1)), none, some (.inl v)], []) :: K) σ else (0 ≤ v ∧ v < 20) ∧ zRet true K (some (.inl (gI σ (x0 + 10) v.toNat))) σ)) :=
  yT_rt (yI_istore_n (l := [some (.inr (.inr x0)), some (.inr (.inl x1)), none, some (.inl v)]) zi_99_5 rfl rfl <| yI_iload_n zi_99_6 rfl <| yI_aload_n zi_99_7 rfl <| yI_gf_i (v := gI σ x0 11) zi_99_8 (zTr_k h1) rfl <| yI_ic_ge zi_99_11 <| yBr (rfl) (yI_aload_n zi_99_14 rfl <| yI_gf_f (v := x0 + 9) zi_99_15 (zTr_k h1) rfl <| yI_iload_n zi_99_18 rfl <| yI_laloadc (v := gL σ (x0 + 9) v.toNat) zi_99_19 (zTr_a9 h1) rfl <| yI_lload_n zi_99_20 rfl <| yI_lcmp zi_99_21 <| yI_if_ne zi_99_22 <| yBr (rfl) (yI_aload_n zi_99_25 rfl <| yI_gf_f (v := x0 + 10) zi_99_26 (zTr_k h1) rfl <| yI_iload_n zi_99_29 rfl <| yI_ialoadc (v := gI σ (x0 + 10) v.toNat) zi_99_30 (zTr_a10 h1) rfl <| yI_goto zi_99_31 <| yI_ireturn zi_99_35)))
theorem zj_99_34 {K : List zF} {σ : zW} {o0 : Option zV} {o1 : Option zV} {o2 : Option zV} {o3 : Option zV} : zEv true ((99, 34, [o0, o1, o2, o3], []) :: K) σ = (zRet true K (some (.inl 0)) σ) :=
  yI_iconst zi_99_34 <| yI_ireturn zi_99_35
/-- 100 Treegrab$Tree.holdersByWalk([II)I -/
theorem zi_100_0 : zraw 100 0 = some (.iconst 0, 1) ∧ zin 128 0 = true ∧ 0 + 1 = 1 := by decide +kernel
theorem zi_100_1 : zraw 100 1 = some (.istore_n 3, 1) ∧ 1 + 1 = 2 := by decide +kernel
theorem zi_100_2 : zraw 100 2 = some (.iconst 0, 1) ∧ zin 128 0 = true ∧ 2 + 1 = 3 := by decide +kernel
theorem zi_100_3 : zraw 100 3 = some (.istore 4, 2) ∧ 3 + 2 = 5 := by decide +kernel
theorem zi_100_5 : zraw 100 5 = some (.iload 4, 2) ∧ 5 + 2 = 7 := by decide +kernel
theorem zi_100_7 : zraw 100 7 = some (.aload_n 0, 1) ∧ 7 + 1 = 8 := by decide +kernel
theorem zi_100_8 : zraw 100 8 = some (.getfield 51, 3) ∧ zft (zinf 100).1 51 = some (8, 12, 0, false) ∧ 8 + 3 = 11 := by decide +kernel
theorem zi_100_11 : zraw 100 11 = some (.if_icmp .ge 32, 3) ∧ ((11 : Nat) : Int) + 32 = Int.ofNat 43 ∧ 11 + 3 = 14 := by decide +kernel
theorem zi_100_14 : zraw 100 14 = some (.iload_n 3, 1) ∧ 14 + 1 = 15 := by decide +kernel
theorem zi_100_15 : zraw 100 15 = some (.aload_n 0, 1) ∧ 15 + 1 = 16 := by decide +kernel
theorem zi_100_16 : zraw 100 16 = some (.getfield 9, 3) ∧ zft (zinf 100).1 9 = some (8, 0, 3, true) ∧ 16 + 3 = 19 := by decide +kernel
theorem zi_100_19 : zraw 100 19 = some (.iload 4, 2) ∧ 19 + 2 = 21 := by decide +kernel
theorem zi_100_21 : zraw 100 21 = some (.laload, 1) ∧ 21 + 1 = 22 := by decide +kernel
theorem zi_100_22 : zraw 100 22 = some (.aload_n 1, 1) ∧ 22 + 1 = 23 := by decide +kernel
theorem zi_100_23 : zraw 100 23 = some (.iload_n 2, 1) ∧ 23 + 1 = 24 := by decide +kernel
theorem zi_100_24 : zraw 100 24 = some (.invokestatic 94, 3) ∧ zmt (zinf 100).1 94 = some 101 ∧ Nat.ble 9000 101 = false ∧ zinf 101 = (8, 3, 6, 2, 1) ∧ 24 + 3 = 27 := by decide +kernel
theorem zi_100_27 : zraw 100 27 = some (.ifCond .eq 7, 3) ∧ ((27 : Nat) : Int) + 7 = Int.ofNat 34 ∧ 27 + 3 = 30 := by decide +kernel
theorem zi_100_30 : zraw 100 30 = some (.iconst 1, 1) ∧ zin 128 1 = true ∧ 30 + 1 = 31 := by decide +kernel
theorem zi_100_31 : zraw 100 31 = some (.goto 4, 3) ∧ ((31 : Nat) : Int) + 4 = Int.ofNat 35 := by decide +kernel
theorem zi_100_34 : zraw 100 34 = some (.iconst 0, 1) ∧ zin 128 0 = true ∧ 34 + 1 = 35 := by decide +kernel
theorem zi_100_35 : zraw 100 35 = some (.iadd, 1) ∧ 35 + 1 = 36 := by decide +kernel
theorem zi_100_36 : zraw 100 36 = some (.istore_n 3, 1) ∧ 36 + 1 = 37 := by decide +kernel
theorem zi_100_37 : zraw 100 37 = some (.iinc 4 1, 3) ∧ zin 32768 1 = true ∧ 37 + 3 = 40 := by decide +kernel
theorem zi_100_40 : zraw 100 40 = some (.goto (-35), 3) ∧ ((40 : Nat) : Int) + (-35) = Int.ofNat 5 := by decide +kernel
theorem zi_100_43 : zraw 100 43 = some (.iload_n 3, 1) ∧ 43 + 1 = 44 := by decide +kernel
theorem zi_100_44 : zraw 100 44 = some (.ireturn, 1) ∧ (zinf 100).2.2.2.1 = 1 := by decide +kernel
theorem ze_100 {K : List zF} {σ : zW} {t : Nat} {x2 : Int} : zEv true (zent 100 [.inr (.inr t), .inr (.inr 3), .inl x2] :: K) σ = (zEv true ((100, 5, [some (.inr (.inr t)), some (.inr (.inr 3)), some (.inl x2), some (.inl 0), some (.inl 0)], []) :: K) σ) :=
  yT_en (f := (100, 0, [some (.inr (.inr t)), some (.inr (.inr 3)), some (.inl x2), none, none], [])) rfl (yI_iconst zi_100_0 <| yI_istore_n (l := [some (.inr (.inr t)), some (.inr (.inr 3)), some (.inl x2), some (.inl 0), none]) zi_100_1 rfl rfl <| yI_iconst zi_100_2 <| yI_istore (l := [some (.inr (.inr t)), some (.inr (.inr 3)), some (.inl x2), some (.inl 0), some (.inl 0)]) zi_100_3 rfl rfl <| rfl)
theorem zj_100_5 {K : List zF} {σ : zW} {x0 : Nat} {x2 : Int} {x3 : Int} {x4 : Int} (hK : K.length < 60) (h1 : zTr x0) : zEv true ((100, 5, [some (.inr (.inr x0)), some (.inr (.inr 3)), some (.inl x2), some (.inl x3), some (.inl x4)], []) :: K) σ = (if (gI σ x0 12) ≤ x4 then zRet true K (some (.inl x3)) σ else (0 ≤ x4 ∧ x4 < 20) ∧ zEv true (zent 101 [.inr (.inl (gL σ (x0 + 1) x4.toNat)), .inr (.inr 3), .inl x2] :: (100, 27, [some (.inr (.inr x0)), some (.inr (.inr 3)), some (.inl x2), some (.inl x3), some (.inl x4)], [.inl x3]) :: K) σ) :=
  yI_iload zi_100_5 rfl <| yI_aload_n zi_100_7 rfl <| yI_gf_i (v := gI σ x0 12) zi_100_8 (zTr_k h1) rfl <| yI_ic_ge zi_100_11 <| yBr (yI_iload_n zi_100_43 rfl <| yI_ireturn zi_100_44) (yI_iload_n zi_100_14 rfl <| yI_aload_n zi_100_15 rfl <| yI_gf_f (v := x0 + 1) zi_100_16 (zTr_k h1) rfl <| yI_iload zi_100_19 rfl <| yI_laloadc (v := gL σ (x0 + 1) x4.toNat) zi_100_21 (zTr_a1 h1) rfl <| yI_aload_n zi_100_22 rfl <| yI_iload_n zi_100_23 rfl <| yI_cs zi_100_24 rfl rfl hK)
theorem zr_100_27 {K : List zF} {σ : zW} {x0 : Nat} {x2 : Int} {o3 : Option zV} {x4 : Int} {s0 : Int} {v : Int} : zRet true ((100, 27, [some (.inr (.inr x0)), some (.inr (.inr 3)), some (.inl x2), o3, some (.inl x4)], [.inl s0]) :: K) (some (.inl v)) σ = (zEv true ((100, 5, [some (.inr (.inr x0)), some (.inr (.inr 3)), some (.inl x2), some (.inl (w32 (s0 + (if v = 0 then 0 else 1 : Int)))), some (.inl (w32 (x4 + 1)))], []) :: K) σ) :=
  yT_rt (yI_if_eq zi_100_27 <| yMi0 (j := 35) (ls2 := [some (.inr (.inr x0)), some (.inr (.inr 3)), some (.inl x2), o3, some (.inl x4)]) (st2 := [.inl s0]) (x := 0) (y := 1) (σ2 := σ) (yI_iconst zi_100_34 <| rfl) (yI_iconst zi_100_30 <| yI_goto zi_100_31 <| rfl) <| yI_iadd zi_100_35 <| yI_istore_n (l := [some (.inr (.inr x0)), some (.inr (.inr 3)), some (.inl x2), some (.inl (w32 (s0 + (if v = 0 then 0 else 1 : Int)))), some (.inl x4)]) zi_100_36 rfl rfl <| yI_iinc (l := [some (.inr (.inr x0)), some (.inr (.inr 3)), some (.inl x2), some (.inl (w32 (s0 + (if v = 0 then 0 else 1 : Int)))), some (.inl (w32 (x4 + 1)))]) zi_100_37 rfl rfl rfl <| yI_goto zi_100_40 <| rfl)
/-- 101 Treegrab$Tree.isSpelled(J[II)Z -/
theorem zi_101_0 : zraw 101 0 = some (.iload_n 3, 1) ∧ 0 + 1 = 1 := by decide +kernel
theorem zi_101_1 : zraw 101 1 = some (.iconst 1, 1) ∧ zin 128 1 = true ∧ 1 + 1 = 2 := by decide +kernel
theorem zi_101_2 : zraw 101 2 = some (.if_icmp .lt 9, 3) ∧ ((2 : Nat) : Int) + 9 = Int.ofNat 11 ∧ 2 + 3 = 5 := by decide +kernel
theorem zi_101_5 : zraw 101 5 = some (.iload_n 3, 1) ∧ 5 + 1 = 6 := by decide +kernel
theorem zi_101_6 : zraw 101 6 = some (.bipush 6, 2) ∧ zin 128 6 = true ∧ 6 + 2 = 8 := by decide +kernel
theorem zi_101_8 : zraw 101 8 = some (.if_icmp .le 5, 3) ∧ ((8 : Nat) : Int) + 5 = Int.ofNat 13 ∧ 8 + 3 = 11 := by decide +kernel
theorem zi_101_11 : zraw 101 11 = some (.iconst 0, 1) ∧ zin 128 0 = true ∧ 11 + 1 = 12 := by decide +kernel
theorem zi_101_12 : zraw 101 12 = some (.ireturn, 1) ∧ (zinf 101).2.2.2.1 = 2 := by decide +kernel
theorem zi_101_13 : zraw 101 13 = some (.iconst 0, 1) ∧ zin 128 0 = true ∧ 13 + 1 = 14 := by decide +kernel
theorem zi_101_14 : zraw 101 14 = some (.istore 4, 2) ∧ 14 + 2 = 16 := by decide +kernel
theorem zi_101_16 : zraw 101 16 = some (.iload 4, 2) ∧ 16 + 2 = 18 := by decide +kernel
theorem zi_101_18 : zraw 101 18 = some (.iload_n 3, 1) ∧ 18 + 1 = 19 := by decide +kernel
theorem zi_101_19 : zraw 101 19 = some (.if_icmp .ge 39, 3) ∧ ((19 : Nat) : Int) + 39 = Int.ofNat 58 ∧ 19 + 3 = 22 := by decide +kernel
theorem zi_101_22 : zraw 101 22 = some (.lload_n 0, 1) ∧ 22 + 1 = 23 := by decide +kernel
theorem zi_101_23 : zraw 101 23 = some (.bipush 8, 2) ∧ zin 128 8 = true ∧ 23 + 2 = 25 := by decide +kernel
theorem zi_101_25 : zraw 101 25 = some (.iload 4, 2) ∧ 25 + 2 = 27 := by decide +kernel
theorem zi_101_27 : zraw 101 27 = some (.imul, 1) ∧ 27 + 1 = 28 := by decide +kernel
theorem zi_101_28 : zraw 101 28 = some (.lushr, 1) ∧ 28 + 1 = 29 := by decide +kernel
theorem zi_101_29 : zraw 101 29 = some (.l2i, 1) ∧ 29 + 1 = 30 := by decide +kernel
theorem zi_101_30 : zraw 101 30 = some (.sipush 255, 3) ∧ zin 32768 255 = true ∧ 30 + 3 = 33 := by decide +kernel
theorem zi_101_33 : zraw 101 33 = some (.iand, 1) ∧ 33 + 1 = 34 := by decide +kernel
theorem zi_101_34 : zraw 101 34 = some (.istore 5, 2) ∧ 34 + 2 = 36 := by decide +kernel
theorem zi_101_36 : zraw 101 36 = some (.iload 5, 2) ∧ 36 + 2 = 38 := by decide +kernel
theorem zi_101_38 : zraw 101 38 = some (.ifCond .eq 12, 3) ∧ ((38 : Nat) : Int) + 12 = Int.ofNat 50 ∧ 38 + 3 = 41 := by decide +kernel
theorem zi_101_41 : zraw 101 41 = some (.iload 5, 2) ∧ 41 + 2 = 43 := by decide +kernel
theorem zi_101_43 : zraw 101 43 = some (.aload_n 2, 1) ∧ 43 + 1 = 44 := by decide +kernel
theorem zi_101_44 : zraw 101 44 = some (.iload 4, 2) ∧ 44 + 2 = 46 := by decide +kernel
theorem zi_101_46 : zraw 101 46 = some (.iaload, 1) ∧ 46 + 1 = 47 := by decide +kernel
theorem zi_101_47 : zraw 101 47 = some (.if_icmp .eq 5, 3) ∧ ((47 : Nat) : Int) + 5 = Int.ofNat 52 ∧ 47 + 3 = 50 := by decide +kernel
theorem zi_101_50 : zraw 101 50 = some (.iconst 0, 1) ∧ zin 128 0 = true ∧ 50 + 1 = 51 := by decide +kernel
theorem zi_101_51 : zraw 101 51 = some (.ireturn, 1) ∧ (zinf 101).2.2.2.1 = 2 := by decide +kernel
theorem zi_101_52 : zraw 101 52 = some (.iinc 4 1, 3) ∧ zin 32768 1 = true ∧ 52 + 3 = 55 := by decide +kernel
theorem zi_101_55 : zraw 101 55 = some (.goto (-39), 3) ∧ ((55 : Nat) : Int) + (-39) = Int.ofNat 16 := by decide +kernel
theorem zi_101_58 : zraw 101 58 = some (.lload_n 0, 1) ∧ 58 + 1 = 59 := by decide +kernel
theorem zi_101_59 : zraw 101 59 = some (.bipush 8, 2) ∧ zin 128 8 = true ∧ 59 + 2 = 61 := by decide +kernel
theorem zi_101_61 : zraw 101 61 = some (.iload_n 3, 1) ∧ 61 + 1 = 62 := by decide +kernel
theorem zi_101_62 : zraw 101 62 = some (.imul, 1) ∧ 62 + 1 = 63 := by decide +kernel
theorem zi_101_63 : zraw 101 63 = some (.lushr, 1) ∧ 63 + 1 = 64 := by decide +kernel
theorem zi_101_64 : zraw 101 64 = some (.lconst 0, 1) ∧ (bif Nat.beq (0 : Fin 2).val 0 then (0 : Int64) else 1) = 0 ∧ 64 + 1 = 65 := by decide +kernel
theorem zi_101_65 : zraw 101 65 = some (.lcmp, 1) ∧ 65 + 1 = 66 := by decide +kernel
theorem zi_101_66 : zraw 101 66 = some (.ifCond .ne 7, 3) ∧ ((66 : Nat) : Int) + 7 = Int.ofNat 73 ∧ 66 + 3 = 69 := by decide +kernel
theorem zi_101_69 : zraw 101 69 = some (.iconst 1, 1) ∧ zin 128 1 = true ∧ 69 + 1 = 70 := by decide +kernel
theorem zi_101_70 : zraw 101 70 = some (.goto 4, 3) ∧ ((70 : Nat) : Int) + 4 = Int.ofNat 74 := by decide +kernel
theorem zi_101_73 : zraw 101 73 = some (.iconst 0, 1) ∧ zin 128 0 = true ∧ 73 + 1 = 74 := by decide +kernel
theorem zi_101_74 : zraw 101 74 = some (.ireturn, 1) ∧ (zinf 101).2.2.2.1 = 2 := by decide +kernel
theorem ze_101 {K : List zF} {σ : zW} {x0 : Int64} {x3 : Int} : zEv true (zent 101 [.inr (.inl x0), .inr (.inr 3), .inl x3] :: K) σ = (if x3 < 1 then zRet true K (some (.inl 0)) σ else if x3 ≤ 6 then zEv true ((101, 16, [some (.inr (.inl x0)), none, some (.inr (.inr 3)), some (.inl x3), some (.inl 0), none], []) :: K) σ else zRet true K (some (.inl 0)) σ) :=
  yT_en (f := (101, 0, [some (.inr (.inl x0)), none, some (.inr (.inr 3)), some (.inl x3), none, none], [])) rfl (yI_iload_n zi_101_0 rfl <| yI_iconst zi_101_1 <| yI_ic_lt zi_101_2 <| yBr (yI_iconst zi_101_11 <| yI_zreturn zi_101_12 (by decide)) (yI_iload_n zi_101_5 rfl <| yI_bipush zi_101_6 <| yI_ic_le zi_101_8 <| yBr (yI_iconst zi_101_13 <| yI_istore (l := [some (.inr (.inl x0)), none, some (.inr (.inr 3)), some (.inl x3), some (.inl 0), none]) zi_101_14 rfl rfl <| rfl) (yI_iconst zi_101_11 <| yI_zreturn zi_101_12 (by decide))))
theorem zj_101_16 {K : List zF} {σ : zW} {x0 : Int64} {x3 : Int} {x4 : Int} {o5 : Option zV} : zEv true ((101, 16, [some (.inr (.inl x0)), none, some (.inr (.inr 3)), some (.inl x3), some (.inl x4), o5], []) :: K) σ = (if x3 ≤ x4 then if ¬ (zlc (zlushr x0 (w32 (8 * x3))) 0) = 0 then zRet true K (some (.inl 0)) σ else zRet true K (some (.inl 1)) σ else if (zand (zl2i (zlushr x0 (w32 (8 * x4)))) 255) = 0 then zRet true K (some (.inl 0)) σ else (0 ≤ x4 ∧ x4 < 600) ∧ (if (zand (zl2i (zlushr x0 (w32 (8 * x4)))) 255) = (gI σ 3 x4.toNat) then zEv true ((101, 16, [some (.inr (.inl x0)), none, some (.inr (.inr 3)), some (.inl x3), some (.inl (w32 (x4 + 1))), some (.inl (zand (zl2i (zlushr x0 (w32 (8 * x4)))) 255))], []) :: K) σ else zRet true K (some (.inl 0)) σ)) :=
  yI_iload zi_101_16 rfl <| yI_iload_n zi_101_18 rfl <| yI_ic_ge zi_101_19 <| yBr (yI_lload_n zi_101_58 rfl <| yI_bipush zi_101_59 <| yI_iload_n zi_101_61 rfl <| yI_imul zi_101_62 <| yI_lushr zi_101_63 <| yI_lconst zi_101_64 <| yI_lcmp zi_101_65 <| yI_if_ne zi_101_66 <| yBr (yI_iconst zi_101_73 <| yI_zreturn zi_101_74 (by decide)) (yI_iconst zi_101_69 <| yI_goto zi_101_70 <| yI_zreturn zi_101_74 (by decide))) (yI_lload_n zi_101_22 rfl <| yI_bipush zi_101_23 <| yI_iload zi_101_25 rfl <| yI_imul zi_101_27 <| yI_lushr zi_101_28 <| yI_l2i zi_101_29 <| yI_sipush zi_101_30 <| yI_iand zi_101_33 <| yI_istore (l := [some (.inr (.inl x0)), none, some (.inr (.inr 3)), some (.inl x3), some (.inl x4), some (.inl (zand (zl2i (zlushr x0 (w32 (8 * x4)))) 255))]) zi_101_34 rfl rfl <| yI_iload zi_101_36 rfl <| yI_if_eq zi_101_38 <| yBr (yI_iconst zi_101_50 <| yI_zreturn zi_101_51 (by decide)) (yI_iload zi_101_41 rfl <| yI_aload_n zi_101_43 rfl <| yI_iload zi_101_44 rfl <| yI_ialoadc (v := gI σ 3 x4.toNat) zi_101_46 za_3 rfl <| yI_ic_eq zi_101_47 <| yBr (yI_iinc (l := [some (.inr (.inl x0)), none, some (.inr (.inr 3)), some (.inl x3), some (.inl (w32 (x4 + 1))), some (.inl (zand (zl2i (zlushr x0 (w32 (8 * x4)))) 255))]) zi_101_52 rfl rfl rfl <| yI_goto zi_101_55 <| rfl) (yI_iconst zi_101_50 <| yI_zreturn zi_101_51 (by decide))))
/-- 102 Treegrab$Tree.isRelated(III)Z -/
theorem zi_102_0 : zraw 102 0 = some (.iload_n 1, 1) ∧ 0 + 1 = 1 := by decide +kernel
theorem zi_102_1 : zraw 102 1 = some (.bipush 16, 2) ∧ zin 128 16 = true ∧ 1 + 2 = 3 := by decide +kernel
theorem zi_102_3 : zraw 102 3 = some (.iand, 1) ∧ 3 + 1 = 4 := by decide +kernel
theorem zi_102_4 : zraw 102 4 = some (.ifCond .eq 7, 3) ∧ ((4 : Nat) : Int) + 7 = Int.ofNat 11 ∧ 4 + 3 = 7 := by decide +kernel
theorem zi_102_7 : zraw 102 7 = some (.iconst 1, 1) ∧ zin 128 1 = true ∧ 7 + 1 = 8 := by decide +kernel
theorem zi_102_8 : zraw 102 8 = some (.goto 4, 3) ∧ ((8 : Nat) : Int) + 4 = Int.ofNat 12 := by decide +kernel
theorem zi_102_11 : zraw 102 11 = some (.iconst 0, 1) ∧ zin 128 0 = true ∧ 11 + 1 = 12 := by decide +kernel
theorem zi_102_12 : zraw 102 12 = some (.istore 4, 2) ∧ 12 + 2 = 14 := by decide +kernel
theorem zi_102_14 : zraw 102 14 = some (.iload 4, 2) ∧ 14 + 2 = 16 := by decide +kernel
theorem zi_102_16 : zraw 102 16 = some (.ifCond .eq 7, 3) ∧ ((16 : Nat) : Int) + 7 = Int.ofNat 23 ∧ 16 + 3 = 19 := by decide +kernel
theorem zi_102_19 : zraw 102 19 = some (.iload_n 3, 1) ∧ 19 + 1 = 20 := by decide +kernel
theorem zi_102_20 : zraw 102 20 = some (.goto 4, 3) ∧ ((20 : Nat) : Int) + 4 = Int.ofNat 24 := by decide +kernel
theorem zi_102_23 : zraw 102 23 = some (.iload_n 2, 1) ∧ 23 + 1 = 24 := by decide +kernel
theorem zi_102_24 : zraw 102 24 = some (.istore 5, 2) ∧ 24 + 2 = 26 := by decide +kernel
theorem zi_102_26 : zraw 102 26 = some (.iload 4, 2) ∧ 26 + 2 = 28 := by decide +kernel
theorem zi_102_28 : zraw 102 28 = some (.ifCond .eq 7, 3) ∧ ((28 : Nat) : Int) + 7 = Int.ofNat 35 ∧ 28 + 3 = 31 := by decide +kernel
theorem zi_102_31 : zraw 102 31 = some (.iload_n 2, 1) ∧ 31 + 1 = 32 := by decide +kernel
theorem zi_102_32 : zraw 102 32 = some (.goto 4, 3) ∧ ((32 : Nat) : Int) + 4 = Int.ofNat 36 := by decide +kernel
theorem zi_102_35 : zraw 102 35 = some (.iload_n 3, 1) ∧ 35 + 1 = 36 := by decide +kernel
theorem zi_102_36 : zraw 102 36 = some (.istore 6, 2) ∧ 36 + 2 = 38 := by decide +kernel
theorem zi_102_38 : zraw 102 38 = some (.iload_n 1, 1) ∧ 38 + 1 = 39 := by decide +kernel
theorem zi_102_39 : zraw 102 39 = some (.iconst 5, 1) ∧ zin 128 5 = true ∧ 39 + 1 = 40 := by decide +kernel
theorem zi_102_40 : zraw 102 40 = some (.ishr, 1) ∧ 40 + 1 = 41 := by decide +kernel
theorem zi_102_41 : zraw 102 41 = some (.istore 7, 2) ∧ 41 + 2 = 43 := by decide +kernel
theorem zi_102_43 : zraw 102 43 = some (.aload_n 0, 1) ∧ 43 + 1 = 44 := by decide +kernel
theorem zi_102_44 : zraw 102 44 = some (.getfield 19, 3) ∧ zft (zinf 102).1 19 = some (8, 2, 3, true) ∧ 44 + 3 = 47 := by decide +kernel
theorem zi_102_47 : zraw 102 47 = some (.iload 6, 2) ∧ 47 + 2 = 49 := by decide +kernel
theorem zi_102_49 : zraw 102 49 = some (.iaload, 1) ∧ 49 + 1 = 50 := by decide +kernel
theorem zi_102_50 : zraw 102 50 = some (.iload 5, 2) ∧ 50 + 2 = 52 := by decide +kernel
theorem zi_102_52 : zraw 102 52 = some (.if_icmp .ne 7, 3) ∧ ((52 : Nat) : Int) + 7 = Int.ofNat 59 ∧ 52 + 3 = 55 := by decide +kernel
theorem zi_102_55 : zraw 102 55 = some (.iconst 1, 1) ∧ zin 128 1 = true ∧ 55 + 1 = 56 := by decide +kernel
theorem zi_102_56 : zraw 102 56 = some (.goto 4, 3) ∧ ((56 : Nat) : Int) + 4 = Int.ofNat 60 := by decide +kernel
theorem zi_102_59 : zraw 102 59 = some (.iconst 0, 1) ∧ zin 128 0 = true ∧ 59 + 1 = 60 := by decide +kernel
theorem zi_102_60 : zraw 102 60 = some (.istore 8, 2) ∧ 60 + 2 = 62 := by decide +kernel
theorem zi_102_62 : zraw 102 62 = some (.iload 5, 2) ∧ 62 + 2 = 64 := by decide +kernel
theorem zi_102_64 : zraw 102 64 = some (.iload 6, 2) ∧ 64 + 2 = 66 := by decide +kernel
theorem zi_102_66 : zraw 102 66 = some (.if_icmp .eq 35, 3) ∧ ((66 : Nat) : Int) + 35 = Int.ofNat 101 ∧ 66 + 3 = 69 := by decide +kernel
theorem zi_102_69 : zraw 102 69 = some (.aload_n 0, 1) ∧ 69 + 1 = 70 := by decide +kernel
theorem zi_102_70 : zraw 102 70 = some (.getfield 19, 3) ∧ zft (zinf 102).1 19 = some (8, 2, 3, true) ∧ 70 + 3 = 73 := by decide +kernel
theorem zi_102_73 : zraw 102 73 = some (.iload 5, 2) ∧ 73 + 2 = 75 := by decide +kernel
theorem zi_102_75 : zraw 102 75 = some (.iaload, 1) ∧ 75 + 1 = 76 := by decide +kernel
theorem zi_102_76 : zraw 102 76 = some (.iconst (-1), 1) ∧ zin 128 (-1) = true ∧ 76 + 1 = 77 := by decide +kernel
theorem zi_102_77 : zraw 102 77 = some (.if_icmp .eq 24, 3) ∧ ((77 : Nat) : Int) + 24 = Int.ofNat 101 ∧ 77 + 3 = 80 := by decide +kernel
theorem zi_102_80 : zraw 102 80 = some (.aload_n 0, 1) ∧ 80 + 1 = 81 := by decide +kernel
theorem zi_102_81 : zraw 102 81 = some (.getfield 19, 3) ∧ zft (zinf 102).1 19 = some (8, 2, 3, true) ∧ 81 + 3 = 84 := by decide +kernel
theorem zi_102_84 : zraw 102 84 = some (.iload 5, 2) ∧ 84 + 2 = 86 := by decide +kernel
theorem zi_102_86 : zraw 102 86 = some (.iaload, 1) ∧ 86 + 1 = 87 := by decide +kernel
theorem zi_102_87 : zraw 102 87 = some (.aload_n 0, 1) ∧ 87 + 1 = 88 := by decide +kernel
theorem zi_102_88 : zraw 102 88 = some (.getfield 19, 3) ∧ zft (zinf 102).1 19 = some (8, 2, 3, true) ∧ 88 + 3 = 91 := by decide +kernel
theorem zi_102_91 : zraw 102 91 = some (.iload 6, 2) ∧ 91 + 2 = 93 := by decide +kernel
theorem zi_102_93 : zraw 102 93 = some (.iaload, 1) ∧ 93 + 1 = 94 := by decide +kernel
theorem zi_102_94 : zraw 102 94 = some (.if_icmp .ne 7, 3) ∧ ((94 : Nat) : Int) + 7 = Int.ofNat 101 ∧ 94 + 3 = 97 := by decide +kernel
theorem zi_102_97 : zraw 102 97 = some (.iconst 1, 1) ∧ zin 128 1 = true ∧ 97 + 1 = 98 := by decide +kernel
theorem zi_102_98 : zraw 102 98 = some (.goto 4, 3) ∧ ((98 : Nat) : Int) + 4 = Int.ofNat 102 := by decide +kernel
theorem zi_102_101 : zraw 102 101 = some (.iconst 0, 1) ∧ zin 128 0 = true ∧ 101 + 1 = 102 := by decide +kernel
theorem zi_102_102 : zraw 102 102 = some (.istore 9, 2) ∧ 102 + 2 = 104 := by decide +kernel
theorem zi_102_104 : zraw 102 104 = some (.iload_n 1, 1) ∧ 104 + 1 = 105 := by decide +kernel
theorem zi_102_105 : zraw 102 105 = some (.bipush 15, 2) ∧ zin 128 15 = true ∧ 105 + 2 = 107 := by decide +kernel
theorem zi_102_107 : zraw 102 107 = some (.iand, 1) ∧ 107 + 1 = 108 := by decide +kernel
theorem zi_102_108 : zraw 102 108 = some (.tableswitch 271 0 9 #[56, 59, 84, 106, 129, 162, 187, 210, 213, 243], 56) ∧ (zpos 108 271 && ((#[56, 59, 84, 106, 129, 162, 187, 210, 213, 243] : Array Int).toList.all (zpos 108) && decide ((9 : Int) = 0 + (((#[56, 59, 84, 106, 129, 162, 187, 210, 213, 243] : Array Int).toList.length : Nat) : Int) - 1))) = true := by decide +kernel
theorem zi_102_164 : zraw 102 164 = some (.iload 8, 2) ∧ 164 + 2 = 166 := by decide +kernel
theorem zi_102_166 : zraw 102 166 = some (.ireturn, 1) ∧ (zinf 102).2.2.2.1 = 2 := by decide +kernel
theorem zi_102_167 : zraw 102 167 = some (.iload 6, 2) ∧ 167 + 2 = 169 := by decide +kernel
theorem zi_102_169 : zraw 102 169 = some (.iload 5, 2) ∧ 169 + 2 = 171 := by decide +kernel
theorem zi_102_171 : zraw 102 171 = some (.if_icmp .le 19, 3) ∧ ((171 : Nat) : Int) + 19 = Int.ofNat 190 ∧ 171 + 3 = 174 := by decide +kernel
theorem zi_102_174 : zraw 102 174 = some (.iload 6, 2) ∧ 174 + 2 = 176 := by decide +kernel
theorem zi_102_176 : zraw 102 176 = some (.aload_n 0, 1) ∧ 176 + 1 = 177 := by decide +kernel
theorem zi_102_177 : zraw 102 177 = some (.getfield 22, 3) ∧ zft (zinf 102).1 22 = some (8, 3, 3, true) ∧ 177 + 3 = 180 := by decide +kernel
theorem zi_102_180 : zraw 102 180 = some (.iload 5, 2) ∧ 180 + 2 = 182 := by decide +kernel
theorem zi_102_182 : zraw 102 182 = some (.iaload, 1) ∧ 182 + 1 = 183 := by decide +kernel
theorem zi_102_183 : zraw 102 183 = some (.if_icmp .ge 7, 3) ∧ ((183 : Nat) : Int) + 7 = Int.ofNat 190 ∧ 183 + 3 = 186 := by decide +kernel
theorem zi_102_186 : zraw 102 186 = some (.iconst 1, 1) ∧ zin 128 1 = true ∧ 186 + 1 = 187 := by decide +kernel
theorem zi_102_187 : zraw 102 187 = some (.goto 4, 3) ∧ ((187 : Nat) : Int) + 4 = Int.ofNat 191 := by decide +kernel
theorem zi_102_190 : zraw 102 190 = some (.iconst 0, 1) ∧ zin 128 0 = true ∧ 190 + 1 = 191 := by decide +kernel
theorem zi_102_191 : zraw 102 191 = some (.ireturn, 1) ∧ (zinf 102).2.2.2.1 = 2 := by decide +kernel
theorem zi_102_192 : zraw 102 192 = some (.iload 8, 2) ∧ 192 + 2 = 194 := by decide +kernel
theorem zi_102_194 : zraw 102 194 = some (.ifCond .eq 18, 3) ∧ ((194 : Nat) : Int) + 18 = Int.ofNat 212 ∧ 194 + 3 = 197 := by decide +kernel
theorem zi_102_197 : zraw 102 197 = some (.aload_n 0, 1) ∧ 197 + 1 = 198 := by decide +kernel
theorem zi_102_198 : zraw 102 198 = some (.getfield 25, 3) ∧ zft (zinf 102).1 25 = some (8, 4, 3, true) ∧ 198 + 3 = 201 := by decide +kernel
theorem zi_102_201 : zraw 102 201 = some (.iload 5, 2) ∧ 201 + 2 = 203 := by decide +kernel
theorem zi_102_203 : zraw 102 203 = some (.iaload, 1) ∧ 203 + 1 = 204 := by decide +kernel
theorem zi_102_204 : zraw 102 204 = some (.iconst 1, 1) ∧ zin 128 1 = true ∧ 204 + 1 = 205 := by decide +kernel
theorem zi_102_205 : zraw 102 205 = some (.if_icmp .ne 7, 3) ∧ ((205 : Nat) : Int) + 7 = Int.ofNat 212 ∧ 205 + 3 = 208 := by decide +kernel
theorem zi_102_208 : zraw 102 208 = some (.iconst 1, 1) ∧ zin 128 1 = true ∧ 208 + 1 = 209 := by decide +kernel
theorem zi_102_209 : zraw 102 209 = some (.goto 4, 3) ∧ ((209 : Nat) : Int) + 4 = Int.ofNat 213 := by decide +kernel
theorem zi_102_212 : zraw 102 212 = some (.iconst 0, 1) ∧ zin 128 0 = true ∧ 212 + 1 = 213 := by decide +kernel
theorem zi_102_213 : zraw 102 213 = some (.ireturn, 1) ∧ (zinf 102).2.2.2.1 = 2 := by decide +kernel
theorem zi_102_214 : zraw 102 214 = some (.iload 8, 2) ∧ 214 + 2 = 216 := by decide +kernel
theorem zi_102_216 : zraw 102 216 = some (.ifCond .eq 19, 3) ∧ ((216 : Nat) : Int) + 19 = Int.ofNat 235 ∧ 216 + 3 = 219 := by decide +kernel
theorem zi_102_219 : zraw 102 219 = some (.aload_n 0, 1) ∧ 219 + 1 = 220 := by decide +kernel
theorem zi_102_220 : zraw 102 220 = some (.getfield 28, 3) ∧ zft (zinf 102).1 28 = some (8, 5, 3, true) ∧ 220 + 3 = 223 := by decide +kernel
theorem zi_102_223 : zraw 102 223 = some (.iload 6, 2) ∧ 223 + 2 = 225 := by decide +kernel
theorem zi_102_225 : zraw 102 225 = some (.iaload, 1) ∧ 225 + 1 = 226 := by decide +kernel
theorem zi_102_226 : zraw 102 226 = some (.iload 7, 2) ∧ 226 + 2 = 228 := by decide +kernel
theorem zi_102_228 : zraw 102 228 = some (.if_icmp .ne 7, 3) ∧ ((228 : Nat) : Int) + 7 = Int.ofNat 235 ∧ 228 + 3 = 231 := by decide +kernel
theorem zi_102_231 : zraw 102 231 = some (.iconst 1, 1) ∧ zin 128 1 = true ∧ 231 + 1 = 232 := by decide +kernel
theorem zi_102_232 : zraw 102 232 = some (.goto 4, 3) ∧ ((232 : Nat) : Int) + 4 = Int.ofNat 236 := by decide +kernel
theorem zi_102_235 : zraw 102 235 = some (.iconst 0, 1) ∧ zin 128 0 = true ∧ 235 + 1 = 236 := by decide +kernel
theorem zi_102_236 : zraw 102 236 = some (.ireturn, 1) ∧ (zinf 102).2.2.2.1 = 2 := by decide +kernel
theorem zi_102_237 : zraw 102 237 = some (.iload 8, 2) ∧ 237 + 2 = 239 := by decide +kernel
theorem zi_102_239 : zraw 102 239 = some (.ifCond .eq 29, 3) ∧ ((239 : Nat) : Int) + 29 = Int.ofNat 268 ∧ 239 + 3 = 242 := by decide +kernel
theorem zi_102_242 : zraw 102 242 = some (.aload_n 0, 1) ∧ 242 + 1 = 243 := by decide +kernel
theorem zi_102_243 : zraw 102 243 = some (.getfield 25, 3) ∧ zft (zinf 102).1 25 = some (8, 4, 3, true) ∧ 243 + 3 = 246 := by decide +kernel
theorem zi_102_246 : zraw 102 246 = some (.iload 5, 2) ∧ 246 + 2 = 248 := by decide +kernel
theorem zi_102_248 : zraw 102 248 = some (.iaload, 1) ∧ 248 + 1 = 249 := by decide +kernel
theorem zi_102_249 : zraw 102 249 = some (.aload_n 0, 1) ∧ 249 + 1 = 250 := by decide +kernel
theorem zi_102_250 : zraw 102 250 = some (.getfield 28, 3) ∧ zft (zinf 102).1 28 = some (8, 5, 3, true) ∧ 250 + 3 = 253 := by decide +kernel
theorem zi_102_253 : zraw 102 253 = some (.iload 6, 2) ∧ 253 + 2 = 255 := by decide +kernel
theorem zi_102_255 : zraw 102 255 = some (.iaload, 1) ∧ 255 + 1 = 256 := by decide +kernel
theorem zi_102_256 : zraw 102 256 = some (.isub, 1) ∧ 256 + 1 = 257 := by decide +kernel
theorem zi_102_257 : zraw 102 257 = some (.iconst 1, 1) ∧ zin 128 1 = true ∧ 257 + 1 = 258 := by decide +kernel
theorem zi_102_258 : zraw 102 258 = some (.iadd, 1) ∧ 258 + 1 = 259 := by decide +kernel
theorem zi_102_259 : zraw 102 259 = some (.iload 7, 2) ∧ 259 + 2 = 261 := by decide +kernel
theorem zi_102_261 : zraw 102 261 = some (.if_icmp .ne 7, 3) ∧ ((261 : Nat) : Int) + 7 = Int.ofNat 268 ∧ 261 + 3 = 264 := by decide +kernel
theorem zi_102_264 : zraw 102 264 = some (.iconst 1, 1) ∧ zin 128 1 = true ∧ 264 + 1 = 265 := by decide +kernel
theorem zi_102_265 : zraw 102 265 = some (.goto 4, 3) ∧ ((265 : Nat) : Int) + 4 = Int.ofNat 269 := by decide +kernel
theorem zi_102_268 : zraw 102 268 = some (.iconst 0, 1) ∧ zin 128 0 = true ∧ 268 + 1 = 269 := by decide +kernel
theorem zi_102_269 : zraw 102 269 = some (.ireturn, 1) ∧ (zinf 102).2.2.2.1 = 2 := by decide +kernel
theorem zi_102_270 : zraw 102 270 = some (.aload_n 0, 1) ∧ 270 + 1 = 271 := by decide +kernel
theorem zi_102_271 : zraw 102 271 = some (.getfield 34, 3) ∧ zft (zinf 102).1 34 = some (8, 7, 3, true) ∧ 271 + 3 = 274 := by decide +kernel
theorem zi_102_274 : zraw 102 274 = some (.iload 5, 2) ∧ 274 + 2 = 276 := by decide +kernel
theorem zi_102_276 : zraw 102 276 = some (.iaload, 1) ∧ 276 + 1 = 277 := by decide +kernel
theorem zi_102_277 : zraw 102 277 = some (.iconst 1, 1) ∧ zin 128 1 = true ∧ 277 + 1 = 278 := by decide +kernel
theorem zi_102_278 : zraw 102 278 = some (.iadd, 1) ∧ 278 + 1 = 279 := by decide +kernel
theorem zi_102_279 : zraw 102 279 = some (.aload_n 0, 1) ∧ 279 + 1 = 280 := by decide +kernel
theorem zi_102_280 : zraw 102 280 = some (.getfield 31, 3) ∧ zft (zinf 102).1 31 = some (8, 6, 3, true) ∧ 280 + 3 = 283 := by decide +kernel
theorem zi_102_283 : zraw 102 283 = some (.iload 6, 2) ∧ 283 + 2 = 285 := by decide +kernel
theorem zi_102_285 : zraw 102 285 = some (.iaload, 1) ∧ 285 + 1 = 286 := by decide +kernel
theorem zi_102_286 : zraw 102 286 = some (.if_icmp .ne 7, 3) ∧ ((286 : Nat) : Int) + 7 = Int.ofNat 293 ∧ 286 + 3 = 289 := by decide +kernel
theorem zi_102_289 : zraw 102 289 = some (.iconst 1, 1) ∧ zin 128 1 = true ∧ 289 + 1 = 290 := by decide +kernel
theorem zi_102_290 : zraw 102 290 = some (.goto 4, 3) ∧ ((290 : Nat) : Int) + 4 = Int.ofNat 294 := by decide +kernel
theorem zi_102_293 : zraw 102 293 = some (.iconst 0, 1) ∧ zin 128 0 = true ∧ 293 + 1 = 294 := by decide +kernel
theorem zi_102_294 : zraw 102 294 = some (.ireturn, 1) ∧ (zinf 102).2.2.2.1 = 2 := by decide +kernel
theorem zi_102_295 : zraw 102 295 = some (.aload_n 0, 1) ∧ 295 + 1 = 296 := by decide +kernel
theorem zi_102_296 : zraw 102 296 = some (.getfield 34, 3) ∧ zft (zinf 102).1 34 = some (8, 7, 3, true) ∧ 296 + 3 = 299 := by decide +kernel
theorem zi_102_299 : zraw 102 299 = some (.iload 5, 2) ∧ 299 + 2 = 301 := by decide +kernel
theorem zi_102_301 : zraw 102 301 = some (.iaload, 1) ∧ 301 + 1 = 302 := by decide +kernel
theorem zi_102_302 : zraw 102 302 = some (.aload_n 0, 1) ∧ 302 + 1 = 303 := by decide +kernel
theorem zi_102_303 : zraw 102 303 = some (.getfield 31, 3) ∧ zft (zinf 102).1 31 = some (8, 6, 3, true) ∧ 303 + 3 = 306 := by decide +kernel
theorem zi_102_306 : zraw 102 306 = some (.iload 6, 2) ∧ 306 + 2 = 308 := by decide +kernel
theorem zi_102_308 : zraw 102 308 = some (.iaload, 1) ∧ 308 + 1 = 309 := by decide +kernel
theorem zi_102_309 : zraw 102 309 = some (.if_icmp .ge 7, 3) ∧ ((309 : Nat) : Int) + 7 = Int.ofNat 316 ∧ 309 + 3 = 312 := by decide +kernel
theorem zi_102_312 : zraw 102 312 = some (.iconst 1, 1) ∧ zin 128 1 = true ∧ 312 + 1 = 313 := by decide +kernel
theorem zi_102_313 : zraw 102 313 = some (.goto 4, 3) ∧ ((313 : Nat) : Int) + 4 = Int.ofNat 317 := by decide +kernel
theorem zi_102_316 : zraw 102 316 = some (.iconst 0, 1) ∧ zin 128 0 = true ∧ 316 + 1 = 317 := by decide +kernel
theorem zi_102_317 : zraw 102 317 = some (.ireturn, 1) ∧ (zinf 102).2.2.2.1 = 2 := by decide +kernel
theorem zi_102_318 : zraw 102 318 = some (.iload 9, 2) ∧ 318 + 2 = 320 := by decide +kernel
theorem zi_102_320 : zraw 102 320 = some (.ireturn, 1) ∧ (zinf 102).2.2.2.1 = 2 := by decide +kernel
theorem zi_102_321 : zraw 102 321 = some (.iload 9, 2) ∧ 321 + 2 = 323 := by decide +kernel
theorem zi_102_323 : zraw 102 323 = some (.ifCond .eq 26, 3) ∧ ((323 : Nat) : Int) + 26 = Int.ofNat 349 ∧ 323 + 3 = 326 := by decide +kernel
theorem zi_102_326 : zraw 102 326 = some (.aload_n 0, 1) ∧ 326 + 1 = 327 := by decide +kernel
theorem zi_102_327 : zraw 102 327 = some (.getfield 28, 3) ∧ zft (zinf 102).1 28 = some (8, 5, 3, true) ∧ 327 + 3 = 330 := by decide +kernel
theorem zi_102_330 : zraw 102 330 = some (.iload 6, 2) ∧ 330 + 2 = 332 := by decide +kernel
theorem zi_102_332 : zraw 102 332 = some (.iaload, 1) ∧ 332 + 1 = 333 := by decide +kernel
theorem zi_102_333 : zraw 102 333 = some (.aload_n 0, 1) ∧ 333 + 1 = 334 := by decide +kernel
theorem zi_102_334 : zraw 102 334 = some (.getfield 28, 3) ∧ zft (zinf 102).1 28 = some (8, 5, 3, true) ∧ 334 + 3 = 337 := by decide +kernel
theorem zi_102_337 : zraw 102 337 = some (.iload 5, 2) ∧ 337 + 2 = 339 := by decide +kernel
theorem zi_102_339 : zraw 102 339 = some (.iaload, 1) ∧ 339 + 1 = 340 := by decide +kernel
theorem zi_102_340 : zraw 102 340 = some (.iconst 1, 1) ∧ zin 128 1 = true ∧ 340 + 1 = 341 := by decide +kernel
theorem zi_102_341 : zraw 102 341 = some (.iadd, 1) ∧ 341 + 1 = 342 := by decide +kernel
theorem zi_102_342 : zraw 102 342 = some (.if_icmp .ne 7, 3) ∧ ((342 : Nat) : Int) + 7 = Int.ofNat 349 ∧ 342 + 3 = 345 := by decide +kernel
theorem zi_102_345 : zraw 102 345 = some (.iconst 1, 1) ∧ zin 128 1 = true ∧ 345 + 1 = 346 := by decide +kernel
theorem zi_102_346 : zraw 102 346 = some (.goto 4, 3) ∧ ((346 : Nat) : Int) + 4 = Int.ofNat 350 := by decide +kernel
theorem zi_102_349 : zraw 102 349 = some (.iconst 0, 1) ∧ zin 128 0 = true ∧ 349 + 1 = 350 := by decide +kernel
theorem zi_102_350 : zraw 102 350 = some (.ireturn, 1) ∧ (zinf 102).2.2.2.1 = 2 := by decide +kernel
theorem zi_102_351 : zraw 102 351 = some (.iload 9, 2) ∧ 351 + 2 = 353 := by decide +kernel
theorem zi_102_353 : zraw 102 353 = some (.ifCond .eq 24, 3) ∧ ((353 : Nat) : Int) + 24 = Int.ofNat 377 ∧ 353 + 3 = 356 := by decide +kernel
theorem zi_102_356 : zraw 102 356 = some (.aload_n 0, 1) ∧ 356 + 1 = 357 := by decide +kernel
theorem zi_102_357 : zraw 102 357 = some (.getfield 28, 3) ∧ zft (zinf 102).1 28 = some (8, 5, 3, true) ∧ 357 + 3 = 360 := by decide +kernel
theorem zi_102_360 : zraw 102 360 = some (.iload 6, 2) ∧ 360 + 2 = 362 := by decide +kernel
theorem zi_102_362 : zraw 102 362 = some (.iaload, 1) ∧ 362 + 1 = 363 := by decide +kernel
theorem zi_102_363 : zraw 102 363 = some (.aload_n 0, 1) ∧ 363 + 1 = 364 := by decide +kernel
theorem zi_102_364 : zraw 102 364 = some (.getfield 28, 3) ∧ zft (zinf 102).1 28 = some (8, 5, 3, true) ∧ 364 + 3 = 367 := by decide +kernel
theorem zi_102_367 : zraw 102 367 = some (.iload 5, 2) ∧ 367 + 2 = 369 := by decide +kernel
theorem zi_102_369 : zraw 102 369 = some (.iaload, 1) ∧ 369 + 1 = 370 := by decide +kernel
theorem zi_102_370 : zraw 102 370 = some (.if_icmp .le 7, 3) ∧ ((370 : Nat) : Int) + 7 = Int.ofNat 377 ∧ 370 + 3 = 373 := by decide +kernel
theorem zi_102_373 : zraw 102 373 = some (.iconst 1, 1) ∧ zin 128 1 = true ∧ 373 + 1 = 374 := by decide +kernel
theorem zi_102_374 : zraw 102 374 = some (.goto 4, 3) ∧ ((374 : Nat) : Int) + 4 = Int.ofNat 378 := by decide +kernel
theorem zi_102_377 : zraw 102 377 = some (.iconst 0, 1) ∧ zin 128 0 = true ∧ 377 + 1 = 378 := by decide +kernel
theorem zi_102_378 : zraw 102 378 = some (.ireturn, 1) ∧ (zinf 102).2.2.2.1 = 2 := by decide +kernel
theorem zi_102_379 : zraw 102 379 = some (.iconst 0, 1) ∧ zin 128 0 = true ∧ 379 + 1 = 380 := by decide +kernel
theorem zi_102_380 : zraw 102 380 = some (.ireturn, 1) ∧ (zinf 102).2.2.2.1 = 2 := by decide +kernel
theorem ze_102 {K : List zF} {σ : zW} {t : Nat} {x1 : Int} {x2 : Int} {x3 : Int} (h1 : zTr t) : zEv true (zent 102 [.inr (.inr t), .inl x1, .inl x2, .inl x3] :: K) σ = ((0 ≤ (if (if (zand x1 16) = 0 then 0 else 1 : Int) = 0 then x3 else x2 : Int) ∧ (if (if (zand x1 16) = 0 then 0 else 1 : Int) = 0 then x3 else x2 : Int) < 20) ∧ (if (if (if (zand x1 16) = 0 then 0 else 1 : Int) = 0 then x2 else x3 : Int) = (if (if (zand x1 16) = 0 then 0 else 1 : Int) = 0 then x3 else x2 : Int) then zEv true ((102, 101, [some (.inr (.inr t)), some (.inl x1), some (.inl x2), some (.inl x3), some (.inl (if (zand x1 16) = 0 then 0 else 1 : Int)), some (.inl (if (if (zand x1 16) = 0 then 0 else 1 : Int) = 0 then x2 else x3 : Int)), some (.inl (if (if (zand x1 16) = 0 then 0 else 1 : Int) = 0 then x3 else x2 : Int)), some (.inl (zshr x1 5)), some (.inl (if ¬ (gI σ (t + 3) ((if (if (zand x1 16) = 0 then 0 else 1 : Int) = 0 then x3 else x2 : Int).toNat)) = (if (if (zand x1 16) = 0 then 0 else 1 : Int) = 0 then x2 else x3 : Int) then 0 else 1 : Int)), none], []) :: K) σ else (0 ≤ (if (if (zand x1 16) = 0 then 0 else 1 : Int) = 0 then x2 else x3 : Int) ∧ (if (if (zand x1 16) = 0 then 0 else 1 : Int) = 0 then x2 else x3 : Int) < 20) ∧ (if (gI σ (t + 3) ((if (if (zand x1 16) = 0 then 0 else 1 : Int) = 0 then x2 else x3 : Int).toNat)) = (-1) then zEv true ((102, 101, [some (.inr (.inr t)), some (.inl x1), some (.inl x2), some (.inl x3), some (.inl (if (zand x1 16) = 0 then 0 else 1 : Int)), some (.inl (if (if (zand x1 16) = 0 then 0 else 1 : Int) = 0 then x2 else x3 : Int)), some (.inl (if (if (zand x1 16) = 0 then 0 else 1 : Int) = 0 then x3 else x2 : Int)), some (.inl (zshr x1 5)), some (.inl (if ¬ (gI σ (t + 3) ((if (if (zand x1 16) = 0 then 0 else 1 : Int) = 0 then x3 else x2 : Int).toNat)) = (if (if (zand x1 16) = 0 then 0 else 1 : Int) = 0 then x2 else x3 : Int) then 0 else 1 : Int)), none], []) :: K) σ else (0 ≤ (if (if (zand x1 16) = 0 then 0 else 1 : Int) = 0 then x2 else x3 : Int) ∧ (if (if (zand x1 16) = 0 then 0 else 1 : Int) = 0 then x2 else x3 : Int) < 20) ∧ ((0 ≤ (if (if (zand x1 16) = 0 then 0 else 1 : Int) = 0 then x3 else x2 : Int) ∧ (if (if (zand x1 16) = 0 then 0 else 1 : Int) = 0 then x3 else x2 : Int) < 20) ∧ (if ¬ (gI σ (t + 3) ((if (if (zand x1 16) = 0 then 0 else 1 : Int) = 0 then x2 else x3 : Int).toNat)) = (gI σ (t + 3) ((if (if (zand x1 16) = 0 then 0 else 1 : Int) = 0 then x3 else x2 : Int).toNat)) then zEv true ((102, 101, [some (.inr (.inr t)), some (.inl x1), some (.inl x2), some (.inl x3), some (.inl (if (zand x1 16) = 0 then 0 else 1 : Int)), some (.inl (if (if (zand x1 16) = 0 then 0 else 1 : Int) = 0 then x2 else x3 : Int)), some (.inl (if (if (zand x1 16) = 0 then 0 else 1 : Int) = 0 then x3 else x2 : Int)), some (.inl (zshr x1 5)), some (.inl (if ¬ (gI σ (t + 3) ((if (if (zand x1 16) = 0 then 0 else 1 : Int) = 0 then x3 else x2 : Int).toNat)) = (if (if (zand x1 16) = 0 then 0 else 1 : Int) = 0 then x2 else x3 : Int) then 0 else 1 : Int)), none], []) :: K) σ else if (zand x1 15) = 0 then ((if ¬ (gI σ (t + 3) ((if (if (zand x1 16) = 0 then 0 else 1 : Int) = 0 then x3 else x2 : Int).toNat)) = (if (if (zand x1 16) = 0 then 0 else 1 : Int) = 0 then x2 else x3 : Int) then 0 else 1 : Int) = 0 ∨ (if ¬ (gI σ (t + 3) ((if (if (zand x1 16) = 0 then 0 else 1 : Int) = 0 then x3 else x2 : Int).toNat)) = (if (if (zand x1 16) = 0 then 0 else 1 : Int) = 0 then x2 else x3 : Int) then 0 else 1 : Int) = 1) ∧ zRet true K (some (.inl (if ¬ (gI σ (t + 3) ((if (if (zand x1 16) = 0 then 0 else 1 : Int) = 0 then x3 else x2 : Int).toNat)) = (if (if (zand x1 16) = 0 then 0 else 1 : Int) = 0 then x2 else x3 : Int) then 0 else 1 : Int))) σ else if (zand x1 15) = 1 then if (if (if (zand x1 16) = 0 then 0 else 1 : Int) = 0 then x3 else x2 : Int) ≤ (if (if (zand x1 16) = 0 then 0 else 1 : Int) = 0 then x2 else x3 : Int) then zEv true ((102, 190, [some (.inr (.inr t)), some (.inl x1), some (.inl x2), some (.inl x3), some (.inl (if (zand x1 16) = 0 then 0 else 1 : Int)), some (.inl (if (if (zand x1 16) = 0 then 0 else 1 : Int) = 0 then x2 else x3 : Int)), some (.inl (if (if (zand x1 16) = 0 then 0 else 1 : Int) = 0 then x3 else x2 : Int)), some (.inl (zshr x1 5)), some (.inl (if ¬ (gI σ (t + 3) ((if (if (zand x1 16) = 0 then 0 else 1 : Int) = 0 then x3 else x2 : Int).toNat)) = (if (if (zand x1 16) = 0 then 0 else 1 : Int) = 0 then x2 else x3 : Int) then 0 else 1 : Int)), some (.inl 1)], []) :: K) σ else (0 ≤ (if (if (zand x1 16) = 0 then 0 else 1 : Int) = 0 then x2 else x3 : Int) ∧ (if (if (zand x1 16) = 0 then 0 else 1 : Int) = 0 then x2 else x3 : Int) < 20) ∧ (if (gI σ (t + 4) ((if (if (zand x1 16) = 0 then 0 else 1 : Int) = 0 then x2 else x3 : Int).toNat)) ≤ (if (if (zand x1 16) = 0 then 0 else 1 : Int) = 0 then x3 else x2 : Int) then zEv true ((102, 190, [some (.inr (.inr t)), some (.inl x1), some (.inl x2), some (.inl x3), some (.inl (if (zand x1 16) = 0 then 0 else 1 : Int)), some (.inl (if (if (zand x1 16) = 0 then 0 else 1 : Int) = 0 then x2 else x3 : Int)), some (.inl (if (if (zand x1 16) = 0 then 0 else 1 : Int) = 0 then x3 else x2 : Int)), some (.inl (zshr x1 5)), some (.inl (if ¬ (gI σ (t + 3) ((if (if (zand x1 16) = 0 then 0 else 1 : Int) = 0 then x3 else x2 : Int).toNat)) = (if (if (zand x1 16) = 0 then 0 else 1 : Int) = 0 then x2 else x3 : Int) then 0 else 1 : Int)), some (.inl 1)], []) :: K) σ else zRet true K (some (.inl 1)) σ) else if (zand x1 15) = 2 then if (if ¬ (gI σ (t + 3) ((if (if (zand x1 16) = 0 then 0 else 1 : Int) = 0 then x3 else x2 : Int).toNat)) = (if (if (zand x1 16) = 0 then 0 else 1 : Int) = 0 then x2 else x3 : Int) then 0 else 1 : Int) = 0 then zEv true ((102, 212, [some (.inr (.inr t)), some (.inl x1), some (.inl x2), some (.inl x3), some (.inl (if (zand x1 16) = 0 then 0 else 1 : Int)), some (.inl (if (if (zand x1 16) = 0 then 0 else 1 : Int) = 0 then x2 else x3 : Int)), some (.inl (if (if (zand x1 16) = 0 then 0 else 1 : Int) = 0 then x3 else x2 : Int)), some (.inl (zshr x1 5)), some (.inl (if ¬ (gI σ (t + 3) ((if (if (zand x1 16) = 0 then 0 else 1 : Int) = 0 then x3 else x2 : Int).toNat)) = (if (if (zand x1 16) = 0 then 0 else 1 : Int) = 0 then x2 else x3 : Int) then 0 else 1 : Int)), some (.inl 1)], []) :: K) σ else (0 ≤ (if (if (zand x1 16) = 0 then 0 else 1 : Int) = 0 then x2 else x3 : Int) ∧ (if (if (zand x1 16) = 0 then 0 else 1 : Int) = 0 then x2 else x3 : Int) < 20) ∧ (if ¬ (gI σ (t + 5) ((if (if (zand x1 16) = 0 then 0 else 1 : Int) = 0 then x2 else x3 : Int).toNat)) = 1 then zEv true ((102, 212, [some (.inr (.inr t)), some (.inl x1), some (.inl x2), some (.inl x3), some (.inl (if (zand x1 16) = 0 then 0 else 1 : Int)), some (.inl (if (if (zand x1 16) = 0 then 0 else 1 : Int) = 0 then x2 else x3 : Int)), some (.inl (if (if (zand x1 16) = 0 then 0 else 1 : Int) = 0 then x3 else x2 : Int)), some (.inl (zshr x1 5)), some (.inl (if ¬ (gI σ (t + 3) ((if (if (zand x1 16) = 0 then 0 else 1 : Int) = 0 then x3 else x2 : Int).toNat)) = (if (if (zand x1 16) = 0 then 0 else 1 : Int) = 0 then x2 else x3 : Int) then 0 else 1 : Int)), some (.inl 1)], []) :: K) σ else zRet true K (some (.inl 1)) σ) else if (zand x1 15) = 3 then if (if ¬ (gI σ (t + 3) ((if (if (zand x1 16) = 0 then 0 else 1 : Int) = 0 then x3 else x2 : Int).toNat)) = (if (if (zand x1 16) = 0 then 0 else 1 : Int) = 0 then x2 else x3 : Int) then 0 else 1 : Int) = 0 then zEv true ((102, 235, [some (.inr (.inr t)), some (.inl x1), some (.inl x2), some (.inl x3), some (.inl (if (zand x1 16) = 0 then 0 else 1 : Int)), some (.inl (if (if (zand x1 16) = 0 then 0 else 1 : Int) = 0 then x2 else x3 : Int)), some (.inl (if (if (zand x1 16) = 0 then 0 else 1 : Int) = 0 then x3 else x2 : Int)), some (.inl (zshr x1 5)), some (.inl (if ¬ (gI σ (t + 3) ((if (if (zand x1 16) = 0 then 0 else 1 : Int) = 0 then x3 else x2 : Int).toNat)) = (if (if (zand x1 16) = 0 then 0 else 1 : Int) = 0 then x2 else x3 : Int) then 0 else 1 : Int)), some (.inl 1)], []) :: K) σ else (0 ≤ (if (if (zand x1 16) = 0 then 0 else 1 : Int) = 0 then x3 else x2 : Int) ∧ (if (if (zand x1 16) = 0 then 0 else 1 : Int) = 0 then x3 else x2 : Int) < 20) ∧ (if ¬ (gI σ (t + 6) ((if (if (zand x1 16) = 0 then 0 else 1 : Int) = 0 then x3 else x2 : Int).toNat)) = (zshr x1 5) then zEv true ((102, 235, [some (.inr (.inr t)), some (.inl x1), some (.inl x2), some (.inl x3), some (.inl (if (zand x1 16) = 0 then 0 else 1 : Int)), some (.inl (if (if (zand x1 16) = 0 then 0 else 1 : Int) = 0 then x2 else x3 : Int)), some (.inl (if (if (zand x1 16) = 0 then 0 else 1 : Int) = 0 then x3 else x2 : Int)), some (.inl (zshr x1 5)), some (.inl (if ¬ (gI σ (t + 3) ((if (if (zand x1 16) = 0 then 0 else 1 : Int) = 0 then x3 else x2 : Int).toNat)) = (if (if (zand x1 16) = 0 then 0 else 1 : Int) = 0 then x2 else x3 : Int) then 0 else 1 : Int)), some (.inl 1)], []) :: K) σ else zRet true K (some (.inl 1)) σ) else if (zand x1 15) = 4 then if (if ¬ (gI σ (t + 3) ((if (if (zand x1 16) = 0 then 0 else 1 : Int) = 0 then x3 else x2 : Int).toNat)) = (if (if (zand x1 16) = 0 then 0 else 1 : Int) = 0 then x2 else x3 : Int) then 0 else 1 : Int) = 0 then zEv true ((102, 268, [some (.inr (.inr t)), some (.inl x1), some (.inl x2), some (.inl x3), some (.inl (if (zand x1 16) = 0 then 0 else 1 : Int)), some (.inl (if (if (zand x1 16) = 0 then 0 else 1 : Int) = 0 then x2 else x3 : Int)), some (.inl (if (if (zand x1 16) = 0 then 0 else 1 : Int) = 0 then x3 else x2 : Int)), some (.inl (zshr x1 5)), some (.inl (if ¬ (gI σ (t + 3) ((if (if (zand x1 16) = 0 then 0 else 1 : Int) = 0 then x3 else x2 : Int).toNat)) = (if (if (zand x1 16) = 0 then 0 else 1 : Int) = 0 then x2 else x3 : Int) then 0 else 1 : Int)), some (.inl 1)], []) :: K) σ else (0 ≤ (if (if (zand x1 16) = 0 then 0 else 1 : Int) = 0 then x2 else x3 : Int) ∧ (if (if (zand x1 16) = 0 then 0 else 1 : Int) = 0 then x2 else x3 : Int) < 20) ∧ ((0 ≤ (if (if (zand x1 16) = 0 then 0 else 1 : Int) = 0 then x3 else x2 : Int) ∧ (if (if (zand x1 16) = 0 then 0 else 1 : Int) = 0 then x3 else x2 : Int) < 20) ∧ (if ¬ (w32 ((w32 ((gI σ (t + 5) ((if (if (zand x1 16) = 0 then 0 else 1 : Int) = 0 then x2 else x3 : Int).toNat)) - (gI σ (t + 6) ((if (if (zand x1 16) = 0 then 0 else 1 : Int) = 0 then x3 else x2 : Int).toNat)))) + 1)) = (zshr x1 5) then zEv true ((102, 268, [some (.inr (.inr t)), some (.inl x1), some (.inl x2), some (.inl x3), some (.inl (if (zand x1 16) = 0 then 0 else 1 : Int)), some (.inl (if (if (zand x1 16) = 0 then 0 else 1 : Int) = 0 then x2 else x3 : Int)), some (.inl (if (if (zand x1 16) = 0 then 0 else 1 : Int) = 0 then x3 else x2 : Int)), some (.inl (zshr x1 5)), some (.inl (if ¬ (gI σ (t + 3) ((if (if (zand x1 16) = 0 then 0 else 1 : Int) = 0 then x3 else x2 : Int).toNat)) = (if (if (zand x1 16) = 0 then 0 else 1 : Int) = 0 then x2 else x3 : Int) then 0 else 1 : Int)), some (.inl 1)], []) :: K) σ else zRet true K (some (.inl 1)) σ)) else if (zand x1 15) = 5 then (0 ≤ (if (if (zand x1 16) = 0 then 0 else 1 : Int) = 0 then x2 else x3 : Int) ∧ (if (if (zand x1 16) = 0 then 0 else 1 : Int) = 0 then x2 else x3 : Int) < 20) ∧ ((0 ≤ (if (if (zand x1 16) = 0 then 0 else 1 : Int) = 0 then x3 else x2 : Int) ∧ (if (if (zand x1 16) = 0 then 0 else 1 : Int) = 0 then x3 else x2 : Int) < 20) ∧ (if ¬ (w32 ((gI σ (t + 8) ((if (if (zand x1 16) = 0 then 0 else 1 : Int) = 0 then x2 else x3 : Int).toNat)) + 1)) = (gI σ (t + 7) ((if (if (zand x1 16) = 0 then 0 else 1 : Int) = 0 then x3 else x2 : Int).toNat)) then zRet true K (some (.inl 0)) σ else zRet true K (some (.inl 1)) σ)) else if (zand x1 15) = 6 then (0 ≤ (if (if (zand x1 16) = 0 then 0 else 1 : Int) = 0 then x2 else x3 : Int) ∧ (if (if (zand x1 16) = 0 then 0 else 1 : Int) = 0 then x2 else x3 : Int) < 20) ∧ ((0 ≤ (if (if (zand x1 16) = 0 then 0 else 1 : Int) = 0 then x3 else x2 : Int) ∧ (if (if (zand x1 16) = 0 then 0 else 1 : Int) = 0 then x3 else x2 : Int) < 20) ∧ (if (gI σ (t + 7) ((if (if (zand x1 16) = 0 then 0 else 1 : Int) = 0 then x3 else x2 : Int).toNat)) ≤ (gI σ (t + 8) ((if (if (zand x1 16) = 0 then 0 else 1 : Int) = 0 then x2 else x3 : Int).toNat)) then zRet true K (some (.inl 0)) σ else zRet true K (some (.inl 1)) σ)) else if (zand x1 15) = 7 then zRet true K (some (.inl 1)) σ else if (zand x1 15) = 8 then if (1 : Int) = 0 then zEv true ((102, 349, [some (.inr (.inr t)), some (.inl x1), some (.inl x2), some (.inl x3), some (.inl (if (zand x1 16) = 0 then 0 else 1 : Int)), some (.inl (if (if (zand x1 16) = 0 then 0 else 1 : Int) = 0 then x2 else x3 : Int)), some (.inl (if (if (zand x1 16) = 0 then 0 else 1 : Int) = 0 then x3 else x2 : Int)), some (.inl (zshr x1 5)), some (.inl (if ¬ (gI σ (t + 3) ((if (if (zand x1 16) = 0 then 0 else 1 : Int) = 0 then x3 else x2 : Int).toNat)) = (if (if (zand x1 16) = 0 then 0 else 1 : Int) = 0 then x2 else x3 : Int) then 0 else 1 : Int)), some (.inl 1)], []) :: K) σ else (0 ≤ (if (if (zand x1 16) = 0 then 0 else 1 : Int) = 0 then x3 else x2 : Int) ∧ (if (if (zand x1 16) = 0 then 0 else 1 : Int) = 0 then x3 else x2 : Int) < 20) ∧ ((0 ≤ (if (if (zand x1 16) = 0 then 0 else 1 : Int) = 0 then x2 else x3 : Int) ∧ (if (if (zand x1 16) = 0 then 0 else 1 : Int) = 0 then x2 else x3 : Int) < 20) ∧ (if ¬ (gI σ (t + 6) ((if (if (zand x1 16) = 0 then 0 else 1 : Int) = 0 then x3 else x2 : Int).toNat)) = (w32 ((gI σ (t + 6) ((if (if (zand x1 16) = 0 then 0 else 1 : Int) = 0 then x2 else x3 : Int).toNat)) + 1)) then zEv true ((102, 349, [some (.inr (.inr t)), some (.inl x1), some (.inl x2), some (.inl x3), some (.inl (if (zand x1 16) = 0 then 0 else 1 : Int)), some (.inl (if (if (zand x1 16) = 0 then 0 else 1 : Int) = 0 then x2 else x3 : Int)), some (.inl (if (if (zand x1 16) = 0 then 0 else 1 : Int) = 0 then x3 else x2 : Int)), some (.inl (zshr x1 5)), some (.inl (if ¬ (gI σ (t + 3) ((if (if (zand x1 16) = 0 then 0 else 1 : Int) = 0 then x3 else x2 : Int).toNat)) = (if (if (zand x1 16) = 0 then 0 else 1 : Int) = 0 then x2 else x3 : Int) then 0 else 1 : Int)), some (.inl 1)], []) :: K) σ else zRet true K (some (.inl 1)) σ)) else if (zand x1 15) = 9 then if (1 : Int) = 0 then zEv true ((102, 377, [some (.inr (.inr t)), some (.inl x1), some (.inl x2), some (.inl x3), some (.inl (if (zand x1 16) = 0 then 0 else 1 : Int)), some (.inl (if (if (zand x1 16) = 0 then 0 else 1 : Int) = 0 then x2 else x3 : Int)), some (.inl (if (if (zand x1 16) = 0 then 0 else 1 : Int) = 0 then x3 else x2 : Int)), some (.inl (zshr x1 5)), some (.inl (if ¬ (gI σ (t + 3) ((if (if (zand x1 16) = 0 then 0 else 1 : Int) = 0 then x3 else x2 : Int).toNat)) = (if (if (zand x1 16) = 0 then 0 else 1 : Int) = 0 then x2 else x3 : Int) then 0 else 1 : Int)), some (.inl 1)], []) :: K) σ else (0 ≤ (if (if (zand x1 16) = 0 then 0 else 1 : Int) = 0 then x3 else x2 : Int) ∧ (if (if (zand x1 16) = 0 then 0 else 1 : Int) = 0 then x3 else x2 : Int) < 20) ∧ ((0 ≤ (if (if (zand x1 16) = 0 then 0 else 1 : Int) = 0 then x2 else x3 : Int) ∧ (if (if (zand x1 16) = 0 then 0 else 1 : Int) = 0 then x2 else x3 : Int) < 20) ∧ (if (gI σ (t + 6) ((if (if (zand x1 16) = 0 then 0 else 1 : Int) = 0 then x3 else x2 : Int).toNat)) ≤ (gI σ (t + 6) ((if (if (zand x1 16) = 0 then 0 else 1 : Int) = 0 then x2 else x3 : Int).toNat)) then zEv true ((102, 377, [some (.inr (.inr t)), some (.inl x1), some (.inl x2), some (.inl x3), some (.inl (if (zand x1 16) = 0 then 0 else 1 : Int)), some (.inl (if (if (zand x1 16) = 0 then 0 else 1 : Int) = 0 then x2 else x3 : Int)), some (.inl (if (if (zand x1 16) = 0 then 0 else 1 : Int) = 0 then x3 else x2 : Int)), some (.inl (zshr x1 5)), some (.inl (if ¬ (gI σ (t + 3) ((if (if (zand x1 16) = 0 then 0 else 1 : Int) = 0 then x3 else x2 : Int).toNat)) = (if (if (zand x1 16) = 0 then 0 else 1 : Int) = 0 then x2 else x3 : Int) then 0 else 1 : Int)), some (.inl 1)], []) :: K) σ else zRet true K (some (.inl 1)) σ)) else zRet true K (some (.inl 0)) σ))))) :=
  yT_en (f := (102, 0, [some (.inr (.inr t)), some (.inl x1), some (.inl x2), some (.inl x3), none, none, none, none, none, none], [])) rfl (yI_iload_n zi_102_0 rfl <| yI_bipush zi_102_1 <| yI_iand zi_102_3 <| yI_if_eq zi_102_4 <| yMi0 (j := 12) (ls2 := [some (.inr (.inr t)), some (.inl x1), some (.inl x2), some (.inl x3), none, none, none, none, none, none]) (st2 := []) (x := 0) (y := 1) (σ2 := σ) (yI_iconst zi_102_11 <| rfl) (yI_iconst zi_102_7 <| yI_goto zi_102_8 <| rfl) <| yI_istore (l := [some (.inr (.inr t)), some (.inl x1), some (.inl x2), some (.inl x3), some (.inl (if (zand x1 16) = 0 then 0 else 1 : Int)), none, none, none, none, none]) zi_102_12 rfl rfl <| yI_iload zi_102_14 rfl <| yI_if_eq zi_102_16 <| yMi0 (j := 24) (ls2 := [some (.inr (.inr t)), some (.inl x1), some (.inl x2), some (.inl x3), some (.inl (if (zand x1 16) = 0 then 0 else 1 : Int)), none, none, none, none, none]) (st2 := []) (x := x2) (y := x3) (σ2 := σ) (yI_iload_n zi_102_23 rfl <| rfl) (yI_iload_n zi_102_19 rfl <| yI_goto zi_102_20 <| rfl) <| yI_istore (l := [some (.inr (.inr t)), some (.inl x1), some (.inl x2), some (.inl x3), some (.inl (if (zand x1 16) = 0 then 0 else 1 : Int)), some (.inl (if (if (zand x1 16) = 0 then 0 else 1 : Int) = 0 then x2 else x3 : Int)), none, none, none, none]) zi_102_24 rfl rfl <| yI_iload zi_102_26 rfl <| yI_if_eq zi_102_28 <| yMi0 (j := 36) (ls2 := [some (.inr (.inr t)), some (.inl x1), some (.inl x2), some (.inl x3), some (.inl (if (zand x1 16) = 0 then 0 else 1 : Int)), some (.inl (if (if (zand x1 16) = 0 then 0 else 1 : Int) = 0 then x2 else x3 : Int)), none, none, none, none]) (st2 := []) (x := x3) (y := x2) (σ2 := σ) (yI_iload_n zi_102_35 rfl <| rfl) (yI_iload_n zi_102_31 rfl <| yI_goto zi_102_32 <| rfl) <| yI_istore (l := [some (.inr (.inr t)), some (.inl x1), some (.inl x2), some (.inl x3), some (.inl (if (zand x1 16) = 0 then 0 else 1 : Int)), some (.inl (if (if (zand x1 16) = 0 then 0 else 1 : Int) = 0 then x2 else x3 : Int)), some (.inl (if (if (zand x1 16) = 0 then 0 else 1 : Int) = 0 then x3 else x2 : Int)), none, none, none]) zi_102_36 rfl rfl <| yI_iload_n zi_102_38 rfl <| yI_iconst zi_102_39 <| yI_ishr zi_102_40 <| yI_istore (l := [some (.inr (.inr t)), some (.inl x1), some (.inl x2), some (.inl x3), some (.inl (if (zand x1 16) = 0 then 0 else 1 : Int)), some (.inl (if (if (zand x1 16) = 0 then 0 else 1 : Int) = 0 then x2 else x3 : Int)), some (.inl (if (if (zand x1 16) = 0 then 0 else 1 : Int) = 0 then x3 else x2 : Int)), some (.inl (zshr x1 5)), none, none]) zi_102_41 rfl rfl <| yI_aload_n zi_102_43 rfl <| yI_gf_f (v := t + 3) zi_102_44 (zTr_k h1) rfl <| yI_iload zi_102_47 rfl <| yI_ialoadc (v := gI σ (t + 3) ((if (if (zand x1 16) = 0 then 0 else 1 : Int) = 0 then x3 else x2 : Int).toNat)) zi_102_49 (zTr_a3 h1) rfl <| yI_iload zi_102_50 rfl <| yI_ic_ne zi_102_52 <| yMi0 (j := 60) (ls2 := [some (.inr (.inr t)), some (.inl x1), some (.inl x2), some (.inl x3), some (.inl (if (zand x1 16) = 0 then 0 else 1 : Int)), some (.inl (if (if (zand x1 16) = 0 then 0 else 1 : Int) = 0 then x2 else x3 : Int)), some (.inl (if (if (zand x1 16) = 0 then 0 else 1 : Int) = 0 then x3 else x2 : Int)), some (.inl (zshr x1 5)), none, none]) (st2 := []) (x := 0) (y := 1) (σ2 := σ) (yI_iconst zi_102_59 <| rfl) (yI_iconst zi_102_55 <| yI_goto zi_102_56 <| rfl) <| yI_istore (l := [some (.inr (.inr t)), some (.inl x1), some (.inl x2), some (.inl x3), some (.inl (if (zand x1 16) = 0 then 0 else 1 : Int)), some (.inl (if (if (zand x1 16) = 0 then 0 else 1 : Int) = 0 then x2 else x3 : Int)), some (.inl (if (if (zand x1 16) = 0 then 0 else 1 : Int) = 0 then x3 else x2 : Int)), some (.inl (zshr x1 5)), some (.inl (if ¬ (gI σ (t + 3) ((if (if (zand x1 16) = 0 then 0 else 1 : Int) = 0 then x3 else x2 : Int).toNat)) = (if (if (zand x1 16) = 0 then 0 else 1 : Int) = 0 then x2 else x3 : Int) then 0 else 1 : Int)), none]) zi_102_60 rfl rfl <| yI_iload zi_102_62 rfl <| yI_iload zi_102_64 rfl <| yI_ic_eq zi_102_66 <| yBr (rfl) (yI_aload_n zi_102_69 rfl <| yI_gf_f (v := t + 3) zi_102_70 (zTr_k h1) rfl <| yI_iload zi_102_73 rfl <| yI_ialoadc (v := gI σ (t + 3) ((if (if (zand x1 16) = 0 then 0 else 1 : Int) = 0 then x2 else x3 : Int).toNat)) zi_102_75 (zTr_a3 h1) rfl <| yI_iconst zi_102_76 <| yI_ic_eq zi_102_77 <| yBr (rfl) (yI_aload_n zi_102_80 rfl <| yI_gf_f (v := t + 3) zi_102_81 (zTr_k h1) rfl <| yI_iload zi_102_84 rfl <| yI_ialoadc (v := gI σ (t + 3) ((if (if (zand x1 16) = 0 then 0 else 1 : Int) = 0 then x2 else x3 : Int).toNat)) zi_102_86 (zTr_a3 h1) rfl <| yI_aload_n zi_102_87 rfl <| yI_gf_f (v := t + 3) zi_102_88 (zTr_k h1) rfl <| yI_iload zi_102_91 rfl <| yI_ialoadc (v := gI σ (t + 3) ((if (if (zand x1 16) = 0 then 0 else 1 : Int) = 0 then x3 else x2 : Int).toNat)) zi_102_93 (zTr_a3 h1) rfl <| yI_ic_ne zi_102_94 <| yBr (rfl) (yI_iconst zi_102_97 <| yI_goto zi_102_98 <| yI_istore (l := [some (.inr (.inr t)), some (.inl x1), some (.inl x2), some (.inl x3), some (.inl (if (zand x1 16) = 0 then 0 else 1 : Int)), some (.inl (if (if (zand x1 16) = 0 then 0 else 1 : Int) = 0 then x2 else x3 : Int)), some (.inl (if (if (zand x1 16) = 0 then 0 else 1 : Int) = 0 then x3 else x2 : Int)), some (.inl (zshr x1 5)), some (.inl (if ¬ (gI σ (t + 3) ((if (if (zand x1 16) = 0 then 0 else 1 : Int) = 0 then x3 else x2 : Int).toNat)) = (if (if (zand x1 16) = 0 then 0 else 1 : Int) = 0 then x2 else x3 : Int) then 0 else 1 : Int)), some (.inl 1)]) zi_102_102 rfl rfl <| yI_iload_n zi_102_104 rfl <| yI_bipush zi_102_105 <| yI_iand zi_102_107 <| yI_tsw (q := if (zand x1 15) = 0 then 164 else if (zand x1 15) = 1 then 167 else if (zand x1 15) = 2 then 192 else if (zand x1 15) = 3 then 214 else if (zand x1 15) = 4 then 237 else if (zand x1 15) = 5 then 270 else if (zand x1 15) = 6 then 295 else if (zand x1 15) = 7 then 318 else if (zand x1 15) = 8 then 321 else if (zand x1 15) = 9 then 351 else 379) zi_102_108 (by with_unfolding_all rfl) <| yBr (yI_iload zi_102_164 rfl <| yI_zreturnc zi_102_166) (yBr (yI_iload zi_102_167 rfl <| yI_iload zi_102_169 rfl <| yI_ic_le zi_102_171 <| yBr (rfl) (yI_iload zi_102_174 rfl <| yI_aload_n zi_102_176 rfl <| yI_gf_f (v := t + 4) zi_102_177 (zTr_k h1) rfl <| yI_iload zi_102_180 rfl <| yI_ialoadc (v := gI σ (t + 4) ((if (if (zand x1 16) = 0 then 0 else 1 : Int) = 0 then x2 else x3 : Int).toNat)) zi_102_182 (zTr_a4 h1) rfl <| yI_ic_ge zi_102_183 <| yBr (rfl) (yI_iconst zi_102_186 <| yI_goto zi_102_187 <| yI_zreturn zi_102_191 (by decide)))) (yBr (yI_iload zi_102_192 rfl <| yI_if_eq zi_102_194 <| yBr (rfl) (yI_aload_n zi_102_197 rfl <| yI_gf_f (v := t + 5) zi_102_198 (zTr_k h1) rfl <| yI_iload zi_102_201 rfl <| yI_ialoadc (v := gI σ (t + 5) ((if (if (zand x1 16) = 0 then 0 else 1 : Int) = 0 then x2 else x3 : Int).toNat)) zi_102_203 (zTr_a5 h1) rfl <| yI_iconst zi_102_204 <| yI_ic_ne zi_102_205 <| yBr (rfl) (yI_iconst zi_102_208 <| yI_goto zi_102_209 <| yI_zreturn zi_102_213 (by decide)))) (yBr (yI_iload zi_102_214 rfl <| yI_if_eq zi_102_216 <| yBr (rfl) (yI_aload_n zi_102_219 rfl <| yI_gf_f (v := t + 6) zi_102_220 (zTr_k h1) rfl <| yI_iload zi_102_223 rfl <| yI_ialoadc (v := gI σ (t + 6) ((if (if (zand x1 16) = 0 then 0 else 1 : Int) = 0 then x3 else x2 : Int).toNat)) zi_102_225 (zTr_a6 h1) rfl <| yI_iload zi_102_226 rfl <| yI_ic_ne zi_102_228 <| yBr (rfl) (yI_iconst zi_102_231 <| yI_goto zi_102_232 <| yI_zreturn zi_102_236 (by decide)))) (yBr (yI_iload zi_102_237 rfl <| yI_if_eq zi_102_239 <| yBr (rfl) (yI_aload_n zi_102_242 rfl <| yI_gf_f (v := t + 5) zi_102_243 (zTr_k h1) rfl <| yI_iload zi_102_246 rfl <| yI_ialoadc (v := gI σ (t + 5) ((if (if (zand x1 16) = 0 then 0 else 1 : Int) = 0 then x2 else x3 : Int).toNat)) zi_102_248 (zTr_a5 h1) rfl <| yI_aload_n zi_102_249 rfl <| yI_gf_f (v := t + 6) zi_102_250 (zTr_k h1) rfl <| yI_iload zi_102_253 rfl <| yI_ialoadc (v := gI σ (t + 6) ((if (if (zand x1 16) = 0 then 0 else 1 : Int) = 0 then x3 else x2 : Int).toNat)) zi_102_255 (zTr_a6 h1) rfl <| yI_isub zi_102_256 <| yI_iconst zi_102_257 <| yI_iadd zi_102_258 <| yI_iload zi_102_259 rfl <| yI_ic_ne zi_102_261 <| yBr (rfl) (yI_iconst zi_102_264 <| yI_goto zi_102_265 <| yI_zreturn zi_102_269 (by decide)))) (yBr (yI_aload_n zi_102_270 rfl <| yI_gf_f (v := t + 8) zi_102_271 (zTr_k h1) rfl <| yI_iload zi_102_274 rfl <| yI_ialoadc (v := gI σ (t + 8) ((if (if (zand x1 16) = 0 then 0 else 1 : Int) = 0 then x2 else x3 : Int).toNat)) zi_102_276 (zTr_a8 h1) rfl <| yI_iconst zi_102_277 <| yI_iadd zi_102_278 <| yI_aload_n zi_102_279 rfl <| yI_gf_f (v := t + 7) zi_102_280 (zTr_k h1) rfl <| yI_iload zi_102_283 rfl <| yI_ialoadc (v := gI σ (t + 7) ((if (if (zand x1 16) = 0 then 0 else 1 : Int) = 0 then x3 else x2 : Int).toNat)) zi_102_285 (zTr_a7 h1) rfl <| yI_ic_ne zi_102_286 <| yBr (yI_iconst zi_102_293 <| yI_zreturn zi_102_294 (by decide)) (yI_iconst zi_102_289 <| yI_goto zi_102_290 <| yI_zreturn zi_102_294 (by decide))) (yBr (yI_aload_n zi_102_295 rfl <| yI_gf_f (v := t + 8) zi_102_296 (zTr_k h1) rfl <| yI_iload zi_102_299 rfl <| yI_ialoadc (v := gI σ (t + 8) ((if (if (zand x1 16) = 0 then 0 else 1 : Int) = 0 then x2 else x3 : Int).toNat)) zi_102_301 (zTr_a8 h1) rfl <| yI_aload_n zi_102_302 rfl <| yI_gf_f (v := t + 7) zi_102_303 (zTr_k h1) rfl <| yI_iload zi_102_306 rfl <| yI_ialoadc (v := gI σ (t + 7) ((if (if (zand x1 16) = 0 then 0 else 1 : Int) = 0 then x3 else x2 : Int).toNat)) zi_102_308 (zTr_a7 h1) rfl <| yI_ic_ge zi_102_309 <| yBr (yI_iconst zi_102_316 <| yI_zreturn zi_102_317 (by decide)) (yI_iconst zi_102_312 <| yI_goto zi_102_313 <| yI_zreturn zi_102_317 (by decide))) (yBr (yI_iload zi_102_318 rfl <| yI_zreturn zi_102_320 (by decide)) (yBr (yI_iload zi_102_321 rfl <| yI_if_eq zi_102_323 <| yBr (rfl) (yI_aload_n zi_102_326 rfl <| yI_gf_f (v := t + 6) zi_102_327 (zTr_k h1) rfl <| yI_iload zi_102_330 rfl <| yI_ialoadc (v := gI σ (t + 6) ((if (if (zand x1 16) = 0 then 0 else 1 : Int) = 0 then x3 else x2 : Int).toNat)) zi_102_332 (zTr_a6 h1) rfl <| yI_aload_n zi_102_333 rfl <| yI_gf_f (v := t + 6) zi_102_334 (zTr_k h1) rfl <| yI_iload zi_102_337 rfl <| yI_ialoadc (v := gI σ (t + 6) ((if (if (zand x1 16) = 0 then 0 else 1 : Int) = 0 then x2 else x3 : Int).toNat)) zi_102_339 (zTr_a6 h1) rfl <| yI_iconst zi_102_340 <| yI_iadd zi_102_341 <| yI_ic_ne zi_102_342 <| yBr (rfl) (yI_iconst zi_102_345 <| yI_goto zi_102_346 <| yI_zreturn zi_102_350 (by decide)))) (yBr (yI_iload zi_102_351 rfl <| yI_if_eq zi_102_353 <| yBr (rfl) (yI_aload_n zi_102_356 rfl <| yI_gf_f (v := t + 6) zi_102_357 (zTr_k h1) rfl <| yI_iload zi_102_360 rfl <| yI_ialoadc (v := gI σ (t + 6) ((if (if (zand x1 16) = 0 then 0 else 1 : Int) = 0 then x3 else x2 : Int).toNat)) zi_102_362 (zTr_a6 h1) rfl <| yI_aload_n zi_102_363 rfl <| yI_gf_f (v := t + 6) zi_102_364 (zTr_k h1) rfl <| yI_iload zi_102_367 rfl <| yI_ialoadc (v := gI σ (t + 6) ((if (if (zand x1 16) = 0 then 0 else 1 : Int) = 0 then x2 else x3 : Int).toNat)) zi_102_369 (zTr_a6 h1) rfl <| yI_ic_le zi_102_370 <| yBr (rfl) (yI_iconst zi_102_373 <| yI_goto zi_102_374 <| yI_zreturn zi_102_378 (by decide)))) (yI_iconst zi_102_379 <| yI_zreturn zi_102_380 (by decide)))))))))))))))
theorem zj_102_101 {K : List zF} {σ : zW} {x0 : Nat} {x1 : Int} {o2 : Option zV} {o3 : Option zV} {o4 : Option zV} {x5 : Int} {x6 : Int} {x7 : Int} {x8 : Int} {o9 : Option zV} (h1 : zTr x0) : zEv true ((102, 101, [some (.inr (.inr x0)), some (.inl x1), o2, o3, o4, some (.inl x5), some (.inl x6), some (.inl x7), some (.inl x8), o9], []) :: K) σ = (if (zand x1 15) = 0 then (x8 = 0 ∨ x8 = 1) ∧ zRet true K (some (.inl x8)) σ else if (zand x1 15) = 1 then if x6 ≤ x5 then zEv true ((102, 190, [some (.inr (.inr x0)), some (.inl x1), o2, o3, o4, some (.inl x5), some (.inl x6), some (.inl x7), some (.inl x8), some (.inl 0)], []) :: K) σ else (0 ≤ x5 ∧ x5 < 20) ∧ (if (gI σ (x0 + 4) x5.toNat) ≤ x6 then zEv true ((102, 190, [some (.inr (.inr x0)), some (.inl x1), o2, o3, o4, some (.inl x5), some (.inl x6), some (.inl x7), some (.inl x8), some (.inl 0)], []) :: K) σ else zRet true K (some (.inl 1)) σ) else if (zand x1 15) = 2 then if x8 = 0 then zEv true ((102, 212, [some (.inr (.inr x0)), some (.inl x1), o2, o3, o4, some (.inl x5), some (.inl x6), some (.inl x7), some (.inl x8), some (.inl 0)], []) :: K) σ else (0 ≤ x5 ∧ x5 < 20) ∧ (if ¬ (gI σ (x0 + 5) x5.toNat) = 1 then zEv true ((102, 212, [some (.inr (.inr x0)), some (.inl x1), o2, o3, o4, some (.inl x5), some (.inl x6), some (.inl x7), some (.inl x8), some (.inl 0)], []) :: K) σ else zRet true K (some (.inl 1)) σ) else if (zand x1 15) = 3 then if x8 = 0 then zEv true ((102, 235, [some (.inr (.inr x0)), some (.inl x1), o2, o3, o4, some (.inl x5), some (.inl x6), some (.inl x7), some (.inl x8), some (.inl 0)], []) :: K) σ else (0 ≤ x6 ∧ x6 < 20) ∧ (if ¬ (gI σ (x0 + 6) x6.toNat) = x7 then zEv true ((102, 235, [some (.inr (.inr x0)), some (.inl x1), o2, o3, o4, some (.inl x5), some (.inl x6), some (.inl x7), some (.inl x8), some (.inl 0)], []) :: K) σ else zRet true K (some (.inl 1)) σ) else if (zand x1 15) = 4 then if x8 = 0 then zEv true ((102, 268, [some (.inr (.inr x0)), some (.inl x1), o2, o3, o4, some (.inl x5), some (.inl x6), some (.inl x7), some (.inl x8), some (.inl 0)], []) :: K) σ else (0 ≤ x5 ∧ x5 < 20) ∧ ((0 ≤ x6 ∧ x6 < 20) ∧ (if ¬ (w32 ((w32 ((gI σ (x0 + 5) x5.toNat) - (gI σ (x0 + 6) x6.toNat))) + 1)) = x7 then zEv true ((102, 268, [some (.inr (.inr x0)), some (.inl x1), o2, o3, o4, some (.inl x5), some (.inl x6), some (.inl x7), some (.inl x8), some (.inl 0)], []) :: K) σ else zRet true K (some (.inl 1)) σ)) else if (zand x1 15) = 5 then (0 ≤ x5 ∧ x5 < 20) ∧ ((0 ≤ x6 ∧ x6 < 20) ∧ (if ¬ (w32 ((gI σ (x0 + 8) x5.toNat) + 1)) = (gI σ (x0 + 7) x6.toNat) then zRet true K (some (.inl 0)) σ else zRet true K (some (.inl 1)) σ)) else if (zand x1 15) = 6 then (0 ≤ x5 ∧ x5 < 20) ∧ ((0 ≤ x6 ∧ x6 < 20) ∧ (if (gI σ (x0 + 7) x6.toNat) ≤ (gI σ (x0 + 8) x5.toNat) then zRet true K (some (.inl 0)) σ else zRet true K (some (.inl 1)) σ)) else if (zand x1 15) = 7 then zRet true K (some (.inl 0)) σ else if (zand x1 15) = 8 then if (0 : Int) = 0 then zEv true ((102, 349, [some (.inr (.inr x0)), some (.inl x1), o2, o3, o4, some (.inl x5), some (.inl x6), some (.inl x7), some (.inl x8), some (.inl 0)], []) :: K) σ else (0 ≤ x6 ∧ x6 < 20) ∧ ((0 ≤ x5 ∧ x5 < 20) ∧ (if ¬ (gI σ (x0 + 6) x6.toNat) = (w32 ((gI σ (x0 + 6) x5.toNat) + 1)) then zEv true ((102, 349, [some (.inr (.inr x0)), some (.inl x1), o2, o3, o4, some (.inl x5), some (.inl x6), some (.inl x7), some (.inl x8), some (.inl 0)], []) :: K) σ else zRet true K (some (.inl 1)) σ)) else if (zand x1 15) = 9 then if (0 : Int) = 0 then zEv true ((102, 377, [some (.inr (.inr x0)), some (.inl x1), o2, o3, o4, some (.inl x5), some (.inl x6), some (.inl x7), some (.inl x8), some (.inl 0)], []) :: K) σ else (0 ≤ x6 ∧ x6 < 20) ∧ ((0 ≤ x5 ∧ x5 < 20) ∧ (if (gI σ (x0 + 6) x6.toNat) ≤ (gI σ (x0 + 6) x5.toNat) then zEv true ((102, 377, [some (.inr (.inr x0)), some (.inl x1), o2, o3, o4, some (.inl x5), some (.inl x6), some (.inl x7), some (.inl x8), some (.inl 0)], []) :: K) σ else zRet true K (some (.inl 1)) σ)) else zRet true K (some (.inl 0)) σ) :=
  yI_iconst zi_102_101 <| yI_istore (l := [some (.inr (.inr x0)), some (.inl x1), o2, o3, o4, some (.inl x5), some (.inl x6), some (.inl x7), some (.inl x8), some (.inl 0)]) zi_102_102 rfl rfl <| yI_iload_n zi_102_104 rfl <| yI_bipush zi_102_105 <| yI_iand zi_102_107 <| yI_tsw (q := if (zand x1 15) = 0 then 164 else if (zand x1 15) = 1 then 167 else if (zand x1 15) = 2 then 192 else if (zand x1 15) = 3 then 214 else if (zand x1 15) = 4 then 237 else if (zand x1 15) = 5 then 270 else if (zand x1 15) = 6 then 295 else if (zand x1 15) = 7 then 318 else if (zand x1 15) = 8 then 321 else if (zand x1 15) = 9 then 351 else 379) zi_102_108 (by with_unfolding_all rfl) <| yBr (yI_iload zi_102_164 rfl <| yI_zreturnc zi_102_166) (yBr (yI_iload zi_102_167 rfl <| yI_iload zi_102_169 rfl <| yI_ic_le zi_102_171 <| yBr (rfl) (yI_iload zi_102_174 rfl <| yI_aload_n zi_102_176 rfl <| yI_gf_f (v := x0 + 4) zi_102_177 (zTr_k h1) rfl <| yI_iload zi_102_180 rfl <| yI_ialoadc (v := gI σ (x0 + 4) x5.toNat) zi_102_182 (zTr_a4 h1) rfl <| yI_ic_ge zi_102_183 <| yBr (rfl) (yI_iconst zi_102_186 <| yI_goto zi_102_187 <| yI_zreturn zi_102_191 (by decide)))) (yBr (yI_iload zi_102_192 rfl <| yI_if_eq zi_102_194 <| yBr (rfl) (yI_aload_n zi_102_197 rfl <| yI_gf_f (v := x0 + 5) zi_102_198 (zTr_k h1) rfl <| yI_iload zi_102_201 rfl <| yI_ialoadc (v := gI σ (x0 + 5) x5.toNat) zi_102_203 (zTr_a5 h1) rfl <| yI_iconst zi_102_204 <| yI_ic_ne zi_102_205 <| yBr (rfl) (yI_iconst zi_102_208 <| yI_goto zi_102_209 <| yI_zreturn zi_102_213 (by decide)))) (yBr (yI_iload zi_102_214 rfl <| yI_if_eq zi_102_216 <| yBr (rfl) (yI_aload_n zi_102_219 rfl <| yI_gf_f (v := x0 + 6) zi_102_220 (zTr_k h1) rfl <| yI_iload zi_102_223 rfl <| yI_ialoadc (v := gI σ (x0 + 6) x6.toNat) zi_102_225 (zTr_a6 h1) rfl <| yI_iload zi_102_226 rfl <| yI_ic_ne zi_102_228 <| yBr (rfl) (yI_iconst zi_102_231 <| yI_goto zi_102_232 <| yI_zreturn zi_102_236 (by decide)))) (yBr (yI_iload zi_102_237 rfl <| yI_if_eq zi_102_239 <| yBr (rfl) (yI_aload_n zi_102_242 rfl <| yI_gf_f (v := x0 + 5) zi_102_243 (zTr_k h1) rfl <| yI_iload zi_102_246 rfl <| yI_ialoadc (v := gI σ (x0 + 5) x5.toNat) zi_102_248 (zTr_a5 h1) rfl <| yI_aload_n zi_102_249 rfl <| yI_gf_f (v := x0 + 6) zi_102_250 (zTr_k h1) rfl <| yI_iload zi_102_253 rfl <| yI_ialoadc (v := gI σ (x0 + 6) x6.toNat) zi_102_255 (zTr_a6 h1) rfl <| yI_isub zi_102_256 <| yI_iconst zi_102_257 <| yI_iadd zi_102_258 <| yI_iload zi_102_259 rfl <| yI_ic_ne zi_102_261 <| yBr (rfl) (yI_iconst zi_102_264 <| yI_goto zi_102_265 <| yI_zreturn zi_102_269 (by decide)))) (yBr (yI_aload_n zi_102_270 rfl <| yI_gf_f (v := x0 + 8) zi_102_271 (zTr_k h1) rfl <| yI_iload zi_102_274 rfl <| yI_ialoadc (v := gI σ (x0 + 8) x5.toNat) zi_102_276 (zTr_a8 h1) rfl <| yI_iconst zi_102_277 <| yI_iadd zi_102_278 <| yI_aload_n zi_102_279 rfl <| yI_gf_f (v := x0 + 7) zi_102_280 (zTr_k h1) rfl <| yI_iload zi_102_283 rfl <| yI_ialoadc (v := gI σ (x0 + 7) x6.toNat) zi_102_285 (zTr_a7 h1) rfl <| yI_ic_ne zi_102_286 <| yBr (yI_iconst zi_102_293 <| yI_zreturn zi_102_294 (by decide)) (yI_iconst zi_102_289 <| yI_goto zi_102_290 <| yI_zreturn zi_102_294 (by decide))) (yBr (yI_aload_n zi_102_295 rfl <| yI_gf_f (v := x0 + 8) zi_102_296 (zTr_k h1) rfl <| yI_iload zi_102_299 rfl <| yI_ialoadc (v := gI σ (x0 + 8) x5.toNat) zi_102_301 (zTr_a8 h1) rfl <| yI_aload_n zi_102_302 rfl <| yI_gf_f (v := x0 + 7) zi_102_303 (zTr_k h1) rfl <| yI_iload zi_102_306 rfl <| yI_ialoadc (v := gI σ (x0 + 7) x6.toNat) zi_102_308 (zTr_a7 h1) rfl <| yI_ic_ge zi_102_309 <| yBr (yI_iconst zi_102_316 <| yI_zreturn zi_102_317 (by decide)) (yI_iconst zi_102_312 <| yI_goto zi_102_313 <| yI_zreturn zi_102_317 (by decide))) (yBr (yI_iload zi_102_318 rfl <| yI_zreturn zi_102_320 (by decide)) (yBr (yI_iload zi_102_321 rfl <| yI_if_eq zi_102_323 <| yBr (rfl) (yI_aload_n zi_102_326 rfl <| yI_gf_f (v := x0 + 6) zi_102_327 (zTr_k h1) rfl <| yI_iload zi_102_330 rfl <| yI_ialoadc (v := gI σ (x0 + 6) x6.toNat) zi_102_332 (zTr_a6 h1) rfl <| yI_aload_n zi_102_333 rfl <| yI_gf_f (v := x0 + 6) zi_102_334 (zTr_k h1) rfl <| yI_iload zi_102_337 rfl <| yI_ialoadc (v := gI σ (x0 + 6) x5.toNat) zi_102_339 (zTr_a6 h1) rfl <| yI_iconst zi_102_340 <| yI_iadd zi_102_341 <| yI_ic_ne zi_102_342 <| yBr (rfl) (yI_iconst zi_102_345 <| yI_goto zi_102_346 <| yI_zreturn zi_102_350 (by decide)))) (yBr (yI_iload zi_102_351 rfl <| yI_if_eq zi_102_353 <| yBr (rfl) (yI_aload_n zi_102_356 rfl <| yI_gf_f (v := x0 + 6) zi_102_357 (zTr_k h1) rfl <| yI_iload zi_102_360 rfl <| yI_ialoadc (v := gI σ (x0 + 6) x6.toNat) zi_102_362 (zTr_a6 h1) rfl <| yI_aload_n zi_102_363 rfl <| yI_gf_f (v := x0 + 6) zi_102_364 (zTr_k h1) rfl <| yI_iload zi_102_367 rfl <| yI_ialoadc (v := gI σ (x0 + 6) x5.toNat) zi_102_369 (zTr_a6 h1) rfl <| yI_ic_le zi_102_370 <| yBr (rfl) (yI_iconst zi_102_373 <| yI_goto zi_102_374 <| yI_zreturn zi_102_378 (by decide)))) (yI_iconst zi_102_379 <| yI_zreturn zi_102_380 (by decide)))))))))))
theorem zj_102_190 {K : List zF} {σ : zW} {o0 : Option zV} {o1 : Option zV} {o2 : Option zV} {o3 : Option zV} {o4 : Option zV} {o5 : Option zV} {o6 : Option zV} {o7 : Option zV} {o8 : Option zV} {o9 : Option zV} : zEv true ((102, 190, [o0, o1, o2, o3, o4, o5, o6, o7, o8, o9], []) :: K) σ = (zRet true K (some (.inl 0)) σ) :=
  yI_iconst zi_102_190 <| yI_zreturn zi_102_191 (by decide)
theorem zj_102_212 {K : List zF} {σ : zW} {o0 : Option zV} {o1 : Option zV} {o2 : Option zV} {o3 : Option zV} {o4 : Option zV} {o5 : Option zV} {o6 : Option zV} {o7 : Option zV} {o8 : Option zV} {o9 : Option zV} : zEv true ((102, 212, [o0, o1, o2, o3, o4, o5, o6, o7, o8, o9], []) :: K) σ = (zRet true K (some (.inl 0)) σ) :=
  yI_iconst zi_102_212 <| yI_zreturn zi_102_213 (by decide)
theorem zj_102_235 {K : List zF} {σ : zW} {o0 : Option zV} {o1 : Option zV} {o2 : Option zV} {o3 : Option zV} {o4 : Option zV} {o5 : Option zV} {o6 : Option zV} {o7 : Option zV} {o8 : Option zV} {o9 : Option zV} : zEv true ((102, 235, [o0, o1, o2, o3, o4, o5, o6, o7, o8, o9], []) :: K) σ = (zRet true K (some (.inl 0)) σ) :=
  yI_iconst zi_102_235 <| yI_zreturn zi_102_236 (by decide)
theorem zj_102_268 {K : List zF} {σ : zW} {o0 : Option zV} {o1 : Option zV} {o2 : Option zV} {o3 : Option zV} {o4 : Option zV} {o5 : Option zV} {o6 : Option zV} {o7 : Option zV} {o8 : Option zV} {o9 : Option zV} : zEv true ((102, 268, [o0, o1, o2, o3, o4, o5, o6, o7, o8, o9], []) :: K) σ = (zRet true K (some (.inl 0)) σ) :=
  yI_iconst zi_102_268 <| yI_zreturn zi_102_269 (by decide)
theorem zj_102_349 {K : List zF} {σ : zW} {o0 : Option zV} {o1 : Option zV} {o2 : Option zV} {o3 : Option zV} {o4 : Option zV} {o5 : Option zV} {o6 : Option zV} {o7 : Option zV} {o8 : Option zV} {o9 : Option zV} : zEv true ((102, 349, [o0, o1, o2, o3, o4, o5, o6, o7, o8, o9], []) :: K) σ = (zRet true K (some (.inl 0)) σ) :=
  yI_iconst zi_102_349 <| yI_zreturn zi_102_350 (by decide)
theorem zj_102_377 {K : List zF} {σ : zW} {o0 : Option zV} {o1 : Option zV} {o2 : Option zV} {o3 : Option zV} {o4 : Option zV} {o5 : Option zV} {o6 : Option zV} {o7 : Option zV} {o8 : Option zV} {o9 : Option zV} : zEv true ((102, 377, [o0, o1, o2, o3, o4, o5, o6, o7, o8, o9], []) :: K) σ = (zRet true K (some (.inl 0)) σ) :=
  yI_iconst zi_102_377 <| yI_zreturn zi_102_378 (by decide)
/-- 104 Treegrab.feed(JI)I -/
theorem zi_104_0 : zraw 104 0 = some (.iload_n 3, 1) ∧ 0 + 1 = 1 := by decide +kernel
theorem zi_104_1 : zraw 104 1 = some (.iconst 1, 1) ∧ zin 128 1 = true ∧ 1 + 1 = 2 := by decide +kernel
theorem zi_104_2 : zraw 104 2 = some (.if_icmp .lt 9, 3) ∧ ((2 : Nat) : Int) + 9 = Int.ofNat 11 ∧ 2 + 3 = 5 := by decide +kernel
theorem zi_104_5 : zraw 104 5 = some (.iload_n 3, 1) ∧ 5 + 1 = 6 := by decide +kernel
theorem zi_104_6 : zraw 104 6 = some (.bipush 8, 2) ∧ zin 128 8 = true ∧ 6 + 2 = 8 := by decide +kernel
theorem zi_104_8 : zraw 104 8 = some (.if_icmp .le 13, 3) ∧ ((8 : Nat) : Int) + 13 = Int.ofNat 21 ∧ 8 + 3 = 11 := by decide +kernel
theorem zi_104_11 : zraw 104 11 = some (.new 89, 3) ∧ zths 104 11 = some 0 := by decide +kernel
theorem zi_104_21 : zraw 104 21 = some (.aload_n 0, 1) ∧ 21 + 1 = 22 := by decide +kernel
theorem zi_104_22 : zraw 104 22 = some (.getfield 10, 3) ∧ zft (zinf 104).1 10 = some (9, 0, 3, true) ∧ 22 + 3 = 25 := by decide +kernel
theorem zi_104_25 : zraw 104 25 = some (.getfield 96, 3) ∧ zft (zinf 104).1 96 = some (7, 1, 0, false) ∧ 25 + 3 = 28 := by decide +kernel
theorem zi_104_28 : zraw 104 28 = some (.iload_n 3, 1) ∧ 28 + 1 = 29 := by decide +kernel
theorem zi_104_29 : zraw 104 29 = some (.iadd, 1) ∧ 29 + 1 = 30 := by decide +kernel
theorem zi_104_30 : zraw 104 30 = some (.sipush 600, 3) ∧ zin 32768 600 = true ∧ 30 + 3 = 33 := by decide +kernel
theorem zi_104_33 : zraw 104 33 = some (.if_icmp .le 13, 3) ∧ ((33 : Nat) : Int) + 13 = Int.ofNat 46 ∧ 33 + 3 = 36 := by decide +kernel
theorem zi_104_36 : zraw 104 36 = some (.new 99, 3) ∧ zths 104 36 = some 1 := by decide +kernel
theorem zi_104_46 : zraw 104 46 = some (.aload_n 0, 1) ∧ 46 + 1 = 47 := by decide +kernel
theorem zi_104_47 : zraw 104 47 = some (.getfield 10, 3) ∧ zft (zinf 104).1 10 = some (9, 0, 3, true) ∧ 47 + 3 = 50 := by decide +kernel
theorem zi_104_50 : zraw 104 50 = some (.lload_n 1, 1) ∧ 50 + 1 = 51 := by decide +kernel
theorem zi_104_51 : zraw 104 51 = some (.iload_n 3, 1) ∧ 51 + 1 = 52 := by decide +kernel
theorem zi_104_52 : zraw 104 52 = some (.invokevirtual 104, 3) ∧ zmt (zinf 104).1 104 = some 81 ∧ Nat.ble 9000 81 = false ∧ zinf 81 = (7, 3, 5, 0, 0) ∧ 52 + 3 = 55 := by decide +kernel
theorem zi_104_55 : zraw 104 55 = some (.aload_n 0, 1) ∧ 55 + 1 = 56 := by decide +kernel
theorem zi_104_56 : zraw 104 56 = some (.getfield 10, 3) ∧ zft (zinf 104).1 10 = some (9, 0, 3, true) ∧ 56 + 3 = 59 := by decide +kernel
theorem zi_104_59 : zraw 104 59 = some (.getfield 96, 3) ∧ zft (zinf 104).1 96 = some (7, 1, 0, false) ∧ 59 + 3 = 62 := by decide +kernel
theorem zi_104_62 : zraw 104 62 = some (.ireturn, 1) ∧ (zinf 104).2.2.2.1 = 1 := by decide +kernel
theorem ze_104 {K : List zF} {σ : zW} {x1 : Int64} {x3 : Int} (hK : K.length < 60) : zEv true (zent 104 [.inr (.inr 1), .inr (.inl x1), .inl x3] :: K) σ = (if x3 < 1 then zEv true ((104, 11, [some (.inr (.inr 1)), some (.inr (.inl x1)), none, some (.inl x3)], []) :: K) σ else if x3 ≤ 8 then if (w32 ((gI σ 2 1) + x3)) ≤ 600 then zEv true (zent 81 [.inr (.inr 2), .inr (.inl x1), .inl x3] :: (104, 55, [some (.inr (.inr 1)), some (.inr (.inl x1)), none, some (.inl x3)], []) :: K) σ else zThr true K 1 (zex σ) else zEv true ((104, 11, [some (.inr (.inr 1)), some (.inr (.inl x1)), none, some (.inl x3)], []) :: K) σ) :=
  yT_en (f := (104, 0, [some (.inr (.inr 1)), some (.inr (.inl x1)), none, some (.inl x3)], [])) rfl (yI_iload_n zi_104_0 rfl <| yI_iconst zi_104_1 <| yI_ic_lt zi_104_2 <| yBr (rfl) (yI_iload_n zi_104_5 rfl <| yI_bipush zi_104_6 <| yI_ic_le zi_104_8 <| yBr (yI_aload_n zi_104_21 rfl <| yI_gf_f (v := 2) zi_104_22 zk_1 rfl <| yI_gf_i (v := gI σ 2 1) zi_104_25 zk_2 rfl <| yI_iload_n zi_104_28 rfl <| yI_iadd zi_104_29 <| yI_sipush zi_104_30 <| yI_ic_le zi_104_33 <| yBr (yI_aload_n zi_104_46 rfl <| yI_gf_f (v := 2) zi_104_47 zk_1 rfl <| yI_lload_n zi_104_50 rfl <| yI_iload_n zi_104_51 rfl <| yI_cv zi_104_52 rfl rfl zk_2 hK) (yI_throw zi_104_36 rfl)) (rfl)))
theorem zj_104_11 {K : List zF} {σ : zW} {o0 : Option zV} {o1 : Option zV} {o2 : Option zV} {o3 : Option zV} : zEv true ((104, 11, [o0, o1, o2, o3], []) :: K) σ = (zThr true K 0 (zex σ)) :=
  yI_throw zi_104_11 rfl
theorem zr_104_55 {K : List zF} {σ : zW} {o1 : Option zV} {o2 : Option zV} {o3 : Option zV} : zRet true ((104, 55, [some (.inr (.inr 1)), o1, o2, o3], []) :: K) none σ = (zRet true K (some (.inl (gI σ 2 1))) σ) :=
  yT_rv (yI_aload_n zi_104_55 rfl <| yI_gf_f (v := 2) zi_104_56 zk_1 rfl <| yI_gf_i (v := gI σ 2 1) zi_104_59 zk_2 rfl <| yI_ireturn zi_104_62)
/-- 105 Treegrab.plant(I)I -/
theorem zi_105_0 : zraw 105 0 = some (.iload_n 1, 1) ∧ 0 + 1 = 1 := by decide +kernel
theorem zi_105_1 : zraw 105 1 = some (.invokestatic 108, 3) ∧ zmt (zinf 105).1 108 = some 125 ∧ Nat.ble 9000 125 = false ∧ zinf 125 = (9, 1, 1, 2, 1) ∧ 1 + 3 = 4 := by decide +kernel
theorem zi_105_4 : zraw 105 4 = some (.ifCond .eq 20, 3) ∧ ((4 : Nat) : Int) + 20 = Int.ofNat 24 ∧ 4 + 3 = 7 := by decide +kernel
theorem zi_105_7 : zraw 105 7 = some (.aload_n 0, 1) ∧ 7 + 1 = 8 := by decide +kernel
theorem zi_105_8 : zraw 105 8 = some (.getfield 10, 3) ∧ zft (zinf 105).1 10 = some (9, 0, 3, true) ∧ 8 + 3 = 11 := by decide +kernel
theorem zi_105_11 : zraw 105 11 = some (.invokevirtual 112, 3) ∧ zmt (zinf 105).1 112 = some 82 ∧ Nat.ble 9000 82 = false ∧ zinf 82 = (7, 1, 1, 0, 0) ∧ 11 + 3 = 14 := by decide +kernel
theorem zi_105_14 : zraw 105 14 = some (.new 115, 3) ∧ zths 105 14 = some 2 := by decide +kernel
theorem zi_105_24 : zraw 105 24 = some (.aload_n 0, 1) ∧ 24 + 1 = 25 := by decide +kernel
theorem zi_105_25 : zraw 105 25 = some (.getfield 61, 3) ∧ zft (zinf 105).1 61 = some (9, 8, 3, false) ∧ 25 + 3 = 28 := by decide +kernel
theorem zi_105_28 : zraw 105 28 = some (.aload_n 0, 1) ∧ 28 + 1 = 29 := by decide +kernel
theorem zi_105_29 : zraw 105 29 = some (.getfield 10, 3) ∧ zft (zinf 105).1 10 = some (9, 0, 3, true) ∧ 29 + 3 = 32 := by decide +kernel
theorem zi_105_32 : zraw 105 32 = some (.invokevirtual 120, 3) ∧ zmt (zinf 105).1 120 = some 93 ∧ Nat.ble 9000 93 = false ∧ zinf 93 = (8, 2, 6, 2, 0) ∧ 32 + 3 = 35 := by decide +kernel
theorem zi_105_35 : zraw 105 35 = some (.istore_n 2, 1) ∧ 35 + 1 = 36 := by decide +kernel
theorem zi_105_36 : zraw 105 36 = some (.aload_n 0, 1) ∧ 36 + 1 = 37 := by decide +kernel
theorem zi_105_37 : zraw 105 37 = some (.invokevirtual 124, 3) ∧ zmt (zinf 105).1 124 = some 129 ∧ Nat.ble 9000 129 = false ∧ zinf 129 = (9, 1, 1, 0, 0) ∧ 37 + 3 = 40 := by decide +kernel
theorem zi_105_40 : zraw 105 40 = some (.iload_n 2, 1) ∧ 40 + 1 = 41 := by decide +kernel
theorem zi_105_41 : zraw 105 41 = some (.ifCond .ne 13, 3) ∧ ((41 : Nat) : Int) + 13 = Int.ofNat 54 ∧ 41 + 3 = 44 := by decide +kernel
theorem zi_105_44 : zraw 105 44 = some (.new 99, 3) ∧ zths 105 44 = some 1 := by decide +kernel
theorem zi_105_54 : zraw 105 54 = some (.aload_n 0, 1) ∧ 54 + 1 = 55 := by decide +kernel
theorem zi_105_55 : zraw 105 55 = some (.getfield 19, 3) ∧ zft (zinf 105).1 19 = some (9, 1, 3, true) ∧ 55 + 3 = 58 := by decide +kernel
theorem zi_105_58 : zraw 105 58 = some (.iload_n 1, 1) ∧ 58 + 1 = 59 := by decide +kernel
theorem zi_105_59 : zraw 105 59 = some (.aaload, 1) ∧ 59 + 1 = 60 := by decide +kernel
theorem zi_105_60 : zraw 105 60 = some (.astore_n 3, 1) ∧ 60 + 1 = 61 := by decide +kernel
theorem zi_105_61 : zraw 105 61 = some (.aload_n 0, 1) ∧ 61 + 1 = 62 := by decide +kernel
theorem zi_105_62 : zraw 105 62 = some (.getfield 19, 3) ∧ zft (zinf 105).1 19 = some (9, 1, 3, true) ∧ 62 + 3 = 65 := by decide +kernel
theorem zi_105_65 : zraw 105 65 = some (.iload_n 1, 1) ∧ 65 + 1 = 66 := by decide +kernel
theorem zi_105_66 : zraw 105 66 = some (.aload_n 0, 1) ∧ 66 + 1 = 67 := by decide +kernel
theorem zi_105_67 : zraw 105 67 = some (.getfield 61, 3) ∧ zft (zinf 105).1 61 = some (9, 8, 3, false) ∧ 67 + 3 = 70 := by decide +kernel
theorem zi_105_70 : zraw 105 70 = some (.aastore, 1) ∧ 70 + 1 = 71 := by decide +kernel
theorem zi_105_71 : zraw 105 71 = some (.aload_n 0, 1) ∧ 71 + 1 = 72 := by decide +kernel
theorem zi_105_72 : zraw 105 72 = some (.aload_n 3, 1) ∧ 72 + 1 = 73 := by decide +kernel
theorem zi_105_73 : zraw 105 73 = some (.putfield 61, 3) ∧ zft (zinf 105).1 61 = some (9, 8, 3, false) ∧ 73 + 3 = 76 := by decide +kernel
theorem zi_105_76 : zraw 105 76 = some (.aload_n 0, 1) ∧ 76 + 1 = 77 := by decide +kernel
theorem zi_105_77 : zraw 105 77 = some (.getfield 19, 3) ∧ zft (zinf 105).1 19 = some (9, 1, 3, true) ∧ 77 + 3 = 80 := by decide +kernel
theorem zi_105_80 : zraw 105 80 = some (.iload_n 1, 1) ∧ 80 + 1 = 81 := by decide +kernel
theorem zi_105_81 : zraw 105 81 = some (.aaload, 1) ∧ 81 + 1 = 82 := by decide +kernel
theorem zi_105_82 : zraw 105 82 = some (.invokevirtual 129, 3) ∧ zmt (zinf 105).1 129 = some 95 ∧ Nat.ble 9000 95 = false ∧ zinf 95 = (8, 1, 3, 0, 0) ∧ 82 + 3 = 85 := by decide +kernel
theorem zi_105_85 : zraw 105 85 = some (.aload_n 0, 1) ∧ 85 + 1 = 86 := by decide +kernel
theorem zi_105_86 : zraw 105 86 = some (.getfield 50, 3) ∧ zft (zinf 105).1 50 = some (9, 6, 3, true) ∧ 86 + 3 = 89 := by decide +kernel
theorem zi_105_89 : zraw 105 89 = some (.iload_n 1, 1) ∧ 89 + 1 = 90 := by decide +kernel
theorem zi_105_90 : zraw 105 90 = some (.invokevirtual 132, 3) ∧ zmt (zinf 105).1 132 = some 28 ∧ Nat.ble 9000 28 = false ∧ zinf 28 = (2, 2, 2, 0, 0) ∧ 90 + 3 = 93 := by decide +kernel
theorem zi_105_93 : zraw 105 93 = some (.aload_n 0, 1) ∧ 93 + 1 = 94 := by decide +kernel
theorem zi_105_94 : zraw 105 94 = some (.invokevirtual 136, 3) ∧ zmt (zinf 105).1 136 = some 132 ∧ Nat.ble 9000 132 = false ∧ zinf 132 = (9, 1, 1, 0, 0) ∧ 94 + 3 = 97 := by decide +kernel
theorem zi_105_97 : zraw 105 97 = some (.aload_n 0, 1) ∧ 97 + 1 = 98 := by decide +kernel
theorem zi_105_98 : zraw 105 98 = some (.getfield 19, 3) ∧ zft (zinf 105).1 19 = some (9, 1, 3, true) ∧ 98 + 3 = 101 := by decide +kernel
theorem zi_105_101 : zraw 105 101 = some (.iload_n 1, 1) ∧ 101 + 1 = 102 := by decide +kernel
theorem zi_105_102 : zraw 105 102 = some (.aaload, 1) ∧ 102 + 1 = 103 := by decide +kernel
theorem zi_105_103 : zraw 105 103 = some (.getfield 139, 3) ∧ zft (zinf 105).1 139 = some (8, 12, 0, false) ∧ 103 + 3 = 106 := by decide +kernel
theorem zi_105_106 : zraw 105 106 = some (.ireturn, 1) ∧ (zinf 105).2.2.2.1 = 1 := by decide +kernel
theorem ze_105 {K : List zF} {σ : zW} {x1 : Int} (hK : K.length < 60) : zEv true (zent 105 [.inr (.inr 1), .inl x1] :: K) σ = (zEv true (zent 125 [.inl x1] :: (105, 4, [some (.inr (.inr 1)), some (.inl x1), none, none], []) :: K) σ) :=
  yT_en (f := (105, 0, [some (.inr (.inr 1)), some (.inl x1), none, none], [])) rfl (yI_iload_n zi_105_0 rfl <| yI_cs zi_105_1 rfl rfl hK)
theorem zr_105_4 {K : List zF} {σ : zW} {x1 : Int} {o2 : Option zV} {o3 : Option zV} {v : Int} (hK : K.length < 60) (h1 : zTr (gR σ 1 8)) : zRet true ((105, 4, [some (.inr (.inr 1)), some (.inl x1), o2, o3], []) :: K) (some (.inl v)) σ = (if v = 0 then zEv true (zent 93 [.inr (.inr (gR σ 1 8)), .inr (.inr 2)] :: (105, 35, [some (.inr (.inr 1)), some (.inl x1), o2, o3], []) :: K) σ else zEv true (zent 82 [.inr (.inr 2)] :: (105, 14, [some (.inr (.inr 1)), some (.inl x1), o2, o3], []) :: K) σ) :=
  yT_rt (yI_if_eq zi_105_4 <| yBr (yI_aload_n zi_105_24 rfl <| yI_gf_r (v := gR σ 1 8) zi_105_25 zk_1 rfl <| yI_aload_n zi_105_28 rfl <| yI_gf_f (v := 2) zi_105_29 zk_1 rfl <| yI_cv zi_105_32 rfl rfl (zTr_k h1) hK) (yI_aload_n zi_105_7 rfl <| yI_gf_f (v := 2) zi_105_8 zk_1 rfl <| yI_cv zi_105_11 rfl rfl zk_2 hK))
theorem zr_105_35 {K : List zF} {σ : zW} {x1 : Int} {o2 : Option zV} {o3 : Option zV} {v : Int} (hK : K.length < 60) : zRet true ((105, 35, [some (.inr (.inr 1)), some (.inl x1), o2, o3], []) :: K) (some (.inl v)) σ = (zEv true (zent 129 [.inr (.inr 1)] :: (105, 40, [some (.inr (.inr 1)), some (.inl x1), some (.inl v), o3], []) :: K) σ) :=
  yT_rt (yI_istore_n (l := [some (.inr (.inr 1)), some (.inl x1), some (.inl v), o3]) zi_105_35 rfl rfl <| yI_aload_n zi_105_36 rfl <| yI_cv zi_105_37 rfl rfl zk_1 hK)
theorem zr_105_14 {K : List zF} {σ : zW} {o0 : Option zV} {o1 : Option zV} {o2 : Option zV} {o3 : Option zV} : zRet true ((105, 14, [o0, o1, o2, o3], []) :: K) none σ = (zThr true K 2 (zex σ)) :=
  yT_rv (yI_throw zi_105_14 rfl)
theorem zr_105_40 {K : List zF} {σ : zW} {x1 : Int} {x2 : Int} {o3 : Option zV} (hK : K.length < 60) (h1 : zTr (gR σ 1 8)) : zRet true ((105, 40, [some (.inr (.inr 1)), some (.inl x1), some (.inl x2), o3], []) :: K) none σ = (if ¬ x2 = 0 then (0 ≤ x1 ∧ x1 < 3) ∧ ((0 ≤ x1 ∧ x1 < 3) ∧ ((0 ≤ x1 ∧ x1 < 3) ∧ zEv true (zent 95 [.inr (.inr (gR σ 1 8))] :: (105, 85, [some (.inr (.inr 1)), some (.inl x1), some (.inl x2), some (.inr (.inr (gR σ 4 x1.toNat)))], []) :: K) (sR (sR σ 4 x1.toNat (gR σ 1 8)) 1 8 (gR σ 4 x1.toNat)))) else zThr true K 1 (zex σ)) :=
  yT_rv (yI_iload_n zi_105_40 rfl <| yI_if_ne zi_105_41 <| yBr (yI_aload_n zi_105_54 rfl <| yI_gf_f (v := 4) zi_105_55 zk_1 rfl <| yI_iload_n zi_105_58 rfl <| yI_aaloadc (v := gR σ 4 x1.toNat) zi_105_59 za_4 rfl <| yI_astore_n (l := [some (.inr (.inr 1)), some (.inl x1), some (.inl x2), some (.inr (.inr (gR σ 4 x1.toNat)))]) zi_105_60 rfl rfl <| yI_aload_n zi_105_61 rfl <| yI_gf_f (v := 4) zi_105_62 zk_1 rfl <| yI_iload_n zi_105_65 rfl <| yI_aload_n zi_105_66 rfl <| yI_gf_r (v := gR σ 1 8) zi_105_67 zk_1 rfl <| yI_aastorec zi_105_70 za_4 (zTr_k h1) <| yI_aload_n zi_105_71 rfl <| yI_aload_n zi_105_72 rfl <| yI_pf_r zi_105_73 zk_1 <| yI_aload_n zi_105_76 rfl <| yI_gf_f (v := 4) zi_105_77 zk_1 rfl <| yI_iload_n zi_105_80 rfl <| yI_aaloadc (v := gR σ 1 8) zi_105_81 za_4 ((yGR_nk (by decide)).trans (yGR_hit)) <| yI_cv zi_105_82 rfl rfl (zTr_k h1) hK) (yI_throw zi_105_44 rfl))
theorem zr_105_85 {K : List zF} {σ : zW} {x1 : Int} {o2 : Option zV} {o3 : Option zV} (hK : K.length < 60) : zRet true ((105, 85, [some (.inr (.inr 1)), some (.inl x1), o2, o3], []) :: K) none σ = (zEv true (zent 28 [.inr (.inr 61), .inl x1] :: (105, 93, [some (.inr (.inr 1)), some (.inl x1), o2, o3], []) :: K) σ) :=
  yT_rv (yI_aload_n zi_105_85 rfl <| yI_gf_f (v := 61) zi_105_86 zk_1 rfl <| yI_iload_n zi_105_89 rfl <| yI_cv zi_105_90 rfl rfl zk_61 hK)
theorem zr_105_93 {K : List zF} {σ : zW} {x1 : Int} {o2 : Option zV} {o3 : Option zV} (hK : K.length < 60) : zRet true ((105, 93, [some (.inr (.inr 1)), some (.inl x1), o2, o3], []) :: K) none σ = (zEv true (zent 132 [.inr (.inr 1)] :: (105, 97, [some (.inr (.inr 1)), some (.inl x1), o2, o3], []) :: K) σ) :=
  yT_rv (yI_aload_n zi_105_93 rfl <| yI_cv zi_105_94 rfl rfl zk_1 hK)
theorem zr_105_97 {K : List zF} {σ : zW} {x1 : Int} {o2 : Option zV} {o3 : Option zV} (h1 : zTr (gR σ 4 x1.toNat)) : zRet true ((105, 97, [some (.inr (.inr 1)), some (.inl x1), o2, o3], []) :: K) none σ = ((0 ≤ x1 ∧ x1 < 3) ∧ zRet true K (some (.inl (gI σ (gR σ 4 x1.toNat) 12))) σ) :=
  yT_rv (yI_aload_n zi_105_97 rfl <| yI_gf_f (v := 4) zi_105_98 zk_1 rfl <| yI_iload_n zi_105_101 rfl <| yI_aaloadc (v := gR σ 4 x1.toNat) zi_105_102 za_4 rfl <| yI_gf_i (v := gI σ (gR σ 4 x1.toNat) 12) zi_105_103 (zTr_k h1) rfl <| yI_ireturn zi_105_106)
/-- 106 Treegrab.pattern()I -/
theorem zi_106_0 : zraw 106 0 = some (.aload_n 0, 1) ∧ 0 + 1 = 1 := by decide +kernel
theorem zi_106_1 : zraw 106 1 = some (.getfield 72, 3) ∧ zft (zinf 106).1 72 = some (9, 10, 3, false) ∧ 1 + 3 = 4 := by decide +kernel
theorem zi_106_4 : zraw 106 4 = some (.aload_n 0, 1) ∧ 4 + 1 = 5 := by decide +kernel
theorem zi_106_5 : zraw 106 5 = some (.getfield 10, 3) ∧ zft (zinf 106).1 10 = some (9, 0, 3, true) ∧ 5 + 3 = 8 := by decide +kernel
theorem zi_106_8 : zraw 106 8 = some (.invokevirtual 142, 3) ∧ zmt (zinf 106).1 142 = some 37 ∧ Nat.ble 9000 37 = false ∧ zinf 37 = (4, 2, 9, 2, 0) ∧ 8 + 3 = 11 := by decide +kernel
theorem zi_106_11 : zraw 106 11 = some (.istore_n 1, 1) ∧ 11 + 1 = 12 := by decide +kernel
theorem zi_106_12 : zraw 106 12 = some (.aload_n 0, 1) ∧ 12 + 1 = 13 := by decide +kernel
theorem zi_106_13 : zraw 106 13 = some (.invokevirtual 124, 3) ∧ zmt (zinf 106).1 124 = some 129 ∧ Nat.ble 9000 129 = false ∧ zinf 129 = (9, 1, 1, 0, 0) ∧ 13 + 3 = 16 := by decide +kernel
theorem zi_106_16 : zraw 106 16 = some (.iload_n 1, 1) ∧ 16 + 1 = 17 := by decide +kernel
theorem zi_106_17 : zraw 106 17 = some (.ifCond .ne 13, 3) ∧ ((17 : Nat) : Int) + 13 = Int.ofNat 30 ∧ 17 + 3 = 20 := by decide +kernel
theorem zi_106_20 : zraw 106 20 = some (.new 99, 3) ∧ zths 106 20 = some 1 := by decide +kernel
theorem zi_106_30 : zraw 106 30 = some (.aload_n 0, 1) ∧ 30 + 1 = 31 := by decide +kernel
theorem zi_106_31 : zraw 106 31 = some (.getfield 68, 3) ∧ zft (zinf 106).1 68 = some (9, 9, 3, false) ∧ 31 + 3 = 34 := by decide +kernel
theorem zi_106_34 : zraw 106 34 = some (.astore_n 2, 1) ∧ 34 + 1 = 35 := by decide +kernel
theorem zi_106_35 : zraw 106 35 = some (.aload_n 0, 1) ∧ 35 + 1 = 36 := by decide +kernel
theorem zi_106_36 : zraw 106 36 = some (.aload_n 0, 1) ∧ 36 + 1 = 37 := by decide +kernel
theorem zi_106_37 : zraw 106 37 = some (.getfield 72, 3) ∧ zft (zinf 106).1 72 = some (9, 10, 3, false) ∧ 37 + 3 = 40 := by decide +kernel
theorem zi_106_40 : zraw 106 40 = some (.putfield 68, 3) ∧ zft (zinf 106).1 68 = some (9, 9, 3, false) ∧ 40 + 3 = 43 := by decide +kernel
theorem zi_106_43 : zraw 106 43 = some (.aload_n 0, 1) ∧ 43 + 1 = 44 := by decide +kernel
theorem zi_106_44 : zraw 106 44 = some (.aload_n 2, 1) ∧ 44 + 1 = 45 := by decide +kernel
theorem zi_106_45 : zraw 106 45 = some (.putfield 72, 3) ∧ zft (zinf 106).1 72 = some (9, 10, 3, false) ∧ 45 + 3 = 48 := by decide +kernel
theorem zi_106_48 : zraw 106 48 = some (.aload_n 0, 1) ∧ 48 + 1 = 49 := by decide +kernel
theorem zi_106_49 : zraw 106 49 = some (.invokevirtual 136, 3) ∧ zmt (zinf 106).1 136 = some 132 ∧ Nat.ble 9000 132 = false ∧ zinf 132 = (9, 1, 1, 0, 0) ∧ 49 + 3 = 52 := by decide +kernel
theorem zi_106_52 : zraw 106 52 = some (.aload_n 0, 1) ∧ 52 + 1 = 53 := by decide +kernel
theorem zi_106_53 : zraw 106 53 = some (.getfield 68, 3) ∧ zft (zinf 106).1 68 = some (9, 9, 3, false) ∧ 53 + 3 = 56 := by decide +kernel
theorem zi_106_56 : zraw 106 56 = some (.getfield 145, 3) ∧ zft (zinf 106).1 145 = some (4, 16, 0, false) ∧ 56 + 3 = 59 := by decide +kernel
theorem zi_106_59 : zraw 106 59 = some (.ireturn, 1) ∧ (zinf 106).2.2.2.1 = 1 := by decide +kernel
theorem ze_106 {K : List zF} {σ : zW} (hK : K.length < 60) (h1 : zPn (gR σ 1 10)) : zEv true (zent 106 [.inr (.inr 1)] :: K) σ = (zEv true (zent 37 [.inr (.inr (gR σ 1 10)), .inr (.inr 2)] :: (106, 11, [some (.inr (.inr 1)), none, none], []) :: K) σ) :=
  yT_en (f := (106, 0, [some (.inr (.inr 1)), none, none], [])) rfl (yI_aload_n zi_106_0 rfl <| yI_gf_r (v := gR σ 1 10) zi_106_1 zk_1 rfl <| yI_aload_n zi_106_4 rfl <| yI_gf_f (v := 2) zi_106_5 zk_1 rfl <| yI_cv zi_106_8 rfl rfl (zPn_k h1) hK)
theorem zr_106_11 {K : List zF} {σ : zW} {o1 : Option zV} {o2 : Option zV} {v : Int} (hK : K.length < 60) : zRet true ((106, 11, [some (.inr (.inr 1)), o1, o2], []) :: K) (some (.inl v)) σ = (zEv true (zent 129 [.inr (.inr 1)] :: (106, 16, [some (.inr (.inr 1)), some (.inl v), o2], []) :: K) σ) :=
  yT_rt (yI_istore_n (l := [some (.inr (.inr 1)), some (.inl v), o2]) zi_106_11 rfl rfl <| yI_aload_n zi_106_12 rfl <| yI_cv zi_106_13 rfl rfl zk_1 hK)
theorem zr_106_16 {K : List zF} {σ : zW} {x1 : Int} {o2 : Option zV} (hK : K.length < 60) : zRet true ((106, 16, [some (.inr (.inr 1)), some (.inl x1), o2], []) :: K) none σ = (if ¬ x1 = 0 then zEv true (zent 132 [.inr (.inr 1)] :: (106, 52, [some (.inr (.inr 1)), some (.inl x1), some (.inr (.inr (gR σ 1 9)))], []) :: K) (sR (sR σ 1 9 (gR σ 1 10)) 1 10 (gR σ 1 9)) else zThr true K 1 (zex σ)) :=
  yT_rv (yI_iload_n zi_106_16 rfl <| yI_if_ne zi_106_17 <| yBr (yI_aload_n zi_106_30 rfl <| yI_gf_r (v := gR σ 1 9) zi_106_31 zk_1 rfl <| yI_astore_n (l := [some (.inr (.inr 1)), some (.inl x1), some (.inr (.inr (gR σ 1 9)))]) zi_106_34 rfl rfl <| yI_aload_n zi_106_35 rfl <| yI_aload_n zi_106_36 rfl <| yI_gf_r (v := gR σ 1 10) zi_106_37 zk_1 rfl <| yI_pf_r zi_106_40 zk_1 <| yI_aload_n zi_106_43 rfl <| yI_aload_n zi_106_44 rfl <| yI_pf_r zi_106_45 zk_1 <| yI_aload_n zi_106_48 rfl <| yI_cv zi_106_49 rfl rfl zk_1 hK) (yI_throw zi_106_20 rfl))
theorem zr_106_52 {K : List zF} {σ : zW} {o1 : Option zV} {o2 : Option zV} (h1 : zPn (gR σ 1 9)) : zRet true ((106, 52, [some (.inr (.inr 1)), o1, o2], []) :: K) none σ = (zRet true K (some (.inl (gI σ (gR σ 1 9) 16))) σ) :=
  yT_rv (yI_aload_n zi_106_52 rfl <| yI_gf_r (v := gR σ 1 9) zi_106_53 zk_1 rfl <| yI_gf_i (v := gI σ (gR σ 1 9) 16) zi_106_56 (zPn_k h1) rfl <| yI_ireturn zi_106_59)
/-- 107 Treegrab.script()I -/
theorem zi_107_0 : zraw 107 0 = some (.aload_n 0, 1) ∧ 0 + 1 = 1 := by decide +kernel
theorem zi_107_1 : zraw 107 1 = some (.getfield 82, 3) ∧ zft (zinf 107).1 82 = some (9, 12, 3, false) ∧ 1 + 3 = 4 := by decide +kernel
theorem zi_107_4 : zraw 107 4 = some (.aload_n 0, 1) ∧ 4 + 1 = 5 := by decide +kernel
theorem zi_107_5 : zraw 107 5 = some (.getfield 10, 3) ∧ zft (zinf 107).1 10 = some (9, 0, 3, true) ∧ 5 + 3 = 8 := by decide +kernel
theorem zi_107_8 : zraw 107 8 = some (.invokevirtual 148, 3) ∧ zmt (zinf 107).1 148 = some 59 ∧ Nat.ble 9000 59 = false ∧ zinf 59 = (5, 2, 4, 2, 0) ∧ 8 + 3 = 11 := by decide +kernel
theorem zi_107_11 : zraw 107 11 = some (.istore_n 1, 1) ∧ 11 + 1 = 12 := by decide +kernel
theorem zi_107_12 : zraw 107 12 = some (.aload_n 0, 1) ∧ 12 + 1 = 13 := by decide +kernel
theorem zi_107_13 : zraw 107 13 = some (.invokevirtual 124, 3) ∧ zmt (zinf 107).1 124 = some 129 ∧ Nat.ble 9000 129 = false ∧ zinf 129 = (9, 1, 1, 0, 0) ∧ 13 + 3 = 16 := by decide +kernel
theorem zi_107_16 : zraw 107 16 = some (.iload_n 1, 1) ∧ 16 + 1 = 17 := by decide +kernel
theorem zi_107_17 : zraw 107 17 = some (.ifCond .ne 13, 3) ∧ ((17 : Nat) : Int) + 13 = Int.ofNat 30 ∧ 17 + 3 = 20 := by decide +kernel
theorem zi_107_20 : zraw 107 20 = some (.new 99, 3) ∧ zths 107 20 = some 1 := by decide +kernel
theorem zi_107_30 : zraw 107 30 = some (.aload_n 0, 1) ∧ 30 + 1 = 31 := by decide +kernel
theorem zi_107_31 : zraw 107 31 = some (.getfield 78, 3) ∧ zft (zinf 107).1 78 = some (9, 11, 3, false) ∧ 31 + 3 = 34 := by decide +kernel
theorem zi_107_34 : zraw 107 34 = some (.astore_n 2, 1) ∧ 34 + 1 = 35 := by decide +kernel
theorem zi_107_35 : zraw 107 35 = some (.aload_n 0, 1) ∧ 35 + 1 = 36 := by decide +kernel
theorem zi_107_36 : zraw 107 36 = some (.aload_n 0, 1) ∧ 36 + 1 = 37 := by decide +kernel
theorem zi_107_37 : zraw 107 37 = some (.getfield 82, 3) ∧ zft (zinf 107).1 82 = some (9, 12, 3, false) ∧ 37 + 3 = 40 := by decide +kernel
theorem zi_107_40 : zraw 107 40 = some (.putfield 78, 3) ∧ zft (zinf 107).1 78 = some (9, 11, 3, false) ∧ 40 + 3 = 43 := by decide +kernel
theorem zi_107_43 : zraw 107 43 = some (.aload_n 0, 1) ∧ 43 + 1 = 44 := by decide +kernel
theorem zi_107_44 : zraw 107 44 = some (.aload_n 2, 1) ∧ 44 + 1 = 45 := by decide +kernel
theorem zi_107_45 : zraw 107 45 = some (.putfield 82, 3) ∧ zft (zinf 107).1 82 = some (9, 12, 3, false) ∧ 45 + 3 = 48 := by decide +kernel
theorem zi_107_48 : zraw 107 48 = some (.aload_n 0, 1) ∧ 48 + 1 = 49 := by decide +kernel
theorem zi_107_49 : zraw 107 49 = some (.getfield 78, 3) ∧ zft (zinf 107).1 78 = some (9, 11, 3, false) ∧ 49 + 3 = 52 := by decide +kernel
theorem zi_107_52 : zraw 107 52 = some (.getfield 151, 3) ∧ zft (zinf 107).1 151 = some (5, 5, 0, false) ∧ 52 + 3 = 55 := by decide +kernel
theorem zi_107_55 : zraw 107 55 = some (.ireturn, 1) ∧ (zinf 107).2.2.2.1 = 1 := by decide +kernel
theorem ze_107 {K : List zF} {σ : zW} (hK : K.length < 60) (h1 : zSc (gR σ 1 12)) : zEv true (zent 107 [.inr (.inr 1)] :: K) σ = (zEv true (zent 59 [.inr (.inr (gR σ 1 12)), .inr (.inr 2)] :: (107, 11, [some (.inr (.inr 1)), none, none], []) :: K) σ) :=
  yT_en (f := (107, 0, [some (.inr (.inr 1)), none, none], [])) rfl (yI_aload_n zi_107_0 rfl <| yI_gf_r (v := gR σ 1 12) zi_107_1 zk_1 rfl <| yI_aload_n zi_107_4 rfl <| yI_gf_f (v := 2) zi_107_5 zk_1 rfl <| yI_cv zi_107_8 rfl rfl (zSc_k h1) hK)
theorem zr_107_11 {K : List zF} {σ : zW} {o1 : Option zV} {o2 : Option zV} {v : Int} (hK : K.length < 60) : zRet true ((107, 11, [some (.inr (.inr 1)), o1, o2], []) :: K) (some (.inl v)) σ = (zEv true (zent 129 [.inr (.inr 1)] :: (107, 16, [some (.inr (.inr 1)), some (.inl v), o2], []) :: K) σ) :=
  yT_rt (yI_istore_n (l := [some (.inr (.inr 1)), some (.inl v), o2]) zi_107_11 rfl rfl <| yI_aload_n zi_107_12 rfl <| yI_cv zi_107_13 rfl rfl zk_1 hK)
theorem zr_107_16 {K : List zF} {σ : zW} {x1 : Int} {o2 : Option zV} (h1 : zSc (gR σ 1 12)) : zRet true ((107, 16, [some (.inr (.inr 1)), some (.inl x1), o2], []) :: K) none σ = (if ¬ x1 = 0 then zRet true K (some (.inl (gI σ (gR σ 1 12) 5))) (sR (sR σ 1 11 (gR σ 1 12)) 1 12 (gR σ 1 11)) else zThr true K 1 (zex σ)) :=
  yT_rv (yI_iload_n zi_107_16 rfl <| yI_if_ne zi_107_17 <| yBr (yI_aload_n zi_107_30 rfl <| yI_gf_r (v := gR σ 1 11) zi_107_31 zk_1 rfl <| yI_astore_n (l := [some (.inr (.inr 1)), some (.inl x1), some (.inr (.inr (gR σ 1 11)))]) zi_107_34 rfl rfl <| yI_aload_n zi_107_35 rfl <| yI_aload_n zi_107_36 rfl <| yI_gf_r (v := gR σ 1 12) zi_107_37 zk_1 rfl <| yI_pf_r zi_107_40 zk_1 <| yI_aload_n zi_107_43 rfl <| yI_aload_n zi_107_44 rfl <| yI_pf_r zi_107_45 zk_1 <| yI_aload_n zi_107_48 rfl <| yI_gf_r (v := gR σ 1 12) zi_107_49 zk_1 ((yGR_nj (by decide)).trans (yGR_hit)) <| yI_gf_i (v := gI σ (gR σ 1 12) 5) zi_107_52 (zSc_k h1) rfl <| yI_ireturn zi_107_55) (yI_throw zi_107_20 rfl))
/-- 108 Treegrab.fault(Z)I -/
theorem zi_108_0 : zraw 108 0 = some (.iload_n 1, 1) ∧ 0 + 1 = 1 := by decide +kernel
theorem zi_108_1 : zraw 108 1 = some (.ifCond .eq 10, 3) ∧ ((1 : Nat) : Int) + 10 = Int.ofNat 11 ∧ 1 + 3 = 4 := by decide +kernel
theorem zi_108_4 : zraw 108 4 = some (.aload_n 0, 1) ∧ 4 + 1 = 5 := by decide +kernel
theorem zi_108_5 : zraw 108 5 = some (.getfield 152, 3) ∧ zft (zinf 108).1 152 = some (9, 14, 0, false) ∧ 5 + 3 = 8 := by decide +kernel
theorem zi_108_8 : zraw 108 8 = some (.goto 7, 3) ∧ ((8 : Nat) : Int) + 7 = Int.ofNat 15 := by decide +kernel
theorem zi_108_11 : zraw 108 11 = some (.aload_n 0, 1) ∧ 11 + 1 = 12 := by decide +kernel
theorem zi_108_12 : zraw 108 12 = some (.getfield 155, 3) ∧ zft (zinf 108).1 155 = some (9, 13, 0, false) ∧ 12 + 3 = 15 := by decide +kernel
theorem zi_108_15 : zraw 108 15 = some (.ireturn, 1) ∧ (zinf 108).2.2.2.1 = 1 := by decide +kernel
theorem ze_108 {K : List zF} {σ : zW} {x1 : Int} : zEv true (zent 108 [.inr (.inr 1), .inl x1] :: K) σ = (zRet true K (some (.inl (if x1 = 0 then gI σ 1 13 else gI σ 1 14 : Int))) σ) :=
  yT_en (f := (108, 0, [some (.inr (.inr 1)), some (.inl x1)], [])) rfl (yI_iload_n zi_108_0 rfl <| yI_if_eq zi_108_1 <| yMi0 (j := 15) (ls2 := [some (.inr (.inr 1)), some (.inl x1)]) (st2 := []) (x := gI σ 1 13) (y := gI σ 1 14) (σ2 := σ) (yI_aload_n zi_108_11 rfl <| yI_gf_i (v := gI σ 1 13) zi_108_12 zk_1 rfl <| rfl) (yI_aload_n zi_108_4 rfl <| yI_gf_i (v := gI σ 1 14) zi_108_5 zk_1 rfl <| yI_goto zi_108_8 <| rfl) <| yI_ireturn zi_108_15)
/-- 109 Treegrab.nodes(I)I -/
theorem zi_109_0 : zraw 109 0 = some (.iload_n 1, 1) ∧ 0 + 1 = 1 := by decide +kernel
theorem zi_109_1 : zraw 109 1 = some (.invokestatic 158, 3) ∧ zmt (zinf 109).1 158 = some 126 ∧ Nat.ble 9000 126 = false ∧ zinf 126 = (9, 1, 1, 0, 1) ∧ 1 + 3 = 4 := by decide +kernel
theorem zi_109_4 : zraw 109 4 = some (.aload_n 0, 1) ∧ 4 + 1 = 5 := by decide +kernel
theorem zi_109_5 : zraw 109 5 = some (.getfield 19, 3) ∧ zft (zinf 109).1 19 = some (9, 1, 3, true) ∧ 5 + 3 = 8 := by decide +kernel
theorem zi_109_8 : zraw 109 8 = some (.iload_n 1, 1) ∧ 8 + 1 = 9 := by decide +kernel
theorem zi_109_9 : zraw 109 9 = some (.aaload, 1) ∧ 9 + 1 = 10 := by decide +kernel
theorem zi_109_10 : zraw 109 10 = some (.getfield 139, 3) ∧ zft (zinf 109).1 139 = some (8, 12, 0, false) ∧ 10 + 3 = 13 := by decide +kernel
theorem zi_109_13 : zraw 109 13 = some (.ireturn, 1) ∧ (zinf 109).2.2.2.1 = 1 := by decide +kernel
theorem ze_109 {K : List zF} {σ : zW} {x1 : Int} (hK : K.length < 60) : zEv true (zent 109 [.inr (.inr 1), .inl x1] :: K) σ = (zEv true (zent 126 [.inl x1] :: (109, 4, [some (.inr (.inr 1)), some (.inl x1)], []) :: K) σ) :=
  yT_en (f := (109, 0, [some (.inr (.inr 1)), some (.inl x1)], [])) rfl (yI_iload_n zi_109_0 rfl <| yI_cs zi_109_1 rfl rfl hK)
theorem zr_109_4 {K : List zF} {σ : zW} {x1 : Int} (h1 : zTr (gR σ 4 x1.toNat)) : zRet true ((109, 4, [some (.inr (.inr 1)), some (.inl x1)], []) :: K) none σ = ((0 ≤ x1 ∧ x1 < 3) ∧ zRet true K (some (.inl (gI σ (gR σ 4 x1.toNat) 12))) σ) :=
  yT_rv (yI_aload_n zi_109_4 rfl <| yI_gf_f (v := 4) zi_109_5 zk_1 rfl <| yI_iload_n zi_109_8 rfl <| yI_aaloadc (v := gR σ 4 x1.toNat) zi_109_9 za_4 rfl <| yI_gf_i (v := gI σ (gR σ 4 x1.toNat) 12) zi_109_10 (zTr_k h1) rfl <| yI_ireturn zi_109_13)
