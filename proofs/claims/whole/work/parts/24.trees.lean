/-! the trees of methods 160 to 190, written by wip/whole/gen/emit_trees.py -/
/-- 160 TreegrabModel.dominance(I)I -/
theorem zi_160_0 : zraw 160 0 = some (.aload_n 0, 1) ∧ 0 + 1 = 1 := by decide +kernel
theorem zi_160_1 : zraw 160 1 = some (.invokevirtual 218, 3) ∧ zmt (zinf 160).1 218 = some 144 ∧ Nat.ble 9000 144 = false ∧ zinf 144 = (10, 1, 1, 1, 0) ∧ 1 + 3 = 4 := by decide +kernel
theorem zi_160_4 : zraw 160 4 = some (.bipush 45, 2) ∧ zin 128 45 = true ∧ 4 + 2 = 6 := by decide +kernel
theorem zi_160_6 : zraw 160 6 = some (.if_icmp .ne 7, 3) ∧ ((6 : Nat) : Int) + 7 = Int.ofNat 13 ∧ 6 + 3 = 9 := by decide +kernel
theorem zi_160_9 : zraw 160 9 = some (.iconst 1, 1) ∧ zin 128 1 = true ∧ 9 + 1 = 10 := by decide +kernel
theorem zi_160_10 : zraw 160 10 = some (.goto 4, 3) ∧ ((10 : Nat) : Int) + 4 = Int.ofNat 14 := by decide +kernel
theorem zi_160_13 : zraw 160 13 = some (.iconst 0, 1) ∧ zin 128 0 = true ∧ 13 + 1 = 14 := by decide +kernel
theorem zi_160_14 : zraw 160 14 = some (.istore_n 2, 1) ∧ 14 + 1 = 15 := by decide +kernel
theorem zi_160_15 : zraw 160 15 = some (.aload_n 0, 1) ∧ 15 + 1 = 16 := by decide +kernel
theorem zi_160_16 : zraw 160 16 = some (.invokevirtual 218, 3) ∧ zmt (zinf 160).1 218 = some 144 ∧ Nat.ble 9000 144 = false ∧ zinf 144 = (10, 1, 1, 1, 0) ∧ 16 + 3 = 19 := by decide +kernel
theorem zi_160_19 : zraw 160 19 = some (.iload_n 1, 1) ∧ 19 + 1 = 20 := by decide +kernel
theorem zi_160_20 : zraw 160 20 = some (.if_icmp .eq 12, 3) ∧ ((20 : Nat) : Int) + 12 = Int.ofNat 32 ∧ 20 + 3 = 23 := by decide +kernel
theorem zi_160_23 : zraw 160 23 = some (.aload_n 0, 1) ∧ 23 + 1 = 24 := by decide +kernel
theorem zi_160_24 : zraw 160 24 = some (.invokevirtual 218, 3) ∧ zmt (zinf 160).1 218 = some 144 ∧ Nat.ble 9000 144 = false ∧ zinf 144 = (10, 1, 1, 1, 0) ∧ 24 + 3 = 27 := by decide +kernel
theorem zi_160_27 : zraw 160 27 = some (.bipush 58, 2) ∧ zin 128 58 = true ∧ 27 + 2 = 29 := by decide +kernel
theorem zi_160_29 : zraw 160 29 = some (.if_icmp .ne 34, 3) ∧ ((29 : Nat) : Int) + 34 = Int.ofNat 63 ∧ 29 + 3 = 32 := by decide +kernel
theorem zi_160_32 : zraw 160 32 = some (.aload_n 0, 1) ∧ 32 + 1 = 33 := by decide +kernel
theorem zi_160_33 : zraw 160 33 = some (.dup, 1) ∧ 33 + 1 = 34 := by decide +kernel
theorem zi_160_34 : zraw 160 34 = some (.getfield 212, 3) ∧ zft (zinf 160).1 212 = some (10, 2, 0, false) ∧ 34 + 3 = 37 := by decide +kernel
theorem zi_160_37 : zraw 160 37 = some (.iconst 1, 1) ∧ zin 128 1 = true ∧ 37 + 1 = 38 := by decide +kernel
theorem zi_160_38 : zraw 160 38 = some (.iadd, 1) ∧ 38 + 1 = 39 := by decide +kernel
theorem zi_160_39 : zraw 160 39 = some (.putfield 212, 3) ∧ zft (zinf 160).1 212 = some (10, 2, 0, false) ∧ 39 + 3 = 42 := by decide +kernel
theorem zi_160_42 : zraw 160 42 = some (.aload_n 0, 1) ∧ 42 + 1 = 43 := by decide +kernel
theorem zi_160_43 : zraw 160 43 = some (.getfield 7, 3) ∧ zft (zinf 160).1 7 = some (10, 0, 3, true) ∧ 43 + 3 = 46 := by decide +kernel
theorem zi_160_46 : zraw 160 46 = some (.aload_n 0, 1) ∧ 46 + 1 = 47 := by decide +kernel
theorem zi_160_47 : zraw 160 47 = some (.getfield 212, 3) ∧ zft (zinf 160).1 212 = some (10, 2, 0, false) ∧ 47 + 3 = 50 := by decide +kernel
theorem zi_160_50 : zraw 160 50 = some (.iconst 1, 1) ∧ zin 128 1 = true ∧ 50 + 1 = 51 := by decide +kernel
theorem zi_160_51 : zraw 160 51 = some (.isub, 1) ∧ 51 + 1 = 52 := by decide +kernel
theorem zi_160_52 : zraw 160 52 = some (.iaload, 1) ∧ 52 + 1 = 53 := by decide +kernel
theorem zi_160_53 : zraw 160 53 = some (.iload_n 1, 1) ∧ 53 + 1 = 54 := by decide +kernel
theorem zi_160_54 : zraw 160 54 = some (.if_icmp .ne 7, 3) ∧ ((54 : Nat) : Int) + 7 = Int.ofNat 61 ∧ 54 + 3 = 57 := by decide +kernel
theorem zi_160_57 : zraw 160 57 = some (.iconst 2, 1) ∧ zin 128 2 = true ∧ 57 + 1 = 58 := by decide +kernel
theorem zi_160_58 : zraw 160 58 = some (.goto 4, 3) ∧ ((58 : Nat) : Int) + 4 = Int.ofNat 62 := by decide +kernel
theorem zi_160_61 : zraw 160 61 = some (.iconst 3, 1) ∧ zin 128 3 = true ∧ 61 + 1 = 62 := by decide +kernel
theorem zi_160_62 : zraw 160 62 = some (.ireturn, 1) ∧ (zinf 160).2.2.2.1 = 1 := by decide +kernel
theorem zi_160_63 : zraw 160 63 = some (.aload_n 0, 1) ∧ 63 + 1 = 64 := by decide +kernel
theorem zi_160_64 : zraw 160 64 = some (.dup, 1) ∧ 64 + 1 = 65 := by decide +kernel
theorem zi_160_65 : zraw 160 65 = some (.getfield 212, 3) ∧ zft (zinf 160).1 212 = some (10, 2, 0, false) ∧ 65 + 3 = 68 := by decide +kernel
theorem zi_160_68 : zraw 160 68 = some (.iload_n 2, 1) ∧ 68 + 1 = 69 := by decide +kernel
theorem zi_160_69 : zraw 160 69 = some (.ifCond .eq 7, 3) ∧ ((69 : Nat) : Int) + 7 = Int.ofNat 76 ∧ 69 + 3 = 72 := by decide +kernel
theorem zi_160_72 : zraw 160 72 = some (.iconst 1, 1) ∧ zin 128 1 = true ∧ 72 + 1 = 73 := by decide +kernel
theorem zi_160_73 : zraw 160 73 = some (.goto 4, 3) ∧ ((73 : Nat) : Int) + 4 = Int.ofNat 77 := by decide +kernel
theorem zi_160_76 : zraw 160 76 = some (.iconst 0, 1) ∧ zin 128 0 = true ∧ 76 + 1 = 77 := by decide +kernel
theorem zi_160_77 : zraw 160 77 = some (.iadd, 1) ∧ 77 + 1 = 78 := by decide +kernel
theorem zi_160_78 : zraw 160 78 = some (.putfield 212, 3) ∧ zft (zinf 160).1 212 = some (10, 2, 0, false) ∧ 78 + 3 = 81 := by decide +kernel
theorem zi_160_81 : zraw 160 81 = some (.aload_n 0, 1) ∧ 81 + 1 = 82 := by decide +kernel
theorem zi_160_82 : zraw 160 82 = some (.invokevirtual 218, 3) ∧ zmt (zinf 160).1 218 = some 144 ∧ Nat.ble 9000 144 = false ∧ zinf 144 = (10, 1, 1, 1, 0) ∧ 82 + 3 = 85 := by decide +kernel
theorem zi_160_85 : zraw 160 85 = some (.bipush 49, 2) ∧ zin 128 49 = true ∧ 85 + 2 = 87 := by decide +kernel
theorem zi_160_87 : zraw 160 87 = some (.bipush 57, 2) ∧ zin 128 57 = true ∧ 87 + 2 = 89 := by decide +kernel
theorem zi_160_89 : zraw 160 89 = some (.invokestatic 208, 3) ∧ zmt (zinf 160).1 208 = some 142 ∧ Nat.ble 9000 142 = false ∧ zinf 142 = (10, 3, 3, 2, 1) ∧ 89 + 3 = 92 := by decide +kernel
theorem zi_160_92 : zraw 160 92 = some (.ifCond .eq 35, 3) ∧ ((92 : Nat) : Int) + 35 = Int.ofNat 127 ∧ 92 + 3 = 95 := by decide +kernel
theorem zi_160_95 : zraw 160 95 = some (.aload_n 0, 1) ∧ 95 + 1 = 96 := by decide +kernel
theorem zi_160_96 : zraw 160 96 = some (.aload_n 0, 1) ∧ 96 + 1 = 97 := by decide +kernel
theorem zi_160_97 : zraw 160 97 = some (.invokevirtual 218, 3) ∧ zmt (zinf 160).1 218 = some 144 ∧ Nat.ble 9000 144 = false ∧ zinf 144 = (10, 1, 1, 1, 0) ∧ 97 + 3 = 100 := by decide +kernel
theorem zi_160_100 : zraw 160 100 = some (.bipush 48, 2) ∧ zin 128 48 = true ∧ 100 + 2 = 102 := by decide +kernel
theorem zi_160_102 : zraw 160 102 = some (.isub, 1) ∧ 102 + 1 = 103 := by decide +kernel
theorem zi_160_103 : zraw 160 103 = some (.i2l, 1) ∧ 103 + 1 = 104 := by decide +kernel
theorem zi_160_104 : zraw 160 104 = some (.putfield 238, 3) ∧ zft (zinf 160).1 238 = some (10, 3, 2, false) ∧ 104 + 3 = 107 := by decide +kernel
theorem zi_160_107 : zraw 160 107 = some (.aload_n 0, 1) ∧ 107 + 1 = 108 := by decide +kernel
theorem zi_160_108 : zraw 160 108 = some (.dup, 1) ∧ 108 + 1 = 109 := by decide +kernel
theorem zi_160_109 : zraw 160 109 = some (.getfield 212, 3) ∧ zft (zinf 160).1 212 = some (10, 2, 0, false) ∧ 109 + 3 = 112 := by decide +kernel
theorem zi_160_112 : zraw 160 112 = some (.iconst 1, 1) ∧ zin 128 1 = true ∧ 112 + 1 = 113 := by decide +kernel
theorem zi_160_113 : zraw 160 113 = some (.iadd, 1) ∧ 113 + 1 = 114 := by decide +kernel
theorem zi_160_114 : zraw 160 114 = some (.putfield 212, 3) ∧ zft (zinf 160).1 212 = some (10, 2, 0, false) ∧ 114 + 3 = 117 := by decide +kernel
theorem zi_160_117 : zraw 160 117 = some (.iload_n 2, 1) ∧ 117 + 1 = 118 := by decide +kernel
theorem zi_160_118 : zraw 160 118 = some (.ifCond .eq 7, 3) ∧ ((118 : Nat) : Int) + 7 = Int.ofNat 125 ∧ 118 + 3 = 121 := by decide +kernel
theorem zi_160_121 : zraw 160 121 = some (.iconst 5, 1) ∧ zin 128 5 = true ∧ 121 + 1 = 122 := by decide +kernel
theorem zi_160_122 : zraw 160 122 = some (.goto 4, 3) ∧ ((122 : Nat) : Int) + 4 = Int.ofNat 126 := by decide +kernel
theorem zi_160_125 : zraw 160 125 = some (.iconst 4, 1) ∧ zin 128 4 = true ∧ 125 + 1 = 126 := by decide +kernel
theorem zi_160_126 : zraw 160 126 = some (.ireturn, 1) ∧ (zinf 160).2.2.2.1 = 1 := by decide +kernel
theorem zi_160_127 : zraw 160 127 = some (.iload_n 2, 1) ∧ 127 + 1 = 128 := by decide +kernel
theorem zi_160_128 : zraw 160 128 = some (.ifCond .eq 13, 3) ∧ ((128 : Nat) : Int) + 13 = Int.ofNat 141 ∧ 128 + 3 = 131 := by decide +kernel
theorem zi_160_131 : zraw 160 131 = some (.aload_n 0, 1) ∧ 131 + 1 = 132 := by decide +kernel
theorem zi_160_132 : zraw 160 132 = some (.iconst 1, 1) ∧ zin 128 1 = true ∧ 132 + 1 = 133 := by decide +kernel
theorem zi_160_133 : zraw 160 133 = some (.aload_n 0, 1) ∧ 133 + 1 = 134 := by decide +kernel
theorem zi_160_134 : zraw 160 134 = some (.getfield 212, 3) ∧ zft (zinf 160).1 212 = some (10, 2, 0, false) ∧ 134 + 3 = 137 := by decide +kernel
theorem zi_160_137 : zraw 160 137 = some (.invokevirtual 252, 3) ∧ zmt (zinf 160).1 252 = some 148 ∧ Nat.ble 9000 148 = false ∧ zinf 148 = (10, 3, 3, 2, 0) ∧ 137 + 3 = 140 := by decide +kernel
theorem zi_160_140 : zraw 160 140 = some (.pop, 1) ∧ 140 + 1 = 141 := by decide +kernel
theorem zi_160_141 : zraw 160 141 = some (.iload_n 2, 1) ∧ 141 + 1 = 142 := by decide +kernel
theorem zi_160_142 : zraw 160 142 = some (.ifCond .eq 7, 3) ∧ ((142 : Nat) : Int) + 7 = Int.ofNat 149 ∧ 142 + 3 = 145 := by decide +kernel
theorem zi_160_145 : zraw 160 145 = some (.iconst 0, 1) ∧ zin 128 0 = true ∧ 145 + 1 = 146 := by decide +kernel
theorem zi_160_146 : zraw 160 146 = some (.goto 4, 3) ∧ ((146 : Nat) : Int) + 4 = Int.ofNat 150 := by decide +kernel
theorem zi_160_149 : zraw 160 149 = some (.iconst 1, 1) ∧ zin 128 1 = true ∧ 149 + 1 = 150 := by decide +kernel
theorem zi_160_150 : zraw 160 150 = some (.ireturn, 1) ∧ (zinf 160).2.2.2.1 = 1 := by decide +kernel
theorem ze_160 {K : List zF} {σ : zW} {x1 : Int} (hK : K.length < 60) : zEv true (zent 160 [.inr (.inr 122), .inl x1] :: K) σ = (zEv true (zent 144 [.inr (.inr 122)] :: (160, 4, [some (.inr (.inr 122)), some (.inl x1), none], []) :: K) σ) :=
  yT_en (f := (160, 0, [some (.inr (.inr 122)), some (.inl x1), none], [])) rfl (yI_aload_n zi_160_0 rfl <| yI_cv zi_160_1 rfl rfl zk_122 hK)
theorem zr_160_4 {K : List zF} {σ : zW} {x1 : Int} {o2 : Option zV} {v : Int} (hK : K.length < 60) : zRet true ((160, 4, [some (.inr (.inr 122)), some (.inl x1), o2], []) :: K) (some (.inl v)) σ = (zEv true (zent 144 [.inr (.inr 122)] :: (160, 19, [some (.inr (.inr 122)), some (.inl x1), some (.inl (if ¬ v = 45 then 0 else 1 : Int))], []) :: K) σ) :=
  yT_rt (yI_bipush zi_160_4 <| yI_ic_ne zi_160_6 <| yMi0 (j := 14) (ls2 := [some (.inr (.inr 122)), some (.inl x1), o2]) (st2 := []) (x := 0) (y := 1) (σ2 := σ) (yI_iconst zi_160_13 <| rfl) (yI_iconst zi_160_9 <| yI_goto zi_160_10 <| rfl) <| yI_istore_n (l := [some (.inr (.inr 122)), some (.inl x1), some (.inl (if ¬ v = 45 then 0 else 1 : Int))]) zi_160_14 rfl rfl <| yI_aload_n zi_160_15 rfl <| yI_cv zi_160_16 rfl rfl zk_122 hK)
theorem zr_160_19 {K : List zF} {σ : zW} {x1 : Int} {x2 : Int} {v : Int} (hK : K.length < 60) : zRet true ((160, 19, [some (.inr (.inr 122)), some (.inl x1), some (.inl x2)], []) :: K) (some (.inl v)) σ = (if v = x1 then zEv true ((160, 32, [some (.inr (.inr 122)), some (.inl x1), some (.inl x2)], []) :: K) σ else zEv true (zent 144 [.inr (.inr 122)] :: (160, 27, [some (.inr (.inr 122)), some (.inl x1), some (.inl x2)], []) :: K) σ) :=
  yT_rt (yI_iload_n zi_160_19 rfl <| yI_ic_eq zi_160_20 <| yBr (rfl) (yI_aload_n zi_160_23 rfl <| yI_cv zi_160_24 rfl rfl zk_122 hK))
theorem zj_160_32 {K : List zF} {σ : zW} {x1 : Int} {o2 : Option zV} : zEv true ((160, 32, [some (.inr (.inr 122)), some (.inl x1), o2], []) :: K) σ = ((0 ≤ (w32 ((w32 ((gI σ 122 2) + 1)) - 1)) ∧ (w32 ((w32 ((gI σ 122 2) + 1)) - 1)) < 600) ∧ zRet true K (some (.inl (if ¬ (gI σ 123 ((w32 ((w32 ((gI σ 122 2) + 1)) - 1)).toNat)) = x1 then 3 else 2 : Int))) (sI σ 122 2 (w32 ((gI σ 122 2) + 1)))) :=
  yI_aload_n zi_160_32 rfl <| yI_dup_r zi_160_33 <| yI_gf_i (v := gI σ 122 2) zi_160_34 zk_122 rfl <| yI_iconst zi_160_37 <| yI_iadd zi_160_38 <| yI_pf_i zi_160_39 zk_122 <| yI_aload_n zi_160_42 rfl <| yI_gf_f (v := 123) zi_160_43 zk_122 rfl <| yI_aload_n zi_160_46 rfl <| yI_gf_i (v := w32 ((gI σ 122 2) + 1)) zi_160_47 zk_122 (yGI_hit) <| yI_iconst zi_160_50 <| yI_isub zi_160_51 <| yI_ialoadc (v := gI σ 123 ((w32 ((w32 ((gI σ 122 2) + 1)) - 1)).toNat)) zi_160_52 za_123 (yGI_nk (by decide)) <| yI_iload_n zi_160_53 rfl <| yI_ic_ne zi_160_54 <| yMi0 (j := 62) (ls2 := [some (.inr (.inr 122)), some (.inl x1), o2]) (st2 := []) (x := 3) (y := 2) (σ2 := (sI σ 122 2 (w32 ((gI σ 122 2) + 1)))) (yI_iconst zi_160_61 <| rfl) (yI_iconst zi_160_57 <| yI_goto zi_160_58 <| rfl) <| yI_ireturn zi_160_62
theorem zr_160_27 {K : List zF} {σ : zW} {x1 : Int} {x2 : Int} {v : Int} (hK : K.length < 60) : zRet true ((160, 27, [some (.inr (.inr 122)), some (.inl x1), some (.inl x2)], []) :: K) (some (.inl v)) σ = (if ¬ v = 58 then zEv true (zent 144 [.inr (.inr 122)] :: (160, 85, [some (.inr (.inr 122)), some (.inl x1), some (.inl x2)], []) :: K) (sI σ 122 2 (w32 ((gI σ 122 2) + (if x2 = 0 then 0 else 1 : Int)))) else zEv true ((160, 32, [some (.inr (.inr 122)), some (.inl x1), some (.inl x2)], []) :: K) σ) :=
  yT_rt (yI_bipush zi_160_27 <| yI_ic_ne zi_160_29 <| yBr (yI_aload_n zi_160_63 rfl <| yI_dup_r zi_160_64 <| yI_gf_i (v := gI σ 122 2) zi_160_65 zk_122 rfl <| yI_iload_n zi_160_68 rfl <| yI_if_eq zi_160_69 <| yMi0 (j := 77) (ls2 := [some (.inr (.inr 122)), some (.inl x1), some (.inl x2)]) (st2 := [.inl (gI σ 122 2), .inr (.inr 122)]) (x := 0) (y := 1) (σ2 := σ) (yI_iconst zi_160_76 <| rfl) (yI_iconst zi_160_72 <| yI_goto zi_160_73 <| rfl) <| yI_iadd zi_160_77 <| yI_pf_i zi_160_78 zk_122 <| yI_aload_n zi_160_81 rfl <| yI_cv zi_160_82 rfl rfl zk_122 hK) (rfl))
theorem zr_160_85 {K : List zF} {σ : zW} {o1 : Option zV} {x2 : Int} {v : Int} (hK : K.length < 60) : zRet true ((160, 85, [some (.inr (.inr 122)), o1, some (.inl x2)], []) :: K) (some (.inl v)) σ = (zEv true (zent 142 [.inl v, .inl 49, .inl 57] :: (160, 92, [some (.inr (.inr 122)), o1, some (.inl x2)], []) :: K) σ) :=
  yT_rt (yI_bipush zi_160_85 <| yI_bipush zi_160_87 <| yI_cs zi_160_89 rfl rfl hK)
theorem zr_160_92 {K : List zF} {σ : zW} {o1 : Option zV} {x2 : Int} {v : Int} (hK : K.length < 60) : zRet true ((160, 92, [some (.inr (.inr 122)), o1, some (.inl x2)], []) :: K) (some (.inl v)) σ = (if v = 0 then if x2 = 0 then zEv true ((160, 141, [some (.inr (.inr 122)), o1, some (.inl x2)], []) :: K) σ else zEv true (zent 148 [.inr (.inr 122), .inl 1, .inl (gI σ 122 2)] :: (160, 140, [some (.inr (.inr 122)), o1, some (.inl x2)], []) :: K) σ else zEv true (zent 144 [.inr (.inr 122)] :: (160, 100, [some (.inr (.inr 122)), o1, some (.inl x2)], [.inr (.inr 122)]) :: K) σ) :=
  yT_rt (yI_if_eq zi_160_92 <| yBr (yI_iload_n zi_160_127 rfl <| yI_if_eq zi_160_128 <| yBr (rfl) (yI_aload_n zi_160_131 rfl <| yI_iconst zi_160_132 <| yI_aload_n zi_160_133 rfl <| yI_gf_i (v := gI σ 122 2) zi_160_134 zk_122 rfl <| yI_cv zi_160_137 rfl rfl zk_122 hK)) (yI_aload_n zi_160_95 rfl <| yI_aload_n zi_160_96 rfl <| yI_cv zi_160_97 rfl rfl zk_122 hK))
theorem zj_160_141 {K : List zF} {σ : zW} {o0 : Option zV} {o1 : Option zV} {x2 : Int} : zEv true ((160, 141, [o0, o1, some (.inl x2)], []) :: K) σ = (zRet true K (some (.inl (if x2 = 0 then 1 else 0 : Int))) σ) :=
  yI_iload_n zi_160_141 rfl <| yI_if_eq zi_160_142 <| yMi0 (j := 150) (ls2 := [o0, o1, some (.inl x2)]) (st2 := []) (x := 1) (y := 0) (σ2 := σ) (yI_iconst zi_160_149 <| rfl) (yI_iconst zi_160_145 <| yI_goto zi_160_146 <| rfl) <| yI_ireturn zi_160_150
theorem zr_160_140 {K : List zF} {σ : zW} {o0 : Option zV} {o1 : Option zV} {x2 : Int} {v : Int} : zRet true ((160, 140, [o0, o1, some (.inl x2)], []) :: K) (some (.inl v)) σ = (zEv true ((160, 141, [o0, o1, some (.inl x2)], []) :: K) σ) :=
  yT_rt (yI_pop_i zi_160_140 <| rfl)
theorem zr_160_100 {K : List zF} {σ : zW} {o1 : Option zV} {x2 : Int} {v : Int} : zRet true ((160, 100, [some (.inr (.inr 122)), o1, some (.inl x2)], [.inr (.inr 122)]) :: K) (some (.inl v)) σ = (zRet true K (some (.inl (if x2 = 0 then 4 else 5 : Int))) (sI (sL σ 122 3 (zi2l (w32 (v - 48)))) 122 2 (w32 ((gI σ 122 2) + 1)))) :=
  yT_rt (yI_bipush zi_160_100 <| yI_isub zi_160_102 <| yI_i2l zi_160_103 <| yI_pf_l zi_160_104 zk_122 <| yI_aload_n zi_160_107 rfl <| yI_dup_r zi_160_108 <| yI_gf_i (v := gI σ 122 2) zi_160_109 zk_122 rfl <| yI_iconst zi_160_112 <| yI_iadd zi_160_113 <| yI_pf_i zi_160_114 zk_122 <| yI_iload_n zi_160_117 rfl <| yI_if_eq zi_160_118 <| yMi0 (j := 126) (ls2 := [some (.inr (.inr 122)), o1, some (.inl x2)]) (st2 := []) (x := 4) (y := 5) (σ2 := (sI (sL σ 122 3 (zi2l (w32 (v - 48)))) 122 2 (w32 ((gI σ 122 2) + 1)))) (yI_iconst zi_160_125 <| rfl) (yI_iconst zi_160_121 <| yI_goto zi_160_122 <| rfl) <| yI_ireturn zi_160_126)
/-- 161 TreegrabModel.relation(II)I -/
theorem zi_161_0 : zraw 161 0 = some (.aload_n 0, 1) ∧ 0 + 1 = 1 := by decide +kernel
theorem zi_161_1 : zraw 161 1 = some (.invokevirtual 295, 3) ∧ zmt (zinf 161).1 295 = some 159 ∧ Nat.ble 9000 159 = false ∧ zinf 159 = (10, 1, 4, 1, 0) ∧ 1 + 3 = 4 := by decide +kernel
theorem zi_161_4 : zraw 161 4 = some (.istore_n 3, 1) ∧ 4 + 1 = 5 := by decide +kernel
theorem zi_161_5 : zraw 161 5 = some (.aload_n 0, 1) ∧ 5 + 1 = 6 := by decide +kernel
theorem zi_161_6 : zraw 161 6 = some (.getfield 238, 3) ∧ zft (zinf 161).1 238 = some (10, 3, 2, false) ∧ 6 + 3 = 9 := by decide +kernel
theorem zi_161_9 : zraw 161 9 = some (.l2i, 1) ∧ 9 + 1 = 10 := by decide +kernel
theorem zi_161_10 : zraw 161 10 = some (.istore 4, 2) ∧ 10 + 2 = 12 := by decide +kernel
theorem zi_161_12 : zraw 161 12 = some (.iload_n 3, 1) ∧ 12 + 1 = 13 := by decide +kernel
theorem zi_161_13 : zraw 161 13 = some (.ifCond .ne 6, 3) ∧ ((13 : Nat) : Int) + 6 = Int.ofNat 19 ∧ 13 + 3 = 16 := by decide +kernel
theorem zi_161_16 : zraw 161 16 = some (.bipush (-2), 2) ∧ zin 128 (-2) = true ∧ 16 + 2 = 18 := by decide +kernel
theorem zi_161_18 : zraw 161 18 = some (.ireturn, 1) ∧ (zinf 161).2.2.2.1 = 1 := by decide +kernel
theorem zi_161_19 : zraw 161 19 = some (.aload_n 0, 1) ∧ 19 + 1 = 20 := by decide +kernel
theorem zi_161_20 : zraw 161 20 = some (.invokevirtual 256, 3) ∧ zmt (zinf 161).1 256 = some 149 ∧ Nat.ble 9000 149 = false ∧ zinf 149 = (10, 1, 1, 1, 0) ∧ 20 + 3 = 23 := by decide +kernel
theorem zi_161_23 : zraw 161 23 = some (.bipush 40, 2) ∧ zin 128 40 = true ∧ 23 + 2 = 25 := by decide +kernel
theorem zi_161_25 : zraw 161 25 = some (.if_icmp .ne 7, 3) ∧ ((25 : Nat) : Int) + 7 = Int.ofNat 32 ∧ 25 + 3 = 28 := by decide +kernel
theorem zi_161_28 : zraw 161 28 = some (.iconst 1, 1) ∧ zin 128 1 = true ∧ 28 + 1 = 29 := by decide +kernel
theorem zi_161_29 : zraw 161 29 = some (.goto 4, 3) ∧ ((29 : Nat) : Int) + 4 = Int.ofNat 33 := by decide +kernel
theorem zi_161_32 : zraw 161 32 = some (.iconst 0, 1) ∧ zin 128 0 = true ∧ 32 + 1 = 33 := by decide +kernel
theorem zi_161_33 : zraw 161 33 = some (.istore 5, 2) ∧ 33 + 2 = 35 := by decide +kernel
theorem zi_161_35 : zraw 161 35 = some (.aload_n 0, 1) ∧ 35 + 1 = 36 := by decide +kernel
theorem zi_161_36 : zraw 161 36 = some (.dup, 1) ∧ 36 + 1 = 37 := by decide +kernel
theorem zi_161_37 : zraw 161 37 = some (.getfield 212, 3) ∧ zft (zinf 161).1 212 = some (10, 2, 0, false) ∧ 37 + 3 = 40 := by decide +kernel
theorem zi_161_40 : zraw 161 40 = some (.iload 5, 2) ∧ 40 + 2 = 42 := by decide +kernel
theorem zi_161_42 : zraw 161 42 = some (.ifCond .eq 7, 3) ∧ ((42 : Nat) : Int) + 7 = Int.ofNat 49 ∧ 42 + 3 = 45 := by decide +kernel
theorem zi_161_45 : zraw 161 45 = some (.iconst 1, 1) ∧ zin 128 1 = true ∧ 45 + 1 = 46 := by decide +kernel
theorem zi_161_46 : zraw 161 46 = some (.goto 4, 3) ∧ ((46 : Nat) : Int) + 4 = Int.ofNat 50 := by decide +kernel
theorem zi_161_49 : zraw 161 49 = some (.iconst 0, 1) ∧ zin 128 0 = true ∧ 49 + 1 = 50 := by decide +kernel
theorem zi_161_50 : zraw 161 50 = some (.iadd, 1) ∧ 50 + 1 = 51 := by decide +kernel
theorem zi_161_51 : zraw 161 51 = some (.putfield 212, 3) ∧ zft (zinf 161).1 212 = some (10, 2, 0, false) ∧ 51 + 3 = 54 := by decide +kernel
theorem zi_161_54 : zraw 161 54 = some (.aload_n 0, 1) ∧ 54 + 1 = 55 := by decide +kernel
theorem zi_161_55 : zraw 161 55 = some (.iload_n 1, 1) ∧ 55 + 1 = 56 := by decide +kernel
theorem zi_161_56 : zraw 161 56 = some (.iload_n 2, 1) ∧ 56 + 1 = 57 := by decide +kernel
theorem zi_161_57 : zraw 161 57 = some (.iload_n 3, 1) ∧ 57 + 1 = 58 := by decide +kernel
theorem zi_161_58 : zraw 161 58 = some (.iload 4, 2) ∧ 58 + 2 = 60 := by decide +kernel
theorem zi_161_60 : zraw 161 60 = some (.invokevirtual 298, 3) ∧ zmt (zinf 161).1 298 = some 158 ∧ Nat.ble 9000 158 = false ∧ zinf 158 = (10, 5, 9, 2, 0) ∧ 60 + 3 = 63 := by decide +kernel
theorem zi_161_63 : zraw 161 63 = some (.ifCond .ne 6, 3) ∧ ((63 : Nat) : Int) + 6 = Int.ofNat 69 ∧ 63 + 3 = 66 := by decide +kernel
theorem zi_161_66 : zraw 161 66 = some (.bipush (-2), 2) ∧ zin 128 (-2) = true ∧ 66 + 2 = 68 := by decide +kernel
theorem zi_161_68 : zraw 161 68 = some (.ireturn, 1) ∧ (zinf 161).2.2.2.1 = 1 := by decide +kernel
theorem zi_161_69 : zraw 161 69 = some (.iload 5, 2) ∧ 69 + 2 = 71 := by decide +kernel
theorem zi_161_71 : zraw 161 71 = some (.ifCond .eq 12, 3) ∧ ((71 : Nat) : Int) + 12 = Int.ofNat 83 ∧ 71 + 3 = 74 := by decide +kernel
theorem zi_161_74 : zraw 161 74 = some (.aload_n 0, 1) ∧ 74 + 1 = 75 := by decide +kernel
theorem zi_161_75 : zraw 161 75 = some (.getfield 268, 3) ∧ zft (zinf 161).1 268 = some (10, 35, 0, false) ∧ 75 + 3 = 78 := by decide +kernel
theorem zi_161_78 : zraw 161 78 = some (.iconst 1, 1) ∧ zin 128 1 = true ∧ 78 + 1 = 79 := by decide +kernel
theorem zi_161_79 : zraw 161 79 = some (.isub, 1) ∧ 79 + 1 = 80 := by decide +kernel
theorem zi_161_80 : zraw 161 80 = some (.goto 4, 3) ∧ ((80 : Nat) : Int) + 4 = Int.ofNat 84 := by decide +kernel
theorem zi_161_83 : zraw 161 83 = some (.iconst (-1), 1) ∧ zin 128 (-1) = true ∧ 83 + 1 = 84 := by decide +kernel
theorem zi_161_84 : zraw 161 84 = some (.ireturn, 1) ∧ (zinf 161).2.2.2.1 = 1 := by decide +kernel
theorem ze_161 {K : List zF} {σ : zW} {x1 : Int} {x2 : Int} (hK : K.length < 60) : zEv true (zent 161 [.inr (.inr 122), .inl x1, .inl x2] :: K) σ = (zEv true (zent 159 [.inr (.inr 122)] :: (161, 4, [some (.inr (.inr 122)), some (.inl x1), some (.inl x2), none, none, none], []) :: K) σ) :=
  yT_en (f := (161, 0, [some (.inr (.inr 122)), some (.inl x1), some (.inl x2), none, none, none], [])) rfl (yI_aload_n zi_161_0 rfl <| yI_cv zi_161_1 rfl rfl zk_122 hK)
theorem zr_161_4 {K : List zF} {σ : zW} {x1 : Int} {x2 : Int} {o3 : Option zV} {o4 : Option zV} {o5 : Option zV} {v : Int} (hK : K.length < 60) : zRet true ((161, 4, [some (.inr (.inr 122)), some (.inl x1), some (.inl x2), o3, o4, o5], []) :: K) (some (.inl v)) σ = (if ¬ v = 0 then zEv true (zent 149 [.inr (.inr 122)] :: (161, 23, [some (.inr (.inr 122)), some (.inl x1), some (.inl x2), some (.inl v), some (.inl (zl2i (gL σ 122 3))), o5], []) :: K) σ else zRet true K (some (.inl (-2))) σ) :=
  yT_rt (yI_istore_n (l := [some (.inr (.inr 122)), some (.inl x1), some (.inl x2), some (.inl v), o4, o5]) zi_161_4 rfl rfl <| yI_aload_n zi_161_5 rfl <| yI_gf_l (v := gL σ 122 3) zi_161_6 zk_122 rfl <| yI_l2i zi_161_9 <| yI_istore (l := [some (.inr (.inr 122)), some (.inl x1), some (.inl x2), some (.inl v), some (.inl (zl2i (gL σ 122 3))), o5]) zi_161_10 rfl rfl <| yI_iload_n zi_161_12 rfl <| yI_if_ne zi_161_13 <| yBr (yI_aload_n zi_161_19 rfl <| yI_cv zi_161_20 rfl rfl zk_122 hK) (yI_bipush zi_161_16 <| yI_ireturn zi_161_18))
theorem zr_161_23 {K : List zF} {σ : zW} {x1 : Int} {x2 : Int} {x3 : Int} {x4 : Int} {o5 : Option zV} {v : Int} (hK : K.length < 60) : zRet true ((161, 23, [some (.inr (.inr 122)), some (.inl x1), some (.inl x2), some (.inl x3), some (.inl x4), o5], []) :: K) (some (.inl v)) σ = (zEv true (zent 158 [.inr (.inr 122), .inl x1, .inl x2, .inl x3, .inl x4] :: (161, 63, [some (.inr (.inr 122)), some (.inl x1), some (.inl x2), some (.inl x3), some (.inl x4), some (.inl (if ¬ v = 40 then 0 else 1 : Int))], []) :: K) (sI σ 122 2 (w32 ((gI σ 122 2) + (if (if ¬ v = 40 then 0 else 1 : Int) = 0 then 0 else 1 : Int))))) :=
  yT_rt (yI_bipush zi_161_23 <| yI_ic_ne zi_161_25 <| yMi0 (j := 33) (ls2 := [some (.inr (.inr 122)), some (.inl x1), some (.inl x2), some (.inl x3), some (.inl x4), o5]) (st2 := []) (x := 0) (y := 1) (σ2 := σ) (yI_iconst zi_161_32 <| rfl) (yI_iconst zi_161_28 <| yI_goto zi_161_29 <| rfl) <| yI_istore (l := [some (.inr (.inr 122)), some (.inl x1), some (.inl x2), some (.inl x3), some (.inl x4), some (.inl (if ¬ v = 40 then 0 else 1 : Int))]) zi_161_33 rfl rfl <| yI_aload_n zi_161_35 rfl <| yI_dup_r zi_161_36 <| yI_gf_i (v := gI σ 122 2) zi_161_37 zk_122 rfl <| yI_iload zi_161_40 rfl <| yI_if_eq zi_161_42 <| yMi0 (j := 50) (ls2 := [some (.inr (.inr 122)), some (.inl x1), some (.inl x2), some (.inl x3), some (.inl x4), some (.inl (if ¬ v = 40 then 0 else 1 : Int))]) (st2 := [.inl (gI σ 122 2), .inr (.inr 122)]) (x := 0) (y := 1) (σ2 := σ) (yI_iconst zi_161_49 <| rfl) (yI_iconst zi_161_45 <| yI_goto zi_161_46 <| rfl) <| yI_iadd zi_161_50 <| yI_pf_i zi_161_51 zk_122 <| yI_aload_n zi_161_54 rfl <| yI_iload_n zi_161_55 rfl <| yI_iload_n zi_161_56 rfl <| yI_iload_n zi_161_57 rfl <| yI_iload zi_161_58 rfl <| yI_cv zi_161_60 rfl rfl zk_122 hK)
theorem zr_161_63 {K : List zF} {σ : zW} {o1 : Option zV} {o2 : Option zV} {o3 : Option zV} {o4 : Option zV} {x5 : Int} {v : Int} : zRet true ((161, 63, [some (.inr (.inr 122)), o1, o2, o3, o4, some (.inl x5)], []) :: K) (some (.inl v)) σ = (if ¬ v = 0 then zRet true K (some (.inl (if x5 = 0 then (-1) else w32 ((gI σ 122 35) - 1) : Int))) σ else zRet true K (some (.inl (-2))) σ) :=
  yT_rt (yI_if_ne zi_161_63 <| yBr (yI_iload zi_161_69 rfl <| yI_if_eq zi_161_71 <| yMi0 (j := 84) (ls2 := [some (.inr (.inr 122)), o1, o2, o3, o4, some (.inl x5)]) (st2 := []) (x := (-1)) (y := w32 ((gI σ 122 35) - 1)) (σ2 := σ) (yI_iconst zi_161_83 <| rfl) (yI_aload_n zi_161_74 rfl <| yI_gf_i (v := gI σ 122 35) zi_161_75 zk_122 rfl <| yI_iconst zi_161_78 <| yI_isub zi_161_79 <| yI_goto zi_161_80 <| rfl) <| yI_ireturn zi_161_84) (yI_bipush zi_161_66 <| yI_ireturn zi_161_68))
/-- 162 TreegrabModel.isPattern()Z -/
theorem zi_162_0 : zraw 162 0 = some (.aload_n 0, 1) ∧ 0 + 1 = 1 := by decide +kernel
theorem zi_162_1 : zraw 162 1 = some (.iconst 0, 1) ∧ zin 128 0 = true ∧ 1 + 1 = 2 := by decide +kernel
theorem zi_162_2 : zraw 162 2 = some (.putfield 268, 3) ∧ zft (zinf 162).1 268 = some (10, 35, 0, false) ∧ 2 + 3 = 5 := by decide +kernel
theorem zi_162_5 : zraw 162 5 = some (.aload_n 0, 1) ∧ 5 + 1 = 6 := by decide +kernel
theorem zi_162_6 : zraw 162 6 = some (.iconst 0, 1) ∧ zin 128 0 = true ∧ 6 + 1 = 7 := by decide +kernel
theorem zi_162_7 : zraw 162 7 = some (.putfield 271, 3) ∧ zft (zinf 162).1 271 = some (10, 49, 0, false) ∧ 7 + 3 = 10 := by decide +kernel
theorem zi_162_10 : zraw 162 10 = some (.aload_n 0, 1) ∧ 10 + 1 = 11 := by decide +kernel
theorem zi_162_11 : zraw 162 11 = some (.iconst 0, 1) ∧ zin 128 0 = true ∧ 11 + 1 = 12 := by decide +kernel
theorem zi_162_12 : zraw 162 12 = some (.putfield 274, 3) ∧ zft (zinf 162).1 274 = some (10, 50, 0, false) ∧ 12 + 3 = 15 := by decide +kernel
theorem zi_162_15 : zraw 162 15 = some (.iconst 0, 1) ∧ zin 128 0 = true ∧ 15 + 1 = 16 := by decide +kernel
theorem zi_162_16 : zraw 162 16 = some (.istore_n 1, 1) ∧ 16 + 1 = 17 := by decide +kernel
theorem zi_162_17 : zraw 162 17 = some (.aload_n 0, 1) ∧ 17 + 1 = 18 := by decide +kernel
theorem zi_162_18 : zraw 162 18 = some (.iconst (-1), 1) ∧ zin 128 (-1) = true ∧ 18 + 1 = 19 := by decide +kernel
theorem zi_162_19 : zraw 162 19 = some (.iconst 0, 1) ∧ zin 128 0 = true ∧ 19 + 1 = 20 := by decide +kernel
theorem zi_162_20 : zraw 162 20 = some (.iconst 0, 1) ∧ zin 128 0 = true ∧ 20 + 1 = 21 := by decide +kernel
theorem zi_162_21 : zraw 162 21 = some (.iconst 0, 1) ∧ zin 128 0 = true ∧ 21 + 1 = 22 := by decide +kernel
theorem zi_162_22 : zraw 162 22 = some (.invokevirtual 298, 3) ∧ zmt (zinf 162).1 298 = some 158 ∧ Nat.ble 9000 158 = false ∧ zinf 158 = (10, 5, 9, 2, 0) ∧ 22 + 3 = 25 := by decide +kernel
theorem zi_162_25 : zraw 162 25 = some (.ifCond .ne 5, 3) ∧ ((25 : Nat) : Int) + 5 = Int.ofNat 30 ∧ 25 + 3 = 28 := by decide +kernel
theorem zi_162_28 : zraw 162 28 = some (.iconst 0, 1) ∧ zin 128 0 = true ∧ 28 + 1 = 29 := by decide +kernel
theorem zi_162_29 : zraw 162 29 = some (.ireturn, 1) ∧ (zinf 162).2.2.2.1 = 2 := by decide +kernel
theorem zi_162_30 : zraw 162 30 = some (.iconst 0, 1) ∧ zin 128 0 = true ∧ 30 + 1 = 31 := by decide +kernel
theorem zi_162_31 : zraw 162 31 = some (.istore_n 2, 1) ∧ 31 + 1 = 32 := by decide +kernel
theorem zi_162_32 : zraw 162 32 = some (.aload_n 0, 1) ∧ 32 + 1 = 33 := by decide +kernel
theorem zi_162_33 : zraw 162 33 = some (.invokevirtual 256, 3) ∧ zmt (zinf 162).1 256 = some 149 ∧ Nat.ble 9000 149 = false ∧ zinf 149 = (10, 1, 1, 1, 0) ∧ 33 + 3 = 36 := by decide +kernel
theorem zi_162_36 : zraw 162 36 = some (.istore_n 3, 1) ∧ 36 + 1 = 37 := by decide +kernel
theorem zi_162_37 : zraw 162 37 = some (.iload_n 3, 1) ∧ 37 + 1 = 38 := by decide +kernel
theorem zi_162_38 : zraw 162 38 = some (.iconst (-1), 1) ∧ zin 128 (-1) = true ∧ 38 + 1 = 39 := by decide +kernel
theorem zi_162_39 : zraw 162 39 = some (.if_icmp .eq 184, 3) ∧ ((39 : Nat) : Int) + 184 = Int.ofNat 223 ∧ 39 + 3 = 42 := by decide +kernel
theorem zi_162_42 : zraw 162 42 = some (.iload_n 3, 1) ∧ 42 + 1 = 43 := by decide +kernel
theorem zi_162_43 : zraw 162 43 = some (.bipush 41, 2) ∧ zin 128 41 = true ∧ 43 + 2 = 45 := by decide +kernel
theorem zi_162_45 : zraw 162 45 = some (.if_icmp .ne 40, 3) ∧ ((45 : Nat) : Int) + 40 = Int.ofNat 85 ∧ 45 + 3 = 48 := by decide +kernel
theorem zi_162_48 : zraw 162 48 = some (.iload_n 1, 1) ∧ 48 + 1 = 49 := by decide +kernel
theorem zi_162_49 : zraw 162 49 = some (.ifCond .ne 13, 3) ∧ ((49 : Nat) : Int) + 13 = Int.ofNat 62 ∧ 49 + 3 = 52 := by decide +kernel
theorem zi_162_52 : zraw 162 52 = some (.aload_n 0, 1) ∧ 52 + 1 = 53 := by decide +kernel
theorem zi_162_53 : zraw 162 53 = some (.iconst 1, 1) ∧ zin 128 1 = true ∧ 53 + 1 = 54 := by decide +kernel
theorem zi_162_54 : zraw 162 54 = some (.aload_n 0, 1) ∧ 54 + 1 = 55 := by decide +kernel
theorem zi_162_55 : zraw 162 55 = some (.getfield 212, 3) ∧ zft (zinf 162).1 212 = some (10, 2, 0, false) ∧ 55 + 3 = 58 := by decide +kernel
theorem zi_162_58 : zraw 162 58 = some (.invokevirtual 252, 3) ∧ zmt (zinf 162).1 252 = some 148 ∧ Nat.ble 9000 148 = false ∧ zinf 148 = (10, 3, 3, 2, 0) ∧ 58 + 3 = 61 := by decide +kernel
theorem zi_162_61 : zraw 162 61 = some (.ireturn, 1) ∧ (zinf 162).2.2.2.1 = 2 := by decide +kernel
theorem zi_162_62 : zraw 162 62 = some (.aload_n 0, 1) ∧ 62 + 1 = 63 := by decide +kernel
theorem zi_162_63 : zraw 162 63 = some (.dup, 1) ∧ 63 + 1 = 64 := by decide +kernel
theorem zi_162_64 : zraw 162 64 = some (.getfield 212, 3) ∧ zft (zinf 162).1 212 = some (10, 2, 0, false) ∧ 64 + 3 = 67 := by decide +kernel
theorem zi_162_67 : zraw 162 67 = some (.iconst 1, 1) ∧ zin 128 1 = true ∧ 67 + 1 = 68 := by decide +kernel
theorem zi_162_68 : zraw 162 68 = some (.iadd, 1) ∧ 68 + 1 = 69 := by decide +kernel
theorem zi_162_69 : zraw 162 69 = some (.putfield 212, 3) ∧ zft (zinf 162).1 212 = some (10, 2, 0, false) ∧ 69 + 3 = 72 := by decide +kernel
theorem zi_162_72 : zraw 162 72 = some (.iinc 1 (-1), 3) ∧ zin 32768 (-1) = true ∧ 72 + 3 = 75 := by decide +kernel
theorem zi_162_75 : zraw 162 75 = some (.aload_n 0, 1) ∧ 75 + 1 = 76 := by decide +kernel
theorem zi_162_76 : zraw 162 76 = some (.getfield 120, 3) ∧ zft (zinf 162).1 120 = some (10, 51, 3, true) ∧ 76 + 3 = 79 := by decide +kernel
theorem zi_162_79 : zraw 162 79 = some (.iload_n 1, 1) ∧ 79 + 1 = 80 := by decide +kernel
theorem zi_162_80 : zraw 162 80 = some (.iaload, 1) ∧ 80 + 1 = 81 := by decide +kernel
theorem zi_162_81 : zraw 162 81 = some (.istore_n 2, 1) ∧ 81 + 1 = 82 := by decide +kernel
theorem zi_162_82 : zraw 162 82 = some (.goto 133, 3) ∧ ((82 : Nat) : Int) + 133 = Int.ofNat 215 := by decide +kernel
theorem zi_162_85 : zraw 162 85 = some (.iload_n 3, 1) ∧ 85 + 1 = 86 := by decide +kernel
theorem zi_162_86 : zraw 162 86 = some (.bipush 33, 2) ∧ zin 128 33 = true ∧ 86 + 2 = 88 := by decide +kernel
theorem zi_162_88 : zraw 162 88 = some (.if_icmp .eq 9, 3) ∧ ((88 : Nat) : Int) + 9 = Int.ofNat 97 ∧ 88 + 3 = 91 := by decide +kernel
theorem zi_162_91 : zraw 162 91 = some (.iload_n 3, 1) ∧ 91 + 1 = 92 := by decide +kernel
theorem zi_162_92 : zraw 162 92 = some (.bipush 63, 2) ∧ zin 128 63 = true ∧ 92 + 2 = 94 := by decide +kernel
theorem zi_162_94 : zraw 162 94 = some (.if_icmp .ne 7, 3) ∧ ((94 : Nat) : Int) + 7 = Int.ofNat 101 ∧ 94 + 3 = 97 := by decide +kernel
theorem zi_162_97 : zraw 162 97 = some (.iconst 1, 1) ∧ zin 128 1 = true ∧ 97 + 1 = 98 := by decide +kernel
theorem zi_162_98 : zraw 162 98 = some (.goto 4, 3) ∧ ((98 : Nat) : Int) + 4 = Int.ofNat 102 := by decide +kernel
theorem zi_162_101 : zraw 162 101 = some (.iconst 0, 1) ∧ zin 128 0 = true ∧ 101 + 1 = 102 := by decide +kernel
theorem zi_162_102 : zraw 162 102 = some (.istore 4, 2) ∧ 102 + 2 = 104 := by decide +kernel
theorem zi_162_104 : zraw 162 104 = some (.iload_n 3, 1) ∧ 104 + 1 = 105 := by decide +kernel
theorem zi_162_105 : zraw 162 105 = some (.bipush 63, 2) ∧ zin 128 63 = true ∧ 105 + 2 = 107 := by decide +kernel
theorem zi_162_107 : zraw 162 107 = some (.if_icmp .ne 31, 3) ∧ ((107 : Nat) : Int) + 31 = Int.ofNat 138 ∧ 107 + 3 = 110 := by decide +kernel
theorem zi_162_110 : zraw 162 110 = some (.aload_n 0, 1) ∧ 110 + 1 = 111 := by decide +kernel
theorem zi_162_111 : zraw 162 111 = some (.getfield 102, 3) ∧ zft (zinf 162).1 102 = some (10, 43, 3, true) ∧ 111 + 3 = 114 := by decide +kernel
theorem zi_162_114 : zraw 162 114 = some (.iload_n 2, 1) ∧ 114 + 1 = 115 := by decide +kernel
theorem zi_162_115 : zraw 162 115 = some (.baload, 1) ∧ 115 + 1 = 116 := by decide +kernel
theorem zi_162_116 : zraw 162 116 = some (.ifCond .ne 12, 3) ∧ ((116 : Nat) : Int) + 12 = Int.ofNat 128 ∧ 116 + 3 = 119 := by decide +kernel
theorem zi_162_119 : zraw 162 119 = some (.aload_n 0, 1) ∧ 119 + 1 = 120 := by decide +kernel
theorem zi_162_120 : zraw 162 120 = some (.getfield 99, 3) ∧ zft (zinf 162).1 99 = some (10, 42, 3, true) ∧ 120 + 3 = 123 := by decide +kernel
theorem zi_162_123 : zraw 162 123 = some (.iload_n 2, 1) ∧ 123 + 1 = 124 := by decide +kernel
theorem zi_162_124 : zraw 162 124 = some (.iaload, 1) ∧ 124 + 1 = 125 := by decide +kernel
theorem zi_162_125 : zraw 162 125 = some (.ifCond .le 13, 3) ∧ ((125 : Nat) : Int) + 13 = Int.ofNat 138 ∧ 125 + 3 = 128 := by decide +kernel
theorem zi_162_128 : zraw 162 128 = some (.aload_n 0, 1) ∧ 128 + 1 = 129 := by decide +kernel
theorem zi_162_129 : zraw 162 129 = some (.iconst 1, 1) ∧ zin 128 1 = true ∧ 129 + 1 = 130 := by decide +kernel
theorem zi_162_130 : zraw 162 130 = some (.aload_n 0, 1) ∧ 130 + 1 = 131 := by decide +kernel
theorem zi_162_131 : zraw 162 131 = some (.getfield 212, 3) ∧ zft (zinf 162).1 212 = some (10, 2, 0, false) ∧ 131 + 3 = 134 := by decide +kernel
theorem zi_162_134 : zraw 162 134 = some (.invokevirtual 252, 3) ∧ zmt (zinf 162).1 252 = some 148 ∧ Nat.ble 9000 148 = false ∧ zinf 148 = (10, 3, 3, 2, 0) ∧ 134 + 3 = 137 := by decide +kernel
theorem zi_162_137 : zraw 162 137 = some (.ireturn, 1) ∧ (zinf 162).2.2.2.1 = 2 := by decide +kernel
theorem zi_162_138 : zraw 162 138 = some (.aload_n 0, 1) ∧ 138 + 1 = 139 := by decide +kernel
theorem zi_162_139 : zraw 162 139 = some (.dup, 1) ∧ 139 + 1 = 140 := by decide +kernel
theorem zi_162_140 : zraw 162 140 = some (.getfield 212, 3) ∧ zft (zinf 162).1 212 = some (10, 2, 0, false) ∧ 140 + 3 = 143 := by decide +kernel
theorem zi_162_143 : zraw 162 143 = some (.iload 4, 2) ∧ 143 + 2 = 145 := by decide +kernel
theorem zi_162_145 : zraw 162 145 = some (.ifCond .eq 7, 3) ∧ ((145 : Nat) : Int) + 7 = Int.ofNat 152 ∧ 145 + 3 = 148 := by decide +kernel
theorem zi_162_148 : zraw 162 148 = some (.iconst 1, 1) ∧ zin 128 1 = true ∧ 148 + 1 = 149 := by decide +kernel
theorem zi_162_149 : zraw 162 149 = some (.goto 4, 3) ∧ ((149 : Nat) : Int) + 4 = Int.ofNat 153 := by decide +kernel
theorem zi_162_152 : zraw 162 152 = some (.iconst 0, 1) ∧ zin 128 0 = true ∧ 152 + 1 = 153 := by decide +kernel
theorem zi_162_153 : zraw 162 153 = some (.iadd, 1) ∧ 153 + 1 = 154 := by decide +kernel
theorem zi_162_154 : zraw 162 154 = some (.putfield 212, 3) ∧ zft (zinf 162).1 212 = some (10, 2, 0, false) ∧ 154 + 3 = 157 := by decide +kernel
theorem zi_162_157 : zraw 162 157 = some (.aload_n 0, 1) ∧ 157 + 1 = 158 := by decide +kernel
theorem zi_162_158 : zraw 162 158 = some (.iload_n 2, 1) ∧ 158 + 1 = 159 := by decide +kernel
theorem zi_162_159 : zraw 162 159 = some (.iload 4, 2) ∧ 159 + 2 = 161 := by decide +kernel
theorem zi_162_161 : zraw 162 161 = some (.ifCond .eq 7, 3) ∧ ((161 : Nat) : Int) + 7 = Int.ofNat 168 ∧ 161 + 3 = 164 := by decide +kernel
theorem zi_162_164 : zraw 162 164 = some (.iload_n 3, 1) ∧ 164 + 1 = 165 := by decide +kernel
theorem zi_162_165 : zraw 162 165 = some (.goto 4, 3) ∧ ((165 : Nat) : Int) + 4 = Int.ofNat 169 := by decide +kernel
theorem zi_162_168 : zraw 162 168 = some (.iconst 0, 1) ∧ zin 128 0 = true ∧ 168 + 1 = 169 := by decide +kernel
theorem zi_162_169 : zraw 162 169 = some (.invokevirtual 302, 3) ∧ zmt (zinf 162).1 302 = some 161 ∧ Nat.ble 9000 161 = false ∧ zinf 161 = (10, 3, 6, 1, 0) ∧ 169 + 3 = 172 := by decide +kernel
theorem zi_162_172 : zraw 162 172 = some (.istore 5, 2) ∧ 172 + 2 = 174 := by decide +kernel
theorem zi_162_174 : zraw 162 174 = some (.iload 5, 2) ∧ 174 + 2 = 176 := by decide +kernel
theorem zi_162_176 : zraw 162 176 = some (.bipush (-2), 2) ∧ zin 128 (-2) = true ∧ 176 + 2 = 178 := by decide +kernel
theorem zi_162_178 : zraw 162 178 = some (.if_icmp .ne 5, 3) ∧ ((178 : Nat) : Int) + 5 = Int.ofNat 183 ∧ 178 + 3 = 181 := by decide +kernel
theorem zi_162_181 : zraw 162 181 = some (.iconst 0, 1) ∧ zin 128 0 = true ∧ 181 + 1 = 182 := by decide +kernel
theorem zi_162_182 : zraw 162 182 = some (.ireturn, 1) ∧ (zinf 162).2.2.2.1 = 2 := by decide +kernel
theorem zi_162_183 : zraw 162 183 = some (.aload_n 0, 1) ∧ 183 + 1 = 184 := by decide +kernel
theorem zi_162_184 : zraw 162 184 = some (.getfield 120, 3) ∧ zft (zinf 162).1 120 = some (10, 51, 3, true) ∧ 184 + 3 = 187 := by decide +kernel
theorem zi_162_187 : zraw 162 187 = some (.iload_n 1, 1) ∧ 187 + 1 = 188 := by decide +kernel
theorem zi_162_188 : zraw 162 188 = some (.iload_n 2, 1) ∧ 188 + 1 = 189 := by decide +kernel
theorem zi_162_189 : zraw 162 189 = some (.iastore, 1) ∧ 189 + 1 = 190 := by decide +kernel
theorem zi_162_190 : zraw 162 190 = some (.iload_n 1, 1) ∧ 190 + 1 = 191 := by decide +kernel
theorem zi_162_191 : zraw 162 191 = some (.iload 5, 2) ∧ 191 + 2 = 193 := by decide +kernel
theorem zi_162_193 : zraw 162 193 = some (.ifCond .lt 7, 3) ∧ ((193 : Nat) : Int) + 7 = Int.ofNat 200 ∧ 193 + 3 = 196 := by decide +kernel
theorem zi_162_196 : zraw 162 196 = some (.iconst 1, 1) ∧ zin 128 1 = true ∧ 196 + 1 = 197 := by decide +kernel
theorem zi_162_197 : zraw 162 197 = some (.goto 4, 3) ∧ ((197 : Nat) : Int) + 4 = Int.ofNat 201 := by decide +kernel
theorem zi_162_200 : zraw 162 200 = some (.iconst 0, 1) ∧ zin 128 0 = true ∧ 200 + 1 = 201 := by decide +kernel
theorem zi_162_201 : zraw 162 201 = some (.iadd, 1) ∧ 201 + 1 = 202 := by decide +kernel
theorem zi_162_202 : zraw 162 202 = some (.istore_n 1, 1) ∧ 202 + 1 = 203 := by decide +kernel
theorem zi_162_203 : zraw 162 203 = some (.iload 5, 2) ∧ 203 + 2 = 205 := by decide +kernel
theorem zi_162_205 : zraw 162 205 = some (.ifCond .lt 8, 3) ∧ ((205 : Nat) : Int) + 8 = Int.ofNat 213 ∧ 205 + 3 = 208 := by decide +kernel
theorem zi_162_208 : zraw 162 208 = some (.iload 5, 2) ∧ 208 + 2 = 210 := by decide +kernel
theorem zi_162_210 : zraw 162 210 = some (.goto 4, 3) ∧ ((210 : Nat) : Int) + 4 = Int.ofNat 214 := by decide +kernel
theorem zi_162_213 : zraw 162 213 = some (.iload_n 2, 1) ∧ 213 + 1 = 214 := by decide +kernel
theorem zi_162_214 : zraw 162 214 = some (.istore_n 2, 1) ∧ 214 + 1 = 215 := by decide +kernel
theorem zi_162_215 : zraw 162 215 = some (.aload_n 0, 1) ∧ 215 + 1 = 216 := by decide +kernel
theorem zi_162_216 : zraw 162 216 = some (.invokevirtual 256, 3) ∧ zmt (zinf 162).1 256 = some 149 ∧ Nat.ble 9000 149 = false ∧ zinf 149 = (10, 1, 1, 1, 0) ∧ 216 + 3 = 219 := by decide +kernel
theorem zi_162_219 : zraw 162 219 = some (.istore_n 3, 1) ∧ 219 + 1 = 220 := by decide +kernel
theorem zi_162_220 : zraw 162 220 = some (.goto (-183), 3) ∧ ((220 : Nat) : Int) + (-183) = Int.ofNat 37 := by decide +kernel
theorem zi_162_223 : zraw 162 223 = some (.iload_n 1, 1) ∧ 223 + 1 = 224 := by decide +kernel
theorem zi_162_224 : zraw 162 224 = some (.ifCond .eq 15, 3) ∧ ((224 : Nat) : Int) + 15 = Int.ofNat 239 ∧ 224 + 3 = 227 := by decide +kernel
theorem zi_162_227 : zraw 162 227 = some (.aload_n 0, 1) ∧ 227 + 1 = 228 := by decide +kernel
theorem zi_162_228 : zraw 162 228 = some (.iconst 1, 1) ∧ zin 128 1 = true ∧ 228 + 1 = 229 := by decide +kernel
theorem zi_162_229 : zraw 162 229 = some (.aload_n 0, 1) ∧ 229 + 1 = 230 := by decide +kernel
theorem zi_162_230 : zraw 162 230 = some (.getfield 212, 3) ∧ zft (zinf 162).1 212 = some (10, 2, 0, false) ∧ 230 + 3 = 233 := by decide +kernel
theorem zi_162_233 : zraw 162 233 = some (.invokevirtual 252, 3) ∧ zmt (zinf 162).1 252 = some 148 ∧ Nat.ble 9000 148 = false ∧ zinf 148 = (10, 3, 3, 2, 0) ∧ 233 + 3 = 236 := by decide +kernel
theorem zi_162_236 : zraw 162 236 = some (.ifCond .eq 7, 3) ∧ ((236 : Nat) : Int) + 7 = Int.ofNat 243 ∧ 236 + 3 = 239 := by decide +kernel
theorem zi_162_239 : zraw 162 239 = some (.iconst 1, 1) ∧ zin 128 1 = true ∧ 239 + 1 = 240 := by decide +kernel
theorem zi_162_240 : zraw 162 240 = some (.goto 4, 3) ∧ ((240 : Nat) : Int) + 4 = Int.ofNat 244 := by decide +kernel
theorem zi_162_243 : zraw 162 243 = some (.iconst 0, 1) ∧ zin 128 0 = true ∧ 243 + 1 = 244 := by decide +kernel
theorem zi_162_244 : zraw 162 244 = some (.ireturn, 1) ∧ (zinf 162).2.2.2.1 = 2 := by decide +kernel
theorem ze_162 {K : List zF} {σ : zW} (hK : K.length < 60) : zEv true (zent 162 [.inr (.inr 122)] :: K) σ = (zEv true (zent 158 [.inr (.inr 122), .inl (-1), .inl 0, .inl 0, .inl 0] :: (162, 25, [some (.inr (.inr 122)), some (.inl 0), none, none, none, none], []) :: K) (sI (sI (sI σ 122 35 0) 122 49 0) 122 50 0)) :=
  yT_en (f := (162, 0, [some (.inr (.inr 122)), none, none, none, none, none], [])) rfl (yI_aload_n zi_162_0 rfl <| yI_iconst zi_162_1 <| yI_pf_i zi_162_2 zk_122 <| yI_aload_n zi_162_5 rfl <| yI_iconst zi_162_6 <| yI_pf_i zi_162_7 zk_122 <| yI_aload_n zi_162_10 rfl <| yI_iconst zi_162_11 <| yI_pf_i zi_162_12 zk_122 <| yI_iconst zi_162_15 <| yI_istore_n (l := [some (.inr (.inr 122)), some (.inl 0), none, none, none, none]) zi_162_16 rfl rfl <| yI_aload_n zi_162_17 rfl <| yI_iconst zi_162_18 <| yI_iconst zi_162_19 <| yI_iconst zi_162_20 <| yI_iconst zi_162_21 <| yI_cv zi_162_22 rfl rfl zk_122 hK)
theorem zr_162_25 {K : List zF} {σ : zW} {x1 : Int} {o2 : Option zV} {o3 : Option zV} {o4 : Option zV} {o5 : Option zV} {v : Int} (hK : K.length < 60) : zRet true ((162, 25, [some (.inr (.inr 122)), some (.inl x1), o2, o3, o4, o5], []) :: K) (some (.inl v)) σ = (if ¬ v = 0 then zEv true (zent 149 [.inr (.inr 122)] :: (162, 36, [some (.inr (.inr 122)), some (.inl x1), some (.inl 0), o3, o4, o5], []) :: K) σ else zRet true K (some (.inl 0)) σ) :=
  yT_rt (yI_if_ne zi_162_25 <| yBr (yI_iconst zi_162_30 <| yI_istore_n (l := [some (.inr (.inr 122)), some (.inl x1), some (.inl 0), o3, o4, o5]) zi_162_31 rfl rfl <| yI_aload_n zi_162_32 rfl <| yI_cv zi_162_33 rfl rfl zk_122 hK) (yI_iconst zi_162_28 <| yI_zreturn zi_162_29 (by decide)))
theorem zr_162_36 {K : List zF} {σ : zW} {x1 : Int} {x2 : Int} {o3 : Option zV} {o4 : Option zV} {o5 : Option zV} {v : Int} : zRet true ((162, 36, [some (.inr (.inr 122)), some (.inl x1), some (.inl x2), o3, o4, o5], []) :: K) (some (.inl v)) σ = (zEv true ((162, 37, [some (.inr (.inr 122)), some (.inl x1), some (.inl x2), some (.inl v), o4, o5], []) :: K) σ) :=
  yT_rt (yI_istore_n (l := [some (.inr (.inr 122)), some (.inl x1), some (.inl x2), some (.inl v), o4, o5]) zi_162_36 rfl rfl <| rfl)
theorem zj_162_37 {K : List zF} {σ : zW} {x1 : Int} {x2 : Int} {x3 : Int} {o4 : Option zV} {o5 : Option zV} (hK : K.length < 60) : zEv true ((162, 37, [some (.inr (.inr 122)), some (.inl x1), some (.inl x2), some (.inl x3), o4, o5], []) :: K) σ = (if x3 = (-1) then if x1 = 0 then zRet true K (some (.inl 1)) σ else zEv true (zent 148 [.inr (.inr 122), .inl 1, .inl (gI σ 122 2)] :: (162, 236, [some (.inr (.inr 122)), some (.inl x1), some (.inl x2), some (.inl x3), o4, o5], []) :: K) σ else if ¬ x3 = 41 then if ¬ x3 = 63 then zEv true ((162, 138, [some (.inr (.inr 122)), some (.inl x1), some (.inl x2), some (.inl x3), some (.inl (if x3 = 33 then 1 else (if ¬ x3 = 63 then 0 else 1 : Int) : Int)), o5], []) :: K) σ else (0 ≤ x2 ∧ x2 < 8) ∧ (if ¬ (gI σ 153 x2.toNat) = 0 then zEv true ((162, 128, [some (.inr (.inr 122)), some (.inl x1), some (.inl x2), some (.inl x3), some (.inl (if x3 = 33 then 1 else (if ¬ x3 = 63 then 0 else 1 : Int) : Int)), o5], []) :: K) σ else (0 ≤ x2 ∧ x2 < 8) ∧ (if (gI σ 152 x2.toNat) ≤ 0 then zEv true ((162, 138, [some (.inr (.inr 122)), some (.inl x1), some (.inl x2), some (.inl x3), some (.inl (if x3 = 33 then 1 else (if ¬ x3 = 63 then 0 else 1 : Int) : Int)), o5], []) :: K) σ else zEv true ((162, 128, [some (.inr (.inr 122)), some (.inl x1), some (.inl x2), some (.inl x3), some (.inl (if x3 = 33 then 1 else (if ¬ x3 = 63 then 0 else 1 : Int) : Int)), o5], []) :: K) σ)) else if ¬ x1 = 0 then (0 ≤ (w32 (x1 + (-1))) ∧ (w32 (x1 + (-1))) < 600) ∧ zEv true ((162, 215, [some (.inr (.inr 122)), some (.inl (w32 (x1 + (-1)))), some (.inl (gI σ 159 ((w32 (x1 + (-1))).toNat))), some (.inl x3), o4, o5], []) :: K) (sI σ 122 2 (w32 ((gI σ 122 2) + 1))) else zEv true (zent 148 [.inr (.inr 122), .inl 1, .inl (gI σ 122 2)] :: (162, 61, [some (.inr (.inr 122)), some (.inl x1), some (.inl x2), some (.inl x3), o4, o5], []) :: K) σ) :=
  yI_iload_n zi_162_37 rfl <| yI_iconst zi_162_38 <| yI_ic_eq zi_162_39 <| yBr (yI_iload_n zi_162_223 rfl <| yI_if_eq zi_162_224 <| yBr (yI_iconst zi_162_239 <| yI_goto zi_162_240 <| yI_zreturn zi_162_244 (by decide)) (yI_aload_n zi_162_227 rfl <| yI_iconst zi_162_228 <| yI_aload_n zi_162_229 rfl <| yI_gf_i (v := gI σ 122 2) zi_162_230 zk_122 rfl <| yI_cv zi_162_233 rfl rfl zk_122 hK)) (yI_iload_n zi_162_42 rfl <| yI_bipush zi_162_43 <| yI_ic_ne zi_162_45 <| yBr (yI_iload_n zi_162_85 rfl <| yI_bipush zi_162_86 <| yI_ic_eq zi_162_88 <| yMi0 (j := 102) (ls2 := [some (.inr (.inr 122)), some (.inl x1), some (.inl x2), some (.inl x3), o4, o5]) (st2 := []) (x := 1) (y := (if ¬ x3 = 63 then 0 else 1 : Int)) (σ2 := σ) (yI_iconst zi_162_97 <| yI_goto zi_162_98 <| rfl) (yI_iload_n zi_162_91 rfl <| yI_bipush zi_162_92 <| yI_ic_ne zi_162_94 <| yMi0 (j := 102) (ls2 := [some (.inr (.inr 122)), some (.inl x1), some (.inl x2), some (.inl x3), o4, o5]) (st2 := []) (x := 0) (y := 1) (σ2 := σ) (yI_iconst zi_162_101 <| rfl) (yI_iconst zi_162_97 <| yI_goto zi_162_98 <| rfl) <| rfl) <| yI_istore (l := [some (.inr (.inr 122)), some (.inl x1), some (.inl x2), some (.inl x3), some (.inl (if x3 = 33 then 1 else (if ¬ x3 = 63 then 0 else 1 : Int) : Int)), o5]) zi_162_102 rfl rfl <| yI_iload_n zi_162_104 rfl <| yI_bipush zi_162_105 <| yI_ic_ne zi_162_107 <| yBr (rfl) (yI_aload_n zi_162_110 rfl <| yI_gf_f (v := 153) zi_162_111 zk_122 rfl <| yI_iload_n zi_162_114 rfl <| yI_baloadc (v := gI σ 153 x2.toNat) zi_162_115 za_153 rfl <| yI_if_ne zi_162_116 <| yBr (rfl) (yI_aload_n zi_162_119 rfl <| yI_gf_f (v := 152) zi_162_120 zk_122 rfl <| yI_iload_n zi_162_123 rfl <| yI_ialoadc (v := gI σ 152 x2.toNat) zi_162_124 za_152 rfl <| yI_if_le zi_162_125 <| yBr (rfl) (rfl)))) (yI_iload_n zi_162_48 rfl <| yI_if_ne zi_162_49 <| yBr (yI_aload_n zi_162_62 rfl <| yI_dup_r zi_162_63 <| yI_gf_i (v := gI σ 122 2) zi_162_64 zk_122 rfl <| yI_iconst zi_162_67 <| yI_iadd zi_162_68 <| yI_pf_i zi_162_69 zk_122 <| yI_iinc (l := [some (.inr (.inr 122)), some (.inl (w32 (x1 + (-1)))), some (.inl x2), some (.inl x3), o4, o5]) zi_162_72 rfl rfl rfl <| yI_aload_n zi_162_75 rfl <| yI_gf_f (v := 159) zi_162_76 zk_122 rfl <| yI_iload_n zi_162_79 rfl <| yI_ialoadc (v := gI σ 159 ((w32 (x1 + (-1))).toNat)) zi_162_80 za_159 (yGI_nk (by decide)) <| yI_istore_n (l := [some (.inr (.inr 122)), some (.inl (w32 (x1 + (-1)))), some (.inl (gI σ 159 ((w32 (x1 + (-1))).toNat))), some (.inl x3), o4, o5]) zi_162_81 rfl rfl <| yI_goto zi_162_82 <| rfl) (yI_aload_n zi_162_52 rfl <| yI_iconst zi_162_53 <| yI_aload_n zi_162_54 rfl <| yI_gf_i (v := gI σ 122 2) zi_162_55 zk_122 rfl <| yI_cv zi_162_58 rfl rfl zk_122 hK)))
theorem zr_162_236 {K : List zF} {σ : zW} {o0 : Option zV} {o1 : Option zV} {o2 : Option zV} {o3 : Option zV} {o4 : Option zV} {o5 : Option zV} {v : Int} : zRet true ((162, 236, [o0, o1, o2, o3, o4, o5], []) :: K) (some (.inl v)) σ = (if v = 0 then zRet true K (some (.inl 0)) σ else zRet true K (some (.inl 1)) σ) :=
  yT_rt (yI_if_eq zi_162_236 <| yBr (yI_iconst zi_162_243 <| yI_zreturn zi_162_244 (by decide)) (yI_iconst zi_162_239 <| yI_goto zi_162_240 <| yI_zreturn zi_162_244 (by decide)))
theorem zj_162_215 {K : List zF} {σ : zW} {x1 : Int} {x2 : Int} {o3 : Option zV} {o4 : Option zV} {o5 : Option zV} (hK : K.length < 60) : zEv true ((162, 215, [some (.inr (.inr 122)), some (.inl x1), some (.inl x2), o3, o4, o5], []) :: K) σ = (zEv true (zent 149 [.inr (.inr 122)] :: (162, 219, [some (.inr (.inr 122)), some (.inl x1), some (.inl x2), o3, o4, o5], []) :: K) σ) :=
  yI_aload_n zi_162_215 rfl <| yI_cv zi_162_216 rfl rfl zk_122 hK
theorem zr_162_61 {K : List zF} {σ : zW} {o0 : Option zV} {o1 : Option zV} {o2 : Option zV} {o3 : Option zV} {o4 : Option zV} {o5 : Option zV} {v : Int} : zRet true ((162, 61, [o0, o1, o2, o3, o4, o5], []) :: K) (some (.inl v)) σ = ((v = 0 ∨ v = 1) ∧ zRet true K (some (.inl v)) σ) :=
  yT_rt (yI_zreturnc zi_162_61)
theorem zj_162_138 {K : List zF} {σ : zW} {x1 : Int} {x2 : Int} {x3 : Int} {x4 : Int} {o5 : Option zV} (hK : K.length < 60) : zEv true ((162, 138, [some (.inr (.inr 122)), some (.inl x1), some (.inl x2), some (.inl x3), some (.inl x4), o5], []) :: K) σ = (zEv true (zent 161 [.inr (.inr 122), .inl x2, .inl (if x4 = 0 then 0 else x3 : Int)] :: (162, 172, [some (.inr (.inr 122)), some (.inl x1), some (.inl x2), some (.inl x3), some (.inl x4), o5], []) :: K) (sI σ 122 2 (w32 ((gI σ 122 2) + (if x4 = 0 then 0 else 1 : Int))))) :=
  yI_aload_n zi_162_138 rfl <| yI_dup_r zi_162_139 <| yI_gf_i (v := gI σ 122 2) zi_162_140 zk_122 rfl <| yI_iload zi_162_143 rfl <| yI_if_eq zi_162_145 <| yMi0 (j := 153) (ls2 := [some (.inr (.inr 122)), some (.inl x1), some (.inl x2), some (.inl x3), some (.inl x4), o5]) (st2 := [.inl (gI σ 122 2), .inr (.inr 122)]) (x := 0) (y := 1) (σ2 := σ) (yI_iconst zi_162_152 <| rfl) (yI_iconst zi_162_148 <| yI_goto zi_162_149 <| rfl) <| yI_iadd zi_162_153 <| yI_pf_i zi_162_154 zk_122 <| yI_aload_n zi_162_157 rfl <| yI_iload_n zi_162_158 rfl <| yI_iload zi_162_159 rfl <| yI_if_eq zi_162_161 <| yMi0 (j := 169) (ls2 := [some (.inr (.inr 122)), some (.inl x1), some (.inl x2), some (.inl x3), some (.inl x4), o5]) (st2 := [.inl x2, .inr (.inr 122)]) (x := 0) (y := x3) (σ2 := (sI σ 122 2 (w32 ((gI σ 122 2) + (if x4 = 0 then 0 else 1 : Int))))) (yI_iconst zi_162_168 <| rfl) (yI_iload_n zi_162_164 rfl <| yI_goto zi_162_165 <| rfl) <| yI_cv zi_162_169 rfl rfl zk_122 hK
theorem zj_162_128 {K : List zF} {σ : zW} {o1 : Option zV} {o2 : Option zV} {o3 : Option zV} {o4 : Option zV} {o5 : Option zV} (hK : K.length < 60) : zEv true ((162, 128, [some (.inr (.inr 122)), o1, o2, o3, o4, o5], []) :: K) σ = (zEv true (zent 148 [.inr (.inr 122), .inl 1, .inl (gI σ 122 2)] :: (162, 137, [some (.inr (.inr 122)), o1, o2, o3, o4, o5], []) :: K) σ) :=
  yI_aload_n zi_162_128 rfl <| yI_iconst zi_162_129 <| yI_aload_n zi_162_130 rfl <| yI_gf_i (v := gI σ 122 2) zi_162_131 zk_122 rfl <| yI_cv zi_162_134 rfl rfl zk_122 hK
theorem zr_162_219 {K : List zF} {σ : zW} {x1 : Int} {x2 : Int} {o3 : Option zV} {o4 : Option zV} {o5 : Option zV} {v : Int} : zRet true ((162, 219, [some (.inr (.inr 122)), some (.inl x1), some (.inl x2), o3, o4, o5], []) :: K) (some (.inl v)) σ = (zEv true ((162, 37, [some (.inr (.inr 122)), some (.inl x1), some (.inl x2), some (.inl v), o4, o5], []) :: K) σ) :=
  yT_rt (yI_istore_n (l := [some (.inr (.inr 122)), some (.inl x1), some (.inl x2), some (.inl v), o4, o5]) zi_162_219 rfl rfl <| yI_goto zi_162_220 <| rfl)
theorem zr_162_172 {K : List zF} {σ : zW} {x1 : Int} {x2 : Int} {o3 : Option zV} {o4 : Option zV} {o5 : Option zV} {v : Int} : zRet true ((162, 172, [some (.inr (.inr 122)), some (.inl x1), some (.inl x2), o3, o4, o5], []) :: K) (some (.inl v)) σ = (if ¬ v = (-2) then (0 ≤ x1 ∧ x1 < 600) ∧ zEv true ((162, 215, [some (.inr (.inr 122)), some (.inl (w32 (x1 + (if v < 0 then 0 else 1 : Int)))), some (.inl (if v < 0 then x2 else v : Int)), o3, (zcut 0 o4), some (.inl v)], []) :: K) (sI σ 159 x1.toNat x2) else zRet true K (some (.inl 0)) σ) :=
  yT_rt (yI_istore (l := [some (.inr (.inr 122)), some (.inl x1), some (.inl x2), o3, (zcut 0 o4), some (.inl v)]) zi_162_172 rfl rfl <| yI_iload zi_162_174 rfl <| yI_bipush zi_162_176 <| yI_ic_ne zi_162_178 <| yBr (yI_aload_n zi_162_183 rfl <| yI_gf_f (v := 159) zi_162_184 zk_122 rfl <| yI_iload_n zi_162_187 rfl <| yI_iload_n zi_162_188 rfl <| yI_iastorec zi_162_189 za_159 <| yI_iload_n zi_162_190 rfl <| yI_iload zi_162_191 rfl <| yI_if_lt zi_162_193 <| yMi0 (j := 201) (ls2 := [some (.inr (.inr 122)), some (.inl x1), some (.inl x2), o3, (zcut 0 o4), some (.inl v)]) (st2 := [.inl x1]) (x := 0) (y := 1) (σ2 := (sI σ 159 x1.toNat x2)) (yI_iconst zi_162_200 <| rfl) (yI_iconst zi_162_196 <| yI_goto zi_162_197 <| rfl) <| yI_iadd zi_162_201 <| yI_istore_n (l := [some (.inr (.inr 122)), some (.inl (w32 (x1 + (if v < 0 then 0 else 1 : Int)))), some (.inl x2), o3, (zcut 0 o4), some (.inl v)]) zi_162_202 rfl rfl <| yI_iload zi_162_203 rfl <| yI_if_lt zi_162_205 <| yMi0 (j := 214) (ls2 := [some (.inr (.inr 122)), some (.inl (w32 (x1 + (if v < 0 then 0 else 1 : Int)))), some (.inl x2), o3, (zcut 0 o4), some (.inl v)]) (st2 := []) (x := x2) (y := v) (σ2 := (sI σ 159 x1.toNat x2)) (yI_iload_n zi_162_213 rfl <| rfl) (yI_iload zi_162_208 rfl <| yI_goto zi_162_210 <| rfl) <| yI_istore_n (l := [some (.inr (.inr 122)), some (.inl (w32 (x1 + (if v < 0 then 0 else 1 : Int)))), some (.inl (if v < 0 then x2 else v : Int)), o3, (zcut 0 o4), some (.inl v)]) zi_162_214 rfl rfl <| rfl) (yI_iconst zi_162_181 <| yI_zreturn zi_162_182 (by decide)))
theorem zr_162_137 {K : List zF} {σ : zW} {o0 : Option zV} {o1 : Option zV} {o2 : Option zV} {o3 : Option zV} {o4 : Option zV} {o5 : Option zV} {v : Int} : zRet true ((162, 137, [o0, o1, o2, o3, o4, o5], []) :: K) (some (.inl v)) σ = ((v = 0 ∨ v = 1) ∧ zRet true K (some (.inl v)) σ) :=
  yT_rt (yI_zreturnc zi_162_137)
/-- 163 TreegrabModel.takesPattern()V -/
theorem zi_163_0 : zraw 163 0 = some (.aload_n 0, 1) ∧ 0 + 1 = 1 := by decide +kernel
theorem zi_163_1 : zraw 163 1 = some (.aload_n 0, 1) ∧ 1 + 1 = 2 := by decide +kernel
theorem zi_163_2 : zraw 163 2 = some (.getfield 268, 3) ∧ zft (zinf 163).1 268 = some (10, 35, 0, false) ∧ 2 + 3 = 5 := by decide +kernel
theorem zi_163_5 : zraw 163 5 = some (.putfield 306, 3) ∧ zft (zinf 163).1 306 = some (10, 18, 0, false) ∧ 5 + 3 = 8 := by decide +kernel
theorem zi_163_8 : zraw 163 8 = some (.aload_n 0, 1) ∧ 8 + 1 = 9 := by decide +kernel
theorem zi_163_9 : zraw 163 9 = some (.aload_n 0, 1) ∧ 9 + 1 = 10 := by decide +kernel
theorem zi_163_10 : zraw 163 10 = some (.getfield 271, 3) ∧ zft (zinf 163).1 271 = some (10, 49, 0, false) ∧ 10 + 3 = 13 := by decide +kernel
theorem zi_163_13 : zraw 163 13 = some (.putfield 309, 3) ∧ zft (zinf 163).1 309 = some (10, 32, 0, false) ∧ 13 + 3 = 16 := by decide +kernel
theorem zi_163_16 : zraw 163 16 = some (.aload_n 0, 1) ∧ 16 + 1 = 17 := by decide +kernel
theorem zi_163_17 : zraw 163 17 = some (.aload_n 0, 1) ∧ 17 + 1 = 18 := by decide +kernel
theorem zi_163_18 : zraw 163 18 = some (.getfield 274, 3) ∧ zft (zinf 163).1 274 = some (10, 50, 0, false) ∧ 18 + 3 = 21 := by decide +kernel
theorem zi_163_21 : zraw 163 21 = some (.putfield 312, 3) ∧ zft (zinf 163).1 312 = some (10, 34, 0, false) ∧ 21 + 3 = 24 := by decide +kernel
theorem zi_163_24 : zraw 163 24 = some (.iconst 0, 1) ∧ zin 128 0 = true ∧ 24 + 1 = 25 := by decide +kernel
theorem zi_163_25 : zraw 163 25 = some (.istore_n 1, 1) ∧ 25 + 1 = 26 := by decide +kernel
theorem zi_163_26 : zraw 163 26 = some (.iload_n 1, 1) ∧ 26 + 1 = 27 := by decide +kernel
theorem zi_163_27 : zraw 163 27 = some (.aload_n 0, 1) ∧ 27 + 1 = 28 := by decide +kernel
theorem zi_163_28 : zraw 163 28 = some (.getfield 306, 3) ∧ zft (zinf 163).1 306 = some (10, 18, 0, false) ∧ 28 + 3 = 31 := by decide +kernel
theorem zi_163_31 : zraw 163 31 = some (.if_icmp .ge 175, 3) ∧ ((31 : Nat) : Int) + 175 = Int.ofNat 206 ∧ 31 + 3 = 34 := by decide +kernel
theorem zi_163_34 : zraw 163 34 = some (.aload_n 0, 1) ∧ 34 + 1 = 35 := by decide +kernel
theorem zi_163_35 : zraw 163 35 = some (.getfield 38, 3) ∧ zft (zinf 163).1 38 = some (10, 19, 3, true) ∧ 35 + 3 = 38 := by decide +kernel
theorem zi_163_38 : zraw 163 38 = some (.iload_n 1, 1) ∧ 38 + 1 = 39 := by decide +kernel
theorem zi_163_39 : zraw 163 39 = some (.aload_n 0, 1) ∧ 39 + 1 = 40 := by decide +kernel
theorem zi_163_40 : zraw 163 40 = some (.getfield 81, 3) ∧ zft (zinf 163).1 81 = some (10, 36, 3, true) ∧ 40 + 3 = 43 := by decide +kernel
theorem zi_163_43 : zraw 163 43 = some (.iload_n 1, 1) ∧ 43 + 1 = 44 := by decide +kernel
theorem zi_163_44 : zraw 163 44 = some (.iaload, 1) ∧ 44 + 1 = 45 := by decide +kernel
theorem zi_163_45 : zraw 163 45 = some (.iastore, 1) ∧ 45 + 1 = 46 := by decide +kernel
theorem zi_163_46 : zraw 163 46 = some (.aload_n 0, 1) ∧ 46 + 1 = 47 := by decide +kernel
theorem zi_163_47 : zraw 163 47 = some (.getfield 41, 3) ∧ zft (zinf 163).1 41 = some (10, 20, 3, true) ∧ 47 + 3 = 50 := by decide +kernel
theorem zi_163_50 : zraw 163 50 = some (.iload_n 1, 1) ∧ 50 + 1 = 51 := by decide +kernel
theorem zi_163_51 : zraw 163 51 = some (.aload_n 0, 1) ∧ 51 + 1 = 52 := by decide +kernel
theorem zi_163_52 : zraw 163 52 = some (.getfield 84, 3) ∧ zft (zinf 163).1 84 = some (10, 37, 3, true) ∧ 52 + 3 = 55 := by decide +kernel
theorem zi_163_55 : zraw 163 55 = some (.iload_n 1, 1) ∧ 55 + 1 = 56 := by decide +kernel
theorem zi_163_56 : zraw 163 56 = some (.iaload, 1) ∧ 56 + 1 = 57 := by decide +kernel
theorem zi_163_57 : zraw 163 57 = some (.iastore, 1) ∧ 57 + 1 = 58 := by decide +kernel
theorem zi_163_58 : zraw 163 58 = some (.aload_n 0, 1) ∧ 58 + 1 = 59 := by decide +kernel
theorem zi_163_59 : zraw 163 59 = some (.getfield 44, 3) ∧ zft (zinf 163).1 44 = some (10, 21, 3, true) ∧ 59 + 3 = 62 := by decide +kernel
theorem zi_163_62 : zraw 163 62 = some (.iload_n 1, 1) ∧ 62 + 1 = 63 := by decide +kernel
theorem zi_163_63 : zraw 163 63 = some (.aload_n 0, 1) ∧ 63 + 1 = 64 := by decide +kernel
theorem zi_163_64 : zraw 163 64 = some (.getfield 87, 3) ∧ zft (zinf 163).1 87 = some (10, 38, 3, true) ∧ 64 + 3 = 67 := by decide +kernel
theorem zi_163_67 : zraw 163 67 = some (.iload_n 1, 1) ∧ 67 + 1 = 68 := by decide +kernel
theorem zi_163_68 : zraw 163 68 = some (.iaload, 1) ∧ 68 + 1 = 69 := by decide +kernel
theorem zi_163_69 : zraw 163 69 = some (.iastore, 1) ∧ 69 + 1 = 70 := by decide +kernel
theorem zi_163_70 : zraw 163 70 = some (.aload_n 0, 1) ∧ 70 + 1 = 71 := by decide +kernel
theorem zi_163_71 : zraw 163 71 = some (.getfield 47, 3) ∧ zft (zinf 163).1 47 = some (10, 22, 3, true) ∧ 71 + 3 = 74 := by decide +kernel
theorem zi_163_74 : zraw 163 74 = some (.iload_n 1, 1) ∧ 74 + 1 = 75 := by decide +kernel
theorem zi_163_75 : zraw 163 75 = some (.aload_n 0, 1) ∧ 75 + 1 = 76 := by decide +kernel
theorem zi_163_76 : zraw 163 76 = some (.getfield 90, 3) ∧ zft (zinf 163).1 90 = some (10, 39, 3, true) ∧ 76 + 3 = 79 := by decide +kernel
theorem zi_163_79 : zraw 163 79 = some (.iload_n 1, 1) ∧ 79 + 1 = 80 := by decide +kernel
theorem zi_163_80 : zraw 163 80 = some (.iaload, 1) ∧ 80 + 1 = 81 := by decide +kernel
theorem zi_163_81 : zraw 163 81 = some (.iastore, 1) ∧ 81 + 1 = 82 := by decide +kernel
theorem zi_163_82 : zraw 163 82 = some (.aload_n 0, 1) ∧ 82 + 1 = 83 := by decide +kernel
theorem zi_163_83 : zraw 163 83 = some (.getfield 50, 3) ∧ zft (zinf 163).1 50 = some (10, 23, 3, true) ∧ 83 + 3 = 86 := by decide +kernel
theorem zi_163_86 : zraw 163 86 = some (.iload_n 1, 1) ∧ 86 + 1 = 87 := by decide +kernel
theorem zi_163_87 : zraw 163 87 = some (.aload_n 0, 1) ∧ 87 + 1 = 88 := by decide +kernel
theorem zi_163_88 : zraw 163 88 = some (.getfield 93, 3) ∧ zft (zinf 163).1 93 = some (10, 40, 3, true) ∧ 88 + 3 = 91 := by decide +kernel
theorem zi_163_91 : zraw 163 91 = some (.iload_n 1, 1) ∧ 91 + 1 = 92 := by decide +kernel
theorem zi_163_92 : zraw 163 92 = some (.iaload, 1) ∧ 92 + 1 = 93 := by decide +kernel
theorem zi_163_93 : zraw 163 93 = some (.iastore, 1) ∧ 93 + 1 = 94 := by decide +kernel
theorem zi_163_94 : zraw 163 94 = some (.aload_n 0, 1) ∧ 94 + 1 = 95 := by decide +kernel
theorem zi_163_95 : zraw 163 95 = some (.getfield 53, 3) ∧ zft (zinf 163).1 53 = some (10, 24, 3, true) ∧ 95 + 3 = 98 := by decide +kernel
theorem zi_163_98 : zraw 163 98 = some (.iload_n 1, 1) ∧ 98 + 1 = 99 := by decide +kernel
theorem zi_163_99 : zraw 163 99 = some (.aload_n 0, 1) ∧ 99 + 1 = 100 := by decide +kernel
theorem zi_163_100 : zraw 163 100 = some (.getfield 96, 3) ∧ zft (zinf 163).1 96 = some (10, 41, 3, true) ∧ 100 + 3 = 103 := by decide +kernel
theorem zi_163_103 : zraw 163 103 = some (.iload_n 1, 1) ∧ 103 + 1 = 104 := by decide +kernel
theorem zi_163_104 : zraw 163 104 = some (.iaload, 1) ∧ 104 + 1 = 105 := by decide +kernel
theorem zi_163_105 : zraw 163 105 = some (.iastore, 1) ∧ 105 + 1 = 106 := by decide +kernel
theorem zi_163_106 : zraw 163 106 = some (.aload_n 0, 1) ∧ 106 + 1 = 107 := by decide +kernel
theorem zi_163_107 : zraw 163 107 = some (.getfield 56, 3) ∧ zft (zinf 163).1 56 = some (10, 25, 3, true) ∧ 107 + 3 = 110 := by decide +kernel
theorem zi_163_110 : zraw 163 110 = some (.iload_n 1, 1) ∧ 110 + 1 = 111 := by decide +kernel
theorem zi_163_111 : zraw 163 111 = some (.aload_n 0, 1) ∧ 111 + 1 = 112 := by decide +kernel
theorem zi_163_112 : zraw 163 112 = some (.getfield 99, 3) ∧ zft (zinf 163).1 99 = some (10, 42, 3, true) ∧ 112 + 3 = 115 := by decide +kernel
theorem zi_163_115 : zraw 163 115 = some (.iload_n 1, 1) ∧ 115 + 1 = 116 := by decide +kernel
theorem zi_163_116 : zraw 163 116 = some (.iaload, 1) ∧ 116 + 1 = 117 := by decide +kernel
theorem zi_163_117 : zraw 163 117 = some (.iastore, 1) ∧ 117 + 1 = 118 := by decide +kernel
theorem zi_163_118 : zraw 163 118 = some (.aload_n 0, 1) ∧ 118 + 1 = 119 := by decide +kernel
theorem zi_163_119 : zraw 163 119 = some (.getfield 59, 3) ∧ zft (zinf 163).1 59 = some (10, 26, 3, true) ∧ 119 + 3 = 122 := by decide +kernel
theorem zi_163_122 : zraw 163 122 = some (.iload_n 1, 1) ∧ 122 + 1 = 123 := by decide +kernel
theorem zi_163_123 : zraw 163 123 = some (.aload_n 0, 1) ∧ 123 + 1 = 124 := by decide +kernel
theorem zi_163_124 : zraw 163 124 = some (.getfield 102, 3) ∧ zft (zinf 163).1 102 = some (10, 43, 3, true) ∧ 124 + 3 = 127 := by decide +kernel
theorem zi_163_127 : zraw 163 127 = some (.iload_n 1, 1) ∧ 127 + 1 = 128 := by decide +kernel
theorem zi_163_128 : zraw 163 128 = some (.baload, 1) ∧ 128 + 1 = 129 := by decide +kernel
theorem zi_163_129 : zraw 163 129 = some (.bastore, 1) ∧ 129 + 1 = 130 := by decide +kernel
theorem zi_163_130 : zraw 163 130 = some (.aload_n 0, 1) ∧ 130 + 1 = 131 := by decide +kernel
theorem zi_163_131 : zraw 163 131 = some (.getfield 63, 3) ∧ zft (zinf 163).1 63 = some (10, 27, 3, true) ∧ 131 + 3 = 134 := by decide +kernel
theorem zi_163_134 : zraw 163 134 = some (.iload_n 1, 1) ∧ 134 + 1 = 135 := by decide +kernel
theorem zi_163_135 : zraw 163 135 = some (.aload_n 0, 1) ∧ 135 + 1 = 136 := by decide +kernel
theorem zi_163_136 : zraw 163 136 = some (.getfield 105, 3) ∧ zft (zinf 163).1 105 = some (10, 44, 3, true) ∧ 136 + 3 = 139 := by decide +kernel
theorem zi_163_139 : zraw 163 139 = some (.iload_n 1, 1) ∧ 139 + 1 = 140 := by decide +kernel
theorem zi_163_140 : zraw 163 140 = some (.iaload, 1) ∧ 140 + 1 = 141 := by decide +kernel
theorem zi_163_141 : zraw 163 141 = some (.iastore, 1) ∧ 141 + 1 = 142 := by decide +kernel
theorem zi_163_142 : zraw 163 142 = some (.aload_n 0, 1) ∧ 142 + 1 = 143 := by decide +kernel
theorem zi_163_143 : zraw 163 143 = some (.getfield 66, 3) ∧ zft (zinf 163).1 66 = some (10, 28, 3, true) ∧ 143 + 3 = 146 := by decide +kernel
theorem zi_163_146 : zraw 163 146 = some (.iload_n 1, 1) ∧ 146 + 1 = 147 := by decide +kernel
theorem zi_163_147 : zraw 163 147 = some (.aload_n 0, 1) ∧ 147 + 1 = 148 := by decide +kernel
theorem zi_163_148 : zraw 163 148 = some (.getfield 108, 3) ∧ zft (zinf 163).1 108 = some (10, 45, 3, true) ∧ 148 + 3 = 151 := by decide +kernel
theorem zi_163_151 : zraw 163 151 = some (.iload_n 1, 1) ∧ 151 + 1 = 152 := by decide +kernel
theorem zi_163_152 : zraw 163 152 = some (.iaload, 1) ∧ 152 + 1 = 153 := by decide +kernel
theorem zi_163_153 : zraw 163 153 = some (.iastore, 1) ∧ 153 + 1 = 154 := by decide +kernel
theorem zi_163_154 : zraw 163 154 = some (.aload_n 0, 1) ∧ 154 + 1 = 155 := by decide +kernel
theorem zi_163_155 : zraw 163 155 = some (.getfield 69, 3) ∧ zft (zinf 163).1 69 = some (10, 29, 3, true) ∧ 155 + 3 = 158 := by decide +kernel
theorem zi_163_158 : zraw 163 158 = some (.iload_n 1, 1) ∧ 158 + 1 = 159 := by decide +kernel
theorem zi_163_159 : zraw 163 159 = some (.aload_n 0, 1) ∧ 159 + 1 = 160 := by decide +kernel
theorem zi_163_160 : zraw 163 160 = some (.getfield 111, 3) ∧ zft (zinf 163).1 111 = some (10, 46, 3, true) ∧ 160 + 3 = 163 := by decide +kernel
theorem zi_163_163 : zraw 163 163 = some (.iload_n 1, 1) ∧ 163 + 1 = 164 := by decide +kernel
theorem zi_163_164 : zraw 163 164 = some (.iaload, 1) ∧ 164 + 1 = 165 := by decide +kernel
theorem zi_163_165 : zraw 163 165 = some (.iastore, 1) ∧ 165 + 1 = 166 := by decide +kernel
theorem zi_163_166 : zraw 163 166 = some (.aload_n 0, 1) ∧ 166 + 1 = 167 := by decide +kernel
theorem zi_163_167 : zraw 163 167 = some (.getfield 72, 3) ∧ zft (zinf 163).1 72 = some (10, 30, 3, true) ∧ 167 + 3 = 170 := by decide +kernel
theorem zi_163_170 : zraw 163 170 = some (.iload_n 1, 1) ∧ 170 + 1 = 171 := by decide +kernel
theorem zi_163_171 : zraw 163 171 = some (.aload_n 0, 1) ∧ 171 + 1 = 172 := by decide +kernel
theorem zi_163_172 : zraw 163 172 = some (.getfield 114, 3) ∧ zft (zinf 163).1 114 = some (10, 47, 3, true) ∧ 172 + 3 = 175 := by decide +kernel
theorem zi_163_175 : zraw 163 175 = some (.iload_n 1, 1) ∧ 175 + 1 = 176 := by decide +kernel
theorem zi_163_176 : zraw 163 176 = some (.iaload, 1) ∧ 176 + 1 = 177 := by decide +kernel
theorem zi_163_177 : zraw 163 177 = some (.iastore, 1) ∧ 177 + 1 = 178 := by decide +kernel
theorem zi_163_178 : zraw 163 178 = some (.aload_n 0, 1) ∧ 178 + 1 = 179 := by decide +kernel
theorem zi_163_179 : zraw 163 179 = some (.getfield 50, 3) ∧ zft (zinf 163).1 50 = some (10, 23, 3, true) ∧ 179 + 3 = 182 := by decide +kernel
theorem zi_163_182 : zraw 163 182 = some (.iload_n 1, 1) ∧ 182 + 1 = 183 := by decide +kernel
theorem zi_163_183 : zraw 163 183 = some (.iaload, 1) ∧ 183 + 1 = 184 := by decide +kernel
theorem zi_163_184 : zraw 163 184 = some (.iconst (-1), 1) ∧ zin 128 (-1) = true ∧ 184 + 1 = 185 := by decide +kernel
theorem zi_163_185 : zraw 163 185 = some (.if_icmp .eq 15, 3) ∧ ((185 : Nat) : Int) + 15 = Int.ofNat 200 ∧ 185 + 3 = 188 := by decide +kernel
theorem zi_163_188 : zraw 163 188 = some (.aload_n 0, 1) ∧ 188 + 1 = 189 := by decide +kernel
theorem zi_163_189 : zraw 163 189 = some (.getfield 78, 3) ∧ zft (zinf 163).1 78 = some (10, 33, 3, true) ∧ 189 + 3 = 192 := by decide +kernel
theorem zi_163_192 : zraw 163 192 = some (.aload_n 0, 1) ∧ 192 + 1 = 193 := by decide +kernel
theorem zi_163_193 : zraw 163 193 = some (.getfield 50, 3) ∧ zft (zinf 163).1 50 = some (10, 23, 3, true) ∧ 193 + 3 = 196 := by decide +kernel
theorem zi_163_196 : zraw 163 196 = some (.iload_n 1, 1) ∧ 196 + 1 = 197 := by decide +kernel
theorem zi_163_197 : zraw 163 197 = some (.iaload, 1) ∧ 197 + 1 = 198 := by decide +kernel
theorem zi_163_198 : zraw 163 198 = some (.iload_n 1, 1) ∧ 198 + 1 = 199 := by decide +kernel
theorem zi_163_199 : zraw 163 199 = some (.iastore, 1) ∧ 199 + 1 = 200 := by decide +kernel
theorem zi_163_200 : zraw 163 200 = some (.iinc 1 1, 3) ∧ zin 32768 1 = true ∧ 200 + 3 = 203 := by decide +kernel
theorem zi_163_203 : zraw 163 203 = some (.goto (-177), 3) ∧ ((203 : Nat) : Int) + (-177) = Int.ofNat 26 := by decide +kernel
theorem zi_163_206 : zraw 163 206 = some (.iconst 0, 1) ∧ zin 128 0 = true ∧ 206 + 1 = 207 := by decide +kernel
theorem zi_163_207 : zraw 163 207 = some (.istore_n 1, 1) ∧ 207 + 1 = 208 := by decide +kernel
theorem zi_163_208 : zraw 163 208 = some (.iload_n 1, 1) ∧ 208 + 1 = 209 := by decide +kernel
theorem zi_163_209 : zraw 163 209 = some (.aload_n 0, 1) ∧ 209 + 1 = 210 := by decide +kernel
theorem zi_163_210 : zraw 163 210 = some (.getfield 309, 3) ∧ zft (zinf 163).1 309 = some (10, 32, 0, false) ∧ 210 + 3 = 213 := by decide +kernel
theorem zi_163_213 : zraw 163 213 = some (.if_icmp .ge 21, 3) ∧ ((213 : Nat) : Int) + 21 = Int.ofNat 234 ∧ 213 + 3 = 216 := by decide +kernel
theorem zi_163_216 : zraw 163 216 = some (.aload_n 0, 1) ∧ 216 + 1 = 217 := by decide +kernel
theorem zi_163_217 : zraw 163 217 = some (.getfield 75, 3) ∧ zft (zinf 163).1 75 = some (10, 31, 3, true) ∧ 217 + 3 = 220 := by decide +kernel
theorem zi_163_220 : zraw 163 220 = some (.iload_n 1, 1) ∧ 220 + 1 = 221 := by decide +kernel
theorem zi_163_221 : zraw 163 221 = some (.aload_n 0, 1) ∧ 221 + 1 = 222 := by decide +kernel
theorem zi_163_222 : zraw 163 222 = some (.getfield 117, 3) ∧ zft (zinf 163).1 117 = some (10, 48, 3, true) ∧ 222 + 3 = 225 := by decide +kernel
theorem zi_163_225 : zraw 163 225 = some (.iload_n 1, 1) ∧ 225 + 1 = 226 := by decide +kernel
theorem zi_163_226 : zraw 163 226 = some (.laload, 1) ∧ 226 + 1 = 227 := by decide +kernel
theorem zi_163_227 : zraw 163 227 = some (.lastore, 1) ∧ 227 + 1 = 228 := by decide +kernel
theorem zi_163_228 : zraw 163 228 = some (.iinc 1 1, 3) ∧ zin 32768 1 = true ∧ 228 + 3 = 231 := by decide +kernel
theorem zi_163_231 : zraw 163 231 = some (.goto (-23), 3) ∧ ((231 : Nat) : Int) + (-23) = Int.ofNat 208 := by decide +kernel
theorem zi_163_234 : zraw 163 234 = some (.return_, 1) ∧ (zinf 163).2.2.2.1 = 0 := by decide +kernel
theorem ze_163 {K : List zF} {σ : zW} : zEv true (zent 163 [.inr (.inr 122)] :: K) σ = (zEv true ((163, 26, [some (.inr (.inr 122)), some (.inl 0)], []) :: K) (sI (sI (sI σ 122 18 (gI σ 122 35)) 122 32 (gI σ 122 49)) 122 34 (gI σ 122 50))) :=
  yT_en (f := (163, 0, [some (.inr (.inr 122)), none], [])) rfl (yI_aload_n zi_163_0 rfl <| yI_aload_n zi_163_1 rfl <| yI_gf_i (v := gI σ 122 35) zi_163_2 zk_122 rfl <| yI_pf_i zi_163_5 zk_122 <| yI_aload_n zi_163_8 rfl <| yI_aload_n zi_163_9 rfl <| yI_gf_i (v := gI σ 122 49) zi_163_10 zk_122 (yGI_nj (by decide)) <| yI_pf_i zi_163_13 zk_122 <| yI_aload_n zi_163_16 rfl <| yI_aload_n zi_163_17 rfl <| yI_gf_i (v := gI σ 122 50) zi_163_18 zk_122 ((yGI_nj (by decide)).trans (yGI_nj (by decide))) <| yI_pf_i zi_163_21 zk_122 <| yI_iconst zi_163_24 <| yI_istore_n (l := [some (.inr (.inr 122)), some (.inl 0)]) zi_163_25 rfl rfl <| rfl)
theorem zj_163_26 {K : List zF} {σ : zW} {x1 : Int} : zEv true ((163, 26, [some (.inr (.inr 122)), some (.inl x1)], []) :: K) σ = (if (gI σ 122 18) ≤ x1 then zEv true ((163, 208, [some (.inr (.inr 122)), some (.inl 0)], []) :: K) σ else (0 ≤ x1 ∧ x1 < 8) ∧ ((0 ≤ x1 ∧ x1 < 8) ∧ ((0 ≤ x1 ∧ x1 < 8) ∧ ((0 ≤ x1 ∧ x1 < 8) ∧ ((0 ≤ x1 ∧ x1 < 8) ∧ ((0 ≤ x1 ∧ x1 < 8) ∧ ((0 ≤ x1 ∧ x1 < 8) ∧ ((0 ≤ x1 ∧ x1 < 8) ∧ ((0 ≤ x1 ∧ x1 < 8) ∧ ((0 ≤ x1 ∧ x1 < 8) ∧ ((0 ≤ x1 ∧ x1 < 8) ∧ ((0 ≤ x1 ∧ x1 < 8) ∧ ((0 ≤ x1 ∧ x1 < 8) ∧ ((0 ≤ x1 ∧ x1 < 8) ∧ ((0 ≤ x1 ∧ x1 < 8) ∧ (((0 ≤ x1 ∧ x1 < 8) ∧ ((gI σ 153 x1.toNat) = 0 ∨ (gI σ 153 x1.toNat) = 1)) ∧ ((0 ≤ x1 ∧ x1 < 8) ∧ ((0 ≤ x1 ∧ x1 < 8) ∧ ((0 ≤ x1 ∧ x1 < 8) ∧ ((0 ≤ x1 ∧ x1 < 8) ∧ ((0 ≤ x1 ∧ x1 < 8) ∧ ((0 ≤ x1 ∧ x1 < 8) ∧ ((0 ≤ x1 ∧ x1 < 8) ∧ ((0 ≤ x1 ∧ x1 < 8) ∧ ((0 ≤ x1 ∧ x1 < 8) ∧ (if (gI σ 150 x1.toNat) = (-1) then zEv true ((163, 26, [some (.inr (.inr 122)), some (.inl (w32 (x1 + 1)))], []) :: K) (sI (sI (sI (sI (sI (sI (sI (sI (sI (sI (sI (sI σ 132 x1.toNat (gI σ 146 x1.toNat)) 133 x1.toNat (gI σ 147 x1.toNat)) 134 x1.toNat (gI σ 148 x1.toNat)) 135 x1.toNat (gI σ 149 x1.toNat)) 136 x1.toNat (gI σ 150 x1.toNat)) 137 x1.toNat (gI σ 151 x1.toNat)) 138 x1.toNat (gI σ 152 x1.toNat)) 139 x1.toNat (gI σ 153 x1.toNat)) 140 x1.toNat (gI σ 154 x1.toNat)) 141 x1.toNat (gI σ 155 x1.toNat)) 142 x1.toNat (gI σ 156 x1.toNat)) 143 x1.toNat (gI σ 157 x1.toNat)) else (0 ≤ x1 ∧ x1 < 8) ∧ ((0 ≤ (gI σ 150 x1.toNat) ∧ (gI σ 150 x1.toNat) < 4) ∧ zEv true ((163, 26, [some (.inr (.inr 122)), some (.inl (w32 (x1 + 1)))], []) :: K) (sI (sI (sI (sI (sI (sI (sI (sI (sI (sI (sI (sI (sI σ 132 x1.toNat (gI σ 146 x1.toNat)) 133 x1.toNat (gI σ 147 x1.toNat)) 134 x1.toNat (gI σ 148 x1.toNat)) 135 x1.toNat (gI σ 149 x1.toNat)) 136 x1.toNat (gI σ 150 x1.toNat)) 137 x1.toNat (gI σ 151 x1.toNat)) 138 x1.toNat (gI σ 152 x1.toNat)) 139 x1.toNat (gI σ 153 x1.toNat)) 140 x1.toNat (gI σ 154 x1.toNat)) 141 x1.toNat (gI σ 155 x1.toNat)) 142 x1.toNat (gI σ 156 x1.toNat)) 143 x1.toNat (gI σ 157 x1.toNat)) 145 ((gI σ 150 x1.toNat).toNat) x1)))))))))))))))))))))))))))) :=
  yI_iload_n zi_163_26 rfl <| yI_aload_n zi_163_27 rfl <| yI_gf_i (v := gI σ 122 18) zi_163_28 zk_122 rfl <| yI_ic_ge zi_163_31 <| yBr (yI_iconst zi_163_206 <| yI_istore_n (l := [some (.inr (.inr 122)), some (.inl 0)]) zi_163_207 rfl rfl <| rfl) (yI_aload_n zi_163_34 rfl <| yI_gf_f (v := 132) zi_163_35 zk_122 rfl <| yI_iload_n zi_163_38 rfl <| yI_aload_n zi_163_39 rfl <| yI_gf_f (v := 146) zi_163_40 zk_122 rfl <| yI_iload_n zi_163_43 rfl <| yI_ialoadc (v := gI σ 146 x1.toNat) zi_163_44 za_146 rfl <| yI_iastorec zi_163_45 za_132 <| yI_aload_n zi_163_46 rfl <| yI_gf_f (v := 133) zi_163_47 zk_122 rfl <| yI_iload_n zi_163_50 rfl <| yI_aload_n zi_163_51 rfl <| yI_gf_f (v := 147) zi_163_52 zk_122 rfl <| yI_iload_n zi_163_55 rfl <| yI_ialoadc (v := gI σ 147 x1.toNat) zi_163_56 za_147 (yGI_nk (by decide)) <| yI_iastorec zi_163_57 za_133 <| yI_aload_n zi_163_58 rfl <| yI_gf_f (v := 134) zi_163_59 zk_122 rfl <| yI_iload_n zi_163_62 rfl <| yI_aload_n zi_163_63 rfl <| yI_gf_f (v := 148) zi_163_64 zk_122 rfl <| yI_iload_n zi_163_67 rfl <| yI_ialoadc (v := gI σ 148 x1.toNat) zi_163_68 za_148 ((yGI_nk (by decide)).trans (yGI_nk (by decide))) <| yI_iastorec zi_163_69 za_134 <| yI_aload_n zi_163_70 rfl <| yI_gf_f (v := 135) zi_163_71 zk_122 rfl <| yI_iload_n zi_163_74 rfl <| yI_aload_n zi_163_75 rfl <| yI_gf_f (v := 149) zi_163_76 zk_122 rfl <| yI_iload_n zi_163_79 rfl <| yI_ialoadc (v := gI σ 149 x1.toNat) zi_163_80 za_149 ((yGI_nk (by decide)).trans ((yGI_nk (by decide)).trans (yGI_nk (by decide)))) <| yI_iastorec zi_163_81 za_135 <| yI_aload_n zi_163_82 rfl <| yI_gf_f (v := 136) zi_163_83 zk_122 rfl <| yI_iload_n zi_163_86 rfl <| yI_aload_n zi_163_87 rfl <| yI_gf_f (v := 150) zi_163_88 zk_122 rfl <| yI_iload_n zi_163_91 rfl <| yI_ialoadc (v := gI σ 150 x1.toNat) zi_163_92 za_150 ((yGI_nk (by decide)).trans ((yGI_nk (by decide)).trans ((yGI_nk (by decide)).trans (yGI_nk (by decide))))) <| yI_iastorec zi_163_93 za_136 <| yI_aload_n zi_163_94 rfl <| yI_gf_f (v := 137) zi_163_95 zk_122 rfl <| yI_iload_n zi_163_98 rfl <| yI_aload_n zi_163_99 rfl <| yI_gf_f (v := 151) zi_163_100 zk_122 rfl <| yI_iload_n zi_163_103 rfl <| yI_ialoadc (v := gI σ 151 x1.toNat) zi_163_104 za_151 ((yGI_nk (by decide)).trans ((yGI_nk (by decide)).trans ((yGI_nk (by decide)).trans ((yGI_nk (by decide)).trans (yGI_nk (by decide)))))) <| yI_iastorec zi_163_105 za_137 <| yI_aload_n zi_163_106 rfl <| yI_gf_f (v := 138) zi_163_107 zk_122 rfl <| yI_iload_n zi_163_110 rfl <| yI_aload_n zi_163_111 rfl <| yI_gf_f (v := 152) zi_163_112 zk_122 rfl <| yI_iload_n zi_163_115 rfl <| yI_ialoadc (v := gI σ 152 x1.toNat) zi_163_116 za_152 ((yGI_nk (by decide)).trans ((yGI_nk (by decide)).trans ((yGI_nk (by decide)).trans ((yGI_nk (by decide)).trans ((yGI_nk (by decide)).trans (yGI_nk (by decide))))))) <| yI_iastorec zi_163_117 za_138 <| yI_aload_n zi_163_118 rfl <| yI_gf_f (v := 139) zi_163_119 zk_122 rfl <| yI_iload_n zi_163_122 rfl <| yI_aload_n zi_163_123 rfl <| yI_gf_f (v := 153) zi_163_124 zk_122 rfl <| yI_iload_n zi_163_127 rfl <| yI_baloadc (v := gI σ 153 x1.toNat) zi_163_128 za_153 ((yGI_nk (by decide)).trans ((yGI_nk (by decide)).trans ((yGI_nk (by decide)).trans ((yGI_nk (by decide)).trans ((yGI_nk (by decide)).trans ((yGI_nk (by decide)).trans (yGI_nk (by decide)))))))) <| yI_bastoreb zi_163_129 za_139 <| yI_aload_n zi_163_130 rfl <| yI_gf_f (v := 140) zi_163_131 zk_122 rfl <| yI_iload_n zi_163_134 rfl <| yI_aload_n zi_163_135 rfl <| yI_gf_f (v := 154) zi_163_136 zk_122 rfl <| yI_iload_n zi_163_139 rfl <| yI_ialoadc (v := gI σ 154 x1.toNat) zi_163_140 za_154 ((yGI_nk (by decide)).trans ((yGI_nk (by decide)).trans ((yGI_nk (by decide)).trans ((yGI_nk (by decide)).trans ((yGI_nk (by decide)).trans ((yGI_nk (by decide)).trans ((yGI_nk (by decide)).trans (yGI_nk (by decide))))))))) <| yI_iastorec zi_163_141 za_140 <| yI_aload_n zi_163_142 rfl <| yI_gf_f (v := 141) zi_163_143 zk_122 rfl <| yI_iload_n zi_163_146 rfl <| yI_aload_n zi_163_147 rfl <| yI_gf_f (v := 155) zi_163_148 zk_122 rfl <| yI_iload_n zi_163_151 rfl <| yI_ialoadc (v := gI σ 155 x1.toNat) zi_163_152 za_155 ((yGI_nk (by decide)).trans ((yGI_nk (by decide)).trans ((yGI_nk (by decide)).trans ((yGI_nk (by decide)).trans ((yGI_nk (by decide)).trans ((yGI_nk (by decide)).trans ((yGI_nk (by decide)).trans ((yGI_nk (by decide)).trans (yGI_nk (by decide)))))))))) <| yI_iastorec zi_163_153 za_141 <| yI_aload_n zi_163_154 rfl <| yI_gf_f (v := 142) zi_163_155 zk_122 rfl <| yI_iload_n zi_163_158 rfl <| yI_aload_n zi_163_159 rfl <| yI_gf_f (v := 156) zi_163_160 zk_122 rfl <| yI_iload_n zi_163_163 rfl <| yI_ialoadc (v := gI σ 156 x1.toNat) zi_163_164 za_156 ((yGI_nk (by decide)).trans ((yGI_nk (by decide)).trans ((yGI_nk (by decide)).trans ((yGI_nk (by decide)).trans ((yGI_nk (by decide)).trans ((yGI_nk (by decide)).trans ((yGI_nk (by decide)).trans ((yGI_nk (by decide)).trans ((yGI_nk (by decide)).trans (yGI_nk (by decide))))))))))) <| yI_iastorec zi_163_165 za_142 <| yI_aload_n zi_163_166 rfl <| yI_gf_f (v := 143) zi_163_167 zk_122 rfl <| yI_iload_n zi_163_170 rfl <| yI_aload_n zi_163_171 rfl <| yI_gf_f (v := 157) zi_163_172 zk_122 rfl <| yI_iload_n zi_163_175 rfl <| yI_ialoadc (v := gI σ 157 x1.toNat) zi_163_176 za_157 ((yGI_nk (by decide)).trans ((yGI_nk (by decide)).trans ((yGI_nk (by decide)).trans ((yGI_nk (by decide)).trans ((yGI_nk (by decide)).trans ((yGI_nk (by decide)).trans ((yGI_nk (by decide)).trans ((yGI_nk (by decide)).trans ((yGI_nk (by decide)).trans ((yGI_nk (by decide)).trans (yGI_nk (by decide)))))))))))) <| yI_iastorec zi_163_177 za_143 <| yI_aload_n zi_163_178 rfl <| yI_gf_f (v := 136) zi_163_179 zk_122 rfl <| yI_iload_n zi_163_182 rfl <| yI_ialoadc (v := gI σ 150 x1.toNat) zi_163_183 za_136 ((yGI_nk (by decide)).trans ((yGI_nk (by decide)).trans ((yGI_nk (by decide)).trans ((yGI_nk (by decide)).trans ((yGI_nk (by decide)).trans ((yGI_nk (by decide)).trans ((yGI_nk (by decide)).trans (yGI_hit)))))))) <| yI_iconst zi_163_184 <| yI_ic_eq zi_163_185 <| yBr (yI_iinc (l := [some (.inr (.inr 122)), some (.inl (w32 (x1 + 1)))]) zi_163_200 rfl rfl rfl <| yI_goto zi_163_203 <| rfl) (yI_aload_n zi_163_188 rfl <| yI_gf_f (v := 145) zi_163_189 zk_122 rfl <| yI_aload_n zi_163_192 rfl <| yI_gf_f (v := 136) zi_163_193 zk_122 rfl <| yI_iload_n zi_163_196 rfl <| yI_ialoadc (v := gI σ 150 x1.toNat) zi_163_197 za_136 ((yGI_nk (by decide)).trans ((yGI_nk (by decide)).trans ((yGI_nk (by decide)).trans ((yGI_nk (by decide)).trans ((yGI_nk (by decide)).trans ((yGI_nk (by decide)).trans ((yGI_nk (by decide)).trans (yGI_hit)))))))) <| yI_iload_n zi_163_198 rfl <| yI_iastorec zi_163_199 za_145 <| yI_iinc (l := [some (.inr (.inr 122)), some (.inl (w32 (x1 + 1)))]) zi_163_200 rfl rfl rfl <| yI_goto zi_163_203 <| rfl))
theorem zj_163_208 {K : List zF} {σ : zW} {x1 : Int} : zEv true ((163, 208, [some (.inr (.inr 122)), some (.inl x1)], []) :: K) σ = (if (gI σ 122 32) ≤ x1 then zRet true K none σ else (0 ≤ x1 ∧ x1 < 300) ∧ ((0 ≤ x1 ∧ x1 < 300) ∧ zEv true ((163, 208, [some (.inr (.inr 122)), some (.inl (w32 (x1 + 1)))], []) :: K) (sL σ 144 x1.toNat (gL σ 158 x1.toNat)))) :=
  yI_iload_n zi_163_208 rfl <| yI_aload_n zi_163_209 rfl <| yI_gf_i (v := gI σ 122 32) zi_163_210 zk_122 rfl <| yI_ic_ge zi_163_213 <| yBr (yI_ret zi_163_234) (yI_aload_n zi_163_216 rfl <| yI_gf_f (v := 144) zi_163_217 zk_122 rfl <| yI_iload_n zi_163_220 rfl <| yI_aload_n zi_163_221 rfl <| yI_gf_f (v := 158) zi_163_222 zk_122 rfl <| yI_iload_n zi_163_225 rfl <| yI_laloadc (v := gL σ 158 x1.toNat) zi_163_226 za_158 rfl <| yI_lastorec zi_163_227 za_144 <| yI_iinc (l := [some (.inr (.inr 122)), some (.inl (w32 (x1 + 1)))]) zi_163_228 rfl rfl rfl <| yI_goto zi_163_231 <| rfl)
/-- 164 TreegrabModel.isWord()Z -/
theorem zi_164_0 : zraw 164 0 = some (.aload_n 0, 1) ∧ 0 + 1 = 1 := by decide +kernel
theorem zi_164_1 : zraw 164 1 = some (.getfield 238, 3) ∧ zft (zinf 164).1 238 = some (10, 3, 2, false) ∧ 1 + 3 = 4 := by decide +kernel
theorem zi_164_4 : zraw 164 4 = some (.ldc2_w 315, 3) ∧ zlt (zinf 164).1 315 = some 111520460465522 ∧ 4 + 3 = 7 := by decide +kernel
theorem zi_164_7 : zraw 164 7 = some (.lcmp, 1) ∧ 7 + 1 = 8 := by decide +kernel
theorem zi_164_8 : zraw 164 8 = some (.ifCond .eq 58, 3) ∧ ((8 : Nat) : Int) + 58 = Int.ofNat 66 ∧ 8 + 3 = 11 := by decide +kernel
theorem zi_164_11 : zraw 164 11 = some (.aload_n 0, 1) ∧ 11 + 1 = 12 := by decide +kernel
theorem zi_164_12 : zraw 164 12 = some (.getfield 238, 3) ∧ zft (zinf 164).1 238 = some (10, 3, 2, false) ∧ 12 + 3 = 15 := by decide +kernel
theorem zi_164_15 : zraw 164 15 = some (.ldc2_w 317, 3) ∧ zlt (zinf 164).1 317 = some 111550592214372 ∧ 15 + 3 = 18 := by decide +kernel
theorem zi_164_18 : zraw 164 18 = some (.lcmp, 1) ∧ 18 + 1 = 19 := by decide +kernel
theorem zi_164_19 : zraw 164 19 = some (.ifCond .eq 47, 3) ∧ ((19 : Nat) : Int) + 47 = Int.ofNat 66 ∧ 19 + 3 = 22 := by decide +kernel
theorem zi_164_22 : zraw 164 22 = some (.aload_n 0, 1) ∧ 22 + 1 = 23 := by decide +kernel
theorem zi_164_23 : zraw 164 23 = some (.getfield 238, 3) ∧ zft (zinf 164).1 238 = some (10, 3, 2, false) ∧ 23 + 3 = 26 := by decide +kernel
theorem zi_164_26 : zraw 164 26 = some (.ldc2_w 319, 3) ∧ zlt (zinf 164).1 319 = some 111546363770981 ∧ 26 + 3 = 29 := by decide +kernel
theorem zi_164_29 : zraw 164 29 = some (.lcmp, 1) ∧ 29 + 1 = 30 := by decide +kernel
theorem zi_164_30 : zraw 164 30 = some (.ifCond .eq 36, 3) ∧ ((30 : Nat) : Int) + 36 = Int.ofNat 66 ∧ 30 + 3 = 33 := by decide +kernel
theorem zi_164_33 : zraw 164 33 = some (.aload_n 0, 1) ∧ 33 + 1 = 34 := by decide +kernel
theorem zi_164_34 : zraw 164 34 = some (.getfield 238, 3) ∧ zft (zinf 164).1 238 = some (10, 3, 2, false) ∧ 34 + 3 = 37 := by decide +kernel
theorem zi_164_37 : zraw 164 37 = some (.ldc2_w 321, 3) ∧ zlt (zinf 164).1 321 = some 1885434487 ∧ 37 + 3 = 40 := by decide +kernel
theorem zi_164_40 : zraw 164 40 = some (.lcmp, 1) ∧ 40 + 1 = 41 := by decide +kernel
theorem zi_164_41 : zraw 164 41 = some (.ifCond .eq 25, 3) ∧ ((41 : Nat) : Int) + 25 = Int.ofNat 66 ∧ 41 + 3 = 44 := by decide +kernel
theorem zi_164_44 : zraw 164 44 = some (.aload_n 0, 1) ∧ 44 + 1 = 45 := by decide +kernel
theorem zi_164_45 : zraw 164 45 = some (.getfield 238, 3) ∧ zft (zinf 164).1 238 = some (10, 3, 2, false) ∧ 45 + 3 = 48 := by decide +kernel
theorem zi_164_48 : zraw 164 48 = some (.ldc2_w 323, 3) ∧ zlt (zinf 164).1 323 = some 6579297 ∧ 48 + 3 = 51 := by decide +kernel
theorem zi_164_51 : zraw 164 51 = some (.lcmp, 1) ∧ 51 + 1 = 52 := by decide +kernel
theorem zi_164_52 : zraw 164 52 = some (.ifCond .eq 14, 3) ∧ ((52 : Nat) : Int) + 14 = Int.ofNat 66 ∧ 52 + 3 = 55 := by decide +kernel
theorem zi_164_55 : zraw 164 55 = some (.aload_n 0, 1) ∧ 55 + 1 = 56 := by decide +kernel
theorem zi_164_56 : zraw 164 56 = some (.getfield 238, 3) ∧ zft (zinf 164).1 238 = some (10, 3, 2, false) ∧ 56 + 3 = 59 := by decide +kernel
theorem zi_164_59 : zraw 164 59 = some (.ldc2_w 325, 3) ∧ zlt (zinf 164).1 325 = some 1702260589 ∧ 59 + 3 = 62 := by decide +kernel
theorem zi_164_62 : zraw 164 62 = some (.lcmp, 1) ∧ 62 + 1 = 63 := by decide +kernel
theorem zi_164_63 : zraw 164 63 = some (.ifCond .ne 7, 3) ∧ ((63 : Nat) : Int) + 7 = Int.ofNat 70 ∧ 63 + 3 = 66 := by decide +kernel
theorem zi_164_66 : zraw 164 66 = some (.iconst 1, 1) ∧ zin 128 1 = true ∧ 66 + 1 = 67 := by decide +kernel
theorem zi_164_67 : zraw 164 67 = some (.goto 4, 3) ∧ ((67 : Nat) : Int) + 4 = Int.ofNat 71 := by decide +kernel
theorem zi_164_70 : zraw 164 70 = some (.iconst 0, 1) ∧ zin 128 0 = true ∧ 70 + 1 = 71 := by decide +kernel
theorem zi_164_71 : zraw 164 71 = some (.ireturn, 1) ∧ (zinf 164).2.2.2.1 = 2 := by decide +kernel
theorem ze_164 {K : List zF} {σ : zW} : zEv true (zent 164 [.inr (.inr 122)] :: K) σ = (if (zlc (gL σ 122 3) 111520460465522) = 0 then zRet true K (some (.inl 1)) σ else if (zlc (gL σ 122 3) 111550592214372) = 0 then zRet true K (some (.inl 1)) σ else if (zlc (gL σ 122 3) 111546363770981) = 0 then zRet true K (some (.inl 1)) σ else if (zlc (gL σ 122 3) 1885434487) = 0 then zRet true K (some (.inl 1)) σ else if (zlc (gL σ 122 3) 6579297) = 0 then zRet true K (some (.inl 1)) σ else if ¬ (zlc (gL σ 122 3) 1702260589) = 0 then zRet true K (some (.inl 0)) σ else zRet true K (some (.inl 1)) σ) :=
  yT_en (f := (164, 0, [some (.inr (.inr 122))], [])) rfl (yI_aload_n zi_164_0 rfl <| yI_gf_l (v := gL σ 122 3) zi_164_1 zk_122 rfl <| yI_ldc2_w zi_164_4 <| yI_lcmp zi_164_7 <| yI_if_eq zi_164_8 <| yBr (yI_iconst zi_164_66 <| yI_goto zi_164_67 <| yI_zreturn zi_164_71 (by decide)) (yI_aload_n zi_164_11 rfl <| yI_gf_l (v := gL σ 122 3) zi_164_12 zk_122 rfl <| yI_ldc2_w zi_164_15 <| yI_lcmp zi_164_18 <| yI_if_eq zi_164_19 <| yBr (yI_iconst zi_164_66 <| yI_goto zi_164_67 <| yI_zreturn zi_164_71 (by decide)) (yI_aload_n zi_164_22 rfl <| yI_gf_l (v := gL σ 122 3) zi_164_23 zk_122 rfl <| yI_ldc2_w zi_164_26 <| yI_lcmp zi_164_29 <| yI_if_eq zi_164_30 <| yBr (yI_iconst zi_164_66 <| yI_goto zi_164_67 <| yI_zreturn zi_164_71 (by decide)) (yI_aload_n zi_164_33 rfl <| yI_gf_l (v := gL σ 122 3) zi_164_34 zk_122 rfl <| yI_ldc2_w zi_164_37 <| yI_lcmp zi_164_40 <| yI_if_eq zi_164_41 <| yBr (yI_iconst zi_164_66 <| yI_goto zi_164_67 <| yI_zreturn zi_164_71 (by decide)) (yI_aload_n zi_164_44 rfl <| yI_gf_l (v := gL σ 122 3) zi_164_45 zk_122 rfl <| yI_ldc2_w zi_164_48 <| yI_lcmp zi_164_51 <| yI_if_eq zi_164_52 <| yBr (yI_iconst zi_164_66 <| yI_goto zi_164_67 <| yI_zreturn zi_164_71 (by decide)) (yI_aload_n zi_164_55 rfl <| yI_gf_l (v := gL σ 122 3) zi_164_56 zk_122 rfl <| yI_ldc2_w zi_164_59 <| yI_lcmp zi_164_62 <| yI_if_ne zi_164_63 <| yBr (yI_iconst zi_164_70 <| yI_zreturn zi_164_71 (by decide)) (yI_iconst zi_164_66 <| yI_goto zi_164_67 <| yI_zreturn zi_164_71 (by decide))))))))
/-- 165 TreegrabModel.isOneLetter()Z -/
theorem zi_165_0 : zraw 165 0 = some (.aload_n 0, 1) ∧ 0 + 1 = 1 := by decide +kernel
theorem zi_165_1 : zraw 165 1 = some (.invokevirtual 232, 3) ∧ zmt (zinf 165).1 232 = some 145 ∧ Nat.ble 9000 145 = false ∧ zinf 145 = (10, 1, 1, 0, 0) ∧ 1 + 3 = 4 := by decide +kernel
theorem zi_165_4 : zraw 165 4 = some (.aload_n 0, 1) ∧ 4 + 1 = 5 := by decide +kernel
theorem zi_165_5 : zraw 165 5 = some (.invokevirtual 248, 3) ∧ zmt (zinf 165).1 248 = some 150 ∧ Nat.ble 9000 150 = false ∧ zinf 150 = (10, 1, 2, 2, 0) ∧ 5 + 3 = 8 := by decide +kernel
theorem zi_165_8 : zraw 165 8 = some (.ifCond .eq 26, 3) ∧ ((8 : Nat) : Int) + 26 = Int.ofNat 34 ∧ 8 + 3 = 11 := by decide +kernel
theorem zi_165_11 : zraw 165 11 = some (.aload_n 0, 1) ∧ 11 + 1 = 12 := by decide +kernel
theorem zi_165_12 : zraw 165 12 = some (.getfield 242, 3) ∧ zft (zinf 165).1 242 = some (10, 4, 0, false) ∧ 12 + 3 = 15 := by decide +kernel
theorem zi_165_15 : zraw 165 15 = some (.iconst 1, 1) ∧ zin 128 1 = true ∧ 15 + 1 = 16 := by decide +kernel
theorem zi_165_16 : zraw 165 16 = some (.if_icmp .ne 18, 3) ∧ ((16 : Nat) : Int) + 18 = Int.ofNat 34 ∧ 16 + 3 = 19 := by decide +kernel
theorem zi_165_19 : zraw 165 19 = some (.aload_n 0, 1) ∧ 19 + 1 = 20 := by decide +kernel
theorem zi_165_20 : zraw 165 20 = some (.getfield 238, 3) ∧ zft (zinf 165).1 238 = some (10, 3, 2, false) ∧ 20 + 3 = 23 := by decide +kernel
theorem zi_165_23 : zraw 165 23 = some (.l2i, 1) ∧ 23 + 1 = 24 := by decide +kernel
theorem zi_165_24 : zraw 165 24 = some (.invokestatic 222, 3) ∧ zmt (zinf 165).1 222 = some 146 ∧ Nat.ble 9000 146 = false ∧ zinf 146 = (10, 1, 1, 2, 1) ∧ 24 + 3 = 27 := by decide +kernel
theorem zi_165_27 : zraw 165 27 = some (.ifCond .eq 7, 3) ∧ ((27 : Nat) : Int) + 7 = Int.ofNat 34 ∧ 27 + 3 = 30 := by decide +kernel
theorem zi_165_30 : zraw 165 30 = some (.iconst 1, 1) ∧ zin 128 1 = true ∧ 30 + 1 = 31 := by decide +kernel
theorem zi_165_31 : zraw 165 31 = some (.goto 4, 3) ∧ ((31 : Nat) : Int) + 4 = Int.ofNat 35 := by decide +kernel
theorem zi_165_34 : zraw 165 34 = some (.iconst 0, 1) ∧ zin 128 0 = true ∧ 34 + 1 = 35 := by decide +kernel
theorem zi_165_35 : zraw 165 35 = some (.istore_n 1, 1) ∧ 35 + 1 = 36 := by decide +kernel
theorem zi_165_36 : zraw 165 36 = some (.iload_n 1, 1) ∧ 36 + 1 = 37 := by decide +kernel
theorem zi_165_37 : zraw 165 37 = some (.ifCond .ne 15, 3) ∧ ((37 : Nat) : Int) + 15 = Int.ofNat 52 ∧ 37 + 3 = 40 := by decide +kernel
theorem zi_165_40 : zraw 165 40 = some (.aload_n 0, 1) ∧ 40 + 1 = 41 := by decide +kernel
theorem zi_165_41 : zraw 165 41 = some (.iconst 1, 1) ∧ zin 128 1 = true ∧ 41 + 1 = 42 := by decide +kernel
theorem zi_165_42 : zraw 165 42 = some (.aload_n 0, 1) ∧ 42 + 1 = 43 := by decide +kernel
theorem zi_165_43 : zraw 165 43 = some (.getfield 235, 3) ∧ zft (zinf 165).1 235 = some (10, 5, 0, false) ∧ 43 + 3 = 46 := by decide +kernel
theorem zi_165_46 : zraw 165 46 = some (.invokevirtual 252, 3) ∧ zmt (zinf 165).1 252 = some 148 ∧ Nat.ble 9000 148 = false ∧ zinf 148 = (10, 3, 3, 2, 0) ∧ 46 + 3 = 49 := by decide +kernel
theorem zi_165_49 : zraw 165 49 = some (.ifCond .eq 7, 3) ∧ ((49 : Nat) : Int) + 7 = Int.ofNat 56 ∧ 49 + 3 = 52 := by decide +kernel
theorem zi_165_52 : zraw 165 52 = some (.iconst 1, 1) ∧ zin 128 1 = true ∧ 52 + 1 = 53 := by decide +kernel
theorem zi_165_53 : zraw 165 53 = some (.goto 4, 3) ∧ ((53 : Nat) : Int) + 4 = Int.ofNat 57 := by decide +kernel
theorem zi_165_56 : zraw 165 56 = some (.iconst 0, 1) ∧ zin 128 0 = true ∧ 56 + 1 = 57 := by decide +kernel
theorem zi_165_57 : zraw 165 57 = some (.ireturn, 1) ∧ (zinf 165).2.2.2.1 = 2 := by decide +kernel
theorem ze_165 {K : List zF} {σ : zW} (hK : K.length < 60) : zEv true (zent 165 [.inr (.inr 122)] :: K) σ = (zEv true (zent 145 [.inr (.inr 122)] :: (165, 4, [some (.inr (.inr 122)), none], []) :: K) σ) :=
  yT_en (f := (165, 0, [some (.inr (.inr 122)), none], [])) rfl (yI_aload_n zi_165_0 rfl <| yI_cv zi_165_1 rfl rfl zk_122 hK)
theorem zr_165_4 {K : List zF} {σ : zW} {o1 : Option zV} (hK : K.length < 60) : zRet true ((165, 4, [some (.inr (.inr 122)), o1], []) :: K) none σ = (zEv true (zent 150 [.inr (.inr 122)] :: (165, 8, [some (.inr (.inr 122)), o1], []) :: K) σ) :=
  yT_rv (yI_aload_n zi_165_4 rfl <| yI_cv zi_165_5 rfl rfl zk_122 hK)
theorem zr_165_8 {K : List zF} {σ : zW} {o1 : Option zV} {v : Int} (hK : K.length < 60) : zRet true ((165, 8, [some (.inr (.inr 122)), o1], []) :: K) (some (.inl v)) σ = (if v = 0 then zEv true ((165, 34, [some (.inr (.inr 122)), o1], []) :: K) σ else if ¬ (gI σ 122 4) = 1 then zEv true ((165, 34, [some (.inr (.inr 122)), o1], []) :: K) σ else zEv true (zent 146 [.inl (zl2i (gL σ 122 3))] :: (165, 27, [some (.inr (.inr 122)), o1], []) :: K) σ) :=
  yT_rt (yI_if_eq zi_165_8 <| yBr (rfl) (yI_aload_n zi_165_11 rfl <| yI_gf_i (v := gI σ 122 4) zi_165_12 zk_122 rfl <| yI_iconst zi_165_15 <| yI_ic_ne zi_165_16 <| yBr (rfl) (yI_aload_n zi_165_19 rfl <| yI_gf_l (v := gL σ 122 3) zi_165_20 zk_122 rfl <| yI_l2i zi_165_23 <| yI_cs zi_165_24 rfl rfl hK)))
theorem zj_165_34 {K : List zF} {σ : zW} {o1 : Option zV} (hK : K.length < 60) : zEv true ((165, 34, [some (.inr (.inr 122)), o1], []) :: K) σ = (if ¬ (0 : Int) = 0 then zRet true K (some (.inl 1)) σ else zEv true (zent 148 [.inr (.inr 122), .inl 1, .inl (gI σ 122 5)] :: (165, 49, [some (.inr (.inr 122)), some (.inl 0)], []) :: K) σ) :=
  yI_iconst zi_165_34 <| yI_istore_n (l := [some (.inr (.inr 122)), some (.inl 0)]) zi_165_35 rfl rfl <| yI_iload_n zi_165_36 rfl <| yI_if_ne zi_165_37 <| yBr (yI_iconst zi_165_52 <| yI_goto zi_165_53 <| yI_zreturn zi_165_57 (by decide)) (yI_aload_n zi_165_40 rfl <| yI_iconst zi_165_41 <| yI_aload_n zi_165_42 rfl <| yI_gf_i (v := gI σ 122 5) zi_165_43 zk_122 rfl <| yI_cv zi_165_46 rfl rfl zk_122 hK)
theorem zr_165_27 {K : List zF} {σ : zW} {o1 : Option zV} {v : Int} (hK : K.length < 60) : zRet true ((165, 27, [some (.inr (.inr 122)), o1], []) :: K) (some (.inl v)) σ = (if v = 0 then zEv true ((165, 34, [some (.inr (.inr 122)), o1], []) :: K) σ else if ¬ (1 : Int) = 0 then zRet true K (some (.inl 1)) σ else zEv true (zent 148 [.inr (.inr 122), .inl 1, .inl (gI σ 122 5)] :: (165, 49, [some (.inr (.inr 122)), some (.inl 1)], []) :: K) σ) :=
  yT_rt (yI_if_eq zi_165_27 <| yBr (rfl) (yI_iconst zi_165_30 <| yI_goto zi_165_31 <| yI_istore_n (l := [some (.inr (.inr 122)), some (.inl 1)]) zi_165_35 rfl rfl <| yI_iload_n zi_165_36 rfl <| yI_if_ne zi_165_37 <| yBr (yI_iconst zi_165_52 <| yI_goto zi_165_53 <| yI_zreturn zi_165_57 (by decide)) (yI_aload_n zi_165_40 rfl <| yI_iconst zi_165_41 <| yI_aload_n zi_165_42 rfl <| yI_gf_i (v := gI σ 122 5) zi_165_43 zk_122 rfl <| yI_cv zi_165_46 rfl rfl zk_122 hK)))
theorem zr_165_49 {K : List zF} {σ : zW} {o0 : Option zV} {o1 : Option zV} {v : Int} : zRet true ((165, 49, [o0, o1], []) :: K) (some (.inl v)) σ = (if v = 0 then zRet true K (some (.inl 0)) σ else zRet true K (some (.inl 1)) σ) :=
  yT_rt (yI_if_eq zi_165_49 <| yBr (yI_iconst zi_165_56 <| yI_zreturn zi_165_57 (by decide)) (yI_iconst zi_165_52 <| yI_goto zi_165_53 <| yI_zreturn zi_165_57 (by decide)))
/-- 166 TreegrabModel.isWhere()Z -/
theorem zi_166_0 : zraw 166 0 = some (.aload_n 0, 1) ∧ 0 + 1 = 1 := by decide +kernel
theorem zi_166_1 : zraw 166 1 = some (.invokevirtual 232, 3) ∧ zmt (zinf 166).1 232 = some 145 ∧ Nat.ble 9000 145 = false ∧ zinf 145 = (10, 1, 1, 0, 0) ∧ 1 + 3 = 4 := by decide +kernel
theorem zi_166_4 : zraw 166 4 = some (.aload_n 0, 1) ∧ 4 + 1 = 5 := by decide +kernel
theorem zi_166_5 : zraw 166 5 = some (.invokevirtual 248, 3) ∧ zmt (zinf 166).1 248 = some 150 ∧ Nat.ble 9000 150 = false ∧ zinf 150 = (10, 1, 2, 2, 0) ∧ 5 + 3 = 8 := by decide +kernel
theorem zi_166_8 : zraw 166 8 = some (.ifCond .eq 60, 3) ∧ ((8 : Nat) : Int) + 60 = Int.ofNat 68 ∧ 8 + 3 = 11 := by decide +kernel
theorem zi_166_11 : zraw 166 11 = some (.aload_n 0, 1) ∧ 11 + 1 = 12 := by decide +kernel
theorem zi_166_12 : zraw 166 12 = some (.getfield 242, 3) ∧ zft (zinf 166).1 242 = some (10, 4, 0, false) ∧ 12 + 3 = 15 := by decide +kernel
theorem zi_166_15 : zraw 166 15 = some (.bipush 6, 2) ∧ zin 128 6 = true ∧ 15 + 2 = 17 := by decide +kernel
theorem zi_166_17 : zraw 166 17 = some (.if_icmp .gt 51, 3) ∧ ((17 : Nat) : Int) + 51 = Int.ofNat 68 ∧ 17 + 3 = 20 := by decide +kernel
theorem zi_166_20 : zraw 166 20 = some (.aload_n 0, 1) ∧ 20 + 1 = 21 := by decide +kernel
theorem zi_166_21 : zraw 166 21 = some (.getfield 238, 3) ∧ zft (zinf 166).1 238 = some (10, 3, 2, false) ∧ 21 + 3 = 24 := by decide +kernel
theorem zi_166_24 : zraw 166 24 = some (.ldc2_w 327, 3) ∧ zlt (zinf 166).1 327 = some 500153084262 ∧ 24 + 3 = 27 := by decide +kernel
theorem zi_166_27 : zraw 166 27 = some (.lcmp, 1) ∧ 27 + 1 = 28 := by decide +kernel
theorem zi_166_28 : zraw 166 28 = some (.ifCond .eq 36, 3) ∧ ((28 : Nat) : Int) + 36 = Int.ofNat 64 ∧ 28 + 3 = 31 := by decide +kernel
theorem zi_166_31 : zraw 166 31 = some (.aload_n 0, 1) ∧ 31 + 1 = 32 := by decide +kernel
theorem zi_166_32 : zraw 166 32 = some (.getfield 238, 3) ∧ zft (zinf 166).1 238 = some (10, 3, 2, false) ∧ 32 + 3 = 35 := by decide +kernel
theorem zi_166_35 : zraw 166 35 = some (.ldc2_w 329, 3) ∧ zlt (zinf 166).1 329 = some 1953718636 ∧ 35 + 3 = 38 := by decide +kernel
theorem zi_166_38 : zraw 166 38 = some (.lcmp, 1) ∧ 38 + 1 = 39 := by decide +kernel
theorem zi_166_39 : zraw 166 39 = some (.ifCond .eq 25, 3) ∧ ((39 : Nat) : Int) + 25 = Int.ofNat 64 ∧ 39 + 3 = 42 := by decide +kernel
theorem zi_166_42 : zraw 166 42 = some (.aload_n 0, 1) ∧ 42 + 1 = 43 := by decide +kernel
theorem zi_166_43 : zraw 166 43 = some (.getfield 238, 3) ∧ zft (zinf 166).1 238 = some (10, 3, 2, false) ∧ 43 + 3 = 46 := by decide +kernel
theorem zi_166_46 : zraw 166 46 = some (.ldc2_w 331, 3) ∧ zlt (zinf 166).1 331 = some 111542169658722 ∧ 46 + 3 = 49 := by decide +kernel
theorem zi_166_49 : zraw 166 49 = some (.lcmp, 1) ∧ 49 + 1 = 50 := by decide +kernel
theorem zi_166_50 : zraw 166 50 = some (.ifCond .eq 14, 3) ∧ ((50 : Nat) : Int) + 14 = Int.ofNat 64 ∧ 50 + 3 = 53 := by decide +kernel
theorem zi_166_53 : zraw 166 53 = some (.aload_n 0, 1) ∧ 53 + 1 = 54 := by decide +kernel
theorem zi_166_54 : zraw 166 54 = some (.getfield 238, 3) ∧ zft (zinf 166).1 238 = some (10, 3, 2, false) ∧ 54 + 3 = 57 := by decide +kernel
theorem zi_166_57 : zraw 166 57 = some (.ldc2_w 333, 3) ∧ zlt (zinf 166).1 333 = some 491328398945 ∧ 57 + 3 = 60 := by decide +kernel
theorem zi_166_60 : zraw 166 60 = some (.lcmp, 1) ∧ 60 + 1 = 61 := by decide +kernel
theorem zi_166_61 : zraw 166 61 = some (.ifCond .ne 7, 3) ∧ ((61 : Nat) : Int) + 7 = Int.ofNat 68 ∧ 61 + 3 = 64 := by decide +kernel
theorem zi_166_64 : zraw 166 64 = some (.iconst 1, 1) ∧ zin 128 1 = true ∧ 64 + 1 = 65 := by decide +kernel
theorem zi_166_65 : zraw 166 65 = some (.goto 4, 3) ∧ ((65 : Nat) : Int) + 4 = Int.ofNat 69 := by decide +kernel
theorem zi_166_68 : zraw 166 68 = some (.iconst 0, 1) ∧ zin 128 0 = true ∧ 68 + 1 = 69 := by decide +kernel
theorem zi_166_69 : zraw 166 69 = some (.istore_n 1, 1) ∧ 69 + 1 = 70 := by decide +kernel
theorem zi_166_70 : zraw 166 70 = some (.iload_n 1, 1) ∧ 70 + 1 = 71 := by decide +kernel
theorem zi_166_71 : zraw 166 71 = some (.ifCond .ne 15, 3) ∧ ((71 : Nat) : Int) + 15 = Int.ofNat 86 ∧ 71 + 3 = 74 := by decide +kernel
theorem zi_166_74 : zraw 166 74 = some (.aload_n 0, 1) ∧ 74 + 1 = 75 := by decide +kernel
theorem zi_166_75 : zraw 166 75 = some (.iconst 1, 1) ∧ zin 128 1 = true ∧ 75 + 1 = 76 := by decide +kernel
theorem zi_166_76 : zraw 166 76 = some (.aload_n 0, 1) ∧ 76 + 1 = 77 := by decide +kernel
theorem zi_166_77 : zraw 166 77 = some (.getfield 235, 3) ∧ zft (zinf 166).1 235 = some (10, 5, 0, false) ∧ 77 + 3 = 80 := by decide +kernel
theorem zi_166_80 : zraw 166 80 = some (.invokevirtual 252, 3) ∧ zmt (zinf 166).1 252 = some 148 ∧ Nat.ble 9000 148 = false ∧ zinf 148 = (10, 3, 3, 2, 0) ∧ 80 + 3 = 83 := by decide +kernel
theorem zi_166_83 : zraw 166 83 = some (.ifCond .eq 7, 3) ∧ ((83 : Nat) : Int) + 7 = Int.ofNat 90 ∧ 83 + 3 = 86 := by decide +kernel
theorem zi_166_86 : zraw 166 86 = some (.iconst 1, 1) ∧ zin 128 1 = true ∧ 86 + 1 = 87 := by decide +kernel
theorem zi_166_87 : zraw 166 87 = some (.goto 4, 3) ∧ ((87 : Nat) : Int) + 4 = Int.ofNat 91 := by decide +kernel
theorem zi_166_90 : zraw 166 90 = some (.iconst 0, 1) ∧ zin 128 0 = true ∧ 90 + 1 = 91 := by decide +kernel
theorem zi_166_91 : zraw 166 91 = some (.ireturn, 1) ∧ (zinf 166).2.2.2.1 = 2 := by decide +kernel
theorem ze_166 {K : List zF} {σ : zW} (hK : K.length < 60) : zEv true (zent 166 [.inr (.inr 122)] :: K) σ = (zEv true (zent 145 [.inr (.inr 122)] :: (166, 4, [some (.inr (.inr 122)), none], []) :: K) σ) :=
  yT_en (f := (166, 0, [some (.inr (.inr 122)), none], [])) rfl (yI_aload_n zi_166_0 rfl <| yI_cv zi_166_1 rfl rfl zk_122 hK)
theorem zr_166_4 {K : List zF} {σ : zW} {o1 : Option zV} (hK : K.length < 60) : zRet true ((166, 4, [some (.inr (.inr 122)), o1], []) :: K) none σ = (zEv true (zent 150 [.inr (.inr 122)] :: (166, 8, [some (.inr (.inr 122)), o1], []) :: K) σ) :=
  yT_rv (yI_aload_n zi_166_4 rfl <| yI_cv zi_166_5 rfl rfl zk_122 hK)
theorem zr_166_8 {K : List zF} {σ : zW} {o1 : Option zV} {v : Int} (hK : K.length < 60) : zRet true ((166, 8, [some (.inr (.inr 122)), o1], []) :: K) (some (.inl v)) σ = (if v = 0 then zEv true ((166, 68, [some (.inr (.inr 122)), o1], []) :: K) σ else if 6 < (gI σ 122 4) then zEv true ((166, 68, [some (.inr (.inr 122)), o1], []) :: K) σ else if (zlc (gL σ 122 3) 500153084262) = 0 then if ¬ (1 : Int) = 0 then zRet true K (some (.inl 1)) σ else zEv true (zent 148 [.inr (.inr 122), .inl 1, .inl (gI σ 122 5)] :: (166, 83, [some (.inr (.inr 122)), some (.inl 1)], []) :: K) σ else if (zlc (gL σ 122 3) 1953718636) = 0 then if ¬ (1 : Int) = 0 then zRet true K (some (.inl 1)) σ else zEv true (zent 148 [.inr (.inr 122), .inl 1, .inl (gI σ 122 5)] :: (166, 83, [some (.inr (.inr 122)), some (.inl 1)], []) :: K) σ else if (zlc (gL σ 122 3) 111542169658722) = 0 then if ¬ (1 : Int) = 0 then zRet true K (some (.inl 1)) σ else zEv true (zent 148 [.inr (.inr 122), .inl 1, .inl (gI σ 122 5)] :: (166, 83, [some (.inr (.inr 122)), some (.inl 1)], []) :: K) σ else if ¬ (zlc (gL σ 122 3) 491328398945) = 0 then zEv true ((166, 68, [some (.inr (.inr 122)), o1], []) :: K) σ else if ¬ (1 : Int) = 0 then zRet true K (some (.inl 1)) σ else zEv true (zent 148 [.inr (.inr 122), .inl 1, .inl (gI σ 122 5)] :: (166, 83, [some (.inr (.inr 122)), some (.inl 1)], []) :: K) σ) :=
  yT_rt (yI_if_eq zi_166_8 <| yBr (rfl) (yI_aload_n zi_166_11 rfl <| yI_gf_i (v := gI σ 122 4) zi_166_12 zk_122 rfl <| yI_bipush zi_166_15 <| yI_ic_gt zi_166_17 <| yBr (rfl) (yI_aload_n zi_166_20 rfl <| yI_gf_l (v := gL σ 122 3) zi_166_21 zk_122 rfl <| yI_ldc2_w zi_166_24 <| yI_lcmp zi_166_27 <| yI_if_eq zi_166_28 <| yBr (yI_iconst zi_166_64 <| yI_goto zi_166_65 <| yI_istore_n (l := [some (.inr (.inr 122)), some (.inl 1)]) zi_166_69 rfl rfl <| yI_iload_n zi_166_70 rfl <| yI_if_ne zi_166_71 <| yBr (yI_iconst zi_166_86 <| yI_goto zi_166_87 <| yI_zreturn zi_166_91 (by decide)) (yI_aload_n zi_166_74 rfl <| yI_iconst zi_166_75 <| yI_aload_n zi_166_76 rfl <| yI_gf_i (v := gI σ 122 5) zi_166_77 zk_122 rfl <| yI_cv zi_166_80 rfl rfl zk_122 hK)) (yI_aload_n zi_166_31 rfl <| yI_gf_l (v := gL σ 122 3) zi_166_32 zk_122 rfl <| yI_ldc2_w zi_166_35 <| yI_lcmp zi_166_38 <| yI_if_eq zi_166_39 <| yBr (yI_iconst zi_166_64 <| yI_goto zi_166_65 <| yI_istore_n (l := [some (.inr (.inr 122)), some (.inl 1)]) zi_166_69 rfl rfl <| yI_iload_n zi_166_70 rfl <| yI_if_ne zi_166_71 <| yBr (yI_iconst zi_166_86 <| yI_goto zi_166_87 <| yI_zreturn zi_166_91 (by decide)) (yI_aload_n zi_166_74 rfl <| yI_iconst zi_166_75 <| yI_aload_n zi_166_76 rfl <| yI_gf_i (v := gI σ 122 5) zi_166_77 zk_122 rfl <| yI_cv zi_166_80 rfl rfl zk_122 hK)) (yI_aload_n zi_166_42 rfl <| yI_gf_l (v := gL σ 122 3) zi_166_43 zk_122 rfl <| yI_ldc2_w zi_166_46 <| yI_lcmp zi_166_49 <| yI_if_eq zi_166_50 <| yBr (yI_iconst zi_166_64 <| yI_goto zi_166_65 <| yI_istore_n (l := [some (.inr (.inr 122)), some (.inl 1)]) zi_166_69 rfl rfl <| yI_iload_n zi_166_70 rfl <| yI_if_ne zi_166_71 <| yBr (yI_iconst zi_166_86 <| yI_goto zi_166_87 <| yI_zreturn zi_166_91 (by decide)) (yI_aload_n zi_166_74 rfl <| yI_iconst zi_166_75 <| yI_aload_n zi_166_76 rfl <| yI_gf_i (v := gI σ 122 5) zi_166_77 zk_122 rfl <| yI_cv zi_166_80 rfl rfl zk_122 hK)) (yI_aload_n zi_166_53 rfl <| yI_gf_l (v := gL σ 122 3) zi_166_54 zk_122 rfl <| yI_ldc2_w zi_166_57 <| yI_lcmp zi_166_60 <| yI_if_ne zi_166_61 <| yBr (rfl) (yI_iconst zi_166_64 <| yI_goto zi_166_65 <| yI_istore_n (l := [some (.inr (.inr 122)), some (.inl 1)]) zi_166_69 rfl rfl <| yI_iload_n zi_166_70 rfl <| yI_if_ne zi_166_71 <| yBr (yI_iconst zi_166_86 <| yI_goto zi_166_87 <| yI_zreturn zi_166_91 (by decide)) (yI_aload_n zi_166_74 rfl <| yI_iconst zi_166_75 <| yI_aload_n zi_166_76 rfl <| yI_gf_i (v := gI σ 122 5) zi_166_77 zk_122 rfl <| yI_cv zi_166_80 rfl rfl zk_122 hK))))))))
theorem zj_166_68 {K : List zF} {σ : zW} {o1 : Option zV} (hK : K.length < 60) : zEv true ((166, 68, [some (.inr (.inr 122)), o1], []) :: K) σ = (if ¬ (0 : Int) = 0 then zRet true K (some (.inl 1)) σ else zEv true (zent 148 [.inr (.inr 122), .inl 1, .inl (gI σ 122 5)] :: (166, 83, [some (.inr (.inr 122)), some (.inl 0)], []) :: K) σ) :=
  yI_iconst zi_166_68 <| yI_istore_n (l := [some (.inr (.inr 122)), some (.inl 0)]) zi_166_69 rfl rfl <| yI_iload_n zi_166_70 rfl <| yI_if_ne zi_166_71 <| yBr (yI_iconst zi_166_86 <| yI_goto zi_166_87 <| yI_zreturn zi_166_91 (by decide)) (yI_aload_n zi_166_74 rfl <| yI_iconst zi_166_75 <| yI_aload_n zi_166_76 rfl <| yI_gf_i (v := gI σ 122 5) zi_166_77 zk_122 rfl <| yI_cv zi_166_80 rfl rfl zk_122 hK)
theorem zr_166_83 {K : List zF} {σ : zW} {o0 : Option zV} {o1 : Option zV} {v : Int} : zRet true ((166, 83, [o0, o1], []) :: K) (some (.inl v)) σ = (if v = 0 then zRet true K (some (.inl 0)) σ else zRet true K (some (.inl 1)) σ) :=
  yT_rt (yI_if_eq zi_166_83 <| yBr (yI_iconst zi_166_90 <| yI_zreturn zi_166_91 (by decide)) (yI_iconst zi_166_86 <| yI_goto zi_166_87 <| yI_zreturn zi_166_91 (by decide)))
/-- 167 TreegrabModel.isEdit()Z -/
theorem zi_167_0 : zraw 167 0 = some (.aload_n 0, 1) ∧ 0 + 1 = 1 := by decide +kernel
theorem zi_167_1 : zraw 167 1 = some (.invokevirtual 232, 3) ∧ zmt (zinf 167).1 232 = some 145 ∧ Nat.ble 9000 145 = false ∧ zinf 145 = (10, 1, 1, 0, 0) ∧ 1 + 3 = 4 := by decide +kernel
theorem zi_167_4 : zraw 167 4 = some (.aload_n 0, 1) ∧ 4 + 1 = 5 := by decide +kernel
theorem zi_167_5 : zraw 167 5 = some (.invokevirtual 248, 3) ∧ zmt (zinf 167).1 248 = some 150 ∧ Nat.ble 9000 150 = false ∧ zinf 150 = (10, 1, 2, 2, 0) ∧ 5 + 3 = 8 := by decide +kernel
theorem zi_167_8 : zraw 167 8 = some (.ifCond .eq 19, 3) ∧ ((8 : Nat) : Int) + 19 = Int.ofNat 27 ∧ 8 + 3 = 11 := by decide +kernel
theorem zi_167_11 : zraw 167 11 = some (.aload_n 0, 1) ∧ 11 + 1 = 12 := by decide +kernel
theorem zi_167_12 : zraw 167 12 = some (.getfield 242, 3) ∧ zft (zinf 167).1 242 = some (10, 4, 0, false) ∧ 12 + 3 = 15 := by decide +kernel
theorem zi_167_15 : zraw 167 15 = some (.bipush 6, 2) ∧ zin 128 6 = true ∧ 15 + 2 = 17 := by decide +kernel
theorem zi_167_17 : zraw 167 17 = some (.if_icmp .gt 10, 3) ∧ ((17 : Nat) : Int) + 10 = Int.ofNat 27 ∧ 17 + 3 = 20 := by decide +kernel
theorem zi_167_20 : zraw 167 20 = some (.aload_n 0, 1) ∧ 20 + 1 = 21 := by decide +kernel
theorem zi_167_21 : zraw 167 21 = some (.invokevirtual 335, 3) ∧ zmt (zinf 167).1 335 = some 164 ∧ Nat.ble 9000 164 = false ∧ zinf 164 = (10, 1, 1, 2, 0) ∧ 21 + 3 = 24 := by decide +kernel
theorem zi_167_24 : zraw 167 24 = some (.ifCond .ne 13, 3) ∧ ((24 : Nat) : Int) + 13 = Int.ofNat 37 ∧ 24 + 3 = 27 := by decide +kernel
theorem zi_167_27 : zraw 167 27 = some (.aload_n 0, 1) ∧ 27 + 1 = 28 := by decide +kernel
theorem zi_167_28 : zraw 167 28 = some (.iconst 1, 1) ∧ zin 128 1 = true ∧ 28 + 1 = 29 := by decide +kernel
theorem zi_167_29 : zraw 167 29 = some (.aload_n 0, 1) ∧ 29 + 1 = 30 := by decide +kernel
theorem zi_167_30 : zraw 167 30 = some (.getfield 235, 3) ∧ zft (zinf 167).1 235 = some (10, 5, 0, false) ∧ 30 + 3 = 33 := by decide +kernel
theorem zi_167_33 : zraw 167 33 = some (.invokevirtual 252, 3) ∧ zmt (zinf 167).1 252 = some 148 ∧ Nat.ble 9000 148 = false ∧ zinf 148 = (10, 3, 3, 2, 0) ∧ 33 + 3 = 36 := by decide +kernel
theorem zi_167_36 : zraw 167 36 = some (.ireturn, 1) ∧ (zinf 167).2.2.2.1 = 2 := by decide +kernel
theorem zi_167_37 : zraw 167 37 = some (.aload_n 0, 1) ∧ 37 + 1 = 38 := by decide +kernel
theorem zi_167_38 : zraw 167 38 = some (.getfield 338, 3) ∧ zft (zinf 167).1 338 = some (10, 58, 0, false) ∧ 38 + 3 = 41 := by decide +kernel
theorem zi_167_41 : zraw 167 41 = some (.bipush 8, 2) ∧ zin 128 8 = true ∧ 41 + 2 = 43 := by decide +kernel
theorem zi_167_43 : zraw 167 43 = some (.if_icmp .ne 13, 3) ∧ ((43 : Nat) : Int) + 13 = Int.ofNat 56 ∧ 43 + 3 = 46 := by decide +kernel
theorem zi_167_46 : zraw 167 46 = some (.aload_n 0, 1) ∧ 46 + 1 = 47 := by decide +kernel
theorem zi_167_47 : zraw 167 47 = some (.iconst 3, 1) ∧ zin 128 3 = true ∧ 47 + 1 = 48 := by decide +kernel
theorem zi_167_48 : zraw 167 48 = some (.aload_n 0, 1) ∧ 48 + 1 = 49 := by decide +kernel
theorem zi_167_49 : zraw 167 49 = some (.getfield 235, 3) ∧ zft (zinf 167).1 235 = some (10, 5, 0, false) ∧ 49 + 3 = 52 := by decide +kernel
theorem zi_167_52 : zraw 167 52 = some (.invokevirtual 252, 3) ∧ zmt (zinf 167).1 252 = some 148 ∧ Nat.ble 9000 148 = false ∧ zinf 148 = (10, 3, 3, 2, 0) ∧ 52 + 3 = 55 := by decide +kernel
theorem zi_167_55 : zraw 167 55 = some (.ireturn, 1) ∧ (zinf 167).2.2.2.1 = 2 := by decide +kernel
theorem zi_167_56 : zraw 167 56 = some (.aload_n 0, 1) ∧ 56 + 1 = 57 := by decide +kernel
theorem zi_167_57 : zraw 167 57 = some (.getfield 238, 3) ∧ zft (zinf 167).1 238 = some (10, 3, 2, false) ∧ 57 + 3 = 60 := by decide +kernel
theorem zi_167_60 : zraw 167 60 = some (.lstore_n 1, 1) ∧ 60 + 1 = 61 := by decide +kernel
theorem zi_167_61 : zraw 167 61 = some (.aload_n 0, 1) ∧ 61 + 1 = 62 := by decide +kernel
theorem zi_167_62 : zraw 167 62 = some (.getfield 138, 3) ∧ zft (zinf 167).1 138 = some (10, 59, 3, true) ∧ 62 + 3 = 65 := by decide +kernel
theorem zi_167_65 : zraw 167 65 = some (.aload_n 0, 1) ∧ 65 + 1 = 66 := by decide +kernel
theorem zi_167_66 : zraw 167 66 = some (.getfield 338, 3) ∧ zft (zinf 167).1 338 = some (10, 58, 0, false) ∧ 66 + 3 = 69 := by decide +kernel
theorem zi_167_69 : zraw 167 69 = some (.lload_n 1, 1) ∧ 69 + 1 = 70 := by decide +kernel
theorem zi_167_70 : zraw 167 70 = some (.lastore, 1) ∧ 70 + 1 = 71 := by decide +kernel
theorem zi_167_71 : zraw 167 71 = some (.aload_n 0, 1) ∧ 71 + 1 = 72 := by decide +kernel
theorem zi_167_72 : zraw 167 72 = some (.getfield 141, 3) ∧ zft (zinf 167).1 141 = some (10, 60, 3, true) ∧ 72 + 3 = 75 := by decide +kernel
theorem zi_167_75 : zraw 167 75 = some (.aload_n 0, 1) ∧ 75 + 1 = 76 := by decide +kernel
theorem zi_167_76 : zraw 167 76 = some (.getfield 338, 3) ∧ zft (zinf 167).1 338 = some (10, 58, 0, false) ∧ 76 + 3 = 79 := by decide +kernel
theorem zi_167_79 : zraw 167 79 = some (.iconst 0, 1) ∧ zin 128 0 = true ∧ 79 + 1 = 80 := by decide +kernel
theorem zi_167_80 : zraw 167 80 = some (.iastore, 1) ∧ 80 + 1 = 81 := by decide +kernel
theorem zi_167_81 : zraw 167 81 = some (.aload_n 0, 1) ∧ 81 + 1 = 82 := by decide +kernel
theorem zi_167_82 : zraw 167 82 = some (.getfield 144, 3) ∧ zft (zinf 167).1 144 = some (10, 61, 3, true) ∧ 82 + 3 = 85 := by decide +kernel
theorem zi_167_85 : zraw 167 85 = some (.aload_n 0, 1) ∧ 85 + 1 = 86 := by decide +kernel
theorem zi_167_86 : zraw 167 86 = some (.getfield 338, 3) ∧ zft (zinf 167).1 338 = some (10, 58, 0, false) ∧ 86 + 3 = 89 := by decide +kernel
theorem zi_167_89 : zraw 167 89 = some (.iconst 0, 1) ∧ zin 128 0 = true ∧ 89 + 1 = 90 := by decide +kernel
theorem zi_167_90 : zraw 167 90 = some (.iastore, 1) ∧ 90 + 1 = 91 := by decide +kernel
theorem zi_167_91 : zraw 167 91 = some (.lload_n 1, 1) ∧ 91 + 1 = 92 := by decide +kernel
theorem zi_167_92 : zraw 167 92 = some (.ldc2_w 323, 3) ∧ zlt (zinf 167).1 323 = some 6579297 ∧ 92 + 3 = 95 := by decide +kernel
theorem zi_167_95 : zraw 167 95 = some (.lcmp, 1) ∧ 95 + 1 = 96 := by decide +kernel
theorem zi_167_96 : zraw 167 96 = some (.ifCond .eq 26, 3) ∧ ((96 : Nat) : Int) + 26 = Int.ofNat 122 ∧ 96 + 3 = 99 := by decide +kernel
theorem zi_167_99 : zraw 167 99 = some (.aload_n 0, 1) ∧ 99 + 1 = 100 := by decide +kernel
theorem zi_167_100 : zraw 167 100 = some (.invokevirtual 341, 3) ∧ zmt (zinf 167).1 341 = some 165 ∧ Nat.ble 9000 165 = false ∧ zinf 165 = (10, 1, 2, 2, 0) ∧ 100 + 3 = 103 := by decide +kernel
theorem zi_167_103 : zraw 167 103 = some (.ifCond .ne 5, 3) ∧ ((103 : Nat) : Int) + 5 = Int.ofNat 108 ∧ 103 + 3 = 106 := by decide +kernel
theorem zi_167_106 : zraw 167 106 = some (.iconst 0, 1) ∧ zin 128 0 = true ∧ 106 + 1 = 107 := by decide +kernel
theorem zi_167_107 : zraw 167 107 = some (.ireturn, 1) ∧ (zinf 167).2.2.2.1 = 2 := by decide +kernel
theorem zi_167_108 : zraw 167 108 = some (.aload_n 0, 1) ∧ 108 + 1 = 109 := by decide +kernel
theorem zi_167_109 : zraw 167 109 = some (.getfield 141, 3) ∧ zft (zinf 167).1 141 = some (10, 60, 3, true) ∧ 109 + 3 = 112 := by decide +kernel
theorem zi_167_112 : zraw 167 112 = some (.aload_n 0, 1) ∧ 112 + 1 = 113 := by decide +kernel
theorem zi_167_113 : zraw 167 113 = some (.getfield 338, 3) ∧ zft (zinf 167).1 338 = some (10, 58, 0, false) ∧ 113 + 3 = 116 := by decide +kernel
theorem zi_167_116 : zraw 167 116 = some (.aload_n 0, 1) ∧ 116 + 1 = 117 := by decide +kernel
theorem zi_167_117 : zraw 167 117 = some (.getfield 238, 3) ∧ zft (zinf 167).1 238 = some (10, 3, 2, false) ∧ 117 + 3 = 120 := by decide +kernel
theorem zi_167_120 : zraw 167 120 = some (.l2i, 1) ∧ 120 + 1 = 121 := by decide +kernel
theorem zi_167_121 : zraw 167 121 = some (.iastore, 1) ∧ 121 + 1 = 122 := by decide +kernel
theorem zi_167_122 : zraw 167 122 = some (.lload_n 1, 1) ∧ 122 + 1 = 123 := by decide +kernel
theorem zi_167_123 : zraw 167 123 = some (.ldc2_w 315, 3) ∧ zlt (zinf 167).1 315 = some 111520460465522 ∧ 123 + 3 = 126 := by decide +kernel
theorem zi_167_126 : zraw 167 126 = some (.lcmp, 1) ∧ 126 + 1 = 127 := by decide +kernel
theorem zi_167_127 : zraw 167 127 = some (.ifCond .eq 19, 3) ∧ ((127 : Nat) : Int) + 19 = Int.ofNat 146 ∧ 127 + 3 = 130 := by decide +kernel
theorem zi_167_130 : zraw 167 130 = some (.lload_n 1, 1) ∧ 130 + 1 = 131 := by decide +kernel
theorem zi_167_131 : zraw 167 131 = some (.ldc2_w 321, 3) ∧ zlt (zinf 167).1 321 = some 1885434487 ∧ 131 + 3 = 134 := by decide +kernel
theorem zi_167_134 : zraw 167 134 = some (.lcmp, 1) ∧ 134 + 1 = 135 := by decide +kernel
theorem zi_167_135 : zraw 167 135 = some (.ifCond .eq 11, 3) ∧ ((135 : Nat) : Int) + 11 = Int.ofNat 146 ∧ 135 + 3 = 138 := by decide +kernel
theorem zi_167_138 : zraw 167 138 = some (.lload_n 1, 1) ∧ 138 + 1 = 139 := by decide +kernel
theorem zi_167_139 : zraw 167 139 = some (.ldc2_w 323, 3) ∧ zlt (zinf 167).1 323 = some 6579297 ∧ 139 + 3 = 142 := by decide +kernel
theorem zi_167_142 : zraw 167 142 = some (.lcmp, 1) ∧ 142 + 1 = 143 := by decide +kernel
theorem zi_167_143 : zraw 167 143 = some (.ifCond .ne 25, 3) ∧ ((143 : Nat) : Int) + 25 = Int.ofNat 168 ∧ 143 + 3 = 146 := by decide +kernel
theorem zi_167_146 : zraw 167 146 = some (.aload_n 0, 1) ∧ 146 + 1 = 147 := by decide +kernel
theorem zi_167_147 : zraw 167 147 = some (.invokevirtual 262, 3) ∧ zmt (zinf 167).1 262 = some 151 ∧ Nat.ble 9000 151 = false ∧ zinf 151 = (10, 1, 1, 2, 0) ∧ 147 + 3 = 150 := by decide +kernel
theorem zi_167_150 : zraw 167 150 = some (.ifCond .ne 5, 3) ∧ ((150 : Nat) : Int) + 5 = Int.ofNat 155 ∧ 150 + 3 = 153 := by decide +kernel
theorem zi_167_153 : zraw 167 153 = some (.iconst 0, 1) ∧ zin 128 0 = true ∧ 153 + 1 = 154 := by decide +kernel
theorem zi_167_154 : zraw 167 154 = some (.ireturn, 1) ∧ (zinf 167).2.2.2.1 = 2 := by decide +kernel
theorem zi_167_155 : zraw 167 155 = some (.aload_n 0, 1) ∧ 155 + 1 = 156 := by decide +kernel
theorem zi_167_156 : zraw 167 156 = some (.getfield 147, 3) ∧ zft (zinf 167).1 147 = some (10, 62, 3, true) ∧ 156 + 3 = 159 := by decide +kernel
theorem zi_167_159 : zraw 167 159 = some (.aload_n 0, 1) ∧ 159 + 1 = 160 := by decide +kernel
theorem zi_167_160 : zraw 167 160 = some (.getfield 338, 3) ∧ zft (zinf 167).1 338 = some (10, 58, 0, false) ∧ 160 + 3 = 163 := by decide +kernel
theorem zi_167_163 : zraw 167 163 = some (.aload_n 0, 1) ∧ 163 + 1 = 164 := by decide +kernel
theorem zi_167_164 : zraw 167 164 = some (.getfield 238, 3) ∧ zft (zinf 167).1 238 = some (10, 3, 2, false) ∧ 164 + 3 = 167 := by decide +kernel
theorem zi_167_167 : zraw 167 167 = some (.lastore, 1) ∧ 167 + 1 = 168 := by decide +kernel
theorem zi_167_168 : zraw 167 168 = some (.lload_n 1, 1) ∧ 168 + 1 = 169 := by decide +kernel
theorem zi_167_169 : zraw 167 169 = some (.ldc2_w 323, 3) ∧ zlt (zinf 167).1 323 = some 6579297 ∧ 169 + 3 = 172 := by decide +kernel
theorem zi_167_172 : zraw 167 172 = some (.lcmp, 1) ∧ 172 + 1 = 173 := by decide +kernel
theorem zi_167_173 : zraw 167 173 = some (.ifCond .eq 11, 3) ∧ ((173 : Nat) : Int) + 11 = Int.ofNat 184 ∧ 173 + 3 = 176 := by decide +kernel
theorem zi_167_176 : zraw 167 176 = some (.lload_n 1, 1) ∧ 176 + 1 = 177 := by decide +kernel
theorem zi_167_177 : zraw 167 177 = some (.ldc2_w 325, 3) ∧ zlt (zinf 167).1 325 = some 1702260589 ∧ 177 + 3 = 180 := by decide +kernel
theorem zi_167_180 : zraw 167 180 = some (.lcmp, 1) ∧ 180 + 1 = 181 := by decide +kernel
theorem zi_167_181 : zraw 167 181 = some (.ifCond .ne 48, 3) ∧ ((181 : Nat) : Int) + 48 = Int.ofNat 229 ∧ 181 + 3 = 184 := by decide +kernel
theorem zi_167_184 : zraw 167 184 = some (.aload_n 0, 1) ∧ 184 + 1 = 185 := by decide +kernel
theorem zi_167_185 : zraw 167 185 = some (.invokevirtual 344, 3) ∧ zmt (zinf 167).1 344 = some 166 ∧ Nat.ble 9000 166 = false ∧ zinf 166 = (10, 1, 2, 2, 0) ∧ 185 + 3 = 188 := by decide +kernel
theorem zi_167_188 : zraw 167 188 = some (.ifCond .ne 5, 3) ∧ ((188 : Nat) : Int) + 5 = Int.ofNat 193 ∧ 188 + 3 = 191 := by decide +kernel
theorem zi_167_191 : zraw 167 191 = some (.iconst 0, 1) ∧ zin 128 0 = true ∧ 191 + 1 = 192 := by decide +kernel
theorem zi_167_192 : zraw 167 192 = some (.ireturn, 1) ∧ (zinf 167).2.2.2.1 = 2 := by decide +kernel
theorem zi_167_193 : zraw 167 193 = some (.aload_n 0, 1) ∧ 193 + 1 = 194 := by decide +kernel
theorem zi_167_194 : zraw 167 194 = some (.getfield 150, 3) ∧ zft (zinf 167).1 150 = some (10, 63, 3, true) ∧ 194 + 3 = 197 := by decide +kernel
theorem zi_167_197 : zraw 167 197 = some (.aload_n 0, 1) ∧ 197 + 1 = 198 := by decide +kernel
theorem zi_167_198 : zraw 167 198 = some (.getfield 338, 3) ∧ zft (zinf 167).1 338 = some (10, 58, 0, false) ∧ 198 + 3 = 201 := by decide +kernel
theorem zi_167_201 : zraw 167 201 = some (.aload_n 0, 1) ∧ 201 + 1 = 202 := by decide +kernel
theorem zi_167_202 : zraw 167 202 = some (.getfield 238, 3) ∧ zft (zinf 167).1 238 = some (10, 3, 2, false) ∧ 202 + 3 = 205 := by decide +kernel
theorem zi_167_205 : zraw 167 205 = some (.lastore, 1) ∧ 205 + 1 = 206 := by decide +kernel
theorem zi_167_206 : zraw 167 206 = some (.aload_n 0, 1) ∧ 206 + 1 = 207 := by decide +kernel
theorem zi_167_207 : zraw 167 207 = some (.invokevirtual 341, 3) ∧ zmt (zinf 167).1 341 = some 165 ∧ Nat.ble 9000 165 = false ∧ zinf 165 = (10, 1, 2, 2, 0) ∧ 207 + 3 = 210 := by decide +kernel
theorem zi_167_210 : zraw 167 210 = some (.ifCond .ne 5, 3) ∧ ((210 : Nat) : Int) + 5 = Int.ofNat 215 ∧ 210 + 3 = 213 := by decide +kernel
theorem zi_167_213 : zraw 167 213 = some (.iconst 0, 1) ∧ zin 128 0 = true ∧ 213 + 1 = 214 := by decide +kernel
theorem zi_167_214 : zraw 167 214 = some (.ireturn, 1) ∧ (zinf 167).2.2.2.1 = 2 := by decide +kernel
theorem zi_167_215 : zraw 167 215 = some (.aload_n 0, 1) ∧ 215 + 1 = 216 := by decide +kernel
theorem zi_167_216 : zraw 167 216 = some (.getfield 144, 3) ∧ zft (zinf 167).1 144 = some (10, 61, 3, true) ∧ 216 + 3 = 219 := by decide +kernel
theorem zi_167_219 : zraw 167 219 = some (.aload_n 0, 1) ∧ 219 + 1 = 220 := by decide +kernel
theorem zi_167_220 : zraw 167 220 = some (.getfield 338, 3) ∧ zft (zinf 167).1 338 = some (10, 58, 0, false) ∧ 220 + 3 = 223 := by decide +kernel
theorem zi_167_223 : zraw 167 223 = some (.aload_n 0, 1) ∧ 223 + 1 = 224 := by decide +kernel
theorem zi_167_224 : zraw 167 224 = some (.getfield 238, 3) ∧ zft (zinf 167).1 238 = some (10, 3, 2, false) ∧ 224 + 3 = 227 := by decide +kernel
theorem zi_167_227 : zraw 167 227 = some (.l2i, 1) ∧ 227 + 1 = 228 := by decide +kernel
theorem zi_167_228 : zraw 167 228 = some (.iastore, 1) ∧ 228 + 1 = 229 := by decide +kernel
theorem zi_167_229 : zraw 167 229 = some (.aload_n 0, 1) ∧ 229 + 1 = 230 := by decide +kernel
theorem zi_167_230 : zraw 167 230 = some (.dup, 1) ∧ 230 + 1 = 231 := by decide +kernel
theorem zi_167_231 : zraw 167 231 = some (.getfield 338, 3) ∧ zft (zinf 167).1 338 = some (10, 58, 0, false) ∧ 231 + 3 = 234 := by decide +kernel
theorem zi_167_234 : zraw 167 234 = some (.iconst 1, 1) ∧ zin 128 1 = true ∧ 234 + 1 = 235 := by decide +kernel
theorem zi_167_235 : zraw 167 235 = some (.iadd, 1) ∧ 235 + 1 = 236 := by decide +kernel
theorem zi_167_236 : zraw 167 236 = some (.putfield 338, 3) ∧ zft (zinf 167).1 338 = some (10, 58, 0, false) ∧ 236 + 3 = 239 := by decide +kernel
theorem zi_167_239 : zraw 167 239 = some (.iconst 1, 1) ∧ zin 128 1 = true ∧ 239 + 1 = 240 := by decide +kernel
theorem zi_167_240 : zraw 167 240 = some (.ireturn, 1) ∧ (zinf 167).2.2.2.1 = 2 := by decide +kernel
theorem ze_167 {K : List zF} {σ : zW} (hK : K.length < 60) : zEv true (zent 167 [.inr (.inr 122)] :: K) σ = (zEv true (zent 145 [.inr (.inr 122)] :: (167, 4, [some (.inr (.inr 122)), none, none], []) :: K) σ) :=
  yT_en (f := (167, 0, [some (.inr (.inr 122)), none, none], [])) rfl (yI_aload_n zi_167_0 rfl <| yI_cv zi_167_1 rfl rfl zk_122 hK)
theorem zr_167_4 {K : List zF} {σ : zW} {o1 : Option zV} {o2 : Option zV} (hK : K.length < 60) : zRet true ((167, 4, [some (.inr (.inr 122)), o1, o2], []) :: K) none σ = (zEv true (zent 150 [.inr (.inr 122)] :: (167, 8, [some (.inr (.inr 122)), o1, o2], []) :: K) σ) :=
  yT_rv (yI_aload_n zi_167_4 rfl <| yI_cv zi_167_5 rfl rfl zk_122 hK)
theorem zr_167_8 {K : List zF} {σ : zW} {o1 : Option zV} {o2 : Option zV} {v : Int} (hK : K.length < 60) : zRet true ((167, 8, [some (.inr (.inr 122)), o1, o2], []) :: K) (some (.inl v)) σ = (if v = 0 then zEv true ((167, 27, [some (.inr (.inr 122)), o1, o2], []) :: K) σ else if 6 < (gI σ 122 4) then zEv true ((167, 27, [some (.inr (.inr 122)), o1, o2], []) :: K) σ else zEv true (zent 164 [.inr (.inr 122)] :: (167, 24, [some (.inr (.inr 122)), o1, o2], []) :: K) σ) :=
  yT_rt (yI_if_eq zi_167_8 <| yBr (rfl) (yI_aload_n zi_167_11 rfl <| yI_gf_i (v := gI σ 122 4) zi_167_12 zk_122 rfl <| yI_bipush zi_167_15 <| yI_ic_gt zi_167_17 <| yBr (rfl) (yI_aload_n zi_167_20 rfl <| yI_cv zi_167_21 rfl rfl zk_122 hK)))
theorem zj_167_27 {K : List zF} {σ : zW} {o1 : Option zV} {o2 : Option zV} (hK : K.length < 60) : zEv true ((167, 27, [some (.inr (.inr 122)), o1, o2], []) :: K) σ = (zEv true (zent 148 [.inr (.inr 122), .inl 1, .inl (gI σ 122 5)] :: (167, 36, [some (.inr (.inr 122)), o1, o2], []) :: K) σ) :=
  yI_aload_n zi_167_27 rfl <| yI_iconst zi_167_28 <| yI_aload_n zi_167_29 rfl <| yI_gf_i (v := gI σ 122 5) zi_167_30 zk_122 rfl <| yI_cv zi_167_33 rfl rfl zk_122 hK
theorem zr_167_24 {K : List zF} {σ : zW} {o1 : Option zV} {o2 : Option zV} {v : Int} (hK : K.length < 60) : zRet true ((167, 24, [some (.inr (.inr 122)), o1, o2], []) :: K) (some (.inl v)) σ = (if ¬ v = 0 then if ¬ (gI σ 122 58) = 8 then (0 ≤ (gI σ 122 58) ∧ (gI σ 122 58) < 8) ∧ ((0 ≤ (gI σ 122 58) ∧ (gI σ 122 58) < 8) ∧ ((0 ≤ (gI σ 122 58) ∧ (gI σ 122 58) < 8) ∧ (if (zlc (gL σ 122 3) 6579297) = 0 then zEv true ((167, 122, [some (.inr (.inr 122)), some (.inr (.inl (gL σ 122 3))), none], []) :: K) (sI (sI (sL σ 165 ((gI σ 122 58).toNat) (gL σ 122 3)) 166 ((gI σ 122 58).toNat) 0) 167 ((gI σ 122 58).toNat) 0) else zEv true (zent 165 [.inr (.inr 122)] :: (167, 103, [some (.inr (.inr 122)), some (.inr (.inl (gL σ 122 3))), none], []) :: K) (sI (sI (sL σ 165 ((gI σ 122 58).toNat) (gL σ 122 3)) 166 ((gI σ 122 58).toNat) 0) 167 ((gI σ 122 58).toNat) 0)))) else zEv true (zent 148 [.inr (.inr 122), .inl 3, .inl (gI σ 122 5)] :: (167, 55, [some (.inr (.inr 122)), o1, o2], []) :: K) σ else zEv true ((167, 27, [some (.inr (.inr 122)), o1, o2], []) :: K) σ) :=
  yT_rt (yI_if_ne zi_167_24 <| yBr (yI_aload_n zi_167_37 rfl <| yI_gf_i (v := gI σ 122 58) zi_167_38 zk_122 rfl <| yI_bipush zi_167_41 <| yI_ic_ne zi_167_43 <| yBr (yI_aload_n zi_167_56 rfl <| yI_gf_l (v := gL σ 122 3) zi_167_57 zk_122 rfl <| yI_lstore_n (l := [some (.inr (.inr 122)), some (.inr (.inl (gL σ 122 3))), none]) zi_167_60 rfl rfl <| yI_aload_n zi_167_61 rfl <| yI_gf_f (v := 165) zi_167_62 zk_122 rfl <| yI_aload_n zi_167_65 rfl <| yI_gf_i (v := gI σ 122 58) zi_167_66 zk_122 rfl <| yI_lload_n zi_167_69 rfl <| yI_lastorec zi_167_70 za_165 <| yI_aload_n zi_167_71 rfl <| yI_gf_f (v := 166) zi_167_72 zk_122 rfl <| yI_aload_n zi_167_75 rfl <| yI_gf_i (v := gI σ 122 58) zi_167_76 zk_122 rfl <| yI_iconst zi_167_79 <| yI_iastorec zi_167_80 za_166 <| yI_aload_n zi_167_81 rfl <| yI_gf_f (v := 167) zi_167_82 zk_122 rfl <| yI_aload_n zi_167_85 rfl <| yI_gf_i (v := gI σ 122 58) zi_167_86 zk_122 ((yGI_nk (by decide)).trans (gI_sL _ _ _ _ _ _)) <| yI_iconst zi_167_89 <| yI_iastorec zi_167_90 za_167 <| yI_lload_n zi_167_91 rfl <| yI_ldc2_w zi_167_92 <| yI_lcmp zi_167_95 <| yI_if_eq zi_167_96 <| yBr (rfl) (yI_aload_n zi_167_99 rfl <| yI_cv zi_167_100 rfl rfl zk_122 hK)) (yI_aload_n zi_167_46 rfl <| yI_iconst zi_167_47 <| yI_aload_n zi_167_48 rfl <| yI_gf_i (v := gI σ 122 5) zi_167_49 zk_122 rfl <| yI_cv zi_167_52 rfl rfl zk_122 hK)) (rfl))
theorem zr_167_36 {K : List zF} {σ : zW} {o0 : Option zV} {o1 : Option zV} {o2 : Option zV} {v : Int} : zRet true ((167, 36, [o0, o1, o2], []) :: K) (some (.inl v)) σ = ((v = 0 ∨ v = 1) ∧ zRet true K (some (.inl v)) σ) :=
  yT_rt (yI_zreturnc zi_167_36)
theorem zj_167_122 {K : List zF} {σ : zW} {x1 : Int64} : zEv true ((167, 122, [some (.inr (.inr 122)), some (.inr (.inl x1)), none], []) :: K) σ = (if (zlc x1 111520460465522) = 0 then zEv true ((167, 146, [some (.inr (.inr 122)), some (.inr (.inl x1)), none], []) :: K) σ else if (zlc x1 1885434487) = 0 then zEv true ((167, 146, [some (.inr (.inr 122)), some (.inr (.inl x1)), none], []) :: K) σ else if ¬ (zlc x1 6579297) = 0 then zEv true ((167, 168, [some (.inr (.inr 122)), some (.inr (.inl x1)), none], []) :: K) σ else zEv true ((167, 146, [some (.inr (.inr 122)), some (.inr (.inl x1)), none], []) :: K) σ) :=
  yI_lload_n zi_167_122 rfl <| yI_ldc2_w zi_167_123 <| yI_lcmp zi_167_126 <| yI_if_eq zi_167_127 <| yBr (rfl) (yI_lload_n zi_167_130 rfl <| yI_ldc2_w zi_167_131 <| yI_lcmp zi_167_134 <| yI_if_eq zi_167_135 <| yBr (rfl) (yI_lload_n zi_167_138 rfl <| yI_ldc2_w zi_167_139 <| yI_lcmp zi_167_142 <| yI_if_ne zi_167_143 <| yBr (rfl) (rfl)))
theorem zr_167_103 {K : List zF} {σ : zW} {x1 : Int64} {v : Int} : zRet true ((167, 103, [some (.inr (.inr 122)), some (.inr (.inl x1)), none], []) :: K) (some (.inl v)) σ = (if ¬ v = 0 then (0 ≤ (gI σ 122 58) ∧ (gI σ 122 58) < 8) ∧ zEv true ((167, 122, [some (.inr (.inr 122)), some (.inr (.inl x1)), none], []) :: K) (sI σ 166 ((gI σ 122 58).toNat) (zl2i (gL σ 122 3))) else zRet true K (some (.inl 0)) σ) :=
  yT_rt (yI_if_ne zi_167_103 <| yBr (yI_aload_n zi_167_108 rfl <| yI_gf_f (v := 166) zi_167_109 zk_122 rfl <| yI_aload_n zi_167_112 rfl <| yI_gf_i (v := gI σ 122 58) zi_167_113 zk_122 rfl <| yI_aload_n zi_167_116 rfl <| yI_gf_l (v := gL σ 122 3) zi_167_117 zk_122 rfl <| yI_l2i zi_167_120 <| yI_iastorec zi_167_121 za_166 <| rfl) (yI_iconst zi_167_106 <| yI_zreturn zi_167_107 (by decide)))
theorem zr_167_55 {K : List zF} {σ : zW} {o0 : Option zV} {o1 : Option zV} {o2 : Option zV} {v : Int} : zRet true ((167, 55, [o0, o1, o2], []) :: K) (some (.inl v)) σ = ((v = 0 ∨ v = 1) ∧ zRet true K (some (.inl v)) σ) :=
  yT_rt (yI_zreturnc zi_167_55)
theorem zj_167_146 {K : List zF} {σ : zW} {x1 : Int64} (hK : K.length < 60) : zEv true ((167, 146, [some (.inr (.inr 122)), some (.inr (.inl x1)), none], []) :: K) σ = (zEv true (zent 151 [.inr (.inr 122)] :: (167, 150, [some (.inr (.inr 122)), some (.inr (.inl x1)), none], []) :: K) σ) :=
  yI_aload_n zi_167_146 rfl <| yI_cv zi_167_147 rfl rfl zk_122 hK
theorem zj_167_168 {K : List zF} {σ : zW} {x1 : Int64} : zEv true ((167, 168, [some (.inr (.inr 122)), some (.inr (.inl x1)), none], []) :: K) σ = (if (zlc x1 6579297) = 0 then zEv true ((167, 184, [some (.inr (.inr 122)), some (.inr (.inl x1)), none], []) :: K) σ else if ¬ (zlc x1 1702260589) = 0 then zEv true ((167, 229, [some (.inr (.inr 122)), some (.inr (.inl x1)), none], []) :: K) σ else zEv true ((167, 184, [some (.inr (.inr 122)), some (.inr (.inl x1)), none], []) :: K) σ) :=
  yI_lload_n zi_167_168 rfl <| yI_ldc2_w zi_167_169 <| yI_lcmp zi_167_172 <| yI_if_eq zi_167_173 <| yBr (rfl) (yI_lload_n zi_167_176 rfl <| yI_ldc2_w zi_167_177 <| yI_lcmp zi_167_180 <| yI_if_ne zi_167_181 <| yBr (rfl) (rfl))
theorem zr_167_150 {K : List zF} {σ : zW} {x1 : Int64} {v : Int} : zRet true ((167, 150, [some (.inr (.inr 122)), some (.inr (.inl x1)), none], []) :: K) (some (.inl v)) σ = (if ¬ v = 0 then (0 ≤ (gI σ 122 58) ∧ (gI σ 122 58) < 8) ∧ zEv true ((167, 168, [some (.inr (.inr 122)), some (.inr (.inl x1)), none], []) :: K) (sL σ 168 ((gI σ 122 58).toNat) (gL σ 122 3)) else zRet true K (some (.inl 0)) σ) :=
  yT_rt (yI_if_ne zi_167_150 <| yBr (yI_aload_n zi_167_155 rfl <| yI_gf_f (v := 168) zi_167_156 zk_122 rfl <| yI_aload_n zi_167_159 rfl <| yI_gf_i (v := gI σ 122 58) zi_167_160 zk_122 rfl <| yI_aload_n zi_167_163 rfl <| yI_gf_l (v := gL σ 122 3) zi_167_164 zk_122 rfl <| yI_lastorec zi_167_167 za_168 <| rfl) (yI_iconst zi_167_153 <| yI_zreturn zi_167_154 (by decide)))
theorem zj_167_184 {K : List zF} {σ : zW} {o1 : Option zV} {o2 : Option zV} (hK : K.length < 60) : zEv true ((167, 184, [some (.inr (.inr 122)), o1, o2], []) :: K) σ = (zEv true (zent 166 [.inr (.inr 122)] :: (167, 188, [some (.inr (.inr 122)), o1, o2], []) :: K) σ) :=
  yI_aload_n zi_167_184 rfl <| yI_cv zi_167_185 rfl rfl zk_122 hK
theorem zj_167_229 {K : List zF} {σ : zW} {o1 : Option zV} {o2 : Option zV} : zEv true ((167, 229, [some (.inr (.inr 122)), o1, o2], []) :: K) σ = (zRet true K (some (.inl 1)) (sI σ 122 58 (w32 ((gI σ 122 58) + 1)))) :=
  yI_aload_n zi_167_229 rfl <| yI_dup_r zi_167_230 <| yI_gf_i (v := gI σ 122 58) zi_167_231 zk_122 rfl <| yI_iconst zi_167_234 <| yI_iadd zi_167_235 <| yI_pf_i zi_167_236 zk_122 <| yI_iconst zi_167_239 <| yI_zreturn zi_167_240 (by decide)
theorem zr_167_188 {K : List zF} {σ : zW} {o1 : Option zV} {o2 : Option zV} {v : Int} (hK : K.length < 60) : zRet true ((167, 188, [some (.inr (.inr 122)), o1, o2], []) :: K) (some (.inl v)) σ = (if ¬ v = 0 then (0 ≤ (gI σ 122 58) ∧ (gI σ 122 58) < 8) ∧ zEv true (zent 165 [.inr (.inr 122)] :: (167, 210, [some (.inr (.inr 122)), o1, o2], []) :: K) (sL σ 169 ((gI σ 122 58).toNat) (gL σ 122 3)) else zRet true K (some (.inl 0)) σ) :=
  yT_rt (yI_if_ne zi_167_188 <| yBr (yI_aload_n zi_167_193 rfl <| yI_gf_f (v := 169) zi_167_194 zk_122 rfl <| yI_aload_n zi_167_197 rfl <| yI_gf_i (v := gI σ 122 58) zi_167_198 zk_122 rfl <| yI_aload_n zi_167_201 rfl <| yI_gf_l (v := gL σ 122 3) zi_167_202 zk_122 rfl <| yI_lastorec zi_167_205 za_169 <| yI_aload_n zi_167_206 rfl <| yI_cv zi_167_207 rfl rfl zk_122 hK) (yI_iconst zi_167_191 <| yI_zreturn zi_167_192 (by decide)))
theorem zr_167_210 {K : List zF} {σ : zW} {o1 : Option zV} {o2 : Option zV} {v : Int} : zRet true ((167, 210, [some (.inr (.inr 122)), o1, o2], []) :: K) (some (.inl v)) σ = (if ¬ v = 0 then (0 ≤ (gI σ 122 58) ∧ (gI σ 122 58) < 8) ∧ zEv true ((167, 229, [some (.inr (.inr 122)), o1, o2], []) :: K) (sI σ 167 ((gI σ 122 58).toNat) (zl2i (gL σ 122 3))) else zRet true K (some (.inl 0)) σ) :=
  yT_rt (yI_if_ne zi_167_210 <| yBr (yI_aload_n zi_167_215 rfl <| yI_gf_f (v := 167) zi_167_216 zk_122 rfl <| yI_aload_n zi_167_219 rfl <| yI_gf_i (v := gI σ 122 58) zi_167_220 zk_122 rfl <| yI_aload_n zi_167_223 rfl <| yI_gf_l (v := gL σ 122 3) zi_167_224 zk_122 rfl <| yI_l2i zi_167_227 <| yI_iastorec zi_167_228 za_167 <| rfl) (yI_iconst zi_167_213 <| yI_zreturn zi_167_214 (by decide)))
/-- 168 TreegrabModel.isScript()Z -/
theorem zi_168_0 : zraw 168 0 = some (.aload_n 0, 1) ∧ 0 + 1 = 1 := by decide +kernel
theorem zi_168_1 : zraw 168 1 = some (.iconst 0, 1) ∧ zin 128 0 = true ∧ 1 + 1 = 2 := by decide +kernel
theorem zi_168_2 : zraw 168 2 = some (.putfield 338, 3) ∧ zft (zinf 168).1 338 = some (10, 58, 0, false) ∧ 2 + 3 = 5 := by decide +kernel
theorem zi_168_5 : zraw 168 5 = some (.aload_n 0, 1) ∧ 5 + 1 = 6 := by decide +kernel
theorem zi_168_6 : zraw 168 6 = some (.invokevirtual 256, 3) ∧ zmt (zinf 168).1 256 = some 149 ∧ Nat.ble 9000 149 = false ∧ zinf 149 = (10, 1, 1, 1, 0) ∧ 6 + 3 = 9 := by decide +kernel
theorem zi_168_9 : zraw 168 9 = some (.iconst (-1), 1) ∧ zin 128 (-1) = true ∧ 9 + 1 = 10 := by decide +kernel
theorem zi_168_10 : zraw 168 10 = some (.if_icmp .eq 7, 3) ∧ ((10 : Nat) : Int) + 7 = Int.ofNat 17 ∧ 10 + 3 = 13 := by decide +kernel
theorem zi_168_13 : zraw 168 13 = some (.iconst 1, 1) ∧ zin 128 1 = true ∧ 13 + 1 = 14 := by decide +kernel
theorem zi_168_14 : zraw 168 14 = some (.goto 4, 3) ∧ ((14 : Nat) : Int) + 4 = Int.ofNat 18 := by decide +kernel
theorem zi_168_17 : zraw 168 17 = some (.iconst 0, 1) ∧ zin 128 0 = true ∧ 17 + 1 = 18 := by decide +kernel
theorem zi_168_18 : zraw 168 18 = some (.istore_n 1, 1) ∧ 18 + 1 = 19 := by decide +kernel
theorem zi_168_19 : zraw 168 19 = some (.iload_n 1, 1) ∧ 19 + 1 = 20 := by decide +kernel
theorem zi_168_20 : zraw 168 20 = some (.ifCond .eq 48, 3) ∧ ((20 : Nat) : Int) + 48 = Int.ofNat 68 ∧ 20 + 3 = 23 := by decide +kernel
theorem zi_168_23 : zraw 168 23 = some (.aload_n 0, 1) ∧ 23 + 1 = 24 := by decide +kernel
theorem zi_168_24 : zraw 168 24 = some (.invokevirtual 347, 3) ∧ zmt (zinf 168).1 347 = some 167 ∧ Nat.ble 9000 167 = false ∧ zinf 167 = (10, 1, 3, 2, 0) ∧ 24 + 3 = 27 := by decide +kernel
theorem zi_168_27 : zraw 168 27 = some (.ifCond .ne 5, 3) ∧ ((27 : Nat) : Int) + 5 = Int.ofNat 32 ∧ 27 + 3 = 30 := by decide +kernel
theorem zi_168_30 : zraw 168 30 = some (.iconst 0, 1) ∧ zin 128 0 = true ∧ 30 + 1 = 31 := by decide +kernel
theorem zi_168_31 : zraw 168 31 = some (.ireturn, 1) ∧ (zinf 168).2.2.2.1 = 2 := by decide +kernel
theorem zi_168_32 : zraw 168 32 = some (.aload_n 0, 1) ∧ 32 + 1 = 33 := by decide +kernel
theorem zi_168_33 : zraw 168 33 = some (.invokevirtual 256, 3) ∧ zmt (zinf 168).1 256 = some 149 ∧ Nat.ble 9000 149 = false ∧ zinf 149 = (10, 1, 1, 1, 0) ∧ 33 + 3 = 36 := by decide +kernel
theorem zi_168_36 : zraw 168 36 = some (.bipush 59, 2) ∧ zin 128 59 = true ∧ 36 + 2 = 38 := by decide +kernel
theorem zi_168_38 : zraw 168 38 = some (.if_icmp .ne 7, 3) ∧ ((38 : Nat) : Int) + 7 = Int.ofNat 45 ∧ 38 + 3 = 41 := by decide +kernel
theorem zi_168_41 : zraw 168 41 = some (.iconst 1, 1) ∧ zin 128 1 = true ∧ 41 + 1 = 42 := by decide +kernel
theorem zi_168_42 : zraw 168 42 = some (.goto 4, 3) ∧ ((42 : Nat) : Int) + 4 = Int.ofNat 46 := by decide +kernel
theorem zi_168_45 : zraw 168 45 = some (.iconst 0, 1) ∧ zin 128 0 = true ∧ 45 + 1 = 46 := by decide +kernel
theorem zi_168_46 : zraw 168 46 = some (.istore_n 1, 1) ∧ 46 + 1 = 47 := by decide +kernel
theorem zi_168_47 : zraw 168 47 = some (.aload_n 0, 1) ∧ 47 + 1 = 48 := by decide +kernel
theorem zi_168_48 : zraw 168 48 = some (.dup, 1) ∧ 48 + 1 = 49 := by decide +kernel
theorem zi_168_49 : zraw 168 49 = some (.getfield 212, 3) ∧ zft (zinf 168).1 212 = some (10, 2, 0, false) ∧ 49 + 3 = 52 := by decide +kernel
theorem zi_168_52 : zraw 168 52 = some (.iload_n 1, 1) ∧ 52 + 1 = 53 := by decide +kernel
theorem zi_168_53 : zraw 168 53 = some (.ifCond .eq 7, 3) ∧ ((53 : Nat) : Int) + 7 = Int.ofNat 60 ∧ 53 + 3 = 56 := by decide +kernel
theorem zi_168_56 : zraw 168 56 = some (.iconst 1, 1) ∧ zin 128 1 = true ∧ 56 + 1 = 57 := by decide +kernel
theorem zi_168_57 : zraw 168 57 = some (.goto 4, 3) ∧ ((57 : Nat) : Int) + 4 = Int.ofNat 61 := by decide +kernel
theorem zi_168_60 : zraw 168 60 = some (.iconst 0, 1) ∧ zin 128 0 = true ∧ 60 + 1 = 61 := by decide +kernel
theorem zi_168_61 : zraw 168 61 = some (.iadd, 1) ∧ 61 + 1 = 62 := by decide +kernel
theorem zi_168_62 : zraw 168 62 = some (.putfield 212, 3) ∧ zft (zinf 168).1 212 = some (10, 2, 0, false) ∧ 62 + 3 = 65 := by decide +kernel
theorem zi_168_65 : zraw 168 65 = some (.goto (-46), 3) ∧ ((65 : Nat) : Int) + (-46) = Int.ofNat 19 := by decide +kernel
theorem zi_168_68 : zraw 168 68 = some (.aload_n 0, 1) ∧ 68 + 1 = 69 := by decide +kernel
theorem zi_168_69 : zraw 168 69 = some (.invokevirtual 265, 3) ∧ zmt (zinf 168).1 265 = some 152 ∧ Nat.ble 9000 152 = false ∧ zinf 152 = (10, 1, 1, 2, 0) ∧ 69 + 3 = 72 := by decide +kernel
theorem zi_168_72 : zraw 168 72 = some (.ireturn, 1) ∧ (zinf 168).2.2.2.1 = 2 := by decide +kernel
theorem ze_168 {K : List zF} {σ : zW} (hK : K.length < 60) : zEv true (zent 168 [.inr (.inr 122)] :: K) σ = (zEv true (zent 149 [.inr (.inr 122)] :: (168, 9, [some (.inr (.inr 122)), none], []) :: K) (sI σ 122 58 0)) :=
  yT_en (f := (168, 0, [some (.inr (.inr 122)), none], [])) rfl (yI_aload_n zi_168_0 rfl <| yI_iconst zi_168_1 <| yI_pf_i zi_168_2 zk_122 <| yI_aload_n zi_168_5 rfl <| yI_cv zi_168_6 rfl rfl zk_122 hK)
theorem zr_168_9 {K : List zF} {σ : zW} {o1 : Option zV} {v : Int} : zRet true ((168, 9, [some (.inr (.inr 122)), o1], []) :: K) (some (.inl v)) σ = (zEv true ((168, 19, [some (.inr (.inr 122)), some (.inl (if v = (-1) then 0 else 1 : Int))], []) :: K) σ) :=
  yT_rt (yI_iconst zi_168_9 <| yI_ic_eq zi_168_10 <| yMi0 (j := 18) (ls2 := [some (.inr (.inr 122)), o1]) (st2 := []) (x := 0) (y := 1) (σ2 := σ) (yI_iconst zi_168_17 <| rfl) (yI_iconst zi_168_13 <| yI_goto zi_168_14 <| rfl) <| yI_istore_n (l := [some (.inr (.inr 122)), some (.inl (if v = (-1) then 0 else 1 : Int))]) zi_168_18 rfl rfl <| rfl)
theorem zj_168_19 {K : List zF} {σ : zW} {x1 : Int} (hK : K.length < 60) : zEv true ((168, 19, [some (.inr (.inr 122)), some (.inl x1)], []) :: K) σ = (if x1 = 0 then zEv true (zent 152 [.inr (.inr 122)] :: (168, 72, [some (.inr (.inr 122)), some (.inl x1)], []) :: K) σ else zEv true (zent 167 [.inr (.inr 122)] :: (168, 27, [some (.inr (.inr 122)), some (.inl x1)], []) :: K) σ) :=
  yI_iload_n zi_168_19 rfl <| yI_if_eq zi_168_20 <| yBr (yI_aload_n zi_168_68 rfl <| yI_cv zi_168_69 rfl rfl zk_122 hK) (yI_aload_n zi_168_23 rfl <| yI_cv zi_168_24 rfl rfl zk_122 hK)
theorem zr_168_72 {K : List zF} {σ : zW} {o0 : Option zV} {o1 : Option zV} {v : Int} : zRet true ((168, 72, [o0, o1], []) :: K) (some (.inl v)) σ = ((v = 0 ∨ v = 1) ∧ zRet true K (some (.inl v)) σ) :=
  yT_rt (yI_zreturnc zi_168_72)
theorem zr_168_27 {K : List zF} {σ : zW} {o1 : Option zV} {v : Int} (hK : K.length < 60) : zRet true ((168, 27, [some (.inr (.inr 122)), o1], []) :: K) (some (.inl v)) σ = (if ¬ v = 0 then zEv true (zent 149 [.inr (.inr 122)] :: (168, 36, [some (.inr (.inr 122)), o1], []) :: K) σ else zRet true K (some (.inl 0)) σ) :=
  yT_rt (yI_if_ne zi_168_27 <| yBr (yI_aload_n zi_168_32 rfl <| yI_cv zi_168_33 rfl rfl zk_122 hK) (yI_iconst zi_168_30 <| yI_zreturn zi_168_31 (by decide)))
theorem zr_168_36 {K : List zF} {σ : zW} {o1 : Option zV} {v : Int} : zRet true ((168, 36, [some (.inr (.inr 122)), o1], []) :: K) (some (.inl v)) σ = (zEv true ((168, 19, [some (.inr (.inr 122)), some (.inl (if ¬ v = 59 then 0 else 1 : Int))], []) :: K) (sI σ 122 2 (w32 ((gI σ 122 2) + (if (if ¬ v = 59 then 0 else 1 : Int) = 0 then 0 else 1 : Int))))) :=
  yT_rt (yI_bipush zi_168_36 <| yI_ic_ne zi_168_38 <| yMi0 (j := 46) (ls2 := [some (.inr (.inr 122)), o1]) (st2 := []) (x := 0) (y := 1) (σ2 := σ) (yI_iconst zi_168_45 <| rfl) (yI_iconst zi_168_41 <| yI_goto zi_168_42 <| rfl) <| yI_istore_n (l := [some (.inr (.inr 122)), some (.inl (if ¬ v = 59 then 0 else 1 : Int))]) zi_168_46 rfl rfl <| yI_aload_n zi_168_47 rfl <| yI_dup_r zi_168_48 <| yI_gf_i (v := gI σ 122 2) zi_168_49 zk_122 rfl <| yI_iload_n zi_168_52 rfl <| yI_if_eq zi_168_53 <| yMi0 (j := 61) (ls2 := [some (.inr (.inr 122)), some (.inl (if ¬ v = 59 then 0 else 1 : Int))]) (st2 := [.inl (gI σ 122 2), .inr (.inr 122)]) (x := 0) (y := 1) (σ2 := σ) (yI_iconst zi_168_60 <| rfl) (yI_iconst zi_168_56 <| yI_goto zi_168_57 <| rfl) <| yI_iadd zi_168_61 <| yI_pf_i zi_168_62 zk_122 <| yI_goto zi_168_65 <| rfl)
/-- 169 TreegrabModel.takesScript()V -/
theorem zi_169_0 : zraw 169 0 = some (.aload_n 0, 1) ∧ 0 + 1 = 1 := by decide +kernel
theorem zi_169_1 : zraw 169 1 = some (.aload_n 0, 1) ∧ 1 + 1 = 2 := by decide +kernel
theorem zi_169_2 : zraw 169 2 = some (.getfield 338, 3) ∧ zft (zinf 169).1 338 = some (10, 58, 0, false) ∧ 2 + 3 = 5 := by decide +kernel
theorem zi_169_5 : zraw 169 5 = some (.putfield 350, 3) ∧ zft (zinf 169).1 350 = some (10, 52, 0, false) ∧ 5 + 3 = 8 := by decide +kernel
theorem zi_169_8 : zraw 169 8 = some (.iconst 0, 1) ∧ zin 128 0 = true ∧ 8 + 1 = 9 := by decide +kernel
theorem zi_169_9 : zraw 169 9 = some (.istore_n 1, 1) ∧ 9 + 1 = 10 := by decide +kernel
theorem zi_169_10 : zraw 169 10 = some (.iload_n 1, 1) ∧ 10 + 1 = 11 := by decide +kernel
theorem zi_169_11 : zraw 169 11 = some (.aload_n 0, 1) ∧ 11 + 1 = 12 := by decide +kernel
theorem zi_169_12 : zraw 169 12 = some (.getfield 350, 3) ∧ zft (zinf 169).1 350 = some (10, 52, 0, false) ∧ 12 + 3 = 15 := by decide +kernel
theorem zi_169_15 : zraw 169 15 = some (.if_icmp .ge 69, 3) ∧ ((15 : Nat) : Int) + 69 = Int.ofNat 84 ∧ 15 + 3 = 18 := by decide +kernel
theorem zi_169_18 : zraw 169 18 = some (.aload_n 0, 1) ∧ 18 + 1 = 19 := by decide +kernel
theorem zi_169_19 : zraw 169 19 = some (.getfield 123, 3) ∧ zft (zinf 169).1 123 = some (10, 53, 3, true) ∧ 19 + 3 = 22 := by decide +kernel
theorem zi_169_22 : zraw 169 22 = some (.iload_n 1, 1) ∧ 22 + 1 = 23 := by decide +kernel
theorem zi_169_23 : zraw 169 23 = some (.aload_n 0, 1) ∧ 23 + 1 = 24 := by decide +kernel
theorem zi_169_24 : zraw 169 24 = some (.getfield 138, 3) ∧ zft (zinf 169).1 138 = some (10, 59, 3, true) ∧ 24 + 3 = 27 := by decide +kernel
theorem zi_169_27 : zraw 169 27 = some (.iload_n 1, 1) ∧ 27 + 1 = 28 := by decide +kernel
theorem zi_169_28 : zraw 169 28 = some (.laload, 1) ∧ 28 + 1 = 29 := by decide +kernel
theorem zi_169_29 : zraw 169 29 = some (.lastore, 1) ∧ 29 + 1 = 30 := by decide +kernel
theorem zi_169_30 : zraw 169 30 = some (.aload_n 0, 1) ∧ 30 + 1 = 31 := by decide +kernel
theorem zi_169_31 : zraw 169 31 = some (.getfield 126, 3) ∧ zft (zinf 169).1 126 = some (10, 54, 3, true) ∧ 31 + 3 = 34 := by decide +kernel
theorem zi_169_34 : zraw 169 34 = some (.iload_n 1, 1) ∧ 34 + 1 = 35 := by decide +kernel
theorem zi_169_35 : zraw 169 35 = some (.aload_n 0, 1) ∧ 35 + 1 = 36 := by decide +kernel
theorem zi_169_36 : zraw 169 36 = some (.getfield 141, 3) ∧ zft (zinf 169).1 141 = some (10, 60, 3, true) ∧ 36 + 3 = 39 := by decide +kernel
theorem zi_169_39 : zraw 169 39 = some (.iload_n 1, 1) ∧ 39 + 1 = 40 := by decide +kernel
theorem zi_169_40 : zraw 169 40 = some (.iaload, 1) ∧ 40 + 1 = 41 := by decide +kernel
theorem zi_169_41 : zraw 169 41 = some (.iastore, 1) ∧ 41 + 1 = 42 := by decide +kernel
theorem zi_169_42 : zraw 169 42 = some (.aload_n 0, 1) ∧ 42 + 1 = 43 := by decide +kernel
theorem zi_169_43 : zraw 169 43 = some (.getfield 129, 3) ∧ zft (zinf 169).1 129 = some (10, 55, 3, true) ∧ 43 + 3 = 46 := by decide +kernel
theorem zi_169_46 : zraw 169 46 = some (.iload_n 1, 1) ∧ 46 + 1 = 47 := by decide +kernel
theorem zi_169_47 : zraw 169 47 = some (.aload_n 0, 1) ∧ 47 + 1 = 48 := by decide +kernel
theorem zi_169_48 : zraw 169 48 = some (.getfield 144, 3) ∧ zft (zinf 169).1 144 = some (10, 61, 3, true) ∧ 48 + 3 = 51 := by decide +kernel
theorem zi_169_51 : zraw 169 51 = some (.iload_n 1, 1) ∧ 51 + 1 = 52 := by decide +kernel
theorem zi_169_52 : zraw 169 52 = some (.iaload, 1) ∧ 52 + 1 = 53 := by decide +kernel
theorem zi_169_53 : zraw 169 53 = some (.iastore, 1) ∧ 53 + 1 = 54 := by decide +kernel
theorem zi_169_54 : zraw 169 54 = some (.aload_n 0, 1) ∧ 54 + 1 = 55 := by decide +kernel
theorem zi_169_55 : zraw 169 55 = some (.getfield 132, 3) ∧ zft (zinf 169).1 132 = some (10, 56, 3, true) ∧ 55 + 3 = 58 := by decide +kernel
theorem zi_169_58 : zraw 169 58 = some (.iload_n 1, 1) ∧ 58 + 1 = 59 := by decide +kernel
theorem zi_169_59 : zraw 169 59 = some (.aload_n 0, 1) ∧ 59 + 1 = 60 := by decide +kernel
theorem zi_169_60 : zraw 169 60 = some (.getfield 147, 3) ∧ zft (zinf 169).1 147 = some (10, 62, 3, true) ∧ 60 + 3 = 63 := by decide +kernel
theorem zi_169_63 : zraw 169 63 = some (.iload_n 1, 1) ∧ 63 + 1 = 64 := by decide +kernel
theorem zi_169_64 : zraw 169 64 = some (.laload, 1) ∧ 64 + 1 = 65 := by decide +kernel
theorem zi_169_65 : zraw 169 65 = some (.lastore, 1) ∧ 65 + 1 = 66 := by decide +kernel
theorem zi_169_66 : zraw 169 66 = some (.aload_n 0, 1) ∧ 66 + 1 = 67 := by decide +kernel
theorem zi_169_67 : zraw 169 67 = some (.getfield 135, 3) ∧ zft (zinf 169).1 135 = some (10, 57, 3, true) ∧ 67 + 3 = 70 := by decide +kernel
theorem zi_169_70 : zraw 169 70 = some (.iload_n 1, 1) ∧ 70 + 1 = 71 := by decide +kernel
theorem zi_169_71 : zraw 169 71 = some (.aload_n 0, 1) ∧ 71 + 1 = 72 := by decide +kernel
theorem zi_169_72 : zraw 169 72 = some (.getfield 150, 3) ∧ zft (zinf 169).1 150 = some (10, 63, 3, true) ∧ 72 + 3 = 75 := by decide +kernel
theorem zi_169_75 : zraw 169 75 = some (.iload_n 1, 1) ∧ 75 + 1 = 76 := by decide +kernel
theorem zi_169_76 : zraw 169 76 = some (.laload, 1) ∧ 76 + 1 = 77 := by decide +kernel
theorem zi_169_77 : zraw 169 77 = some (.lastore, 1) ∧ 77 + 1 = 78 := by decide +kernel
theorem zi_169_78 : zraw 169 78 = some (.iinc 1 1, 3) ∧ zin 32768 1 = true ∧ 78 + 3 = 81 := by decide +kernel
theorem zi_169_81 : zraw 169 81 = some (.goto (-71), 3) ∧ ((81 : Nat) : Int) + (-71) = Int.ofNat 10 := by decide +kernel
theorem zi_169_84 : zraw 169 84 = some (.return_, 1) ∧ (zinf 169).2.2.2.1 = 0 := by decide +kernel
theorem ze_169 {K : List zF} {σ : zW} : zEv true (zent 169 [.inr (.inr 122)] :: K) σ = (zEv true ((169, 10, [some (.inr (.inr 122)), some (.inl 0)], []) :: K) (sI σ 122 52 (gI σ 122 58))) :=
  yT_en (f := (169, 0, [some (.inr (.inr 122)), none], [])) rfl (yI_aload_n zi_169_0 rfl <| yI_aload_n zi_169_1 rfl <| yI_gf_i (v := gI σ 122 58) zi_169_2 zk_122 rfl <| yI_pf_i zi_169_5 zk_122 <| yI_iconst zi_169_8 <| yI_istore_n (l := [some (.inr (.inr 122)), some (.inl 0)]) zi_169_9 rfl rfl <| rfl)
theorem zj_169_10 {K : List zF} {σ : zW} {x1 : Int} : zEv true ((169, 10, [some (.inr (.inr 122)), some (.inl x1)], []) :: K) σ = (if (gI σ 122 52) ≤ x1 then zRet true K none σ else (0 ≤ x1 ∧ x1 < 8) ∧ ((0 ≤ x1 ∧ x1 < 8) ∧ ((0 ≤ x1 ∧ x1 < 8) ∧ ((0 ≤ x1 ∧ x1 < 8) ∧ ((0 ≤ x1 ∧ x1 < 8) ∧ ((0 ≤ x1 ∧ x1 < 8) ∧ ((0 ≤ x1 ∧ x1 < 8) ∧ ((0 ≤ x1 ∧ x1 < 8) ∧ ((0 ≤ x1 ∧ x1 < 8) ∧ ((0 ≤ x1 ∧ x1 < 8) ∧ zEv true ((169, 10, [some (.inr (.inr 122)), some (.inl (w32 (x1 + 1)))], []) :: K) (sL (sL (sI (sI (sL σ 160 x1.toNat (gL σ 165 x1.toNat)) 161 x1.toNat (gI σ 166 x1.toNat)) 162 x1.toNat (gI σ 167 x1.toNat)) 163 x1.toNat (gL σ 168 x1.toNat)) 164 x1.toNat (gL σ 169 x1.toNat)))))))))))) :=
  yI_iload_n zi_169_10 rfl <| yI_aload_n zi_169_11 rfl <| yI_gf_i (v := gI σ 122 52) zi_169_12 zk_122 rfl <| yI_ic_ge zi_169_15 <| yBr (yI_ret zi_169_84) (yI_aload_n zi_169_18 rfl <| yI_gf_f (v := 160) zi_169_19 zk_122 rfl <| yI_iload_n zi_169_22 rfl <| yI_aload_n zi_169_23 rfl <| yI_gf_f (v := 165) zi_169_24 zk_122 rfl <| yI_iload_n zi_169_27 rfl <| yI_laloadc (v := gL σ 165 x1.toNat) zi_169_28 za_165 rfl <| yI_lastorec zi_169_29 za_160 <| yI_aload_n zi_169_30 rfl <| yI_gf_f (v := 161) zi_169_31 zk_122 rfl <| yI_iload_n zi_169_34 rfl <| yI_aload_n zi_169_35 rfl <| yI_gf_f (v := 166) zi_169_36 zk_122 rfl <| yI_iload_n zi_169_39 rfl <| yI_ialoadc (v := gI σ 166 x1.toNat) zi_169_40 za_166 rfl <| yI_iastorec zi_169_41 za_161 <| yI_aload_n zi_169_42 rfl <| yI_gf_f (v := 162) zi_169_43 zk_122 rfl <| yI_iload_n zi_169_46 rfl <| yI_aload_n zi_169_47 rfl <| yI_gf_f (v := 167) zi_169_48 zk_122 rfl <| yI_iload_n zi_169_51 rfl <| yI_ialoadc (v := gI σ 167 x1.toNat) zi_169_52 za_167 ((yGI_nk (by decide)).trans (gI_sL _ _ _ _ _ _)) <| yI_iastorec zi_169_53 za_162 <| yI_aload_n zi_169_54 rfl <| yI_gf_f (v := 163) zi_169_55 zk_122 rfl <| yI_iload_n zi_169_58 rfl <| yI_aload_n zi_169_59 rfl <| yI_gf_f (v := 168) zi_169_60 zk_122 rfl <| yI_iload_n zi_169_63 rfl <| yI_laloadc (v := gL σ 168 x1.toNat) zi_169_64 za_168 ((gL_sI _ _ _ _ _ _).trans ((gL_sI _ _ _ _ _ _).trans (yGL_nk (by decide)))) <| yI_lastorec zi_169_65 za_163 <| yI_aload_n zi_169_66 rfl <| yI_gf_f (v := 164) zi_169_67 zk_122 rfl <| yI_iload_n zi_169_70 rfl <| yI_aload_n zi_169_71 rfl <| yI_gf_f (v := 169) zi_169_72 zk_122 rfl <| yI_iload_n zi_169_75 rfl <| yI_laloadc (v := gL σ 169 x1.toNat) zi_169_76 za_169 ((yGL_nk (by decide)).trans ((gL_sI _ _ _ _ _ _).trans ((gL_sI _ _ _ _ _ _).trans (yGL_nk (by decide))))) <| yI_lastorec zi_169_77 za_164 <| yI_iinc (l := [some (.inr (.inr 122)), some (.inl (w32 (x1 + 1)))]) zi_169_78 rfl rfl rfl <| yI_goto zi_169_81 <| rfl)
/-- 170 TreegrabModel.feed(JI)I -/
theorem zi_170_0 : zraw 170 0 = some (.aload_n 0, 1) ∧ 0 + 1 = 1 := by decide +kernel
theorem zi_170_1 : zraw 170 1 = some (.iload_n 3, 1) ∧ 1 + 1 = 2 := by decide +kernel
theorem zi_170_2 : zraw 170 2 = some (.iconst 1, 1) ∧ zin 128 1 = true ∧ 2 + 1 = 3 := by decide +kernel
theorem zi_170_3 : zraw 170 3 = some (.bipush 8, 2) ∧ zin 128 8 = true ∧ 3 + 2 = 5 := by decide +kernel
theorem zi_170_5 : zraw 170 5 = some (.invokestatic 208, 3) ∧ zmt (zinf 170).1 208 = some 142 ∧ Nat.ble 9000 142 = false ∧ zinf 142 = (10, 3, 3, 2, 1) ∧ 5 + 3 = 8 := by decide +kernel
theorem zi_170_8 : zraw 170 8 = some (.ifCond .ne 7, 3) ∧ ((8 : Nat) : Int) + 7 = Int.ofNat 15 ∧ 8 + 3 = 11 := by decide +kernel
theorem zi_170_11 : zraw 170 11 = some (.iconst 1, 1) ∧ zin 128 1 = true ∧ 11 + 1 = 12 := by decide +kernel
theorem zi_170_12 : zraw 170 12 = some (.goto 20, 3) ∧ ((12 : Nat) : Int) + 20 = Int.ofNat 32 := by decide +kernel
theorem zi_170_15 : zraw 170 15 = some (.aload_n 0, 1) ∧ 15 + 1 = 16 := by decide +kernel
theorem zi_170_16 : zraw 170 16 = some (.getfield 215, 3) ∧ zft (zinf 170).1 215 = some (10, 1, 0, false) ∧ 16 + 3 = 19 := by decide +kernel
theorem zi_170_19 : zraw 170 19 = some (.iload_n 3, 1) ∧ 19 + 1 = 20 := by decide +kernel
theorem zi_170_20 : zraw 170 20 = some (.iadd, 1) ∧ 20 + 1 = 21 := by decide +kernel
theorem zi_170_21 : zraw 170 21 = some (.sipush 600, 3) ∧ zin 32768 600 = true ∧ 21 + 3 = 24 := by decide +kernel
theorem zi_170_24 : zraw 170 24 = some (.if_icmp .le 7, 3) ∧ ((24 : Nat) : Int) + 7 = Int.ofNat 31 ∧ 24 + 3 = 27 := by decide +kernel
theorem zi_170_27 : zraw 170 27 = some (.iconst 2, 1) ∧ zin 128 2 = true ∧ 27 + 1 = 28 := by decide +kernel
theorem zi_170_28 : zraw 170 28 = some (.goto 4, 3) ∧ ((28 : Nat) : Int) + 4 = Int.ofNat 32 := by decide +kernel
theorem zi_170_31 : zraw 170 31 = some (.iconst 0, 1) ∧ zin 128 0 = true ∧ 31 + 1 = 32 := by decide +kernel
theorem zi_170_32 : zraw 170 32 = some (.invokevirtual 353, 3) ∧ zmt (zinf 170).1 353 = some 141 ∧ Nat.ble 9000 141 = false ∧ zinf 141 = (10, 2, 2, 2, 0) ∧ 32 + 3 = 35 := by decide +kernel
theorem zi_170_35 : zraw 170 35 = some (.ifCond .ne 5, 3) ∧ ((35 : Nat) : Int) + 5 = Int.ofNat 40 ∧ 35 + 3 = 38 := by decide +kernel
theorem zi_170_38 : zraw 170 38 = some (.iconst 0, 1) ∧ zin 128 0 = true ∧ 38 + 1 = 39 := by decide +kernel
theorem zi_170_39 : zraw 170 39 = some (.ireturn, 1) ∧ (zinf 170).2.2.2.1 = 1 := by decide +kernel
theorem zi_170_40 : zraw 170 40 = some (.iconst 0, 1) ∧ zin 128 0 = true ∧ 40 + 1 = 41 := by decide +kernel
theorem zi_170_41 : zraw 170 41 = some (.istore 4, 2) ∧ 41 + 2 = 43 := by decide +kernel
theorem zi_170_43 : zraw 170 43 = some (.iload 4, 2) ∧ 43 + 2 = 45 := by decide +kernel
theorem zi_170_45 : zraw 170 45 = some (.iload_n 3, 1) ∧ 45 + 1 = 46 := by decide +kernel
theorem zi_170_46 : zraw 170 46 = some (.if_icmp .ge 40, 3) ∧ ((46 : Nat) : Int) + 40 = Int.ofNat 86 ∧ 46 + 3 = 49 := by decide +kernel
theorem zi_170_49 : zraw 170 49 = some (.aload_n 0, 1) ∧ 49 + 1 = 50 := by decide +kernel
theorem zi_170_50 : zraw 170 50 = some (.getfield 7, 3) ∧ zft (zinf 170).1 7 = some (10, 0, 3, true) ∧ 50 + 3 = 53 := by decide +kernel
theorem zi_170_53 : zraw 170 53 = some (.aload_n 0, 1) ∧ 53 + 1 = 54 := by decide +kernel
theorem zi_170_54 : zraw 170 54 = some (.getfield 215, 3) ∧ zft (zinf 170).1 215 = some (10, 1, 0, false) ∧ 54 + 3 = 57 := by decide +kernel
theorem zi_170_57 : zraw 170 57 = some (.lload_n 1, 1) ∧ 57 + 1 = 58 := by decide +kernel
theorem zi_170_58 : zraw 170 58 = some (.bipush 8, 2) ∧ zin 128 8 = true ∧ 58 + 2 = 60 := by decide +kernel
theorem zi_170_60 : zraw 170 60 = some (.iload 4, 2) ∧ 60 + 2 = 62 := by decide +kernel
theorem zi_170_62 : zraw 170 62 = some (.imul, 1) ∧ 62 + 1 = 63 := by decide +kernel
theorem zi_170_63 : zraw 170 63 = some (.lshr, 1) ∧ 63 + 1 = 64 := by decide +kernel
theorem zi_170_64 : zraw 170 64 = some (.ldc2_w 356, 3) ∧ zlt (zinf 170).1 356 = some 255 ∧ 64 + 3 = 67 := by decide +kernel
theorem zi_170_67 : zraw 170 67 = some (.land, 1) ∧ 67 + 1 = 68 := by decide +kernel
theorem zi_170_68 : zraw 170 68 = some (.l2i, 1) ∧ 68 + 1 = 69 := by decide +kernel
theorem zi_170_69 : zraw 170 69 = some (.iastore, 1) ∧ 69 + 1 = 70 := by decide +kernel
theorem zi_170_70 : zraw 170 70 = some (.aload_n 0, 1) ∧ 70 + 1 = 71 := by decide +kernel
theorem zi_170_71 : zraw 170 71 = some (.dup, 1) ∧ 71 + 1 = 72 := by decide +kernel
theorem zi_170_72 : zraw 170 72 = some (.getfield 215, 3) ∧ zft (zinf 170).1 215 = some (10, 1, 0, false) ∧ 72 + 3 = 75 := by decide +kernel
theorem zi_170_75 : zraw 170 75 = some (.iconst 1, 1) ∧ zin 128 1 = true ∧ 75 + 1 = 76 := by decide +kernel
theorem zi_170_76 : zraw 170 76 = some (.iadd, 1) ∧ 76 + 1 = 77 := by decide +kernel
theorem zi_170_77 : zraw 170 77 = some (.putfield 215, 3) ∧ zft (zinf 170).1 215 = some (10, 1, 0, false) ∧ 77 + 3 = 80 := by decide +kernel
theorem zi_170_80 : zraw 170 80 = some (.iinc 4 1, 3) ∧ zin 32768 1 = true ∧ 80 + 3 = 83 := by decide +kernel
theorem zi_170_83 : zraw 170 83 = some (.goto (-40), 3) ∧ ((83 : Nat) : Int) + (-40) = Int.ofNat 43 := by decide +kernel
theorem zi_170_86 : zraw 170 86 = some (.aload_n 0, 1) ∧ 86 + 1 = 87 := by decide +kernel
theorem zi_170_87 : zraw 170 87 = some (.getfield 215, 3) ∧ zft (zinf 170).1 215 = some (10, 1, 0, false) ∧ 87 + 3 = 90 := by decide +kernel
theorem zi_170_90 : zraw 170 90 = some (.ireturn, 1) ∧ (zinf 170).2.2.2.1 = 1 := by decide +kernel
theorem ze_170 {K : List zF} {σ : zW} {x1 : Int64} {x3 : Int} (hK : K.length < 60) : zEv true (zent 170 [.inr (.inr 122), .inr (.inl x1), .inl x3] :: K) σ = (zEv true (zent 142 [.inl x3, .inl 1, .inl 8] :: (170, 8, [some (.inr (.inr 122)), some (.inr (.inl x1)), none, some (.inl x3), none], [.inr (.inr 122)]) :: K) σ) :=
  yT_en (f := (170, 0, [some (.inr (.inr 122)), some (.inr (.inl x1)), none, some (.inl x3), none], [])) rfl (yI_aload_n zi_170_0 rfl <| yI_iload_n zi_170_1 rfl <| yI_iconst zi_170_2 <| yI_bipush zi_170_3 <| yI_cs zi_170_5 rfl rfl hK)
theorem zr_170_8 {K : List zF} {σ : zW} {x1 : Int64} {x3 : Int} {o4 : Option zV} {v : Int} (hK : K.length < 60) : zRet true ((170, 8, [some (.inr (.inr 122)), some (.inr (.inl x1)), none, some (.inl x3), o4], [.inr (.inr 122)]) :: K) (some (.inl v)) σ = (zEv true (zent 141 [.inr (.inr 122), .inl (if ¬ v = 0 then (if (w32 ((gI σ 122 1) + x3)) ≤ 600 then 0 else 2 : Int) else 1 : Int)] :: (170, 35, [some (.inr (.inr 122)), some (.inr (.inl x1)), none, some (.inl x3), o4], []) :: K) σ) :=
  yT_rt (yI_if_ne zi_170_8 <| yMi0 (j := 32) (ls2 := [some (.inr (.inr 122)), some (.inr (.inl x1)), none, some (.inl x3), o4]) (st2 := [.inr (.inr 122)]) (x := (if (w32 ((gI σ 122 1) + x3)) ≤ 600 then 0 else 2 : Int)) (y := 1) (σ2 := σ) (yI_aload_n zi_170_15 rfl <| yI_gf_i (v := gI σ 122 1) zi_170_16 zk_122 rfl <| yI_iload_n zi_170_19 rfl <| yI_iadd zi_170_20 <| yI_sipush zi_170_21 <| yI_ic_le zi_170_24 <| yMi0 (j := 32) (ls2 := [some (.inr (.inr 122)), some (.inr (.inl x1)), none, some (.inl x3), o4]) (st2 := [.inr (.inr 122)]) (x := 0) (y := 2) (σ2 := σ) (yI_iconst zi_170_31 <| rfl) (yI_iconst zi_170_27 <| yI_goto zi_170_28 <| rfl) <| rfl) (yI_iconst zi_170_11 <| yI_goto zi_170_12 <| rfl) <| yI_cv zi_170_32 rfl rfl zk_122 hK)
theorem zr_170_35 {K : List zF} {σ : zW} {x1 : Int64} {x3 : Int} {o4 : Option zV} {v : Int} : zRet true ((170, 35, [some (.inr (.inr 122)), some (.inr (.inl x1)), none, some (.inl x3), o4], []) :: K) (some (.inl v)) σ = (if ¬ v = 0 then zEv true ((170, 43, [some (.inr (.inr 122)), some (.inr (.inl x1)), none, some (.inl x3), some (.inl 0)], []) :: K) σ else zRet true K (some (.inl 0)) σ) :=
  yT_rt (yI_if_ne zi_170_35 <| yBr (yI_iconst zi_170_40 <| yI_istore (l := [some (.inr (.inr 122)), some (.inr (.inl x1)), none, some (.inl x3), some (.inl 0)]) zi_170_41 rfl rfl <| rfl) (yI_iconst zi_170_38 <| yI_ireturn zi_170_39))
theorem zj_170_43 {K : List zF} {σ : zW} {x1 : Int64} {x3 : Int} {x4 : Int} : zEv true ((170, 43, [some (.inr (.inr 122)), some (.inr (.inl x1)), none, some (.inl x3), some (.inl x4)], []) :: K) σ = (if x3 ≤ x4 then zRet true K (some (.inl (gI σ 122 1))) σ else (0 ≤ (gI σ 122 1) ∧ (gI σ 122 1) < 600) ∧ zEv true ((170, 43, [some (.inr (.inr 122)), some (.inr (.inl x1)), none, some (.inl x3), some (.inl (w32 (x4 + 1)))], []) :: K) (sI (sI σ 123 ((gI σ 122 1).toNat) (zl2i ((zlshr x1 (w32 (8 * x4))) &&& 255))) 122 1 (w32 ((gI σ 122 1) + 1)))) :=
  yI_iload zi_170_43 rfl <| yI_iload_n zi_170_45 rfl <| yI_ic_ge zi_170_46 <| yBr (yI_aload_n zi_170_86 rfl <| yI_gf_i (v := gI σ 122 1) zi_170_87 zk_122 rfl <| yI_ireturn zi_170_90) (yI_aload_n zi_170_49 rfl <| yI_gf_f (v := 123) zi_170_50 zk_122 rfl <| yI_aload_n zi_170_53 rfl <| yI_gf_i (v := gI σ 122 1) zi_170_54 zk_122 rfl <| yI_lload_n zi_170_57 rfl <| yI_bipush zi_170_58 <| yI_iload zi_170_60 rfl <| yI_imul zi_170_62 <| yI_lshr zi_170_63 <| yI_ldc2_w zi_170_64 <| yI_land zi_170_67 <| yI_l2i zi_170_68 <| yI_iastorec zi_170_69 za_123 <| yI_aload_n zi_170_70 rfl <| yI_dup_r zi_170_71 <| yI_gf_i (v := gI σ 122 1) zi_170_72 zk_122 (yGI_nk (by decide)) <| yI_iconst zi_170_75 <| yI_iadd zi_170_76 <| yI_pf_i zi_170_77 zk_122 <| yI_iinc (l := [some (.inr (.inr 122)), some (.inr (.inl x1)), none, some (.inl x3), some (.inl (w32 (x4 + 1)))]) zi_170_80 rfl rfl rfl <| yI_goto zi_170_83 <| rfl)
/-- 171 TreegrabModel.isUsed(Z)Z -/
theorem zi_171_0 : zraw 171 0 = some (.aload_n 0, 1) ∧ 0 + 1 = 1 := by decide +kernel
theorem zi_171_1 : zraw 171 1 = some (.iconst 0, 1) ∧ zin 128 0 = true ∧ 1 + 1 = 2 := by decide +kernel
theorem zi_171_2 : zraw 171 2 = some (.putfield 215, 3) ∧ zft (zinf 171).1 215 = some (10, 1, 0, false) ∧ 2 + 3 = 5 := by decide +kernel
theorem zi_171_5 : zraw 171 5 = some (.aload_n 0, 1) ∧ 5 + 1 = 6 := by decide +kernel
theorem zi_171_6 : zraw 171 6 = some (.iload_n 1, 1) ∧ 6 + 1 = 7 := by decide +kernel
theorem zi_171_7 : zraw 171 7 = some (.ifCond .eq 7, 3) ∧ ((7 : Nat) : Int) + 7 = Int.ofNat 14 ∧ 7 + 3 = 10 := by decide +kernel
theorem zi_171_10 : zraw 171 10 = some (.iconst 0, 1) ∧ zin 128 0 = true ∧ 10 + 1 = 11 := by decide +kernel
theorem zi_171_11 : zraw 171 11 = some (.goto 7, 3) ∧ ((11 : Nat) : Int) + 7 = Int.ofNat 18 := by decide +kernel
theorem zi_171_14 : zraw 171 14 = some (.aload_n 0, 1) ∧ 14 + 1 = 15 := by decide +kernel
theorem zi_171_15 : zraw 171 15 = some (.getfield 226, 3) ∧ zft (zinf 171).1 226 = some (10, 6, 0, false) ∧ 15 + 3 = 18 := by decide +kernel
theorem zi_171_18 : zraw 171 18 = some (.putfield 226, 3) ∧ zft (zinf 171).1 226 = some (10, 6, 0, false) ∧ 18 + 3 = 21 := by decide +kernel
theorem zi_171_21 : zraw 171 21 = some (.aload_n 0, 1) ∧ 21 + 1 = 22 := by decide +kernel
theorem zi_171_22 : zraw 171 22 = some (.iload_n 1, 1) ∧ 22 + 1 = 23 := by decide +kernel
theorem zi_171_23 : zraw 171 23 = some (.ifCond .eq 7, 3) ∧ ((23 : Nat) : Int) + 7 = Int.ofNat 30 ∧ 23 + 3 = 26 := by decide +kernel
theorem zi_171_26 : zraw 171 26 = some (.iconst 0, 1) ∧ zin 128 0 = true ∧ 26 + 1 = 27 := by decide +kernel
theorem zi_171_27 : zraw 171 27 = some (.goto 7, 3) ∧ ((27 : Nat) : Int) + 7 = Int.ofNat 34 := by decide +kernel
theorem zi_171_30 : zraw 171 30 = some (.aload_n 0, 1) ∧ 30 + 1 = 31 := by decide +kernel
theorem zi_171_31 : zraw 171 31 = some (.getfield 229, 3) ∧ zft (zinf 171).1 229 = some (10, 7, 0, false) ∧ 31 + 3 = 34 := by decide +kernel
theorem zi_171_34 : zraw 171 34 = some (.putfield 229, 3) ∧ zft (zinf 171).1 229 = some (10, 7, 0, false) ∧ 34 + 3 = 37 := by decide +kernel
theorem zi_171_37 : zraw 171 37 = some (.aload_n 0, 1) ∧ 37 + 1 = 38 := by decide +kernel
theorem zi_171_38 : zraw 171 38 = some (.iload_n 1, 1) ∧ 38 + 1 = 39 := by decide +kernel
theorem zi_171_39 : zraw 171 39 = some (.ifCond .eq 7, 3) ∧ ((39 : Nat) : Int) + 7 = Int.ofNat 46 ∧ 39 + 3 = 42 := by decide +kernel
theorem zi_171_42 : zraw 171 42 = some (.iconst (-1), 1) ∧ zin 128 (-1) = true ∧ 42 + 1 = 43 := by decide +kernel
theorem zi_171_43 : zraw 171 43 = some (.goto 7, 3) ∧ ((43 : Nat) : Int) + 7 = Int.ofNat 50 := by decide +kernel
theorem zi_171_46 : zraw 171 46 = some (.aload_n 0, 1) ∧ 46 + 1 = 47 := by decide +kernel
theorem zi_171_47 : zraw 171 47 = some (.getfield 153, 3) ∧ zft (zinf 171).1 153 = some (10, 64, 0, false) ∧ 47 + 3 = 50 := by decide +kernel
theorem zi_171_50 : zraw 171 50 = some (.putfield 153, 3) ∧ zft (zinf 171).1 153 = some (10, 64, 0, false) ∧ 50 + 3 = 53 := by decide +kernel
theorem zi_171_53 : zraw 171 53 = some (.iload_n 1, 1) ∧ 53 + 1 = 54 := by decide +kernel
theorem zi_171_54 : zraw 171 54 = some (.ireturn, 1) ∧ (zinf 171).2.2.2.1 = 2 := by decide +kernel
theorem ze_171 {K : List zF} {σ : zW} {x1 : Int} : zEv true (zent 171 [.inr (.inr 122), .inl x1] :: K) σ = ((x1 = 0 ∨ x1 = 1) ∧ zRet true K (some (.inl x1)) (sI (sI (sI (sI σ 122 1 0) 122 6 (if x1 = 0 then gI σ 122 6 else 0 : Int)) 122 7 (if x1 = 0 then gI σ 122 7 else 0 : Int)) 122 64 (if x1 = 0 then gI σ 122 64 else (-1) : Int))) :=
  yT_en (f := (171, 0, [some (.inr (.inr 122)), some (.inl x1)], [])) rfl (yI_aload_n zi_171_0 rfl <| yI_iconst zi_171_1 <| yI_pf_i zi_171_2 zk_122 <| yI_aload_n zi_171_5 rfl <| yI_iload_n zi_171_6 rfl <| yI_if_eq zi_171_7 <| yMi0 (j := 18) (ls2 := [some (.inr (.inr 122)), some (.inl x1)]) (st2 := [.inr (.inr 122)]) (x := gI σ 122 6) (y := 0) (σ2 := (sI σ 122 1 0)) (yI_aload_n zi_171_14 rfl <| yI_gf_i (v := gI σ 122 6) zi_171_15 zk_122 (yGI_nj (by decide)) <| rfl) (yI_iconst zi_171_10 <| yI_goto zi_171_11 <| rfl) <| yI_pf_i zi_171_18 zk_122 <| yI_aload_n zi_171_21 rfl <| yI_iload_n zi_171_22 rfl <| yI_if_eq zi_171_23 <| yMi0 (j := 34) (ls2 := [some (.inr (.inr 122)), some (.inl x1)]) (st2 := [.inr (.inr 122)]) (x := gI σ 122 7) (y := 0) (σ2 := (sI (sI σ 122 1 0) 122 6 (if x1 = 0 then gI σ 122 6 else 0 : Int))) (yI_aload_n zi_171_30 rfl <| yI_gf_i (v := gI σ 122 7) zi_171_31 zk_122 ((yGI_nj (by decide)).trans (yGI_nj (by decide))) <| rfl) (yI_iconst zi_171_26 <| yI_goto zi_171_27 <| rfl) <| yI_pf_i zi_171_34 zk_122 <| yI_aload_n zi_171_37 rfl <| yI_iload_n zi_171_38 rfl <| yI_if_eq zi_171_39 <| yMi0 (j := 50) (ls2 := [some (.inr (.inr 122)), some (.inl x1)]) (st2 := [.inr (.inr 122)]) (x := gI σ 122 64) (y := (-1)) (σ2 := (sI (sI (sI σ 122 1 0) 122 6 (if x1 = 0 then gI σ 122 6 else 0 : Int)) 122 7 (if x1 = 0 then gI σ 122 7 else 0 : Int))) (yI_aload_n zi_171_46 rfl <| yI_gf_i (v := gI σ 122 64) zi_171_47 zk_122 ((yGI_nj (by decide)).trans ((yGI_nj (by decide)).trans (yGI_nj (by decide)))) <| rfl) (yI_iconst zi_171_42 <| yI_goto zi_171_43 <| rfl) <| yI_pf_i zi_171_50 zk_122 <| yI_iload_n zi_171_53 rfl <| yI_zreturnc zi_171_54)
/-- 172 TreegrabModel.begins()V -/
theorem zi_172_0 : zraw 172 0 = some (.aload_n 0, 1) ∧ 0 + 1 = 1 := by decide +kernel
theorem zi_172_1 : zraw 172 1 = some (.iconst 0, 1) ∧ zin 128 0 = true ∧ 1 + 1 = 2 := by decide +kernel
theorem zi_172_2 : zraw 172 2 = some (.putfield 212, 3) ∧ zft (zinf 172).1 212 = some (10, 2, 0, false) ∧ 2 + 3 = 5 := by decide +kernel
theorem zi_172_5 : zraw 172 5 = some (.return_, 1) ∧ (zinf 172).2.2.2.1 = 0 := by decide +kernel
theorem ze_172 {K : List zF} {σ : zW} : zEv true (zent 172 [.inr (.inr 122)] :: K) σ = (zRet true K none (sI σ 122 2 0)) :=
  yT_en (f := (172, 0, [some (.inr (.inr 122))], [])) rfl (yI_aload_n zi_172_0 rfl <| yI_iconst zi_172_1 <| yI_pf_i zi_172_2 zk_122 <| yI_ret zi_172_5)
/-- 173 TreegrabModel.plant(I)I -/
theorem zi_173_0 : zraw 173 0 = some (.aload_n 0, 1) ∧ 0 + 1 = 1 := by decide +kernel
theorem zi_173_1 : zraw 173 1 = some (.iload_n 1, 1) ∧ 1 + 1 = 2 := by decide +kernel
theorem zi_173_2 : zraw 173 2 = some (.invokestatic 358, 3) ∧ zmt (zinf 173).1 358 = some 143 ∧ Nat.ble 9000 143 = false ∧ zinf 143 = (10, 1, 1, 2, 1) ∧ 2 + 3 = 5 := by decide +kernel
theorem zi_173_5 : zraw 173 5 = some (.ifCond .eq 7, 3) ∧ ((5 : Nat) : Int) + 7 = Int.ofNat 12 ∧ 5 + 3 = 8 := by decide +kernel
theorem zi_173_8 : zraw 173 8 = some (.iconst 0, 1) ∧ zin 128 0 = true ∧ 8 + 1 = 9 := by decide +kernel
theorem zi_173_9 : zraw 173 9 = some (.goto 4, 3) ∧ ((9 : Nat) : Int) + 4 = Int.ofNat 13 := by decide +kernel
theorem zi_173_12 : zraw 173 12 = some (.iconst 1, 1) ∧ zin 128 1 = true ∧ 12 + 1 = 13 := by decide +kernel
theorem zi_173_13 : zraw 173 13 = some (.invokevirtual 353, 3) ∧ zmt (zinf 173).1 353 = some 141 ∧ Nat.ble 9000 141 = false ∧ zinf 141 = (10, 2, 2, 2, 0) ∧ 13 + 3 = 16 := by decide +kernel
theorem zi_173_16 : zraw 173 16 = some (.ifCond .ne 10, 3) ∧ ((16 : Nat) : Int) + 10 = Int.ofNat 26 ∧ 16 + 3 = 19 := by decide +kernel
theorem zi_173_19 : zraw 173 19 = some (.aload_n 0, 1) ∧ 19 + 1 = 20 := by decide +kernel
theorem zi_173_20 : zraw 173 20 = some (.iconst 0, 1) ∧ zin 128 0 = true ∧ 20 + 1 = 21 := by decide +kernel
theorem zi_173_21 : zraw 173 21 = some (.putfield 215, 3) ∧ zft (zinf 173).1 215 = some (10, 1, 0, false) ∧ 21 + 3 = 24 := by decide +kernel
theorem zi_173_24 : zraw 173 24 = some (.iconst 0, 1) ∧ zin 128 0 = true ∧ 24 + 1 = 25 := by decide +kernel
theorem zi_173_25 : zraw 173 25 = some (.ireturn, 1) ∧ (zinf 173).2.2.2.1 = 1 := by decide +kernel
theorem zi_173_26 : zraw 173 26 = some (.aload_n 0, 1) ∧ 26 + 1 = 27 := by decide +kernel
theorem zi_173_27 : zraw 173 27 = some (.invokevirtual 361, 3) ∧ zmt (zinf 173).1 361 = some 172 ∧ Nat.ble 9000 172 = false ∧ zinf 172 = (10, 1, 1, 0, 0) ∧ 27 + 3 = 30 := by decide +kernel
theorem zi_173_30 : zraw 173 30 = some (.aload_n 0, 1) ∧ 30 + 1 = 31 := by decide +kernel
theorem zi_173_31 : zraw 173 31 = some (.invokevirtual 364, 3) ∧ zmt (zinf 173).1 364 = some 153 ∧ Nat.ble 9000 153 = false ∧ zinf 153 = (10, 1, 5, 2, 0) ∧ 31 + 3 = 34 := by decide +kernel
theorem zi_173_34 : zraw 173 34 = some (.istore_n 2, 1) ∧ 34 + 1 = 35 := by decide +kernel
theorem zi_173_35 : zraw 173 35 = some (.aload_n 0, 1) ∧ 35 + 1 = 36 := by decide +kernel
theorem zi_173_36 : zraw 173 36 = some (.aload_n 0, 1) ∧ 36 + 1 = 37 := by decide +kernel
theorem zi_173_37 : zraw 173 37 = some (.iload_n 2, 1) ∧ 37 + 1 = 38 := by decide +kernel
theorem zi_173_38 : zraw 173 38 = some (.invokevirtual 367, 3) ∧ zmt (zinf 173).1 367 = some 171 ∧ Nat.ble 9000 171 = false ∧ zinf 171 = (10, 2, 2, 2, 0) ∧ 38 + 3 = 41 := by decide +kernel
theorem zi_173_41 : zraw 173 41 = some (.ifCond .eq 7, 3) ∧ ((41 : Nat) : Int) + 7 = Int.ofNat 48 ∧ 41 + 3 = 44 := by decide +kernel
theorem zi_173_44 : zraw 173 44 = some (.iconst 0, 1) ∧ zin 128 0 = true ∧ 44 + 1 = 45 := by decide +kernel
theorem zi_173_45 : zraw 173 45 = some (.goto 4, 3) ∧ ((45 : Nat) : Int) + 4 = Int.ofNat 49 := by decide +kernel
theorem zi_173_48 : zraw 173 48 = some (.iconst 2, 1) ∧ zin 128 2 = true ∧ 48 + 1 = 49 := by decide +kernel
theorem zi_173_49 : zraw 173 49 = some (.invokevirtual 353, 3) ∧ zmt (zinf 173).1 353 = some 141 ∧ Nat.ble 9000 141 = false ∧ zinf 141 = (10, 2, 2, 2, 0) ∧ 49 + 3 = 52 := by decide +kernel
theorem zi_173_52 : zraw 173 52 = some (.ifCond .ne 5, 3) ∧ ((52 : Nat) : Int) + 5 = Int.ofNat 57 ∧ 52 + 3 = 55 := by decide +kernel
theorem zi_173_55 : zraw 173 55 = some (.iconst 0, 1) ∧ zin 128 0 = true ∧ 55 + 1 = 56 := by decide +kernel
theorem zi_173_56 : zraw 173 56 = some (.ireturn, 1) ∧ (zinf 173).2.2.2.1 = 1 := by decide +kernel
theorem zi_173_57 : zraw 173 57 = some (.aload_n 0, 1) ∧ 57 + 1 = 58 := by decide +kernel
theorem zi_173_58 : zraw 173 58 = some (.getfield 13, 3) ∧ zft (zinf 173).1 13 = some (10, 8, 3, true) ∧ 58 + 3 = 61 := by decide +kernel
theorem zi_173_61 : zraw 173 61 = some (.iload_n 1, 1) ∧ 61 + 1 = 62 := by decide +kernel
theorem zi_173_62 : zraw 173 62 = some (.aload_n 0, 1) ∧ 62 + 1 = 63 := by decide +kernel
theorem zi_173_63 : zraw 173 63 = some (.getfield 259, 3) ∧ zft (zinf 173).1 259 = some (10, 13, 0, false) ∧ 63 + 3 = 66 := by decide +kernel
theorem zi_173_66 : zraw 173 66 = some (.iastore, 1) ∧ 66 + 1 = 67 := by decide +kernel
theorem zi_173_67 : zraw 173 67 = some (.iconst 0, 1) ∧ zin 128 0 = true ∧ 67 + 1 = 68 := by decide +kernel
theorem zi_173_68 : zraw 173 68 = some (.istore_n 3, 1) ∧ 68 + 1 = 69 := by decide +kernel
theorem zi_173_69 : zraw 173 69 = some (.iload_n 3, 1) ∧ 69 + 1 = 70 := by decide +kernel
theorem zi_173_70 : zraw 173 70 = some (.aload_n 0, 1) ∧ 70 + 1 = 71 := by decide +kernel
theorem zi_173_71 : zraw 173 71 = some (.getfield 259, 3) ∧ zft (zinf 173).1 259 = some (10, 13, 0, false) ∧ 71 + 3 = 74 := by decide +kernel
theorem zi_173_74 : zraw 173 74 = some (.if_icmp .ge 43, 3) ∧ ((74 : Nat) : Int) + 43 = Int.ofNat 117 ∧ 74 + 3 = 77 := by decide +kernel
theorem zi_173_77 : zraw 173 77 = some (.aload_n 0, 1) ∧ 77 + 1 = 78 := by decide +kernel
theorem zi_173_78 : zraw 173 78 = some (.getfield 16, 3) ∧ zft (zinf 173).1 16 = some (10, 9, 3, true) ∧ 78 + 3 = 81 := by decide +kernel
theorem zi_173_81 : zraw 173 81 = some (.bipush 20, 2) ∧ zin 128 20 = true ∧ 81 + 2 = 83 := by decide +kernel
theorem zi_173_83 : zraw 173 83 = some (.iload_n 1, 1) ∧ 83 + 1 = 84 := by decide +kernel
theorem zi_173_84 : zraw 173 84 = some (.imul, 1) ∧ 84 + 1 = 85 := by decide +kernel
theorem zi_173_85 : zraw 173 85 = some (.iload_n 3, 1) ∧ 85 + 1 = 86 := by decide +kernel
theorem zi_173_86 : zraw 173 86 = some (.iadd, 1) ∧ 86 + 1 = 87 := by decide +kernel
theorem zi_173_87 : zraw 173 87 = some (.aload_n 0, 1) ∧ 87 + 1 = 88 := by decide +kernel
theorem zi_173_88 : zraw 173 88 = some (.getfield 23, 3) ∧ zft (zinf 173).1 23 = some (10, 11, 3, true) ∧ 88 + 3 = 91 := by decide +kernel
theorem zi_173_91 : zraw 173 91 = some (.iload_n 3, 1) ∧ 91 + 1 = 92 := by decide +kernel
theorem zi_173_92 : zraw 173 92 = some (.laload, 1) ∧ 92 + 1 = 93 := by decide +kernel
theorem zi_173_93 : zraw 173 93 = some (.lastore, 1) ∧ 93 + 1 = 94 := by decide +kernel
theorem zi_173_94 : zraw 173 94 = some (.aload_n 0, 1) ∧ 94 + 1 = 95 := by decide +kernel
theorem zi_173_95 : zraw 173 95 = some (.getfield 20, 3) ∧ zft (zinf 173).1 20 = some (10, 10, 3, true) ∧ 95 + 3 = 98 := by decide +kernel
theorem zi_173_98 : zraw 173 98 = some (.bipush 20, 2) ∧ zin 128 20 = true ∧ 98 + 2 = 100 := by decide +kernel
theorem zi_173_100 : zraw 173 100 = some (.iload_n 1, 1) ∧ 100 + 1 = 101 := by decide +kernel
theorem zi_173_101 : zraw 173 101 = some (.imul, 1) ∧ 101 + 1 = 102 := by decide +kernel
theorem zi_173_102 : zraw 173 102 = some (.iload_n 3, 1) ∧ 102 + 1 = 103 := by decide +kernel
theorem zi_173_103 : zraw 173 103 = some (.iadd, 1) ∧ 103 + 1 = 104 := by decide +kernel
theorem zi_173_104 : zraw 173 104 = some (.aload_n 0, 1) ∧ 104 + 1 = 105 := by decide +kernel
theorem zi_173_105 : zraw 173 105 = some (.getfield 26, 3) ∧ zft (zinf 173).1 26 = some (10, 12, 3, true) ∧ 105 + 3 = 108 := by decide +kernel
theorem zi_173_108 : zraw 173 108 = some (.iload_n 3, 1) ∧ 108 + 1 = 109 := by decide +kernel
theorem zi_173_109 : zraw 173 109 = some (.iaload, 1) ∧ 109 + 1 = 110 := by decide +kernel
theorem zi_173_110 : zraw 173 110 = some (.iastore, 1) ∧ 110 + 1 = 111 := by decide +kernel
theorem zi_173_111 : zraw 173 111 = some (.iinc 3 1, 3) ∧ zin 32768 1 = true ∧ 111 + 3 = 114 := by decide +kernel
theorem zi_173_114 : zraw 173 114 = some (.goto (-45), 3) ∧ ((114 : Nat) : Int) + (-45) = Int.ofNat 69 := by decide +kernel
theorem zi_173_117 : zraw 173 117 = some (.aload_n 0, 1) ∧ 117 + 1 = 118 := by decide +kernel
theorem zi_173_118 : zraw 173 118 = some (.iload_n 1, 1) ∧ 118 + 1 = 119 := by decide +kernel
theorem zi_173_119 : zraw 173 119 = some (.invokevirtual 370, 3) ∧ zmt (zinf 173).1 370 = some 244 ∧ Nat.ble 9000 244 = false ∧ zinf 244 = (10, 2, 3, 0, 0) ∧ 119 + 3 = 122 := by decide +kernel
theorem zi_173_122 : zraw 173 122 = some (.aload_n 0, 1) ∧ 122 + 1 = 123 := by decide +kernel
theorem zi_173_123 : zraw 173 123 = some (.getfield 259, 3) ∧ zft (zinf 173).1 259 = some (10, 13, 0, false) ∧ 123 + 3 = 126 := by decide +kernel
theorem zi_173_126 : zraw 173 126 = some (.ireturn, 1) ∧ (zinf 173).2.2.2.1 = 1 := by decide +kernel
theorem ze_173 {K : List zF} {σ : zW} {x1 : Int} (hK : K.length < 60) : zEv true (zent 173 [.inr (.inr 122), .inl x1] :: K) σ = (zEv true (zent 143 [.inl x1] :: (173, 5, [some (.inr (.inr 122)), some (.inl x1), none, none], [.inr (.inr 122)]) :: K) σ) :=
  yT_en (f := (173, 0, [some (.inr (.inr 122)), some (.inl x1), none, none], [])) rfl (yI_aload_n zi_173_0 rfl <| yI_iload_n zi_173_1 rfl <| yI_cs zi_173_2 rfl rfl hK)
theorem zr_173_5 {K : List zF} {σ : zW} {x1 : Int} {o2 : Option zV} {o3 : Option zV} {v : Int} (hK : K.length < 60) : zRet true ((173, 5, [some (.inr (.inr 122)), some (.inl x1), o2, o3], [.inr (.inr 122)]) :: K) (some (.inl v)) σ = (zEv true (zent 141 [.inr (.inr 122), .inl (if v = 0 then 1 else 0 : Int)] :: (173, 16, [some (.inr (.inr 122)), some (.inl x1), o2, o3], []) :: K) σ) :=
  yT_rt (yI_if_eq zi_173_5 <| yMi0 (j := 13) (ls2 := [some (.inr (.inr 122)), some (.inl x1), o2, o3]) (st2 := [.inr (.inr 122)]) (x := 1) (y := 0) (σ2 := σ) (yI_iconst zi_173_12 <| rfl) (yI_iconst zi_173_8 <| yI_goto zi_173_9 <| rfl) <| yI_cv zi_173_13 rfl rfl zk_122 hK)
theorem zr_173_16 {K : List zF} {σ : zW} {x1 : Int} {o2 : Option zV} {o3 : Option zV} {v : Int} (hK : K.length < 60) : zRet true ((173, 16, [some (.inr (.inr 122)), some (.inl x1), o2, o3], []) :: K) (some (.inl v)) σ = (if ¬ v = 0 then zEv true (zent 172 [.inr (.inr 122)] :: (173, 30, [some (.inr (.inr 122)), some (.inl x1), o2, o3], []) :: K) σ else zRet true K (some (.inl 0)) (sI σ 122 1 0)) :=
  yT_rt (yI_if_ne zi_173_16 <| yBr (yI_aload_n zi_173_26 rfl <| yI_cv zi_173_27 rfl rfl zk_122 hK) (yI_aload_n zi_173_19 rfl <| yI_iconst zi_173_20 <| yI_pf_i zi_173_21 zk_122 <| yI_iconst zi_173_24 <| yI_ireturn zi_173_25))
theorem zr_173_30 {K : List zF} {σ : zW} {x1 : Int} {o2 : Option zV} {o3 : Option zV} (hK : K.length < 60) : zRet true ((173, 30, [some (.inr (.inr 122)), some (.inl x1), o2, o3], []) :: K) none σ = (zEv true (zent 153 [.inr (.inr 122)] :: (173, 34, [some (.inr (.inr 122)), some (.inl x1), o2, o3], []) :: K) σ) :=
  yT_rv (yI_aload_n zi_173_30 rfl <| yI_cv zi_173_31 rfl rfl zk_122 hK)
theorem zr_173_34 {K : List zF} {σ : zW} {x1 : Int} {o2 : Option zV} {o3 : Option zV} {v : Int} (hK : K.length < 60) : zRet true ((173, 34, [some (.inr (.inr 122)), some (.inl x1), o2, o3], []) :: K) (some (.inl v)) σ = (zEv true (zent 171 [.inr (.inr 122), .inl v] :: (173, 41, [some (.inr (.inr 122)), some (.inl x1), some (.inl v), o3], [.inr (.inr 122)]) :: K) σ) :=
  yT_rt (yI_istore_n (l := [some (.inr (.inr 122)), some (.inl x1), some (.inl v), o3]) zi_173_34 rfl rfl <| yI_aload_n zi_173_35 rfl <| yI_aload_n zi_173_36 rfl <| yI_iload_n zi_173_37 rfl <| yI_cv zi_173_38 rfl rfl zk_122 hK)
theorem zr_173_41 {K : List zF} {σ : zW} {x1 : Int} {o2 : Option zV} {o3 : Option zV} {v : Int} (hK : K.length < 60) : zRet true ((173, 41, [some (.inr (.inr 122)), some (.inl x1), o2, o3], [.inr (.inr 122)]) :: K) (some (.inl v)) σ = (zEv true (zent 141 [.inr (.inr 122), .inl (if v = 0 then 2 else 0 : Int)] :: (173, 52, [some (.inr (.inr 122)), some (.inl x1), o2, o3], []) :: K) σ) :=
  yT_rt (yI_if_eq zi_173_41 <| yMi0 (j := 49) (ls2 := [some (.inr (.inr 122)), some (.inl x1), o2, o3]) (st2 := [.inr (.inr 122)]) (x := 2) (y := 0) (σ2 := σ) (yI_iconst zi_173_48 <| rfl) (yI_iconst zi_173_44 <| yI_goto zi_173_45 <| rfl) <| yI_cv zi_173_49 rfl rfl zk_122 hK)
theorem zr_173_52 {K : List zF} {σ : zW} {x1 : Int} {o2 : Option zV} {o3 : Option zV} {v : Int} : zRet true ((173, 52, [some (.inr (.inr 122)), some (.inl x1), o2, o3], []) :: K) (some (.inl v)) σ = (if ¬ v = 0 then (0 ≤ x1 ∧ x1 < 3) ∧ zEv true ((173, 69, [some (.inr (.inr 122)), some (.inl x1), (zcut 0 o2), some (.inl 0)], []) :: K) (sI σ 124 x1.toNat (gI σ 122 13)) else zRet true K (some (.inl 0)) σ) :=
  yT_rt (yI_if_ne zi_173_52 <| yBr (yI_aload_n zi_173_57 rfl <| yI_gf_f (v := 124) zi_173_58 zk_122 rfl <| yI_iload_n zi_173_61 rfl <| yI_aload_n zi_173_62 rfl <| yI_gf_i (v := gI σ 122 13) zi_173_63 zk_122 rfl <| yI_iastorec zi_173_66 za_124 <| yI_iconst zi_173_67 <| yI_istore_n (l := [some (.inr (.inr 122)), some (.inl x1), (zcut 0 o2), some (.inl 0)]) zi_173_68 rfl rfl <| rfl) (yI_iconst zi_173_55 <| yI_ireturn zi_173_56))
theorem zj_173_69 {K : List zF} {σ : zW} {x1 : Int} {o2 : Option zV} {x3 : Int} (hK : K.length < 60) : zEv true ((173, 69, [some (.inr (.inr 122)), some (.inl x1), o2, some (.inl x3)], []) :: K) σ = (if (gI σ 122 13) ≤ x3 then zEv true (zent 244 [.inr (.inr 122), .inl x1] :: (173, 122, [some (.inr (.inr 122)), some (.inl x1), o2, some (.inl x3)], []) :: K) σ else (0 ≤ x3 ∧ x3 < 20) ∧ ((0 ≤ (w32 ((w32 (20 * x1)) + x3)) ∧ (w32 ((w32 (20 * x1)) + x3)) < 60) ∧ ((0 ≤ x3 ∧ x3 < 20) ∧ ((0 ≤ (w32 ((w32 (20 * x1)) + x3)) ∧ (w32 ((w32 (20 * x1)) + x3)) < 60) ∧ zEv true ((173, 69, [some (.inr (.inr 122)), some (.inl x1), (zcut 0 o2), some (.inl (w32 (x3 + 1)))], []) :: K) (sI (sL σ 125 ((w32 ((w32 (20 * x1)) + x3)).toNat) (gL σ 127 x3.toNat)) 126 ((w32 ((w32 (20 * x1)) + x3)).toNat) (gI σ 128 x3.toNat)))))) :=
  yI_iload_n zi_173_69 rfl <| yI_aload_n zi_173_70 rfl <| yI_gf_i (v := gI σ 122 13) zi_173_71 zk_122 rfl <| yI_ic_ge zi_173_74 <| yBr (yI_aload_n zi_173_117 rfl <| yI_iload_n zi_173_118 rfl <| yI_cv zi_173_119 rfl rfl zk_122 hK) (yI_aload_n zi_173_77 rfl <| yI_gf_f (v := 125) zi_173_78 zk_122 rfl <| yI_bipush zi_173_81 <| yI_iload_n zi_173_83 rfl <| yI_imul zi_173_84 <| yI_iload_n zi_173_85 rfl <| yI_iadd zi_173_86 <| yI_aload_n zi_173_87 rfl <| yI_gf_f (v := 127) zi_173_88 zk_122 rfl <| yI_iload_n zi_173_91 rfl <| yI_laloadc (v := gL σ 127 x3.toNat) zi_173_92 za_127 rfl <| yI_lastorec zi_173_93 za_125 <| yI_aload_n zi_173_94 rfl <| yI_gf_f (v := 126) zi_173_95 zk_122 rfl <| yI_bipush zi_173_98 <| yI_iload_n zi_173_100 rfl <| yI_imul zi_173_101 <| yI_iload_n zi_173_102 rfl <| yI_iadd zi_173_103 <| yI_aload_n zi_173_104 rfl <| yI_gf_f (v := 128) zi_173_105 zk_122 rfl <| yI_iload_n zi_173_108 rfl <| yI_ialoadc (v := gI σ 128 x3.toNat) zi_173_109 za_128 rfl <| yI_iastorec zi_173_110 za_126 <| yI_iinc (l := [some (.inr (.inr 122)), some (.inl x1), (zcut 0 o2), some (.inl (w32 (x3 + 1)))]) zi_173_111 rfl rfl rfl <| yI_goto zi_173_114 <| rfl)
theorem zr_173_122 {K : List zF} {σ : zW} {o1 : Option zV} {o2 : Option zV} {o3 : Option zV} : zRet true ((173, 122, [some (.inr (.inr 122)), o1, o2, o3], []) :: K) none σ = (zRet true K (some (.inl (gI σ 122 13))) σ) :=
  yT_rv (yI_aload_n zi_173_122 rfl <| yI_gf_i (v := gI σ 122 13) zi_173_123 zk_122 rfl <| yI_ireturn zi_173_126)
/-- 174 TreegrabModel.pattern()I -/
theorem zi_174_0 : zraw 174 0 = some (.aload_n 0, 1) ∧ 0 + 1 = 1 := by decide +kernel
theorem zi_174_1 : zraw 174 1 = some (.invokevirtual 361, 3) ∧ zmt (zinf 174).1 361 = some 172 ∧ Nat.ble 9000 172 = false ∧ zinf 172 = (10, 1, 1, 0, 0) ∧ 1 + 3 = 4 := by decide +kernel
theorem zi_174_4 : zraw 174 4 = some (.aload_n 0, 1) ∧ 4 + 1 = 5 := by decide +kernel
theorem zi_174_5 : zraw 174 5 = some (.invokevirtual 374, 3) ∧ zmt (zinf 174).1 374 = some 162 ∧ Nat.ble 9000 162 = false ∧ zinf 162 = (10, 1, 6, 2, 0) ∧ 5 + 3 = 8 := by decide +kernel
theorem zi_174_8 : zraw 174 8 = some (.istore_n 1, 1) ∧ 8 + 1 = 9 := by decide +kernel
theorem zi_174_9 : zraw 174 9 = some (.aload_n 0, 1) ∧ 9 + 1 = 10 := by decide +kernel
theorem zi_174_10 : zraw 174 10 = some (.aload_n 0, 1) ∧ 10 + 1 = 11 := by decide +kernel
theorem zi_174_11 : zraw 174 11 = some (.iload_n 1, 1) ∧ 11 + 1 = 12 := by decide +kernel
theorem zi_174_12 : zraw 174 12 = some (.invokevirtual 367, 3) ∧ zmt (zinf 174).1 367 = some 171 ∧ Nat.ble 9000 171 = false ∧ zinf 171 = (10, 2, 2, 2, 0) ∧ 12 + 3 = 15 := by decide +kernel
theorem zi_174_15 : zraw 174 15 = some (.ifCond .eq 7, 3) ∧ ((15 : Nat) : Int) + 7 = Int.ofNat 22 ∧ 15 + 3 = 18 := by decide +kernel
theorem zi_174_18 : zraw 174 18 = some (.iconst 0, 1) ∧ zin 128 0 = true ∧ 18 + 1 = 19 := by decide +kernel
theorem zi_174_19 : zraw 174 19 = some (.goto 4, 3) ∧ ((19 : Nat) : Int) + 4 = Int.ofNat 23 := by decide +kernel
theorem zi_174_22 : zraw 174 22 = some (.iconst 1, 1) ∧ zin 128 1 = true ∧ 22 + 1 = 23 := by decide +kernel
theorem zi_174_23 : zraw 174 23 = some (.invokevirtual 353, 3) ∧ zmt (zinf 174).1 353 = some 141 ∧ Nat.ble 9000 141 = false ∧ zinf 141 = (10, 2, 2, 2, 0) ∧ 23 + 3 = 26 := by decide +kernel
theorem zi_174_26 : zraw 174 26 = some (.ifCond .ne 5, 3) ∧ ((26 : Nat) : Int) + 5 = Int.ofNat 31 ∧ 26 + 3 = 29 := by decide +kernel
theorem zi_174_29 : zraw 174 29 = some (.iconst 0, 1) ∧ zin 128 0 = true ∧ 29 + 1 = 30 := by decide +kernel
theorem zi_174_30 : zraw 174 30 = some (.ireturn, 1) ∧ (zinf 174).2.2.2.1 = 1 := by decide +kernel
theorem zi_174_31 : zraw 174 31 = some (.aload_n 0, 1) ∧ 31 + 1 = 32 := by decide +kernel
theorem zi_174_32 : zraw 174 32 = some (.invokevirtual 377, 3) ∧ zmt (zinf 174).1 377 = some 163 ∧ Nat.ble 9000 163 = false ∧ zinf 163 = (10, 1, 2, 0, 0) ∧ 32 + 3 = 35 := by decide +kernel
theorem zi_174_35 : zraw 174 35 = some (.aload_n 0, 1) ∧ 35 + 1 = 36 := by decide +kernel
theorem zi_174_36 : zraw 174 36 = some (.getfield 312, 3) ∧ zft (zinf 174).1 312 = some (10, 34, 0, false) ∧ 36 + 3 = 39 := by decide +kernel
theorem zi_174_39 : zraw 174 39 = some (.ireturn, 1) ∧ (zinf 174).2.2.2.1 = 1 := by decide +kernel
theorem ze_174 {K : List zF} {σ : zW} (hK : K.length < 60) : zEv true (zent 174 [.inr (.inr 122)] :: K) σ = (zEv true (zent 172 [.inr (.inr 122)] :: (174, 4, [some (.inr (.inr 122)), none], []) :: K) σ) :=
  yT_en (f := (174, 0, [some (.inr (.inr 122)), none], [])) rfl (yI_aload_n zi_174_0 rfl <| yI_cv zi_174_1 rfl rfl zk_122 hK)
theorem zr_174_4 {K : List zF} {σ : zW} {o1 : Option zV} (hK : K.length < 60) : zRet true ((174, 4, [some (.inr (.inr 122)), o1], []) :: K) none σ = (zEv true (zent 162 [.inr (.inr 122)] :: (174, 8, [some (.inr (.inr 122)), o1], []) :: K) σ) :=
  yT_rv (yI_aload_n zi_174_4 rfl <| yI_cv zi_174_5 rfl rfl zk_122 hK)
theorem zr_174_8 {K : List zF} {σ : zW} {o1 : Option zV} {v : Int} (hK : K.length < 60) : zRet true ((174, 8, [some (.inr (.inr 122)), o1], []) :: K) (some (.inl v)) σ = (zEv true (zent 171 [.inr (.inr 122), .inl v] :: (174, 15, [some (.inr (.inr 122)), some (.inl v)], [.inr (.inr 122)]) :: K) σ) :=
  yT_rt (yI_istore_n (l := [some (.inr (.inr 122)), some (.inl v)]) zi_174_8 rfl rfl <| yI_aload_n zi_174_9 rfl <| yI_aload_n zi_174_10 rfl <| yI_iload_n zi_174_11 rfl <| yI_cv zi_174_12 rfl rfl zk_122 hK)
theorem zr_174_15 {K : List zF} {σ : zW} {o1 : Option zV} {v : Int} (hK : K.length < 60) : zRet true ((174, 15, [some (.inr (.inr 122)), o1], [.inr (.inr 122)]) :: K) (some (.inl v)) σ = (zEv true (zent 141 [.inr (.inr 122), .inl (if v = 0 then 1 else 0 : Int)] :: (174, 26, [some (.inr (.inr 122)), o1], []) :: K) σ) :=
  yT_rt (yI_if_eq zi_174_15 <| yMi0 (j := 23) (ls2 := [some (.inr (.inr 122)), o1]) (st2 := [.inr (.inr 122)]) (x := 1) (y := 0) (σ2 := σ) (yI_iconst zi_174_22 <| rfl) (yI_iconst zi_174_18 <| yI_goto zi_174_19 <| rfl) <| yI_cv zi_174_23 rfl rfl zk_122 hK)
theorem zr_174_26 {K : List zF} {σ : zW} {o1 : Option zV} {v : Int} (hK : K.length < 60) : zRet true ((174, 26, [some (.inr (.inr 122)), o1], []) :: K) (some (.inl v)) σ = (if ¬ v = 0 then zEv true (zent 163 [.inr (.inr 122)] :: (174, 35, [some (.inr (.inr 122)), o1], []) :: K) σ else zRet true K (some (.inl 0)) σ) :=
  yT_rt (yI_if_ne zi_174_26 <| yBr (yI_aload_n zi_174_31 rfl <| yI_cv zi_174_32 rfl rfl zk_122 hK) (yI_iconst zi_174_29 <| yI_ireturn zi_174_30))
theorem zr_174_35 {K : List zF} {σ : zW} {o1 : Option zV} : zRet true ((174, 35, [some (.inr (.inr 122)), o1], []) :: K) none σ = (zRet true K (some (.inl (gI σ 122 34))) σ) :=
  yT_rv (yI_aload_n zi_174_35 rfl <| yI_gf_i (v := gI σ 122 34) zi_174_36 zk_122 rfl <| yI_ireturn zi_174_39)
/-- 175 TreegrabModel.script()I -/
theorem zi_175_0 : zraw 175 0 = some (.aload_n 0, 1) ∧ 0 + 1 = 1 := by decide +kernel
theorem zi_175_1 : zraw 175 1 = some (.invokevirtual 361, 3) ∧ zmt (zinf 175).1 361 = some 172 ∧ Nat.ble 9000 172 = false ∧ zinf 172 = (10, 1, 1, 0, 0) ∧ 1 + 3 = 4 := by decide +kernel
theorem zi_175_4 : zraw 175 4 = some (.aload_n 0, 1) ∧ 4 + 1 = 5 := by decide +kernel
theorem zi_175_5 : zraw 175 5 = some (.invokevirtual 380, 3) ∧ zmt (zinf 175).1 380 = some 168 ∧ Nat.ble 9000 168 = false ∧ zinf 168 = (10, 1, 2, 2, 0) ∧ 5 + 3 = 8 := by decide +kernel
theorem zi_175_8 : zraw 175 8 = some (.istore_n 1, 1) ∧ 8 + 1 = 9 := by decide +kernel
theorem zi_175_9 : zraw 175 9 = some (.aload_n 0, 1) ∧ 9 + 1 = 10 := by decide +kernel
theorem zi_175_10 : zraw 175 10 = some (.aload_n 0, 1) ∧ 10 + 1 = 11 := by decide +kernel
theorem zi_175_11 : zraw 175 11 = some (.iload_n 1, 1) ∧ 11 + 1 = 12 := by decide +kernel
theorem zi_175_12 : zraw 175 12 = some (.invokevirtual 367, 3) ∧ zmt (zinf 175).1 367 = some 171 ∧ Nat.ble 9000 171 = false ∧ zinf 171 = (10, 2, 2, 2, 0) ∧ 12 + 3 = 15 := by decide +kernel
theorem zi_175_15 : zraw 175 15 = some (.ifCond .eq 7, 3) ∧ ((15 : Nat) : Int) + 7 = Int.ofNat 22 ∧ 15 + 3 = 18 := by decide +kernel
theorem zi_175_18 : zraw 175 18 = some (.iconst 0, 1) ∧ zin 128 0 = true ∧ 18 + 1 = 19 := by decide +kernel
theorem zi_175_19 : zraw 175 19 = some (.goto 4, 3) ∧ ((19 : Nat) : Int) + 4 = Int.ofNat 23 := by decide +kernel
theorem zi_175_22 : zraw 175 22 = some (.iconst 1, 1) ∧ zin 128 1 = true ∧ 22 + 1 = 23 := by decide +kernel
theorem zi_175_23 : zraw 175 23 = some (.invokevirtual 353, 3) ∧ zmt (zinf 175).1 353 = some 141 ∧ Nat.ble 9000 141 = false ∧ zinf 141 = (10, 2, 2, 2, 0) ∧ 23 + 3 = 26 := by decide +kernel
theorem zi_175_26 : zraw 175 26 = some (.ifCond .ne 5, 3) ∧ ((26 : Nat) : Int) + 5 = Int.ofNat 31 ∧ 26 + 3 = 29 := by decide +kernel
theorem zi_175_29 : zraw 175 29 = some (.iconst 0, 1) ∧ zin 128 0 = true ∧ 29 + 1 = 30 := by decide +kernel
theorem zi_175_30 : zraw 175 30 = some (.ireturn, 1) ∧ (zinf 175).2.2.2.1 = 1 := by decide +kernel
theorem zi_175_31 : zraw 175 31 = some (.aload_n 0, 1) ∧ 31 + 1 = 32 := by decide +kernel
theorem zi_175_32 : zraw 175 32 = some (.invokevirtual 383, 3) ∧ zmt (zinf 175).1 383 = some 169 ∧ Nat.ble 9000 169 = false ∧ zinf 169 = (10, 1, 2, 0, 0) ∧ 32 + 3 = 35 := by decide +kernel
theorem zi_175_35 : zraw 175 35 = some (.aload_n 0, 1) ∧ 35 + 1 = 36 := by decide +kernel
theorem zi_175_36 : zraw 175 36 = some (.getfield 350, 3) ∧ zft (zinf 175).1 350 = some (10, 52, 0, false) ∧ 36 + 3 = 39 := by decide +kernel
theorem zi_175_39 : zraw 175 39 = some (.ireturn, 1) ∧ (zinf 175).2.2.2.1 = 1 := by decide +kernel
theorem ze_175 {K : List zF} {σ : zW} (hK : K.length < 60) : zEv true (zent 175 [.inr (.inr 122)] :: K) σ = (zEv true (zent 172 [.inr (.inr 122)] :: (175, 4, [some (.inr (.inr 122)), none], []) :: K) σ) :=
  yT_en (f := (175, 0, [some (.inr (.inr 122)), none], [])) rfl (yI_aload_n zi_175_0 rfl <| yI_cv zi_175_1 rfl rfl zk_122 hK)
theorem zr_175_4 {K : List zF} {σ : zW} {o1 : Option zV} (hK : K.length < 60) : zRet true ((175, 4, [some (.inr (.inr 122)), o1], []) :: K) none σ = (zEv true (zent 168 [.inr (.inr 122)] :: (175, 8, [some (.inr (.inr 122)), o1], []) :: K) σ) :=
  yT_rv (yI_aload_n zi_175_4 rfl <| yI_cv zi_175_5 rfl rfl zk_122 hK)
theorem zr_175_8 {K : List zF} {σ : zW} {o1 : Option zV} {v : Int} (hK : K.length < 60) : zRet true ((175, 8, [some (.inr (.inr 122)), o1], []) :: K) (some (.inl v)) σ = (zEv true (zent 171 [.inr (.inr 122), .inl v] :: (175, 15, [some (.inr (.inr 122)), some (.inl v)], [.inr (.inr 122)]) :: K) σ) :=
  yT_rt (yI_istore_n (l := [some (.inr (.inr 122)), some (.inl v)]) zi_175_8 rfl rfl <| yI_aload_n zi_175_9 rfl <| yI_aload_n zi_175_10 rfl <| yI_iload_n zi_175_11 rfl <| yI_cv zi_175_12 rfl rfl zk_122 hK)
theorem zr_175_15 {K : List zF} {σ : zW} {o1 : Option zV} {v : Int} (hK : K.length < 60) : zRet true ((175, 15, [some (.inr (.inr 122)), o1], [.inr (.inr 122)]) :: K) (some (.inl v)) σ = (zEv true (zent 141 [.inr (.inr 122), .inl (if v = 0 then 1 else 0 : Int)] :: (175, 26, [some (.inr (.inr 122)), o1], []) :: K) σ) :=
  yT_rt (yI_if_eq zi_175_15 <| yMi0 (j := 23) (ls2 := [some (.inr (.inr 122)), o1]) (st2 := [.inr (.inr 122)]) (x := 1) (y := 0) (σ2 := σ) (yI_iconst zi_175_22 <| rfl) (yI_iconst zi_175_18 <| yI_goto zi_175_19 <| rfl) <| yI_cv zi_175_23 rfl rfl zk_122 hK)
theorem zr_175_26 {K : List zF} {σ : zW} {o1 : Option zV} {v : Int} (hK : K.length < 60) : zRet true ((175, 26, [some (.inr (.inr 122)), o1], []) :: K) (some (.inl v)) σ = (if ¬ v = 0 then zEv true (zent 169 [.inr (.inr 122)] :: (175, 35, [some (.inr (.inr 122)), o1], []) :: K) σ else zRet true K (some (.inl 0)) σ) :=
  yT_rt (yI_if_ne zi_175_26 <| yBr (yI_aload_n zi_175_31 rfl <| yI_cv zi_175_32 rfl rfl zk_122 hK) (yI_iconst zi_175_29 <| yI_ireturn zi_175_30))
theorem zr_175_35 {K : List zF} {σ : zW} {o1 : Option zV} : zRet true ((175, 35, [some (.inr (.inr 122)), o1], []) :: K) none σ = (zRet true K (some (.inl (gI σ 122 52))) σ) :=
  yT_rv (yI_aload_n zi_175_35 rfl <| yI_gf_i (v := gI σ 122 52) zi_175_36 zk_122 rfl <| yI_ireturn zi_175_39)
/-- 176 TreegrabModel.fault(Z)I -/
theorem zi_176_0 : zraw 176 0 = some (.aload_n 0, 1) ∧ 0 + 1 = 1 := by decide +kernel
theorem zi_176_1 : zraw 176 1 = some (.iconst 0, 1) ∧ zin 128 0 = true ∧ 1 + 1 = 2 := by decide +kernel
theorem zi_176_2 : zraw 176 2 = some (.putfield 205, 3) ∧ zft (zinf 176).1 205 = some (10, 88, 0, false) ∧ 2 + 3 = 5 := by decide +kernel
theorem zi_176_5 : zraw 176 5 = some (.iload_n 1, 1) ∧ 5 + 1 = 6 := by decide +kernel
theorem zi_176_6 : zraw 176 6 = some (.ifCond .eq 10, 3) ∧ ((6 : Nat) : Int) + 10 = Int.ofNat 16 ∧ 6 + 3 = 9 := by decide +kernel
theorem zi_176_9 : zraw 176 9 = some (.aload_n 0, 1) ∧ 9 + 1 = 10 := by decide +kernel
theorem zi_176_10 : zraw 176 10 = some (.getfield 229, 3) ∧ zft (zinf 176).1 229 = some (10, 7, 0, false) ∧ 10 + 3 = 13 := by decide +kernel
theorem zi_176_13 : zraw 176 13 = some (.goto 7, 3) ∧ ((13 : Nat) : Int) + 7 = Int.ofNat 20 := by decide +kernel
theorem zi_176_16 : zraw 176 16 = some (.aload_n 0, 1) ∧ 16 + 1 = 17 := by decide +kernel
theorem zi_176_17 : zraw 176 17 = some (.getfield 226, 3) ∧ zft (zinf 176).1 226 = some (10, 6, 0, false) ∧ 17 + 3 = 20 := by decide +kernel
theorem zi_176_20 : zraw 176 20 = some (.ireturn, 1) ∧ (zinf 176).2.2.2.1 = 1 := by decide +kernel
theorem ze_176 {K : List zF} {σ : zW} {x1 : Int} : zEv true (zent 176 [.inr (.inr 122), .inl x1] :: K) σ = (zRet true K (some (.inl (if x1 = 0 then gI σ 122 6 else gI σ 122 7 : Int))) (sI σ 122 88 0)) :=
  yT_en (f := (176, 0, [some (.inr (.inr 122)), some (.inl x1)], [])) rfl (yI_aload_n zi_176_0 rfl <| yI_iconst zi_176_1 <| yI_pf_i zi_176_2 zk_122 <| yI_iload_n zi_176_5 rfl <| yI_if_eq zi_176_6 <| yMi0 (j := 20) (ls2 := [some (.inr (.inr 122)), some (.inl x1)]) (st2 := []) (x := gI σ 122 6) (y := gI σ 122 7) (σ2 := (sI σ 122 88 0)) (yI_aload_n zi_176_16 rfl <| yI_gf_i (v := gI σ 122 6) zi_176_17 zk_122 (yGI_nj (by decide)) <| rfl) (yI_aload_n zi_176_9 rfl <| yI_gf_i (v := gI σ 122 7) zi_176_10 zk_122 (yGI_nj (by decide)) <| yI_goto zi_176_13 <| rfl) <| yI_ireturn zi_176_20)
/-- 177 TreegrabModel.nodes(I)I -/
theorem zi_177_0 : zraw 177 0 = some (.aload_n 0, 1) ∧ 0 + 1 = 1 := by decide +kernel
theorem zi_177_1 : zraw 177 1 = some (.iload_n 1, 1) ∧ 1 + 1 = 2 := by decide +kernel
theorem zi_177_2 : zraw 177 2 = some (.invokestatic 358, 3) ∧ zmt (zinf 177).1 358 = some 143 ∧ Nat.ble 9000 143 = false ∧ zinf 143 = (10, 1, 1, 2, 1) ∧ 2 + 3 = 5 := by decide +kernel
theorem zi_177_5 : zraw 177 5 = some (.ifCond .eq 7, 3) ∧ ((5 : Nat) : Int) + 7 = Int.ofNat 12 ∧ 5 + 3 = 8 := by decide +kernel
theorem zi_177_8 : zraw 177 8 = some (.iconst 0, 1) ∧ zin 128 0 = true ∧ 8 + 1 = 9 := by decide +kernel
theorem zi_177_9 : zraw 177 9 = some (.goto 4, 3) ∧ ((9 : Nat) : Int) + 4 = Int.ofNat 13 := by decide +kernel
theorem zi_177_12 : zraw 177 12 = some (.iconst 1, 1) ∧ zin 128 1 = true ∧ 12 + 1 = 13 := by decide +kernel
theorem zi_177_13 : zraw 177 13 = some (.invokevirtual 353, 3) ∧ zmt (zinf 177).1 353 = some 141 ∧ Nat.ble 9000 141 = false ∧ zinf 141 = (10, 2, 2, 2, 0) ∧ 13 + 3 = 16 := by decide +kernel
theorem zi_177_16 : zraw 177 16 = some (.ifCond .eq 12, 3) ∧ ((16 : Nat) : Int) + 12 = Int.ofNat 28 ∧ 16 + 3 = 19 := by decide +kernel
theorem zi_177_19 : zraw 177 19 = some (.aload_n 0, 1) ∧ 19 + 1 = 20 := by decide +kernel
theorem zi_177_20 : zraw 177 20 = some (.getfield 13, 3) ∧ zft (zinf 177).1 13 = some (10, 8, 3, true) ∧ 20 + 3 = 23 := by decide +kernel
theorem zi_177_23 : zraw 177 23 = some (.iload_n 1, 1) ∧ 23 + 1 = 24 := by decide +kernel
theorem zi_177_24 : zraw 177 24 = some (.iaload, 1) ∧ 24 + 1 = 25 := by decide +kernel
theorem zi_177_25 : zraw 177 25 = some (.goto 4, 3) ∧ ((25 : Nat) : Int) + 4 = Int.ofNat 29 := by decide +kernel
theorem zi_177_28 : zraw 177 28 = some (.iconst 0, 1) ∧ zin 128 0 = true ∧ 28 + 1 = 29 := by decide +kernel
theorem zi_177_29 : zraw 177 29 = some (.ireturn, 1) ∧ (zinf 177).2.2.2.1 = 1 := by decide +kernel
theorem ze_177 {K : List zF} {σ : zW} {x1 : Int} (hK : K.length < 60) : zEv true (zent 177 [.inr (.inr 122), .inl x1] :: K) σ = (zEv true (zent 143 [.inl x1] :: (177, 5, [some (.inr (.inr 122)), some (.inl x1)], [.inr (.inr 122)]) :: K) σ) :=
  yT_en (f := (177, 0, [some (.inr (.inr 122)), some (.inl x1)], [])) rfl (yI_aload_n zi_177_0 rfl <| yI_iload_n zi_177_1 rfl <| yI_cs zi_177_2 rfl rfl hK)
theorem zr_177_5 {K : List zF} {σ : zW} {x1 : Int} {v : Int} (hK : K.length < 60) : zRet true ((177, 5, [some (.inr (.inr 122)), some (.inl x1)], [.inr (.inr 122)]) :: K) (some (.inl v)) σ = (zEv true (zent 141 [.inr (.inr 122), .inl (if v = 0 then 1 else 0 : Int)] :: (177, 16, [some (.inr (.inr 122)), some (.inl x1)], []) :: K) σ) :=
  yT_rt (yI_if_eq zi_177_5 <| yMi0 (j := 13) (ls2 := [some (.inr (.inr 122)), some (.inl x1)]) (st2 := [.inr (.inr 122)]) (x := 1) (y := 0) (σ2 := σ) (yI_iconst zi_177_12 <| rfl) (yI_iconst zi_177_8 <| yI_goto zi_177_9 <| rfl) <| yI_cv zi_177_13 rfl rfl zk_122 hK)
theorem zr_177_16 {K : List zF} {σ : zW} {x1 : Int} {v : Int} : zRet true ((177, 16, [some (.inr (.inr 122)), some (.inl x1)], []) :: K) (some (.inl v)) σ = ((¬ (v = 0) → (0 ≤ x1 ∧ x1 < 3)) ∧ zRet true K (some (.inl (if v = 0 then 0 else gI σ 124 x1.toNat : Int))) σ) :=
  yT_rt (yI_if_eq zi_177_16 <| yMi2 (j := 29) (ls2 := [some (.inr (.inr 122)), some (.inl x1)]) (st2 := []) (x := 0) (y := gI σ 124 x1.toNat) (σ2 := σ) (yI_iconst zi_177_28 <| rfl) (yI_aload_n zi_177_19 rfl <| yI_gf_f (v := 124) zi_177_20 zk_122 rfl <| yI_iload_n zi_177_23 rfl <| yI_ialoadc (v := gI σ 124 x1.toNat) zi_177_24 za_124 rfl <| yI_goto zi_177_25 <| rfl) <| yI_ireturn zi_177_29)
/-- 178 TreegrabModel.asks(II)Z -/
theorem zi_178_0 : zraw 178 0 = some (.iload_n 1, 1) ∧ 0 + 1 = 1 := by decide +kernel
theorem zi_178_1 : zraw 178 1 = some (.invokestatic 358, 3) ∧ zmt (zinf 178).1 358 = some 143 ∧ Nat.ble 9000 143 = false ∧ zinf 143 = (10, 1, 1, 2, 1) ∧ 1 + 3 = 4 := by decide +kernel
theorem zi_178_4 : zraw 178 4 = some (.ifCond .eq 11, 3) ∧ ((4 : Nat) : Int) + 11 = Int.ofNat 15 ∧ 4 + 3 = 7 := by decide +kernel
theorem zi_178_7 : zraw 178 7 = some (.iload_n 2, 1) ∧ 7 + 1 = 8 := by decide +kernel
theorem zi_178_8 : zraw 178 8 = some (.ifCond .lt 7, 3) ∧ ((8 : Nat) : Int) + 7 = Int.ofNat 15 ∧ 8 + 3 = 11 := by decide +kernel
theorem zi_178_11 : zraw 178 11 = some (.iconst 1, 1) ∧ zin 128 1 = true ∧ 11 + 1 = 12 := by decide +kernel
theorem zi_178_12 : zraw 178 12 = some (.goto 4, 3) ∧ ((12 : Nat) : Int) + 4 = Int.ofNat 16 := by decide +kernel
theorem zi_178_15 : zraw 178 15 = some (.iconst 0, 1) ∧ zin 128 0 = true ∧ 15 + 1 = 16 := by decide +kernel
theorem zi_178_16 : zraw 178 16 = some (.istore_n 3, 1) ∧ 16 + 1 = 17 := by decide +kernel
theorem zi_178_17 : zraw 178 17 = some (.aload_n 0, 1) ∧ 17 + 1 = 18 := by decide +kernel
theorem zi_178_18 : zraw 178 18 = some (.iload_n 3, 1) ∧ 18 + 1 = 19 := by decide +kernel
theorem zi_178_19 : zraw 178 19 = some (.ifCond .eq 17, 3) ∧ ((19 : Nat) : Int) + 17 = Int.ofNat 36 ∧ 19 + 3 = 22 := by decide +kernel
theorem zi_178_22 : zraw 178 22 = some (.iload_n 2, 1) ∧ 22 + 1 = 23 := by decide +kernel
theorem zi_178_23 : zraw 178 23 = some (.aload_n 0, 1) ∧ 23 + 1 = 24 := by decide +kernel
theorem zi_178_24 : zraw 178 24 = some (.getfield 13, 3) ∧ zft (zinf 178).1 13 = some (10, 8, 3, true) ∧ 24 + 3 = 27 := by decide +kernel
theorem zi_178_27 : zraw 178 27 = some (.iload_n 1, 1) ∧ 27 + 1 = 28 := by decide +kernel
theorem zi_178_28 : zraw 178 28 = some (.iaload, 1) ∧ 28 + 1 = 29 := by decide +kernel
theorem zi_178_29 : zraw 178 29 = some (.if_icmp .ge 7, 3) ∧ ((29 : Nat) : Int) + 7 = Int.ofNat 36 ∧ 29 + 3 = 32 := by decide +kernel
theorem zi_178_32 : zraw 178 32 = some (.iconst 0, 1) ∧ zin 128 0 = true ∧ 32 + 1 = 33 := by decide +kernel
theorem zi_178_33 : zraw 178 33 = some (.goto 4, 3) ∧ ((33 : Nat) : Int) + 4 = Int.ofNat 37 := by decide +kernel
theorem zi_178_36 : zraw 178 36 = some (.iconst 1, 1) ∧ zin 128 1 = true ∧ 36 + 1 = 37 := by decide +kernel
theorem zi_178_37 : zraw 178 37 = some (.invokevirtual 353, 3) ∧ zmt (zinf 178).1 353 = some 141 ∧ Nat.ble 9000 141 = false ∧ zinf 141 = (10, 2, 2, 2, 0) ∧ 37 + 3 = 40 := by decide +kernel
theorem zi_178_40 : zraw 178 40 = some (.ireturn, 1) ∧ (zinf 178).2.2.2.1 = 2 := by decide +kernel
theorem ze_178 {K : List zF} {σ : zW} {x1 : Int} {x2 : Int} (hK : K.length < 60) : zEv true (zent 178 [.inr (.inr 122), .inl x1, .inl x2] :: K) σ = (zEv true (zent 143 [.inl x1] :: (178, 4, [some (.inr (.inr 122)), some (.inl x1), some (.inl x2), none], []) :: K) σ) :=
  yT_en (f := (178, 0, [some (.inr (.inr 122)), some (.inl x1), some (.inl x2), none], [])) rfl (yI_iload_n zi_178_0 rfl <| yI_cs zi_178_1 rfl rfl hK)
theorem zr_178_4 {K : List zF} {σ : zW} {x1 : Int} {x2 : Int} {o3 : Option zV} {v : Int} (hK : K.length < 60) : zRet true ((178, 4, [some (.inr (.inr 122)), some (.inl x1), some (.inl x2), o3], []) :: K) (some (.inl v)) σ = (if v = 0 then zEv true ((178, 15, [some (.inr (.inr 122)), some (.inl x1), some (.inl x2), o3], []) :: K) σ else if x2 < 0 then zEv true ((178, 15, [some (.inr (.inr 122)), some (.inl x1), some (.inl x2), o3], []) :: K) σ else (¬ ((1 : Int) = 0) → (0 ≤ x1 ∧ x1 < 3)) ∧ zEv true (zent 141 [.inr (.inr 122), .inl (if (1 : Int) = 0 then 1 else (if (gI σ 124 x1.toNat) ≤ x2 then 1 else 0 : Int) : Int)] :: (178, 40, [some (.inr (.inr 122)), some (.inl x1), some (.inl x2), some (.inl 1)], []) :: K) σ) :=
  yT_rt (yI_if_eq zi_178_4 <| yBr (rfl) (yI_iload_n zi_178_7 rfl <| yI_if_lt zi_178_8 <| yBr (rfl) (yI_iconst zi_178_11 <| yI_goto zi_178_12 <| yI_istore_n (l := [some (.inr (.inr 122)), some (.inl x1), some (.inl x2), some (.inl 1)]) zi_178_16 rfl rfl <| yI_aload_n zi_178_17 rfl <| yI_iload_n zi_178_18 rfl <| yI_if_eq zi_178_19 <| yMi2 (j := 37) (ls2 := [some (.inr (.inr 122)), some (.inl x1), some (.inl x2), some (.inl 1)]) (st2 := [.inr (.inr 122)]) (x := 1) (y := (if (gI σ 124 x1.toNat) ≤ x2 then 1 else 0 : Int)) (σ2 := σ) (yI_iconst zi_178_36 <| rfl) (yI_iload_n zi_178_22 rfl <| yI_aload_n zi_178_23 rfl <| yI_gf_f (v := 124) zi_178_24 zk_122 rfl <| yI_iload_n zi_178_27 rfl <| yI_ialoadc (v := gI σ 124 x1.toNat) zi_178_28 za_124 rfl <| yI_ic_ge zi_178_29 <| yMi0 (j := 37) (ls2 := [some (.inr (.inr 122)), some (.inl x1), some (.inl x2), some (.inl 1)]) (st2 := [.inr (.inr 122)]) (x := 1) (y := 0) (σ2 := σ) (yI_iconst zi_178_36 <| rfl) (yI_iconst zi_178_32 <| yI_goto zi_178_33 <| rfl) <| rfl) <| yI_cv zi_178_37 rfl rfl zk_122 hK)))
theorem zj_178_15 {K : List zF} {σ : zW} {x1 : Int} {x2 : Int} {o3 : Option zV} (hK : K.length < 60) : zEv true ((178, 15, [some (.inr (.inr 122)), some (.inl x1), some (.inl x2), o3], []) :: K) σ = ((¬ ((0 : Int) = 0) → (0 ≤ x1 ∧ x1 < 3)) ∧ zEv true (zent 141 [.inr (.inr 122), .inl (if (0 : Int) = 0 then 1 else (if (gI σ 124 x1.toNat) ≤ x2 then 1 else 0 : Int) : Int)] :: (178, 40, [some (.inr (.inr 122)), some (.inl x1), some (.inl x2), some (.inl 0)], []) :: K) σ) :=
  yI_iconst zi_178_15 <| yI_istore_n (l := [some (.inr (.inr 122)), some (.inl x1), some (.inl x2), some (.inl 0)]) zi_178_16 rfl rfl <| yI_aload_n zi_178_17 rfl <| yI_iload_n zi_178_18 rfl <| yI_if_eq zi_178_19 <| yMi2 (j := 37) (ls2 := [some (.inr (.inr 122)), some (.inl x1), some (.inl x2), some (.inl 0)]) (st2 := [.inr (.inr 122)]) (x := 1) (y := (if (gI σ 124 x1.toNat) ≤ x2 then 1 else 0 : Int)) (σ2 := σ) (yI_iconst zi_178_36 <| rfl) (yI_iload_n zi_178_22 rfl <| yI_aload_n zi_178_23 rfl <| yI_gf_f (v := 124) zi_178_24 zk_122 rfl <| yI_iload_n zi_178_27 rfl <| yI_ialoadc (v := gI σ 124 x1.toNat) zi_178_28 za_124 rfl <| yI_ic_ge zi_178_29 <| yMi0 (j := 37) (ls2 := [some (.inr (.inr 122)), some (.inl x1), some (.inl x2), some (.inl 0)]) (st2 := [.inr (.inr 122)]) (x := 1) (y := 0) (σ2 := σ) (yI_iconst zi_178_36 <| rfl) (yI_iconst zi_178_32 <| yI_goto zi_178_33 <| rfl) <| rfl) <| yI_cv zi_178_37 rfl rfl zk_122 hK
theorem zr_178_40 {K : List zF} {σ : zW} {o0 : Option zV} {o1 : Option zV} {o2 : Option zV} {o3 : Option zV} {v : Int} : zRet true ((178, 40, [o0, o1, o2, o3], []) :: K) (some (.inl v)) σ = ((v = 0 ∨ v = 1) ∧ zRet true K (some (.inl v)) σ) :=
  yT_rt (yI_zreturnc zi_178_40)
/-- 179 TreegrabModel.parent(II)I -/
theorem zi_179_0 : zraw 179 0 = some (.aload_n 0, 1) ∧ 0 + 1 = 1 := by decide +kernel
theorem zi_179_1 : zraw 179 1 = some (.iload_n 1, 1) ∧ 1 + 1 = 2 := by decide +kernel
theorem zi_179_2 : zraw 179 2 = some (.iload_n 2, 1) ∧ 2 + 1 = 3 := by decide +kernel
theorem zi_179_3 : zraw 179 3 = some (.invokevirtual 386, 3) ∧ zmt (zinf 179).1 386 = some 178 ∧ Nat.ble 9000 178 = false ∧ zinf 178 = (10, 3, 4, 2, 0) ∧ 3 + 3 = 6 := by decide +kernel
theorem zi_179_6 : zraw 179 6 = some (.ifCond .eq 17, 3) ∧ ((6 : Nat) : Int) + 17 = Int.ofNat 23 ∧ 6 + 3 = 9 := by decide +kernel
theorem zi_179_9 : zraw 179 9 = some (.aload_n 0, 1) ∧ 9 + 1 = 10 := by decide +kernel
theorem zi_179_10 : zraw 179 10 = some (.getfield 20, 3) ∧ zft (zinf 179).1 20 = some (10, 10, 3, true) ∧ 10 + 3 = 13 := by decide +kernel
theorem zi_179_13 : zraw 179 13 = some (.bipush 20, 2) ∧ zin 128 20 = true ∧ 13 + 2 = 15 := by decide +kernel
theorem zi_179_15 : zraw 179 15 = some (.iload_n 1, 1) ∧ 15 + 1 = 16 := by decide +kernel
theorem zi_179_16 : zraw 179 16 = some (.imul, 1) ∧ 16 + 1 = 17 := by decide +kernel
theorem zi_179_17 : zraw 179 17 = some (.iload_n 2, 1) ∧ 17 + 1 = 18 := by decide +kernel
theorem zi_179_18 : zraw 179 18 = some (.iadd, 1) ∧ 18 + 1 = 19 := by decide +kernel
theorem zi_179_19 : zraw 179 19 = some (.iaload, 1) ∧ 19 + 1 = 20 := by decide +kernel
theorem zi_179_20 : zraw 179 20 = some (.goto 4, 3) ∧ ((20 : Nat) : Int) + 4 = Int.ofNat 24 := by decide +kernel
theorem zi_179_23 : zraw 179 23 = some (.iconst 0, 1) ∧ zin 128 0 = true ∧ 23 + 1 = 24 := by decide +kernel
theorem zi_179_24 : zraw 179 24 = some (.ireturn, 1) ∧ (zinf 179).2.2.2.1 = 1 := by decide +kernel
theorem ze_179 {K : List zF} {σ : zW} {x1 : Int} {x2 : Int} (hK : K.length < 60) : zEv true (zent 179 [.inr (.inr 122), .inl x1, .inl x2] :: K) σ = (zEv true (zent 178 [.inr (.inr 122), .inl x1, .inl x2] :: (179, 6, [some (.inr (.inr 122)), some (.inl x1), some (.inl x2)], []) :: K) σ) :=
  yT_en (f := (179, 0, [some (.inr (.inr 122)), some (.inl x1), some (.inl x2)], [])) rfl (yI_aload_n zi_179_0 rfl <| yI_iload_n zi_179_1 rfl <| yI_iload_n zi_179_2 rfl <| yI_cv zi_179_3 rfl rfl zk_122 hK)
theorem zr_179_6 {K : List zF} {σ : zW} {x1 : Int} {x2 : Int} {v : Int} : zRet true ((179, 6, [some (.inr (.inr 122)), some (.inl x1), some (.inl x2)], []) :: K) (some (.inl v)) σ = ((¬ (v = 0) → (0 ≤ (w32 ((w32 (20 * x1)) + x2)) ∧ (w32 ((w32 (20 * x1)) + x2)) < 60)) ∧ zRet true K (some (.inl (if v = 0 then 0 else gI σ 126 ((w32 ((w32 (20 * x1)) + x2)).toNat) : Int))) σ) :=
  yT_rt (yI_if_eq zi_179_6 <| yMi2 (j := 24) (ls2 := [some (.inr (.inr 122)), some (.inl x1), some (.inl x2)]) (st2 := []) (x := 0) (y := gI σ 126 ((w32 ((w32 (20 * x1)) + x2)).toNat)) (σ2 := σ) (yI_iconst zi_179_23 <| rfl) (yI_aload_n zi_179_9 rfl <| yI_gf_f (v := 126) zi_179_10 zk_122 rfl <| yI_bipush zi_179_13 <| yI_iload_n zi_179_15 rfl <| yI_imul zi_179_16 <| yI_iload_n zi_179_17 rfl <| yI_iadd zi_179_18 <| yI_ialoadc (v := gI σ 126 ((w32 ((w32 (20 * x1)) + x2)).toNat)) zi_179_19 za_126 rfl <| yI_goto zi_179_20 <| rfl) <| yI_ireturn zi_179_24)
/-- 180 TreegrabModel.lays(I)V -/
theorem zi_180_0 : zraw 180 0 = some (.aload_n 0, 1) ∧ 0 + 1 = 1 := by decide +kernel
theorem zi_180_1 : zraw 180 1 = some (.getfield 153, 3) ∧ zft (zinf 180).1 153 = some (10, 64, 0, false) ∧ 1 + 3 = 4 := by decide +kernel
theorem zi_180_4 : zraw 180 4 = some (.iload_n 1, 1) ∧ 4 + 1 = 5 := by decide +kernel
theorem zi_180_5 : zraw 180 5 = some (.if_icmp .ne 4, 3) ∧ ((5 : Nat) : Int) + 4 = Int.ofNat 9 ∧ 5 + 3 = 8 := by decide +kernel
theorem zi_180_8 : zraw 180 8 = some (.return_, 1) ∧ (zinf 180).2.2.2.1 = 0 := by decide +kernel
theorem zi_180_9 : zraw 180 9 = some (.aload_n 0, 1) ∧ 9 + 1 = 10 := by decide +kernel
theorem zi_180_10 : zraw 180 10 = some (.iload_n 1, 1) ∧ 10 + 1 = 11 := by decide +kernel
theorem zi_180_11 : zraw 180 11 = some (.putfield 153, 3) ∧ zft (zinf 180).1 153 = some (10, 64, 0, false) ∧ 11 + 3 = 14 := by decide +kernel
theorem zi_180_14 : zraw 180 14 = some (.aload_n 0, 1) ∧ 14 + 1 = 15 := by decide +kernel
theorem zi_180_15 : zraw 180 15 = some (.aload_n 0, 1) ∧ 15 + 1 = 16 := by decide +kernel
theorem zi_180_16 : zraw 180 16 = some (.getfield 13, 3) ∧ zft (zinf 180).1 13 = some (10, 8, 3, true) ∧ 16 + 3 = 19 := by decide +kernel
theorem zi_180_19 : zraw 180 19 = some (.iload_n 1, 1) ∧ 19 + 1 = 20 := by decide +kernel
theorem zi_180_20 : zraw 180 20 = some (.iaload, 1) ∧ 20 + 1 = 21 := by decide +kernel
theorem zi_180_21 : zraw 180 21 = some (.putfield 389, 3) ∧ zft (zinf 180).1 389 = some (10, 65, 0, false) ∧ 21 + 3 = 24 := by decide +kernel
theorem zi_180_24 : zraw 180 24 = some (.aload_n 0, 1) ∧ 24 + 1 = 25 := by decide +kernel
theorem zi_180_25 : zraw 180 25 = some (.iconst 0, 1) ∧ zin 128 0 = true ∧ 25 + 1 = 26 := by decide +kernel
theorem zi_180_26 : zraw 180 26 = some (.putfield 392, 3) ∧ zft (zinf 180).1 392 = some (10, 75, 1, false) ∧ 26 + 3 = 29 := by decide +kernel
theorem zi_180_29 : zraw 180 29 = some (.iconst 0, 1) ∧ zin 128 0 = true ∧ 29 + 1 = 30 := by decide +kernel
theorem zi_180_30 : zraw 180 30 = some (.istore_n 2, 1) ∧ 30 + 1 = 31 := by decide +kernel
theorem zi_180_31 : zraw 180 31 = some (.iload_n 2, 1) ∧ 31 + 1 = 32 := by decide +kernel
theorem zi_180_32 : zraw 180 32 = some (.aload_n 0, 1) ∧ 32 + 1 = 33 := by decide +kernel
theorem zi_180_33 : zraw 180 33 = some (.getfield 389, 3) ∧ zft (zinf 180).1 389 = some (10, 65, 0, false) ∧ 33 + 3 = 36 := by decide +kernel
theorem zi_180_36 : zraw 180 36 = some (.if_icmp .ge 16, 3) ∧ ((36 : Nat) : Int) + 16 = Int.ofNat 52 ∧ 36 + 3 = 39 := by decide +kernel
theorem zi_180_39 : zraw 180 39 = some (.aload_n 0, 1) ∧ 39 + 1 = 40 := by decide +kernel
theorem zi_180_40 : zraw 180 40 = some (.getfield 166, 3) ∧ zft (zinf 180).1 166 = some (10, 69, 3, true) ∧ 40 + 3 = 43 := by decide +kernel
theorem zi_180_43 : zraw 180 43 = some (.iload_n 2, 1) ∧ 43 + 1 = 44 := by decide +kernel
theorem zi_180_44 : zraw 180 44 = some (.iconst 0, 1) ∧ zin 128 0 = true ∧ 44 + 1 = 45 := by decide +kernel
theorem zi_180_45 : zraw 180 45 = some (.iastore, 1) ∧ 45 + 1 = 46 := by decide +kernel
theorem zi_180_46 : zraw 180 46 = some (.iinc 2 1, 3) ∧ zin 32768 1 = true ∧ 46 + 3 = 49 := by decide +kernel
theorem zi_180_49 : zraw 180 49 = some (.goto (-18), 3) ∧ ((49 : Nat) : Int) + (-18) = Int.ofNat 31 := by decide +kernel
theorem zi_180_52 : zraw 180 52 = some (.iconst 0, 1) ∧ zin 128 0 = true ∧ 52 + 1 = 53 := by decide +kernel
theorem zi_180_53 : zraw 180 53 = some (.istore_n 2, 1) ∧ 53 + 1 = 54 := by decide +kernel
theorem zi_180_54 : zraw 180 54 = some (.iload_n 2, 1) ∧ 54 + 1 = 55 := by decide +kernel
theorem zi_180_55 : zraw 180 55 = some (.aload_n 0, 1) ∧ 55 + 1 = 56 := by decide +kernel
theorem zi_180_56 : zraw 180 56 = some (.getfield 389, 3) ∧ zft (zinf 180).1 389 = some (10, 65, 0, false) ∧ 56 + 3 = 59 := by decide +kernel
theorem zi_180_59 : zraw 180 59 = some (.if_icmp .ge 49, 3) ∧ ((59 : Nat) : Int) + 49 = Int.ofNat 108 ∧ 59 + 3 = 62 := by decide +kernel
theorem zi_180_62 : zraw 180 62 = some (.aload_n 0, 1) ∧ 62 + 1 = 63 := by decide +kernel
theorem zi_180_63 : zraw 180 63 = some (.iload_n 2, 1) ∧ 63 + 1 = 64 := by decide +kernel
theorem zi_180_64 : zraw 180 64 = some (.invokevirtual 396, 3) ∧ zmt (zinf 180).1 396 = some 181 ∧ Nat.ble 9000 181 = false ∧ zinf 181 = (10, 2, 2, 1, 0) ∧ 64 + 3 = 67 := by decide +kernel
theorem zi_180_67 : zraw 180 67 = some (.istore_n 3, 1) ∧ 67 + 1 = 68 := by decide +kernel
theorem zi_180_68 : zraw 180 68 = some (.aload_n 0, 1) ∧ 68 + 1 = 69 := by decide +kernel
theorem zi_180_69 : zraw 180 69 = some (.getfield 163, 3) ∧ zft (zinf 180).1 163 = some (10, 68, 3, true) ∧ 69 + 3 = 72 := by decide +kernel
theorem zi_180_72 : zraw 180 72 = some (.iload_n 2, 1) ∧ 72 + 1 = 73 := by decide +kernel
theorem zi_180_73 : zraw 180 73 = some (.iconst 0, 1) ∧ zin 128 0 = true ∧ 73 + 1 = 74 := by decide +kernel
theorem zi_180_74 : zraw 180 74 = some (.iastore, 1) ∧ 74 + 1 = 75 := by decide +kernel
theorem zi_180_75 : zraw 180 75 = some (.iload_n 3, 1) ∧ 75 + 1 = 76 := by decide +kernel
theorem zi_180_76 : zraw 180 76 = some (.iconst (-1), 1) ∧ zin 128 (-1) = true ∧ 76 + 1 = 77 := by decide +kernel
theorem zi_180_77 : zraw 180 77 = some (.if_icmp .eq 25, 3) ∧ ((77 : Nat) : Int) + 25 = Int.ofNat 102 ∧ 77 + 3 = 80 := by decide +kernel
theorem zi_180_80 : zraw 180 80 = some (.aload_n 0, 1) ∧ 80 + 1 = 81 := by decide +kernel
theorem zi_180_81 : zraw 180 81 = some (.getfield 166, 3) ∧ zft (zinf 180).1 166 = some (10, 69, 3, true) ∧ 81 + 3 = 84 := by decide +kernel
theorem zi_180_84 : zraw 180 84 = some (.iload_n 3, 1) ∧ 84 + 1 = 85 := by decide +kernel
theorem zi_180_85 : zraw 180 85 = some (.dup2, 1) ∧ 85 + 1 = 86 := by decide +kernel
theorem zi_180_86 : zraw 180 86 = some (.iaload, 1) ∧ 86 + 1 = 87 := by decide +kernel
theorem zi_180_87 : zraw 180 87 = some (.iconst 1, 1) ∧ zin 128 1 = true ∧ 87 + 1 = 88 := by decide +kernel
theorem zi_180_88 : zraw 180 88 = some (.iadd, 1) ∧ 88 + 1 = 89 := by decide +kernel
theorem zi_180_89 : zraw 180 89 = some (.iastore, 1) ∧ 89 + 1 = 90 := by decide +kernel
theorem zi_180_90 : zraw 180 90 = some (.aload_n 0, 1) ∧ 90 + 1 = 91 := by decide +kernel
theorem zi_180_91 : zraw 180 91 = some (.getfield 163, 3) ∧ zft (zinf 180).1 163 = some (10, 68, 3, true) ∧ 91 + 3 = 94 := by decide +kernel
theorem zi_180_94 : zraw 180 94 = some (.iload_n 2, 1) ∧ 94 + 1 = 95 := by decide +kernel
theorem zi_180_95 : zraw 180 95 = some (.aload_n 0, 1) ∧ 95 + 1 = 96 := by decide +kernel
theorem zi_180_96 : zraw 180 96 = some (.getfield 166, 3) ∧ zft (zinf 180).1 166 = some (10, 69, 3, true) ∧ 96 + 3 = 99 := by decide +kernel
theorem zi_180_99 : zraw 180 99 = some (.iload_n 3, 1) ∧ 99 + 1 = 100 := by decide +kernel
theorem zi_180_100 : zraw 180 100 = some (.iaload, 1) ∧ 100 + 1 = 101 := by decide +kernel
theorem zi_180_101 : zraw 180 101 = some (.iastore, 1) ∧ 101 + 1 = 102 := by decide +kernel
theorem zi_180_102 : zraw 180 102 = some (.iinc 2 1, 3) ∧ zin 32768 1 = true ∧ 102 + 3 = 105 := by decide +kernel
theorem zi_180_105 : zraw 180 105 = some (.goto (-51), 3) ∧ ((105 : Nat) : Int) + (-51) = Int.ofNat 54 := by decide +kernel
theorem zi_180_108 : zraw 180 108 = some (.iconst 0, 1) ∧ zin 128 0 = true ∧ 108 + 1 = 109 := by decide +kernel
theorem zi_180_109 : zraw 180 109 = some (.istore_n 2, 1) ∧ 109 + 1 = 110 := by decide +kernel
theorem zi_180_110 : zraw 180 110 = some (.iconst 0, 1) ∧ zin 128 0 = true ∧ 110 + 1 = 111 := by decide +kernel
theorem zi_180_111 : zraw 180 111 = some (.istore_n 3, 1) ∧ 111 + 1 = 112 := by decide +kernel
theorem zi_180_112 : zraw 180 112 = some (.iload_n 3, 1) ∧ 112 + 1 = 113 := by decide +kernel
theorem zi_180_113 : zraw 180 113 = some (.aload_n 0, 1) ∧ 113 + 1 = 114 := by decide +kernel
theorem zi_180_114 : zraw 180 114 = some (.getfield 389, 3) ∧ zft (zinf 180).1 389 = some (10, 65, 0, false) ∧ 114 + 3 = 117 := by decide +kernel
theorem zi_180_117 : zraw 180 117 = some (.if_icmp .ge 33, 3) ∧ ((117 : Nat) : Int) + 33 = Int.ofNat 150 ∧ 117 + 3 = 120 := by decide +kernel
theorem zi_180_120 : zraw 180 120 = some (.aload_n 0, 1) ∧ 120 + 1 = 121 := by decide +kernel
theorem zi_180_121 : zraw 180 121 = some (.getfield 157, 3) ∧ zft (zinf 180).1 157 = some (10, 66, 3, true) ∧ 121 + 3 = 124 := by decide +kernel
theorem zi_180_124 : zraw 180 124 = some (.iload_n 3, 1) ∧ 124 + 1 = 125 := by decide +kernel
theorem zi_180_125 : zraw 180 125 = some (.iload_n 2, 1) ∧ 125 + 1 = 126 := by decide +kernel
theorem zi_180_126 : zraw 180 126 = some (.iastore, 1) ∧ 126 + 1 = 127 := by decide +kernel
theorem zi_180_127 : zraw 180 127 = some (.iload_n 2, 1) ∧ 127 + 1 = 128 := by decide +kernel
theorem zi_180_128 : zraw 180 128 = some (.aload_n 0, 1) ∧ 128 + 1 = 129 := by decide +kernel
theorem zi_180_129 : zraw 180 129 = some (.getfield 166, 3) ∧ zft (zinf 180).1 166 = some (10, 69, 3, true) ∧ 129 + 3 = 132 := by decide +kernel
theorem zi_180_132 : zraw 180 132 = some (.iload_n 3, 1) ∧ 132 + 1 = 133 := by decide +kernel
theorem zi_180_133 : zraw 180 133 = some (.iaload, 1) ∧ 133 + 1 = 134 := by decide +kernel
theorem zi_180_134 : zraw 180 134 = some (.ifCond .ne 7, 3) ∧ ((134 : Nat) : Int) + 7 = Int.ofNat 141 ∧ 134 + 3 = 137 := by decide +kernel
theorem zi_180_137 : zraw 180 137 = some (.iconst 1, 1) ∧ zin 128 1 = true ∧ 137 + 1 = 138 := by decide +kernel
theorem zi_180_138 : zraw 180 138 = some (.goto 4, 3) ∧ ((138 : Nat) : Int) + 4 = Int.ofNat 142 := by decide +kernel
theorem zi_180_141 : zraw 180 141 = some (.iconst 0, 1) ∧ zin 128 0 = true ∧ 141 + 1 = 142 := by decide +kernel
theorem zi_180_142 : zraw 180 142 = some (.iadd, 1) ∧ 142 + 1 = 143 := by decide +kernel
theorem zi_180_143 : zraw 180 143 = some (.istore_n 2, 1) ∧ 143 + 1 = 144 := by decide +kernel
theorem zi_180_144 : zraw 180 144 = some (.iinc 3 1, 3) ∧ zin 32768 1 = true ∧ 144 + 3 = 147 := by decide +kernel
theorem zi_180_147 : zraw 180 147 = some (.goto (-35), 3) ∧ ((147 : Nat) : Int) + (-35) = Int.ofNat 112 := by decide +kernel
theorem zi_180_150 : zraw 180 150 = some (.iconst 0, 1) ∧ zin 128 0 = true ∧ 150 + 1 = 151 := by decide +kernel
theorem zi_180_151 : zraw 180 151 = some (.istore_n 3, 1) ∧ 151 + 1 = 152 := by decide +kernel
theorem zi_180_152 : zraw 180 152 = some (.iload_n 3, 1) ∧ 152 + 1 = 153 := by decide +kernel
theorem zi_180_153 : zraw 180 153 = some (.aload_n 0, 1) ∧ 153 + 1 = 154 := by decide +kernel
theorem zi_180_154 : zraw 180 154 = some (.getfield 389, 3) ∧ zft (zinf 180).1 389 = some (10, 65, 0, false) ∧ 154 + 3 = 157 := by decide +kernel
theorem zi_180_157 : zraw 180 157 = some (.if_icmp .ge 79, 3) ∧ ((157 : Nat) : Int) + 79 = Int.ofNat 236 ∧ 157 + 3 = 160 := by decide +kernel
theorem zi_180_160 : zraw 180 160 = some (.aload_n 0, 1) ∧ 160 + 1 = 161 := by decide +kernel
theorem zi_180_161 : zraw 180 161 = some (.getfield 157, 3) ∧ zft (zinf 180).1 157 = some (10, 66, 3, true) ∧ 161 + 3 = 164 := by decide +kernel
theorem zi_180_164 : zraw 180 164 = some (.iload_n 3, 1) ∧ 164 + 1 = 165 := by decide +kernel
theorem zi_180_165 : zraw 180 165 = some (.iaload, 1) ∧ 165 + 1 = 166 := by decide +kernel
theorem zi_180_166 : zraw 180 166 = some (.istore 4, 2) ∧ 166 + 2 = 168 := by decide +kernel
theorem zi_180_168 : zraw 180 168 = some (.iload_n 3, 1) ∧ 168 + 1 = 169 := by decide +kernel
theorem zi_180_169 : zraw 180 169 = some (.iconst 1, 1) ∧ zin 128 1 = true ∧ 169 + 1 = 170 := by decide +kernel
theorem zi_180_170 : zraw 180 170 = some (.iadd, 1) ∧ 170 + 1 = 171 := by decide +kernel
theorem zi_180_171 : zraw 180 171 = some (.istore 5, 2) ∧ 171 + 2 = 173 := by decide +kernel
theorem zi_180_173 : zraw 180 173 = some (.iload 5, 2) ∧ 173 + 2 = 175 := by decide +kernel
theorem zi_180_175 : zraw 180 175 = some (.aload_n 0, 1) ∧ 175 + 1 = 176 := by decide +kernel
theorem zi_180_176 : zraw 180 176 = some (.getfield 389, 3) ∧ zft (zinf 180).1 389 = some (10, 65, 0, false) ∧ 176 + 3 = 179 := by decide +kernel
theorem zi_180_179 : zraw 180 179 = some (.if_icmp .ge 43, 3) ∧ ((179 : Nat) : Int) + 43 = Int.ofNat 222 ∧ 179 + 3 = 182 := by decide +kernel
theorem zi_180_182 : zraw 180 182 = some (.aload_n 0, 1) ∧ 182 + 1 = 183 := by decide +kernel
theorem zi_180_183 : zraw 180 183 = some (.iload 5, 2) ∧ 183 + 2 = 185 := by decide +kernel
theorem zi_180_185 : zraw 180 185 = some (.iload_n 3, 1) ∧ 185 + 1 = 186 := by decide +kernel
theorem zi_180_186 : zraw 180 186 = some (.invokevirtual 399, 3) ∧ zmt (zinf 180).1 399 = some 183 ∧ Nat.ble 9000 183 = false ∧ zinf 183 = (10, 3, 4, 2, 0) ∧ 186 + 3 = 189 := by decide +kernel
theorem zi_180_189 : zraw 180 189 = some (.ifCond .eq 23, 3) ∧ ((189 : Nat) : Int) + 23 = Int.ofNat 212 ∧ 189 + 3 = 192 := by decide +kernel
theorem zi_180_192 : zraw 180 192 = some (.aload_n 0, 1) ∧ 192 + 1 = 193 := by decide +kernel
theorem zi_180_193 : zraw 180 193 = some (.getfield 166, 3) ∧ zft (zinf 180).1 166 = some (10, 69, 3, true) ∧ 193 + 3 = 196 := by decide +kernel
theorem zi_180_196 : zraw 180 196 = some (.iload 5, 2) ∧ 196 + 2 = 198 := by decide +kernel
theorem zi_180_198 : zraw 180 198 = some (.iaload, 1) ∧ 198 + 1 = 199 := by decide +kernel
theorem zi_180_199 : zraw 180 199 = some (.ifCond .ne 13, 3) ∧ ((199 : Nat) : Int) + 13 = Int.ofNat 212 ∧ 199 + 3 = 202 := by decide +kernel
theorem zi_180_202 : zraw 180 202 = some (.aload_n 0, 1) ∧ 202 + 1 = 203 := by decide +kernel
theorem zi_180_203 : zraw 180 203 = some (.getfield 157, 3) ∧ zft (zinf 180).1 157 = some (10, 66, 3, true) ∧ 203 + 3 = 206 := by decide +kernel
theorem zi_180_206 : zraw 180 206 = some (.iload 5, 2) ∧ 206 + 2 = 208 := by decide +kernel
theorem zi_180_208 : zraw 180 208 = some (.iaload, 1) ∧ 208 + 1 = 209 := by decide +kernel
theorem zi_180_209 : zraw 180 209 = some (.goto 5, 3) ∧ ((209 : Nat) : Int) + 5 = Int.ofNat 214 := by decide +kernel
theorem zi_180_212 : zraw 180 212 = some (.iload 4, 2) ∧ 212 + 2 = 214 := by decide +kernel
theorem zi_180_214 : zraw 180 214 = some (.istore 4, 2) ∧ 214 + 2 = 216 := by decide +kernel
theorem zi_180_216 : zraw 180 216 = some (.iinc 5 1, 3) ∧ zin 32768 1 = true ∧ 216 + 3 = 219 := by decide +kernel
theorem zi_180_219 : zraw 180 219 = some (.goto (-46), 3) ∧ ((219 : Nat) : Int) + (-46) = Int.ofNat 173 := by decide +kernel
theorem zi_180_222 : zraw 180 222 = some (.aload_n 0, 1) ∧ 222 + 1 = 223 := by decide +kernel
theorem zi_180_223 : zraw 180 223 = some (.getfield 160, 3) ∧ zft (zinf 180).1 160 = some (10, 67, 3, true) ∧ 223 + 3 = 226 := by decide +kernel
theorem zi_180_226 : zraw 180 226 = some (.iload_n 3, 1) ∧ 226 + 1 = 227 := by decide +kernel
theorem zi_180_227 : zraw 180 227 = some (.iload 4, 2) ∧ 227 + 2 = 229 := by decide +kernel
theorem zi_180_229 : zraw 180 229 = some (.iastore, 1) ∧ 229 + 1 = 230 := by decide +kernel
theorem zi_180_230 : zraw 180 230 = some (.iinc 3 1, 3) ∧ zin 32768 1 = true ∧ 230 + 3 = 233 := by decide +kernel
theorem zi_180_233 : zraw 180 233 = some (.goto (-81), 3) ∧ ((233 : Nat) : Int) + (-81) = Int.ofNat 152 := by decide +kernel
theorem zi_180_236 : zraw 180 236 = some (.return_, 1) ∧ (zinf 180).2.2.2.1 = 0 := by decide +kernel
theorem ze_180 {K : List zF} {σ : zW} {x1 : Int} : zEv true (zent 180 [.inr (.inr 122), .inl x1] :: K) σ = (if ¬ (gI σ 122 64) = x1 then (0 ≤ x1 ∧ x1 < 3) ∧ zEv true ((180, 31, [some (.inr (.inr 122)), some (.inl x1), some (.inl 0), none, none, none], []) :: K) (sI (sI (sI σ 122 64 x1) 122 65 (gI σ 124 x1.toNat)) 122 75 0) else zRet true K none σ) :=
  yT_en (f := (180, 0, [some (.inr (.inr 122)), some (.inl x1), none, none, none, none], [])) rfl (yI_aload_n zi_180_0 rfl <| yI_gf_i (v := gI σ 122 64) zi_180_1 zk_122 rfl <| yI_iload_n zi_180_4 rfl <| yI_ic_ne zi_180_5 <| yBr (yI_aload_n zi_180_9 rfl <| yI_iload_n zi_180_10 rfl <| yI_pf_i zi_180_11 zk_122 <| yI_aload_n zi_180_14 rfl <| yI_aload_n zi_180_15 rfl <| yI_gf_f (v := 124) zi_180_16 zk_122 rfl <| yI_iload_n zi_180_19 rfl <| yI_ialoadc (v := gI σ 124 x1.toNat) zi_180_20 za_124 (yGI_nk (by decide)) <| yI_pf_i zi_180_21 zk_122 <| yI_aload_n zi_180_24 rfl <| yI_iconst zi_180_25 <| yI_pf_b zi_180_26 zk_122 (by decide) <| yI_iconst zi_180_29 <| yI_istore_n (l := [some (.inr (.inr 122)), some (.inl x1), some (.inl 0), none, none, none]) zi_180_30 rfl rfl <| rfl) (yI_ret zi_180_8))
theorem zj_180_31 {K : List zF} {σ : zW} {o1 : Option zV} {x2 : Int} {o3 : Option zV} {o4 : Option zV} {o5 : Option zV} : zEv true ((180, 31, [some (.inr (.inr 122)), o1, some (.inl x2), o3, o4, o5], []) :: K) σ = (if (gI σ 122 65) ≤ x2 then zEv true ((180, 54, [some (.inr (.inr 122)), (zcut 0 o1), some (.inl 0), o3, o4, o5], []) :: K) σ else (0 ≤ x2 ∧ x2 < 20) ∧ zEv true ((180, 31, [some (.inr (.inr 122)), (zcut 0 o1), some (.inl (w32 (x2 + 1))), o3, o4, o5], []) :: K) (sI σ 173 x2.toNat 0)) :=
  yI_iload_n zi_180_31 rfl <| yI_aload_n zi_180_32 rfl <| yI_gf_i (v := gI σ 122 65) zi_180_33 zk_122 rfl <| yI_ic_ge zi_180_36 <| yBr (yI_iconst zi_180_52 <| yI_istore_n (l := [some (.inr (.inr 122)), (zcut 0 o1), some (.inl 0), o3, o4, o5]) zi_180_53 rfl rfl <| rfl) (yI_aload_n zi_180_39 rfl <| yI_gf_f (v := 173) zi_180_40 zk_122 rfl <| yI_iload_n zi_180_43 rfl <| yI_iconst zi_180_44 <| yI_iastorec zi_180_45 za_173 <| yI_iinc (l := [some (.inr (.inr 122)), (zcut 0 o1), some (.inl (w32 (x2 + 1))), o3, o4, o5]) zi_180_46 rfl rfl rfl <| yI_goto zi_180_49 <| rfl)
theorem zj_180_54 {K : List zF} {σ : zW} {o1 : Option zV} {x2 : Int} {o3 : Option zV} {o4 : Option zV} {o5 : Option zV} (hK : K.length < 60) : zEv true ((180, 54, [some (.inr (.inr 122)), o1, some (.inl x2), o3, o4, o5], []) :: K) σ = (if (gI σ 122 65) ≤ x2 then zEv true ((180, 112, [some (.inr (.inr 122)), (zcut 0 o1), some (.inl 0), some (.inl 0), o4, o5], []) :: K) σ else zEv true (zent 181 [.inr (.inr 122), .inl x2] :: (180, 67, [some (.inr (.inr 122)), o1, some (.inl x2), o3, o4, o5], []) :: K) σ) :=
  yI_iload_n zi_180_54 rfl <| yI_aload_n zi_180_55 rfl <| yI_gf_i (v := gI σ 122 65) zi_180_56 zk_122 rfl <| yI_ic_ge zi_180_59 <| yBr (yI_iconst zi_180_108 <| yI_istore_n (l := [some (.inr (.inr 122)), (zcut 0 o1), some (.inl 0), o3, o4, o5]) zi_180_109 rfl rfl <| yI_iconst zi_180_110 <| yI_istore_n (l := [some (.inr (.inr 122)), (zcut 0 o1), some (.inl 0), some (.inl 0), o4, o5]) zi_180_111 rfl rfl <| rfl) (yI_aload_n zi_180_62 rfl <| yI_iload_n zi_180_63 rfl <| yI_cv zi_180_64 rfl rfl zk_122 hK)
theorem zj_180_112 {K : List zF} {σ : zW} {o1 : Option zV} {x2 : Int} {x3 : Int} {o4 : Option zV} {o5 : Option zV} : zEv true ((180, 112, [some (.inr (.inr 122)), o1, some (.inl x2), some (.inl x3), o4, o5], []) :: K) σ = (if (gI σ 122 65) ≤ x3 then zEv true ((180, 152, [some (.inr (.inr 122)), o1, some (.inl x2), some (.inl 0), o4, o5], []) :: K) σ else (0 ≤ x3 ∧ x3 < 20) ∧ ((0 ≤ x3 ∧ x3 < 20) ∧ zEv true ((180, 112, [some (.inr (.inr 122)), (zcut 0 o1), some (.inl (w32 (x2 + (if ¬ (gI σ 173 x3.toNat) = 0 then 0 else 1 : Int)))), some (.inl (w32 (x3 + 1))), o4, o5], []) :: K) (sI σ 170 x3.toNat x2))) :=
  yI_iload_n zi_180_112 rfl <| yI_aload_n zi_180_113 rfl <| yI_gf_i (v := gI σ 122 65) zi_180_114 zk_122 rfl <| yI_ic_ge zi_180_117 <| yBr (yI_iconst zi_180_150 <| yI_istore_n (l := [some (.inr (.inr 122)), o1, some (.inl x2), some (.inl 0), o4, o5]) zi_180_151 rfl rfl <| rfl) (yI_aload_n zi_180_120 rfl <| yI_gf_f (v := 170) zi_180_121 zk_122 rfl <| yI_iload_n zi_180_124 rfl <| yI_iload_n zi_180_125 rfl <| yI_iastorec zi_180_126 za_170 <| yI_iload_n zi_180_127 rfl <| yI_aload_n zi_180_128 rfl <| yI_gf_f (v := 173) zi_180_129 zk_122 rfl <| yI_iload_n zi_180_132 rfl <| yI_ialoadc (v := gI σ 173 x3.toNat) zi_180_133 za_173 (yGI_nk (by decide)) <| yI_if_ne zi_180_134 <| yMi0 (j := 142) (ls2 := [some (.inr (.inr 122)), o1, some (.inl x2), some (.inl x3), o4, o5]) (st2 := [.inl x2]) (x := 0) (y := 1) (σ2 := (sI σ 170 x3.toNat x2)) (yI_iconst zi_180_141 <| rfl) (yI_iconst zi_180_137 <| yI_goto zi_180_138 <| rfl) <| yI_iadd zi_180_142 <| yI_istore_n (l := [some (.inr (.inr 122)), (zcut 0 o1), some (.inl (w32 (x2 + (if ¬ (gI σ 173 x3.toNat) = 0 then 0 else 1 : Int)))), some (.inl x3), o4, o5]) zi_180_143 rfl rfl <| yI_iinc (l := [some (.inr (.inr 122)), (zcut 0 o1), some (.inl (w32 (x2 + (if ¬ (gI σ 173 x3.toNat) = 0 then 0 else 1 : Int)))), some (.inl (w32 (x3 + 1))), o4, o5]) zi_180_144 rfl rfl rfl <| yI_goto zi_180_147 <| rfl)
theorem zr_180_67 {K : List zF} {σ : zW} {o1 : Option zV} {x2 : Int} {o3 : Option zV} {o4 : Option zV} {o5 : Option zV} {v : Int} : zRet true ((180, 67, [some (.inr (.inr 122)), o1, some (.inl x2), o3, o4, o5], []) :: K) (some (.inl v)) σ = ((0 ≤ x2 ∧ x2 < 20) ∧ (if v = (-1) then zEv true ((180, 54, [some (.inr (.inr 122)), (zcut 0 o1), some (.inl (w32 (x2 + 1))), some (.inl v), o4, o5], []) :: K) (sI σ 172 x2.toNat 0) else (0 ≤ v ∧ v < 20) ∧ ((0 ≤ v ∧ v < 20) ∧ ((0 ≤ v ∧ v < 20) ∧ ((0 ≤ x2 ∧ x2 < 20) ∧ zEv true ((180, 54, [some (.inr (.inr 122)), (zcut 0 o1), some (.inl (w32 (x2 + 1))), some (.inl v), o4, o5], []) :: K) (sI (sI (sI σ 172 x2.toNat 0) 173 v.toNat (w32 ((gI σ 173 v.toNat) + 1))) 172 x2.toNat (w32 ((gI σ 173 v.toNat) + 1)))))))) :=
  yT_rt (yI_istore_n (l := [some (.inr (.inr 122)), o1, some (.inl x2), some (.inl v), o4, o5]) zi_180_67 rfl rfl <| yI_aload_n zi_180_68 rfl <| yI_gf_f (v := 172) zi_180_69 zk_122 rfl <| yI_iload_n zi_180_72 rfl <| yI_iconst zi_180_73 <| yI_iastorec zi_180_74 za_172 <| yI_iload_n zi_180_75 rfl <| yI_iconst zi_180_76 <| yI_ic_eq zi_180_77 <| yBr (yI_iinc (l := [some (.inr (.inr 122)), (zcut 0 o1), some (.inl (w32 (x2 + 1))), some (.inl v), o4, o5]) zi_180_102 rfl rfl rfl <| yI_goto zi_180_105 <| rfl) (yI_aload_n zi_180_80 rfl <| yI_gf_f (v := 173) zi_180_81 zk_122 rfl <| yI_iload_n zi_180_84 rfl <| yI_dup2_ir zi_180_85 <| yI_ialoadc (v := gI σ 173 v.toNat) zi_180_86 za_173 (yGI_nk (by decide)) <| yI_iconst zi_180_87 <| yI_iadd zi_180_88 <| yI_iastorec zi_180_89 za_173 <| yI_aload_n zi_180_90 rfl <| yI_gf_f (v := 172) zi_180_91 zk_122 rfl <| yI_iload_n zi_180_94 rfl <| yI_aload_n zi_180_95 rfl <| yI_gf_f (v := 173) zi_180_96 zk_122 rfl <| yI_iload_n zi_180_99 rfl <| yI_ialoadc (v := w32 ((gI σ 173 v.toNat) + 1)) zi_180_100 za_173 (yGI_hit) <| yI_iastorec zi_180_101 za_172 <| yI_iinc (l := [some (.inr (.inr 122)), (zcut 0 o1), some (.inl (w32 (x2 + 1))), some (.inl v), o4, o5]) zi_180_102 rfl rfl rfl <| yI_goto zi_180_105 <| rfl))
theorem zj_180_152 {K : List zF} {σ : zW} {o1 : Option zV} {o2 : Option zV} {x3 : Int} {o4 : Option zV} {o5 : Option zV} : zEv true ((180, 152, [some (.inr (.inr 122)), o1, o2, some (.inl x3), o4, o5], []) :: K) σ = (if (gI σ 122 65) ≤ x3 then zRet true K none σ else (0 ≤ x3 ∧ x3 < 20) ∧ zEv true ((180, 173, [some (.inr (.inr 122)), o1, o2, some (.inl x3), some (.inl (gI σ 170 x3.toNat)), some (.inl (w32 (x3 + 1)))], []) :: K) σ) :=
  yI_iload_n zi_180_152 rfl <| yI_aload_n zi_180_153 rfl <| yI_gf_i (v := gI σ 122 65) zi_180_154 zk_122 rfl <| yI_ic_ge zi_180_157 <| yBr (yI_ret zi_180_236) (yI_aload_n zi_180_160 rfl <| yI_gf_f (v := 170) zi_180_161 zk_122 rfl <| yI_iload_n zi_180_164 rfl <| yI_ialoadc (v := gI σ 170 x3.toNat) zi_180_165 za_170 rfl <| yI_istore (l := [some (.inr (.inr 122)), o1, o2, some (.inl x3), some (.inl (gI σ 170 x3.toNat)), o5]) zi_180_166 rfl rfl <| yI_iload_n zi_180_168 rfl <| yI_iconst zi_180_169 <| yI_iadd zi_180_170 <| yI_istore (l := [some (.inr (.inr 122)), o1, o2, some (.inl x3), some (.inl (gI σ 170 x3.toNat)), some (.inl (w32 (x3 + 1)))]) zi_180_171 rfl rfl <| rfl)
theorem zj_180_173 {K : List zF} {σ : zW} {o1 : Option zV} {o2 : Option zV} {x3 : Int} {x4 : Int} {x5 : Int} (hK : K.length < 60) : zEv true ((180, 173, [some (.inr (.inr 122)), o1, o2, some (.inl x3), some (.inl x4), some (.inl x5)], []) :: K) σ = (if (gI σ 122 65) ≤ x5 then (0 ≤ x3 ∧ x3 < 20) ∧ zEv true ((180, 152, [some (.inr (.inr 122)), o1, (zcut 0 o2), some (.inl (w32 (x3 + 1))), some (.inl x4), some (.inl x5)], []) :: K) (sI σ 171 x3.toNat x4) else zEv true (zent 183 [.inr (.inr 122), .inl x5, .inl x3] :: (180, 189, [some (.inr (.inr 122)), o1, o2, some (.inl x3), some (.inl x4), some (.inl x5)], []) :: K) σ) :=
  yI_iload zi_180_173 rfl <| yI_aload_n zi_180_175 rfl <| yI_gf_i (v := gI σ 122 65) zi_180_176 zk_122 rfl <| yI_ic_ge zi_180_179 <| yBr (yI_aload_n zi_180_222 rfl <| yI_gf_f (v := 171) zi_180_223 zk_122 rfl <| yI_iload_n zi_180_226 rfl <| yI_iload zi_180_227 rfl <| yI_iastorec zi_180_229 za_171 <| yI_iinc (l := [some (.inr (.inr 122)), o1, (zcut 0 o2), some (.inl (w32 (x3 + 1))), some (.inl x4), some (.inl x5)]) zi_180_230 rfl rfl rfl <| yI_goto zi_180_233 <| rfl) (yI_aload_n zi_180_182 rfl <| yI_iload zi_180_183 rfl <| yI_iload_n zi_180_185 rfl <| yI_cv zi_180_186 rfl rfl zk_122 hK)
theorem zr_180_189 {K : List zF} {σ : zW} {o1 : Option zV} {o2 : Option zV} {x3 : Int} {x4 : Int} {x5 : Int} {v : Int} : zRet true ((180, 189, [some (.inr (.inr 122)), o1, o2, some (.inl x3), some (.inl x4), some (.inl x5)], []) :: K) (some (.inl v)) σ = (if v = 0 then zEv true ((180, 212, [some (.inr (.inr 122)), o1, o2, some (.inl x3), some (.inl x4), some (.inl x5)], []) :: K) σ else (0 ≤ x5 ∧ x5 < 20) ∧ (if ¬ (gI σ 173 x5.toNat) = 0 then zEv true ((180, 212, [some (.inr (.inr 122)), o1, o2, some (.inl x3), some (.inl x4), some (.inl x5)], []) :: K) σ else (0 ≤ x5 ∧ x5 < 20) ∧ zEv true ((180, 173, [some (.inr (.inr 122)), o1, o2, some (.inl x3), some (.inl (gI σ 170 x5.toNat)), some (.inl (w32 (x5 + 1)))], []) :: K) σ)) :=
  yT_rt (yI_if_eq zi_180_189 <| yBr (rfl) (yI_aload_n zi_180_192 rfl <| yI_gf_f (v := 173) zi_180_193 zk_122 rfl <| yI_iload zi_180_196 rfl <| yI_ialoadc (v := gI σ 173 x5.toNat) zi_180_198 za_173 rfl <| yI_if_ne zi_180_199 <| yBr (rfl) (yI_aload_n zi_180_202 rfl <| yI_gf_f (v := 170) zi_180_203 zk_122 rfl <| yI_iload zi_180_206 rfl <| yI_ialoadc (v := gI σ 170 x5.toNat) zi_180_208 za_170 rfl <| yI_goto zi_180_209 <| yI_istore (l := [some (.inr (.inr 122)), o1, o2, some (.inl x3), some (.inl (gI σ 170 x5.toNat)), some (.inl x5)]) zi_180_214 rfl rfl <| yI_iinc (l := [some (.inr (.inr 122)), o1, o2, some (.inl x3), some (.inl (gI σ 170 x5.toNat)), some (.inl (w32 (x5 + 1)))]) zi_180_216 rfl rfl rfl <| yI_goto zi_180_219 <| rfl)))
theorem zj_180_212 {K : List zF} {σ : zW} {o1 : Option zV} {o2 : Option zV} {x3 : Int} {x4 : Int} {x5 : Int} : zEv true ((180, 212, [some (.inr (.inr 122)), o1, o2, some (.inl x3), some (.inl x4), some (.inl x5)], []) :: K) σ = (zEv true ((180, 173, [some (.inr (.inr 122)), o1, o2, some (.inl x3), some (.inl x4), some (.inl (w32 (x5 + 1)))], []) :: K) σ) :=
  yI_iload zi_180_212 rfl <| yI_istore (l := [some (.inr (.inr 122)), o1, o2, some (.inl x3), some (.inl x4), some (.inl x5)]) zi_180_214 rfl rfl <| yI_iinc (l := [some (.inr (.inr 122)), o1, o2, some (.inl x3), some (.inl x4), some (.inl (w32 (x5 + 1)))]) zi_180_216 rfl rfl rfl <| yI_goto zi_180_219 <| rfl
/-- 181 TreegrabModel.parentOf(I)I -/
theorem zi_181_0 : zraw 181 0 = some (.aload_n 0, 1) ∧ 0 + 1 = 1 := by decide +kernel
theorem zi_181_1 : zraw 181 1 = some (.getfield 20, 3) ∧ zft (zinf 181).1 20 = some (10, 10, 3, true) ∧ 1 + 3 = 4 := by decide +kernel
theorem zi_181_4 : zraw 181 4 = some (.bipush 20, 2) ∧ zin 128 20 = true ∧ 4 + 2 = 6 := by decide +kernel
theorem zi_181_6 : zraw 181 6 = some (.aload_n 0, 1) ∧ 6 + 1 = 7 := by decide +kernel
theorem zi_181_7 : zraw 181 7 = some (.getfield 153, 3) ∧ zft (zinf 181).1 153 = some (10, 64, 0, false) ∧ 7 + 3 = 10 := by decide +kernel
theorem zi_181_10 : zraw 181 10 = some (.imul, 1) ∧ 10 + 1 = 11 := by decide +kernel
theorem zi_181_11 : zraw 181 11 = some (.iload_n 1, 1) ∧ 11 + 1 = 12 := by decide +kernel
theorem zi_181_12 : zraw 181 12 = some (.iadd, 1) ∧ 12 + 1 = 13 := by decide +kernel
theorem zi_181_13 : zraw 181 13 = some (.iaload, 1) ∧ 13 + 1 = 14 := by decide +kernel
theorem zi_181_14 : zraw 181 14 = some (.ireturn, 1) ∧ (zinf 181).2.2.2.1 = 1 := by decide +kernel
theorem ze_181 {K : List zF} {σ : zW} {x1 : Int} : zEv true (zent 181 [.inr (.inr 122), .inl x1] :: K) σ = ((0 ≤ (w32 ((w32 (20 * (gI σ 122 64))) + x1)) ∧ (w32 ((w32 (20 * (gI σ 122 64))) + x1)) < 60) ∧ zRet true K (some (.inl (gI σ 126 ((w32 ((w32 (20 * (gI σ 122 64))) + x1)).toNat)))) σ) :=
  yT_en (f := (181, 0, [some (.inr (.inr 122)), some (.inl x1)], [])) rfl (yI_aload_n zi_181_0 rfl <| yI_gf_f (v := 126) zi_181_1 zk_122 rfl <| yI_bipush zi_181_4 <| yI_aload_n zi_181_6 rfl <| yI_gf_i (v := gI σ 122 64) zi_181_7 zk_122 rfl <| yI_imul zi_181_10 <| yI_iload_n zi_181_11 rfl <| yI_iadd zi_181_12 <| yI_ialoadc (v := gI σ 126 ((w32 ((w32 (20 * (gI σ 122 64))) + x1)).toNat)) zi_181_13 za_126 rfl <| yI_ireturn zi_181_14)
/-- 182 TreegrabModel.labelOf(I)J -/
theorem zi_182_0 : zraw 182 0 = some (.aload_n 0, 1) ∧ 0 + 1 = 1 := by decide +kernel
theorem zi_182_1 : zraw 182 1 = some (.getfield 16, 3) ∧ zft (zinf 182).1 16 = some (10, 9, 3, true) ∧ 1 + 3 = 4 := by decide +kernel
theorem zi_182_4 : zraw 182 4 = some (.bipush 20, 2) ∧ zin 128 20 = true ∧ 4 + 2 = 6 := by decide +kernel
theorem zi_182_6 : zraw 182 6 = some (.aload_n 0, 1) ∧ 6 + 1 = 7 := by decide +kernel
theorem zi_182_7 : zraw 182 7 = some (.getfield 153, 3) ∧ zft (zinf 182).1 153 = some (10, 64, 0, false) ∧ 7 + 3 = 10 := by decide +kernel
theorem zi_182_10 : zraw 182 10 = some (.imul, 1) ∧ 10 + 1 = 11 := by decide +kernel
theorem zi_182_11 : zraw 182 11 = some (.iload_n 1, 1) ∧ 11 + 1 = 12 := by decide +kernel
theorem zi_182_12 : zraw 182 12 = some (.iadd, 1) ∧ 12 + 1 = 13 := by decide +kernel
theorem zi_182_13 : zraw 182 13 = some (.laload, 1) ∧ 13 + 1 = 14 := by decide +kernel
theorem zi_182_14 : zraw 182 14 = some (.lreturn, 1) ∧ (zinf 182).2.2.2.1 = 3 := by decide +kernel
theorem ze_182 {K : List zF} {σ : zW} {x1 : Int} : zEv true (zent 182 [.inr (.inr 122), .inl x1] :: K) σ = ((0 ≤ (w32 ((w32 (20 * (gI σ 122 64))) + x1)) ∧ (w32 ((w32 (20 * (gI σ 122 64))) + x1)) < 60) ∧ zRet true K (some (.inr (.inl (gL σ 125 ((w32 ((w32 (20 * (gI σ 122 64))) + x1)).toNat))))) σ) :=
  yT_en (f := (182, 0, [some (.inr (.inr 122)), some (.inl x1)], [])) rfl (yI_aload_n zi_182_0 rfl <| yI_gf_f (v := 125) zi_182_1 zk_122 rfl <| yI_bipush zi_182_4 <| yI_aload_n zi_182_6 rfl <| yI_gf_i (v := gI σ 122 64) zi_182_7 zk_122 rfl <| yI_imul zi_182_10 <| yI_iload_n zi_182_11 rfl <| yI_iadd zi_182_12 <| yI_laloadc (v := gL σ 125 ((w32 ((w32 (20 * (gI σ 122 64))) + x1)).toNat)) zi_182_13 za_125 rfl <| yI_lreturn zi_182_14)
/-- 183 TreegrabModel.isBelow(II)Z -/
theorem zi_183_0 : zraw 183 0 = some (.aload_n 0, 1) ∧ 0 + 1 = 1 := by decide +kernel
theorem zi_183_1 : zraw 183 1 = some (.iload_n 1, 1) ∧ 1 + 1 = 2 := by decide +kernel
theorem zi_183_2 : zraw 183 2 = some (.invokevirtual 396, 3) ∧ zmt (zinf 183).1 396 = some 181 ∧ Nat.ble 9000 181 = false ∧ zinf 181 = (10, 2, 2, 1, 0) ∧ 2 + 3 = 5 := by decide +kernel
theorem zi_183_5 : zraw 183 5 = some (.istore_n 3, 1) ∧ 5 + 1 = 6 := by decide +kernel
theorem zi_183_6 : zraw 183 6 = some (.iload_n 3, 1) ∧ 6 + 1 = 7 := by decide +kernel
theorem zi_183_7 : zraw 183 7 = some (.iload_n 2, 1) ∧ 7 + 1 = 8 := by decide +kernel
theorem zi_183_8 : zraw 183 8 = some (.if_icmp .le 12, 3) ∧ ((8 : Nat) : Int) + 12 = Int.ofNat 20 ∧ 8 + 3 = 11 := by decide +kernel
theorem zi_183_11 : zraw 183 11 = some (.aload_n 0, 1) ∧ 11 + 1 = 12 := by decide +kernel
theorem zi_183_12 : zraw 183 12 = some (.iload_n 3, 1) ∧ 12 + 1 = 13 := by decide +kernel
theorem zi_183_13 : zraw 183 13 = some (.invokevirtual 396, 3) ∧ zmt (zinf 183).1 396 = some 181 ∧ Nat.ble 9000 181 = false ∧ zinf 181 = (10, 2, 2, 1, 0) ∧ 13 + 3 = 16 := by decide +kernel
theorem zi_183_16 : zraw 183 16 = some (.istore_n 3, 1) ∧ 16 + 1 = 17 := by decide +kernel
theorem zi_183_17 : zraw 183 17 = some (.goto (-11), 3) ∧ ((17 : Nat) : Int) + (-11) = Int.ofNat 6 := by decide +kernel
theorem zi_183_20 : zraw 183 20 = some (.iload_n 3, 1) ∧ 20 + 1 = 21 := by decide +kernel
theorem zi_183_21 : zraw 183 21 = some (.iload_n 2, 1) ∧ 21 + 1 = 22 := by decide +kernel
theorem zi_183_22 : zraw 183 22 = some (.if_icmp .ne 7, 3) ∧ ((22 : Nat) : Int) + 7 = Int.ofNat 29 ∧ 22 + 3 = 25 := by decide +kernel
theorem zi_183_25 : zraw 183 25 = some (.iconst 1, 1) ∧ zin 128 1 = true ∧ 25 + 1 = 26 := by decide +kernel
theorem zi_183_26 : zraw 183 26 = some (.goto 4, 3) ∧ ((26 : Nat) : Int) + 4 = Int.ofNat 30 := by decide +kernel
theorem zi_183_29 : zraw 183 29 = some (.iconst 0, 1) ∧ zin 128 0 = true ∧ 29 + 1 = 30 := by decide +kernel
theorem zi_183_30 : zraw 183 30 = some (.ireturn, 1) ∧ (zinf 183).2.2.2.1 = 2 := by decide +kernel
theorem ze_183 {K : List zF} {σ : zW} {x1 : Int} {x2 : Int} (hK : K.length < 60) : zEv true (zent 183 [.inr (.inr 122), .inl x1, .inl x2] :: K) σ = (zEv true (zent 181 [.inr (.inr 122), .inl x1] :: (183, 5, [some (.inr (.inr 122)), some (.inl x1), some (.inl x2), none], []) :: K) σ) :=
  yT_en (f := (183, 0, [some (.inr (.inr 122)), some (.inl x1), some (.inl x2), none], [])) rfl (yI_aload_n zi_183_0 rfl <| yI_iload_n zi_183_1 rfl <| yI_cv zi_183_2 rfl rfl zk_122 hK)
theorem zr_183_5 {K : List zF} {σ : zW} {o1 : Option zV} {x2 : Int} {o3 : Option zV} {v : Int} : zRet true ((183, 5, [some (.inr (.inr 122)), o1, some (.inl x2), o3], []) :: K) (some (.inl v)) σ = (zEv true ((183, 6, [some (.inr (.inr 122)), o1, some (.inl x2), some (.inl v)], []) :: K) σ) :=
  yT_rt (yI_istore_n (l := [some (.inr (.inr 122)), o1, some (.inl x2), some (.inl v)]) zi_183_5 rfl rfl <| rfl)
theorem zj_183_6 {K : List zF} {σ : zW} {o1 : Option zV} {x2 : Int} {x3 : Int} (hK : K.length < 60) : zEv true ((183, 6, [some (.inr (.inr 122)), o1, some (.inl x2), some (.inl x3)], []) :: K) σ = (if x3 ≤ x2 then if ¬ x3 = x2 then zRet true K (some (.inl 0)) σ else zRet true K (some (.inl 1)) σ else zEv true (zent 181 [.inr (.inr 122), .inl x3] :: (183, 16, [some (.inr (.inr 122)), o1, some (.inl x2), some (.inl x3)], []) :: K) σ) :=
  yI_iload_n zi_183_6 rfl <| yI_iload_n zi_183_7 rfl <| yI_ic_le zi_183_8 <| yBr (yI_iload_n zi_183_20 rfl <| yI_iload_n zi_183_21 rfl <| yI_ic_ne zi_183_22 <| yBr (yI_iconst zi_183_29 <| yI_zreturn zi_183_30 (by decide)) (yI_iconst zi_183_25 <| yI_goto zi_183_26 <| yI_zreturn zi_183_30 (by decide))) (yI_aload_n zi_183_11 rfl <| yI_iload_n zi_183_12 rfl <| yI_cv zi_183_13 rfl rfl zk_122 hK)
theorem zr_183_16 {K : List zF} {σ : zW} {o1 : Option zV} {x2 : Int} {o3 : Option zV} {v : Int} : zRet true ((183, 16, [some (.inr (.inr 122)), o1, some (.inl x2), o3], []) :: K) (some (.inl v)) σ = (zEv true ((183, 6, [some (.inr (.inr 122)), o1, some (.inl x2), some (.inl v)], []) :: K) σ) :=
  yT_rt (yI_istore_n (l := [some (.inr (.inr 122)), o1, some (.inl x2), some (.inl v)]) zi_183_16 rfl rfl <| yI_goto zi_183_17 <| rfl)
/-- 184 TreegrabModel.children(II)I -/
theorem zi_184_0 : zraw 184 0 = some (.aload_n 0, 1) ∧ 0 + 1 = 1 := by decide +kernel
theorem zi_184_1 : zraw 184 1 = some (.iload_n 1, 1) ∧ 1 + 1 = 2 := by decide +kernel
theorem zi_184_2 : zraw 184 2 = some (.iload_n 2, 1) ∧ 2 + 1 = 3 := by decide +kernel
theorem zi_184_3 : zraw 184 3 = some (.invokevirtual 386, 3) ∧ zmt (zinf 184).1 386 = some 178 ∧ Nat.ble 9000 178 = false ∧ zinf 178 = (10, 3, 4, 2, 0) ∧ 3 + 3 = 6 := by decide +kernel
theorem zi_184_6 : zraw 184 6 = some (.ifCond .ne 5, 3) ∧ ((6 : Nat) : Int) + 5 = Int.ofNat 11 ∧ 6 + 3 = 9 := by decide +kernel
theorem zi_184_9 : zraw 184 9 = some (.iconst 0, 1) ∧ zin 128 0 = true ∧ 9 + 1 = 10 := by decide +kernel
theorem zi_184_10 : zraw 184 10 = some (.ireturn, 1) ∧ (zinf 184).2.2.2.1 = 1 := by decide +kernel
theorem zi_184_11 : zraw 184 11 = some (.aload_n 0, 1) ∧ 11 + 1 = 12 := by decide +kernel
theorem zi_184_12 : zraw 184 12 = some (.iload_n 1, 1) ∧ 12 + 1 = 13 := by decide +kernel
theorem zi_184_13 : zraw 184 13 = some (.invokevirtual 402, 3) ∧ zmt (zinf 184).1 402 = some 180 ∧ Nat.ble 9000 180 = false ∧ zinf 180 = (10, 2, 6, 0, 0) ∧ 13 + 3 = 16 := by decide +kernel
theorem zi_184_16 : zraw 184 16 = some (.aload_n 0, 1) ∧ 16 + 1 = 17 := by decide +kernel
theorem zi_184_17 : zraw 184 17 = some (.getfield 166, 3) ∧ zft (zinf 184).1 166 = some (10, 69, 3, true) ∧ 17 + 3 = 20 := by decide +kernel
theorem zi_184_20 : zraw 184 20 = some (.iload_n 2, 1) ∧ 20 + 1 = 21 := by decide +kernel
theorem zi_184_21 : zraw 184 21 = some (.iaload, 1) ∧ 21 + 1 = 22 := by decide +kernel
theorem zi_184_22 : zraw 184 22 = some (.ireturn, 1) ∧ (zinf 184).2.2.2.1 = 1 := by decide +kernel
theorem ze_184 {K : List zF} {σ : zW} {x1 : Int} {x2 : Int} (hK : K.length < 60) : zEv true (zent 184 [.inr (.inr 122), .inl x1, .inl x2] :: K) σ = (zEv true (zent 178 [.inr (.inr 122), .inl x1, .inl x2] :: (184, 6, [some (.inr (.inr 122)), some (.inl x1), some (.inl x2)], []) :: K) σ) :=
  yT_en (f := (184, 0, [some (.inr (.inr 122)), some (.inl x1), some (.inl x2)], [])) rfl (yI_aload_n zi_184_0 rfl <| yI_iload_n zi_184_1 rfl <| yI_iload_n zi_184_2 rfl <| yI_cv zi_184_3 rfl rfl zk_122 hK)
theorem zr_184_6 {K : List zF} {σ : zW} {x1 : Int} {x2 : Int} {v : Int} (hK : K.length < 60) : zRet true ((184, 6, [some (.inr (.inr 122)), some (.inl x1), some (.inl x2)], []) :: K) (some (.inl v)) σ = (if ¬ v = 0 then zEv true (zent 180 [.inr (.inr 122), .inl x1] :: (184, 16, [some (.inr (.inr 122)), some (.inl x1), some (.inl x2)], []) :: K) σ else zRet true K (some (.inl 0)) σ) :=
  yT_rt (yI_if_ne zi_184_6 <| yBr (yI_aload_n zi_184_11 rfl <| yI_iload_n zi_184_12 rfl <| yI_cv zi_184_13 rfl rfl zk_122 hK) (yI_iconst zi_184_9 <| yI_ireturn zi_184_10))
theorem zr_184_16 {K : List zF} {σ : zW} {o1 : Option zV} {x2 : Int} : zRet true ((184, 16, [some (.inr (.inr 122)), o1, some (.inl x2)], []) :: K) none σ = ((0 ≤ x2 ∧ x2 < 20) ∧ zRet true K (some (.inl (gI σ 173 x2.toNat))) σ) :=
  yT_rv (yI_aload_n zi_184_16 rfl <| yI_gf_f (v := 173) zi_184_17 zk_122 rfl <| yI_iload_n zi_184_20 rfl <| yI_ialoadc (v := gI σ 173 x2.toNat) zi_184_21 za_173 rfl <| yI_ireturn zi_184_22)
/-- 185 TreegrabModel.wordOf(IIZ)I -/
theorem zi_185_0 : zraw 185 0 = some (.aload_n 0, 1) ∧ 0 + 1 = 1 := by decide +kernel
theorem zi_185_1 : zraw 185 1 = some (.iload_n 1, 1) ∧ 1 + 1 = 2 := by decide +kernel
theorem zi_185_2 : zraw 185 2 = some (.iload_n 2, 1) ∧ 2 + 1 = 3 := by decide +kernel
theorem zi_185_3 : zraw 185 3 = some (.invokevirtual 386, 3) ∧ zmt (zinf 185).1 386 = some 178 ∧ Nat.ble 9000 178 = false ∧ zinf 178 = (10, 3, 4, 2, 0) ∧ 3 + 3 = 6 := by decide +kernel
theorem zi_185_6 : zraw 185 6 = some (.ifCond .ne 5, 3) ∧ ((6 : Nat) : Int) + 5 = Int.ofNat 11 ∧ 6 + 3 = 9 := by decide +kernel
theorem zi_185_9 : zraw 185 9 = some (.iconst 0, 1) ∧ zin 128 0 = true ∧ 9 + 1 = 10 := by decide +kernel
theorem zi_185_10 : zraw 185 10 = some (.ireturn, 1) ∧ (zinf 185).2.2.2.1 = 1 := by decide +kernel
theorem zi_185_11 : zraw 185 11 = some (.aload_n 0, 1) ∧ 11 + 1 = 12 := by decide +kernel
theorem zi_185_12 : zraw 185 12 = some (.iload_n 1, 1) ∧ 12 + 1 = 13 := by decide +kernel
theorem zi_185_13 : zraw 185 13 = some (.invokevirtual 402, 3) ∧ zmt (zinf 185).1 402 = some 180 ∧ Nat.ble 9000 180 = false ∧ zinf 180 = (10, 2, 6, 0, 0) ∧ 13 + 3 = 16 := by decide +kernel
theorem zi_185_16 : zraw 185 16 = some (.iload_n 3, 1) ∧ 16 + 1 = 17 := by decide +kernel
theorem zi_185_17 : zraw 185 17 = some (.ifCond .eq 12, 3) ∧ ((17 : Nat) : Int) + 12 = Int.ofNat 29 ∧ 17 + 3 = 20 := by decide +kernel
theorem zi_185_20 : zraw 185 20 = some (.aload_n 0, 1) ∧ 20 + 1 = 21 := by decide +kernel
theorem zi_185_21 : zraw 185 21 = some (.getfield 160, 3) ∧ zft (zinf 185).1 160 = some (10, 67, 3, true) ∧ 21 + 3 = 24 := by decide +kernel
theorem zi_185_24 : zraw 185 24 = some (.iload_n 2, 1) ∧ 24 + 1 = 25 := by decide +kernel
theorem zi_185_25 : zraw 185 25 = some (.iaload, 1) ∧ 25 + 1 = 26 := by decide +kernel
theorem zi_185_26 : zraw 185 26 = some (.goto 9, 3) ∧ ((26 : Nat) : Int) + 9 = Int.ofNat 35 := by decide +kernel
theorem zi_185_29 : zraw 185 29 = some (.aload_n 0, 1) ∧ 29 + 1 = 30 := by decide +kernel
theorem zi_185_30 : zraw 185 30 = some (.getfield 157, 3) ∧ zft (zinf 185).1 157 = some (10, 66, 3, true) ∧ 30 + 3 = 33 := by decide +kernel
theorem zi_185_33 : zraw 185 33 = some (.iload_n 2, 1) ∧ 33 + 1 = 34 := by decide +kernel
theorem zi_185_34 : zraw 185 34 = some (.iaload, 1) ∧ 34 + 1 = 35 := by decide +kernel
theorem zi_185_35 : zraw 185 35 = some (.ireturn, 1) ∧ (zinf 185).2.2.2.1 = 1 := by decide +kernel
theorem ze_185 {K : List zF} {σ : zW} {x1 : Int} {x2 : Int} {x3 : Int} (hK : K.length < 60) : zEv true (zent 185 [.inr (.inr 122), .inl x1, .inl x2, .inl x3] :: K) σ = (zEv true (zent 178 [.inr (.inr 122), .inl x1, .inl x2] :: (185, 6, [some (.inr (.inr 122)), some (.inl x1), some (.inl x2), some (.inl x3)], []) :: K) σ) :=
  yT_en (f := (185, 0, [some (.inr (.inr 122)), some (.inl x1), some (.inl x2), some (.inl x3)], [])) rfl (yI_aload_n zi_185_0 rfl <| yI_iload_n zi_185_1 rfl <| yI_iload_n zi_185_2 rfl <| yI_cv zi_185_3 rfl rfl zk_122 hK)
theorem zr_185_6 {K : List zF} {σ : zW} {x1 : Int} {x2 : Int} {x3 : Int} {v : Int} (hK : K.length < 60) : zRet true ((185, 6, [some (.inr (.inr 122)), some (.inl x1), some (.inl x2), some (.inl x3)], []) :: K) (some (.inl v)) σ = (if ¬ v = 0 then zEv true (zent 180 [.inr (.inr 122), .inl x1] :: (185, 16, [some (.inr (.inr 122)), some (.inl x1), some (.inl x2), some (.inl x3)], []) :: K) σ else zRet true K (some (.inl 0)) σ) :=
  yT_rt (yI_if_ne zi_185_6 <| yBr (yI_aload_n zi_185_11 rfl <| yI_iload_n zi_185_12 rfl <| yI_cv zi_185_13 rfl rfl zk_122 hK) (yI_iconst zi_185_9 <| yI_ireturn zi_185_10))
theorem zr_185_16 {K : List zF} {σ : zW} {o1 : Option zV} {x2 : Int} {x3 : Int} : zRet true ((185, 16, [some (.inr (.inr 122)), o1, some (.inl x2), some (.inl x3)], []) :: K) none σ = (((x3 = 0) → (0 ≤ x2 ∧ x2 < 20)) ∧ ((¬ (x3 = 0) → (0 ≤ x2 ∧ x2 < 20)) ∧ zRet true K (some (.inl (if x3 = 0 then gI σ 170 x2.toNat else gI σ 171 x2.toNat : Int))) σ)) :=
  yT_rv (yI_iload_n zi_185_16 rfl <| yI_if_eq zi_185_17 <| yMi3 (j := 35) (ls2 := [some (.inr (.inr 122)), o1, some (.inl x2), some (.inl x3)]) (st2 := []) (x := gI σ 170 x2.toNat) (y := gI σ 171 x2.toNat) (σ2 := σ) (yI_aload_n zi_185_29 rfl <| yI_gf_f (v := 170) zi_185_30 zk_122 rfl <| yI_iload_n zi_185_33 rfl <| yI_ialoadc (v := gI σ 170 x2.toNat) zi_185_34 za_170 rfl <| rfl) (yI_aload_n zi_185_20 rfl <| yI_gf_f (v := 171) zi_185_21 zk_122 rfl <| yI_iload_n zi_185_24 rfl <| yI_ialoadc (v := gI σ 171 x2.toNat) zi_185_25 za_171 rfl <| yI_goto zi_185_26 <| rfl) <| yI_ireturn zi_185_35)
/-- 186 TreegrabModel.labelled(I)I -/
theorem zi_186_0 : zraw 186 0 = some (.lconst 0, 1) ∧ (bif Nat.beq (0 : Fin 2).val 0 then (0 : Int64) else 1) = 0 ∧ 0 + 1 = 1 := by decide +kernel
theorem zi_186_1 : zraw 186 1 = some (.lstore_n 2, 1) ∧ 1 + 1 = 2 := by decide +kernel
theorem zi_186_2 : zraw 186 2 = some (.aload_n 0, 1) ∧ 2 + 1 = 3 := by decide +kernel
theorem zi_186_3 : zraw 186 3 = some (.getfield 215, 3) ∧ zft (zinf 186).1 215 = some (10, 1, 0, false) ∧ 3 + 3 = 6 := by decide +kernel
theorem zi_186_6 : zraw 186 6 = some (.iconst 1, 1) ∧ zin 128 1 = true ∧ 6 + 1 = 7 := by decide +kernel
theorem zi_186_7 : zraw 186 7 = some (.bipush 6, 2) ∧ zin 128 6 = true ∧ 7 + 2 = 9 := by decide +kernel
theorem zi_186_9 : zraw 186 9 = some (.invokestatic 208, 3) ∧ zmt (zinf 186).1 208 = some 142 ∧ Nat.ble 9000 142 = false ∧ zinf 142 = (10, 3, 3, 2, 1) ∧ 9 + 3 = 12 := by decide +kernel
theorem zi_186_12 : zraw 186 12 = some (.istore 4, 2) ∧ 12 + 2 = 14 := by decide +kernel
theorem zi_186_14 : zraw 186 14 = some (.iconst 0, 1) ∧ zin 128 0 = true ∧ 14 + 1 = 15 := by decide +kernel
theorem zi_186_15 : zraw 186 15 = some (.istore 5, 2) ∧ 15 + 2 = 17 := by decide +kernel
theorem zi_186_17 : zraw 186 17 = some (.iload 5, 2) ∧ 17 + 2 = 19 := by decide +kernel
theorem zi_186_19 : zraw 186 19 = some (.aload_n 0, 1) ∧ 19 + 1 = 20 := by decide +kernel
theorem zi_186_20 : zraw 186 20 = some (.getfield 215, 3) ∧ zft (zinf 186).1 215 = some (10, 1, 0, false) ∧ 20 + 3 = 23 := by decide +kernel
theorem zi_186_23 : zraw 186 23 = some (.if_icmp .ge 48, 3) ∧ ((23 : Nat) : Int) + 48 = Int.ofNat 71 ∧ 23 + 3 = 26 := by decide +kernel
theorem zi_186_26 : zraw 186 26 = some (.iload 4, 2) ∧ 26 + 2 = 28 := by decide +kernel
theorem zi_186_28 : zraw 186 28 = some (.ifCond .eq 43, 3) ∧ ((28 : Nat) : Int) + 43 = Int.ofNat 71 ∧ 28 + 3 = 31 := by decide +kernel
theorem zi_186_31 : zraw 186 31 = some (.aload_n 0, 1) ∧ 31 + 1 = 32 := by decide +kernel
theorem zi_186_32 : zraw 186 32 = some (.getfield 7, 3) ∧ zft (zinf 186).1 7 = some (10, 0, 3, true) ∧ 32 + 3 = 35 := by decide +kernel
theorem zi_186_35 : zraw 186 35 = some (.iload 5, 2) ∧ 35 + 2 = 37 := by decide +kernel
theorem zi_186_37 : zraw 186 37 = some (.iaload, 1) ∧ 37 + 1 = 38 := by decide +kernel
theorem zi_186_38 : zraw 186 38 = some (.ifCond .le 7, 3) ∧ ((38 : Nat) : Int) + 7 = Int.ofNat 45 ∧ 38 + 3 = 41 := by decide +kernel
theorem zi_186_41 : zraw 186 41 = some (.iconst 1, 1) ∧ zin 128 1 = true ∧ 41 + 1 = 42 := by decide +kernel
theorem zi_186_42 : zraw 186 42 = some (.goto 4, 3) ∧ ((42 : Nat) : Int) + 4 = Int.ofNat 46 := by decide +kernel
theorem zi_186_45 : zraw 186 45 = some (.iconst 0, 1) ∧ zin 128 0 = true ∧ 45 + 1 = 46 := by decide +kernel
theorem zi_186_46 : zraw 186 46 = some (.istore 4, 2) ∧ 46 + 2 = 48 := by decide +kernel
theorem zi_186_48 : zraw 186 48 = some (.lload_n 2, 1) ∧ 48 + 1 = 49 := by decide +kernel
theorem zi_186_49 : zraw 186 49 = some (.aload_n 0, 1) ∧ 49 + 1 = 50 := by decide +kernel
theorem zi_186_50 : zraw 186 50 = some (.getfield 7, 3) ∧ zft (zinf 186).1 7 = some (10, 0, 3, true) ∧ 50 + 3 = 53 := by decide +kernel
theorem zi_186_53 : zraw 186 53 = some (.iload 5, 2) ∧ 53 + 2 = 55 := by decide +kernel
theorem zi_186_55 : zraw 186 55 = some (.iaload, 1) ∧ 55 + 1 = 56 := by decide +kernel
theorem zi_186_56 : zraw 186 56 = some (.i2l, 1) ∧ 56 + 1 = 57 := by decide +kernel
theorem zi_186_57 : zraw 186 57 = some (.bipush 8, 2) ∧ zin 128 8 = true ∧ 57 + 2 = 59 := by decide +kernel
theorem zi_186_59 : zraw 186 59 = some (.iload 5, 2) ∧ 59 + 2 = 61 := by decide +kernel
theorem zi_186_61 : zraw 186 61 = some (.imul, 1) ∧ 61 + 1 = 62 := by decide +kernel
theorem zi_186_62 : zraw 186 62 = some (.lshl, 1) ∧ 62 + 1 = 63 := by decide +kernel
theorem zi_186_63 : zraw 186 63 = some (.lor, 1) ∧ 63 + 1 = 64 := by decide +kernel
theorem zi_186_64 : zraw 186 64 = some (.lstore_n 2, 1) ∧ 64 + 1 = 65 := by decide +kernel
theorem zi_186_65 : zraw 186 65 = some (.iinc 5 1, 3) ∧ zin 32768 1 = true ∧ 65 + 3 = 68 := by decide +kernel
theorem zi_186_68 : zraw 186 68 = some (.goto (-51), 3) ∧ ((68 : Nat) : Int) + (-51) = Int.ofNat 17 := by decide +kernel
theorem zi_186_71 : zraw 186 71 = some (.aload_n 0, 1) ∧ 71 + 1 = 72 := by decide +kernel
theorem zi_186_72 : zraw 186 72 = some (.iconst 0, 1) ∧ zin 128 0 = true ∧ 72 + 1 = 73 := by decide +kernel
theorem zi_186_73 : zraw 186 73 = some (.putfield 215, 3) ∧ zft (zinf 186).1 215 = some (10, 1, 0, false) ∧ 73 + 3 = 76 := by decide +kernel
theorem zi_186_76 : zraw 186 76 = some (.iconst 0, 1) ∧ zin 128 0 = true ∧ 76 + 1 = 77 := by decide +kernel
theorem zi_186_77 : zraw 186 77 = some (.istore 5, 2) ∧ 77 + 2 = 79 := by decide +kernel
theorem zi_186_79 : zraw 186 79 = some (.aload_n 0, 1) ∧ 79 + 1 = 80 := by decide +kernel
theorem zi_186_80 : zraw 186 80 = some (.iload_n 1, 1) ∧ 80 + 1 = 81 := by decide +kernel
theorem zi_186_81 : zraw 186 81 = some (.invokestatic 358, 3) ∧ zmt (zinf 186).1 358 = some 143 ∧ Nat.ble 9000 143 = false ∧ zinf 143 = (10, 1, 1, 2, 1) ∧ 81 + 3 = 84 := by decide +kernel
theorem zi_186_84 : zraw 186 84 = some (.ifCond .eq 7, 3) ∧ ((84 : Nat) : Int) + 7 = Int.ofNat 91 ∧ 84 + 3 = 87 := by decide +kernel
theorem zi_186_87 : zraw 186 87 = some (.iconst 0, 1) ∧ zin 128 0 = true ∧ 87 + 1 = 88 := by decide +kernel
theorem zi_186_88 : zraw 186 88 = some (.goto 4, 3) ∧ ((88 : Nat) : Int) + 4 = Int.ofNat 92 := by decide +kernel
theorem zi_186_91 : zraw 186 91 = some (.iconst 1, 1) ∧ zin 128 1 = true ∧ 91 + 1 = 92 := by decide +kernel
theorem zi_186_92 : zraw 186 92 = some (.invokevirtual 353, 3) ∧ zmt (zinf 186).1 353 = some 141 ∧ Nat.ble 9000 141 = false ∧ zinf 141 = (10, 2, 2, 2, 0) ∧ 92 + 3 = 95 := by decide +kernel
theorem zi_186_95 : zraw 186 95 = some (.ifCond .eq 55, 3) ∧ ((95 : Nat) : Int) + 55 = Int.ofNat 150 ∧ 95 + 3 = 98 := by decide +kernel
theorem zi_186_98 : zraw 186 98 = some (.iconst 0, 1) ∧ zin 128 0 = true ∧ 98 + 1 = 99 := by decide +kernel
theorem zi_186_99 : zraw 186 99 = some (.istore 6, 2) ∧ 99 + 2 = 101 := by decide +kernel
theorem zi_186_101 : zraw 186 101 = some (.iload 6, 2) ∧ 101 + 2 = 103 := by decide +kernel
theorem zi_186_103 : zraw 186 103 = some (.aload_n 0, 1) ∧ 103 + 1 = 104 := by decide +kernel
theorem zi_186_104 : zraw 186 104 = some (.getfield 13, 3) ∧ zft (zinf 186).1 13 = some (10, 8, 3, true) ∧ 104 + 3 = 107 := by decide +kernel
theorem zi_186_107 : zraw 186 107 = some (.iload_n 1, 1) ∧ 107 + 1 = 108 := by decide +kernel
theorem zi_186_108 : zraw 186 108 = some (.iaload, 1) ∧ 108 + 1 = 109 := by decide +kernel
theorem zi_186_109 : zraw 186 109 = some (.if_icmp .ge 41, 3) ∧ ((109 : Nat) : Int) + 41 = Int.ofNat 150 ∧ 109 + 3 = 112 := by decide +kernel
theorem zi_186_112 : zraw 186 112 = some (.iload 4, 2) ∧ 112 + 2 = 114 := by decide +kernel
theorem zi_186_114 : zraw 186 114 = some (.ifCond .eq 36, 3) ∧ ((114 : Nat) : Int) + 36 = Int.ofNat 150 ∧ 114 + 3 = 117 := by decide +kernel
theorem zi_186_117 : zraw 186 117 = some (.iload 5, 2) ∧ 117 + 2 = 119 := by decide +kernel
theorem zi_186_119 : zraw 186 119 = some (.aload_n 0, 1) ∧ 119 + 1 = 120 := by decide +kernel
theorem zi_186_120 : zraw 186 120 = some (.getfield 16, 3) ∧ zft (zinf 186).1 16 = some (10, 9, 3, true) ∧ 120 + 3 = 123 := by decide +kernel
theorem zi_186_123 : zraw 186 123 = some (.bipush 20, 2) ∧ zin 128 20 = true ∧ 123 + 2 = 125 := by decide +kernel
theorem zi_186_125 : zraw 186 125 = some (.iload_n 1, 1) ∧ 125 + 1 = 126 := by decide +kernel
theorem zi_186_126 : zraw 186 126 = some (.imul, 1) ∧ 126 + 1 = 127 := by decide +kernel
theorem zi_186_127 : zraw 186 127 = some (.iload 6, 2) ∧ 127 + 2 = 129 := by decide +kernel
theorem zi_186_129 : zraw 186 129 = some (.iadd, 1) ∧ 129 + 1 = 130 := by decide +kernel
theorem zi_186_130 : zraw 186 130 = some (.laload, 1) ∧ 130 + 1 = 131 := by decide +kernel
theorem zi_186_131 : zraw 186 131 = some (.lload_n 2, 1) ∧ 131 + 1 = 132 := by decide +kernel
theorem zi_186_132 : zraw 186 132 = some (.lcmp, 1) ∧ 132 + 1 = 133 := by decide +kernel
theorem zi_186_133 : zraw 186 133 = some (.ifCond .ne 7, 3) ∧ ((133 : Nat) : Int) + 7 = Int.ofNat 140 ∧ 133 + 3 = 136 := by decide +kernel
theorem zi_186_136 : zraw 186 136 = some (.iconst 1, 1) ∧ zin 128 1 = true ∧ 136 + 1 = 137 := by decide +kernel
theorem zi_186_137 : zraw 186 137 = some (.goto 4, 3) ∧ ((137 : Nat) : Int) + 4 = Int.ofNat 141 := by decide +kernel
theorem zi_186_140 : zraw 186 140 = some (.iconst 0, 1) ∧ zin 128 0 = true ∧ 140 + 1 = 141 := by decide +kernel
theorem zi_186_141 : zraw 186 141 = some (.iadd, 1) ∧ 141 + 1 = 142 := by decide +kernel
theorem zi_186_142 : zraw 186 142 = some (.istore 5, 2) ∧ 142 + 2 = 144 := by decide +kernel
theorem zi_186_144 : zraw 186 144 = some (.iinc 6 1, 3) ∧ zin 32768 1 = true ∧ 144 + 3 = 147 := by decide +kernel
theorem zi_186_147 : zraw 186 147 = some (.goto (-46), 3) ∧ ((147 : Nat) : Int) + (-46) = Int.ofNat 101 := by decide +kernel
theorem zi_186_150 : zraw 186 150 = some (.iload 5, 2) ∧ 150 + 2 = 152 := by decide +kernel
theorem zi_186_152 : zraw 186 152 = some (.ireturn, 1) ∧ (zinf 186).2.2.2.1 = 1 := by decide +kernel
theorem ze_186 {K : List zF} {σ : zW} {x1 : Int} (hK : K.length < 60) : zEv true (zent 186 [.inr (.inr 122), .inl x1] :: K) σ = (zEv true (zent 142 [.inl (gI σ 122 1), .inl 1, .inl 6] :: (186, 12, [some (.inr (.inr 122)), some (.inl x1), some (.inr (.inl 0)), none, none, none, none], []) :: K) σ) :=
  yT_en (f := (186, 0, [some (.inr (.inr 122)), some (.inl x1), none, none, none, none, none], [])) rfl (yI_lconst zi_186_0 <| yI_lstore_n (l := [some (.inr (.inr 122)), some (.inl x1), some (.inr (.inl 0)), none, none, none, none]) zi_186_1 rfl rfl <| yI_aload_n zi_186_2 rfl <| yI_gf_i (v := gI σ 122 1) zi_186_3 zk_122 rfl <| yI_iconst zi_186_6 <| yI_bipush zi_186_7 <| yI_cs zi_186_9 rfl rfl hK)
theorem zr_186_12 {K : List zF} {σ : zW} {x1 : Int} {x2 : Int64} {o4 : Option zV} {o5 : Option zV} {o6 : Option zV} {v : Int} : zRet true ((186, 12, [some (.inr (.inr 122)), some (.inl x1), some (.inr (.inl x2)), none, o4, o5, o6], []) :: K) (some (.inl v)) σ = (zEv true ((186, 17, [some (.inr (.inr 122)), some (.inl x1), some (.inr (.inl x2)), none, some (.inl v), some (.inl 0), o6], []) :: K) σ) :=
  yT_rt (yI_istore (l := [some (.inr (.inr 122)), some (.inl x1), some (.inr (.inl x2)), none, some (.inl v), o5, o6]) zi_186_12 rfl rfl <| yI_iconst zi_186_14 <| yI_istore (l := [some (.inr (.inr 122)), some (.inl x1), some (.inr (.inl x2)), none, some (.inl v), some (.inl 0), o6]) zi_186_15 rfl rfl <| rfl)
theorem zj_186_17 {K : List zF} {σ : zW} {x1 : Int} {x2 : Int64} {x4 : Int} {x5 : Int} {o6 : Option zV} : zEv true ((186, 17, [some (.inr (.inr 122)), some (.inl x1), some (.inr (.inl x2)), none, some (.inl x4), some (.inl x5), o6], []) :: K) σ = (if (gI σ 122 1) ≤ x5 then zEv true ((186, 71, [some (.inr (.inr 122)), some (.inl x1), some (.inr (.inl x2)), none, some (.inl x4), some (.inl x5), o6], []) :: K) σ else if x4 = 0 then zEv true ((186, 71, [some (.inr (.inr 122)), some (.inl x1), some (.inr (.inl x2)), none, some (.inl x4), some (.inl x5), o6], []) :: K) σ else (0 ≤ x5 ∧ x5 < 600) ∧ ((0 ≤ x5 ∧ x5 < 600) ∧ zEv true ((186, 17, [some (.inr (.inr 122)), some (.inl x1), some (.inr (.inl (x2 ||| (zlshl (zi2l (gI σ 123 x5.toNat)) (w32 (8 * x5)))))), none, some (.inl (if (gI σ 123 x5.toNat) ≤ 0 then 0 else 1 : Int)), some (.inl (w32 (x5 + 1))), o6], []) :: K) σ)) :=
  yI_iload zi_186_17 rfl <| yI_aload_n zi_186_19 rfl <| yI_gf_i (v := gI σ 122 1) zi_186_20 zk_122 rfl <| yI_ic_ge zi_186_23 <| yBr (rfl) (yI_iload zi_186_26 rfl <| yI_if_eq zi_186_28 <| yBr (rfl) (yI_aload_n zi_186_31 rfl <| yI_gf_f (v := 123) zi_186_32 zk_122 rfl <| yI_iload zi_186_35 rfl <| yI_ialoadc (v := gI σ 123 x5.toNat) zi_186_37 za_123 rfl <| yI_if_le zi_186_38 <| yMi0 (j := 46) (ls2 := [some (.inr (.inr 122)), some (.inl x1), some (.inr (.inl x2)), none, some (.inl x4), some (.inl x5), o6]) (st2 := []) (x := 0) (y := 1) (σ2 := σ) (yI_iconst zi_186_45 <| rfl) (yI_iconst zi_186_41 <| yI_goto zi_186_42 <| rfl) <| yI_istore (l := [some (.inr (.inr 122)), some (.inl x1), some (.inr (.inl x2)), none, some (.inl (if (gI σ 123 x5.toNat) ≤ 0 then 0 else 1 : Int)), some (.inl x5), o6]) zi_186_46 rfl rfl <| yI_lload_n zi_186_48 rfl <| yI_aload_n zi_186_49 rfl <| yI_gf_f (v := 123) zi_186_50 zk_122 rfl <| yI_iload zi_186_53 rfl <| yI_ialoadc (v := gI σ 123 x5.toNat) zi_186_55 za_123 rfl <| yI_i2l zi_186_56 <| yI_bipush zi_186_57 <| yI_iload zi_186_59 rfl <| yI_imul zi_186_61 <| yI_lshl zi_186_62 <| yI_lor zi_186_63 <| yI_lstore_n (l := [some (.inr (.inr 122)), some (.inl x1), some (.inr (.inl (x2 ||| (zlshl (zi2l (gI σ 123 x5.toNat)) (w32 (8 * x5)))))), none, some (.inl (if (gI σ 123 x5.toNat) ≤ 0 then 0 else 1 : Int)), some (.inl x5), o6]) zi_186_64 rfl rfl <| yI_iinc (l := [some (.inr (.inr 122)), some (.inl x1), some (.inr (.inl (x2 ||| (zlshl (zi2l (gI σ 123 x5.toNat)) (w32 (8 * x5)))))), none, some (.inl (if (gI σ 123 x5.toNat) ≤ 0 then 0 else 1 : Int)), some (.inl (w32 (x5 + 1))), o6]) zi_186_65 rfl rfl rfl <| yI_goto zi_186_68 <| rfl))
theorem zj_186_71 {K : List zF} {σ : zW} {x1 : Int} {x2 : Int64} {x4 : Int} {o5 : Option zV} {o6 : Option zV} (hK : K.length < 60) : zEv true ((186, 71, [some (.inr (.inr 122)), some (.inl x1), some (.inr (.inl x2)), none, some (.inl x4), o5, o6], []) :: K) σ = (zEv true (zent 143 [.inl x1] :: (186, 84, [some (.inr (.inr 122)), some (.inl x1), some (.inr (.inl x2)), none, some (.inl x4), some (.inl 0), o6], [.inr (.inr 122)]) :: K) (sI σ 122 1 0)) :=
  yI_aload_n zi_186_71 rfl <| yI_iconst zi_186_72 <| yI_pf_i zi_186_73 zk_122 <| yI_iconst zi_186_76 <| yI_istore (l := [some (.inr (.inr 122)), some (.inl x1), some (.inr (.inl x2)), none, some (.inl x4), some (.inl 0), o6]) zi_186_77 rfl rfl <| yI_aload_n zi_186_79 rfl <| yI_iload_n zi_186_80 rfl <| yI_cs zi_186_81 rfl rfl hK
theorem zr_186_84 {K : List zF} {σ : zW} {x1 : Int} {x2 : Int64} {x4 : Int} {x5 : Int} {o6 : Option zV} {v : Int} (hK : K.length < 60) : zRet true ((186, 84, [some (.inr (.inr 122)), some (.inl x1), some (.inr (.inl x2)), none, some (.inl x4), some (.inl x5), o6], [.inr (.inr 122)]) :: K) (some (.inl v)) σ = (zEv true (zent 141 [.inr (.inr 122), .inl (if v = 0 then 1 else 0 : Int)] :: (186, 95, [some (.inr (.inr 122)), some (.inl x1), some (.inr (.inl x2)), none, some (.inl x4), some (.inl x5), o6], []) :: K) σ) :=
  yT_rt (yI_if_eq zi_186_84 <| yMi0 (j := 92) (ls2 := [some (.inr (.inr 122)), some (.inl x1), some (.inr (.inl x2)), none, some (.inl x4), some (.inl x5), o6]) (st2 := [.inr (.inr 122)]) (x := 1) (y := 0) (σ2 := σ) (yI_iconst zi_186_91 <| rfl) (yI_iconst zi_186_87 <| yI_goto zi_186_88 <| rfl) <| yI_cv zi_186_92 rfl rfl zk_122 hK)
theorem zr_186_95 {K : List zF} {σ : zW} {x1 : Int} {x2 : Int64} {x4 : Int} {x5 : Int} {o6 : Option zV} {v : Int} : zRet true ((186, 95, [some (.inr (.inr 122)), some (.inl x1), some (.inr (.inl x2)), none, some (.inl x4), some (.inl x5), o6], []) :: K) (some (.inl v)) σ = (if v = 0 then zRet true K (some (.inl x5)) σ else zEv true ((186, 101, [some (.inr (.inr 122)), some (.inl x1), some (.inr (.inl x2)), none, some (.inl x4), some (.inl x5), some (.inl 0)], []) :: K) σ) :=
  yT_rt (yI_if_eq zi_186_95 <| yBr (yI_iload zi_186_150 rfl <| yI_ireturn zi_186_152) (yI_iconst zi_186_98 <| yI_istore (l := [some (.inr (.inr 122)), some (.inl x1), some (.inr (.inl x2)), none, some (.inl x4), some (.inl x5), some (.inl 0)]) zi_186_99 rfl rfl <| rfl))
theorem zj_186_101 {K : List zF} {σ : zW} {x1 : Int} {x2 : Int64} {x4 : Int} {x5 : Int} {x6 : Int} : zEv true ((186, 101, [some (.inr (.inr 122)), some (.inl x1), some (.inr (.inl x2)), none, some (.inl x4), some (.inl x5), some (.inl x6)], []) :: K) σ = ((0 ≤ x1 ∧ x1 < 3) ∧ (if (gI σ 124 x1.toNat) ≤ x6 then zRet true K (some (.inl x5)) σ else if x4 = 0 then zRet true K (some (.inl x5)) σ else (0 ≤ (w32 ((w32 (20 * x1)) + x6)) ∧ (w32 ((w32 (20 * x1)) + x6)) < 60) ∧ zEv true ((186, 101, [some (.inr (.inr 122)), some (.inl x1), some (.inr (.inl x2)), none, some (.inl x4), some (.inl (w32 (x5 + (if ¬ (zlc (gL σ 125 ((w32 ((w32 (20 * x1)) + x6)).toNat)) x2) = 0 then 0 else 1 : Int)))), some (.inl (w32 (x6 + 1)))], []) :: K) σ)) :=
  yI_iload zi_186_101 rfl <| yI_aload_n zi_186_103 rfl <| yI_gf_f (v := 124) zi_186_104 zk_122 rfl <| yI_iload_n zi_186_107 rfl <| yI_ialoadc (v := gI σ 124 x1.toNat) zi_186_108 za_124 rfl <| yI_ic_ge zi_186_109 <| yBr (yI_iload zi_186_150 rfl <| yI_ireturn zi_186_152) (yI_iload zi_186_112 rfl <| yI_if_eq zi_186_114 <| yBr (yI_iload zi_186_150 rfl <| yI_ireturn zi_186_152) (yI_iload zi_186_117 rfl <| yI_aload_n zi_186_119 rfl <| yI_gf_f (v := 125) zi_186_120 zk_122 rfl <| yI_bipush zi_186_123 <| yI_iload_n zi_186_125 rfl <| yI_imul zi_186_126 <| yI_iload zi_186_127 rfl <| yI_iadd zi_186_129 <| yI_laloadc (v := gL σ 125 ((w32 ((w32 (20 * x1)) + x6)).toNat)) zi_186_130 za_125 rfl <| yI_lload_n zi_186_131 rfl <| yI_lcmp zi_186_132 <| yI_if_ne zi_186_133 <| yMi0 (j := 141) (ls2 := [some (.inr (.inr 122)), some (.inl x1), some (.inr (.inl x2)), none, some (.inl x4), some (.inl x5), some (.inl x6)]) (st2 := [.inl x5]) (x := 0) (y := 1) (σ2 := σ) (yI_iconst zi_186_140 <| rfl) (yI_iconst zi_186_136 <| yI_goto zi_186_137 <| rfl) <| yI_iadd zi_186_141 <| yI_istore (l := [some (.inr (.inr 122)), some (.inl x1), some (.inr (.inl x2)), none, some (.inl x4), some (.inl (w32 (x5 + (if ¬ (zlc (gL σ 125 ((w32 ((w32 (20 * x1)) + x6)).toNat)) x2) = 0 then 0 else 1 : Int)))), some (.inl x6)]) zi_186_142 rfl rfl <| yI_iinc (l := [some (.inr (.inr 122)), some (.inl x1), some (.inr (.inl x2)), none, some (.inl x4), some (.inl (w32 (x5 + (if ¬ (zlc (gL σ 125 ((w32 ((w32 (20 * x1)) + x6)).toNat)) x2) = 0 then 0 else 1 : Int)))), some (.inl (w32 (x6 + 1)))]) zi_186_144 rfl rfl rfl <| yI_goto zi_186_147 <| rfl))
/-- 187 TreegrabModel.withLabel(I)I -/
theorem zi_187_0 : zraw 187 0 = some (.aload_n 0, 1) ∧ 0 + 1 = 1 := by decide +kernel
theorem zi_187_1 : zraw 187 1 = some (.iload_n 1, 1) ∧ 1 + 1 = 2 := by decide +kernel
theorem zi_187_2 : zraw 187 2 = some (.invokevirtual 405, 3) ∧ zmt (zinf 187).1 405 = some 186 ∧ Nat.ble 9000 186 = false ∧ zinf 186 = (10, 2, 7, 1, 0) ∧ 2 + 3 = 5 := by decide +kernel
theorem zi_187_5 : zraw 187 5 = some (.ireturn, 1) ∧ (zinf 187).2.2.2.1 = 1 := by decide +kernel
theorem ze_187 {K : List zF} {σ : zW} {x1 : Int} (hK : K.length < 60) : zEv true (zent 187 [.inr (.inr 122), .inl x1] :: K) σ = (zEv true (zent 186 [.inr (.inr 122), .inl x1] :: (187, 5, [some (.inr (.inr 122)), some (.inl x1)], []) :: K) σ) :=
  yT_en (f := (187, 0, [some (.inr (.inr 122)), some (.inl x1)], [])) rfl (yI_aload_n zi_187_0 rfl <| yI_iload_n zi_187_1 rfl <| yI_cv zi_187_2 rfl rfl zk_122 hK)
theorem zr_187_5 {K : List zF} {σ : zW} {o0 : Option zV} {o1 : Option zV} {v : Int} : zRet true ((187, 5, [o0, o1], []) :: K) (some (.inl v)) σ = (zRet true K (some (.inl v)) σ) :=
  yT_rt (yI_ireturn zi_187_5)
/-- 188 TreegrabModel.withLabelByWalk(I)I -/
theorem zi_188_0 : zraw 188 0 = some (.aload_n 0, 1) ∧ 0 + 1 = 1 := by decide +kernel
theorem zi_188_1 : zraw 188 1 = some (.iload_n 1, 1) ∧ 1 + 1 = 2 := by decide +kernel
theorem zi_188_2 : zraw 188 2 = some (.invokevirtual 405, 3) ∧ zmt (zinf 188).1 405 = some 186 ∧ Nat.ble 9000 186 = false ∧ zinf 186 = (10, 2, 7, 1, 0) ∧ 2 + 3 = 5 := by decide +kernel
theorem zi_188_5 : zraw 188 5 = some (.ireturn, 1) ∧ (zinf 188).2.2.2.1 = 1 := by decide +kernel
theorem ze_188 {K : List zF} {σ : zW} {x1 : Int} (hK : K.length < 60) : zEv true (zent 188 [.inr (.inr 122), .inl x1] :: K) σ = (zEv true (zent 186 [.inr (.inr 122), .inl x1] :: (188, 5, [some (.inr (.inr 122)), some (.inl x1)], []) :: K) σ) :=
  yT_en (f := (188, 0, [some (.inr (.inr 122)), some (.inl x1)], [])) rfl (yI_aload_n zi_188_0 rfl <| yI_iload_n zi_188_1 rfl <| yI_cv zi_188_2 rfl rfl zk_122 hK)
theorem zr_188_5 {K : List zF} {σ : zW} {o0 : Option zV} {o1 : Option zV} {v : Int} : zRet true ((188, 5, [o0, o1], []) :: K) (some (.inl v)) σ = (zRet true K (some (.inl v)) σ) :=
  yT_rt (yI_ireturn zi_188_5)
/-- 189 TreegrabModel.isOver(IIII)Z -/
theorem zi_189_0 : zraw 189 0 = some (.aload_n 0, 1) ∧ 0 + 1 = 1 := by decide +kernel
theorem zi_189_1 : zraw 189 1 = some (.iload 4, 2) ∧ 1 + 2 = 3 := by decide +kernel
theorem zi_189_3 : zraw 189 3 = some (.invokevirtual 396, 3) ∧ zmt (zinf 189).1 396 = some 181 ∧ Nat.ble 9000 181 = false ∧ zinf 181 = (10, 2, 2, 1, 0) ∧ 3 + 3 = 6 := by decide +kernel
theorem zi_189_6 : zraw 189 6 = some (.iload_n 3, 1) ∧ 6 + 1 = 7 := by decide +kernel
theorem zi_189_7 : zraw 189 7 = some (.if_icmp .ne 7, 3) ∧ ((7 : Nat) : Int) + 7 = Int.ofNat 14 ∧ 7 + 3 = 10 := by decide +kernel
theorem zi_189_10 : zraw 189 10 = some (.iconst 1, 1) ∧ zin 128 1 = true ∧ 10 + 1 = 11 := by decide +kernel
theorem zi_189_11 : zraw 189 11 = some (.goto 4, 3) ∧ ((11 : Nat) : Int) + 4 = Int.ofNat 15 := by decide +kernel
theorem zi_189_14 : zraw 189 14 = some (.iconst 0, 1) ∧ zin 128 0 = true ∧ 14 + 1 = 15 := by decide +kernel
theorem zi_189_15 : zraw 189 15 = some (.istore 5, 2) ∧ 15 + 2 = 17 := by decide +kernel
theorem zi_189_17 : zraw 189 17 = some (.iload_n 1, 1) ∧ 17 + 1 = 18 := by decide +kernel
theorem zi_189_18 : zraw 189 18 = some (.iconst 3, 1) ∧ zin 128 3 = true ∧ 18 + 1 = 19 := by decide +kernel
theorem zi_189_19 : zraw 189 19 = some (.if_icmp .ge 21, 3) ∧ ((19 : Nat) : Int) + 21 = Int.ofNat 40 ∧ 19 + 3 = 22 := by decide +kernel
theorem zi_189_22 : zraw 189 22 = some (.iload_n 1, 1) ∧ 22 + 1 = 23 := by decide +kernel
theorem zi_189_23 : zraw 189 23 = some (.iconst 1, 1) ∧ zin 128 1 = true ∧ 23 + 1 = 24 := by decide +kernel
theorem zi_189_24 : zraw 189 24 = some (.if_icmp .ne 8, 3) ∧ ((24 : Nat) : Int) + 8 = Int.ofNat 32 ∧ 24 + 3 = 27 := by decide +kernel
theorem zi_189_27 : zraw 189 27 = some (.iload 5, 2) ∧ 27 + 2 = 29 := by decide +kernel
theorem zi_189_29 : zraw 189 29 = some (.goto 10, 3) ∧ ((29 : Nat) : Int) + 10 = Int.ofNat 39 := by decide +kernel
theorem zi_189_32 : zraw 189 32 = some (.aload_n 0, 1) ∧ 32 + 1 = 33 := by decide +kernel
theorem zi_189_33 : zraw 189 33 = some (.iload 4, 2) ∧ 33 + 2 = 35 := by decide +kernel
theorem zi_189_35 : zraw 189 35 = some (.iload_n 3, 1) ∧ 35 + 1 = 36 := by decide +kernel
theorem zi_189_36 : zraw 189 36 = some (.invokevirtual 399, 3) ∧ zmt (zinf 189).1 399 = some 183 ∧ Nat.ble 9000 183 = false ∧ zinf 183 = (10, 3, 4, 2, 0) ∧ 36 + 3 = 39 := by decide +kernel
theorem zi_189_39 : zraw 189 39 = some (.ireturn, 1) ∧ (zinf 189).2.2.2.1 = 2 := by decide +kernel
theorem zi_189_40 : zraw 189 40 = some (.iload 5, 2) ∧ 40 + 2 = 42 := by decide +kernel
theorem zi_189_42 : zraw 189 42 = some (.ifCond .eq 64, 3) ∧ ((42 : Nat) : Int) + 64 = Int.ofNat 106 ∧ 42 + 3 = 45 := by decide +kernel
theorem zi_189_45 : zraw 189 45 = some (.iload_n 1, 1) ∧ 45 + 1 = 46 := by decide +kernel
theorem zi_189_46 : zraw 189 46 = some (.iconst 3, 1) ∧ zin 128 3 = true ∧ 46 + 1 = 47 := by decide +kernel
theorem zi_189_47 : zraw 189 47 = some (.if_icmp .ne 16, 3) ∧ ((47 : Nat) : Int) + 16 = Int.ofNat 63 ∧ 47 + 3 = 50 := by decide +kernel
theorem zi_189_50 : zraw 189 50 = some (.aload_n 0, 1) ∧ 50 + 1 = 51 := by decide +kernel
theorem zi_189_51 : zraw 189 51 = some (.getfield 166, 3) ∧ zft (zinf 189).1 166 = some (10, 69, 3, true) ∧ 51 + 3 = 54 := by decide +kernel
theorem zi_189_54 : zraw 189 54 = some (.iload_n 3, 1) ∧ 54 + 1 = 55 := by decide +kernel
theorem zi_189_55 : zraw 189 55 = some (.iaload, 1) ∧ 55 + 1 = 56 := by decide +kernel
theorem zi_189_56 : zraw 189 56 = some (.iconst 1, 1) ∧ zin 128 1 = true ∧ 56 + 1 = 57 := by decide +kernel
theorem zi_189_57 : zraw 189 57 = some (.if_icmp .ne 49, 3) ∧ ((57 : Nat) : Int) + 49 = Int.ofNat 106 ∧ 57 + 3 = 60 := by decide +kernel
theorem zi_189_60 : zraw 189 60 = some (.goto 42, 3) ∧ ((60 : Nat) : Int) + 42 = Int.ofNat 102 := by decide +kernel
theorem zi_189_63 : zraw 189 63 = some (.iload_n 1, 1) ∧ 63 + 1 = 64 := by decide +kernel
theorem zi_189_64 : zraw 189 64 = some (.iconst 4, 1) ∧ zin 128 4 = true ∧ 64 + 1 = 65 := by decide +kernel
theorem zi_189_65 : zraw 189 65 = some (.if_icmp .ne 17, 3) ∧ ((65 : Nat) : Int) + 17 = Int.ofNat 82 ∧ 65 + 3 = 68 := by decide +kernel
theorem zi_189_68 : zraw 189 68 = some (.aload_n 0, 1) ∧ 68 + 1 = 69 := by decide +kernel
theorem zi_189_69 : zraw 189 69 = some (.getfield 163, 3) ∧ zft (zinf 189).1 163 = some (10, 68, 3, true) ∧ 69 + 3 = 72 := by decide +kernel
theorem zi_189_72 : zraw 189 72 = some (.iload 4, 2) ∧ 72 + 2 = 74 := by decide +kernel
theorem zi_189_74 : zraw 189 74 = some (.iaload, 1) ∧ 74 + 1 = 75 := by decide +kernel
theorem zi_189_75 : zraw 189 75 = some (.iload_n 2, 1) ∧ 75 + 1 = 76 := by decide +kernel
theorem zi_189_76 : zraw 189 76 = some (.if_icmp .ne 30, 3) ∧ ((76 : Nat) : Int) + 30 = Int.ofNat 106 ∧ 76 + 3 = 79 := by decide +kernel
theorem zi_189_79 : zraw 189 79 = some (.goto 23, 3) ∧ ((79 : Nat) : Int) + 23 = Int.ofNat 102 := by decide +kernel
theorem zi_189_82 : zraw 189 82 = some (.aload_n 0, 1) ∧ 82 + 1 = 83 := by decide +kernel
theorem zi_189_83 : zraw 189 83 = some (.getfield 166, 3) ∧ zft (zinf 189).1 166 = some (10, 69, 3, true) ∧ 83 + 3 = 86 := by decide +kernel
theorem zi_189_86 : zraw 189 86 = some (.iload_n 3, 1) ∧ 86 + 1 = 87 := by decide +kernel
theorem zi_189_87 : zraw 189 87 = some (.iaload, 1) ∧ 87 + 1 = 88 := by decide +kernel
theorem zi_189_88 : zraw 189 88 = some (.iconst 1, 1) ∧ zin 128 1 = true ∧ 88 + 1 = 89 := by decide +kernel
theorem zi_189_89 : zraw 189 89 = some (.iadd, 1) ∧ 89 + 1 = 90 := by decide +kernel
theorem zi_189_90 : zraw 189 90 = some (.aload_n 0, 1) ∧ 90 + 1 = 91 := by decide +kernel
theorem zi_189_91 : zraw 189 91 = some (.getfield 163, 3) ∧ zft (zinf 189).1 163 = some (10, 68, 3, true) ∧ 91 + 3 = 94 := by decide +kernel
theorem zi_189_94 : zraw 189 94 = some (.iload 4, 2) ∧ 94 + 2 = 96 := by decide +kernel
theorem zi_189_96 : zraw 189 96 = some (.iaload, 1) ∧ 96 + 1 = 97 := by decide +kernel
theorem zi_189_97 : zraw 189 97 = some (.isub, 1) ∧ 97 + 1 = 98 := by decide +kernel
theorem zi_189_98 : zraw 189 98 = some (.iload_n 2, 1) ∧ 98 + 1 = 99 := by decide +kernel
theorem zi_189_99 : zraw 189 99 = some (.if_icmp .ne 7, 3) ∧ ((99 : Nat) : Int) + 7 = Int.ofNat 106 ∧ 99 + 3 = 102 := by decide +kernel
theorem zi_189_102 : zraw 189 102 = some (.iconst 1, 1) ∧ zin 128 1 = true ∧ 102 + 1 = 103 := by decide +kernel
theorem zi_189_103 : zraw 189 103 = some (.goto 4, 3) ∧ ((103 : Nat) : Int) + 4 = Int.ofNat 107 := by decide +kernel
theorem zi_189_106 : zraw 189 106 = some (.iconst 0, 1) ∧ zin 128 0 = true ∧ 106 + 1 = 107 := by decide +kernel
theorem zi_189_107 : zraw 189 107 = some (.ireturn, 1) ∧ (zinf 189).2.2.2.1 = 2 := by decide +kernel
theorem ze_189 {K : List zF} {σ : zW} {x1 : Int} {x2 : Int} {x3 : Int} {x4 : Int} (hK : K.length < 60) : zEv true (zent 189 [.inr (.inr 122), .inl x1, .inl x2, .inl x3, .inl x4] :: K) σ = (zEv true (zent 181 [.inr (.inr 122), .inl x4] :: (189, 6, [some (.inr (.inr 122)), some (.inl x1), some (.inl x2), some (.inl x3), some (.inl x4), none], []) :: K) σ) :=
  yT_en (f := (189, 0, [some (.inr (.inr 122)), some (.inl x1), some (.inl x2), some (.inl x3), some (.inl x4), none], [])) rfl (yI_aload_n zi_189_0 rfl <| yI_iload zi_189_1 rfl <| yI_cv zi_189_3 rfl rfl zk_122 hK)
theorem zr_189_6 {K : List zF} {σ : zW} {x1 : Int} {x2 : Int} {x3 : Int} {x4 : Int} {o5 : Option zV} {v : Int} (hK : K.length < 60) : zRet true ((189, 6, [some (.inr (.inr 122)), some (.inl x1), some (.inl x2), some (.inl x3), some (.inl x4), o5], []) :: K) (some (.inl v)) σ = (if 3 ≤ x1 then if (if ¬ v = x3 then 0 else 1 : Int) = 0 then zEv true ((189, 106, [some (.inr (.inr 122)), some (.inl x1), some (.inl x2), some (.inl x3), some (.inl x4), some (.inl (if ¬ v = x3 then 0 else 1 : Int))], []) :: K) σ else if ¬ x1 = 3 then if ¬ x1 = 4 then (0 ≤ x3 ∧ x3 < 20) ∧ ((0 ≤ x4 ∧ x4 < 20) ∧ (if ¬ (w32 ((w32 ((gI σ 173 x3.toNat) + 1)) - (gI σ 172 x4.toNat))) = x2 then zEv true ((189, 106, [some (.inr (.inr 122)), some (.inl x1), some (.inl x2), some (.inl x3), some (.inl x4), some (.inl (if ¬ v = x3 then 0 else 1 : Int))], []) :: K) σ else zRet true K (some (.inl 1)) σ)) else (0 ≤ x4 ∧ x4 < 20) ∧ (if ¬ (gI σ 172 x4.toNat) = x2 then zEv true ((189, 106, [some (.inr (.inr 122)), some (.inl x1), some (.inl x2), some (.inl x3), some (.inl x4), some (.inl (if ¬ v = x3 then 0 else 1 : Int))], []) :: K) σ else zRet true K (some (.inl 1)) σ) else (0 ≤ x3 ∧ x3 < 20) ∧ (if ¬ (gI σ 173 x3.toNat) = 1 then zEv true ((189, 106, [some (.inr (.inr 122)), some (.inl x1), some (.inl x2), some (.inl x3), some (.inl x4), some (.inl (if ¬ v = x3 then 0 else 1 : Int))], []) :: K) σ else zRet true K (some (.inl 1)) σ) else if ¬ x1 = 1 then zEv true (zent 183 [.inr (.inr 122), .inl x4, .inl x3] :: (189, 39, [some (.inr (.inr 122)), some (.inl x1), some (.inl x2), some (.inl x3), some (.inl x4), some (.inl (if ¬ v = x3 then 0 else 1 : Int))], []) :: K) σ else ((if ¬ v = x3 then 0 else 1 : Int) = 0 ∨ (if ¬ v = x3 then 0 else 1 : Int) = 1) ∧ zRet true K (some (.inl (if ¬ v = x3 then 0 else 1 : Int))) σ) :=
  yT_rt (yI_iload_n zi_189_6 rfl <| yI_ic_ne zi_189_7 <| yMi0 (j := 15) (ls2 := [some (.inr (.inr 122)), some (.inl x1), some (.inl x2), some (.inl x3), some (.inl x4), o5]) (st2 := []) (x := 0) (y := 1) (σ2 := σ) (yI_iconst zi_189_14 <| rfl) (yI_iconst zi_189_10 <| yI_goto zi_189_11 <| rfl) <| yI_istore (l := [some (.inr (.inr 122)), some (.inl x1), some (.inl x2), some (.inl x3), some (.inl x4), some (.inl (if ¬ v = x3 then 0 else 1 : Int))]) zi_189_15 rfl rfl <| yI_iload_n zi_189_17 rfl <| yI_iconst zi_189_18 <| yI_ic_ge zi_189_19 <| yBr (yI_iload zi_189_40 rfl <| yI_if_eq zi_189_42 <| yBr (rfl) (yI_iload_n zi_189_45 rfl <| yI_iconst zi_189_46 <| yI_ic_ne zi_189_47 <| yBr (yI_iload_n zi_189_63 rfl <| yI_iconst zi_189_64 <| yI_ic_ne zi_189_65 <| yBr (yI_aload_n zi_189_82 rfl <| yI_gf_f (v := 173) zi_189_83 zk_122 rfl <| yI_iload_n zi_189_86 rfl <| yI_ialoadc (v := gI σ 173 x3.toNat) zi_189_87 za_173 rfl <| yI_iconst zi_189_88 <| yI_iadd zi_189_89 <| yI_aload_n zi_189_90 rfl <| yI_gf_f (v := 172) zi_189_91 zk_122 rfl <| yI_iload zi_189_94 rfl <| yI_ialoadc (v := gI σ 172 x4.toNat) zi_189_96 za_172 rfl <| yI_isub zi_189_97 <| yI_iload_n zi_189_98 rfl <| yI_ic_ne zi_189_99 <| yBr (rfl) (yI_iconst zi_189_102 <| yI_goto zi_189_103 <| yI_zreturn zi_189_107 (by decide))) (yI_aload_n zi_189_68 rfl <| yI_gf_f (v := 172) zi_189_69 zk_122 rfl <| yI_iload zi_189_72 rfl <| yI_ialoadc (v := gI σ 172 x4.toNat) zi_189_74 za_172 rfl <| yI_iload_n zi_189_75 rfl <| yI_ic_ne zi_189_76 <| yBr (rfl) (yI_goto zi_189_79 <| yI_iconst zi_189_102 <| yI_goto zi_189_103 <| yI_zreturn zi_189_107 (by decide)))) (yI_aload_n zi_189_50 rfl <| yI_gf_f (v := 173) zi_189_51 zk_122 rfl <| yI_iload_n zi_189_54 rfl <| yI_ialoadc (v := gI σ 173 x3.toNat) zi_189_55 za_173 rfl <| yI_iconst zi_189_56 <| yI_ic_ne zi_189_57 <| yBr (rfl) (yI_goto zi_189_60 <| yI_iconst zi_189_102 <| yI_goto zi_189_103 <| yI_zreturn zi_189_107 (by decide))))) (yI_iload_n zi_189_22 rfl <| yI_iconst zi_189_23 <| yI_ic_ne zi_189_24 <| yBr (yI_aload_n zi_189_32 rfl <| yI_iload zi_189_33 rfl <| yI_iload_n zi_189_35 rfl <| yI_cv zi_189_36 rfl rfl zk_122 hK) (yI_iload zi_189_27 rfl <| yI_goto zi_189_29 <| yI_zreturnc zi_189_39)))
theorem zj_189_106 {K : List zF} {σ : zW} {o0 : Option zV} {o1 : Option zV} {o2 : Option zV} {o3 : Option zV} {o4 : Option zV} {o5 : Option zV} : zEv true ((189, 106, [o0, o1, o2, o3, o4, o5], []) :: K) σ = (zRet true K (some (.inl 0)) σ) :=
  yI_iconst zi_189_106 <| yI_zreturn zi_189_107 (by decide)
theorem zr_189_39 {K : List zF} {σ : zW} {o0 : Option zV} {o1 : Option zV} {o2 : Option zV} {o3 : Option zV} {o4 : Option zV} {o5 : Option zV} {v : Int} : zRet true ((189, 39, [o0, o1, o2, o3, o4, o5], []) :: K) (some (.inl v)) σ = ((v = 0 ∨ v = 1) ∧ zRet true K (some (.inl v)) σ) :=
  yT_rt (yI_zreturnc zi_189_39)
/-- 190 TreegrabModel.isBeside(III)Z -/
theorem zi_190_0 : zraw 190 0 = some (.iload_n 2, 1) ∧ 0 + 1 = 1 := by decide +kernel
theorem zi_190_1 : zraw 190 1 = some (.iload_n 3, 1) ∧ 1 + 1 = 2 := by decide +kernel
theorem zi_190_2 : zraw 190 2 = some (.if_icmp .eq 29, 3) ∧ ((2 : Nat) : Int) + 29 = Int.ofNat 31 ∧ 2 + 3 = 5 := by decide +kernel
theorem zi_190_5 : zraw 190 5 = some (.aload_n 0, 1) ∧ 5 + 1 = 6 := by decide +kernel
theorem zi_190_6 : zraw 190 6 = some (.iload_n 2, 1) ∧ 6 + 1 = 7 := by decide +kernel
theorem zi_190_7 : zraw 190 7 = some (.invokevirtual 396, 3) ∧ zmt (zinf 190).1 396 = some 181 ∧ Nat.ble 9000 181 = false ∧ zinf 181 = (10, 2, 2, 1, 0) ∧ 7 + 3 = 10 := by decide +kernel
theorem zi_190_10 : zraw 190 10 = some (.iconst (-1), 1) ∧ zin 128 (-1) = true ∧ 10 + 1 = 11 := by decide +kernel
theorem zi_190_11 : zraw 190 11 = some (.if_icmp .eq 20, 3) ∧ ((11 : Nat) : Int) + 20 = Int.ofNat 31 ∧ 11 + 3 = 14 := by decide +kernel
theorem zi_190_14 : zraw 190 14 = some (.aload_n 0, 1) ∧ 14 + 1 = 15 := by decide +kernel
theorem zi_190_15 : zraw 190 15 = some (.iload_n 2, 1) ∧ 15 + 1 = 16 := by decide +kernel
theorem zi_190_16 : zraw 190 16 = some (.invokevirtual 396, 3) ∧ zmt (zinf 190).1 396 = some 181 ∧ Nat.ble 9000 181 = false ∧ zinf 181 = (10, 2, 2, 1, 0) ∧ 16 + 3 = 19 := by decide +kernel
theorem zi_190_19 : zraw 190 19 = some (.aload_n 0, 1) ∧ 19 + 1 = 20 := by decide +kernel
theorem zi_190_20 : zraw 190 20 = some (.iload_n 3, 1) ∧ 20 + 1 = 21 := by decide +kernel
theorem zi_190_21 : zraw 190 21 = some (.invokevirtual 396, 3) ∧ zmt (zinf 190).1 396 = some 181 ∧ Nat.ble 9000 181 = false ∧ zinf 181 = (10, 2, 2, 1, 0) ∧ 21 + 3 = 24 := by decide +kernel
theorem zi_190_24 : zraw 190 24 = some (.if_icmp .ne 7, 3) ∧ ((24 : Nat) : Int) + 7 = Int.ofNat 31 ∧ 24 + 3 = 27 := by decide +kernel
theorem zi_190_27 : zraw 190 27 = some (.iconst 1, 1) ∧ zin 128 1 = true ∧ 27 + 1 = 28 := by decide +kernel
theorem zi_190_28 : zraw 190 28 = some (.goto 4, 3) ∧ ((28 : Nat) : Int) + 4 = Int.ofNat 32 := by decide +kernel
theorem zi_190_31 : zraw 190 31 = some (.iconst 0, 1) ∧ zin 128 0 = true ∧ 31 + 1 = 32 := by decide +kernel
theorem zi_190_32 : zraw 190 32 = some (.istore 4, 2) ∧ 32 + 2 = 34 := by decide +kernel
theorem zi_190_34 : zraw 190 34 = some (.aload_n 0, 1) ∧ 34 + 1 = 35 := by decide +kernel
theorem zi_190_35 : zraw 190 35 = some (.getfield 163, 3) ∧ zft (zinf 190).1 163 = some (10, 68, 3, true) ∧ 35 + 3 = 38 := by decide +kernel
theorem zi_190_38 : zraw 190 38 = some (.iload_n 3, 1) ∧ 38 + 1 = 39 := by decide +kernel
theorem zi_190_39 : zraw 190 39 = some (.iaload, 1) ∧ 39 + 1 = 40 := by decide +kernel
theorem zi_190_40 : zraw 190 40 = some (.aload_n 0, 1) ∧ 40 + 1 = 41 := by decide +kernel
theorem zi_190_41 : zraw 190 41 = some (.getfield 163, 3) ∧ zft (zinf 190).1 163 = some (10, 68, 3, true) ∧ 41 + 3 = 44 := by decide +kernel
theorem zi_190_44 : zraw 190 44 = some (.iload_n 2, 1) ∧ 44 + 1 = 45 := by decide +kernel
theorem zi_190_45 : zraw 190 45 = some (.iaload, 1) ∧ 45 + 1 = 46 := by decide +kernel
theorem zi_190_46 : zraw 190 46 = some (.isub, 1) ∧ 46 + 1 = 47 := by decide +kernel
theorem zi_190_47 : zraw 190 47 = some (.istore 5, 2) ∧ 47 + 2 = 49 := by decide +kernel
theorem zi_190_49 : zraw 190 49 = some (.iload 4, 2) ∧ 49 + 2 = 51 := by decide +kernel
theorem zi_190_51 : zraw 190 51 = some (.ifCond .eq 59, 3) ∧ ((51 : Nat) : Int) + 59 = Int.ofNat 110 ∧ 51 + 3 = 54 := by decide +kernel
theorem zi_190_54 : zraw 190 54 = some (.iload_n 1, 1) ∧ 54 + 1 = 55 := by decide +kernel
theorem zi_190_55 : zraw 190 55 = some (.bipush 15, 2) ∧ zin 128 15 = true ∧ 55 + 2 = 57 := by decide +kernel
theorem zi_190_57 : zraw 190 57 = some (.if_icmp .eq 49, 3) ∧ ((57 : Nat) : Int) + 49 = Int.ofNat 106 ∧ 57 + 3 = 60 := by decide +kernel
theorem zi_190_60 : zraw 190 60 = some (.iload_n 1, 1) ∧ 60 + 1 = 61 := by decide +kernel
theorem zi_190_61 : zraw 190 61 = some (.bipush 16, 2) ∧ zin 128 16 = true ∧ 61 + 2 = 63 := by decide +kernel
theorem zi_190_63 : zraw 190 63 = some (.if_icmp .ne 9, 3) ∧ ((63 : Nat) : Int) + 9 = Int.ofNat 72 ∧ 63 + 3 = 66 := by decide +kernel
theorem zi_190_66 : zraw 190 66 = some (.iload 5, 2) ∧ 66 + 2 = 68 := by decide +kernel
theorem zi_190_68 : zraw 190 68 = some (.iconst 1, 1) ∧ zin 128 1 = true ∧ 68 + 1 = 69 := by decide +kernel
theorem zi_190_69 : zraw 190 69 = some (.if_icmp .eq 37, 3) ∧ ((69 : Nat) : Int) + 37 = Int.ofNat 106 ∧ 69 + 3 = 72 := by decide +kernel
theorem zi_190_72 : zraw 190 72 = some (.iload_n 1, 1) ∧ 72 + 1 = 73 := by decide +kernel
theorem zi_190_73 : zraw 190 73 = some (.bipush 17, 2) ∧ zin 128 17 = true ∧ 73 + 2 = 75 := by decide +kernel
theorem zi_190_75 : zraw 190 75 = some (.if_icmp .ne 8, 3) ∧ ((75 : Nat) : Int) + 8 = Int.ofNat 83 ∧ 75 + 3 = 78 := by decide +kernel
theorem zi_190_78 : zraw 190 78 = some (.iload 5, 2) ∧ 78 + 2 = 80 := by decide +kernel
theorem zi_190_80 : zraw 190 80 = some (.ifCond .gt 26, 3) ∧ ((80 : Nat) : Int) + 26 = Int.ofNat 106 ∧ 80 + 3 = 83 := by decide +kernel
theorem zi_190_83 : zraw 190 83 = some (.iload_n 1, 1) ∧ 83 + 1 = 84 := by decide +kernel
theorem zi_190_84 : zraw 190 84 = some (.bipush 18, 2) ∧ zin 128 18 = true ∧ 84 + 2 = 86 := by decide +kernel
theorem zi_190_86 : zraw 190 86 = some (.if_icmp .ne 9, 3) ∧ ((86 : Nat) : Int) + 9 = Int.ofNat 95 ∧ 86 + 3 = 89 := by decide +kernel
theorem zi_190_89 : zraw 190 89 = some (.iload 5, 2) ∧ 89 + 2 = 91 := by decide +kernel
theorem zi_190_91 : zraw 190 91 = some (.iconst (-1), 1) ∧ zin 128 (-1) = true ∧ 91 + 1 = 92 := by decide +kernel
theorem zi_190_92 : zraw 190 92 = some (.if_icmp .eq 14, 3) ∧ ((92 : Nat) : Int) + 14 = Int.ofNat 106 ∧ 92 + 3 = 95 := by decide +kernel
theorem zi_190_95 : zraw 190 95 = some (.iload_n 1, 1) ∧ 95 + 1 = 96 := by decide +kernel
theorem zi_190_96 : zraw 190 96 = some (.bipush 19, 2) ∧ zin 128 19 = true ∧ 96 + 2 = 98 := by decide +kernel
theorem zi_190_98 : zraw 190 98 = some (.if_icmp .ne 12, 3) ∧ ((98 : Nat) : Int) + 12 = Int.ofNat 110 ∧ 98 + 3 = 101 := by decide +kernel
theorem zi_190_101 : zraw 190 101 = some (.iload 5, 2) ∧ 101 + 2 = 103 := by decide +kernel
theorem zi_190_103 : zraw 190 103 = some (.ifCond .ge 7, 3) ∧ ((103 : Nat) : Int) + 7 = Int.ofNat 110 ∧ 103 + 3 = 106 := by decide +kernel
theorem zi_190_106 : zraw 190 106 = some (.iconst 1, 1) ∧ zin 128 1 = true ∧ 106 + 1 = 107 := by decide +kernel
theorem zi_190_107 : zraw 190 107 = some (.goto 4, 3) ∧ ((107 : Nat) : Int) + 4 = Int.ofNat 111 := by decide +kernel
theorem zi_190_110 : zraw 190 110 = some (.iconst 0, 1) ∧ zin 128 0 = true ∧ 110 + 1 = 111 := by decide +kernel
theorem zi_190_111 : zraw 190 111 = some (.ireturn, 1) ∧ (zinf 190).2.2.2.1 = 2 := by decide +kernel
theorem ze_190 {K : List zF} {σ : zW} {x1 : Int} {x2 : Int} {x3 : Int} (hK : K.length < 60) : zEv true (zent 190 [.inr (.inr 122), .inl x1, .inl x2, .inl x3] :: K) σ = (if x2 = x3 then zEv true ((190, 31, [some (.inr (.inr 122)), some (.inl x1), some (.inl x2), some (.inl x3), none, none], []) :: K) σ else zEv true (zent 181 [.inr (.inr 122), .inl x2] :: (190, 10, [some (.inr (.inr 122)), some (.inl x1), some (.inl x2), some (.inl x3), none, none], []) :: K) σ) :=
  yT_en (f := (190, 0, [some (.inr (.inr 122)), some (.inl x1), some (.inl x2), some (.inl x3), none, none], [])) rfl (yI_iload_n zi_190_0 rfl <| yI_iload_n zi_190_1 rfl <| yI_ic_eq zi_190_2 <| yBr (rfl) (yI_aload_n zi_190_5 rfl <| yI_iload_n zi_190_6 rfl <| yI_cv zi_190_7 rfl rfl zk_122 hK))
theorem zj_190_31 {K : List zF} {σ : zW} {x1 : Int} {x2 : Int} {x3 : Int} {o4 : Option zV} {o5 : Option zV} : zEv true ((190, 31, [some (.inr (.inr 122)), some (.inl x1), some (.inl x2), some (.inl x3), o4, o5], []) :: K) σ = ((0 ≤ x3 ∧ x3 < 20) ∧ ((0 ≤ x2 ∧ x2 < 20) ∧ (if (0 : Int) = 0 then zEv true ((190, 110, [some (.inr (.inr 122)), some (.inl x1), some (.inl x2), some (.inl x3), some (.inl 0), some (.inl (w32 ((gI σ 172 x3.toNat) - (gI σ 172 x2.toNat))))], []) :: K) σ else if x1 = 15 then zRet true K (some (.inl 1)) σ else if ¬ x1 = 16 then zEv true ((190, 72, [some (.inr (.inr 122)), some (.inl x1), some (.inl x2), some (.inl x3), some (.inl 0), some (.inl (w32 ((gI σ 172 x3.toNat) - (gI σ 172 x2.toNat))))], []) :: K) σ else if (w32 ((gI σ 172 x3.toNat) - (gI σ 172 x2.toNat))) = 1 then zRet true K (some (.inl 1)) σ else zEv true ((190, 72, [some (.inr (.inr 122)), some (.inl x1), some (.inl x2), some (.inl x3), some (.inl 0), some (.inl (w32 ((gI σ 172 x3.toNat) - (gI σ 172 x2.toNat))))], []) :: K) σ))) :=
  yI_iconst zi_190_31 <| yI_istore (l := [some (.inr (.inr 122)), some (.inl x1), some (.inl x2), some (.inl x3), some (.inl 0), o5]) zi_190_32 rfl rfl <| yI_aload_n zi_190_34 rfl <| yI_gf_f (v := 172) zi_190_35 zk_122 rfl <| yI_iload_n zi_190_38 rfl <| yI_ialoadc (v := gI σ 172 x3.toNat) zi_190_39 za_172 rfl <| yI_aload_n zi_190_40 rfl <| yI_gf_f (v := 172) zi_190_41 zk_122 rfl <| yI_iload_n zi_190_44 rfl <| yI_ialoadc (v := gI σ 172 x2.toNat) zi_190_45 za_172 rfl <| yI_isub zi_190_46 <| yI_istore (l := [some (.inr (.inr 122)), some (.inl x1), some (.inl x2), some (.inl x3), some (.inl 0), some (.inl (w32 ((gI σ 172 x3.toNat) - (gI σ 172 x2.toNat))))]) zi_190_47 rfl rfl <| yI_iload zi_190_49 rfl <| yI_if_eq zi_190_51 <| yBr (rfl) (yI_iload_n zi_190_54 rfl <| yI_bipush zi_190_55 <| yI_ic_eq zi_190_57 <| yBr (yI_iconst zi_190_106 <| yI_goto zi_190_107 <| yI_zreturn zi_190_111 (by decide)) (yI_iload_n zi_190_60 rfl <| yI_bipush zi_190_61 <| yI_ic_ne zi_190_63 <| yBr (rfl) (yI_iload zi_190_66 rfl <| yI_iconst zi_190_68 <| yI_ic_eq zi_190_69 <| yBr (yI_iconst zi_190_106 <| yI_goto zi_190_107 <| yI_zreturn zi_190_111 (by decide)) (rfl))))
theorem zr_190_10 {K : List zF} {σ : zW} {x1 : Int} {x2 : Int} {x3 : Int} {o4 : Option zV} {o5 : Option zV} {v : Int} (hK : K.length < 60) : zRet true ((190, 10, [some (.inr (.inr 122)), some (.inl x1), some (.inl x2), some (.inl x3), o4, o5], []) :: K) (some (.inl v)) σ = (if v = (-1) then zEv true ((190, 31, [some (.inr (.inr 122)), some (.inl x1), some (.inl x2), some (.inl x3), o4, o5], []) :: K) σ else zEv true (zent 181 [.inr (.inr 122), .inl x2] :: (190, 19, [some (.inr (.inr 122)), some (.inl x1), some (.inl x2), some (.inl x3), o4, o5], []) :: K) σ) :=
  yT_rt (yI_iconst zi_190_10 <| yI_ic_eq zi_190_11 <| yBr (rfl) (yI_aload_n zi_190_14 rfl <| yI_iload_n zi_190_15 rfl <| yI_cv zi_190_16 rfl rfl zk_122 hK))
theorem zj_190_110 {K : List zF} {σ : zW} {o0 : Option zV} {o1 : Option zV} {o2 : Option zV} {o3 : Option zV} {o4 : Option zV} {o5 : Option zV} : zEv true ((190, 110, [o0, o1, o2, o3, o4, o5], []) :: K) σ = (zRet true K (some (.inl 0)) σ) :=
  yI_iconst zi_190_110 <| yI_zreturn zi_190_111 (by decide)
theorem zj_190_72 {K : List zF} {σ : zW} {o0 : Option zV} {x1 : Int} {o2 : Option zV} {o3 : Option zV} {o4 : Option zV} {x5 : Int} : zEv true ((190, 72, [o0, some (.inl x1), o2, o3, o4, some (.inl x5)], []) :: K) σ = (if ¬ x1 = 17 then zEv true ((190, 83, [o0, some (.inl x1), o2, o3, o4, some (.inl x5)], []) :: K) σ else if 0 < x5 then zRet true K (some (.inl 1)) σ else zEv true ((190, 83, [o0, some (.inl x1), o2, o3, o4, some (.inl x5)], []) :: K) σ) :=
  yI_iload_n zi_190_72 rfl <| yI_bipush zi_190_73 <| yI_ic_ne zi_190_75 <| yBr (rfl) (yI_iload zi_190_78 rfl <| yI_if_gt zi_190_80 <| yBr (yI_iconst zi_190_106 <| yI_goto zi_190_107 <| yI_zreturn zi_190_111 (by decide)) (rfl))
theorem zr_190_19 {K : List zF} {σ : zW} {x1 : Int} {x2 : Int} {x3 : Int} {o4 : Option zV} {o5 : Option zV} {v : Int} (hK : K.length < 60) : zRet true ((190, 19, [some (.inr (.inr 122)), some (.inl x1), some (.inl x2), some (.inl x3), o4, o5], []) :: K) (some (.inl v)) σ = (zEv true (zent 181 [.inr (.inr 122), .inl x3] :: (190, 24, [some (.inr (.inr 122)), some (.inl x1), some (.inl x2), some (.inl x3), o4, o5], [.inl v]) :: K) σ) :=
  yT_rt (yI_aload_n zi_190_19 rfl <| yI_iload_n zi_190_20 rfl <| yI_cv zi_190_21 rfl rfl zk_122 hK)
theorem zj_190_83 {K : List zF} {σ : zW} {o0 : Option zV} {x1 : Int} {o2 : Option zV} {o3 : Option zV} {o4 : Option zV} {x5 : Int} : zEv true ((190, 83, [o0, some (.inl x1), o2, o3, o4, some (.inl x5)], []) :: K) σ = (if ¬ x1 = 18 then zEv true ((190, 95, [o0, some (.inl x1), o2, o3, o4, some (.inl x5)], []) :: K) σ else if x5 = (-1) then zRet true K (some (.inl 1)) σ else zEv true ((190, 95, [o0, some (.inl x1), o2, o3, o4, some (.inl x5)], []) :: K) σ) :=
  yI_iload_n zi_190_83 rfl <| yI_bipush zi_190_84 <| yI_ic_ne zi_190_86 <| yBr (rfl) (yI_iload zi_190_89 rfl <| yI_iconst zi_190_91 <| yI_ic_eq zi_190_92 <| yBr (yI_iconst zi_190_106 <| yI_goto zi_190_107 <| yI_zreturn zi_190_111 (by decide)) (rfl))
theorem zr_190_24 {K : List zF} {σ : zW} {x1 : Int} {x2 : Int} {x3 : Int} {o4 : Option zV} {o5 : Option zV} {s0 : Int} {v : Int} : zRet true ((190, 24, [some (.inr (.inr 122)), some (.inl x1), some (.inl x2), some (.inl x3), o4, o5], [.inl s0]) :: K) (some (.inl v)) σ = (if ¬ s0 = v then zEv true ((190, 31, [some (.inr (.inr 122)), some (.inl x1), some (.inl x2), some (.inl x3), o4, o5], []) :: K) σ else (0 ≤ x3 ∧ x3 < 20) ∧ ((0 ≤ x2 ∧ x2 < 20) ∧ (if (1 : Int) = 0 then zEv true ((190, 110, [some (.inr (.inr 122)), some (.inl x1), some (.inl x2), some (.inl x3), some (.inl 1), some (.inl (w32 ((gI σ 172 x3.toNat) - (gI σ 172 x2.toNat))))], []) :: K) σ else if x1 = 15 then zRet true K (some (.inl 1)) σ else if ¬ x1 = 16 then zEv true ((190, 72, [some (.inr (.inr 122)), some (.inl x1), some (.inl x2), some (.inl x3), some (.inl 1), some (.inl (w32 ((gI σ 172 x3.toNat) - (gI σ 172 x2.toNat))))], []) :: K) σ else if (w32 ((gI σ 172 x3.toNat) - (gI σ 172 x2.toNat))) = 1 then zRet true K (some (.inl 1)) σ else zEv true ((190, 72, [some (.inr (.inr 122)), some (.inl x1), some (.inl x2), some (.inl x3), some (.inl 1), some (.inl (w32 ((gI σ 172 x3.toNat) - (gI σ 172 x2.toNat))))], []) :: K) σ))) :=
  yT_rt (yI_ic_ne zi_190_24 <| yBr (rfl) (yI_iconst zi_190_27 <| yI_goto zi_190_28 <| yI_istore (l := [some (.inr (.inr 122)), some (.inl x1), some (.inl x2), some (.inl x3), some (.inl 1), o5]) zi_190_32 rfl rfl <| yI_aload_n zi_190_34 rfl <| yI_gf_f (v := 172) zi_190_35 zk_122 rfl <| yI_iload_n zi_190_38 rfl <| yI_ialoadc (v := gI σ 172 x3.toNat) zi_190_39 za_172 rfl <| yI_aload_n zi_190_40 rfl <| yI_gf_f (v := 172) zi_190_41 zk_122 rfl <| yI_iload_n zi_190_44 rfl <| yI_ialoadc (v := gI σ 172 x2.toNat) zi_190_45 za_172 rfl <| yI_isub zi_190_46 <| yI_istore (l := [some (.inr (.inr 122)), some (.inl x1), some (.inl x2), some (.inl x3), some (.inl 1), some (.inl (w32 ((gI σ 172 x3.toNat) - (gI σ 172 x2.toNat))))]) zi_190_47 rfl rfl <| yI_iload zi_190_49 rfl <| yI_if_eq zi_190_51 <| yBr (rfl) (yI_iload_n zi_190_54 rfl <| yI_bipush zi_190_55 <| yI_ic_eq zi_190_57 <| yBr (yI_iconst zi_190_106 <| yI_goto zi_190_107 <| yI_zreturn zi_190_111 (by decide)) (yI_iload_n zi_190_60 rfl <| yI_bipush zi_190_61 <| yI_ic_ne zi_190_63 <| yBr (rfl) (yI_iload zi_190_66 rfl <| yI_iconst zi_190_68 <| yI_ic_eq zi_190_69 <| yBr (yI_iconst zi_190_106 <| yI_goto zi_190_107 <| yI_zreturn zi_190_111 (by decide)) (rfl))))))
theorem zj_190_95 {K : List zF} {σ : zW} {o0 : Option zV} {x1 : Int} {o2 : Option zV} {o3 : Option zV} {o4 : Option zV} {x5 : Int} : zEv true ((190, 95, [o0, some (.inl x1), o2, o3, o4, some (.inl x5)], []) :: K) σ = (if ¬ x1 = 19 then zEv true ((190, 110, [o0, some (.inl x1), o2, o3, o4, some (.inl x5)], []) :: K) σ else if 0 ≤ x5 then zEv true ((190, 110, [o0, some (.inl x1), o2, o3, o4, some (.inl x5)], []) :: K) σ else zRet true K (some (.inl 1)) σ) :=
  yI_iload_n zi_190_95 rfl <| yI_bipush zi_190_96 <| yI_ic_ne zi_190_98 <| yBr (rfl) (yI_iload zi_190_101 rfl <| yI_if_ge zi_190_103 <| yBr (rfl) (yI_iconst zi_190_106 <| yI_goto zi_190_107 <| yI_zreturn zi_190_111 (by decide)))
