/-- 85 Treegrab$Tape.next -/
theorem zi_85_0 : zraw 85 0 = some (.aload_n 0, 1) ∧ 0 + 1 = 1 := by decide +kernel
theorem zi_85_1 : zraw 85 1 = some (.getfield 19, 3) ∧ zft (zinf 85).1 19 = some (7, 2, 0, false) ∧ 1 + 3 = 4 := by decide +kernel
theorem zi_85_4 : zraw 85 4 = some (.aload_n 0, 1) ∧ 4 + 1 = 5 := by decide +kernel
theorem zi_85_5 : zraw 85 5 = some (.getfield 15, 3) ∧ zft (zinf 85).1 15 = some (7, 1, 0, false) ∧ 5 + 3 = 8 := by decide +kernel
theorem zi_85_8 : zraw 85 8 = some (.if_icmp .ge 58, 3) ∧ ((8 : Nat) : Int) + 58 = Int.ofNat 66 ∧ 8 + 3 = 11 := by decide +kernel
theorem zi_85_11 : zraw 85 11 = some (.aload_n 0, 1) ∧ 11 + 1 = 12 := by decide +kernel
theorem zi_85_12 : zraw 85 12 = some (.getfield 9, 3) ∧ zft (zinf 85).1 9 = some (7, 0, 3, true) ∧ 12 + 3 = 15 := by decide +kernel
theorem zi_85_15 : zraw 85 15 = some (.aload_n 0, 1) ∧ 15 + 1 = 16 := by decide +kernel
theorem zi_85_16 : zraw 85 16 = some (.getfield 19, 3) ∧ zft (zinf 85).1 19 = some (7, 2, 0, false) ∧ 16 + 3 = 19 := by decide +kernel
theorem zi_85_19 : zraw 85 19 = some (.iaload, 1) ∧ 19 + 1 = 20 := by decide +kernel
theorem zi_85_20 : zraw 85 20 = some (.bipush 9, 2) ∧ zin 128 9 = true ∧ 20 + 2 = 22 := by decide +kernel
theorem zi_85_22 : zraw 85 22 = some (.if_icmp .eq 31, 3) ∧ ((22 : Nat) : Int) + 31 = Int.ofNat 53 ∧ 22 + 3 = 25 := by decide +kernel
theorem zi_85_25 : zraw 85 25 = some (.aload_n 0, 1) ∧ 25 + 1 = 26 := by decide +kernel
theorem zi_85_26 : zraw 85 26 = some (.getfield 9, 3) ∧ zft (zinf 85).1 9 = some (7, 0, 3, true) ∧ 26 + 3 = 29 := by decide +kernel
theorem zi_85_29 : zraw 85 29 = some (.aload_n 0, 1) ∧ 29 + 1 = 30 := by decide +kernel
theorem zi_85_30 : zraw 85 30 = some (.getfield 19, 3) ∧ zft (zinf 85).1 19 = some (7, 2, 0, false) ∧ 30 + 3 = 33 := by decide +kernel
theorem zi_85_33 : zraw 85 33 = some (.iaload, 1) ∧ 33 + 1 = 34 := by decide +kernel
theorem zi_85_34 : zraw 85 34 = some (.bipush 32, 2) ∧ zin 128 32 = true ∧ 34 + 2 = 36 := by decide +kernel
theorem zi_85_36 : zraw 85 36 = some (.if_icmp .eq 17, 3) ∧ ((36 : Nat) : Int) + 17 = Int.ofNat 53 ∧ 36 + 3 = 39 := by decide +kernel
theorem zi_85_39 : zraw 85 39 = some (.aload_n 0, 1) ∧ 39 + 1 = 40 := by decide +kernel
theorem zi_85_40 : zraw 85 40 = some (.getfield 9, 3) ∧ zft (zinf 85).1 9 = some (7, 0, 3, true) ∧ 40 + 3 = 43 := by decide +kernel
theorem zi_85_43 : zraw 85 43 = some (.aload_n 0, 1) ∧ 43 + 1 = 44 := by decide +kernel
theorem zi_85_44 : zraw 85 44 = some (.getfield 19, 3) ∧ zft (zinf 85).1 19 = some (7, 2, 0, false) ∧ 44 + 3 = 47 := by decide +kernel
theorem zi_85_47 : zraw 85 47 = some (.iaload, 1) ∧ 47 + 1 = 48 := by decide +kernel
theorem zi_85_48 : zraw 85 48 = some (.bipush 10, 2) ∧ zin 128 10 = true ∧ 48 + 2 = 50 := by decide +kernel
theorem zi_85_50 : zraw 85 50 = some (.if_icmp .ne 16, 3) ∧ ((50 : Nat) : Int) + 16 = Int.ofNat 66 ∧ 50 + 3 = 53 := by decide +kernel
theorem zi_85_53 : zraw 85 53 = some (.aload_n 0, 1) ∧ 53 + 1 = 54 := by decide +kernel
theorem zi_85_54 : zraw 85 54 = some (.dup, 1) ∧ 54 + 1 = 55 := by decide +kernel
theorem zi_85_55 : zraw 85 55 = some (.getfield 19, 3) ∧ zft (zinf 85).1 19 = some (7, 2, 0, false) ∧ 55 + 3 = 58 := by decide +kernel
theorem zi_85_58 : zraw 85 58 = some (.iconst 1, 1) ∧ zin 128 1 = true ∧ 58 + 1 = 59 := by decide +kernel
theorem zi_85_59 : zraw 85 59 = some (.iadd, 1) ∧ 59 + 1 = 60 := by decide +kernel
theorem zi_85_60 : zraw 85 60 = some (.putfield 19, 3) ∧ zft (zinf 85).1 19 = some (7, 2, 0, false) ∧ 60 + 3 = 63 := by decide +kernel
theorem zi_85_63 : zraw 85 63 = some (.goto (-63), 3) ∧ ((63 : Nat) : Int) + (-63) = Int.ofNat 0 := by decide +kernel
theorem zi_85_66 : zraw 85 66 = some (.aload_n 0, 1) ∧ 66 + 1 = 67 := by decide +kernel
theorem zi_85_67 : zraw 85 67 = some (.aload_n 0, 1) ∧ 67 + 1 = 68 := by decide +kernel
theorem zi_85_68 : zraw 85 68 = some (.getfield 19, 3) ∧ zft (zinf 85).1 19 = some (7, 2, 0, false) ∧ 68 + 3 = 71 := by decide +kernel
theorem zi_85_71 : zraw 85 71 = some (.invokevirtual 28, 3) ∧ zmt (zinf 85).1 28 = some 84 ∧ Nat.ble 9000 84 = false ∧ zinf 84 = (7, 2, 2, 1, 0) ∧ 71 + 3 = 74 := by decide +kernel
theorem zi_85_74 : zraw 85 74 = some (.ireturn, 1) ∧ (zinf 85).2.2.2.1 = 1 := by decide +kernel
theorem ze_85 {K : List zF} {σ : zW} : zEv true (zent 85 [.inr (.inr 2)] :: K) σ = zEv true ((85, 0, [some (.inr (.inr 2))], []) :: K) σ := rfl
theorem zj_85_0 {K : List zF} {σ : zW} : zEv true ((85, 0, [some (.inr (.inr 2))], []) :: K) σ = (if (gI σ 2 1) ≤ (gI σ 2 2) then zEv true ((85, 66, [some (.inr (.inr 2))], []) :: K) σ else (0 ≤ (gI σ 2 2) ∧ (gI σ 2 2) < 600) ∧ (if (gI σ 3 ((gI σ 2 2).toNat)) = 9 then zEv true ((85, 53, [some (.inr (.inr 2))], []) :: K) σ else (0 ≤ (gI σ 2 2) ∧ (gI σ 2 2) < 600) ∧ (if (gI σ 3 ((gI σ 2 2).toNat)) = 32 then zEv true ((85, 53, [some (.inr (.inr 2))], []) :: K) σ else (0 ≤ (gI σ 2 2) ∧ (gI σ 2 2) < 600) ∧ (if ¬ (gI σ 3 ((gI σ 2 2).toNat)) = 10 then zEv true ((85, 66, [some (.inr (.inr 2))], []) :: K) σ else zEv true ((85, 53, [some (.inr (.inr 2))], []) :: K) σ)))) :=
  yI_aload_n zi_85_0 rfl <| yI_gf_i (v := gI σ 2 2) zi_85_1 zk_2 rfl <| yI_aload_n zi_85_4 rfl <| yI_gf_i (v := gI σ 2 1) zi_85_5 zk_2 rfl <| yI_ic_ge zi_85_8 <| yBr (rfl) (yI_aload_n zi_85_11 rfl <| yI_gf_f (v := 3) zi_85_12 zk_2 rfl <| yI_aload_n zi_85_15 rfl <| yI_gf_i (v := gI σ 2 2) zi_85_16 zk_2 rfl <| yI_ialoadc (v := gI σ 3 ((gI σ 2 2).toNat)) zi_85_19 za_3 rfl <| yI_bipush zi_85_20 <| yI_ic_eq zi_85_22 <| yBr (rfl) (yI_aload_n zi_85_25 rfl <| yI_gf_f (v := 3) zi_85_26 zk_2 rfl <| yI_aload_n zi_85_29 rfl <| yI_gf_i (v := gI σ 2 2) zi_85_30 zk_2 rfl <| yI_ialoadc (v := gI σ 3 ((gI σ 2 2).toNat)) zi_85_33 za_3 rfl <| yI_bipush zi_85_34 <| yI_ic_eq zi_85_36 <| yBr (rfl) (yI_aload_n zi_85_39 rfl <| yI_gf_f (v := 3) zi_85_40 zk_2 rfl <| yI_aload_n zi_85_43 rfl <| yI_gf_i (v := gI σ 2 2) zi_85_44 zk_2 rfl <| yI_ialoadc (v := gI σ 3 ((gI σ 2 2).toNat)) zi_85_47 za_3 rfl <| yI_bipush zi_85_48 <| yI_ic_ne zi_85_50 <| yBr (rfl) (rfl))))
theorem zj_85_66 {K : List zF} {σ : zW} (hK : K.length < 60) : zEv true ((85, 66, [some (.inr (.inr 2))], []) :: K) σ = (zEv true (zent 84 [.inr (.inr 2), .inl (gI σ 2 2)] :: (85, 74, [some (.inr (.inr 2))], []) :: K) σ) :=
  yI_aload_n zi_85_66 rfl <| yI_aload_n zi_85_67 rfl <| yI_gf_i (v := gI σ 2 2) zi_85_68 zk_2 rfl <| yI_cv zi_85_71 rfl rfl zk_2 hK
theorem zj_85_53 {K : List zF} {σ : zW} : zEv true ((85, 53, [some (.inr (.inr 2))], []) :: K) σ = (zEv true ((85, 0, [some (.inr (.inr 2))], []) :: K) (sI σ 2 2 (w32 ((gI σ 2 2) + 1)))) :=
  yI_aload_n zi_85_53 rfl <| yI_dup_r zi_85_54 <| yI_gf_i (v := gI σ 2 2) zi_85_55 zk_2 rfl <| yI_iconst zi_85_58 <| yI_iadd zi_85_59 <| yI_pf_i zi_85_60 zk_2 <| yI_goto zi_85_63 <| rfl
theorem zr_85_74 {K : List zF} {σ : zW} {o0 : Option zV} {v : Int} : zRet true ((85, 74, [o0], []) :: K) (some (.inl v)) σ = (zRet true K (some (.inl v)) σ) :=
  yT_rt (yI_ireturn zi_85_74)
/-- 144 TreegrabModel.code -/
theorem zi_144_0 : zraw 144 0 = some (.aload_n 0, 1) ∧ 0 + 1 = 1 := by decide +kernel
theorem zi_144_1 : zraw 144 1 = some (.getfield 212, 3) ∧ zft (zinf 144).1 212 = some (10, 2, 0, false) ∧ 1 + 3 = 4 := by decide +kernel
theorem zi_144_4 : zraw 144 4 = some (.aload_n 0, 1) ∧ 4 + 1 = 5 := by decide +kernel
theorem zi_144_5 : zraw 144 5 = some (.getfield 215, 3) ∧ zft (zinf 144).1 215 = some (10, 1, 0, false) ∧ 5 + 3 = 8 := by decide +kernel
theorem zi_144_8 : zraw 144 8 = some (.if_icmp .ge 15, 3) ∧ ((8 : Nat) : Int) + 15 = Int.ofNat 23 ∧ 8 + 3 = 11 := by decide +kernel
theorem zi_144_11 : zraw 144 11 = some (.aload_n 0, 1) ∧ 11 + 1 = 12 := by decide +kernel
theorem zi_144_12 : zraw 144 12 = some (.getfield 7, 3) ∧ zft (zinf 144).1 7 = some (10, 0, 3, true) ∧ 12 + 3 = 15 := by decide +kernel
theorem zi_144_15 : zraw 144 15 = some (.aload_n 0, 1) ∧ 15 + 1 = 16 := by decide +kernel
theorem zi_144_16 : zraw 144 16 = some (.getfield 212, 3) ∧ zft (zinf 144).1 212 = some (10, 2, 0, false) ∧ 16 + 3 = 19 := by decide +kernel
theorem zi_144_19 : zraw 144 19 = some (.iaload, 1) ∧ 19 + 1 = 20 := by decide +kernel
theorem zi_144_20 : zraw 144 20 = some (.goto 4, 3) ∧ ((20 : Nat) : Int) + 4 = Int.ofNat 24 := by decide +kernel
theorem zi_144_23 : zraw 144 23 = some (.iconst (-1), 1) ∧ zin 128 (-1) = true ∧ 23 + 1 = 24 := by decide +kernel
theorem zi_144_24 : zraw 144 24 = some (.ireturn, 1) ∧ (zinf 144).2.2.2.1 = 1 := by decide +kernel
theorem ze_144 {K : List zF} {σ : zW} : zEv true (zent 144 [.inr (.inr 122)] :: K) σ = ((¬ ((gI σ 122 1) ≤ (gI σ 122 2)) → (0 ≤ (gI σ 122 2) ∧ (gI σ 122 2) < 600)) ∧ zRet true K (some (.inl (if (gI σ 122 1) ≤ (gI σ 122 2) then (-1) else gI σ 123 ((gI σ 122 2).toNat)))) σ) :=
  yT_en (f := (144, 0, [some (.inr (.inr 122))], [])) rfl (yI_aload_n zi_144_0 rfl <| yI_gf_i (v := gI σ 122 2) zi_144_1 zk_122 rfl <| yI_aload_n zi_144_4 rfl <| yI_gf_i (v := gI σ 122 1) zi_144_5 zk_122 rfl <| yI_ic_ge zi_144_8 <| yMi2 (j := 24) (ls2 := [some (.inr (.inr 122))]) (st2 := []) (x := (-1)) (y := gI σ 123 ((gI σ 122 2).toNat)) (σ2 := σ) (yI_iconst zi_144_23 <| rfl) (yI_aload_n zi_144_11 rfl <| yI_gf_f (v := 123) zi_144_12 zk_122 rfl <| yI_aload_n zi_144_15 rfl <| yI_gf_i (v := gI σ 122 2) zi_144_16 zk_122 rfl <| yI_ialoadc (v := gI σ 123 ((gI σ 122 2).toNat)) zi_144_19 za_123 rfl <| yI_goto zi_144_20 <| rfl) <| yI_ireturn zi_144_24)
/-- 145 TreegrabModel.passes -/
theorem zi_145_0 : zraw 145 0 = some (.aload_n 0, 1) ∧ 0 + 1 = 1 := by decide +kernel
theorem zi_145_1 : zraw 145 1 = some (.invokevirtual 218, 3) ∧ zmt (zinf 145).1 218 = some 144 ∧ Nat.ble 9000 144 = false ∧ zinf 144 = (10, 1, 1, 1, 0) ∧ 1 + 3 = 4 := by decide +kernel
theorem zi_145_4 : zraw 145 4 = some (.bipush 9, 2) ∧ zin 128 9 = true ∧ 4 + 2 = 6 := by decide +kernel
theorem zi_145_6 : zraw 145 6 = some (.if_icmp .eq 21, 3) ∧ ((6 : Nat) : Int) + 21 = Int.ofNat 27 ∧ 6 + 3 = 9 := by decide +kernel
theorem zi_145_9 : zraw 145 9 = some (.aload_n 0, 1) ∧ 9 + 1 = 10 := by decide +kernel
theorem zi_145_10 : zraw 145 10 = some (.invokevirtual 218, 3) ∧ zmt (zinf 145).1 218 = some 144 ∧ Nat.ble 9000 144 = false ∧ zinf 144 = (10, 1, 1, 1, 0) ∧ 10 + 3 = 13 := by decide +kernel
theorem zi_145_13 : zraw 145 13 = some (.bipush 32, 2) ∧ zin 128 32 = true ∧ 13 + 2 = 15 := by decide +kernel
theorem zi_145_15 : zraw 145 15 = some (.if_icmp .eq 12, 3) ∧ ((15 : Nat) : Int) + 12 = Int.ofNat 27 ∧ 15 + 3 = 18 := by decide +kernel
theorem zi_145_18 : zraw 145 18 = some (.aload_n 0, 1) ∧ 18 + 1 = 19 := by decide +kernel
theorem zi_145_19 : zraw 145 19 = some (.invokevirtual 218, 3) ∧ zmt (zinf 145).1 218 = some 144 ∧ Nat.ble 9000 144 = false ∧ zinf 144 = (10, 1, 1, 1, 0) ∧ 19 + 3 = 22 := by decide +kernel
theorem zi_145_22 : zraw 145 22 = some (.bipush 10, 2) ∧ zin 128 10 = true ∧ 22 + 2 = 24 := by decide +kernel
theorem zi_145_24 : zraw 145 24 = some (.if_icmp .ne 16, 3) ∧ ((24 : Nat) : Int) + 16 = Int.ofNat 40 ∧ 24 + 3 = 27 := by decide +kernel
theorem zi_145_27 : zraw 145 27 = some (.aload_n 0, 1) ∧ 27 + 1 = 28 := by decide +kernel
theorem zi_145_28 : zraw 145 28 = some (.dup, 1) ∧ 28 + 1 = 29 := by decide +kernel
theorem zi_145_29 : zraw 145 29 = some (.getfield 212, 3) ∧ zft (zinf 145).1 212 = some (10, 2, 0, false) ∧ 29 + 3 = 32 := by decide +kernel
theorem zi_145_32 : zraw 145 32 = some (.iconst 1, 1) ∧ zin 128 1 = true ∧ 32 + 1 = 33 := by decide +kernel
theorem zi_145_33 : zraw 145 33 = some (.iadd, 1) ∧ 33 + 1 = 34 := by decide +kernel
theorem zi_145_34 : zraw 145 34 = some (.putfield 212, 3) ∧ zft (zinf 145).1 212 = some (10, 2, 0, false) ∧ 34 + 3 = 37 := by decide +kernel
theorem zi_145_37 : zraw 145 37 = some (.goto (-37), 3) ∧ ((37 : Nat) : Int) + (-37) = Int.ofNat 0 := by decide +kernel
theorem zi_145_40 : zraw 145 40 = some (.return_, 1) ∧ (zinf 145).2.2.2.1 = 0 := by decide +kernel
theorem ze_145 {K : List zF} {σ : zW} : zEv true (zent 145 [.inr (.inr 122)] :: K) σ = zEv true ((145, 0, [some (.inr (.inr 122))], []) :: K) σ := rfl
theorem zj_145_0 {K : List zF} {σ : zW} (hK : K.length < 60) : zEv true ((145, 0, [some (.inr (.inr 122))], []) :: K) σ = (zEv true (zent 144 [.inr (.inr 122)] :: (145, 4, [some (.inr (.inr 122))], []) :: K) σ) :=
  yI_aload_n zi_145_0 rfl <| yI_cv zi_145_1 rfl rfl zk_122 hK
theorem zr_145_4 {K : List zF} {σ : zW} {v : Int} (hK : K.length < 60) : zRet true ((145, 4, [some (.inr (.inr 122))], []) :: K) (some (.inl v)) σ = (if v = 9 then zEv true ((145, 27, [some (.inr (.inr 122))], []) :: K) σ else zEv true (zent 144 [.inr (.inr 122)] :: (145, 13, [some (.inr (.inr 122))], []) :: K) σ) :=
  yT_rt (yI_bipush zi_145_4 <| yI_ic_eq zi_145_6 <| yBr (rfl) (yI_aload_n zi_145_9 rfl <| yI_cv zi_145_10 rfl rfl zk_122 hK))
theorem zj_145_27 {K : List zF} {σ : zW} : zEv true ((145, 27, [some (.inr (.inr 122))], []) :: K) σ = (zEv true ((145, 0, [some (.inr (.inr 122))], []) :: K) (sI σ 122 2 (w32 ((gI σ 122 2) + 1)))) :=
  yI_aload_n zi_145_27 rfl <| yI_dup_r zi_145_28 <| yI_gf_i (v := gI σ 122 2) zi_145_29 zk_122 rfl <| yI_iconst zi_145_32 <| yI_iadd zi_145_33 <| yI_pf_i zi_145_34 zk_122 <| yI_goto zi_145_37 <| rfl
theorem zr_145_13 {K : List zF} {σ : zW} {v : Int} (hK : K.length < 60) : zRet true ((145, 13, [some (.inr (.inr 122))], []) :: K) (some (.inl v)) σ = (if v = 32 then zEv true ((145, 27, [some (.inr (.inr 122))], []) :: K) σ else zEv true (zent 144 [.inr (.inr 122)] :: (145, 22, [some (.inr (.inr 122))], []) :: K) σ) :=
  yT_rt (yI_bipush zi_145_13 <| yI_ic_eq zi_145_15 <| yBr (rfl) (yI_aload_n zi_145_18 rfl <| yI_cv zi_145_19 rfl rfl zk_122 hK))
theorem zr_145_22 {K : List zF} {σ : zW} {v : Int} : zRet true ((145, 22, [some (.inr (.inr 122))], []) :: K) (some (.inl v)) σ = (if ¬ v = 10 then zRet true K none σ else zEv true ((145, 27, [some (.inr (.inr 122))], []) :: K) σ) :=
  yT_rt (yI_bipush zi_145_22 <| yI_ic_ne zi_145_24 <| yBr (yI_ret zi_145_40) (rfl))
/-- 96 Treegrab$Tree.settleWords -/
theorem zi_96_0 : zraw 96 0 = some (.iconst 0, 1) ∧ zin 128 0 = true ∧ 0 + 1 = 1 := by decide +kernel
theorem zi_96_1 : zraw 96 1 = some (.istore_n 1, 1) ∧ 1 + 1 = 2 := by decide +kernel
theorem zi_96_2 : zraw 96 2 = some (.iconst 0, 1) ∧ zin 128 0 = true ∧ 2 + 1 = 3 := by decide +kernel
theorem zi_96_3 : zraw 96 3 = some (.istore_n 2, 1) ∧ 3 + 1 = 4 := by decide +kernel
theorem zi_96_4 : zraw 96 4 = some (.iload_n 2, 1) ∧ 4 + 1 = 5 := by decide +kernel
theorem zi_96_5 : zraw 96 5 = some (.aload_n 0, 1) ∧ 5 + 1 = 6 := by decide +kernel
theorem zi_96_6 : zraw 96 6 = some (.getfield 51, 3) ∧ zft (zinf 96).1 51 = some (8, 12, 0, false) ∧ 6 + 3 = 9 := by decide +kernel
theorem zi_96_9 : zraw 96 9 = some (.if_icmp .ge 33, 3) ∧ ((9 : Nat) : Int) + 33 = Int.ofNat 42 ∧ 9 + 3 = 12 := by decide +kernel
theorem zi_96_12 : zraw 96 12 = some (.aload_n 0, 1) ∧ 12 + 1 = 13 := by decide +kernel
theorem zi_96_13 : zraw 96 13 = some (.getfield 31, 3) ∧ zft (zinf 96).1 31 = some (8, 6, 3, true) ∧ 13 + 3 = 16 := by decide +kernel
theorem zi_96_16 : zraw 96 16 = some (.iload_n 2, 1) ∧ 16 + 1 = 17 := by decide +kernel
theorem zi_96_17 : zraw 96 17 = some (.iload_n 1, 1) ∧ 17 + 1 = 18 := by decide +kernel
theorem zi_96_18 : zraw 96 18 = some (.iastore, 1) ∧ 18 + 1 = 19 := by decide +kernel
theorem zi_96_19 : zraw 96 19 = some (.iload_n 1, 1) ∧ 19 + 1 = 20 := by decide +kernel
theorem zi_96_20 : zraw 96 20 = some (.aload_n 0, 1) ∧ 20 + 1 = 21 := by decide +kernel
theorem zi_96_21 : zraw 96 21 = some (.getfield 25, 3) ∧ zft (zinf 96).1 25 = some (8, 4, 3, true) ∧ 21 + 3 = 24 := by decide +kernel
theorem zi_96_24 : zraw 96 24 = some (.iload_n 2, 1) ∧ 24 + 1 = 25 := by decide +kernel
theorem zi_96_25 : zraw 96 25 = some (.iaload, 1) ∧ 25 + 1 = 26 := by decide +kernel
theorem zi_96_26 : zraw 96 26 = some (.ifCond .ne 7, 3) ∧ ((26 : Nat) : Int) + 7 = Int.ofNat 33 ∧ 26 + 3 = 29 := by decide +kernel
theorem zi_96_29 : zraw 96 29 = some (.iconst 1, 1) ∧ zin 128 1 = true ∧ 29 + 1 = 30 := by decide +kernel
theorem zi_96_30 : zraw 96 30 = some (.goto 4, 3) ∧ ((30 : Nat) : Int) + 4 = Int.ofNat 34 := by decide +kernel
theorem zi_96_33 : zraw 96 33 = some (.iconst 0, 1) ∧ zin 128 0 = true ∧ 33 + 1 = 34 := by decide +kernel
theorem zi_96_34 : zraw 96 34 = some (.iadd, 1) ∧ 34 + 1 = 35 := by decide +kernel
theorem zi_96_35 : zraw 96 35 = some (.istore_n 1, 1) ∧ 35 + 1 = 36 := by decide +kernel
theorem zi_96_36 : zraw 96 36 = some (.iinc 2 1, 3) ∧ zin 32768 1 = true ∧ 36 + 3 = 39 := by decide +kernel
theorem zi_96_39 : zraw 96 39 = some (.goto (-35), 3) ∧ ((39 : Nat) : Int) + (-35) = Int.ofNat 4 := by decide +kernel
theorem zi_96_42 : zraw 96 42 = some (.iconst 0, 1) ∧ zin 128 0 = true ∧ 42 + 1 = 43 := by decide +kernel
theorem zi_96_43 : zraw 96 43 = some (.istore_n 2, 1) ∧ 43 + 1 = 44 := by decide +kernel
theorem zi_96_44 : zraw 96 44 = some (.iload_n 2, 1) ∧ 44 + 1 = 45 := by decide +kernel
theorem zi_96_45 : zraw 96 45 = some (.aload_n 0, 1) ∧ 45 + 1 = 46 := by decide +kernel
theorem zi_96_46 : zraw 96 46 = some (.getfield 51, 3) ∧ zft (zinf 96).1 51 = some (8, 12, 0, false) ∧ 46 + 3 = 49 := by decide +kernel
theorem zi_96_49 : zraw 96 49 = some (.if_icmp .ge 45, 3) ∧ ((49 : Nat) : Int) + 45 = Int.ofNat 94 ∧ 49 + 3 = 52 := by decide +kernel
theorem zi_96_52 : zraw 96 52 = some (.aload_n 0, 1) ∧ 52 + 1 = 53 := by decide +kernel
theorem zi_96_53 : zraw 96 53 = some (.getfield 34, 3) ∧ zft (zinf 96).1 34 = some (8, 7, 3, true) ∧ 53 + 3 = 56 := by decide +kernel
theorem zi_96_56 : zraw 96 56 = some (.iload_n 2, 1) ∧ 56 + 1 = 57 := by decide +kernel
theorem zi_96_57 : zraw 96 57 = some (.aload_n 0, 1) ∧ 57 + 1 = 58 := by decide +kernel
theorem zi_96_58 : zraw 96 58 = some (.getfield 22, 3) ∧ zft (zinf 96).1 22 = some (8, 3, 3, true) ∧ 58 + 3 = 61 := by decide +kernel
theorem zi_96_61 : zraw 96 61 = some (.iload_n 2, 1) ∧ 61 + 1 = 62 := by decide +kernel
theorem zi_96_62 : zraw 96 62 = some (.iaload, 1) ∧ 62 + 1 = 63 := by decide +kernel
theorem zi_96_63 : zraw 96 63 = some (.aload_n 0, 1) ∧ 63 + 1 = 64 := by decide +kernel
theorem zi_96_64 : zraw 96 64 = some (.getfield 51, 3) ∧ zft (zinf 96).1 51 = some (8, 12, 0, false) ∧ 64 + 3 = 67 := by decide +kernel
theorem zi_96_67 : zraw 96 67 = some (.if_icmp .ge 17, 3) ∧ ((67 : Nat) : Int) + 17 = Int.ofNat 84 ∧ 67 + 3 = 70 := by decide +kernel
theorem zi_96_70 : zraw 96 70 = some (.aload_n 0, 1) ∧ 70 + 1 = 71 := by decide +kernel
theorem zi_96_71 : zraw 96 71 = some (.getfield 31, 3) ∧ zft (zinf 96).1 31 = some (8, 6, 3, true) ∧ 71 + 3 = 74 := by decide +kernel
theorem zi_96_74 : zraw 96 74 = some (.aload_n 0, 1) ∧ 74 + 1 = 75 := by decide +kernel
theorem zi_96_75 : zraw 96 75 = some (.getfield 22, 3) ∧ zft (zinf 96).1 22 = some (8, 3, 3, true) ∧ 75 + 3 = 78 := by decide +kernel
theorem zi_96_78 : zraw 96 78 = some (.iload_n 2, 1) ∧ 78 + 1 = 79 := by decide +kernel
theorem zi_96_79 : zraw 96 79 = some (.iaload, 1) ∧ 79 + 1 = 80 := by decide +kernel
theorem zi_96_80 : zraw 96 80 = some (.iaload, 1) ∧ 80 + 1 = 81 := by decide +kernel
theorem zi_96_81 : zraw 96 81 = some (.goto 4, 3) ∧ ((81 : Nat) : Int) + 4 = Int.ofNat 85 := by decide +kernel
theorem zi_96_84 : zraw 96 84 = some (.iload_n 1, 1) ∧ 84 + 1 = 85 := by decide +kernel
theorem zi_96_85 : zraw 96 85 = some (.iconst 1, 1) ∧ zin 128 1 = true ∧ 85 + 1 = 86 := by decide +kernel
theorem zi_96_86 : zraw 96 86 = some (.isub, 1) ∧ 86 + 1 = 87 := by decide +kernel
theorem zi_96_87 : zraw 96 87 = some (.iastore, 1) ∧ 87 + 1 = 88 := by decide +kernel
theorem zi_96_88 : zraw 96 88 = some (.iinc 2 1, 3) ∧ zin 32768 1 = true ∧ 88 + 3 = 91 := by decide +kernel
theorem zi_96_91 : zraw 96 91 = some (.goto (-47), 3) ∧ ((91 : Nat) : Int) + (-47) = Int.ofNat 44 := by decide +kernel
theorem zi_96_94 : zraw 96 94 = some (.return_, 1) ∧ (zinf 96).2.2.2.1 = 0 := by decide +kernel
theorem ze_96 {K : List zF} {σ : zW} {t : Nat} : zEv true (zent 96 [.inr (.inr t)] :: K) σ = (zEv true ((96, 4, [some (.inr (.inr t)), some (.inl 0), some (.inl 0)], []) :: K) σ) :=
  yT_en (f := (96, 0, [some (.inr (.inr t)), none, none], [])) rfl (yI_iconst zi_96_0 <| yI_istore_n (l := [some (.inr (.inr t)), some (.inl 0), none]) zi_96_1 rfl rfl <| yI_iconst zi_96_2 <| yI_istore_n (l := [some (.inr (.inr t)), some (.inl 0), some (.inl 0)]) zi_96_3 rfl rfl <| rfl)
theorem zj_96_4 {K : List zF} {σ : zW} {x0 : Nat} {x1 : Int} {x2 : Int} (h1 : zTr x0) : zEv true ((96, 4, [some (.inr (.inr x0)), some (.inl x1), some (.inl x2)], []) :: K) σ = (if (gI σ x0 12) ≤ x2 then zEv true ((96, 44, [some (.inr (.inr x0)), some (.inl x1), some (.inl 0)], []) :: K) σ else (0 ≤ x2 ∧ x2 < 20) ∧ ((0 ≤ x2 ∧ x2 < 20) ∧ zEv true ((96, 4, [some (.inr (.inr x0)), some (.inl (w32 (x1 + (if ¬ (gI σ (x0 + 5) x2.toNat) = 0 then 0 else 1)))), some (.inl (w32 (x2 + 1)))], []) :: K) (sI σ (x0 + 7) x2.toNat x1))) :=
  yI_iload_n zi_96_4 rfl <| yI_aload_n zi_96_5 rfl <| yI_gf_i (v := gI σ x0 12) zi_96_6 (zTr_k h1) rfl <| yI_ic_ge zi_96_9 <| yBr (yI_iconst zi_96_42 <| yI_istore_n (l := [some (.inr (.inr x0)), some (.inl x1), some (.inl 0)]) zi_96_43 rfl rfl <| rfl) (yI_aload_n zi_96_12 rfl <| yI_gf_f (v := x0 + 7) zi_96_13 (zTr_k h1) rfl <| yI_iload_n zi_96_16 rfl <| yI_iload_n zi_96_17 rfl <| yI_iastorec zi_96_18 (zTr_a7 h1) <| yI_iload_n zi_96_19 rfl <| yI_aload_n zi_96_20 rfl <| yI_gf_f (v := x0 + 5) zi_96_21 (zTr_k h1) rfl <| yI_iload_n zi_96_24 rfl <| yI_ialoadc (v := gI σ (x0 + 5) x2.toNat) zi_96_25 (zTr_a5 h1) (yGI_nk (by omega)) <| yI_if_ne zi_96_26 <| yMi0 (j := 34) (ls2 := [some (.inr (.inr x0)), some (.inl x1), some (.inl x2)]) (st2 := [.inl x1]) (x := 0) (y := 1) (σ2 := (sI σ (x0 + 7) x2.toNat x1)) (yI_iconst zi_96_33 <| rfl) (yI_iconst zi_96_29 <| yI_goto zi_96_30 <| rfl) <| yI_iadd zi_96_34 <| yI_istore_n (l := [some (.inr (.inr x0)), some (.inl (w32 (x1 + (if ¬ (gI σ (x0 + 5) x2.toNat) = 0 then 0 else 1)))), some (.inl x2)]) zi_96_35 rfl rfl <| yI_iinc (l := [some (.inr (.inr x0)), some (.inl (w32 (x1 + (if ¬ (gI σ (x0 + 5) x2.toNat) = 0 then 0 else 1)))), some (.inl (w32 (x2 + 1)))]) zi_96_36 rfl rfl rfl <| yI_goto zi_96_39 <| rfl)
theorem zj_96_44 {K : List zF} {σ : zW} {x0 : Nat} {x1 : Int} {x2 : Int} (h1 : zTr x0) : zEv true ((96, 44, [some (.inr (.inr x0)), some (.inl x1), some (.inl x2)], []) :: K) σ = (if (gI σ x0 12) ≤ x2 then zRet true K none σ else (0 ≤ x2 ∧ x2 < 20) ∧ ((¬ ((gI σ x0 12) ≤ (gI σ (x0 + 4) x2.toNat)) → ((0 ≤ x2 ∧ x2 < 20) ∧ (0 ≤ (gI σ (x0 + 4) x2.toNat) ∧ (gI σ (x0 + 4) x2.toNat) < 20))) ∧ ((0 ≤ x2 ∧ x2 < 20) ∧ zEv true ((96, 44, [some (.inr (.inr x0)), some (.inl x1), some (.inl (w32 (x2 + 1)))], []) :: K) (sI σ (x0 + 8) x2.toNat (w32 ((if (gI σ x0 12) ≤ (gI σ (x0 + 4) x2.toNat) then x1 else gI σ (x0 + 7) ((gI σ (x0 + 4) x2.toNat).toNat)) - 1)))))) :=
  yI_iload_n zi_96_44 rfl <| yI_aload_n zi_96_45 rfl <| yI_gf_i (v := gI σ x0 12) zi_96_46 (zTr_k h1) rfl <| yI_ic_ge zi_96_49 <| yBr (yI_ret zi_96_94) (yI_aload_n zi_96_52 rfl <| yI_gf_f (v := x0 + 8) zi_96_53 (zTr_k h1) rfl <| yI_iload_n zi_96_56 rfl <| yI_aload_n zi_96_57 rfl <| yI_gf_f (v := x0 + 4) zi_96_58 (zTr_k h1) rfl <| yI_iload_n zi_96_61 rfl <| yI_ialoadc (v := gI σ (x0 + 4) x2.toNat) zi_96_62 (zTr_a4 h1) rfl <| yI_aload_n zi_96_63 rfl <| yI_gf_i (v := gI σ x0 12) zi_96_64 (zTr_k h1) rfl <| yI_ic_ge zi_96_67 <| yMi2 (j := 85) (ls2 := [some (.inr (.inr x0)), some (.inl x1), some (.inl x2)]) (st2 := [.inl x2, .inr (.inr (x0 + 8))]) (x := x1) (y := gI σ (x0 + 7) ((gI σ (x0 + 4) x2.toNat).toNat)) (σ2 := σ) (yI_iload_n zi_96_84 rfl <| rfl) ((yI_aload_n zi_96_70 rfl <| yI_gf_f (v := x0 + 7) zi_96_71 (zTr_k h1) rfl <| yI_aload_n zi_96_74 rfl <| yI_gf_f (v := x0 + 4) zi_96_75 (zTr_k h1) rfl <| yI_iload_n zi_96_78 rfl <| yI_ialoadc (v := gI σ (x0 + 4) x2.toNat) zi_96_79 (zTr_a4 h1) rfl <| yI_ialoadc (v := gI σ (x0 + 7) ((gI σ (x0 + 4) x2.toNat).toNat)) zi_96_80 (zTr_a7 h1) rfl <| yI_goto zi_96_81 <| rfl).trans (propext and_assoc.symm)) <| yI_iconst zi_96_85 <| yI_isub zi_96_86 <| yI_iastorec zi_96_87 (zTr_a8 h1) <| yI_iinc (l := [some (.inr (.inr x0)), some (.inl x1), some (.inl (w32 (x2 + 1)))]) zi_96_88 rfl rfl rfl <| yI_goto zi_96_91 <| rfl)
/-- 84 Treegrab$Tape.byteAt -/
theorem zi_84_0 : zraw 84 0 = some (.iload_n 1, 1) ∧ 0 + 1 = 1 := by decide +kernel
theorem zi_84_1 : zraw 84 1 = some (.ifCond .lt 20, 3) ∧ ((1 : Nat) : Int) + 20 = Int.ofNat 21 ∧ 1 + 3 = 4 := by decide +kernel
theorem zi_84_4 : zraw 84 4 = some (.iload_n 1, 1) ∧ 4 + 1 = 5 := by decide +kernel
theorem zi_84_5 : zraw 84 5 = some (.aload_n 0, 1) ∧ 5 + 1 = 6 := by decide +kernel
theorem zi_84_6 : zraw 84 6 = some (.getfield 15, 3) ∧ zft (zinf 84).1 15 = some (7, 1, 0, false) ∧ 6 + 3 = 9 := by decide +kernel
theorem zi_84_9 : zraw 84 9 = some (.if_icmp .ge 12, 3) ∧ ((9 : Nat) : Int) + 12 = Int.ofNat 21 ∧ 9 + 3 = 12 := by decide +kernel
theorem zi_84_12 : zraw 84 12 = some (.aload_n 0, 1) ∧ 12 + 1 = 13 := by decide +kernel
theorem zi_84_13 : zraw 84 13 = some (.getfield 9, 3) ∧ zft (zinf 84).1 9 = some (7, 0, 3, true) ∧ 13 + 3 = 16 := by decide +kernel
theorem zi_84_16 : zraw 84 16 = some (.iload_n 1, 1) ∧ 16 + 1 = 17 := by decide +kernel
theorem zi_84_17 : zraw 84 17 = some (.iaload, 1) ∧ 17 + 1 = 18 := by decide +kernel
theorem zi_84_18 : zraw 84 18 = some (.goto 4, 3) ∧ ((18 : Nat) : Int) + 4 = Int.ofNat 22 := by decide +kernel
theorem zi_84_21 : zraw 84 21 = some (.iconst (-1), 1) ∧ zin 128 (-1) = true ∧ 21 + 1 = 22 := by decide +kernel
theorem zi_84_22 : zraw 84 22 = some (.ireturn, 1) ∧ (zinf 84).2.2.2.1 = 1 := by decide +kernel
theorem ze_84 {K : List zF} {σ : zW} {x1 : Int} : zEv true (zent 84 [.inr (.inr 2), .inl x1] :: K) σ = (if x1 < 0 then zEv true ((84, 21, [some (.inr (.inr 2)), some (.inl x1)], []) :: K) σ else if (gI σ 2 1) ≤ x1 then zEv true ((84, 21, [some (.inr (.inr 2)), some (.inl x1)], []) :: K) σ else (0 ≤ x1 ∧ x1 < 600) ∧ zRet true K (some (.inl (gI σ 3 x1.toNat))) σ) :=
  yT_en (f := (84, 0, [some (.inr (.inr 2)), some (.inl x1)], [])) rfl (yI_iload_n zi_84_0 rfl <| yI_if_lt zi_84_1 <| yBr (rfl) (yI_iload_n zi_84_4 rfl <| yI_aload_n zi_84_5 rfl <| yI_gf_i (v := gI σ 2 1) zi_84_6 zk_2 rfl <| yI_ic_ge zi_84_9 <| yBr (rfl) (yI_aload_n zi_84_12 rfl <| yI_gf_f (v := 3) zi_84_13 zk_2 rfl <| yI_iload_n zi_84_16 rfl <| yI_ialoadc (v := gI σ 3 x1.toNat) zi_84_17 za_3 rfl <| yI_goto zi_84_18 <| yI_ireturn zi_84_22)))
theorem zj_84_21 {K : List zF} {σ : zW} {o0 : Option zV} {o1 : Option zV} : zEv true ((84, 21, [o0, o1], []) :: K) σ = (zRet true K (some (.inl (-1))) σ) :=
  yI_iconst zi_84_21 <| yI_ireturn zi_84_22
/-- 87 Treegrab$Tape.wordLength -/
theorem zi_87_0 : zraw 87 0 = some (.aload_n 0, 1) ∧ 0 + 1 = 1 := by decide +kernel
theorem zi_87_1 : zraw 87 1 = some (.aload_n 0, 1) ∧ 1 + 1 = 2 := by decide +kernel
theorem zi_87_2 : zraw 87 2 = some (.getfield 19, 3) ∧ zft (zinf 87).1 19 = some (7, 2, 0, false) ∧ 2 + 3 = 5 := by decide +kernel
theorem zi_87_5 : zraw 87 5 = some (.invokevirtual 28, 3) ∧ zmt (zinf 87).1 28 = some 84 ∧ Nat.ble 9000 84 = false ∧ zinf 84 = (7, 2, 2, 1, 0) ∧ 5 + 3 = 8 := by decide +kernel
theorem zi_87_8 : zraw 87 8 = some (.invokestatic 32, 3) ∧ zmt (zinf 87).1 32 = some 136 ∧ Nat.ble 9000 136 = false ∧ zinf 136 = (9, 1, 1, 2, 1) ∧ 8 + 3 = 11 := by decide +kernel
theorem zi_87_11 : zraw 87 11 = some (.ifCond .ne 5, 3) ∧ ((11 : Nat) : Int) + 5 = Int.ofNat 16 ∧ 11 + 3 = 14 := by decide +kernel
theorem zi_87_14 : zraw 87 14 = some (.iconst 0, 1) ∧ zin 128 0 = true ∧ 14 + 1 = 15 := by decide +kernel
theorem zi_87_15 : zraw 87 15 = some (.ireturn, 1) ∧ (zinf 87).2.2.2.1 = 1 := by decide +kernel
theorem zi_87_16 : zraw 87 16 = some (.aload_n 0, 1) ∧ 16 + 1 = 17 := by decide +kernel
theorem zi_87_17 : zraw 87 17 = some (.getfield 19, 3) ∧ zft (zinf 87).1 19 = some (7, 2, 0, false) ∧ 17 + 3 = 20 := by decide +kernel
theorem zi_87_20 : zraw 87 20 = some (.iconst 1, 1) ∧ zin 128 1 = true ∧ 20 + 1 = 21 := by decide +kernel
theorem zi_87_21 : zraw 87 21 = some (.iadd, 1) ∧ 21 + 1 = 22 := by decide +kernel
theorem zi_87_22 : zraw 87 22 = some (.istore_n 1, 1) ∧ 22 + 1 = 23 := by decide +kernel
theorem zi_87_23 : zraw 87 23 = some (.iload_n 1, 1) ∧ 23 + 1 = 24 := by decide +kernel
theorem zi_87_24 : zraw 87 24 = some (.aload_n 0, 1) ∧ 24 + 1 = 25 := by decide +kernel
theorem zi_87_25 : zraw 87 25 = some (.getfield 15, 3) ∧ zft (zinf 87).1 15 = some (7, 1, 0, false) ∧ 25 + 3 = 28 := by decide +kernel
theorem zi_87_28 : zraw 87 28 = some (.if_icmp .ge 33, 3) ∧ ((28 : Nat) : Int) + 33 = Int.ofNat 61 ∧ 28 + 3 = 31 := by decide +kernel
theorem zi_87_31 : zraw 87 31 = some (.aload_n 0, 1) ∧ 31 + 1 = 32 := by decide +kernel
theorem zi_87_32 : zraw 87 32 = some (.getfield 9, 3) ∧ zft (zinf 87).1 9 = some (7, 0, 3, true) ∧ 32 + 3 = 35 := by decide +kernel
theorem zi_87_35 : zraw 87 35 = some (.iload_n 1, 1) ∧ 35 + 1 = 36 := by decide +kernel
theorem zi_87_36 : zraw 87 36 = some (.iaload, 1) ∧ 36 + 1 = 37 := by decide +kernel
theorem zi_87_37 : zraw 87 37 = some (.invokestatic 32, 3) ∧ zmt (zinf 87).1 32 = some 136 ∧ Nat.ble 9000 136 = false ∧ zinf 136 = (9, 1, 1, 2, 1) ∧ 37 + 3 = 40 := by decide +kernel
theorem zi_87_40 : zraw 87 40 = some (.ifCond .ne 15, 3) ∧ ((40 : Nat) : Int) + 15 = Int.ofNat 55 ∧ 40 + 3 = 43 := by decide +kernel
theorem zi_87_43 : zraw 87 43 = some (.aload_n 0, 1) ∧ 43 + 1 = 44 := by decide +kernel
theorem zi_87_44 : zraw 87 44 = some (.getfield 9, 3) ∧ zft (zinf 87).1 9 = some (7, 0, 3, true) ∧ 44 + 3 = 47 := by decide +kernel
theorem zi_87_47 : zraw 87 47 = some (.iload_n 1, 1) ∧ 47 + 1 = 48 := by decide +kernel
theorem zi_87_48 : zraw 87 48 = some (.iaload, 1) ∧ 48 + 1 = 49 := by decide +kernel
theorem zi_87_49 : zraw 87 49 = some (.invokestatic 36, 3) ∧ zmt (zinf 87).1 36 = some 138 ∧ Nat.ble 9000 138 = false ∧ zinf 138 = (9, 1, 1, 2, 1) ∧ 49 + 3 = 52 := by decide +kernel
theorem zi_87_52 : zraw 87 52 = some (.ifCond .eq 9, 3) ∧ ((52 : Nat) : Int) + 9 = Int.ofNat 61 ∧ 52 + 3 = 55 := by decide +kernel
theorem zi_87_55 : zraw 87 55 = some (.iinc 1 1, 3) ∧ zin 32768 1 = true ∧ 55 + 3 = 58 := by decide +kernel
theorem zi_87_58 : zraw 87 58 = some (.goto (-35), 3) ∧ ((58 : Nat) : Int) + (-35) = Int.ofNat 23 := by decide +kernel
theorem zi_87_61 : zraw 87 61 = some (.iload_n 1, 1) ∧ 61 + 1 = 62 := by decide +kernel
theorem zi_87_62 : zraw 87 62 = some (.aload_n 0, 1) ∧ 62 + 1 = 63 := by decide +kernel
theorem zi_87_63 : zraw 87 63 = some (.getfield 19, 3) ∧ zft (zinf 87).1 19 = some (7, 2, 0, false) ∧ 63 + 3 = 66 := by decide +kernel
theorem zi_87_66 : zraw 87 66 = some (.isub, 1) ∧ 66 + 1 = 67 := by decide +kernel
theorem zi_87_67 : zraw 87 67 = some (.ireturn, 1) ∧ (zinf 87).2.2.2.1 = 1 := by decide +kernel
theorem ze_87 {K : List zF} {σ : zW} (hK : K.length < 60) : zEv true (zent 87 [.inr (.inr 2)] :: K) σ = (zEv true (zent 84 [.inr (.inr 2), .inl (gI σ 2 2)] :: (87, 8, [some (.inr (.inr 2)), none], []) :: K) σ) :=
  yT_en (f := (87, 0, [some (.inr (.inr 2)), none], [])) rfl (yI_aload_n zi_87_0 rfl <| yI_aload_n zi_87_1 rfl <| yI_gf_i (v := gI σ 2 2) zi_87_2 zk_2 rfl <| yI_cv zi_87_5 rfl rfl zk_2 hK)
theorem zr_87_8 {K : List zF} {σ : zW} {o1 : Option zV} {v : Int} (hK : K.length < 60) : zRet true ((87, 8, [some (.inr (.inr 2)), o1], []) :: K) (some (.inl v)) σ = (zEv true (zent 136 [.inl v] :: (87, 11, [some (.inr (.inr 2)), o1], []) :: K) σ) :=
  yT_rt (yI_cs zi_87_8 rfl rfl hK)
theorem zr_87_11 {K : List zF} {σ : zW} {o1 : Option zV} {v : Int} : zRet true ((87, 11, [some (.inr (.inr 2)), o1], []) :: K) (some (.inl v)) σ = (if ¬ v = 0 then zEv true ((87, 23, [some (.inr (.inr 2)), some (.inl (w32 ((gI σ 2 2) + 1)))], []) :: K) σ else zRet true K (some (.inl 0)) σ) :=
  yT_rt (yI_if_ne zi_87_11 <| yBr (yI_aload_n zi_87_16 rfl <| yI_gf_i (v := gI σ 2 2) zi_87_17 zk_2 rfl <| yI_iconst zi_87_20 <| yI_iadd zi_87_21 <| yI_istore_n (l := [some (.inr (.inr 2)), some (.inl (w32 ((gI σ 2 2) + 1)))]) zi_87_22 rfl rfl <| rfl) (yI_iconst zi_87_14 <| yI_ireturn zi_87_15))
theorem zj_87_23 {K : List zF} {σ : zW} {x1 : Int} (hK : K.length < 60) : zEv true ((87, 23, [some (.inr (.inr 2)), some (.inl x1)], []) :: K) σ = (if (gI σ 2 1) ≤ x1 then zEv true ((87, 61, [some (.inr (.inr 2)), some (.inl x1)], []) :: K) σ else (0 ≤ x1 ∧ x1 < 600) ∧ zEv true (zent 136 [.inl (gI σ 3 x1.toNat)] :: (87, 40, [some (.inr (.inr 2)), some (.inl x1)], []) :: K) σ) :=
  yI_iload_n zi_87_23 rfl <| yI_aload_n zi_87_24 rfl <| yI_gf_i (v := gI σ 2 1) zi_87_25 zk_2 rfl <| yI_ic_ge zi_87_28 <| yBr (rfl) (yI_aload_n zi_87_31 rfl <| yI_gf_f (v := 3) zi_87_32 zk_2 rfl <| yI_iload_n zi_87_35 rfl <| yI_ialoadc (v := gI σ 3 x1.toNat) zi_87_36 za_3 rfl <| yI_cs zi_87_37 rfl rfl hK)
theorem zj_87_61 {K : List zF} {σ : zW} {x1 : Int} : zEv true ((87, 61, [some (.inr (.inr 2)), some (.inl x1)], []) :: K) σ = (zRet true K (some (.inl (w32 (x1 - (gI σ 2 2))))) σ) :=
  yI_iload_n zi_87_61 rfl <| yI_aload_n zi_87_62 rfl <| yI_gf_i (v := gI σ 2 2) zi_87_63 zk_2 rfl <| yI_isub zi_87_66 <| yI_ireturn zi_87_67
theorem zr_87_40 {K : List zF} {σ : zW} {x1 : Int} {v : Int} (hK : K.length < 60) : zRet true ((87, 40, [some (.inr (.inr 2)), some (.inl x1)], []) :: K) (some (.inl v)) σ = (if ¬ v = 0 then zEv true ((87, 23, [some (.inr (.inr 2)), some (.inl (w32 (x1 + 1)))], []) :: K) σ else (0 ≤ x1 ∧ x1 < 600) ∧ zEv true (zent 138 [.inl (gI σ 3 x1.toNat)] :: (87, 52, [some (.inr (.inr 2)), some (.inl x1)], []) :: K) σ) :=
  yT_rt (yI_if_ne zi_87_40 <| yBr (yI_iinc (l := [some (.inr (.inr 2)), some (.inl (w32 (x1 + 1)))]) zi_87_55 rfl rfl rfl <| yI_goto zi_87_58 <| rfl) (yI_aload_n zi_87_43 rfl <| yI_gf_f (v := 3) zi_87_44 zk_2 rfl <| yI_iload_n zi_87_47 rfl <| yI_ialoadc (v := gI σ 3 x1.toNat) zi_87_48 za_3 rfl <| yI_cs zi_87_49 rfl rfl hK))
theorem zr_87_52 {K : List zF} {σ : zW} {x1 : Int} {v : Int} : zRet true ((87, 52, [some (.inr (.inr 2)), some (.inl x1)], []) :: K) (some (.inl v)) σ = (if v = 0 then zEv true ((87, 61, [some (.inr (.inr 2)), some (.inl x1)], []) :: K) σ else zEv true ((87, 23, [some (.inr (.inr 2)), some (.inl (w32 (x1 + 1)))], []) :: K) σ) :=
  yT_rt (yI_if_eq zi_87_52 <| yBr (rfl) (yI_iinc (l := [some (.inr (.inr 2)), some (.inl (w32 (x1 + 1)))]) zi_87_55 rfl rfl rfl <| yI_goto zi_87_58 <| rfl))
/-- 49 Treegrab$Pattern.enterRelation -/
theorem zi_49_0 : zraw 49 0 = some (.iload_n 1, 1) ∧ 0 + 1 = 1 := by decide +kernel
theorem zi_49_1 : zraw 49 1 = some (.iconst (-1), 1) ∧ zin 128 (-1) = true ∧ 1 + 1 = 2 := by decide +kernel
theorem zi_49_2 : zraw 49 2 = some (.if_icmp .ne 7, 3) ∧ ((2 : Nat) : Int) + 7 = Int.ofNat 9 ∧ 2 + 3 = 5 := by decide +kernel
theorem zi_49_5 : zraw 49 5 = some (.iconst (-1), 1) ∧ zin 128 (-1) = true ∧ 5 + 1 = 6 := by decide +kernel
theorem zi_49_6 : zraw 49 6 = some (.goto 9, 3) ∧ ((6 : Nat) : Int) + 9 = Int.ofNat 15 := by decide +kernel
theorem zi_49_9 : zraw 49 9 = some (.aload_n 0, 1) ∧ 9 + 1 = 10 := by decide +kernel
theorem zi_49_10 : zraw 49 10 = some (.getfield 36, 3) ∧ zft (zinf 49).1 36 = some (4, 8, 3, true) ∧ 10 + 3 = 13 := by decide +kernel
theorem zi_49_13 : zraw 49 13 = some (.iload_n 1, 1) ∧ 13 + 1 = 14 := by decide +kernel
theorem zi_49_14 : zraw 49 14 = some (.iaload, 1) ∧ 14 + 1 = 15 := by decide +kernel
theorem zi_49_15 : zraw 49 15 = some (.istore 4, 2) ∧ 15 + 2 = 17 := by decide +kernel
theorem zi_49_17 : zraw 49 17 = some (.aload_n 0, 1) ∧ 17 + 1 = 18 := by decide +kernel
theorem zi_49_18 : zraw 49 18 = some (.getfield 18, 3) ∧ zft (zinf 49).1 18 = some (4, 2, 3, true) ∧ 18 + 3 = 21 := by decide +kernel
theorem zi_49_21 : zraw 49 21 = some (.aload_n 0, 1) ∧ 21 + 1 = 22 := by decide +kernel
theorem zi_49_22 : zraw 49 22 = some (.getfield 87, 3) ∧ zft (zinf 49).1 87 = some (4, 15, 0, false) ∧ 22 + 3 = 25 := by decide +kernel
theorem zi_49_25 : zraw 49 25 = some (.iload_n 1, 1) ∧ 25 + 1 = 26 := by decide +kernel
theorem zi_49_26 : zraw 49 26 = some (.iastore, 1) ∧ 26 + 1 = 27 := by decide +kernel
theorem zi_49_27 : zraw 49 27 = some (.aload_n 0, 1) ∧ 27 + 1 = 28 := by decide +kernel
theorem zi_49_28 : zraw 49 28 = some (.getfield 21, 3) ∧ zft (zinf 49).1 21 = some (4, 3, 3, true) ∧ 28 + 3 = 31 := by decide +kernel
theorem zi_49_31 : zraw 49 31 = some (.aload_n 0, 1) ∧ 31 + 1 = 32 := by decide +kernel
theorem zi_49_32 : zraw 49 32 = some (.getfield 87, 3) ∧ zft (zinf 49).1 87 = some (4, 15, 0, false) ∧ 32 + 3 = 35 := by decide +kernel
theorem zi_49_35 : zraw 49 35 = some (.iload_n 2, 1) ∧ 35 + 1 = 36 := by decide +kernel
theorem zi_49_36 : zraw 49 36 = some (.iastore, 1) ∧ 36 + 1 = 37 := by decide +kernel
theorem zi_49_37 : zraw 49 37 = some (.aload_n 0, 1) ∧ 37 + 1 = 38 := by decide +kernel
theorem zi_49_38 : zraw 49 38 = some (.getfield 24, 3) ∧ zft (zinf 49).1 24 = some (4, 4, 3, true) ∧ 38 + 3 = 41 := by decide +kernel
theorem zi_49_41 : zraw 49 41 = some (.aload_n 0, 1) ∧ 41 + 1 = 42 := by decide +kernel
theorem zi_49_42 : zraw 49 42 = some (.getfield 87, 3) ∧ zft (zinf 49).1 87 = some (4, 15, 0, false) ∧ 42 + 3 = 45 := by decide +kernel
theorem zi_49_45 : zraw 49 45 = some (.iload_n 3, 1) ∧ 45 + 1 = 46 := by decide +kernel
theorem zi_49_46 : zraw 49 46 = some (.iastore, 1) ∧ 46 + 1 = 47 := by decide +kernel
theorem zi_49_47 : zraw 49 47 = some (.aload_n 0, 1) ∧ 47 + 1 = 48 := by decide +kernel
theorem zi_49_48 : zraw 49 48 = some (.getfield 36, 3) ∧ zft (zinf 49).1 36 = some (4, 8, 3, true) ∧ 48 + 3 = 51 := by decide +kernel
theorem zi_49_51 : zraw 49 51 = some (.aload_n 0, 1) ∧ 51 + 1 = 52 := by decide +kernel
theorem zi_49_52 : zraw 49 52 = some (.getfield 87, 3) ∧ zft (zinf 49).1 87 = some (4, 15, 0, false) ∧ 52 + 3 = 55 := by decide +kernel
theorem zi_49_55 : zraw 49 55 = some (.iload 4, 2) ∧ 55 + 2 = 57 := by decide +kernel
theorem zi_49_57 : zraw 49 57 = some (.iconst (-1), 1) ∧ zin 128 (-1) = true ∧ 57 + 1 = 58 := by decide +kernel
theorem zi_49_58 : zraw 49 58 = some (.if_icmp .ne 15, 3) ∧ ((58 : Nat) : Int) + 15 = Int.ofNat 73 ∧ 58 + 3 = 61 := by decide +kernel
theorem zi_49_61 : zraw 49 61 = some (.iload_n 2, 1) ∧ 61 + 1 = 62 := by decide +kernel
theorem zi_49_62 : zraw 49 62 = some (.iconst 2, 1) ∧ zin 128 2 = true ∧ 62 + 1 = 63 := by decide +kernel
theorem zi_49_63 : zraw 49 63 = some (.if_icmp .ne 10, 3) ∧ ((63 : Nat) : Int) + 10 = Int.ofNat 73 ∧ 63 + 3 = 66 := by decide +kernel
theorem zi_49_66 : zraw 49 66 = some (.aload_n 0, 1) ∧ 66 + 1 = 67 := by decide +kernel
theorem zi_49_67 : zraw 49 67 = some (.getfield 87, 3) ∧ zft (zinf 49).1 87 = some (4, 15, 0, false) ∧ 67 + 3 = 70 := by decide +kernel
theorem zi_49_70 : zraw 49 70 = some (.goto 5, 3) ∧ ((70 : Nat) : Int) + 5 = Int.ofNat 75 := by decide +kernel
theorem zi_49_73 : zraw 49 73 = some (.iload 4, 2) ∧ 73 + 2 = 75 := by decide +kernel
theorem zi_49_75 : zraw 49 75 = some (.iastore, 1) ∧ 75 + 1 = 76 := by decide +kernel
theorem zi_49_76 : zraw 49 76 = some (.return_, 1) ∧ (zinf 49).2.2.2.1 = 0 := by decide +kernel
theorem ze_49 {K : List zF} {σ : zW} {t : Nat} {x1 : Int} {x2 : Int} {x3 : Int} (h1 : zPn t) : zEv true (zent 49 [.inr (.inr t), .inl x1, .inl x2, .inl x3] :: K) σ = (((¬ x1 = (-1)) → (0 ≤ x1 ∧ x1 < 8)) ∧ ((0 ≤ (gI σ t 15) ∧ (gI σ t 15) < 8) ∧ ((0 ≤ (gI σ t 15) ∧ (gI σ t 15) < 8) ∧ ((0 ≤ (gI σ t 15) ∧ (gI σ t 15) < 8) ∧ ((0 ≤ (gI σ t 15) ∧ (gI σ t 15) < 8) ∧ zRet true K none (sI (sI (sI (sI σ (t + 3) ((gI σ t 15).toNat) x1) (t + 4) ((gI σ t 15).toNat) x2) (t + 5) ((gI σ t 15).toNat) x3) (t + 9) ((gI σ t 15).toNat) (if ¬ (if ¬ x1 = (-1) then gI σ (t + 9) x1.toNat else (-1)) = (-1) then if ¬ x1 = (-1) then gI σ (t + 9) x1.toNat else (-1) else if ¬ x2 = 2 then if ¬ x1 = (-1) then gI σ (t + 9) x1.toNat else (-1) else gI σ t 15))))))) :=
  yT_en (f := (49, 0, [some (.inr (.inr t)), some (.inl x1), some (.inl x2), some (.inl x3), none], [])) rfl (yI_iload_n zi_49_0 rfl <| yI_iconst zi_49_1 <| yI_ic_ne zi_49_2 <| yMi1 (j := 15) (ls2 := [some (.inr (.inr t)), some (.inl x1), some (.inl x2), some (.inl x3), none]) (st2 := []) (x := gI σ (t + 9) x1.toNat) (y := (-1)) (σ2 := σ) (yI_aload_n zi_49_9 rfl <| yI_gf_f (v := t + 9) zi_49_10 (zPn_k h1) rfl <| yI_iload_n zi_49_13 rfl <| yI_ialoadc (v := gI σ (t + 9) x1.toNat) zi_49_14 (zPn_a9 h1) rfl <| rfl) (yI_iconst zi_49_5 <| yI_goto zi_49_6 <| rfl) <| yI_istore (l := [some (.inr (.inr t)), some (.inl x1), some (.inl x2), some (.inl x3), some (.inl (if ¬ x1 = (-1) then gI σ (t + 9) x1.toNat else (-1)))]) zi_49_15 rfl rfl <| yI_aload_n zi_49_17 rfl <| yI_gf_f (v := t + 3) zi_49_18 (zPn_k h1) rfl <| yI_aload_n zi_49_21 rfl <| yI_gf_i (v := gI σ t 15) zi_49_22 (zPn_k h1) rfl <| yI_iload_n zi_49_25 rfl <| yI_iastorec zi_49_26 (zPn_a3 h1) <| yI_aload_n zi_49_27 rfl <| yI_gf_f (v := t + 4) zi_49_28 (zPn_k h1) rfl <| yI_aload_n zi_49_31 rfl <| yI_gf_i (v := gI σ t 15) zi_49_32 (zPn_k h1) (yGI_nk (by omega)) <| yI_iload_n zi_49_35 rfl <| yI_iastorec zi_49_36 (zPn_a4 h1) <| yI_aload_n zi_49_37 rfl <| yI_gf_f (v := t + 5) zi_49_38 (zPn_k h1) rfl <| yI_aload_n zi_49_41 rfl <| yI_gf_i (v := gI σ t 15) zi_49_42 (zPn_k h1) ((yGI_nk (by omega)).trans (yGI_nk (by omega))) <| yI_iload_n zi_49_45 rfl <| yI_iastorec zi_49_46 (zPn_a5 h1) <| yI_aload_n zi_49_47 rfl <| yI_gf_f (v := t + 9) zi_49_48 (zPn_k h1) rfl <| yI_aload_n zi_49_51 rfl <| yI_gf_i (v := gI σ t 15) zi_49_52 (zPn_k h1) ((yGI_nk (by omega)).trans ((yGI_nk (by omega)).trans (yGI_nk (by omega)))) <| yI_iload zi_49_55 rfl <| yI_iconst zi_49_57 <| yI_ic_ne zi_49_58 <| yMi0 (j := 75) (ls2 := [some (.inr (.inr t)), some (.inl x1), some (.inl x2), some (.inl x3), some (.inl (if ¬ x1 = (-1) then gI σ (t + 9) x1.toNat else (-1)))]) (st2 := [.inl (gI σ t 15), .inr (.inr (t + 9))]) (x := if ¬ x1 = (-1) then gI σ (t + 9) x1.toNat else (-1)) (y := if ¬ x2 = 2 then if ¬ x1 = (-1) then gI σ (t + 9) x1.toNat else (-1) else gI σ t 15) (σ2 := (sI (sI (sI σ (t + 3) ((gI σ t 15).toNat) x1) (t + 4) ((gI σ t 15).toNat) x2) (t + 5) ((gI σ t 15).toNat) x3)) (yI_iload zi_49_73 rfl <| rfl) (yI_iload_n zi_49_61 rfl <| yI_iconst zi_49_62 <| yI_ic_ne zi_49_63 <| yMi0 (j := 75) (ls2 := [some (.inr (.inr t)), some (.inl x1), some (.inl x2), some (.inl x3), some (.inl (if ¬ x1 = (-1) then gI σ (t + 9) x1.toNat else (-1)))]) (st2 := [.inl (gI σ t 15), .inr (.inr (t + 9))]) (x := if ¬ x1 = (-1) then gI σ (t + 9) x1.toNat else (-1)) (y := gI σ t 15) (σ2 := (sI (sI (sI σ (t + 3) ((gI σ t 15).toNat) x1) (t + 4) ((gI σ t 15).toNat) x2) (t + 5) ((gI σ t 15).toNat) x3)) (yI_iload zi_49_73 rfl <| rfl) (yI_aload_n zi_49_66 rfl <| yI_gf_i (v := gI σ t 15) zi_49_67 (zPn_k h1) ((yGI_nk (by omega)).trans ((yGI_nk (by omega)).trans (yGI_nk (by omega)))) <| yI_goto zi_49_70 <| rfl) <| rfl) <| yI_iastorec zi_49_75 (zPn_a9 h1) <| yI_ret zi_49_76)
