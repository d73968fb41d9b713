/-! the trees of methods 1 to 43, written by wip/p24/gen/emit_trees.py -/
/-- 1 Treegrab$Bench.take(LTreegrab$Tree;)V -/
theorem zi_1_0 : zraw 1 0 = some (.aload_n 0, 1) ∧ 0 + 1 = 1 := by decide +kernel
theorem zi_1_1 : zraw 1 1 = some (.aload_n 1, 1) ∧ 1 + 1 = 2 := by decide +kernel
theorem zi_1_2 : zraw 1 2 = some (.getfield 31, 3) ∧ zft (zinf 1).1 31 = some (8, 12, 0, false) ∧ 2 + 3 = 5 := by decide +kernel
theorem zi_1_5 : zraw 1 5 = some (.putfield 37, 3) ∧ zft (zinf 1).1 37 = some (0, 6, 0, false) ∧ 5 + 3 = 8 := by decide +kernel
theorem zi_1_8 : zraw 1 8 = some (.iconst 0, 1) ∧ zin 128 0 = true ∧ 8 + 1 = 9 := by decide +kernel
theorem zi_1_9 : zraw 1 9 = some (.istore_n 2, 1) ∧ 9 + 1 = 10 := by decide +kernel
theorem zi_1_10 : zraw 1 10 = some (.iload_n 2, 1) ∧ 10 + 1 = 11 := by decide +kernel
theorem zi_1_11 : zraw 1 11 = some (.aload_n 0, 1) ∧ 11 + 1 = 12 := by decide +kernel
theorem zi_1_12 : zraw 1 12 = some (.getfield 37, 3) ∧ zft (zinf 1).1 37 = some (0, 6, 0, false) ∧ 12 + 3 = 15 := by decide +kernel
theorem zi_1_15 : zraw 1 15 = some (.if_icmp .ge 40, 3) ∧ ((15 : Nat) : Int) + 40 = Int.ofNat 55 ∧ 15 + 3 = 18 := by decide +kernel
theorem zi_1_18 : zraw 1 18 = some (.aload_n 0, 1) ∧ 18 + 1 = 19 := by decide +kernel
theorem zi_1_19 : zraw 1 19 = some (.getfield 9, 3) ∧ zft (zinf 1).1 9 = some (0, 0, 3, true) ∧ 19 + 3 = 22 := by decide +kernel
theorem zi_1_22 : zraw 1 22 = some (.iload_n 2, 1) ∧ 22 + 1 = 23 := by decide +kernel
theorem zi_1_23 : zraw 1 23 = some (.aload_n 1, 1) ∧ 23 + 1 = 24 := by decide +kernel
theorem zi_1_24 : zraw 1 24 = some (.getfield 38, 3) ∧ zft (zinf 1).1 38 = some (8, 0, 3, true) ∧ 24 + 3 = 27 := by decide +kernel
theorem zi_1_27 : zraw 1 27 = some (.iload_n 2, 1) ∧ 27 + 1 = 28 := by decide +kernel
theorem zi_1_28 : zraw 1 28 = some (.laload, 1) ∧ 28 + 1 = 29 := by decide +kernel
theorem zi_1_29 : zraw 1 29 = some (.lastore, 1) ∧ 29 + 1 = 30 := by decide +kernel
theorem zi_1_30 : zraw 1 30 = some (.aload_n 0, 1) ∧ 30 + 1 = 31 := by decide +kernel
theorem zi_1_31 : zraw 1 31 = some (.getfield 15, 3) ∧ zft (zinf 1).1 15 = some (0, 1, 3, true) ∧ 31 + 3 = 34 := by decide +kernel
theorem zi_1_34 : zraw 1 34 = some (.iload_n 2, 1) ∧ 34 + 1 = 35 := by decide +kernel
theorem zi_1_35 : zraw 1 35 = some (.aload_n 1, 1) ∧ 35 + 1 = 36 := by decide +kernel
theorem zi_1_36 : zraw 1 36 = some (.getfield 39, 3) ∧ zft (zinf 1).1 39 = some (8, 1, 3, true) ∧ 36 + 3 = 39 := by decide +kernel
theorem zi_1_39 : zraw 1 39 = some (.iload_n 2, 1) ∧ 39 + 1 = 40 := by decide +kernel
theorem zi_1_40 : zraw 1 40 = some (.iaload, 1) ∧ 40 + 1 = 41 := by decide +kernel
theorem zi_1_41 : zraw 1 41 = some (.iastore, 1) ∧ 41 + 1 = 42 := by decide +kernel
theorem zi_1_42 : zraw 1 42 = some (.aload_n 0, 1) ∧ 42 + 1 = 43 := by decide +kernel
theorem zi_1_43 : zraw 1 43 = some (.getfield 19, 3) ∧ zft (zinf 1).1 19 = some (0, 2, 3, true) ∧ 43 + 3 = 46 := by decide +kernel
theorem zi_1_46 : zraw 1 46 = some (.iload_n 2, 1) ∧ 46 + 1 = 47 := by decide +kernel
theorem zi_1_47 : zraw 1 47 = some (.iload_n 2, 1) ∧ 47 + 1 = 48 := by decide +kernel
theorem zi_1_48 : zraw 1 48 = some (.iastore, 1) ∧ 48 + 1 = 49 := by decide +kernel
theorem zi_1_49 : zraw 1 49 = some (.iinc 2 1, 3) ∧ zin 32768 1 = true ∧ 49 + 3 = 52 := by decide +kernel
theorem zi_1_52 : zraw 1 52 = some (.goto (-42), 3) ∧ ((52 : Nat) : Int) + (-42) = Int.ofNat 10 := by decide +kernel
theorem zi_1_55 : zraw 1 55 = some (.aload_n 0, 1) ∧ 55 + 1 = 56 := by decide +kernel
theorem zi_1_56 : zraw 1 56 = some (.bipush 20, 2) ∧ zin 128 20 = true ∧ 56 + 2 = 58 := by decide +kernel
theorem zi_1_58 : zraw 1 58 = some (.putfield 40, 3) ∧ zft (zinf 1).1 40 = some (0, 8, 0, false) ∧ 58 + 3 = 61 := by decide +kernel
theorem zi_1_61 : zraw 1 61 = some (.aload_n 0, 1) ∧ 61 + 1 = 62 := by decide +kernel
theorem zi_1_62 : zraw 1 62 = some (.iconst 0, 1) ∧ zin 128 0 = true ∧ 62 + 1 = 63 := by decide +kernel
theorem zi_1_63 : zraw 1 63 = some (.putfield 43, 3) ∧ zft (zinf 1).1 43 = some (0, 9, 0, false) ∧ 63 + 3 = 66 := by decide +kernel
theorem zi_1_66 : zraw 1 66 = some (.return_, 1) ∧ (zinf 1).2.2.2.1 = 0 := by decide +kernel
theorem ze_1 {K : List zF} {σ : zW} {x1 : Nat} (h1 : zTr x1) : zEv true (zent 1 [.inr (.inr 54), .inr (.inr x1)] :: K) σ = (zEv true ((1, 10, [some (.inr (.inr 54)), some (.inr (.inr x1)), some (.inl 0)], []) :: K) (sI σ 54 6 (gI σ x1 12))) :=
  yT_en (f := (1, 0, [some (.inr (.inr 54)), some (.inr (.inr x1)), none], [])) rfl (yI_aload_n zi_1_0 rfl <| yI_aload_n zi_1_1 rfl <| yI_gf_i (v := gI σ x1 12) zi_1_2 (zTr_k h1) rfl <| yI_pf_i zi_1_5 zk_54 <| yI_iconst zi_1_8 <| yI_istore_n (l := [some (.inr (.inr 54)), some (.inr (.inr x1)), some (.inl 0)]) zi_1_9 rfl rfl <| rfl)
theorem zj_1_10 {K : List zF} {σ : zW} {x1 : Nat} {x2 : Int} (h1 : zTr x1) : zEv true ((1, 10, [some (.inr (.inr 54)), some (.inr (.inr x1)), some (.inl x2)], []) :: K) σ = (if (gI σ 54 6) ≤ x2 then zRet true K none (sI (sI σ 54 8 20) 54 9 0) else (0 ≤ x2 ∧ x2 < 20) ∧ ((0 ≤ x2 ∧ x2 < 20) ∧ ((0 ≤ x2 ∧ x2 < 20) ∧ ((0 ≤ x2 ∧ x2 < 20) ∧ ((0 ≤ x2 ∧ x2 < 20) ∧ zEv true ((1, 10, [some (.inr (.inr 54)), some (.inr (.inr x1)), some (.inl (w32 (x2 + 1)))], []) :: K) (sI (sI (sL σ 55 x2.toNat (gL σ (x1 + 1) x2.toNat)) 56 x2.toNat (gI σ (x1 + 2) x2.toNat)) 57 x2.toNat x2)))))) :=
  yI_iload_n zi_1_10 rfl <| yI_aload_n zi_1_11 rfl <| yI_gf_i (v := gI σ 54 6) zi_1_12 zk_54 rfl <| yI_ic_ge zi_1_15 <| yBr (yI_aload_n zi_1_55 rfl <| yI_bipush zi_1_56 <| yI_pf_i zi_1_58 zk_54 <| yI_aload_n zi_1_61 rfl <| yI_iconst zi_1_62 <| yI_pf_i zi_1_63 zk_54 <| yI_ret zi_1_66) (yI_aload_n zi_1_18 rfl <| yI_gf_f (v := 55) zi_1_19 zk_54 rfl <| yI_iload_n zi_1_22 rfl <| yI_aload_n zi_1_23 rfl <| yI_gf_f (v := x1 + 1) zi_1_24 (zTr_k h1) rfl <| yI_iload_n zi_1_27 rfl <| yI_laloadc (v := gL σ (x1 + 1) x2.toNat) zi_1_28 (zTr_a1 h1) rfl <| yI_lastorec zi_1_29 za_55 <| yI_aload_n zi_1_30 rfl <| yI_gf_f (v := 56) zi_1_31 zk_54 rfl <| yI_iload_n zi_1_34 rfl <| yI_aload_n zi_1_35 rfl <| yI_gf_f (v := x1 + 2) zi_1_36 (zTr_k h1) rfl <| yI_iload_n zi_1_39 rfl <| yI_ialoadc (v := gI σ (x1 + 2) x2.toNat) zi_1_40 (zTr_a2 h1) rfl <| yI_iastorec zi_1_41 za_56 <| yI_aload_n zi_1_42 rfl <| yI_gf_f (v := 57) zi_1_43 zk_54 rfl <| yI_iload_n zi_1_46 rfl <| yI_iload_n zi_1_47 rfl <| yI_iastorec zi_1_48 za_57 <| yI_iinc (l := [some (.inr (.inr 54)), some (.inr (.inr x1)), some (.inl (w32 (x2 + 1)))]) zi_1_49 rfl rfl rfl <| yI_goto zi_1_52 <| rfl)
/-- 2 Treegrab$Bench.giveTo(LTreegrab$Tree;)V -/
theorem zi_2_0 : zraw 2 0 = some (.aload_n 1, 1) ∧ 0 + 1 = 1 := by decide +kernel
theorem zi_2_1 : zraw 2 1 = some (.aload_n 0, 1) ∧ 1 + 1 = 2 := by decide +kernel
theorem zi_2_2 : zraw 2 2 = some (.getfield 37, 3) ∧ zft (zinf 2).1 37 = some (0, 6, 0, false) ∧ 2 + 3 = 5 := by decide +kernel
theorem zi_2_5 : zraw 2 5 = some (.putfield 31, 3) ∧ zft (zinf 2).1 31 = some (8, 12, 0, false) ∧ 5 + 3 = 8 := by decide +kernel
theorem zi_2_8 : zraw 2 8 = some (.iconst 0, 1) ∧ zin 128 0 = true ∧ 8 + 1 = 9 := by decide +kernel
theorem zi_2_9 : zraw 2 9 = some (.istore_n 2, 1) ∧ 9 + 1 = 10 := by decide +kernel
theorem zi_2_10 : zraw 2 10 = some (.iload_n 2, 1) ∧ 10 + 1 = 11 := by decide +kernel
theorem zi_2_11 : zraw 2 11 = some (.aload_n 0, 1) ∧ 11 + 1 = 12 := by decide +kernel
theorem zi_2_12 : zraw 2 12 = some (.getfield 37, 3) ∧ zft (zinf 2).1 37 = some (0, 6, 0, false) ∧ 12 + 3 = 15 := by decide +kernel
theorem zi_2_15 : zraw 2 15 = some (.if_icmp .ge 33, 3) ∧ ((15 : Nat) : Int) + 33 = Int.ofNat 48 ∧ 15 + 3 = 18 := by decide +kernel
theorem zi_2_18 : zraw 2 18 = some (.aload_n 1, 1) ∧ 18 + 1 = 19 := by decide +kernel
theorem zi_2_19 : zraw 2 19 = some (.getfield 38, 3) ∧ zft (zinf 2).1 38 = some (8, 0, 3, true) ∧ 19 + 3 = 22 := by decide +kernel
theorem zi_2_22 : zraw 2 22 = some (.iload_n 2, 1) ∧ 22 + 1 = 23 := by decide +kernel
theorem zi_2_23 : zraw 2 23 = some (.aload_n 0, 1) ∧ 23 + 1 = 24 := by decide +kernel
theorem zi_2_24 : zraw 2 24 = some (.getfield 9, 3) ∧ zft (zinf 2).1 9 = some (0, 0, 3, true) ∧ 24 + 3 = 27 := by decide +kernel
theorem zi_2_27 : zraw 2 27 = some (.iload_n 2, 1) ∧ 27 + 1 = 28 := by decide +kernel
theorem zi_2_28 : zraw 2 28 = some (.laload, 1) ∧ 28 + 1 = 29 := by decide +kernel
theorem zi_2_29 : zraw 2 29 = some (.lastore, 1) ∧ 29 + 1 = 30 := by decide +kernel
theorem zi_2_30 : zraw 2 30 = some (.aload_n 1, 1) ∧ 30 + 1 = 31 := by decide +kernel
theorem zi_2_31 : zraw 2 31 = some (.getfield 39, 3) ∧ zft (zinf 2).1 39 = some (8, 1, 3, true) ∧ 31 + 3 = 34 := by decide +kernel
theorem zi_2_34 : zraw 2 34 = some (.iload_n 2, 1) ∧ 34 + 1 = 35 := by decide +kernel
theorem zi_2_35 : zraw 2 35 = some (.aload_n 0, 1) ∧ 35 + 1 = 36 := by decide +kernel
theorem zi_2_36 : zraw 2 36 = some (.getfield 15, 3) ∧ zft (zinf 2).1 15 = some (0, 1, 3, true) ∧ 36 + 3 = 39 := by decide +kernel
theorem zi_2_39 : zraw 2 39 = some (.iload_n 2, 1) ∧ 39 + 1 = 40 := by decide +kernel
theorem zi_2_40 : zraw 2 40 = some (.iaload, 1) ∧ 40 + 1 = 41 := by decide +kernel
theorem zi_2_41 : zraw 2 41 = some (.iastore, 1) ∧ 41 + 1 = 42 := by decide +kernel
theorem zi_2_42 : zraw 2 42 = some (.iinc 2 1, 3) ∧ zin 32768 1 = true ∧ 42 + 3 = 45 := by decide +kernel
theorem zi_2_45 : zraw 2 45 = some (.goto (-35), 3) ∧ ((45 : Nat) : Int) + (-35) = Int.ofNat 10 := by decide +kernel
theorem zi_2_48 : zraw 2 48 = some (.aload_n 1, 1) ∧ 48 + 1 = 49 := by decide +kernel
theorem zi_2_49 : zraw 2 49 = some (.invokevirtual 46, 3) ∧ zmt (zinf 2).1 46 = some 95 ∧ Nat.ble 9000 95 = false ∧ zinf 95 = (8, 1, 3, 0, 0) ∧ 49 + 3 = 52 := by decide +kernel
theorem zi_2_52 : zraw 2 52 = some (.return_, 1) ∧ (zinf 2).2.2.2.1 = 0 := by decide +kernel
theorem ze_2 {K : List zF} {σ : zW} {x1 : Nat} (h1 : zTr x1) : zEv true (zent 2 [.inr (.inr 54), .inr (.inr x1)] :: K) σ = (zEv true ((2, 10, [some (.inr (.inr 54)), some (.inr (.inr x1)), some (.inl 0)], []) :: K) (sI σ x1 12 (gI σ 54 6))) :=
  yT_en (f := (2, 0, [some (.inr (.inr 54)), some (.inr (.inr x1)), none], [])) rfl (yI_aload_n zi_2_0 rfl <| yI_aload_n zi_2_1 rfl <| yI_gf_i (v := gI σ 54 6) zi_2_2 zk_54 rfl <| yI_pf_i zi_2_5 (zTr_k h1) <| yI_iconst zi_2_8 <| yI_istore_n (l := [some (.inr (.inr 54)), some (.inr (.inr x1)), some (.inl 0)]) zi_2_9 rfl rfl <| rfl)
theorem zj_2_10 {K : List zF} {σ : zW} {x1 : Nat} {x2 : Int} (hK : K.length < 60) (h1 : zTr x1) : zEv true ((2, 10, [some (.inr (.inr 54)), some (.inr (.inr x1)), some (.inl x2)], []) :: K) σ = (if (gI σ 54 6) ≤ x2 then zEv true (zent 95 [.inr (.inr x1)] :: (2, 52, [some (.inr (.inr 54)), some (.inr (.inr x1)), some (.inl x2)], []) :: K) σ else (0 ≤ x2 ∧ x2 < 20) ∧ ((0 ≤ x2 ∧ x2 < 20) ∧ ((0 ≤ x2 ∧ x2 < 20) ∧ ((0 ≤ x2 ∧ x2 < 20) ∧ zEv true ((2, 10, [some (.inr (.inr 54)), some (.inr (.inr x1)), some (.inl (w32 (x2 + 1)))], []) :: K) (sI (sL σ (x1 + 1) x2.toNat (gL σ 55 x2.toNat)) (x1 + 2) x2.toNat (gI σ 56 x2.toNat)))))) :=
  yI_iload_n zi_2_10 rfl <| yI_aload_n zi_2_11 rfl <| yI_gf_i (v := gI σ 54 6) zi_2_12 zk_54 rfl <| yI_ic_ge zi_2_15 <| yBr (yI_aload_n zi_2_48 rfl <| yI_cv zi_2_49 rfl rfl (zTr_k h1) hK) (yI_aload_n zi_2_18 rfl <| yI_gf_f (v := x1 + 1) zi_2_19 (zTr_k h1) rfl <| yI_iload_n zi_2_22 rfl <| yI_aload_n zi_2_23 rfl <| yI_gf_f (v := 55) zi_2_24 zk_54 rfl <| yI_iload_n zi_2_27 rfl <| yI_laloadc (v := gL σ 55 x2.toNat) zi_2_28 za_55 rfl <| yI_lastorec zi_2_29 (zTr_a1 h1) <| yI_aload_n zi_2_30 rfl <| yI_gf_f (v := x1 + 2) zi_2_31 (zTr_k h1) rfl <| yI_iload_n zi_2_34 rfl <| yI_aload_n zi_2_35 rfl <| yI_gf_f (v := 56) zi_2_36 zk_54 rfl <| yI_iload_n zi_2_39 rfl <| yI_ialoadc (v := gI σ 56 x2.toNat) zi_2_40 za_56 rfl <| yI_iastorec zi_2_41 (zTr_a2 h1) <| yI_iinc (l := [some (.inr (.inr 54)), some (.inr (.inr x1)), some (.inl (w32 (x2 + 1)))]) zi_2_42 rfl rfl rfl <| yI_goto zi_2_45 <| rfl)
theorem zr_2_52 {K : List zF} {σ : zW} {o0 : Option zV} {o1 : Option zV} {o2 : Option zV} : zRet true ((2, 52, [o0, o1, o2], []) :: K) none σ = (zRet true K none σ) :=
  yT_rv (yI_ret zi_2_52)
/-- 3 Treegrab$Bench.perform(LTreegrab$Script;III)Z -/
theorem zi_3_0 : zraw 3 0 = some (.aload_n 0, 1) ∧ 0 + 1 = 1 := by decide +kernel
theorem zi_3_1 : zraw 3 1 = some (.iload_n 3, 1) ∧ 1 + 1 = 2 := by decide +kernel
theorem zi_3_2 : zraw 3 2 = some (.invokevirtual 49, 3) ∧ zmt (zinf 3).1 49 = some 4 ∧ Nat.ble 9000 4 = false ∧ zinf 4 = (0, 2, 3, 1, 0) ∧ 2 + 3 = 5 := by decide +kernel
theorem zi_3_5 : zraw 3 5 = some (.istore 5, 2) ∧ 5 + 2 = 7 := by decide +kernel
theorem zi_3_7 : zraw 3 7 = some (.aload_n 0, 1) ∧ 7 + 1 = 8 := by decide +kernel
theorem zi_3_8 : zraw 3 8 = some (.iload 4, 2) ∧ 8 + 2 = 10 := by decide +kernel
theorem zi_3_10 : zraw 3 10 = some (.invokevirtual 49, 3) ∧ zmt (zinf 3).1 49 = some 4 ∧ Nat.ble 9000 4 = false ∧ zinf 4 = (0, 2, 3, 1, 0) ∧ 10 + 3 = 13 := by decide +kernel
theorem zi_3_13 : zraw 3 13 = some (.istore 6, 2) ∧ 13 + 2 = 15 := by decide +kernel
theorem zi_3_15 : zraw 3 15 = some (.aload_n 1, 1) ∧ 15 + 1 = 16 := by decide +kernel
theorem zi_3_16 : zraw 3 16 = some (.iload_n 2, 1) ∧ 16 + 1 = 17 := by decide +kernel
theorem zi_3_17 : zraw 3 17 = some (.invokevirtual 53, 3) ∧ zmt (zinf 3).1 53 = some 57 ∧ Nat.ble 9000 57 = false ∧ zinf 57 = (5, 2, 2, 2, 0) ∧ 17 + 3 = 20 := by decide +kernel
theorem zi_3_20 : zraw 3 20 = some (.ifCond .eq 9, 3) ∧ ((20 : Nat) : Int) + 9 = Int.ofNat 29 ∧ 20 + 3 = 23 := by decide +kernel
theorem zi_3_23 : zraw 3 23 = some (.iload 5, 2) ∧ 23 + 2 = 25 := by decide +kernel
theorem zi_3_25 : zraw 3 25 = some (.iconst (-1), 1) ∧ zin 128 (-1) = true ∧ 25 + 1 = 26 := by decide +kernel
theorem zi_3_26 : zraw 3 26 = some (.if_icmp .eq 17, 3) ∧ ((26 : Nat) : Int) + 17 = Int.ofNat 43 ∧ 26 + 3 = 29 := by decide +kernel
theorem zi_3_29 : zraw 3 29 = some (.aload_n 1, 1) ∧ 29 + 1 = 30 := by decide +kernel
theorem zi_3_30 : zraw 3 30 = some (.iload_n 2, 1) ∧ 30 + 1 = 31 := by decide +kernel
theorem zi_3_31 : zraw 3 31 = some (.invokevirtual 59, 3) ∧ zmt (zinf 3).1 59 = some 58 ∧ Nat.ble 9000 58 = false ∧ zinf 58 = (5, 2, 2, 2, 0) ∧ 31 + 3 = 34 := by decide +kernel
theorem zi_3_34 : zraw 3 34 = some (.ifCond .eq 11, 3) ∧ ((34 : Nat) : Int) + 11 = Int.ofNat 45 ∧ 34 + 3 = 37 := by decide +kernel
theorem zi_3_37 : zraw 3 37 = some (.iload 6, 2) ∧ 37 + 2 = 39 := by decide +kernel
theorem zi_3_39 : zraw 3 39 = some (.iconst (-1), 1) ∧ zin 128 (-1) = true ∧ 39 + 1 = 40 := by decide +kernel
theorem zi_3_40 : zraw 3 40 = some (.if_icmp .ne 5, 3) ∧ ((40 : Nat) : Int) + 5 = Int.ofNat 45 ∧ 40 + 3 = 43 := by decide +kernel
theorem zi_3_43 : zraw 3 43 = some (.iconst 0, 1) ∧ zin 128 0 = true ∧ 43 + 1 = 44 := by decide +kernel
theorem zi_3_44 : zraw 3 44 = some (.ireturn, 1) ∧ (zinf 3).2.2.2.1 = 2 := by decide +kernel
theorem zi_3_45 : zraw 3 45 = some (.aload_n 0, 1) ∧ 45 + 1 = 46 := by decide +kernel
theorem zi_3_46 : zraw 3 46 = some (.dup, 1) ∧ 46 + 1 = 47 := by decide +kernel
theorem zi_3_47 : zraw 3 47 = some (.getfield 43, 3) ∧ zft (zinf 3).1 43 = some (0, 9, 0, false) ∧ 47 + 3 = 50 := by decide +kernel
theorem zi_3_50 : zraw 3 50 = some (.iconst 1, 1) ∧ zin 128 1 = true ∧ 50 + 1 = 51 := by decide +kernel
theorem zi_3_51 : zraw 3 51 = some (.iadd, 1) ∧ 51 + 1 = 52 := by decide +kernel
theorem zi_3_52 : zraw 3 52 = some (.putfield 43, 3) ∧ zft (zinf 3).1 43 = some (0, 9, 0, false) ∧ 52 + 3 = 55 := by decide +kernel
theorem zi_3_55 : zraw 3 55 = some (.aload_n 1, 1) ∧ 55 + 1 = 56 := by decide +kernel
theorem zi_3_56 : zraw 3 56 = some (.getfield 62, 3) ∧ zft (zinf 3).1 62 = some (5, 0, 3, true) ∧ 56 + 3 = 59 := by decide +kernel
theorem zi_3_59 : zraw 3 59 = some (.iload_n 2, 1) ∧ 59 + 1 = 60 := by decide +kernel
theorem zi_3_60 : zraw 3 60 = some (.iaload, 1) ∧ 60 + 1 = 61 := by decide +kernel
theorem zi_3_61 : zraw 3 61 = some (.tableswitch 115 0 5 #[39, 54, 61, 68, 81, 100], 39) ∧ (zpos 61 115 && ((#[39, 54, 61, 68, 81, 100] : Array Int).toList.all (zpos 61) && decide ((5 : Int) = 0 + (((#[39, 54, 61, 68, 81, 100] : Array Int).toList.length : Nat) : Int) - 1))) = true := by decide +kernel
theorem zi_3_100 : zraw 3 100 = some (.aload_n 0, 1) ∧ 100 + 1 = 101 := by decide +kernel
theorem zi_3_101 : zraw 3 101 = some (.getfield 9, 3) ∧ zft (zinf 3).1 9 = some (0, 0, 3, true) ∧ 101 + 3 = 104 := by decide +kernel
theorem zi_3_104 : zraw 3 104 = some (.iload 5, 2) ∧ 104 + 2 = 106 := by decide +kernel
theorem zi_3_106 : zraw 3 106 = some (.aload_n 1, 1) ∧ 106 + 1 = 107 := by decide +kernel
theorem zi_3_107 : zraw 3 107 = some (.getfield 65, 3) ∧ zft (zinf 3).1 65 = some (5, 3, 3, true) ∧ 107 + 3 = 110 := by decide +kernel
theorem zi_3_110 : zraw 3 110 = some (.iload_n 2, 1) ∧ 110 + 1 = 111 := by decide +kernel
theorem zi_3_111 : zraw 3 111 = some (.laload, 1) ∧ 111 + 1 = 112 := by decide +kernel
theorem zi_3_112 : zraw 3 112 = some (.lastore, 1) ∧ 112 + 1 = 113 := by decide +kernel
theorem zi_3_113 : zraw 3 113 = some (.iconst 1, 1) ∧ zin 128 1 = true ∧ 113 + 1 = 114 := by decide +kernel
theorem zi_3_114 : zraw 3 114 = some (.ireturn, 1) ∧ (zinf 3).2.2.2.1 = 2 := by decide +kernel
theorem zi_3_115 : zraw 3 115 = some (.aload_n 0, 1) ∧ 115 + 1 = 116 := by decide +kernel
theorem zi_3_116 : zraw 3 116 = some (.iload 5, 2) ∧ 116 + 2 = 118 := by decide +kernel
theorem zi_3_118 : zraw 3 118 = some (.invokevirtual 66, 3) ∧ zmt (zinf 3).1 66 = some 11 ∧ Nat.ble 9000 11 = false ∧ zinf 11 = (0, 2, 3, 2, 0) ∧ 118 + 3 = 121 := by decide +kernel
theorem zi_3_121 : zraw 3 121 = some (.ireturn, 1) ∧ (zinf 3).2.2.2.1 = 2 := by decide +kernel
theorem zi_3_122 : zraw 3 122 = some (.aload_n 0, 1) ∧ 122 + 1 = 123 := by decide +kernel
theorem zi_3_123 : zraw 3 123 = some (.iload 5, 2) ∧ 123 + 2 = 125 := by decide +kernel
theorem zi_3_125 : zraw 3 125 = some (.invokevirtual 69, 3) ∧ zmt (zinf 3).1 69 = some 13 ∧ Nat.ble 9000 13 = false ∧ zinf 13 = (0, 2, 4, 2, 0) ∧ 125 + 3 = 128 := by decide +kernel
theorem zi_3_128 : zraw 3 128 = some (.ireturn, 1) ∧ (zinf 3).2.2.2.1 = 2 := by decide +kernel
theorem zi_3_129 : zraw 3 129 = some (.aload_n 0, 1) ∧ 129 + 1 = 130 := by decide +kernel
theorem zi_3_130 : zraw 3 130 = some (.iload 5, 2) ∧ 130 + 2 = 132 := by decide +kernel
theorem zi_3_132 : zraw 3 132 = some (.aload_n 1, 1) ∧ 132 + 1 = 133 := by decide +kernel
theorem zi_3_133 : zraw 3 133 = some (.getfield 65, 3) ∧ zft (zinf 3).1 65 = some (5, 3, 3, true) ∧ 133 + 3 = 136 := by decide +kernel
theorem zi_3_136 : zraw 3 136 = some (.iload_n 2, 1) ∧ 136 + 1 = 137 := by decide +kernel
theorem zi_3_137 : zraw 3 137 = some (.laload, 1) ∧ 137 + 1 = 138 := by decide +kernel
theorem zi_3_138 : zraw 3 138 = some (.invokevirtual 72, 3) ∧ zmt (zinf 3).1 72 = some 14 ∧ Nat.ble 9000 14 = false ∧ zinf 14 = (0, 3, 7, 2, 0) ∧ 138 + 3 = 141 := by decide +kernel
theorem zi_3_141 : zraw 3 141 = some (.ireturn, 1) ∧ (zinf 3).2.2.2.1 = 2 := by decide +kernel
theorem zi_3_142 : zraw 3 142 = some (.aload_n 0, 1) ∧ 142 + 1 = 143 := by decide +kernel
theorem zi_3_143 : zraw 3 143 = some (.aload_n 1, 1) ∧ 143 + 1 = 144 := by decide +kernel
theorem zi_3_144 : zraw 3 144 = some (.getfield 65, 3) ∧ zft (zinf 3).1 65 = some (5, 3, 3, true) ∧ 144 + 3 = 147 := by decide +kernel
theorem zi_3_147 : zraw 3 147 = some (.iload_n 2, 1) ∧ 147 + 1 = 148 := by decide +kernel
theorem zi_3_148 : zraw 3 148 = some (.laload, 1) ∧ 148 + 1 = 149 := by decide +kernel
theorem zi_3_149 : zraw 3 149 = some (.aload_n 1, 1) ∧ 149 + 1 = 150 := by decide +kernel
theorem zi_3_150 : zraw 3 150 = some (.getfield 76, 3) ∧ zft (zinf 3).1 76 = some (5, 4, 3, true) ∧ 150 + 3 = 153 := by decide +kernel
theorem zi_3_153 : zraw 3 153 = some (.iload_n 2, 1) ∧ 153 + 1 = 154 := by decide +kernel
theorem zi_3_154 : zraw 3 154 = some (.iaload, 1) ∧ 154 + 1 = 155 := by decide +kernel
theorem zi_3_155 : zraw 3 155 = some (.iload 6, 2) ∧ 155 + 2 = 157 := by decide +kernel
theorem zi_3_157 : zraw 3 157 = some (.invokevirtual 79, 3) ∧ zmt (zinf 3).1 79 = some 18 ∧ Nat.ble 9000 18 = false ∧ zinf 18 = (0, 4, 7, 2, 0) ∧ 157 + 3 = 160 := by decide +kernel
theorem zi_3_160 : zraw 3 160 = some (.ireturn, 1) ∧ (zinf 3).2.2.2.1 = 2 := by decide +kernel
theorem zi_3_161 : zraw 3 161 = some (.aload_n 0, 1) ∧ 161 + 1 = 162 := by decide +kernel
theorem zi_3_162 : zraw 3 162 = some (.iload 5, 2) ∧ 162 + 2 = 164 := by decide +kernel
theorem zi_3_164 : zraw 3 164 = some (.aload_n 1, 1) ∧ 164 + 1 = 165 := by decide +kernel
theorem zi_3_165 : zraw 3 165 = some (.getfield 76, 3) ∧ zft (zinf 3).1 76 = some (5, 4, 3, true) ∧ 165 + 3 = 168 := by decide +kernel
theorem zi_3_168 : zraw 3 168 = some (.iload_n 2, 1) ∧ 168 + 1 = 169 := by decide +kernel
theorem zi_3_169 : zraw 3 169 = some (.iaload, 1) ∧ 169 + 1 = 170 := by decide +kernel
theorem zi_3_170 : zraw 3 170 = some (.iload 6, 2) ∧ 170 + 2 = 172 := by decide +kernel
theorem zi_3_172 : zraw 3 172 = some (.invokevirtual 83, 3) ∧ zmt (zinf 3).1 83 = some 19 ∧ Nat.ble 9000 19 = false ∧ zinf 19 = (0, 4, 9, 2, 0) ∧ 172 + 3 = 175 := by decide +kernel
theorem zi_3_175 : zraw 3 175 = some (.ireturn, 1) ∧ (zinf 3).2.2.2.1 = 2 := by decide +kernel
theorem zi_3_176 : zraw 3 176 = some (.iconst 0, 1) ∧ zin 128 0 = true ∧ 176 + 1 = 177 := by decide +kernel
theorem zi_3_177 : zraw 3 177 = some (.ireturn, 1) ∧ (zinf 3).2.2.2.1 = 2 := by decide +kernel
theorem ze_3 {K : List zF} {σ : zW} {x1 : Nat} {x2 : Int} {x3 : Int} {x4 : Int} (hK : K.length < 60) : zEv true (zent 3 [.inr (.inr 54), .inr (.inr x1), .inl x2, .inl x3, .inl x4] :: K) σ = (zEv true (zent 4 [.inr (.inr 54), .inl x3] :: (3, 5, [some (.inr (.inr 54)), some (.inr (.inr x1)), some (.inl x2), some (.inl x3), some (.inl x4), none, none], []) :: K) σ) :=
  yT_en (f := (3, 0, [some (.inr (.inr 54)), some (.inr (.inr x1)), some (.inl x2), some (.inl x3), some (.inl x4), none, none], [])) rfl (yI_aload_n zi_3_0 rfl <| yI_iload_n zi_3_1 rfl <| yI_cv zi_3_2 rfl rfl zk_54 hK)
theorem zr_3_5 {K : List zF} {σ : zW} {x1 : Nat} {x2 : Int} {o3 : Option zV} {x4 : Int} {o5 : Option zV} {o6 : Option zV} {v : Int} (hK : K.length < 60) : zRet true ((3, 5, [some (.inr (.inr 54)), some (.inr (.inr x1)), some (.inl x2), o3, some (.inl x4), o5, o6], []) :: K) (some (.inl v)) σ = (zEv true (zent 4 [.inr (.inr 54), .inl x4] :: (3, 13, [some (.inr (.inr 54)), some (.inr (.inr x1)), some (.inl x2), o3, some (.inl x4), some (.inl v), o6], []) :: K) σ) :=
  yT_rt (yI_istore (l := [some (.inr (.inr 54)), some (.inr (.inr x1)), some (.inl x2), o3, some (.inl x4), some (.inl v), o6]) zi_3_5 rfl rfl <| yI_aload_n zi_3_7 rfl <| yI_iload zi_3_8 rfl <| yI_cv zi_3_10 rfl rfl zk_54 hK)
theorem zr_3_13 {K : List zF} {σ : zW} {x1 : Nat} {x2 : Int} {o3 : Option zV} {o4 : Option zV} {x5 : Int} {o6 : Option zV} {v : Int} (hK : K.length < 60) (h1 : zSc x1) : zRet true ((3, 13, [some (.inr (.inr 54)), some (.inr (.inr x1)), some (.inl x2), o3, o4, some (.inl x5), o6], []) :: K) (some (.inl v)) σ = (zEv true (zent 57 [.inr (.inr x1), .inl x2] :: (3, 20, [some (.inr (.inr 54)), some (.inr (.inr x1)), some (.inl x2), o3, o4, some (.inl x5), some (.inl v)], []) :: K) σ) :=
  yT_rt (yI_istore (l := [some (.inr (.inr 54)), some (.inr (.inr x1)), some (.inl x2), o3, o4, some (.inl x5), some (.inl v)]) zi_3_13 rfl rfl <| yI_aload_n zi_3_15 rfl <| yI_iload_n zi_3_16 rfl <| yI_cv zi_3_17 rfl rfl (zSc_k h1) hK)
theorem zr_3_20 {K : List zF} {σ : zW} {x1 : Nat} {x2 : Int} {o3 : Option zV} {o4 : Option zV} {x5 : Int} {x6 : Int} {v : Int} : zRet true ((3, 20, [some (.inr (.inr 54)), some (.inr (.inr x1)), some (.inl x2), o3, o4, some (.inl x5), some (.inl x6)], []) :: K) (some (.inl v)) σ = (if v = 0 then zEv true ((3, 29, [some (.inr (.inr 54)), some (.inr (.inr x1)), some (.inl x2), o3, o4, some (.inl x5), some (.inl x6)], []) :: K) σ else if x5 = (-1) then zRet true K (some (.inl 0)) σ else zEv true ((3, 29, [some (.inr (.inr 54)), some (.inr (.inr x1)), some (.inl x2), o3, o4, some (.inl x5), some (.inl x6)], []) :: K) σ) :=
  yT_rt (yI_if_eq zi_3_20 <| yBr (rfl) (yI_iload zi_3_23 rfl <| yI_iconst zi_3_25 <| yI_ic_eq zi_3_26 <| yBr (yI_iconst zi_3_43 <| yI_zreturn zi_3_44 (by decide)) (rfl)))
theorem zj_3_29 {K : List zF} {σ : zW} {x1 : Nat} {x2 : Int} {o3 : Option zV} {o4 : Option zV} {x5 : Int} {x6 : Int} (hK : K.length < 60) (h1 : zSc x1) : zEv true ((3, 29, [some (.inr (.inr 54)), some (.inr (.inr x1)), some (.inl x2), o3, o4, some (.inl x5), some (.inl x6)], []) :: K) σ = (zEv true (zent 58 [.inr (.inr x1), .inl x2] :: (3, 34, [some (.inr (.inr 54)), some (.inr (.inr x1)), some (.inl x2), o3, o4, some (.inl x5), some (.inl x6)], []) :: K) σ) :=
  yI_aload_n zi_3_29 rfl <| yI_iload_n zi_3_30 rfl <| yI_cv zi_3_31 rfl rfl (zSc_k h1) hK
theorem zr_3_34 {K : List zF} {σ : zW} {x1 : Nat} {x2 : Int} {o3 : Option zV} {o4 : Option zV} {x5 : Int} {x6 : Int} {v : Int} : zRet true ((3, 34, [some (.inr (.inr 54)), some (.inr (.inr x1)), some (.inl x2), o3, o4, some (.inl x5), some (.inl x6)], []) :: K) (some (.inl v)) σ = (if v = 0 then zEv true ((3, 45, [some (.inr (.inr 54)), some (.inr (.inr x1)), some (.inl x2), o3, o4, some (.inl x5), some (.inl x6)], []) :: K) σ else if ¬ x6 = (-1) then zEv true ((3, 45, [some (.inr (.inr 54)), some (.inr (.inr x1)), some (.inl x2), o3, o4, some (.inl x5), some (.inl x6)], []) :: K) σ else zRet true K (some (.inl 0)) σ) :=
  yT_rt (yI_if_eq zi_3_34 <| yBr (rfl) (yI_iload zi_3_37 rfl <| yI_iconst zi_3_39 <| yI_ic_ne zi_3_40 <| yBr (rfl) (yI_iconst zi_3_43 <| yI_zreturn zi_3_44 (by decide))))
theorem zj_3_45 {K : List zF} {σ : zW} {x1 : Nat} {x2 : Int} {o3 : Option zV} {o4 : Option zV} {x5 : Int} {x6 : Int} (hK : K.length < 60) (h1 : zSc x1) : zEv true ((3, 45, [some (.inr (.inr 54)), some (.inr (.inr x1)), some (.inl x2), o3, o4, some (.inl x5), some (.inl x6)], []) :: K) σ = ((0 ≤ x2 ∧ x2 < 8) ∧ (if (gI (sI σ 54 9 (w32 ((gI σ 54 9) + 1))) (x1 + 1) x2.toNat) = 0 then (0 ≤ x2 ∧ x2 < 8) ∧ ((0 ≤ x5 ∧ x5 < 20) ∧ zRet true K (some (.inl 1)) (sL (sI σ 54 9 (w32 ((gI σ 54 9) + 1))) 55 x5.toNat (gL σ (x1 + 4) x2.toNat))) else if (gI (sI σ 54 9 (w32 ((gI σ 54 9) + 1))) (x1 + 1) x2.toNat) = 1 then zEv true (zent 11 [.inr (.inr 54), .inl x5] :: (3, 121, [some (.inr (.inr 54)), some (.inr (.inr x1)), some (.inl x2), o3, o4, some (.inl x5), some (.inl x6)], []) :: K) (sI σ 54 9 (w32 ((gI σ 54 9) + 1))) else if (gI (sI σ 54 9 (w32 ((gI σ 54 9) + 1))) (x1 + 1) x2.toNat) = 2 then zEv true (zent 13 [.inr (.inr 54), .inl x5] :: (3, 128, [some (.inr (.inr 54)), some (.inr (.inr x1)), some (.inl x2), o3, o4, some (.inl x5), some (.inl x6)], []) :: K) (sI σ 54 9 (w32 ((gI σ 54 9) + 1))) else if (gI (sI σ 54 9 (w32 ((gI σ 54 9) + 1))) (x1 + 1) x2.toNat) = 3 then (0 ≤ x2 ∧ x2 < 8) ∧ zEv true (zent 14 [.inr (.inr 54), .inl x5, .inr (.inl (gL σ (x1 + 4) x2.toNat))] :: (3, 141, [some (.inr (.inr 54)), some (.inr (.inr x1)), some (.inl x2), o3, o4, some (.inl x5), some (.inl x6)], []) :: K) (sI σ 54 9 (w32 ((gI σ 54 9) + 1))) else if (gI (sI σ 54 9 (w32 ((gI σ 54 9) + 1))) (x1 + 1) x2.toNat) = 4 then (0 ≤ x2 ∧ x2 < 8) ∧ ((0 ≤ x2 ∧ x2 < 8) ∧ zEv true (zent 18 [.inr (.inr 54), .inr (.inl (gL σ (x1 + 4) x2.toNat)), .inl (gI (sI σ 54 9 (w32 ((gI σ 54 9) + 1))) (x1 + 5) x2.toNat), .inl x6] :: (3, 160, [some (.inr (.inr 54)), some (.inr (.inr x1)), some (.inl x2), o3, o4, some (.inl x5), some (.inl x6)], []) :: K) (sI σ 54 9 (w32 ((gI σ 54 9) + 1)))) else if (gI (sI σ 54 9 (w32 ((gI σ 54 9) + 1))) (x1 + 1) x2.toNat) = 5 then (0 ≤ x2 ∧ x2 < 8) ∧ zEv true (zent 19 [.inr (.inr 54), .inl x5, .inl (gI (sI σ 54 9 (w32 ((gI σ 54 9) + 1))) (x1 + 5) x2.toNat), .inl x6] :: (3, 175, [some (.inr (.inr 54)), some (.inr (.inr x1)), some (.inl x2), o3, o4, some (.inl x5), some (.inl x6)], []) :: K) (sI σ 54 9 (w32 ((gI σ 54 9) + 1))) else zRet true K (some (.inl 0)) (sI σ 54 9 (w32 ((gI σ 54 9) + 1))))) :=
  yI_aload_n zi_3_45 rfl <| yI_dup_r zi_3_46 <| yI_gf_i (v := gI σ 54 9) zi_3_47 zk_54 rfl <| yI_iconst zi_3_50 <| yI_iadd zi_3_51 <| yI_pf_i zi_3_52 zk_54 <| yI_aload_n zi_3_55 rfl <| yI_gf_f (v := x1 + 1) zi_3_56 (zSc_k h1) rfl <| yI_iload_n zi_3_59 rfl <| yI_ialoadc (v := gI (sI σ 54 9 (w32 ((gI σ 54 9) + 1))) (x1 + 1) x2.toNat) zi_3_60 (zSc_a1 h1) rfl <| yI_tsw (q := if (gI (sI σ 54 9 (w32 ((gI σ 54 9) + 1))) (x1 + 1) x2.toNat) = 0 then 100 else if (gI (sI σ 54 9 (w32 ((gI σ 54 9) + 1))) (x1 + 1) x2.toNat) = 1 then 115 else if (gI (sI σ 54 9 (w32 ((gI σ 54 9) + 1))) (x1 + 1) x2.toNat) = 2 then 122 else if (gI (sI σ 54 9 (w32 ((gI σ 54 9) + 1))) (x1 + 1) x2.toNat) = 3 then 129 else if (gI (sI σ 54 9 (w32 ((gI σ 54 9) + 1))) (x1 + 1) x2.toNat) = 4 then 142 else if (gI (sI σ 54 9 (w32 ((gI σ 54 9) + 1))) (x1 + 1) x2.toNat) = 5 then 161 else 176) zi_3_61 (by with_unfolding_all rfl) <| yBr (yI_aload_n zi_3_100 rfl <| yI_gf_f (v := 55) zi_3_101 zk_54 rfl <| yI_iload zi_3_104 rfl <| yI_aload_n zi_3_106 rfl <| yI_gf_f (v := x1 + 4) zi_3_107 (zSc_k h1) rfl <| yI_iload_n zi_3_110 rfl <| yI_laloadc (v := gL σ (x1 + 4) x2.toNat) zi_3_111 (zSc_a4 h1) rfl <| yI_lastorec zi_3_112 za_55 <| yI_iconst zi_3_113 <| yI_zreturn zi_3_114 (by decide)) (yBr (yI_aload_n zi_3_115 rfl <| yI_iload zi_3_116 rfl <| yI_cv zi_3_118 rfl rfl zk_54 hK) (yBr (yI_aload_n zi_3_122 rfl <| yI_iload zi_3_123 rfl <| yI_cv zi_3_125 rfl rfl zk_54 hK) (yBr (yI_aload_n zi_3_129 rfl <| yI_iload zi_3_130 rfl <| yI_aload_n zi_3_132 rfl <| yI_gf_f (v := x1 + 4) zi_3_133 (zSc_k h1) rfl <| yI_iload_n zi_3_136 rfl <| yI_laloadc (v := gL σ (x1 + 4) x2.toNat) zi_3_137 (zSc_a4 h1) rfl <| yI_cv zi_3_138 rfl rfl zk_54 hK) (yBr (yI_aload_n zi_3_142 rfl <| yI_aload_n zi_3_143 rfl <| yI_gf_f (v := x1 + 4) zi_3_144 (zSc_k h1) rfl <| yI_iload_n zi_3_147 rfl <| yI_laloadc (v := gL σ (x1 + 4) x2.toNat) zi_3_148 (zSc_a4 h1) rfl <| yI_aload_n zi_3_149 rfl <| yI_gf_f (v := x1 + 5) zi_3_150 (zSc_k h1) rfl <| yI_iload_n zi_3_153 rfl <| yI_ialoadc (v := gI (sI σ 54 9 (w32 ((gI σ 54 9) + 1))) (x1 + 5) x2.toNat) zi_3_154 (zSc_a5 h1) rfl <| yI_iload zi_3_155 rfl <| yI_cv zi_3_157 rfl rfl zk_54 hK) (yBr (yI_aload_n zi_3_161 rfl <| yI_iload zi_3_162 rfl <| yI_aload_n zi_3_164 rfl <| yI_gf_f (v := x1 + 5) zi_3_165 (zSc_k h1) rfl <| yI_iload_n zi_3_168 rfl <| yI_ialoadc (v := gI (sI σ 54 9 (w32 ((gI σ 54 9) + 1))) (x1 + 5) x2.toNat) zi_3_169 (zSc_a5 h1) rfl <| yI_iload zi_3_170 rfl <| yI_cv zi_3_172 rfl rfl zk_54 hK) (yI_iconst zi_3_176 <| yI_zreturn zi_3_177 (by decide)))))))
theorem zr_3_121 {K : List zF} {σ : zW} {o0 : Option zV} {o1 : Option zV} {o2 : Option zV} {o3 : Option zV} {o4 : Option zV} {o5 : Option zV} {o6 : Option zV} {v : Int} : zRet true ((3, 121, [o0, o1, o2, o3, o4, o5, o6], []) :: K) (some (.inl v)) σ = ((v = 0 ∨ v = 1) ∧ zRet true K (some (.inl v)) σ) :=
  yT_rt (yI_zreturnc zi_3_121)
theorem zr_3_128 {K : List zF} {σ : zW} {o0 : Option zV} {o1 : Option zV} {o2 : Option zV} {o3 : Option zV} {o4 : Option zV} {o5 : Option zV} {o6 : Option zV} {v : Int} : zRet true ((3, 128, [o0, o1, o2, o3, o4, o5, o6], []) :: K) (some (.inl v)) σ = ((v = 0 ∨ v = 1) ∧ zRet true K (some (.inl v)) σ) :=
  yT_rt (yI_zreturnc zi_3_128)
theorem zr_3_141 {K : List zF} {σ : zW} {o0 : Option zV} {o1 : Option zV} {o2 : Option zV} {o3 : Option zV} {o4 : Option zV} {o5 : Option zV} {o6 : Option zV} {v : Int} : zRet true ((3, 141, [o0, o1, o2, o3, o4, o5, o6], []) :: K) (some (.inl v)) σ = ((v = 0 ∨ v = 1) ∧ zRet true K (some (.inl v)) σ) :=
  yT_rt (yI_zreturnc zi_3_141)
theorem zr_3_160 {K : List zF} {σ : zW} {o0 : Option zV} {o1 : Option zV} {o2 : Option zV} {o3 : Option zV} {o4 : Option zV} {o5 : Option zV} {o6 : Option zV} {v : Int} : zRet true ((3, 160, [o0, o1, o2, o3, o4, o5, o6], []) :: K) (some (.inl v)) σ = ((v = 0 ∨ v = 1) ∧ zRet true K (some (.inl v)) σ) :=
  yT_rt (yI_zreturnc zi_3_160)
theorem zr_3_175 {K : List zF} {σ : zW} {o0 : Option zV} {o1 : Option zV} {o2 : Option zV} {o3 : Option zV} {o4 : Option zV} {o5 : Option zV} {o6 : Option zV} {v : Int} : zRet true ((3, 175, [o0, o1, o2, o3, o4, o5, o6], []) :: K) (some (.inl v)) σ = ((v = 0 ∨ v = 1) ∧ zRet true K (some (.inl v)) σ) :=
  yT_rt (yI_zreturnc zi_3_175)
/-- 4 Treegrab$Bench.spotOf(I)I -/
theorem zi_4_0 : zraw 4 0 = some (.iconst 0, 1) ∧ zin 128 0 = true ∧ 0 + 1 = 1 := by decide +kernel
theorem zi_4_1 : zraw 4 1 = some (.istore_n 2, 1) ∧ 1 + 1 = 2 := by decide +kernel
theorem zi_4_2 : zraw 4 2 = some (.iload_n 2, 1) ∧ 2 + 1 = 3 := by decide +kernel
theorem zi_4_3 : zraw 4 3 = some (.aload_n 0, 1) ∧ 3 + 1 = 4 := by decide +kernel
theorem zi_4_4 : zraw 4 4 = some (.getfield 37, 3) ∧ zft (zinf 4).1 37 = some (0, 6, 0, false) ∧ 4 + 3 = 7 := by decide +kernel
theorem zi_4_7 : zraw 4 7 = some (.if_icmp .ge 21, 3) ∧ ((7 : Nat) : Int) + 21 = Int.ofNat 28 ∧ 7 + 3 = 10 := by decide +kernel
theorem zi_4_10 : zraw 4 10 = some (.aload_n 0, 1) ∧ 10 + 1 = 11 := by decide +kernel
theorem zi_4_11 : zraw 4 11 = some (.getfield 19, 3) ∧ zft (zinf 4).1 19 = some (0, 2, 3, true) ∧ 11 + 3 = 14 := by decide +kernel
theorem zi_4_14 : zraw 4 14 = some (.iload_n 2, 1) ∧ 14 + 1 = 15 := by decide +kernel
theorem zi_4_15 : zraw 4 15 = some (.iaload, 1) ∧ 15 + 1 = 16 := by decide +kernel
theorem zi_4_16 : zraw 4 16 = some (.iload_n 1, 1) ∧ 16 + 1 = 17 := by decide +kernel
theorem zi_4_17 : zraw 4 17 = some (.if_icmp .ne 5, 3) ∧ ((17 : Nat) : Int) + 5 = Int.ofNat 22 ∧ 17 + 3 = 20 := by decide +kernel
theorem zi_4_20 : zraw 4 20 = some (.iload_n 2, 1) ∧ 20 + 1 = 21 := by decide +kernel
theorem zi_4_21 : zraw 4 21 = some (.ireturn, 1) ∧ (zinf 4).2.2.2.1 = 1 := by decide +kernel
theorem zi_4_22 : zraw 4 22 = some (.iinc 2 1, 3) ∧ zin 32768 1 = true ∧ 22 + 3 = 25 := by decide +kernel
theorem zi_4_25 : zraw 4 25 = some (.goto (-23), 3) ∧ ((25 : Nat) : Int) + (-23) = Int.ofNat 2 := by decide +kernel
theorem zi_4_28 : zraw 4 28 = some (.iconst (-1), 1) ∧ zin 128 (-1) = true ∧ 28 + 1 = 29 := by decide +kernel
theorem zi_4_29 : zraw 4 29 = some (.ireturn, 1) ∧ (zinf 4).2.2.2.1 = 1 := by decide +kernel
theorem ze_4 {K : List zF} {σ : zW} {x1 : Int} : zEv true (zent 4 [.inr (.inr 54), .inl x1] :: K) σ = (zEv true ((4, 2, [some (.inr (.inr 54)), some (.inl x1), some (.inl 0)], []) :: K) σ) :=
  yT_en (f := (4, 0, [some (.inr (.inr 54)), some (.inl x1), none], [])) rfl (yI_iconst zi_4_0 <| yI_istore_n (l := [some (.inr (.inr 54)), some (.inl x1), some (.inl 0)]) zi_4_1 rfl rfl <| rfl)
theorem zj_4_2 {K : List zF} {σ : zW} {x1 : Int} {x2 : Int} : zEv true ((4, 2, [some (.inr (.inr 54)), some (.inl x1), some (.inl x2)], []) :: K) σ = (if (gI σ 54 6) ≤ x2 then zRet true K (some (.inl (-1))) σ else (0 ≤ x2 ∧ x2 < 20) ∧ (if ¬ (gI σ 57 x2.toNat) = x1 then zEv true ((4, 2, [some (.inr (.inr 54)), some (.inl x1), some (.inl (w32 (x2 + 1)))], []) :: K) σ else zRet true K (some (.inl x2)) σ)) :=
  yI_iload_n zi_4_2 rfl <| yI_aload_n zi_4_3 rfl <| yI_gf_i (v := gI σ 54 6) zi_4_4 zk_54 rfl <| yI_ic_ge zi_4_7 <| yBr (yI_iconst zi_4_28 <| yI_ireturn zi_4_29) (yI_aload_n zi_4_10 rfl <| yI_gf_f (v := 57) zi_4_11 zk_54 rfl <| yI_iload_n zi_4_14 rfl <| yI_ialoadc (v := gI σ 57 x2.toNat) zi_4_15 za_57 rfl <| yI_iload_n zi_4_16 rfl <| yI_ic_ne zi_4_17 <| yBr (yI_iinc (l := [some (.inr (.inr 54)), some (.inl x1), some (.inl (w32 (x2 + 1)))]) zi_4_22 rfl rfl rfl <| yI_goto zi_4_25 <| rfl) (yI_iload_n zi_4_20 rfl <| yI_ireturn zi_4_21))
/-- 5 Treegrab$Bench.pastOf(I)I -/
theorem zi_5_0 : zraw 5 0 = some (.iload_n 1, 1) ∧ 0 + 1 = 1 := by decide +kernel
theorem zi_5_1 : zraw 5 1 = some (.iconst 1, 1) ∧ zin 128 1 = true ∧ 1 + 1 = 2 := by decide +kernel
theorem zi_5_2 : zraw 5 2 = some (.iadd, 1) ∧ 2 + 1 = 3 := by decide +kernel
theorem zi_5_3 : zraw 5 3 = some (.istore_n 2, 1) ∧ 3 + 1 = 4 := by decide +kernel
theorem zi_5_4 : zraw 5 4 = some (.iload_n 2, 1) ∧ 4 + 1 = 5 := by decide +kernel
theorem zi_5_5 : zraw 5 5 = some (.aload_n 0, 1) ∧ 5 + 1 = 6 := by decide +kernel
theorem zi_5_6 : zraw 5 6 = some (.getfield 37, 3) ∧ zft (zinf 5).1 37 = some (0, 6, 0, false) ∧ 6 + 3 = 9 := by decide +kernel
theorem zi_5_9 : zraw 5 9 = some (.if_icmp .ge 24, 3) ∧ ((9 : Nat) : Int) + 24 = Int.ofNat 33 ∧ 9 + 3 = 12 := by decide +kernel
theorem zi_5_12 : zraw 5 12 = some (.aload_n 0, 1) ∧ 12 + 1 = 13 := by decide +kernel
theorem zi_5_13 : zraw 5 13 = some (.getfield 15, 3) ∧ zft (zinf 5).1 15 = some (0, 1, 3, true) ∧ 13 + 3 = 16 := by decide +kernel
theorem zi_5_16 : zraw 5 16 = some (.iload_n 2, 1) ∧ 16 + 1 = 17 := by decide +kernel
theorem zi_5_17 : zraw 5 17 = some (.iaload, 1) ∧ 17 + 1 = 18 := by decide +kernel
theorem zi_5_18 : zraw 5 18 = some (.aload_n 0, 1) ∧ 18 + 1 = 19 := by decide +kernel
theorem zi_5_19 : zraw 5 19 = some (.getfield 15, 3) ∧ zft (zinf 5).1 15 = some (0, 1, 3, true) ∧ 19 + 3 = 22 := by decide +kernel
theorem zi_5_22 : zraw 5 22 = some (.iload_n 1, 1) ∧ 22 + 1 = 23 := by decide +kernel
theorem zi_5_23 : zraw 5 23 = some (.iaload, 1) ∧ 23 + 1 = 24 := by decide +kernel
theorem zi_5_24 : zraw 5 24 = some (.if_icmp .le 9, 3) ∧ ((24 : Nat) : Int) + 9 = Int.ofNat 33 ∧ 24 + 3 = 27 := by decide +kernel
theorem zi_5_27 : zraw 5 27 = some (.iinc 2 1, 3) ∧ zin 32768 1 = true ∧ 27 + 3 = 30 := by decide +kernel
theorem zi_5_30 : zraw 5 30 = some (.goto (-26), 3) ∧ ((30 : Nat) : Int) + (-26) = Int.ofNat 4 := by decide +kernel
theorem zi_5_33 : zraw 5 33 = some (.iload_n 2, 1) ∧ 33 + 1 = 34 := by decide +kernel
theorem zi_5_34 : zraw 5 34 = some (.ireturn, 1) ∧ (zinf 5).2.2.2.1 = 1 := by decide +kernel
theorem ze_5 {K : List zF} {σ : zW} {x1 : Int} : zEv true (zent 5 [.inr (.inr 54), .inl x1] :: K) σ = (zEv true ((5, 4, [some (.inr (.inr 54)), some (.inl x1), some (.inl (w32 (x1 + 1)))], []) :: K) σ) :=
  yT_en (f := (5, 0, [some (.inr (.inr 54)), some (.inl x1), none], [])) rfl (yI_iload_n zi_5_0 rfl <| yI_iconst zi_5_1 <| yI_iadd zi_5_2 <| yI_istore_n (l := [some (.inr (.inr 54)), some (.inl x1), some (.inl (w32 (x1 + 1)))]) zi_5_3 rfl rfl <| rfl)
theorem zj_5_4 {K : List zF} {σ : zW} {x1 : Int} {x2 : Int} : zEv true ((5, 4, [some (.inr (.inr 54)), some (.inl x1), some (.inl x2)], []) :: K) σ = (if (gI σ 54 6) ≤ x2 then zRet true K (some (.inl x2)) σ else (0 ≤ x2 ∧ x2 < 20) ∧ ((0 ≤ x1 ∧ x1 < 20) ∧ (if (gI σ 56 x2.toNat) ≤ (gI σ 56 x1.toNat) then zRet true K (some (.inl x2)) σ else zEv true ((5, 4, [some (.inr (.inr 54)), some (.inl x1), some (.inl (w32 (x2 + 1)))], []) :: K) σ))) :=
  yI_iload_n zi_5_4 rfl <| yI_aload_n zi_5_5 rfl <| yI_gf_i (v := gI σ 54 6) zi_5_6 zk_54 rfl <| yI_ic_ge zi_5_9 <| yBr (yI_iload_n zi_5_33 rfl <| yI_ireturn zi_5_34) (yI_aload_n zi_5_12 rfl <| yI_gf_f (v := 56) zi_5_13 zk_54 rfl <| yI_iload_n zi_5_16 rfl <| yI_ialoadc (v := gI σ 56 x2.toNat) zi_5_17 za_56 rfl <| yI_aload_n zi_5_18 rfl <| yI_gf_f (v := 56) zi_5_19 zk_54 rfl <| yI_iload_n zi_5_22 rfl <| yI_ialoadc (v := gI σ 56 x1.toNat) zi_5_23 za_56 rfl <| yI_ic_le zi_5_24 <| yBr (yI_iload_n zi_5_33 rfl <| yI_ireturn zi_5_34) (yI_iinc (l := [some (.inr (.inr 54)), some (.inl x1), some (.inl (w32 (x2 + 1)))]) zi_5_27 rfl rfl rfl <| yI_goto zi_5_30 <| rfl))
/-- 6 Treegrab$Bench.isWord(I)Z -/
theorem zi_6_0 : zraw 6 0 = some (.aload_n 0, 1) ∧ 0 + 1 = 1 := by decide +kernel
theorem zi_6_1 : zraw 6 1 = some (.iload_n 1, 1) ∧ 1 + 1 = 2 := by decide +kernel
theorem zi_6_2 : zraw 6 2 = some (.invokevirtual 87, 3) ∧ zmt (zinf 6).1 87 = some 5 ∧ Nat.ble 9000 5 = false ∧ zinf 5 = (0, 2, 3, 1, 0) ∧ 2 + 3 = 5 := by decide +kernel
theorem zi_6_5 : zraw 6 5 = some (.iload_n 1, 1) ∧ 5 + 1 = 6 := by decide +kernel
theorem zi_6_6 : zraw 6 6 = some (.iconst 1, 1) ∧ zin 128 1 = true ∧ 6 + 1 = 7 := by decide +kernel
theorem zi_6_7 : zraw 6 7 = some (.iadd, 1) ∧ 7 + 1 = 8 := by decide +kernel
theorem zi_6_8 : zraw 6 8 = some (.if_icmp .ne 7, 3) ∧ ((8 : Nat) : Int) + 7 = Int.ofNat 15 ∧ 8 + 3 = 11 := by decide +kernel
theorem zi_6_11 : zraw 6 11 = some (.iconst 1, 1) ∧ zin 128 1 = true ∧ 11 + 1 = 12 := by decide +kernel
theorem zi_6_12 : zraw 6 12 = some (.goto 4, 3) ∧ ((12 : Nat) : Int) + 4 = Int.ofNat 16 := by decide +kernel
theorem zi_6_15 : zraw 6 15 = some (.iconst 0, 1) ∧ zin 128 0 = true ∧ 15 + 1 = 16 := by decide +kernel
theorem zi_6_16 : zraw 6 16 = some (.ireturn, 1) ∧ (zinf 6).2.2.2.1 = 2 := by decide +kernel
theorem ze_6 {K : List zF} {σ : zW} {x1 : Int} (hK : K.length < 60) : zEv true (zent 6 [.inr (.inr 54), .inl x1] :: K) σ = (zEv true (zent 5 [.inr (.inr 54), .inl x1] :: (6, 5, [some (.inr (.inr 54)), some (.inl x1)], []) :: K) σ) :=
  yT_en (f := (6, 0, [some (.inr (.inr 54)), some (.inl x1)], [])) rfl (yI_aload_n zi_6_0 rfl <| yI_iload_n zi_6_1 rfl <| yI_cv zi_6_2 rfl rfl zk_54 hK)
theorem zr_6_5 {K : List zF} {σ : zW} {o0 : Option zV} {x1 : Int} {v : Int} : zRet true ((6, 5, [o0, some (.inl x1)], []) :: K) (some (.inl v)) σ = (if ¬ v = (w32 (x1 + 1)) then zRet true K (some (.inl 0)) σ else zRet true K (some (.inl 1)) σ) :=
  yT_rt (yI_iload_n zi_6_5 rfl <| yI_iconst zi_6_6 <| yI_iadd zi_6_7 <| yI_ic_ne zi_6_8 <| yBr (yI_iconst zi_6_15 <| yI_zreturn zi_6_16 (by decide)) (yI_iconst zi_6_11 <| yI_goto zi_6_12 <| yI_zreturn zi_6_16 (by decide)))
/-- 7 Treegrab$Bench.aboveOf(I)I -/
theorem zi_7_0 : zraw 7 0 = some (.iload_n 1, 1) ∧ 0 + 1 = 1 := by decide +kernel
theorem zi_7_1 : zraw 7 1 = some (.iconst 1, 1) ∧ zin 128 1 = true ∧ 1 + 1 = 2 := by decide +kernel
theorem zi_7_2 : zraw 7 2 = some (.isub, 1) ∧ 2 + 1 = 3 := by decide +kernel
theorem zi_7_3 : zraw 7 3 = some (.istore_n 2, 1) ∧ 3 + 1 = 4 := by decide +kernel
theorem zi_7_4 : zraw 7 4 = some (.iload_n 2, 1) ∧ 4 + 1 = 5 := by decide +kernel
theorem zi_7_5 : zraw 7 5 = some (.ifCond .lt 24, 3) ∧ ((5 : Nat) : Int) + 24 = Int.ofNat 29 ∧ 5 + 3 = 8 := by decide +kernel
theorem zi_7_8 : zraw 7 8 = some (.aload_n 0, 1) ∧ 8 + 1 = 9 := by decide +kernel
theorem zi_7_9 : zraw 7 9 = some (.getfield 15, 3) ∧ zft (zinf 7).1 15 = some (0, 1, 3, true) ∧ 9 + 3 = 12 := by decide +kernel
theorem zi_7_12 : zraw 7 12 = some (.iload_n 2, 1) ∧ 12 + 1 = 13 := by decide +kernel
theorem zi_7_13 : zraw 7 13 = some (.iaload, 1) ∧ 13 + 1 = 14 := by decide +kernel
theorem zi_7_14 : zraw 7 14 = some (.aload_n 0, 1) ∧ 14 + 1 = 15 := by decide +kernel
theorem zi_7_15 : zraw 7 15 = some (.getfield 15, 3) ∧ zft (zinf 7).1 15 = some (0, 1, 3, true) ∧ 15 + 3 = 18 := by decide +kernel
theorem zi_7_18 : zraw 7 18 = some (.iload_n 1, 1) ∧ 18 + 1 = 19 := by decide +kernel
theorem zi_7_19 : zraw 7 19 = some (.iaload, 1) ∧ 19 + 1 = 20 := by decide +kernel
theorem zi_7_20 : zraw 7 20 = some (.if_icmp .lt 9, 3) ∧ ((20 : Nat) : Int) + 9 = Int.ofNat 29 ∧ 20 + 3 = 23 := by decide +kernel
theorem zi_7_23 : zraw 7 23 = some (.iinc 2 (-1), 3) ∧ zin 32768 (-1) = true ∧ 23 + 3 = 26 := by decide +kernel
theorem zi_7_26 : zraw 7 26 = some (.goto (-22), 3) ∧ ((26 : Nat) : Int) + (-22) = Int.ofNat 4 := by decide +kernel
theorem zi_7_29 : zraw 7 29 = some (.iload_n 2, 1) ∧ 29 + 1 = 30 := by decide +kernel
theorem zi_7_30 : zraw 7 30 = some (.ireturn, 1) ∧ (zinf 7).2.2.2.1 = 1 := by decide +kernel
theorem ze_7 {K : List zF} {σ : zW} {x1 : Int} : zEv true (zent 7 [.inr (.inr 54), .inl x1] :: K) σ = (zEv true ((7, 4, [some (.inr (.inr 54)), some (.inl x1), some (.inl (w32 (x1 - 1)))], []) :: K) σ) :=
  yT_en (f := (7, 0, [some (.inr (.inr 54)), some (.inl x1), none], [])) rfl (yI_iload_n zi_7_0 rfl <| yI_iconst zi_7_1 <| yI_isub zi_7_2 <| yI_istore_n (l := [some (.inr (.inr 54)), some (.inl x1), some (.inl (w32 (x1 - 1)))]) zi_7_3 rfl rfl <| rfl)
theorem zj_7_4 {K : List zF} {σ : zW} {x1 : Int} {x2 : Int} : zEv true ((7, 4, [some (.inr (.inr 54)), some (.inl x1), some (.inl x2)], []) :: K) σ = (if x2 < 0 then zRet true K (some (.inl x2)) σ else (0 ≤ x2 ∧ x2 < 20) ∧ ((0 ≤ x1 ∧ x1 < 20) ∧ (if (gI σ 56 x2.toNat) < (gI σ 56 x1.toNat) then zRet true K (some (.inl x2)) σ else zEv true ((7, 4, [some (.inr (.inr 54)), some (.inl x1), some (.inl (w32 (x2 + (-1))))], []) :: K) σ))) :=
  yI_iload_n zi_7_4 rfl <| yI_if_lt zi_7_5 <| yBr (yI_iload_n zi_7_29 rfl <| yI_ireturn zi_7_30) (yI_aload_n zi_7_8 rfl <| yI_gf_f (v := 56) zi_7_9 zk_54 rfl <| yI_iload_n zi_7_12 rfl <| yI_ialoadc (v := gI σ 56 x2.toNat) zi_7_13 za_56 rfl <| yI_aload_n zi_7_14 rfl <| yI_gf_f (v := 56) zi_7_15 zk_54 rfl <| yI_iload_n zi_7_18 rfl <| yI_ialoadc (v := gI σ 56 x1.toNat) zi_7_19 za_56 rfl <| yI_ic_lt zi_7_20 <| yBr (yI_iload_n zi_7_29 rfl <| yI_ireturn zi_7_30) (yI_iinc (l := [some (.inr (.inr 54)), some (.inl x1), some (.inl (w32 (x2 + (-1))))]) zi_7_23 rfl rfl rfl <| yI_goto zi_7_26 <| rfl))
/-- 8 Treegrab$Bench.closeGap(II)V -/
theorem zi_8_0 : zraw 8 0 = some (.iload_n 2, 1) ∧ 0 + 1 = 1 := by decide +kernel
theorem zi_8_1 : zraw 8 1 = some (.iload_n 1, 1) ∧ 1 + 1 = 2 := by decide +kernel
theorem zi_8_2 : zraw 8 2 = some (.isub, 1) ∧ 2 + 1 = 3 := by decide +kernel
theorem zi_8_3 : zraw 8 3 = some (.istore_n 3, 1) ∧ 3 + 1 = 4 := by decide +kernel
theorem zi_8_4 : zraw 8 4 = some (.iload_n 2, 1) ∧ 4 + 1 = 5 := by decide +kernel
theorem zi_8_5 : zraw 8 5 = some (.istore 4, 2) ∧ 5 + 2 = 7 := by decide +kernel
theorem zi_8_7 : zraw 8 7 = some (.iload 4, 2) ∧ 7 + 2 = 9 := by decide +kernel
theorem zi_8_9 : zraw 8 9 = some (.aload_n 0, 1) ∧ 9 + 1 = 10 := by decide +kernel
theorem zi_8_10 : zraw 8 10 = some (.getfield 37, 3) ∧ zft (zinf 8).1 37 = some (0, 6, 0, false) ∧ 10 + 3 = 13 := by decide +kernel
theorem zi_8_13 : zraw 8 13 = some (.if_icmp .ge 57, 3) ∧ ((13 : Nat) : Int) + 57 = Int.ofNat 70 ∧ 13 + 3 = 16 := by decide +kernel
theorem zi_8_16 : zraw 8 16 = some (.aload_n 0, 1) ∧ 16 + 1 = 17 := by decide +kernel
theorem zi_8_17 : zraw 8 17 = some (.getfield 9, 3) ∧ zft (zinf 8).1 9 = some (0, 0, 3, true) ∧ 17 + 3 = 20 := by decide +kernel
theorem zi_8_20 : zraw 8 20 = some (.iload 4, 2) ∧ 20 + 2 = 22 := by decide +kernel
theorem zi_8_22 : zraw 8 22 = some (.iload_n 3, 1) ∧ 22 + 1 = 23 := by decide +kernel
theorem zi_8_23 : zraw 8 23 = some (.isub, 1) ∧ 23 + 1 = 24 := by decide +kernel
theorem zi_8_24 : zraw 8 24 = some (.aload_n 0, 1) ∧ 24 + 1 = 25 := by decide +kernel
theorem zi_8_25 : zraw 8 25 = some (.getfield 9, 3) ∧ zft (zinf 8).1 9 = some (0, 0, 3, true) ∧ 25 + 3 = 28 := by decide +kernel
theorem zi_8_28 : zraw 8 28 = some (.iload 4, 2) ∧ 28 + 2 = 30 := by decide +kernel
theorem zi_8_30 : zraw 8 30 = some (.laload, 1) ∧ 30 + 1 = 31 := by decide +kernel
theorem zi_8_31 : zraw 8 31 = some (.lastore, 1) ∧ 31 + 1 = 32 := by decide +kernel
theorem zi_8_32 : zraw 8 32 = some (.aload_n 0, 1) ∧ 32 + 1 = 33 := by decide +kernel
theorem zi_8_33 : zraw 8 33 = some (.getfield 15, 3) ∧ zft (zinf 8).1 15 = some (0, 1, 3, true) ∧ 33 + 3 = 36 := by decide +kernel
theorem zi_8_36 : zraw 8 36 = some (.iload 4, 2) ∧ 36 + 2 = 38 := by decide +kernel
theorem zi_8_38 : zraw 8 38 = some (.iload_n 3, 1) ∧ 38 + 1 = 39 := by decide +kernel
theorem zi_8_39 : zraw 8 39 = some (.isub, 1) ∧ 39 + 1 = 40 := by decide +kernel
theorem zi_8_40 : zraw 8 40 = some (.aload_n 0, 1) ∧ 40 + 1 = 41 := by decide +kernel
theorem zi_8_41 : zraw 8 41 = some (.getfield 15, 3) ∧ zft (zinf 8).1 15 = some (0, 1, 3, true) ∧ 41 + 3 = 44 := by decide +kernel
theorem zi_8_44 : zraw 8 44 = some (.iload 4, 2) ∧ 44 + 2 = 46 := by decide +kernel
theorem zi_8_46 : zraw 8 46 = some (.iaload, 1) ∧ 46 + 1 = 47 := by decide +kernel
theorem zi_8_47 : zraw 8 47 = some (.iastore, 1) ∧ 47 + 1 = 48 := by decide +kernel
theorem zi_8_48 : zraw 8 48 = some (.aload_n 0, 1) ∧ 48 + 1 = 49 := by decide +kernel
theorem zi_8_49 : zraw 8 49 = some (.getfield 19, 3) ∧ zft (zinf 8).1 19 = some (0, 2, 3, true) ∧ 49 + 3 = 52 := by decide +kernel
theorem zi_8_52 : zraw 8 52 = some (.iload 4, 2) ∧ 52 + 2 = 54 := by decide +kernel
theorem zi_8_54 : zraw 8 54 = some (.iload_n 3, 1) ∧ 54 + 1 = 55 := by decide +kernel
theorem zi_8_55 : zraw 8 55 = some (.isub, 1) ∧ 55 + 1 = 56 := by decide +kernel
theorem zi_8_56 : zraw 8 56 = some (.aload_n 0, 1) ∧ 56 + 1 = 57 := by decide +kernel
theorem zi_8_57 : zraw 8 57 = some (.getfield 19, 3) ∧ zft (zinf 8).1 19 = some (0, 2, 3, true) ∧ 57 + 3 = 60 := by decide +kernel
theorem zi_8_60 : zraw 8 60 = some (.iload 4, 2) ∧ 60 + 2 = 62 := by decide +kernel
theorem zi_8_62 : zraw 8 62 = some (.iaload, 1) ∧ 62 + 1 = 63 := by decide +kernel
theorem zi_8_63 : zraw 8 63 = some (.iastore, 1) ∧ 63 + 1 = 64 := by decide +kernel
theorem zi_8_64 : zraw 8 64 = some (.iinc 4 1, 3) ∧ zin 32768 1 = true ∧ 64 + 3 = 67 := by decide +kernel
theorem zi_8_67 : zraw 8 67 = some (.goto (-60), 3) ∧ ((67 : Nat) : Int) + (-60) = Int.ofNat 7 := by decide +kernel
theorem zi_8_70 : zraw 8 70 = some (.aload_n 0, 1) ∧ 70 + 1 = 71 := by decide +kernel
theorem zi_8_71 : zraw 8 71 = some (.dup, 1) ∧ 71 + 1 = 72 := by decide +kernel
theorem zi_8_72 : zraw 8 72 = some (.getfield 37, 3) ∧ zft (zinf 8).1 37 = some (0, 6, 0, false) ∧ 72 + 3 = 75 := by decide +kernel
theorem zi_8_75 : zraw 8 75 = some (.iload_n 3, 1) ∧ 75 + 1 = 76 := by decide +kernel
theorem zi_8_76 : zraw 8 76 = some (.isub, 1) ∧ 76 + 1 = 77 := by decide +kernel
theorem zi_8_77 : zraw 8 77 = some (.putfield 37, 3) ∧ zft (zinf 8).1 37 = some (0, 6, 0, false) ∧ 77 + 3 = 80 := by decide +kernel
theorem zi_8_80 : zraw 8 80 = some (.return_, 1) ∧ (zinf 8).2.2.2.1 = 0 := by decide +kernel
theorem ze_8 {K : List zF} {σ : zW} {x1 : Int} {x2 : Int} : zEv true (zent 8 [.inr (.inr 54), .inl x1, .inl x2] :: K) σ = (zEv true ((8, 7, [some (.inr (.inr 54)), some (.inl x1), some (.inl x2), some (.inl (w32 (x2 - x1))), some (.inl x2)], []) :: K) σ) :=
  yT_en (f := (8, 0, [some (.inr (.inr 54)), some (.inl x1), some (.inl x2), none, none], [])) rfl (yI_iload_n zi_8_0 rfl <| yI_iload_n zi_8_1 rfl <| yI_isub zi_8_2 <| yI_istore_n (l := [some (.inr (.inr 54)), some (.inl x1), some (.inl x2), some (.inl (w32 (x2 - x1))), none]) zi_8_3 rfl rfl <| yI_iload_n zi_8_4 rfl <| yI_istore (l := [some (.inr (.inr 54)), some (.inl x1), some (.inl x2), some (.inl (w32 (x2 - x1))), some (.inl x2)]) zi_8_5 rfl rfl <| rfl)
theorem zj_8_7 {K : List zF} {σ : zW} {o1 : Option zV} {o2 : Option zV} {x3 : Int} {x4 : Int} : zEv true ((8, 7, [some (.inr (.inr 54)), o1, o2, some (.inl x3), some (.inl x4)], []) :: K) σ = (if (gI σ 54 6) ≤ x4 then zRet true K none (sI σ 54 6 (w32 ((gI σ 54 6) - x3))) else (0 ≤ x4 ∧ x4 < 20) ∧ ((0 ≤ (w32 (x4 - x3)) ∧ (w32 (x4 - x3)) < 20) ∧ ((0 ≤ x4 ∧ x4 < 20) ∧ ((0 ≤ (w32 (x4 - x3)) ∧ (w32 (x4 - x3)) < 20) ∧ ((0 ≤ x4 ∧ x4 < 20) ∧ ((0 ≤ (w32 (x4 - x3)) ∧ (w32 (x4 - x3)) < 20) ∧ zEv true ((8, 7, [some (.inr (.inr 54)), o1, o2, some (.inl x3), some (.inl (w32 (x4 + 1)))], []) :: K) (sI (sI (sL σ 55 ((w32 (x4 - x3)).toNat) (gL σ 55 x4.toNat)) 56 ((w32 (x4 - x3)).toNat) (gI σ 56 x4.toNat)) 57 ((w32 (x4 - x3)).toNat) (gI σ 57 x4.toNat)))))))) :=
  yI_iload zi_8_7 rfl <| yI_aload_n zi_8_9 rfl <| yI_gf_i (v := gI σ 54 6) zi_8_10 zk_54 rfl <| yI_ic_ge zi_8_13 <| yBr (yI_aload_n zi_8_70 rfl <| yI_dup_r zi_8_71 <| yI_gf_i (v := gI σ 54 6) zi_8_72 zk_54 rfl <| yI_iload_n zi_8_75 rfl <| yI_isub zi_8_76 <| yI_pf_i zi_8_77 zk_54 <| yI_ret zi_8_80) (yI_aload_n zi_8_16 rfl <| yI_gf_f (v := 55) zi_8_17 zk_54 rfl <| yI_iload zi_8_20 rfl <| yI_iload_n zi_8_22 rfl <| yI_isub zi_8_23 <| yI_aload_n zi_8_24 rfl <| yI_gf_f (v := 55) zi_8_25 zk_54 rfl <| yI_iload zi_8_28 rfl <| yI_laloadc (v := gL σ 55 x4.toNat) zi_8_30 za_55 rfl <| yI_lastorec zi_8_31 za_55 <| yI_aload_n zi_8_32 rfl <| yI_gf_f (v := 56) zi_8_33 zk_54 rfl <| yI_iload zi_8_36 rfl <| yI_iload_n zi_8_38 rfl <| yI_isub zi_8_39 <| yI_aload_n zi_8_40 rfl <| yI_gf_f (v := 56) zi_8_41 zk_54 rfl <| yI_iload zi_8_44 rfl <| yI_ialoadc (v := gI σ 56 x4.toNat) zi_8_46 za_56 rfl <| yI_iastorec zi_8_47 za_56 <| yI_aload_n zi_8_48 rfl <| yI_gf_f (v := 57) zi_8_49 zk_54 rfl <| yI_iload zi_8_52 rfl <| yI_iload_n zi_8_54 rfl <| yI_isub zi_8_55 <| yI_aload_n zi_8_56 rfl <| yI_gf_f (v := 57) zi_8_57 zk_54 rfl <| yI_iload zi_8_60 rfl <| yI_ialoadc (v := gI σ 57 x4.toNat) zi_8_62 za_57 ((yGI_nk (by decide)).trans (gI_sL _ _ _ _ _ _)) <| yI_iastorec zi_8_63 za_57 <| yI_iinc (l := [some (.inr (.inr 54)), o1, o2, some (.inl x3), some (.inl (w32 (x4 + 1)))]) zi_8_64 rfl rfl rfl <| yI_goto zi_8_67 <| rfl)
/-- 9 Treegrab$Bench.openGap(II)V -/
theorem zi_9_0 : zraw 9 0 = some (.aload_n 0, 1) ∧ 0 + 1 = 1 := by decide +kernel
theorem zi_9_1 : zraw 9 1 = some (.getfield 37, 3) ∧ zft (zinf 9).1 37 = some (0, 6, 0, false) ∧ 1 + 3 = 4 := by decide +kernel
theorem zi_9_4 : zraw 9 4 = some (.iconst 1, 1) ∧ zin 128 1 = true ∧ 4 + 1 = 5 := by decide +kernel
theorem zi_9_5 : zraw 9 5 = some (.isub, 1) ∧ 5 + 1 = 6 := by decide +kernel
theorem zi_9_6 : zraw 9 6 = some (.istore_n 3, 1) ∧ 6 + 1 = 7 := by decide +kernel
theorem zi_9_7 : zraw 9 7 = some (.iload_n 3, 1) ∧ 7 + 1 = 8 := by decide +kernel
theorem zi_9_8 : zraw 9 8 = some (.iload_n 1, 1) ∧ 8 + 1 = 9 := by decide +kernel
theorem zi_9_9 : zraw 9 9 = some (.if_icmp .lt 51, 3) ∧ ((9 : Nat) : Int) + 51 = Int.ofNat 60 ∧ 9 + 3 = 12 := by decide +kernel
theorem zi_9_12 : zraw 9 12 = some (.aload_n 0, 1) ∧ 12 + 1 = 13 := by decide +kernel
theorem zi_9_13 : zraw 9 13 = some (.getfield 9, 3) ∧ zft (zinf 9).1 9 = some (0, 0, 3, true) ∧ 13 + 3 = 16 := by decide +kernel
theorem zi_9_16 : zraw 9 16 = some (.iload_n 3, 1) ∧ 16 + 1 = 17 := by decide +kernel
theorem zi_9_17 : zraw 9 17 = some (.iload_n 2, 1) ∧ 17 + 1 = 18 := by decide +kernel
theorem zi_9_18 : zraw 9 18 = some (.iadd, 1) ∧ 18 + 1 = 19 := by decide +kernel
theorem zi_9_19 : zraw 9 19 = some (.aload_n 0, 1) ∧ 19 + 1 = 20 := by decide +kernel
theorem zi_9_20 : zraw 9 20 = some (.getfield 9, 3) ∧ zft (zinf 9).1 9 = some (0, 0, 3, true) ∧ 20 + 3 = 23 := by decide +kernel
theorem zi_9_23 : zraw 9 23 = some (.iload_n 3, 1) ∧ 23 + 1 = 24 := by decide +kernel
theorem zi_9_24 : zraw 9 24 = some (.laload, 1) ∧ 24 + 1 = 25 := by decide +kernel
theorem zi_9_25 : zraw 9 25 = some (.lastore, 1) ∧ 25 + 1 = 26 := by decide +kernel
theorem zi_9_26 : zraw 9 26 = some (.aload_n 0, 1) ∧ 26 + 1 = 27 := by decide +kernel
theorem zi_9_27 : zraw 9 27 = some (.getfield 15, 3) ∧ zft (zinf 9).1 15 = some (0, 1, 3, true) ∧ 27 + 3 = 30 := by decide +kernel
theorem zi_9_30 : zraw 9 30 = some (.iload_n 3, 1) ∧ 30 + 1 = 31 := by decide +kernel
theorem zi_9_31 : zraw 9 31 = some (.iload_n 2, 1) ∧ 31 + 1 = 32 := by decide +kernel
theorem zi_9_32 : zraw 9 32 = some (.iadd, 1) ∧ 32 + 1 = 33 := by decide +kernel
theorem zi_9_33 : zraw 9 33 = some (.aload_n 0, 1) ∧ 33 + 1 = 34 := by decide +kernel
theorem zi_9_34 : zraw 9 34 = some (.getfield 15, 3) ∧ zft (zinf 9).1 15 = some (0, 1, 3, true) ∧ 34 + 3 = 37 := by decide +kernel
theorem zi_9_37 : zraw 9 37 = some (.iload_n 3, 1) ∧ 37 + 1 = 38 := by decide +kernel
theorem zi_9_38 : zraw 9 38 = some (.iaload, 1) ∧ 38 + 1 = 39 := by decide +kernel
theorem zi_9_39 : zraw 9 39 = some (.iastore, 1) ∧ 39 + 1 = 40 := by decide +kernel
theorem zi_9_40 : zraw 9 40 = some (.aload_n 0, 1) ∧ 40 + 1 = 41 := by decide +kernel
theorem zi_9_41 : zraw 9 41 = some (.getfield 19, 3) ∧ zft (zinf 9).1 19 = some (0, 2, 3, true) ∧ 41 + 3 = 44 := by decide +kernel
theorem zi_9_44 : zraw 9 44 = some (.iload_n 3, 1) ∧ 44 + 1 = 45 := by decide +kernel
theorem zi_9_45 : zraw 9 45 = some (.iload_n 2, 1) ∧ 45 + 1 = 46 := by decide +kernel
theorem zi_9_46 : zraw 9 46 = some (.iadd, 1) ∧ 46 + 1 = 47 := by decide +kernel
theorem zi_9_47 : zraw 9 47 = some (.aload_n 0, 1) ∧ 47 + 1 = 48 := by decide +kernel
theorem zi_9_48 : zraw 9 48 = some (.getfield 19, 3) ∧ zft (zinf 9).1 19 = some (0, 2, 3, true) ∧ 48 + 3 = 51 := by decide +kernel
theorem zi_9_51 : zraw 9 51 = some (.iload_n 3, 1) ∧ 51 + 1 = 52 := by decide +kernel
theorem zi_9_52 : zraw 9 52 = some (.iaload, 1) ∧ 52 + 1 = 53 := by decide +kernel
theorem zi_9_53 : zraw 9 53 = some (.iastore, 1) ∧ 53 + 1 = 54 := by decide +kernel
theorem zi_9_54 : zraw 9 54 = some (.iinc 3 (-1), 3) ∧ zin 32768 (-1) = true ∧ 54 + 3 = 57 := by decide +kernel
theorem zi_9_57 : zraw 9 57 = some (.goto (-50), 3) ∧ ((57 : Nat) : Int) + (-50) = Int.ofNat 7 := by decide +kernel
theorem zi_9_60 : zraw 9 60 = some (.aload_n 0, 1) ∧ 60 + 1 = 61 := by decide +kernel
theorem zi_9_61 : zraw 9 61 = some (.dup, 1) ∧ 61 + 1 = 62 := by decide +kernel
theorem zi_9_62 : zraw 9 62 = some (.getfield 37, 3) ∧ zft (zinf 9).1 37 = some (0, 6, 0, false) ∧ 62 + 3 = 65 := by decide +kernel
theorem zi_9_65 : zraw 9 65 = some (.iload_n 2, 1) ∧ 65 + 1 = 66 := by decide +kernel
theorem zi_9_66 : zraw 9 66 = some (.iadd, 1) ∧ 66 + 1 = 67 := by decide +kernel
theorem zi_9_67 : zraw 9 67 = some (.putfield 37, 3) ∧ zft (zinf 9).1 37 = some (0, 6, 0, false) ∧ 67 + 3 = 70 := by decide +kernel
theorem zi_9_70 : zraw 9 70 = some (.return_, 1) ∧ (zinf 9).2.2.2.1 = 0 := by decide +kernel
theorem ze_9 {K : List zF} {σ : zW} {x1 : Int} {x2 : Int} : zEv true (zent 9 [.inr (.inr 54), .inl x1, .inl x2] :: K) σ = (zEv true ((9, 7, [some (.inr (.inr 54)), some (.inl x1), some (.inl x2), some (.inl (w32 ((gI σ 54 6) - 1)))], []) :: K) σ) :=
  yT_en (f := (9, 0, [some (.inr (.inr 54)), some (.inl x1), some (.inl x2), none], [])) rfl (yI_aload_n zi_9_0 rfl <| yI_gf_i (v := gI σ 54 6) zi_9_1 zk_54 rfl <| yI_iconst zi_9_4 <| yI_isub zi_9_5 <| yI_istore_n (l := [some (.inr (.inr 54)), some (.inl x1), some (.inl x2), some (.inl (w32 ((gI σ 54 6) - 1)))]) zi_9_6 rfl rfl <| rfl)
theorem zj_9_7 {K : List zF} {σ : zW} {x1 : Int} {x2 : Int} {x3 : Int} : zEv true ((9, 7, [some (.inr (.inr 54)), some (.inl x1), some (.inl x2), some (.inl x3)], []) :: K) σ = (if x3 < x1 then zRet true K none (sI σ 54 6 (w32 ((gI σ 54 6) + x2))) else (0 ≤ x3 ∧ x3 < 20) ∧ ((0 ≤ (w32 (x3 + x2)) ∧ (w32 (x3 + x2)) < 20) ∧ ((0 ≤ x3 ∧ x3 < 20) ∧ ((0 ≤ (w32 (x3 + x2)) ∧ (w32 (x3 + x2)) < 20) ∧ ((0 ≤ x3 ∧ x3 < 20) ∧ ((0 ≤ (w32 (x3 + x2)) ∧ (w32 (x3 + x2)) < 20) ∧ zEv true ((9, 7, [some (.inr (.inr 54)), some (.inl x1), some (.inl x2), some (.inl (w32 (x3 + (-1))))], []) :: K) (sI (sI (sL σ 55 ((w32 (x3 + x2)).toNat) (gL σ 55 x3.toNat)) 56 ((w32 (x3 + x2)).toNat) (gI σ 56 x3.toNat)) 57 ((w32 (x3 + x2)).toNat) (gI σ 57 x3.toNat)))))))) :=
  yI_iload_n zi_9_7 rfl <| yI_iload_n zi_9_8 rfl <| yI_ic_lt zi_9_9 <| yBr (yI_aload_n zi_9_60 rfl <| yI_dup_r zi_9_61 <| yI_gf_i (v := gI σ 54 6) zi_9_62 zk_54 rfl <| yI_iload_n zi_9_65 rfl <| yI_iadd zi_9_66 <| yI_pf_i zi_9_67 zk_54 <| yI_ret zi_9_70) (yI_aload_n zi_9_12 rfl <| yI_gf_f (v := 55) zi_9_13 zk_54 rfl <| yI_iload_n zi_9_16 rfl <| yI_iload_n zi_9_17 rfl <| yI_iadd zi_9_18 <| yI_aload_n zi_9_19 rfl <| yI_gf_f (v := 55) zi_9_20 zk_54 rfl <| yI_iload_n zi_9_23 rfl <| yI_laloadc (v := gL σ 55 x3.toNat) zi_9_24 za_55 rfl <| yI_lastorec zi_9_25 za_55 <| yI_aload_n zi_9_26 rfl <| yI_gf_f (v := 56) zi_9_27 zk_54 rfl <| yI_iload_n zi_9_30 rfl <| yI_iload_n zi_9_31 rfl <| yI_iadd zi_9_32 <| yI_aload_n zi_9_33 rfl <| yI_gf_f (v := 56) zi_9_34 zk_54 rfl <| yI_iload_n zi_9_37 rfl <| yI_ialoadc (v := gI σ 56 x3.toNat) zi_9_38 za_56 rfl <| yI_iastorec zi_9_39 za_56 <| yI_aload_n zi_9_40 rfl <| yI_gf_f (v := 57) zi_9_41 zk_54 rfl <| yI_iload_n zi_9_44 rfl <| yI_iload_n zi_9_45 rfl <| yI_iadd zi_9_46 <| yI_aload_n zi_9_47 rfl <| yI_gf_f (v := 57) zi_9_48 zk_54 rfl <| yI_iload_n zi_9_51 rfl <| yI_ialoadc (v := gI σ 57 x3.toNat) zi_9_52 za_57 ((yGI_nk (by decide)).trans (gI_sL _ _ _ _ _ _)) <| yI_iastorec zi_9_53 za_57 <| yI_iinc (l := [some (.inr (.inr 54)), some (.inl x1), some (.inl x2), some (.inl (w32 (x3 + (-1))))]) zi_9_54 rfl rfl rfl <| yI_goto zi_9_57 <| rfl)
/-- 10 Treegrab$Bench.putRow(IJI)V -/
theorem zi_10_0 : zraw 10 0 = some (.aload_n 0, 1) ∧ 0 + 1 = 1 := by decide +kernel
theorem zi_10_1 : zraw 10 1 = some (.getfield 9, 3) ∧ zft (zinf 10).1 9 = some (0, 0, 3, true) ∧ 1 + 3 = 4 := by decide +kernel
theorem zi_10_4 : zraw 10 4 = some (.iload_n 1, 1) ∧ 4 + 1 = 5 := by decide +kernel
theorem zi_10_5 : zraw 10 5 = some (.lload_n 2, 1) ∧ 5 + 1 = 6 := by decide +kernel
theorem zi_10_6 : zraw 10 6 = some (.lastore, 1) ∧ 6 + 1 = 7 := by decide +kernel
theorem zi_10_7 : zraw 10 7 = some (.aload_n 0, 1) ∧ 7 + 1 = 8 := by decide +kernel
theorem zi_10_8 : zraw 10 8 = some (.getfield 15, 3) ∧ zft (zinf 10).1 15 = some (0, 1, 3, true) ∧ 8 + 3 = 11 := by decide +kernel
theorem zi_10_11 : zraw 10 11 = some (.iload_n 1, 1) ∧ 11 + 1 = 12 := by decide +kernel
theorem zi_10_12 : zraw 10 12 = some (.iload 4, 2) ∧ 12 + 2 = 14 := by decide +kernel
theorem zi_10_14 : zraw 10 14 = some (.iastore, 1) ∧ 14 + 1 = 15 := by decide +kernel
theorem zi_10_15 : zraw 10 15 = some (.aload_n 0, 1) ∧ 15 + 1 = 16 := by decide +kernel
theorem zi_10_16 : zraw 10 16 = some (.getfield 19, 3) ∧ zft (zinf 10).1 19 = some (0, 2, 3, true) ∧ 16 + 3 = 19 := by decide +kernel
theorem zi_10_19 : zraw 10 19 = some (.iload_n 1, 1) ∧ 19 + 1 = 20 := by decide +kernel
theorem zi_10_20 : zraw 10 20 = some (.aload_n 0, 1) ∧ 20 + 1 = 21 := by decide +kernel
theorem zi_10_21 : zraw 10 21 = some (.getfield 40, 3) ∧ zft (zinf 10).1 40 = some (0, 8, 0, false) ∧ 21 + 3 = 24 := by decide +kernel
theorem zi_10_24 : zraw 10 24 = some (.iastore, 1) ∧ 24 + 1 = 25 := by decide +kernel
theorem zi_10_25 : zraw 10 25 = some (.aload_n 0, 1) ∧ 25 + 1 = 26 := by decide +kernel
theorem zi_10_26 : zraw 10 26 = some (.dup, 1) ∧ 26 + 1 = 27 := by decide +kernel
theorem zi_10_27 : zraw 10 27 = some (.getfield 40, 3) ∧ zft (zinf 10).1 40 = some (0, 8, 0, false) ∧ 27 + 3 = 30 := by decide +kernel
theorem zi_10_30 : zraw 10 30 = some (.iconst 1, 1) ∧ zin 128 1 = true ∧ 30 + 1 = 31 := by decide +kernel
theorem zi_10_31 : zraw 10 31 = some (.iadd, 1) ∧ 31 + 1 = 32 := by decide +kernel
theorem zi_10_32 : zraw 10 32 = some (.putfield 40, 3) ∧ zft (zinf 10).1 40 = some (0, 8, 0, false) ∧ 32 + 3 = 35 := by decide +kernel
theorem zi_10_35 : zraw 10 35 = some (.return_, 1) ∧ (zinf 10).2.2.2.1 = 0 := by decide +kernel
theorem ze_10 {K : List zF} {σ : zW} {x1 : Int} {x2 : Int64} {x4 : Int} : zEv true (zent 10 [.inr (.inr 54), .inl x1, .inr (.inl x2), .inl x4] :: K) σ = ((0 ≤ x1 ∧ x1 < 20) ∧ ((0 ≤ x1 ∧ x1 < 20) ∧ ((0 ≤ x1 ∧ x1 < 20) ∧ zRet true K none (sI (sI (sI (sL σ 55 x1.toNat x2) 56 x1.toNat x4) 57 x1.toNat (gI σ 54 8)) 54 8 (w32 ((gI σ 54 8) + 1)))))) :=
  yT_en (f := (10, 0, [some (.inr (.inr 54)), some (.inl x1), some (.inr (.inl x2)), none, some (.inl x4)], [])) rfl (yI_aload_n zi_10_0 rfl <| yI_gf_f (v := 55) zi_10_1 zk_54 rfl <| yI_iload_n zi_10_4 rfl <| yI_lload_n zi_10_5 rfl <| yI_lastorec zi_10_6 za_55 <| yI_aload_n zi_10_7 rfl <| yI_gf_f (v := 56) zi_10_8 zk_54 rfl <| yI_iload_n zi_10_11 rfl <| yI_iload zi_10_12 rfl <| yI_iastorec zi_10_14 za_56 <| yI_aload_n zi_10_15 rfl <| yI_gf_f (v := 57) zi_10_16 zk_54 rfl <| yI_iload_n zi_10_19 rfl <| yI_aload_n zi_10_20 rfl <| yI_gf_i (v := gI σ 54 8) zi_10_21 zk_54 ((yGI_nk (by decide)).trans (gI_sL _ _ _ _ _ _)) <| yI_iastorec zi_10_24 za_57 <| yI_aload_n zi_10_25 rfl <| yI_dup_r zi_10_26 <| yI_gf_i (v := gI σ 54 8) zi_10_27 zk_54 ((yGI_nk (by decide)).trans ((yGI_nk (by decide)).trans (gI_sL _ _ _ _ _ _))) <| yI_iconst zi_10_30 <| yI_iadd zi_10_31 <| yI_pf_i zi_10_32 zk_54 <| yI_ret zi_10_35)
/-- 11 Treegrab$Bench.cutOut(I)Z -/
theorem zi_11_0 : zraw 11 0 = some (.aload_n 0, 1) ∧ 0 + 1 = 1 := by decide +kernel
theorem zi_11_1 : zraw 11 1 = some (.iload_n 1, 1) ∧ 1 + 1 = 2 := by decide +kernel
theorem zi_11_2 : zraw 11 2 = some (.invokevirtual 90, 3) ∧ zmt (zinf 11).1 90 = some 7 ∧ Nat.ble 9000 7 = false ∧ zinf 7 = (0, 2, 3, 1, 0) ∧ 2 + 3 = 5 := by decide +kernel
theorem zi_11_5 : zraw 11 5 = some (.istore_n 2, 1) ∧ 5 + 1 = 6 := by decide +kernel
theorem zi_11_6 : zraw 11 6 = some (.aload_n 0, 1) ∧ 6 + 1 = 7 := by decide +kernel
theorem zi_11_7 : zraw 11 7 = some (.iload_n 1, 1) ∧ 7 + 1 = 8 := by decide +kernel
theorem zi_11_8 : zraw 11 8 = some (.aload_n 0, 1) ∧ 8 + 1 = 9 := by decide +kernel
theorem zi_11_9 : zraw 11 9 = some (.iload_n 1, 1) ∧ 9 + 1 = 10 := by decide +kernel
theorem zi_11_10 : zraw 11 10 = some (.invokevirtual 87, 3) ∧ zmt (zinf 11).1 87 = some 5 ∧ Nat.ble 9000 5 = false ∧ zinf 5 = (0, 2, 3, 1, 0) ∧ 10 + 3 = 13 := by decide +kernel
theorem zi_11_13 : zraw 11 13 = some (.invokevirtual 93, 3) ∧ zmt (zinf 11).1 93 = some 8 ∧ Nat.ble 9000 8 = false ∧ zinf 8 = (0, 3, 5, 0, 0) ∧ 13 + 3 = 16 := by decide +kernel
theorem zi_11_16 : zraw 11 16 = some (.iload_n 2, 1) ∧ 16 + 1 = 17 := by decide +kernel
theorem zi_11_17 : zraw 11 17 = some (.iconst (-1), 1) ∧ zin 128 (-1) = true ∧ 17 + 1 = 18 := by decide +kernel
theorem zi_11_18 : zraw 11 18 = some (.if_icmp .eq 15, 3) ∧ ((18 : Nat) : Int) + 15 = Int.ofNat 33 ∧ 18 + 3 = 21 := by decide +kernel
theorem zi_11_21 : zraw 11 21 = some (.aload_n 0, 1) ∧ 21 + 1 = 22 := by decide +kernel
theorem zi_11_22 : zraw 11 22 = some (.iload_n 2, 1) ∧ 22 + 1 = 23 := by decide +kernel
theorem zi_11_23 : zraw 11 23 = some (.invokevirtual 97, 3) ∧ zmt (zinf 11).1 97 = some 12 ∧ Nat.ble 9000 12 = false ∧ zinf 12 = (0, 2, 4, 2, 0) ∧ 23 + 3 = 26 := by decide +kernel
theorem zi_11_26 : zraw 11 26 = some (.ifCond .eq 7, 3) ∧ ((26 : Nat) : Int) + 7 = Int.ofNat 33 ∧ 26 + 3 = 29 := by decide +kernel
theorem zi_11_29 : zraw 11 29 = some (.iconst 1, 1) ∧ zin 128 1 = true ∧ 29 + 1 = 30 := by decide +kernel
theorem zi_11_30 : zraw 11 30 = some (.goto 4, 3) ∧ ((30 : Nat) : Int) + 4 = Int.ofNat 34 := by decide +kernel
theorem zi_11_33 : zraw 11 33 = some (.iconst 0, 1) ∧ zin 128 0 = true ∧ 33 + 1 = 34 := by decide +kernel
theorem zi_11_34 : zraw 11 34 = some (.ireturn, 1) ∧ (zinf 11).2.2.2.1 = 2 := by decide +kernel
theorem ze_11 {K : List zF} {σ : zW} {x1 : Int} (hK : K.length < 60) : zEv true (zent 11 [.inr (.inr 54), .inl x1] :: K) σ = (zEv true (zent 7 [.inr (.inr 54), .inl x1] :: (11, 5, [some (.inr (.inr 54)), some (.inl x1), none], []) :: K) σ) :=
  yT_en (f := (11, 0, [some (.inr (.inr 54)), some (.inl x1), none], [])) rfl (yI_aload_n zi_11_0 rfl <| yI_iload_n zi_11_1 rfl <| yI_cv zi_11_2 rfl rfl zk_54 hK)
theorem zr_11_5 {K : List zF} {σ : zW} {x1 : Int} {o2 : Option zV} {v : Int} (hK : K.length < 60) : zRet true ((11, 5, [some (.inr (.inr 54)), some (.inl x1), o2], []) :: K) (some (.inl v)) σ = (zEv true (zent 5 [.inr (.inr 54), .inl x1] :: (11, 13, [some (.inr (.inr 54)), some (.inl x1), some (.inl v)], [.inl x1, .inr (.inr 54)]) :: K) σ) :=
  yT_rt (yI_istore_n (l := [some (.inr (.inr 54)), some (.inl x1), some (.inl v)]) zi_11_5 rfl rfl <| yI_aload_n zi_11_6 rfl <| yI_iload_n zi_11_7 rfl <| yI_aload_n zi_11_8 rfl <| yI_iload_n zi_11_9 rfl <| yI_cv zi_11_10 rfl rfl zk_54 hK)
theorem zr_11_13 {K : List zF} {σ : zW} {o1 : Option zV} {x2 : Int} {s0 : Int} {v : Int} (hK : K.length < 60) : zRet true ((11, 13, [some (.inr (.inr 54)), o1, some (.inl x2)], [.inl s0, .inr (.inr 54)]) :: K) (some (.inl v)) σ = (zEv true (zent 8 [.inr (.inr 54), .inl s0, .inl v] :: (11, 16, [some (.inr (.inr 54)), o1, some (.inl x2)], []) :: K) σ) :=
  yT_rt (yI_cv zi_11_13 rfl rfl zk_54 hK)
theorem zr_11_16 {K : List zF} {σ : zW} {o1 : Option zV} {x2 : Int} (hK : K.length < 60) : zRet true ((11, 16, [some (.inr (.inr 54)), o1, some (.inl x2)], []) :: K) none σ = (if x2 = (-1) then zEv true ((11, 33, [some (.inr (.inr 54)), o1, some (.inl x2)], []) :: K) σ else zEv true (zent 12 [.inr (.inr 54), .inl x2] :: (11, 26, [some (.inr (.inr 54)), o1, some (.inl x2)], []) :: K) σ) :=
  yT_rv (yI_iload_n zi_11_16 rfl <| yI_iconst zi_11_17 <| yI_ic_eq zi_11_18 <| yBr (rfl) (yI_aload_n zi_11_21 rfl <| yI_iload_n zi_11_22 rfl <| yI_cv zi_11_23 rfl rfl zk_54 hK))
theorem zj_11_33 {K : List zF} {σ : zW} {o0 : Option zV} {o1 : Option zV} {o2 : Option zV} : zEv true ((11, 33, [o0, o1, o2], []) :: K) σ = (zRet true K (some (.inl 0)) σ) :=
  yI_iconst zi_11_33 <| yI_zreturn zi_11_34 (by decide)
theorem zr_11_26 {K : List zF} {σ : zW} {o0 : Option zV} {o1 : Option zV} {o2 : Option zV} {v : Int} : zRet true ((11, 26, [o0, o1, o2], []) :: K) (some (.inl v)) σ = (if v = 0 then zEv true ((11, 33, [o0, o1, o2], []) :: K) σ else zRet true K (some (.inl 1)) σ) :=
  yT_rt (yI_if_eq zi_11_26 <| yBr (rfl) (yI_iconst zi_11_29 <| yI_goto zi_11_30 <| yI_zreturn zi_11_34 (by decide)))
/-- 12 Treegrab$Bench.prune(I)Z -/
theorem zi_12_0 : zraw 12 0 = some (.iload_n 1, 1) ∧ 0 + 1 = 1 := by decide +kernel
theorem zi_12_1 : zraw 12 1 = some (.istore_n 2, 1) ∧ 1 + 1 = 2 := by decide +kernel
theorem zi_12_2 : zraw 12 2 = some (.iload_n 2, 1) ∧ 2 + 1 = 3 := by decide +kernel
theorem zi_12_3 : zraw 12 3 = some (.ifCond .le 30, 3) ∧ ((3 : Nat) : Int) + 30 = Int.ofNat 33 ∧ 3 + 3 = 6 := by decide +kernel
theorem zi_12_6 : zraw 12 6 = some (.aload_n 0, 1) ∧ 6 + 1 = 7 := by decide +kernel
theorem zi_12_7 : zraw 12 7 = some (.iload_n 2, 1) ∧ 7 + 1 = 8 := by decide +kernel
theorem zi_12_8 : zraw 12 8 = some (.invokevirtual 100, 3) ∧ zmt (zinf 12).1 100 = some 6 ∧ Nat.ble 9000 6 = false ∧ zinf 6 = (0, 2, 2, 2, 0) ∧ 8 + 3 = 11 := by decide +kernel
theorem zi_12_11 : zraw 12 11 = some (.ifCond .eq 22, 3) ∧ ((11 : Nat) : Int) + 22 = Int.ofNat 33 ∧ 11 + 3 = 14 := by decide +kernel
theorem zi_12_14 : zraw 12 14 = some (.aload_n 0, 1) ∧ 14 + 1 = 15 := by decide +kernel
theorem zi_12_15 : zraw 12 15 = some (.iload_n 2, 1) ∧ 15 + 1 = 16 := by decide +kernel
theorem zi_12_16 : zraw 12 16 = some (.invokevirtual 90, 3) ∧ zmt (zinf 12).1 90 = some 7 ∧ Nat.ble 9000 7 = false ∧ zinf 7 = (0, 2, 3, 1, 0) ∧ 16 + 3 = 19 := by decide +kernel
theorem zi_12_19 : zraw 12 19 = some (.istore_n 3, 1) ∧ 19 + 1 = 20 := by decide +kernel
theorem zi_12_20 : zraw 12 20 = some (.aload_n 0, 1) ∧ 20 + 1 = 21 := by decide +kernel
theorem zi_12_21 : zraw 12 21 = some (.iload_n 2, 1) ∧ 21 + 1 = 22 := by decide +kernel
theorem zi_12_22 : zraw 12 22 = some (.iload_n 2, 1) ∧ 22 + 1 = 23 := by decide +kernel
theorem zi_12_23 : zraw 12 23 = some (.iconst 1, 1) ∧ zin 128 1 = true ∧ 23 + 1 = 24 := by decide +kernel
theorem zi_12_24 : zraw 12 24 = some (.iadd, 1) ∧ 24 + 1 = 25 := by decide +kernel
theorem zi_12_25 : zraw 12 25 = some (.invokevirtual 93, 3) ∧ zmt (zinf 12).1 93 = some 8 ∧ Nat.ble 9000 8 = false ∧ zinf 8 = (0, 3, 5, 0, 0) ∧ 25 + 3 = 28 := by decide +kernel
theorem zi_12_28 : zraw 12 28 = some (.iload_n 3, 1) ∧ 28 + 1 = 29 := by decide +kernel
theorem zi_12_29 : zraw 12 29 = some (.istore_n 2, 1) ∧ 29 + 1 = 30 := by decide +kernel
theorem zi_12_30 : zraw 12 30 = some (.goto (-28), 3) ∧ ((30 : Nat) : Int) + (-28) = Int.ofNat 2 := by decide +kernel
theorem zi_12_33 : zraw 12 33 = some (.iload_n 2, 1) ∧ 33 + 1 = 34 := by decide +kernel
theorem zi_12_34 : zraw 12 34 = some (.ifCond .gt 11, 3) ∧ ((34 : Nat) : Int) + 11 = Int.ofNat 45 ∧ 34 + 3 = 37 := by decide +kernel
theorem zi_12_37 : zraw 12 37 = some (.aload_n 0, 1) ∧ 37 + 1 = 38 := by decide +kernel
theorem zi_12_38 : zraw 12 38 = some (.getfield 37, 3) ∧ zft (zinf 12).1 37 = some (0, 6, 0, false) ∧ 38 + 3 = 41 := by decide +kernel
theorem zi_12_41 : zraw 12 41 = some (.iconst 1, 1) ∧ zin 128 1 = true ∧ 41 + 1 = 42 := by decide +kernel
theorem zi_12_42 : zraw 12 42 = some (.if_icmp .le 7, 3) ∧ ((42 : Nat) : Int) + 7 = Int.ofNat 49 ∧ 42 + 3 = 45 := by decide +kernel
theorem zi_12_45 : zraw 12 45 = some (.iconst 1, 1) ∧ zin 128 1 = true ∧ 45 + 1 = 46 := by decide +kernel
theorem zi_12_46 : zraw 12 46 = some (.goto 4, 3) ∧ ((46 : Nat) : Int) + 4 = Int.ofNat 50 := by decide +kernel
theorem zi_12_49 : zraw 12 49 = some (.iconst 0, 1) ∧ zin 128 0 = true ∧ 49 + 1 = 50 := by decide +kernel
theorem zi_12_50 : zraw 12 50 = some (.ireturn, 1) ∧ (zinf 12).2.2.2.1 = 2 := by decide +kernel
theorem ze_12 {K : List zF} {σ : zW} {x1 : Int} : zEv true (zent 12 [.inr (.inr 54), .inl x1] :: K) σ = (zEv true ((12, 2, [some (.inr (.inr 54)), some (.inl x1), some (.inl x1), none], []) :: K) σ) :=
  yT_en (f := (12, 0, [some (.inr (.inr 54)), some (.inl x1), none, none], [])) rfl (yI_iload_n zi_12_0 rfl <| yI_istore_n (l := [some (.inr (.inr 54)), some (.inl x1), some (.inl x1), none]) zi_12_1 rfl rfl <| rfl)
theorem zj_12_2 {K : List zF} {σ : zW} {o1 : Option zV} {x2 : Int} {o3 : Option zV} (hK : K.length < 60) : zEv true ((12, 2, [some (.inr (.inr 54)), o1, some (.inl x2), o3], []) :: K) σ = (if x2 ≤ 0 then zEv true ((12, 33, [some (.inr (.inr 54)), o1, some (.inl x2), o3], []) :: K) σ else zEv true (zent 6 [.inr (.inr 54), .inl x2] :: (12, 11, [some (.inr (.inr 54)), o1, some (.inl x2), o3], []) :: K) σ) :=
  yI_iload_n zi_12_2 rfl <| yI_if_le zi_12_3 <| yBr (rfl) (yI_aload_n zi_12_6 rfl <| yI_iload_n zi_12_7 rfl <| yI_cv zi_12_8 rfl rfl zk_54 hK)
theorem zj_12_33 {K : List zF} {σ : zW} {o1 : Option zV} {x2 : Int} {o3 : Option zV} : zEv true ((12, 33, [some (.inr (.inr 54)), o1, some (.inl x2), o3], []) :: K) σ = (if 0 < x2 then zRet true K (some (.inl 1)) σ else if (gI σ 54 6) ≤ 1 then zRet true K (some (.inl 0)) σ else zRet true K (some (.inl 1)) σ) :=
  yI_iload_n zi_12_33 rfl <| yI_if_gt zi_12_34 <| yBr (yI_iconst zi_12_45 <| yI_goto zi_12_46 <| yI_zreturn zi_12_50 (by decide)) (yI_aload_n zi_12_37 rfl <| yI_gf_i (v := gI σ 54 6) zi_12_38 zk_54 rfl <| yI_iconst zi_12_41 <| yI_ic_le zi_12_42 <| yBr (yI_iconst zi_12_49 <| yI_zreturn zi_12_50 (by decide)) (yI_iconst zi_12_45 <| yI_goto zi_12_46 <| yI_zreturn zi_12_50 (by decide)))
theorem zr_12_11 {K : List zF} {σ : zW} {o1 : Option zV} {x2 : Int} {o3 : Option zV} {v : Int} (hK : K.length < 60) : zRet true ((12, 11, [some (.inr (.inr 54)), o1, some (.inl x2), o3], []) :: K) (some (.inl v)) σ = (if v = 0 then zEv true ((12, 33, [some (.inr (.inr 54)), o1, some (.inl x2), o3], []) :: K) σ else zEv true (zent 7 [.inr (.inr 54), .inl x2] :: (12, 19, [some (.inr (.inr 54)), o1, some (.inl x2), o3], []) :: K) σ) :=
  yT_rt (yI_if_eq zi_12_11 <| yBr (rfl) (yI_aload_n zi_12_14 rfl <| yI_iload_n zi_12_15 rfl <| yI_cv zi_12_16 rfl rfl zk_54 hK))
theorem zr_12_19 {K : List zF} {σ : zW} {o1 : Option zV} {x2 : Int} {o3 : Option zV} {v : Int} (hK : K.length < 60) : zRet true ((12, 19, [some (.inr (.inr 54)), o1, some (.inl x2), o3], []) :: K) (some (.inl v)) σ = (zEv true (zent 8 [.inr (.inr 54), .inl x2, .inl (w32 (x2 + 1))] :: (12, 28, [some (.inr (.inr 54)), o1, some (.inl x2), some (.inl v)], []) :: K) σ) :=
  yT_rt (yI_istore_n (l := [some (.inr (.inr 54)), o1, some (.inl x2), some (.inl v)]) zi_12_19 rfl rfl <| yI_aload_n zi_12_20 rfl <| yI_iload_n zi_12_21 rfl <| yI_iload_n zi_12_22 rfl <| yI_iconst zi_12_23 <| yI_iadd zi_12_24 <| yI_cv zi_12_25 rfl rfl zk_54 hK)
theorem zr_12_28 {K : List zF} {σ : zW} {o1 : Option zV} {o2 : Option zV} {x3 : Int} : zRet true ((12, 28, [some (.inr (.inr 54)), o1, o2, some (.inl x3)], []) :: K) none σ = (zEv true ((12, 2, [some (.inr (.inr 54)), (zcut 0 o1), some (.inl x3), some (.inl x3)], []) :: K) σ) :=
  yT_rv (yI_iload_n zi_12_28 rfl <| yI_istore_n (l := [some (.inr (.inr 54)), (zcut 0 o1), some (.inl x3), some (.inl x3)]) zi_12_29 rfl rfl <| yI_goto zi_12_30 <| rfl)
/-- 13 Treegrab$Bench.dissolve(I)Z -/
theorem zi_13_0 : zraw 13 0 = some (.aload_n 0, 1) ∧ 0 + 1 = 1 := by decide +kernel
theorem zi_13_1 : zraw 13 1 = some (.iload_n 1, 1) ∧ 1 + 1 = 2 := by decide +kernel
theorem zi_13_2 : zraw 13 2 = some (.invokevirtual 87, 3) ∧ zmt (zinf 13).1 87 = some 5 ∧ Nat.ble 9000 5 = false ∧ zinf 5 = (0, 2, 3, 1, 0) ∧ 2 + 3 = 5 := by decide +kernel
theorem zi_13_5 : zraw 13 5 = some (.istore_n 2, 1) ∧ 5 + 1 = 6 := by decide +kernel
theorem zi_13_6 : zraw 13 6 = some (.aload_n 0, 1) ∧ 6 + 1 = 7 := by decide +kernel
theorem zi_13_7 : zraw 13 7 = some (.iload_n 1, 1) ∧ 7 + 1 = 8 := by decide +kernel
theorem zi_13_8 : zraw 13 8 = some (.invokevirtual 100, 3) ∧ zmt (zinf 13).1 100 = some 6 ∧ Nat.ble 9000 6 = false ∧ zinf 6 = (0, 2, 2, 2, 0) ∧ 8 + 3 = 11 := by decide +kernel
theorem zi_13_11 : zraw 13 11 = some (.ifCond .ne 19, 3) ∧ ((11 : Nat) : Int) + 19 = Int.ofNat 30 ∧ 11 + 3 = 14 := by decide +kernel
theorem zi_13_14 : zraw 13 14 = some (.iload_n 1, 1) ∧ 14 + 1 = 15 := by decide +kernel
theorem zi_13_15 : zraw 13 15 = some (.ifCond .ne 17, 3) ∧ ((15 : Nat) : Int) + 17 = Int.ofNat 32 ∧ 15 + 3 = 18 := by decide +kernel
theorem zi_13_18 : zraw 13 18 = some (.aload_n 0, 1) ∧ 18 + 1 = 19 := by decide +kernel
theorem zi_13_19 : zraw 13 19 = some (.iconst 1, 1) ∧ zin 128 1 = true ∧ 19 + 1 = 20 := by decide +kernel
theorem zi_13_20 : zraw 13 20 = some (.invokevirtual 87, 3) ∧ zmt (zinf 13).1 87 = some 5 ∧ Nat.ble 9000 5 = false ∧ zinf 5 = (0, 2, 3, 1, 0) ∧ 20 + 3 = 23 := by decide +kernel
theorem zi_13_23 : zraw 13 23 = some (.aload_n 0, 1) ∧ 23 + 1 = 24 := by decide +kernel
theorem zi_13_24 : zraw 13 24 = some (.getfield 37, 3) ∧ zft (zinf 13).1 37 = some (0, 6, 0, false) ∧ 24 + 3 = 27 := by decide +kernel
theorem zi_13_27 : zraw 13 27 = some (.if_icmp .ge 5, 3) ∧ ((27 : Nat) : Int) + 5 = Int.ofNat 32 ∧ 27 + 3 = 30 := by decide +kernel
theorem zi_13_30 : zraw 13 30 = some (.iconst 0, 1) ∧ zin 128 0 = true ∧ 30 + 1 = 31 := by decide +kernel
theorem zi_13_31 : zraw 13 31 = some (.ireturn, 1) ∧ (zinf 13).2.2.2.1 = 2 := by decide +kernel
theorem zi_13_32 : zraw 13 32 = some (.iload_n 1, 1) ∧ 32 + 1 = 33 := by decide +kernel
theorem zi_13_33 : zraw 13 33 = some (.iconst 1, 1) ∧ zin 128 1 = true ∧ 33 + 1 = 34 := by decide +kernel
theorem zi_13_34 : zraw 13 34 = some (.iadd, 1) ∧ 34 + 1 = 35 := by decide +kernel
theorem zi_13_35 : zraw 13 35 = some (.istore_n 3, 1) ∧ 35 + 1 = 36 := by decide +kernel
theorem zi_13_36 : zraw 13 36 = some (.iload_n 3, 1) ∧ 36 + 1 = 37 := by decide +kernel
theorem zi_13_37 : zraw 13 37 = some (.iload_n 2, 1) ∧ 37 + 1 = 38 := by decide +kernel
theorem zi_13_38 : zraw 13 38 = some (.if_icmp .ge 19, 3) ∧ ((38 : Nat) : Int) + 19 = Int.ofNat 57 ∧ 38 + 3 = 41 := by decide +kernel
theorem zi_13_41 : zraw 13 41 = some (.aload_n 0, 1) ∧ 41 + 1 = 42 := by decide +kernel
theorem zi_13_42 : zraw 13 42 = some (.getfield 15, 3) ∧ zft (zinf 13).1 15 = some (0, 1, 3, true) ∧ 42 + 3 = 45 := by decide +kernel
theorem zi_13_45 : zraw 13 45 = some (.iload_n 3, 1) ∧ 45 + 1 = 46 := by decide +kernel
theorem zi_13_46 : zraw 13 46 = some (.dup2, 1) ∧ 46 + 1 = 47 := by decide +kernel
theorem zi_13_47 : zraw 13 47 = some (.iaload, 1) ∧ 47 + 1 = 48 := by decide +kernel
theorem zi_13_48 : zraw 13 48 = some (.iconst 1, 1) ∧ zin 128 1 = true ∧ 48 + 1 = 49 := by decide +kernel
theorem zi_13_49 : zraw 13 49 = some (.isub, 1) ∧ 49 + 1 = 50 := by decide +kernel
theorem zi_13_50 : zraw 13 50 = some (.iastore, 1) ∧ 50 + 1 = 51 := by decide +kernel
theorem zi_13_51 : zraw 13 51 = some (.iinc 3 1, 3) ∧ zin 32768 1 = true ∧ 51 + 3 = 54 := by decide +kernel
theorem zi_13_54 : zraw 13 54 = some (.goto (-18), 3) ∧ ((54 : Nat) : Int) + (-18) = Int.ofNat 36 := by decide +kernel
theorem zi_13_57 : zraw 13 57 = some (.aload_n 0, 1) ∧ 57 + 1 = 58 := by decide +kernel
theorem zi_13_58 : zraw 13 58 = some (.iload_n 1, 1) ∧ 58 + 1 = 59 := by decide +kernel
theorem zi_13_59 : zraw 13 59 = some (.iload_n 1, 1) ∧ 59 + 1 = 60 := by decide +kernel
theorem zi_13_60 : zraw 13 60 = some (.iconst 1, 1) ∧ zin 128 1 = true ∧ 60 + 1 = 61 := by decide +kernel
theorem zi_13_61 : zraw 13 61 = some (.iadd, 1) ∧ 61 + 1 = 62 := by decide +kernel
theorem zi_13_62 : zraw 13 62 = some (.invokevirtual 93, 3) ∧ zmt (zinf 13).1 93 = some 8 ∧ Nat.ble 9000 8 = false ∧ zinf 8 = (0, 3, 5, 0, 0) ∧ 62 + 3 = 65 := by decide +kernel
theorem zi_13_65 : zraw 13 65 = some (.iconst 1, 1) ∧ zin 128 1 = true ∧ 65 + 1 = 66 := by decide +kernel
theorem zi_13_66 : zraw 13 66 = some (.ireturn, 1) ∧ (zinf 13).2.2.2.1 = 2 := by decide +kernel
theorem ze_13 {K : List zF} {σ : zW} {x1 : Int} (hK : K.length < 60) : zEv true (zent 13 [.inr (.inr 54), .inl x1] :: K) σ = (zEv true (zent 5 [.inr (.inr 54), .inl x1] :: (13, 5, [some (.inr (.inr 54)), some (.inl x1), none, none], []) :: K) σ) :=
  yT_en (f := (13, 0, [some (.inr (.inr 54)), some (.inl x1), none, none], [])) rfl (yI_aload_n zi_13_0 rfl <| yI_iload_n zi_13_1 rfl <| yI_cv zi_13_2 rfl rfl zk_54 hK)
theorem zr_13_5 {K : List zF} {σ : zW} {x1 : Int} {o2 : Option zV} {o3 : Option zV} {v : Int} (hK : K.length < 60) : zRet true ((13, 5, [some (.inr (.inr 54)), some (.inl x1), o2, o3], []) :: K) (some (.inl v)) σ = (zEv true (zent 6 [.inr (.inr 54), .inl x1] :: (13, 11, [some (.inr (.inr 54)), some (.inl x1), some (.inl v), o3], []) :: K) σ) :=
  yT_rt (yI_istore_n (l := [some (.inr (.inr 54)), some (.inl x1), some (.inl v), o3]) zi_13_5 rfl rfl <| yI_aload_n zi_13_6 rfl <| yI_iload_n zi_13_7 rfl <| yI_cv zi_13_8 rfl rfl zk_54 hK)
theorem zr_13_11 {K : List zF} {σ : zW} {x1 : Int} {x2 : Int} {o3 : Option zV} {v : Int} (hK : K.length < 60) : zRet true ((13, 11, [some (.inr (.inr 54)), some (.inl x1), some (.inl x2), o3], []) :: K) (some (.inl v)) σ = (if ¬ v = 0 then zRet true K (some (.inl 0)) σ else if ¬ x1 = 0 then zEv true ((13, 32, [some (.inr (.inr 54)), some (.inl x1), some (.inl x2), o3], []) :: K) σ else zEv true (zent 5 [.inr (.inr 54), .inl 1] :: (13, 23, [some (.inr (.inr 54)), some (.inl x1), some (.inl x2), o3], []) :: K) σ) :=
  yT_rt (yI_if_ne zi_13_11 <| yBr (yI_iconst zi_13_30 <| yI_zreturn zi_13_31 (by decide)) (yI_iload_n zi_13_14 rfl <| yI_if_ne zi_13_15 <| yBr (rfl) (yI_aload_n zi_13_18 rfl <| yI_iconst zi_13_19 <| yI_cv zi_13_20 rfl rfl zk_54 hK)))
theorem zj_13_32 {K : List zF} {σ : zW} {x1 : Int} {x2 : Int} {o3 : Option zV} : zEv true ((13, 32, [some (.inr (.inr 54)), some (.inl x1), some (.inl x2), o3], []) :: K) σ = (zEv true ((13, 36, [some (.inr (.inr 54)), some (.inl x1), some (.inl x2), some (.inl (w32 (x1 + 1)))], []) :: K) σ) :=
  yI_iload_n zi_13_32 rfl <| yI_iconst zi_13_33 <| yI_iadd zi_13_34 <| yI_istore_n (l := [some (.inr (.inr 54)), some (.inl x1), some (.inl x2), some (.inl (w32 (x1 + 1)))]) zi_13_35 rfl rfl <| rfl
theorem zr_13_23 {K : List zF} {σ : zW} {x1 : Int} {x2 : Int} {o3 : Option zV} {v : Int} : zRet true ((13, 23, [some (.inr (.inr 54)), some (.inl x1), some (.inl x2), o3], []) :: K) (some (.inl v)) σ = (if (gI σ 54 6) ≤ v then zEv true ((13, 32, [some (.inr (.inr 54)), some (.inl x1), some (.inl x2), o3], []) :: K) σ else zRet true K (some (.inl 0)) σ) :=
  yT_rt (yI_aload_n zi_13_23 rfl <| yI_gf_i (v := gI σ 54 6) zi_13_24 zk_54 rfl <| yI_ic_ge zi_13_27 <| yBr (rfl) (yI_iconst zi_13_30 <| yI_zreturn zi_13_31 (by decide)))
theorem zj_13_36 {K : List zF} {σ : zW} {x1 : Int} {x2 : Int} {x3 : Int} (hK : K.length < 60) : zEv true ((13, 36, [some (.inr (.inr 54)), some (.inl x1), some (.inl x2), some (.inl x3)], []) :: K) σ = (if x2 ≤ x3 then zEv true (zent 8 [.inr (.inr 54), .inl x1, .inl (w32 (x1 + 1))] :: (13, 65, [some (.inr (.inr 54)), some (.inl x1), some (.inl x2), some (.inl x3)], []) :: K) σ else (0 ≤ x3 ∧ x3 < 20) ∧ ((0 ≤ x3 ∧ x3 < 20) ∧ zEv true ((13, 36, [some (.inr (.inr 54)), some (.inl x1), some (.inl x2), some (.inl (w32 (x3 + 1)))], []) :: K) (sI σ 56 x3.toNat (w32 ((gI σ 56 x3.toNat) - 1))))) :=
  yI_iload_n zi_13_36 rfl <| yI_iload_n zi_13_37 rfl <| yI_ic_ge zi_13_38 <| yBr (yI_aload_n zi_13_57 rfl <| yI_iload_n zi_13_58 rfl <| yI_iload_n zi_13_59 rfl <| yI_iconst zi_13_60 <| yI_iadd zi_13_61 <| yI_cv zi_13_62 rfl rfl zk_54 hK) (yI_aload_n zi_13_41 rfl <| yI_gf_f (v := 56) zi_13_42 zk_54 rfl <| yI_iload_n zi_13_45 rfl <| yI_dup2_ir zi_13_46 <| yI_ialoadc (v := gI σ 56 x3.toNat) zi_13_47 za_56 rfl <| yI_iconst zi_13_48 <| yI_isub zi_13_49 <| yI_iastorec zi_13_50 za_56 <| yI_iinc (l := [some (.inr (.inr 54)), some (.inl x1), some (.inl x2), some (.inl (w32 (x3 + 1)))]) zi_13_51 rfl rfl rfl <| yI_goto zi_13_54 <| rfl)
theorem zr_13_65 {K : List zF} {σ : zW} {o0 : Option zV} {o1 : Option zV} {o2 : Option zV} {o3 : Option zV} : zRet true ((13, 65, [o0, o1, o2, o3], []) :: K) none σ = (zRet true K (some (.inl 1)) σ) :=
  yT_rv (yI_iconst zi_13_65 <| yI_zreturn zi_13_66 (by decide))
/-- 14 Treegrab$Bench.enclose(IJ)Z -/
theorem zi_14_0 : zraw 14 0 = some (.aload_n 0, 1) ∧ 0 + 1 = 1 := by decide +kernel
theorem zi_14_1 : zraw 14 1 = some (.getfield 37, 3) ∧ zft (zinf 14).1 37 = some (0, 6, 0, false) ∧ 1 + 3 = 4 := by decide +kernel
theorem zi_14_4 : zraw 14 4 = some (.bipush 20, 2) ∧ zin 128 20 = true ∧ 4 + 2 = 6 := by decide +kernel
theorem zi_14_6 : zraw 14 6 = some (.if_icmp .lt 5, 3) ∧ ((6 : Nat) : Int) + 5 = Int.ofNat 11 ∧ 6 + 3 = 9 := by decide +kernel
theorem zi_14_9 : zraw 14 9 = some (.iconst 0, 1) ∧ zin 128 0 = true ∧ 9 + 1 = 10 := by decide +kernel
theorem zi_14_10 : zraw 14 10 = some (.ireturn, 1) ∧ (zinf 14).2.2.2.1 = 2 := by decide +kernel
theorem zi_14_11 : zraw 14 11 = some (.aload_n 0, 1) ∧ 11 + 1 = 12 := by decide +kernel
theorem zi_14_12 : zraw 14 12 = some (.iload_n 1, 1) ∧ 12 + 1 = 13 := by decide +kernel
theorem zi_14_13 : zraw 14 13 = some (.invokevirtual 87, 3) ∧ zmt (zinf 14).1 87 = some 5 ∧ Nat.ble 9000 5 = false ∧ zinf 5 = (0, 2, 3, 1, 0) ∧ 13 + 3 = 16 := by decide +kernel
theorem zi_14_16 : zraw 14 16 = some (.istore 4, 2) ∧ 16 + 2 = 18 := by decide +kernel
theorem zi_14_18 : zraw 14 18 = some (.aload_n 0, 1) ∧ 18 + 1 = 19 := by decide +kernel
theorem zi_14_19 : zraw 14 19 = some (.getfield 15, 3) ∧ zft (zinf 14).1 15 = some (0, 1, 3, true) ∧ 19 + 3 = 22 := by decide +kernel
theorem zi_14_22 : zraw 14 22 = some (.iload_n 1, 1) ∧ 22 + 1 = 23 := by decide +kernel
theorem zi_14_23 : zraw 14 23 = some (.iaload, 1) ∧ 23 + 1 = 24 := by decide +kernel
theorem zi_14_24 : zraw 14 24 = some (.istore 5, 2) ∧ 24 + 2 = 26 := by decide +kernel
theorem zi_14_26 : zraw 14 26 = some (.iload_n 1, 1) ∧ 26 + 1 = 27 := by decide +kernel
theorem zi_14_27 : zraw 14 27 = some (.istore 6, 2) ∧ 27 + 2 = 29 := by decide +kernel
theorem zi_14_29 : zraw 14 29 = some (.iload 6, 2) ∧ 29 + 2 = 31 := by decide +kernel
theorem zi_14_31 : zraw 14 31 = some (.iload 4, 2) ∧ 31 + 2 = 33 := by decide +kernel
theorem zi_14_33 : zraw 14 33 = some (.if_icmp .ge 20, 3) ∧ ((33 : Nat) : Int) + 20 = Int.ofNat 53 ∧ 33 + 3 = 36 := by decide +kernel
theorem zi_14_36 : zraw 14 36 = some (.aload_n 0, 1) ∧ 36 + 1 = 37 := by decide +kernel
theorem zi_14_37 : zraw 14 37 = some (.getfield 15, 3) ∧ zft (zinf 14).1 15 = some (0, 1, 3, true) ∧ 37 + 3 = 40 := by decide +kernel
theorem zi_14_40 : zraw 14 40 = some (.iload 6, 2) ∧ 40 + 2 = 42 := by decide +kernel
theorem zi_14_42 : zraw 14 42 = some (.dup2, 1) ∧ 42 + 1 = 43 := by decide +kernel
theorem zi_14_43 : zraw 14 43 = some (.iaload, 1) ∧ 43 + 1 = 44 := by decide +kernel
theorem zi_14_44 : zraw 14 44 = some (.iconst 1, 1) ∧ zin 128 1 = true ∧ 44 + 1 = 45 := by decide +kernel
theorem zi_14_45 : zraw 14 45 = some (.iadd, 1) ∧ 45 + 1 = 46 := by decide +kernel
theorem zi_14_46 : zraw 14 46 = some (.iastore, 1) ∧ 46 + 1 = 47 := by decide +kernel
theorem zi_14_47 : zraw 14 47 = some (.iinc 6 1, 3) ∧ zin 32768 1 = true ∧ 47 + 3 = 50 := by decide +kernel
theorem zi_14_50 : zraw 14 50 = some (.goto (-21), 3) ∧ ((50 : Nat) : Int) + (-21) = Int.ofNat 29 := by decide +kernel
theorem zi_14_53 : zraw 14 53 = some (.aload_n 0, 1) ∧ 53 + 1 = 54 := by decide +kernel
theorem zi_14_54 : zraw 14 54 = some (.iload_n 1, 1) ∧ 54 + 1 = 55 := by decide +kernel
theorem zi_14_55 : zraw 14 55 = some (.iconst 1, 1) ∧ zin 128 1 = true ∧ 55 + 1 = 56 := by decide +kernel
theorem zi_14_56 : zraw 14 56 = some (.invokevirtual 103, 3) ∧ zmt (zinf 14).1 103 = some 9 ∧ Nat.ble 9000 9 = false ∧ zinf 9 = (0, 3, 4, 0, 0) ∧ 56 + 3 = 59 := by decide +kernel
theorem zi_14_59 : zraw 14 59 = some (.aload_n 0, 1) ∧ 59 + 1 = 60 := by decide +kernel
theorem zi_14_60 : zraw 14 60 = some (.iload_n 1, 1) ∧ 60 + 1 = 61 := by decide +kernel
theorem zi_14_61 : zraw 14 61 = some (.lload_n 2, 1) ∧ 61 + 1 = 62 := by decide +kernel
theorem zi_14_62 : zraw 14 62 = some (.iload 5, 2) ∧ 62 + 2 = 64 := by decide +kernel
theorem zi_14_64 : zraw 14 64 = some (.invokevirtual 106, 3) ∧ zmt (zinf 14).1 106 = some 10 ∧ Nat.ble 9000 10 = false ∧ zinf 10 = (0, 4, 5, 0, 0) ∧ 64 + 3 = 67 := by decide +kernel
theorem zi_14_67 : zraw 14 67 = some (.iconst 1, 1) ∧ zin 128 1 = true ∧ 67 + 1 = 68 := by decide +kernel
theorem zi_14_68 : zraw 14 68 = some (.ireturn, 1) ∧ (zinf 14).2.2.2.1 = 2 := by decide +kernel
theorem ze_14 {K : List zF} {σ : zW} {x1 : Int} {x2 : Int64} (hK : K.length < 60) : zEv true (zent 14 [.inr (.inr 54), .inl x1, .inr (.inl x2)] :: K) σ = (if (gI σ 54 6) < 20 then zEv true (zent 5 [.inr (.inr 54), .inl x1] :: (14, 16, [some (.inr (.inr 54)), some (.inl x1), some (.inr (.inl x2)), none, none, none, none], []) :: K) σ else zRet true K (some (.inl 0)) σ) :=
  yT_en (f := (14, 0, [some (.inr (.inr 54)), some (.inl x1), some (.inr (.inl x2)), none, none, none, none], [])) rfl (yI_aload_n zi_14_0 rfl <| yI_gf_i (v := gI σ 54 6) zi_14_1 zk_54 rfl <| yI_bipush zi_14_4 <| yI_ic_lt zi_14_6 <| yBr (yI_aload_n zi_14_11 rfl <| yI_iload_n zi_14_12 rfl <| yI_cv zi_14_13 rfl rfl zk_54 hK) (yI_iconst zi_14_9 <| yI_zreturn zi_14_10 (by decide)))
theorem zr_14_16 {K : List zF} {σ : zW} {x1 : Int} {x2 : Int64} {o4 : Option zV} {o5 : Option zV} {o6 : Option zV} {v : Int} : zRet true ((14, 16, [some (.inr (.inr 54)), some (.inl x1), some (.inr (.inl x2)), none, o4, o5, o6], []) :: K) (some (.inl v)) σ = ((0 ≤ x1 ∧ x1 < 20) ∧ zEv true ((14, 29, [some (.inr (.inr 54)), some (.inl x1), some (.inr (.inl x2)), none, some (.inl v), some (.inl (gI σ 56 x1.toNat)), some (.inl x1)], []) :: K) σ) :=
  yT_rt (yI_istore (l := [some (.inr (.inr 54)), some (.inl x1), some (.inr (.inl x2)), none, some (.inl v), o5, o6]) zi_14_16 rfl rfl <| yI_aload_n zi_14_18 rfl <| yI_gf_f (v := 56) zi_14_19 zk_54 rfl <| yI_iload_n zi_14_22 rfl <| yI_ialoadc (v := gI σ 56 x1.toNat) zi_14_23 za_56 rfl <| yI_istore (l := [some (.inr (.inr 54)), some (.inl x1), some (.inr (.inl x2)), none, some (.inl v), some (.inl (gI σ 56 x1.toNat)), o6]) zi_14_24 rfl rfl <| yI_iload_n zi_14_26 rfl <| yI_istore (l := [some (.inr (.inr 54)), some (.inl x1), some (.inr (.inl x2)), none, some (.inl v), some (.inl (gI σ 56 x1.toNat)), some (.inl x1)]) zi_14_27 rfl rfl <| rfl)
theorem zj_14_29 {K : List zF} {σ : zW} {x1 : Int} {x2 : Int64} {x4 : Int} {x5 : Int} {x6 : Int} (hK : K.length < 60) : zEv true ((14, 29, [some (.inr (.inr 54)), some (.inl x1), some (.inr (.inl x2)), none, some (.inl x4), some (.inl x5), some (.inl x6)], []) :: K) σ = (if x4 ≤ x6 then zEv true (zent 9 [.inr (.inr 54), .inl x1, .inl 1] :: (14, 59, [some (.inr (.inr 54)), some (.inl x1), some (.inr (.inl x2)), none, some (.inl x4), some (.inl x5), some (.inl x6)], []) :: K) σ else (0 ≤ x6 ∧ x6 < 20) ∧ ((0 ≤ x6 ∧ x6 < 20) ∧ zEv true ((14, 29, [some (.inr (.inr 54)), some (.inl x1), some (.inr (.inl x2)), none, some (.inl x4), some (.inl x5), some (.inl (w32 (x6 + 1)))], []) :: K) (sI σ 56 x6.toNat (w32 ((gI σ 56 x6.toNat) + 1))))) :=
  yI_iload zi_14_29 rfl <| yI_iload zi_14_31 rfl <| yI_ic_ge zi_14_33 <| yBr (yI_aload_n zi_14_53 rfl <| yI_iload_n zi_14_54 rfl <| yI_iconst zi_14_55 <| yI_cv zi_14_56 rfl rfl zk_54 hK) (yI_aload_n zi_14_36 rfl <| yI_gf_f (v := 56) zi_14_37 zk_54 rfl <| yI_iload zi_14_40 rfl <| yI_dup2_ir zi_14_42 <| yI_ialoadc (v := gI σ 56 x6.toNat) zi_14_43 za_56 rfl <| yI_iconst zi_14_44 <| yI_iadd zi_14_45 <| yI_iastorec zi_14_46 za_56 <| yI_iinc (l := [some (.inr (.inr 54)), some (.inl x1), some (.inr (.inl x2)), none, some (.inl x4), some (.inl x5), some (.inl (w32 (x6 + 1)))]) zi_14_47 rfl rfl rfl <| yI_goto zi_14_50 <| rfl)
theorem zr_14_59 {K : List zF} {σ : zW} {x1 : Int} {x2 : Int64} {o4 : Option zV} {x5 : Int} {o6 : Option zV} (hK : K.length < 60) : zRet true ((14, 59, [some (.inr (.inr 54)), some (.inl x1), some (.inr (.inl x2)), none, o4, some (.inl x5), o6], []) :: K) none σ = (zEv true (zent 10 [.inr (.inr 54), .inl x1, .inr (.inl x2), .inl x5] :: (14, 67, [some (.inr (.inr 54)), some (.inl x1), some (.inr (.inl x2)), none, o4, some (.inl x5), o6], []) :: K) σ) :=
  yT_rv (yI_aload_n zi_14_59 rfl <| yI_iload_n zi_14_60 rfl <| yI_lload_n zi_14_61 rfl <| yI_iload zi_14_62 rfl <| yI_cv zi_14_64 rfl rfl zk_54 hK)
theorem zr_14_67 {K : List zF} {σ : zW} {o0 : Option zV} {o1 : Option zV} {o2 : Option zV} {o3 : Option zV} {o4 : Option zV} {o5 : Option zV} {o6 : Option zV} : zRet true ((14, 67, [o0, o1, o2, o3, o4, o5, o6], []) :: K) none σ = (zRet true K (some (.inl 1)) σ) :=
  yT_rv (yI_iconst zi_14_67 <| yI_zreturn zi_14_68 (by decide))
/-- 15 Treegrab$Bench.isRefused(II)Z -/
theorem zi_15_0 : zraw 15 0 = some (.iload_n 1, 1) ∧ 0 + 1 = 1 := by decide +kernel
theorem zi_15_1 : zraw 15 1 = some (.ifCond .eq 8, 3) ∧ ((1 : Nat) : Int) + 8 = Int.ofNat 9 ∧ 1 + 3 = 4 := by decide +kernel
theorem zi_15_4 : zraw 15 4 = some (.iload_n 1, 1) ∧ 4 + 1 = 5 := by decide +kernel
theorem zi_15_5 : zraw 15 5 = some (.iconst 1, 1) ∧ zin 128 1 = true ∧ 5 + 1 = 6 := by decide +kernel
theorem zi_15_6 : zraw 15 6 = some (.if_icmp .ne 11, 3) ∧ ((6 : Nat) : Int) + 11 = Int.ofNat 17 ∧ 6 + 3 = 9 := by decide +kernel
theorem zi_15_9 : zraw 15 9 = some (.aload_n 0, 1) ∧ 9 + 1 = 10 := by decide +kernel
theorem zi_15_10 : zraw 15 10 = some (.iload_n 2, 1) ∧ 10 + 1 = 11 := by decide +kernel
theorem zi_15_11 : zraw 15 11 = some (.invokevirtual 100, 3) ∧ zmt (zinf 15).1 100 = some 6 ∧ Nat.ble 9000 6 = false ∧ zinf 6 = (0, 2, 2, 2, 0) ∧ 11 + 3 = 14 := by decide +kernel
theorem zi_15_14 : zraw 15 14 = some (.goto 12, 3) ∧ ((14 : Nat) : Int) + 12 = Int.ofNat 26 := by decide +kernel
theorem zi_15_17 : zraw 15 17 = some (.iload_n 2, 1) ∧ 17 + 1 = 18 := by decide +kernel
theorem zi_15_18 : zraw 15 18 = some (.ifCond .ne 7, 3) ∧ ((18 : Nat) : Int) + 7 = Int.ofNat 25 ∧ 18 + 3 = 21 := by decide +kernel
theorem zi_15_21 : zraw 15 21 = some (.iconst 1, 1) ∧ zin 128 1 = true ∧ 21 + 1 = 22 := by decide +kernel
theorem zi_15_22 : zraw 15 22 = some (.goto 4, 3) ∧ ((22 : Nat) : Int) + 4 = Int.ofNat 26 := by decide +kernel
theorem zi_15_25 : zraw 15 25 = some (.iconst 0, 1) ∧ zin 128 0 = true ∧ 25 + 1 = 26 := by decide +kernel
theorem zi_15_26 : zraw 15 26 = some (.ireturn, 1) ∧ (zinf 15).2.2.2.1 = 2 := by decide +kernel
theorem ze_15 {K : List zF} {σ : zW} {x1 : Int} {x2 : Int} : zEv true (zent 15 [.inr (.inr 54), .inl x1, .inl x2] :: K) σ = (if x1 = 0 then zEv true ((15, 9, [some (.inr (.inr 54)), some (.inl x1), some (.inl x2)], []) :: K) σ else if ¬ x1 = 1 then if ¬ x2 = 0 then zRet true K (some (.inl 0)) σ else zRet true K (some (.inl 1)) σ else zEv true ((15, 9, [some (.inr (.inr 54)), some (.inl x1), some (.inl x2)], []) :: K) σ) :=
  yT_en (f := (15, 0, [some (.inr (.inr 54)), some (.inl x1), some (.inl x2)], [])) rfl (yI_iload_n zi_15_0 rfl <| yI_if_eq zi_15_1 <| yBr (rfl) (yI_iload_n zi_15_4 rfl <| yI_iconst zi_15_5 <| yI_ic_ne zi_15_6 <| yBr (yI_iload_n zi_15_17 rfl <| yI_if_ne zi_15_18 <| yBr (yI_iconst zi_15_25 <| yI_zreturn zi_15_26 (by decide)) (yI_iconst zi_15_21 <| yI_goto zi_15_22 <| yI_zreturn zi_15_26 (by decide))) (rfl)))
theorem zj_15_9 {K : List zF} {σ : zW} {o1 : Option zV} {x2 : Int} (hK : K.length < 60) : zEv true ((15, 9, [some (.inr (.inr 54)), o1, some (.inl x2)], []) :: K) σ = (zEv true (zent 6 [.inr (.inr 54), .inl x2] :: (15, 14, [some (.inr (.inr 54)), o1, some (.inl x2)], []) :: K) σ) :=
  yI_aload_n zi_15_9 rfl <| yI_iload_n zi_15_10 rfl <| yI_cv zi_15_11 rfl rfl zk_54 hK
theorem zr_15_14 {K : List zF} {σ : zW} {o0 : Option zV} {o1 : Option zV} {o2 : Option zV} {v : Int} : zRet true ((15, 14, [o0, o1, o2], []) :: K) (some (.inl v)) σ = ((v = 0 ∨ v = 1) ∧ zRet true K (some (.inl v)) σ) :=
  yT_rt (yI_goto zi_15_14 <| yI_zreturnc zi_15_26)
/-- 16 Treegrab$Bench.spotAt(II)I -/
theorem zi_16_0 : zraw 16 0 = some (.iload_n 1, 1) ∧ 0 + 1 = 1 := by decide +kernel
theorem zi_16_1 : zraw 16 1 = some (.iconst 2, 1) ∧ zin 128 2 = true ∧ 1 + 1 = 2 := by decide +kernel
theorem zi_16_2 : zraw 16 2 = some (.if_icmp .ne 5, 3) ∧ ((2 : Nat) : Int) + 5 = Int.ofNat 7 ∧ 2 + 3 = 5 := by decide +kernel
theorem zi_16_5 : zraw 16 5 = some (.iload_n 2, 1) ∧ 5 + 1 = 6 := by decide +kernel
theorem zi_16_6 : zraw 16 6 = some (.ireturn, 1) ∧ (zinf 16).2.2.2.1 = 1 := by decide +kernel
theorem zi_16_7 : zraw 16 7 = some (.iload_n 1, 1) ∧ 7 + 1 = 8 := by decide +kernel
theorem zi_16_8 : zraw 16 8 = some (.ifCond .ne 9, 3) ∧ ((8 : Nat) : Int) + 9 = Int.ofNat 17 ∧ 8 + 3 = 11 := by decide +kernel
theorem zi_16_11 : zraw 16 11 = some (.iload_n 2, 1) ∧ 11 + 1 = 12 := by decide +kernel
theorem zi_16_12 : zraw 16 12 = some (.iconst 1, 1) ∧ zin 128 1 = true ∧ 12 + 1 = 13 := by decide +kernel
theorem zi_16_13 : zraw 16 13 = some (.iadd, 1) ∧ 13 + 1 = 14 := by decide +kernel
theorem zi_16_14 : zraw 16 14 = some (.goto 8, 3) ∧ ((14 : Nat) : Int) + 8 = Int.ofNat 22 := by decide +kernel
theorem zi_16_17 : zraw 16 17 = some (.aload_n 0, 1) ∧ 17 + 1 = 18 := by decide +kernel
theorem zi_16_18 : zraw 16 18 = some (.iload_n 2, 1) ∧ 18 + 1 = 19 := by decide +kernel
theorem zi_16_19 : zraw 16 19 = some (.invokevirtual 87, 3) ∧ zmt (zinf 16).1 87 = some 5 ∧ Nat.ble 9000 5 = false ∧ zinf 5 = (0, 2, 3, 1, 0) ∧ 19 + 3 = 22 := by decide +kernel
theorem zi_16_22 : zraw 16 22 = some (.ireturn, 1) ∧ (zinf 16).2.2.2.1 = 1 := by decide +kernel
theorem ze_16 {K : List zF} {σ : zW} {x1 : Int} {x2 : Int} (hK : K.length < 60) : zEv true (zent 16 [.inr (.inr 54), .inl x1, .inl x2] :: K) σ = (if ¬ x1 = 2 then if ¬ x1 = 0 then zEv true (zent 5 [.inr (.inr 54), .inl x2] :: (16, 22, [some (.inr (.inr 54)), some (.inl x1), some (.inl x2)], []) :: K) σ else zRet true K (some (.inl (w32 (x2 + 1)))) σ else zRet true K (some (.inl x2)) σ) :=
  yT_en (f := (16, 0, [some (.inr (.inr 54)), some (.inl x1), some (.inl x2)], [])) rfl (yI_iload_n zi_16_0 rfl <| yI_iconst zi_16_1 <| yI_ic_ne zi_16_2 <| yBr (yI_iload_n zi_16_7 rfl <| yI_if_ne zi_16_8 <| yBr (yI_aload_n zi_16_17 rfl <| yI_iload_n zi_16_18 rfl <| yI_cv zi_16_19 rfl rfl zk_54 hK) (yI_iload_n zi_16_11 rfl <| yI_iconst zi_16_12 <| yI_iadd zi_16_13 <| yI_goto zi_16_14 <| yI_ireturn zi_16_22)) (yI_iload_n zi_16_5 rfl <| yI_ireturn zi_16_6))
theorem zr_16_22 {K : List zF} {σ : zW} {o0 : Option zV} {o1 : Option zV} {o2 : Option zV} {v : Int} : zRet true ((16, 22, [o0, o1, o2], []) :: K) (some (.inl v)) σ = (zRet true K (some (.inl v)) σ) :=
  yT_rt (yI_ireturn zi_16_22)
/-- 17 Treegrab$Bench.depthAt(II)I -/
theorem zi_17_0 : zraw 17 0 = some (.iload_n 1, 1) ∧ 0 + 1 = 1 := by decide +kernel
theorem zi_17_1 : zraw 17 1 = some (.ifCond .eq 8, 3) ∧ ((1 : Nat) : Int) + 8 = Int.ofNat 9 ∧ 1 + 3 = 4 := by decide +kernel
theorem zi_17_4 : zraw 17 4 = some (.iload_n 1, 1) ∧ 4 + 1 = 5 := by decide +kernel
theorem zi_17_5 : zraw 17 5 = some (.iconst 1, 1) ∧ zin 128 1 = true ∧ 5 + 1 = 6 := by decide +kernel
theorem zi_17_6 : zraw 17 6 = some (.if_icmp .ne 14, 3) ∧ ((6 : Nat) : Int) + 14 = Int.ofNat 20 ∧ 6 + 3 = 9 := by decide +kernel
theorem zi_17_9 : zraw 17 9 = some (.aload_n 0, 1) ∧ 9 + 1 = 10 := by decide +kernel
theorem zi_17_10 : zraw 17 10 = some (.getfield 15, 3) ∧ zft (zinf 17).1 15 = some (0, 1, 3, true) ∧ 10 + 3 = 13 := by decide +kernel
theorem zi_17_13 : zraw 17 13 = some (.iload_n 2, 1) ∧ 13 + 1 = 14 := by decide +kernel
theorem zi_17_14 : zraw 17 14 = some (.iaload, 1) ∧ 14 + 1 = 15 := by decide +kernel
theorem zi_17_15 : zraw 17 15 = some (.iconst 1, 1) ∧ zin 128 1 = true ∧ 15 + 1 = 16 := by decide +kernel
theorem zi_17_16 : zraw 17 16 = some (.iadd, 1) ∧ 16 + 1 = 17 := by decide +kernel
theorem zi_17_17 : zraw 17 17 = some (.goto 9, 3) ∧ ((17 : Nat) : Int) + 9 = Int.ofNat 26 := by decide +kernel
theorem zi_17_20 : zraw 17 20 = some (.aload_n 0, 1) ∧ 20 + 1 = 21 := by decide +kernel
theorem zi_17_21 : zraw 17 21 = some (.getfield 15, 3) ∧ zft (zinf 17).1 15 = some (0, 1, 3, true) ∧ 21 + 3 = 24 := by decide +kernel
theorem zi_17_24 : zraw 17 24 = some (.iload_n 2, 1) ∧ 24 + 1 = 25 := by decide +kernel
theorem zi_17_25 : zraw 17 25 = some (.iaload, 1) ∧ 25 + 1 = 26 := by decide +kernel
theorem zi_17_26 : zraw 17 26 = some (.ireturn, 1) ∧ (zinf 17).2.2.2.1 = 1 := by decide +kernel
theorem ze_17 {K : List zF} {σ : zW} {x1 : Int} {x2 : Int} : zEv true (zent 17 [.inr (.inr 54), .inl x1, .inl x2] :: K) σ = (if x1 = 0 then zEv true ((17, 9, [some (.inr (.inr 54)), some (.inl x1), some (.inl x2)], []) :: K) σ else if ¬ x1 = 1 then (0 ≤ x2 ∧ x2 < 20) ∧ zRet true K (some (.inl (gI σ 56 x2.toNat))) σ else zEv true ((17, 9, [some (.inr (.inr 54)), some (.inl x1), some (.inl x2)], []) :: K) σ) :=
  yT_en (f := (17, 0, [some (.inr (.inr 54)), some (.inl x1), some (.inl x2)], [])) rfl (yI_iload_n zi_17_0 rfl <| yI_if_eq zi_17_1 <| yBr (rfl) (yI_iload_n zi_17_4 rfl <| yI_iconst zi_17_5 <| yI_ic_ne zi_17_6 <| yBr (yI_aload_n zi_17_20 rfl <| yI_gf_f (v := 56) zi_17_21 zk_54 rfl <| yI_iload_n zi_17_24 rfl <| yI_ialoadc (v := gI σ 56 x2.toNat) zi_17_25 za_56 rfl <| yI_ireturn zi_17_26) (rfl)))
theorem zj_17_9 {K : List zF} {σ : zW} {o1 : Option zV} {x2 : Int} : zEv true ((17, 9, [some (.inr (.inr 54)), o1, some (.inl x2)], []) :: K) σ = ((0 ≤ x2 ∧ x2 < 20) ∧ zRet true K (some (.inl (w32 ((gI σ 56 x2.toNat) + 1)))) σ) :=
  yI_aload_n zi_17_9 rfl <| yI_gf_f (v := 56) zi_17_10 zk_54 rfl <| yI_iload_n zi_17_13 rfl <| yI_ialoadc (v := gI σ 56 x2.toNat) zi_17_14 za_56 rfl <| yI_iconst zi_17_15 <| yI_iadd zi_17_16 <| yI_goto zi_17_17 <| yI_ireturn zi_17_26
/-- 18 Treegrab$Bench.putNew(JII)Z -/
theorem zi_18_0 : zraw 18 0 = some (.aload_n 0, 1) ∧ 0 + 1 = 1 := by decide +kernel
theorem zi_18_1 : zraw 18 1 = some (.getfield 37, 3) ∧ zft (zinf 18).1 37 = some (0, 6, 0, false) ∧ 1 + 3 = 4 := by decide +kernel
theorem zi_18_4 : zraw 18 4 = some (.bipush 20, 2) ∧ zin 128 20 = true ∧ 4 + 2 = 6 := by decide +kernel
theorem zi_18_6 : zraw 18 6 = some (.if_icmp .ge 13, 3) ∧ ((6 : Nat) : Int) + 13 = Int.ofNat 19 ∧ 6 + 3 = 9 := by decide +kernel
theorem zi_18_9 : zraw 18 9 = some (.aload_n 0, 1) ∧ 9 + 1 = 10 := by decide +kernel
theorem zi_18_10 : zraw 18 10 = some (.iload_n 3, 1) ∧ 10 + 1 = 11 := by decide +kernel
theorem zi_18_11 : zraw 18 11 = some (.iload 4, 2) ∧ 11 + 2 = 13 := by decide +kernel
theorem zi_18_13 : zraw 18 13 = some (.invokevirtual 110, 3) ∧ zmt (zinf 18).1 110 = some 15 ∧ Nat.ble 9000 15 = false ∧ zinf 15 = (0, 3, 3, 2, 0) ∧ 13 + 3 = 16 := by decide +kernel
theorem zi_18_16 : zraw 18 16 = some (.ifCond .eq 5, 3) ∧ ((16 : Nat) : Int) + 5 = Int.ofNat 21 ∧ 16 + 3 = 19 := by decide +kernel
theorem zi_18_19 : zraw 18 19 = some (.iconst 0, 1) ∧ zin 128 0 = true ∧ 19 + 1 = 20 := by decide +kernel
theorem zi_18_20 : zraw 18 20 = some (.ireturn, 1) ∧ (zinf 18).2.2.2.1 = 2 := by decide +kernel
theorem zi_18_21 : zraw 18 21 = some (.aload_n 0, 1) ∧ 21 + 1 = 22 := by decide +kernel
theorem zi_18_22 : zraw 18 22 = some (.iload_n 3, 1) ∧ 22 + 1 = 23 := by decide +kernel
theorem zi_18_23 : zraw 18 23 = some (.iload 4, 2) ∧ 23 + 2 = 25 := by decide +kernel
theorem zi_18_25 : zraw 18 25 = some (.invokevirtual 114, 3) ∧ zmt (zinf 18).1 114 = some 16 ∧ Nat.ble 9000 16 = false ∧ zinf 16 = (0, 3, 3, 1, 0) ∧ 25 + 3 = 28 := by decide +kernel
theorem zi_18_28 : zraw 18 28 = some (.istore 5, 2) ∧ 28 + 2 = 30 := by decide +kernel
theorem zi_18_30 : zraw 18 30 = some (.aload_n 0, 1) ∧ 30 + 1 = 31 := by decide +kernel
theorem zi_18_31 : zraw 18 31 = some (.iload_n 3, 1) ∧ 31 + 1 = 32 := by decide +kernel
theorem zi_18_32 : zraw 18 32 = some (.iload 4, 2) ∧ 32 + 2 = 34 := by decide +kernel
theorem zi_18_34 : zraw 18 34 = some (.invokevirtual 118, 3) ∧ zmt (zinf 18).1 118 = some 17 ∧ Nat.ble 9000 17 = false ∧ zinf 17 = (0, 3, 3, 1, 0) ∧ 34 + 3 = 37 := by decide +kernel
theorem zi_18_37 : zraw 18 37 = some (.istore 6, 2) ∧ 37 + 2 = 39 := by decide +kernel
theorem zi_18_39 : zraw 18 39 = some (.aload_n 0, 1) ∧ 39 + 1 = 40 := by decide +kernel
theorem zi_18_40 : zraw 18 40 = some (.iload 5, 2) ∧ 40 + 2 = 42 := by decide +kernel
theorem zi_18_42 : zraw 18 42 = some (.iconst 1, 1) ∧ zin 128 1 = true ∧ 42 + 1 = 43 := by decide +kernel
theorem zi_18_43 : zraw 18 43 = some (.invokevirtual 103, 3) ∧ zmt (zinf 18).1 103 = some 9 ∧ Nat.ble 9000 9 = false ∧ zinf 9 = (0, 3, 4, 0, 0) ∧ 43 + 3 = 46 := by decide +kernel
theorem zi_18_46 : zraw 18 46 = some (.aload_n 0, 1) ∧ 46 + 1 = 47 := by decide +kernel
theorem zi_18_47 : zraw 18 47 = some (.iload 5, 2) ∧ 47 + 2 = 49 := by decide +kernel
theorem zi_18_49 : zraw 18 49 = some (.lload_n 1, 1) ∧ 49 + 1 = 50 := by decide +kernel
theorem zi_18_50 : zraw 18 50 = some (.iload 6, 2) ∧ 50 + 2 = 52 := by decide +kernel
theorem zi_18_52 : zraw 18 52 = some (.invokevirtual 106, 3) ∧ zmt (zinf 18).1 106 = some 10 ∧ Nat.ble 9000 10 = false ∧ zinf 10 = (0, 4, 5, 0, 0) ∧ 52 + 3 = 55 := by decide +kernel
theorem zi_18_55 : zraw 18 55 = some (.iconst 1, 1) ∧ zin 128 1 = true ∧ 55 + 1 = 56 := by decide +kernel
theorem zi_18_56 : zraw 18 56 = some (.ireturn, 1) ∧ (zinf 18).2.2.2.1 = 2 := by decide +kernel
theorem ze_18 {K : List zF} {σ : zW} {x1 : Int64} {x3 : Int} {x4 : Int} (hK : K.length < 60) : zEv true (zent 18 [.inr (.inr 54), .inr (.inl x1), .inl x3, .inl x4] :: K) σ = (if 20 ≤ (gI σ 54 6) then zRet true K (some (.inl 0)) σ else zEv true (zent 15 [.inr (.inr 54), .inl x3, .inl x4] :: (18, 16, [some (.inr (.inr 54)), some (.inr (.inl x1)), none, some (.inl x3), some (.inl x4), none, none], []) :: K) σ) :=
  yT_en (f := (18, 0, [some (.inr (.inr 54)), some (.inr (.inl x1)), none, some (.inl x3), some (.inl x4), none, none], [])) rfl (yI_aload_n zi_18_0 rfl <| yI_gf_i (v := gI σ 54 6) zi_18_1 zk_54 rfl <| yI_bipush zi_18_4 <| yI_ic_ge zi_18_6 <| yBr (yI_iconst zi_18_19 <| yI_zreturn zi_18_20 (by decide)) (yI_aload_n zi_18_9 rfl <| yI_iload_n zi_18_10 rfl <| yI_iload zi_18_11 rfl <| yI_cv zi_18_13 rfl rfl zk_54 hK))
theorem zr_18_16 {K : List zF} {σ : zW} {x1 : Int64} {x3 : Int} {x4 : Int} {o5 : Option zV} {o6 : Option zV} {v : Int} (hK : K.length < 60) : zRet true ((18, 16, [some (.inr (.inr 54)), some (.inr (.inl x1)), none, some (.inl x3), some (.inl x4), o5, o6], []) :: K) (some (.inl v)) σ = (if v = 0 then zEv true (zent 16 [.inr (.inr 54), .inl x3, .inl x4] :: (18, 28, [some (.inr (.inr 54)), some (.inr (.inl x1)), none, some (.inl x3), some (.inl x4), o5, o6], []) :: K) σ else zRet true K (some (.inl 0)) σ) :=
  yT_rt (yI_if_eq zi_18_16 <| yBr (yI_aload_n zi_18_21 rfl <| yI_iload_n zi_18_22 rfl <| yI_iload zi_18_23 rfl <| yI_cv zi_18_25 rfl rfl zk_54 hK) (yI_iconst zi_18_19 <| yI_zreturn zi_18_20 (by decide)))
theorem zr_18_28 {K : List zF} {σ : zW} {x1 : Int64} {x3 : Int} {x4 : Int} {o5 : Option zV} {o6 : Option zV} {v : Int} (hK : K.length < 60) : zRet true ((18, 28, [some (.inr (.inr 54)), some (.inr (.inl x1)), none, some (.inl x3), some (.inl x4), o5, o6], []) :: K) (some (.inl v)) σ = (zEv true (zent 17 [.inr (.inr 54), .inl x3, .inl x4] :: (18, 37, [some (.inr (.inr 54)), some (.inr (.inl x1)), none, some (.inl x3), some (.inl x4), some (.inl v), o6], []) :: K) σ) :=
  yT_rt (yI_istore (l := [some (.inr (.inr 54)), some (.inr (.inl x1)), none, some (.inl x3), some (.inl x4), some (.inl v), o6]) zi_18_28 rfl rfl <| yI_aload_n zi_18_30 rfl <| yI_iload_n zi_18_31 rfl <| yI_iload zi_18_32 rfl <| yI_cv zi_18_34 rfl rfl zk_54 hK)
theorem zr_18_37 {K : List zF} {σ : zW} {x1 : Int64} {o3 : Option zV} {o4 : Option zV} {x5 : Int} {o6 : Option zV} {v : Int} (hK : K.length < 60) : zRet true ((18, 37, [some (.inr (.inr 54)), some (.inr (.inl x1)), none, o3, o4, some (.inl x5), o6], []) :: K) (some (.inl v)) σ = (zEv true (zent 9 [.inr (.inr 54), .inl x5, .inl 1] :: (18, 46, [some (.inr (.inr 54)), some (.inr (.inl x1)), none, o3, o4, some (.inl x5), some (.inl v)], []) :: K) σ) :=
  yT_rt (yI_istore (l := [some (.inr (.inr 54)), some (.inr (.inl x1)), none, o3, o4, some (.inl x5), some (.inl v)]) zi_18_37 rfl rfl <| yI_aload_n zi_18_39 rfl <| yI_iload zi_18_40 rfl <| yI_iconst zi_18_42 <| yI_cv zi_18_43 rfl rfl zk_54 hK)
theorem zr_18_46 {K : List zF} {σ : zW} {x1 : Int64} {o3 : Option zV} {o4 : Option zV} {x5 : Int} {x6 : Int} (hK : K.length < 60) : zRet true ((18, 46, [some (.inr (.inr 54)), some (.inr (.inl x1)), none, o3, o4, some (.inl x5), some (.inl x6)], []) :: K) none σ = (zEv true (zent 10 [.inr (.inr 54), .inl x5, .inr (.inl x1), .inl x6] :: (18, 55, [some (.inr (.inr 54)), some (.inr (.inl x1)), none, o3, o4, some (.inl x5), some (.inl x6)], []) :: K) σ) :=
  yT_rv (yI_aload_n zi_18_46 rfl <| yI_iload zi_18_47 rfl <| yI_lload_n zi_18_49 rfl <| yI_iload zi_18_50 rfl <| yI_cv zi_18_52 rfl rfl zk_54 hK)
theorem zr_18_55 {K : List zF} {σ : zW} {o0 : Option zV} {o1 : Option zV} {o2 : Option zV} {o3 : Option zV} {o4 : Option zV} {o5 : Option zV} {o6 : Option zV} : zRet true ((18, 55, [o0, o1, o2, o3, o4, o5, o6], []) :: K) none σ = (zRet true K (some (.inl 1)) σ) :=
  yT_rv (yI_iconst zi_18_55 <| yI_zreturn zi_18_56 (by decide))
/-- 19 Treegrab$Bench.shift(III)Z -/
theorem zi_19_0 : zraw 19 0 = some (.aload_n 0, 1) ∧ 0 + 1 = 1 := by decide +kernel
theorem zi_19_1 : zraw 19 1 = some (.iload_n 1, 1) ∧ 1 + 1 = 2 := by decide +kernel
theorem zi_19_2 : zraw 19 2 = some (.invokevirtual 87, 3) ∧ zmt (zinf 19).1 87 = some 5 ∧ Nat.ble 9000 5 = false ∧ zinf 5 = (0, 2, 3, 1, 0) ∧ 2 + 3 = 5 := by decide +kernel
theorem zi_19_5 : zraw 19 5 = some (.istore 4, 2) ∧ 5 + 2 = 7 := by decide +kernel
theorem zi_19_7 : zraw 19 7 = some (.iload_n 3, 1) ∧ 7 + 1 = 8 := by decide +kernel
theorem zi_19_8 : zraw 19 8 = some (.iload_n 1, 1) ∧ 8 + 1 = 9 := by decide +kernel
theorem zi_19_9 : zraw 19 9 = some (.if_icmp .lt 13, 3) ∧ ((9 : Nat) : Int) + 13 = Int.ofNat 22 ∧ 9 + 3 = 12 := by decide +kernel
theorem zi_19_12 : zraw 19 12 = some (.iload_n 3, 1) ∧ 12 + 1 = 13 := by decide +kernel
theorem zi_19_13 : zraw 19 13 = some (.iload 4, 2) ∧ 13 + 2 = 15 := by decide +kernel
theorem zi_19_15 : zraw 19 15 = some (.if_icmp .ge 7, 3) ∧ ((15 : Nat) : Int) + 7 = Int.ofNat 22 ∧ 15 + 3 = 18 := by decide +kernel
theorem zi_19_18 : zraw 19 18 = some (.iconst 1, 1) ∧ zin 128 1 = true ∧ 18 + 1 = 19 := by decide +kernel
theorem zi_19_19 : zraw 19 19 = some (.goto 4, 3) ∧ ((19 : Nat) : Int) + 4 = Int.ofNat 23 := by decide +kernel
theorem zi_19_22 : zraw 19 22 = some (.iconst 0, 1) ∧ zin 128 0 = true ∧ 22 + 1 = 23 := by decide +kernel
theorem zi_19_23 : zraw 19 23 = some (.istore 5, 2) ∧ 23 + 2 = 25 := by decide +kernel
theorem zi_19_25 : zraw 19 25 = some (.iload_n 1, 1) ∧ 25 + 1 = 26 := by decide +kernel
theorem zi_19_26 : zraw 19 26 = some (.ifCond .eq 17, 3) ∧ ((26 : Nat) : Int) + 17 = Int.ofNat 43 ∧ 26 + 3 = 29 := by decide +kernel
theorem zi_19_29 : zraw 19 29 = some (.iload 5, 2) ∧ 29 + 2 = 31 := by decide +kernel
theorem zi_19_31 : zraw 19 31 = some (.ifCond .ne 12, 3) ∧ ((31 : Nat) : Int) + 12 = Int.ofNat 43 ∧ 31 + 3 = 34 := by decide +kernel
theorem zi_19_34 : zraw 19 34 = some (.aload_n 0, 1) ∧ 34 + 1 = 35 := by decide +kernel
theorem zi_19_35 : zraw 19 35 = some (.iload_n 2, 1) ∧ 35 + 1 = 36 := by decide +kernel
theorem zi_19_36 : zraw 19 36 = some (.iload_n 3, 1) ∧ 36 + 1 = 37 := by decide +kernel
theorem zi_19_37 : zraw 19 37 = some (.invokevirtual 110, 3) ∧ zmt (zinf 19).1 110 = some 15 ∧ Nat.ble 9000 15 = false ∧ zinf 15 = (0, 3, 3, 2, 0) ∧ 37 + 3 = 40 := by decide +kernel
theorem zi_19_40 : zraw 19 40 = some (.ifCond .eq 5, 3) ∧ ((40 : Nat) : Int) + 5 = Int.ofNat 45 ∧ 40 + 3 = 43 := by decide +kernel
theorem zi_19_43 : zraw 19 43 = some (.iconst 0, 1) ∧ zin 128 0 = true ∧ 43 + 1 = 44 := by decide +kernel
theorem zi_19_44 : zraw 19 44 = some (.ireturn, 1) ∧ (zinf 19).2.2.2.1 = 2 := by decide +kernel
theorem zi_19_45 : zraw 19 45 = some (.aload_n 0, 1) ∧ 45 + 1 = 46 := by decide +kernel
theorem zi_19_46 : zraw 19 46 = some (.getfield 19, 3) ∧ zft (zinf 19).1 19 = some (0, 2, 3, true) ∧ 46 + 3 = 49 := by decide +kernel
theorem zi_19_49 : zraw 19 49 = some (.aload_n 0, 1) ∧ 49 + 1 = 50 := by decide +kernel
theorem zi_19_50 : zraw 19 50 = some (.iload_n 1, 1) ∧ 50 + 1 = 51 := by decide +kernel
theorem zi_19_51 : zraw 19 51 = some (.invokevirtual 90, 3) ∧ zmt (zinf 19).1 90 = some 7 ∧ Nat.ble 9000 7 = false ∧ zinf 7 = (0, 2, 3, 1, 0) ∧ 51 + 3 = 54 := by decide +kernel
theorem zi_19_54 : zraw 19 54 = some (.iaload, 1) ∧ 54 + 1 = 55 := by decide +kernel
theorem zi_19_55 : zraw 19 55 = some (.istore 6, 2) ∧ 55 + 2 = 57 := by decide +kernel
theorem zi_19_57 : zraw 19 57 = some (.aload_n 0, 1) ∧ 57 + 1 = 58 := by decide +kernel
theorem zi_19_58 : zraw 19 58 = some (.getfield 19, 3) ∧ zft (zinf 19).1 19 = some (0, 2, 3, true) ∧ 58 + 3 = 61 := by decide +kernel
theorem zi_19_61 : zraw 19 61 = some (.iload_n 3, 1) ∧ 61 + 1 = 62 := by decide +kernel
theorem zi_19_62 : zraw 19 62 = some (.iaload, 1) ∧ 62 + 1 = 63 := by decide +kernel
theorem zi_19_63 : zraw 19 63 = some (.istore 7, 2) ∧ 63 + 2 = 65 := by decide +kernel
theorem zi_19_65 : zraw 19 65 = some (.aload_n 0, 1) ∧ 65 + 1 = 66 := by decide +kernel
theorem zi_19_66 : zraw 19 66 = some (.iload_n 1, 1) ∧ 66 + 1 = 67 := by decide +kernel
theorem zi_19_67 : zraw 19 67 = some (.iload 4, 2) ∧ 67 + 2 = 69 := by decide +kernel
theorem zi_19_69 : zraw 19 69 = some (.invokevirtual 121, 3) ∧ zmt (zinf 19).1 121 = some 20 ∧ Nat.ble 9000 20 = false ∧ zinf 20 = (0, 3, 4, 0, 0) ∧ 69 + 3 = 72 := by decide +kernel
theorem zi_19_72 : zraw 19 72 = some (.aload_n 0, 1) ∧ 72 + 1 = 73 := by decide +kernel
theorem zi_19_73 : zraw 19 73 = some (.iload_n 1, 1) ∧ 73 + 1 = 74 := by decide +kernel
theorem zi_19_74 : zraw 19 74 = some (.iload 4, 2) ∧ 74 + 2 = 76 := by decide +kernel
theorem zi_19_76 : zraw 19 76 = some (.invokevirtual 93, 3) ∧ zmt (zinf 19).1 93 = some 8 ∧ Nat.ble 9000 8 = false ∧ zinf 8 = (0, 3, 5, 0, 0) ∧ 76 + 3 = 79 := by decide +kernel
theorem zi_19_79 : zraw 19 79 = some (.aload_n 0, 1) ∧ 79 + 1 = 80 := by decide +kernel
theorem zi_19_80 : zraw 19 80 = some (.iload 7, 2) ∧ 80 + 2 = 82 := by decide +kernel
theorem zi_19_82 : zraw 19 82 = some (.invokevirtual 49, 3) ∧ zmt (zinf 19).1 49 = some 4 ∧ Nat.ble 9000 4 = false ∧ zinf 4 = (0, 2, 3, 1, 0) ∧ 82 + 3 = 85 := by decide +kernel
theorem zi_19_85 : zraw 19 85 = some (.istore 8, 2) ∧ 85 + 2 = 87 := by decide +kernel
theorem zi_19_87 : zraw 19 87 = some (.aload_n 0, 1) ∧ 87 + 1 = 88 := by decide +kernel
theorem zi_19_88 : zraw 19 88 = some (.aload_n 0, 1) ∧ 88 + 1 = 89 := by decide +kernel
theorem zi_19_89 : zraw 19 89 = some (.iload_n 2, 1) ∧ 89 + 1 = 90 := by decide +kernel
theorem zi_19_90 : zraw 19 90 = some (.iload 8, 2) ∧ 90 + 2 = 92 := by decide +kernel
theorem zi_19_92 : zraw 19 92 = some (.invokevirtual 114, 3) ∧ zmt (zinf 19).1 114 = some 16 ∧ Nat.ble 9000 16 = false ∧ zinf 16 = (0, 3, 3, 1, 0) ∧ 92 + 3 = 95 := by decide +kernel
theorem zi_19_95 : zraw 19 95 = some (.aload_n 0, 1) ∧ 95 + 1 = 96 := by decide +kernel
theorem zi_19_96 : zraw 19 96 = some (.iload_n 2, 1) ∧ 96 + 1 = 97 := by decide +kernel
theorem zi_19_97 : zraw 19 97 = some (.iload 8, 2) ∧ 97 + 2 = 99 := by decide +kernel
theorem zi_19_99 : zraw 19 99 = some (.invokevirtual 118, 3) ∧ zmt (zinf 19).1 118 = some 17 ∧ Nat.ble 9000 17 = false ∧ zinf 17 = (0, 3, 3, 1, 0) ∧ 99 + 3 = 102 := by decide +kernel
theorem zi_19_102 : zraw 19 102 = some (.invokevirtual 124, 3) ∧ zmt (zinf 19).1 124 = some 21 ∧ Nat.ble 9000 21 = false ∧ zinf 21 = (0, 3, 4, 0, 0) ∧ 102 + 3 = 105 := by decide +kernel
theorem zi_19_105 : zraw 19 105 = some (.aload_n 0, 1) ∧ 105 + 1 = 106 := by decide +kernel
theorem zi_19_106 : zraw 19 106 = some (.aload_n 0, 1) ∧ 106 + 1 = 107 := by decide +kernel
theorem zi_19_107 : zraw 19 107 = some (.iload 6, 2) ∧ 107 + 2 = 109 := by decide +kernel
theorem zi_19_109 : zraw 19 109 = some (.invokevirtual 49, 3) ∧ zmt (zinf 19).1 49 = some 4 ∧ Nat.ble 9000 4 = false ∧ zinf 4 = (0, 2, 3, 1, 0) ∧ 109 + 3 = 112 := by decide +kernel
theorem zi_19_112 : zraw 19 112 = some (.invokevirtual 97, 3) ∧ zmt (zinf 19).1 97 = some 12 ∧ Nat.ble 9000 12 = false ∧ zinf 12 = (0, 2, 4, 2, 0) ∧ 112 + 3 = 115 := by decide +kernel
theorem zi_19_115 : zraw 19 115 = some (.ireturn, 1) ∧ (zinf 19).2.2.2.1 = 2 := by decide +kernel
theorem ze_19 {K : List zF} {σ : zW} {x1 : Int} {x2 : Int} {x3 : Int} (hK : K.length < 60) : zEv true (zent 19 [.inr (.inr 54), .inl x1, .inl x2, .inl x3] :: K) σ = (zEv true (zent 5 [.inr (.inr 54), .inl x1] :: (19, 5, [some (.inr (.inr 54)), some (.inl x1), some (.inl x2), some (.inl x3), none, none, none, none, none], []) :: K) σ) :=
  yT_en (f := (19, 0, [some (.inr (.inr 54)), some (.inl x1), some (.inl x2), some (.inl x3), none, none, none, none, none], [])) rfl (yI_aload_n zi_19_0 rfl <| yI_iload_n zi_19_1 rfl <| yI_cv zi_19_2 rfl rfl zk_54 hK)
theorem zr_19_5 {K : List zF} {σ : zW} {x1 : Int} {x2 : Int} {x3 : Int} {o4 : Option zV} {o5 : Option zV} {o6 : Option zV} {o7 : Option zV} {o8 : Option zV} {v : Int} (hK : K.length < 60) : zRet true ((19, 5, [some (.inr (.inr 54)), some (.inl x1), some (.inl x2), some (.inl x3), o4, o5, o6, o7, o8], []) :: K) (some (.inl v)) σ = (if x3 < x1 then zEv true ((19, 22, [some (.inr (.inr 54)), some (.inl x1), some (.inl x2), some (.inl x3), some (.inl v), o5, o6, o7, o8], []) :: K) σ else if v ≤ x3 then zEv true ((19, 22, [some (.inr (.inr 54)), some (.inl x1), some (.inl x2), some (.inl x3), some (.inl v), o5, o6, o7, o8], []) :: K) σ else if x1 = 0 then zRet true K (some (.inl 0)) σ else if ¬ (1 : Int) = 0 then zRet true K (some (.inl 0)) σ else zEv true (zent 15 [.inr (.inr 54), .inl x2, .inl x3] :: (19, 40, [some (.inr (.inr 54)), some (.inl x1), some (.inl x2), some (.inl x3), some (.inl v), some (.inl 1), o6, o7, o8], []) :: K) σ) :=
  yT_rt (yI_istore (l := [some (.inr (.inr 54)), some (.inl x1), some (.inl x2), some (.inl x3), some (.inl v), o5, o6, o7, o8]) zi_19_5 rfl rfl <| yI_iload_n zi_19_7 rfl <| yI_iload_n zi_19_8 rfl <| yI_ic_lt zi_19_9 <| yBr (rfl) (yI_iload_n zi_19_12 rfl <| yI_iload zi_19_13 rfl <| yI_ic_ge zi_19_15 <| yBr (rfl) (yI_iconst zi_19_18 <| yI_goto zi_19_19 <| yI_istore (l := [some (.inr (.inr 54)), some (.inl x1), some (.inl x2), some (.inl x3), some (.inl v), some (.inl 1), o6, o7, o8]) zi_19_23 rfl rfl <| yI_iload_n zi_19_25 rfl <| yI_if_eq zi_19_26 <| yBr (yI_iconst zi_19_43 <| yI_zreturn zi_19_44 (by decide)) (yI_iload zi_19_29 rfl <| yI_if_ne zi_19_31 <| yBr (yI_iconst zi_19_43 <| yI_zreturn zi_19_44 (by decide)) (yI_aload_n zi_19_34 rfl <| yI_iload_n zi_19_35 rfl <| yI_iload_n zi_19_36 rfl <| yI_cv zi_19_37 rfl rfl zk_54 hK)))))
theorem zj_19_22 {K : List zF} {σ : zW} {x1 : Int} {x2 : Int} {x3 : Int} {x4 : Int} {o5 : Option zV} {o6 : Option zV} {o7 : Option zV} {o8 : Option zV} (hK : K.length < 60) : zEv true ((19, 22, [some (.inr (.inr 54)), some (.inl x1), some (.inl x2), some (.inl x3), some (.inl x4), o5, o6, o7, o8], []) :: K) σ = (if x1 = 0 then zRet true K (some (.inl 0)) σ else if ¬ (0 : Int) = 0 then zRet true K (some (.inl 0)) σ else zEv true (zent 15 [.inr (.inr 54), .inl x2, .inl x3] :: (19, 40, [some (.inr (.inr 54)), some (.inl x1), some (.inl x2), some (.inl x3), some (.inl x4), some (.inl 0), o6, o7, o8], []) :: K) σ) :=
  yI_iconst zi_19_22 <| yI_istore (l := [some (.inr (.inr 54)), some (.inl x1), some (.inl x2), some (.inl x3), some (.inl x4), some (.inl 0), o6, o7, o8]) zi_19_23 rfl rfl <| yI_iload_n zi_19_25 rfl <| yI_if_eq zi_19_26 <| yBr (yI_iconst zi_19_43 <| yI_zreturn zi_19_44 (by decide)) (yI_iload zi_19_29 rfl <| yI_if_ne zi_19_31 <| yBr (yI_iconst zi_19_43 <| yI_zreturn zi_19_44 (by decide)) (yI_aload_n zi_19_34 rfl <| yI_iload_n zi_19_35 rfl <| yI_iload_n zi_19_36 rfl <| yI_cv zi_19_37 rfl rfl zk_54 hK))
theorem zr_19_40 {K : List zF} {σ : zW} {x1 : Int} {x2 : Int} {x3 : Int} {x4 : Int} {o5 : Option zV} {o6 : Option zV} {o7 : Option zV} {o8 : Option zV} {v : Int} (hK : K.length < 60) : zRet true ((19, 40, [some (.inr (.inr 54)), some (.inl x1), some (.inl x2), some (.inl x3), some (.inl x4), o5, o6, o7, o8], []) :: K) (some (.inl v)) σ = (if v = 0 then zEv true (zent 7 [.inr (.inr 54), .inl x1] :: (19, 54, [some (.inr (.inr 54)), some (.inl x1), some (.inl x2), some (.inl x3), some (.inl x4), o5, o6, o7, o8], [.inr (.inr 57)]) :: K) σ else zRet true K (some (.inl 0)) σ) :=
  yT_rt (yI_if_eq zi_19_40 <| yBr (yI_aload_n zi_19_45 rfl <| yI_gf_f (v := 57) zi_19_46 zk_54 rfl <| yI_aload_n zi_19_49 rfl <| yI_iload_n zi_19_50 rfl <| yI_cv zi_19_51 rfl rfl zk_54 hK) (yI_iconst zi_19_43 <| yI_zreturn zi_19_44 (by decide)))
theorem zr_19_54 {K : List zF} {σ : zW} {x1 : Int} {x2 : Int} {x3 : Int} {x4 : Int} {o5 : Option zV} {o6 : Option zV} {o7 : Option zV} {o8 : Option zV} {v : Int} (hK : K.length < 60) : zRet true ((19, 54, [some (.inr (.inr 54)), some (.inl x1), some (.inl x2), some (.inl x3), some (.inl x4), o5, o6, o7, o8], [.inr (.inr 57)]) :: K) (some (.inl v)) σ = ((0 ≤ v ∧ v < 20) ∧ ((0 ≤ x3 ∧ x3 < 20) ∧ zEv true (zent 20 [.inr (.inr 54), .inl x1, .inl x4] :: (19, 72, [some (.inr (.inr 54)), some (.inl x1), some (.inl x2), some (.inl x3), some (.inl x4), (zcut 0 o5), some (.inl (gI σ 57 v.toNat)), some (.inl (gI σ 57 x3.toNat)), o8], []) :: K) σ)) :=
  yT_rt (yI_ialoadc (v := gI σ 57 v.toNat) zi_19_54 za_57 rfl <| yI_istore (l := [some (.inr (.inr 54)), some (.inl x1), some (.inl x2), some (.inl x3), some (.inl x4), (zcut 0 o5), some (.inl (gI σ 57 v.toNat)), o7, o8]) zi_19_55 rfl rfl <| yI_aload_n zi_19_57 rfl <| yI_gf_f (v := 57) zi_19_58 zk_54 rfl <| yI_iload_n zi_19_61 rfl <| yI_ialoadc (v := gI σ 57 x3.toNat) zi_19_62 za_57 rfl <| yI_istore (l := [some (.inr (.inr 54)), some (.inl x1), some (.inl x2), some (.inl x3), some (.inl x4), (zcut 0 o5), some (.inl (gI σ 57 v.toNat)), some (.inl (gI σ 57 x3.toNat)), o8]) zi_19_63 rfl rfl <| yI_aload_n zi_19_65 rfl <| yI_iload_n zi_19_66 rfl <| yI_iload zi_19_67 rfl <| yI_cv zi_19_69 rfl rfl zk_54 hK)
theorem zr_19_72 {K : List zF} {σ : zW} {x1 : Int} {x2 : Int} {o3 : Option zV} {x4 : Int} {o5 : Option zV} {x6 : Int} {x7 : Int} {o8 : Option zV} (hK : K.length < 60) : zRet true ((19, 72, [some (.inr (.inr 54)), some (.inl x1), some (.inl x2), o3, some (.inl x4), o5, some (.inl x6), some (.inl x7), o8], []) :: K) none σ = (zEv true (zent 8 [.inr (.inr 54), .inl x1, .inl x4] :: (19, 79, [some (.inr (.inr 54)), some (.inl x1), some (.inl x2), o3, some (.inl x4), o5, some (.inl x6), some (.inl x7), o8], []) :: K) σ) :=
  yT_rv (yI_aload_n zi_19_72 rfl <| yI_iload_n zi_19_73 rfl <| yI_iload zi_19_74 rfl <| yI_cv zi_19_76 rfl rfl zk_54 hK)
theorem zr_19_79 {K : List zF} {σ : zW} {o1 : Option zV} {x2 : Int} {o3 : Option zV} {o4 : Option zV} {o5 : Option zV} {x6 : Int} {x7 : Int} {o8 : Option zV} (hK : K.length < 60) : zRet true ((19, 79, [some (.inr (.inr 54)), o1, some (.inl x2), o3, o4, o5, some (.inl x6), some (.inl x7), o8], []) :: K) none σ = (zEv true (zent 4 [.inr (.inr 54), .inl x7] :: (19, 85, [some (.inr (.inr 54)), o1, some (.inl x2), o3, o4, o5, some (.inl x6), some (.inl x7), o8], []) :: K) σ) :=
  yT_rv (yI_aload_n zi_19_79 rfl <| yI_iload zi_19_80 rfl <| yI_cv zi_19_82 rfl rfl zk_54 hK)
theorem zr_19_85 {K : List zF} {σ : zW} {o1 : Option zV} {x2 : Int} {o3 : Option zV} {o4 : Option zV} {o5 : Option zV} {x6 : Int} {o7 : Option zV} {o8 : Option zV} {v : Int} (hK : K.length < 60) : zRet true ((19, 85, [some (.inr (.inr 54)), o1, some (.inl x2), o3, o4, o5, some (.inl x6), o7, o8], []) :: K) (some (.inl v)) σ = (zEv true (zent 16 [.inr (.inr 54), .inl x2, .inl v] :: (19, 95, [some (.inr (.inr 54)), o1, some (.inl x2), o3, o4, o5, some (.inl x6), (zcut 0 o7), some (.inl v)], [.inr (.inr 54)]) :: K) σ) :=
  yT_rt (yI_istore (l := [some (.inr (.inr 54)), o1, some (.inl x2), o3, o4, o5, some (.inl x6), (zcut 0 o7), some (.inl v)]) zi_19_85 rfl rfl <| yI_aload_n zi_19_87 rfl <| yI_aload_n zi_19_88 rfl <| yI_iload_n zi_19_89 rfl <| yI_iload zi_19_90 rfl <| yI_cv zi_19_92 rfl rfl zk_54 hK)
theorem zr_19_95 {K : List zF} {σ : zW} {o1 : Option zV} {x2 : Int} {o3 : Option zV} {o4 : Option zV} {o5 : Option zV} {x6 : Int} {o7 : Option zV} {x8 : Int} {v : Int} (hK : K.length < 60) : zRet true ((19, 95, [some (.inr (.inr 54)), o1, some (.inl x2), o3, o4, o5, some (.inl x6), o7, some (.inl x8)], [.inr (.inr 54)]) :: K) (some (.inl v)) σ = (zEv true (zent 17 [.inr (.inr 54), .inl x2, .inl x8] :: (19, 102, [some (.inr (.inr 54)), o1, some (.inl x2), o3, o4, o5, some (.inl x6), o7, some (.inl x8)], [.inl v, .inr (.inr 54)]) :: K) σ) :=
  yT_rt (yI_aload_n zi_19_95 rfl <| yI_iload_n zi_19_96 rfl <| yI_iload zi_19_97 rfl <| yI_cv zi_19_99 rfl rfl zk_54 hK)
theorem zr_19_102 {K : List zF} {σ : zW} {o1 : Option zV} {o2 : Option zV} {o3 : Option zV} {o4 : Option zV} {o5 : Option zV} {x6 : Int} {o7 : Option zV} {o8 : Option zV} {s0 : Int} {v : Int} (hK : K.length < 60) : zRet true ((19, 102, [some (.inr (.inr 54)), o1, o2, o3, o4, o5, some (.inl x6), o7, o8], [.inl s0, .inr (.inr 54)]) :: K) (some (.inl v)) σ = (zEv true (zent 21 [.inr (.inr 54), .inl s0, .inl v] :: (19, 105, [some (.inr (.inr 54)), o1, o2, o3, o4, o5, some (.inl x6), o7, o8], []) :: K) σ) :=
  yT_rt (yI_cv zi_19_102 rfl rfl zk_54 hK)
theorem zr_19_105 {K : List zF} {σ : zW} {o1 : Option zV} {o2 : Option zV} {o3 : Option zV} {o4 : Option zV} {o5 : Option zV} {x6 : Int} {o7 : Option zV} {o8 : Option zV} (hK : K.length < 60) : zRet true ((19, 105, [some (.inr (.inr 54)), o1, o2, o3, o4, o5, some (.inl x6), o7, o8], []) :: K) none σ = (zEv true (zent 4 [.inr (.inr 54), .inl x6] :: (19, 112, [some (.inr (.inr 54)), o1, o2, o3, o4, o5, some (.inl x6), o7, o8], [.inr (.inr 54)]) :: K) σ) :=
  yT_rv (yI_aload_n zi_19_105 rfl <| yI_aload_n zi_19_106 rfl <| yI_iload zi_19_107 rfl <| yI_cv zi_19_109 rfl rfl zk_54 hK)
theorem zr_19_112 {K : List zF} {σ : zW} {o0 : Option zV} {o1 : Option zV} {o2 : Option zV} {o3 : Option zV} {o4 : Option zV} {o5 : Option zV} {o6 : Option zV} {o7 : Option zV} {o8 : Option zV} {v : Int} (hK : K.length < 60) : zRet true ((19, 112, [o0, o1, o2, o3, o4, o5, o6, o7, o8], [.inr (.inr 54)]) :: K) (some (.inl v)) σ = (zEv true (zent 12 [.inr (.inr 54), .inl v] :: (19, 115, [o0, o1, o2, o3, o4, o5, o6, o7, o8], []) :: K) σ) :=
  yT_rt (yI_cv zi_19_112 rfl rfl zk_54 hK)
theorem zr_19_115 {K : List zF} {σ : zW} {o0 : Option zV} {o1 : Option zV} {o2 : Option zV} {o3 : Option zV} {o4 : Option zV} {o5 : Option zV} {o6 : Option zV} {o7 : Option zV} {o8 : Option zV} {v : Int} : zRet true ((19, 115, [o0, o1, o2, o3, o4, o5, o6, o7, o8], []) :: K) (some (.inl v)) σ = ((v = 0 ∨ v = 1) ∧ zRet true K (some (.inl v)) σ) :=
  yT_rt (yI_zreturnc zi_19_115)
/-- 20 Treegrab$Bench.hold(II)V -/
theorem zi_20_0 : zraw 20 0 = some (.aload_n 0, 1) ∧ 0 + 1 = 1 := by decide +kernel
theorem zi_20_1 : zraw 20 1 = some (.iload_n 2, 1) ∧ 1 + 1 = 2 := by decide +kernel
theorem zi_20_2 : zraw 20 2 = some (.iload_n 1, 1) ∧ 2 + 1 = 3 := by decide +kernel
theorem zi_20_3 : zraw 20 3 = some (.isub, 1) ∧ 3 + 1 = 4 := by decide +kernel
theorem zi_20_4 : zraw 20 4 = some (.putfield 127, 3) ∧ zft (zinf 20).1 127 = some (0, 7, 0, false) ∧ 4 + 3 = 7 := by decide +kernel
theorem zi_20_7 : zraw 20 7 = some (.iconst 0, 1) ∧ zin 128 0 = true ∧ 7 + 1 = 8 := by decide +kernel
theorem zi_20_8 : zraw 20 8 = some (.istore_n 3, 1) ∧ 8 + 1 = 9 := by decide +kernel
theorem zi_20_9 : zraw 20 9 = some (.iload_n 3, 1) ∧ 9 + 1 = 10 := by decide +kernel
theorem zi_20_10 : zraw 20 10 = some (.aload_n 0, 1) ∧ 10 + 1 = 11 := by decide +kernel
theorem zi_20_11 : zraw 20 11 = some (.getfield 127, 3) ∧ zft (zinf 20).1 127 = some (0, 7, 0, false) ∧ 11 + 3 = 14 := by decide +kernel
theorem zi_20_14 : zraw 20 14 = some (.if_icmp .ge 51, 3) ∧ ((14 : Nat) : Int) + 51 = Int.ofNat 65 ∧ 14 + 3 = 17 := by decide +kernel
theorem zi_20_17 : zraw 20 17 = some (.aload_n 0, 1) ∧ 17 + 1 = 18 := by decide +kernel
theorem zi_20_18 : zraw 20 18 = some (.getfield 22, 3) ∧ zft (zinf 20).1 22 = some (0, 3, 3, true) ∧ 18 + 3 = 21 := by decide +kernel
theorem zi_20_21 : zraw 20 21 = some (.iload_n 3, 1) ∧ 21 + 1 = 22 := by decide +kernel
theorem zi_20_22 : zraw 20 22 = some (.aload_n 0, 1) ∧ 22 + 1 = 23 := by decide +kernel
theorem zi_20_23 : zraw 20 23 = some (.getfield 9, 3) ∧ zft (zinf 20).1 9 = some (0, 0, 3, true) ∧ 23 + 3 = 26 := by decide +kernel
theorem zi_20_26 : zraw 20 26 = some (.iload_n 1, 1) ∧ 26 + 1 = 27 := by decide +kernel
theorem zi_20_27 : zraw 20 27 = some (.iload_n 3, 1) ∧ 27 + 1 = 28 := by decide +kernel
theorem zi_20_28 : zraw 20 28 = some (.iadd, 1) ∧ 28 + 1 = 29 := by decide +kernel
theorem zi_20_29 : zraw 20 29 = some (.laload, 1) ∧ 29 + 1 = 30 := by decide +kernel
theorem zi_20_30 : zraw 20 30 = some (.lastore, 1) ∧ 30 + 1 = 31 := by decide +kernel
theorem zi_20_31 : zraw 20 31 = some (.aload_n 0, 1) ∧ 31 + 1 = 32 := by decide +kernel
theorem zi_20_32 : zraw 20 32 = some (.getfield 25, 3) ∧ zft (zinf 20).1 25 = some (0, 4, 3, true) ∧ 32 + 3 = 35 := by decide +kernel
theorem zi_20_35 : zraw 20 35 = some (.iload_n 3, 1) ∧ 35 + 1 = 36 := by decide +kernel
theorem zi_20_36 : zraw 20 36 = some (.aload_n 0, 1) ∧ 36 + 1 = 37 := by decide +kernel
theorem zi_20_37 : zraw 20 37 = some (.getfield 15, 3) ∧ zft (zinf 20).1 15 = some (0, 1, 3, true) ∧ 37 + 3 = 40 := by decide +kernel
theorem zi_20_40 : zraw 20 40 = some (.iload_n 1, 1) ∧ 40 + 1 = 41 := by decide +kernel
theorem zi_20_41 : zraw 20 41 = some (.iload_n 3, 1) ∧ 41 + 1 = 42 := by decide +kernel
theorem zi_20_42 : zraw 20 42 = some (.iadd, 1) ∧ 42 + 1 = 43 := by decide +kernel
theorem zi_20_43 : zraw 20 43 = some (.iaload, 1) ∧ 43 + 1 = 44 := by decide +kernel
theorem zi_20_44 : zraw 20 44 = some (.iastore, 1) ∧ 44 + 1 = 45 := by decide +kernel
theorem zi_20_45 : zraw 20 45 = some (.aload_n 0, 1) ∧ 45 + 1 = 46 := by decide +kernel
theorem zi_20_46 : zraw 20 46 = some (.getfield 28, 3) ∧ zft (zinf 20).1 28 = some (0, 5, 3, true) ∧ 46 + 3 = 49 := by decide +kernel
theorem zi_20_49 : zraw 20 49 = some (.iload_n 3, 1) ∧ 49 + 1 = 50 := by decide +kernel
theorem zi_20_50 : zraw 20 50 = some (.aload_n 0, 1) ∧ 50 + 1 = 51 := by decide +kernel
theorem zi_20_51 : zraw 20 51 = some (.getfield 19, 3) ∧ zft (zinf 20).1 19 = some (0, 2, 3, true) ∧ 51 + 3 = 54 := by decide +kernel
theorem zi_20_54 : zraw 20 54 = some (.iload_n 1, 1) ∧ 54 + 1 = 55 := by decide +kernel
theorem zi_20_55 : zraw 20 55 = some (.iload_n 3, 1) ∧ 55 + 1 = 56 := by decide +kernel
theorem zi_20_56 : zraw 20 56 = some (.iadd, 1) ∧ 56 + 1 = 57 := by decide +kernel
theorem zi_20_57 : zraw 20 57 = some (.iaload, 1) ∧ 57 + 1 = 58 := by decide +kernel
theorem zi_20_58 : zraw 20 58 = some (.iastore, 1) ∧ 58 + 1 = 59 := by decide +kernel
theorem zi_20_59 : zraw 20 59 = some (.iinc 3 1, 3) ∧ zin 32768 1 = true ∧ 59 + 3 = 62 := by decide +kernel
theorem zi_20_62 : zraw 20 62 = some (.goto (-53), 3) ∧ ((62 : Nat) : Int) + (-53) = Int.ofNat 9 := by decide +kernel
theorem zi_20_65 : zraw 20 65 = some (.return_, 1) ∧ (zinf 20).2.2.2.1 = 0 := by decide +kernel
theorem ze_20 {K : List zF} {σ : zW} {x1 : Int} {x2 : Int} : zEv true (zent 20 [.inr (.inr 54), .inl x1, .inl x2] :: K) σ = (zEv true ((20, 9, [some (.inr (.inr 54)), some (.inl x1), some (.inl x2), some (.inl 0)], []) :: K) (sI σ 54 7 (w32 (x2 - x1)))) :=
  yT_en (f := (20, 0, [some (.inr (.inr 54)), some (.inl x1), some (.inl x2), none], [])) rfl (yI_aload_n zi_20_0 rfl <| yI_iload_n zi_20_1 rfl <| yI_iload_n zi_20_2 rfl <| yI_isub zi_20_3 <| yI_pf_i zi_20_4 zk_54 <| yI_iconst zi_20_7 <| yI_istore_n (l := [some (.inr (.inr 54)), some (.inl x1), some (.inl x2), some (.inl 0)]) zi_20_8 rfl rfl <| rfl)
theorem zj_20_9 {K : List zF} {σ : zW} {x1 : Int} {o2 : Option zV} {x3 : Int} : zEv true ((20, 9, [some (.inr (.inr 54)), some (.inl x1), o2, some (.inl x3)], []) :: K) σ = (if (gI σ 54 7) ≤ x3 then zRet true K none σ else (0 ≤ (w32 (x1 + x3)) ∧ (w32 (x1 + x3)) < 20) ∧ ((0 ≤ x3 ∧ x3 < 20) ∧ ((0 ≤ (w32 (x1 + x3)) ∧ (w32 (x1 + x3)) < 20) ∧ ((0 ≤ x3 ∧ x3 < 20) ∧ ((0 ≤ (w32 (x1 + x3)) ∧ (w32 (x1 + x3)) < 20) ∧ ((0 ≤ x3 ∧ x3 < 20) ∧ zEv true ((20, 9, [some (.inr (.inr 54)), some (.inl x1), (zcut 0 o2), some (.inl (w32 (x3 + 1)))], []) :: K) (sI (sI (sL σ 58 x3.toNat (gL σ 55 ((w32 (x1 + x3)).toNat))) 59 x3.toNat (gI σ 56 ((w32 (x1 + x3)).toNat))) 60 x3.toNat (gI σ 57 ((w32 (x1 + x3)).toNat))))))))) :=
  yI_iload_n zi_20_9 rfl <| yI_aload_n zi_20_10 rfl <| yI_gf_i (v := gI σ 54 7) zi_20_11 zk_54 rfl <| yI_ic_ge zi_20_14 <| yBr (yI_ret zi_20_65) (yI_aload_n zi_20_17 rfl <| yI_gf_f (v := 58) zi_20_18 zk_54 rfl <| yI_iload_n zi_20_21 rfl <| yI_aload_n zi_20_22 rfl <| yI_gf_f (v := 55) zi_20_23 zk_54 rfl <| yI_iload_n zi_20_26 rfl <| yI_iload_n zi_20_27 rfl <| yI_iadd zi_20_28 <| yI_laloadc (v := gL σ 55 ((w32 (x1 + x3)).toNat)) zi_20_29 za_55 rfl <| yI_lastorec zi_20_30 za_58 <| yI_aload_n zi_20_31 rfl <| yI_gf_f (v := 59) zi_20_32 zk_54 rfl <| yI_iload_n zi_20_35 rfl <| yI_aload_n zi_20_36 rfl <| yI_gf_f (v := 56) zi_20_37 zk_54 rfl <| yI_iload_n zi_20_40 rfl <| yI_iload_n zi_20_41 rfl <| yI_iadd zi_20_42 <| yI_ialoadc (v := gI σ 56 ((w32 (x1 + x3)).toNat)) zi_20_43 za_56 rfl <| yI_iastorec zi_20_44 za_59 <| yI_aload_n zi_20_45 rfl <| yI_gf_f (v := 60) zi_20_46 zk_54 rfl <| yI_iload_n zi_20_49 rfl <| yI_aload_n zi_20_50 rfl <| yI_gf_f (v := 57) zi_20_51 zk_54 rfl <| yI_iload_n zi_20_54 rfl <| yI_iload_n zi_20_55 rfl <| yI_iadd zi_20_56 <| yI_ialoadc (v := gI σ 57 ((w32 (x1 + x3)).toNat)) zi_20_57 za_57 ((yGI_nk (by decide)).trans (gI_sL _ _ _ _ _ _)) <| yI_iastorec zi_20_58 za_60 <| yI_iinc (l := [some (.inr (.inr 54)), some (.inl x1), (zcut 0 o2), some (.inl (w32 (x3 + 1)))]) zi_20_59 rfl rfl rfl <| yI_goto zi_20_62 <| rfl)
/-- 21 Treegrab$Bench.release(II)V -/
theorem zi_21_0 : zraw 21 0 = some (.aload_n 0, 1) ∧ 0 + 1 = 1 := by decide +kernel
theorem zi_21_1 : zraw 21 1 = some (.iload_n 1, 1) ∧ 1 + 1 = 2 := by decide +kernel
theorem zi_21_2 : zraw 21 2 = some (.aload_n 0, 1) ∧ 2 + 1 = 3 := by decide +kernel
theorem zi_21_3 : zraw 21 3 = some (.getfield 127, 3) ∧ zft (zinf 21).1 127 = some (0, 7, 0, false) ∧ 3 + 3 = 6 := by decide +kernel
theorem zi_21_6 : zraw 21 6 = some (.invokevirtual 103, 3) ∧ zmt (zinf 21).1 103 = some 9 ∧ Nat.ble 9000 9 = false ∧ zinf 9 = (0, 3, 4, 0, 0) ∧ 6 + 3 = 9 := by decide +kernel
theorem zi_21_9 : zraw 21 9 = some (.iconst 0, 1) ∧ zin 128 0 = true ∧ 9 + 1 = 10 := by decide +kernel
theorem zi_21_10 : zraw 21 10 = some (.istore_n 3, 1) ∧ 10 + 1 = 11 := by decide +kernel
theorem zi_21_11 : zraw 21 11 = some (.iload_n 3, 1) ∧ 11 + 1 = 12 := by decide +kernel
theorem zi_21_12 : zraw 21 12 = some (.aload_n 0, 1) ∧ 12 + 1 = 13 := by decide +kernel
theorem zi_21_13 : zraw 21 13 = some (.getfield 127, 3) ∧ zft (zinf 21).1 127 = some (0, 7, 0, false) ∧ 13 + 3 = 16 := by decide +kernel
theorem zi_21_16 : zraw 21 16 = some (.if_icmp .ge 60, 3) ∧ ((16 : Nat) : Int) + 60 = Int.ofNat 76 ∧ 16 + 3 = 19 := by decide +kernel
theorem zi_21_19 : zraw 21 19 = some (.aload_n 0, 1) ∧ 19 + 1 = 20 := by decide +kernel
theorem zi_21_20 : zraw 21 20 = some (.getfield 9, 3) ∧ zft (zinf 21).1 9 = some (0, 0, 3, true) ∧ 20 + 3 = 23 := by decide +kernel
theorem zi_21_23 : zraw 21 23 = some (.iload_n 1, 1) ∧ 23 + 1 = 24 := by decide +kernel
theorem zi_21_24 : zraw 21 24 = some (.iload_n 3, 1) ∧ 24 + 1 = 25 := by decide +kernel
theorem zi_21_25 : zraw 21 25 = some (.iadd, 1) ∧ 25 + 1 = 26 := by decide +kernel
theorem zi_21_26 : zraw 21 26 = some (.aload_n 0, 1) ∧ 26 + 1 = 27 := by decide +kernel
theorem zi_21_27 : zraw 21 27 = some (.getfield 22, 3) ∧ zft (zinf 21).1 22 = some (0, 3, 3, true) ∧ 27 + 3 = 30 := by decide +kernel
theorem zi_21_30 : zraw 21 30 = some (.iload_n 3, 1) ∧ 30 + 1 = 31 := by decide +kernel
theorem zi_21_31 : zraw 21 31 = some (.laload, 1) ∧ 31 + 1 = 32 := by decide +kernel
theorem zi_21_32 : zraw 21 32 = some (.lastore, 1) ∧ 32 + 1 = 33 := by decide +kernel
theorem zi_21_33 : zraw 21 33 = some (.aload_n 0, 1) ∧ 33 + 1 = 34 := by decide +kernel
theorem zi_21_34 : zraw 21 34 = some (.getfield 15, 3) ∧ zft (zinf 21).1 15 = some (0, 1, 3, true) ∧ 34 + 3 = 37 := by decide +kernel
theorem zi_21_37 : zraw 21 37 = some (.iload_n 1, 1) ∧ 37 + 1 = 38 := by decide +kernel
theorem zi_21_38 : zraw 21 38 = some (.iload_n 3, 1) ∧ 38 + 1 = 39 := by decide +kernel
theorem zi_21_39 : zraw 21 39 = some (.iadd, 1) ∧ 39 + 1 = 40 := by decide +kernel
theorem zi_21_40 : zraw 21 40 = some (.aload_n 0, 1) ∧ 40 + 1 = 41 := by decide +kernel
theorem zi_21_41 : zraw 21 41 = some (.getfield 25, 3) ∧ zft (zinf 21).1 25 = some (0, 4, 3, true) ∧ 41 + 3 = 44 := by decide +kernel
theorem zi_21_44 : zraw 21 44 = some (.iload_n 3, 1) ∧ 44 + 1 = 45 := by decide +kernel
theorem zi_21_45 : zraw 21 45 = some (.iaload, 1) ∧ 45 + 1 = 46 := by decide +kernel
theorem zi_21_46 : zraw 21 46 = some (.aload_n 0, 1) ∧ 46 + 1 = 47 := by decide +kernel
theorem zi_21_47 : zraw 21 47 = some (.getfield 25, 3) ∧ zft (zinf 21).1 25 = some (0, 4, 3, true) ∧ 47 + 3 = 50 := by decide +kernel
theorem zi_21_50 : zraw 21 50 = some (.iconst 0, 1) ∧ zin 128 0 = true ∧ 50 + 1 = 51 := by decide +kernel
theorem zi_21_51 : zraw 21 51 = some (.iaload, 1) ∧ 51 + 1 = 52 := by decide +kernel
theorem zi_21_52 : zraw 21 52 = some (.isub, 1) ∧ 52 + 1 = 53 := by decide +kernel
theorem zi_21_53 : zraw 21 53 = some (.iload_n 2, 1) ∧ 53 + 1 = 54 := by decide +kernel
theorem zi_21_54 : zraw 21 54 = some (.iadd, 1) ∧ 54 + 1 = 55 := by decide +kernel
theorem zi_21_55 : zraw 21 55 = some (.iastore, 1) ∧ 55 + 1 = 56 := by decide +kernel
theorem zi_21_56 : zraw 21 56 = some (.aload_n 0, 1) ∧ 56 + 1 = 57 := by decide +kernel
theorem zi_21_57 : zraw 21 57 = some (.getfield 19, 3) ∧ zft (zinf 21).1 19 = some (0, 2, 3, true) ∧ 57 + 3 = 60 := by decide +kernel
theorem zi_21_60 : zraw 21 60 = some (.iload_n 1, 1) ∧ 60 + 1 = 61 := by decide +kernel
theorem zi_21_61 : zraw 21 61 = some (.iload_n 3, 1) ∧ 61 + 1 = 62 := by decide +kernel
theorem zi_21_62 : zraw 21 62 = some (.iadd, 1) ∧ 62 + 1 = 63 := by decide +kernel
theorem zi_21_63 : zraw 21 63 = some (.aload_n 0, 1) ∧ 63 + 1 = 64 := by decide +kernel
theorem zi_21_64 : zraw 21 64 = some (.getfield 28, 3) ∧ zft (zinf 21).1 28 = some (0, 5, 3, true) ∧ 64 + 3 = 67 := by decide +kernel
theorem zi_21_67 : zraw 21 67 = some (.iload_n 3, 1) ∧ 67 + 1 = 68 := by decide +kernel
theorem zi_21_68 : zraw 21 68 = some (.iaload, 1) ∧ 68 + 1 = 69 := by decide +kernel
theorem zi_21_69 : zraw 21 69 = some (.iastore, 1) ∧ 69 + 1 = 70 := by decide +kernel
theorem zi_21_70 : zraw 21 70 = some (.iinc 3 1, 3) ∧ zin 32768 1 = true ∧ 70 + 3 = 73 := by decide +kernel
theorem zi_21_73 : zraw 21 73 = some (.goto (-62), 3) ∧ ((73 : Nat) : Int) + (-62) = Int.ofNat 11 := by decide +kernel
theorem zi_21_76 : zraw 21 76 = some (.return_, 1) ∧ (zinf 21).2.2.2.1 = 0 := by decide +kernel
theorem ze_21 {K : List zF} {σ : zW} {x1 : Int} {x2 : Int} (hK : K.length < 60) : zEv true (zent 21 [.inr (.inr 54), .inl x1, .inl x2] :: K) σ = (zEv true (zent 9 [.inr (.inr 54), .inl x1, .inl (gI σ 54 7)] :: (21, 9, [some (.inr (.inr 54)), some (.inl x1), some (.inl x2), none], []) :: K) σ) :=
  yT_en (f := (21, 0, [some (.inr (.inr 54)), some (.inl x1), some (.inl x2), none], [])) rfl (yI_aload_n zi_21_0 rfl <| yI_iload_n zi_21_1 rfl <| yI_aload_n zi_21_2 rfl <| yI_gf_i (v := gI σ 54 7) zi_21_3 zk_54 rfl <| yI_cv zi_21_6 rfl rfl zk_54 hK)
theorem zr_21_9 {K : List zF} {σ : zW} {x1 : Int} {x2 : Int} {o3 : Option zV} : zRet true ((21, 9, [some (.inr (.inr 54)), some (.inl x1), some (.inl x2), o3], []) :: K) none σ = (zEv true ((21, 11, [some (.inr (.inr 54)), some (.inl x1), some (.inl x2), some (.inl 0)], []) :: K) σ) :=
  yT_rv (yI_iconst zi_21_9 <| yI_istore_n (l := [some (.inr (.inr 54)), some (.inl x1), some (.inl x2), some (.inl 0)]) zi_21_10 rfl rfl <| rfl)
theorem zj_21_11 {K : List zF} {σ : zW} {x1 : Int} {x2 : Int} {x3 : Int} : zEv true ((21, 11, [some (.inr (.inr 54)), some (.inl x1), some (.inl x2), some (.inl x3)], []) :: K) σ = (if (gI σ 54 7) ≤ x3 then zRet true K none σ else (0 ≤ x3 ∧ x3 < 20) ∧ ((0 ≤ (w32 (x1 + x3)) ∧ (w32 (x1 + x3)) < 20) ∧ ((0 ≤ x3 ∧ x3 < 20) ∧ ((0 ≤ (w32 (x1 + x3)) ∧ (w32 (x1 + x3)) < 20) ∧ ((0 ≤ x3 ∧ x3 < 20) ∧ ((0 ≤ (w32 (x1 + x3)) ∧ (w32 (x1 + x3)) < 20) ∧ zEv true ((21, 11, [some (.inr (.inr 54)), some (.inl x1), some (.inl x2), some (.inl (w32 (x3 + 1)))], []) :: K) (sI (sI (sL σ 55 ((w32 (x1 + x3)).toNat) (gL σ 58 x3.toNat)) 56 ((w32 (x1 + x3)).toNat) (w32 ((w32 ((gI σ 59 x3.toNat) - (gI σ 59 0))) + x2))) 57 ((w32 (x1 + x3)).toNat) (gI σ 60 x3.toNat)))))))) :=
  yI_iload_n zi_21_11 rfl <| yI_aload_n zi_21_12 rfl <| yI_gf_i (v := gI σ 54 7) zi_21_13 zk_54 rfl <| yI_ic_ge zi_21_16 <| yBr (yI_ret zi_21_76) (yI_aload_n zi_21_19 rfl <| yI_gf_f (v := 55) zi_21_20 zk_54 rfl <| yI_iload_n zi_21_23 rfl <| yI_iload_n zi_21_24 rfl <| yI_iadd zi_21_25 <| yI_aload_n zi_21_26 rfl <| yI_gf_f (v := 58) zi_21_27 zk_54 rfl <| yI_iload_n zi_21_30 rfl <| yI_laloadc (v := gL σ 58 x3.toNat) zi_21_31 za_58 rfl <| yI_lastorec zi_21_32 za_55 <| yI_aload_n zi_21_33 rfl <| yI_gf_f (v := 56) zi_21_34 zk_54 rfl <| yI_iload_n zi_21_37 rfl <| yI_iload_n zi_21_38 rfl <| yI_iadd zi_21_39 <| yI_aload_n zi_21_40 rfl <| yI_gf_f (v := 59) zi_21_41 zk_54 rfl <| yI_iload_n zi_21_44 rfl <| yI_ialoadc (v := gI σ 59 x3.toNat) zi_21_45 za_59 rfl <| yI_aload_n zi_21_46 rfl <| yI_gf_f (v := 59) zi_21_47 zk_54 rfl <| yI_iconst zi_21_50 <| yI_iaload (v := gI σ 59 0) zi_21_51 za_59 (by decide) rfl <| yI_isub zi_21_52 <| yI_iload_n zi_21_53 rfl <| yI_iadd zi_21_54 <| yI_iastorec zi_21_55 za_56 <| yI_aload_n zi_21_56 rfl <| yI_gf_f (v := 57) zi_21_57 zk_54 rfl <| yI_iload_n zi_21_60 rfl <| yI_iload_n zi_21_61 rfl <| yI_iadd zi_21_62 <| yI_aload_n zi_21_63 rfl <| yI_gf_f (v := 60) zi_21_64 zk_54 rfl <| yI_iload_n zi_21_67 rfl <| yI_ialoadc (v := gI σ 60 x3.toNat) zi_21_68 za_60 ((yGI_nk (by decide)).trans (gI_sL _ _ _ _ _ _)) <| yI_iastorec zi_21_69 za_57 <| yI_iinc (l := [some (.inr (.inr 54)), some (.inl x1), some (.inl x2), some (.inl (w32 (x3 + 1)))]) zi_21_70 rfl rfl rfl <| yI_goto zi_21_73 <| rfl)
/-- 23 Treegrab$Found.clear(III)V -/
theorem zi_23_0 : zraw 23 0 = some (.aload_n 0, 1) ∧ 0 + 1 = 1 := by decide +kernel
theorem zi_23_1 : zraw 23 1 = some (.iload_n 1, 1) ∧ 1 + 1 = 2 := by decide +kernel
theorem zi_23_2 : zraw 23 2 = some (.putfield 15, 3) ∧ zft (zinf 23).1 15 = some (1, 1, 0, false) ∧ 2 + 3 = 5 := by decide +kernel
theorem zi_23_5 : zraw 23 5 = some (.aload_n 0, 1) ∧ 5 + 1 = 6 := by decide +kernel
theorem zi_23_6 : zraw 23 6 = some (.iload_n 2, 1) ∧ 6 + 1 = 7 := by decide +kernel
theorem zi_23_7 : zraw 23 7 = some (.iconst 1, 1) ∧ zin 128 1 = true ∧ 7 + 1 = 8 := by decide +kernel
theorem zi_23_8 : zraw 23 8 = some (.iadd, 1) ∧ 8 + 1 = 9 := by decide +kernel
theorem zi_23_9 : zraw 23 9 = some (.putfield 19, 3) ∧ zft (zinf 23).1 19 = some (1, 2, 0, false) ∧ 9 + 3 = 12 := by decide +kernel
theorem zi_23_12 : zraw 23 12 = some (.aload_n 0, 1) ∧ 12 + 1 = 13 := by decide +kernel
theorem zi_23_13 : zraw 23 13 = some (.iload_n 3, 1) ∧ 13 + 1 = 14 := by decide +kernel
theorem zi_23_14 : zraw 23 14 = some (.putfield 22, 3) ∧ zft (zinf 23).1 22 = some (1, 3, 0, false) ∧ 14 + 3 = 17 := by decide +kernel
theorem zi_23_17 : zraw 23 17 = some (.aload_n 0, 1) ∧ 17 + 1 = 18 := by decide +kernel
theorem zi_23_18 : zraw 23 18 = some (.iconst 0, 1) ∧ zin 128 0 = true ∧ 18 + 1 = 19 := by decide +kernel
theorem zi_23_19 : zraw 23 19 = some (.putfield 25, 3) ∧ zft (zinf 23).1 25 = some (1, 5, 0, false) ∧ 19 + 3 = 22 := by decide +kernel
theorem zi_23_22 : zraw 23 22 = some (.iconst 1, 1) ∧ zin 128 1 = true ∧ 22 + 1 = 23 := by decide +kernel
theorem zi_23_23 : zraw 23 23 = some (.istore 4, 2) ∧ 23 + 2 = 25 := by decide +kernel
theorem zi_23_25 : zraw 23 25 = some (.iconst 0, 1) ∧ zin 128 0 = true ∧ 25 + 1 = 26 := by decide +kernel
theorem zi_23_26 : zraw 23 26 = some (.istore 5, 2) ∧ 26 + 2 = 28 := by decide +kernel
theorem zi_23_28 : zraw 23 28 = some (.iload 5, 2) ∧ 28 + 2 = 30 := by decide +kernel
theorem zi_23_30 : zraw 23 30 = some (.aload_n 0, 1) ∧ 30 + 1 = 31 := by decide +kernel
theorem zi_23_31 : zraw 23 31 = some (.getfield 22, 3) ∧ zft (zinf 23).1 22 = some (1, 3, 0, false) ∧ 31 + 3 = 34 := by decide +kernel
theorem zi_23_34 : zraw 23 34 = some (.if_icmp .ge 18, 3) ∧ ((34 : Nat) : Int) + 18 = Int.ofNat 52 ∧ 34 + 3 = 37 := by decide +kernel
theorem zi_23_37 : zraw 23 37 = some (.iload 4, 2) ∧ 37 + 2 = 39 := by decide +kernel
theorem zi_23_39 : zraw 23 39 = some (.aload_n 0, 1) ∧ 39 + 1 = 40 := by decide +kernel
theorem zi_23_40 : zraw 23 40 = some (.getfield 19, 3) ∧ zft (zinf 23).1 19 = some (1, 2, 0, false) ∧ 40 + 3 = 43 := by decide +kernel
theorem zi_23_43 : zraw 23 43 = some (.imul, 1) ∧ 43 + 1 = 44 := by decide +kernel
theorem zi_23_44 : zraw 23 44 = some (.istore 4, 2) ∧ 44 + 2 = 46 := by decide +kernel
theorem zi_23_46 : zraw 23 46 = some (.iinc 5 1, 3) ∧ zin 32768 1 = true ∧ 46 + 3 = 49 := by decide +kernel
theorem zi_23_49 : zraw 23 49 = some (.goto (-21), 3) ∧ ((49 : Nat) : Int) + (-21) = Int.ofNat 28 := by decide +kernel
theorem zi_23_52 : zraw 23 52 = some (.aload_n 0, 1) ∧ 52 + 1 = 53 := by decide +kernel
theorem zi_23_53 : zraw 23 53 = some (.iload 4, 2) ∧ 53 + 2 = 55 := by decide +kernel
theorem zi_23_55 : zraw 23 55 = some (.bipush 64, 2) ∧ zin 128 64 = true ∧ 55 + 2 = 57 := by decide +kernel
theorem zi_23_57 : zraw 23 57 = some (.idiv, 1) ∧ 57 + 1 = 58 := by decide +kernel
theorem zi_23_58 : zraw 23 58 = some (.iconst 1, 1) ∧ zin 128 1 = true ∧ 58 + 1 = 59 := by decide +kernel
theorem zi_23_59 : zraw 23 59 = some (.iadd, 1) ∧ 59 + 1 = 60 := by decide +kernel
theorem zi_23_60 : zraw 23 60 = some (.sipush 3039, 3) ∧ zin 32768 3039 = true ∧ 60 + 3 = 63 := by decide +kernel
theorem zi_23_63 : zraw 23 63 = some (.invokestatic 28, 3) ∧ zmt (zinf 23).1 28 = some 9005 ∧ 63 + 3 = 66 := by decide +kernel
theorem zi_23_66 : zraw 23 66 = some (.putfield 34, 3) ∧ zft (zinf 23).1 34 = some (1, 4, 0, false) ∧ 66 + 3 = 69 := by decide +kernel
theorem zi_23_69 : zraw 23 69 = some (.iconst 0, 1) ∧ zin 128 0 = true ∧ 69 + 1 = 70 := by decide +kernel
theorem zi_23_70 : zraw 23 70 = some (.istore 5, 2) ∧ 70 + 2 = 72 := by decide +kernel
theorem zi_23_72 : zraw 23 72 = some (.iload 5, 2) ∧ 72 + 2 = 74 := by decide +kernel
theorem zi_23_74 : zraw 23 74 = some (.aload_n 0, 1) ∧ 74 + 1 = 75 := by decide +kernel
theorem zi_23_75 : zraw 23 75 = some (.getfield 34, 3) ∧ zft (zinf 23).1 34 = some (1, 4, 0, false) ∧ 75 + 3 = 78 := by decide +kernel
theorem zi_23_78 : zraw 23 78 = some (.if_icmp .ge 17, 3) ∧ ((78 : Nat) : Int) + 17 = Int.ofNat 95 ∧ 78 + 3 = 81 := by decide +kernel
theorem zi_23_81 : zraw 23 81 = some (.aload_n 0, 1) ∧ 81 + 1 = 82 := by decide +kernel
theorem zi_23_82 : zraw 23 82 = some (.getfield 11, 3) ∧ zft (zinf 23).1 11 = some (1, 0, 3, true) ∧ 82 + 3 = 85 := by decide +kernel
theorem zi_23_85 : zraw 23 85 = some (.iload 5, 2) ∧ 85 + 2 = 87 := by decide +kernel
theorem zi_23_87 : zraw 23 87 = some (.lconst 0, 1) ∧ (bif Nat.beq (0 : Fin 2).val 0 then (0 : Int64) else 1) = 0 ∧ 87 + 1 = 88 := by decide +kernel
theorem zi_23_88 : zraw 23 88 = some (.lastore, 1) ∧ 88 + 1 = 89 := by decide +kernel
theorem zi_23_89 : zraw 23 89 = some (.iinc 5 1, 3) ∧ zin 32768 1 = true ∧ 89 + 3 = 92 := by decide +kernel
theorem zi_23_92 : zraw 23 92 = some (.goto (-20), 3) ∧ ((92 : Nat) : Int) + (-20) = Int.ofNat 72 := by decide +kernel
theorem zi_23_95 : zraw 23 95 = some (.return_, 1) ∧ (zinf 23).2.2.2.1 = 0 := by decide +kernel
theorem ze_23 {K : List zF} {σ : zW} {t : Nat} {x1 : Int} {x2 : Int} {x3 : Int} (h1 : zFo t) : zEv true (zent 23 [.inr (.inr t), .inl x1, .inl x2, .inl x3] :: K) σ = (zEv true ((23, 28, [some (.inr (.inr t)), some (.inl x1), some (.inl x2), some (.inl x3), some (.inl 1), some (.inl 0)], []) :: K) (sI (sI (sI (sI σ t 1 x1) t 2 (w32 (x2 + 1))) t 3 x3) t 5 0)) :=
  yT_en (f := (23, 0, [some (.inr (.inr t)), some (.inl x1), some (.inl x2), some (.inl x3), none, none], [])) rfl (yI_aload_n zi_23_0 rfl <| yI_iload_n zi_23_1 rfl <| yI_pf_i zi_23_2 (zFo_k h1) <| yI_aload_n zi_23_5 rfl <| yI_iload_n zi_23_6 rfl <| yI_iconst zi_23_7 <| yI_iadd zi_23_8 <| yI_pf_i zi_23_9 (zFo_k h1) <| yI_aload_n zi_23_12 rfl <| yI_iload_n zi_23_13 rfl <| yI_pf_i zi_23_14 (zFo_k h1) <| yI_aload_n zi_23_17 rfl <| yI_iconst zi_23_18 <| yI_pf_i zi_23_19 (zFo_k h1) <| yI_iconst zi_23_22 <| yI_istore (l := [some (.inr (.inr t)), some (.inl x1), some (.inl x2), some (.inl x3), some (.inl 1), none]) zi_23_23 rfl rfl <| yI_iconst zi_23_25 <| yI_istore (l := [some (.inr (.inr t)), some (.inl x1), some (.inl x2), some (.inl x3), some (.inl 1), some (.inl 0)]) zi_23_26 rfl rfl <| rfl)
theorem zj_23_28 {K : List zF} {σ : zW} {x0 : Nat} {o1 : Option zV} {o2 : Option zV} {o3 : Option zV} {x4 : Int} {x5 : Int} (h1 : zFo x0) : zEv true ((23, 28, [some (.inr (.inr x0)), o1, o2, o3, some (.inl x4), some (.inl x5)], []) :: K) σ = (if (gI σ x0 3) ≤ x5 then zEv true ((23, 72, [some (.inr (.inr x0)), o1, o2, o3, some (.inl x4), some (.inl 0)], []) :: K) (sI σ x0 4 (if 3039 < (w32 ((zdiv x4 64) + 1)) then 3039 else w32 ((zdiv x4 64) + 1))) else zEv true ((23, 28, [some (.inr (.inr x0)), o1, o2, (zcut 0 o3), some (.inl (w32 (x4 * (gI σ x0 2)))), some (.inl (w32 (x5 + 1)))], []) :: K) σ) :=
  yI_iload zi_23_28 rfl <| yI_aload_n zi_23_30 rfl <| yI_gf_i (v := gI σ x0 3) zi_23_31 (zFo_k h1) rfl <| yI_ic_ge zi_23_34 <| yBr (yI_aload_n zi_23_52 rfl <| yI_iload zi_23_53 rfl <| yI_bipush zi_23_55 <| yI_idiv zi_23_57 (by decide) <| yI_iconst zi_23_58 <| yI_iadd zi_23_59 <| yI_sipush zi_23_60 <| yI_min zi_23_63 rfl <| yI_pf_i zi_23_66 (zFo_k h1) <| yI_iconst zi_23_69 <| yI_istore (l := [some (.inr (.inr x0)), o1, o2, o3, some (.inl x4), some (.inl 0)]) zi_23_70 rfl rfl <| rfl) (yI_iload zi_23_37 rfl <| yI_aload_n zi_23_39 rfl <| yI_gf_i (v := gI σ x0 2) zi_23_40 (zFo_k h1) rfl <| yI_imul zi_23_43 <| yI_istore (l := [some (.inr (.inr x0)), o1, o2, (zcut 0 o3), some (.inl (w32 (x4 * (gI σ x0 2)))), some (.inl x5)]) zi_23_44 rfl rfl <| yI_iinc (l := [some (.inr (.inr x0)), o1, o2, (zcut 0 o3), some (.inl (w32 (x4 * (gI σ x0 2)))), some (.inl (w32 (x5 + 1)))]) zi_23_46 rfl rfl rfl <| yI_goto zi_23_49 <| rfl)
theorem zj_23_72 {K : List zF} {σ : zW} {x0 : Nat} {o1 : Option zV} {o2 : Option zV} {o3 : Option zV} {o4 : Option zV} {x5 : Int} (h1 : zFo x0) : zEv true ((23, 72, [some (.inr (.inr x0)), o1, o2, o3, o4, some (.inl x5)], []) :: K) σ = (if (gI σ x0 4) ≤ x5 then zRet true K none σ else (0 ≤ x5 ∧ x5 < 3039) ∧ zEv true ((23, 72, [some (.inr (.inr x0)), o1, o2, o3, (zcut 0 o4), some (.inl (w32 (x5 + 1)))], []) :: K) (sL σ (x0 + 1) x5.toNat 0)) :=
  yI_iload zi_23_72 rfl <| yI_aload_n zi_23_74 rfl <| yI_gf_i (v := gI σ x0 4) zi_23_75 (zFo_k h1) rfl <| yI_ic_ge zi_23_78 <| yBr (yI_ret zi_23_95) (yI_aload_n zi_23_81 rfl <| yI_gf_f (v := x0 + 1) zi_23_82 (zFo_k h1) rfl <| yI_iload zi_23_85 rfl <| yI_lconst zi_23_87 <| yI_lastorec zi_23_88 (zFo_a1 h1) <| yI_iinc (l := [some (.inr (.inr x0)), o1, o2, o3, (zcut 0 o4), some (.inl (w32 (x5 + 1)))]) zi_23_89 rfl rfl rfl <| yI_goto zi_23_92 <| rfl)
/-- 24 Treegrab$Found.enter([I)V -/
theorem zi_24_0 : zraw 24 0 = some (.iconst 0, 1) ∧ zin 128 0 = true ∧ 0 + 1 = 1 := by decide +kernel
theorem zi_24_1 : zraw 24 1 = some (.istore_n 2, 1) ∧ 1 + 1 = 2 := by decide +kernel
theorem zi_24_2 : zraw 24 2 = some (.iconst 0, 1) ∧ zin 128 0 = true ∧ 2 + 1 = 3 := by decide +kernel
theorem zi_24_3 : zraw 24 3 = some (.istore_n 3, 1) ∧ 3 + 1 = 4 := by decide +kernel
theorem zi_24_4 : zraw 24 4 = some (.iload_n 3, 1) ∧ 4 + 1 = 5 := by decide +kernel
theorem zi_24_5 : zraw 24 5 = some (.aload_n 0, 1) ∧ 5 + 1 = 6 := by decide +kernel
theorem zi_24_6 : zraw 24 6 = some (.getfield 22, 3) ∧ zft (zinf 24).1 22 = some (1, 3, 0, false) ∧ 6 + 3 = 9 := by decide +kernel
theorem zi_24_9 : zraw 24 9 = some (.if_icmp .ge 28, 3) ∧ ((9 : Nat) : Int) + 28 = Int.ofNat 37 ∧ 9 + 3 = 12 := by decide +kernel
theorem zi_24_12 : zraw 24 12 = some (.iload_n 3, 1) ∧ 12 + 1 = 13 := by decide +kernel
theorem zi_24_13 : zraw 24 13 = some (.aload_n 1, 1) ∧ 13 + 1 = 14 := by decide +kernel
theorem zi_24_14 : zraw 24 14 = some (.arraylength, 1) ∧ 14 + 1 = 15 := by decide +kernel
theorem zi_24_15 : zraw 24 15 = some (.if_icmp .ge 22, 3) ∧ ((15 : Nat) : Int) + 22 = Int.ofNat 37 ∧ 15 + 3 = 18 := by decide +kernel
theorem zi_24_18 : zraw 24 18 = some (.iload_n 2, 1) ∧ 18 + 1 = 19 := by decide +kernel
theorem zi_24_19 : zraw 24 19 = some (.aload_n 0, 1) ∧ 19 + 1 = 20 := by decide +kernel
theorem zi_24_20 : zraw 24 20 = some (.getfield 19, 3) ∧ zft (zinf 24).1 19 = some (1, 2, 0, false) ∧ 20 + 3 = 23 := by decide +kernel
theorem zi_24_23 : zraw 24 23 = some (.imul, 1) ∧ 23 + 1 = 24 := by decide +kernel
theorem zi_24_24 : zraw 24 24 = some (.aload_n 1, 1) ∧ 24 + 1 = 25 := by decide +kernel
theorem zi_24_25 : zraw 24 25 = some (.iload_n 3, 1) ∧ 25 + 1 = 26 := by decide +kernel
theorem zi_24_26 : zraw 24 26 = some (.iaload, 1) ∧ 26 + 1 = 27 := by decide +kernel
theorem zi_24_27 : zraw 24 27 = some (.iadd, 1) ∧ 27 + 1 = 28 := by decide +kernel
theorem zi_24_28 : zraw 24 28 = some (.iconst 1, 1) ∧ zin 128 1 = true ∧ 28 + 1 = 29 := by decide +kernel
theorem zi_24_29 : zraw 24 29 = some (.iadd, 1) ∧ 29 + 1 = 30 := by decide +kernel
theorem zi_24_30 : zraw 24 30 = some (.istore_n 2, 1) ∧ 30 + 1 = 31 := by decide +kernel
theorem zi_24_31 : zraw 24 31 = some (.iinc 3 1, 3) ∧ zin 32768 1 = true ∧ 31 + 3 = 34 := by decide +kernel
theorem zi_24_34 : zraw 24 34 = some (.goto (-30), 3) ∧ ((34 : Nat) : Int) + (-30) = Int.ofNat 4 := by decide +kernel
theorem zi_24_37 : zraw 24 37 = some (.iload_n 2, 1) ∧ 37 + 1 = 38 := by decide +kernel
theorem zi_24_38 : zraw 24 38 = some (.bipush 6, 2) ∧ zin 128 6 = true ∧ 38 + 2 = 40 := by decide +kernel
theorem zi_24_40 : zraw 24 40 = some (.ishr, 1) ∧ 40 + 1 = 41 := by decide +kernel
theorem zi_24_41 : zraw 24 41 = some (.istore_n 3, 1) ∧ 41 + 1 = 42 := by decide +kernel
theorem zi_24_42 : zraw 24 42 = some (.iload_n 3, 1) ∧ 42 + 1 = 43 := by decide +kernel
theorem zi_24_43 : zraw 24 43 = some (.ifCond .lt 11, 3) ∧ ((43 : Nat) : Int) + 11 = Int.ofNat 54 ∧ 43 + 3 = 46 := by decide +kernel
theorem zi_24_46 : zraw 24 46 = some (.iload_n 3, 1) ∧ 46 + 1 = 47 := by decide +kernel
theorem zi_24_47 : zraw 24 47 = some (.aload_n 0, 1) ∧ 47 + 1 = 48 := by decide +kernel
theorem zi_24_48 : zraw 24 48 = some (.getfield 34, 3) ∧ zft (zinf 24).1 34 = some (1, 4, 0, false) ∧ 48 + 3 = 51 := by decide +kernel
theorem zi_24_51 : zraw 24 51 = some (.if_icmp .lt 4, 3) ∧ ((51 : Nat) : Int) + 4 = Int.ofNat 55 ∧ 51 + 3 = 54 := by decide +kernel
theorem zi_24_54 : zraw 24 54 = some (.return_, 1) ∧ (zinf 24).2.2.2.1 = 0 := by decide +kernel
theorem zi_24_55 : zraw 24 55 = some (.lconst 1, 1) ∧ (bif Nat.beq (1 : Fin 2).val 0 then (0 : Int64) else 1) = 1 ∧ 55 + 1 = 56 := by decide +kernel
theorem zi_24_56 : zraw 24 56 = some (.iload_n 2, 1) ∧ 56 + 1 = 57 := by decide +kernel
theorem zi_24_57 : zraw 24 57 = some (.bipush 63, 2) ∧ zin 128 63 = true ∧ 57 + 2 = 59 := by decide +kernel
theorem zi_24_59 : zraw 24 59 = some (.iand, 1) ∧ 59 + 1 = 60 := by decide +kernel
theorem zi_24_60 : zraw 24 60 = some (.lshl, 1) ∧ 60 + 1 = 61 := by decide +kernel
theorem zi_24_61 : zraw 24 61 = some (.lstore 4, 2) ∧ 61 + 2 = 63 := by decide +kernel
theorem zi_24_63 : zraw 24 63 = some (.aload_n 0, 1) ∧ 63 + 1 = 64 := by decide +kernel
theorem zi_24_64 : zraw 24 64 = some (.dup, 1) ∧ 64 + 1 = 65 := by decide +kernel
theorem zi_24_65 : zraw 24 65 = some (.getfield 25, 3) ∧ zft (zinf 24).1 25 = some (1, 5, 0, false) ∧ 65 + 3 = 68 := by decide +kernel
theorem zi_24_68 : zraw 24 68 = some (.aload_n 0, 1) ∧ 68 + 1 = 69 := by decide +kernel
theorem zi_24_69 : zraw 24 69 = some (.getfield 11, 3) ∧ zft (zinf 24).1 11 = some (1, 0, 3, true) ∧ 69 + 3 = 72 := by decide +kernel
theorem zi_24_72 : zraw 24 72 = some (.iload_n 3, 1) ∧ 72 + 1 = 73 := by decide +kernel
theorem zi_24_73 : zraw 24 73 = some (.laload, 1) ∧ 73 + 1 = 74 := by decide +kernel
theorem zi_24_74 : zraw 24 74 = some (.lload 4, 2) ∧ 74 + 2 = 76 := by decide +kernel
theorem zi_24_76 : zraw 24 76 = some (.land, 1) ∧ 76 + 1 = 77 := by decide +kernel
theorem zi_24_77 : zraw 24 77 = some (.lconst 0, 1) ∧ (bif Nat.beq (0 : Fin 2).val 0 then (0 : Int64) else 1) = 0 ∧ 77 + 1 = 78 := by decide +kernel
theorem zi_24_78 : zraw 24 78 = some (.lcmp, 1) ∧ 78 + 1 = 79 := by decide +kernel
theorem zi_24_79 : zraw 24 79 = some (.ifCond .ne 7, 3) ∧ ((79 : Nat) : Int) + 7 = Int.ofNat 86 ∧ 79 + 3 = 82 := by decide +kernel
theorem zi_24_82 : zraw 24 82 = some (.iconst 1, 1) ∧ zin 128 1 = true ∧ 82 + 1 = 83 := by decide +kernel
theorem zi_24_83 : zraw 24 83 = some (.goto 4, 3) ∧ ((83 : Nat) : Int) + 4 = Int.ofNat 87 := by decide +kernel
theorem zi_24_86 : zraw 24 86 = some (.iconst 0, 1) ∧ zin 128 0 = true ∧ 86 + 1 = 87 := by decide +kernel
theorem zi_24_87 : zraw 24 87 = some (.iadd, 1) ∧ 87 + 1 = 88 := by decide +kernel
theorem zi_24_88 : zraw 24 88 = some (.putfield 25, 3) ∧ zft (zinf 24).1 25 = some (1, 5, 0, false) ∧ 88 + 3 = 91 := by decide +kernel
theorem zi_24_91 : zraw 24 91 = some (.aload_n 0, 1) ∧ 91 + 1 = 92 := by decide +kernel
theorem zi_24_92 : zraw 24 92 = some (.getfield 11, 3) ∧ zft (zinf 24).1 11 = some (1, 0, 3, true) ∧ 92 + 3 = 95 := by decide +kernel
theorem zi_24_95 : zraw 24 95 = some (.iload_n 3, 1) ∧ 95 + 1 = 96 := by decide +kernel
theorem zi_24_96 : zraw 24 96 = some (.dup2, 1) ∧ 96 + 1 = 97 := by decide +kernel
theorem zi_24_97 : zraw 24 97 = some (.laload, 1) ∧ 97 + 1 = 98 := by decide +kernel
theorem zi_24_98 : zraw 24 98 = some (.lload 4, 2) ∧ 98 + 2 = 100 := by decide +kernel
theorem zi_24_100 : zraw 24 100 = some (.lor, 1) ∧ 100 + 1 = 101 := by decide +kernel
theorem zi_24_101 : zraw 24 101 = some (.lastore, 1) ∧ 101 + 1 = 102 := by decide +kernel
theorem zi_24_102 : zraw 24 102 = some (.return_, 1) ∧ (zinf 24).2.2.2.1 = 0 := by decide +kernel
theorem ze_24 {K : List zF} {σ : zW} {t : Nat} : zEv true (zent 24 [.inr (.inr t), .inr (.inr 48)] :: K) σ = (zEv true ((24, 4, [some (.inr (.inr t)), some (.inr (.inr 48)), some (.inl 0), some (.inl 0), none, none], []) :: K) σ) :=
  yT_en (f := (24, 0, [some (.inr (.inr t)), some (.inr (.inr 48)), none, none, none, none], [])) rfl (yI_iconst zi_24_0 <| yI_istore_n (l := [some (.inr (.inr t)), some (.inr (.inr 48)), some (.inl 0), none, none, none]) zi_24_1 rfl rfl <| yI_iconst zi_24_2 <| yI_istore_n (l := [some (.inr (.inr t)), some (.inr (.inr 48)), some (.inl 0), some (.inl 0), none, none]) zi_24_3 rfl rfl <| rfl)
theorem zj_24_4 {K : List zF} {σ : zW} {x0 : Nat} {x2 : Int} {x3 : Int} {o4 : Option zV} {o5 : Option zV} (h1 : zFo x0) : zEv true ((24, 4, [some (.inr (.inr x0)), some (.inr (.inr 48)), some (.inl x2), some (.inl x3), o4, o5], []) :: K) σ = (if (gI σ x0 3) ≤ x3 then zEv true ((24, 37, [some (.inr (.inr x0)), some (.inr (.inr 48)), some (.inl x2), some (.inl x3), o4, o5], []) :: K) σ else if 4 ≤ x3 then zEv true ((24, 37, [some (.inr (.inr x0)), some (.inr (.inr 48)), some (.inl x2), some (.inl x3), o4, o5], []) :: K) σ else (0 ≤ x3 ∧ x3 < 4) ∧ zEv true ((24, 4, [some (.inr (.inr x0)), some (.inr (.inr 48)), some (.inl (w32 ((w32 ((w32 (x2 * (gI σ x0 2))) + (gI σ 48 x3.toNat))) + 1))), some (.inl (w32 (x3 + 1))), o4, o5], []) :: K) σ) :=
  yI_iload_n zi_24_4 rfl <| yI_aload_n zi_24_5 rfl <| yI_gf_i (v := gI σ x0 3) zi_24_6 (zFo_k h1) rfl <| yI_ic_ge zi_24_9 <| yBr (rfl) (yI_iload_n zi_24_12 rfl <| yI_aload_n zi_24_13 rfl <| yI_alen (v := 4) zi_24_14 za_48 rfl <| yI_ic_ge zi_24_15 <| yBr (rfl) (yI_iload_n zi_24_18 rfl <| yI_aload_n zi_24_19 rfl <| yI_gf_i (v := gI σ x0 2) zi_24_20 (zFo_k h1) rfl <| yI_imul zi_24_23 <| yI_aload_n zi_24_24 rfl <| yI_iload_n zi_24_25 rfl <| yI_ialoadc (v := gI σ 48 x3.toNat) zi_24_26 za_48 rfl <| yI_iadd zi_24_27 <| yI_iconst zi_24_28 <| yI_iadd zi_24_29 <| yI_istore_n (l := [some (.inr (.inr x0)), some (.inr (.inr 48)), some (.inl (w32 ((w32 ((w32 (x2 * (gI σ x0 2))) + (gI σ 48 x3.toNat))) + 1))), some (.inl x3), o4, o5]) zi_24_30 rfl rfl <| yI_iinc (l := [some (.inr (.inr x0)), some (.inr (.inr 48)), some (.inl (w32 ((w32 ((w32 (x2 * (gI σ x0 2))) + (gI σ 48 x3.toNat))) + 1))), some (.inl (w32 (x3 + 1))), o4, o5]) zi_24_31 rfl rfl rfl <| yI_goto zi_24_34 <| rfl))
theorem zj_24_37 {K : List zF} {σ : zW} {x0 : Nat} {o1 : Option zV} {x2 : Int} {o3 : Option zV} {o4 : Option zV} {o5 : Option zV} (h1 : zFo x0) : zEv true ((24, 37, [some (.inr (.inr x0)), o1, some (.inl x2), o3, o4, o5], []) :: K) σ = (if (zshr x2 6) < 0 then zRet true K none σ else if (zshr x2 6) < (gI σ x0 4) then (0 ≤ (zshr x2 6) ∧ (zshr x2 6) < 3039) ∧ ((0 ≤ (zshr x2 6) ∧ (zshr x2 6) < 3039) ∧ ((0 ≤ (zshr x2 6) ∧ (zshr x2 6) < 3039) ∧ zRet true K none (sL (sI σ x0 5 (w32 ((gI σ x0 5) + (if ¬ (zlc ((gL σ (x0 + 1) ((zshr x2 6).toNat)) &&& (zlshl 1 (zand x2 63))) 0) = 0 then 0 else 1 : Int)))) (x0 + 1) ((zshr x2 6).toNat) ((gL σ (x0 + 1) ((zshr x2 6).toNat)) ||| (zlshl 1 (zand x2 63)))))) else zRet true K none σ) :=
  yI_iload_n zi_24_37 rfl <| yI_bipush zi_24_38 <| yI_ishr zi_24_40 <| yI_istore_n (l := [some (.inr (.inr x0)), o1, some (.inl x2), some (.inl (zshr x2 6)), o4, o5]) zi_24_41 rfl rfl <| yI_iload_n zi_24_42 rfl <| yI_if_lt zi_24_43 <| yBr (yI_ret zi_24_54) (yI_iload_n zi_24_46 rfl <| yI_aload_n zi_24_47 rfl <| yI_gf_i (v := gI σ x0 4) zi_24_48 (zFo_k h1) rfl <| yI_ic_lt zi_24_51 <| yBr (yI_lconst zi_24_55 <| yI_iload_n zi_24_56 rfl <| yI_bipush zi_24_57 <| yI_iand zi_24_59 <| yI_lshl zi_24_60 <| yI_lstore (l := [some (.inr (.inr x0)), o1, some (.inl x2), some (.inl (zshr x2 6)), some (.inr (.inl (zlshl 1 (zand x2 63)))), none]) zi_24_61 rfl rfl <| yI_aload_n zi_24_63 rfl <| yI_dup_r zi_24_64 <| yI_gf_i (v := gI σ x0 5) zi_24_65 (zFo_k h1) rfl <| yI_aload_n zi_24_68 rfl <| yI_gf_f (v := x0 + 1) zi_24_69 (zFo_k h1) rfl <| yI_iload_n zi_24_72 rfl <| yI_laloadc (v := gL σ (x0 + 1) ((zshr x2 6).toNat)) zi_24_73 (zFo_a1 h1) rfl <| yI_lload zi_24_74 rfl <| yI_land zi_24_76 <| yI_lconst zi_24_77 <| yI_lcmp zi_24_78 <| yI_if_ne zi_24_79 <| yMi0 (j := 87) (ls2 := [some (.inr (.inr x0)), o1, some (.inl x2), some (.inl (zshr x2 6)), some (.inr (.inl (zlshl 1 (zand x2 63)))), none]) (st2 := [.inl (gI σ x0 5), .inr (.inr x0)]) (x := 0) (y := 1) (σ2 := σ) (yI_iconst zi_24_86 <| rfl) (yI_iconst zi_24_82 <| yI_goto zi_24_83 <| rfl) <| yI_iadd zi_24_87 <| yI_pf_i zi_24_88 (zFo_k h1) <| yI_aload_n zi_24_91 rfl <| yI_gf_f (v := x0 + 1) zi_24_92 (zFo_k h1) rfl <| yI_iload_n zi_24_95 rfl <| yI_dup2_ir zi_24_96 <| yI_laloadc (v := gL σ (x0 + 1) ((zshr x2 6).toNat)) zi_24_97 (zFo_a1 h1) rfl <| yI_lload zi_24_98 rfl <| yI_lor zi_24_100 <| yI_lastorec zi_24_101 (zFo_a1 h1) <| yI_ret zi_24_102) (yI_ret zi_24_54))
/-- 25 Treegrab$Found.numberOf(I)I -/
theorem zi_25_0 : zraw 25 0 = some (.iload_n 1, 1) ∧ 0 + 1 = 1 := by decide +kernel
theorem zi_25_1 : zraw 25 1 = some (.istore_n 2, 1) ∧ 1 + 1 = 2 := by decide +kernel
theorem zi_25_2 : zraw 25 2 = some (.iconst 0, 1) ∧ zin 128 0 = true ∧ 2 + 1 = 3 := by decide +kernel
theorem zi_25_3 : zraw 25 3 = some (.istore_n 3, 1) ∧ 3 + 1 = 4 := by decide +kernel
theorem zi_25_4 : zraw 25 4 = some (.iload_n 3, 1) ∧ 4 + 1 = 5 := by decide +kernel
theorem zi_25_5 : zraw 25 5 = some (.aload_n 0, 1) ∧ 5 + 1 = 6 := by decide +kernel
theorem zi_25_6 : zraw 25 6 = some (.getfield 34, 3) ∧ zft (zinf 25).1 34 = some (1, 4, 0, false) ∧ 6 + 3 = 9 := by decide +kernel
theorem zi_25_9 : zraw 25 9 = some (.if_icmp .ge 74, 3) ∧ ((9 : Nat) : Int) + 74 = Int.ofNat 83 ∧ 9 + 3 = 12 := by decide +kernel
theorem zi_25_12 : zraw 25 12 = some (.aload_n 0, 1) ∧ 12 + 1 = 13 := by decide +kernel
theorem zi_25_13 : zraw 25 13 = some (.getfield 11, 3) ∧ zft (zinf 25).1 11 = some (1, 0, 3, true) ∧ 13 + 3 = 16 := by decide +kernel
theorem zi_25_16 : zraw 25 16 = some (.iload_n 3, 1) ∧ 16 + 1 = 17 := by decide +kernel
theorem zi_25_17 : zraw 25 17 = some (.laload, 1) ∧ 17 + 1 = 18 := by decide +kernel
theorem zi_25_18 : zraw 25 18 = some (.invokestatic 37, 3) ∧ zmt (zinf 25).1 37 = some 168 ∧ Nat.ble 9000 168 = false ∧ zinf 168 = (13, 1, 2, 1, 1) ∧ 18 + 3 = 21 := by decide +kernel
theorem zi_25_21 : zraw 25 21 = some (.istore 4, 2) ∧ 21 + 2 = 23 := by decide +kernel
theorem zi_25_23 : zraw 25 23 = some (.iload_n 2, 1) ∧ 23 + 1 = 24 := by decide +kernel
theorem zi_25_24 : zraw 25 24 = some (.iload 4, 2) ∧ 24 + 2 = 26 := by decide +kernel
theorem zi_25_26 : zraw 25 26 = some (.if_icmp .ge 46, 3) ∧ ((26 : Nat) : Int) + 46 = Int.ofNat 72 ∧ 26 + 3 = 29 := by decide +kernel
theorem zi_25_29 : zraw 25 29 = some (.aload_n 0, 1) ∧ 29 + 1 = 30 := by decide +kernel
theorem zi_25_30 : zraw 25 30 = some (.getfield 11, 3) ∧ zft (zinf 25).1 11 = some (1, 0, 3, true) ∧ 30 + 3 = 33 := by decide +kernel
theorem zi_25_33 : zraw 25 33 = some (.iload_n 3, 1) ∧ 33 + 1 = 34 := by decide +kernel
theorem zi_25_34 : zraw 25 34 = some (.laload, 1) ∧ 34 + 1 = 35 := by decide +kernel
theorem zi_25_35 : zraw 25 35 = some (.lstore 5, 2) ∧ 35 + 2 = 37 := by decide +kernel
theorem zi_25_37 : zraw 25 37 = some (.iconst 0, 1) ∧ zin 128 0 = true ∧ 37 + 1 = 38 := by decide +kernel
theorem zi_25_38 : zraw 25 38 = some (.istore 7, 2) ∧ 38 + 2 = 40 := by decide +kernel
theorem zi_25_40 : zraw 25 40 = some (.iload 7, 2) ∧ 40 + 2 = 42 := by decide +kernel
theorem zi_25_42 : zraw 25 42 = some (.iload_n 2, 1) ∧ 42 + 1 = 43 := by decide +kernel
theorem zi_25_43 : zraw 25 43 = some (.if_icmp .ge 18, 3) ∧ ((43 : Nat) : Int) + 18 = Int.ofNat 61 ∧ 43 + 3 = 46 := by decide +kernel
theorem zi_25_46 : zraw 25 46 = some (.lload 5, 2) ∧ 46 + 2 = 48 := by decide +kernel
theorem zi_25_48 : zraw 25 48 = some (.lload 5, 2) ∧ 48 + 2 = 50 := by decide +kernel
theorem zi_25_50 : zraw 25 50 = some (.lconst 1, 1) ∧ (bif Nat.beq (1 : Fin 2).val 0 then (0 : Int64) else 1) = 1 ∧ 50 + 1 = 51 := by decide +kernel
theorem zi_25_51 : zraw 25 51 = some (.lsub, 1) ∧ 51 + 1 = 52 := by decide +kernel
theorem zi_25_52 : zraw 25 52 = some (.land, 1) ∧ 52 + 1 = 53 := by decide +kernel
theorem zi_25_53 : zraw 25 53 = some (.lstore 5, 2) ∧ 53 + 2 = 55 := by decide +kernel
theorem zi_25_55 : zraw 25 55 = some (.iinc 7 1, 3) ∧ zin 32768 1 = true ∧ 55 + 3 = 58 := by decide +kernel
theorem zi_25_58 : zraw 25 58 = some (.goto (-18), 3) ∧ ((58 : Nat) : Int) + (-18) = Int.ofNat 40 := by decide +kernel
theorem zi_25_61 : zraw 25 61 = some (.iload_n 3, 1) ∧ 61 + 1 = 62 := by decide +kernel
theorem zi_25_62 : zraw 25 62 = some (.bipush 6, 2) ∧ zin 128 6 = true ∧ 62 + 2 = 64 := by decide +kernel
theorem zi_25_64 : zraw 25 64 = some (.ishl, 1) ∧ 64 + 1 = 65 := by decide +kernel
theorem zi_25_65 : zraw 25 65 = some (.lload 5, 2) ∧ 65 + 2 = 67 := by decide +kernel
theorem zi_25_67 : zraw 25 67 = some (.invokestatic 43, 3) ∧ zmt (zinf 25).1 43 = some 169 ∧ Nat.ble 9000 169 = false ∧ zinf 169 = (13, 1, 3, 1, 1) ∧ 67 + 3 = 70 := by decide +kernel
theorem zi_25_70 : zraw 25 70 = some (.iadd, 1) ∧ 70 + 1 = 71 := by decide +kernel
theorem zi_25_71 : zraw 25 71 = some (.ireturn, 1) ∧ (zinf 25).2.2.2.1 = 1 := by decide +kernel
theorem zi_25_72 : zraw 25 72 = some (.iload_n 2, 1) ∧ 72 + 1 = 73 := by decide +kernel
theorem zi_25_73 : zraw 25 73 = some (.iload 4, 2) ∧ 73 + 2 = 75 := by decide +kernel
theorem zi_25_75 : zraw 25 75 = some (.isub, 1) ∧ 75 + 1 = 76 := by decide +kernel
theorem zi_25_76 : zraw 25 76 = some (.istore_n 2, 1) ∧ 76 + 1 = 77 := by decide +kernel
theorem zi_25_77 : zraw 25 77 = some (.iinc 3 1, 3) ∧ zin 32768 1 = true ∧ 77 + 3 = 80 := by decide +kernel
theorem zi_25_80 : zraw 25 80 = some (.goto (-76), 3) ∧ ((80 : Nat) : Int) + (-76) = Int.ofNat 4 := by decide +kernel
theorem zi_25_83 : zraw 25 83 = some (.iconst 0, 1) ∧ zin 128 0 = true ∧ 83 + 1 = 84 := by decide +kernel
theorem zi_25_84 : zraw 25 84 = some (.ireturn, 1) ∧ (zinf 25).2.2.2.1 = 1 := by decide +kernel
theorem ze_25 {K : List zF} {σ : zW} {t : Nat} {x1 : Int} : zEv true (zent 25 [.inr (.inr t), .inl x1] :: K) σ = (zEv true ((25, 4, [some (.inr (.inr t)), some (.inl x1), some (.inl x1), some (.inl 0), none, none, none, none], []) :: K) σ) :=
  yT_en (f := (25, 0, [some (.inr (.inr t)), some (.inl x1), none, none, none, none, none, none], [])) rfl (yI_iload_n zi_25_0 rfl <| yI_istore_n (l := [some (.inr (.inr t)), some (.inl x1), some (.inl x1), none, none, none, none, none]) zi_25_1 rfl rfl <| yI_iconst zi_25_2 <| yI_istore_n (l := [some (.inr (.inr t)), some (.inl x1), some (.inl x1), some (.inl 0), none, none, none, none]) zi_25_3 rfl rfl <| rfl)
theorem zj_25_4 {K : List zF} {σ : zW} {x0 : Nat} {o1 : Option zV} {x2 : Int} {x3 : Int} {o4 : Option zV} {o5 : Option zV} {o6 : Option zV} {o7 : Option zV} (hK : K.length < 60) (h1 : zFo x0) : zEv true ((25, 4, [some (.inr (.inr x0)), o1, some (.inl x2), some (.inl x3), o4, o5, o6, o7], []) :: K) σ = (if (gI σ x0 4) ≤ x3 then zRet true K (some (.inl 0)) σ else (0 ≤ x3 ∧ x3 < 3039) ∧ zEv true (zent 168 [.inr (.inl (gL σ (x0 + 1) x3.toNat))] :: (25, 21, [some (.inr (.inr x0)), o1, some (.inl x2), some (.inl x3), o4, o5, o6, o7], []) :: K) σ) :=
  yI_iload_n zi_25_4 rfl <| yI_aload_n zi_25_5 rfl <| yI_gf_i (v := gI σ x0 4) zi_25_6 (zFo_k h1) rfl <| yI_ic_ge zi_25_9 <| yBr (yI_iconst zi_25_83 <| yI_ireturn zi_25_84) (yI_aload_n zi_25_12 rfl <| yI_gf_f (v := x0 + 1) zi_25_13 (zFo_k h1) rfl <| yI_iload_n zi_25_16 rfl <| yI_laloadc (v := gL σ (x0 + 1) x3.toNat) zi_25_17 (zFo_a1 h1) rfl <| yI_cs zi_25_18 rfl rfl hK)
theorem zr_25_21 {K : List zF} {σ : zW} {x0 : Nat} {o1 : Option zV} {x2 : Int} {x3 : Int} {o4 : Option zV} {o5 : Option zV} {o6 : Option zV} {o7 : Option zV} {v : Int} (h1 : zFo x0) : zRet true ((25, 21, [some (.inr (.inr x0)), o1, some (.inl x2), some (.inl x3), o4, o5, o6, o7], []) :: K) (some (.inl v)) σ = (if v ≤ x2 then zEv true ((25, 4, [some (.inr (.inr x0)), (zcut 0 o1), some (.inl (w32 (x2 - v))), some (.inl (w32 (x3 + 1))), some (.inl v), o5, o6, o7], []) :: K) σ else (0 ≤ x3 ∧ x3 < 3039) ∧ zEv true ((25, 40, [some (.inr (.inr x0)), o1, some (.inl x2), some (.inl x3), some (.inl v), some (.inr (.inl (gL σ (x0 + 1) x3.toNat))), none, some (.inl 0)], []) :: K) σ) :=
  yT_rt (yI_istore (l := [some (.inr (.inr x0)), o1, some (.inl x2), some (.inl x3), some (.inl v), o5, o6, o7]) zi_25_21 rfl rfl <| yI_iload_n zi_25_23 rfl <| yI_iload zi_25_24 rfl <| yI_ic_ge zi_25_26 <| yBr (yI_iload_n zi_25_72 rfl <| yI_iload zi_25_73 rfl <| yI_isub zi_25_75 <| yI_istore_n (l := [some (.inr (.inr x0)), (zcut 0 o1), some (.inl (w32 (x2 - v))), some (.inl x3), some (.inl v), o5, o6, o7]) zi_25_76 rfl rfl <| yI_iinc (l := [some (.inr (.inr x0)), (zcut 0 o1), some (.inl (w32 (x2 - v))), some (.inl (w32 (x3 + 1))), some (.inl v), o5, o6, o7]) zi_25_77 rfl rfl rfl <| yI_goto zi_25_80 <| rfl) (yI_aload_n zi_25_29 rfl <| yI_gf_f (v := x0 + 1) zi_25_30 (zFo_k h1) rfl <| yI_iload_n zi_25_33 rfl <| yI_laloadc (v := gL σ (x0 + 1) x3.toNat) zi_25_34 (zFo_a1 h1) rfl <| yI_lstore (l := [some (.inr (.inr x0)), o1, some (.inl x2), some (.inl x3), some (.inl v), some (.inr (.inl (gL σ (x0 + 1) x3.toNat))), none, o7]) zi_25_35 rfl rfl <| yI_iconst zi_25_37 <| yI_istore (l := [some (.inr (.inr x0)), o1, some (.inl x2), some (.inl x3), some (.inl v), some (.inr (.inl (gL σ (x0 + 1) x3.toNat))), none, some (.inl 0)]) zi_25_38 rfl rfl <| rfl))
theorem zj_25_40 {K : List zF} {σ : zW} {o0 : Option zV} {o1 : Option zV} {x2 : Int} {x3 : Int} {o4 : Option zV} {x5 : Int64} {x7 : Int} (hK : K.length < 60) : zEv true ((25, 40, [o0, o1, some (.inl x2), some (.inl x3), o4, some (.inr (.inl x5)), none, some (.inl x7)], []) :: K) σ = (if x2 ≤ x7 then zEv true (zent 169 [.inr (.inl x5)] :: (25, 70, [o0, o1, some (.inl x2), some (.inl x3), o4, some (.inr (.inl x5)), none, some (.inl x7)], [.inl (zshl x3 6)]) :: K) σ else zEv true ((25, 40, [o0, o1, some (.inl x2), some (.inl x3), (zcut 0 o4), some (.inr (.inl (x5 &&& (x5 - 1)))), none, some (.inl (w32 (x7 + 1)))], []) :: K) σ) :=
  yI_iload zi_25_40 rfl <| yI_iload_n zi_25_42 rfl <| yI_ic_ge zi_25_43 <| yBr (yI_iload_n zi_25_61 rfl <| yI_bipush zi_25_62 <| yI_ishl zi_25_64 <| yI_lload zi_25_65 rfl <| yI_cs zi_25_67 rfl rfl hK) (yI_lload zi_25_46 rfl <| yI_lload zi_25_48 rfl <| yI_lconst zi_25_50 <| yI_lsub zi_25_51 <| yI_land zi_25_52 <| yI_lstore (l := [o0, o1, some (.inl x2), some (.inl x3), (zcut 0 o4), some (.inr (.inl (x5 &&& (x5 - 1)))), none, some (.inl x7)]) zi_25_53 rfl rfl <| yI_iinc (l := [o0, o1, some (.inl x2), some (.inl x3), (zcut 0 o4), some (.inr (.inl (x5 &&& (x5 - 1)))), none, some (.inl (w32 (x7 + 1)))]) zi_25_55 rfl rfl rfl <| yI_goto zi_25_58 <| rfl)
theorem zr_25_70 {K : List zF} {σ : zW} {o0 : Option zV} {o1 : Option zV} {o2 : Option zV} {o3 : Option zV} {o4 : Option zV} {o5 : Option zV} {o6 : Option zV} {o7 : Option zV} {s0 : Int} {v : Int} : zRet true ((25, 70, [o0, o1, o2, o3, o4, o5, o6, o7], [.inl s0]) :: K) (some (.inl v)) σ = (zRet true K (some (.inl (w32 (s0 + v)))) σ) :=
  yT_rt (yI_iadd zi_25_70 <| yI_ireturn zi_25_71)
/-- 26 Treegrab$Found.nodeIn(II)I -/
theorem zi_26_0 : zraw 26 0 = some (.aload_n 0, 1) ∧ 0 + 1 = 1 := by decide +kernel
theorem zi_26_1 : zraw 26 1 = some (.iload_n 1, 1) ∧ 1 + 1 = 2 := by decide +kernel
theorem zi_26_2 : zraw 26 2 = some (.invokevirtual 46, 3) ∧ zmt (zinf 26).1 46 = some 25 ∧ Nat.ble 9000 25 = false ∧ zinf 25 = (1, 2, 8, 1, 0) ∧ 2 + 3 = 5 := by decide +kernel
theorem zi_26_5 : zraw 26 5 = some (.istore_n 3, 1) ∧ 5 + 1 = 6 := by decide +kernel
theorem zi_26_6 : zraw 26 6 = some (.aload_n 0, 1) ∧ 6 + 1 = 7 := by decide +kernel
theorem zi_26_7 : zraw 26 7 = some (.getfield 19, 3) ∧ zft (zinf 26).1 19 = some (1, 2, 0, false) ∧ 7 + 3 = 10 := by decide +kernel
theorem zi_26_10 : zraw 26 10 = some (.iconst 1, 1) ∧ zin 128 1 = true ∧ 10 + 1 = 11 := by decide +kernel
theorem zi_26_11 : zraw 26 11 = some (.if_icmp .ge 5, 3) ∧ ((11 : Nat) : Int) + 5 = Int.ofNat 16 ∧ 11 + 3 = 14 := by decide +kernel
theorem zi_26_14 : zraw 26 14 = some (.iconst (-1), 1) ∧ zin 128 (-1) = true ∧ 14 + 1 = 15 := by decide +kernel
theorem zi_26_15 : zraw 26 15 = some (.ireturn, 1) ∧ (zinf 26).2.2.2.1 = 1 := by decide +kernel
theorem zi_26_16 : zraw 26 16 = some (.aload_n 0, 1) ∧ 16 + 1 = 17 := by decide +kernel
theorem zi_26_17 : zraw 26 17 = some (.getfield 22, 3) ∧ zft (zinf 26).1 22 = some (1, 3, 0, false) ∧ 17 + 3 = 20 := by decide +kernel
theorem zi_26_20 : zraw 26 20 = some (.iconst 1, 1) ∧ zin 128 1 = true ∧ 20 + 1 = 21 := by decide +kernel
theorem zi_26_21 : zraw 26 21 = some (.isub, 1) ∧ 21 + 1 = 22 := by decide +kernel
theorem zi_26_22 : zraw 26 22 = some (.istore 4, 2) ∧ 22 + 2 = 24 := by decide +kernel
theorem zi_26_24 : zraw 26 24 = some (.iload 4, 2) ∧ 24 + 2 = 26 := by decide +kernel
theorem zi_26_26 : zraw 26 26 = some (.iload_n 2, 1) ∧ 26 + 1 = 27 := by decide +kernel
theorem zi_26_27 : zraw 26 27 = some (.if_icmp .le 16, 3) ∧ ((27 : Nat) : Int) + 16 = Int.ofNat 43 ∧ 27 + 3 = 30 := by decide +kernel
theorem zi_26_30 : zraw 26 30 = some (.iload_n 3, 1) ∧ 30 + 1 = 31 := by decide +kernel
theorem zi_26_31 : zraw 26 31 = some (.aload_n 0, 1) ∧ 31 + 1 = 32 := by decide +kernel
theorem zi_26_32 : zraw 26 32 = some (.getfield 19, 3) ∧ zft (zinf 26).1 19 = some (1, 2, 0, false) ∧ 32 + 3 = 35 := by decide +kernel
theorem zi_26_35 : zraw 26 35 = some (.idiv, 1) ∧ 35 + 1 = 36 := by decide +kernel
theorem zi_26_36 : zraw 26 36 = some (.istore_n 3, 1) ∧ 36 + 1 = 37 := by decide +kernel
theorem zi_26_37 : zraw 26 37 = some (.iinc 4 (-1), 3) ∧ zin 32768 (-1) = true ∧ 37 + 3 = 40 := by decide +kernel
theorem zi_26_40 : zraw 26 40 = some (.goto (-16), 3) ∧ ((40 : Nat) : Int) + (-16) = Int.ofNat 24 := by decide +kernel
theorem zi_26_43 : zraw 26 43 = some (.iload_n 3, 1) ∧ 43 + 1 = 44 := by decide +kernel
theorem zi_26_44 : zraw 26 44 = some (.aload_n 0, 1) ∧ 44 + 1 = 45 := by decide +kernel
theorem zi_26_45 : zraw 26 45 = some (.getfield 19, 3) ∧ zft (zinf 26).1 19 = some (1, 2, 0, false) ∧ 45 + 3 = 48 := by decide +kernel
theorem zi_26_48 : zraw 26 48 = some (.irem, 1) ∧ 48 + 1 = 49 := by decide +kernel
theorem zi_26_49 : zraw 26 49 = some (.iconst 1, 1) ∧ zin 128 1 = true ∧ 49 + 1 = 50 := by decide +kernel
theorem zi_26_50 : zraw 26 50 = some (.isub, 1) ∧ 50 + 1 = 51 := by decide +kernel
theorem zi_26_51 : zraw 26 51 = some (.ireturn, 1) ∧ (zinf 26).2.2.2.1 = 1 := by decide +kernel
theorem ze_26 {K : List zF} {σ : zW} {t : Nat} {x1 : Int} {x2 : Int} (hK : K.length < 60) (h1 : zFo t) : zEv true (zent 26 [.inr (.inr t), .inl x1, .inl x2] :: K) σ = (zEv true (zent 25 [.inr (.inr t), .inl x1] :: (26, 5, [some (.inr (.inr t)), some (.inl x1), some (.inl x2), none, none], []) :: K) σ) :=
  yT_en (f := (26, 0, [some (.inr (.inr t)), some (.inl x1), some (.inl x2), none, none], [])) rfl (yI_aload_n zi_26_0 rfl <| yI_iload_n zi_26_1 rfl <| yI_cv zi_26_2 rfl rfl (zFo_k h1) hK)
theorem zr_26_5 {K : List zF} {σ : zW} {x0 : Nat} {o1 : Option zV} {x2 : Int} {o3 : Option zV} {o4 : Option zV} {v : Int} (h1 : zFo x0) : zRet true ((26, 5, [some (.inr (.inr x0)), o1, some (.inl x2), o3, o4], []) :: K) (some (.inl v)) σ = (if 1 ≤ (gI σ x0 2) then zEv true ((26, 24, [some (.inr (.inr x0)), o1, some (.inl x2), some (.inl v), some (.inl (w32 ((gI σ x0 3) - 1)))], []) :: K) σ else zRet true K (some (.inl (-1))) σ) :=
  yT_rt (yI_istore_n (l := [some (.inr (.inr x0)), o1, some (.inl x2), some (.inl v), o4]) zi_26_5 rfl rfl <| yI_aload_n zi_26_6 rfl <| yI_gf_i (v := gI σ x0 2) zi_26_7 (zFo_k h1) rfl <| yI_iconst zi_26_10 <| yI_ic_ge zi_26_11 <| yBr (yI_aload_n zi_26_16 rfl <| yI_gf_i (v := gI σ x0 3) zi_26_17 (zFo_k h1) rfl <| yI_iconst zi_26_20 <| yI_isub zi_26_21 <| yI_istore (l := [some (.inr (.inr x0)), o1, some (.inl x2), some (.inl v), some (.inl (w32 ((gI σ x0 3) - 1)))]) zi_26_22 rfl rfl <| rfl) (yI_iconst zi_26_14 <| yI_ireturn zi_26_15))
theorem zj_26_24 {K : List zF} {σ : zW} {x0 : Nat} {o1 : Option zV} {x2 : Int} {x3 : Int} {x4 : Int} (h1 : zFo x0) : zEv true ((26, 24, [some (.inr (.inr x0)), o1, some (.inl x2), some (.inl x3), some (.inl x4)], []) :: K) σ = (if x4 ≤ x2 then (¬ (gI σ x0 2) = 0) ∧ zRet true K (some (.inl (w32 ((zrem x3 (gI σ x0 2)) - 1)))) σ else (¬ (gI σ x0 2) = 0) ∧ zEv true ((26, 24, [some (.inr (.inr x0)), o1, some (.inl x2), some (.inl (zdiv x3 (gI σ x0 2))), some (.inl (w32 (x4 + (-1))))], []) :: K) σ) :=
  yI_iload zi_26_24 rfl <| yI_iload_n zi_26_26 rfl <| yI_ic_le zi_26_27 <| yBr (yI_iload_n zi_26_43 rfl <| yI_aload_n zi_26_44 rfl <| yI_gf_i (v := gI σ x0 2) zi_26_45 (zFo_k h1) rfl <| yI_iremc zi_26_48 <| yI_iconst zi_26_49 <| yI_isub zi_26_50 <| yI_ireturn zi_26_51) (yI_iload_n zi_26_30 rfl <| yI_aload_n zi_26_31 rfl <| yI_gf_i (v := gI σ x0 2) zi_26_32 (zFo_k h1) rfl <| yI_idivc zi_26_35 <| yI_istore_n (l := [some (.inr (.inr x0)), o1, some (.inl x2), some (.inl (zdiv x3 (gI σ x0 2))), some (.inl x4)]) zi_26_36 rfl rfl <| yI_iinc (l := [some (.inr (.inr x0)), o1, some (.inl x2), some (.inl (zdiv x3 (gI σ x0 2))), some (.inl (w32 (x4 + (-1))))]) zi_26_37 rfl rfl rfl <| yI_goto zi_26_40 <| rfl)
/-- 28 Treegrab$History.clear(I)V -/
theorem zi_28_0 : zraw 28 0 = some (.aload_n 0, 1) ∧ 0 + 1 = 1 := by decide +kernel
theorem zi_28_1 : zraw 28 1 = some (.getfield 22, 3) ∧ zft (zinf 28).1 22 = some (2, 3, 3, true) ∧ 1 + 3 = 4 := by decide +kernel
theorem zi_28_4 : zraw 28 4 = some (.iload_n 1, 1) ∧ 4 + 1 = 5 := by decide +kernel
theorem zi_28_5 : zraw 28 5 = some (.iconst (-1), 1) ∧ zin 128 (-1) = true ∧ 5 + 1 = 6 := by decide +kernel
theorem zi_28_6 : zraw 28 6 = some (.iastore, 1) ∧ 6 + 1 = 7 := by decide +kernel
theorem zi_28_7 : zraw 28 7 = some (.return_, 1) ∧ (zinf 28).2.2.2.1 = 0 := by decide +kernel
theorem ze_28 {K : List zF} {σ : zW} {x1 : Int} : zEv true (zent 28 [.inr (.inr 61), .inl x1] :: K) σ = ((0 ≤ x1 ∧ x1 < 3) ∧ zRet true K none (sI σ 65 x1.toNat (-1))) :=
  yT_en (f := (28, 0, [some (.inr (.inr 61)), some (.inl x1)], [])) rfl (yI_aload_n zi_28_0 rfl <| yI_gf_f (v := 65) zi_28_1 zk_61 rfl <| yI_iload_n zi_28_4 rfl <| yI_iconst zi_28_5 <| yI_iastorec zi_28_6 za_65 <| yI_ret zi_28_7)
/-- 29 Treegrab$History.keep(ILTreegrab$Tree;)V -/
theorem zi_29_0 : zraw 29 0 = some (.aload_n 0, 1) ∧ 0 + 1 = 1 := by decide +kernel
theorem zi_29_1 : zraw 29 1 = some (.getfield 25, 3) ∧ zft (zinf 29).1 25 = some (2, 4, 0, false) ∧ 1 + 3 = 4 := by decide +kernel
theorem zi_29_4 : zraw 29 4 = some (.sipush 512, 3) ∧ zin 32768 512 = true ∧ 4 + 3 = 7 := by decide +kernel
theorem zi_29_7 : zraw 29 7 = some (.if_icmp .lt 4, 3) ∧ ((7 : Nat) : Int) + 4 = Int.ofNat 11 ∧ 7 + 3 = 10 := by decide +kernel
theorem zi_29_10 : zraw 29 10 = some (.return_, 1) ∧ (zinf 29).2.2.2.1 = 0 := by decide +kernel
theorem zi_29_11 : zraw 29 11 = some (.iconst 0, 1) ∧ zin 128 0 = true ∧ 11 + 1 = 12 := by decide +kernel
theorem zi_29_12 : zraw 29 12 = some (.istore_n 3, 1) ∧ 12 + 1 = 13 := by decide +kernel
theorem zi_29_13 : zraw 29 13 = some (.iload_n 3, 1) ∧ 13 + 1 = 14 := by decide +kernel
theorem zi_29_14 : zraw 29 14 = some (.aload_n 2, 1) ∧ 14 + 1 = 15 := by decide +kernel
theorem zi_29_15 : zraw 29 15 = some (.getfield 29, 3) ∧ zft (zinf 29).1 29 = some (8, 12, 0, false) ∧ 15 + 3 = 18 := by decide +kernel
theorem zi_29_18 : zraw 29 18 = some (.if_icmp .ge 40, 3) ∧ ((18 : Nat) : Int) + 40 = Int.ofNat 58 ∧ 18 + 3 = 21 := by decide +kernel
theorem zi_29_21 : zraw 29 21 = some (.aload_n 0, 1) ∧ 21 + 1 = 22 := by decide +kernel
theorem zi_29_22 : zraw 29 22 = some (.getfield 9, 3) ∧ zft (zinf 29).1 9 = some (2, 0, 3, true) ∧ 22 + 3 = 25 := by decide +kernel
theorem zi_29_25 : zraw 29 25 = some (.aload_n 0, 1) ∧ 25 + 1 = 26 := by decide +kernel
theorem zi_29_26 : zraw 29 26 = some (.getfield 25, 3) ∧ zft (zinf 29).1 25 = some (2, 4, 0, false) ∧ 26 + 3 = 29 := by decide +kernel
theorem zi_29_29 : zraw 29 29 = some (.bipush 20, 2) ∧ zin 128 20 = true ∧ 29 + 2 = 31 := by decide +kernel
theorem zi_29_31 : zraw 29 31 = some (.imul, 1) ∧ 31 + 1 = 32 := by decide +kernel
theorem zi_29_32 : zraw 29 32 = some (.iload_n 3, 1) ∧ 32 + 1 = 33 := by decide +kernel
theorem zi_29_33 : zraw 29 33 = some (.iadd, 1) ∧ 33 + 1 = 34 := by decide +kernel
theorem zi_29_34 : zraw 29 34 = some (.aload_n 2, 1) ∧ 34 + 1 = 35 := by decide +kernel
theorem zi_29_35 : zraw 29 35 = some (.getfield 34, 3) ∧ zft (zinf 29).1 34 = some (8, 0, 3, true) ∧ 35 + 3 = 38 := by decide +kernel
theorem zi_29_38 : zraw 29 38 = some (.iload_n 3, 1) ∧ 38 + 1 = 39 := by decide +kernel
theorem zi_29_39 : zraw 29 39 = some (.laload, 1) ∧ 39 + 1 = 40 := by decide +kernel
theorem zi_29_40 : zraw 29 40 = some (.aload_n 2, 1) ∧ 40 + 1 = 41 := by decide +kernel
theorem zi_29_41 : zraw 29 41 = some (.getfield 37, 3) ∧ zft (zinf 29).1 37 = some (8, 1, 3, true) ∧ 41 + 3 = 44 := by decide +kernel
theorem zi_29_44 : zraw 29 44 = some (.iload_n 3, 1) ∧ 44 + 1 = 45 := by decide +kernel
theorem zi_29_45 : zraw 29 45 = some (.iaload, 1) ∧ 45 + 1 = 46 := by decide +kernel
theorem zi_29_46 : zraw 29 46 = some (.i2l, 1) ∧ 46 + 1 = 47 := by decide +kernel
theorem zi_29_47 : zraw 29 47 = some (.bipush 48, 2) ∧ zin 128 48 = true ∧ 47 + 2 = 49 := by decide +kernel
theorem zi_29_49 : zraw 29 49 = some (.lshl, 1) ∧ 49 + 1 = 50 := by decide +kernel
theorem zi_29_50 : zraw 29 50 = some (.lor, 1) ∧ 50 + 1 = 51 := by decide +kernel
theorem zi_29_51 : zraw 29 51 = some (.lastore, 1) ∧ 51 + 1 = 52 := by decide +kernel
theorem zi_29_52 : zraw 29 52 = some (.iinc 3 1, 3) ∧ zin 32768 1 = true ∧ 52 + 3 = 55 := by decide +kernel
theorem zi_29_55 : zraw 29 55 = some (.goto (-42), 3) ∧ ((55 : Nat) : Int) + (-42) = Int.ofNat 13 := by decide +kernel
theorem zi_29_58 : zraw 29 58 = some (.aload_n 0, 1) ∧ 58 + 1 = 59 := by decide +kernel
theorem zi_29_59 : zraw 29 59 = some (.getfield 15, 3) ∧ zft (zinf 29).1 15 = some (2, 1, 3, true) ∧ 59 + 3 = 62 := by decide +kernel
theorem zi_29_62 : zraw 29 62 = some (.aload_n 0, 1) ∧ 62 + 1 = 63 := by decide +kernel
theorem zi_29_63 : zraw 29 63 = some (.getfield 25, 3) ∧ zft (zinf 29).1 25 = some (2, 4, 0, false) ∧ 63 + 3 = 66 := by decide +kernel
theorem zi_29_66 : zraw 29 66 = some (.aload_n 2, 1) ∧ 66 + 1 = 67 := by decide +kernel
theorem zi_29_67 : zraw 29 67 = some (.getfield 29, 3) ∧ zft (zinf 29).1 29 = some (8, 12, 0, false) ∧ 67 + 3 = 70 := by decide +kernel
theorem zi_29_70 : zraw 29 70 = some (.iastore, 1) ∧ 70 + 1 = 71 := by decide +kernel
theorem zi_29_71 : zraw 29 71 = some (.aload_n 0, 1) ∧ 71 + 1 = 72 := by decide +kernel
theorem zi_29_72 : zraw 29 72 = some (.getfield 19, 3) ∧ zft (zinf 29).1 19 = some (2, 2, 3, true) ∧ 72 + 3 = 75 := by decide +kernel
theorem zi_29_75 : zraw 29 75 = some (.aload_n 0, 1) ∧ 75 + 1 = 76 := by decide +kernel
theorem zi_29_76 : zraw 29 76 = some (.getfield 25, 3) ∧ zft (zinf 29).1 25 = some (2, 4, 0, false) ∧ 76 + 3 = 79 := by decide +kernel
theorem zi_29_79 : zraw 29 79 = some (.aload_n 0, 1) ∧ 79 + 1 = 80 := by decide +kernel
theorem zi_29_80 : zraw 29 80 = some (.getfield 22, 3) ∧ zft (zinf 29).1 22 = some (2, 3, 3, true) ∧ 80 + 3 = 83 := by decide +kernel
theorem zi_29_83 : zraw 29 83 = some (.iload_n 1, 1) ∧ 83 + 1 = 84 := by decide +kernel
theorem zi_29_84 : zraw 29 84 = some (.iaload, 1) ∧ 84 + 1 = 85 := by decide +kernel
theorem zi_29_85 : zraw 29 85 = some (.iastore, 1) ∧ 85 + 1 = 86 := by decide +kernel
theorem zi_29_86 : zraw 29 86 = some (.aload_n 0, 1) ∧ 86 + 1 = 87 := by decide +kernel
theorem zi_29_87 : zraw 29 87 = some (.getfield 22, 3) ∧ zft (zinf 29).1 22 = some (2, 3, 3, true) ∧ 87 + 3 = 90 := by decide +kernel
theorem zi_29_90 : zraw 29 90 = some (.iload_n 1, 1) ∧ 90 + 1 = 91 := by decide +kernel
theorem zi_29_91 : zraw 29 91 = some (.aload_n 0, 1) ∧ 91 + 1 = 92 := by decide +kernel
theorem zi_29_92 : zraw 29 92 = some (.getfield 25, 3) ∧ zft (zinf 29).1 25 = some (2, 4, 0, false) ∧ 92 + 3 = 95 := by decide +kernel
theorem zi_29_95 : zraw 29 95 = some (.iastore, 1) ∧ 95 + 1 = 96 := by decide +kernel
theorem zi_29_96 : zraw 29 96 = some (.aload_n 0, 1) ∧ 96 + 1 = 97 := by decide +kernel
theorem zi_29_97 : zraw 29 97 = some (.dup, 1) ∧ 97 + 1 = 98 := by decide +kernel
theorem zi_29_98 : zraw 29 98 = some (.getfield 25, 3) ∧ zft (zinf 29).1 25 = some (2, 4, 0, false) ∧ 98 + 3 = 101 := by decide +kernel
theorem zi_29_101 : zraw 29 101 = some (.iconst 1, 1) ∧ zin 128 1 = true ∧ 101 + 1 = 102 := by decide +kernel
theorem zi_29_102 : zraw 29 102 = some (.iadd, 1) ∧ 102 + 1 = 103 := by decide +kernel
theorem zi_29_103 : zraw 29 103 = some (.putfield 25, 3) ∧ zft (zinf 29).1 25 = some (2, 4, 0, false) ∧ 103 + 3 = 106 := by decide +kernel
theorem zi_29_106 : zraw 29 106 = some (.return_, 1) ∧ (zinf 29).2.2.2.1 = 0 := by decide +kernel
theorem ze_29 {K : List zF} {σ : zW} {x1 : Int} {x2 : Nat} : zEv true (zent 29 [.inr (.inr 61), .inl x1, .inr (.inr x2)] :: K) σ = (if (gI σ 61 4) < 512 then zEv true ((29, 13, [some (.inr (.inr 61)), some (.inl x1), some (.inr (.inr x2)), some (.inl 0)], []) :: K) σ else zRet true K none σ) :=
  yT_en (f := (29, 0, [some (.inr (.inr 61)), some (.inl x1), some (.inr (.inr x2)), none], [])) rfl (yI_aload_n zi_29_0 rfl <| yI_gf_i (v := gI σ 61 4) zi_29_1 zk_61 rfl <| yI_sipush zi_29_4 <| yI_ic_lt zi_29_7 <| yBr (yI_iconst zi_29_11 <| yI_istore_n (l := [some (.inr (.inr 61)), some (.inl x1), some (.inr (.inr x2)), some (.inl 0)]) zi_29_12 rfl rfl <| rfl) (yI_ret zi_29_10))
theorem zj_29_13 {K : List zF} {σ : zW} {x1 : Int} {x2 : Nat} {x3 : Int} (h1 : zTr x2) : zEv true ((29, 13, [some (.inr (.inr 61)), some (.inl x1), some (.inr (.inr x2)), some (.inl x3)], []) :: K) σ = (if (gI σ x2 12) ≤ x3 then (0 ≤ (gI σ 61 4) ∧ (gI σ 61 4) < 512) ∧ ((0 ≤ x1 ∧ x1 < 3) ∧ ((0 ≤ (gI σ 61 4) ∧ (gI σ 61 4) < 512) ∧ ((0 ≤ x1 ∧ x1 < 3) ∧ zRet true K none (sI (sI (sI (sI σ 63 ((gI σ 61 4).toNat) (gI σ x2 12)) 64 ((gI σ 61 4).toNat) (gI σ 65 x1.toNat)) 65 x1.toNat (gI σ 61 4)) 61 4 (w32 ((gI σ 61 4) + 1)))))) else (0 ≤ x3 ∧ x3 < 20) ∧ ((0 ≤ x3 ∧ x3 < 20) ∧ ((0 ≤ (w32 ((w32 ((gI σ 61 4) * 20)) + x3)) ∧ (w32 ((w32 ((gI σ 61 4) * 20)) + x3)) < 10240) ∧ zEv true ((29, 13, [some (.inr (.inr 61)), some (.inl x1), some (.inr (.inr x2)), some (.inl (w32 (x3 + 1)))], []) :: K) (sL σ 62 ((w32 ((w32 ((gI σ 61 4) * 20)) + x3)).toNat) ((gL σ (x2 + 1) x3.toNat) ||| (zlshl (zi2l (gI σ (x2 + 2) x3.toNat)) 48)))))) :=
  yI_iload_n zi_29_13 rfl <| yI_aload_n zi_29_14 rfl <| yI_gf_i (v := gI σ x2 12) zi_29_15 (zTr_k h1) rfl <| yI_ic_ge zi_29_18 <| yBr (yI_aload_n zi_29_58 rfl <| yI_gf_f (v := 63) zi_29_59 zk_61 rfl <| yI_aload_n zi_29_62 rfl <| yI_gf_i (v := gI σ 61 4) zi_29_63 zk_61 rfl <| yI_aload_n zi_29_66 rfl <| yI_gf_i (v := gI σ x2 12) zi_29_67 (zTr_k h1) rfl <| yI_iastorec zi_29_70 za_63 <| yI_aload_n zi_29_71 rfl <| yI_gf_f (v := 64) zi_29_72 zk_61 rfl <| yI_aload_n zi_29_75 rfl <| yI_gf_i (v := gI σ 61 4) zi_29_76 zk_61 (yGI_nk (by decide)) <| yI_aload_n zi_29_79 rfl <| yI_gf_f (v := 65) zi_29_80 zk_61 rfl <| yI_iload_n zi_29_83 rfl <| yI_ialoadc (v := gI σ 65 x1.toNat) zi_29_84 za_65 (yGI_nk (by decide)) <| yI_iastorec zi_29_85 za_64 <| yI_aload_n zi_29_86 rfl <| yI_gf_f (v := 65) zi_29_87 zk_61 rfl <| yI_iload_n zi_29_90 rfl <| yI_aload_n zi_29_91 rfl <| yI_gf_i (v := gI σ 61 4) zi_29_92 zk_61 ((yGI_nk (by decide)).trans (yGI_nk (by decide))) <| yI_iastorec zi_29_95 za_65 <| yI_aload_n zi_29_96 rfl <| yI_dup_r zi_29_97 <| yI_gf_i (v := gI σ 61 4) zi_29_98 zk_61 ((yGI_nk (by decide)).trans ((yGI_nk (by decide)).trans (yGI_nk (by decide)))) <| yI_iconst zi_29_101 <| yI_iadd zi_29_102 <| yI_pf_i zi_29_103 zk_61 <| yI_ret zi_29_106) (yI_aload_n zi_29_21 rfl <| yI_gf_f (v := 62) zi_29_22 zk_61 rfl <| yI_aload_n zi_29_25 rfl <| yI_gf_i (v := gI σ 61 4) zi_29_26 zk_61 rfl <| yI_bipush zi_29_29 <| yI_imul zi_29_31 <| yI_iload_n zi_29_32 rfl <| yI_iadd zi_29_33 <| yI_aload_n zi_29_34 rfl <| yI_gf_f (v := x2 + 1) zi_29_35 (zTr_k h1) rfl <| yI_iload_n zi_29_38 rfl <| yI_laloadc (v := gL σ (x2 + 1) x3.toNat) zi_29_39 (zTr_a1 h1) rfl <| yI_aload_n zi_29_40 rfl <| yI_gf_f (v := x2 + 2) zi_29_41 (zTr_k h1) rfl <| yI_iload_n zi_29_44 rfl <| yI_ialoadc (v := gI σ (x2 + 2) x3.toNat) zi_29_45 (zTr_a2 h1) rfl <| yI_i2l zi_29_46 <| yI_bipush zi_29_47 <| yI_lshl zi_29_49 <| yI_lor zi_29_50 <| yI_lastorec zi_29_51 za_62 <| yI_iinc (l := [some (.inr (.inr 61)), some (.inl x1), some (.inr (.inr x2)), some (.inl (w32 (x3 + 1)))]) zi_29_52 rfl rfl rfl <| yI_goto zi_29_55 <| rfl)
/-- 30 Treegrab$History.giveBack(ILTreegrab$Tree;)Z -/
theorem zi_30_0 : zraw 30 0 = some (.aload_n 0, 1) ∧ 0 + 1 = 1 := by decide +kernel
theorem zi_30_1 : zraw 30 1 = some (.getfield 22, 3) ∧ zft (zinf 30).1 22 = some (2, 3, 3, true) ∧ 1 + 3 = 4 := by decide +kernel
theorem zi_30_4 : zraw 30 4 = some (.iload_n 1, 1) ∧ 4 + 1 = 5 := by decide +kernel
theorem zi_30_5 : zraw 30 5 = some (.iaload, 1) ∧ 5 + 1 = 6 := by decide +kernel
theorem zi_30_6 : zraw 30 6 = some (.istore_n 3, 1) ∧ 6 + 1 = 7 := by decide +kernel
theorem zi_30_7 : zraw 30 7 = some (.iload_n 3, 1) ∧ 7 + 1 = 8 := by decide +kernel
theorem zi_30_8 : zraw 30 8 = some (.iconst (-1), 1) ∧ zin 128 (-1) = true ∧ 8 + 1 = 9 := by decide +kernel
theorem zi_30_9 : zraw 30 9 = some (.if_icmp .ne 5, 3) ∧ ((9 : Nat) : Int) + 5 = Int.ofNat 14 ∧ 9 + 3 = 12 := by decide +kernel
theorem zi_30_12 : zraw 30 12 = some (.iconst 0, 1) ∧ zin 128 0 = true ∧ 12 + 1 = 13 := by decide +kernel
theorem zi_30_13 : zraw 30 13 = some (.ireturn, 1) ∧ (zinf 30).2.2.2.1 = 2 := by decide +kernel
theorem zi_30_14 : zraw 30 14 = some (.aload_n 2, 1) ∧ 14 + 1 = 15 := by decide +kernel
theorem zi_30_15 : zraw 30 15 = some (.aload_n 0, 1) ∧ 15 + 1 = 16 := by decide +kernel
theorem zi_30_16 : zraw 30 16 = some (.getfield 15, 3) ∧ zft (zinf 30).1 15 = some (2, 1, 3, true) ∧ 16 + 3 = 19 := by decide +kernel
theorem zi_30_19 : zraw 30 19 = some (.iload_n 3, 1) ∧ 19 + 1 = 20 := by decide +kernel
theorem zi_30_20 : zraw 30 20 = some (.iaload, 1) ∧ 20 + 1 = 21 := by decide +kernel
theorem zi_30_21 : zraw 30 21 = some (.putfield 29, 3) ∧ zft (zinf 30).1 29 = some (8, 12, 0, false) ∧ 21 + 3 = 24 := by decide +kernel
theorem zi_30_24 : zraw 30 24 = some (.iconst 0, 1) ∧ zin 128 0 = true ∧ 24 + 1 = 25 := by decide +kernel
theorem zi_30_25 : zraw 30 25 = some (.istore 4, 2) ∧ 25 + 2 = 27 := by decide +kernel
theorem zi_30_27 : zraw 30 27 = some (.iload 4, 2) ∧ 27 + 2 = 29 := by decide +kernel
theorem zi_30_29 : zraw 30 29 = some (.aload_n 2, 1) ∧ 29 + 1 = 30 := by decide +kernel
theorem zi_30_30 : zraw 30 30 = some (.getfield 29, 3) ∧ zft (zinf 30).1 29 = some (8, 12, 0, false) ∧ 30 + 3 = 33 := by decide +kernel
theorem zi_30_33 : zraw 30 33 = some (.if_icmp .ge 49, 3) ∧ ((33 : Nat) : Int) + 49 = Int.ofNat 82 ∧ 33 + 3 = 36 := by decide +kernel
theorem zi_30_36 : zraw 30 36 = some (.aload_n 0, 1) ∧ 36 + 1 = 37 := by decide +kernel
theorem zi_30_37 : zraw 30 37 = some (.getfield 9, 3) ∧ zft (zinf 30).1 9 = some (2, 0, 3, true) ∧ 37 + 3 = 40 := by decide +kernel
theorem zi_30_40 : zraw 30 40 = some (.iload_n 3, 1) ∧ 40 + 1 = 41 := by decide +kernel
theorem zi_30_41 : zraw 30 41 = some (.bipush 20, 2) ∧ zin 128 20 = true ∧ 41 + 2 = 43 := by decide +kernel
theorem zi_30_43 : zraw 30 43 = some (.imul, 1) ∧ 43 + 1 = 44 := by decide +kernel
theorem zi_30_44 : zraw 30 44 = some (.iload 4, 2) ∧ 44 + 2 = 46 := by decide +kernel
theorem zi_30_46 : zraw 30 46 = some (.iadd, 1) ∧ 46 + 1 = 47 := by decide +kernel
theorem zi_30_47 : zraw 30 47 = some (.laload, 1) ∧ 47 + 1 = 48 := by decide +kernel
theorem zi_30_48 : zraw 30 48 = some (.lstore 5, 2) ∧ 48 + 2 = 50 := by decide +kernel
theorem zi_30_50 : zraw 30 50 = some (.aload_n 2, 1) ∧ 50 + 1 = 51 := by decide +kernel
theorem zi_30_51 : zraw 30 51 = some (.getfield 34, 3) ∧ zft (zinf 30).1 34 = some (8, 0, 3, true) ∧ 51 + 3 = 54 := by decide +kernel
theorem zi_30_54 : zraw 30 54 = some (.iload 4, 2) ∧ 54 + 2 = 56 := by decide +kernel
theorem zi_30_56 : zraw 30 56 = some (.lload 5, 2) ∧ 56 + 2 = 58 := by decide +kernel
theorem zi_30_58 : zraw 30 58 = some (.ldc2_w 40, 3) ∧ zlt (zinf 30).1 40 = some 281474976710655 ∧ 58 + 3 = 61 := by decide +kernel
theorem zi_30_61 : zraw 30 61 = some (.land, 1) ∧ 61 + 1 = 62 := by decide +kernel
theorem zi_30_62 : zraw 30 62 = some (.lastore, 1) ∧ 62 + 1 = 63 := by decide +kernel
theorem zi_30_63 : zraw 30 63 = some (.aload_n 2, 1) ∧ 63 + 1 = 64 := by decide +kernel
theorem zi_30_64 : zraw 30 64 = some (.getfield 37, 3) ∧ zft (zinf 30).1 37 = some (8, 1, 3, true) ∧ 64 + 3 = 67 := by decide +kernel
theorem zi_30_67 : zraw 30 67 = some (.iload 4, 2) ∧ 67 + 2 = 69 := by decide +kernel
theorem zi_30_69 : zraw 30 69 = some (.lload 5, 2) ∧ 69 + 2 = 71 := by decide +kernel
theorem zi_30_71 : zraw 30 71 = some (.bipush 48, 2) ∧ zin 128 48 = true ∧ 71 + 2 = 73 := by decide +kernel
theorem zi_30_73 : zraw 30 73 = some (.lushr, 1) ∧ 73 + 1 = 74 := by decide +kernel
theorem zi_30_74 : zraw 30 74 = some (.l2i, 1) ∧ 74 + 1 = 75 := by decide +kernel
theorem zi_30_75 : zraw 30 75 = some (.iastore, 1) ∧ 75 + 1 = 76 := by decide +kernel
theorem zi_30_76 : zraw 30 76 = some (.iinc 4 1, 3) ∧ zin 32768 1 = true ∧ 76 + 3 = 79 := by decide +kernel
theorem zi_30_79 : zraw 30 79 = some (.goto (-52), 3) ∧ ((79 : Nat) : Int) + (-52) = Int.ofNat 27 := by decide +kernel
theorem zi_30_82 : zraw 30 82 = some (.aload_n 2, 1) ∧ 82 + 1 = 83 := by decide +kernel
theorem zi_30_83 : zraw 30 83 = some (.invokevirtual 42, 3) ∧ zmt (zinf 30).1 42 = some 95 ∧ Nat.ble 9000 95 = false ∧ zinf 95 = (8, 1, 3, 0, 0) ∧ 83 + 3 = 86 := by decide +kernel
theorem zi_30_86 : zraw 30 86 = some (.aload_n 0, 1) ∧ 86 + 1 = 87 := by decide +kernel
theorem zi_30_87 : zraw 30 87 = some (.getfield 22, 3) ∧ zft (zinf 30).1 22 = some (2, 3, 3, true) ∧ 87 + 3 = 90 := by decide +kernel
theorem zi_30_90 : zraw 30 90 = some (.iload_n 1, 1) ∧ 90 + 1 = 91 := by decide +kernel
theorem zi_30_91 : zraw 30 91 = some (.aload_n 0, 1) ∧ 91 + 1 = 92 := by decide +kernel
theorem zi_30_92 : zraw 30 92 = some (.getfield 19, 3) ∧ zft (zinf 30).1 19 = some (2, 2, 3, true) ∧ 92 + 3 = 95 := by decide +kernel
theorem zi_30_95 : zraw 30 95 = some (.iload_n 3, 1) ∧ 95 + 1 = 96 := by decide +kernel
theorem zi_30_96 : zraw 30 96 = some (.iaload, 1) ∧ 96 + 1 = 97 := by decide +kernel
theorem zi_30_97 : zraw 30 97 = some (.iastore, 1) ∧ 97 + 1 = 98 := by decide +kernel
theorem zi_30_98 : zraw 30 98 = some (.iconst 1, 1) ∧ zin 128 1 = true ∧ 98 + 1 = 99 := by decide +kernel
theorem zi_30_99 : zraw 30 99 = some (.ireturn, 1) ∧ (zinf 30).2.2.2.1 = 2 := by decide +kernel
theorem ze_30 {K : List zF} {σ : zW} {x1 : Int} {x2 : Nat} (h1 : zTr x2) : zEv true (zent 30 [.inr (.inr 61), .inl x1, .inr (.inr x2)] :: K) σ = ((0 ≤ x1 ∧ x1 < 3) ∧ (if ¬ (gI σ 65 x1.toNat) = (-1) then (0 ≤ (gI σ 65 x1.toNat) ∧ (gI σ 65 x1.toNat) < 512) ∧ zEv true ((30, 27, [some (.inr (.inr 61)), some (.inl x1), some (.inr (.inr x2)), some (.inl (gI σ 65 x1.toNat)), some (.inl 0), none, none], []) :: K) (sI σ x2 12 (gI σ 63 ((gI σ 65 x1.toNat).toNat))) else zRet true K (some (.inl 0)) σ)) :=
  yT_en (f := (30, 0, [some (.inr (.inr 61)), some (.inl x1), some (.inr (.inr x2)), none, none, none, none], [])) rfl (yI_aload_n zi_30_0 rfl <| yI_gf_f (v := 65) zi_30_1 zk_61 rfl <| yI_iload_n zi_30_4 rfl <| yI_ialoadc (v := gI σ 65 x1.toNat) zi_30_5 za_65 rfl <| yI_istore_n (l := [some (.inr (.inr 61)), some (.inl x1), some (.inr (.inr x2)), some (.inl (gI σ 65 x1.toNat)), none, none, none]) zi_30_6 rfl rfl <| yI_iload_n zi_30_7 rfl <| yI_iconst zi_30_8 <| yI_ic_ne zi_30_9 <| yBr (yI_aload_n zi_30_14 rfl <| yI_aload_n zi_30_15 rfl <| yI_gf_f (v := 63) zi_30_16 zk_61 rfl <| yI_iload_n zi_30_19 rfl <| yI_ialoadc (v := gI σ 63 ((gI σ 65 x1.toNat).toNat)) zi_30_20 za_63 rfl <| yI_pf_i zi_30_21 (zTr_k h1) <| yI_iconst zi_30_24 <| yI_istore (l := [some (.inr (.inr 61)), some (.inl x1), some (.inr (.inr x2)), some (.inl (gI σ 65 x1.toNat)), some (.inl 0), none, none]) zi_30_25 rfl rfl <| rfl) (yI_iconst zi_30_12 <| yI_zreturn zi_30_13 (by decide)))
theorem zj_30_27 {K : List zF} {σ : zW} {x1 : Int} {x2 : Nat} {x3 : Int} {x4 : Int} {o5 : Option zV} {o6 : Option zV} (hK : K.length < 60) (h1 : zTr x2) : zEv true ((30, 27, [some (.inr (.inr 61)), some (.inl x1), some (.inr (.inr x2)), some (.inl x3), some (.inl x4), o5, o6], []) :: K) σ = (if (gI σ x2 12) ≤ x4 then zEv true (zent 95 [.inr (.inr x2)] :: (30, 86, [some (.inr (.inr 61)), some (.inl x1), some (.inr (.inr x2)), some (.inl x3), some (.inl x4), o5, o6], []) :: K) σ else (0 ≤ (w32 ((w32 (x3 * 20)) + x4)) ∧ (w32 ((w32 (x3 * 20)) + x4)) < 10240) ∧ ((0 ≤ x4 ∧ x4 < 20) ∧ ((0 ≤ x4 ∧ x4 < 20) ∧ zEv true ((30, 27, [some (.inr (.inr 61)), some (.inl x1), some (.inr (.inr x2)), some (.inl x3), some (.inl (w32 (x4 + 1))), some (.inr (.inl (gL σ 62 ((w32 ((w32 (x3 * 20)) + x4)).toNat)))), none], []) :: K) (sI (sL σ (x2 + 1) x4.toNat ((gL σ 62 ((w32 ((w32 (x3 * 20)) + x4)).toNat)) &&& 281474976710655)) (x2 + 2) x4.toNat (zl2i (zlushr (gL σ 62 ((w32 ((w32 (x3 * 20)) + x4)).toNat)) 48)))))) :=
  yI_iload zi_30_27 rfl <| yI_aload_n zi_30_29 rfl <| yI_gf_i (v := gI σ x2 12) zi_30_30 (zTr_k h1) rfl <| yI_ic_ge zi_30_33 <| yBr (yI_aload_n zi_30_82 rfl <| yI_cv zi_30_83 rfl rfl (zTr_k h1) hK) (yI_aload_n zi_30_36 rfl <| yI_gf_f (v := 62) zi_30_37 zk_61 rfl <| yI_iload_n zi_30_40 rfl <| yI_bipush zi_30_41 <| yI_imul zi_30_43 <| yI_iload zi_30_44 rfl <| yI_iadd zi_30_46 <| yI_laloadc (v := gL σ 62 ((w32 ((w32 (x3 * 20)) + x4)).toNat)) zi_30_47 za_62 rfl <| yI_lstore (l := [some (.inr (.inr 61)), some (.inl x1), some (.inr (.inr x2)), some (.inl x3), some (.inl x4), some (.inr (.inl (gL σ 62 ((w32 ((w32 (x3 * 20)) + x4)).toNat)))), none]) zi_30_48 rfl rfl <| yI_aload_n zi_30_50 rfl <| yI_gf_f (v := x2 + 1) zi_30_51 (zTr_k h1) rfl <| yI_iload zi_30_54 rfl <| yI_lload zi_30_56 rfl <| yI_ldc2_w zi_30_58 <| yI_land zi_30_61 <| yI_lastorec zi_30_62 (zTr_a1 h1) <| yI_aload_n zi_30_63 rfl <| yI_gf_f (v := x2 + 2) zi_30_64 (zTr_k h1) rfl <| yI_iload zi_30_67 rfl <| yI_lload zi_30_69 rfl <| yI_bipush zi_30_71 <| yI_lushr zi_30_73 <| yI_l2i zi_30_74 <| yI_iastorec zi_30_75 (zTr_a2 h1) <| yI_iinc (l := [some (.inr (.inr 61)), some (.inl x1), some (.inr (.inr x2)), some (.inl x3), some (.inl (w32 (x4 + 1))), some (.inr (.inl (gL σ 62 ((w32 ((w32 (x3 * 20)) + x4)).toNat)))), none]) zi_30_76 rfl rfl rfl <| yI_goto zi_30_79 <| rfl)
theorem zr_30_86 {K : List zF} {σ : zW} {x1 : Int} {o2 : Option zV} {x3 : Int} {o4 : Option zV} {o5 : Option zV} {o6 : Option zV} : zRet true ((30, 86, [some (.inr (.inr 61)), some (.inl x1), o2, some (.inl x3), o4, o5, o6], []) :: K) none σ = ((0 ≤ x3 ∧ x3 < 512) ∧ ((0 ≤ x1 ∧ x1 < 3) ∧ zRet true K (some (.inl 1)) (sI σ 65 x1.toNat (gI σ 64 x3.toNat)))) :=
  yT_rv (yI_aload_n zi_30_86 rfl <| yI_gf_f (v := 65) zi_30_87 zk_61 rfl <| yI_iload_n zi_30_90 rfl <| yI_aload_n zi_30_91 rfl <| yI_gf_f (v := 64) zi_30_92 zk_61 rfl <| yI_iload_n zi_30_95 rfl <| yI_ialoadc (v := gI σ 64 x3.toNat) zi_30_96 za_64 rfl <| yI_iastorec zi_30_97 za_65 <| yI_iconst zi_30_98 <| yI_zreturn zi_30_99 (by decide))
/-- 32 Treegrab$Out.put(I)V -/
theorem zi_32_0 : zraw 32 0 = some (.aload_n 0, 1) ∧ 0 + 1 = 1 := by decide +kernel
theorem zi_32_1 : zraw 32 1 = some (.getfield 15, 3) ∧ zft (zinf 32).1 15 = some (3, 1, 0, false) ∧ 1 + 3 = 4 := by decide +kernel
theorem zi_32_4 : zraw 32 4 = some (.sipush 184, 3) ∧ zin 32768 184 = true ∧ 4 + 3 = 7 := by decide +kernel
theorem zi_32_7 : zraw 32 7 = some (.if_icmp .ge 23, 3) ∧ ((7 : Nat) : Int) + 23 = Int.ofNat 30 ∧ 7 + 3 = 10 := by decide +kernel
theorem zi_32_10 : zraw 32 10 = some (.aload_n 0, 1) ∧ 10 + 1 = 11 := by decide +kernel
theorem zi_32_11 : zraw 32 11 = some (.getfield 9, 3) ∧ zft (zinf 32).1 9 = some (3, 0, 3, true) ∧ 11 + 3 = 14 := by decide +kernel
theorem zi_32_14 : zraw 32 14 = some (.aload_n 0, 1) ∧ 14 + 1 = 15 := by decide +kernel
theorem zi_32_15 : zraw 32 15 = some (.getfield 15, 3) ∧ zft (zinf 32).1 15 = some (3, 1, 0, false) ∧ 15 + 3 = 18 := by decide +kernel
theorem zi_32_18 : zraw 32 18 = some (.iload_n 1, 1) ∧ 18 + 1 = 19 := by decide +kernel
theorem zi_32_19 : zraw 32 19 = some (.iastore, 1) ∧ 19 + 1 = 20 := by decide +kernel
theorem zi_32_20 : zraw 32 20 = some (.aload_n 0, 1) ∧ 20 + 1 = 21 := by decide +kernel
theorem zi_32_21 : zraw 32 21 = some (.dup, 1) ∧ 21 + 1 = 22 := by decide +kernel
theorem zi_32_22 : zraw 32 22 = some (.getfield 15, 3) ∧ zft (zinf 32).1 15 = some (3, 1, 0, false) ∧ 22 + 3 = 25 := by decide +kernel
theorem zi_32_25 : zraw 32 25 = some (.iconst 1, 1) ∧ zin 128 1 = true ∧ 25 + 1 = 26 := by decide +kernel
theorem zi_32_26 : zraw 32 26 = some (.iadd, 1) ∧ 26 + 1 = 27 := by decide +kernel
theorem zi_32_27 : zraw 32 27 = some (.putfield 15, 3) ∧ zft (zinf 32).1 15 = some (3, 1, 0, false) ∧ 27 + 3 = 30 := by decide +kernel
theorem zi_32_30 : zraw 32 30 = some (.return_, 1) ∧ (zinf 32).2.2.2.1 = 0 := by decide +kernel
theorem ze_32 {K : List zF} {σ : zW} {x1 : Int} : zEv true (zent 32 [.inr (.inr 66), .inl x1] :: K) σ = (if 184 ≤ (gI σ 66 1) then zRet true K none σ else (0 ≤ (gI σ 66 1) ∧ (gI σ 66 1) < 184) ∧ zRet true K none (sI (sI σ 67 ((gI σ 66 1).toNat) x1) 66 1 (w32 ((gI σ 66 1) + 1)))) :=
  yT_en (f := (32, 0, [some (.inr (.inr 66)), some (.inl x1)], [])) rfl (yI_aload_n zi_32_0 rfl <| yI_gf_i (v := gI σ 66 1) zi_32_1 zk_66 rfl <| yI_sipush zi_32_4 <| yI_ic_ge zi_32_7 <| yBr (yI_ret zi_32_30) (yI_aload_n zi_32_10 rfl <| yI_gf_f (v := 67) zi_32_11 zk_66 rfl <| yI_aload_n zi_32_14 rfl <| yI_gf_i (v := gI σ 66 1) zi_32_15 zk_66 rfl <| yI_iload_n zi_32_18 rfl <| yI_iastorec zi_32_19 za_67 <| yI_aload_n zi_32_20 rfl <| yI_dup_r zi_32_21 <| yI_gf_i (v := gI σ 66 1) zi_32_22 zk_66 (yGI_nk (by decide)) <| yI_iconst zi_32_25 <| yI_iadd zi_32_26 <| yI_pf_i zi_32_27 zk_66 <| yI_ret zi_32_30))
/-- 33 Treegrab$Out.putLabel(J)V -/
theorem zi_33_0 : zraw 33 0 = some (.iconst 0, 1) ∧ zin 128 0 = true ∧ 0 + 1 = 1 := by decide +kernel
theorem zi_33_1 : zraw 33 1 = some (.istore_n 3, 1) ∧ 1 + 1 = 2 := by decide +kernel
theorem zi_33_2 : zraw 33 2 = some (.iload_n 3, 1) ∧ 2 + 1 = 3 := by decide +kernel
theorem zi_33_3 : zraw 33 3 = some (.bipush 6, 2) ∧ zin 128 6 = true ∧ 3 + 2 = 5 := by decide +kernel
theorem zi_33_5 : zraw 33 5 = some (.if_icmp .ge 33, 3) ∧ ((5 : Nat) : Int) + 33 = Int.ofNat 38 ∧ 5 + 3 = 8 := by decide +kernel
theorem zi_33_8 : zraw 33 8 = some (.lload_n 1, 1) ∧ 8 + 1 = 9 := by decide +kernel
theorem zi_33_9 : zraw 33 9 = some (.bipush 8, 2) ∧ zin 128 8 = true ∧ 9 + 2 = 11 := by decide +kernel
theorem zi_33_11 : zraw 33 11 = some (.iload_n 3, 1) ∧ 11 + 1 = 12 := by decide +kernel
theorem zi_33_12 : zraw 33 12 = some (.imul, 1) ∧ 12 + 1 = 13 := by decide +kernel
theorem zi_33_13 : zraw 33 13 = some (.lushr, 1) ∧ 13 + 1 = 14 := by decide +kernel
theorem zi_33_14 : zraw 33 14 = some (.l2i, 1) ∧ 14 + 1 = 15 := by decide +kernel
theorem zi_33_15 : zraw 33 15 = some (.sipush 255, 3) ∧ zin 32768 255 = true ∧ 15 + 3 = 18 := by decide +kernel
theorem zi_33_18 : zraw 33 18 = some (.iand, 1) ∧ 18 + 1 = 19 := by decide +kernel
theorem zi_33_19 : zraw 33 19 = some (.istore 4, 2) ∧ 19 + 2 = 21 := by decide +kernel
theorem zi_33_21 : zraw 33 21 = some (.iload 4, 2) ∧ 21 + 2 = 23 := by decide +kernel
theorem zi_33_23 : zraw 33 23 = some (.ifCond .eq 9, 3) ∧ ((23 : Nat) : Int) + 9 = Int.ofNat 32 ∧ 23 + 3 = 26 := by decide +kernel
theorem zi_33_26 : zraw 33 26 = some (.aload_n 0, 1) ∧ 26 + 1 = 27 := by decide +kernel
theorem zi_33_27 : zraw 33 27 = some (.iload 4, 2) ∧ 27 + 2 = 29 := by decide +kernel
theorem zi_33_29 : zraw 33 29 = some (.invokevirtual 19, 3) ∧ zmt (zinf 33).1 19 = some 32 ∧ Nat.ble 9000 32 = false ∧ zinf 32 = (3, 2, 2, 0, 0) ∧ 29 + 3 = 32 := by decide +kernel
theorem zi_33_32 : zraw 33 32 = some (.iinc 3 1, 3) ∧ zin 32768 1 = true ∧ 32 + 3 = 35 := by decide +kernel
theorem zi_33_35 : zraw 33 35 = some (.goto (-33), 3) ∧ ((35 : Nat) : Int) + (-33) = Int.ofNat 2 := by decide +kernel
theorem zi_33_38 : zraw 33 38 = some (.return_, 1) ∧ (zinf 33).2.2.2.1 = 0 := by decide +kernel
theorem ze_33 {K : List zF} {σ : zW} {x1 : Int64} : zEv true (zent 33 [.inr (.inr 66), .inr (.inl x1)] :: K) σ = (zEv true ((33, 2, [some (.inr (.inr 66)), some (.inr (.inl x1)), none, some (.inl 0), none], []) :: K) σ) :=
  yT_en (f := (33, 0, [some (.inr (.inr 66)), some (.inr (.inl x1)), none, none, none], [])) rfl (yI_iconst zi_33_0 <| yI_istore_n (l := [some (.inr (.inr 66)), some (.inr (.inl x1)), none, some (.inl 0), none]) zi_33_1 rfl rfl <| rfl)
theorem zj_33_2 {K : List zF} {σ : zW} {x1 : Int64} {x3 : Int} {o4 : Option zV} (hK : K.length < 60) : zEv true ((33, 2, [some (.inr (.inr 66)), some (.inr (.inl x1)), none, some (.inl x3), o4], []) :: K) σ = (if 6 ≤ x3 then zRet true K none σ else if (zand (zl2i (zlushr x1 (w32 (8 * x3)))) 255) = 0 then zEv true ((33, 2, [some (.inr (.inr 66)), some (.inr (.inl x1)), none, some (.inl (w32 (x3 + 1))), some (.inl (zand (zl2i (zlushr x1 (w32 (8 * x3)))) 255))], []) :: K) σ else zEv true (zent 32 [.inr (.inr 66), .inl (zand (zl2i (zlushr x1 (w32 (8 * x3)))) 255)] :: (33, 32, [some (.inr (.inr 66)), some (.inr (.inl x1)), none, some (.inl x3), some (.inl (zand (zl2i (zlushr x1 (w32 (8 * x3)))) 255))], []) :: K) σ) :=
  yI_iload_n zi_33_2 rfl <| yI_bipush zi_33_3 <| yI_ic_ge zi_33_5 <| yBr (yI_ret zi_33_38) (yI_lload_n zi_33_8 rfl <| yI_bipush zi_33_9 <| yI_iload_n zi_33_11 rfl <| yI_imul zi_33_12 <| yI_lushr zi_33_13 <| yI_l2i zi_33_14 <| yI_sipush zi_33_15 <| yI_iand zi_33_18 <| yI_istore (l := [some (.inr (.inr 66)), some (.inr (.inl x1)), none, some (.inl x3), some (.inl (zand (zl2i (zlushr x1 (w32 (8 * x3)))) 255))]) zi_33_19 rfl rfl <| yI_iload zi_33_21 rfl <| yI_if_eq zi_33_23 <| yBr (yI_iinc (l := [some (.inr (.inr 66)), some (.inr (.inl x1)), none, some (.inl (w32 (x3 + 1))), some (.inl (zand (zl2i (zlushr x1 (w32 (8 * x3)))) 255))]) zi_33_32 rfl rfl rfl <| yI_goto zi_33_35 <| rfl) (yI_aload_n zi_33_26 rfl <| yI_iload zi_33_27 rfl <| yI_cv zi_33_29 rfl rfl zk_66 hK))
theorem zr_33_32 {K : List zF} {σ : zW} {x1 : Int64} {x3 : Int} {o4 : Option zV} : zRet true ((33, 32, [some (.inr (.inr 66)), some (.inr (.inl x1)), none, some (.inl x3), o4], []) :: K) none σ = (zEv true ((33, 2, [some (.inr (.inr 66)), some (.inr (.inl x1)), none, some (.inl (w32 (x3 + 1))), o4], []) :: K) σ) :=
  yT_rv (yI_iinc (l := [some (.inr (.inr 66)), some (.inr (.inl x1)), none, some (.inl (w32 (x3 + 1))), o4]) zi_33_32 rfl rfl rfl <| yI_goto zi_33_35 <| rfl)
/-- 34 Treegrab$Out.putTree(LTreegrab$Tree;)V -/
theorem zi_34_0 : zraw 34 0 = some (.aload_n 0, 1) ∧ 0 + 1 = 1 := by decide +kernel
theorem zi_34_1 : zraw 34 1 = some (.iconst 0, 1) ∧ zin 128 0 = true ∧ 1 + 1 = 2 := by decide +kernel
theorem zi_34_2 : zraw 34 2 = some (.putfield 15, 3) ∧ zft (zinf 34).1 15 = some (3, 1, 0, false) ∧ 2 + 3 = 5 := by decide +kernel
theorem zi_34_5 : zraw 34 5 = some (.iconst 0, 1) ∧ zin 128 0 = true ∧ 5 + 1 = 6 := by decide +kernel
theorem zi_34_6 : zraw 34 6 = some (.istore_n 2, 1) ∧ 6 + 1 = 7 := by decide +kernel
theorem zi_34_7 : zraw 34 7 = some (.iload_n 2, 1) ∧ 7 + 1 = 8 := by decide +kernel
theorem zi_34_8 : zraw 34 8 = some (.aload_n 1, 1) ∧ 8 + 1 = 9 := by decide +kernel
theorem zi_34_9 : zraw 34 9 = some (.getfield 23, 3) ∧ zft (zinf 34).1 23 = some (8, 12, 0, false) ∧ 9 + 3 = 12 := by decide +kernel
theorem zi_34_12 : zraw 34 12 = some (.if_icmp .ge 109, 3) ∧ ((12 : Nat) : Int) + 109 = Int.ofNat 121 ∧ 12 + 3 = 15 := by decide +kernel
theorem zi_34_15 : zraw 34 15 = some (.iload_n 2, 1) ∧ 15 + 1 = 16 := by decide +kernel
theorem zi_34_16 : zraw 34 16 = some (.ifCond .le 9, 3) ∧ ((16 : Nat) : Int) + 9 = Int.ofNat 25 ∧ 16 + 3 = 19 := by decide +kernel
theorem zi_34_19 : zraw 34 19 = some (.aload_n 0, 1) ∧ 19 + 1 = 20 := by decide +kernel
theorem zi_34_20 : zraw 34 20 = some (.bipush 32, 2) ∧ zin 128 32 = true ∧ 20 + 2 = 22 := by decide +kernel
theorem zi_34_22 : zraw 34 22 = some (.invokevirtual 19, 3) ∧ zmt (zinf 34).1 19 = some 32 ∧ Nat.ble 9000 32 = false ∧ zinf 32 = (3, 2, 2, 0, 0) ∧ 22 + 3 = 25 := by decide +kernel
theorem zi_34_25 : zraw 34 25 = some (.aload_n 1, 1) ∧ 25 + 1 = 26 := by decide +kernel
theorem zi_34_26 : zraw 34 26 = some (.getfield 28, 3) ∧ zft (zinf 34).1 28 = some (8, 4, 3, true) ∧ 26 + 3 = 29 := by decide +kernel
theorem zi_34_29 : zraw 34 29 = some (.iload_n 2, 1) ∧ 29 + 1 = 30 := by decide +kernel
theorem zi_34_30 : zraw 34 30 = some (.iaload, 1) ∧ 30 + 1 = 31 := by decide +kernel
theorem zi_34_31 : zraw 34 31 = some (.ifCond .ne 7, 3) ∧ ((31 : Nat) : Int) + 7 = Int.ofNat 38 ∧ 31 + 3 = 34 := by decide +kernel
theorem zi_34_34 : zraw 34 34 = some (.iconst 1, 1) ∧ zin 128 1 = true ∧ 34 + 1 = 35 := by decide +kernel
theorem zi_34_35 : zraw 34 35 = some (.goto 4, 3) ∧ ((35 : Nat) : Int) + 4 = Int.ofNat 39 := by decide +kernel
theorem zi_34_38 : zraw 34 38 = some (.iconst 0, 1) ∧ zin 128 0 = true ∧ 38 + 1 = 39 := by decide +kernel
theorem zi_34_39 : zraw 34 39 = some (.istore_n 3, 1) ∧ 39 + 1 = 40 := by decide +kernel
theorem zi_34_40 : zraw 34 40 = some (.iload_n 3, 1) ∧ 40 + 1 = 41 := by decide +kernel
theorem zi_34_41 : zraw 34 41 = some (.ifCond .ne 9, 3) ∧ ((41 : Nat) : Int) + 9 = Int.ofNat 50 ∧ 41 + 3 = 44 := by decide +kernel
theorem zi_34_44 : zraw 34 44 = some (.aload_n 0, 1) ∧ 44 + 1 = 45 := by decide +kernel
theorem zi_34_45 : zraw 34 45 = some (.bipush 40, 2) ∧ zin 128 40 = true ∧ 45 + 2 = 47 := by decide +kernel
theorem zi_34_47 : zraw 34 47 = some (.invokevirtual 19, 3) ∧ zmt (zinf 34).1 19 = some 32 ∧ Nat.ble 9000 32 = false ∧ zinf 32 = (3, 2, 2, 0, 0) ∧ 47 + 3 = 50 := by decide +kernel
theorem zi_34_50 : zraw 34 50 = some (.aload_n 0, 1) ∧ 50 + 1 = 51 := by decide +kernel
theorem zi_34_51 : zraw 34 51 = some (.aload_n 1, 1) ∧ 51 + 1 = 52 := by decide +kernel
theorem zi_34_52 : zraw 34 52 = some (.getfield 31, 3) ∧ zft (zinf 34).1 31 = some (8, 0, 3, true) ∧ 52 + 3 = 55 := by decide +kernel
theorem zi_34_55 : zraw 34 55 = some (.iload_n 2, 1) ∧ 55 + 1 = 56 := by decide +kernel
theorem zi_34_56 : zraw 34 56 = some (.laload, 1) ∧ 56 + 1 = 57 := by decide +kernel
theorem zi_34_57 : zraw 34 57 = some (.invokevirtual 35, 3) ∧ zmt (zinf 34).1 35 = some 33 ∧ Nat.ble 9000 33 = false ∧ zinf 33 = (3, 2, 5, 0, 0) ∧ 57 + 3 = 60 := by decide +kernel
theorem zi_34_60 : zraw 34 60 = some (.iload_n 2, 1) ∧ 60 + 1 = 61 := by decide +kernel
theorem zi_34_61 : zraw 34 61 = some (.iconst 1, 1) ∧ zin 128 1 = true ∧ 61 + 1 = 62 := by decide +kernel
theorem zi_34_62 : zraw 34 62 = some (.iadd, 1) ∧ 62 + 1 = 63 := by decide +kernel
theorem zi_34_63 : zraw 34 63 = some (.aload_n 1, 1) ∧ 63 + 1 = 64 := by decide +kernel
theorem zi_34_64 : zraw 34 64 = some (.getfield 23, 3) ∧ zft (zinf 34).1 23 = some (8, 12, 0, false) ∧ 64 + 3 = 67 := by decide +kernel
theorem zi_34_67 : zraw 34 67 = some (.if_icmp .ge 14, 3) ∧ ((67 : Nat) : Int) + 14 = Int.ofNat 81 ∧ 67 + 3 = 70 := by decide +kernel
theorem zi_34_70 : zraw 34 70 = some (.aload_n 1, 1) ∧ 70 + 1 = 71 := by decide +kernel
theorem zi_34_71 : zraw 34 71 = some (.getfield 39, 3) ∧ zft (zinf 34).1 39 = some (8, 1, 3, true) ∧ 71 + 3 = 74 := by decide +kernel
theorem zi_34_74 : zraw 34 74 = some (.iload_n 2, 1) ∧ 74 + 1 = 75 := by decide +kernel
theorem zi_34_75 : zraw 34 75 = some (.iconst 1, 1) ∧ zin 128 1 = true ∧ 75 + 1 = 76 := by decide +kernel
theorem zi_34_76 : zraw 34 76 = some (.iadd, 1) ∧ 76 + 1 = 77 := by decide +kernel
theorem zi_34_77 : zraw 34 77 = some (.iaload, 1) ∧ 77 + 1 = 78 := by decide +kernel
theorem zi_34_78 : zraw 34 78 = some (.goto 4, 3) ∧ ((78 : Nat) : Int) + 4 = Int.ofNat 82 := by decide +kernel
theorem zi_34_81 : zraw 34 81 = some (.iconst 0, 1) ∧ zin 128 0 = true ∧ 81 + 1 = 82 := by decide +kernel
theorem zi_34_82 : zraw 34 82 = some (.istore 4, 2) ∧ 82 + 2 = 84 := by decide +kernel
theorem zi_34_84 : zraw 34 84 = some (.aload_n 1, 1) ∧ 84 + 1 = 85 := by decide +kernel
theorem zi_34_85 : zraw 34 85 = some (.getfield 39, 3) ∧ zft (zinf 34).1 39 = some (8, 1, 3, true) ∧ 85 + 3 = 88 := by decide +kernel
theorem zi_34_88 : zraw 34 88 = some (.iload_n 2, 1) ∧ 88 + 1 = 89 := by decide +kernel
theorem zi_34_89 : zraw 34 89 = some (.iaload, 1) ∧ 89 + 1 = 90 := by decide +kernel
theorem zi_34_90 : zraw 34 90 = some (.istore 5, 2) ∧ 90 + 2 = 92 := by decide +kernel
theorem zi_34_92 : zraw 34 92 = some (.iload_n 3, 1) ∧ 92 + 1 = 93 := by decide +kernel
theorem zi_34_93 : zraw 34 93 = some (.ifCond .eq 22, 3) ∧ ((93 : Nat) : Int) + 22 = Int.ofNat 115 ∧ 93 + 3 = 96 := by decide +kernel
theorem zi_34_96 : zraw 34 96 = some (.iload 5, 2) ∧ 96 + 2 = 98 := by decide +kernel
theorem zi_34_98 : zraw 34 98 = some (.iload 4, 2) ∧ 98 + 2 = 100 := by decide +kernel
theorem zi_34_100 : zraw 34 100 = some (.if_icmp .le 15, 3) ∧ ((100 : Nat) : Int) + 15 = Int.ofNat 115 ∧ 100 + 3 = 103 := by decide +kernel
theorem zi_34_103 : zraw 34 103 = some (.aload_n 0, 1) ∧ 103 + 1 = 104 := by decide +kernel
theorem zi_34_104 : zraw 34 104 = some (.bipush 41, 2) ∧ zin 128 41 = true ∧ 104 + 2 = 106 := by decide +kernel
theorem zi_34_106 : zraw 34 106 = some (.invokevirtual 19, 3) ∧ zmt (zinf 34).1 19 = some 32 ∧ Nat.ble 9000 32 = false ∧ zinf 32 = (3, 2, 2, 0, 0) ∧ 106 + 3 = 109 := by decide +kernel
theorem zi_34_109 : zraw 34 109 = some (.iinc 5 (-1), 3) ∧ zin 32768 (-1) = true ∧ 109 + 3 = 112 := by decide +kernel
theorem zi_34_112 : zraw 34 112 = some (.goto (-20), 3) ∧ ((112 : Nat) : Int) + (-20) = Int.ofNat 92 := by decide +kernel
theorem zi_34_115 : zraw 34 115 = some (.iinc 2 1, 3) ∧ zin 32768 1 = true ∧ 115 + 3 = 118 := by decide +kernel
theorem zi_34_118 : zraw 34 118 = some (.goto (-111), 3) ∧ ((118 : Nat) : Int) + (-111) = Int.ofNat 7 := by decide +kernel
theorem zi_34_121 : zraw 34 121 = some (.return_, 1) ∧ (zinf 34).2.2.2.1 = 0 := by decide +kernel
theorem ze_34 {K : List zF} {σ : zW} {x1 : Nat} : zEv true (zent 34 [.inr (.inr 66), .inr (.inr x1)] :: K) σ = (zEv true ((34, 7, [some (.inr (.inr 66)), some (.inr (.inr x1)), some (.inl 0), none, none, none], []) :: K) (sI σ 66 1 0)) :=
  yT_en (f := (34, 0, [some (.inr (.inr 66)), some (.inr (.inr x1)), none, none, none, none], [])) rfl (yI_aload_n zi_34_0 rfl <| yI_iconst zi_34_1 <| yI_pf_i zi_34_2 zk_66 <| yI_iconst zi_34_5 <| yI_istore_n (l := [some (.inr (.inr 66)), some (.inr (.inr x1)), some (.inl 0), none, none, none]) zi_34_6 rfl rfl <| rfl)
theorem zj_34_7 {K : List zF} {σ : zW} {x1 : Nat} {x2 : Int} {o3 : Option zV} {o4 : Option zV} {o5 : Option zV} (hK : K.length < 60) (h1 : zTr x1) : zEv true ((34, 7, [some (.inr (.inr 66)), some (.inr (.inr x1)), some (.inl x2), o3, o4, o5], []) :: K) σ = (if (gI σ x1 12) ≤ x2 then zRet true K none σ else if x2 ≤ 0 then zEv true ((34, 25, [some (.inr (.inr 66)), some (.inr (.inr x1)), some (.inl x2), o3, o4, o5], []) :: K) σ else zEv true (zent 32 [.inr (.inr 66), .inl 32] :: (34, 25, [some (.inr (.inr 66)), some (.inr (.inr x1)), some (.inl x2), o3, o4, o5], []) :: K) σ) :=
  yI_iload_n zi_34_7 rfl <| yI_aload_n zi_34_8 rfl <| yI_gf_i (v := gI σ x1 12) zi_34_9 (zTr_k h1) rfl <| yI_ic_ge zi_34_12 <| yBr (yI_ret zi_34_121) (yI_iload_n zi_34_15 rfl <| yI_if_le zi_34_16 <| yBr (rfl) (yI_aload_n zi_34_19 rfl <| yI_bipush zi_34_20 <| yI_cv zi_34_22 rfl rfl zk_66 hK))
theorem zj_34_25 {K : List zF} {σ : zW} {x1 : Nat} {x2 : Int} {o3 : Option zV} {o4 : Option zV} {o5 : Option zV} (hK : K.length < 60) (h1 : zTr x1) : zEv true ((34, 25, [some (.inr (.inr 66)), some (.inr (.inr x1)), some (.inl x2), o3, o4, o5], []) :: K) σ = ((0 ≤ x2 ∧ x2 < 20) ∧ (if ¬ (if ¬ (gI σ (x1 + 5) x2.toNat) = 0 then 0 else 1 : Int) = 0 then zEv true ((34, 50, [some (.inr (.inr 66)), some (.inr (.inr x1)), some (.inl x2), some (.inl (if ¬ (gI σ (x1 + 5) x2.toNat) = 0 then 0 else 1 : Int)), o4, o5], []) :: K) σ else zEv true (zent 32 [.inr (.inr 66), .inl 40] :: (34, 50, [some (.inr (.inr 66)), some (.inr (.inr x1)), some (.inl x2), some (.inl (if ¬ (gI σ (x1 + 5) x2.toNat) = 0 then 0 else 1 : Int)), o4, o5], []) :: K) σ)) :=
  yI_aload_n zi_34_25 rfl <| yI_gf_f (v := x1 + 5) zi_34_26 (zTr_k h1) rfl <| yI_iload_n zi_34_29 rfl <| yI_ialoadc (v := gI σ (x1 + 5) x2.toNat) zi_34_30 (zTr_a5 h1) rfl <| yI_if_ne zi_34_31 <| yMi0 (j := 39) (ls2 := [some (.inr (.inr 66)), some (.inr (.inr x1)), some (.inl x2), o3, o4, o5]) (st2 := []) (x := 0) (y := 1) (σ2 := σ) (yI_iconst zi_34_38 <| rfl) (yI_iconst zi_34_34 <| yI_goto zi_34_35 <| rfl) <| yI_istore_n (l := [some (.inr (.inr 66)), some (.inr (.inr x1)), some (.inl x2), some (.inl (if ¬ (gI σ (x1 + 5) x2.toNat) = 0 then 0 else 1 : Int)), o4, o5]) zi_34_39 rfl rfl <| yI_iload_n zi_34_40 rfl <| yI_if_ne zi_34_41 <| yBr (rfl) (yI_aload_n zi_34_44 rfl <| yI_bipush zi_34_45 <| yI_cv zi_34_47 rfl rfl zk_66 hK)
theorem zr_34_25 {K : List zF} {σ : zW} {x1 : Nat} {x2 : Int} {o3 : Option zV} {o4 : Option zV} {o5 : Option zV} (hK : K.length < 60) (h1 : zTr x1) : zRet true ((34, 25, [some (.inr (.inr 66)), some (.inr (.inr x1)), some (.inl x2), o3, o4, o5], []) :: K) none σ = ((0 ≤ x2 ∧ x2 < 20) ∧ (if ¬ (if ¬ (gI σ (x1 + 5) x2.toNat) = 0 then 0 else 1 : Int) = 0 then zEv true ((34, 50, [some (.inr (.inr 66)), some (.inr (.inr x1)), some (.inl x2), some (.inl (if ¬ (gI σ (x1 + 5) x2.toNat) = 0 then 0 else 1 : Int)), o4, o5], []) :: K) σ else zEv true (zent 32 [.inr (.inr 66), .inl 40] :: (34, 50, [some (.inr (.inr 66)), some (.inr (.inr x1)), some (.inl x2), some (.inl (if ¬ (gI σ (x1 + 5) x2.toNat) = 0 then 0 else 1 : Int)), o4, o5], []) :: K) σ)) :=
  yT_rv (yI_aload_n zi_34_25 rfl <| yI_gf_f (v := x1 + 5) zi_34_26 (zTr_k h1) rfl <| yI_iload_n zi_34_29 rfl <| yI_ialoadc (v := gI σ (x1 + 5) x2.toNat) zi_34_30 (zTr_a5 h1) rfl <| yI_if_ne zi_34_31 <| yMi0 (j := 39) (ls2 := [some (.inr (.inr 66)), some (.inr (.inr x1)), some (.inl x2), o3, o4, o5]) (st2 := []) (x := 0) (y := 1) (σ2 := σ) (yI_iconst zi_34_38 <| rfl) (yI_iconst zi_34_34 <| yI_goto zi_34_35 <| rfl) <| yI_istore_n (l := [some (.inr (.inr 66)), some (.inr (.inr x1)), some (.inl x2), some (.inl (if ¬ (gI σ (x1 + 5) x2.toNat) = 0 then 0 else 1 : Int)), o4, o5]) zi_34_39 rfl rfl <| yI_iload_n zi_34_40 rfl <| yI_if_ne zi_34_41 <| yBr (rfl) (yI_aload_n zi_34_44 rfl <| yI_bipush zi_34_45 <| yI_cv zi_34_47 rfl rfl zk_66 hK))
theorem zj_34_50 {K : List zF} {σ : zW} {x1 : Nat} {x2 : Int} {x3 : Int} {o4 : Option zV} {o5 : Option zV} (hK : K.length < 60) (h1 : zTr x1) : zEv true ((34, 50, [some (.inr (.inr 66)), some (.inr (.inr x1)), some (.inl x2), some (.inl x3), o4, o5], []) :: K) σ = ((0 ≤ x2 ∧ x2 < 20) ∧ zEv true (zent 33 [.inr (.inr 66), .inr (.inl (gL σ (x1 + 1) x2.toNat))] :: (34, 60, [some (.inr (.inr 66)), some (.inr (.inr x1)), some (.inl x2), some (.inl x3), o4, o5], []) :: K) σ) :=
  yI_aload_n zi_34_50 rfl <| yI_aload_n zi_34_51 rfl <| yI_gf_f (v := x1 + 1) zi_34_52 (zTr_k h1) rfl <| yI_iload_n zi_34_55 rfl <| yI_laloadc (v := gL σ (x1 + 1) x2.toNat) zi_34_56 (zTr_a1 h1) rfl <| yI_cv zi_34_57 rfl rfl zk_66 hK
theorem zr_34_50 {K : List zF} {σ : zW} {x1 : Nat} {x2 : Int} {x3 : Int} {o4 : Option zV} {o5 : Option zV} (hK : K.length < 60) (h1 : zTr x1) : zRet true ((34, 50, [some (.inr (.inr 66)), some (.inr (.inr x1)), some (.inl x2), some (.inl x3), o4, o5], []) :: K) none σ = ((0 ≤ x2 ∧ x2 < 20) ∧ zEv true (zent 33 [.inr (.inr 66), .inr (.inl (gL σ (x1 + 1) x2.toNat))] :: (34, 60, [some (.inr (.inr 66)), some (.inr (.inr x1)), some (.inl x2), some (.inl x3), o4, o5], []) :: K) σ) :=
  yT_rv (yI_aload_n zi_34_50 rfl <| yI_aload_n zi_34_51 rfl <| yI_gf_f (v := x1 + 1) zi_34_52 (zTr_k h1) rfl <| yI_iload_n zi_34_55 rfl <| yI_laloadc (v := gL σ (x1 + 1) x2.toNat) zi_34_56 (zTr_a1 h1) rfl <| yI_cv zi_34_57 rfl rfl zk_66 hK)
theorem zr_34_60 {K : List zF} {σ : zW} {x1 : Nat} {x2 : Int} {x3 : Int} {o4 : Option zV} {o5 : Option zV} (h1 : zTr x1) : zRet true ((34, 60, [some (.inr (.inr 66)), some (.inr (.inr x1)), some (.inl x2), some (.inl x3), o4, o5], []) :: K) none σ = ((¬ ((gI σ x1 12) ≤ (w32 (x2 + 1))) → (0 ≤ (w32 (x2 + 1)) ∧ (w32 (x2 + 1)) < 20)) ∧ ((0 ≤ x2 ∧ x2 < 20) ∧ zEv true ((34, 92, [some (.inr (.inr 66)), some (.inr (.inr x1)), some (.inl x2), some (.inl x3), some (.inl (if (gI σ x1 12) ≤ (w32 (x2 + 1)) then 0 else gI σ (x1 + 2) ((w32 (x2 + 1)).toNat) : Int)), some (.inl (gI σ (x1 + 2) x2.toNat))], []) :: K) σ)) :=
  yT_rv (yI_iload_n zi_34_60 rfl <| yI_iconst zi_34_61 <| yI_iadd zi_34_62 <| yI_aload_n zi_34_63 rfl <| yI_gf_i (v := gI σ x1 12) zi_34_64 (zTr_k h1) rfl <| yI_ic_ge zi_34_67 <| yMi2 (j := 82) (ls2 := [some (.inr (.inr 66)), some (.inr (.inr x1)), some (.inl x2), some (.inl x3), o4, o5]) (st2 := []) (x := 0) (y := gI σ (x1 + 2) ((w32 (x2 + 1)).toNat)) (σ2 := σ) (yI_iconst zi_34_81 <| rfl) (yI_aload_n zi_34_70 rfl <| yI_gf_f (v := x1 + 2) zi_34_71 (zTr_k h1) rfl <| yI_iload_n zi_34_74 rfl <| yI_iconst zi_34_75 <| yI_iadd zi_34_76 <| yI_ialoadc (v := gI σ (x1 + 2) ((w32 (x2 + 1)).toNat)) zi_34_77 (zTr_a2 h1) rfl <| yI_goto zi_34_78 <| rfl) <| yI_istore (l := [some (.inr (.inr 66)), some (.inr (.inr x1)), some (.inl x2), some (.inl x3), some (.inl (if (gI σ x1 12) ≤ (w32 (x2 + 1)) then 0 else gI σ (x1 + 2) ((w32 (x2 + 1)).toNat) : Int)), o5]) zi_34_82 rfl rfl <| yI_aload_n zi_34_84 rfl <| yI_gf_f (v := x1 + 2) zi_34_85 (zTr_k h1) rfl <| yI_iload_n zi_34_88 rfl <| yI_ialoadc (v := gI σ (x1 + 2) x2.toNat) zi_34_89 (zTr_a2 h1) rfl <| yI_istore (l := [some (.inr (.inr 66)), some (.inr (.inr x1)), some (.inl x2), some (.inl x3), some (.inl (if (gI σ x1 12) ≤ (w32 (x2 + 1)) then 0 else gI σ (x1 + 2) ((w32 (x2 + 1)).toNat) : Int)), some (.inl (gI σ (x1 + 2) x2.toNat))]) zi_34_90 rfl rfl <| rfl)
theorem zj_34_92 {K : List zF} {σ : zW} {x1 : Nat} {x2 : Int} {x3 : Int} {x4 : Int} {x5 : Int} (hK : K.length < 60) : zEv true ((34, 92, [some (.inr (.inr 66)), some (.inr (.inr x1)), some (.inl x2), some (.inl x3), some (.inl x4), some (.inl x5)], []) :: K) σ = (if x3 = 0 then zEv true ((34, 7, [some (.inr (.inr 66)), some (.inr (.inr x1)), some (.inl (w32 (x2 + 1))), some (.inl x3), some (.inl x4), some (.inl x5)], []) :: K) σ else if x5 ≤ x4 then zEv true ((34, 7, [some (.inr (.inr 66)), some (.inr (.inr x1)), some (.inl (w32 (x2 + 1))), some (.inl x3), some (.inl x4), some (.inl x5)], []) :: K) σ else zEv true (zent 32 [.inr (.inr 66), .inl 41] :: (34, 109, [some (.inr (.inr 66)), some (.inr (.inr x1)), some (.inl x2), some (.inl x3), some (.inl x4), some (.inl x5)], []) :: K) σ) :=
  yI_iload_n zi_34_92 rfl <| yI_if_eq zi_34_93 <| yBr (yI_iinc (l := [some (.inr (.inr 66)), some (.inr (.inr x1)), some (.inl (w32 (x2 + 1))), some (.inl x3), some (.inl x4), some (.inl x5)]) zi_34_115 rfl rfl rfl <| yI_goto zi_34_118 <| rfl) (yI_iload zi_34_96 rfl <| yI_iload zi_34_98 rfl <| yI_ic_le zi_34_100 <| yBr (yI_iinc (l := [some (.inr (.inr 66)), some (.inr (.inr x1)), some (.inl (w32 (x2 + 1))), some (.inl x3), some (.inl x4), some (.inl x5)]) zi_34_115 rfl rfl rfl <| yI_goto zi_34_118 <| rfl) (yI_aload_n zi_34_103 rfl <| yI_bipush zi_34_104 <| yI_cv zi_34_106 rfl rfl zk_66 hK))
theorem zr_34_109 {K : List zF} {σ : zW} {x1 : Nat} {x2 : Int} {x3 : Int} {x4 : Int} {x5 : Int} : zRet true ((34, 109, [some (.inr (.inr 66)), some (.inr (.inr x1)), some (.inl x2), some (.inl x3), some (.inl x4), some (.inl x5)], []) :: K) none σ = (zEv true ((34, 92, [some (.inr (.inr 66)), some (.inr (.inr x1)), some (.inl x2), some (.inl x3), some (.inl x4), some (.inl (w32 (x5 + (-1))))], []) :: K) σ) :=
  yT_rv (yI_iinc (l := [some (.inr (.inr 66)), some (.inr (.inr x1)), some (.inl x2), some (.inl x3), some (.inl x4), some (.inl (w32 (x5 + (-1))))]) zi_34_109 rfl rfl rfl <| yI_goto zi_34_112 <| rfl)
/-- 35 Treegrab$Out.eightFrom(I)J -/
theorem zi_35_0 : zraw 35 0 = some (.lconst 0, 1) ∧ (bif Nat.beq (0 : Fin 2).val 0 then (0 : Int64) else 1) = 0 ∧ 0 + 1 = 1 := by decide +kernel
theorem zi_35_1 : zraw 35 1 = some (.lstore_n 2, 1) ∧ 1 + 1 = 2 := by decide +kernel
theorem zi_35_2 : zraw 35 2 = some (.iload_n 1, 1) ∧ 2 + 1 = 3 := by decide +kernel
theorem zi_35_3 : zraw 35 3 = some (.ifCond .lt 9, 3) ∧ ((3 : Nat) : Int) + 9 = Int.ofNat 12 ∧ 3 + 3 = 6 := by decide +kernel
theorem zi_35_6 : zraw 35 6 = some (.iload_n 1, 1) ∧ 6 + 1 = 7 := by decide +kernel
theorem zi_35_7 : zraw 35 7 = some (.bipush 23, 2) ∧ zin 128 23 = true ∧ 7 + 2 = 9 := by decide +kernel
theorem zi_35_9 : zraw 35 9 = some (.if_icmp .lt 5, 3) ∧ ((9 : Nat) : Int) + 5 = Int.ofNat 14 ∧ 9 + 3 = 12 := by decide +kernel
theorem zi_35_12 : zraw 35 12 = some (.lload_n 2, 1) ∧ 12 + 1 = 13 := by decide +kernel
theorem zi_35_13 : zraw 35 13 = some (.lreturn, 1) ∧ (zinf 35).2.2.2.1 = 3 := by decide +kernel
theorem zi_35_14 : zraw 35 14 = some (.iconst 0, 1) ∧ zin 128 0 = true ∧ 14 + 1 = 15 := by decide +kernel
theorem zi_35_15 : zraw 35 15 = some (.istore 4, 2) ∧ 15 + 2 = 17 := by decide +kernel
theorem zi_35_17 : zraw 35 17 = some (.iload 4, 2) ∧ 17 + 2 = 19 := by decide +kernel
theorem zi_35_19 : zraw 35 19 = some (.bipush 8, 2) ∧ zin 128 8 = true ∧ 19 + 2 = 21 := by decide +kernel
theorem zi_35_21 : zraw 35 21 = some (.if_icmp .ge 45, 3) ∧ ((21 : Nat) : Int) + 45 = Int.ofNat 66 ∧ 21 + 3 = 24 := by decide +kernel
theorem zi_35_24 : zraw 35 24 = some (.bipush 8, 2) ∧ zin 128 8 = true ∧ 24 + 2 = 26 := by decide +kernel
theorem zi_35_26 : zraw 35 26 = some (.iload_n 1, 1) ∧ 26 + 1 = 27 := by decide +kernel
theorem zi_35_27 : zraw 35 27 = some (.imul, 1) ∧ 27 + 1 = 28 := by decide +kernel
theorem zi_35_28 : zraw 35 28 = some (.iload 4, 2) ∧ 28 + 2 = 30 := by decide +kernel
theorem zi_35_30 : zraw 35 30 = some (.iadd, 1) ∧ 30 + 1 = 31 := by decide +kernel
theorem zi_35_31 : zraw 35 31 = some (.aload_n 0, 1) ∧ 31 + 1 = 32 := by decide +kernel
theorem zi_35_32 : zraw 35 32 = some (.getfield 15, 3) ∧ zft (zinf 35).1 15 = some (3, 1, 0, false) ∧ 32 + 3 = 35 := by decide +kernel
theorem zi_35_35 : zraw 35 35 = some (.if_icmp .ge 31, 3) ∧ ((35 : Nat) : Int) + 31 = Int.ofNat 66 ∧ 35 + 3 = 38 := by decide +kernel
theorem zi_35_38 : zraw 35 38 = some (.lload_n 2, 1) ∧ 38 + 1 = 39 := by decide +kernel
theorem zi_35_39 : zraw 35 39 = some (.aload_n 0, 1) ∧ 39 + 1 = 40 := by decide +kernel
theorem zi_35_40 : zraw 35 40 = some (.getfield 9, 3) ∧ zft (zinf 35).1 9 = some (3, 0, 3, true) ∧ 40 + 3 = 43 := by decide +kernel
theorem zi_35_43 : zraw 35 43 = some (.bipush 8, 2) ∧ zin 128 8 = true ∧ 43 + 2 = 45 := by decide +kernel
theorem zi_35_45 : zraw 35 45 = some (.iload_n 1, 1) ∧ 45 + 1 = 46 := by decide +kernel
theorem zi_35_46 : zraw 35 46 = some (.imul, 1) ∧ 46 + 1 = 47 := by decide +kernel
theorem zi_35_47 : zraw 35 47 = some (.iload 4, 2) ∧ 47 + 2 = 49 := by decide +kernel
theorem zi_35_49 : zraw 35 49 = some (.iadd, 1) ∧ 49 + 1 = 50 := by decide +kernel
theorem zi_35_50 : zraw 35 50 = some (.iaload, 1) ∧ 50 + 1 = 51 := by decide +kernel
theorem zi_35_51 : zraw 35 51 = some (.i2l, 1) ∧ 51 + 1 = 52 := by decide +kernel
theorem zi_35_52 : zraw 35 52 = some (.bipush 8, 2) ∧ zin 128 8 = true ∧ 52 + 2 = 54 := by decide +kernel
theorem zi_35_54 : zraw 35 54 = some (.iload 4, 2) ∧ 54 + 2 = 56 := by decide +kernel
theorem zi_35_56 : zraw 35 56 = some (.imul, 1) ∧ 56 + 1 = 57 := by decide +kernel
theorem zi_35_57 : zraw 35 57 = some (.lshl, 1) ∧ 57 + 1 = 58 := by decide +kernel
theorem zi_35_58 : zraw 35 58 = some (.lor, 1) ∧ 58 + 1 = 59 := by decide +kernel
theorem zi_35_59 : zraw 35 59 = some (.lstore_n 2, 1) ∧ 59 + 1 = 60 := by decide +kernel
theorem zi_35_60 : zraw 35 60 = some (.iinc 4 1, 3) ∧ zin 32768 1 = true ∧ 60 + 3 = 63 := by decide +kernel
theorem zi_35_63 : zraw 35 63 = some (.goto (-46), 3) ∧ ((63 : Nat) : Int) + (-46) = Int.ofNat 17 := by decide +kernel
theorem zi_35_66 : zraw 35 66 = some (.lload_n 2, 1) ∧ 66 + 1 = 67 := by decide +kernel
theorem zi_35_67 : zraw 35 67 = some (.lreturn, 1) ∧ (zinf 35).2.2.2.1 = 3 := by decide +kernel
theorem ze_35 {K : List zF} {σ : zW} {x1 : Int} : zEv true (zent 35 [.inr (.inr 66), .inl x1] :: K) σ = (if x1 < 0 then zRet true K (some (.inr (.inl 0))) σ else if x1 < 23 then zEv true ((35, 17, [some (.inr (.inr 66)), some (.inl x1), some (.inr (.inl 0)), none, some (.inl 0)], []) :: K) σ else zRet true K (some (.inr (.inl 0))) σ) :=
  yT_en (f := (35, 0, [some (.inr (.inr 66)), some (.inl x1), none, none, none], [])) rfl (yI_lconst zi_35_0 <| yI_lstore_n (l := [some (.inr (.inr 66)), some (.inl x1), some (.inr (.inl 0)), none, none]) zi_35_1 rfl rfl <| yI_iload_n zi_35_2 rfl <| yI_if_lt zi_35_3 <| yBr (yI_lload_n zi_35_12 rfl <| yI_lreturn zi_35_13) (yI_iload_n zi_35_6 rfl <| yI_bipush zi_35_7 <| yI_ic_lt zi_35_9 <| yBr (yI_iconst zi_35_14 <| yI_istore (l := [some (.inr (.inr 66)), some (.inl x1), some (.inr (.inl 0)), none, some (.inl 0)]) zi_35_15 rfl rfl <| rfl) (yI_lload_n zi_35_12 rfl <| yI_lreturn zi_35_13)))
theorem zj_35_17 {K : List zF} {σ : zW} {x1 : Int} {x2 : Int64} {x4 : Int} : zEv true ((35, 17, [some (.inr (.inr 66)), some (.inl x1), some (.inr (.inl x2)), none, some (.inl x4)], []) :: K) σ = (if 8 ≤ x4 then zRet true K (some (.inr (.inl x2))) σ else if (gI σ 66 1) ≤ (w32 ((w32 (8 * x1)) + x4)) then zRet true K (some (.inr (.inl x2))) σ else (0 ≤ (w32 ((w32 (8 * x1)) + x4)) ∧ (w32 ((w32 (8 * x1)) + x4)) < 184) ∧ zEv true ((35, 17, [some (.inr (.inr 66)), some (.inl x1), some (.inr (.inl (x2 ||| (zlshl (zi2l (gI σ 67 ((w32 ((w32 (8 * x1)) + x4)).toNat))) (w32 (8 * x4)))))), none, some (.inl (w32 (x4 + 1)))], []) :: K) σ) :=
  yI_iload zi_35_17 rfl <| yI_bipush zi_35_19 <| yI_ic_ge zi_35_21 <| yBr (yI_lload_n zi_35_66 rfl <| yI_lreturn zi_35_67) (yI_bipush zi_35_24 <| yI_iload_n zi_35_26 rfl <| yI_imul zi_35_27 <| yI_iload zi_35_28 rfl <| yI_iadd zi_35_30 <| yI_aload_n zi_35_31 rfl <| yI_gf_i (v := gI σ 66 1) zi_35_32 zk_66 rfl <| yI_ic_ge zi_35_35 <| yBr (yI_lload_n zi_35_66 rfl <| yI_lreturn zi_35_67) (yI_lload_n zi_35_38 rfl <| yI_aload_n zi_35_39 rfl <| yI_gf_f (v := 67) zi_35_40 zk_66 rfl <| yI_bipush zi_35_43 <| yI_iload_n zi_35_45 rfl <| yI_imul zi_35_46 <| yI_iload zi_35_47 rfl <| yI_iadd zi_35_49 <| yI_ialoadc (v := gI σ 67 ((w32 ((w32 (8 * x1)) + x4)).toNat)) zi_35_50 za_67 rfl <| yI_i2l zi_35_51 <| yI_bipush zi_35_52 <| yI_iload zi_35_54 rfl <| yI_imul zi_35_56 <| yI_lshl zi_35_57 <| yI_lor zi_35_58 <| yI_lstore_n (l := [some (.inr (.inr 66)), some (.inl x1), some (.inr (.inl (x2 ||| (zlshl (zi2l (gI σ 67 ((w32 ((w32 (8 * x1)) + x4)).toNat))) (w32 (8 * x4)))))), none, some (.inl x4)]) zi_35_59 rfl rfl <| yI_iinc (l := [some (.inr (.inr 66)), some (.inl x1), some (.inr (.inl (x2 ||| (zlshl (zi2l (gI σ 67 ((w32 ((w32 (8 * x1)) + x4)).toNat))) (w32 (8 * x4)))))), none, some (.inl (w32 (x4 + 1)))]) zi_35_60 rfl rfl rfl <| yI_goto zi_35_63 <| rfl))
/-- 37 Treegrab$Pattern.read(LTreegrab$Tape;)Z -/
theorem zi_37_0 : zraw 37 0 = some (.aload_n 1, 1) ∧ 0 + 1 = 1 := by decide +kernel
theorem zi_37_1 : zraw 37 1 = some (.invokevirtual 56, 3) ∧ zmt (zinf 37).1 56 = some 83 ∧ Nat.ble 9000 83 = false ∧ zinf 83 = (7, 1, 1, 0, 0) ∧ 1 + 3 = 4 := by decide +kernel
theorem zi_37_4 : zraw 37 4 = some (.aload_n 0, 1) ∧ 4 + 1 = 5 := by decide +kernel
theorem zi_37_5 : zraw 37 5 = some (.invokevirtual 61, 3) ∧ zmt (zinf 37).1 61 = some 38 ∧ Nat.ble 9000 38 = false ∧ zinf 38 = (4, 1, 2, 0, 0) ∧ 5 + 3 = 8 := by decide +kernel
theorem zi_37_8 : zraw 37 8 = some (.aload_n 0, 1) ∧ 8 + 1 = 9 := by decide +kernel
theorem zi_37_9 : zraw 37 9 = some (.aload_n 1, 1) ∧ 9 + 1 = 10 := by decide +kernel
theorem zi_37_10 : zraw 37 10 = some (.iconst (-1), 1) ∧ zin 128 (-1) = true ∧ 10 + 1 = 11 := by decide +kernel
theorem zi_37_11 : zraw 37 11 = some (.iconst 0, 1) ∧ zin 128 0 = true ∧ 11 + 1 = 12 := by decide +kernel
theorem zi_37_12 : zraw 37 12 = some (.iconst 0, 1) ∧ zin 128 0 = true ∧ 12 + 1 = 13 := by decide +kernel
theorem zi_37_13 : zraw 37 13 = some (.invokevirtual 64, 3) ∧ zmt (zinf 37).1 64 = some 47 ∧ Nat.ble 9000 47 = false ∧ zinf 47 = (4, 5, 9, 2, 0) ∧ 13 + 3 = 16 := by decide +kernel
theorem zi_37_16 : zraw 37 16 = some (.ifCond .ne 5, 3) ∧ ((16 : Nat) : Int) + 5 = Int.ofNat 21 ∧ 16 + 3 = 19 := by decide +kernel
theorem zi_37_19 : zraw 37 19 = some (.iconst 0, 1) ∧ zin 128 0 = true ∧ 19 + 1 = 20 := by decide +kernel
theorem zi_37_20 : zraw 37 20 = some (.ireturn, 1) ∧ (zinf 37).2.2.2.1 = 2 := by decide +kernel
theorem zi_37_21 : zraw 37 21 = some (.iconst 0, 1) ∧ zin 128 0 = true ∧ 21 + 1 = 22 := by decide +kernel
theorem zi_37_22 : zraw 37 22 = some (.istore_n 2, 1) ∧ 22 + 1 = 23 := by decide +kernel
theorem zi_37_23 : zraw 37 23 = some (.iconst 0, 1) ∧ zin 128 0 = true ∧ 23 + 1 = 24 := by decide +kernel
theorem zi_37_24 : zraw 37 24 = some (.istore_n 3, 1) ∧ 24 + 1 = 25 := by decide +kernel
theorem zi_37_25 : zraw 37 25 = some (.iconst 0, 1) ∧ zin 128 0 = true ∧ 25 + 1 = 26 := by decide +kernel
theorem zi_37_26 : zraw 37 26 = some (.istore 4, 2) ∧ 26 + 2 = 28 := by decide +kernel
theorem zi_37_28 : zraw 37 28 = some (.iload 4, 2) ∧ 28 + 2 = 30 := by decide +kernel
theorem zi_37_30 : zraw 37 30 = some (.sipush 600, 3) ∧ zin 32768 600 = true ∧ 30 + 3 = 33 := by decide +kernel
theorem zi_37_33 : zraw 37 33 = some (.if_icmp .gt 180, 3) ∧ ((33 : Nat) : Int) + 180 = Int.ofNat 213 ∧ 33 + 3 = 36 := by decide +kernel
theorem zi_37_36 : zraw 37 36 = some (.aload_n 1, 1) ∧ 36 + 1 = 37 := by decide +kernel
theorem zi_37_37 : zraw 37 37 = some (.invokevirtual 68, 3) ∧ zmt (zinf 37).1 68 = some 85 ∧ Nat.ble 9000 85 = false ∧ zinf 85 = (7, 1, 1, 1, 0) ∧ 37 + 3 = 40 := by decide +kernel
theorem zi_37_40 : zraw 37 40 = some (.istore 5, 2) ∧ 40 + 2 = 42 := by decide +kernel
theorem zi_37_42 : zraw 37 42 = some (.iload_n 3, 1) ∧ 42 + 1 = 43 := by decide +kernel
theorem zi_37_43 : zraw 37 43 = some (.ifCond .ne 15, 3) ∧ ((43 : Nat) : Int) + 15 = Int.ofNat 58 ∧ 43 + 3 = 46 := by decide +kernel
theorem zi_37_46 : zraw 37 46 = some (.iload 5, 2) ∧ 46 + 2 = 48 := by decide +kernel
theorem zi_37_48 : zraw 37 48 = some (.iconst (-1), 1) ∧ zin 128 (-1) = true ∧ 48 + 1 = 49 := by decide +kernel
theorem zi_37_49 : zraw 37 49 = some (.if_icmp .ne 9, 3) ∧ ((49 : Nat) : Int) + 9 = Int.ofNat 58 ∧ 49 + 3 = 52 := by decide +kernel
theorem zi_37_52 : zraw 37 52 = some (.aload_n 0, 1) ∧ 52 + 1 = 53 := by decide +kernel
theorem zi_37_53 : zraw 37 53 = some (.invokevirtual 72, 3) ∧ zmt (zinf 37).1 72 = some 39 ∧ Nat.ble 9000 39 = false ∧ zinf 39 = (4, 1, 2, 0, 0) ∧ 53 + 3 = 56 := by decide +kernel
theorem zi_37_56 : zraw 37 56 = some (.iconst 1, 1) ∧ zin 128 1 = true ∧ 56 + 1 = 57 := by decide +kernel
theorem zi_37_57 : zraw 37 57 = some (.ireturn, 1) ∧ (zinf 37).2.2.2.1 = 2 := by decide +kernel
theorem zi_37_58 : zraw 37 58 = some (.iload_n 3, 1) ∧ 58 + 1 = 59 := by decide +kernel
theorem zi_37_59 : zraw 37 59 = some (.ifCond .le 33, 3) ∧ ((59 : Nat) : Int) + 33 = Int.ofNat 92 ∧ 59 + 3 = 62 := by decide +kernel
theorem zi_37_62 : zraw 37 62 = some (.iload 5, 2) ∧ 62 + 2 = 64 := by decide +kernel
theorem zi_37_64 : zraw 37 64 = some (.bipush 41, 2) ∧ zin 128 41 = true ∧ 64 + 2 = 66 := by decide +kernel
theorem zi_37_66 : zraw 37 66 = some (.if_icmp .ne 26, 3) ∧ ((66 : Nat) : Int) + 26 = Int.ofNat 92 ∧ 66 + 3 = 69 := by decide +kernel
theorem zi_37_69 : zraw 37 69 = some (.aload_n 1, 1) ∧ 69 + 1 = 70 := by decide +kernel
theorem zi_37_70 : zraw 37 70 = some (.dup, 1) ∧ 70 + 1 = 71 := by decide +kernel
theorem zi_37_71 : zraw 37 71 = some (.getfield 75, 3) ∧ zft (zinf 37).1 75 = some (7, 2, 0, false) ∧ 71 + 3 = 74 := by decide +kernel
theorem zi_37_74 : zraw 37 74 = some (.iconst 1, 1) ∧ zin 128 1 = true ∧ 74 + 1 = 75 := by decide +kernel
theorem zi_37_75 : zraw 37 75 = some (.iadd, 1) ∧ 75 + 1 = 76 := by decide +kernel
theorem zi_37_76 : zraw 37 76 = some (.putfield 75, 3) ∧ zft (zinf 37).1 75 = some (7, 2, 0, false) ∧ 76 + 3 = 79 := by decide +kernel
theorem zi_37_79 : zraw 37 79 = some (.iinc 3 (-1), 3) ∧ zin 32768 (-1) = true ∧ 79 + 3 = 82 := by decide +kernel
theorem zi_37_82 : zraw 37 82 = some (.aload_n 0, 1) ∧ 82 + 1 = 83 := by decide +kernel
theorem zi_37_83 : zraw 37 83 = some (.getfield 18, 3) ∧ zft (zinf 37).1 18 = some (4, 2, 3, true) ∧ 83 + 3 = 86 := by decide +kernel
theorem zi_37_86 : zraw 37 86 = some (.iload_n 2, 1) ∧ 86 + 1 = 87 := by decide +kernel
theorem zi_37_87 : zraw 37 87 = some (.iaload, 1) ∧ 87 + 1 = 88 := by decide +kernel
theorem zi_37_88 : zraw 37 88 = some (.istore_n 2, 1) ∧ 88 + 1 = 89 := by decide +kernel
theorem zi_37_89 : zraw 37 89 = some (.goto 118, 3) ∧ ((89 : Nat) : Int) + 118 = Int.ofNat 207 := by decide +kernel
theorem zi_37_92 : zraw 37 92 = some (.aload_n 0, 1) ∧ 92 + 1 = 93 := by decide +kernel
theorem zi_37_93 : zraw 37 93 = some (.aload_n 1, 1) ∧ 93 + 1 = 94 := by decide +kernel
theorem zi_37_94 : zraw 37 94 = some (.iload_n 2, 1) ∧ 94 + 1 = 95 := by decide +kernel
theorem zi_37_95 : zraw 37 95 = some (.invokevirtual 79, 3) ∧ zmt (zinf 37).1 79 = some 43 ∧ Nat.ble 9000 43 = false ∧ zinf 43 = (4, 3, 4, 1, 0) ∧ 95 + 3 = 98 := by decide +kernel
theorem zi_37_98 : zraw 37 98 = some (.istore 6, 2) ∧ 98 + 2 = 100 := by decide +kernel
theorem zi_37_100 : zraw 37 100 = some (.iload 6, 2) ∧ 100 + 2 = 102 := by decide +kernel
theorem zi_37_102 : zraw 37 102 = some (.iconst (-1), 1) ∧ zin 128 (-1) = true ∧ 102 + 1 = 103 := by decide +kernel
theorem zi_37_103 : zraw 37 103 = some (.if_icmp .ne 7, 3) ∧ ((103 : Nat) : Int) + 7 = Int.ofNat 110 ∧ 103 + 3 = 106 := by decide +kernel
theorem zi_37_106 : zraw 37 106 = some (.iconst (-1), 1) ∧ zin 128 (-1) = true ∧ 106 + 1 = 107 := by decide +kernel
theorem zi_37_107 : zraw 37 107 = some (.goto 7, 3) ∧ ((107 : Nat) : Int) + 7 = Int.ofNat 114 := by decide +kernel
theorem zi_37_110 : zraw 37 110 = some (.aload_n 1, 1) ∧ 110 + 1 = 111 := by decide +kernel
theorem zi_37_111 : zraw 37 111 = some (.invokestatic 83, 3) ∧ zmt (zinf 37).1 83 = some 44 ∧ Nat.ble 9000 44 = false ∧ zinf 44 = (4, 1, 4, 1, 1) ∧ 111 + 3 = 114 := by decide +kernel
theorem zi_37_114 : zraw 37 114 = some (.istore 7, 2) ∧ 114 + 2 = 116 := by decide +kernel
theorem zi_37_116 : zraw 37 116 = some (.iload 7, 2) ∧ 116 + 2 = 118 := by decide +kernel
theorem zi_37_118 : zraw 37 118 = some (.iconst (-1), 1) ∧ zin 128 (-1) = true ∧ 118 + 1 = 119 := by decide +kernel
theorem zi_37_119 : zraw 37 119 = some (.if_icmp .eq 16, 3) ∧ ((119 : Nat) : Int) + 16 = Int.ofNat 135 ∧ 119 + 3 = 122 := by decide +kernel
theorem zi_37_122 : zraw 37 122 = some (.aload_n 1, 1) ∧ 122 + 1 = 123 := by decide +kernel
theorem zi_37_123 : zraw 37 123 = some (.invokevirtual 68, 3) ∧ zmt (zinf 37).1 68 = some 85 ∧ Nat.ble 9000 85 = false ∧ zinf 85 = (7, 1, 1, 1, 0) ∧ 123 + 3 = 126 := by decide +kernel
theorem zi_37_126 : zraw 37 126 = some (.bipush 40, 2) ∧ zin 128 40 = true ∧ 126 + 2 = 128 := by decide +kernel
theorem zi_37_128 : zraw 37 128 = some (.if_icmp .ne 7, 3) ∧ ((128 : Nat) : Int) + 7 = Int.ofNat 135 ∧ 128 + 3 = 131 := by decide +kernel
theorem zi_37_131 : zraw 37 131 = some (.iconst 1, 1) ∧ zin 128 1 = true ∧ 131 + 1 = 132 := by decide +kernel
theorem zi_37_132 : zraw 37 132 = some (.goto 4, 3) ∧ ((132 : Nat) : Int) + 4 = Int.ofNat 136 := by decide +kernel
theorem zi_37_135 : zraw 37 135 = some (.iconst 0, 1) ∧ zin 128 0 = true ∧ 135 + 1 = 136 := by decide +kernel
theorem zi_37_136 : zraw 37 136 = some (.istore 8, 2) ∧ 136 + 2 = 138 := by decide +kernel
theorem zi_37_138 : zraw 37 138 = some (.aload_n 1, 1) ∧ 138 + 1 = 139 := by decide +kernel
theorem zi_37_139 : zraw 37 139 = some (.dup, 1) ∧ 139 + 1 = 140 := by decide +kernel
theorem zi_37_140 : zraw 37 140 = some (.getfield 75, 3) ∧ zft (zinf 37).1 75 = some (7, 2, 0, false) ∧ 140 + 3 = 143 := by decide +kernel
theorem zi_37_143 : zraw 37 143 = some (.iload 8, 2) ∧ 143 + 2 = 145 := by decide +kernel
theorem zi_37_145 : zraw 37 145 = some (.ifCond .eq 7, 3) ∧ ((145 : Nat) : Int) + 7 = Int.ofNat 152 ∧ 145 + 3 = 148 := by decide +kernel
theorem zi_37_148 : zraw 37 148 = some (.iconst 1, 1) ∧ zin 128 1 = true ∧ 148 + 1 = 149 := by decide +kernel
theorem zi_37_149 : zraw 37 149 = some (.goto 4, 3) ∧ ((149 : Nat) : Int) + 4 = Int.ofNat 153 := by decide +kernel
theorem zi_37_152 : zraw 37 152 = some (.iconst 0, 1) ∧ zin 128 0 = true ∧ 152 + 1 = 153 := by decide +kernel
theorem zi_37_153 : zraw 37 153 = some (.iadd, 1) ∧ 153 + 1 = 154 := by decide +kernel
theorem zi_37_154 : zraw 37 154 = some (.putfield 75, 3) ∧ zft (zinf 37).1 75 = some (7, 2, 0, false) ∧ 154 + 3 = 157 := by decide +kernel
theorem zi_37_157 : zraw 37 157 = some (.iload 7, 2) ∧ 157 + 2 = 159 := by decide +kernel
theorem zi_37_159 : zraw 37 159 = some (.iconst (-1), 1) ∧ zin 128 (-1) = true ∧ 159 + 1 = 160 := by decide +kernel
theorem zi_37_160 : zraw 37 160 = some (.if_icmp .eq 16, 3) ∧ ((160 : Nat) : Int) + 16 = Int.ofNat 176 ∧ 160 + 3 = 163 := by decide +kernel
theorem zi_37_163 : zraw 37 163 = some (.aload_n 0, 1) ∧ 163 + 1 = 164 := by decide +kernel
theorem zi_37_164 : zraw 37 164 = some (.aload_n 1, 1) ∧ 164 + 1 = 165 := by decide +kernel
theorem zi_37_165 : zraw 37 165 = some (.iload_n 2, 1) ∧ 165 + 1 = 166 := by decide +kernel
theorem zi_37_166 : zraw 37 166 = some (.iload 6, 2) ∧ 166 + 2 = 168 := by decide +kernel
theorem zi_37_168 : zraw 37 168 = some (.iload 7, 2) ∧ 168 + 2 = 170 := by decide +kernel
theorem zi_37_170 : zraw 37 170 = some (.invokevirtual 64, 3) ∧ zmt (zinf 37).1 64 = some 47 ∧ Nat.ble 9000 47 = false ∧ zinf 47 = (4, 5, 9, 2, 0) ∧ 170 + 3 = 173 := by decide +kernel
theorem zi_37_173 : zraw 37 173 = some (.ifCond .ne 5, 3) ∧ ((173 : Nat) : Int) + 5 = Int.ofNat 178 ∧ 173 + 3 = 176 := by decide +kernel
theorem zi_37_176 : zraw 37 176 = some (.iconst 0, 1) ∧ zin 128 0 = true ∧ 176 + 1 = 177 := by decide +kernel
theorem zi_37_177 : zraw 37 177 = some (.ireturn, 1) ∧ (zinf 37).2.2.2.1 = 2 := by decide +kernel
theorem zi_37_178 : zraw 37 178 = some (.iload 8, 2) ∧ 178 + 2 = 180 := by decide +kernel
theorem zi_37_180 : zraw 37 180 = some (.ifCond .eq 12, 3) ∧ ((180 : Nat) : Int) + 12 = Int.ofNat 192 ∧ 180 + 3 = 183 := by decide +kernel
theorem zi_37_183 : zraw 37 183 = some (.aload_n 0, 1) ∧ 183 + 1 = 184 := by decide +kernel
theorem zi_37_184 : zraw 37 184 = some (.getfield 87, 3) ∧ zft (zinf 37).1 87 = some (4, 15, 0, false) ∧ 184 + 3 = 187 := by decide +kernel
theorem zi_37_187 : zraw 37 187 = some (.iconst 1, 1) ∧ zin 128 1 = true ∧ 187 + 1 = 188 := by decide +kernel
theorem zi_37_188 : zraw 37 188 = some (.isub, 1) ∧ 188 + 1 = 189 := by decide +kernel
theorem zi_37_189 : zraw 37 189 = some (.goto 4, 3) ∧ ((189 : Nat) : Int) + 4 = Int.ofNat 193 := by decide +kernel
theorem zi_37_192 : zraw 37 192 = some (.iload_n 2, 1) ∧ 192 + 1 = 193 := by decide +kernel
theorem zi_37_193 : zraw 37 193 = some (.istore_n 2, 1) ∧ 193 + 1 = 194 := by decide +kernel
theorem zi_37_194 : zraw 37 194 = some (.iload_n 3, 1) ∧ 194 + 1 = 195 := by decide +kernel
theorem zi_37_195 : zraw 37 195 = some (.iload 8, 2) ∧ 195 + 2 = 197 := by decide +kernel
theorem zi_37_197 : zraw 37 197 = some (.ifCond .eq 7, 3) ∧ ((197 : Nat) : Int) + 7 = Int.ofNat 204 ∧ 197 + 3 = 200 := by decide +kernel
theorem zi_37_200 : zraw 37 200 = some (.iconst 1, 1) ∧ zin 128 1 = true ∧ 200 + 1 = 201 := by decide +kernel
theorem zi_37_201 : zraw 37 201 = some (.goto 4, 3) ∧ ((201 : Nat) : Int) + 4 = Int.ofNat 205 := by decide +kernel
theorem zi_37_204 : zraw 37 204 = some (.iconst 0, 1) ∧ zin 128 0 = true ∧ 204 + 1 = 205 := by decide +kernel
theorem zi_37_205 : zraw 37 205 = some (.iadd, 1) ∧ 205 + 1 = 206 := by decide +kernel
theorem zi_37_206 : zraw 37 206 = some (.istore_n 3, 1) ∧ 206 + 1 = 207 := by decide +kernel
theorem zi_37_207 : zraw 37 207 = some (.iinc 4 1, 3) ∧ zin 32768 1 = true ∧ 207 + 3 = 210 := by decide +kernel
theorem zi_37_210 : zraw 37 210 = some (.goto (-182), 3) ∧ ((210 : Nat) : Int) + (-182) = Int.ofNat 28 := by decide +kernel
theorem zi_37_213 : zraw 37 213 = some (.iconst 0, 1) ∧ zin 128 0 = true ∧ 213 + 1 = 214 := by decide +kernel
theorem zi_37_214 : zraw 37 214 = some (.ireturn, 1) ∧ (zinf 37).2.2.2.1 = 2 := by decide +kernel
theorem ze_37 {K : List zF} {σ : zW} {t : Nat} (hK : K.length < 60) : zEv true (zent 37 [.inr (.inr t), .inr (.inr 2)] :: K) σ = (zEv true (zent 83 [.inr (.inr 2)] :: (37, 4, [some (.inr (.inr t)), some (.inr (.inr 2)), none, none, none, none, none, none, none], []) :: K) σ) :=
  yT_en (f := (37, 0, [some (.inr (.inr t)), some (.inr (.inr 2)), none, none, none, none, none, none, none], [])) rfl (yI_aload_n zi_37_0 rfl <| yI_cv zi_37_1 rfl rfl zk_2 hK)
theorem zr_37_4 {K : List zF} {σ : zW} {x0 : Nat} {o2 : Option zV} {o3 : Option zV} {o4 : Option zV} {o5 : Option zV} {o6 : Option zV} {o7 : Option zV} {o8 : Option zV} (hK : K.length < 60) (h1 : zPn x0) : zRet true ((37, 4, [some (.inr (.inr x0)), some (.inr (.inr 2)), o2, o3, o4, o5, o6, o7, o8], []) :: K) none σ = (zEv true (zent 38 [.inr (.inr x0)] :: (37, 8, [some (.inr (.inr x0)), some (.inr (.inr 2)), o2, o3, o4, o5, o6, o7, o8], []) :: K) σ) :=
  yT_rv (yI_aload_n zi_37_4 rfl <| yI_cv zi_37_5 rfl rfl (zPn_k h1) hK)
theorem zr_37_8 {K : List zF} {σ : zW} {x0 : Nat} {o2 : Option zV} {o3 : Option zV} {o4 : Option zV} {o5 : Option zV} {o6 : Option zV} {o7 : Option zV} {o8 : Option zV} (hK : K.length < 60) (h1 : zPn x0) : zRet true ((37, 8, [some (.inr (.inr x0)), some (.inr (.inr 2)), o2, o3, o4, o5, o6, o7, o8], []) :: K) none σ = (zEv true (zent 47 [.inr (.inr x0), .inr (.inr 2), .inl (-1), .inl 0, .inl 0] :: (37, 16, [some (.inr (.inr x0)), some (.inr (.inr 2)), o2, o3, o4, o5, o6, o7, o8], []) :: K) σ) :=
  yT_rv (yI_aload_n zi_37_8 rfl <| yI_aload_n zi_37_9 rfl <| yI_iconst zi_37_10 <| yI_iconst zi_37_11 <| yI_iconst zi_37_12 <| yI_cv zi_37_13 rfl rfl (zPn_k h1) hK)
theorem zr_37_16 {K : List zF} {σ : zW} {x0 : Nat} {o2 : Option zV} {o3 : Option zV} {o4 : Option zV} {o5 : Option zV} {o6 : Option zV} {o7 : Option zV} {o8 : Option zV} {v : Int} : zRet true ((37, 16, [some (.inr (.inr x0)), some (.inr (.inr 2)), o2, o3, o4, o5, o6, o7, o8], []) :: K) (some (.inl v)) σ = (if ¬ v = 0 then zEv true ((37, 28, [some (.inr (.inr x0)), some (.inr (.inr 2)), some (.inl 0), some (.inl 0), some (.inl 0), o5, o6, o7, o8], []) :: K) σ else zRet true K (some (.inl 0)) σ) :=
  yT_rt (yI_if_ne zi_37_16 <| yBr (yI_iconst zi_37_21 <| yI_istore_n (l := [some (.inr (.inr x0)), some (.inr (.inr 2)), some (.inl 0), o3, o4, o5, o6, o7, o8]) zi_37_22 rfl rfl <| yI_iconst zi_37_23 <| yI_istore_n (l := [some (.inr (.inr x0)), some (.inr (.inr 2)), some (.inl 0), some (.inl 0), o4, o5, o6, o7, o8]) zi_37_24 rfl rfl <| yI_iconst zi_37_25 <| yI_istore (l := [some (.inr (.inr x0)), some (.inr (.inr 2)), some (.inl 0), some (.inl 0), some (.inl 0), o5, o6, o7, o8]) zi_37_26 rfl rfl <| rfl) (yI_iconst zi_37_19 <| yI_zreturn zi_37_20 (by decide)))
theorem zj_37_28 {K : List zF} {σ : zW} {x0 : Nat} {x2 : Int} {x3 : Int} {x4 : Int} {o5 : Option zV} {o6 : Option zV} {o7 : Option zV} {o8 : Option zV} (hK : K.length < 60) : zEv true ((37, 28, [some (.inr (.inr x0)), some (.inr (.inr 2)), some (.inl x2), some (.inl x3), some (.inl x4), o5, o6, o7, o8], []) :: K) σ = (if 600 < x4 then zRet true K (some (.inl 0)) σ else zEv true (zent 85 [.inr (.inr 2)] :: (37, 40, [some (.inr (.inr x0)), some (.inr (.inr 2)), some (.inl x2), some (.inl x3), some (.inl x4), o5, o6, o7, o8], []) :: K) σ) :=
  yI_iload zi_37_28 rfl <| yI_sipush zi_37_30 <| yI_ic_gt zi_37_33 <| yBr (yI_iconst zi_37_213 <| yI_zreturn zi_37_214 (by decide)) (yI_aload_n zi_37_36 rfl <| yI_cv zi_37_37 rfl rfl zk_2 hK)
theorem zr_37_40 {K : List zF} {σ : zW} {x0 : Nat} {x2 : Int} {x3 : Int} {x4 : Int} {o5 : Option zV} {o6 : Option zV} {o7 : Option zV} {o8 : Option zV} {v : Int} (hK : K.length < 60) (h1 : zPn x0) : zRet true ((37, 40, [some (.inr (.inr x0)), some (.inr (.inr 2)), some (.inl x2), some (.inl x3), some (.inl x4), o5, o6, o7, o8], []) :: K) (some (.inl v)) σ = (if ¬ x3 = 0 then zEv true ((37, 58, [some (.inr (.inr x0)), some (.inr (.inr 2)), some (.inl x2), some (.inl x3), some (.inl x4), some (.inl v), o6, o7, o8], []) :: K) σ else if ¬ v = (-1) then zEv true ((37, 58, [some (.inr (.inr x0)), some (.inr (.inr 2)), some (.inl x2), some (.inl x3), some (.inl x4), some (.inl v), o6, o7, o8], []) :: K) σ else zEv true (zent 39 [.inr (.inr x0)] :: (37, 56, [some (.inr (.inr x0)), some (.inr (.inr 2)), some (.inl x2), some (.inl x3), some (.inl x4), some (.inl v), o6, o7, o8], []) :: K) σ) :=
  yT_rt (yI_istore (l := [some (.inr (.inr x0)), some (.inr (.inr 2)), some (.inl x2), some (.inl x3), some (.inl x4), some (.inl v), o6, o7, o8]) zi_37_40 rfl rfl <| yI_iload_n zi_37_42 rfl <| yI_if_ne zi_37_43 <| yBr (rfl) (yI_iload zi_37_46 rfl <| yI_iconst zi_37_48 <| yI_ic_ne zi_37_49 <| yBr (rfl) (yI_aload_n zi_37_52 rfl <| yI_cv zi_37_53 rfl rfl (zPn_k h1) hK)))
theorem zj_37_58 {K : List zF} {σ : zW} {x0 : Nat} {x2 : Int} {x3 : Int} {x4 : Int} {x5 : Int} {o6 : Option zV} {o7 : Option zV} {o8 : Option zV} (h1 : zPn x0) : zEv true ((37, 58, [some (.inr (.inr x0)), some (.inr (.inr 2)), some (.inl x2), some (.inl x3), some (.inl x4), some (.inl x5), o6, o7, o8], []) :: K) σ = (if x3 ≤ 0 then zEv true ((37, 92, [some (.inr (.inr x0)), some (.inr (.inr 2)), some (.inl x2), some (.inl x3), some (.inl x4), some (.inl x5), o6, o7, o8], []) :: K) σ else if ¬ x5 = 41 then zEv true ((37, 92, [some (.inr (.inr x0)), some (.inr (.inr 2)), some (.inl x2), some (.inl x3), some (.inl x4), some (.inl x5), o6, o7, o8], []) :: K) σ else (0 ≤ x2 ∧ x2 < 8) ∧ zEv true ((37, 28, [some (.inr (.inr x0)), some (.inr (.inr 2)), some (.inl (gI (sI σ 2 2 (w32 ((gI σ 2 2) + 1))) (x0 + 3) x2.toNat)), some (.inl (w32 (x3 + (-1)))), some (.inl (w32 (x4 + 1))), some (.inl x5), o6, o7, o8], []) :: K) (sI σ 2 2 (w32 ((gI σ 2 2) + 1)))) :=
  yI_iload_n zi_37_58 rfl <| yI_if_le zi_37_59 <| yBr (rfl) (yI_iload zi_37_62 rfl <| yI_bipush zi_37_64 <| yI_ic_ne zi_37_66 <| yBr (rfl) (yI_aload_n zi_37_69 rfl <| yI_dup_r zi_37_70 <| yI_gf_i (v := gI σ 2 2) zi_37_71 zk_2 rfl <| yI_iconst zi_37_74 <| yI_iadd zi_37_75 <| yI_pf_i zi_37_76 zk_2 <| yI_iinc (l := [some (.inr (.inr x0)), some (.inr (.inr 2)), some (.inl x2), some (.inl (w32 (x3 + (-1)))), some (.inl x4), some (.inl x5), o6, o7, o8]) zi_37_79 rfl rfl rfl <| yI_aload_n zi_37_82 rfl <| yI_gf_f (v := x0 + 3) zi_37_83 (zPn_k h1) rfl <| yI_iload_n zi_37_86 rfl <| yI_ialoadc (v := gI (sI σ 2 2 (w32 ((gI σ 2 2) + 1))) (x0 + 3) x2.toNat) zi_37_87 (zPn_a3 h1) rfl <| yI_istore_n (l := [some (.inr (.inr x0)), some (.inr (.inr 2)), some (.inl (gI (sI σ 2 2 (w32 ((gI σ 2 2) + 1))) (x0 + 3) x2.toNat)), some (.inl (w32 (x3 + (-1)))), some (.inl x4), some (.inl x5), o6, o7, o8]) zi_37_88 rfl rfl <| yI_goto zi_37_89 <| yI_iinc (l := [some (.inr (.inr x0)), some (.inr (.inr 2)), some (.inl (gI (sI σ 2 2 (w32 ((gI σ 2 2) + 1))) (x0 + 3) x2.toNat)), some (.inl (w32 (x3 + (-1)))), some (.inl (w32 (x4 + 1))), some (.inl x5), o6, o7, o8]) zi_37_207 rfl rfl rfl <| yI_goto zi_37_210 <| rfl))
theorem zr_37_56 {K : List zF} {σ : zW} {o0 : Option zV} {o1 : Option zV} {o2 : Option zV} {o3 : Option zV} {o4 : Option zV} {o5 : Option zV} {o6 : Option zV} {o7 : Option zV} {o8 : Option zV} : zRet true ((37, 56, [o0, o1, o2, o3, o4, o5, o6, o7, o8], []) :: K) none σ = (zRet true K (some (.inl 1)) σ) :=
  yT_rv (yI_iconst zi_37_56 <| yI_zreturn zi_37_57 (by decide))
theorem zj_37_92 {K : List zF} {σ : zW} {x0 : Nat} {x2 : Int} {x3 : Int} {x4 : Int} {o5 : Option zV} {o6 : Option zV} {o7 : Option zV} {o8 : Option zV} (hK : K.length < 60) (h1 : zPn x0) : zEv true ((37, 92, [some (.inr (.inr x0)), some (.inr (.inr 2)), some (.inl x2), some (.inl x3), some (.inl x4), o5, o6, o7, o8], []) :: K) σ = (zEv true (zent 43 [.inr (.inr x0), .inr (.inr 2), .inl x2] :: (37, 98, [some (.inr (.inr x0)), some (.inr (.inr 2)), some (.inl x2), some (.inl x3), some (.inl x4), o5, o6, o7, o8], []) :: K) σ) :=
  yI_aload_n zi_37_92 rfl <| yI_aload_n zi_37_93 rfl <| yI_iload_n zi_37_94 rfl <| yI_cv zi_37_95 rfl rfl (zPn_k h1) hK
theorem zr_37_98 {K : List zF} {σ : zW} {x0 : Nat} {x2 : Int} {x3 : Int} {x4 : Int} {o5 : Option zV} {o6 : Option zV} {o7 : Option zV} {o8 : Option zV} {v : Int} (hK : K.length < 60) : zRet true ((37, 98, [some (.inr (.inr x0)), some (.inr (.inr 2)), some (.inl x2), some (.inl x3), some (.inl x4), o5, o6, o7, o8], []) :: K) (some (.inl v)) σ = (if ¬ v = (-1) then zEv true (zent 44 [.inr (.inr 2)] :: (37, 114, [some (.inr (.inr x0)), some (.inr (.inr 2)), some (.inl x2), some (.inl x3), some (.inl x4), (zcut 0 o5), some (.inl v), o7, o8], []) :: K) σ else if (-1 : Int) = (-1) then zEv true ((37, 135, [some (.inr (.inr x0)), some (.inr (.inr 2)), some (.inl x2), some (.inl x3), some (.inl x4), (zcut 0 o5), some (.inl v), some (.inl (-1)), o8], []) :: K) σ else zEv true (zent 85 [.inr (.inr 2)] :: (37, 126, [some (.inr (.inr x0)), some (.inr (.inr 2)), some (.inl x2), some (.inl x3), some (.inl x4), (zcut 0 o5), some (.inl v), some (.inl (-1)), o8], []) :: K) σ) :=
  yT_rt (yI_istore (l := [some (.inr (.inr x0)), some (.inr (.inr 2)), some (.inl x2), some (.inl x3), some (.inl x4), (zcut 0 o5), some (.inl v), o7, o8]) zi_37_98 rfl rfl <| yI_iload zi_37_100 rfl <| yI_iconst zi_37_102 <| yI_ic_ne zi_37_103 <| yBr (yI_aload_n zi_37_110 rfl <| yI_cs zi_37_111 rfl rfl hK) (yI_iconst zi_37_106 <| yI_goto zi_37_107 <| yI_istore (l := [some (.inr (.inr x0)), some (.inr (.inr 2)), some (.inl x2), some (.inl x3), some (.inl x4), (zcut 0 o5), some (.inl v), some (.inl (-1)), o8]) zi_37_114 rfl rfl <| yI_iload zi_37_116 rfl <| yI_iconst zi_37_118 <| yI_ic_eq zi_37_119 <| yBr (rfl) (yI_aload_n zi_37_122 rfl <| yI_cv zi_37_123 rfl rfl zk_2 hK)))
theorem zr_37_114 {K : List zF} {σ : zW} {x0 : Nat} {x2 : Int} {x3 : Int} {x4 : Int} {o5 : Option zV} {x6 : Int} {o7 : Option zV} {o8 : Option zV} {v : Int} (hK : K.length < 60) : zRet true ((37, 114, [some (.inr (.inr x0)), some (.inr (.inr 2)), some (.inl x2), some (.inl x3), some (.inl x4), o5, some (.inl x6), o7, o8], []) :: K) (some (.inl v)) σ = (if v = (-1) then zEv true ((37, 135, [some (.inr (.inr x0)), some (.inr (.inr 2)), some (.inl x2), some (.inl x3), some (.inl x4), o5, some (.inl x6), some (.inl v), o8], []) :: K) σ else zEv true (zent 85 [.inr (.inr 2)] :: (37, 126, [some (.inr (.inr x0)), some (.inr (.inr 2)), some (.inl x2), some (.inl x3), some (.inl x4), o5, some (.inl x6), some (.inl v), o8], []) :: K) σ) :=
  yT_rt (yI_istore (l := [some (.inr (.inr x0)), some (.inr (.inr 2)), some (.inl x2), some (.inl x3), some (.inl x4), o5, some (.inl x6), some (.inl v), o8]) zi_37_114 rfl rfl <| yI_iload zi_37_116 rfl <| yI_iconst zi_37_118 <| yI_ic_eq zi_37_119 <| yBr (rfl) (yI_aload_n zi_37_122 rfl <| yI_cv zi_37_123 rfl rfl zk_2 hK))
theorem zj_37_135 {K : List zF} {σ : zW} {x0 : Nat} {x2 : Int} {x3 : Int} {x4 : Int} {o5 : Option zV} {x6 : Int} {x7 : Int} {o8 : Option zV} (hK : K.length < 60) (h1 : zPn x0) : zEv true ((37, 135, [some (.inr (.inr x0)), some (.inr (.inr 2)), some (.inl x2), some (.inl x3), some (.inl x4), o5, some (.inl x6), some (.inl x7), o8], []) :: K) σ = (if x7 = (-1) then zRet true K (some (.inl 0)) (sI σ 2 2 (w32 ((gI σ 2 2) + (if (0 : Int) = 0 then 0 else 1 : Int)))) else zEv true (zent 47 [.inr (.inr x0), .inr (.inr 2), .inl x2, .inl x6, .inl x7] :: (37, 173, [some (.inr (.inr x0)), some (.inr (.inr 2)), some (.inl x2), some (.inl x3), some (.inl x4), o5, some (.inl x6), some (.inl x7), some (.inl 0)], []) :: K) (sI σ 2 2 (w32 ((gI σ 2 2) + (if (0 : Int) = 0 then 0 else 1 : Int))))) :=
  yI_iconst zi_37_135 <| yI_istore (l := [some (.inr (.inr x0)), some (.inr (.inr 2)), some (.inl x2), some (.inl x3), some (.inl x4), o5, some (.inl x6), some (.inl x7), some (.inl 0)]) zi_37_136 rfl rfl <| yI_aload_n zi_37_138 rfl <| yI_dup_r zi_37_139 <| yI_gf_i (v := gI σ 2 2) zi_37_140 zk_2 rfl <| yI_iload zi_37_143 rfl <| yI_if_eq zi_37_145 <| yMi0 (j := 153) (ls2 := [some (.inr (.inr x0)), some (.inr (.inr 2)), some (.inl x2), some (.inl x3), some (.inl x4), o5, some (.inl x6), some (.inl x7), some (.inl 0)]) (st2 := [.inl (gI σ 2 2), .inr (.inr 2)]) (x := 0) (y := 1) (σ2 := σ) (yI_iconst zi_37_152 <| rfl) (yI_iconst zi_37_148 <| yI_goto zi_37_149 <| rfl) <| yI_iadd zi_37_153 <| yI_pf_i zi_37_154 zk_2 <| yI_iload zi_37_157 rfl <| yI_iconst zi_37_159 <| yI_ic_eq zi_37_160 <| yBr (yI_iconst zi_37_176 <| yI_zreturn zi_37_177 (by decide)) (yI_aload_n zi_37_163 rfl <| yI_aload_n zi_37_164 rfl <| yI_iload_n zi_37_165 rfl <| yI_iload zi_37_166 rfl <| yI_iload zi_37_168 rfl <| yI_cv zi_37_170 rfl rfl (zPn_k h1) hK)
theorem zr_37_126 {K : List zF} {σ : zW} {x0 : Nat} {x2 : Int} {x3 : Int} {x4 : Int} {o5 : Option zV} {x6 : Int} {x7 : Int} {o8 : Option zV} {v : Int} (hK : K.length < 60) (h1 : zPn x0) : zRet true ((37, 126, [some (.inr (.inr x0)), some (.inr (.inr 2)), some (.inl x2), some (.inl x3), some (.inl x4), o5, some (.inl x6), some (.inl x7), o8], []) :: K) (some (.inl v)) σ = (if ¬ v = 40 then zEv true ((37, 135, [some (.inr (.inr x0)), some (.inr (.inr 2)), some (.inl x2), some (.inl x3), some (.inl x4), o5, some (.inl x6), some (.inl x7), o8], []) :: K) σ else if x7 = (-1) then zRet true K (some (.inl 0)) (sI σ 2 2 (w32 ((gI σ 2 2) + (if (1 : Int) = 0 then 0 else 1 : Int)))) else zEv true (zent 47 [.inr (.inr x0), .inr (.inr 2), .inl x2, .inl x6, .inl x7] :: (37, 173, [some (.inr (.inr x0)), some (.inr (.inr 2)), some (.inl x2), some (.inl x3), some (.inl x4), o5, some (.inl x6), some (.inl x7), some (.inl 1)], []) :: K) (sI σ 2 2 (w32 ((gI σ 2 2) + (if (1 : Int) = 0 then 0 else 1 : Int))))) :=
  yT_rt (yI_bipush zi_37_126 <| yI_ic_ne zi_37_128 <| yBr (rfl) (yI_iconst zi_37_131 <| yI_goto zi_37_132 <| yI_istore (l := [some (.inr (.inr x0)), some (.inr (.inr 2)), some (.inl x2), some (.inl x3), some (.inl x4), o5, some (.inl x6), some (.inl x7), some (.inl 1)]) zi_37_136 rfl rfl <| yI_aload_n zi_37_138 rfl <| yI_dup_r zi_37_139 <| yI_gf_i (v := gI σ 2 2) zi_37_140 zk_2 rfl <| yI_iload zi_37_143 rfl <| yI_if_eq zi_37_145 <| yMi0 (j := 153) (ls2 := [some (.inr (.inr x0)), some (.inr (.inr 2)), some (.inl x2), some (.inl x3), some (.inl x4), o5, some (.inl x6), some (.inl x7), some (.inl 1)]) (st2 := [.inl (gI σ 2 2), .inr (.inr 2)]) (x := 0) (y := 1) (σ2 := σ) (yI_iconst zi_37_152 <| rfl) (yI_iconst zi_37_148 <| yI_goto zi_37_149 <| rfl) <| yI_iadd zi_37_153 <| yI_pf_i zi_37_154 zk_2 <| yI_iload zi_37_157 rfl <| yI_iconst zi_37_159 <| yI_ic_eq zi_37_160 <| yBr (yI_iconst zi_37_176 <| yI_zreturn zi_37_177 (by decide)) (yI_aload_n zi_37_163 rfl <| yI_aload_n zi_37_164 rfl <| yI_iload_n zi_37_165 rfl <| yI_iload zi_37_166 rfl <| yI_iload zi_37_168 rfl <| yI_cv zi_37_170 rfl rfl (zPn_k h1) hK)))
theorem zr_37_173 {K : List zF} {σ : zW} {x0 : Nat} {x2 : Int} {x3 : Int} {x4 : Int} {o5 : Option zV} {o6 : Option zV} {o7 : Option zV} {x8 : Int} {v : Int} (h1 : zPn x0) : zRet true ((37, 173, [some (.inr (.inr x0)), some (.inr (.inr 2)), some (.inl x2), some (.inl x3), some (.inl x4), o5, o6, o7, some (.inl x8)], []) :: K) (some (.inl v)) σ = (if ¬ v = 0 then zEv true ((37, 28, [some (.inr (.inr x0)), some (.inr (.inr 2)), some (.inl (if x8 = 0 then x2 else w32 ((gI σ x0 15) - 1) : Int)), some (.inl (w32 (x3 + (if x8 = 0 then 0 else 1 : Int)))), some (.inl (w32 (x4 + 1))), o5, o6, o7, some (.inl x8)], []) :: K) σ else zRet true K (some (.inl 0)) σ) :=
  yT_rt (yI_if_ne zi_37_173 <| yBr (yI_iload zi_37_178 rfl <| yI_if_eq zi_37_180 <| yMi0 (j := 193) (ls2 := [some (.inr (.inr x0)), some (.inr (.inr 2)), some (.inl x2), some (.inl x3), some (.inl x4), o5, o6, o7, some (.inl x8)]) (st2 := []) (x := x2) (y := w32 ((gI σ x0 15) - 1)) (σ2 := σ) (yI_iload_n zi_37_192 rfl <| rfl) (yI_aload_n zi_37_183 rfl <| yI_gf_i (v := gI σ x0 15) zi_37_184 (zPn_k h1) rfl <| yI_iconst zi_37_187 <| yI_isub zi_37_188 <| yI_goto zi_37_189 <| rfl) <| yI_istore_n (l := [some (.inr (.inr x0)), some (.inr (.inr 2)), some (.inl (if x8 = 0 then x2 else w32 ((gI σ x0 15) - 1) : Int)), some (.inl x3), some (.inl x4), o5, o6, o7, some (.inl x8)]) zi_37_193 rfl rfl <| yI_iload_n zi_37_194 rfl <| yI_iload zi_37_195 rfl <| yI_if_eq zi_37_197 <| yMi0 (j := 205) (ls2 := [some (.inr (.inr x0)), some (.inr (.inr 2)), some (.inl (if x8 = 0 then x2 else w32 ((gI σ x0 15) - 1) : Int)), some (.inl x3), some (.inl x4), o5, o6, o7, some (.inl x8)]) (st2 := [.inl x3]) (x := 0) (y := 1) (σ2 := σ) (yI_iconst zi_37_204 <| rfl) (yI_iconst zi_37_200 <| yI_goto zi_37_201 <| rfl) <| yI_iadd zi_37_205 <| yI_istore_n (l := [some (.inr (.inr x0)), some (.inr (.inr 2)), some (.inl (if x8 = 0 then x2 else w32 ((gI σ x0 15) - 1) : Int)), some (.inl (w32 (x3 + (if x8 = 0 then 0 else 1 : Int)))), some (.inl x4), o5, o6, o7, some (.inl x8)]) zi_37_206 rfl rfl <| yI_iinc (l := [some (.inr (.inr x0)), some (.inr (.inr 2)), some (.inl (if x8 = 0 then x2 else w32 ((gI σ x0 15) - 1) : Int)), some (.inl (w32 (x3 + (if x8 = 0 then 0 else 1 : Int)))), some (.inl (w32 (x4 + 1))), o5, o6, o7, some (.inl x8)]) zi_37_207 rfl rfl rfl <| yI_goto zi_37_210 <| rfl) (yI_iconst zi_37_176 <| yI_zreturn zi_37_177 (by decide)))
/-- 38 Treegrab$Pattern.clear()V -/
theorem zi_38_0 : zraw 38 0 = some (.aload_n 0, 1) ∧ 0 + 1 = 1 := by decide +kernel
theorem zi_38_1 : zraw 38 1 = some (.iconst 0, 1) ∧ zin 128 0 = true ∧ 1 + 1 = 2 := by decide +kernel
theorem zi_38_2 : zraw 38 2 = some (.putfield 90, 3) ∧ zft (zinf 38).1 90 = some (4, 14, 0, false) ∧ 2 + 3 = 5 := by decide +kernel
theorem zi_38_5 : zraw 38 5 = some (.aload_n 0, 1) ∧ 5 + 1 = 6 := by decide +kernel
theorem zi_38_6 : zraw 38 6 = some (.iconst 0, 1) ∧ zin 128 0 = true ∧ 6 + 1 = 7 := by decide +kernel
theorem zi_38_7 : zraw 38 7 = some (.putfield 87, 3) ∧ zft (zinf 38).1 87 = some (4, 15, 0, false) ∧ 7 + 3 = 10 := by decide +kernel
theorem zi_38_10 : zraw 38 10 = some (.aload_n 0, 1) ∧ 10 + 1 = 11 := by decide +kernel
theorem zi_38_11 : zraw 38 11 = some (.iconst 0, 1) ∧ zin 128 0 = true ∧ 11 + 1 = 12 := by decide +kernel
theorem zi_38_12 : zraw 38 12 = some (.putfield 93, 3) ∧ zft (zinf 38).1 93 = some (4, 16, 0, false) ∧ 12 + 3 = 15 := by decide +kernel
theorem zi_38_15 : zraw 38 15 = some (.iconst 0, 1) ∧ zin 128 0 = true ∧ 15 + 1 = 16 := by decide +kernel
theorem zi_38_16 : zraw 38 16 = some (.istore_n 1, 1) ∧ 16 + 1 = 17 := by decide +kernel
theorem zi_38_17 : zraw 38 17 = some (.iload_n 1, 1) ∧ 17 + 1 = 18 := by decide +kernel
theorem zi_38_18 : zraw 38 18 = some (.bipush 26, 2) ∧ zin 128 26 = true ∧ 18 + 2 = 20 := by decide +kernel
theorem zi_38_20 : zraw 38 20 = some (.if_icmp .ge 16, 3) ∧ ((20 : Nat) : Int) + 16 = Int.ofNat 36 ∧ 20 + 3 = 23 := by decide +kernel
theorem zi_38_23 : zraw 38 23 = some (.aload_n 0, 1) ∧ 23 + 1 = 24 := by decide +kernel
theorem zi_38_24 : zraw 38 24 = some (.getfield 50, 3) ∧ zft (zinf 38).1 50 = some (4, 12, 3, true) ∧ 24 + 3 = 27 := by decide +kernel
theorem zi_38_27 : zraw 38 27 = some (.iload_n 1, 1) ∧ 27 + 1 = 28 := by decide +kernel
theorem zi_38_28 : zraw 38 28 = some (.iconst (-1), 1) ∧ zin 128 (-1) = true ∧ 28 + 1 = 29 := by decide +kernel
theorem zi_38_29 : zraw 38 29 = some (.iastore, 1) ∧ 29 + 1 = 30 := by decide +kernel
theorem zi_38_30 : zraw 38 30 = some (.iinc 1 1, 3) ∧ zin 32768 1 = true ∧ 30 + 3 = 33 := by decide +kernel
theorem zi_38_33 : zraw 38 33 = some (.goto (-16), 3) ∧ ((33 : Nat) : Int) + (-16) = Int.ofNat 17 := by decide +kernel
theorem zi_38_36 : zraw 38 36 = some (.return_, 1) ∧ (zinf 38).2.2.2.1 = 0 := by decide +kernel
theorem ze_38 {K : List zF} {σ : zW} {t : Nat} (h1 : zPn t) : zEv true (zent 38 [.inr (.inr t)] :: K) σ = (zEv true ((38, 17, [some (.inr (.inr t)), some (.inl 0)], []) :: K) (sI (sI (sI σ t 14 0) t 15 0) t 16 0)) :=
  yT_en (f := (38, 0, [some (.inr (.inr t)), none], [])) rfl (yI_aload_n zi_38_0 rfl <| yI_iconst zi_38_1 <| yI_pf_i zi_38_2 (zPn_k h1) <| yI_aload_n zi_38_5 rfl <| yI_iconst zi_38_6 <| yI_pf_i zi_38_7 (zPn_k h1) <| yI_aload_n zi_38_10 rfl <| yI_iconst zi_38_11 <| yI_pf_i zi_38_12 (zPn_k h1) <| yI_iconst zi_38_15 <| yI_istore_n (l := [some (.inr (.inr t)), some (.inl 0)]) zi_38_16 rfl rfl <| rfl)
theorem zj_38_17 {K : List zF} {σ : zW} {x0 : Nat} {x1 : Int} (h1 : zPn x0) : zEv true ((38, 17, [some (.inr (.inr x0)), some (.inl x1)], []) :: K) σ = (if 26 ≤ x1 then zRet true K none σ else (0 ≤ x1 ∧ x1 < 26) ∧ zEv true ((38, 17, [some (.inr (.inr x0)), some (.inl (w32 (x1 + 1)))], []) :: K) (sI σ (x0 + 13) x1.toNat (-1))) :=
  yI_iload_n zi_38_17 rfl <| yI_bipush zi_38_18 <| yI_ic_ge zi_38_20 <| yBr (yI_ret zi_38_36) (yI_aload_n zi_38_23 rfl <| yI_gf_f (v := x0 + 13) zi_38_24 (zPn_k h1) rfl <| yI_iload_n zi_38_27 rfl <| yI_iconst zi_38_28 <| yI_iastorec zi_38_29 (zPn_a13 h1) <| yI_iinc (l := [some (.inr (.inr x0)), some (.inl (w32 (x1 + 1)))]) zi_38_30 rfl rfl rfl <| yI_goto zi_38_33 <| rfl)
/-- 39 Treegrab$Pattern.settlePasts()V -/
theorem zi_39_0 : zraw 39 0 = some (.iconst 0, 1) ∧ zin 128 0 = true ∧ 0 + 1 = 1 := by decide +kernel
theorem zi_39_1 : zraw 39 1 = some (.istore_n 1, 1) ∧ 1 + 1 = 2 := by decide +kernel
theorem zi_39_2 : zraw 39 2 = some (.iload_n 1, 1) ∧ 2 + 1 = 3 := by decide +kernel
theorem zi_39_3 : zraw 39 3 = some (.aload_n 0, 1) ∧ 3 + 1 = 4 := by decide +kernel
theorem zi_39_4 : zraw 39 4 = some (.getfield 87, 3) ∧ zft (zinf 39).1 87 = some (4, 15, 0, false) ∧ 4 + 3 = 7 := by decide +kernel
theorem zi_39_7 : zraw 39 7 = some (.if_icmp .ge 18, 3) ∧ ((7 : Nat) : Int) + 18 = Int.ofNat 25 ∧ 7 + 3 = 10 := by decide +kernel
theorem zi_39_10 : zraw 39 10 = some (.aload_n 0, 1) ∧ 10 + 1 = 11 := by decide +kernel
theorem zi_39_11 : zraw 39 11 = some (.getfield 39, 3) ∧ zft (zinf 39).1 39 = some (4, 9, 3, true) ∧ 11 + 3 = 14 := by decide +kernel
theorem zi_39_14 : zraw 39 14 = some (.iload_n 1, 1) ∧ 14 + 1 = 15 := by decide +kernel
theorem zi_39_15 : zraw 39 15 = some (.iload_n 1, 1) ∧ 15 + 1 = 16 := by decide +kernel
theorem zi_39_16 : zraw 39 16 = some (.iconst 1, 1) ∧ zin 128 1 = true ∧ 16 + 1 = 17 := by decide +kernel
theorem zi_39_17 : zraw 39 17 = some (.iadd, 1) ∧ 17 + 1 = 18 := by decide +kernel
theorem zi_39_18 : zraw 39 18 = some (.iastore, 1) ∧ 18 + 1 = 19 := by decide +kernel
theorem zi_39_19 : zraw 39 19 = some (.iinc 1 1, 3) ∧ zin 32768 1 = true ∧ 19 + 3 = 22 := by decide +kernel
theorem zi_39_22 : zraw 39 22 = some (.goto (-20), 3) ∧ ((22 : Nat) : Int) + (-20) = Int.ofNat 2 := by decide +kernel
theorem zi_39_25 : zraw 39 25 = some (.aload_n 0, 1) ∧ 25 + 1 = 26 := by decide +kernel
theorem zi_39_26 : zraw 39 26 = some (.getfield 87, 3) ∧ zft (zinf 39).1 87 = some (4, 15, 0, false) ∧ 26 + 3 = 29 := by decide +kernel
theorem zi_39_29 : zraw 39 29 = some (.iconst 1, 1) ∧ zin 128 1 = true ∧ 29 + 1 = 30 := by decide +kernel
theorem zi_39_30 : zraw 39 30 = some (.isub, 1) ∧ 30 + 1 = 31 := by decide +kernel
theorem zi_39_31 : zraw 39 31 = some (.istore_n 1, 1) ∧ 31 + 1 = 32 := by decide +kernel
theorem zi_39_32 : zraw 39 32 = some (.iload_n 1, 1) ∧ 32 + 1 = 33 := by decide +kernel
theorem zi_39_33 : zraw 39 33 = some (.ifCond .le 40, 3) ∧ ((33 : Nat) : Int) + 40 = Int.ofNat 73 ∧ 33 + 3 = 36 := by decide +kernel
theorem zi_39_36 : zraw 39 36 = some (.aload_n 0, 1) ∧ 36 + 1 = 37 := by decide +kernel
theorem zi_39_37 : zraw 39 37 = some (.getfield 39, 3) ∧ zft (zinf 39).1 39 = some (4, 9, 3, true) ∧ 37 + 3 = 40 := by decide +kernel
theorem zi_39_40 : zraw 39 40 = some (.aload_n 0, 1) ∧ 40 + 1 = 41 := by decide +kernel
theorem zi_39_41 : zraw 39 41 = some (.getfield 18, 3) ∧ zft (zinf 39).1 18 = some (4, 2, 3, true) ∧ 41 + 3 = 44 := by decide +kernel
theorem zi_39_44 : zraw 39 44 = some (.iload_n 1, 1) ∧ 44 + 1 = 45 := by decide +kernel
theorem zi_39_45 : zraw 39 45 = some (.iaload, 1) ∧ 45 + 1 = 46 := by decide +kernel
theorem zi_39_46 : zraw 39 46 = some (.aload_n 0, 1) ∧ 46 + 1 = 47 := by decide +kernel
theorem zi_39_47 : zraw 39 47 = some (.getfield 39, 3) ∧ zft (zinf 39).1 39 = some (4, 9, 3, true) ∧ 47 + 3 = 50 := by decide +kernel
theorem zi_39_50 : zraw 39 50 = some (.aload_n 0, 1) ∧ 50 + 1 = 51 := by decide +kernel
theorem zi_39_51 : zraw 39 51 = some (.getfield 18, 3) ∧ zft (zinf 39).1 18 = some (4, 2, 3, true) ∧ 51 + 3 = 54 := by decide +kernel
theorem zi_39_54 : zraw 39 54 = some (.iload_n 1, 1) ∧ 54 + 1 = 55 := by decide +kernel
theorem zi_39_55 : zraw 39 55 = some (.iaload, 1) ∧ 55 + 1 = 56 := by decide +kernel
theorem zi_39_56 : zraw 39 56 = some (.iaload, 1) ∧ 56 + 1 = 57 := by decide +kernel
theorem zi_39_57 : zraw 39 57 = some (.aload_n 0, 1) ∧ 57 + 1 = 58 := by decide +kernel
theorem zi_39_58 : zraw 39 58 = some (.getfield 39, 3) ∧ zft (zinf 39).1 39 = some (4, 9, 3, true) ∧ 58 + 3 = 61 := by decide +kernel
theorem zi_39_61 : zraw 39 61 = some (.iload_n 1, 1) ∧ 61 + 1 = 62 := by decide +kernel
theorem zi_39_62 : zraw 39 62 = some (.iaload, 1) ∧ 62 + 1 = 63 := by decide +kernel
theorem zi_39_63 : zraw 39 63 = some (.invokestatic 96, 3) ∧ zmt (zinf 39).1 96 = some 9004 ∧ 63 + 3 = 66 := by decide +kernel
theorem zi_39_66 : zraw 39 66 = some (.iastore, 1) ∧ 66 + 1 = 67 := by decide +kernel
theorem zi_39_67 : zraw 39 67 = some (.iinc 1 (-1), 3) ∧ zin 32768 (-1) = true ∧ 67 + 3 = 70 := by decide +kernel
theorem zi_39_70 : zraw 39 70 = some (.goto (-38), 3) ∧ ((70 : Nat) : Int) + (-38) = Int.ofNat 32 := by decide +kernel
theorem zi_39_73 : zraw 39 73 = some (.return_, 1) ∧ (zinf 39).2.2.2.1 = 0 := by decide +kernel
theorem ze_39 {K : List zF} {σ : zW} {t : Nat} : zEv true (zent 39 [.inr (.inr t)] :: K) σ = (zEv true ((39, 2, [some (.inr (.inr t)), some (.inl 0)], []) :: K) σ) :=
  yT_en (f := (39, 0, [some (.inr (.inr t)), none], [])) rfl (yI_iconst zi_39_0 <| yI_istore_n (l := [some (.inr (.inr t)), some (.inl 0)]) zi_39_1 rfl rfl <| rfl)
theorem zj_39_2 {K : List zF} {σ : zW} {x0 : Nat} {x1 : Int} (h1 : zPn x0) : zEv true ((39, 2, [some (.inr (.inr x0)), some (.inl x1)], []) :: K) σ = (if (gI σ x0 15) ≤ x1 then zEv true ((39, 32, [some (.inr (.inr x0)), some (.inl (w32 ((gI σ x0 15) - 1)))], []) :: K) σ else (0 ≤ x1 ∧ x1 < 8) ∧ zEv true ((39, 2, [some (.inr (.inr x0)), some (.inl (w32 (x1 + 1)))], []) :: K) (sI σ (x0 + 10) x1.toNat (w32 (x1 + 1)))) :=
  yI_iload_n zi_39_2 rfl <| yI_aload_n zi_39_3 rfl <| yI_gf_i (v := gI σ x0 15) zi_39_4 (zPn_k h1) rfl <| yI_ic_ge zi_39_7 <| yBr (yI_aload_n zi_39_25 rfl <| yI_gf_i (v := gI σ x0 15) zi_39_26 (zPn_k h1) rfl <| yI_iconst zi_39_29 <| yI_isub zi_39_30 <| yI_istore_n (l := [some (.inr (.inr x0)), some (.inl (w32 ((gI σ x0 15) - 1)))]) zi_39_31 rfl rfl <| rfl) (yI_aload_n zi_39_10 rfl <| yI_gf_f (v := x0 + 10) zi_39_11 (zPn_k h1) rfl <| yI_iload_n zi_39_14 rfl <| yI_iload_n zi_39_15 rfl <| yI_iconst zi_39_16 <| yI_iadd zi_39_17 <| yI_iastorec zi_39_18 (zPn_a10 h1) <| yI_iinc (l := [some (.inr (.inr x0)), some (.inl (w32 (x1 + 1)))]) zi_39_19 rfl rfl rfl <| yI_goto zi_39_22 <| rfl)
theorem zj_39_32 {K : List zF} {σ : zW} {x0 : Nat} {x1 : Int} (h1 : zPn x0) : zEv true ((39, 32, [some (.inr (.inr x0)), some (.inl x1)], []) :: K) σ = (if x1 ≤ 0 then zRet true K none σ else (0 ≤ x1 ∧ x1 < 8) ∧ ((0 ≤ x1 ∧ x1 < 8) ∧ ((0 ≤ (gI σ (x0 + 3) x1.toNat) ∧ (gI σ (x0 + 3) x1.toNat) < 8) ∧ ((0 ≤ x1 ∧ x1 < 8) ∧ ((0 ≤ (gI σ (x0 + 3) x1.toNat) ∧ (gI σ (x0 + 3) x1.toNat) < 8) ∧ zEv true ((39, 32, [some (.inr (.inr x0)), some (.inl (w32 (x1 + (-1))))], []) :: K) (sI σ (x0 + 10) ((gI σ (x0 + 3) x1.toNat).toNat) (if (gI σ (x0 + 10) ((gI σ (x0 + 3) x1.toNat).toNat)) < (gI σ (x0 + 10) x1.toNat) then gI σ (x0 + 10) x1.toNat else gI σ (x0 + 10) ((gI σ (x0 + 3) x1.toNat).toNat)))))))) :=
  yI_iload_n zi_39_32 rfl <| yI_if_le zi_39_33 <| yBr (yI_ret zi_39_73) (yI_aload_n zi_39_36 rfl <| yI_gf_f (v := x0 + 10) zi_39_37 (zPn_k h1) rfl <| yI_aload_n zi_39_40 rfl <| yI_gf_f (v := x0 + 3) zi_39_41 (zPn_k h1) rfl <| yI_iload_n zi_39_44 rfl <| yI_ialoadc (v := gI σ (x0 + 3) x1.toNat) zi_39_45 (zPn_a3 h1) rfl <| yI_aload_n zi_39_46 rfl <| yI_gf_f (v := x0 + 10) zi_39_47 (zPn_k h1) rfl <| yI_aload_n zi_39_50 rfl <| yI_gf_f (v := x0 + 3) zi_39_51 (zPn_k h1) rfl <| yI_iload_n zi_39_54 rfl <| yI_ialoadc (v := gI σ (x0 + 3) x1.toNat) zi_39_55 (zPn_a3 h1) rfl <| yI_ialoadc (v := gI σ (x0 + 10) ((gI σ (x0 + 3) x1.toNat).toNat)) zi_39_56 (zPn_a10 h1) rfl <| yI_aload_n zi_39_57 rfl <| yI_gf_f (v := x0 + 10) zi_39_58 (zPn_k h1) rfl <| yI_iload_n zi_39_61 rfl <| yI_ialoadc (v := gI σ (x0 + 10) x1.toNat) zi_39_62 (zPn_a10 h1) rfl <| yI_max zi_39_63 rfl <| yI_iastorec zi_39_66 (zPn_a10 h1) <| yI_iinc (l := [some (.inr (.inr x0)), some (.inl (w32 (x1 + (-1))))]) zi_39_67 rfl rfl rfl <| yI_goto zi_39_70 <| rfl)
/-- 40 Treegrab$Pattern.isPlain(I)Z -/
theorem zi_40_0 : zraw 40 0 = some (.aload_n 0, 1) ∧ 0 + 1 = 1 := by decide +kernel
theorem zi_40_1 : zraw 40 1 = some (.getfield 42, 3) ∧ zft (zinf 40).1 42 = some (4, 10, 3, true) ∧ 1 + 3 = 4 := by decide +kernel
theorem zi_40_4 : zraw 40 4 = some (.iload_n 1, 1) ∧ 4 + 1 = 5 := by decide +kernel
theorem zi_40_5 : zraw 40 5 = some (.baload, 1) ∧ 5 + 1 = 6 := by decide +kernel
theorem zi_40_6 : zraw 40 6 = some (.ifCond .ne 17, 3) ∧ ((6 : Nat) : Int) + 17 = Int.ofNat 23 ∧ 6 + 3 = 9 := by decide +kernel
theorem zi_40_9 : zraw 40 9 = some (.aload_n 0, 1) ∧ 9 + 1 = 10 := by decide +kernel
theorem zi_40_10 : zraw 40 10 = some (.getfield 36, 3) ∧ zft (zinf 40).1 36 = some (4, 8, 3, true) ∧ 10 + 3 = 13 := by decide +kernel
theorem zi_40_13 : zraw 40 13 = some (.iload_n 1, 1) ∧ 13 + 1 = 14 := by decide +kernel
theorem zi_40_14 : zraw 40 14 = some (.iaload, 1) ∧ 14 + 1 = 15 := by decide +kernel
theorem zi_40_15 : zraw 40 15 = some (.iconst (-1), 1) ∧ zin 128 (-1) = true ∧ 15 + 1 = 16 := by decide +kernel
theorem zi_40_16 : zraw 40 16 = some (.if_icmp .ne 7, 3) ∧ ((16 : Nat) : Int) + 7 = Int.ofNat 23 ∧ 16 + 3 = 19 := by decide +kernel
theorem zi_40_19 : zraw 40 19 = some (.iconst 1, 1) ∧ zin 128 1 = true ∧ 19 + 1 = 20 := by decide +kernel
theorem zi_40_20 : zraw 40 20 = some (.goto 4, 3) ∧ ((20 : Nat) : Int) + 4 = Int.ofNat 24 := by decide +kernel
theorem zi_40_23 : zraw 40 23 = some (.iconst 0, 1) ∧ zin 128 0 = true ∧ 23 + 1 = 24 := by decide +kernel
theorem zi_40_24 : zraw 40 24 = some (.ireturn, 1) ∧ (zinf 40).2.2.2.1 = 2 := by decide +kernel
theorem ze_40 {K : List zF} {σ : zW} {t : Nat} {x1 : Int} (h1 : zPn t) : zEv true (zent 40 [.inr (.inr t), .inl x1] :: K) σ = ((0 ≤ x1 ∧ x1 < 8) ∧ (if ¬ (gI σ (t + 11) x1.toNat) = 0 then zEv true ((40, 23, [some (.inr (.inr t)), some (.inl x1)], []) :: K) σ else (0 ≤ x1 ∧ x1 < 8) ∧ (if ¬ (gI σ (t + 9) x1.toNat) = (-1) then zEv true ((40, 23, [some (.inr (.inr t)), some (.inl x1)], []) :: K) σ else zRet true K (some (.inl 1)) σ))) :=
  yT_en (f := (40, 0, [some (.inr (.inr t)), some (.inl x1)], [])) rfl (yI_aload_n zi_40_0 rfl <| yI_gf_f (v := t + 11) zi_40_1 (zPn_k h1) rfl <| yI_iload_n zi_40_4 rfl <| yI_baloadc (v := gI σ (t + 11) x1.toNat) zi_40_5 (zPn_a11 h1) rfl <| yI_if_ne zi_40_6 <| yBr (rfl) (yI_aload_n zi_40_9 rfl <| yI_gf_f (v := t + 9) zi_40_10 (zPn_k h1) rfl <| yI_iload_n zi_40_13 rfl <| yI_ialoadc (v := gI σ (t + 9) x1.toNat) zi_40_14 (zPn_a9 h1) rfl <| yI_iconst zi_40_15 <| yI_ic_ne zi_40_16 <| yBr (rfl) (yI_iconst zi_40_19 <| yI_goto zi_40_20 <| yI_zreturn zi_40_24 (by decide))))
theorem zj_40_23 {K : List zF} {σ : zW} {o0 : Option zV} {o1 : Option zV} : zEv true ((40, 23, [o0, o1], []) :: K) σ = (zRet true K (some (.inl 0)) σ) :=
  yI_iconst zi_40_23 <| yI_zreturn zi_40_24 (by decide)
/-- 41 Treegrab$Pattern.isNeeded(I)Z -/
theorem zi_41_0 : zraw 41 0 = some (.aload_n 0, 1) ∧ 0 + 1 = 1 := by decide +kernel
theorem zi_41_1 : zraw 41 1 = some (.aload_n 0, 1) ∧ 1 + 1 = 2 := by decide +kernel
theorem zi_41_2 : zraw 41 2 = some (.getfield 53, 3) ∧ zft (zinf 41).1 53 = some (4, 13, 3, true) ∧ 2 + 3 = 5 := by decide +kernel
theorem zi_41_5 : zraw 41 5 = some (.iload_n 1, 1) ∧ 5 + 1 = 6 := by decide +kernel
theorem zi_41_6 : zraw 41 6 = some (.iaload, 1) ∧ 6 + 1 = 7 := by decide +kernel
theorem zi_41_7 : zraw 41 7 = some (.invokevirtual 102, 3) ∧ zmt (zinf 41).1 102 = some 40 ∧ Nat.ble 9000 40 = false ∧ zinf 40 = (4, 2, 2, 2, 0) ∧ 7 + 3 = 10 := by decide +kernel
theorem zi_41_10 : zraw 41 10 = some (.ireturn, 1) ∧ (zinf 41).2.2.2.1 = 2 := by decide +kernel
theorem ze_41 {K : List zF} {σ : zW} {t : Nat} {x1 : Int} (hK : K.length < 60) (h1 : zPn t) : zEv true (zent 41 [.inr (.inr t), .inl x1] :: K) σ = ((0 ≤ x1 ∧ x1 < 4) ∧ zEv true (zent 40 [.inr (.inr t), .inl (gI σ (t + 14) x1.toNat)] :: (41, 10, [some (.inr (.inr t)), some (.inl x1)], []) :: K) σ) :=
  yT_en (f := (41, 0, [some (.inr (.inr t)), some (.inl x1)], [])) rfl (yI_aload_n zi_41_0 rfl <| yI_aload_n zi_41_1 rfl <| yI_gf_f (v := t + 14) zi_41_2 (zPn_k h1) rfl <| yI_iload_n zi_41_5 rfl <| yI_ialoadc (v := gI σ (t + 14) x1.toNat) zi_41_6 (zPn_a14 h1) rfl <| yI_cv zi_41_7 rfl rfl (zPn_k h1) hK)
theorem zr_41_10 {K : List zF} {σ : zW} {o0 : Option zV} {o1 : Option zV} {v : Int} : zRet true ((41, 10, [o0, o1], []) :: K) (some (.inl v)) σ = ((v = 0 ∨ v = 1) ∧ zRet true K (some (.inl v)) σ) :=
  yT_rt (yI_zreturnc zi_41_10)
/-- 42 Treegrab$Pattern.numberAt(I)I -/
theorem zi_42_0 : zraw 42 0 = some (.aload_n 0, 1) ∧ 0 + 1 = 1 := by decide +kernel
theorem zi_42_1 : zraw 42 1 = some (.getfield 33, 3) ∧ zft (zinf 42).1 33 = some (4, 7, 3, true) ∧ 1 + 3 = 4 := by decide +kernel
theorem zi_42_4 : zraw 42 4 = some (.aload_n 0, 1) ∧ 4 + 1 = 5 := by decide +kernel
theorem zi_42_5 : zraw 42 5 = some (.getfield 9, 3) ∧ zft (zinf 42).1 9 = some (4, 0, 3, true) ∧ 5 + 3 = 8 := by decide +kernel
theorem zi_42_8 : zraw 42 8 = some (.iload_n 1, 1) ∧ 8 + 1 = 9 := by decide +kernel
theorem zi_42_9 : zraw 42 9 = some (.iaload, 1) ∧ 9 + 1 = 10 := by decide +kernel
theorem zi_42_10 : zraw 42 10 = some (.iconst 4, 1) ∧ zin 128 4 = true ∧ 10 + 1 = 11 := by decide +kernel
theorem zi_42_11 : zraw 42 11 = some (.if_icmp .ne 12, 3) ∧ ((11 : Nat) : Int) + 12 = Int.ofNat 23 ∧ 11 + 3 = 14 := by decide +kernel
theorem zi_42_14 : zraw 42 14 = some (.aload_n 0, 1) ∧ 14 + 1 = 15 := by decide +kernel
theorem zi_42_15 : zraw 42 15 = some (.getfield 15, 3) ∧ zft (zinf 42).1 15 = some (4, 1, 3, true) ∧ 15 + 3 = 18 := by decide +kernel
theorem zi_42_18 : zraw 42 18 = some (.iload_n 1, 1) ∧ 18 + 1 = 19 := by decide +kernel
theorem zi_42_19 : zraw 42 19 = some (.iaload, 1) ∧ 19 + 1 = 20 := by decide +kernel
theorem zi_42_20 : zraw 42 20 = some (.goto 4, 3) ∧ ((20 : Nat) : Int) + 4 = Int.ofNat 24 := by decide +kernel
theorem zi_42_23 : zraw 42 23 = some (.iload_n 1, 1) ∧ 23 + 1 = 24 := by decide +kernel
theorem zi_42_24 : zraw 42 24 = some (.iaload, 1) ∧ 24 + 1 = 25 := by decide +kernel
theorem zi_42_25 : zraw 42 25 = some (.ireturn, 1) ∧ (zinf 42).2.2.2.1 = 1 := by decide +kernel
theorem ze_42 {K : List zF} {σ : zW} {t : Nat} {x1 : Int} (h1 : zPn t) : zEv true (zent 42 [.inr (.inr t), .inl x1] :: K) σ = ((0 ≤ x1 ∧ x1 < 8) ∧ ((¬ (¬ (gI σ (t + 1) x1.toNat) = 4) → (0 ≤ x1 ∧ x1 < 8)) ∧ ((0 ≤ (if ¬ (gI σ (t + 1) x1.toNat) = 4 then x1 else gI σ (t + 2) x1.toNat : Int) ∧ (if ¬ (gI σ (t + 1) x1.toNat) = 4 then x1 else gI σ (t + 2) x1.toNat : Int) < 8) ∧ zRet true K (some (.inl (gI σ (t + 8) ((if ¬ (gI σ (t + 1) x1.toNat) = 4 then x1 else gI σ (t + 2) x1.toNat : Int).toNat)))) σ))) :=
  yT_en (f := (42, 0, [some (.inr (.inr t)), some (.inl x1)], [])) rfl (yI_aload_n zi_42_0 rfl <| yI_gf_f (v := t + 8) zi_42_1 (zPn_k h1) rfl <| yI_aload_n zi_42_4 rfl <| yI_gf_f (v := t + 1) zi_42_5 (zPn_k h1) rfl <| yI_iload_n zi_42_8 rfl <| yI_ialoadc (v := gI σ (t + 1) x1.toNat) zi_42_9 (zPn_a1 h1) rfl <| yI_iconst zi_42_10 <| yI_ic_ne zi_42_11 <| yMi2 (j := 24) (ls2 := [some (.inr (.inr t)), some (.inl x1)]) (st2 := [.inr (.inr (t + 8))]) (x := x1) (y := gI σ (t + 2) x1.toNat) (σ2 := σ) (yI_iload_n zi_42_23 rfl <| rfl) (yI_aload_n zi_42_14 rfl <| yI_gf_f (v := t + 2) zi_42_15 (zPn_k h1) rfl <| yI_iload_n zi_42_18 rfl <| yI_ialoadc (v := gI σ (t + 2) x1.toNat) zi_42_19 (zPn_a2 h1) rfl <| yI_goto zi_42_20 <| rfl) <| yI_ialoadc (v := gI σ (t + 8) ((if ¬ (gI σ (t + 1) x1.toNat) = 4 then x1 else gI σ (t + 2) x1.toNat : Int).toNat)) zi_42_24 (zPn_a8 h1) rfl <| yI_ireturn zi_42_25)
/-- 43 Treegrab$Pattern.readMark(LTreegrab$Tape;I)I -/
theorem zi_43_0 : zraw 43 0 = some (.aload_n 1, 1) ∧ 0 + 1 = 1 := by decide +kernel
theorem zi_43_1 : zraw 43 1 = some (.invokevirtual 68, 3) ∧ zmt (zinf 43).1 68 = some 85 ∧ Nat.ble 9000 85 = false ∧ zinf 85 = (7, 1, 1, 1, 0) ∧ 1 + 3 = 4 := by decide +kernel
theorem zi_43_4 : zraw 43 4 = some (.istore_n 3, 1) ∧ 4 + 1 = 5 := by decide +kernel
theorem zi_43_5 : zraw 43 5 = some (.iload_n 3, 1) ∧ 5 + 1 = 6 := by decide +kernel
theorem zi_43_6 : zraw 43 6 = some (.bipush 33, 2) ∧ zin 128 33 = true ∧ 6 + 2 = 8 := by decide +kernel
theorem zi_43_8 : zraw 43 8 = some (.if_icmp .eq 11, 3) ∧ ((8 : Nat) : Int) + 11 = Int.ofNat 19 ∧ 8 + 3 = 11 := by decide +kernel
theorem zi_43_11 : zraw 43 11 = some (.iload_n 3, 1) ∧ 11 + 1 = 12 := by decide +kernel
theorem zi_43_12 : zraw 43 12 = some (.bipush 63, 2) ∧ zin 128 63 = true ∧ 12 + 2 = 14 := by decide +kernel
theorem zi_43_14 : zraw 43 14 = some (.if_icmp .eq 5, 3) ∧ ((14 : Nat) : Int) + 5 = Int.ofNat 19 ∧ 14 + 3 = 17 := by decide +kernel
theorem zi_43_17 : zraw 43 17 = some (.iconst 0, 1) ∧ zin 128 0 = true ∧ 17 + 1 = 18 := by decide +kernel
theorem zi_43_18 : zraw 43 18 = some (.ireturn, 1) ∧ (zinf 43).2.2.2.1 = 1 := by decide +kernel
theorem zi_43_19 : zraw 43 19 = some (.iload_n 3, 1) ∧ 19 + 1 = 20 := by decide +kernel
theorem zi_43_20 : zraw 43 20 = some (.bipush 63, 2) ∧ zin 128 63 = true ∧ 20 + 2 = 22 := by decide +kernel
theorem zi_43_22 : zraw 43 22 = some (.if_icmp .ne 23, 3) ∧ ((22 : Nat) : Int) + 23 = Int.ofNat 45 ∧ 22 + 3 = 25 := by decide +kernel
theorem zi_43_25 : zraw 43 25 = some (.aload_n 0, 1) ∧ 25 + 1 = 26 := by decide +kernel
theorem zi_43_26 : zraw 43 26 = some (.iload_n 2, 1) ∧ 26 + 1 = 27 := by decide +kernel
theorem zi_43_27 : zraw 43 27 = some (.invokevirtual 102, 3) ∧ zmt (zinf 43).1 102 = some 40 ∧ Nat.ble 9000 40 = false ∧ zinf 40 = (4, 2, 2, 2, 0) ∧ 27 + 3 = 30 := by decide +kernel
theorem zi_43_30 : zraw 43 30 = some (.ifCond .ne 15, 3) ∧ ((30 : Nat) : Int) + 15 = Int.ofNat 45 ∧ 30 + 3 = 33 := by decide +kernel
theorem zi_43_33 : zraw 43 33 = some (.aload_n 1, 1) ∧ 33 + 1 = 34 := by decide +kernel
theorem zi_43_34 : zraw 43 34 = some (.iconst 1, 1) ∧ zin 128 1 = true ∧ 34 + 1 = 35 := by decide +kernel
theorem zi_43_35 : zraw 43 35 = some (.aload_n 1, 1) ∧ 35 + 1 = 36 := by decide +kernel
theorem zi_43_36 : zraw 43 36 = some (.getfield 75, 3) ∧ zft (zinf 43).1 75 = some (7, 2, 0, false) ∧ 36 + 3 = 39 := by decide +kernel
theorem zi_43_39 : zraw 43 39 = some (.invokevirtual 106, 3) ∧ zmt (zinf 43).1 106 = some 86 ∧ Nat.ble 9000 86 = false ∧ zinf 86 = (7, 3, 3, 2, 0) ∧ 39 + 3 = 42 := by decide +kernel
theorem zi_43_42 : zraw 43 42 = some (.pop, 1) ∧ 42 + 1 = 43 := by decide +kernel
theorem zi_43_43 : zraw 43 43 = some (.iconst (-1), 1) ∧ zin 128 (-1) = true ∧ 43 + 1 = 44 := by decide +kernel
theorem zi_43_44 : zraw 43 44 = some (.ireturn, 1) ∧ (zinf 43).2.2.2.1 = 1 := by decide +kernel
theorem zi_43_45 : zraw 43 45 = some (.aload_n 1, 1) ∧ 45 + 1 = 46 := by decide +kernel
theorem zi_43_46 : zraw 43 46 = some (.dup, 1) ∧ 46 + 1 = 47 := by decide +kernel
theorem zi_43_47 : zraw 43 47 = some (.getfield 75, 3) ∧ zft (zinf 43).1 75 = some (7, 2, 0, false) ∧ 47 + 3 = 50 := by decide +kernel
theorem zi_43_50 : zraw 43 50 = some (.iconst 1, 1) ∧ zin 128 1 = true ∧ 50 + 1 = 51 := by decide +kernel
theorem zi_43_51 : zraw 43 51 = some (.iadd, 1) ∧ 51 + 1 = 52 := by decide +kernel
theorem zi_43_52 : zraw 43 52 = some (.putfield 75, 3) ∧ zft (zinf 43).1 75 = some (7, 2, 0, false) ∧ 52 + 3 = 55 := by decide +kernel
theorem zi_43_55 : zraw 43 55 = some (.iload_n 3, 1) ∧ 55 + 1 = 56 := by decide +kernel
theorem zi_43_56 : zraw 43 56 = some (.bipush 33, 2) ∧ zin 128 33 = true ∧ 56 + 2 = 58 := by decide +kernel
theorem zi_43_58 : zraw 43 58 = some (.if_icmp .ne 7, 3) ∧ ((58 : Nat) : Int) + 7 = Int.ofNat 65 ∧ 58 + 3 = 61 := by decide +kernel
theorem zi_43_61 : zraw 43 61 = some (.iconst 1, 1) ∧ zin 128 1 = true ∧ 61 + 1 = 62 := by decide +kernel
theorem zi_43_62 : zraw 43 62 = some (.goto 4, 3) ∧ ((62 : Nat) : Int) + 4 = Int.ofNat 66 := by decide +kernel
theorem zi_43_65 : zraw 43 65 = some (.iconst 2, 1) ∧ zin 128 2 = true ∧ 65 + 1 = 66 := by decide +kernel
theorem zi_43_66 : zraw 43 66 = some (.ireturn, 1) ∧ (zinf 43).2.2.2.1 = 1 := by decide +kernel
theorem ze_43 {K : List zF} {σ : zW} {t : Nat} {x2 : Int} (hK : K.length < 60) : zEv true (zent 43 [.inr (.inr t), .inr (.inr 2), .inl x2] :: K) σ = (zEv true (zent 85 [.inr (.inr 2)] :: (43, 4, [some (.inr (.inr t)), some (.inr (.inr 2)), some (.inl x2), none], []) :: K) σ) :=
  yT_en (f := (43, 0, [some (.inr (.inr t)), some (.inr (.inr 2)), some (.inl x2), none], [])) rfl (yI_aload_n zi_43_0 rfl <| yI_cv zi_43_1 rfl rfl zk_2 hK)
theorem zr_43_4 {K : List zF} {σ : zW} {x0 : Nat} {x2 : Int} {o3 : Option zV} {v : Int} : zRet true ((43, 4, [some (.inr (.inr x0)), some (.inr (.inr 2)), some (.inl x2), o3], []) :: K) (some (.inl v)) σ = (if v = 33 then zEv true ((43, 19, [some (.inr (.inr x0)), some (.inr (.inr 2)), some (.inl x2), some (.inl v)], []) :: K) σ else if v = 63 then zEv true ((43, 19, [some (.inr (.inr x0)), some (.inr (.inr 2)), some (.inl x2), some (.inl v)], []) :: K) σ else zRet true K (some (.inl 0)) σ) :=
  yT_rt (yI_istore_n (l := [some (.inr (.inr x0)), some (.inr (.inr 2)), some (.inl x2), some (.inl v)]) zi_43_4 rfl rfl <| yI_iload_n zi_43_5 rfl <| yI_bipush zi_43_6 <| yI_ic_eq zi_43_8 <| yBr (rfl) (yI_iload_n zi_43_11 rfl <| yI_bipush zi_43_12 <| yI_ic_eq zi_43_14 <| yBr (rfl) (yI_iconst zi_43_17 <| yI_ireturn zi_43_18)))
theorem zj_43_19 {K : List zF} {σ : zW} {x0 : Nat} {x2 : Int} {x3 : Int} (hK : K.length < 60) (h1 : zPn x0) : zEv true ((43, 19, [some (.inr (.inr x0)), some (.inr (.inr 2)), some (.inl x2), some (.inl x3)], []) :: K) σ = (if ¬ x3 = 63 then zEv true ((43, 45, [some (.inr (.inr x0)), some (.inr (.inr 2)), some (.inl x2), some (.inl x3)], []) :: K) σ else zEv true (zent 40 [.inr (.inr x0), .inl x2] :: (43, 30, [some (.inr (.inr x0)), some (.inr (.inr 2)), some (.inl x2), some (.inl x3)], []) :: K) σ) :=
  yI_iload_n zi_43_19 rfl <| yI_bipush zi_43_20 <| yI_ic_ne zi_43_22 <| yBr (rfl) (yI_aload_n zi_43_25 rfl <| yI_iload_n zi_43_26 rfl <| yI_cv zi_43_27 rfl rfl (zPn_k h1) hK)
theorem zj_43_45 {K : List zF} {σ : zW} {o0 : Option zV} {o2 : Option zV} {x3 : Int} : zEv true ((43, 45, [o0, some (.inr (.inr 2)), o2, some (.inl x3)], []) :: K) σ = (zRet true K (some (.inl (if ¬ x3 = 33 then 2 else 1 : Int))) (sI σ 2 2 (w32 ((gI σ 2 2) + 1)))) :=
  yI_aload_n zi_43_45 rfl <| yI_dup_r zi_43_46 <| yI_gf_i (v := gI σ 2 2) zi_43_47 zk_2 rfl <| yI_iconst zi_43_50 <| yI_iadd zi_43_51 <| yI_pf_i zi_43_52 zk_2 <| yI_iload_n zi_43_55 rfl <| yI_bipush zi_43_56 <| yI_ic_ne zi_43_58 <| yMi0 (j := 66) (ls2 := [o0, some (.inr (.inr 2)), o2, some (.inl x3)]) (st2 := []) (x := 2) (y := 1) (σ2 := (sI σ 2 2 (w32 ((gI σ 2 2) + 1)))) (yI_iconst zi_43_65 <| rfl) (yI_iconst zi_43_61 <| yI_goto zi_43_62 <| rfl) <| yI_ireturn zi_43_66
theorem zr_43_30 {K : List zF} {σ : zW} {o0 : Option zV} {o2 : Option zV} {x3 : Int} {v : Int} (hK : K.length < 60) : zRet true ((43, 30, [o0, some (.inr (.inr 2)), o2, some (.inl x3)], []) :: K) (some (.inl v)) σ = (if ¬ v = 0 then zEv true ((43, 45, [o0, some (.inr (.inr 2)), o2, some (.inl x3)], []) :: K) σ else zEv true (zent 86 [.inr (.inr 2), .inl 1, .inl (gI σ 2 2)] :: (43, 42, [o0, some (.inr (.inr 2)), o2, some (.inl x3)], []) :: K) σ) :=
  yT_rt (yI_if_ne zi_43_30 <| yBr (rfl) (yI_aload_n zi_43_33 rfl <| yI_iconst zi_43_34 <| yI_aload_n zi_43_35 rfl <| yI_gf_i (v := gI σ 2 2) zi_43_36 zk_2 rfl <| yI_cv zi_43_39 rfl rfl zk_2 hK))
theorem zr_43_42 {K : List zF} {σ : zW} {o0 : Option zV} {o1 : Option zV} {o2 : Option zV} {o3 : Option zV} {v : Int} : zRet true ((43, 42, [o0, o1, o2, o3], []) :: K) (some (.inl v)) σ = (zRet true K (some (.inl (-1))) σ) :=
  yT_rt (yI_pop_i zi_43_42 <| yI_iconst zi_43_43 <| yI_ireturn zi_43_44)
