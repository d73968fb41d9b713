/-! the trees of methods 110 to 155, written by wip/p24/gen/emit_trees.py -/
/-- 110 Treegrab.parent(II)I -/
theorem zi_110_0 : zraw 110 0 = some (.aload_n 0, 1) ∧ 0 + 1 = 1 := by decide +kernel
theorem zi_110_1 : zraw 110 1 = some (.iload_n 1, 1) ∧ 1 + 1 = 2 := by decide +kernel
theorem zi_110_2 : zraw 110 2 = some (.iload_n 2, 1) ∧ 2 + 1 = 3 := by decide +kernel
theorem zi_110_3 : zraw 110 3 = some (.invokevirtual 161, 3) ∧ zmt (zinf 110).1 161 = some 127 ∧ Nat.ble 9000 127 = false ∧ zinf 127 = (9, 3, 3, 0, 0) ∧ 3 + 3 = 6 := by decide +kernel
theorem zi_110_6 : zraw 110 6 = some (.aload_n 0, 1) ∧ 6 + 1 = 7 := by decide +kernel
theorem zi_110_7 : zraw 110 7 = some (.getfield 19, 3) ∧ zft (zinf 110).1 19 = some (9, 1, 3, true) ∧ 7 + 3 = 10 := by decide +kernel
theorem zi_110_10 : zraw 110 10 = some (.iload_n 1, 1) ∧ 10 + 1 = 11 := by decide +kernel
theorem zi_110_11 : zraw 110 11 = some (.aaload, 1) ∧ 11 + 1 = 12 := by decide +kernel
theorem zi_110_12 : zraw 110 12 = some (.getfield 165, 3) ∧ zft (zinf 110).1 165 = some (8, 2, 3, true) ∧ 12 + 3 = 15 := by decide +kernel
theorem zi_110_15 : zraw 110 15 = some (.iload_n 2, 1) ∧ 15 + 1 = 16 := by decide +kernel
theorem zi_110_16 : zraw 110 16 = some (.iaload, 1) ∧ 16 + 1 = 17 := by decide +kernel
theorem zi_110_17 : zraw 110 17 = some (.ireturn, 1) ∧ (zinf 110).2.2.2.1 = 1 := by decide +kernel
theorem ze_110 {K : List zF} {σ : zW} {x1 : Int} {x2 : Int} (hK : K.length < 60) : zEv true (zent 110 [.inr (.inr 1), .inl x1, .inl x2] :: K) σ = (zEv true (zent 127 [.inr (.inr 1), .inl x1, .inl x2] :: (110, 6, [some (.inr (.inr 1)), some (.inl x1), some (.inl x2)], []) :: K) σ) :=
  yT_en (f := (110, 0, [some (.inr (.inr 1)), some (.inl x1), some (.inl x2)], [])) rfl (yI_aload_n zi_110_0 rfl <| yI_iload_n zi_110_1 rfl <| yI_iload_n zi_110_2 rfl <| yI_cv zi_110_3 rfl rfl zk_1 hK)
theorem zr_110_6 {K : List zF} {σ : zW} {x1 : Int} {x2 : Int} (h1 : zTr (gR σ 4 x1.toNat)) : zRet true ((110, 6, [some (.inr (.inr 1)), some (.inl x1), some (.inl x2)], []) :: K) none σ = ((0 ≤ x1 ∧ x1 < 3) ∧ ((0 ≤ x2 ∧ x2 < 20) ∧ zRet true K (some (.inl (gI σ ((gR σ 4 x1.toNat) + 3) x2.toNat))) σ)) :=
  yT_rv (yI_aload_n zi_110_6 rfl <| yI_gf_f (v := 4) zi_110_7 zk_1 rfl <| yI_iload_n zi_110_10 rfl <| yI_aaloadc (v := gR σ 4 x1.toNat) zi_110_11 za_4 rfl <| yI_gf_f (v := (gR σ 4 x1.toNat) + 3) zi_110_12 (zTr_k h1) rfl <| yI_iload_n zi_110_15 rfl <| yI_ialoadc (v := gI σ ((gR σ 4 x1.toNat) + 3) x2.toNat) zi_110_16 (zTr_a3 h1) rfl <| yI_ireturn zi_110_17)
/-- 111 Treegrab.children(II)I -/
theorem zi_111_0 : zraw 111 0 = some (.aload_n 0, 1) ∧ 0 + 1 = 1 := by decide +kernel
theorem zi_111_1 : zraw 111 1 = some (.iload_n 1, 1) ∧ 1 + 1 = 2 := by decide +kernel
theorem zi_111_2 : zraw 111 2 = some (.iload_n 2, 1) ∧ 2 + 1 = 3 := by decide +kernel
theorem zi_111_3 : zraw 111 3 = some (.invokevirtual 161, 3) ∧ zmt (zinf 111).1 161 = some 127 ∧ Nat.ble 9000 127 = false ∧ zinf 127 = (9, 3, 3, 0, 0) ∧ 3 + 3 = 6 := by decide +kernel
theorem zi_111_6 : zraw 111 6 = some (.aload_n 0, 1) ∧ 6 + 1 = 7 := by decide +kernel
theorem zi_111_7 : zraw 111 7 = some (.getfield 19, 3) ∧ zft (zinf 111).1 19 = some (9, 1, 3, true) ∧ 7 + 3 = 10 := by decide +kernel
theorem zi_111_10 : zraw 111 10 = some (.iload_n 1, 1) ∧ 10 + 1 = 11 := by decide +kernel
theorem zi_111_11 : zraw 111 11 = some (.aaload, 1) ∧ 11 + 1 = 12 := by decide +kernel
theorem zi_111_12 : zraw 111 12 = some (.getfield 169, 3) ∧ zft (zinf 111).1 169 = some (8, 4, 3, true) ∧ 12 + 3 = 15 := by decide +kernel
theorem zi_111_15 : zraw 111 15 = some (.iload_n 2, 1) ∧ 15 + 1 = 16 := by decide +kernel
theorem zi_111_16 : zraw 111 16 = some (.iaload, 1) ∧ 16 + 1 = 17 := by decide +kernel
theorem zi_111_17 : zraw 111 17 = some (.ireturn, 1) ∧ (zinf 111).2.2.2.1 = 1 := by decide +kernel
theorem ze_111 {K : List zF} {σ : zW} {x1 : Int} {x2 : Int} (hK : K.length < 60) : zEv true (zent 111 [.inr (.inr 1), .inl x1, .inl x2] :: K) σ = (zEv true (zent 127 [.inr (.inr 1), .inl x1, .inl x2] :: (111, 6, [some (.inr (.inr 1)), some (.inl x1), some (.inl x2)], []) :: K) σ) :=
  yT_en (f := (111, 0, [some (.inr (.inr 1)), some (.inl x1), some (.inl x2)], [])) rfl (yI_aload_n zi_111_0 rfl <| yI_iload_n zi_111_1 rfl <| yI_iload_n zi_111_2 rfl <| yI_cv zi_111_3 rfl rfl zk_1 hK)
theorem zr_111_6 {K : List zF} {σ : zW} {x1 : Int} {x2 : Int} (h1 : zTr (gR σ 4 x1.toNat)) : zRet true ((111, 6, [some (.inr (.inr 1)), some (.inl x1), some (.inl x2)], []) :: K) none σ = ((0 ≤ x1 ∧ x1 < 3) ∧ ((0 ≤ x2 ∧ x2 < 20) ∧ zRet true K (some (.inl (gI σ ((gR σ 4 x1.toNat) + 5) x2.toNat))) σ)) :=
  yT_rv (yI_aload_n zi_111_6 rfl <| yI_gf_f (v := 4) zi_111_7 zk_1 rfl <| yI_iload_n zi_111_10 rfl <| yI_aaloadc (v := gR σ 4 x1.toNat) zi_111_11 za_4 rfl <| yI_gf_f (v := (gR σ 4 x1.toNat) + 5) zi_111_12 (zTr_k h1) rfl <| yI_iload_n zi_111_15 rfl <| yI_ialoadc (v := gI σ ((gR σ 4 x1.toNat) + 5) x2.toNat) zi_111_16 (zTr_a5 h1) rfl <| yI_ireturn zi_111_17)
/-- 112 Treegrab.wordOf(IIZ)I -/
theorem zi_112_0 : zraw 112 0 = some (.aload_n 0, 1) ∧ 0 + 1 = 1 := by decide +kernel
theorem zi_112_1 : zraw 112 1 = some (.iload_n 1, 1) ∧ 1 + 1 = 2 := by decide +kernel
theorem zi_112_2 : zraw 112 2 = some (.iload_n 2, 1) ∧ 2 + 1 = 3 := by decide +kernel
theorem zi_112_3 : zraw 112 3 = some (.invokevirtual 161, 3) ∧ zmt (zinf 112).1 161 = some 127 ∧ Nat.ble 9000 127 = false ∧ zinf 127 = (9, 3, 3, 0, 0) ∧ 3 + 3 = 6 := by decide +kernel
theorem zi_112_6 : zraw 112 6 = some (.iload_n 3, 1) ∧ 6 + 1 = 7 := by decide +kernel
theorem zi_112_7 : zraw 112 7 = some (.ifCond .eq 17, 3) ∧ ((7 : Nat) : Int) + 17 = Int.ofNat 24 ∧ 7 + 3 = 10 := by decide +kernel
theorem zi_112_10 : zraw 112 10 = some (.aload_n 0, 1) ∧ 10 + 1 = 11 := by decide +kernel
theorem zi_112_11 : zraw 112 11 = some (.getfield 19, 3) ∧ zft (zinf 112).1 19 = some (9, 1, 3, true) ∧ 11 + 3 = 14 := by decide +kernel
theorem zi_112_14 : zraw 112 14 = some (.iload_n 1, 1) ∧ 14 + 1 = 15 := by decide +kernel
theorem zi_112_15 : zraw 112 15 = some (.aaload, 1) ∧ 15 + 1 = 16 := by decide +kernel
theorem zi_112_16 : zraw 112 16 = some (.getfield 172, 3) ∧ zft (zinf 112).1 172 = some (8, 7, 3, true) ∧ 16 + 3 = 19 := by decide +kernel
theorem zi_112_19 : zraw 112 19 = some (.iload_n 2, 1) ∧ 19 + 1 = 20 := by decide +kernel
theorem zi_112_20 : zraw 112 20 = some (.iaload, 1) ∧ 20 + 1 = 21 := by decide +kernel
theorem zi_112_21 : zraw 112 21 = some (.goto 14, 3) ∧ ((21 : Nat) : Int) + 14 = Int.ofNat 35 := by decide +kernel
theorem zi_112_24 : zraw 112 24 = some (.aload_n 0, 1) ∧ 24 + 1 = 25 := by decide +kernel
theorem zi_112_25 : zraw 112 25 = some (.getfield 19, 3) ∧ zft (zinf 112).1 19 = some (9, 1, 3, true) ∧ 25 + 3 = 28 := by decide +kernel
theorem zi_112_28 : zraw 112 28 = some (.iload_n 1, 1) ∧ 28 + 1 = 29 := by decide +kernel
theorem zi_112_29 : zraw 112 29 = some (.aaload, 1) ∧ 29 + 1 = 30 := by decide +kernel
theorem zi_112_30 : zraw 112 30 = some (.getfield 175, 3) ∧ zft (zinf 112).1 175 = some (8, 6, 3, true) ∧ 30 + 3 = 33 := by decide +kernel
theorem zi_112_33 : zraw 112 33 = some (.iload_n 2, 1) ∧ 33 + 1 = 34 := by decide +kernel
theorem zi_112_34 : zraw 112 34 = some (.iaload, 1) ∧ 34 + 1 = 35 := by decide +kernel
theorem zi_112_35 : zraw 112 35 = some (.ireturn, 1) ∧ (zinf 112).2.2.2.1 = 1 := by decide +kernel
theorem ze_112 {K : List zF} {σ : zW} {x1 : Int} {x2 : Int} {x3 : Int} (hK : K.length < 60) : zEv true (zent 112 [.inr (.inr 1), .inl x1, .inl x2, .inl x3] :: K) σ = (zEv true (zent 127 [.inr (.inr 1), .inl x1, .inl x2] :: (112, 6, [some (.inr (.inr 1)), some (.inl x1), some (.inl x2), some (.inl x3)], []) :: K) σ) :=
  yT_en (f := (112, 0, [some (.inr (.inr 1)), some (.inl x1), some (.inl x2), some (.inl x3)], [])) rfl (yI_aload_n zi_112_0 rfl <| yI_iload_n zi_112_1 rfl <| yI_iload_n zi_112_2 rfl <| yI_cv zi_112_3 rfl rfl zk_1 hK)
theorem zr_112_6 {K : List zF} {σ : zW} {x1 : Int} {x2 : Int} {x3 : Int} (h1 : zTr (gR σ 4 x1.toNat)) : zRet true ((112, 6, [some (.inr (.inr 1)), some (.inl x1), some (.inl x2), some (.inl x3)], []) :: K) none σ = (((x3 = 0) → ((0 ≤ x1 ∧ x1 < 3) ∧ (0 ≤ x2 ∧ x2 < 20))) ∧ ((¬ (x3 = 0) → ((0 ≤ x1 ∧ x1 < 3) ∧ (0 ≤ x2 ∧ x2 < 20))) ∧ zRet true K (some (.inl (if x3 = 0 then gI σ ((gR σ 4 x1.toNat) + 7) x2.toNat else gI σ ((gR σ 4 x1.toNat) + 8) x2.toNat : Int))) σ)) :=
  yT_rv (yI_iload_n zi_112_6 rfl <| yI_if_eq zi_112_7 <| yMi3 (j := 35) (ls2 := [some (.inr (.inr 1)), some (.inl x1), some (.inl x2), some (.inl x3)]) (st2 := []) (x := gI σ ((gR σ 4 x1.toNat) + 7) x2.toNat) (y := gI σ ((gR σ 4 x1.toNat) + 8) x2.toNat) (σ2 := σ) ((yI_aload_n zi_112_24 rfl <| yI_gf_f (v := 4) zi_112_25 zk_1 rfl <| yI_iload_n zi_112_28 rfl <| yI_aaloadc (v := gR σ 4 x1.toNat) zi_112_29 za_4 rfl <| yI_gf_f (v := (gR σ 4 x1.toNat) + 7) zi_112_30 (zTr_k h1) rfl <| yI_iload_n zi_112_33 rfl <| yI_ialoadc (v := gI σ ((gR σ 4 x1.toNat) + 7) x2.toNat) zi_112_34 (zTr_a7 h1) rfl <| rfl).trans (propext and_assoc.symm)) ((yI_aload_n zi_112_10 rfl <| yI_gf_f (v := 4) zi_112_11 zk_1 rfl <| yI_iload_n zi_112_14 rfl <| yI_aaloadc (v := gR σ 4 x1.toNat) zi_112_15 za_4 rfl <| yI_gf_f (v := (gR σ 4 x1.toNat) + 8) zi_112_16 (zTr_k h1) rfl <| yI_iload_n zi_112_19 rfl <| yI_ialoadc (v := gI σ ((gR σ 4 x1.toNat) + 8) x2.toNat) zi_112_20 (zTr_a8 h1) rfl <| yI_goto zi_112_21 <| rfl).trans (propext and_assoc.symm)) <| yI_ireturn zi_112_35)
/-- 113 Treegrab.withLabel(I)I -/
theorem zi_113_0 : zraw 113 0 = some (.aload_n 0, 1) ∧ 0 + 1 = 1 := by decide +kernel
theorem zi_113_1 : zraw 113 1 = some (.getfield 10, 3) ∧ zft (zinf 113).1 10 = some (9, 0, 3, true) ∧ 1 + 3 = 4 := by decide +kernel
theorem zi_113_4 : zraw 113 4 = some (.invokevirtual 178, 3) ∧ zmt (zinf 113).1 178 = some 90 ∧ Nat.ble 9000 90 = false ∧ zinf 90 = (7, 1, 2, 3, 0) ∧ 4 + 3 = 7 := by decide +kernel
theorem zi_113_7 : zraw 113 7 = some (.lstore_n 2, 1) ∧ 7 + 1 = 8 := by decide +kernel
theorem zi_113_8 : zraw 113 8 = some (.aload_n 0, 1) ∧ 8 + 1 = 9 := by decide +kernel
theorem zi_113_9 : zraw 113 9 = some (.getfield 10, 3) ∧ zft (zinf 113).1 10 = some (9, 0, 3, true) ∧ 9 + 3 = 12 := by decide +kernel
theorem zi_113_12 : zraw 113 12 = some (.invokevirtual 112, 3) ∧ zmt (zinf 113).1 112 = some 82 ∧ Nat.ble 9000 82 = false ∧ zinf 82 = (7, 1, 1, 0, 0) ∧ 12 + 3 = 15 := by decide +kernel
theorem zi_113_15 : zraw 113 15 = some (.iload_n 1, 1) ∧ 15 + 1 = 16 := by decide +kernel
theorem zi_113_16 : zraw 113 16 = some (.invokestatic 158, 3) ∧ zmt (zinf 113).1 158 = some 126 ∧ Nat.ble 9000 126 = false ∧ zinf 126 = (9, 1, 1, 0, 1) ∧ 16 + 3 = 19 := by decide +kernel
theorem zi_113_19 : zraw 113 19 = some (.lload_n 2, 1) ∧ 19 + 1 = 20 := by decide +kernel
theorem zi_113_20 : zraw 113 20 = some (.lconst 0, 1) ∧ (bif Nat.beq (0 : Fin 2).val 0 then (0 : Int64) else 1) = 0 ∧ 20 + 1 = 21 := by decide +kernel
theorem zi_113_21 : zraw 113 21 = some (.lcmp, 1) ∧ 21 + 1 = 22 := by decide +kernel
theorem zi_113_22 : zraw 113 22 = some (.ifCond .ne 7, 3) ∧ ((22 : Nat) : Int) + 7 = Int.ofNat 29 ∧ 22 + 3 = 25 := by decide +kernel
theorem zi_113_25 : zraw 113 25 = some (.iconst 0, 1) ∧ zin 128 0 = true ∧ 25 + 1 = 26 := by decide +kernel
theorem zi_113_26 : zraw 113 26 = some (.goto 13, 3) ∧ ((26 : Nat) : Int) + 13 = Int.ofNat 39 := by decide +kernel
theorem zi_113_29 : zraw 113 29 = some (.aload_n 0, 1) ∧ 29 + 1 = 30 := by decide +kernel
theorem zi_113_30 : zraw 113 30 = some (.getfield 19, 3) ∧ zft (zinf 113).1 19 = some (9, 1, 3, true) ∧ 30 + 3 = 33 := by decide +kernel
theorem zi_113_33 : zraw 113 33 = some (.iload_n 1, 1) ∧ 33 + 1 = 34 := by decide +kernel
theorem zi_113_34 : zraw 113 34 = some (.aaload, 1) ∧ 34 + 1 = 35 := by decide +kernel
theorem zi_113_35 : zraw 113 35 = some (.lload_n 2, 1) ∧ 35 + 1 = 36 := by decide +kernel
theorem zi_113_36 : zraw 113 36 = some (.invokevirtual 182, 3) ∧ zmt (zinf 113).1 182 = some 99 ∧ Nat.ble 9000 99 = false ∧ zinf 99 = (8, 2, 4, 1, 0) ∧ 36 + 3 = 39 := by decide +kernel
theorem zi_113_39 : zraw 113 39 = some (.ireturn, 1) ∧ (zinf 113).2.2.2.1 = 1 := by decide +kernel
theorem ze_113 {K : List zF} {σ : zW} {x1 : Int} (hK : K.length < 60) : zEv true (zent 113 [.inr (.inr 1), .inl x1] :: K) σ = (zEv true (zent 90 [.inr (.inr 2)] :: (113, 7, [some (.inr (.inr 1)), some (.inl x1), none, none], []) :: K) σ) :=
  yT_en (f := (113, 0, [some (.inr (.inr 1)), some (.inl x1), none, none], [])) rfl (yI_aload_n zi_113_0 rfl <| yI_gf_f (v := 2) zi_113_1 zk_1 rfl <| yI_cv zi_113_4 rfl rfl zk_2 hK)
theorem zr_113_7 {K : List zF} {σ : zW} {x1 : Int} {o2 : Option zV} {o3 : Option zV} {v : Int64} (hK : K.length < 60) : zRet true ((113, 7, [some (.inr (.inr 1)), some (.inl x1), o2, o3], []) :: K) (some (.inr (.inl v))) σ = (zEv true (zent 82 [.inr (.inr 2)] :: (113, 15, [some (.inr (.inr 1)), some (.inl x1), some (.inr (.inl v)), none], []) :: K) σ) :=
  yT_rt (yI_lstore_n (l := [some (.inr (.inr 1)), some (.inl x1), some (.inr (.inl v)), none]) zi_113_7 rfl rfl <| yI_aload_n zi_113_8 rfl <| yI_gf_f (v := 2) zi_113_9 zk_1 rfl <| yI_cv zi_113_12 rfl rfl zk_2 hK)
theorem zr_113_15 {K : List zF} {σ : zW} {x1 : Int} {x2 : Int64} (hK : K.length < 60) : zRet true ((113, 15, [some (.inr (.inr 1)), some (.inl x1), some (.inr (.inl x2)), none], []) :: K) none σ = (zEv true (zent 126 [.inl x1] :: (113, 19, [some (.inr (.inr 1)), some (.inl x1), some (.inr (.inl x2)), none], []) :: K) σ) :=
  yT_rv (yI_iload_n zi_113_15 rfl <| yI_cs zi_113_16 rfl rfl hK)
theorem zr_113_19 {K : List zF} {σ : zW} {x1 : Int} {x2 : Int64} (hK : K.length < 60) (h1 : zTr (gR σ 4 x1.toNat)) : zRet true ((113, 19, [some (.inr (.inr 1)), some (.inl x1), some (.inr (.inl x2)), none], []) :: K) none σ = (if ¬ (zlc x2 0) = 0 then (0 ≤ x1 ∧ x1 < 3) ∧ zEv true (zent 99 [.inr (.inr (gR σ 4 x1.toNat)), .inr (.inl x2)] :: (113, 39, [some (.inr (.inr 1)), some (.inl x1), some (.inr (.inl x2)), none], []) :: K) σ else zRet true K (some (.inl 0)) σ) :=
  yT_rv (yI_lload_n zi_113_19 rfl <| yI_lconst zi_113_20 <| yI_lcmp zi_113_21 <| yI_if_ne zi_113_22 <| yBr (yI_aload_n zi_113_29 rfl <| yI_gf_f (v := 4) zi_113_30 zk_1 rfl <| yI_iload_n zi_113_33 rfl <| yI_aaloadc (v := gR σ 4 x1.toNat) zi_113_34 za_4 rfl <| yI_lload_n zi_113_35 rfl <| yI_cv zi_113_36 rfl rfl (zTr_k h1) hK) (yI_iconst zi_113_25 <| yI_goto zi_113_26 <| yI_ireturn zi_113_39))
theorem zr_113_39 {K : List zF} {σ : zW} {o0 : Option zV} {o1 : Option zV} {o2 : Option zV} {o3 : Option zV} {v : Int} : zRet true ((113, 39, [o0, o1, o2, o3], []) :: K) (some (.inl v)) σ = (zRet true K (some (.inl v)) σ) :=
  yT_rt (yI_ireturn zi_113_39)
/-- 114 Treegrab.withLabelByWalk(I)I -/
theorem zi_114_0 : zraw 114 0 = some (.aload_n 0, 1) ∧ 0 + 1 = 1 := by decide +kernel
theorem zi_114_1 : zraw 114 1 = some (.getfield 10, 3) ∧ zft (zinf 114).1 10 = some (9, 0, 3, true) ∧ 1 + 3 = 4 := by decide +kernel
theorem zi_114_4 : zraw 114 4 = some (.getfield 96, 3) ∧ zft (zinf 114).1 96 = some (7, 1, 0, false) ∧ 4 + 3 = 7 := by decide +kernel
theorem zi_114_7 : zraw 114 7 = some (.istore_n 2, 1) ∧ 7 + 1 = 8 := by decide +kernel
theorem zi_114_8 : zraw 114 8 = some (.aload_n 0, 1) ∧ 8 + 1 = 9 := by decide +kernel
theorem zi_114_9 : zraw 114 9 = some (.getfield 10, 3) ∧ zft (zinf 114).1 10 = some (9, 0, 3, true) ∧ 9 + 3 = 12 := by decide +kernel
theorem zi_114_12 : zraw 114 12 = some (.invokevirtual 112, 3) ∧ zmt (zinf 114).1 112 = some 82 ∧ Nat.ble 9000 82 = false ∧ zinf 82 = (7, 1, 1, 0, 0) ∧ 12 + 3 = 15 := by decide +kernel
theorem zi_114_15 : zraw 114 15 = some (.iload_n 1, 1) ∧ 15 + 1 = 16 := by decide +kernel
theorem zi_114_16 : zraw 114 16 = some (.invokestatic 158, 3) ∧ zmt (zinf 114).1 158 = some 126 ∧ Nat.ble 9000 126 = false ∧ zinf 126 = (9, 1, 1, 0, 1) ∧ 16 + 3 = 19 := by decide +kernel
theorem zi_114_19 : zraw 114 19 = some (.aload_n 0, 1) ∧ 19 + 1 = 20 := by decide +kernel
theorem zi_114_20 : zraw 114 20 = some (.getfield 19, 3) ∧ zft (zinf 114).1 19 = some (9, 1, 3, true) ∧ 20 + 3 = 23 := by decide +kernel
theorem zi_114_23 : zraw 114 23 = some (.iload_n 1, 1) ∧ 23 + 1 = 24 := by decide +kernel
theorem zi_114_24 : zraw 114 24 = some (.aaload, 1) ∧ 24 + 1 = 25 := by decide +kernel
theorem zi_114_25 : zraw 114 25 = some (.aload_n 0, 1) ∧ 25 + 1 = 26 := by decide +kernel
theorem zi_114_26 : zraw 114 26 = some (.getfield 10, 3) ∧ zft (zinf 114).1 10 = some (9, 0, 3, true) ∧ 26 + 3 = 29 := by decide +kernel
theorem zi_114_29 : zraw 114 29 = some (.getfield 186, 3) ∧ zft (zinf 114).1 186 = some (7, 0, 3, true) ∧ 29 + 3 = 32 := by decide +kernel
theorem zi_114_32 : zraw 114 32 = some (.iload_n 2, 1) ∧ 32 + 1 = 33 := by decide +kernel
theorem zi_114_33 : zraw 114 33 = some (.invokevirtual 189, 3) ∧ zmt (zinf 114).1 189 = some 100 ∧ Nat.ble 9000 100 = false ∧ zinf 100 = (8, 3, 5, 1, 0) ∧ 33 + 3 = 36 := by decide +kernel
theorem zi_114_36 : zraw 114 36 = some (.ireturn, 1) ∧ (zinf 114).2.2.2.1 = 1 := by decide +kernel
theorem ze_114 {K : List zF} {σ : zW} {x1 : Int} (hK : K.length < 60) : zEv true (zent 114 [.inr (.inr 1), .inl x1] :: K) σ = (zEv true (zent 82 [.inr (.inr 2)] :: (114, 15, [some (.inr (.inr 1)), some (.inl x1), some (.inl (gI σ 2 1))], []) :: K) σ) :=
  yT_en (f := (114, 0, [some (.inr (.inr 1)), some (.inl x1), none], [])) rfl (yI_aload_n zi_114_0 rfl <| yI_gf_f (v := 2) zi_114_1 zk_1 rfl <| yI_gf_i (v := gI σ 2 1) zi_114_4 zk_2 rfl <| yI_istore_n (l := [some (.inr (.inr 1)), some (.inl x1), some (.inl (gI σ 2 1))]) zi_114_7 rfl rfl <| yI_aload_n zi_114_8 rfl <| yI_gf_f (v := 2) zi_114_9 zk_1 rfl <| yI_cv zi_114_12 rfl rfl zk_2 hK)
theorem zr_114_15 {K : List zF} {σ : zW} {x1 : Int} {x2 : Int} (hK : K.length < 60) : zRet true ((114, 15, [some (.inr (.inr 1)), some (.inl x1), some (.inl x2)], []) :: K) none σ = (zEv true (zent 126 [.inl x1] :: (114, 19, [some (.inr (.inr 1)), some (.inl x1), some (.inl x2)], []) :: K) σ) :=
  yT_rv (yI_iload_n zi_114_15 rfl <| yI_cs zi_114_16 rfl rfl hK)
theorem zr_114_19 {K : List zF} {σ : zW} {x1 : Int} {x2 : Int} (hK : K.length < 60) (h1 : zTr (gR σ 4 x1.toNat)) : zRet true ((114, 19, [some (.inr (.inr 1)), some (.inl x1), some (.inl x2)], []) :: K) none σ = ((0 ≤ x1 ∧ x1 < 3) ∧ zEv true (zent 100 [.inr (.inr (gR σ 4 x1.toNat)), .inr (.inr 3), .inl x2] :: (114, 36, [some (.inr (.inr 1)), some (.inl x1), some (.inl x2)], []) :: K) σ) :=
  yT_rv (yI_aload_n zi_114_19 rfl <| yI_gf_f (v := 4) zi_114_20 zk_1 rfl <| yI_iload_n zi_114_23 rfl <| yI_aaloadc (v := gR σ 4 x1.toNat) zi_114_24 za_4 rfl <| yI_aload_n zi_114_25 rfl <| yI_gf_f (v := 2) zi_114_26 zk_1 rfl <| yI_gf_f (v := 3) zi_114_29 zk_2 rfl <| yI_iload_n zi_114_32 rfl <| yI_cv zi_114_33 rfl rfl (zTr_k h1) hK)
theorem zr_114_36 {K : List zF} {σ : zW} {o0 : Option zV} {o1 : Option zV} {o2 : Option zV} {v : Int} : zRet true ((114, 36, [o0, o1, o2], []) :: K) (some (.inl v)) σ = (zRet true K (some (.inl v)) σ) :=
  yT_rt (yI_ireturn zi_114_36)
/-- 115 Treegrab.matches(I)I -/
theorem zi_115_0 : zraw 115 0 = some (.iload_n 1, 1) ∧ 0 + 1 = 1 := by decide +kernel
theorem zi_115_1 : zraw 115 1 = some (.invokestatic 158, 3) ∧ zmt (zinf 115).1 158 = some 126 ∧ Nat.ble 9000 126 = false ∧ zinf 126 = (9, 1, 1, 0, 1) ∧ 1 + 3 = 4 := by decide +kernel
theorem zi_115_4 : zraw 115 4 = some (.aload_n 0, 1) ∧ 4 + 1 = 5 := by decide +kernel
theorem zi_115_5 : zraw 115 5 = some (.iload_n 1, 1) ∧ 5 + 1 = 6 := by decide +kernel
theorem zi_115_6 : zraw 115 6 = some (.invokevirtual 193, 3) ∧ zmt (zinf 115).1 193 = some 133 ∧ Nat.ble 9000 133 = false ∧ zinf 133 = (9, 2, 2, 0, 0) ∧ 6 + 3 = 9 := by decide +kernel
theorem zi_115_9 : zraw 115 9 = some (.aload_n 0, 1) ∧ 9 + 1 = 10 := by decide +kernel
theorem zi_115_10 : zraw 115 10 = some (.getfield 33, 3) ∧ zft (zinf 115).1 33 = some (9, 3, 3, true) ∧ 10 + 3 = 13 := by decide +kernel
theorem zi_115_13 : zraw 115 13 = some (.getfield 196, 3) ∧ zft (zinf 115).1 196 = some (1, 5, 0, false) ∧ 13 + 3 = 16 := by decide +kernel
theorem zi_115_16 : zraw 115 16 = some (.ireturn, 1) ∧ (zinf 115).2.2.2.1 = 1 := by decide +kernel
theorem ze_115 {K : List zF} {σ : zW} {x1 : Int} (hK : K.length < 60) : zEv true (zent 115 [.inr (.inr 1), .inl x1] :: K) σ = (zEv true (zent 126 [.inl x1] :: (115, 4, [some (.inr (.inr 1)), some (.inl x1)], []) :: K) σ) :=
  yT_en (f := (115, 0, [some (.inr (.inr 1)), some (.inl x1)], [])) rfl (yI_iload_n zi_115_0 rfl <| yI_cs zi_115_1 rfl rfl hK)
theorem zr_115_4 {K : List zF} {σ : zW} {x1 : Int} (hK : K.length < 60) : zRet true ((115, 4, [some (.inr (.inr 1)), some (.inl x1)], []) :: K) none σ = (zEv true (zent 133 [.inr (.inr 1), .inl x1] :: (115, 9, [some (.inr (.inr 1)), some (.inl x1)], []) :: K) σ) :=
  yT_rv (yI_aload_n zi_115_4 rfl <| yI_iload_n zi_115_5 rfl <| yI_cv zi_115_6 rfl rfl zk_1 hK)
theorem zr_115_9 {K : List zF} {σ : zW} {o1 : Option zV} : zRet true ((115, 9, [some (.inr (.inr 1)), o1], []) :: K) none σ = (zRet true K (some (.inl (gI σ 50 5))) σ) :=
  yT_rv (yI_aload_n zi_115_9 rfl <| yI_gf_f (v := 50) zi_115_10 zk_1 rfl <| yI_gf_i (v := gI σ 50 5) zi_115_13 zk_50 rfl <| yI_ireturn zi_115_16)
/-- 116 Treegrab.matchesByTrying(I)I -/
theorem zi_116_0 : zraw 116 0 = some (.iload_n 1, 1) ∧ 0 + 1 = 1 := by decide +kernel
theorem zi_116_1 : zraw 116 1 = some (.invokestatic 158, 3) ∧ zmt (zinf 116).1 158 = some 126 ∧ Nat.ble 9000 126 = false ∧ zinf 126 = (9, 1, 1, 0, 1) ∧ 1 + 3 = 4 := by decide +kernel
theorem zi_116_4 : zraw 116 4 = some (.aload_n 0, 1) ∧ 4 + 1 = 5 := by decide +kernel
theorem zi_116_5 : zraw 116 5 = some (.iload_n 1, 1) ∧ 5 + 1 = 6 := by decide +kernel
theorem zi_116_6 : zraw 116 6 = some (.invokevirtual 197, 3) ∧ zmt (zinf 116).1 197 = some 134 ∧ Nat.ble 9000 134 = false ∧ zinf 134 = (9, 2, 2, 0, 0) ∧ 6 + 3 = 9 := by decide +kernel
theorem zi_116_9 : zraw 116 9 = some (.aload_n 0, 1) ∧ 9 + 1 = 10 := by decide +kernel
theorem zi_116_10 : zraw 116 10 = some (.getfield 37, 3) ∧ zft (zinf 116).1 37 = some (9, 4, 3, true) ∧ 10 + 3 = 13 := by decide +kernel
theorem zi_116_13 : zraw 116 13 = some (.getfield 196, 3) ∧ zft (zinf 116).1 196 = some (1, 5, 0, false) ∧ 13 + 3 = 16 := by decide +kernel
theorem zi_116_16 : zraw 116 16 = some (.ireturn, 1) ∧ (zinf 116).2.2.2.1 = 1 := by decide +kernel
theorem ze_116 {K : List zF} {σ : zW} {x1 : Int} (hK : K.length < 60) : zEv true (zent 116 [.inr (.inr 1), .inl x1] :: K) σ = (zEv true (zent 126 [.inl x1] :: (116, 4, [some (.inr (.inr 1)), some (.inl x1)], []) :: K) σ) :=
  yT_en (f := (116, 0, [some (.inr (.inr 1)), some (.inl x1)], [])) rfl (yI_iload_n zi_116_0 rfl <| yI_cs zi_116_1 rfl rfl hK)
theorem zr_116_4 {K : List zF} {σ : zW} {x1 : Int} (hK : K.length < 60) : zRet true ((116, 4, [some (.inr (.inr 1)), some (.inl x1)], []) :: K) none σ = (zEv true (zent 134 [.inr (.inr 1), .inl x1] :: (116, 9, [some (.inr (.inr 1)), some (.inl x1)], []) :: K) σ) :=
  yT_rv (yI_aload_n zi_116_4 rfl <| yI_iload_n zi_116_5 rfl <| yI_cv zi_116_6 rfl rfl zk_1 hK)
theorem zr_116_9 {K : List zF} {σ : zW} {o1 : Option zV} : zRet true ((116, 9, [some (.inr (.inr 1)), o1], []) :: K) none σ = (zRet true K (some (.inl (gI σ 52 5))) σ) :=
  yT_rv (yI_aload_n zi_116_9 rfl <| yI_gf_f (v := 52) zi_116_10 zk_1 rfl <| yI_gf_i (v := gI σ 52 5) zi_116_13 zk_52 rfl <| yI_ireturn zi_116_16)
/-- 117 Treegrab.matchAt(III)I -/
theorem zi_117_0 : zraw 117 0 = some (.iload_n 1, 1) ∧ 0 + 1 = 1 := by decide +kernel
theorem zi_117_1 : zraw 117 1 = some (.invokestatic 158, 3) ∧ zmt (zinf 117).1 158 = some 126 ∧ Nat.ble 9000 126 = false ∧ zinf 126 = (9, 1, 1, 0, 1) ∧ 1 + 3 = 4 := by decide +kernel
theorem zi_117_4 : zraw 117 4 = some (.aload_n 0, 1) ∧ 4 + 1 = 5 := by decide +kernel
theorem zi_117_5 : zraw 117 5 = some (.iload_n 1, 1) ∧ 5 + 1 = 6 := by decide +kernel
theorem zi_117_6 : zraw 117 6 = some (.invokevirtual 193, 3) ∧ zmt (zinf 117).1 193 = some 133 ∧ Nat.ble 9000 133 = false ∧ zinf 133 = (9, 2, 2, 0, 0) ∧ 6 + 3 = 9 := by decide +kernel
theorem zi_117_9 : zraw 117 9 = some (.aload_n 0, 1) ∧ 9 + 1 = 10 := by decide +kernel
theorem zi_117_10 : zraw 117 10 = some (.aload_n 0, 1) ∧ 10 + 1 = 11 := by decide +kernel
theorem zi_117_11 : zraw 117 11 = some (.getfield 33, 3) ∧ zft (zinf 117).1 33 = some (9, 3, 3, true) ∧ 11 + 3 = 14 := by decide +kernel
theorem zi_117_14 : zraw 117 14 = some (.iload_n 2, 1) ∧ 14 + 1 = 15 := by decide +kernel
theorem zi_117_15 : zraw 117 15 = some (.iload_n 3, 1) ∧ 15 + 1 = 16 := by decide +kernel
theorem zi_117_16 : zraw 117 16 = some (.invokevirtual 200, 3) ∧ zmt (zinf 117).1 200 = some 128 ∧ Nat.ble 9000 128 = false ∧ zinf 128 = (9, 4, 4, 0, 0) ∧ 16 + 3 = 19 := by decide +kernel
theorem zi_117_19 : zraw 117 19 = some (.aload_n 0, 1) ∧ 19 + 1 = 20 := by decide +kernel
theorem zi_117_20 : zraw 117 20 = some (.getfield 33, 3) ∧ zft (zinf 117).1 33 = some (9, 3, 3, true) ∧ 20 + 3 = 23 := by decide +kernel
theorem zi_117_23 : zraw 117 23 = some (.iload_n 2, 1) ∧ 23 + 1 = 24 := by decide +kernel
theorem zi_117_24 : zraw 117 24 = some (.iload_n 3, 1) ∧ 24 + 1 = 25 := by decide +kernel
theorem zi_117_25 : zraw 117 25 = some (.invokevirtual 204, 3) ∧ zmt (zinf 117).1 204 = some 26 ∧ Nat.ble 9000 26 = false ∧ zinf 26 = (1, 3, 5, 1, 0) ∧ 25 + 3 = 28 := by decide +kernel
theorem zi_117_28 : zraw 117 28 = some (.ireturn, 1) ∧ (zinf 117).2.2.2.1 = 1 := by decide +kernel
theorem ze_117 {K : List zF} {σ : zW} {x1 : Int} {x2 : Int} {x3 : Int} (hK : K.length < 60) : zEv true (zent 117 [.inr (.inr 1), .inl x1, .inl x2, .inl x3] :: K) σ = (zEv true (zent 126 [.inl x1] :: (117, 4, [some (.inr (.inr 1)), some (.inl x1), some (.inl x2), some (.inl x3)], []) :: K) σ) :=
  yT_en (f := (117, 0, [some (.inr (.inr 1)), some (.inl x1), some (.inl x2), some (.inl x3)], [])) rfl (yI_iload_n zi_117_0 rfl <| yI_cs zi_117_1 rfl rfl hK)
theorem zr_117_4 {K : List zF} {σ : zW} {x1 : Int} {x2 : Int} {x3 : Int} (hK : K.length < 60) : zRet true ((117, 4, [some (.inr (.inr 1)), some (.inl x1), some (.inl x2), some (.inl x3)], []) :: K) none σ = (zEv true (zent 133 [.inr (.inr 1), .inl x1] :: (117, 9, [some (.inr (.inr 1)), some (.inl x1), some (.inl x2), some (.inl x3)], []) :: K) σ) :=
  yT_rv (yI_aload_n zi_117_4 rfl <| yI_iload_n zi_117_5 rfl <| yI_cv zi_117_6 rfl rfl zk_1 hK)
theorem zr_117_9 {K : List zF} {σ : zW} {o1 : Option zV} {x2 : Int} {x3 : Int} (hK : K.length < 60) : zRet true ((117, 9, [some (.inr (.inr 1)), o1, some (.inl x2), some (.inl x3)], []) :: K) none σ = (zEv true (zent 128 [.inr (.inr 1), .inr (.inr 50), .inl x2, .inl x3] :: (117, 19, [some (.inr (.inr 1)), o1, some (.inl x2), some (.inl x3)], []) :: K) σ) :=
  yT_rv (yI_aload_n zi_117_9 rfl <| yI_aload_n zi_117_10 rfl <| yI_gf_f (v := 50) zi_117_11 zk_1 rfl <| yI_iload_n zi_117_14 rfl <| yI_iload_n zi_117_15 rfl <| yI_cv zi_117_16 rfl rfl zk_1 hK)
theorem zr_117_19 {K : List zF} {σ : zW} {o1 : Option zV} {x2 : Int} {x3 : Int} (hK : K.length < 60) : zRet true ((117, 19, [some (.inr (.inr 1)), o1, some (.inl x2), some (.inl x3)], []) :: K) none σ = (zEv true (zent 26 [.inr (.inr 50), .inl x2, .inl x3] :: (117, 28, [some (.inr (.inr 1)), o1, some (.inl x2), some (.inl x3)], []) :: K) σ) :=
  yT_rv (yI_aload_n zi_117_19 rfl <| yI_gf_f (v := 50) zi_117_20 zk_1 rfl <| yI_iload_n zi_117_23 rfl <| yI_iload_n zi_117_24 rfl <| yI_cv zi_117_25 rfl rfl zk_50 hK)
theorem zr_117_28 {K : List zF} {σ : zW} {o0 : Option zV} {o1 : Option zV} {o2 : Option zV} {o3 : Option zV} {v : Int} : zRet true ((117, 28, [o0, o1, o2, o3], []) :: K) (some (.inl v)) σ = (zRet true K (some (.inl v)) σ) :=
  yT_rt (yI_ireturn zi_117_28)
/-- 118 Treegrab.matchAtByTrying(III)I -/
theorem zi_118_0 : zraw 118 0 = some (.iload_n 1, 1) ∧ 0 + 1 = 1 := by decide +kernel
theorem zi_118_1 : zraw 118 1 = some (.invokestatic 158, 3) ∧ zmt (zinf 118).1 158 = some 126 ∧ Nat.ble 9000 126 = false ∧ zinf 126 = (9, 1, 1, 0, 1) ∧ 1 + 3 = 4 := by decide +kernel
theorem zi_118_4 : zraw 118 4 = some (.aload_n 0, 1) ∧ 4 + 1 = 5 := by decide +kernel
theorem zi_118_5 : zraw 118 5 = some (.iload_n 1, 1) ∧ 5 + 1 = 6 := by decide +kernel
theorem zi_118_6 : zraw 118 6 = some (.invokevirtual 197, 3) ∧ zmt (zinf 118).1 197 = some 134 ∧ Nat.ble 9000 134 = false ∧ zinf 134 = (9, 2, 2, 0, 0) ∧ 6 + 3 = 9 := by decide +kernel
theorem zi_118_9 : zraw 118 9 = some (.aload_n 0, 1) ∧ 9 + 1 = 10 := by decide +kernel
theorem zi_118_10 : zraw 118 10 = some (.aload_n 0, 1) ∧ 10 + 1 = 11 := by decide +kernel
theorem zi_118_11 : zraw 118 11 = some (.getfield 37, 3) ∧ zft (zinf 118).1 37 = some (9, 4, 3, true) ∧ 11 + 3 = 14 := by decide +kernel
theorem zi_118_14 : zraw 118 14 = some (.iload_n 2, 1) ∧ 14 + 1 = 15 := by decide +kernel
theorem zi_118_15 : zraw 118 15 = some (.iload_n 3, 1) ∧ 15 + 1 = 16 := by decide +kernel
theorem zi_118_16 : zraw 118 16 = some (.invokevirtual 200, 3) ∧ zmt (zinf 118).1 200 = some 128 ∧ Nat.ble 9000 128 = false ∧ zinf 128 = (9, 4, 4, 0, 0) ∧ 16 + 3 = 19 := by decide +kernel
theorem zi_118_19 : zraw 118 19 = some (.aload_n 0, 1) ∧ 19 + 1 = 20 := by decide +kernel
theorem zi_118_20 : zraw 118 20 = some (.getfield 37, 3) ∧ zft (zinf 118).1 37 = some (9, 4, 3, true) ∧ 20 + 3 = 23 := by decide +kernel
theorem zi_118_23 : zraw 118 23 = some (.iload_n 2, 1) ∧ 23 + 1 = 24 := by decide +kernel
theorem zi_118_24 : zraw 118 24 = some (.iload_n 3, 1) ∧ 24 + 1 = 25 := by decide +kernel
theorem zi_118_25 : zraw 118 25 = some (.invokevirtual 204, 3) ∧ zmt (zinf 118).1 204 = some 26 ∧ Nat.ble 9000 26 = false ∧ zinf 26 = (1, 3, 5, 1, 0) ∧ 25 + 3 = 28 := by decide +kernel
theorem zi_118_28 : zraw 118 28 = some (.ireturn, 1) ∧ (zinf 118).2.2.2.1 = 1 := by decide +kernel
theorem ze_118 {K : List zF} {σ : zW} {x1 : Int} {x2 : Int} {x3 : Int} (hK : K.length < 60) : zEv true (zent 118 [.inr (.inr 1), .inl x1, .inl x2, .inl x3] :: K) σ = (zEv true (zent 126 [.inl x1] :: (118, 4, [some (.inr (.inr 1)), some (.inl x1), some (.inl x2), some (.inl x3)], []) :: K) σ) :=
  yT_en (f := (118, 0, [some (.inr (.inr 1)), some (.inl x1), some (.inl x2), some (.inl x3)], [])) rfl (yI_iload_n zi_118_0 rfl <| yI_cs zi_118_1 rfl rfl hK)
theorem zr_118_4 {K : List zF} {σ : zW} {x1 : Int} {x2 : Int} {x3 : Int} (hK : K.length < 60) : zRet true ((118, 4, [some (.inr (.inr 1)), some (.inl x1), some (.inl x2), some (.inl x3)], []) :: K) none σ = (zEv true (zent 134 [.inr (.inr 1), .inl x1] :: (118, 9, [some (.inr (.inr 1)), some (.inl x1), some (.inl x2), some (.inl x3)], []) :: K) σ) :=
  yT_rv (yI_aload_n zi_118_4 rfl <| yI_iload_n zi_118_5 rfl <| yI_cv zi_118_6 rfl rfl zk_1 hK)
theorem zr_118_9 {K : List zF} {σ : zW} {o1 : Option zV} {x2 : Int} {x3 : Int} (hK : K.length < 60) : zRet true ((118, 9, [some (.inr (.inr 1)), o1, some (.inl x2), some (.inl x3)], []) :: K) none σ = (zEv true (zent 128 [.inr (.inr 1), .inr (.inr 52), .inl x2, .inl x3] :: (118, 19, [some (.inr (.inr 1)), o1, some (.inl x2), some (.inl x3)], []) :: K) σ) :=
  yT_rv (yI_aload_n zi_118_9 rfl <| yI_aload_n zi_118_10 rfl <| yI_gf_f (v := 52) zi_118_11 zk_1 rfl <| yI_iload_n zi_118_14 rfl <| yI_iload_n zi_118_15 rfl <| yI_cv zi_118_16 rfl rfl zk_1 hK)
theorem zr_118_19 {K : List zF} {σ : zW} {o1 : Option zV} {x2 : Int} {x3 : Int} (hK : K.length < 60) : zRet true ((118, 19, [some (.inr (.inr 1)), o1, some (.inl x2), some (.inl x3)], []) :: K) none σ = (zEv true (zent 26 [.inr (.inr 52), .inl x2, .inl x3] :: (118, 28, [some (.inr (.inr 1)), o1, some (.inl x2), some (.inl x3)], []) :: K) σ) :=
  yT_rv (yI_aload_n zi_118_19 rfl <| yI_gf_f (v := 52) zi_118_20 zk_1 rfl <| yI_iload_n zi_118_23 rfl <| yI_iload_n zi_118_24 rfl <| yI_cv zi_118_25 rfl rfl zk_52 hK)
theorem zr_118_28 {K : List zF} {σ : zW} {o0 : Option zV} {o1 : Option zV} {o2 : Option zV} {o3 : Option zV} {v : Int} : zRet true ((118, 28, [o0, o1, o2, o3], []) :: K) (some (.inl v)) σ = (zRet true K (some (.inl v)) σ) :=
  yT_rt (yI_ireturn zi_118_28)
/-- 119 Treegrab.planAt(II)I -/
theorem zi_119_0 : zraw 119 0 = some (.iload_n 1, 1) ∧ 0 + 1 = 1 := by decide +kernel
theorem zi_119_1 : zraw 119 1 = some (.invokestatic 158, 3) ∧ zmt (zinf 119).1 158 = some 126 ∧ Nat.ble 9000 126 = false ∧ zinf 126 = (9, 1, 1, 0, 1) ∧ 1 + 3 = 4 := by decide +kernel
theorem zi_119_4 : zraw 119 4 = some (.aload_n 0, 1) ∧ 4 + 1 = 5 := by decide +kernel
theorem zi_119_5 : zraw 119 5 = some (.iload_n 1, 1) ∧ 5 + 1 = 6 := by decide +kernel
theorem zi_119_6 : zraw 119 6 = some (.invokevirtual 208, 3) ∧ zmt (zinf 119).1 208 = some 130 ∧ Nat.ble 9000 130 = false ∧ zinf 130 = (9, 2, 2, 2, 0) ∧ 6 + 3 = 9 := by decide +kernel
theorem zi_119_9 : zraw 119 9 = some (.ifCond .eq 13, 3) ∧ ((9 : Nat) : Int) + 13 = Int.ofNat 22 ∧ 9 + 3 = 12 := by decide +kernel
theorem zi_119_12 : zraw 119 12 = some (.new 115, 3) ∧ zths 119 12 = some 2 := by decide +kernel
theorem zi_119_22 : zraw 119 22 = some (.aload_n 0, 1) ∧ 22 + 1 = 23 := by decide +kernel
theorem zi_119_23 : zraw 119 23 = some (.iload_n 1, 1) ∧ 23 + 1 = 24 := by decide +kernel
theorem zi_119_24 : zraw 119 24 = some (.invokevirtual 213, 3) ∧ zmt (zinf 119).1 213 = some 131 ∧ Nat.ble 9000 131 = false ∧ zinf 131 = (9, 2, 2, 0, 0) ∧ 24 + 3 = 27 := by decide +kernel
theorem zi_119_27 : zraw 119 27 = some (.iload_n 2, 1) ∧ 27 + 1 = 28 := by decide +kernel
theorem zi_119_28 : zraw 119 28 = some (.ifCond .lt 14, 3) ∧ ((28 : Nat) : Int) + 14 = Int.ofNat 42 ∧ 28 + 3 = 31 := by decide +kernel
theorem zi_119_31 : zraw 119 31 = some (.iload_n 2, 1) ∧ 31 + 1 = 32 := by decide +kernel
theorem zi_119_32 : zraw 119 32 = some (.aload_n 0, 1) ∧ 32 + 1 = 33 := by decide +kernel
theorem zi_119_33 : zraw 119 33 = some (.getfield 26, 3) ∧ zft (zinf 119).1 26 = some (9, 2, 3, true) ∧ 33 + 3 = 36 := by decide +kernel
theorem zi_119_36 : zraw 119 36 = some (.getfield 216, 3) ∧ zft (zinf 119).1 216 = some (6, 8, 0, false) ∧ 36 + 3 = 39 := by decide +kernel
theorem zi_119_39 : zraw 119 39 = some (.if_icmp .lt 13, 3) ∧ ((39 : Nat) : Int) + 13 = Int.ofNat 52 ∧ 39 + 3 = 42 := by decide +kernel
theorem zi_119_42 : zraw 119 42 = some (.new 115, 3) ∧ zths 119 42 = some 2 := by decide +kernel
theorem zi_119_52 : zraw 119 52 = some (.aload_n 0, 1) ∧ 52 + 1 = 53 := by decide +kernel
theorem zi_119_53 : zraw 119 53 = some (.getfield 26, 3) ∧ zft (zinf 119).1 26 = some (9, 2, 3, true) ∧ 53 + 3 = 56 := by decide +kernel
theorem zi_119_56 : zraw 119 56 = some (.getfield 221, 3) ∧ zft (zinf 119).1 221 = some (6, 7, 3, true) ∧ 56 + 3 = 59 := by decide +kernel
theorem zi_119_59 : zraw 119 59 = some (.iload_n 2, 1) ∧ 59 + 1 = 60 := by decide +kernel
theorem zi_119_60 : zraw 119 60 = some (.iaload, 1) ∧ 60 + 1 = 61 := by decide +kernel
theorem zi_119_61 : zraw 119 61 = some (.ireturn, 1) ∧ (zinf 119).2.2.2.1 = 1 := by decide +kernel
theorem ze_119 {K : List zF} {σ : zW} {x1 : Int} {x2 : Int} (hK : K.length < 60) : zEv true (zent 119 [.inr (.inr 1), .inl x1, .inl x2] :: K) σ = (zEv true (zent 126 [.inl x1] :: (119, 4, [some (.inr (.inr 1)), some (.inl x1), some (.inl x2)], []) :: K) σ) :=
  yT_en (f := (119, 0, [some (.inr (.inr 1)), some (.inl x1), some (.inl x2)], [])) rfl (yI_iload_n zi_119_0 rfl <| yI_cs zi_119_1 rfl rfl hK)
theorem zr_119_4 {K : List zF} {σ : zW} {x1 : Int} {x2 : Int} (hK : K.length < 60) : zRet true ((119, 4, [some (.inr (.inr 1)), some (.inl x1), some (.inl x2)], []) :: K) none σ = (zEv true (zent 130 [.inr (.inr 1), .inl x1] :: (119, 9, [some (.inr (.inr 1)), some (.inl x1), some (.inl x2)], []) :: K) σ) :=
  yT_rv (yI_aload_n zi_119_4 rfl <| yI_iload_n zi_119_5 rfl <| yI_cv zi_119_6 rfl rfl zk_1 hK)
theorem zr_119_9 {K : List zF} {σ : zW} {x1 : Int} {x2 : Int} {v : Int} (hK : K.length < 60) : zRet true ((119, 9, [some (.inr (.inr 1)), some (.inl x1), some (.inl x2)], []) :: K) (some (.inl v)) σ = (if v = 0 then zEv true (zent 131 [.inr (.inr 1), .inl x1] :: (119, 27, [some (.inr (.inr 1)), some (.inl x1), some (.inl x2)], []) :: K) σ else zThr true K 2 (zex σ)) :=
  yT_rt (yI_if_eq zi_119_9 <| yBr (yI_aload_n zi_119_22 rfl <| yI_iload_n zi_119_23 rfl <| yI_cv zi_119_24 rfl rfl zk_1 hK) (yI_throw zi_119_12 rfl))
theorem zr_119_27 {K : List zF} {σ : zW} {o1 : Option zV} {x2 : Int} : zRet true ((119, 27, [some (.inr (.inr 1)), o1, some (.inl x2)], []) :: K) none σ = (if x2 < 0 then zEv true ((119, 42, [some (.inr (.inr 1)), o1, some (.inl x2)], []) :: K) σ else if x2 < (gI σ 41 8) then (0 ≤ x2 ∧ x2 < 4) ∧ zRet true K (some (.inl (gI σ 49 x2.toNat))) σ else zEv true ((119, 42, [some (.inr (.inr 1)), o1, some (.inl x2)], []) :: K) σ) :=
  yT_rv (yI_iload_n zi_119_27 rfl <| yI_if_lt zi_119_28 <| yBr (rfl) (yI_iload_n zi_119_31 rfl <| yI_aload_n zi_119_32 rfl <| yI_gf_f (v := 41) zi_119_33 zk_1 rfl <| yI_gf_i (v := gI σ 41 8) zi_119_36 zk_41 rfl <| yI_ic_lt zi_119_39 <| yBr (yI_aload_n zi_119_52 rfl <| yI_gf_f (v := 41) zi_119_53 zk_1 rfl <| yI_gf_f (v := 49) zi_119_56 zk_41 rfl <| yI_iload_n zi_119_59 rfl <| yI_ialoadc (v := gI σ 49 x2.toNat) zi_119_60 za_49 rfl <| yI_ireturn zi_119_61) (rfl)))
theorem zj_119_42 {K : List zF} {σ : zW} {o0 : Option zV} {o1 : Option zV} {o2 : Option zV} : zEv true ((119, 42, [o0, o1, o2], []) :: K) σ = (zThr true K 2 (zex σ)) :=
  yI_throw zi_119_42 rfl
/-- 120 Treegrab.edit(I)I -/
theorem zi_120_0 : zraw 120 0 = some (.iload_n 1, 1) ∧ 0 + 1 = 1 := by decide +kernel
theorem zi_120_1 : zraw 120 1 = some (.invokestatic 158, 3) ∧ zmt (zinf 120).1 158 = some 126 ∧ Nat.ble 9000 126 = false ∧ zinf 126 = (9, 1, 1, 0, 1) ∧ 1 + 3 = 4 := by decide +kernel
theorem zi_120_4 : zraw 120 4 = some (.aload_n 0, 1) ∧ 4 + 1 = 5 := by decide +kernel
theorem zi_120_5 : zraw 120 5 = some (.iload_n 1, 1) ∧ 5 + 1 = 6 := by decide +kernel
theorem zi_120_6 : zraw 120 6 = some (.invokevirtual 193, 3) ∧ zmt (zinf 120).1 193 = some 133 ∧ Nat.ble 9000 133 = false ∧ zinf 133 = (9, 2, 2, 0, 0) ∧ 6 + 3 = 9 := by decide +kernel
theorem zi_120_9 : zraw 120 9 = some (.aload_n 0, 1) ∧ 9 + 1 = 10 := by decide +kernel
theorem zi_120_10 : zraw 120 10 = some (.getfield 33, 3) ∧ zft (zinf 120).1 33 = some (9, 3, 3, true) ∧ 10 + 3 = 13 := by decide +kernel
theorem zi_120_13 : zraw 120 13 = some (.getfield 196, 3) ∧ zft (zinf 120).1 196 = some (1, 5, 0, false) ∧ 13 + 3 = 16 := by decide +kernel
theorem zi_120_16 : zraw 120 16 = some (.ifCond .ne 5, 3) ∧ ((16 : Nat) : Int) + 5 = Int.ofNat 21 ∧ 16 + 3 = 19 := by decide +kernel
theorem zi_120_19 : zraw 120 19 = some (.iconst 0, 1) ∧ zin 128 0 = true ∧ 19 + 1 = 20 := by decide +kernel
theorem zi_120_20 : zraw 120 20 = some (.ireturn, 1) ∧ (zinf 120).2.2.2.1 = 1 := by decide +kernel
theorem zi_120_21 : zraw 120 21 = some (.aload_n 0, 1) ∧ 21 + 1 = 22 := by decide +kernel
theorem zi_120_22 : zraw 120 22 = some (.getfield 43, 3) ∧ zft (zinf 120).1 43 = some (9, 5, 3, true) ∧ 22 + 3 = 25 := by decide +kernel
theorem zi_120_25 : zraw 120 25 = some (.aload_n 0, 1) ∧ 25 + 1 = 26 := by decide +kernel
theorem zi_120_26 : zraw 120 26 = some (.getfield 19, 3) ∧ zft (zinf 120).1 19 = some (9, 1, 3, true) ∧ 26 + 3 = 29 := by decide +kernel
theorem zi_120_29 : zraw 120 29 = some (.iload_n 1, 1) ∧ 29 + 1 = 30 := by decide +kernel
theorem zi_120_30 : zraw 120 30 = some (.aaload, 1) ∧ 30 + 1 = 31 := by decide +kernel
theorem zi_120_31 : zraw 120 31 = some (.invokevirtual 224, 3) ∧ zmt (zinf 120).1 224 = some 1 ∧ Nat.ble 9000 1 = false ∧ zinf 1 = (0, 2, 3, 0, 0) ∧ 31 + 3 = 34 := by decide +kernel
theorem zi_120_34 : zraw 120 34 = some (.iconst 0, 1) ∧ zin 128 0 = true ∧ 34 + 1 = 35 := by decide +kernel
theorem zi_120_35 : zraw 120 35 = some (.istore_n 2, 1) ∧ 35 + 1 = 36 := by decide +kernel
theorem zi_120_36 : zraw 120 36 = some (.iload_n 2, 1) ∧ 36 + 1 = 37 := by decide +kernel
theorem zi_120_37 : zraw 120 37 = some (.aload_n 0, 1) ∧ 37 + 1 = 38 := by decide +kernel
theorem zi_120_38 : zraw 120 38 = some (.getfield 78, 3) ∧ zft (zinf 120).1 78 = some (9, 11, 3, false) ∧ 38 + 3 = 41 := by decide +kernel
theorem zi_120_41 : zraw 120 41 = some (.getfield 151, 3) ∧ zft (zinf 120).1 151 = some (5, 5, 0, false) ∧ 41 + 3 = 44 := by decide +kernel
theorem zi_120_44 : zraw 120 44 = some (.if_icmp .ge 111, 3) ∧ ((44 : Nat) : Int) + 111 = Int.ofNat 155 ∧ 44 + 3 = 47 := by decide +kernel
theorem zi_120_47 : zraw 120 47 = some (.aload_n 0, 1) ∧ 47 + 1 = 48 := by decide +kernel
theorem zi_120_48 : zraw 120 48 = some (.aload_n 0, 1) ∧ 48 + 1 = 49 := by decide +kernel
theorem zi_120_49 : zraw 120 49 = some (.getfield 78, 3) ∧ zft (zinf 120).1 78 = some (9, 11, 3, false) ∧ 49 + 3 = 52 := by decide +kernel
theorem zi_120_52 : zraw 120 52 = some (.getfield 228, 3) ∧ zft (zinf 120).1 228 = some (5, 1, 3, true) ∧ 52 + 3 = 55 := by decide +kernel
theorem zi_120_55 : zraw 120 55 = some (.iload_n 2, 1) ∧ 55 + 1 = 56 := by decide +kernel
theorem zi_120_56 : zraw 120 56 = some (.iaload, 1) ∧ 56 + 1 = 57 := by decide +kernel
theorem zi_120_57 : zraw 120 57 = some (.invokevirtual 231, 3) ∧ zmt (zinf 120).1 231 = some 135 ∧ Nat.ble 9000 135 = false ∧ zinf 135 = (9, 2, 4, 1, 0) ∧ 57 + 3 = 60 := by decide +kernel
theorem zi_120_60 : zraw 120 60 = some (.istore_n 3, 1) ∧ 60 + 1 = 61 := by decide +kernel
theorem zi_120_61 : zraw 120 61 = some (.aload_n 0, 1) ∧ 61 + 1 = 62 := by decide +kernel
theorem zi_120_62 : zraw 120 62 = some (.aload_n 0, 1) ∧ 62 + 1 = 63 := by decide +kernel
theorem zi_120_63 : zraw 120 63 = some (.getfield 78, 3) ∧ zft (zinf 120).1 78 = some (9, 11, 3, false) ∧ 63 + 3 = 66 := by decide +kernel
theorem zi_120_66 : zraw 120 66 = some (.getfield 235, 3) ∧ zft (zinf 120).1 235 = some (5, 2, 3, true) ∧ 66 + 3 = 69 := by decide +kernel
theorem zi_120_69 : zraw 120 69 = some (.iload_n 2, 1) ∧ 69 + 1 = 70 := by decide +kernel
theorem zi_120_70 : zraw 120 70 = some (.iaload, 1) ∧ 70 + 1 = 71 := by decide +kernel
theorem zi_120_71 : zraw 120 71 = some (.invokevirtual 231, 3) ∧ zmt (zinf 120).1 231 = some 135 ∧ Nat.ble 9000 135 = false ∧ zinf 135 = (9, 2, 4, 1, 0) ∧ 71 + 3 = 74 := by decide +kernel
theorem zi_120_74 : zraw 120 74 = some (.istore 4, 2) ∧ 74 + 2 = 76 := by decide +kernel
theorem zi_120_76 : zraw 120 76 = some (.iload_n 3, 1) ∧ 76 + 1 = 77 := by decide +kernel
theorem zi_120_77 : zraw 120 77 = some (.iconst (-1), 1) ∧ zin 128 (-1) = true ∧ 77 + 1 = 78 := by decide +kernel
theorem zi_120_78 : zraw 120 78 = some (.if_icmp .ne 14, 3) ∧ ((78 : Nat) : Int) + 14 = Int.ofNat 92 ∧ 78 + 3 = 81 := by decide +kernel
theorem zi_120_81 : zraw 120 81 = some (.aload_n 0, 1) ∧ 81 + 1 = 82 := by decide +kernel
theorem zi_120_82 : zraw 120 82 = some (.getfield 78, 3) ∧ zft (zinf 120).1 78 = some (9, 11, 3, false) ∧ 82 + 3 = 85 := by decide +kernel
theorem zi_120_85 : zraw 120 85 = some (.iload_n 2, 1) ∧ 85 + 1 = 86 := by decide +kernel
theorem zi_120_86 : zraw 120 86 = some (.invokevirtual 238, 3) ∧ zmt (zinf 120).1 238 = some 57 ∧ Nat.ble 9000 57 = false ∧ zinf 57 = (5, 2, 2, 2, 0) ∧ 86 + 3 = 89 := by decide +kernel
theorem zi_120_89 : zraw 120 89 = some (.ifCond .ne 24, 3) ∧ ((89 : Nat) : Int) + 24 = Int.ofNat 113 ∧ 89 + 3 = 92 := by decide +kernel
theorem zi_120_92 : zraw 120 92 = some (.iload 4, 2) ∧ 92 + 2 = 94 := by decide +kernel
theorem zi_120_94 : zraw 120 94 = some (.iconst (-1), 1) ∧ zin 128 (-1) = true ∧ 94 + 1 = 95 := by decide +kernel
theorem zi_120_95 : zraw 120 95 = some (.if_icmp .ne 14, 3) ∧ ((95 : Nat) : Int) + 14 = Int.ofNat 109 ∧ 95 + 3 = 98 := by decide +kernel
theorem zi_120_98 : zraw 120 98 = some (.aload_n 0, 1) ∧ 98 + 1 = 99 := by decide +kernel
theorem zi_120_99 : zraw 120 99 = some (.getfield 78, 3) ∧ zft (zinf 120).1 78 = some (9, 11, 3, false) ∧ 99 + 3 = 102 := by decide +kernel
theorem zi_120_102 : zraw 120 102 = some (.iload_n 2, 1) ∧ 102 + 1 = 103 := by decide +kernel
theorem zi_120_103 : zraw 120 103 = some (.invokevirtual 241, 3) ∧ zmt (zinf 120).1 241 = some 58 ∧ Nat.ble 9000 58 = false ∧ zinf 58 = (5, 2, 2, 2, 0) ∧ 103 + 3 = 106 := by decide +kernel
theorem zi_120_106 : zraw 120 106 = some (.ifCond .ne 7, 3) ∧ ((106 : Nat) : Int) + 7 = Int.ofNat 113 ∧ 106 + 3 = 109 := by decide +kernel
theorem zi_120_109 : zraw 120 109 = some (.iconst 1, 1) ∧ zin 128 1 = true ∧ 109 + 1 = 110 := by decide +kernel
theorem zi_120_110 : zraw 120 110 = some (.goto 4, 3) ∧ ((110 : Nat) : Int) + 4 = Int.ofNat 114 := by decide +kernel
theorem zi_120_113 : zraw 120 113 = some (.iconst 0, 1) ∧ zin 128 0 = true ∧ 113 + 1 = 114 := by decide +kernel
theorem zi_120_114 : zraw 120 114 = some (.istore 5, 2) ∧ 114 + 2 = 116 := by decide +kernel
theorem zi_120_116 : zraw 120 116 = some (.iload 5, 2) ∧ 116 + 2 = 118 := by decide +kernel
theorem zi_120_118 : zraw 120 118 = some (.ifCond .eq 31, 3) ∧ ((118 : Nat) : Int) + 31 = Int.ofNat 149 ∧ 118 + 3 = 121 := by decide +kernel
theorem zi_120_121 : zraw 120 121 = some (.aload_n 0, 1) ∧ 121 + 1 = 122 := by decide +kernel
theorem zi_120_122 : zraw 120 122 = some (.getfield 43, 3) ∧ zft (zinf 120).1 43 = some (9, 5, 3, true) ∧ 122 + 3 = 125 := by decide +kernel
theorem zi_120_125 : zraw 120 125 = some (.aload_n 0, 1) ∧ 125 + 1 = 126 := by decide +kernel
theorem zi_120_126 : zraw 120 126 = some (.getfield 78, 3) ∧ zft (zinf 120).1 78 = some (9, 11, 3, false) ∧ 126 + 3 = 129 := by decide +kernel
theorem zi_120_129 : zraw 120 129 = some (.iload_n 2, 1) ∧ 129 + 1 = 130 := by decide +kernel
theorem zi_120_130 : zraw 120 130 = some (.iload_n 3, 1) ∧ 130 + 1 = 131 := by decide +kernel
theorem zi_120_131 : zraw 120 131 = some (.iload 4, 2) ∧ 131 + 2 = 133 := by decide +kernel
theorem zi_120_133 : zraw 120 133 = some (.invokevirtual 244, 3) ∧ zmt (zinf 120).1 244 = some 3 ∧ Nat.ble 9000 3 = false ∧ zinf 3 = (0, 5, 7, 2, 0) ∧ 133 + 3 = 136 := by decide +kernel
theorem zi_120_136 : zraw 120 136 = some (.ifCond .ne 13, 3) ∧ ((136 : Nat) : Int) + 13 = Int.ofNat 149 ∧ 136 + 3 = 139 := by decide +kernel
theorem zi_120_139 : zraw 120 139 = some (.new 99, 3) ∧ zths 120 139 = some 1 := by decide +kernel
theorem zi_120_149 : zraw 120 149 = some (.iinc 2 1, 3) ∧ zin 32768 1 = true ∧ 149 + 3 = 152 := by decide +kernel
theorem zi_120_152 : zraw 120 152 = some (.goto (-116), 3) ∧ ((152 : Nat) : Int) + (-116) = Int.ofNat 36 := by decide +kernel
theorem zi_120_155 : zraw 120 155 = some (.aload_n 0, 1) ∧ 155 + 1 = 156 := by decide +kernel
theorem zi_120_156 : zraw 120 156 = some (.getfield 43, 3) ∧ zft (zinf 120).1 43 = some (9, 5, 3, true) ∧ 156 + 3 = 159 := by decide +kernel
theorem zi_120_159 : zraw 120 159 = some (.getfield 250, 3) ∧ zft (zinf 120).1 250 = some (0, 9, 0, false) ∧ 159 + 3 = 162 := by decide +kernel
theorem zi_120_162 : zraw 120 162 = some (.ifCond .le 34, 3) ∧ ((162 : Nat) : Int) + 34 = Int.ofNat 196 ∧ 162 + 3 = 165 := by decide +kernel
theorem zi_120_165 : zraw 120 165 = some (.aload_n 0, 1) ∧ 165 + 1 = 166 := by decide +kernel
theorem zi_120_166 : zraw 120 166 = some (.getfield 50, 3) ∧ zft (zinf 120).1 50 = some (9, 6, 3, true) ∧ 166 + 3 = 169 := by decide +kernel
theorem zi_120_169 : zraw 120 169 = some (.iload_n 1, 1) ∧ 169 + 1 = 170 := by decide +kernel
theorem zi_120_170 : zraw 120 170 = some (.aload_n 0, 1) ∧ 170 + 1 = 171 := by decide +kernel
theorem zi_120_171 : zraw 120 171 = some (.getfield 19, 3) ∧ zft (zinf 120).1 19 = some (9, 1, 3, true) ∧ 171 + 3 = 174 := by decide +kernel
theorem zi_120_174 : zraw 120 174 = some (.iload_n 1, 1) ∧ 174 + 1 = 175 := by decide +kernel
theorem zi_120_175 : zraw 120 175 = some (.aaload, 1) ∧ 175 + 1 = 176 := by decide +kernel
theorem zi_120_176 : zraw 120 176 = some (.invokevirtual 253, 3) ∧ zmt (zinf 120).1 253 = some 29 ∧ Nat.ble 9000 29 = false ∧ zinf 29 = (2, 3, 4, 0, 0) ∧ 176 + 3 = 179 := by decide +kernel
theorem zi_120_179 : zraw 120 179 = some (.aload_n 0, 1) ∧ 179 + 1 = 180 := by decide +kernel
theorem zi_120_180 : zraw 120 180 = some (.getfield 43, 3) ∧ zft (zinf 120).1 43 = some (9, 5, 3, true) ∧ 180 + 3 = 183 := by decide +kernel
theorem zi_120_183 : zraw 120 183 = some (.aload_n 0, 1) ∧ 183 + 1 = 184 := by decide +kernel
theorem zi_120_184 : zraw 120 184 = some (.getfield 19, 3) ∧ zft (zinf 120).1 19 = some (9, 1, 3, true) ∧ 184 + 3 = 187 := by decide +kernel
theorem zi_120_187 : zraw 120 187 = some (.iload_n 1, 1) ∧ 187 + 1 = 188 := by decide +kernel
theorem zi_120_188 : zraw 120 188 = some (.aaload, 1) ∧ 188 + 1 = 189 := by decide +kernel
theorem zi_120_189 : zraw 120 189 = some (.invokevirtual 257, 3) ∧ zmt (zinf 120).1 257 = some 2 ∧ Nat.ble 9000 2 = false ∧ zinf 2 = (0, 2, 3, 0, 0) ∧ 189 + 3 = 192 := by decide +kernel
theorem zi_120_192 : zraw 120 192 = some (.aload_n 0, 1) ∧ 192 + 1 = 193 := by decide +kernel
theorem zi_120_193 : zraw 120 193 = some (.invokevirtual 136, 3) ∧ zmt (zinf 120).1 136 = some 132 ∧ Nat.ble 9000 132 = false ∧ zinf 132 = (9, 1, 1, 0, 0) ∧ 193 + 3 = 196 := by decide +kernel
theorem zi_120_196 : zraw 120 196 = some (.aload_n 0, 1) ∧ 196 + 1 = 197 := by decide +kernel
theorem zi_120_197 : zraw 120 197 = some (.getfield 43, 3) ∧ zft (zinf 120).1 43 = some (9, 5, 3, true) ∧ 197 + 3 = 200 := by decide +kernel
theorem zi_120_200 : zraw 120 200 = some (.getfield 250, 3) ∧ zft (zinf 120).1 250 = some (0, 9, 0, false) ∧ 200 + 3 = 203 := by decide +kernel
theorem zi_120_203 : zraw 120 203 = some (.ireturn, 1) ∧ (zinf 120).2.2.2.1 = 1 := by decide +kernel
theorem ze_120 {K : List zF} {σ : zW} {x1 : Int} (hK : K.length < 60) : zEv true (zent 120 [.inr (.inr 1), .inl x1] :: K) σ = (zEv true (zent 126 [.inl x1] :: (120, 4, [some (.inr (.inr 1)), some (.inl x1), none, none, none, none], []) :: K) σ) :=
  yT_en (f := (120, 0, [some (.inr (.inr 1)), some (.inl x1), none, none, none, none], [])) rfl (yI_iload_n zi_120_0 rfl <| yI_cs zi_120_1 rfl rfl hK)
theorem zr_120_4 {K : List zF} {σ : zW} {x1 : Int} {o2 : Option zV} {o3 : Option zV} {o4 : Option zV} {o5 : Option zV} (hK : K.length < 60) : zRet true ((120, 4, [some (.inr (.inr 1)), some (.inl x1), o2, o3, o4, o5], []) :: K) none σ = (zEv true (zent 133 [.inr (.inr 1), .inl x1] :: (120, 9, [some (.inr (.inr 1)), some (.inl x1), o2, o3, o4, o5], []) :: K) σ) :=
  yT_rv (yI_aload_n zi_120_4 rfl <| yI_iload_n zi_120_5 rfl <| yI_cv zi_120_6 rfl rfl zk_1 hK)
theorem zr_120_9 {K : List zF} {σ : zW} {x1 : Int} {o2 : Option zV} {o3 : Option zV} {o4 : Option zV} {o5 : Option zV} (hK : K.length < 60) : zRet true ((120, 9, [some (.inr (.inr 1)), some (.inl x1), o2, o3, o4, o5], []) :: K) none σ = (if ¬ (gI σ 50 5) = 0 then (0 ≤ x1 ∧ x1 < 3) ∧ zEv true (zent 1 [.inr (.inr 54), .inr (.inr (gR σ 4 x1.toNat))] :: (120, 34, [some (.inr (.inr 1)), some (.inl x1), o2, o3, o4, o5], []) :: K) σ else zRet true K (some (.inl 0)) σ) :=
  yT_rv (yI_aload_n zi_120_9 rfl <| yI_gf_f (v := 50) zi_120_10 zk_1 rfl <| yI_gf_i (v := gI σ 50 5) zi_120_13 zk_50 rfl <| yI_if_ne zi_120_16 <| yBr (yI_aload_n zi_120_21 rfl <| yI_gf_f (v := 54) zi_120_22 zk_1 rfl <| yI_aload_n zi_120_25 rfl <| yI_gf_f (v := 4) zi_120_26 zk_1 rfl <| yI_iload_n zi_120_29 rfl <| yI_aaloadc (v := gR σ 4 x1.toNat) zi_120_30 za_4 rfl <| yI_cv zi_120_31 rfl rfl zk_54 hK) (yI_iconst zi_120_19 <| yI_ireturn zi_120_20))
theorem zr_120_34 {K : List zF} {σ : zW} {x1 : Int} {o2 : Option zV} {o3 : Option zV} {o4 : Option zV} {o5 : Option zV} : zRet true ((120, 34, [some (.inr (.inr 1)), some (.inl x1), o2, o3, o4, o5], []) :: K) none σ = (zEv true ((120, 36, [some (.inr (.inr 1)), some (.inl x1), some (.inl 0), o3, o4, o5], []) :: K) σ) :=
  yT_rv (yI_iconst zi_120_34 <| yI_istore_n (l := [some (.inr (.inr 1)), some (.inl x1), some (.inl 0), o3, o4, o5]) zi_120_35 rfl rfl <| rfl)
theorem zj_120_36 {K : List zF} {σ : zW} {x1 : Int} {x2 : Int} {o3 : Option zV} {o4 : Option zV} {o5 : Option zV} (hK : K.length < 60) (h1 : zSc (gR σ 1 11)) : zEv true ((120, 36, [some (.inr (.inr 1)), some (.inl x1), some (.inl x2), o3, o4, o5], []) :: K) σ = (if (gI σ (gR σ 1 11) 5) ≤ x2 then if (gI σ 54 9) ≤ 0 then zEv true ((120, 196, [some (.inr (.inr 1)), some (.inl x1), some (.inl x2), o3, o4, o5], []) :: K) σ else (0 ≤ x1 ∧ x1 < 3) ∧ zEv true (zent 29 [.inr (.inr 61), .inl x1, .inr (.inr (gR σ 4 x1.toNat))] :: (120, 179, [some (.inr (.inr 1)), some (.inl x1), some (.inl x2), o3, o4, o5], []) :: K) σ else (0 ≤ x2 ∧ x2 < 8) ∧ zEv true (zent 135 [.inr (.inr 1), .inl (gI σ ((gR σ 1 11) + 2) x2.toNat)] :: (120, 60, [some (.inr (.inr 1)), some (.inl x1), some (.inl x2), o3, o4, o5], []) :: K) σ) :=
  yI_iload_n zi_120_36 rfl <| yI_aload_n zi_120_37 rfl <| yI_gf_r (v := gR σ 1 11) zi_120_38 zk_1 rfl <| yI_gf_i (v := gI σ (gR σ 1 11) 5) zi_120_41 (zSc_k h1) rfl <| yI_ic_ge zi_120_44 <| yBr (yI_aload_n zi_120_155 rfl <| yI_gf_f (v := 54) zi_120_156 zk_1 rfl <| yI_gf_i (v := gI σ 54 9) zi_120_159 zk_54 rfl <| yI_if_le zi_120_162 <| yBr (rfl) (yI_aload_n zi_120_165 rfl <| yI_gf_f (v := 61) zi_120_166 zk_1 rfl <| yI_iload_n zi_120_169 rfl <| yI_aload_n zi_120_170 rfl <| yI_gf_f (v := 4) zi_120_171 zk_1 rfl <| yI_iload_n zi_120_174 rfl <| yI_aaloadc (v := gR σ 4 x1.toNat) zi_120_175 za_4 rfl <| yI_cv zi_120_176 rfl rfl zk_61 hK)) (yI_aload_n zi_120_47 rfl <| yI_aload_n zi_120_48 rfl <| yI_gf_r (v := gR σ 1 11) zi_120_49 zk_1 rfl <| yI_gf_f (v := (gR σ 1 11) + 2) zi_120_52 (zSc_k h1) rfl <| yI_iload_n zi_120_55 rfl <| yI_ialoadc (v := gI σ ((gR σ 1 11) + 2) x2.toNat) zi_120_56 (zSc_a2 h1) rfl <| yI_cv zi_120_57 rfl rfl zk_1 hK)
theorem zj_120_196 {K : List zF} {σ : zW} {o1 : Option zV} {o2 : Option zV} {o3 : Option zV} {o4 : Option zV} {o5 : Option zV} : zEv true ((120, 196, [some (.inr (.inr 1)), o1, o2, o3, o4, o5], []) :: K) σ = (zRet true K (some (.inl (gI σ 54 9))) σ) :=
  yI_aload_n zi_120_196 rfl <| yI_gf_f (v := 54) zi_120_197 zk_1 rfl <| yI_gf_i (v := gI σ 54 9) zi_120_200 zk_54 rfl <| yI_ireturn zi_120_203
theorem zr_120_179 {K : List zF} {σ : zW} {x1 : Int} {o2 : Option zV} {o3 : Option zV} {o4 : Option zV} {o5 : Option zV} (hK : K.length < 60) : zRet true ((120, 179, [some (.inr (.inr 1)), some (.inl x1), o2, o3, o4, o5], []) :: K) none σ = ((0 ≤ x1 ∧ x1 < 3) ∧ zEv true (zent 2 [.inr (.inr 54), .inr (.inr (gR σ 4 x1.toNat))] :: (120, 192, [some (.inr (.inr 1)), some (.inl x1), o2, o3, o4, o5], []) :: K) σ) :=
  yT_rv (yI_aload_n zi_120_179 rfl <| yI_gf_f (v := 54) zi_120_180 zk_1 rfl <| yI_aload_n zi_120_183 rfl <| yI_gf_f (v := 4) zi_120_184 zk_1 rfl <| yI_iload_n zi_120_187 rfl <| yI_aaloadc (v := gR σ 4 x1.toNat) zi_120_188 za_4 rfl <| yI_cv zi_120_189 rfl rfl zk_54 hK)
theorem zr_120_60 {K : List zF} {σ : zW} {x1 : Int} {x2 : Int} {o3 : Option zV} {o4 : Option zV} {o5 : Option zV} {v : Int} (hK : K.length < 60) (h1 : zSc (gR σ 1 11)) : zRet true ((120, 60, [some (.inr (.inr 1)), some (.inl x1), some (.inl x2), o3, o4, o5], []) :: K) (some (.inl v)) σ = ((0 ≤ x2 ∧ x2 < 8) ∧ zEv true (zent 135 [.inr (.inr 1), .inl (gI σ ((gR σ 1 11) + 3) x2.toNat)] :: (120, 74, [some (.inr (.inr 1)), some (.inl x1), some (.inl x2), some (.inl v), o4, o5], []) :: K) σ) :=
  yT_rt (yI_istore_n (l := [some (.inr (.inr 1)), some (.inl x1), some (.inl x2), some (.inl v), o4, o5]) zi_120_60 rfl rfl <| yI_aload_n zi_120_61 rfl <| yI_aload_n zi_120_62 rfl <| yI_gf_r (v := gR σ 1 11) zi_120_63 zk_1 rfl <| yI_gf_f (v := (gR σ 1 11) + 3) zi_120_66 (zSc_k h1) rfl <| yI_iload_n zi_120_69 rfl <| yI_ialoadc (v := gI σ ((gR σ 1 11) + 3) x2.toNat) zi_120_70 (zSc_a3 h1) rfl <| yI_cv zi_120_71 rfl rfl zk_1 hK)
theorem zr_120_192 {K : List zF} {σ : zW} {o1 : Option zV} {o2 : Option zV} {o3 : Option zV} {o4 : Option zV} {o5 : Option zV} (hK : K.length < 60) : zRet true ((120, 192, [some (.inr (.inr 1)), o1, o2, o3, o4, o5], []) :: K) none σ = (zEv true (zent 132 [.inr (.inr 1)] :: (120, 196, [some (.inr (.inr 1)), o1, o2, o3, o4, o5], []) :: K) σ) :=
  yT_rv (yI_aload_n zi_120_192 rfl <| yI_cv zi_120_193 rfl rfl zk_1 hK)
theorem zr_120_74 {K : List zF} {σ : zW} {x1 : Int} {x2 : Int} {x3 : Int} {o4 : Option zV} {o5 : Option zV} {v : Int} (hK : K.length < 60) (h1 : zSc (gR σ 1 11)) : zRet true ((120, 74, [some (.inr (.inr 1)), some (.inl x1), some (.inl x2), some (.inl x3), o4, o5], []) :: K) (some (.inl v)) σ = (if ¬ x3 = (-1) then zEv true ((120, 92, [some (.inr (.inr 1)), some (.inl x1), some (.inl x2), some (.inl x3), some (.inl v), o5], []) :: K) σ else zEv true (zent 57 [.inr (.inr (gR σ 1 11)), .inl x2] :: (120, 89, [some (.inr (.inr 1)), some (.inl x1), some (.inl x2), some (.inl x3), some (.inl v), o5], []) :: K) σ) :=
  yT_rt (yI_istore (l := [some (.inr (.inr 1)), some (.inl x1), some (.inl x2), some (.inl x3), some (.inl v), o5]) zi_120_74 rfl rfl <| yI_iload_n zi_120_76 rfl <| yI_iconst zi_120_77 <| yI_ic_ne zi_120_78 <| yBr (rfl) (yI_aload_n zi_120_81 rfl <| yI_gf_r (v := gR σ 1 11) zi_120_82 zk_1 rfl <| yI_iload_n zi_120_85 rfl <| yI_cv zi_120_86 rfl rfl (zSc_k h1) hK))
theorem zr_120_196 {K : List zF} {σ : zW} {o1 : Option zV} {o2 : Option zV} {o3 : Option zV} {o4 : Option zV} {o5 : Option zV} : zRet true ((120, 196, [some (.inr (.inr 1)), o1, o2, o3, o4, o5], []) :: K) none σ = (zRet true K (some (.inl (gI σ 54 9))) σ) :=
  yT_rv (yI_aload_n zi_120_196 rfl <| yI_gf_f (v := 54) zi_120_197 zk_1 rfl <| yI_gf_i (v := gI σ 54 9) zi_120_200 zk_54 rfl <| yI_ireturn zi_120_203)
theorem zj_120_92 {K : List zF} {σ : zW} {x1 : Int} {x2 : Int} {x3 : Int} {x4 : Int} {o5 : Option zV} (hK : K.length < 60) (h1 : zSc (gR σ 1 11)) : zEv true ((120, 92, [some (.inr (.inr 1)), some (.inl x1), some (.inl x2), some (.inl x3), some (.inl x4), o5], []) :: K) σ = (if ¬ x4 = (-1) then if (1 : Int) = 0 then zEv true ((120, 36, [some (.inr (.inr 1)), some (.inl x1), some (.inl (w32 (x2 + 1))), some (.inl x3), some (.inl x4), some (.inl 1)], []) :: K) σ else zEv true (zent 3 [.inr (.inr 54), .inr (.inr (gR σ 1 11)), .inl x2, .inl x3, .inl x4] :: (120, 136, [some (.inr (.inr 1)), some (.inl x1), some (.inl x2), some (.inl x3), some (.inl x4), some (.inl 1)], []) :: K) σ else zEv true (zent 58 [.inr (.inr (gR σ 1 11)), .inl x2] :: (120, 106, [some (.inr (.inr 1)), some (.inl x1), some (.inl x2), some (.inl x3), some (.inl x4), o5], []) :: K) σ) :=
  yI_iload zi_120_92 rfl <| yI_iconst zi_120_94 <| yI_ic_ne zi_120_95 <| yBr (yI_iconst zi_120_109 <| yI_goto zi_120_110 <| yI_istore (l := [some (.inr (.inr 1)), some (.inl x1), some (.inl x2), some (.inl x3), some (.inl x4), some (.inl 1)]) zi_120_114 rfl rfl <| yI_iload zi_120_116 rfl <| yI_if_eq zi_120_118 <| yBr (yI_iinc (l := [some (.inr (.inr 1)), some (.inl x1), some (.inl (w32 (x2 + 1))), some (.inl x3), some (.inl x4), some (.inl 1)]) zi_120_149 rfl rfl rfl <| yI_goto zi_120_152 <| rfl) (yI_aload_n zi_120_121 rfl <| yI_gf_f (v := 54) zi_120_122 zk_1 rfl <| yI_aload_n zi_120_125 rfl <| yI_gf_r (v := gR σ 1 11) zi_120_126 zk_1 rfl <| yI_iload_n zi_120_129 rfl <| yI_iload_n zi_120_130 rfl <| yI_iload zi_120_131 rfl <| yI_cv zi_120_133 rfl rfl zk_54 hK)) (yI_aload_n zi_120_98 rfl <| yI_gf_r (v := gR σ 1 11) zi_120_99 zk_1 rfl <| yI_iload_n zi_120_102 rfl <| yI_cv zi_120_103 rfl rfl (zSc_k h1) hK)
theorem zr_120_89 {K : List zF} {σ : zW} {x1 : Int} {x2 : Int} {x3 : Int} {x4 : Int} {o5 : Option zV} {v : Int} : zRet true ((120, 89, [some (.inr (.inr 1)), some (.inl x1), some (.inl x2), some (.inl x3), some (.inl x4), o5], []) :: K) (some (.inl v)) σ = (if ¬ v = 0 then zEv true ((120, 113, [some (.inr (.inr 1)), some (.inl x1), some (.inl x2), some (.inl x3), some (.inl x4), o5], []) :: K) σ else zEv true ((120, 92, [some (.inr (.inr 1)), some (.inl x1), some (.inl x2), some (.inl x3), some (.inl x4), o5], []) :: K) σ) :=
  yT_rt (yI_if_ne zi_120_89 <| yBr (rfl) (rfl))
theorem zr_120_106 {K : List zF} {σ : zW} {x1 : Int} {x2 : Int} {x3 : Int} {x4 : Int} {o5 : Option zV} {v : Int} (hK : K.length < 60) : zRet true ((120, 106, [some (.inr (.inr 1)), some (.inl x1), some (.inl x2), some (.inl x3), some (.inl x4), o5], []) :: K) (some (.inl v)) σ = (if ¬ v = 0 then zEv true ((120, 113, [some (.inr (.inr 1)), some (.inl x1), some (.inl x2), some (.inl x3), some (.inl x4), o5], []) :: K) σ else if (1 : Int) = 0 then zEv true ((120, 36, [some (.inr (.inr 1)), some (.inl x1), some (.inl (w32 (x2 + 1))), some (.inl x3), some (.inl x4), some (.inl 1)], []) :: K) σ else zEv true (zent 3 [.inr (.inr 54), .inr (.inr (gR σ 1 11)), .inl x2, .inl x3, .inl x4] :: (120, 136, [some (.inr (.inr 1)), some (.inl x1), some (.inl x2), some (.inl x3), some (.inl x4), some (.inl 1)], []) :: K) σ) :=
  yT_rt (yI_if_ne zi_120_106 <| yBr (rfl) (yI_iconst zi_120_109 <| yI_goto zi_120_110 <| yI_istore (l := [some (.inr (.inr 1)), some (.inl x1), some (.inl x2), some (.inl x3), some (.inl x4), some (.inl 1)]) zi_120_114 rfl rfl <| yI_iload zi_120_116 rfl <| yI_if_eq zi_120_118 <| yBr (yI_iinc (l := [some (.inr (.inr 1)), some (.inl x1), some (.inl (w32 (x2 + 1))), some (.inl x3), some (.inl x4), some (.inl 1)]) zi_120_149 rfl rfl rfl <| yI_goto zi_120_152 <| rfl) (yI_aload_n zi_120_121 rfl <| yI_gf_f (v := 54) zi_120_122 zk_1 rfl <| yI_aload_n zi_120_125 rfl <| yI_gf_r (v := gR σ 1 11) zi_120_126 zk_1 rfl <| yI_iload_n zi_120_129 rfl <| yI_iload_n zi_120_130 rfl <| yI_iload zi_120_131 rfl <| yI_cv zi_120_133 rfl rfl zk_54 hK)))
theorem zr_120_136 {K : List zF} {σ : zW} {x1 : Int} {x2 : Int} {o3 : Option zV} {o4 : Option zV} {o5 : Option zV} {v : Int} : zRet true ((120, 136, [some (.inr (.inr 1)), some (.inl x1), some (.inl x2), o3, o4, o5], []) :: K) (some (.inl v)) σ = (if ¬ v = 0 then zEv true ((120, 36, [some (.inr (.inr 1)), some (.inl x1), some (.inl (w32 (x2 + 1))), o3, o4, o5], []) :: K) σ else zThr true K 1 (zex σ)) :=
  yT_rt (yI_if_ne zi_120_136 <| yBr (yI_iinc (l := [some (.inr (.inr 1)), some (.inl x1), some (.inl (w32 (x2 + 1))), o3, o4, o5]) zi_120_149 rfl rfl rfl <| yI_goto zi_120_152 <| rfl) (yI_throw zi_120_139 rfl))
theorem zj_120_113 {K : List zF} {σ : zW} {x1 : Int} {x2 : Int} {x3 : Int} {x4 : Int} {o5 : Option zV} (hK : K.length < 60) : zEv true ((120, 113, [some (.inr (.inr 1)), some (.inl x1), some (.inl x2), some (.inl x3), some (.inl x4), o5], []) :: K) σ = (if (0 : Int) = 0 then zEv true ((120, 36, [some (.inr (.inr 1)), some (.inl x1), some (.inl (w32 (x2 + 1))), some (.inl x3), some (.inl x4), some (.inl 0)], []) :: K) σ else zEv true (zent 3 [.inr (.inr 54), .inr (.inr (gR σ 1 11)), .inl x2, .inl x3, .inl x4] :: (120, 136, [some (.inr (.inr 1)), some (.inl x1), some (.inl x2), some (.inl x3), some (.inl x4), some (.inl 0)], []) :: K) σ) :=
  yI_iconst zi_120_113 <| yI_istore (l := [some (.inr (.inr 1)), some (.inl x1), some (.inl x2), some (.inl x3), some (.inl x4), some (.inl 0)]) zi_120_114 rfl rfl <| yI_iload zi_120_116 rfl <| yI_if_eq zi_120_118 <| yBr (yI_iinc (l := [some (.inr (.inr 1)), some (.inl x1), some (.inl (w32 (x2 + 1))), some (.inl x3), some (.inl x4), some (.inl 0)]) zi_120_149 rfl rfl rfl <| yI_goto zi_120_152 <| rfl) (yI_aload_n zi_120_121 rfl <| yI_gf_f (v := 54) zi_120_122 zk_1 rfl <| yI_aload_n zi_120_125 rfl <| yI_gf_r (v := gR σ 1 11) zi_120_126 zk_1 rfl <| yI_iload_n zi_120_129 rfl <| yI_iload_n zi_120_130 rfl <| yI_iload zi_120_131 rfl <| yI_cv zi_120_133 rfl rfl zk_54 hK)
/-- 121 Treegrab.undo(I)I -/
theorem zi_121_0 : zraw 121 0 = some (.iload_n 1, 1) ∧ 0 + 1 = 1 := by decide +kernel
theorem zi_121_1 : zraw 121 1 = some (.invokestatic 158, 3) ∧ zmt (zinf 121).1 158 = some 126 ∧ Nat.ble 9000 126 = false ∧ zinf 126 = (9, 1, 1, 0, 1) ∧ 1 + 3 = 4 := by decide +kernel
theorem zi_121_4 : zraw 121 4 = some (.aload_n 0, 1) ∧ 4 + 1 = 5 := by decide +kernel
theorem zi_121_5 : zraw 121 5 = some (.getfield 50, 3) ∧ zft (zinf 121).1 50 = some (9, 6, 3, true) ∧ 5 + 3 = 8 := by decide +kernel
theorem zi_121_8 : zraw 121 8 = some (.iload_n 1, 1) ∧ 8 + 1 = 9 := by decide +kernel
theorem zi_121_9 : zraw 121 9 = some (.aload_n 0, 1) ∧ 9 + 1 = 10 := by decide +kernel
theorem zi_121_10 : zraw 121 10 = some (.getfield 19, 3) ∧ zft (zinf 121).1 19 = some (9, 1, 3, true) ∧ 10 + 3 = 13 := by decide +kernel
theorem zi_121_13 : zraw 121 13 = some (.iload_n 1, 1) ∧ 13 + 1 = 14 := by decide +kernel
theorem zi_121_14 : zraw 121 14 = some (.aaload, 1) ∧ 14 + 1 = 15 := by decide +kernel
theorem zi_121_15 : zraw 121 15 = some (.invokevirtual 260, 3) ∧ zmt (zinf 121).1 260 = some 30 ∧ Nat.ble 9000 30 = false ∧ zinf 30 = (2, 3, 7, 2, 0) ∧ 15 + 3 = 18 := by decide +kernel
theorem zi_121_18 : zraw 121 18 = some (.ifCond .ne 14, 3) ∧ ((18 : Nat) : Int) + 14 = Int.ofNat 32 ∧ 18 + 3 = 21 := by decide +kernel
theorem zi_121_21 : zraw 121 21 = some (.new 99, 3) ∧ zths 121 21 = some 1 := by decide +kernel
theorem zi_121_32 : zraw 121 32 = some (.aload_n 0, 1) ∧ 32 + 1 = 33 := by decide +kernel
theorem zi_121_33 : zraw 121 33 = some (.invokevirtual 136, 3) ∧ zmt (zinf 121).1 136 = some 132 ∧ Nat.ble 9000 132 = false ∧ zinf 132 = (9, 1, 1, 0, 0) ∧ 33 + 3 = 36 := by decide +kernel
theorem zi_121_36 : zraw 121 36 = some (.aload_n 0, 1) ∧ 36 + 1 = 37 := by decide +kernel
theorem zi_121_37 : zraw 121 37 = some (.getfield 19, 3) ∧ zft (zinf 121).1 19 = some (9, 1, 3, true) ∧ 37 + 3 = 40 := by decide +kernel
theorem zi_121_40 : zraw 121 40 = some (.iload_n 1, 1) ∧ 40 + 1 = 41 := by decide +kernel
theorem zi_121_41 : zraw 121 41 = some (.aaload, 1) ∧ 41 + 1 = 42 := by decide +kernel
theorem zi_121_42 : zraw 121 42 = some (.getfield 139, 3) ∧ zft (zinf 121).1 139 = some (8, 12, 0, false) ∧ 42 + 3 = 45 := by decide +kernel
theorem zi_121_45 : zraw 121 45 = some (.ireturn, 1) ∧ (zinf 121).2.2.2.1 = 1 := by decide +kernel
theorem ze_121 {K : List zF} {σ : zW} {x1 : Int} (hK : K.length < 60) : zEv true (zent 121 [.inr (.inr 1), .inl x1] :: K) σ = (zEv true (zent 126 [.inl x1] :: (121, 4, [some (.inr (.inr 1)), some (.inl x1)], []) :: K) σ) :=
  yT_en (f := (121, 0, [some (.inr (.inr 1)), some (.inl x1)], [])) rfl (yI_iload_n zi_121_0 rfl <| yI_cs zi_121_1 rfl rfl hK)
theorem zr_121_4 {K : List zF} {σ : zW} {x1 : Int} (hK : K.length < 60) : zRet true ((121, 4, [some (.inr (.inr 1)), some (.inl x1)], []) :: K) none σ = ((0 ≤ x1 ∧ x1 < 3) ∧ zEv true (zent 30 [.inr (.inr 61), .inl x1, .inr (.inr (gR σ 4 x1.toNat))] :: (121, 18, [some (.inr (.inr 1)), some (.inl x1)], []) :: K) σ) :=
  yT_rv (yI_aload_n zi_121_4 rfl <| yI_gf_f (v := 61) zi_121_5 zk_1 rfl <| yI_iload_n zi_121_8 rfl <| yI_aload_n zi_121_9 rfl <| yI_gf_f (v := 4) zi_121_10 zk_1 rfl <| yI_iload_n zi_121_13 rfl <| yI_aaloadc (v := gR σ 4 x1.toNat) zi_121_14 za_4 rfl <| yI_cv zi_121_15 rfl rfl zk_61 hK)
theorem zr_121_18 {K : List zF} {σ : zW} {x1 : Int} {v : Int} (hK : K.length < 60) : zRet true ((121, 18, [some (.inr (.inr 1)), some (.inl x1)], []) :: K) (some (.inl v)) σ = (if ¬ v = 0 then zEv true (zent 132 [.inr (.inr 1)] :: (121, 36, [some (.inr (.inr 1)), some (.inl x1)], []) :: K) σ else zThr true K 1 (zex σ)) :=
  yT_rt (yI_if_ne zi_121_18 <| yBr (yI_aload_n zi_121_32 rfl <| yI_cv zi_121_33 rfl rfl zk_1 hK) (yI_throw zi_121_21 rfl))
theorem zr_121_36 {K : List zF} {σ : zW} {x1 : Int} (h1 : zTr (gR σ 4 x1.toNat)) : zRet true ((121, 36, [some (.inr (.inr 1)), some (.inl x1)], []) :: K) none σ = ((0 ≤ x1 ∧ x1 < 3) ∧ zRet true K (some (.inl (gI σ (gR σ 4 x1.toNat) 12))) σ) :=
  yT_rv (yI_aload_n zi_121_36 rfl <| yI_gf_f (v := 4) zi_121_37 zk_1 rfl <| yI_iload_n zi_121_40 rfl <| yI_aaloadc (v := gR σ 4 x1.toNat) zi_121_41 za_4 rfl <| yI_gf_i (v := gI σ (gR σ 4 x1.toNat) 12) zi_121_42 (zTr_k h1) rfl <| yI_ireturn zi_121_45)
/-- 122 Treegrab.show(I)I -/
theorem zi_122_0 : zraw 122 0 = some (.iload_n 1, 1) ∧ 0 + 1 = 1 := by decide +kernel
theorem zi_122_1 : zraw 122 1 = some (.invokestatic 158, 3) ∧ zmt (zinf 122).1 158 = some 126 ∧ Nat.ble 9000 126 = false ∧ zinf 126 = (9, 1, 1, 0, 1) ∧ 1 + 3 = 4 := by decide +kernel
theorem zi_122_4 : zraw 122 4 = some (.aload_n 0, 1) ∧ 4 + 1 = 5 := by decide +kernel
theorem zi_122_5 : zraw 122 5 = some (.getfield 57, 3) ∧ zft (zinf 122).1 57 = some (9, 7, 3, true) ∧ 5 + 3 = 8 := by decide +kernel
theorem zi_122_8 : zraw 122 8 = some (.aload_n 0, 1) ∧ 8 + 1 = 9 := by decide +kernel
theorem zi_122_9 : zraw 122 9 = some (.getfield 19, 3) ∧ zft (zinf 122).1 19 = some (9, 1, 3, true) ∧ 9 + 3 = 12 := by decide +kernel
theorem zi_122_12 : zraw 122 12 = some (.iload_n 1, 1) ∧ 12 + 1 = 13 := by decide +kernel
theorem zi_122_13 : zraw 122 13 = some (.aaload, 1) ∧ 13 + 1 = 14 := by decide +kernel
theorem zi_122_14 : zraw 122 14 = some (.invokevirtual 266, 3) ∧ zmt (zinf 122).1 266 = some 34 ∧ Nat.ble 9000 34 = false ∧ zinf 34 = (3, 2, 6, 0, 0) ∧ 14 + 3 = 17 := by decide +kernel
theorem zi_122_17 : zraw 122 17 = some (.aload_n 0, 1) ∧ 17 + 1 = 18 := by decide +kernel
theorem zi_122_18 : zraw 122 18 = some (.getfield 57, 3) ∧ zft (zinf 122).1 57 = some (9, 7, 3, true) ∧ 18 + 3 = 21 := by decide +kernel
theorem zi_122_21 : zraw 122 21 = some (.getfield 269, 3) ∧ zft (zinf 122).1 269 = some (3, 1, 0, false) ∧ 21 + 3 = 24 := by decide +kernel
theorem zi_122_24 : zraw 122 24 = some (.ireturn, 1) ∧ (zinf 122).2.2.2.1 = 1 := by decide +kernel
theorem ze_122 {K : List zF} {σ : zW} {x1 : Int} (hK : K.length < 60) : zEv true (zent 122 [.inr (.inr 1), .inl x1] :: K) σ = (zEv true (zent 126 [.inl x1] :: (122, 4, [some (.inr (.inr 1)), some (.inl x1)], []) :: K) σ) :=
  yT_en (f := (122, 0, [some (.inr (.inr 1)), some (.inl x1)], [])) rfl (yI_iload_n zi_122_0 rfl <| yI_cs zi_122_1 rfl rfl hK)
theorem zr_122_4 {K : List zF} {σ : zW} {x1 : Int} (hK : K.length < 60) : zRet true ((122, 4, [some (.inr (.inr 1)), some (.inl x1)], []) :: K) none σ = ((0 ≤ x1 ∧ x1 < 3) ∧ zEv true (zent 34 [.inr (.inr 66), .inr (.inr (gR σ 4 x1.toNat))] :: (122, 17, [some (.inr (.inr 1)), some (.inl x1)], []) :: K) σ) :=
  yT_rv (yI_aload_n zi_122_4 rfl <| yI_gf_f (v := 66) zi_122_5 zk_1 rfl <| yI_aload_n zi_122_8 rfl <| yI_gf_f (v := 4) zi_122_9 zk_1 rfl <| yI_iload_n zi_122_12 rfl <| yI_aaloadc (v := gR σ 4 x1.toNat) zi_122_13 za_4 rfl <| yI_cv zi_122_14 rfl rfl zk_66 hK)
theorem zr_122_17 {K : List zF} {σ : zW} {o1 : Option zV} : zRet true ((122, 17, [some (.inr (.inr 1)), o1], []) :: K) none σ = (zRet true K (some (.inl (gI σ 66 1))) σ) :=
  yT_rv (yI_aload_n zi_122_17 rfl <| yI_gf_f (v := 66) zi_122_18 zk_1 rfl <| yI_gf_i (v := gI σ 66 1) zi_122_21 zk_66 rfl <| yI_ireturn zi_122_24)
/-- 123 Treegrab.label(II)I -/
theorem zi_123_0 : zraw 123 0 = some (.aload_n 0, 1) ∧ 0 + 1 = 1 := by decide +kernel
theorem zi_123_1 : zraw 123 1 = some (.iload_n 1, 1) ∧ 1 + 1 = 2 := by decide +kernel
theorem zi_123_2 : zraw 123 2 = some (.iload_n 2, 1) ∧ 2 + 1 = 3 := by decide +kernel
theorem zi_123_3 : zraw 123 3 = some (.invokevirtual 161, 3) ∧ zmt (zinf 123).1 161 = some 127 ∧ Nat.ble 9000 127 = false ∧ zinf 127 = (9, 3, 3, 0, 0) ∧ 3 + 3 = 6 := by decide +kernel
theorem zi_123_6 : zraw 123 6 = some (.aload_n 0, 1) ∧ 6 + 1 = 7 := by decide +kernel
theorem zi_123_7 : zraw 123 7 = some (.getfield 57, 3) ∧ zft (zinf 123).1 57 = some (9, 7, 3, true) ∧ 7 + 3 = 10 := by decide +kernel
theorem zi_123_10 : zraw 123 10 = some (.iconst 0, 1) ∧ zin 128 0 = true ∧ 10 + 1 = 11 := by decide +kernel
theorem zi_123_11 : zraw 123 11 = some (.putfield 269, 3) ∧ zft (zinf 123).1 269 = some (3, 1, 0, false) ∧ 11 + 3 = 14 := by decide +kernel
theorem zi_123_14 : zraw 123 14 = some (.aload_n 0, 1) ∧ 14 + 1 = 15 := by decide +kernel
theorem zi_123_15 : zraw 123 15 = some (.getfield 57, 3) ∧ zft (zinf 123).1 57 = some (9, 7, 3, true) ∧ 15 + 3 = 18 := by decide +kernel
theorem zi_123_18 : zraw 123 18 = some (.aload_n 0, 1) ∧ 18 + 1 = 19 := by decide +kernel
theorem zi_123_19 : zraw 123 19 = some (.getfield 19, 3) ∧ zft (zinf 123).1 19 = some (9, 1, 3, true) ∧ 19 + 3 = 22 := by decide +kernel
theorem zi_123_22 : zraw 123 22 = some (.iload_n 1, 1) ∧ 22 + 1 = 23 := by decide +kernel
theorem zi_123_23 : zraw 123 23 = some (.aaload, 1) ∧ 23 + 1 = 24 := by decide +kernel
theorem zi_123_24 : zraw 123 24 = some (.getfield 270, 3) ∧ zft (zinf 123).1 270 = some (8, 0, 3, true) ∧ 24 + 3 = 27 := by decide +kernel
theorem zi_123_27 : zraw 123 27 = some (.iload_n 2, 1) ∧ 27 + 1 = 28 := by decide +kernel
theorem zi_123_28 : zraw 123 28 = some (.laload, 1) ∧ 28 + 1 = 29 := by decide +kernel
theorem zi_123_29 : zraw 123 29 = some (.invokevirtual 274, 3) ∧ zmt (zinf 123).1 274 = some 33 ∧ Nat.ble 9000 33 = false ∧ zinf 33 = (3, 2, 5, 0, 0) ∧ 29 + 3 = 32 := by decide +kernel
theorem zi_123_32 : zraw 123 32 = some (.aload_n 0, 1) ∧ 32 + 1 = 33 := by decide +kernel
theorem zi_123_33 : zraw 123 33 = some (.getfield 57, 3) ∧ zft (zinf 123).1 57 = some (9, 7, 3, true) ∧ 33 + 3 = 36 := by decide +kernel
theorem zi_123_36 : zraw 123 36 = some (.getfield 269, 3) ∧ zft (zinf 123).1 269 = some (3, 1, 0, false) ∧ 36 + 3 = 39 := by decide +kernel
theorem zi_123_39 : zraw 123 39 = some (.ireturn, 1) ∧ (zinf 123).2.2.2.1 = 1 := by decide +kernel
theorem ze_123 {K : List zF} {σ : zW} {x1 : Int} {x2 : Int} (hK : K.length < 60) : zEv true (zent 123 [.inr (.inr 1), .inl x1, .inl x2] :: K) σ = (zEv true (zent 127 [.inr (.inr 1), .inl x1, .inl x2] :: (123, 6, [some (.inr (.inr 1)), some (.inl x1), some (.inl x2)], []) :: K) σ) :=
  yT_en (f := (123, 0, [some (.inr (.inr 1)), some (.inl x1), some (.inl x2)], [])) rfl (yI_aload_n zi_123_0 rfl <| yI_iload_n zi_123_1 rfl <| yI_iload_n zi_123_2 rfl <| yI_cv zi_123_3 rfl rfl zk_1 hK)
theorem zr_123_6 {K : List zF} {σ : zW} {x1 : Int} {x2 : Int} (hK : K.length < 60) (h1 : zTr (gR σ 4 x1.toNat)) : zRet true ((123, 6, [some (.inr (.inr 1)), some (.inl x1), some (.inl x2)], []) :: K) none σ = ((0 ≤ x1 ∧ x1 < 3) ∧ ((0 ≤ x2 ∧ x2 < 20) ∧ zEv true (zent 33 [.inr (.inr 66), .inr (.inl (gL σ ((gR σ 4 x1.toNat) + 1) x2.toNat))] :: (123, 32, [some (.inr (.inr 1)), some (.inl x1), some (.inl x2)], []) :: K) (sI σ 66 1 0))) :=
  yT_rv (yI_aload_n zi_123_6 rfl <| yI_gf_f (v := 66) zi_123_7 zk_1 rfl <| yI_iconst zi_123_10 <| yI_pf_i zi_123_11 zk_66 <| yI_aload_n zi_123_14 rfl <| yI_gf_f (v := 66) zi_123_15 zk_1 rfl <| yI_aload_n zi_123_18 rfl <| yI_gf_f (v := 4) zi_123_19 zk_1 rfl <| yI_iload_n zi_123_22 rfl <| yI_aaloadc (v := gR σ 4 x1.toNat) zi_123_23 za_4 rfl <| yI_gf_f (v := (gR σ 4 x1.toNat) + 1) zi_123_24 (zTr_k h1) rfl <| yI_iload_n zi_123_27 rfl <| yI_laloadc (v := gL σ ((gR σ 4 x1.toNat) + 1) x2.toNat) zi_123_28 (zTr_a1 h1) rfl <| yI_cv zi_123_29 rfl rfl zk_66 hK)
theorem zr_123_32 {K : List zF} {σ : zW} {o1 : Option zV} {o2 : Option zV} : zRet true ((123, 32, [some (.inr (.inr 1)), o1, o2], []) :: K) none σ = (zRet true K (some (.inl (gI σ 66 1))) σ) :=
  yT_rv (yI_aload_n zi_123_32 rfl <| yI_gf_f (v := 66) zi_123_33 zk_1 rfl <| yI_gf_i (v := gI σ 66 1) zi_123_36 zk_66 rfl <| yI_ireturn zi_123_39)
/-- 124 Treegrab.word(I)J -/
theorem zi_124_0 : zraw 124 0 = some (.aload_n 0, 1) ∧ 0 + 1 = 1 := by decide +kernel
theorem zi_124_1 : zraw 124 1 = some (.getfield 57, 3) ∧ zft (zinf 124).1 57 = some (9, 7, 3, true) ∧ 1 + 3 = 4 := by decide +kernel
theorem zi_124_4 : zraw 124 4 = some (.iload_n 1, 1) ∧ 4 + 1 = 5 := by decide +kernel
theorem zi_124_5 : zraw 124 5 = some (.invokevirtual 278, 3) ∧ zmt (zinf 124).1 278 = some 35 ∧ Nat.ble 9000 35 = false ∧ zinf 35 = (3, 2, 5, 3, 0) ∧ 5 + 3 = 8 := by decide +kernel
theorem zi_124_8 : zraw 124 8 = some (.lreturn, 1) ∧ (zinf 124).2.2.2.1 = 3 := by decide +kernel
theorem ze_124 {K : List zF} {σ : zW} {x1 : Int} (hK : K.length < 60) : zEv true (zent 124 [.inr (.inr 1), .inl x1] :: K) σ = (zEv true (zent 35 [.inr (.inr 66), .inl x1] :: (124, 8, [some (.inr (.inr 1)), some (.inl x1)], []) :: K) σ) :=
  yT_en (f := (124, 0, [some (.inr (.inr 1)), some (.inl x1)], [])) rfl (yI_aload_n zi_124_0 rfl <| yI_gf_f (v := 66) zi_124_1 zk_1 rfl <| yI_iload_n zi_124_4 rfl <| yI_cv zi_124_5 rfl rfl zk_66 hK)
theorem zr_124_8 {K : List zF} {σ : zW} {o0 : Option zV} {o1 : Option zV} {v : Int64} : zRet true ((124, 8, [o0, o1], []) :: K) (some (.inr (.inl v))) σ = (zRet true K (some (.inr (.inl v))) σ) :=
  yT_rt (yI_lreturn zi_124_8)
/-- 125 Treegrab.isNoPlace(I)Z -/
theorem zi_125_0 : zraw 125 0 = some (.iload_n 0, 1) ∧ 0 + 1 = 1 := by decide +kernel
theorem zi_125_1 : zraw 125 1 = some (.ifCond .lt 8, 3) ∧ ((1 : Nat) : Int) + 8 = Int.ofNat 9 ∧ 1 + 3 = 4 := by decide +kernel
theorem zi_125_4 : zraw 125 4 = some (.iload_n 0, 1) ∧ 4 + 1 = 5 := by decide +kernel
theorem zi_125_5 : zraw 125 5 = some (.iconst 3, 1) ∧ zin 128 3 = true ∧ 5 + 1 = 6 := by decide +kernel
theorem zi_125_6 : zraw 125 6 = some (.if_icmp .lt 7, 3) ∧ ((6 : Nat) : Int) + 7 = Int.ofNat 13 ∧ 6 + 3 = 9 := by decide +kernel
theorem zi_125_9 : zraw 125 9 = some (.iconst 1, 1) ∧ zin 128 1 = true ∧ 9 + 1 = 10 := by decide +kernel
theorem zi_125_10 : zraw 125 10 = some (.goto 4, 3) ∧ ((10 : Nat) : Int) + 4 = Int.ofNat 14 := by decide +kernel
theorem zi_125_13 : zraw 125 13 = some (.iconst 0, 1) ∧ zin 128 0 = true ∧ 13 + 1 = 14 := by decide +kernel
theorem zi_125_14 : zraw 125 14 = some (.ireturn, 1) ∧ (zinf 125).2.2.2.1 = 2 := by decide +kernel
theorem ze_125 {K : List zF} {σ : zW} {x0 : Int} : zEv true (zent 125 [.inl x0] :: K) σ = (if x0 < 0 then zRet true K (some (.inl 1)) σ else if x0 < 3 then zRet true K (some (.inl 0)) σ else zRet true K (some (.inl 1)) σ) :=
  yT_en (f := (125, 0, [some (.inl x0)], [])) rfl (yI_iload_n zi_125_0 rfl <| yI_if_lt zi_125_1 <| yBr (yI_iconst zi_125_9 <| yI_goto zi_125_10 <| yI_zreturn zi_125_14 (by decide)) (yI_iload_n zi_125_4 rfl <| yI_iconst zi_125_5 <| yI_ic_lt zi_125_6 <| yBr (yI_iconst zi_125_13 <| yI_zreturn zi_125_14 (by decide)) (yI_iconst zi_125_9 <| yI_goto zi_125_10 <| yI_zreturn zi_125_14 (by decide))))
/-- 126 Treegrab.requirePlace(I)V -/
theorem zi_126_0 : zraw 126 0 = some (.iload_n 0, 1) ∧ 0 + 1 = 1 := by decide +kernel
theorem zi_126_1 : zraw 126 1 = some (.invokestatic 108, 3) ∧ zmt (zinf 126).1 108 = some 125 ∧ Nat.ble 9000 125 = false ∧ zinf 125 = (9, 1, 1, 2, 1) ∧ 1 + 3 = 4 := by decide +kernel
theorem zi_126_4 : zraw 126 4 = some (.ifCond .eq 13, 3) ∧ ((4 : Nat) : Int) + 13 = Int.ofNat 17 ∧ 4 + 3 = 7 := by decide +kernel
theorem zi_126_7 : zraw 126 7 = some (.new 115, 3) ∧ zths 126 7 = some 2 := by decide +kernel
theorem zi_126_17 : zraw 126 17 = some (.return_, 1) ∧ (zinf 126).2.2.2.1 = 0 := by decide +kernel
theorem ze_126 {K : List zF} {σ : zW} {x0 : Int} (hK : K.length < 60) : zEv true (zent 126 [.inl x0] :: K) σ = (zEv true (zent 125 [.inl x0] :: (126, 4, [some (.inl x0)], []) :: K) σ) :=
  yT_en (f := (126, 0, [some (.inl x0)], [])) rfl (yI_iload_n zi_126_0 rfl <| yI_cs zi_126_1 rfl rfl hK)
theorem zr_126_4 {K : List zF} {σ : zW} {o0 : Option zV} {v : Int} : zRet true ((126, 4, [o0], []) :: K) (some (.inl v)) σ = (if v = 0 then zRet true K none σ else zThr true K 2 (zex σ)) :=
  yT_rt (yI_if_eq zi_126_4 <| yBr (yI_ret zi_126_17) (yI_throw zi_126_7 rfl))
/-- 127 Treegrab.requireNode(II)V -/
theorem zi_127_0 : zraw 127 0 = some (.iload_n 1, 1) ∧ 0 + 1 = 1 := by decide +kernel
theorem zi_127_1 : zraw 127 1 = some (.invokestatic 158, 3) ∧ zmt (zinf 127).1 158 = some 126 ∧ Nat.ble 9000 126 = false ∧ zinf 126 = (9, 1, 1, 0, 1) ∧ 1 + 3 = 4 := by decide +kernel
theorem zi_127_4 : zraw 127 4 = some (.iload_n 2, 1) ∧ 4 + 1 = 5 := by decide +kernel
theorem zi_127_5 : zraw 127 5 = some (.ifCond .lt 16, 3) ∧ ((5 : Nat) : Int) + 16 = Int.ofNat 21 ∧ 5 + 3 = 8 := by decide +kernel
theorem zi_127_8 : zraw 127 8 = some (.iload_n 2, 1) ∧ 8 + 1 = 9 := by decide +kernel
theorem zi_127_9 : zraw 127 9 = some (.aload_n 0, 1) ∧ 9 + 1 = 10 := by decide +kernel
theorem zi_127_10 : zraw 127 10 = some (.getfield 19, 3) ∧ zft (zinf 127).1 19 = some (9, 1, 3, true) ∧ 10 + 3 = 13 := by decide +kernel
theorem zi_127_13 : zraw 127 13 = some (.iload_n 1, 1) ∧ 13 + 1 = 14 := by decide +kernel
theorem zi_127_14 : zraw 127 14 = some (.aaload, 1) ∧ 14 + 1 = 15 := by decide +kernel
theorem zi_127_15 : zraw 127 15 = some (.getfield 139, 3) ∧ zft (zinf 127).1 139 = some (8, 12, 0, false) ∧ 15 + 3 = 18 := by decide +kernel
theorem zi_127_18 : zraw 127 18 = some (.if_icmp .lt 14, 3) ∧ ((18 : Nat) : Int) + 14 = Int.ofNat 32 ∧ 18 + 3 = 21 := by decide +kernel
theorem zi_127_21 : zraw 127 21 = some (.new 115, 3) ∧ zths 127 21 = some 2 := by decide +kernel
theorem zi_127_32 : zraw 127 32 = some (.return_, 1) ∧ (zinf 127).2.2.2.1 = 0 := by decide +kernel
theorem ze_127 {K : List zF} {σ : zW} {x1 : Int} {x2 : Int} (hK : K.length < 60) : zEv true (zent 127 [.inr (.inr 1), .inl x1, .inl x2] :: K) σ = (zEv true (zent 126 [.inl x1] :: (127, 4, [some (.inr (.inr 1)), some (.inl x1), some (.inl x2)], []) :: K) σ) :=
  yT_en (f := (127, 0, [some (.inr (.inr 1)), some (.inl x1), some (.inl x2)], [])) rfl (yI_iload_n zi_127_0 rfl <| yI_cs zi_127_1 rfl rfl hK)
theorem zr_127_4 {K : List zF} {σ : zW} {x1 : Int} {x2 : Int} (h1 : zTr (gR σ 4 x1.toNat)) : zRet true ((127, 4, [some (.inr (.inr 1)), some (.inl x1), some (.inl x2)], []) :: K) none σ = (if x2 < 0 then zEv true ((127, 21, [some (.inr (.inr 1)), some (.inl x1), some (.inl x2)], []) :: K) σ else (0 ≤ x1 ∧ x1 < 3) ∧ (if x2 < (gI σ (gR σ 4 x1.toNat) 12) then zRet true K none σ else zEv true ((127, 21, [some (.inr (.inr 1)), some (.inl x1), some (.inl x2)], []) :: K) σ)) :=
  yT_rv (yI_iload_n zi_127_4 rfl <| yI_if_lt zi_127_5 <| yBr (rfl) (yI_iload_n zi_127_8 rfl <| yI_aload_n zi_127_9 rfl <| yI_gf_f (v := 4) zi_127_10 zk_1 rfl <| yI_iload_n zi_127_13 rfl <| yI_aaloadc (v := gR σ 4 x1.toNat) zi_127_14 za_4 rfl <| yI_gf_i (v := gI σ (gR σ 4 x1.toNat) 12) zi_127_15 (zTr_k h1) rfl <| yI_ic_lt zi_127_18 <| yBr (yI_ret zi_127_32) (rfl)))
theorem zj_127_21 {K : List zF} {σ : zW} {o0 : Option zV} {o1 : Option zV} {o2 : Option zV} : zEv true ((127, 21, [o0, o1, o2], []) :: K) σ = (zThr true K 2 (zex σ)) :=
  yI_throw zi_127_21 rfl
/-- 128 Treegrab.requireMatch(LTreegrab$Found;II)V -/
theorem zi_128_0 : zraw 128 0 = some (.iload_n 2, 1) ∧ 0 + 1 = 1 := by decide +kernel
theorem zi_128_1 : zraw 128 1 = some (.ifCond .lt 11, 3) ∧ ((1 : Nat) : Int) + 11 = Int.ofNat 12 ∧ 1 + 3 = 4 := by decide +kernel
theorem zi_128_4 : zraw 128 4 = some (.iload_n 2, 1) ∧ 4 + 1 = 5 := by decide +kernel
theorem zi_128_5 : zraw 128 5 = some (.aload_n 1, 1) ∧ 5 + 1 = 6 := by decide +kernel
theorem zi_128_6 : zraw 128 6 = some (.getfield 196, 3) ∧ zft (zinf 128).1 196 = some (1, 5, 0, false) ∧ 6 + 3 = 9 := by decide +kernel
theorem zi_128_9 : zraw 128 9 = some (.if_icmp .lt 14, 3) ∧ ((9 : Nat) : Int) + 14 = Int.ofNat 23 ∧ 9 + 3 = 12 := by decide +kernel
theorem zi_128_12 : zraw 128 12 = some (.new 115, 3) ∧ zths 128 12 = some 2 := by decide +kernel
theorem zi_128_23 : zraw 128 23 = some (.iload_n 3, 1) ∧ 23 + 1 = 24 := by decide +kernel
theorem zi_128_24 : zraw 128 24 = some (.ifCond .lt 14, 3) ∧ ((24 : Nat) : Int) + 14 = Int.ofNat 38 ∧ 24 + 3 = 27 := by decide +kernel
theorem zi_128_27 : zraw 128 27 = some (.iload_n 3, 1) ∧ 27 + 1 = 28 := by decide +kernel
theorem zi_128_28 : zraw 128 28 = some (.aload_n 0, 1) ∧ 28 + 1 = 29 := by decide +kernel
theorem zi_128_29 : zraw 128 29 = some (.getfield 68, 3) ∧ zft (zinf 128).1 68 = some (9, 9, 3, false) ∧ 29 + 3 = 32 := by decide +kernel
theorem zi_128_32 : zraw 128 32 = some (.getfield 145, 3) ∧ zft (zinf 128).1 145 = some (4, 16, 0, false) ∧ 32 + 3 = 35 := by decide +kernel
theorem zi_128_35 : zraw 128 35 = some (.if_icmp .lt 14, 3) ∧ ((35 : Nat) : Int) + 14 = Int.ofNat 49 ∧ 35 + 3 = 38 := by decide +kernel
theorem zi_128_38 : zraw 128 38 = some (.new 115, 3) ∧ zths 128 38 = some 2 := by decide +kernel
theorem zi_128_49 : zraw 128 49 = some (.return_, 1) ∧ (zinf 128).2.2.2.1 = 0 := by decide +kernel
theorem ze_128 {K : List zF} {σ : zW} {x1 : Nat} {x2 : Int} {x3 : Int} (h1 : zFo x1) (h2 : zPn (gR σ 1 9)) : zEv true (zent 128 [.inr (.inr 1), .inr (.inr x1), .inl x2, .inl x3] :: K) σ = (if x2 < 0 then zEv true ((128, 12, [some (.inr (.inr 1)), some (.inr (.inr x1)), some (.inl x2), some (.inl x3)], []) :: K) σ else if x2 < (gI σ x1 5) then if x3 < 0 then zEv true ((128, 38, [some (.inr (.inr 1)), some (.inr (.inr x1)), some (.inl x2), some (.inl x3)], []) :: K) σ else if x3 < (gI σ (gR σ 1 9) 16) then zRet true K none σ else zEv true ((128, 38, [some (.inr (.inr 1)), some (.inr (.inr x1)), some (.inl x2), some (.inl x3)], []) :: K) σ else zEv true ((128, 12, [some (.inr (.inr 1)), some (.inr (.inr x1)), some (.inl x2), some (.inl x3)], []) :: K) σ) :=
  yT_en (f := (128, 0, [some (.inr (.inr 1)), some (.inr (.inr x1)), some (.inl x2), some (.inl x3)], [])) rfl (yI_iload_n zi_128_0 rfl <| yI_if_lt zi_128_1 <| yBr (rfl) (yI_iload_n zi_128_4 rfl <| yI_aload_n zi_128_5 rfl <| yI_gf_i (v := gI σ x1 5) zi_128_6 (zFo_k h1) rfl <| yI_ic_lt zi_128_9 <| yBr (yI_iload_n zi_128_23 rfl <| yI_if_lt zi_128_24 <| yBr (rfl) (yI_iload_n zi_128_27 rfl <| yI_aload_n zi_128_28 rfl <| yI_gf_r (v := gR σ 1 9) zi_128_29 zk_1 rfl <| yI_gf_i (v := gI σ (gR σ 1 9) 16) zi_128_32 (zPn_k h2) rfl <| yI_ic_lt zi_128_35 <| yBr (yI_ret zi_128_49) (rfl))) (rfl)))
theorem zj_128_12 {K : List zF} {σ : zW} {o0 : Option zV} {o1 : Option zV} {o2 : Option zV} {o3 : Option zV} : zEv true ((128, 12, [o0, o1, o2, o3], []) :: K) σ = (zThr true K 2 (zex σ)) :=
  yI_throw zi_128_12 rfl
theorem zj_128_38 {K : List zF} {σ : zW} {o0 : Option zV} {o1 : Option zV} {o2 : Option zV} {o3 : Option zV} : zEv true ((128, 38, [o0, o1, o2, o3], []) :: K) σ = (zThr true K 2 (zex σ)) :=
  yI_throw zi_128_38 rfl
/-- 129 Treegrab.takeFault()V -/
theorem zi_129_0 : zraw 129 0 = some (.aload_n 0, 1) ∧ 0 + 1 = 1 := by decide +kernel
theorem zi_129_1 : zraw 129 1 = some (.aload_n 0, 1) ∧ 1 + 1 = 2 := by decide +kernel
theorem zi_129_2 : zraw 129 2 = some (.getfield 10, 3) ∧ zft (zinf 129).1 10 = some (9, 0, 3, true) ∧ 2 + 3 = 5 := by decide +kernel
theorem zi_129_5 : zraw 129 5 = some (.getfield 288, 3) ∧ zft (zinf 129).1 288 = some (7, 3, 0, false) ∧ 5 + 3 = 8 := by decide +kernel
theorem zi_129_8 : zraw 129 8 = some (.putfield 155, 3) ∧ zft (zinf 129).1 155 = some (9, 13, 0, false) ∧ 8 + 3 = 11 := by decide +kernel
theorem zi_129_11 : zraw 129 11 = some (.aload_n 0, 1) ∧ 11 + 1 = 12 := by decide +kernel
theorem zi_129_12 : zraw 129 12 = some (.aload_n 0, 1) ∧ 12 + 1 = 13 := by decide +kernel
theorem zi_129_13 : zraw 129 13 = some (.getfield 10, 3) ∧ zft (zinf 129).1 10 = some (9, 0, 3, true) ∧ 13 + 3 = 16 := by decide +kernel
theorem zi_129_16 : zraw 129 16 = some (.getfield 291, 3) ∧ zft (zinf 129).1 291 = some (7, 4, 0, false) ∧ 16 + 3 = 19 := by decide +kernel
theorem zi_129_19 : zraw 129 19 = some (.putfield 152, 3) ∧ zft (zinf 129).1 152 = some (9, 14, 0, false) ∧ 19 + 3 = 22 := by decide +kernel
theorem zi_129_22 : zraw 129 22 = some (.aload_n 0, 1) ∧ 22 + 1 = 23 := by decide +kernel
theorem zi_129_23 : zraw 129 23 = some (.getfield 10, 3) ∧ zft (zinf 129).1 10 = some (9, 0, 3, true) ∧ 23 + 3 = 26 := by decide +kernel
theorem zi_129_26 : zraw 129 26 = some (.invokevirtual 112, 3) ∧ zmt (zinf 129).1 112 = some 82 ∧ Nat.ble 9000 82 = false ∧ zinf 82 = (7, 1, 1, 0, 0) ∧ 26 + 3 = 29 := by decide +kernel
theorem zi_129_29 : zraw 129 29 = some (.return_, 1) ∧ (zinf 129).2.2.2.1 = 0 := by decide +kernel
theorem ze_129 {K : List zF} {σ : zW} (hK : K.length < 60) : zEv true (zent 129 [.inr (.inr 1)] :: K) σ = (zEv true (zent 82 [.inr (.inr 2)] :: (129, 29, [some (.inr (.inr 1))], []) :: K) (sI (sI σ 1 13 (gI σ 2 3)) 1 14 (gI σ 2 4))) :=
  yT_en (f := (129, 0, [some (.inr (.inr 1))], [])) rfl (yI_aload_n zi_129_0 rfl <| yI_aload_n zi_129_1 rfl <| yI_gf_f (v := 2) zi_129_2 zk_1 rfl <| yI_gf_i (v := gI σ 2 3) zi_129_5 zk_2 rfl <| yI_pf_i zi_129_8 zk_1 <| yI_aload_n zi_129_11 rfl <| yI_aload_n zi_129_12 rfl <| yI_gf_f (v := 2) zi_129_13 zk_1 rfl <| yI_gf_i (v := gI σ 2 4) zi_129_16 zk_2 (yGI_nk (by decide)) <| yI_pf_i zi_129_19 zk_1 <| yI_aload_n zi_129_22 rfl <| yI_gf_f (v := 2) zi_129_23 zk_1 rfl <| yI_cv zi_129_26 rfl rfl zk_2 hK)
theorem zr_129_29 {K : List zF} {σ : zW} {o0 : Option zV} : zRet true ((129, 29, [o0], []) :: K) none σ = (zRet true K none σ) :=
  yT_rv (yI_ret zi_129_29)
/-- 130 Treegrab.isUnsearchable(I)Z -/
theorem zi_130_0 : zraw 130 0 = some (.aload_n 0, 1) ∧ 0 + 1 = 1 := by decide +kernel
theorem zi_130_1 : zraw 130 1 = some (.getfield 19, 3) ∧ zft (zinf 130).1 19 = some (9, 1, 3, true) ∧ 1 + 3 = 4 := by decide +kernel
theorem zi_130_4 : zraw 130 4 = some (.iload_n 1, 1) ∧ 4 + 1 = 5 := by decide +kernel
theorem zi_130_5 : zraw 130 5 = some (.aaload, 1) ∧ 5 + 1 = 6 := by decide +kernel
theorem zi_130_6 : zraw 130 6 = some (.getfield 139, 3) ∧ zft (zinf 130).1 139 = some (8, 12, 0, false) ∧ 6 + 3 = 9 := by decide +kernel
theorem zi_130_9 : zraw 130 9 = some (.ifCond .eq 13, 3) ∧ ((9 : Nat) : Int) + 13 = Int.ofNat 22 ∧ 9 + 3 = 12 := by decide +kernel
theorem zi_130_12 : zraw 130 12 = some (.aload_n 0, 1) ∧ 12 + 1 = 13 := by decide +kernel
theorem zi_130_13 : zraw 130 13 = some (.getfield 68, 3) ∧ zft (zinf 130).1 68 = some (9, 9, 3, false) ∧ 13 + 3 = 16 := by decide +kernel
theorem zi_130_16 : zraw 130 16 = some (.getfield 294, 3) ∧ zft (zinf 130).1 294 = some (4, 15, 0, false) ∧ 16 + 3 = 19 := by decide +kernel
theorem zi_130_19 : zraw 130 19 = some (.ifCond .ne 7, 3) ∧ ((19 : Nat) : Int) + 7 = Int.ofNat 26 ∧ 19 + 3 = 22 := by decide +kernel
theorem zi_130_22 : zraw 130 22 = some (.iconst 1, 1) ∧ zin 128 1 = true ∧ 22 + 1 = 23 := by decide +kernel
theorem zi_130_23 : zraw 130 23 = some (.goto 4, 3) ∧ ((23 : Nat) : Int) + 4 = Int.ofNat 27 := by decide +kernel
theorem zi_130_26 : zraw 130 26 = some (.iconst 0, 1) ∧ zin 128 0 = true ∧ 26 + 1 = 27 := by decide +kernel
theorem zi_130_27 : zraw 130 27 = some (.ireturn, 1) ∧ (zinf 130).2.2.2.1 = 2 := by decide +kernel
theorem ze_130 {K : List zF} {σ : zW} {x1 : Int} (h1 : zTr (gR σ 4 x1.toNat)) (h2 : zPn (gR σ 1 9)) : zEv true (zent 130 [.inr (.inr 1), .inl x1] :: K) σ = ((0 ≤ x1 ∧ x1 < 3) ∧ (if (gI σ (gR σ 4 x1.toNat) 12) = 0 then zRet true K (some (.inl 1)) σ else if ¬ (gI σ (gR σ 1 9) 15) = 0 then zRet true K (some (.inl 0)) σ else zRet true K (some (.inl 1)) σ)) :=
  yT_en (f := (130, 0, [some (.inr (.inr 1)), some (.inl x1)], [])) rfl (yI_aload_n zi_130_0 rfl <| yI_gf_f (v := 4) zi_130_1 zk_1 rfl <| yI_iload_n zi_130_4 rfl <| yI_aaloadc (v := gR σ 4 x1.toNat) zi_130_5 za_4 rfl <| yI_gf_i (v := gI σ (gR σ 4 x1.toNat) 12) zi_130_6 (zTr_k h1) rfl <| yI_if_eq zi_130_9 <| yBr (yI_iconst zi_130_22 <| yI_goto zi_130_23 <| yI_zreturn zi_130_27 (by decide)) (yI_aload_n zi_130_12 rfl <| yI_gf_r (v := gR σ 1 9) zi_130_13 zk_1 rfl <| yI_gf_i (v := gI σ (gR σ 1 9) 15) zi_130_16 (zPn_k h2) rfl <| yI_if_ne zi_130_19 <| yBr (yI_iconst zi_130_26 <| yI_zreturn zi_130_27 (by decide)) (yI_iconst zi_130_22 <| yI_goto zi_130_23 <| yI_zreturn zi_130_27 (by decide))))
/-- 131 Treegrab.prepareSearch(I)V -/
theorem zi_131_0 : zraw 131 0 = some (.aload_n 0, 1) ∧ 0 + 1 = 1 := by decide +kernel
theorem zi_131_1 : zraw 131 1 = some (.getfield 85, 3) ∧ zft (zinf 131).1 85 = some (9, 15, 0, false) ∧ 1 + 3 = 4 := by decide +kernel
theorem zi_131_4 : zraw 131 4 = some (.iload_n 1, 1) ∧ 4 + 1 = 5 := by decide +kernel
theorem zi_131_5 : zraw 131 5 = some (.if_icmp .eq 25, 3) ∧ ((5 : Nat) : Int) + 25 = Int.ofNat 30 ∧ 5 + 3 = 8 := by decide +kernel
theorem zi_131_8 : zraw 131 8 = some (.aload_n 0, 1) ∧ 8 + 1 = 9 := by decide +kernel
theorem zi_131_9 : zraw 131 9 = some (.getfield 26, 3) ∧ zft (zinf 131).1 26 = some (9, 2, 3, true) ∧ 9 + 3 = 12 := by decide +kernel
theorem zi_131_12 : zraw 131 12 = some (.aload_n 0, 1) ∧ 12 + 1 = 13 := by decide +kernel
theorem zi_131_13 : zraw 131 13 = some (.getfield 19, 3) ∧ zft (zinf 131).1 19 = some (9, 1, 3, true) ∧ 13 + 3 = 16 := by decide +kernel
theorem zi_131_16 : zraw 131 16 = some (.iload_n 1, 1) ∧ 16 + 1 = 17 := by decide +kernel
theorem zi_131_17 : zraw 131 17 = some (.aaload, 1) ∧ 17 + 1 = 18 := by decide +kernel
theorem zi_131_18 : zraw 131 18 = some (.aload_n 0, 1) ∧ 18 + 1 = 19 := by decide +kernel
theorem zi_131_19 : zraw 131 19 = some (.getfield 68, 3) ∧ zft (zinf 131).1 68 = some (9, 9, 3, false) ∧ 19 + 3 = 22 := by decide +kernel
theorem zi_131_22 : zraw 131 22 = some (.invokevirtual 295, 3) ∧ zmt (zinf 131).1 295 = some 66 ∧ Nat.ble 9000 66 = false ∧ zinf 66 = (6, 3, 5, 0, 0) ∧ 22 + 3 = 25 := by decide +kernel
theorem zi_131_25 : zraw 131 25 = some (.aload_n 0, 1) ∧ 25 + 1 = 26 := by decide +kernel
theorem zi_131_26 : zraw 131 26 = some (.iload_n 1, 1) ∧ 26 + 1 = 27 := by decide +kernel
theorem zi_131_27 : zraw 131 27 = some (.putfield 85, 3) ∧ zft (zinf 131).1 85 = some (9, 15, 0, false) ∧ 27 + 3 = 30 := by decide +kernel
theorem zi_131_30 : zraw 131 30 = some (.return_, 1) ∧ (zinf 131).2.2.2.1 = 0 := by decide +kernel
theorem ze_131 {K : List zF} {σ : zW} {x1 : Int} (hK : K.length < 60) : zEv true (zent 131 [.inr (.inr 1), .inl x1] :: K) σ = (if (gI σ 1 15) = x1 then zRet true K none σ else (0 ≤ x1 ∧ x1 < 3) ∧ zEv true (zent 66 [.inr (.inr 41), .inr (.inr (gR σ 4 x1.toNat)), .inr (.inr (gR σ 1 9))] :: (131, 25, [some (.inr (.inr 1)), some (.inl x1)], []) :: K) σ) :=
  yT_en (f := (131, 0, [some (.inr (.inr 1)), some (.inl x1)], [])) rfl (yI_aload_n zi_131_0 rfl <| yI_gf_i (v := gI σ 1 15) zi_131_1 zk_1 rfl <| yI_iload_n zi_131_4 rfl <| yI_ic_eq zi_131_5 <| yBr (yI_ret zi_131_30) (yI_aload_n zi_131_8 rfl <| yI_gf_f (v := 41) zi_131_9 zk_1 rfl <| yI_aload_n zi_131_12 rfl <| yI_gf_f (v := 4) zi_131_13 zk_1 rfl <| yI_iload_n zi_131_16 rfl <| yI_aaloadc (v := gR σ 4 x1.toNat) zi_131_17 za_4 rfl <| yI_aload_n zi_131_18 rfl <| yI_gf_r (v := gR σ 1 9) zi_131_19 zk_1 rfl <| yI_cv zi_131_22 rfl rfl zk_41 hK))
theorem zr_131_25 {K : List zF} {σ : zW} {x1 : Int} : zRet true ((131, 25, [some (.inr (.inr 1)), some (.inl x1)], []) :: K) none σ = (zRet true K none (sI σ 1 15 x1)) :=
  yT_rv (yI_aload_n zi_131_25 rfl <| yI_iload_n zi_131_26 rfl <| yI_pf_i zi_131_27 zk_1 <| yI_ret zi_131_30)
/-- 132 Treegrab.forgetMatches()V -/
theorem zi_132_0 : zraw 132 0 = some (.aload_n 0, 1) ∧ 0 + 1 = 1 := by decide +kernel
theorem zi_132_1 : zraw 132 1 = some (.iconst (-1), 1) ∧ zin 128 (-1) = true ∧ 1 + 1 = 2 := by decide +kernel
theorem zi_132_2 : zraw 132 2 = some (.putfield 85, 3) ∧ zft (zinf 132).1 85 = some (9, 15, 0, false) ∧ 2 + 3 = 5 := by decide +kernel
theorem zi_132_5 : zraw 132 5 = some (.aload_n 0, 1) ∧ 5 + 1 = 6 := by decide +kernel
theorem zi_132_6 : zraw 132 6 = some (.getfield 33, 3) ∧ zft (zinf 132).1 33 = some (9, 3, 3, true) ∧ 6 + 3 = 9 := by decide +kernel
theorem zi_132_9 : zraw 132 9 = some (.iconst (-1), 1) ∧ zin 128 (-1) = true ∧ 9 + 1 = 10 := by decide +kernel
theorem zi_132_10 : zraw 132 10 = some (.putfield 299, 3) ∧ zft (zinf 132).1 299 = some (1, 1, 0, false) ∧ 10 + 3 = 13 := by decide +kernel
theorem zi_132_13 : zraw 132 13 = some (.aload_n 0, 1) ∧ 13 + 1 = 14 := by decide +kernel
theorem zi_132_14 : zraw 132 14 = some (.getfield 37, 3) ∧ zft (zinf 132).1 37 = some (9, 4, 3, true) ∧ 14 + 3 = 17 := by decide +kernel
theorem zi_132_17 : zraw 132 17 = some (.iconst (-1), 1) ∧ zin 128 (-1) = true ∧ 17 + 1 = 18 := by decide +kernel
theorem zi_132_18 : zraw 132 18 = some (.putfield 299, 3) ∧ zft (zinf 132).1 299 = some (1, 1, 0, false) ∧ 18 + 3 = 21 := by decide +kernel
theorem zi_132_21 : zraw 132 21 = some (.return_, 1) ∧ (zinf 132).2.2.2.1 = 0 := by decide +kernel
theorem ze_132 {K : List zF} {σ : zW} : zEv true (zent 132 [.inr (.inr 1)] :: K) σ = (zRet true K none (sI (sI (sI σ 1 15 (-1)) 50 1 (-1)) 52 1 (-1))) :=
  yT_en (f := (132, 0, [some (.inr (.inr 1))], [])) rfl (yI_aload_n zi_132_0 rfl <| yI_iconst zi_132_1 <| yI_pf_i zi_132_2 zk_1 <| yI_aload_n zi_132_5 rfl <| yI_gf_f (v := 50) zi_132_6 zk_1 rfl <| yI_iconst zi_132_9 <| yI_pf_i zi_132_10 zk_50 <| yI_aload_n zi_132_13 rfl <| yI_gf_f (v := 52) zi_132_14 zk_1 rfl <| yI_iconst zi_132_17 <| yI_pf_i zi_132_18 zk_52 <| yI_ret zi_132_21)
/-- 133 Treegrab.findPlanned(I)V -/
theorem zi_133_0 : zraw 133 0 = some (.aload_n 0, 1) ∧ 0 + 1 = 1 := by decide +kernel
theorem zi_133_1 : zraw 133 1 = some (.getfield 33, 3) ∧ zft (zinf 133).1 33 = some (9, 3, 3, true) ∧ 1 + 3 = 4 := by decide +kernel
theorem zi_133_4 : zraw 133 4 = some (.getfield 299, 3) ∧ zft (zinf 133).1 299 = some (1, 1, 0, false) ∧ 4 + 3 = 7 := by decide +kernel
theorem zi_133_7 : zraw 133 7 = some (.iload_n 1, 1) ∧ 7 + 1 = 8 := by decide +kernel
theorem zi_133_8 : zraw 133 8 = some (.if_icmp .ne 4, 3) ∧ ((8 : Nat) : Int) + 4 = Int.ofNat 12 ∧ 8 + 3 = 11 := by decide +kernel
theorem zi_133_11 : zraw 133 11 = some (.return_, 1) ∧ (zinf 133).2.2.2.1 = 0 := by decide +kernel
theorem zi_133_12 : zraw 133 12 = some (.aload_n 0, 1) ∧ 12 + 1 = 13 := by decide +kernel
theorem zi_133_13 : zraw 133 13 = some (.getfield 33, 3) ∧ zft (zinf 133).1 33 = some (9, 3, 3, true) ∧ 13 + 3 = 16 := by decide +kernel
theorem zi_133_16 : zraw 133 16 = some (.iload_n 1, 1) ∧ 16 + 1 = 17 := by decide +kernel
theorem zi_133_17 : zraw 133 17 = some (.aload_n 0, 1) ∧ 17 + 1 = 18 := by decide +kernel
theorem zi_133_18 : zraw 133 18 = some (.getfield 19, 3) ∧ zft (zinf 133).1 19 = some (9, 1, 3, true) ∧ 18 + 3 = 21 := by decide +kernel
theorem zi_133_21 : zraw 133 21 = some (.iload_n 1, 1) ∧ 21 + 1 = 22 := by decide +kernel
theorem zi_133_22 : zraw 133 22 = some (.aaload, 1) ∧ 22 + 1 = 23 := by decide +kernel
theorem zi_133_23 : zraw 133 23 = some (.getfield 139, 3) ∧ zft (zinf 133).1 139 = some (8, 12, 0, false) ∧ 23 + 3 = 26 := by decide +kernel
theorem zi_133_26 : zraw 133 26 = some (.aload_n 0, 1) ∧ 26 + 1 = 27 := by decide +kernel
theorem zi_133_27 : zraw 133 27 = some (.getfield 68, 3) ∧ zft (zinf 133).1 68 = some (9, 9, 3, false) ∧ 27 + 3 = 30 := by decide +kernel
theorem zi_133_30 : zraw 133 30 = some (.getfield 145, 3) ∧ zft (zinf 133).1 145 = some (4, 16, 0, false) ∧ 30 + 3 = 33 := by decide +kernel
theorem zi_133_33 : zraw 133 33 = some (.invokevirtual 302, 3) ∧ zmt (zinf 133).1 302 = some 23 ∧ Nat.ble 9000 23 = false ∧ zinf 23 = (1, 4, 6, 0, 0) ∧ 33 + 3 = 36 := by decide +kernel
theorem zi_133_36 : zraw 133 36 = some (.aload_n 0, 1) ∧ 36 + 1 = 37 := by decide +kernel
theorem zi_133_37 : zraw 133 37 = some (.iload_n 1, 1) ∧ 37 + 1 = 38 := by decide +kernel
theorem zi_133_38 : zraw 133 38 = some (.invokevirtual 208, 3) ∧ zmt (zinf 133).1 208 = some 130 ∧ Nat.ble 9000 130 = false ∧ zinf 130 = (9, 2, 2, 2, 0) ∧ 38 + 3 = 41 := by decide +kernel
theorem zi_133_41 : zraw 133 41 = some (.ifCond .ne 19, 3) ∧ ((41 : Nat) : Int) + 19 = Int.ofNat 60 ∧ 41 + 3 = 44 := by decide +kernel
theorem zi_133_44 : zraw 133 44 = some (.aload_n 0, 1) ∧ 44 + 1 = 45 := by decide +kernel
theorem zi_133_45 : zraw 133 45 = some (.iload_n 1, 1) ∧ 45 + 1 = 46 := by decide +kernel
theorem zi_133_46 : zraw 133 46 = some (.invokevirtual 213, 3) ∧ zmt (zinf 133).1 213 = some 131 ∧ Nat.ble 9000 131 = false ∧ zinf 131 = (9, 2, 2, 0, 0) ∧ 46 + 3 = 49 := by decide +kernel
theorem zi_133_49 : zraw 133 49 = some (.aload_n 0, 1) ∧ 49 + 1 = 50 := by decide +kernel
theorem zi_133_50 : zraw 133 50 = some (.getfield 26, 3) ∧ zft (zinf 133).1 26 = some (9, 2, 3, true) ∧ 50 + 3 = 53 := by decide +kernel
theorem zi_133_53 : zraw 133 53 = some (.aload_n 0, 1) ∧ 53 + 1 = 54 := by decide +kernel
theorem zi_133_54 : zraw 133 54 = some (.getfield 33, 3) ∧ zft (zinf 133).1 33 = some (9, 3, 3, true) ∧ 54 + 3 = 57 := by decide +kernel
theorem zi_133_57 : zraw 133 57 = some (.invokevirtual 305, 3) ∧ zmt (zinf 133).1 305 = some 72 ∧ Nat.ble 9000 72 = false ∧ zinf 72 = (6, 2, 2, 0, 0) ∧ 57 + 3 = 60 := by decide +kernel
theorem zi_133_60 : zraw 133 60 = some (.return_, 1) ∧ (zinf 133).2.2.2.1 = 0 := by decide +kernel
theorem ze_133 {K : List zF} {σ : zW} {x1 : Int} (hK : K.length < 60) (h1 : zTr (gR σ 4 x1.toNat)) (h2 : zPn (gR σ 1 9)) : zEv true (zent 133 [.inr (.inr 1), .inl x1] :: K) σ = (if ¬ (gI σ 50 1) = x1 then (0 ≤ x1 ∧ x1 < 3) ∧ zEv true (zent 23 [.inr (.inr 50), .inl x1, .inl (gI σ (gR σ 4 x1.toNat) 12), .inl (gI σ (gR σ 1 9) 16)] :: (133, 36, [some (.inr (.inr 1)), some (.inl x1)], []) :: K) σ else zRet true K none σ) :=
  yT_en (f := (133, 0, [some (.inr (.inr 1)), some (.inl x1)], [])) rfl (yI_aload_n zi_133_0 rfl <| yI_gf_f (v := 50) zi_133_1 zk_1 rfl <| yI_gf_i (v := gI σ 50 1) zi_133_4 zk_50 rfl <| yI_iload_n zi_133_7 rfl <| yI_ic_ne zi_133_8 <| yBr (yI_aload_n zi_133_12 rfl <| yI_gf_f (v := 50) zi_133_13 zk_1 rfl <| yI_iload_n zi_133_16 rfl <| yI_aload_n zi_133_17 rfl <| yI_gf_f (v := 4) zi_133_18 zk_1 rfl <| yI_iload_n zi_133_21 rfl <| yI_aaloadc (v := gR σ 4 x1.toNat) zi_133_22 za_4 rfl <| yI_gf_i (v := gI σ (gR σ 4 x1.toNat) 12) zi_133_23 (zTr_k h1) rfl <| yI_aload_n zi_133_26 rfl <| yI_gf_r (v := gR σ 1 9) zi_133_27 zk_1 rfl <| yI_gf_i (v := gI σ (gR σ 1 9) 16) zi_133_30 (zPn_k h2) rfl <| yI_cv zi_133_33 rfl rfl zk_50 hK) (yI_ret zi_133_11))
theorem zr_133_36 {K : List zF} {σ : zW} {x1 : Int} (hK : K.length < 60) : zRet true ((133, 36, [some (.inr (.inr 1)), some (.inl x1)], []) :: K) none σ = (zEv true (zent 130 [.inr (.inr 1), .inl x1] :: (133, 41, [some (.inr (.inr 1)), some (.inl x1)], []) :: K) σ) :=
  yT_rv (yI_aload_n zi_133_36 rfl <| yI_iload_n zi_133_37 rfl <| yI_cv zi_133_38 rfl rfl zk_1 hK)
theorem zr_133_41 {K : List zF} {σ : zW} {x1 : Int} {v : Int} (hK : K.length < 60) : zRet true ((133, 41, [some (.inr (.inr 1)), some (.inl x1)], []) :: K) (some (.inl v)) σ = (if ¬ v = 0 then zRet true K none σ else zEv true (zent 131 [.inr (.inr 1), .inl x1] :: (133, 49, [some (.inr (.inr 1)), some (.inl x1)], []) :: K) σ) :=
  yT_rt (yI_if_ne zi_133_41 <| yBr (yI_ret zi_133_60) (yI_aload_n zi_133_44 rfl <| yI_iload_n zi_133_45 rfl <| yI_cv zi_133_46 rfl rfl zk_1 hK))
theorem zr_133_49 {K : List zF} {σ : zW} {o1 : Option zV} (hK : K.length < 60) : zRet true ((133, 49, [some (.inr (.inr 1)), o1], []) :: K) none σ = (zEv true (zent 72 [.inr (.inr 41), .inr (.inr 50)] :: (133, 60, [some (.inr (.inr 1)), o1], []) :: K) σ) :=
  yT_rv (yI_aload_n zi_133_49 rfl <| yI_gf_f (v := 41) zi_133_50 zk_1 rfl <| yI_aload_n zi_133_53 rfl <| yI_gf_f (v := 50) zi_133_54 zk_1 rfl <| yI_cv zi_133_57 rfl rfl zk_41 hK)
theorem zr_133_60 {K : List zF} {σ : zW} {o0 : Option zV} {o1 : Option zV} : zRet true ((133, 60, [o0, o1], []) :: K) none σ = (zRet true K none σ) :=
  yT_rv (yI_ret zi_133_60)
/-- 134 Treegrab.findByTrying(I)V -/
theorem zi_134_0 : zraw 134 0 = some (.aload_n 0, 1) ∧ 0 + 1 = 1 := by decide +kernel
theorem zi_134_1 : zraw 134 1 = some (.getfield 37, 3) ∧ zft (zinf 134).1 37 = some (9, 4, 3, true) ∧ 1 + 3 = 4 := by decide +kernel
theorem zi_134_4 : zraw 134 4 = some (.getfield 299, 3) ∧ zft (zinf 134).1 299 = some (1, 1, 0, false) ∧ 4 + 3 = 7 := by decide +kernel
theorem zi_134_7 : zraw 134 7 = some (.iload_n 1, 1) ∧ 7 + 1 = 8 := by decide +kernel
theorem zi_134_8 : zraw 134 8 = some (.if_icmp .ne 4, 3) ∧ ((8 : Nat) : Int) + 4 = Int.ofNat 12 ∧ 8 + 3 = 11 := by decide +kernel
theorem zi_134_11 : zraw 134 11 = some (.return_, 1) ∧ (zinf 134).2.2.2.1 = 0 := by decide +kernel
theorem zi_134_12 : zraw 134 12 = some (.aload_n 0, 1) ∧ 12 + 1 = 13 := by decide +kernel
theorem zi_134_13 : zraw 134 13 = some (.getfield 37, 3) ∧ zft (zinf 134).1 37 = some (9, 4, 3, true) ∧ 13 + 3 = 16 := by decide +kernel
theorem zi_134_16 : zraw 134 16 = some (.iload_n 1, 1) ∧ 16 + 1 = 17 := by decide +kernel
theorem zi_134_17 : zraw 134 17 = some (.aload_n 0, 1) ∧ 17 + 1 = 18 := by decide +kernel
theorem zi_134_18 : zraw 134 18 = some (.getfield 19, 3) ∧ zft (zinf 134).1 19 = some (9, 1, 3, true) ∧ 18 + 3 = 21 := by decide +kernel
theorem zi_134_21 : zraw 134 21 = some (.iload_n 1, 1) ∧ 21 + 1 = 22 := by decide +kernel
theorem zi_134_22 : zraw 134 22 = some (.aaload, 1) ∧ 22 + 1 = 23 := by decide +kernel
theorem zi_134_23 : zraw 134 23 = some (.getfield 139, 3) ∧ zft (zinf 134).1 139 = some (8, 12, 0, false) ∧ 23 + 3 = 26 := by decide +kernel
theorem zi_134_26 : zraw 134 26 = some (.aload_n 0, 1) ∧ 26 + 1 = 27 := by decide +kernel
theorem zi_134_27 : zraw 134 27 = some (.getfield 68, 3) ∧ zft (zinf 134).1 68 = some (9, 9, 3, false) ∧ 27 + 3 = 30 := by decide +kernel
theorem zi_134_30 : zraw 134 30 = some (.getfield 145, 3) ∧ zft (zinf 134).1 145 = some (4, 16, 0, false) ∧ 30 + 3 = 33 := by decide +kernel
theorem zi_134_33 : zraw 134 33 = some (.invokevirtual 302, 3) ∧ zmt (zinf 134).1 302 = some 23 ∧ Nat.ble 9000 23 = false ∧ zinf 23 = (1, 4, 6, 0, 0) ∧ 33 + 3 = 36 := by decide +kernel
theorem zi_134_36 : zraw 134 36 = some (.aload_n 0, 1) ∧ 36 + 1 = 37 := by decide +kernel
theorem zi_134_37 : zraw 134 37 = some (.iload_n 1, 1) ∧ 37 + 1 = 38 := by decide +kernel
theorem zi_134_38 : zraw 134 38 = some (.invokevirtual 208, 3) ∧ zmt (zinf 134).1 208 = some 130 ∧ Nat.ble 9000 130 = false ∧ zinf 130 = (9, 2, 2, 2, 0) ∧ 38 + 3 = 41 := by decide +kernel
theorem zi_134_41 : zraw 134 41 = some (.ifCond .ne 19, 3) ∧ ((41 : Nat) : Int) + 19 = Int.ofNat 60 ∧ 41 + 3 = 44 := by decide +kernel
theorem zi_134_44 : zraw 134 44 = some (.aload_n 0, 1) ∧ 44 + 1 = 45 := by decide +kernel
theorem zi_134_45 : zraw 134 45 = some (.iload_n 1, 1) ∧ 45 + 1 = 46 := by decide +kernel
theorem zi_134_46 : zraw 134 46 = some (.invokevirtual 213, 3) ∧ zmt (zinf 134).1 213 = some 131 ∧ Nat.ble 9000 131 = false ∧ zinf 131 = (9, 2, 2, 0, 0) ∧ 46 + 3 = 49 := by decide +kernel
theorem zi_134_49 : zraw 134 49 = some (.aload_n 0, 1) ∧ 49 + 1 = 50 := by decide +kernel
theorem zi_134_50 : zraw 134 50 = some (.getfield 26, 3) ∧ zft (zinf 134).1 26 = some (9, 2, 3, true) ∧ 50 + 3 = 53 := by decide +kernel
theorem zi_134_53 : zraw 134 53 = some (.aload_n 0, 1) ∧ 53 + 1 = 54 := by decide +kernel
theorem zi_134_54 : zraw 134 54 = some (.getfield 37, 3) ∧ zft (zinf 134).1 37 = some (9, 4, 3, true) ∧ 54 + 3 = 57 := by decide +kernel
theorem zi_134_57 : zraw 134 57 = some (.invokevirtual 309, 3) ∧ zmt (zinf 134).1 309 = some 73 ∧ Nat.ble 9000 73 = false ∧ zinf 73 = (6, 2, 2, 0, 0) ∧ 57 + 3 = 60 := by decide +kernel
theorem zi_134_60 : zraw 134 60 = some (.return_, 1) ∧ (zinf 134).2.2.2.1 = 0 := by decide +kernel
theorem ze_134 {K : List zF} {σ : zW} {x1 : Int} (hK : K.length < 60) (h1 : zTr (gR σ 4 x1.toNat)) (h2 : zPn (gR σ 1 9)) : zEv true (zent 134 [.inr (.inr 1), .inl x1] :: K) σ = (if ¬ (gI σ 52 1) = x1 then (0 ≤ x1 ∧ x1 < 3) ∧ zEv true (zent 23 [.inr (.inr 52), .inl x1, .inl (gI σ (gR σ 4 x1.toNat) 12), .inl (gI σ (gR σ 1 9) 16)] :: (134, 36, [some (.inr (.inr 1)), some (.inl x1)], []) :: K) σ else zRet true K none σ) :=
  yT_en (f := (134, 0, [some (.inr (.inr 1)), some (.inl x1)], [])) rfl (yI_aload_n zi_134_0 rfl <| yI_gf_f (v := 52) zi_134_1 zk_1 rfl <| yI_gf_i (v := gI σ 52 1) zi_134_4 zk_52 rfl <| yI_iload_n zi_134_7 rfl <| yI_ic_ne zi_134_8 <| yBr (yI_aload_n zi_134_12 rfl <| yI_gf_f (v := 52) zi_134_13 zk_1 rfl <| yI_iload_n zi_134_16 rfl <| yI_aload_n zi_134_17 rfl <| yI_gf_f (v := 4) zi_134_18 zk_1 rfl <| yI_iload_n zi_134_21 rfl <| yI_aaloadc (v := gR σ 4 x1.toNat) zi_134_22 za_4 rfl <| yI_gf_i (v := gI σ (gR σ 4 x1.toNat) 12) zi_134_23 (zTr_k h1) rfl <| yI_aload_n zi_134_26 rfl <| yI_gf_r (v := gR σ 1 9) zi_134_27 zk_1 rfl <| yI_gf_i (v := gI σ (gR σ 1 9) 16) zi_134_30 (zPn_k h2) rfl <| yI_cv zi_134_33 rfl rfl zk_52 hK) (yI_ret zi_134_11))
theorem zr_134_36 {K : List zF} {σ : zW} {x1 : Int} (hK : K.length < 60) : zRet true ((134, 36, [some (.inr (.inr 1)), some (.inl x1)], []) :: K) none σ = (zEv true (zent 130 [.inr (.inr 1), .inl x1] :: (134, 41, [some (.inr (.inr 1)), some (.inl x1)], []) :: K) σ) :=
  yT_rv (yI_aload_n zi_134_36 rfl <| yI_iload_n zi_134_37 rfl <| yI_cv zi_134_38 rfl rfl zk_1 hK)
theorem zr_134_41 {K : List zF} {σ : zW} {x1 : Int} {v : Int} (hK : K.length < 60) : zRet true ((134, 41, [some (.inr (.inr 1)), some (.inl x1)], []) :: K) (some (.inl v)) σ = (if ¬ v = 0 then zRet true K none σ else zEv true (zent 131 [.inr (.inr 1), .inl x1] :: (134, 49, [some (.inr (.inr 1)), some (.inl x1)], []) :: K) σ) :=
  yT_rt (yI_if_ne zi_134_41 <| yBr (yI_ret zi_134_60) (yI_aload_n zi_134_44 rfl <| yI_iload_n zi_134_45 rfl <| yI_cv zi_134_46 rfl rfl zk_1 hK))
theorem zr_134_49 {K : List zF} {σ : zW} {o1 : Option zV} (hK : K.length < 60) : zRet true ((134, 49, [some (.inr (.inr 1)), o1], []) :: K) none σ = (zEv true (zent 73 [.inr (.inr 41), .inr (.inr 52)] :: (134, 60, [some (.inr (.inr 1)), o1], []) :: K) σ) :=
  yT_rv (yI_aload_n zi_134_49 rfl <| yI_gf_f (v := 41) zi_134_50 zk_1 rfl <| yI_aload_n zi_134_53 rfl <| yI_gf_f (v := 52) zi_134_54 zk_1 rfl <| yI_cv zi_134_57 rfl rfl zk_41 hK)
theorem zr_134_60 {K : List zF} {σ : zW} {o0 : Option zV} {o1 : Option zV} : zRet true ((134, 60, [o0, o1], []) :: K) none σ = (zRet true K none σ) :=
  yT_rv (yI_ret zi_134_60)
/-- 135 Treegrab.nodeNamed(I)I -/
theorem zi_135_0 : zraw 135 0 = some (.iload_n 1, 1) ∧ 0 + 1 = 1 := by decide +kernel
theorem zi_135_1 : zraw 135 1 = some (.ifCond .lt 9, 3) ∧ ((1 : Nat) : Int) + 9 = Int.ofNat 10 ∧ 1 + 3 = 4 := by decide +kernel
theorem zi_135_4 : zraw 135 4 = some (.iload_n 1, 1) ∧ 4 + 1 = 5 := by decide +kernel
theorem zi_135_5 : zraw 135 5 = some (.bipush 26, 2) ∧ zin 128 26 = true ∧ 5 + 2 = 7 := by decide +kernel
theorem zi_135_7 : zraw 135 7 = some (.if_icmp .lt 5, 3) ∧ ((7 : Nat) : Int) + 5 = Int.ofNat 12 ∧ 7 + 3 = 10 := by decide +kernel
theorem zi_135_10 : zraw 135 10 = some (.iconst (-1), 1) ∧ zin 128 (-1) = true ∧ 10 + 1 = 11 := by decide +kernel
theorem zi_135_11 : zraw 135 11 = some (.ireturn, 1) ∧ (zinf 135).2.2.2.1 = 1 := by decide +kernel
theorem zi_135_12 : zraw 135 12 = some (.aload_n 0, 1) ∧ 12 + 1 = 13 := by decide +kernel
theorem zi_135_13 : zraw 135 13 = some (.getfield 68, 3) ∧ zft (zinf 135).1 68 = some (9, 9, 3, false) ∧ 13 + 3 = 16 := by decide +kernel
theorem zi_135_16 : zraw 135 16 = some (.getfield 312, 3) ∧ zft (zinf 135).1 312 = some (4, 12, 3, true) ∧ 16 + 3 = 19 := by decide +kernel
theorem zi_135_19 : zraw 135 19 = some (.iload_n 1, 1) ∧ 19 + 1 = 20 := by decide +kernel
theorem zi_135_20 : zraw 135 20 = some (.iaload, 1) ∧ 20 + 1 = 21 := by decide +kernel
theorem zi_135_21 : zraw 135 21 = some (.istore_n 2, 1) ∧ 21 + 1 = 22 := by decide +kernel
theorem zi_135_22 : zraw 135 22 = some (.iload_n 2, 1) ∧ 22 + 1 = 23 := by decide +kernel
theorem zi_135_23 : zraw 135 23 = some (.iconst (-1), 1) ∧ zin 128 (-1) = true ∧ 23 + 1 = 24 := by decide +kernel
theorem zi_135_24 : zraw 135 24 = some (.if_icmp .ne 7, 3) ∧ ((24 : Nat) : Int) + 7 = Int.ofNat 31 ∧ 24 + 3 = 27 := by decide +kernel
theorem zi_135_27 : zraw 135 27 = some (.iconst (-1), 1) ∧ zin 128 (-1) = true ∧ 27 + 1 = 28 := by decide +kernel
theorem zi_135_28 : zraw 135 28 = some (.goto 12, 3) ∧ ((28 : Nat) : Int) + 12 = Int.ofNat 40 := by decide +kernel
theorem zi_135_31 : zraw 135 31 = some (.aload_n 0, 1) ∧ 31 + 1 = 32 := by decide +kernel
theorem zi_135_32 : zraw 135 32 = some (.getfield 68, 3) ∧ zft (zinf 135).1 68 = some (9, 9, 3, false) ∧ 32 + 3 = 35 := by decide +kernel
theorem zi_135_35 : zraw 135 35 = some (.getfield 315, 3) ∧ zft (zinf 135).1 315 = some (4, 7, 3, true) ∧ 35 + 3 = 38 := by decide +kernel
theorem zi_135_38 : zraw 135 38 = some (.iload_n 2, 1) ∧ 38 + 1 = 39 := by decide +kernel
theorem zi_135_39 : zraw 135 39 = some (.iaload, 1) ∧ 39 + 1 = 40 := by decide +kernel
theorem zi_135_40 : zraw 135 40 = some (.istore_n 3, 1) ∧ 40 + 1 = 41 := by decide +kernel
theorem zi_135_41 : zraw 135 41 = some (.iload_n 3, 1) ∧ 41 + 1 = 42 := by decide +kernel
theorem zi_135_42 : zraw 135 42 = some (.iconst (-1), 1) ∧ zin 128 (-1) = true ∧ 42 + 1 = 43 := by decide +kernel
theorem zi_135_43 : zraw 135 43 = some (.if_icmp .ne 7, 3) ∧ ((43 : Nat) : Int) + 7 = Int.ofNat 50 ∧ 43 + 3 = 46 := by decide +kernel
theorem zi_135_46 : zraw 135 46 = some (.iconst (-1), 1) ∧ zin 128 (-1) = true ∧ 46 + 1 = 47 := by decide +kernel
theorem zi_135_47 : zraw 135 47 = some (.goto 12, 3) ∧ ((47 : Nat) : Int) + 12 = Int.ofNat 59 := by decide +kernel
theorem zi_135_50 : zraw 135 50 = some (.aload_n 0, 1) ∧ 50 + 1 = 51 := by decide +kernel
theorem zi_135_51 : zraw 135 51 = some (.getfield 33, 3) ∧ zft (zinf 135).1 33 = some (9, 3, 3, true) ∧ 51 + 3 = 54 := by decide +kernel
theorem zi_135_54 : zraw 135 54 = some (.iconst 0, 1) ∧ zin 128 0 = true ∧ 54 + 1 = 55 := by decide +kernel
theorem zi_135_55 : zraw 135 55 = some (.iload_n 3, 1) ∧ 55 + 1 = 56 := by decide +kernel
theorem zi_135_56 : zraw 135 56 = some (.invokevirtual 204, 3) ∧ zmt (zinf 135).1 204 = some 26 ∧ Nat.ble 9000 26 = false ∧ zinf 26 = (1, 3, 5, 1, 0) ∧ 56 + 3 = 59 := by decide +kernel
theorem zi_135_59 : zraw 135 59 = some (.ireturn, 1) ∧ (zinf 135).2.2.2.1 = 1 := by decide +kernel
theorem ze_135 {K : List zF} {σ : zW} {x1 : Int} (hK : K.length < 60) (h1 : zPn (gR σ 1 9)) : zEv true (zent 135 [.inr (.inr 1), .inl x1] :: K) σ = (if x1 < 0 then zRet true K (some (.inl (-1))) σ else if x1 < 26 then (0 ≤ x1 ∧ x1 < 26) ∧ (((¬ (gI σ ((gR σ 1 9) + 13) x1.toNat) = (-1)) → (0 ≤ (gI σ ((gR σ 1 9) + 13) x1.toNat) ∧ (gI σ ((gR σ 1 9) + 13) x1.toNat) < 8)) ∧ (if ¬ (if ¬ (gI σ ((gR σ 1 9) + 13) x1.toNat) = (-1) then gI σ ((gR σ 1 9) + 8) ((gI σ ((gR σ 1 9) + 13) x1.toNat).toNat) else (-1) : Int) = (-1) then zEv true (zent 26 [.inr (.inr 50), .inl 0, .inl (if ¬ (gI σ ((gR σ 1 9) + 13) x1.toNat) = (-1) then gI σ ((gR σ 1 9) + 8) ((gI σ ((gR σ 1 9) + 13) x1.toNat).toNat) else (-1) : Int)] :: (135, 59, [some (.inr (.inr 1)), some (.inl x1), some (.inl (gI σ ((gR σ 1 9) + 13) x1.toNat)), some (.inl (if ¬ (gI σ ((gR σ 1 9) + 13) x1.toNat) = (-1) then gI σ ((gR σ 1 9) + 8) ((gI σ ((gR σ 1 9) + 13) x1.toNat).toNat) else (-1) : Int))], []) :: K) σ else zRet true K (some (.inl (-1))) σ)) else zRet true K (some (.inl (-1))) σ) :=
  yT_en (f := (135, 0, [some (.inr (.inr 1)), some (.inl x1), none, none], [])) rfl (yI_iload_n zi_135_0 rfl <| yI_if_lt zi_135_1 <| yBr (yI_iconst zi_135_10 <| yI_ireturn zi_135_11) (yI_iload_n zi_135_4 rfl <| yI_bipush zi_135_5 <| yI_ic_lt zi_135_7 <| yBr (yI_aload_n zi_135_12 rfl <| yI_gf_r (v := gR σ 1 9) zi_135_13 zk_1 rfl <| yI_gf_f (v := (gR σ 1 9) + 13) zi_135_16 (zPn_k h1) rfl <| yI_iload_n zi_135_19 rfl <| yI_ialoadc (v := gI σ ((gR σ 1 9) + 13) x1.toNat) zi_135_20 (zPn_a13 h1) rfl <| yI_istore_n (l := [some (.inr (.inr 1)), some (.inl x1), some (.inl (gI σ ((gR σ 1 9) + 13) x1.toNat)), none]) zi_135_21 rfl rfl <| yI_iload_n zi_135_22 rfl <| yI_iconst zi_135_23 <| yI_ic_ne zi_135_24 <| yMi1 (j := 40) (ls2 := [some (.inr (.inr 1)), some (.inl x1), some (.inl (gI σ ((gR σ 1 9) + 13) x1.toNat)), none]) (st2 := []) (x := gI σ ((gR σ 1 9) + 8) ((gI σ ((gR σ 1 9) + 13) x1.toNat).toNat)) (y := (-1)) (σ2 := σ) (yI_aload_n zi_135_31 rfl <| yI_gf_r (v := gR σ 1 9) zi_135_32 zk_1 rfl <| yI_gf_f (v := (gR σ 1 9) + 8) zi_135_35 (zPn_k h1) rfl <| yI_iload_n zi_135_38 rfl <| yI_ialoadc (v := gI σ ((gR σ 1 9) + 8) ((gI σ ((gR σ 1 9) + 13) x1.toNat).toNat)) zi_135_39 (zPn_a8 h1) rfl <| rfl) (yI_iconst zi_135_27 <| yI_goto zi_135_28 <| rfl) <| yI_istore_n (l := [some (.inr (.inr 1)), some (.inl x1), some (.inl (gI σ ((gR σ 1 9) + 13) x1.toNat)), some (.inl (if ¬ (gI σ ((gR σ 1 9) + 13) x1.toNat) = (-1) then gI σ ((gR σ 1 9) + 8) ((gI σ ((gR σ 1 9) + 13) x1.toNat).toNat) else (-1) : Int))]) zi_135_40 rfl rfl <| yI_iload_n zi_135_41 rfl <| yI_iconst zi_135_42 <| yI_ic_ne zi_135_43 <| yBr (yI_aload_n zi_135_50 rfl <| yI_gf_f (v := 50) zi_135_51 zk_1 rfl <| yI_iconst zi_135_54 <| yI_iload_n zi_135_55 rfl <| yI_cv zi_135_56 rfl rfl zk_50 hK) (yI_iconst zi_135_46 <| yI_goto zi_135_47 <| yI_ireturn zi_135_59)) (yI_iconst zi_135_10 <| yI_ireturn zi_135_11)))
theorem zr_135_59 {K : List zF} {σ : zW} {o0 : Option zV} {o1 : Option zV} {o2 : Option zV} {o3 : Option zV} {v : Int} : zRet true ((135, 59, [o0, o1, o2, o3], []) :: K) (some (.inl v)) σ = (zRet true K (some (.inl v)) σ) :=
  yT_rt (yI_ireturn zi_135_59)
/-- 136 Treegrab.isLetter(I)Z -/
theorem zi_136_0 : zraw 136 0 = some (.iload_n 0, 1) ∧ 0 + 1 = 1 := by decide +kernel
theorem zi_136_1 : zraw 136 1 = some (.bipush 97, 2) ∧ zin 128 97 = true ∧ 1 + 2 = 3 := by decide +kernel
theorem zi_136_3 : zraw 136 3 = some (.if_icmp .lt 9, 3) ∧ ((3 : Nat) : Int) + 9 = Int.ofNat 12 ∧ 3 + 3 = 6 := by decide +kernel
theorem zi_136_6 : zraw 136 6 = some (.iload_n 0, 1) ∧ 6 + 1 = 7 := by decide +kernel
theorem zi_136_7 : zraw 136 7 = some (.bipush 122, 2) ∧ zin 128 122 = true ∧ 7 + 2 = 9 := by decide +kernel
theorem zi_136_9 : zraw 136 9 = some (.if_icmp .le 15, 3) ∧ ((9 : Nat) : Int) + 15 = Int.ofNat 24 ∧ 9 + 3 = 12 := by decide +kernel
theorem zi_136_12 : zraw 136 12 = some (.iload_n 0, 1) ∧ 12 + 1 = 13 := by decide +kernel
theorem zi_136_13 : zraw 136 13 = some (.bipush 65, 2) ∧ zin 128 65 = true ∧ 13 + 2 = 15 := by decide +kernel
theorem zi_136_15 : zraw 136 15 = some (.if_icmp .lt 13, 3) ∧ ((15 : Nat) : Int) + 13 = Int.ofNat 28 ∧ 15 + 3 = 18 := by decide +kernel
theorem zi_136_18 : zraw 136 18 = some (.iload_n 0, 1) ∧ 18 + 1 = 19 := by decide +kernel
theorem zi_136_19 : zraw 136 19 = some (.bipush 90, 2) ∧ zin 128 90 = true ∧ 19 + 2 = 21 := by decide +kernel
theorem zi_136_21 : zraw 136 21 = some (.if_icmp .gt 7, 3) ∧ ((21 : Nat) : Int) + 7 = Int.ofNat 28 ∧ 21 + 3 = 24 := by decide +kernel
theorem zi_136_24 : zraw 136 24 = some (.iconst 1, 1) ∧ zin 128 1 = true ∧ 24 + 1 = 25 := by decide +kernel
theorem zi_136_25 : zraw 136 25 = some (.goto 4, 3) ∧ ((25 : Nat) : Int) + 4 = Int.ofNat 29 := by decide +kernel
theorem zi_136_28 : zraw 136 28 = some (.iconst 0, 1) ∧ zin 128 0 = true ∧ 28 + 1 = 29 := by decide +kernel
theorem zi_136_29 : zraw 136 29 = some (.ireturn, 1) ∧ (zinf 136).2.2.2.1 = 2 := by decide +kernel
theorem ze_136 {K : List zF} {σ : zW} {x0 : Int} : zEv true (zent 136 [.inl x0] :: K) σ = (if x0 < 97 then zEv true ((136, 12, [some (.inl x0)], []) :: K) σ else if x0 ≤ 122 then zRet true K (some (.inl 1)) σ else zEv true ((136, 12, [some (.inl x0)], []) :: K) σ) :=
  yT_en (f := (136, 0, [some (.inl x0)], [])) rfl (yI_iload_n zi_136_0 rfl <| yI_bipush zi_136_1 <| yI_ic_lt zi_136_3 <| yBr (rfl) (yI_iload_n zi_136_6 rfl <| yI_bipush zi_136_7 <| yI_ic_le zi_136_9 <| yBr (yI_iconst zi_136_24 <| yI_goto zi_136_25 <| yI_zreturn zi_136_29 (by decide)) (rfl)))
theorem zj_136_12 {K : List zF} {σ : zW} {x0 : Int} : zEv true ((136, 12, [some (.inl x0)], []) :: K) σ = (if x0 < 65 then zEv true ((136, 28, [some (.inl x0)], []) :: K) σ else if 90 < x0 then zEv true ((136, 28, [some (.inl x0)], []) :: K) σ else zRet true K (some (.inl 1)) σ) :=
  yI_iload_n zi_136_12 rfl <| yI_bipush zi_136_13 <| yI_ic_lt zi_136_15 <| yBr (rfl) (yI_iload_n zi_136_18 rfl <| yI_bipush zi_136_19 <| yI_ic_gt zi_136_21 <| yBr (rfl) (yI_iconst zi_136_24 <| yI_goto zi_136_25 <| yI_zreturn zi_136_29 (by decide)))
theorem zj_136_28 {K : List zF} {σ : zW} {o0 : Option zV} : zEv true ((136, 28, [o0], []) :: K) σ = (zRet true K (some (.inl 0)) σ) :=
  yI_iconst zi_136_28 <| yI_zreturn zi_136_29 (by decide)
/-- 137 Treegrab.isSmallLetter(I)Z -/
theorem zi_137_0 : zraw 137 0 = some (.iload_n 0, 1) ∧ 0 + 1 = 1 := by decide +kernel
theorem zi_137_1 : zraw 137 1 = some (.bipush 97, 2) ∧ zin 128 97 = true ∧ 1 + 2 = 3 := by decide +kernel
theorem zi_137_3 : zraw 137 3 = some (.if_icmp .lt 13, 3) ∧ ((3 : Nat) : Int) + 13 = Int.ofNat 16 ∧ 3 + 3 = 6 := by decide +kernel
theorem zi_137_6 : zraw 137 6 = some (.iload_n 0, 1) ∧ 6 + 1 = 7 := by decide +kernel
theorem zi_137_7 : zraw 137 7 = some (.bipush 122, 2) ∧ zin 128 122 = true ∧ 7 + 2 = 9 := by decide +kernel
theorem zi_137_9 : zraw 137 9 = some (.if_icmp .gt 7, 3) ∧ ((9 : Nat) : Int) + 7 = Int.ofNat 16 ∧ 9 + 3 = 12 := by decide +kernel
theorem zi_137_12 : zraw 137 12 = some (.iconst 1, 1) ∧ zin 128 1 = true ∧ 12 + 1 = 13 := by decide +kernel
theorem zi_137_13 : zraw 137 13 = some (.goto 4, 3) ∧ ((13 : Nat) : Int) + 4 = Int.ofNat 17 := by decide +kernel
theorem zi_137_16 : zraw 137 16 = some (.iconst 0, 1) ∧ zin 128 0 = true ∧ 16 + 1 = 17 := by decide +kernel
theorem zi_137_17 : zraw 137 17 = some (.ireturn, 1) ∧ (zinf 137).2.2.2.1 = 2 := by decide +kernel
theorem ze_137 {K : List zF} {σ : zW} {x0 : Int} : zEv true (zent 137 [.inl x0] :: K) σ = (if x0 < 97 then zEv true ((137, 16, [some (.inl x0)], []) :: K) σ else if 122 < x0 then zEv true ((137, 16, [some (.inl x0)], []) :: K) σ else zRet true K (some (.inl 1)) σ) :=
  yT_en (f := (137, 0, [some (.inl x0)], [])) rfl (yI_iload_n zi_137_0 rfl <| yI_bipush zi_137_1 <| yI_ic_lt zi_137_3 <| yBr (rfl) (yI_iload_n zi_137_6 rfl <| yI_bipush zi_137_7 <| yI_ic_gt zi_137_9 <| yBr (rfl) (yI_iconst zi_137_12 <| yI_goto zi_137_13 <| yI_zreturn zi_137_17 (by decide))))
theorem zj_137_16 {K : List zF} {σ : zW} {o0 : Option zV} : zEv true ((137, 16, [o0], []) :: K) σ = (zRet true K (some (.inl 0)) σ) :=
  yI_iconst zi_137_16 <| yI_zreturn zi_137_17 (by decide)
/-- 138 Treegrab.isDigit(I)Z -/
theorem zi_138_0 : zraw 138 0 = some (.iload_n 0, 1) ∧ 0 + 1 = 1 := by decide +kernel
theorem zi_138_1 : zraw 138 1 = some (.bipush 48, 2) ∧ zin 128 48 = true ∧ 1 + 2 = 3 := by decide +kernel
theorem zi_138_3 : zraw 138 3 = some (.if_icmp .lt 13, 3) ∧ ((3 : Nat) : Int) + 13 = Int.ofNat 16 ∧ 3 + 3 = 6 := by decide +kernel
theorem zi_138_6 : zraw 138 6 = some (.iload_n 0, 1) ∧ 6 + 1 = 7 := by decide +kernel
theorem zi_138_7 : zraw 138 7 = some (.bipush 57, 2) ∧ zin 128 57 = true ∧ 7 + 2 = 9 := by decide +kernel
theorem zi_138_9 : zraw 138 9 = some (.if_icmp .gt 7, 3) ∧ ((9 : Nat) : Int) + 7 = Int.ofNat 16 ∧ 9 + 3 = 12 := by decide +kernel
theorem zi_138_12 : zraw 138 12 = some (.iconst 1, 1) ∧ zin 128 1 = true ∧ 12 + 1 = 13 := by decide +kernel
theorem zi_138_13 : zraw 138 13 = some (.goto 4, 3) ∧ ((13 : Nat) : Int) + 4 = Int.ofNat 17 := by decide +kernel
theorem zi_138_16 : zraw 138 16 = some (.iconst 0, 1) ∧ zin 128 0 = true ∧ 16 + 1 = 17 := by decide +kernel
theorem zi_138_17 : zraw 138 17 = some (.ireturn, 1) ∧ (zinf 138).2.2.2.1 = 2 := by decide +kernel
theorem ze_138 {K : List zF} {σ : zW} {x0 : Int} : zEv true (zent 138 [.inl x0] :: K) σ = (if x0 < 48 then zEv true ((138, 16, [some (.inl x0)], []) :: K) σ else if 57 < x0 then zEv true ((138, 16, [some (.inl x0)], []) :: K) σ else zRet true K (some (.inl 1)) σ) :=
  yT_en (f := (138, 0, [some (.inl x0)], [])) rfl (yI_iload_n zi_138_0 rfl <| yI_bipush zi_138_1 <| yI_ic_lt zi_138_3 <| yBr (rfl) (yI_iload_n zi_138_6 rfl <| yI_bipush zi_138_7 <| yI_ic_gt zi_138_9 <| yBr (rfl) (yI_iconst zi_138_12 <| yI_goto zi_138_13 <| yI_zreturn zi_138_17 (by decide))))
theorem zj_138_16 {K : List zF} {σ : zW} {o0 : Option zV} : zEv true ((138, 16, [o0], []) :: K) σ = (zRet true K (some (.inl 0)) σ) :=
  yI_iconst zi_138_16 <| yI_zreturn zi_138_17 (by decide)
/-- 139 TreegrabLaw.dice([II)I -/
theorem zi_139_0 : zraw 139 0 = some (.iload_n 1, 1) ∧ 0 + 1 = 1 := by decide +kernel
theorem zi_139_1 : zraw 139 1 = some (.aload_n 0, 1) ∧ 1 + 1 = 2 := by decide +kernel
theorem zi_139_2 : zraw 139 2 = some (.arraylength, 1) ∧ 2 + 1 = 3 := by decide +kernel
theorem zi_139_3 : zraw 139 3 = some (.if_icmp .ge 9, 3) ∧ ((3 : Nat) : Int) + 9 = Int.ofNat 12 ∧ 3 + 3 = 6 := by decide +kernel
theorem zi_139_6 : zraw 139 6 = some (.aload_n 0, 1) ∧ 6 + 1 = 7 := by decide +kernel
theorem zi_139_7 : zraw 139 7 = some (.iload_n 1, 1) ∧ 7 + 1 = 8 := by decide +kernel
theorem zi_139_8 : zraw 139 8 = some (.iaload, 1) ∧ 8 + 1 = 9 := by decide +kernel
theorem zi_139_9 : zraw 139 9 = some (.goto 23, 3) ∧ ((9 : Nat) : Int) + 23 = Int.ofNat 32 := by decide +kernel
theorem zi_139_12 : zraw 139 12 = some (.ldc 7, 2) ∧ zst (zinf 139).1 7 = none ∧ zit (zinf 139).1 7 = some 1779033703 ∧ 12 + 2 = 14 := by decide +kernel
theorem zi_139_14 : zraw 139 14 = some (.iload_n 1, 1) ∧ 14 + 1 = 15 := by decide +kernel
theorem zi_139_15 : zraw 139 15 = some (.sipush 281, 3) ∧ zin 32768 281 = true ∧ 15 + 3 = 18 := by decide +kernel
theorem zi_139_18 : zraw 139 18 = some (.iadd, 1) ∧ 18 + 1 = 19 := by decide +kernel
theorem zi_139_19 : zraw 139 19 = some (.imul, 1) ∧ 19 + 1 = 20 := by decide +kernel
theorem zi_139_20 : zraw 139 20 = some (.sipush 695, 3) ∧ zin 32768 695 = true ∧ 20 + 3 = 23 := by decide +kernel
theorem zi_139_23 : zraw 139 23 = some (.iload_n 1, 1) ∧ 23 + 1 = 24 := by decide +kernel
theorem zi_139_24 : zraw 139 24 = some (.imul, 1) ∧ 24 + 1 = 25 := by decide +kernel
theorem zi_139_25 : zraw 139 25 = some (.iload_n 1, 1) ∧ 25 + 1 = 26 := by decide +kernel
theorem zi_139_26 : zraw 139 26 = some (.imul, 1) ∧ 26 + 1 = 27 := by decide +kernel
theorem zi_139_27 : zraw 139 27 = some (.iadd, 1) ∧ 27 + 1 = 28 := by decide +kernel
theorem zi_139_28 : zraw 139 28 = some (.sipush 181, 3) ∧ zin 32768 181 = true ∧ 28 + 3 = 31 := by decide +kernel
theorem zi_139_31 : zraw 139 31 = some (.iadd, 1) ∧ 31 + 1 = 32 := by decide +kernel
theorem zi_139_32 : zraw 139 32 = some (.ldc 8, 2) ∧ zst (zinf 139).1 8 = none ∧ zit (zinf 139).1 8 = some 2147483647 ∧ 32 + 2 = 34 := by decide +kernel
theorem zi_139_34 : zraw 139 34 = some (.iand, 1) ∧ 34 + 1 = 35 := by decide +kernel
theorem zi_139_35 : zraw 139 35 = some (.ireturn, 1) ∧ (zinf 139).2.2.2.1 = 1 := by decide +kernel
theorem ze_139 {K : List zF} {σ : zW} {x1 : Int} : zEv true (zent 139 [.inr (.inr 99999), .inl x1] :: K) σ = ((¬ ((gI σ 99998 0) ≤ x1) → (0 ≤ x1 ∧ x1 < (gI σ 99998 0))) ∧ zRet true K (some (.inl (zand (if (gI σ 99998 0) ≤ x1 then w32 ((w32 ((w32 (1779033703 * (w32 (x1 + 281)))) + (w32 ((w32 (695 * x1)) * x1)))) + 181) else gI σ 99999 x1.toNat : Int) 2147483647))) σ) :=
  yT_en (f := (139, 0, [some (.inr (.inr 99999)), some (.inl x1)], [])) rfl (yI_iload_n zi_139_0 rfl <| yI_aload_n zi_139_1 rfl <| yI_slen zi_139_2 <| yI_ic_ge zi_139_3 <| yMi2 (j := 32) (ls2 := [some (.inr (.inr 99999)), some (.inl x1)]) (st2 := []) (x := w32 ((w32 ((w32 (1779033703 * (w32 (x1 + 281)))) + (w32 ((w32 (695 * x1)) * x1)))) + 181)) (y := gI σ 99999 x1.toNat) (σ2 := σ) (yI_ldc_i zi_139_12 <| yI_iload_n zi_139_14 rfl <| yI_sipush zi_139_15 <| yI_iadd zi_139_18 <| yI_imul zi_139_19 <| yI_sipush zi_139_20 <| yI_iload_n zi_139_23 rfl <| yI_imul zi_139_24 <| yI_iload_n zi_139_25 rfl <| yI_imul zi_139_26 <| yI_iadd zi_139_27 <| yI_sipush zi_139_28 <| yI_iadd zi_139_31 <| rfl) (yI_aload_n zi_139_6 rfl <| yI_iload_n zi_139_7 rfl <| yI_scr zi_139_8 <| yI_goto zi_139_9 <| rfl) <| yI_ldc_i zi_139_32 <| yI_iand zi_139_34 <| yI_ireturn zi_139_35)
/-- 140 TreegrabLaw.act(LTreegrab;IJI)I -/
theorem zi_140_0 : zraw 140 0 = some (.iload_n 1, 1) ∧ 0 + 1 = 1 := by decide +kernel
theorem zi_140_1 : zraw 140 1 = some (.ifCond .ne 13, 3) ∧ ((1 : Nat) : Int) + 13 = Int.ofNat 14 ∧ 1 + 3 = 4 := by decide +kernel
theorem zi_140_4 : zraw 140 4 = some (.aload_n 0, 1) ∧ 4 + 1 = 5 := by decide +kernel
theorem zi_140_5 : zraw 140 5 = some (.lload_n 2, 1) ∧ 5 + 1 = 6 := by decide +kernel
theorem zi_140_6 : zraw 140 6 = some (.iload 4, 2) ∧ 6 + 2 = 8 := by decide +kernel
theorem zi_140_8 : zraw 140 8 = some (.invokevirtual 9, 3) ∧ zmt (zinf 140).1 9 = some 104 ∧ Nat.ble 9000 104 = false ∧ zinf 104 = (9, 3, 4, 1, 0) ∧ 8 + 3 = 11 := by decide +kernel
theorem zi_140_11 : zraw 140 11 = some (.goto 61, 3) ∧ ((11 : Nat) : Int) + 61 = Int.ofNat 72 := by decide +kernel
theorem zi_140_14 : zraw 140 14 = some (.iload_n 1, 1) ∧ 14 + 1 = 15 := by decide +kernel
theorem zi_140_15 : zraw 140 15 = some (.iconst 1, 1) ∧ zin 128 1 = true ∧ 15 + 1 = 16 := by decide +kernel
theorem zi_140_16 : zraw 140 16 = some (.if_icmp .ne 12, 3) ∧ ((16 : Nat) : Int) + 12 = Int.ofNat 28 ∧ 16 + 3 = 19 := by decide +kernel
theorem zi_140_19 : zraw 140 19 = some (.aload_n 0, 1) ∧ 19 + 1 = 20 := by decide +kernel
theorem zi_140_20 : zraw 140 20 = some (.iload 4, 2) ∧ 20 + 2 = 22 := by decide +kernel
theorem zi_140_22 : zraw 140 22 = some (.invokevirtual 15, 3) ∧ zmt (zinf 140).1 15 = some 105 ∧ Nat.ble 9000 105 = false ∧ zinf 105 = (9, 2, 4, 1, 0) ∧ 22 + 3 = 25 := by decide +kernel
theorem zi_140_25 : zraw 140 25 = some (.goto 47, 3) ∧ ((25 : Nat) : Int) + 47 = Int.ofNat 72 := by decide +kernel
theorem zi_140_28 : zraw 140 28 = some (.iload_n 1, 1) ∧ 28 + 1 = 29 := by decide +kernel
theorem zi_140_29 : zraw 140 29 = some (.iconst 2, 1) ∧ zin 128 2 = true ∧ 29 + 1 = 30 := by decide +kernel
theorem zi_140_30 : zraw 140 30 = some (.if_icmp .ne 10, 3) ∧ ((30 : Nat) : Int) + 10 = Int.ofNat 40 ∧ 30 + 3 = 33 := by decide +kernel
theorem zi_140_33 : zraw 140 33 = some (.aload_n 0, 1) ∧ 33 + 1 = 34 := by decide +kernel
theorem zi_140_34 : zraw 140 34 = some (.invokevirtual 19, 3) ∧ zmt (zinf 140).1 19 = some 106 ∧ Nat.ble 9000 106 = false ∧ zinf 106 = (9, 1, 3, 1, 0) ∧ 34 + 3 = 37 := by decide +kernel
theorem zi_140_37 : zraw 140 37 = some (.goto 35, 3) ∧ ((37 : Nat) : Int) + 35 = Int.ofNat 72 := by decide +kernel
theorem zi_140_40 : zraw 140 40 = some (.iload_n 1, 1) ∧ 40 + 1 = 41 := by decide +kernel
theorem zi_140_41 : zraw 140 41 = some (.iconst 3, 1) ∧ zin 128 3 = true ∧ 41 + 1 = 42 := by decide +kernel
theorem zi_140_42 : zraw 140 42 = some (.if_icmp .ne 10, 3) ∧ ((42 : Nat) : Int) + 10 = Int.ofNat 52 ∧ 42 + 3 = 45 := by decide +kernel
theorem zi_140_45 : zraw 140 45 = some (.aload_n 0, 1) ∧ 45 + 1 = 46 := by decide +kernel
theorem zi_140_46 : zraw 140 46 = some (.invokevirtual 23, 3) ∧ zmt (zinf 140).1 23 = some 107 ∧ Nat.ble 9000 107 = false ∧ zinf 107 = (9, 1, 3, 1, 0) ∧ 46 + 3 = 49 := by decide +kernel
theorem zi_140_49 : zraw 140 49 = some (.goto 23, 3) ∧ ((49 : Nat) : Int) + 23 = Int.ofNat 72 := by decide +kernel
theorem zi_140_52 : zraw 140 52 = some (.iload_n 1, 1) ∧ 52 + 1 = 53 := by decide +kernel
theorem zi_140_53 : zraw 140 53 = some (.iconst 4, 1) ∧ zin 128 4 = true ∧ 53 + 1 = 54 := by decide +kernel
theorem zi_140_54 : zraw 140 54 = some (.if_icmp .ne 12, 3) ∧ ((54 : Nat) : Int) + 12 = Int.ofNat 66 ∧ 54 + 3 = 57 := by decide +kernel
theorem zi_140_57 : zraw 140 57 = some (.aload_n 0, 1) ∧ 57 + 1 = 58 := by decide +kernel
theorem zi_140_58 : zraw 140 58 = some (.iload 4, 2) ∧ 58 + 2 = 60 := by decide +kernel
theorem zi_140_60 : zraw 140 60 = some (.invokevirtual 26, 3) ∧ zmt (zinf 140).1 26 = some 120 ∧ Nat.ble 9000 120 = false ∧ zinf 120 = (9, 2, 6, 1, 0) ∧ 60 + 3 = 63 := by decide +kernel
theorem zi_140_63 : zraw 140 63 = some (.goto 9, 3) ∧ ((63 : Nat) : Int) + 9 = Int.ofNat 72 := by decide +kernel
theorem zi_140_66 : zraw 140 66 = some (.aload_n 0, 1) ∧ 66 + 1 = 67 := by decide +kernel
theorem zi_140_67 : zraw 140 67 = some (.iload 4, 2) ∧ 67 + 2 = 69 := by decide +kernel
theorem zi_140_69 : zraw 140 69 = some (.invokevirtual 29, 3) ∧ zmt (zinf 140).1 29 = some 121 ∧ Nat.ble 9000 121 = false ∧ zinf 121 = (9, 2, 2, 1, 0) ∧ 69 + 3 = 72 := by decide +kernel
theorem zi_140_72 : zraw 140 72 = some (.ireturn, 1) ∧ (zinf 140).2.2.2.1 = 1 := by decide +kernel
theorem ze_140 {K : List zF} {σ : zW} {x1 : Int} {x2 : Int64} {x4 : Int} (hK : K.length < 60) : zEv true (zent 140 [.inr (.inr 1), .inl x1, .inr (.inl x2), .inl x4] :: K) σ = (if ¬ x1 = 0 then if ¬ x1 = 1 then if ¬ x1 = 2 then if ¬ x1 = 3 then if ¬ x1 = 4 then zEv true (zent 121 [.inr (.inr 1), .inl x4] :: (140, 72, [some (.inr (.inr 1)), some (.inl x1), some (.inr (.inl x2)), none, some (.inl x4), none], []) :: K) σ else zEv true (zent 120 [.inr (.inr 1), .inl x4] :: (140, 63, [some (.inr (.inr 1)), some (.inl x1), some (.inr (.inl x2)), none, some (.inl x4), none], []) :: K) σ else zEv true (zent 107 [.inr (.inr 1)] :: (140, 49, [some (.inr (.inr 1)), some (.inl x1), some (.inr (.inl x2)), none, some (.inl x4), none], []) :: K) σ else zEv true (zent 106 [.inr (.inr 1)] :: (140, 37, [some (.inr (.inr 1)), some (.inl x1), some (.inr (.inl x2)), none, some (.inl x4), none], []) :: K) σ else zEv true (zent 105 [.inr (.inr 1), .inl x4] :: (140, 25, [some (.inr (.inr 1)), some (.inl x1), some (.inr (.inl x2)), none, some (.inl x4), none], []) :: K) σ else zEv true (zent 104 [.inr (.inr 1), .inr (.inl x2), .inl x4] :: (140, 11, [some (.inr (.inr 1)), some (.inl x1), some (.inr (.inl x2)), none, some (.inl x4), none], []) :: K) σ) :=
  yT_en (f := (140, 0, [some (.inr (.inr 1)), some (.inl x1), some (.inr (.inl x2)), none, some (.inl x4), none], [])) rfl (yI_iload_n zi_140_0 rfl <| yI_if_ne zi_140_1 <| yBr (yI_iload_n zi_140_14 rfl <| yI_iconst zi_140_15 <| yI_ic_ne zi_140_16 <| yBr (yI_iload_n zi_140_28 rfl <| yI_iconst zi_140_29 <| yI_ic_ne zi_140_30 <| yBr (yI_iload_n zi_140_40 rfl <| yI_iconst zi_140_41 <| yI_ic_ne zi_140_42 <| yBr (yI_iload_n zi_140_52 rfl <| yI_iconst zi_140_53 <| yI_ic_ne zi_140_54 <| yBr (yI_aload_n zi_140_66 rfl <| yI_iload zi_140_67 rfl <| yI_cv zi_140_69 rfl rfl zk_1 hK) (yI_aload_n zi_140_57 rfl <| yI_iload zi_140_58 rfl <| yI_cv zi_140_60 rfl rfl zk_1 hK)) (yI_aload_n zi_140_45 rfl <| yI_cv zi_140_46 rfl rfl zk_1 hK)) (yI_aload_n zi_140_33 rfl <| yI_cv zi_140_34 rfl rfl zk_1 hK)) (yI_aload_n zi_140_19 rfl <| yI_iload zi_140_20 rfl <| yI_cv zi_140_22 rfl rfl zk_1 hK)) (yI_aload_n zi_140_4 rfl <| yI_lload_n zi_140_5 rfl <| yI_iload zi_140_6 rfl <| yI_cv zi_140_8 rfl rfl zk_1 hK))
theorem zr_140_72 {K : List zF} {σ : zW} {o0 : Option zV} {o1 : Option zV} {o2 : Option zV} {o3 : Option zV} {o4 : Option zV} {o5 : Option zV} {v : Int} : zRet true ((140, 72, [o0, o1, o2, o3, o4, o5], []) :: K) (some (.inl v)) σ = (zRet true K (some (.inl v)) σ) :=
  yT_rt (yI_ireturn zi_140_72)
theorem zr_140_63 {K : List zF} {σ : zW} {o0 : Option zV} {o1 : Option zV} {o2 : Option zV} {o3 : Option zV} {o4 : Option zV} {o5 : Option zV} {v : Int} : zRet true ((140, 63, [o0, o1, o2, o3, o4, o5], []) :: K) (some (.inl v)) σ = (zRet true K (some (.inl v)) σ) :=
  yT_rt (yI_goto zi_140_63 <| yI_ireturn zi_140_72)
theorem zr_140_49 {K : List zF} {σ : zW} {o0 : Option zV} {o1 : Option zV} {o2 : Option zV} {o3 : Option zV} {o4 : Option zV} {o5 : Option zV} {v : Int} : zRet true ((140, 49, [o0, o1, o2, o3, o4, o5], []) :: K) (some (.inl v)) σ = (zRet true K (some (.inl v)) σ) :=
  yT_rt (yI_goto zi_140_49 <| yI_ireturn zi_140_72)
theorem zr_140_37 {K : List zF} {σ : zW} {o0 : Option zV} {o1 : Option zV} {o2 : Option zV} {o3 : Option zV} {o4 : Option zV} {o5 : Option zV} {v : Int} : zRet true ((140, 37, [o0, o1, o2, o3, o4, o5], []) :: K) (some (.inl v)) σ = (zRet true K (some (.inl v)) σ) :=
  yT_rt (yI_goto zi_140_37 <| yI_ireturn zi_140_72)
theorem zr_140_25 {K : List zF} {σ : zW} {o0 : Option zV} {o1 : Option zV} {o2 : Option zV} {o3 : Option zV} {o4 : Option zV} {o5 : Option zV} {v : Int} : zRet true ((140, 25, [o0, o1, o2, o3, o4, o5], []) :: K) (some (.inl v)) σ = (zRet true K (some (.inl v)) σ) :=
  yT_rt (yI_goto zi_140_25 <| yI_ireturn zi_140_72)
theorem zr_140_11 {K : List zF} {σ : zW} {o0 : Option zV} {o1 : Option zV} {o2 : Option zV} {o3 : Option zV} {o4 : Option zV} {o5 : Option zV} {v : Int} : zRet true ((140, 11, [o0, o1, o2, o3, o4, o5], []) :: K) (some (.inl v)) σ = (zRet true K (some (.inl v)) σ) :=
  yT_rt (yI_goto zi_140_11 <| yI_ireturn zi_140_72)
/-- 141 TreegrabLaw.of(LTreegrab;IIII)I -/
theorem zi_141_0 : zraw 141 0 = some (.iload_n 1, 1) ∧ 0 + 1 = 1 := by decide +kernel
theorem zi_141_1 : zraw 141 1 = some (.ifCond .ne 11, 3) ∧ ((1 : Nat) : Int) + 11 = Int.ofNat 12 ∧ 1 + 3 = 4 := by decide +kernel
theorem zi_141_4 : zraw 141 4 = some (.aload_n 0, 1) ∧ 4 + 1 = 5 := by decide +kernel
theorem zi_141_5 : zraw 141 5 = some (.iload_n 2, 1) ∧ 5 + 1 = 6 := by decide +kernel
theorem zi_141_6 : zraw 141 6 = some (.invokevirtual 38, 3) ∧ zmt (zinf 141).1 38 = some 109 ∧ Nat.ble 9000 109 = false ∧ zinf 109 = (9, 2, 2, 1, 0) ∧ 6 + 3 = 9 := by decide +kernel
theorem zi_141_9 : zraw 141 9 = some (.goto 179, 3) ∧ ((9 : Nat) : Int) + 179 = Int.ofNat 188 := by decide +kernel
theorem zi_141_12 : zraw 141 12 = some (.iload_n 1, 1) ∧ 12 + 1 = 13 := by decide +kernel
theorem zi_141_13 : zraw 141 13 = some (.iconst 1, 1) ∧ zin 128 1 = true ∧ 13 + 1 = 14 := by decide +kernel
theorem zi_141_14 : zraw 141 14 = some (.if_icmp .ne 12, 3) ∧ ((14 : Nat) : Int) + 12 = Int.ofNat 26 ∧ 14 + 3 = 17 := by decide +kernel
theorem zi_141_17 : zraw 141 17 = some (.aload_n 0, 1) ∧ 17 + 1 = 18 := by decide +kernel
theorem zi_141_18 : zraw 141 18 = some (.iload_n 2, 1) ∧ 18 + 1 = 19 := by decide +kernel
theorem zi_141_19 : zraw 141 19 = some (.iload_n 3, 1) ∧ 19 + 1 = 20 := by decide +kernel
theorem zi_141_20 : zraw 141 20 = some (.invokevirtual 41, 3) ∧ zmt (zinf 141).1 41 = some 110 ∧ Nat.ble 9000 110 = false ∧ zinf 110 = (9, 3, 3, 1, 0) ∧ 20 + 3 = 23 := by decide +kernel
theorem zi_141_23 : zraw 141 23 = some (.goto 165, 3) ∧ ((23 : Nat) : Int) + 165 = Int.ofNat 188 := by decide +kernel
theorem zi_141_26 : zraw 141 26 = some (.iload_n 1, 1) ∧ 26 + 1 = 27 := by decide +kernel
theorem zi_141_27 : zraw 141 27 = some (.iconst 2, 1) ∧ zin 128 2 = true ∧ 27 + 1 = 28 := by decide +kernel
theorem zi_141_28 : zraw 141 28 = some (.if_icmp .ne 12, 3) ∧ ((28 : Nat) : Int) + 12 = Int.ofNat 40 ∧ 28 + 3 = 31 := by decide +kernel
theorem zi_141_31 : zraw 141 31 = some (.aload_n 0, 1) ∧ 31 + 1 = 32 := by decide +kernel
theorem zi_141_32 : zraw 141 32 = some (.iload_n 2, 1) ∧ 32 + 1 = 33 := by decide +kernel
theorem zi_141_33 : zraw 141 33 = some (.iload_n 3, 1) ∧ 33 + 1 = 34 := by decide +kernel
theorem zi_141_34 : zraw 141 34 = some (.invokevirtual 45, 3) ∧ zmt (zinf 141).1 45 = some 111 ∧ Nat.ble 9000 111 = false ∧ zinf 111 = (9, 3, 3, 1, 0) ∧ 34 + 3 = 37 := by decide +kernel
theorem zi_141_37 : zraw 141 37 = some (.goto 151, 3) ∧ ((37 : Nat) : Int) + 151 = Int.ofNat 188 := by decide +kernel
theorem zi_141_40 : zraw 141 40 = some (.iload_n 1, 1) ∧ 40 + 1 = 41 := by decide +kernel
theorem zi_141_41 : zraw 141 41 = some (.iconst 3, 1) ∧ zin 128 3 = true ∧ 41 + 1 = 42 := by decide +kernel
theorem zi_141_42 : zraw 141 42 = some (.if_icmp .ne 23, 3) ∧ ((42 : Nat) : Int) + 23 = Int.ofNat 65 ∧ 42 + 3 = 45 := by decide +kernel
theorem zi_141_45 : zraw 141 45 = some (.aload_n 0, 1) ∧ 45 + 1 = 46 := by decide +kernel
theorem zi_141_46 : zraw 141 46 = some (.iload_n 2, 1) ∧ 46 + 1 = 47 := by decide +kernel
theorem zi_141_47 : zraw 141 47 = some (.iload_n 3, 1) ∧ 47 + 1 = 48 := by decide +kernel
theorem zi_141_48 : zraw 141 48 = some (.iload 4, 2) ∧ 48 + 2 = 50 := by decide +kernel
theorem zi_141_50 : zraw 141 50 = some (.iconst 1, 1) ∧ zin 128 1 = true ∧ 50 + 1 = 51 := by decide +kernel
theorem zi_141_51 : zraw 141 51 = some (.if_icmp .ne 7, 3) ∧ ((51 : Nat) : Int) + 7 = Int.ofNat 58 ∧ 51 + 3 = 54 := by decide +kernel
theorem zi_141_54 : zraw 141 54 = some (.iconst 1, 1) ∧ zin 128 1 = true ∧ 54 + 1 = 55 := by decide +kernel
theorem zi_141_55 : zraw 141 55 = some (.goto 4, 3) ∧ ((55 : Nat) : Int) + 4 = Int.ofNat 59 := by decide +kernel
theorem zi_141_58 : zraw 141 58 = some (.iconst 0, 1) ∧ zin 128 0 = true ∧ 58 + 1 = 59 := by decide +kernel
theorem zi_141_59 : zraw 141 59 = some (.invokevirtual 48, 3) ∧ zmt (zinf 141).1 48 = some 112 ∧ Nat.ble 9000 112 = false ∧ zinf 112 = (9, 4, 4, 1, 0) ∧ 59 + 3 = 62 := by decide +kernel
theorem zi_141_62 : zraw 141 62 = some (.goto 126, 3) ∧ ((62 : Nat) : Int) + 126 = Int.ofNat 188 := by decide +kernel
theorem zi_141_65 : zraw 141 65 = some (.iload_n 1, 1) ∧ 65 + 1 = 66 := by decide +kernel
theorem zi_141_66 : zraw 141 66 = some (.iconst 4, 1) ∧ zin 128 4 = true ∧ 66 + 1 = 67 := by decide +kernel
theorem zi_141_67 : zraw 141 67 = some (.if_icmp .ne 11, 3) ∧ ((67 : Nat) : Int) + 11 = Int.ofNat 78 ∧ 67 + 3 = 70 := by decide +kernel
theorem zi_141_70 : zraw 141 70 = some (.aload_n 0, 1) ∧ 70 + 1 = 71 := by decide +kernel
theorem zi_141_71 : zraw 141 71 = some (.iload_n 2, 1) ∧ 71 + 1 = 72 := by decide +kernel
theorem zi_141_72 : zraw 141 72 = some (.invokevirtual 52, 3) ∧ zmt (zinf 141).1 52 = some 113 ∧ Nat.ble 9000 113 = false ∧ zinf 113 = (9, 2, 4, 1, 0) ∧ 72 + 3 = 75 := by decide +kernel
theorem zi_141_75 : zraw 141 75 = some (.goto 113, 3) ∧ ((75 : Nat) : Int) + 113 = Int.ofNat 188 := by decide +kernel
theorem zi_141_78 : zraw 141 78 = some (.iload_n 1, 1) ∧ 78 + 1 = 79 := by decide +kernel
theorem zi_141_79 : zraw 141 79 = some (.iconst 5, 1) ∧ zin 128 5 = true ∧ 79 + 1 = 80 := by decide +kernel
theorem zi_141_80 : zraw 141 80 = some (.if_icmp .ne 11, 3) ∧ ((80 : Nat) : Int) + 11 = Int.ofNat 91 ∧ 80 + 3 = 83 := by decide +kernel
theorem zi_141_83 : zraw 141 83 = some (.aload_n 0, 1) ∧ 83 + 1 = 84 := by decide +kernel
theorem zi_141_84 : zraw 141 84 = some (.iload_n 2, 1) ∧ 84 + 1 = 85 := by decide +kernel
theorem zi_141_85 : zraw 141 85 = some (.invokevirtual 55, 3) ∧ zmt (zinf 141).1 55 = some 114 ∧ Nat.ble 9000 114 = false ∧ zinf 114 = (9, 2, 3, 1, 0) ∧ 85 + 3 = 88 := by decide +kernel
theorem zi_141_88 : zraw 141 88 = some (.goto 100, 3) ∧ ((88 : Nat) : Int) + 100 = Int.ofNat 188 := by decide +kernel
theorem zi_141_91 : zraw 141 91 = some (.iload_n 1, 1) ∧ 91 + 1 = 92 := by decide +kernel
theorem zi_141_92 : zraw 141 92 = some (.bipush 6, 2) ∧ zin 128 6 = true ∧ 92 + 2 = 94 := by decide +kernel
theorem zi_141_94 : zraw 141 94 = some (.if_icmp .ne 11, 3) ∧ ((94 : Nat) : Int) + 11 = Int.ofNat 105 ∧ 94 + 3 = 97 := by decide +kernel
theorem zi_141_97 : zraw 141 97 = some (.aload_n 0, 1) ∧ 97 + 1 = 98 := by decide +kernel
theorem zi_141_98 : zraw 141 98 = some (.iload_n 2, 1) ∧ 98 + 1 = 99 := by decide +kernel
theorem zi_141_99 : zraw 141 99 = some (.invokevirtual 58, 3) ∧ zmt (zinf 141).1 58 = some 115 ∧ Nat.ble 9000 115 = false ∧ zinf 115 = (9, 2, 2, 1, 0) ∧ 99 + 3 = 102 := by decide +kernel
theorem zi_141_102 : zraw 141 102 = some (.goto 86, 3) ∧ ((102 : Nat) : Int) + 86 = Int.ofNat 188 := by decide +kernel
theorem zi_141_105 : zraw 141 105 = some (.iload_n 1, 1) ∧ 105 + 1 = 106 := by decide +kernel
theorem zi_141_106 : zraw 141 106 = some (.bipush 7, 2) ∧ zin 128 7 = true ∧ 106 + 2 = 108 := by decide +kernel
theorem zi_141_108 : zraw 141 108 = some (.if_icmp .ne 11, 3) ∧ ((108 : Nat) : Int) + 11 = Int.ofNat 119 ∧ 108 + 3 = 111 := by decide +kernel
theorem zi_141_111 : zraw 141 111 = some (.aload_n 0, 1) ∧ 111 + 1 = 112 := by decide +kernel
theorem zi_141_112 : zraw 141 112 = some (.iload_n 2, 1) ∧ 112 + 1 = 113 := by decide +kernel
theorem zi_141_113 : zraw 141 113 = some (.invokevirtual 61, 3) ∧ zmt (zinf 141).1 61 = some 116 ∧ Nat.ble 9000 116 = false ∧ zinf 116 = (9, 2, 2, 1, 0) ∧ 113 + 3 = 116 := by decide +kernel
theorem zi_141_116 : zraw 141 116 = some (.goto 72, 3) ∧ ((116 : Nat) : Int) + 72 = Int.ofNat 188 := by decide +kernel
theorem zi_141_119 : zraw 141 119 = some (.iload_n 1, 1) ∧ 119 + 1 = 120 := by decide +kernel
theorem zi_141_120 : zraw 141 120 = some (.bipush 8, 2) ∧ zin 128 8 = true ∧ 120 + 2 = 122 := by decide +kernel
theorem zi_141_122 : zraw 141 122 = some (.if_icmp .ne 14, 3) ∧ ((122 : Nat) : Int) + 14 = Int.ofNat 136 ∧ 122 + 3 = 125 := by decide +kernel
theorem zi_141_125 : zraw 141 125 = some (.aload_n 0, 1) ∧ 125 + 1 = 126 := by decide +kernel
theorem zi_141_126 : zraw 141 126 = some (.iload_n 2, 1) ∧ 126 + 1 = 127 := by decide +kernel
theorem zi_141_127 : zraw 141 127 = some (.iload_n 3, 1) ∧ 127 + 1 = 128 := by decide +kernel
theorem zi_141_128 : zraw 141 128 = some (.iload 4, 2) ∧ 128 + 2 = 130 := by decide +kernel
theorem zi_141_130 : zraw 141 130 = some (.invokevirtual 64, 3) ∧ zmt (zinf 141).1 64 = some 117 ∧ Nat.ble 9000 117 = false ∧ zinf 117 = (9, 4, 4, 1, 0) ∧ 130 + 3 = 133 := by decide +kernel
theorem zi_141_133 : zraw 141 133 = some (.goto 55, 3) ∧ ((133 : Nat) : Int) + 55 = Int.ofNat 188 := by decide +kernel
theorem zi_141_136 : zraw 141 136 = some (.iload_n 1, 1) ∧ 136 + 1 = 137 := by decide +kernel
theorem zi_141_137 : zraw 141 137 = some (.bipush 9, 2) ∧ zin 128 9 = true ∧ 137 + 2 = 139 := by decide +kernel
theorem zi_141_139 : zraw 141 139 = some (.if_icmp .ne 14, 3) ∧ ((139 : Nat) : Int) + 14 = Int.ofNat 153 ∧ 139 + 3 = 142 := by decide +kernel
theorem zi_141_142 : zraw 141 142 = some (.aload_n 0, 1) ∧ 142 + 1 = 143 := by decide +kernel
theorem zi_141_143 : zraw 141 143 = some (.iload_n 2, 1) ∧ 143 + 1 = 144 := by decide +kernel
theorem zi_141_144 : zraw 141 144 = some (.iload_n 3, 1) ∧ 144 + 1 = 145 := by decide +kernel
theorem zi_141_145 : zraw 141 145 = some (.iload 4, 2) ∧ 145 + 2 = 147 := by decide +kernel
theorem zi_141_147 : zraw 141 147 = some (.invokevirtual 68, 3) ∧ zmt (zinf 141).1 68 = some 118 ∧ Nat.ble 9000 118 = false ∧ zinf 118 = (9, 4, 4, 1, 0) ∧ 147 + 3 = 150 := by decide +kernel
theorem zi_141_150 : zraw 141 150 = some (.goto 38, 3) ∧ ((150 : Nat) : Int) + 38 = Int.ofNat 188 := by decide +kernel
theorem zi_141_153 : zraw 141 153 = some (.iload_n 1, 1) ∧ 153 + 1 = 154 := by decide +kernel
theorem zi_141_154 : zraw 141 154 = some (.bipush 10, 2) ∧ zin 128 10 = true ∧ 154 + 2 = 156 := by decide +kernel
theorem zi_141_156 : zraw 141 156 = some (.if_icmp .ne 12, 3) ∧ ((156 : Nat) : Int) + 12 = Int.ofNat 168 ∧ 156 + 3 = 159 := by decide +kernel
theorem zi_141_159 : zraw 141 159 = some (.aload_n 0, 1) ∧ 159 + 1 = 160 := by decide +kernel
theorem zi_141_160 : zraw 141 160 = some (.iload_n 2, 1) ∧ 160 + 1 = 161 := by decide +kernel
theorem zi_141_161 : zraw 141 161 = some (.iload_n 3, 1) ∧ 161 + 1 = 162 := by decide +kernel
theorem zi_141_162 : zraw 141 162 = some (.invokevirtual 71, 3) ∧ zmt (zinf 141).1 71 = some 119 ∧ Nat.ble 9000 119 = false ∧ zinf 119 = (9, 3, 3, 1, 0) ∧ 162 + 3 = 165 := by decide +kernel
theorem zi_141_165 : zraw 141 165 = some (.goto 23, 3) ∧ ((165 : Nat) : Int) + 23 = Int.ofNat 188 := by decide +kernel
theorem zi_141_168 : zraw 141 168 = some (.iload_n 1, 1) ∧ 168 + 1 = 169 := by decide +kernel
theorem zi_141_169 : zraw 141 169 = some (.bipush 11, 2) ∧ zin 128 11 = true ∧ 169 + 2 = 171 := by decide +kernel
theorem zi_141_171 : zraw 141 171 = some (.if_icmp .ne 11, 3) ∧ ((171 : Nat) : Int) + 11 = Int.ofNat 182 ∧ 171 + 3 = 174 := by decide +kernel
theorem zi_141_174 : zraw 141 174 = some (.aload_n 0, 1) ∧ 174 + 1 = 175 := by decide +kernel
theorem zi_141_175 : zraw 141 175 = some (.iload_n 2, 1) ∧ 175 + 1 = 176 := by decide +kernel
theorem zi_141_176 : zraw 141 176 = some (.invokevirtual 74, 3) ∧ zmt (zinf 141).1 74 = some 122 ∧ Nat.ble 9000 122 = false ∧ zinf 122 = (9, 2, 2, 1, 0) ∧ 176 + 3 = 179 := by decide +kernel
theorem zi_141_179 : zraw 141 179 = some (.goto 9, 3) ∧ ((179 : Nat) : Int) + 9 = Int.ofNat 188 := by decide +kernel
theorem zi_141_182 : zraw 141 182 = some (.aload_n 0, 1) ∧ 182 + 1 = 183 := by decide +kernel
theorem zi_141_183 : zraw 141 183 = some (.iload_n 2, 1) ∧ 183 + 1 = 184 := by decide +kernel
theorem zi_141_184 : zraw 141 184 = some (.iload_n 3, 1) ∧ 184 + 1 = 185 := by decide +kernel
theorem zi_141_185 : zraw 141 185 = some (.invokevirtual 77, 3) ∧ zmt (zinf 141).1 77 = some 123 ∧ Nat.ble 9000 123 = false ∧ zinf 123 = (9, 3, 3, 1, 0) ∧ 185 + 3 = 188 := by decide +kernel
theorem zi_141_188 : zraw 141 188 = some (.ireturn, 1) ∧ (zinf 141).2.2.2.1 = 1 := by decide +kernel
theorem ze_141 {K : List zF} {σ : zW} {x1 : Int} {x2 : Int} {x3 : Int} {x4 : Int} (hK : K.length < 60) : zEv true (zent 141 [.inr (.inr 1), .inl x1, .inl x2, .inl x3, .inl x4] :: K) σ = (if ¬ x1 = 0 then if ¬ x1 = 1 then if ¬ x1 = 2 then if ¬ x1 = 3 then if ¬ x1 = 4 then if ¬ x1 = 5 then if ¬ x1 = 6 then if ¬ x1 = 7 then if ¬ x1 = 8 then if ¬ x1 = 9 then if ¬ x1 = 10 then if ¬ x1 = 11 then zEv true (zent 123 [.inr (.inr 1), .inl x2, .inl x3] :: (141, 188, [some (.inr (.inr 1)), some (.inl x1), some (.inl x2), some (.inl x3), some (.inl x4), none], []) :: K) σ else zEv true (zent 122 [.inr (.inr 1), .inl x2] :: (141, 179, [some (.inr (.inr 1)), some (.inl x1), some (.inl x2), some (.inl x3), some (.inl x4), none], []) :: K) σ else zEv true (zent 119 [.inr (.inr 1), .inl x2, .inl x3] :: (141, 165, [some (.inr (.inr 1)), some (.inl x1), some (.inl x2), some (.inl x3), some (.inl x4), none], []) :: K) σ else zEv true (zent 118 [.inr (.inr 1), .inl x2, .inl x3, .inl x4] :: (141, 150, [some (.inr (.inr 1)), some (.inl x1), some (.inl x2), some (.inl x3), some (.inl x4), none], []) :: K) σ else zEv true (zent 117 [.inr (.inr 1), .inl x2, .inl x3, .inl x4] :: (141, 133, [some (.inr (.inr 1)), some (.inl x1), some (.inl x2), some (.inl x3), some (.inl x4), none], []) :: K) σ else zEv true (zent 116 [.inr (.inr 1), .inl x2] :: (141, 116, [some (.inr (.inr 1)), some (.inl x1), some (.inl x2), some (.inl x3), some (.inl x4), none], []) :: K) σ else zEv true (zent 115 [.inr (.inr 1), .inl x2] :: (141, 102, [some (.inr (.inr 1)), some (.inl x1), some (.inl x2), some (.inl x3), some (.inl x4), none], []) :: K) σ else zEv true (zent 114 [.inr (.inr 1), .inl x2] :: (141, 88, [some (.inr (.inr 1)), some (.inl x1), some (.inl x2), some (.inl x3), some (.inl x4), none], []) :: K) σ else zEv true (zent 113 [.inr (.inr 1), .inl x2] :: (141, 75, [some (.inr (.inr 1)), some (.inl x1), some (.inl x2), some (.inl x3), some (.inl x4), none], []) :: K) σ else zEv true (zent 112 [.inr (.inr 1), .inl x2, .inl x3, .inl (if ¬ x4 = 1 then 0 else 1 : Int)] :: (141, 62, [some (.inr (.inr 1)), some (.inl x1), some (.inl x2), some (.inl x3), some (.inl x4), none], []) :: K) σ else zEv true (zent 111 [.inr (.inr 1), .inl x2, .inl x3] :: (141, 37, [some (.inr (.inr 1)), some (.inl x1), some (.inl x2), some (.inl x3), some (.inl x4), none], []) :: K) σ else zEv true (zent 110 [.inr (.inr 1), .inl x2, .inl x3] :: (141, 23, [some (.inr (.inr 1)), some (.inl x1), some (.inl x2), some (.inl x3), some (.inl x4), none], []) :: K) σ else zEv true (zent 109 [.inr (.inr 1), .inl x2] :: (141, 9, [some (.inr (.inr 1)), some (.inl x1), some (.inl x2), some (.inl x3), some (.inl x4), none], []) :: K) σ) :=
  yT_en (f := (141, 0, [some (.inr (.inr 1)), some (.inl x1), some (.inl x2), some (.inl x3), some (.inl x4), none], [])) rfl (yI_iload_n zi_141_0 rfl <| yI_if_ne zi_141_1 <| yBr (yI_iload_n zi_141_12 rfl <| yI_iconst zi_141_13 <| yI_ic_ne zi_141_14 <| yBr (yI_iload_n zi_141_26 rfl <| yI_iconst zi_141_27 <| yI_ic_ne zi_141_28 <| yBr (yI_iload_n zi_141_40 rfl <| yI_iconst zi_141_41 <| yI_ic_ne zi_141_42 <| yBr (yI_iload_n zi_141_65 rfl <| yI_iconst zi_141_66 <| yI_ic_ne zi_141_67 <| yBr (yI_iload_n zi_141_78 rfl <| yI_iconst zi_141_79 <| yI_ic_ne zi_141_80 <| yBr (yI_iload_n zi_141_91 rfl <| yI_bipush zi_141_92 <| yI_ic_ne zi_141_94 <| yBr (yI_iload_n zi_141_105 rfl <| yI_bipush zi_141_106 <| yI_ic_ne zi_141_108 <| yBr (yI_iload_n zi_141_119 rfl <| yI_bipush zi_141_120 <| yI_ic_ne zi_141_122 <| yBr (yI_iload_n zi_141_136 rfl <| yI_bipush zi_141_137 <| yI_ic_ne zi_141_139 <| yBr (yI_iload_n zi_141_153 rfl <| yI_bipush zi_141_154 <| yI_ic_ne zi_141_156 <| yBr (yI_iload_n zi_141_168 rfl <| yI_bipush zi_141_169 <| yI_ic_ne zi_141_171 <| yBr (yI_aload_n zi_141_182 rfl <| yI_iload_n zi_141_183 rfl <| yI_iload_n zi_141_184 rfl <| yI_cv zi_141_185 rfl rfl zk_1 hK) (yI_aload_n zi_141_174 rfl <| yI_iload_n zi_141_175 rfl <| yI_cv zi_141_176 rfl rfl zk_1 hK)) (yI_aload_n zi_141_159 rfl <| yI_iload_n zi_141_160 rfl <| yI_iload_n zi_141_161 rfl <| yI_cv zi_141_162 rfl rfl zk_1 hK)) (yI_aload_n zi_141_142 rfl <| yI_iload_n zi_141_143 rfl <| yI_iload_n zi_141_144 rfl <| yI_iload zi_141_145 rfl <| yI_cv zi_141_147 rfl rfl zk_1 hK)) (yI_aload_n zi_141_125 rfl <| yI_iload_n zi_141_126 rfl <| yI_iload_n zi_141_127 rfl <| yI_iload zi_141_128 rfl <| yI_cv zi_141_130 rfl rfl zk_1 hK)) (yI_aload_n zi_141_111 rfl <| yI_iload_n zi_141_112 rfl <| yI_cv zi_141_113 rfl rfl zk_1 hK)) (yI_aload_n zi_141_97 rfl <| yI_iload_n zi_141_98 rfl <| yI_cv zi_141_99 rfl rfl zk_1 hK)) (yI_aload_n zi_141_83 rfl <| yI_iload_n zi_141_84 rfl <| yI_cv zi_141_85 rfl rfl zk_1 hK)) (yI_aload_n zi_141_70 rfl <| yI_iload_n zi_141_71 rfl <| yI_cv zi_141_72 rfl rfl zk_1 hK)) (yI_aload_n zi_141_45 rfl <| yI_iload_n zi_141_46 rfl <| yI_iload_n zi_141_47 rfl <| yI_iload zi_141_48 rfl <| yI_iconst zi_141_50 <| yI_ic_ne zi_141_51 <| yMi0 (j := 59) (ls2 := [some (.inr (.inr 1)), some (.inl x1), some (.inl x2), some (.inl x3), some (.inl x4), none]) (st2 := [.inl x3, .inl x2, .inr (.inr 1)]) (x := 0) (y := 1) (σ2 := σ) (yI_iconst zi_141_58 <| rfl) (yI_iconst zi_141_54 <| yI_goto zi_141_55 <| rfl) <| yI_cv zi_141_59 rfl rfl zk_1 hK)) (yI_aload_n zi_141_31 rfl <| yI_iload_n zi_141_32 rfl <| yI_iload_n zi_141_33 rfl <| yI_cv zi_141_34 rfl rfl zk_1 hK)) (yI_aload_n zi_141_17 rfl <| yI_iload_n zi_141_18 rfl <| yI_iload_n zi_141_19 rfl <| yI_cv zi_141_20 rfl rfl zk_1 hK)) (yI_aload_n zi_141_4 rfl <| yI_iload_n zi_141_5 rfl <| yI_cv zi_141_6 rfl rfl zk_1 hK))
theorem zr_141_188 {K : List zF} {σ : zW} {o0 : Option zV} {o1 : Option zV} {o2 : Option zV} {o3 : Option zV} {o4 : Option zV} {o5 : Option zV} {v : Int} : zRet true ((141, 188, [o0, o1, o2, o3, o4, o5], []) :: K) (some (.inl v)) σ = (zRet true K (some (.inl v)) σ) :=
  yT_rt (yI_ireturn zi_141_188)
theorem zr_141_179 {K : List zF} {σ : zW} {o0 : Option zV} {o1 : Option zV} {o2 : Option zV} {o3 : Option zV} {o4 : Option zV} {o5 : Option zV} {v : Int} : zRet true ((141, 179, [o0, o1, o2, o3, o4, o5], []) :: K) (some (.inl v)) σ = (zRet true K (some (.inl v)) σ) :=
  yT_rt (yI_goto zi_141_179 <| yI_ireturn zi_141_188)
theorem zr_141_165 {K : List zF} {σ : zW} {o0 : Option zV} {o1 : Option zV} {o2 : Option zV} {o3 : Option zV} {o4 : Option zV} {o5 : Option zV} {v : Int} : zRet true ((141, 165, [o0, o1, o2, o3, o4, o5], []) :: K) (some (.inl v)) σ = (zRet true K (some (.inl v)) σ) :=
  yT_rt (yI_goto zi_141_165 <| yI_ireturn zi_141_188)
theorem zr_141_150 {K : List zF} {σ : zW} {o0 : Option zV} {o1 : Option zV} {o2 : Option zV} {o3 : Option zV} {o4 : Option zV} {o5 : Option zV} {v : Int} : zRet true ((141, 150, [o0, o1, o2, o3, o4, o5], []) :: K) (some (.inl v)) σ = (zRet true K (some (.inl v)) σ) :=
  yT_rt (yI_goto zi_141_150 <| yI_ireturn zi_141_188)
theorem zr_141_133 {K : List zF} {σ : zW} {o0 : Option zV} {o1 : Option zV} {o2 : Option zV} {o3 : Option zV} {o4 : Option zV} {o5 : Option zV} {v : Int} : zRet true ((141, 133, [o0, o1, o2, o3, o4, o5], []) :: K) (some (.inl v)) σ = (zRet true K (some (.inl v)) σ) :=
  yT_rt (yI_goto zi_141_133 <| yI_ireturn zi_141_188)
theorem zr_141_116 {K : List zF} {σ : zW} {o0 : Option zV} {o1 : Option zV} {o2 : Option zV} {o3 : Option zV} {o4 : Option zV} {o5 : Option zV} {v : Int} : zRet true ((141, 116, [o0, o1, o2, o3, o4, o5], []) :: K) (some (.inl v)) σ = (zRet true K (some (.inl v)) σ) :=
  yT_rt (yI_goto zi_141_116 <| yI_ireturn zi_141_188)
theorem zr_141_102 {K : List zF} {σ : zW} {o0 : Option zV} {o1 : Option zV} {o2 : Option zV} {o3 : Option zV} {o4 : Option zV} {o5 : Option zV} {v : Int} : zRet true ((141, 102, [o0, o1, o2, o3, o4, o5], []) :: K) (some (.inl v)) σ = (zRet true K (some (.inl v)) σ) :=
  yT_rt (yI_goto zi_141_102 <| yI_ireturn zi_141_188)
theorem zr_141_88 {K : List zF} {σ : zW} {o0 : Option zV} {o1 : Option zV} {o2 : Option zV} {o3 : Option zV} {o4 : Option zV} {o5 : Option zV} {v : Int} : zRet true ((141, 88, [o0, o1, o2, o3, o4, o5], []) :: K) (some (.inl v)) σ = (zRet true K (some (.inl v)) σ) :=
  yT_rt (yI_goto zi_141_88 <| yI_ireturn zi_141_188)
theorem zr_141_75 {K : List zF} {σ : zW} {o0 : Option zV} {o1 : Option zV} {o2 : Option zV} {o3 : Option zV} {o4 : Option zV} {o5 : Option zV} {v : Int} : zRet true ((141, 75, [o0, o1, o2, o3, o4, o5], []) :: K) (some (.inl v)) σ = (zRet true K (some (.inl v)) σ) :=
  yT_rt (yI_goto zi_141_75 <| yI_ireturn zi_141_188)
theorem zr_141_62 {K : List zF} {σ : zW} {o0 : Option zV} {o1 : Option zV} {o2 : Option zV} {o3 : Option zV} {o4 : Option zV} {o5 : Option zV} {v : Int} : zRet true ((141, 62, [o0, o1, o2, o3, o4, o5], []) :: K) (some (.inl v)) σ = (zRet true K (some (.inl v)) σ) :=
  yT_rt (yI_goto zi_141_62 <| yI_ireturn zi_141_188)
theorem zr_141_37 {K : List zF} {σ : zW} {o0 : Option zV} {o1 : Option zV} {o2 : Option zV} {o3 : Option zV} {o4 : Option zV} {o5 : Option zV} {v : Int} : zRet true ((141, 37, [o0, o1, o2, o3, o4, o5], []) :: K) (some (.inl v)) σ = (zRet true K (some (.inl v)) σ) :=
  yT_rt (yI_goto zi_141_37 <| yI_ireturn zi_141_188)
theorem zr_141_23 {K : List zF} {σ : zW} {o0 : Option zV} {o1 : Option zV} {o2 : Option zV} {o3 : Option zV} {o4 : Option zV} {o5 : Option zV} {v : Int} : zRet true ((141, 23, [o0, o1, o2, o3, o4, o5], []) :: K) (some (.inl v)) σ = (zRet true K (some (.inl v)) σ) :=
  yT_rt (yI_goto zi_141_23 <| yI_ireturn zi_141_188)
theorem zr_141_9 {K : List zF} {σ : zW} {o0 : Option zV} {o1 : Option zV} {o2 : Option zV} {o3 : Option zV} {o4 : Option zV} {o5 : Option zV} {v : Int} : zRet true ((141, 9, [o0, o1, o2, o3, o4, o5], []) :: K) (some (.inl v)) σ = (zRet true K (some (.inl v)) σ) :=
  yT_rt (yI_goto zi_141_9 <| yI_ireturn zi_141_188)
/-- 142 TreegrabLaw.says(LTreegrab;I)V -/
theorem zi_142_0 : zraw 142 0 = some (.aload_n 0, 1) ∧ 0 + 1 = 1 := by decide +kernel
theorem zi_142_1 : zraw 142 1 = some (.iconst 0, 1) ∧ zin 128 0 = true ∧ 1 + 1 = 2 := by decide +kernel
theorem zi_142_2 : zraw 142 2 = some (.iload_n 1, 1) ∧ 2 + 1 = 3 := by decide +kernel
theorem zi_142_3 : zraw 142 3 = some (.i2l, 1) ∧ 3 + 1 = 4 := by decide +kernel
theorem zi_142_4 : zraw 142 4 = some (.iconst 1, 1) ∧ zin 128 1 = true ∧ 4 + 1 = 5 := by decide +kernel
theorem zi_142_5 : zraw 142 5 = some (.invokestatic 80, 3) ∧ zmt (zinf 142).1 80 = some 140 ∧ Nat.ble 9000 140 = false ∧ zinf 140 = (11, 4, 6, 1, 1) ∧ 5 + 3 = 8 := by decide +kernel
theorem zi_142_8 : zraw 142 8 = some (.pop, 1) ∧ 8 + 1 = 9 := by decide +kernel
theorem zi_142_9 : zraw 142 9 = some (.return_, 1) ∧ (zinf 142).2.2.2.1 = 0 := by decide +kernel
theorem ze_142 {K : List zF} {σ : zW} {x1 : Int} (hK : K.length < 60) : zEv true (zent 142 [.inr (.inr 1), .inl x1] :: K) σ = (zEv true (zent 140 [.inr (.inr 1), .inl 0, .inr (.inl (zi2l x1)), .inl 1] :: (142, 8, [some (.inr (.inr 1)), some (.inl x1)], []) :: K) σ) :=
  yT_en (f := (142, 0, [some (.inr (.inr 1)), some (.inl x1)], [])) rfl (yI_aload_n zi_142_0 rfl <| yI_iconst zi_142_1 <| yI_iload_n zi_142_2 rfl <| yI_i2l zi_142_3 <| yI_iconst zi_142_4 <| yI_cs zi_142_5 rfl rfl hK)
theorem zr_142_8 {K : List zF} {σ : zW} {o0 : Option zV} {o1 : Option zV} {v : Int} : zRet true ((142, 8, [o0, o1], []) :: K) (some (.inl v)) σ = (zRet true K none σ) :=
  yT_rt (yI_pop_i zi_142_8 <| yI_ret zi_142_9)
/-- 143 TreegrabLaw.all(LTreegrab;)J -/
theorem zi_143_0 : zraw 143 0 = some (.lconst 0, 1) ∧ (bif Nat.beq (0 : Fin 2).val 0 then (0 : Int64) else 1) = 0 ∧ 0 + 1 = 1 := by decide +kernel
theorem zi_143_1 : zraw 143 1 = some (.lstore_n 1, 1) ∧ 1 + 1 = 2 := by decide +kernel
theorem zi_143_2 : zraw 143 2 = some (.iconst 0, 1) ∧ zin 128 0 = true ∧ 2 + 1 = 3 := by decide +kernel
theorem zi_143_3 : zraw 143 3 = some (.istore_n 3, 1) ∧ 3 + 1 = 4 := by decide +kernel
theorem zi_143_4 : zraw 143 4 = some (.iload_n 3, 1) ∧ 4 + 1 = 5 := by decide +kernel
theorem zi_143_5 : zraw 143 5 = some (.iconst 3, 1) ∧ zin 128 3 = true ∧ 5 + 1 = 6 := by decide +kernel
theorem zi_143_6 : zraw 143 6 = some (.if_icmp .ge 80, 3) ∧ ((6 : Nat) : Int) + 80 = Int.ofNat 86 ∧ 6 + 3 = 9 := by decide +kernel
theorem zi_143_9 : zraw 143 9 = some (.aload_n 0, 1) ∧ 9 + 1 = 10 := by decide +kernel
theorem zi_143_10 : zraw 143 10 = some (.iload_n 3, 1) ∧ 10 + 1 = 11 := by decide +kernel
theorem zi_143_11 : zraw 143 11 = some (.invokevirtual 74, 3) ∧ zmt (zinf 143).1 74 = some 122 ∧ Nat.ble 9000 122 = false ∧ zinf 122 = (9, 2, 2, 1, 0) ∧ 11 + 3 = 14 := by decide +kernel
theorem zi_143_14 : zraw 143 14 = some (.istore 4, 2) ∧ 14 + 2 = 16 := by decide +kernel
theorem zi_143_16 : zraw 143 16 = some (.ldc2_w 86, 3) ∧ zlt (zinf 143).1 86 = some 1000003 ∧ 16 + 3 = 19 := by decide +kernel
theorem zi_143_19 : zraw 143 19 = some (.lload_n 1, 1) ∧ 19 + 1 = 20 := by decide +kernel
theorem zi_143_20 : zraw 143 20 = some (.lmul, 1) ∧ 20 + 1 = 21 := by decide +kernel
theorem zi_143_21 : zraw 143 21 = some (.iload 4, 2) ∧ 21 + 2 = 23 := by decide +kernel
theorem zi_143_23 : zraw 143 23 = some (.i2l, 1) ∧ 23 + 1 = 24 := by decide +kernel
theorem zi_143_24 : zraw 143 24 = some (.ladd, 1) ∧ 24 + 1 = 25 := by decide +kernel
theorem zi_143_25 : zraw 143 25 = some (.ldc2_w 88, 3) ∧ zlt (zinf 143).1 88 = some 31 ∧ 25 + 3 = 28 := by decide +kernel
theorem zi_143_28 : zraw 143 28 = some (.aload_n 0, 1) ∧ 28 + 1 = 29 := by decide +kernel
theorem zi_143_29 : zraw 143 29 = some (.iload_n 3, 1) ∧ 29 + 1 = 30 := by decide +kernel
theorem zi_143_30 : zraw 143 30 = some (.invokevirtual 38, 3) ∧ zmt (zinf 143).1 38 = some 109 ∧ Nat.ble 9000 109 = false ∧ zinf 109 = (9, 2, 2, 1, 0) ∧ 30 + 3 = 33 := by decide +kernel
theorem zi_143_33 : zraw 143 33 = some (.i2l, 1) ∧ 33 + 1 = 34 := by decide +kernel
theorem zi_143_34 : zraw 143 34 = some (.lmul, 1) ∧ 34 + 1 = 35 := by decide +kernel
theorem zi_143_35 : zraw 143 35 = some (.ladd, 1) ∧ 35 + 1 = 36 := by decide +kernel
theorem zi_143_36 : zraw 143 36 = some (.ldc2_w 90, 3) ∧ zlt (zinf 143).1 90 = some 257 ∧ 36 + 3 = 39 := by decide +kernel
theorem zi_143_39 : zraw 143 39 = some (.aload_n 0, 1) ∧ 39 + 1 = 40 := by decide +kernel
theorem zi_143_40 : zraw 143 40 = some (.iload_n 3, 1) ∧ 40 + 1 = 41 := by decide +kernel
theorem zi_143_41 : zraw 143 41 = some (.invokevirtual 58, 3) ∧ zmt (zinf 143).1 58 = some 115 ∧ Nat.ble 9000 115 = false ∧ zinf 115 = (9, 2, 2, 1, 0) ∧ 41 + 3 = 44 := by decide +kernel
theorem zi_143_44 : zraw 143 44 = some (.i2l, 1) ∧ 44 + 1 = 45 := by decide +kernel
theorem zi_143_45 : zraw 143 45 = some (.lmul, 1) ∧ 45 + 1 = 46 := by decide +kernel
theorem zi_143_46 : zraw 143 46 = some (.ladd, 1) ∧ 46 + 1 = 47 := by decide +kernel
theorem zi_143_47 : zraw 143 47 = some (.lstore_n 1, 1) ∧ 47 + 1 = 48 := by decide +kernel
theorem zi_143_48 : zraw 143 48 = some (.iconst 0, 1) ∧ zin 128 0 = true ∧ 48 + 1 = 49 := by decide +kernel
theorem zi_143_49 : zraw 143 49 = some (.istore 5, 2) ∧ 49 + 2 = 51 := by decide +kernel
theorem zi_143_51 : zraw 143 51 = some (.bipush 8, 2) ∧ zin 128 8 = true ∧ 51 + 2 = 53 := by decide +kernel
theorem zi_143_53 : zraw 143 53 = some (.iload 5, 2) ∧ 53 + 2 = 55 := by decide +kernel
theorem zi_143_55 : zraw 143 55 = some (.imul, 1) ∧ 55 + 1 = 56 := by decide +kernel
theorem zi_143_56 : zraw 143 56 = some (.iload 4, 2) ∧ 56 + 2 = 58 := by decide +kernel
theorem zi_143_58 : zraw 143 58 = some (.if_icmp .ge 22, 3) ∧ ((58 : Nat) : Int) + 22 = Int.ofNat 80 ∧ 58 + 3 = 61 := by decide +kernel
theorem zi_143_61 : zraw 143 61 = some (.ldc2_w 88, 3) ∧ zlt (zinf 143).1 88 = some 31 ∧ 61 + 3 = 64 := by decide +kernel
theorem zi_143_64 : zraw 143 64 = some (.lload_n 1, 1) ∧ 64 + 1 = 65 := by decide +kernel
theorem zi_143_65 : zraw 143 65 = some (.lmul, 1) ∧ 65 + 1 = 66 := by decide +kernel
theorem zi_143_66 : zraw 143 66 = some (.aload_n 0, 1) ∧ 66 + 1 = 67 := by decide +kernel
theorem zi_143_67 : zraw 143 67 = some (.iload 5, 2) ∧ 67 + 2 = 69 := by decide +kernel
theorem zi_143_69 : zraw 143 69 = some (.invokevirtual 92, 3) ∧ zmt (zinf 143).1 92 = some 124 ∧ Nat.ble 9000 124 = false ∧ zinf 124 = (9, 2, 2, 3, 0) ∧ 69 + 3 = 72 := by decide +kernel
theorem zi_143_72 : zraw 143 72 = some (.ladd, 1) ∧ 72 + 1 = 73 := by decide +kernel
theorem zi_143_73 : zraw 143 73 = some (.lstore_n 1, 1) ∧ 73 + 1 = 74 := by decide +kernel
theorem zi_143_74 : zraw 143 74 = some (.iinc 5 1, 3) ∧ zin 32768 1 = true ∧ 74 + 3 = 77 := by decide +kernel
theorem zi_143_77 : zraw 143 77 = some (.goto (-26), 3) ∧ ((77 : Nat) : Int) + (-26) = Int.ofNat 51 := by decide +kernel
theorem zi_143_80 : zraw 143 80 = some (.iinc 3 1, 3) ∧ zin 32768 1 = true ∧ 80 + 3 = 83 := by decide +kernel
theorem zi_143_83 : zraw 143 83 = some (.goto (-79), 3) ∧ ((83 : Nat) : Int) + (-79) = Int.ofNat 4 := by decide +kernel
theorem zi_143_86 : zraw 143 86 = some (.lload_n 1, 1) ∧ 86 + 1 = 87 := by decide +kernel
theorem zi_143_87 : zraw 143 87 = some (.lreturn, 1) ∧ (zinf 143).2.2.2.1 = 3 := by decide +kernel
theorem ze_143 {K : List zF} {σ : zW} : zEv true (zent 143 [.inr (.inr 1)] :: K) σ = (zEv true ((143, 4, [some (.inr (.inr 1)), some (.inr (.inl 0)), none, some (.inl 0), none, none], []) :: K) σ) :=
  yT_en (f := (143, 0, [some (.inr (.inr 1)), none, none, none, none, none], [])) rfl (yI_lconst zi_143_0 <| yI_lstore_n (l := [some (.inr (.inr 1)), some (.inr (.inl 0)), none, none, none, none]) zi_143_1 rfl rfl <| yI_iconst zi_143_2 <| yI_istore_n (l := [some (.inr (.inr 1)), some (.inr (.inl 0)), none, some (.inl 0), none, none]) zi_143_3 rfl rfl <| rfl)
theorem zj_143_4 {K : List zF} {σ : zW} {x1 : Int64} {x3 : Int} {o4 : Option zV} {o5 : Option zV} (hK : K.length < 60) : zEv true ((143, 4, [some (.inr (.inr 1)), some (.inr (.inl x1)), none, some (.inl x3), o4, o5], []) :: K) σ = (if 3 ≤ x3 then zRet true K (some (.inr (.inl x1))) σ else zEv true (zent 122 [.inr (.inr 1), .inl x3] :: (143, 14, [some (.inr (.inr 1)), some (.inr (.inl x1)), none, some (.inl x3), o4, o5], []) :: K) σ) :=
  yI_iload_n zi_143_4 rfl <| yI_iconst zi_143_5 <| yI_ic_ge zi_143_6 <| yBr (yI_lload_n zi_143_86 rfl <| yI_lreturn zi_143_87) (yI_aload_n zi_143_9 rfl <| yI_iload_n zi_143_10 rfl <| yI_cv zi_143_11 rfl rfl zk_1 hK)
theorem zr_143_14 {K : List zF} {σ : zW} {x1 : Int64} {x3 : Int} {o4 : Option zV} {o5 : Option zV} {v : Int} (hK : K.length < 60) : zRet true ((143, 14, [some (.inr (.inr 1)), some (.inr (.inl x1)), none, some (.inl x3), o4, o5], []) :: K) (some (.inl v)) σ = (zEv true (zent 109 [.inr (.inr 1), .inl x3] :: (143, 33, [some (.inr (.inr 1)), some (.inr (.inl x1)), none, some (.inl x3), some (.inl v), o5], [.inr (.inl 31), .inr (.inl ((1000003 * x1) + (zi2l v)))]) :: K) σ) :=
  yT_rt (yI_istore (l := [some (.inr (.inr 1)), some (.inr (.inl x1)), none, some (.inl x3), some (.inl v), o5]) zi_143_14 rfl rfl <| yI_ldc2_w zi_143_16 <| yI_lload_n zi_143_19 rfl <| yI_lmul zi_143_20 <| yI_iload zi_143_21 rfl <| yI_i2l zi_143_23 <| yI_ladd zi_143_24 <| yI_ldc2_w zi_143_25 <| yI_aload_n zi_143_28 rfl <| yI_iload_n zi_143_29 rfl <| yI_cv zi_143_30 rfl rfl zk_1 hK)
theorem zr_143_33 {K : List zF} {σ : zW} {o1 : Option zV} {o2 : Option zV} {x3 : Int} {x4 : Int} {o5 : Option zV} {s0 : Int64} {s1 : Int64} {v : Int} (hK : K.length < 60) : zRet true ((143, 33, [some (.inr (.inr 1)), o1, o2, some (.inl x3), some (.inl x4), o5], [.inr (.inl s0), .inr (.inl s1)]) :: K) (some (.inl v)) σ = (zEv true (zent 115 [.inr (.inr 1), .inl x3] :: (143, 44, [some (.inr (.inr 1)), o1, o2, some (.inl x3), some (.inl x4), o5], [.inr (.inl 257), .inr (.inl (s1 + (s0 * (zi2l v))))]) :: K) σ) :=
  yT_rt (yI_i2l zi_143_33 <| yI_lmul zi_143_34 <| yI_ladd zi_143_35 <| yI_ldc2_w zi_143_36 <| yI_aload_n zi_143_39 rfl <| yI_iload_n zi_143_40 rfl <| yI_cv zi_143_41 rfl rfl zk_1 hK)
theorem zr_143_44 {K : List zF} {σ : zW} {o1 : Option zV} {o2 : Option zV} {x3 : Int} {x4 : Int} {o5 : Option zV} {s0 : Int64} {s1 : Int64} {v : Int} : zRet true ((143, 44, [some (.inr (.inr 1)), o1, o2, some (.inl x3), some (.inl x4), o5], [.inr (.inl s0), .inr (.inl s1)]) :: K) (some (.inl v)) σ = (zEv true ((143, 51, [some (.inr (.inr 1)), some (.inr (.inl (s1 + (s0 * (zi2l v))))), none, some (.inl x3), some (.inl x4), some (.inl 0)], []) :: K) σ) :=
  yT_rt (yI_i2l zi_143_44 <| yI_lmul zi_143_45 <| yI_ladd zi_143_46 <| yI_lstore_n (l := [some (.inr (.inr 1)), some (.inr (.inl (s1 + (s0 * (zi2l v))))), none, some (.inl x3), some (.inl x4), o5]) zi_143_47 rfl rfl <| yI_iconst zi_143_48 <| yI_istore (l := [some (.inr (.inr 1)), some (.inr (.inl (s1 + (s0 * (zi2l v))))), none, some (.inl x3), some (.inl x4), some (.inl 0)]) zi_143_49 rfl rfl <| rfl)
theorem zj_143_51 {K : List zF} {σ : zW} {x1 : Int64} {x3 : Int} {x4 : Int} {x5 : Int} (hK : K.length < 60) : zEv true ((143, 51, [some (.inr (.inr 1)), some (.inr (.inl x1)), none, some (.inl x3), some (.inl x4), some (.inl x5)], []) :: K) σ = (if x4 ≤ (w32 (8 * x5)) then zEv true ((143, 4, [some (.inr (.inr 1)), some (.inr (.inl x1)), none, some (.inl (w32 (x3 + 1))), some (.inl x4), some (.inl x5)], []) :: K) σ else zEv true (zent 124 [.inr (.inr 1), .inl x5] :: (143, 72, [some (.inr (.inr 1)), some (.inr (.inl x1)), none, some (.inl x3), some (.inl x4), some (.inl x5)], [.inr (.inl (31 * x1))]) :: K) σ) :=
  yI_bipush zi_143_51 <| yI_iload zi_143_53 rfl <| yI_imul zi_143_55 <| yI_iload zi_143_56 rfl <| yI_ic_ge zi_143_58 <| yBr (yI_iinc (l := [some (.inr (.inr 1)), some (.inr (.inl x1)), none, some (.inl (w32 (x3 + 1))), some (.inl x4), some (.inl x5)]) zi_143_80 rfl rfl rfl <| yI_goto zi_143_83 <| rfl) (yI_ldc2_w zi_143_61 <| yI_lload_n zi_143_64 rfl <| yI_lmul zi_143_65 <| yI_aload_n zi_143_66 rfl <| yI_iload zi_143_67 rfl <| yI_cv zi_143_69 rfl rfl zk_1 hK)
theorem zr_143_72 {K : List zF} {σ : zW} {o1 : Option zV} {o2 : Option zV} {x3 : Int} {x4 : Int} {x5 : Int} {s0 : Int64} {v : Int64} : zRet true ((143, 72, [some (.inr (.inr 1)), o1, o2, some (.inl x3), some (.inl x4), some (.inl x5)], [.inr (.inl s0)]) :: K) (some (.inr (.inl v))) σ = (zEv true ((143, 51, [some (.inr (.inr 1)), some (.inr (.inl (s0 + v))), none, some (.inl x3), some (.inl x4), some (.inl (w32 (x5 + 1)))], []) :: K) σ) :=
  yT_rt (yI_ladd zi_143_72 <| yI_lstore_n (l := [some (.inr (.inr 1)), some (.inr (.inl (s0 + v))), none, some (.inl x3), some (.inl x4), some (.inl x5)]) zi_143_73 rfl rfl <| yI_iinc (l := [some (.inr (.inr 1)), some (.inr (.inl (s0 + v))), none, some (.inl x3), some (.inl x4), some (.inl (w32 (x5 + 1)))]) zi_143_74 rfl rfl rfl <| yI_goto zi_143_77 <| rfl)
/-- 144 TreegrabLaw.isBelow(LTreegrab;II)Z -/
theorem zi_144_0 : zraw 144 0 = some (.iconst 0, 1) ∧ zin 128 0 = true ∧ 0 + 1 = 1 := by decide +kernel
theorem zi_144_1 : zraw 144 1 = some (.istore_n 3, 1) ∧ 1 + 1 = 2 := by decide +kernel
theorem zi_144_2 : zraw 144 2 = some (.aload_n 0, 1) ∧ 2 + 1 = 3 := by decide +kernel
theorem zi_144_3 : zraw 144 3 = some (.iconst 0, 1) ∧ zin 128 0 = true ∧ 3 + 1 = 4 := by decide +kernel
theorem zi_144_4 : zraw 144 4 = some (.iload_n 1, 1) ∧ 4 + 1 = 5 := by decide +kernel
theorem zi_144_5 : zraw 144 5 = some (.invokevirtual 41, 3) ∧ zmt (zinf 144).1 41 = some 110 ∧ Nat.ble 9000 110 = false ∧ zinf 110 = (9, 3, 3, 1, 0) ∧ 5 + 3 = 8 := by decide +kernel
theorem zi_144_8 : zraw 144 8 = some (.istore 4, 2) ∧ 8 + 2 = 10 := by decide +kernel
theorem zi_144_10 : zraw 144 10 = some (.iload 4, 2) ∧ 10 + 2 = 12 := by decide +kernel
theorem zi_144_12 : zraw 144 12 = some (.ifCond .lt 31, 3) ∧ ((12 : Nat) : Int) + 31 = Int.ofNat 43 ∧ 12 + 3 = 15 := by decide +kernel
theorem zi_144_15 : zraw 144 15 = some (.iload_n 3, 1) ∧ 15 + 1 = 16 := by decide +kernel
theorem zi_144_16 : zraw 144 16 = some (.ifCond .ne 9, 3) ∧ ((16 : Nat) : Int) + 9 = Int.ofNat 25 ∧ 16 + 3 = 19 := by decide +kernel
theorem zi_144_19 : zraw 144 19 = some (.iload 4, 2) ∧ 19 + 2 = 21 := by decide +kernel
theorem zi_144_21 : zraw 144 21 = some (.iload_n 2, 1) ∧ 21 + 1 = 22 := by decide +kernel
theorem zi_144_22 : zraw 144 22 = some (.if_icmp .ne 7, 3) ∧ ((22 : Nat) : Int) + 7 = Int.ofNat 29 ∧ 22 + 3 = 25 := by decide +kernel
theorem zi_144_25 : zraw 144 25 = some (.iconst 1, 1) ∧ zin 128 1 = true ∧ 25 + 1 = 26 := by decide +kernel
theorem zi_144_26 : zraw 144 26 = some (.goto 4, 3) ∧ ((26 : Nat) : Int) + 4 = Int.ofNat 30 := by decide +kernel
theorem zi_144_29 : zraw 144 29 = some (.iconst 0, 1) ∧ zin 128 0 = true ∧ 29 + 1 = 30 := by decide +kernel
theorem zi_144_30 : zraw 144 30 = some (.istore_n 3, 1) ∧ 30 + 1 = 31 := by decide +kernel
theorem zi_144_31 : zraw 144 31 = some (.aload_n 0, 1) ∧ 31 + 1 = 32 := by decide +kernel
theorem zi_144_32 : zraw 144 32 = some (.iconst 0, 1) ∧ zin 128 0 = true ∧ 32 + 1 = 33 := by decide +kernel
theorem zi_144_33 : zraw 144 33 = some (.iload 4, 2) ∧ 33 + 2 = 35 := by decide +kernel
theorem zi_144_35 : zraw 144 35 = some (.invokevirtual 41, 3) ∧ zmt (zinf 144).1 41 = some 110 ∧ Nat.ble 9000 110 = false ∧ zinf 110 = (9, 3, 3, 1, 0) ∧ 35 + 3 = 38 := by decide +kernel
theorem zi_144_38 : zraw 144 38 = some (.istore 4, 2) ∧ 38 + 2 = 40 := by decide +kernel
theorem zi_144_40 : zraw 144 40 = some (.goto (-30), 3) ∧ ((40 : Nat) : Int) + (-30) = Int.ofNat 10 := by decide +kernel
theorem zi_144_43 : zraw 144 43 = some (.iload_n 3, 1) ∧ 43 + 1 = 44 := by decide +kernel
theorem zi_144_44 : zraw 144 44 = some (.ireturn, 1) ∧ (zinf 144).2.2.2.1 = 2 := by decide +kernel
theorem ze_144 {K : List zF} {σ : zW} {x1 : Int} {x2 : Int} (hK : K.length < 60) : zEv true (zent 144 [.inr (.inr 1), .inl x1, .inl x2] :: K) σ = (zEv true (zent 110 [.inr (.inr 1), .inl 0, .inl x1] :: (144, 8, [some (.inr (.inr 1)), some (.inl x1), some (.inl x2), some (.inl 0), none], []) :: K) σ) :=
  yT_en (f := (144, 0, [some (.inr (.inr 1)), some (.inl x1), some (.inl x2), none, none], [])) rfl (yI_iconst zi_144_0 <| yI_istore_n (l := [some (.inr (.inr 1)), some (.inl x1), some (.inl x2), some (.inl 0), none]) zi_144_1 rfl rfl <| yI_aload_n zi_144_2 rfl <| yI_iconst zi_144_3 <| yI_iload_n zi_144_4 rfl <| yI_cv zi_144_5 rfl rfl zk_1 hK)
theorem zr_144_8 {K : List zF} {σ : zW} {o1 : Option zV} {x2 : Int} {x3 : Int} {o4 : Option zV} {v : Int} : zRet true ((144, 8, [some (.inr (.inr 1)), o1, some (.inl x2), some (.inl x3), o4], []) :: K) (some (.inl v)) σ = (zEv true ((144, 10, [some (.inr (.inr 1)), o1, some (.inl x2), some (.inl x3), some (.inl v)], []) :: K) σ) :=
  yT_rt (yI_istore (l := [some (.inr (.inr 1)), o1, some (.inl x2), some (.inl x3), some (.inl v)]) zi_144_8 rfl rfl <| rfl)
theorem zj_144_10 {K : List zF} {σ : zW} {o1 : Option zV} {x2 : Int} {x3 : Int} {x4 : Int} (hK : K.length < 60) : zEv true ((144, 10, [some (.inr (.inr 1)), o1, some (.inl x2), some (.inl x3), some (.inl x4)], []) :: K) σ = (if x4 < 0 then (x3 = 0 ∨ x3 = 1) ∧ zRet true K (some (.inl x3)) σ else zEv true (zent 110 [.inr (.inr 1), .inl 0, .inl x4] :: (144, 38, [some (.inr (.inr 1)), o1, some (.inl x2), some (.inl (if ¬ x3 = 0 then 1 else (if ¬ x4 = x2 then 0 else 1 : Int) : Int)), some (.inl x4)], []) :: K) σ) :=
  yI_iload zi_144_10 rfl <| yI_if_lt zi_144_12 <| yBr (yI_iload_n zi_144_43 rfl <| yI_zreturnc zi_144_44) (yI_iload_n zi_144_15 rfl <| yI_if_ne zi_144_16 <| yMi0 (j := 30) (ls2 := [some (.inr (.inr 1)), o1, some (.inl x2), some (.inl x3), some (.inl x4)]) (st2 := []) (x := 1) (y := (if ¬ x4 = x2 then 0 else 1 : Int)) (σ2 := σ) (yI_iconst zi_144_25 <| yI_goto zi_144_26 <| rfl) (yI_iload zi_144_19 rfl <| yI_iload_n zi_144_21 rfl <| yI_ic_ne zi_144_22 <| yMi0 (j := 30) (ls2 := [some (.inr (.inr 1)), o1, some (.inl x2), some (.inl x3), some (.inl x4)]) (st2 := []) (x := 0) (y := 1) (σ2 := σ) (yI_iconst zi_144_29 <| rfl) (yI_iconst zi_144_25 <| yI_goto zi_144_26 <| rfl) <| rfl) <| yI_istore_n (l := [some (.inr (.inr 1)), o1, some (.inl x2), some (.inl (if ¬ x3 = 0 then 1 else (if ¬ x4 = x2 then 0 else 1 : Int) : Int)), some (.inl x4)]) zi_144_30 rfl rfl <| yI_aload_n zi_144_31 rfl <| yI_iconst zi_144_32 <| yI_iload zi_144_33 rfl <| yI_cv zi_144_35 rfl rfl zk_1 hK)
theorem zr_144_38 {K : List zF} {σ : zW} {o1 : Option zV} {x2 : Int} {x3 : Int} {o4 : Option zV} {v : Int} : zRet true ((144, 38, [some (.inr (.inr 1)), o1, some (.inl x2), some (.inl x3), o4], []) :: K) (some (.inl v)) σ = (zEv true ((144, 10, [some (.inr (.inr 1)), o1, some (.inl x2), some (.inl x3), some (.inl v)], []) :: K) σ) :=
  yT_rt (yI_istore (l := [some (.inr (.inr 1)), o1, some (.inl x2), some (.inl x3), some (.inl v)]) zi_144_38 rfl rfl <| yI_goto zi_144_40 <| rfl)
/-- 145 TreegrabLaw.label(LTreegrab;I)C -/
theorem zi_145_0 : zraw 145 0 = some (.aload_n 0, 1) ∧ 0 + 1 = 1 := by decide +kernel
theorem zi_145_1 : zraw 145 1 = some (.iconst 0, 1) ∧ zin 128 0 = true ∧ 1 + 1 = 2 := by decide +kernel
theorem zi_145_2 : zraw 145 2 = some (.iload_n 1, 1) ∧ 2 + 1 = 3 := by decide +kernel
theorem zi_145_3 : zraw 145 3 = some (.invokevirtual 77, 3) ∧ zmt (zinf 145).1 77 = some 123 ∧ Nat.ble 9000 123 = false ∧ zinf 123 = (9, 3, 3, 1, 0) ∧ 3 + 3 = 6 := by decide +kernel
theorem zi_145_6 : zraw 145 6 = some (.istore_n 2, 1) ∧ 6 + 1 = 7 := by decide +kernel
theorem zi_145_7 : zraw 145 7 = some (.aload_n 0, 1) ∧ 7 + 1 = 8 := by decide +kernel
theorem zi_145_8 : zraw 145 8 = some (.iconst 0, 1) ∧ zin 128 0 = true ∧ 8 + 1 = 9 := by decide +kernel
theorem zi_145_9 : zraw 145 9 = some (.invokevirtual 92, 3) ∧ zmt (zinf 145).1 92 = some 124 ∧ Nat.ble 9000 124 = false ∧ zinf 124 = (9, 2, 2, 3, 0) ∧ 9 + 3 = 12 := by decide +kernel
theorem zi_145_12 : zraw 145 12 = some (.ldc2_w 96, 3) ∧ zlt (zinf 145).1 96 = some 255 ∧ 12 + 3 = 15 := by decide +kernel
theorem zi_145_15 : zraw 145 15 = some (.land, 1) ∧ 15 + 1 = 16 := by decide +kernel
theorem zi_145_16 : zraw 145 16 = some (.l2i, 1) ∧ 16 + 1 = 17 := by decide +kernel
theorem zi_145_17 : zraw 145 17 = some (.i2c, 1) ∧ 17 + 1 = 18 := by decide +kernel
theorem zi_145_18 : zraw 145 18 = some (.ireturn, 1) ∧ (zinf 145).2.2.2.1 = 4 := by decide +kernel
theorem ze_145 {K : List zF} {σ : zW} {x1 : Int} (hK : K.length < 60) : zEv true (zent 145 [.inr (.inr 1), .inl x1] :: K) σ = (zEv true (zent 123 [.inr (.inr 1), .inl 0, .inl x1] :: (145, 6, [some (.inr (.inr 1)), some (.inl x1), none], []) :: K) σ) :=
  yT_en (f := (145, 0, [some (.inr (.inr 1)), some (.inl x1), none], [])) rfl (yI_aload_n zi_145_0 rfl <| yI_iconst zi_145_1 <| yI_iload_n zi_145_2 rfl <| yI_cv zi_145_3 rfl rfl zk_1 hK)
theorem zr_145_6 {K : List zF} {σ : zW} {o1 : Option zV} {o2 : Option zV} {v : Int} (hK : K.length < 60) : zRet true ((145, 6, [some (.inr (.inr 1)), o1, o2], []) :: K) (some (.inl v)) σ = (zEv true (zent 124 [.inr (.inr 1), .inl 0] :: (145, 12, [some (.inr (.inr 1)), (zcut 0 o1), some (.inl v)], []) :: K) σ) :=
  yT_rt (yI_istore_n (l := [some (.inr (.inr 1)), (zcut 0 o1), some (.inl v)]) zi_145_6 rfl rfl <| yI_aload_n zi_145_7 rfl <| yI_iconst zi_145_8 <| yI_cv zi_145_9 rfl rfl zk_1 hK)
theorem zr_145_12 {K : List zF} {σ : zW} {o0 : Option zV} {o1 : Option zV} {o2 : Option zV} {v : Int64} : zRet true ((145, 12, [o0, o1, o2], []) :: K) (some (.inr (.inl v))) σ = ((0 ≤ (zl2i (v &&& 255)) ∧ (zl2i (v &&& 255)) < 65536) ∧ ((0 ≤ (zl2i (v &&& 255)) ∧ (zl2i (v &&& 255)) < 65536) ∧ zRet true K (some (.inl (zl2i (v &&& 255)))) σ)) :=
  yT_rt (yI_ldc2_w zi_145_12 <| yI_land zi_145_15 <| yI_l2i zi_145_16 <| yI_i2c zi_145_17 <| yI_creturnc zi_145_18)
/-- 146 TreegrabLaw.out(LTreegrab;I)I -/
theorem zi_146_0 : zraw 146 0 = some (.aload_n 0, 1) ∧ 0 + 1 = 1 := by decide +kernel
theorem zi_146_1 : zraw 146 1 = some (.iload_n 1, 1) ∧ 1 + 1 = 2 := by decide +kernel
theorem zi_146_2 : zraw 146 2 = some (.bipush 8, 2) ∧ zin 128 8 = true ∧ 2 + 2 = 4 := by decide +kernel
theorem zi_146_4 : zraw 146 4 = some (.idiv, 1) ∧ 4 + 1 = 5 := by decide +kernel
theorem zi_146_5 : zraw 146 5 = some (.invokevirtual 92, 3) ∧ zmt (zinf 146).1 92 = some 124 ∧ Nat.ble 9000 124 = false ∧ zinf 124 = (9, 2, 2, 3, 0) ∧ 5 + 3 = 8 := by decide +kernel
theorem zi_146_8 : zraw 146 8 = some (.bipush 8, 2) ∧ zin 128 8 = true ∧ 8 + 2 = 10 := by decide +kernel
theorem zi_146_10 : zraw 146 10 = some (.iload_n 1, 1) ∧ 10 + 1 = 11 := by decide +kernel
theorem zi_146_11 : zraw 146 11 = some (.bipush 8, 2) ∧ zin 128 8 = true ∧ 11 + 2 = 13 := by decide +kernel
theorem zi_146_13 : zraw 146 13 = some (.irem, 1) ∧ 13 + 1 = 14 := by decide +kernel
theorem zi_146_14 : zraw 146 14 = some (.imul, 1) ∧ 14 + 1 = 15 := by decide +kernel
theorem zi_146_15 : zraw 146 15 = some (.lshr, 1) ∧ 15 + 1 = 16 := by decide +kernel
theorem zi_146_16 : zraw 146 16 = some (.ldc2_w 96, 3) ∧ zlt (zinf 146).1 96 = some 255 ∧ 16 + 3 = 19 := by decide +kernel
theorem zi_146_19 : zraw 146 19 = some (.land, 1) ∧ 19 + 1 = 20 := by decide +kernel
theorem zi_146_20 : zraw 146 20 = some (.l2i, 1) ∧ 20 + 1 = 21 := by decide +kernel
theorem zi_146_21 : zraw 146 21 = some (.ireturn, 1) ∧ (zinf 146).2.2.2.1 = 1 := by decide +kernel
theorem ze_146 {K : List zF} {σ : zW} {x1 : Int} (hK : K.length < 60) : zEv true (zent 146 [.inr (.inr 1), .inl x1] :: K) σ = (zEv true (zent 124 [.inr (.inr 1), .inl (zdiv x1 8)] :: (146, 8, [some (.inr (.inr 1)), some (.inl x1)], []) :: K) σ) :=
  yT_en (f := (146, 0, [some (.inr (.inr 1)), some (.inl x1)], [])) rfl (yI_aload_n zi_146_0 rfl <| yI_iload_n zi_146_1 rfl <| yI_bipush zi_146_2 <| yI_idiv zi_146_4 (by decide) <| yI_cv zi_146_5 rfl rfl zk_1 hK)
theorem zr_146_8 {K : List zF} {σ : zW} {o0 : Option zV} {x1 : Int} {v : Int64} : zRet true ((146, 8, [o0, some (.inl x1)], []) :: K) (some (.inr (.inl v))) σ = (zRet true K (some (.inl (zl2i ((zlshr v (w32 (8 * (zrem x1 8)))) &&& 255)))) σ) :=
  yT_rt (yI_bipush zi_146_8 <| yI_iload_n zi_146_10 rfl <| yI_bipush zi_146_11 <| yI_irem zi_146_13 (by decide) <| yI_imul zi_146_14 <| yI_lshr zi_146_15 <| yI_ldc2_w zi_146_16 <| yI_land zi_146_19 <| yI_l2i zi_146_20 <| yI_ireturn zi_146_21)
/-- 147 TreegrabLaw.hasChild([I[II)Z -/
theorem zi_147_0 : zraw 147 0 = some (.iconst 0, 1) ∧ zin 128 0 = true ∧ 0 + 1 = 1 := by decide +kernel
theorem zi_147_1 : zraw 147 1 = some (.istore_n 3, 1) ∧ 1 + 1 = 2 := by decide +kernel
theorem zi_147_2 : zraw 147 2 = some (.iconst 0, 1) ∧ zin 128 0 = true ∧ 2 + 1 = 3 := by decide +kernel
theorem zi_147_3 : zraw 147 3 = some (.istore 4, 2) ∧ 3 + 2 = 5 := by decide +kernel
theorem zi_147_5 : zraw 147 5 = some (.iload 4, 2) ∧ 5 + 2 = 7 := by decide +kernel
theorem zi_147_7 : zraw 147 7 = some (.aload_n 1, 1) ∧ 7 + 1 = 8 := by decide +kernel
theorem zi_147_8 : zraw 147 8 = some (.iconst 0, 1) ∧ zin 128 0 = true ∧ 8 + 1 = 9 := by decide +kernel
theorem zi_147_9 : zraw 147 9 = some (.iaload, 1) ∧ 9 + 1 = 10 := by decide +kernel
theorem zi_147_10 : zraw 147 10 = some (.if_icmp .ge 27, 3) ∧ ((10 : Nat) : Int) + 27 = Int.ofNat 37 ∧ 10 + 3 = 13 := by decide +kernel
theorem zi_147_13 : zraw 147 13 = some (.iload_n 3, 1) ∧ 13 + 1 = 14 := by decide +kernel
theorem zi_147_14 : zraw 147 14 = some (.ifCond .ne 11, 3) ∧ ((14 : Nat) : Int) + 11 = Int.ofNat 25 ∧ 14 + 3 = 17 := by decide +kernel
theorem zi_147_17 : zraw 147 17 = some (.aload_n 0, 1) ∧ 17 + 1 = 18 := by decide +kernel
theorem zi_147_18 : zraw 147 18 = some (.iload 4, 2) ∧ 18 + 2 = 20 := by decide +kernel
theorem zi_147_20 : zraw 147 20 = some (.iaload, 1) ∧ 20 + 1 = 21 := by decide +kernel
theorem zi_147_21 : zraw 147 21 = some (.iload_n 2, 1) ∧ 21 + 1 = 22 := by decide +kernel
theorem zi_147_22 : zraw 147 22 = some (.if_icmp .ne 7, 3) ∧ ((22 : Nat) : Int) + 7 = Int.ofNat 29 ∧ 22 + 3 = 25 := by decide +kernel
theorem zi_147_25 : zraw 147 25 = some (.iconst 1, 1) ∧ zin 128 1 = true ∧ 25 + 1 = 26 := by decide +kernel
theorem zi_147_26 : zraw 147 26 = some (.goto 4, 3) ∧ ((26 : Nat) : Int) + 4 = Int.ofNat 30 := by decide +kernel
theorem zi_147_29 : zraw 147 29 = some (.iconst 0, 1) ∧ zin 128 0 = true ∧ 29 + 1 = 30 := by decide +kernel
theorem zi_147_30 : zraw 147 30 = some (.istore_n 3, 1) ∧ 30 + 1 = 31 := by decide +kernel
theorem zi_147_31 : zraw 147 31 = some (.iinc 4 1, 3) ∧ zin 32768 1 = true ∧ 31 + 3 = 34 := by decide +kernel
theorem zi_147_34 : zraw 147 34 = some (.goto (-29), 3) ∧ ((34 : Nat) : Int) + (-29) = Int.ofNat 5 := by decide +kernel
theorem zi_147_37 : zraw 147 37 = some (.iload_n 3, 1) ∧ 37 + 1 = 38 := by decide +kernel
theorem zi_147_38 : zraw 147 38 = some (.ireturn, 1) ∧ (zinf 147).2.2.2.1 = 2 := by decide +kernel
theorem ze_147 {K : List zF} {σ : zW} {x2 : Int} : zEv true (zent 147 [.inr (.inr 122), .inr (.inr 123), .inl x2] :: K) σ = (zEv true ((147, 5, [some (.inr (.inr 122)), some (.inr (.inr 123)), some (.inl x2), some (.inl 0), some (.inl 0)], []) :: K) σ) :=
  yT_en (f := (147, 0, [some (.inr (.inr 122)), some (.inr (.inr 123)), some (.inl x2), none, none], [])) rfl (yI_iconst zi_147_0 <| yI_istore_n (l := [some (.inr (.inr 122)), some (.inr (.inr 123)), some (.inl x2), some (.inl 0), none]) zi_147_1 rfl rfl <| yI_iconst zi_147_2 <| yI_istore (l := [some (.inr (.inr 122)), some (.inr (.inr 123)), some (.inl x2), some (.inl 0), some (.inl 0)]) zi_147_3 rfl rfl <| rfl)
theorem zj_147_5 {K : List zF} {σ : zW} {x2 : Int} {x3 : Int} {x4 : Int} : zEv true ((147, 5, [some (.inr (.inr 122)), some (.inr (.inr 123)), some (.inl x2), some (.inl x3), some (.inl x4)], []) :: K) σ = (if (gI σ 123 0) ≤ x4 then (x3 = 0 ∨ x3 = 1) ∧ zRet true K (some (.inl x3)) σ else (¬ (¬ x3 = 0) → (0 ≤ x4 ∧ x4 < 40)) ∧ zEv true ((147, 5, [some (.inr (.inr 122)), some (.inr (.inr 123)), some (.inl x2), some (.inl (if ¬ x3 = 0 then 1 else (if ¬ (gI σ 122 x4.toNat) = x2 then 0 else 1 : Int) : Int)), some (.inl (w32 (x4 + 1)))], []) :: K) σ) :=
  yI_iload zi_147_5 rfl <| yI_aload_n zi_147_7 rfl <| yI_iconst zi_147_8 <| yI_iaload (v := gI σ 123 0) zi_147_9 za_123 (by decide) rfl <| yI_ic_ge zi_147_10 <| yBr (yI_iload_n zi_147_37 rfl <| yI_zreturnc zi_147_38) (yI_iload_n zi_147_13 rfl <| yI_if_ne zi_147_14 <| yMi2 (j := 30) (ls2 := [some (.inr (.inr 122)), some (.inr (.inr 123)), some (.inl x2), some (.inl x3), some (.inl x4)]) (st2 := []) (x := 1) (y := (if ¬ (gI σ 122 x4.toNat) = x2 then 0 else 1 : Int)) (σ2 := σ) (yI_iconst zi_147_25 <| yI_goto zi_147_26 <| rfl) (yI_aload_n zi_147_17 rfl <| yI_iload zi_147_18 rfl <| yI_ialoadc (v := gI σ 122 x4.toNat) zi_147_20 za_122 rfl <| yI_iload_n zi_147_21 rfl <| yI_ic_ne zi_147_22 <| yMi0 (j := 30) (ls2 := [some (.inr (.inr 122)), some (.inr (.inr 123)), some (.inl x2), some (.inl x3), some (.inl x4)]) (st2 := []) (x := 0) (y := 1) (σ2 := σ) (yI_iconst zi_147_29 <| rfl) (yI_iconst zi_147_25 <| yI_goto zi_147_26 <| rfl) <| rfl) <| yI_istore_n (l := [some (.inr (.inr 122)), some (.inr (.inr 123)), some (.inl x2), some (.inl (if ¬ x3 = 0 then 1 else (if ¬ (gI σ 122 x4.toNat) = x2 then 0 else 1 : Int) : Int)), some (.inl x4)]) zi_147_30 rfl rfl <| yI_iinc (l := [some (.inr (.inr 122)), some (.inr (.inr 123)), some (.inl x2), some (.inl (if ¬ x3 = 0 then 1 else (if ¬ (gI σ 122 x4.toNat) = x2 then 0 else 1 : Int) : Int)), some (.inl (w32 (x4 + 1)))]) zi_147_31 rfl rfl rfl <| yI_goto zi_147_34 <| rfl)
/-- 148 TreegrabLaw.isUnder([III)Z -/
theorem zi_148_0 : zraw 148 0 = some (.iconst 0, 1) ∧ zin 128 0 = true ∧ 0 + 1 = 1 := by decide +kernel
theorem zi_148_1 : zraw 148 1 = some (.istore_n 3, 1) ∧ 1 + 1 = 2 := by decide +kernel
theorem zi_148_2 : zraw 148 2 = some (.iload_n 1, 1) ∧ 2 + 1 = 3 := by decide +kernel
theorem zi_148_3 : zraw 148 3 = some (.istore 4, 2) ∧ 3 + 2 = 5 := by decide +kernel
theorem zi_148_5 : zraw 148 5 = some (.iload 4, 2) ∧ 5 + 2 = 7 := by decide +kernel
theorem zi_148_7 : zraw 148 7 = some (.ifCond .lt 28, 3) ∧ ((7 : Nat) : Int) + 28 = Int.ofNat 35 ∧ 7 + 3 = 10 := by decide +kernel
theorem zi_148_10 : zraw 148 10 = some (.iload_n 3, 1) ∧ 10 + 1 = 11 := by decide +kernel
theorem zi_148_11 : zraw 148 11 = some (.ifCond .ne 9, 3) ∧ ((11 : Nat) : Int) + 9 = Int.ofNat 20 ∧ 11 + 3 = 14 := by decide +kernel
theorem zi_148_14 : zraw 148 14 = some (.iload 4, 2) ∧ 14 + 2 = 16 := by decide +kernel
theorem zi_148_16 : zraw 148 16 = some (.iload_n 2, 1) ∧ 16 + 1 = 17 := by decide +kernel
theorem zi_148_17 : zraw 148 17 = some (.if_icmp .ne 7, 3) ∧ ((17 : Nat) : Int) + 7 = Int.ofNat 24 ∧ 17 + 3 = 20 := by decide +kernel
theorem zi_148_20 : zraw 148 20 = some (.iconst 1, 1) ∧ zin 128 1 = true ∧ 20 + 1 = 21 := by decide +kernel
theorem zi_148_21 : zraw 148 21 = some (.goto 4, 3) ∧ ((21 : Nat) : Int) + 4 = Int.ofNat 25 := by decide +kernel
theorem zi_148_24 : zraw 148 24 = some (.iconst 0, 1) ∧ zin 128 0 = true ∧ 24 + 1 = 25 := by decide +kernel
theorem zi_148_25 : zraw 148 25 = some (.istore_n 3, 1) ∧ 25 + 1 = 26 := by decide +kernel
theorem zi_148_26 : zraw 148 26 = some (.aload_n 0, 1) ∧ 26 + 1 = 27 := by decide +kernel
theorem zi_148_27 : zraw 148 27 = some (.iload 4, 2) ∧ 27 + 2 = 29 := by decide +kernel
theorem zi_148_29 : zraw 148 29 = some (.iaload, 1) ∧ 29 + 1 = 30 := by decide +kernel
theorem zi_148_30 : zraw 148 30 = some (.istore 4, 2) ∧ 30 + 2 = 32 := by decide +kernel
theorem zi_148_32 : zraw 148 32 = some (.goto (-27), 3) ∧ ((32 : Nat) : Int) + (-27) = Int.ofNat 5 := by decide +kernel
theorem zi_148_35 : zraw 148 35 = some (.iload_n 3, 1) ∧ 35 + 1 = 36 := by decide +kernel
theorem zi_148_36 : zraw 148 36 = some (.ireturn, 1) ∧ (zinf 148).2.2.2.1 = 2 := by decide +kernel
theorem ze_148 {K : List zF} {σ : zW} {x1 : Int} {x2 : Int} : zEv true (zent 148 [.inr (.inr 122), .inl x1, .inl x2] :: K) σ = (zEv true ((148, 5, [some (.inr (.inr 122)), some (.inl x1), some (.inl x2), some (.inl 0), some (.inl x1)], []) :: K) σ) :=
  yT_en (f := (148, 0, [some (.inr (.inr 122)), some (.inl x1), some (.inl x2), none, none], [])) rfl (yI_iconst zi_148_0 <| yI_istore_n (l := [some (.inr (.inr 122)), some (.inl x1), some (.inl x2), some (.inl 0), none]) zi_148_1 rfl rfl <| yI_iload_n zi_148_2 rfl <| yI_istore (l := [some (.inr (.inr 122)), some (.inl x1), some (.inl x2), some (.inl 0), some (.inl x1)]) zi_148_3 rfl rfl <| rfl)
theorem zj_148_5 {K : List zF} {σ : zW} {o1 : Option zV} {x2 : Int} {x3 : Int} {x4 : Int} : zEv true ((148, 5, [some (.inr (.inr 122)), o1, some (.inl x2), some (.inl x3), some (.inl x4)], []) :: K) σ = (if x4 < 0 then (x3 = 0 ∨ x3 = 1) ∧ zRet true K (some (.inl x3)) σ else (0 ≤ x4 ∧ x4 < 40) ∧ zEv true ((148, 5, [some (.inr (.inr 122)), o1, some (.inl x2), some (.inl (if ¬ x3 = 0 then 1 else (if ¬ x4 = x2 then 0 else 1 : Int) : Int)), some (.inl (gI σ 122 x4.toNat))], []) :: K) σ) :=
  yI_iload zi_148_5 rfl <| yI_if_lt zi_148_7 <| yBr (yI_iload_n zi_148_35 rfl <| yI_zreturnc zi_148_36) (yI_iload_n zi_148_10 rfl <| yI_if_ne zi_148_11 <| yMi0 (j := 25) (ls2 := [some (.inr (.inr 122)), o1, some (.inl x2), some (.inl x3), some (.inl x4)]) (st2 := []) (x := 1) (y := (if ¬ x4 = x2 then 0 else 1 : Int)) (σ2 := σ) (yI_iconst zi_148_20 <| yI_goto zi_148_21 <| rfl) (yI_iload zi_148_14 rfl <| yI_iload_n zi_148_16 rfl <| yI_ic_ne zi_148_17 <| yMi0 (j := 25) (ls2 := [some (.inr (.inr 122)), o1, some (.inl x2), some (.inl x3), some (.inl x4)]) (st2 := []) (x := 0) (y := 1) (σ2 := σ) (yI_iconst zi_148_24 <| rfl) (yI_iconst zi_148_20 <| yI_goto zi_148_21 <| rfl) <| rfl) <| yI_istore_n (l := [some (.inr (.inr 122)), o1, some (.inl x2), some (.inl (if ¬ x3 = 0 then 1 else (if ¬ x4 = x2 then 0 else 1 : Int) : Int)), some (.inl x4)]) zi_148_25 rfl rfl <| yI_aload_n zi_148_26 rfl <| yI_iload zi_148_27 rfl <| yI_ialoadc (v := gI σ 122 x4.toNat) zi_148_29 za_122 rfl <| yI_istore (l := [some (.inr (.inr 122)), o1, some (.inl x2), some (.inl (if ¬ x3 = 0 then 1 else (if ¬ x4 = x2 then 0 else 1 : Int) : Int)), some (.inl (gI σ 122 x4.toNat))]) zi_148_30 rfl rfl <| yI_goto zi_148_32 <| rfl)
/-- 149 TreegrabLaw.tells(LTreegrab;[I[IZ)I -/
theorem zi_149_0 : zraw 149 0 = some (.iconst 0, 1) ∧ zin 128 0 = true ∧ 0 + 1 = 1 := by decide +kernel
theorem zi_149_1 : zraw 149 1 = some (.istore 4, 2) ∧ 1 + 2 = 3 := by decide +kernel
theorem zi_149_3 : zraw 149 3 = some (.iconst 1, 1) ∧ zin 128 1 = true ∧ 3 + 1 = 4 := by decide +kernel
theorem zi_149_4 : zraw 149 4 = some (.istore 5, 2) ∧ 4 + 2 = 6 := by decide +kernel
theorem zi_149_6 : zraw 149 6 = some (.iconst 0, 1) ∧ zin 128 0 = true ∧ 6 + 1 = 7 := by decide +kernel
theorem zi_149_7 : zraw 149 7 = some (.istore 6, 2) ∧ 7 + 2 = 9 := by decide +kernel
theorem zi_149_9 : zraw 149 9 = some (.iload 6, 2) ∧ 9 + 2 = 11 := by decide +kernel
theorem zi_149_11 : zraw 149 11 = some (.aload_n 2, 1) ∧ 11 + 1 = 12 := by decide +kernel
theorem zi_149_12 : zraw 149 12 = some (.iconst 0, 1) ∧ zin 128 0 = true ∧ 12 + 1 = 13 := by decide +kernel
theorem zi_149_13 : zraw 149 13 = some (.iaload, 1) ∧ 13 + 1 = 14 := by decide +kernel
theorem zi_149_14 : zraw 149 14 = some (.if_icmp .ge 226, 3) ∧ ((14 : Nat) : Int) + 226 = Int.ofNat 240 ∧ 14 + 3 = 17 := by decide +kernel
theorem zi_149_17 : zraw 149 17 = some (.iload 5, 2) ∧ 17 + 2 = 19 := by decide +kernel
theorem zi_149_19 : zraw 149 19 = some (.ifCond .eq 221, 3) ∧ ((19 : Nat) : Int) + 221 = Int.ofNat 240 ∧ 19 + 3 = 22 := by decide +kernel
theorem zi_149_22 : zraw 149 22 = some (.aload_n 1, 1) ∧ 22 + 1 = 23 := by decide +kernel
theorem zi_149_23 : zraw 149 23 = some (.aload_n 2, 1) ∧ 23 + 1 = 24 := by decide +kernel
theorem zi_149_24 : zraw 149 24 = some (.iload 6, 2) ∧ 24 + 2 = 26 := by decide +kernel
theorem zi_149_26 : zraw 149 26 = some (.invokestatic 98, 3) ∧ zmt (zinf 149).1 98 = some 147 ∧ Nat.ble 9000 147 = false ∧ zinf 147 = (11, 3, 5, 2, 1) ∧ 26 + 3 = 29 := by decide +kernel
theorem zi_149_29 : zraw 149 29 = some (.ifCond .ne 7, 3) ∧ ((29 : Nat) : Int) + 7 = Int.ofNat 36 ∧ 29 + 3 = 32 := by decide +kernel
theorem zi_149_32 : zraw 149 32 = some (.iconst 1, 1) ∧ zin 128 1 = true ∧ 32 + 1 = 33 := by decide +kernel
theorem zi_149_33 : zraw 149 33 = some (.goto 4, 3) ∧ ((33 : Nat) : Int) + 4 = Int.ofNat 37 := by decide +kernel
theorem zi_149_36 : zraw 149 36 = some (.iconst 0, 1) ∧ zin 128 0 = true ∧ 36 + 1 = 37 := by decide +kernel
theorem zi_149_37 : zraw 149 37 = some (.istore 7, 2) ∧ 37 + 2 = 39 := by decide +kernel
theorem zi_149_39 : zraw 149 39 = some (.iload 5, 2) ∧ 39 + 2 = 41 := by decide +kernel
theorem zi_149_41 : zraw 149 41 = some (.ifCond .eq 24, 3) ∧ ((41 : Nat) : Int) + 24 = Int.ofNat 65 ∧ 41 + 3 = 44 := by decide +kernel
theorem zi_149_44 : zraw 149 44 = some (.iload 6, 2) ∧ 44 + 2 = 46 := by decide +kernel
theorem zi_149_46 : zraw 149 46 = some (.ifCond .eq 15, 3) ∧ ((46 : Nat) : Int) + 15 = Int.ofNat 61 ∧ 46 + 3 = 49 := by decide +kernel
theorem zi_149_49 : zraw 149 49 = some (.aload_n 0, 1) ∧ 49 + 1 = 50 := by decide +kernel
theorem zi_149_50 : zraw 149 50 = some (.bipush 32, 2) ∧ zin 128 32 = true ∧ 50 + 2 = 52 := by decide +kernel
theorem zi_149_52 : zraw 149 52 = some (.iload 4, 2) ∧ 52 + 2 = 54 := by decide +kernel
theorem zi_149_54 : zraw 149 54 = some (.iload_n 3, 1) ∧ 54 + 1 = 55 := by decide +kernel
theorem zi_149_55 : zraw 149 55 = some (.invokestatic 102, 3) ∧ zmt (zinf 149).1 102 = some 150 ∧ Nat.ble 9000 150 = false ∧ zinf 150 = (11, 4, 4, 2, 1) ∧ 55 + 3 = 58 := by decide +kernel
theorem zi_149_58 : zraw 149 58 = some (.ifCond .eq 7, 3) ∧ ((58 : Nat) : Int) + 7 = Int.ofNat 65 ∧ 58 + 3 = 61 := by decide +kernel
theorem zi_149_61 : zraw 149 61 = some (.iconst 1, 1) ∧ zin 128 1 = true ∧ 61 + 1 = 62 := by decide +kernel
theorem zi_149_62 : zraw 149 62 = some (.goto 4, 3) ∧ ((62 : Nat) : Int) + 4 = Int.ofNat 66 := by decide +kernel
theorem zi_149_65 : zraw 149 65 = some (.iconst 0, 1) ∧ zin 128 0 = true ∧ 65 + 1 = 66 := by decide +kernel
theorem zi_149_66 : zraw 149 66 = some (.istore 5, 2) ∧ 66 + 2 = 68 := by decide +kernel
theorem zi_149_68 : zraw 149 68 = some (.iload 4, 2) ∧ 68 + 2 = 70 := by decide +kernel
theorem zi_149_70 : zraw 149 70 = some (.iload 6, 2) ∧ 70 + 2 = 72 := by decide +kernel
theorem zi_149_72 : zraw 149 72 = some (.ifCond .ne 7, 3) ∧ ((72 : Nat) : Int) + 7 = Int.ofNat 79 ∧ 72 + 3 = 75 := by decide +kernel
theorem zi_149_75 : zraw 149 75 = some (.iconst 0, 1) ∧ zin 128 0 = true ∧ 75 + 1 = 76 := by decide +kernel
theorem zi_149_76 : zraw 149 76 = some (.goto 4, 3) ∧ ((76 : Nat) : Int) + 4 = Int.ofNat 80 := by decide +kernel
theorem zi_149_79 : zraw 149 79 = some (.iconst 1, 1) ∧ zin 128 1 = true ∧ 79 + 1 = 80 := by decide +kernel
theorem zi_149_80 : zraw 149 80 = some (.iadd, 1) ∧ 80 + 1 = 81 := by decide +kernel
theorem zi_149_81 : zraw 149 81 = some (.istore 4, 2) ∧ 81 + 2 = 83 := by decide +kernel
theorem zi_149_83 : zraw 149 83 = some (.iload 5, 2) ∧ 83 + 2 = 85 := by decide +kernel
theorem zi_149_85 : zraw 149 85 = some (.ifCond .eq 24, 3) ∧ ((85 : Nat) : Int) + 24 = Int.ofNat 109 ∧ 85 + 3 = 88 := by decide +kernel
theorem zi_149_88 : zraw 149 88 = some (.iload 7, 2) ∧ 88 + 2 = 90 := by decide +kernel
theorem zi_149_90 : zraw 149 90 = some (.ifCond .ne 15, 3) ∧ ((90 : Nat) : Int) + 15 = Int.ofNat 105 ∧ 90 + 3 = 93 := by decide +kernel
theorem zi_149_93 : zraw 149 93 = some (.aload_n 0, 1) ∧ 93 + 1 = 94 := by decide +kernel
theorem zi_149_94 : zraw 149 94 = some (.bipush 40, 2) ∧ zin 128 40 = true ∧ 94 + 2 = 96 := by decide +kernel
theorem zi_149_96 : zraw 149 96 = some (.iload 4, 2) ∧ 96 + 2 = 98 := by decide +kernel
theorem zi_149_98 : zraw 149 98 = some (.iload_n 3, 1) ∧ 98 + 1 = 99 := by decide +kernel
theorem zi_149_99 : zraw 149 99 = some (.invokestatic 102, 3) ∧ zmt (zinf 149).1 102 = some 150 ∧ Nat.ble 9000 150 = false ∧ zinf 150 = (11, 4, 4, 2, 1) ∧ 99 + 3 = 102 := by decide +kernel
theorem zi_149_102 : zraw 149 102 = some (.ifCond .eq 7, 3) ∧ ((102 : Nat) : Int) + 7 = Int.ofNat 109 ∧ 102 + 3 = 105 := by decide +kernel
theorem zi_149_105 : zraw 149 105 = some (.iconst 1, 1) ∧ zin 128 1 = true ∧ 105 + 1 = 106 := by decide +kernel
theorem zi_149_106 : zraw 149 106 = some (.goto 4, 3) ∧ ((106 : Nat) : Int) + 4 = Int.ofNat 110 := by decide +kernel
theorem zi_149_109 : zraw 149 109 = some (.iconst 0, 1) ∧ zin 128 0 = true ∧ 109 + 1 = 110 := by decide +kernel
theorem zi_149_110 : zraw 149 110 = some (.istore 5, 2) ∧ 110 + 2 = 112 := by decide +kernel
theorem zi_149_112 : zraw 149 112 = some (.iload 4, 2) ∧ 112 + 2 = 114 := by decide +kernel
theorem zi_149_114 : zraw 149 114 = some (.iload 7, 2) ∧ 114 + 2 = 116 := by decide +kernel
theorem zi_149_116 : zraw 149 116 = some (.ifCond .eq 7, 3) ∧ ((116 : Nat) : Int) + 7 = Int.ofNat 123 ∧ 116 + 3 = 119 := by decide +kernel
theorem zi_149_119 : zraw 149 119 = some (.iconst 0, 1) ∧ zin 128 0 = true ∧ 119 + 1 = 120 := by decide +kernel
theorem zi_149_120 : zraw 149 120 = some (.goto 4, 3) ∧ ((120 : Nat) : Int) + 4 = Int.ofNat 124 := by decide +kernel
theorem zi_149_123 : zraw 149 123 = some (.iconst 1, 1) ∧ zin 128 1 = true ∧ 123 + 1 = 124 := by decide +kernel
theorem zi_149_124 : zraw 149 124 = some (.iadd, 1) ∧ 124 + 1 = 125 := by decide +kernel
theorem zi_149_125 : zraw 149 125 = some (.istore 4, 2) ∧ 125 + 2 = 127 := by decide +kernel
theorem zi_149_127 : zraw 149 127 = some (.iload 5, 2) ∧ 127 + 2 = 129 := by decide +kernel
theorem zi_149_129 : zraw 149 129 = some (.ifCond .eq 24, 3) ∧ ((129 : Nat) : Int) + 24 = Int.ofNat 153 ∧ 129 + 3 = 132 := by decide +kernel
theorem zi_149_132 : zraw 149 132 = some (.aload_n 0, 1) ∧ 132 + 1 = 133 := by decide +kernel
theorem zi_149_133 : zraw 149 133 = some (.aload_n 1, 1) ∧ 133 + 1 = 134 := by decide +kernel
theorem zi_149_134 : zraw 149 134 = some (.bipush 20, 2) ∧ zin 128 20 = true ∧ 134 + 2 = 136 := by decide +kernel
theorem zi_149_136 : zraw 149 136 = some (.iload 6, 2) ∧ 136 + 2 = 138 := by decide +kernel
theorem zi_149_138 : zraw 149 138 = some (.iadd, 1) ∧ 138 + 1 = 139 := by decide +kernel
theorem zi_149_139 : zraw 149 139 = some (.iaload, 1) ∧ 139 + 1 = 140 := by decide +kernel
theorem zi_149_140 : zraw 149 140 = some (.iload 4, 2) ∧ 140 + 2 = 142 := by decide +kernel
theorem zi_149_142 : zraw 149 142 = some (.iload_n 3, 1) ∧ 142 + 1 = 143 := by decide +kernel
theorem zi_149_143 : zraw 149 143 = some (.invokestatic 102, 3) ∧ zmt (zinf 149).1 102 = some 150 ∧ Nat.ble 9000 150 = false ∧ zinf 150 = (11, 4, 4, 2, 1) ∧ 143 + 3 = 146 := by decide +kernel
theorem zi_149_146 : zraw 149 146 = some (.ifCond .eq 7, 3) ∧ ((146 : Nat) : Int) + 7 = Int.ofNat 153 ∧ 146 + 3 = 149 := by decide +kernel
theorem zi_149_149 : zraw 149 149 = some (.iconst 1, 1) ∧ zin 128 1 = true ∧ 149 + 1 = 150 := by decide +kernel
theorem zi_149_150 : zraw 149 150 = some (.goto 4, 3) ∧ ((150 : Nat) : Int) + 4 = Int.ofNat 154 := by decide +kernel
theorem zi_149_153 : zraw 149 153 = some (.iconst 0, 1) ∧ zin 128 0 = true ∧ 153 + 1 = 154 := by decide +kernel
theorem zi_149_154 : zraw 149 154 = some (.istore 5, 2) ∧ 154 + 2 = 156 := by decide +kernel
theorem zi_149_156 : zraw 149 156 = some (.iinc 4 1, 3) ∧ zin 32768 1 = true ∧ 156 + 3 = 159 := by decide +kernel
theorem zi_149_159 : zraw 149 159 = some (.aload_n 1, 1) ∧ 159 + 1 = 160 := by decide +kernel
theorem zi_149_160 : zraw 149 160 = some (.iload 6, 2) ∧ 160 + 2 = 162 := by decide +kernel
theorem zi_149_162 : zraw 149 162 = some (.iaload, 1) ∧ 162 + 1 = 163 := by decide +kernel
theorem zi_149_163 : zraw 149 163 = some (.istore 8, 2) ∧ 163 + 2 = 165 := by decide +kernel
theorem zi_149_165 : zraw 149 165 = some (.iload 8, 2) ∧ 165 + 2 = 167 := by decide +kernel
theorem zi_149_167 : zraw 149 167 = some (.ifCond .lt 67, 3) ∧ ((167 : Nat) : Int) + 67 = Int.ofNat 234 ∧ 167 + 3 = 170 := by decide +kernel
theorem zi_149_170 : zraw 149 170 = some (.iload 7, 2) ∧ 170 + 2 = 172 := by decide +kernel
theorem zi_149_172 : zraw 149 172 = some (.ifCond .eq 62, 3) ∧ ((172 : Nat) : Int) + 62 = Int.ofNat 234 ∧ 172 + 3 = 175 := by decide +kernel
theorem zi_149_175 : zraw 149 175 = some (.iload 6, 2) ∧ 175 + 2 = 177 := by decide +kernel
theorem zi_149_177 : zraw 149 177 = some (.iconst 1, 1) ∧ zin 128 1 = true ∧ 177 + 1 = 178 := by decide +kernel
theorem zi_149_178 : zraw 149 178 = some (.iadd, 1) ∧ 178 + 1 = 179 := by decide +kernel
theorem zi_149_179 : zraw 149 179 = some (.aload_n 2, 1) ∧ 179 + 1 = 180 := by decide +kernel
theorem zi_149_180 : zraw 149 180 = some (.iconst 0, 1) ∧ zin 128 0 = true ∧ 180 + 1 = 181 := by decide +kernel
theorem zi_149_181 : zraw 149 181 = some (.iaload, 1) ∧ 181 + 1 = 182 := by decide +kernel
theorem zi_149_182 : zraw 149 182 = some (.if_icmp .eq 16, 3) ∧ ((182 : Nat) : Int) + 16 = Int.ofNat 198 ∧ 182 + 3 = 185 := by decide +kernel
theorem zi_149_185 : zraw 149 185 = some (.aload_n 1, 1) ∧ 185 + 1 = 186 := by decide +kernel
theorem zi_149_186 : zraw 149 186 = some (.iload 6, 2) ∧ 186 + 2 = 188 := by decide +kernel
theorem zi_149_188 : zraw 149 188 = some (.iconst 1, 1) ∧ zin 128 1 = true ∧ 188 + 1 = 189 := by decide +kernel
theorem zi_149_189 : zraw 149 189 = some (.iadd, 1) ∧ 189 + 1 = 190 := by decide +kernel
theorem zi_149_190 : zraw 149 190 = some (.iload 8, 2) ∧ 190 + 2 = 192 := by decide +kernel
theorem zi_149_192 : zraw 149 192 = some (.invokestatic 106, 3) ∧ zmt (zinf 149).1 106 = some 148 ∧ Nat.ble 9000 148 = false ∧ zinf 148 = (11, 3, 5, 2, 1) ∧ 192 + 3 = 195 := by decide +kernel
theorem zi_149_195 : zraw 149 195 = some (.ifCond .ne 30, 3) ∧ ((195 : Nat) : Int) + 30 = Int.ofNat 225 ∧ 195 + 3 = 198 := by decide +kernel
theorem zi_149_198 : zraw 149 198 = some (.iload 5, 2) ∧ 198 + 2 = 200 := by decide +kernel
theorem zi_149_200 : zraw 149 200 = some (.ifCond .eq 19, 3) ∧ ((200 : Nat) : Int) + 19 = Int.ofNat 219 ∧ 200 + 3 = 203 := by decide +kernel
theorem zi_149_203 : zraw 149 203 = some (.aload_n 0, 1) ∧ 203 + 1 = 204 := by decide +kernel
theorem zi_149_204 : zraw 149 204 = some (.bipush 41, 2) ∧ zin 128 41 = true ∧ 204 + 2 = 206 := by decide +kernel
theorem zi_149_206 : zraw 149 206 = some (.iload 4, 2) ∧ 206 + 2 = 208 := by decide +kernel
theorem zi_149_208 : zraw 149 208 = some (.iload_n 3, 1) ∧ 208 + 1 = 209 := by decide +kernel
theorem zi_149_209 : zraw 149 209 = some (.invokestatic 102, 3) ∧ zmt (zinf 149).1 102 = some 150 ∧ Nat.ble 9000 150 = false ∧ zinf 150 = (11, 4, 4, 2, 1) ∧ 209 + 3 = 212 := by decide +kernel
theorem zi_149_212 : zraw 149 212 = some (.ifCond .eq 7, 3) ∧ ((212 : Nat) : Int) + 7 = Int.ofNat 219 ∧ 212 + 3 = 215 := by decide +kernel
theorem zi_149_215 : zraw 149 215 = some (.iconst 1, 1) ∧ zin 128 1 = true ∧ 215 + 1 = 216 := by decide +kernel
theorem zi_149_216 : zraw 149 216 = some (.goto 4, 3) ∧ ((216 : Nat) : Int) + 4 = Int.ofNat 220 := by decide +kernel
theorem zi_149_219 : zraw 149 219 = some (.iconst 0, 1) ∧ zin 128 0 = true ∧ 219 + 1 = 220 := by decide +kernel
theorem zi_149_220 : zraw 149 220 = some (.istore 5, 2) ∧ 220 + 2 = 222 := by decide +kernel
theorem zi_149_222 : zraw 149 222 = some (.iinc 4 1, 3) ∧ zin 32768 1 = true ∧ 222 + 3 = 225 := by decide +kernel
theorem zi_149_225 : zraw 149 225 = some (.aload_n 1, 1) ∧ 225 + 1 = 226 := by decide +kernel
theorem zi_149_226 : zraw 149 226 = some (.iload 8, 2) ∧ 226 + 2 = 228 := by decide +kernel
theorem zi_149_228 : zraw 149 228 = some (.iaload, 1) ∧ 228 + 1 = 229 := by decide +kernel
theorem zi_149_229 : zraw 149 229 = some (.istore 8, 2) ∧ 229 + 2 = 231 := by decide +kernel
theorem zi_149_231 : zraw 149 231 = some (.goto (-66), 3) ∧ ((231 : Nat) : Int) + (-66) = Int.ofNat 165 := by decide +kernel
theorem zi_149_234 : zraw 149 234 = some (.iinc 6 1, 3) ∧ zin 32768 1 = true ∧ 234 + 3 = 237 := by decide +kernel
theorem zi_149_237 : zraw 149 237 = some (.goto (-228), 3) ∧ ((237 : Nat) : Int) + (-228) = Int.ofNat 9 := by decide +kernel
theorem zi_149_240 : zraw 149 240 = some (.iload 5, 2) ∧ 240 + 2 = 242 := by decide +kernel
theorem zi_149_242 : zraw 149 242 = some (.ifCond .eq 8, 3) ∧ ((242 : Nat) : Int) + 8 = Int.ofNat 250 ∧ 242 + 3 = 245 := by decide +kernel
theorem zi_149_245 : zraw 149 245 = some (.iload 4, 2) ∧ 245 + 2 = 247 := by decide +kernel
theorem zi_149_247 : zraw 149 247 = some (.goto 4, 3) ∧ ((247 : Nat) : Int) + 4 = Int.ofNat 251 := by decide +kernel
theorem zi_149_250 : zraw 149 250 = some (.iconst (-1), 1) ∧ zin 128 (-1) = true ∧ 250 + 1 = 251 := by decide +kernel
theorem zi_149_251 : zraw 149 251 = some (.ireturn, 1) ∧ (zinf 149).2.2.2.1 = 1 := by decide +kernel
theorem ze_149 {K : List zF} {σ : zW} {x3 : Int} : zEv true (zent 149 [.inr (.inr 1), .inr (.inr 122), .inr (.inr 123), .inl x3] :: K) σ = (zEv true ((149, 9, [some (.inr (.inr 1)), some (.inr (.inr 122)), some (.inr (.inr 123)), some (.inl x3), some (.inl 0), some (.inl 1), some (.inl 0), none, none], []) :: K) σ) :=
  yT_en (f := (149, 0, [some (.inr (.inr 1)), some (.inr (.inr 122)), some (.inr (.inr 123)), some (.inl x3), none, none, none, none, none], [])) rfl (yI_iconst zi_149_0 <| yI_istore (l := [some (.inr (.inr 1)), some (.inr (.inr 122)), some (.inr (.inr 123)), some (.inl x3), some (.inl 0), none, none, none, none]) zi_149_1 rfl rfl <| yI_iconst zi_149_3 <| yI_istore (l := [some (.inr (.inr 1)), some (.inr (.inr 122)), some (.inr (.inr 123)), some (.inl x3), some (.inl 0), some (.inl 1), none, none, none]) zi_149_4 rfl rfl <| yI_iconst zi_149_6 <| yI_istore (l := [some (.inr (.inr 1)), some (.inr (.inr 122)), some (.inr (.inr 123)), some (.inl x3), some (.inl 0), some (.inl 1), some (.inl 0), none, none]) zi_149_7 rfl rfl <| rfl)
theorem zj_149_9 {K : List zF} {σ : zW} {x3 : Int} {x4 : Int} {x5 : Int} {x6 : Int} {o7 : Option zV} {o8 : Option zV} (hK : K.length < 60) : zEv true ((149, 9, [some (.inr (.inr 1)), some (.inr (.inr 122)), some (.inr (.inr 123)), some (.inl x3), some (.inl x4), some (.inl x5), some (.inl x6), o7, o8], []) :: K) σ = (if (gI σ 123 0) ≤ x6 then zEv true ((149, 240, [some (.inr (.inr 1)), some (.inr (.inr 122)), some (.inr (.inr 123)), some (.inl x3), some (.inl x4), some (.inl x5), some (.inl x6), o7, o8], []) :: K) σ else if x5 = 0 then zEv true ((149, 240, [some (.inr (.inr 1)), some (.inr (.inr 122)), some (.inr (.inr 123)), some (.inl x3), some (.inl x4), some (.inl x5), some (.inl x6), o7, o8], []) :: K) σ else zEv true (zent 147 [.inr (.inr 122), .inr (.inr 123), .inl x6] :: (149, 29, [some (.inr (.inr 1)), some (.inr (.inr 122)), some (.inr (.inr 123)), some (.inl x3), some (.inl x4), some (.inl x5), some (.inl x6), o7, o8], []) :: K) σ) :=
  yI_iload zi_149_9 rfl <| yI_aload_n zi_149_11 rfl <| yI_iconst zi_149_12 <| yI_iaload (v := gI σ 123 0) zi_149_13 za_123 (by decide) rfl <| yI_ic_ge zi_149_14 <| yBr (rfl) (yI_iload zi_149_17 rfl <| yI_if_eq zi_149_19 <| yBr (rfl) (yI_aload_n zi_149_22 rfl <| yI_aload_n zi_149_23 rfl <| yI_iload zi_149_24 rfl <| yI_cs zi_149_26 rfl rfl hK))
theorem zj_149_240 {K : List zF} {σ : zW} {o0 : Option zV} {o1 : Option zV} {o2 : Option zV} {o3 : Option zV} {x4 : Int} {x5 : Int} {o6 : Option zV} {o7 : Option zV} {o8 : Option zV} : zEv true ((149, 240, [o0, o1, o2, o3, some (.inl x4), some (.inl x5), o6, o7, o8], []) :: K) σ = (zRet true K (some (.inl (if x5 = 0 then (-1) else x4 : Int))) σ) :=
  yI_iload zi_149_240 rfl <| yI_if_eq zi_149_242 <| yMi0 (j := 251) (ls2 := [o0, o1, o2, o3, some (.inl x4), some (.inl x5), o6, o7, o8]) (st2 := []) (x := (-1)) (y := x4) (σ2 := σ) (yI_iconst zi_149_250 <| rfl) (yI_iload zi_149_245 rfl <| yI_goto zi_149_247 <| rfl) <| yI_ireturn zi_149_251
theorem zr_149_29 {K : List zF} {σ : zW} {x3 : Int} {x4 : Int} {x5 : Int} {x6 : Int} {o7 : Option zV} {o8 : Option zV} {v : Int} (hK : K.length < 60) : zRet true ((149, 29, [some (.inr (.inr 1)), some (.inr (.inr 122)), some (.inr (.inr 123)), some (.inl x3), some (.inl x4), some (.inl x5), some (.inl x6), o7, o8], []) :: K) (some (.inl v)) σ = (if x5 = 0 then zEv true ((149, 65, [some (.inr (.inr 1)), some (.inr (.inr 122)), some (.inr (.inr 123)), some (.inl x3), some (.inl x4), some (.inl x5), some (.inl x6), some (.inl (if ¬ v = 0 then 0 else 1 : Int)), o8], []) :: K) σ else if x6 = 0 then if (1 : Int) = 0 then zEv true ((149, 109, [some (.inr (.inr 1)), some (.inr (.inr 122)), some (.inr (.inr 123)), some (.inl x3), some (.inl (w32 (x4 + (if ¬ x6 = 0 then 1 else 0 : Int)))), some (.inl 1), some (.inl x6), some (.inl (if ¬ v = 0 then 0 else 1 : Int)), o8], []) :: K) σ else if ¬ (if ¬ v = 0 then 0 else 1 : Int) = 0 then if (1 : Int) = 0 then zEv true ((149, 153, [some (.inr (.inr 1)), some (.inr (.inr 122)), some (.inr (.inr 123)), some (.inl x3), some (.inl (w32 ((w32 (x4 + (if ¬ x6 = 0 then 1 else 0 : Int))) + (if (if ¬ v = 0 then 0 else 1 : Int) = 0 then 1 else 0 : Int)))), some (.inl 1), some (.inl x6), some (.inl (if ¬ v = 0 then 0 else 1 : Int)), o8], []) :: K) σ else (0 ≤ (w32 (20 + x6)) ∧ (w32 (20 + x6)) < 40) ∧ zEv true (zent 150 [.inr (.inr 1), .inl (gI σ 122 ((w32 (20 + x6)).toNat)), .inl (w32 ((w32 (x4 + (if ¬ x6 = 0 then 1 else 0 : Int))) + (if (if ¬ v = 0 then 0 else 1 : Int) = 0 then 1 else 0 : Int))), .inl x3] :: (149, 146, [some (.inr (.inr 1)), some (.inr (.inr 122)), some (.inr (.inr 123)), some (.inl x3), some (.inl (w32 ((w32 (x4 + (if ¬ x6 = 0 then 1 else 0 : Int))) + (if (if ¬ v = 0 then 0 else 1 : Int) = 0 then 1 else 0 : Int)))), some (.inl 1), some (.inl x6), some (.inl (if ¬ v = 0 then 0 else 1 : Int)), o8], []) :: K) σ else zEv true (zent 150 [.inr (.inr 1), .inl 40, .inl (w32 (x4 + (if ¬ x6 = 0 then 1 else 0 : Int))), .inl x3] :: (149, 102, [some (.inr (.inr 1)), some (.inr (.inr 122)), some (.inr (.inr 123)), some (.inl x3), some (.inl (w32 (x4 + (if ¬ x6 = 0 then 1 else 0 : Int)))), some (.inl 1), some (.inl x6), some (.inl (if ¬ v = 0 then 0 else 1 : Int)), o8], []) :: K) σ else zEv true (zent 150 [.inr (.inr 1), .inl 32, .inl x4, .inl x3] :: (149, 58, [some (.inr (.inr 1)), some (.inr (.inr 122)), some (.inr (.inr 123)), some (.inl x3), some (.inl x4), some (.inl x5), some (.inl x6), some (.inl (if ¬ v = 0 then 0 else 1 : Int)), o8], []) :: K) σ) :=
  yT_rt (yI_if_ne zi_149_29 <| yMi0 (j := 37) (ls2 := [some (.inr (.inr 1)), some (.inr (.inr 122)), some (.inr (.inr 123)), some (.inl x3), some (.inl x4), some (.inl x5), some (.inl x6), o7, o8]) (st2 := []) (x := 0) (y := 1) (σ2 := σ) (yI_iconst zi_149_36 <| rfl) (yI_iconst zi_149_32 <| yI_goto zi_149_33 <| rfl) <| yI_istore (l := [some (.inr (.inr 1)), some (.inr (.inr 122)), some (.inr (.inr 123)), some (.inl x3), some (.inl x4), some (.inl x5), some (.inl x6), some (.inl (if ¬ v = 0 then 0 else 1 : Int)), o8]) zi_149_37 rfl rfl <| yI_iload zi_149_39 rfl <| yI_if_eq zi_149_41 <| yBr (rfl) (yI_iload zi_149_44 rfl <| yI_if_eq zi_149_46 <| yBr (yI_iconst zi_149_61 <| yI_goto zi_149_62 <| yI_istore (l := [some (.inr (.inr 1)), some (.inr (.inr 122)), some (.inr (.inr 123)), some (.inl x3), some (.inl x4), some (.inl 1), some (.inl x6), some (.inl (if ¬ v = 0 then 0 else 1 : Int)), o8]) zi_149_66 rfl rfl <| yI_iload zi_149_68 rfl <| yI_iload zi_149_70 rfl <| yI_if_ne zi_149_72 <| yMi0 (j := 80) (ls2 := [some (.inr (.inr 1)), some (.inr (.inr 122)), some (.inr (.inr 123)), some (.inl x3), some (.inl x4), some (.inl 1), some (.inl x6), some (.inl (if ¬ v = 0 then 0 else 1 : Int)), o8]) (st2 := [.inl x4]) (x := 1) (y := 0) (σ2 := σ) (yI_iconst zi_149_79 <| rfl) (yI_iconst zi_149_75 <| yI_goto zi_149_76 <| rfl) <| yI_iadd zi_149_80 <| yI_istore (l := [some (.inr (.inr 1)), some (.inr (.inr 122)), some (.inr (.inr 123)), some (.inl x3), some (.inl (w32 (x4 + (if ¬ x6 = 0 then 1 else 0 : Int)))), some (.inl 1), some (.inl x6), some (.inl (if ¬ v = 0 then 0 else 1 : Int)), o8]) zi_149_81 rfl rfl <| yI_iload zi_149_83 rfl <| yI_if_eq zi_149_85 <| yBr (rfl) (yI_iload zi_149_88 rfl <| yI_if_ne zi_149_90 <| yBr (yI_iconst zi_149_105 <| yI_goto zi_149_106 <| yI_istore (l := [some (.inr (.inr 1)), some (.inr (.inr 122)), some (.inr (.inr 123)), some (.inl x3), some (.inl (w32 (x4 + (if ¬ x6 = 0 then 1 else 0 : Int)))), some (.inl 1), some (.inl x6), some (.inl (if ¬ v = 0 then 0 else 1 : Int)), o8]) zi_149_110 rfl rfl <| yI_iload zi_149_112 rfl <| yI_iload zi_149_114 rfl <| yI_if_eq zi_149_116 <| yMi0 (j := 124) (ls2 := [some (.inr (.inr 1)), some (.inr (.inr 122)), some (.inr (.inr 123)), some (.inl x3), some (.inl (w32 (x4 + (if ¬ x6 = 0 then 1 else 0 : Int)))), some (.inl 1), some (.inl x6), some (.inl (if ¬ v = 0 then 0 else 1 : Int)), o8]) (st2 := [.inl (w32 (x4 + (if ¬ x6 = 0 then 1 else 0 : Int)))]) (x := 1) (y := 0) (σ2 := σ) (yI_iconst zi_149_123 <| rfl) (yI_iconst zi_149_119 <| yI_goto zi_149_120 <| rfl) <| yI_iadd zi_149_124 <| yI_istore (l := [some (.inr (.inr 1)), some (.inr (.inr 122)), some (.inr (.inr 123)), some (.inl x3), some (.inl (w32 ((w32 (x4 + (if ¬ x6 = 0 then 1 else 0 : Int))) + (if (if ¬ v = 0 then 0 else 1 : Int) = 0 then 1 else 0 : Int)))), some (.inl 1), some (.inl x6), some (.inl (if ¬ v = 0 then 0 else 1 : Int)), o8]) zi_149_125 rfl rfl <| yI_iload zi_149_127 rfl <| yI_if_eq zi_149_129 <| yBr (rfl) (yI_aload_n zi_149_132 rfl <| yI_aload_n zi_149_133 rfl <| yI_bipush zi_149_134 <| yI_iload zi_149_136 rfl <| yI_iadd zi_149_138 <| yI_ialoadc (v := gI σ 122 ((w32 (20 + x6)).toNat)) zi_149_139 za_122 rfl <| yI_iload zi_149_140 rfl <| yI_iload_n zi_149_142 rfl <| yI_cs zi_149_143 rfl rfl hK)) (yI_aload_n zi_149_93 rfl <| yI_bipush zi_149_94 <| yI_iload zi_149_96 rfl <| yI_iload_n zi_149_98 rfl <| yI_cs zi_149_99 rfl rfl hK))) (yI_aload_n zi_149_49 rfl <| yI_bipush zi_149_50 <| yI_iload zi_149_52 rfl <| yI_iload_n zi_149_54 rfl <| yI_cs zi_149_55 rfl rfl hK)))
theorem zj_149_65 {K : List zF} {σ : zW} {x3 : Int} {x4 : Int} {o5 : Option zV} {x6 : Int} {x7 : Int} {o8 : Option zV} (hK : K.length < 60) : zEv true ((149, 65, [some (.inr (.inr 1)), some (.inr (.inr 122)), some (.inr (.inr 123)), some (.inl x3), some (.inl x4), o5, some (.inl x6), some (.inl x7), o8], []) :: K) σ = (if (0 : Int) = 0 then zEv true ((149, 109, [some (.inr (.inr 1)), some (.inr (.inr 122)), some (.inr (.inr 123)), some (.inl x3), some (.inl (w32 (x4 + (if ¬ x6 = 0 then 1 else 0 : Int)))), some (.inl 0), some (.inl x6), some (.inl x7), o8], []) :: K) σ else if ¬ x7 = 0 then if (1 : Int) = 0 then zEv true ((149, 153, [some (.inr (.inr 1)), some (.inr (.inr 122)), some (.inr (.inr 123)), some (.inl x3), some (.inl (w32 ((w32 (x4 + (if ¬ x6 = 0 then 1 else 0 : Int))) + (if x7 = 0 then 1 else 0 : Int)))), some (.inl 1), some (.inl x6), some (.inl x7), o8], []) :: K) σ else (0 ≤ (w32 (20 + x6)) ∧ (w32 (20 + x6)) < 40) ∧ zEv true (zent 150 [.inr (.inr 1), .inl (gI σ 122 ((w32 (20 + x6)).toNat)), .inl (w32 ((w32 (x4 + (if ¬ x6 = 0 then 1 else 0 : Int))) + (if x7 = 0 then 1 else 0 : Int))), .inl x3] :: (149, 146, [some (.inr (.inr 1)), some (.inr (.inr 122)), some (.inr (.inr 123)), some (.inl x3), some (.inl (w32 ((w32 (x4 + (if ¬ x6 = 0 then 1 else 0 : Int))) + (if x7 = 0 then 1 else 0 : Int)))), some (.inl 1), some (.inl x6), some (.inl x7), o8], []) :: K) σ else zEv true (zent 150 [.inr (.inr 1), .inl 40, .inl (w32 (x4 + (if ¬ x6 = 0 then 1 else 0 : Int))), .inl x3] :: (149, 102, [some (.inr (.inr 1)), some (.inr (.inr 122)), some (.inr (.inr 123)), some (.inl x3), some (.inl (w32 (x4 + (if ¬ x6 = 0 then 1 else 0 : Int)))), some (.inl 0), some (.inl x6), some (.inl x7), o8], []) :: K) σ) :=
  yI_iconst zi_149_65 <| yI_istore (l := [some (.inr (.inr 1)), some (.inr (.inr 122)), some (.inr (.inr 123)), some (.inl x3), some (.inl x4), some (.inl 0), some (.inl x6), some (.inl x7), o8]) zi_149_66 rfl rfl <| yI_iload zi_149_68 rfl <| yI_iload zi_149_70 rfl <| yI_if_ne zi_149_72 <| yMi0 (j := 80) (ls2 := [some (.inr (.inr 1)), some (.inr (.inr 122)), some (.inr (.inr 123)), some (.inl x3), some (.inl x4), some (.inl 0), some (.inl x6), some (.inl x7), o8]) (st2 := [.inl x4]) (x := 1) (y := 0) (σ2 := σ) (yI_iconst zi_149_79 <| rfl) (yI_iconst zi_149_75 <| yI_goto zi_149_76 <| rfl) <| yI_iadd zi_149_80 <| yI_istore (l := [some (.inr (.inr 1)), some (.inr (.inr 122)), some (.inr (.inr 123)), some (.inl x3), some (.inl (w32 (x4 + (if ¬ x6 = 0 then 1 else 0 : Int)))), some (.inl 0), some (.inl x6), some (.inl x7), o8]) zi_149_81 rfl rfl <| yI_iload zi_149_83 rfl <| yI_if_eq zi_149_85 <| yBr (rfl) (yI_iload zi_149_88 rfl <| yI_if_ne zi_149_90 <| yBr (yI_iconst zi_149_105 <| yI_goto zi_149_106 <| yI_istore (l := [some (.inr (.inr 1)), some (.inr (.inr 122)), some (.inr (.inr 123)), some (.inl x3), some (.inl (w32 (x4 + (if ¬ x6 = 0 then 1 else 0 : Int)))), some (.inl 1), some (.inl x6), some (.inl x7), o8]) zi_149_110 rfl rfl <| yI_iload zi_149_112 rfl <| yI_iload zi_149_114 rfl <| yI_if_eq zi_149_116 <| yMi0 (j := 124) (ls2 := [some (.inr (.inr 1)), some (.inr (.inr 122)), some (.inr (.inr 123)), some (.inl x3), some (.inl (w32 (x4 + (if ¬ x6 = 0 then 1 else 0 : Int)))), some (.inl 1), some (.inl x6), some (.inl x7), o8]) (st2 := [.inl (w32 (x4 + (if ¬ x6 = 0 then 1 else 0 : Int)))]) (x := 1) (y := 0) (σ2 := σ) (yI_iconst zi_149_123 <| rfl) (yI_iconst zi_149_119 <| yI_goto zi_149_120 <| rfl) <| yI_iadd zi_149_124 <| yI_istore (l := [some (.inr (.inr 1)), some (.inr (.inr 122)), some (.inr (.inr 123)), some (.inl x3), some (.inl (w32 ((w32 (x4 + (if ¬ x6 = 0 then 1 else 0 : Int))) + (if x7 = 0 then 1 else 0 : Int)))), some (.inl 1), some (.inl x6), some (.inl x7), o8]) zi_149_125 rfl rfl <| yI_iload zi_149_127 rfl <| yI_if_eq zi_149_129 <| yBr (rfl) (yI_aload_n zi_149_132 rfl <| yI_aload_n zi_149_133 rfl <| yI_bipush zi_149_134 <| yI_iload zi_149_136 rfl <| yI_iadd zi_149_138 <| yI_ialoadc (v := gI σ 122 ((w32 (20 + x6)).toNat)) zi_149_139 za_122 rfl <| yI_iload zi_149_140 rfl <| yI_iload_n zi_149_142 rfl <| yI_cs zi_149_143 rfl rfl hK)) (yI_aload_n zi_149_93 rfl <| yI_bipush zi_149_94 <| yI_iload zi_149_96 rfl <| yI_iload_n zi_149_98 rfl <| yI_cs zi_149_99 rfl rfl hK))
theorem zr_149_58 {K : List zF} {σ : zW} {x3 : Int} {x4 : Int} {o5 : Option zV} {x6 : Int} {x7 : Int} {o8 : Option zV} {v : Int} (hK : K.length < 60) : zRet true ((149, 58, [some (.inr (.inr 1)), some (.inr (.inr 122)), some (.inr (.inr 123)), some (.inl x3), some (.inl x4), o5, some (.inl x6), some (.inl x7), o8], []) :: K) (some (.inl v)) σ = (if v = 0 then zEv true ((149, 65, [some (.inr (.inr 1)), some (.inr (.inr 122)), some (.inr (.inr 123)), some (.inl x3), some (.inl x4), o5, some (.inl x6), some (.inl x7), o8], []) :: K) σ else if (1 : Int) = 0 then zEv true ((149, 109, [some (.inr (.inr 1)), some (.inr (.inr 122)), some (.inr (.inr 123)), some (.inl x3), some (.inl (w32 (x4 + (if ¬ x6 = 0 then 1 else 0 : Int)))), some (.inl 1), some (.inl x6), some (.inl x7), o8], []) :: K) σ else if ¬ x7 = 0 then if (1 : Int) = 0 then zEv true ((149, 153, [some (.inr (.inr 1)), some (.inr (.inr 122)), some (.inr (.inr 123)), some (.inl x3), some (.inl (w32 ((w32 (x4 + (if ¬ x6 = 0 then 1 else 0 : Int))) + (if x7 = 0 then 1 else 0 : Int)))), some (.inl 1), some (.inl x6), some (.inl x7), o8], []) :: K) σ else (0 ≤ (w32 (20 + x6)) ∧ (w32 (20 + x6)) < 40) ∧ zEv true (zent 150 [.inr (.inr 1), .inl (gI σ 122 ((w32 (20 + x6)).toNat)), .inl (w32 ((w32 (x4 + (if ¬ x6 = 0 then 1 else 0 : Int))) + (if x7 = 0 then 1 else 0 : Int))), .inl x3] :: (149, 146, [some (.inr (.inr 1)), some (.inr (.inr 122)), some (.inr (.inr 123)), some (.inl x3), some (.inl (w32 ((w32 (x4 + (if ¬ x6 = 0 then 1 else 0 : Int))) + (if x7 = 0 then 1 else 0 : Int)))), some (.inl 1), some (.inl x6), some (.inl x7), o8], []) :: K) σ else zEv true (zent 150 [.inr (.inr 1), .inl 40, .inl (w32 (x4 + (if ¬ x6 = 0 then 1 else 0 : Int))), .inl x3] :: (149, 102, [some (.inr (.inr 1)), some (.inr (.inr 122)), some (.inr (.inr 123)), some (.inl x3), some (.inl (w32 (x4 + (if ¬ x6 = 0 then 1 else 0 : Int)))), some (.inl 1), some (.inl x6), some (.inl x7), o8], []) :: K) σ) :=
  yT_rt (yI_if_eq zi_149_58 <| yBr (rfl) (yI_iconst zi_149_61 <| yI_goto zi_149_62 <| yI_istore (l := [some (.inr (.inr 1)), some (.inr (.inr 122)), some (.inr (.inr 123)), some (.inl x3), some (.inl x4), some (.inl 1), some (.inl x6), some (.inl x7), o8]) zi_149_66 rfl rfl <| yI_iload zi_149_68 rfl <| yI_iload zi_149_70 rfl <| yI_if_ne zi_149_72 <| yMi0 (j := 80) (ls2 := [some (.inr (.inr 1)), some (.inr (.inr 122)), some (.inr (.inr 123)), some (.inl x3), some (.inl x4), some (.inl 1), some (.inl x6), some (.inl x7), o8]) (st2 := [.inl x4]) (x := 1) (y := 0) (σ2 := σ) (yI_iconst zi_149_79 <| rfl) (yI_iconst zi_149_75 <| yI_goto zi_149_76 <| rfl) <| yI_iadd zi_149_80 <| yI_istore (l := [some (.inr (.inr 1)), some (.inr (.inr 122)), some (.inr (.inr 123)), some (.inl x3), some (.inl (w32 (x4 + (if ¬ x6 = 0 then 1 else 0 : Int)))), some (.inl 1), some (.inl x6), some (.inl x7), o8]) zi_149_81 rfl rfl <| yI_iload zi_149_83 rfl <| yI_if_eq zi_149_85 <| yBr (rfl) (yI_iload zi_149_88 rfl <| yI_if_ne zi_149_90 <| yBr (yI_iconst zi_149_105 <| yI_goto zi_149_106 <| yI_istore (l := [some (.inr (.inr 1)), some (.inr (.inr 122)), some (.inr (.inr 123)), some (.inl x3), some (.inl (w32 (x4 + (if ¬ x6 = 0 then 1 else 0 : Int)))), some (.inl 1), some (.inl x6), some (.inl x7), o8]) zi_149_110 rfl rfl <| yI_iload zi_149_112 rfl <| yI_iload zi_149_114 rfl <| yI_if_eq zi_149_116 <| yMi0 (j := 124) (ls2 := [some (.inr (.inr 1)), some (.inr (.inr 122)), some (.inr (.inr 123)), some (.inl x3), some (.inl (w32 (x4 + (if ¬ x6 = 0 then 1 else 0 : Int)))), some (.inl 1), some (.inl x6), some (.inl x7), o8]) (st2 := [.inl (w32 (x4 + (if ¬ x6 = 0 then 1 else 0 : Int)))]) (x := 1) (y := 0) (σ2 := σ) (yI_iconst zi_149_123 <| rfl) (yI_iconst zi_149_119 <| yI_goto zi_149_120 <| rfl) <| yI_iadd zi_149_124 <| yI_istore (l := [some (.inr (.inr 1)), some (.inr (.inr 122)), some (.inr (.inr 123)), some (.inl x3), some (.inl (w32 ((w32 (x4 + (if ¬ x6 = 0 then 1 else 0 : Int))) + (if x7 = 0 then 1 else 0 : Int)))), some (.inl 1), some (.inl x6), some (.inl x7), o8]) zi_149_125 rfl rfl <| yI_iload zi_149_127 rfl <| yI_if_eq zi_149_129 <| yBr (rfl) (yI_aload_n zi_149_132 rfl <| yI_aload_n zi_149_133 rfl <| yI_bipush zi_149_134 <| yI_iload zi_149_136 rfl <| yI_iadd zi_149_138 <| yI_ialoadc (v := gI σ 122 ((w32 (20 + x6)).toNat)) zi_149_139 za_122 rfl <| yI_iload zi_149_140 rfl <| yI_iload_n zi_149_142 rfl <| yI_cs zi_149_143 rfl rfl hK)) (yI_aload_n zi_149_93 rfl <| yI_bipush zi_149_94 <| yI_iload zi_149_96 rfl <| yI_iload_n zi_149_98 rfl <| yI_cs zi_149_99 rfl rfl hK))))
theorem zj_149_109 {K : List zF} {σ : zW} {x3 : Int} {x4 : Int} {o5 : Option zV} {x6 : Int} {x7 : Int} {o8 : Option zV} (hK : K.length < 60) : zEv true ((149, 109, [some (.inr (.inr 1)), some (.inr (.inr 122)), some (.inr (.inr 123)), some (.inl x3), some (.inl x4), o5, some (.inl x6), some (.inl x7), o8], []) :: K) σ = (if (0 : Int) = 0 then zEv true ((149, 153, [some (.inr (.inr 1)), some (.inr (.inr 122)), some (.inr (.inr 123)), some (.inl x3), some (.inl (w32 (x4 + (if x7 = 0 then 1 else 0 : Int)))), some (.inl 0), some (.inl x6), some (.inl x7), o8], []) :: K) σ else (0 ≤ (w32 (20 + x6)) ∧ (w32 (20 + x6)) < 40) ∧ zEv true (zent 150 [.inr (.inr 1), .inl (gI σ 122 ((w32 (20 + x6)).toNat)), .inl (w32 (x4 + (if x7 = 0 then 1 else 0 : Int))), .inl x3] :: (149, 146, [some (.inr (.inr 1)), some (.inr (.inr 122)), some (.inr (.inr 123)), some (.inl x3), some (.inl (w32 (x4 + (if x7 = 0 then 1 else 0 : Int)))), some (.inl 0), some (.inl x6), some (.inl x7), o8], []) :: K) σ) :=
  yI_iconst zi_149_109 <| yI_istore (l := [some (.inr (.inr 1)), some (.inr (.inr 122)), some (.inr (.inr 123)), some (.inl x3), some (.inl x4), some (.inl 0), some (.inl x6), some (.inl x7), o8]) zi_149_110 rfl rfl <| yI_iload zi_149_112 rfl <| yI_iload zi_149_114 rfl <| yI_if_eq zi_149_116 <| yMi0 (j := 124) (ls2 := [some (.inr (.inr 1)), some (.inr (.inr 122)), some (.inr (.inr 123)), some (.inl x3), some (.inl x4), some (.inl 0), some (.inl x6), some (.inl x7), o8]) (st2 := [.inl x4]) (x := 1) (y := 0) (σ2 := σ) (yI_iconst zi_149_123 <| rfl) (yI_iconst zi_149_119 <| yI_goto zi_149_120 <| rfl) <| yI_iadd zi_149_124 <| yI_istore (l := [some (.inr (.inr 1)), some (.inr (.inr 122)), some (.inr (.inr 123)), some (.inl x3), some (.inl (w32 (x4 + (if x7 = 0 then 1 else 0 : Int)))), some (.inl 0), some (.inl x6), some (.inl x7), o8]) zi_149_125 rfl rfl <| yI_iload zi_149_127 rfl <| yI_if_eq zi_149_129 <| yBr (rfl) (yI_aload_n zi_149_132 rfl <| yI_aload_n zi_149_133 rfl <| yI_bipush zi_149_134 <| yI_iload zi_149_136 rfl <| yI_iadd zi_149_138 <| yI_ialoadc (v := gI σ 122 ((w32 (20 + x6)).toNat)) zi_149_139 za_122 rfl <| yI_iload zi_149_140 rfl <| yI_iload_n zi_149_142 rfl <| yI_cs zi_149_143 rfl rfl hK)
theorem zr_149_102 {K : List zF} {σ : zW} {x3 : Int} {x4 : Int} {o5 : Option zV} {x6 : Int} {x7 : Int} {o8 : Option zV} {v : Int} (hK : K.length < 60) : zRet true ((149, 102, [some (.inr (.inr 1)), some (.inr (.inr 122)), some (.inr (.inr 123)), some (.inl x3), some (.inl x4), o5, some (.inl x6), some (.inl x7), o8], []) :: K) (some (.inl v)) σ = (if v = 0 then zEv true ((149, 109, [some (.inr (.inr 1)), some (.inr (.inr 122)), some (.inr (.inr 123)), some (.inl x3), some (.inl x4), o5, some (.inl x6), some (.inl x7), o8], []) :: K) σ else if (1 : Int) = 0 then zEv true ((149, 153, [some (.inr (.inr 1)), some (.inr (.inr 122)), some (.inr (.inr 123)), some (.inl x3), some (.inl (w32 (x4 + (if x7 = 0 then 1 else 0 : Int)))), some (.inl 1), some (.inl x6), some (.inl x7), o8], []) :: K) σ else (0 ≤ (w32 (20 + x6)) ∧ (w32 (20 + x6)) < 40) ∧ zEv true (zent 150 [.inr (.inr 1), .inl (gI σ 122 ((w32 (20 + x6)).toNat)), .inl (w32 (x4 + (if x7 = 0 then 1 else 0 : Int))), .inl x3] :: (149, 146, [some (.inr (.inr 1)), some (.inr (.inr 122)), some (.inr (.inr 123)), some (.inl x3), some (.inl (w32 (x4 + (if x7 = 0 then 1 else 0 : Int)))), some (.inl 1), some (.inl x6), some (.inl x7), o8], []) :: K) σ) :=
  yT_rt (yI_if_eq zi_149_102 <| yBr (rfl) (yI_iconst zi_149_105 <| yI_goto zi_149_106 <| yI_istore (l := [some (.inr (.inr 1)), some (.inr (.inr 122)), some (.inr (.inr 123)), some (.inl x3), some (.inl x4), some (.inl 1), some (.inl x6), some (.inl x7), o8]) zi_149_110 rfl rfl <| yI_iload zi_149_112 rfl <| yI_iload zi_149_114 rfl <| yI_if_eq zi_149_116 <| yMi0 (j := 124) (ls2 := [some (.inr (.inr 1)), some (.inr (.inr 122)), some (.inr (.inr 123)), some (.inl x3), some (.inl x4), some (.inl 1), some (.inl x6), some (.inl x7), o8]) (st2 := [.inl x4]) (x := 1) (y := 0) (σ2 := σ) (yI_iconst zi_149_123 <| rfl) (yI_iconst zi_149_119 <| yI_goto zi_149_120 <| rfl) <| yI_iadd zi_149_124 <| yI_istore (l := [some (.inr (.inr 1)), some (.inr (.inr 122)), some (.inr (.inr 123)), some (.inl x3), some (.inl (w32 (x4 + (if x7 = 0 then 1 else 0 : Int)))), some (.inl 1), some (.inl x6), some (.inl x7), o8]) zi_149_125 rfl rfl <| yI_iload zi_149_127 rfl <| yI_if_eq zi_149_129 <| yBr (rfl) (yI_aload_n zi_149_132 rfl <| yI_aload_n zi_149_133 rfl <| yI_bipush zi_149_134 <| yI_iload zi_149_136 rfl <| yI_iadd zi_149_138 <| yI_ialoadc (v := gI σ 122 ((w32 (20 + x6)).toNat)) zi_149_139 za_122 rfl <| yI_iload zi_149_140 rfl <| yI_iload_n zi_149_142 rfl <| yI_cs zi_149_143 rfl rfl hK)))
theorem zj_149_153 {K : List zF} {σ : zW} {x3 : Int} {x4 : Int} {o5 : Option zV} {x6 : Int} {x7 : Int} {o8 : Option zV} : zEv true ((149, 153, [some (.inr (.inr 1)), some (.inr (.inr 122)), some (.inr (.inr 123)), some (.inl x3), some (.inl x4), o5, some (.inl x6), some (.inl x7), o8], []) :: K) σ = ((0 ≤ x6 ∧ x6 < 40) ∧ zEv true ((149, 165, [some (.inr (.inr 1)), some (.inr (.inr 122)), some (.inr (.inr 123)), some (.inl x3), some (.inl (w32 (x4 + 1))), some (.inl 0), some (.inl x6), some (.inl x7), some (.inl (gI σ 122 x6.toNat))], []) :: K) σ) :=
  yI_iconst zi_149_153 <| yI_istore (l := [some (.inr (.inr 1)), some (.inr (.inr 122)), some (.inr (.inr 123)), some (.inl x3), some (.inl x4), some (.inl 0), some (.inl x6), some (.inl x7), o8]) zi_149_154 rfl rfl <| yI_iinc (l := [some (.inr (.inr 1)), some (.inr (.inr 122)), some (.inr (.inr 123)), some (.inl x3), some (.inl (w32 (x4 + 1))), some (.inl 0), some (.inl x6), some (.inl x7), o8]) zi_149_156 rfl rfl rfl <| yI_aload_n zi_149_159 rfl <| yI_iload zi_149_160 rfl <| yI_ialoadc (v := gI σ 122 x6.toNat) zi_149_162 za_122 rfl <| yI_istore (l := [some (.inr (.inr 1)), some (.inr (.inr 122)), some (.inr (.inr 123)), some (.inl x3), some (.inl (w32 (x4 + 1))), some (.inl 0), some (.inl x6), some (.inl x7), some (.inl (gI σ 122 x6.toNat))]) zi_149_163 rfl rfl <| rfl
theorem zr_149_146 {K : List zF} {σ : zW} {x3 : Int} {x4 : Int} {o5 : Option zV} {x6 : Int} {x7 : Int} {o8 : Option zV} {v : Int} : zRet true ((149, 146, [some (.inr (.inr 1)), some (.inr (.inr 122)), some (.inr (.inr 123)), some (.inl x3), some (.inl x4), o5, some (.inl x6), some (.inl x7), o8], []) :: K) (some (.inl v)) σ = (if v = 0 then zEv true ((149, 153, [some (.inr (.inr 1)), some (.inr (.inr 122)), some (.inr (.inr 123)), some (.inl x3), some (.inl x4), o5, some (.inl x6), some (.inl x7), o8], []) :: K) σ else (0 ≤ x6 ∧ x6 < 40) ∧ zEv true ((149, 165, [some (.inr (.inr 1)), some (.inr (.inr 122)), some (.inr (.inr 123)), some (.inl x3), some (.inl (w32 (x4 + 1))), some (.inl 1), some (.inl x6), some (.inl x7), some (.inl (gI σ 122 x6.toNat))], []) :: K) σ) :=
  yT_rt (yI_if_eq zi_149_146 <| yBr (rfl) (yI_iconst zi_149_149 <| yI_goto zi_149_150 <| yI_istore (l := [some (.inr (.inr 1)), some (.inr (.inr 122)), some (.inr (.inr 123)), some (.inl x3), some (.inl x4), some (.inl 1), some (.inl x6), some (.inl x7), o8]) zi_149_154 rfl rfl <| yI_iinc (l := [some (.inr (.inr 1)), some (.inr (.inr 122)), some (.inr (.inr 123)), some (.inl x3), some (.inl (w32 (x4 + 1))), some (.inl 1), some (.inl x6), some (.inl x7), o8]) zi_149_156 rfl rfl rfl <| yI_aload_n zi_149_159 rfl <| yI_iload zi_149_160 rfl <| yI_ialoadc (v := gI σ 122 x6.toNat) zi_149_162 za_122 rfl <| yI_istore (l := [some (.inr (.inr 1)), some (.inr (.inr 122)), some (.inr (.inr 123)), some (.inl x3), some (.inl (w32 (x4 + 1))), some (.inl 1), some (.inl x6), some (.inl x7), some (.inl (gI σ 122 x6.toNat))]) zi_149_163 rfl rfl <| rfl))
theorem zj_149_165 {K : List zF} {σ : zW} {x3 : Int} {x4 : Int} {x5 : Int} {x6 : Int} {x7 : Int} {x8 : Int} (hK : K.length < 60) : zEv true ((149, 165, [some (.inr (.inr 1)), some (.inr (.inr 122)), some (.inr (.inr 123)), some (.inl x3), some (.inl x4), some (.inl x5), some (.inl x6), some (.inl x7), some (.inl x8)], []) :: K) σ = (if x8 < 0 then zEv true ((149, 9, [some (.inr (.inr 1)), some (.inr (.inr 122)), some (.inr (.inr 123)), some (.inl x3), some (.inl x4), some (.inl x5), some (.inl (w32 (x6 + 1))), some (.inl x7), some (.inl x8)], []) :: K) σ else if x7 = 0 then zEv true ((149, 9, [some (.inr (.inr 1)), some (.inr (.inr 122)), some (.inr (.inr 123)), some (.inl x3), some (.inl x4), some (.inl x5), some (.inl (w32 (x6 + 1))), some (.inl x7), some (.inl x8)], []) :: K) σ else if (w32 (x6 + 1)) = (gI σ 123 0) then zEv true ((149, 198, [some (.inr (.inr 1)), some (.inr (.inr 122)), some (.inr (.inr 123)), some (.inl x3), some (.inl x4), some (.inl x5), some (.inl x6), some (.inl x7), some (.inl x8)], []) :: K) σ else zEv true (zent 148 [.inr (.inr 122), .inl (w32 (x6 + 1)), .inl x8] :: (149, 195, [some (.inr (.inr 1)), some (.inr (.inr 122)), some (.inr (.inr 123)), some (.inl x3), some (.inl x4), some (.inl x5), some (.inl x6), some (.inl x7), some (.inl x8)], []) :: K) σ) :=
  yI_iload zi_149_165 rfl <| yI_if_lt zi_149_167 <| yBr (yI_iinc (l := [some (.inr (.inr 1)), some (.inr (.inr 122)), some (.inr (.inr 123)), some (.inl x3), some (.inl x4), some (.inl x5), some (.inl (w32 (x6 + 1))), some (.inl x7), some (.inl x8)]) zi_149_234 rfl rfl rfl <| yI_goto zi_149_237 <| rfl) (yI_iload zi_149_170 rfl <| yI_if_eq zi_149_172 <| yBr (yI_iinc (l := [some (.inr (.inr 1)), some (.inr (.inr 122)), some (.inr (.inr 123)), some (.inl x3), some (.inl x4), some (.inl x5), some (.inl (w32 (x6 + 1))), some (.inl x7), some (.inl x8)]) zi_149_234 rfl rfl rfl <| yI_goto zi_149_237 <| rfl) (yI_iload zi_149_175 rfl <| yI_iconst zi_149_177 <| yI_iadd zi_149_178 <| yI_aload_n zi_149_179 rfl <| yI_iconst zi_149_180 <| yI_iaload (v := gI σ 123 0) zi_149_181 za_123 (by decide) rfl <| yI_ic_eq zi_149_182 <| yBr (rfl) (yI_aload_n zi_149_185 rfl <| yI_iload zi_149_186 rfl <| yI_iconst zi_149_188 <| yI_iadd zi_149_189 <| yI_iload zi_149_190 rfl <| yI_cs zi_149_192 rfl rfl hK)))
theorem zj_149_198 {K : List zF} {σ : zW} {x3 : Int} {x4 : Int} {x5 : Int} {x6 : Int} {x7 : Int} {x8 : Int} (hK : K.length < 60) : zEv true ((149, 198, [some (.inr (.inr 1)), some (.inr (.inr 122)), some (.inr (.inr 123)), some (.inl x3), some (.inl x4), some (.inl x5), some (.inl x6), some (.inl x7), some (.inl x8)], []) :: K) σ = (if x5 = 0 then zEv true ((149, 219, [some (.inr (.inr 1)), some (.inr (.inr 122)), some (.inr (.inr 123)), some (.inl x3), some (.inl x4), some (.inl x5), some (.inl x6), some (.inl x7), some (.inl x8)], []) :: K) σ else zEv true (zent 150 [.inr (.inr 1), .inl 41, .inl x4, .inl x3] :: (149, 212, [some (.inr (.inr 1)), some (.inr (.inr 122)), some (.inr (.inr 123)), some (.inl x3), some (.inl x4), some (.inl x5), some (.inl x6), some (.inl x7), some (.inl x8)], []) :: K) σ) :=
  yI_iload zi_149_198 rfl <| yI_if_eq zi_149_200 <| yBr (rfl) (yI_aload_n zi_149_203 rfl <| yI_bipush zi_149_204 <| yI_iload zi_149_206 rfl <| yI_iload_n zi_149_208 rfl <| yI_cs zi_149_209 rfl rfl hK)
theorem zr_149_195 {K : List zF} {σ : zW} {x3 : Int} {x4 : Int} {x5 : Int} {x6 : Int} {x7 : Int} {x8 : Int} {v : Int} : zRet true ((149, 195, [some (.inr (.inr 1)), some (.inr (.inr 122)), some (.inr (.inr 123)), some (.inl x3), some (.inl x4), some (.inl x5), some (.inl x6), some (.inl x7), some (.inl x8)], []) :: K) (some (.inl v)) σ = (if ¬ v = 0 then zEv true ((149, 225, [some (.inr (.inr 1)), some (.inr (.inr 122)), some (.inr (.inr 123)), some (.inl x3), some (.inl x4), some (.inl x5), some (.inl x6), some (.inl x7), some (.inl x8)], []) :: K) σ else zEv true ((149, 198, [some (.inr (.inr 1)), some (.inr (.inr 122)), some (.inr (.inr 123)), some (.inl x3), some (.inl x4), some (.inl x5), some (.inl x6), some (.inl x7), some (.inl x8)], []) :: K) σ) :=
  yT_rt (yI_if_ne zi_149_195 <| yBr (rfl) (rfl))
theorem zj_149_219 {K : List zF} {σ : zW} {x3 : Int} {x4 : Int} {o5 : Option zV} {x6 : Int} {x7 : Int} {x8 : Int} : zEv true ((149, 219, [some (.inr (.inr 1)), some (.inr (.inr 122)), some (.inr (.inr 123)), some (.inl x3), some (.inl x4), o5, some (.inl x6), some (.inl x7), some (.inl x8)], []) :: K) σ = (zEv true ((149, 225, [some (.inr (.inr 1)), some (.inr (.inr 122)), some (.inr (.inr 123)), some (.inl x3), some (.inl (w32 (x4 + 1))), some (.inl 0), some (.inl x6), some (.inl x7), some (.inl x8)], []) :: K) σ) :=
  yI_iconst zi_149_219 <| yI_istore (l := [some (.inr (.inr 1)), some (.inr (.inr 122)), some (.inr (.inr 123)), some (.inl x3), some (.inl x4), some (.inl 0), some (.inl x6), some (.inl x7), some (.inl x8)]) zi_149_220 rfl rfl <| yI_iinc (l := [some (.inr (.inr 1)), some (.inr (.inr 122)), some (.inr (.inr 123)), some (.inl x3), some (.inl (w32 (x4 + 1))), some (.inl 0), some (.inl x6), some (.inl x7), some (.inl x8)]) zi_149_222 rfl rfl rfl <| rfl
theorem zr_149_212 {K : List zF} {σ : zW} {x3 : Int} {x4 : Int} {o5 : Option zV} {x6 : Int} {x7 : Int} {x8 : Int} {v : Int} : zRet true ((149, 212, [some (.inr (.inr 1)), some (.inr (.inr 122)), some (.inr (.inr 123)), some (.inl x3), some (.inl x4), o5, some (.inl x6), some (.inl x7), some (.inl x8)], []) :: K) (some (.inl v)) σ = (if v = 0 then zEv true ((149, 219, [some (.inr (.inr 1)), some (.inr (.inr 122)), some (.inr (.inr 123)), some (.inl x3), some (.inl x4), o5, some (.inl x6), some (.inl x7), some (.inl x8)], []) :: K) σ else zEv true ((149, 225, [some (.inr (.inr 1)), some (.inr (.inr 122)), some (.inr (.inr 123)), some (.inl x3), some (.inl (w32 (x4 + 1))), some (.inl 1), some (.inl x6), some (.inl x7), some (.inl x8)], []) :: K) σ) :=
  yT_rt (yI_if_eq zi_149_212 <| yBr (rfl) (yI_iconst zi_149_215 <| yI_goto zi_149_216 <| yI_istore (l := [some (.inr (.inr 1)), some (.inr (.inr 122)), some (.inr (.inr 123)), some (.inl x3), some (.inl x4), some (.inl 1), some (.inl x6), some (.inl x7), some (.inl x8)]) zi_149_220 rfl rfl <| yI_iinc (l := [some (.inr (.inr 1)), some (.inr (.inr 122)), some (.inr (.inr 123)), some (.inl x3), some (.inl (w32 (x4 + 1))), some (.inl 1), some (.inl x6), some (.inl x7), some (.inl x8)]) zi_149_222 rfl rfl rfl <| rfl))
theorem zj_149_225 {K : List zF} {σ : zW} {x3 : Int} {x4 : Int} {x5 : Int} {x6 : Int} {x7 : Int} {x8 : Int} : zEv true ((149, 225, [some (.inr (.inr 1)), some (.inr (.inr 122)), some (.inr (.inr 123)), some (.inl x3), some (.inl x4), some (.inl x5), some (.inl x6), some (.inl x7), some (.inl x8)], []) :: K) σ = ((0 ≤ x8 ∧ x8 < 40) ∧ zEv true ((149, 165, [some (.inr (.inr 1)), some (.inr (.inr 122)), some (.inr (.inr 123)), some (.inl x3), some (.inl x4), some (.inl x5), some (.inl x6), some (.inl x7), some (.inl (gI σ 122 x8.toNat))], []) :: K) σ) :=
  yI_aload_n zi_149_225 rfl <| yI_iload zi_149_226 rfl <| yI_ialoadc (v := gI σ 122 x8.toNat) zi_149_228 za_122 rfl <| yI_istore (l := [some (.inr (.inr 1)), some (.inr (.inr 122)), some (.inr (.inr 123)), some (.inl x3), some (.inl x4), some (.inl x5), some (.inl x6), some (.inl x7), some (.inl (gI σ 122 x8.toNat))]) zi_149_229 rfl rfl <| yI_goto zi_149_231 <| rfl
/-- 150 TreegrabLaw.puts(LTreegrab;IIZ)Z -/
theorem zi_150_0 : zraw 150 0 = some (.iload_n 3, 1) ∧ 0 + 1 = 1 := by decide +kernel
theorem zi_150_1 : zraw 150 1 = some (.ifCond .eq 18, 3) ∧ ((1 : Nat) : Int) + 18 = Int.ofNat 19 ∧ 1 + 3 = 4 := by decide +kernel
theorem zi_150_4 : zraw 150 4 = some (.aload_n 0, 1) ∧ 4 + 1 = 5 := by decide +kernel
theorem zi_150_5 : zraw 150 5 = some (.iload_n 2, 1) ∧ 5 + 1 = 6 := by decide +kernel
theorem zi_150_6 : zraw 150 6 = some (.invokestatic 110, 3) ∧ zmt (zinf 150).1 110 = some 146 ∧ Nat.ble 9000 146 = false ∧ zinf 146 = (11, 2, 2, 1, 1) ∧ 6 + 3 = 9 := by decide +kernel
theorem zi_150_9 : zraw 150 9 = some (.iload_n 1, 1) ∧ 9 + 1 = 10 := by decide +kernel
theorem zi_150_10 : zraw 150 10 = some (.if_icmp .ne 7, 3) ∧ ((10 : Nat) : Int) + 7 = Int.ofNat 17 ∧ 10 + 3 = 13 := by decide +kernel
theorem zi_150_13 : zraw 150 13 = some (.iconst 1, 1) ∧ zin 128 1 = true ∧ 13 + 1 = 14 := by decide +kernel
theorem zi_150_14 : zraw 150 14 = some (.goto 4, 3) ∧ ((14 : Nat) : Int) + 4 = Int.ofNat 18 := by decide +kernel
theorem zi_150_17 : zraw 150 17 = some (.iconst 0, 1) ∧ zin 128 0 = true ∧ 17 + 1 = 18 := by decide +kernel
theorem zi_150_18 : zraw 150 18 = some (.ireturn, 1) ∧ (zinf 150).2.2.2.1 = 2 := by decide +kernel
theorem zi_150_19 : zraw 150 19 = some (.aload_n 0, 1) ∧ 19 + 1 = 20 := by decide +kernel
theorem zi_150_20 : zraw 150 20 = some (.iload_n 1, 1) ∧ 20 + 1 = 21 := by decide +kernel
theorem zi_150_21 : zraw 150 21 = some (.invokestatic 114, 3) ∧ zmt (zinf 150).1 114 = some 142 ∧ Nat.ble 9000 142 = false ∧ zinf 142 = (11, 2, 2, 0, 1) ∧ 21 + 3 = 24 := by decide +kernel
theorem zi_150_24 : zraw 150 24 = some (.iconst 1, 1) ∧ zin 128 1 = true ∧ 24 + 1 = 25 := by decide +kernel
theorem zi_150_25 : zraw 150 25 = some (.ireturn, 1) ∧ (zinf 150).2.2.2.1 = 2 := by decide +kernel
theorem ze_150 {K : List zF} {σ : zW} {x1 : Int} {x2 : Int} {x3 : Int} (hK : K.length < 60) : zEv true (zent 150 [.inr (.inr 1), .inl x1, .inl x2, .inl x3] :: K) σ = (if x3 = 0 then zEv true (zent 142 [.inr (.inr 1), .inl x1] :: (150, 24, [some (.inr (.inr 1)), some (.inl x1), some (.inl x2), some (.inl x3)], []) :: K) σ else zEv true (zent 146 [.inr (.inr 1), .inl x2] :: (150, 9, [some (.inr (.inr 1)), some (.inl x1), some (.inl x2), some (.inl x3)], []) :: K) σ) :=
  yT_en (f := (150, 0, [some (.inr (.inr 1)), some (.inl x1), some (.inl x2), some (.inl x3)], [])) rfl (yI_iload_n zi_150_0 rfl <| yI_if_eq zi_150_1 <| yBr (yI_aload_n zi_150_19 rfl <| yI_iload_n zi_150_20 rfl <| yI_cs zi_150_21 rfl rfl hK) (yI_aload_n zi_150_4 rfl <| yI_iload_n zi_150_5 rfl <| yI_cs zi_150_6 rfl rfl hK))
theorem zr_150_24 {K : List zF} {σ : zW} {o0 : Option zV} {o1 : Option zV} {o2 : Option zV} {o3 : Option zV} : zRet true ((150, 24, [o0, o1, o2, o3], []) :: K) none σ = (zRet true K (some (.inl 1)) σ) :=
  yT_rv (yI_iconst zi_150_24 <| yI_zreturn zi_150_25 (by decide))
theorem zr_150_9 {K : List zF} {σ : zW} {o0 : Option zV} {x1 : Int} {o2 : Option zV} {o3 : Option zV} {v : Int} : zRet true ((150, 9, [o0, some (.inl x1), o2, o3], []) :: K) (some (.inl v)) σ = (if ¬ v = x1 then zRet true K (some (.inl 0)) σ else zRet true K (some (.inl 1)) σ) :=
  yT_rt (yI_iload_n zi_150_9 rfl <| yI_ic_ne zi_150_10 <| yBr (yI_iconst zi_150_17 <| yI_zreturn zi_150_18 (by decide)) (yI_iconst zi_150_13 <| yI_goto zi_150_14 <| yI_zreturn zi_150_18 (by decide)))
/-- 151 TreegrabLaw.isTree(LTreegrab;[I[I)Z -/
theorem zi_151_0 : zraw 151 0 = some (.aload_n 0, 1) ∧ 0 + 1 = 1 := by decide +kernel
theorem zi_151_1 : zraw 151 1 = some (.iconst 0, 1) ∧ zin 128 0 = true ∧ 1 + 1 = 2 := by decide +kernel
theorem zi_151_2 : zraw 151 2 = some (.invokevirtual 74, 3) ∧ zmt (zinf 151).1 74 = some 122 ∧ Nat.ble 9000 122 = false ∧ zinf 122 = (9, 2, 2, 1, 0) ∧ 2 + 3 = 5 := by decide +kernel
theorem zi_151_5 : zraw 151 5 = some (.istore_n 3, 1) ∧ 5 + 1 = 6 := by decide +kernel
theorem zi_151_6 : zraw 151 6 = some (.aload_n 0, 1) ∧ 6 + 1 = 7 := by decide +kernel
theorem zi_151_7 : zraw 151 7 = some (.aload_n 1, 1) ∧ 7 + 1 = 8 := by decide +kernel
theorem zi_151_8 : zraw 151 8 = some (.aload_n 2, 1) ∧ 8 + 1 = 9 := by decide +kernel
theorem zi_151_9 : zraw 151 9 = some (.iconst 1, 1) ∧ zin 128 1 = true ∧ 9 + 1 = 10 := by decide +kernel
theorem zi_151_10 : zraw 151 10 = some (.invokestatic 118, 3) ∧ zmt (zinf 151).1 118 = some 149 ∧ Nat.ble 9000 149 = false ∧ zinf 149 = (11, 4, 9, 1, 1) ∧ 10 + 3 = 13 := by decide +kernel
theorem zi_151_13 : zraw 151 13 = some (.iload_n 3, 1) ∧ 13 + 1 = 14 := by decide +kernel
theorem zi_151_14 : zraw 151 14 = some (.if_icmp .ne 26, 3) ∧ ((14 : Nat) : Int) + 26 = Int.ofNat 40 ∧ 14 + 3 = 17 := by decide +kernel
theorem zi_151_17 : zraw 151 17 = some (.aload_n 0, 1) ∧ 17 + 1 = 18 := by decide +kernel
theorem zi_151_18 : zraw 151 18 = some (.iload_n 3, 1) ∧ 18 + 1 = 19 := by decide +kernel
theorem zi_151_19 : zraw 151 19 = some (.invokestatic 110, 3) ∧ zmt (zinf 151).1 110 = some 146 ∧ Nat.ble 9000 146 = false ∧ zinf 146 = (11, 2, 2, 1, 1) ∧ 19 + 3 = 22 := by decide +kernel
theorem zi_151_22 : zraw 151 22 = some (.ifCond .ne 18, 3) ∧ ((22 : Nat) : Int) + 18 = Int.ofNat 40 ∧ 22 + 3 = 25 := by decide +kernel
theorem zi_151_25 : zraw 151 25 = some (.aload_n 0, 1) ∧ 25 + 1 = 26 := by decide +kernel
theorem zi_151_26 : zraw 151 26 = some (.iconst 0, 1) ∧ zin 128 0 = true ∧ 26 + 1 = 27 := by decide +kernel
theorem zi_151_27 : zraw 151 27 = some (.invokevirtual 38, 3) ∧ zmt (zinf 151).1 38 = some 109 ∧ Nat.ble 9000 109 = false ∧ zinf 109 = (9, 2, 2, 1, 0) ∧ 27 + 3 = 30 := by decide +kernel
theorem zi_151_30 : zraw 151 30 = some (.aload_n 2, 1) ∧ 30 + 1 = 31 := by decide +kernel
theorem zi_151_31 : zraw 151 31 = some (.iconst 0, 1) ∧ zin 128 0 = true ∧ 31 + 1 = 32 := by decide +kernel
theorem zi_151_32 : zraw 151 32 = some (.iaload, 1) ∧ 32 + 1 = 33 := by decide +kernel
theorem zi_151_33 : zraw 151 33 = some (.if_icmp .ne 7, 3) ∧ ((33 : Nat) : Int) + 7 = Int.ofNat 40 ∧ 33 + 3 = 36 := by decide +kernel
theorem zi_151_36 : zraw 151 36 = some (.iconst 1, 1) ∧ zin 128 1 = true ∧ 36 + 1 = 37 := by decide +kernel
theorem zi_151_37 : zraw 151 37 = some (.goto 4, 3) ∧ ((37 : Nat) : Int) + 4 = Int.ofNat 41 := by decide +kernel
theorem zi_151_40 : zraw 151 40 = some (.iconst 0, 1) ∧ zin 128 0 = true ∧ 40 + 1 = 41 := by decide +kernel
theorem zi_151_41 : zraw 151 41 = some (.istore 4, 2) ∧ 41 + 2 = 43 := by decide +kernel
theorem zi_151_43 : zraw 151 43 = some (.iconst 0, 1) ∧ zin 128 0 = true ∧ 43 + 1 = 44 := by decide +kernel
theorem zi_151_44 : zraw 151 44 = some (.istore 5, 2) ∧ 44 + 2 = 46 := by decide +kernel
theorem zi_151_46 : zraw 151 46 = some (.iconst 0, 1) ∧ zin 128 0 = true ∧ 46 + 1 = 47 := by decide +kernel
theorem zi_151_47 : zraw 151 47 = some (.istore 6, 2) ∧ 47 + 2 = 49 := by decide +kernel
theorem zi_151_49 : zraw 151 49 = some (.iload 6, 2) ∧ 49 + 2 = 51 := by decide +kernel
theorem zi_151_51 : zraw 151 51 = some (.aload_n 2, 1) ∧ 51 + 1 = 52 := by decide +kernel
theorem zi_151_52 : zraw 151 52 = some (.iconst 0, 1) ∧ zin 128 0 = true ∧ 52 + 1 = 53 := by decide +kernel
theorem zi_151_53 : zraw 151 53 = some (.iaload, 1) ∧ 53 + 1 = 54 := by decide +kernel
theorem zi_151_54 : zraw 151 54 = some (.if_icmp .ge 193, 3) ∧ ((54 : Nat) : Int) + 193 = Int.ofNat 247 ∧ 54 + 3 = 57 := by decide +kernel
theorem zi_151_57 : zraw 151 57 = some (.iload 4, 2) ∧ 57 + 2 = 59 := by decide +kernel
theorem zi_151_59 : zraw 151 59 = some (.ifCond .eq 188, 3) ∧ ((59 : Nat) : Int) + 188 = Int.ofNat 247 ∧ 59 + 3 = 62 := by decide +kernel
theorem zi_151_62 : zraw 151 62 = some (.iconst 0, 1) ∧ zin 128 0 = true ∧ 62 + 1 = 63 := by decide +kernel
theorem zi_151_63 : zraw 151 63 = some (.istore 7, 2) ∧ 63 + 2 = 65 := by decide +kernel
theorem zi_151_65 : zraw 151 65 = some (.iconst 0, 1) ∧ zin 128 0 = true ∧ 65 + 1 = 66 := by decide +kernel
theorem zi_151_66 : zraw 151 66 = some (.istore 8, 2) ∧ 66 + 2 = 68 := by decide +kernel
theorem zi_151_68 : zraw 151 68 = some (.iconst 0, 1) ∧ zin 128 0 = true ∧ 68 + 1 = 69 := by decide +kernel
theorem zi_151_69 : zraw 151 69 = some (.istore 9, 2) ∧ 69 + 2 = 71 := by decide +kernel
theorem zi_151_71 : zraw 151 71 = some (.iload 9, 2) ∧ 71 + 2 = 73 := by decide +kernel
theorem zi_151_73 : zraw 151 73 = some (.aload_n 2, 1) ∧ 73 + 1 = 74 := by decide +kernel
theorem zi_151_74 : zraw 151 74 = some (.iconst 0, 1) ∧ zin 128 0 = true ∧ 74 + 1 = 75 := by decide +kernel
theorem zi_151_75 : zraw 151 75 = some (.iaload, 1) ∧ 75 + 1 = 76 := by decide +kernel
theorem zi_151_76 : zraw 151 76 = some (.if_icmp .ge 59, 3) ∧ ((76 : Nat) : Int) + 59 = Int.ofNat 135 ∧ 76 + 3 = 79 := by decide +kernel
theorem zi_151_79 : zraw 151 79 = some (.iload 7, 2) ∧ 79 + 2 = 81 := by decide +kernel
theorem zi_151_81 : zraw 151 81 = some (.aload_n 1, 1) ∧ 81 + 1 = 82 := by decide +kernel
theorem zi_151_82 : zraw 151 82 = some (.iload 9, 2) ∧ 82 + 2 = 84 := by decide +kernel
theorem zi_151_84 : zraw 151 84 = some (.iaload, 1) ∧ 84 + 1 = 85 := by decide +kernel
theorem zi_151_85 : zraw 151 85 = some (.iload 6, 2) ∧ 85 + 2 = 87 := by decide +kernel
theorem zi_151_87 : zraw 151 87 = some (.if_icmp .ne 7, 3) ∧ ((87 : Nat) : Int) + 7 = Int.ofNat 94 ∧ 87 + 3 = 90 := by decide +kernel
theorem zi_151_90 : zraw 151 90 = some (.iconst 1, 1) ∧ zin 128 1 = true ∧ 90 + 1 = 91 := by decide +kernel
theorem zi_151_91 : zraw 151 91 = some (.goto 4, 3) ∧ ((91 : Nat) : Int) + 4 = Int.ofNat 95 := by decide +kernel
theorem zi_151_94 : zraw 151 94 = some (.iconst 0, 1) ∧ zin 128 0 = true ∧ 94 + 1 = 95 := by decide +kernel
theorem zi_151_95 : zraw 151 95 = some (.iadd, 1) ∧ 95 + 1 = 96 := by decide +kernel
theorem zi_151_96 : zraw 151 96 = some (.istore 7, 2) ∧ 96 + 2 = 98 := by decide +kernel
theorem zi_151_98 : zraw 151 98 = some (.iload 8, 2) ∧ 98 + 2 = 100 := by decide +kernel
theorem zi_151_100 : zraw 151 100 = some (.aload_n 1, 1) ∧ 100 + 1 = 101 := by decide +kernel
theorem zi_151_101 : zraw 151 101 = some (.aload_n 2, 1) ∧ 101 + 1 = 102 := by decide +kernel
theorem zi_151_102 : zraw 151 102 = some (.iload 9, 2) ∧ 102 + 2 = 104 := by decide +kernel
theorem zi_151_104 : zraw 151 104 = some (.invokestatic 98, 3) ∧ zmt (zinf 151).1 98 = some 147 ∧ Nat.ble 9000 147 = false ∧ zinf 147 = (11, 3, 5, 2, 1) ∧ 104 + 3 = 107 := by decide +kernel
theorem zi_151_107 : zraw 151 107 = some (.ifCond .ne 18, 3) ∧ ((107 : Nat) : Int) + 18 = Int.ofNat 125 ∧ 107 + 3 = 110 := by decide +kernel
theorem zi_151_110 : zraw 151 110 = some (.aload_n 1, 1) ∧ 110 + 1 = 111 := by decide +kernel
theorem zi_151_111 : zraw 151 111 = some (.iload 9, 2) ∧ 111 + 2 = 113 := by decide +kernel
theorem zi_151_113 : zraw 151 113 = some (.iload 6, 2) ∧ 113 + 2 = 115 := by decide +kernel
theorem zi_151_115 : zraw 151 115 = some (.invokestatic 106, 3) ∧ zmt (zinf 151).1 106 = some 148 ∧ Nat.ble 9000 148 = false ∧ zinf 148 = (11, 3, 5, 2, 1) ∧ 115 + 3 = 118 := by decide +kernel
theorem zi_151_118 : zraw 151 118 = some (.ifCond .eq 7, 3) ∧ ((118 : Nat) : Int) + 7 = Int.ofNat 125 ∧ 118 + 3 = 121 := by decide +kernel
theorem zi_151_121 : zraw 151 121 = some (.iconst 1, 1) ∧ zin 128 1 = true ∧ 121 + 1 = 122 := by decide +kernel
theorem zi_151_122 : zraw 151 122 = some (.goto 4, 3) ∧ ((122 : Nat) : Int) + 4 = Int.ofNat 126 := by decide +kernel
theorem zi_151_125 : zraw 151 125 = some (.iconst 0, 1) ∧ zin 128 0 = true ∧ 125 + 1 = 126 := by decide +kernel
theorem zi_151_126 : zraw 151 126 = some (.iadd, 1) ∧ 126 + 1 = 127 := by decide +kernel
theorem zi_151_127 : zraw 151 127 = some (.istore 8, 2) ∧ 127 + 2 = 129 := by decide +kernel
theorem zi_151_129 : zraw 151 129 = some (.iinc 9 1, 3) ∧ zin 32768 1 = true ∧ 129 + 3 = 132 := by decide +kernel
theorem zi_151_132 : zraw 151 132 = some (.goto (-61), 3) ∧ ((132 : Nat) : Int) + (-61) = Int.ofNat 71 := by decide +kernel
theorem zi_151_135 : zraw 151 135 = some (.aload_n 0, 1) ∧ 135 + 1 = 136 := by decide +kernel
theorem zi_151_136 : zraw 151 136 = some (.iconst 0, 1) ∧ zin 128 0 = true ∧ 136 + 1 = 137 := by decide +kernel
theorem zi_151_137 : zraw 151 137 = some (.iload 6, 2) ∧ 137 + 2 = 139 := by decide +kernel
theorem zi_151_139 : zraw 151 139 = some (.invokevirtual 41, 3) ∧ zmt (zinf 151).1 41 = some 110 ∧ Nat.ble 9000 110 = false ∧ zinf 110 = (9, 3, 3, 1, 0) ∧ 139 + 3 = 142 := by decide +kernel
theorem zi_151_142 : zraw 151 142 = some (.aload_n 1, 1) ∧ 142 + 1 = 143 := by decide +kernel
theorem zi_151_143 : zraw 151 143 = some (.iload 6, 2) ∧ 143 + 2 = 145 := by decide +kernel
theorem zi_151_145 : zraw 151 145 = some (.iaload, 1) ∧ 145 + 1 = 146 := by decide +kernel
theorem zi_151_146 : zraw 151 146 = some (.if_icmp .ne 77, 3) ∧ ((146 : Nat) : Int) + 77 = Int.ofNat 223 ∧ 146 + 3 = 149 := by decide +kernel
theorem zi_151_149 : zraw 151 149 = some (.aload_n 0, 1) ∧ 149 + 1 = 150 := by decide +kernel
theorem zi_151_150 : zraw 151 150 = some (.iconst 0, 1) ∧ zin 128 0 = true ∧ 150 + 1 = 151 := by decide +kernel
theorem zi_151_151 : zraw 151 151 = some (.iload 6, 2) ∧ 151 + 2 = 153 := by decide +kernel
theorem zi_151_153 : zraw 151 153 = some (.invokevirtual 45, 3) ∧ zmt (zinf 151).1 45 = some 111 ∧ Nat.ble 9000 111 = false ∧ zinf 111 = (9, 3, 3, 1, 0) ∧ 153 + 3 = 156 := by decide +kernel
theorem zi_151_156 : zraw 151 156 = some (.iload 7, 2) ∧ 156 + 2 = 158 := by decide +kernel
theorem zi_151_158 : zraw 151 158 = some (.if_icmp .ne 65, 3) ∧ ((158 : Nat) : Int) + 65 = Int.ofNat 223 ∧ 158 + 3 = 161 := by decide +kernel
theorem zi_151_161 : zraw 151 161 = some (.aload_n 0, 1) ∧ 161 + 1 = 162 := by decide +kernel
theorem zi_151_162 : zraw 151 162 = some (.iconst 0, 1) ∧ zin 128 0 = true ∧ 162 + 1 = 163 := by decide +kernel
theorem zi_151_163 : zraw 151 163 = some (.iload 6, 2) ∧ 163 + 2 = 165 := by decide +kernel
theorem zi_151_165 : zraw 151 165 = some (.iconst 0, 1) ∧ zin 128 0 = true ∧ 165 + 1 = 166 := by decide +kernel
theorem zi_151_166 : zraw 151 166 = some (.invokevirtual 48, 3) ∧ zmt (zinf 151).1 48 = some 112 ∧ Nat.ble 9000 112 = false ∧ zinf 112 = (9, 4, 4, 1, 0) ∧ 166 + 3 = 169 := by decide +kernel
theorem zi_151_169 : zraw 151 169 = some (.iload 5, 2) ∧ 169 + 2 = 171 := by decide +kernel
theorem zi_151_171 : zraw 151 171 = some (.if_icmp .ne 52, 3) ∧ ((171 : Nat) : Int) + 52 = Int.ofNat 223 ∧ 171 + 3 = 174 := by decide +kernel
theorem zi_151_174 : zraw 151 174 = some (.aload_n 0, 1) ∧ 174 + 1 = 175 := by decide +kernel
theorem zi_151_175 : zraw 151 175 = some (.iconst 0, 1) ∧ zin 128 0 = true ∧ 175 + 1 = 176 := by decide +kernel
theorem zi_151_176 : zraw 151 176 = some (.iload 6, 2) ∧ 176 + 2 = 178 := by decide +kernel
theorem zi_151_178 : zraw 151 178 = some (.iconst 1, 1) ∧ zin 128 1 = true ∧ 178 + 1 = 179 := by decide +kernel
theorem zi_151_179 : zraw 151 179 = some (.invokevirtual 48, 3) ∧ zmt (zinf 151).1 48 = some 112 ∧ Nat.ble 9000 112 = false ∧ zinf 112 = (9, 4, 4, 1, 0) ∧ 179 + 3 = 182 := by decide +kernel
theorem zi_151_182 : zraw 151 182 = some (.iload 5, 2) ∧ 182 + 2 = 184 := by decide +kernel
theorem zi_151_184 : zraw 151 184 = some (.iload 8, 2) ∧ 184 + 2 = 186 := by decide +kernel
theorem zi_151_186 : zraw 151 186 = some (.iadd, 1) ∧ 186 + 1 = 187 := by decide +kernel
theorem zi_151_187 : zraw 151 187 = some (.iconst 1, 1) ∧ zin 128 1 = true ∧ 187 + 1 = 188 := by decide +kernel
theorem zi_151_188 : zraw 151 188 = some (.isub, 1) ∧ 188 + 1 = 189 := by decide +kernel
theorem zi_151_189 : zraw 151 189 = some (.if_icmp .ne 34, 3) ∧ ((189 : Nat) : Int) + 34 = Int.ofNat 223 ∧ 189 + 3 = 192 := by decide +kernel
theorem zi_151_192 : zraw 151 192 = some (.aload_n 0, 1) ∧ 192 + 1 = 193 := by decide +kernel
theorem zi_151_193 : zraw 151 193 = some (.iconst 0, 1) ∧ zin 128 0 = true ∧ 193 + 1 = 194 := by decide +kernel
theorem zi_151_194 : zraw 151 194 = some (.iload 6, 2) ∧ 194 + 2 = 196 := by decide +kernel
theorem zi_151_196 : zraw 151 196 = some (.invokevirtual 77, 3) ∧ zmt (zinf 151).1 77 = some 123 ∧ Nat.ble 9000 123 = false ∧ zinf 123 = (9, 3, 3, 1, 0) ∧ 196 + 3 = 199 := by decide +kernel
theorem zi_151_199 : zraw 151 199 = some (.iconst 1, 1) ∧ zin 128 1 = true ∧ 199 + 1 = 200 := by decide +kernel
theorem zi_151_200 : zraw 151 200 = some (.if_icmp .ne 23, 3) ∧ ((200 : Nat) : Int) + 23 = Int.ofNat 223 ∧ 200 + 3 = 203 := by decide +kernel
theorem zi_151_203 : zraw 151 203 = some (.aload_n 0, 1) ∧ 203 + 1 = 204 := by decide +kernel
theorem zi_151_204 : zraw 151 204 = some (.iload 6, 2) ∧ 204 + 2 = 206 := by decide +kernel
theorem zi_151_206 : zraw 151 206 = some (.invokestatic 122, 3) ∧ zmt (zinf 151).1 122 = some 145 ∧ Nat.ble 9000 145 = false ∧ zinf 145 = (11, 2, 3, 4, 1) ∧ 206 + 3 = 209 := by decide +kernel
theorem zi_151_209 : zraw 151 209 = some (.aload_n 1, 1) ∧ 209 + 1 = 210 := by decide +kernel
theorem zi_151_210 : zraw 151 210 = some (.bipush 20, 2) ∧ zin 128 20 = true ∧ 210 + 2 = 212 := by decide +kernel
theorem zi_151_212 : zraw 151 212 = some (.iload 6, 2) ∧ 212 + 2 = 214 := by decide +kernel
theorem zi_151_214 : zraw 151 214 = some (.iadd, 1) ∧ 214 + 1 = 215 := by decide +kernel
theorem zi_151_215 : zraw 151 215 = some (.iaload, 1) ∧ 215 + 1 = 216 := by decide +kernel
theorem zi_151_216 : zraw 151 216 = some (.if_icmp .ne 7, 3) ∧ ((216 : Nat) : Int) + 7 = Int.ofNat 223 ∧ 216 + 3 = 219 := by decide +kernel
theorem zi_151_219 : zraw 151 219 = some (.iconst 1, 1) ∧ zin 128 1 = true ∧ 219 + 1 = 220 := by decide +kernel
theorem zi_151_220 : zraw 151 220 = some (.goto 4, 3) ∧ ((220 : Nat) : Int) + 4 = Int.ofNat 224 := by decide +kernel
theorem zi_151_223 : zraw 151 223 = some (.iconst 0, 1) ∧ zin 128 0 = true ∧ 223 + 1 = 224 := by decide +kernel
theorem zi_151_224 : zraw 151 224 = some (.istore 4, 2) ∧ 224 + 2 = 226 := by decide +kernel
theorem zi_151_226 : zraw 151 226 = some (.iload 5, 2) ∧ 226 + 2 = 228 := by decide +kernel
theorem zi_151_228 : zraw 151 228 = some (.iload 7, 2) ∧ 228 + 2 = 230 := by decide +kernel
theorem zi_151_230 : zraw 151 230 = some (.ifCond .ne 7, 3) ∧ ((230 : Nat) : Int) + 7 = Int.ofNat 237 ∧ 230 + 3 = 233 := by decide +kernel
theorem zi_151_233 : zraw 151 233 = some (.iconst 1, 1) ∧ zin 128 1 = true ∧ 233 + 1 = 234 := by decide +kernel
theorem zi_151_234 : zraw 151 234 = some (.goto 4, 3) ∧ ((234 : Nat) : Int) + 4 = Int.ofNat 238 := by decide +kernel
theorem zi_151_237 : zraw 151 237 = some (.iconst 0, 1) ∧ zin 128 0 = true ∧ 237 + 1 = 238 := by decide +kernel
theorem zi_151_238 : zraw 151 238 = some (.iadd, 1) ∧ 238 + 1 = 239 := by decide +kernel
theorem zi_151_239 : zraw 151 239 = some (.istore 5, 2) ∧ 239 + 2 = 241 := by decide +kernel
theorem zi_151_241 : zraw 151 241 = some (.iinc 6 1, 3) ∧ zin 32768 1 = true ∧ 241 + 3 = 244 := by decide +kernel
theorem zi_151_244 : zraw 151 244 = some (.goto (-195), 3) ∧ ((244 : Nat) : Int) + (-195) = Int.ofNat 49 := by decide +kernel
theorem zi_151_247 : zraw 151 247 = some (.iload 4, 2) ∧ 247 + 2 = 249 := by decide +kernel
theorem zi_151_249 : zraw 151 249 = some (.ireturn, 1) ∧ (zinf 151).2.2.2.1 = 2 := by decide +kernel
theorem ze_151 {K : List zF} {σ : zW} (hK : K.length < 60) : zEv true (zent 151 [.inr (.inr 1), .inr (.inr 122), .inr (.inr 123)] :: K) σ = (zEv true (zent 122 [.inr (.inr 1), .inl 0] :: (151, 5, [some (.inr (.inr 1)), some (.inr (.inr 122)), some (.inr (.inr 123)), none, none, none, none, none, none, none], []) :: K) σ) :=
  yT_en (f := (151, 0, [some (.inr (.inr 1)), some (.inr (.inr 122)), some (.inr (.inr 123)), none, none, none, none, none, none, none], [])) rfl (yI_aload_n zi_151_0 rfl <| yI_iconst zi_151_1 <| yI_cv zi_151_2 rfl rfl zk_1 hK)
theorem zr_151_5 {K : List zF} {σ : zW} {o3 : Option zV} {o4 : Option zV} {o5 : Option zV} {o6 : Option zV} {o7 : Option zV} {o8 : Option zV} {o9 : Option zV} {v : Int} (hK : K.length < 60) : zRet true ((151, 5, [some (.inr (.inr 1)), some (.inr (.inr 122)), some (.inr (.inr 123)), o3, o4, o5, o6, o7, o8, o9], []) :: K) (some (.inl v)) σ = (zEv true (zent 149 [.inr (.inr 1), .inr (.inr 122), .inr (.inr 123), .inl 1] :: (151, 13, [some (.inr (.inr 1)), some (.inr (.inr 122)), some (.inr (.inr 123)), some (.inl v), o4, o5, o6, o7, o8, o9], []) :: K) σ) :=
  yT_rt (yI_istore_n (l := [some (.inr (.inr 1)), some (.inr (.inr 122)), some (.inr (.inr 123)), some (.inl v), o4, o5, o6, o7, o8, o9]) zi_151_5 rfl rfl <| yI_aload_n zi_151_6 rfl <| yI_aload_n zi_151_7 rfl <| yI_aload_n zi_151_8 rfl <| yI_iconst zi_151_9 <| yI_cs zi_151_10 rfl rfl hK)
theorem zr_151_13 {K : List zF} {σ : zW} {x3 : Int} {o4 : Option zV} {o5 : Option zV} {o6 : Option zV} {o7 : Option zV} {o8 : Option zV} {o9 : Option zV} {v : Int} (hK : K.length < 60) : zRet true ((151, 13, [some (.inr (.inr 1)), some (.inr (.inr 122)), some (.inr (.inr 123)), some (.inl x3), o4, o5, o6, o7, o8, o9], []) :: K) (some (.inl v)) σ = (if ¬ v = x3 then zEv true ((151, 40, [some (.inr (.inr 1)), some (.inr (.inr 122)), some (.inr (.inr 123)), some (.inl x3), o4, o5, o6, o7, o8, o9], []) :: K) σ else zEv true (zent 146 [.inr (.inr 1), .inl x3] :: (151, 22, [some (.inr (.inr 1)), some (.inr (.inr 122)), some (.inr (.inr 123)), some (.inl x3), o4, o5, o6, o7, o8, o9], []) :: K) σ) :=
  yT_rt (yI_iload_n zi_151_13 rfl <| yI_ic_ne zi_151_14 <| yBr (rfl) (yI_aload_n zi_151_17 rfl <| yI_iload_n zi_151_18 rfl <| yI_cs zi_151_19 rfl rfl hK))
theorem zj_151_40 {K : List zF} {σ : zW} {o3 : Option zV} {o4 : Option zV} {o5 : Option zV} {o6 : Option zV} {o7 : Option zV} {o8 : Option zV} {o9 : Option zV} : zEv true ((151, 40, [some (.inr (.inr 1)), some (.inr (.inr 122)), some (.inr (.inr 123)), o3, o4, o5, o6, o7, o8, o9], []) :: K) σ = (zEv true ((151, 49, [some (.inr (.inr 1)), some (.inr (.inr 122)), some (.inr (.inr 123)), (zcut 0 o3), some (.inl 0), some (.inl 0), some (.inl 0), o7, o8, o9], []) :: K) σ) :=
  yI_iconst zi_151_40 <| yI_istore (l := [some (.inr (.inr 1)), some (.inr (.inr 122)), some (.inr (.inr 123)), (zcut 0 o3), some (.inl 0), o5, o6, o7, o8, o9]) zi_151_41 rfl rfl <| yI_iconst zi_151_43 <| yI_istore (l := [some (.inr (.inr 1)), some (.inr (.inr 122)), some (.inr (.inr 123)), (zcut 0 o3), some (.inl 0), some (.inl 0), o6, o7, o8, o9]) zi_151_44 rfl rfl <| yI_iconst zi_151_46 <| yI_istore (l := [some (.inr (.inr 1)), some (.inr (.inr 122)), some (.inr (.inr 123)), (zcut 0 o3), some (.inl 0), some (.inl 0), some (.inl 0), o7, o8, o9]) zi_151_47 rfl rfl <| rfl
theorem zr_151_22 {K : List zF} {σ : zW} {o3 : Option zV} {o4 : Option zV} {o5 : Option zV} {o6 : Option zV} {o7 : Option zV} {o8 : Option zV} {o9 : Option zV} {v : Int} (hK : K.length < 60) : zRet true ((151, 22, [some (.inr (.inr 1)), some (.inr (.inr 122)), some (.inr (.inr 123)), o3, o4, o5, o6, o7, o8, o9], []) :: K) (some (.inl v)) σ = (if ¬ v = 0 then zEv true ((151, 40, [some (.inr (.inr 1)), some (.inr (.inr 122)), some (.inr (.inr 123)), o3, o4, o5, o6, o7, o8, o9], []) :: K) σ else zEv true (zent 109 [.inr (.inr 1), .inl 0] :: (151, 30, [some (.inr (.inr 1)), some (.inr (.inr 122)), some (.inr (.inr 123)), o3, o4, o5, o6, o7, o8, o9], []) :: K) σ) :=
  yT_rt (yI_if_ne zi_151_22 <| yBr (rfl) (yI_aload_n zi_151_25 rfl <| yI_iconst zi_151_26 <| yI_cv zi_151_27 rfl rfl zk_1 hK))
theorem zj_151_49 {K : List zF} {σ : zW} {o3 : Option zV} {x4 : Int} {x5 : Int} {x6 : Int} {o7 : Option zV} {o8 : Option zV} {o9 : Option zV} : zEv true ((151, 49, [some (.inr (.inr 1)), some (.inr (.inr 122)), some (.inr (.inr 123)), o3, some (.inl x4), some (.inl x5), some (.inl x6), o7, o8, o9], []) :: K) σ = (if (gI σ 123 0) ≤ x6 then (x4 = 0 ∨ x4 = 1) ∧ zRet true K (some (.inl x4)) σ else if x4 = 0 then (x4 = 0 ∨ x4 = 1) ∧ zRet true K (some (.inl x4)) σ else zEv true ((151, 71, [some (.inr (.inr 1)), some (.inr (.inr 122)), some (.inr (.inr 123)), o3, some (.inl x4), some (.inl x5), some (.inl x6), some (.inl 0), some (.inl 0), some (.inl 0)], []) :: K) σ) :=
  yI_iload zi_151_49 rfl <| yI_aload_n zi_151_51 rfl <| yI_iconst zi_151_52 <| yI_iaload (v := gI σ 123 0) zi_151_53 za_123 (by decide) rfl <| yI_ic_ge zi_151_54 <| yBr (yI_iload zi_151_247 rfl <| yI_zreturnc zi_151_249) (yI_iload zi_151_57 rfl <| yI_if_eq zi_151_59 <| yBr (yI_iload zi_151_247 rfl <| yI_zreturnc zi_151_249) (yI_iconst zi_151_62 <| yI_istore (l := [some (.inr (.inr 1)), some (.inr (.inr 122)), some (.inr (.inr 123)), o3, some (.inl x4), some (.inl x5), some (.inl x6), some (.inl 0), o8, o9]) zi_151_63 rfl rfl <| yI_iconst zi_151_65 <| yI_istore (l := [some (.inr (.inr 1)), some (.inr (.inr 122)), some (.inr (.inr 123)), o3, some (.inl x4), some (.inl x5), some (.inl x6), some (.inl 0), some (.inl 0), o9]) zi_151_66 rfl rfl <| yI_iconst zi_151_68 <| yI_istore (l := [some (.inr (.inr 1)), some (.inr (.inr 122)), some (.inr (.inr 123)), o3, some (.inl x4), some (.inl x5), some (.inl x6), some (.inl 0), some (.inl 0), some (.inl 0)]) zi_151_69 rfl rfl <| rfl))
theorem zr_151_30 {K : List zF} {σ : zW} {o3 : Option zV} {o4 : Option zV} {o5 : Option zV} {o6 : Option zV} {o7 : Option zV} {o8 : Option zV} {o9 : Option zV} {v : Int} : zRet true ((151, 30, [some (.inr (.inr 1)), some (.inr (.inr 122)), some (.inr (.inr 123)), o3, o4, o5, o6, o7, o8, o9], []) :: K) (some (.inl v)) σ = (if ¬ v = (gI σ 123 0) then zEv true ((151, 40, [some (.inr (.inr 1)), some (.inr (.inr 122)), some (.inr (.inr 123)), o3, o4, o5, o6, o7, o8, o9], []) :: K) σ else zEv true ((151, 49, [some (.inr (.inr 1)), some (.inr (.inr 122)), some (.inr (.inr 123)), (zcut 0 o3), some (.inl 1), some (.inl 0), some (.inl 0), o7, o8, o9], []) :: K) σ) :=
  yT_rt (yI_aload_n zi_151_30 rfl <| yI_iconst zi_151_31 <| yI_iaload (v := gI σ 123 0) zi_151_32 za_123 (by decide) rfl <| yI_ic_ne zi_151_33 <| yBr (rfl) (yI_iconst zi_151_36 <| yI_goto zi_151_37 <| yI_istore (l := [some (.inr (.inr 1)), some (.inr (.inr 122)), some (.inr (.inr 123)), (zcut 0 o3), some (.inl 1), o5, o6, o7, o8, o9]) zi_151_41 rfl rfl <| yI_iconst zi_151_43 <| yI_istore (l := [some (.inr (.inr 1)), some (.inr (.inr 122)), some (.inr (.inr 123)), (zcut 0 o3), some (.inl 1), some (.inl 0), o6, o7, o8, o9]) zi_151_44 rfl rfl <| yI_iconst zi_151_46 <| yI_istore (l := [some (.inr (.inr 1)), some (.inr (.inr 122)), some (.inr (.inr 123)), (zcut 0 o3), some (.inl 1), some (.inl 0), some (.inl 0), o7, o8, o9]) zi_151_47 rfl rfl <| rfl))
theorem zj_151_71 {K : List zF} {σ : zW} {o3 : Option zV} {o4 : Option zV} {x5 : Int} {x6 : Int} {x7 : Int} {x8 : Int} {x9 : Int} (hK : K.length < 60) : zEv true ((151, 71, [some (.inr (.inr 1)), some (.inr (.inr 122)), some (.inr (.inr 123)), o3, o4, some (.inl x5), some (.inl x6), some (.inl x7), some (.inl x8), some (.inl x9)], []) :: K) σ = (if (gI σ 123 0) ≤ x9 then zEv true (zent 110 [.inr (.inr 1), .inl 0, .inl x6] :: (151, 142, [some (.inr (.inr 1)), some (.inr (.inr 122)), some (.inr (.inr 123)), o3, o4, some (.inl x5), some (.inl x6), some (.inl x7), some (.inl x8), some (.inl x9)], []) :: K) σ else (0 ≤ x9 ∧ x9 < 40) ∧ zEv true (zent 147 [.inr (.inr 122), .inr (.inr 123), .inl x9] :: (151, 107, [some (.inr (.inr 1)), some (.inr (.inr 122)), some (.inr (.inr 123)), o3, o4, some (.inl x5), some (.inl x6), some (.inl (w32 (x7 + (if ¬ (gI σ 122 x9.toNat) = x6 then 0 else 1 : Int)))), some (.inl x8), some (.inl x9)], [.inl x8]) :: K) σ) :=
  yI_iload zi_151_71 rfl <| yI_aload_n zi_151_73 rfl <| yI_iconst zi_151_74 <| yI_iaload (v := gI σ 123 0) zi_151_75 za_123 (by decide) rfl <| yI_ic_ge zi_151_76 <| yBr (yI_aload_n zi_151_135 rfl <| yI_iconst zi_151_136 <| yI_iload zi_151_137 rfl <| yI_cv zi_151_139 rfl rfl zk_1 hK) (yI_iload zi_151_79 rfl <| yI_aload_n zi_151_81 rfl <| yI_iload zi_151_82 rfl <| yI_ialoadc (v := gI σ 122 x9.toNat) zi_151_84 za_122 rfl <| yI_iload zi_151_85 rfl <| yI_ic_ne zi_151_87 <| yMi0 (j := 95) (ls2 := [some (.inr (.inr 1)), some (.inr (.inr 122)), some (.inr (.inr 123)), o3, o4, some (.inl x5), some (.inl x6), some (.inl x7), some (.inl x8), some (.inl x9)]) (st2 := [.inl x7]) (x := 0) (y := 1) (σ2 := σ) (yI_iconst zi_151_94 <| rfl) (yI_iconst zi_151_90 <| yI_goto zi_151_91 <| rfl) <| yI_iadd zi_151_95 <| yI_istore (l := [some (.inr (.inr 1)), some (.inr (.inr 122)), some (.inr (.inr 123)), o3, o4, some (.inl x5), some (.inl x6), some (.inl (w32 (x7 + (if ¬ (gI σ 122 x9.toNat) = x6 then 0 else 1 : Int)))), some (.inl x8), some (.inl x9)]) zi_151_96 rfl rfl <| yI_iload zi_151_98 rfl <| yI_aload_n zi_151_100 rfl <| yI_aload_n zi_151_101 rfl <| yI_iload zi_151_102 rfl <| yI_cs zi_151_104 rfl rfl hK)
theorem zr_151_142 {K : List zF} {σ : zW} {o3 : Option zV} {o4 : Option zV} {x5 : Int} {x6 : Int} {x7 : Int} {x8 : Int} {o9 : Option zV} {v : Int} (hK : K.length < 60) : zRet true ((151, 142, [some (.inr (.inr 1)), some (.inr (.inr 122)), some (.inr (.inr 123)), o3, o4, some (.inl x5), some (.inl x6), some (.inl x7), some (.inl x8), o9], []) :: K) (some (.inl v)) σ = ((0 ≤ x6 ∧ x6 < 40) ∧ (if ¬ v = (gI σ 122 x6.toNat) then zEv true ((151, 223, [some (.inr (.inr 1)), some (.inr (.inr 122)), some (.inr (.inr 123)), o3, o4, some (.inl x5), some (.inl x6), some (.inl x7), some (.inl x8), o9], []) :: K) σ else zEv true (zent 111 [.inr (.inr 1), .inl 0, .inl x6] :: (151, 156, [some (.inr (.inr 1)), some (.inr (.inr 122)), some (.inr (.inr 123)), o3, o4, some (.inl x5), some (.inl x6), some (.inl x7), some (.inl x8), o9], []) :: K) σ)) :=
  yT_rt (yI_aload_n zi_151_142 rfl <| yI_iload zi_151_143 rfl <| yI_ialoadc (v := gI σ 122 x6.toNat) zi_151_145 za_122 rfl <| yI_ic_ne zi_151_146 <| yBr (rfl) (yI_aload_n zi_151_149 rfl <| yI_iconst zi_151_150 <| yI_iload zi_151_151 rfl <| yI_cv zi_151_153 rfl rfl zk_1 hK))
theorem zr_151_107 {K : List zF} {σ : zW} {o3 : Option zV} {o4 : Option zV} {x5 : Int} {x6 : Int} {x7 : Int} {o8 : Option zV} {x9 : Int} {s0 : Int} {v : Int} (hK : K.length < 60) : zRet true ((151, 107, [some (.inr (.inr 1)), some (.inr (.inr 122)), some (.inr (.inr 123)), o3, o4, some (.inl x5), some (.inl x6), some (.inl x7), o8, some (.inl x9)], [.inl s0]) :: K) (some (.inl v)) σ = (if ¬ v = 0 then zEv true ((151, 71, [some (.inr (.inr 1)), some (.inr (.inr 122)), some (.inr (.inr 123)), o3, o4, some (.inl x5), some (.inl x6), some (.inl x7), some (.inl (w32 (s0 + 0))), some (.inl (w32 (x9 + 1)))], []) :: K) σ else zEv true (zent 148 [.inr (.inr 122), .inl x9, .inl x6] :: (151, 118, [some (.inr (.inr 1)), some (.inr (.inr 122)), some (.inr (.inr 123)), o3, o4, some (.inl x5), some (.inl x6), some (.inl x7), o8, some (.inl x9)], [.inl s0]) :: K) σ) :=
  yT_rt (yI_if_ne zi_151_107 <| yBr (yI_iconst zi_151_125 <| yI_iadd zi_151_126 <| yI_istore (l := [some (.inr (.inr 1)), some (.inr (.inr 122)), some (.inr (.inr 123)), o3, o4, some (.inl x5), some (.inl x6), some (.inl x7), some (.inl (w32 (s0 + 0))), some (.inl x9)]) zi_151_127 rfl rfl <| yI_iinc (l := [some (.inr (.inr 1)), some (.inr (.inr 122)), some (.inr (.inr 123)), o3, o4, some (.inl x5), some (.inl x6), some (.inl x7), some (.inl (w32 (s0 + 0))), some (.inl (w32 (x9 + 1)))]) zi_151_129 rfl rfl rfl <| yI_goto zi_151_132 <| rfl) (yI_aload_n zi_151_110 rfl <| yI_iload zi_151_111 rfl <| yI_iload zi_151_113 rfl <| yI_cs zi_151_115 rfl rfl hK))
theorem zj_151_223 {K : List zF} {σ : zW} {o3 : Option zV} {o4 : Option zV} {x5 : Int} {x6 : Int} {x7 : Int} {o8 : Option zV} {o9 : Option zV} : zEv true ((151, 223, [some (.inr (.inr 1)), some (.inr (.inr 122)), some (.inr (.inr 123)), o3, o4, some (.inl x5), some (.inl x6), some (.inl x7), o8, o9], []) :: K) σ = (zEv true ((151, 49, [some (.inr (.inr 1)), some (.inr (.inr 122)), some (.inr (.inr 123)), (zcut 0 o3), some (.inl 0), some (.inl (w32 (x5 + (if ¬ x7 = 0 then 0 else 1 : Int)))), some (.inl (w32 (x6 + 1))), some (.inl x7), o8, o9], []) :: K) σ) :=
  yI_iconst zi_151_223 <| yI_istore (l := [some (.inr (.inr 1)), some (.inr (.inr 122)), some (.inr (.inr 123)), (zcut 0 o3), some (.inl 0), some (.inl x5), some (.inl x6), some (.inl x7), o8, o9]) zi_151_224 rfl rfl <| yI_iload zi_151_226 rfl <| yI_iload zi_151_228 rfl <| yI_if_ne zi_151_230 <| yMi0 (j := 238) (ls2 := [some (.inr (.inr 1)), some (.inr (.inr 122)), some (.inr (.inr 123)), (zcut 0 o3), some (.inl 0), some (.inl x5), some (.inl x6), some (.inl x7), o8, o9]) (st2 := [.inl x5]) (x := 0) (y := 1) (σ2 := σ) (yI_iconst zi_151_237 <| rfl) (yI_iconst zi_151_233 <| yI_goto zi_151_234 <| rfl) <| yI_iadd zi_151_238 <| yI_istore (l := [some (.inr (.inr 1)), some (.inr (.inr 122)), some (.inr (.inr 123)), (zcut 0 o3), some (.inl 0), some (.inl (w32 (x5 + (if ¬ x7 = 0 then 0 else 1 : Int)))), some (.inl x6), some (.inl x7), o8, o9]) zi_151_239 rfl rfl <| yI_iinc (l := [some (.inr (.inr 1)), some (.inr (.inr 122)), some (.inr (.inr 123)), (zcut 0 o3), some (.inl 0), some (.inl (w32 (x5 + (if ¬ x7 = 0 then 0 else 1 : Int)))), some (.inl (w32 (x6 + 1))), some (.inl x7), o8, o9]) zi_151_241 rfl rfl rfl <| yI_goto zi_151_244 <| rfl
theorem zr_151_156 {K : List zF} {σ : zW} {o3 : Option zV} {o4 : Option zV} {x5 : Int} {x6 : Int} {x7 : Int} {x8 : Int} {o9 : Option zV} {v : Int} (hK : K.length < 60) : zRet true ((151, 156, [some (.inr (.inr 1)), some (.inr (.inr 122)), some (.inr (.inr 123)), o3, o4, some (.inl x5), some (.inl x6), some (.inl x7), some (.inl x8), o9], []) :: K) (some (.inl v)) σ = (if ¬ v = x7 then zEv true ((151, 223, [some (.inr (.inr 1)), some (.inr (.inr 122)), some (.inr (.inr 123)), o3, o4, some (.inl x5), some (.inl x6), some (.inl x7), some (.inl x8), o9], []) :: K) σ else zEv true (zent 112 [.inr (.inr 1), .inl 0, .inl x6, .inl 0] :: (151, 169, [some (.inr (.inr 1)), some (.inr (.inr 122)), some (.inr (.inr 123)), o3, o4, some (.inl x5), some (.inl x6), some (.inl x7), some (.inl x8), o9], []) :: K) σ) :=
  yT_rt (yI_iload zi_151_156 rfl <| yI_ic_ne zi_151_158 <| yBr (rfl) (yI_aload_n zi_151_161 rfl <| yI_iconst zi_151_162 <| yI_iload zi_151_163 rfl <| yI_iconst zi_151_165 <| yI_cv zi_151_166 rfl rfl zk_1 hK))
theorem zr_151_118 {K : List zF} {σ : zW} {o3 : Option zV} {o4 : Option zV} {x5 : Int} {x6 : Int} {x7 : Int} {o8 : Option zV} {x9 : Int} {s0 : Int} {v : Int} : zRet true ((151, 118, [some (.inr (.inr 1)), some (.inr (.inr 122)), some (.inr (.inr 123)), o3, o4, some (.inl x5), some (.inl x6), some (.inl x7), o8, some (.inl x9)], [.inl s0]) :: K) (some (.inl v)) σ = (zEv true ((151, 71, [some (.inr (.inr 1)), some (.inr (.inr 122)), some (.inr (.inr 123)), o3, o4, some (.inl x5), some (.inl x6), some (.inl x7), some (.inl (w32 (s0 + (if v = 0 then 0 else 1 : Int)))), some (.inl (w32 (x9 + 1)))], []) :: K) σ) :=
  yT_rt (yI_if_eq zi_151_118 <| yMi0 (j := 126) (ls2 := [some (.inr (.inr 1)), some (.inr (.inr 122)), some (.inr (.inr 123)), o3, o4, some (.inl x5), some (.inl x6), some (.inl x7), o8, some (.inl x9)]) (st2 := [.inl s0]) (x := 0) (y := 1) (σ2 := σ) (yI_iconst zi_151_125 <| rfl) (yI_iconst zi_151_121 <| yI_goto zi_151_122 <| rfl) <| yI_iadd zi_151_126 <| yI_istore (l := [some (.inr (.inr 1)), some (.inr (.inr 122)), some (.inr (.inr 123)), o3, o4, some (.inl x5), some (.inl x6), some (.inl x7), some (.inl (w32 (s0 + (if v = 0 then 0 else 1 : Int)))), some (.inl x9)]) zi_151_127 rfl rfl <| yI_iinc (l := [some (.inr (.inr 1)), some (.inr (.inr 122)), some (.inr (.inr 123)), o3, o4, some (.inl x5), some (.inl x6), some (.inl x7), some (.inl (w32 (s0 + (if v = 0 then 0 else 1 : Int)))), some (.inl (w32 (x9 + 1)))]) zi_151_129 rfl rfl rfl <| yI_goto zi_151_132 <| rfl)
theorem zr_151_169 {K : List zF} {σ : zW} {o3 : Option zV} {o4 : Option zV} {x5 : Int} {x6 : Int} {x7 : Int} {x8 : Int} {o9 : Option zV} {v : Int} (hK : K.length < 60) : zRet true ((151, 169, [some (.inr (.inr 1)), some (.inr (.inr 122)), some (.inr (.inr 123)), o3, o4, some (.inl x5), some (.inl x6), some (.inl x7), some (.inl x8), o9], []) :: K) (some (.inl v)) σ = (if ¬ v = x5 then zEv true ((151, 223, [some (.inr (.inr 1)), some (.inr (.inr 122)), some (.inr (.inr 123)), o3, o4, some (.inl x5), some (.inl x6), some (.inl x7), some (.inl x8), o9], []) :: K) σ else zEv true (zent 112 [.inr (.inr 1), .inl 0, .inl x6, .inl 1] :: (151, 182, [some (.inr (.inr 1)), some (.inr (.inr 122)), some (.inr (.inr 123)), o3, o4, some (.inl x5), some (.inl x6), some (.inl x7), some (.inl x8), o9], []) :: K) σ) :=
  yT_rt (yI_iload zi_151_169 rfl <| yI_ic_ne zi_151_171 <| yBr (rfl) (yI_aload_n zi_151_174 rfl <| yI_iconst zi_151_175 <| yI_iload zi_151_176 rfl <| yI_iconst zi_151_178 <| yI_cv zi_151_179 rfl rfl zk_1 hK))
theorem zr_151_182 {K : List zF} {σ : zW} {o3 : Option zV} {o4 : Option zV} {x5 : Int} {x6 : Int} {x7 : Int} {x8 : Int} {o9 : Option zV} {v : Int} (hK : K.length < 60) : zRet true ((151, 182, [some (.inr (.inr 1)), some (.inr (.inr 122)), some (.inr (.inr 123)), o3, o4, some (.inl x5), some (.inl x6), some (.inl x7), some (.inl x8), o9], []) :: K) (some (.inl v)) σ = (if ¬ v = (w32 ((w32 (x5 + x8)) - 1)) then zEv true ((151, 223, [some (.inr (.inr 1)), some (.inr (.inr 122)), some (.inr (.inr 123)), o3, o4, some (.inl x5), some (.inl x6), some (.inl x7), some (.inl x8), o9], []) :: K) σ else zEv true (zent 123 [.inr (.inr 1), .inl 0, .inl x6] :: (151, 199, [some (.inr (.inr 1)), some (.inr (.inr 122)), some (.inr (.inr 123)), o3, o4, some (.inl x5), some (.inl x6), some (.inl x7), some (.inl x8), o9], []) :: K) σ) :=
  yT_rt (yI_iload zi_151_182 rfl <| yI_iload zi_151_184 rfl <| yI_iadd zi_151_186 <| yI_iconst zi_151_187 <| yI_isub zi_151_188 <| yI_ic_ne zi_151_189 <| yBr (rfl) (yI_aload_n zi_151_192 rfl <| yI_iconst zi_151_193 <| yI_iload zi_151_194 rfl <| yI_cv zi_151_196 rfl rfl zk_1 hK))
theorem zr_151_199 {K : List zF} {σ : zW} {o3 : Option zV} {o4 : Option zV} {x5 : Int} {x6 : Int} {x7 : Int} {o8 : Option zV} {o9 : Option zV} {v : Int} (hK : K.length < 60) : zRet true ((151, 199, [some (.inr (.inr 1)), some (.inr (.inr 122)), some (.inr (.inr 123)), o3, o4, some (.inl x5), some (.inl x6), some (.inl x7), o8, o9], []) :: K) (some (.inl v)) σ = (if ¬ v = 1 then zEv true ((151, 223, [some (.inr (.inr 1)), some (.inr (.inr 122)), some (.inr (.inr 123)), o3, o4, some (.inl x5), some (.inl x6), some (.inl x7), o8, o9], []) :: K) σ else zEv true (zent 145 [.inr (.inr 1), .inl x6] :: (151, 209, [some (.inr (.inr 1)), some (.inr (.inr 122)), some (.inr (.inr 123)), o3, o4, some (.inl x5), some (.inl x6), some (.inl x7), o8, o9], []) :: K) σ) :=
  yT_rt (yI_iconst zi_151_199 <| yI_ic_ne zi_151_200 <| yBr (rfl) (yI_aload_n zi_151_203 rfl <| yI_iload zi_151_204 rfl <| yI_cs zi_151_206 rfl rfl hK))
theorem zr_151_209 {K : List zF} {σ : zW} {o3 : Option zV} {o4 : Option zV} {x5 : Int} {x6 : Int} {x7 : Int} {o8 : Option zV} {o9 : Option zV} {v : Int} : zRet true ((151, 209, [some (.inr (.inr 1)), some (.inr (.inr 122)), some (.inr (.inr 123)), o3, o4, some (.inl x5), some (.inl x6), some (.inl x7), o8, o9], []) :: K) (some (.inl v)) σ = ((0 ≤ (w32 (20 + x6)) ∧ (w32 (20 + x6)) < 40) ∧ (if ¬ v = (gI σ 122 ((w32 (20 + x6)).toNat)) then zEv true ((151, 223, [some (.inr (.inr 1)), some (.inr (.inr 122)), some (.inr (.inr 123)), o3, o4, some (.inl x5), some (.inl x6), some (.inl x7), o8, o9], []) :: K) σ else zEv true ((151, 49, [some (.inr (.inr 1)), some (.inr (.inr 122)), some (.inr (.inr 123)), (zcut 0 o3), some (.inl 1), some (.inl (w32 (x5 + (if ¬ x7 = 0 then 0 else 1 : Int)))), some (.inl (w32 (x6 + 1))), some (.inl x7), o8, o9], []) :: K) σ)) :=
  yT_rt (yI_aload_n zi_151_209 rfl <| yI_bipush zi_151_210 <| yI_iload zi_151_212 rfl <| yI_iadd zi_151_214 <| yI_ialoadc (v := gI σ 122 ((w32 (20 + x6)).toNat)) zi_151_215 za_122 rfl <| yI_ic_ne zi_151_216 <| yBr (rfl) (yI_iconst zi_151_219 <| yI_goto zi_151_220 <| yI_istore (l := [some (.inr (.inr 1)), some (.inr (.inr 122)), some (.inr (.inr 123)), (zcut 0 o3), some (.inl 1), some (.inl x5), some (.inl x6), some (.inl x7), o8, o9]) zi_151_224 rfl rfl <| yI_iload zi_151_226 rfl <| yI_iload zi_151_228 rfl <| yI_if_ne zi_151_230 <| yMi0 (j := 238) (ls2 := [some (.inr (.inr 1)), some (.inr (.inr 122)), some (.inr (.inr 123)), (zcut 0 o3), some (.inl 1), some (.inl x5), some (.inl x6), some (.inl x7), o8, o9]) (st2 := [.inl x5]) (x := 0) (y := 1) (σ2 := σ) (yI_iconst zi_151_237 <| rfl) (yI_iconst zi_151_233 <| yI_goto zi_151_234 <| rfl) <| yI_iadd zi_151_238 <| yI_istore (l := [some (.inr (.inr 1)), some (.inr (.inr 122)), some (.inr (.inr 123)), (zcut 0 o3), some (.inl 1), some (.inl (w32 (x5 + (if ¬ x7 = 0 then 0 else 1 : Int)))), some (.inl x6), some (.inl x7), o8, o9]) zi_151_239 rfl rfl <| yI_iinc (l := [some (.inr (.inr 1)), some (.inr (.inr 122)), some (.inr (.inr 123)), (zcut 0 o3), some (.inl 1), some (.inl (w32 (x5 + (if ¬ x7 = 0 then 0 else 1 : Int)))), some (.inl (w32 (x6 + 1))), some (.inl x7), o8, o9]) zi_151_241 rfl rfl rfl <| yI_goto zi_151_244 <| rfl))
/-- 152 TreegrabLaw.areLabelled(LTreegrab;I)Z -/
theorem zi_152_0 : zraw 152 0 = some (.iconst 0, 1) ∧ zin 128 0 = true ∧ 0 + 1 = 1 := by decide +kernel
theorem zi_152_1 : zraw 152 1 = some (.istore_n 2, 1) ∧ 1 + 1 = 2 := by decide +kernel
theorem zi_152_2 : zraw 152 2 = some (.iconst 0, 1) ∧ zin 128 0 = true ∧ 2 + 1 = 3 := by decide +kernel
theorem zi_152_3 : zraw 152 3 = some (.istore_n 3, 1) ∧ 3 + 1 = 4 := by decide +kernel
theorem zi_152_4 : zraw 152 4 = some (.iload_n 3, 1) ∧ 4 + 1 = 5 := by decide +kernel
theorem zi_152_5 : zraw 152 5 = some (.aload_n 0, 1) ∧ 5 + 1 = 6 := by decide +kernel
theorem zi_152_6 : zraw 152 6 = some (.iconst 0, 1) ∧ zin 128 0 = true ∧ 6 + 1 = 7 := by decide +kernel
theorem zi_152_7 : zraw 152 7 = some (.invokevirtual 38, 3) ∧ zmt (zinf 152).1 38 = some 109 ∧ Nat.ble 9000 109 = false ∧ zinf 109 = (9, 2, 2, 1, 0) ∧ 7 + 3 = 10 := by decide +kernel
theorem zi_152_10 : zraw 152 10 = some (.if_icmp .ge 26, 3) ∧ ((10 : Nat) : Int) + 26 = Int.ofNat 36 ∧ 10 + 3 = 13 := by decide +kernel
theorem zi_152_13 : zraw 152 13 = some (.iload_n 2, 1) ∧ 13 + 1 = 14 := by decide +kernel
theorem zi_152_14 : zraw 152 14 = some (.aload_n 0, 1) ∧ 14 + 1 = 15 := by decide +kernel
theorem zi_152_15 : zraw 152 15 = some (.iload_n 3, 1) ∧ 15 + 1 = 16 := by decide +kernel
theorem zi_152_16 : zraw 152 16 = some (.invokestatic 122, 3) ∧ zmt (zinf 152).1 122 = some 145 ∧ Nat.ble 9000 145 = false ∧ zinf 145 = (11, 2, 3, 4, 1) ∧ 16 + 3 = 19 := by decide +kernel
theorem zi_152_19 : zraw 152 19 = some (.iload_n 1, 1) ∧ 19 + 1 = 20 := by decide +kernel
theorem zi_152_20 : zraw 152 20 = some (.if_icmp .ne 7, 3) ∧ ((20 : Nat) : Int) + 7 = Int.ofNat 27 ∧ 20 + 3 = 23 := by decide +kernel
theorem zi_152_23 : zraw 152 23 = some (.iconst 1, 1) ∧ zin 128 1 = true ∧ 23 + 1 = 24 := by decide +kernel
theorem zi_152_24 : zraw 152 24 = some (.goto 4, 3) ∧ ((24 : Nat) : Int) + 4 = Int.ofNat 28 := by decide +kernel
theorem zi_152_27 : zraw 152 27 = some (.iconst 0, 1) ∧ zin 128 0 = true ∧ 27 + 1 = 28 := by decide +kernel
theorem zi_152_28 : zraw 152 28 = some (.iadd, 1) ∧ 28 + 1 = 29 := by decide +kernel
theorem zi_152_29 : zraw 152 29 = some (.istore_n 2, 1) ∧ 29 + 1 = 30 := by decide +kernel
theorem zi_152_30 : zraw 152 30 = some (.iinc 3 1, 3) ∧ zin 32768 1 = true ∧ 30 + 3 = 33 := by decide +kernel
theorem zi_152_33 : zraw 152 33 = some (.goto (-29), 3) ∧ ((33 : Nat) : Int) + (-29) = Int.ofNat 4 := by decide +kernel
theorem zi_152_36 : zraw 152 36 = some (.aload_n 0, 1) ∧ 36 + 1 = 37 := by decide +kernel
theorem zi_152_37 : zraw 152 37 = some (.iload_n 1, 1) ∧ 37 + 1 = 38 := by decide +kernel
theorem zi_152_38 : zraw 152 38 = some (.invokestatic 114, 3) ∧ zmt (zinf 152).1 114 = some 142 ∧ Nat.ble 9000 142 = false ∧ zinf 142 = (11, 2, 2, 0, 1) ∧ 38 + 3 = 41 := by decide +kernel
theorem zi_152_41 : zraw 152 41 = some (.aload_n 0, 1) ∧ 41 + 1 = 42 := by decide +kernel
theorem zi_152_42 : zraw 152 42 = some (.iconst 0, 1) ∧ zin 128 0 = true ∧ 42 + 1 = 43 := by decide +kernel
theorem zi_152_43 : zraw 152 43 = some (.invokevirtual 52, 3) ∧ zmt (zinf 152).1 52 = some 113 ∧ Nat.ble 9000 113 = false ∧ zinf 113 = (9, 2, 4, 1, 0) ∧ 43 + 3 = 46 := by decide +kernel
theorem zi_152_46 : zraw 152 46 = some (.iload_n 2, 1) ∧ 46 + 1 = 47 := by decide +kernel
theorem zi_152_47 : zraw 152 47 = some (.if_icmp .ne 7, 3) ∧ ((47 : Nat) : Int) + 7 = Int.ofNat 54 ∧ 47 + 3 = 50 := by decide +kernel
theorem zi_152_50 : zraw 152 50 = some (.iconst 1, 1) ∧ zin 128 1 = true ∧ 50 + 1 = 51 := by decide +kernel
theorem zi_152_51 : zraw 152 51 = some (.goto 4, 3) ∧ ((51 : Nat) : Int) + 4 = Int.ofNat 55 := by decide +kernel
theorem zi_152_54 : zraw 152 54 = some (.iconst 0, 1) ∧ zin 128 0 = true ∧ 54 + 1 = 55 := by decide +kernel
theorem zi_152_55 : zraw 152 55 = some (.istore_n 3, 1) ∧ 55 + 1 = 56 := by decide +kernel
theorem zi_152_56 : zraw 152 56 = some (.aload_n 0, 1) ∧ 56 + 1 = 57 := by decide +kernel
theorem zi_152_57 : zraw 152 57 = some (.iload_n 1, 1) ∧ 57 + 1 = 58 := by decide +kernel
theorem zi_152_58 : zraw 152 58 = some (.invokestatic 114, 3) ∧ zmt (zinf 152).1 114 = some 142 ∧ Nat.ble 9000 142 = false ∧ zinf 142 = (11, 2, 2, 0, 1) ∧ 58 + 3 = 61 := by decide +kernel
theorem zi_152_61 : zraw 152 61 = some (.iload_n 3, 1) ∧ 61 + 1 = 62 := by decide +kernel
theorem zi_152_62 : zraw 152 62 = some (.ifCond .eq 24, 3) ∧ ((62 : Nat) : Int) + 24 = Int.ofNat 86 ∧ 62 + 3 = 65 := by decide +kernel
theorem zi_152_65 : zraw 152 65 = some (.aload_n 0, 1) ∧ 65 + 1 = 66 := by decide +kernel
theorem zi_152_66 : zraw 152 66 = some (.iconst 0, 1) ∧ zin 128 0 = true ∧ 66 + 1 = 67 := by decide +kernel
theorem zi_152_67 : zraw 152 67 = some (.invokevirtual 55, 3) ∧ zmt (zinf 152).1 55 = some 114 ∧ Nat.ble 9000 114 = false ∧ zinf 114 = (9, 2, 3, 1, 0) ∧ 67 + 3 = 70 := by decide +kernel
theorem zi_152_70 : zraw 152 70 = some (.iload_n 2, 1) ∧ 70 + 1 = 71 := by decide +kernel
theorem zi_152_71 : zraw 152 71 = some (.if_icmp .ne 15, 3) ∧ ((71 : Nat) : Int) + 15 = Int.ofNat 86 ∧ 71 + 3 = 74 := by decide +kernel
theorem zi_152_74 : zraw 152 74 = some (.aload_n 0, 1) ∧ 74 + 1 = 75 := by decide +kernel
theorem zi_152_75 : zraw 152 75 = some (.iconst 0, 1) ∧ zin 128 0 = true ∧ 75 + 1 = 76 := by decide +kernel
theorem zi_152_76 : zraw 152 76 = some (.invokevirtual 52, 3) ∧ zmt (zinf 152).1 52 = some 113 ∧ Nat.ble 9000 113 = false ∧ zinf 113 = (9, 2, 4, 1, 0) ∧ 76 + 3 = 79 := by decide +kernel
theorem zi_152_79 : zraw 152 79 = some (.ifCond .ne 7, 3) ∧ ((79 : Nat) : Int) + 7 = Int.ofNat 86 ∧ 79 + 3 = 82 := by decide +kernel
theorem zi_152_82 : zraw 152 82 = some (.iconst 1, 1) ∧ zin 128 1 = true ∧ 82 + 1 = 83 := by decide +kernel
theorem zi_152_83 : zraw 152 83 = some (.goto 4, 3) ∧ ((83 : Nat) : Int) + 4 = Int.ofNat 87 := by decide +kernel
theorem zi_152_86 : zraw 152 86 = some (.iconst 0, 1) ∧ zin 128 0 = true ∧ 86 + 1 = 87 := by decide +kernel
theorem zi_152_87 : zraw 152 87 = some (.ireturn, 1) ∧ (zinf 152).2.2.2.1 = 2 := by decide +kernel
theorem ze_152 {K : List zF} {σ : zW} {x1 : Int} : zEv true (zent 152 [.inr (.inr 1), .inl x1] :: K) σ = (zEv true ((152, 4, [some (.inr (.inr 1)), some (.inl x1), some (.inl 0), some (.inl 0)], []) :: K) σ) :=
  yT_en (f := (152, 0, [some (.inr (.inr 1)), some (.inl x1), none, none], [])) rfl (yI_iconst zi_152_0 <| yI_istore_n (l := [some (.inr (.inr 1)), some (.inl x1), some (.inl 0), none]) zi_152_1 rfl rfl <| yI_iconst zi_152_2 <| yI_istore_n (l := [some (.inr (.inr 1)), some (.inl x1), some (.inl 0), some (.inl 0)]) zi_152_3 rfl rfl <| rfl)
theorem zj_152_4 {K : List zF} {σ : zW} {x1 : Int} {x2 : Int} {x3 : Int} (hK : K.length < 60) : zEv true ((152, 4, [some (.inr (.inr 1)), some (.inl x1), some (.inl x2), some (.inl x3)], []) :: K) σ = (zEv true (zent 109 [.inr (.inr 1), .inl 0] :: (152, 10, [some (.inr (.inr 1)), some (.inl x1), some (.inl x2), some (.inl x3)], [.inl x3]) :: K) σ) :=
  yI_iload_n zi_152_4 rfl <| yI_aload_n zi_152_5 rfl <| yI_iconst zi_152_6 <| yI_cv zi_152_7 rfl rfl zk_1 hK
theorem zr_152_10 {K : List zF} {σ : zW} {x1 : Int} {x2 : Int} {x3 : Int} {s0 : Int} {v : Int} (hK : K.length < 60) : zRet true ((152, 10, [some (.inr (.inr 1)), some (.inl x1), some (.inl x2), some (.inl x3)], [.inl s0]) :: K) (some (.inl v)) σ = (if v ≤ s0 then zEv true (zent 142 [.inr (.inr 1), .inl x1] :: (152, 41, [some (.inr (.inr 1)), some (.inl x1), some (.inl x2), some (.inl x3)], []) :: K) σ else zEv true (zent 145 [.inr (.inr 1), .inl x3] :: (152, 19, [some (.inr (.inr 1)), some (.inl x1), some (.inl x2), some (.inl x3)], [.inl x2]) :: K) σ) :=
  yT_rt (yI_ic_ge zi_152_10 <| yBr (yI_aload_n zi_152_36 rfl <| yI_iload_n zi_152_37 rfl <| yI_cs zi_152_38 rfl rfl hK) (yI_iload_n zi_152_13 rfl <| yI_aload_n zi_152_14 rfl <| yI_iload_n zi_152_15 rfl <| yI_cs zi_152_16 rfl rfl hK))
theorem zr_152_41 {K : List zF} {σ : zW} {x1 : Int} {x2 : Int} {o3 : Option zV} (hK : K.length < 60) : zRet true ((152, 41, [some (.inr (.inr 1)), some (.inl x1), some (.inl x2), o3], []) :: K) none σ = (zEv true (zent 113 [.inr (.inr 1), .inl 0] :: (152, 46, [some (.inr (.inr 1)), some (.inl x1), some (.inl x2), o3], []) :: K) σ) :=
  yT_rv (yI_aload_n zi_152_41 rfl <| yI_iconst zi_152_42 <| yI_cv zi_152_43 rfl rfl zk_1 hK)
theorem zr_152_19 {K : List zF} {σ : zW} {x1 : Int} {o2 : Option zV} {x3 : Int} {s0 : Int} {v : Int} : zRet true ((152, 19, [some (.inr (.inr 1)), some (.inl x1), o2, some (.inl x3)], [.inl s0]) :: K) (some (.inl v)) σ = (zEv true ((152, 4, [some (.inr (.inr 1)), some (.inl x1), some (.inl (w32 (s0 + (if ¬ v = x1 then 0 else 1 : Int)))), some (.inl (w32 (x3 + 1)))], []) :: K) σ) :=
  yT_rt (yI_iload_n zi_152_19 rfl <| yI_ic_ne zi_152_20 <| yMi0 (j := 28) (ls2 := [some (.inr (.inr 1)), some (.inl x1), o2, some (.inl x3)]) (st2 := [.inl s0]) (x := 0) (y := 1) (σ2 := σ) (yI_iconst zi_152_27 <| rfl) (yI_iconst zi_152_23 <| yI_goto zi_152_24 <| rfl) <| yI_iadd zi_152_28 <| yI_istore_n (l := [some (.inr (.inr 1)), some (.inl x1), some (.inl (w32 (s0 + (if ¬ v = x1 then 0 else 1 : Int)))), some (.inl x3)]) zi_152_29 rfl rfl <| yI_iinc (l := [some (.inr (.inr 1)), some (.inl x1), some (.inl (w32 (s0 + (if ¬ v = x1 then 0 else 1 : Int)))), some (.inl (w32 (x3 + 1)))]) zi_152_30 rfl rfl rfl <| yI_goto zi_152_33 <| rfl)
theorem zr_152_46 {K : List zF} {σ : zW} {x1 : Int} {x2 : Int} {o3 : Option zV} {v : Int} (hK : K.length < 60) : zRet true ((152, 46, [some (.inr (.inr 1)), some (.inl x1), some (.inl x2), o3], []) :: K) (some (.inl v)) σ = (zEv true (zent 142 [.inr (.inr 1), .inl x1] :: (152, 61, [some (.inr (.inr 1)), some (.inl x1), some (.inl x2), some (.inl (if ¬ v = x2 then 0 else 1 : Int))], []) :: K) σ) :=
  yT_rt (yI_iload_n zi_152_46 rfl <| yI_ic_ne zi_152_47 <| yMi0 (j := 55) (ls2 := [some (.inr (.inr 1)), some (.inl x1), some (.inl x2), o3]) (st2 := []) (x := 0) (y := 1) (σ2 := σ) (yI_iconst zi_152_54 <| rfl) (yI_iconst zi_152_50 <| yI_goto zi_152_51 <| rfl) <| yI_istore_n (l := [some (.inr (.inr 1)), some (.inl x1), some (.inl x2), some (.inl (if ¬ v = x2 then 0 else 1 : Int))]) zi_152_55 rfl rfl <| yI_aload_n zi_152_56 rfl <| yI_iload_n zi_152_57 rfl <| yI_cs zi_152_58 rfl rfl hK)
theorem zr_152_61 {K : List zF} {σ : zW} {o1 : Option zV} {x2 : Int} {x3 : Int} (hK : K.length < 60) : zRet true ((152, 61, [some (.inr (.inr 1)), o1, some (.inl x2), some (.inl x3)], []) :: K) none σ = (if x3 = 0 then zEv true ((152, 86, [some (.inr (.inr 1)), o1, some (.inl x2), some (.inl x3)], []) :: K) σ else zEv true (zent 114 [.inr (.inr 1), .inl 0] :: (152, 70, [some (.inr (.inr 1)), o1, some (.inl x2), some (.inl x3)], []) :: K) σ) :=
  yT_rv (yI_iload_n zi_152_61 rfl <| yI_if_eq zi_152_62 <| yBr (rfl) (yI_aload_n zi_152_65 rfl <| yI_iconst zi_152_66 <| yI_cv zi_152_67 rfl rfl zk_1 hK))
theorem zj_152_86 {K : List zF} {σ : zW} {o0 : Option zV} {o1 : Option zV} {o2 : Option zV} {o3 : Option zV} : zEv true ((152, 86, [o0, o1, o2, o3], []) :: K) σ = (zRet true K (some (.inl 0)) σ) :=
  yI_iconst zi_152_86 <| yI_zreturn zi_152_87 (by decide)
theorem zr_152_70 {K : List zF} {σ : zW} {o1 : Option zV} {x2 : Int} {o3 : Option zV} {v : Int} (hK : K.length < 60) : zRet true ((152, 70, [some (.inr (.inr 1)), o1, some (.inl x2), o3], []) :: K) (some (.inl v)) σ = (if ¬ v = x2 then zEv true ((152, 86, [some (.inr (.inr 1)), o1, some (.inl x2), o3], []) :: K) σ else zEv true (zent 113 [.inr (.inr 1), .inl 0] :: (152, 79, [some (.inr (.inr 1)), o1, some (.inl x2), o3], []) :: K) σ) :=
  yT_rt (yI_iload_n zi_152_70 rfl <| yI_ic_ne zi_152_71 <| yBr (rfl) (yI_aload_n zi_152_74 rfl <| yI_iconst zi_152_75 <| yI_cv zi_152_76 rfl rfl zk_1 hK))
theorem zr_152_79 {K : List zF} {σ : zW} {o0 : Option zV} {o1 : Option zV} {o2 : Option zV} {o3 : Option zV} {v : Int} : zRet true ((152, 79, [o0, o1, o2, o3], []) :: K) (some (.inl v)) σ = (if ¬ v = 0 then zEv true ((152, 86, [o0, o1, o2, o3], []) :: K) σ else zRet true K (some (.inl 1)) σ) :=
  yT_rt (yI_if_ne zi_152_79 <| yBr (rfl) (yI_iconst zi_152_82 <| yI_goto zi_152_83 <| yI_zreturn zi_152_87 (by decide)))
/-- 153 TreegrabLaw.saysOperator(LTreegrab;I)V -/
theorem zi_153_0 : zraw 153 0 = some (.iload_n 1, 1) ∧ 0 + 1 = 1 := by decide +kernel
theorem zi_153_1 : zraw 153 1 = some (.iconst 2, 1) ∧ zin 128 2 = true ∧ 1 + 1 = 2 := by decide +kernel
theorem zi_153_2 : zraw 153 2 = some (.if_icmp .ge 8, 3) ∧ ((2 : Nat) : Int) + 8 = Int.ofNat 10 ∧ 2 + 3 = 5 := by decide +kernel
theorem zi_153_5 : zraw 153 5 = some (.bipush 60, 2) ∧ zin 128 60 = true ∧ 5 + 2 = 7 := by decide +kernel
theorem zi_153_7 : zraw 153 7 = some (.goto 37, 3) ∧ ((7 : Nat) : Int) + 37 = Int.ofNat 44 := by decide +kernel
theorem zi_153_10 : zraw 153 10 = some (.iload_n 1, 1) ∧ 10 + 1 = 11 := by decide +kernel
theorem zi_153_11 : zraw 153 11 = some (.iconst 4, 1) ∧ zin 128 4 = true ∧ 11 + 1 = 12 := by decide +kernel
theorem zi_153_12 : zraw 153 12 = some (.if_icmp .ge 8, 3) ∧ ((12 : Nat) : Int) + 8 = Int.ofNat 20 ∧ 12 + 3 = 15 := by decide +kernel
theorem zi_153_15 : zraw 153 15 = some (.bipush 62, 2) ∧ zin 128 62 = true ∧ 15 + 2 = 17 := by decide +kernel
theorem zi_153_17 : zraw 153 17 = some (.goto 27, 3) ∧ ((17 : Nat) : Int) + 27 = Int.ofNat 44 := by decide +kernel
theorem zi_153_20 : zraw 153 20 = some (.iload_n 1, 1) ∧ 20 + 1 = 21 := by decide +kernel
theorem zi_153_21 : zraw 153 21 = some (.bipush 6, 2) ∧ zin 128 6 = true ∧ 21 + 2 = 23 := by decide +kernel
theorem zi_153_23 : zraw 153 23 = some (.if_icmp .ge 8, 3) ∧ ((23 : Nat) : Int) + 8 = Int.ofNat 31 ∧ 23 + 3 = 26 := by decide +kernel
theorem zi_153_26 : zraw 153 26 = some (.bipush 46, 2) ∧ zin 128 46 = true ∧ 26 + 2 = 28 := by decide +kernel
theorem zi_153_28 : zraw 153 28 = some (.goto 16, 3) ∧ ((28 : Nat) : Int) + 16 = Int.ofNat 44 := by decide +kernel
theorem zi_153_31 : zraw 153 31 = some (.iload_n 1, 1) ∧ 31 + 1 = 32 := by decide +kernel
theorem zi_153_32 : zraw 153 32 = some (.bipush 8, 2) ∧ zin 128 8 = true ∧ 32 + 2 = 34 := by decide +kernel
theorem zi_153_34 : zraw 153 34 = some (.if_icmp .ge 8, 3) ∧ ((34 : Nat) : Int) + 8 = Int.ofNat 42 ∧ 34 + 3 = 37 := by decide +kernel
theorem zi_153_37 : zraw 153 37 = some (.bipush 44, 2) ∧ zin 128 44 = true ∧ 37 + 2 = 39 := by decide +kernel
theorem zi_153_39 : zraw 153 39 = some (.goto 5, 3) ∧ ((39 : Nat) : Int) + 5 = Int.ofNat 44 := by decide +kernel
theorem zi_153_42 : zraw 153 42 = some (.bipush 36, 2) ∧ zin 128 36 = true ∧ 42 + 2 = 44 := by decide +kernel
theorem zi_153_44 : zraw 153 44 = some (.istore_n 2, 1) ∧ 44 + 1 = 45 := by decide +kernel
theorem zi_153_45 : zraw 153 45 = some (.aload_n 0, 1) ∧ 45 + 1 = 46 := by decide +kernel
theorem zi_153_46 : zraw 153 46 = some (.iload_n 2, 1) ∧ 46 + 1 = 47 := by decide +kernel
theorem zi_153_47 : zraw 153 47 = some (.invokestatic 114, 3) ∧ zmt (zinf 153).1 114 = some 142 ∧ Nat.ble 9000 142 = false ∧ zinf 142 = (11, 2, 2, 0, 1) ∧ 47 + 3 = 50 := by decide +kernel
theorem zi_153_50 : zraw 153 50 = some (.iload_n 1, 1) ∧ 50 + 1 = 51 := by decide +kernel
theorem zi_153_51 : zraw 153 51 = some (.bipush 8, 2) ∧ zin 128 8 = true ∧ 51 + 2 = 53 := by decide +kernel
theorem zi_153_53 : zraw 153 53 = some (.if_icmp .ge 18, 3) ∧ ((53 : Nat) : Int) + 18 = Int.ofNat 71 ∧ 53 + 3 = 56 := by decide +kernel
theorem zi_153_56 : zraw 153 56 = some (.iload_n 1, 1) ∧ 56 + 1 = 57 := by decide +kernel
theorem zi_153_57 : zraw 153 57 = some (.iconst 2, 1) ∧ zin 128 2 = true ∧ 57 + 1 = 58 := by decide +kernel
theorem zi_153_58 : zraw 153 58 = some (.irem, 1) ∧ 58 + 1 = 59 := by decide +kernel
theorem zi_153_59 : zraw 153 59 = some (.iconst 1, 1) ∧ zin 128 1 = true ∧ 59 + 1 = 60 := by decide +kernel
theorem zi_153_60 : zraw 153 60 = some (.if_icmp .ne 11, 3) ∧ ((60 : Nat) : Int) + 11 = Int.ofNat 71 ∧ 60 + 3 = 63 := by decide +kernel
theorem zi_153_63 : zraw 153 63 = some (.aload_n 0, 1) ∧ 63 + 1 = 64 := by decide +kernel
theorem zi_153_64 : zraw 153 64 = some (.iload_n 2, 1) ∧ 64 + 1 = 65 := by decide +kernel
theorem zi_153_65 : zraw 153 65 = some (.invokestatic 114, 3) ∧ zmt (zinf 153).1 114 = some 142 ∧ Nat.ble 9000 142 = false ∧ zinf 142 = (11, 2, 2, 0, 1) ∧ 65 + 3 = 68 := by decide +kernel
theorem zi_153_68 : zraw 153 68 = some (.goto 49, 3) ∧ ((68 : Nat) : Int) + 49 = Int.ofNat 117 := by decide +kernel
theorem zi_153_71 : zraw 153 71 = some (.iload_n 1, 1) ∧ 71 + 1 = 72 := by decide +kernel
theorem zi_153_72 : zraw 153 72 = some (.bipush 8, 2) ∧ zin 128 8 = true ∧ 72 + 2 = 74 := by decide +kernel
theorem zi_153_74 : zraw 153 74 = some (.if_icmp .le 43, 3) ∧ ((74 : Nat) : Int) + 43 = Int.ofNat 117 ∧ 74 + 3 = 77 := by decide +kernel
theorem zi_153_77 : zraw 153 77 = some (.aload_n 0, 1) ∧ 77 + 1 = 78 := by decide +kernel
theorem zi_153_78 : zraw 153 78 = some (.iload_n 1, 1) ∧ 78 + 1 = 79 := by decide +kernel
theorem zi_153_79 : zraw 153 79 = some (.bipush 11, 2) ∧ zin 128 11 = true ∧ 79 + 2 = 81 := by decide +kernel
theorem zi_153_81 : zraw 153 81 = some (.if_icmp .ge 8, 3) ∧ ((81 : Nat) : Int) + 8 = Int.ofNat 89 ∧ 81 + 3 = 84 := by decide +kernel
theorem zi_153_84 : zraw 153 84 = some (.bipush 46, 2) ∧ zin 128 46 = true ∧ 84 + 2 = 86 := by decide +kernel
theorem zi_153_86 : zraw 153 86 = some (.goto 5, 3) ∧ ((86 : Nat) : Int) + 5 = Int.ofNat 91 := by decide +kernel
theorem zi_153_89 : zraw 153 89 = some (.bipush 44, 2) ∧ zin 128 44 = true ∧ 89 + 2 = 91 := by decide +kernel
theorem zi_153_91 : zraw 153 91 = some (.invokestatic 114, 3) ∧ zmt (zinf 153).1 114 = some 142 ∧ Nat.ble 9000 142 = false ∧ zinf 142 = (11, 2, 2, 0, 1) ∧ 91 + 3 = 94 := by decide +kernel
theorem zi_153_94 : zraw 153 94 = some (.iload_n 1, 1) ∧ 94 + 1 = 95 := by decide +kernel
theorem zi_153_95 : zraw 153 95 = some (.iconst 2, 1) ∧ zin 128 2 = true ∧ 95 + 1 = 96 := by decide +kernel
theorem zi_153_96 : zraw 153 96 = some (.irem, 1) ∧ 96 + 1 = 97 := by decide +kernel
theorem zi_153_97 : zraw 153 97 = some (.ifCond .ne 20, 3) ∧ ((97 : Nat) : Int) + 20 = Int.ofNat 117 ∧ 97 + 3 = 100 := by decide +kernel
theorem zi_153_100 : zraw 153 100 = some (.aload_n 0, 1) ∧ 100 + 1 = 101 := by decide +kernel
theorem zi_153_101 : zraw 153 101 = some (.iload_n 1, 1) ∧ 101 + 1 = 102 := by decide +kernel
theorem zi_153_102 : zraw 153 102 = some (.bipush 11, 2) ∧ zin 128 11 = true ∧ 102 + 2 = 104 := by decide +kernel
theorem zi_153_104 : zraw 153 104 = some (.if_icmp .ge 8, 3) ∧ ((104 : Nat) : Int) + 8 = Int.ofNat 112 ∧ 104 + 3 = 107 := by decide +kernel
theorem zi_153_107 : zraw 153 107 = some (.bipush 46, 2) ∧ zin 128 46 = true ∧ 107 + 2 = 109 := by decide +kernel
theorem zi_153_109 : zraw 153 109 = some (.goto 5, 3) ∧ ((109 : Nat) : Int) + 5 = Int.ofNat 114 := by decide +kernel
theorem zi_153_112 : zraw 153 112 = some (.bipush 44, 2) ∧ zin 128 44 = true ∧ 112 + 2 = 114 := by decide +kernel
theorem zi_153_114 : zraw 153 114 = some (.invokestatic 114, 3) ∧ zmt (zinf 153).1 114 = some 142 ∧ Nat.ble 9000 142 = false ∧ zinf 142 = (11, 2, 2, 0, 1) ∧ 114 + 3 = 117 := by decide +kernel
theorem zi_153_117 : zraw 153 117 = some (.return_, 1) ∧ (zinf 153).2.2.2.1 = 0 := by decide +kernel
theorem ze_153 {K : List zF} {σ : zW} {x1 : Int} (hK : K.length < 60) : zEv true (zent 153 [.inr (.inr 1), .inl x1] :: K) σ = (zEv true (zent 142 [.inr (.inr 1), .inl (if 2 ≤ x1 then (if 4 ≤ x1 then (if 6 ≤ x1 then (if 8 ≤ x1 then 36 else 44 : Int) else 46 : Int) else 62 : Int) else 60 : Int)] :: (153, 50, [some (.inr (.inr 1)), some (.inl x1), some (.inl (if 2 ≤ x1 then (if 4 ≤ x1 then (if 6 ≤ x1 then (if 8 ≤ x1 then 36 else 44 : Int) else 46 : Int) else 62 : Int) else 60 : Int))], []) :: K) σ) :=
  yT_en (f := (153, 0, [some (.inr (.inr 1)), some (.inl x1), none], [])) rfl (yI_iload_n zi_153_0 rfl <| yI_iconst zi_153_1 <| yI_ic_ge zi_153_2 <| yMi0 (j := 44) (ls2 := [some (.inr (.inr 1)), some (.inl x1), none]) (st2 := []) (x := (if 4 ≤ x1 then (if 6 ≤ x1 then (if 8 ≤ x1 then 36 else 44 : Int) else 46 : Int) else 62 : Int)) (y := 60) (σ2 := σ) (yI_iload_n zi_153_10 rfl <| yI_iconst zi_153_11 <| yI_ic_ge zi_153_12 <| yMi0 (j := 44) (ls2 := [some (.inr (.inr 1)), some (.inl x1), none]) (st2 := []) (x := (if 6 ≤ x1 then (if 8 ≤ x1 then 36 else 44 : Int) else 46 : Int)) (y := 62) (σ2 := σ) (yI_iload_n zi_153_20 rfl <| yI_bipush zi_153_21 <| yI_ic_ge zi_153_23 <| yMi0 (j := 44) (ls2 := [some (.inr (.inr 1)), some (.inl x1), none]) (st2 := []) (x := (if 8 ≤ x1 then 36 else 44 : Int)) (y := 46) (σ2 := σ) (yI_iload_n zi_153_31 rfl <| yI_bipush zi_153_32 <| yI_ic_ge zi_153_34 <| yMi0 (j := 44) (ls2 := [some (.inr (.inr 1)), some (.inl x1), none]) (st2 := []) (x := 36) (y := 44) (σ2 := σ) (yI_bipush zi_153_42 <| rfl) (yI_bipush zi_153_37 <| yI_goto zi_153_39 <| rfl) <| rfl) (yI_bipush zi_153_26 <| yI_goto zi_153_28 <| rfl) <| rfl) (yI_bipush zi_153_15 <| yI_goto zi_153_17 <| rfl) <| rfl) (yI_bipush zi_153_5 <| yI_goto zi_153_7 <| rfl) <| yI_istore_n (l := [some (.inr (.inr 1)), some (.inl x1), some (.inl (if 2 ≤ x1 then (if 4 ≤ x1 then (if 6 ≤ x1 then (if 8 ≤ x1 then 36 else 44 : Int) else 46 : Int) else 62 : Int) else 60 : Int))]) zi_153_44 rfl rfl <| yI_aload_n zi_153_45 rfl <| yI_iload_n zi_153_46 rfl <| yI_cs zi_153_47 rfl rfl hK)
theorem zr_153_50 {K : List zF} {σ : zW} {x1 : Int} {x2 : Int} (hK : K.length < 60) : zRet true ((153, 50, [some (.inr (.inr 1)), some (.inl x1), some (.inl x2)], []) :: K) none σ = (if 8 ≤ x1 then zEv true ((153, 71, [some (.inr (.inr 1)), some (.inl x1), some (.inl x2)], []) :: K) σ else if ¬ (zrem x1 2) = 1 then zEv true ((153, 71, [some (.inr (.inr 1)), some (.inl x1), some (.inl x2)], []) :: K) σ else zEv true (zent 142 [.inr (.inr 1), .inl x2] :: (153, 68, [some (.inr (.inr 1)), some (.inl x1), some (.inl x2)], []) :: K) σ) :=
  yT_rv (yI_iload_n zi_153_50 rfl <| yI_bipush zi_153_51 <| yI_ic_ge zi_153_53 <| yBr (rfl) (yI_iload_n zi_153_56 rfl <| yI_iconst zi_153_57 <| yI_irem zi_153_58 (by decide) <| yI_iconst zi_153_59 <| yI_ic_ne zi_153_60 <| yBr (rfl) (yI_aload_n zi_153_63 rfl <| yI_iload_n zi_153_64 rfl <| yI_cs zi_153_65 rfl rfl hK)))
theorem zj_153_71 {K : List zF} {σ : zW} {x1 : Int} {o2 : Option zV} (hK : K.length < 60) : zEv true ((153, 71, [some (.inr (.inr 1)), some (.inl x1), o2], []) :: K) σ = (if x1 ≤ 8 then zRet true K none σ else zEv true (zent 142 [.inr (.inr 1), .inl (if 11 ≤ x1 then 44 else 46 : Int)] :: (153, 94, [some (.inr (.inr 1)), some (.inl x1), o2], []) :: K) σ) :=
  yI_iload_n zi_153_71 rfl <| yI_bipush zi_153_72 <| yI_ic_le zi_153_74 <| yBr (yI_ret zi_153_117) (yI_aload_n zi_153_77 rfl <| yI_iload_n zi_153_78 rfl <| yI_bipush zi_153_79 <| yI_ic_ge zi_153_81 <| yMi0 (j := 91) (ls2 := [some (.inr (.inr 1)), some (.inl x1), o2]) (st2 := [.inr (.inr 1)]) (x := 44) (y := 46) (σ2 := σ) (yI_bipush zi_153_89 <| rfl) (yI_bipush zi_153_84 <| yI_goto zi_153_86 <| rfl) <| yI_cs zi_153_91 rfl rfl hK)
theorem zr_153_68 {K : List zF} {σ : zW} {o0 : Option zV} {o1 : Option zV} {o2 : Option zV} : zRet true ((153, 68, [o0, o1, o2], []) :: K) none σ = (zRet true K none σ) :=
  yT_rv (yI_goto zi_153_68 <| yI_ret zi_153_117)
theorem zr_153_94 {K : List zF} {σ : zW} {x1 : Int} {o2 : Option zV} (hK : K.length < 60) : zRet true ((153, 94, [some (.inr (.inr 1)), some (.inl x1), o2], []) :: K) none σ = (if ¬ (zrem x1 2) = 0 then zRet true K none σ else zEv true (zent 142 [.inr (.inr 1), .inl (if 11 ≤ x1 then 44 else 46 : Int)] :: (153, 117, [some (.inr (.inr 1)), some (.inl x1), o2], []) :: K) σ) :=
  yT_rv (yI_iload_n zi_153_94 rfl <| yI_iconst zi_153_95 <| yI_irem zi_153_96 (by decide) <| yI_if_ne zi_153_97 <| yBr (yI_ret zi_153_117) (yI_aload_n zi_153_100 rfl <| yI_iload_n zi_153_101 rfl <| yI_bipush zi_153_102 <| yI_ic_ge zi_153_104 <| yMi0 (j := 114) (ls2 := [some (.inr (.inr 1)), some (.inl x1), o2]) (st2 := [.inr (.inr 1)]) (x := 44) (y := 46) (σ2 := σ) (yI_bipush zi_153_112 <| rfl) (yI_bipush zi_153_107 <| yI_goto zi_153_109 <| rfl) <| yI_cs zi_153_114 rfl rfl hK))
theorem zr_153_117 {K : List zF} {σ : zW} {o0 : Option zV} {o1 : Option zV} {o2 : Option zV} : zRet true ((153, 117, [o0, o1, o2], []) :: K) none σ = (zRet true K none σ) :=
  yT_rv (yI_ret zi_153_117)
/-- 154 TreegrabLaw.rank(LTreegrab;I)I -/
theorem zi_154_0 : zraw 154 0 = some (.iconst 0, 1) ∧ zin 128 0 = true ∧ 0 + 1 = 1 := by decide +kernel
theorem zi_154_1 : zraw 154 1 = some (.istore_n 2, 1) ∧ 1 + 1 = 2 := by decide +kernel
theorem zi_154_2 : zraw 154 2 = some (.iconst 0, 1) ∧ zin 128 0 = true ∧ 2 + 1 = 3 := by decide +kernel
theorem zi_154_3 : zraw 154 3 = some (.istore_n 3, 1) ∧ 3 + 1 = 4 := by decide +kernel
theorem zi_154_4 : zraw 154 4 = some (.iload_n 3, 1) ∧ 4 + 1 = 5 := by decide +kernel
theorem zi_154_5 : zraw 154 5 = some (.iload_n 1, 1) ∧ 5 + 1 = 6 := by decide +kernel
theorem zi_154_6 : zraw 154 6 = some (.if_icmp .ge 32, 3) ∧ ((6 : Nat) : Int) + 32 = Int.ofNat 38 ∧ 6 + 3 = 9 := by decide +kernel
theorem zi_154_9 : zraw 154 9 = some (.iload_n 2, 1) ∧ 9 + 1 = 10 := by decide +kernel
theorem zi_154_10 : zraw 154 10 = some (.aload_n 0, 1) ∧ 10 + 1 = 11 := by decide +kernel
theorem zi_154_11 : zraw 154 11 = some (.iconst 0, 1) ∧ zin 128 0 = true ∧ 11 + 1 = 12 := by decide +kernel
theorem zi_154_12 : zraw 154 12 = some (.iload_n 3, 1) ∧ 12 + 1 = 13 := by decide +kernel
theorem zi_154_13 : zraw 154 13 = some (.invokevirtual 41, 3) ∧ zmt (zinf 154).1 41 = some 110 ∧ Nat.ble 9000 110 = false ∧ zinf 110 = (9, 3, 3, 1, 0) ∧ 13 + 3 = 16 := by decide +kernel
theorem zi_154_16 : zraw 154 16 = some (.aload_n 0, 1) ∧ 16 + 1 = 17 := by decide +kernel
theorem zi_154_17 : zraw 154 17 = some (.iconst 0, 1) ∧ zin 128 0 = true ∧ 17 + 1 = 18 := by decide +kernel
theorem zi_154_18 : zraw 154 18 = some (.iload_n 1, 1) ∧ 18 + 1 = 19 := by decide +kernel
theorem zi_154_19 : zraw 154 19 = some (.invokevirtual 41, 3) ∧ zmt (zinf 154).1 41 = some 110 ∧ Nat.ble 9000 110 = false ∧ zinf 110 = (9, 3, 3, 1, 0) ∧ 19 + 3 = 22 := by decide +kernel
theorem zi_154_22 : zraw 154 22 = some (.if_icmp .ne 7, 3) ∧ ((22 : Nat) : Int) + 7 = Int.ofNat 29 ∧ 22 + 3 = 25 := by decide +kernel
theorem zi_154_25 : zraw 154 25 = some (.iconst 1, 1) ∧ zin 128 1 = true ∧ 25 + 1 = 26 := by decide +kernel
theorem zi_154_26 : zraw 154 26 = some (.goto 4, 3) ∧ ((26 : Nat) : Int) + 4 = Int.ofNat 30 := by decide +kernel
theorem zi_154_29 : zraw 154 29 = some (.iconst 0, 1) ∧ zin 128 0 = true ∧ 29 + 1 = 30 := by decide +kernel
theorem zi_154_30 : zraw 154 30 = some (.iadd, 1) ∧ 30 + 1 = 31 := by decide +kernel
theorem zi_154_31 : zraw 154 31 = some (.istore_n 2, 1) ∧ 31 + 1 = 32 := by decide +kernel
theorem zi_154_32 : zraw 154 32 = some (.iinc 3 1, 3) ∧ zin 32768 1 = true ∧ 32 + 3 = 35 := by decide +kernel
theorem zi_154_35 : zraw 154 35 = some (.goto (-31), 3) ∧ ((35 : Nat) : Int) + (-31) = Int.ofNat 4 := by decide +kernel
theorem zi_154_38 : zraw 154 38 = some (.iload_n 2, 1) ∧ 38 + 1 = 39 := by decide +kernel
theorem zi_154_39 : zraw 154 39 = some (.ireturn, 1) ∧ (zinf 154).2.2.2.1 = 1 := by decide +kernel
theorem ze_154 {K : List zF} {σ : zW} {x1 : Int} : zEv true (zent 154 [.inr (.inr 1), .inl x1] :: K) σ = (zEv true ((154, 4, [some (.inr (.inr 1)), some (.inl x1), some (.inl 0), some (.inl 0)], []) :: K) σ) :=
  yT_en (f := (154, 0, [some (.inr (.inr 1)), some (.inl x1), none, none], [])) rfl (yI_iconst zi_154_0 <| yI_istore_n (l := [some (.inr (.inr 1)), some (.inl x1), some (.inl 0), none]) zi_154_1 rfl rfl <| yI_iconst zi_154_2 <| yI_istore_n (l := [some (.inr (.inr 1)), some (.inl x1), some (.inl 0), some (.inl 0)]) zi_154_3 rfl rfl <| rfl)
theorem zj_154_4 {K : List zF} {σ : zW} {x1 : Int} {x2 : Int} {x3 : Int} (hK : K.length < 60) : zEv true ((154, 4, [some (.inr (.inr 1)), some (.inl x1), some (.inl x2), some (.inl x3)], []) :: K) σ = (if x1 ≤ x3 then zRet true K (some (.inl x2)) σ else zEv true (zent 110 [.inr (.inr 1), .inl 0, .inl x3] :: (154, 16, [some (.inr (.inr 1)), some (.inl x1), some (.inl x2), some (.inl x3)], [.inl x2]) :: K) σ) :=
  yI_iload_n zi_154_4 rfl <| yI_iload_n zi_154_5 rfl <| yI_ic_ge zi_154_6 <| yBr (yI_iload_n zi_154_38 rfl <| yI_ireturn zi_154_39) (yI_iload_n zi_154_9 rfl <| yI_aload_n zi_154_10 rfl <| yI_iconst zi_154_11 <| yI_iload_n zi_154_12 rfl <| yI_cv zi_154_13 rfl rfl zk_1 hK)
theorem zr_154_16 {K : List zF} {σ : zW} {x1 : Int} {o2 : Option zV} {x3 : Int} {s0 : Int} {v : Int} (hK : K.length < 60) : zRet true ((154, 16, [some (.inr (.inr 1)), some (.inl x1), o2, some (.inl x3)], [.inl s0]) :: K) (some (.inl v)) σ = (zEv true (zent 110 [.inr (.inr 1), .inl 0, .inl x1] :: (154, 22, [some (.inr (.inr 1)), some (.inl x1), o2, some (.inl x3)], [.inl v, .inl s0]) :: K) σ) :=
  yT_rt (yI_aload_n zi_154_16 rfl <| yI_iconst zi_154_17 <| yI_iload_n zi_154_18 rfl <| yI_cv zi_154_19 rfl rfl zk_1 hK)
theorem zr_154_22 {K : List zF} {σ : zW} {x1 : Int} {o2 : Option zV} {x3 : Int} {s0 : Int} {s1 : Int} {v : Int} : zRet true ((154, 22, [some (.inr (.inr 1)), some (.inl x1), o2, some (.inl x3)], [.inl s0, .inl s1]) :: K) (some (.inl v)) σ = (zEv true ((154, 4, [some (.inr (.inr 1)), some (.inl x1), some (.inl (w32 (s1 + (if ¬ s0 = v then 0 else 1 : Int)))), some (.inl (w32 (x3 + 1)))], []) :: K) σ) :=
  yT_rt (yI_ic_ne zi_154_22 <| yMi0 (j := 30) (ls2 := [some (.inr (.inr 1)), some (.inl x1), o2, some (.inl x3)]) (st2 := [.inl s1]) (x := 0) (y := 1) (σ2 := σ) (yI_iconst zi_154_29 <| rfl) (yI_iconst zi_154_25 <| yI_goto zi_154_26 <| rfl) <| yI_iadd zi_154_30 <| yI_istore_n (l := [some (.inr (.inr 1)), some (.inl x1), some (.inl (w32 (s1 + (if ¬ s0 = v then 0 else 1 : Int)))), some (.inl x3)]) zi_154_31 rfl rfl <| yI_iinc (l := [some (.inr (.inr 1)), some (.inl x1), some (.inl (w32 (s1 + (if ¬ s0 = v then 0 else 1 : Int)))), some (.inl (w32 (x3 + 1)))]) zi_154_32 rfl rfl rfl <| yI_goto zi_154_35 <| rfl)
/-- 155 TreegrabLaw.holds(LTreegrab;III)Z -/
theorem zi_155_0 : zraw 155 0 = some (.iload_n 1, 1) ∧ 0 + 1 = 1 := by decide +kernel
theorem zi_155_1 : zraw 155 1 = some (.iconst 4, 1) ∧ zin 128 4 = true ∧ 1 + 1 = 2 := by decide +kernel
theorem zi_155_2 : zraw 155 2 = some (.if_icmp .ge 62, 3) ∧ ((2 : Nat) : Int) + 62 = Int.ofNat 64 ∧ 2 + 3 = 5 := by decide +kernel
theorem zi_155_5 : zraw 155 5 = some (.iload_n 1, 1) ∧ 5 + 1 = 6 := by decide +kernel
theorem zi_155_6 : zraw 155 6 = some (.iconst 2, 1) ∧ zin 128 2 = true ∧ 6 + 1 = 7 := by decide +kernel
theorem zi_155_7 : zraw 155 7 = some (.if_icmp .ge 7, 3) ∧ ((7 : Nat) : Int) + 7 = Int.ofNat 14 ∧ 7 + 3 = 10 := by decide +kernel
theorem zi_155_10 : zraw 155 10 = some (.iload_n 2, 1) ∧ 10 + 1 = 11 := by decide +kernel
theorem zi_155_11 : zraw 155 11 = some (.goto 4, 3) ∧ ((11 : Nat) : Int) + 4 = Int.ofNat 15 := by decide +kernel
theorem zi_155_14 : zraw 155 14 = some (.iload_n 3, 1) ∧ 14 + 1 = 15 := by decide +kernel
theorem zi_155_15 : zraw 155 15 = some (.istore 4, 2) ∧ 15 + 2 = 17 := by decide +kernel
theorem zi_155_17 : zraw 155 17 = some (.iload_n 1, 1) ∧ 17 + 1 = 18 := by decide +kernel
theorem zi_155_18 : zraw 155 18 = some (.iconst 2, 1) ∧ zin 128 2 = true ∧ 18 + 1 = 19 := by decide +kernel
theorem zi_155_19 : zraw 155 19 = some (.if_icmp .ge 7, 3) ∧ ((19 : Nat) : Int) + 7 = Int.ofNat 26 ∧ 19 + 3 = 22 := by decide +kernel
theorem zi_155_22 : zraw 155 22 = some (.iload_n 3, 1) ∧ 22 + 1 = 23 := by decide +kernel
theorem zi_155_23 : zraw 155 23 = some (.goto 4, 3) ∧ ((23 : Nat) : Int) + 4 = Int.ofNat 27 := by decide +kernel
theorem zi_155_26 : zraw 155 26 = some (.iload_n 2, 1) ∧ 26 + 1 = 27 := by decide +kernel
theorem zi_155_27 : zraw 155 27 = some (.istore 5, 2) ∧ 27 + 2 = 29 := by decide +kernel
theorem zi_155_29 : zraw 155 29 = some (.iload_n 1, 1) ∧ 29 + 1 = 30 := by decide +kernel
theorem zi_155_30 : zraw 155 30 = some (.iconst 2, 1) ∧ zin 128 2 = true ∧ 30 + 1 = 31 := by decide +kernel
theorem zi_155_31 : zraw 155 31 = some (.irem, 1) ∧ 31 + 1 = 32 := by decide +kernel
theorem zi_155_32 : zraw 155 32 = some (.ifCond .ne 23, 3) ∧ ((32 : Nat) : Int) + 23 = Int.ofNat 55 ∧ 32 + 3 = 35 := by decide +kernel
theorem zi_155_35 : zraw 155 35 = some (.aload_n 0, 1) ∧ 35 + 1 = 36 := by decide +kernel
theorem zi_155_36 : zraw 155 36 = some (.iconst 0, 1) ∧ zin 128 0 = true ∧ 36 + 1 = 37 := by decide +kernel
theorem zi_155_37 : zraw 155 37 = some (.iload 5, 2) ∧ 37 + 2 = 39 := by decide +kernel
theorem zi_155_39 : zraw 155 39 = some (.invokevirtual 41, 3) ∧ zmt (zinf 155).1 41 = some 110 ∧ Nat.ble 9000 110 = false ∧ zinf 110 = (9, 3, 3, 1, 0) ∧ 39 + 3 = 42 := by decide +kernel
theorem zi_155_42 : zraw 155 42 = some (.iload 4, 2) ∧ 42 + 2 = 44 := by decide +kernel
theorem zi_155_44 : zraw 155 44 = some (.if_icmp .ne 7, 3) ∧ ((44 : Nat) : Int) + 7 = Int.ofNat 51 ∧ 44 + 3 = 47 := by decide +kernel
theorem zi_155_47 : zraw 155 47 = some (.iconst 1, 1) ∧ zin 128 1 = true ∧ 47 + 1 = 48 := by decide +kernel
theorem zi_155_48 : zraw 155 48 = some (.goto 15, 3) ∧ ((48 : Nat) : Int) + 15 = Int.ofNat 63 := by decide +kernel
theorem zi_155_51 : zraw 155 51 = some (.iconst 0, 1) ∧ zin 128 0 = true ∧ 51 + 1 = 52 := by decide +kernel
theorem zi_155_52 : zraw 155 52 = some (.goto 11, 3) ∧ ((52 : Nat) : Int) + 11 = Int.ofNat 63 := by decide +kernel
theorem zi_155_55 : zraw 155 55 = some (.aload_n 0, 1) ∧ 55 + 1 = 56 := by decide +kernel
theorem zi_155_56 : zraw 155 56 = some (.iload 5, 2) ∧ 56 + 2 = 58 := by decide +kernel
theorem zi_155_58 : zraw 155 58 = some (.iload 4, 2) ∧ 58 + 2 = 60 := by decide +kernel
theorem zi_155_60 : zraw 155 60 = some (.invokestatic 125, 3) ∧ zmt (zinf 155).1 125 = some 144 ∧ Nat.ble 9000 144 = false ∧ zinf 144 = (11, 3, 5, 2, 1) ∧ 60 + 3 = 63 := by decide +kernel
theorem zi_155_63 : zraw 155 63 = some (.ireturn, 1) ∧ (zinf 155).2.2.2.1 = 2 := by decide +kernel
theorem zi_155_64 : zraw 155 64 = some (.iload_n 1, 1) ∧ 64 + 1 = 65 := by decide +kernel
theorem zi_155_65 : zraw 155 65 = some (.bipush 8, 2) ∧ zin 128 8 = true ∧ 65 + 2 = 67 := by decide +kernel
theorem zi_155_67 : zraw 155 67 = some (.if_icmp .ge 75, 3) ∧ ((67 : Nat) : Int) + 75 = Int.ofNat 142 ∧ 67 + 3 = 70 := by decide +kernel
theorem zi_155_70 : zraw 155 70 = some (.iload_n 1, 1) ∧ 70 + 1 = 71 := by decide +kernel
theorem zi_155_71 : zraw 155 71 = some (.bipush 6, 2) ∧ zin 128 6 = true ∧ 71 + 2 = 73 := by decide +kernel
theorem zi_155_73 : zraw 155 73 = some (.if_icmp .ge 21, 3) ∧ ((73 : Nat) : Int) + 21 = Int.ofNat 94 ∧ 73 + 3 = 76 := by decide +kernel
theorem zi_155_76 : zraw 155 76 = some (.aload_n 0, 1) ∧ 76 + 1 = 77 := by decide +kernel
theorem zi_155_77 : zraw 155 77 = some (.iconst 0, 1) ∧ zin 128 0 = true ∧ 77 + 1 = 78 := by decide +kernel
theorem zi_155_78 : zraw 155 78 = some (.iload_n 3, 1) ∧ 78 + 1 = 79 := by decide +kernel
theorem zi_155_79 : zraw 155 79 = some (.iconst 0, 1) ∧ zin 128 0 = true ∧ 79 + 1 = 80 := by decide +kernel
theorem zi_155_80 : zraw 155 80 = some (.invokevirtual 48, 3) ∧ zmt (zinf 155).1 48 = some 112 ∧ Nat.ble 9000 112 = false ∧ zinf 112 = (9, 4, 4, 1, 0) ∧ 80 + 3 = 83 := by decide +kernel
theorem zi_155_83 : zraw 155 83 = some (.aload_n 0, 1) ∧ 83 + 1 = 84 := by decide +kernel
theorem zi_155_84 : zraw 155 84 = some (.iconst 0, 1) ∧ zin 128 0 = true ∧ 84 + 1 = 85 := by decide +kernel
theorem zi_155_85 : zraw 155 85 = some (.iload_n 2, 1) ∧ 85 + 1 = 86 := by decide +kernel
theorem zi_155_86 : zraw 155 86 = some (.iconst 1, 1) ∧ zin 128 1 = true ∧ 86 + 1 = 87 := by decide +kernel
theorem zi_155_87 : zraw 155 87 = some (.invokevirtual 48, 3) ∧ zmt (zinf 155).1 48 = some 112 ∧ Nat.ble 9000 112 = false ∧ zinf 112 = (9, 4, 4, 1, 0) ∧ 87 + 3 = 90 := by decide +kernel
theorem zi_155_90 : zraw 155 90 = some (.isub, 1) ∧ 90 + 1 = 91 := by decide +kernel
theorem zi_155_91 : zraw 155 91 = some (.goto 18, 3) ∧ ((91 : Nat) : Int) + 18 = Int.ofNat 109 := by decide +kernel
theorem zi_155_94 : zraw 155 94 = some (.aload_n 0, 1) ∧ 94 + 1 = 95 := by decide +kernel
theorem zi_155_95 : zraw 155 95 = some (.iconst 0, 1) ∧ zin 128 0 = true ∧ 95 + 1 = 96 := by decide +kernel
theorem zi_155_96 : zraw 155 96 = some (.iload_n 2, 1) ∧ 96 + 1 = 97 := by decide +kernel
theorem zi_155_97 : zraw 155 97 = some (.iconst 0, 1) ∧ zin 128 0 = true ∧ 97 + 1 = 98 := by decide +kernel
theorem zi_155_98 : zraw 155 98 = some (.invokevirtual 48, 3) ∧ zmt (zinf 155).1 48 = some 112 ∧ Nat.ble 9000 112 = false ∧ zinf 112 = (9, 4, 4, 1, 0) ∧ 98 + 3 = 101 := by decide +kernel
theorem zi_155_101 : zraw 155 101 = some (.aload_n 0, 1) ∧ 101 + 1 = 102 := by decide +kernel
theorem zi_155_102 : zraw 155 102 = some (.iconst 0, 1) ∧ zin 128 0 = true ∧ 102 + 1 = 103 := by decide +kernel
theorem zi_155_103 : zraw 155 103 = some (.iload_n 3, 1) ∧ 103 + 1 = 104 := by decide +kernel
theorem zi_155_104 : zraw 155 104 = some (.iconst 1, 1) ∧ zin 128 1 = true ∧ 104 + 1 = 105 := by decide +kernel
theorem zi_155_105 : zraw 155 105 = some (.invokevirtual 48, 3) ∧ zmt (zinf 155).1 48 = some 112 ∧ Nat.ble 9000 112 = false ∧ zinf 112 = (9, 4, 4, 1, 0) ∧ 105 + 3 = 108 := by decide +kernel
theorem zi_155_108 : zraw 155 108 = some (.isub, 1) ∧ 108 + 1 = 109 := by decide +kernel
theorem zi_155_109 : zraw 155 109 = some (.istore 4, 2) ∧ 109 + 2 = 111 := by decide +kernel
theorem zi_155_111 : zraw 155 111 = some (.iload_n 1, 1) ∧ 111 + 1 = 112 := by decide +kernel
theorem zi_155_112 : zraw 155 112 = some (.iconst 2, 1) ∧ zin 128 2 = true ∧ 112 + 1 = 113 := by decide +kernel
theorem zi_155_113 : zraw 155 113 = some (.irem, 1) ∧ 113 + 1 = 114 := by decide +kernel
theorem zi_155_114 : zraw 155 114 = some (.ifCond .ne 17, 3) ∧ ((114 : Nat) : Int) + 17 = Int.ofNat 131 ∧ 114 + 3 = 117 := by decide +kernel
theorem zi_155_117 : zraw 155 117 = some (.iload 4, 2) ∧ 117 + 2 = 119 := by decide +kernel
theorem zi_155_119 : zraw 155 119 = some (.iconst 1, 1) ∧ zin 128 1 = true ∧ 119 + 1 = 120 := by decide +kernel
theorem zi_155_120 : zraw 155 120 = some (.if_icmp .ne 7, 3) ∧ ((120 : Nat) : Int) + 7 = Int.ofNat 127 ∧ 120 + 3 = 123 := by decide +kernel
theorem zi_155_123 : zraw 155 123 = some (.iconst 1, 1) ∧ zin 128 1 = true ∧ 123 + 1 = 124 := by decide +kernel
theorem zi_155_124 : zraw 155 124 = some (.goto 17, 3) ∧ ((124 : Nat) : Int) + 17 = Int.ofNat 141 := by decide +kernel
theorem zi_155_127 : zraw 155 127 = some (.iconst 0, 1) ∧ zin 128 0 = true ∧ 127 + 1 = 128 := by decide +kernel
theorem zi_155_128 : zraw 155 128 = some (.goto 13, 3) ∧ ((128 : Nat) : Int) + 13 = Int.ofNat 141 := by decide +kernel
theorem zi_155_131 : zraw 155 131 = some (.iload 4, 2) ∧ 131 + 2 = 133 := by decide +kernel
theorem zi_155_133 : zraw 155 133 = some (.ifCond .le 7, 3) ∧ ((133 : Nat) : Int) + 7 = Int.ofNat 140 ∧ 133 + 3 = 136 := by decide +kernel
theorem zi_155_136 : zraw 155 136 = some (.iconst 1, 1) ∧ zin 128 1 = true ∧ 136 + 1 = 137 := by decide +kernel
theorem zi_155_137 : zraw 155 137 = some (.goto 4, 3) ∧ ((137 : Nat) : Int) + 4 = Int.ofNat 141 := by decide +kernel
theorem zi_155_140 : zraw 155 140 = some (.iconst 0, 1) ∧ zin 128 0 = true ∧ 140 + 1 = 141 := by decide +kernel
theorem zi_155_141 : zraw 155 141 = some (.ireturn, 1) ∧ (zinf 155).2.2.2.1 = 2 := by decide +kernel
theorem zi_155_142 : zraw 155 142 = some (.iload_n 2, 1) ∧ 142 + 1 = 143 := by decide +kernel
theorem zi_155_143 : zraw 155 143 = some (.iload_n 3, 1) ∧ 143 + 1 = 144 := by decide +kernel
theorem zi_155_144 : zraw 155 144 = some (.if_icmp .eq 31, 3) ∧ ((144 : Nat) : Int) + 31 = Int.ofNat 175 ∧ 144 + 3 = 147 := by decide +kernel
theorem zi_155_147 : zraw 155 147 = some (.aload_n 0, 1) ∧ 147 + 1 = 148 := by decide +kernel
theorem zi_155_148 : zraw 155 148 = some (.iconst 0, 1) ∧ zin 128 0 = true ∧ 148 + 1 = 149 := by decide +kernel
theorem zi_155_149 : zraw 155 149 = some (.iload_n 2, 1) ∧ 149 + 1 = 150 := by decide +kernel
theorem zi_155_150 : zraw 155 150 = some (.invokevirtual 41, 3) ∧ zmt (zinf 155).1 41 = some 110 ∧ Nat.ble 9000 110 = false ∧ zinf 110 = (9, 3, 3, 1, 0) ∧ 150 + 3 = 153 := by decide +kernel
theorem zi_155_153 : zraw 155 153 = some (.ifCond .lt 22, 3) ∧ ((153 : Nat) : Int) + 22 = Int.ofNat 175 ∧ 153 + 3 = 156 := by decide +kernel
theorem zi_155_156 : zraw 155 156 = some (.aload_n 0, 1) ∧ 156 + 1 = 157 := by decide +kernel
theorem zi_155_157 : zraw 155 157 = some (.iconst 0, 1) ∧ zin 128 0 = true ∧ 157 + 1 = 158 := by decide +kernel
theorem zi_155_158 : zraw 155 158 = some (.iload_n 2, 1) ∧ 158 + 1 = 159 := by decide +kernel
theorem zi_155_159 : zraw 155 159 = some (.invokevirtual 41, 3) ∧ zmt (zinf 155).1 41 = some 110 ∧ Nat.ble 9000 110 = false ∧ zinf 110 = (9, 3, 3, 1, 0) ∧ 159 + 3 = 162 := by decide +kernel
theorem zi_155_162 : zraw 155 162 = some (.aload_n 0, 1) ∧ 162 + 1 = 163 := by decide +kernel
theorem zi_155_163 : zraw 155 163 = some (.iconst 0, 1) ∧ zin 128 0 = true ∧ 163 + 1 = 164 := by decide +kernel
theorem zi_155_164 : zraw 155 164 = some (.iload_n 3, 1) ∧ 164 + 1 = 165 := by decide +kernel
theorem zi_155_165 : zraw 155 165 = some (.invokevirtual 41, 3) ∧ zmt (zinf 155).1 41 = some 110 ∧ Nat.ble 9000 110 = false ∧ zinf 110 = (9, 3, 3, 1, 0) ∧ 165 + 3 = 168 := by decide +kernel
theorem zi_155_168 : zraw 155 168 = some (.if_icmp .ne 7, 3) ∧ ((168 : Nat) : Int) + 7 = Int.ofNat 175 ∧ 168 + 3 = 171 := by decide +kernel
theorem zi_155_171 : zraw 155 171 = some (.iconst 1, 1) ∧ zin 128 1 = true ∧ 171 + 1 = 172 := by decide +kernel
theorem zi_155_172 : zraw 155 172 = some (.goto 4, 3) ∧ ((172 : Nat) : Int) + 4 = Int.ofNat 176 := by decide +kernel
theorem zi_155_175 : zraw 155 175 = some (.iconst 0, 1) ∧ zin 128 0 = true ∧ 175 + 1 = 176 := by decide +kernel
theorem zi_155_176 : zraw 155 176 = some (.istore 4, 2) ∧ 176 + 2 = 178 := by decide +kernel
theorem zi_155_178 : zraw 155 178 = some (.iload 4, 2) ∧ 178 + 2 = 180 := by decide +kernel
theorem zi_155_180 : zraw 155 180 = some (.ifCond .eq 17, 3) ∧ ((180 : Nat) : Int) + 17 = Int.ofNat 197 ∧ 180 + 3 = 183 := by decide +kernel
theorem zi_155_183 : zraw 155 183 = some (.aload_n 0, 1) ∧ 183 + 1 = 184 := by decide +kernel
theorem zi_155_184 : zraw 155 184 = some (.iload_n 3, 1) ∧ 184 + 1 = 185 := by decide +kernel
theorem zi_155_185 : zraw 155 185 = some (.invokestatic 129, 3) ∧ zmt (zinf 155).1 129 = some 154 ∧ Nat.ble 9000 154 = false ∧ zinf 154 = (11, 2, 4, 1, 1) ∧ 185 + 3 = 188 := by decide +kernel
theorem zi_155_188 : zraw 155 188 = some (.aload_n 0, 1) ∧ 188 + 1 = 189 := by decide +kernel
theorem zi_155_189 : zraw 155 189 = some (.iload_n 2, 1) ∧ 189 + 1 = 190 := by decide +kernel
theorem zi_155_190 : zraw 155 190 = some (.invokestatic 129, 3) ∧ zmt (zinf 155).1 129 = some 154 ∧ Nat.ble 9000 154 = false ∧ zinf 154 = (11, 2, 4, 1, 1) ∧ 190 + 3 = 193 := by decide +kernel
theorem zi_155_193 : zraw 155 193 = some (.isub, 1) ∧ 193 + 1 = 194 := by decide +kernel
theorem zi_155_194 : zraw 155 194 = some (.goto 4, 3) ∧ ((194 : Nat) : Int) + 4 = Int.ofNat 198 := by decide +kernel
theorem zi_155_197 : zraw 155 197 = some (.iconst 0, 1) ∧ zin 128 0 = true ∧ 197 + 1 = 198 := by decide +kernel
theorem zi_155_198 : zraw 155 198 = some (.istore 5, 2) ∧ 198 + 2 = 200 := by decide +kernel
theorem zi_155_200 : zraw 155 200 = some (.iload 4, 2) ∧ 200 + 2 = 202 := by decide +kernel
theorem zi_155_202 : zraw 155 202 = some (.ifCond .eq 59, 3) ∧ ((202 : Nat) : Int) + 59 = Int.ofNat 261 ∧ 202 + 3 = 205 := by decide +kernel
theorem zi_155_205 : zraw 155 205 = some (.iload_n 1, 1) ∧ 205 + 1 = 206 := by decide +kernel
theorem zi_155_206 : zraw 155 206 = some (.bipush 8, 2) ∧ zin 128 8 = true ∧ 206 + 2 = 208 := by decide +kernel
theorem zi_155_208 : zraw 155 208 = some (.if_icmp .eq 49, 3) ∧ ((208 : Nat) : Int) + 49 = Int.ofNat 257 ∧ 208 + 3 = 211 := by decide +kernel
theorem zi_155_211 : zraw 155 211 = some (.iload_n 1, 1) ∧ 211 + 1 = 212 := by decide +kernel
theorem zi_155_212 : zraw 155 212 = some (.bipush 9, 2) ∧ zin 128 9 = true ∧ 212 + 2 = 214 := by decide +kernel
theorem zi_155_214 : zraw 155 214 = some (.if_icmp .ne 9, 3) ∧ ((214 : Nat) : Int) + 9 = Int.ofNat 223 ∧ 214 + 3 = 217 := by decide +kernel
theorem zi_155_217 : zraw 155 217 = some (.iload 5, 2) ∧ 217 + 2 = 219 := by decide +kernel
theorem zi_155_219 : zraw 155 219 = some (.iconst 1, 1) ∧ zin 128 1 = true ∧ 219 + 1 = 220 := by decide +kernel
theorem zi_155_220 : zraw 155 220 = some (.if_icmp .eq 37, 3) ∧ ((220 : Nat) : Int) + 37 = Int.ofNat 257 ∧ 220 + 3 = 223 := by decide +kernel
theorem zi_155_223 : zraw 155 223 = some (.iload_n 1, 1) ∧ 223 + 1 = 224 := by decide +kernel
theorem zi_155_224 : zraw 155 224 = some (.bipush 10, 2) ∧ zin 128 10 = true ∧ 224 + 2 = 226 := by decide +kernel
theorem zi_155_226 : zraw 155 226 = some (.if_icmp .ne 8, 3) ∧ ((226 : Nat) : Int) + 8 = Int.ofNat 234 ∧ 226 + 3 = 229 := by decide +kernel
theorem zi_155_229 : zraw 155 229 = some (.iload 5, 2) ∧ 229 + 2 = 231 := by decide +kernel
theorem zi_155_231 : zraw 155 231 = some (.ifCond .gt 26, 3) ∧ ((231 : Nat) : Int) + 26 = Int.ofNat 257 ∧ 231 + 3 = 234 := by decide +kernel
theorem zi_155_234 : zraw 155 234 = some (.iload_n 1, 1) ∧ 234 + 1 = 235 := by decide +kernel
theorem zi_155_235 : zraw 155 235 = some (.bipush 11, 2) ∧ zin 128 11 = true ∧ 235 + 2 = 237 := by decide +kernel
theorem zi_155_237 : zraw 155 237 = some (.if_icmp .ne 9, 3) ∧ ((237 : Nat) : Int) + 9 = Int.ofNat 246 ∧ 237 + 3 = 240 := by decide +kernel
theorem zi_155_240 : zraw 155 240 = some (.iload 5, 2) ∧ 240 + 2 = 242 := by decide +kernel
theorem zi_155_242 : zraw 155 242 = some (.iconst (-1), 1) ∧ zin 128 (-1) = true ∧ 242 + 1 = 243 := by decide +kernel
theorem zi_155_243 : zraw 155 243 = some (.if_icmp .eq 14, 3) ∧ ((243 : Nat) : Int) + 14 = Int.ofNat 257 ∧ 243 + 3 = 246 := by decide +kernel
theorem zi_155_246 : zraw 155 246 = some (.iload_n 1, 1) ∧ 246 + 1 = 247 := by decide +kernel
theorem zi_155_247 : zraw 155 247 = some (.bipush 12, 2) ∧ zin 128 12 = true ∧ 247 + 2 = 249 := by decide +kernel
theorem zi_155_249 : zraw 155 249 = some (.if_icmp .ne 12, 3) ∧ ((249 : Nat) : Int) + 12 = Int.ofNat 261 ∧ 249 + 3 = 252 := by decide +kernel
theorem zi_155_252 : zraw 155 252 = some (.iload 5, 2) ∧ 252 + 2 = 254 := by decide +kernel
theorem zi_155_254 : zraw 155 254 = some (.ifCond .ge 7, 3) ∧ ((254 : Nat) : Int) + 7 = Int.ofNat 261 ∧ 254 + 3 = 257 := by decide +kernel
theorem zi_155_257 : zraw 155 257 = some (.iconst 1, 1) ∧ zin 128 1 = true ∧ 257 + 1 = 258 := by decide +kernel
theorem zi_155_258 : zraw 155 258 = some (.goto 4, 3) ∧ ((258 : Nat) : Int) + 4 = Int.ofNat 262 := by decide +kernel
theorem zi_155_261 : zraw 155 261 = some (.iconst 0, 1) ∧ zin 128 0 = true ∧ 261 + 1 = 262 := by decide +kernel
theorem zi_155_262 : zraw 155 262 = some (.ireturn, 1) ∧ (zinf 155).2.2.2.1 = 2 := by decide +kernel
theorem ze_155 {K : List zF} {σ : zW} {x1 : Int} {x2 : Int} {x3 : Int} (hK : K.length < 60) : zEv true (zent 155 [.inr (.inr 1), .inl x1, .inl x2, .inl x3] :: K) σ = (if 4 ≤ x1 then if 8 ≤ x1 then if x2 = x3 then zEv true ((155, 175, [some (.inr (.inr 1)), some (.inl x1), some (.inl x2), some (.inl x3), none, none], []) :: K) σ else zEv true (zent 110 [.inr (.inr 1), .inl 0, .inl x2] :: (155, 153, [some (.inr (.inr 1)), some (.inl x1), some (.inl x2), some (.inl x3), none, none], []) :: K) σ else if 6 ≤ x1 then zEv true (zent 112 [.inr (.inr 1), .inl 0, .inl x2, .inl 0] :: (155, 101, [some (.inr (.inr 1)), some (.inl x1), some (.inl x2), some (.inl x3), none, none], []) :: K) σ else zEv true (zent 112 [.inr (.inr 1), .inl 0, .inl x3, .inl 0] :: (155, 83, [some (.inr (.inr 1)), some (.inl x1), some (.inl x2), some (.inl x3), none, none], []) :: K) σ else if ¬ (zrem x1 2) = 0 then zEv true (zent 144 [.inr (.inr 1), .inl (if 2 ≤ x1 then x2 else x3 : Int), .inl (if 2 ≤ x1 then x3 else x2 : Int)] :: (155, 63, [some (.inr (.inr 1)), some (.inl x1), some (.inl x2), some (.inl x3), some (.inl (if 2 ≤ x1 then x3 else x2 : Int)), some (.inl (if 2 ≤ x1 then x2 else x3 : Int))], []) :: K) σ else zEv true (zent 110 [.inr (.inr 1), .inl 0, .inl (if 2 ≤ x1 then x2 else x3 : Int)] :: (155, 42, [some (.inr (.inr 1)), some (.inl x1), some (.inl x2), some (.inl x3), some (.inl (if 2 ≤ x1 then x3 else x2 : Int)), some (.inl (if 2 ≤ x1 then x2 else x3 : Int))], []) :: K) σ) :=
  yT_en (f := (155, 0, [some (.inr (.inr 1)), some (.inl x1), some (.inl x2), some (.inl x3), none, none], [])) rfl (yI_iload_n zi_155_0 rfl <| yI_iconst zi_155_1 <| yI_ic_ge zi_155_2 <| yBr (yI_iload_n zi_155_64 rfl <| yI_bipush zi_155_65 <| yI_ic_ge zi_155_67 <| yBr (yI_iload_n zi_155_142 rfl <| yI_iload_n zi_155_143 rfl <| yI_ic_eq zi_155_144 <| yBr (rfl) (yI_aload_n zi_155_147 rfl <| yI_iconst zi_155_148 <| yI_iload_n zi_155_149 rfl <| yI_cv zi_155_150 rfl rfl zk_1 hK)) (yI_iload_n zi_155_70 rfl <| yI_bipush zi_155_71 <| yI_ic_ge zi_155_73 <| yBr (yI_aload_n zi_155_94 rfl <| yI_iconst zi_155_95 <| yI_iload_n zi_155_96 rfl <| yI_iconst zi_155_97 <| yI_cv zi_155_98 rfl rfl zk_1 hK) (yI_aload_n zi_155_76 rfl <| yI_iconst zi_155_77 <| yI_iload_n zi_155_78 rfl <| yI_iconst zi_155_79 <| yI_cv zi_155_80 rfl rfl zk_1 hK))) (yI_iload_n zi_155_5 rfl <| yI_iconst zi_155_6 <| yI_ic_ge zi_155_7 <| yMi0 (j := 15) (ls2 := [some (.inr (.inr 1)), some (.inl x1), some (.inl x2), some (.inl x3), none, none]) (st2 := []) (x := x3) (y := x2) (σ2 := σ) (yI_iload_n zi_155_14 rfl <| rfl) (yI_iload_n zi_155_10 rfl <| yI_goto zi_155_11 <| rfl) <| yI_istore (l := [some (.inr (.inr 1)), some (.inl x1), some (.inl x2), some (.inl x3), some (.inl (if 2 ≤ x1 then x3 else x2 : Int)), none]) zi_155_15 rfl rfl <| yI_iload_n zi_155_17 rfl <| yI_iconst zi_155_18 <| yI_ic_ge zi_155_19 <| yMi0 (j := 27) (ls2 := [some (.inr (.inr 1)), some (.inl x1), some (.inl x2), some (.inl x3), some (.inl (if 2 ≤ x1 then x3 else x2 : Int)), none]) (st2 := []) (x := x2) (y := x3) (σ2 := σ) (yI_iload_n zi_155_26 rfl <| rfl) (yI_iload_n zi_155_22 rfl <| yI_goto zi_155_23 <| rfl) <| yI_istore (l := [some (.inr (.inr 1)), some (.inl x1), some (.inl x2), some (.inl x3), some (.inl (if 2 ≤ x1 then x3 else x2 : Int)), some (.inl (if 2 ≤ x1 then x2 else x3 : Int))]) zi_155_27 rfl rfl <| yI_iload_n zi_155_29 rfl <| yI_iconst zi_155_30 <| yI_irem zi_155_31 (by decide) <| yI_if_ne zi_155_32 <| yBr (yI_aload_n zi_155_55 rfl <| yI_iload zi_155_56 rfl <| yI_iload zi_155_58 rfl <| yI_cs zi_155_60 rfl rfl hK) (yI_aload_n zi_155_35 rfl <| yI_iconst zi_155_36 <| yI_iload zi_155_37 rfl <| yI_cv zi_155_39 rfl rfl zk_1 hK)))
theorem zj_155_175 {K : List zF} {σ : zW} {x1 : Int} {x2 : Int} {x3 : Int} {o4 : Option zV} {o5 : Option zV} (hK : K.length < 60) : zEv true ((155, 175, [some (.inr (.inr 1)), some (.inl x1), some (.inl x2), some (.inl x3), o4, o5], []) :: K) σ = (if (0 : Int) = 0 then if (0 : Int) = 0 then zEv true ((155, 261, [some (.inr (.inr 1)), some (.inl x1), some (.inl x2), some (.inl x3), some (.inl 0), some (.inl 0)], []) :: K) σ else if x1 = 8 then zRet true K (some (.inl 1)) σ else if ¬ x1 = 9 then zEv true ((155, 223, [some (.inr (.inr 1)), some (.inl x1), some (.inl x2), some (.inl x3), some (.inl 0), some (.inl 0)], []) :: K) σ else if (0 : Int) = 1 then zRet true K (some (.inl 1)) σ else zEv true ((155, 223, [some (.inr (.inr 1)), some (.inl x1), some (.inl x2), some (.inl x3), some (.inl 0), some (.inl 0)], []) :: K) σ else zEv true (zent 154 [.inr (.inr 1), .inl x3] :: (155, 188, [some (.inr (.inr 1)), some (.inl x1), some (.inl x2), some (.inl x3), some (.inl 0), o5], []) :: K) σ) :=
  yI_iconst zi_155_175 <| yI_istore (l := [some (.inr (.inr 1)), some (.inl x1), some (.inl x2), some (.inl x3), some (.inl 0), o5]) zi_155_176 rfl rfl <| yI_iload zi_155_178 rfl <| yI_if_eq zi_155_180 <| yBr (yI_iconst zi_155_197 <| yI_istore (l := [some (.inr (.inr 1)), some (.inl x1), some (.inl x2), some (.inl x3), some (.inl 0), some (.inl 0)]) zi_155_198 rfl rfl <| yI_iload zi_155_200 rfl <| yI_if_eq zi_155_202 <| yBr (rfl) (yI_iload_n zi_155_205 rfl <| yI_bipush zi_155_206 <| yI_ic_eq zi_155_208 <| yBr (yI_iconst zi_155_257 <| yI_goto zi_155_258 <| yI_zreturn zi_155_262 (by decide)) (yI_iload_n zi_155_211 rfl <| yI_bipush zi_155_212 <| yI_ic_ne zi_155_214 <| yBr (rfl) (yI_iload zi_155_217 rfl <| yI_iconst zi_155_219 <| yI_ic_eq zi_155_220 <| yBr (yI_iconst zi_155_257 <| yI_goto zi_155_258 <| yI_zreturn zi_155_262 (by decide)) (rfl))))) (yI_aload_n zi_155_183 rfl <| yI_iload_n zi_155_184 rfl <| yI_cs zi_155_185 rfl rfl hK)
theorem zr_155_153 {K : List zF} {σ : zW} {x1 : Int} {x2 : Int} {x3 : Int} {o4 : Option zV} {o5 : Option zV} {v : Int} (hK : K.length < 60) : zRet true ((155, 153, [some (.inr (.inr 1)), some (.inl x1), some (.inl x2), some (.inl x3), o4, o5], []) :: K) (some (.inl v)) σ = (if v < 0 then zEv true ((155, 175, [some (.inr (.inr 1)), some (.inl x1), some (.inl x2), some (.inl x3), o4, o5], []) :: K) σ else zEv true (zent 110 [.inr (.inr 1), .inl 0, .inl x2] :: (155, 162, [some (.inr (.inr 1)), some (.inl x1), some (.inl x2), some (.inl x3), o4, o5], []) :: K) σ) :=
  yT_rt (yI_if_lt zi_155_153 <| yBr (rfl) (yI_aload_n zi_155_156 rfl <| yI_iconst zi_155_157 <| yI_iload_n zi_155_158 rfl <| yI_cv zi_155_159 rfl rfl zk_1 hK))
theorem zr_155_101 {K : List zF} {σ : zW} {x1 : Int} {o2 : Option zV} {x3 : Int} {o4 : Option zV} {o5 : Option zV} {v : Int} (hK : K.length < 60) : zRet true ((155, 101, [some (.inr (.inr 1)), some (.inl x1), o2, some (.inl x3), o4, o5], []) :: K) (some (.inl v)) σ = (zEv true (zent 112 [.inr (.inr 1), .inl 0, .inl x3, .inl 1] :: (155, 108, [some (.inr (.inr 1)), some (.inl x1), o2, some (.inl x3), o4, o5], [.inl v]) :: K) σ) :=
  yT_rt (yI_aload_n zi_155_101 rfl <| yI_iconst zi_155_102 <| yI_iload_n zi_155_103 rfl <| yI_iconst zi_155_104 <| yI_cv zi_155_105 rfl rfl zk_1 hK)
theorem zr_155_83 {K : List zF} {σ : zW} {x1 : Int} {x2 : Int} {o3 : Option zV} {o4 : Option zV} {o5 : Option zV} {v : Int} (hK : K.length < 60) : zRet true ((155, 83, [some (.inr (.inr 1)), some (.inl x1), some (.inl x2), o3, o4, o5], []) :: K) (some (.inl v)) σ = (zEv true (zent 112 [.inr (.inr 1), .inl 0, .inl x2, .inl 1] :: (155, 90, [some (.inr (.inr 1)), some (.inl x1), some (.inl x2), o3, o4, o5], [.inl v]) :: K) σ) :=
  yT_rt (yI_aload_n zi_155_83 rfl <| yI_iconst zi_155_84 <| yI_iload_n zi_155_85 rfl <| yI_iconst zi_155_86 <| yI_cv zi_155_87 rfl rfl zk_1 hK)
theorem zr_155_63 {K : List zF} {σ : zW} {o0 : Option zV} {o1 : Option zV} {o2 : Option zV} {o3 : Option zV} {o4 : Option zV} {o5 : Option zV} {v : Int} : zRet true ((155, 63, [o0, o1, o2, o3, o4, o5], []) :: K) (some (.inl v)) σ = ((v = 0 ∨ v = 1) ∧ zRet true K (some (.inl v)) σ) :=
  yT_rt (yI_zreturnc zi_155_63)
theorem zr_155_42 {K : List zF} {σ : zW} {o0 : Option zV} {o1 : Option zV} {o2 : Option zV} {o3 : Option zV} {x4 : Int} {o5 : Option zV} {v : Int} : zRet true ((155, 42, [o0, o1, o2, o3, some (.inl x4), o5], []) :: K) (some (.inl v)) σ = (if ¬ v = x4 then zRet true K (some (.inl 0)) σ else zRet true K (some (.inl 1)) σ) :=
  yT_rt (yI_iload zi_155_42 rfl <| yI_ic_ne zi_155_44 <| yBr (yI_iconst zi_155_51 <| yI_goto zi_155_52 <| yI_zreturn zi_155_63 (by decide)) (yI_iconst zi_155_47 <| yI_goto zi_155_48 <| yI_zreturn zi_155_63 (by decide)))
theorem zr_155_188 {K : List zF} {σ : zW} {x1 : Int} {x2 : Int} {o3 : Option zV} {x4 : Int} {o5 : Option zV} {v : Int} (hK : K.length < 60) : zRet true ((155, 188, [some (.inr (.inr 1)), some (.inl x1), some (.inl x2), o3, some (.inl x4), o5], []) :: K) (some (.inl v)) σ = (zEv true (zent 154 [.inr (.inr 1), .inl x2] :: (155, 193, [some (.inr (.inr 1)), some (.inl x1), some (.inl x2), o3, some (.inl x4), o5], [.inl v]) :: K) σ) :=
  yT_rt (yI_aload_n zi_155_188 rfl <| yI_iload_n zi_155_189 rfl <| yI_cs zi_155_190 rfl rfl hK)
theorem zj_155_261 {K : List zF} {σ : zW} {o0 : Option zV} {o1 : Option zV} {o2 : Option zV} {o3 : Option zV} {o4 : Option zV} {o5 : Option zV} : zEv true ((155, 261, [o0, o1, o2, o3, o4, o5], []) :: K) σ = (zRet true K (some (.inl 0)) σ) :=
  yI_iconst zi_155_261 <| yI_zreturn zi_155_262 (by decide)
theorem zj_155_223 {K : List zF} {σ : zW} {o0 : Option zV} {x1 : Int} {o2 : Option zV} {o3 : Option zV} {o4 : Option zV} {x5 : Int} : zEv true ((155, 223, [o0, some (.inl x1), o2, o3, o4, some (.inl x5)], []) :: K) σ = (if ¬ x1 = 10 then zEv true ((155, 234, [o0, some (.inl x1), o2, o3, o4, some (.inl x5)], []) :: K) σ else if 0 < x5 then zRet true K (some (.inl 1)) σ else zEv true ((155, 234, [o0, some (.inl x1), o2, o3, o4, some (.inl x5)], []) :: K) σ) :=
  yI_iload_n zi_155_223 rfl <| yI_bipush zi_155_224 <| yI_ic_ne zi_155_226 <| yBr (rfl) (yI_iload zi_155_229 rfl <| yI_if_gt zi_155_231 <| yBr (yI_iconst zi_155_257 <| yI_goto zi_155_258 <| yI_zreturn zi_155_262 (by decide)) (rfl))
theorem zr_155_162 {K : List zF} {σ : zW} {x1 : Int} {x2 : Int} {x3 : Int} {o4 : Option zV} {o5 : Option zV} {v : Int} (hK : K.length < 60) : zRet true ((155, 162, [some (.inr (.inr 1)), some (.inl x1), some (.inl x2), some (.inl x3), o4, o5], []) :: K) (some (.inl v)) σ = (zEv true (zent 110 [.inr (.inr 1), .inl 0, .inl x3] :: (155, 168, [some (.inr (.inr 1)), some (.inl x1), some (.inl x2), some (.inl x3), o4, o5], [.inl v]) :: K) σ) :=
  yT_rt (yI_aload_n zi_155_162 rfl <| yI_iconst zi_155_163 <| yI_iload_n zi_155_164 rfl <| yI_cv zi_155_165 rfl rfl zk_1 hK)
theorem zr_155_108 {K : List zF} {σ : zW} {o0 : Option zV} {x1 : Int} {o2 : Option zV} {o3 : Option zV} {o4 : Option zV} {o5 : Option zV} {s0 : Int} {v : Int} : zRet true ((155, 108, [o0, some (.inl x1), o2, o3, o4, o5], [.inl s0]) :: K) (some (.inl v)) σ = (if ¬ (zrem x1 2) = 0 then if (w32 (s0 - v)) ≤ 0 then zRet true K (some (.inl 0)) σ else zRet true K (some (.inl 1)) σ else if ¬ (w32 (s0 - v)) = 1 then zRet true K (some (.inl 0)) σ else zRet true K (some (.inl 1)) σ) :=
  yT_rt (yI_isub zi_155_108 <| yI_istore (l := [o0, some (.inl x1), o2, (zcut 0 o3), some (.inl (w32 (s0 - v))), o5]) zi_155_109 rfl rfl <| yI_iload_n zi_155_111 rfl <| yI_iconst zi_155_112 <| yI_irem zi_155_113 (by decide) <| yI_if_ne zi_155_114 <| yBr (yI_iload zi_155_131 rfl <| yI_if_le zi_155_133 <| yBr (yI_iconst zi_155_140 <| yI_zreturn zi_155_141 (by decide)) (yI_iconst zi_155_136 <| yI_goto zi_155_137 <| yI_zreturn zi_155_141 (by decide))) (yI_iload zi_155_117 rfl <| yI_iconst zi_155_119 <| yI_ic_ne zi_155_120 <| yBr (yI_iconst zi_155_127 <| yI_goto zi_155_128 <| yI_zreturn zi_155_141 (by decide)) (yI_iconst zi_155_123 <| yI_goto zi_155_124 <| yI_zreturn zi_155_141 (by decide))))
theorem zr_155_90 {K : List zF} {σ : zW} {o0 : Option zV} {x1 : Int} {o2 : Option zV} {o3 : Option zV} {o4 : Option zV} {o5 : Option zV} {s0 : Int} {v : Int} : zRet true ((155, 90, [o0, some (.inl x1), o2, o3, o4, o5], [.inl s0]) :: K) (some (.inl v)) σ = (if ¬ (zrem x1 2) = 0 then if (w32 (s0 - v)) ≤ 0 then zRet true K (some (.inl 0)) σ else zRet true K (some (.inl 1)) σ else if ¬ (w32 (s0 - v)) = 1 then zRet true K (some (.inl 0)) σ else zRet true K (some (.inl 1)) σ) :=
  yT_rt (yI_isub zi_155_90 <| yI_goto zi_155_91 <| yI_istore (l := [o0, some (.inl x1), o2, (zcut 0 o3), some (.inl (w32 (s0 - v))), o5]) zi_155_109 rfl rfl <| yI_iload_n zi_155_111 rfl <| yI_iconst zi_155_112 <| yI_irem zi_155_113 (by decide) <| yI_if_ne zi_155_114 <| yBr (yI_iload zi_155_131 rfl <| yI_if_le zi_155_133 <| yBr (yI_iconst zi_155_140 <| yI_zreturn zi_155_141 (by decide)) (yI_iconst zi_155_136 <| yI_goto zi_155_137 <| yI_zreturn zi_155_141 (by decide))) (yI_iload zi_155_117 rfl <| yI_iconst zi_155_119 <| yI_ic_ne zi_155_120 <| yBr (yI_iconst zi_155_127 <| yI_goto zi_155_128 <| yI_zreturn zi_155_141 (by decide)) (yI_iconst zi_155_123 <| yI_goto zi_155_124 <| yI_zreturn zi_155_141 (by decide))))
theorem zr_155_193 {K : List zF} {σ : zW} {o0 : Option zV} {x1 : Int} {o2 : Option zV} {o3 : Option zV} {x4 : Int} {o5 : Option zV} {s0 : Int} {v : Int} : zRet true ((155, 193, [o0, some (.inl x1), o2, o3, some (.inl x4), o5], [.inl s0]) :: K) (some (.inl v)) σ = (if x4 = 0 then zEv true ((155, 261, [o0, some (.inl x1), o2, o3, some (.inl x4), some (.inl (w32 (s0 - v)))], []) :: K) σ else if x1 = 8 then zRet true K (some (.inl 1)) σ else if ¬ x1 = 9 then zEv true ((155, 223, [o0, some (.inl x1), o2, o3, some (.inl x4), some (.inl (w32 (s0 - v)))], []) :: K) σ else if (w32 (s0 - v)) = 1 then zRet true K (some (.inl 1)) σ else zEv true ((155, 223, [o0, some (.inl x1), o2, o3, some (.inl x4), some (.inl (w32 (s0 - v)))], []) :: K) σ) :=
  yT_rt (yI_isub zi_155_193 <| yI_goto zi_155_194 <| yI_istore (l := [o0, some (.inl x1), o2, o3, some (.inl x4), some (.inl (w32 (s0 - v)))]) zi_155_198 rfl rfl <| yI_iload zi_155_200 rfl <| yI_if_eq zi_155_202 <| yBr (rfl) (yI_iload_n zi_155_205 rfl <| yI_bipush zi_155_206 <| yI_ic_eq zi_155_208 <| yBr (yI_iconst zi_155_257 <| yI_goto zi_155_258 <| yI_zreturn zi_155_262 (by decide)) (yI_iload_n zi_155_211 rfl <| yI_bipush zi_155_212 <| yI_ic_ne zi_155_214 <| yBr (rfl) (yI_iload zi_155_217 rfl <| yI_iconst zi_155_219 <| yI_ic_eq zi_155_220 <| yBr (yI_iconst zi_155_257 <| yI_goto zi_155_258 <| yI_zreturn zi_155_262 (by decide)) (rfl)))))
theorem zj_155_234 {K : List zF} {σ : zW} {o0 : Option zV} {x1 : Int} {o2 : Option zV} {o3 : Option zV} {o4 : Option zV} {x5 : Int} : zEv true ((155, 234, [o0, some (.inl x1), o2, o3, o4, some (.inl x5)], []) :: K) σ = (if ¬ x1 = 11 then zEv true ((155, 246, [o0, some (.inl x1), o2, o3, o4, some (.inl x5)], []) :: K) σ else if x5 = (-1) then zRet true K (some (.inl 1)) σ else zEv true ((155, 246, [o0, some (.inl x1), o2, o3, o4, some (.inl x5)], []) :: K) σ) :=
  yI_iload_n zi_155_234 rfl <| yI_bipush zi_155_235 <| yI_ic_ne zi_155_237 <| yBr (rfl) (yI_iload zi_155_240 rfl <| yI_iconst zi_155_242 <| yI_ic_eq zi_155_243 <| yBr (yI_iconst zi_155_257 <| yI_goto zi_155_258 <| yI_zreturn zi_155_262 (by decide)) (rfl))
theorem zr_155_168 {K : List zF} {σ : zW} {x1 : Int} {x2 : Int} {x3 : Int} {o4 : Option zV} {o5 : Option zV} {s0 : Int} {v : Int} (hK : K.length < 60) : zRet true ((155, 168, [some (.inr (.inr 1)), some (.inl x1), some (.inl x2), some (.inl x3), o4, o5], [.inl s0]) :: K) (some (.inl v)) σ = (if ¬ s0 = v then zEv true ((155, 175, [some (.inr (.inr 1)), some (.inl x1), some (.inl x2), some (.inl x3), o4, o5], []) :: K) σ else if (1 : Int) = 0 then if (1 : Int) = 0 then zEv true ((155, 261, [some (.inr (.inr 1)), some (.inl x1), some (.inl x2), some (.inl x3), some (.inl 1), some (.inl 0)], []) :: K) σ else if x1 = 8 then zRet true K (some (.inl 1)) σ else if ¬ x1 = 9 then zEv true ((155, 223, [some (.inr (.inr 1)), some (.inl x1), some (.inl x2), some (.inl x3), some (.inl 1), some (.inl 0)], []) :: K) σ else if (0 : Int) = 1 then zRet true K (some (.inl 1)) σ else zEv true ((155, 223, [some (.inr (.inr 1)), some (.inl x1), some (.inl x2), some (.inl x3), some (.inl 1), some (.inl 0)], []) :: K) σ else zEv true (zent 154 [.inr (.inr 1), .inl x3] :: (155, 188, [some (.inr (.inr 1)), some (.inl x1), some (.inl x2), some (.inl x3), some (.inl 1), o5], []) :: K) σ) :=
  yT_rt (yI_ic_ne zi_155_168 <| yBr (rfl) (yI_iconst zi_155_171 <| yI_goto zi_155_172 <| yI_istore (l := [some (.inr (.inr 1)), some (.inl x1), some (.inl x2), some (.inl x3), some (.inl 1), o5]) zi_155_176 rfl rfl <| yI_iload zi_155_178 rfl <| yI_if_eq zi_155_180 <| yBr (yI_iconst zi_155_197 <| yI_istore (l := [some (.inr (.inr 1)), some (.inl x1), some (.inl x2), some (.inl x3), some (.inl 1), some (.inl 0)]) zi_155_198 rfl rfl <| yI_iload zi_155_200 rfl <| yI_if_eq zi_155_202 <| yBr (rfl) (yI_iload_n zi_155_205 rfl <| yI_bipush zi_155_206 <| yI_ic_eq zi_155_208 <| yBr (yI_iconst zi_155_257 <| yI_goto zi_155_258 <| yI_zreturn zi_155_262 (by decide)) (yI_iload_n zi_155_211 rfl <| yI_bipush zi_155_212 <| yI_ic_ne zi_155_214 <| yBr (rfl) (yI_iload zi_155_217 rfl <| yI_iconst zi_155_219 <| yI_ic_eq zi_155_220 <| yBr (yI_iconst zi_155_257 <| yI_goto zi_155_258 <| yI_zreturn zi_155_262 (by decide)) (rfl))))) (yI_aload_n zi_155_183 rfl <| yI_iload_n zi_155_184 rfl <| yI_cs zi_155_185 rfl rfl hK)))
theorem zj_155_246 {K : List zF} {σ : zW} {o0 : Option zV} {x1 : Int} {o2 : Option zV} {o3 : Option zV} {o4 : Option zV} {x5 : Int} : zEv true ((155, 246, [o0, some (.inl x1), o2, o3, o4, some (.inl x5)], []) :: K) σ = (if ¬ x1 = 12 then zEv true ((155, 261, [o0, some (.inl x1), o2, o3, o4, some (.inl x5)], []) :: K) σ else if 0 ≤ x5 then zEv true ((155, 261, [o0, some (.inl x1), o2, o3, o4, some (.inl x5)], []) :: K) σ else zRet true K (some (.inl 1)) σ) :=
  yI_iload_n zi_155_246 rfl <| yI_bipush zi_155_247 <| yI_ic_ne zi_155_249 <| yBr (rfl) (yI_iload zi_155_252 rfl <| yI_if_ge zi_155_254 <| yBr (rfl) (yI_iconst zi_155_257 <| yI_goto zi_155_258 <| yI_zreturn zi_155_262 (by decide)))
