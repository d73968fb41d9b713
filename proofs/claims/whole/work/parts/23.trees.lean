/-! the trees of methods 110 to 159, written by wip/whole/gen/emit_trees.py -/
/-- 110 Treegrab.parent(II)I -/
theorem zi_110_0 : zraw 110 0 = some (.aload_n 0, 1) ∧ 0 + 1 = 1 := by decide +kernel
theorem zi_110_1 : zraw 110 1 = some (.iload_n 1, 1) ∧ 1 + 1 = 2 := by decide +kernel
theorem zi_110_2 : zraw 110 2 = some (.iload_n 2, 1) ∧ 2 + 1 = 3 := by decide +kernel
theorem zi_110_3 : zraw 110 3 = some (.invokevirtual 161, 3) ∧ zmt (zinf 110).1 161 = some 127 ∧ Nat.ble 9000 127 = false ∧ zinf 127 = (9, 3, 3, 0, 0) ∧ 3 + 3 = 6 := by decide +kernel
theorem zi_110_6 : zraw 110 6 = some (.aload_n 0, 1) ∧ 6 + 1 = 7 := by decide +kernel
theorem zi_110_7 : zraw 110 7 = some (.getfield 19, 3) ∧ zft (zinf 110).1 19 = some (9, 1, 3, true) ∧ 7 + 3 = 10 := by decide +kernel
theorem zi_110_10 : zraw 110 10 = some (.iload_n 1, 1) ∧ 10 + 1 = 11 := by decide +kernel
theorem zi_110_11 : zraw 110 11 = some (.aaload, 1) ∧ 11 + 1 = 12 := by decide +kernel
theorem zi_110_12 : zraw 110 12 = some (.getfield 165, 3) ∧ zft (zinf 110).1 165 = some (8, 2, 3, true) ∧ 12 + 3 = 15 := by decide +kernel
theorem zi_110_15 : zraw 110 15 = some (.iload_n 2, 1) ∧ 15 + 1 = 16 := by decide +kernel
theorem zi_110_16 : zraw 110 16 = some (.iaload, 1) ∧ 16 + 1 = 17 := by decide +kernel
theorem zi_110_17 : zraw 110 17 = some (.ireturn, 1) ∧ (zinf 110).2.2.2.1 = 1 := by decide +kernel
theorem ze_110 {K : List zF} {σ : zW} {x1 : Int} {x2 : Int} (hK : K.length < 60) : zEv true (zent 110 [.inr (.inr 1), .inl x1, .inl x2] :: K) σ = (zEv true (zent 127 [.inr (.inr 1), .inl x1, .inl x2] :: (110, 6, [some (.inr (.inr 1)), some (.inl x1), some (.inl x2)], []) :: K) σ) :=
  yT_en (f := (110, 0, [some (.inr (.inr 1)), some (.inl x1), some (.inl x2)], [])) rfl (yI_aload_n zi_110_0 rfl <| yI_iload_n zi_110_1 rfl <| yI_iload_n zi_110_2 rfl <| yI_cv zi_110_3 rfl rfl zk_1 hK)
theorem zr_110_6 {K : List zF} {σ : zW} {x1 : Int} {x2 : Int} (h1 : zTr (gR σ 4 x1.toNat)) : zRet true ((110, 6, [some (.inr (.inr 1)), some (.inl x1), some (.inl x2)], []) :: K) none σ = ((0 ≤ x1 ∧ x1 < 3) ∧ ((0 ≤ x2 ∧ x2 < 20) ∧ zRet true K (some (.inl (gI σ ((gR σ 4 x1.toNat) + 3) x2.toNat))) σ)) :=
  yT_rv (yI_aload_n zi_110_6 rfl <| yI_gf_f (v := 4) zi_110_7 zk_1 rfl <| yI_iload_n zi_110_10 rfl <| yI_aaloadc (v := gR σ 4 x1.toNat) zi_110_11 za_4 rfl <| yI_gf_f (v := (gR σ 4 x1.toNat) + 3) zi_110_12 (zTr_k h1) rfl <| yI_iload_n zi_110_15 rfl <| yI_ialoadc (v := gI σ ((gR σ 4 x1.toNat) + 3) x2.toNat) zi_110_16 (zTr_a3 h1) rfl <| yI_ireturn zi_110_17)
/-- 111 Treegrab.children(II)I -/
theorem zi_111_0 : zraw 111 0 = some (.aload_n 0, 1) ∧ 0 + 1 = 1 := by decide +kernel
theorem zi_111_1 : zraw 111 1 = some (.iload_n 1, 1) ∧ 1 + 1 = 2 := by decide +kernel
theorem zi_111_2 : zraw 111 2 = some (.iload_n 2, 1) ∧ 2 + 1 = 3 := by decide +kernel
theorem zi_111_3 : zraw 111 3 = some (.invokevirtual 161, 3) ∧ zmt (zinf 111).1 161 = some 127 ∧ Nat.ble 9000 127 = false ∧ zinf 127 = (9, 3, 3, 0, 0) ∧ 3 + 3 = 6 := by decide +kernel
theorem zi_111_6 : zraw 111 6 = some (.aload_n 0, 1) ∧ 6 + 1 = 7 := by decide +kernel
theorem zi_111_7 : zraw 111 7 = some (.getfield 19, 3) ∧ zft (zinf 111).1 19 = some (9, 1, 3, true) ∧ 7 + 3 = 10 := by decide +kernel
theorem zi_111_10 : zraw 111 10 = some (.iload_n 1, 1) ∧ 10 + 1 = 11 := by decide +kernel
theorem zi_111_11 : zraw 111 11 = some (.aaload, 1) ∧ 11 + 1 = 12 := by decide +kernel
theorem zi_111_12 : zraw 111 12 = some (.getfield 169, 3) ∧ zft (zinf 111).1 169 = some (8, 4, 3, true) ∧ 12 + 3 = 15 := by decide +kernel
theorem zi_111_15 : zraw 111 15 = some (.iload_n 2, 1) ∧ 15 + 1 = 16 := by decide +kernel
theorem zi_111_16 : zraw 111 16 = some (.iaload, 1) ∧ 16 + 1 = 17 := by decide +kernel
theorem zi_111_17 : zraw 111 17 = some (.ireturn, 1) ∧ (zinf 111).2.2.2.1 = 1 := by decide +kernel
theorem ze_111 {K : List zF} {σ : zW} {x1 : Int} {x2 : Int} (hK : K.length < 60) : zEv true (zent 111 [.inr (.inr 1), .inl x1, .inl x2] :: K) σ = (zEv true (zent 127 [.inr (.inr 1), .inl x1, .inl x2] :: (111, 6, [some (.inr (.inr 1)), some (.inl x1), some (.inl x2)], []) :: K) σ) :=
  yT_en (f := (111, 0, [some (.inr (.inr 1)), some (.inl x1), some (.inl x2)], [])) rfl (yI_aload_n zi_111_0 rfl <| yI_iload_n zi_111_1 rfl <| yI_iload_n zi_111_2 rfl <| yI_cv zi_111_3 rfl rfl zk_1 hK)
theorem zr_111_6 {K : List zF} {σ : zW} {x1 : Int} {x2 : Int} (h1 : zTr (gR σ 4 x1.toNat)) : zRet true ((111, 6, [some (.inr (.inr 1)), some (.inl x1), some (.inl x2)], []) :: K) none σ = ((0 ≤ x1 ∧ x1 < 3) ∧ ((0 ≤ x2 ∧ x2 < 20) ∧ zRet true K (some (.inl (gI σ ((gR σ 4 x1.toNat) + 5) x2.toNat))) σ)) :=
  yT_rv (yI_aload_n zi_111_6 rfl <| yI_gf_f (v := 4) zi_111_7 zk_1 rfl <| yI_iload_n zi_111_10 rfl <| yI_aaloadc (v := gR σ 4 x1.toNat) zi_111_11 za_4 rfl <| yI_gf_f (v := (gR σ 4 x1.toNat) + 5) zi_111_12 (zTr_k h1) rfl <| yI_iload_n zi_111_15 rfl <| yI_ialoadc (v := gI σ ((gR σ 4 x1.toNat) + 5) x2.toNat) zi_111_16 (zTr_a5 h1) rfl <| yI_ireturn zi_111_17)
/-- 112 Treegrab.wordOf(IIZ)I -/
theorem zi_112_0 : zraw 112 0 = some (.aload_n 0, 1) ∧ 0 + 1 = 1 := by decide +kernel
theorem zi_112_1 : zraw 112 1 = some (.iload_n 1, 1) ∧ 1 + 1 = 2 := by decide +kernel
theorem zi_112_2 : zraw 112 2 = some (.iload_n 2, 1) ∧ 2 + 1 = 3 := by decide +kernel
theorem zi_112_3 : zraw 112 3 = some (.invokevirtual 161, 3) ∧ zmt (zinf 112).1 161 = some 127 ∧ Nat.ble 9000 127 = false ∧ zinf 127 = (9, 3, 3, 0, 0) ∧ 3 + 3 = 6 := by decide +kernel
theorem zi_112_6 : zraw 112 6 = some (.iload_n 3, 1) ∧ 6 + 1 = 7 := by decide +kernel
theorem zi_112_7 : zraw 112 7 = some (.ifCond .eq 17, 3) ∧ ((7 : Nat) : Int) + 17 = Int.ofNat 24 ∧ 7 + 3 = 10 := by decide +kernel
theorem zi_112_10 : zraw 112 10 = some (.aload_n 0, 1) ∧ 10 + 1 = 11 := by decide +kernel
theorem zi_112_11 : zraw 112 11 = some (.getfield 19, 3) ∧ zft (zinf 112).1 19 = some (9, 1, 3, true) ∧ 11 + 3 = 14 := by decide +kernel
theorem zi_112_14 : zraw 112 14 = some (.iload_n 1, 1) ∧ 14 + 1 = 15 := by decide +kernel
theorem zi_112_15 : zraw 112 15 = some (.aaload, 1) ∧ 15 + 1 = 16 := by decide +kernel
theorem zi_112_16 : zraw 112 16 = some (.getfield 172, 3) ∧ zft (zinf 112).1 172 = some (8, 7, 3, true) ∧ 16 + 3 = 19 := by decide +kernel
theorem zi_112_19 : zraw 112 19 = some (.iload_n 2, 1) ∧ 19 + 1 = 20 := by decide +kernel
theorem zi_112_20 : zraw 112 20 = some (.iaload, 1) ∧ 20 + 1 = 21 := by decide +kernel
theorem zi_112_21 : zraw 112 21 = some (.goto 14, 3) ∧ ((21 : Nat) : Int) + 14 = Int.ofNat 35 := by decide +kernel
theorem zi_112_24 : zraw 112 24 = some (.aload_n 0, 1) ∧ 24 + 1 = 25 := by decide +kernel
theorem zi_112_25 : zraw 112 25 = some (.getfield 19, 3) ∧ zft (zinf 112).1 19 = some (9, 1, 3, true) ∧ 25 + 3 = 28 := by decide +kernel
theorem zi_112_28 : zraw 112 28 = some (.iload_n 1, 1) ∧ 28 + 1 = 29 := by decide +kernel
theorem zi_112_29 : zraw 112 29 = some (.aaload, 1) ∧ 29 + 1 = 30 := by decide +kernel
theorem zi_112_30 : zraw 112 30 = some (.getfield 175, 3) ∧ zft (zinf 112).1 175 = some (8, 6, 3, true) ∧ 30 + 3 = 33 := by decide +kernel
theorem zi_112_33 : zraw 112 33 = some (.iload_n 2, 1) ∧ 33 + 1 = 34 := by decide +kernel
theorem zi_112_34 : zraw 112 34 = some (.iaload, 1) ∧ 34 + 1 = 35 := by decide +kernel
theorem zi_112_35 : zraw 112 35 = some (.ireturn, 1) ∧ (zinf 112).2.2.2.1 = 1 := by decide +kernel
theorem ze_112 {K : List zF} {σ : zW} {x1 : Int} {x2 : Int} {x3 : Int} (hK : K.length < 60) : zEv true (zent 112 [.inr (.inr 1), .inl x1, .inl x2, .inl x3] :: K) σ = (zEv true (zent 127 [.inr (.inr 1), .inl x1, .inl x2] :: (112, 6, [some (.inr (.inr 1)), some (.inl x1), some (.inl x2), some (.inl x3)], []) :: K) σ) :=
  yT_en (f := (112, 0, [some (.inr (.inr 1)), some (.inl x1), some (.inl x2), some (.inl x3)], [])) rfl (yI_aload_n zi_112_0 rfl <| yI_iload_n zi_112_1 rfl <| yI_iload_n zi_112_2 rfl <| yI_cv zi_112_3 rfl rfl zk_1 hK)
theorem zr_112_6 {K : List zF} {σ : zW} {x1 : Int} {x2 : Int} {x3 : Int} (h1 : zTr (gR σ 4 x1.toNat)) : zRet true ((112, 6, [some (.inr (.inr 1)), some (.inl x1), some (.inl x2), some (.inl x3)], []) :: K) none σ = (((x3 = 0) → ((0 ≤ x1 ∧ x1 < 3) ∧ (0 ≤ x2 ∧ x2 < 20))) ∧ ((¬ (x3 = 0) → ((0 ≤ x1 ∧ x1 < 3) ∧ (0 ≤ x2 ∧ x2 < 20))) ∧ zRet true K (some (.inl (if x3 = 0 then gI σ ((gR σ 4 x1.toNat) + 7) x2.toNat else gI σ ((gR σ 4 x1.toNat) + 8) x2.toNat : Int))) σ)) :=
  yT_rv (yI_iload_n zi_112_6 rfl <| yI_if_eq zi_112_7 <| yMi3 (j := 35) (ls2 := [some (.inr (.inr 1)), some (.inl x1), some (.inl x2), some (.inl x3)]) (st2 := []) (x := gI σ ((gR σ 4 x1.toNat) + 7) x2.toNat) (y := gI σ ((gR σ 4 x1.toNat) + 8) x2.toNat) (σ2 := σ) ((yI_aload_n zi_112_24 rfl <| yI_gf_f (v := 4) zi_112_25 zk_1 rfl <| yI_iload_n zi_112_28 rfl <| yI_aaloadc (v := gR σ 4 x1.toNat) zi_112_29 za_4 rfl <| yI_gf_f (v := (gR σ 4 x1.toNat) + 7) zi_112_30 (zTr_k h1) rfl <| yI_iload_n zi_112_33 rfl <| yI_ialoadc (v := gI σ ((gR σ 4 x1.toNat) + 7) x2.toNat) zi_112_34 (zTr_a7 h1) rfl <| rfl).trans (propext and_assoc.symm)) ((yI_aload_n zi_112_10 rfl <| yI_gf_f (v := 4) zi_112_11 zk_1 rfl <| yI_iload_n zi_112_14 rfl <| yI_aaloadc (v := gR σ 4 x1.toNat) zi_112_15 za_4 rfl <| yI_gf_f (v := (gR σ 4 x1.toNat) + 8) zi_112_16 (zTr_k h1) rfl <| yI_iload_n zi_112_19 rfl <| yI_ialoadc (v := gI σ ((gR σ 4 x1.toNat) + 8) x2.toNat) zi_112_20 (zTr_a8 h1) rfl <| yI_goto zi_112_21 <| rfl).trans (propext and_assoc.symm)) <| yI_ireturn zi_112_35)
/-- 113 Treegrab.withLabel(I)I -/
theorem zi_113_0 : zraw 113 0 = some (.aload_n 0, 1) ∧ 0 + 1 = 1 := by decide +kernel
theorem zi_113_1 : zraw 113 1 = some (.getfield 10, 3) ∧ zft (zinf 113).1 10 = some (9, 0, 3, true) ∧ 1 + 3 = 4 := by decide +kernel
theorem zi_113_4 : zraw 113 4 = some (.invokevirtual 178, 3) ∧ zmt (zinf 113).1 178 = some 90 ∧ Nat.ble 9000 90 = false ∧ zinf 90 = (7, 1, 2, 3, 0) ∧ 4 + 3 = 7 := by decide +kernel
theorem zi_113_7 : zraw 113 7 = some (.lstore_n 2, 1) ∧ 7 + 1 = 8 := by decide +kernel
theorem zi_113_8 : zraw 113 8 = some (.aload_n 0, 1) ∧ 8 + 1 = 9 := by decide +kernel
theorem zi_113_9 : zraw 113 9 = some (.getfield 10, 3) ∧ zft (zinf 113).1 10 = some (9, 0, 3, true) ∧ 9 + 3 = 12 := by decide +kernel
theorem zi_113_12 : zraw 113 12 = some (.invokevirtual 112, 3) ∧ zmt (zinf 113).1 112 = some 82 ∧ Nat.ble 9000 82 = false ∧ zinf 82 = (7, 1, 1, 0, 0) ∧ 12 + 3 = 15 := by decide +kernel
theorem zi_113_15 : zraw 113 15 = some (.iload_n 1, 1) ∧ 15 + 1 = 16 := by decide +kernel
theorem zi_113_16 : zraw 113 16 = some (.invokestatic 158, 3) ∧ zmt (zinf 113).1 158 = some 126 ∧ Nat.ble 9000 126 = false ∧ zinf 126 = (9, 1, 1, 0, 1) ∧ 16 + 3 = 19 := by decide +kernel
theorem zi_113_19 : zraw 113 19 = some (.lload_n 2, 1) ∧ 19 + 1 = 20 := by decide +kernel
theorem zi_113_20 : zraw 113 20 = some (.lconst 0, 1) ∧ (bif Nat.beq (0 : Fin 2).val 0 then (0 : Int64) else 1) = 0 ∧ 20 + 1 = 21 := by decide +kernel
theorem zi_113_21 : zraw 113 21 = some (.lcmp, 1) ∧ 21 + 1 = 22 := by decide +kernel
theorem zi_113_22 : zraw 113 22 = some (.ifCond .ne 7, 3) ∧ ((22 : Nat) : Int) + 7 = Int.ofNat 29 ∧ 22 + 3 = 25 := by decide +kernel
theorem zi_113_25 : zraw 113 25 = some (.iconst 0, 1) ∧ zin 128 0 = true ∧ 25 + 1 = 26 := by decide +kernel
theorem zi_113_26 : zraw 113 26 = some (.goto 13, 3) ∧ ((26 : Nat) : Int) + 13 = Int.ofNat 39 := by decide +kernel
theorem zi_113_29 : zraw 113 29 = some (.aload_n 0, 1) ∧ 29 + 1 = 30 := by decide +kernel
theorem zi_113_30 : zraw 113 30 = some (.getfield 19, 3) ∧ zft (zinf 113).1 19 = some (9, 1, 3, true) ∧ 30 + 3 = 33 := by decide +kernel
theorem zi_113_33 : zraw 113 33 = some (.iload_n 1, 1) ∧ 33 + 1 = 34 := by decide +kernel
theorem zi_113_34 : zraw 113 34 = some (.aaload, 1) ∧ 34 + 1 = 35 := by decide +kernel
theorem zi_113_35 : zraw 113 35 = some (.lload_n 2, 1) ∧ 35 + 1 = 36 := by decide +kernel
theorem zi_113_36 : zraw 113 36 = some (.invokevirtual 182, 3) ∧ zmt (zinf 113).1 182 = some 99 ∧ Nat.ble 9000 99 = false ∧ zinf 99 = (8, 2, 4, 1, 0) ∧ 36 + 3 = 39 := by decide +kernel
theorem zi_113_39 : zraw 113 39 = some (.ireturn, 1) ∧ (zinf 113).2.2.2.1 = 1 := by decide +kernel
theorem ze_113 {K : List zF} {σ : zW} {x1 : Int} (hK : K.length < 60) : zEv true (zent 113 [.inr (.inr 1), .inl x1] :: K) σ = (zEv true (zent 90 [.inr (.inr 2)] :: (113, 7, [some (.inr (.inr 1)), some (.inl x1), none, none], []) :: K) σ) :=
  yT_en (f := (113, 0, [some (.inr (.inr 1)), some (.inl x1), none, none], [])) rfl (yI_aload_n zi_113_0 rfl <| yI_gf_f (v := 2) zi_113_1 zk_1 rfl <| yI_cv zi_113_4 rfl rfl zk_2 hK)
theorem zr_113_7 {K : List zF} {σ : zW} {x1 : Int} {o2 : Option zV} {o3 : Option zV} {v : Int64} (hK : K.length < 60) : zRet true ((113, 7, [some (.inr (.inr 1)), some (.inl x1), o2, o3], []) :: K) (some (.inr (.inl v))) σ = (zEv true (zent 82 [.inr (.inr 2)] :: (113, 15, [some (.inr (.inr 1)), some (.inl x1), some (.inr (.inl v)), none], []) :: K) σ) :=
  yT_rt (yI_lstore_n (l := [some (.inr (.inr 1)), some (.inl x1), some (.inr (.inl v)), none]) zi_113_7 rfl rfl <| yI_aload_n zi_113_8 rfl <| yI_gf_f (v := 2) zi_113_9 zk_1 rfl <| yI_cv zi_113_12 rfl rfl zk_2 hK)
theorem zr_113_15 {K : List zF} {σ : zW} {x1 : Int} {x2 : Int64} (hK : K.length < 60) : zRet true ((113, 15, [some (.inr (.inr 1)), some (.inl x1), some (.inr (.inl x2)), none], []) :: K) none σ = (zEv true (zent 126 [.inl x1] :: (113, 19, [some (.inr (.inr 1)), some (.inl x1), some (.inr (.inl x2)), none], []) :: K) σ) :=
  yT_rv (yI_iload_n zi_113_15 rfl <| yI_cs zi_113_16 rfl rfl hK)
theorem zr_113_19 {K : List zF} {σ : zW} {x1 : Int} {x2 : Int64} (hK : K.length < 60) (h1 : zTr (gR σ 4 x1.toNat)) : zRet true ((113, 19, [some (.inr (.inr 1)), some (.inl x1), some (.inr (.inl x2)), none], []) :: K) none σ = (if ¬ (zlc x2 0) = 0 then (0 ≤ x1 ∧ x1 < 3) ∧ zEv true (zent 99 [.inr (.inr (gR σ 4 x1.toNat)), .inr (.inl x2)] :: (113, 39, [some (.inr (.inr 1)), some (.inl x1), some (.inr (.inl x2)), none], []) :: K) σ else zRet true K (some (.inl 0)) σ) :=
  yT_rv (yI_lload_n zi_113_19 rfl <| yI_lconst zi_113_20 <| yI_lcmp zi_113_21 <| yI_if_ne zi_113_22 <| yBr (yI_aload_n zi_113_29 rfl <| yI_gf_f (v := 4) zi_113_30 zk_1 rfl <| yI_iload_n zi_113_33 rfl <| yI_aaloadc (v := gR σ 4 x1.toNat) zi_113_34 za_4 rfl <| yI_lload_n zi_113_35 rfl <| yI_cv zi_113_36 rfl rfl (zTr_k h1) hK) (yI_iconst zi_113_25 <| yI_goto zi_113_26 <| yI_ireturn zi_113_39))
theorem zr_113_39 {K : List zF} {σ : zW} {o0 : Option zV} {o1 : Option zV} {o2 : Option zV} {o3 : Option zV} {v : Int} : zRet true ((113, 39, [o0, o1, o2, o3], []) :: K) (some (.inl v)) σ = (zRet true K (some (.inl v)) σ) :=
  yT_rt (yI_ireturn zi_113_39)
/-- 114 Treegrab.withLabelByWalk(I)I -/
theorem zi_114_0 : zraw 114 0 = some (.aload_n 0, 1) ∧ 0 + 1 = 1 := by decide +kernel
theorem zi_114_1 : zraw 114 1 = some (.getfield 10, 3) ∧ zft (zinf 114).1 10 = some (9, 0, 3, true) ∧ 1 + 3 = 4 := by decide +kernel
theorem zi_114_4 : zraw 114 4 = some (.getfield 96, 3) ∧ zft (zinf 114).1 96 = some (7, 1, 0, false) ∧ 4 + 3 = 7 := by decide +kernel
theorem zi_114_7 : zraw 114 7 = some (.istore_n 2, 1) ∧ 7 + 1 = 8 := by decide +kernel
theorem zi_114_8 : zraw 114 8 = some (.aload_n 0, 1) ∧ 8 + 1 = 9 := by decide +kernel
theorem zi_114_9 : zraw 114 9 = some (.getfield 10, 3) ∧ zft (zinf 114).1 10 = some (9, 0, 3, true) ∧ 9 + 3 = 12 := by decide +kernel
theorem zi_114_12 : zraw 114 12 = some (.invokevirtual 112, 3) ∧ zmt (zinf 114).1 112 = some 82 ∧ Nat.ble 9000 82 = false ∧ zinf 82 = (7, 1, 1, 0, 0) ∧ 12 + 3 = 15 := by decide +kernel
theorem zi_114_15 : zraw 114 15 = some (.iload_n 1, 1) ∧ 15 + 1 = 16 := by decide +kernel
theorem zi_114_16 : zraw 114 16 = some (.invokestatic 158, 3) ∧ zmt (zinf 114).1 158 = some 126 ∧ Nat.ble 9000 126 = false ∧ zinf 126 = (9, 1, 1, 0, 1) ∧ 16 + 3 = 19 := by decide +kernel
theorem zi_114_19 : zraw 114 19 = some (.aload_n 0, 1) ∧ 19 + 1 = 20 := by decide +kernel
theorem zi_114_20 : zraw 114 20 = some (.getfield 19, 3) ∧ zft (zinf 114).1 19 = some (9, 1, 3, true) ∧ 20 + 3 = 23 := by decide +kernel
theorem zi_114_23 : zraw 114 23 = some (.iload_n 1, 1) ∧ 23 + 1 = 24 := by decide +kernel
theorem zi_114_24 : zraw 114 24 = some (.aaload, 1) ∧ 24 + 1 = 25 := by decide +kernel
theorem zi_114_25 : zraw 114 25 = some (.aload_n 0, 1) ∧ 25 + 1 = 26 := by decide +kernel
theorem zi_114_26 : zraw 114 26 = some (.getfield 10, 3) ∧ zft (zinf 114).1 10 = some (9, 0, 3, true) ∧ 26 + 3 = 29 := by decide +kernel
theorem zi_114_29 : zraw 114 29 = some (.getfield 186, 3) ∧ zft (zinf 114).1 186 = some (7, 0, 3, true) ∧ 29 + 3 = 32 := by decide +kernel
theorem zi_114_32 : zraw 114 32 = some (.iload_n 2, 1) ∧ 32 + 1 = 33 := by decide +kernel
theorem zi_114_33 : zraw 114 33 = some (.invokevirtual 189, 3) ∧ zmt (zinf 114).1 189 = some 100 ∧ Nat.ble 9000 100 = false ∧ zinf 100 = (8, 3, 5, 1, 0) ∧ 33 + 3 = 36 := by decide +kernel
theorem zi_114_36 : zraw 114 36 = some (.ireturn, 1) ∧ (zinf 114).2.2.2.1 = 1 := by decide +kernel
theorem ze_114 {K : List zF} {σ : zW} {x1 : Int} (hK : K.length < 60) : zEv true (zent 114 [.inr (.inr 1), .inl x1] :: K) σ = (zEv true (zent 82 [.inr (.inr 2)] :: (114, 15, [some (.inr (.inr 1)), some (.inl x1), some (.inl (gI σ 2 1))], []) :: K) σ) :=
  yT_en (f := (114, 0, [some (.inr (.inr 1)), some (.inl x1), none], [])) rfl (yI_aload_n zi_114_0 rfl <| yI_gf_f (v := 2) zi_114_1 zk_1 rfl <| yI_gf_i (v := gI σ 2 1) zi_114_4 zk_2 rfl <| yI_istore_n (l := [some (.inr (.inr 1)), some (.inl x1), some (.inl (gI σ 2 1))]) zi_114_7 rfl rfl <| yI_aload_n zi_114_8 rfl <| yI_gf_f (v := 2) zi_114_9 zk_1 rfl <| yI_cv zi_114_12 rfl rfl zk_2 hK)
theorem zr_114_15 {K : List zF} {σ : zW} {x1 : Int} {x2 : Int} (hK : K.length < 60) : zRet true ((114, 15, [some (.inr (.inr 1)), some (.inl x1), some (.inl x2)], []) :: K) none σ = (zEv true (zent 126 [.inl x1] :: (114, 19, [some (.inr (.inr 1)), some (.inl x1), some (.inl x2)], []) :: K) σ) :=
  yT_rv (yI_iload_n zi_114_15 rfl <| yI_cs zi_114_16 rfl rfl hK)
theorem zr_114_19 {K : List zF} {σ : zW} {x1 : Int} {x2 : Int} (hK : K.length < 60) (h1 : zTr (gR σ 4 x1.toNat)) : zRet true ((114, 19, [some (.inr (.inr 1)), some (.inl x1), some (.inl x2)], []) :: K) none σ = ((0 ≤ x1 ∧ x1 < 3) ∧ zEv true (zent 100 [.inr (.inr (gR σ 4 x1.toNat)), .inr (.inr 3), .inl x2] :: (114, 36, [some (.inr (.inr 1)), some (.inl x1), some (.inl x2)], []) :: K) σ) :=
  yT_rv (yI_aload_n zi_114_19 rfl <| yI_gf_f (v := 4) zi_114_20 zk_1 rfl <| yI_iload_n zi_114_23 rfl <| yI_aaloadc (v := gR σ 4 x1.toNat) zi_114_24 za_4 rfl <| yI_aload_n zi_114_25 rfl <| yI_gf_f (v := 2) zi_114_26 zk_1 rfl <| yI_gf_f (v := 3) zi_114_29 zk_2 rfl <| yI_iload_n zi_114_32 rfl <| yI_cv zi_114_33 rfl rfl (zTr_k h1) hK)
theorem zr_114_36 {K : List zF} {σ : zW} {o0 : Option zV} {o1 : Option zV} {o2 : Option zV} {v : Int} : zRet true ((114, 36, [o0, o1, o2], []) :: K) (some (.inl v)) σ = (zRet true K (some (.inl v)) σ) :=
  yT_rt (yI_ireturn zi_114_36)
/-- 115 Treegrab.matches(I)I -/
theorem zi_115_0 : zraw 115 0 = some (.iload_n 1, 1) ∧ 0 + 1 = 1 := by decide +kernel
theorem zi_115_1 : zraw 115 1 = some (.invokestatic 158, 3) ∧ zmt (zinf 115).1 158 = some 126 ∧ Nat.ble 9000 126 = false ∧ zinf 126 = (9, 1, 1, 0, 1) ∧ 1 + 3 = 4 := by decide +kernel
theorem zi_115_4 : zraw 115 4 = some (.aload_n 0, 1) ∧ 4 + 1 = 5 := by decide +kernel
theorem zi_115_5 : zraw 115 5 = some (.iload_n 1, 1) ∧ 5 + 1 = 6 := by decide +kernel
theorem zi_115_6 : zraw 115 6 = some (.invokevirtual 193, 3) ∧ zmt (zinf 115).1 193 = some 133 ∧ Nat.ble 9000 133 = false ∧ zinf 133 = (9, 2, 2, 0, 0) ∧ 6 + 3 = 9 := by decide +kernel
theorem zi_115_9 : zraw 115 9 = some (.aload_n 0, 1) ∧ 9 + 1 = 10 := by decide +kernel
theorem zi_115_10 : zraw 115 10 = some (.getfield 33, 3) ∧ zft (zinf 115).1 33 = some (9, 3, 3, true) ∧ 10 + 3 = 13 := by decide +kernel
theorem zi_115_13 : zraw 115 13 = some (.getfield 196, 3) ∧ zft (zinf 115).1 196 = some (1, 5, 0, false) ∧ 13 + 3 = 16 := by decide +kernel
theorem zi_115_16 : zraw 115 16 = some (.ireturn, 1) ∧ (zinf 115).2.2.2.1 = 1 := by decide +kernel
theorem ze_115 {K : List zF} {σ : zW} {x1 : Int} (hK : K.length < 60) : zEv true (zent 115 [.inr (.inr 1), .inl x1] :: K) σ = (zEv true (zent 126 [.inl x1] :: (115, 4, [some (.inr (.inr 1)), some (.inl x1)], []) :: K) σ) :=
  yT_en (f := (115, 0, [some (.inr (.inr 1)), some (.inl x1)], [])) rfl (yI_iload_n zi_115_0 rfl <| yI_cs zi_115_1 rfl rfl hK)
theorem zr_115_4 {K : List zF} {σ : zW} {x1 : Int} (hK : K.length < 60) : zRet true ((115, 4, [some (.inr (.inr 1)), some (.inl x1)], []) :: K) none σ = (zEv true (zent 133 [.inr (.inr 1), .inl x1] :: (115, 9, [some (.inr (.inr 1)), some (.inl x1)], []) :: K) σ) :=
  yT_rv (yI_aload_n zi_115_4 rfl <| yI_iload_n zi_115_5 rfl <| yI_cv zi_115_6 rfl rfl zk_1 hK)
theorem zr_115_9 {K : List zF} {σ : zW} {o1 : Option zV} : zRet true ((115, 9, [some (.inr (.inr 1)), o1], []) :: K) none σ = (zRet true K (some (.inl (gI σ 50 5))) σ) :=
  yT_rv (yI_aload_n zi_115_9 rfl <| yI_gf_f (v := 50) zi_115_10 zk_1 rfl <| yI_gf_i (v := gI σ 50 5) zi_115_13 zk_50 rfl <| yI_ireturn zi_115_16)
/-- 116 Treegrab.matchesByTrying(I)I -/
theorem zi_116_0 : zraw 116 0 = some (.iload_n 1, 1) ∧ 0 + 1 = 1 := by decide +kernel
theorem zi_116_1 : zraw 116 1 = some (.invokestatic 158, 3) ∧ zmt (zinf 116).1 158 = some 126 ∧ Nat.ble 9000 126 = false ∧ zinf 126 = (9, 1, 1, 0, 1) ∧ 1 + 3 = 4 := by decide +kernel
theorem zi_116_4 : zraw 116 4 = some (.aload_n 0, 1) ∧ 4 + 1 = 5 := by decide +kernel
theorem zi_116_5 : zraw 116 5 = some (.iload_n 1, 1) ∧ 5 + 1 = 6 := by decide +kernel
theorem zi_116_6 : zraw 116 6 = some (.invokevirtual 197, 3) ∧ zmt (zinf 116).1 197 = some 134 ∧ Nat.ble 9000 134 = false ∧ zinf 134 = (9, 2, 2, 0, 0) ∧ 6 + 3 = 9 := by decide +kernel
theorem zi_116_9 : zraw 116 9 = some (.aload_n 0, 1) ∧ 9 + 1 = 10 := by decide +kernel
theorem zi_116_10 : zraw 116 10 = some (.getfield 37, 3) ∧ zft (zinf 116).1 37 = some (9, 4, 3, true) ∧ 10 + 3 = 13 := by decide +kernel
theorem zi_116_13 : zraw 116 13 = some (.getfield 196, 3) ∧ zft (zinf 116).1 196 = some (1, 5, 0, false) ∧ 13 + 3 = 16 := by decide +kernel
theorem zi_116_16 : zraw 116 16 = some (.ireturn, 1) ∧ (zinf 116).2.2.2.1 = 1 := by decide +kernel
theorem ze_116 {K : List zF} {σ : zW} {x1 : Int} (hK : K.length < 60) : zEv true (zent 116 [.inr (.inr 1), .inl x1] :: K) σ = (zEv true (zent 126 [.inl x1] :: (116, 4, [some (.inr (.inr 1)), some (.inl x1)], []) :: K) σ) :=
  yT_en (f := (116, 0, [some (.inr (.inr 1)), some (.inl x1)], [])) rfl (yI_iload_n zi_116_0 rfl <| yI_cs zi_116_1 rfl rfl hK)
theorem zr_116_4 {K : List zF} {σ : zW} {x1 : Int} (hK : K.length < 60) : zRet true ((116, 4, [some (.inr (.inr 1)), some (.inl x1)], []) :: K) none σ = (zEv true (zent 134 [.inr (.inr 1), .inl x1] :: (116, 9, [some (.inr (.inr 1)), some (.inl x1)], []) :: K) σ) :=
  yT_rv (yI_aload_n zi_116_4 rfl <| yI_iload_n zi_116_5 rfl <| yI_cv zi_116_6 rfl rfl zk_1 hK)
theorem zr_116_9 {K : List zF} {σ : zW} {o1 : Option zV} : zRet true ((116, 9, [some (.inr (.inr 1)), o1], []) :: K) none σ = (zRet true K (some (.inl (gI σ 52 5))) σ) :=
  yT_rv (yI_aload_n zi_116_9 rfl <| yI_gf_f (v := 52) zi_116_10 zk_1 rfl <| yI_gf_i (v := gI σ 52 5) zi_116_13 zk_52 rfl <| yI_ireturn zi_116_16)
/-- 117 Treegrab.matchAt(III)I -/
theorem zi_117_0 : zraw 117 0 = some (.iload_n 1, 1) ∧ 0 + 1 = 1 := by decide +kernel
theorem zi_117_1 : zraw 117 1 = some (.invokestatic 158, 3) ∧ zmt (zinf 117).1 158 = some 126 ∧ Nat.ble 9000 126 = false ∧ zinf 126 = (9, 1, 1, 0, 1) ∧ 1 + 3 = 4 := by decide +kernel
theorem zi_117_4 : zraw 117 4 = some (.aload_n 0, 1) ∧ 4 + 1 = 5 := by decide +kernel
theorem zi_117_5 : zraw 117 5 = some (.iload_n 1, 1) ∧ 5 + 1 = 6 := by decide +kernel
theorem zi_117_6 : zraw 117 6 = some (.invokevirtual 193, 3) ∧ zmt (zinf 117).1 193 = some 133 ∧ Nat.ble 9000 133 = false ∧ zinf 133 = (9, 2, 2, 0, 0) ∧ 6 + 3 = 9 := by decide +kernel
theorem zi_117_9 : zraw 117 9 = some (.aload_n 0, 1) ∧ 9 + 1 = 10 := by decide +kernel
theorem zi_117_10 : zraw 117 10 = some (.aload_n 0, 1) ∧ 10 + 1 = 11 := by decide +kernel
theorem zi_117_11 : zraw 117 11 = some (.getfield 33, 3) ∧ zft (zinf 117).1 33 = some (9, 3, 3, true) ∧ 11 + 3 = 14 := by decide +kernel
theorem zi_117_14 : zraw 117 14 = some (.iload_n 2, 1) ∧ 14 + 1 = 15 := by decide +kernel
theorem zi_117_15 : zraw 117 15 = some (.iload_n 3, 1) ∧ 15 + 1 = 16 := by decide +kernel
theorem zi_117_16 : zraw 117 16 = some (.invokevirtual 200, 3) ∧ zmt (zinf 117).1 200 = some 128 ∧ Nat.ble 9000 128 = false ∧ zinf 128 = (9, 4, 4, 0, 0) ∧ 16 + 3 = 19 := by decide +kernel
theorem zi_117_19 : zraw 117 19 = some (.aload_n 0, 1) ∧ 19 + 1 = 20 := by decide +kernel
theorem zi_117_20 : zraw 117 20 = some (.getfield 33, 3) ∧ zft (zinf 117).1 33 = some (9, 3, 3, true) ∧ 20 + 3 = 23 := by decide +kernel
theorem zi_117_23 : zraw 117 23 = some (.iload_n 2, 1) ∧ 23 + 1 = 24 := by decide +kernel
theorem zi_117_24 : zraw 117 24 = some (.iload_n 3, 1) ∧ 24 + 1 = 25 := by decide +kernel
theorem zi_117_25 : zraw 117 25 = some (.invokevirtual 204, 3) ∧ zmt (zinf 117).1 204 = some 26 ∧ Nat.ble 9000 26 = false ∧ zinf 26 = (1, 3, 5, 1, 0) ∧ 25 + 3 = 28 := by decide +kernel
theorem zi_117_28 : zraw 117 28 = some (.ireturn, 1) ∧ (zinf 117).2.2.2.1 = 1 := by decide +kernel
theorem ze_117 {K : List zF} {σ : zW} {x1 : Int} {x2 : Int} {x3 : Int} (hK : K.length < 60) : zEv true (zent 117 [.inr (.inr 1), .inl x1, .inl x2, .inl x3] :: K) σ = (zEv true (zent 126 [.inl x1] :: (117, 4, [some (.inr (.inr 1)), some (.inl x1), some (.inl x2), some (.inl x3)], []) :: K) σ) :=
  yT_en (f := (117, 0, [some (.inr (.inr 1)), some (.inl x1), some (.inl x2), some (.inl x3)], [])) rfl (yI_iload_n zi_117_0 rfl <| yI_cs zi_117_1 rfl rfl hK)
theorem zr_117_4 {K : List zF} {σ : zW} {x1 : Int} {x2 : Int} {x3 : Int} (hK : K.length < 60) : zRet true ((117, 4, [some (.inr (.inr 1)), some (.inl x1), some (.inl x2), some (.inl x3)], []) :: K) none σ = (zEv true (zent 133 [.inr (.inr 1), .inl x1] :: (117, 9, [some (.inr (.inr 1)), some (.inl x1), some (.inl x2), some (.inl x3)], []) :: K) σ) :=
  yT_rv (yI_aload_n zi_117_4 rfl <| yI_iload_n zi_117_5 rfl <| yI_cv zi_117_6 rfl rfl zk_1 hK)
theorem zr_117_9 {K : List zF} {σ : zW} {o1 : Option zV} {x2 : Int} {x3 : Int} (hK : K.length < 60) : zRet true ((117, 9, [some (.inr (.inr 1)), o1, some (.inl x2), some (.inl x3)], []) :: K) none σ = (zEv true (zent 128 [.inr (.inr 1), .inr (.inr 50), .inl x2, .inl x3] :: (117, 19, [some (.inr (.inr 1)), o1, some (.inl x2), some (.inl x3)], []) :: K) σ) :=
  yT_rv (yI_aload_n zi_117_9 rfl <| yI_aload_n zi_117_10 rfl <| yI_gf_f (v := 50) zi_117_11 zk_1 rfl <| yI_iload_n zi_117_14 rfl <| yI_iload_n zi_117_15 rfl <| yI_cv zi_117_16 rfl rfl zk_1 hK)
theorem zr_117_19 {K : List zF} {σ : zW} {o1 : Option zV} {x2 : Int} {x3 : Int} (hK : K.length < 60) : zRet true ((117, 19, [some (.inr (.inr 1)), o1, some (.inl x2), some (.inl x3)], []) :: K) none σ = (zEv true (zent 26 [.inr (.inr 50), .inl x2, .inl x3] :: (117, 28, [some (.inr (.inr 1)), o1, some (.inl x2), some (.inl x3)], []) :: K) σ) :=
  yT_rv (yI_aload_n zi_117_19 rfl <| yI_gf_f (v := 50) zi_117_20 zk_1 rfl <| yI_iload_n zi_117_23 rfl <| yI_iload_n zi_117_24 rfl <| yI_cv zi_117_25 rfl rfl zk_50 hK)
theorem zr_117_28 {K : List zF} {σ : zW} {o0 : Option zV} {o1 : Option zV} {o2 : Option zV} {o3 : Option zV} {v : Int} : zRet true ((117, 28, [o0, o1, o2, o3], []) :: K) (some (.inl v)) σ = (zRet true K (some (.inl v)) σ) :=
  yT_rt (yI_ireturn zi_117_28)
/-- 118 Treegrab.matchAtByTrying(III)I -/
theorem zi_118_0 : zraw 118 0 = some (.iload_n 1, 1) ∧ 0 + 1 = 1 := by decide +kernel
theorem zi_118_1 : zraw 118 1 = some (.invokestatic 158, 3) ∧ zmt (zinf 118).1 158 = some 126 ∧ Nat.ble 9000 126 = false ∧ zinf 126 = (9, 1, 1, 0, 1) ∧ 1 + 3 = 4 := by decide +kernel
theorem zi_118_4 : zraw 118 4 = some (.aload_n 0, 1) ∧ 4 + 1 = 5 := by decide +kernel
theorem zi_118_5 : zraw 118 5 = some (.iload_n 1, 1) ∧ 5 + 1 = 6 := by decide +kernel
theorem zi_118_6 : zraw 118 6 = some (.invokevirtual 197, 3) ∧ zmt (zinf 118).1 197 = some 134 ∧ Nat.ble 9000 134 = false ∧ zinf 134 = (9, 2, 2, 0, 0) ∧ 6 + 3 = 9 := by decide +kernel
theorem zi_118_9 : zraw 118 9 = some (.aload_n 0, 1) ∧ 9 + 1 = 10 := by decide +kernel
theorem zi_118_10 : zraw 118 10 = some (.aload_n 0, 1) ∧ 10 + 1 = 11 := by decide +kernel
theorem zi_118_11 : zraw 118 11 = some (.getfield 37, 3) ∧ zft (zinf 118).1 37 = some (9, 4, 3, true) ∧ 11 + 3 = 14 := by decide +kernel
theorem zi_118_14 : zraw 118 14 = some (.iload_n 2, 1) ∧ 14 + 1 = 15 := by decide +kernel
theorem zi_118_15 : zraw 118 15 = some (.iload_n 3, 1) ∧ 15 + 1 = 16 := by decide +kernel
theorem zi_118_16 : zraw 118 16 = some (.invokevirtual 200, 3) ∧ zmt (zinf 118).1 200 = some 128 ∧ Nat.ble 9000 128 = false ∧ zinf 128 = (9, 4, 4, 0, 0) ∧ 16 + 3 = 19 := by decide +kernel
theorem zi_118_19 : zraw 118 19 = some (.aload_n 0, 1) ∧ 19 + 1 = 20 := by decide +kernel
theorem zi_118_20 : zraw 118 20 = some (.getfield 37, 3) ∧ zft (zinf 118).1 37 = some (9, 4, 3, true) ∧ 20 + 3 = 23 := by decide +kernel
theorem zi_118_23 : zraw 118 23 = some (.iload_n 2, 1) ∧ 23 + 1 = 24 := by decide +kernel
theorem zi_118_24 : zraw 118 24 = some (.iload_n 3, 1) ∧ 24 + 1 = 25 := by decide +kernel
theorem zi_118_25 : zraw 118 25 = some (.invokevirtual 204, 3) ∧ zmt (zinf 118).1 204 = some 26 ∧ Nat.ble 9000 26 = false ∧ zinf 26 = (1, 3, 5, 1, 0) ∧ 25 + 3 = 28 := by decide +kernel
theorem zi_118_28 : zraw 118 28 = some (.ireturn, 1) ∧ (zinf 118).2.2.2.1 = 1 := by decide +kernel
theorem ze_118 {K : List zF} {σ : zW} {x1 : Int} {x2 : Int} {x3 : Int} (hK : K.length < 60) : zEv true (zent 118 [.inr (.inr 1), .inl x1, .inl x2, .inl x3] :: K) σ = (zEv true (zent 126 [.inl x1] :: (118, 4, [some (.inr (.inr 1)), some (.inl x1), some (.inl x2), some (.inl x3)], []) :: K) σ) :=
  yT_en (f := (118, 0, [some (.inr (.inr 1)), some (.inl x1), some (.inl x2), some (.inl x3)], [])) rfl (yI_iload_n zi_118_0 rfl <| yI_cs zi_118_1 rfl rfl hK)
theorem zr_118_4 {K : List zF} {σ : zW} {x1 : Int} {x2 : Int} {x3 : Int} (hK : K.length < 60) : zRet true ((118, 4, [some (.inr (.inr 1)), some (.inl x1), some (.inl x2), some (.inl x3)], []) :: K) none σ = (zEv true (zent 134 [.inr (.inr 1), .inl x1] :: (118, 9, [some (.inr (.inr 1)), some (.inl x1), some (.inl x2), some (.inl x3)], []) :: K) σ) :=
  yT_rv (yI_aload_n zi_118_4 rfl <| yI_iload_n zi_118_5 rfl <| yI_cv zi_118_6 rfl rfl zk_1 hK)
theorem zr_118_9 {K : List zF} {σ : zW} {o1 : Option zV} {x2 : Int} {x3 : Int} (hK : K.length < 60) : zRet true ((118, 9, [some (.inr (.inr 1)), o1, some (.inl x2), some (.inl x3)], []) :: K) none σ = (zEv true (zent 128 [.inr (.inr 1), .inr (.inr 52), .inl x2, .inl x3] :: (118, 19, [some (.inr (.inr 1)), o1, some (.inl x2), some (.inl x3)], []) :: K) σ) :=
  yT_rv (yI_aload_n zi_118_9 rfl <| yI_aload_n zi_118_10 rfl <| yI_gf_f (v := 52) zi_118_11 zk_1 rfl <| yI_iload_n zi_118_14 rfl <| yI_iload_n zi_118_15 rfl <| yI_cv zi_118_16 rfl rfl zk_1 hK)
theorem zr_118_19 {K : List zF} {σ : zW} {o1 : Option zV} {x2 : Int} {x3 : Int} (hK : K.length < 60) : zRet true ((118, 19, [some (.inr (.inr 1)), o1, some (.inl x2), some (.inl x3)], []) :: K) none σ = (zEv true (zent 26 [.inr (.inr 52), .inl x2, .inl x3] :: (118, 28, [some (.inr (.inr 1)), o1, some (.inl x2), some (.inl x3)], []) :: K) σ) :=
  yT_rv (yI_aload_n zi_118_19 rfl <| yI_gf_f (v := 52) zi_118_20 zk_1 rfl <| yI_iload_n zi_118_23 rfl <| yI_iload_n zi_118_24 rfl <| yI_cv zi_118_25 rfl rfl zk_52 hK)
theorem zr_118_28 {K : List zF} {σ : zW} {o0 : Option zV} {o1 : Option zV} {o2 : Option zV} {o3 : Option zV} {v : Int} : zRet true ((118, 28, [o0, o1, o2, o3], []) :: K) (some (.inl v)) σ = (zRet true K (some (.inl v)) σ) :=
  yT_rt (yI_ireturn zi_118_28)
/-- 119 Treegrab.planAt(II)I -/
theorem zi_119_0 : zraw 119 0 = some (.iload_n 1, 1) ∧ 0 + 1 = 1 := by decide +kernel
theorem zi_119_1 : zraw 119 1 = some (.invokestatic 158, 3) ∧ zmt (zinf 119).1 158 = some 126 ∧ Nat.ble 9000 126 = false ∧ zinf 126 = (9, 1, 1, 0, 1) ∧ 1 + 3 = 4 := by decide +kernel
theorem zi_119_4 : zraw 119 4 = some (.aload_n 0, 1) ∧ 4 + 1 = 5 := by decide +kernel
theorem zi_119_5 : zraw 119 5 = some (.iload_n 1, 1) ∧ 5 + 1 = 6 := by decide +kernel
theorem zi_119_6 : zraw 119 6 = some (.invokevirtual 208, 3) ∧ zmt (zinf 119).1 208 = some 130 ∧ Nat.ble 9000 130 = false ∧ zinf 130 = (9, 2, 2, 2, 0) ∧ 6 + 3 = 9 := by decide +kernel
theorem zi_119_9 : zraw 119 9 = some (.ifCond .eq 13, 3) ∧ ((9 : Nat) : Int) + 13 = Int.ofNat 22 ∧ 9 + 3 = 12 := by decide +kernel
theorem zi_119_12 : zraw 119 12 = some (.new 115, 3) ∧ zths 119 12 = some 2 := by decide +kernel
theorem zi_119_22 : zraw 119 22 = some (.aload_n 0, 1) ∧ 22 + 1 = 23 := by decide +kernel
theorem zi_119_23 : zraw 119 23 = some (.iload_n 1, 1) ∧ 23 + 1 = 24 := by decide +kernel
theorem zi_119_24 : zraw 119 24 = some (.invokevirtual 213, 3) ∧ zmt (zinf 119).1 213 = some 131 ∧ Nat.ble 9000 131 = false ∧ zinf 131 = (9, 2, 2, 0, 0) ∧ 24 + 3 = 27 := by decide +kernel
theorem zi_119_27 : zraw 119 27 = some (.iload_n 2, 1) ∧ 27 + 1 = 28 := by decide +kernel
theorem zi_119_28 : zraw 119 28 = some (.ifCond .lt 14, 3) ∧ ((28 : Nat) : Int) + 14 = Int.ofNat 42 ∧ 28 + 3 = 31 := by decide +kernel
theorem zi_119_31 : zraw 119 31 = some (.iload_n 2, 1) ∧ 31 + 1 = 32 := by decide +kernel
theorem zi_119_32 : zraw 119 32 = some (.aload_n 0, 1) ∧ 32 + 1 = 33 := by decide +kernel
theorem zi_119_33 : zraw 119 33 = some (.getfield 26, 3) ∧ zft (zinf 119).1 26 = some (9, 2, 3, true) ∧ 33 + 3 = 36 := by decide +kernel
theorem zi_119_36 : zraw 119 36 = some (.getfield 216, 3) ∧ zft (zinf 119).1 216 = some (6, 8, 0, false) ∧ 36 + 3 = 39 := by decide +kernel
theorem zi_119_39 : zraw 119 39 = some (.if_icmp .lt 13, 3) ∧ ((39 : Nat) : Int) + 13 = Int.ofNat 52 ∧ 39 + 3 = 42 := by decide +kernel
theorem zi_119_42 : zraw 119 42 = some (.new 115, 3) ∧ zths 119 42 = some 2 := by decide +kernel
theorem zi_119_52 : zraw 119 52 = some (.aload_n 0, 1) ∧ 52 + 1 = 53 := by decide +kernel
theorem zi_119_53 : zraw 119 53 = some (.getfield 26, 3) ∧ zft (zinf 119).1 26 = some (9, 2, 3, true) ∧ 53 + 3 = 56 := by decide +kernel
theorem zi_119_56 : zraw 119 56 = some (.getfield 221, 3) ∧ zft (zinf 119).1 221 = some (6, 7, 3, true) ∧ 56 + 3 = 59 := by decide +kernel
theorem zi_119_59 : zraw 119 59 = some (.iload_n 2, 1) ∧ 59 + 1 = 60 := by decide +kernel
theorem zi_119_60 : zraw 119 60 = some (.iaload, 1) ∧ 60 + 1 = 61 := by decide +kernel
theorem zi_119_61 : zraw 119 61 = some (.ireturn, 1) ∧ (zinf 119).2.2.2.1 = 1 := by decide +kernel
theorem ze_119 {K : List zF} {σ : zW} {x1 : Int} {x2 : Int} (hK : K.length < 60) : zEv true (zent 119 [.inr (.inr 1), .inl x1, .inl x2] :: K) σ = (zEv true (zent 126 [.inl x1] :: (119, 4, [some (.inr (.inr 1)), some (.inl x1), some (.inl x2)], []) :: K) σ) :=
  yT_en (f := (119, 0, [some (.inr (.inr 1)), some (.inl x1), some (.inl x2)], [])) rfl (yI_iload_n zi_119_0 rfl <| yI_cs zi_119_1 rfl rfl hK)
theorem zr_119_4 {K : List zF} {σ : zW} {x1 : Int} {x2 : Int} (hK : K.length < 60) : zRet true ((119, 4, [some (.inr (.inr 1)), some (.inl x1), some (.inl x2)], []) :: K) none σ = (zEv true (zent 130 [.inr (.inr 1), .inl x1] :: (119, 9, [some (.inr (.inr 1)), some (.inl x1), some (.inl x2)], []) :: K) σ) :=
  yT_rv (yI_aload_n zi_119_4 rfl <| yI_iload_n zi_119_5 rfl <| yI_cv zi_119_6 rfl rfl zk_1 hK)
theorem zr_119_9 {K : List zF} {σ : zW} {x1 : Int} {x2 : Int} {v : Int} (hK : K.length < 60) : zRet true ((119, 9, [some (.inr (.inr 1)), some (.inl x1), some (.inl x2)], []) :: K) (some (.inl v)) σ = (if v = 0 then zEv true (zent 131 [.inr (.inr 1), .inl x1] :: (119, 27, [some (.inr (.inr 1)), some (.inl x1), some (.inl x2)], []) :: K) σ else zThr true K 2 (zex σ)) :=
  yT_rt (yI_if_eq zi_119_9 <| yBr (yI_aload_n zi_119_22 rfl <| yI_iload_n zi_119_23 rfl <| yI_cv zi_119_24 rfl rfl zk_1 hK) (yI_throw zi_119_12 rfl))
theorem zr_119_27 {K : List zF} {σ : zW} {o1 : Option zV} {x2 : Int} : zRet true ((119, 27, [some (.inr (.inr 1)), o1, some (.inl x2)], []) :: K) none σ = (if x2 < 0 then zEv true ((119, 42, [some (.inr (.inr 1)), o1, some (.inl x2)], []) :: K) σ else if x2 < (gI σ 41 8) then (0 ≤ x2 ∧ x2 < 4) ∧ zRet true K (some (.inl (gI σ 49 x2.toNat))) σ else zEv true ((119, 42, [some (.inr (.inr 1)), o1, some (.inl x2)], []) :: K) σ) :=
  yT_rv (yI_iload_n zi_119_27 rfl <| yI_if_lt zi_119_28 <| yBr (rfl) (yI_iload_n zi_119_31 rfl <| yI_aload_n zi_119_32 rfl <| yI_gf_f (v := 41) zi_119_33 zk_1 rfl <| yI_gf_i (v := gI σ 41 8) zi_119_36 zk_41 rfl <| yI_ic_lt zi_119_39 <| yBr (yI_aload_n zi_119_52 rfl <| yI_gf_f (v := 41) zi_119_53 zk_1 rfl <| yI_gf_f (v := 49) zi_119_56 zk_41 rfl <| yI_iload_n zi_119_59 rfl <| yI_ialoadc (v := gI σ 49 x2.toNat) zi_119_60 za_49 rfl <| yI_ireturn zi_119_61) (rfl)))
theorem zj_119_42 {K : List zF} {σ : zW} {o0 : Option zV} {o1 : Option zV} {o2 : Option zV} : zEv true ((119, 42, [o0, o1, o2], []) :: K) σ = (zThr true K 2 (zex σ)) :=
  yI_throw zi_119_42 rfl
/-- 120 Treegrab.edit(I)I -/
theorem zi_120_0 : zraw 120 0 = some (.iload_n 1, 1) ∧ 0 + 1 = 1 := by decide +kernel
theorem zi_120_1 : zraw 120 1 = some (.invokestatic 158, 3) ∧ zmt (zinf 120).1 158 = some 126 ∧ Nat.ble 9000 126 = false ∧ zinf 126 = (9, 1, 1, 0, 1) ∧ 1 + 3 = 4 := by decide +kernel
theorem zi_120_4 : zraw 120 4 = some (.aload_n 0, 1) ∧ 4 + 1 = 5 := by decide +kernel
theorem zi_120_5 : zraw 120 5 = some (.iload_n 1, 1) ∧ 5 + 1 = 6 := by decide +kernel
theorem zi_120_6 : zraw 120 6 = some (.invokevirtual 193, 3) ∧ zmt (zinf 120).1 193 = some 133 ∧ Nat.ble 9000 133 = false ∧ zinf 133 = (9, 2, 2, 0, 0) ∧ 6 + 3 = 9 := by decide +kernel
theorem zi_120_9 : zraw 120 9 = some (.aload_n 0, 1) ∧ 9 + 1 = 10 := by decide +kernel
theorem zi_120_10 : zraw 120 10 = some (.getfield 33, 3) ∧ zft (zinf 120).1 33 = some (9, 3, 3, true) ∧ 10 + 3 = 13 := by decide +kernel
theorem zi_120_13 : zraw 120 13 = some (.getfield 196, 3) ∧ zft (zinf 120).1 196 = some (1, 5, 0, false) ∧ 13 + 3 = 16 := by decide +kernel
theorem zi_120_16 : zraw 120 16 = some (.ifCond .ne 5, 3) ∧ ((16 : Nat) : Int) + 5 = Int.ofNat 21 ∧ 16 + 3 = 19 := by decide +kernel
theorem zi_120_19 : zraw 120 19 = some (.iconst 0, 1) ∧ zin 128 0 = true ∧ 19 + 1 = 20 := by decide +kernel
theorem zi_120_20 : zraw 120 20 = some (.ireturn, 1) ∧ (zinf 120).2.2.2.1 = 1 := by decide +kernel
theorem zi_120_21 : zraw 120 21 = some (.aload_n 0, 1) ∧ 21 + 1 = 22 := by decide +kernel
theorem zi_120_22 : zraw 120 22 = some (.getfield 43, 3) ∧ zft (zinf 120).1 43 = some (9, 5, 3, true) ∧ 22 + 3 = 25 := by decide +kernel
theorem zi_120_25 : zraw 120 25 = some (.aload_n 0, 1) ∧ 25 + 1 = 26 := by decide +kernel
theorem zi_120_26 : zraw 120 26 = some (.getfield 19, 3) ∧ zft (zinf 120).1 19 = some (9, 1, 3, true) ∧ 26 + 3 = 29 := by decide +kernel
theorem zi_120_29 : zraw 120 29 = some (.iload_n 1, 1) ∧ 29 + 1 = 30 := by decide +kernel
theorem zi_120_30 : zraw 120 30 = some (.aaload, 1) ∧ 30 + 1 = 31 := by decide +kernel
theorem zi_120_31 : zraw 120 31 = some (.invokevirtual 224, 3) ∧ zmt (zinf 120).1 224 = some 1 ∧ Nat.ble 9000 1 = false ∧ zinf 1 = (0, 2, 3, 0, 0) ∧ 31 + 3 = 34 := by decide +kernel
theorem zi_120_34 : zraw 120 34 = some (.iconst 0, 1) ∧ zin 128 0 = true ∧ 34 + 1 = 35 := by decide +kernel
theorem zi_120_35 : zraw 120 35 = some (.istore_n 2, 1) ∧ 35 + 1 = 36 := by decide +kernel
theorem zi_120_36 : zraw 120 36 = some (.iload_n 2, 1) ∧ 36 + 1 = 37 := by decide +kernel
theorem zi_120_37 : zraw 120 37 = some (.aload_n 0, 1) ∧ 37 + 1 = 38 := by decide +kernel
theorem zi_120_38 : zraw 120 38 = some (.getfield 78, 3) ∧ zft (zinf 120).1 78 = some (9, 11, 3, false) ∧ 38 + 3 = 41 := by decide +kernel
theorem zi_120_41 : zraw 120 41 = some (.getfield 151, 3) ∧ zft (zinf 120).1 151 = some (5, 5, 0, false) ∧ 41 + 3 = 44 := by decide +kernel
theorem zi_120_44 : zraw 120 44 = some (.if_icmp .ge 111, 3) ∧ ((44 : Nat) : Int) + 111 = Int.ofNat 155 ∧ 44 + 3 = 47 := by decide +kernel
theorem zi_120_47 : zraw 120 47 = some (.aload_n 0, 1) ∧ 47 + 1 = 48 := by decide +kernel
theorem zi_120_48 : zraw 120 48 = some (.aload_n 0, 1) ∧ 48 + 1 = 49 := by decide +kernel
theorem zi_120_49 : zraw 120 49 = some (.getfield 78, 3) ∧ zft (zinf 120).1 78 = some (9, 11, 3, false) ∧ 49 + 3 = 52 := by decide +kernel
theorem zi_120_52 : zraw 120 52 = some (.getfield 228, 3) ∧ zft (zinf 120).1 228 = some (5, 1, 3, true) ∧ 52 + 3 = 55 := by decide +kernel
theorem zi_120_55 : zraw 120 55 = some (.iload_n 2, 1) ∧ 55 + 1 = 56 := by decide +kernel
theorem zi_120_56 : zraw 120 56 = some (.iaload, 1) ∧ 56 + 1 = 57 := by decide +kernel
theorem zi_120_57 : zraw 120 57 = some (.invokevirtual 231, 3) ∧ zmt (zinf 120).1 231 = some 135 ∧ Nat.ble 9000 135 = false ∧ zinf 135 = (9, 2, 4, 1, 0) ∧ 57 + 3 = 60 := by decide +kernel
theorem zi_120_60 : zraw 120 60 = some (.istore_n 3, 1) ∧ 60 + 1 = 61 := by decide +kernel
theorem zi_120_61 : zraw 120 61 = some (.aload_n 0, 1) ∧ 61 + 1 = 62 := by decide +kernel
theorem zi_120_62 : zraw 120 62 = some (.aload_n 0, 1) ∧ 62 + 1 = 63 := by decide +kernel
theorem zi_120_63 : zraw 120 63 = some (.getfield 78, 3) ∧ zft (zinf 120).1 78 = some (9, 11, 3, false) ∧ 63 + 3 = 66 := by decide +kernel
theorem zi_120_66 : zraw 120 66 = some (.getfield 235, 3) ∧ zft (zinf 120).1 235 = some (5, 2, 3, true) ∧ 66 + 3 = 69 := by decide +kernel
theorem zi_120_69 : zraw 120 69 = some (.iload_n 2, 1) ∧ 69 + 1 = 70 := by decide +kernel
theorem zi_120_70 : zraw 120 70 = some (.iaload, 1) ∧ 70 + 1 = 71 := by decide +kernel
theorem zi_120_71 : zraw 120 71 = some (.invokevirtual 231, 3) ∧ zmt (zinf 120).1 231 = some 135 ∧ Nat.ble 9000 135 = false ∧ zinf 135 = (9, 2, 4, 1, 0) ∧ 71 + 3 = 74 := by decide +kernel
theorem zi_120_74 : zraw 120 74 = some (.istore 4, 2) ∧ 74 + 2 = 76 := by decide +kernel
theorem zi_120_76 : zraw 120 76 = some (.iload_n 3, 1) ∧ 76 + 1 = 77 := by decide +kernel
theorem zi_120_77 : zraw 120 77 = some (.iconst (-1), 1) ∧ zin 128 (-1) = true ∧ 77 + 1 = 78 := by decide +kernel
theorem zi_120_78 : zraw 120 78 = some (.if_icmp .ne 14, 3) ∧ ((78 : Nat) : Int) + 14 = Int.ofNat 92 ∧ 78 + 3 = 81 := by decide +kernel
theorem zi_120_81 : zraw 120 81 = some (.aload_n 0, 1) ∧ 81 + 1 = 82 := by decide +kernel
theorem zi_120_82 : zraw 120 82 = some (.getfield 78, 3) ∧ zft (zinf 120).1 78 = some (9, 11, 3, false) ∧ 82 + 3 = 85 := by decide +kernel
theorem zi_120_85 : zraw 120 85 = some (.iload_n 2, 1) ∧ 85 + 1 = 86 := by decide +kernel
theorem zi_120_86 : zraw 120 86 = some (.invokevirtual 238, 3) ∧ zmt (zinf 120).1 238 = some 57 ∧ Nat.ble 9000 57 = false ∧ zinf 57 = (5, 2, 2, 2, 0) ∧ 86 + 3 = 89 := by decide +kernel
theorem zi_120_89 : zraw 120 89 = some (.ifCond .ne 24, 3) ∧ ((89 : Nat) : Int) + 24 = Int.ofNat 113 ∧ 89 + 3 = 92 := by decide +kernel
theorem zi_120_92 : zraw 120 92 = some (.iload 4, 2) ∧ 92 + 2 = 94 := by decide +kernel
theorem zi_120_94 : zraw 120 94 = some (.iconst (-1), 1) ∧ zin 128 (-1) = true ∧ 94 + 1 = 95 := by decide +kernel
theorem zi_120_95 : zraw 120 95 = some (.if_icmp .ne 14, 3) ∧ ((95 : Nat) : Int) + 14 = Int.ofNat 109 ∧ 95 + 3 = 98 := by decide +kernel
theorem zi_120_98 : zraw 120 98 = some (.aload_n 0, 1) ∧ 98 + 1 = 99 := by decide +kernel
theorem zi_120_99 : zraw 120 99 = some (.getfield 78, 3) ∧ zft (zinf 120).1 78 = some (9, 11, 3, false) ∧ 99 + 3 = 102 := by decide +kernel
theorem zi_120_102 : zraw 120 102 = some (.iload_n 2, 1) ∧ 102 + 1 = 103 := by decide +kernel
theorem zi_120_103 : zraw 120 103 = some (.invokevirtual 241, 3) ∧ zmt (zinf 120).1 241 = some 58 ∧ Nat.ble 9000 58 = false ∧ zinf 58 = (5, 2, 2, 2, 0) ∧ 103 + 3 = 106 := by decide +kernel
theorem zi_120_106 : zraw 120 106 = some (.ifCond .ne 7, 3) ∧ ((106 : Nat) : Int) + 7 = Int.ofNat 113 ∧ 106 + 3 = 109 := by decide +kernel
theorem zi_120_109 : zraw 120 109 = some (.iconst 1, 1) ∧ zin 128 1 = true ∧ 109 + 1 = 110 := by decide +kernel
theorem zi_120_110 : zraw 120 110 = some (.goto 4, 3) ∧ ((110 : Nat) : Int) + 4 = Int.ofNat 114 := by decide +kernel
theorem zi_120_113 : zraw 120 113 = some (.iconst 0, 1) ∧ zin 128 0 = true ∧ 113 + 1 = 114 := by decide +kernel
theorem zi_120_114 : zraw 120 114 = some (.istore 5, 2) ∧ 114 + 2 = 116 := by decide +kernel
theorem zi_120_116 : zraw 120 116 = some (.iload 5, 2) ∧ 116 + 2 = 118 := by decide +kernel
theorem zi_120_118 : zraw 120 118 = some (.ifCond .eq 31, 3) ∧ ((118 : Nat) : Int) + 31 = Int.ofNat 149 ∧ 118 + 3 = 121 := by decide +kernel
theorem zi_120_121 : zraw 120 121 = some (.aload_n 0, 1) ∧ 121 + 1 = 122 := by decide +kernel
theorem zi_120_122 : zraw 120 122 = some (.getfield 43, 3) ∧ zft (zinf 120).1 43 = some (9, 5, 3, true) ∧ 122 + 3 = 125 := by decide +kernel
theorem zi_120_125 : zraw 120 125 = some (.aload_n 0, 1) ∧ 125 + 1 = 126 := by decide +kernel
theorem zi_120_126 : zraw 120 126 = some (.getfield 78, 3) ∧ zft (zinf 120).1 78 = some (9, 11, 3, false) ∧ 126 + 3 = 129 := by decide +kernel
theorem zi_120_129 : zraw 120 129 = some (.iload_n 2, 1) ∧ 129 + 1 = 130 := by decide +kernel
theorem zi_120_130 : zraw 120 130 = some (.iload_n 3, 1) ∧ 130 + 1 = 131 := by decide +kernel
theorem zi_120_131 : zraw 120 131 = some (.iload 4, 2) ∧ 131 + 2 = 133 := by decide +kernel
theorem zi_120_133 : zraw 120 133 = some (.invokevirtual 244, 3) ∧ zmt (zinf 120).1 244 = some 3 ∧ Nat.ble 9000 3 = false ∧ zinf 3 = (0, 5, 7, 2, 0) ∧ 133 + 3 = 136 := by decide +kernel
theorem zi_120_136 : zraw 120 136 = some (.ifCond .ne 13, 3) ∧ ((136 : Nat) : Int) + 13 = Int.ofNat 149 ∧ 136 + 3 = 139 := by decide +kernel
theorem zi_120_139 : zraw 120 139 = some (.new 99, 3) ∧ zths 120 139 = some 1 := by decide +kernel
theorem zi_120_149 : zraw 120 149 = some (.iinc 2 1, 3) ∧ zin 32768 1 = true ∧ 149 + 3 = 152 := by decide +kernel
theorem zi_120_152 : zraw 120 152 = some (.goto (-116), 3) ∧ ((152 : Nat) : Int) + (-116) = Int.ofNat 36 := by decide +kernel
theorem zi_120_155 : zraw 120 155 = some (.aload_n 0, 1) ∧ 155 + 1 = 156 := by decide +kernel
theorem zi_120_156 : zraw 120 156 = some (.getfield 43, 3) ∧ zft (zinf 120).1 43 = some (9, 5, 3, true) ∧ 156 + 3 = 159 := by decide +kernel
theorem zi_120_159 : zraw 120 159 = some (.getfield 250, 3) ∧ zft (zinf 120).1 250 = some (0, 9, 0, false) ∧ 159 + 3 = 162 := by decide +kernel
theorem zi_120_162 : zraw 120 162 = some (.ifCond .le 34, 3) ∧ ((162 : Nat) : Int) + 34 = Int.ofNat 196 ∧ 162 + 3 = 165 := by decide +kernel
theorem zi_120_165 : zraw 120 165 = some (.aload_n 0, 1) ∧ 165 + 1 = 166 := by decide +kernel
theorem zi_120_166 : zraw 120 166 = some (.getfield 50, 3) ∧ zft (zinf 120).1 50 = some (9, 6, 3, true) ∧ 166 + 3 = 169 := by decide +kernel
theorem zi_120_169 : zraw 120 169 = some (.iload_n 1, 1) ∧ 169 + 1 = 170 := by decide +kernel
theorem zi_120_170 : zraw 120 170 = some (.aload_n 0, 1) ∧ 170 + 1 = 171 := by decide +kernel
theorem zi_120_171 : zraw 120 171 = some (.getfield 19, 3) ∧ zft (zinf 120).1 19 = some (9, 1, 3, true) ∧ 171 + 3 = 174 := by decide +kernel
theorem zi_120_174 : zraw 120 174 = some (.iload_n 1, 1) ∧ 174 + 1 = 175 := by decide +kernel
theorem zi_120_175 : zraw 120 175 = some (.aaload, 1) ∧ 175 + 1 = 176 := by decide +kernel
theorem zi_120_176 : zraw 120 176 = some (.invokevirtual 253, 3) ∧ zmt (zinf 120).1 253 = some 29 ∧ Nat.ble 9000 29 = false ∧ zinf 29 = (2, 3, 4, 0, 0) ∧ 176 + 3 = 179 := by decide +kernel
theorem zi_120_179 : zraw 120 179 = some (.aload_n 0, 1) ∧ 179 + 1 = 180 := by decide +kernel
theorem zi_120_180 : zraw 120 180 = some (.getfield 43, 3) ∧ zft (zinf 120).1 43 = some (9, 5, 3, true) ∧ 180 + 3 = 183 := by decide +kernel
theorem zi_120_183 : zraw 120 183 = some (.aload_n 0, 1) ∧ 183 + 1 = 184 := by decide +kernel
theorem zi_120_184 : zraw 120 184 = some (.getfield 19, 3) ∧ zft (zinf 120).1 19 = some (9, 1, 3, true) ∧ 184 + 3 = 187 := by decide +kernel
theorem zi_120_187 : zraw 120 187 = some (.iload_n 1, 1) ∧ 187 + 1 = 188 := by decide +kernel
theorem zi_120_188 : zraw 120 188 = some (.aaload, 1) ∧ 188 + 1 = 189 := by decide +kernel
theorem zi_120_189 : zraw 120 189 = some (.invokevirtual 257, 3) ∧ zmt (zinf 120).1 257 = some 2 ∧ Nat.ble 9000 2 = false ∧ zinf 2 = (0, 2, 3, 0, 0) ∧ 189 + 3 = 192 := by decide +kernel
theorem zi_120_192 : zraw 120 192 = some (.aload_n 0, 1) ∧ 192 + 1 = 193 := by decide +kernel
theorem zi_120_193 : zraw 120 193 = some (.invokevirtual 136, 3) ∧ zmt (zinf 120).1 136 = some 132 ∧ Nat.ble 9000 132 = false ∧ zinf 132 = (9, 1, 1, 0, 0) ∧ 193 + 3 = 196 := by decide +kernel
theorem zi_120_196 : zraw 120 196 = some (.aload_n 0, 1) ∧ 196 + 1 = 197 := by decide +kernel
theorem zi_120_197 : zraw 120 197 = some (.getfield 43, 3) ∧ zft (zinf 120).1 43 = some (9, 5, 3, true) ∧ 197 + 3 = 200 := by decide +kernel
theorem zi_120_200 : zraw 120 200 = some (.getfield 250, 3) ∧ zft (zinf 120).1 250 = some (0, 9, 0, false) ∧ 200 + 3 = 203 := by decide +kernel
theorem zi_120_203 : zraw 120 203 = some (.ireturn, 1) ∧ (zinf 120).2.2.2.1 = 1 := by decide +kernel
theorem ze_120 {K : List zF} {σ : zW} {x1 : Int} (hK : K.length < 60) : zEv true (zent 120 [.inr (.inr 1), .inl x1] :: K) σ = (zEv true (zent 126 [.inl x1] :: (120, 4, [some (.inr (.inr 1)), some (.inl x1), none, none, none, none], []) :: K) σ) :=
  yT_en (f := (120, 0, [some (.inr (.inr 1)), some (.inl x1), none, none, none, none], [])) rfl (yI_iload_n zi_120_0 rfl <| yI_cs zi_120_1 rfl rfl hK)
theorem zr_120_4 {K : List zF} {σ : zW} {x1 : Int} {o2 : Option zV} {o3 : Option zV} {o4 : Option zV} {o5 : Option zV} (hK : K.length < 60) : zRet true ((120, 4, [some (.inr (.inr 1)), some (.inl x1), o2, o3, o4, o5], []) :: K) none σ = (zEv true (zent 133 [.inr (.inr 1), .inl x1] :: (120, 9, [some (.inr (.inr 1)), some (.inl x1), o2, o3, o4, o5], []) :: K) σ) :=
  yT_rv (yI_aload_n zi_120_4 rfl <| yI_iload_n zi_120_5 rfl <| yI_cv zi_120_6 rfl rfl zk_1 hK)
theorem zr_120_9 {K : List zF} {σ : zW} {x1 : Int} {o2 : Option zV} {o3 : Option zV} {o4 : Option zV} {o5 : Option zV} (hK : K.length < 60) : zRet true ((120, 9, [some (.inr (.inr 1)), some (.inl x1), o2, o3, o4, o5], []) :: K) none σ = (if ¬ (gI σ 50 5) = 0 then (0 ≤ x1 ∧ x1 < 3) ∧ zEv true (zent 1 [.inr (.inr 54), .inr (.inr (gR σ 4 x1.toNat))] :: (120, 34, [some (.inr (.inr 1)), some (.inl x1), o2, o3, o4, o5], []) :: K) σ else zRet true K (some (.inl 0)) σ) :=
  yT_rv (yI_aload_n zi_120_9 rfl <| yI_gf_f (v := 50) zi_120_10 zk_1 rfl <| yI_gf_i (v := gI σ 50 5) zi_120_13 zk_50 rfl <| yI_if_ne zi_120_16 <| yBr (yI_aload_n zi_120_21 rfl <| yI_gf_f (v := 54) zi_120_22 zk_1 rfl <| yI_aload_n zi_120_25 rfl <| yI_gf_f (v := 4) zi_120_26 zk_1 rfl <| yI_iload_n zi_120_29 rfl <| yI_aaloadc (v := gR σ 4 x1.toNat) zi_120_30 za_4 rfl <| yI_cv zi_120_31 rfl rfl zk_54 hK) (yI_iconst zi_120_19 <| yI_ireturn zi_120_20))
theorem zr_120_34 {K : List zF} {σ : zW} {x1 : Int} {o2 : Option zV} {o3 : Option zV} {o4 : Option zV} {o5 : Option zV} : zRet true ((120, 34, [some (.inr (.inr 1)), some (.inl x1), o2, o3, o4, o5], []) :: K) none σ = (zEv true ((120, 36, [some (.inr (.inr 1)), some (.inl x1), some (.inl 0), o3, o4, o5], []) :: K) σ) :=
  yT_rv (yI_iconst zi_120_34 <| yI_istore_n (l := [some (.inr (.inr 1)), some (.inl x1), some (.inl 0), o3, o4, o5]) zi_120_35 rfl rfl <| rfl)
theorem zj_120_36 {K : List zF} {σ : zW} {x1 : Int} {x2 : Int} {o3 : Option zV} {o4 : Option zV} {o5 : Option zV} (hK : K.length < 60) (h1 : zSc (gR σ 1 11)) : zEv true ((120, 36, [some (.inr (.inr 1)), some (.inl x1), some (.inl x2), o3, o4, o5], []) :: K) σ = (if (gI σ (gR σ 1 11) 5) ≤ x2 then if (gI σ 54 9) ≤ 0 then zEv true ((120, 196, [some (.inr (.inr 1)), some (.inl x1), some (.inl x2), o3, o4, o5], []) :: K) σ else (0 ≤ x1 ∧ x1 < 3) ∧ zEv true (zent 29 [.inr (.inr 61), .inl x1, .inr (.inr (gR σ 4 x1.toNat))] :: (120, 179, [some (.inr (.inr 1)), some (.inl x1), some (.inl x2), o3, o4, o5], []) :: K) σ else (0 ≤ x2 ∧ x2 < 8) ∧ zEv true (zent 135 [.inr (.inr 1), .inl (gI σ ((gR σ 1 11) + 2) x2.toNat)] :: (120, 60, [some (.inr (.inr 1)), some (.inl x1), some (.inl x2), o3, o4, o5], []) :: K) σ) :=
  yI_iload_n zi_120_36 rfl <| yI_aload_n zi_120_37 rfl <| yI_gf_r (v := gR σ 1 11) zi_120_38 zk_1 rfl <| yI_gf_i (v := gI σ (gR σ 1 11) 5) zi_120_41 (zSc_k h1) rfl <| yI_ic_ge zi_120_44 <| yBr (yI_aload_n zi_120_155 rfl <| yI_gf_f (v := 54) zi_120_156 zk_1 rfl <| yI_gf_i (v := gI σ 54 9) zi_120_159 zk_54 rfl <| yI_if_le zi_120_162 <| yBr (rfl) (yI_aload_n zi_120_165 rfl <| yI_gf_f (v := 61) zi_120_166 zk_1 rfl <| yI_iload_n zi_120_169 rfl <| yI_aload_n zi_120_170 rfl <| yI_gf_f (v := 4) zi_120_171 zk_1 rfl <| yI_iload_n zi_120_174 rfl <| yI_aaloadc (v := gR σ 4 x1.toNat) zi_120_175 za_4 rfl <| yI_cv zi_120_176 rfl rfl zk_61 hK)) (yI_aload_n zi_120_47 rfl <| yI_aload_n zi_120_48 rfl <| yI_gf_r (v := gR σ 1 11) zi_120_49 zk_1 rfl <| yI_gf_f (v := (gR σ 1 11) + 2) zi_120_52 (zSc_k h1) rfl <| yI_iload_n zi_120_55 rfl <| yI_ialoadc (v := gI σ ((gR σ 1 11) + 2) x2.toNat) zi_120_56 (zSc_a2 h1) rfl <| yI_cv zi_120_57 rfl rfl zk_1 hK)
theorem zj_120_196 {K : List zF} {σ : zW} {o1 : Option zV} {o2 : Option zV} {o3 : Option zV} {o4 : Option zV} {o5 : Option zV} : zEv true ((120, 196, [some (.inr (.inr 1)), o1, o2, o3, o4, o5], []) :: K) σ = (zRet true K (some (.inl (gI σ 54 9))) σ) :=
  yI_aload_n zi_120_196 rfl <| yI_gf_f (v := 54) zi_120_197 zk_1 rfl <| yI_gf_i (v := gI σ 54 9) zi_120_200 zk_54 rfl <| yI_ireturn zi_120_203
theorem zr_120_179 {K : List zF} {σ : zW} {x1 : Int} {o2 : Option zV} {o3 : Option zV} {o4 : Option zV} {o5 : Option zV} (hK : K.length < 60) : zRet true ((120, 179, [some (.inr (.inr 1)), some (.inl x1), o2, o3, o4, o5], []) :: K) none σ = ((0 ≤ x1 ∧ x1 < 3) ∧ zEv true (zent 2 [.inr (.inr 54), .inr (.inr (gR σ 4 x1.toNat))] :: (120, 192, [some (.inr (.inr 1)), some (.inl x1), o2, o3, o4, o5], []) :: K) σ) :=
  yT_rv (yI_aload_n zi_120_179 rfl <| yI_gf_f (v := 54) zi_120_180 zk_1 rfl <| yI_aload_n zi_120_183 rfl <| yI_gf_f (v := 4) zi_120_184 zk_1 rfl <| yI_iload_n zi_120_187 rfl <| yI_aaloadc (v := gR σ 4 x1.toNat) zi_120_188 za_4 rfl <| yI_cv zi_120_189 rfl rfl zk_54 hK)
theorem zr_120_60 {K : List zF} {σ : zW} {x1 : Int} {x2 : Int} {o3 : Option zV} {o4 : Option zV} {o5 : Option zV} {v : Int} (hK : K.length < 60) (h1 : zSc (gR σ 1 11)) : zRet true ((120, 60, [some (.inr (.inr 1)), some (.inl x1), some (.inl x2), o3, o4, o5], []) :: K) (some (.inl v)) σ = ((0 ≤ x2 ∧ x2 < 8) ∧ zEv true (zent 135 [.inr (.inr 1), .inl (gI σ ((gR σ 1 11) + 3) x2.toNat)] :: (120, 74, [some (.inr (.inr 1)), some (.inl x1), some (.inl x2), some (.inl v), o4, o5], []) :: K) σ) :=
  yT_rt (yI_istore_n (l := [some (.inr (.inr 1)), some (.inl x1), some (.inl x2), some (.inl v), o4, o5]) zi_120_60 rfl rfl <| yI_aload_n zi_120_61 rfl <| yI_aload_n zi_120_62 rfl <| yI_gf_r (v := gR σ 1 11) zi_120_63 zk_1 rfl <| yI_gf_f (v := (gR σ 1 11) + 3) zi_120_66 (zSc_k h1) rfl <| yI_iload_n zi_120_69 rfl <| yI_ialoadc (v := gI σ ((gR σ 1 11) + 3) x2.toNat) zi_120_70 (zSc_a3 h1) rfl <| yI_cv zi_120_71 rfl rfl zk_1 hK)
theorem zr_120_192 {K : List zF} {σ : zW} {o1 : Option zV} {o2 : Option zV} {o3 : Option zV} {o4 : Option zV} {o5 : Option zV} (hK : K.length < 60) : zRet true ((120, 192, [some (.inr (.inr 1)), o1, o2, o3, o4, o5], []) :: K) none σ = (zEv true (zent 132 [.inr (.inr 1)] :: (120, 196, [some (.inr (.inr 1)), o1, o2, o3, o4, o5], []) :: K) σ) :=
  yT_rv (yI_aload_n zi_120_192 rfl <| yI_cv zi_120_193 rfl rfl zk_1 hK)
theorem zr_120_74 {K : List zF} {σ : zW} {x1 : Int} {x2 : Int} {x3 : Int} {o4 : Option zV} {o5 : Option zV} {v : Int} (hK : K.length < 60) (h1 : zSc (gR σ 1 11)) : zRet true ((120, 74, [some (.inr (.inr 1)), some (.inl x1), some (.inl x2), some (.inl x3), o4, o5], []) :: K) (some (.inl v)) σ = (if ¬ x3 = (-1) then zEv true ((120, 92, [some (.inr (.inr 1)), some (.inl x1), some (.inl x2), some (.inl x3), some (.inl v), o5], []) :: K) σ else zEv true (zent 57 [.inr (.inr (gR σ 1 11)), .inl x2] :: (120, 89, [some (.inr (.inr 1)), some (.inl x1), some (.inl x2), some (.inl x3), some (.inl v), o5], []) :: K) σ) :=
  yT_rt (yI_istore (l := [some (.inr (.inr 1)), some (.inl x1), some (.inl x2), some (.inl x3), some (.inl v), o5]) zi_120_74 rfl rfl <| yI_iload_n zi_120_76 rfl <| yI_iconst zi_120_77 <| yI_ic_ne zi_120_78 <| yBr (rfl) (yI_aload_n zi_120_81 rfl <| yI_gf_r (v := gR σ 1 11) zi_120_82 zk_1 rfl <| yI_iload_n zi_120_85 rfl <| yI_cv zi_120_86 rfl rfl (zSc_k h1) hK))
theorem zr_120_196 {K : List zF} {σ : zW} {o1 : Option zV} {o2 : Option zV} {o3 : Option zV} {o4 : Option zV} {o5 : Option zV} : zRet true ((120, 196, [some (.inr (.inr 1)), o1, o2, o3, o4, o5], []) :: K) none σ = (zRet true K (some (.inl (gI σ 54 9))) σ) :=
  yT_rv (yI_aload_n zi_120_196 rfl <| yI_gf_f (v := 54) zi_120_197 zk_1 rfl <| yI_gf_i (v := gI σ 54 9) zi_120_200 zk_54 rfl <| yI_ireturn zi_120_203)
theorem zj_120_92 {K : List zF} {σ : zW} {x1 : Int} {x2 : Int} {x3 : Int} {x4 : Int} {o5 : Option zV} (hK : K.length < 60) (h1 : zSc (gR σ 1 11)) : zEv true ((120, 92, [some (.inr (.inr 1)), some (.inl x1), some (.inl x2), some (.inl x3), some (.inl x4), o5], []) :: K) σ = (if ¬ x4 = (-1) then if (1 : Int) = 0 then zEv true ((120, 36, [some (.inr (.inr 1)), some (.inl x1), some (.inl (w32 (x2 + 1))), some (.inl x3), some (.inl x4), some (.inl 1)], []) :: K) σ else zEv true (zent 3 [.inr (.inr 54), .inr (.inr (gR σ 1 11)), .inl x2, .inl x3, .inl x4] :: (120, 136, [some (.inr (.inr 1)), some (.inl x1), some (.inl x2), some (.inl x3), some (.inl x4), some (.inl 1)], []) :: K) σ else zEv true (zent 58 [.inr (.inr (gR σ 1 11)), .inl x2] :: (120, 106, [some (.inr (.inr 1)), some (.inl x1), some (.inl x2), some (.inl x3), some (.inl x4), o5], []) :: K) σ) :=
  yI_iload zi_120_92 rfl <| yI_iconst zi_120_94 <| yI_ic_ne zi_120_95 <| yBr (yI_iconst zi_120_109 <| yI_goto zi_120_110 <| yI_istore (l := [some (.inr (.inr 1)), some (.inl x1), some (.inl x2), some (.inl x3), some (.inl x4), some (.inl 1)]) zi_120_114 rfl rfl <| yI_iload zi_120_116 rfl <| yI_if_eq zi_120_118 <| yBr (yI_iinc (l := [some (.inr (.inr 1)), some (.inl x1), some (.inl (w32 (x2 + 1))), some (.inl x3), some (.inl x4), some (.inl 1)]) zi_120_149 rfl rfl rfl <| yI_goto zi_120_152 <| rfl) (yI_aload_n zi_120_121 rfl <| yI_gf_f (v := 54) zi_120_122 zk_1 rfl <| yI_aload_n zi_120_125 rfl <| yI_gf_r (v := gR σ 1 11) zi_120_126 zk_1 rfl <| yI_iload_n zi_120_129 rfl <| yI_iload_n zi_120_130 rfl <| yI_iload zi_120_131 rfl <| yI_cv zi_120_133 rfl rfl zk_54 hK)) (yI_aload_n zi_120_98 rfl <| yI_gf_r (v := gR σ 1 11) zi_120_99 zk_1 rfl <| yI_iload_n zi_120_102 rfl <| yI_cv zi_120_103 rfl rfl (zSc_k h1) hK)
theorem zr_120_89 {K : List zF} {σ : zW} {x1 : Int} {x2 : Int} {x3 : Int} {x4 : Int} {o5 : Option zV} {v : Int} : zRet true ((120, 89, [some (.inr (.inr 1)), some (.inl x1), some (.inl x2), some (.inl x3), some (.inl x4), o5], []) :: K) (some (.inl v)) σ = (if ¬ v = 0 then zEv true ((120, 113, [some (.inr (.inr 1)), some (.inl x1), some (.inl x2), some (.inl x3), some (.inl x4), o5], []) :: K) σ else zEv true ((120, 92, [some (.inr (.inr 1)), some (.inl x1), some (.inl x2), some (.inl x3), some (.inl x4), o5], []) :: K) σ) :=
  yT_rt (yI_if_ne zi_120_89 <| yBr (rfl) (rfl))
theorem zr_120_106 {K : List zF} {σ : zW} {x1 : Int} {x2 : Int} {x3 : Int} {x4 : Int} {o5 : Option zV} {v : Int} (hK : K.length < 60) : zRet true ((120, 106, [some (.inr (.inr 1)), some (.inl x1), some (.inl x2), some (.inl x3), some (.inl x4), o5], []) :: K) (some (.inl v)) σ = (if ¬ v = 0 then zEv true ((120, 113, [some (.inr (.inr 1)), some (.inl x1), some (.inl x2), some (.inl x3), some (.inl x4), o5], []) :: K) σ else if (1 : Int) = 0 then zEv true ((120, 36, [some (.inr (.inr 1)), some (.inl x1), some (.inl (w32 (x2 + 1))), some (.inl x3), some (.inl x4), some (.inl 1)], []) :: K) σ else zEv true (zent 3 [.inr (.inr 54), .inr (.inr (gR σ 1 11)), .inl x2, .inl x3, .inl x4] :: (120, 136, [some (.inr (.inr 1)), some (.inl x1), some (.inl x2), some (.inl x3), some (.inl x4), some (.inl 1)], []) :: K) σ) :=
  yT_rt (yI_if_ne zi_120_106 <| yBr (rfl) (yI_iconst zi_120_109 <| yI_goto zi_120_110 <| yI_istore (l := [some (.inr (.inr 1)), some (.inl x1), some (.inl x2), some (.inl x3), some (.inl x4), some (.inl 1)]) zi_120_114 rfl rfl <| yI_iload zi_120_116 rfl <| yI_if_eq zi_120_118 <| yBr (yI_iinc (l := [some (.inr (.inr 1)), some (.inl x1), some (.inl (w32 (x2 + 1))), some (.inl x3), some (.inl x4), some (.inl 1)]) zi_120_149 rfl rfl rfl <| yI_goto zi_120_152 <| rfl) (yI_aload_n zi_120_121 rfl <| yI_gf_f (v := 54) zi_120_122 zk_1 rfl <| yI_aload_n zi_120_125 rfl <| yI_gf_r (v := gR σ 1 11) zi_120_126 zk_1 rfl <| yI_iload_n zi_120_129 rfl <| yI_iload_n zi_120_130 rfl <| yI_iload zi_120_131 rfl <| yI_cv zi_120_133 rfl rfl zk_54 hK)))
theorem zr_120_136 {K : List zF} {σ : zW} {x1 : Int} {x2 : Int} {o3 : Option zV} {o4 : Option zV} {o5 : Option zV} {v : Int} : zRet true ((120, 136, [some (.inr (.inr 1)), some (.inl x1), some (.inl x2), o3, o4, o5], []) :: K) (some (.inl v)) σ = (if ¬ v = 0 then zEv true ((120, 36, [some (.inr (.inr 1)), some (.inl x1), some (.inl (w32 (x2 + 1))), o3, o4, o5], []) :: K) σ else zThr true K 1 (zex σ)) :=
  yT_rt (yI_if_ne zi_120_136 <| yBr (yI_iinc (l := [some (.inr (.inr 1)), some (.inl x1), some (.inl (w32 (x2 + 1))), o3, o4, o5]) zi_120_149 rfl rfl rfl <| yI_goto zi_120_152 <| rfl) (yI_throw zi_120_139 rfl))
theorem zj_120_113 {K : List zF} {σ : zW} {x1 : Int} {x2 : Int} {x3 : Int} {x4 : Int} {o5 : Option zV} (hK : K.length < 60) : zEv true ((120, 113, [some (.inr (.inr 1)), some (.inl x1), some (.inl x2), some (.inl x3), some (.inl x4), o5], []) :: K) σ = (if (0 : Int) = 0 then zEv true ((120, 36, [some (.inr (.inr 1)), some (.inl x1), some (.inl (w32 (x2 + 1))), some (.inl x3), some (.inl x4), some (.inl 0)], []) :: K) σ else zEv true (zent 3 [.inr (.inr 54), .inr (.inr (gR σ 1 11)), .inl x2, .inl x3, .inl x4] :: (120, 136, [some (.inr (.inr 1)), some (.inl x1), some (.inl x2), some (.inl x3), some (.inl x4), some (.inl 0)], []) :: K) σ) :=
  yI_iconst zi_120_113 <| yI_istore (l := [some (.inr (.inr 1)), some (.inl x1), some (.inl x2), some (.inl x3), some (.inl x4), some (.inl 0)]) zi_120_114 rfl rfl <| yI_iload zi_120_116 rfl <| yI_if_eq zi_120_118 <| yBr (yI_iinc (l := [some (.inr (.inr 1)), some (.inl x1), some (.inl (w32 (x2 + 1))), some (.inl x3), some (.inl x4), some (.inl 0)]) zi_120_149 rfl rfl rfl <| yI_goto zi_120_152 <| rfl) (yI_aload_n zi_120_121 rfl <| yI_gf_f (v := 54) zi_120_122 zk_1 rfl <| yI_aload_n zi_120_125 rfl <| yI_gf_r (v := gR σ 1 11) zi_120_126 zk_1 rfl <| yI_iload_n zi_120_129 rfl <| yI_iload_n zi_120_130 rfl <| yI_iload zi_120_131 rfl <| yI_cv zi_120_133 rfl rfl zk_54 hK)
/-- 121 Treegrab.undo(I)I -/
theorem zi_121_0 : zraw 121 0 = some (.iload_n 1, 1) ∧ 0 + 1 = 1 := by decide +kernel
theorem zi_121_1 : zraw 121 1 = some (.invokestatic 158, 3) ∧ zmt (zinf 121).1 158 = some 126 ∧ Nat.ble 9000 126 = false ∧ zinf 126 = (9, 1, 1, 0, 1) ∧ 1 + 3 = 4 := by decide +kernel
theorem zi_121_4 : zraw 121 4 = some (.aload_n 0, 1) ∧ 4 + 1 = 5 := by decide +kernel
theorem zi_121_5 : zraw 121 5 = some (.getfield 50, 3) ∧ zft (zinf 121).1 50 = some (9, 6, 3, true) ∧ 5 + 3 = 8 := by decide +kernel
theorem zi_121_8 : zraw 121 8 = some (.iload_n 1, 1) ∧ 8 + 1 = 9 := by decide +kernel
theorem zi_121_9 : zraw 121 9 = some (.aload_n 0, 1) ∧ 9 + 1 = 10 := by decide +kernel
theorem zi_121_10 : zraw 121 10 = some (.getfield 19, 3) ∧ zft (zinf 121).1 19 = some (9, 1, 3, true) ∧ 10 + 3 = 13 := by decide +kernel
theorem zi_121_13 : zraw 121 13 = some (.iload_n 1, 1) ∧ 13 + 1 = 14 := by decide +kernel
theorem zi_121_14 : zraw 121 14 = some (.aaload, 1) ∧ 14 + 1 = 15 := by decide +kernel
theorem zi_121_15 : zraw 121 15 = some (.invokevirtual 260, 3) ∧ zmt (zinf 121).1 260 = some 30 ∧ Nat.ble 9000 30 = false ∧ zinf 30 = (2, 3, 7, 2, 0) ∧ 15 + 3 = 18 := by decide +kernel
theorem zi_121_18 : zraw 121 18 = some (.ifCond .ne 14, 3) ∧ ((18 : Nat) : Int) + 14 = Int.ofNat 32 ∧ 18 + 3 = 21 := by decide +kernel
theorem zi_121_21 : zraw 121 21 = some (.new 99, 3) ∧ zths 121 21 = some 1 := by decide +kernel
theorem zi_121_32 : zraw 121 32 = some (.aload_n 0, 1) ∧ 32 + 1 = 33 := by decide +kernel
theorem zi_121_33 : zraw 121 33 = some (.invokevirtual 136, 3) ∧ zmt (zinf 121).1 136 = some 132 ∧ Nat.ble 9000 132 = false ∧ zinf 132 = (9, 1, 1, 0, 0) ∧ 33 + 3 = 36 := by decide +kernel
theorem zi_121_36 : zraw 121 36 = some (.aload_n 0, 1) ∧ 36 + 1 = 37 := by decide +kernel
theorem zi_121_37 : zraw 121 37 = some (.getfield 19, 3) ∧ zft (zinf 121).1 19 = some (9, 1, 3, true) ∧ 37 + 3 = 40 := by decide +kernel
theorem zi_121_40 : zraw 121 40 = some (.iload_n 1, 1) ∧ 40 + 1 = 41 := by decide +kernel
theorem zi_121_41 : zraw 121 41 = some (.aaload, 1) ∧ 41 + 1 = 42 := by decide +kernel
theorem zi_121_42 : zraw 121 42 = some (.getfield 139, 3) ∧ zft (zinf 121).1 139 = some (8, 12, 0, false) ∧ 42 + 3 = 45 := by decide +kernel
theorem zi_121_45 : zraw 121 45 = some (.ireturn, 1) ∧ (zinf 121).2.2.2.1 = 1 := by decide +kernel
theorem ze_121 {K : List zF} {σ : zW} {x1 : Int} (hK : K.length < 60) : zEv true (zent 121 [.inr (.inr 1), .inl x1] :: K) σ = (zEv true (zent 126 [.inl x1] :: (121, 4, [some (.inr (.inr 1)), some (.inl x1)], []) :: K) σ) :=
  yT_en (f := (121, 0, [some (.inr (.inr 1)), some (.inl x1)], [])) rfl (yI_iload_n zi_121_0 rfl <| yI_cs zi_121_1 rfl rfl hK)
theorem zr_121_4 {K : List zF} {σ : zW} {x1 : Int} (hK : K.length < 60) : zRet true ((121, 4, [some (.inr (.inr 1)), some (.inl x1)], []) :: K) none σ = ((0 ≤ x1 ∧ x1 < 3) ∧ zEv true (zent 30 [.inr (.inr 61), .inl x1, .inr (.inr (gR σ 4 x1.toNat))] :: (121, 18, [some (.inr (.inr 1)), some (.inl x1)], []) :: K) σ) :=
  yT_rv (yI_aload_n zi_121_4 rfl <| yI_gf_f (v := 61) zi_121_5 zk_1 rfl <| yI_iload_n zi_121_8 rfl <| yI_aload_n zi_121_9 rfl <| yI_gf_f (v := 4) zi_121_10 zk_1 rfl <| yI_iload_n zi_121_13 rfl <| yI_aaloadc (v := gR σ 4 x1.toNat) zi_121_14 za_4 rfl <| yI_cv zi_121_15 rfl rfl zk_61 hK)
theorem zr_121_18 {K : List zF} {σ : zW} {x1 : Int} {v : Int} (hK : K.length < 60) : zRet true ((121, 18, [some (.inr (.inr 1)), some (.inl x1)], []) :: K) (some (.inl v)) σ = (if ¬ v = 0 then zEv true (zent 132 [.inr (.inr 1)] :: (121, 36, [some (.inr (.inr 1)), some (.inl x1)], []) :: K) σ else zThr true K 1 (zex σ)) :=
  yT_rt (yI_if_ne zi_121_18 <| yBr (yI_aload_n zi_121_32 rfl <| yI_cv zi_121_33 rfl rfl zk_1 hK) (yI_throw zi_121_21 rfl))
theorem zr_121_36 {K : List zF} {σ : zW} {x1 : Int} (h1 : zTr (gR σ 4 x1.toNat)) : zRet true ((121, 36, [some (.inr (.inr 1)), some (.inl x1)], []) :: K) none σ = ((0 ≤ x1 ∧ x1 < 3) ∧ zRet true K (some (.inl (gI σ (gR σ 4 x1.toNat) 12))) σ) :=
  yT_rv (yI_aload_n zi_121_36 rfl <| yI_gf_f (v := 4) zi_121_37 zk_1 rfl <| yI_iload_n zi_121_40 rfl <| yI_aaloadc (v := gR σ 4 x1.toNat) zi_121_41 za_4 rfl <| yI_gf_i (v := gI σ (gR σ 4 x1.toNat) 12) zi_121_42 (zTr_k h1) rfl <| yI_ireturn zi_121_45)
/-- 122 Treegrab.show(I)I -/
theorem zi_122_0 : zraw 122 0 = some (.iload_n 1, 1) ∧ 0 + 1 = 1 := by decide +kernel
theorem zi_122_1 : zraw 122 1 = some (.invokestatic 158, 3) ∧ zmt (zinf 122).1 158 = some 126 ∧ Nat.ble 9000 126 = false ∧ zinf 126 = (9, 1, 1, 0, 1) ∧ 1 + 3 = 4 := by decide +kernel
theorem zi_122_4 : zraw 122 4 = some (.aload_n 0, 1) ∧ 4 + 1 = 5 := by decide +kernel
theorem zi_122_5 : zraw 122 5 = some (.getfield 57, 3) ∧ zft (zinf 122).1 57 = some (9, 7, 3, true) ∧ 5 + 3 = 8 := by decide +kernel
theorem zi_122_8 : zraw 122 8 = some (.aload_n 0, 1) ∧ 8 + 1 = 9 := by decide +kernel
theorem zi_122_9 : zraw 122 9 = some (.getfield 19, 3) ∧ zft (zinf 122).1 19 = some (9, 1, 3, true) ∧ 9 + 3 = 12 := by decide +kernel
theorem zi_122_12 : zraw 122 12 = some (.iload_n 1, 1) ∧ 12 + 1 = 13 := by decide +kernel
theorem zi_122_13 : zraw 122 13 = some (.aaload, 1) ∧ 13 + 1 = 14 := by decide +kernel
theorem zi_122_14 : zraw 122 14 = some (.invokevirtual 266, 3) ∧ zmt (zinf 122).1 266 = some 34 ∧ Nat.ble 9000 34 = false ∧ zinf 34 = (3, 2, 6, 0, 0) ∧ 14 + 3 = 17 := by decide +kernel
theorem zi_122_17 : zraw 122 17 = some (.aload_n 0, 1) ∧ 17 + 1 = 18 := by decide +kernel
theorem zi_122_18 : zraw 122 18 = some (.getfield 57, 3) ∧ zft (zinf 122).1 57 = some (9, 7, 3, true) ∧ 18 + 3 = 21 := by decide +kernel
theorem zi_122_21 : zraw 122 21 = some (.getfield 269, 3) ∧ zft (zinf 122).1 269 = some (3, 1, 0, false) ∧ 21 + 3 = 24 := by decide +kernel
theorem zi_122_24 : zraw 122 24 = some (.ireturn, 1) ∧ (zinf 122).2.2.2.1 = 1 := by decide +kernel
theorem ze_122 {K : List zF} {σ : zW} {x1 : Int} (hK : K.length < 60) : zEv true (zent 122 [.inr (.inr 1), .inl x1] :: K) σ = (zEv true (zent 126 [.inl x1] :: (122, 4, [some (.inr (.inr 1)), some (.inl x1)], []) :: K) σ) :=
  yT_en (f := (122, 0, [some (.inr (.inr 1)), some (.inl x1)], [])) rfl (yI_iload_n zi_122_0 rfl <| yI_cs zi_122_1 rfl rfl hK)
theorem zr_122_4 {K : List zF} {σ : zW} {x1 : Int} (hK : K.length < 60) : zRet true ((122, 4, [some (.inr (.inr 1)), some (.inl x1)], []) :: K) none σ = ((0 ≤ x1 ∧ x1 < 3) ∧ zEv true (zent 34 [.inr (.inr 66), .inr (.inr (gR σ 4 x1.toNat))] :: (122, 17, [some (.inr (.inr 1)), some (.inl x1)], []) :: K) σ) :=
  yT_rv (yI_aload_n zi_122_4 rfl <| yI_gf_f (v := 66) zi_122_5 zk_1 rfl <| yI_aload_n zi_122_8 rfl <| yI_gf_f (v := 4) zi_122_9 zk_1 rfl <| yI_iload_n zi_122_12 rfl <| yI_aaloadc (v := gR σ 4 x1.toNat) zi_122_13 za_4 rfl <| yI_cv zi_122_14 rfl rfl zk_66 hK)
theorem zr_122_17 {K : List zF} {σ : zW} {o1 : Option zV} : zRet true ((122, 17, [some (.inr (.inr 1)), o1], []) :: K) none σ = (zRet true K (some (.inl (gI σ 66 1))) σ) :=
  yT_rv (yI_aload_n zi_122_17 rfl <| yI_gf_f (v := 66) zi_122_18 zk_1 rfl <| yI_gf_i (v := gI σ 66 1) zi_122_21 zk_66 rfl <| yI_ireturn zi_122_24)
/-- 123 Treegrab.label(II)I -/
theorem zi_123_0 : zraw 123 0 = some (.aload_n 0, 1) ∧ 0 + 1 = 1 := by decide +kernel
theorem zi_123_1 : zraw 123 1 = some (.iload_n 1, 1) ∧ 1 + 1 = 2 := by decide +kernel
theorem zi_123_2 : zraw 123 2 = some (.iload_n 2, 1) ∧ 2 + 1 = 3 := by decide +kernel
theorem zi_123_3 : zraw 123 3 = some (.invokevirtual 161, 3) ∧ zmt (zinf 123).1 161 = some 127 ∧ Nat.ble 9000 127 = false ∧ zinf 127 = (9, 3, 3, 0, 0) ∧ 3 + 3 = 6 := by decide +kernel
theorem zi_123_6 : zraw 123 6 = some (.aload_n 0, 1) ∧ 6 + 1 = 7 := by decide +kernel
theorem zi_123_7 : zraw 123 7 = some (.getfield 57, 3) ∧ zft (zinf 123).1 57 = some (9, 7, 3, true) ∧ 7 + 3 = 10 := by decide +kernel
theorem zi_123_10 : zraw 123 10 = some (.iconst 0, 1) ∧ zin 128 0 = true ∧ 10 + 1 = 11 := by decide +kernel
theorem zi_123_11 : zraw 123 11 = some (.putfield 269, 3) ∧ zft (zinf 123).1 269 = some (3, 1, 0, false) ∧ 11 + 3 = 14 := by decide +kernel
theorem zi_123_14 : zraw 123 14 = some (.aload_n 0, 1) ∧ 14 + 1 = 15 := by decide +kernel
theorem zi_123_15 : zraw 123 15 = some (.getfield 57, 3) ∧ zft (zinf 123).1 57 = some (9, 7, 3, true) ∧ 15 + 3 = 18 := by decide +kernel
theorem zi_123_18 : zraw 123 18 = some (.aload_n 0, 1) ∧ 18 + 1 = 19 := by decide +kernel
theorem zi_123_19 : zraw 123 19 = some (.getfield 19, 3) ∧ zft (zinf 123).1 19 = some (9, 1, 3, true) ∧ 19 + 3 = 22 := by decide +kernel
theorem zi_123_22 : zraw 123 22 = some (.iload_n 1, 1) ∧ 22 + 1 = 23 := by decide +kernel
theorem zi_123_23 : zraw 123 23 = some (.aaload, 1) ∧ 23 + 1 = 24 := by decide +kernel
theorem zi_123_24 : zraw 123 24 = some (.getfield 270, 3) ∧ zft (zinf 123).1 270 = some (8, 0, 3, true) ∧ 24 + 3 = 27 := by decide +kernel
theorem zi_123_27 : zraw 123 27 = some (.iload_n 2, 1) ∧ 27 + 1 = 28 := by decide +kernel
theorem zi_123_28 : zraw 123 28 = some (.laload, 1) ∧ 28 + 1 = 29 := by decide +kernel
theorem zi_123_29 : zraw 123 29 = some (.invokevirtual 274, 3) ∧ zmt (zinf 123).1 274 = some 33 ∧ Nat.ble 9000 33 = false ∧ zinf 33 = (3, 2, 5, 0, 0) ∧ 29 + 3 = 32 := by decide +kernel
theorem zi_123_32 : zraw 123 32 = some (.aload_n 0, 1) ∧ 32 + 1 = 33 := by decide +kernel
theorem zi_123_33 : zraw 123 33 = some (.getfield 57, 3) ∧ zft (zinf 123).1 57 = some (9, 7, 3, true) ∧ 33 + 3 = 36 := by decide +kernel
theorem zi_123_36 : zraw 123 36 = some (.getfield 269, 3) ∧ zft (zinf 123).1 269 = some (3, 1, 0, false) ∧ 36 + 3 = 39 := by decide +kernel
theorem zi_123_39 : zraw 123 39 = some (.ireturn, 1) ∧ (zinf 123).2.2.2.1 = 1 := by decide +kernel
theorem ze_123 {K : List zF} {σ : zW} {x1 : Int} {x2 : Int} (hK : K.length < 60) : zEv true (zent 123 [.inr (.inr 1), .inl x1, .inl x2] :: K) σ = (zEv true (zent 127 [.inr (.inr 1), .inl x1, .inl x2] :: (123, 6, [some (.inr (.inr 1)), some (.inl x1), some (.inl x2)], []) :: K) σ) :=
  yT_en (f := (123, 0, [some (.inr (.inr 1)), some (.inl x1), some (.inl x2)], [])) rfl (yI_aload_n zi_123_0 rfl <| yI_iload_n zi_123_1 rfl <| yI_iload_n zi_123_2 rfl <| yI_cv zi_123_3 rfl rfl zk_1 hK)
theorem zr_123_6 {K : List zF} {σ : zW} {x1 : Int} {x2 : Int} (hK : K.length < 60) (h1 : zTr (gR σ 4 x1.toNat)) : zRet true ((123, 6, [some (.inr (.inr 1)), some (.inl x1), some (.inl x2)], []) :: K) none σ = ((0 ≤ x1 ∧ x1 < 3) ∧ ((0 ≤ x2 ∧ x2 < 20) ∧ zEv true (zent 33 [.inr (.inr 66), .inr (.inl (gL σ ((gR σ 4 x1.toNat) + 1) x2.toNat))] :: (123, 32, [some (.inr (.inr 1)), some (.inl x1), some (.inl x2)], []) :: K) (sI σ 66 1 0))) :=
  yT_rv (yI_aload_n zi_123_6 rfl <| yI_gf_f (v := 66) zi_123_7 zk_1 rfl <| yI_iconst zi_123_10 <| yI_pf_i zi_123_11 zk_66 <| yI_aload_n zi_123_14 rfl <| yI_gf_f (v := 66) zi_123_15 zk_1 rfl <| yI_aload_n zi_123_18 rfl <| yI_gf_f (v := 4) zi_123_19 zk_1 rfl <| yI_iload_n zi_123_22 rfl <| yI_aaloadc (v := gR σ 4 x1.toNat) zi_123_23 za_4 rfl <| yI_gf_f (v := (gR σ 4 x1.toNat) + 1) zi_123_24 (zTr_k h1) rfl <| yI_iload_n zi_123_27 rfl <| yI_laloadc (v := gL σ ((gR σ 4 x1.toNat) + 1) x2.toNat) zi_123_28 (zTr_a1 h1) rfl <| yI_cv zi_123_29 rfl rfl zk_66 hK)
theorem zr_123_32 {K : List zF} {σ : zW} {o1 : Option zV} {o2 : Option zV} : zRet true ((123, 32, [some (.inr (.inr 1)), o1, o2], []) :: K) none σ = (zRet true K (some (.inl (gI σ 66 1))) σ) :=
  yT_rv (yI_aload_n zi_123_32 rfl <| yI_gf_f (v := 66) zi_123_33 zk_1 rfl <| yI_gf_i (v := gI σ 66 1) zi_123_36 zk_66 rfl <| yI_ireturn zi_123_39)
/-- 124 Treegrab.word(I)J -/
theorem zi_124_0 : zraw 124 0 = some (.aload_n 0, 1) ∧ 0 + 1 = 1 := by decide +kernel
theorem zi_124_1 : zraw 124 1 = some (.getfield 57, 3) ∧ zft (zinf 124).1 57 = some (9, 7, 3, true) ∧ 1 + 3 = 4 := by decide +kernel
theorem zi_124_4 : zraw 124 4 = some (.iload_n 1, 1) ∧ 4 + 1 = 5 := by decide +kernel
theorem zi_124_5 : zraw 124 5 = some (.invokevirtual 278, 3) ∧ zmt (zinf 124).1 278 = some 35 ∧ Nat.ble 9000 35 = false ∧ zinf 35 = (3, 2, 5, 3, 0) ∧ 5 + 3 = 8 := by decide +kernel
theorem zi_124_8 : zraw 124 8 = some (.lreturn, 1) ∧ (zinf 124).2.2.2.1 = 3 := by decide +kernel
theorem ze_124 {K : List zF} {σ : zW} {x1 : Int} (hK : K.length < 60) : zEv true (zent 124 [.inr (.inr 1), .inl x1] :: K) σ = (zEv true (zent 35 [.inr (.inr 66), .inl x1] :: (124, 8, [some (.inr (.inr 1)), some (.inl x1)], []) :: K) σ) :=
  yT_en (f := (124, 0, [some (.inr (.inr 1)), some (.inl x1)], [])) rfl (yI_aload_n zi_124_0 rfl <| yI_gf_f (v := 66) zi_124_1 zk_1 rfl <| yI_iload_n zi_124_4 rfl <| yI_cv zi_124_5 rfl rfl zk_66 hK)
theorem zr_124_8 {K : List zF} {σ : zW} {o0 : Option zV} {o1 : Option zV} {v : Int64} : zRet true ((124, 8, [o0, o1], []) :: K) (some (.inr (.inl v))) σ = (zRet true K (some (.inr (.inl v))) σ) :=
  yT_rt (yI_lreturn zi_124_8)
/-- 125 Treegrab.isNoPlace(I)Z -/
theorem zi_125_0 : zraw 125 0 = some (.iload_n 0, 1) ∧ 0 + 1 = 1 := by decide +kernel
theorem zi_125_1 : zraw 125 1 = some (.ifCond .lt 8, 3) ∧ ((1 : Nat) : Int) + 8 = Int.ofNat 9 ∧ 1 + 3 = 4 := by decide +kernel
theorem zi_125_4 : zraw 125 4 = some (.iload_n 0, 1) ∧ 4 + 1 = 5 := by decide +kernel
theorem zi_125_5 : zraw 125 5 = some (.iconst 3, 1) ∧ zin 128 3 = true ∧ 5 + 1 = 6 := by decide +kernel
theorem zi_125_6 : zraw 125 6 = some (.if_icmp .lt 7, 3) ∧ ((6 : Nat) : Int) + 7 = Int.ofNat 13 ∧ 6 + 3 = 9 := by decide +kernel
theorem zi_125_9 : zraw 125 9 = some (.iconst 1, 1) ∧ zin 128 1 = true ∧ 9 + 1 = 10 := by decide +kernel
theorem zi_125_10 : zraw 125 10 = some (.goto 4, 3) ∧ ((10 : Nat) : Int) + 4 = Int.ofNat 14 := by decide +kernel
theorem zi_125_13 : zraw 125 13 = some (.iconst 0, 1) ∧ zin 128 0 = true ∧ 13 + 1 = 14 := by decide +kernel
theorem zi_125_14 : zraw 125 14 = some (.ireturn, 1) ∧ (zinf 125).2.2.2.1 = 2 := by decide +kernel
theorem ze_125 {K : List zF} {σ : zW} {x0 : Int} : zEv true (zent 125 [.inl x0] :: K) σ = (if x0 < 0 then zRet true K (some (.inl 1)) σ else if x0 < 3 then zRet true K (some (.inl 0)) σ else zRet true K (some (.inl 1)) σ) :=
  yT_en (f := (125, 0, [some (.inl x0)], [])) rfl (yI_iload_n zi_125_0 rfl <| yI_if_lt zi_125_1 <| yBr (yI_iconst zi_125_9 <| yI_goto zi_125_10 <| yI_zreturn zi_125_14 (by decide)) (yI_iload_n zi_125_4 rfl <| yI_iconst zi_125_5 <| yI_ic_lt zi_125_6 <| yBr (yI_iconst zi_125_13 <| yI_zreturn zi_125_14 (by decide)) (yI_iconst zi_125_9 <| yI_goto zi_125_10 <| yI_zreturn zi_125_14 (by decide))))
/-- 126 Treegrab.requirePlace(I)V -/
theorem zi_126_0 : zraw 126 0 = some (.iload_n 0, 1) ∧ 0 + 1 = 1 := by decide +kernel
theorem zi_126_1 : zraw 126 1 = some (.invokestatic 108, 3) ∧ zmt (zinf 126).1 108 = some 125 ∧ Nat.ble 9000 125 = false ∧ zinf 125 = (9, 1, 1, 2, 1) ∧ 1 + 3 = 4 := by decide +kernel
theorem zi_126_4 : zraw 126 4 = some (.ifCond .eq 13, 3) ∧ ((4 : Nat) : Int) + 13 = Int.ofNat 17 ∧ 4 + 3 = 7 := by decide +kernel
theorem zi_126_7 : zraw 126 7 = some (.new 115, 3) ∧ zths 126 7 = some 2 := by decide +kernel
theorem zi_126_17 : zraw 126 17 = some (.return_, 1) ∧ (zinf 126).2.2.2.1 = 0 := by decide +kernel
theorem ze_126 {K : List zF} {σ : zW} {x0 : Int} (hK : K.length < 60) : zEv true (zent 126 [.inl x0] :: K) σ = (zEv true (zent 125 [.inl x0] :: (126, 4, [some (.inl x0)], []) :: K) σ) :=
  yT_en (f := (126, 0, [some (.inl x0)], [])) rfl (yI_iload_n zi_126_0 rfl <| yI_cs zi_126_1 rfl rfl hK)
theorem zr_126_4 {K : List zF} {σ : zW} {o0 : Option zV} {v : Int} : zRet true ((126, 4, [o0], []) :: K) (some (.inl v)) σ = (if v = 0 then zRet true K none σ else zThr true K 2 (zex σ)) :=
  yT_rt (yI_if_eq zi_126_4 <| yBr (yI_ret zi_126_17) (yI_throw zi_126_7 rfl))
/-- 127 Treegrab.requireNode(II)V -/
theorem zi_127_0 : zraw 127 0 = some (.iload_n 1, 1) ∧ 0 + 1 = 1 := by decide +kernel
theorem zi_127_1 : zraw 127 1 = some (.invokestatic 158, 3) ∧ zmt (zinf 127).1 158 = some 126 ∧ Nat.ble 9000 126 = false ∧ zinf 126 = (9, 1, 1, 0, 1) ∧ 1 + 3 = 4 := by decide +kernel
theorem zi_127_4 : zraw 127 4 = some (.iload_n 2, 1) ∧ 4 + 1 = 5 := by decide +kernel
theorem zi_127_5 : zraw 127 5 = some (.ifCond .lt 16, 3) ∧ ((5 : Nat) : Int) + 16 = Int.ofNat 21 ∧ 5 + 3 = 8 := by decide +kernel
theorem zi_127_8 : zraw 127 8 = some (.iload_n 2, 1) ∧ 8 + 1 = 9 := by decide +kernel
theorem zi_127_9 : zraw 127 9 = some (.aload_n 0, 1) ∧ 9 + 1 = 10 := by decide +kernel
theorem zi_127_10 : zraw 127 10 = some (.getfield 19, 3) ∧ zft (zinf 127).1 19 = some (9, 1, 3, true) ∧ 10 + 3 = 13 := by decide +kernel
theorem zi_127_13 : zraw 127 13 = some (.iload_n 1, 1) ∧ 13 + 1 = 14 := by decide +kernel
theorem zi_127_14 : zraw 127 14 = some (.aaload, 1) ∧ 14 + 1 = 15 := by decide +kernel
theorem zi_127_15 : zraw 127 15 = some (.getfield 139, 3) ∧ zft (zinf 127).1 139 = some (8, 12, 0, false) ∧ 15 + 3 = 18 := by decide +kernel
theorem zi_127_18 : zraw 127 18 = some (.if_icmp .lt 14, 3) ∧ ((18 : Nat) : Int) + 14 = Int.ofNat 32 ∧ 18 + 3 = 21 := by decide +kernel
theorem zi_127_21 : zraw 127 21 = some (.new 115, 3) ∧ zths 127 21 = some 2 := by decide +kernel
theorem zi_127_32 : zraw 127 32 = some (.return_, 1) ∧ (zinf 127).2.2.2.1 = 0 := by decide +kernel
theorem ze_127 {K : List zF} {σ : zW} {x1 : Int} {x2 : Int} (hK : K.length < 60) : zEv true (zent 127 [.inr (.inr 1), .inl x1, .inl x2] :: K) σ = (zEv true (zent 126 [.inl x1] :: (127, 4, [some (.inr (.inr 1)), some (.inl x1), some (.inl x2)], []) :: K) σ) :=
  yT_en (f := (127, 0, [some (.inr (.inr 1)), some (.inl x1), some (.inl x2)], [])) rfl (yI_iload_n zi_127_0 rfl <| yI_cs zi_127_1 rfl rfl hK)
theorem zr_127_4 {K : List zF} {σ : zW} {x1 : Int} {x2 : Int} (h1 : zTr (gR σ 4 x1.toNat)) : zRet true ((127, 4, [some (.inr (.inr 1)), some (.inl x1), some (.inl x2)], []) :: K) none σ = (if x2 < 0 then zEv true ((127, 21, [some (.inr (.inr 1)), some (.inl x1), some (.inl x2)], []) :: K) σ else (0 ≤ x1 ∧ x1 < 3) ∧ (if x2 < (gI σ (gR σ 4 x1.toNat) 12) then zRet true K none σ else zEv true ((127, 21, [some (.inr (.inr 1)), some (.inl x1), some (.inl x2)], []) :: K) σ)) :=
  yT_rv (yI_iload_n zi_127_4 rfl <| yI_if_lt zi_127_5 <| yBr (rfl) (yI_iload_n zi_127_8 rfl <| yI_aload_n zi_127_9 rfl <| yI_gf_f (v := 4) zi_127_10 zk_1 rfl <| yI_iload_n zi_127_13 rfl <| yI_aaloadc (v := gR σ 4 x1.toNat) zi_127_14 za_4 rfl <| yI_gf_i (v := gI σ (gR σ 4 x1.toNat) 12) zi_127_15 (zTr_k h1) rfl <| yI_ic_lt zi_127_18 <| yBr (yI_ret zi_127_32) (rfl)))
theorem zj_127_21 {K : List zF} {σ : zW} {o0 : Option zV} {o1 : Option zV} {o2 : Option zV} : zEv true ((127, 21, [o0, o1, o2], []) :: K) σ = (zThr true K 2 (zex σ)) :=
  yI_throw zi_127_21 rfl
/-- 128 Treegrab.requireMatch(LTreegrab$Found;II)V -/
theorem zi_128_0 : zraw 128 0 = some (.iload_n 2, 1) ∧ 0 + 1 = 1 := by decide +kernel
theorem zi_128_1 : zraw 128 1 = some (.ifCond .lt 11, 3) ∧ ((1 : Nat) : Int) + 11 = Int.ofNat 12 ∧ 1 + 3 = 4 := by decide +kernel
theorem zi_128_4 : zraw 128 4 = some (.iload_n 2, 1) ∧ 4 + 1 = 5 := by decide +kernel
theorem zi_128_5 : zraw 128 5 = some (.aload_n 1, 1) ∧ 5 + 1 = 6 := by decide +kernel
theorem zi_128_6 : zraw 128 6 = some (.getfield 196, 3) ∧ zft (zinf 128).1 196 = some (1, 5, 0, false) ∧ 6 + 3 = 9 := by decide +kernel
theorem zi_128_9 : zraw 128 9 = some (.if_icmp .lt 14, 3) ∧ ((9 : Nat) : Int) + 14 = Int.ofNat 23 ∧ 9 + 3 = 12 := by decide +kernel
theorem zi_128_12 : zraw 128 12 = some (.new 115, 3) ∧ zths 128 12 = some 2 := by decide +kernel
theorem zi_128_23 : zraw 128 23 = some (.iload_n 3, 1) ∧ 23 + 1 = 24 := by decide +kernel
theorem zi_128_24 : zraw 128 24 = some (.ifCond .lt 14, 3) ∧ ((24 : Nat) : Int) + 14 = Int.ofNat 38 ∧ 24 + 3 = 27 := by decide +kernel
theorem zi_128_27 : zraw 128 27 = some (.iload_n 3, 1) ∧ 27 + 1 = 28 := by decide +kernel
theorem zi_128_28 : zraw 128 28 = some (.aload_n 0, 1) ∧ 28 + 1 = 29 := by decide +kernel
theorem zi_128_29 : zraw 128 29 = some (.getfield 68, 3) ∧ zft (zinf 128).1 68 = some (9, 9, 3, false) ∧ 29 + 3 = 32 := by decide +kernel
theorem zi_128_32 : zraw 128 32 = some (.getfield 145, 3) ∧ zft (zinf 128).1 145 = some (4, 16, 0, false) ∧ 32 + 3 = 35 := by decide +kernel
theorem zi_128_35 : zraw 128 35 = some (.if_icmp .lt 14, 3) ∧ ((35 : Nat) : Int) + 14 = Int.ofNat 49 ∧ 35 + 3 = 38 := by decide +kernel
theorem zi_128_38 : zraw 128 38 = some (.new 115, 3) ∧ zths 128 38 = some 2 := by decide +kernel
theorem zi_128_49 : zraw 128 49 = some (.return_, 1) ∧ (zinf 128).2.2.2.1 = 0 := by decide +kernel
theorem ze_128 {K : List zF} {σ : zW} {x1 : Nat} {x2 : Int} {x3 : Int} (h1 : zFo x1) (h2 : zPn (gR σ 1 9)) : zEv true (zent 128 [.inr (.inr 1), .inr (.inr x1), .inl x2, .inl x3] :: K) σ = (if x2 < 0 then zEv true ((128, 12, [some (.inr (.inr 1)), some (.inr (.inr x1)), some (.inl x2), some (.inl x3)], []) :: K) σ else if x2 < (gI σ x1 5) then if x3 < 0 then zEv true ((128, 38, [some (.inr (.inr 1)), some (.inr (.inr x1)), some (.inl x2), some (.inl x3)], []) :: K) σ else if x3 < (gI σ (gR σ 1 9) 16) then zRet true K none σ else zEv true ((128, 38, [some (.inr (.inr 1)), some (.inr (.inr x1)), some (.inl x2), some (.inl x3)], []) :: K) σ else zEv true ((128, 12, [some (.inr (.inr 1)), some (.inr (.inr x1)), some (.inl x2), some (.inl x3)], []) :: K) σ) :=
  yT_en (f := (128, 0, [some (.inr (.inr 1)), some (.inr (.inr x1)), some (.inl x2), some (.inl x3)], [])) rfl (yI_iload_n zi_128_0 rfl <| yI_if_lt zi_128_1 <| yBr (rfl) (yI_iload_n zi_128_4 rfl <| yI_aload_n zi_128_5 rfl <| yI_gf_i (v := gI σ x1 5) zi_128_6 (zFo_k h1) rfl <| yI_ic_lt zi_128_9 <| yBr (yI_iload_n zi_128_23 rfl <| yI_if_lt zi_128_24 <| yBr (rfl) (yI_iload_n zi_128_27 rfl <| yI_aload_n zi_128_28 rfl <| yI_gf_r (v := gR σ 1 9) zi_128_29 zk_1 rfl <| yI_gf_i (v := gI σ (gR σ 1 9) 16) zi_128_32 (zPn_k h2) rfl <| yI_ic_lt zi_128_35 <| yBr (yI_ret zi_128_49) (rfl))) (rfl)))
theorem zj_128_12 {K : List zF} {σ : zW} {o0 : Option zV} {o1 : Option zV} {o2 : Option zV} {o3 : Option zV} : zEv true ((128, 12, [o0, o1, o2, o3], []) :: K) σ = (zThr true K 2 (zex σ)) :=
  yI_throw zi_128_12 rfl
theorem zj_128_38 {K : List zF} {σ : zW} {o0 : Option zV} {o1 : Option zV} {o2 : Option zV} {o3 : Option zV} : zEv true ((128, 38, [o0, o1, o2, o3], []) :: K) σ = (zThr true K 2 (zex σ)) :=
  yI_throw zi_128_38 rfl
/-- 129 Treegrab.takeFault()V -/
theorem zi_129_0 : zraw 129 0 = some (.aload_n 0, 1) ∧ 0 + 1 = 1 := by decide +kernel
theorem zi_129_1 : zraw 129 1 = some (.aload_n 0, 1) ∧ 1 + 1 = 2 := by decide +kernel
theorem zi_129_2 : zraw 129 2 = some (.getfield 10, 3) ∧ zft (zinf 129).1 10 = some (9, 0, 3, true) ∧ 2 + 3 = 5 := by decide +kernel
theorem zi_129_5 : zraw 129 5 = some (.getfield 288, 3) ∧ zft (zinf 129).1 288 = some (7, 3, 0, false) ∧ 5 + 3 = 8 := by decide +kernel
theorem zi_129_8 : zraw 129 8 = some (.putfield 155, 3) ∧ zft (zinf 129).1 155 = some (9, 13, 0, false) ∧ 8 + 3 = 11 := by decide +kernel
theorem zi_129_11 : zraw 129 11 = some (.aload_n 0, 1) ∧ 11 + 1 = 12 := by decide +kernel
theorem zi_129_12 : zraw 129 12 = some (.aload_n 0, 1) ∧ 12 + 1 = 13 := by decide +kernel
theorem zi_129_13 : zraw 129 13 = some (.getfield 10, 3) ∧ zft (zinf 129).1 10 = some (9, 0, 3, true) ∧ 13 + 3 = 16 := by decide +kernel
theorem zi_129_16 : zraw 129 16 = some (.getfield 291, 3) ∧ zft (zinf 129).1 291 = some (7, 4, 0, false) ∧ 16 + 3 = 19 := by decide +kernel
theorem zi_129_19 : zraw 129 19 = some (.putfield 152, 3) ∧ zft (zinf 129).1 152 = some (9, 14, 0, false) ∧ 19 + 3 = 22 := by decide +kernel
theorem zi_129_22 : zraw 129 22 = some (.aload_n 0, 1) ∧ 22 + 1 = 23 := by decide +kernel
theorem zi_129_23 : zraw 129 23 = some (.getfield 10, 3) ∧ zft (zinf 129).1 10 = some (9, 0, 3, true) ∧ 23 + 3 = 26 := by decide +kernel
theorem zi_129_26 : zraw 129 26 = some (.invokevirtual 112, 3) ∧ zmt (zinf 129).1 112 = some 82 ∧ Nat.ble 9000 82 = false ∧ zinf 82 = (7, 1, 1, 0, 0) ∧ 26 + 3 = 29 := by decide +kernel
theorem zi_129_29 : zraw 129 29 = some (.return_, 1) ∧ (zinf 129).2.2.2.1 = 0 := by decide +kernel
theorem ze_129 {K : List zF} {σ : zW} (hK : K.length < 60) : zEv true (zent 129 [.inr (.inr 1)] :: K) σ = (zEv true (zent 82 [.inr (.inr 2)] :: (129, 29, [some (.inr (.inr 1))], []) :: K) (sI (sI σ 1 13 (gI σ 2 3)) 1 14 (gI σ 2 4))) :=
  yT_en (f := (129, 0, [some (.inr (.inr 1))], [])) rfl (yI_aload_n zi_129_0 rfl <| yI_aload_n zi_129_1 rfl <| yI_gf_f (v := 2) zi_129_2 zk_1 rfl <| yI_gf_i (v := gI σ 2 3) zi_129_5 zk_2 rfl <| yI_pf_i zi_129_8 zk_1 <| yI_aload_n zi_129_11 rfl <| yI_aload_n zi_129_12 rfl <| yI_gf_f (v := 2) zi_129_13 zk_1 rfl <| yI_gf_i (v := gI σ 2 4) zi_129_16 zk_2 (yGI_nk (by decide)) <| yI_pf_i zi_129_19 zk_1 <| yI_aload_n zi_129_22 rfl <| yI_gf_f (v := 2) zi_129_23 zk_1 rfl <| yI_cv zi_129_26 rfl rfl zk_2 hK)
theorem zr_129_29 {K : List zF} {σ : zW} {o0 : Option zV} : zRet true ((129, 29, [o0], []) :: K) none σ = (zRet true K none σ) :=
  yT_rv (yI_ret zi_129_29)
/-- 130 Treegrab.isUnsearchable(I)Z -/
theorem zi_130_0 : zraw 130 0 = some (.aload_n 0, 1) ∧ 0 + 1 = 1 := by decide +kernel
theorem zi_130_1 : zraw 130 1 = some (.getfield 19, 3) ∧ zft (zinf 130).1 19 = some (9, 1, 3, true) ∧ 1 + 3 = 4 := by decide +kernel
theorem zi_130_4 : zraw 130 4 = some (.iload_n 1, 1) ∧ 4 + 1 = 5 := by decide +kernel
theorem zi_130_5 : zraw 130 5 = some (.aaload, 1) ∧ 5 + 1 = 6 := by decide +kernel
theorem zi_130_6 : zraw 130 6 = some (.getfield 139, 3) ∧ zft (zinf 130).1 139 = some (8, 12, 0, false) ∧ 6 + 3 = 9 := by decide +kernel
theorem zi_130_9 : zraw 130 9 = some (.ifCond .eq 13, 3) ∧ ((9 : Nat) : Int) + 13 = Int.ofNat 22 ∧ 9 + 3 = 12 := by decide +kernel
theorem zi_130_12 : zraw 130 12 = some (.aload_n 0, 1) ∧ 12 + 1 = 13 := by decide +kernel
theorem zi_130_13 : zraw 130 13 = some (.getfield 68, 3) ∧ zft (zinf 130).1 68 = some (9, 9, 3, false) ∧ 13 + 3 = 16 := by decide +kernel
theorem zi_130_16 : zraw 130 16 = some (.getfield 294, 3) ∧ zft (zinf 130).1 294 = some (4, 15, 0, false) ∧ 16 + 3 = 19 := by decide +kernel
theorem zi_130_19 : zraw 130 19 = some (.ifCond .ne 7, 3) ∧ ((19 : Nat) : Int) + 7 = Int.ofNat 26 ∧ 19 + 3 = 22 := by decide +kernel
theorem zi_130_22 : zraw 130 22 = some (.iconst 1, 1) ∧ zin 128 1 = true ∧ 22 + 1 = 23 := by decide +kernel
theorem zi_130_23 : zraw 130 23 = some (.goto 4, 3) ∧ ((23 : Nat) : Int) + 4 = Int.ofNat 27 := by decide +kernel
theorem zi_130_26 : zraw 130 26 = some (.iconst 0, 1) ∧ zin 128 0 = true ∧ 26 + 1 = 27 := by decide +kernel
theorem zi_130_27 : zraw 130 27 = some (.ireturn, 1) ∧ (zinf 130).2.2.2.1 = 2 := by decide +kernel
theorem ze_130 {K : List zF} {σ : zW} {x1 : Int} (h1 : zTr (gR σ 4 x1.toNat)) (h2 : zPn (gR σ 1 9)) : zEv true (zent 130 [.inr (.inr 1), .inl x1] :: K) σ = ((0 ≤ x1 ∧ x1 < 3) ∧ (if (gI σ (gR σ 4 x1.toNat) 12) = 0 then zRet true K (some (.inl 1)) σ else if ¬ (gI σ (gR σ 1 9) 15) = 0 then zRet true K (some (.inl 0)) σ else zRet true K (some (.inl 1)) σ)) :=
  yT_en (f := (130, 0, [some (.inr (.inr 1)), some (.inl x1)], [])) rfl (yI_aload_n zi_130_0 rfl <| yI_gf_f (v := 4) zi_130_1 zk_1 rfl <| yI_iload_n zi_130_4 rfl <| yI_aaloadc (v := gR σ 4 x1.toNat) zi_130_5 za_4 rfl <| yI_gf_i (v := gI σ (gR σ 4 x1.toNat) 12) zi_130_6 (zTr_k h1) rfl <| yI_if_eq zi_130_9 <| yBr (yI_iconst zi_130_22 <| yI_goto zi_130_23 <| yI_zreturn zi_130_27 (by decide)) (yI_aload_n zi_130_12 rfl <| yI_gf_r (v := gR σ 1 9) zi_130_13 zk_1 rfl <| yI_gf_i (v := gI σ (gR σ 1 9) 15) zi_130_16 (zPn_k h2) rfl <| yI_if_ne zi_130_19 <| yBr (yI_iconst zi_130_26 <| yI_zreturn zi_130_27 (by decide)) (yI_iconst zi_130_22 <| yI_goto zi_130_23 <| yI_zreturn zi_130_27 (by decide))))
/-- 131 Treegrab.prepareSearch(I)V -/
theorem zi_131_0 : zraw 131 0 = some (.aload_n 0, 1) ∧ 0 + 1 = 1 := by decide +kernel
theorem zi_131_1 : zraw 131 1 = some (.getfield 85, 3) ∧ zft (zinf 131).1 85 = some (9, 15, 0, false) ∧ 1 + 3 = 4 := by decide +kernel
theorem zi_131_4 : zraw 131 4 = some (.iload_n 1, 1) ∧ 4 + 1 = 5 := by decide +kernel
theorem zi_131_5 : zraw 131 5 = some (.if_icmp .eq 25, 3) ∧ ((5 : Nat) : Int) + 25 = Int.ofNat 30 ∧ 5 + 3 = 8 := by decide +kernel
theorem zi_131_8 : zraw 131 8 = some (.aload_n 0, 1) ∧ 8 + 1 = 9 := by decide +kernel
theorem zi_131_9 : zraw 131 9 = some (.getfield 26, 3) ∧ zft (zinf 131).1 26 = some (9, 2, 3, true) ∧ 9 + 3 = 12 := by decide +kernel
theorem zi_131_12 : zraw 131 12 = some (.aload_n 0, 1) ∧ 12 + 1 = 13 := by decide +kernel
theorem zi_131_13 : zraw 131 13 = some (.getfield 19, 3) ∧ zft (zinf 131).1 19 = some (9, 1, 3, true) ∧ 13 + 3 = 16 := by decide +kernel
theorem zi_131_16 : zraw 131 16 = some (.iload_n 1, 1) ∧ 16 + 1 = 17 := by decide +kernel
theorem zi_131_17 : zraw 131 17 = some (.aaload, 1) ∧ 17 + 1 = 18 := by decide +kernel
theorem zi_131_18 : zraw 131 18 = some (.aload_n 0, 1) ∧ 18 + 1 = 19 := by decide +kernel
theorem zi_131_19 : zraw 131 19 = some (.getfield 68, 3) ∧ zft (zinf 131).1 68 = some (9, 9, 3, false) ∧ 19 + 3 = 22 := by decide +kernel
theorem zi_131_22 : zraw 131 22 = some (.invokevirtual 295, 3) ∧ zmt (zinf 131).1 295 = some 66 ∧ Nat.ble 9000 66 = false ∧ zinf 66 = (6, 3, 5, 0, 0) ∧ 22 + 3 = 25 := by decide +kernel
theorem zi_131_25 : zraw 131 25 = some (.aload_n 0, 1) ∧ 25 + 1 = 26 := by decide +kernel
theorem zi_131_26 : zraw 131 26 = some (.iload_n 1, 1) ∧ 26 + 1 = 27 := by decide +kernel
theorem zi_131_27 : zraw 131 27 = some (.putfield 85, 3) ∧ zft (zinf 131).1 85 = some (9, 15, 0, false) ∧ 27 + 3 = 30 := by decide +kernel
theorem zi_131_30 : zraw 131 30 = some (.return_, 1) ∧ (zinf 131).2.2.2.1 = 0 := by decide +kernel
theorem ze_131 {K : List zF} {σ : zW} {x1 : Int} (hK : K.length < 60) : zEv true (zent 131 [.inr (.inr 1), .inl x1] :: K) σ = (if (gI σ 1 15) = x1 then zRet true K none σ else (0 ≤ x1 ∧ x1 < 3) ∧ zEv true (zent 66 [.inr (.inr 41), .inr (.inr (gR σ 4 x1.toNat)), .inr (.inr (gR σ 1 9))] :: (131, 25, [some (.inr (.inr 1)), some (.inl x1)], []) :: K) σ) :=
  yT_en (f := (131, 0, [some (.inr (.inr 1)), some (.inl x1)], [])) rfl (yI_aload_n zi_131_0 rfl <| yI_gf_i (v := gI σ 1 15) zi_131_1 zk_1 rfl <| yI_iload_n zi_131_4 rfl <| yI_ic_eq zi_131_5 <| yBr (yI_ret zi_131_30) (yI_aload_n zi_131_8 rfl <| yI_gf_f (v := 41) zi_131_9 zk_1 rfl <| yI_aload_n zi_131_12 rfl <| yI_gf_f (v := 4) zi_131_13 zk_1 rfl <| yI_iload_n zi_131_16 rfl <| yI_aaloadc (v := gR σ 4 x1.toNat) zi_131_17 za_4 rfl <| yI_aload_n zi_131_18 rfl <| yI_gf_r (v := gR σ 1 9) zi_131_19 zk_1 rfl <| yI_cv zi_131_22 rfl rfl zk_41 hK))
theorem zr_131_25 {K : List zF} {σ : zW} {x1 : Int} : zRet true ((131, 25, [some (.inr (.inr 1)), some (.inl x1)], []) :: K) none σ = (zRet true K none (sI σ 1 15 x1)) :=
  yT_rv (yI_aload_n zi_131_25 rfl <| yI_iload_n zi_131_26 rfl <| yI_pf_i zi_131_27 zk_1 <| yI_ret zi_131_30)
/-- 132 Treegrab.forgetMatches()V -/
theorem zi_132_0 : zraw 132 0 = some (.aload_n 0, 1) ∧ 0 + 1 = 1 := by decide +kernel
theorem zi_132_1 : zraw 132 1 = some (.iconst (-1), 1) ∧ zin 128 (-1) = true ∧ 1 + 1 = 2 := by decide +kernel
theorem zi_132_2 : zraw 132 2 = some (.putfield 85, 3) ∧ zft (zinf 132).1 85 = some (9, 15, 0, false) ∧ 2 + 3 = 5 := by decide +kernel
theorem zi_132_5 : zraw 132 5 = some (.aload_n 0, 1) ∧ 5 + 1 = 6 := by decide +kernel
theorem zi_132_6 : zraw 132 6 = some (.getfield 33, 3) ∧ zft (zinf 132).1 33 = some (9, 3, 3, true) ∧ 6 + 3 = 9 := by decide +kernel
theorem zi_132_9 : zraw 132 9 = some (.iconst (-1), 1) ∧ zin 128 (-1) = true ∧ 9 + 1 = 10 := by decide +kernel
theorem zi_132_10 : zraw 132 10 = some (.putfield 299, 3) ∧ zft (zinf 132).1 299 = some (1, 1, 0, false) ∧ 10 + 3 = 13 := by decide +kernel
theorem zi_132_13 : zraw 132 13 = some (.aload_n 0, 1) ∧ 13 + 1 = 14 := by decide +kernel
theorem zi_132_14 : zraw 132 14 = some (.getfield 37, 3) ∧ zft (zinf 132).1 37 = some (9, 4, 3, true) ∧ 14 + 3 = 17 := by decide +kernel
theorem zi_132_17 : zraw 132 17 = some (.iconst (-1), 1) ∧ zin 128 (-1) = true ∧ 17 + 1 = 18 := by decide +kernel
theorem zi_132_18 : zraw 132 18 = some (.putfield 299, 3) ∧ zft (zinf 132).1 299 = some (1, 1, 0, false) ∧ 18 + 3 = 21 := by decide +kernel
theorem zi_132_21 : zraw 132 21 = some (.return_, 1) ∧ (zinf 132).2.2.2.1 = 0 := by decide +kernel
theorem ze_132 {K : List zF} {σ : zW} : zEv true (zent 132 [.inr (.inr 1)] :: K) σ = (zRet true K none (sI (sI (sI σ 1 15 (-1)) 50 1 (-1)) 52 1 (-1))) :=
  yT_en (f := (132, 0, [some (.inr (.inr 1))], [])) rfl (yI_aload_n zi_132_0 rfl <| yI_iconst zi_132_1 <| yI_pf_i zi_132_2 zk_1 <| yI_aload_n zi_132_5 rfl <| yI_gf_f (v := 50) zi_132_6 zk_1 rfl <| yI_iconst zi_132_9 <| yI_pf_i zi_132_10 zk_50 <| yI_aload_n zi_132_13 rfl <| yI_gf_f (v := 52) zi_132_14 zk_1 rfl <| yI_iconst zi_132_17 <| yI_pf_i zi_132_18 zk_52 <| yI_ret zi_132_21)
/-- 133 Treegrab.findPlanned(I)V -/
theorem zi_133_0 : zraw 133 0 = some (.aload_n 0, 1) ∧ 0 + 1 = 1 := by decide +kernel
theorem zi_133_1 : zraw 133 1 = some (.getfield 33, 3) ∧ zft (zinf 133).1 33 = some (9, 3, 3, true) ∧ 1 + 3 = 4 := by decide +kernel
theorem zi_133_4 : zraw 133 4 = some (.getfield 299, 3) ∧ zft (zinf 133).1 299 = some (1, 1, 0, false) ∧ 4 + 3 = 7 := by decide +kernel
theorem zi_133_7 : zraw 133 7 = some (.iload_n 1, 1) ∧ 7 + 1 = 8 := by decide +kernel
theorem zi_133_8 : zraw 133 8 = some (.if_icmp .ne 4, 3) ∧ ((8 : Nat) : Int) + 4 = Int.ofNat 12 ∧ 8 + 3 = 11 := by decide +kernel
theorem zi_133_11 : zraw 133 11 = some (.return_, 1) ∧ (zinf 133).2.2.2.1 = 0 := by decide +kernel
theorem zi_133_12 : zraw 133 12 = some (.aload_n 0, 1) ∧ 12 + 1 = 13 := by decide +kernel
theorem zi_133_13 : zraw 133 13 = some (.getfield 33, 3) ∧ zft (zinf 133).1 33 = some (9, 3, 3, true) ∧ 13 + 3 = 16 := by decide +kernel
theorem zi_133_16 : zraw 133 16 = some (.iload_n 1, 1) ∧ 16 + 1 = 17 := by decide +kernel
theorem zi_133_17 : zraw 133 17 = some (.aload_n 0, 1) ∧ 17 + 1 = 18 := by decide +kernel
theorem zi_133_18 : zraw 133 18 = some (.getfield 19, 3) ∧ zft (zinf 133).1 19 = some (9, 1, 3, true) ∧ 18 + 3 = 21 := by decide +kernel
theorem zi_133_21 : zraw 133 21 = some (.iload_n 1, 1) ∧ 21 + 1 = 22 := by decide +kernel
theorem zi_133_22 : zraw 133 22 = some (.aaload, 1) ∧ 22 + 1 = 23 := by decide +kernel
theorem zi_133_23 : zraw 133 23 = some (.getfield 139, 3) ∧ zft (zinf 133).1 139 = some (8, 12, 0, false) ∧ 23 + 3 = 26 := by decide +kernel
theorem zi_133_26 : zraw 133 26 = some (.aload_n 0, 1) ∧ 26 + 1 = 27 := by decide +kernel
theorem zi_133_27 : zraw 133 27 = some (.getfield 68, 3) ∧ zft (zinf 133).1 68 = some (9, 9, 3, false) ∧ 27 + 3 = 30 := by decide +kernel
theorem zi_133_30 : zraw 133 30 = some (.getfield 145, 3) ∧ zft (zinf 133).1 145 = some (4, 16, 0, false) ∧ 30 + 3 = 33 := by decide +kernel
theorem zi_133_33 : zraw 133 33 = some (.invokevirtual 302, 3) ∧ zmt (zinf 133).1 302 = some 23 ∧ Nat.ble 9000 23 = false ∧ zinf 23 = (1, 4, 6, 0, 0) ∧ 33 + 3 = 36 := by decide +kernel
theorem zi_133_36 : zraw 133 36 = some (.aload_n 0, 1) ∧ 36 + 1 = 37 := by decide +kernel
theorem zi_133_37 : zraw 133 37 = some (.iload_n 1, 1) ∧ 37 + 1 = 38 := by decide +kernel
theorem zi_133_38 : zraw 133 38 = some (.invokevirtual 208, 3) ∧ zmt (zinf 133).1 208 = some 130 ∧ Nat.ble 9000 130 = false ∧ zinf 130 = (9, 2, 2, 2, 0) ∧ 38 + 3 = 41 := by decide +kernel
theorem zi_133_41 : zraw 133 41 = some (.ifCond .ne 19, 3) ∧ ((41 : Nat) : Int) + 19 = Int.ofNat 60 ∧ 41 + 3 = 44 := by decide +kernel
theorem zi_133_44 : zraw 133 44 = some (.aload_n 0, 1) ∧ 44 + 1 = 45 := by decide +kernel
theorem zi_133_45 : zraw 133 45 = some (.iload_n 1, 1) ∧ 45 + 1 = 46 := by decide +kernel
theorem zi_133_46 : zraw 133 46 = some (.invokevirtual 213, 3) ∧ zmt (zinf 133).1 213 = some 131 ∧ Nat.ble 9000 131 = false ∧ zinf 131 = (9, 2, 2, 0, 0) ∧ 46 + 3 = 49 := by decide +kernel
theorem zi_133_49 : zraw 133 49 = some (.aload_n 0, 1) ∧ 49 + 1 = 50 := by decide +kernel
theorem zi_133_50 : zraw 133 50 = some (.getfield 26, 3) ∧ zft (zinf 133).1 26 = some (9, 2, 3, true) ∧ 50 + 3 = 53 := by decide +kernel
theorem zi_133_53 : zraw 133 53 = some (.aload_n 0, 1) ∧ 53 + 1 = 54 := by decide +kernel
theorem zi_133_54 : zraw 133 54 = some (.getfield 33, 3) ∧ zft (zinf 133).1 33 = some (9, 3, 3, true) ∧ 54 + 3 = 57 := by decide +kernel
theorem zi_133_57 : zraw 133 57 = some (.invokevirtual 305, 3) ∧ zmt (zinf 133).1 305 = some 72 ∧ Nat.ble 9000 72 = false ∧ zinf 72 = (6, 2, 2, 0, 0) ∧ 57 + 3 = 60 := by decide +kernel
theorem zi_133_60 : zraw 133 60 = some (.return_, 1) ∧ (zinf 133).2.2.2.1 = 0 := by decide +kernel
theorem ze_133 {K : List zF} {σ : zW} {x1 : Int} (hK : K.length < 60) (h1 : zTr (gR σ 4 x1.toNat)) (h2 : zPn (gR σ 1 9)) : zEv true (zent 133 [.inr (.inr 1), .inl x1] :: K) σ = (if ¬ (gI σ 50 1) = x1 then (0 ≤ x1 ∧ x1 < 3) ∧ zEv true (zent 23 [.inr (.inr 50), .inl x1, .inl (gI σ (gR σ 4 x1.toNat) 12), .inl (gI σ (gR σ 1 9) 16)] :: (133, 36, [some (.inr (.inr 1)), some (.inl x1)], []) :: K) σ else zRet true K none σ) :=
  yT_en (f := (133, 0, [some (.inr (.inr 1)), some (.inl x1)], [])) rfl (yI_aload_n zi_133_0 rfl <| yI_gf_f (v := 50) zi_133_1 zk_1 rfl <| yI_gf_i (v := gI σ 50 1) zi_133_4 zk_50 rfl <| yI_iload_n zi_133_7 rfl <| yI_ic_ne zi_133_8 <| yBr (yI_aload_n zi_133_12 rfl <| yI_gf_f (v := 50) zi_133_13 zk_1 rfl <| yI_iload_n zi_133_16 rfl <| yI_aload_n zi_133_17 rfl <| yI_gf_f (v := 4) zi_133_18 zk_1 rfl <| yI_iload_n zi_133_21 rfl <| yI_aaloadc (v := gR σ 4 x1.toNat) zi_133_22 za_4 rfl <| yI_gf_i (v := gI σ (gR σ 4 x1.toNat) 12) zi_133_23 (zTr_k h1) rfl <| yI_aload_n zi_133_26 rfl <| yI_gf_r (v := gR σ 1 9) zi_133_27 zk_1 rfl <| yI_gf_i (v := gI σ (gR σ 1 9) 16) zi_133_30 (zPn_k h2) rfl <| yI_cv zi_133_33 rfl rfl zk_50 hK) (yI_ret zi_133_11))
theorem zr_133_36 {K : List zF} {σ : zW} {x1 : Int} (hK : K.length < 60) : zRet true ((133, 36, [some (.inr (.inr 1)), some (.inl x1)], []) :: K) none σ = (zEv true (zent 130 [.inr (.inr 1), .inl x1] :: (133, 41, [some (.inr (.inr 1)), some (.inl x1)], []) :: K) σ) :=
  yT_rv (yI_aload_n zi_133_36 rfl <| yI_iload_n zi_133_37 rfl <| yI_cv zi_133_38 rfl rfl zk_1 hK)
theorem zr_133_41 {K : List zF} {σ : zW} {x1 : Int} {v : Int} (hK : K.length < 60) : zRet true ((133, 41, [some (.inr (.inr 1)), some (.inl x1)], []) :: K) (some (.inl v)) σ = (if ¬ v = 0 then zRet true K none σ else zEv true (zent 131 [.inr (.inr 1), .inl x1] :: (133, 49, [some (.inr (.inr 1)), some (.inl x1)], []) :: K) σ) :=
  yT_rt (yI_if_ne zi_133_41 <| yBr (yI_ret zi_133_60) (yI_aload_n zi_133_44 rfl <| yI_iload_n zi_133_45 rfl <| yI_cv zi_133_46 rfl rfl zk_1 hK))
theorem zr_133_49 {K : List zF} {σ : zW} {o1 : Option zV} (hK : K.length < 60) : zRet true ((133, 49, [some (.inr (.inr 1)), o1], []) :: K) none σ = (zEv true (zent 72 [.inr (.inr 41), .inr (.inr 50)] :: (133, 60, [some (.inr (.inr 1)), o1], []) :: K) σ) :=
  yT_rv (yI_aload_n zi_133_49 rfl <| yI_gf_f (v := 41) zi_133_50 zk_1 rfl <| yI_aload_n zi_133_53 rfl <| yI_gf_f (v := 50) zi_133_54 zk_1 rfl <| yI_cv zi_133_57 rfl rfl zk_41 hK)
theorem zr_133_60 {K : List zF} {σ : zW} {o0 : Option zV} {o1 : Option zV} : zRet true ((133, 60, [o0, o1], []) :: K) none σ = (zRet true K none σ) :=
  yT_rv (yI_ret zi_133_60)
/-- 134 Treegrab.findByTrying(I)V -/
theorem zi_134_0 : zraw 134 0 = some (.aload_n 0, 1) ∧ 0 + 1 = 1 := by decide +kernel
theorem zi_134_1 : zraw 134 1 = some (.getfield 37, 3) ∧ zft (zinf 134).1 37 = some (9, 4, 3, true) ∧ 1 + 3 = 4 := by decide +kernel
theorem zi_134_4 : zraw 134 4 = some (.getfield 299, 3) ∧ zft (zinf 134).1 299 = some (1, 1, 0, false) ∧ 4 + 3 = 7 := by decide +kernel
theorem zi_134_7 : zraw 134 7 = some (.iload_n 1, 1) ∧ 7 + 1 = 8 := by decide +kernel
theorem zi_134_8 : zraw 134 8 = some (.if_icmp .ne 4, 3) ∧ ((8 : Nat) : Int) + 4 = Int.ofNat 12 ∧ 8 + 3 = 11 := by decide +kernel
theorem zi_134_11 : zraw 134 11 = some (.return_, 1) ∧ (zinf 134).2.2.2.1 = 0 := by decide +kernel
theorem zi_134_12 : zraw 134 12 = some (.aload_n 0, 1) ∧ 12 + 1 = 13 := by decide +kernel
theorem zi_134_13 : zraw 134 13 = some (.getfield 37, 3) ∧ zft (zinf 134).1 37 = some (9, 4, 3, true) ∧ 13 + 3 = 16 := by decide +kernel
theorem zi_134_16 : zraw 134 16 = some (.iload_n 1, 1) ∧ 16 + 1 = 17 := by decide +kernel
theorem zi_134_17 : zraw 134 17 = some (.aload_n 0, 1) ∧ 17 + 1 = 18 := by decide +kernel
theorem zi_134_18 : zraw 134 18 = some (.getfield 19, 3) ∧ zft (zinf 134).1 19 = some (9, 1, 3, true) ∧ 18 + 3 = 21 := by decide +kernel
theorem zi_134_21 : zraw 134 21 = some (.iload_n 1, 1) ∧ 21 + 1 = 22 := by decide +kernel
theorem zi_134_22 : zraw 134 22 = some (.aaload, 1) ∧ 22 + 1 = 23 := by decide +kernel
theorem zi_134_23 : zraw 134 23 = some (.getfield 139, 3) ∧ zft (zinf 134).1 139 = some (8, 12, 0, false) ∧ 23 + 3 = 26 := by decide +kernel
theorem zi_134_26 : zraw 134 26 = some (.aload_n 0, 1) ∧ 26 + 1 = 27 := by decide +kernel
theorem zi_134_27 : zraw 134 27 = some (.getfield 68, 3) ∧ zft (zinf 134).1 68 = some (9, 9, 3, false) ∧ 27 + 3 = 30 := by decide +kernel
theorem zi_134_30 : zraw 134 30 = some (.getfield 145, 3) ∧ zft (zinf 134).1 145 = some (4, 16, 0, false) ∧ 30 + 3 = 33 := by decide +kernel
theorem zi_134_33 : zraw 134 33 = some (.invokevirtual 302, 3) ∧ zmt (zinf 134).1 302 = some 23 ∧ Nat.ble 9000 23 = false ∧ zinf 23 = (1, 4, 6, 0, 0) ∧ 33 + 3 = 36 := by decide +kernel
theorem zi_134_36 : zraw 134 36 = some (.aload_n 0, 1) ∧ 36 + 1 = 37 := by decide +kernel
theorem zi_134_37 : zraw 134 37 = some (.iload_n 1, 1) ∧ 37 + 1 = 38 := by decide +kernel
theorem zi_134_38 : zraw 134 38 = some (.invokevirtual 208, 3) ∧ zmt (zinf 134).1 208 = some 130 ∧ Nat.ble 9000 130 = false ∧ zinf 130 = (9, 2, 2, 2, 0) ∧ 38 + 3 = 41 := by decide +kernel
theorem zi_134_41 : zraw 134 41 = some (.ifCond .ne 19, 3) ∧ ((41 : Nat) : Int) + 19 = Int.ofNat 60 ∧ 41 + 3 = 44 := by decide +kernel
theorem zi_134_44 : zraw 134 44 = some (.aload_n 0, 1) ∧ 44 + 1 = 45 := by decide +kernel
theorem zi_134_45 : zraw 134 45 = some (.iload_n 1, 1) ∧ 45 + 1 = 46 := by decide +kernel
theorem zi_134_46 : zraw 134 46 = some (.invokevirtual 213, 3) ∧ zmt (zinf 134).1 213 = some 131 ∧ Nat.ble 9000 131 = false ∧ zinf 131 = (9, 2, 2, 0, 0) ∧ 46 + 3 = 49 := by decide +kernel
theorem zi_134_49 : zraw 134 49 = some (.aload_n 0, 1) ∧ 49 + 1 = 50 := by decide +kernel
theorem zi_134_50 : zraw 134 50 = some (.getfield 26, 3) ∧ zft (zinf 134).1 26 = some (9, 2, 3, true) ∧ 50 + 3 = 53 := by decide +kernel
theorem zi_134_53 : zraw 134 53 = some (.aload_n 0, 1) ∧ 53 + 1 = 54 := by decide +kernel
theorem zi_134_54 : zraw 134 54 = some (.getfield 37, 3) ∧ zft (zinf 134).1 37 = some (9, 4, 3, true) ∧ 54 + 3 = 57 := by decide +kernel
theorem zi_134_57 : zraw 134 57 = some (.invokevirtual 309, 3) ∧ zmt (zinf 134).1 309 = some 73 ∧ Nat.ble 9000 73 = false ∧ zinf 73 = (6, 2, 2, 0, 0) ∧ 57 + 3 = 60 := by decide +kernel
theorem zi_134_60 : zraw 134 60 = some (.return_, 1) ∧ (zinf 134).2.2.2.1 = 0 := by decide +kernel
theorem ze_134 {K : List zF} {σ : zW} {x1 : Int} (hK : K.length < 60) (h1 : zTr (gR σ 4 x1.toNat)) (h2 : zPn (gR σ 1 9)) : zEv true (zent 134 [.inr (.inr 1), .inl x1] :: K) σ = (if ¬ (gI σ 52 1) = x1 then (0 ≤ x1 ∧ x1 < 3) ∧ zEv true (zent 23 [.inr (.inr 52), .inl x1, .inl (gI σ (gR σ 4 x1.toNat) 12), .inl (gI σ (gR σ 1 9) 16)] :: (134, 36, [some (.inr (.inr 1)), some (.inl x1)], []) :: K) σ else zRet true K none σ) :=
  yT_en (f := (134, 0, [some (.inr (.inr 1)), some (.inl x1)], [])) rfl (yI_aload_n zi_134_0 rfl <| yI_gf_f (v := 52) zi_134_1 zk_1 rfl <| yI_gf_i (v := gI σ 52 1) zi_134_4 zk_52 rfl <| yI_iload_n zi_134_7 rfl <| yI_ic_ne zi_134_8 <| yBr (yI_aload_n zi_134_12 rfl <| yI_gf_f (v := 52) zi_134_13 zk_1 rfl <| yI_iload_n zi_134_16 rfl <| yI_aload_n zi_134_17 rfl <| yI_gf_f (v := 4) zi_134_18 zk_1 rfl <| yI_iload_n zi_134_21 rfl <| yI_aaloadc (v := gR σ 4 x1.toNat) zi_134_22 za_4 rfl <| yI_gf_i (v := gI σ (gR σ 4 x1.toNat) 12) zi_134_23 (zTr_k h1) rfl <| yI_aload_n zi_134_26 rfl <| yI_gf_r (v := gR σ 1 9) zi_134_27 zk_1 rfl <| yI_gf_i (v := gI σ (gR σ 1 9) 16) zi_134_30 (zPn_k h2) rfl <| yI_cv zi_134_33 rfl rfl zk_52 hK) (yI_ret zi_134_11))
theorem zr_134_36 {K : List zF} {σ : zW} {x1 : Int} (hK : K.length < 60) : zRet true ((134, 36, [some (.inr (.inr 1)), some (.inl x1)], []) :: K) none σ = (zEv true (zent 130 [.inr (.inr 1), .inl x1] :: (134, 41, [some (.inr (.inr 1)), some (.inl x1)], []) :: K) σ) :=
  yT_rv (yI_aload_n zi_134_36 rfl <| yI_iload_n zi_134_37 rfl <| yI_cv zi_134_38 rfl rfl zk_1 hK)
theorem zr_134_41 {K : List zF} {σ : zW} {x1 : Int} {v : Int} (hK : K.length < 60) : zRet true ((134, 41, [some (.inr (.inr 1)), some (.inl x1)], []) :: K) (some (.inl v)) σ = (if ¬ v = 0 then zRet true K none σ else zEv true (zent 131 [.inr (.inr 1), .inl x1] :: (134, 49, [some (.inr (.inr 1)), some (.inl x1)], []) :: K) σ) :=
  yT_rt (yI_if_ne zi_134_41 <| yBr (yI_ret zi_134_60) (yI_aload_n zi_134_44 rfl <| yI_iload_n zi_134_45 rfl <| yI_cv zi_134_46 rfl rfl zk_1 hK))
theorem zr_134_49 {K : List zF} {σ : zW} {o1 : Option zV} (hK : K.length < 60) : zRet true ((134, 49, [some (.inr (.inr 1)), o1], []) :: K) none σ = (zEv true (zent 73 [.inr (.inr 41), .inr (.inr 52)] :: (134, 60, [some (.inr (.inr 1)), o1], []) :: K) σ) :=
  yT_rv (yI_aload_n zi_134_49 rfl <| yI_gf_f (v := 41) zi_134_50 zk_1 rfl <| yI_aload_n zi_134_53 rfl <| yI_gf_f (v := 52) zi_134_54 zk_1 rfl <| yI_cv zi_134_57 rfl rfl zk_41 hK)
theorem zr_134_60 {K : List zF} {σ : zW} {o0 : Option zV} {o1 : Option zV} : zRet true ((134, 60, [o0, o1], []) :: K) none σ = (zRet true K none σ) :=
  yT_rv (yI_ret zi_134_60)
/-- 135 Treegrab.nodeNamed(I)I -/
theorem zi_135_0 : zraw 135 0 = some (.iload_n 1, 1) ∧ 0 + 1 = 1 := by decide +kernel
theorem zi_135_1 : zraw 135 1 = some (.ifCond .lt 9, 3) ∧ ((1 : Nat) : Int) + 9 = Int.ofNat 10 ∧ 1 + 3 = 4 := by decide +kernel
theorem zi_135_4 : zraw 135 4 = some (.iload_n 1, 1) ∧ 4 + 1 = 5 := by decide +kernel
theorem zi_135_5 : zraw 135 5 = some (.bipush 26, 2) ∧ zin 128 26 = true ∧ 5 + 2 = 7 := by decide +kernel
theorem zi_135_7 : zraw 135 7 = some (.if_icmp .lt 5, 3) ∧ ((7 : Nat) : Int) + 5 = Int.ofNat 12 ∧ 7 + 3 = 10 := by decide +kernel
theorem zi_135_10 : zraw 135 10 = some (.iconst (-1), 1) ∧ zin 128 (-1) = true ∧ 10 + 1 = 11 := by decide +kernel
theorem zi_135_11 : zraw 135 11 = some (.ireturn, 1) ∧ (zinf 135).2.2.2.1 = 1 := by decide +kernel
theorem zi_135_12 : zraw 135 12 = some (.aload_n 0, 1) ∧ 12 + 1 = 13 := by decide +kernel
theorem zi_135_13 : zraw 135 13 = some (.getfield 68, 3) ∧ zft (zinf 135).1 68 = some (9, 9, 3, false) ∧ 13 + 3 = 16 := by decide +kernel
theorem zi_135_16 : zraw 135 16 = some (.getfield 312, 3) ∧ zft (zinf 135).1 312 = some (4, 12, 3, true) ∧ 16 + 3 = 19 := by decide +kernel
theorem zi_135_19 : zraw 135 19 = some (.iload_n 1, 1) ∧ 19 + 1 = 20 := by decide +kernel
theorem zi_135_20 : zraw 135 20 = some (.iaload, 1) ∧ 20 + 1 = 21 := by decide +kernel
theorem zi_135_21 : zraw 135 21 = some (.istore_n 2, 1) ∧ 21 + 1 = 22 := by decide +kernel
theorem zi_135_22 : zraw 135 22 = some (.iload_n 2, 1) ∧ 22 + 1 = 23 := by decide +kernel
theorem zi_135_23 : zraw 135 23 = some (.iconst (-1), 1) ∧ zin 128 (-1) = true ∧ 23 + 1 = 24 := by decide +kernel
theorem zi_135_24 : zraw 135 24 = some (.if_icmp .ne 7, 3) ∧ ((24 : Nat) : Int) + 7 = Int.ofNat 31 ∧ 24 + 3 = 27 := by decide +kernel
theorem zi_135_27 : zraw 135 27 = some (.iconst (-1), 1) ∧ zin 128 (-1) = true ∧ 27 + 1 = 28 := by decide +kernel
theorem zi_135_28 : zraw 135 28 = some (.goto 12, 3) ∧ ((28 : Nat) : Int) + 12 = Int.ofNat 40 := by decide +kernel
theorem zi_135_31 : zraw 135 31 = some (.aload_n 0, 1) ∧ 31 + 1 = 32 := by decide +kernel
theorem zi_135_32 : zraw 135 32 = some (.getfield 68, 3) ∧ zft (zinf 135).1 68 = some (9, 9, 3, false) ∧ 32 + 3 = 35 := by decide +kernel
theorem zi_135_35 : zraw 135 35 = some (.getfield 315, 3) ∧ zft (zinf 135).1 315 = some (4, 7, 3, true) ∧ 35 + 3 = 38 := by decide +kernel
theorem zi_135_38 : zraw 135 38 = some (.iload_n 2, 1) ∧ 38 + 1 = 39 := by decide +kernel
theorem zi_135_39 : zraw 135 39 = some (.iaload, 1) ∧ 39 + 1 = 40 := by decide +kernel
theorem zi_135_40 : zraw 135 40 = some (.istore_n 3, 1) ∧ 40 + 1 = 41 := by decide +kernel
theorem zi_135_41 : zraw 135 41 = some (.iload_n 3, 1) ∧ 41 + 1 = 42 := by decide +kernel
theorem zi_135_42 : zraw 135 42 = some (.iconst (-1), 1) ∧ zin 128 (-1) = true ∧ 42 + 1 = 43 := by decide +kernel
theorem zi_135_43 : zraw 135 43 = some (.if_icmp .ne 7, 3) ∧ ((43 : Nat) : Int) + 7 = Int.ofNat 50 ∧ 43 + 3 = 46 := by decide +kernel
theorem zi_135_46 : zraw 135 46 = some (.iconst (-1), 1) ∧ zin 128 (-1) = true ∧ 46 + 1 = 47 := by decide +kernel
theorem zi_135_47 : zraw 135 47 = some (.goto 12, 3) ∧ ((47 : Nat) : Int) + 12 = Int.ofNat 59 := by decide +kernel
theorem zi_135_50 : zraw 135 50 = some (.aload_n 0, 1) ∧ 50 + 1 = 51 := by decide +kernel
theorem zi_135_51 : zraw 135 51 = some (.getfield 33, 3) ∧ zft (zinf 135).1 33 = some (9, 3, 3, true) ∧ 51 + 3 = 54 := by decide +kernel
theorem zi_135_54 : zraw 135 54 = some (.iconst 0, 1) ∧ zin 128 0 = true ∧ 54 + 1 = 55 := by decide +kernel
theorem zi_135_55 : zraw 135 55 = some (.iload_n 3, 1) ∧ 55 + 1 = 56 := by decide +kernel
theorem zi_135_56 : zraw 135 56 = some (.invokevirtual 204, 3) ∧ zmt (zinf 135).1 204 = some 26 ∧ Nat.ble 9000 26 = false ∧ zinf 26 = (1, 3, 5, 1, 0) ∧ 56 + 3 = 59 := by decide +kernel
theorem zi_135_59 : zraw 135 59 = some (.ireturn, 1) ∧ (zinf 135).2.2.2.1 = 1 := by decide +kernel
theorem ze_135 {K : List zF} {σ : zW} {x1 : Int} (hK : K.length < 60) (h1 : zPn (gR σ 1 9)) : zEv true (zent 135 [.inr (.inr 1), .inl x1] :: K) σ = (if x1 < 0 then zRet true K (some (.inl (-1))) σ else if x1 < 26 then (0 ≤ x1 ∧ x1 < 26) ∧ (((¬ (gI σ ((gR σ 1 9) + 13) x1.toNat) = (-1)) → (0 ≤ (gI σ ((gR σ 1 9) + 13) x1.toNat) ∧ (gI σ ((gR σ 1 9) + 13) x1.toNat) < 8)) ∧ (if ¬ (if ¬ (gI σ ((gR σ 1 9) + 13) x1.toNat) = (-1) then gI σ ((gR σ 1 9) + 8) ((gI σ ((gR σ 1 9) + 13) x1.toNat).toNat) else (-1) : Int) = (-1) then zEv true (zent 26 [.inr (.inr 50), .inl 0, .inl (if ¬ (gI σ ((gR σ 1 9) + 13) x1.toNat) = (-1) then gI σ ((gR σ 1 9) + 8) ((gI σ ((gR σ 1 9) + 13) x1.toNat).toNat) else (-1) : Int)] :: (135, 59, [some (.inr (.inr 1)), some (.inl x1), some (.inl (gI σ ((gR σ 1 9) + 13) x1.toNat)), some (.inl (if ¬ (gI σ ((gR σ 1 9) + 13) x1.toNat) = (-1) then gI σ ((gR σ 1 9) + 8) ((gI σ ((gR σ 1 9) + 13) x1.toNat).toNat) else (-1) : Int))], []) :: K) σ else zRet true K (some (.inl (-1))) σ)) else zRet true K (some (.inl (-1))) σ) :=
  yT_en (f := (135, 0, [some (.inr (.inr 1)), some (.inl x1), none, none], [])) rfl (yI_iload_n zi_135_0 rfl <| yI_if_lt zi_135_1 <| yBr (yI_iconst zi_135_10 <| yI_ireturn zi_135_11) (yI_iload_n zi_135_4 rfl <| yI_bipush zi_135_5 <| yI_ic_lt zi_135_7 <| yBr (yI_aload_n zi_135_12 rfl <| yI_gf_r (v := gR σ 1 9) zi_135_13 zk_1 rfl <| yI_gf_f (v := (gR σ 1 9) + 13) zi_135_16 (zPn_k h1) rfl <| yI_iload_n zi_135_19 rfl <| yI_ialoadc (v := gI σ ((gR σ 1 9) + 13) x1.toNat) zi_135_20 (zPn_a13 h1) rfl <| yI_istore_n (l := [some (.inr (.inr 1)), some (.inl x1), some (.inl (gI σ ((gR σ 1 9) + 13) x1.toNat)), none]) zi_135_21 rfl rfl <| yI_iload_n zi_135_22 rfl <| yI_iconst zi_135_23 <| yI_ic_ne zi_135_24 <| yMi1 (j := 40) (ls2 := [some (.inr (.inr 1)), some (.inl x1), some (.inl (gI σ ((gR σ 1 9) + 13) x1.toNat)), none]) (st2 := []) (x := gI σ ((gR σ 1 9) + 8) ((gI σ ((gR σ 1 9) + 13) x1.toNat).toNat)) (y := (-1)) (σ2 := σ) (yI_aload_n zi_135_31 rfl <| yI_gf_r (v := gR σ 1 9) zi_135_32 zk_1 rfl <| yI_gf_f (v := (gR σ 1 9) + 8) zi_135_35 (zPn_k h1) rfl <| yI_iload_n zi_135_38 rfl <| yI_ialoadc (v := gI σ ((gR σ 1 9) + 8) ((gI σ ((gR σ 1 9) + 13) x1.toNat).toNat)) zi_135_39 (zPn_a8 h1) rfl <| rfl) (yI_iconst zi_135_27 <| yI_goto zi_135_28 <| rfl) <| yI_istore_n (l := [some (.inr (.inr 1)), some (.inl x1), some (.inl (gI σ ((gR σ 1 9) + 13) x1.toNat)), some (.inl (if ¬ (gI σ ((gR σ 1 9) + 13) x1.toNat) = (-1) then gI σ ((gR σ 1 9) + 8) ((gI σ ((gR σ 1 9) + 13) x1.toNat).toNat) else (-1) : Int))]) zi_135_40 rfl rfl <| yI_iload_n zi_135_41 rfl <| yI_iconst zi_135_42 <| yI_ic_ne zi_135_43 <| yBr (yI_aload_n zi_135_50 rfl <| yI_gf_f (v := 50) zi_135_51 zk_1 rfl <| yI_iconst zi_135_54 <| yI_iload_n zi_135_55 rfl <| yI_cv zi_135_56 rfl rfl zk_50 hK) (yI_iconst zi_135_46 <| yI_goto zi_135_47 <| yI_ireturn zi_135_59)) (yI_iconst zi_135_10 <| yI_ireturn zi_135_11)))
theorem zr_135_59 {K : List zF} {σ : zW} {o0 : Option zV} {o1 : Option zV} {o2 : Option zV} {o3 : Option zV} {v : Int} : zRet true ((135, 59, [o0, o1, o2, o3], []) :: K) (some (.inl v)) σ = (zRet true K (some (.inl v)) σ) :=
  yT_rt (yI_ireturn zi_135_59)
/-- 136 Treegrab.isLetter(I)Z -/
theorem zi_136_0 : zraw 136 0 = some (.iload_n 0, 1) ∧ 0 + 1 = 1 := by decide +kernel
theorem zi_136_1 : zraw 136 1 = some (.bipush 97, 2) ∧ zin 128 97 = true ∧ 1 + 2 = 3 := by decide +kernel
theorem zi_136_3 : zraw 136 3 = some (.if_icmp .lt 9, 3) ∧ ((3 : Nat) : Int) + 9 = Int.ofNat 12 ∧ 3 + 3 = 6 := by decide +kernel
theorem zi_136_6 : zraw 136 6 = some (.iload_n 0, 1) ∧ 6 + 1 = 7 := by decide +kernel
theorem zi_136_7 : zraw 136 7 = some (.bipush 122, 2) ∧ zin 128 122 = true ∧ 7 + 2 = 9 := by decide +kernel
theorem zi_136_9 : zraw 136 9 = some (.if_icmp .le 15, 3) ∧ ((9 : Nat) : Int) + 15 = Int.ofNat 24 ∧ 9 + 3 = 12 := by decide +kernel
theorem zi_136_12 : zraw 136 12 = some (.iload_n 0, 1) ∧ 12 + 1 = 13 := by decide +kernel
theorem zi_136_13 : zraw 136 13 = some (.bipush 65, 2) ∧ zin 128 65 = true ∧ 13 + 2 = 15 := by decide +kernel
theorem zi_136_15 : zraw 136 15 = some (.if_icmp .lt 13, 3) ∧ ((15 : Nat) : Int) + 13 = Int.ofNat 28 ∧ 15 + 3 = 18 := by decide +kernel
theorem zi_136_18 : zraw 136 18 = some (.iload_n 0, 1) ∧ 18 + 1 = 19 := by decide +kernel
theorem zi_136_19 : zraw 136 19 = some (.bipush 90, 2) ∧ zin 128 90 = true ∧ 19 + 2 = 21 := by decide +kernel
theorem zi_136_21 : zraw 136 21 = some (.if_icmp .gt 7, 3) ∧ ((21 : Nat) : Int) + 7 = Int.ofNat 28 ∧ 21 + 3 = 24 := by decide +kernel
theorem zi_136_24 : zraw 136 24 = some (.iconst 1, 1) ∧ zin 128 1 = true ∧ 24 + 1 = 25 := by decide +kernel
theorem zi_136_25 : zraw 136 25 = some (.goto 4, 3) ∧ ((25 : Nat) : Int) + 4 = Int.ofNat 29 := by decide +kernel
theorem zi_136_28 : zraw 136 28 = some (.iconst 0, 1) ∧ zin 128 0 = true ∧ 28 + 1 = 29 := by decide +kernel
theorem zi_136_29 : zraw 136 29 = some (.ireturn, 1) ∧ (zinf 136).2.2.2.1 = 2 := by decide +kernel
theorem ze_136 {K : List zF} {σ : zW} {x0 : Int} : zEv true (zent 136 [.inl x0] :: K) σ = (if x0 < 97 then zEv true ((136, 12, [some (.inl x0)], []) :: K) σ else if x0 ≤ 122 then zRet true K (some (.inl 1)) σ else zEv true ((136, 12, [some (.inl x0)], []) :: K) σ) :=
  yT_en (f := (136, 0, [some (.inl x0)], [])) rfl (yI_iload_n zi_136_0 rfl <| yI_bipush zi_136_1 <| yI_ic_lt zi_136_3 <| yBr (rfl) (yI_iload_n zi_136_6 rfl <| yI_bipush zi_136_7 <| yI_ic_le zi_136_9 <| yBr (yI_iconst zi_136_24 <| yI_goto zi_136_25 <| yI_zreturn zi_136_29 (by decide)) (rfl)))
theorem zj_136_12 {K : List zF} {σ : zW} {x0 : Int} : zEv true ((136, 12, [some (.inl x0)], []) :: K) σ = (if x0 < 65 then zEv true ((136, 28, [some (.inl x0)], []) :: K) σ else if 90 < x0 then zEv true ((136, 28, [some (.inl x0)], []) :: K) σ else zRet true K (some (.inl 1)) σ) :=
  yI_iload_n zi_136_12 rfl <| yI_bipush zi_136_13 <| yI_ic_lt zi_136_15 <| yBr (rfl) (yI_iload_n zi_136_18 rfl <| yI_bipush zi_136_19 <| yI_ic_gt zi_136_21 <| yBr (rfl) (yI_iconst zi_136_24 <| yI_goto zi_136_25 <| yI_zreturn zi_136_29 (by decide)))
theorem zj_136_28 {K : List zF} {σ : zW} {o0 : Option zV} : zEv true ((136, 28, [o0], []) :: K) σ = (zRet true K (some (.inl 0)) σ) :=
  yI_iconst zi_136_28 <| yI_zreturn zi_136_29 (by decide)
/-- 137 Treegrab.isSmallLetter(I)Z -/
theorem zi_137_0 : zraw 137 0 = some (.iload_n 0, 1) ∧ 0 + 1 = 1 := by decide +kernel
theorem zi_137_1 : zraw 137 1 = some (.bipush 97, 2) ∧ zin 128 97 = true ∧ 1 + 2 = 3 := by decide +kernel
theorem zi_137_3 : zraw 137 3 = some (.if_icmp .lt 13, 3) ∧ ((3 : Nat) : Int) + 13 = Int.ofNat 16 ∧ 3 + 3 = 6 := by decide +kernel
theorem zi_137_6 : zraw 137 6 = some (.iload_n 0, 1) ∧ 6 + 1 = 7 := by decide +kernel
theorem zi_137_7 : zraw 137 7 = some (.bipush 122, 2) ∧ zin 128 122 = true ∧ 7 + 2 = 9 := by decide +kernel
theorem zi_137_9 : zraw 137 9 = some (.if_icmp .gt 7, 3) ∧ ((9 : Nat) : Int) + 7 = Int.ofNat 16 ∧ 9 + 3 = 12 := by decide +kernel
theorem zi_137_12 : zraw 137 12 = some (.iconst 1, 1) ∧ zin 128 1 = true ∧ 12 + 1 = 13 := by decide +kernel
theorem zi_137_13 : zraw 137 13 = some (.goto 4, 3) ∧ ((13 : Nat) : Int) + 4 = Int.ofNat 17 := by decide +kernel
theorem zi_137_16 : zraw 137 16 = some (.iconst 0, 1) ∧ zin 128 0 = true ∧ 16 + 1 = 17 := by decide +kernel
theorem zi_137_17 : zraw 137 17 = some (.ireturn, 1) ∧ (zinf 137).2.2.2.1 = 2 := by decide +kernel
theorem ze_137 {K : List zF} {σ : zW} {x0 : Int} : zEv true (zent 137 [.inl x0] :: K) σ = (if x0 < 97 then zEv true ((137, 16, [some (.inl x0)], []) :: K) σ else if 122 < x0 then zEv true ((137, 16, [some (.inl x0)], []) :: K) σ else zRet true K (some (.inl 1)) σ) :=
  yT_en (f := (137, 0, [some (.inl x0)], [])) rfl (yI_iload_n zi_137_0 rfl <| yI_bipush zi_137_1 <| yI_ic_lt zi_137_3 <| yBr (rfl) (yI_iload_n zi_137_6 rfl <| yI_bipush zi_137_7 <| yI_ic_gt zi_137_9 <| yBr (rfl) (yI_iconst zi_137_12 <| yI_goto zi_137_13 <| yI_zreturn zi_137_17 (by decide))))
theorem zj_137_16 {K : List zF} {σ : zW} {o0 : Option zV} : zEv true ((137, 16, [o0], []) :: K) σ = (zRet true K (some (.inl 0)) σ) :=
  yI_iconst zi_137_16 <| yI_zreturn zi_137_17 (by decide)
/-- 138 Treegrab.isDigit(I)Z -/
theorem zi_138_0 : zraw 138 0 = some (.iload_n 0, 1) ∧ 0 + 1 = 1 := by decide +kernel
theorem zi_138_1 : zraw 138 1 = some (.bipush 48, 2) ∧ zin 128 48 = true ∧ 1 + 2 = 3 := by decide +kernel
theorem zi_138_3 : zraw 138 3 = some (.if_icmp .lt 13, 3) ∧ ((3 : Nat) : Int) + 13 = Int.ofNat 16 ∧ 3 + 3 = 6 := by decide +kernel
theorem zi_138_6 : zraw 138 6 = some (.iload_n 0, 1) ∧ 6 + 1 = 7 := by decide +kernel
theorem zi_138_7 : zraw 138 7 = some (.bipush 57, 2) ∧ zin 128 57 = true ∧ 7 + 2 = 9 := by decide +kernel
theorem zi_138_9 : zraw 138 9 = some (.if_icmp .gt 7, 3) ∧ ((9 : Nat) : Int) + 7 = Int.ofNat 16 ∧ 9 + 3 = 12 := by decide +kernel
theorem zi_138_12 : zraw 138 12 = some (.iconst 1, 1) ∧ zin 128 1 = true ∧ 12 + 1 = 13 := by decide +kernel
theorem zi_138_13 : zraw 138 13 = some (.goto 4, 3) ∧ ((13 : Nat) : Int) + 4 = Int.ofNat 17 := by decide +kernel
theorem zi_138_16 : zraw 138 16 = some (.iconst 0, 1) ∧ zin 128 0 = true ∧ 16 + 1 = 17 := by decide +kernel
theorem zi_138_17 : zraw 138 17 = some (.ireturn, 1) ∧ (zinf 138).2.2.2.1 = 2 := by decide +kernel
theorem ze_138 {K : List zF} {σ : zW} {x0 : Int} : zEv true (zent 138 [.inl x0] :: K) σ = (if x0 < 48 then zEv true ((138, 16, [some (.inl x0)], []) :: K) σ else if 57 < x0 then zEv true ((138, 16, [some (.inl x0)], []) :: K) σ else zRet true K (some (.inl 1)) σ) :=
  yT_en (f := (138, 0, [some (.inl x0)], [])) rfl (yI_iload_n zi_138_0 rfl <| yI_bipush zi_138_1 <| yI_ic_lt zi_138_3 <| yBr (rfl) (yI_iload_n zi_138_6 rfl <| yI_bipush zi_138_7 <| yI_ic_gt zi_138_9 <| yBr (rfl) (yI_iconst zi_138_12 <| yI_goto zi_138_13 <| yI_zreturn zi_138_17 (by decide))))
theorem zj_138_16 {K : List zF} {σ : zW} {o0 : Option zV} : zEv true ((138, 16, [o0], []) :: K) σ = (zRet true K (some (.inl 0)) σ) :=
  yI_iconst zi_138_16 <| yI_zreturn zi_138_17 (by decide)
/-- 140 TreegrabModel.thrown()I -/
theorem zi_140_0 : zraw 140 0 = some (.aload_n 0, 1) ∧ 0 + 1 = 1 := by decide +kernel
theorem zi_140_1 : zraw 140 1 = some (.getfield 205, 3) ∧ zft (zinf 140).1 205 = some (10, 88, 0, false) ∧ 1 + 3 = 4 := by decide +kernel
theorem zi_140_4 : zraw 140 4 = some (.ireturn, 1) ∧ (zinf 140).2.2.2.1 = 1 := by decide +kernel
theorem ze_140 {K : List zF} {σ : zW} : zEv true (zent 140 [.inr (.inr 122)] :: K) σ = (zRet true K (some (.inl (gI σ 122 88))) σ) :=
  yT_en (f := (140, 0, [some (.inr (.inr 122))], [])) rfl (yI_aload_n zi_140_0 rfl <| yI_gf_i (v := gI σ 122 88) zi_140_1 zk_122 rfl <| yI_ireturn zi_140_4)
/-- 141 TreegrabModel.goes(I)Z -/
theorem zi_141_0 : zraw 141 0 = some (.aload_n 0, 1) ∧ 0 + 1 = 1 := by decide +kernel
theorem zi_141_1 : zraw 141 1 = some (.iload_n 1, 1) ∧ 1 + 1 = 2 := by decide +kernel
theorem zi_141_2 : zraw 141 2 = some (.putfield 205, 3) ∧ zft (zinf 141).1 205 = some (10, 88, 0, false) ∧ 2 + 3 = 5 := by decide +kernel
theorem zi_141_5 : zraw 141 5 = some (.iload_n 1, 1) ∧ 5 + 1 = 6 := by decide +kernel
theorem zi_141_6 : zraw 141 6 = some (.ifCond .ne 7, 3) ∧ ((6 : Nat) : Int) + 7 = Int.ofNat 13 ∧ 6 + 3 = 9 := by decide +kernel
theorem zi_141_9 : zraw 141 9 = some (.iconst 1, 1) ∧ zin 128 1 = true ∧ 9 + 1 = 10 := by decide +kernel
theorem zi_141_10 : zraw 141 10 = some (.goto 4, 3) ∧ ((10 : Nat) : Int) + 4 = Int.ofNat 14 := by decide +kernel
theorem zi_141_13 : zraw 141 13 = some (.iconst 0, 1) ∧ zin 128 0 = true ∧ 13 + 1 = 14 := by decide +kernel
theorem zi_141_14 : zraw 141 14 = some (.ireturn, 1) ∧ (zinf 141).2.2.2.1 = 2 := by decide +kernel
theorem ze_141 {K : List zF} {σ : zW} {x1 : Int} : zEv true (zent 141 [.inr (.inr 122), .inl x1] :: K) σ = (if ¬ x1 = 0 then zRet true K (some (.inl 0)) (sI σ 122 88 x1) else zRet true K (some (.inl 1)) (sI σ 122 88 x1)) :=
  yT_en (f := (141, 0, [some (.inr (.inr 122)), some (.inl x1)], [])) rfl (yI_aload_n zi_141_0 rfl <| yI_iload_n zi_141_1 rfl <| yI_pf_i zi_141_2 zk_122 <| yI_iload_n zi_141_5 rfl <| yI_if_ne zi_141_6 <| yBr (yI_iconst zi_141_13 <| yI_zreturn zi_141_14 (by decide)) (yI_iconst zi_141_9 <| yI_goto zi_141_10 <| yI_zreturn zi_141_14 (by decide)))
/-- 142 TreegrabModel.isIn(III)Z -/
theorem zi_142_0 : zraw 142 0 = some (.iload_n 0, 1) ∧ 0 + 1 = 1 := by decide +kernel
theorem zi_142_1 : zraw 142 1 = some (.iload_n 1, 1) ∧ 1 + 1 = 2 := by decide +kernel
theorem zi_142_2 : zraw 142 2 = some (.if_icmp .lt 12, 3) ∧ ((2 : Nat) : Int) + 12 = Int.ofNat 14 ∧ 2 + 3 = 5 := by decide +kernel
theorem zi_142_5 : zraw 142 5 = some (.iload_n 0, 1) ∧ 5 + 1 = 6 := by decide +kernel
theorem zi_142_6 : zraw 142 6 = some (.iload_n 2, 1) ∧ 6 + 1 = 7 := by decide +kernel
theorem zi_142_7 : zraw 142 7 = some (.if_icmp .gt 7, 3) ∧ ((7 : Nat) : Int) + 7 = Int.ofNat 14 ∧ 7 + 3 = 10 := by decide +kernel
theorem zi_142_10 : zraw 142 10 = some (.iconst 1, 1) ∧ zin 128 1 = true ∧ 10 + 1 = 11 := by decide +kernel
theorem zi_142_11 : zraw 142 11 = some (.goto 4, 3) ∧ ((11 : Nat) : Int) + 4 = Int.ofNat 15 := by decide +kernel
theorem zi_142_14 : zraw 142 14 = some (.iconst 0, 1) ∧ zin 128 0 = true ∧ 14 + 1 = 15 := by decide +kernel
theorem zi_142_15 : zraw 142 15 = some (.ireturn, 1) ∧ (zinf 142).2.2.2.1 = 2 := by decide +kernel
theorem ze_142 {K : List zF} {σ : zW} {x0 : Int} {x1 : Int} {x2 : Int} : zEv true (zent 142 [.inl x0, .inl x1, .inl x2] :: K) σ = (if x0 < x1 then zEv true ((142, 14, [some (.inl x0), some (.inl x1), some (.inl x2)], []) :: K) σ else if x2 < x0 then zEv true ((142, 14, [some (.inl x0), some (.inl x1), some (.inl x2)], []) :: K) σ else zRet true K (some (.inl 1)) σ) :=
  yT_en (f := (142, 0, [some (.inl x0), some (.inl x1), some (.inl x2)], [])) rfl (yI_iload_n zi_142_0 rfl <| yI_iload_n zi_142_1 rfl <| yI_ic_lt zi_142_2 <| yBr (rfl) (yI_iload_n zi_142_5 rfl <| yI_iload_n zi_142_6 rfl <| yI_ic_gt zi_142_7 <| yBr (rfl) (yI_iconst zi_142_10 <| yI_goto zi_142_11 <| yI_zreturn zi_142_15 (by decide))))
theorem zj_142_14 {K : List zF} {σ : zW} {o0 : Option zV} {o1 : Option zV} {o2 : Option zV} : zEv true ((142, 14, [o0, o1, o2], []) :: K) σ = (zRet true K (some (.inl 0)) σ) :=
  yI_iconst zi_142_14 <| yI_zreturn zi_142_15 (by decide)
/-- 143 TreegrabModel.isPlace(I)Z -/
theorem zi_143_0 : zraw 143 0 = some (.iload_n 0, 1) ∧ 0 + 1 = 1 := by decide +kernel
theorem zi_143_1 : zraw 143 1 = some (.iconst 0, 1) ∧ zin 128 0 = true ∧ 1 + 1 = 2 := by decide +kernel
theorem zi_143_2 : zraw 143 2 = some (.iconst 2, 1) ∧ zin 128 2 = true ∧ 2 + 1 = 3 := by decide +kernel
theorem zi_143_3 : zraw 143 3 = some (.invokestatic 208, 3) ∧ zmt (zinf 143).1 208 = some 142 ∧ Nat.ble 9000 142 = false ∧ zinf 142 = (10, 3, 3, 2, 1) ∧ 3 + 3 = 6 := by decide +kernel
theorem zi_143_6 : zraw 143 6 = some (.ireturn, 1) ∧ (zinf 143).2.2.2.1 = 2 := by decide +kernel
theorem ze_143 {K : List zF} {σ : zW} {x0 : Int} (hK : K.length < 60) : zEv true (zent 143 [.inl x0] :: K) σ = (zEv true (zent 142 [.inl x0, .inl 0, .inl 2] :: (143, 6, [some (.inl x0)], []) :: K) σ) :=
  yT_en (f := (143, 0, [some (.inl x0)], [])) rfl (yI_iload_n zi_143_0 rfl <| yI_iconst zi_143_1 <| yI_iconst zi_143_2 <| yI_cs zi_143_3 rfl rfl hK)
theorem zr_143_6 {K : List zF} {σ : zW} {o0 : Option zV} {v : Int} : zRet true ((143, 6, [o0], []) :: K) (some (.inl v)) σ = ((v = 0 ∨ v = 1) ∧ zRet true K (some (.inl v)) σ) :=
  yT_rt (yI_zreturnc zi_143_6)
/-- 144 TreegrabModel.code()I -/
theorem zi_144_0 : zraw 144 0 = some (.aload_n 0, 1) ∧ 0 + 1 = 1 := by decide +kernel
theorem zi_144_1 : zraw 144 1 = some (.getfield 212, 3) ∧ zft (zinf 144).1 212 = some (10, 2, 0, false) ∧ 1 + 3 = 4 := by decide +kernel
theorem zi_144_4 : zraw 144 4 = some (.aload_n 0, 1) ∧ 4 + 1 = 5 := by decide +kernel
theorem zi_144_5 : zraw 144 5 = some (.getfield 215, 3) ∧ zft (zinf 144).1 215 = some (10, 1, 0, false) ∧ 5 + 3 = 8 := by decide +kernel
theorem zi_144_8 : zraw 144 8 = some (.if_icmp .ge 15, 3) ∧ ((8 : Nat) : Int) + 15 = Int.ofNat 23 ∧ 8 + 3 = 11 := by decide +kernel
theorem zi_144_11 : zraw 144 11 = some (.aload_n 0, 1) ∧ 11 + 1 = 12 := by decide +kernel
theorem zi_144_12 : zraw 144 12 = some (.getfield 7, 3) ∧ zft (zinf 144).1 7 = some (10, 0, 3, true) ∧ 12 + 3 = 15 := by decide +kernel
theorem zi_144_15 : zraw 144 15 = some (.aload_n 0, 1) ∧ 15 + 1 = 16 := by decide +kernel
theorem zi_144_16 : zraw 144 16 = some (.getfield 212, 3) ∧ zft (zinf 144).1 212 = some (10, 2, 0, false) ∧ 16 + 3 = 19 := by decide +kernel
theorem zi_144_19 : zraw 144 19 = some (.iaload, 1) ∧ 19 + 1 = 20 := by decide +kernel
theorem zi_144_20 : zraw 144 20 = some (.goto 4, 3) ∧ ((20 : Nat) : Int) + 4 = Int.ofNat 24 := by decide +kernel
theorem zi_144_23 : zraw 144 23 = some (.iconst (-1), 1) ∧ zin 128 (-1) = true ∧ 23 + 1 = 24 := by decide +kernel
theorem zi_144_24 : zraw 144 24 = some (.ireturn, 1) ∧ (zinf 144).2.2.2.1 = 1 := by decide +kernel
theorem ze_144 {K : List zF} {σ : zW} : zEv true (zent 144 [.inr (.inr 122)] :: K) σ = ((¬ ((gI σ 122 1) ≤ (gI σ 122 2)) → (0 ≤ (gI σ 122 2) ∧ (gI σ 122 2) < 600)) ∧ zRet true K (some (.inl (if (gI σ 122 1) ≤ (gI σ 122 2) then (-1) else gI σ 123 ((gI σ 122 2).toNat) : Int))) σ) :=
  yT_en (f := (144, 0, [some (.inr (.inr 122))], [])) rfl (yI_aload_n zi_144_0 rfl <| yI_gf_i (v := gI σ 122 2) zi_144_1 zk_122 rfl <| yI_aload_n zi_144_4 rfl <| yI_gf_i (v := gI σ 122 1) zi_144_5 zk_122 rfl <| yI_ic_ge zi_144_8 <| yMi2 (j := 24) (ls2 := [some (.inr (.inr 122))]) (st2 := []) (x := (-1)) (y := gI σ 123 ((gI σ 122 2).toNat)) (σ2 := σ) (yI_iconst zi_144_23 <| rfl) (yI_aload_n zi_144_11 rfl <| yI_gf_f (v := 123) zi_144_12 zk_122 rfl <| yI_aload_n zi_144_15 rfl <| yI_gf_i (v := gI σ 122 2) zi_144_16 zk_122 rfl <| yI_ialoadc (v := gI σ 123 ((gI σ 122 2).toNat)) zi_144_19 za_123 rfl <| yI_goto zi_144_20 <| rfl) <| yI_ireturn zi_144_24)
/-- 145 TreegrabModel.passes()V -/
theorem zi_145_0 : zraw 145 0 = some (.aload_n 0, 1) ∧ 0 + 1 = 1 := by decide +kernel
theorem zi_145_1 : zraw 145 1 = some (.invokevirtual 218, 3) ∧ zmt (zinf 145).1 218 = some 144 ∧ Nat.ble 9000 144 = false ∧ zinf 144 = (10, 1, 1, 1, 0) ∧ 1 + 3 = 4 := by decide +kernel
theorem zi_145_4 : zraw 145 4 = some (.bipush 9, 2) ∧ zin 128 9 = true ∧ 4 + 2 = 6 := by decide +kernel
theorem zi_145_6 : zraw 145 6 = some (.if_icmp .eq 21, 3) ∧ ((6 : Nat) : Int) + 21 = Int.ofNat 27 ∧ 6 + 3 = 9 := by decide +kernel
theorem zi_145_9 : zraw 145 9 = some (.aload_n 0, 1) ∧ 9 + 1 = 10 := by decide +kernel
theorem zi_145_10 : zraw 145 10 = some (.invokevirtual 218, 3) ∧ zmt (zinf 145).1 218 = some 144 ∧ Nat.ble 9000 144 = false ∧ zinf 144 = (10, 1, 1, 1, 0) ∧ 10 + 3 = 13 := by decide +kernel
theorem zi_145_13 : zraw 145 13 = some (.bipush 32, 2) ∧ zin 128 32 = true ∧ 13 + 2 = 15 := by decide +kernel
theorem zi_145_15 : zraw 145 15 = some (.if_icmp .eq 12, 3) ∧ ((15 : Nat) : Int) + 12 = Int.ofNat 27 ∧ 15 + 3 = 18 := by decide +kernel
theorem zi_145_18 : zraw 145 18 = some (.aload_n 0, 1) ∧ 18 + 1 = 19 := by decide +kernel
theorem zi_145_19 : zraw 145 19 = some (.invokevirtual 218, 3) ∧ zmt (zinf 145).1 218 = some 144 ∧ Nat.ble 9000 144 = false ∧ zinf 144 = (10, 1, 1, 1, 0) ∧ 19 + 3 = 22 := by decide +kernel
theorem zi_145_22 : zraw 145 22 = some (.bipush 10, 2) ∧ zin 128 10 = true ∧ 22 + 2 = 24 := by decide +kernel
theorem zi_145_24 : zraw 145 24 = some (.if_icmp .ne 16, 3) ∧ ((24 : Nat) : Int) + 16 = Int.ofNat 40 ∧ 24 + 3 = 27 := by decide +kernel
theorem zi_145_27 : zraw 145 27 = some (.aload_n 0, 1) ∧ 27 + 1 = 28 := by decide +kernel
theorem zi_145_28 : zraw 145 28 = some (.dup, 1) ∧ 28 + 1 = 29 := by decide +kernel
theorem zi_145_29 : zraw 145 29 = some (.getfield 212, 3) ∧ zft (zinf 145).1 212 = some (10, 2, 0, false) ∧ 29 + 3 = 32 := by decide +kernel
theorem zi_145_32 : zraw 145 32 = some (.iconst 1, 1) ∧ zin 128 1 = true ∧ 32 + 1 = 33 := by decide +kernel
theorem zi_145_33 : zraw 145 33 = some (.iadd, 1) ∧ 33 + 1 = 34 := by decide +kernel
theorem zi_145_34 : zraw 145 34 = some (.putfield 212, 3) ∧ zft (zinf 145).1 212 = some (10, 2, 0, false) ∧ 34 + 3 = 37 := by decide +kernel
theorem zi_145_37 : zraw 145 37 = some (.goto (-37), 3) ∧ ((37 : Nat) : Int) + (-37) = Int.ofNat 0 := by decide +kernel
theorem zi_145_40 : zraw 145 40 = some (.return_, 1) ∧ (zinf 145).2.2.2.1 = 0 := by decide +kernel
theorem ze_145 {K : List zF} {σ : zW} : zEv true (zent 145 [.inr (.inr 122)] :: K) σ = zEv true ((145, 0, [some (.inr (.inr 122))], []) :: K) σ := rfl
theorem zj_145_0 {K : List zF} {σ : zW} (hK : K.length < 60) : zEv true ((145, 0, [some (.inr (.inr 122))], []) :: K) σ = (zEv true (zent 144 [.inr (.inr 122)] :: (145, 4, [some (.inr (.inr 122))], []) :: K) σ) :=
  yI_aload_n zi_145_0 rfl <| yI_cv zi_145_1 rfl rfl zk_122 hK
theorem zr_145_4 {K : List zF} {σ : zW} {v : Int} (hK : K.length < 60) : zRet true ((145, 4, [some (.inr (.inr 122))], []) :: K) (some (.inl v)) σ = (if v = 9 then zEv true ((145, 27, [some (.inr (.inr 122))], []) :: K) σ else zEv true (zent 144 [.inr (.inr 122)] :: (145, 13, [some (.inr (.inr 122))], []) :: K) σ) :=
  yT_rt (yI_bipush zi_145_4 <| yI_ic_eq zi_145_6 <| yBr (rfl) (yI_aload_n zi_145_9 rfl <| yI_cv zi_145_10 rfl rfl zk_122 hK))
theorem zj_145_27 {K : List zF} {σ : zW} : zEv true ((145, 27, [some (.inr (.inr 122))], []) :: K) σ = (zEv true ((145, 0, [some (.inr (.inr 122))], []) :: K) (sI σ 122 2 (w32 ((gI σ 122 2) + 1)))) :=
  yI_aload_n zi_145_27 rfl <| yI_dup_r zi_145_28 <| yI_gf_i (v := gI σ 122 2) zi_145_29 zk_122 rfl <| yI_iconst zi_145_32 <| yI_iadd zi_145_33 <| yI_pf_i zi_145_34 zk_122 <| yI_goto zi_145_37 <| rfl
theorem zr_145_13 {K : List zF} {σ : zW} {v : Int} (hK : K.length < 60) : zRet true ((145, 13, [some (.inr (.inr 122))], []) :: K) (some (.inl v)) σ = (if v = 32 then zEv true ((145, 27, [some (.inr (.inr 122))], []) :: K) σ else zEv true (zent 144 [.inr (.inr 122)] :: (145, 22, [some (.inr (.inr 122))], []) :: K) σ) :=
  yT_rt (yI_bipush zi_145_13 <| yI_ic_eq zi_145_15 <| yBr (rfl) (yI_aload_n zi_145_18 rfl <| yI_cv zi_145_19 rfl rfl zk_122 hK))
theorem zr_145_22 {K : List zF} {σ : zW} {v : Int} : zRet true ((145, 22, [some (.inr (.inr 122))], []) :: K) (some (.inl v)) σ = (if ¬ v = 10 then zRet true K none σ else zEv true ((145, 27, [some (.inr (.inr 122))], []) :: K) σ) :=
  yT_rt (yI_bipush zi_145_22 <| yI_ic_ne zi_145_24 <| yBr (yI_ret zi_145_40) (rfl))
/-- 146 TreegrabModel.isSmall(I)Z -/
theorem zi_146_0 : zraw 146 0 = some (.iload_n 0, 1) ∧ 0 + 1 = 1 := by decide +kernel
theorem zi_146_1 : zraw 146 1 = some (.bipush 97, 2) ∧ zin 128 97 = true ∧ 1 + 2 = 3 := by decide +kernel
theorem zi_146_3 : zraw 146 3 = some (.bipush 122, 2) ∧ zin 128 122 = true ∧ 3 + 2 = 5 := by decide +kernel
theorem zi_146_5 : zraw 146 5 = some (.invokestatic 208, 3) ∧ zmt (zinf 146).1 208 = some 142 ∧ Nat.ble 9000 142 = false ∧ zinf 142 = (10, 3, 3, 2, 1) ∧ 5 + 3 = 8 := by decide +kernel
theorem zi_146_8 : zraw 146 8 = some (.ireturn, 1) ∧ (zinf 146).2.2.2.1 = 2 := by decide +kernel
theorem ze_146 {K : List zF} {σ : zW} {x0 : Int} (hK : K.length < 60) : zEv true (zent 146 [.inl x0] :: K) σ = (zEv true (zent 142 [.inl x0, .inl 97, .inl 122] :: (146, 8, [some (.inl x0)], []) :: K) σ) :=
  yT_en (f := (146, 0, [some (.inl x0)], [])) rfl (yI_iload_n zi_146_0 rfl <| yI_bipush zi_146_1 <| yI_bipush zi_146_3 <| yI_cs zi_146_5 rfl rfl hK)
theorem zr_146_8 {K : List zF} {σ : zW} {o0 : Option zV} {v : Int} : zRet true ((146, 8, [o0], []) :: K) (some (.inl v)) σ = ((v = 0 ∨ v = 1) ∧ zRet true K (some (.inl v)) σ) :=
  yT_rt (yI_zreturnc zi_146_8)
/-- 147 TreegrabModel.isLetter(I)Z -/
theorem zi_147_0 : zraw 147 0 = some (.iload_n 0, 1) ∧ 0 + 1 = 1 := by decide +kernel
theorem zi_147_1 : zraw 147 1 = some (.invokestatic 222, 3) ∧ zmt (zinf 147).1 222 = some 146 ∧ Nat.ble 9000 146 = false ∧ zinf 146 = (10, 1, 1, 2, 1) ∧ 1 + 3 = 4 := by decide +kernel
theorem zi_147_4 : zraw 147 4 = some (.ifCond .ne 14, 3) ∧ ((4 : Nat) : Int) + 14 = Int.ofNat 18 ∧ 4 + 3 = 7 := by decide +kernel
theorem zi_147_7 : zraw 147 7 = some (.iload_n 0, 1) ∧ 7 + 1 = 8 := by decide +kernel
theorem zi_147_8 : zraw 147 8 = some (.bipush 65, 2) ∧ zin 128 65 = true ∧ 8 + 2 = 10 := by decide +kernel
theorem zi_147_10 : zraw 147 10 = some (.bipush 90, 2) ∧ zin 128 90 = true ∧ 10 + 2 = 12 := by decide +kernel
theorem zi_147_12 : zraw 147 12 = some (.invokestatic 208, 3) ∧ zmt (zinf 147).1 208 = some 142 ∧ Nat.ble 9000 142 = false ∧ zinf 142 = (10, 3, 3, 2, 1) ∧ 12 + 3 = 15 := by decide +kernel
theorem zi_147_15 : zraw 147 15 = some (.ifCond .eq 7, 3) ∧ ((15 : Nat) : Int) + 7 = Int.ofNat 22 ∧ 15 + 3 = 18 := by decide +kernel
theorem zi_147_18 : zraw 147 18 = some (.iconst 1, 1) ∧ zin 128 1 = true ∧ 18 + 1 = 19 := by decide +kernel
theorem zi_147_19 : zraw 147 19 = some (.goto 4, 3) ∧ ((19 : Nat) : Int) + 4 = Int.ofNat 23 := by decide +kernel
theorem zi_147_22 : zraw 147 22 = some (.iconst 0, 1) ∧ zin 128 0 = true ∧ 22 + 1 = 23 := by decide +kernel
theorem zi_147_23 : zraw 147 23 = some (.ireturn, 1) ∧ (zinf 147).2.2.2.1 = 2 := by decide +kernel
theorem ze_147 {K : List zF} {σ : zW} {x0 : Int} (hK : K.length < 60) : zEv true (zent 147 [.inl x0] :: K) σ = (zEv true (zent 146 [.inl x0] :: (147, 4, [some (.inl x0)], []) :: K) σ) :=
  yT_en (f := (147, 0, [some (.inl x0)], [])) rfl (yI_iload_n zi_147_0 rfl <| yI_cs zi_147_1 rfl rfl hK)
theorem zr_147_4 {K : List zF} {σ : zW} {x0 : Int} {v : Int} (hK : K.length < 60) : zRet true ((147, 4, [some (.inl x0)], []) :: K) (some (.inl v)) σ = (if ¬ v = 0 then zRet true K (some (.inl 1)) σ else zEv true (zent 142 [.inl x0, .inl 65, .inl 90] :: (147, 15, [some (.inl x0)], []) :: K) σ) :=
  yT_rt (yI_if_ne zi_147_4 <| yBr (yI_iconst zi_147_18 <| yI_goto zi_147_19 <| yI_zreturn zi_147_23 (by decide)) (yI_iload_n zi_147_7 rfl <| yI_bipush zi_147_8 <| yI_bipush zi_147_10 <| yI_cs zi_147_12 rfl rfl hK))
theorem zr_147_15 {K : List zF} {σ : zW} {o0 : Option zV} {v : Int} : zRet true ((147, 15, [o0], []) :: K) (some (.inl v)) σ = (if v = 0 then zRet true K (some (.inl 0)) σ else zRet true K (some (.inl 1)) σ) :=
  yT_rt (yI_if_eq zi_147_15 <| yBr (yI_iconst zi_147_22 <| yI_zreturn zi_147_23 (by decide)) (yI_iconst zi_147_18 <| yI_goto zi_147_19 <| yI_zreturn zi_147_23 (by decide)))
/-- 148 TreegrabModel.fails(II)Z -/
theorem zi_148_0 : zraw 148 0 = some (.aload_n 0, 1) ∧ 0 + 1 = 1 := by decide +kernel
theorem zi_148_1 : zraw 148 1 = some (.iload_n 1, 1) ∧ 1 + 1 = 2 := by decide +kernel
theorem zi_148_2 : zraw 148 2 = some (.putfield 226, 3) ∧ zft (zinf 148).1 226 = some (10, 6, 0, false) ∧ 2 + 3 = 5 := by decide +kernel
theorem zi_148_5 : zraw 148 5 = some (.aload_n 0, 1) ∧ 5 + 1 = 6 := by decide +kernel
theorem zi_148_6 : zraw 148 6 = some (.iload_n 2, 1) ∧ 6 + 1 = 7 := by decide +kernel
theorem zi_148_7 : zraw 148 7 = some (.putfield 229, 3) ∧ zft (zinf 148).1 229 = some (10, 7, 0, false) ∧ 7 + 3 = 10 := by decide +kernel
theorem zi_148_10 : zraw 148 10 = some (.iconst 0, 1) ∧ zin 128 0 = true ∧ 10 + 1 = 11 := by decide +kernel
theorem zi_148_11 : zraw 148 11 = some (.ireturn, 1) ∧ (zinf 148).2.2.2.1 = 2 := by decide +kernel
theorem ze_148 {K : List zF} {σ : zW} {x1 : Int} {x2 : Int} : zEv true (zent 148 [.inr (.inr 122), .inl x1, .inl x2] :: K) σ = (zRet true K (some (.inl 0)) (sI (sI σ 122 6 x1) 122 7 x2)) :=
  yT_en (f := (148, 0, [some (.inr (.inr 122)), some (.inl x1), some (.inl x2)], [])) rfl (yI_aload_n zi_148_0 rfl <| yI_iload_n zi_148_1 rfl <| yI_pf_i zi_148_2 zk_122 <| yI_aload_n zi_148_5 rfl <| yI_iload_n zi_148_6 rfl <| yI_pf_i zi_148_7 zk_122 <| yI_iconst zi_148_10 <| yI_zreturn zi_148_11 (by decide))
/-- 149 TreegrabModel.sign()I -/
theorem zi_149_0 : zraw 149 0 = some (.aload_n 0, 1) ∧ 0 + 1 = 1 := by decide +kernel
theorem zi_149_1 : zraw 149 1 = some (.invokevirtual 232, 3) ∧ zmt (zinf 149).1 232 = some 145 ∧ Nat.ble 9000 145 = false ∧ zinf 145 = (10, 1, 1, 0, 0) ∧ 1 + 3 = 4 := by decide +kernel
theorem zi_149_4 : zraw 149 4 = some (.aload_n 0, 1) ∧ 4 + 1 = 5 := by decide +kernel
theorem zi_149_5 : zraw 149 5 = some (.invokevirtual 218, 3) ∧ zmt (zinf 149).1 218 = some 144 ∧ Nat.ble 9000 144 = false ∧ zinf 144 = (10, 1, 1, 1, 0) ∧ 5 + 3 = 8 := by decide +kernel
theorem zi_149_8 : zraw 149 8 = some (.ireturn, 1) ∧ (zinf 149).2.2.2.1 = 1 := by decide +kernel
theorem ze_149 {K : List zF} {σ : zW} (hK : K.length < 60) : zEv true (zent 149 [.inr (.inr 122)] :: K) σ = (zEv true (zent 145 [.inr (.inr 122)] :: (149, 4, [some (.inr (.inr 122))], []) :: K) σ) :=
  yT_en (f := (149, 0, [some (.inr (.inr 122))], [])) rfl (yI_aload_n zi_149_0 rfl <| yI_cv zi_149_1 rfl rfl zk_122 hK)
theorem zr_149_4 {K : List zF} {σ : zW} (hK : K.length < 60) : zRet true ((149, 4, [some (.inr (.inr 122))], []) :: K) none σ = (zEv true (zent 144 [.inr (.inr 122)] :: (149, 8, [some (.inr (.inr 122))], []) :: K) σ) :=
  yT_rv (yI_aload_n zi_149_4 rfl <| yI_cv zi_149_5 rfl rfl zk_122 hK)
theorem zr_149_8 {K : List zF} {σ : zW} {o0 : Option zV} {v : Int} : zRet true ((149, 8, [o0], []) :: K) (some (.inl v)) σ = (zRet true K (some (.inl v)) σ) :=
  yT_rt (yI_ireturn zi_149_8)
/-- 150 TreegrabModel.isLabel()Z -/
theorem zi_150_0 : zraw 150 0 = some (.aload_n 0, 1) ∧ 0 + 1 = 1 := by decide +kernel
theorem zi_150_1 : zraw 150 1 = some (.aload_n 0, 1) ∧ 1 + 1 = 2 := by decide +kernel
theorem zi_150_2 : zraw 150 2 = some (.getfield 212, 3) ∧ zft (zinf 150).1 212 = some (10, 2, 0, false) ∧ 2 + 3 = 5 := by decide +kernel
theorem zi_150_5 : zraw 150 5 = some (.putfield 235, 3) ∧ zft (zinf 150).1 235 = some (10, 5, 0, false) ∧ 5 + 3 = 8 := by decide +kernel
theorem zi_150_8 : zraw 150 8 = some (.aload_n 0, 1) ∧ 8 + 1 = 9 := by decide +kernel
theorem zi_150_9 : zraw 150 9 = some (.lconst 0, 1) ∧ (bif Nat.beq (0 : Fin 2).val 0 then (0 : Int64) else 1) = 0 ∧ 9 + 1 = 10 := by decide +kernel
theorem zi_150_10 : zraw 150 10 = some (.putfield 238, 3) ∧ zft (zinf 150).1 238 = some (10, 3, 2, false) ∧ 10 + 3 = 13 := by decide +kernel
theorem zi_150_13 : zraw 150 13 = some (.aload_n 0, 1) ∧ 13 + 1 = 14 := by decide +kernel
theorem zi_150_14 : zraw 150 14 = some (.iconst 0, 1) ∧ zin 128 0 = true ∧ 14 + 1 = 15 := by decide +kernel
theorem zi_150_15 : zraw 150 15 = some (.putfield 242, 3) ∧ zft (zinf 150).1 242 = some (10, 4, 0, false) ∧ 15 + 3 = 18 := by decide +kernel
theorem zi_150_18 : zraw 150 18 = some (.aload_n 0, 1) ∧ 18 + 1 = 19 := by decide +kernel
theorem zi_150_19 : zraw 150 19 = some (.invokevirtual 218, 3) ∧ zmt (zinf 150).1 218 = some 144 ∧ Nat.ble 9000 144 = false ∧ zinf 144 = (10, 1, 1, 1, 0) ∧ 19 + 3 = 22 := by decide +kernel
theorem zi_150_22 : zraw 150 22 = some (.invokestatic 245, 3) ∧ zmt (zinf 150).1 245 = some 147 ∧ Nat.ble 9000 147 = false ∧ zinf 147 = (10, 1, 1, 2, 1) ∧ 22 + 3 = 25 := by decide +kernel
theorem zi_150_25 : zraw 150 25 = some (.istore_n 1, 1) ∧ 25 + 1 = 26 := by decide +kernel
theorem zi_150_26 : zraw 150 26 = some (.iload_n 1, 1) ∧ 26 + 1 = 27 := by decide +kernel
theorem zi_150_27 : zraw 150 27 = some (.ifCond .eq 85, 3) ∧ ((27 : Nat) : Int) + 85 = Int.ofNat 112 ∧ 27 + 3 = 30 := by decide +kernel
theorem zi_150_30 : zraw 150 30 = some (.aload_n 0, 1) ∧ 30 + 1 = 31 := by decide +kernel
theorem zi_150_31 : zraw 150 31 = some (.invokevirtual 218, 3) ∧ zmt (zinf 150).1 218 = some 144 ∧ Nat.ble 9000 144 = false ∧ zinf 144 = (10, 1, 1, 1, 0) ∧ 31 + 3 = 34 := by decide +kernel
theorem zi_150_34 : zraw 150 34 = some (.invokestatic 245, 3) ∧ zmt (zinf 150).1 245 = some 147 ∧ Nat.ble 9000 147 = false ∧ zinf 147 = (10, 1, 1, 2, 1) ∧ 34 + 3 = 37 := by decide +kernel
theorem zi_150_37 : zraw 150 37 = some (.ifCond .ne 17, 3) ∧ ((37 : Nat) : Int) + 17 = Int.ofNat 54 ∧ 37 + 3 = 40 := by decide +kernel
theorem zi_150_40 : zraw 150 40 = some (.aload_n 0, 1) ∧ 40 + 1 = 41 := by decide +kernel
theorem zi_150_41 : zraw 150 41 = some (.invokevirtual 218, 3) ∧ zmt (zinf 150).1 218 = some 144 ∧ Nat.ble 9000 144 = false ∧ zinf 144 = (10, 1, 1, 1, 0) ∧ 41 + 3 = 44 := by decide +kernel
theorem zi_150_44 : zraw 150 44 = some (.bipush 48, 2) ∧ zin 128 48 = true ∧ 44 + 2 = 46 := by decide +kernel
theorem zi_150_46 : zraw 150 46 = some (.bipush 57, 2) ∧ zin 128 57 = true ∧ 46 + 2 = 48 := by decide +kernel
theorem zi_150_48 : zraw 150 48 = some (.invokestatic 208, 3) ∧ zmt (zinf 150).1 208 = some 142 ∧ Nat.ble 9000 142 = false ∧ zinf 142 = (10, 3, 3, 2, 1) ∧ 48 + 3 = 51 := by decide +kernel
theorem zi_150_51 : zraw 150 51 = some (.ifCond .eq 61, 3) ∧ ((51 : Nat) : Int) + 61 = Int.ofNat 112 ∧ 51 + 3 = 54 := by decide +kernel
theorem zi_150_54 : zraw 150 54 = some (.aload_n 0, 1) ∧ 54 + 1 = 55 := by decide +kernel
theorem zi_150_55 : zraw 150 55 = some (.dup, 1) ∧ 55 + 1 = 56 := by decide +kernel
theorem zi_150_56 : zraw 150 56 = some (.getfield 238, 3) ∧ zft (zinf 150).1 238 = some (10, 3, 2, false) ∧ 56 + 3 = 59 := by decide +kernel
theorem zi_150_59 : zraw 150 59 = some (.aload_n 0, 1) ∧ 59 + 1 = 60 := by decide +kernel
theorem zi_150_60 : zraw 150 60 = some (.getfield 242, 3) ∧ zft (zinf 150).1 242 = some (10, 4, 0, false) ∧ 60 + 3 = 63 := by decide +kernel
theorem zi_150_63 : zraw 150 63 = some (.bipush 6, 2) ∧ zin 128 6 = true ∧ 63 + 2 = 65 := by decide +kernel
theorem zi_150_65 : zraw 150 65 = some (.if_icmp .ge 19, 3) ∧ ((65 : Nat) : Int) + 19 = Int.ofNat 84 ∧ 65 + 3 = 68 := by decide +kernel
theorem zi_150_68 : zraw 150 68 = some (.aload_n 0, 1) ∧ 68 + 1 = 69 := by decide +kernel
theorem zi_150_69 : zraw 150 69 = some (.invokevirtual 218, 3) ∧ zmt (zinf 150).1 218 = some 144 ∧ Nat.ble 9000 144 = false ∧ zinf 144 = (10, 1, 1, 1, 0) ∧ 69 + 3 = 72 := by decide +kernel
theorem zi_150_72 : zraw 150 72 = some (.i2l, 1) ∧ 72 + 1 = 73 := by decide +kernel
theorem zi_150_73 : zraw 150 73 = some (.bipush 8, 2) ∧ zin 128 8 = true ∧ 73 + 2 = 75 := by decide +kernel
theorem zi_150_75 : zraw 150 75 = some (.aload_n 0, 1) ∧ 75 + 1 = 76 := by decide +kernel
theorem zi_150_76 : zraw 150 76 = some (.getfield 242, 3) ∧ zft (zinf 150).1 242 = some (10, 4, 0, false) ∧ 76 + 3 = 79 := by decide +kernel
theorem zi_150_79 : zraw 150 79 = some (.imul, 1) ∧ 79 + 1 = 80 := by decide +kernel
theorem zi_150_80 : zraw 150 80 = some (.lshl, 1) ∧ 80 + 1 = 81 := by decide +kernel
theorem zi_150_81 : zraw 150 81 = some (.goto 4, 3) ∧ ((81 : Nat) : Int) + 4 = Int.ofNat 85 := by decide +kernel
theorem zi_150_84 : zraw 150 84 = some (.lconst 0, 1) ∧ (bif Nat.beq (0 : Fin 2).val 0 then (0 : Int64) else 1) = 0 ∧ 84 + 1 = 85 := by decide +kernel
theorem zi_150_85 : zraw 150 85 = some (.lor, 1) ∧ 85 + 1 = 86 := by decide +kernel
theorem zi_150_86 : zraw 150 86 = some (.putfield 238, 3) ∧ zft (zinf 150).1 238 = some (10, 3, 2, false) ∧ 86 + 3 = 89 := by decide +kernel
theorem zi_150_89 : zraw 150 89 = some (.aload_n 0, 1) ∧ 89 + 1 = 90 := by decide +kernel
theorem zi_150_90 : zraw 150 90 = some (.dup, 1) ∧ 90 + 1 = 91 := by decide +kernel
theorem zi_150_91 : zraw 150 91 = some (.getfield 242, 3) ∧ zft (zinf 150).1 242 = some (10, 4, 0, false) ∧ 91 + 3 = 94 := by decide +kernel
theorem zi_150_94 : zraw 150 94 = some (.iconst 1, 1) ∧ zin 128 1 = true ∧ 94 + 1 = 95 := by decide +kernel
theorem zi_150_95 : zraw 150 95 = some (.iadd, 1) ∧ 95 + 1 = 96 := by decide +kernel
theorem zi_150_96 : zraw 150 96 = some (.putfield 242, 3) ∧ zft (zinf 150).1 242 = some (10, 4, 0, false) ∧ 96 + 3 = 99 := by decide +kernel
theorem zi_150_99 : zraw 150 99 = some (.aload_n 0, 1) ∧ 99 + 1 = 100 := by decide +kernel
theorem zi_150_100 : zraw 150 100 = some (.dup, 1) ∧ 100 + 1 = 101 := by decide +kernel
theorem zi_150_101 : zraw 150 101 = some (.getfield 212, 3) ∧ zft (zinf 150).1 212 = some (10, 2, 0, false) ∧ 101 + 3 = 104 := by decide +kernel
theorem zi_150_104 : zraw 150 104 = some (.iconst 1, 1) ∧ zin 128 1 = true ∧ 104 + 1 = 105 := by decide +kernel
theorem zi_150_105 : zraw 150 105 = some (.iadd, 1) ∧ 105 + 1 = 106 := by decide +kernel
theorem zi_150_106 : zraw 150 106 = some (.putfield 212, 3) ∧ zft (zinf 150).1 212 = some (10, 2, 0, false) ∧ 106 + 3 = 109 := by decide +kernel
theorem zi_150_109 : zraw 150 109 = some (.goto (-83), 3) ∧ ((109 : Nat) : Int) + (-83) = Int.ofNat 26 := by decide +kernel
theorem zi_150_112 : zraw 150 112 = some (.iload_n 1, 1) ∧ 112 + 1 = 113 := by decide +kernel
theorem zi_150_113 : zraw 150 113 = some (.ireturn, 1) ∧ (zinf 150).2.2.2.1 = 2 := by decide +kernel
theorem ze_150 {K : List zF} {σ : zW} (hK : K.length < 60) : zEv true (zent 150 [.inr (.inr 122)] :: K) σ = (zEv true (zent 144 [.inr (.inr 122)] :: (150, 22, [some (.inr (.inr 122)), none], []) :: K) (sI (sL (sI σ 122 5 (gI σ 122 2)) 122 3 0) 122 4 0)) :=
  yT_en (f := (150, 0, [some (.inr (.inr 122)), none], [])) rfl (yI_aload_n zi_150_0 rfl <| yI_aload_n zi_150_1 rfl <| yI_gf_i (v := gI σ 122 2) zi_150_2 zk_122 rfl <| yI_pf_i zi_150_5 zk_122 <| yI_aload_n zi_150_8 rfl <| yI_lconst zi_150_9 <| yI_pf_l zi_150_10 zk_122 <| yI_aload_n zi_150_13 rfl <| yI_iconst zi_150_14 <| yI_pf_i zi_150_15 zk_122 <| yI_aload_n zi_150_18 rfl <| yI_cv zi_150_19 rfl rfl zk_122 hK)
theorem zr_150_22 {K : List zF} {σ : zW} {o1 : Option zV} {v : Int} (hK : K.length < 60) : zRet true ((150, 22, [some (.inr (.inr 122)), o1], []) :: K) (some (.inl v)) σ = (zEv true (zent 147 [.inl v] :: (150, 25, [some (.inr (.inr 122)), o1], []) :: K) σ) :=
  yT_rt (yI_cs zi_150_22 rfl rfl hK)
theorem zr_150_25 {K : List zF} {σ : zW} {o1 : Option zV} {v : Int} : zRet true ((150, 25, [some (.inr (.inr 122)), o1], []) :: K) (some (.inl v)) σ = (zEv true ((150, 26, [some (.inr (.inr 122)), some (.inl v)], []) :: K) σ) :=
  yT_rt (yI_istore_n (l := [some (.inr (.inr 122)), some (.inl v)]) zi_150_25 rfl rfl <| rfl)
theorem zj_150_26 {K : List zF} {σ : zW} {x1 : Int} (hK : K.length < 60) : zEv true ((150, 26, [some (.inr (.inr 122)), some (.inl x1)], []) :: K) σ = (if x1 = 0 then (x1 = 0 ∨ x1 = 1) ∧ zRet true K (some (.inl x1)) σ else zEv true (zent 144 [.inr (.inr 122)] :: (150, 34, [some (.inr (.inr 122)), some (.inl x1)], []) :: K) σ) :=
  yI_iload_n zi_150_26 rfl <| yI_if_eq zi_150_27 <| yBr (yI_iload_n zi_150_112 rfl <| yI_zreturnc zi_150_113) (yI_aload_n zi_150_30 rfl <| yI_cv zi_150_31 rfl rfl zk_122 hK)
theorem zr_150_34 {K : List zF} {σ : zW} {x1 : Int} {v : Int} (hK : K.length < 60) : zRet true ((150, 34, [some (.inr (.inr 122)), some (.inl x1)], []) :: K) (some (.inl v)) σ = (zEv true (zent 147 [.inl v] :: (150, 37, [some (.inr (.inr 122)), some (.inl x1)], []) :: K) σ) :=
  yT_rt (yI_cs zi_150_34 rfl rfl hK)
theorem zr_150_37 {K : List zF} {σ : zW} {x1 : Int} {v : Int} (hK : K.length < 60) : zRet true ((150, 37, [some (.inr (.inr 122)), some (.inl x1)], []) :: K) (some (.inl v)) σ = (if ¬ v = 0 then zEv true ((150, 54, [some (.inr (.inr 122)), some (.inl x1)], []) :: K) σ else zEv true (zent 144 [.inr (.inr 122)] :: (150, 44, [some (.inr (.inr 122)), some (.inl x1)], []) :: K) σ) :=
  yT_rt (yI_if_ne zi_150_37 <| yBr (rfl) (yI_aload_n zi_150_40 rfl <| yI_cv zi_150_41 rfl rfl zk_122 hK))
theorem zj_150_54 {K : List zF} {σ : zW} {x1 : Int} (hK : K.length < 60) : zEv true ((150, 54, [some (.inr (.inr 122)), some (.inl x1)], []) :: K) σ = (if 6 ≤ (gI σ 122 4) then zEv true ((150, 26, [some (.inr (.inr 122)), some (.inl x1)], []) :: K) (sI (sI (sL σ 122 3 ((gL σ 122 3) ||| 0)) 122 4 (w32 ((gI σ 122 4) + 1))) 122 2 (w32 ((gI σ 122 2) + 1))) else zEv true (zent 144 [.inr (.inr 122)] :: (150, 72, [some (.inr (.inr 122)), some (.inl x1)], [.inr (.inl (gL σ 122 3)), .inr (.inr 122)]) :: K) σ) :=
  yI_aload_n zi_150_54 rfl <| yI_dup_r zi_150_55 <| yI_gf_l (v := gL σ 122 3) zi_150_56 zk_122 rfl <| yI_aload_n zi_150_59 rfl <| yI_gf_i (v := gI σ 122 4) zi_150_60 zk_122 rfl <| yI_bipush zi_150_63 <| yI_ic_ge zi_150_65 <| yBr (yI_lconst zi_150_84 <| yI_lor zi_150_85 <| yI_pf_l zi_150_86 zk_122 <| yI_aload_n zi_150_89 rfl <| yI_dup_r zi_150_90 <| yI_gf_i (v := gI σ 122 4) zi_150_91 zk_122 rfl <| yI_iconst zi_150_94 <| yI_iadd zi_150_95 <| yI_pf_i zi_150_96 zk_122 <| yI_aload_n zi_150_99 rfl <| yI_dup_r zi_150_100 <| yI_gf_i (v := gI σ 122 2) zi_150_101 zk_122 ((yGI_nj (by decide)).trans (gI_sL _ _ _ _ _ _)) <| yI_iconst zi_150_104 <| yI_iadd zi_150_105 <| yI_pf_i zi_150_106 zk_122 <| yI_goto zi_150_109 <| rfl) (yI_aload_n zi_150_68 rfl <| yI_cv zi_150_69 rfl rfl zk_122 hK)
theorem zr_150_44 {K : List zF} {σ : zW} {x1 : Int} {v : Int} (hK : K.length < 60) : zRet true ((150, 44, [some (.inr (.inr 122)), some (.inl x1)], []) :: K) (some (.inl v)) σ = (zEv true (zent 142 [.inl v, .inl 48, .inl 57] :: (150, 51, [some (.inr (.inr 122)), some (.inl x1)], []) :: K) σ) :=
  yT_rt (yI_bipush zi_150_44 <| yI_bipush zi_150_46 <| yI_cs zi_150_48 rfl rfl hK)
theorem zr_150_72 {K : List zF} {σ : zW} {x1 : Int} {s0 : Int64} {v : Int} : zRet true ((150, 72, [some (.inr (.inr 122)), some (.inl x1)], [.inr (.inl s0), .inr (.inr 122)]) :: K) (some (.inl v)) σ = (zEv true ((150, 26, [some (.inr (.inr 122)), some (.inl x1)], []) :: K) (sI (sI (sL σ 122 3 (s0 ||| (zlshl (zi2l v) (w32 (8 * (gI σ 122 4)))))) 122 4 (w32 ((gI σ 122 4) + 1))) 122 2 (w32 ((gI σ 122 2) + 1)))) :=
  yT_rt (yI_i2l zi_150_72 <| yI_bipush zi_150_73 <| yI_aload_n zi_150_75 rfl <| yI_gf_i (v := gI σ 122 4) zi_150_76 zk_122 rfl <| yI_imul zi_150_79 <| yI_lshl zi_150_80 <| yI_goto zi_150_81 <| yI_lor zi_150_85 <| yI_pf_l zi_150_86 zk_122 <| yI_aload_n zi_150_89 rfl <| yI_dup_r zi_150_90 <| yI_gf_i (v := gI σ 122 4) zi_150_91 zk_122 rfl <| yI_iconst zi_150_94 <| yI_iadd zi_150_95 <| yI_pf_i zi_150_96 zk_122 <| yI_aload_n zi_150_99 rfl <| yI_dup_r zi_150_100 <| yI_gf_i (v := gI σ 122 2) zi_150_101 zk_122 ((yGI_nj (by decide)).trans (gI_sL _ _ _ _ _ _)) <| yI_iconst zi_150_104 <| yI_iadd zi_150_105 <| yI_pf_i zi_150_106 zk_122 <| yI_goto zi_150_109 <| rfl)
theorem zr_150_51 {K : List zF} {σ : zW} {x1 : Int} {v : Int} : zRet true ((150, 51, [some (.inr (.inr 122)), some (.inl x1)], []) :: K) (some (.inl v)) σ = (if v = 0 then (x1 = 0 ∨ x1 = 1) ∧ zRet true K (some (.inl x1)) σ else zEv true ((150, 54, [some (.inr (.inr 122)), some (.inl x1)], []) :: K) σ) :=
  yT_rt (yI_if_eq zi_150_51 <| yBr (yI_iload_n zi_150_112 rfl <| yI_zreturnc zi_150_113) (rfl))
/-- 151 TreegrabModel.isRightLabel()Z -/
theorem zi_151_0 : zraw 151 0 = some (.aload_n 0, 1) ∧ 0 + 1 = 1 := by decide +kernel
theorem zi_151_1 : zraw 151 1 = some (.invokevirtual 232, 3) ∧ zmt (zinf 151).1 232 = some 145 ∧ Nat.ble 9000 145 = false ∧ zinf 145 = (10, 1, 1, 0, 0) ∧ 1 + 3 = 4 := by decide +kernel
theorem zi_151_4 : zraw 151 4 = some (.aload_n 0, 1) ∧ 4 + 1 = 5 := by decide +kernel
theorem zi_151_5 : zraw 151 5 = some (.invokevirtual 248, 3) ∧ zmt (zinf 151).1 248 = some 150 ∧ Nat.ble 9000 150 = false ∧ zinf 150 = (10, 1, 2, 2, 0) ∧ 5 + 3 = 8 := by decide +kernel
theorem zi_151_8 : zraw 151 8 = some (.ifCond .eq 32, 3) ∧ ((8 : Nat) : Int) + 32 = Int.ofNat 40 ∧ 8 + 3 = 11 := by decide +kernel
theorem zi_151_11 : zraw 151 11 = some (.aload_n 0, 1) ∧ 11 + 1 = 12 := by decide +kernel
theorem zi_151_12 : zraw 151 12 = some (.getfield 242, 3) ∧ zft (zinf 151).1 242 = some (10, 4, 0, false) ∧ 12 + 3 = 15 := by decide +kernel
theorem zi_151_15 : zraw 151 15 = some (.bipush 6, 2) ∧ zin 128 6 = true ∧ 15 + 2 = 17 := by decide +kernel
theorem zi_151_17 : zraw 151 17 = some (.if_icmp .le 15, 3) ∧ ((17 : Nat) : Int) + 15 = Int.ofNat 32 ∧ 17 + 3 = 20 := by decide +kernel
theorem zi_151_20 : zraw 151 20 = some (.aload_n 0, 1) ∧ 20 + 1 = 21 := by decide +kernel
theorem zi_151_21 : zraw 151 21 = some (.iconst 2, 1) ∧ zin 128 2 = true ∧ 21 + 1 = 22 := by decide +kernel
theorem zi_151_22 : zraw 151 22 = some (.aload_n 0, 1) ∧ 22 + 1 = 23 := by decide +kernel
theorem zi_151_23 : zraw 151 23 = some (.getfield 235, 3) ∧ zft (zinf 151).1 235 = some (10, 5, 0, false) ∧ 23 + 3 = 26 := by decide +kernel
theorem zi_151_26 : zraw 151 26 = some (.invokevirtual 252, 3) ∧ zmt (zinf 151).1 252 = some 148 ∧ Nat.ble 9000 148 = false ∧ zinf 148 = (10, 3, 3, 2, 0) ∧ 26 + 3 = 29 := by decide +kernel
theorem zi_151_29 : zraw 151 29 = some (.ifCond .eq 7, 3) ∧ ((29 : Nat) : Int) + 7 = Int.ofNat 36 ∧ 29 + 3 = 32 := by decide +kernel
theorem zi_151_32 : zraw 151 32 = some (.iconst 1, 1) ∧ zin 128 1 = true ∧ 32 + 1 = 33 := by decide +kernel
theorem zi_151_33 : zraw 151 33 = some (.goto 16, 3) ∧ ((33 : Nat) : Int) + 16 = Int.ofNat 49 := by decide +kernel
theorem zi_151_36 : zraw 151 36 = some (.iconst 0, 1) ∧ zin 128 0 = true ∧ 36 + 1 = 37 := by decide +kernel
theorem zi_151_37 : zraw 151 37 = some (.goto 12, 3) ∧ ((37 : Nat) : Int) + 12 = Int.ofNat 49 := by decide +kernel
theorem zi_151_40 : zraw 151 40 = some (.aload_n 0, 1) ∧ 40 + 1 = 41 := by decide +kernel
theorem zi_151_41 : zraw 151 41 = some (.iconst 1, 1) ∧ zin 128 1 = true ∧ 41 + 1 = 42 := by decide +kernel
theorem zi_151_42 : zraw 151 42 = some (.aload_n 0, 1) ∧ 42 + 1 = 43 := by decide +kernel
theorem zi_151_43 : zraw 151 43 = some (.getfield 212, 3) ∧ zft (zinf 151).1 212 = some (10, 2, 0, false) ∧ 43 + 3 = 46 := by decide +kernel
theorem zi_151_46 : zraw 151 46 = some (.invokevirtual 252, 3) ∧ zmt (zinf 151).1 252 = some 148 ∧ Nat.ble 9000 148 = false ∧ zinf 148 = (10, 3, 3, 2, 0) ∧ 46 + 3 = 49 := by decide +kernel
theorem zi_151_49 : zraw 151 49 = some (.ireturn, 1) ∧ (zinf 151).2.2.2.1 = 2 := by decide +kernel
theorem ze_151 {K : List zF} {σ : zW} (hK : K.length < 60) : zEv true (zent 151 [.inr (.inr 122)] :: K) σ = (zEv true (zent 145 [.inr (.inr 122)] :: (151, 4, [some (.inr (.inr 122))], []) :: K) σ) :=
  yT_en (f := (151, 0, [some (.inr (.inr 122))], [])) rfl (yI_aload_n zi_151_0 rfl <| yI_cv zi_151_1 rfl rfl zk_122 hK)
theorem zr_151_4 {K : List zF} {σ : zW} (hK : K.length < 60) : zRet true ((151, 4, [some (.inr (.inr 122))], []) :: K) none σ = (zEv true (zent 150 [.inr (.inr 122)] :: (151, 8, [some (.inr (.inr 122))], []) :: K) σ) :=
  yT_rv (yI_aload_n zi_151_4 rfl <| yI_cv zi_151_5 rfl rfl zk_122 hK)
theorem zr_151_8 {K : List zF} {σ : zW} {v : Int} (hK : K.length < 60) : zRet true ((151, 8, [some (.inr (.inr 122))], []) :: K) (some (.inl v)) σ = (if v = 0 then zEv true (zent 148 [.inr (.inr 122), .inl 1, .inl (gI σ 122 2)] :: (151, 49, [some (.inr (.inr 122))], []) :: K) σ else if (gI σ 122 4) ≤ 6 then zRet true K (some (.inl 1)) σ else zEv true (zent 148 [.inr (.inr 122), .inl 2, .inl (gI σ 122 5)] :: (151, 29, [some (.inr (.inr 122))], []) :: K) σ) :=
  yT_rt (yI_if_eq zi_151_8 <| yBr (yI_aload_n zi_151_40 rfl <| yI_iconst zi_151_41 <| yI_aload_n zi_151_42 rfl <| yI_gf_i (v := gI σ 122 2) zi_151_43 zk_122 rfl <| yI_cv zi_151_46 rfl rfl zk_122 hK) (yI_aload_n zi_151_11 rfl <| yI_gf_i (v := gI σ 122 4) zi_151_12 zk_122 rfl <| yI_bipush zi_151_15 <| yI_ic_le zi_151_17 <| yBr (yI_iconst zi_151_32 <| yI_goto zi_151_33 <| yI_zreturn zi_151_49 (by decide)) (yI_aload_n zi_151_20 rfl <| yI_iconst zi_151_21 <| yI_aload_n zi_151_22 rfl <| yI_gf_i (v := gI σ 122 5) zi_151_23 zk_122 rfl <| yI_cv zi_151_26 rfl rfl zk_122 hK)))
theorem zr_151_49 {K : List zF} {σ : zW} {o0 : Option zV} {v : Int} : zRet true ((151, 49, [o0], []) :: K) (some (.inl v)) σ = ((v = 0 ∨ v = 1) ∧ zRet true K (some (.inl v)) σ) :=
  yT_rt (yI_zreturnc zi_151_49)
theorem zr_151_29 {K : List zF} {σ : zW} {o0 : Option zV} {v : Int} : zRet true ((151, 29, [o0], []) :: K) (some (.inl v)) σ = (if v = 0 then zRet true K (some (.inl 0)) σ else zRet true K (some (.inl 1)) σ) :=
  yT_rt (yI_if_eq zi_151_29 <| yBr (yI_iconst zi_151_36 <| yI_goto zi_151_37 <| yI_zreturn zi_151_49 (by decide)) (yI_iconst zi_151_32 <| yI_goto zi_151_33 <| yI_zreturn zi_151_49 (by decide)))
/-- 152 TreegrabModel.isNoEnd()Z -/
theorem zi_152_0 : zraw 152 0 = some (.aload_n 0, 1) ∧ 0 + 1 = 1 := by decide +kernel
theorem zi_152_1 : zraw 152 1 = some (.invokevirtual 256, 3) ∧ zmt (zinf 152).1 256 = some 149 ∧ Nat.ble 9000 149 = false ∧ zinf 149 = (10, 1, 1, 1, 0) ∧ 1 + 3 = 4 := by decide +kernel
theorem zi_152_4 : zraw 152 4 = some (.iconst (-1), 1) ∧ zin 128 (-1) = true ∧ 4 + 1 = 5 := by decide +kernel
theorem zi_152_5 : zraw 152 5 = some (.if_icmp .eq 15, 3) ∧ ((5 : Nat) : Int) + 15 = Int.ofNat 20 ∧ 5 + 3 = 8 := by decide +kernel
theorem zi_152_8 : zraw 152 8 = some (.aload_n 0, 1) ∧ 8 + 1 = 9 := by decide +kernel
theorem zi_152_9 : zraw 152 9 = some (.iconst 1, 1) ∧ zin 128 1 = true ∧ 9 + 1 = 10 := by decide +kernel
theorem zi_152_10 : zraw 152 10 = some (.aload_n 0, 1) ∧ 10 + 1 = 11 := by decide +kernel
theorem zi_152_11 : zraw 152 11 = some (.getfield 212, 3) ∧ zft (zinf 152).1 212 = some (10, 2, 0, false) ∧ 11 + 3 = 14 := by decide +kernel
theorem zi_152_14 : zraw 152 14 = some (.invokevirtual 252, 3) ∧ zmt (zinf 152).1 252 = some 148 ∧ Nat.ble 9000 148 = false ∧ zinf 148 = (10, 3, 3, 2, 0) ∧ 14 + 3 = 17 := by decide +kernel
theorem zi_152_17 : zraw 152 17 = some (.ifCond .eq 7, 3) ∧ ((17 : Nat) : Int) + 7 = Int.ofNat 24 ∧ 17 + 3 = 20 := by decide +kernel
theorem zi_152_20 : zraw 152 20 = some (.iconst 1, 1) ∧ zin 128 1 = true ∧ 20 + 1 = 21 := by decide +kernel
theorem zi_152_21 : zraw 152 21 = some (.goto 4, 3) ∧ ((21 : Nat) : Int) + 4 = Int.ofNat 25 := by decide +kernel
theorem zi_152_24 : zraw 152 24 = some (.iconst 0, 1) ∧ zin 128 0 = true ∧ 24 + 1 = 25 := by decide +kernel
theorem zi_152_25 : zraw 152 25 = some (.ireturn, 1) ∧ (zinf 152).2.2.2.1 = 2 := by decide +kernel
theorem ze_152 {K : List zF} {σ : zW} (hK : K.length < 60) : zEv true (zent 152 [.inr (.inr 122)] :: K) σ = (zEv true (zent 149 [.inr (.inr 122)] :: (152, 4, [some (.inr (.inr 122))], []) :: K) σ) :=
  yT_en (f := (152, 0, [some (.inr (.inr 122))], [])) rfl (yI_aload_n zi_152_0 rfl <| yI_cv zi_152_1 rfl rfl zk_122 hK)
theorem zr_152_4 {K : List zF} {σ : zW} {v : Int} (hK : K.length < 60) : zRet true ((152, 4, [some (.inr (.inr 122))], []) :: K) (some (.inl v)) σ = (if v = (-1) then zRet true K (some (.inl 1)) σ else zEv true (zent 148 [.inr (.inr 122), .inl 1, .inl (gI σ 122 2)] :: (152, 17, [some (.inr (.inr 122))], []) :: K) σ) :=
  yT_rt (yI_iconst zi_152_4 <| yI_ic_eq zi_152_5 <| yBr (yI_iconst zi_152_20 <| yI_goto zi_152_21 <| yI_zreturn zi_152_25 (by decide)) (yI_aload_n zi_152_8 rfl <| yI_iconst zi_152_9 <| yI_aload_n zi_152_10 rfl <| yI_gf_i (v := gI σ 122 2) zi_152_11 zk_122 rfl <| yI_cv zi_152_14 rfl rfl zk_122 hK))
theorem zr_152_17 {K : List zF} {σ : zW} {o0 : Option zV} {v : Int} : zRet true ((152, 17, [o0], []) :: K) (some (.inl v)) σ = (if v = 0 then zRet true K (some (.inl 0)) σ else zRet true K (some (.inl 1)) σ) :=
  yT_rt (yI_if_eq zi_152_17 <| yBr (yI_iconst zi_152_24 <| yI_zreturn zi_152_25 (by decide)) (yI_iconst zi_152_20 <| yI_goto zi_152_21 <| yI_zreturn zi_152_25 (by decide)))
/-- 153 TreegrabModel.isTree()Z -/
theorem zi_153_0 : zraw 153 0 = some (.aload_n 0, 1) ∧ 0 + 1 = 1 := by decide +kernel
theorem zi_153_1 : zraw 153 1 = some (.iconst 0, 1) ∧ zin 128 0 = true ∧ 1 + 1 = 2 := by decide +kernel
theorem zi_153_2 : zraw 153 2 = some (.putfield 259, 3) ∧ zft (zinf 153).1 259 = some (10, 13, 0, false) ∧ 2 + 3 = 5 := by decide +kernel
theorem zi_153_5 : zraw 153 5 = some (.iconst (-1), 1) ∧ zin 128 (-1) = true ∧ 5 + 1 = 6 := by decide +kernel
theorem zi_153_6 : zraw 153 6 = some (.istore_n 1, 1) ∧ 6 + 1 = 7 := by decide +kernel
theorem zi_153_7 : zraw 153 7 = some (.iconst 0, 1) ∧ zin 128 0 = true ∧ 7 + 1 = 8 := by decide +kernel
theorem zi_153_8 : zraw 153 8 = some (.istore_n 2, 1) ∧ 8 + 1 = 9 := by decide +kernel
theorem zi_153_9 : zraw 153 9 = some (.iload_n 2, 1) ∧ 9 + 1 = 10 := by decide +kernel
theorem zi_153_10 : zraw 153 10 = some (.ifCond .ne 217, 3) ∧ ((10 : Nat) : Int) + 217 = Int.ofNat 227 ∧ 10 + 3 = 13 := by decide +kernel
theorem zi_153_13 : zraw 153 13 = some (.aload_n 0, 1) ∧ 13 + 1 = 14 := by decide +kernel
theorem zi_153_14 : zraw 153 14 = some (.invokevirtual 256, 3) ∧ zmt (zinf 153).1 256 = some 149 ∧ Nat.ble 9000 149 = false ∧ zinf 149 = (10, 1, 1, 1, 0) ∧ 14 + 3 = 17 := by decide +kernel
theorem zi_153_17 : zraw 153 17 = some (.istore_n 3, 1) ∧ 17 + 1 = 18 := by decide +kernel
theorem zi_153_18 : zraw 153 18 = some (.aload_n 0, 1) ∧ 18 + 1 = 19 := by decide +kernel
theorem zi_153_19 : zraw 153 19 = some (.getfield 212, 3) ∧ zft (zinf 153).1 212 = some (10, 2, 0, false) ∧ 19 + 3 = 22 := by decide +kernel
theorem zi_153_22 : zraw 153 22 = some (.istore 4, 2) ∧ 22 + 2 = 24 := by decide +kernel
theorem zi_153_24 : zraw 153 24 = some (.iload_n 3, 1) ∧ 24 + 1 = 25 := by decide +kernel
theorem zi_153_25 : zraw 153 25 = some (.bipush 41, 2) ∧ zin 128 41 = true ∧ 25 + 2 = 27 := by decide +kernel
theorem zi_153_27 : zraw 153 27 = some (.if_icmp .ne 39, 3) ∧ ((27 : Nat) : Int) + 39 = Int.ofNat 66 ∧ 27 + 3 = 30 := by decide +kernel
theorem zi_153_30 : zraw 153 30 = some (.iload_n 1, 1) ∧ 30 + 1 = 31 := by decide +kernel
theorem zi_153_31 : zraw 153 31 = some (.iconst (-1), 1) ∧ zin 128 (-1) = true ∧ 31 + 1 = 32 := by decide +kernel
theorem zi_153_32 : zraw 153 32 = some (.if_icmp .eq 34, 3) ∧ ((32 : Nat) : Int) + 34 = Int.ofNat 66 ∧ 32 + 3 = 35 := by decide +kernel
theorem zi_153_35 : zraw 153 35 = some (.aload_n 0, 1) ∧ 35 + 1 = 36 := by decide +kernel
theorem zi_153_36 : zraw 153 36 = some (.dup, 1) ∧ 36 + 1 = 37 := by decide +kernel
theorem zi_153_37 : zraw 153 37 = some (.getfield 212, 3) ∧ zft (zinf 153).1 212 = some (10, 2, 0, false) ∧ 37 + 3 = 40 := by decide +kernel
theorem zi_153_40 : zraw 153 40 = some (.iconst 1, 1) ∧ zin 128 1 = true ∧ 40 + 1 = 41 := by decide +kernel
theorem zi_153_41 : zraw 153 41 = some (.iadd, 1) ∧ 41 + 1 = 42 := by decide +kernel
theorem zi_153_42 : zraw 153 42 = some (.putfield 212, 3) ∧ zft (zinf 153).1 212 = some (10, 2, 0, false) ∧ 42 + 3 = 45 := by decide +kernel
theorem zi_153_45 : zraw 153 45 = some (.aload_n 0, 1) ∧ 45 + 1 = 46 := by decide +kernel
theorem zi_153_46 : zraw 153 46 = some (.getfield 26, 3) ∧ zft (zinf 153).1 26 = some (10, 12, 3, true) ∧ 46 + 3 = 49 := by decide +kernel
theorem zi_153_49 : zraw 153 49 = some (.iload_n 1, 1) ∧ 49 + 1 = 50 := by decide +kernel
theorem zi_153_50 : zraw 153 50 = some (.iaload, 1) ∧ 50 + 1 = 51 := by decide +kernel
theorem zi_153_51 : zraw 153 51 = some (.istore_n 1, 1) ∧ 51 + 1 = 52 := by decide +kernel
theorem zi_153_52 : zraw 153 52 = some (.iload_n 1, 1) ∧ 52 + 1 = 53 := by decide +kernel
theorem zi_153_53 : zraw 153 53 = some (.iconst (-1), 1) ∧ zin 128 (-1) = true ∧ 53 + 1 = 54 := by decide +kernel
theorem zi_153_54 : zraw 153 54 = some (.if_icmp .ne 7, 3) ∧ ((54 : Nat) : Int) + 7 = Int.ofNat 61 ∧ 54 + 3 = 57 := by decide +kernel
theorem zi_153_57 : zraw 153 57 = some (.iconst 1, 1) ∧ zin 128 1 = true ∧ 57 + 1 = 58 := by decide +kernel
theorem zi_153_58 : zraw 153 58 = some (.goto 4, 3) ∧ ((58 : Nat) : Int) + 4 = Int.ofNat 62 := by decide +kernel
theorem zi_153_61 : zraw 153 61 = some (.iconst 0, 1) ∧ zin 128 0 = true ∧ 61 + 1 = 62 := by decide +kernel
theorem zi_153_62 : zraw 153 62 = some (.istore_n 2, 1) ∧ 62 + 1 = 63 := by decide +kernel
theorem zi_153_63 : zraw 153 63 = some (.goto 161, 3) ∧ ((63 : Nat) : Int) + 161 = Int.ofNat 224 := by decide +kernel
theorem zi_153_66 : zraw 153 66 = some (.iload_n 3, 1) ∧ 66 + 1 = 67 := by decide +kernel
theorem zi_153_67 : zraw 153 67 = some (.bipush 40, 2) ∧ zin 128 40 = true ∧ 67 + 2 = 69 := by decide +kernel
theorem zi_153_69 : zraw 153 69 = some (.if_icmp .eq 10, 3) ∧ ((69 : Nat) : Int) + 10 = Int.ofNat 79 ∧ 69 + 3 = 72 := by decide +kernel
theorem zi_153_72 : zraw 153 72 = some (.iload_n 3, 1) ∧ 72 + 1 = 73 := by decide +kernel
theorem zi_153_73 : zraw 153 73 = some (.invokestatic 245, 3) ∧ zmt (zinf 153).1 245 = some 147 ∧ Nat.ble 9000 147 = false ∧ zinf 147 = (10, 1, 1, 2, 1) ∧ 73 + 3 = 76 := by decide +kernel
theorem zi_153_76 : zraw 153 76 = some (.ifCond .eq 140, 3) ∧ ((76 : Nat) : Int) + 140 = Int.ofNat 216 ∧ 76 + 3 = 79 := by decide +kernel
theorem zi_153_79 : zraw 153 79 = some (.iload_n 3, 1) ∧ 79 + 1 = 80 := by decide +kernel
theorem zi_153_80 : zraw 153 80 = some (.bipush 40, 2) ∧ zin 128 40 = true ∧ 80 + 2 = 82 := by decide +kernel
theorem zi_153_82 : zraw 153 82 = some (.if_icmp .ne 20, 3) ∧ ((82 : Nat) : Int) + 20 = Int.ofNat 102 ∧ 82 + 3 = 85 := by decide +kernel
theorem zi_153_85 : zraw 153 85 = some (.aload_n 0, 1) ∧ 85 + 1 = 86 := by decide +kernel
theorem zi_153_86 : zraw 153 86 = some (.getfield 259, 3) ∧ zft (zinf 153).1 259 = some (10, 13, 0, false) ∧ 86 + 3 = 89 := by decide +kernel
theorem zi_153_89 : zraw 153 89 = some (.bipush 20, 2) ∧ zin 128 20 = true ∧ 89 + 2 = 91 := by decide +kernel
theorem zi_153_91 : zraw 153 91 = some (.if_icmp .ne 11, 3) ∧ ((91 : Nat) : Int) + 11 = Int.ofNat 102 ∧ 91 + 3 = 94 := by decide +kernel
theorem zi_153_94 : zraw 153 94 = some (.aload_n 0, 1) ∧ 94 + 1 = 95 := by decide +kernel
theorem zi_153_95 : zraw 153 95 = some (.iconst 3, 1) ∧ zin 128 3 = true ∧ 95 + 1 = 96 := by decide +kernel
theorem zi_153_96 : zraw 153 96 = some (.iload 4, 2) ∧ 96 + 2 = 98 := by decide +kernel
theorem zi_153_98 : zraw 153 98 = some (.invokevirtual 252, 3) ∧ zmt (zinf 153).1 252 = some 148 ∧ Nat.ble 9000 148 = false ∧ zinf 148 = (10, 3, 3, 2, 0) ∧ 98 + 3 = 101 := by decide +kernel
theorem zi_153_101 : zraw 153 101 = some (.ireturn, 1) ∧ (zinf 153).2.2.2.1 = 2 := by decide +kernel
theorem zi_153_102 : zraw 153 102 = some (.aload_n 0, 1) ∧ 102 + 1 = 103 := by decide +kernel
theorem zi_153_103 : zraw 153 103 = some (.dup, 1) ∧ 103 + 1 = 104 := by decide +kernel
theorem zi_153_104 : zraw 153 104 = some (.getfield 212, 3) ∧ zft (zinf 153).1 212 = some (10, 2, 0, false) ∧ 104 + 3 = 107 := by decide +kernel
theorem zi_153_107 : zraw 153 107 = some (.iload_n 3, 1) ∧ 107 + 1 = 108 := by decide +kernel
theorem zi_153_108 : zraw 153 108 = some (.bipush 40, 2) ∧ zin 128 40 = true ∧ 108 + 2 = 110 := by decide +kernel
theorem zi_153_110 : zraw 153 110 = some (.if_icmp .ne 7, 3) ∧ ((110 : Nat) : Int) + 7 = Int.ofNat 117 ∧ 110 + 3 = 113 := by decide +kernel
theorem zi_153_113 : zraw 153 113 = some (.iconst 1, 1) ∧ zin 128 1 = true ∧ 113 + 1 = 114 := by decide +kernel
theorem zi_153_114 : zraw 153 114 = some (.goto 4, 3) ∧ ((114 : Nat) : Int) + 4 = Int.ofNat 118 := by decide +kernel
theorem zi_153_117 : zraw 153 117 = some (.iconst 0, 1) ∧ zin 128 0 = true ∧ 117 + 1 = 118 := by decide +kernel
theorem zi_153_118 : zraw 153 118 = some (.iadd, 1) ∧ 118 + 1 = 119 := by decide +kernel
theorem zi_153_119 : zraw 153 119 = some (.putfield 212, 3) ∧ zft (zinf 153).1 212 = some (10, 2, 0, false) ∧ 119 + 3 = 122 := by decide +kernel
theorem zi_153_122 : zraw 153 122 = some (.aload_n 0, 1) ∧ 122 + 1 = 123 := by decide +kernel
theorem zi_153_123 : zraw 153 123 = some (.invokevirtual 262, 3) ∧ zmt (zinf 153).1 262 = some 151 ∧ Nat.ble 9000 151 = false ∧ zinf 151 = (10, 1, 1, 2, 0) ∧ 123 + 3 = 126 := by decide +kernel
theorem zi_153_126 : zraw 153 126 = some (.ifCond .ne 5, 3) ∧ ((126 : Nat) : Int) + 5 = Int.ofNat 131 ∧ 126 + 3 = 129 := by decide +kernel
theorem zi_153_129 : zraw 153 129 = some (.iconst 0, 1) ∧ zin 128 0 = true ∧ 129 + 1 = 130 := by decide +kernel
theorem zi_153_130 : zraw 153 130 = some (.ireturn, 1) ∧ (zinf 153).2.2.2.1 = 2 := by decide +kernel
theorem zi_153_131 : zraw 153 131 = some (.aload_n 0, 1) ∧ 131 + 1 = 132 := by decide +kernel
theorem zi_153_132 : zraw 153 132 = some (.getfield 259, 3) ∧ zft (zinf 153).1 259 = some (10, 13, 0, false) ∧ 132 + 3 = 135 := by decide +kernel
theorem zi_153_135 : zraw 153 135 = some (.bipush 20, 2) ∧ zin 128 20 = true ∧ 135 + 2 = 137 := by decide +kernel
theorem zi_153_137 : zraw 153 137 = some (.if_icmp .ne 11, 3) ∧ ((137 : Nat) : Int) + 11 = Int.ofNat 148 ∧ 137 + 3 = 140 := by decide +kernel
theorem zi_153_140 : zraw 153 140 = some (.aload_n 0, 1) ∧ 140 + 1 = 141 := by decide +kernel
theorem zi_153_141 : zraw 153 141 = some (.iconst 3, 1) ∧ zin 128 3 = true ∧ 141 + 1 = 142 := by decide +kernel
theorem zi_153_142 : zraw 153 142 = some (.iload 4, 2) ∧ 142 + 2 = 144 := by decide +kernel
theorem zi_153_144 : zraw 153 144 = some (.invokevirtual 252, 3) ∧ zmt (zinf 153).1 252 = some 148 ∧ Nat.ble 9000 148 = false ∧ zinf 148 = (10, 3, 3, 2, 0) ∧ 144 + 3 = 147 := by decide +kernel
theorem zi_153_147 : zraw 153 147 = some (.ireturn, 1) ∧ (zinf 153).2.2.2.1 = 2 := by decide +kernel
theorem zi_153_148 : zraw 153 148 = some (.aload_n 0, 1) ∧ 148 + 1 = 149 := by decide +kernel
theorem zi_153_149 : zraw 153 149 = some (.getfield 23, 3) ∧ zft (zinf 153).1 23 = some (10, 11, 3, true) ∧ 149 + 3 = 152 := by decide +kernel
theorem zi_153_152 : zraw 153 152 = some (.aload_n 0, 1) ∧ 152 + 1 = 153 := by decide +kernel
theorem zi_153_153 : zraw 153 153 = some (.getfield 259, 3) ∧ zft (zinf 153).1 259 = some (10, 13, 0, false) ∧ 153 + 3 = 156 := by decide +kernel
theorem zi_153_156 : zraw 153 156 = some (.aload_n 0, 1) ∧ 156 + 1 = 157 := by decide +kernel
theorem zi_153_157 : zraw 153 157 = some (.getfield 238, 3) ∧ zft (zinf 153).1 238 = some (10, 3, 2, false) ∧ 157 + 3 = 160 := by decide +kernel
theorem zi_153_160 : zraw 153 160 = some (.lastore, 1) ∧ 160 + 1 = 161 := by decide +kernel
theorem zi_153_161 : zraw 153 161 = some (.aload_n 0, 1) ∧ 161 + 1 = 162 := by decide +kernel
theorem zi_153_162 : zraw 153 162 = some (.getfield 26, 3) ∧ zft (zinf 153).1 26 = some (10, 12, 3, true) ∧ 162 + 3 = 165 := by decide +kernel
theorem zi_153_165 : zraw 153 165 = some (.aload_n 0, 1) ∧ 165 + 1 = 166 := by decide +kernel
theorem zi_153_166 : zraw 153 166 = some (.getfield 259, 3) ∧ zft (zinf 153).1 259 = some (10, 13, 0, false) ∧ 166 + 3 = 169 := by decide +kernel
theorem zi_153_169 : zraw 153 169 = some (.iload_n 1, 1) ∧ 169 + 1 = 170 := by decide +kernel
theorem zi_153_170 : zraw 153 170 = some (.iastore, 1) ∧ 170 + 1 = 171 := by decide +kernel
theorem zi_153_171 : zraw 153 171 = some (.iload_n 3, 1) ∧ 171 + 1 = 172 := by decide +kernel
theorem zi_153_172 : zraw 153 172 = some (.bipush 40, 2) ∧ zin 128 40 = true ∧ 172 + 2 = 174 := by decide +kernel
theorem zi_153_174 : zraw 153 174 = some (.if_icmp .eq 12, 3) ∧ ((174 : Nat) : Int) + 12 = Int.ofNat 186 ∧ 174 + 3 = 177 := by decide +kernel
theorem zi_153_177 : zraw 153 177 = some (.iload_n 1, 1) ∧ 177 + 1 = 178 := by decide +kernel
theorem zi_153_178 : zraw 153 178 = some (.iconst (-1), 1) ∧ zin 128 (-1) = true ∧ 178 + 1 = 179 := by decide +kernel
theorem zi_153_179 : zraw 153 179 = some (.if_icmp .ne 7, 3) ∧ ((179 : Nat) : Int) + 7 = Int.ofNat 186 ∧ 179 + 3 = 182 := by decide +kernel
theorem zi_153_182 : zraw 153 182 = some (.iconst 1, 1) ∧ zin 128 1 = true ∧ 182 + 1 = 183 := by decide +kernel
theorem zi_153_183 : zraw 153 183 = some (.goto 4, 3) ∧ ((183 : Nat) : Int) + 4 = Int.ofNat 187 := by decide +kernel
theorem zi_153_186 : zraw 153 186 = some (.iconst 0, 1) ∧ zin 128 0 = true ∧ 186 + 1 = 187 := by decide +kernel
theorem zi_153_187 : zraw 153 187 = some (.istore_n 2, 1) ∧ 187 + 1 = 188 := by decide +kernel
theorem zi_153_188 : zraw 153 188 = some (.iload_n 3, 1) ∧ 188 + 1 = 189 := by decide +kernel
theorem zi_153_189 : zraw 153 189 = some (.bipush 40, 2) ∧ zin 128 40 = true ∧ 189 + 2 = 191 := by decide +kernel
theorem zi_153_191 : zraw 153 191 = some (.if_icmp .ne 10, 3) ∧ ((191 : Nat) : Int) + 10 = Int.ofNat 201 ∧ 191 + 3 = 194 := by decide +kernel
theorem zi_153_194 : zraw 153 194 = some (.aload_n 0, 1) ∧ 194 + 1 = 195 := by decide +kernel
theorem zi_153_195 : zraw 153 195 = some (.getfield 259, 3) ∧ zft (zinf 153).1 259 = some (10, 13, 0, false) ∧ 195 + 3 = 198 := by decide +kernel
theorem zi_153_198 : zraw 153 198 = some (.goto 4, 3) ∧ ((198 : Nat) : Int) + 4 = Int.ofNat 202 := by decide +kernel
theorem zi_153_201 : zraw 153 201 = some (.iload_n 1, 1) ∧ 201 + 1 = 202 := by decide +kernel
theorem zi_153_202 : zraw 153 202 = some (.istore_n 1, 1) ∧ 202 + 1 = 203 := by decide +kernel
theorem zi_153_203 : zraw 153 203 = some (.aload_n 0, 1) ∧ 203 + 1 = 204 := by decide +kernel
theorem zi_153_204 : zraw 153 204 = some (.dup, 1) ∧ 204 + 1 = 205 := by decide +kernel
theorem zi_153_205 : zraw 153 205 = some (.getfield 259, 3) ∧ zft (zinf 153).1 259 = some (10, 13, 0, false) ∧ 205 + 3 = 208 := by decide +kernel
theorem zi_153_208 : zraw 153 208 = some (.iconst 1, 1) ∧ zin 128 1 = true ∧ 208 + 1 = 209 := by decide +kernel
theorem zi_153_209 : zraw 153 209 = some (.iadd, 1) ∧ 209 + 1 = 210 := by decide +kernel
theorem zi_153_210 : zraw 153 210 = some (.putfield 259, 3) ∧ zft (zinf 153).1 259 = some (10, 13, 0, false) ∧ 210 + 3 = 213 := by decide +kernel
theorem zi_153_213 : zraw 153 213 = some (.goto 11, 3) ∧ ((213 : Nat) : Int) + 11 = Int.ofNat 224 := by decide +kernel
theorem zi_153_216 : zraw 153 216 = some (.aload_n 0, 1) ∧ 216 + 1 = 217 := by decide +kernel
theorem zi_153_217 : zraw 153 217 = some (.iconst 1, 1) ∧ zin 128 1 = true ∧ 217 + 1 = 218 := by decide +kernel
theorem zi_153_218 : zraw 153 218 = some (.iload 4, 2) ∧ 218 + 2 = 220 := by decide +kernel
theorem zi_153_220 : zraw 153 220 = some (.invokevirtual 252, 3) ∧ zmt (zinf 153).1 252 = some 148 ∧ Nat.ble 9000 148 = false ∧ zinf 148 = (10, 3, 3, 2, 0) ∧ 220 + 3 = 223 := by decide +kernel
theorem zi_153_223 : zraw 153 223 = some (.ireturn, 1) ∧ (zinf 153).2.2.2.1 = 2 := by decide +kernel
theorem zi_153_224 : zraw 153 224 = some (.goto (-215), 3) ∧ ((224 : Nat) : Int) + (-215) = Int.ofNat 9 := by decide +kernel
theorem zi_153_227 : zraw 153 227 = some (.aload_n 0, 1) ∧ 227 + 1 = 228 := by decide +kernel
theorem zi_153_228 : zraw 153 228 = some (.invokevirtual 265, 3) ∧ zmt (zinf 153).1 265 = some 152 ∧ Nat.ble 9000 152 = false ∧ zinf 152 = (10, 1, 1, 2, 0) ∧ 228 + 3 = 231 := by decide +kernel
theorem zi_153_231 : zraw 153 231 = some (.ireturn, 1) ∧ (zinf 153).2.2.2.1 = 2 := by decide +kernel
theorem ze_153 {K : List zF} {σ : zW} : zEv true (zent 153 [.inr (.inr 122)] :: K) σ = (zEv true ((153, 9, [some (.inr (.inr 122)), some (.inl (-1)), some (.inl 0), none, none], []) :: K) (sI σ 122 13 0)) :=
  yT_en (f := (153, 0, [some (.inr (.inr 122)), none, none, none, none], [])) rfl (yI_aload_n zi_153_0 rfl <| yI_iconst zi_153_1 <| yI_pf_i zi_153_2 zk_122 <| yI_iconst zi_153_5 <| yI_istore_n (l := [some (.inr (.inr 122)), some (.inl (-1)), none, none, none]) zi_153_6 rfl rfl <| yI_iconst zi_153_7 <| yI_istore_n (l := [some (.inr (.inr 122)), some (.inl (-1)), some (.inl 0), none, none]) zi_153_8 rfl rfl <| rfl)
theorem zj_153_9 {K : List zF} {σ : zW} {x1 : Int} {x2 : Int} {o3 : Option zV} {o4 : Option zV} (hK : K.length < 60) : zEv true ((153, 9, [some (.inr (.inr 122)), some (.inl x1), some (.inl x2), o3, o4], []) :: K) σ = (if ¬ x2 = 0 then zEv true (zent 152 [.inr (.inr 122)] :: (153, 231, [some (.inr (.inr 122)), some (.inl x1), some (.inl x2), o3, o4], []) :: K) σ else zEv true (zent 149 [.inr (.inr 122)] :: (153, 17, [some (.inr (.inr 122)), some (.inl x1), some (.inl x2), o3, o4], []) :: K) σ) :=
  yI_iload_n zi_153_9 rfl <| yI_if_ne zi_153_10 <| yBr (yI_aload_n zi_153_227 rfl <| yI_cv zi_153_228 rfl rfl zk_122 hK) (yI_aload_n zi_153_13 rfl <| yI_cv zi_153_14 rfl rfl zk_122 hK)
theorem zr_153_231 {K : List zF} {σ : zW} {o0 : Option zV} {o1 : Option zV} {o2 : Option zV} {o3 : Option zV} {o4 : Option zV} {v : Int} : zRet true ((153, 231, [o0, o1, o2, o3, o4], []) :: K) (some (.inl v)) σ = ((v = 0 ∨ v = 1) ∧ zRet true K (some (.inl v)) σ) :=
  yT_rt (yI_zreturnc zi_153_231)
theorem zr_153_17 {K : List zF} {σ : zW} {x1 : Int} {o2 : Option zV} {o3 : Option zV} {o4 : Option zV} {v : Int} : zRet true ((153, 17, [some (.inr (.inr 122)), some (.inl x1), o2, o3, o4], []) :: K) (some (.inl v)) σ = (if ¬ v = 41 then zEv true ((153, 66, [some (.inr (.inr 122)), some (.inl x1), (zcut 0 o2), some (.inl v), some (.inl (gI σ 122 2))], []) :: K) σ else if x1 = (-1) then zEv true ((153, 66, [some (.inr (.inr 122)), some (.inl x1), (zcut 0 o2), some (.inl v), some (.inl (gI σ 122 2))], []) :: K) σ else (0 ≤ x1 ∧ x1 < 20) ∧ zEv true ((153, 9, [some (.inr (.inr 122)), some (.inl (gI σ 128 x1.toNat)), some (.inl (if ¬ (gI σ 128 x1.toNat) = (-1) then 0 else 1 : Int)), some (.inl v), some (.inl (gI σ 122 2))], []) :: K) (sI σ 122 2 (w32 ((gI σ 122 2) + 1)))) :=
  yT_rt (yI_istore_n (l := [some (.inr (.inr 122)), some (.inl x1), (zcut 0 o2), some (.inl v), o4]) zi_153_17 rfl rfl <| yI_aload_n zi_153_18 rfl <| yI_gf_i (v := gI σ 122 2) zi_153_19 zk_122 rfl <| yI_istore (l := [some (.inr (.inr 122)), some (.inl x1), (zcut 0 o2), some (.inl v), some (.inl (gI σ 122 2))]) zi_153_22 rfl rfl <| yI_iload_n zi_153_24 rfl <| yI_bipush zi_153_25 <| yI_ic_ne zi_153_27 <| yBr (rfl) (yI_iload_n zi_153_30 rfl <| yI_iconst zi_153_31 <| yI_ic_eq zi_153_32 <| yBr (rfl) (yI_aload_n zi_153_35 rfl <| yI_dup_r zi_153_36 <| yI_gf_i (v := gI σ 122 2) zi_153_37 zk_122 rfl <| yI_iconst zi_153_40 <| yI_iadd zi_153_41 <| yI_pf_i zi_153_42 zk_122 <| yI_aload_n zi_153_45 rfl <| yI_gf_f (v := 128) zi_153_46 zk_122 rfl <| yI_iload_n zi_153_49 rfl <| yI_ialoadc (v := gI σ 128 x1.toNat) zi_153_50 za_128 (yGI_nk (by decide)) <| yI_istore_n (l := [some (.inr (.inr 122)), some (.inl (gI σ 128 x1.toNat)), (zcut 0 o2), some (.inl v), some (.inl (gI σ 122 2))]) zi_153_51 rfl rfl <| yI_iload_n zi_153_52 rfl <| yI_iconst zi_153_53 <| yI_ic_ne zi_153_54 <| yMi0 (j := 62) (ls2 := [some (.inr (.inr 122)), some (.inl (gI σ 128 x1.toNat)), (zcut 0 o2), some (.inl v), some (.inl (gI σ 122 2))]) (st2 := []) (x := 0) (y := 1) (σ2 := (sI σ 122 2 (w32 ((gI σ 122 2) + 1)))) (yI_iconst zi_153_61 <| rfl) (yI_iconst zi_153_57 <| yI_goto zi_153_58 <| rfl) <| yI_istore_n (l := [some (.inr (.inr 122)), some (.inl (gI σ 128 x1.toNat)), some (.inl (if ¬ (gI σ 128 x1.toNat) = (-1) then 0 else 1 : Int)), some (.inl v), some (.inl (gI σ 122 2))]) zi_153_62 rfl rfl <| yI_goto zi_153_63 <| yI_goto zi_153_224 <| rfl)))
theorem zj_153_66 {K : List zF} {σ : zW} {x1 : Int} {o2 : Option zV} {x3 : Int} {x4 : Int} (hK : K.length < 60) : zEv true ((153, 66, [some (.inr (.inr 122)), some (.inl x1), o2, some (.inl x3), some (.inl x4)], []) :: K) σ = (if x3 = 40 then zEv true ((153, 79, [some (.inr (.inr 122)), some (.inl x1), o2, some (.inl x3), some (.inl x4)], []) :: K) σ else zEv true (zent 147 [.inl x3] :: (153, 76, [some (.inr (.inr 122)), some (.inl x1), o2, some (.inl x3), some (.inl x4)], []) :: K) σ) :=
  yI_iload_n zi_153_66 rfl <| yI_bipush zi_153_67 <| yI_ic_eq zi_153_69 <| yBr (rfl) (yI_iload_n zi_153_72 rfl <| yI_cs zi_153_73 rfl rfl hK)
theorem zj_153_79 {K : List zF} {σ : zW} {x1 : Int} {o2 : Option zV} {x3 : Int} {x4 : Int} (hK : K.length < 60) : zEv true ((153, 79, [some (.inr (.inr 122)), some (.inl x1), o2, some (.inl x3), some (.inl x4)], []) :: K) σ = (if ¬ x3 = 40 then zEv true ((153, 102, [some (.inr (.inr 122)), some (.inl x1), o2, some (.inl x3), some (.inl x4)], []) :: K) σ else if ¬ (gI σ 122 13) = 20 then zEv true ((153, 102, [some (.inr (.inr 122)), some (.inl x1), o2, some (.inl x3), some (.inl x4)], []) :: K) σ else zEv true (zent 148 [.inr (.inr 122), .inl 3, .inl x4] :: (153, 101, [some (.inr (.inr 122)), some (.inl x1), o2, some (.inl x3), some (.inl x4)], []) :: K) σ) :=
  yI_iload_n zi_153_79 rfl <| yI_bipush zi_153_80 <| yI_ic_ne zi_153_82 <| yBr (rfl) (yI_aload_n zi_153_85 rfl <| yI_gf_i (v := gI σ 122 13) zi_153_86 zk_122 rfl <| yI_bipush zi_153_89 <| yI_ic_ne zi_153_91 <| yBr (rfl) (yI_aload_n zi_153_94 rfl <| yI_iconst zi_153_95 <| yI_iload zi_153_96 rfl <| yI_cv zi_153_98 rfl rfl zk_122 hK))
theorem zr_153_76 {K : List zF} {σ : zW} {x1 : Int} {o2 : Option zV} {x3 : Int} {x4 : Int} {v : Int} (hK : K.length < 60) : zRet true ((153, 76, [some (.inr (.inr 122)), some (.inl x1), o2, some (.inl x3), some (.inl x4)], []) :: K) (some (.inl v)) σ = (if v = 0 then zEv true (zent 148 [.inr (.inr 122), .inl 1, .inl x4] :: (153, 223, [some (.inr (.inr 122)), some (.inl x1), o2, some (.inl x3), some (.inl x4)], []) :: K) σ else zEv true ((153, 79, [some (.inr (.inr 122)), some (.inl x1), o2, some (.inl x3), some (.inl x4)], []) :: K) σ) :=
  yT_rt (yI_if_eq zi_153_76 <| yBr (yI_aload_n zi_153_216 rfl <| yI_iconst zi_153_217 <| yI_iload zi_153_218 rfl <| yI_cv zi_153_220 rfl rfl zk_122 hK) (rfl))
theorem zj_153_102 {K : List zF} {σ : zW} {x1 : Int} {o2 : Option zV} {x3 : Int} {x4 : Int} (hK : K.length < 60) : zEv true ((153, 102, [some (.inr (.inr 122)), some (.inl x1), o2, some (.inl x3), some (.inl x4)], []) :: K) σ = (zEv true (zent 151 [.inr (.inr 122)] :: (153, 126, [some (.inr (.inr 122)), some (.inl x1), o2, some (.inl x3), some (.inl x4)], []) :: K) (sI σ 122 2 (w32 ((gI σ 122 2) + (if ¬ x3 = 40 then 0 else 1 : Int))))) :=
  yI_aload_n zi_153_102 rfl <| yI_dup_r zi_153_103 <| yI_gf_i (v := gI σ 122 2) zi_153_104 zk_122 rfl <| yI_iload_n zi_153_107 rfl <| yI_bipush zi_153_108 <| yI_ic_ne zi_153_110 <| yMi0 (j := 118) (ls2 := [some (.inr (.inr 122)), some (.inl x1), o2, some (.inl x3), some (.inl x4)]) (st2 := [.inl (gI σ 122 2), .inr (.inr 122)]) (x := 0) (y := 1) (σ2 := σ) (yI_iconst zi_153_117 <| rfl) (yI_iconst zi_153_113 <| yI_goto zi_153_114 <| rfl) <| yI_iadd zi_153_118 <| yI_pf_i zi_153_119 zk_122 <| yI_aload_n zi_153_122 rfl <| yI_cv zi_153_123 rfl rfl zk_122 hK
theorem zr_153_101 {K : List zF} {σ : zW} {o0 : Option zV} {o1 : Option zV} {o2 : Option zV} {o3 : Option zV} {o4 : Option zV} {v : Int} : zRet true ((153, 101, [o0, o1, o2, o3, o4], []) :: K) (some (.inl v)) σ = ((v = 0 ∨ v = 1) ∧ zRet true K (some (.inl v)) σ) :=
  yT_rt (yI_zreturnc zi_153_101)
theorem zr_153_223 {K : List zF} {σ : zW} {o0 : Option zV} {o1 : Option zV} {o2 : Option zV} {o3 : Option zV} {o4 : Option zV} {v : Int} : zRet true ((153, 223, [o0, o1, o2, o3, o4], []) :: K) (some (.inl v)) σ = ((v = 0 ∨ v = 1) ∧ zRet true K (some (.inl v)) σ) :=
  yT_rt (yI_zreturnc zi_153_223)
theorem zr_153_126 {K : List zF} {σ : zW} {x1 : Int} {o2 : Option zV} {x3 : Int} {x4 : Int} {v : Int} (hK : K.length < 60) : zRet true ((153, 126, [some (.inr (.inr 122)), some (.inl x1), o2, some (.inl x3), some (.inl x4)], []) :: K) (some (.inl v)) σ = (if ¬ v = 0 then if ¬ (gI σ 122 13) = 20 then (0 ≤ (gI σ 122 13) ∧ (gI σ 122 13) < 20) ∧ ((0 ≤ (gI σ 122 13) ∧ (gI σ 122 13) < 20) ∧ (if x3 = 40 then zEv true ((153, 186, [some (.inr (.inr 122)), some (.inl x1), o2, some (.inl x3), some (.inl x4)], []) :: K) (sI (sL σ 127 ((gI σ 122 13).toNat) (gL σ 122 3)) 128 ((gI σ 122 13).toNat) x1) else if ¬ x1 = (-1) then zEv true ((153, 186, [some (.inr (.inr 122)), some (.inl x1), o2, some (.inl x3), some (.inl x4)], []) :: K) (sI (sL σ 127 ((gI σ 122 13).toNat) (gL σ 122 3)) 128 ((gI σ 122 13).toNat) x1) else zEv true ((153, 9, [some (.inr (.inr 122)), some (.inl (if ¬ x3 = 40 then x1 else gI σ 122 13 : Int)), some (.inl 1), some (.inl x3), some (.inl x4)], []) :: K) (sI (sI (sL σ 127 ((gI σ 122 13).toNat) (gL σ 122 3)) 128 ((gI σ 122 13).toNat) x1) 122 13 (w32 ((gI σ 122 13) + 1))))) else zEv true (zent 148 [.inr (.inr 122), .inl 3, .inl x4] :: (153, 147, [some (.inr (.inr 122)), some (.inl x1), o2, some (.inl x3), some (.inl x4)], []) :: K) σ else zRet true K (some (.inl 0)) σ) :=
  yT_rt (yI_if_ne zi_153_126 <| yBr (yI_aload_n zi_153_131 rfl <| yI_gf_i (v := gI σ 122 13) zi_153_132 zk_122 rfl <| yI_bipush zi_153_135 <| yI_ic_ne zi_153_137 <| yBr (yI_aload_n zi_153_148 rfl <| yI_gf_f (v := 127) zi_153_149 zk_122 rfl <| yI_aload_n zi_153_152 rfl <| yI_gf_i (v := gI σ 122 13) zi_153_153 zk_122 rfl <| yI_aload_n zi_153_156 rfl <| yI_gf_l (v := gL σ 122 3) zi_153_157 zk_122 rfl <| yI_lastorec zi_153_160 za_127 <| yI_aload_n zi_153_161 rfl <| yI_gf_f (v := 128) zi_153_162 zk_122 rfl <| yI_aload_n zi_153_165 rfl <| yI_gf_i (v := gI σ 122 13) zi_153_166 zk_122 rfl <| yI_iload_n zi_153_169 rfl <| yI_iastorec zi_153_170 za_128 <| yI_iload_n zi_153_171 rfl <| yI_bipush zi_153_172 <| yI_ic_eq zi_153_174 <| yBr (rfl) (yI_iload_n zi_153_177 rfl <| yI_iconst zi_153_178 <| yI_ic_ne zi_153_179 <| yBr (rfl) (yI_iconst zi_153_182 <| yI_goto zi_153_183 <| yI_istore_n (l := [some (.inr (.inr 122)), some (.inl x1), some (.inl 1), some (.inl x3), some (.inl x4)]) zi_153_187 rfl rfl <| yI_iload_n zi_153_188 rfl <| yI_bipush zi_153_189 <| yI_ic_ne zi_153_191 <| yMi0 (j := 202) (ls2 := [some (.inr (.inr 122)), some (.inl x1), some (.inl 1), some (.inl x3), some (.inl x4)]) (st2 := []) (x := x1) (y := gI σ 122 13) (σ2 := (sI (sL σ 127 ((gI σ 122 13).toNat) (gL σ 122 3)) 128 ((gI σ 122 13).toNat) x1)) (yI_iload_n zi_153_201 rfl <| rfl) (yI_aload_n zi_153_194 rfl <| yI_gf_i (v := gI σ 122 13) zi_153_195 zk_122 ((yGI_nk (by decide)).trans (gI_sL _ _ _ _ _ _)) <| yI_goto zi_153_198 <| rfl) <| yI_istore_n (l := [some (.inr (.inr 122)), some (.inl (if ¬ x3 = 40 then x1 else gI σ 122 13 : Int)), some (.inl 1), some (.inl x3), some (.inl x4)]) zi_153_202 rfl rfl <| yI_aload_n zi_153_203 rfl <| yI_dup_r zi_153_204 <| yI_gf_i (v := gI σ 122 13) zi_153_205 zk_122 ((yGI_nk (by decide)).trans (gI_sL _ _ _ _ _ _)) <| yI_iconst zi_153_208 <| yI_iadd zi_153_209 <| yI_pf_i zi_153_210 zk_122 <| yI_goto zi_153_213 <| yI_goto zi_153_224 <| rfl))) (yI_aload_n zi_153_140 rfl <| yI_iconst zi_153_141 <| yI_iload zi_153_142 rfl <| yI_cv zi_153_144 rfl rfl zk_122 hK)) (yI_iconst zi_153_129 <| yI_zreturn zi_153_130 (by decide)))
theorem zj_153_186 {K : List zF} {σ : zW} {x1 : Int} {o2 : Option zV} {x3 : Int} {o4 : Option zV} : zEv true ((153, 186, [some (.inr (.inr 122)), some (.inl x1), o2, some (.inl x3), o4], []) :: K) σ = (zEv true ((153, 9, [some (.inr (.inr 122)), some (.inl (if ¬ x3 = 40 then x1 else gI σ 122 13 : Int)), some (.inl 0), some (.inl x3), o4], []) :: K) (sI σ 122 13 (w32 ((gI σ 122 13) + 1)))) :=
  yI_iconst zi_153_186 <| yI_istore_n (l := [some (.inr (.inr 122)), some (.inl x1), some (.inl 0), some (.inl x3), o4]) zi_153_187 rfl rfl <| yI_iload_n zi_153_188 rfl <| yI_bipush zi_153_189 <| yI_ic_ne zi_153_191 <| yMi0 (j := 202) (ls2 := [some (.inr (.inr 122)), some (.inl x1), some (.inl 0), some (.inl x3), o4]) (st2 := []) (x := x1) (y := gI σ 122 13) (σ2 := σ) (yI_iload_n zi_153_201 rfl <| rfl) (yI_aload_n zi_153_194 rfl <| yI_gf_i (v := gI σ 122 13) zi_153_195 zk_122 rfl <| yI_goto zi_153_198 <| rfl) <| yI_istore_n (l := [some (.inr (.inr 122)), some (.inl (if ¬ x3 = 40 then x1 else gI σ 122 13 : Int)), some (.inl 0), some (.inl x3), o4]) zi_153_202 rfl rfl <| yI_aload_n zi_153_203 rfl <| yI_dup_r zi_153_204 <| yI_gf_i (v := gI σ 122 13) zi_153_205 zk_122 rfl <| yI_iconst zi_153_208 <| yI_iadd zi_153_209 <| yI_pf_i zi_153_210 zk_122 <| yI_goto zi_153_213 <| yI_goto zi_153_224 <| rfl
theorem zr_153_147 {K : List zF} {σ : zW} {o0 : Option zV} {o1 : Option zV} {o2 : Option zV} {o3 : Option zV} {o4 : Option zV} {v : Int} : zRet true ((153, 147, [o0, o1, o2, o3, o4], []) :: K) (some (.inl v)) σ = ((v = 0 ∨ v = 1) ∧ zRet true K (some (.inl v)) σ) :=
  yT_rt (yI_zreturnc zi_153_147)
/-- 154 TreegrabModel.isName()Z -/
theorem zi_154_0 : zraw 154 0 = some (.aload_n 0, 1) ∧ 0 + 1 = 1 := by decide +kernel
theorem zi_154_1 : zraw 154 1 = some (.invokevirtual 232, 3) ∧ zmt (zinf 154).1 232 = some 145 ∧ Nat.ble 9000 145 = false ∧ zinf 145 = (10, 1, 1, 0, 0) ∧ 1 + 3 = 4 := by decide +kernel
theorem zi_154_4 : zraw 154 4 = some (.aload_n 0, 1) ∧ 4 + 1 = 5 := by decide +kernel
theorem zi_154_5 : zraw 154 5 = some (.aload_n 0, 1) ∧ 5 + 1 = 6 := by decide +kernel
theorem zi_154_6 : zraw 154 6 = some (.getfield 212, 3) ∧ zft (zinf 154).1 212 = some (10, 2, 0, false) ∧ 6 + 3 = 9 := by decide +kernel
theorem zi_154_9 : zraw 154 9 = some (.putfield 235, 3) ∧ zft (zinf 154).1 235 = some (10, 5, 0, false) ∧ 9 + 3 = 12 := by decide +kernel
theorem zi_154_12 : zraw 154 12 = some (.aload_n 0, 1) ∧ 12 + 1 = 13 := by decide +kernel
theorem zi_154_13 : zraw 154 13 = some (.invokevirtual 218, 3) ∧ zmt (zinf 154).1 218 = some 144 ∧ Nat.ble 9000 144 = false ∧ zinf 144 = (10, 1, 1, 1, 0) ∧ 13 + 3 = 16 := by decide +kernel
theorem zi_154_16 : zraw 154 16 = some (.invokestatic 222, 3) ∧ zmt (zinf 154).1 222 = some 146 ∧ Nat.ble 9000 146 = false ∧ zinf 146 = (10, 1, 1, 2, 1) ∧ 16 + 3 = 19 := by decide +kernel
theorem zi_154_19 : zraw 154 19 = some (.ifCond .ne 13, 3) ∧ ((19 : Nat) : Int) + 13 = Int.ofNat 32 ∧ 19 + 3 = 22 := by decide +kernel
theorem zi_154_22 : zraw 154 22 = some (.aload_n 0, 1) ∧ 22 + 1 = 23 := by decide +kernel
theorem zi_154_23 : zraw 154 23 = some (.iconst 1, 1) ∧ zin 128 1 = true ∧ 23 + 1 = 24 := by decide +kernel
theorem zi_154_24 : zraw 154 24 = some (.aload_n 0, 1) ∧ 24 + 1 = 25 := by decide +kernel
theorem zi_154_25 : zraw 154 25 = some (.getfield 212, 3) ∧ zft (zinf 154).1 212 = some (10, 2, 0, false) ∧ 25 + 3 = 28 := by decide +kernel
theorem zi_154_28 : zraw 154 28 = some (.invokevirtual 252, 3) ∧ zmt (zinf 154).1 252 = some 148 ∧ Nat.ble 9000 148 = false ∧ zinf 148 = (10, 3, 3, 2, 0) ∧ 28 + 3 = 31 := by decide +kernel
theorem zi_154_31 : zraw 154 31 = some (.ireturn, 1) ∧ (zinf 154).2.2.2.1 = 2 := by decide +kernel
theorem zi_154_32 : zraw 154 32 = some (.aload_n 0, 1) ∧ 32 + 1 = 33 := by decide +kernel
theorem zi_154_33 : zraw 154 33 = some (.aload_n 0, 1) ∧ 33 + 1 = 34 := by decide +kernel
theorem zi_154_34 : zraw 154 34 = some (.invokevirtual 218, 3) ∧ zmt (zinf 154).1 218 = some 144 ∧ Nat.ble 9000 144 = false ∧ zinf 144 = (10, 1, 1, 1, 0) ∧ 34 + 3 = 37 := by decide +kernel
theorem zi_154_37 : zraw 154 37 = some (.i2l, 1) ∧ 37 + 1 = 38 := by decide +kernel
theorem zi_154_38 : zraw 154 38 = some (.putfield 238, 3) ∧ zft (zinf 154).1 238 = some (10, 3, 2, false) ∧ 38 + 3 = 41 := by decide +kernel
theorem zi_154_41 : zraw 154 41 = some (.aload_n 0, 1) ∧ 41 + 1 = 42 := by decide +kernel
theorem zi_154_42 : zraw 154 42 = some (.dup, 1) ∧ 42 + 1 = 43 := by decide +kernel
theorem zi_154_43 : zraw 154 43 = some (.getfield 212, 3) ∧ zft (zinf 154).1 212 = some (10, 2, 0, false) ∧ 43 + 3 = 46 := by decide +kernel
theorem zi_154_46 : zraw 154 46 = some (.iconst 1, 1) ∧ zin 128 1 = true ∧ 46 + 1 = 47 := by decide +kernel
theorem zi_154_47 : zraw 154 47 = some (.iadd, 1) ∧ 47 + 1 = 48 := by decide +kernel
theorem zi_154_48 : zraw 154 48 = some (.putfield 212, 3) ∧ zft (zinf 154).1 212 = some (10, 2, 0, false) ∧ 48 + 3 = 51 := by decide +kernel
theorem zi_154_51 : zraw 154 51 = some (.iconst 1, 1) ∧ zin 128 1 = true ∧ 51 + 1 = 52 := by decide +kernel
theorem zi_154_52 : zraw 154 52 = some (.ireturn, 1) ∧ (zinf 154).2.2.2.1 = 2 := by decide +kernel
theorem ze_154 {K : List zF} {σ : zW} (hK : K.length < 60) : zEv true (zent 154 [.inr (.inr 122)] :: K) σ = (zEv true (zent 145 [.inr (.inr 122)] :: (154, 4, [some (.inr (.inr 122))], []) :: K) σ) :=
  yT_en (f := (154, 0, [some (.inr (.inr 122))], [])) rfl (yI_aload_n zi_154_0 rfl <| yI_cv zi_154_1 rfl rfl zk_122 hK)
theorem zr_154_4 {K : List zF} {σ : zW} (hK : K.length < 60) : zRet true ((154, 4, [some (.inr (.inr 122))], []) :: K) none σ = (zEv true (zent 144 [.inr (.inr 122)] :: (154, 16, [some (.inr (.inr 122))], []) :: K) (sI σ 122 5 (gI σ 122 2))) :=
  yT_rv (yI_aload_n zi_154_4 rfl <| yI_aload_n zi_154_5 rfl <| yI_gf_i (v := gI σ 122 2) zi_154_6 zk_122 rfl <| yI_pf_i zi_154_9 zk_122 <| yI_aload_n zi_154_12 rfl <| yI_cv zi_154_13 rfl rfl zk_122 hK)
theorem zr_154_16 {K : List zF} {σ : zW} {v : Int} (hK : K.length < 60) : zRet true ((154, 16, [some (.inr (.inr 122))], []) :: K) (some (.inl v)) σ = (zEv true (zent 146 [.inl v] :: (154, 19, [some (.inr (.inr 122))], []) :: K) σ) :=
  yT_rt (yI_cs zi_154_16 rfl rfl hK)
theorem zr_154_19 {K : List zF} {σ : zW} {v : Int} (hK : K.length < 60) : zRet true ((154, 19, [some (.inr (.inr 122))], []) :: K) (some (.inl v)) σ = (if ¬ v = 0 then zEv true (zent 144 [.inr (.inr 122)] :: (154, 37, [some (.inr (.inr 122))], [.inr (.inr 122)]) :: K) σ else zEv true (zent 148 [.inr (.inr 122), .inl 1, .inl (gI σ 122 2)] :: (154, 31, [some (.inr (.inr 122))], []) :: K) σ) :=
  yT_rt (yI_if_ne zi_154_19 <| yBr (yI_aload_n zi_154_32 rfl <| yI_aload_n zi_154_33 rfl <| yI_cv zi_154_34 rfl rfl zk_122 hK) (yI_aload_n zi_154_22 rfl <| yI_iconst zi_154_23 <| yI_aload_n zi_154_24 rfl <| yI_gf_i (v := gI σ 122 2) zi_154_25 zk_122 rfl <| yI_cv zi_154_28 rfl rfl zk_122 hK))
theorem zr_154_37 {K : List zF} {σ : zW} {v : Int} : zRet true ((154, 37, [some (.inr (.inr 122))], [.inr (.inr 122)]) :: K) (some (.inl v)) σ = (zRet true K (some (.inl 1)) (sI (sL σ 122 3 (zi2l v)) 122 2 (w32 ((gI σ 122 2) + 1)))) :=
  yT_rt (yI_i2l zi_154_37 <| yI_pf_l zi_154_38 zk_122 <| yI_aload_n zi_154_41 rfl <| yI_dup_r zi_154_42 <| yI_gf_i (v := gI σ 122 2) zi_154_43 zk_122 rfl <| yI_iconst zi_154_46 <| yI_iadd zi_154_47 <| yI_pf_i zi_154_48 zk_122 <| yI_iconst zi_154_51 <| yI_zreturn zi_154_52 (by decide))
theorem zr_154_31 {K : List zF} {σ : zW} {o0 : Option zV} {v : Int} : zRet true ((154, 31, [o0], []) :: K) (some (.inl v)) σ = ((v = 0 ∨ v = 1) ∧ zRet true K (some (.inl v)) σ) :=
  yT_rt (yI_zreturnc zi_154_31)
/-- 155 TreegrabModel.named(J)I -/
theorem zi_155_0 : zraw 155 0 = some (.iconst (-1), 1) ∧ zin 128 (-1) = true ∧ 0 + 1 = 1 := by decide +kernel
theorem zi_155_1 : zraw 155 1 = some (.istore_n 3, 1) ∧ 1 + 1 = 2 := by decide +kernel
theorem zi_155_2 : zraw 155 2 = some (.iconst 0, 1) ∧ zin 128 0 = true ∧ 2 + 1 = 3 := by decide +kernel
theorem zi_155_3 : zraw 155 3 = some (.istore 4, 2) ∧ 3 + 2 = 5 := by decide +kernel
theorem zi_155_5 : zraw 155 5 = some (.iload 4, 2) ∧ 5 + 2 = 7 := by decide +kernel
theorem zi_155_7 : zraw 155 7 = some (.aload_n 0, 1) ∧ 7 + 1 = 8 := by decide +kernel
theorem zi_155_8 : zraw 155 8 = some (.getfield 268, 3) ∧ zft (zinf 155).1 268 = some (10, 35, 0, false) ∧ 8 + 3 = 11 := by decide +kernel
theorem zi_155_11 : zraw 155 11 = some (.if_icmp .ge 54, 3) ∧ ((11 : Nat) : Int) + 54 = Int.ofNat 65 ∧ 11 + 3 = 14 := by decide +kernel
theorem zi_155_14 : zraw 155 14 = some (.aload_n 0, 1) ∧ 14 + 1 = 15 := by decide +kernel
theorem zi_155_15 : zraw 155 15 = some (.getfield 96, 3) ∧ zft (zinf 155).1 96 = some (10, 41, 3, true) ∧ 15 + 3 = 18 := by decide +kernel
theorem zi_155_18 : zraw 155 18 = some (.iload 4, 2) ∧ 18 + 2 = 20 := by decide +kernel
theorem zi_155_20 : zraw 155 20 = some (.iaload, 1) ∧ 20 + 1 = 21 := by decide +kernel
theorem zi_155_21 : zraw 155 21 = some (.i2l, 1) ∧ 21 + 1 = 22 := by decide +kernel
theorem zi_155_22 : zraw 155 22 = some (.lload_n 1, 1) ∧ 22 + 1 = 23 := by decide +kernel
theorem zi_155_23 : zraw 155 23 = some (.lcmp, 1) ∧ 23 + 1 = 24 := by decide +kernel
theorem zi_155_24 : zraw 155 24 = some (.ifCond .ne 33, 3) ∧ ((24 : Nat) : Int) + 33 = Int.ofNat 57 ∧ 24 + 3 = 27 := by decide +kernel
theorem zi_155_27 : zraw 155 27 = some (.aload_n 0, 1) ∧ 27 + 1 = 28 := by decide +kernel
theorem zi_155_28 : zraw 155 28 = some (.getfield 102, 3) ∧ zft (zinf 155).1 102 = some (10, 43, 3, true) ∧ 28 + 3 = 31 := by decide +kernel
theorem zi_155_31 : zraw 155 31 = some (.iload 4, 2) ∧ 31 + 2 = 33 := by decide +kernel
theorem zi_155_33 : zraw 155 33 = some (.baload, 1) ∧ 33 + 1 = 34 := by decide +kernel
theorem zi_155_34 : zraw 155 34 = some (.ifCond .ne 13, 3) ∧ ((34 : Nat) : Int) + 13 = Int.ofNat 47 ∧ 34 + 3 = 37 := by decide +kernel
theorem zi_155_37 : zraw 155 37 = some (.aload_n 0, 1) ∧ 37 + 1 = 38 := by decide +kernel
theorem zi_155_38 : zraw 155 38 = some (.getfield 99, 3) ∧ zft (zinf 155).1 99 = some (10, 42, 3, true) ∧ 38 + 3 = 41 := by decide +kernel
theorem zi_155_41 : zraw 155 41 = some (.iload 4, 2) ∧ 41 + 2 = 43 := by decide +kernel
theorem zi_155_43 : zraw 155 43 = some (.iaload, 1) ∧ 43 + 1 = 44 := by decide +kernel
theorem zi_155_44 : zraw 155 44 = some (.ifCond .le 8, 3) ∧ ((44 : Nat) : Int) + 8 = Int.ofNat 52 ∧ 44 + 3 = 47 := by decide +kernel
theorem zi_155_47 : zraw 155 47 = some (.bipush (-2), 2) ∧ zin 128 (-2) = true ∧ 47 + 2 = 49 := by decide +kernel
theorem zi_155_49 : zraw 155 49 = some (.goto 9, 3) ∧ ((49 : Nat) : Int) + 9 = Int.ofNat 58 := by decide +kernel
theorem zi_155_52 : zraw 155 52 = some (.iload 4, 2) ∧ 52 + 2 = 54 := by decide +kernel
theorem zi_155_54 : zraw 155 54 = some (.goto 4, 3) ∧ ((54 : Nat) : Int) + 4 = Int.ofNat 58 := by decide +kernel
theorem zi_155_57 : zraw 155 57 = some (.iload_n 3, 1) ∧ 57 + 1 = 58 := by decide +kernel
theorem zi_155_58 : zraw 155 58 = some (.istore_n 3, 1) ∧ 58 + 1 = 59 := by decide +kernel
theorem zi_155_59 : zraw 155 59 = some (.iinc 4 1, 3) ∧ zin 32768 1 = true ∧ 59 + 3 = 62 := by decide +kernel
theorem zi_155_62 : zraw 155 62 = some (.goto (-57), 3) ∧ ((62 : Nat) : Int) + (-57) = Int.ofNat 5 := by decide +kernel
theorem zi_155_65 : zraw 155 65 = some (.iload_n 3, 1) ∧ 65 + 1 = 66 := by decide +kernel
theorem zi_155_66 : zraw 155 66 = some (.ireturn, 1) ∧ (zinf 155).2.2.2.1 = 1 := by decide +kernel
theorem ze_155 {K : List zF} {σ : zW} {x1 : Int64} : zEv true (zent 155 [.inr (.inr 122), .inr (.inl x1)] :: K) σ = (zEv true ((155, 5, [some (.inr (.inr 122)), some (.inr (.inl x1)), none, some (.inl (-1)), some (.inl 0)], []) :: K) σ) :=
  yT_en (f := (155, 0, [some (.inr (.inr 122)), some (.inr (.inl x1)), none, none, none], [])) rfl (yI_iconst zi_155_0 <| yI_istore_n (l := [some (.inr (.inr 122)), some (.inr (.inl x1)), none, some (.inl (-1)), none]) zi_155_1 rfl rfl <| yI_iconst zi_155_2 <| yI_istore (l := [some (.inr (.inr 122)), some (.inr (.inl x1)), none, some (.inl (-1)), some (.inl 0)]) zi_155_3 rfl rfl <| rfl)
theorem zj_155_5 {K : List zF} {σ : zW} {x1 : Int64} {x3 : Int} {x4 : Int} : zEv true ((155, 5, [some (.inr (.inr 122)), some (.inr (.inl x1)), none, some (.inl x3), some (.inl x4)], []) :: K) σ = (if (gI σ 122 35) ≤ x4 then zRet true K (some (.inl x3)) σ else (0 ≤ x4 ∧ x4 < 8) ∧ ((¬ (¬ (zlc (zi2l (gI σ 151 x4.toNat)) x1) = 0) → ((0 ≤ x4 ∧ x4 < 8) ∧ (¬ (¬ (gI σ 153 x4.toNat) = 0) → (0 ≤ x4 ∧ x4 < 8)))) ∧ zEv true ((155, 5, [some (.inr (.inr 122)), some (.inr (.inl x1)), none, some (.inl (if ¬ (zlc (zi2l (gI σ 151 x4.toNat)) x1) = 0 then x3 else (if ¬ (gI σ 153 x4.toNat) = 0 then (-2) else (if (gI σ 152 x4.toNat) ≤ 0 then x4 else (-2) : Int) : Int) : Int)), some (.inl (w32 (x4 + 1)))], []) :: K) σ)) :=
  yI_iload zi_155_5 rfl <| yI_aload_n zi_155_7 rfl <| yI_gf_i (v := gI σ 122 35) zi_155_8 zk_122 rfl <| yI_ic_ge zi_155_11 <| yBr (yI_iload_n zi_155_65 rfl <| yI_ireturn zi_155_66) (yI_aload_n zi_155_14 rfl <| yI_gf_f (v := 151) zi_155_15 zk_122 rfl <| yI_iload zi_155_18 rfl <| yI_ialoadc (v := gI σ 151 x4.toNat) zi_155_20 za_151 rfl <| yI_i2l zi_155_21 <| yI_lload_n zi_155_22 rfl <| yI_lcmp zi_155_23 <| yI_if_ne zi_155_24 <| yMi2 (j := 58) (ls2 := [some (.inr (.inr 122)), some (.inr (.inl x1)), none, some (.inl x3), some (.inl x4)]) (st2 := []) (x := x3) (y := (if ¬ (gI σ 153 x4.toNat) = 0 then (-2) else (if (gI σ 152 x4.toNat) ≤ 0 then x4 else (-2) : Int) : Int)) (σ2 := σ) (yI_iload_n zi_155_57 rfl <| rfl) ((yI_aload_n zi_155_27 rfl <| yI_gf_f (v := 153) zi_155_28 zk_122 rfl <| yI_iload zi_155_31 rfl <| yI_baloadc (v := gI σ 153 x4.toNat) zi_155_33 za_153 rfl <| yI_if_ne zi_155_34 <| yMi2 (j := 58) (ls2 := [some (.inr (.inr 122)), some (.inr (.inl x1)), none, some (.inl x3), some (.inl x4)]) (st2 := []) (x := (-2)) (y := (if (gI σ 152 x4.toNat) ≤ 0 then x4 else (-2) : Int)) (σ2 := σ) (yI_bipush zi_155_47 <| yI_goto zi_155_49 <| rfl) (yI_aload_n zi_155_37 rfl <| yI_gf_f (v := 152) zi_155_38 zk_122 rfl <| yI_iload zi_155_41 rfl <| yI_ialoadc (v := gI σ 152 x4.toNat) zi_155_43 za_152 rfl <| yI_if_le zi_155_44 <| yMi0 (j := 58) (ls2 := [some (.inr (.inr 122)), some (.inr (.inl x1)), none, some (.inl x3), some (.inl x4)]) (st2 := []) (x := x4) (y := (-2)) (σ2 := σ) (yI_iload zi_155_52 rfl <| yI_goto zi_155_54 <| rfl) (yI_bipush zi_155_47 <| yI_goto zi_155_49 <| rfl) <| rfl) <| rfl).trans (propext and_assoc.symm)) <| yI_istore_n (l := [some (.inr (.inr 122)), some (.inr (.inl x1)), none, some (.inl (if ¬ (zlc (zi2l (gI σ 151 x4.toNat)) x1) = 0 then x3 else (if ¬ (gI σ 153 x4.toNat) = 0 then (-2) else (if (gI σ 152 x4.toNat) ≤ 0 then x4 else (-2) : Int) : Int) : Int)), some (.inl x4)]) zi_155_58 rfl rfl <| yI_iinc (l := [some (.inr (.inr 122)), some (.inr (.inl x1)), none, some (.inl (if ¬ (zlc (zi2l (gI σ 151 x4.toNat)) x1) = 0 then x3 else (if ¬ (gI σ 153 x4.toNat) = 0 then (-2) else (if (gI σ 152 x4.toNat) ≤ 0 then x4 else (-2) : Int) : Int) : Int)), some (.inl (w32 (x4 + 1)))]) zi_155_59 rfl rfl rfl <| yI_goto zi_155_62 <| rfl)
/-- 156 TreegrabModel.areLabels(I)Z -/
theorem zi_156_0 : zraw 156 0 = some (.aload_n 0, 1) ∧ 0 + 1 = 1 := by decide +kernel
theorem zi_156_1 : zraw 156 1 = some (.getfield 84, 3) ∧ zft (zinf 156).1 84 = some (10, 37, 3, true) ∧ 1 + 3 = 4 := by decide +kernel
theorem zi_156_4 : zraw 156 4 = some (.iload_n 1, 1) ∧ 4 + 1 = 5 := by decide +kernel
theorem zi_156_5 : zraw 156 5 = some (.aload_n 0, 1) ∧ 5 + 1 = 6 := by decide +kernel
theorem zi_156_6 : zraw 156 6 = some (.getfield 271, 3) ∧ zft (zinf 156).1 271 = some (10, 49, 0, false) ∧ 6 + 3 = 9 := by decide +kernel
theorem zi_156_9 : zraw 156 9 = some (.iastore, 1) ∧ 9 + 1 = 10 := by decide +kernel
theorem zi_156_10 : zraw 156 10 = some (.iconst 1, 1) ∧ zin 128 1 = true ∧ 10 + 1 = 11 := by decide +kernel
theorem zi_156_11 : zraw 156 11 = some (.istore_n 2, 1) ∧ 11 + 1 = 12 := by decide +kernel
theorem zi_156_12 : zraw 156 12 = some (.iload_n 2, 1) ∧ 12 + 1 = 13 := by decide +kernel
theorem zi_156_13 : zraw 156 13 = some (.ifCond .eq 81, 3) ∧ ((13 : Nat) : Int) + 81 = Int.ofNat 94 ∧ 13 + 3 = 16 := by decide +kernel
theorem zi_156_16 : zraw 156 16 = some (.aload_n 0, 1) ∧ 16 + 1 = 17 := by decide +kernel
theorem zi_156_17 : zraw 156 17 = some (.invokevirtual 262, 3) ∧ zmt (zinf 156).1 262 = some 151 ∧ Nat.ble 9000 151 = false ∧ zinf 151 = (10, 1, 1, 2, 0) ∧ 17 + 3 = 20 := by decide +kernel
theorem zi_156_20 : zraw 156 20 = some (.ifCond .ne 5, 3) ∧ ((20 : Nat) : Int) + 5 = Int.ofNat 25 ∧ 20 + 3 = 23 := by decide +kernel
theorem zi_156_23 : zraw 156 23 = some (.iconst 0, 1) ∧ zin 128 0 = true ∧ 23 + 1 = 24 := by decide +kernel
theorem zi_156_24 : zraw 156 24 = some (.ireturn, 1) ∧ (zinf 156).2.2.2.1 = 2 := by decide +kernel
theorem zi_156_25 : zraw 156 25 = some (.aload_n 0, 1) ∧ 25 + 1 = 26 := by decide +kernel
theorem zi_156_26 : zraw 156 26 = some (.getfield 117, 3) ∧ zft (zinf 156).1 117 = some (10, 48, 3, true) ∧ 26 + 3 = 29 := by decide +kernel
theorem zi_156_29 : zraw 156 29 = some (.aload_n 0, 1) ∧ 29 + 1 = 30 := by decide +kernel
theorem zi_156_30 : zraw 156 30 = some (.getfield 271, 3) ∧ zft (zinf 156).1 271 = some (10, 49, 0, false) ∧ 30 + 3 = 33 := by decide +kernel
theorem zi_156_33 : zraw 156 33 = some (.aload_n 0, 1) ∧ 33 + 1 = 34 := by decide +kernel
theorem zi_156_34 : zraw 156 34 = some (.getfield 238, 3) ∧ zft (zinf 156).1 238 = some (10, 3, 2, false) ∧ 34 + 3 = 37 := by decide +kernel
theorem zi_156_37 : zraw 156 37 = some (.lastore, 1) ∧ 37 + 1 = 38 := by decide +kernel
theorem zi_156_38 : zraw 156 38 = some (.aload_n 0, 1) ∧ 38 + 1 = 39 := by decide +kernel
theorem zi_156_39 : zraw 156 39 = some (.dup, 1) ∧ 39 + 1 = 40 := by decide +kernel
theorem zi_156_40 : zraw 156 40 = some (.getfield 271, 3) ∧ zft (zinf 156).1 271 = some (10, 49, 0, false) ∧ 40 + 3 = 43 := by decide +kernel
theorem zi_156_43 : zraw 156 43 = some (.iconst 1, 1) ∧ zin 128 1 = true ∧ 43 + 1 = 44 := by decide +kernel
theorem zi_156_44 : zraw 156 44 = some (.iadd, 1) ∧ 44 + 1 = 45 := by decide +kernel
theorem zi_156_45 : zraw 156 45 = some (.putfield 271, 3) ∧ zft (zinf 156).1 271 = some (10, 49, 0, false) ∧ 45 + 3 = 48 := by decide +kernel
theorem zi_156_48 : zraw 156 48 = some (.aload_n 0, 1) ∧ 48 + 1 = 49 := by decide +kernel
theorem zi_156_49 : zraw 156 49 = some (.getfield 87, 3) ∧ zft (zinf 156).1 87 = some (10, 38, 3, true) ∧ 49 + 3 = 52 := by decide +kernel
theorem zi_156_52 : zraw 156 52 = some (.iload_n 1, 1) ∧ 52 + 1 = 53 := by decide +kernel
theorem zi_156_53 : zraw 156 53 = some (.dup2, 1) ∧ 53 + 1 = 54 := by decide +kernel
theorem zi_156_54 : zraw 156 54 = some (.iaload, 1) ∧ 54 + 1 = 55 := by decide +kernel
theorem zi_156_55 : zraw 156 55 = some (.iconst 1, 1) ∧ zin 128 1 = true ∧ 55 + 1 = 56 := by decide +kernel
theorem zi_156_56 : zraw 156 56 = some (.iadd, 1) ∧ 56 + 1 = 57 := by decide +kernel
theorem zi_156_57 : zraw 156 57 = some (.iastore, 1) ∧ 57 + 1 = 58 := by decide +kernel
theorem zi_156_58 : zraw 156 58 = some (.aload_n 0, 1) ∧ 58 + 1 = 59 := by decide +kernel
theorem zi_156_59 : zraw 156 59 = some (.invokevirtual 256, 3) ∧ zmt (zinf 156).1 256 = some 149 ∧ Nat.ble 9000 149 = false ∧ zinf 149 = (10, 1, 1, 1, 0) ∧ 59 + 3 = 62 := by decide +kernel
theorem zi_156_62 : zraw 156 62 = some (.bipush 124, 2) ∧ zin 128 124 = true ∧ 62 + 2 = 64 := by decide +kernel
theorem zi_156_64 : zraw 156 64 = some (.if_icmp .ne 7, 3) ∧ ((64 : Nat) : Int) + 7 = Int.ofNat 71 ∧ 64 + 3 = 67 := by decide +kernel
theorem zi_156_67 : zraw 156 67 = some (.iconst 1, 1) ∧ zin 128 1 = true ∧ 67 + 1 = 68 := by decide +kernel
theorem zi_156_68 : zraw 156 68 = some (.goto 4, 3) ∧ ((68 : Nat) : Int) + 4 = Int.ofNat 72 := by decide +kernel
theorem zi_156_71 : zraw 156 71 = some (.iconst 0, 1) ∧ zin 128 0 = true ∧ 71 + 1 = 72 := by decide +kernel
theorem zi_156_72 : zraw 156 72 = some (.istore_n 2, 1) ∧ 72 + 1 = 73 := by decide +kernel
theorem zi_156_73 : zraw 156 73 = some (.aload_n 0, 1) ∧ 73 + 1 = 74 := by decide +kernel
theorem zi_156_74 : zraw 156 74 = some (.dup, 1) ∧ 74 + 1 = 75 := by decide +kernel
theorem zi_156_75 : zraw 156 75 = some (.getfield 212, 3) ∧ zft (zinf 156).1 212 = some (10, 2, 0, false) ∧ 75 + 3 = 78 := by decide +kernel
theorem zi_156_78 : zraw 156 78 = some (.iload_n 2, 1) ∧ 78 + 1 = 79 := by decide +kernel
theorem zi_156_79 : zraw 156 79 = some (.ifCond .eq 7, 3) ∧ ((79 : Nat) : Int) + 7 = Int.ofNat 86 ∧ 79 + 3 = 82 := by decide +kernel
theorem zi_156_82 : zraw 156 82 = some (.iconst 1, 1) ∧ zin 128 1 = true ∧ 82 + 1 = 83 := by decide +kernel
theorem zi_156_83 : zraw 156 83 = some (.goto 4, 3) ∧ ((83 : Nat) : Int) + 4 = Int.ofNat 87 := by decide +kernel
theorem zi_156_86 : zraw 156 86 = some (.iconst 0, 1) ∧ zin 128 0 = true ∧ 86 + 1 = 87 := by decide +kernel
theorem zi_156_87 : zraw 156 87 = some (.iadd, 1) ∧ 87 + 1 = 88 := by decide +kernel
theorem zi_156_88 : zraw 156 88 = some (.putfield 212, 3) ∧ zft (zinf 156).1 212 = some (10, 2, 0, false) ∧ 88 + 3 = 91 := by decide +kernel
theorem zi_156_91 : zraw 156 91 = some (.goto (-79), 3) ∧ ((91 : Nat) : Int) + (-79) = Int.ofNat 12 := by decide +kernel
theorem zi_156_94 : zraw 156 94 = some (.iconst 1, 1) ∧ zin 128 1 = true ∧ 94 + 1 = 95 := by decide +kernel
theorem zi_156_95 : zraw 156 95 = some (.ireturn, 1) ∧ (zinf 156).2.2.2.1 = 2 := by decide +kernel
theorem ze_156 {K : List zF} {σ : zW} {x1 : Int} : zEv true (zent 156 [.inr (.inr 122), .inl x1] :: K) σ = ((0 ≤ x1 ∧ x1 < 8) ∧ zEv true ((156, 12, [some (.inr (.inr 122)), some (.inl x1), some (.inl 1)], []) :: K) (sI σ 147 x1.toNat (gI σ 122 49))) :=
  yT_en (f := (156, 0, [some (.inr (.inr 122)), some (.inl x1), none], [])) rfl (yI_aload_n zi_156_0 rfl <| yI_gf_f (v := 147) zi_156_1 zk_122 rfl <| yI_iload_n zi_156_4 rfl <| yI_aload_n zi_156_5 rfl <| yI_gf_i (v := gI σ 122 49) zi_156_6 zk_122 rfl <| yI_iastorec zi_156_9 za_147 <| yI_iconst zi_156_10 <| yI_istore_n (l := [some (.inr (.inr 122)), some (.inl x1), some (.inl 1)]) zi_156_11 rfl rfl <| rfl)
theorem zj_156_12 {K : List zF} {σ : zW} {x1 : Int} {x2 : Int} (hK : K.length < 60) : zEv true ((156, 12, [some (.inr (.inr 122)), some (.inl x1), some (.inl x2)], []) :: K) σ = (if x2 = 0 then zRet true K (some (.inl 1)) σ else zEv true (zent 151 [.inr (.inr 122)] :: (156, 20, [some (.inr (.inr 122)), some (.inl x1), some (.inl x2)], []) :: K) σ) :=
  yI_iload_n zi_156_12 rfl <| yI_if_eq zi_156_13 <| yBr (yI_iconst zi_156_94 <| yI_zreturn zi_156_95 (by decide)) (yI_aload_n zi_156_16 rfl <| yI_cv zi_156_17 rfl rfl zk_122 hK)
theorem zr_156_20 {K : List zF} {σ : zW} {x1 : Int} {o2 : Option zV} {v : Int} (hK : K.length < 60) : zRet true ((156, 20, [some (.inr (.inr 122)), some (.inl x1), o2], []) :: K) (some (.inl v)) σ = (if ¬ v = 0 then (0 ≤ (gI σ 122 49) ∧ (gI σ 122 49) < 300) ∧ ((0 ≤ x1 ∧ x1 < 8) ∧ ((0 ≤ x1 ∧ x1 < 8) ∧ zEv true (zent 149 [.inr (.inr 122)] :: (156, 62, [some (.inr (.inr 122)), some (.inl x1), o2], []) :: K) (sI (sI (sL σ 158 ((gI σ 122 49).toNat) (gL σ 122 3)) 122 49 (w32 ((gI σ 122 49) + 1))) 148 x1.toNat (w32 ((gI σ 148 x1.toNat) + 1))))) else zRet true K (some (.inl 0)) σ) :=
  yT_rt (yI_if_ne zi_156_20 <| yBr (yI_aload_n zi_156_25 rfl <| yI_gf_f (v := 158) zi_156_26 zk_122 rfl <| yI_aload_n zi_156_29 rfl <| yI_gf_i (v := gI σ 122 49) zi_156_30 zk_122 rfl <| yI_aload_n zi_156_33 rfl <| yI_gf_l (v := gL σ 122 3) zi_156_34 zk_122 rfl <| yI_lastorec zi_156_37 za_158 <| yI_aload_n zi_156_38 rfl <| yI_dup_r zi_156_39 <| yI_gf_i (v := gI σ 122 49) zi_156_40 zk_122 rfl <| yI_iconst zi_156_43 <| yI_iadd zi_156_44 <| yI_pf_i zi_156_45 zk_122 <| yI_aload_n zi_156_48 rfl <| yI_gf_f (v := 148) zi_156_49 zk_122 rfl <| yI_iload_n zi_156_52 rfl <| yI_dup2_ir zi_156_53 <| yI_ialoadc (v := gI σ 148 x1.toNat) zi_156_54 za_148 ((yGI_nk (by decide)).trans (gI_sL _ _ _ _ _ _)) <| yI_iconst zi_156_55 <| yI_iadd zi_156_56 <| yI_iastorec zi_156_57 za_148 <| yI_aload_n zi_156_58 rfl <| yI_cv zi_156_59 rfl rfl zk_122 hK) (yI_iconst zi_156_23 <| yI_zreturn zi_156_24 (by decide)))
theorem zr_156_62 {K : List zF} {σ : zW} {x1 : Int} {o2 : Option zV} {v : Int} : zRet true ((156, 62, [some (.inr (.inr 122)), some (.inl x1), o2], []) :: K) (some (.inl v)) σ = (zEv true ((156, 12, [some (.inr (.inr 122)), some (.inl x1), some (.inl (if ¬ v = 124 then 0 else 1 : Int))], []) :: K) (sI σ 122 2 (w32 ((gI σ 122 2) + (if (if ¬ v = 124 then 0 else 1 : Int) = 0 then 0 else 1 : Int))))) :=
  yT_rt (yI_bipush zi_156_62 <| yI_ic_ne zi_156_64 <| yMi0 (j := 72) (ls2 := [some (.inr (.inr 122)), some (.inl x1), o2]) (st2 := []) (x := 0) (y := 1) (σ2 := σ) (yI_iconst zi_156_71 <| rfl) (yI_iconst zi_156_67 <| yI_goto zi_156_68 <| rfl) <| yI_istore_n (l := [some (.inr (.inr 122)), some (.inl x1), some (.inl (if ¬ v = 124 then 0 else 1 : Int))]) zi_156_72 rfl rfl <| yI_aload_n zi_156_73 rfl <| yI_dup_r zi_156_74 <| yI_gf_i (v := gI σ 122 2) zi_156_75 zk_122 rfl <| yI_iload_n zi_156_78 rfl <| yI_if_eq zi_156_79 <| yMi0 (j := 87) (ls2 := [some (.inr (.inr 122)), some (.inl x1), some (.inl (if ¬ v = 124 then 0 else 1 : Int))]) (st2 := [.inl (gI σ 122 2), .inr (.inr 122)]) (x := 0) (y := 1) (σ2 := σ) (yI_iconst zi_156_86 <| rfl) (yI_iconst zi_156_82 <| yI_goto zi_156_83 <| rfl) <| yI_iadd zi_156_87 <| yI_pf_i zi_156_88 zk_122 <| yI_goto zi_156_91 <| rfl)
/-- 157 TreegrabModel.canBegin(Z)Z -/
theorem zi_157_0 : zraw 157 0 = some (.aload_n 0, 1) ∧ 0 + 1 = 1 := by decide +kernel
theorem zi_157_1 : zraw 157 1 = some (.invokevirtual 256, 3) ∧ zmt (zinf 157).1 256 = some 149 ∧ Nat.ble 9000 149 = false ∧ zinf 149 = (10, 1, 1, 1, 0) ∧ 1 + 3 = 4 := by decide +kernel
theorem zi_157_4 : zraw 157 4 = some (.istore_n 2, 1) ∧ 4 + 1 = 5 := by decide +kernel
theorem zi_157_5 : zraw 157 5 = some (.aload_n 0, 1) ∧ 5 + 1 = 6 := by decide +kernel
theorem zi_157_6 : zraw 157 6 = some (.getfield 212, 3) ∧ zft (zinf 157).1 212 = some (10, 2, 0, false) ∧ 6 + 3 = 9 := by decide +kernel
theorem zi_157_9 : zraw 157 9 = some (.istore_n 3, 1) ∧ 9 + 1 = 10 := by decide +kernel
theorem zi_157_10 : zraw 157 10 = some (.iload_n 2, 1) ∧ 10 + 1 = 11 := by decide +kernel
theorem zi_157_11 : zraw 157 11 = some (.bipush 42, 2) ∧ zin 128 42 = true ∧ 11 + 2 = 13 := by decide +kernel
theorem zi_157_13 : zraw 157 13 = some (.if_icmp .eq 35, 3) ∧ ((13 : Nat) : Int) + 35 = Int.ofNat 48 ∧ 13 + 3 = 16 := by decide +kernel
theorem zi_157_16 : zraw 157 16 = some (.iload_n 2, 1) ∧ 16 + 1 = 17 := by decide +kernel
theorem zi_157_17 : zraw 157 17 = some (.bipush 33, 2) ∧ zin 128 33 = true ∧ 17 + 2 = 19 := by decide +kernel
theorem zi_157_19 : zraw 157 19 = some (.if_icmp .eq 29, 3) ∧ ((19 : Nat) : Int) + 29 = Int.ofNat 48 ∧ 19 + 3 = 22 := by decide +kernel
theorem zi_157_22 : zraw 157 22 = some (.iload_n 2, 1) ∧ 22 + 1 = 23 := by decide +kernel
theorem zi_157_23 : zraw 157 23 = some (.bipush 126, 2) ∧ zin 128 126 = true ∧ 23 + 2 = 25 := by decide +kernel
theorem zi_157_25 : zraw 157 25 = some (.if_icmp .eq 23, 3) ∧ ((25 : Nat) : Int) + 23 = Int.ofNat 48 ∧ 25 + 3 = 28 := by decide +kernel
theorem zi_157_28 : zraw 157 28 = some (.iload_n 2, 1) ∧ 28 + 1 = 29 := by decide +kernel
theorem zi_157_29 : zraw 157 29 = some (.bipush 61, 2) ∧ zin 128 61 = true ∧ 29 + 2 = 31 := by decide +kernel
theorem zi_157_31 : zraw 157 31 = some (.if_icmp .eq 17, 3) ∧ ((31 : Nat) : Int) + 17 = Int.ofNat 48 ∧ 31 + 3 = 34 := by decide +kernel
theorem zi_157_34 : zraw 157 34 = some (.iload_n 2, 1) ∧ 34 + 1 = 35 := by decide +kernel
theorem zi_157_35 : zraw 157 35 = some (.invokestatic 245, 3) ∧ zmt (zinf 157).1 245 = some 147 ∧ Nat.ble 9000 147 = false ∧ zinf 147 = (10, 1, 1, 2, 1) ∧ 35 + 3 = 38 := by decide +kernel
theorem zi_157_38 : zraw 157 38 = some (.ifCond .ne 10, 3) ∧ ((38 : Nat) : Int) + 10 = Int.ofNat 48 ∧ 38 + 3 = 41 := by decide +kernel
theorem zi_157_41 : zraw 157 41 = some (.aload_n 0, 1) ∧ 41 + 1 = 42 := by decide +kernel
theorem zi_157_42 : zraw 157 42 = some (.iconst 1, 1) ∧ zin 128 1 = true ∧ 42 + 1 = 43 := by decide +kernel
theorem zi_157_43 : zraw 157 43 = some (.iload_n 3, 1) ∧ 43 + 1 = 44 := by decide +kernel
theorem zi_157_44 : zraw 157 44 = some (.invokevirtual 252, 3) ∧ zmt (zinf 157).1 252 = some 148 ∧ Nat.ble 9000 148 = false ∧ zinf 148 = (10, 3, 3, 2, 0) ∧ 44 + 3 = 47 := by decide +kernel
theorem zi_157_47 : zraw 157 47 = some (.ireturn, 1) ∧ (zinf 157).2.2.2.1 = 2 := by decide +kernel
theorem zi_157_48 : zraw 157 48 = some (.iload_n 2, 1) ∧ 48 + 1 = 49 := by decide +kernel
theorem zi_157_49 : zraw 157 49 = some (.invokestatic 245, 3) ∧ zmt (zinf 157).1 245 = some 147 ∧ Nat.ble 9000 147 = false ∧ zinf 147 = (10, 1, 1, 2, 1) ∧ 49 + 3 = 52 := by decide +kernel
theorem zi_157_52 : zraw 157 52 = some (.ifCond .eq 30, 3) ∧ ((52 : Nat) : Int) + 30 = Int.ofNat 82 ∧ 52 + 3 = 55 := by decide +kernel
theorem zi_157_55 : zraw 157 55 = some (.aload_n 0, 1) ∧ 55 + 1 = 56 := by decide +kernel
theorem zi_157_56 : zraw 157 56 = some (.invokevirtual 248, 3) ∧ zmt (zinf 157).1 248 = some 150 ∧ Nat.ble 9000 150 = false ∧ zinf 150 = (10, 1, 2, 2, 0) ∧ 56 + 3 = 59 := by decide +kernel
theorem zi_157_59 : zraw 157 59 = some (.istore 4, 2) ∧ 59 + 2 = 61 := by decide +kernel
theorem zi_157_61 : zraw 157 61 = some (.aload_n 0, 1) ∧ 61 + 1 = 62 := by decide +kernel
theorem zi_157_62 : zraw 157 62 = some (.iload_n 3, 1) ∧ 62 + 1 = 63 := by decide +kernel
theorem zi_157_63 : zraw 157 63 = some (.putfield 212, 3) ∧ zft (zinf 157).1 212 = some (10, 2, 0, false) ∧ 63 + 3 = 66 := by decide +kernel
theorem zi_157_66 : zraw 157 66 = some (.aload_n 0, 1) ∧ 66 + 1 = 67 := by decide +kernel
theorem zi_157_67 : zraw 157 67 = some (.getfield 242, 3) ∧ zft (zinf 157).1 242 = some (10, 4, 0, false) ∧ 67 + 3 = 70 := by decide +kernel
theorem zi_157_70 : zraw 157 70 = some (.bipush 6, 2) ∧ zin 128 6 = true ∧ 70 + 2 = 72 := by decide +kernel
theorem zi_157_72 : zraw 157 72 = some (.if_icmp .le 10, 3) ∧ ((72 : Nat) : Int) + 10 = Int.ofNat 82 ∧ 72 + 3 = 75 := by decide +kernel
theorem zi_157_75 : zraw 157 75 = some (.aload_n 0, 1) ∧ 75 + 1 = 76 := by decide +kernel
theorem zi_157_76 : zraw 157 76 = some (.iconst 2, 1) ∧ zin 128 2 = true ∧ 76 + 1 = 77 := by decide +kernel
theorem zi_157_77 : zraw 157 77 = some (.iload_n 3, 1) ∧ 77 + 1 = 78 := by decide +kernel
theorem zi_157_78 : zraw 157 78 = some (.invokevirtual 252, 3) ∧ zmt (zinf 157).1 252 = some 148 ∧ Nat.ble 9000 148 = false ∧ zinf 148 = (10, 3, 3, 2, 0) ∧ 78 + 3 = 81 := by decide +kernel
theorem zi_157_81 : zraw 157 81 = some (.ireturn, 1) ∧ (zinf 157).2.2.2.1 = 2 := by decide +kernel
theorem zi_157_82 : zraw 157 82 = some (.aload_n 0, 1) ∧ 82 + 1 = 83 := by decide +kernel
theorem zi_157_83 : zraw 157 83 = some (.getfield 268, 3) ∧ zft (zinf 157).1 268 = some (10, 35, 0, false) ∧ 83 + 3 = 86 := by decide +kernel
theorem zi_157_86 : zraw 157 86 = some (.bipush 8, 2) ∧ zin 128 8 = true ∧ 86 + 2 = 88 := by decide +kernel
theorem zi_157_88 : zraw 157 88 = some (.if_icmp .ge 21, 3) ∧ ((88 : Nat) : Int) + 21 = Int.ofNat 109 ∧ 88 + 3 = 91 := by decide +kernel
theorem zi_157_91 : zraw 157 91 = some (.iload_n 1, 1) ∧ 91 + 1 = 92 := by decide +kernel
theorem zi_157_92 : zraw 157 92 = some (.ifCond .ne 26, 3) ∧ ((92 : Nat) : Int) + 26 = Int.ofNat 118 ∧ 92 + 3 = 95 := by decide +kernel
theorem zi_157_95 : zraw 157 95 = some (.iload_n 2, 1) ∧ 95 + 1 = 96 := by decide +kernel
theorem zi_157_96 : zraw 157 96 = some (.bipush 61, 2) ∧ zin 128 61 = true ∧ 96 + 2 = 98 := by decide +kernel
theorem zi_157_98 : zraw 157 98 = some (.if_icmp .eq 20, 3) ∧ ((98 : Nat) : Int) + 20 = Int.ofNat 118 ∧ 98 + 3 = 101 := by decide +kernel
theorem zi_157_101 : zraw 157 101 = some (.aload_n 0, 1) ∧ 101 + 1 = 102 := by decide +kernel
theorem zi_157_102 : zraw 157 102 = some (.getfield 274, 3) ∧ zft (zinf 157).1 274 = some (10, 50, 0, false) ∧ 102 + 3 = 105 := by decide +kernel
theorem zi_157_105 : zraw 157 105 = some (.iconst 4, 1) ∧ zin 128 4 = true ∧ 105 + 1 = 106 := by decide +kernel
theorem zi_157_106 : zraw 157 106 = some (.if_icmp .lt 12, 3) ∧ ((106 : Nat) : Int) + 12 = Int.ofNat 118 ∧ 106 + 3 = 109 := by decide +kernel
theorem zi_157_109 : zraw 157 109 = some (.aload_n 0, 1) ∧ 109 + 1 = 110 := by decide +kernel
theorem zi_157_110 : zraw 157 110 = some (.iconst 3, 1) ∧ zin 128 3 = true ∧ 110 + 1 = 111 := by decide +kernel
theorem zi_157_111 : zraw 157 111 = some (.iload_n 3, 1) ∧ 111 + 1 = 112 := by decide +kernel
theorem zi_157_112 : zraw 157 112 = some (.invokevirtual 252, 3) ∧ zmt (zinf 157).1 252 = some 148 ∧ Nat.ble 9000 148 = false ∧ zinf 148 = (10, 3, 3, 2, 0) ∧ 112 + 3 = 115 := by decide +kernel
theorem zi_157_115 : zraw 157 115 = some (.ifCond .eq 7, 3) ∧ ((115 : Nat) : Int) + 7 = Int.ofNat 122 ∧ 115 + 3 = 118 := by decide +kernel
theorem zi_157_118 : zraw 157 118 = some (.iconst 1, 1) ∧ zin 128 1 = true ∧ 118 + 1 = 119 := by decide +kernel
theorem zi_157_119 : zraw 157 119 = some (.goto 4, 3) ∧ ((119 : Nat) : Int) + 4 = Int.ofNat 123 := by decide +kernel
theorem zi_157_122 : zraw 157 122 = some (.iconst 0, 1) ∧ zin 128 0 = true ∧ 122 + 1 = 123 := by decide +kernel
theorem zi_157_123 : zraw 157 123 = some (.ireturn, 1) ∧ (zinf 157).2.2.2.1 = 2 := by decide +kernel
theorem ze_157 {K : List zF} {σ : zW} {x1 : Int} (hK : K.length < 60) : zEv true (zent 157 [.inr (.inr 122), .inl x1] :: K) σ = (zEv true (zent 149 [.inr (.inr 122)] :: (157, 4, [some (.inr (.inr 122)), some (.inl x1), none, none, none], []) :: K) σ) :=
  yT_en (f := (157, 0, [some (.inr (.inr 122)), some (.inl x1), none, none, none], [])) rfl (yI_aload_n zi_157_0 rfl <| yI_cv zi_157_1 rfl rfl zk_122 hK)
theorem zr_157_4 {K : List zF} {σ : zW} {x1 : Int} {o2 : Option zV} {o3 : Option zV} {o4 : Option zV} {v : Int} (hK : K.length < 60) : zRet true ((157, 4, [some (.inr (.inr 122)), some (.inl x1), o2, o3, o4], []) :: K) (some (.inl v)) σ = (if v = 42 then zEv true ((157, 48, [some (.inr (.inr 122)), some (.inl x1), some (.inl v), some (.inl (gI σ 122 2)), o4], []) :: K) σ else if v = 33 then zEv true ((157, 48, [some (.inr (.inr 122)), some (.inl x1), some (.inl v), some (.inl (gI σ 122 2)), o4], []) :: K) σ else if v = 126 then zEv true ((157, 48, [some (.inr (.inr 122)), some (.inl x1), some (.inl v), some (.inl (gI σ 122 2)), o4], []) :: K) σ else if v = 61 then zEv true ((157, 48, [some (.inr (.inr 122)), some (.inl x1), some (.inl v), some (.inl (gI σ 122 2)), o4], []) :: K) σ else zEv true (zent 147 [.inl v] :: (157, 38, [some (.inr (.inr 122)), some (.inl x1), some (.inl v), some (.inl (gI σ 122 2)), o4], []) :: K) σ) :=
  yT_rt (yI_istore_n (l := [some (.inr (.inr 122)), some (.inl x1), some (.inl v), o3, o4]) zi_157_4 rfl rfl <| yI_aload_n zi_157_5 rfl <| yI_gf_i (v := gI σ 122 2) zi_157_6 zk_122 rfl <| yI_istore_n (l := [some (.inr (.inr 122)), some (.inl x1), some (.inl v), some (.inl (gI σ 122 2)), o4]) zi_157_9 rfl rfl <| yI_iload_n zi_157_10 rfl <| yI_bipush zi_157_11 <| yI_ic_eq zi_157_13 <| yBr (rfl) (yI_iload_n zi_157_16 rfl <| yI_bipush zi_157_17 <| yI_ic_eq zi_157_19 <| yBr (rfl) (yI_iload_n zi_157_22 rfl <| yI_bipush zi_157_23 <| yI_ic_eq zi_157_25 <| yBr (rfl) (yI_iload_n zi_157_28 rfl <| yI_bipush zi_157_29 <| yI_ic_eq zi_157_31 <| yBr (rfl) (yI_iload_n zi_157_34 rfl <| yI_cs zi_157_35 rfl rfl hK)))))
theorem zj_157_48 {K : List zF} {σ : zW} {x1 : Int} {x2 : Int} {x3 : Int} {o4 : Option zV} (hK : K.length < 60) : zEv true ((157, 48, [some (.inr (.inr 122)), some (.inl x1), some (.inl x2), some (.inl x3), o4], []) :: K) σ = (zEv true (zent 147 [.inl x2] :: (157, 52, [some (.inr (.inr 122)), some (.inl x1), some (.inl x2), some (.inl x3), o4], []) :: K) σ) :=
  yI_iload_n zi_157_48 rfl <| yI_cs zi_157_49 rfl rfl hK
theorem zr_157_38 {K : List zF} {σ : zW} {x1 : Int} {x2 : Int} {x3 : Int} {o4 : Option zV} {v : Int} (hK : K.length < 60) : zRet true ((157, 38, [some (.inr (.inr 122)), some (.inl x1), some (.inl x2), some (.inl x3), o4], []) :: K) (some (.inl v)) σ = (if ¬ v = 0 then zEv true ((157, 48, [some (.inr (.inr 122)), some (.inl x1), some (.inl x2), some (.inl x3), o4], []) :: K) σ else zEv true (zent 148 [.inr (.inr 122), .inl 1, .inl x3] :: (157, 47, [some (.inr (.inr 122)), some (.inl x1), some (.inl x2), some (.inl x3), o4], []) :: K) σ) :=
  yT_rt (yI_if_ne zi_157_38 <| yBr (rfl) (yI_aload_n zi_157_41 rfl <| yI_iconst zi_157_42 <| yI_iload_n zi_157_43 rfl <| yI_cv zi_157_44 rfl rfl zk_122 hK))
theorem zr_157_52 {K : List zF} {σ : zW} {x1 : Int} {x2 : Int} {x3 : Int} {o4 : Option zV} {v : Int} (hK : K.length < 60) : zRet true ((157, 52, [some (.inr (.inr 122)), some (.inl x1), some (.inl x2), some (.inl x3), o4], []) :: K) (some (.inl v)) σ = (if v = 0 then zEv true ((157, 82, [some (.inr (.inr 122)), some (.inl x1), some (.inl x2), some (.inl x3), o4], []) :: K) σ else zEv true (zent 150 [.inr (.inr 122)] :: (157, 59, [some (.inr (.inr 122)), some (.inl x1), some (.inl x2), some (.inl x3), o4], []) :: K) σ) :=
  yT_rt (yI_if_eq zi_157_52 <| yBr (rfl) (yI_aload_n zi_157_55 rfl <| yI_cv zi_157_56 rfl rfl zk_122 hK))
theorem zr_157_47 {K : List zF} {σ : zW} {o0 : Option zV} {o1 : Option zV} {o2 : Option zV} {o3 : Option zV} {o4 : Option zV} {v : Int} : zRet true ((157, 47, [o0, o1, o2, o3, o4], []) :: K) (some (.inl v)) σ = ((v = 0 ∨ v = 1) ∧ zRet true K (some (.inl v)) σ) :=
  yT_rt (yI_zreturnc zi_157_47)
theorem zj_157_82 {K : List zF} {σ : zW} {x1 : Int} {x2 : Int} {x3 : Int} {o4 : Option zV} : zEv true ((157, 82, [some (.inr (.inr 122)), some (.inl x1), some (.inl x2), some (.inl x3), o4], []) :: K) σ = (if 8 ≤ (gI σ 122 35) then zEv true ((157, 109, [some (.inr (.inr 122)), some (.inl x1), some (.inl x2), some (.inl x3), o4], []) :: K) σ else if ¬ x1 = 0 then zRet true K (some (.inl 1)) σ else if x2 = 61 then zRet true K (some (.inl 1)) σ else if (gI σ 122 50) < 4 then zRet true K (some (.inl 1)) σ else zEv true ((157, 109, [some (.inr (.inr 122)), some (.inl x1), some (.inl x2), some (.inl x3), o4], []) :: K) σ) :=
  yI_aload_n zi_157_82 rfl <| yI_gf_i (v := gI σ 122 35) zi_157_83 zk_122 rfl <| yI_bipush zi_157_86 <| yI_ic_ge zi_157_88 <| yBr (rfl) (yI_iload_n zi_157_91 rfl <| yI_if_ne zi_157_92 <| yBr (yI_iconst zi_157_118 <| yI_goto zi_157_119 <| yI_zreturn zi_157_123 (by decide)) (yI_iload_n zi_157_95 rfl <| yI_bipush zi_157_96 <| yI_ic_eq zi_157_98 <| yBr (yI_iconst zi_157_118 <| yI_goto zi_157_119 <| yI_zreturn zi_157_123 (by decide)) (yI_aload_n zi_157_101 rfl <| yI_gf_i (v := gI σ 122 50) zi_157_102 zk_122 rfl <| yI_iconst zi_157_105 <| yI_ic_lt zi_157_106 <| yBr (yI_iconst zi_157_118 <| yI_goto zi_157_119 <| yI_zreturn zi_157_123 (by decide)) (rfl))))
theorem zr_157_59 {K : List zF} {σ : zW} {x1 : Int} {x2 : Int} {x3 : Int} {o4 : Option zV} {v : Int} (hK : K.length < 60) : zRet true ((157, 59, [some (.inr (.inr 122)), some (.inl x1), some (.inl x2), some (.inl x3), o4], []) :: K) (some (.inl v)) σ = (if (gI σ 122 4) ≤ 6 then zEv true ((157, 82, [some (.inr (.inr 122)), some (.inl x1), some (.inl x2), some (.inl x3), some (.inl v)], []) :: K) (sI σ 122 2 x3) else zEv true (zent 148 [.inr (.inr 122), .inl 2, .inl x3] :: (157, 81, [some (.inr (.inr 122)), some (.inl x1), some (.inl x2), some (.inl x3), some (.inl v)], []) :: K) (sI σ 122 2 x3)) :=
  yT_rt (yI_istore (l := [some (.inr (.inr 122)), some (.inl x1), some (.inl x2), some (.inl x3), some (.inl v)]) zi_157_59 rfl rfl <| yI_aload_n zi_157_61 rfl <| yI_iload_n zi_157_62 rfl <| yI_pf_i zi_157_63 zk_122 <| yI_aload_n zi_157_66 rfl <| yI_gf_i (v := gI σ 122 4) zi_157_67 zk_122 (yGI_nj (by decide)) <| yI_bipush zi_157_70 <| yI_ic_le zi_157_72 <| yBr (rfl) (yI_aload_n zi_157_75 rfl <| yI_iconst zi_157_76 <| yI_iload_n zi_157_77 rfl <| yI_cv zi_157_78 rfl rfl zk_122 hK))
theorem zj_157_109 {K : List zF} {σ : zW} {o1 : Option zV} {o2 : Option zV} {x3 : Int} {o4 : Option zV} (hK : K.length < 60) : zEv true ((157, 109, [some (.inr (.inr 122)), o1, o2, some (.inl x3), o4], []) :: K) σ = (zEv true (zent 148 [.inr (.inr 122), .inl 3, .inl x3] :: (157, 115, [some (.inr (.inr 122)), o1, o2, some (.inl x3), o4], []) :: K) σ) :=
  yI_aload_n zi_157_109 rfl <| yI_iconst zi_157_110 <| yI_iload_n zi_157_111 rfl <| yI_cv zi_157_112 rfl rfl zk_122 hK
theorem zr_157_81 {K : List zF} {σ : zW} {o0 : Option zV} {o1 : Option zV} {o2 : Option zV} {o3 : Option zV} {o4 : Option zV} {v : Int} : zRet true ((157, 81, [o0, o1, o2, o3, o4], []) :: K) (some (.inl v)) σ = ((v = 0 ∨ v = 1) ∧ zRet true K (some (.inl v)) σ) :=
  yT_rt (yI_zreturnc zi_157_81)
theorem zr_157_115 {K : List zF} {σ : zW} {o0 : Option zV} {o1 : Option zV} {o2 : Option zV} {o3 : Option zV} {o4 : Option zV} {v : Int} : zRet true ((157, 115, [o0, o1, o2, o3, o4], []) :: K) (some (.inl v)) σ = (if v = 0 then zRet true K (some (.inl 0)) σ else zRet true K (some (.inl 1)) σ) :=
  yT_rt (yI_if_eq zi_157_115 <| yBr (yI_iconst zi_157_122 <| yI_zreturn zi_157_123 (by decide)) (yI_iconst zi_157_118 <| yI_goto zi_157_119 <| yI_zreturn zi_157_123 (by decide)))
/-- 158 TreegrabModel.isNode(IIII)Z -/
theorem zi_158_0 : zraw 158 0 = some (.iload_n 2, 1) ∧ 0 + 1 = 1 := by decide +kernel
theorem zi_158_1 : zraw 158 1 = some (.bipush 33, 2) ∧ zin 128 33 = true ∧ 1 + 2 = 3 := by decide +kernel
theorem zi_158_3 : zraw 158 3 = some (.if_icmp .eq 17, 3) ∧ ((3 : Nat) : Int) + 17 = Int.ofNat 20 ∧ 3 + 3 = 6 := by decide +kernel
theorem zi_158_6 : zraw 158 6 = some (.iload_n 1, 1) ∧ 6 + 1 = 7 := by decide +kernel
theorem zi_158_7 : zraw 158 7 = some (.iconst (-1), 1) ∧ zin 128 (-1) = true ∧ 7 + 1 = 8 := by decide +kernel
theorem zi_158_8 : zraw 158 8 = some (.if_icmp .eq 16, 3) ∧ ((8 : Nat) : Int) + 16 = Int.ofNat 24 ∧ 8 + 3 = 11 := by decide +kernel
theorem zi_158_11 : zraw 158 11 = some (.aload_n 0, 1) ∧ 11 + 1 = 12 := by decide +kernel
theorem zi_158_12 : zraw 158 12 = some (.getfield 102, 3) ∧ zft (zinf 158).1 102 = some (10, 43, 3, true) ∧ 12 + 3 = 15 := by decide +kernel
theorem zi_158_15 : zraw 158 15 = some (.iload_n 1, 1) ∧ 15 + 1 = 16 := by decide +kernel
theorem zi_158_16 : zraw 158 16 = some (.baload, 1) ∧ 16 + 1 = 17 := by decide +kernel
theorem zi_158_17 : zraw 158 17 = some (.ifCond .eq 7, 3) ∧ ((17 : Nat) : Int) + 7 = Int.ofNat 24 ∧ 17 + 3 = 20 := by decide +kernel
theorem zi_158_20 : zraw 158 20 = some (.iconst 1, 1) ∧ zin 128 1 = true ∧ 20 + 1 = 21 := by decide +kernel
theorem zi_158_21 : zraw 158 21 = some (.goto 4, 3) ∧ ((21 : Nat) : Int) + 4 = Int.ofNat 25 := by decide +kernel
theorem zi_158_24 : zraw 158 24 = some (.iconst 0, 1) ∧ zin 128 0 = true ∧ 24 + 1 = 25 := by decide +kernel
theorem zi_158_25 : zraw 158 25 = some (.istore 5, 2) ∧ 25 + 2 = 27 := by decide +kernel
theorem zi_158_27 : zraw 158 27 = some (.iload_n 1, 1) ∧ 27 + 1 = 28 := by decide +kernel
theorem zi_158_28 : zraw 158 28 = some (.iconst (-1), 1) ∧ zin 128 (-1) = true ∧ 28 + 1 = 29 := by decide +kernel
theorem zi_158_29 : zraw 158 29 = some (.if_icmp .eq 26, 3) ∧ ((29 : Nat) : Int) + 26 = Int.ofNat 55 ∧ 29 + 3 = 32 := by decide +kernel
theorem zi_158_32 : zraw 158 32 = some (.iload 5, 2) ∧ 32 + 2 = 34 := by decide +kernel
theorem zi_158_34 : zraw 158 34 = some (.ifCond .eq 25, 3) ∧ ((34 : Nat) : Int) + 25 = Int.ofNat 59 ∧ 34 + 3 = 37 := by decide +kernel
theorem zi_158_37 : zraw 158 37 = some (.aload_n 0, 1) ∧ 37 + 1 = 38 := by decide +kernel
theorem zi_158_38 : zraw 158 38 = some (.getfield 102, 3) ∧ zft (zinf 158).1 102 = some (10, 43, 3, true) ∧ 38 + 3 = 41 := by decide +kernel
theorem zi_158_41 : zraw 158 41 = some (.iload_n 1, 1) ∧ 41 + 1 = 42 := by decide +kernel
theorem zi_158_42 : zraw 158 42 = some (.baload, 1) ∧ 42 + 1 = 43 := by decide +kernel
theorem zi_158_43 : zraw 158 43 = some (.ifCond .ne 16, 3) ∧ ((43 : Nat) : Int) + 16 = Int.ofNat 59 ∧ 43 + 3 = 46 := by decide +kernel
theorem zi_158_46 : zraw 158 46 = some (.aload_n 0, 1) ∧ 46 + 1 = 47 := by decide +kernel
theorem zi_158_47 : zraw 158 47 = some (.getfield 99, 3) ∧ zft (zinf 158).1 99 = some (10, 42, 3, true) ∧ 47 + 3 = 50 := by decide +kernel
theorem zi_158_50 : zraw 158 50 = some (.iload_n 1, 1) ∧ 50 + 1 = 51 := by decide +kernel
theorem zi_158_51 : zraw 158 51 = some (.iaload, 1) ∧ 51 + 1 = 52 := by decide +kernel
theorem zi_158_52 : zraw 158 52 = some (.ifCond .ne 7, 3) ∧ ((52 : Nat) : Int) + 7 = Int.ofNat 59 ∧ 52 + 3 = 55 := by decide +kernel
theorem zi_158_55 : zraw 158 55 = some (.iconst 0, 1) ∧ zin 128 0 = true ∧ 55 + 1 = 56 := by decide +kernel
theorem zi_158_56 : zraw 158 56 = some (.goto 9, 3) ∧ ((56 : Nat) : Int) + 9 = Int.ofNat 65 := by decide +kernel
theorem zi_158_59 : zraw 158 59 = some (.aload_n 0, 1) ∧ 59 + 1 = 60 := by decide +kernel
theorem zi_158_60 : zraw 158 60 = some (.getfield 99, 3) ∧ zft (zinf 158).1 99 = some (10, 42, 3, true) ∧ 60 + 3 = 63 := by decide +kernel
theorem zi_158_63 : zraw 158 63 = some (.iload_n 1, 1) ∧ 63 + 1 = 64 := by decide +kernel
theorem zi_158_64 : zraw 158 64 = some (.iaload, 1) ∧ 64 + 1 = 65 := by decide +kernel
theorem zi_158_65 : zraw 158 65 = some (.istore 6, 2) ∧ 65 + 2 = 67 := by decide +kernel
theorem zi_158_67 : zraw 158 67 = some (.aload_n 0, 1) ∧ 67 + 1 = 68 := by decide +kernel
theorem zi_158_68 : zraw 158 68 = some (.iload 5, 2) ∧ 68 + 2 = 70 := by decide +kernel
theorem zi_158_70 : zraw 158 70 = some (.invokevirtual 277, 3) ∧ zmt (zinf 158).1 277 = some 157 ∧ Nat.ble 9000 157 = false ∧ zinf 157 = (10, 2, 5, 2, 0) ∧ 70 + 3 = 73 := by decide +kernel
theorem zi_158_73 : zraw 158 73 = some (.ifCond .ne 5, 3) ∧ ((73 : Nat) : Int) + 5 = Int.ofNat 78 ∧ 73 + 3 = 76 := by decide +kernel
theorem zi_158_76 : zraw 158 76 = some (.iconst 0, 1) ∧ zin 128 0 = true ∧ 76 + 1 = 77 := by decide +kernel
theorem zi_158_77 : zraw 158 77 = some (.ireturn, 1) ∧ (zinf 158).2.2.2.1 = 2 := by decide +kernel
theorem zi_158_78 : zraw 158 78 = some (.aload_n 0, 1) ∧ 78 + 1 = 79 := by decide +kernel
theorem zi_158_79 : zraw 158 79 = some (.getfield 268, 3) ∧ zft (zinf 158).1 268 = some (10, 35, 0, false) ∧ 79 + 3 = 82 := by decide +kernel
theorem zi_158_82 : zraw 158 82 = some (.istore 7, 2) ∧ 82 + 2 = 84 := by decide +kernel
theorem zi_158_84 : zraw 158 84 = some (.aload_n 0, 1) ∧ 84 + 1 = 85 := by decide +kernel
theorem zi_158_85 : zraw 158 85 = some (.invokevirtual 218, 3) ∧ zmt (zinf 158).1 218 = some 144 ∧ Nat.ble 9000 144 = false ∧ zinf 144 = (10, 1, 1, 1, 0) ∧ 85 + 3 = 88 := by decide +kernel
theorem zi_158_88 : zraw 158 88 = some (.istore 8, 2) ∧ 88 + 2 = 90 := by decide +kernel
theorem zi_158_90 : zraw 158 90 = some (.aload_n 0, 1) ∧ 90 + 1 = 91 := by decide +kernel
theorem zi_158_91 : zraw 158 91 = some (.dup, 1) ∧ 91 + 1 = 92 := by decide +kernel
theorem zi_158_92 : zraw 158 92 = some (.getfield 268, 3) ∧ zft (zinf 158).1 268 = some (10, 35, 0, false) ∧ 92 + 3 = 95 := by decide +kernel
theorem zi_158_95 : zraw 158 95 = some (.iconst 1, 1) ∧ zin 128 1 = true ∧ 95 + 1 = 96 := by decide +kernel
theorem zi_158_96 : zraw 158 96 = some (.iadd, 1) ∧ 96 + 1 = 97 := by decide +kernel
theorem zi_158_97 : zraw 158 97 = some (.putfield 268, 3) ∧ zft (zinf 158).1 268 = some (10, 35, 0, false) ∧ 97 + 3 = 100 := by decide +kernel
theorem zi_158_100 : zraw 158 100 = some (.aload_n 0, 1) ∧ 100 + 1 = 101 := by decide +kernel
theorem zi_158_101 : zraw 158 101 = some (.getfield 105, 3) ∧ zft (zinf 158).1 105 = some (10, 44, 3, true) ∧ 101 + 3 = 104 := by decide +kernel
theorem zi_158_104 : zraw 158 104 = some (.iload 7, 2) ∧ 104 + 2 = 106 := by decide +kernel
theorem zi_158_106 : zraw 158 106 = some (.iload_n 1, 1) ∧ 106 + 1 = 107 := by decide +kernel
theorem zi_158_107 : zraw 158 107 = some (.iastore, 1) ∧ 107 + 1 = 108 := by decide +kernel
theorem zi_158_108 : zraw 158 108 = some (.aload_n 0, 1) ∧ 108 + 1 = 109 := by decide +kernel
theorem zi_158_109 : zraw 158 109 = some (.getfield 108, 3) ∧ zft (zinf 158).1 108 = some (10, 45, 3, true) ∧ 109 + 3 = 112 := by decide +kernel
theorem zi_158_112 : zraw 158 112 = some (.iload 7, 2) ∧ 112 + 2 = 114 := by decide +kernel
theorem zi_158_114 : zraw 158 114 = some (.iload_n 2, 1) ∧ 114 + 1 = 115 := by decide +kernel
theorem zi_158_115 : zraw 158 115 = some (.iastore, 1) ∧ 115 + 1 = 116 := by decide +kernel
theorem zi_158_116 : zraw 158 116 = some (.aload_n 0, 1) ∧ 116 + 1 = 117 := by decide +kernel
theorem zi_158_117 : zraw 158 117 = some (.getfield 111, 3) ∧ zft (zinf 158).1 111 = some (10, 46, 3, true) ∧ 117 + 3 = 120 := by decide +kernel
theorem zi_158_120 : zraw 158 120 = some (.iload 7, 2) ∧ 120 + 2 = 122 := by decide +kernel
theorem zi_158_122 : zraw 158 122 = some (.iload_n 3, 1) ∧ 122 + 1 = 123 := by decide +kernel
theorem zi_158_123 : zraw 158 123 = some (.iastore, 1) ∧ 123 + 1 = 124 := by decide +kernel
theorem zi_158_124 : zraw 158 124 = some (.aload_n 0, 1) ∧ 124 + 1 = 125 := by decide +kernel
theorem zi_158_125 : zraw 158 125 = some (.getfield 114, 3) ∧ zft (zinf 158).1 114 = some (10, 47, 3, true) ∧ 125 + 3 = 128 := by decide +kernel
theorem zi_158_128 : zraw 158 128 = some (.iload 7, 2) ∧ 128 + 2 = 130 := by decide +kernel
theorem zi_158_130 : zraw 158 130 = some (.iload 4, 2) ∧ 130 + 2 = 132 := by decide +kernel
theorem zi_158_132 : zraw 158 132 = some (.iastore, 1) ∧ 132 + 1 = 133 := by decide +kernel
theorem zi_158_133 : zraw 158 133 = some (.aload_n 0, 1) ∧ 133 + 1 = 134 := by decide +kernel
theorem zi_158_134 : zraw 158 134 = some (.getfield 102, 3) ∧ zft (zinf 158).1 102 = some (10, 43, 3, true) ∧ 134 + 3 = 137 := by decide +kernel
theorem zi_158_137 : zraw 158 137 = some (.iload 7, 2) ∧ 137 + 2 = 139 := by decide +kernel
theorem zi_158_139 : zraw 158 139 = some (.iload 5, 2) ∧ 139 + 2 = 141 := by decide +kernel
theorem zi_158_141 : zraw 158 141 = some (.bastore, 1) ∧ 141 + 1 = 142 := by decide +kernel
theorem zi_158_142 : zraw 158 142 = some (.aload_n 0, 1) ∧ 142 + 1 = 143 := by decide +kernel
theorem zi_158_143 : zraw 158 143 = some (.getfield 99, 3) ∧ zft (zinf 158).1 99 = some (10, 42, 3, true) ∧ 143 + 3 = 146 := by decide +kernel
theorem zi_158_146 : zraw 158 146 = some (.iload 7, 2) ∧ 146 + 2 = 148 := by decide +kernel
theorem zi_158_148 : zraw 158 148 = some (.iload_n 2, 1) ∧ 148 + 1 = 149 := by decide +kernel
theorem zi_158_149 : zraw 158 149 = some (.bipush 63, 2) ∧ zin 128 63 = true ∧ 149 + 2 = 151 := by decide +kernel
theorem zi_158_151 : zraw 158 151 = some (.if_icmp .ne 10, 3) ∧ ((151 : Nat) : Int) + 10 = Int.ofNat 161 ∧ 151 + 3 = 154 := by decide +kernel
theorem zi_158_154 : zraw 158 154 = some (.iload 7, 2) ∧ 154 + 2 = 156 := by decide +kernel
theorem zi_158_156 : zraw 158 156 = some (.iconst 1, 1) ∧ zin 128 1 = true ∧ 156 + 1 = 157 := by decide +kernel
theorem zi_158_157 : zraw 158 157 = some (.iadd, 1) ∧ 157 + 1 = 158 := by decide +kernel
theorem zi_158_158 : zraw 158 158 = some (.goto 5, 3) ∧ ((158 : Nat) : Int) + 5 = Int.ofNat 163 := by decide +kernel
theorem zi_158_161 : zraw 158 161 = some (.iload 6, 2) ∧ 161 + 2 = 163 := by decide +kernel
theorem zi_158_163 : zraw 158 163 = some (.iastore, 1) ∧ 163 + 1 = 164 := by decide +kernel
theorem zi_158_164 : zraw 158 164 = some (.aload_n 0, 1) ∧ 164 + 1 = 165 := by decide +kernel
theorem zi_158_165 : zraw 158 165 = some (.getfield 96, 3) ∧ zft (zinf 158).1 96 = some (10, 41, 3, true) ∧ 165 + 3 = 168 := by decide +kernel
theorem zi_158_168 : zraw 158 168 = some (.iload 7, 2) ∧ 168 + 2 = 170 := by decide +kernel
theorem zi_158_170 : zraw 158 170 = some (.iconst 0, 1) ∧ zin 128 0 = true ∧ 170 + 1 = 171 := by decide +kernel
theorem zi_158_171 : zraw 158 171 = some (.iastore, 1) ∧ 171 + 1 = 172 := by decide +kernel
theorem zi_158_172 : zraw 158 172 = some (.aload_n 0, 1) ∧ 172 + 1 = 173 := by decide +kernel
theorem zi_158_173 : zraw 158 173 = some (.getfield 87, 3) ∧ zft (zinf 158).1 87 = some (10, 38, 3, true) ∧ 173 + 3 = 176 := by decide +kernel
theorem zi_158_176 : zraw 158 176 = some (.iload 7, 2) ∧ 176 + 2 = 178 := by decide +kernel
theorem zi_158_178 : zraw 158 178 = some (.iconst 0, 1) ∧ zin 128 0 = true ∧ 178 + 1 = 179 := by decide +kernel
theorem zi_158_179 : zraw 158 179 = some (.iastore, 1) ∧ 179 + 1 = 180 := by decide +kernel
theorem zi_158_180 : zraw 158 180 = some (.aload_n 0, 1) ∧ 180 + 1 = 181 := by decide +kernel
theorem zi_158_181 : zraw 158 181 = some (.getfield 90, 3) ∧ zft (zinf 158).1 90 = some (10, 39, 3, true) ∧ 181 + 3 = 184 := by decide +kernel
theorem zi_158_184 : zraw 158 184 = some (.iload 7, 2) ∧ 184 + 2 = 186 := by decide +kernel
theorem zi_158_186 : zraw 158 186 = some (.iconst (-1), 1) ∧ zin 128 (-1) = true ∧ 186 + 1 = 187 := by decide +kernel
theorem zi_158_187 : zraw 158 187 = some (.iastore, 1) ∧ 187 + 1 = 188 := by decide +kernel
theorem zi_158_188 : zraw 158 188 = some (.aload_n 0, 1) ∧ 188 + 1 = 189 := by decide +kernel
theorem zi_158_189 : zraw 158 189 = some (.getfield 93, 3) ∧ zft (zinf 158).1 93 = some (10, 40, 3, true) ∧ 189 + 3 = 192 := by decide +kernel
theorem zi_158_192 : zraw 158 192 = some (.iload 7, 2) ∧ 192 + 2 = 194 := by decide +kernel
theorem zi_158_194 : zraw 158 194 = some (.iload 5, 2) ∧ 194 + 2 = 196 := by decide +kernel
theorem zi_158_196 : zraw 158 196 = some (.ifCond .ne 10, 3) ∧ ((196 : Nat) : Int) + 10 = Int.ofNat 206 ∧ 196 + 3 = 199 := by decide +kernel
theorem zi_158_199 : zraw 158 199 = some (.iload 8, 2) ∧ 199 + 2 = 201 := by decide +kernel
theorem zi_158_201 : zraw 158 201 = some (.bipush 61, 2) ∧ zin 128 61 = true ∧ 201 + 2 = 203 := by decide +kernel
theorem zi_158_203 : zraw 158 203 = some (.if_icmp .ne 7, 3) ∧ ((203 : Nat) : Int) + 7 = Int.ofNat 210 ∧ 203 + 3 = 206 := by decide +kernel
theorem zi_158_206 : zraw 158 206 = some (.iconst (-1), 1) ∧ zin 128 (-1) = true ∧ 206 + 1 = 207 := by decide +kernel
theorem zi_158_207 : zraw 158 207 = some (.goto 7, 3) ∧ ((207 : Nat) : Int) + 7 = Int.ofNat 214 := by decide +kernel
theorem zi_158_210 : zraw 158 210 = some (.aload_n 0, 1) ∧ 210 + 1 = 211 := by decide +kernel
theorem zi_158_211 : zraw 158 211 = some (.getfield 274, 3) ∧ zft (zinf 158).1 274 = some (10, 50, 0, false) ∧ 211 + 3 = 214 := by decide +kernel
theorem zi_158_214 : zraw 158 214 = some (.iastore, 1) ∧ 214 + 1 = 215 := by decide +kernel
theorem zi_158_215 : zraw 158 215 = some (.aload_n 0, 1) ∧ 215 + 1 = 216 := by decide +kernel
theorem zi_158_216 : zraw 158 216 = some (.dup, 1) ∧ 216 + 1 = 217 := by decide +kernel
theorem zi_158_217 : zraw 158 217 = some (.getfield 274, 3) ∧ zft (zinf 158).1 274 = some (10, 50, 0, false) ∧ 217 + 3 = 220 := by decide +kernel
theorem zi_158_220 : zraw 158 220 = some (.iload 5, 2) ∧ 220 + 2 = 222 := by decide +kernel
theorem zi_158_222 : zraw 158 222 = some (.ifCond .ne 10, 3) ∧ ((222 : Nat) : Int) + 10 = Int.ofNat 232 ∧ 222 + 3 = 225 := by decide +kernel
theorem zi_158_225 : zraw 158 225 = some (.iload 8, 2) ∧ 225 + 2 = 227 := by decide +kernel
theorem zi_158_227 : zraw 158 227 = some (.bipush 61, 2) ∧ zin 128 61 = true ∧ 227 + 2 = 229 := by decide +kernel
theorem zi_158_229 : zraw 158 229 = some (.if_icmp .ne 7, 3) ∧ ((229 : Nat) : Int) + 7 = Int.ofNat 236 ∧ 229 + 3 = 232 := by decide +kernel
theorem zi_158_232 : zraw 158 232 = some (.iconst 0, 1) ∧ zin 128 0 = true ∧ 232 + 1 = 233 := by decide +kernel
theorem zi_158_233 : zraw 158 233 = some (.goto 4, 3) ∧ ((233 : Nat) : Int) + 4 = Int.ofNat 237 := by decide +kernel
theorem zi_158_236 : zraw 158 236 = some (.iconst 1, 1) ∧ zin 128 1 = true ∧ 236 + 1 = 237 := by decide +kernel
theorem zi_158_237 : zraw 158 237 = some (.iadd, 1) ∧ 237 + 1 = 238 := by decide +kernel
theorem zi_158_238 : zraw 158 238 = some (.putfield 274, 3) ∧ zft (zinf 158).1 274 = some (10, 50, 0, false) ∧ 238 + 3 = 241 := by decide +kernel
theorem zi_158_241 : zraw 158 241 = some (.aload_n 0, 1) ∧ 241 + 1 = 242 := by decide +kernel
theorem zi_158_242 : zraw 158 242 = some (.getfield 81, 3) ∧ zft (zinf 158).1 81 = some (10, 36, 3, true) ∧ 242 + 3 = 245 := by decide +kernel
theorem zi_158_245 : zraw 158 245 = some (.iload 7, 2) ∧ 245 + 2 = 247 := by decide +kernel
theorem zi_158_247 : zraw 158 247 = some (.iload 8, 2) ∧ 247 + 2 = 249 := by decide +kernel
theorem zi_158_249 : zraw 158 249 = some (.bipush 42, 2) ∧ zin 128 42 = true ∧ 249 + 2 = 251 := by decide +kernel
theorem zi_158_251 : zraw 158 251 = some (.if_icmp .ne 7, 3) ∧ ((251 : Nat) : Int) + 7 = Int.ofNat 258 ∧ 251 + 3 = 254 := by decide +kernel
theorem zi_158_254 : zraw 158 254 = some (.iconst 0, 1) ∧ zin 128 0 = true ∧ 254 + 1 = 255 := by decide +kernel
theorem zi_158_255 : zraw 158 255 = some (.goto 37, 3) ∧ ((255 : Nat) : Int) + 37 = Int.ofNat 292 := by decide +kernel
theorem zi_158_258 : zraw 158 258 = some (.iload 8, 2) ∧ 258 + 2 = 260 := by decide +kernel
theorem zi_158_260 : zraw 158 260 = some (.bipush 33, 2) ∧ zin 128 33 = true ∧ 260 + 2 = 262 := by decide +kernel
theorem zi_158_262 : zraw 158 262 = some (.if_icmp .ne 7, 3) ∧ ((262 : Nat) : Int) + 7 = Int.ofNat 269 ∧ 262 + 3 = 265 := by decide +kernel
theorem zi_158_265 : zraw 158 265 = some (.iconst 2, 1) ∧ zin 128 2 = true ∧ 265 + 1 = 266 := by decide +kernel
theorem zi_158_266 : zraw 158 266 = some (.goto 26, 3) ∧ ((266 : Nat) : Int) + 26 = Int.ofNat 292 := by decide +kernel
theorem zi_158_269 : zraw 158 269 = some (.iload 8, 2) ∧ 269 + 2 = 271 := by decide +kernel
theorem zi_158_271 : zraw 158 271 = some (.bipush 126, 2) ∧ zin 128 126 = true ∧ 271 + 2 = 273 := by decide +kernel
theorem zi_158_273 : zraw 158 273 = some (.if_icmp .ne 7, 3) ∧ ((273 : Nat) : Int) + 7 = Int.ofNat 280 ∧ 273 + 3 = 276 := by decide +kernel
theorem zi_158_276 : zraw 158 276 = some (.iconst 3, 1) ∧ zin 128 3 = true ∧ 276 + 1 = 277 := by decide +kernel
theorem zi_158_277 : zraw 158 277 = some (.goto 15, 3) ∧ ((277 : Nat) : Int) + 15 = Int.ofNat 292 := by decide +kernel
theorem zi_158_280 : zraw 158 280 = some (.iload 8, 2) ∧ 280 + 2 = 282 := by decide +kernel
theorem zi_158_282 : zraw 158 282 = some (.bipush 61, 2) ∧ zin 128 61 = true ∧ 282 + 2 = 284 := by decide +kernel
theorem zi_158_284 : zraw 158 284 = some (.if_icmp .ne 7, 3) ∧ ((284 : Nat) : Int) + 7 = Int.ofNat 291 ∧ 284 + 3 = 287 := by decide +kernel
theorem zi_158_287 : zraw 158 287 = some (.iconst 4, 1) ∧ zin 128 4 = true ∧ 287 + 1 = 288 := by decide +kernel
theorem zi_158_288 : zraw 158 288 = some (.goto 4, 3) ∧ ((288 : Nat) : Int) + 4 = Int.ofNat 292 := by decide +kernel
theorem zi_158_291 : zraw 158 291 = some (.iconst 1, 1) ∧ zin 128 1 = true ∧ 291 + 1 = 292 := by decide +kernel
theorem zi_158_292 : zraw 158 292 = some (.iastore, 1) ∧ 292 + 1 = 293 := by decide +kernel
theorem zi_158_293 : zraw 158 293 = some (.aload_n 0, 1) ∧ 293 + 1 = 294 := by decide +kernel
theorem zi_158_294 : zraw 158 294 = some (.dup, 1) ∧ 294 + 1 = 295 := by decide +kernel
theorem zi_158_295 : zraw 158 295 = some (.getfield 212, 3) ∧ zft (zinf 158).1 212 = some (10, 2, 0, false) ∧ 295 + 3 = 298 := by decide +kernel
theorem zi_158_298 : zraw 158 298 = some (.iload 8, 2) ∧ 298 + 2 = 300 := by decide +kernel
theorem zi_158_300 : zraw 158 300 = some (.invokestatic 245, 3) ∧ zmt (zinf 158).1 245 = some 147 ∧ Nat.ble 9000 147 = false ∧ zinf 147 = (10, 1, 1, 2, 1) ∧ 300 + 3 = 303 := by decide +kernel
theorem zi_158_303 : zraw 158 303 = some (.ifCond .eq 7, 3) ∧ ((303 : Nat) : Int) + 7 = Int.ofNat 310 ∧ 303 + 3 = 306 := by decide +kernel
theorem zi_158_306 : zraw 158 306 = some (.iconst 0, 1) ∧ zin 128 0 = true ∧ 306 + 1 = 307 := by decide +kernel
theorem zi_158_307 : zraw 158 307 = some (.goto 4, 3) ∧ ((307 : Nat) : Int) + 4 = Int.ofNat 311 := by decide +kernel
theorem zi_158_310 : zraw 158 310 = some (.iconst 1, 1) ∧ zin 128 1 = true ∧ 310 + 1 = 311 := by decide +kernel
theorem zi_158_311 : zraw 158 311 = some (.iadd, 1) ∧ 311 + 1 = 312 := by decide +kernel
theorem zi_158_312 : zraw 158 312 = some (.putfield 212, 3) ∧ zft (zinf 158).1 212 = some (10, 2, 0, false) ∧ 312 + 3 = 315 := by decide +kernel
theorem zi_158_315 : zraw 158 315 = some (.iload 8, 2) ∧ 315 + 2 = 317 := by decide +kernel
theorem zi_158_317 : zraw 158 317 = some (.bipush 126, 2) ∧ zin 128 126 = true ∧ 317 + 2 = 319 := by decide +kernel
theorem zi_158_319 : zraw 158 319 = some (.if_icmp .eq 10, 3) ∧ ((319 : Nat) : Int) + 10 = Int.ofNat 329 ∧ 319 + 3 = 322 := by decide +kernel
theorem zi_158_322 : zraw 158 322 = some (.iload 8, 2) ∧ 322 + 2 = 324 := by decide +kernel
theorem zi_158_324 : zraw 158 324 = some (.bipush 61, 2) ∧ zin 128 61 = true ∧ 324 + 2 = 326 := by decide +kernel
theorem zi_158_326 : zraw 158 326 = some (.if_icmp .ne 47, 3) ∧ ((326 : Nat) : Int) + 47 = Int.ofNat 373 ∧ 326 + 3 = 329 := by decide +kernel
theorem zi_158_329 : zraw 158 329 = some (.aload_n 0, 1) ∧ 329 + 1 = 330 := by decide +kernel
theorem zi_158_330 : zraw 158 330 = some (.invokevirtual 281, 3) ∧ zmt (zinf 158).1 281 = some 154 ∧ Nat.ble 9000 154 = false ∧ zinf 154 = (10, 1, 1, 2, 0) ∧ 330 + 3 = 333 := by decide +kernel
theorem zi_158_333 : zraw 158 333 = some (.ifCond .ne 5, 3) ∧ ((333 : Nat) : Int) + 5 = Int.ofNat 338 ∧ 333 + 3 = 336 := by decide +kernel
theorem zi_158_336 : zraw 158 336 = some (.iconst 0, 1) ∧ zin 128 0 = true ∧ 336 + 1 = 337 := by decide +kernel
theorem zi_158_337 : zraw 158 337 = some (.ireturn, 1) ∧ (zinf 158).2.2.2.1 = 2 := by decide +kernel
theorem zi_158_338 : zraw 158 338 = some (.aload_n 0, 1) ∧ 338 + 1 = 339 := by decide +kernel
theorem zi_158_339 : zraw 158 339 = some (.getfield 90, 3) ∧ zft (zinf 158).1 90 = some (10, 39, 3, true) ∧ 339 + 3 = 342 := by decide +kernel
theorem zi_158_342 : zraw 158 342 = some (.iload 7, 2) ∧ 342 + 2 = 344 := by decide +kernel
theorem zi_158_344 : zraw 158 344 = some (.aload_n 0, 1) ∧ 344 + 1 = 345 := by decide +kernel
theorem zi_158_345 : zraw 158 345 = some (.aload_n 0, 1) ∧ 345 + 1 = 346 := by decide +kernel
theorem zi_158_346 : zraw 158 346 = some (.getfield 238, 3) ∧ zft (zinf 158).1 238 = some (10, 3, 2, false) ∧ 346 + 3 = 349 := by decide +kernel
theorem zi_158_349 : zraw 158 349 = some (.invokevirtual 284, 3) ∧ zmt (zinf 158).1 284 = some 155 ∧ Nat.ble 9000 155 = false ∧ zinf 155 = (10, 2, 5, 1, 0) ∧ 349 + 3 = 352 := by decide +kernel
theorem zi_158_352 : zraw 158 352 = some (.iastore, 1) ∧ 352 + 1 = 353 := by decide +kernel
theorem zi_158_353 : zraw 158 353 = some (.aload_n 0, 1) ∧ 353 + 1 = 354 := by decide +kernel
theorem zi_158_354 : zraw 158 354 = some (.getfield 90, 3) ∧ zft (zinf 158).1 90 = some (10, 39, 3, true) ∧ 354 + 3 = 357 := by decide +kernel
theorem zi_158_357 : zraw 158 357 = some (.iload 7, 2) ∧ 357 + 2 = 359 := by decide +kernel
theorem zi_158_359 : zraw 158 359 = some (.iaload, 1) ∧ 359 + 1 = 360 := by decide +kernel
theorem zi_158_360 : zraw 158 360 = some (.ifCond .ge 31, 3) ∧ ((360 : Nat) : Int) + 31 = Int.ofNat 391 ∧ 360 + 3 = 363 := by decide +kernel
theorem zi_158_363 : zraw 158 363 = some (.aload_n 0, 1) ∧ 363 + 1 = 364 := by decide +kernel
theorem zi_158_364 : zraw 158 364 = some (.iconst 4, 1) ∧ zin 128 4 = true ∧ 364 + 1 = 365 := by decide +kernel
theorem zi_158_365 : zraw 158 365 = some (.aload_n 0, 1) ∧ 365 + 1 = 366 := by decide +kernel
theorem zi_158_366 : zraw 158 366 = some (.getfield 235, 3) ∧ zft (zinf 158).1 235 = some (10, 5, 0, false) ∧ 366 + 3 = 369 := by decide +kernel
theorem zi_158_369 : zraw 158 369 = some (.invokevirtual 252, 3) ∧ zmt (zinf 158).1 252 = some 148 ∧ Nat.ble 9000 148 = false ∧ zinf 148 = (10, 3, 3, 2, 0) ∧ 369 + 3 = 372 := by decide +kernel
theorem zi_158_372 : zraw 158 372 = some (.ireturn, 1) ∧ (zinf 158).2.2.2.1 = 2 := by decide +kernel
theorem zi_158_373 : zraw 158 373 = some (.iload 8, 2) ∧ 373 + 2 = 375 := by decide +kernel
theorem zi_158_375 : zraw 158 375 = some (.bipush 42, 2) ∧ zin 128 42 = true ∧ 375 + 2 = 377 := by decide +kernel
theorem zi_158_377 : zraw 158 377 = some (.if_icmp .eq 14, 3) ∧ ((377 : Nat) : Int) + 14 = Int.ofNat 391 ∧ 377 + 3 = 380 := by decide +kernel
theorem zi_158_380 : zraw 158 380 = some (.aload_n 0, 1) ∧ 380 + 1 = 381 := by decide +kernel
theorem zi_158_381 : zraw 158 381 = some (.iload 7, 2) ∧ 381 + 2 = 383 := by decide +kernel
theorem zi_158_383 : zraw 158 383 = some (.invokevirtual 288, 3) ∧ zmt (zinf 158).1 288 = some 156 ∧ Nat.ble 9000 156 = false ∧ zinf 156 = (10, 2, 3, 2, 0) ∧ 383 + 3 = 386 := by decide +kernel
theorem zi_158_386 : zraw 158 386 = some (.ifCond .ne 5, 3) ∧ ((386 : Nat) : Int) + 5 = Int.ofNat 391 ∧ 386 + 3 = 389 := by decide +kernel
theorem zi_158_389 : zraw 158 389 = some (.iconst 0, 1) ∧ zin 128 0 = true ∧ 389 + 1 = 390 := by decide +kernel
theorem zi_158_390 : zraw 158 390 = some (.ireturn, 1) ∧ (zinf 158).2.2.2.1 = 2 := by decide +kernel
theorem zi_158_391 : zraw 158 391 = some (.iload 8, 2) ∧ 391 + 2 = 393 := by decide +kernel
theorem zi_158_393 : zraw 158 393 = some (.bipush 61, 2) ∧ zin 128 61 = true ∧ 393 + 2 = 395 := by decide +kernel
theorem zi_158_395 : zraw 158 395 = some (.if_icmp .eq 65, 3) ∧ ((395 : Nat) : Int) + 65 = Int.ofNat 460 ∧ 395 + 3 = 398 := by decide +kernel
theorem zi_158_398 : zraw 158 398 = some (.aload_n 0, 1) ∧ 398 + 1 = 399 := by decide +kernel
theorem zi_158_399 : zraw 158 399 = some (.invokevirtual 256, 3) ∧ zmt (zinf 158).1 256 = some 149 ∧ Nat.ble 9000 149 = false ∧ zinf 149 = (10, 1, 1, 1, 0) ∧ 399 + 3 = 402 := by decide +kernel
theorem zi_158_402 : zraw 158 402 = some (.bipush 61, 2) ∧ zin 128 61 = true ∧ 402 + 2 = 404 := by decide +kernel
theorem zi_158_404 : zraw 158 404 = some (.if_icmp .ne 56, 3) ∧ ((404 : Nat) : Int) + 56 = Int.ofNat 460 ∧ 404 + 3 = 407 := by decide +kernel
theorem zi_158_407 : zraw 158 407 = some (.aload_n 0, 1) ∧ 407 + 1 = 408 := by decide +kernel
theorem zi_158_408 : zraw 158 408 = some (.dup, 1) ∧ 408 + 1 = 409 := by decide +kernel
theorem zi_158_409 : zraw 158 409 = some (.getfield 212, 3) ∧ zft (zinf 158).1 212 = some (10, 2, 0, false) ∧ 409 + 3 = 412 := by decide +kernel
theorem zi_158_412 : zraw 158 412 = some (.iconst 1, 1) ∧ zin 128 1 = true ∧ 412 + 1 = 413 := by decide +kernel
theorem zi_158_413 : zraw 158 413 = some (.iadd, 1) ∧ 413 + 1 = 414 := by decide +kernel
theorem zi_158_414 : zraw 158 414 = some (.putfield 212, 3) ∧ zft (zinf 158).1 212 = some (10, 2, 0, false) ∧ 414 + 3 = 417 := by decide +kernel
theorem zi_158_417 : zraw 158 417 = some (.aload_n 0, 1) ∧ 417 + 1 = 418 := by decide +kernel
theorem zi_158_418 : zraw 158 418 = some (.invokevirtual 281, 3) ∧ zmt (zinf 158).1 281 = some 154 ∧ Nat.ble 9000 154 = false ∧ zinf 154 = (10, 1, 1, 2, 0) ∧ 418 + 3 = 421 := by decide +kernel
theorem zi_158_421 : zraw 158 421 = some (.ifCond .ne 5, 3) ∧ ((421 : Nat) : Int) + 5 = Int.ofNat 426 ∧ 421 + 3 = 424 := by decide +kernel
theorem zi_158_424 : zraw 158 424 = some (.iconst 0, 1) ∧ zin 128 0 = true ∧ 424 + 1 = 425 := by decide +kernel
theorem zi_158_425 : zraw 158 425 = some (.ireturn, 1) ∧ (zinf 158).2.2.2.1 = 2 := by decide +kernel
theorem zi_158_426 : zraw 158 426 = some (.aload_n 0, 1) ∧ 426 + 1 = 427 := by decide +kernel
theorem zi_158_427 : zraw 158 427 = some (.aload_n 0, 1) ∧ 427 + 1 = 428 := by decide +kernel
theorem zi_158_428 : zraw 158 428 = some (.getfield 238, 3) ∧ zft (zinf 158).1 238 = some (10, 3, 2, false) ∧ 428 + 3 = 431 := by decide +kernel
theorem zi_158_431 : zraw 158 431 = some (.invokevirtual 284, 3) ∧ zmt (zinf 158).1 284 = some 155 ∧ Nat.ble 9000 155 = false ∧ zinf 155 = (10, 2, 5, 1, 0) ∧ 431 + 3 = 434 := by decide +kernel
theorem zi_158_434 : zraw 158 434 = some (.iconst (-1), 1) ∧ zin 128 (-1) = true ∧ 434 + 1 = 435 := by decide +kernel
theorem zi_158_435 : zraw 158 435 = some (.if_icmp .eq 13, 3) ∧ ((435 : Nat) : Int) + 13 = Int.ofNat 448 ∧ 435 + 3 = 438 := by decide +kernel
theorem zi_158_438 : zraw 158 438 = some (.aload_n 0, 1) ∧ 438 + 1 = 439 := by decide +kernel
theorem zi_158_439 : zraw 158 439 = some (.iconst 4, 1) ∧ zin 128 4 = true ∧ 439 + 1 = 440 := by decide +kernel
theorem zi_158_440 : zraw 158 440 = some (.aload_n 0, 1) ∧ 440 + 1 = 441 := by decide +kernel
theorem zi_158_441 : zraw 158 441 = some (.getfield 235, 3) ∧ zft (zinf 158).1 235 = some (10, 5, 0, false) ∧ 441 + 3 = 444 := by decide +kernel
theorem zi_158_444 : zraw 158 444 = some (.invokevirtual 252, 3) ∧ zmt (zinf 158).1 252 = some 148 ∧ Nat.ble 9000 148 = false ∧ zinf 148 = (10, 3, 3, 2, 0) ∧ 444 + 3 = 447 := by decide +kernel
theorem zi_158_447 : zraw 158 447 = some (.ireturn, 1) ∧ (zinf 158).2.2.2.1 = 2 := by decide +kernel
theorem zi_158_448 : zraw 158 448 = some (.aload_n 0, 1) ∧ 448 + 1 = 449 := by decide +kernel
theorem zi_158_449 : zraw 158 449 = some (.getfield 96, 3) ∧ zft (zinf 158).1 96 = some (10, 41, 3, true) ∧ 449 + 3 = 452 := by decide +kernel
theorem zi_158_452 : zraw 158 452 = some (.iload 7, 2) ∧ 452 + 2 = 454 := by decide +kernel
theorem zi_158_454 : zraw 158 454 = some (.aload_n 0, 1) ∧ 454 + 1 = 455 := by decide +kernel
theorem zi_158_455 : zraw 158 455 = some (.getfield 238, 3) ∧ zft (zinf 158).1 238 = some (10, 3, 2, false) ∧ 455 + 3 = 458 := by decide +kernel
theorem zi_158_458 : zraw 158 458 = some (.l2i, 1) ∧ 458 + 1 = 459 := by decide +kernel
theorem zi_158_459 : zraw 158 459 = some (.iastore, 1) ∧ 459 + 1 = 460 := by decide +kernel
theorem zi_158_460 : zraw 158 460 = some (.iconst 1, 1) ∧ zin 128 1 = true ∧ 460 + 1 = 461 := by decide +kernel
theorem zi_158_461 : zraw 158 461 = some (.ireturn, 1) ∧ (zinf 158).2.2.2.1 = 2 := by decide +kernel
theorem ze_158 {K : List zF} {σ : zW} {x1 : Int} {x2 : Int} {x3 : Int} {x4 : Int} (hK : K.length < 60) : zEv true (zent 158 [.inr (.inr 122), .inl x1, .inl x2, .inl x3, .inl x4] :: K) σ = (if x2 = 33 then if x1 = (-1) then zEv true (zent 157 [.inr (.inr 122), .inl 1] :: (158, 73, [some (.inr (.inr 122)), some (.inl x1), some (.inl x2), some (.inl x3), some (.inl x4), some (.inl 1), some (.inl 0), none, none], []) :: K) σ else if (1 : Int) = 0 then zEv true ((158, 59, [some (.inr (.inr 122)), some (.inl x1), some (.inl x2), some (.inl x3), some (.inl x4), some (.inl 1), none, none, none], []) :: K) σ else (0 ≤ x1 ∧ x1 < 8) ∧ (if ¬ (gI σ 153 x1.toNat) = 0 then zEv true ((158, 59, [some (.inr (.inr 122)), some (.inl x1), some (.inl x2), some (.inl x3), some (.inl x4), some (.inl 1), none, none, none], []) :: K) σ else (0 ≤ x1 ∧ x1 < 8) ∧ (if ¬ (gI σ 152 x1.toNat) = 0 then zEv true ((158, 59, [some (.inr (.inr 122)), some (.inl x1), some (.inl x2), some (.inl x3), some (.inl x4), some (.inl 1), none, none, none], []) :: K) σ else zEv true (zent 157 [.inr (.inr 122), .inl 1] :: (158, 73, [some (.inr (.inr 122)), some (.inl x1), some (.inl x2), some (.inl x3), some (.inl x4), some (.inl 1), some (.inl 0), none, none], []) :: K) σ)) else if x1 = (-1) then zEv true ((158, 24, [some (.inr (.inr 122)), some (.inl x1), some (.inl x2), some (.inl x3), some (.inl x4), none, none, none, none], []) :: K) σ else (0 ≤ x1 ∧ x1 < 8) ∧ (if (gI σ 153 x1.toNat) = 0 then zEv true ((158, 24, [some (.inr (.inr 122)), some (.inl x1), some (.inl x2), some (.inl x3), some (.inl x4), none, none, none, none], []) :: K) σ else if x1 = (-1) then zEv true (zent 157 [.inr (.inr 122), .inl 1] :: (158, 73, [some (.inr (.inr 122)), some (.inl x1), some (.inl x2), some (.inl x3), some (.inl x4), some (.inl 1), some (.inl 0), none, none], []) :: K) σ else if (1 : Int) = 0 then zEv true ((158, 59, [some (.inr (.inr 122)), some (.inl x1), some (.inl x2), some (.inl x3), some (.inl x4), some (.inl 1), none, none, none], []) :: K) σ else (0 ≤ x1 ∧ x1 < 8) ∧ (if ¬ (gI σ 153 x1.toNat) = 0 then zEv true ((158, 59, [some (.inr (.inr 122)), some (.inl x1), some (.inl x2), some (.inl x3), some (.inl x4), some (.inl 1), none, none, none], []) :: K) σ else (0 ≤ x1 ∧ x1 < 8) ∧ (if ¬ (gI σ 152 x1.toNat) = 0 then zEv true ((158, 59, [some (.inr (.inr 122)), some (.inl x1), some (.inl x2), some (.inl x3), some (.inl x4), some (.inl 1), none, none, none], []) :: K) σ else zEv true (zent 157 [.inr (.inr 122), .inl 1] :: (158, 73, [some (.inr (.inr 122)), some (.inl x1), some (.inl x2), some (.inl x3), some (.inl x4), some (.inl 1), some (.inl 0), none, none], []) :: K) σ)))) :=
  yT_en (f := (158, 0, [some (.inr (.inr 122)), some (.inl x1), some (.inl x2), some (.inl x3), some (.inl x4), none, none, none, none], [])) rfl (yI_iload_n zi_158_0 rfl <| yI_bipush zi_158_1 <| yI_ic_eq zi_158_3 <| yBr (yI_iconst zi_158_20 <| yI_goto zi_158_21 <| yI_istore (l := [some (.inr (.inr 122)), some (.inl x1), some (.inl x2), some (.inl x3), some (.inl x4), some (.inl 1), none, none, none]) zi_158_25 rfl rfl <| yI_iload_n zi_158_27 rfl <| yI_iconst zi_158_28 <| yI_ic_eq zi_158_29 <| yBr (yI_iconst zi_158_55 <| yI_goto zi_158_56 <| yI_istore (l := [some (.inr (.inr 122)), some (.inl x1), some (.inl x2), some (.inl x3), some (.inl x4), some (.inl 1), some (.inl 0), none, none]) zi_158_65 rfl rfl <| yI_aload_n zi_158_67 rfl <| yI_iload zi_158_68 rfl <| yI_cv zi_158_70 rfl rfl zk_122 hK) (yI_iload zi_158_32 rfl <| yI_if_eq zi_158_34 <| yBr (rfl) (yI_aload_n zi_158_37 rfl <| yI_gf_f (v := 153) zi_158_38 zk_122 rfl <| yI_iload_n zi_158_41 rfl <| yI_baloadc (v := gI σ 153 x1.toNat) zi_158_42 za_153 rfl <| yI_if_ne zi_158_43 <| yBr (rfl) (yI_aload_n zi_158_46 rfl <| yI_gf_f (v := 152) zi_158_47 zk_122 rfl <| yI_iload_n zi_158_50 rfl <| yI_ialoadc (v := gI σ 152 x1.toNat) zi_158_51 za_152 rfl <| yI_if_ne zi_158_52 <| yBr (rfl) (yI_iconst zi_158_55 <| yI_goto zi_158_56 <| yI_istore (l := [some (.inr (.inr 122)), some (.inl x1), some (.inl x2), some (.inl x3), some (.inl x4), some (.inl 1), some (.inl 0), none, none]) zi_158_65 rfl rfl <| yI_aload_n zi_158_67 rfl <| yI_iload zi_158_68 rfl <| yI_cv zi_158_70 rfl rfl zk_122 hK))))) (yI_iload_n zi_158_6 rfl <| yI_iconst zi_158_7 <| yI_ic_eq zi_158_8 <| yBr (rfl) (yI_aload_n zi_158_11 rfl <| yI_gf_f (v := 153) zi_158_12 zk_122 rfl <| yI_iload_n zi_158_15 rfl <| yI_baloadc (v := gI σ 153 x1.toNat) zi_158_16 za_153 rfl <| yI_if_eq zi_158_17 <| yBr (rfl) (yI_iconst zi_158_20 <| yI_goto zi_158_21 <| yI_istore (l := [some (.inr (.inr 122)), some (.inl x1), some (.inl x2), some (.inl x3), some (.inl x4), some (.inl 1), none, none, none]) zi_158_25 rfl rfl <| yI_iload_n zi_158_27 rfl <| yI_iconst zi_158_28 <| yI_ic_eq zi_158_29 <| yBr (yI_iconst zi_158_55 <| yI_goto zi_158_56 <| yI_istore (l := [some (.inr (.inr 122)), some (.inl x1), some (.inl x2), some (.inl x3), some (.inl x4), some (.inl 1), some (.inl 0), none, none]) zi_158_65 rfl rfl <| yI_aload_n zi_158_67 rfl <| yI_iload zi_158_68 rfl <| yI_cv zi_158_70 rfl rfl zk_122 hK) (yI_iload zi_158_32 rfl <| yI_if_eq zi_158_34 <| yBr (rfl) (yI_aload_n zi_158_37 rfl <| yI_gf_f (v := 153) zi_158_38 zk_122 rfl <| yI_iload_n zi_158_41 rfl <| yI_baloadc (v := gI σ 153 x1.toNat) zi_158_42 za_153 rfl <| yI_if_ne zi_158_43 <| yBr (rfl) (yI_aload_n zi_158_46 rfl <| yI_gf_f (v := 152) zi_158_47 zk_122 rfl <| yI_iload_n zi_158_50 rfl <| yI_ialoadc (v := gI σ 152 x1.toNat) zi_158_51 za_152 rfl <| yI_if_ne zi_158_52 <| yBr (rfl) (yI_iconst zi_158_55 <| yI_goto zi_158_56 <| yI_istore (l := [some (.inr (.inr 122)), some (.inl x1), some (.inl x2), some (.inl x3), some (.inl x4), some (.inl 1), some (.inl 0), none, none]) zi_158_65 rfl rfl <| yI_aload_n zi_158_67 rfl <| yI_iload zi_158_68 rfl <| yI_cv zi_158_70 rfl rfl zk_122 hK))))))))
theorem zj_158_24 {K : List zF} {σ : zW} {x1 : Int} {x2 : Int} {x3 : Int} {x4 : Int} {o5 : Option zV} {o6 : Option zV} {o7 : Option zV} {o8 : Option zV} (hK : K.length < 60) : zEv true ((158, 24, [some (.inr (.inr 122)), some (.inl x1), some (.inl x2), some (.inl x3), some (.inl x4), o5, o6, o7, o8], []) :: K) σ = (if x1 = (-1) then zEv true (zent 157 [.inr (.inr 122), .inl 0] :: (158, 73, [some (.inr (.inr 122)), some (.inl x1), some (.inl x2), some (.inl x3), some (.inl x4), some (.inl 0), some (.inl 0), o7, o8], []) :: K) σ else if (0 : Int) = 0 then zEv true ((158, 59, [some (.inr (.inr 122)), some (.inl x1), some (.inl x2), some (.inl x3), some (.inl x4), some (.inl 0), o6, o7, o8], []) :: K) σ else (0 ≤ x1 ∧ x1 < 8) ∧ (if ¬ (gI σ 153 x1.toNat) = 0 then zEv true ((158, 59, [some (.inr (.inr 122)), some (.inl x1), some (.inl x2), some (.inl x3), some (.inl x4), some (.inl 0), o6, o7, o8], []) :: K) σ else (0 ≤ x1 ∧ x1 < 8) ∧ (if ¬ (gI σ 152 x1.toNat) = 0 then zEv true ((158, 59, [some (.inr (.inr 122)), some (.inl x1), some (.inl x2), some (.inl x3), some (.inl x4), some (.inl 0), o6, o7, o8], []) :: K) σ else zEv true (zent 157 [.inr (.inr 122), .inl 0] :: (158, 73, [some (.inr (.inr 122)), some (.inl x1), some (.inl x2), some (.inl x3), some (.inl x4), some (.inl 0), some (.inl 0), o7, o8], []) :: K) σ))) :=
  yI_iconst zi_158_24 <| yI_istore (l := [some (.inr (.inr 122)), some (.inl x1), some (.inl x2), some (.inl x3), some (.inl x4), some (.inl 0), o6, o7, o8]) zi_158_25 rfl rfl <| yI_iload_n zi_158_27 rfl <| yI_iconst zi_158_28 <| yI_ic_eq zi_158_29 <| yBr (yI_iconst zi_158_55 <| yI_goto zi_158_56 <| yI_istore (l := [some (.inr (.inr 122)), some (.inl x1), some (.inl x2), some (.inl x3), some (.inl x4), some (.inl 0), some (.inl 0), o7, o8]) zi_158_65 rfl rfl <| yI_aload_n zi_158_67 rfl <| yI_iload zi_158_68 rfl <| yI_cv zi_158_70 rfl rfl zk_122 hK) (yI_iload zi_158_32 rfl <| yI_if_eq zi_158_34 <| yBr (rfl) (yI_aload_n zi_158_37 rfl <| yI_gf_f (v := 153) zi_158_38 zk_122 rfl <| yI_iload_n zi_158_41 rfl <| yI_baloadc (v := gI σ 153 x1.toNat) zi_158_42 za_153 rfl <| yI_if_ne zi_158_43 <| yBr (rfl) (yI_aload_n zi_158_46 rfl <| yI_gf_f (v := 152) zi_158_47 zk_122 rfl <| yI_iload_n zi_158_50 rfl <| yI_ialoadc (v := gI σ 152 x1.toNat) zi_158_51 za_152 rfl <| yI_if_ne zi_158_52 <| yBr (rfl) (yI_iconst zi_158_55 <| yI_goto zi_158_56 <| yI_istore (l := [some (.inr (.inr 122)), some (.inl x1), some (.inl x2), some (.inl x3), some (.inl x4), some (.inl 0), some (.inl 0), o7, o8]) zi_158_65 rfl rfl <| yI_aload_n zi_158_67 rfl <| yI_iload zi_158_68 rfl <| yI_cv zi_158_70 rfl rfl zk_122 hK))))
theorem zj_158_59 {K : List zF} {σ : zW} {x1 : Int} {x2 : Int} {x3 : Int} {x4 : Int} {x5 : Int} {o6 : Option zV} {o7 : Option zV} {o8 : Option zV} (hK : K.length < 60) : zEv true ((158, 59, [some (.inr (.inr 122)), some (.inl x1), some (.inl x2), some (.inl x3), some (.inl x4), some (.inl x5), o6, o7, o8], []) :: K) σ = ((0 ≤ x1 ∧ x1 < 8) ∧ zEv true (zent 157 [.inr (.inr 122), .inl x5] :: (158, 73, [some (.inr (.inr 122)), some (.inl x1), some (.inl x2), some (.inl x3), some (.inl x4), some (.inl x5), some (.inl (gI σ 152 x1.toNat)), o7, o8], []) :: K) σ) :=
  yI_aload_n zi_158_59 rfl <| yI_gf_f (v := 152) zi_158_60 zk_122 rfl <| yI_iload_n zi_158_63 rfl <| yI_ialoadc (v := gI σ 152 x1.toNat) zi_158_64 za_152 rfl <| yI_istore (l := [some (.inr (.inr 122)), some (.inl x1), some (.inl x2), some (.inl x3), some (.inl x4), some (.inl x5), some (.inl (gI σ 152 x1.toNat)), o7, o8]) zi_158_65 rfl rfl <| yI_aload_n zi_158_67 rfl <| yI_iload zi_158_68 rfl <| yI_cv zi_158_70 rfl rfl zk_122 hK
theorem zr_158_73 {K : List zF} {σ : zW} {x1 : Int} {x2 : Int} {x3 : Int} {x4 : Int} {x5 : Int} {x6 : Int} {o7 : Option zV} {o8 : Option zV} {v : Int} (hK : K.length < 60) : zRet true ((158, 73, [some (.inr (.inr 122)), some (.inl x1), some (.inl x2), some (.inl x3), some (.inl x4), some (.inl x5), some (.inl x6), o7, o8], []) :: K) (some (.inl v)) σ = (if ¬ v = 0 then zEv true (zent 144 [.inr (.inr 122)] :: (158, 88, [some (.inr (.inr 122)), some (.inl x1), some (.inl x2), some (.inl x3), some (.inl x4), some (.inl x5), some (.inl x6), some (.inl (gI σ 122 35)), o8], []) :: K) σ else zRet true K (some (.inl 0)) σ) :=
  yT_rt (yI_if_ne zi_158_73 <| yBr (yI_aload_n zi_158_78 rfl <| yI_gf_i (v := gI σ 122 35) zi_158_79 zk_122 rfl <| yI_istore (l := [some (.inr (.inr 122)), some (.inl x1), some (.inl x2), some (.inl x3), some (.inl x4), some (.inl x5), some (.inl x6), some (.inl (gI σ 122 35)), o8]) zi_158_82 rfl rfl <| yI_aload_n zi_158_84 rfl <| yI_cv zi_158_85 rfl rfl zk_122 hK) (yI_iconst zi_158_76 <| yI_zreturn zi_158_77 (by decide)))
theorem zr_158_88 {K : List zF} {σ : zW} {x1 : Int} {x2 : Int} {x3 : Int} {x4 : Int} {x5 : Int} {x6 : Int} {x7 : Int} {o8 : Option zV} {v : Int} (hK : K.length < 60) : zRet true ((158, 88, [some (.inr (.inr 122)), some (.inl x1), some (.inl x2), some (.inl x3), some (.inl x4), some (.inl x5), some (.inl x6), some (.inl x7), o8], []) :: K) (some (.inl v)) σ = ((0 ≤ x7 ∧ x7 < 8) ∧ ((0 ≤ x7 ∧ x7 < 8) ∧ ((0 ≤ x7 ∧ x7 < 8) ∧ ((0 ≤ x7 ∧ x7 < 8) ∧ (((0 ≤ x7 ∧ x7 < 8) ∧ (x5 = 0 ∨ x5 = 1)) ∧ ((0 ≤ x7 ∧ x7 < 8) ∧ ((0 ≤ x7 ∧ x7 < 8) ∧ ((0 ≤ x7 ∧ x7 < 8) ∧ ((0 ≤ x7 ∧ x7 < 8) ∧ ((0 ≤ x7 ∧ x7 < 8) ∧ ((0 ≤ x7 ∧ x7 < 8) ∧ zEv true (zent 147 [.inl v] :: (158, 303, [some (.inr (.inr 122)), some (.inl x1), some (.inl x2), some (.inl x3), some (.inl x4), some (.inl x5), some (.inl x6), some (.inl x7), some (.inl v)], [.inl (gI σ 122 2), .inr (.inr 122)]) :: K) (sI (sI (sI (sI (sI (sI (sI (sI (sI (sI (sI (sI (sI σ 122 35 (w32 ((gI σ 122 35) + 1))) 154 x7.toNat x1) 155 x7.toNat x2) 156 x7.toNat x3) 157 x7.toNat x4) 153 x7.toNat x5) 152 x7.toNat (if ¬ x2 = 63 then x6 else w32 (x7 + 1) : Int)) 151 x7.toNat 0) 148 x7.toNat 0) 149 x7.toNat (-1)) 150 x7.toNat (if ¬ x5 = 0 then (-1) else (if ¬ v = 61 then gI σ 122 50 else (-1) : Int) : Int)) 122 50 (w32 ((gI σ 122 50) + (if ¬ x5 = 0 then 0 else (if ¬ v = 61 then 1 else 0 : Int) : Int)))) 146 x7.toNat (if ¬ v = 42 then (if ¬ v = 33 then (if ¬ v = 126 then (if ¬ v = 61 then 1 else 4 : Int) else 3 : Int) else 2 : Int) else 0 : Int))))))))))))) :=
  yT_rt (yI_istore (l := [some (.inr (.inr 122)), some (.inl x1), some (.inl x2), some (.inl x3), some (.inl x4), some (.inl x5), some (.inl x6), some (.inl x7), some (.inl v)]) zi_158_88 rfl rfl <| yI_aload_n zi_158_90 rfl <| yI_dup_r zi_158_91 <| yI_gf_i (v := gI σ 122 35) zi_158_92 zk_122 rfl <| yI_iconst zi_158_95 <| yI_iadd zi_158_96 <| yI_pf_i zi_158_97 zk_122 <| yI_aload_n zi_158_100 rfl <| yI_gf_f (v := 154) zi_158_101 zk_122 rfl <| yI_iload zi_158_104 rfl <| yI_iload_n zi_158_106 rfl <| yI_iastorec zi_158_107 za_154 <| yI_aload_n zi_158_108 rfl <| yI_gf_f (v := 155) zi_158_109 zk_122 rfl <| yI_iload zi_158_112 rfl <| yI_iload_n zi_158_114 rfl <| yI_iastorec zi_158_115 za_155 <| yI_aload_n zi_158_116 rfl <| yI_gf_f (v := 156) zi_158_117 zk_122 rfl <| yI_iload zi_158_120 rfl <| yI_iload_n zi_158_122 rfl <| yI_iastorec zi_158_123 za_156 <| yI_aload_n zi_158_124 rfl <| yI_gf_f (v := 157) zi_158_125 zk_122 rfl <| yI_iload zi_158_128 rfl <| yI_iload zi_158_130 rfl <| yI_iastorec zi_158_132 za_157 <| yI_aload_n zi_158_133 rfl <| yI_gf_f (v := 153) zi_158_134 zk_122 rfl <| yI_iload zi_158_137 rfl <| yI_iload zi_158_139 rfl <| yI_bastoreb zi_158_141 za_153 <| yI_aload_n zi_158_142 rfl <| yI_gf_f (v := 152) zi_158_143 zk_122 rfl <| yI_iload zi_158_146 rfl <| yI_iload_n zi_158_148 rfl <| yI_bipush zi_158_149 <| yI_ic_ne zi_158_151 <| yMi0 (j := 163) (ls2 := [some (.inr (.inr 122)), some (.inl x1), some (.inl x2), some (.inl x3), some (.inl x4), some (.inl x5), some (.inl x6), some (.inl x7), some (.inl v)]) (st2 := [.inl x7, .inr (.inr 152)]) (x := x6) (y := w32 (x7 + 1)) (σ2 := (sI (sI (sI (sI (sI (sI σ 122 35 (w32 ((gI σ 122 35) + 1))) 154 x7.toNat x1) 155 x7.toNat x2) 156 x7.toNat x3) 157 x7.toNat x4) 153 x7.toNat x5)) (yI_iload zi_158_161 rfl <| rfl) (yI_iload zi_158_154 rfl <| yI_iconst zi_158_156 <| yI_iadd zi_158_157 <| yI_goto zi_158_158 <| rfl) <| yI_iastorec zi_158_163 za_152 <| yI_aload_n zi_158_164 rfl <| yI_gf_f (v := 151) zi_158_165 zk_122 rfl <| yI_iload zi_158_168 rfl <| yI_iconst zi_158_170 <| yI_iastorec zi_158_171 za_151 <| yI_aload_n zi_158_172 rfl <| yI_gf_f (v := 148) zi_158_173 zk_122 rfl <| yI_iload zi_158_176 rfl <| yI_iconst zi_158_178 <| yI_iastorec zi_158_179 za_148 <| yI_aload_n zi_158_180 rfl <| yI_gf_f (v := 149) zi_158_181 zk_122 rfl <| yI_iload zi_158_184 rfl <| yI_iconst zi_158_186 <| yI_iastorec zi_158_187 za_149 <| yI_aload_n zi_158_188 rfl <| yI_gf_f (v := 150) zi_158_189 zk_122 rfl <| yI_iload zi_158_192 rfl <| yI_iload zi_158_194 rfl <| yI_if_ne zi_158_196 <| yMi0 (j := 214) (ls2 := [some (.inr (.inr 122)), some (.inl x1), some (.inl x2), some (.inl x3), some (.inl x4), some (.inl x5), some (.inl x6), some (.inl x7), some (.inl v)]) (st2 := [.inl x7, .inr (.inr 150)]) (x := (-1)) (y := (if ¬ v = 61 then gI σ 122 50 else (-1) : Int)) (σ2 := (sI (sI (sI (sI (sI (sI (sI (sI (sI (sI σ 122 35 (w32 ((gI σ 122 35) + 1))) 154 x7.toNat x1) 155 x7.toNat x2) 156 x7.toNat x3) 157 x7.toNat x4) 153 x7.toNat x5) 152 x7.toNat (if ¬ x2 = 63 then x6 else w32 (x7 + 1) : Int)) 151 x7.toNat 0) 148 x7.toNat 0) 149 x7.toNat (-1))) (yI_iconst zi_158_206 <| yI_goto zi_158_207 <| rfl) (yI_iload zi_158_199 rfl <| yI_bipush zi_158_201 <| yI_ic_ne zi_158_203 <| yMi0 (j := 214) (ls2 := [some (.inr (.inr 122)), some (.inl x1), some (.inl x2), some (.inl x3), some (.inl x4), some (.inl x5), some (.inl x6), some (.inl x7), some (.inl v)]) (st2 := [.inl x7, .inr (.inr 150)]) (x := gI σ 122 50) (y := (-1)) (σ2 := (sI (sI (sI (sI (sI (sI (sI (sI (sI (sI σ 122 35 (w32 ((gI σ 122 35) + 1))) 154 x7.toNat x1) 155 x7.toNat x2) 156 x7.toNat x3) 157 x7.toNat x4) 153 x7.toNat x5) 152 x7.toNat (if ¬ x2 = 63 then x6 else w32 (x7 + 1) : Int)) 151 x7.toNat 0) 148 x7.toNat 0) 149 x7.toNat (-1))) (yI_aload_n zi_158_210 rfl <| yI_gf_i (v := gI σ 122 50) zi_158_211 zk_122 ((yGI_nk (by decide)).trans ((yGI_nk (by decide)).trans ((yGI_nk (by decide)).trans ((yGI_nk (by decide)).trans ((yGI_nk (by decide)).trans ((yGI_nk (by decide)).trans ((yGI_nk (by decide)).trans ((yGI_nk (by decide)).trans ((yGI_nk (by decide)).trans (yGI_nj (by decide))))))))))) <| rfl) (yI_iconst zi_158_206 <| yI_goto zi_158_207 <| rfl) <| rfl) <| yI_iastorec zi_158_214 za_150 <| yI_aload_n zi_158_215 rfl <| yI_dup_r zi_158_216 <| yI_gf_i (v := gI σ 122 50) zi_158_217 zk_122 ((yGI_nk (by decide)).trans ((yGI_nk (by decide)).trans ((yGI_nk (by decide)).trans ((yGI_nk (by decide)).trans ((yGI_nk (by decide)).trans ((yGI_nk (by decide)).trans ((yGI_nk (by decide)).trans ((yGI_nk (by decide)).trans ((yGI_nk (by decide)).trans ((yGI_nk (by decide)).trans (yGI_nj (by decide)))))))))))) <| yI_iload zi_158_220 rfl <| yI_if_ne zi_158_222 <| yMi0 (j := 237) (ls2 := [some (.inr (.inr 122)), some (.inl x1), some (.inl x2), some (.inl x3), some (.inl x4), some (.inl x5), some (.inl x6), some (.inl x7), some (.inl v)]) (st2 := [.inl (gI σ 122 50), .inr (.inr 122)]) (x := 0) (y := (if ¬ v = 61 then 1 else 0 : Int)) (σ2 := (sI (sI (sI (sI (sI (sI (sI (sI (sI (sI (sI σ 122 35 (w32 ((gI σ 122 35) + 1))) 154 x7.toNat x1) 155 x7.toNat x2) 156 x7.toNat x3) 157 x7.toNat x4) 153 x7.toNat x5) 152 x7.toNat (if ¬ x2 = 63 then x6 else w32 (x7 + 1) : Int)) 151 x7.toNat 0) 148 x7.toNat 0) 149 x7.toNat (-1)) 150 x7.toNat (if ¬ x5 = 0 then (-1) else (if ¬ v = 61 then gI σ 122 50 else (-1) : Int) : Int))) (yI_iconst zi_158_232 <| yI_goto zi_158_233 <| rfl) (yI_iload zi_158_225 rfl <| yI_bipush zi_158_227 <| yI_ic_ne zi_158_229 <| yMi0 (j := 237) (ls2 := [some (.inr (.inr 122)), some (.inl x1), some (.inl x2), some (.inl x3), some (.inl x4), some (.inl x5), some (.inl x6), some (.inl x7), some (.inl v)]) (st2 := [.inl (gI σ 122 50), .inr (.inr 122)]) (x := 1) (y := 0) (σ2 := (sI (sI (sI (sI (sI (sI (sI (sI (sI (sI (sI σ 122 35 (w32 ((gI σ 122 35) + 1))) 154 x7.toNat x1) 155 x7.toNat x2) 156 x7.toNat x3) 157 x7.toNat x4) 153 x7.toNat x5) 152 x7.toNat (if ¬ x2 = 63 then x6 else w32 (x7 + 1) : Int)) 151 x7.toNat 0) 148 x7.toNat 0) 149 x7.toNat (-1)) 150 x7.toNat (if ¬ x5 = 0 then (-1) else (if ¬ v = 61 then gI σ 122 50 else (-1) : Int) : Int))) (yI_iconst zi_158_236 <| rfl) (yI_iconst zi_158_232 <| yI_goto zi_158_233 <| rfl) <| rfl) <| yI_iadd zi_158_237 <| yI_pf_i zi_158_238 zk_122 <| yI_aload_n zi_158_241 rfl <| yI_gf_f (v := 146) zi_158_242 zk_122 rfl <| yI_iload zi_158_245 rfl <| yI_iload zi_158_247 rfl <| yI_bipush zi_158_249 <| yI_ic_ne zi_158_251 <| yMi0 (j := 292) (ls2 := [some (.inr (.inr 122)), some (.inl x1), some (.inl x2), some (.inl x3), some (.inl x4), some (.inl x5), some (.inl x6), some (.inl x7), some (.inl v)]) (st2 := [.inl x7, .inr (.inr 146)]) (x := (if ¬ v = 33 then (if ¬ v = 126 then (if ¬ v = 61 then 1 else 4 : Int) else 3 : Int) else 2 : Int)) (y := 0) (σ2 := (sI (sI (sI (sI (sI (sI (sI (sI (sI (sI (sI (sI σ 122 35 (w32 ((gI σ 122 35) + 1))) 154 x7.toNat x1) 155 x7.toNat x2) 156 x7.toNat x3) 157 x7.toNat x4) 153 x7.toNat x5) 152 x7.toNat (if ¬ x2 = 63 then x6 else w32 (x7 + 1) : Int)) 151 x7.toNat 0) 148 x7.toNat 0) 149 x7.toNat (-1)) 150 x7.toNat (if ¬ x5 = 0 then (-1) else (if ¬ v = 61 then gI σ 122 50 else (-1) : Int) : Int)) 122 50 (w32 ((gI σ 122 50) + (if ¬ x5 = 0 then 0 else (if ¬ v = 61 then 1 else 0 : Int) : Int))))) (yI_iload zi_158_258 rfl <| yI_bipush zi_158_260 <| yI_ic_ne zi_158_262 <| yMi0 (j := 292) (ls2 := [some (.inr (.inr 122)), some (.inl x1), some (.inl x2), some (.inl x3), some (.inl x4), some (.inl x5), some (.inl x6), some (.inl x7), some (.inl v)]) (st2 := [.inl x7, .inr (.inr 146)]) (x := (if ¬ v = 126 then (if ¬ v = 61 then 1 else 4 : Int) else 3 : Int)) (y := 2) (σ2 := (sI (sI (sI (sI (sI (sI (sI (sI (sI (sI (sI (sI σ 122 35 (w32 ((gI σ 122 35) + 1))) 154 x7.toNat x1) 155 x7.toNat x2) 156 x7.toNat x3) 157 x7.toNat x4) 153 x7.toNat x5) 152 x7.toNat (if ¬ x2 = 63 then x6 else w32 (x7 + 1) : Int)) 151 x7.toNat 0) 148 x7.toNat 0) 149 x7.toNat (-1)) 150 x7.toNat (if ¬ x5 = 0 then (-1) else (if ¬ v = 61 then gI σ 122 50 else (-1) : Int) : Int)) 122 50 (w32 ((gI σ 122 50) + (if ¬ x5 = 0 then 0 else (if ¬ v = 61 then 1 else 0 : Int) : Int))))) (yI_iload zi_158_269 rfl <| yI_bipush zi_158_271 <| yI_ic_ne zi_158_273 <| yMi0 (j := 292) (ls2 := [some (.inr (.inr 122)), some (.inl x1), some (.inl x2), some (.inl x3), some (.inl x4), some (.inl x5), some (.inl x6), some (.inl x7), some (.inl v)]) (st2 := [.inl x7, .inr (.inr 146)]) (x := (if ¬ v = 61 then 1 else 4 : Int)) (y := 3) (σ2 := (sI (sI (sI (sI (sI (sI (sI (sI (sI (sI (sI (sI σ 122 35 (w32 ((gI σ 122 35) + 1))) 154 x7.toNat x1) 155 x7.toNat x2) 156 x7.toNat x3) 157 x7.toNat x4) 153 x7.toNat x5) 152 x7.toNat (if ¬ x2 = 63 then x6 else w32 (x7 + 1) : Int)) 151 x7.toNat 0) 148 x7.toNat 0) 149 x7.toNat (-1)) 150 x7.toNat (if ¬ x5 = 0 then (-1) else (if ¬ v = 61 then gI σ 122 50 else (-1) : Int) : Int)) 122 50 (w32 ((gI σ 122 50) + (if ¬ x5 = 0 then 0 else (if ¬ v = 61 then 1 else 0 : Int) : Int))))) (yI_iload zi_158_280 rfl <| yI_bipush zi_158_282 <| yI_ic_ne zi_158_284 <| yMi0 (j := 292) (ls2 := [some (.inr (.inr 122)), some (.inl x1), some (.inl x2), some (.inl x3), some (.inl x4), some (.inl x5), some (.inl x6), some (.inl x7), some (.inl v)]) (st2 := [.inl x7, .inr (.inr 146)]) (x := 1) (y := 4) (σ2 := (sI (sI (sI (sI (sI (sI (sI (sI (sI (sI (sI (sI σ 122 35 (w32 ((gI σ 122 35) + 1))) 154 x7.toNat x1) 155 x7.toNat x2) 156 x7.toNat x3) 157 x7.toNat x4) 153 x7.toNat x5) 152 x7.toNat (if ¬ x2 = 63 then x6 else w32 (x7 + 1) : Int)) 151 x7.toNat 0) 148 x7.toNat 0) 149 x7.toNat (-1)) 150 x7.toNat (if ¬ x5 = 0 then (-1) else (if ¬ v = 61 then gI σ 122 50 else (-1) : Int) : Int)) 122 50 (w32 ((gI σ 122 50) + (if ¬ x5 = 0 then 0 else (if ¬ v = 61 then 1 else 0 : Int) : Int))))) (yI_iconst zi_158_291 <| rfl) (yI_iconst zi_158_287 <| yI_goto zi_158_288 <| rfl) <| rfl) (yI_iconst zi_158_276 <| yI_goto zi_158_277 <| rfl) <| rfl) (yI_iconst zi_158_265 <| yI_goto zi_158_266 <| rfl) <| rfl) (yI_iconst zi_158_254 <| yI_goto zi_158_255 <| rfl) <| yI_iastorec zi_158_292 za_146 <| yI_aload_n zi_158_293 rfl <| yI_dup_r zi_158_294 <| yI_gf_i (v := gI σ 122 2) zi_158_295 zk_122 ((yGI_nk (by decide)).trans ((yGI_nj (by decide)).trans ((yGI_nk (by decide)).trans ((yGI_nk (by decide)).trans ((yGI_nk (by decide)).trans ((yGI_nk (by decide)).trans ((yGI_nk (by decide)).trans ((yGI_nk (by decide)).trans ((yGI_nk (by decide)).trans ((yGI_nk (by decide)).trans ((yGI_nk (by decide)).trans ((yGI_nk (by decide)).trans (yGI_nj (by decide)))))))))))))) <| yI_iload zi_158_298 rfl <| yI_cs zi_158_300 rfl rfl hK)
theorem zr_158_303 {K : List zF} {σ : zW} {o1 : Option zV} {o2 : Option zV} {o3 : Option zV} {o4 : Option zV} {o5 : Option zV} {o6 : Option zV} {x7 : Int} {x8 : Int} {s0 : Int} {v : Int} (hK : K.length < 60) : zRet true ((158, 303, [some (.inr (.inr 122)), o1, o2, o3, o4, o5, o6, some (.inl x7), some (.inl x8)], [.inl s0, .inr (.inr 122)]) :: K) (some (.inl v)) σ = (if x8 = 126 then zEv true ((158, 329, [some (.inr (.inr 122)), o1, o2, o3, o4, o5, o6, some (.inl x7), some (.inl x8)], []) :: K) (sI σ 122 2 (w32 (s0 + (if v = 0 then 1 else 0 : Int)))) else if ¬ x8 = 61 then if x8 = 42 then zEv true ((158, 391, [some (.inr (.inr 122)), o1, o2, o3, o4, o5, o6, some (.inl x7), some (.inl x8)], []) :: K) (sI σ 122 2 (w32 (s0 + (if v = 0 then 1 else 0 : Int)))) else zEv true (zent 156 [.inr (.inr 122), .inl x7] :: (158, 386, [some (.inr (.inr 122)), o1, o2, o3, o4, o5, o6, some (.inl x7), some (.inl x8)], []) :: K) (sI σ 122 2 (w32 (s0 + (if v = 0 then 1 else 0 : Int)))) else zEv true ((158, 329, [some (.inr (.inr 122)), o1, o2, o3, o4, o5, o6, some (.inl x7), some (.inl x8)], []) :: K) (sI σ 122 2 (w32 (s0 + (if v = 0 then 1 else 0 : Int))))) :=
  yT_rt (yI_if_eq zi_158_303 <| yMi0 (j := 311) (ls2 := [some (.inr (.inr 122)), o1, o2, o3, o4, o5, o6, some (.inl x7), some (.inl x8)]) (st2 := [.inl s0, .inr (.inr 122)]) (x := 1) (y := 0) (σ2 := σ) (yI_iconst zi_158_310 <| rfl) (yI_iconst zi_158_306 <| yI_goto zi_158_307 <| rfl) <| yI_iadd zi_158_311 <| yI_pf_i zi_158_312 zk_122 <| yI_iload zi_158_315 rfl <| yI_bipush zi_158_317 <| yI_ic_eq zi_158_319 <| yBr (rfl) (yI_iload zi_158_322 rfl <| yI_bipush zi_158_324 <| yI_ic_ne zi_158_326 <| yBr (yI_iload zi_158_373 rfl <| yI_bipush zi_158_375 <| yI_ic_eq zi_158_377 <| yBr (rfl) (yI_aload_n zi_158_380 rfl <| yI_iload zi_158_381 rfl <| yI_cv zi_158_383 rfl rfl zk_122 hK)) (rfl)))
theorem zj_158_329 {K : List zF} {σ : zW} {o1 : Option zV} {o2 : Option zV} {o3 : Option zV} {o4 : Option zV} {o5 : Option zV} {o6 : Option zV} {x7 : Int} {x8 : Int} (hK : K.length < 60) : zEv true ((158, 329, [some (.inr (.inr 122)), o1, o2, o3, o4, o5, o6, some (.inl x7), some (.inl x8)], []) :: K) σ = (zEv true (zent 154 [.inr (.inr 122)] :: (158, 333, [some (.inr (.inr 122)), o1, o2, o3, o4, o5, o6, some (.inl x7), some (.inl x8)], []) :: K) σ) :=
  yI_aload_n zi_158_329 rfl <| yI_cv zi_158_330 rfl rfl zk_122 hK
theorem zj_158_391 {K : List zF} {σ : zW} {o1 : Option zV} {o2 : Option zV} {o3 : Option zV} {o4 : Option zV} {o5 : Option zV} {o6 : Option zV} {x7 : Int} {x8 : Int} (hK : K.length < 60) : zEv true ((158, 391, [some (.inr (.inr 122)), o1, o2, o3, o4, o5, o6, some (.inl x7), some (.inl x8)], []) :: K) σ = (if x8 = 61 then zRet true K (some (.inl 1)) σ else zEv true (zent 149 [.inr (.inr 122)] :: (158, 402, [some (.inr (.inr 122)), o1, o2, o3, o4, o5, o6, some (.inl x7), some (.inl x8)], []) :: K) σ) :=
  yI_iload zi_158_391 rfl <| yI_bipush zi_158_393 <| yI_ic_eq zi_158_395 <| yBr (yI_iconst zi_158_460 <| yI_zreturn zi_158_461 (by decide)) (yI_aload_n zi_158_398 rfl <| yI_cv zi_158_399 rfl rfl zk_122 hK)
theorem zr_158_386 {K : List zF} {σ : zW} {o1 : Option zV} {o2 : Option zV} {o3 : Option zV} {o4 : Option zV} {o5 : Option zV} {o6 : Option zV} {x7 : Int} {x8 : Int} {v : Int} : zRet true ((158, 386, [some (.inr (.inr 122)), o1, o2, o3, o4, o5, o6, some (.inl x7), some (.inl x8)], []) :: K) (some (.inl v)) σ = (if ¬ v = 0 then zEv true ((158, 391, [some (.inr (.inr 122)), o1, o2, o3, o4, o5, o6, some (.inl x7), some (.inl x8)], []) :: K) σ else zRet true K (some (.inl 0)) σ) :=
  yT_rt (yI_if_ne zi_158_386 <| yBr (rfl) (yI_iconst zi_158_389 <| yI_zreturn zi_158_390 (by decide)))
theorem zr_158_333 {K : List zF} {σ : zW} {o1 : Option zV} {o2 : Option zV} {o3 : Option zV} {o4 : Option zV} {o5 : Option zV} {o6 : Option zV} {x7 : Int} {x8 : Int} {v : Int} (hK : K.length < 60) : zRet true ((158, 333, [some (.inr (.inr 122)), o1, o2, o3, o4, o5, o6, some (.inl x7), some (.inl x8)], []) :: K) (some (.inl v)) σ = (if ¬ v = 0 then zEv true (zent 155 [.inr (.inr 122), .inr (.inl (gL σ 122 3))] :: (158, 352, [some (.inr (.inr 122)), o1, o2, o3, o4, o5, o6, some (.inl x7), some (.inl x8)], [.inl x7, .inr (.inr 149)]) :: K) σ else zRet true K (some (.inl 0)) σ) :=
  yT_rt (yI_if_ne zi_158_333 <| yBr (yI_aload_n zi_158_338 rfl <| yI_gf_f (v := 149) zi_158_339 zk_122 rfl <| yI_iload zi_158_342 rfl <| yI_aload_n zi_158_344 rfl <| yI_aload_n zi_158_345 rfl <| yI_gf_l (v := gL σ 122 3) zi_158_346 zk_122 rfl <| yI_cv zi_158_349 rfl rfl zk_122 hK) (yI_iconst zi_158_336 <| yI_zreturn zi_158_337 (by decide)))
theorem zr_158_402 {K : List zF} {σ : zW} {o1 : Option zV} {o2 : Option zV} {o3 : Option zV} {o4 : Option zV} {o5 : Option zV} {o6 : Option zV} {x7 : Int} {o8 : Option zV} {v : Int} (hK : K.length < 60) : zRet true ((158, 402, [some (.inr (.inr 122)), o1, o2, o3, o4, o5, o6, some (.inl x7), o8], []) :: K) (some (.inl v)) σ = (if ¬ v = 61 then zRet true K (some (.inl 1)) σ else zEv true (zent 154 [.inr (.inr 122)] :: (158, 421, [some (.inr (.inr 122)), o1, o2, o3, o4, o5, o6, some (.inl x7), o8], []) :: K) (sI σ 122 2 (w32 ((gI σ 122 2) + 1)))) :=
  yT_rt (yI_bipush zi_158_402 <| yI_ic_ne zi_158_404 <| yBr (yI_iconst zi_158_460 <| yI_zreturn zi_158_461 (by decide)) (yI_aload_n zi_158_407 rfl <| yI_dup_r zi_158_408 <| yI_gf_i (v := gI σ 122 2) zi_158_409 zk_122 rfl <| yI_iconst zi_158_412 <| yI_iadd zi_158_413 <| yI_pf_i zi_158_414 zk_122 <| yI_aload_n zi_158_417 rfl <| yI_cv zi_158_418 rfl rfl zk_122 hK))
theorem zr_158_352 {K : List zF} {σ : zW} {o1 : Option zV} {o2 : Option zV} {o3 : Option zV} {o4 : Option zV} {o5 : Option zV} {o6 : Option zV} {x7 : Int} {x8 : Int} {s0 : Int} {v : Int} (hK : K.length < 60) : zRet true ((158, 352, [some (.inr (.inr 122)), o1, o2, o3, o4, o5, o6, some (.inl x7), some (.inl x8)], [.inl s0, .inr (.inr 149)]) :: K) (some (.inl v)) σ = ((0 ≤ s0 ∧ s0 < 8) ∧ ((0 ≤ x7 ∧ x7 < 8) ∧ (if 0 ≤ (gI (sI σ 149 s0.toNat v) 149 x7.toNat) then zEv true ((158, 391, [some (.inr (.inr 122)), o1, o2, o3, o4, o5, o6, some (.inl x7), some (.inl x8)], []) :: K) (sI σ 149 s0.toNat v) else zEv true (zent 148 [.inr (.inr 122), .inl 4, .inl (gI σ 122 5)] :: (158, 372, [some (.inr (.inr 122)), o1, o2, o3, o4, o5, o6, some (.inl x7), some (.inl x8)], []) :: K) (sI σ 149 s0.toNat v)))) :=
  yT_rt (yI_iastorec zi_158_352 za_149 <| yI_aload_n zi_158_353 rfl <| yI_gf_f (v := 149) zi_158_354 zk_122 rfl <| yI_iload zi_158_357 rfl <| yI_ialoadc (v := gI (sI σ 149 s0.toNat v) 149 x7.toNat) zi_158_359 za_149 rfl <| yI_if_ge zi_158_360 <| yBr (rfl) (yI_aload_n zi_158_363 rfl <| yI_iconst zi_158_364 <| yI_aload_n zi_158_365 rfl <| yI_gf_i (v := gI σ 122 5) zi_158_366 zk_122 (yGI_nk (by decide)) <| yI_cv zi_158_369 rfl rfl zk_122 hK))
theorem zr_158_421 {K : List zF} {σ : zW} {o1 : Option zV} {o2 : Option zV} {o3 : Option zV} {o4 : Option zV} {o5 : Option zV} {o6 : Option zV} {x7 : Int} {o8 : Option zV} {v : Int} (hK : K.length < 60) : zRet true ((158, 421, [some (.inr (.inr 122)), o1, o2, o3, o4, o5, o6, some (.inl x7), o8], []) :: K) (some (.inl v)) σ = (if ¬ v = 0 then zEv true (zent 155 [.inr (.inr 122), .inr (.inl (gL σ 122 3))] :: (158, 434, [some (.inr (.inr 122)), o1, o2, o3, o4, o5, o6, some (.inl x7), o8], []) :: K) σ else zRet true K (some (.inl 0)) σ) :=
  yT_rt (yI_if_ne zi_158_421 <| yBr (yI_aload_n zi_158_426 rfl <| yI_aload_n zi_158_427 rfl <| yI_gf_l (v := gL σ 122 3) zi_158_428 zk_122 rfl <| yI_cv zi_158_431 rfl rfl zk_122 hK) (yI_iconst zi_158_424 <| yI_zreturn zi_158_425 (by decide)))
theorem zr_158_372 {K : List zF} {σ : zW} {o0 : Option zV} {o1 : Option zV} {o2 : Option zV} {o3 : Option zV} {o4 : Option zV} {o5 : Option zV} {o6 : Option zV} {o7 : Option zV} {o8 : Option zV} {v : Int} : zRet true ((158, 372, [o0, o1, o2, o3, o4, o5, o6, o7, o8], []) :: K) (some (.inl v)) σ = ((v = 0 ∨ v = 1) ∧ zRet true K (some (.inl v)) σ) :=
  yT_rt (yI_zreturnc zi_158_372)
theorem zr_158_434 {K : List zF} {σ : zW} {o1 : Option zV} {o2 : Option zV} {o3 : Option zV} {o4 : Option zV} {o5 : Option zV} {o6 : Option zV} {x7 : Int} {o8 : Option zV} {v : Int} (hK : K.length < 60) : zRet true ((158, 434, [some (.inr (.inr 122)), o1, o2, o3, o4, o5, o6, some (.inl x7), o8], []) :: K) (some (.inl v)) σ = (if v = (-1) then (0 ≤ x7 ∧ x7 < 8) ∧ zRet true K (some (.inl 1)) (sI σ 151 x7.toNat (zl2i (gL σ 122 3))) else zEv true (zent 148 [.inr (.inr 122), .inl 4, .inl (gI σ 122 5)] :: (158, 447, [some (.inr (.inr 122)), o1, o2, o3, o4, o5, o6, some (.inl x7), o8], []) :: K) σ) :=
  yT_rt (yI_iconst zi_158_434 <| yI_ic_eq zi_158_435 <| yBr (yI_aload_n zi_158_448 rfl <| yI_gf_f (v := 151) zi_158_449 zk_122 rfl <| yI_iload zi_158_452 rfl <| yI_aload_n zi_158_454 rfl <| yI_gf_l (v := gL σ 122 3) zi_158_455 zk_122 rfl <| yI_l2i zi_158_458 <| yI_iastorec zi_158_459 za_151 <| yI_iconst zi_158_460 <| yI_zreturn zi_158_461 (by decide)) (yI_aload_n zi_158_438 rfl <| yI_iconst zi_158_439 <| yI_aload_n zi_158_440 rfl <| yI_gf_i (v := gI σ 122 5) zi_158_441 zk_122 rfl <| yI_cv zi_158_444 rfl rfl zk_122 hK))
theorem zr_158_447 {K : List zF} {σ : zW} {o0 : Option zV} {o1 : Option zV} {o2 : Option zV} {o3 : Option zV} {o4 : Option zV} {o5 : Option zV} {o6 : Option zV} {o7 : Option zV} {o8 : Option zV} {v : Int} : zRet true ((158, 447, [o0, o1, o2, o3, o4, o5, o6, o7, o8], []) :: K) (some (.inl v)) σ = ((v = 0 ∨ v = 1) ∧ zRet true K (some (.inl v)) σ) :=
  yT_rt (yI_zreturnc zi_158_447)
/-- 159 TreegrabModel.operator()I -/
theorem zi_159_0 : zraw 159 0 = some (.aload_n 0, 1) ∧ 0 + 1 = 1 := by decide +kernel
theorem zi_159_1 : zraw 159 1 = some (.invokevirtual 256, 3) ∧ zmt (zinf 159).1 256 = some 149 ∧ Nat.ble 9000 149 = false ∧ zinf 149 = (10, 1, 1, 1, 0) ∧ 1 + 3 = 4 := by decide +kernel
theorem zi_159_4 : zraw 159 4 = some (.istore_n 1, 1) ∧ 4 + 1 = 5 := by decide +kernel
theorem zi_159_5 : zraw 159 5 = some (.aload_n 0, 1) ∧ 5 + 1 = 6 := by decide +kernel
theorem zi_159_6 : zraw 159 6 = some (.lconst 0, 1) ∧ (bif Nat.beq (0 : Fin 2).val 0 then (0 : Int64) else 1) = 0 ∧ 6 + 1 = 7 := by decide +kernel
theorem zi_159_7 : zraw 159 7 = some (.putfield 238, 3) ∧ zft (zinf 159).1 238 = some (10, 3, 2, false) ∧ 7 + 3 = 10 := by decide +kernel
theorem zi_159_10 : zraw 159 10 = some (.iload_n 1, 1) ∧ 10 + 1 = 11 := by decide +kernel
theorem zi_159_11 : zraw 159 11 = some (.bipush 60, 2) ∧ zin 128 60 = true ∧ 11 + 2 = 13 := by decide +kernel
theorem zi_159_13 : zraw 159 13 = some (.if_icmp .eq 39, 3) ∧ ((13 : Nat) : Int) + 39 = Int.ofNat 52 ∧ 13 + 3 = 16 := by decide +kernel
theorem zi_159_16 : zraw 159 16 = some (.iload_n 1, 1) ∧ 16 + 1 = 17 := by decide +kernel
theorem zi_159_17 : zraw 159 17 = some (.bipush 62, 2) ∧ zin 128 62 = true ∧ 17 + 2 = 19 := by decide +kernel
theorem zi_159_19 : zraw 159 19 = some (.if_icmp .eq 33, 3) ∧ ((19 : Nat) : Int) + 33 = Int.ofNat 52 ∧ 19 + 3 = 22 := by decide +kernel
theorem zi_159_22 : zraw 159 22 = some (.iload_n 1, 1) ∧ 22 + 1 = 23 := by decide +kernel
theorem zi_159_23 : zraw 159 23 = some (.bipush 46, 2) ∧ zin 128 46 = true ∧ 23 + 2 = 25 := by decide +kernel
theorem zi_159_25 : zraw 159 25 = some (.if_icmp .eq 27, 3) ∧ ((25 : Nat) : Int) + 27 = Int.ofNat 52 ∧ 25 + 3 = 28 := by decide +kernel
theorem zi_159_28 : zraw 159 28 = some (.iload_n 1, 1) ∧ 28 + 1 = 29 := by decide +kernel
theorem zi_159_29 : zraw 159 29 = some (.bipush 44, 2) ∧ zin 128 44 = true ∧ 29 + 2 = 31 := by decide +kernel
theorem zi_159_31 : zraw 159 31 = some (.if_icmp .eq 21, 3) ∧ ((31 : Nat) : Int) + 21 = Int.ofNat 52 ∧ 31 + 3 = 34 := by decide +kernel
theorem zi_159_34 : zraw 159 34 = some (.iload_n 1, 1) ∧ 34 + 1 = 35 := by decide +kernel
theorem zi_159_35 : zraw 159 35 = some (.bipush 36, 2) ∧ zin 128 36 = true ∧ 35 + 2 = 37 := by decide +kernel
theorem zi_159_37 : zraw 159 37 = some (.if_icmp .eq 15, 3) ∧ ((37 : Nat) : Int) + 15 = Int.ofNat 52 ∧ 37 + 3 = 40 := by decide +kernel
theorem zi_159_40 : zraw 159 40 = some (.aload_n 0, 1) ∧ 40 + 1 = 41 := by decide +kernel
theorem zi_159_41 : zraw 159 41 = some (.iconst 1, 1) ∧ zin 128 1 = true ∧ 41 + 1 = 42 := by decide +kernel
theorem zi_159_42 : zraw 159 42 = some (.aload_n 0, 1) ∧ 42 + 1 = 43 := by decide +kernel
theorem zi_159_43 : zraw 159 43 = some (.getfield 212, 3) ∧ zft (zinf 159).1 212 = some (10, 2, 0, false) ∧ 43 + 3 = 46 := by decide +kernel
theorem zi_159_46 : zraw 159 46 = some (.invokevirtual 252, 3) ∧ zmt (zinf 159).1 252 = some 148 ∧ Nat.ble 9000 148 = false ∧ zinf 148 = (10, 3, 3, 2, 0) ∧ 46 + 3 = 49 := by decide +kernel
theorem zi_159_49 : zraw 159 49 = some (.pop, 1) ∧ 49 + 1 = 50 := by decide +kernel
theorem zi_159_50 : zraw 159 50 = some (.iconst 0, 1) ∧ zin 128 0 = true ∧ 50 + 1 = 51 := by decide +kernel
theorem zi_159_51 : zraw 159 51 = some (.ireturn, 1) ∧ (zinf 159).2.2.2.1 = 1 := by decide +kernel
theorem zi_159_52 : zraw 159 52 = some (.aload_n 0, 1) ∧ 52 + 1 = 53 := by decide +kernel
theorem zi_159_53 : zraw 159 53 = some (.dup, 1) ∧ 53 + 1 = 54 := by decide +kernel
theorem zi_159_54 : zraw 159 54 = some (.getfield 212, 3) ∧ zft (zinf 159).1 212 = some (10, 2, 0, false) ∧ 54 + 3 = 57 := by decide +kernel
theorem zi_159_57 : zraw 159 57 = some (.iconst 1, 1) ∧ zin 128 1 = true ∧ 57 + 1 = 58 := by decide +kernel
theorem zi_159_58 : zraw 159 58 = some (.iadd, 1) ∧ 58 + 1 = 59 := by decide +kernel
theorem zi_159_59 : zraw 159 59 = some (.putfield 212, 3) ∧ zft (zinf 159).1 212 = some (10, 2, 0, false) ∧ 59 + 3 = 62 := by decide +kernel
theorem zi_159_62 : zraw 159 62 = some (.iload_n 1, 1) ∧ 62 + 1 = 63 := by decide +kernel
theorem zi_159_63 : zraw 159 63 = some (.bipush 60, 2) ∧ zin 128 60 = true ∧ 63 + 2 = 65 := by decide +kernel
theorem zi_159_65 : zraw 159 65 = some (.if_icmp .eq 9, 3) ∧ ((65 : Nat) : Int) + 9 = Int.ofNat 74 ∧ 65 + 3 = 68 := by decide +kernel
theorem zi_159_68 : zraw 159 68 = some (.iload_n 1, 1) ∧ 68 + 1 = 69 := by decide +kernel
theorem zi_159_69 : zraw 159 69 = some (.bipush 62, 2) ∧ zin 128 62 = true ∧ 69 + 2 = 71 := by decide +kernel
theorem zi_159_71 : zraw 159 71 = some (.if_icmp .ne 31, 3) ∧ ((71 : Nat) : Int) + 31 = Int.ofNat 102 ∧ 71 + 3 = 74 := by decide +kernel
theorem zi_159_74 : zraw 159 74 = some (.aload_n 0, 1) ∧ 74 + 1 = 75 := by decide +kernel
theorem zi_159_75 : zraw 159 75 = some (.iload_n 1, 1) ∧ 75 + 1 = 76 := by decide +kernel
theorem zi_159_76 : zraw 159 76 = some (.invokevirtual 291, 3) ∧ zmt (zinf 159).1 291 = some 160 ∧ Nat.ble 9000 160 = false ∧ zinf 160 = (10, 2, 3, 1, 0) ∧ 76 + 3 = 79 := by decide +kernel
theorem zi_159_79 : zraw 159 79 = some (.istore_n 2, 1) ∧ 79 + 1 = 80 := by decide +kernel
theorem zi_159_80 : zraw 159 80 = some (.iload_n 2, 1) ∧ 80 + 1 = 81 := by decide +kernel
theorem zi_159_81 : zraw 159 81 = some (.ifCond .ne 7, 3) ∧ ((81 : Nat) : Int) + 7 = Int.ofNat 88 ∧ 81 + 3 = 84 := by decide +kernel
theorem zi_159_84 : zraw 159 84 = some (.iconst 0, 1) ∧ zin 128 0 = true ∧ 84 + 1 = 85 := by decide +kernel
theorem zi_159_85 : zraw 159 85 = some (.goto 16, 3) ∧ ((85 : Nat) : Int) + 16 = Int.ofNat 101 := by decide +kernel
theorem zi_159_88 : zraw 159 88 = some (.iload_n 1, 1) ∧ 88 + 1 = 89 := by decide +kernel
theorem zi_159_89 : zraw 159 89 = some (.bipush 60, 2) ∧ zin 128 60 = true ∧ 89 + 2 = 91 := by decide +kernel
theorem zi_159_91 : zraw 159 91 = some (.if_icmp .ne 7, 3) ∧ ((91 : Nat) : Int) + 7 = Int.ofNat 98 ∧ 91 + 3 = 94 := by decide +kernel
theorem zi_159_94 : zraw 159 94 = some (.iload_n 2, 1) ∧ 94 + 1 = 95 := by decide +kernel
theorem zi_159_95 : zraw 159 95 = some (.goto 6, 3) ∧ ((95 : Nat) : Int) + 6 = Int.ofNat 101 := by decide +kernel
theorem zi_159_98 : zraw 159 98 = some (.iconst 5, 1) ∧ zin 128 5 = true ∧ 98 + 1 = 99 := by decide +kernel
theorem zi_159_99 : zraw 159 99 = some (.iload_n 2, 1) ∧ 99 + 1 = 100 := by decide +kernel
theorem zi_159_100 : zraw 159 100 = some (.iadd, 1) ∧ 100 + 1 = 101 := by decide +kernel
theorem zi_159_101 : zraw 159 101 = some (.ireturn, 1) ∧ (zinf 159).2.2.2.1 = 1 := by decide +kernel
theorem zi_159_102 : zraw 159 102 = some (.iload_n 1, 1) ∧ 102 + 1 = 103 := by decide +kernel
theorem zi_159_103 : zraw 159 103 = some (.bipush 36, 2) ∧ zin 128 36 = true ∧ 103 + 2 = 105 := by decide +kernel
theorem zi_159_105 : zraw 159 105 = some (.if_icmp .ne 116, 3) ∧ ((105 : Nat) : Int) + 116 = Int.ofNat 221 ∧ 105 + 3 = 108 := by decide +kernel
theorem zi_159_108 : zraw 159 108 = some (.aload_n 0, 1) ∧ 108 + 1 = 109 := by decide +kernel
theorem zi_159_109 : zraw 159 109 = some (.invokevirtual 218, 3) ∧ zmt (zinf 159).1 218 = some 144 ∧ Nat.ble 9000 144 = false ∧ zinf 144 = (10, 1, 1, 1, 0) ∧ 109 + 3 = 112 := by decide +kernel
theorem zi_159_112 : zraw 159 112 = some (.bipush 46, 2) ∧ zin 128 46 = true ∧ 112 + 2 = 114 := by decide +kernel
theorem zi_159_114 : zraw 159 114 = some (.if_icmp .ne 8, 3) ∧ ((114 : Nat) : Int) + 8 = Int.ofNat 122 ∧ 114 + 3 = 117 := by decide +kernel
theorem zi_159_117 : zraw 159 117 = some (.bipush 16, 2) ∧ zin 128 16 = true ∧ 117 + 2 = 119 := by decide +kernel
theorem zi_159_119 : zraw 159 119 = some (.goto 19, 3) ∧ ((119 : Nat) : Int) + 19 = Int.ofNat 138 := by decide +kernel
theorem zi_159_122 : zraw 159 122 = some (.aload_n 0, 1) ∧ 122 + 1 = 123 := by decide +kernel
theorem zi_159_123 : zraw 159 123 = some (.invokevirtual 218, 3) ∧ zmt (zinf 159).1 218 = some 144 ∧ Nat.ble 9000 144 = false ∧ zinf 144 = (10, 1, 1, 1, 0) ∧ 123 + 3 = 126 := by decide +kernel
theorem zi_159_126 : zraw 159 126 = some (.bipush 44, 2) ∧ zin 128 44 = true ∧ 126 + 2 = 128 := by decide +kernel
theorem zi_159_128 : zraw 159 128 = some (.if_icmp .ne 8, 3) ∧ ((128 : Nat) : Int) + 8 = Int.ofNat 136 ∧ 128 + 3 = 131 := by decide +kernel
theorem zi_159_131 : zraw 159 131 = some (.bipush 18, 2) ∧ zin 128 18 = true ∧ 131 + 2 = 133 := by decide +kernel
theorem zi_159_133 : zraw 159 133 = some (.goto 5, 3) ∧ ((133 : Nat) : Int) + 5 = Int.ofNat 138 := by decide +kernel
theorem zi_159_136 : zraw 159 136 = some (.bipush 15, 2) ∧ zin 128 15 = true ∧ 136 + 2 = 138 := by decide +kernel
theorem zi_159_138 : zraw 159 138 = some (.istore_n 2, 1) ∧ 138 + 1 = 139 := by decide +kernel
theorem zi_159_139 : zraw 159 139 = some (.aload_n 0, 1) ∧ 139 + 1 = 140 := by decide +kernel
theorem zi_159_140 : zraw 159 140 = some (.dup, 1) ∧ 140 + 1 = 141 := by decide +kernel
theorem zi_159_141 : zraw 159 141 = some (.getfield 212, 3) ∧ zft (zinf 159).1 212 = some (10, 2, 0, false) ∧ 141 + 3 = 144 := by decide +kernel
theorem zi_159_144 : zraw 159 144 = some (.iload_n 2, 1) ∧ 144 + 1 = 145 := by decide +kernel
theorem zi_159_145 : zraw 159 145 = some (.bipush 15, 2) ∧ zin 128 15 = true ∧ 145 + 2 = 147 := by decide +kernel
theorem zi_159_147 : zraw 159 147 = some (.if_icmp .ne 7, 3) ∧ ((147 : Nat) : Int) + 7 = Int.ofNat 154 ∧ 147 + 3 = 150 := by decide +kernel
theorem zi_159_150 : zraw 159 150 = some (.iconst 0, 1) ∧ zin 128 0 = true ∧ 150 + 1 = 151 := by decide +kernel
theorem zi_159_151 : zraw 159 151 = some (.goto 4, 3) ∧ ((151 : Nat) : Int) + 4 = Int.ofNat 155 := by decide +kernel
theorem zi_159_154 : zraw 159 154 = some (.iconst 1, 1) ∧ zin 128 1 = true ∧ 154 + 1 = 155 := by decide +kernel
theorem zi_159_155 : zraw 159 155 = some (.iadd, 1) ∧ 155 + 1 = 156 := by decide +kernel
theorem zi_159_156 : zraw 159 156 = some (.putfield 212, 3) ∧ zft (zinf 159).1 212 = some (10, 2, 0, false) ∧ 156 + 3 = 159 := by decide +kernel
theorem zi_159_159 : zraw 159 159 = some (.iload_n 2, 1) ∧ 159 + 1 = 160 := by decide +kernel
theorem zi_159_160 : zraw 159 160 = some (.bipush 15, 2) ∧ zin 128 15 = true ∧ 160 + 2 = 162 := by decide +kernel
theorem zi_159_162 : zraw 159 162 = some (.if_icmp .le 27, 3) ∧ ((162 : Nat) : Int) + 27 = Int.ofNat 189 ∧ 162 + 3 = 165 := by decide +kernel
theorem zi_159_165 : zraw 159 165 = some (.aload_n 0, 1) ∧ 165 + 1 = 166 := by decide +kernel
theorem zi_159_166 : zraw 159 166 = some (.invokevirtual 218, 3) ∧ zmt (zinf 159).1 218 = some 144 ∧ Nat.ble 9000 144 = false ∧ zinf 144 = (10, 1, 1, 1, 0) ∧ 166 + 3 = 169 := by decide +kernel
theorem zi_159_169 : zraw 159 169 = some (.iload_n 2, 1) ∧ 169 + 1 = 170 := by decide +kernel
theorem zi_159_170 : zraw 159 170 = some (.bipush 16, 2) ∧ zin 128 16 = true ∧ 170 + 2 = 172 := by decide +kernel
theorem zi_159_172 : zraw 159 172 = some (.if_icmp .ne 8, 3) ∧ ((172 : Nat) : Int) + 8 = Int.ofNat 180 ∧ 172 + 3 = 175 := by decide +kernel
theorem zi_159_175 : zraw 159 175 = some (.bipush 46, 2) ∧ zin 128 46 = true ∧ 175 + 2 = 177 := by decide +kernel
theorem zi_159_177 : zraw 159 177 = some (.goto 5, 3) ∧ ((177 : Nat) : Int) + 5 = Int.ofNat 182 := by decide +kernel
theorem zi_159_180 : zraw 159 180 = some (.bipush 44, 2) ∧ zin 128 44 = true ∧ 180 + 2 = 182 := by decide +kernel
theorem zi_159_182 : zraw 159 182 = some (.if_icmp .ne 7, 3) ∧ ((182 : Nat) : Int) + 7 = Int.ofNat 189 ∧ 182 + 3 = 185 := by decide +kernel
theorem zi_159_185 : zraw 159 185 = some (.iconst 1, 1) ∧ zin 128 1 = true ∧ 185 + 1 = 186 := by decide +kernel
theorem zi_159_186 : zraw 159 186 = some (.goto 4, 3) ∧ ((186 : Nat) : Int) + 4 = Int.ofNat 190 := by decide +kernel
theorem zi_159_189 : zraw 159 189 = some (.iconst 0, 1) ∧ zin 128 0 = true ∧ 189 + 1 = 190 := by decide +kernel
theorem zi_159_190 : zraw 159 190 = some (.istore_n 3, 1) ∧ 190 + 1 = 191 := by decide +kernel
theorem zi_159_191 : zraw 159 191 = some (.aload_n 0, 1) ∧ 191 + 1 = 192 := by decide +kernel
theorem zi_159_192 : zraw 159 192 = some (.dup, 1) ∧ 192 + 1 = 193 := by decide +kernel
theorem zi_159_193 : zraw 159 193 = some (.getfield 212, 3) ∧ zft (zinf 159).1 212 = some (10, 2, 0, false) ∧ 193 + 3 = 196 := by decide +kernel
theorem zi_159_196 : zraw 159 196 = some (.iload_n 3, 1) ∧ 196 + 1 = 197 := by decide +kernel
theorem zi_159_197 : zraw 159 197 = some (.ifCond .eq 7, 3) ∧ ((197 : Nat) : Int) + 7 = Int.ofNat 204 ∧ 197 + 3 = 200 := by decide +kernel
theorem zi_159_200 : zraw 159 200 = some (.iconst 1, 1) ∧ zin 128 1 = true ∧ 200 + 1 = 201 := by decide +kernel
theorem zi_159_201 : zraw 159 201 = some (.goto 4, 3) ∧ ((201 : Nat) : Int) + 4 = Int.ofNat 205 := by decide +kernel
theorem zi_159_204 : zraw 159 204 = some (.iconst 0, 1) ∧ zin 128 0 = true ∧ 204 + 1 = 205 := by decide +kernel
theorem zi_159_205 : zraw 159 205 = some (.iadd, 1) ∧ 205 + 1 = 206 := by decide +kernel
theorem zi_159_206 : zraw 159 206 = some (.putfield 212, 3) ∧ zft (zinf 159).1 212 = some (10, 2, 0, false) ∧ 206 + 3 = 209 := by decide +kernel
theorem zi_159_209 : zraw 159 209 = some (.iload_n 2, 1) ∧ 209 + 1 = 210 := by decide +kernel
theorem zi_159_210 : zraw 159 210 = some (.iload_n 3, 1) ∧ 210 + 1 = 211 := by decide +kernel
theorem zi_159_211 : zraw 159 211 = some (.ifCond .eq 7, 3) ∧ ((211 : Nat) : Int) + 7 = Int.ofNat 218 ∧ 211 + 3 = 214 := by decide +kernel
theorem zi_159_214 : zraw 159 214 = some (.iconst 1, 1) ∧ zin 128 1 = true ∧ 214 + 1 = 215 := by decide +kernel
theorem zi_159_215 : zraw 159 215 = some (.goto 4, 3) ∧ ((215 : Nat) : Int) + 4 = Int.ofNat 219 := by decide +kernel
theorem zi_159_218 : zraw 159 218 = some (.iconst 0, 1) ∧ zin 128 0 = true ∧ 218 + 1 = 219 := by decide +kernel
theorem zi_159_219 : zraw 159 219 = some (.iadd, 1) ∧ 219 + 1 = 220 := by decide +kernel
theorem zi_159_220 : zraw 159 220 = some (.ireturn, 1) ∧ (zinf 159).2.2.2.1 = 1 := by decide +kernel
theorem zi_159_221 : zraw 159 221 = some (.aload_n 0, 1) ∧ 221 + 1 = 222 := by decide +kernel
theorem zi_159_222 : zraw 159 222 = some (.invokevirtual 218, 3) ∧ zmt (zinf 159).1 218 = some 144 ∧ Nat.ble 9000 144 = false ∧ zinf 144 = (10, 1, 1, 1, 0) ∧ 222 + 3 = 225 := by decide +kernel
theorem zi_159_225 : zraw 159 225 = some (.iload_n 1, 1) ∧ 225 + 1 = 226 := by decide +kernel
theorem zi_159_226 : zraw 159 226 = some (.if_icmp .ne 7, 3) ∧ ((226 : Nat) : Int) + 7 = Int.ofNat 233 ∧ 226 + 3 = 229 := by decide +kernel
theorem zi_159_229 : zraw 159 229 = some (.iconst 1, 1) ∧ zin 128 1 = true ∧ 229 + 1 = 230 := by decide +kernel
theorem zi_159_230 : zraw 159 230 = some (.goto 4, 3) ∧ ((230 : Nat) : Int) + 4 = Int.ofNat 234 := by decide +kernel
theorem zi_159_233 : zraw 159 233 = some (.iconst 0, 1) ∧ zin 128 0 = true ∧ 233 + 1 = 234 := by decide +kernel
theorem zi_159_234 : zraw 159 234 = some (.istore_n 2, 1) ∧ 234 + 1 = 235 := by decide +kernel
theorem zi_159_235 : zraw 159 235 = some (.aload_n 0, 1) ∧ 235 + 1 = 236 := by decide +kernel
theorem zi_159_236 : zraw 159 236 = some (.dup, 1) ∧ 236 + 1 = 237 := by decide +kernel
theorem zi_159_237 : zraw 159 237 = some (.getfield 212, 3) ∧ zft (zinf 159).1 212 = some (10, 2, 0, false) ∧ 237 + 3 = 240 := by decide +kernel
theorem zi_159_240 : zraw 159 240 = some (.iload_n 2, 1) ∧ 240 + 1 = 241 := by decide +kernel
theorem zi_159_241 : zraw 159 241 = some (.ifCond .eq 7, 3) ∧ ((241 : Nat) : Int) + 7 = Int.ofNat 248 ∧ 241 + 3 = 244 := by decide +kernel
theorem zi_159_244 : zraw 159 244 = some (.iconst 1, 1) ∧ zin 128 1 = true ∧ 244 + 1 = 245 := by decide +kernel
theorem zi_159_245 : zraw 159 245 = some (.goto 4, 3) ∧ ((245 : Nat) : Int) + 4 = Int.ofNat 249 := by decide +kernel
theorem zi_159_248 : zraw 159 248 = some (.iconst 0, 1) ∧ zin 128 0 = true ∧ 248 + 1 = 249 := by decide +kernel
theorem zi_159_249 : zraw 159 249 = some (.iadd, 1) ∧ 249 + 1 = 250 := by decide +kernel
theorem zi_159_250 : zraw 159 250 = some (.putfield 212, 3) ∧ zft (zinf 159).1 212 = some (10, 2, 0, false) ∧ 250 + 3 = 253 := by decide +kernel
theorem zi_159_253 : zraw 159 253 = some (.iload_n 1, 1) ∧ 253 + 1 = 254 := by decide +kernel
theorem zi_159_254 : zraw 159 254 = some (.bipush 46, 2) ∧ zin 128 46 = true ∧ 254 + 2 = 256 := by decide +kernel
theorem zi_159_256 : zraw 159 256 = some (.if_icmp .ne 8, 3) ∧ ((256 : Nat) : Int) + 8 = Int.ofNat 264 ∧ 256 + 3 = 259 := by decide +kernel
theorem zi_159_259 : zraw 159 259 = some (.bipush 11, 2) ∧ zin 128 11 = true ∧ 259 + 2 = 261 := by decide +kernel
theorem zi_159_261 : zraw 159 261 = some (.goto 5, 3) ∧ ((261 : Nat) : Int) + 5 = Int.ofNat 266 := by decide +kernel
theorem zi_159_264 : zraw 159 264 = some (.bipush 13, 2) ∧ zin 128 13 = true ∧ 264 + 2 = 266 := by decide +kernel
theorem zi_159_266 : zraw 159 266 = some (.iload_n 2, 1) ∧ 266 + 1 = 267 := by decide +kernel
theorem zi_159_267 : zraw 159 267 = some (.ifCond .eq 7, 3) ∧ ((267 : Nat) : Int) + 7 = Int.ofNat 274 ∧ 267 + 3 = 270 := by decide +kernel
theorem zi_159_270 : zraw 159 270 = some (.iconst 1, 1) ∧ zin 128 1 = true ∧ 270 + 1 = 271 := by decide +kernel
theorem zi_159_271 : zraw 159 271 = some (.goto 4, 3) ∧ ((271 : Nat) : Int) + 4 = Int.ofNat 275 := by decide +kernel
theorem zi_159_274 : zraw 159 274 = some (.iconst 0, 1) ∧ zin 128 0 = true ∧ 274 + 1 = 275 := by decide +kernel
theorem zi_159_275 : zraw 159 275 = some (.iadd, 1) ∧ 275 + 1 = 276 := by decide +kernel
theorem zi_159_276 : zraw 159 276 = some (.ireturn, 1) ∧ (zinf 159).2.2.2.1 = 1 := by decide +kernel
theorem ze_159 {K : List zF} {σ : zW} (hK : K.length < 60) : zEv true (zent 159 [.inr (.inr 122)] :: K) σ = (zEv true (zent 149 [.inr (.inr 122)] :: (159, 4, [some (.inr (.inr 122)), none, none, none], []) :: K) σ) :=
  yT_en (f := (159, 0, [some (.inr (.inr 122)), none, none, none], [])) rfl (yI_aload_n zi_159_0 rfl <| yI_cv zi_159_1 rfl rfl zk_122 hK)
theorem zr_159_4 {K : List zF} {σ : zW} {o1 : Option zV} {o2 : Option zV} {o3 : Option zV} {v : Int} (hK : K.length < 60) : zRet true ((159, 4, [some (.inr (.inr 122)), o1, o2, o3], []) :: K) (some (.inl v)) σ = (if v = 60 then zEv true ((159, 52, [some (.inr (.inr 122)), some (.inl v), o2, o3], []) :: K) (sL σ 122 3 0) else if v = 62 then zEv true ((159, 52, [some (.inr (.inr 122)), some (.inl v), o2, o3], []) :: K) (sL σ 122 3 0) else if v = 46 then zEv true ((159, 52, [some (.inr (.inr 122)), some (.inl v), o2, o3], []) :: K) (sL σ 122 3 0) else if v = 44 then zEv true ((159, 52, [some (.inr (.inr 122)), some (.inl v), o2, o3], []) :: K) (sL σ 122 3 0) else if v = 36 then zEv true ((159, 52, [some (.inr (.inr 122)), some (.inl v), o2, o3], []) :: K) (sL σ 122 3 0) else zEv true (zent 148 [.inr (.inr 122), .inl 1, .inl (gI σ 122 2)] :: (159, 49, [some (.inr (.inr 122)), some (.inl v), o2, o3], []) :: K) (sL σ 122 3 0)) :=
  yT_rt (yI_istore_n (l := [some (.inr (.inr 122)), some (.inl v), o2, o3]) zi_159_4 rfl rfl <| yI_aload_n zi_159_5 rfl <| yI_lconst zi_159_6 <| yI_pf_l zi_159_7 zk_122 <| yI_iload_n zi_159_10 rfl <| yI_bipush zi_159_11 <| yI_ic_eq zi_159_13 <| yBr (rfl) (yI_iload_n zi_159_16 rfl <| yI_bipush zi_159_17 <| yI_ic_eq zi_159_19 <| yBr (rfl) (yI_iload_n zi_159_22 rfl <| yI_bipush zi_159_23 <| yI_ic_eq zi_159_25 <| yBr (rfl) (yI_iload_n zi_159_28 rfl <| yI_bipush zi_159_29 <| yI_ic_eq zi_159_31 <| yBr (rfl) (yI_iload_n zi_159_34 rfl <| yI_bipush zi_159_35 <| yI_ic_eq zi_159_37 <| yBr (rfl) (yI_aload_n zi_159_40 rfl <| yI_iconst zi_159_41 <| yI_aload_n zi_159_42 rfl <| yI_gf_i (v := gI σ 122 2) zi_159_43 zk_122 rfl <| yI_cv zi_159_46 rfl rfl zk_122 hK))))))
theorem zj_159_52 {K : List zF} {σ : zW} {x1 : Int} {o2 : Option zV} {o3 : Option zV} (hK : K.length < 60) : zEv true ((159, 52, [some (.inr (.inr 122)), some (.inl x1), o2, o3], []) :: K) σ = (if x1 = 60 then zEv true ((159, 74, [some (.inr (.inr 122)), some (.inl x1), o2, o3], []) :: K) (sI σ 122 2 (w32 ((gI σ 122 2) + 1))) else if ¬ x1 = 62 then if ¬ x1 = 36 then zEv true (zent 144 [.inr (.inr 122)] :: (159, 225, [some (.inr (.inr 122)), some (.inl x1), o2, o3], []) :: K) (sI σ 122 2 (w32 ((gI σ 122 2) + 1))) else zEv true (zent 144 [.inr (.inr 122)] :: (159, 112, [some (.inr (.inr 122)), some (.inl x1), o2, o3], []) :: K) (sI σ 122 2 (w32 ((gI σ 122 2) + 1))) else zEv true ((159, 74, [some (.inr (.inr 122)), some (.inl x1), o2, o3], []) :: K) (sI σ 122 2 (w32 ((gI σ 122 2) + 1)))) :=
  yI_aload_n zi_159_52 rfl <| yI_dup_r zi_159_53 <| yI_gf_i (v := gI σ 122 2) zi_159_54 zk_122 rfl <| yI_iconst zi_159_57 <| yI_iadd zi_159_58 <| yI_pf_i zi_159_59 zk_122 <| yI_iload_n zi_159_62 rfl <| yI_bipush zi_159_63 <| yI_ic_eq zi_159_65 <| yBr (rfl) (yI_iload_n zi_159_68 rfl <| yI_bipush zi_159_69 <| yI_ic_ne zi_159_71 <| yBr (yI_iload_n zi_159_102 rfl <| yI_bipush zi_159_103 <| yI_ic_ne zi_159_105 <| yBr (yI_aload_n zi_159_221 rfl <| yI_cv zi_159_222 rfl rfl zk_122 hK) (yI_aload_n zi_159_108 rfl <| yI_cv zi_159_109 rfl rfl zk_122 hK)) (rfl))
theorem zr_159_49 {K : List zF} {σ : zW} {o0 : Option zV} {o1 : Option zV} {o2 : Option zV} {o3 : Option zV} {v : Int} : zRet true ((159, 49, [o0, o1, o2, o3], []) :: K) (some (.inl v)) σ = (zRet true K (some (.inl 0)) σ) :=
  yT_rt (yI_pop_i zi_159_49 <| yI_iconst zi_159_50 <| yI_ireturn zi_159_51)
theorem zj_159_74 {K : List zF} {σ : zW} {x1 : Int} {o2 : Option zV} {o3 : Option zV} (hK : K.length < 60) : zEv true ((159, 74, [some (.inr (.inr 122)), some (.inl x1), o2, o3], []) :: K) σ = (zEv true (zent 160 [.inr (.inr 122), .inl x1] :: (159, 79, [some (.inr (.inr 122)), some (.inl x1), o2, o3], []) :: K) σ) :=
  yI_aload_n zi_159_74 rfl <| yI_iload_n zi_159_75 rfl <| yI_cv zi_159_76 rfl rfl zk_122 hK
theorem zr_159_225 {K : List zF} {σ : zW} {x1 : Int} {o2 : Option zV} {o3 : Option zV} {v : Int} : zRet true ((159, 225, [some (.inr (.inr 122)), some (.inl x1), o2, o3], []) :: K) (some (.inl v)) σ = (zRet true K (some (.inl (w32 ((if ¬ x1 = 46 then 13 else 11 : Int) + (if (if ¬ v = x1 then 0 else 1 : Int) = 0 then 0 else 1 : Int))))) (sI σ 122 2 (w32 ((gI σ 122 2) + (if (if ¬ v = x1 then 0 else 1 : Int) = 0 then 0 else 1 : Int))))) :=
  yT_rt (yI_iload_n zi_159_225 rfl <| yI_ic_ne zi_159_226 <| yMi0 (j := 234) (ls2 := [some (.inr (.inr 122)), some (.inl x1), o2, o3]) (st2 := []) (x := 0) (y := 1) (σ2 := σ) (yI_iconst zi_159_233 <| rfl) (yI_iconst zi_159_229 <| yI_goto zi_159_230 <| rfl) <| yI_istore_n (l := [some (.inr (.inr 122)), some (.inl x1), some (.inl (if ¬ v = x1 then 0 else 1 : Int)), o3]) zi_159_234 rfl rfl <| yI_aload_n zi_159_235 rfl <| yI_dup_r zi_159_236 <| yI_gf_i (v := gI σ 122 2) zi_159_237 zk_122 rfl <| yI_iload_n zi_159_240 rfl <| yI_if_eq zi_159_241 <| yMi0 (j := 249) (ls2 := [some (.inr (.inr 122)), some (.inl x1), some (.inl (if ¬ v = x1 then 0 else 1 : Int)), o3]) (st2 := [.inl (gI σ 122 2), .inr (.inr 122)]) (x := 0) (y := 1) (σ2 := σ) (yI_iconst zi_159_248 <| rfl) (yI_iconst zi_159_244 <| yI_goto zi_159_245 <| rfl) <| yI_iadd zi_159_249 <| yI_pf_i zi_159_250 zk_122 <| yI_iload_n zi_159_253 rfl <| yI_bipush zi_159_254 <| yI_ic_ne zi_159_256 <| yMi0 (j := 266) (ls2 := [some (.inr (.inr 122)), some (.inl x1), some (.inl (if ¬ v = x1 then 0 else 1 : Int)), o3]) (st2 := []) (x := 13) (y := 11) (σ2 := (sI σ 122 2 (w32 ((gI σ 122 2) + (if (if ¬ v = x1 then 0 else 1 : Int) = 0 then 0 else 1 : Int))))) (yI_bipush zi_159_264 <| rfl) (yI_bipush zi_159_259 <| yI_goto zi_159_261 <| rfl) <| yI_iload_n zi_159_266 rfl <| yI_if_eq zi_159_267 <| yMi0 (j := 275) (ls2 := [some (.inr (.inr 122)), some (.inl x1), some (.inl (if ¬ v = x1 then 0 else 1 : Int)), o3]) (st2 := [.inl (if ¬ x1 = 46 then 13 else 11 : Int)]) (x := 0) (y := 1) (σ2 := (sI σ 122 2 (w32 ((gI σ 122 2) + (if (if ¬ v = x1 then 0 else 1 : Int) = 0 then 0 else 1 : Int))))) (yI_iconst zi_159_274 <| rfl) (yI_iconst zi_159_270 <| yI_goto zi_159_271 <| rfl) <| yI_iadd zi_159_275 <| yI_ireturn zi_159_276)
theorem zr_159_112 {K : List zF} {σ : zW} {o1 : Option zV} {o2 : Option zV} {o3 : Option zV} {v : Int} (hK : K.length < 60) : zRet true ((159, 112, [some (.inr (.inr 122)), o1, o2, o3], []) :: K) (some (.inl v)) σ = (if ¬ v = 46 then zEv true (zent 144 [.inr (.inr 122)] :: (159, 126, [some (.inr (.inr 122)), o1, o2, o3], []) :: K) σ else if (16 : Int) ≤ 15 then zEv true ((159, 189, [some (.inr (.inr 122)), (zcut 0 o1), some (.inl 16), o3], []) :: K) (sI σ 122 2 (w32 ((gI σ 122 2) + (if ¬ (16 : Int) = 15 then 1 else 0 : Int)))) else zEv true (zent 144 [.inr (.inr 122)] :: (159, 169, [some (.inr (.inr 122)), (zcut 0 o1), some (.inl 16), o3], []) :: K) (sI σ 122 2 (w32 ((gI σ 122 2) + (if ¬ (16 : Int) = 15 then 1 else 0 : Int))))) :=
  yT_rt (yI_bipush zi_159_112 <| yI_ic_ne zi_159_114 <| yBr (yI_aload_n zi_159_122 rfl <| yI_cv zi_159_123 rfl rfl zk_122 hK) (yI_bipush zi_159_117 <| yI_goto zi_159_119 <| yI_istore_n (l := [some (.inr (.inr 122)), (zcut 0 o1), some (.inl 16), o3]) zi_159_138 rfl rfl <| yI_aload_n zi_159_139 rfl <| yI_dup_r zi_159_140 <| yI_gf_i (v := gI σ 122 2) zi_159_141 zk_122 rfl <| yI_iload_n zi_159_144 rfl <| yI_bipush zi_159_145 <| yI_ic_ne zi_159_147 <| yMi0 (j := 155) (ls2 := [some (.inr (.inr 122)), (zcut 0 o1), some (.inl 16), o3]) (st2 := [.inl (gI σ 122 2), .inr (.inr 122)]) (x := 1) (y := 0) (σ2 := σ) (yI_iconst zi_159_154 <| rfl) (yI_iconst zi_159_150 <| yI_goto zi_159_151 <| rfl) <| yI_iadd zi_159_155 <| yI_pf_i zi_159_156 zk_122 <| yI_iload_n zi_159_159 rfl <| yI_bipush zi_159_160 <| yI_ic_le zi_159_162 <| yBr (rfl) (yI_aload_n zi_159_165 rfl <| yI_cv zi_159_166 rfl rfl zk_122 hK)))
theorem zr_159_79 {K : List zF} {σ : zW} {o0 : Option zV} {x1 : Int} {o2 : Option zV} {o3 : Option zV} {v : Int} : zRet true ((159, 79, [o0, some (.inl x1), o2, o3], []) :: K) (some (.inl v)) σ = (zRet true K (some (.inl (if ¬ v = 0 then (if ¬ x1 = 60 then w32 (5 + v) else v : Int) else 0 : Int))) σ) :=
  yT_rt (yI_istore_n (l := [o0, some (.inl x1), some (.inl v), o3]) zi_159_79 rfl rfl <| yI_iload_n zi_159_80 rfl <| yI_if_ne zi_159_81 <| yMi0 (j := 101) (ls2 := [o0, some (.inl x1), some (.inl v), o3]) (st2 := []) (x := (if ¬ x1 = 60 then w32 (5 + v) else v : Int)) (y := 0) (σ2 := σ) (yI_iload_n zi_159_88 rfl <| yI_bipush zi_159_89 <| yI_ic_ne zi_159_91 <| yMi0 (j := 101) (ls2 := [o0, some (.inl x1), some (.inl v), o3]) (st2 := []) (x := w32 (5 + v)) (y := v) (σ2 := σ) (yI_iconst zi_159_98 <| yI_iload_n zi_159_99 rfl <| yI_iadd zi_159_100 <| rfl) (yI_iload_n zi_159_94 rfl <| yI_goto zi_159_95 <| rfl) <| rfl) (yI_iconst zi_159_84 <| yI_goto zi_159_85 <| rfl) <| yI_ireturn zi_159_101)
theorem zr_159_126 {K : List zF} {σ : zW} {o1 : Option zV} {o2 : Option zV} {o3 : Option zV} {v : Int} (hK : K.length < 60) : zRet true ((159, 126, [some (.inr (.inr 122)), o1, o2, o3], []) :: K) (some (.inl v)) σ = (if (if ¬ v = 44 then 15 else 18 : Int) ≤ 15 then zEv true ((159, 189, [some (.inr (.inr 122)), (zcut 0 o1), some (.inl (if ¬ v = 44 then 15 else 18 : Int)), o3], []) :: K) (sI σ 122 2 (w32 ((gI σ 122 2) + (if ¬ (if ¬ v = 44 then 15 else 18 : Int) = 15 then 1 else 0 : Int)))) else zEv true (zent 144 [.inr (.inr 122)] :: (159, 169, [some (.inr (.inr 122)), (zcut 0 o1), some (.inl (if ¬ v = 44 then 15 else 18 : Int)), o3], []) :: K) (sI σ 122 2 (w32 ((gI σ 122 2) + (if ¬ (if ¬ v = 44 then 15 else 18 : Int) = 15 then 1 else 0 : Int))))) :=
  yT_rt (yI_bipush zi_159_126 <| yI_ic_ne zi_159_128 <| yMi0 (j := 138) (ls2 := [some (.inr (.inr 122)), o1, o2, o3]) (st2 := []) (x := 15) (y := 18) (σ2 := σ) (yI_bipush zi_159_136 <| rfl) (yI_bipush zi_159_131 <| yI_goto zi_159_133 <| rfl) <| yI_istore_n (l := [some (.inr (.inr 122)), (zcut 0 o1), some (.inl (if ¬ v = 44 then 15 else 18 : Int)), o3]) zi_159_138 rfl rfl <| yI_aload_n zi_159_139 rfl <| yI_dup_r zi_159_140 <| yI_gf_i (v := gI σ 122 2) zi_159_141 zk_122 rfl <| yI_iload_n zi_159_144 rfl <| yI_bipush zi_159_145 <| yI_ic_ne zi_159_147 <| yMi0 (j := 155) (ls2 := [some (.inr (.inr 122)), (zcut 0 o1), some (.inl (if ¬ v = 44 then 15 else 18 : Int)), o3]) (st2 := [.inl (gI σ 122 2), .inr (.inr 122)]) (x := 1) (y := 0) (σ2 := σ) (yI_iconst zi_159_154 <| rfl) (yI_iconst zi_159_150 <| yI_goto zi_159_151 <| rfl) <| yI_iadd zi_159_155 <| yI_pf_i zi_159_156 zk_122 <| yI_iload_n zi_159_159 rfl <| yI_bipush zi_159_160 <| yI_ic_le zi_159_162 <| yBr (rfl) (yI_aload_n zi_159_165 rfl <| yI_cv zi_159_166 rfl rfl zk_122 hK))
theorem zj_159_189 {K : List zF} {σ : zW} {o1 : Option zV} {x2 : Int} {o3 : Option zV} : zEv true ((159, 189, [some (.inr (.inr 122)), o1, some (.inl x2), o3], []) :: K) σ = (zRet true K (some (.inl (w32 (x2 + (if (0 : Int) = 0 then 0 else 1 : Int))))) (sI σ 122 2 (w32 ((gI σ 122 2) + (if (0 : Int) = 0 then 0 else 1 : Int))))) :=
  yI_iconst zi_159_189 <| yI_istore_n (l := [some (.inr (.inr 122)), o1, some (.inl x2), some (.inl 0)]) zi_159_190 rfl rfl <| yI_aload_n zi_159_191 rfl <| yI_dup_r zi_159_192 <| yI_gf_i (v := gI σ 122 2) zi_159_193 zk_122 rfl <| yI_iload_n zi_159_196 rfl <| yI_if_eq zi_159_197 <| yMi0 (j := 205) (ls2 := [some (.inr (.inr 122)), o1, some (.inl x2), some (.inl 0)]) (st2 := [.inl (gI σ 122 2), .inr (.inr 122)]) (x := 0) (y := 1) (σ2 := σ) (yI_iconst zi_159_204 <| rfl) (yI_iconst zi_159_200 <| yI_goto zi_159_201 <| rfl) <| yI_iadd zi_159_205 <| yI_pf_i zi_159_206 zk_122 <| yI_iload_n zi_159_209 rfl <| yI_iload_n zi_159_210 rfl <| yI_if_eq zi_159_211 <| yMi0 (j := 219) (ls2 := [some (.inr (.inr 122)), o1, some (.inl x2), some (.inl 0)]) (st2 := [.inl x2]) (x := 0) (y := 1) (σ2 := (sI σ 122 2 (w32 ((gI σ 122 2) + (if (0 : Int) = 0 then 0 else 1 : Int))))) (yI_iconst zi_159_218 <| rfl) (yI_iconst zi_159_214 <| yI_goto zi_159_215 <| rfl) <| yI_iadd zi_159_219 <| yI_ireturn zi_159_220
theorem zr_159_169 {K : List zF} {σ : zW} {o1 : Option zV} {x2 : Int} {o3 : Option zV} {v : Int} : zRet true ((159, 169, [some (.inr (.inr 122)), o1, some (.inl x2), o3], []) :: K) (some (.inl v)) σ = (if ¬ v = (if ¬ x2 = 16 then 44 else 46 : Int) then zEv true ((159, 189, [some (.inr (.inr 122)), o1, some (.inl x2), o3], []) :: K) σ else zRet true K (some (.inl (w32 (x2 + (if (1 : Int) = 0 then 0 else 1 : Int))))) (sI σ 122 2 (w32 ((gI σ 122 2) + (if (1 : Int) = 0 then 0 else 1 : Int))))) :=
  yT_rt (yI_iload_n zi_159_169 rfl <| yI_bipush zi_159_170 <| yI_ic_ne zi_159_172 <| yMi0 (j := 182) (ls2 := [some (.inr (.inr 122)), o1, some (.inl x2), o3]) (st2 := [.inl v]) (x := 44) (y := 46) (σ2 := σ) (yI_bipush zi_159_180 <| rfl) (yI_bipush zi_159_175 <| yI_goto zi_159_177 <| rfl) <| yI_ic_ne zi_159_182 <| yBr (rfl) (yI_iconst zi_159_185 <| yI_goto zi_159_186 <| yI_istore_n (l := [some (.inr (.inr 122)), o1, some (.inl x2), some (.inl 1)]) zi_159_190 rfl rfl <| yI_aload_n zi_159_191 rfl <| yI_dup_r zi_159_192 <| yI_gf_i (v := gI σ 122 2) zi_159_193 zk_122 rfl <| yI_iload_n zi_159_196 rfl <| yI_if_eq zi_159_197 <| yMi0 (j := 205) (ls2 := [some (.inr (.inr 122)), o1, some (.inl x2), some (.inl 1)]) (st2 := [.inl (gI σ 122 2), .inr (.inr 122)]) (x := 0) (y := 1) (σ2 := σ) (yI_iconst zi_159_204 <| rfl) (yI_iconst zi_159_200 <| yI_goto zi_159_201 <| rfl) <| yI_iadd zi_159_205 <| yI_pf_i zi_159_206 zk_122 <| yI_iload_n zi_159_209 rfl <| yI_iload_n zi_159_210 rfl <| yI_if_eq zi_159_211 <| yMi0 (j := 219) (ls2 := [some (.inr (.inr 122)), o1, some (.inl x2), some (.inl 1)]) (st2 := [.inl x2]) (x := 0) (y := 1) (σ2 := (sI σ 122 2 (w32 ((gI σ 122 2) + (if (1 : Int) = 0 then 0 else 1 : Int))))) (yI_iconst zi_159_218 <| rfl) (yI_iconst zi_159_214 <| yI_goto zi_159_215 <| rfl) <| yI_iadd zi_159_219 <| yI_ireturn zi_159_220))
