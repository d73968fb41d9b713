theorem yd_coder_0 : decode prog_21_method_152_code 0 = .ok (.getstatic 38, 3) := by decide +kernel
theorem yd_coder_3 : decode prog_21_method_152_code 3 = .ok (.ifCond .eq 10, 3) := by decide +kernel
theorem yd_coder_6 : decode prog_21_method_152_code 6 = .ok (.aload_n 0, 1) := by decide +kernel
theorem yd_coder_7 : decode prog_21_method_152_code 7 = .ok (.getfield 15, 3) := by decide +kernel
theorem yd_coder_10 : decode prog_21_method_152_code 10 = .ok (.goto 4, 3) := by decide +kernel
theorem yd_coder_14 : decode prog_21_method_152_code 14 = .ok (.ireturn, 1) := by decide +kernel
theorem yd_lat_0 : decode prog_21_method_154_code 0 = .ok (.getstatic 38, 3) := by decide +kernel
theorem yd_lat_3 : decode prog_21_method_154_code 3 = .ok (.ifCond .eq 14, 3) := by decide +kernel
theorem yd_lat_6 : decode prog_21_method_154_code 6 = .ok (.aload_n 0, 1) := by decide +kernel
theorem yd_lat_7 : decode prog_21_method_154_code 7 = .ok (.getfield 15, 3) := by decide +kernel
theorem yd_lat_10 : decode prog_21_method_154_code 10 = .ok (.ifCond .ne 7, 3) := by decide +kernel
theorem yd_lat_13 : decode prog_21_method_154_code 13 = .ok (.iconst 1, 1) := by decide +kernel
theorem yd_lat_14 : decode prog_21_method_154_code 14 = .ok (.goto 4, 3) := by decide +kernel
theorem yd_lat_18 : decode prog_21_method_154_code 18 = .ok (.ireturn, 1) := by decide +kernel
theorem yd_len_0 : decode prog_21_method_54_code 0 = .ok (.aload_n 0, 1) := by decide +kernel
theorem yd_len_1 : decode prog_21_method_54_code 1 = .ok (.getfield 9, 3) := by decide +kernel
theorem yd_len_4 : decode prog_21_method_54_code 4 = .ok (.arraylength, 1) := by decide +kernel
theorem yd_len_5 : decode prog_21_method_54_code 5 = .ok (.aload_n 0, 1) := by decide +kernel
theorem yd_len_6 : decode prog_21_method_54_code 6 = .ok (.invokevirtual 335, 3) := by decide +kernel
theorem yd_len_9 : decode prog_21_method_54_code 9 = .ok (.ishr, 1) := by decide +kernel
theorem yd_len_10 : decode prog_21_method_54_code 10 = .ok (.ireturn, 1) := by decide +kernel
theorem yd_pci_0 : decode prog_25_method_11_code 0 = .ok (.iload_n 0, 1) := by decide +kernel
theorem yd_pci_1 : decode prog_25_method_11_code 1 = .ok (.ifCond .lt 8, 3) := by decide +kernel
theorem yd_pci_4 : decode prog_25_method_11_code 4 = .ok (.iload_n 0, 1) := by decide +kernel
theorem yd_pci_5 : decode prog_25_method_11_code 5 = .ok (.iload_n 1, 1) := by decide +kernel
theorem yd_pci_6 : decode prog_25_method_11_code 6 = .ok (.if_icmp .lt 10, 3) := by decide +kernel
theorem yd_pci_16 : decode prog_25_method_11_code 16 = .ok (.iload_n 0, 1) := by decide +kernel
theorem yd_pci_17 : decode prog_25_method_11_code 17 = .ok (.ireturn, 1) := by decide +kernel
theorem yd_sci_0 : decode prog_21_method_155_code 0 = .ok (.iload_n 0, 1) := by decide +kernel
theorem yd_sci_1 : decode prog_21_method_155_code 1 = .ok (.iload_n 1, 1) := by decide +kernel
theorem yd_sci_2 : decode prog_21_method_155_code 2 = .ok (.getstatic 1053, 3) := by decide +kernel
theorem yd_sci_5 : decode prog_21_method_155_code 5 = .ok (.invokestatic 1059, 3) := by decide +kernel
theorem yd_sci_8 : decode prog_21_method_155_code 8 = .ok (.pop, 1) := by decide +kernel
theorem yd_sci_9 : decode prog_21_method_155_code 9 = .ok (.return_, 1) := by decide +kernel
theorem yd_lca_0 : decode prog_22_method_2_code 0 = .ok (.iload_n 1, 1) := by decide +kernel
theorem yd_lca_1 : decode prog_22_method_2_code 1 = .ok (.aload_n 0, 1) := by decide +kernel
theorem yd_lca_2 : decode prog_22_method_2_code 2 = .ok (.arraylength, 1) := by decide +kernel
theorem yd_lca_3 : decode prog_22_method_2_code 3 = .ok (.invokestatic 9, 3) := by decide +kernel
theorem yd_lca_6 : decode prog_22_method_2_code 6 = .ok (.aload_n 0, 1) := by decide +kernel
theorem yd_lca_7 : decode prog_22_method_2_code 7 = .ok (.iload_n 1, 1) := by decide +kernel
theorem yd_lca_8 : decode prog_22_method_2_code 8 = .ok (.baload, 1) := by decide +kernel
theorem yd_lca_9 : decode prog_22_method_2_code 9 = .ok (.sipush 255, 3) := by decide +kernel
theorem yd_lca_12 : decode prog_22_method_2_code 12 = .ok (.iand, 1) := by decide +kernel
theorem yd_lca_13 : decode prog_22_method_2_code 13 = .ok (.i2c, 1) := by decide +kernel
theorem yd_lca_14 : decode prog_22_method_2_code 14 = .ok (.ireturn, 1) := by decide +kernel
theorem yd_sca_0 : decode prog_21_method_56_code 0 = .ok (.aload_n 0, 1) := by decide +kernel
theorem yd_sca_1 : decode prog_21_method_56_code 1 = .ok (.invokevirtual 492, 3) := by decide +kernel
theorem yd_sca_4 : decode prog_21_method_56_code 4 = .ok (.ifCond .eq 12, 3) := by decide +kernel
theorem yd_sca_7 : decode prog_21_method_56_code 7 = .ok (.aload_n 0, 1) := by decide +kernel
theorem yd_sca_8 : decode prog_21_method_56_code 8 = .ok (.getfield 9, 3) := by decide +kernel
theorem yd_sca_11 : decode prog_21_method_56_code 11 = .ok (.iload_n 1, 1) := by decide +kernel
theorem yd_sca_12 : decode prog_21_method_56_code 12 = .ok (.invokestatic 495, 3) := by decide +kernel
theorem yd_sca_15 : decode prog_21_method_56_code 15 = .ok (.ireturn, 1) := by decide +kernel
theorem yw {n : Nat} {w : Cond} (h : tables_1[n]? = some w) : w ∈ lw_tbl := zw_in h
section YTX2
variable {s0 : State} {a0 : Array Value} {l : Launch} {adK adV : Nat → Nat}
/-- what the texts stand on -/
def yTb (s0 : State) (a0 : Array Value) (adK adV : Nat → Nat) : Prop := (∀ w ∈ lw_tbl, w.before a0 s0 = true) ∧ vk_S 10 yLen yByt adK adV (zA s0) s0 s0.heap ∧ va_Z "java/lang/String" "COMPACT_STRINGS" "Z" (.int 1) (zA s0) s0 s0.heap ∧ ∃ fv : Value, fv.category = 1 ∧ va_Z "jdk/internal/util/Preconditions" "SIOOBE_FORMATTER" "Ljava/util/function/BiFunction;" fv (zA s0) s0 s0.heap
theorem yTb.w (hT : yTb s0 a0 adK adV) {s : State} (hok : yOk s0 s) {args : Array Value} {n : Nat} {w : Cond} (h : tables_1[n]? = some w) (hg : goodWord w = true) : w.before args s = true := word_at hok.1 (good_of_word hg) (hT.1 _ (yw h))
theorem yTb.s (hT : yTb s0 a0 adK adV) {s : State} (hok : yOk s0 s) : vk_S 10 yLen yByt adK adV (zA s0) s s.heap := vk_S.moved hok.1.alike (hT.2.1.kept (fun a ha _ => hok.2.2 a ha))
theorem yTb.z (hT : yTb s0 a0 adK adV) {s : State} (hok : yOk s0 s) : va_Z "java/lang/String" "COMPACT_STRINGS" "Z" (.int 1) (zA s0) s s.heap := va_Z.moved hok.1.alike (hT.2.2.1.kept (fun a ha _ => hok.2.2 a ha))
def yS (n d : String) : MethodName := ⟨"java/lang/String", n, d⟩
theorem y_coder (hT : yTb s0 a0 adK adV) {i : Nat} (hi : i < 10) : yM l s0 (yS "coder" "()B") (Cond.code (yS "coder" "()B") prog_21_method_152_code 1 (some .byte)) [.ref (adK i)] (some (.int 0)) 0 := by
  refine y_body (by decide) ?_
  intro p e s m below meth c hx hb hr hml hown hlk hok
  have hS0 : va_S (zA s0) s.heap s.heap [] := va_S.rf
  have hl := lv_entry [.ref (adK i)] (n := 1) (Nat.le_of_ble_eq_true rfl)
  rw [lg_entry_eq]
  generalize (lg_sl [.ref (adK i)] ++ List.replicate (1 - (lg_sl [.ref (adK i)]).length) Slot.unset).toArray = ls at hl ⊢
  refine va_gets hx hb (hT.z hok) hS0 hown (hT.w hok (n := 748) (by decide +kernel) rfl) (fun x h => h) yd_coder_0 ?_
  refine lv_if_eq hx hb yd_coder_3 (tgt := 13) rfl (fun h => absurd h (by decide)) (fun _ => ?_)
  refine lv_aload_n hx hb yd_coder_6 rfl (lv_at hl 0 rfl) ?_
  refine vk_getf hx hb ((hT.s hok).1 i hi).2.1 hS0 hown (hT.w hok (n := 1253) (by decide +kernel) rfl) (fun x h => h) yd_coder_7 ?_
  refine lv_goto hx hb yd_coder_10 (tgt := 14) rfl ?_
  exact vx_ret (W.zret hx hb hr rfl (fun t ht _ => ⟨rfl, ht⟩) (fun q hq => by cases hq) yd_coder_14 hlk)
theorem y_lat (hT : yTb s0 a0 adK adV) {i : Nat} (hi : i < 10) : yM l s0 (yS "isLatin1" "()Z") (Cond.code (yS "isLatin1" "()Z") prog_21_method_154_code 1 (some .boolean)) [.ref (adK i)] (some (.int 1)) 0 := by
  refine y_body (by decide) ?_
  intro p e s m below meth c hx hb hr hml hown hlk hok
  have hS0 : va_S (zA s0) s.heap s.heap [] := va_S.rf
  have hl := lv_entry [.ref (adK i)] (n := 1) (Nat.le_of_ble_eq_true rfl)
  rw [lg_entry_eq]
  generalize (lg_sl [.ref (adK i)] ++ List.replicate (1 - (lg_sl [.ref (adK i)]).length) Slot.unset).toArray = ls at hl ⊢
  refine va_gets hx hb (hT.z hok) hS0 hown (hT.w hok (n := 748) (by decide +kernel) rfl) (fun x h => h) yd_lat_0 ?_
  refine lv_if_eq hx hb yd_lat_3 (tgt := 17) rfl (fun h => absurd h (by decide)) (fun _ => ?_)
  refine lv_aload_n hx hb yd_lat_6 rfl (lv_at hl 0 rfl) ?_
  refine vk_getf hx hb ((hT.s hok).1 i hi).2.1 hS0 hown (hT.w hok (n := 1253) (by decide +kernel) rfl) (fun x h => h) yd_lat_7 ?_
  refine lv_if_ne hx hb yd_lat_10 (tgt := 17) rfl (fun h => absurd rfl h) (fun _ => ?_)
  refine lv_iconst (v := 1) hx hb yd_lat_13 rfl ?_
  refine lv_goto hx hb yd_lat_14 (tgt := 18) rfl ?_
  exact vx_ret (W.zret hx hb hr rfl (fun t ht _ => ⟨rfl, ht⟩) (fun q hq => by cases hq) yd_lat_18 hlk)
theorem y_len (hT : yTb s0 a0 adK adV) {i : Nat} (hi : i < 10) : yM l s0 (yS "length" "()I") (Cond.code (yS "length" "()I") prog_21_method_54_code 1 (some .int)) [.ref (adK i)] (some (.int (Int32.ofNat (yLen.getD i 0)))) 1 := by
  refine y_body (by decide) ?_
  intro p e s m below meth c hx hb hr hml hown hlk hok
  have hS0 : va_S (zA s0) s.heap s.heap [] := va_S.rf
  have hl := lv_entry [.ref (adK i)] (n := 1) (Nat.le_of_ble_eq_true rfl)
  have hsz := hl.1
  rw [lg_entry_eq]
  generalize (lg_sl [.ref (adK i)] ++ List.replicate (1 - (lg_sl [.ref (adK i)]).length) Slot.unset).toArray = ls at hl hsz ⊢
  refine lv_aload_n hx hb yd_len_0 rfl (lv_at hl 0 rfl) ?_
  refine vk_getf hx hb ((hT.s hok).1 i hi).2.2.1 hS0 hown (hT.w hok (n := 1252) (by decide +kernel) rfl) (fun x h => h) yd_len_1 ?_
  refine va_tlen hx hb ((hT.s hok).1 i hi).2.2.2 hS0 rfl yd_len_4 ?_
  refine lv_aload_n hx hb yd_len_5 rfl (lv_at hl 0 rfl) ?_
  refine y_callv (As := []) (n := 0) (y_coder hT hi) hx hb hml hown hT.1 hok (fun q h => h) hS0 (yw (n := 747) (by decide +kernel)) (yw (n := 19) (by decide +kernel)) (yw (n := 744) (by decide +kernel)) (yw (n := 745) (by decide +kernel)) (yw (n := 746) (by decide +kernel)) (by decide) (by decide +kernel) rfl (vk_recv (hT.s hok) hi hS0) (by decide) (by decide) hsz (by show (1 : Nat) + 0 ≤ 8; omega) (Nat.le_refl _) (Nat.le_refl _) yd_len_6 ?_
  refine lv_ishr hx hb yd_len_9 ?_
  have hv : Int32.ofNat (yLen.getD i 0) >>> ((0 : Int32) &&& 31) = Int32.ofNat (yLen.getD i 0) := by
    have : ∀ i, i < 10 → Int32.ofNat (yLen.getD i 0) >>> ((0 : Int32) &&& 31) = Int32.ofNat (yLen.getD i 0) := by decide +kernel
    exact this i hi
  rw [hv]
  exact vx_ret (W.iret hx hb hr (fun t ht _ => ⟨rfl, ht⟩) (fun q hq => by cases hq) yd_len_10 hlk)
def yPci : MethodName := ⟨"jdk/internal/util/Preconditions", "checkIndex", "(IILjava/util/function/BiFunction;)I"⟩
theorem y_pci {x n : Int32} {fv : Value} (hfv : fv.category = 1) (h0 : ¬ x < 0) (h1 : x < n) : yM l s0 yPci (Cond.code yPci prog_25_method_11_code 3 (some .int)) [.int x, .int n, fv] (some (.int x)) 0 := by
  refine y_body (by decide) ?_
  intro p e s m below meth c hx hb hr hml hown hlk hok
  have hcl : (lg_sl [.int x, .int n, fv]).length ≤ 3 := by
    show ((if (Value.int x).category = 2 then _ else _) ++ ((if (Value.int n).category = 2 then _ else _) ++ ((if fv.category = 2 then _ else _) ++ ([] : List Slot)))).length ≤ 3
    rw [hfv]
    exact Nat.le_of_ble_eq_true rfl
  have hl := lv_entry [.int x, .int n, fv] (n := 3) hcl
  rw [lg_entry_eq]
  generalize (lg_sl [.int x, .int n, fv] ++ List.replicate (3 - (lg_sl [.int x, .int n, fv]).length) Slot.unset).toArray = ls at hl ⊢
  refine lv_iload_n hx hb yd_pci_0 rfl (lv_at hl 0 rfl) ?_
  refine lv_if_lt hx hb yd_pci_1 (tgt := 9) rfl (fun h => absurd h h0) (fun _ => ?_)
  refine lv_iload_n hx hb yd_pci_4 rfl (lv_at hl 0 rfl) ?_
  refine lv_iload_n hx hb yd_pci_5 rfl (lv_at hl 1 rfl) ?_
  refine lv_icmp_lt hx hb yd_pci_6 (tgt := 16) rfl (fun _ => ?_) (fun h => absurd h1 h)
  refine lv_iload_n hx hb yd_pci_16 rfl (lv_at hl 0 rfl) ?_
  exact vx_ret (W.iret hx hb hr (fun t ht _ => ⟨rfl, ht⟩) (fun q hq => by cases hq) yd_pci_17 hlk)
theorem y_sci (hT : yTb s0 a0 adK adV) {x n : Int32} (h0 : ¬ x < 0) (h1 : x < n) : yM l s0 (yS "checkIndex" "(II)V") (Cond.code (yS "checkIndex" "(II)V") prog_21_method_155_code 2 none) [.int x, .int n] none 1 := by
  obtain ⟨fv, hfv, hZ⟩ := hT.2.2.2
  refine y_body (by decide) ?_
  intro p e s m below meth c hx hb hr hml hown hlk hok
  have hS0 : va_S (zA s0) s.heap s.heap [] := va_S.rf
  have hl := lv_entry [.int x, .int n] (n := 2) (Nat.le_of_ble_eq_true rfl)
  have hsz := hl.1
  rw [lg_entry_eq]
  generalize (lg_sl [.int x, .int n] ++ List.replicate (2 - (lg_sl [.int x, .int n]).length) Slot.unset).toArray = ls at hl hsz ⊢
  refine lv_iload_n hx hb yd_sci_0 rfl (lv_at hl 0 rfl) ?_
  refine lv_iload_n hx hb yd_sci_1 rfl (lv_at hl 1 rfl) ?_
  refine va_gets hx hb (va_Z.moved hok.1.alike (hZ.kept (fun a ha _ => hok.2.2 a ha))) hS0 hown (hT.w hok (n := 764) (by decide +kernel) rfl) (fun x h => h) yd_sci_2 ?_
  refine y_calls (As := [.int x, .int n, fv]) (rest := []) (n := 3) (y_pci hfv h0 h1) hx hb hml hown hT.1 hok (fun q h => h) hS0 (yw (n := 768) (by decide +kernel)) (yw (n := 21) (by decide +kernel)) (yw (n := 766) (by decide +kernel)) (yw (n := 767) (by decide +kernel)) (by decide) (by decide +kernel) rfl (by decide) (by decide) hsz (by decide) (Nat.le_refl _) (Nat.le_refl _) yd_sci_5 ?_
  refine lv_pop hx hb yd_sci_8 rfl ?_
  exact vx_ret (W.vret hx hb hr (fun t ht _ => ⟨rfl, ht⟩) (fun q hq => by cases hq) yd_sci_9 hlk)
def yLca : MethodName := ⟨"java/lang/StringLatin1", "charAt", "([BI)C"⟩
theorem y_chars : ∀ i, i < 10 → ∀ j, j < yLen.getD i 0 → (((yByt.getD i []).getD j 0 &&& 255).toUInt32 % 65536).toInt32 = Int32.ofNat (zth 0 (ztx (100000 + i)) j) ∧ narrow .char (.int (Int32.ofNat (zth 0 (ztx (100000 + i)) j))) = .int (Int32.ofNat (zth 0 (ztx (100000 + i)) j)) := by decide +kernel
theorem y_lens : ∀ i, i < 10 → yLen.getD i 0 = (ztx (100000 + i)).length ∧ yLen.getD i 0 < 100 := by decide +kernel
theorem y_lca (hT : yTb s0 a0 adK adV) {i j : Nat} (hi : i < 10) (hj : j < yLen.getD i 0) {x : Int32} (hxj : x.toInt = (j : Int)) : yM l s0 yLca (Cond.code yLca prog_22_method_2_code 2 (some .char)) [.ref (adV i), .int x] (some (.int (Int32.ofNat (zth 0 (ztx (100000 + i)) j)))) 2 := by
  have hL := (y_lens i hi).2
  have h0 : ¬ x < 0 := by
    rw [Int32.lt_iff_toInt_lt, hxj]
    show ¬ (j : Int) < 0
    omega
  have hcl : x.toNatClampNeg = j := by
    show x.toInt.toNat = j
    rw [hxj]; rfl
  have h1 : x < Int32.ofNat (yLen.getD i 0) := by
    rw [Int32.lt_iff_toInt_lt, hxj, Int32.toInt_ofNat']
    unfold Int.bmod
    simp only [show ((2 ^ 32 : Nat) : Int) = 4294967296 by decide]
    split <;> omega
  refine y_body (by decide) ?_
  intro p e s m below meth c hx hb hr hml hown hlk hok
  have hS0 : va_S (zA s0) s.heap s.heap [] := va_S.rf
  have hl := lv_entry [.ref (adV i), .int x] (n := 2) (Nat.le_of_ble_eq_true rfl)
  have hsz := hl.1
  have hA := ((hT.s hok).1 i hi).2.2.2
  rw [lg_entry_eq]
  generalize (lg_sl [.ref (adV i), .int x] ++ List.replicate (2 - (lg_sl [.ref (adV i), .int x]).length) Slot.unset).toArray = ls at hl hsz ⊢
  refine lv_iload_n hx hb yd_lca_0 rfl (lv_at hl 1 rfl) ?_
  refine lv_aload_n hx hb yd_lca_1 rfl (lv_at hl 0 rfl) ?_
  refine va_tlen hx hb hA hS0 rfl yd_lca_2 ?_
  refine y_calls (As := [.int x, .int (Int32.ofNat (yLen.getD i 0))]) (rest := []) (n := 2) (y_sci hT h0 h1) hx hb hml hown hT.1 hok (fun q h => h) hS0 (yw (n := 763) (by decide +kernel)) (yw (n := 19) (by decide +kernel)) (yw (n := 761) (by decide +kernel)) (yw (n := 762) (by decide +kernel)) (by decide) (by decide +kernel) rfl (by decide) (by decide) hsz (by decide) (Nat.le_refl _) (Nat.le_refl _) yd_lca_3 ?_
  refine lv_aload_n hx hb yd_lca_6 rfl (lv_at hl 0 rfl) ?_
  refine lv_iload_n hx hb yd_lca_7 rfl (lv_at hl 1 rfl) ?_
  refine va_tb hx hb hA hS0 (i := x) (fun q => by rw [hcl] at q; rcases q with q | q; exact h0 q; omega) (v := .int ((yByt.getD i []).getD j 0)) (by rw [hcl]) yd_lca_8 ?_
  refine lv_sipush (v := 255) hx hb yd_lca_9 (by decide) ?_
  refine lv_iand hx hb yd_lca_12 ?_
  refine lv_i2c hx hb yd_lca_13 (y_chars i hi j hj).1 ?_
  exact vx_ret (W.zret hx hb hr (y_chars i hi j hj).2 (fun t ht _ => ⟨rfl, ht⟩) (fun q hq => by cases hq) yd_lca_14 hlk)
theorem y_sca (hT : yTb s0 a0 adK adV) {i j : Nat} (hi : i < 10) (hj : j < yLen.getD i 0) {x : Int32} (hxj : x.toInt = (j : Int)) : yM l s0 (yS "charAt" "(I)C") (Cond.code (yS "charAt" "(I)C") prog_21_method_56_code 2 (some .char)) [.ref (adK i), .int x] (some (.int (Int32.ofNat (zth 0 (ztx (100000 + i)) j)))) 3 := by
  refine y_body (by decide) ?_
  intro p e s m below meth c hx hb hr hml hown hlk hok
  have hS0 : va_S (zA s0) s.heap s.heap [] := va_S.rf
  have hl := lv_entry [.ref (adK i), .int x] (n := 2) (Nat.le_of_ble_eq_true rfl)
  have hsz := hl.1
  rw [lg_entry_eq]
  generalize (lg_sl [.ref (adK i), .int x] ++ List.replicate (2 - (lg_sl [.ref (adK i), .int x]).length) Slot.unset).toArray = ls at hl hsz ⊢
  refine lv_aload_n hx hb yd_sca_0 rfl (lv_at hl 0 rfl) ?_
  refine y_callv (As := []) (rest := []) (n := 0) (y_lat hT hi) hx hb hml hown hT.1 hok (fun q h => h) hS0 (yw (n := 757) (by decide +kernel)) (yw (n := 19) (by decide +kernel)) (yw (n := 754) (by decide +kernel)) (yw (n := 755) (by decide +kernel)) (yw (n := 756) (by decide +kernel)) (by decide) (by decide +kernel) rfl (vk_recv (hT.s hok) hi hS0) (by decide) (by decide) hsz (by decide) (Nat.le_refl _) (Nat.le_refl _) yd_sca_1 ?_
  refine lv_if_eq hx hb yd_sca_4 (tgt := 16) rfl (fun h => absurd h (by decide)) (fun _ => ?_)
  refine lv_aload_n hx hb yd_sca_7 rfl (lv_at hl 0 rfl) ?_
  refine vk_getf hx hb ((hT.s hok).1 i hi).2.2.1 hS0 hown (hT.w hok (n := 1252) (by decide +kernel) rfl) (fun x h => h) yd_sca_8 ?_
  refine lv_iload_n hx hb yd_sca_11 rfl (lv_at hl 1 rfl) ?_
  refine y_calls (As := [.ref (adV i), .int x]) (rest := []) (n := 2) (y_lca hT hi hj hxj) hx hb hml hown hT.1 hok (fun q h => h) hS0 (yw (n := 760) (by decide +kernel)) (yw (n := 20) (by decide +kernel)) (yw (n := 758) (by decide +kernel)) (yw (n := 759) (by decide +kernel)) (by decide) (by decide +kernel) rfl (by decide) (by decide) hsz (by decide) (Nat.le_refl _) (Nat.le_refl _) yd_sca_12 ?_
  exact vx_ret (W.zret hx hb hr (y_chars i hi j hj).2 (fun t ht _ => ⟨rfl, ht⟩) (fun q hq => by cases hq) yd_sca_15 hlk)
theorem y_mt9 : (zmts.all fun l => l.all fun e => !(Nat.beq e.2 9002) || Nat.beq e.1 54) = true ∧ (zmts.all fun l => l.all fun e => !(Nat.beq e.2 9003) || Nat.beq e.1 58) = true ∧ ((List.range 15).all fun o => Nat.beq o 7 || (zth [] zmts o).all fun e => !(Nat.beq e.2 9002) && !(Nat.beq e.2 9003)) = true ∧ zCn 7 = "Treegrab$Tape" := by decide +kernel
theorem y_mt_ok {o n q : Nat} (h : zmt o n = some q) (hq : q = 9002 ∨ q = 9003) : o = 7 ∧ (q = 9002 → n = 54) ∧ (q = 9003 → n = 58) := by
  have h1 := zlk_mem h
  obtain ⟨h2, h3, h4, -⟩ := y_mt9
  have key : ∀ (ls : List (List (Nat × Nat))) (P : Nat × Nat → Bool), (ls.all fun l => l.all P) = true → ∀ o, (zth [] ls o).all P = true := by
    intro ls P hl o
    exact zth_all (P := fun (x : List (Nat × Nat)) => x.all P = true) rfl (List.all_eq_true.mp hl) o
  have g2 := List.all_eq_true.mp (key _ _ h2 o) _ h1
  have g3 := List.all_eq_true.mp (key _ _ h3 o) _ h1
  refine ⟨?_, fun e => ?_, fun e => ?_⟩
  · rcases Nat.lt_or_ge o 15 with r | r
    · have h5 := List.all_eq_true.mp h4 o (List.mem_range.mpr r)
      rw [Bool.or_eq_true] at h5
      rcases h5 with h5 | h5
      · exact Nat.eq_of_beq_eq_true h5
      · have h6 := List.all_eq_true.mp h5 _ h1
        rcases hq with rfl | rfl <;> simp at h6
    · exfalso
      have h6 : zth [] zmts o = [] := by
        rw [zth_getD, List.getD_eq_getElem?_getD, List.getElem?_eq_none (show zmts.length ≤ o from Nat.le_trans (by decide) r)]
        rfl
      rw [h6] at h1; cases h1
  · subst e
    simpa using g2
  · subst e
    simpa using g3
theorem yTb_of {b : Nat} (hts : ∀ w ∈ lw_tbl, w.before #[Value.ref b] s0 = true) (hgv : (Jvm.Cond.and given_1 narrow_1).before #[Value.ref b] s0 = true) (hS : vk_S 10 yLen yByt adK adV (zA s0) s0 s0.heap) : yTb s0 #[Value.ref b] adK adV := by
  have hA : ∀ a : Nat, a < s0.heap.size → ¬ zA s0 a := fun a ha => Nat.not_le.mpr ha
  refine ⟨hts, hS, va_Zof (hts _ (yw (n := 749) (by decide +kernel))) (hts _ (yw (n := 19) (by decide +kernel))) (va_eqt (y_fl hgv (n := 6) (by decide +kernel))) hA, ?_⟩
  have h := va_Zqof (C := "jdk/internal/util/Preconditions") (n := "SIOOBE_FORMATTER") (d := "Ljava/util/function/BiFunction;") (hts _ (yw (n := 765) (by decide +kernel))) (hts _ (yw (n := 21) (by decide +kernel))) (y_fl hgv (n := 7) (by decide +kernel)) hA
  rcases h with h | ⟨t, h⟩
  · exact ⟨_, rfl, h⟩
  · exact ⟨_, rfl, h⟩
theorem y_zkd {k : Nat} (h : zkd k = 31) : ∃ i, i < 10 ∧ k = 100000 + i := by
  unfold zkd at h
  cases hb : Nat.ble 124 k with
  | true =>
    rw [hb] at h
    simp only [cond_true] at h
    cases h9 : Nat.beq k 99999 with
    | true => rw [h9] at h; simp at h
    | false =>
      rw [h9] at h
      cases h8 : (Nat.ble 100000 k && Nat.blt k 100010) with
      | false => rw [h8] at h; simp at h
      | true =>
        simp only [Bool.and_eq_true, Nat.blt_eq] at h8
        have := Nat.le_of_ble_eq_true h8.1
        exact ⟨k - 100000, by omega, by omega⟩
  | false =>
    exfalso
    have hk : k < 124 := by
      rcases Nat.lt_or_ge k 124 with q | q
      · exact q
      · rw [Nat.ble_eq.mpr q] at hb; cases hb
    rw [hb] at h
    have : ∀ k, k < 124 → ¬ (zth2 (0, 0) zkds k).1 = 31 := by decide +kernel
    exact this k hk h
theorem y_zTx {D : va_G} {c4 : zC4} {b L : Nat} {xs : Nat → Int32} (hT : yTb s0 #[Value.ref b] adK adV) (hB : zBase s0 #[Value.ref b] D c4 b L xs adK) : zTx s0 D c4 b L xs adK l := by
  intro p e R s m args below meth c Q y hC hf hlo
  obtain ⟨hx, hb, hr, hml, hown, htab, hini, hlk, hW, hsz, hold⟩ := id hC
  have hok : yOk s0 s := ⟨hW, hsz, hold⟩
  constructor
  · intro n k pc H locs cells slots ls rest hls hS hm hk hdg hcat hce hsl kk
    obtain ⟨h1, h2, -⟩ := y_mt_ok hm (Or.inl rfl)
    have h2 := h2 rfl
    subst h2
    obtain ⟨i, hi, rfl⟩ := y_zkd hk
    rw [h1, y_mt9.2.2.2] at hown
    rw [show 100000 + i - 100000 = i by omega]
    have k2 := kk H locs rfl hS
    rw [← (y_lens i hi).1] at k2
    exact y_callv (As := []) (n := 0) (y_len hT hi) hx hb hml hown hT.1 hok (fun q h => h) hS (yw (n := 743) (by decide +kernel)) (yw (n := 19) (by decide +kernel)) (yw (n := 740) (by decide +kernel)) (yw (n := 741) (by decide +kernel)) (yw (n := 742) (by decide +kernel)) (by decide) (by decide +kernel) rfl (vk_recv (hT.s hok) hi hS) (by omega) (by omega) (by rw [hls, hml]) hcat hce hsl hdg k2
  · intro n k j pc H locs cells slots ls rest x hls hS hm hk hj hxj hdg hcat hce hsl kk
    obtain ⟨h1, -, h2⟩ := y_mt_ok hm (Or.inr rfl)
    have h2 := h2 rfl
    subst h2
    obtain ⟨i, hi, rfl⟩ := y_zkd hk
    rw [h1, y_mt9.2.2.2] at hown
    rw [show 100000 + i - 100000 = i by omega]
    have k2 := kk H locs rfl hS
    exact y_callv (As := [.int x]) (n := 1) (y_sca hT hi (by rw [(y_lens i hi).1]; exact hj) hxj) hx hb hml hown hT.1 hok (fun q h => h) hS (yw (n := 753) (by decide +kernel)) (yw (n := 19) (by decide +kernel)) (yw (n := 750) (by decide +kernel)) (yw (n := 751) (by decide +kernel)) (yw (n := 752) (by decide +kernel)) (by decide) (by decide +kernel) rfl (vk_recv (hT.s hok) hi hS) (by omega) (by omega) (by rw [hls, hml]) hcat hce hsl hdg k2
end YTX2
