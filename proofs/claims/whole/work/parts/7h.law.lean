/-! the law, call by call -/
abbrev lF (pc : Nat) (x : Int) (o5 o6 : Option zV) (s : List zV) : zF := (270, pc, [some (.inr (.inr 99999)), some (.inr (.inr 1)), some (.inr (.inr 122)), some (.inr (.inr 186)), some (.inl x), o5, o6], s)
def LI (L : Nat) (h : Nat → Int) (n : Nat) (S : STA) (u m : Nat) (σ : zW) : Prop := SG S ∧ CS S u σ ∧ MS S m σ ∧ u ≤ n ∧ m ≤ n ∧ gC σ ≤ 186 + n ∧ gS σ ≤ 40100 + 6 * n ∧ gI σ 99998 0 = (L : Int) ∧ ∀ j, gI σ 99999 j = h j
def LN (L : Nat) (h : Nat → Int) (n : Nat) : Prop := ∀ (S : STA) (u m : Nat) (σ : zW) (o5 o6 : Option zV), LI L h (n + 1) S u m σ → zEv true [lF 23 ((4 * (n + 1) : Nat) : Int) o5 o6 []] σ
theorem lw1 {n : Nat} (hn : n < 10000) : w32 (((4 * n : Nat) : Int) + 1) = ((4 * n + 1 : Nat) : Int) := by rw [zw_id (by omega) (by omega)]; omega
theorem lw2 {n : Nat} (hn : n < 10000) : w32 (((4 * n : Nat) : Int) + 2) = ((4 * n + 2 : Nat) : Int) := by rw [zw_id (by omega) (by omega)]; omega
theorem lw3 {n : Nat} (hn : n < 10000) : w32 (((4 * n : Nat) : Int) + 3) = ((4 * n + 3 : Nat) : Int) := by rw [zw_id (by omega) (by omega)]; omega
theorem lw4 {n : Nat} (hn : n < 10000) : w32 (((4 * n : Nat) : Int) + 4) = ((4 * (n + 1) : Nat) : Int) := by rw [zw_id (by omega) (by omega)]; omega
theorem l1 {F : zF} {c : Nat} (h : 1 + c ≤ 60) : [F].length + c ≤ 60 := h
theorem law_go {L n u m p1 p2 p3 : Nat} {h : Nat → Int} {S : STA} {σ : zW} {o : OUT} {A B : zF} {o5 o6 : Option zV} (hI : LI L h n S u m σ) (hSG : SG o.2.2) (next : LN L h n)
    (lA : kOp S u σ [lF p1 ((4 * n : Nat) : Int) o5 o6 []] o → zEv true (A :: [lF p1 ((4 * n : Nat) : Int) o5 o6 []]) σ)
    (e1 : ∀ (v : Int) (σ1 : zW), gI σ1 99998 0 = (L : Int) → (∀ j, gI σ1 99999 j = h j) → zRet true [lF p1 ((4 * n : Nat) : Int) o5 o6 []] (some (.inl v)) σ1 = zEv true (B :: [lF p2 ((4 * n : Nat) : Int) (some (.inl v)) o6 []]) σ1)
    (nB : ∀ (v : Int) (σ1 : zW), MS S m σ1 → nOp S m σ1 [lF p2 ((4 * n : Nat) : Int) (some (.inl v)) o6 []] o → zEv true (B :: [lF p2 ((4 * n : Nat) : Int) (some (.inl v)) o6 []]) σ1)
    (e2 : ∀ (v w : Int) (σ1 : zW), zRet true [lF p2 ((4 * n : Nat) : Int) (some (.inl v)) o6 []] (some (.inl w)) σ1 = zEv true (zent 140 [.inr (.inr 122)] :: [lF p3 ((4 * n : Nat) : Int) (some (.inl v)) (some (.inl w)) []]) σ1)
    (e3 : ∀ (v w t : Int) (σ1 : zW), zRet true [lF p3 ((4 * n : Nat) : Int) (some (.inl v)) (some (.inl w)) []] (some (.inl t)) σ1 = (if t = v then if ¬ v = 0 then zEv true [lF 23 ((4 * (n + 1) : Nat) : Int) (some (.inl v)) (some (.inl w)) []] σ1 else if (zlc (gL σ1 186 0) (zi2l w)) = 0 then zEv true [lF 23 ((4 * (n + 1) : Nat) : Int) (some (.inl v)) (some (.inl w)) []] σ1 else zRet true [] (some (.inl 0)) σ1 else zRet true [] (some (.inl 0)) σ1)) :
    zEv true (A :: [lF p1 ((4 * n : Nat) : Int) o5 o6 []]) σ := by
  obtain ⟨hg, hC, hM, hu, hm, hc, hs, h98, h99⟩ := hI
  refine lA (fun σ1 u' hF1 hC1 hu1 hans => ?_)
  have c1 : ∀ k j, 187 ≤ k → gI σ1 k j = gI σ k j := fun k j hk => (hF1.1 k j (by omega)).1
  rw [e1 _ σ1 ((c1 _ _ (by omega)).trans h98) (fun j => (c1 _ _ (by omega)).trans (h99 j))]
  have hM1 : MS S m σ1 := MS_x hM hF1 (fun k j x => by
    rcases x with x | x
    · exact Or.inl x
    · exact Or.inr (Or.inl (by omega)))
  refine nB _ σ1 hM1 (fun σ2 m' w hF2 hM2 hm2 h88 hw => ?_)
  rw [e2, ze_140, e3, h88, if_pos rfl]
  have hC2 := CS_fr hC1 hF2 (fun k j x => Or.inl x.1)
  have e186 : gL σ2 186 0 = gL σ1 186 0 := hF2.l (by omega)
  have hcc : gC σ2 = gC σ1 := hF2.2.2.1
  have hss : gS σ2 = gS σ1 := hF2.2.2.2
  have hc1 := hF1.2.1
  have hs1 := hF1.2.2
  have go : ∀ o5 o6, zEv true [lF 23 ((4 * (n + 1) : Nat) : Int) o5 o6 []] σ2 := fun o5 o6 => next o.2.2 u' m' σ2 o5 o6 ⟨hSG, hC2, hM2, by omega, by omega, by omega, by omega, (hF2.i (by omega)).trans ((c1 _ _ (by omega)).trans h98), fun j => (hF2.i (by omega)).trans ((c1 _ _ (by omega)).trans (h99 j))⟩
  by_cases c : o.1 = 0
  · rw [if_neg (show ¬ ¬ (o.1 : Int) = 0 from fun x => x (by omega)), e186, hans c, hw c, if_pos (zlc_eq.mpr rfl)]
    exact go _ _
  · rw [if_pos (show ¬ (o.1 : Int) = 0 by omega)]
    exact go _ _
theorem law_0 {L n u m : Nat} {h : Nat → Int} {S : STA} {σ : zW} {o5 o6 : Option zV} (hI : LI L h n S u m σ) (hn : 4 * n + 4 ≤ L) (hL : L ≤ 2048) (next : LN L h n) : zEv true (zent 251 [.inr (.inr 1), .inr (.inl ((zlshl (zi2l (h (4 * n + 1))) 32) ||| ((zi2l (h (4 * n + 2))) &&& 4294967295))), .inl (h (4 * n + 3)), .inr (.inr 186)] :: [lF 169 ((4 * n : Nat) : Int) o5 o6 []]) σ := by
  have hn1 : n < 10000 := by omega
  have hn5 : n < 512 := by omega
  refine law_go (o := oFeed S ((zlshl (zi2l (h (4 * n + 1))) 32) ||| ((zi2l (h (4 * n + 2))) &&& 4294967295)) (h (4 * n + 3))) (p1 := 169) (p2 := 203) (p3 := 209) (B := zent 170 [.inr (.inr 122), .inr (.inl ((zlshl (zi2l (h (4 * n + 1))) 32) ||| ((zi2l (h (4 * n + 2))) &&& 4294967295))), .inl (h (4 * n + 3))]) hI (SG_feed hI.1) next (fun k => l_feed (l1 (by decide)) hI.2.1 k) (fun v σ1 h1 h2 => ?_) (fun v σ1 hM k => n_feed (l1 (by decide)) hM k) (fun v w σ1 => zr_270_203 (by decide)) (fun v w t σ1 => ?_)
  · rw [zr_270_169 (by decide), lw1 hn1, lw2 hn1, lw3 hn1, h1, yAnd (show 0 ≤ ((4 * n + 1 : Nat) : Int) ∧ ((4 * n + 1 : Nat) : Int) < (L : Int) by omega), yAnd (show 0 ≤ ((4 * n + 2 : Nat) : Int) ∧ ((4 * n + 2 : Nat) : Int) < (L : Int) by omega), yAnd (show 0 ≤ ((4 * n + 3 : Nat) : Int) ∧ ((4 * n + 3 : Nat) : Int) < (L : Int) by omega), Int.toNat_natCast, Int.toNat_natCast, Int.toNat_natCast, h2 (4 * n + 1), h2 (4 * n + 2), h2 (4 * n + 3)]
  · rw [zr_270_209, lw4 hn1]
theorem law_1 {L n u m : Nat} {h : Nat → Int} {S : STA} {σ : zW} {o5 o6 : Option zV} (hI : LI L h n S u m σ) (hn : 4 * n + 4 ≤ L) (hL : L ≤ 2048) (next : LN L h n) : zEv true (zent 252 [.inr (.inr 1), .inl (h (4 * n + 1)), .inr (.inr 186)] :: [lF 247 ((4 * n : Nat) : Int) o5 o6 []]) σ := by
  have hn1 : n < 10000 := by omega
  have hn5 : n < 512 := by omega
  refine law_go (o := oPlant S (h (4 * n + 1))) (p1 := 247) (p2 := 259) (p3 := 265) (B := zent 173 [.inr (.inr 122), .inl (h (4 * n + 1))]) hI (SG_plant hI.1) next (fun k => l_plant (l1 (by decide)) hI.2.1 k) (fun v σ1 h1 h2 => ?_) (fun v σ1 hM k => n_plant (l1 (by decide)) hI.1 hM (by have := hI.2.2.2.2.1; omega) k) (fun v w σ1 => zr_270_259 (by decide)) (fun v w t σ1 => ?_)
  · rw [zr_270_247 (by decide), lw1 hn1, h1, yAnd (show 0 ≤ ((4 * n + 1 : Nat) : Int) ∧ ((4 * n + 1 : Nat) : Int) < (L : Int) by omega), Int.toNat_natCast, h2 (4 * n + 1)]
  · rw [zr_270_265, lw4 hn1]
theorem law_2 {L n u m : Nat} {h : Nat → Int} {S : STA} {σ : zW} {o5 o6 : Option zV} (hI : LI L h n S u m σ) (hn : 4 * n + 4 ≤ L) (hL : L ≤ 2048) (next : LN L h n) : zEv true (zent 253 [.inr (.inr 1), .inr (.inr 186)] :: [lF 297 ((4 * n : Nat) : Int) o5 o6 []]) σ := by
  have hn1 : n < 10000 := by omega
  have hn5 : n < 512 := by omega
  refine law_go (o := oPattern S) (p1 := 297) (p2 := 303) (p3 := 309) (B := zent 174 [.inr (.inr 122)]) hI (SG_pattern hI.1 hI.2.1.1.2.2.1) next (fun k => l_pattern (l1 (by decide)) hI.2.1 k) (fun v σ1 h1 h2 => ?_) (fun v σ1 hM k => n_pattern (l1 (by decide)) hM k) (fun v w σ1 => zr_270_303 (by decide)) (fun v w t σ1 => ?_)
  · rw [zr_270_297 (by decide)]
  · rw [zr_270_309, lw4 hn1]
theorem law_3 {L n u m : Nat} {h : Nat → Int} {S : STA} {σ : zW} {o5 o6 : Option zV} (hI : LI L h n S u m σ) (hn : 4 * n + 4 ≤ L) (hL : L ≤ 2048) (next : LN L h n) : zEv true (zent 254 [.inr (.inr 1), .inr (.inr 186)] :: [lF 341 ((4 * n : Nat) : Int) o5 o6 []]) σ := by
  have hn1 : n < 10000 := by omega
  have hn5 : n < 512 := by omega
  refine law_go (o := oScript S) (p1 := 341) (p2 := 347) (p3 := 353) (B := zent 175 [.inr (.inr 122)]) hI (SG_script hI.1) next (fun k => l_script (l1 (by decide)) hI.2.1 k) (fun v σ1 h1 h2 => ?_) (fun v σ1 hM k => n_script (l1 (by decide)) hM k) (fun v w σ1 => zr_270_347 (by decide)) (fun v w t σ1 => ?_)
  · rw [zr_270_341 (by decide)]
  · rw [zr_270_353, lw4 hn1]
theorem law_5 {L n u m : Nat} {h : Nat → Int} {S : STA} {σ : zW} {o5 o6 : Option zV} (hI : LI L h n S u m σ) (hn : 4 * n + 4 ≤ L) (hL : L ≤ 2048) (next : LN L h n) : zEv true (zent 255 [.inr (.inr 1), .inl (h (4 * n + 1)), .inr (.inr 186)] :: [lF 432 ((4 * n : Nat) : Int) o5 o6 []]) σ := by
  have hn1 : n < 10000 := by omega
  have hn5 : n < 512 := by omega
  refine law_go (o := oNodes S (h (4 * n + 1))) (p1 := 432) (p2 := 444) (p3 := 450) (B := zent 177 [.inr (.inr 122), .inl (h (4 * n + 1))]) hI (SG_nodes hI.1) next (fun k => l_nodes (l1 (by decide)) hI.2.1 k) (fun v σ1 h1 h2 => ?_) (fun v σ1 hM k => n_nodes (l1 (by decide)) hM k) (fun v w σ1 => zr_270_444 (by decide)) (fun v w t σ1 => ?_)
  · rw [zr_270_432 (by decide), lw1 hn1, h1, yAnd (show 0 ≤ ((4 * n + 1 : Nat) : Int) ∧ ((4 * n + 1 : Nat) : Int) < (L : Int) by omega), Int.toNat_natCast, h2 (4 * n + 1)]
  · rw [zr_270_450, lw4 hn1]
theorem law_6 {L n u m : Nat} {h : Nat → Int} {S : STA} {σ : zW} {o5 o6 : Option zV} (hI : LI L h n S u m σ) (hn : 4 * n + 4 ≤ L) (hL : L ≤ 2048) (next : LN L h n) : zEv true (zent 256 [.inr (.inr 1), .inl (h (4 * n + 1)), .inl (h (4 * n + 2)), .inr (.inr 186)] :: [lF 494 ((4 * n : Nat) : Int) o5 o6 []]) σ := by
  have hn1 : n < 10000 := by omega
  have hn5 : n < 512 := by omega
  refine law_go (o := oParent S (h (4 * n + 1)) (h (4 * n + 2))) (p1 := 494) (p2 := 512) (p3 := 518) (B := zent 179 [.inr (.inr 122), .inl (h (4 * n + 1)), .inl (h (4 * n + 2))]) hI (SG_node hI.1) next (fun k => l_parent (l1 (by decide)) hI.1 hI.2.1 k) (fun v σ1 h1 h2 => ?_) (fun v σ1 hM k => n_parent (l1 (by decide)) hI.1 hM k) (fun v w σ1 => zr_270_512 (by decide)) (fun v w t σ1 => ?_)
  · rw [zr_270_494 (by decide), lw1 hn1, lw2 hn1, h1, yAnd (show 0 ≤ ((4 * n + 1 : Nat) : Int) ∧ ((4 * n + 1 : Nat) : Int) < (L : Int) by omega), yAnd (show 0 ≤ ((4 * n + 2 : Nat) : Int) ∧ ((4 * n + 2 : Nat) : Int) < (L : Int) by omega), Int.toNat_natCast, Int.toNat_natCast, h2 (4 * n + 1), h2 (4 * n + 2)]
  · rw [zr_270_518, lw4 hn1]
theorem law_7 {L n u m : Nat} {h : Nat → Int} {S : STA} {σ : zW} {o5 o6 : Option zV} (hI : LI L h n S u m σ) (hn : 4 * n + 4 ≤ L) (hL : L ≤ 2048) (next : LN L h n) : zEv true (zent 257 [.inr (.inr 1), .inl (h (4 * n + 1)), .inl (h (4 * n + 2)), .inr (.inr 186)] :: [lF 562 ((4 * n : Nat) : Int) o5 o6 []]) σ := by
  have hn1 : n < 10000 := by omega
  have hn5 : n < 512 := by omega
  refine law_go (o := oKids S (h (4 * n + 1)) (h (4 * n + 2))) (p1 := 562) (p2 := 580) (p3 := 586) (B := zent 184 [.inr (.inr 122), .inl (h (4 * n + 1)), .inl (h (4 * n + 2))]) hI (SG_node hI.1) next (fun k => l_kids (l1 (by decide)) hI.1 hI.2.1 k) (fun v σ1 h1 h2 => ?_) (fun v σ1 hM k => n_kids (l1 (by decide)) hI.1 hM k) (fun v w σ1 => zr_270_580 (by decide)) (fun v w t σ1 => ?_)
  · rw [zr_270_562 (by decide), lw1 hn1, lw2 hn1, h1, yAnd (show 0 ≤ ((4 * n + 1 : Nat) : Int) ∧ ((4 * n + 1 : Nat) : Int) < (L : Int) by omega), yAnd (show 0 ≤ ((4 * n + 2 : Nat) : Int) ∧ ((4 * n + 2 : Nat) : Int) < (L : Int) by omega), Int.toNat_natCast, Int.toNat_natCast, h2 (4 * n + 1), h2 (4 * n + 2)]
  · rw [zr_270_586, lw4 hn1]
theorem law_8 {L n u m : Nat} {h : Nat → Int} {S : STA} {σ : zW} {o5 o6 : Option zV} (hI : LI L h n S u m σ) (hn : 4 * n + 4 ≤ L) (hL : L ≤ 2048) (next : LN L h n) : zEv true (zent 258 [.inr (.inr 1), .inl (h (4 * n + 1)), .inl (h (4 * n + 2)), .inl (if (h (4 * n + 3)) = 0 then 0 else 1 : Int), .inr (.inr 186)] :: [lF 644 ((4 * n : Nat) : Int) o5 o6 []]) σ := by
  have hn1 : n < 10000 := by omega
  have hn5 : n < 512 := by omega
  refine law_go (o := oWordOf S (h (4 * n + 1)) (h (4 * n + 2)) (if (h (4 * n + 3)) = 0 then 0 else 1 : Int)) (p1 := 644) (p2 := 676) (p3 := 682) (B := zent 185 [.inr (.inr 122), .inl (h (4 * n + 1)), .inl (h (4 * n + 2)), .inl (if (h (4 * n + 3)) = 0 then 0 else 1 : Int)]) hI (SG_node hI.1) next (fun k => l_wordOf (l1 (by decide)) hI.1 hI.2.1 k) (fun v σ1 h1 h2 => ?_) (fun v σ1 hM k => n_wordOf (l1 (by decide)) hI.1 hM k) (fun v w σ1 => zr_270_676 (by decide)) (fun v w t σ1 => ?_)
  · rw [zr_270_644 (by decide), lw1 hn1, lw2 hn1, lw3 hn1, h1, yAnd (show 0 ≤ ((4 * n + 1 : Nat) : Int) ∧ ((4 * n + 1 : Nat) : Int) < (L : Int) by omega), yAnd (show 0 ≤ ((4 * n + 2 : Nat) : Int) ∧ ((4 * n + 2 : Nat) : Int) < (L : Int) by omega), yAnd (show 0 ≤ ((4 * n + 3 : Nat) : Int) ∧ ((4 * n + 3 : Nat) : Int) < (L : Int) by omega), Int.toNat_natCast, Int.toNat_natCast, Int.toNat_natCast, h2 (4 * n + 1), h2 (4 * n + 2), h2 (4 * n + 3)]
  · rw [zr_270_682, lw4 hn1]
theorem law_9 {L n u m : Nat} {h : Nat → Int} {S : STA} {σ : zW} {o5 o6 : Option zV} (hI : LI L h n S u m σ) (hn : 4 * n + 4 ≤ L) (hL : L ≤ 2048) (next : LN L h n) : zEv true (zent 259 [.inr (.inr 1), .inl (h (4 * n + 1)), .inr (.inr 186)] :: [lF 720 ((4 * n : Nat) : Int) o5 o6 []]) σ := by
  have hn1 : n < 10000 := by omega
  have hn5 : n < 512 := by omega
  refine law_go (o := oWith S (h (4 * n + 1))) (p1 := 720) (p2 := 732) (p3 := 738) (B := zent 187 [.inr (.inr 122), .inl (h (4 * n + 1))]) hI (SG_with hI.1) next (fun k => l_with (l1 (by decide)) hI.1 hI.2.1 k) (fun v σ1 h1 h2 => ?_) (fun v σ1 hM k => n_with (l1 (by decide)) hI.1 hM k) (fun v w σ1 => zr_270_732 (by decide)) (fun v w t σ1 => ?_)
  · rw [zr_270_720 (by decide), lw1 hn1, h1, yAnd (show 0 ≤ ((4 * n + 1 : Nat) : Int) ∧ ((4 * n + 1 : Nat) : Int) < (L : Int) by omega), Int.toNat_natCast, h2 (4 * n + 1)]
  · rw [zr_270_738, lw4 hn1]
theorem law_10 {L n u m : Nat} {h : Nat → Int} {S : STA} {σ : zW} {o5 o6 : Option zV} (hI : LI L h n S u m σ) (hn : 4 * n + 4 ≤ L) (hL : L ≤ 2048) (next : LN L h n) : zEv true (zent 260 [.inr (.inr 1), .inl (h (4 * n + 1)), .inr (.inr 186)] :: [lF 776 ((4 * n : Nat) : Int) o5 o6 []]) σ := by
  have hn1 : n < 10000 := by omega
  have hn5 : n < 512 := by omega
  refine law_go (o := oWith S (h (4 * n + 1))) (p1 := 776) (p2 := 788) (p3 := 794) (B := zent 188 [.inr (.inr 122), .inl (h (4 * n + 1))]) hI (SG_with hI.1) next (fun k => l_walk (l1 (by decide)) hI.1 hI.2.1 k) (fun v σ1 h1 h2 => ?_) (fun v σ1 hM k => n_walk (l1 (by decide)) hI.1 hM k) (fun v w σ1 => zr_270_788 (by decide)) (fun v w t σ1 => ?_)
  · rw [zr_270_776 (by decide), lw1 hn1, h1, yAnd (show 0 ≤ ((4 * n + 1 : Nat) : Int) ∧ ((4 * n + 1 : Nat) : Int) < (L : Int) by omega), Int.toNat_natCast, h2 (4 * n + 1)]
  · rw [zr_270_794, lw4 hn1]
theorem law_11 {L n u m : Nat} {h : Nat → Int} {S : STA} {σ : zW} {o5 o6 : Option zV} (hI : LI L h n S u m σ) (hn : 4 * n + 4 ≤ L) (hL : L ≤ 2048) (next : LN L h n) : zEv true (zent 261 [.inr (.inr 1), .inl (h (4 * n + 1)), .inr (.inr 186)] :: [lF 832 ((4 * n : Nat) : Int) o5 o6 []]) σ := by
  have hn1 : n < 10000 := by omega
  have hn5 : n < 512 := by omega
  refine law_go (o := oMatches S (h (4 * n + 1))) (p1 := 832) (p2 := 844) (p3 := 850) (B := zent 208 [.inr (.inr 122), .inl (h (4 * n + 1))]) hI (SG_matches hI.1) next (fun k => l_matches (l1 (by decide)) hI.1 hI.2.1 k) (fun v σ1 h1 h2 => ?_) (fun v σ1 hM k => n_matches (l1 (by decide)) hI.1 hM k) (fun v w σ1 => zr_270_844 (by decide)) (fun v w t σ1 => ?_)
  · rw [zr_270_832 (by decide), lw1 hn1, h1, yAnd (show 0 ≤ ((4 * n + 1 : Nat) : Int) ∧ ((4 * n + 1 : Nat) : Int) < (L : Int) by omega), Int.toNat_natCast, h2 (4 * n + 1)]
  · rw [zr_270_850, lw4 hn1]
theorem law_12 {L n u m : Nat} {h : Nat → Int} {S : STA} {σ : zW} {o5 o6 : Option zV} (hI : LI L h n S u m σ) (hn : 4 * n + 4 ≤ L) (hL : L ≤ 2048) (next : LN L h n) : zEv true (zent 262 [.inr (.inr 1), .inl (h (4 * n + 1)), .inr (.inr 186)] :: [lF 888 ((4 * n : Nat) : Int) o5 o6 []]) σ := by
  have hn1 : n < 10000 := by omega
  have hn5 : n < 512 := by omega
  refine law_go (o := oMatches S (h (4 * n + 1))) (p1 := 888) (p2 := 900) (p3 := 906) (B := zent 209 [.inr (.inr 122), .inl (h (4 * n + 1))]) hI (SG_matches hI.1) next (fun k => l_byTrying (l1 (by decide)) hI.1 hI.2.1 k) (fun v σ1 h1 h2 => ?_) (fun v σ1 hM k => n_byTrying (l1 (by decide)) hI.1 hM k) (fun v w σ1 => zr_270_900 (by decide)) (fun v w t σ1 => ?_)
  · rw [zr_270_888 (by decide), lw1 hn1, h1, yAnd (show 0 ≤ ((4 * n + 1 : Nat) : Int) ∧ ((4 * n + 1 : Nat) : Int) < (L : Int) by omega), Int.toNat_natCast, h2 (4 * n + 1)]
  · rw [zr_270_906, lw4 hn1]
theorem law_13 {L n u m : Nat} {h : Nat → Int} {S : STA} {σ : zW} {o5 o6 : Option zV} (hI : LI L h n S u m σ) (hn : 4 * n + 4 ≤ L) (hL : L ≤ 2048) (next : LN L h n) : zEv true (zent 263 [.inr (.inr 1), .inl (h (4 * n + 1)), .inl (h (4 * n + 2)), .inl (h (4 * n + 3)), .inr (.inr 186)] :: [lF 956 ((4 * n : Nat) : Int) o5 o6 []]) σ := by
  have hn1 : n < 10000 := by omega
  have hn5 : n < 512 := by omega
  refine law_go (o := oMatchAt S (h (4 * n + 1)) (h (4 * n + 2)) (h (4 * n + 3))) (p1 := 956) (p2 := 980) (p3 := 986) (B := zent 212 [.inr (.inr 122), .inl (h (4 * n + 1)), .inl (h (4 * n + 2)), .inl (h (4 * n + 3))]) hI (SG_matchAt hI.1) next (fun k => l_matchAt (l1 (by decide)) hI.1 hI.2.1 k) (fun v σ1 h1 h2 => ?_) (fun v σ1 hM k => n_matchAt (l1 (by decide)) hI.1 hM k) (fun v w σ1 => zr_270_980 (by decide)) (fun v w t σ1 => ?_)
  · rw [zr_270_956 (by decide), lw1 hn1, lw2 hn1, lw3 hn1, h1, yAnd (show 0 ≤ ((4 * n + 1 : Nat) : Int) ∧ ((4 * n + 1 : Nat) : Int) < (L : Int) by omega), yAnd (show 0 ≤ ((4 * n + 2 : Nat) : Int) ∧ ((4 * n + 2 : Nat) : Int) < (L : Int) by omega), yAnd (show 0 ≤ ((4 * n + 3 : Nat) : Int) ∧ ((4 * n + 3 : Nat) : Int) < (L : Int) by omega), Int.toNat_natCast, Int.toNat_natCast, Int.toNat_natCast, h2 (4 * n + 1), h2 (4 * n + 2), h2 (4 * n + 3)]
  · rw [zr_270_986, lw4 hn1]
theorem law_14 {L n u m : Nat} {h : Nat → Int} {S : STA} {σ : zW} {o5 o6 : Option zV} (hI : LI L h n S u m σ) (hn : 4 * n + 4 ≤ L) (hL : L ≤ 2048) (next : LN L h n) : zEv true (zent 264 [.inr (.inr 1), .inl (h (4 * n + 1)), .inl (h (4 * n + 2)), .inl (h (4 * n + 3)), .inr (.inr 186)] :: [lF 1036 ((4 * n : Nat) : Int) o5 o6 []]) σ := by
  have hn1 : n < 10000 := by omega
  have hn5 : n < 512 := by omega
  refine law_go (o := oMatchAt S (h (4 * n + 1)) (h (4 * n + 2)) (h (4 * n + 3))) (p1 := 1036) (p2 := 1060) (p3 := 1066) (B := zent 213 [.inr (.inr 122), .inl (h (4 * n + 1)), .inl (h (4 * n + 2)), .inl (h (4 * n + 3))]) hI (SG_matchAt hI.1) next (fun k => l_matchTry (l1 (by decide)) hI.1 hI.2.1 k) (fun v σ1 h1 h2 => ?_) (fun v σ1 hM k => n_matchTry (l1 (by decide)) hI.1 hM k) (fun v w σ1 => zr_270_1060 (by decide)) (fun v w t σ1 => ?_)
  · rw [zr_270_1036 (by decide), lw1 hn1, lw2 hn1, lw3 hn1, h1, yAnd (show 0 ≤ ((4 * n + 1 : Nat) : Int) ∧ ((4 * n + 1 : Nat) : Int) < (L : Int) by omega), yAnd (show 0 ≤ ((4 * n + 2 : Nat) : Int) ∧ ((4 * n + 2 : Nat) : Int) < (L : Int) by omega), yAnd (show 0 ≤ ((4 * n + 3 : Nat) : Int) ∧ ((4 * n + 3 : Nat) : Int) < (L : Int) by omega), Int.toNat_natCast, Int.toNat_natCast, Int.toNat_natCast, h2 (4 * n + 1), h2 (4 * n + 2), h2 (4 * n + 3)]
  · rw [zr_270_1066, lw4 hn1]
theorem law_15 {L n u m : Nat} {h : Nat → Int} {S : STA} {σ : zW} {o5 o6 : Option zV} (hI : LI L h n S u m σ) (hn : 4 * n + 4 ≤ L) (hL : L ≤ 2048) (next : LN L h n) : zEv true (zent 265 [.inr (.inr 1), .inl (h (4 * n + 1)), .inl (h (4 * n + 2)), .inr (.inr 186)] :: [lF 1110 ((4 * n : Nat) : Int) o5 o6 []]) σ := by
  have hn1 : n < 10000 := by omega
  have hn5 : n < 512 := by omega
  refine law_go (o := oPlanAt S (h (4 * n + 1)) (h (4 * n + 2))) (p1 := 1110) (p2 := 1128) (p3 := 1134) (B := zent 220 [.inr (.inr 122), .inl (h (4 * n + 1)), .inl (h (4 * n + 2))]) hI (SG_planAt hI.1) next (fun k => l_planAt (l1 (by decide)) hI.1 hI.2.1 k) (fun v σ1 h1 h2 => ?_) (fun v σ1 hM k => n_planAt (l1 (by decide)) hI.1 hM k) (fun v w σ1 => zr_270_1128 (by decide)) (fun v w t σ1 => ?_)
  · rw [zr_270_1110 (by decide), lw1 hn1, lw2 hn1, h1, yAnd (show 0 ≤ ((4 * n + 1 : Nat) : Int) ∧ ((4 * n + 1 : Nat) : Int) < (L : Int) by omega), yAnd (show 0 ≤ ((4 * n + 2 : Nat) : Int) ∧ ((4 * n + 2 : Nat) : Int) < (L : Int) by omega), Int.toNat_natCast, Int.toNat_natCast, h2 (4 * n + 1), h2 (4 * n + 2)]
  · rw [zr_270_1134, lw4 hn1]
theorem law_16 {L n u m : Nat} {h : Nat → Int} {S : STA} {σ : zW} {o5 o6 : Option zV} (hI : LI L h n S u m σ) (hn : 4 * n + 4 ≤ L) (hL : L ≤ 2048) (next : LN L h n) : zEv true (zent 266 [.inr (.inr 1), .inl (h (4 * n + 1)), .inr (.inr 186)] :: [lF 1172 ((4 * n : Nat) : Int) o5 o6 []]) σ := by
  have hn1 : n < 10000 := by omega
  have hn5 : n < 512 := by omega
  refine law_go (o := oEdit S (h (4 * n + 1))) (p1 := 1172) (p2 := 1184) (p3 := 1190) (B := zent 240 [.inr (.inr 122), .inl (h (4 * n + 1))]) hI (SG_edit hI.1) next (fun k => l_edit (l1 (by decide)) hI.1 hI.2.1 (by have := hI.2.2.2.1; omega) k) (fun v σ1 h1 h2 => ?_) (fun v σ1 hM k => n_edit (l1 (by decide)) hI.1 hM (by have := hI.2.2.2.2.1; omega) k) (fun v w σ1 => zr_270_1184 (by decide)) (fun v w t σ1 => ?_)
  · rw [zr_270_1172 (by decide), lw1 hn1, h1, yAnd (show 0 ≤ ((4 * n + 1 : Nat) : Int) ∧ ((4 * n + 1 : Nat) : Int) < (L : Int) by omega), Int.toNat_natCast, h2 (4 * n + 1)]
  · rw [zr_270_1190, lw4 hn1]
theorem law_17 {L n u m : Nat} {h : Nat → Int} {S : STA} {σ : zW} {o5 o6 : Option zV} (hI : LI L h n S u m σ) (hn : 4 * n + 4 ≤ L) (hL : L ≤ 2048) (next : LN L h n) : zEv true (zent 267 [.inr (.inr 1), .inl (h (4 * n + 1)), .inr (.inr 186)] :: [lF 1228 ((4 * n : Nat) : Int) o5 o6 []]) σ := by
  have hn1 : n < 10000 := by omega
  have hn5 : n < 512 := by omega
  refine law_go (o := oUndo S (h (4 * n + 1))) (p1 := 1228) (p2 := 1240) (p3 := 1246) (B := zent 245 [.inr (.inr 122), .inl (h (4 * n + 1))]) hI (SG_undo hI.1 hI.2.1) next (fun k => l_undo (l1 (by decide)) hI.2.1 (by have := hI.2.2.2.1; omega) k) (fun v σ1 h1 h2 => ?_) (fun v σ1 hM k => n_undo (l1 (by decide)) hI.1 hM (by have := hI.2.2.2.2.1; omega) k) (fun v w σ1 => zr_270_1240 (by decide)) (fun v w t σ1 => ?_)
  · rw [zr_270_1228 (by decide), lw1 hn1, h1, yAnd (show 0 ≤ ((4 * n + 1 : Nat) : Int) ∧ ((4 * n + 1 : Nat) : Int) < (L : Int) by omega), Int.toNat_natCast, h2 (4 * n + 1)]
  · rw [zr_270_1246, lw4 hn1]
theorem law_18 {L n u m : Nat} {h : Nat → Int} {S : STA} {σ : zW} {o5 o6 : Option zV} (hI : LI L h n S u m σ) (hn : 4 * n + 4 ≤ L) (hL : L ≤ 2048) (next : LN L h n) : zEv true (zent 268 [.inr (.inr 1), .inl (h (4 * n + 1)), .inr (.inr 186)] :: [lF 1284 ((4 * n : Nat) : Int) o5 o6 []]) σ := by
  have hn1 : n < 10000 := by omega
  have hn5 : n < 512 := by omega
  refine law_go (o := oShow S (h (4 * n + 1))) (p1 := 1284) (p2 := 1296) (p3 := 1302) (B := zent 248 [.inr (.inr 122), .inl (h (4 * n + 1))]) hI (SG_show hI.1) next (fun k => l_show (l1 (by decide)) hI.1 hI.2.1 k) (fun v σ1 h1 h2 => ?_) (fun v σ1 hM k => n_show (l1 (by decide)) hI.1 hM k) (fun v w σ1 => zr_270_1296 (by decide)) (fun v w t σ1 => ?_)
  · rw [zr_270_1284 (by decide), lw1 hn1, h1, yAnd (show 0 ≤ ((4 * n + 1 : Nat) : Int) ∧ ((4 * n + 1 : Nat) : Int) < (L : Int) by omega), Int.toNat_natCast, h2 (4 * n + 1)]
  · rw [zr_270_1302, lw4 hn1]
theorem law_19 {L n u m : Nat} {h : Nat → Int} {S : STA} {σ : zW} {o5 o6 : Option zV} (hI : LI L h n S u m σ) (hn : 4 * n + 4 ≤ L) (hL : L ≤ 2048) (next : LN L h n) : zEv true (zent 269 [.inr (.inr 1), .inl (h (4 * n + 1)), .inl (h (4 * n + 2)), .inr (.inr 186)] :: [lF 1346 ((4 * n : Nat) : Int) o5 o6 []]) σ := by
  have hn1 : n < 10000 := by omega
  have hn5 : n < 512 := by omega
  refine law_go (o := oLabel S (h (4 * n + 1)) (h (4 * n + 2))) (p1 := 1346) (p2 := 1364) (p3 := 1370) (B := zent 249 [.inr (.inr 122), .inl (h (4 * n + 1)), .inl (h (4 * n + 2))]) hI (SG_label hI.1) next (fun k => l_label (l1 (by decide)) hI.1 hI.2.1 k) (fun v σ1 h1 h2 => ?_) (fun v σ1 hM k => n_label (l1 (by decide)) hI.1 hM k) (fun v w σ1 => zr_270_1364 (by decide)) (fun v w t σ1 => ?_)
  · rw [zr_270_1346 (by decide), lw1 hn1, lw2 hn1, h1, yAnd (show 0 ≤ ((4 * n + 1 : Nat) : Int) ∧ ((4 * n + 1 : Nat) : Int) < (L : Int) by omega), yAnd (show 0 ≤ ((4 * n + 2 : Nat) : Int) ∧ ((4 * n + 2 : Nat) : Int) < (L : Int) by omega), Int.toNat_natCast, Int.toNat_natCast, h2 (4 * n + 1), h2 (4 * n + 2)]
  · rw [zr_270_1370, lw4 hn1]
