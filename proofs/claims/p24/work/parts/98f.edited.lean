/-! isEdited: from an edit on -/
theorem rT_1 {R : STR} {T : TRE} {l : List TRE} : (rT R T l).1 0 = T := by
  show fup R.1 0 T 0 = T
  exact fup_eq
theorem rT_H {R : STR} {T : TRE} {l : List TRE} : (rT R T l).2.2.2.2.2 0 = l := by
  show fup R.2.2.2.2.2 0 l 0 = l
  exact fup_eq
section YED
variable {K : List zF} {R : STR} {u : Nat} {tt lb : Nat → Int} {A : Int64} {σ : zW} {o3 o4 o6 o7 o8 o9 o12 o13 o14 o15 o16 : Option zV}
theorem ed_775 (hK : K.length + 33 ≤ 60) {T' : TRE} (h : LO [] (rT R T' [R.1 0]) u σ) (hH : R.2.2.2.2.2 0 = []) (hT : tmT (R.1 0) tt lb) (hl : lbT (R.1 0) lb) (hA : tmA (R.1 0).1 tt lb σ) (hu : u ≤ 512) (hw : A = allH R.1 (fun p => (lM R p).length)) (k : ∀ σ', lFr 102 σ σ' → LO [] R u σ' → zRet true K (some (.inl 1)) σ') : zEv true ((161, 775, [some (.inr (.inr 1)), some (.inr (.inr 122)), some (.inr (.inr 123)), o3, o4, some (.inl 1), o6, o7, o8, o9, some (.inr (.inl A)), none, o12, o13, o14, o15, o16], []) :: K) σ := by
  have hKl : K.length < 60 := by omega
  rw [zj_161_775 hKl, if_neg (by decide)]
  refine v_undoS (T := R.1 0) (l := []) (by show K.length + 1 + 14 ≤ 60; omega) h hu rT_H (fun σ1 hF1 hV1 => ?_)
  rw [rT_back hH] at hV1
  have hA1 := tmA_fr hA hF1
  rw [zr_161_787 hKl, if_neg (fun w => w hA1.2.1.symm)]
  refine v_all (by show K.length + 1 + 23 ≤ 60; omega) hV1 (fun σ2 hF2 hV2 => ?_)
  have hz : ∀ B : Int64, zlc B B = 0 := fun B => by unfold zlc; simp
  rw [zr_161_797 hKl, ← hw, if_neg (fun w => w (hz _))]
  have hA2 := tmA_fr hA1 hF2
  refine v_isTree (by show K.length + 1 + 14 ≤ 60; omega) hV2 hT hl hA2 (fun σ3 hF3 hV3 => ?_)
  rw [zr_161_809 hKl, if_neg (by decide)]
  refine v_undoN (by show K.length + 1 + 14 ≤ 60; omega) hV3 hu hH (fun σ4 hF4 hV4 => ?_)
  rw [zr_161_819, if_neg (fun w => w rfl)]
  exact k σ4 ((((hF1.trans hF2).trans hF3).trans hF4).le (by omega)) hV4
theorem ed_442 (hK : K.length + 33 ≤ 60) {has told : Int} (h : LO [] R u σ) (hH : R.2.2.2.2.2 0 = []) (hu : u ≤ 512) (hw : A = allH R.1 (fun p => (lM R p).length)) (ht : told = if has = 0 then 0 else -1193) (k : ∀ σ', lFr 1 σ σ' → LO [] R u σ' → zRet true K (some (.inl 1)) σ') : zEv true ((161, 442, [some (.inr (.inr 1)), some (.inr (.inr 122)), some (.inr (.inr 123)), o3, o4, some (.inl 1), some (.inl has), o7, o8, o9, some (.inr (.inl A)), none, o12, o13, o14, some (.inl told), o16], []) :: K) σ := by
  have hKl : K.length < 60 := by omega
  rw [zj_161_442 hKl, if_neg (by decide), if_neg (fun w => w ht)]
  refine v_all (by show K.length + 1 + 23 ≤ 60; omega) h (fun σ1 hF1 hV1 => ?_)
  have hz : ∀ B : Int64, zlc B B = 0 := fun B => by unfold zlc; simp
  rw [zr_161_468 hKl, ← hw, if_neg (fun w => w (hz _))]
  refine v_undoN (by show K.length + 1 + 14 ≤ 60; omega) hV1 hu hH (fun σ2 hF2 hV2 => ?_)
  rw [zr_161_481, if_neg (fun w => w rfl)]
  exact k σ2 ((hF1.trans hF2).le (by omega)) hV2
theorem ed_527 (hK : K.length + 33 ≤ 60) {one two what size : Int} (h : LO [] R u σ) (hs : size = ((R.1 0).1 : Int)) (kk : ∀ σ', lFr 1 σ σ' → LO [] R u σ' → zRet true ((161, 553, [some (.inr (.inr 1)), some (.inr (.inr 122)), some (.inr (.inr 123)), o3, o4, some (.inl 1), o6, some (.inl one), some (.inl two), some (.inl what), some (.inr (.inl A)), none, o12, o13, o14, some (.inl 1), some (.inl size)], []) :: K) (some (.inl ((cns (lfn [81]) 1 (R.1 0).2.1 (R.1 0).1 : Nat) : Int))) σ') : zEv true (zent 142 [.inr (.inr 1), .inl 81] :: (161, 527, [some (.inr (.inr 1)), some (.inr (.inr 122)), some (.inr (.inr 123)), o3, o4, some (.inl 1), o6, some (.inl one), some (.inl two), some (.inl what), some (.inr (.inl A)), none, o12, o13, o14, some (.inl 1), some (.inl size)], []) :: K) σ := by
  have hKl : K.length < 60 := by omega
  refine v_saysO (by show K.length + 1 + 9 ≤ 60; omega) h (by decide) (by decide) (by decide) (fun σ1 hF1 hV1 => ?_)
  rw [zr_161_527 hKl, if_neg (by decide), if_neg (fun w => w rfl), e_nodes (p := 0) (z := 0) (by show K.length + 1 + 4 ≤ 60; omega) hV1 (by decide) rfl, zr_161_543 hKl, if_neg (fun w => w hs.symm)]
  refine v_with (by show K.length + 1 + 8 ≤ 60; omega) hV1 (fun σ2 hF2 hV2 => ?_)
  exact kk σ2 (hF1.trans hF2) hV2
/-- nothing came of it -/
theorem ed_no (hK : K.length + 33 ≤ 60) {w q a b : Nat} {d : EDT} {one two what lost : Int} (h : LO [] R u σ) (hH : R.2.2.2.2.2 0 = []) (hu : u + 1 ≤ 512) (hw : A = allH R.1 (fun p => (lM R p).length)) (hs : eST R w q a b d) (hn : enm d (bndP (st2 w q) (vec2 a b) d.2.1) (bndP (st2 w q) (vec2 a b) d.2.2.1)) (hp : pedit (rwT (R.1 0)) 20 d (bndP (st2 w q) (vec2 a b) d.2.1) (bndP (st2 w q) (vec2 a b) d.2.2.1) = none) (k : ∀ σ', lFr 2 σ σ' → LO [] R (u + 1) σ' → zRet true K (some (.inl 1)) σ') : zEv true (zent 140 [.inr (.inr 1), .inl 4, .inr (.inl 0), .inl 0] :: (161, 430, [some (.inr (.inr 1)), some (.inr (.inr 122)), some (.inr (.inr 123)), o3, o4, some (.inl 1), some (.inl 1), some (.inl one), some (.inl two), some (.inl what), some (.inr (.inl A)), none, some (.inl lost), o13, some (.inl 0), o15, o16], []) :: K) σ := by
  have hKl : K.length < 60 := by omega
  refine v_editN (by show K.length + 1 + 26 ≤ 60; omega) h (by omega) hs hn hp (fun σ1 hF1 hV1 => ?_)
  rw [zr_161_430 hKl, if_neg (by decide), if_neg (fun w => w rfl)]
  exact ed_442 hK hV1 hH hu hw rfl (fun σ2 hF2 hV2 => k σ2 ((hF1.trans hF2).le (by omega)) hV2)
/-- renamed -/
theorem ed_ren (hK : K.length + 33 ≤ 60) {w q a b : Nat} {lost : Int} (h : LO [] R u σ) (hH : R.2.2.2.2.2 0 = []) (hT : tmT (R.1 0) tt lb) (hl : lbT (R.1 0) lb) (hA : tmA (R.1 0).1 tt lb σ) (hQ : ∀ i, i < (R.1 0).1 → lb i ≠ 81) (ha : a < (R.1 0).1) (hu : u + 1 ≤ 512) (hw : A = allH R.1 (fun p => (lM R p).length)) (hs : eST R w q a b (esD 0)) (k : ∀ σ', lFr 110 σ σ' → LO [] R (u + 1) σ' → zRet true K (some (.inl 1)) σ') : zEv true (zent 140 [.inr (.inr 1), .inl 4, .inr (.inl 0), .inl 0] :: (161, 430, [some (.inr (.inr 1)), some (.inr (.inr 122)), some (.inr (.inr 123)), o3, o4, some (.inl 1), some (.inl 1), some (.inl (a : Int)), some (.inl (b : Int)), some (.inl 0), some (.inr (.inl A)), none, some (.inl lost), o13, some (.inl 1), o15, o16], []) :: K) σ := by
  have hKl : K.length < 60 := by omega
  obtain ⟨b1, b2, b3⟩ := bnd_x (w := w) (q := q) (a := a) (b := b)
  have hn9 := hT.2.2.1
  refine v_editS (z := (((R.1 0).1, fup (R.1 0).2.1 a (zi2l 81), (R.1 0).2.2, fun i : Nat => (i : Int)), 20)) (by show K.length + 1 + 26 ≤ 60; omega) h (by omega) hs ⟨fun _ => by show bndP _ _ 23 ≠ -1; rw [b1]; omega, fun w => absurd w (by decide)⟩ (by show pedit _ 20 (0, 23, -1, zi2l 81, -1) (bndP _ _ 23) (bndP _ _ (-1)) = _; rw [b1]; exact pd_ren ha) (fun σ1 hF1 hV1 => ?_)
  rw [hH] at hV1
  have hA1 := tmA_fr hA hF1
  have hR' : (rT R ((R.1 0).1, fup (R.1 0).2.1 a (zi2l 81), (R.1 0).2.2) [R.1 0]).1 0 = ((R.1 0).1, fup (R.1 0).2.1 a (zi2l 81), (R.1 0).2.2) := rT_1
  rw [zr_161_430 hKl, if_neg (by decide), if_pos (by decide), if_neg (fun w => w rfl), hA1.2.1, Int.add_zero, zw_id (by omega) (by omega)]
  refine ed_527 hK hV1 (by rw [hR']) (fun σ2 hF2 hV2 => ?_)
  have hc : cns (lfn [81]) 1 (fup (R.1 0).2.1 a (zi2l 81)) (R.1 0).1 = 1 := by
    rw [cns_1 (lb := fup lb a 81) (by decide) _ (fun i hi => ?_), lcn_one (j := a) fup_eq _ ha (fun i hi hij => by rw [fup_ne hij]; exact hQ i hi)]
    by_cases c : i = a
    · rw [c, fup_eq, fup_eq]; exact ⟨rfl, by unfold lb1; omega⟩
    · rw [fup_ne c, fup_ne c]; exact ⟨hl i hi, (hT.2.2.2 i hi).2⟩
  rw [hR', hc, zr_161_553 hKl, if_neg (by decide), if_neg (by decide), if_neg (by decide)]
  have hA2 := tmA_fr hA1 hF2
  refine v_label (z := 81) (by show K.length + 1 + 11 ≤ 60; omega) hV2 (by rw [hR']; exact ha) rfl (by rw [hR']; show fup (R.1 0).2.1 a (zi2l 81) a = _; exact fup_eq) (by unfold lb1; omega) (fun σ3 hF3 hV3 => ?_)
  rw [zr_161_590 hKl, if_neg (fun w => w rfl)]
  refine e_kids (by show K.length + 1 + 4 ≤ 60; omega) hV3 (by rw [hR']; exact ha) rfl ?_
  have hA3 := tmA_fr hA2 hF3
  rw [hR', zr_161_602 hKl, q_children hA3 hT rfl, zr_161_609, if_neg (fun w => w rfl)]
  exact ed_775 hK hV3 hH hT hl hA3 hu hw (fun σ4 hF4 hV4 => k σ4 ((((hF1.trans hF2).trans hF3).trans hF4).le (by omega)) hV4)
/-- deleted -/
theorem ed_del (hK : K.length + 33 ≤ 60) {w q a b s : Nat} (h : LO [] R u σ) (hH : R.2.2.2.2.2 0 = []) (hT : tmT (R.1 0) tt lb) (hl : lbT (R.1 0) lb) (hA : tmA (R.1 0).1 tt lb σ) (hQ : ∀ i, i < (R.1 0).1 → lb i ≠ 81) (hb : b < (R.1 0).1) (hu : u + 1 ≤ 512) (hw : A = allH R.1 (fun p => (lM R p).length)) (hs : eST R w q a b (esD 1)) (hd : dlu (R.1 0).2.2 (R.1 0).1 b = (s, false)) (k : ∀ σ', lFr 110 σ σ' → LO [] R (u + 1) σ' → zRet true K (some (.inl 1)) σ') : zEv true (zent 140 [.inr (.inr 1), .inl 4, .inr (.inl 0), .inl 0] :: (161, 430, [some (.inr (.inr 1)), some (.inr (.inr 122)), some (.inr (.inr 123)), o3, o4, some (.inl 1), some (.inl 1), some (.inl (a : Int)), some (.inl (b : Int)), some (.inl 1), some (.inr (.inl A)), none, some (.inl ((ed (R.1 0).2.2 (R.1 0).1 b - s : Nat) : Int)), o13, some (.inl 1), o15, o16], []) :: K) σ := by
  have hKl : K.length < 60 := by omega
  obtain ⟨b1, b2, b3⟩ := bnd_x (w := w) (q := q) (a := a) (b := b)
  have hn9 := hT.2.2.1
  obtain ⟨e1, e2, -⟩ := ed_spec (dep := (R.1 0).2.2) hb
  have hsl := dlu_le (dep := (R.1 0).2.2) (n := (R.1 0).1) b
  rw [hd] at hsl
  have hs0 : 0 < s := hsl.2.2 rfl
  have hsb : s ≤ b := hsl.1
  have hpd := (pd_del (v := 0) (y := -1) hT.1 hb).2 (by rw [hd])
  rw [hd] at hpd
  generalize ed (R.1 0).2.2 (R.1 0).1 b = e at e1 e2 hpd ⊢
  refine v_editS (z := (rcl (rwT (R.1 0)) s (e - s), 20)) (by show K.length + 1 + 26 ≤ 60; omega) h (by omega) hs ⟨fun _ => by show bndP _ _ 24 ≠ -1; rw [b2]; omega, fun w => absurd w (by decide)⟩ (by show pedit _ 20 (1, 24, -1, 0, -1) (bndP _ _ 24) (bndP _ _ (-1)) = _; rw [b2, b3]; exact hpd) (fun σ1 hF1 hV1 => ?_)
  rw [hH] at hV1
  have hV1 : LO [] (rT R ((R.1 0).1 - (e - s), shl s (e - s) (R.1 0).2.1, shl s (e - s) (R.1 0).2.2) [R.1 0]) (u + 1) σ1 := hV1
  have hA1 := tmA_fr hA hF1
  have hR' : (rT R ((R.1 0).1 - (e - s), shl s (e - s) (R.1 0).2.1, shl s (e - s) (R.1 0).2.2) [R.1 0]).1 0 = ((R.1 0).1 - (e - s), shl s (e - s) (R.1 0).2.1, shl s (e - s) (R.1 0).2.2) := rT_1
  rw [zr_161_430 hKl, if_neg (by decide), if_pos (by decide), if_pos (by decide), if_neg (fun w => w rfl), hA1.2.1, zw_id (z := -((e - s : Nat) : Int)) (by omega) (by omega), zw_id (by omega) (by omega)]
  refine ed_527 hK hV1 (by rw [hR']; show _ = (((R.1 0).1 - (e - s) : Nat) : Int); omega) (fun σ2 hF2 hV2 => ?_)
  have hc : cns (lfn [81]) 1 (shl s (e - s) (R.1 0).2.1) ((R.1 0).1 - (e - s)) = 0 := by
    rw [cns_1 (lb := shl s (e - s) lb) (by decide) _ (fun i hi => ?_), lcn_none _ (fun i hi => ?_)]
    · by_cases c : i < s
      · rw [shl_lt c]; exact hQ i (by omega)
      · rw [shl_ge (by omega)]; exact hQ _ (by omega)
    · by_cases c : i < s
      · rw [shl_lt c, shl_lt c]; exact ⟨hl i (by omega), (hT.2.2.2 i (by omega)).2⟩
      · rw [shl_ge (by omega), shl_ge (by omega)]; exact ⟨hl _ (by omega), (hT.2.2.2 _ (by omega)).2⟩
  rw [hR', hc, zr_161_553 hKl, if_neg (by decide), if_pos (by decide), if_pos (by decide), if_pos (by decide)]
  have hA2 := tmA_fr hA1 hF2
  exact ed_775 hK hV2 hH hT hl hA2 hu hw (fun σ4 hF4 hV4 => k σ4 (((hF1.trans hF2).trans hF4).le (by omega)) hV4)
/-- wrapped -/
theorem ed_wrp (hK : K.length + 33 ≤ 60) {w q a b : Nat} {lost : Int} (h : LO [] R u σ) (hH : R.2.2.2.2.2 0 = []) (hT : tmT (R.1 0) tt lb) (hl : lbT (R.1 0) lb) (hA : tmA (R.1 0).1 tt lb σ) (hQ : ∀ i, i < (R.1 0).1 → lb i ≠ 81) (hb : b < (R.1 0).1) (hu : u + 1 ≤ 512) (hw : A = allH R.1 (fun p => (lM R p).length)) (hs : eST R w q a b (esD 2)) (k : ∀ σ', lFr 110 σ σ' → LO [] R (u + 1) σ' → zRet true K (some (.inl 1)) σ') : zEv true (zent 140 [.inr (.inr 1), .inl 4, .inr (.inl 0), .inl 0] :: (161, 430, [some (.inr (.inr 1)), some (.inr (.inr 122)), some (.inr (.inr 123)), o3, o4, some (.inl 1), some (.inl 1), some (.inl (a : Int)), some (.inl (b : Int)), some (.inl 2), some (.inr (.inl A)), none, some (.inl lost), o13, some (.inl 1), o15, o16], []) :: K) σ := by
  have hKl : K.length < 60 := by omega
  obtain ⟨b1, b2, b3⟩ := bnd_x (w := w) (q := q) (a := a) (b := b)
  have hn9 := hT.2.2.1
  obtain ⟨w1, w2, w3⟩ := wrp_f hT.1 hb
  refine v_editS (z := (rin ((R.1 0).1, (R.1 0).2.1, dup b (ed (R.1 0).2.2 (R.1 0).1 b) (R.1 0).2.2, fun i : Nat => (i : Int)) b 1 (fun _ => zi2l 81, fun _ => (R.1 0).2.2 b, fun _ => 20), 21)) (by show K.length + 1 + 26 ≤ 60; omega) h (by omega) hs ⟨fun _ => by show bndP _ _ 24 ≠ -1; rw [b2]; omega, fun w => absurd w (by decide)⟩ (by show pedit _ 20 (3, 24, -1, zi2l 81, -1) (bndP _ _ 24) (bndP _ _ (-1)) = _; rw [b2]; exact pd_wrp (by omega) hb) (fun σ1 hF1 hV1 => ?_)
  rw [hH] at hV1
  have hV1 : LO [] (rT R ((R.1 0).1 + 1, shr b 1 (R.1 0).2.1 (fun _ => zi2l 81), shr b 1 (dup b (ed (R.1 0).2.2 (R.1 0).1 b) (R.1 0).2.2) (fun _ => (R.1 0).2.2 b)) [R.1 0]) (u + 1) σ1 := hV1
  generalize hD : shr b 1 (dup b (ed (R.1 0).2.2 (R.1 0).1 b) (R.1 0).2.2) (fun _ => (R.1 0).2.2 b) = D at hV1 w1 w2 w3
  have hA1 := tmA_fr hA hF1
  have hR' : (rT R ((R.1 0).1 + 1, shr b 1 (R.1 0).2.1 (fun _ => zi2l 81), D) [R.1 0]).1 0 = ((R.1 0).1 + 1, shr b 1 (R.1 0).2.1 (fun _ => zi2l 81), D) := rT_1
  rw [zr_161_430 hKl, if_neg (by decide), if_pos (by decide), if_pos (by decide), if_pos (by decide), hA1.2.1, zw_id (by omega) (by omega)]
  refine ed_527 hK hV1 (by rw [hR']; show _ = (((R.1 0).1 + 1 : Nat) : Int); omega) (fun σ2 hF2 hV2 => ?_)
  have hc : cns (lfn [81]) 1 (shr b 1 (R.1 0).2.1 (fun _ => zi2l 81)) ((R.1 0).1 + 1) = 1 := by
    rw [cns_1 (lb := shr b 1 lb (fun _ => 81)) (by decide) _ (fun i hi => ?_), lcn_one (j := b) (shr_at rfl) _ (by omega) (fun i hi hij => ?_)]
    · by_cases c : i < b
      · rw [shr_lt c]; exact hQ i (by omega)
      · rw [shr_gt (by omega)]; exact hQ _ (by omega)
    · by_cases c : i < b
      · rw [shr_lt c, shr_lt c]; exact ⟨hl i (by omega), (hT.2.2.2 i (by omega)).2⟩
      · by_cases c2 : i = b
        · rw [shr_at c2, shr_at c2]; exact ⟨rfl, by unfold lb1; omega⟩
        · rw [shr_gt (by omega), shr_gt (by omega)]; exact ⟨hl _ (by omega), (hT.2.2.2 _ (by omega)).2⟩
  rw [hR', hc, zr_161_553 hKl, if_neg (by decide), if_pos (by decide), if_neg (by decide), if_neg (by decide)]
  have hA2 := tmA_fr hA1 hF2
  refine v_label (z := 81) (by show K.length + 1 + 11 ≤ 60; omega) hV2 (by rw [hR']; show b < (R.1 0).1 + 1; omega) rfl (by rw [hR']; show shr b 1 (R.1 0).2.1 (fun _ => zi2l 81) b = _; exact shr_at rfl) (by unfold lb1; omega) (fun σ3 hF3 hV3 => ?_)
  rw [zr_161_639 hKl, if_neg (fun w => w rfl)]
  refine e_kids (by show K.length + 1 + 4 ≤ 60; omega) hV3 (by rw [hR']; show b < (R.1 0).1 + 1; omega) rfl ?_
  have hA3 := tmA_fr hA2 hF3
  rw [hR', w3, zr_161_651 hKl, if_neg (fun w => w rfl)]
  refine e_parent (b := b + 1) (by show K.length + 1 + 4 ≤ 60; omega) hV3 (by rw [hR']; show b + 1 < (R.1 0).1 + 1; omega) (ws1 (by omega)) ?_
  rw [hR', w2, zr_161_664 hKl, if_neg (fun w => w rfl)]
  refine e_parent (b := b) (by show K.length + 1 + 4 ≤ 60; omega) hV3 (by rw [hR']; show b < (R.1 0).1 + 1; omega) rfl ?_
  have hA3b := (hA3.2.2 b hb)
  have hTb := hT.2.2.2 b hb
  rw [hR', w1, zr_161_676 hKl, yAnd (by omega), Int.toNat_natCast, hA3b.1, hTb.1, if_neg (fun w => w rfl)]
  refine v_label (b := b + 1) (z := lb b) (by show K.length + 1 + 11 ≤ 60; omega) hV3 (by rw [hR']; show b + 1 < (R.1 0).1 + 1; omega) (ws1 (by omega)) (by rw [hR']; show shr b 1 (R.1 0).2.1 (fun _ => zi2l 81) (b + 1) = _; exact (shr_gt (Nat.lt_succ_self b)).trans (hl b hb)) hTb.2 (fun σ5 hF5 hV5 => ?_)
  have hA5 := tmA_fr hA3 hF5
  have h20 : ∀ _ : Unit, w32 (20 + (b : Int)) = ((20 + b : Nat) : Int) := fun _ => by rw [zw_id (by omega) (by omega)]; omega
  rw [zr_161_691, h20 (), yAnd (by omega), Int.toNat_natCast, (hA5.2.2 b hb).2, if_neg (fun w => w rfl)]
  exact ed_775 hK hV5 hH hT hl hA5 hu hw (fun σ4 hF4 hV4 => k σ4 (((((hF1.trans hF2).trans hF3).trans hF5).trans hF4).le (by omega)) hV4)
/-- added -/
theorem ed_add (hK : K.length + 33 ≤ 60) {w q a b : Nat} {lost : Int} (h : LO [] R u σ) (hH : R.2.2.2.2.2 0 = []) (hT : tmT (R.1 0) tt lb) (hl : lbT (R.1 0) lb) (hA : tmA (R.1 0).1 tt lb σ) (hQ : ∀ i, i < (R.1 0).1 → lb i ≠ 81) (ha : a < (R.1 0).1) (hk : ed (R.1 0).2.2 (R.1 0).1 a ≠ a + 1) (hu : u + 1 ≤ 512) (hw : A = allH R.1 (fun p => (lM R p).length)) (hs : eST R w q a b (esD 3)) (k : ∀ σ', lFr 110 σ σ' → LO [] R (u + 1) σ' → zRet true K (some (.inl 1)) σ') : zEv true (zent 140 [.inr (.inr 1), .inl 4, .inr (.inl 0), .inl 0] :: (161, 430, [some (.inr (.inr 1)), some (.inr (.inr 122)), some (.inr (.inr 123)), o3, o4, some (.inl 1), some (.inl 1), some (.inl (a : Int)), some (.inl (b : Int)), some (.inl 3), some (.inr (.inl A)), none, some (.inl lost), o13, some (.inl 1), o15, o16], []) :: K) σ := by
  have hKl : K.length < 60 := by omega
  obtain ⟨b1, b2, b3⟩ := bnd_x (w := w) (q := q) (a := a) (b := b)
  have hn9 := hT.2.2.1
  obtain ⟨f1, f2, f3, f4⟩ := add_f hT.1 (by omega) ha hk
  obtain ⟨e1, e2, -⟩ := ed_spec (dep := (R.1 0).2.2) ha
  have hwn := fun _ : Unit => wun_n ha
  have hwl := wrd_le (dep := (R.1 0).2.2) (n := (R.1 0).1) (ed (R.1 0).2.2 (R.1 0).1 a)
  have hkl := kidc_le (dep := (R.1 0).2.2) (a := a) (R.1 0).1
  refine v_editS (z := (rin (rwT (R.1 0)) (ed (R.1 0).2.2 (R.1 0).1 a) 1 (fun _ => zi2l 81, fun _ => (R.1 0).2.2 a + 1, fun _ => 20), 21)) (by show K.length + 1 + 26 ≤ 60; omega) h (by omega) hs ⟨fun w => absurd rfl w, fun _ => by show bndP _ _ 23 ≠ -1; rw [b1]; omega⟩ (by show pedit _ 20 (4, -1, 23, zi2l 81, 1) (bndP _ _ (-1)) (bndP _ _ 23) = _; rw [b1]; exact (pd_add (by omega) ha).2 hk) (fun σ1 hF1 hV1 => ?_)
  rw [hH] at hV1
  have hV1 : LO [] (rT R ((R.1 0).1 + 1, shr (ed (R.1 0).2.2 (R.1 0).1 a) 1 (R.1 0).2.1 (fun _ => zi2l 81), shr (ed (R.1 0).2.2 (R.1 0).1 a) 1 (R.1 0).2.2 (fun _ => (R.1 0).2.2 a + 1)) [R.1 0]) (u + 1) σ1 := hV1
  generalize hD : shr (ed (R.1 0).2.2 (R.1 0).1 a) 1 (R.1 0).2.2 (fun _ => (R.1 0).2.2 a + 1) = D at hV1 f1 f2 f3 f4
  generalize ed (R.1 0).2.2 (R.1 0).1 a = e at *
  have hA1 := tmA_fr hA hF1
  have hR' : (rT R ((R.1 0).1 + 1, shr e 1 (R.1 0).2.1 (fun _ => zi2l 81), D) [R.1 0]).1 0 = ((R.1 0).1 + 1, shr e 1 (R.1 0).2.1 (fun _ => zi2l 81), D) := rT_1
  rw [zr_161_430 hKl, if_neg (by decide), if_pos (by decide), if_pos (by decide), if_pos (by decide), hA1.2.1, zw_id (by omega) (by omega)]
  refine ed_527 hK hV1 (by rw [hR']; show _ = (((R.1 0).1 + 1 : Nat) : Int); omega) (fun σ2 hF2 hV2 => ?_)
  have hc : cns (lfn [81]) 1 (shr e 1 (R.1 0).2.1 (fun _ => zi2l 81)) ((R.1 0).1 + 1) = 1 := by
    rw [cns_1 (lb := shr e 1 lb (fun _ => 81)) (by decide) _ (fun i hi => ?_), lcn_one (j := e) (shr_at rfl) _ (by omega) (fun i hi hij => ?_)]
    · by_cases c : i < e
      · rw [shr_lt c]; exact hQ i (by omega)
      · rw [shr_gt (by omega)]; exact hQ _ (by omega)
    · by_cases c : i < e
      · rw [shr_lt c, shr_lt c]; exact ⟨hl i (by omega), (hT.2.2.2 i (by omega)).2⟩
      · by_cases c2 : i = e
        · rw [shr_at c2, shr_at c2]; exact ⟨rfl, by unfold lb1; omega⟩
        · rw [shr_gt (by omega), shr_gt (by omega)]; exact ⟨hl _ (by omega), (hT.2.2.2 _ (by omega)).2⟩
  rw [hR', hc, zr_161_553 hKl, if_neg (by decide), if_pos (by decide), if_pos (by decide), if_neg (by decide), if_neg (by decide)]
  have hA2 := tmA_fr hA1 hF2
  refine e_kids (by show K.length + 1 + 4 ≤ 60; omega) hV2 (by rw [hR']; show a < (R.1 0).1 + 1; omega) rfl ?_
  rw [hR', f1, zr_161_729 hKl, q_children hA2 hT rfl, zr_161_736 hKl, ws1 (by omega), if_neg (fun w => w rfl)]
  refine e_wordOf (by show K.length + 1 + 4 ≤ 60; omega) hV2 (by rw [hR']; show a < (R.1 0).1 + 1; omega) rfl ?_
  rw [zr_161_749 hKl]
  refine e_wordOf (by show K.length + 1 + 4 ≤ 60; omega) hV2 (by rw [hR']; show a < (R.1 0).1 + 1; omega) rfl ?_
  have g1 : wof ((R.1 0).1 + 1, shr e 1 (R.1 0).2.1 (fun _ => zi2l 81), D) a 1 = ((wrd (R.1 0).2.2 (R.1 0).1 e + 1 : Nat) : Int) - 1 := by
    unfold wof
    rw [if_neg (by decide)]
    show ((wrd D ((R.1 0).1 + 1) (ed D ((R.1 0).1 + 1) a) : Nat) : Int) - 1 = _
    rw [f3]
  have g0 : wof ((R.1 0).1 + 1, shr e 1 (R.1 0).2.1 (fun _ => zi2l 81), D) a 0 = ((wrd (R.1 0).2.2 (R.1 0).1 a : Nat) : Int) := by
    unfold wof
    rw [if_pos rfl]
    show ((wrd D ((R.1 0).1 + 1) a : Nat) : Int) = _
    rw [f4]
  rw [zr_161_757 hKl, q_words (by show K.length + 1 < 60; omega) hA2 hT ha rfl, zr_161_765, hR', g1, g0, zw_id (by omega) (by omega), hwn (), if_neg (fun w => w (by omega))]
  exact ed_775 hK hV2 hH hT hl hA2 hu hw (fun σ4 hF4 hV4 => k σ4 (((hF1.trans hF2).trans hF4).le (by omega)) hV4)
end YED
