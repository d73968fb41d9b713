/-! patterns with ! or ? ahead of the last relation -/
def ptm (b : Int) (w : Nat) : List Int := lbc w :: 32 :: b :: (opl (w / 4 % 13) ++ 32 :: [lbc (w / 52)])
/-- a node and a blank behind it -/
theorem nod_bl {f : Nat → Int} {L p a : Nat} {st : PST} {here mk : Int} {m k : Nat} (hp : p + 2 < L) (h0 : f p = lbc a) (h1 : f (p + 1) = 32) (h2 : f (p + 2) = 33 ∨ f (p + 2) = 63) (hc : st.1 < 8) (hn : st.2.2.1 < 4) : ∃ q, nodP f L st here mk m k p = .inr (nodE st here mk m k (lbc a) (lbd st a q) 0, p + 2) := by
  have t1 : tb f L (p + 1) = 32 := by rw [tb_lt (by omega), h1]
  have t2 : tb f L (p + 2) = f (p + 2) := tb_lt hp
  have hs2 : sk f L (p + 2) = p + 2 := sk_at rfl (by unfold zbl; omega)
  have hs1 : sk f L (p + 1) = p + 2 := by
    rw [sk_bl (by omega) h1]
    exact hs2
  have hnl : ¬ (p + 1 < L ∧ (zlet (f (p + 1)) ∨ zdig (f (p + 1)))) := fun w => by
    rw [h1] at w
    have := w.2
    unfold zlet zdig at this
    omega
  unfold nodP
  rw [beg_l (by omega) h0 t1 (by unfold zlet zdig; omega) hc hn]
  simp only
  have hw : ∀ a', sk f L a' = p + 2 → namR f L st.2.2.2.1 (lbc a) a' = .inr (0, p + 2) := fun a' ha' => by
    unfold namR
    rw [if_neg (lbc_n a).2.1]
    unfold givR
    rw [ha', t2, if_neg (by omega)]
  rw [tb_lt (show p < L by omega), h0]
  by_cases c : a % 4 = 0
  · refine ⟨p + 1, ?_⟩
    have hb : bodR f L st.2.2.2.1 (lbc a) (if zlet (lbc a) then p else p + 1) st.2.1 st.2.2.2.2 = .inr (lbd st a (p + 1)) := by
      unfold bodR lbd
      rw [lbc_s c, if_pos rfl, if_pos c, if_neg (by unfold zlet; omega)]
    rw [hb]
    simp only
    have e : (lbd st a (p + 1)).2.2.2 = p + 1 := by unfold lbd; split <;> rfl
    rw [e, hw _ hs1]
  · refine ⟨p + 2, ?_⟩
    have hb : bodR f L st.2.2.2.1 (lbc a) (if zlet (lbc a) then p else p + 1) st.2.1 st.2.2.2.2 = .inr (lbd st a (p + 2)) := by
      obtain ⟨l1, l2⟩ := lbc_l c
      have l1' := l1
      unfold lb1 at l1'
      unfold bodR lbd
      rw [if_neg l2, if_neg (by omega), if_neg c, if_pos (by unfold zlet; omega), lbR, rdl_1 (show p < L by omega) h0 l1 hnl]
      simp only
      rw [hs1, t2, if_neg (by omega)]
    rw [hb]
    simp only
    have e : (lbd st a (p + 2)).2.2.2 = p + 2 := by unfold lbd; split <;> rfl
    rw [e, hw _ hs2]
def s1b (w q0 : Nat) : PST := nodE stZ (-1) 0 0 0 (lbc w) (lbd stZ w q0) 0
def stN (w q0 q : Nat) : PST := nodE (s1b w q0) 0 1 (opm (w / 4 % 13)) 0 (lbc (w / 52)) (lbd (s1b w q0) (w / 52) q) 0
def stQ (w q0 q : Nat) : PST := nodE (s1b w q0) 0 2 (opm (w / 4 % 13)) 0 (lbc (w / 52)) (lbd (s1b w q0) (w / 52) q) 0
theorem s1b_e (w q0 : Nat) : s1b w q0 = (1, (lbd stZ w q0).2.1, 1, entR stZ.2.2.2.1 0 0 1 0 (rowR (kndR (lbc w)) (lbd stZ w q0).1 (-1) 0 (cop 0 0) ((0 : Nat) : Int) ((lbd stZ w q0).2.1 : Nat) ((0 : Nat) : Int) (-1) 0 0 ((0 : Nat) : Int) ((0 : Nat) : Int)), (lbd stZ w q0).2.2.1) := nodE_0 (lbc_n w).2.1 rfl rfl
theorem stN_e (w q0 q : Nat) : stN w q0 q = (2, (lbd (s1b w q0) (w / 52) q).2.1, 1, entR (s1b w q0).2.2.2.1 1 1 0 0 (rowR (kndR (lbc (w / 52))) (lbd (s1b w q0) (w / 52) q).1 0 1 (cop (opm (w / 4 % 13)) 0) ((s1b w q0).2.1 : Nat) ((lbd (s1b w q0) (w / 52) q).2.1 : Nat) (-1) (-1) 1 0 ((0 : Nat) : Int) ((opm (w / 4 % 13) : Nat) : Int)), (lbd (s1b w q0) (w / 52) q).2.2.1) := by
  have hd : denR (s1b w q0).2.2.2.1 0 1 = 1 := by unfold denR; rw [if_pos (Or.inl rfl)]
  have hh : hdR (s1b w q0).2.2.2.1 0 1 (s1b w q0).1 = -1 := by rw [s1b_e]; rfl
  have hn : nbrR 1 (lbc (w / 52)) = 0 := by unfold nbrR; rw [if_neg (fun w => absurd w.1 (by decide))]
  unfold stN nodE
  rw [hd, hh, hn, s1b_e]
  rfl
theorem stQ_e (w q0 q : Nat) : stQ w q0 q = (2, (lbd (s1b w q0) (w / 52) q).2.1, 2, entR (s1b w q0).2.2.2.1 1 1 1 0 (rowR (kndR (lbc (w / 52))) (lbd (s1b w q0) (w / 52) q).1 0 2 (cop (opm (w / 4 % 13)) 0) ((s1b w q0).2.1 : Nat) ((lbd (s1b w q0) (w / 52) q).2.1 : Nat) ((1 : Nat) : Int) 1 0 0 ((0 : Nat) : Int) ((opm (w / 4 % 13) : Nat) : Int)), (lbd (s1b w q0) (w / 52) q).2.2.1) := by
  have hd : denR (s1b w q0).2.2.2.1 0 2 = 0 := by rw [s1b_e]; rfl
  have hh : hdR (s1b w q0).2.2.2.1 0 2 (s1b w q0).1 = 1 := by rw [s1b_e]; rfl
  have hn : nbrR 0 (lbc (w / 52)) = 1 := by unfold nbrR; rw [if_pos ⟨rfl, (lbc_n _).2.1⟩]
  unfold stQ nodE
  rw [hd, hh, hn, s1b_e]
  rfl
theorem read_m (b : Int) (w : Nat) (hb : b = 33 ∨ b = 63) : ∃ q0 q, pread (lfn (ptm b w)) (ptm b w).length = .inr (if b = 33 then stN w q0 q else stQ w q0 q) := by
  have hl := opl_len (w / 4 % 13)
  have hlen : (ptm b w).length = (opl (w / 4 % 13)).length + 5 := by
    unfold ptm
    simp only [List.length_cons, List.length_append, List.length_nil]
  have hat : atl (lfn (ptm b w)) 0 (ptm b w) := atl_lfn
  generalize hf : lfn (ptm b w) = f at hat
  generalize hLL : (ptm b w).length = L at hlen
  unfold ptm at hat
  obtain ⟨a0, hat⟩ := atl_cons hat
  obtain ⟨a1, hat⟩ := atl_cons hat
  obtain ⟨a2, hat⟩ := atl_cons hat
  obtain ⟨a3, hat⟩ := atl_app hat
  obtain ⟨b0, hat⟩ := atl_cons hat
  obtain ⟨b1, hat⟩ := atl_cons hat
  obtain ⟨q0, n1⟩ := nod_bl (f := f) (L := L) (p := 0) (a := w) (st := stZ) (here := -1) (mk := 0) (m := 0) (k := 0) (by omega) a0 a1 (by rw [show f (0 + 2) = b from a2]; exact hb) (by decide) (by decide)
  refine ⟨q0, 3 + (opl (w / 4 % 13)).length + 1 + 1, ?_⟩
  have n1' : nodP f L (0, 0, 0, fun k _ => if k = 13 then -1 else 0, fun _ => 0) (-1) 0 0 0 0 = .inr (s1b w q0, 2) := n1
  unfold pread
  have hs0 : sk f L 0 = 0 := sk_at a0 (lbc_n w).1
  rw [hs0, n1']
  simp only
  have hs2 : sk f L 2 = 2 := sk_at (a := 2) a2 (by unfold zbl; omega)
  have t2 : tb f L 2 = b := by rw [tb_lt (by omega)]; exact a2
  have hs3 : sk f L 3 = 3 := sk_at (a := 3) (opl_hd a3) (opc_n _).1
  have b0' : f (3 + (opl (w / 4 % 13)).length) = 32 := b0
  have b1' : f (3 + (opl (w / 4 % 13)).length + 1) = lbc (w / 52) := b1
  have hop : opR f L 3 = .inr (opm (w / 4 % 13), 0, 3 + (opl (w / 4 % 13)).length) := by
    unfold opR
    rw [hs3]
    exact opS_l (Nat.mod_lt _ (by decide)) a3 (by omega) b0'
  have hn1 := lbc_n (w / 52)
  have hsk : sk f L (3 + (opl (w / 4 % 13)).length) = 3 + (opl (w / 4 % 13)).length + 1 := by
    rw [sk_bl (by omega) b0']
    exact sk_at b1' hn1.1
  have hbr : brR f L (3 + (opl (w / 4 % 13)).length + 1) = 3 + (opl (w / 4 % 13)).length + 1 := by
    unfold brR
    rw [tb_lt (by omega), b1', if_neg hn1.2.2.2.2.1]
  have hsk2 : sk f L (3 + (opl (w / 4 % 13)).length + 1) = 3 + (opl (w / 4 % 13)).length + 1 := sk_at b1' hn1.1
  have t40 : ¬ tb f L (3 + (opl (w / 4 % 13)).length + 1) = 40 := by rw [tb_lt (by omega), b1']; exact hn1.2.2.2.2.1
  obtain ⟨fl, hfl⟩ : ∃ fl, L = fl + 1 := ⟨L - 1, by omega⟩
  have h1c : (s1b w q0).1 = 1 := by rw [s1b_e]
  have h1n : (s1b w q0).2.2.1 = 1 := by rw [s1b_e]
  have key : ∀ mk : Int, mkR f L (s1b w q0).2.2.2.1 0 2 = .inr (mk, 3) → ptR f L (L + 1) (s1b w q0) 0 0 2 = .inr (nodE (s1b w q0) 0 mk (opm (w / 4 % 13)) 0 (lbc (w / 52)) (lbd (s1b w q0) (w / 52) (3 + (opl (w / 4 % 13)).length + 1 + 1)) 0) := by
    intro mk hm
    have n2 := nod_no (f := f) (L := L) (st := s1b w q0) (here := ((0 : Nat) : Int)) (mk := mk) (m := opm (w / 4 % 13)) (k := 0) (p := 3 + (opl (w / 4 % 13)).length + 1) (a := w / 52) (z := -1) (by omega) b1' (by rw [tb_ge (by omega)]) (Or.inr rfl) (by omega) (by omega)
    rw [ptR, hs2, t2, if_neg (by omega), if_neg (by omega), hm]
    simp only
    rw [hop]
    simp only
    rw [hsk, hbr, hsk2, n2]
    simp only
    rw [if_neg t40, if_neg t40, hfl]
    exact pt_end (by omega)
  by_cases c : b = 33
  · rw [if_pos c]
    exact key 1 (by unfold mkR; rw [t2, if_pos c])
  · rw [if_neg c]
    refine key 2 ?_
    unfold mkR
    rw [t2, if_neg c, if_pos (by omega), if_pos]
    unfold pln
    rw [s1b_e]
    exact ⟨rfl, rfl⟩
/-- a label of a part -/
def laP (st : PST) (i a : Nat) : Prop := st.2.2.2.1 1 i = kndR (lbc a) ∧ ∃ l : Nat, st.2.2.2.1 6 i = (l : Int) ∧ (¬ a % 4 = 0 → st.2.2.2.1 7 i = ((l + 1 : Nat) : Int) ∧ st.2.2.2.2 l = zi2l (lbc a))
theorem own_la {T : TRE} {st : PST} {i a x : Nat} {lb v : Nat → Int} (hp : laP st i a) (hl : T.2.1 x = zi2l (lb x)) (h1 : lb1 (lb x)) : own T st v i x ↔ fitP lb a x := by
  obtain ⟨a9, l, a10, a11⟩ := hp
  have hk : st.2.2.2.1 1 i = 0 ∨ st.2.2.2.1 1 i = 1 := by
    rw [a9, knd_l]
    split
    · exact Or.inl rfl
    · exact Or.inr rfl
  unfold own
  rw [if_neg (by omega), if_neg (by omega)]
  exact fit_ft hl h1 a9 a10 (fun c => (a11 c).1) (fun c => (a11 c).2)
theorem plN (w q0 q : Nat) : plP (stN w q0 q) 0 w (-1) 0 ∧ laP (stN w q0 q) 1 (w / 52) := by
  constructor
  · refine ⟨?_, ?_, ?_, ?_, ?_, ?_, ?_, ?_, ?_, 0, ?_, fun c => ⟨?_, ?_⟩⟩
    all_goals first | (rw [stN_e, s1b_e]; rfl) | skip
    · have h := (lbd_0 stZ w q0 c).1
      rw [stN_e, s1b_e]
      show (((lbd stZ w q0).2.1 : Nat) : Int) = _
      rw [h]; rfl
    · have h := lbd_0 stZ w q0 c
      have h0 : (s1b w q0).2.1 = (lbd stZ w q0).2.1 := by rw [s1b_e]
      have hk := lbd_keep (s1b w q0) (w / 52) q (l := 0) (by rw [h0, h.1]; exact Nat.succ_pos _)
      rw [stN_e]
      show (lbd (s1b w q0) (w / 52) q).2.2.1 0 = _
      rw [hk, s1b_e]
      exact h.2
  · refine ⟨?_, (s1b w q0).2.1, ?_, fun c => ⟨?_, ?_⟩⟩
    all_goals first | (rw [stN_e]; rfl) | skip
    · have h := (lbd_0 (s1b w q0) (w / 52) q c).1
      rw [stN_e]
      show (((lbd (s1b w q0) (w / 52) q).2.1 : Nat) : Int) = _
      rw [h]
    · have h := (lbd_0 (s1b w q0) (w / 52) q c).2
      rw [stN_e]
      exact h
theorem plQ (w q0 q : Nat) : plP (stQ w q0 q) 0 w (-1) 0 ∧ laP (stQ w q0 q) 1 (w / 52) := by
  constructor
  · refine ⟨?_, ?_, ?_, ?_, ?_, ?_, ?_, ?_, ?_, 0, ?_, fun c => ⟨?_, ?_⟩⟩
    all_goals first | (rw [stQ_e, s1b_e]; rfl) | skip
    · have h := (lbd_0 stZ w q0 c).1
      rw [stQ_e, s1b_e]
      show (((lbd stZ w q0).2.1 : Nat) : Int) = _
      rw [h]; rfl
    · have h := lbd_0 stZ w q0 c
      have h0 : (s1b w q0).2.1 = (lbd stZ w q0).2.1 := by rw [s1b_e]
      have hk := lbd_keep (s1b w q0) (w / 52) q (l := 0) (by rw [h0, h.1]; exact Nat.succ_pos _)
      rw [stQ_e]
      show (lbd (s1b w q0) (w / 52) q).2.2.1 0 = _
      rw [hk, s1b_e]
      exact h.2
  · refine ⟨?_, (s1b w q0).2.1, ?_, fun c => ⟨?_, ?_⟩⟩
    all_goals first | (rw [stQ_e]; rfl) | skip
    · have h := (lbd_0 (s1b w q0) (w / 52) q c).1
      rw [stQ_e]
      show (((lbd (s1b w q0) (w / 52) q).2.1 : Nat) : Int) = _
      rw [h]
    · have h := (lbd_0 (s1b w q0) (w / 52) q c).2
      rw [stQ_e]
      exact h
theorem p1N (w q0 q : Nat) : (stN w q0 q).2.2.2.1 11 1 = 1 ∧ (stN w q0 q).2.2.2.1 9 1 = -1 ∧ (stN w q0 q).2.2.2.1 3 1 = 0 ∧ (stN w q0 q).2.2.2.1 17 1 = (opm (w / 4 % 13) : Int) ∧ (stN w q0 q).2.2.2.1 16 1 = 0 ∧ (stN w q0 q).2.2.2.1 8 1 = -1 ∧ (stN w q0 q).2.2.2.1 4 1 = 1 := by
  rw [stN_e]
  exact ⟨rfl, rfl, rfl, rfl, rfl, rfl, rfl⟩
theorem p1Q (w q0 q : Nat) : (stQ w q0 q).2.2.2.1 11 1 = 0 ∧ (stQ w q0 q).2.2.2.1 9 1 = 1 ∧ (stQ w q0 q).2.2.2.1 3 1 = 0 ∧ (stQ w q0 q).2.2.2.1 17 1 = (opm (w / 4 % 13) : Int) ∧ (stQ w q0 q).2.2.2.1 16 1 = 0 ∧ (stQ w q0 q).2.2.2.1 8 1 = 1 ∧ (stQ w q0 q).2.2.2.1 4 1 = 2 := by
  rw [stQ_e]
  exact ⟨rfl, rfl, rfl, rfl, rfl, rfl, rfl⟩
theorem givN (w q0 q x : Nat) : (stN w q0 q).2.2.2.1 13 x = -1 := by
  rw [stN_e, s1b_e]
  show (if (0 : Int) = (x : Int) + 97 then ((1 : Nat) : Int) else if (0 : Int) = (x : Int) + 97 then ((0 : Nat) : Int) else -1) = -1
  rw [if_neg (by omega), if_neg (by omega)]
theorem givQ (w q0 q x : Nat) : (stQ w q0 q).2.2.2.1 13 x = -1 := by
  rw [stQ_e, s1b_e]
  show (if (0 : Int) = (x : Int) + 97 then ((1 : Nat) : Int) else if (0 : Int) = (x : Int) + 97 then ((0 : Nat) : Int) else -1) = -1
  rw [if_neg (by omega), if_neg (by omega)]
theorem pwN (w q0 q : Nat) : pw (stN w q0 q) ∧ pup (stN w q0 q) ∧ 1 ≤ (stN w q0 q).1 := by
  obtain ⟨p0, -⟩ := plN w q0 q
  obtain ⟨b1, b2, b3, -⟩ := p1N w q0 q
  have h1 : (stN w q0 q).1 = 2 := by rw [stN_e]
  have h2 : (stN w q0 q).2.2.1 = 1 := by rw [stN_e]
  refine ⟨⟨by omega, by omega, fun x hx => ?_, fun i hi => ?_⟩, fun i i0 hi => ?_, by omega⟩
  · rw [givN, h1]; omega
  · have hi' : i = 0 ∨ i = 1 := by omega
    rcases hi' with rfl | rfl
    · obtain ⟨a1, a2, a3, a4, a5, a6, -⟩ := p0
      omega
    · omega
  · have : i = 1 := by omega
    subst this
    omega
theorem pwQ (w q0 q : Nat) : pw (stQ w q0 q) ∧ pup (stQ w q0 q) ∧ 1 ≤ (stQ w q0 q).1 := by
  obtain ⟨p0, -⟩ := plQ w q0 q
  obtain ⟨b1, b2, b3, -⟩ := p1Q w q0 q
  have h1 : (stQ w q0 q).1 = 2 := by rw [stQ_e]
  have h2 : (stQ w q0 q).2.2.1 = 2 := by rw [stQ_e]
  refine ⟨⟨by omega, by omega, fun x hx => ?_, fun i hi => ?_⟩, fun i i0 hi => ?_, by omega⟩
  · rw [givQ, h1]; omega
  · have hi' : i = 0 ∨ i = 1 := by omega
    rcases hi' with rfl | rfl
    · obtain ⟨a1, a2, a3, a4, a5, a6, -⟩ := p0
      omega
    · omega
  · have : i = 1 := by omega
    subst this
    omega
/-- some node is there for the second -/
def smP (T : TRE) (lb : Nat → Int) (w a : Nat) : Prop := ∃ b, b < T.1 ∧ fitP lb (w / 52) b ∧ relP T (opm (w / 4 % 13)) 0 a b
theorem smo_sm {T : TRE} {st : PST} {lb v : Nat → Int} {w a : Nat} (h1 : st.1 = 2) (hla : laP st 1 (w / 52)) (h17 : st.2.2.2.1 17 1 = (opm (w / 4 % 13) : Int)) (h16 : st.2.2.2.1 16 1 = 0) (hl : labT T lb) : smo T st v 1 a ↔ smP T lb w a := by
  have hr : ∀ b, rlp T st.2.2.2.1 1 a b ↔ relP T (opm (w / 4 % 13)) 0 a b := fun b => by
    unfold rlp
    rw [h17, h16, Int.toNat_natCast]
    exact Iff.rfl
  have hs : ∀ b, b < T.1 → (sat T st v 1 b ↔ fitP lb (w / 52) b) := fun b hb => by
    rw [sat_iff (by omega)]
    constructor
    · intro x; exact (own_la hla (hl b hb).1 (hl b hb).2).mp x.1
    · intro x; exact ⟨(own_la hla (hl b hb).1 (hl b hb).2).mpr x, fun q q1 q2 => by omega⟩
  unfold smo smP
  constructor
  · rintro ⟨b, b1, b2, b3⟩; exact ⟨b, b1, (hs b b1).mp b3, (hr b).mp b2⟩
  · rintro ⟨b, b1, b2, b3⟩; exact ⟨b, b1, (hr b).mpr b3, (hs b b1).mpr b2⟩
theorem MT_N {T : TRE} {lb : Nat → Int} {w q0 q : Nat} {pd : Nat → Nat} (hg : pgd (stN w q0 q) pd) (hl : labT T lb) {c : Nat} : MT T (stN w q0 q) c ↔ ∃ a : Nat, a < T.1 ∧ c = a + 1 ∧ fitP lb w a ∧ ¬ smP T lb w a := by
  obtain ⟨w1, w2, w3⟩ := pwN w q0 q
  obtain ⟨p0, la⟩ := plN w q0 q
  obtain ⟨b1, b2, b3, b4, b5, b6, b7⟩ := p1N w q0 q
  have h1 : (stN w q0 q).1 = 2 := by rw [stN_e]
  have h2 : (stN w q0 q).2.2.1 = 1 := by rw [stN_e]
  have f1 : fr3 (stN w q0 q) 1 = 0 := by unfold fr3; rw [b3]; rfl
  have hsm : ∀ v a, smo T (stN w q0 q) v 1 a ↔ smP T lb w a := fun v a => smo_sm h1 la b4 b5 hl
  have hD1 : ∀ (v t : Nat → Int) (a : Nat), t 0 = (a : Int) → (Dq T (stN w q0 q) v t 1 ↔ t 1 = -1 ∧ ¬ smP T lb w a) := fun v t a ht => by
    unfold Dq
    rw [if_neg (by rw [f1, ht]; omega), if_pos (by omega), f1, ht, Int.toNat_natCast, hsm]
  rw [← FL_MT hg w1 w2, h2]
  constructor
  · rintro ⟨v, ⟨t, hz, hD⟩, hc⟩
    obtain ⟨a, a1, a2, a3, a4, -⟩ := (Dq_pl p0 hl (fun x => absurd rfl x)).mp (hD 0 (by omega))
    have hd1 := (hD1 v t a a2).mp (hD 1 (by omega))
    refine ⟨a, a1, ?_, a4, hd1.2⟩
    rw [hc]
    show 0 * (T.1 + 1) + (v 0 + 1).toNat = _
    rw [a3]
    omega
  · rintro ⟨a, a1, hc, a4, hs⟩
    refine ⟨fun k => if k = 0 then (a : Int) else 0, ⟨fun k => if k = 0 then (a : Int) else -1, fun k hk => ?_, fun q' hq => ?_⟩, ?_⟩
    · show (if k = 0 then (a : Int) else 0) = 0
      rw [if_neg (by omega)]
    · have hq' : q' = 0 ∨ q' = 1 := by omega
      rcases hq' with rfl | rfl
      · exact (Dq_pl p0 hl (fun x => absurd rfl x)).mpr ⟨a, a1, rfl, rfl, a4, fun x => absurd rfl x⟩
      · exact (hD1 _ _ a rfl).mpr ⟨rfl, hs⟩
    · rw [hc]
      show _ = 0 * (T.1 + 1) + ((a : Int) + 1).toNat
      omega
theorem MT_Q {T : TRE} {lb : Nat → Int} {w q0 q : Nat} {pd : Nat → Nat} (hg : pgd (stQ w q0 q) pd) (hl : labT T lb) {c : Nat} : MT T (stQ w q0 q) c ↔ ∃ a : Nat, a < T.1 ∧ fitP lb w a ∧ ((c = (a + 1) * (T.1 + 1) ∧ ¬ smP T lb w a) ∨ ∃ b : Nat, b < T.1 ∧ c = (a + 1) * (T.1 + 1) + (b + 1) ∧ fitP lb (w / 52) b ∧ relP T (opm (w / 4 % 13)) 0 a b) := by
  obtain ⟨w1, w2, w3⟩ := pwQ w q0 q
  obtain ⟨p0, la⟩ := plQ w q0 q
  obtain ⟨b1, b2, b3, b4, b5, b6, b7⟩ := p1Q w q0 q
  have h1 : (stQ w q0 q).1 = 2 := by rw [stQ_e]
  have h2 : (stQ w q0 q).2.2.1 = 2 := by rw [stQ_e]
  have f1 : fr3 (stQ w q0 q) 1 = 0 := by unfold fr3; rw [b3]; rfl
  have hsm : ∀ v a, smo T (stQ w q0 q) v 1 a ↔ smP T lb w a := fun v a => smo_sm h1 la b4 b5 hl
  have hvp : ∀ v : Nat → Int, vp v (stQ w q0 q).2.2.2.1 1 = v 1 := fun v => by unfold vp; rw [b6]; rfl
  have hr : ∀ a b, rlp T (stQ w q0 q).2.2.2.1 1 a b ↔ relP T (opm (w / 4 % 13)) 0 a b := fun a b => by
    unfold rlp
    rw [b4, b5, Int.toNat_natCast]
    exact Iff.rfl
  have hD1 : ∀ (v t : Nat → Int) (a : Nat), t 0 = (a : Int) → (Dq T (stQ w q0 q) v t 1 ↔ (t 1 = -1 ∧ v 1 = -1 ∧ ¬ smP T lb w a) ∨ ∃ b : Nat, b < T.1 ∧ t 1 = (b : Int) ∧ v 1 = (b : Int) ∧ fitP lb (w / 52) b ∧ relP T (opm (w / 4 % 13)) 0 a b) := fun v t a ht => by
    unfold Dq
    rw [if_neg (by rw [f1, ht]; omega), if_neg (by omega), f1, ht, Int.toNat_natCast, hsm, hvp, b2, b6]
    by_cases c1 : t 1 = -1
    · rw [if_pos ⟨rfl, c1⟩]
      constructor
      · rintro ⟨x1, x2⟩; exact Or.inl ⟨c1, x1 (by decide), x2⟩
      · rintro (⟨-, x1, x2⟩ | ⟨b, -, x1, -⟩)
        · exact ⟨fun _ => x1, x2⟩
        · omega
    · rw [if_neg (fun w => c1 w.2)]
      constructor
      · rintro ⟨⟨b, x1, x2, x3, x4, x5⟩, -⟩
        exact Or.inr ⟨b, x1, x2, x5 (by decide), (own_la la (hl b x1).1 (hl b x1).2).mp x3, (hr a b).mp (x4 (by decide))⟩
      · rintro (⟨x1, -⟩ | ⟨b, x1, x2, x3, x4, x5⟩)
        · exact absurd x1 c1
        · exact ⟨⟨b, x1, x2, (own_la la (hl b x1).1 (hl b x1).2).mpr x4, fun _ => (hr a b).mpr x5, fun _ => x3⟩, fun _ => ⟨b, x1, x4, x5⟩⟩
  rw [← FL_MT hg w1 w2, h2]
  constructor
  · rintro ⟨v, ⟨t, hz, hD⟩, hc⟩
    obtain ⟨a, a1, a2, a3, a4, -⟩ := (Dq_pl p0 hl (fun x => absurd rfl x)).mp (hD 0 (by omega))
    have hd1 := (hD1 v t a a2).mp (hD 1 (by omega))
    have hc' : c = (0 * (T.1 + 1) + (v 0 + 1).toNat) * (T.1 + 1) + (v 1 + 1).toNat := hc
    rw [a3, Nat.zero_mul, Nat.zero_add, show ((a : Int) + 1).toNat = a + 1 by omega] at hc'
    refine ⟨a, a1, a4, ?_⟩
    rcases hd1 with ⟨x1, x2, x3⟩ | ⟨b, x1, x2, x3, x4, x5⟩
    · left
      rw [x2] at hc'
      exact ⟨hc', x3⟩
    · right
      rw [x3, show ((b : Int) + 1).toNat = b + 1 by omega] at hc'
      exact ⟨b, x1, hc', x4, x5⟩
  · rintro ⟨a, a1, a4, hx⟩
    have mk : ∀ z : Int, (∀ v t : Nat → Int, t 0 = (a : Int) → t 1 = z → v 1 = z → Dq T (stQ w q0 q) v t 1) → c = (a + 1) * (T.1 + 1) + (z + 1).toNat → ∃ v, FL T (stQ w q0 q) v ∧ c = pcn (T.1 + 1) v 2 := by
      intro z hz hc
      refine ⟨fun k => if k = 0 then (a : Int) else if k = 1 then z else 0, ⟨fun k => if k = 0 then (a : Int) else if k = 1 then z else 0, fun k hk => ?_, fun q' hq => ?_⟩, ?_⟩
      · show (if k = 0 then (a : Int) else if k = 1 then z else 0) = 0
        rw [if_neg (by omega), if_neg (by omega)]
      · have hq' : q' = 0 ∨ q' = 1 := by omega
        rcases hq' with rfl | rfl
        · exact (Dq_pl p0 hl (fun x => absurd rfl x)).mpr ⟨a, a1, rfl, rfl, a4, fun x => absurd rfl x⟩
        · exact hz _ _ rfl rfl rfl
      · rw [hc]
        show _ = (0 * (T.1 + 1) + ((a : Int) + 1).toNat) * (T.1 + 1) + (z + 1).toNat
        rw [Nat.zero_mul, Nat.zero_add, show ((a : Int) + 1).toNat = a + 1 by omega]
    rcases hx with ⟨x1, x2⟩ | ⟨b, x1, x2, x3, x4⟩
    · exact mk (-1) (fun v t t0 t1 v1 => (hD1 v t a t0).mpr (Or.inl ⟨t1, v1, x2⟩)) x1
    · exact mk (b : Int) (fun v t t0 t1 v1 => (hD1 v t a t0).mpr (Or.inr ⟨b, x1, t1, v1, x3, x4⟩)) (by rw [x2]; omega)
