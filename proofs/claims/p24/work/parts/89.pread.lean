/-! the told patterns read -/
def opm (i : Nat) : Nat := zth 0 [1, 2, 6, 7, 11, 12, 13, 14, 15, 16, 17, 18, 19] i
theorem sk_at {f : Nat → Int} {L a : Nat} {z : Int} (h : f a = z) (hz : ¬ zbl z) : sk f L a = a := sk_no (fun w => hz (by rw [← h]; exact w.2))
theorem sk_bl {f : Nat → Int} {L a : Nat} (ha : a < L) (h : f a = 32) : sk f L a = sk f L (a + 1) := sk_go ha (by rw [h]; right; left; rfl)
theorem lbc_n (a : Nat) : ¬ zbl (lbc a) ∧ lbc a ≠ 61 ∧ lbc a ≠ 126 ∧ lbc a ≠ 33 ∧ lbc a ≠ 40 ∧ lbc a ≠ 41 ∧ lbc a ≠ 63 ∧ lbc a ≠ -1 := by
  unfold lbc zbl
  split <;> omega
theorem lbc_s {a : Nat} (h : a % 4 = 0) : lbc a = 42 := if_pos h
theorem lbc_l {a : Nat} (h : ¬ a % 4 = 0) : lb1 (lbc a) ∧ lbc a ≠ 42 := by
  unfold lbc lb1
  rw [if_neg h]
  omega
/-- an operator at a, and a blank behind it -/
theorem opS_l {f : Nat → Int} {L a i : Nat} (hi : i < 13) (h : atl f a (opl i)) (hL : a + (opl i).length < L) (hb : f (a + (opl i).length) = 32) : opS f L a = .inr (opm i, 0, a + (opl i).length) := by
  have hi' : i = 0 ∨ i = 1 ∨ i = 2 ∨ i = 3 ∨ i = 4 ∨ i = 5 ∨ i = 6 ∨ i = 7 ∨ i = 8 ∨ i = 9 ∨ i = 10 ∨ i = 11 ∨ i = 12 := by omega
  have T : ∀ k, k < L → tb f L k = f k := fun k hk => tb_lt hk
  rcases hi' with rfl | rfl | rfl | rfl | rfl | rfl | rfl | rfl | rfl | rfl | rfl | rfl | rfl
  · have h' : atl f a [60] := h
    have hL' : a + 1 < L := hL
    have hb' : f (a + 1) = 32 := hb
    have t0 := (T a (by omega)).trans (atl_cons h').1
    have t1 := (T (a + 1) hL').trans hb'
    unfold opS relR
    rw [t0, t1]; rfl
  · have h' : atl f a [60, 60] := h
    have hL' : a + 2 < L := hL
    have t0 := (T a (by omega)).trans (atl_cons h').1
    have t1 := (T (a + 1) (by omega)).trans (atl_cons (atl_cons h').2).1
    unfold opS relR
    rw [t0, t1]; rfl
  · have h' : atl f a [62] := h
    have hL' : a + 1 < L := hL
    have hb' : f (a + 1) = 32 := hb
    have t0 := (T a (by omega)).trans (atl_cons h').1
    have t1 := (T (a + 1) hL').trans hb'
    unfold opS relR
    rw [t0, t1]; rfl
  · have h' : atl f a [62, 62] := h
    have hL' : a + 2 < L := hL
    have t0 := (T a (by omega)).trans (atl_cons h').1
    have t1 := (T (a + 1) (by omega)).trans (atl_cons (atl_cons h').2).1
    unfold opS relR
    rw [t0, t1]; rfl
  · have h' : atl f a [46] := h
    have hL' : a + 1 < L := hL
    have hb' : f (a + 1) = 32 := hb
    have t0 := (T a (by omega)).trans (atl_cons h').1
    have t1 := (T (a + 1) hL').trans hb'
    unfold opS dblR
    rw [t0, t1]; rfl
  · have h' : atl f a [46, 46] := h
    have hL' : a + 2 < L := hL
    have t0 := (T a (by omega)).trans (atl_cons h').1
    have t1 := (T (a + 1) (by omega)).trans (atl_cons (atl_cons h').2).1
    unfold opS dblR
    rw [t0, t1]; rfl
  · have h' : atl f a [44] := h
    have hL' : a + 1 < L := hL
    have hb' : f (a + 1) = 32 := hb
    have t0 := (T a (by omega)).trans (atl_cons h').1
    have t1 := (T (a + 1) hL').trans hb'
    unfold opS dblR
    rw [t0, t1]; rfl
  · have h' : atl f a [44, 44] := h
    have hL' : a + 2 < L := hL
    have t0 := (T a (by omega)).trans (atl_cons h').1
    have t1 := (T (a + 1) (by omega)).trans (atl_cons (atl_cons h').2).1
    unfold opS dblR
    rw [t0, t1]; rfl
  · have h' : atl f a [36] := h
    have hL' : a + 1 < L := hL
    have hb' : f (a + 1) = 32 := hb
    have t0 := (T a (by omega)).trans (atl_cons h').1
    have t1 := (T (a + 1) hL').trans hb'
    unfold opS
    rw [t0, t1]; rfl
  · have h' : atl f a [36, 46] := h
    have hL' : a + 2 < L := hL
    have hb' : f (a + 2) = 32 := hb
    have t0 := (T a (by omega)).trans (atl_cons h').1
    have t1 := (T (a + 1) (by omega)).trans (atl_cons (atl_cons h').2).1
    have t2 : tb f L (a + 1 + 1) = 32 := (T (a + 2) hL').trans hb'
    unfold opS dblR
    rw [t0, t1, t2]; rfl
  · have h' : atl f a [36, 46, 46] := h
    have hL' : a + 3 < L := hL
    have t0 := (T a (by omega)).trans (atl_cons h').1
    have t1 := (T (a + 1) (by omega)).trans (atl_cons (atl_cons h').2).1
    have t2 : tb f L (a + 1 + 1) = 46 := (T (a + 2) (by omega)).trans (atl_cons (atl_cons (atl_cons h').2).2).1
    unfold opS dblR
    rw [t0, t1, t2]; rfl
  · have h' : atl f a [36, 44] := h
    have hL' : a + 2 < L := hL
    have hb' : f (a + 2) = 32 := hb
    have t0 := (T a (by omega)).trans (atl_cons h').1
    have t1 := (T (a + 1) (by omega)).trans (atl_cons (atl_cons h').2).1
    have t2 : tb f L (a + 1 + 1) = 32 := (T (a + 2) hL').trans hb'
    unfold opS dblR
    rw [t0, t1, t2]; rfl
  · have h' : atl f a [36, 44, 44] := h
    have hL' : a + 3 < L := hL
    have t0 := (T a (by omega)).trans (atl_cons h').1
    have t1 := (T (a + 1) (by omega)).trans (atl_cons (atl_cons h').2).1
    have t2 : tb f L (a + 1 + 1) = 44 := (T (a + 2) (by omega)).trans (atl_cons (atl_cons (atl_cons h').2).2).1
    unfold opS dblR
    rw [t0, t1, t2]; rfl
/-- what the labels of a node are: behind l others -/
def lbd (st : PST) (a : Nat) (q : Nat) : Int × Nat × (Nat → Int64) × Nat := if a % 4 = 0 then (-1, st.2.1, st.2.2.2.2, q) else (-1, st.2.1 + 1, fup st.2.2.2.2 st.2.1 (zi2l (lbc a)), q)
theorem bod_l {f : Nat → Int} {L p a : Nat} {st : PST} {z : Int} (hp : p < L) (h0 : f p = lbc a) (h1 : tb f L (p + 1) = z) (hz : ¬ zlet z ∧ ¬ zdig z ∧ ¬ zbl z ∧ z ≠ 124) : bodR f L st.2.2.2.1 (tb f L p) (if zlet (tb f L p) then p else p + 1) st.2.1 st.2.2.2.2 = .inr (lbd st a (p + 1)) := by
  have hn := lbc_n a
  have hnb : ¬ (p + 1 < L ∧ zbl (f (p + 1))) := fun w => by
    rw [tb_lt w.1] at h1
    rw [h1] at w
    exact hz.2.2.1 w.2
  have hnl : ¬ (p + 1 < L ∧ (zlet (f (p + 1)) ∨ zdig (f (p + 1)))) := fun w => by
    rw [tb_lt w.1] at h1
    rw [h1] at w
    exact w.2.elim hz.1 hz.2.1
  rw [tb_lt hp, h0]
  unfold bodR lbd
  by_cases c : a % 4 = 0
  · rw [lbc_s c, if_pos rfl, if_pos c, if_neg (by unfold zlet; omega)]
  · obtain ⟨l1, l2⟩ := lbc_l c
    have l1' := l1
    unfold lb1 at l1'
    rw [if_neg l2, if_neg (by omega), if_neg c, if_pos (by unfold zlet; omega), lbR, rdl_1 hp h0 l1 hnl]
    simp only
    rw [sk_no hnb, h1, if_neg hz.2.2.2]
theorem beg_l {f : Nat → Int} {L p a c n nb : Nat} {z : Int} (hp : p < L) (h0 : f p = lbc a) (h1 : tb f L (p + 1) = z) (hz : ¬ zlet z ∧ ¬ zdig z) (hc : c < 8) (hn : n < 4) : begR f L p c n nb = none := by
  have hnl : ¬ (p + 1 < L ∧ (zlet (f (p + 1)) ∨ zdig (f (p + 1)))) := fun w => by
    rw [tb_lt w.1] at h1
    rw [h1] at w
    exact w.2.elim hz.1 hz.2
  unfold begR
  by_cases c4 : a % 4 = 0
  · have hw : wl f L p = 0 := wl_zero (by rw [tb_lt hp, h0, lbc_s c4]; unfold zlet; omega)
    rw [hw, if_neg (by rw [tb_lt hp, h0, lbc_s c4]; exact fun w => w (Or.inr (Or.inl rfl))), if_neg (by omega), if_neg (by omega)]
  · obtain ⟨l1, l2⟩ := lbc_l c4
    have l1' := l1
    unfold lb1 at l1'
    have hw := wl_1 hp h0 l1 hnl
    rw [hw, if_neg (by rw [tb_lt hp, h0]; exact fun w => w (Or.inl (Or.inr l1'))), if_neg (by omega), if_neg (by omega)]
/-- a node with a name -/
theorem nod_nm {f : Nat → Int} {L p a nm : Nat} {st : PST} {here mk : Int} {m k : Nat} (hp : p + 2 < L) (h0 : f p = lbc a) (h1 : f (p + 1) = 61) (h2 : f (p + 2) = (nm : Int) + 97) (hnm : nm < 26) (hc : st.1 < 8) (hn : st.2.2.1 < 4) (hg : st.2.2.2.1 13 nm = -1) : nodP f L st here mk m k p = .inr (nodE st here mk m k (lbc a) (lbd st a (p + 1)) ((nm : Int) + 97), p + 3) := by
  have t1 : tb f L (p + 1) = 61 := by rw [tb_lt (by omega), h1]
  unfold nodP
  rw [beg_l (by omega) h0 t1 (by unfold zlet zdig; omega) hc hn, bod_l (st := st) (by omega) h0 t1 (by unfold zlet zdig zbl; omega)]
  simp only
  have e : (lbd st a (p + 1)).2.2.2 = p + 1 := by unfold lbd; split <;> rfl
  have hs : sk f L (p + 1) = p + 1 := sk_at h1 (by unfold zbl; omega)
  have hs2 : sk f L (p + 1 + 1) = p + 2 := sk_at (a := p + 2) h2 (by unfold zbl; omega)
  have hm : nmA f L (p + 1 + 1) = .inr (nm, p + 3) := by
    unfold nmA
    rw [hs2, tb_lt (by omega), h2, if_pos (by unfold zsml; omega)]
    congr 1
    refine Prod.ext ?_ rfl
    show ((nm : Int) + 97 - 97).toNat = nm
    omega
  have hw : namR f L st.2.2.2.1 (tb f L p) (p + 1) = .inr ((nm : Int) + 97, p + 3) := by
    unfold namR
    rw [tb_lt (by omega), h0, if_neg (lbc_n a).2.1]
    unfold givR
    rw [hs, t1, if_pos rfl, hm]
    simp only
    rw [if_pos hg]
  rw [e, hw, tb_lt (show p < L by omega), h0]
/-- a node without one -/
theorem nod_no {f : Nat → Int} {L p a : Nat} {st : PST} {here mk : Int} {m k : Nat} {z : Int} (hp : p < L) (h0 : f p = lbc a) (h1 : tb f L (p + 1) = z) (hz : z = 41 ∨ z = -1) (hc : st.1 < 8) (hn : st.2.2.1 < 4) : nodP f L st here mk m k p = .inr (nodE st here mk m k (lbc a) (lbd st a (p + 1)) 0, p + 1) := by
  unfold nodP
  rw [beg_l hp h0 h1 (by unfold zlet zdig; omega) hc hn, bod_l (st := st) hp h0 h1 (by unfold zlet zdig zbl; omega)]
  simp only
  have e : (lbd st a (p + 1)).2.2.2 = p + 1 := by unfold lbd; split <;> rfl
  have hs : sk f L (p + 1) = p + 1 := sk_no (fun w => by rw [tb_lt w.1] at h1; rw [h1] at w; have := w.2; unfold zbl at this; omega)
  have hw : namR f L st.2.2.2.1 (tb f L p) (p + 1) = .inr (0, p + 1) := by
    unfold namR
    rw [tb_lt hp, h0, if_neg (lbc_n a).2.1]
    unfold givR
    rw [hs, h1, if_neg (by omega)]
  rw [e, hw, tb_lt hp, h0]
def stZ : PST := (0, 0, 0, fun k _ => if k = 13 then -1 else 0, fun _ => 0)
/-- one plain node first, then by a relation from a node that stands: what it comes to -/
def st1 (w : Nat) : PST := nodE stZ (-1) 0 0 0 (lbc w) (lbd stZ w 1) 120
def st2 (w : Nat) (q : Nat) : PST := nodE (st1 w) 0 0 (opm (w / 4 % 13)) 0 (lbc (w / 52)) (lbd (st1 w) (w / 52) (q + 1)) 121
def st3 (w x : Nat) (q q2 : Nat) : PST := nodE (st2 w q) (if x % 2 = 0 then 1 else 0) 0 (opm (x / 2 % 13)) 0 (lbc (x / 26)) (lbd (st2 w q) (x / 26) (q2 + 1)) 0
theorem nodE_c (st : PST) (here mk : Int) (m k : Nat) (z : Int) (b : Int × Nat × (Nat → Int64) × Nat) (nm : Int) : (nodE st here mk m k z b nm).1 = st.1 + 1 := rfl
theorem opl_hd {f : Nat → Int} {a i : Nat} (h : atl f a (opl i)) : f a = opc i := by
  unfold opl at h
  split at h
  · split at h
    · exact (atl_cons h).1
    · exact (atl_cons h).1
  · split at h
    · exact (atl_cons h).1
    · split at h
      · exact (atl_cons h).1
      · exact (atl_cons h).1
theorem opc_n (i : Nat) : ¬ zbl (opc i) ∧ opc i ≠ 33 ∧ opc i ≠ 63 ∧ opc i ≠ -1 ∧ opc i ≠ 41 := by
  unfold opc zbl
  repeat' split
  all_goals omega
/-- a relation without brackets and without ! or ? -/
theorem pt_rel {f : Nat → Int} {L p fl here d i : Nat} {st : PST} {o : Nat} (hi : i < 13) (h : atl f p (opl i)) (hL : p + (opl i).length + 1 < L) (hb : f (p + (opl i).length) = 32) (hz : ¬ zbl (f (p + (opl i).length + 1)) ∧ f (p + (opl i).length + 1) ≠ 40) {r : PST × Nat} (hr : nodP f L st (here : Nat) 0 (opm i) 0 (p + (opl i).length + 1) = .inr r) (ho : sk f L o = p) : ptR f L (fl + 1) st here d o = ptR f L fl r.1 here d r.2 := by
  have hp := opl_hd h
  have hn := opc_n i
  have hs : sk f L p = p := sk_at hp hn.1
  have tp : tb f L p = opc i := by rw [tb_lt (by omega), hp]
  have hm : mkR f L st.2.2.2.1 here p = .inr (0, p) := by
    unfold mkR
    rw [tp, if_neg hn.2.1, if_neg hn.2.2.1]
  have hop : opR f L p = .inr (opm i, 0, p + (opl i).length) := by
    unfold opR
    rw [hs]
    exact opS_l hi h (by omega) hb
  have hsk : sk f L (p + (opl i).length) = p + (opl i).length + 1 := by
    rw [sk_bl (by omega) hb]
    exact sk_at rfl hz.1
  rw [ptR, ho, tp, if_neg (fun w => hn.2.2.2.1 w.2), if_neg (fun w => hn.2.2.2.2 w.2), hm]
  simp only
  rw [hop]
  simp only
  have hbr : brR f L (p + (opl i).length + 1) = p + (opl i).length + 1 := by
    unfold brR
    rw [tb_lt hL, if_neg hz.2]
  rw [hsk, hbr, sk_at rfl hz.1, hr, tb_lt hL, if_neg hz.2, if_neg hz.2]
/-- a relation with a bracket -/
theorem pt_brk {f : Nat → Int} {L p fl here d i : Nat} {st : PST} {o : Nat} (hi : i < 13) (h : atl f p (opl i)) (hL : p + (opl i).length + 2 < L) (hb : f (p + (opl i).length) = 32) (h40 : f (p + (opl i).length + 1) = 40) (hz : ¬ zbl (f (p + (opl i).length + 2))) {r : PST × Nat} (hr : nodP f L st (here : Nat) 0 (opm i) 0 (p + (opl i).length + 2) = .inr r) (ho : sk f L o = p) : ptR f L (fl + 1) st here d o = ptR f L fl r.1 st.1 (d + 1) r.2 := by
  have hp := opl_hd h
  have hn := opc_n i
  have hs : sk f L p = p := sk_at hp hn.1
  have tp : tb f L p = opc i := by rw [tb_lt (by omega), hp]
  have hm : mkR f L st.2.2.2.1 here p = .inr (0, p) := by
    unfold mkR
    rw [tp, if_neg hn.2.1, if_neg hn.2.2.1]
  have hop : opR f L p = .inr (opm i, 0, p + (opl i).length) := by
    unfold opR
    rw [hs]
    exact opS_l hi h (by omega) hb
  have hsk : sk f L (p + (opl i).length) = p + (opl i).length + 1 := by
    rw [sk_bl (by omega) hb]
    exact sk_at h40 (by unfold zbl; omega)
  have t40 : tb f L (p + (opl i).length + 1) = 40 := by rw [tb_lt (by omega), h40]
  rw [ptR, ho, tp, if_neg (fun w => hn.2.2.2.1 w.2), if_neg (fun w => hn.2.2.2.2 w.2), hm]
  simp only
  rw [hop]
  simp only
  have hbr : brR f L (p + (opl i).length + 1) = p + (opl i).length + 1 + 1 := by
    unfold brR
    rw [t40, if_pos rfl]
  rw [hsk, hbr, sk_at (a := p + (opl i).length + 1 + 1) rfl hz, hr, t40, if_pos rfl, if_pos rfl]
theorem pt_end {f : Nat → Int} {L fl here : Nat} {st : PST} {o : Nat} (ho : L ≤ o) : ptR f L (fl + 1) st here 0 o = .inr st := by
  have hs : sk f L o = o := sk_no (fun w => by omega)
  rw [ptR, hs, tb_ge ho, if_pos ⟨rfl, rfl⟩]
theorem read_2 (w : Nat) : ∃ q, pread (lfn (pt2 w)) (pt2 w).length = .inr (st2 w q) := by
  have hl := opl_len (w / 4 % 13)
  have hlen : (pt2 w).length = (opl (w / 4 % 13)).length + 7 := by
    unfold pt2
    simp only [List.length_cons, List.length_append, List.length_nil]
  have hat : atl (lfn (pt2 w)) 0 (pt2 w) := atl_lfn
  generalize hf : lfn (pt2 w) = f at hat
  generalize hLL : (pt2 w).length = L at hlen
  unfold pt2 at hat
  obtain ⟨a0, hat⟩ := atl_cons hat
  obtain ⟨a1, hat⟩ := atl_cons hat
  obtain ⟨a2, hat⟩ := atl_cons hat
  obtain ⟨a3, hat⟩ := atl_app hat
  obtain ⟨b0, hat⟩ := atl_cons hat
  obtain ⟨b1, hat⟩ := atl_cons hat
  obtain ⟨b2, hat⟩ := atl_cons hat
  obtain ⟨b3, hat⟩ := atl_cons hat
  refine ⟨3 + (opl (w / 4 % 13)).length + 1, ?_⟩
  unfold pread
  have hs0 : sk f L 0 = 0 := sk_at a0 (lbc_n w).1
  rw [hs0]
  have n1 : nodP f L stZ (-1) 0 0 0 0 = .inr (st1 w, 3) := nod_nm (nm := 23) (by omega) a0 a1 a2 (by decide) (by decide) (by decide) rfl
  have n1' : nodP f L (0, 0, 0, fun k _ => if k = 13 then -1 else 0, fun _ => 0) (-1) 0 0 0 0 = .inr (st1 w, 3) := n1
  rw [n1']
  simp only
  obtain ⟨fl, hfl⟩ : ∃ fl, L = fl + 1 := ⟨L - 1, by omega⟩
  have n2 : nodP f L (st1 w) ((0 : Nat) : Int) 0 (opm (w / 4 % 13)) 0 (3 + (opl (w / 4 % 13)).length + 1) = .inr (st2 w (3 + (opl (w / 4 % 13)).length + 1), 3 + (opl (w / 4 % 13)).length + 1 + 3) := nod_nm (nm := 24) (by omega) b1 b2 b3 (by decide) (by show 1 < 8; decide) (by show 0 + nbrR (denR stZ.2.2.2.1 (-1) 0) (lbc w) < 4; unfold nbrR; split <;> omega) rfl
  have hp3 : sk f L 3 = 3 := sk_at (opl_hd a3) (opc_n _).1
  rw [pt_rel (fl := L) (Nat.mod_lt _ (by decide)) a3 (by omega) b0 (by rw [b1]; exact ⟨(lbc_n _).1, (lbc_n _).2.2.2.2.1⟩) n2 hp3]
  simp only
  rw [hfl]
  rw [hfl] at hlen
  exact pt_end (by omega)
theorem read_3 (w x : Nat) : ∃ q q2, pread (lfn (pt3 w x)) (pt3 w x).length = .inr (st3 w x q q2) := by
  have hl := opl_len (w / 4 % 13)
  have hl2 := opl_len (x / 2 % 13)
  have hnb : ∀ (s : PST) (z : Int) (b : Int × Nat × (Nat → Int64) × Nat) (m : Nat) (nm h : Int), (nodE s h 0 m 0 z b nm).2.2.1 ≤ s.2.2.1 + 1 := fun s z b m nm h => by
    show s.2.2.1 + nbrR _ _ ≤ _
    unfold nbrR
    split <;> omega
  have h1n : (st1 w).2.2.1 ≤ 1 := hnb stZ _ _ _ _ _
  have h2n : ∀ q, (st2 w q).2.2.1 ≤ 2 := fun q => by have := hnb (st1 w) (lbc (w / 52)) (lbd (st1 w) (w / 52) (q + 1)) (opm (w / 4 % 13)) 121 0; unfold st2; omega
  by_cases c : x % 2 = 0
  · have hlen : (pt3 w x).length = (opl (w / 4 % 13)).length + (opl (x / 2 % 13)).length + 12 := by
      unfold pt3
      rw [if_pos c]
      simp only [List.length_cons, List.length_append, List.length_nil]
      omega
    have hat : atl (lfn (pt3 w x)) 0 (pt3 w x) := atl_lfn
    generalize hf : lfn (pt3 w x) = f at hat
    generalize hLL : (pt3 w x).length = L at hlen
    unfold pt3 at hat
    rw [if_pos c] at hat
    obtain ⟨a0, hat⟩ := atl_cons hat
    obtain ⟨a1, hat⟩ := atl_cons hat
    obtain ⟨a2, hat⟩ := atl_cons hat
    obtain ⟨a3, hat⟩ := atl_app hat
    obtain ⟨b0, hat⟩ := atl_cons hat
    obtain ⟨b9, hat⟩ := atl_cons hat
    obtain ⟨b1, hat⟩ := atl_cons hat
    obtain ⟨b2, hat⟩ := atl_cons hat
    obtain ⟨b3, hat⟩ := atl_cons hat
    obtain ⟨c0, hat⟩ := atl_cons hat
    obtain ⟨c1, hat⟩ := atl_app hat
    obtain ⟨c2, hat⟩ := atl_cons hat
    obtain ⟨c3, hat⟩ := atl_cons hat
    obtain ⟨c4, hat⟩ := atl_cons hat
    refine ⟨3 + (opl (w / 4 % 13)).length + 2, 3 + (opl (w / 4 % 13)).length + 2 + 4 + (opl (x / 2 % 13)).length + 1, ?_⟩
    unfold pread
    have hs0 : sk f L 0 = 0 := sk_at a0 (lbc_n w).1
    rw [hs0]
    have n1 : nodP f L (0, 0, 0, fun k _ => if k = 13 then -1 else 0, fun _ => 0) (-1) 0 0 0 0 = .inr (st1 w, 3) := nod_nm (st := stZ) (nm := 23) (by omega) a0 a1 a2 (by decide) (by decide) (by decide) rfl
    rw [n1]
    simp only
    obtain ⟨fl, hfl⟩ : ∃ fl, L = fl + 3 := ⟨L - 3, by omega⟩
    have n2 : nodP f L (st1 w) ((0 : Nat) : Int) 0 (opm (w / 4 % 13)) 0 (3 + (opl (w / 4 % 13)).length + 2) = .inr (st2 w (3 + (opl (w / 4 % 13)).length + 2), 3 + (opl (w / 4 % 13)).length + 2 + 3) := nod_nm (nm := 24) (by omega) b1 b2 b3 (by decide) (by show 1 < 8; decide) (by omega) rfl
    have hp3 : sk f L 3 = 3 := sk_at (opl_hd a3) (opc_n _).1
    rw [pt_brk (fl := L) (Nat.mod_lt _ (by decide)) a3 (by omega) b0 b9 (by rw [b1]; exact (lbc_n _).1) n2 hp3]
    simp only
    have hp4 : sk f L (3 + (opl (w / 4 % 13)).length + 2 + 3) = 3 + (opl (w / 4 % 13)).length + 2 + 4 := by
      rw [sk_bl (by omega) c0]
      exact sk_at (opl_hd c1) (opc_n _).1
    have n3 : nodP f L (st2 w (3 + (opl (w / 4 % 13)).length + 2)) ((1 : Nat) : Int) 0 (opm (x / 2 % 13)) 0 (3 + (opl (w / 4 % 13)).length + 2 + 4 + (opl (x / 2 % 13)).length + 1) = .inr (st3 w x (3 + (opl (w / 4 % 13)).length + 2) (3 + (opl (w / 4 % 13)).length + 2 + 4 + (opl (x / 2 % 13)).length + 1), 3 + (opl (w / 4 % 13)).length + 2 + 4 + (opl (x / 2 % 13)).length + 1 + 1) := by
      have hh := h2n (3 + (opl (w / 4 % 13)).length + 2)
      have := nod_no (f := f) (L := L) (st := st2 w (3 + (opl (w / 4 % 13)).length + 2)) (here := ((1 : Nat) : Int)) (mk := 0) (m := opm (x / 2 % 13)) (k := 0) (p := 3 + (opl (w / 4 % 13)).length + 2 + 4 + (opl (x / 2 % 13)).length + 1) (a := x / 26) (z := 41) (by omega) c3 (by rw [tb_lt (by omega)]; exact c4) (Or.inl rfl) (by show 2 < 8; decide) (by omega)
      rw [this]
      unfold st3
      rw [if_pos c]
      rfl
    rw [hfl, pt_rel (fl := fl + 2) (here := (st1 w).1) (Nat.mod_lt _ (by decide)) c1 (by omega) c2 (by rw [c3]; exact ⟨(lbc_n _).1, (lbc_n _).2.2.2.2.1⟩) (by rw [← hfl]; exact n3) (by rw [← hfl]; exact hp4)]
    simp only
    rw [← hfl, show fl + 2 = (fl + 1) + 1 from rfl, ptR]
    have hs9 : sk f L (3 + (opl (w / 4 % 13)).length + 2 + 4 + (opl (x / 2 % 13)).length + 1 + 1) = 3 + (opl (w / 4 % 13)).length + 2 + 4 + (opl (x / 2 % 13)).length + 1 + 1 := sk_at c4 (by unfold zbl; omega)
    rw [hs9, tb_lt (by omega), c4, if_neg (by omega), if_pos ⟨by decide, rfl⟩]
    exact pt_end (by omega)
  · have hlen : (pt3 w x).length = (opl (w / 4 % 13)).length + (opl (x / 2 % 13)).length + 10 := by
      unfold pt3
      rw [if_neg c]
      simp only [List.length_cons, List.length_append, List.length_nil]
      omega
    have hat : atl (lfn (pt3 w x)) 0 (pt3 w x) := atl_lfn
    generalize hf : lfn (pt3 w x) = f at hat
    generalize hLL : (pt3 w x).length = L at hlen
    unfold pt3 at hat
    rw [if_neg c] at hat
    obtain ⟨a0, hat⟩ := atl_cons hat
    obtain ⟨a1, hat⟩ := atl_cons hat
    obtain ⟨a2, hat⟩ := atl_cons hat
    obtain ⟨a3, hat⟩ := atl_app hat
    obtain ⟨b0, hat⟩ := atl_cons hat
    obtain ⟨b1, hat⟩ := atl_cons hat
    obtain ⟨b2, hat⟩ := atl_cons hat
    obtain ⟨b3, hat⟩ := atl_cons hat
    obtain ⟨c0, hat⟩ := atl_cons hat
    obtain ⟨c1, hat⟩ := atl_app hat
    obtain ⟨c2, hat⟩ := atl_cons hat
    obtain ⟨c3, hat⟩ := atl_cons hat
    refine ⟨3 + (opl (w / 4 % 13)).length + 1, 3 + (opl (w / 4 % 13)).length + 1 + 4 + (opl (x / 2 % 13)).length + 1, ?_⟩
    unfold pread
    have hs0 : sk f L 0 = 0 := sk_at a0 (lbc_n w).1
    rw [hs0]
    have n1 : nodP f L (0, 0, 0, fun k _ => if k = 13 then -1 else 0, fun _ => 0) (-1) 0 0 0 0 = .inr (st1 w, 3) := nod_nm (st := stZ) (nm := 23) (by omega) a0 a1 a2 (by decide) (by decide) (by decide) rfl
    rw [n1]
    simp only
    obtain ⟨fl, hfl⟩ : ∃ fl, L = fl + 2 := ⟨L - 2, by omega⟩
    have n2 : nodP f L (st1 w) ((0 : Nat) : Int) 0 (opm (w / 4 % 13)) 0 (3 + (opl (w / 4 % 13)).length + 1) = .inr (st2 w (3 + (opl (w / 4 % 13)).length + 1), 3 + (opl (w / 4 % 13)).length + 1 + 3) := nod_nm (nm := 24) (by omega) b1 b2 b3 (by decide) (by show 1 < 8; decide) (by omega) rfl
    have hp3 : sk f L 3 = 3 := sk_at (opl_hd a3) (opc_n _).1
    rw [pt_rel (fl := L) (Nat.mod_lt _ (by decide)) a3 (by omega) b0 (by rw [b1]; exact ⟨(lbc_n _).1, (lbc_n _).2.2.2.2.1⟩) n2 hp3]
    simp only
    have hp4 : sk f L (3 + (opl (w / 4 % 13)).length + 1 + 3) = 3 + (opl (w / 4 % 13)).length + 1 + 4 := by
      rw [sk_bl (by omega) c0]
      exact sk_at (opl_hd c1) (opc_n _).1
    have n3 : nodP f L (st2 w (3 + (opl (w / 4 % 13)).length + 1)) ((0 : Nat) : Int) 0 (opm (x / 2 % 13)) 0 (3 + (opl (w / 4 % 13)).length + 1 + 4 + (opl (x / 2 % 13)).length + 1) = .inr (st3 w x (3 + (opl (w / 4 % 13)).length + 1) (3 + (opl (w / 4 % 13)).length + 1 + 4 + (opl (x / 2 % 13)).length + 1), 3 + (opl (w / 4 % 13)).length + 1 + 4 + (opl (x / 2 % 13)).length + 1 + 1) := by
      have hh := h2n (3 + (opl (w / 4 % 13)).length + 1)
      have := nod_no (f := f) (L := L) (st := st2 w (3 + (opl (w / 4 % 13)).length + 1)) (here := ((0 : Nat) : Int)) (mk := 0) (m := opm (x / 2 % 13)) (k := 0) (p := 3 + (opl (w / 4 % 13)).length + 1 + 4 + (opl (x / 2 % 13)).length + 1) (a := x / 26) (z := -1) (by omega) c3 (by rw [tb_ge (by omega)]) (Or.inr rfl) (by show 2 < 8; decide) (by omega)
      rw [this]
      unfold st3
      rw [if_neg c]
      rfl
    rw [hfl, pt_rel (fl := fl + 1) (Nat.mod_lt _ (by decide)) c1 (by omega) c2 (by rw [c3]; exact ⟨(lbc_n _).1, (lbc_n _).2.2.2.2.1⟩) (by rw [← hfl]; exact n3) (by rw [← hfl]; exact hp4)]
    simp only
    rw [← hfl]
    exact pt_end (by omega)
