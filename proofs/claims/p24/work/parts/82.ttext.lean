/-! the text of a tree with labels of one letter each -/
theorem lfn_0 {x : Int} {l : List Int} : lfn (x :: l) 0 = x := rfl
theorem lfn_s {x : Int} {l : List Int} {i : Nat} : lfn (x :: l) (i + 1) = lfn l i := rfl
/-- the list l stands at a -/
def atl (f : Nat → Int) (a : Nat) (l : List Int) : Prop := ∀ j, j < l.length → f (a + j) = lfn l j
theorem atl_app {f : Nat → Int} {a : Nat} {l l' : List Int} (h : atl f a (l ++ l')) : atl f a l ∧ atl f (a + l.length) l' := by
  refine ⟨fun j hj => ?_, fun j hj => ?_⟩
  · have := h j (by rw [List.length_append]; omega)
    rw [this, lfn_app, if_pos hj]
  · have := h (l.length + j) (by rw [List.length_append]; omega)
    rw [Nat.add_assoc, this, lfn_app, if_neg (by omega), show l.length + j - l.length = j by omega]
theorem atl_cons {f : Nat → Int} {a : Nat} {x : Int} {l : List Int} (h : atl f a (x :: l)) : f a = x ∧ atl f (a + 1) l := by
  refine ⟨h 0 (Nat.zero_lt_succ _), fun j hj => ?_⟩
  have := h (j + 1) (Nat.succ_lt_succ hj)
  rw [lfn_s] at this
  rw [← this, show a + 1 + j = a + (j + 1) by omega]
theorem atl_lfn {l : List Int} : atl (lfn l) 0 l := fun j _ => by rw [Nat.zero_add]
def ndx (T : TRE) (lb : Nat → Int) (i : Nat) : List Int := (if i = 0 then [] else [32]) ++ ((if kidc T.2.2 i T.1 = 0 then [] else [40]) ++ (lb i :: (if kidc T.2.2 i T.1 = 0 then List.replicate (T.2.2 i - nxt T i) 41 else [])))
def ttx (T : TRE) (lb : Nat → Int) : Nat → List Int
  | 0 => []
  | i + 1 => ttx T lb i ++ ndx T lb i
def rtx (T : TRE) (lb : Nat → Int) : Nat → Nat → List Int
  | 0, _ => []
  | m + 1, k => ndx T lb k ++ rtx T lb m (k + 1)
theorem ttx_rtx (T : TRE) (lb : Nat → Int) : ∀ m k, ttx T lb (k + m) = ttx T lb k ++ rtx T lb m k := by
  intro m
  induction m with
  | zero => intro k; rw [rtx, List.append_nil]; rfl
  | succ m ih =>
    intro k
    rw [rtx, show k + (m + 1) = (k + 1) + m by omega, ih (k + 1), ttx, List.append_assoc]
/-- labels of one letter -/
def lb1 (z : Int) : Prop := 65 ≤ z ∧ z ≤ 90
theorem wl_1 {f : Nat → Int} {L a : Nat} {z : Int} (ha : a < L) (hz : f a = z) (h1 : lb1 z) (hn : ¬ (a + 1 < L ∧ (zlet (f (a + 1)) ∨ zdig (f (a + 1))))) : wl f L a = 1 := by
  unfold lb1 at h1
  have : zlet (tb f L a) := by rw [tb_lt ha, hz]; right; exact h1
  unfold wl
  rw [if_pos this, wend_no hn]
  omega
theorem pkf_1 {g : Nat → Int} {z : Int} (h : g 0 = z) (h0 : 0 ≤ z) (h1 : z < 256) : pkf g 1 = zi2l z := by
  show pkf g 0 ||| zlshl (zi2l (g 0)) ((8 * 0 : Nat) : Int) = _
  rw [h]
  obtain ⟨n, rfl⟩ : ∃ n : Nat, z = n := ⟨z.toNat, by omega⟩
  apply nv_inj
  rw [nv_or, show ((8 * 0 : Nat) : Int) = ((0 : Nat) : Int) from rfl, nv_shl (by decide), nv_i2l (by omega)]
  show (0 : Nat) ||| (n * 1 % 18446744073709551616) = n
  rw [Nat.mul_one, Nat.mod_eq_of_lt (by omega), Nat.zero_or]
theorem rdl_1 {f : Nat → Int} {L a : Nat} {z : Int} (ha : a < L) (hz : f a = z) (h1 : lb1 z) (hn : ¬ (a + 1 < L ∧ (zlet (f (a + 1)) ∨ zdig (f (a + 1))))) : rdl f L a = .inr (zi2l z, a + 1) := by
  have hsk : sk f L a = a := sk_no (fun w => by have := w.2; rw [hz] at this; unfold lb1 at h1; unfold zbl at this; omega)
  have hw := wl_1 ha hz h1 hn
  unfold rdl
  rw [hsk, hw, if_neg (by decide), if_neg (by decide)]
  unfold pk
  rw [show min 1 6 = 1 from rfl, pkf_1 (z := z) (by exact hz) (by unfold lb1 at h1; omega) (by unfold lb1 at h1; omega)]
theorem rtx_head {T : TRE} {lb : Nat → Int} (hw : wfd T.1 T.2.2) {m k : Nat} (hk : 0 < k) : rtx T lb m k = [] ∨ ∃ l, rtx T lb m k = 32 :: l := by
  cases m with
  | zero => exact Or.inl rfl
  | succ m =>
    right
    rw [rtx, ndx, if_neg (by omega)]
    exact ⟨_, rfl⟩
/-- closings -/
theorem tpr_cl {f : Nat → Int} {L c : Nat} {lab : Nat → Int64} {dep : Nat → Nat} (hc : 0 < c) : ∀ (n a o fuel : Nat), atl f a (List.replicate n 41) → a + n ≤ L → n ≤ o → n ≤ fuel → tpr f L fuel a c o lab dep = tpr f L (fuel - n) (a + n) c (o - n) lab dep := by
  intro n
  induction n with
  | zero => intro a o fuel _ _ _ _; rfl
  | succ n ih =>
    intro a o fuel h hL ho hf
    obtain ⟨h1, h2⟩ := atl_cons (l := List.replicate n 41) h
    obtain ⟨fl, rfl⟩ : ∃ fl, fuel = fl + 1 := ⟨fuel - 1, by omega⟩
    have hsk : sk f L a = a := sk_no (fun w => by have := w.2; rw [h1] at this; unfold zbl at this; omega)
    rw [tpr, if_neg (by omega), hsk, tb_lt (by omega), h1, if_pos ⟨rfl, by omega⟩, ih (a + 1) (o - 1) fl h2 (by omega) (by omega) (by omega)]
    rw [show fl + 1 - (n + 1) = fl - n by omega, show a + (n + 1) = a + 1 + n by omega, show o - (n + 1) = o - 1 - n by omega]
theorem tpr_tx {T : TRE} {lb : Nat → Int} {f : Nat → Int} {L : Nat} (hw : wfd T.1 T.2.2) (h1 : 1 ≤ T.1) (hlb : ∀ i, i < T.1 → lb1 (lb i)) : ∀ (m k a fuel : Nat) (lab' : Nat → Int64) (dep' : Nat → Nat), k + m = T.1 → atl f a (rtx T lb m k) → a + (rtx T lb m k).length = L → L - a < fuel → (∀ i, i < k → lab' i = zi2l (lb i) ∧ dep' i = T.2.2 i) → ∃ T' : TRE, tpr f L fuel a k (if k < T.1 then T.2.2 k else 0) lab' dep' = .inr T' ∧ T'.1 = T.1 ∧ ∀ i, i < T.1 → T'.2.1 i = zi2l (lb i) ∧ T'.2.2 i = T.2.2 i := by
  intro m
  induction m with
  | zero =>
    intro k a fuel lab' dep' hk hat hL hf hi
    have e : k = T.1 := by omega
    subst e
    obtain ⟨fl, rfl⟩ : ∃ fl, fuel = fl + 1 := ⟨fuel - 1, by omega⟩
    have haL : a = L := by rw [rtx] at hL; exact hL
    have hsk : sk f L a = a := sk_no (fun w => by have := w.1; omega)
    rw [if_neg (Nat.lt_irrefl _), tpr, if_pos ⟨h1, rfl⟩, hsk, tb_ge (by omega), if_pos rfl]
    exact ⟨_, rfl, rfl, hi⟩
  | succ m ih =>
    intro k a fuel lab' dep' hk hat hL hf hi
    have hkn : k < T.1 := by omega
    have hn := hw.1
    rw [if_pos hkn]
    rw [rtx] at hat hL
    rw [List.length_append] at hL
    obtain ⟨hat1, hat2⟩ := atl_app hat
    have hlk := hlb k hkn
    have hlk' := hlk
    unfold lb1 at hlk'
    -- behind the blank
    have hb : ∃ p, sk f L a = p ∧ a ≤ p ∧ (k = 0 → p = a) ∧ (0 < k → p = a + 1) ∧ atl f p ((if kidc T.2.2 k T.1 = 0 then [] else [40]) ++ (lb k :: (if kidc T.2.2 k T.1 = 0 then List.replicate (T.2.2 k - nxt T k) 41 else []))) ∧ p + ((if kidc T.2.2 k T.1 = 0 then [] else [40]) ++ (lb k :: (if kidc T.2.2 k T.1 = 0 then List.replicate (T.2.2 k - nxt T k) 41 else []) : List Int)).length = a + (ndx T lb k).length := by
      have hfirst : ∀ p, atl f p ((if kidc T.2.2 k T.1 = 0 then [] else [40]) ++ (lb k :: (if kidc T.2.2 k T.1 = 0 then List.replicate (T.2.2 k - nxt T k) 41 else []))) → f p = 40 ∨ f p = lb k := by
        intro p hp
        by_cases c : kidc T.2.2 k T.1 = 0
        · rw [if_pos c] at hp
          exact Or.inr (atl_cons hp).1
        · rw [if_neg c] at hp
          exact Or.inl (atl_cons hp).1
      by_cases c0 : k = 0
      · have e : ndx T lb k = (if kidc T.2.2 k T.1 = 0 then [] else [40]) ++ (lb k :: (if kidc T.2.2 k T.1 = 0 then List.replicate (T.2.2 k - nxt T k) 41 else [])) := by unfold ndx; rw [if_pos c0]; rfl
        rw [e] at hat1
        refine ⟨a, sk_no (fun w => ?_), Nat.le_refl _, fun _ => rfl, fun x => by omega, hat1, by rw [e]⟩
        have := w.2
        unfold zbl at this
        rcases hfirst a hat1 with x | x <;> rw [x] at this <;> omega
      · have e : ndx T lb k = 32 :: ((if kidc T.2.2 k T.1 = 0 then [] else [40]) ++ (lb k :: (if kidc T.2.2 k T.1 = 0 then List.replicate (T.2.2 k - nxt T k) 41 else []))) := by unfold ndx; rw [if_neg c0]; rfl
        rw [e] at hat1 hL
        obtain ⟨a1, a2⟩ := atl_cons hat1
        rw [List.length_cons] at hL
        refine ⟨a + 1, ?_, by omega, fun x => by omega, fun _ => rfl, a2, by rw [e, List.length_cons]; omega⟩
        rw [sk_go (by omega) (by rw [a1]; right; left; rfl)]
        refine sk_no (fun w => ?_)
        have := w.2
        unfold zbl at this
        rcases hfirst (a + 1) a2 with x | x <;> rw [x] at this <;> omega
    obtain ⟨p, hsk, hap, hp0, hp1, hatp, hlen⟩ := hb
    obtain ⟨fl, rfl⟩ : ∃ fl, fuel = fl + 1 := ⟨fuel - 1, by omega⟩
    have ho : ¬ (0 < k ∧ T.2.2 k = 0) := fun x => by have := wfd_pos hw hkn x.1; omega
    rw [tpr, if_neg ho, hsk]
    -- what follows the node's text
    have hnext : ∀ q, q = a + (ndx T lb k).length → ¬ (q < L ∧ (zlet (f q) ∨ zdig (f q))) := by
      intro q hq w
      rcases rtx_head (lb := lb) hw (m := m) (k := k + 1) (Nat.succ_pos k) with x | ⟨l, x⟩
      · rw [x] at hL
        simp only [List.length_nil] at hL
        omega
      · rw [x] at hat2
        have := (atl_cons hat2).1
        rw [← hq] at this
        rw [this] at w
        omega
    by_cases c : kidc T.2.2 k T.1 = 0
    · -- a word
      rw [if_pos c, if_pos c] at hatp hlen
      obtain ⟨p1, p2⟩ := atl_cons (l := List.replicate (T.2.2 k - nxt T k) 41) hatp
      have hlen' : p + (1 + (T.2.2 k - nxt T k)) = a + (ndx T lb k).length := by
        rw [← hlen]
        show _ = p + (lb k :: List.replicate (T.2.2 k - nxt T k) 41).length
        rw [List.length_cons, List.length_replicate]; omega
      have hpL : p < L := by omega
      have hnx := nxt_leaf hw hkn c
      have hnl : ¬ (p + 1 < L ∧ (zlet (f (p + 1)) ∨ zdig (f (p + 1)))) := by
        by_cases c9 : T.2.2 k - nxt T k = 0
        · exact hnext (p + 1) (by omega)
        · obtain ⟨n9, e9⟩ : ∃ n9, T.2.2 k - nxt T k = n9 + 1 := ⟨T.2.2 k - nxt T k - 1, by omega⟩
          rw [e9] at p2
          have := (atl_cons (l := List.replicate n9 41) p2).1
          rintro ⟨-, w⟩
          rw [this] at w
          omega
      have hnode : nodeR f L p k = .inr (zi2l (lb k), p + 1) := by
        unfold nodeR
        rw [tb_lt hpL, p1, if_neg (by omega), if_neg (by omega), rdl_1 hpL p1 hlk hnl]
        simp only
        rw [if_neg (by omega)]
      rw [hnode, tb_lt hpL, p1, if_neg (by omega)]
      simp only
      rw [if_neg (by omega), tpr_cl (Nat.succ_pos k) (T.2.2 k - nxt T k) (p + 1) (T.2.2 k) fl p2 (by omega) (by omega) (by omega)]
      have hq : p + 1 + (T.2.2 k - nxt T k) = a + (ndx T lb k).length := by omega
      rw [hq, show T.2.2 k - (T.2.2 k - nxt T k) = nxt T k by omega]
      have := ih (k + 1) (a + (ndx T lb k).length) (fl - (T.2.2 k - nxt T k)) (fup lab' k (zi2l (lb k))) (fup dep' k (T.2.2 k)) (by omega) hat2 (by omega) (by omega) (fun i hi9 => by
        by_cases e : i = k
        · rw [e, fup_eq, fup_eq]; exact ⟨rfl, rfl⟩
        · rw [fup_ne e, fup_ne e]; exact hi i (by omega))
      exact this
    · -- a node with children
      rw [if_neg c, if_neg c] at hatp hlen
      obtain ⟨p1, p2⟩ := atl_cons (l := [lb k]) hatp
      obtain ⟨p3, -⟩ := atl_cons p2
      have hlen' : p + 2 = a + (ndx T lb k).length := hlen
      have hpL : p + 1 < L := by omega
      have hnx := nxt_node hw hkn c
      have hnl : ¬ (p + 1 + 1 < L ∧ (zlet (f (p + 1 + 1)) ∨ zdig (f (p + 1 + 1)))) := hnext (p + 1 + 1) (by omega)
      have hnode : nodeR f L p k = .inr (zi2l (lb k), p + 1 + 1) := by
        unfold nodeR
        rw [tb_lt (by omega), p1, if_neg (by omega), if_pos rfl, rdl_1 hpL p3 hlk hnl]
        simp only
        rw [if_neg (by omega)]
      rw [hnode, tb_lt (by omega), p1, if_neg (by omega)]
      simp only
      rw [if_pos trivial]
      have hq : p + 1 + 1 = a + (ndx T lb k).length := by omega
      rw [hq, ← hnx]
      exact ih (k + 1) (a + (ndx T lb k).length) fl (fup lab' k (zi2l (lb k))) (fup dep' k (T.2.2 k)) (by omega) hat2 (by omega) (by omega) (fun i hi9 => by
        by_cases e : i = k
        · rw [e, fup_eq, fup_eq]; exact ⟨rfl, rfl⟩
        · rw [fup_ne e, fup_ne e]; exact hi i (by omega))
/-- the tree of its own text -/
theorem tread_ttx {T : TRE} {lb : Nat → Int} (hw : wfd T.1 T.2.2) (h1 : 1 ≤ T.1) (hlb : ∀ i, i < T.1 → lb1 (lb i)) : ∃ T' : TRE, tread (lfn (ttx T lb T.1)) (ttx T lb T.1).length = .inr T' ∧ T'.1 = T.1 ∧ ∀ i, i < T.1 → T'.2.1 i = zi2l (lb i) ∧ T'.2.2 i = T.2.2 i := by
  have e : ttx T lb T.1 = rtx T lb T.1 0 := by
    have := ttx_rtx T lb T.1 0
    rw [Nat.zero_add] at this
    rw [this]; rfl
  rw [e]
  have := tpr_tx (f := lfn (rtx T lb T.1 0)) (L := (rtx T lb T.1 0).length) hw h1 hlb T.1 0 0 ((rtx T lb T.1 0).length + 1) (fun _ => 0) (fun _ => 0) (Nat.zero_add _) atl_lfn (Nat.zero_add _) (by omega) (fun i hi => absurd hi (Nat.not_lt_zero i))
  rw [if_pos (show 0 < T.1 from h1), hw.2.1 h1] at this
  exact this
/-! what is shown is that text -/
def txl (t : TX) (l : List Int) : Prop := t.1 = l.length ∧ ∀ i, i < l.length → t.2 i = lfn l i
theorem txl_apt {t : TX} {l : List Int} {x : Int} (h : txl t l) : txl (apt t x) (l ++ [x]) := by
  obtain ⟨h1, h2⟩ := h
  refine ⟨by rw [List.length_append]; show t.1 + 1 = _; rw [h1]; rfl, fun i hi => ?_⟩
  rw [List.length_append] at hi
  have hi' : i < l.length + 1 := hi
  rw [lfn_app]
  show fup t.2 t.1 x i = _
  by_cases e : i < l.length
  · rw [if_pos e, fup_ne (by omega), h2 i e]
  · rw [if_neg e, show i = t.1 by omega, fup_eq, h1, Nat.sub_self]; rfl
theorem txl_clt {l : List Int} : ∀ (n : Nat) (t : TX) (l : List Int), txl t l → txl (clt n t) (l ++ List.replicate n 41) := by
  intro n
  induction n with
  | zero => intro t l h; rw [List.replicate, List.append_nil]; exact h
  | succ n ih =>
    intro t l h
    rw [clt, List.replicate_succ, show l ++ 41 :: List.replicate n 41 = (l ++ [41]) ++ List.replicate n 41 by simp]
    exact ih _ _ (txl_apt h)
theorem byt_hi {z : Int} (h0 : 0 ≤ z) (h1 : z < 256) {j : Nat} (hj : 1 ≤ j) : byt (zi2l z) j = 0 := by
  obtain ⟨n, rfl⟩ : ∃ n : Nat, z = n := ⟨z.toNat, by omega⟩
  unfold byt
  rw [nv_i2l (by omega)]
  have h2 : 2 ^ 8 ≤ 2 ^ (8 * j) := Nat.pow_le_pow_right (by decide) (by omega)
  rw [Nat.div_eq_of_lt (by omega)]
  rfl
theorem lbt_1 {z : Int} (h0 : 0 < z) (h1 : z < 256) (t : TX) : lbt (zi2l z) 6 0 t = apt t z := by
  rw [lbt, byt_lo (by omega) h1, if_neg (by omega)]
  exact lbt_end 5 1 _ (fun j hj => byt_hi (by omega) h1 hj)
theorem shw_ttx {T : TRE} {lb : Nat → Int} (hlb : ∀ i, i < T.1 → lb1 (lb i)) (hl : ∀ i, i < T.1 → T.2.1 i = zi2l (lb i)) : ∀ k, k ≤ T.1 → txl (shw T k) (ttx T lb k) := by
  intro k
  induction k with
  | zero => intro _; exact ⟨rfl, fun i hi => absurd hi (Nat.not_lt_zero i)⟩
  | succ k ih =>
    intro hk
    have h := ih (by omega)
    have hz := hlb k (by omega)
    unfold lb1 at hz
    rw [shw, ttx, ndx]
    unfold shn
    rw [hl k (by omega), lbt_1 (by omega) (by omega)]
    have g1 : txl (sh1 k (shw T k)) (ttx T lb k ++ (if k = 0 then [] else [32])) := by
      unfold sh1
      by_cases c : k = 0
      · rw [if_pos c, if_pos c, List.append_nil]; exact h
      · rw [if_neg c, if_neg c]; exact txl_apt h
    by_cases c : kidc T.2.2 k T.1 = 0
    · rw [if_pos c, if_pos c, if_pos c]
      have g2 : txl (sh2 T k (sh1 k (shw T k))) (ttx T lb k ++ (if k = 0 then [] else [32])) := by
        unfold sh2
        rw [if_pos c]; exact g1
      have g3 := txl_clt (l := []) (T.2.2 k - nxt T k) _ _ (txl_apt (x := lb k) g2)
      simpa [List.append_assoc] using g3
    · rw [if_neg c, if_neg c, if_neg c]
      have g2 : txl (sh2 T k (sh1 k (shw T k))) (ttx T lb k ++ (if k = 0 then [] else [32]) ++ [40]) := by
        unfold sh2
        rw [if_neg c]; exact txl_apt g1
      have g3 := txl_apt (x := lb k) g2
      simpa [List.append_assoc] using g3
