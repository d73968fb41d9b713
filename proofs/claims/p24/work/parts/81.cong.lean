/-! what is read hangs on the bytes of the tape alone -/
def eqT (L : Nat) (f g : Nat → Int) : Prop := ∀ i, i < L → f i = g i
section YCG
variable {L : Nat} {f g : Nat → Int}
theorem tb_cg (h : eqT L f g) : tb f L = tb g L := by
  funext a
  unfold tb
  by_cases c : a < L
  · rw [if_pos c, if_pos c, h a c]
  · rw [if_neg c, if_neg c]
theorem skr_cg (h : eqT L f g) : ∀ n a, skr f L n a = skr g L n a := by
  intro n
  induction n with
  | zero => intro a; rfl
  | succ n ih =>
    intro a
    rw [skr, skr]
    by_cases c : a < L
    · rw [h a c, ih]
    · rw [if_neg (fun w => c w.1), if_neg (fun w => c w.1)]
theorem sk_cg (h : eqT L f g) : sk f L = sk g L := by
  funext a
  unfold sk
  exact skr_cg h _ _
theorem wrun_cg (h : eqT L f g) : ∀ n a, wrun f L n a = wrun g L n a := by
  intro n
  induction n with
  | zero => intro a; rfl
  | succ n ih =>
    intro a
    rw [wrun, wrun]
    by_cases c : a < L
    · rw [h a c, ih]
    · rw [if_neg (fun w => c w.1), if_neg (fun w => c w.1)]
theorem wl_cg (h : eqT L f g) : wl f L = wl g L := by
  funext a
  unfold wl wend
  rw [tb_cg h, wrun_cg h]
theorem pk_cg (h : eqT L f g) {a n : Nat} (ha : a + min n 6 ≤ L) : pk f a n = pk g a n := by
  unfold pk
  exact pkf_congr _ (fun i hi => h _ (by omega))
theorem pk_wl (h : eqT L f g) {a : Nat} (h0 : wl g L a ≠ 0) : pk f a (wl g L a) = pk g a (wl g L a) := by
  refine pk_cg h ?_
  have hz : zlet (tb g L a) := Decidable.not_not.mp (fun q => h0 (wl_zero q))
  have := wl_pos hz
  omega
theorem rdl_cg (h : eqT L f g) : rdl f L = rdl g L := by
  funext a
  unfold rdl
  rw [sk_cg h, wl_cg h]
  by_cases c : wl g L (sk g L a) = 0
  · rw [if_pos c, if_pos c]
  · rw [if_neg c, if_neg c, pk_wl h c]
theorem nodeR_cg (h : eqT L f g) : nodeR f L = nodeR g L := by
  funext p c
  unfold nodeR
  rw [tb_cg h, rdl_cg h]
theorem tpr_cg (h : eqT L f g) : ∀ n a c o lab dep, tpr f L n a c o lab dep = tpr g L n a c o lab dep := by
  intro n
  induction n with
  | zero => intro a c o lab dep; rfl
  | succ n ih =>
    intro a c o lab dep
    rw [tpr, tpr, tb_cg h, sk_cg h, nodeR_cg h]
    simp only [ih]
theorem tread_cg (h : eqT L f g) : tread f L = tread g L := tpr_cg h _ _ _ _ _ _
theorem nmA_cg (h : eqT L f g) : nmA f L = nmA g L := by
  funext a; unfold nmA; rw [tb_cg h, sk_cg h]
theorem dblR_cg (h : eqT L f g) : dblR f L = dblR g L := by
  funext m z p; unfold dblR; rw [tb_cg h]
theorem relR_cg (h : eqT L f g) : relR f L = relR g L := by
  funext b z p; unfold relR; rw [tb_cg h]
theorem opR_cg (h : eqT L f g) : opR f L = opR g L := by
  funext p; unfold opR opS; rw [tb_cg h, sk_cg h, dblR_cg h, relR_cg h]
theorem tolR_cg (h : eqT L f g) : tolR f L = tolR g L := by
  funext R a; unfold tolR; rw [nmA_cg h]
theorem givR_cg (h : eqT L f g) : givR f L = givR g L := by
  funext R a; unfold givR; rw [tb_cg h, sk_cg h, nmA_cg h]
theorem lbR_cg (h : eqT L f g) : ∀ k a l B, lbR f L k a l B = lbR g L k a l B := by
  intro k
  induction k with
  | zero => intro a l B; rfl
  | succ k ih =>
    intro a l B
    rw [lbR, lbR, tb_cg h, sk_cg h, rdl_cg h]
    simp only [ih]
theorem bodR_cg (h : eqT L f g) : bodR f L = bodR g L := by
  funext R z a l B; unfold bodR; rw [tolR_cg h]; simp only [lbR_cg h]
theorem namR_cg (h : eqT L f g) : namR f L = namR g L := by
  funext R z a; unfold namR; rw [givR_cg h]
theorem begR_cg (h : eqT L f g) : begR f L = begR g L := by
  funext p c n nb; unfold begR; rw [tb_cg h, wl_cg h]
theorem nodP_cg (h : eqT L f g) : nodP f L = nodP g L := by
  funext st here mk m k p; unfold nodP; rw [tb_cg h, begR_cg h, bodR_cg h, namR_cg h]
theorem mkR_cg (h : eqT L f g) : mkR f L = mkR g L := by
  funext R here p; unfold mkR; rw [tb_cg h]
theorem brR_cg (h : eqT L f g) : brR f L = brR g L := by
  funext p; unfold brR; rw [tb_cg h]
theorem ptR_cg (h : eqT L f g) : ∀ k st here d a, ptR f L k st here d a = ptR g L k st here d a := by
  intro k
  induction k with
  | zero => intro st here d a; rfl
  | succ k ih =>
    intro st here d a
    rw [ptR, ptR, tb_cg h, sk_cg h, mkR_cg h, opR_cg h, nodP_cg h, brR_cg h]
    simp only [ih]
theorem pread_cg (h : eqT L f g) : pread f L = pread g L := by
  unfold pread; rw [nodP_cg h, sk_cg h]; simp only [ptR_cg h]
theorem nmR_cg (h : eqT L f g) : nmR f L = nmR g L := by
  funext a; unfold nmR; rw [tb_cg h, sk_cg h, wl_cg h]
theorem kdR_cg (h : eqT L f g) : kdR f L = kdR g L := by
  funext p
  unfold kdR
  rw [wl_cg h]
  by_cases c : 1 ≤ wl g L p ∧ wl g L p ≤ 6
  · rw [if_pos c, if_pos c, pk_wl h (by omega)]
  · rw [if_neg c, if_neg c]
theorem whI_cg (h : eqT L f g) : whI f L = whI g L := by
  funext p
  unfold whI
  rw [wl_cg h]
  by_cases c : 1 ≤ wl g L p ∧ wl g L p ≤ 6
  · rw [if_pos c, if_pos c, pk_wl h (by omega)]
  · rw [if_neg c, if_neg c]
theorem whR_cg (h : eqT L f g) : whR f L = whR g L := by
  funext a; unfold whR; rw [sk_cg h, wl_cg h, whI_cg h]
theorem edC_cg (h : eqT L f g) : edC f L = edC g L := by
  funext k a; unfold edC; rw [whR_cg h, nmR_cg h]
theorem edB_cg (h : eqT L f g) : edB f L = edB g L := by
  funext k a; unfold edB; rw [rdl_cg h, edC_cg h]
theorem edA_cg (h : eqT L f g) : edA f L = edA g L := by
  funext k a; unfold edA; rw [edB_cg h, nmR_cg h]
theorem edR_cg (h : eqT L f g) : edR f L = edR g L := by
  funext p c; unfold edR; rw [kdR_cg h, wl_cg h, edA_cg h]
theorem scR_cg (h : eqT L f g) : ∀ n a c es, scR f L n a c es = scR g L n a c es := by
  intro n
  induction n with
  | zero => intro a c es; rfl
  | succ n ih =>
    intro a c es
    rw [scR, scR, tb_cg h, sk_cg h, edR_cg h]
    simp only [ih]
theorem sread_cg (h : eqT L f g) : sread f L = sread g L := by
  unfold sread; rw [tb_cg h, sk_cg h]; simp only [scR_cg h]
theorem cns_cg (h : eqT L f g) {lab : Nat → Int64} : ∀ n, cns f L lab n = cns g L lab n := by
  have hs : ∀ v, spl f L v ↔ spl g L v := fun v => by
    unfold spl
    constructor
    · rintro ⟨a, b, c⟩
      exact ⟨a, fun k hk => by rw [← h k hk]; exact b k hk, by rw [c]; exact pkf_congr _ h⟩
    · rintro ⟨a, b, c⟩
      exact ⟨a, fun k hk => by rw [h k hk]; exact b k hk, by rw [c]; exact (pkf_congr _ h).symm⟩
  intro n
  induction n with
  | zero => rfl
  | succ n ih =>
    rw [cns, cns, ih]
    congr 1
    by_cases q : spl f L (lab n)
    · rw [if_pos q, if_pos ((hs _).mp q)]
    · rw [if_neg q, if_neg (fun w => q ((hs _).mpr w))]
end YCG
/-! what is on the tape: a list of bytes; the rest of the state -/
abbrev STR : Type := (Nat → TRE) × Option (PST × (Nat → Nat)) × (Nat × (Nat → EDT)) × (Int × Int) × TX × (Nat → List TRE)
def lfn (l : List Int) : Nat → Int := fun i => l.getD i 0
def LV (l : List Int) (R : STR) (u : Nat) (σ : zW) : Prop := ∃ f : Nat → Int, LW ((f, l.length), R) u σ ∧ eqT l.length f (lfn l)
theorem LV.of {S : STA} {R : STR} {l : List Int} {u : Nat} {σ : zW} (h : LW S u σ) (hR : S.2 = R) (hl : qL S = l.length) (he : eqT l.length (qF S) (lfn l)) : LV l R u σ := by
  obtain ⟨⟨f, L⟩, R'⟩ := S
  simp only at hR hl
  subst hR
  subst hl
  exact ⟨f, h, he⟩
theorem LV.tape {l : List Int} {R : STR} {u : Nat} {σ : zW} (h : LV l R u σ) : l.length ≤ 600 ∧ ∀ i, i < l.length → 0 ≤ lfn l i ∧ lfn l i < 256 := by
  obtain ⟨f, ⟨-, u', -, hC⟩, he⟩ := h
  refine ⟨hC.1.2.2.1, fun i hi => ?_⟩
  rw [← he i hi]
  exact hC.1.2.2.2 i hi
theorem LV.le {l : List Int} {R : STR} {u u2 : Nat} {σ : zW} (h : LV l R u σ) (hu : u ≤ u2) : LV l R u2 σ := by
  obtain ⟨f, ⟨a, u', b, c⟩, he⟩ := h
  exact ⟨f, ⟨a, u', by omega, c⟩, he⟩
/-- the first n bytes of a number -/
def byl (x : Int64) (n : Nat) : List Int := (List.range n).map (byt x)
theorem byl_len {x : Int64} {n : Nat} : (byl x n).length = n := by unfold byl; rw [List.length_map, List.length_range]
theorem lfn_app {l l' : List Int} {i : Nat} : lfn (l ++ l') i = if i < l.length then lfn l i else lfn l' (i - l.length) := by
  unfold lfn
  by_cases c : i < l.length
  · rw [if_pos c, List.getD_eq_getElem?_getD, List.getD_eq_getElem?_getD, List.getElem?_append_left c]
  · rw [if_neg c, List.getD_eq_getElem?_getD, List.getD_eq_getElem?_getD, List.getElem?_append_right (by omega)]
theorem lfn_byl {x : Int64} {n i : Nat} (h : i < n) : lfn (byl x n) i = byt x i := by
  unfold lfn byl
  rw [List.getD_eq_getElem?_getD, List.getElem?_map, List.getElem?_range h]
  rfl
theorem fdf_app {f : Nat → Int} {l : List Int} {x : Int64} {n : Nat} (h : eqT l.length f (lfn l)) : eqT (l ++ byl x n).length (fdf f l.length x n) (lfn (l ++ byl x n)) := by
  intro i hi
  rw [List.length_append, byl_len] at hi
  rw [lfn_app]
  unfold fdf
  by_cases c : i < l.length
  · rw [if_neg (by omega), if_pos c]; exact h i c
  · rw [if_pos ⟨by omega, hi⟩, if_neg c, lfn_byl (by omega)]
theorem byt_lo {z : Int} (h0 : 0 ≤ z) (h1 : z < 256) : byt (zi2l z) 0 = z := by
  obtain ⟨n, rfl⟩ : ∃ n : Nat, z = n := ⟨z.toNat, by omega⟩
  unfold byt
  rw [nv_i2l (by omega)]
  show ((n / 1 % 256 : Nat) : Int) = n
  rw [Nat.div_one, Nat.mod_eq_of_lt (by omega)]
theorem byl_1 {z : Int} (h0 : 0 ≤ z) (h1 : z < 256) : byl (zi2l z) 1 = [z] := by
  show [byt (zi2l z) 0] = [z]
  rw [byt_lo h0 h1]
/-- feed, well -/
theorem v_feed {K : List zF} (hK : K.length + 8 ≤ 60) {l : List Int} {R : STR} {u n : Nat} {x : Int64} {z : Int} {σ : zW} (h : LV l R u σ) (hz : z = (n : Int)) (hn : 1 ≤ n ∧ n ≤ 8) (hl : l.length + n ≤ 600) (k : ∀ σ', lFr 1 σ σ' → LV (l ++ byl x n) R u σ' → zRet true K (some (.inl ((l.length + n : Nat) : Int))) σ') : zEv true (zent 140 [.inr (.inr 1), .inl 0, .inr (.inl x), .inl z] :: K) σ := by
  obtain ⟨f, hW, he⟩ := h
  have e : oFeed ((f, l.length), R) x z = (0, ((l.length + n : Nat) : Int), ((fdf f l.length x n, l.length + n), R)) := by
    unfold oFeed
    rw [if_neg (by omega), if_neg (by show ¬ 600 < (l.length : Int) + z; omega), hz]
    rfl
  refine v_act0 hK hW (fun σ' hF hW' => ?_)
  rw [e] at hW' ⊢
  have e2 : ac κF (0, ((l.length + n : Nat) : Int), ((fdf f l.length x n, l.length + n), R)) = ((l.length + n : Nat) : Int) := if_pos rfl
  rw [e2]
  refine k σ' hF ?_
  refine LV.of hW' rfl (by show l.length + n = _; rw [List.length_append, byl_len]) (fdf_app he)
theorem v_badfeed {K : List zF} (hK : K.length + 8 ≤ 60) {l : List Int} {R : STR} {u : Nat} {x : Int64} {z : Int} {σ : zW} (h : LV l R u σ) (hz : z < 1 ∨ 8 < z) (k : ∀ σ', lFr 1 σ σ' → LV l R u σ' → zRet true K (some (.inl (-1192))) σ') : zEv true (zent 140 [.inr (.inr 1), .inl 0, .inr (.inl x), .inl z] :: K) σ := by
  obtain ⟨f, hW, he⟩ := h
  have e : oFeed ((f, l.length), R) x z = (1, 0, ((f, l.length), R)) := by
    unfold oFeed
    rw [if_pos hz]
  refine v_act0 hK hW (fun σ' hF hW' => ?_)
  rw [e] at hW' ⊢
  exact k σ' hF ⟨f, hW', he⟩
theorem v_says {K : List zF} (hK : K.length + 9 ≤ 60) {l : List Int} {R : STR} {u : Nat} {z : Int} {σ : zW} (h : LV l R u σ) (h0 : 0 ≤ z) (h1 : z < 256) (hl : l.length < 600) (k : ∀ σ', lFr 1 σ σ' → LV (l ++ [z]) R u σ' → zRet true K none σ') : zEv true (zent 142 [.inr (.inr 1), .inl z] :: K) σ := by
  rw [ze_142 (by omega)]
  refine v_feed (n := 1) (by show K.length + 1 + 8 ≤ 60; omega) h rfl (by omega) (by omega) (fun σ' hF hV => ?_)
  rw [zr_142_8]
  rw [byl_1 h0 h1] at hV
  exact k σ' hF hV
