/-! the tables of part 03 against the words of the Statement, by their places (written by emit06.py) -/
def zall2 {α β : Type} (f : α → β → Bool) : List α → List β → Bool
  | [], _ => true
  | a :: l, b :: m => f a b && zall2 f l m
  | _ :: _, [] => false
theorem zall2_mem {α β : Type} {f : α → β → Bool} : ∀ {l : List α} {m : List β}, zall2 f l m = true → ∀ a ∈ l, ∃ b, f a b = true
  | [], _, _, a, h => by cases h
  | a :: l, b :: m, h, x, hx => by
    simp only [zall2, Bool.and_eq_true] at h
    rcases List.mem_cons.mp hx with rfl | hx
    · exact ⟨b, h.1⟩
    · exact zall2_mem h.2 x hx
  | _ :: _, [], h, _, _ => by cases h
def zallo {α β : Type} (f : Nat → α → β → Bool) : Nat → List (List α) → List (List β) → Bool
  | _, [], _ => true
  | o, l :: ls, m :: ms => zall2 (f o) l m && zallo f (o + 1) ls ms
  | _, _ :: _, [] => false
theorem zallo_mem {α β : Type} {f : Nat → α → β → Bool} : ∀ {o : Nat} {ls : List (List α)} {ms : List (List β)}, zallo f o ls ms = true → ∀ (i : Nat) (a : α), a ∈ zth [] ls i → ∃ b, f (o + i) a b = true
  | _, [], _, _, i, a, h => by cases i <;> cases h
  | o, l :: ls, m :: ms, h, i, a, ha => by
    simp only [zallo, Bool.and_eq_true] at h
    cases i with
    | zero => exact zall2_mem h.1 a ha
    | succ i =>
      obtain ⟨b, hb⟩ := zallo_mem h.2 i a ha
      exact ⟨b, by rw [show o + (i + 1) = o + 1 + i by omega]; exact hb⟩
  | _, _ :: _, [], h, _, _, _ => by cases h
theorem zlk_mem {α : Type} : ∀ {l : List (Nat × α)} {p : Nat} {v : α}, zlk l p = some v → (p, v) ∈ l
  | [], _, _, h => by cases h
  | q :: l, p, v, h => by
    rw [zlk] at h
    cases hq : Nat.beq q.1 p with
    | true =>
      rw [hq] at h
      cases h
      have := Nat.eq_of_beq_eq_true hq
      subst this
      exact List.mem_cons_self
    | false => rw [hq] at h; exact List.mem_cons_of_mem _ (zlk_mem h)
theorem zth_all {α : Type} {P : α → Prop} {d : α} (hd : P d) : ∀ {l : List α} (_ : ∀ a ∈ l, P a) (n : Nat), P (zth d l n)
  | [], _, n => by cases n <;> exact hd
  | a :: l, h, 0 => h a List.mem_cons_self
  | a :: l, h, n + 1 => zth_all hd (fun x hx => h x (List.mem_cons_of_mem _ hx)) n
theorem zw_in {w : Cond} {i : Nat} (h : tables_1[i]? = some w) : w ∈ lw_tbl := List.mem_append_right _ (List.mem_of_getElem? h)
/-- a number's size is below b -/
def zin (b : Nat) : Int → Bool
  | .ofNat n => Nat.blt n b
  | .negSucc n => Nat.blt n b
def zCns : List String := ["Treegrab$Bench", "Treegrab$Found", "Treegrab$History", "Treegrab$Out", "Treegrab$Pattern", "Treegrab$Script", "Treegrab$Search", "Treegrab$Tape", "Treegrab$Tree", "Treegrab", "TreegrabModel", "TreegrabLaw", "java/lang/Integer", "java/lang/Long", "java/lang/Math"]
def zCn (o : Nat) : String := zth "" zCns o
/-- the kind of a class's field: 0 int, 1 boolean, 2 long, 3 reference -/
def zfks : List (List Nat) := [[3, 3, 3, 3, 3, 3, 0, 0, 0, 0], [3, 0, 0, 0, 0, 0], [3, 3, 3, 3, 0], [3, 0], [3, 3, 3, 3, 3, 3, 3, 3, 3, 3, 3, 3, 3, 3, 0, 0, 0], [3, 3, 3, 3, 3, 0], [3, 3, 3, 3, 3, 3, 3, 3, 0, 1, 3, 3, 3], [3, 0, 0, 0, 0], [3, 3, 3, 3, 3, 3, 3, 3, 3, 3, 3, 0, 0], [3, 3, 3, 3, 3, 3, 3, 3, 3, 3, 3, 3, 3, 0, 0, 0]]
def zfk (c j : Nat) : Nat := zth 0 (zth [] zfks c) j
def zfps : List (List (Bool × Nat)) := [[(false, 209), (false, 210), (false, 211), (false, 212), (false, 213), (false, 214), (true, 94), (false, 215), (true, 70), (true, 76), (false, 217), (false, 218), (true, 359), (true, 365), (true, 367), (false, 216)],
  [(false, 182), (false, 183), (false, 185), (false, 186), (false, 188), (false, 187)],
  [(false, 247), (false, 248), (false, 249), (false, 250), (false, 251), (true, 97), (true, 72), (true, 77)],
  [(false, 269), (false, 270), (true, 99), (true, 83), (true, 73), (true, 78)],
  [(false, 283), (false, 285), (false, 287), (false, 289), (false, 291), (false, 293), (false, 294), (false, 295), (false, 298), (false, 300), (false, 302), (false, 304), (false, 305), (false, 307), (true, 43), (false, 311), (false, 309), (false, 313)],
  [(false, 358), (false, 360), (false, 362), (false, 364), (false, 366), (false, 368), (true, 45)],
  [(false, 134), (false, 135), (false, 136), (false, 137), (false, 138), (false, 139), (false, 140), (false, 141), (false, 146), (false, 147), (true, 96), (true, 71), (true, 310), (true, 292), (false, 143), (true, 315), (true, 308), (true, 288), (false, 148), (false, 145), (true, 303), (true, 301), (true, 299), (true, 296), (true, 284), (true, 286), (true, 290)],
  [(false, 38), (false, 40), (false, 44), (false, 46), (false, 48)],
  [(false, 69), (false, 75), (false, 79), (false, 81), (false, 82), (false, 85), (false, 86), (false, 88), (false, 90), (false, 91), (false, 92), (false, 95), (true, 42), (false, 93)],
  [(false, 383), (false, 384), (false, 385), (false, 386), (false, 387), (false, 388), (false, 389), (false, 390), (false, 391), (false, 392), (false, 393), (false, 394), (false, 395), (false, 398), (true, 41), (true, 98), (true, 314), (true, 369), (false, 397), (false, 396), (true, 80), (true, 84), (true, 89), (true, 87), (true, 39), (true, 189), (true, 144), (true, 142), (true, 361), (true, 363), (true, 219), (true, 271), (true, 74), (true, 47), (true, 49), (true, 312), (true, 184), (true, 306), (true, 297)],
  [],
  [],
  [],
  [],
  []]
def zfw (b : Bool) (o n : Nat) (t : String × String × String × Bool) : Cond := bif b then .fieldLinkNest (zCn o) n t.1 t.2.1 t.2.2.1 "Treegrab" else .fieldLink (zCn o) n t.1 t.2.1 t.2.2.1
def zfchk (o : Nat) (q : Nat × Nat × Nat × Nat × Bool) (w : Bool × Nat) : Bool := match zcl[q.2.1]? with
  | none => false
  | some r => Nat.blt q.2.2.1 r.2.2 && (decide ((r.2.1 q.2.2.1).1 = r.1) && (decide ((r.2.1 q.2.2.1).2.2.2 = q.2.2.2.2) && (Nat.beq (zfk q.2.1 q.2.2.1) q.2.2.2.1 && (decide (tables_1[w.2]? = some (zfw w.1 o q.1 (r.2.1 q.2.2.1))) && !(w.1 && Nat.beq o q.2.1)))))
set_option maxRecDepth 100000 in
theorem zf_all : zallo zfchk 0 zfts zfps = true := by decide +kernel
def zlps : List (List Nat) := [[220, 222, 224, 226, 228, 230, 232, 234, 236, 238],
  [190, 192, 194, 196, 198, 200],
  [252, 254, 256, 258, 260],
  [272, 274],
  [316, 318, 320, 322, 324, 326, 328, 330, 332, 334, 336, 338, 340, 342, 344, 346, 348],
  [370, 372, 374, 376, 378, 380],
  [149, 151, 153, 155, 157, 159, 161, 163, 165, 167, 169, 171, 173],
  [50, 52, 54, 56, 58],
  [100, 102, 104, 106, 108, 110, 112, 114, 116, 118, 120, 122, 124],
  [399, 401, 403, 405, 407, 409, 411, 413, 415, 417, 419, 421, 423, 425, 427, 429]]
def zlchk (w : Cond) (i : Nat) : Bool := decide (tables_1[i]? = some w) && goodWord w
set_option maxRecDepth 100000 in
theorem zl_all : zallo (fun _ => zlchk) 0 (zcl.map (fun r => u_ws r.1 r.2.1 r.2.2)) zlps = true := by decide +kernel
def zYs : List (List (MethodName)) := [[⟨"Treegrab$Bench", "<init>", "()V"⟩, ⟨"Treegrab$Bench", "take", "(LTreegrab$Tree;)V"⟩, ⟨"Treegrab$Bench", "giveTo", "(LTreegrab$Tree;)V"⟩, ⟨"Treegrab$Bench", "perform", "(LTreegrab$Script;III)Z"⟩, ⟨"Treegrab$Bench", "spotOf", "(I)I"⟩, ⟨"Treegrab$Bench", "pastOf", "(I)I"⟩, ⟨"Treegrab$Bench", "isWord", "(I)Z"⟩, ⟨"Treegrab$Bench", "aboveOf", "(I)I"⟩, ⟨"Treegrab$Bench", "closeGap", "(II)V"⟩, ⟨"Treegrab$Bench", "openGap", "(II)V"⟩, ⟨"Treegrab$Bench", "putRow", "(IJI)V"⟩, ⟨"Treegrab$Bench", "cutOut", "(I)Z"⟩, ⟨"Treegrab$Bench", "prune", "(I)Z"⟩, ⟨"Treegrab$Bench", "dissolve", "(I)Z"⟩, ⟨"Treegrab$Bench", "enclose", "(IJ)Z"⟩, ⟨"Treegrab$Bench", "isRefused", "(II)Z"⟩],
  [⟨"Treegrab$Bench", "spotAt", "(II)I"⟩, ⟨"Treegrab$Bench", "depthAt", "(II)I"⟩, ⟨"Treegrab$Bench", "putNew", "(JII)Z"⟩, ⟨"Treegrab$Bench", "shift", "(III)Z"⟩, ⟨"Treegrab$Bench", "hold", "(II)V"⟩, ⟨"Treegrab$Bench", "release", "(II)V"⟩, ⟨"Treegrab$Found", "<init>", "()V"⟩, ⟨"Treegrab$Found", "clear", "(III)V"⟩, ⟨"Treegrab$Found", "enter", "([I)V"⟩, ⟨"Treegrab$Found", "numberOf", "(I)I"⟩, ⟨"Treegrab$Found", "nodeIn", "(II)I"⟩, ⟨"Treegrab$History", "<init>", "()V"⟩, ⟨"Treegrab$History", "clear", "(I)V"⟩, ⟨"Treegrab$History", "keep", "(ILTreegrab$Tree;)V"⟩, ⟨"Treegrab$History", "giveBack", "(ILTreegrab$Tree;)Z"⟩, ⟨"Treegrab$Out", "<init>", "()V"⟩],
  [⟨"Treegrab$Out", "put", "(I)V"⟩, ⟨"Treegrab$Out", "putLabel", "(J)V"⟩, ⟨"Treegrab$Out", "putTree", "(LTreegrab$Tree;)V"⟩, ⟨"Treegrab$Out", "eightFrom", "(I)J"⟩, ⟨"Treegrab$Pattern", "<init>", "()V"⟩, ⟨"Treegrab$Pattern", "read", "(LTreegrab$Tape;)Z"⟩, ⟨"Treegrab$Pattern", "clear", "()V"⟩, ⟨"Treegrab$Pattern", "settlePasts", "()V"⟩, ⟨"Treegrab$Pattern", "isPlain", "(I)Z"⟩, ⟨"Treegrab$Pattern", "isNeeded", "(I)Z"⟩, ⟨"Treegrab$Pattern", "numberAt", "(I)I"⟩, ⟨"Treegrab$Pattern", "readMark", "(LTreegrab$Tape;I)I"⟩, ⟨"Treegrab$Pattern", "readOperator", "(LTreegrab$Tape;)I"⟩, ⟨"Treegrab$Pattern", "readDominance", "(LTreegrab$Tape;I)I"⟩, ⟨"Treegrab$Pattern", "readOrder", "(LTreegrab$Tape;III)I"⟩, ⟨"Treegrab$Pattern", "readNode", "(LTreegrab$Tape;III)Z"⟩],
  [⟨"Treegrab$Pattern", "isBegun", "(LTreegrab$Tape;IZ)Z"⟩, ⟨"Treegrab$Pattern", "enterRelation", "(III)V"⟩, ⟨"Treegrab$Pattern", "enterNode", "(Z)V"⟩, ⟨"Treegrab$Pattern", "readLabels", "(LTreegrab$Tape;I)Z"⟩, ⟨"Treegrab$Pattern", "readName", "(LTreegrab$Tape;)I"⟩, ⟨"Treegrab$Pattern", "readToldName", "(LTreegrab$Tape;I)Z"⟩, ⟨"Treegrab$Pattern", "readGivenName", "(LTreegrab$Tape;I)Z"⟩, ⟨"Treegrab$Pattern", "isFitting", "(IJ)Z"⟩, ⟨"Treegrab$Script", "<init>", "()V"⟩, ⟨"Treegrab$Script", "needsX", "(I)Z"⟩, ⟨"Treegrab$Script", "needsY", "(I)Z"⟩, ⟨"Treegrab$Script", "read", "(LTreegrab$Tape;)Z"⟩, ⟨"Treegrab$Script", "readEdit", "(LTreegrab$Tape;)Z"⟩, ⟨"Treegrab$Script", "kindAt", "(LTreegrab$Tape;)I"⟩, ⟨"Treegrab$Script", "readWhere", "(LTreegrab$Tape;)I"⟩, ⟨"Treegrab$Script", "whereAt", "(LTreegrab$Tape;)I"⟩],
  [⟨"Treegrab$Script", "readName", "(LTreegrab$Tape;)I"⟩, ⟨"Treegrab$Search", "<init>", "()V"⟩, ⟨"Treegrab$Search", "prepare", "(LTreegrab$Tree;LTreegrab$Pattern;)V"⟩, ⟨"Treegrab$Search", "prepareFits", "(I)V"⟩, ⟨"Treegrab$Search", "prepareReaches", "(I)V"⟩, ⟨"Treegrab$Search", "makePlan", "()V"⟩, ⟨"Treegrab$Search", "fitting", "(I)I"⟩, ⟨"Treegrab$Search", "isJoined", "(II)Z"⟩, ⟨"Treegrab$Search", "runPlan", "(LTreegrab$Found;)V"⟩, ⟨"Treegrab$Search", "runAll", "(LTreegrab$Found;)V"⟩, ⟨"Treegrab$Search", "bind", "(II)V"⟩, ⟨"Treegrab$Search", "optionsInPlan", "(II)I"⟩, ⟨"Treegrab$Search", "walk", "(I)V"⟩, ⟨"Treegrab$Search", "leaveOut", "(I)V"⟩, ⟨"Treegrab$Search", "ownNodes", "(I)I"⟩, ⟨"Treegrab$Search", "satisfying", "(I)I"⟩],
  [⟨"Treegrab$Tape", "<init>", "()V"⟩, ⟨"Treegrab$Tape", "append", "(JI)V"⟩, ⟨"Treegrab$Tape", "drop", "()V"⟩, ⟨"Treegrab$Tape", "begin", "()V"⟩, ⟨"Treegrab$Tape", "byteAt", "(I)I"⟩, ⟨"Treegrab$Tape", "next", "()I"⟩, ⟨"Treegrab$Tape", "fail", "(II)Z"⟩, ⟨"Treegrab$Tape", "wordLength", "()I"⟩, ⟨"Treegrab$Tape", "packed", "(II)J"⟩, ⟨"Treegrab$Tape", "readLabel", "()J"⟩, ⟨"Treegrab$Tape", "wholeLabel", "()J"⟩, ⟨"Treegrab$Tape", "spells", "(Ljava/lang/String;)Z"⟩, ⟨"Treegrab$Tree", "<init>", "()V"⟩, ⟨"Treegrab$Tree", "read", "(LTreegrab$Tape;)Z"⟩, ⟨"Treegrab$Tree", "readNode", "(LTreegrab$Tape;ZI)Z"⟩, ⟨"Treegrab$Tree", "settle", "()V"⟩],
  [⟨"Treegrab$Tree", "settleWords", "()V"⟩, ⟨"Treegrab$Tree", "enterInIndex", "(J)V"⟩, ⟨"Treegrab$Tree", "seek", "(J)I"⟩, ⟨"Treegrab$Tree", "holdersByIndex", "(J)I"⟩, ⟨"Treegrab$Tree", "holdersByWalk", "([II)I"⟩, ⟨"Treegrab$Tree", "isSpelled", "(J[II)Z"⟩, ⟨"Treegrab$Tree", "isRelated", "(III)Z"⟩, ⟨"Treegrab", "<init>", "()V"⟩, ⟨"Treegrab", "feed", "(JI)I"⟩, ⟨"Treegrab", "plant", "(I)I"⟩, ⟨"Treegrab", "pattern", "()I"⟩, ⟨"Treegrab", "script", "()I"⟩, ⟨"Treegrab", "fault", "(Z)I"⟩, ⟨"Treegrab", "nodes", "(I)I"⟩, ⟨"Treegrab", "parent", "(II)I"⟩, ⟨"Treegrab", "children", "(II)I"⟩],
  [⟨"Treegrab", "wordOf", "(IIZ)I"⟩, ⟨"Treegrab", "withLabel", "(I)I"⟩, ⟨"Treegrab", "withLabelByWalk", "(I)I"⟩, ⟨"Treegrab", "matches", "(I)I"⟩, ⟨"Treegrab", "matchesByTrying", "(I)I"⟩, ⟨"Treegrab", "matchAt", "(III)I"⟩, ⟨"Treegrab", "matchAtByTrying", "(III)I"⟩, ⟨"Treegrab", "planAt", "(II)I"⟩, ⟨"Treegrab", "edit", "(I)I"⟩, ⟨"Treegrab", "undo", "(I)I"⟩, ⟨"Treegrab", "show", "(I)I"⟩, ⟨"Treegrab", "label", "(II)I"⟩, ⟨"Treegrab", "word", "(I)J"⟩, ⟨"Treegrab", "isNoPlace", "(I)Z"⟩, ⟨"Treegrab", "requirePlace", "(I)V"⟩, ⟨"Treegrab", "requireNode", "(II)V"⟩],
  [⟨"Treegrab", "requireMatch", "(LTreegrab$Found;II)V"⟩, ⟨"Treegrab", "takeFault", "()V"⟩, ⟨"Treegrab", "isUnsearchable", "(I)Z"⟩, ⟨"Treegrab", "prepareSearch", "(I)V"⟩, ⟨"Treegrab", "forgetMatches", "()V"⟩, ⟨"Treegrab", "findPlanned", "(I)V"⟩, ⟨"Treegrab", "findByTrying", "(I)V"⟩, ⟨"Treegrab", "nodeNamed", "(I)I"⟩, ⟨"Treegrab", "isLetter", "(I)Z"⟩, ⟨"Treegrab", "isSmallLetter", "(I)Z"⟩, ⟨"Treegrab", "isDigit", "(I)Z"⟩, ⟨"TreegrabLaw", "dice", "([II)I"⟩, ⟨"TreegrabLaw", "act", "(LTreegrab;IJI)I"⟩, ⟨"TreegrabLaw", "of", "(LTreegrab;IIII)I"⟩, ⟨"TreegrabLaw", "says", "(LTreegrab;I)V"⟩, ⟨"TreegrabLaw", "all", "(LTreegrab;)J"⟩],
  [⟨"TreegrabLaw", "isBelow", "(LTreegrab;II)Z"⟩, ⟨"TreegrabLaw", "label", "(LTreegrab;I)C"⟩, ⟨"TreegrabLaw", "out", "(LTreegrab;I)I"⟩, ⟨"TreegrabLaw", "hasChild", "([I[II)Z"⟩, ⟨"TreegrabLaw", "isUnder", "([III)Z"⟩, ⟨"TreegrabLaw", "tells", "(LTreegrab;[I[IZ)I"⟩, ⟨"TreegrabLaw", "puts", "(LTreegrab;IIZ)Z"⟩, ⟨"TreegrabLaw", "isTree", "(LTreegrab;[I[I)Z"⟩, ⟨"TreegrabLaw", "areLabelled", "(LTreegrab;I)Z"⟩, ⟨"TreegrabLaw", "saysOperator", "(LTreegrab;I)V"⟩, ⟨"TreegrabLaw", "rank", "(LTreegrab;I)I"⟩, ⟨"TreegrabLaw", "holds", "(LTreegrab;III)Z"⟩, ⟨"TreegrabLaw", "saysPattern", "(LTreegrab;IIZ)V"⟩, ⟨"TreegrabLaw", "fits", "(LTreegrab;II)Z"⟩, ⟨"TreegrabLaw", "areMatches", "(LTreegrab;II)Z"⟩, ⟨"TreegrabLaw", "isPlan", "(LTreegrab;I)Z"⟩],
  [⟨"TreegrabLaw", "areParts", "(LTreegrab;I)Z"⟩, ⟨"TreegrabLaw", "isEdited", "(LTreegrab;[I[III)Z"⟩, ⟨"TreegrabLaw", "children", "([I[II)I"⟩, ⟨"TreegrabLaw", "words", "([I[II)I"⟩, ⟨"TreegrabLaw", "isRefused", "(LTreegrab;[II)Z"⟩, ⟨"TreegrabLaw", "law", "([I)Z"⟩, ⟨"java/lang/Integer", "bitCount", "(I)I"⟩, ⟨"java/lang/Integer", "numberOfTrailingZeros", "(I)I"⟩, ⟨"java/lang/Long", "bitCount", "(J)I"⟩, ⟨"java/lang/Long", "numberOfTrailingZeros", "(J)I"⟩]]
def zY (y : Nat) : MethodName := zth2 ⟨"", "", ""⟩ zYs y
def zyps : List (List (Nat × Nat × Nat × Nat)) := [[(207, 206, 6, 0), (927, 926, 6, 58), (1041, 1040, 6, 82), (958, 957, 6, 62), (962, 961, 6, 63), (976, 975, 6, 66), (988, 987, 6, 69), (972, 971, 6, 65), (980, 979, 6, 67), (1000, 999, 6, 72), (1004, 1003, 6, 73), (968, 967, 6, 64), (984, 983, 6, 68), (992, 991, 6, 70), (996, 995, 6, 71), (1012, 1011, 6, 75)],
  [(1016, 1015, 6, 76), (1020, 1019, 6, 77), (1008, 1007, 6, 74), (1024, 1023, 6, 78), (1028, 1027, 6, 79), (1032, 1031, 6, 80), (180, 179, 5, 0), (833, 832, 5, 37), (907, 906, 5, 53), (939, 938, 5, 61), (935, 934, 5, 60), (245, 244, 7, 0), (637, 636, 7, 17), (1037, 1036, 7, 81), (1050, 1049, 7, 83), (267, 266, 8, 0)],
  [(1095, 1094, 8, 86), (1099, 1098, 8, 87), (1091, 1090, 8, 85), (1073, 1072, 8, 84), (281, 280, 9, 0), (649, 648, 9, 19), (654, 653, 9, 20), (701, 700, 9, 29), (688, 687, 9, 26), (872, 871, 9, 46), (881, 880, 9, 48), (706, 705, 9, 30), (709, 708, 9, 0), (712, 711, 9, 0), (716, 715, 9, 0), (658, 657, 9, 21)],
  [(663, 662, 9, 22), (670, 669, 9, 23), (674, 673, 9, 24), (696, 695, 9, 28), (681, 680, 9, 0), (678, 677, 9, 25), (692, 691, 9, 27), (856, 855, 9, 42), (356, 355, 10, 0), (798, 797, 10, 34), (807, 806, 10, 35), (725, 724, 10, 31), (731, 730, 10, 32), (734, 733, 10, 0), (810, 809, 10, 0), (813, 812, 10, 0)],
  [(801, 800, 10, 0), (132, 131, 4, 0), (848, 847, 4, 40), (852, 851, 4, 41), (860, 859, 4, 43), (868, 867, 4, 45), (885, 884, 4, 49), (876, 875, 4, 47), (895, 894, 4, 50), (1194, 1193, 4, 93), (899, 898, 4, 51), (923, 922, 4, 57), (903, 902, 4, 52), (919, 918, 4, 56), (915, 914, 4, 55), (911, 910, 4, 54)],
  [(36, 35, 2, 0), (538, 537, 2, 1), (549, 548, 2, 2), (573, 572, 2, 4), (581, 580, 2, 6), (577, 576, 2, 5), (585, 584, 2, 7), (598, 597, 2, 10), (609, 608, 2, 11), (593, 592, 2, 9), (1139, 1138, 2, 89), (739, 738, 2, 33), (67, 66, 3, 0), (569, 568, 3, 3), (589, 588, 3, 8), (618, 617, 3, 13)],
  [(633, 632, 3, 16), (622, 621, 3, 14), (626, 625, 3, 15), (1143, 1142, 3, 90), (1151, 1150, 3, 91), (1154, 1153, 3, 0), (864, 863, 3, 44), (28, 27, 1, 0), (450, 448, 1, 544), (542, 540, 1, 636), (645, 643, 1, 739), (721, 719, 1, 815), (435, 433, 1, 529), (1103, 1101, 1, 1197), (1107, 1105, 1, 1201), (1116, 1114, 1, 1210)],
  [(1120, 1118, 1, 1214), (1135, 1133, 1, 1229), (1147, 1145, 1, 1241), (1167, 1165, 1, 1261), (1186, 1184, 1, 1280), (1198, 1196, 1, 1292), (1208, 1206, 1, 1302), (1212, 1210, 1, 1306), (822, 820, 1, 916), (1046, 1044, 1, 1140), (1087, 1085, 1, 1181), (1124, 1122, 1, 1218), (1069, 1067, 1, 1163), (545, 544, 1, 0), (825, 824, 1, 0), (1111, 1110, 1, 88)],
  [(1202, 1201, 1, 94), (613, 612, 1, 12), (840, 839, 1, 38), (844, 843, 1, 39), (641, 640, 1, 18), (829, 828, 1, 36), (1190, 1189, 1, 92), (931, 930, 1, 59), (601, 600, 1, 0), (684, 683, 1, 0), (604, 603, 1, 0), (438, 437, 0, 0), (443, 442, 0, 0), (1182, 1181, 0, 0), (1077, 1076, 0, 0), (1233, 1232, 0, 0)],
  [(1176, 1175, 0, 0), (1128, 1127, 0, 0), (1065, 1064, 0, 0), (1059, 1058, 0, 0), (1080, 1079, 0, 0), (1056, 1055, 0, 0), (1062, 1061, 0, 0), (1083, 1082, 0, 0), (1131, 1130, 0, 0), (1163, 1162, 0, 0), (1179, 1178, 0, 0), (1173, 1172, 0, 0), (1160, 1159, 0, 0), (1170, 1169, 0, 0), (1157, 1156, 0, 0), (1217, 1216, 0, 0)],
  [(1220, 1219, 0, 0), (1223, 1222, 0, 0), (1239, 1238, 0, 0), (1242, 1241, 0, 0), (1245, 1244, 0, 0), (0, 0, 0, 0), (888, 887, 16, 0), (951, 950, 16, 0), (942, 941, 23, 0), (948, 947, 23, 0)]]
def zyp (y : Nat) : Nat × Nat × Nat × Nat := zth2 (0, 0, 0, 0) zyps y
def zhhs : List (Nat × List (Nat × Nat × Nat × Nat)) := [(140, [(0, 72, 73, 32), (0, 72, 79, 34), (0, 72, 85, 36)]), (141, [(0, 188, 189, 32)])]
def zhh (y : Nat) : List (Nat × Nat × Nat × Nat) := (zlk zhhs y).getD []
def zRt (y : Nat) : Option FieldType := match (zinf y).2.2.2.1 with
  | 0 => none
  | 1 => some .int
  | 2 => some .boolean
  | 4 => some .char
  | _ => some .long
/-- a method's bytes: those of its word -/
def zB (y : Nat) : ByteArray := bif Nat.beq y 165 then code else match tables_1[(zyp y).1]? with
  | some (.code _ b _ _) => b
  | some (.codeWith _ b _ _ _) => b
  | _ => ⟨#[]⟩
def zcw (y : Nat) : Cond := match zhh y with
  | [] => .code (zY y) (zB y) (zinf y).2.2.1 (zRt y)
  | hh => .codeWith (zY y) (zB y) (zinf y).2.2.1 (zRt y) hh
def zychk (y : Nat) : Bool :=
  (match tables_1[(zyp y).1]? with
    | some (.code x _ n r) => (zhh y).isEmpty && (decide (x = zY y) && (Nat.beq n (zinf y).2.2.1 && decide (r = zRt y)))
    | some (.codeWith x _ n r h) => !(zhh y).isEmpty && (decide (x = zY y) && (Nat.beq n (zinf y).2.2.1 && (decide (r = zRt y) && decide (h = zhh y))))
    | _ => false) &&
  (decide (tables_1[(zyp y).2.1]? = some (bif Nat.beq (zinf y).2.2.2.2 1 then .static (zY y) else .instanceMethod (zY y))) &&
  (decide (tables_1[(zyp y).2.2.1]? = some (.initialized (zY y).cls)) &&
  ((!Nat.beq (zinf y).2.2.2.2 0 || decide (lw_tbl[(zyp y).2.2.2]? = some (.selects (zY y).cls (zY y) (zY y)))) &&
  (decide ((zY y).cls = zCn (zinf y).1) && (plainName (zY y).cls &&
  (decide ((zY y).cls ≠ "java/lang/invoke/MethodHandle" ∧ (zY y).cls ≠ "java/lang/invoke/VarHandle") &&
  (decide ((parseMethodDescriptor (zY y).desc).map (fun d => d.parameters.length) = some ((zinf y).2.1 - (bif Nat.beq (zinf y).2.2.2.2 1 then 0 else 1))) &&
  ((Nat.beq (zinf y).2.2.2.2 1 || Nat.blt 0 (zinf y).2.1) &&
  ((!Nat.beq (zinf y).2.2.2.2 2 || (decide ((zY y).name = "<init>") && Nat.beq (zinf y).2.2.2.1 0)) &&
  ((Nat.beq (zinf y).2.2.2.2 1 || Nat.blt (zinf y).1 10) && (Nat.ble (zinf y).2.2.1 40 && (Nat.ble (zinf y).2.2.2.1 4 && (Nat.beq (zinf y).2.2.2.2 1 || (zhh y).isEmpty)))))))))))))
set_option maxRecDepth 100000 in
theorem zy_all0 : (List.range 10).all (fun i => Nat.beq (0 + i) 165 || zychk (0 + i)) = true := by decide +kernel
set_option maxRecDepth 100000 in
theorem zy_all1 : (List.range 10).all (fun i => Nat.beq (10 + i) 165 || zychk (10 + i)) = true := by decide +kernel
set_option maxRecDepth 100000 in
theorem zy_all2 : (List.range 10).all (fun i => Nat.beq (20 + i) 165 || zychk (20 + i)) = true := by decide +kernel
set_option maxRecDepth 100000 in
theorem zy_all3 : (List.range 10).all (fun i => Nat.beq (30 + i) 165 || zychk (30 + i)) = true := by decide +kernel
set_option maxRecDepth 100000 in
theorem zy_all4 : (List.range 10).all (fun i => Nat.beq (40 + i) 165 || zychk (40 + i)) = true := by decide +kernel
set_option maxRecDepth 100000 in
theorem zy_all5 : (List.range 10).all (fun i => Nat.beq (50 + i) 165 || zychk (50 + i)) = true := by decide +kernel
set_option maxRecDepth 100000 in
theorem zy_all6 : (List.range 10).all (fun i => Nat.beq (60 + i) 165 || zychk (60 + i)) = true := by decide +kernel
set_option maxRecDepth 100000 in
theorem zy_all7 : (List.range 10).all (fun i => Nat.beq (70 + i) 165 || zychk (70 + i)) = true := by decide +kernel
set_option maxRecDepth 100000 in
theorem zy_all8 : (List.range 10).all (fun i => Nat.beq (80 + i) 165 || zychk (80 + i)) = true := by decide +kernel
set_option maxRecDepth 100000 in
theorem zy_all9 : (List.range 10).all (fun i => Nat.beq (90 + i) 165 || zychk (90 + i)) = true := by decide +kernel
set_option maxRecDepth 100000 in
theorem zy_all10 : (List.range 10).all (fun i => Nat.beq (100 + i) 165 || zychk (100 + i)) = true := by decide +kernel
set_option maxRecDepth 100000 in
theorem zy_all11 : (List.range 10).all (fun i => Nat.beq (110 + i) 165 || zychk (110 + i)) = true := by decide +kernel
set_option maxRecDepth 100000 in
theorem zy_all12 : (List.range 10).all (fun i => Nat.beq (120 + i) 165 || zychk (120 + i)) = true := by decide +kernel
set_option maxRecDepth 100000 in
theorem zy_all13 : (List.range 10).all (fun i => Nat.beq (130 + i) 165 || zychk (130 + i)) = true := by decide +kernel
set_option maxRecDepth 100000 in
theorem zy_all14 : (List.range 10).all (fun i => Nat.beq (140 + i) 165 || zychk (140 + i)) = true := by decide +kernel
set_option maxRecDepth 100000 in
theorem zy_all15 : (List.range 10).all (fun i => Nat.beq (150 + i) 165 || zychk (150 + i)) = true := by decide +kernel
set_option maxRecDepth 100000 in
theorem zy_all16 : (List.range 10).all (fun i => Nat.beq (160 + i) 165 || zychk (160 + i)) = true := by decide +kernel
theorem zy_ok {y : Nat} (h : y < 170) (h2 : y ≠ 165) : zychk y = true := by
  have hb : Nat.beq y 165 = false := by
    cases q : Nat.beq y 165 with
    | false => rfl
    | true => exact absurd (Nat.eq_of_beq_eq_true q) h2
  rcases Nat.lt_or_ge y 10 with q0 | q0
  · have h0 := List.all_eq_true.mp zy_all0 (y - 0) (List.mem_range.mpr (by omega))
    rw [show 0 + (y - 0) = y by omega, hb] at h0
    simpa using h0
  rcases Nat.lt_or_ge y 20 with q1 | q1
  · have h0 := List.all_eq_true.mp zy_all1 (y - 10) (List.mem_range.mpr (by omega))
    rw [show 10 + (y - 10) = y by omega, hb] at h0
    simpa using h0
  rcases Nat.lt_or_ge y 30 with q2 | q2
  · have h0 := List.all_eq_true.mp zy_all2 (y - 20) (List.mem_range.mpr (by omega))
    rw [show 20 + (y - 20) = y by omega, hb] at h0
    simpa using h0
  rcases Nat.lt_or_ge y 40 with q3 | q3
  · have h0 := List.all_eq_true.mp zy_all3 (y - 30) (List.mem_range.mpr (by omega))
    rw [show 30 + (y - 30) = y by omega, hb] at h0
    simpa using h0
  rcases Nat.lt_or_ge y 50 with q4 | q4
  · have h0 := List.all_eq_true.mp zy_all4 (y - 40) (List.mem_range.mpr (by omega))
    rw [show 40 + (y - 40) = y by omega, hb] at h0
    simpa using h0
  rcases Nat.lt_or_ge y 60 with q5 | q5
  · have h0 := List.all_eq_true.mp zy_all5 (y - 50) (List.mem_range.mpr (by omega))
    rw [show 50 + (y - 50) = y by omega, hb] at h0
    simpa using h0
  rcases Nat.lt_or_ge y 70 with q6 | q6
  · have h0 := List.all_eq_true.mp zy_all6 (y - 60) (List.mem_range.mpr (by omega))
    rw [show 60 + (y - 60) = y by omega, hb] at h0
    simpa using h0
  rcases Nat.lt_or_ge y 80 with q7 | q7
  · have h0 := List.all_eq_true.mp zy_all7 (y - 70) (List.mem_range.mpr (by omega))
    rw [show 70 + (y - 70) = y by omega, hb] at h0
    simpa using h0
  rcases Nat.lt_or_ge y 90 with q8 | q8
  · have h0 := List.all_eq_true.mp zy_all8 (y - 80) (List.mem_range.mpr (by omega))
    rw [show 80 + (y - 80) = y by omega, hb] at h0
    simpa using h0
  rcases Nat.lt_or_ge y 100 with q9 | q9
  · have h0 := List.all_eq_true.mp zy_all9 (y - 90) (List.mem_range.mpr (by omega))
    rw [show 90 + (y - 90) = y by omega, hb] at h0
    simpa using h0
  rcases Nat.lt_or_ge y 110 with q10 | q10
  · have h0 := List.all_eq_true.mp zy_all10 (y - 100) (List.mem_range.mpr (by omega))
    rw [show 100 + (y - 100) = y by omega, hb] at h0
    simpa using h0
  rcases Nat.lt_or_ge y 120 with q11 | q11
  · have h0 := List.all_eq_true.mp zy_all11 (y - 110) (List.mem_range.mpr (by omega))
    rw [show 110 + (y - 110) = y by omega, hb] at h0
    simpa using h0
  rcases Nat.lt_or_ge y 130 with q12 | q12
  · have h0 := List.all_eq_true.mp zy_all12 (y - 120) (List.mem_range.mpr (by omega))
    rw [show 120 + (y - 120) = y by omega, hb] at h0
    simpa using h0
  rcases Nat.lt_or_ge y 140 with q13 | q13
  · have h0 := List.all_eq_true.mp zy_all13 (y - 130) (List.mem_range.mpr (by omega))
    rw [show 130 + (y - 130) = y by omega, hb] at h0
    simpa using h0
  rcases Nat.lt_or_ge y 150 with q14 | q14
  · have h0 := List.all_eq_true.mp zy_all14 (y - 140) (List.mem_range.mpr (by omega))
    rw [show 140 + (y - 140) = y by omega, hb] at h0
    simpa using h0
  rcases Nat.lt_or_ge y 160 with q15 | q15
  · have h0 := List.all_eq_true.mp zy_all15 (y - 150) (List.mem_range.mpr (by omega))
    rw [show 150 + (y - 150) = y by omega, hb] at h0
    simpa using h0
  have h0 := List.all_eq_true.mp zy_all16 (y - 160) (List.mem_range.mpr (by omega))
  rw [show 160 + (y - 160) = y by omega, hb] at h0
  simpa using h0
def zmps : List (List (Bool × Nat)) := [[(false, 208), (true, 1042), (false, 959), (true, 963), (true, 964), (false, 965), (false, 989), (false, 993), (false, 1005), (false, 1021), (false, 973), (false, 969), (false, 977), (false, 981), (false, 985), (false, 997), (false, 1001), (false, 1009), (false, 1013), (false, 1017), (false, 1025), (false, 1029)],
  [(false, 181), (false, 834), (false, 940), (false, 946), (false, 936)],
  [(false, 246), (true, 1052)],
  [(false, 268), (false, 1092), (false, 1096)],
  [(false, 282), (true, 650), (false, 651), (false, 655), (true, 659), (false, 698), (false, 703), (false, 707), (false, 702), (false, 685), (true, 665), (false, 710), (false, 714), (true, 713), (false, 660), (false, 667), (false, 671), (true, 664), (false, 675), (false, 689), (false, 693), (true, 666), (true, 697), (true, 682), (false, 679)],
  [(false, 357), (true, 726), (true, 727), (false, 728), (true, 793), (false, 732), (true, 794), (false, 795), (false, 799), (true, 803), (false, 804), (false, 808), (true, 736), (false, 811), (true, 802)],
  [(false, 133), (false, 849), (false, 857), (false, 865), (true, 853), (true, 861), (true, 869), (false, 873), (false, 882), (false, 886), (true, 877), (true, 878), (false, 896), (false, 900), (false, 920), (true, 904), (false, 908), (false, 916), (false, 912)],
  [(false, 37), (false, 578), (true, 599), (true, 602), (false, 594), (false, 595), (false, 605), (false, 606), (false, 740), (false, 750)],
  [(false, 68), (true, 570), (true, 574), (true, 582), (false, 586), (true, 590), (false, 619), (false, 627), (false, 630), (false, 623), (false, 1152)],
  [(false, 29), (true, 34), (true, 65), (true, 130), (true, 178), (true, 205), (true, 243), (true, 265), (true, 279), (true, 354), (true, 535), (false, 543), (true, 546), (true, 566), (false, 610), (true, 615), (true, 634), (false, 638), (true, 646), (true, 722), (false, 823), (false, 1108), (true, 1136), (true, 1140), (true, 1148), (false, 826), (false, 1187), (false, 1199), (true, 932), (false, 837), (false, 841), (true, 924), (false, 928), (true, 953), (true, 954), (true, 955), (true, 1034), (true, 1038), (true, 1047), (true, 1088), (true, 1125), (true, 1070), (true, 845), (true, 830), (true, 892), (true, 1191)],
  [],
  [(false, 447), (false, 539), (false, 642), (false, 718), (false, 819), (false, 1043), (false, 1100), (false, 1104), (false, 1113), (false, 1117), (false, 1132), (false, 1144), (false, 1164), (false, 1183), (false, 1195), (false, 1205), (false, 1209), (false, 1084), (false, 1121), (false, 441), (false, 1066), (false, 1057), (false, 1060), (false, 1078), (false, 1063), (false, 1075), (false, 1054), (false, 1126), (false, 1174), (false, 1177), (false, 1161), (false, 1158), (false, 1168), (false, 1171), (false, 1180), (false, 1215), (false, 1231), (false, 1237), (false, 1240), (false, 1081), (false, 432), (false, 26), (false, 1243), (false, 436), (false, 1129), (false, 1155), (false, 1218), (false, 1221)],
  [],
  [(false, 949)],
  []]
def zmY (y : Nat) : MethodName := match y with
  | 9001 => Lib.objectInit
  | 9002 => ⟨"java/lang/String", "length", "()I"⟩
  | 9003 => ⟨"java/lang/String", "charAt", "(I)C"⟩
  | 9004 => ⟨"java/lang/Math", "max", "(II)I"⟩
  | 9005 => ⟨"java/lang/Math", "min", "(II)I"⟩
  | y => zY y
def zmw (b : Bool) (o n y : Nat) : Cond := bif b then .methodLinkNest (zCn o) n (zmY y) "Treegrab" else .methodLink (zCn o) n (zmY y)
def zmchk (o : Nat) (q : Nat × Nat) (w : Bool × Nat) : Bool := decide (tables_1[w.2]? = some (zmw w.1 o q.1 q.2)) && ((Nat.blt q.2 170 && !Nat.beq q.2 165) || (!w.1 && (Nat.ble 9001 q.2 && Nat.ble q.2 9005)))
set_option maxRecDepth 100000 in
theorem zm_all : zallo zmchk 0 zmts zmps = true := by decide +kernel
def zcps : List (List (Nat × Nat × Nat)) := [[],
  [],
  [],
  [],
  [],
  [],
  [],
  [],
  [],
  [(32, 33, 2), (62, 64, 3), (128, 129, 4), (176, 177, 5), (203, 204, 6), (241, 242, 7), (263, 264, 8), (277, 278, 9), (352, 353, 10)],
  [],
  [(24, 25, 1)],
  [],
  [],
  []]
def zcchk (o : Nat) (q : Nat × Nat) (w : Nat × Nat × Nat) : Bool := match zcl[q.2]? with
  | none => false
  | some r => decide (tables_1[w.1]? = some (.classLink (zCn o) q.1 r.1)) && (decide (tables_1[w.2.1]? = some (.instantiable r.1 r.2.2)) && decide (tables_1[w.2.2]? = some (.initialized r.1)))
set_option maxRecDepth 100000 in
theorem zc_all : zallo zcchk 0 zcts zcps = true := by decide +kernel
def zips : List (List Nat) := [[], [], [], [], [], [], [], [], [], [], [], [439, 440], [952, 889, 890, 891], [], []]
def zlgs : List (List Nat) := [[], [], [1051], [], [], [], [], [], [], [], [], [1234, 1235, 1236, 1074, 1224, 1225, 1226, 1227, 1228, 1229, 1230, 1246, 1247, 1248, 1249, 1250], [], [943, 944, 945], []]
def zichk (o : Nat) (q : Nat × Int) (i : Nat) : Bool := decide (tables_1[i]? = some (.constant (zCn o) q.1 (Int32.ofInt q.2))) && zin 2147483648 q.2
def zlgchk (o : Nat) (q : Nat × Int64) (i : Nat) : Bool := decide (tables_1[i]? = some (.constantLong (zCn o) q.1 q.2))
set_option maxRecDepth 100000 in
theorem zi_all : zallo zichk 0 zits zips = true := by decide +kernel
set_option maxRecDepth 100000 in
theorem zg_all : zallo zlgchk 0 zlts zlgs = true := by decide +kernel
theorem zfl_len : ∀ k, k < 124 → ∀ c, c < 10 → zkd k = c + 1 → (zcl[c]?).map (fun r => r.2.2) = some (zln k) := by decide +kernel
