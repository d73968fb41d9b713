/-! the tables of part 03 against the words of the Statement, by their places (written by emit06.py) -/
def zall2 {α β : Type} (f : α → β → Bool) : List α → List β → Bool
  | [], _ => true
  | a :: l, b :: m => f a b && zall2 f l m
  | _ :: _, [] => false
theorem zall2_mem {α β : Type} {f : α → β → Bool} : ∀ {l : List α} {m : List β}, zall2 f l m = true → ∀ a ∈ l, ∃ b, f a b = true
  | [], _, _, a, h => by cases h
  | a :: l, b :: m, h, x, hx => by
    simp only [zall2, Bool.and_eq_true] at h
    rcases List.mem_cons.mp hx with rfl | hx
    · exact ⟨b, h.1⟩
    · exact zall2_mem h.2 x hx
  | _ :: _, [], h, _, _ => by cases h
def zallo {α β : Type} (f : Nat → α → β → Bool) : Nat → List (List α) → List (List β) → Bool
  | _, [], _ => true
  | o, l :: ls, m :: ms => zall2 (f o) l m && zallo f (o + 1) ls ms
  | _, _ :: _, [] => false
theorem zallo_mem {α β : Type} {f : Nat → α → β → Bool} : ∀ {o : Nat} {ls : List (List α)} {ms : List (List β)}, zallo f o ls ms = true → ∀ (i : Nat) (a : α), a ∈ zth [] ls i → ∃ b, f (o + i) a b = true
  | _, [], _, _, i, a, h => by cases i <;> cases h
  | o, l :: ls, m :: ms, h, i, a, ha => by
    simp only [zallo, Bool.and_eq_true] at h
    cases i with
    | zero => exact zall2_mem h.1 a ha
    | succ i =>
      obtain ⟨b, hb⟩ := zallo_mem h.2 i a ha
      exact ⟨b, by rw [show o + (i + 1) = o + 1 + i by omega]; exact hb⟩
  | _, _ :: _, [], h, _, _, _ => by cases h
theorem zlk_mem {α : Type} : ∀ {l : List (Nat × α)} {p : Nat} {v : α}, zlk l p = some v → (p, v) ∈ l
  | [], _, _, h => by cases h
  | q :: l, p, v, h => by
    rw [zlk] at h
    cases hq : Nat.beq q.1 p with
    | true =>
      rw [hq] at h
      cases h
      have := Nat.eq_of_beq_eq_true hq
      subst this
      exact List.mem_cons_self
    | false => rw [hq] at h; exact List.mem_cons_of_mem _ (zlk_mem h)
theorem zth_all {α : Type} {P : α → Prop} {d : α} (hd : P d) : ∀ {l : List α} (_ : ∀ a ∈ l, P a) (n : Nat), P (zth d l n)
  | [], _, n => by cases n <;> exact hd
  | a :: l, h, 0 => h a List.mem_cons_self
  | a :: l, h, n + 1 => zth_all hd (fun x hx => h x (List.mem_cons_of_mem _ hx)) n
theorem zw_in {w : Cond} {i : Nat} (h : tables_1[i]? = some w) : w ∈ lw_tbl := List.mem_append_right _ (List.mem_of_getElem? h)
/-- a number's size is below b -/
def zin (b : Nat) : Int → Bool
  | .ofNat n => Nat.blt n b
  | .negSucc n => Nat.blt n b
def zCns : List String := ["Treegrab$Bench", "Treegrab$Found", "Treegrab$History", "Treegrab$Out", "Treegrab$Pattern", "Treegrab$Script", "Treegrab$Search", "Treegrab$Tape", "Treegrab$Tree", "Treegrab", "TreegrabModel", "TreegrabLaw", "java/lang/Integer", "java/lang/Long", "java/lang/Math"]
def zCn (o : Nat) : String := zth "" zCns o
/-- the kind of a class's field: 0 int, 1 boolean, 2 long, 3 reference -/
def zfks : List (List Nat) := [[3, 3, 3, 3, 3, 3, 0, 0, 0, 0], [3, 0, 0, 0, 0, 0], [3, 3, 3, 3, 0], [3, 0], [3, 3, 3, 3, 3, 3, 3, 3, 3, 3, 3, 3, 3, 3, 0, 0, 0], [3, 3, 3, 3, 3, 0], [3, 3, 3, 3, 3, 3, 3, 3, 0, 1, 3, 3, 3], [3, 0, 0, 0, 0], [3, 3, 3, 3, 3, 3, 3, 3, 3, 3, 3, 0, 0], [3, 3, 3, 3, 3, 3, 3, 3, 3, 3, 3, 3, 3, 0, 0, 0], [3, 0, 0, 2, 0, 0, 0, 0, 3, 3, 3, 3, 3, 0, 0, 3, 3, 3, 0, 3, 3, 3, 3, 3, 3, 3, 3, 3, 3, 3, 3, 3, 0, 3, 0, 0, 3, 3, 3, 3, 3, 3, 3, 3, 3, 3, 3, 3, 3, 0, 0, 3, 0, 3, 3, 3, 3, 3, 0, 3, 3, 3, 3, 3, 0, 0, 3, 3, 3, 3, 3, 3, 3, 0, 3, 1, 3, 0, 3, 3, 3, 0, 3, 3, 3, 0, 3, 0, 0]]
def zfk (c j : Nat) : Nat := zth 0 (zth [] zfks c) j
def zfps : List (List (Bool × Nat)) := [[(false, 210), (false, 211), (false, 212), (false, 213), (false, 214), (false, 215), (true, 95), (false, 216), (true, 71), (true, 77), (false, 218), (false, 219), (true, 360), (true, 366), (true, 368), (false, 217)],
  [(false, 183), (false, 184), (false, 186), (false, 187), (false, 189), (false, 188)],
  [(false, 248), (false, 249), (false, 250), (false, 251), (false, 252), (true, 98), (true, 73), (true, 78)],
  [(false, 270), (false, 271), (true, 100), (true, 84), (true, 74), (true, 79)],
  [(false, 284), (false, 286), (false, 288), (false, 290), (false, 292), (false, 294), (false, 295), (false, 296), (false, 299), (false, 301), (false, 303), (false, 305), (false, 306), (false, 308), (true, 44), (false, 312), (false, 310), (false, 314)],
  [(false, 359), (false, 361), (false, 363), (false, 365), (false, 367), (false, 369), (true, 46)],
  [(false, 135), (false, 136), (false, 137), (false, 138), (false, 139), (false, 140), (false, 141), (false, 142), (false, 147), (false, 148), (true, 97), (true, 72), (true, 311), (true, 293), (false, 144), (true, 316), (true, 309), (true, 289), (false, 149), (false, 146), (true, 304), (true, 302), (true, 300), (true, 297), (true, 285), (true, 287), (true, 291)],
  [(false, 39), (false, 41), (false, 45), (false, 47), (false, 49)],
  [(false, 70), (false, 76), (false, 80), (false, 82), (false, 83), (false, 86), (false, 87), (false, 89), (false, 91), (false, 92), (false, 93), (false, 96), (true, 43), (false, 94)],
  [(false, 384), (false, 385), (false, 386), (false, 387), (false, 388), (false, 389), (false, 390), (false, 391), (false, 392), (false, 393), (false, 394), (false, 395), (false, 396), (false, 399), (true, 42), (true, 99), (true, 315), (true, 370), (false, 398), (false, 397), (true, 81), (true, 85), (true, 90), (true, 88), (true, 40), (true, 190), (true, 145), (true, 143), (true, 362), (true, 364), (true, 220), (true, 272), (true, 75), (true, 48), (true, 50), (true, 313), (true, 185), (true, 307), (true, 298)],
  [(false, 1219), (false, 1227), (false, 1228), (false, 1229), (false, 1230), (false, 1231), (false, 1234), (false, 1235), (false, 1236), (false, 1238), (false, 1239), (false, 1240), (false, 1241), (false, 1242), (false, 1243), (false, 1244), (false, 1245), (false, 1246), (false, 1247), (false, 1248), (false, 1249), (false, 1250), (false, 1252), (false, 1255), (false, 1256), (false, 1257), (false, 1258), (false, 1259), (false, 1260), (false, 1261), (false, 1262), (false, 1263), (false, 1264), (false, 1265), (false, 1266), (false, 1267), (false, 1270), (false, 1272), (false, 1273), (false, 1274), (false, 1275), (false, 1276), (false, 1278), (false, 1279), (false, 1280), (false, 1281), (false, 1282), (false, 1283), (false, 1285), (false, 1286), (false, 1287), (false, 1288), (false, 1289), (false, 1290), (false, 1291), (false, 1293), (false, 1295), (false, 1297), (false, 1298), (false, 1299), (false, 1301), (false, 1302), (false, 1303), (false, 1305), (false, 1307), (false, 1221), (false, 1220), (false, 1225), (false, 1226), (false, 1224), (false, 1222), (false, 1223), (false, 1232), (false, 1254), (false, 1268), (false, 1269), (false, 1237), (false, 1251), (false, 1253), (false, 1277), (false, 1271), (false, 1284), (false, 1294), (false, 1292), (false, 1296), (false, 1304), (false, 1300), (false, 1233), (false, 1306)],
  [],
  [],
  [],
  []]
def zfw (b : Bool) (o n : Nat) (t : String × String × String × Bool) : Cond := bif b then .fieldLinkNest (zCn o) n t.1 t.2.1 t.2.2.1 "Treegrab" else .fieldLink (zCn o) n t.1 t.2.1 t.2.2.1
def zfchk (o : Nat) (q : Nat × Nat × Nat × Nat × Bool) (w : Bool × Nat) : Bool := match zcl[q.2.1]? with
  | none => false
  | some r => Nat.blt q.2.2.1 r.2.2 && (decide ((r.2.1 q.2.2.1).1 = r.1) && (decide ((r.2.1 q.2.2.1).2.2.2 = q.2.2.2.2) && (Nat.beq (zfk q.2.1 q.2.2.1) q.2.2.2.1 && (decide (tables_1[w.2]? = some (zfw w.1 o q.1 (r.2.1 q.2.2.1))) && !(w.1 && Nat.beq o q.2.1)))))
set_option maxRecDepth 100000 in
theorem zf_all : zallo zfchk 0 zfts zfps = true := by decide +kernel
def zlps : List (List Nat) := [[221, 223, 225, 227, 229, 231, 233, 235, 237, 239],
  [191, 193, 195, 197, 199, 201],
  [253, 255, 257, 259, 261],
  [273, 275],
  [317, 319, 321, 323, 325, 327, 329, 331, 333, 335, 337, 339, 341, 343, 345, 347, 349],
  [371, 373, 375, 377, 379, 381],
  [150, 152, 154, 156, 158, 160, 162, 164, 166, 168, 170, 172, 174],
  [51, 53, 55, 57, 59],
  [101, 103, 105, 107, 109, 111, 113, 115, 117, 119, 121, 123, 125],
  [400, 402, 404, 406, 408, 410, 412, 414, 416, 418, 420, 422, 424, 426, 428, 430],
  [1308, 1310, 1312, 1314, 1316, 1318, 1320, 1322, 1324, 1326, 1328, 1330, 1332, 1334, 1336, 1338, 1340, 1342, 1344, 1346, 1348, 1350, 1352, 1354, 1356, 1358, 1360, 1362, 1364, 1366, 1368, 1370, 1372, 1374, 1376, 1378, 1380, 1382, 1384, 1386, 1388, 1390, 1392, 1394, 1396, 1398, 1400, 1402, 1404, 1406, 1408, 1410, 1412, 1414, 1416, 1418, 1420, 1422, 1424, 1426, 1428, 1430, 1432, 1434, 1436, 1438, 1440, 1442, 1444, 1446, 1448, 1450, 1452, 1454, 1456, 1458, 1460, 1462, 1464, 1466, 1468, 1470, 1472, 1474, 1476, 1478, 1480, 1482, 1484]]
def zlchk (w : Cond) (i : Nat) : Bool := decide (tables_1[i]? = some w) && goodWord w
set_option maxRecDepth 100000 in
theorem zl_all : zallo (fun _ => zlchk) 0 (zcl.map (fun r => u_ws r.1 r.2.1 r.2.2)) zlps = true := by decide +kernel
def zYs : List (List (MethodName)) := [[⟨"Treegrab$Bench", "<init>", "()V"⟩, ⟨"Treegrab$Bench", "take", "(LTreegrab$Tree;)V"⟩, ⟨"Treegrab$Bench", "giveTo", "(LTreegrab$Tree;)V"⟩, ⟨"Treegrab$Bench", "perform", "(LTreegrab$Script;III)Z"⟩, ⟨"Treegrab$Bench", "spotOf", "(I)I"⟩, ⟨"Treegrab$Bench", "pastOf", "(I)I"⟩, ⟨"Treegrab$Bench", "isWord", "(I)Z"⟩, ⟨"Treegrab$Bench", "aboveOf", "(I)I"⟩, ⟨"Treegrab$Bench", "closeGap", "(II)V"⟩, ⟨"Treegrab$Bench", "openGap", "(II)V"⟩, ⟨"Treegrab$Bench", "putRow", "(IJI)V"⟩, ⟨"Treegrab$Bench", "cutOut", "(I)Z"⟩, ⟨"Treegrab$Bench", "prune", "(I)Z"⟩, ⟨"Treegrab$Bench", "dissolve", "(I)Z"⟩, ⟨"Treegrab$Bench", "enclose", "(IJ)Z"⟩, ⟨"Treegrab$Bench", "isRefused", "(II)Z"⟩],
  [⟨"Treegrab$Bench", "spotAt", "(II)I"⟩, ⟨"Treegrab$Bench", "depthAt", "(II)I"⟩, ⟨"Treegrab$Bench", "putNew", "(JII)Z"⟩, ⟨"Treegrab$Bench", "shift", "(III)Z"⟩, ⟨"Treegrab$Bench", "hold", "(II)V"⟩, ⟨"Treegrab$Bench", "release", "(II)V"⟩, ⟨"Treegrab$Found", "<init>", "()V"⟩, ⟨"Treegrab$Found", "clear", "(III)V"⟩, ⟨"Treegrab$Found", "enter", "([I)V"⟩, ⟨"Treegrab$Found", "numberOf", "(I)I"⟩, ⟨"Treegrab$Found", "nodeIn", "(II)I"⟩, ⟨"Treegrab$History", "<init>", "()V"⟩, ⟨"Treegrab$History", "clear", "(I)V"⟩, ⟨"Treegrab$History", "keep", "(ILTreegrab$Tree;)V"⟩, ⟨"Treegrab$History", "giveBack", "(ILTreegrab$Tree;)Z"⟩, ⟨"Treegrab$Out", "<init>", "()V"⟩],
  [⟨"Treegrab$Out", "put", "(I)V"⟩, ⟨"Treegrab$Out", "putLabel", "(J)V"⟩, ⟨"Treegrab$Out", "putTree", "(LTreegrab$Tree;)V"⟩, ⟨"Treegrab$Out", "eightFrom", "(I)J"⟩, ⟨"Treegrab$Pattern", "<init>", "()V"⟩, ⟨"Treegrab$Pattern", "read", "(LTreegrab$Tape;)Z"⟩, ⟨"Treegrab$Pattern", "clear", "()V"⟩, ⟨"Treegrab$Pattern", "settlePasts", "()V"⟩, ⟨"Treegrab$Pattern", "isPlain", "(I)Z"⟩, ⟨"Treegrab$Pattern", "isNeeded", "(I)Z"⟩, ⟨"Treegrab$Pattern", "numberAt", "(I)I"⟩, ⟨"Treegrab$Pattern", "readMark", "(LTreegrab$Tape;I)I"⟩, ⟨"Treegrab$Pattern", "readOperator", "(LTreegrab$Tape;)I"⟩, ⟨"Treegrab$Pattern", "readDominance", "(LTreegrab$Tape;I)I"⟩, ⟨"Treegrab$Pattern", "readOrder", "(LTreegrab$Tape;III)I"⟩, ⟨"Treegrab$Pattern", "readNode", "(LTreegrab$Tape;III)Z"⟩],
  [⟨"Treegrab$Pattern", "isBegun", "(LTreegrab$Tape;IZ)Z"⟩, ⟨"Treegrab$Pattern", "enterRelation", "(III)V"⟩, ⟨"Treegrab$Pattern", "enterNode", "(Z)V"⟩, ⟨"Treegrab$Pattern", "readLabels", "(LTreegrab$Tape;I)Z"⟩, ⟨"Treegrab$Pattern", "readName", "(LTreegrab$Tape;)I"⟩, ⟨"Treegrab$Pattern", "readToldName", "(LTreegrab$Tape;I)Z"⟩, ⟨"Treegrab$Pattern", "readGivenName", "(LTreegrab$Tape;I)Z"⟩, ⟨"Treegrab$Pattern", "isFitting", "(IJ)Z"⟩, ⟨"Treegrab$Script", "<init>", "()V"⟩, ⟨"Treegrab$Script", "needsX", "(I)Z"⟩, ⟨"Treegrab$Script", "needsY", "(I)Z"⟩, ⟨"Treegrab$Script", "read", "(LTreegrab$Tape;)Z"⟩, ⟨"Treegrab$Script", "readEdit", "(LTreegrab$Tape;)Z"⟩, ⟨"Treegrab$Script", "kindAt", "(LTreegrab$Tape;)I"⟩, ⟨"Treegrab$Script", "readWhere", "(LTreegrab$Tape;)I"⟩, ⟨"Treegrab$Script", "whereAt", "(LTreegrab$Tape;)I"⟩],
  [⟨"Treegrab$Script", "readName", "(LTreegrab$Tape;)I"⟩, ⟨"Treegrab$Search", "<init>", "()V"⟩, ⟨"Treegrab$Search", "prepare", "(LTreegrab$Tree;LTreegrab$Pattern;)V"⟩, ⟨"Treegrab$Search", "prepareFits", "(I)V"⟩, ⟨"Treegrab$Search", "prepareReaches", "(I)V"⟩, ⟨"Treegrab$Search", "makePlan", "()V"⟩, ⟨"Treegrab$Search", "fitting", "(I)I"⟩, ⟨"Treegrab$Search", "isJoined", "(II)Z"⟩, ⟨"Treegrab$Search", "runPlan", "(LTreegrab$Found;)V"⟩, ⟨"Treegrab$Search", "runAll", "(LTreegrab$Found;)V"⟩, ⟨"Treegrab$Search", "bind", "(II)V"⟩, ⟨"Treegrab$Search", "optionsInPlan", "(II)I"⟩, ⟨"Treegrab$Search", "walk", "(I)V"⟩, ⟨"Treegrab$Search", "leaveOut", "(I)V"⟩, ⟨"Treegrab$Search", "ownNodes", "(I)I"⟩, ⟨"Treegrab$Search", "satisfying", "(I)I"⟩],
  [⟨"Treegrab$Tape", "<init>", "()V"⟩, ⟨"Treegrab$Tape", "append", "(JI)V"⟩, ⟨"Treegrab$Tape", "drop", "()V"⟩, ⟨"Treegrab$Tape", "begin", "()V"⟩, ⟨"Treegrab$Tape", "byteAt", "(I)I"⟩, ⟨"Treegrab$Tape", "next", "()I"⟩, ⟨"Treegrab$Tape", "fail", "(II)Z"⟩, ⟨"Treegrab$Tape", "wordLength", "()I"⟩, ⟨"Treegrab$Tape", "packed", "(II)J"⟩, ⟨"Treegrab$Tape", "readLabel", "()J"⟩, ⟨"Treegrab$Tape", "wholeLabel", "()J"⟩, ⟨"Treegrab$Tape", "spells", "(Ljava/lang/String;)Z"⟩, ⟨"Treegrab$Tree", "<init>", "()V"⟩, ⟨"Treegrab$Tree", "read", "(LTreegrab$Tape;)Z"⟩, ⟨"Treegrab$Tree", "readNode", "(LTreegrab$Tape;ZI)Z"⟩, ⟨"Treegrab$Tree", "settle", "()V"⟩],
  [⟨"Treegrab$Tree", "settleWords", "()V"⟩, ⟨"Treegrab$Tree", "enterInIndex", "(J)V"⟩, ⟨"Treegrab$Tree", "seek", "(J)I"⟩, ⟨"Treegrab$Tree", "holdersByIndex", "(J)I"⟩, ⟨"Treegrab$Tree", "holdersByWalk", "([II)I"⟩, ⟨"Treegrab$Tree", "isSpelled", "(J[II)Z"⟩, ⟨"Treegrab$Tree", "isRelated", "(III)Z"⟩, ⟨"Treegrab", "<init>", "()V"⟩, ⟨"Treegrab", "feed", "(JI)I"⟩, ⟨"Treegrab", "plant", "(I)I"⟩, ⟨"Treegrab", "pattern", "()I"⟩, ⟨"Treegrab", "script", "()I"⟩, ⟨"Treegrab", "fault", "(Z)I"⟩, ⟨"Treegrab", "nodes", "(I)I"⟩, ⟨"Treegrab", "parent", "(II)I"⟩, ⟨"Treegrab", "children", "(II)I"⟩],
  [⟨"Treegrab", "wordOf", "(IIZ)I"⟩, ⟨"Treegrab", "withLabel", "(I)I"⟩, ⟨"Treegrab", "withLabelByWalk", "(I)I"⟩, ⟨"Treegrab", "matches", "(I)I"⟩, ⟨"Treegrab", "matchesByTrying", "(I)I"⟩, ⟨"Treegrab", "matchAt", "(III)I"⟩, ⟨"Treegrab", "matchAtByTrying", "(III)I"⟩, ⟨"Treegrab", "planAt", "(II)I"⟩, ⟨"Treegrab", "edit", "(I)I"⟩, ⟨"Treegrab", "undo", "(I)I"⟩, ⟨"Treegrab", "show", "(I)I"⟩, ⟨"Treegrab", "label", "(II)I"⟩, ⟨"Treegrab", "word", "(I)J"⟩, ⟨"Treegrab", "isNoPlace", "(I)Z"⟩, ⟨"Treegrab", "requirePlace", "(I)V"⟩, ⟨"Treegrab", "requireNode", "(II)V"⟩],
  [⟨"Treegrab", "requireMatch", "(LTreegrab$Found;II)V"⟩, ⟨"Treegrab", "takeFault", "()V"⟩, ⟨"Treegrab", "isUnsearchable", "(I)Z"⟩, ⟨"Treegrab", "prepareSearch", "(I)V"⟩, ⟨"Treegrab", "forgetMatches", "()V"⟩, ⟨"Treegrab", "findPlanned", "(I)V"⟩, ⟨"Treegrab", "findByTrying", "(I)V"⟩, ⟨"Treegrab", "nodeNamed", "(I)I"⟩, ⟨"Treegrab", "isLetter", "(I)Z"⟩, ⟨"Treegrab", "isSmallLetter", "(I)Z"⟩, ⟨"Treegrab", "isDigit", "(I)Z"⟩, ⟨"TreegrabModel", "<init>", "()V"⟩, ⟨"TreegrabModel", "thrown", "()I"⟩, ⟨"TreegrabModel", "goes", "(I)Z"⟩, ⟨"TreegrabModel", "isIn", "(III)Z"⟩, ⟨"TreegrabModel", "isPlace", "(I)Z"⟩],
  [⟨"TreegrabModel", "code", "()I"⟩, ⟨"TreegrabModel", "passes", "()V"⟩, ⟨"TreegrabModel", "isSmall", "(I)Z"⟩, ⟨"TreegrabModel", "isLetter", "(I)Z"⟩, ⟨"TreegrabModel", "fails", "(II)Z"⟩, ⟨"TreegrabModel", "sign", "()I"⟩, ⟨"TreegrabModel", "isLabel", "()Z"⟩, ⟨"TreegrabModel", "isRightLabel", "()Z"⟩, ⟨"TreegrabModel", "isNoEnd", "()Z"⟩, ⟨"TreegrabModel", "isTree", "()Z"⟩, ⟨"TreegrabModel", "isName", "()Z"⟩, ⟨"TreegrabModel", "named", "(J)I"⟩, ⟨"TreegrabModel", "areLabels", "(I)Z"⟩, ⟨"TreegrabModel", "canBegin", "(Z)Z"⟩, ⟨"TreegrabModel", "isNode", "(IIII)Z"⟩, ⟨"TreegrabModel", "operator", "()I"⟩],
  [⟨"TreegrabModel", "dominance", "(I)I"⟩, ⟨"TreegrabModel", "relation", "(II)I"⟩, ⟨"TreegrabModel", "isPattern", "()Z"⟩, ⟨"TreegrabModel", "takesPattern", "()V"⟩, ⟨"TreegrabModel", "isWord", "()Z"⟩, ⟨"TreegrabModel", "isOneLetter", "()Z"⟩, ⟨"TreegrabModel", "isWhere", "()Z"⟩, ⟨"TreegrabModel", "isEdit", "()Z"⟩, ⟨"TreegrabModel", "isScript", "()Z"⟩, ⟨"TreegrabModel", "takesScript", "()V"⟩, ⟨"TreegrabModel", "feed", "(JI)I"⟩, ⟨"TreegrabModel", "isUsed", "(Z)Z"⟩, ⟨"TreegrabModel", "begins", "()V"⟩, ⟨"TreegrabModel", "plant", "(I)I"⟩, ⟨"TreegrabModel", "pattern", "()I"⟩, ⟨"TreegrabModel", "script", "()I"⟩],
  [⟨"TreegrabModel", "fault", "(Z)I"⟩, ⟨"TreegrabModel", "nodes", "(I)I"⟩, ⟨"TreegrabModel", "asks", "(II)Z"⟩, ⟨"TreegrabModel", "parent", "(II)I"⟩, ⟨"TreegrabModel", "lays", "(I)V"⟩, ⟨"TreegrabModel", "parentOf", "(I)I"⟩, ⟨"TreegrabModel", "labelOf", "(I)J"⟩, ⟨"TreegrabModel", "isBelow", "(II)Z"⟩, ⟨"TreegrabModel", "children", "(II)I"⟩, ⟨"TreegrabModel", "wordOf", "(IIZ)I"⟩, ⟨"TreegrabModel", "labelled", "(I)I"⟩, ⟨"TreegrabModel", "withLabel", "(I)I"⟩, ⟨"TreegrabModel", "withLabelByWalk", "(I)I"⟩, ⟨"TreegrabModel", "isOver", "(IIII)Z"⟩, ⟨"TreegrabModel", "isBeside", "(III)Z"⟩, ⟨"TreegrabModel", "holds", "(III)Z"⟩],
  [⟨"TreegrabModel", "isInSet", "(IJ)Z"⟩, ⟨"TreegrabModel", "fitsAlone", "(II)Z"⟩, ⟨"TreegrabModel", "fits", "(II)Z"⟩, ⟨"TreegrabModel", "valueOf", "(I)I"⟩, ⟨"TreegrabModel", "isInPart", "(I)Z"⟩, ⟨"TreegrabModel", "isSome", "(II)Z"⟩, ⟨"TreegrabModel", "laysParts", "()V"⟩, ⟨"TreegrabModel", "isGiven", "(I)Z"⟩, ⟨"TreegrabModel", "hasNumbers", "(I)Z"⟩, ⟨"TreegrabModel", "isSo", "(I)Z"⟩, ⟨"TreegrabModel", "isMatch", "()Z"⟩, ⟨"TreegrabModel", "can", "(I)Z"⟩, ⟨"TreegrabModel", "least", "(I)I"⟩, ⟨"TreegrabModel", "keeps", "()V"⟩, ⟨"TreegrabModel", "finds", "(I)V"⟩, ⟨"TreegrabModel", "matchesIn", "(I)I"⟩],
  [⟨"TreegrabModel", "matches", "(I)I"⟩, ⟨"TreegrabModel", "matchesByTrying", "(I)I"⟩, ⟨"TreegrabModel", "gives", "(I)V"⟩, ⟨"TreegrabModel", "givenBy", "(III)I"⟩, ⟨"TreegrabModel", "matchAt", "(III)I"⟩, ⟨"TreegrabModel", "matchAtByTrying", "(III)I"⟩, ⟨"TreegrabModel", "fitting", "(I)I"⟩, ⟨"TreegrabModel", "meant", "(I)I"⟩, ⟨"TreegrabModel", "areTold", "(II)Z"⟩, ⟨"TreegrabModel", "isBound", "(II)Z"⟩, ⟨"TreegrabModel", "isTold", "(II)Z"⟩, ⟨"TreegrabModel", "plans", "()I"⟩, ⟨"TreegrabModel", "planAt", "(II)I"⟩, ⟨"TreegrabModel", "spot", "(I)I"⟩, ⟨"TreegrabModel", "end", "(I)I"⟩, ⟨"TreegrabModel", "upOf", "(I)I"⟩],
  [⟨"TreegrabModel", "isSingle", "(I)Z"⟩, ⟨"TreegrabModel", "shifts", "(II)V"⟩, ⟨"TreegrabModel", "inserts", "(IIJ)V"⟩, ⟨"TreegrabModel", "tidies", "(I)Z"⟩, ⟨"TreegrabModel", "deletes", "(I)Z"⟩, ⟨"TreegrabModel", "excises", "(I)Z"⟩, ⟨"TreegrabModel", "wraps", "(IJ)Z"⟩, ⟨"TreegrabModel", "isBarred", "(JI)Z"⟩, ⟨"TreegrabModel", "spotFor", "(JI)I"⟩, ⟨"TreegrabModel", "depthFor", "(JI)I"⟩, ⟨"TreegrabModel", "adds", "(JJI)Z"⟩, ⟨"TreegrabModel", "moves", "(IJI)Z"⟩, ⟨"TreegrabModel", "bound", "(I)I"⟩, ⟨"TreegrabModel", "does", "(I)I"⟩, ⟨"TreegrabModel", "unrolls", "(I)V"⟩, ⟨"TreegrabModel", "rolls", "(I)V"⟩],
  [⟨"TreegrabModel", "edit", "(I)I"⟩, ⟨"TreegrabModel", "remembers", "(I)V"⟩, ⟨"TreegrabModel", "drops", "(I)V"⟩, ⟨"TreegrabModel", "latest", "(I)I"⟩, ⟨"TreegrabModel", "forgets", "(I)V"⟩, ⟨"TreegrabModel", "undo", "(I)I"⟩, ⟨"TreegrabModel", "prints", "(I)V"⟩, ⟨"TreegrabModel", "printsLabel", "(J)V"⟩, ⟨"TreegrabModel", "show", "(I)I"⟩, ⟨"TreegrabModel", "label", "(II)I"⟩, ⟨"TreegrabModel", "word", "(I)J"⟩, ⟨"TreegrabLaw", "feed", "(LTreegrab;JI[J)I"⟩, ⟨"TreegrabLaw", "plant", "(LTreegrab;I[J)I"⟩, ⟨"TreegrabLaw", "pattern", "(LTreegrab;[J)I"⟩, ⟨"TreegrabLaw", "script", "(LTreegrab;[J)I"⟩, ⟨"TreegrabLaw", "nodes", "(LTreegrab;I[J)I"⟩],
  [⟨"TreegrabLaw", "parent", "(LTreegrab;II[J)I"⟩, ⟨"TreegrabLaw", "children", "(LTreegrab;II[J)I"⟩, ⟨"TreegrabLaw", "wordOf", "(LTreegrab;IIZ[J)I"⟩, ⟨"TreegrabLaw", "withLabel", "(LTreegrab;I[J)I"⟩, ⟨"TreegrabLaw", "withLabelByWalk", "(LTreegrab;I[J)I"⟩, ⟨"TreegrabLaw", "matches", "(LTreegrab;I[J)I"⟩, ⟨"TreegrabLaw", "matchesByTrying", "(LTreegrab;I[J)I"⟩, ⟨"TreegrabLaw", "matchAt", "(LTreegrab;III[J)I"⟩, ⟨"TreegrabLaw", "matchAtByTrying", "(LTreegrab;III[J)I"⟩, ⟨"TreegrabLaw", "planAt", "(LTreegrab;II[J)I"⟩, ⟨"TreegrabLaw", "edit", "(LTreegrab;I[J)I"⟩, ⟨"TreegrabLaw", "undo", "(LTreegrab;I[J)I"⟩, ⟨"TreegrabLaw", "show", "(LTreegrab;I[J)I"⟩, ⟨"TreegrabLaw", "label", "(LTreegrab;II[J)I"⟩, ⟨"TreegrabLaw", "law", "([I)Z"⟩, ⟨"java/lang/Integer", "bitCount", "(I)I"⟩],
  [⟨"java/lang/Integer", "numberOfTrailingZeros", "(I)I"⟩, ⟨"java/lang/Long", "bitCount", "(J)I"⟩, ⟨"java/lang/Long", "numberOfTrailingZeros", "(J)I"⟩]]
def zY (y : Nat) : MethodName := zth2 ⟨"", "", ""⟩ zYs y
def zyps : List (List (Nat × Nat × Nat × Nat)) := [[(208, 207, 6, 0), (1077, 1076, 6, 68), (1170, 1169, 6, 90), (1087, 1086, 6, 70), (1091, 1090, 6, 71), (1105, 1104, 6, 74), (1117, 1116, 6, 77), (1101, 1100, 6, 73), (1109, 1108, 6, 75), (1129, 1128, 6, 80), (1133, 1132, 6, 81), (1097, 1096, 6, 72), (1113, 1112, 6, 76), (1121, 1120, 6, 78), (1125, 1124, 6, 79), (1141, 1140, 6, 83)],
  [(1145, 1144, 6, 84), (1149, 1148, 6, 85), (1137, 1136, 6, 82), (1153, 1152, 6, 86), (1157, 1156, 6, 87), (1161, 1160, 6, 88), (181, 180, 5, 0), (911, 910, 5, 42), (985, 984, 5, 58), (1037, 1036, 5, 67), (1033, 1032, 5, 66), (246, 245, 7, 0), (644, 643, 7, 18), (1166, 1165, 7, 89), (1182, 1181, 7, 91), (268, 267, 8, 0)],
  [(1200, 1199, 8, 93), (1204, 1203, 8, 94), (1196, 1195, 8, 92), (444, 443, 8, 0), (282, 281, 9, 0), (659, 658, 9, 20), (664, 663, 9, 21), (711, 710, 9, 30), (698, 697, 9, 27), (950, 949, 9, 51), (959, 958, 9, 53), (716, 715, 9, 31), (719, 718, 9, 0), (722, 721, 9, 0), (726, 725, 9, 0), (668, 667, 9, 22)],
  [(673, 672, 9, 23), (680, 679, 9, 24), (684, 683, 9, 25), (706, 705, 9, 29), (691, 690, 9, 0), (688, 687, 9, 26), (702, 701, 9, 28), (934, 933, 9, 47), (357, 356, 10, 0), (811, 810, 10, 35), (820, 819, 10, 36), (738, 737, 10, 32), (744, 743, 10, 33), (747, 746, 10, 0), (823, 822, 10, 0), (826, 825, 10, 0)],
  [(814, 813, 10, 0), (133, 132, 4, 0), (926, 925, 4, 45), (930, 929, 4, 46), (938, 937, 4, 48), (946, 945, 4, 50), (963, 962, 4, 54), (954, 953, 4, 52), (973, 972, 4, 55), (1016, 1015, 4, 64), (977, 976, 4, 56), (1001, 1000, 4, 62), (981, 980, 4, 57), (997, 996, 4, 61), (993, 992, 4, 60), (989, 988, 4, 59)],
  [(37, 36, 2, 0), (541, 540, 2, 2), (556, 555, 2, 3), (580, 579, 2, 5), (588, 587, 2, 7), (584, 583, 2, 6), (592, 591, 2, 8), (605, 604, 2, 11), (616, 615, 2, 12), (600, 599, 2, 10), (878, 877, 2, 38), (752, 751, 2, 34), (68, 67, 3, 0), (576, 575, 3, 4), (596, 595, 3, 9), (625, 624, 3, 14)],
  [(640, 639, 3, 17), (629, 628, 3, 15), (633, 632, 3, 16), (882, 881, 3, 39), (893, 892, 3, 40), (896, 895, 3, 0), (942, 941, 3, 49), (29, 28, 1, 0), (453, 451, 1, 632), (549, 547, 1, 728), (655, 653, 1, 834), (734, 732, 1, 913), (436, 434, 1, 615), (838, 836, 1, 1017), (848, 846, 1, 1027), (860, 858, 1, 1039)],
  [(867, 865, 1, 1046), (874, 872, 1, 1053), (889, 887, 1, 1068), (903, 901, 1, 1082), (1008, 1006, 1, 1187), (1023, 1021, 1, 1202), (1057, 1055, 1, 1236), (1064, 1062, 1, 1243), (1073, 1071, 1, 1252), (1178, 1176, 1, 1357), (1192, 1190, 1, 1371), (1211, 1209, 1, 1390), (440, 438, 1, 619), (552, 551, 1, 0), (841, 840, 1, 0), (852, 851, 1, 37)],
  [(1027, 1026, 1, 65), (620, 619, 1, 13), (918, 917, 1, 43), (922, 921, 1, 44), (648, 647, 1, 19), (907, 906, 1, 41), (1012, 1011, 1, 63), (1081, 1080, 1, 69), (608, 607, 1, 0), (694, 693, 1, 0), (611, 610, 1, 0), (1217, 1216, 11, 0), (1490, 1488, 11, 1669), (1501, 1500, 11, 95), (1497, 1496, 11, 0), (1509, 1508, 11, 0)],
  [(1529, 1528, 11, 100), (1525, 1524, 11, 99), (1535, 1534, 11, 0), (1532, 1531, 11, 0), (1539, 1538, 11, 101), (1521, 1520, 11, 98), (1547, 1546, 11, 103), (1543, 1542, 11, 102), (1551, 1550, 11, 104), (1517, 1516, 11, 97), (1587, 1586, 11, 112), (1591, 1590, 11, 113), (1595, 1594, 11, 114), (1583, 1582, 11, 111), (1579, 1578, 11, 110), (1603, 1602, 11, 116)],
  [(1607, 1606, 11, 117), (1599, 1598, 11, 115), (1575, 1574, 11, 109), (1611, 1610, 11, 118), (1627, 1626, 11, 121), (1637, 1636, 11, 122), (1641, 1640, 11, 123), (1623, 1622, 11, 120), (1619, 1618, 11, 119), (1649, 1648, 11, 124), (1494, 1492, 11, 1673), (1555, 1554, 11, 105), (1513, 1512, 11, 96), (1506, 1504, 11, 1685), (1571, 1569, 11, 1750), (1615, 1613, 11, 1794)],
  [(1653, 1651, 11, 1832), (1657, 1655, 11, 1836), (1665, 1664, 11, 125), (1661, 1659, 11, 1840), (1673, 1672, 11, 126), (1677, 1676, 11, 127), (1725, 1724, 11, 135), (1681, 1680, 11, 128), (1669, 1667, 11, 1848), (1685, 1683, 11, 1864), (1693, 1692, 11, 129), (1689, 1687, 11, 1868), (1697, 1695, 11, 1876), (1745, 1744, 11, 140), (1749, 1748, 11, 141), (1741, 1740, 11, 139)],
  [(1733, 1732, 11, 137), (1729, 1728, 11, 136), (1721, 1720, 11, 134), (1737, 1736, 11, 138), (1761, 1760, 11, 144), (1765, 1764, 11, 145), (1757, 1756, 11, 143), (1773, 1772, 11, 147), (1777, 1776, 11, 148), (1769, 1768, 11, 146), (1753, 1752, 11, 142), (1717, 1716, 11, 133), (1713, 1712, 11, 132), (1781, 1780, 11, 149), (1709, 1708, 11, 131), (1705, 1704, 11, 130)],
  [(1701, 1699, 11, 1880), (1785, 1783, 11, 1964), (1797, 1796, 11, 151), (1793, 1792, 11, 150), (1789, 1787, 11, 1968), (1801, 1799, 11, 1980), (1829, 1828, 11, 157), (1825, 1824, 11, 156), (1821, 1820, 11, 155), (1813, 1812, 11, 153), (1817, 1816, 11, 154), (1809, 1808, 11, 152), (1805, 1803, 11, 1984), (1849, 1848, 11, 161), (1857, 1856, 11, 163), (1893, 1892, 11, 172)],
  [(1877, 1876, 11, 168), (1865, 1864, 11, 165), (1861, 1860, 11, 164), (1897, 1896, 11, 173), (1889, 1888, 11, 171), (1901, 1900, 11, 174), (1853, 1852, 11, 162), (1873, 1872, 11, 167), (1881, 1880, 11, 169), (1885, 1884, 11, 170), (1869, 1868, 11, 166), (1905, 1904, 11, 175), (1845, 1844, 11, 160), (1841, 1840, 11, 159), (1837, 1836, 11, 158), (1913, 1912, 11, 177)],
  [(1833, 1831, 11, 2012), (1909, 1908, 11, 176), (1567, 1566, 11, 108), (1563, 1562, 11, 107), (1559, 1558, 11, 106), (1917, 1915, 11, 2096), (1926, 1925, 11, 178), (1930, 1929, 11, 179), (1922, 1920, 11, 2101), (1934, 1932, 11, 2113), (1938, 1936, 11, 2117), (447, 446, 0, 0), (544, 543, 0, 0), (651, 650, 0, 0), (730, 729, 0, 0), (834, 833, 0, 0)],
  [(844, 843, 0, 0), (856, 855, 0, 0), (863, 862, 0, 0), (870, 869, 0, 0), (885, 884, 0, 0), (899, 898, 0, 0), (1004, 1003, 0, 0), (1019, 1018, 0, 0), (1053, 1052, 0, 0), (1060, 1059, 0, 0), (1069, 1068, 0, 0), (1174, 1173, 0, 0), (1188, 1187, 0, 0), (1207, 1206, 0, 0), (0, 0, 0, 0), (966, 965, 23, 0)],
  [(1049, 1048, 23, 0), (1040, 1039, 24, 0), (1046, 1045, 24, 0)]]
def zyp (y : Nat) : Nat × Nat × Nat × Nat := zth2 (0, 0, 0, 0) zyps y
def zhhs : List (Nat × List (Nat × Nat × Nat × Nat)) := [(251, [(0, 11, 14, 13), (0, 11, 18, 15)]), (252, [(0, 9, 12, 21), (0, 9, 15, 15)]), (253, [(0, 8, 11, 15)]), (254, [(0, 8, 11, 15)]), (255, [(0, 9, 12, 21)]), (256, [(0, 10, 13, 21)]), (257, [(0, 10, 13, 21)]), (258, [(0, 12, 15, 21)]), (259, [(0, 9, 12, 21)]), (260, [(0, 9, 12, 21)]), (261, [(0, 9, 12, 21)]), (262, [(0, 9, 12, 21)]), (263, [(0, 12, 15, 21)]), (264, [(0, 12, 15, 21)]), (265, [(0, 10, 13, 21)]), (266, [(0, 9, 12, 21), (0, 9, 15, 15)]), (267, [(0, 9, 12, 21), (0, 9, 15, 15)]), (268, [(0, 9, 12, 21)]), (269, [(0, 10, 13, 21)])]
def zhh (y : Nat) : List (Nat × Nat × Nat × Nat) := (zlk zhhs y).getD []
def zRt (y : Nat) : Option FieldType := match (zinf y).2.2.2.1 with
  | 0 => none
  | 1 => some .int
  | 2 => some .boolean
  | _ => some .long
/-- a method's bytes: those of its word -/
def zB (y : Nat) : ByteArray := bif Nat.beq y 270 then code else match tables_1[(zyp y).1]? with
  | some (.code _ b _ _) => b
  | some (.codeWith _ b _ _ _) => b
  | _ => ⟨#[]⟩
def zcw (y : Nat) : Cond := match zhh y with
  | [] => .code (zY y) (zB y) (zinf y).2.2.1 (zRt y)
  | hh => .codeWith (zY y) (zB y) (zinf y).2.2.1 (zRt y) hh
def zychk (y : Nat) : Bool :=
  (match tables_1[(zyp y).1]? with
    | some (.code x _ n r) => (zhh y).isEmpty && (decide (x = zY y) && (Nat.beq n (zinf y).2.2.1 && decide (r = zRt y)))
    | some (.codeWith x _ n r h) => !(zhh y).isEmpty && (decide (x = zY y) && (Nat.beq n (zinf y).2.2.1 && (decide (r = zRt y) && decide (h = zhh y))))
    | _ => false) &&
  (decide (tables_1[(zyp y).2.1]? = some (bif Nat.beq (zinf y).2.2.2.2 1 then .static (zY y) else .instanceMethod (zY y))) &&
  (decide (tables_1[(zyp y).2.2.1]? = some (.initialized (zY y).cls)) &&
  ((!Nat.beq (zinf y).2.2.2.2 0 || decide (lw_tbl[(zyp y).2.2.2]? = some (.selects (zY y).cls (zY y) (zY y)))) &&
  (decide ((zY y).cls = zCn (zinf y).1) && (plainName (zY y).cls &&
  (decide ((zY y).cls ≠ "java/lang/invoke/MethodHandle" ∧ (zY y).cls ≠ "java/lang/invoke/VarHandle") &&
  (decide ((parseMethodDescriptor (zY y).desc).map (fun d => d.parameters.length) = some ((zinf y).2.1 - (bif Nat.beq (zinf y).2.2.2.2 1 then 0 else 1))) &&
  ((Nat.beq (zinf y).2.2.2.2 1 || Nat.blt 0 (zinf y).2.1) &&
  ((!Nat.beq (zinf y).2.2.2.2 2 || (decide ((zY y).name = "<init>") && Nat.beq (zinf y).2.2.2.1 0)) &&
  ((Nat.beq (zinf y).2.2.2.2 1 || Nat.blt (zinf y).1 11) && (Nat.ble (zinf y).2.2.1 40 && (Nat.ble (zinf y).2.2.2.1 3 && (Nat.beq (zinf y).2.2.2.2 1 || (zhh y).isEmpty)))))))))))))
set_option maxRecDepth 100000 in
theorem zy_all0 : (List.range 10).all (fun i => Nat.beq (0 + i) 270 || zychk (0 + i)) = true := by decide +kernel
set_option maxRecDepth 100000 in
theorem zy_all1 : (List.range 10).all (fun i => Nat.beq (10 + i) 270 || zychk (10 + i)) = true := by decide +kernel
set_option maxRecDepth 100000 in
theorem zy_all2 : (List.range 10).all (fun i => Nat.beq (20 + i) 270 || zychk (20 + i)) = true := by decide +kernel
set_option maxRecDepth 100000 in
theorem zy_all3 : (List.range 10).all (fun i => Nat.beq (30 + i) 270 || zychk (30 + i)) = true := by decide +kernel
set_option maxRecDepth 100000 in
theorem zy_all4 : (List.range 10).all (fun i => Nat.beq (40 + i) 270 || zychk (40 + i)) = true := by decide +kernel
set_option maxRecDepth 100000 in
theorem zy_all5 : (List.range 10).all (fun i => Nat.beq (50 + i) 270 || zychk (50 + i)) = true := by decide +kernel
set_option maxRecDepth 100000 in
theorem zy_all6 : (List.range 10).all (fun i => Nat.beq (60 + i) 270 || zychk (60 + i)) = true := by decide +kernel
set_option maxRecDepth 100000 in
theorem zy_all7 : (List.range 10).all (fun i => Nat.beq (70 + i) 270 || zychk (70 + i)) = true := by decide +kernel
set_option maxRecDepth 100000 in
theorem zy_all8 : (List.range 10).all (fun i => Nat.beq (80 + i) 270 || zychk (80 + i)) = true := by decide +kernel
set_option maxRecDepth 100000 in
theorem zy_all9 : (List.range 10).all (fun i => Nat.beq (90 + i) 270 || zychk (90 + i)) = true := by decide +kernel
set_option maxRecDepth 100000 in
theorem zy_all10 : (List.range 10).all (fun i => Nat.beq (100 + i) 270 || zychk (100 + i)) = true := by decide +kernel
set_option maxRecDepth 100000 in
theorem zy_all11 : (List.range 10).all (fun i => Nat.beq (110 + i) 270 || zychk (110 + i)) = true := by decide +kernel
set_option maxRecDepth 100000 in
theorem zy_all12 : (List.range 10).all (fun i => Nat.beq (120 + i) 270 || zychk (120 + i)) = true := by decide +kernel
set_option maxRecDepth 100000 in
theorem zy_all13 : (List.range 10).all (fun i => Nat.beq (130 + i) 270 || zychk (130 + i)) = true := by decide +kernel
set_option maxRecDepth 100000 in
theorem zy_all14 : (List.range 10).all (fun i => Nat.beq (140 + i) 270 || zychk (140 + i)) = true := by decide +kernel
set_option maxRecDepth 100000 in
theorem zy_all15 : (List.range 10).all (fun i => Nat.beq (150 + i) 270 || zychk (150 + i)) = true := by decide +kernel
set_option maxRecDepth 100000 in
theorem zy_all16 : (List.range 10).all (fun i => Nat.beq (160 + i) 270 || zychk (160 + i)) = true := by decide +kernel
set_option maxRecDepth 100000 in
theorem zy_all17 : (List.range 10).all (fun i => Nat.beq (170 + i) 270 || zychk (170 + i)) = true := by decide +kernel
set_option maxRecDepth 100000 in
theorem zy_all18 : (List.range 10).all (fun i => Nat.beq (180 + i) 270 || zychk (180 + i)) = true := by decide +kernel
set_option maxRecDepth 100000 in
theorem zy_all19 : (List.range 10).all (fun i => Nat.beq (190 + i) 270 || zychk (190 + i)) = true := by decide +kernel
set_option maxRecDepth 100000 in
theorem zy_all20 : (List.range 10).all (fun i => Nat.beq (200 + i) 270 || zychk (200 + i)) = true := by decide +kernel
set_option maxRecDepth 100000 in
theorem zy_all21 : (List.range 10).all (fun i => Nat.beq (210 + i) 270 || zychk (210 + i)) = true := by decide +kernel
set_option maxRecDepth 100000 in
theorem zy_all22 : (List.range 10).all (fun i => Nat.beq (220 + i) 270 || zychk (220 + i)) = true := by decide +kernel
set_option maxRecDepth 100000 in
theorem zy_all23 : (List.range 10).all (fun i => Nat.beq (230 + i) 270 || zychk (230 + i)) = true := by decide +kernel
set_option maxRecDepth 100000 in
theorem zy_all24 : (List.range 10).all (fun i => Nat.beq (240 + i) 270 || zychk (240 + i)) = true := by decide +kernel
set_option maxRecDepth 100000 in
theorem zy_all25 : (List.range 10).all (fun i => Nat.beq (250 + i) 270 || zychk (250 + i)) = true := by decide +kernel
set_option maxRecDepth 100000 in
theorem zy_all26 : (List.range 10).all (fun i => Nat.beq (260 + i) 270 || zychk (260 + i)) = true := by decide +kernel
set_option maxRecDepth 100000 in
theorem zy_all27 : (List.range 5).all (fun i => Nat.beq (270 + i) 270 || zychk (270 + i)) = true := by decide +kernel
theorem zy_ok {y : Nat} (h : y < 275) (h2 : y ≠ 270) : zychk y = true := by
  have hb : Nat.beq y 270 = false := by
    cases q : Nat.beq y 270 with
    | false => rfl
    | true => exact absurd (Nat.eq_of_beq_eq_true q) h2
  rcases Nat.lt_or_ge y 10 with q0 | q0
  · have h0 := List.all_eq_true.mp zy_all0 (y - 0) (List.mem_range.mpr (by omega))
    rw [show 0 + (y - 0) = y by omega, hb] at h0
    simpa using h0
  rcases Nat.lt_or_ge y 20 with q1 | q1
  · have h0 := List.all_eq_true.mp zy_all1 (y - 10) (List.mem_range.mpr (by omega))
    rw [show 10 + (y - 10) = y by omega, hb] at h0
    simpa using h0
  rcases Nat.lt_or_ge y 30 with q2 | q2
  · have h0 := List.all_eq_true.mp zy_all2 (y - 20) (List.mem_range.mpr (by omega))
    rw [show 20 + (y - 20) = y by omega, hb] at h0
    simpa using h0
  rcases Nat.lt_or_ge y 40 with q3 | q3
  · have h0 := List.all_eq_true.mp zy_all3 (y - 30) (List.mem_range.mpr (by omega))
    rw [show 30 + (y - 30) = y by omega, hb] at h0
    simpa using h0
  rcases Nat.lt_or_ge y 50 with q4 | q4
  · have h0 := List.all_eq_true.mp zy_all4 (y - 40) (List.mem_range.mpr (by omega))
    rw [show 40 + (y - 40) = y by omega, hb] at h0
    simpa using h0
  rcases Nat.lt_or_ge y 60 with q5 | q5
  · have h0 := List.all_eq_true.mp zy_all5 (y - 50) (List.mem_range.mpr (by omega))
    rw [show 50 + (y - 50) = y by omega, hb] at h0
    simpa using h0
  rcases Nat.lt_or_ge y 70 with q6 | q6
  · have h0 := List.all_eq_true.mp zy_all6 (y - 60) (List.mem_range.mpr (by omega))
    rw [show 60 + (y - 60) = y by omega, hb] at h0
    simpa using h0
  rcases Nat.lt_or_ge y 80 with q7 | q7
  · have h0 := List.all_eq_true.mp zy_all7 (y - 70) (List.mem_range.mpr (by omega))
    rw [show 70 + (y - 70) = y by omega, hb] at h0
    simpa using h0
  rcases Nat.lt_or_ge y 90 with q8 | q8
  · have h0 := List.all_eq_true.mp zy_all8 (y - 80) (List.mem_range.mpr (by omega))
    rw [show 80 + (y - 80) = y by omega, hb] at h0
    simpa using h0
  rcases Nat.lt_or_ge y 100 with q9 | q9
  · have h0 := List.all_eq_true.mp zy_all9 (y - 90) (List.mem_range.mpr (by omega))
    rw [show 90 + (y - 90) = y by omega, hb] at h0
    simpa using h0
  rcases Nat.lt_or_ge y 110 with q10 | q10
  · have h0 := List.all_eq_true.mp zy_all10 (y - 100) (List.mem_range.mpr (by omega))
    rw [show 100 + (y - 100) = y by omega, hb] at h0
    simpa using h0
  rcases Nat.lt_or_ge y 120 with q11 | q11
  · have h0 := List.all_eq_true.mp zy_all11 (y - 110) (List.mem_range.mpr (by omega))
    rw [show 110 + (y - 110) = y by omega, hb] at h0
    simpa using h0
  rcases Nat.lt_or_ge y 130 with q12 | q12
  · have h0 := List.all_eq_true.mp zy_all12 (y - 120) (List.mem_range.mpr (by omega))
    rw [show 120 + (y - 120) = y by omega, hb] at h0
    simpa using h0
  rcases Nat.lt_or_ge y 140 with q13 | q13
  · have h0 := List.all_eq_true.mp zy_all13 (y - 130) (List.mem_range.mpr (by omega))
    rw [show 130 + (y - 130) = y by omega, hb] at h0
    simpa using h0
  rcases Nat.lt_or_ge y 150 with q14 | q14
  · have h0 := List.all_eq_true.mp zy_all14 (y - 140) (List.mem_range.mpr (by omega))
    rw [show 140 + (y - 140) = y by omega, hb] at h0
    simpa using h0
  rcases Nat.lt_or_ge y 160 with q15 | q15
  · have h0 := List.all_eq_true.mp zy_all15 (y - 150) (List.mem_range.mpr (by omega))
    rw [show 150 + (y - 150) = y by omega, hb] at h0
    simpa using h0
  rcases Nat.lt_or_ge y 170 with q16 | q16
  · have h0 := List.all_eq_true.mp zy_all16 (y - 160) (List.mem_range.mpr (by omega))
    rw [show 160 + (y - 160) = y by omega, hb] at h0
    simpa using h0
  rcases Nat.lt_or_ge y 180 with q17 | q17
  · have h0 := List.all_eq_true.mp zy_all17 (y - 170) (List.mem_range.mpr (by omega))
    rw [show 170 + (y - 170) = y by omega, hb] at h0
    simpa using h0
  rcases Nat.lt_or_ge y 190 with q18 | q18
  · have h0 := List.all_eq_true.mp zy_all18 (y - 180) (List.mem_range.mpr (by omega))
    rw [show 180 + (y - 180) = y by omega, hb] at h0
    simpa using h0
  rcases Nat.lt_or_ge y 200 with q19 | q19
  · have h0 := List.all_eq_true.mp zy_all19 (y - 190) (List.mem_range.mpr (by omega))
    rw [show 190 + (y - 190) = y by omega, hb] at h0
    simpa using h0
  rcases Nat.lt_or_ge y 210 with q20 | q20
  · have h0 := List.all_eq_true.mp zy_all20 (y - 200) (List.mem_range.mpr (by omega))
    rw [show 200 + (y - 200) = y by omega, hb] at h0
    simpa using h0
  rcases Nat.lt_or_ge y 220 with q21 | q21
  · have h0 := List.all_eq_true.mp zy_all21 (y - 210) (List.mem_range.mpr (by omega))
    rw [show 210 + (y - 210) = y by omega, hb] at h0
    simpa using h0
  rcases Nat.lt_or_ge y 230 with q22 | q22
  · have h0 := List.all_eq_true.mp zy_all22 (y - 220) (List.mem_range.mpr (by omega))
    rw [show 220 + (y - 220) = y by omega, hb] at h0
    simpa using h0
  rcases Nat.lt_or_ge y 240 with q23 | q23
  · have h0 := List.all_eq_true.mp zy_all23 (y - 230) (List.mem_range.mpr (by omega))
    rw [show 230 + (y - 230) = y by omega, hb] at h0
    simpa using h0
  rcases Nat.lt_or_ge y 250 with q24 | q24
  · have h0 := List.all_eq_true.mp zy_all24 (y - 240) (List.mem_range.mpr (by omega))
    rw [show 240 + (y - 240) = y by omega, hb] at h0
    simpa using h0
  rcases Nat.lt_or_ge y 260 with q25 | q25
  · have h0 := List.all_eq_true.mp zy_all25 (y - 250) (List.mem_range.mpr (by omega))
    rw [show 250 + (y - 250) = y by omega, hb] at h0
    simpa using h0
  rcases Nat.lt_or_ge y 270 with q26 | q26
  · have h0 := List.all_eq_true.mp zy_all26 (y - 260) (List.mem_range.mpr (by omega))
    rw [show 260 + (y - 260) = y by omega, hb] at h0
    simpa using h0
  have h0 := List.all_eq_true.mp zy_all27 (y - 270) (List.mem_range.mpr (by omega))
  rw [show 270 + (y - 270) = y by omega, hb] at h0
  simpa using h0
def zmps : List (List (Bool × Nat)) := [[(false, 209), (true, 1171), (false, 1088), (true, 1092), (true, 1093), (false, 1094), (false, 1118), (false, 1122), (false, 1134), (false, 1150), (false, 1102), (false, 1098), (false, 1106), (false, 1110), (false, 1114), (false, 1126), (false, 1130), (false, 1138), (false, 1142), (false, 1146), (false, 1154), (false, 1158)],
  [(false, 182), (false, 912), (false, 1038), (false, 1044), (false, 1034)],
  [(false, 247), (true, 1184)],
  [(false, 269), (false, 1197), (false, 1201)],
  [(false, 283), (true, 660), (false, 661), (false, 665), (true, 669), (false, 708), (false, 713), (false, 717), (false, 712), (false, 695), (true, 675), (false, 720), (false, 724), (true, 723), (false, 670), (false, 677), (false, 681), (true, 674), (false, 685), (false, 699), (false, 703), (true, 676), (true, 707), (true, 692), (false, 689)],
  [(false, 358), (true, 739), (true, 740), (false, 741), (true, 806), (false, 745), (true, 807), (false, 808), (false, 812), (true, 816), (false, 817), (false, 821), (true, 749), (false, 824), (true, 815)],
  [(false, 134), (false, 927), (false, 935), (false, 943), (true, 931), (true, 939), (true, 947), (false, 951), (false, 960), (false, 964), (true, 955), (true, 956), (false, 974), (false, 978), (false, 998), (true, 982), (false, 986), (false, 994), (false, 990)],
  [(false, 38), (false, 585), (true, 606), (true, 609), (false, 601), (false, 602), (false, 612), (false, 613), (false, 753), (false, 763)],
  [(false, 69), (true, 577), (true, 581), (true, 589), (false, 593), (true, 597), (false, 626), (false, 634), (false, 637), (false, 630), (false, 894)],
  [(false, 30), (true, 35), (true, 66), (true, 131), (true, 179), (true, 206), (true, 244), (true, 266), (true, 280), (true, 355), (true, 538), (false, 550), (true, 553), (true, 573), (false, 617), (true, 622), (true, 641), (false, 645), (true, 656), (true, 735), (false, 839), (false, 849), (true, 875), (true, 879), (true, 890), (false, 904), (false, 1009), (false, 1024), (true, 1030), (false, 915), (false, 919), (true, 1074), (false, 1078), (true, 1082), (true, 1083), (true, 1084), (true, 1163), (true, 1167), (true, 1179), (true, 1193), (true, 1212), (true, 441), (true, 923), (true, 908), (true, 970), (true, 1013)],
  [(false, 1218), (false, 1495), (false, 1526), (false, 1533), (false, 1522), (false, 1530), (false, 1544), (false, 1536), (false, 1518), (false, 1540), (false, 1548), (false, 1580), (false, 1584), (false, 1588), (false, 1592), (false, 1604), (false, 1600), (false, 1576), (false, 1596), (false, 1624), (false, 1634), (false, 1638), (false, 1620), (false, 1498), (false, 1507), (false, 1510), (false, 1514), (false, 1552), (false, 1556), (false, 1572), (false, 1608), (false, 1616), (false, 1646), (false, 1662), (false, 1674), (false, 1678), (false, 1670), (false, 1690), (false, 1742), (false, 1746), (false, 1722), (false, 1730), (false, 1726), (false, 1738), (false, 1758), (false, 1718), (false, 1762), (false, 1770), (false, 1734), (false, 1774), (false, 1754), (false, 1766), (false, 1710), (false, 1714), (false, 1750), (false, 1778), (false, 1706), (false, 1702), (false, 1794), (false, 1790), (false, 1822), (false, 1818), (false, 1810), (false, 1814), (false, 1826), (false, 1806), (false, 1854), (false, 1862), (false, 1874), (false, 1890), (false, 1894), (false, 1858), (false, 1870), (false, 1878), (false, 1882), (false, 1846), (false, 1842), (false, 1850), (false, 1866), (false, 1886), (false, 1898), (false, 1902), (false, 1834), (false, 1838), (false, 1906), (false, 1910), (false, 1560), (false, 1564), (false, 1923), (false, 1927)],
  [(false, 450), (false, 546), (false, 652), (false, 731), (false, 835), (false, 845), (false, 857), (false, 864), (false, 871), (false, 886), (false, 900), (false, 1005), (false, 1020), (false, 1054), (false, 1061), (false, 1070), (false, 1175), (false, 1189), (false, 1208), (false, 27), (false, 1215), (false, 445), (false, 1491), (false, 1487), (false, 542), (false, 1503), (false, 649), (false, 1568), (false, 728), (false, 1612), (false, 433), (false, 1650), (false, 832), (false, 1654), (false, 842), (false, 1658), (false, 854), (false, 1666), (false, 861), (false, 1682), (false, 868), (false, 1686), (false, 883), (false, 1694), (false, 897), (false, 1698), (false, 1002), (false, 1782), (false, 1017), (false, 1786), (false, 1051), (false, 1798), (false, 1058), (false, 1802), (false, 1067), (false, 1830), (false, 1172), (false, 1914), (false, 1186), (false, 1919), (false, 1205), (false, 1931), (false, 437), (false, 1935)],
  [],
  [(false, 1047)],
  []]
def zmY (y : Nat) : MethodName := match y with
  | 9001 => Lib.objectInit
  | 9002 => ⟨"java/lang/String", "length", "()I"⟩
  | 9003 => ⟨"java/lang/String", "charAt", "(I)C"⟩
  | 9004 => ⟨"java/lang/Math", "max", "(II)I"⟩
  | 9005 => ⟨"java/lang/Math", "min", "(II)I"⟩
  | y => zY y
def zmw (b : Bool) (o n y : Nat) : Cond := bif b then .methodLinkNest (zCn o) n (zmY y) "Treegrab" else .methodLink (zCn o) n (zmY y)
def zmchk (o : Nat) (q : Nat × Nat) (w : Bool × Nat) : Bool := decide (tables_1[w.2]? = some (zmw w.1 o q.1 q.2)) && ((Nat.blt q.2 275 && !Nat.beq q.2 270) || (!w.1 && (Nat.ble 9001 q.2 && Nat.ble q.2 9005)))
set_option maxRecDepth 100000 in
theorem zm_all : zallo zmchk 0 zmts zmps = true := by decide +kernel
def zcps : List (List (Nat × Nat × Nat)) := [[],
  [],
  [],
  [],
  [],
  [],
  [],
  [],
  [],
  [(33, 34, 2), (63, 65, 3), (129, 130, 4), (177, 178, 5), (204, 205, 6), (242, 243, 7), (264, 265, 8), (278, 279, 9), (353, 354, 10)],
  [],
  [(25, 26, 1), (1213, 1214, 11)],
  [],
  [],
  []]
def zcchk (o : Nat) (q : Nat × Nat) (w : Nat × Nat × Nat) : Bool := match zcl[q.2]? with
  | none => false
  | some r => decide (tables_1[w.1]? = some (.classLink (zCn o) q.1 r.1)) && (decide (tables_1[w.2.1]? = some (.instantiable r.1 r.2.2)) && decide (tables_1[w.2.2]? = some (.initialized r.1)))
set_option maxRecDepth 100000 in
theorem zc_all : zallo zcchk 0 zcts zcps = true := by decide +kernel
def zips : List (List Nat) := [[], [], [], [], [], [], [], [], [], [], [], [], [1050, 967, 968, 969], [], []]
def zlgs : List (List Nat) := [[], [], [1183], [], [], [], [], [], [], [], [1628, 1629, 1630, 1631, 1632, 1633, 1642, 1643, 1644, 1645, 1502, 1918, 1939], [1940], [], [1041, 1042, 1043], []]
def zichk (o : Nat) (q : Nat × Int) (i : Nat) : Bool := decide (tables_1[i]? = some (.constant (zCn o) q.1 (Int32.ofInt q.2))) && zin 2147483648 q.2
def zlgchk (o : Nat) (q : Nat × Int64) (i : Nat) : Bool := decide (tables_1[i]? = some (.constantLong (zCn o) q.1 q.2))
set_option maxRecDepth 100000 in
theorem zi_all : zallo zichk 0 zits zips = true := by decide +kernel
set_option maxRecDepth 100000 in
theorem zg_all : zallo zlgchk 0 zlts zlgs = true := by decide +kernel
theorem zfl_len : ∀ k, k < 187 → ∀ c, c < 11 → zkd k = c + 1 → (zcl[c]?).map (fun r => r.2.2) = some (zln k) := by decide +kernel
