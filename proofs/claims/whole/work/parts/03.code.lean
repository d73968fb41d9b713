/-! names, code and layout, written by wip/whole/gen/emit03.py out of the claim's listing -/
def zT_0 : u_T := fun k => match k with
  | 0 => ("Treegrab$Bench", "labels", "[J", true)
  | 1 => ("Treegrab$Bench", "depths", "[I", true)
  | 2 => ("Treegrab$Bench", "ids", "[I", true)
  | 3 => ("Treegrab$Bench", "heldLabels", "[J", true)
  | 4 => ("Treegrab$Bench", "heldDepths", "[I", true)
  | 5 => ("Treegrab$Bench", "heldIds", "[I", true)
  | 6 => ("Treegrab$Bench", "count", "I", false)
  | 7 => ("Treegrab$Bench", "held", "I", false)
  | 8 => ("Treegrab$Bench", "nextId", "I", false)
  | _ => ("Treegrab$Bench", "done", "I", false)
def zty_0 : Nat → FieldType := fun k => match k with
  | 0 => .array .long
  | 1 => .array .int
  | 2 => .array .int
  | 3 => .array .long
  | 4 => .array .int
  | 5 => .array .int
  | 6 => .int
  | 7 => .int
  | 8 => .int
  | _ => .int
def zT_1 : u_T := fun k => match k with
  | 0 => ("Treegrab$Found", "bits", "[J", true)
  | 1 => ("Treegrab$Found", "place", "I", false)
  | 2 => ("Treegrab$Found", "radix", "I", false)
  | 3 => ("Treegrab$Found", "digits", "I", false)
  | 4 => ("Treegrab$Found", "cells", "I", false)
  | _ => ("Treegrab$Found", "count", "I", false)
def zty_1 : Nat → FieldType := fun k => match k with
  | 0 => .array .long
  | 1 => .int
  | 2 => .int
  | 3 => .int
  | 4 => .int
  | _ => .int
def zT_2 : u_T := fun k => match k with
  | 0 => ("Treegrab$History", "cells", "[J", true)
  | 1 => ("Treegrab$History", "sizes", "[I", true)
  | 2 => ("Treegrab$History", "befores", "[I", true)
  | 3 => ("Treegrab$History", "latest", "[I", true)
  | _ => ("Treegrab$History", "used", "I", false)
def zty_2 : Nat → FieldType := fun k => match k with
  | 0 => .array .long
  | 1 => .array .int
  | 2 => .array .int
  | 3 => .array .int
  | _ => .int
def zT_3 : u_T := fun k => match k with
  | 0 => ("Treegrab$Out", "bytes", "[I", true)
  | _ => ("Treegrab$Out", "length", "I", false)
def zty_3 : Nat → FieldType := fun k => match k with
  | 0 => .array .int
  | _ => .int
def zT_4 : u_T := fun k => match k with
  | 0 => ("Treegrab$Pattern", "kinds", "[I", true)
  | 1 => ("Treegrab$Pattern", "others", "[I", true)
  | 2 => ("Treegrab$Pattern", "froms", "[I", true)
  | 3 => ("Treegrab$Pattern", "marks", "[I", true)
  | 4 => ("Treegrab$Pattern", "operators", "[I", true)
  | 5 => ("Treegrab$Pattern", "labelStarts", "[I", true)
  | 6 => ("Treegrab$Pattern", "labelEnds", "[I", true)
  | 7 => ("Treegrab$Pattern", "numbers", "[I", true)
  | 8 => ("Treegrab$Pattern", "optionalHeads", "[I", true)
  | 9 => ("Treegrab$Pattern", "pasts", "[I", true)
  | 10 => ("Treegrab$Pattern", "denied", "[Z", true)
  | 11 => ("Treegrab$Pattern", "labels", "[J", true)
  | 12 => ("Treegrab$Pattern", "givers", "[I", true)
  | 13 => ("Treegrab$Pattern", "partOf", "[I", true)
  | 14 => ("Treegrab$Pattern", "labelCount", "I", false)
  | 15 => ("Treegrab$Pattern", "count", "I", false)
  | _ => ("Treegrab$Pattern", "numbered", "I", false)
def zty_4 : Nat → FieldType := fun k => match k with
  | 0 => .array .int
  | 1 => .array .int
  | 2 => .array .int
  | 3 => .array .int
  | 4 => .array .int
  | 5 => .array .int
  | 6 => .array .int
  | 7 => .array .int
  | 8 => .array .int
  | 9 => .array .int
  | 10 => .array .boolean
  | 11 => .array .long
  | 12 => .array .int
  | 13 => .array .int
  | 14 => .int
  | 15 => .int
  | _ => .int
def zT_5 : u_T := fun k => match k with
  | 0 => ("Treegrab$Script", "kinds", "[I", true)
  | 1 => ("Treegrab$Script", "xs", "[I", true)
  | 2 => ("Treegrab$Script", "ys", "[I", true)
  | 3 => ("Treegrab$Script", "labels", "[J", true)
  | 4 => ("Treegrab$Script", "wheres", "[I", true)
  | _ => ("Treegrab$Script", "count", "I", false)
def zty_5 : Nat → FieldType := fun k => match k with
  | 0 => .array .int
  | 1 => .array .int
  | 2 => .array .int
  | 3 => .array .long
  | 4 => .array .int
  | _ => .int
def zT_6 : u_T := fun k => match k with
  | 0 => ("Treegrab$Search", "fits", "[I", true)
  | 1 => ("Treegrab$Search", "reaches", "[I", true)
  | 2 => ("Treegrab$Search", "backs", "[I", true)
  | 3 => ("Treegrab$Search", "alikes", "[I", true)
  | 4 => ("Treegrab$Search", "sets", "[I", true)
  | 5 => ("Treegrab$Search", "taken", "[I", true)
  | 6 => ("Treegrab$Search", "bound", "[I", true)
  | 7 => ("Treegrab$Search", "plan", "[I", true)
  | 8 => ("Treegrab$Search", "planLength", "I", false)
  | 9 => ("Treegrab$Search", "bindsAhead", "Z", false)
  | 10 => ("Treegrab$Search", "tree", "LTreegrab$Tree;", false)
  | 11 => ("Treegrab$Search", "pattern", "LTreegrab$Pattern;", false)
  | _ => ("Treegrab$Search", "found", "LTreegrab$Found;", false)
def zty_6 : Nat → FieldType := fun k => match k with
  | 0 => .array .int
  | 1 => .array .int
  | 2 => .array .int
  | 3 => .array .int
  | 4 => .array .int
  | 5 => .array .int
  | 6 => .array .int
  | 7 => .array .int
  | 8 => .int
  | 9 => .boolean
  | 10 => .object "Treegrab$Tree"
  | 11 => .object "Treegrab$Pattern"
  | _ => .object "Treegrab$Found"
def zT_7 : u_T := fun k => match k with
  | 0 => ("Treegrab$Tape", "bytes", "[I", true)
  | 1 => ("Treegrab$Tape", "length", "I", false)
  | 2 => ("Treegrab$Tape", "at", "I", false)
  | 3 => ("Treegrab$Tape", "code", "I", false)
  | _ => ("Treegrab$Tape", "spot", "I", false)
def zty_7 : Nat → FieldType := fun k => match k with
  | 0 => .array .int
  | 1 => .int
  | 2 => .int
  | 3 => .int
  | _ => .int
def zT_8 : u_T := fun k => match k with
  | 0 => ("Treegrab$Tree", "labels", "[J", true)
  | 1 => ("Treegrab$Tree", "depths", "[I", true)
  | 2 => ("Treegrab$Tree", "parents", "[I", true)
  | 3 => ("Treegrab$Tree", "pasts", "[I", true)
  | 4 => ("Treegrab$Tree", "kids", "[I", true)
  | 5 => ("Treegrab$Tree", "ranks", "[I", true)
  | 6 => ("Treegrab$Tree", "firsts", "[I", true)
  | 7 => ("Treegrab$Tree", "lasts", "[I", true)
  | 8 => ("Treegrab$Tree", "indexLabels", "[J", true)
  | 9 => ("Treegrab$Tree", "indexSums", "[I", true)
  | 10 => ("Treegrab$Tree", "chain", "[I", true)
  | 11 => ("Treegrab$Tree", "indexCount", "I", false)
  | _ => ("Treegrab$Tree", "count", "I", false)
def zty_8 : Nat → FieldType := fun k => match k with
  | 0 => .array .long
  | 1 => .array .int
  | 2 => .array .int
  | 3 => .array .int
  | 4 => .array .int
  | 5 => .array .int
  | 6 => .array .int
  | 7 => .array .int
  | 8 => .array .long
  | 9 => .array .int
  | 10 => .array .int
  | 11 => .int
  | _ => .int
def zT_9 : u_T := fun k => match k with
  | 0 => ("Treegrab", "tape", "LTreegrab$Tape;", true)
  | 1 => ("Treegrab", "trees", "[LTreegrab$Tree;", true)
  | 2 => ("Treegrab", "search", "LTreegrab$Search;", true)
  | 3 => ("Treegrab", "planned", "LTreegrab$Found;", true)
  | 4 => ("Treegrab", "tried", "LTreegrab$Found;", true)
  | 5 => ("Treegrab", "bench", "LTreegrab$Bench;", true)
  | 6 => ("Treegrab", "history", "LTreegrab$History;", true)
  | 7 => ("Treegrab", "out", "LTreegrab$Out;", true)
  | 8 => ("Treegrab", "spareTree", "LTreegrab$Tree;", false)
  | 9 => ("Treegrab", "grabber", "LTreegrab$Pattern;", false)
  | 10 => ("Treegrab", "sparePattern", "LTreegrab$Pattern;", false)
  | 11 => ("Treegrab", "orders", "LTreegrab$Script;", false)
  | 12 => ("Treegrab", "spareScript", "LTreegrab$Script;", false)
  | 13 => ("Treegrab", "faultCode", "I", false)
  | 14 => ("Treegrab", "faultSpot", "I", false)
  | _ => ("Treegrab", "preparedPlace", "I", false)
def zty_9 : Nat → FieldType := fun k => match k with
  | 0 => .object "Treegrab$Tape"
  | 1 => .array (.object "Treegrab$Tree")
  | 2 => .object "Treegrab$Search"
  | 3 => .object "Treegrab$Found"
  | 4 => .object "Treegrab$Found"
  | 5 => .object "Treegrab$Bench"
  | 6 => .object "Treegrab$History"
  | 7 => .object "Treegrab$Out"
  | 8 => .object "Treegrab$Tree"
  | 9 => .object "Treegrab$Pattern"
  | 10 => .object "Treegrab$Pattern"
  | 11 => .object "Treegrab$Script"
  | 12 => .object "Treegrab$Script"
  | 13 => .int
  | 14 => .int
  | _ => .int
def zT_10 : u_T := fun k => match k with
  | 0 => ("TreegrabModel", "tape", "[I", true)
  | 1 => ("TreegrabModel", "length", "I", false)
  | 2 => ("TreegrabModel", "at", "I", false)
  | 3 => ("TreegrabModel", "label", "J", false)
  | 4 => ("TreegrabModel", "labelLength", "I", false)
  | 5 => ("TreegrabModel", "labelAt", "I", false)
  | 6 => ("TreegrabModel", "faultCode", "I", false)
  | 7 => ("TreegrabModel", "faultAt", "I", false)
  | 8 => ("TreegrabModel", "sizes", "[I", true)
  | 9 => ("TreegrabModel", "labels", "[J", true)
  | 10 => ("TreegrabModel", "parents", "[I", true)
  | 11 => ("TreegrabModel", "readLabels", "[J", true)
  | 12 => ("TreegrabModel", "readParents", "[I", true)
  | 13 => ("TreegrabModel", "read", "I", false)
  | 14 => ("TreegrabModel", "kept", "I", false)
  | 15 => ("TreegrabModel", "keptPlaces", "[I", true)
  | 16 => ("TreegrabModel", "keptSizes", "[I", true)
  | 17 => ("TreegrabModel", "keptNodes", "[J", true)
  | 18 => ("TreegrabModel", "parts", "I", false)
  | 19 => ("TreegrabModel", "kinds", "[I", true)
  | 20 => ("TreegrabModel", "setFrom", "[I", true)
  | 21 => ("TreegrabModel", "setMany", "[I", true)
  | 22 => ("TreegrabModel", "bys", "[I", true)
  | 23 => ("TreegrabModel", "numbers", "[I", true)
  | 24 => ("TreegrabModel", "names", "[I", true)
  | 25 => ("TreegrabModel", "options", "[I", true)
  | 26 => ("TreegrabModel", "isNot", "[Z", true)
  | 27 => ("TreegrabModel", "ups", "[I", true)
  | 28 => ("TreegrabModel", "signs", "[I", true)
  | 29 => ("TreegrabModel", "operators", "[I", true)
  | 30 => ("TreegrabModel", "arguments", "[I", true)
  | 31 => ("TreegrabModel", "sets", "[J", true)
  | 32 => ("TreegrabModel", "labelsMany", "I", false)
  | 33 => ("TreegrabModel", "nodeOf", "[I", true)
  | 34 => ("TreegrabModel", "numbered", "I", false)
  | 35 => ("TreegrabModel", "newParts", "I", false)
  | 36 => ("TreegrabModel", "newKinds", "[I", true)
  | 37 => ("TreegrabModel", "newSetFrom", "[I", true)
  | 38 => ("TreegrabModel", "newSetMany", "[I", true)
  | 39 => ("TreegrabModel", "newBys", "[I", true)
  | 40 => ("TreegrabModel", "newNumbers", "[I", true)
  | 41 => ("TreegrabModel", "newNames", "[I", true)
  | 42 => ("TreegrabModel", "newOptions", "[I", true)
  | 43 => ("TreegrabModel", "newIsNot", "[Z", true)
  | 44 => ("TreegrabModel", "newUps", "[I", true)
  | 45 => ("TreegrabModel", "newSigns", "[I", true)
  | 46 => ("TreegrabModel", "newOperators", "[I", true)
  | 47 => ("TreegrabModel", "newArguments", "[I", true)
  | 48 => ("TreegrabModel", "newSets", "[J", true)
  | 49 => ("TreegrabModel", "newLabels", "I", false)
  | 50 => ("TreegrabModel", "newNumbered", "I", false)
  | 51 => ("TreegrabModel", "open", "[I", true)
  | 52 => ("TreegrabModel", "edits", "I", false)
  | 53 => ("TreegrabModel", "words", "[J", true)
  | 54 => ("TreegrabModel", "ones", "[I", true)
  | 55 => ("TreegrabModel", "others", "[I", true)
  | 56 => ("TreegrabModel", "puts", "[J", true)
  | 57 => ("TreegrabModel", "wheres", "[J", true)
  | 58 => ("TreegrabModel", "newEdits", "I", false)
  | 59 => ("TreegrabModel", "newWords", "[J", true)
  | 60 => ("TreegrabModel", "newOnes", "[I", true)
  | 61 => ("TreegrabModel", "newOthers", "[I", true)
  | 62 => ("TreegrabModel", "newPuts", "[J", true)
  | 63 => ("TreegrabModel", "newWheres", "[J", true)
  | 64 => ("TreegrabModel", "here", "I", false)
  | 65 => ("TreegrabModel", "size", "I", false)
  | 66 => ("TreegrabModel", "firsts", "[I", true)
  | 67 => ("TreegrabModel", "lasts", "[I", true)
  | 68 => ("TreegrabModel", "indexes", "[I", true)
  | 69 => ("TreegrabModel", "many", "[I", true)
  | 70 => ("TreegrabModel", "values", "[I", true)
  | 71 => ("TreegrabModel", "would", "[Z", true)
  | 72 => ("TreegrabModel", "tried", "[I", true)
  | 73 => ("TreegrabModel", "matches", "I", false)
  | 74 => ("TreegrabModel", "found", "[I", true)
  | 75 => ("TreegrabModel", "isMatched", "Z", false)
  | 76 => ("TreegrabModel", "plan", "[I", true)
  | 77 => ("TreegrabModel", "row", "I", false)
  | 78 => ("TreegrabModel", "ids", "[I", true)
  | 79 => ("TreegrabModel", "depths", "[I", true)
  | 80 => ("TreegrabModel", "texts", "[J", true)
  | 81 => ("TreegrabModel", "cut", "I", false)
  | 82 => ("TreegrabModel", "cutIds", "[I", true)
  | 83 => ("TreegrabModel", "cutDepths", "[I", true)
  | 84 => ("TreegrabModel", "cutTexts", "[J", true)
  | 85 => ("TreegrabModel", "fresh", "I", false)
  | 86 => ("TreegrabModel", "out", "[I", true)
  | 87 => ("TreegrabModel", "outLength", "I", false)
  | _ => ("TreegrabModel", "thrown", "I", false)
def zty_10 : Nat → FieldType := fun k => match k with
  | 0 => .array .int
  | 1 => .int
  | 2 => .int
  | 3 => .long
  | 4 => .int
  | 5 => .int
  | 6 => .int
  | 7 => .int
  | 8 => .array .int
  | 9 => .array .long
  | 10 => .array .int
  | 11 => .array .long
  | 12 => .array .int
  | 13 => .int
  | 14 => .int
  | 15 => .array .int
  | 16 => .array .int
  | 17 => .array .long
  | 18 => .int
  | 19 => .array .int
  | 20 => .array .int
  | 21 => .array .int
  | 22 => .array .int
  | 23 => .array .int
  | 24 => .array .int
  | 25 => .array .int
  | 26 => .array .boolean
  | 27 => .array .int
  | 28 => .array .int
  | 29 => .array .int
  | 30 => .array .int
  | 31 => .array .long
  | 32 => .int
  | 33 => .array .int
  | 34 => .int
  | 35 => .int
  | 36 => .array .int
  | 37 => .array .int
  | 38 => .array .int
  | 39 => .array .int
  | 40 => .array .int
  | 41 => .array .int
  | 42 => .array .int
  | 43 => .array .boolean
  | 44 => .array .int
  | 45 => .array .int
  | 46 => .array .int
  | 47 => .array .int
  | 48 => .array .long
  | 49 => .int
  | 50 => .int
  | 51 => .array .int
  | 52 => .int
  | 53 => .array .long
  | 54 => .array .int
  | 55 => .array .int
  | 56 => .array .long
  | 57 => .array .long
  | 58 => .int
  | 59 => .array .long
  | 60 => .array .int
  | 61 => .array .int
  | 62 => .array .long
  | 63 => .array .long
  | 64 => .int
  | 65 => .int
  | 66 => .array .int
  | 67 => .array .int
  | 68 => .array .int
  | 69 => .array .int
  | 70 => .array .int
  | 71 => .array .boolean
  | 72 => .array .int
  | 73 => .int
  | 74 => .array .int
  | 75 => .boolean
  | 76 => .array .int
  | 77 => .int
  | 78 => .array .int
  | 79 => .array .int
  | 80 => .array .long
  | 81 => .int
  | 82 => .array .int
  | 83 => .array .int
  | 84 => .array .long
  | 85 => .int
  | 86 => .array .int
  | 87 => .int
  | _ => .int
abbrev zcl : List vw_C := [("Treegrab$Bench", zT_0, 10), ("Treegrab$Found", zT_1, 6), ("Treegrab$History", zT_2, 5), ("Treegrab$Out", zT_3, 2), ("Treegrab$Pattern", zT_4, 17), ("Treegrab$Script", zT_5, 6), ("Treegrab$Search", zT_6, 13), ("Treegrab$Tape", zT_7, 5), ("Treegrab$Tree", zT_8, 13), ("Treegrab", zT_9, 16), ("TreegrabModel", zT_10, 89)]
/-- lookups -/
def zlk {α : Type} : List (Nat × α) → Nat → Option α
  | [], _ => none
  | q :: l, p => bif Nat.beq q.1 p then some q.2 else zlk l p
def zth {α : Type} (d : α) : List α → Nat → α
  | [], _ => d
  | a :: _, 0 => a
  | _ :: l, n + 1 => zth d l n
def zth2 {α : Type} (d : α) (l : List (List α)) (n : Nat) : α := zth d (zth [] l (n / 16)) (n % 16)
/-- Treegrab$Bench.<init>()V -/
def zc_0 : List (List (Nat × Instr × Nat)) := [[(0, .aload_n 0, 1), (1, .invokespecial 3, 3), (4, .aload_n 0, 1), (5, .bipush 20, 2), (7, .newarray .long, 2), (9, .putfield 9, 3), (12, .aload_n 0, 1), (13, .bipush 20, 2), (15, .newarray .int, 2), (17, .putfield 15, 3), (20, .aload_n 0, 1), (21, .bipush 20, 2), (23, .newarray .int, 2), (25, .putfield 19, 3), (28, .aload_n 0, 1), (29, .bipush 20, 2), (31, .newarray .long, 2)],
  [(33, .putfield 22, 3), (36, .aload_n 0, 1), (37, .bipush 20, 2), (39, .newarray .int, 2), (41, .putfield 25, 3), (44, .aload_n 0, 1), (45, .bipush 20, 2), (47, .newarray .int, 2), (49, .putfield 28, 3), (52, .return_, 1)]]
/-- Treegrab$Bench.take(LTreegrab$Tree;)V -/
def zc_1 : List (List (Nat × Instr × Nat)) := [[(0, .aload_n 0, 1), (1, .aload_n 1, 1), (2, .getfield 31, 3), (5, .putfield 37, 3), (8, .iconst 0, 1), (9, .istore_n 2, 1), (10, .iload_n 2, 1), (11, .aload_n 0, 1), (12, .getfield 37, 3), (15, .if_icmp .ge 40, 3), (18, .aload_n 0, 1), (19, .getfield 9, 3), (22, .iload_n 2, 1), (23, .aload_n 1, 1), (24, .getfield 38, 3), (27, .iload_n 2, 1), (28, .laload, 1), (29, .lastore, 1), (30, .aload_n 0, 1), (31, .getfield 15, 3)],
  [(34, .iload_n 2, 1), (35, .aload_n 1, 1), (36, .getfield 39, 3), (39, .iload_n 2, 1), (40, .iaload, 1), (41, .iastore, 1), (42, .aload_n 0, 1), (43, .getfield 19, 3), (46, .iload_n 2, 1), (47, .iload_n 2, 1), (48, .iastore, 1), (49, .iinc 2 1, 3), (52, .goto (-42), 3), (55, .aload_n 0, 1), (56, .bipush 20, 2), (58, .putfield 40, 3), (61, .aload_n 0, 1), (62, .iconst 0, 1), (63, .putfield 43, 3)],
  [(66, .return_, 1)]]
/-- Treegrab$Bench.giveTo(LTreegrab$Tree;)V -/
def zc_2 : List (List (Nat × Instr × Nat)) := [[(0, .aload_n 1, 1), (1, .aload_n 0, 1), (2, .getfield 37, 3), (5, .putfield 31, 3), (8, .iconst 0, 1), (9, .istore_n 2, 1), (10, .iload_n 2, 1), (11, .aload_n 0, 1), (12, .getfield 37, 3), (15, .if_icmp .ge 33, 3), (18, .aload_n 1, 1), (19, .getfield 38, 3), (22, .iload_n 2, 1), (23, .aload_n 0, 1), (24, .getfield 9, 3), (27, .iload_n 2, 1), (28, .laload, 1), (29, .lastore, 1), (30, .aload_n 1, 1), (31, .getfield 39, 3)],
  [(34, .iload_n 2, 1), (35, .aload_n 0, 1), (36, .getfield 15, 3), (39, .iload_n 2, 1), (40, .iaload, 1), (41, .iastore, 1), (42, .iinc 2 1, 3), (45, .goto (-35), 3), (48, .aload_n 1, 1), (49, .invokevirtual 46, 3), (52, .return_, 1)]]
/-- Treegrab$Bench.perform(LTreegrab$Script;III)Z -/
def zc_3 : List (List (Nat × Instr × Nat)) := [[(0, .aload_n 0, 1), (1, .iload_n 3, 1), (2, .invokevirtual 49, 3), (5, .istore 5, 2), (7, .aload_n 0, 1), (8, .iload 4, 2), (10, .invokevirtual 49, 3), (13, .istore 6, 2), (15, .aload_n 1, 1), (16, .iload_n 2, 1), (17, .invokevirtual 53, 3), (20, .ifCond .eq 9, 3), (23, .iload 5, 2), (25, .iconst (-1), 1), (26, .if_icmp .eq 17, 3), (29, .aload_n 1, 1), (30, .iload_n 2, 1), (31, .invokevirtual 59, 3)],
  [(34, .ifCond .eq 11, 3), (37, .iload 6, 2), (39, .iconst (-1), 1), (40, .if_icmp .ne 5, 3), (43, .iconst 0, 1), (44, .ireturn, 1), (45, .aload_n 0, 1), (46, .dup, 1), (47, .getfield 43, 3), (50, .iconst 1, 1), (51, .iadd, 1), (52, .putfield 43, 3), (55, .aload_n 1, 1), (56, .getfield 62, 3), (59, .iload_n 2, 1), (60, .iaload, 1), (61, .tableswitch 115 0 5 #[39, 54, 61, 68, 81, 100], 39)],
  [],
  [(100, .aload_n 0, 1), (101, .getfield 9, 3), (104, .iload 5, 2), (106, .aload_n 1, 1), (107, .getfield 65, 3), (110, .iload_n 2, 1), (111, .laload, 1), (112, .lastore, 1), (113, .iconst 1, 1), (114, .ireturn, 1), (115, .aload_n 0, 1), (116, .iload 5, 2), (118, .invokevirtual 66, 3), (121, .ireturn, 1), (122, .aload_n 0, 1), (123, .iload 5, 2), (125, .invokevirtual 69, 3)],
  [(128, .ireturn, 1), (129, .aload_n 0, 1), (130, .iload 5, 2), (132, .aload_n 1, 1), (133, .getfield 65, 3), (136, .iload_n 2, 1), (137, .laload, 1), (138, .invokevirtual 72, 3), (141, .ireturn, 1), (142, .aload_n 0, 1), (143, .aload_n 1, 1), (144, .getfield 65, 3), (147, .iload_n 2, 1), (148, .laload, 1), (149, .aload_n 1, 1), (150, .getfield 76, 3), (153, .iload_n 2, 1), (154, .iaload, 1), (155, .iload 6, 2), (157, .invokevirtual 79, 3)],
  [(160, .ireturn, 1), (161, .aload_n 0, 1), (162, .iload 5, 2), (164, .aload_n 1, 1), (165, .getfield 76, 3), (168, .iload_n 2, 1), (169, .iaload, 1), (170, .iload 6, 2), (172, .invokevirtual 83, 3), (175, .ireturn, 1), (176, .iconst 0, 1), (177, .ireturn, 1)]]
/-- Treegrab$Bench.spotOf(I)I -/
def zc_4 : List (List (Nat × Instr × Nat)) := [[(0, .iconst 0, 1), (1, .istore_n 2, 1), (2, .iload_n 2, 1), (3, .aload_n 0, 1), (4, .getfield 37, 3), (7, .if_icmp .ge 21, 3), (10, .aload_n 0, 1), (11, .getfield 19, 3), (14, .iload_n 2, 1), (15, .iaload, 1), (16, .iload_n 1, 1), (17, .if_icmp .ne 5, 3), (20, .iload_n 2, 1), (21, .ireturn, 1), (22, .iinc 2 1, 3), (25, .goto (-23), 3), (28, .iconst (-1), 1), (29, .ireturn, 1)]]
/-- Treegrab$Bench.pastOf(I)I -/
def zc_5 : List (List (Nat × Instr × Nat)) := [[(0, .iload_n 1, 1), (1, .iconst 1, 1), (2, .iadd, 1), (3, .istore_n 2, 1), (4, .iload_n 2, 1), (5, .aload_n 0, 1), (6, .getfield 37, 3), (9, .if_icmp .ge 24, 3), (12, .aload_n 0, 1), (13, .getfield 15, 3), (16, .iload_n 2, 1), (17, .iaload, 1), (18, .aload_n 0, 1), (19, .getfield 15, 3), (22, .iload_n 1, 1), (23, .iaload, 1), (24, .if_icmp .le 9, 3), (27, .iinc 2 1, 3), (30, .goto (-26), 3)],
  [(33, .iload_n 2, 1), (34, .ireturn, 1)]]
/-- Treegrab$Bench.isWord(I)Z -/
def zc_6 : List (List (Nat × Instr × Nat)) := [[(0, .aload_n 0, 1), (1, .iload_n 1, 1), (2, .invokevirtual 87, 3), (5, .iload_n 1, 1), (6, .iconst 1, 1), (7, .iadd, 1), (8, .if_icmp .ne 7, 3), (11, .iconst 1, 1), (12, .goto 4, 3), (15, .iconst 0, 1), (16, .ireturn, 1)]]
/-- Treegrab$Bench.aboveOf(I)I -/
def zc_7 : List (List (Nat × Instr × Nat)) := [[(0, .iload_n 1, 1), (1, .iconst 1, 1), (2, .isub, 1), (3, .istore_n 2, 1), (4, .iload_n 2, 1), (5, .ifCond .lt 24, 3), (8, .aload_n 0, 1), (9, .getfield 15, 3), (12, .iload_n 2, 1), (13, .iaload, 1), (14, .aload_n 0, 1), (15, .getfield 15, 3), (18, .iload_n 1, 1), (19, .iaload, 1), (20, .if_icmp .lt 9, 3), (23, .iinc 2 (-1), 3), (26, .goto (-22), 3), (29, .iload_n 2, 1), (30, .ireturn, 1)]]
/-- Treegrab$Bench.closeGap(II)V -/
def zc_8 : List (List (Nat × Instr × Nat)) := [[(0, .iload_n 2, 1), (1, .iload_n 1, 1), (2, .isub, 1), (3, .istore_n 3, 1), (4, .iload_n 2, 1), (5, .istore 4, 2), (7, .iload 4, 2), (9, .aload_n 0, 1), (10, .getfield 37, 3), (13, .if_icmp .ge 57, 3), (16, .aload_n 0, 1), (17, .getfield 9, 3), (20, .iload 4, 2), (22, .iload_n 3, 1), (23, .isub, 1), (24, .aload_n 0, 1), (25, .getfield 9, 3), (28, .iload 4, 2), (30, .laload, 1), (31, .lastore, 1)],
  [(32, .aload_n 0, 1), (33, .getfield 15, 3), (36, .iload 4, 2), (38, .iload_n 3, 1), (39, .isub, 1), (40, .aload_n 0, 1), (41, .getfield 15, 3), (44, .iload 4, 2), (46, .iaload, 1), (47, .iastore, 1), (48, .aload_n 0, 1), (49, .getfield 19, 3), (52, .iload 4, 2), (54, .iload_n 3, 1), (55, .isub, 1), (56, .aload_n 0, 1), (57, .getfield 19, 3), (60, .iload 4, 2), (62, .iaload, 1), (63, .iastore, 1)],
  [(64, .iinc 4 1, 3), (67, .goto (-60), 3), (70, .aload_n 0, 1), (71, .dup, 1), (72, .getfield 37, 3), (75, .iload_n 3, 1), (76, .isub, 1), (77, .putfield 37, 3), (80, .return_, 1)]]
/-- Treegrab$Bench.openGap(II)V -/
def zc_9 : List (List (Nat × Instr × Nat)) := [[(0, .aload_n 0, 1), (1, .getfield 37, 3), (4, .iconst 1, 1), (5, .isub, 1), (6, .istore_n 3, 1), (7, .iload_n 3, 1), (8, .iload_n 1, 1), (9, .if_icmp .lt 51, 3), (12, .aload_n 0, 1), (13, .getfield 9, 3), (16, .iload_n 3, 1), (17, .iload_n 2, 1), (18, .iadd, 1), (19, .aload_n 0, 1), (20, .getfield 9, 3), (23, .iload_n 3, 1), (24, .laload, 1), (25, .lastore, 1), (26, .aload_n 0, 1), (27, .getfield 15, 3), (30, .iload_n 3, 1), (31, .iload_n 2, 1)],
  [(32, .iadd, 1), (33, .aload_n 0, 1), (34, .getfield 15, 3), (37, .iload_n 3, 1), (38, .iaload, 1), (39, .iastore, 1), (40, .aload_n 0, 1), (41, .getfield 19, 3), (44, .iload_n 3, 1), (45, .iload_n 2, 1), (46, .iadd, 1), (47, .aload_n 0, 1), (48, .getfield 19, 3), (51, .iload_n 3, 1), (52, .iaload, 1), (53, .iastore, 1), (54, .iinc 3 (-1), 3), (57, .goto (-50), 3), (60, .aload_n 0, 1), (61, .dup, 1), (62, .getfield 37, 3)],
  [(65, .iload_n 2, 1), (66, .iadd, 1), (67, .putfield 37, 3), (70, .return_, 1)]]
/-- Treegrab$Bench.putRow(IJI)V -/
def zc_10 : List (List (Nat × Instr × Nat)) := [[(0, .aload_n 0, 1), (1, .getfield 9, 3), (4, .iload_n 1, 1), (5, .lload_n 2, 1), (6, .lastore, 1), (7, .aload_n 0, 1), (8, .getfield 15, 3), (11, .iload_n 1, 1), (12, .iload 4, 2), (14, .iastore, 1), (15, .aload_n 0, 1), (16, .getfield 19, 3), (19, .iload_n 1, 1), (20, .aload_n 0, 1), (21, .getfield 40, 3), (24, .iastore, 1), (25, .aload_n 0, 1), (26, .dup, 1), (27, .getfield 40, 3), (30, .iconst 1, 1), (31, .iadd, 1)],
  [(32, .putfield 40, 3), (35, .return_, 1)]]
/-- Treegrab$Bench.cutOut(I)Z -/
def zc_11 : List (List (Nat × Instr × Nat)) := [[(0, .aload_n 0, 1), (1, .iload_n 1, 1), (2, .invokevirtual 90, 3), (5, .istore_n 2, 1), (6, .aload_n 0, 1), (7, .iload_n 1, 1), (8, .aload_n 0, 1), (9, .iload_n 1, 1), (10, .invokevirtual 87, 3), (13, .invokevirtual 93, 3), (16, .iload_n 2, 1), (17, .iconst (-1), 1), (18, .if_icmp .eq 15, 3), (21, .aload_n 0, 1), (22, .iload_n 2, 1), (23, .invokevirtual 97, 3), (26, .ifCond .eq 7, 3), (29, .iconst 1, 1), (30, .goto 4, 3)],
  [(33, .iconst 0, 1), (34, .ireturn, 1)]]
/-- Treegrab$Bench.prune(I)Z -/
def zc_12 : List (List (Nat × Instr × Nat)) := [[(0, .iload_n 1, 1), (1, .istore_n 2, 1), (2, .iload_n 2, 1), (3, .ifCond .le 30, 3), (6, .aload_n 0, 1), (7, .iload_n 2, 1), (8, .invokevirtual 100, 3), (11, .ifCond .eq 22, 3), (14, .aload_n 0, 1), (15, .iload_n 2, 1), (16, .invokevirtual 90, 3), (19, .istore_n 3, 1), (20, .aload_n 0, 1), (21, .iload_n 2, 1), (22, .iload_n 2, 1), (23, .iconst 1, 1), (24, .iadd, 1), (25, .invokevirtual 93, 3), (28, .iload_n 3, 1), (29, .istore_n 2, 1), (30, .goto (-28), 3)],
  [(33, .iload_n 2, 1), (34, .ifCond .gt 11, 3), (37, .aload_n 0, 1), (38, .getfield 37, 3), (41, .iconst 1, 1), (42, .if_icmp .le 7, 3), (45, .iconst 1, 1), (46, .goto 4, 3), (49, .iconst 0, 1), (50, .ireturn, 1)]]
/-- Treegrab$Bench.dissolve(I)Z -/
def zc_13 : List (List (Nat × Instr × Nat)) := [[(0, .aload_n 0, 1), (1, .iload_n 1, 1), (2, .invokevirtual 87, 3), (5, .istore_n 2, 1), (6, .aload_n 0, 1), (7, .iload_n 1, 1), (8, .invokevirtual 100, 3), (11, .ifCond .ne 19, 3), (14, .iload_n 1, 1), (15, .ifCond .ne 17, 3), (18, .aload_n 0, 1), (19, .iconst 1, 1), (20, .invokevirtual 87, 3), (23, .aload_n 0, 1), (24, .getfield 37, 3), (27, .if_icmp .ge 5, 3), (30, .iconst 0, 1), (31, .ireturn, 1)],
  [(32, .iload_n 1, 1), (33, .iconst 1, 1), (34, .iadd, 1), (35, .istore_n 3, 1), (36, .iload_n 3, 1), (37, .iload_n 2, 1), (38, .if_icmp .ge 19, 3), (41, .aload_n 0, 1), (42, .getfield 15, 3), (45, .iload_n 3, 1), (46, .dup2, 1), (47, .iaload, 1), (48, .iconst 1, 1), (49, .isub, 1), (50, .iastore, 1), (51, .iinc 3 1, 3), (54, .goto (-18), 3), (57, .aload_n 0, 1), (58, .iload_n 1, 1), (59, .iload_n 1, 1), (60, .iconst 1, 1), (61, .iadd, 1), (62, .invokevirtual 93, 3)],
  [(65, .iconst 1, 1), (66, .ireturn, 1)]]
/-- Treegrab$Bench.enclose(IJ)Z -/
def zc_14 : List (List (Nat × Instr × Nat)) := [[(0, .aload_n 0, 1), (1, .getfield 37, 3), (4, .bipush 20, 2), (6, .if_icmp .lt 5, 3), (9, .iconst 0, 1), (10, .ireturn, 1), (11, .aload_n 0, 1), (12, .iload_n 1, 1), (13, .invokevirtual 87, 3), (16, .istore 4, 2), (18, .aload_n 0, 1), (19, .getfield 15, 3), (22, .iload_n 1, 1), (23, .iaload, 1), (24, .istore 5, 2), (26, .iload_n 1, 1), (27, .istore 6, 2), (29, .iload 6, 2), (31, .iload 4, 2)],
  [(33, .if_icmp .ge 20, 3), (36, .aload_n 0, 1), (37, .getfield 15, 3), (40, .iload 6, 2), (42, .dup2, 1), (43, .iaload, 1), (44, .iconst 1, 1), (45, .iadd, 1), (46, .iastore, 1), (47, .iinc 6 1, 3), (50, .goto (-21), 3), (53, .aload_n 0, 1), (54, .iload_n 1, 1), (55, .iconst 1, 1), (56, .invokevirtual 103, 3), (59, .aload_n 0, 1), (60, .iload_n 1, 1), (61, .lload_n 2, 1), (62, .iload 5, 2)],
  [(64, .invokevirtual 106, 3), (67, .iconst 1, 1), (68, .ireturn, 1)]]
/-- Treegrab$Bench.isRefused(II)Z -/
def zc_15 : List (List (Nat × Instr × Nat)) := [[(0, .iload_n 1, 1), (1, .ifCond .eq 8, 3), (4, .iload_n 1, 1), (5, .iconst 1, 1), (6, .if_icmp .ne 11, 3), (9, .aload_n 0, 1), (10, .iload_n 2, 1), (11, .invokevirtual 100, 3), (14, .goto 12, 3), (17, .iload_n 2, 1), (18, .ifCond .ne 7, 3), (21, .iconst 1, 1), (22, .goto 4, 3), (25, .iconst 0, 1), (26, .ireturn, 1)]]
/-- Treegrab$Bench.spotAt(II)I -/
def zc_16 : List (List (Nat × Instr × Nat)) := [[(0, .iload_n 1, 1), (1, .iconst 2, 1), (2, .if_icmp .ne 5, 3), (5, .iload_n 2, 1), (6, .ireturn, 1), (7, .iload_n 1, 1), (8, .ifCond .ne 9, 3), (11, .iload_n 2, 1), (12, .iconst 1, 1), (13, .iadd, 1), (14, .goto 8, 3), (17, .aload_n 0, 1), (18, .iload_n 2, 1), (19, .invokevirtual 87, 3), (22, .ireturn, 1)]]
/-- Treegrab$Bench.depthAt(II)I -/
def zc_17 : List (List (Nat × Instr × Nat)) := [[(0, .iload_n 1, 1), (1, .ifCond .eq 8, 3), (4, .iload_n 1, 1), (5, .iconst 1, 1), (6, .if_icmp .ne 14, 3), (9, .aload_n 0, 1), (10, .getfield 15, 3), (13, .iload_n 2, 1), (14, .iaload, 1), (15, .iconst 1, 1), (16, .iadd, 1), (17, .goto 9, 3), (20, .aload_n 0, 1), (21, .getfield 15, 3), (24, .iload_n 2, 1), (25, .iaload, 1), (26, .ireturn, 1)]]
/-- Treegrab$Bench.putNew(JII)Z -/
def zc_18 : List (List (Nat × Instr × Nat)) := [[(0, .aload_n 0, 1), (1, .getfield 37, 3), (4, .bipush 20, 2), (6, .if_icmp .ge 13, 3), (9, .aload_n 0, 1), (10, .iload_n 3, 1), (11, .iload 4, 2), (13, .invokevirtual 110, 3), (16, .ifCond .eq 5, 3), (19, .iconst 0, 1), (20, .ireturn, 1), (21, .aload_n 0, 1), (22, .iload_n 3, 1), (23, .iload 4, 2), (25, .invokevirtual 114, 3), (28, .istore 5, 2), (30, .aload_n 0, 1), (31, .iload_n 3, 1)],
  [(32, .iload 4, 2), (34, .invokevirtual 118, 3), (37, .istore 6, 2), (39, .aload_n 0, 1), (40, .iload 5, 2), (42, .iconst 1, 1), (43, .invokevirtual 103, 3), (46, .aload_n 0, 1), (47, .iload 5, 2), (49, .lload_n 1, 1), (50, .iload 6, 2), (52, .invokevirtual 106, 3), (55, .iconst 1, 1), (56, .ireturn, 1)]]
/-- Treegrab$Bench.shift(III)Z -/
def zc_19 : List (List (Nat × Instr × Nat)) := [[(0, .aload_n 0, 1), (1, .iload_n 1, 1), (2, .invokevirtual 87, 3), (5, .istore 4, 2), (7, .iload_n 3, 1), (8, .iload_n 1, 1), (9, .if_icmp .lt 13, 3), (12, .iload_n 3, 1), (13, .iload 4, 2), (15, .if_icmp .ge 7, 3), (18, .iconst 1, 1), (19, .goto 4, 3), (22, .iconst 0, 1), (23, .istore 5, 2), (25, .iload_n 1, 1), (26, .ifCond .eq 17, 3), (29, .iload 5, 2), (31, .ifCond .ne 12, 3)],
  [(34, .aload_n 0, 1), (35, .iload_n 2, 1), (36, .iload_n 3, 1), (37, .invokevirtual 110, 3), (40, .ifCond .eq 5, 3), (43, .iconst 0, 1), (44, .ireturn, 1), (45, .aload_n 0, 1), (46, .getfield 19, 3), (49, .aload_n 0, 1), (50, .iload_n 1, 1), (51, .invokevirtual 90, 3), (54, .iaload, 1), (55, .istore 6, 2), (57, .aload_n 0, 1), (58, .getfield 19, 3), (61, .iload_n 3, 1), (62, .iaload, 1), (63, .istore 7, 2)],
  [(65, .aload_n 0, 1), (66, .iload_n 1, 1), (67, .iload 4, 2), (69, .invokevirtual 121, 3), (72, .aload_n 0, 1), (73, .iload_n 1, 1), (74, .iload 4, 2), (76, .invokevirtual 93, 3), (79, .aload_n 0, 1), (80, .iload 7, 2), (82, .invokevirtual 49, 3), (85, .istore 8, 2), (87, .aload_n 0, 1), (88, .aload_n 0, 1), (89, .iload_n 2, 1), (90, .iload 8, 2), (92, .invokevirtual 114, 3), (95, .aload_n 0, 1)],
  [(96, .iload_n 2, 1), (97, .iload 8, 2), (99, .invokevirtual 118, 3), (102, .invokevirtual 124, 3), (105, .aload_n 0, 1), (106, .aload_n 0, 1), (107, .iload 6, 2), (109, .invokevirtual 49, 3), (112, .invokevirtual 97, 3), (115, .ireturn, 1)]]
/-- Treegrab$Bench.hold(II)V -/
def zc_20 : List (List (Nat × Instr × Nat)) := [[(0, .aload_n 0, 1), (1, .iload_n 2, 1), (2, .iload_n 1, 1), (3, .isub, 1), (4, .putfield 127, 3), (7, .iconst 0, 1), (8, .istore_n 3, 1), (9, .iload_n 3, 1), (10, .aload_n 0, 1), (11, .getfield 127, 3), (14, .if_icmp .ge 51, 3), (17, .aload_n 0, 1), (18, .getfield 22, 3), (21, .iload_n 3, 1), (22, .aload_n 0, 1), (23, .getfield 9, 3), (26, .iload_n 1, 1), (27, .iload_n 3, 1), (28, .iadd, 1), (29, .laload, 1), (30, .lastore, 1), (31, .aload_n 0, 1)],
  [(32, .getfield 25, 3), (35, .iload_n 3, 1), (36, .aload_n 0, 1), (37, .getfield 15, 3), (40, .iload_n 1, 1), (41, .iload_n 3, 1), (42, .iadd, 1), (43, .iaload, 1), (44, .iastore, 1), (45, .aload_n 0, 1), (46, .getfield 28, 3), (49, .iload_n 3, 1), (50, .aload_n 0, 1), (51, .getfield 19, 3), (54, .iload_n 1, 1), (55, .iload_n 3, 1), (56, .iadd, 1), (57, .iaload, 1), (58, .iastore, 1), (59, .iinc 3 1, 3), (62, .goto (-53), 3)],
  [(65, .return_, 1)]]
/-- Treegrab$Bench.release(II)V -/
def zc_21 : List (List (Nat × Instr × Nat)) := [[(0, .aload_n 0, 1), (1, .iload_n 1, 1), (2, .aload_n 0, 1), (3, .getfield 127, 3), (6, .invokevirtual 103, 3), (9, .iconst 0, 1), (10, .istore_n 3, 1), (11, .iload_n 3, 1), (12, .aload_n 0, 1), (13, .getfield 127, 3), (16, .if_icmp .ge 60, 3), (19, .aload_n 0, 1), (20, .getfield 9, 3), (23, .iload_n 1, 1), (24, .iload_n 3, 1), (25, .iadd, 1), (26, .aload_n 0, 1), (27, .getfield 22, 3), (30, .iload_n 3, 1), (31, .laload, 1)],
  [(32, .lastore, 1), (33, .aload_n 0, 1), (34, .getfield 15, 3), (37, .iload_n 1, 1), (38, .iload_n 3, 1), (39, .iadd, 1), (40, .aload_n 0, 1), (41, .getfield 25, 3), (44, .iload_n 3, 1), (45, .iaload, 1), (46, .aload_n 0, 1), (47, .getfield 25, 3), (50, .iconst 0, 1), (51, .iaload, 1), (52, .isub, 1), (53, .iload_n 2, 1), (54, .iadd, 1), (55, .iastore, 1), (56, .aload_n 0, 1), (57, .getfield 19, 3), (60, .iload_n 1, 1), (61, .iload_n 3, 1), (62, .iadd, 1), (63, .aload_n 0, 1)],
  [(64, .getfield 28, 3), (67, .iload_n 3, 1), (68, .iaload, 1), (69, .iastore, 1), (70, .iinc 3 1, 3), (73, .goto (-62), 3), (76, .return_, 1)]]
/-- Treegrab$Found.<init>()V -/
def zc_22 : List (List (Nat × Instr × Nat)) := [[(0, .aload_n 0, 1), (1, .invokespecial 3, 3), (4, .aload_n 0, 1), (5, .sipush 3039, 3), (8, .newarray .long, 2), (10, .putfield 11, 3), (13, .aload_n 0, 1), (14, .iconst (-1), 1), (15, .putfield 15, 3), (18, .aload_n 0, 1), (19, .iconst 1, 1), (20, .putfield 19, 3), (23, .return_, 1)]]
/-- Treegrab$Found.clear(III)V -/
def zc_23 : List (List (Nat × Instr × Nat)) := [[(0, .aload_n 0, 1), (1, .iload_n 1, 1), (2, .putfield 15, 3), (5, .aload_n 0, 1), (6, .iload_n 2, 1), (7, .iconst 1, 1), (8, .iadd, 1), (9, .putfield 19, 3), (12, .aload_n 0, 1), (13, .iload_n 3, 1), (14, .putfield 22, 3), (17, .aload_n 0, 1), (18, .iconst 0, 1), (19, .putfield 25, 3), (22, .iconst 1, 1), (23, .istore 4, 2), (25, .iconst 0, 1), (26, .istore 5, 2), (28, .iload 5, 2), (30, .aload_n 0, 1), (31, .getfield 22, 3)],
  [(34, .if_icmp .ge 18, 3), (37, .iload 4, 2), (39, .aload_n 0, 1), (40, .getfield 19, 3), (43, .imul, 1), (44, .istore 4, 2), (46, .iinc 5 1, 3), (49, .goto (-21), 3), (52, .aload_n 0, 1), (53, .iload 4, 2), (55, .bipush 64, 2), (57, .idiv, 1), (58, .iconst 1, 1), (59, .iadd, 1), (60, .sipush 3039, 3), (63, .invokestatic 28, 3)],
  [(66, .putfield 34, 3), (69, .iconst 0, 1), (70, .istore 5, 2), (72, .iload 5, 2), (74, .aload_n 0, 1), (75, .getfield 34, 3), (78, .if_icmp .ge 17, 3), (81, .aload_n 0, 1), (82, .getfield 11, 3), (85, .iload 5, 2), (87, .lconst 0, 1), (88, .lastore, 1), (89, .iinc 5 1, 3), (92, .goto (-20), 3), (95, .return_, 1)]]
/-- Treegrab$Found.enter([I)V -/
def zc_24 : List (List (Nat × Instr × Nat)) := [[(0, .iconst 0, 1), (1, .istore_n 2, 1), (2, .iconst 0, 1), (3, .istore_n 3, 1), (4, .iload_n 3, 1), (5, .aload_n 0, 1), (6, .getfield 22, 3), (9, .if_icmp .ge 28, 3), (12, .iload_n 3, 1), (13, .aload_n 1, 1), (14, .arraylength, 1), (15, .if_icmp .ge 22, 3), (18, .iload_n 2, 1), (19, .aload_n 0, 1), (20, .getfield 19, 3), (23, .imul, 1), (24, .aload_n 1, 1), (25, .iload_n 3, 1), (26, .iaload, 1), (27, .iadd, 1), (28, .iconst 1, 1), (29, .iadd, 1), (30, .istore_n 2, 1), (31, .iinc 3 1, 3)],
  [(34, .goto (-30), 3), (37, .iload_n 2, 1), (38, .bipush 6, 2), (40, .ishr, 1), (41, .istore_n 3, 1), (42, .iload_n 3, 1), (43, .ifCond .lt 11, 3), (46, .iload_n 3, 1), (47, .aload_n 0, 1), (48, .getfield 34, 3), (51, .if_icmp .lt 4, 3), (54, .return_, 1), (55, .lconst 1, 1), (56, .iload_n 2, 1), (57, .bipush 63, 2), (59, .iand, 1), (60, .lshl, 1), (61, .lstore 4, 2), (63, .aload_n 0, 1)],
  [(64, .dup, 1), (65, .getfield 25, 3), (68, .aload_n 0, 1), (69, .getfield 11, 3), (72, .iload_n 3, 1), (73, .laload, 1), (74, .lload 4, 2), (76, .land, 1), (77, .lconst 0, 1), (78, .lcmp, 1), (79, .ifCond .ne 7, 3), (82, .iconst 1, 1), (83, .goto 4, 3), (86, .iconst 0, 1), (87, .iadd, 1), (88, .putfield 25, 3), (91, .aload_n 0, 1), (92, .getfield 11, 3), (95, .iload_n 3, 1)],
  [(96, .dup2, 1), (97, .laload, 1), (98, .lload 4, 2), (100, .lor, 1), (101, .lastore, 1), (102, .return_, 1)]]
/-- Treegrab$Found.numberOf(I)I -/
def zc_25 : List (List (Nat × Instr × Nat)) := [[(0, .iload_n 1, 1), (1, .istore_n 2, 1), (2, .iconst 0, 1), (3, .istore_n 3, 1), (4, .iload_n 3, 1), (5, .aload_n 0, 1), (6, .getfield 34, 3), (9, .if_icmp .ge 74, 3), (12, .aload_n 0, 1), (13, .getfield 11, 3), (16, .iload_n 3, 1), (17, .laload, 1), (18, .invokestatic 37, 3), (21, .istore 4, 2), (23, .iload_n 2, 1), (24, .iload 4, 2), (26, .if_icmp .ge 46, 3), (29, .aload_n 0, 1), (30, .getfield 11, 3)],
  [(33, .iload_n 3, 1), (34, .laload, 1), (35, .lstore 5, 2), (37, .iconst 0, 1), (38, .istore 7, 2), (40, .iload 7, 2), (42, .iload_n 2, 1), (43, .if_icmp .ge 18, 3), (46, .lload 5, 2), (48, .lload 5, 2), (50, .lconst 1, 1), (51, .lsub, 1), (52, .land, 1), (53, .lstore 5, 2), (55, .iinc 7 1, 3), (58, .goto (-18), 3), (61, .iload_n 3, 1), (62, .bipush 6, 2)],
  [(64, .ishl, 1), (65, .lload 5, 2), (67, .invokestatic 43, 3), (70, .iadd, 1), (71, .ireturn, 1), (72, .iload_n 2, 1), (73, .iload 4, 2), (75, .isub, 1), (76, .istore_n 2, 1), (77, .iinc 3 1, 3), (80, .goto (-76), 3), (83, .iconst 0, 1), (84, .ireturn, 1)]]
/-- Treegrab$Found.nodeIn(II)I -/
def zc_26 : List (List (Nat × Instr × Nat)) := [[(0, .aload_n 0, 1), (1, .iload_n 1, 1), (2, .invokevirtual 46, 3), (5, .istore_n 3, 1), (6, .aload_n 0, 1), (7, .getfield 19, 3), (10, .iconst 1, 1), (11, .if_icmp .ge 5, 3), (14, .iconst (-1), 1), (15, .ireturn, 1), (16, .aload_n 0, 1), (17, .getfield 22, 3), (20, .iconst 1, 1), (21, .isub, 1), (22, .istore 4, 2), (24, .iload 4, 2), (26, .iload_n 2, 1), (27, .if_icmp .le 16, 3), (30, .iload_n 3, 1), (31, .aload_n 0, 1)],
  [(32, .getfield 19, 3), (35, .idiv, 1), (36, .istore_n 3, 1), (37, .iinc 4 (-1), 3), (40, .goto (-16), 3), (43, .iload_n 3, 1), (44, .aload_n 0, 1), (45, .getfield 19, 3), (48, .irem, 1), (49, .iconst 1, 1), (50, .isub, 1), (51, .ireturn, 1)]]
/-- Treegrab$History.<init>()V -/
def zc_27 : List (List (Nat × Instr × Nat)) := [[(0, .aload_n 0, 1), (1, .invokespecial 3, 3), (4, .aload_n 0, 1), (5, .sipush 10240, 3), (8, .newarray .long, 2), (10, .putfield 9, 3), (13, .aload_n 0, 1), (14, .sipush 512, 3), (17, .newarray .int, 2), (19, .putfield 15, 3), (22, .aload_n 0, 1), (23, .sipush 512, 3), (26, .newarray .int, 2), (28, .putfield 19, 3), (31, .aload_n 0, 1)],
  [(32, .iconst 3, 1), (33, .newarray .int, 2), (35, .dup, 1), (36, .iconst 0, 1), (37, .iconst (-1), 1), (38, .iastore, 1), (39, .dup, 1), (40, .iconst 1, 1), (41, .iconst (-1), 1), (42, .iastore, 1), (43, .dup, 1), (44, .iconst 2, 1), (45, .iconst (-1), 1), (46, .iastore, 1), (47, .putfield 22, 3), (50, .return_, 1)]]
/-- Treegrab$History.clear(I)V -/
def zc_28 : List (List (Nat × Instr × Nat)) := [[(0, .aload_n 0, 1), (1, .getfield 22, 3), (4, .iload_n 1, 1), (5, .iconst (-1), 1), (6, .iastore, 1), (7, .return_, 1)]]
/-- Treegrab$History.keep(ILTreegrab$Tree;)V -/
def zc_29 : List (List (Nat × Instr × Nat)) := [[(0, .aload_n 0, 1), (1, .getfield 25, 3), (4, .sipush 512, 3), (7, .if_icmp .lt 4, 3), (10, .return_, 1), (11, .iconst 0, 1), (12, .istore_n 3, 1), (13, .iload_n 3, 1), (14, .aload_n 2, 1), (15, .getfield 29, 3), (18, .if_icmp .ge 40, 3), (21, .aload_n 0, 1), (22, .getfield 9, 3), (25, .aload_n 0, 1), (26, .getfield 25, 3), (29, .bipush 20, 2), (31, .imul, 1)],
  [(32, .iload_n 3, 1), (33, .iadd, 1), (34, .aload_n 2, 1), (35, .getfield 34, 3), (38, .iload_n 3, 1), (39, .laload, 1), (40, .aload_n 2, 1), (41, .getfield 37, 3), (44, .iload_n 3, 1), (45, .iaload, 1), (46, .i2l, 1), (47, .bipush 48, 2), (49, .lshl, 1), (50, .lor, 1), (51, .lastore, 1), (52, .iinc 3 1, 3), (55, .goto (-42), 3), (58, .aload_n 0, 1), (59, .getfield 15, 3), (62, .aload_n 0, 1), (63, .getfield 25, 3)],
  [(66, .aload_n 2, 1), (67, .getfield 29, 3), (70, .iastore, 1), (71, .aload_n 0, 1), (72, .getfield 19, 3), (75, .aload_n 0, 1), (76, .getfield 25, 3), (79, .aload_n 0, 1), (80, .getfield 22, 3), (83, .iload_n 1, 1), (84, .iaload, 1), (85, .iastore, 1), (86, .aload_n 0, 1), (87, .getfield 22, 3), (90, .iload_n 1, 1), (91, .aload_n 0, 1), (92, .getfield 25, 3), (95, .iastore, 1)],
  [(96, .aload_n 0, 1), (97, .dup, 1), (98, .getfield 25, 3), (101, .iconst 1, 1), (102, .iadd, 1), (103, .putfield 25, 3), (106, .return_, 1)]]
/-- Treegrab$History.giveBack(ILTreegrab$Tree;)Z -/
def zc_30 : List (List (Nat × Instr × Nat)) := [[(0, .aload_n 0, 1), (1, .getfield 22, 3), (4, .iload_n 1, 1), (5, .iaload, 1), (6, .istore_n 3, 1), (7, .iload_n 3, 1), (8, .iconst (-1), 1), (9, .if_icmp .ne 5, 3), (12, .iconst 0, 1), (13, .ireturn, 1), (14, .aload_n 2, 1), (15, .aload_n 0, 1), (16, .getfield 15, 3), (19, .iload_n 3, 1), (20, .iaload, 1), (21, .putfield 29, 3), (24, .iconst 0, 1), (25, .istore 4, 2), (27, .iload 4, 2), (29, .aload_n 2, 1), (30, .getfield 29, 3)],
  [(33, .if_icmp .ge 49, 3), (36, .aload_n 0, 1), (37, .getfield 9, 3), (40, .iload_n 3, 1), (41, .bipush 20, 2), (43, .imul, 1), (44, .iload 4, 2), (46, .iadd, 1), (47, .laload, 1), (48, .lstore 5, 2), (50, .aload_n 2, 1), (51, .getfield 34, 3), (54, .iload 4, 2), (56, .lload 5, 2), (58, .ldc2_w 40, 3), (61, .land, 1), (62, .lastore, 1), (63, .aload_n 2, 1)],
  [(64, .getfield 37, 3), (67, .iload 4, 2), (69, .lload 5, 2), (71, .bipush 48, 2), (73, .lushr, 1), (74, .l2i, 1), (75, .iastore, 1), (76, .iinc 4 1, 3), (79, .goto (-52), 3), (82, .aload_n 2, 1), (83, .invokevirtual 42, 3), (86, .aload_n 0, 1), (87, .getfield 22, 3), (90, .iload_n 1, 1), (91, .aload_n 0, 1), (92, .getfield 19, 3), (95, .iload_n 3, 1)],
  [(96, .iaload, 1), (97, .iastore, 1), (98, .iconst 1, 1), (99, .ireturn, 1)]]
/-- Treegrab$Out.<init>()V -/
def zc_31 : List (List (Nat × Instr × Nat)) := [[(0, .aload_n 0, 1), (1, .invokespecial 3, 3), (4, .aload_n 0, 1), (5, .sipush 184, 3), (8, .newarray .int, 2), (10, .putfield 9, 3), (13, .return_, 1)]]
/-- Treegrab$Out.put(I)V -/
def zc_32 : List (List (Nat × Instr × Nat)) := [[(0, .aload_n 0, 1), (1, .getfield 15, 3), (4, .sipush 184, 3), (7, .if_icmp .ge 23, 3), (10, .aload_n 0, 1), (11, .getfield 9, 3), (14, .aload_n 0, 1), (15, .getfield 15, 3), (18, .iload_n 1, 1), (19, .iastore, 1), (20, .aload_n 0, 1), (21, .dup, 1), (22, .getfield 15, 3), (25, .iconst 1, 1), (26, .iadd, 1), (27, .putfield 15, 3), (30, .return_, 1)]]
/-- Treegrab$Out.putLabel(J)V -/
def zc_33 : List (List (Nat × Instr × Nat)) := [[(0, .iconst 0, 1), (1, .istore_n 3, 1), (2, .iload_n 3, 1), (3, .bipush 6, 2), (5, .if_icmp .ge 33, 3), (8, .lload_n 1, 1), (9, .bipush 8, 2), (11, .iload_n 3, 1), (12, .imul, 1), (13, .lushr, 1), (14, .l2i, 1), (15, .sipush 255, 3), (18, .iand, 1), (19, .istore 4, 2), (21, .iload 4, 2), (23, .ifCond .eq 9, 3), (26, .aload_n 0, 1), (27, .iload 4, 2), (29, .invokevirtual 19, 3)],
  [(32, .iinc 3 1, 3), (35, .goto (-33), 3), (38, .return_, 1)]]
/-- Treegrab$Out.putTree(LTreegrab$Tree;)V -/
def zc_34 : List (List (Nat × Instr × Nat)) := [[(0, .aload_n 0, 1), (1, .iconst 0, 1), (2, .putfield 15, 3), (5, .iconst 0, 1), (6, .istore_n 2, 1), (7, .iload_n 2, 1), (8, .aload_n 1, 1), (9, .getfield 23, 3), (12, .if_icmp .ge 109, 3), (15, .iload_n 2, 1), (16, .ifCond .le 9, 3), (19, .aload_n 0, 1), (20, .bipush 32, 2), (22, .invokevirtual 19, 3), (25, .aload_n 1, 1), (26, .getfield 28, 3), (29, .iload_n 2, 1), (30, .iaload, 1), (31, .ifCond .ne 7, 3)],
  [(34, .iconst 1, 1), (35, .goto 4, 3), (38, .iconst 0, 1), (39, .istore_n 3, 1), (40, .iload_n 3, 1), (41, .ifCond .ne 9, 3), (44, .aload_n 0, 1), (45, .bipush 40, 2), (47, .invokevirtual 19, 3), (50, .aload_n 0, 1), (51, .aload_n 1, 1), (52, .getfield 31, 3), (55, .iload_n 2, 1), (56, .laload, 1), (57, .invokevirtual 35, 3), (60, .iload_n 2, 1), (61, .iconst 1, 1), (62, .iadd, 1), (63, .aload_n 1, 1)],
  [(64, .getfield 23, 3), (67, .if_icmp .ge 14, 3), (70, .aload_n 1, 1), (71, .getfield 39, 3), (74, .iload_n 2, 1), (75, .iconst 1, 1), (76, .iadd, 1), (77, .iaload, 1), (78, .goto 4, 3), (81, .iconst 0, 1), (82, .istore 4, 2), (84, .aload_n 1, 1), (85, .getfield 39, 3), (88, .iload_n 2, 1), (89, .iaload, 1), (90, .istore 5, 2), (92, .iload_n 3, 1), (93, .ifCond .eq 22, 3)],
  [(96, .iload 5, 2), (98, .iload 4, 2), (100, .if_icmp .le 15, 3), (103, .aload_n 0, 1), (104, .bipush 41, 2), (106, .invokevirtual 19, 3), (109, .iinc 5 (-1), 3), (112, .goto (-20), 3), (115, .iinc 2 1, 3), (118, .goto (-111), 3), (121, .return_, 1)]]
/-- Treegrab$Out.eightFrom(I)J -/
def zc_35 : List (List (Nat × Instr × Nat)) := [[(0, .lconst 0, 1), (1, .lstore_n 2, 1), (2, .iload_n 1, 1), (3, .ifCond .lt 9, 3), (6, .iload_n 1, 1), (7, .bipush 23, 2), (9, .if_icmp .lt 5, 3), (12, .lload_n 2, 1), (13, .lreturn, 1), (14, .iconst 0, 1), (15, .istore 4, 2), (17, .iload 4, 2), (19, .bipush 8, 2), (21, .if_icmp .ge 45, 3), (24, .bipush 8, 2), (26, .iload_n 1, 1), (27, .imul, 1), (28, .iload 4, 2), (30, .iadd, 1), (31, .aload_n 0, 1)],
  [(32, .getfield 15, 3), (35, .if_icmp .ge 31, 3), (38, .lload_n 2, 1), (39, .aload_n 0, 1), (40, .getfield 9, 3), (43, .bipush 8, 2), (45, .iload_n 1, 1), (46, .imul, 1), (47, .iload 4, 2), (49, .iadd, 1), (50, .iaload, 1), (51, .i2l, 1), (52, .bipush 8, 2), (54, .iload 4, 2), (56, .imul, 1), (57, .lshl, 1), (58, .lor, 1), (59, .lstore_n 2, 1), (60, .iinc 4 1, 3), (63, .goto (-46), 3)],
  [(66, .lload_n 2, 1), (67, .lreturn, 1)]]
/-- Treegrab$Pattern.<init>()V -/
def zc_36 : List (List (Nat × Instr × Nat)) := [[(0, .aload_n 0, 1), (1, .invokespecial 3, 3), (4, .aload_n 0, 1), (5, .bipush 8, 2), (7, .newarray .int, 2), (9, .putfield 9, 3), (12, .aload_n 0, 1), (13, .bipush 8, 2), (15, .newarray .int, 2), (17, .putfield 15, 3), (20, .aload_n 0, 1), (21, .bipush 8, 2), (23, .newarray .int, 2), (25, .putfield 18, 3), (28, .aload_n 0, 1), (29, .bipush 8, 2), (31, .newarray .int, 2)],
  [(33, .putfield 21, 3), (36, .aload_n 0, 1), (37, .bipush 8, 2), (39, .newarray .int, 2), (41, .putfield 24, 3), (44, .aload_n 0, 1), (45, .bipush 8, 2), (47, .newarray .int, 2), (49, .putfield 27, 3), (52, .aload_n 0, 1), (53, .bipush 8, 2), (55, .newarray .int, 2), (57, .putfield 30, 3), (60, .aload_n 0, 1), (61, .bipush 8, 2), (63, .newarray .int, 2)],
  [(65, .putfield 33, 3), (68, .aload_n 0, 1), (69, .bipush 8, 2), (71, .newarray .int, 2), (73, .putfield 36, 3), (76, .aload_n 0, 1), (77, .bipush 8, 2), (79, .newarray .int, 2), (81, .putfield 39, 3), (84, .aload_n 0, 1), (85, .bipush 8, 2), (87, .newarray .boolean, 2), (89, .putfield 42, 3), (92, .aload_n 0, 1), (93, .sipush 600, 3)],
  [(96, .newarray .long, 2), (98, .putfield 46, 3), (101, .aload_n 0, 1), (102, .bipush 26, 2), (104, .newarray .int, 2), (106, .putfield 50, 3), (109, .aload_n 0, 1), (110, .iconst 4, 1), (111, .newarray .int, 2), (113, .putfield 53, 3), (116, .return_, 1)]]
/-- Treegrab$Pattern.read(LTreegrab$Tape;)Z -/
def zc_37 : List (List (Nat × Instr × Nat)) := [[(0, .aload_n 1, 1), (1, .invokevirtual 56, 3), (4, .aload_n 0, 1), (5, .invokevirtual 61, 3), (8, .aload_n 0, 1), (9, .aload_n 1, 1), (10, .iconst (-1), 1), (11, .iconst 0, 1), (12, .iconst 0, 1), (13, .invokevirtual 64, 3), (16, .ifCond .ne 5, 3), (19, .iconst 0, 1), (20, .ireturn, 1), (21, .iconst 0, 1), (22, .istore_n 2, 1), (23, .iconst 0, 1), (24, .istore_n 3, 1), (25, .iconst 0, 1), (26, .istore 4, 2), (28, .iload 4, 2), (30, .sipush 600, 3)],
  [(33, .if_icmp .gt 180, 3), (36, .aload_n 1, 1), (37, .invokevirtual 68, 3), (40, .istore 5, 2), (42, .iload_n 3, 1), (43, .ifCond .ne 15, 3), (46, .iload 5, 2), (48, .iconst (-1), 1), (49, .if_icmp .ne 9, 3), (52, .aload_n 0, 1), (53, .invokevirtual 72, 3), (56, .iconst 1, 1), (57, .ireturn, 1), (58, .iload_n 3, 1), (59, .ifCond .le 33, 3), (62, .iload 5, 2)],
  [(64, .bipush 41, 2), (66, .if_icmp .ne 26, 3), (69, .aload_n 1, 1), (70, .dup, 1), (71, .getfield 75, 3), (74, .iconst 1, 1), (75, .iadd, 1), (76, .putfield 75, 3), (79, .iinc 3 (-1), 3), (82, .aload_n 0, 1), (83, .getfield 18, 3), (86, .iload_n 2, 1), (87, .iaload, 1), (88, .istore_n 2, 1), (89, .goto 118, 3), (92, .aload_n 0, 1), (93, .aload_n 1, 1), (94, .iload_n 2, 1), (95, .invokevirtual 79, 3)],
  [(98, .istore 6, 2), (100, .iload 6, 2), (102, .iconst (-1), 1), (103, .if_icmp .ne 7, 3), (106, .iconst (-1), 1), (107, .goto 7, 3), (110, .aload_n 1, 1), (111, .invokestatic 83, 3), (114, .istore 7, 2), (116, .iload 7, 2), (118, .iconst (-1), 1), (119, .if_icmp .eq 16, 3), (122, .aload_n 1, 1), (123, .invokevirtual 68, 3), (126, .bipush 40, 2)],
  [(128, .if_icmp .ne 7, 3), (131, .iconst 1, 1), (132, .goto 4, 3), (135, .iconst 0, 1), (136, .istore 8, 2), (138, .aload_n 1, 1), (139, .dup, 1), (140, .getfield 75, 3), (143, .iload 8, 2), (145, .ifCond .eq 7, 3), (148, .iconst 1, 1), (149, .goto 4, 3), (152, .iconst 0, 1), (153, .iadd, 1), (154, .putfield 75, 3), (157, .iload 7, 2), (159, .iconst (-1), 1)],
  [(160, .if_icmp .eq 16, 3), (163, .aload_n 0, 1), (164, .aload_n 1, 1), (165, .iload_n 2, 1), (166, .iload 6, 2), (168, .iload 7, 2), (170, .invokevirtual 64, 3), (173, .ifCond .ne 5, 3), (176, .iconst 0, 1), (177, .ireturn, 1), (178, .iload 8, 2), (180, .ifCond .eq 12, 3), (183, .aload_n 0, 1), (184, .getfield 87, 3), (187, .iconst 1, 1), (188, .isub, 1), (189, .goto 4, 3)],
  [(192, .iload_n 2, 1), (193, .istore_n 2, 1), (194, .iload_n 3, 1), (195, .iload 8, 2), (197, .ifCond .eq 7, 3), (200, .iconst 1, 1), (201, .goto 4, 3), (204, .iconst 0, 1), (205, .iadd, 1), (206, .istore_n 3, 1), (207, .iinc 4 1, 3), (210, .goto (-182), 3), (213, .iconst 0, 1), (214, .ireturn, 1)]]
/-- Treegrab$Pattern.clear()V -/
def zc_38 : List (List (Nat × Instr × Nat)) := [[(0, .aload_n 0, 1), (1, .iconst 0, 1), (2, .putfield 90, 3), (5, .aload_n 0, 1), (6, .iconst 0, 1), (7, .putfield 87, 3), (10, .aload_n 0, 1), (11, .iconst 0, 1), (12, .putfield 93, 3), (15, .iconst 0, 1), (16, .istore_n 1, 1), (17, .iload_n 1, 1), (18, .bipush 26, 2), (20, .if_icmp .ge 16, 3), (23, .aload_n 0, 1), (24, .getfield 50, 3), (27, .iload_n 1, 1), (28, .iconst (-1), 1), (29, .iastore, 1), (30, .iinc 1 1, 3)],
  [(33, .goto (-16), 3), (36, .return_, 1)]]
/-- Treegrab$Pattern.settlePasts()V -/
def zc_39 : List (List (Nat × Instr × Nat)) := [[(0, .iconst 0, 1), (1, .istore_n 1, 1), (2, .iload_n 1, 1), (3, .aload_n 0, 1), (4, .getfield 87, 3), (7, .if_icmp .ge 18, 3), (10, .aload_n 0, 1), (11, .getfield 39, 3), (14, .iload_n 1, 1), (15, .iload_n 1, 1), (16, .iconst 1, 1), (17, .iadd, 1), (18, .iastore, 1), (19, .iinc 1 1, 3), (22, .goto (-20), 3), (25, .aload_n 0, 1), (26, .getfield 87, 3), (29, .iconst 1, 1), (30, .isub, 1), (31, .istore_n 1, 1)],
  [(32, .iload_n 1, 1), (33, .ifCond .le 40, 3), (36, .aload_n 0, 1), (37, .getfield 39, 3), (40, .aload_n 0, 1), (41, .getfield 18, 3), (44, .iload_n 1, 1), (45, .iaload, 1), (46, .aload_n 0, 1), (47, .getfield 39, 3), (50, .aload_n 0, 1), (51, .getfield 18, 3), (54, .iload_n 1, 1), (55, .iaload, 1), (56, .iaload, 1), (57, .aload_n 0, 1), (58, .getfield 39, 3), (61, .iload_n 1, 1), (62, .iaload, 1), (63, .invokestatic 96, 3)],
  [(66, .iastore, 1), (67, .iinc 1 (-1), 3), (70, .goto (-38), 3), (73, .return_, 1)]]
/-- Treegrab$Pattern.isPlain(I)Z -/
def zc_40 : List (List (Nat × Instr × Nat)) := [[(0, .aload_n 0, 1), (1, .getfield 42, 3), (4, .iload_n 1, 1), (5, .baload, 1), (6, .ifCond .ne 17, 3), (9, .aload_n 0, 1), (10, .getfield 36, 3), (13, .iload_n 1, 1), (14, .iaload, 1), (15, .iconst (-1), 1), (16, .if_icmp .ne 7, 3), (19, .iconst 1, 1), (20, .goto 4, 3), (23, .iconst 0, 1), (24, .ireturn, 1)]]
/-- Treegrab$Pattern.isNeeded(I)Z -/
def zc_41 : List (List (Nat × Instr × Nat)) := [[(0, .aload_n 0, 1), (1, .aload_n 0, 1), (2, .getfield 53, 3), (5, .iload_n 1, 1), (6, .iaload, 1), (7, .invokevirtual 102, 3), (10, .ireturn, 1)]]
/-- Treegrab$Pattern.numberAt(I)I -/
def zc_42 : List (List (Nat × Instr × Nat)) := [[(0, .aload_n 0, 1), (1, .getfield 33, 3), (4, .aload_n 0, 1), (5, .getfield 9, 3), (8, .iload_n 1, 1), (9, .iaload, 1), (10, .iconst 4, 1), (11, .if_icmp .ne 12, 3), (14, .aload_n 0, 1), (15, .getfield 15, 3), (18, .iload_n 1, 1), (19, .iaload, 1), (20, .goto 4, 3), (23, .iload_n 1, 1), (24, .iaload, 1), (25, .ireturn, 1)]]
/-- Treegrab$Pattern.readMark(LTreegrab$Tape;I)I -/
def zc_43 : List (List (Nat × Instr × Nat)) := [[(0, .aload_n 1, 1), (1, .invokevirtual 68, 3), (4, .istore_n 3, 1), (5, .iload_n 3, 1), (6, .bipush 33, 2), (8, .if_icmp .eq 11, 3), (11, .iload_n 3, 1), (12, .bipush 63, 2), (14, .if_icmp .eq 5, 3), (17, .iconst 0, 1), (18, .ireturn, 1), (19, .iload_n 3, 1), (20, .bipush 63, 2), (22, .if_icmp .ne 23, 3), (25, .aload_n 0, 1), (26, .iload_n 2, 1), (27, .invokevirtual 102, 3), (30, .ifCond .ne 15, 3)],
  [(33, .aload_n 1, 1), (34, .iconst 1, 1), (35, .aload_n 1, 1), (36, .getfield 75, 3), (39, .invokevirtual 106, 3), (42, .pop, 1), (43, .iconst (-1), 1), (44, .ireturn, 1), (45, .aload_n 1, 1), (46, .dup, 1), (47, .getfield 75, 3), (50, .iconst 1, 1), (51, .iadd, 1), (52, .putfield 75, 3), (55, .iload_n 3, 1), (56, .bipush 33, 2), (58, .if_icmp .ne 7, 3), (61, .iconst 1, 1), (62, .goto 4, 3)],
  [(65, .iconst 2, 1), (66, .ireturn, 1)]]
/-- Treegrab$Pattern.readOperator(LTreegrab$Tape;)I -/
def zc_44 : List (List (Nat × Instr × Nat)) := [[(0, .aload_n 0, 1), (1, .invokevirtual 68, 3), (4, .istore_n 1, 1), (5, .iload_n 1, 1), (6, .bipush 60, 2), (8, .if_icmp .eq 9, 3), (11, .iload_n 1, 1), (12, .bipush 62, 2), (14, .if_icmp .ne 9, 3), (17, .aload_n 0, 1), (18, .iload_n 1, 1), (19, .invokestatic 110, 3), (22, .ireturn, 1), (23, .iload_n 1, 1), (24, .bipush 46, 2), (26, .if_icmp .eq 9, 3), (29, .iload_n 1, 1), (30, .bipush 44, 2)],
  [(32, .if_icmp .ne 12, 3), (35, .aload_n 0, 1), (36, .iload_n 1, 1), (37, .iconst 5, 1), (38, .bipush 6, 2), (40, .invokestatic 113, 3), (43, .ireturn, 1), (44, .iload_n 1, 1), (45, .bipush 36, 2), (47, .if_icmp .eq 15, 3), (50, .aload_n 0, 1), (51, .iconst 1, 1), (52, .aload_n 0, 1), (53, .getfield 75, 3), (56, .invokevirtual 106, 3), (59, .pop, 1), (60, .iconst (-1), 1), (61, .ireturn, 1), (62, .aload_n 0, 1), (63, .dup, 1)],
  [(64, .getfield 75, 3), (67, .iconst 1, 1), (68, .iadd, 1), (69, .putfield 75, 3), (72, .aload_n 0, 1), (73, .aload_n 0, 1), (74, .getfield 75, 3), (77, .invokevirtual 117, 3), (80, .istore_n 2, 1), (81, .iload_n 2, 1), (82, .bipush 46, 2), (84, .if_icmp .eq 9, 3), (87, .iload_n 2, 1), (88, .bipush 44, 2), (90, .if_icmp .ne 7, 3), (93, .iconst 1, 1), (94, .goto 4, 3)],
  [(97, .iconst 0, 1), (98, .istore_n 3, 1), (99, .iload_n 3, 1), (100, .ifCond .eq 15, 3), (103, .aload_n 0, 1), (104, .iload_n 2, 1), (105, .bipush 8, 2), (107, .bipush 9, 2), (109, .invokestatic 113, 3), (112, .goto 5, 3), (115, .bipush 7, 2), (117, .ireturn, 1)]]
/-- Treegrab$Pattern.readDominance(LTreegrab$Tape;I)I -/
def zc_45 : List (List (Nat × Instr × Nat)) := [[(0, .iload_n 1, 1), (1, .bipush 62, 2), (3, .if_icmp .ne 8, 3), (6, .bipush 16, 2), (8, .goto 4, 3), (11, .iconst 0, 1), (12, .istore_n 2, 1), (13, .aload_n 0, 1), (14, .dup, 1), (15, .getfield 75, 3), (18, .iconst 1, 1), (19, .iadd, 1), (20, .putfield 75, 3), (23, .aload_n 0, 1), (24, .aload_n 0, 1), (25, .getfield 75, 3), (28, .invokevirtual 117, 3), (31, .istore_n 3, 1)],
  [(32, .iload_n 3, 1), (33, .iload_n 1, 1), (34, .if_icmp .ne 17, 3), (37, .aload_n 0, 1), (38, .dup, 1), (39, .getfield 75, 3), (42, .iconst 1, 1), (43, .iadd, 1), (44, .putfield 75, 3), (47, .iload_n 2, 1), (48, .iconst 1, 1), (49, .ior, 1), (50, .ireturn, 1), (51, .iload_n 3, 1), (52, .bipush 58, 2), (54, .if_icmp .ne 17, 3), (57, .aload_n 0, 1), (58, .dup, 1), (59, .getfield 75, 3), (62, .iconst 1, 1), (63, .iadd, 1)],
  [(64, .putfield 75, 3), (67, .iload_n 2, 1), (68, .iconst 2, 1), (69, .ior, 1), (70, .ireturn, 1), (71, .iload_n 3, 1), (72, .bipush 45, 2), (74, .if_icmp .ne 7, 3), (77, .iconst 1, 1), (78, .goto 4, 3), (81, .iconst 0, 1), (82, .istore 4, 2), (84, .aload_n 0, 1), (85, .dup, 1), (86, .getfield 75, 3), (89, .iload 4, 2), (91, .ifCond .eq 7, 3), (94, .iconst 1, 1), (95, .goto 4, 3)],
  [(98, .iconst 0, 1), (99, .iadd, 1), (100, .putfield 75, 3), (103, .aload_n 0, 1), (104, .aload_n 0, 1), (105, .getfield 75, 3), (108, .invokevirtual 117, 3), (111, .bipush 48, 2), (113, .isub, 1), (114, .istore 5, 2), (116, .iload 5, 2), (118, .iconst 1, 1), (119, .if_icmp .lt 38, 3), (122, .iload 5, 2), (124, .bipush 9, 2), (126, .if_icmp .gt 31, 3)],
  [(129, .aload_n 0, 1), (130, .dup, 1), (131, .getfield 75, 3), (134, .iconst 1, 1), (135, .iadd, 1), (136, .putfield 75, 3), (139, .iload 5, 2), (141, .iconst 5, 1), (142, .ishl, 1), (143, .iload_n 2, 1), (144, .ior, 1), (145, .iload 4, 2), (147, .ifCond .eq 7, 3), (150, .iconst 4, 1), (151, .goto 4, 3), (154, .iconst 3, 1), (155, .ior, 1), (156, .ireturn, 1), (157, .iload 4, 2), (159, .ifCond .eq 15, 3)],
  [(162, .aload_n 0, 1), (163, .iconst 1, 1), (164, .aload_n 0, 1), (165, .getfield 75, 3), (168, .invokevirtual 106, 3), (171, .pop, 1), (172, .iconst (-1), 1), (173, .ireturn, 1), (174, .iload_n 2, 1), (175, .iconst 0, 1), (176, .ior, 1), (177, .ireturn, 1)]]
/-- Treegrab$Pattern.readOrder(LTreegrab$Tape;III)I -/
def zc_46 : List (List (Nat × Instr × Nat)) := [[(0, .iload_n 1, 1), (1, .bipush 44, 2), (3, .if_icmp .ne 8, 3), (6, .bipush 16, 2), (8, .goto 4, 3), (11, .iconst 0, 1), (12, .istore 4, 2), (14, .aload_n 0, 1), (15, .dup, 1), (16, .getfield 75, 3), (19, .iconst 1, 1), (20, .iadd, 1), (21, .putfield 75, 3), (24, .aload_n 0, 1), (25, .aload_n 0, 1), (26, .getfield 75, 3), (29, .invokevirtual 117, 3)],
  [(32, .iload_n 1, 1), (33, .if_icmp .eq 8, 3), (36, .iload 4, 2), (38, .iload_n 2, 1), (39, .ior, 1), (40, .ireturn, 1), (41, .aload_n 0, 1), (42, .dup, 1), (43, .getfield 75, 3), (46, .iconst 1, 1), (47, .iadd, 1), (48, .putfield 75, 3), (51, .iload 4, 2), (53, .iload_n 3, 1), (54, .ior, 1), (55, .ireturn, 1)]]
/-- Treegrab$Pattern.readNode(LTreegrab$Tape;III)Z -/
def zc_47 : List (List (Nat × Instr × Nat)) := [[(0, .aload_n 1, 1), (1, .invokevirtual 68, 3), (4, .istore 5, 2), (6, .iload_n 3, 1), (7, .iconst 1, 1), (8, .if_icmp .eq 17, 3), (11, .iload_n 2, 1), (12, .iconst (-1), 1), (13, .if_icmp .eq 16, 3), (16, .aload_n 0, 1), (17, .getfield 42, 3), (20, .iload_n 2, 1), (21, .baload, 1), (22, .ifCond .eq 7, 3), (25, .iconst 1, 1), (26, .goto 4, 3), (29, .iconst 0, 1), (30, .istore 6, 2)],
  [(32, .iload 5, 2), (34, .bipush 61, 2), (36, .if_icmp .eq 12, 3), (39, .iload 6, 2), (41, .ifCond .ne 7, 3), (44, .iconst 1, 1), (45, .goto 4, 3), (48, .iconst 0, 1), (49, .istore 7, 2), (51, .aload_n 0, 1), (52, .aload_n 1, 1), (53, .iload 5, 2), (55, .iload 7, 2), (57, .invokevirtual 121, 3), (60, .ifCond .ne 5, 3), (63, .iconst 0, 1)],
  [(64, .ireturn, 1), (65, .aload_n 0, 1), (66, .getfield 87, 3), (69, .istore 8, 2), (71, .aload_n 0, 1), (72, .getfield 42, 3), (75, .iload 8, 2), (77, .iload 6, 2), (79, .bastore, 1), (80, .aload_n 0, 1), (81, .iload_n 2, 1), (82, .iload_n 3, 1), (83, .iload 4, 2), (85, .invokevirtual 125, 3), (88, .aload_n 0, 1), (89, .iload 7, 2), (91, .invokevirtual 129, 3), (94, .aload_n 1, 1), (95, .dup, 1)],
  [(96, .getfield 75, 3), (99, .iload 5, 2), (101, .invokestatic 133, 3), (104, .ifCond .eq 7, 3), (107, .iconst 0, 1), (108, .goto 4, 3), (111, .iconst 1, 1), (112, .iadd, 1), (113, .putfield 75, 3), (116, .iload 5, 2), (118, .lookupswitch 100 #[(42, 84), (61, 34), (126, 50)], 34)],
  [(152, .aload_n 0, 1), (153, .getfield 9, 3), (156, .iload 8, 2), (158, .iconst 4, 1), (159, .iastore, 1)],
  [(160, .aload_n 0, 1), (161, .aload_n 1, 1), (162, .iload 8, 2), (164, .invokevirtual 136, 3), (167, .ireturn, 1), (168, .aload_n 0, 1), (169, .getfield 9, 3), (172, .iload 8, 2), (174, .iconst 3, 1), (175, .iastore, 1), (176, .aload_n 0, 1), (177, .aload_n 1, 1), (178, .iload 8, 2), (180, .invokevirtual 136, 3), (183, .ifCond .eq 17, 3), (186, .aload_n 0, 1), (187, .aload_n 1, 1), (188, .iload 8, 2), (190, .invokevirtual 140, 3)],
  [(193, .ifCond .eq 7, 3), (196, .iconst 1, 1), (197, .goto 4, 3), (200, .iconst 0, 1), (201, .ireturn, 1), (202, .aload_n 0, 1), (203, .getfield 9, 3), (206, .iload 8, 2), (208, .iconst 0, 1), (209, .iastore, 1), (210, .aload_n 0, 1), (211, .aload_n 1, 1), (212, .iload 8, 2), (214, .invokevirtual 140, 3), (217, .ireturn, 1), (218, .aload_n 0, 1), (219, .getfield 9, 3), (222, .iload 8, 2)],
  [(224, .iload 5, 2), (226, .bipush 33, 2), (228, .if_icmp .ne 7, 3), (231, .iconst 2, 1), (232, .goto 4, 3), (235, .iconst 1, 1), (236, .iastore, 1), (237, .aload_n 0, 1), (238, .aload_n 1, 1), (239, .iload 8, 2), (241, .invokevirtual 143, 3), (244, .ifCond .eq 17, 3), (247, .aload_n 0, 1), (248, .aload_n 1, 1), (249, .iload 8, 2), (251, .invokevirtual 140, 3), (254, .ifCond .eq 7, 3)],
  [(257, .iconst 1, 1), (258, .goto 4, 3), (261, .iconst 0, 1), (262, .ireturn, 1)]]
/-- Treegrab$Pattern.isBegun(LTreegrab$Tape;IZ)Z -/
def zc_48 : List (List (Nat × Instr × Nat)) := [[(0, .iload_n 2, 1), (1, .invokestatic 133, 3), (4, .istore 4, 2), (6, .iload 4, 2), (8, .ifCond .ne 37, 3), (11, .iload_n 2, 1), (12, .bipush 42, 2), (14, .if_icmp .eq 31, 3), (17, .iload_n 2, 1), (18, .bipush 61, 2), (20, .if_icmp .eq 25, 3), (23, .iload_n 2, 1), (24, .bipush 126, 2), (26, .if_icmp .eq 19, 3), (29, .iload_n 2, 1), (30, .bipush 33, 2)],
  [(32, .if_icmp .eq 13, 3), (35, .aload_n 1, 1), (36, .iconst 1, 1), (37, .aload_n 1, 1), (38, .getfield 75, 3), (41, .invokevirtual 106, 3), (44, .ireturn, 1), (45, .iload 4, 2), (47, .ifCond .eq 22, 3), (50, .aload_n 1, 1), (51, .invokevirtual 146, 3), (54, .bipush 6, 2), (56, .if_icmp .le 13, 3), (59, .aload_n 1, 1), (60, .iconst 2, 1), (61, .aload_n 1, 1), (62, .getfield 75, 3)],
  [(65, .invokevirtual 106, 3), (68, .ireturn, 1), (69, .aload_n 0, 1), (70, .getfield 87, 3), (73, .bipush 8, 2), (75, .if_icmp .ge 15, 3), (78, .iload_n 3, 1), (79, .ifCond .eq 15, 3), (82, .aload_n 0, 1), (83, .getfield 93, 3), (86, .iconst 4, 1), (87, .if_icmp .lt 7, 3), (90, .iconst 1, 1), (91, .goto 4, 3), (94, .iconst 0, 1), (95, .istore 5, 2)],
  [(97, .iload 5, 2), (99, .ifCond .eq 15, 3), (102, .aload_n 1, 1), (103, .iconst 3, 1), (104, .aload_n 1, 1), (105, .getfield 75, 3), (108, .invokevirtual 106, 3), (111, .ifCond .eq 7, 3), (114, .iconst 1, 1), (115, .goto 4, 3), (118, .iconst 0, 1), (119, .ireturn, 1)]]
/-- Treegrab$Pattern.enterRelation(III)V -/
def zc_49 : List (List (Nat × Instr × Nat)) := [[(0, .iload_n 1, 1), (1, .iconst (-1), 1), (2, .if_icmp .ne 7, 3), (5, .iconst (-1), 1), (6, .goto 9, 3), (9, .aload_n 0, 1), (10, .getfield 36, 3), (13, .iload_n 1, 1), (14, .iaload, 1), (15, .istore 4, 2), (17, .aload_n 0, 1), (18, .getfield 18, 3), (21, .aload_n 0, 1), (22, .getfield 87, 3), (25, .iload_n 1, 1), (26, .iastore, 1), (27, .aload_n 0, 1), (28, .getfield 21, 3), (31, .aload_n 0, 1)],
  [(32, .getfield 87, 3), (35, .iload_n 2, 1), (36, .iastore, 1), (37, .aload_n 0, 1), (38, .getfield 24, 3), (41, .aload_n 0, 1), (42, .getfield 87, 3), (45, .iload_n 3, 1), (46, .iastore, 1), (47, .aload_n 0, 1), (48, .getfield 36, 3), (51, .aload_n 0, 1), (52, .getfield 87, 3), (55, .iload 4, 2), (57, .iconst (-1), 1), (58, .if_icmp .ne 15, 3), (61, .iload_n 2, 1), (62, .iconst 2, 1), (63, .if_icmp .ne 10, 3)],
  [(66, .aload_n 0, 1), (67, .getfield 87, 3), (70, .goto 5, 3), (73, .iload 4, 2), (75, .iastore, 1), (76, .return_, 1)]]
/-- Treegrab$Pattern.enterNode(Z)V -/
def zc_50 : List (List (Nat × Instr × Nat)) := [[(0, .aload_n 0, 1), (1, .getfield 15, 3), (4, .aload_n 0, 1), (5, .getfield 87, 3), (8, .iconst (-1), 1), (9, .iastore, 1), (10, .aload_n 0, 1), (11, .getfield 27, 3), (14, .aload_n 0, 1), (15, .getfield 87, 3), (18, .aload_n 0, 1), (19, .getfield 90, 3), (22, .iastore, 1), (23, .aload_n 0, 1), (24, .getfield 30, 3), (27, .aload_n 0, 1), (28, .getfield 87, 3), (31, .aload_n 0, 1)],
  [(32, .getfield 90, 3), (35, .iastore, 1), (36, .aload_n 0, 1), (37, .getfield 33, 3), (40, .aload_n 0, 1), (41, .getfield 87, 3), (44, .iconst (-1), 1), (45, .iastore, 1), (46, .iload_n 1, 1), (47, .ifCond .eq 39, 3), (50, .aload_n 0, 1), (51, .getfield 33, 3), (54, .aload_n 0, 1), (55, .getfield 87, 3), (58, .aload_n 0, 1), (59, .getfield 93, 3), (62, .iastore, 1), (63, .aload_n 0, 1)],
  [(64, .getfield 53, 3), (67, .aload_n 0, 1), (68, .getfield 93, 3), (71, .aload_n 0, 1), (72, .getfield 87, 3), (75, .iastore, 1), (76, .aload_n 0, 1), (77, .dup, 1), (78, .getfield 93, 3), (81, .iconst 1, 1), (82, .iadd, 1), (83, .putfield 93, 3), (86, .aload_n 0, 1), (87, .dup, 1), (88, .getfield 87, 3), (91, .iconst 1, 1), (92, .iadd, 1), (93, .putfield 87, 3)],
  [(96, .return_, 1)]]
/-- Treegrab$Pattern.readLabels(LTreegrab$Tape;I)Z -/
def zc_51 : List (List (Nat × Instr × Nat)) := [[(0, .iconst 0, 1), (1, .istore_n 3, 1), (2, .iload_n 3, 1), (3, .sipush 600, 3), (6, .if_icmp .ge 86, 3), (9, .aload_n 0, 1), (10, .getfield 90, 3), (13, .sipush 600, 3), (16, .if_icmp .ge 76, 3), (19, .aload_n 1, 1), (20, .invokevirtual 149, 3), (23, .lstore 4, 2), (25, .lload 4, 2), (27, .lconst 0, 1), (28, .lcmp, 1), (29, .ifCond .ne 5, 3)],
  [(32, .iconst 0, 1), (33, .ireturn, 1), (34, .aload_n 0, 1), (35, .getfield 46, 3), (38, .aload_n 0, 1), (39, .getfield 90, 3), (42, .lload 4, 2), (44, .lastore, 1), (45, .aload_n 0, 1), (46, .dup, 1), (47, .getfield 90, 3), (50, .iconst 1, 1), (51, .iadd, 1), (52, .putfield 90, 3), (55, .aload_n 0, 1), (56, .getfield 30, 3), (59, .iload_n 2, 1), (60, .aload_n 0, 1), (61, .getfield 90, 3)],
  [(64, .iastore, 1), (65, .aload_n 1, 1), (66, .invokevirtual 68, 3), (69, .bipush 124, 2), (71, .if_icmp .eq 5, 3), (74, .iconst 1, 1), (75, .ireturn, 1), (76, .aload_n 1, 1), (77, .dup, 1), (78, .getfield 75, 3), (81, .iconst 1, 1), (82, .iadd, 1), (83, .putfield 75, 3), (86, .iinc 3 1, 3), (89, .goto (-87), 3), (92, .iconst 0, 1), (93, .ireturn, 1)]]
/-- Treegrab$Pattern.readName(LTreegrab$Tape;)I -/
def zc_52 : List (List (Nat × Instr × Nat)) := [[(0, .aload_n 0, 1), (1, .invokevirtual 68, 3), (4, .istore_n 1, 1), (5, .iload_n 1, 1), (6, .invokestatic 153, 3), (9, .ifCond .ne 15, 3), (12, .aload_n 0, 1), (13, .iconst 1, 1), (14, .aload_n 0, 1), (15, .getfield 75, 3), (18, .invokevirtual 106, 3), (21, .pop, 1), (22, .iconst (-1), 1), (23, .ireturn, 1), (24, .aload_n 0, 1), (25, .dup, 1), (26, .getfield 75, 3), (29, .iconst 1, 1), (30, .iadd, 1), (31, .putfield 75, 3)],
  [(34, .iload_n 1, 1), (35, .bipush 97, 2), (37, .isub, 1), (38, .ireturn, 1)]]
/-- Treegrab$Pattern.readToldName(LTreegrab$Tape;I)Z -/
def zc_53 : List (List (Nat × Instr × Nat)) := [[(0, .aload_n 1, 1), (1, .invokestatic 156, 3), (4, .istore_n 3, 1), (5, .iload_n 3, 1), (6, .iconst (-1), 1), (7, .if_icmp .ne 5, 3), (10, .iconst 0, 1), (11, .ireturn, 1), (12, .aload_n 0, 1), (13, .getfield 50, 3), (16, .iload_n 3, 1), (17, .iaload, 1), (18, .istore 4, 2), (20, .iload 4, 2), (22, .iconst (-1), 1), (23, .if_icmp .eq 12, 3), (26, .aload_n 0, 1), (27, .iload 4, 2), (29, .invokevirtual 102, 3)],
  [(32, .ifCond .ne 15, 3), (35, .aload_n 1, 1), (36, .iconst 4, 1), (37, .aload_n 1, 1), (38, .getfield 75, 3), (41, .iconst 1, 1), (42, .isub, 1), (43, .invokevirtual 106, 3), (46, .ireturn, 1), (47, .aload_n 0, 1), (48, .getfield 15, 3), (51, .iload_n 2, 1), (52, .iload 4, 2), (54, .iastore, 1), (55, .iconst 1, 1), (56, .ireturn, 1)]]
/-- Treegrab$Pattern.readGivenName(LTreegrab$Tape;I)Z -/
def zc_54 : List (List (Nat × Instr × Nat)) := [[(0, .aload_n 1, 1), (1, .invokevirtual 68, 3), (4, .bipush 61, 2), (6, .if_icmp .eq 5, 3), (9, .iconst 1, 1), (10, .ireturn, 1), (11, .aload_n 1, 1), (12, .dup, 1), (13, .getfield 75, 3), (16, .iconst 1, 1), (17, .iadd, 1), (18, .putfield 75, 3), (21, .aload_n 1, 1), (22, .invokestatic 156, 3), (25, .istore_n 3, 1), (26, .iload_n 3, 1), (27, .iconst (-1), 1), (28, .if_icmp .ne 5, 3), (31, .iconst 0, 1)],
  [(32, .ireturn, 1), (33, .aload_n 0, 1), (34, .getfield 50, 3), (37, .iload_n 3, 1), (38, .iaload, 1), (39, .iconst (-1), 1), (40, .if_icmp .eq 15, 3), (43, .aload_n 1, 1), (44, .iconst 4, 1), (45, .aload_n 1, 1), (46, .getfield 75, 3), (49, .iconst 1, 1), (50, .isub, 1), (51, .invokevirtual 106, 3), (54, .ireturn, 1), (55, .aload_n 0, 1), (56, .getfield 50, 3), (59, .iload_n 3, 1), (60, .iload_n 2, 1), (61, .iastore, 1), (62, .iconst 1, 1), (63, .ireturn, 1)]]
/-- Treegrab$Pattern.isFitting(IJ)Z -/
def zc_55 : List (List (Nat × Instr × Nat)) := [[(0, .aload_n 0, 1), (1, .getfield 9, 3), (4, .iload_n 1, 1), (5, .iaload, 1), (6, .iconst 1, 1), (7, .if_icmp .eq 15, 3), (10, .aload_n 0, 1), (11, .getfield 9, 3), (14, .iload_n 1, 1), (15, .iaload, 1), (16, .iconst 2, 1), (17, .if_icmp .eq 5, 3), (20, .iconst 1, 1), (21, .ireturn, 1), (22, .aload_n 0, 1), (23, .getfield 27, 3), (26, .iload_n 1, 1), (27, .iaload, 1), (28, .istore 4, 2), (30, .iload 4, 2)],
  [(32, .aload_n 0, 1), (33, .getfield 30, 3), (36, .iload_n 1, 1), (37, .iaload, 1), (38, .if_icmp .ge 37, 3), (41, .aload_n 0, 1), (42, .getfield 46, 3), (45, .iload 4, 2), (47, .laload, 1), (48, .lload_n 2, 1), (49, .lcmp, 1), (50, .ifCond .ne 19, 3), (53, .aload_n 0, 1), (54, .getfield 9, 3), (57, .iload_n 1, 1), (58, .iaload, 1), (59, .iconst 1, 1), (60, .if_icmp .ne 7, 3), (63, .iconst 1, 1)],
  [(64, .goto 4, 3), (67, .iconst 0, 1), (68, .ireturn, 1), (69, .iinc 4 1, 3), (72, .goto (-42), 3), (75, .aload_n 0, 1), (76, .getfield 9, 3), (79, .iload_n 1, 1), (80, .iaload, 1), (81, .iconst 2, 1), (82, .if_icmp .ne 7, 3), (85, .iconst 1, 1), (86, .goto 4, 3), (89, .iconst 0, 1), (90, .ireturn, 1)]]
/-- Treegrab$Script.<init>()V -/
def zc_56 : List (List (Nat × Instr × Nat)) := [[(0, .aload_n 0, 1), (1, .invokespecial 3, 3), (4, .aload_n 0, 1), (5, .bipush 8, 2), (7, .newarray .int, 2), (9, .putfield 9, 3), (12, .aload_n 0, 1), (13, .bipush 8, 2), (15, .newarray .int, 2), (17, .putfield 15, 3), (20, .aload_n 0, 1), (21, .bipush 8, 2), (23, .newarray .int, 2), (25, .putfield 18, 3), (28, .aload_n 0, 1), (29, .bipush 8, 2), (31, .newarray .long, 2)],
  [(33, .putfield 21, 3), (36, .aload_n 0, 1), (37, .bipush 8, 2), (39, .newarray .int, 2), (41, .putfield 25, 3), (44, .return_, 1)]]
/-- Treegrab$Script.needsX(I)Z -/
def zc_57 : List (List (Nat × Instr × Nat)) := [[(0, .aload_n 0, 1), (1, .getfield 9, 3), (4, .iload_n 1, 1), (5, .iaload, 1), (6, .iconst 4, 1), (7, .if_icmp .eq 7, 3), (10, .iconst 1, 1), (11, .goto 4, 3), (14, .iconst 0, 1), (15, .ireturn, 1)]]
/-- Treegrab$Script.needsY(I)Z -/
def zc_58 : List (List (Nat × Instr × Nat)) := [[(0, .aload_n 0, 1), (1, .getfield 9, 3), (4, .iload_n 1, 1), (5, .iaload, 1), (6, .iconst 4, 1), (7, .if_icmp .eq 13, 3), (10, .aload_n 0, 1), (11, .getfield 9, 3), (14, .iload_n 1, 1), (15, .iaload, 1), (16, .iconst 5, 1), (17, .if_icmp .ne 7, 3), (20, .iconst 1, 1), (21, .goto 4, 3), (24, .iconst 0, 1), (25, .ireturn, 1)]]
/-- Treegrab$Script.read(LTreegrab$Tape;)Z -/
def zc_59 : List (List (Nat × Instr × Nat)) := [[(0, .aload_n 1, 1), (1, .invokevirtual 28, 3), (4, .aload_n 0, 1), (5, .iconst 0, 1), (6, .putfield 33, 3), (9, .aload_n 1, 1), (10, .invokevirtual 37, 3), (13, .iconst (-1), 1), (14, .if_icmp .ne 5, 3), (17, .iconst 1, 1), (18, .ireturn, 1), (19, .iconst 0, 1), (20, .istore_n 2, 1), (21, .iload_n 2, 1), (22, .bipush 8, 2), (24, .if_icmp .gt 57, 3), (27, .aload_n 0, 1), (28, .aload_n 1, 1), (29, .invokevirtual 41, 3)],
  [(32, .ifCond .ne 5, 3), (35, .iconst 0, 1), (36, .ireturn, 1), (37, .aload_n 1, 1), (38, .invokevirtual 37, 3), (41, .istore_n 3, 1), (42, .iload_n 3, 1), (43, .iconst (-1), 1), (44, .if_icmp .ne 5, 3), (47, .iconst 1, 1), (48, .ireturn, 1), (49, .iload_n 3, 1), (50, .bipush 59, 2), (52, .if_icmp .eq 13, 3), (55, .aload_n 1, 1), (56, .iconst 1, 1), (57, .aload_n 1, 1), (58, .getfield 45, 3), (61, .invokevirtual 48, 3)],
  [(64, .ireturn, 1), (65, .aload_n 1, 1), (66, .dup, 1), (67, .getfield 45, 3), (70, .iconst 1, 1), (71, .iadd, 1), (72, .putfield 45, 3), (75, .iinc 2 1, 3), (78, .goto (-57), 3), (81, .iconst 0, 1), (82, .ireturn, 1)]]
/-- Treegrab$Script.readEdit(LTreegrab$Tape;)Z -/
def zc_60 : List (List (Nat × Instr × Nat)) := [[(0, .aload_n 1, 1), (1, .invokevirtual 37, 3), (4, .pop, 1), (5, .aload_n 1, 1), (6, .invokestatic 52, 3), (9, .istore_n 2, 1), (10, .iload_n 2, 1), (11, .iconst (-1), 1), (12, .if_icmp .eq 12, 3), (15, .aload_n 0, 1), (16, .getfield 33, 3), (19, .bipush 8, 2), (21, .if_icmp .lt 22, 3), (24, .aload_n 1, 1), (25, .iload_n 2, 1), (26, .iconst (-1), 1), (27, .if_icmp .ne 7, 3), (30, .iconst 1, 1), (31, .goto 4, 3)],
  [(34, .iconst 3, 1), (35, .aload_n 1, 1), (36, .getfield 45, 3), (39, .invokevirtual 48, 3), (42, .ireturn, 1), (43, .aload_n 1, 1), (44, .dup, 1), (45, .getfield 45, 3), (48, .aload_n 1, 1), (49, .invokevirtual 56, 3), (52, .iadd, 1), (53, .putfield 45, 3), (56, .aload_n 0, 1), (57, .getfield 33, 3), (60, .istore_n 3, 1), (61, .aload_n 0, 1), (62, .dup, 1), (63, .getfield 33, 3)],
  [(66, .iconst 1, 1), (67, .iadd, 1), (68, .putfield 33, 3), (71, .aload_n 0, 1), (72, .getfield 9, 3), (75, .iload_n 3, 1), (76, .iload_n 2, 1), (77, .iastore, 1), (78, .aload_n 0, 1), (79, .getfield 15, 3), (82, .iload_n 3, 1), (83, .iconst (-1), 1), (84, .iastore, 1), (85, .aload_n 0, 1), (86, .getfield 18, 3), (89, .iload_n 3, 1), (90, .iconst (-1), 1), (91, .iastore, 1), (92, .aload_n 0, 1), (93, .getfield 21, 3)],
  [(96, .iload_n 3, 1), (97, .lconst 0, 1), (98, .lastore, 1), (99, .aload_n 0, 1), (100, .getfield 25, 3), (103, .iload_n 3, 1), (104, .iconst (-1), 1), (105, .iastore, 1), (106, .aload_n 0, 1), (107, .iload_n 3, 1), (108, .invokevirtual 59, 3), (111, .ifCond .eq 25, 3), (114, .aload_n 0, 1), (115, .getfield 15, 3), (118, .iload_n 3, 1), (119, .aload_n 1, 1), (120, .invokestatic 63, 3), (123, .iastore, 1), (124, .aload_n 0, 1), (125, .getfield 15, 3)],
  [(128, .iload_n 3, 1), (129, .iaload, 1), (130, .iconst (-1), 1), (131, .if_icmp .ne 5, 3), (134, .iconst 0, 1), (135, .ireturn, 1), (136, .iload_n 2, 1), (137, .ifCond .eq 13, 3), (140, .iload_n 2, 1), (141, .iconst 3, 1), (142, .if_icmp .eq 8, 3), (145, .iload_n 2, 1), (146, .iconst 4, 1), (147, .if_icmp .ne 26, 3), (150, .aload_n 0, 1), (151, .getfield 21, 3), (154, .iload_n 3, 1), (155, .aload_n 1, 1), (156, .invokevirtual 66, 3), (159, .lastore, 1)],
  [(160, .aload_n 0, 1), (161, .getfield 21, 3), (164, .iload_n 3, 1), (165, .laload, 1), (166, .lconst 0, 1), (167, .lcmp, 1), (168, .ifCond .ne 5, 3), (171, .iconst 0, 1), (172, .ireturn, 1), (173, .aload_n 0, 1), (174, .iload_n 3, 1), (175, .invokevirtual 70, 3), (178, .ifCond .ne 5, 3), (181, .iconst 1, 1), (182, .ireturn, 1), (183, .aload_n 0, 1), (184, .getfield 25, 3), (187, .iload_n 3, 1), (188, .aload_n 1, 1), (189, .invokestatic 73, 3)],
  [(192, .iastore, 1), (193, .aload_n 0, 1), (194, .getfield 18, 3), (197, .iload_n 3, 1), (198, .aload_n 0, 1), (199, .getfield 25, 3), (202, .iload_n 3, 1), (203, .iaload, 1), (204, .iconst (-1), 1), (205, .if_icmp .ne 7, 3), (208, .iconst (-1), 1), (209, .goto 7, 3), (212, .aload_n 1, 1), (213, .invokestatic 63, 3), (216, .iastore, 1), (217, .aload_n 0, 1), (218, .getfield 18, 3), (221, .iload_n 3, 1), (222, .iaload, 1), (223, .iconst (-1), 1)],
  [(224, .if_icmp .eq 7, 3), (227, .iconst 1, 1), (228, .goto 4, 3), (231, .iconst 0, 1), (232, .ireturn, 1)]]
/-- Treegrab$Script.kindAt(LTreegrab$Tape;)I -/
def zc_61 : List (List (Nat × Instr × Nat)) := [[(0, .aload_n 0, 1), (1, .ldc 76, 2), (3, .invokevirtual 78, 3), (6, .ifCond .eq 5, 3), (9, .iconst 0, 1), (10, .ireturn, 1), (11, .aload_n 0, 1), (12, .ldc 82, 2), (14, .invokevirtual 78, 3), (17, .ifCond .eq 5, 3), (20, .iconst 1, 1), (21, .ireturn, 1), (22, .aload_n 0, 1), (23, .ldc 84, 2), (25, .invokevirtual 78, 3), (28, .ifCond .eq 5, 3), (31, .iconst 2, 1)],
  [(32, .ireturn, 1), (33, .aload_n 0, 1), (34, .ldc 86, 2), (36, .invokevirtual 78, 3), (39, .ifCond .eq 5, 3), (42, .iconst 3, 1), (43, .ireturn, 1), (44, .aload_n 0, 1), (45, .ldc 88, 2), (47, .invokevirtual 78, 3), (50, .ifCond .eq 5, 3), (53, .iconst 4, 1), (54, .ireturn, 1), (55, .aload_n 0, 1), (56, .ldc 90, 2), (58, .invokevirtual 78, 3), (61, .ifCond .eq 7, 3)],
  [(64, .iconst 5, 1), (65, .goto 4, 3), (68, .iconst (-1), 1), (69, .ireturn, 1)]]
/-- Treegrab$Script.readWhere(LTreegrab$Tape;)I -/
def zc_62 : List (List (Nat × Instr × Nat)) := [[(0, .aload_n 0, 1), (1, .invokevirtual 37, 3), (4, .pop, 1), (5, .aload_n 0, 1), (6, .invokestatic 92, 3), (9, .istore_n 1, 1), (10, .iload_n 1, 1), (11, .iconst (-1), 1), (12, .if_icmp .ne 15, 3), (15, .aload_n 0, 1), (16, .iconst 1, 1), (17, .aload_n 0, 1), (18, .getfield 45, 3), (21, .invokevirtual 48, 3), (24, .pop, 1), (25, .iconst (-1), 1), (26, .ireturn, 1), (27, .aload_n 0, 1), (28, .dup, 1), (29, .getfield 45, 3)],
  [(32, .aload_n 0, 1), (33, .invokevirtual 56, 3), (36, .iadd, 1), (37, .putfield 45, 3), (40, .iload_n 1, 1), (41, .ireturn, 1)]]
/-- Treegrab$Script.whereAt(LTreegrab$Tape;)I -/
def zc_63 : List (List (Nat × Instr × Nat)) := [[(0, .aload_n 0, 1), (1, .ldc 95, 2), (3, .invokevirtual 78, 3), (6, .ifCond .eq 5, 3), (9, .iconst 0, 1), (10, .ireturn, 1), (11, .aload_n 0, 1), (12, .ldc 97, 2), (14, .invokevirtual 78, 3), (17, .ifCond .eq 5, 3), (20, .iconst 1, 1), (21, .ireturn, 1), (22, .aload_n 0, 1), (23, .ldc 99, 2), (25, .invokevirtual 78, 3), (28, .ifCond .eq 5, 3), (31, .iconst 2, 1)],
  [(32, .ireturn, 1), (33, .aload_n 0, 1), (34, .ldc 101, 2), (36, .invokevirtual 78, 3), (39, .ifCond .eq 7, 3), (42, .iconst 3, 1), (43, .goto 4, 3), (46, .iconst (-1), 1), (47, .ireturn, 1)]]
/-- Treegrab$Script.readName(LTreegrab$Tape;)I -/
def zc_64 : List (List (Nat × Instr × Nat)) := [[(0, .aload_n 0, 1), (1, .invokevirtual 37, 3), (4, .istore_n 1, 1), (5, .aload_n 0, 1), (6, .invokevirtual 56, 3), (9, .iconst 1, 1), (10, .if_icmp .ne 10, 3), (13, .iload_n 1, 1), (14, .invokestatic 103, 3), (17, .ifCond .ne 15, 3), (20, .aload_n 0, 1), (21, .iconst 1, 1), (22, .aload_n 0, 1), (23, .getfield 45, 3), (26, .invokevirtual 48, 3), (29, .pop, 1), (30, .iconst (-1), 1), (31, .ireturn, 1)],
  [(32, .aload_n 0, 1), (33, .dup, 1), (34, .getfield 45, 3), (37, .iconst 1, 1), (38, .iadd, 1), (39, .putfield 45, 3), (42, .iload_n 1, 1), (43, .bipush 97, 2), (45, .isub, 1), (46, .ireturn, 1)]]
/-- Treegrab$Search.<init>()V -/
def zc_65 : List (List (Nat × Instr × Nat)) := [[(0, .aload_n 0, 1), (1, .invokespecial 3, 3), (4, .aload_n 0, 1), (5, .bipush 8, 2), (7, .newarray .int, 2), (9, .putfield 9, 3), (12, .aload_n 0, 1), (13, .sipush 160, 3), (16, .newarray .int, 2), (18, .putfield 15, 3), (21, .aload_n 0, 1), (22, .sipush 160, 3), (25, .newarray .int, 2), (27, .putfield 18, 3), (30, .aload_n 0, 1), (31, .bipush 20, 2)],
  [(33, .newarray .int, 2), (35, .putfield 21, 3), (38, .aload_n 0, 1), (39, .bipush 8, 2), (41, .newarray .int, 2), (43, .putfield 24, 3), (46, .aload_n 0, 1), (47, .bipush 8, 2), (49, .newarray .int, 2), (51, .putfield 27, 3), (54, .aload_n 0, 1), (55, .iconst 4, 1), (56, .newarray .int, 2), (58, .putfield 30, 3), (61, .aload_n 0, 1), (62, .iconst 4, 1), (63, .newarray .int, 2)],
  [(65, .putfield 33, 3), (68, .return_, 1)]]
/-- Treegrab$Search.prepare(LTreegrab$Tree;LTreegrab$Pattern;)V -/
def zc_66 : List (List (Nat × Instr × Nat)) := [[(0, .aload_n 0, 1), (1, .aload_n 1, 1), (2, .putfield 36, 3), (5, .aload_n 0, 1), (6, .aload_n 2, 1), (7, .putfield 40, 3), (10, .iconst 0, 1), (11, .istore_n 3, 1), (12, .iload_n 3, 1), (13, .aload_n 0, 1), (14, .getfield 36, 3), (17, .getfield 44, 3), (20, .if_icmp .ge 77, 3), (23, .aload_n 0, 1), (24, .getfield 21, 3), (27, .iload_n 3, 1), (28, .iconst 0, 1), (29, .iastore, 1), (30, .iconst 0, 1), (31, .istore 4, 2)],
  [(33, .iload 4, 2), (35, .aload_n 0, 1), (36, .getfield 36, 3), (39, .getfield 44, 3), (42, .if_icmp .ge 49, 3), (45, .aload_n 0, 1), (46, .getfield 21, 3), (49, .iload_n 3, 1), (50, .dup2, 1), (51, .iaload, 1), (52, .aload_n 0, 1), (53, .getfield 36, 3), (56, .getfield 50, 3), (59, .iload_n 3, 1), (60, .laload, 1), (61, .aload_n 0, 1), (62, .getfield 36, 3)],
  [(65, .getfield 50, 3), (68, .iload 4, 2), (70, .laload, 1), (71, .lcmp, 1), (72, .ifCond .ne 10, 3), (75, .iconst 1, 1), (76, .iload 4, 2), (78, .ishl, 1), (79, .goto 4, 3), (82, .iconst 0, 1), (83, .ior, 1), (84, .iastore, 1), (85, .iinc 4 1, 3), (88, .goto (-55), 3), (91, .iinc 3 1, 3), (94, .goto (-82), 3)],
  [(97, .iconst 0, 1), (98, .istore_n 3, 1), (99, .iload_n 3, 1), (100, .aload_n 0, 1), (101, .getfield 40, 3), (104, .getfield 54, 3), (107, .if_icmp .ge 19, 3), (110, .aload_n 0, 1), (111, .iload_n 3, 1), (112, .invokevirtual 57, 3), (115, .aload_n 0, 1), (116, .iload_n 3, 1), (117, .invokevirtual 61, 3), (120, .iinc 3 1, 3), (123, .goto (-24), 3), (126, .aload_n 0, 1), (127, .invokevirtual 64, 3)],
  [(130, .return_, 1)]]
/-- Treegrab$Search.prepareFits(I)V -/
def zc_67 : List (List (Nat × Instr × Nat)) := [[(0, .aload_n 0, 1), (1, .getfield 9, 3), (4, .iload_n 1, 1), (5, .iconst 0, 1), (6, .iastore, 1), (7, .iconst 0, 1), (8, .istore_n 2, 1), (9, .iload_n 2, 1), (10, .aload_n 0, 1), (11, .getfield 36, 3), (14, .getfield 44, 3), (17, .if_icmp .ge 45, 3), (20, .aload_n 0, 1), (21, .getfield 9, 3), (24, .iload_n 1, 1), (25, .dup2, 1), (26, .iaload, 1), (27, .aload_n 0, 1), (28, .getfield 40, 3), (31, .iload_n 1, 1)],
  [(32, .aload_n 0, 1), (33, .getfield 36, 3), (36, .getfield 50, 3), (39, .iload_n 2, 1), (40, .laload, 1), (41, .invokevirtual 67, 3), (44, .ifCond .eq 9, 3), (47, .iconst 1, 1), (48, .iload_n 2, 1), (49, .ishl, 1), (50, .goto 4, 3), (53, .iconst 0, 1), (54, .ior, 1), (55, .iastore, 1), (56, .iinc 2 1, 3), (59, .goto (-50), 3), (62, .return_, 1)]]
/-- Treegrab$Search.prepareReaches(I)V -/
def zc_68 : List (List (Nat × Instr × Nat)) := [[(0, .iload_n 1, 1), (1, .bipush 20, 2), (3, .imul, 1), (4, .istore_n 2, 1), (5, .iconst 0, 1), (6, .istore_n 3, 1), (7, .iload_n 3, 1), (8, .aload_n 0, 1), (9, .getfield 36, 3), (12, .getfield 44, 3), (15, .if_icmp .ge 27, 3), (18, .aload_n 0, 1), (19, .getfield 15, 3), (22, .iload_n 2, 1), (23, .iload_n 3, 1), (24, .iadd, 1), (25, .iconst 0, 1), (26, .iastore, 1), (27, .aload_n 0, 1), (28, .getfield 18, 3), (31, .iload_n 2, 1)],
  [(32, .iload_n 3, 1), (33, .iadd, 1), (34, .iconst 0, 1), (35, .iastore, 1), (36, .iinc 3 1, 3), (39, .goto (-32), 3), (42, .iconst 0, 1), (43, .istore_n 3, 1), (44, .iload_n 3, 1), (45, .aload_n 0, 1), (46, .getfield 36, 3), (49, .getfield 44, 3), (52, .if_icmp .ge 82, 3), (55, .iconst 0, 1), (56, .istore 4, 2), (58, .iload 4, 2), (60, .aload_n 0, 1), (61, .getfield 36, 3)],
  [(64, .getfield 44, 3), (67, .if_icmp .ge 61, 3), (70, .aload_n 0, 1), (71, .getfield 36, 3), (74, .aload_n 0, 1), (75, .getfield 40, 3), (78, .getfield 71, 3), (81, .iload_n 1, 1), (82, .iaload, 1), (83, .iload_n 3, 1), (84, .iload 4, 2), (86, .invokevirtual 74, 3), (89, .ifCond .eq 33, 3), (92, .aload_n 0, 1), (93, .getfield 15, 3)],
  [(96, .iload_n 2, 1), (97, .iload_n 3, 1), (98, .iadd, 1), (99, .dup2, 1), (100, .iaload, 1), (101, .iconst 1, 1), (102, .iload 4, 2), (104, .ishl, 1), (105, .ior, 1), (106, .iastore, 1), (107, .aload_n 0, 1), (108, .getfield 18, 3), (111, .iload_n 2, 1), (112, .iload 4, 2), (114, .iadd, 1), (115, .dup2, 1), (116, .iaload, 1), (117, .iconst 1, 1), (118, .iload_n 3, 1), (119, .ishl, 1), (120, .ior, 1), (121, .iastore, 1), (122, .iinc 4 1, 3), (125, .goto (-67), 3)],
  [(128, .iinc 3 1, 3), (131, .goto (-87), 3), (134, .return_, 1)]]
/-- Treegrab$Search.makePlan()V -/
def zc_69 : List (List (Nat × Instr × Nat)) := [[(0, .aload_n 0, 1), (1, .iconst 0, 1), (2, .putfield 78, 3), (5, .iconst 0, 1), (6, .istore_n 1, 1), (7, .iconst 0, 1), (8, .istore_n 2, 1), (9, .iload_n 2, 1), (10, .iconst 4, 1), (11, .if_icmp .ge 133, 3), (14, .iconst (-1), 1), (15, .istore_n 3, 1), (16, .iconst 0, 1), (17, .istore 4, 2), (19, .iload 4, 2), (21, .aload_n 0, 1), (22, .getfield 40, 3), (25, .getfield 81, 3), (28, .if_icmp .ge 78, 3), (31, .aload_n 0, 1)],
  [(32, .getfield 40, 3), (35, .iload 4, 2), (37, .invokevirtual 84, 3), (40, .ifCond .eq 16, 3), (43, .iload_n 1, 1), (44, .iload 4, 2), (46, .ishr, 1), (47, .iconst 1, 1), (48, .iand, 1), (49, .ifCond .ne 7, 3), (52, .iconst 1, 1), (53, .goto 4, 3), (56, .iconst 0, 1), (57, .istore 5, 2), (59, .iload 5, 2), (61, .ifCond .eq 39, 3)],
  [(64, .iload_n 1, 1), (65, .ifCond .eq 13, 3), (68, .aload_n 0, 1), (69, .iload 4, 2), (71, .iload_n 1, 1), (72, .invokevirtual 88, 3), (75, .ifCond .eq 25, 3), (78, .iload_n 3, 1), (79, .iconst (-1), 1), (80, .if_icmp .eq 17, 3), (83, .aload_n 0, 1), (84, .iload 4, 2), (86, .invokevirtual 92, 3), (89, .aload_n 0, 1), (90, .iload_n 3, 1), (91, .invokevirtual 92, 3), (94, .if_icmp .ge 6, 3)],
  [(97, .iload 4, 2), (99, .istore_n 3, 1), (100, .iinc 4 1, 3), (103, .goto (-84), 3), (106, .iload_n 3, 1), (107, .iconst (-1), 1), (108, .if_icmp .ne 4, 3), (111, .return_, 1), (112, .aload_n 0, 1), (113, .getfield 33, 3), (116, .aload_n 0, 1), (117, .getfield 78, 3), (120, .iload_n 3, 1), (121, .iastore, 1), (122, .aload_n 0, 1), (123, .dup, 1), (124, .getfield 78, 3), (127, .iconst 1, 1)],
  [(128, .iadd, 1), (129, .putfield 78, 3), (132, .iload_n 1, 1), (133, .iconst 1, 1), (134, .iload_n 3, 1), (135, .ishl, 1), (136, .ior, 1), (137, .istore_n 1, 1), (138, .iinc 2 1, 3), (141, .goto (-132), 3), (144, .return_, 1)]]
/-- Treegrab$Search.fitting(I)I -/
def zc_70 : List (List (Nat × Instr × Nat)) := [[(0, .aload_n 0, 1), (1, .getfield 9, 3), (4, .aload_n 0, 1), (5, .getfield 40, 3), (8, .getfield 96, 3), (11, .iload_n 1, 1), (12, .iaload, 1), (13, .iaload, 1), (14, .invokestatic 99, 3), (17, .ireturn, 1)]]
/-- Treegrab$Search.isJoined(II)Z -/
def zc_71 : List (List (Nat × Instr × Nat)) := [[(0, .iconst 1, 1), (1, .istore_n 3, 1), (2, .iload_n 3, 1), (3, .aload_n 0, 1), (4, .getfield 40, 3), (7, .getfield 54, 3), (10, .if_icmp .ge 80, 3), (13, .aload_n 0, 1), (14, .getfield 40, 3), (17, .iload_n 3, 1), (18, .invokevirtual 104, 3), (21, .ifCond .eq 63, 3), (24, .aload_n 0, 1), (25, .getfield 40, 3), (28, .aload_n 0, 1), (29, .getfield 40, 3)],
  [(32, .getfield 107, 3), (35, .iload_n 3, 1), (36, .iaload, 1), (37, .invokevirtual 110, 3), (40, .istore 4, 2), (42, .aload_n 0, 1), (43, .getfield 40, 3), (46, .iload_n 3, 1), (47, .invokevirtual 110, 3), (50, .istore 5, 2), (52, .iload 4, 2), (54, .iload_n 1, 1), (55, .if_icmp .ne 12, 3), (58, .iload_n 2, 1), (59, .iload 5, 2), (61, .ishr, 1), (62, .iconst 1, 1), (63, .iand, 1)],
  [(64, .ifCond .ne 18, 3), (67, .iload 5, 2), (69, .iload_n 1, 1), (70, .if_icmp .ne 14, 3), (73, .iload_n 2, 1), (74, .iload 4, 2), (76, .ishr, 1), (77, .iconst 1, 1), (78, .iand, 1), (79, .ifCond .eq 5, 3), (82, .iconst 1, 1), (83, .ireturn, 1), (84, .iinc 3 1, 3), (87, .goto (-85), 3), (90, .iconst 0, 1), (91, .ireturn, 1)]]
/-- Treegrab$Search.runPlan(LTreegrab$Found;)V -/
def zc_72 : List (List (Nat × Instr × Nat)) := [[(0, .aload_n 0, 1), (1, .aload_n 1, 1), (2, .putfield 113, 3), (5, .aload_n 0, 1), (6, .iconst 1, 1), (7, .putfield 117, 3), (10, .aload_n 0, 1), (11, .iconst 0, 1), (12, .iconst 0, 1), (13, .invokevirtual 121, 3), (16, .return_, 1)]]
/-- Treegrab$Search.runAll(LTreegrab$Found;)V -/
def zc_73 : List (List (Nat × Instr × Nat)) := [[(0, .aload_n 0, 1), (1, .aload_n 1, 1), (2, .putfield 113, 3), (5, .aload_n 0, 1), (6, .iconst 0, 1), (7, .putfield 117, 3), (10, .aload_n 0, 1), (11, .iconst 0, 1), (12, .invokevirtual 125, 3), (15, .return_, 1)]]
/-- Treegrab$Search.bind(II)V -/
def zc_74 : List (List (Nat × Instr × Nat)) := [[(0, .iload_n 1, 1), (1, .aload_n 0, 1), (2, .getfield 78, 3), (5, .if_icmp .lt 9, 3), (8, .aload_n 0, 1), (9, .iconst 0, 1), (10, .invokevirtual 125, 3), (13, .return_, 1), (14, .aload_n 0, 1), (15, .getfield 33, 3), (18, .iload_n 1, 1), (19, .iaload, 1), (20, .istore_n 3, 1), (21, .aload_n 0, 1), (22, .iload_n 3, 1), (23, .iload_n 2, 1), (24, .invokevirtual 128, 3), (27, .istore 4, 2), (29, .iconst 0, 1), (30, .istore 5, 2)],
  [(32, .iload 5, 2), (34, .aload_n 0, 1), (35, .getfield 36, 3), (38, .getfield 44, 3), (41, .if_icmp .ge 39, 3), (44, .iload 4, 2), (46, .iload 5, 2), (48, .ishr, 1), (49, .iconst 1, 1), (50, .iand, 1), (51, .ifCond .eq 23, 3), (54, .aload_n 0, 1), (55, .getfield 30, 3), (58, .iload_n 3, 1), (59, .iload 5, 2), (61, .iastore, 1), (62, .aload_n 0, 1), (63, .iload_n 1, 1)],
  [(64, .iconst 1, 1), (65, .iadd, 1), (66, .iload_n 2, 1), (67, .iconst 1, 1), (68, .iload_n 3, 1), (69, .ishl, 1), (70, .ior, 1), (71, .invokevirtual 121, 3), (74, .iinc 5 1, 3), (77, .goto (-45), 3), (80, .return_, 1)]]
/-- Treegrab$Search.optionsInPlan(II)I -/
def zc_75 : List (List (Nat × Instr × Nat)) := [[(0, .aload_n 0, 1), (1, .getfield 9, 3), (4, .aload_n 0, 1), (5, .getfield 40, 3), (8, .getfield 96, 3), (11, .iload_n 1, 1), (12, .iaload, 1), (13, .iaload, 1), (14, .istore_n 3, 1), (15, .iconst 1, 1), (16, .istore 4, 2), (18, .iload 4, 2), (20, .aload_n 0, 1), (21, .getfield 40, 3), (24, .getfield 54, 3), (27, .if_icmp .ge 123, 3), (30, .aload_n 0, 1), (31, .getfield 40, 3)],
  [(34, .iload 4, 2), (36, .invokevirtual 104, 3), (39, .ifCond .eq 105, 3), (42, .aload_n 0, 1), (43, .getfield 40, 3), (46, .aload_n 0, 1), (47, .getfield 40, 3), (50, .getfield 107, 3), (53, .iload 4, 2), (55, .iaload, 1), (56, .invokevirtual 110, 3), (59, .istore 5, 2), (61, .aload_n 0, 1), (62, .getfield 40, 3)],
  [(65, .iload 4, 2), (67, .invokevirtual 110, 3), (70, .istore 6, 2), (72, .iload 6, 2), (74, .iload_n 1, 1), (75, .if_icmp .ne 33, 3), (78, .iload_n 2, 1), (79, .iload 5, 2), (81, .ishr, 1), (82, .iconst 1, 1), (83, .iand, 1), (84, .ifCond .eq 24, 3), (87, .iload_n 3, 1), (88, .aload_n 0, 1), (89, .getfield 15, 3), (92, .iload 4, 2), (94, .bipush 20, 2)],
  [(96, .imul, 1), (97, .aload_n 0, 1), (98, .getfield 30, 3), (101, .iload 5, 2), (103, .iaload, 1), (104, .iadd, 1), (105, .iaload, 1), (106, .iand, 1), (107, .istore_n 3, 1), (108, .iload 5, 2), (110, .iload_n 1, 1), (111, .if_icmp .ne 33, 3), (114, .iload_n 2, 1), (115, .iload 6, 2), (117, .ishr, 1), (118, .iconst 1, 1), (119, .iand, 1), (120, .ifCond .eq 24, 3), (123, .iload_n 3, 1), (124, .aload_n 0, 1), (125, .getfield 18, 3)],
  [(128, .iload 4, 2), (130, .bipush 20, 2), (132, .imul, 1), (133, .aload_n 0, 1), (134, .getfield 30, 3), (137, .iload 6, 2), (139, .iaload, 1), (140, .iadd, 1), (141, .iaload, 1), (142, .iand, 1), (143, .istore_n 3, 1), (144, .iinc 4 1, 3), (147, .goto (-129), 3), (150, .iload_n 3, 1), (151, .ireturn, 1)]]
/-- Treegrab$Search.walk(I)V -/
def zc_76 : List (List (Nat × Instr × Nat)) := [[(0, .iload_n 1, 1), (1, .aload_n 0, 1), (2, .getfield 40, 3), (5, .getfield 54, 3), (8, .if_icmp .lt 15, 3), (11, .aload_n 0, 1), (12, .getfield 113, 3), (15, .aload_n 0, 1), (16, .getfield 30, 3), (19, .invokevirtual 132, 3), (22, .return_, 1), (23, .iload_n 1, 1), (24, .ifCond .ne 12, 3), (27, .aload_n 0, 1), (28, .getfield 9, 3), (31, .iconst 0, 1)],
  [(32, .iaload, 1), (33, .goto 27, 3), (36, .aload_n 0, 1), (37, .getfield 15, 3), (40, .iload_n 1, 1), (41, .bipush 20, 2), (43, .imul, 1), (44, .aload_n 0, 1), (45, .getfield 27, 3), (48, .aload_n 0, 1), (49, .getfield 40, 3), (52, .getfield 107, 3), (55, .iload_n 1, 1), (56, .iaload, 1), (57, .iaload, 1), (58, .iadd, 1), (59, .iaload, 1), (60, .istore_n 2, 1), (61, .aload_n 0, 1), (62, .getfield 40, 3)],
  [(65, .getfield 138, 3), (68, .iload_n 1, 1), (69, .baload, 1), (70, .ifCond .eq 27, 3), (73, .iload_n 2, 1), (74, .aload_n 0, 1), (75, .iload_n 1, 1), (76, .invokevirtual 142, 3), (79, .iand, 1), (80, .ifCond .ne 16, 3), (83, .aload_n 0, 1), (84, .aload_n 0, 1), (85, .getfield 40, 3), (88, .getfield 145, 3), (91, .iload_n 1, 1), (92, .iaload, 1), (93, .invokevirtual 125, 3)],
  [(96, .return_, 1), (97, .aload_n 0, 1), (98, .getfield 40, 3), (101, .getfield 148, 3), (104, .iload_n 1, 1), (105, .iaload, 1), (106, .iload_n 1, 1), (107, .if_icmp .ne 32, 3), (110, .iload_n 2, 1), (111, .aload_n 0, 1), (112, .iload_n 1, 1), (113, .invokevirtual 142, 3), (116, .iand, 1), (117, .ifCond .ne 22, 3), (120, .aload_n 0, 1), (121, .iload_n 1, 1), (122, .invokevirtual 151, 3), (125, .aload_n 0, 1), (126, .aload_n 0, 1), (127, .getfield 40, 3)],
  [(130, .getfield 145, 3), (133, .iload_n 1, 1), (134, .iaload, 1), (135, .invokevirtual 125, 3), (138, .return_, 1), (139, .aload_n 0, 1), (140, .getfield 40, 3), (143, .getfield 154, 3), (146, .iload_n 1, 1), (147, .iaload, 1), (148, .istore_n 3, 1), (149, .iload_n 2, 1), (150, .aload_n 0, 1), (151, .iload_n 1, 1), (152, .invokevirtual 157, 3), (155, .iand, 1), (156, .istore_n 2, 1), (157, .aload_n 0, 1), (158, .getfield 117, 3)],
  [(161, .ifCond .eq 30, 3), (164, .iload_n 3, 1), (165, .iconst (-1), 1), (166, .if_icmp .eq 25, 3), (169, .aload_n 0, 1), (170, .getfield 40, 3), (173, .iload_n 1, 1), (174, .invokevirtual 104, 3), (177, .ifCond .eq 14, 3), (180, .iload_n 2, 1), (181, .iconst 1, 1), (182, .aload_n 0, 1), (183, .getfield 30, 3), (186, .iload_n 3, 1), (187, .iaload, 1), (188, .ishl, 1), (189, .iand, 1), (190, .istore_n 2, 1), (191, .iconst 0, 1)],
  [(192, .istore 4, 2), (194, .iload 4, 2), (196, .aload_n 0, 1), (197, .getfield 36, 3), (200, .getfield 44, 3), (203, .if_icmp .ge 46, 3), (206, .iload_n 2, 1), (207, .iload 4, 2), (209, .ishr, 1), (210, .iconst 1, 1), (211, .iand, 1), (212, .ifCond .eq 31, 3), (215, .aload_n 0, 1), (216, .getfield 27, 3), (219, .iload_n 1, 1), (220, .iload 4, 2), (222, .iastore, 1), (223, .iload_n 3, 1)],
  [(224, .iconst (-1), 1), (225, .if_icmp .eq 11, 3), (228, .aload_n 0, 1), (229, .getfield 30, 3), (232, .iload_n 3, 1), (233, .iload 4, 2), (235, .iastore, 1), (236, .aload_n 0, 1), (237, .iload_n 1, 1), (238, .iconst 1, 1), (239, .iadd, 1), (240, .invokevirtual 125, 3), (243, .iinc 4 1, 3), (246, .goto (-52), 3), (249, .return_, 1)]]
/-- Treegrab$Search.leaveOut(I)V -/
def zc_77 : List (List (Nat × Instr × Nat)) := [[(0, .iload_n 1, 1), (1, .istore_n 2, 1), (2, .iload_n 2, 1), (3, .aload_n 0, 1), (4, .getfield 40, 3), (7, .getfield 145, 3), (10, .iload_n 1, 1), (11, .iaload, 1), (12, .if_icmp .ge 37, 3), (15, .aload_n 0, 1), (16, .getfield 40, 3), (19, .getfield 154, 3), (22, .iload_n 2, 1), (23, .iaload, 1), (24, .iconst (-1), 1), (25, .if_icmp .eq 18, 3), (28, .aload_n 0, 1), (29, .getfield 30, 3)],
  [(32, .aload_n 0, 1), (33, .getfield 40, 3), (36, .getfield 154, 3), (39, .iload_n 2, 1), (40, .iaload, 1), (41, .iconst (-1), 1), (42, .iastore, 1), (43, .iinc 2 1, 3), (46, .goto (-44), 3), (49, .return_, 1)]]
/-- Treegrab$Search.ownNodes(I)I -/
def zc_78 : List (List (Nat × Instr × Nat)) := [[(0, .aload_n 0, 1), (1, .getfield 40, 3), (4, .getfield 160, 3), (7, .iload_n 1, 1), (8, .iaload, 1), (9, .iconst 4, 1), (10, .if_icmp .ne 28, 3), (13, .iconst 1, 1), (14, .aload_n 0, 1), (15, .getfield 30, 3), (18, .aload_n 0, 1), (19, .getfield 40, 3), (22, .getfield 154, 3), (25, .aload_n 0, 1), (26, .getfield 40, 3), (29, .getfield 163, 3)],
  [(32, .iload_n 1, 1), (33, .iaload, 1), (34, .iaload, 1), (35, .iaload, 1), (36, .ishl, 1), (37, .ireturn, 1), (38, .aload_n 0, 1), (39, .getfield 40, 3), (42, .getfield 160, 3), (45, .iload_n 1, 1), (46, .iaload, 1), (47, .iconst 3, 1), (48, .if_icmp .ne 31, 3), (51, .aload_n 0, 1), (52, .getfield 21, 3), (55, .aload_n 0, 1), (56, .getfield 30, 3), (59, .aload_n 0, 1), (60, .getfield 40, 3), (63, .getfield 154, 3)],
  [(66, .aload_n 0, 1), (67, .getfield 40, 3), (70, .getfield 163, 3), (73, .iload_n 1, 1), (74, .iaload, 1), (75, .iaload, 1), (76, .iaload, 1), (77, .iaload, 1), (78, .ireturn, 1), (79, .aload_n 0, 1), (80, .getfield 9, 3), (83, .iload_n 1, 1), (84, .iaload, 1), (85, .ireturn, 1)]]
/-- Treegrab$Search.satisfying(I)I -/
def zc_79 : List (List (Nat × Instr × Nat)) := [[(0, .aload_n 0, 1), (1, .getfield 40, 3), (4, .getfield 145, 3), (7, .iload_n 1, 1), (8, .iaload, 1), (9, .istore_n 2, 1), (10, .iload_n 1, 1), (11, .istore_n 3, 1), (12, .iload_n 3, 1), (13, .iload_n 2, 1), (14, .if_icmp .ge 20, 3), (17, .aload_n 0, 1), (18, .getfield 24, 3), (21, .iload_n 3, 1), (22, .aload_n 0, 1), (23, .iload_n 3, 1), (24, .invokevirtual 157, 3), (27, .iastore, 1), (28, .iinc 3 1, 3), (31, .goto (-19), 3)],
  [(34, .iload_n 2, 1), (35, .iconst 1, 1), (36, .isub, 1), (37, .istore_n 3, 1), (38, .iload_n 3, 1), (39, .iload_n 1, 1), (40, .if_icmp .le 107, 3), (43, .iconst 0, 1), (44, .istore 4, 2), (46, .iconst 0, 1), (47, .istore 5, 2), (49, .iload 5, 2), (51, .aload_n 0, 1), (52, .getfield 36, 3), (55, .getfield 44, 3), (58, .if_icmp .ge 44, 3), (61, .iload 4, 2), (63, .aload_n 0, 1)],
  [(64, .getfield 24, 3), (67, .iload_n 3, 1), (68, .iaload, 1), (69, .iload 5, 2), (71, .ishr, 1), (72, .iconst 1, 1), (73, .iand, 1), (74, .ifCond .eq 18, 3), (77, .aload_n 0, 1), (78, .getfield 18, 3), (81, .iload_n 3, 1), (82, .bipush 20, 2), (84, .imul, 1), (85, .iload 5, 2), (87, .iadd, 1), (88, .iaload, 1), (89, .goto 4, 3), (92, .iconst 0, 1), (93, .ior, 1), (94, .istore 4, 2)],
  [(96, .iinc 5 1, 3), (99, .goto (-50), 3), (102, .aload_n 0, 1), (103, .getfield 24, 3), (106, .aload_n 0, 1), (107, .getfield 40, 3), (110, .getfield 107, 3), (113, .iload_n 3, 1), (114, .iaload, 1), (115, .dup2, 1), (116, .iaload, 1), (117, .aload_n 0, 1), (118, .getfield 40, 3), (121, .getfield 166, 3), (124, .iload_n 3, 1), (125, .iaload, 1), (126, .iconst 1, 1), (127, .if_icmp .ne 10, 3)],
  [(130, .iload 4, 2), (132, .iconst (-1), 1), (133, .ixor, 1), (134, .goto 5, 3), (137, .iload 4, 2), (139, .iand, 1), (140, .iastore, 1), (141, .iinc 3 (-1), 3), (144, .goto (-106), 3), (147, .aload_n 0, 1), (148, .getfield 24, 3), (151, .iload_n 1, 1), (152, .iaload, 1), (153, .ireturn, 1)]]
/-- Treegrab$Tape.<init>()V -/
def zc_80 : List (List (Nat × Instr × Nat)) := [[(0, .aload_n 0, 1), (1, .invokespecial 3, 3), (4, .aload_n 0, 1), (5, .sipush 600, 3), (8, .newarray .int, 2), (10, .putfield 9, 3), (13, .return_, 1)]]
/-- Treegrab$Tape.append(JI)V -/
def zc_81 : List (List (Nat × Instr × Nat)) := [[(0, .iconst 0, 1), (1, .istore 4, 2), (3, .iload 4, 2), (5, .iload_n 3, 1), (6, .if_icmp .ge 50, 3), (9, .aload_n 0, 1), (10, .getfield 15, 3), (13, .sipush 600, 3), (16, .if_icmp .ge 40, 3), (19, .aload_n 0, 1), (20, .getfield 9, 3), (23, .aload_n 0, 1), (24, .getfield 15, 3), (27, .lload_n 1, 1), (28, .bipush 8, 2), (30, .iload 4, 2)],
  [(32, .imul, 1), (33, .lushr, 1), (34, .l2i, 1), (35, .sipush 255, 3), (38, .iand, 1), (39, .iastore, 1), (40, .aload_n 0, 1), (41, .dup, 1), (42, .getfield 15, 3), (45, .iconst 1, 1), (46, .iadd, 1), (47, .putfield 15, 3), (50, .iinc 4 1, 3), (53, .goto (-50), 3), (56, .return_, 1)]]
/-- Treegrab$Tape.drop()V -/
def zc_82 : List (List (Nat × Instr × Nat)) := [[(0, .aload_n 0, 1), (1, .iconst 0, 1), (2, .putfield 15, 3), (5, .return_, 1)]]
/-- Treegrab$Tape.begin()V -/
def zc_83 : List (List (Nat × Instr × Nat)) := [[(0, .aload_n 0, 1), (1, .iconst 0, 1), (2, .putfield 19, 3), (5, .aload_n 0, 1), (6, .iconst 0, 1), (7, .putfield 22, 3), (10, .aload_n 0, 1), (11, .iconst 0, 1), (12, .putfield 25, 3), (15, .return_, 1)]]
/-- Treegrab$Tape.byteAt(I)I -/
def zc_84 : List (List (Nat × Instr × Nat)) := [[(0, .iload_n 1, 1), (1, .ifCond .lt 20, 3), (4, .iload_n 1, 1), (5, .aload_n 0, 1), (6, .getfield 15, 3), (9, .if_icmp .ge 12, 3), (12, .aload_n 0, 1), (13, .getfield 9, 3), (16, .iload_n 1, 1), (17, .iaload, 1), (18, .goto 4, 3), (21, .iconst (-1), 1), (22, .ireturn, 1)]]
/-- Treegrab$Tape.next()I -/
def zc_85 : List (List (Nat × Instr × Nat)) := [[(0, .aload_n 0, 1), (1, .getfield 19, 3), (4, .aload_n 0, 1), (5, .getfield 15, 3), (8, .if_icmp .ge 58, 3), (11, .aload_n 0, 1), (12, .getfield 9, 3), (15, .aload_n 0, 1), (16, .getfield 19, 3), (19, .iaload, 1), (20, .bipush 9, 2), (22, .if_icmp .eq 31, 3), (25, .aload_n 0, 1), (26, .getfield 9, 3), (29, .aload_n 0, 1), (30, .getfield 19, 3)],
  [(33, .iaload, 1), (34, .bipush 32, 2), (36, .if_icmp .eq 17, 3), (39, .aload_n 0, 1), (40, .getfield 9, 3), (43, .aload_n 0, 1), (44, .getfield 19, 3), (47, .iaload, 1), (48, .bipush 10, 2), (50, .if_icmp .ne 16, 3), (53, .aload_n 0, 1), (54, .dup, 1), (55, .getfield 19, 3), (58, .iconst 1, 1), (59, .iadd, 1), (60, .putfield 19, 3), (63, .goto (-63), 3)],
  [(66, .aload_n 0, 1), (67, .aload_n 0, 1), (68, .getfield 19, 3), (71, .invokevirtual 28, 3), (74, .ireturn, 1)]]
/-- Treegrab$Tape.fail(II)Z -/
def zc_86 : List (List (Nat × Instr × Nat)) := [[(0, .aload_n 0, 1), (1, .iload_n 1, 1), (2, .putfield 22, 3), (5, .aload_n 0, 1), (6, .iload_n 2, 1), (7, .putfield 25, 3), (10, .iconst 0, 1), (11, .ireturn, 1)]]
/-- Treegrab$Tape.wordLength()I -/
def zc_87 : List (List (Nat × Instr × Nat)) := [[(0, .aload_n 0, 1), (1, .aload_n 0, 1), (2, .getfield 19, 3), (5, .invokevirtual 28, 3), (8, .invokestatic 32, 3), (11, .ifCond .ne 5, 3), (14, .iconst 0, 1), (15, .ireturn, 1), (16, .aload_n 0, 1), (17, .getfield 19, 3), (20, .iconst 1, 1), (21, .iadd, 1), (22, .istore_n 1, 1), (23, .iload_n 1, 1), (24, .aload_n 0, 1), (25, .getfield 15, 3), (28, .if_icmp .ge 33, 3), (31, .aload_n 0, 1)],
  [(32, .getfield 9, 3), (35, .iload_n 1, 1), (36, .iaload, 1), (37, .invokestatic 32, 3), (40, .ifCond .ne 15, 3), (43, .aload_n 0, 1), (44, .getfield 9, 3), (47, .iload_n 1, 1), (48, .iaload, 1), (49, .invokestatic 36, 3), (52, .ifCond .eq 9, 3), (55, .iinc 1 1, 3), (58, .goto (-35), 3), (61, .iload_n 1, 1), (62, .aload_n 0, 1), (63, .getfield 19, 3)],
  [(66, .isub, 1), (67, .ireturn, 1)]]
/-- Treegrab$Tape.packed(II)J -/
def zc_88 : List (List (Nat × Instr × Nat)) := [[(0, .lconst 0, 1), (1, .lstore_n 3, 1), (2, .iconst 0, 1), (3, .istore 5, 2), (5, .iload 5, 2), (7, .iload_n 2, 1), (8, .if_icmp .ge 38, 3), (11, .iload 5, 2), (13, .bipush 6, 2), (15, .if_icmp .ge 31, 3), (18, .lload_n 3, 1), (19, .aload_n 0, 1), (20, .iload_n 1, 1), (21, .iload 5, 2), (23, .iadd, 1), (24, .invokevirtual 28, 3), (27, .sipush 255, 3), (30, .iand, 1), (31, .i2l, 1)],
  [(32, .bipush 8, 2), (34, .iload 5, 2), (36, .imul, 1), (37, .lshl, 1), (38, .lor, 1), (39, .lstore_n 3, 1), (40, .iinc 5 1, 3), (43, .goto (-38), 3), (46, .lload_n 3, 1), (47, .lreturn, 1)]]
/-- Treegrab$Tape.readLabel()J -/
def zc_89 : List (List (Nat × Instr × Nat)) := [[(0, .aload_n 0, 1), (1, .invokevirtual 39, 3), (4, .pop, 1), (5, .aload_n 0, 1), (6, .invokevirtual 43, 3), (9, .istore_n 1, 1), (10, .iload_n 1, 1), (11, .ifCond .eq 9, 3), (14, .iload_n 1, 1), (15, .bipush 6, 2), (17, .if_icmp .le 23, 3), (20, .aload_n 0, 1), (21, .iload_n 1, 1), (22, .ifCond .ne 7, 3), (25, .iconst 1, 1), (26, .goto 4, 3), (29, .iconst 2, 1), (30, .aload_n 0, 1), (31, .getfield 19, 3)],
  [(34, .invokevirtual 46, 3), (37, .pop, 1), (38, .lconst 0, 1), (39, .lreturn, 1), (40, .aload_n 0, 1), (41, .aload_n 0, 1), (42, .getfield 19, 3), (45, .iload_n 1, 1), (46, .invokevirtual 50, 3), (49, .lstore_n 2, 1), (50, .aload_n 0, 1), (51, .dup, 1), (52, .getfield 19, 3), (55, .iload_n 1, 1), (56, .iadd, 1), (57, .putfield 19, 3), (60, .lload_n 2, 1), (61, .lreturn, 1)]]
/-- Treegrab$Tape.wholeLabel()J -/
def zc_90 : List (List (Nat × Instr × Nat)) := [[(0, .aload_n 0, 1), (1, .iconst 0, 1), (2, .putfield 19, 3), (5, .aload_n 0, 1), (6, .invokevirtual 43, 3), (9, .istore_n 1, 1), (10, .iload_n 1, 1), (11, .aload_n 0, 1), (12, .getfield 15, 3), (15, .if_icmp .ne 18, 3), (18, .iload_n 1, 1), (19, .bipush 6, 2), (21, .if_icmp .gt 12, 3), (24, .aload_n 0, 1), (25, .iconst 0, 1), (26, .iload_n 1, 1), (27, .invokevirtual 50, 3), (30, .goto 4, 3)],
  [(33, .lconst 0, 1), (34, .lreturn, 1)]]
/-- Treegrab$Tape.spells(Ljava/lang/String;)Z -/
def zc_91 : List (List (Nat × Instr × Nat)) := [[(0, .aload_n 0, 1), (1, .invokevirtual 43, 3), (4, .aload_n 1, 1), (5, .invokevirtual 54, 3), (8, .if_icmp .eq 5, 3), (11, .iconst 0, 1), (12, .ireturn, 1), (13, .iconst 0, 1), (14, .istore_n 2, 1), (15, .iload_n 2, 1), (16, .aload_n 1, 1), (17, .invokevirtual 54, 3), (20, .if_icmp .ge 29, 3), (23, .aload_n 0, 1), (24, .aload_n 0, 1), (25, .getfield 19, 3), (28, .iload_n 2, 1), (29, .iadd, 1), (30, .invokevirtual 28, 3)],
  [(33, .aload_n 1, 1), (34, .iload_n 2, 1), (35, .invokevirtual 58, 3), (38, .if_icmp .eq 5, 3), (41, .iconst 0, 1), (42, .ireturn, 1), (43, .iinc 2 1, 3), (46, .goto (-31), 3), (49, .iconst 1, 1), (50, .ireturn, 1)]]
/-- Treegrab$Tree.<init>()V -/
def zc_92 : List (List (Nat × Instr × Nat)) := [[(0, .aload_n 0, 1), (1, .invokespecial 3, 3), (4, .aload_n 0, 1), (5, .bipush 20, 2), (7, .newarray .long, 2), (9, .putfield 9, 3), (12, .aload_n 0, 1), (13, .bipush 20, 2), (15, .newarray .int, 2), (17, .putfield 15, 3), (20, .aload_n 0, 1), (21, .bipush 20, 2), (23, .newarray .int, 2), (25, .putfield 19, 3), (28, .aload_n 0, 1), (29, .bipush 20, 2), (31, .newarray .int, 2)],
  [(33, .putfield 22, 3), (36, .aload_n 0, 1), (37, .bipush 20, 2), (39, .newarray .int, 2), (41, .putfield 25, 3), (44, .aload_n 0, 1), (45, .bipush 20, 2), (47, .newarray .int, 2), (49, .putfield 28, 3), (52, .aload_n 0, 1), (53, .bipush 20, 2), (55, .newarray .int, 2), (57, .putfield 31, 3), (60, .aload_n 0, 1), (61, .bipush 20, 2), (63, .newarray .int, 2)],
  [(65, .putfield 34, 3), (68, .aload_n 0, 1), (69, .bipush 20, 2), (71, .newarray .long, 2), (73, .putfield 37, 3), (76, .aload_n 0, 1), (77, .bipush 20, 2), (79, .newarray .int, 2), (81, .putfield 40, 3), (84, .aload_n 0, 1), (85, .bipush 21, 2), (87, .newarray .int, 2), (89, .putfield 43, 3), (92, .return_, 1)]]
/-- Treegrab$Tree.read(LTreegrab$Tape;)Z -/
def zc_93 : List (List (Nat × Instr × Nat)) := [[(0, .aload_n 1, 1), (1, .invokevirtual 46, 3), (4, .aload_n 0, 1), (5, .iconst 0, 1), (6, .putfield 51, 3), (9, .iconst 0, 1), (10, .istore_n 2, 1), (11, .iconst 0, 1), (12, .istore_n 3, 1), (13, .iload_n 3, 1), (14, .sipush 600, 3), (17, .if_icmp .gt 119, 3), (20, .aload_n 1, 1), (21, .invokevirtual 55, 3), (24, .istore 4, 2), (26, .aload_n 1, 1), (27, .getfield 59, 3), (30, .istore 5, 2)],
  [(32, .aload_n 0, 1), (33, .getfield 51, 3), (36, .ifCond .le 29, 3), (39, .iload_n 2, 1), (40, .ifCond .ne 25, 3), (43, .iload 4, 2), (45, .iconst (-1), 1), (46, .if_icmp .eq 13, 3), (49, .aload_n 1, 1), (50, .iconst 1, 1), (51, .iload 5, 2), (53, .invokevirtual 62, 3), (56, .ifCond .eq 7, 3), (59, .iconst 1, 1), (60, .goto 4, 3), (63, .iconst 0, 1)],
  [(64, .ireturn, 1), (65, .iload 4, 2), (67, .bipush 41, 2), (69, .if_icmp .ne 23, 3), (72, .iload_n 2, 1), (73, .ifCond .le 19, 3), (76, .aload_n 1, 1), (77, .dup, 1), (78, .getfield 59, 3), (81, .iconst 1, 1), (82, .iadd, 1), (83, .putfield 59, 3), (86, .iinc 2 (-1), 3), (89, .goto 41, 3), (92, .aload_n 0, 1), (93, .aload_n 1, 1), (94, .iload 4, 2)],
  [(96, .bipush 40, 2), (98, .if_icmp .ne 7, 3), (101, .iconst 1, 1), (102, .goto 4, 3), (105, .iconst 0, 1), (106, .iload_n 2, 1), (107, .invokevirtual 66, 3), (110, .ifCond .ne 5, 3), (113, .iconst 0, 1), (114, .ireturn, 1), (115, .iload_n 2, 1), (116, .iload 4, 2), (118, .bipush 40, 2), (120, .if_icmp .ne 7, 3), (123, .iconst 1, 1), (124, .goto 4, 3), (127, .iconst 0, 1)],
  [(128, .iadd, 1), (129, .istore_n 2, 1), (130, .iinc 3 1, 3), (133, .goto (-120), 3), (136, .iconst 0, 1), (137, .ireturn, 1)]]
/-- Treegrab$Tree.readNode(LTreegrab$Tape;ZI)Z -/
def zc_94 : List (List (Nat × Instr × Nat)) := [[(0, .aload_n 1, 1), (1, .getfield 59, 3), (4, .istore 4, 2), (6, .aload_n 0, 1), (7, .getfield 51, 3), (10, .bipush 20, 2), (12, .if_icmp .lt 7, 3), (15, .iconst 1, 1), (16, .goto 4, 3), (19, .iconst 0, 1), (20, .istore 5, 2), (22, .iload_n 2, 1), (23, .ifCond .eq 16, 3), (26, .iload 5, 2), (28, .ifCond .eq 11, 3), (31, .aload_n 1, 1)],
  [(32, .iconst 3, 1), (33, .iload 4, 2), (35, .invokevirtual 62, 3), (38, .ireturn, 1), (39, .aload_n 1, 1), (40, .dup, 1), (41, .getfield 59, 3), (44, .iload_n 2, 1), (45, .ifCond .eq 7, 3), (48, .iconst 1, 1), (49, .goto 4, 3), (52, .iconst 0, 1), (53, .iadd, 1), (54, .putfield 59, 3), (57, .aload_n 1, 1), (58, .invokevirtual 70, 3), (61, .lstore 6, 2), (63, .lload 6, 2)],
  [(65, .lconst 0, 1), (66, .lcmp, 1), (67, .ifCond .ne 5, 3), (70, .iconst 0, 1), (71, .ireturn, 1), (72, .iload 5, 2), (74, .ifCond .eq 11, 3), (77, .aload_n 1, 1), (78, .iconst 3, 1), (79, .iload 4, 2), (81, .invokevirtual 62, 3), (84, .ireturn, 1), (85, .aload_n 0, 1), (86, .getfield 9, 3), (89, .aload_n 0, 1), (90, .getfield 51, 3), (93, .lload 6, 2), (95, .lastore, 1)],
  [(96, .aload_n 0, 1), (97, .getfield 15, 3), (100, .aload_n 0, 1), (101, .getfield 51, 3), (104, .iload_n 3, 1), (105, .iastore, 1), (106, .aload_n 0, 1), (107, .dup, 1), (108, .getfield 51, 3), (111, .iconst 1, 1), (112, .iadd, 1), (113, .putfield 51, 3), (116, .iconst 1, 1), (117, .ireturn, 1)]]
/-- Treegrab$Tree.settle()V -/
def zc_95 : List (List (Nat × Instr × Nat)) := [[(0, .aload_n 0, 1), (1, .iconst 0, 1), (2, .putfield 74, 3), (5, .iconst 0, 1), (6, .istore_n 1, 1), (7, .iload_n 1, 1), (8, .aload_n 0, 1), (9, .getfield 51, 3), (12, .if_icmp .ge 113, 3), (15, .aload_n 0, 1), (16, .getfield 15, 3), (19, .iload_n 1, 1), (20, .iaload, 1), (21, .istore_n 2, 1), (22, .aload_n 0, 1), (23, .getfield 43, 3), (26, .iload_n 2, 1), (27, .iload_n 1, 1), (28, .iastore, 1), (29, .aload_n 0, 1), (30, .getfield 19, 3)],
  [(33, .iload_n 1, 1), (34, .iload_n 2, 1), (35, .ifCond .ne 7, 3), (38, .iconst (-1), 1), (39, .goto 11, 3), (42, .aload_n 0, 1), (43, .getfield 43, 3), (46, .iload_n 2, 1), (47, .iconst 1, 1), (48, .isub, 1), (49, .iaload, 1), (50, .iastore, 1), (51, .aload_n 0, 1), (52, .getfield 25, 3), (55, .iload_n 1, 1), (56, .iconst 0, 1), (57, .iastore, 1), (58, .aload_n 0, 1), (59, .getfield 22, 3), (62, .iload_n 1, 1), (63, .iload_n 1, 1)],
  [(64, .iconst 1, 1), (65, .iadd, 1), (66, .iastore, 1), (67, .aload_n 0, 1), (68, .getfield 19, 3), (71, .iload_n 1, 1), (72, .iaload, 1), (73, .iconst (-1), 1), (74, .if_icmp .eq 35, 3), (77, .aload_n 0, 1), (78, .getfield 25, 3), (81, .aload_n 0, 1), (82, .getfield 19, 3), (85, .iload_n 1, 1), (86, .iaload, 1), (87, .dup2, 1), (88, .iaload, 1), (89, .iconst 1, 1), (90, .iadd, 1), (91, .iastore, 1), (92, .aload_n 0, 1), (93, .getfield 28, 3)],
  [(96, .iload_n 1, 1), (97, .aload_n 0, 1), (98, .getfield 25, 3), (101, .aload_n 0, 1), (102, .getfield 19, 3), (105, .iload_n 1, 1), (106, .iaload, 1), (107, .iaload, 1), (108, .iastore, 1), (109, .aload_n 0, 1), (110, .aload_n 0, 1), (111, .getfield 9, 3), (114, .iload_n 1, 1), (115, .laload, 1), (116, .invokevirtual 77, 3), (119, .iinc 1 1, 3), (122, .goto (-115), 3), (125, .aload_n 0, 1), (126, .getfield 51, 3)],
  [(129, .iconst 1, 1), (130, .isub, 1), (131, .istore_n 1, 1), (132, .iload_n 1, 1), (133, .ifCond .le 37, 3), (136, .aload_n 0, 1), (137, .getfield 19, 3), (140, .iload_n 1, 1), (141, .iaload, 1), (142, .istore_n 2, 1), (143, .aload_n 0, 1), (144, .getfield 22, 3), (147, .iload_n 2, 1), (148, .aload_n 0, 1), (149, .getfield 22, 3), (152, .iload_n 2, 1), (153, .iaload, 1), (154, .aload_n 0, 1), (155, .getfield 22, 3), (158, .iload_n 1, 1), (159, .iaload, 1)],
  [(160, .invokestatic 81, 3), (163, .iastore, 1), (164, .iinc 1 (-1), 3), (167, .goto (-35), 3), (170, .aload_n 0, 1), (171, .invokevirtual 87, 3), (174, .return_, 1)]]
/-- Treegrab$Tree.settleWords()V -/
def zc_96 : List (List (Nat × Instr × Nat)) := [[(0, .iconst 0, 1), (1, .istore_n 1, 1), (2, .iconst 0, 1), (3, .istore_n 2, 1), (4, .iload_n 2, 1), (5, .aload_n 0, 1), (6, .getfield 51, 3), (9, .if_icmp .ge 33, 3), (12, .aload_n 0, 1), (13, .getfield 31, 3), (16, .iload_n 2, 1), (17, .iload_n 1, 1), (18, .iastore, 1), (19, .iload_n 1, 1), (20, .aload_n 0, 1), (21, .getfield 25, 3), (24, .iload_n 2, 1), (25, .iaload, 1), (26, .ifCond .ne 7, 3), (29, .iconst 1, 1), (30, .goto 4, 3)],
  [(33, .iconst 0, 1), (34, .iadd, 1), (35, .istore_n 1, 1), (36, .iinc 2 1, 3), (39, .goto (-35), 3), (42, .iconst 0, 1), (43, .istore_n 2, 1), (44, .iload_n 2, 1), (45, .aload_n 0, 1), (46, .getfield 51, 3), (49, .if_icmp .ge 45, 3), (52, .aload_n 0, 1), (53, .getfield 34, 3), (56, .iload_n 2, 1), (57, .aload_n 0, 1), (58, .getfield 22, 3), (61, .iload_n 2, 1), (62, .iaload, 1), (63, .aload_n 0, 1)],
  [(64, .getfield 51, 3), (67, .if_icmp .ge 17, 3), (70, .aload_n 0, 1), (71, .getfield 31, 3), (74, .aload_n 0, 1), (75, .getfield 22, 3), (78, .iload_n 2, 1), (79, .iaload, 1), (80, .iaload, 1), (81, .goto 4, 3), (84, .iload_n 1, 1), (85, .iconst 1, 1), (86, .isub, 1), (87, .iastore, 1), (88, .iinc 2 1, 3), (91, .goto (-47), 3), (94, .return_, 1)]]
/-- Treegrab$Tree.enterInIndex(J)V -/
def zc_97 : List (List (Nat × Instr × Nat)) := [[(0, .aload_n 0, 1), (1, .lload_n 1, 1), (2, .invokevirtual 90, 3), (5, .istore_n 3, 1), (6, .iload_n 3, 1), (7, .aload_n 0, 1), (8, .getfield 74, 3), (11, .if_icmp .ge 25, 3), (14, .aload_n 0, 1), (15, .getfield 37, 3), (18, .iload_n 3, 1), (19, .laload, 1), (20, .lload_n 1, 1), (21, .lcmp, 1), (22, .ifCond .ne 14, 3), (25, .aload_n 0, 1), (26, .getfield 40, 3), (29, .iload_n 3, 1), (30, .dup2, 1), (31, .iaload, 1)],
  [(32, .iconst 1, 1), (33, .iadd, 1), (34, .iastore, 1), (35, .return_, 1), (36, .aload_n 0, 1), (37, .getfield 74, 3), (40, .istore 4, 2), (42, .iload 4, 2), (44, .iload_n 3, 1), (45, .if_icmp .le 41, 3), (48, .aload_n 0, 1), (49, .getfield 37, 3), (52, .iload 4, 2), (54, .aload_n 0, 1), (55, .getfield 37, 3), (58, .iload 4, 2), (60, .iconst 1, 1), (61, .isub, 1), (62, .laload, 1), (63, .lastore, 1)],
  [(64, .aload_n 0, 1), (65, .getfield 40, 3), (68, .iload 4, 2), (70, .aload_n 0, 1), (71, .getfield 40, 3), (74, .iload 4, 2), (76, .iconst 1, 1), (77, .isub, 1), (78, .iaload, 1), (79, .iastore, 1), (80, .iinc 4 (-1), 3), (83, .goto (-41), 3), (86, .aload_n 0, 1), (87, .getfield 37, 3), (90, .iload_n 3, 1), (91, .lload_n 1, 1), (92, .lastore, 1), (93, .aload_n 0, 1), (94, .getfield 40, 3)],
  [(97, .iload_n 3, 1), (98, .iconst 1, 1), (99, .iastore, 1), (100, .aload_n 0, 1), (101, .dup, 1), (102, .getfield 74, 3), (105, .iconst 1, 1), (106, .iadd, 1), (107, .putfield 74, 3), (110, .return_, 1)]]
/-- Treegrab$Tree.seek(J)I -/
def zc_98 : List (List (Nat × Instr × Nat)) := [[(0, .iconst 0, 1), (1, .istore_n 3, 1), (2, .aload_n 0, 1), (3, .getfield 74, 3), (6, .istore 4, 2), (8, .iload_n 3, 1), (9, .iload 4, 2), (11, .if_icmp .ge 38, 3), (14, .iload_n 3, 1), (15, .iload 4, 2), (17, .iadd, 1), (18, .iconst 2, 1), (19, .idiv, 1), (20, .istore 5, 2), (22, .aload_n 0, 1), (23, .getfield 37, 3), (26, .iload 5, 2), (28, .laload, 1), (29, .lload_n 1, 1), (30, .lcmp, 1), (31, .ifCond .ge 11, 3)],
  [(34, .iload 5, 2), (36, .iconst 1, 1), (37, .iadd, 1), (38, .istore_n 3, 1), (39, .goto 7, 3), (42, .iload 5, 2), (44, .istore 4, 2), (46, .goto (-38), 3), (49, .iload_n 3, 1), (50, .ireturn, 1)]]
/-- Treegrab$Tree.holdersByIndex(J)I -/
def zc_99 : List (List (Nat × Instr × Nat)) := [[(0, .aload_n 0, 1), (1, .lload_n 1, 1), (2, .invokevirtual 90, 3), (5, .istore_n 3, 1), (6, .iload_n 3, 1), (7, .aload_n 0, 1), (8, .getfield 74, 3), (11, .if_icmp .ge 23, 3), (14, .aload_n 0, 1), (15, .getfield 37, 3), (18, .iload_n 3, 1), (19, .laload, 1), (20, .lload_n 1, 1), (21, .lcmp, 1), (22, .ifCond .ne 12, 3), (25, .aload_n 0, 1), (26, .getfield 40, 3), (29, .iload_n 3, 1), (30, .iaload, 1), (31, .goto 4, 3)],
  [(34, .iconst 0, 1), (35, .ireturn, 1)]]
/-- Treegrab$Tree.holdersByWalk([II)I -/
def zc_100 : List (List (Nat × Instr × Nat)) := [[(0, .iconst 0, 1), (1, .istore_n 3, 1), (2, .iconst 0, 1), (3, .istore 4, 2), (5, .iload 4, 2), (7, .aload_n 0, 1), (8, .getfield 51, 3), (11, .if_icmp .ge 32, 3), (14, .iload_n 3, 1), (15, .aload_n 0, 1), (16, .getfield 9, 3), (19, .iload 4, 2), (21, .laload, 1), (22, .aload_n 1, 1), (23, .iload_n 2, 1), (24, .invokestatic 94, 3), (27, .ifCond .eq 7, 3), (30, .iconst 1, 1), (31, .goto 4, 3)],
  [(34, .iconst 0, 1), (35, .iadd, 1), (36, .istore_n 3, 1), (37, .iinc 4 1, 3), (40, .goto (-35), 3), (43, .iload_n 3, 1), (44, .ireturn, 1)]]
/-- Treegrab$Tree.isSpelled(J[II)Z -/
def zc_101 : List (List (Nat × Instr × Nat)) := [[(0, .iload_n 3, 1), (1, .iconst 1, 1), (2, .if_icmp .lt 9, 3), (5, .iload_n 3, 1), (6, .bipush 6, 2), (8, .if_icmp .le 5, 3), (11, .iconst 0, 1), (12, .ireturn, 1), (13, .iconst 0, 1), (14, .istore 4, 2), (16, .iload 4, 2), (18, .iload_n 3, 1), (19, .if_icmp .ge 39, 3), (22, .lload_n 0, 1), (23, .bipush 8, 2), (25, .iload 4, 2), (27, .imul, 1), (28, .lushr, 1), (29, .l2i, 1), (30, .sipush 255, 3)],
  [(33, .iand, 1), (34, .istore 5, 2), (36, .iload 5, 2), (38, .ifCond .eq 12, 3), (41, .iload 5, 2), (43, .aload_n 2, 1), (44, .iload 4, 2), (46, .iaload, 1), (47, .if_icmp .eq 5, 3), (50, .iconst 0, 1), (51, .ireturn, 1), (52, .iinc 4 1, 3), (55, .goto (-39), 3), (58, .lload_n 0, 1), (59, .bipush 8, 2), (61, .iload_n 3, 1), (62, .imul, 1), (63, .lushr, 1)],
  [(64, .lconst 0, 1), (65, .lcmp, 1), (66, .ifCond .ne 7, 3), (69, .iconst 1, 1), (70, .goto 4, 3), (73, .iconst 0, 1), (74, .ireturn, 1)]]
/-- Treegrab$Tree.isRelated(III)Z -/
def zc_102 : List (List (Nat × Instr × Nat)) := [[(0, .iload_n 1, 1), (1, .bipush 16, 2), (3, .iand, 1), (4, .ifCond .eq 7, 3), (7, .iconst 1, 1), (8, .goto 4, 3), (11, .iconst 0, 1), (12, .istore 4, 2), (14, .iload 4, 2), (16, .ifCond .eq 7, 3), (19, .iload_n 3, 1), (20, .goto 4, 3), (23, .iload_n 2, 1), (24, .istore 5, 2), (26, .iload 4, 2), (28, .ifCond .eq 7, 3), (31, .iload_n 2, 1)],
  [(32, .goto 4, 3), (35, .iload_n 3, 1), (36, .istore 6, 2), (38, .iload_n 1, 1), (39, .iconst 5, 1), (40, .ishr, 1), (41, .istore 7, 2), (43, .aload_n 0, 1), (44, .getfield 19, 3), (47, .iload 6, 2), (49, .iaload, 1), (50, .iload 5, 2), (52, .if_icmp .ne 7, 3), (55, .iconst 1, 1), (56, .goto 4, 3), (59, .iconst 0, 1), (60, .istore 8, 2), (62, .iload 5, 2)],
  [(64, .iload 6, 2), (66, .if_icmp .eq 35, 3), (69, .aload_n 0, 1), (70, .getfield 19, 3), (73, .iload 5, 2), (75, .iaload, 1), (76, .iconst (-1), 1), (77, .if_icmp .eq 24, 3), (80, .aload_n 0, 1), (81, .getfield 19, 3), (84, .iload 5, 2), (86, .iaload, 1), (87, .aload_n 0, 1), (88, .getfield 19, 3), (91, .iload 6, 2), (93, .iaload, 1), (94, .if_icmp .ne 7, 3)],
  [(97, .iconst 1, 1), (98, .goto 4, 3), (101, .iconst 0, 1), (102, .istore 9, 2), (104, .iload_n 1, 1), (105, .bipush 15, 2), (107, .iand, 1), (108, .tableswitch 271 0 9 #[56, 59, 84, 106, 129, 162, 187, 210, 213, 243], 56)],
  [],
  [(164, .iload 8, 2), (166, .ireturn, 1), (167, .iload 6, 2), (169, .iload 5, 2), (171, .if_icmp .le 19, 3), (174, .iload 6, 2), (176, .aload_n 0, 1), (177, .getfield 22, 3), (180, .iload 5, 2), (182, .iaload, 1), (183, .if_icmp .ge 7, 3), (186, .iconst 1, 1), (187, .goto 4, 3), (190, .iconst 0, 1), (191, .ireturn, 1)],
  [(192, .iload 8, 2), (194, .ifCond .eq 18, 3), (197, .aload_n 0, 1), (198, .getfield 25, 3), (201, .iload 5, 2), (203, .iaload, 1), (204, .iconst 1, 1), (205, .if_icmp .ne 7, 3), (208, .iconst 1, 1), (209, .goto 4, 3), (212, .iconst 0, 1), (213, .ireturn, 1), (214, .iload 8, 2), (216, .ifCond .eq 19, 3), (219, .aload_n 0, 1), (220, .getfield 28, 3), (223, .iload 6, 2)],
  [(225, .iaload, 1), (226, .iload 7, 2), (228, .if_icmp .ne 7, 3), (231, .iconst 1, 1), (232, .goto 4, 3), (235, .iconst 0, 1), (236, .ireturn, 1), (237, .iload 8, 2), (239, .ifCond .eq 29, 3), (242, .aload_n 0, 1), (243, .getfield 25, 3), (246, .iload 5, 2), (248, .iaload, 1), (249, .aload_n 0, 1), (250, .getfield 28, 3), (253, .iload 6, 2), (255, .iaload, 1)],
  [(256, .isub, 1), (257, .iconst 1, 1), (258, .iadd, 1), (259, .iload 7, 2), (261, .if_icmp .ne 7, 3), (264, .iconst 1, 1), (265, .goto 4, 3), (268, .iconst 0, 1), (269, .ireturn, 1), (270, .aload_n 0, 1), (271, .getfield 34, 3), (274, .iload 5, 2), (276, .iaload, 1), (277, .iconst 1, 1), (278, .iadd, 1), (279, .aload_n 0, 1), (280, .getfield 31, 3), (283, .iload 6, 2), (285, .iaload, 1), (286, .if_icmp .ne 7, 3)],
  [(289, .iconst 1, 1), (290, .goto 4, 3), (293, .iconst 0, 1), (294, .ireturn, 1), (295, .aload_n 0, 1), (296, .getfield 34, 3), (299, .iload 5, 2), (301, .iaload, 1), (302, .aload_n 0, 1), (303, .getfield 31, 3), (306, .iload 6, 2), (308, .iaload, 1), (309, .if_icmp .ge 7, 3), (312, .iconst 1, 1), (313, .goto 4, 3), (316, .iconst 0, 1), (317, .ireturn, 1), (318, .iload 9, 2)],
  [(320, .ireturn, 1), (321, .iload 9, 2), (323, .ifCond .eq 26, 3), (326, .aload_n 0, 1), (327, .getfield 28, 3), (330, .iload 6, 2), (332, .iaload, 1), (333, .aload_n 0, 1), (334, .getfield 28, 3), (337, .iload 5, 2), (339, .iaload, 1), (340, .iconst 1, 1), (341, .iadd, 1), (342, .if_icmp .ne 7, 3), (345, .iconst 1, 1), (346, .goto 4, 3), (349, .iconst 0, 1), (350, .ireturn, 1), (351, .iload 9, 2)],
  [(353, .ifCond .eq 24, 3), (356, .aload_n 0, 1), (357, .getfield 28, 3), (360, .iload 6, 2), (362, .iaload, 1), (363, .aload_n 0, 1), (364, .getfield 28, 3), (367, .iload 5, 2), (369, .iaload, 1), (370, .if_icmp .le 7, 3), (373, .iconst 1, 1), (374, .goto 4, 3), (377, .iconst 0, 1), (378, .ireturn, 1), (379, .iconst 0, 1), (380, .ireturn, 1)]]
/-- Treegrab.<init>()V -/
def zc_103 : List (List (Nat × Instr × Nat)) := [[(0, .aload_n 0, 1), (1, .invokespecial 1, 3), (4, .aload_n 0, 1), (5, .new 7, 3), (8, .dup, 1), (9, .invokespecial 9, 3), (12, .putfield 10, 3), (15, .aload_n 0, 1), (16, .iconst 3, 1), (17, .anewarray 16, 3), (20, .dup, 1), (21, .iconst 0, 1), (22, .new 16, 3), (25, .dup, 1), (26, .invokespecial 18, 3), (29, .aastore, 1), (30, .dup, 1), (31, .iconst 1, 1)],
  [(32, .new 16, 3), (35, .dup, 1), (36, .invokespecial 18, 3), (39, .aastore, 1), (40, .dup, 1), (41, .iconst 2, 1), (42, .new 16, 3), (45, .dup, 1), (46, .invokespecial 18, 3), (49, .aastore, 1), (50, .putfield 19, 3), (53, .aload_n 0, 1), (54, .new 23, 3), (57, .dup, 1), (58, .invokespecial 25, 3), (61, .putfield 26, 3)],
  [(64, .aload_n 0, 1), (65, .new 30, 3), (68, .dup, 1), (69, .invokespecial 32, 3), (72, .putfield 33, 3), (75, .aload_n 0, 1), (76, .new 30, 3), (79, .dup, 1), (80, .invokespecial 32, 3), (83, .putfield 37, 3), (86, .aload_n 0, 1), (87, .new 40, 3), (90, .dup, 1), (91, .invokespecial 42, 3), (94, .putfield 43, 3)],
  [(97, .aload_n 0, 1), (98, .new 47, 3), (101, .dup, 1), (102, .invokespecial 49, 3), (105, .putfield 50, 3), (108, .aload_n 0, 1), (109, .new 54, 3), (112, .dup, 1), (113, .invokespecial 56, 3), (116, .putfield 57, 3), (119, .aload_n 0, 1), (120, .new 16, 3), (123, .dup, 1), (124, .invokespecial 18, 3), (127, .putfield 61, 3)],
  [(130, .aload_n 0, 1), (131, .new 65, 3), (134, .dup, 1), (135, .invokespecial 67, 3), (138, .putfield 68, 3), (141, .aload_n 0, 1), (142, .new 65, 3), (145, .dup, 1), (146, .invokespecial 67, 3), (149, .putfield 72, 3), (152, .aload_n 0, 1), (153, .new 75, 3), (156, .dup, 1), (157, .invokespecial 77, 3)],
  [(160, .putfield 78, 3), (163, .aload_n 0, 1), (164, .new 75, 3), (167, .dup, 1), (168, .invokespecial 77, 3), (171, .putfield 82, 3), (174, .aload_n 0, 1), (175, .iconst (-1), 1), (176, .putfield 85, 3), (179, .return_, 1)]]
/-- Treegrab.feed(JI)I -/
def zc_104 : List (List (Nat × Instr × Nat)) := [[(0, .iload_n 3, 1), (1, .iconst 1, 1), (2, .if_icmp .lt 9, 3), (5, .iload_n 3, 1), (6, .bipush 8, 2), (8, .if_icmp .le 13, 3), (11, .new 89, 3), (14, .dup, 1), (15, .ldc 91, 2), (17, .invokespecial 93, 3), (20, .athrow, 1), (21, .aload_n 0, 1), (22, .getfield 10, 3), (25, .getfield 96, 3), (28, .iload_n 3, 1), (29, .iadd, 1), (30, .sipush 600, 3)],
  [(33, .if_icmp .le 13, 3), (36, .new 99, 3), (39, .dup, 1), (40, .ldc 101, 2), (42, .invokespecial 103, 3), (45, .athrow, 1), (46, .aload_n 0, 1), (47, .getfield 10, 3), (50, .lload_n 1, 1), (51, .iload_n 3, 1), (52, .invokevirtual 104, 3), (55, .aload_n 0, 1), (56, .getfield 10, 3), (59, .getfield 96, 3), (62, .ireturn, 1)]]
/-- Treegrab.plant(I)I -/
def zc_105 : List (List (Nat × Instr × Nat)) := [[(0, .iload_n 1, 1), (1, .invokestatic 108, 3), (4, .ifCond .eq 20, 3), (7, .aload_n 0, 1), (8, .getfield 10, 3), (11, .invokevirtual 112, 3), (14, .new 115, 3), (17, .dup, 1), (18, .ldc 117, 2), (20, .invokespecial 119, 3), (23, .athrow, 1), (24, .aload_n 0, 1), (25, .getfield 61, 3), (28, .aload_n 0, 1), (29, .getfield 10, 3)],
  [(32, .invokevirtual 120, 3), (35, .istore_n 2, 1), (36, .aload_n 0, 1), (37, .invokevirtual 124, 3), (40, .iload_n 2, 1), (41, .ifCond .ne 13, 3), (44, .new 99, 3), (47, .dup, 1), (48, .ldc 127, 2), (50, .invokespecial 103, 3), (53, .athrow, 1), (54, .aload_n 0, 1), (55, .getfield 19, 3), (58, .iload_n 1, 1), (59, .aaload, 1), (60, .astore_n 3, 1), (61, .aload_n 0, 1), (62, .getfield 19, 3)],
  [(65, .iload_n 1, 1), (66, .aload_n 0, 1), (67, .getfield 61, 3), (70, .aastore, 1), (71, .aload_n 0, 1), (72, .aload_n 3, 1), (73, .putfield 61, 3), (76, .aload_n 0, 1), (77, .getfield 19, 3), (80, .iload_n 1, 1), (81, .aaload, 1), (82, .invokevirtual 129, 3), (85, .aload_n 0, 1), (86, .getfield 50, 3), (89, .iload_n 1, 1), (90, .invokevirtual 132, 3), (93, .aload_n 0, 1), (94, .invokevirtual 136, 3)],
  [(97, .aload_n 0, 1), (98, .getfield 19, 3), (101, .iload_n 1, 1), (102, .aaload, 1), (103, .getfield 139, 3), (106, .ireturn, 1)]]
/-- Treegrab.pattern()I -/
def zc_106 : List (List (Nat × Instr × Nat)) := [[(0, .aload_n 0, 1), (1, .getfield 72, 3), (4, .aload_n 0, 1), (5, .getfield 10, 3), (8, .invokevirtual 142, 3), (11, .istore_n 1, 1), (12, .aload_n 0, 1), (13, .invokevirtual 124, 3), (16, .iload_n 1, 1), (17, .ifCond .ne 13, 3), (20, .new 99, 3), (23, .dup, 1), (24, .ldc 143, 2), (26, .invokespecial 103, 3), (29, .athrow, 1), (30, .aload_n 0, 1), (31, .getfield 68, 3)],
  [(34, .astore_n 2, 1), (35, .aload_n 0, 1), (36, .aload_n 0, 1), (37, .getfield 72, 3), (40, .putfield 68, 3), (43, .aload_n 0, 1), (44, .aload_n 2, 1), (45, .putfield 72, 3), (48, .aload_n 0, 1), (49, .invokevirtual 136, 3), (52, .aload_n 0, 1), (53, .getfield 68, 3), (56, .getfield 145, 3), (59, .ireturn, 1)]]
/-- Treegrab.script()I -/
def zc_107 : List (List (Nat × Instr × Nat)) := [[(0, .aload_n 0, 1), (1, .getfield 82, 3), (4, .aload_n 0, 1), (5, .getfield 10, 3), (8, .invokevirtual 148, 3), (11, .istore_n 1, 1), (12, .aload_n 0, 1), (13, .invokevirtual 124, 3), (16, .iload_n 1, 1), (17, .ifCond .ne 13, 3), (20, .new 99, 3), (23, .dup, 1), (24, .ldc 149, 2), (26, .invokespecial 103, 3), (29, .athrow, 1), (30, .aload_n 0, 1), (31, .getfield 78, 3)],
  [(34, .astore_n 2, 1), (35, .aload_n 0, 1), (36, .aload_n 0, 1), (37, .getfield 82, 3), (40, .putfield 78, 3), (43, .aload_n 0, 1), (44, .aload_n 2, 1), (45, .putfield 82, 3), (48, .aload_n 0, 1), (49, .getfield 78, 3), (52, .getfield 151, 3), (55, .ireturn, 1)]]
/-- Treegrab.fault(Z)I -/
def zc_108 : List (List (Nat × Instr × Nat)) := [[(0, .iload_n 1, 1), (1, .ifCond .eq 10, 3), (4, .aload_n 0, 1), (5, .getfield 152, 3), (8, .goto 7, 3), (11, .aload_n 0, 1), (12, .getfield 155, 3), (15, .ireturn, 1)]]
/-- Treegrab.nodes(I)I -/
def zc_109 : List (List (Nat × Instr × Nat)) := [[(0, .iload_n 1, 1), (1, .invokestatic 158, 3), (4, .aload_n 0, 1), (5, .getfield 19, 3), (8, .iload_n 1, 1), (9, .aaload, 1), (10, .getfield 139, 3), (13, .ireturn, 1)]]
/-- Treegrab.parent(II)I -/
def zc_110 : List (List (Nat × Instr × Nat)) := [[(0, .aload_n 0, 1), (1, .iload_n 1, 1), (2, .iload_n 2, 1), (3, .invokevirtual 161, 3), (6, .aload_n 0, 1), (7, .getfield 19, 3), (10, .iload_n 1, 1), (11, .aaload, 1), (12, .getfield 165, 3), (15, .iload_n 2, 1), (16, .iaload, 1), (17, .ireturn, 1)]]
/-- Treegrab.children(II)I -/
def zc_111 : List (List (Nat × Instr × Nat)) := [[(0, .aload_n 0, 1), (1, .iload_n 1, 1), (2, .iload_n 2, 1), (3, .invokevirtual 161, 3), (6, .aload_n 0, 1), (7, .getfield 19, 3), (10, .iload_n 1, 1), (11, .aaload, 1), (12, .getfield 169, 3), (15, .iload_n 2, 1), (16, .iaload, 1), (17, .ireturn, 1)]]
/-- Treegrab.wordOf(IIZ)I -/
def zc_112 : List (List (Nat × Instr × Nat)) := [[(0, .aload_n 0, 1), (1, .iload_n 1, 1), (2, .iload_n 2, 1), (3, .invokevirtual 161, 3), (6, .iload_n 3, 1), (7, .ifCond .eq 17, 3), (10, .aload_n 0, 1), (11, .getfield 19, 3), (14, .iload_n 1, 1), (15, .aaload, 1), (16, .getfield 172, 3), (19, .iload_n 2, 1), (20, .iaload, 1), (21, .goto 14, 3), (24, .aload_n 0, 1), (25, .getfield 19, 3), (28, .iload_n 1, 1), (29, .aaload, 1), (30, .getfield 175, 3)],
  [(33, .iload_n 2, 1), (34, .iaload, 1), (35, .ireturn, 1)]]
/-- Treegrab.withLabel(I)I -/
def zc_113 : List (List (Nat × Instr × Nat)) := [[(0, .aload_n 0, 1), (1, .getfield 10, 3), (4, .invokevirtual 178, 3), (7, .lstore_n 2, 1), (8, .aload_n 0, 1), (9, .getfield 10, 3), (12, .invokevirtual 112, 3), (15, .iload_n 1, 1), (16, .invokestatic 158, 3), (19, .lload_n 2, 1), (20, .lconst 0, 1), (21, .lcmp, 1), (22, .ifCond .ne 7, 3), (25, .iconst 0, 1), (26, .goto 13, 3), (29, .aload_n 0, 1), (30, .getfield 19, 3)],
  [(33, .iload_n 1, 1), (34, .aaload, 1), (35, .lload_n 2, 1), (36, .invokevirtual 182, 3), (39, .ireturn, 1)]]
/-- Treegrab.withLabelByWalk(I)I -/
def zc_114 : List (List (Nat × Instr × Nat)) := [[(0, .aload_n 0, 1), (1, .getfield 10, 3), (4, .getfield 96, 3), (7, .istore_n 2, 1), (8, .aload_n 0, 1), (9, .getfield 10, 3), (12, .invokevirtual 112, 3), (15, .iload_n 1, 1), (16, .invokestatic 158, 3), (19, .aload_n 0, 1), (20, .getfield 19, 3), (23, .iload_n 1, 1), (24, .aaload, 1), (25, .aload_n 0, 1), (26, .getfield 10, 3), (29, .getfield 186, 3)],
  [(32, .iload_n 2, 1), (33, .invokevirtual 189, 3), (36, .ireturn, 1)]]
/-- Treegrab.matches(I)I -/
def zc_115 : List (List (Nat × Instr × Nat)) := [[(0, .iload_n 1, 1), (1, .invokestatic 158, 3), (4, .aload_n 0, 1), (5, .iload_n 1, 1), (6, .invokevirtual 193, 3), (9, .aload_n 0, 1), (10, .getfield 33, 3), (13, .getfield 196, 3), (16, .ireturn, 1)]]
/-- Treegrab.matchesByTrying(I)I -/
def zc_116 : List (List (Nat × Instr × Nat)) := [[(0, .iload_n 1, 1), (1, .invokestatic 158, 3), (4, .aload_n 0, 1), (5, .iload_n 1, 1), (6, .invokevirtual 197, 3), (9, .aload_n 0, 1), (10, .getfield 37, 3), (13, .getfield 196, 3), (16, .ireturn, 1)]]
/-- Treegrab.matchAt(III)I -/
def zc_117 : List (List (Nat × Instr × Nat)) := [[(0, .iload_n 1, 1), (1, .invokestatic 158, 3), (4, .aload_n 0, 1), (5, .iload_n 1, 1), (6, .invokevirtual 193, 3), (9, .aload_n 0, 1), (10, .aload_n 0, 1), (11, .getfield 33, 3), (14, .iload_n 2, 1), (15, .iload_n 3, 1), (16, .invokevirtual 200, 3), (19, .aload_n 0, 1), (20, .getfield 33, 3), (23, .iload_n 2, 1), (24, .iload_n 3, 1), (25, .invokevirtual 204, 3), (28, .ireturn, 1)]]
/-- Treegrab.matchAtByTrying(III)I -/
def zc_118 : List (List (Nat × Instr × Nat)) := [[(0, .iload_n 1, 1), (1, .invokestatic 158, 3), (4, .aload_n 0, 1), (5, .iload_n 1, 1), (6, .invokevirtual 197, 3), (9, .aload_n 0, 1), (10, .aload_n 0, 1), (11, .getfield 37, 3), (14, .iload_n 2, 1), (15, .iload_n 3, 1), (16, .invokevirtual 200, 3), (19, .aload_n 0, 1), (20, .getfield 37, 3), (23, .iload_n 2, 1), (24, .iload_n 3, 1), (25, .invokevirtual 204, 3), (28, .ireturn, 1)]]
/-- Treegrab.planAt(II)I -/
def zc_119 : List (List (Nat × Instr × Nat)) := [[(0, .iload_n 1, 1), (1, .invokestatic 158, 3), (4, .aload_n 0, 1), (5, .iload_n 1, 1), (6, .invokevirtual 208, 3), (9, .ifCond .eq 13, 3), (12, .new 115, 3), (15, .dup, 1), (16, .ldc 211, 2), (18, .invokespecial 119, 3), (21, .athrow, 1), (22, .aload_n 0, 1), (23, .iload_n 1, 1), (24, .invokevirtual 213, 3), (27, .iload_n 2, 1), (28, .ifCond .lt 14, 3), (31, .iload_n 2, 1)],
  [(32, .aload_n 0, 1), (33, .getfield 26, 3), (36, .getfield 216, 3), (39, .if_icmp .lt 13, 3), (42, .new 115, 3), (45, .dup, 1), (46, .ldc 219, 2), (48, .invokespecial 119, 3), (51, .athrow, 1), (52, .aload_n 0, 1), (53, .getfield 26, 3), (56, .getfield 221, 3), (59, .iload_n 2, 1), (60, .iaload, 1), (61, .ireturn, 1)]]
/-- Treegrab.edit(I)I -/
def zc_120 : List (List (Nat × Instr × Nat)) := [[(0, .iload_n 1, 1), (1, .invokestatic 158, 3), (4, .aload_n 0, 1), (5, .iload_n 1, 1), (6, .invokevirtual 193, 3), (9, .aload_n 0, 1), (10, .getfield 33, 3), (13, .getfield 196, 3), (16, .ifCond .ne 5, 3), (19, .iconst 0, 1), (20, .ireturn, 1), (21, .aload_n 0, 1), (22, .getfield 43, 3), (25, .aload_n 0, 1), (26, .getfield 19, 3), (29, .iload_n 1, 1), (30, .aaload, 1), (31, .invokevirtual 224, 3)],
  [(34, .iconst 0, 1), (35, .istore_n 2, 1), (36, .iload_n 2, 1), (37, .aload_n 0, 1), (38, .getfield 78, 3), (41, .getfield 151, 3), (44, .if_icmp .ge 111, 3), (47, .aload_n 0, 1), (48, .aload_n 0, 1), (49, .getfield 78, 3), (52, .getfield 228, 3), (55, .iload_n 2, 1), (56, .iaload, 1), (57, .invokevirtual 231, 3), (60, .istore_n 3, 1), (61, .aload_n 0, 1), (62, .aload_n 0, 1), (63, .getfield 78, 3)],
  [(66, .getfield 235, 3), (69, .iload_n 2, 1), (70, .iaload, 1), (71, .invokevirtual 231, 3), (74, .istore 4, 2), (76, .iload_n 3, 1), (77, .iconst (-1), 1), (78, .if_icmp .ne 14, 3), (81, .aload_n 0, 1), (82, .getfield 78, 3), (85, .iload_n 2, 1), (86, .invokevirtual 238, 3), (89, .ifCond .ne 24, 3), (92, .iload 4, 2), (94, .iconst (-1), 1), (95, .if_icmp .ne 14, 3)],
  [(98, .aload_n 0, 1), (99, .getfield 78, 3), (102, .iload_n 2, 1), (103, .invokevirtual 241, 3), (106, .ifCond .ne 7, 3), (109, .iconst 1, 1), (110, .goto 4, 3), (113, .iconst 0, 1), (114, .istore 5, 2), (116, .iload 5, 2), (118, .ifCond .eq 31, 3), (121, .aload_n 0, 1), (122, .getfield 43, 3), (125, .aload_n 0, 1), (126, .getfield 78, 3)],
  [(129, .iload_n 2, 1), (130, .iload_n 3, 1), (131, .iload 4, 2), (133, .invokevirtual 244, 3), (136, .ifCond .ne 13, 3), (139, .new 99, 3), (142, .dup, 1), (143, .ldc 248, 2), (145, .invokespecial 103, 3), (148, .athrow, 1), (149, .iinc 2 1, 3), (152, .goto (-116), 3), (155, .aload_n 0, 1), (156, .getfield 43, 3), (159, .getfield 250, 3)],
  [(162, .ifCond .le 34, 3), (165, .aload_n 0, 1), (166, .getfield 50, 3), (169, .iload_n 1, 1), (170, .aload_n 0, 1), (171, .getfield 19, 3), (174, .iload_n 1, 1), (175, .aaload, 1), (176, .invokevirtual 253, 3), (179, .aload_n 0, 1), (180, .getfield 43, 3), (183, .aload_n 0, 1), (184, .getfield 19, 3), (187, .iload_n 1, 1), (188, .aaload, 1), (189, .invokevirtual 257, 3)],
  [(192, .aload_n 0, 1), (193, .invokevirtual 136, 3), (196, .aload_n 0, 1), (197, .getfield 43, 3), (200, .getfield 250, 3), (203, .ireturn, 1)]]
/-- Treegrab.undo(I)I -/
def zc_121 : List (List (Nat × Instr × Nat)) := [[(0, .iload_n 1, 1), (1, .invokestatic 158, 3), (4, .aload_n 0, 1), (5, .getfield 50, 3), (8, .iload_n 1, 1), (9, .aload_n 0, 1), (10, .getfield 19, 3), (13, .iload_n 1, 1), (14, .aaload, 1), (15, .invokevirtual 260, 3), (18, .ifCond .ne 14, 3), (21, .new 99, 3), (24, .dup, 1), (25, .ldc_w 264, 3), (28, .invokespecial 103, 3), (31, .athrow, 1)],
  [(32, .aload_n 0, 1), (33, .invokevirtual 136, 3), (36, .aload_n 0, 1), (37, .getfield 19, 3), (40, .iload_n 1, 1), (41, .aaload, 1), (42, .getfield 139, 3), (45, .ireturn, 1)]]
/-- Treegrab.show(I)I -/
def zc_122 : List (List (Nat × Instr × Nat)) := [[(0, .iload_n 1, 1), (1, .invokestatic 158, 3), (4, .aload_n 0, 1), (5, .getfield 57, 3), (8, .aload_n 0, 1), (9, .getfield 19, 3), (12, .iload_n 1, 1), (13, .aaload, 1), (14, .invokevirtual 266, 3), (17, .aload_n 0, 1), (18, .getfield 57, 3), (21, .getfield 269, 3), (24, .ireturn, 1)]]
/-- Treegrab.label(II)I -/
def zc_123 : List (List (Nat × Instr × Nat)) := [[(0, .aload_n 0, 1), (1, .iload_n 1, 1), (2, .iload_n 2, 1), (3, .invokevirtual 161, 3), (6, .aload_n 0, 1), (7, .getfield 57, 3), (10, .iconst 0, 1), (11, .putfield 269, 3), (14, .aload_n 0, 1), (15, .getfield 57, 3), (18, .aload_n 0, 1), (19, .getfield 19, 3), (22, .iload_n 1, 1), (23, .aaload, 1), (24, .getfield 270, 3), (27, .iload_n 2, 1), (28, .laload, 1), (29, .invokevirtual 274, 3)],
  [(32, .aload_n 0, 1), (33, .getfield 57, 3), (36, .getfield 269, 3), (39, .ireturn, 1)]]
/-- Treegrab.word(I)J -/
def zc_124 : List (List (Nat × Instr × Nat)) := [[(0, .aload_n 0, 1), (1, .getfield 57, 3), (4, .iload_n 1, 1), (5, .invokevirtual 278, 3), (8, .lreturn, 1)]]
/-- Treegrab.isNoPlace(I)Z -/
def zc_125 : List (List (Nat × Instr × Nat)) := [[(0, .iload_n 0, 1), (1, .ifCond .lt 8, 3), (4, .iload_n 0, 1), (5, .iconst 3, 1), (6, .if_icmp .lt 7, 3), (9, .iconst 1, 1), (10, .goto 4, 3), (13, .iconst 0, 1), (14, .ireturn, 1)]]
/-- Treegrab.requirePlace(I)V -/
def zc_126 : List (List (Nat × Instr × Nat)) := [[(0, .iload_n 0, 1), (1, .invokestatic 108, 3), (4, .ifCond .eq 13, 3), (7, .new 115, 3), (10, .dup, 1), (11, .ldc 117, 2), (13, .invokespecial 119, 3), (16, .athrow, 1), (17, .return_, 1)]]
/-- Treegrab.requireNode(II)V -/
def zc_127 : List (List (Nat × Instr × Nat)) := [[(0, .iload_n 1, 1), (1, .invokestatic 158, 3), (4, .iload_n 2, 1), (5, .ifCond .lt 16, 3), (8, .iload_n 2, 1), (9, .aload_n 0, 1), (10, .getfield 19, 3), (13, .iload_n 1, 1), (14, .aaload, 1), (15, .getfield 139, 3), (18, .if_icmp .lt 14, 3), (21, .new 115, 3), (24, .dup, 1), (25, .ldc_w 282, 3), (28, .invokespecial 119, 3), (31, .athrow, 1)],
  [(32, .return_, 1)]]
/-- Treegrab.requireMatch(LTreegrab$Found;II)V -/
def zc_128 : List (List (Nat × Instr × Nat)) := [[(0, .iload_n 2, 1), (1, .ifCond .lt 11, 3), (4, .iload_n 2, 1), (5, .aload_n 1, 1), (6, .getfield 196, 3), (9, .if_icmp .lt 14, 3), (12, .new 115, 3), (15, .dup, 1), (16, .ldc_w 284, 3), (19, .invokespecial 119, 3), (22, .athrow, 1), (23, .iload_n 3, 1), (24, .ifCond .lt 14, 3), (27, .iload_n 3, 1), (28, .aload_n 0, 1), (29, .getfield 68, 3)],
  [(32, .getfield 145, 3), (35, .if_icmp .lt 14, 3), (38, .new 115, 3), (41, .dup, 1), (42, .ldc_w 286, 3), (45, .invokespecial 119, 3), (48, .athrow, 1), (49, .return_, 1)]]
/-- Treegrab.takeFault()V -/
def zc_129 : List (List (Nat × Instr × Nat)) := [[(0, .aload_n 0, 1), (1, .aload_n 0, 1), (2, .getfield 10, 3), (5, .getfield 288, 3), (8, .putfield 155, 3), (11, .aload_n 0, 1), (12, .aload_n 0, 1), (13, .getfield 10, 3), (16, .getfield 291, 3), (19, .putfield 152, 3), (22, .aload_n 0, 1), (23, .getfield 10, 3), (26, .invokevirtual 112, 3), (29, .return_, 1)]]
/-- Treegrab.isUnsearchable(I)Z -/
def zc_130 : List (List (Nat × Instr × Nat)) := [[(0, .aload_n 0, 1), (1, .getfield 19, 3), (4, .iload_n 1, 1), (5, .aaload, 1), (6, .getfield 139, 3), (9, .ifCond .eq 13, 3), (12, .aload_n 0, 1), (13, .getfield 68, 3), (16, .getfield 294, 3), (19, .ifCond .ne 7, 3), (22, .iconst 1, 1), (23, .goto 4, 3), (26, .iconst 0, 1), (27, .ireturn, 1)]]
/-- Treegrab.prepareSearch(I)V -/
def zc_131 : List (List (Nat × Instr × Nat)) := [[(0, .aload_n 0, 1), (1, .getfield 85, 3), (4, .iload_n 1, 1), (5, .if_icmp .eq 25, 3), (8, .aload_n 0, 1), (9, .getfield 26, 3), (12, .aload_n 0, 1), (13, .getfield 19, 3), (16, .iload_n 1, 1), (17, .aaload, 1), (18, .aload_n 0, 1), (19, .getfield 68, 3), (22, .invokevirtual 295, 3), (25, .aload_n 0, 1), (26, .iload_n 1, 1), (27, .putfield 85, 3), (30, .return_, 1)]]
/-- Treegrab.forgetMatches()V -/
def zc_132 : List (List (Nat × Instr × Nat)) := [[(0, .aload_n 0, 1), (1, .iconst (-1), 1), (2, .putfield 85, 3), (5, .aload_n 0, 1), (6, .getfield 33, 3), (9, .iconst (-1), 1), (10, .putfield 299, 3), (13, .aload_n 0, 1), (14, .getfield 37, 3), (17, .iconst (-1), 1), (18, .putfield 299, 3), (21, .return_, 1)]]
/-- Treegrab.findPlanned(I)V -/
def zc_133 : List (List (Nat × Instr × Nat)) := [[(0, .aload_n 0, 1), (1, .getfield 33, 3), (4, .getfield 299, 3), (7, .iload_n 1, 1), (8, .if_icmp .ne 4, 3), (11, .return_, 1), (12, .aload_n 0, 1), (13, .getfield 33, 3), (16, .iload_n 1, 1), (17, .aload_n 0, 1), (18, .getfield 19, 3), (21, .iload_n 1, 1), (22, .aaload, 1), (23, .getfield 139, 3), (26, .aload_n 0, 1), (27, .getfield 68, 3), (30, .getfield 145, 3)],
  [(33, .invokevirtual 302, 3), (36, .aload_n 0, 1), (37, .iload_n 1, 1), (38, .invokevirtual 208, 3), (41, .ifCond .ne 19, 3), (44, .aload_n 0, 1), (45, .iload_n 1, 1), (46, .invokevirtual 213, 3), (49, .aload_n 0, 1), (50, .getfield 26, 3), (53, .aload_n 0, 1), (54, .getfield 33, 3), (57, .invokevirtual 305, 3), (60, .return_, 1)]]
/-- Treegrab.findByTrying(I)V -/
def zc_134 : List (List (Nat × Instr × Nat)) := [[(0, .aload_n 0, 1), (1, .getfield 37, 3), (4, .getfield 299, 3), (7, .iload_n 1, 1), (8, .if_icmp .ne 4, 3), (11, .return_, 1), (12, .aload_n 0, 1), (13, .getfield 37, 3), (16, .iload_n 1, 1), (17, .aload_n 0, 1), (18, .getfield 19, 3), (21, .iload_n 1, 1), (22, .aaload, 1), (23, .getfield 139, 3), (26, .aload_n 0, 1), (27, .getfield 68, 3), (30, .getfield 145, 3)],
  [(33, .invokevirtual 302, 3), (36, .aload_n 0, 1), (37, .iload_n 1, 1), (38, .invokevirtual 208, 3), (41, .ifCond .ne 19, 3), (44, .aload_n 0, 1), (45, .iload_n 1, 1), (46, .invokevirtual 213, 3), (49, .aload_n 0, 1), (50, .getfield 26, 3), (53, .aload_n 0, 1), (54, .getfield 37, 3), (57, .invokevirtual 309, 3), (60, .return_, 1)]]
/-- Treegrab.nodeNamed(I)I -/
def zc_135 : List (List (Nat × Instr × Nat)) := [[(0, .iload_n 1, 1), (1, .ifCond .lt 9, 3), (4, .iload_n 1, 1), (5, .bipush 26, 2), (7, .if_icmp .lt 5, 3), (10, .iconst (-1), 1), (11, .ireturn, 1), (12, .aload_n 0, 1), (13, .getfield 68, 3), (16, .getfield 312, 3), (19, .iload_n 1, 1), (20, .iaload, 1), (21, .istore_n 2, 1), (22, .iload_n 2, 1), (23, .iconst (-1), 1), (24, .if_icmp .ne 7, 3), (27, .iconst (-1), 1), (28, .goto 12, 3), (31, .aload_n 0, 1)],
  [(32, .getfield 68, 3), (35, .getfield 315, 3), (38, .iload_n 2, 1), (39, .iaload, 1), (40, .istore_n 3, 1), (41, .iload_n 3, 1), (42, .iconst (-1), 1), (43, .if_icmp .ne 7, 3), (46, .iconst (-1), 1), (47, .goto 12, 3), (50, .aload_n 0, 1), (51, .getfield 33, 3), (54, .iconst 0, 1), (55, .iload_n 3, 1), (56, .invokevirtual 204, 3), (59, .ireturn, 1)]]
/-- Treegrab.isLetter(I)Z -/
def zc_136 : List (List (Nat × Instr × Nat)) := [[(0, .iload_n 0, 1), (1, .bipush 97, 2), (3, .if_icmp .lt 9, 3), (6, .iload_n 0, 1), (7, .bipush 122, 2), (9, .if_icmp .le 15, 3), (12, .iload_n 0, 1), (13, .bipush 65, 2), (15, .if_icmp .lt 13, 3), (18, .iload_n 0, 1), (19, .bipush 90, 2), (21, .if_icmp .gt 7, 3), (24, .iconst 1, 1), (25, .goto 4, 3), (28, .iconst 0, 1), (29, .ireturn, 1)]]
/-- Treegrab.isSmallLetter(I)Z -/
def zc_137 : List (List (Nat × Instr × Nat)) := [[(0, .iload_n 0, 1), (1, .bipush 97, 2), (3, .if_icmp .lt 13, 3), (6, .iload_n 0, 1), (7, .bipush 122, 2), (9, .if_icmp .gt 7, 3), (12, .iconst 1, 1), (13, .goto 4, 3), (16, .iconst 0, 1), (17, .ireturn, 1)]]
/-- Treegrab.isDigit(I)Z -/
def zc_138 : List (List (Nat × Instr × Nat)) := [[(0, .iload_n 0, 1), (1, .bipush 48, 2), (3, .if_icmp .lt 13, 3), (6, .iload_n 0, 1), (7, .bipush 57, 2), (9, .if_icmp .gt 7, 3), (12, .iconst 1, 1), (13, .goto 4, 3), (16, .iconst 0, 1), (17, .ireturn, 1)]]
/-- TreegrabModel.<init>()V -/
def zc_139 : List (List (Nat × Instr × Nat)) := [[(0, .aload_n 0, 1), (1, .invokespecial 1, 3), (4, .aload_n 0, 1), (5, .sipush 600, 3), (8, .newarray .int, 2), (10, .putfield 7, 3), (13, .aload_n 0, 1), (14, .iconst 3, 1), (15, .newarray .int, 2), (17, .putfield 13, 3), (20, .aload_n 0, 1), (21, .bipush 60, 2), (23, .newarray .long, 2), (25, .putfield 16, 3), (28, .aload_n 0, 1), (29, .bipush 60, 2), (31, .newarray .int, 2)],
  [(33, .putfield 20, 3), (36, .aload_n 0, 1), (37, .bipush 20, 2), (39, .newarray .long, 2), (41, .putfield 23, 3), (44, .aload_n 0, 1), (45, .bipush 20, 2), (47, .newarray .int, 2), (49, .putfield 26, 3), (52, .aload_n 0, 1), (53, .sipush 513, 3), (56, .newarray .int, 2), (58, .putfield 29, 3), (61, .aload_n 0, 1), (62, .sipush 513, 3)],
  [(65, .newarray .int, 2), (67, .putfield 32, 3), (70, .aload_n 0, 1), (71, .sipush 10260, 3), (74, .newarray .long, 2), (76, .putfield 35, 3), (79, .aload_n 0, 1), (80, .bipush 8, 2), (82, .newarray .int, 2), (84, .putfield 38, 3), (87, .aload_n 0, 1), (88, .bipush 8, 2), (90, .newarray .int, 2), (92, .putfield 41, 3), (95, .aload_n 0, 1)],
  [(96, .bipush 8, 2), (98, .newarray .int, 2), (100, .putfield 44, 3), (103, .aload_n 0, 1), (104, .bipush 8, 2), (106, .newarray .int, 2), (108, .putfield 47, 3), (111, .aload_n 0, 1), (112, .bipush 8, 2), (114, .newarray .int, 2), (116, .putfield 50, 3), (119, .aload_n 0, 1), (120, .bipush 8, 2), (122, .newarray .int, 2), (124, .putfield 53, 3), (127, .aload_n 0, 1)],
  [(128, .bipush 8, 2), (130, .newarray .int, 2), (132, .putfield 56, 3), (135, .aload_n 0, 1), (136, .bipush 8, 2), (138, .newarray .boolean, 2), (140, .putfield 59, 3), (143, .aload_n 0, 1), (144, .bipush 8, 2), (146, .newarray .int, 2), (148, .putfield 63, 3), (151, .aload_n 0, 1), (152, .bipush 8, 2), (154, .newarray .int, 2), (156, .putfield 66, 3), (159, .aload_n 0, 1)],
  [(160, .bipush 8, 2), (162, .newarray .int, 2), (164, .putfield 69, 3), (167, .aload_n 0, 1), (168, .bipush 8, 2), (170, .newarray .int, 2), (172, .putfield 72, 3), (175, .aload_n 0, 1), (176, .sipush 300, 3), (179, .newarray .long, 2), (181, .putfield 75, 3), (184, .aload_n 0, 1), (185, .iconst 4, 1), (186, .newarray .int, 2), (188, .putfield 78, 3), (191, .aload_n 0, 1)],
  [(192, .bipush 8, 2), (194, .newarray .int, 2), (196, .putfield 81, 3), (199, .aload_n 0, 1), (200, .bipush 8, 2), (202, .newarray .int, 2), (204, .putfield 84, 3), (207, .aload_n 0, 1), (208, .bipush 8, 2), (210, .newarray .int, 2), (212, .putfield 87, 3), (215, .aload_n 0, 1), (216, .bipush 8, 2), (218, .newarray .int, 2), (220, .putfield 90, 3), (223, .aload_n 0, 1)],
  [(224, .bipush 8, 2), (226, .newarray .int, 2), (228, .putfield 93, 3), (231, .aload_n 0, 1), (232, .bipush 8, 2), (234, .newarray .int, 2), (236, .putfield 96, 3), (239, .aload_n 0, 1), (240, .bipush 8, 2), (242, .newarray .int, 2), (244, .putfield 99, 3), (247, .aload_n 0, 1), (248, .bipush 8, 2), (250, .newarray .boolean, 2), (252, .putfield 102, 3), (255, .aload_n 0, 1)],
  [(256, .bipush 8, 2), (258, .newarray .int, 2), (260, .putfield 105, 3), (263, .aload_n 0, 1), (264, .bipush 8, 2), (266, .newarray .int, 2), (268, .putfield 108, 3), (271, .aload_n 0, 1), (272, .bipush 8, 2), (274, .newarray .int, 2), (276, .putfield 111, 3), (279, .aload_n 0, 1), (280, .bipush 8, 2), (282, .newarray .int, 2), (284, .putfield 114, 3), (287, .aload_n 0, 1)],
  [(288, .sipush 300, 3), (291, .newarray .long, 2), (293, .putfield 117, 3), (296, .aload_n 0, 1), (297, .sipush 600, 3), (300, .newarray .int, 2), (302, .putfield 120, 3), (305, .aload_n 0, 1), (306, .bipush 8, 2), (308, .newarray .long, 2), (310, .putfield 123, 3), (313, .aload_n 0, 1), (314, .bipush 8, 2), (316, .newarray .int, 2), (318, .putfield 126, 3)],
  [(321, .aload_n 0, 1), (322, .bipush 8, 2), (324, .newarray .int, 2), (326, .putfield 129, 3), (329, .aload_n 0, 1), (330, .bipush 8, 2), (332, .newarray .long, 2), (334, .putfield 132, 3), (337, .aload_n 0, 1), (338, .bipush 8, 2), (340, .newarray .long, 2), (342, .putfield 135, 3), (345, .aload_n 0, 1), (346, .bipush 8, 2), (348, .newarray .long, 2), (350, .putfield 138, 3)],
  [(353, .aload_n 0, 1), (354, .bipush 8, 2), (356, .newarray .int, 2), (358, .putfield 141, 3), (361, .aload_n 0, 1), (362, .bipush 8, 2), (364, .newarray .int, 2), (366, .putfield 144, 3), (369, .aload_n 0, 1), (370, .bipush 8, 2), (372, .newarray .long, 2), (374, .putfield 147, 3), (377, .aload_n 0, 1), (378, .bipush 8, 2), (380, .newarray .long, 2), (382, .putfield 150, 3)],
  [(385, .aload_n 0, 1), (386, .iconst (-1), 1), (387, .putfield 153, 3), (390, .aload_n 0, 1), (391, .bipush 20, 2), (393, .newarray .int, 2), (395, .putfield 157, 3), (398, .aload_n 0, 1), (399, .bipush 20, 2), (401, .newarray .int, 2), (403, .putfield 160, 3), (406, .aload_n 0, 1), (407, .bipush 20, 2), (409, .newarray .int, 2), (411, .putfield 163, 3), (414, .aload_n 0, 1), (415, .bipush 20, 2)],
  [(417, .newarray .int, 2), (419, .putfield 166, 3), (422, .aload_n 0, 1), (423, .bipush 8, 2), (425, .newarray .int, 2), (427, .putfield 169, 3), (430, .aload_n 0, 1), (431, .sipush 160, 3), (434, .newarray .boolean, 2), (436, .putfield 172, 3), (439, .aload_n 0, 1), (440, .iconst 4, 1), (441, .newarray .int, 2), (443, .putfield 175, 3), (446, .aload_n 0, 1), (447, .sipush 4096, 3)],
  [(450, .newarray .int, 2), (452, .putfield 178, 3), (455, .aload_n 0, 1), (456, .iconst 4, 1), (457, .newarray .int, 2), (459, .putfield 181, 3), (462, .aload_n 0, 1), (463, .bipush 24, 2), (465, .newarray .int, 2), (467, .putfield 184, 3), (470, .aload_n 0, 1), (471, .bipush 24, 2), (473, .newarray .int, 2), (475, .putfield 187, 3), (478, .aload_n 0, 1), (479, .bipush 24, 2)],
  [(481, .newarray .long, 2), (483, .putfield 190, 3), (486, .aload_n 0, 1), (487, .bipush 24, 2), (489, .newarray .int, 2), (491, .putfield 193, 3), (494, .aload_n 0, 1), (495, .bipush 24, 2), (497, .newarray .int, 2), (499, .putfield 196, 3), (502, .aload_n 0, 1), (503, .bipush 24, 2), (505, .newarray .long, 2), (507, .putfield 199, 3), (510, .aload_n 0, 1), (511, .sipush 512, 3)],
  [(514, .newarray .int, 2), (516, .putfield 202, 3), (519, .return_, 1)]]
/-- TreegrabModel.thrown()I -/
def zc_140 : List (List (Nat × Instr × Nat)) := [[(0, .aload_n 0, 1), (1, .getfield 205, 3), (4, .ireturn, 1)]]
/-- TreegrabModel.goes(I)Z -/
def zc_141 : List (List (Nat × Instr × Nat)) := [[(0, .aload_n 0, 1), (1, .iload_n 1, 1), (2, .putfield 205, 3), (5, .iload_n 1, 1), (6, .ifCond .ne 7, 3), (9, .iconst 1, 1), (10, .goto 4, 3), (13, .iconst 0, 1), (14, .ireturn, 1)]]
/-- TreegrabModel.isIn(III)Z -/
def zc_142 : List (List (Nat × Instr × Nat)) := [[(0, .iload_n 0, 1), (1, .iload_n 1, 1), (2, .if_icmp .lt 12, 3), (5, .iload_n 0, 1), (6, .iload_n 2, 1), (7, .if_icmp .gt 7, 3), (10, .iconst 1, 1), (11, .goto 4, 3), (14, .iconst 0, 1), (15, .ireturn, 1)]]
/-- TreegrabModel.isPlace(I)Z -/
def zc_143 : List (List (Nat × Instr × Nat)) := [[(0, .iload_n 0, 1), (1, .iconst 0, 1), (2, .iconst 2, 1), (3, .invokestatic 208, 3), (6, .ireturn, 1)]]
/-- TreegrabModel.code()I -/
def zc_144 : List (List (Nat × Instr × Nat)) := [[(0, .aload_n 0, 1), (1, .getfield 212, 3), (4, .aload_n 0, 1), (5, .getfield 215, 3), (8, .if_icmp .ge 15, 3), (11, .aload_n 0, 1), (12, .getfield 7, 3), (15, .aload_n 0, 1), (16, .getfield 212, 3), (19, .iaload, 1), (20, .goto 4, 3), (23, .iconst (-1), 1), (24, .ireturn, 1)]]
/-- TreegrabModel.passes()V -/
def zc_145 : List (List (Nat × Instr × Nat)) := [[(0, .aload_n 0, 1), (1, .invokevirtual 218, 3), (4, .bipush 9, 2), (6, .if_icmp .eq 21, 3), (9, .aload_n 0, 1), (10, .invokevirtual 218, 3), (13, .bipush 32, 2), (15, .if_icmp .eq 12, 3), (18, .aload_n 0, 1), (19, .invokevirtual 218, 3), (22, .bipush 10, 2), (24, .if_icmp .ne 16, 3), (27, .aload_n 0, 1), (28, .dup, 1), (29, .getfield 212, 3)],
  [(32, .iconst 1, 1), (33, .iadd, 1), (34, .putfield 212, 3), (37, .goto (-37), 3), (40, .return_, 1)]]
/-- TreegrabModel.isSmall(I)Z -/
def zc_146 : List (List (Nat × Instr × Nat)) := [[(0, .iload_n 0, 1), (1, .bipush 97, 2), (3, .bipush 122, 2), (5, .invokestatic 208, 3), (8, .ireturn, 1)]]
/-- TreegrabModel.isLetter(I)Z -/
def zc_147 : List (List (Nat × Instr × Nat)) := [[(0, .iload_n 0, 1), (1, .invokestatic 222, 3), (4, .ifCond .ne 14, 3), (7, .iload_n 0, 1), (8, .bipush 65, 2), (10, .bipush 90, 2), (12, .invokestatic 208, 3), (15, .ifCond .eq 7, 3), (18, .iconst 1, 1), (19, .goto 4, 3), (22, .iconst 0, 1), (23, .ireturn, 1)]]
/-- TreegrabModel.fails(II)Z -/
def zc_148 : List (List (Nat × Instr × Nat)) := [[(0, .aload_n 0, 1), (1, .iload_n 1, 1), (2, .putfield 226, 3), (5, .aload_n 0, 1), (6, .iload_n 2, 1), (7, .putfield 229, 3), (10, .iconst 0, 1), (11, .ireturn, 1)]]
/-- TreegrabModel.sign()I -/
def zc_149 : List (List (Nat × Instr × Nat)) := [[(0, .aload_n 0, 1), (1, .invokevirtual 232, 3), (4, .aload_n 0, 1), (5, .invokevirtual 218, 3), (8, .ireturn, 1)]]
/-- TreegrabModel.isLabel()Z -/
def zc_150 : List (List (Nat × Instr × Nat)) := [[(0, .aload_n 0, 1), (1, .aload_n 0, 1), (2, .getfield 212, 3), (5, .putfield 235, 3), (8, .aload_n 0, 1), (9, .lconst 0, 1), (10, .putfield 238, 3), (13, .aload_n 0, 1), (14, .iconst 0, 1), (15, .putfield 242, 3), (18, .aload_n 0, 1), (19, .invokevirtual 218, 3), (22, .invokestatic 245, 3), (25, .istore_n 1, 1), (26, .iload_n 1, 1), (27, .ifCond .eq 85, 3), (30, .aload_n 0, 1), (31, .invokevirtual 218, 3)],
  [(34, .invokestatic 245, 3), (37, .ifCond .ne 17, 3), (40, .aload_n 0, 1), (41, .invokevirtual 218, 3), (44, .bipush 48, 2), (46, .bipush 57, 2), (48, .invokestatic 208, 3), (51, .ifCond .eq 61, 3), (54, .aload_n 0, 1), (55, .dup, 1), (56, .getfield 238, 3), (59, .aload_n 0, 1), (60, .getfield 242, 3), (63, .bipush 6, 2)],
  [(65, .if_icmp .ge 19, 3), (68, .aload_n 0, 1), (69, .invokevirtual 218, 3), (72, .i2l, 1), (73, .bipush 8, 2), (75, .aload_n 0, 1), (76, .getfield 242, 3), (79, .imul, 1), (80, .lshl, 1), (81, .goto 4, 3), (84, .lconst 0, 1), (85, .lor, 1), (86, .putfield 238, 3), (89, .aload_n 0, 1), (90, .dup, 1), (91, .getfield 242, 3), (94, .iconst 1, 1), (95, .iadd, 1)],
  [(96, .putfield 242, 3), (99, .aload_n 0, 1), (100, .dup, 1), (101, .getfield 212, 3), (104, .iconst 1, 1), (105, .iadd, 1), (106, .putfield 212, 3), (109, .goto (-83), 3), (112, .iload_n 1, 1), (113, .ireturn, 1)]]
/-- TreegrabModel.isRightLabel()Z -/
def zc_151 : List (List (Nat × Instr × Nat)) := [[(0, .aload_n 0, 1), (1, .invokevirtual 232, 3), (4, .aload_n 0, 1), (5, .invokevirtual 248, 3), (8, .ifCond .eq 32, 3), (11, .aload_n 0, 1), (12, .getfield 242, 3), (15, .bipush 6, 2), (17, .if_icmp .le 15, 3), (20, .aload_n 0, 1), (21, .iconst 2, 1), (22, .aload_n 0, 1), (23, .getfield 235, 3), (26, .invokevirtual 252, 3), (29, .ifCond .eq 7, 3)],
  [(32, .iconst 1, 1), (33, .goto 16, 3), (36, .iconst 0, 1), (37, .goto 12, 3), (40, .aload_n 0, 1), (41, .iconst 1, 1), (42, .aload_n 0, 1), (43, .getfield 212, 3), (46, .invokevirtual 252, 3), (49, .ireturn, 1)]]
/-- TreegrabModel.isNoEnd()Z -/
def zc_152 : List (List (Nat × Instr × Nat)) := [[(0, .aload_n 0, 1), (1, .invokevirtual 256, 3), (4, .iconst (-1), 1), (5, .if_icmp .eq 15, 3), (8, .aload_n 0, 1), (9, .iconst 1, 1), (10, .aload_n 0, 1), (11, .getfield 212, 3), (14, .invokevirtual 252, 3), (17, .ifCond .eq 7, 3), (20, .iconst 1, 1), (21, .goto 4, 3), (24, .iconst 0, 1), (25, .ireturn, 1)]]
/-- TreegrabModel.isTree()Z -/
def zc_153 : List (List (Nat × Instr × Nat)) := [[(0, .aload_n 0, 1), (1, .iconst 0, 1), (2, .putfield 259, 3), (5, .iconst (-1), 1), (6, .istore_n 1, 1), (7, .iconst 0, 1), (8, .istore_n 2, 1), (9, .iload_n 2, 1), (10, .ifCond .ne 217, 3), (13, .aload_n 0, 1), (14, .invokevirtual 256, 3), (17, .istore_n 3, 1), (18, .aload_n 0, 1), (19, .getfield 212, 3), (22, .istore 4, 2), (24, .iload_n 3, 1), (25, .bipush 41, 2), (27, .if_icmp .ne 39, 3), (30, .iload_n 1, 1), (31, .iconst (-1), 1)],
  [(32, .if_icmp .eq 34, 3), (35, .aload_n 0, 1), (36, .dup, 1), (37, .getfield 212, 3), (40, .iconst 1, 1), (41, .iadd, 1), (42, .putfield 212, 3), (45, .aload_n 0, 1), (46, .getfield 26, 3), (49, .iload_n 1, 1), (50, .iaload, 1), (51, .istore_n 1, 1), (52, .iload_n 1, 1), (53, .iconst (-1), 1), (54, .if_icmp .ne 7, 3), (57, .iconst 1, 1), (58, .goto 4, 3), (61, .iconst 0, 1), (62, .istore_n 2, 1), (63, .goto 161, 3)],
  [(66, .iload_n 3, 1), (67, .bipush 40, 2), (69, .if_icmp .eq 10, 3), (72, .iload_n 3, 1), (73, .invokestatic 245, 3), (76, .ifCond .eq 140, 3), (79, .iload_n 3, 1), (80, .bipush 40, 2), (82, .if_icmp .ne 20, 3), (85, .aload_n 0, 1), (86, .getfield 259, 3), (89, .bipush 20, 2), (91, .if_icmp .ne 11, 3), (94, .aload_n 0, 1), (95, .iconst 3, 1)],
  [(96, .iload 4, 2), (98, .invokevirtual 252, 3), (101, .ireturn, 1), (102, .aload_n 0, 1), (103, .dup, 1), (104, .getfield 212, 3), (107, .iload_n 3, 1), (108, .bipush 40, 2), (110, .if_icmp .ne 7, 3), (113, .iconst 1, 1), (114, .goto 4, 3), (117, .iconst 0, 1), (118, .iadd, 1), (119, .putfield 212, 3), (122, .aload_n 0, 1), (123, .invokevirtual 262, 3), (126, .ifCond .ne 5, 3)],
  [(129, .iconst 0, 1), (130, .ireturn, 1), (131, .aload_n 0, 1), (132, .getfield 259, 3), (135, .bipush 20, 2), (137, .if_icmp .ne 11, 3), (140, .aload_n 0, 1), (141, .iconst 3, 1), (142, .iload 4, 2), (144, .invokevirtual 252, 3), (147, .ireturn, 1), (148, .aload_n 0, 1), (149, .getfield 23, 3), (152, .aload_n 0, 1), (153, .getfield 259, 3), (156, .aload_n 0, 1), (157, .getfield 238, 3)],
  [(160, .lastore, 1), (161, .aload_n 0, 1), (162, .getfield 26, 3), (165, .aload_n 0, 1), (166, .getfield 259, 3), (169, .iload_n 1, 1), (170, .iastore, 1), (171, .iload_n 3, 1), (172, .bipush 40, 2), (174, .if_icmp .eq 12, 3), (177, .iload_n 1, 1), (178, .iconst (-1), 1), (179, .if_icmp .ne 7, 3), (182, .iconst 1, 1), (183, .goto 4, 3), (186, .iconst 0, 1), (187, .istore_n 2, 1), (188, .iload_n 3, 1), (189, .bipush 40, 2), (191, .if_icmp .ne 10, 3)],
  [(194, .aload_n 0, 1), (195, .getfield 259, 3), (198, .goto 4, 3), (201, .iload_n 1, 1), (202, .istore_n 1, 1), (203, .aload_n 0, 1), (204, .dup, 1), (205, .getfield 259, 3), (208, .iconst 1, 1), (209, .iadd, 1), (210, .putfield 259, 3), (213, .goto 11, 3), (216, .aload_n 0, 1), (217, .iconst 1, 1), (218, .iload 4, 2), (220, .invokevirtual 252, 3), (223, .ireturn, 1)],
  [(224, .goto (-215), 3), (227, .aload_n 0, 1), (228, .invokevirtual 265, 3), (231, .ireturn, 1)]]
/-- TreegrabModel.isName()Z -/
def zc_154 : List (List (Nat × Instr × Nat)) := [[(0, .aload_n 0, 1), (1, .invokevirtual 232, 3), (4, .aload_n 0, 1), (5, .aload_n 0, 1), (6, .getfield 212, 3), (9, .putfield 235, 3), (12, .aload_n 0, 1), (13, .invokevirtual 218, 3), (16, .invokestatic 222, 3), (19, .ifCond .ne 13, 3), (22, .aload_n 0, 1), (23, .iconst 1, 1), (24, .aload_n 0, 1), (25, .getfield 212, 3), (28, .invokevirtual 252, 3), (31, .ireturn, 1)],
  [(32, .aload_n 0, 1), (33, .aload_n 0, 1), (34, .invokevirtual 218, 3), (37, .i2l, 1), (38, .putfield 238, 3), (41, .aload_n 0, 1), (42, .dup, 1), (43, .getfield 212, 3), (46, .iconst 1, 1), (47, .iadd, 1), (48, .putfield 212, 3), (51, .iconst 1, 1), (52, .ireturn, 1)]]
/-- TreegrabModel.named(J)I -/
def zc_155 : List (List (Nat × Instr × Nat)) := [[(0, .iconst (-1), 1), (1, .istore_n 3, 1), (2, .iconst 0, 1), (3, .istore 4, 2), (5, .iload 4, 2), (7, .aload_n 0, 1), (8, .getfield 268, 3), (11, .if_icmp .ge 54, 3), (14, .aload_n 0, 1), (15, .getfield 96, 3), (18, .iload 4, 2), (20, .iaload, 1), (21, .i2l, 1), (22, .lload_n 1, 1), (23, .lcmp, 1), (24, .ifCond .ne 33, 3), (27, .aload_n 0, 1), (28, .getfield 102, 3), (31, .iload 4, 2)],
  [(33, .baload, 1), (34, .ifCond .ne 13, 3), (37, .aload_n 0, 1), (38, .getfield 99, 3), (41, .iload 4, 2), (43, .iaload, 1), (44, .ifCond .le 8, 3), (47, .bipush (-2), 2), (49, .goto 9, 3), (52, .iload 4, 2), (54, .goto 4, 3), (57, .iload_n 3, 1), (58, .istore_n 3, 1), (59, .iinc 4 1, 3), (62, .goto (-57), 3)],
  [(65, .iload_n 3, 1), (66, .ireturn, 1)]]
/-- TreegrabModel.areLabels(I)Z -/
def zc_156 : List (List (Nat × Instr × Nat)) := [[(0, .aload_n 0, 1), (1, .getfield 84, 3), (4, .iload_n 1, 1), (5, .aload_n 0, 1), (6, .getfield 271, 3), (9, .iastore, 1), (10, .iconst 1, 1), (11, .istore_n 2, 1), (12, .iload_n 2, 1), (13, .ifCond .eq 81, 3), (16, .aload_n 0, 1), (17, .invokevirtual 262, 3), (20, .ifCond .ne 5, 3), (23, .iconst 0, 1), (24, .ireturn, 1), (25, .aload_n 0, 1), (26, .getfield 117, 3), (29, .aload_n 0, 1), (30, .getfield 271, 3)],
  [(33, .aload_n 0, 1), (34, .getfield 238, 3), (37, .lastore, 1), (38, .aload_n 0, 1), (39, .dup, 1), (40, .getfield 271, 3), (43, .iconst 1, 1), (44, .iadd, 1), (45, .putfield 271, 3), (48, .aload_n 0, 1), (49, .getfield 87, 3), (52, .iload_n 1, 1), (53, .dup2, 1), (54, .iaload, 1), (55, .iconst 1, 1), (56, .iadd, 1), (57, .iastore, 1), (58, .aload_n 0, 1), (59, .invokevirtual 256, 3), (62, .bipush 124, 2)],
  [(64, .if_icmp .ne 7, 3), (67, .iconst 1, 1), (68, .goto 4, 3), (71, .iconst 0, 1), (72, .istore_n 2, 1), (73, .aload_n 0, 1), (74, .dup, 1), (75, .getfield 212, 3), (78, .iload_n 2, 1), (79, .ifCond .eq 7, 3), (82, .iconst 1, 1), (83, .goto 4, 3), (86, .iconst 0, 1), (87, .iadd, 1), (88, .putfield 212, 3), (91, .goto (-79), 3), (94, .iconst 1, 1), (95, .ireturn, 1)]]
/-- TreegrabModel.canBegin(Z)Z -/
def zc_157 : List (List (Nat × Instr × Nat)) := [[(0, .aload_n 0, 1), (1, .invokevirtual 256, 3), (4, .istore_n 2, 1), (5, .aload_n 0, 1), (6, .getfield 212, 3), (9, .istore_n 3, 1), (10, .iload_n 2, 1), (11, .bipush 42, 2), (13, .if_icmp .eq 35, 3), (16, .iload_n 2, 1), (17, .bipush 33, 2), (19, .if_icmp .eq 29, 3), (22, .iload_n 2, 1), (23, .bipush 126, 2), (25, .if_icmp .eq 23, 3), (28, .iload_n 2, 1), (29, .bipush 61, 2), (31, .if_icmp .eq 17, 3)],
  [(34, .iload_n 2, 1), (35, .invokestatic 245, 3), (38, .ifCond .ne 10, 3), (41, .aload_n 0, 1), (42, .iconst 1, 1), (43, .iload_n 3, 1), (44, .invokevirtual 252, 3), (47, .ireturn, 1), (48, .iload_n 2, 1), (49, .invokestatic 245, 3), (52, .ifCond .eq 30, 3), (55, .aload_n 0, 1), (56, .invokevirtual 248, 3), (59, .istore 4, 2), (61, .aload_n 0, 1), (62, .iload_n 3, 1), (63, .putfield 212, 3)],
  [(66, .aload_n 0, 1), (67, .getfield 242, 3), (70, .bipush 6, 2), (72, .if_icmp .le 10, 3), (75, .aload_n 0, 1), (76, .iconst 2, 1), (77, .iload_n 3, 1), (78, .invokevirtual 252, 3), (81, .ireturn, 1), (82, .aload_n 0, 1), (83, .getfield 268, 3), (86, .bipush 8, 2), (88, .if_icmp .ge 21, 3), (91, .iload_n 1, 1), (92, .ifCond .ne 26, 3), (95, .iload_n 2, 1)],
  [(96, .bipush 61, 2), (98, .if_icmp .eq 20, 3), (101, .aload_n 0, 1), (102, .getfield 274, 3), (105, .iconst 4, 1), (106, .if_icmp .lt 12, 3), (109, .aload_n 0, 1), (110, .iconst 3, 1), (111, .iload_n 3, 1), (112, .invokevirtual 252, 3), (115, .ifCond .eq 7, 3), (118, .iconst 1, 1), (119, .goto 4, 3), (122, .iconst 0, 1), (123, .ireturn, 1)]]
/-- TreegrabModel.isNode(IIII)Z -/
def zc_158 : List (List (Nat × Instr × Nat)) := [[(0, .iload_n 2, 1), (1, .bipush 33, 2), (3, .if_icmp .eq 17, 3), (6, .iload_n 1, 1), (7, .iconst (-1), 1), (8, .if_icmp .eq 16, 3), (11, .aload_n 0, 1), (12, .getfield 102, 3), (15, .iload_n 1, 1), (16, .baload, 1), (17, .ifCond .eq 7, 3), (20, .iconst 1, 1), (21, .goto 4, 3), (24, .iconst 0, 1), (25, .istore 5, 2), (27, .iload_n 1, 1), (28, .iconst (-1), 1), (29, .if_icmp .eq 26, 3)],
  [(32, .iload 5, 2), (34, .ifCond .eq 25, 3), (37, .aload_n 0, 1), (38, .getfield 102, 3), (41, .iload_n 1, 1), (42, .baload, 1), (43, .ifCond .ne 16, 3), (46, .aload_n 0, 1), (47, .getfield 99, 3), (50, .iload_n 1, 1), (51, .iaload, 1), (52, .ifCond .ne 7, 3), (55, .iconst 0, 1), (56, .goto 9, 3), (59, .aload_n 0, 1), (60, .getfield 99, 3), (63, .iload_n 1, 1)],
  [(64, .iaload, 1), (65, .istore 6, 2), (67, .aload_n 0, 1), (68, .iload 5, 2), (70, .invokevirtual 277, 3), (73, .ifCond .ne 5, 3), (76, .iconst 0, 1), (77, .ireturn, 1), (78, .aload_n 0, 1), (79, .getfield 268, 3), (82, .istore 7, 2), (84, .aload_n 0, 1), (85, .invokevirtual 218, 3), (88, .istore 8, 2), (90, .aload_n 0, 1), (91, .dup, 1), (92, .getfield 268, 3), (95, .iconst 1, 1)],
  [(96, .iadd, 1), (97, .putfield 268, 3), (100, .aload_n 0, 1), (101, .getfield 105, 3), (104, .iload 7, 2), (106, .iload_n 1, 1), (107, .iastore, 1), (108, .aload_n 0, 1), (109, .getfield 108, 3), (112, .iload 7, 2), (114, .iload_n 2, 1), (115, .iastore, 1), (116, .aload_n 0, 1), (117, .getfield 111, 3), (120, .iload 7, 2), (122, .iload_n 3, 1), (123, .iastore, 1), (124, .aload_n 0, 1), (125, .getfield 114, 3)],
  [(128, .iload 7, 2), (130, .iload 4, 2), (132, .iastore, 1), (133, .aload_n 0, 1), (134, .getfield 102, 3), (137, .iload 7, 2), (139, .iload 5, 2), (141, .bastore, 1), (142, .aload_n 0, 1), (143, .getfield 99, 3), (146, .iload 7, 2), (148, .iload_n 2, 1), (149, .bipush 63, 2), (151, .if_icmp .ne 10, 3), (154, .iload 7, 2), (156, .iconst 1, 1), (157, .iadd, 1), (158, .goto 5, 3)],
  [(161, .iload 6, 2), (163, .iastore, 1), (164, .aload_n 0, 1), (165, .getfield 96, 3), (168, .iload 7, 2), (170, .iconst 0, 1), (171, .iastore, 1), (172, .aload_n 0, 1), (173, .getfield 87, 3), (176, .iload 7, 2), (178, .iconst 0, 1), (179, .iastore, 1), (180, .aload_n 0, 1), (181, .getfield 90, 3), (184, .iload 7, 2), (186, .iconst (-1), 1), (187, .iastore, 1), (188, .aload_n 0, 1), (189, .getfield 93, 3)],
  [(192, .iload 7, 2), (194, .iload 5, 2), (196, .ifCond .ne 10, 3), (199, .iload 8, 2), (201, .bipush 61, 2), (203, .if_icmp .ne 7, 3), (206, .iconst (-1), 1), (207, .goto 7, 3), (210, .aload_n 0, 1), (211, .getfield 274, 3), (214, .iastore, 1), (215, .aload_n 0, 1), (216, .dup, 1), (217, .getfield 274, 3), (220, .iload 5, 2), (222, .ifCond .ne 10, 3)],
  [(225, .iload 8, 2), (227, .bipush 61, 2), (229, .if_icmp .ne 7, 3), (232, .iconst 0, 1), (233, .goto 4, 3), (236, .iconst 1, 1), (237, .iadd, 1), (238, .putfield 274, 3), (241, .aload_n 0, 1), (242, .getfield 81, 3), (245, .iload 7, 2), (247, .iload 8, 2), (249, .bipush 42, 2), (251, .if_icmp .ne 7, 3), (254, .iconst 0, 1), (255, .goto 37, 3)],
  [(258, .iload 8, 2), (260, .bipush 33, 2), (262, .if_icmp .ne 7, 3), (265, .iconst 2, 1), (266, .goto 26, 3), (269, .iload 8, 2), (271, .bipush 126, 2), (273, .if_icmp .ne 7, 3), (276, .iconst 3, 1), (277, .goto 15, 3), (280, .iload 8, 2), (282, .bipush 61, 2), (284, .if_icmp .ne 7, 3), (287, .iconst 4, 1)],
  [(288, .goto 4, 3), (291, .iconst 1, 1), (292, .iastore, 1), (293, .aload_n 0, 1), (294, .dup, 1), (295, .getfield 212, 3), (298, .iload 8, 2), (300, .invokestatic 245, 3), (303, .ifCond .eq 7, 3), (306, .iconst 0, 1), (307, .goto 4, 3), (310, .iconst 1, 1), (311, .iadd, 1), (312, .putfield 212, 3), (315, .iload 8, 2), (317, .bipush 126, 2), (319, .if_icmp .eq 10, 3)],
  [(322, .iload 8, 2), (324, .bipush 61, 2), (326, .if_icmp .ne 47, 3), (329, .aload_n 0, 1), (330, .invokevirtual 281, 3), (333, .ifCond .ne 5, 3), (336, .iconst 0, 1), (337, .ireturn, 1), (338, .aload_n 0, 1), (339, .getfield 90, 3), (342, .iload 7, 2), (344, .aload_n 0, 1), (345, .aload_n 0, 1), (346, .getfield 238, 3), (349, .invokevirtual 284, 3)],
  [(352, .iastore, 1), (353, .aload_n 0, 1), (354, .getfield 90, 3), (357, .iload 7, 2), (359, .iaload, 1), (360, .ifCond .ge 31, 3), (363, .aload_n 0, 1), (364, .iconst 4, 1), (365, .aload_n 0, 1), (366, .getfield 235, 3), (369, .invokevirtual 252, 3), (372, .ireturn, 1), (373, .iload 8, 2), (375, .bipush 42, 2), (377, .if_icmp .eq 14, 3), (380, .aload_n 0, 1), (381, .iload 7, 2), (383, .invokevirtual 288, 3)],
  [(386, .ifCond .ne 5, 3), (389, .iconst 0, 1), (390, .ireturn, 1), (391, .iload 8, 2), (393, .bipush 61, 2), (395, .if_icmp .eq 65, 3), (398, .aload_n 0, 1), (399, .invokevirtual 256, 3), (402, .bipush 61, 2), (404, .if_icmp .ne 56, 3), (407, .aload_n 0, 1), (408, .dup, 1), (409, .getfield 212, 3), (412, .iconst 1, 1), (413, .iadd, 1), (414, .putfield 212, 3)],
  [(417, .aload_n 0, 1), (418, .invokevirtual 281, 3), (421, .ifCond .ne 5, 3), (424, .iconst 0, 1), (425, .ireturn, 1), (426, .aload_n 0, 1), (427, .aload_n 0, 1), (428, .getfield 238, 3), (431, .invokevirtual 284, 3), (434, .iconst (-1), 1), (435, .if_icmp .eq 13, 3), (438, .aload_n 0, 1), (439, .iconst 4, 1), (440, .aload_n 0, 1), (441, .getfield 235, 3), (444, .invokevirtual 252, 3), (447, .ireturn, 1)],
  [(448, .aload_n 0, 1), (449, .getfield 96, 3), (452, .iload 7, 2), (454, .aload_n 0, 1), (455, .getfield 238, 3), (458, .l2i, 1), (459, .iastore, 1), (460, .iconst 1, 1), (461, .ireturn, 1)]]
/-- TreegrabModel.operator()I -/
def zc_159 : List (List (Nat × Instr × Nat)) := [[(0, .aload_n 0, 1), (1, .invokevirtual 256, 3), (4, .istore_n 1, 1), (5, .aload_n 0, 1), (6, .lconst 0, 1), (7, .putfield 238, 3), (10, .iload_n 1, 1), (11, .bipush 60, 2), (13, .if_icmp .eq 39, 3), (16, .iload_n 1, 1), (17, .bipush 62, 2), (19, .if_icmp .eq 33, 3), (22, .iload_n 1, 1), (23, .bipush 46, 2), (25, .if_icmp .eq 27, 3), (28, .iload_n 1, 1), (29, .bipush 44, 2), (31, .if_icmp .eq 21, 3)],
  [(34, .iload_n 1, 1), (35, .bipush 36, 2), (37, .if_icmp .eq 15, 3), (40, .aload_n 0, 1), (41, .iconst 1, 1), (42, .aload_n 0, 1), (43, .getfield 212, 3), (46, .invokevirtual 252, 3), (49, .pop, 1), (50, .iconst 0, 1), (51, .ireturn, 1), (52, .aload_n 0, 1), (53, .dup, 1), (54, .getfield 212, 3), (57, .iconst 1, 1), (58, .iadd, 1), (59, .putfield 212, 3), (62, .iload_n 1, 1), (63, .bipush 60, 2)],
  [(65, .if_icmp .eq 9, 3), (68, .iload_n 1, 1), (69, .bipush 62, 2), (71, .if_icmp .ne 31, 3), (74, .aload_n 0, 1), (75, .iload_n 1, 1), (76, .invokevirtual 291, 3), (79, .istore_n 2, 1), (80, .iload_n 2, 1), (81, .ifCond .ne 7, 3), (84, .iconst 0, 1), (85, .goto 16, 3), (88, .iload_n 1, 1), (89, .bipush 60, 2), (91, .if_icmp .ne 7, 3), (94, .iload_n 2, 1), (95, .goto 6, 3)],
  [(98, .iconst 5, 1), (99, .iload_n 2, 1), (100, .iadd, 1), (101, .ireturn, 1), (102, .iload_n 1, 1), (103, .bipush 36, 2), (105, .if_icmp .ne 116, 3), (108, .aload_n 0, 1), (109, .invokevirtual 218, 3), (112, .bipush 46, 2), (114, .if_icmp .ne 8, 3), (117, .bipush 16, 2), (119, .goto 19, 3), (122, .aload_n 0, 1), (123, .invokevirtual 218, 3), (126, .bipush 44, 2)],
  [(128, .if_icmp .ne 8, 3), (131, .bipush 18, 2), (133, .goto 5, 3), (136, .bipush 15, 2), (138, .istore_n 2, 1), (139, .aload_n 0, 1), (140, .dup, 1), (141, .getfield 212, 3), (144, .iload_n 2, 1), (145, .bipush 15, 2), (147, .if_icmp .ne 7, 3), (150, .iconst 0, 1), (151, .goto 4, 3), (154, .iconst 1, 1), (155, .iadd, 1), (156, .putfield 212, 3), (159, .iload_n 2, 1)],
  [(160, .bipush 15, 2), (162, .if_icmp .le 27, 3), (165, .aload_n 0, 1), (166, .invokevirtual 218, 3), (169, .iload_n 2, 1), (170, .bipush 16, 2), (172, .if_icmp .ne 8, 3), (175, .bipush 46, 2), (177, .goto 5, 3), (180, .bipush 44, 2), (182, .if_icmp .ne 7, 3), (185, .iconst 1, 1), (186, .goto 4, 3), (189, .iconst 0, 1), (190, .istore_n 3, 1), (191, .aload_n 0, 1)],
  [(192, .dup, 1), (193, .getfield 212, 3), (196, .iload_n 3, 1), (197, .ifCond .eq 7, 3), (200, .iconst 1, 1), (201, .goto 4, 3), (204, .iconst 0, 1), (205, .iadd, 1), (206, .putfield 212, 3), (209, .iload_n 2, 1), (210, .iload_n 3, 1), (211, .ifCond .eq 7, 3), (214, .iconst 1, 1), (215, .goto 4, 3), (218, .iconst 0, 1), (219, .iadd, 1), (220, .ireturn, 1), (221, .aload_n 0, 1), (222, .invokevirtual 218, 3)],
  [(225, .iload_n 1, 1), (226, .if_icmp .ne 7, 3), (229, .iconst 1, 1), (230, .goto 4, 3), (233, .iconst 0, 1), (234, .istore_n 2, 1), (235, .aload_n 0, 1), (236, .dup, 1), (237, .getfield 212, 3), (240, .iload_n 2, 1), (241, .ifCond .eq 7, 3), (244, .iconst 1, 1), (245, .goto 4, 3), (248, .iconst 0, 1), (249, .iadd, 1), (250, .putfield 212, 3), (253, .iload_n 1, 1), (254, .bipush 46, 2)],
  [(256, .if_icmp .ne 8, 3), (259, .bipush 11, 2), (261, .goto 5, 3), (264, .bipush 13, 2), (266, .iload_n 2, 1), (267, .ifCond .eq 7, 3), (270, .iconst 1, 1), (271, .goto 4, 3), (274, .iconst 0, 1), (275, .iadd, 1), (276, .ireturn, 1)]]
/-- TreegrabModel.dominance(I)I -/
def zc_160 : List (List (Nat × Instr × Nat)) := [[(0, .aload_n 0, 1), (1, .invokevirtual 218, 3), (4, .bipush 45, 2), (6, .if_icmp .ne 7, 3), (9, .iconst 1, 1), (10, .goto 4, 3), (13, .iconst 0, 1), (14, .istore_n 2, 1), (15, .aload_n 0, 1), (16, .invokevirtual 218, 3), (19, .iload_n 1, 1), (20, .if_icmp .eq 12, 3), (23, .aload_n 0, 1), (24, .invokevirtual 218, 3), (27, .bipush 58, 2), (29, .if_icmp .ne 34, 3)],
  [(32, .aload_n 0, 1), (33, .dup, 1), (34, .getfield 212, 3), (37, .iconst 1, 1), (38, .iadd, 1), (39, .putfield 212, 3), (42, .aload_n 0, 1), (43, .getfield 7, 3), (46, .aload_n 0, 1), (47, .getfield 212, 3), (50, .iconst 1, 1), (51, .isub, 1), (52, .iaload, 1), (53, .iload_n 1, 1), (54, .if_icmp .ne 7, 3), (57, .iconst 2, 1), (58, .goto 4, 3), (61, .iconst 3, 1), (62, .ireturn, 1), (63, .aload_n 0, 1)],
  [(64, .dup, 1), (65, .getfield 212, 3), (68, .iload_n 2, 1), (69, .ifCond .eq 7, 3), (72, .iconst 1, 1), (73, .goto 4, 3), (76, .iconst 0, 1), (77, .iadd, 1), (78, .putfield 212, 3), (81, .aload_n 0, 1), (82, .invokevirtual 218, 3), (85, .bipush 49, 2), (87, .bipush 57, 2), (89, .invokestatic 208, 3), (92, .ifCond .eq 35, 3), (95, .aload_n 0, 1)],
  [(96, .aload_n 0, 1), (97, .invokevirtual 218, 3), (100, .bipush 48, 2), (102, .isub, 1), (103, .i2l, 1), (104, .putfield 238, 3), (107, .aload_n 0, 1), (108, .dup, 1), (109, .getfield 212, 3), (112, .iconst 1, 1), (113, .iadd, 1), (114, .putfield 212, 3), (117, .iload_n 2, 1), (118, .ifCond .eq 7, 3), (121, .iconst 5, 1), (122, .goto 4, 3), (125, .iconst 4, 1), (126, .ireturn, 1), (127, .iload_n 2, 1)],
  [(128, .ifCond .eq 13, 3), (131, .aload_n 0, 1), (132, .iconst 1, 1), (133, .aload_n 0, 1), (134, .getfield 212, 3), (137, .invokevirtual 252, 3), (140, .pop, 1), (141, .iload_n 2, 1), (142, .ifCond .eq 7, 3), (145, .iconst 0, 1), (146, .goto 4, 3), (149, .iconst 1, 1), (150, .ireturn, 1)]]
/-- TreegrabModel.relation(II)I -/
def zc_161 : List (List (Nat × Instr × Nat)) := [[(0, .aload_n 0, 1), (1, .invokevirtual 295, 3), (4, .istore_n 3, 1), (5, .aload_n 0, 1), (6, .getfield 238, 3), (9, .l2i, 1), (10, .istore 4, 2), (12, .iload_n 3, 1), (13, .ifCond .ne 6, 3), (16, .bipush (-2), 2), (18, .ireturn, 1), (19, .aload_n 0, 1), (20, .invokevirtual 256, 3), (23, .bipush 40, 2), (25, .if_icmp .ne 7, 3), (28, .iconst 1, 1), (29, .goto 4, 3)],
  [(32, .iconst 0, 1), (33, .istore 5, 2), (35, .aload_n 0, 1), (36, .dup, 1), (37, .getfield 212, 3), (40, .iload 5, 2), (42, .ifCond .eq 7, 3), (45, .iconst 1, 1), (46, .goto 4, 3), (49, .iconst 0, 1), (50, .iadd, 1), (51, .putfield 212, 3), (54, .aload_n 0, 1), (55, .iload_n 1, 1), (56, .iload_n 2, 1), (57, .iload_n 3, 1), (58, .iload 4, 2), (60, .invokevirtual 298, 3), (63, .ifCond .ne 6, 3)],
  [(66, .bipush (-2), 2), (68, .ireturn, 1), (69, .iload 5, 2), (71, .ifCond .eq 12, 3), (74, .aload_n 0, 1), (75, .getfield 268, 3), (78, .iconst 1, 1), (79, .isub, 1), (80, .goto 4, 3), (83, .iconst (-1), 1), (84, .ireturn, 1)]]
/-- TreegrabModel.isPattern()Z -/
def zc_162 : List (List (Nat × Instr × Nat)) := [[(0, .aload_n 0, 1), (1, .iconst 0, 1), (2, .putfield 268, 3), (5, .aload_n 0, 1), (6, .iconst 0, 1), (7, .putfield 271, 3), (10, .aload_n 0, 1), (11, .iconst 0, 1), (12, .putfield 274, 3), (15, .iconst 0, 1), (16, .istore_n 1, 1), (17, .aload_n 0, 1), (18, .iconst (-1), 1), (19, .iconst 0, 1), (20, .iconst 0, 1), (21, .iconst 0, 1), (22, .invokevirtual 298, 3), (25, .ifCond .ne 5, 3), (28, .iconst 0, 1), (29, .ireturn, 1), (30, .iconst 0, 1), (31, .istore_n 2, 1)],
  [(32, .aload_n 0, 1), (33, .invokevirtual 256, 3), (36, .istore_n 3, 1), (37, .iload_n 3, 1), (38, .iconst (-1), 1), (39, .if_icmp .eq 184, 3), (42, .iload_n 3, 1), (43, .bipush 41, 2), (45, .if_icmp .ne 40, 3), (48, .iload_n 1, 1), (49, .ifCond .ne 13, 3), (52, .aload_n 0, 1), (53, .iconst 1, 1), (54, .aload_n 0, 1), (55, .getfield 212, 3), (58, .invokevirtual 252, 3), (61, .ireturn, 1), (62, .aload_n 0, 1), (63, .dup, 1)],
  [(64, .getfield 212, 3), (67, .iconst 1, 1), (68, .iadd, 1), (69, .putfield 212, 3), (72, .iinc 1 (-1), 3), (75, .aload_n 0, 1), (76, .getfield 120, 3), (79, .iload_n 1, 1), (80, .iaload, 1), (81, .istore_n 2, 1), (82, .goto 133, 3), (85, .iload_n 3, 1), (86, .bipush 33, 2), (88, .if_icmp .eq 9, 3), (91, .iload_n 3, 1), (92, .bipush 63, 2), (94, .if_icmp .ne 7, 3)],
  [(97, .iconst 1, 1), (98, .goto 4, 3), (101, .iconst 0, 1), (102, .istore 4, 2), (104, .iload_n 3, 1), (105, .bipush 63, 2), (107, .if_icmp .ne 31, 3), (110, .aload_n 0, 1), (111, .getfield 102, 3), (114, .iload_n 2, 1), (115, .baload, 1), (116, .ifCond .ne 12, 3), (119, .aload_n 0, 1), (120, .getfield 99, 3), (123, .iload_n 2, 1), (124, .iaload, 1), (125, .ifCond .le 13, 3)],
  [(128, .aload_n 0, 1), (129, .iconst 1, 1), (130, .aload_n 0, 1), (131, .getfield 212, 3), (134, .invokevirtual 252, 3), (137, .ireturn, 1), (138, .aload_n 0, 1), (139, .dup, 1), (140, .getfield 212, 3), (143, .iload 4, 2), (145, .ifCond .eq 7, 3), (148, .iconst 1, 1), (149, .goto 4, 3), (152, .iconst 0, 1), (153, .iadd, 1), (154, .putfield 212, 3), (157, .aload_n 0, 1), (158, .iload_n 2, 1), (159, .iload 4, 2)],
  [(161, .ifCond .eq 7, 3), (164, .iload_n 3, 1), (165, .goto 4, 3), (168, .iconst 0, 1), (169, .invokevirtual 302, 3), (172, .istore 5, 2), (174, .iload 5, 2), (176, .bipush (-2), 2), (178, .if_icmp .ne 5, 3), (181, .iconst 0, 1), (182, .ireturn, 1), (183, .aload_n 0, 1), (184, .getfield 120, 3), (187, .iload_n 1, 1), (188, .iload_n 2, 1), (189, .iastore, 1), (190, .iload_n 1, 1), (191, .iload 5, 2)],
  [(193, .ifCond .lt 7, 3), (196, .iconst 1, 1), (197, .goto 4, 3), (200, .iconst 0, 1), (201, .iadd, 1), (202, .istore_n 1, 1), (203, .iload 5, 2), (205, .ifCond .lt 8, 3), (208, .iload 5, 2), (210, .goto 4, 3), (213, .iload_n 2, 1), (214, .istore_n 2, 1), (215, .aload_n 0, 1), (216, .invokevirtual 256, 3), (219, .istore_n 3, 1), (220, .goto (-183), 3), (223, .iload_n 1, 1)],
  [(224, .ifCond .eq 15, 3), (227, .aload_n 0, 1), (228, .iconst 1, 1), (229, .aload_n 0, 1), (230, .getfield 212, 3), (233, .invokevirtual 252, 3), (236, .ifCond .eq 7, 3), (239, .iconst 1, 1), (240, .goto 4, 3), (243, .iconst 0, 1), (244, .ireturn, 1)]]
/-- TreegrabModel.takesPattern()V -/
def zc_163 : List (List (Nat × Instr × Nat)) := [[(0, .aload_n 0, 1), (1, .aload_n 0, 1), (2, .getfield 268, 3), (5, .putfield 306, 3), (8, .aload_n 0, 1), (9, .aload_n 0, 1), (10, .getfield 271, 3), (13, .putfield 309, 3), (16, .aload_n 0, 1), (17, .aload_n 0, 1), (18, .getfield 274, 3), (21, .putfield 312, 3), (24, .iconst 0, 1), (25, .istore_n 1, 1), (26, .iload_n 1, 1), (27, .aload_n 0, 1), (28, .getfield 306, 3), (31, .if_icmp .ge 175, 3)],
  [(34, .aload_n 0, 1), (35, .getfield 38, 3), (38, .iload_n 1, 1), (39, .aload_n 0, 1), (40, .getfield 81, 3), (43, .iload_n 1, 1), (44, .iaload, 1), (45, .iastore, 1), (46, .aload_n 0, 1), (47, .getfield 41, 3), (50, .iload_n 1, 1), (51, .aload_n 0, 1), (52, .getfield 84, 3), (55, .iload_n 1, 1), (56, .iaload, 1), (57, .iastore, 1), (58, .aload_n 0, 1), (59, .getfield 44, 3), (62, .iload_n 1, 1), (63, .aload_n 0, 1)],
  [(64, .getfield 87, 3), (67, .iload_n 1, 1), (68, .iaload, 1), (69, .iastore, 1), (70, .aload_n 0, 1), (71, .getfield 47, 3), (74, .iload_n 1, 1), (75, .aload_n 0, 1), (76, .getfield 90, 3), (79, .iload_n 1, 1), (80, .iaload, 1), (81, .iastore, 1), (82, .aload_n 0, 1), (83, .getfield 50, 3), (86, .iload_n 1, 1), (87, .aload_n 0, 1), (88, .getfield 93, 3), (91, .iload_n 1, 1), (92, .iaload, 1), (93, .iastore, 1), (94, .aload_n 0, 1), (95, .getfield 53, 3)],
  [(98, .iload_n 1, 1), (99, .aload_n 0, 1), (100, .getfield 96, 3), (103, .iload_n 1, 1), (104, .iaload, 1), (105, .iastore, 1), (106, .aload_n 0, 1), (107, .getfield 56, 3), (110, .iload_n 1, 1), (111, .aload_n 0, 1), (112, .getfield 99, 3), (115, .iload_n 1, 1), (116, .iaload, 1), (117, .iastore, 1), (118, .aload_n 0, 1), (119, .getfield 59, 3), (122, .iload_n 1, 1), (123, .aload_n 0, 1), (124, .getfield 102, 3), (127, .iload_n 1, 1)],
  [(128, .baload, 1), (129, .bastore, 1), (130, .aload_n 0, 1), (131, .getfield 63, 3), (134, .iload_n 1, 1), (135, .aload_n 0, 1), (136, .getfield 105, 3), (139, .iload_n 1, 1), (140, .iaload, 1), (141, .iastore, 1), (142, .aload_n 0, 1), (143, .getfield 66, 3), (146, .iload_n 1, 1), (147, .aload_n 0, 1), (148, .getfield 108, 3), (151, .iload_n 1, 1), (152, .iaload, 1), (153, .iastore, 1), (154, .aload_n 0, 1), (155, .getfield 69, 3), (158, .iload_n 1, 1), (159, .aload_n 0, 1)],
  [(160, .getfield 111, 3), (163, .iload_n 1, 1), (164, .iaload, 1), (165, .iastore, 1), (166, .aload_n 0, 1), (167, .getfield 72, 3), (170, .iload_n 1, 1), (171, .aload_n 0, 1), (172, .getfield 114, 3), (175, .iload_n 1, 1), (176, .iaload, 1), (177, .iastore, 1), (178, .aload_n 0, 1), (179, .getfield 50, 3), (182, .iload_n 1, 1), (183, .iaload, 1), (184, .iconst (-1), 1), (185, .if_icmp .eq 15, 3), (188, .aload_n 0, 1), (189, .getfield 78, 3)],
  [(192, .aload_n 0, 1), (193, .getfield 50, 3), (196, .iload_n 1, 1), (197, .iaload, 1), (198, .iload_n 1, 1), (199, .iastore, 1), (200, .iinc 1 1, 3), (203, .goto (-177), 3), (206, .iconst 0, 1), (207, .istore_n 1, 1), (208, .iload_n 1, 1), (209, .aload_n 0, 1), (210, .getfield 309, 3), (213, .if_icmp .ge 21, 3), (216, .aload_n 0, 1), (217, .getfield 75, 3), (220, .iload_n 1, 1), (221, .aload_n 0, 1), (222, .getfield 117, 3)],
  [(225, .iload_n 1, 1), (226, .laload, 1), (227, .lastore, 1), (228, .iinc 1 1, 3), (231, .goto (-23), 3), (234, .return_, 1)]]
/-- TreegrabModel.isWord()Z -/
def zc_164 : List (List (Nat × Instr × Nat)) := [[(0, .aload_n 0, 1), (1, .getfield 238, 3), (4, .ldc2_w 315, 3), (7, .lcmp, 1), (8, .ifCond .eq 58, 3), (11, .aload_n 0, 1), (12, .getfield 238, 3), (15, .ldc2_w 317, 3), (18, .lcmp, 1), (19, .ifCond .eq 47, 3), (22, .aload_n 0, 1), (23, .getfield 238, 3), (26, .ldc2_w 319, 3), (29, .lcmp, 1), (30, .ifCond .eq 36, 3)],
  [(33, .aload_n 0, 1), (34, .getfield 238, 3), (37, .ldc2_w 321, 3), (40, .lcmp, 1), (41, .ifCond .eq 25, 3), (44, .aload_n 0, 1), (45, .getfield 238, 3), (48, .ldc2_w 323, 3), (51, .lcmp, 1), (52, .ifCond .eq 14, 3), (55, .aload_n 0, 1), (56, .getfield 238, 3), (59, .ldc2_w 325, 3), (62, .lcmp, 1), (63, .ifCond .ne 7, 3)],
  [(66, .iconst 1, 1), (67, .goto 4, 3), (70, .iconst 0, 1), (71, .ireturn, 1)]]
/-- TreegrabModel.isOneLetter()Z -/
def zc_165 : List (List (Nat × Instr × Nat)) := [[(0, .aload_n 0, 1), (1, .invokevirtual 232, 3), (4, .aload_n 0, 1), (5, .invokevirtual 248, 3), (8, .ifCond .eq 26, 3), (11, .aload_n 0, 1), (12, .getfield 242, 3), (15, .iconst 1, 1), (16, .if_icmp .ne 18, 3), (19, .aload_n 0, 1), (20, .getfield 238, 3), (23, .l2i, 1), (24, .invokestatic 222, 3), (27, .ifCond .eq 7, 3), (30, .iconst 1, 1), (31, .goto 4, 3)],
  [(34, .iconst 0, 1), (35, .istore_n 1, 1), (36, .iload_n 1, 1), (37, .ifCond .ne 15, 3), (40, .aload_n 0, 1), (41, .iconst 1, 1), (42, .aload_n 0, 1), (43, .getfield 235, 3), (46, .invokevirtual 252, 3), (49, .ifCond .eq 7, 3), (52, .iconst 1, 1), (53, .goto 4, 3), (56, .iconst 0, 1), (57, .ireturn, 1)]]
/-- TreegrabModel.isWhere()Z -/
def zc_166 : List (List (Nat × Instr × Nat)) := [[(0, .aload_n 0, 1), (1, .invokevirtual 232, 3), (4, .aload_n 0, 1), (5, .invokevirtual 248, 3), (8, .ifCond .eq 60, 3), (11, .aload_n 0, 1), (12, .getfield 242, 3), (15, .bipush 6, 2), (17, .if_icmp .gt 51, 3), (20, .aload_n 0, 1), (21, .getfield 238, 3), (24, .ldc2_w 327, 3), (27, .lcmp, 1), (28, .ifCond .eq 36, 3), (31, .aload_n 0, 1)],
  [(32, .getfield 238, 3), (35, .ldc2_w 329, 3), (38, .lcmp, 1), (39, .ifCond .eq 25, 3), (42, .aload_n 0, 1), (43, .getfield 238, 3), (46, .ldc2_w 331, 3), (49, .lcmp, 1), (50, .ifCond .eq 14, 3), (53, .aload_n 0, 1), (54, .getfield 238, 3), (57, .ldc2_w 333, 3), (60, .lcmp, 1), (61, .ifCond .ne 7, 3)],
  [(64, .iconst 1, 1), (65, .goto 4, 3), (68, .iconst 0, 1), (69, .istore_n 1, 1), (70, .iload_n 1, 1), (71, .ifCond .ne 15, 3), (74, .aload_n 0, 1), (75, .iconst 1, 1), (76, .aload_n 0, 1), (77, .getfield 235, 3), (80, .invokevirtual 252, 3), (83, .ifCond .eq 7, 3), (86, .iconst 1, 1), (87, .goto 4, 3), (90, .iconst 0, 1), (91, .ireturn, 1)]]
/-- TreegrabModel.isEdit()Z -/
def zc_167 : List (List (Nat × Instr × Nat)) := [[(0, .aload_n 0, 1), (1, .invokevirtual 232, 3), (4, .aload_n 0, 1), (5, .invokevirtual 248, 3), (8, .ifCond .eq 19, 3), (11, .aload_n 0, 1), (12, .getfield 242, 3), (15, .bipush 6, 2), (17, .if_icmp .gt 10, 3), (20, .aload_n 0, 1), (21, .invokevirtual 335, 3), (24, .ifCond .ne 13, 3), (27, .aload_n 0, 1), (28, .iconst 1, 1), (29, .aload_n 0, 1), (30, .getfield 235, 3)],
  [(33, .invokevirtual 252, 3), (36, .ireturn, 1), (37, .aload_n 0, 1), (38, .getfield 338, 3), (41, .bipush 8, 2), (43, .if_icmp .ne 13, 3), (46, .aload_n 0, 1), (47, .iconst 3, 1), (48, .aload_n 0, 1), (49, .getfield 235, 3), (52, .invokevirtual 252, 3), (55, .ireturn, 1), (56, .aload_n 0, 1), (57, .getfield 238, 3), (60, .lstore_n 1, 1), (61, .aload_n 0, 1), (62, .getfield 138, 3)],
  [(65, .aload_n 0, 1), (66, .getfield 338, 3), (69, .lload_n 1, 1), (70, .lastore, 1), (71, .aload_n 0, 1), (72, .getfield 141, 3), (75, .aload_n 0, 1), (76, .getfield 338, 3), (79, .iconst 0, 1), (80, .iastore, 1), (81, .aload_n 0, 1), (82, .getfield 144, 3), (85, .aload_n 0, 1), (86, .getfield 338, 3), (89, .iconst 0, 1), (90, .iastore, 1), (91, .lload_n 1, 1), (92, .ldc2_w 323, 3), (95, .lcmp, 1)],
  [(96, .ifCond .eq 26, 3), (99, .aload_n 0, 1), (100, .invokevirtual 341, 3), (103, .ifCond .ne 5, 3), (106, .iconst 0, 1), (107, .ireturn, 1), (108, .aload_n 0, 1), (109, .getfield 141, 3), (112, .aload_n 0, 1), (113, .getfield 338, 3), (116, .aload_n 0, 1), (117, .getfield 238, 3), (120, .l2i, 1), (121, .iastore, 1), (122, .lload_n 1, 1), (123, .ldc2_w 315, 3), (126, .lcmp, 1), (127, .ifCond .eq 19, 3)],
  [(130, .lload_n 1, 1), (131, .ldc2_w 321, 3), (134, .lcmp, 1), (135, .ifCond .eq 11, 3), (138, .lload_n 1, 1), (139, .ldc2_w 323, 3), (142, .lcmp, 1), (143, .ifCond .ne 25, 3), (146, .aload_n 0, 1), (147, .invokevirtual 262, 3), (150, .ifCond .ne 5, 3), (153, .iconst 0, 1), (154, .ireturn, 1), (155, .aload_n 0, 1), (156, .getfield 147, 3), (159, .aload_n 0, 1)],
  [(160, .getfield 338, 3), (163, .aload_n 0, 1), (164, .getfield 238, 3), (167, .lastore, 1), (168, .lload_n 1, 1), (169, .ldc2_w 323, 3), (172, .lcmp, 1), (173, .ifCond .eq 11, 3), (176, .lload_n 1, 1), (177, .ldc2_w 325, 3), (180, .lcmp, 1), (181, .ifCond .ne 48, 3), (184, .aload_n 0, 1), (185, .invokevirtual 344, 3), (188, .ifCond .ne 5, 3), (191, .iconst 0, 1)],
  [(192, .ireturn, 1), (193, .aload_n 0, 1), (194, .getfield 150, 3), (197, .aload_n 0, 1), (198, .getfield 338, 3), (201, .aload_n 0, 1), (202, .getfield 238, 3), (205, .lastore, 1), (206, .aload_n 0, 1), (207, .invokevirtual 341, 3), (210, .ifCond .ne 5, 3), (213, .iconst 0, 1), (214, .ireturn, 1), (215, .aload_n 0, 1), (216, .getfield 144, 3), (219, .aload_n 0, 1), (220, .getfield 338, 3), (223, .aload_n 0, 1)],
  [(224, .getfield 238, 3), (227, .l2i, 1), (228, .iastore, 1), (229, .aload_n 0, 1), (230, .dup, 1), (231, .getfield 338, 3), (234, .iconst 1, 1), (235, .iadd, 1), (236, .putfield 338, 3), (239, .iconst 1, 1), (240, .ireturn, 1)]]
/-- TreegrabModel.isScript()Z -/
def zc_168 : List (List (Nat × Instr × Nat)) := [[(0, .aload_n 0, 1), (1, .iconst 0, 1), (2, .putfield 338, 3), (5, .aload_n 0, 1), (6, .invokevirtual 256, 3), (9, .iconst (-1), 1), (10, .if_icmp .eq 7, 3), (13, .iconst 1, 1), (14, .goto 4, 3), (17, .iconst 0, 1), (18, .istore_n 1, 1), (19, .iload_n 1, 1), (20, .ifCond .eq 48, 3), (23, .aload_n 0, 1), (24, .invokevirtual 347, 3), (27, .ifCond .ne 5, 3), (30, .iconst 0, 1), (31, .ireturn, 1)],
  [(32, .aload_n 0, 1), (33, .invokevirtual 256, 3), (36, .bipush 59, 2), (38, .if_icmp .ne 7, 3), (41, .iconst 1, 1), (42, .goto 4, 3), (45, .iconst 0, 1), (46, .istore_n 1, 1), (47, .aload_n 0, 1), (48, .dup, 1), (49, .getfield 212, 3), (52, .iload_n 1, 1), (53, .ifCond .eq 7, 3), (56, .iconst 1, 1), (57, .goto 4, 3), (60, .iconst 0, 1), (61, .iadd, 1), (62, .putfield 212, 3)],
  [(65, .goto (-46), 3), (68, .aload_n 0, 1), (69, .invokevirtual 265, 3), (72, .ireturn, 1)]]
/-- TreegrabModel.takesScript()V -/
def zc_169 : List (List (Nat × Instr × Nat)) := [[(0, .aload_n 0, 1), (1, .aload_n 0, 1), (2, .getfield 338, 3), (5, .putfield 350, 3), (8, .iconst 0, 1), (9, .istore_n 1, 1), (10, .iload_n 1, 1), (11, .aload_n 0, 1), (12, .getfield 350, 3), (15, .if_icmp .ge 69, 3), (18, .aload_n 0, 1), (19, .getfield 123, 3), (22, .iload_n 1, 1), (23, .aload_n 0, 1), (24, .getfield 138, 3), (27, .iload_n 1, 1), (28, .laload, 1), (29, .lastore, 1), (30, .aload_n 0, 1), (31, .getfield 126, 3)],
  [(34, .iload_n 1, 1), (35, .aload_n 0, 1), (36, .getfield 141, 3), (39, .iload_n 1, 1), (40, .iaload, 1), (41, .iastore, 1), (42, .aload_n 0, 1), (43, .getfield 129, 3), (46, .iload_n 1, 1), (47, .aload_n 0, 1), (48, .getfield 144, 3), (51, .iload_n 1, 1), (52, .iaload, 1), (53, .iastore, 1), (54, .aload_n 0, 1), (55, .getfield 132, 3), (58, .iload_n 1, 1), (59, .aload_n 0, 1), (60, .getfield 147, 3), (63, .iload_n 1, 1)],
  [(64, .laload, 1), (65, .lastore, 1), (66, .aload_n 0, 1), (67, .getfield 135, 3), (70, .iload_n 1, 1), (71, .aload_n 0, 1), (72, .getfield 150, 3), (75, .iload_n 1, 1), (76, .laload, 1), (77, .lastore, 1), (78, .iinc 1 1, 3), (81, .goto (-71), 3), (84, .return_, 1)]]
/-- TreegrabModel.feed(JI)I -/
def zc_170 : List (List (Nat × Instr × Nat)) := [[(0, .aload_n 0, 1), (1, .iload_n 3, 1), (2, .iconst 1, 1), (3, .bipush 8, 2), (5, .invokestatic 208, 3), (8, .ifCond .ne 7, 3), (11, .iconst 1, 1), (12, .goto 20, 3), (15, .aload_n 0, 1), (16, .getfield 215, 3), (19, .iload_n 3, 1), (20, .iadd, 1), (21, .sipush 600, 3), (24, .if_icmp .le 7, 3), (27, .iconst 2, 1), (28, .goto 4, 3), (31, .iconst 0, 1)],
  [(32, .invokevirtual 353, 3), (35, .ifCond .ne 5, 3), (38, .iconst 0, 1), (39, .ireturn, 1), (40, .iconst 0, 1), (41, .istore 4, 2), (43, .iload 4, 2), (45, .iload_n 3, 1), (46, .if_icmp .ge 40, 3), (49, .aload_n 0, 1), (50, .getfield 7, 3), (53, .aload_n 0, 1), (54, .getfield 215, 3), (57, .lload_n 1, 1), (58, .bipush 8, 2), (60, .iload 4, 2), (62, .imul, 1), (63, .lshr, 1)],
  [(64, .ldc2_w 356, 3), (67, .land, 1), (68, .l2i, 1), (69, .iastore, 1), (70, .aload_n 0, 1), (71, .dup, 1), (72, .getfield 215, 3), (75, .iconst 1, 1), (76, .iadd, 1), (77, .putfield 215, 3), (80, .iinc 4 1, 3), (83, .goto (-40), 3), (86, .aload_n 0, 1), (87, .getfield 215, 3), (90, .ireturn, 1)]]
/-- TreegrabModel.isUsed(Z)Z -/
def zc_171 : List (List (Nat × Instr × Nat)) := [[(0, .aload_n 0, 1), (1, .iconst 0, 1), (2, .putfield 215, 3), (5, .aload_n 0, 1), (6, .iload_n 1, 1), (7, .ifCond .eq 7, 3), (10, .iconst 0, 1), (11, .goto 7, 3), (14, .aload_n 0, 1), (15, .getfield 226, 3), (18, .putfield 226, 3), (21, .aload_n 0, 1), (22, .iload_n 1, 1), (23, .ifCond .eq 7, 3), (26, .iconst 0, 1), (27, .goto 7, 3), (30, .aload_n 0, 1), (31, .getfield 229, 3)],
  [(34, .putfield 229, 3), (37, .aload_n 0, 1), (38, .iload_n 1, 1), (39, .ifCond .eq 7, 3), (42, .iconst (-1), 1), (43, .goto 7, 3), (46, .aload_n 0, 1), (47, .getfield 153, 3), (50, .putfield 153, 3), (53, .iload_n 1, 1), (54, .ireturn, 1)]]
/-- TreegrabModel.begins()V -/
def zc_172 : List (List (Nat × Instr × Nat)) := [[(0, .aload_n 0, 1), (1, .iconst 0, 1), (2, .putfield 212, 3), (5, .return_, 1)]]
/-- TreegrabModel.plant(I)I -/
def zc_173 : List (List (Nat × Instr × Nat)) := [[(0, .aload_n 0, 1), (1, .iload_n 1, 1), (2, .invokestatic 358, 3), (5, .ifCond .eq 7, 3), (8, .iconst 0, 1), (9, .goto 4, 3), (12, .iconst 1, 1), (13, .invokevirtual 353, 3), (16, .ifCond .ne 10, 3), (19, .aload_n 0, 1), (20, .iconst 0, 1), (21, .putfield 215, 3), (24, .iconst 0, 1), (25, .ireturn, 1), (26, .aload_n 0, 1), (27, .invokevirtual 361, 3), (30, .aload_n 0, 1), (31, .invokevirtual 364, 3)],
  [(34, .istore_n 2, 1), (35, .aload_n 0, 1), (36, .aload_n 0, 1), (37, .iload_n 2, 1), (38, .invokevirtual 367, 3), (41, .ifCond .eq 7, 3), (44, .iconst 0, 1), (45, .goto 4, 3), (48, .iconst 2, 1), (49, .invokevirtual 353, 3), (52, .ifCond .ne 5, 3), (55, .iconst 0, 1), (56, .ireturn, 1), (57, .aload_n 0, 1), (58, .getfield 13, 3), (61, .iload_n 1, 1), (62, .aload_n 0, 1), (63, .getfield 259, 3)],
  [(66, .iastore, 1), (67, .iconst 0, 1), (68, .istore_n 3, 1), (69, .iload_n 3, 1), (70, .aload_n 0, 1), (71, .getfield 259, 3), (74, .if_icmp .ge 43, 3), (77, .aload_n 0, 1), (78, .getfield 16, 3), (81, .bipush 20, 2), (83, .iload_n 1, 1), (84, .imul, 1), (85, .iload_n 3, 1), (86, .iadd, 1), (87, .aload_n 0, 1), (88, .getfield 23, 3), (91, .iload_n 3, 1), (92, .laload, 1), (93, .lastore, 1), (94, .aload_n 0, 1), (95, .getfield 20, 3)],
  [(98, .bipush 20, 2), (100, .iload_n 1, 1), (101, .imul, 1), (102, .iload_n 3, 1), (103, .iadd, 1), (104, .aload_n 0, 1), (105, .getfield 26, 3), (108, .iload_n 3, 1), (109, .iaload, 1), (110, .iastore, 1), (111, .iinc 3 1, 3), (114, .goto (-45), 3), (117, .aload_n 0, 1), (118, .iload_n 1, 1), (119, .invokevirtual 370, 3), (122, .aload_n 0, 1), (123, .getfield 259, 3), (126, .ireturn, 1)]]
/-- TreegrabModel.pattern()I -/
def zc_174 : List (List (Nat × Instr × Nat)) := [[(0, .aload_n 0, 1), (1, .invokevirtual 361, 3), (4, .aload_n 0, 1), (5, .invokevirtual 374, 3), (8, .istore_n 1, 1), (9, .aload_n 0, 1), (10, .aload_n 0, 1), (11, .iload_n 1, 1), (12, .invokevirtual 367, 3), (15, .ifCond .eq 7, 3), (18, .iconst 0, 1), (19, .goto 4, 3), (22, .iconst 1, 1), (23, .invokevirtual 353, 3), (26, .ifCond .ne 5, 3), (29, .iconst 0, 1), (30, .ireturn, 1), (31, .aload_n 0, 1)],
  [(32, .invokevirtual 377, 3), (35, .aload_n 0, 1), (36, .getfield 312, 3), (39, .ireturn, 1)]]
/-- TreegrabModel.script()I -/
def zc_175 : List (List (Nat × Instr × Nat)) := [[(0, .aload_n 0, 1), (1, .invokevirtual 361, 3), (4, .aload_n 0, 1), (5, .invokevirtual 380, 3), (8, .istore_n 1, 1), (9, .aload_n 0, 1), (10, .aload_n 0, 1), (11, .iload_n 1, 1), (12, .invokevirtual 367, 3), (15, .ifCond .eq 7, 3), (18, .iconst 0, 1), (19, .goto 4, 3), (22, .iconst 1, 1), (23, .invokevirtual 353, 3), (26, .ifCond .ne 5, 3), (29, .iconst 0, 1), (30, .ireturn, 1), (31, .aload_n 0, 1)],
  [(32, .invokevirtual 383, 3), (35, .aload_n 0, 1), (36, .getfield 350, 3), (39, .ireturn, 1)]]
/-- TreegrabModel.fault(Z)I -/
def zc_176 : List (List (Nat × Instr × Nat)) := [[(0, .aload_n 0, 1), (1, .iconst 0, 1), (2, .putfield 205, 3), (5, .iload_n 1, 1), (6, .ifCond .eq 10, 3), (9, .aload_n 0, 1), (10, .getfield 229, 3), (13, .goto 7, 3), (16, .aload_n 0, 1), (17, .getfield 226, 3), (20, .ireturn, 1)]]
/-- TreegrabModel.nodes(I)I -/
def zc_177 : List (List (Nat × Instr × Nat)) := [[(0, .aload_n 0, 1), (1, .iload_n 1, 1), (2, .invokestatic 358, 3), (5, .ifCond .eq 7, 3), (8, .iconst 0, 1), (9, .goto 4, 3), (12, .iconst 1, 1), (13, .invokevirtual 353, 3), (16, .ifCond .eq 12, 3), (19, .aload_n 0, 1), (20, .getfield 13, 3), (23, .iload_n 1, 1), (24, .iaload, 1), (25, .goto 4, 3), (28, .iconst 0, 1), (29, .ireturn, 1)]]
/-- TreegrabModel.asks(II)Z -/
def zc_178 : List (List (Nat × Instr × Nat)) := [[(0, .iload_n 1, 1), (1, .invokestatic 358, 3), (4, .ifCond .eq 11, 3), (7, .iload_n 2, 1), (8, .ifCond .lt 7, 3), (11, .iconst 1, 1), (12, .goto 4, 3), (15, .iconst 0, 1), (16, .istore_n 3, 1), (17, .aload_n 0, 1), (18, .iload_n 3, 1), (19, .ifCond .eq 17, 3), (22, .iload_n 2, 1), (23, .aload_n 0, 1), (24, .getfield 13, 3), (27, .iload_n 1, 1), (28, .iaload, 1), (29, .if_icmp .ge 7, 3)],
  [(32, .iconst 0, 1), (33, .goto 4, 3), (36, .iconst 1, 1), (37, .invokevirtual 353, 3), (40, .ireturn, 1)]]
/-- TreegrabModel.parent(II)I -/
def zc_179 : List (List (Nat × Instr × Nat)) := [[(0, .aload_n 0, 1), (1, .iload_n 1, 1), (2, .iload_n 2, 1), (3, .invokevirtual 386, 3), (6, .ifCond .eq 17, 3), (9, .aload_n 0, 1), (10, .getfield 20, 3), (13, .bipush 20, 2), (15, .iload_n 1, 1), (16, .imul, 1), (17, .iload_n 2, 1), (18, .iadd, 1), (19, .iaload, 1), (20, .goto 4, 3), (23, .iconst 0, 1), (24, .ireturn, 1)]]
/-- TreegrabModel.lays(I)V -/
def zc_180 : List (List (Nat × Instr × Nat)) := [[(0, .aload_n 0, 1), (1, .getfield 153, 3), (4, .iload_n 1, 1), (5, .if_icmp .ne 4, 3), (8, .return_, 1), (9, .aload_n 0, 1), (10, .iload_n 1, 1), (11, .putfield 153, 3), (14, .aload_n 0, 1), (15, .aload_n 0, 1), (16, .getfield 13, 3), (19, .iload_n 1, 1), (20, .iaload, 1), (21, .putfield 389, 3), (24, .aload_n 0, 1), (25, .iconst 0, 1), (26, .putfield 392, 3), (29, .iconst 0, 1), (30, .istore_n 2, 1), (31, .iload_n 2, 1)],
  [(32, .aload_n 0, 1), (33, .getfield 389, 3), (36, .if_icmp .ge 16, 3), (39, .aload_n 0, 1), (40, .getfield 166, 3), (43, .iload_n 2, 1), (44, .iconst 0, 1), (45, .iastore, 1), (46, .iinc 2 1, 3), (49, .goto (-18), 3), (52, .iconst 0, 1), (53, .istore_n 2, 1), (54, .iload_n 2, 1), (55, .aload_n 0, 1), (56, .getfield 389, 3), (59, .if_icmp .ge 49, 3), (62, .aload_n 0, 1), (63, .iload_n 2, 1)],
  [(64, .invokevirtual 396, 3), (67, .istore_n 3, 1), (68, .aload_n 0, 1), (69, .getfield 163, 3), (72, .iload_n 2, 1), (73, .iconst 0, 1), (74, .iastore, 1), (75, .iload_n 3, 1), (76, .iconst (-1), 1), (77, .if_icmp .eq 25, 3), (80, .aload_n 0, 1), (81, .getfield 166, 3), (84, .iload_n 3, 1), (85, .dup2, 1), (86, .iaload, 1), (87, .iconst 1, 1), (88, .iadd, 1), (89, .iastore, 1), (90, .aload_n 0, 1), (91, .getfield 163, 3), (94, .iload_n 2, 1), (95, .aload_n 0, 1)],
  [(96, .getfield 166, 3), (99, .iload_n 3, 1), (100, .iaload, 1), (101, .iastore, 1), (102, .iinc 2 1, 3), (105, .goto (-51), 3), (108, .iconst 0, 1), (109, .istore_n 2, 1), (110, .iconst 0, 1), (111, .istore_n 3, 1), (112, .iload_n 3, 1), (113, .aload_n 0, 1), (114, .getfield 389, 3), (117, .if_icmp .ge 33, 3), (120, .aload_n 0, 1), (121, .getfield 157, 3), (124, .iload_n 3, 1), (125, .iload_n 2, 1), (126, .iastore, 1), (127, .iload_n 2, 1)],
  [(128, .aload_n 0, 1), (129, .getfield 166, 3), (132, .iload_n 3, 1), (133, .iaload, 1), (134, .ifCond .ne 7, 3), (137, .iconst 1, 1), (138, .goto 4, 3), (141, .iconst 0, 1), (142, .iadd, 1), (143, .istore_n 2, 1), (144, .iinc 3 1, 3), (147, .goto (-35), 3), (150, .iconst 0, 1), (151, .istore_n 3, 1), (152, .iload_n 3, 1), (153, .aload_n 0, 1), (154, .getfield 389, 3), (157, .if_icmp .ge 79, 3)],
  [(160, .aload_n 0, 1), (161, .getfield 157, 3), (164, .iload_n 3, 1), (165, .iaload, 1), (166, .istore 4, 2), (168, .iload_n 3, 1), (169, .iconst 1, 1), (170, .iadd, 1), (171, .istore 5, 2), (173, .iload 5, 2), (175, .aload_n 0, 1), (176, .getfield 389, 3), (179, .if_icmp .ge 43, 3), (182, .aload_n 0, 1), (183, .iload 5, 2), (185, .iload_n 3, 1), (186, .invokevirtual 399, 3), (189, .ifCond .eq 23, 3)],
  [(192, .aload_n 0, 1), (193, .getfield 166, 3), (196, .iload 5, 2), (198, .iaload, 1), (199, .ifCond .ne 13, 3), (202, .aload_n 0, 1), (203, .getfield 157, 3), (206, .iload 5, 2), (208, .iaload, 1), (209, .goto 5, 3), (212, .iload 4, 2), (214, .istore 4, 2), (216, .iinc 5 1, 3), (219, .goto (-46), 3), (222, .aload_n 0, 1), (223, .getfield 160, 3)],
  [(226, .iload_n 3, 1), (227, .iload 4, 2), (229, .iastore, 1), (230, .iinc 3 1, 3), (233, .goto (-81), 3), (236, .return_, 1)]]
/-- TreegrabModel.parentOf(I)I -/
def zc_181 : List (List (Nat × Instr × Nat)) := [[(0, .aload_n 0, 1), (1, .getfield 20, 3), (4, .bipush 20, 2), (6, .aload_n 0, 1), (7, .getfield 153, 3), (10, .imul, 1), (11, .iload_n 1, 1), (12, .iadd, 1), (13, .iaload, 1), (14, .ireturn, 1)]]
/-- TreegrabModel.labelOf(I)J -/
def zc_182 : List (List (Nat × Instr × Nat)) := [[(0, .aload_n 0, 1), (1, .getfield 16, 3), (4, .bipush 20, 2), (6, .aload_n 0, 1), (7, .getfield 153, 3), (10, .imul, 1), (11, .iload_n 1, 1), (12, .iadd, 1), (13, .laload, 1), (14, .lreturn, 1)]]
/-- TreegrabModel.isBelow(II)Z -/
def zc_183 : List (List (Nat × Instr × Nat)) := [[(0, .aload_n 0, 1), (1, .iload_n 1, 1), (2, .invokevirtual 396, 3), (5, .istore_n 3, 1), (6, .iload_n 3, 1), (7, .iload_n 2, 1), (8, .if_icmp .le 12, 3), (11, .aload_n 0, 1), (12, .iload_n 3, 1), (13, .invokevirtual 396, 3), (16, .istore_n 3, 1), (17, .goto (-11), 3), (20, .iload_n 3, 1), (21, .iload_n 2, 1), (22, .if_icmp .ne 7, 3), (25, .iconst 1, 1), (26, .goto 4, 3), (29, .iconst 0, 1), (30, .ireturn, 1)]]
/-- TreegrabModel.children(II)I -/
def zc_184 : List (List (Nat × Instr × Nat)) := [[(0, .aload_n 0, 1), (1, .iload_n 1, 1), (2, .iload_n 2, 1), (3, .invokevirtual 386, 3), (6, .ifCond .ne 5, 3), (9, .iconst 0, 1), (10, .ireturn, 1), (11, .aload_n 0, 1), (12, .iload_n 1, 1), (13, .invokevirtual 402, 3), (16, .aload_n 0, 1), (17, .getfield 166, 3), (20, .iload_n 2, 1), (21, .iaload, 1), (22, .ireturn, 1)]]
/-- TreegrabModel.wordOf(IIZ)I -/
def zc_185 : List (List (Nat × Instr × Nat)) := [[(0, .aload_n 0, 1), (1, .iload_n 1, 1), (2, .iload_n 2, 1), (3, .invokevirtual 386, 3), (6, .ifCond .ne 5, 3), (9, .iconst 0, 1), (10, .ireturn, 1), (11, .aload_n 0, 1), (12, .iload_n 1, 1), (13, .invokevirtual 402, 3), (16, .iload_n 3, 1), (17, .ifCond .eq 12, 3), (20, .aload_n 0, 1), (21, .getfield 160, 3), (24, .iload_n 2, 1), (25, .iaload, 1), (26, .goto 9, 3), (29, .aload_n 0, 1), (30, .getfield 157, 3)],
  [(33, .iload_n 2, 1), (34, .iaload, 1), (35, .ireturn, 1)]]
/-- TreegrabModel.labelled(I)I -/
def zc_186 : List (List (Nat × Instr × Nat)) := [[(0, .lconst 0, 1), (1, .lstore_n 2, 1), (2, .aload_n 0, 1), (3, .getfield 215, 3), (6, .iconst 1, 1), (7, .bipush 6, 2), (9, .invokestatic 208, 3), (12, .istore 4, 2), (14, .iconst 0, 1), (15, .istore 5, 2), (17, .iload 5, 2), (19, .aload_n 0, 1), (20, .getfield 215, 3), (23, .if_icmp .ge 48, 3), (26, .iload 4, 2), (28, .ifCond .eq 43, 3), (31, .aload_n 0, 1)],
  [(32, .getfield 7, 3), (35, .iload 5, 2), (37, .iaload, 1), (38, .ifCond .le 7, 3), (41, .iconst 1, 1), (42, .goto 4, 3), (45, .iconst 0, 1), (46, .istore 4, 2), (48, .lload_n 2, 1), (49, .aload_n 0, 1), (50, .getfield 7, 3), (53, .iload 5, 2), (55, .iaload, 1), (56, .i2l, 1), (57, .bipush 8, 2), (59, .iload 5, 2), (61, .imul, 1), (62, .lshl, 1), (63, .lor, 1)],
  [(64, .lstore_n 2, 1), (65, .iinc 5 1, 3), (68, .goto (-51), 3), (71, .aload_n 0, 1), (72, .iconst 0, 1), (73, .putfield 215, 3), (76, .iconst 0, 1), (77, .istore 5, 2), (79, .aload_n 0, 1), (80, .iload_n 1, 1), (81, .invokestatic 358, 3), (84, .ifCond .eq 7, 3), (87, .iconst 0, 1), (88, .goto 4, 3), (91, .iconst 1, 1), (92, .invokevirtual 353, 3), (95, .ifCond .eq 55, 3)],
  [(98, .iconst 0, 1), (99, .istore 6, 2), (101, .iload 6, 2), (103, .aload_n 0, 1), (104, .getfield 13, 3), (107, .iload_n 1, 1), (108, .iaload, 1), (109, .if_icmp .ge 41, 3), (112, .iload 4, 2), (114, .ifCond .eq 36, 3), (117, .iload 5, 2), (119, .aload_n 0, 1), (120, .getfield 16, 3), (123, .bipush 20, 2), (125, .iload_n 1, 1), (126, .imul, 1), (127, .iload 6, 2)],
  [(129, .iadd, 1), (130, .laload, 1), (131, .lload_n 2, 1), (132, .lcmp, 1), (133, .ifCond .ne 7, 3), (136, .iconst 1, 1), (137, .goto 4, 3), (140, .iconst 0, 1), (141, .iadd, 1), (142, .istore 5, 2), (144, .iinc 6 1, 3), (147, .goto (-46), 3), (150, .iload 5, 2), (152, .ireturn, 1)]]
/-- TreegrabModel.withLabel(I)I -/
def zc_187 : List (List (Nat × Instr × Nat)) := [[(0, .aload_n 0, 1), (1, .iload_n 1, 1), (2, .invokevirtual 405, 3), (5, .ireturn, 1)]]
/-- TreegrabModel.withLabelByWalk(I)I -/
def zc_188 : List (List (Nat × Instr × Nat)) := [[(0, .aload_n 0, 1), (1, .iload_n 1, 1), (2, .invokevirtual 405, 3), (5, .ireturn, 1)]]
/-- TreegrabModel.isOver(IIII)Z -/
def zc_189 : List (List (Nat × Instr × Nat)) := [[(0, .aload_n 0, 1), (1, .iload 4, 2), (3, .invokevirtual 396, 3), (6, .iload_n 3, 1), (7, .if_icmp .ne 7, 3), (10, .iconst 1, 1), (11, .goto 4, 3), (14, .iconst 0, 1), (15, .istore 5, 2), (17, .iload_n 1, 1), (18, .iconst 3, 1), (19, .if_icmp .ge 21, 3), (22, .iload_n 1, 1), (23, .iconst 1, 1), (24, .if_icmp .ne 8, 3), (27, .iload 5, 2), (29, .goto 10, 3)],
  [(32, .aload_n 0, 1), (33, .iload 4, 2), (35, .iload_n 3, 1), (36, .invokevirtual 399, 3), (39, .ireturn, 1), (40, .iload 5, 2), (42, .ifCond .eq 64, 3), (45, .iload_n 1, 1), (46, .iconst 3, 1), (47, .if_icmp .ne 16, 3), (50, .aload_n 0, 1), (51, .getfield 166, 3), (54, .iload_n 3, 1), (55, .iaload, 1), (56, .iconst 1, 1), (57, .if_icmp .ne 49, 3), (60, .goto 42, 3), (63, .iload_n 1, 1)],
  [(64, .iconst 4, 1), (65, .if_icmp .ne 17, 3), (68, .aload_n 0, 1), (69, .getfield 163, 3), (72, .iload 4, 2), (74, .iaload, 1), (75, .iload_n 2, 1), (76, .if_icmp .ne 30, 3), (79, .goto 23, 3), (82, .aload_n 0, 1), (83, .getfield 166, 3), (86, .iload_n 3, 1), (87, .iaload, 1), (88, .iconst 1, 1), (89, .iadd, 1), (90, .aload_n 0, 1), (91, .getfield 163, 3), (94, .iload 4, 2)],
  [(96, .iaload, 1), (97, .isub, 1), (98, .iload_n 2, 1), (99, .if_icmp .ne 7, 3), (102, .iconst 1, 1), (103, .goto 4, 3), (106, .iconst 0, 1), (107, .ireturn, 1)]]
/-- TreegrabModel.isBeside(III)Z -/
def zc_190 : List (List (Nat × Instr × Nat)) := [[(0, .iload_n 2, 1), (1, .iload_n 3, 1), (2, .if_icmp .eq 29, 3), (5, .aload_n 0, 1), (6, .iload_n 2, 1), (7, .invokevirtual 396, 3), (10, .iconst (-1), 1), (11, .if_icmp .eq 20, 3), (14, .aload_n 0, 1), (15, .iload_n 2, 1), (16, .invokevirtual 396, 3), (19, .aload_n 0, 1), (20, .iload_n 3, 1), (21, .invokevirtual 396, 3), (24, .if_icmp .ne 7, 3), (27, .iconst 1, 1), (28, .goto 4, 3), (31, .iconst 0, 1)],
  [(32, .istore 4, 2), (34, .aload_n 0, 1), (35, .getfield 163, 3), (38, .iload_n 3, 1), (39, .iaload, 1), (40, .aload_n 0, 1), (41, .getfield 163, 3), (44, .iload_n 2, 1), (45, .iaload, 1), (46, .isub, 1), (47, .istore 5, 2), (49, .iload 4, 2), (51, .ifCond .eq 59, 3), (54, .iload_n 1, 1), (55, .bipush 15, 2), (57, .if_icmp .eq 49, 3), (60, .iload_n 1, 1), (61, .bipush 16, 2), (63, .if_icmp .ne 9, 3)],
  [(66, .iload 5, 2), (68, .iconst 1, 1), (69, .if_icmp .eq 37, 3), (72, .iload_n 1, 1), (73, .bipush 17, 2), (75, .if_icmp .ne 8, 3), (78, .iload 5, 2), (80, .ifCond .gt 26, 3), (83, .iload_n 1, 1), (84, .bipush 18, 2), (86, .if_icmp .ne 9, 3), (89, .iload 5, 2), (91, .iconst (-1), 1), (92, .if_icmp .eq 14, 3), (95, .iload_n 1, 1)],
  [(96, .bipush 19, 2), (98, .if_icmp .ne 12, 3), (101, .iload 5, 2), (103, .ifCond .ge 7, 3), (106, .iconst 1, 1), (107, .goto 4, 3), (110, .iconst 0, 1), (111, .ireturn, 1)]]
/-- TreegrabModel.holds(III)Z -/
def zc_191 : List (List (Nat × Instr × Nat)) := [[(0, .aload_n 0, 1), (1, .getfield 69, 3), (4, .iload_n 1, 1), (5, .iaload, 1), (6, .istore 4, 2), (8, .iload 4, 2), (10, .bipush 11, 2), (12, .if_icmp .ge 44, 3), (15, .iload 4, 2), (17, .bipush 6, 2), (19, .if_icmp .ge 20, 3), (22, .aload_n 0, 1), (23, .iload 4, 2), (25, .aload_n 0, 1), (26, .getfield 72, 3), (29, .iload_n 1, 1), (30, .iaload, 1), (31, .iload_n 2, 1)],
  [(32, .iload_n 3, 1), (33, .invokevirtual 408, 3), (36, .goto 19, 3), (39, .aload_n 0, 1), (40, .iload 4, 2), (42, .iconst 5, 1), (43, .isub, 1), (44, .aload_n 0, 1), (45, .getfield 72, 3), (48, .iload_n 1, 1), (49, .iaload, 1), (50, .iload_n 3, 1), (51, .iload_n 2, 1), (52, .invokevirtual 408, 3), (55, .ireturn, 1), (56, .iload 4, 2), (58, .bipush 14, 2), (60, .if_icmp .le 12, 3), (63, .aload_n 0, 1)],
  [(64, .iload 4, 2), (66, .iload_n 2, 1), (67, .iload_n 3, 1), (68, .invokevirtual 411, 3), (71, .ireturn, 1), (72, .iload 4, 2), (74, .bipush 13, 2), (76, .if_icmp .ge 19, 3), (79, .aload_n 0, 1), (80, .getfield 157, 3), (83, .iload_n 3, 1), (84, .iaload, 1), (85, .aload_n 0, 1), (86, .getfield 160, 3), (89, .iload_n 2, 1), (90, .iaload, 1), (91, .isub, 1), (92, .goto 16, 3), (95, .aload_n 0, 1)],
  [(96, .getfield 157, 3), (99, .iload_n 2, 1), (100, .iaload, 1), (101, .aload_n 0, 1), (102, .getfield 160, 3), (105, .iload_n 3, 1), (106, .iaload, 1), (107, .isub, 1), (108, .istore 5, 2), (110, .iload 4, 2), (112, .iconst 2, 1), (113, .irem, 1), (114, .iconst 1, 1), (115, .if_icmp .ne 17, 3), (118, .iload 5, 2), (120, .iconst 1, 1), (121, .if_icmp .ne 7, 3), (124, .iconst 1, 1), (125, .goto 17, 3)],
  [(128, .iconst 0, 1), (129, .goto 13, 3), (132, .iload 5, 2), (134, .ifCond .le 7, 3), (137, .iconst 1, 1), (138, .goto 4, 3), (141, .iconst 0, 1), (142, .ireturn, 1)]]
/-- TreegrabModel.isInSet(IJ)Z -/
def zc_192 : List (List (Nat × Instr × Nat)) := [[(0, .iconst 0, 1), (1, .istore 4, 2), (3, .iconst 0, 1), (4, .istore 5, 2), (6, .iload 5, 2), (8, .aload_n 0, 1), (9, .getfield 44, 3), (12, .iload_n 1, 1), (13, .iaload, 1), (14, .if_icmp .ge 40, 3), (17, .iload 4, 2), (19, .ifCond .ne 22, 3), (22, .aload_n 0, 1), (23, .getfield 75, 3), (26, .aload_n 0, 1), (27, .getfield 41, 3), (30, .iload_n 1, 1), (31, .iaload, 1)],
  [(32, .iload 5, 2), (34, .iadd, 1), (35, .laload, 1), (36, .lload_n 2, 1), (37, .lcmp, 1), (38, .ifCond .ne 7, 3), (41, .iconst 1, 1), (42, .goto 4, 3), (45, .iconst 0, 1), (46, .istore 4, 2), (48, .iinc 5 1, 3), (51, .goto (-45), 3), (54, .iload 4, 2), (56, .ireturn, 1)]]
/-- TreegrabModel.fitsAlone(II)Z -/
def zc_193 : List (List (Nat × Instr × Nat)) := [[(0, .aload_n 0, 1), (1, .getfield 38, 3), (4, .iload_n 1, 1), (5, .iaload, 1), (6, .iconst 1, 1), (7, .if_icmp .ne 16, 3), (10, .aload_n 0, 1), (11, .iload_n 1, 1), (12, .aload_n 0, 1), (13, .iload_n 2, 1), (14, .invokevirtual 414, 3), (17, .invokevirtual 418, 3), (20, .goto 31, 3), (23, .aload_n 0, 1), (24, .getfield 38, 3), (27, .iload_n 1, 1), (28, .iaload, 1), (29, .iconst 2, 1), (30, .if_icmp .ne 16, 3)],
  [(33, .aload_n 0, 1), (34, .iload_n 1, 1), (35, .aload_n 0, 1), (36, .iload_n 2, 1), (37, .invokevirtual 414, 3), (40, .invokevirtual 418, 3), (43, .ifCond .ne 7, 3), (46, .iconst 1, 1), (47, .goto 4, 3), (50, .iconst 0, 1), (51, .ireturn, 1)]]
/-- TreegrabModel.fits(II)Z -/
def zc_194 : List (List (Nat × Instr × Nat)) := [[(0, .aload_n 0, 1), (1, .getfield 38, 3), (4, .iload_n 1, 1), (5, .iaload, 1), (6, .iconst 3, 1), (7, .if_icmp .ne 33, 3), (10, .aload_n 0, 1), (11, .iload_n 2, 1), (12, .invokevirtual 414, 3), (15, .aload_n 0, 1), (16, .aload_n 0, 1), (17, .getfield 169, 3), (20, .aload_n 0, 1), (21, .getfield 47, 3), (24, .iload_n 1, 1), (25, .iaload, 1), (26, .iaload, 1), (27, .invokevirtual 414, 3), (30, .lcmp, 1), (31, .ifCond .ne 7, 3)],
  [(34, .iconst 1, 1), (35, .goto 4, 3), (38, .iconst 0, 1), (39, .ireturn, 1), (40, .aload_n 0, 1), (41, .getfield 38, 3), (44, .iload_n 1, 1), (45, .iaload, 1), (46, .iconst 4, 1), (47, .if_icmp .ne 26, 3), (50, .iload_n 2, 1), (51, .aload_n 0, 1), (52, .getfield 169, 3), (55, .aload_n 0, 1), (56, .getfield 47, 3), (59, .iload_n 1, 1), (60, .iaload, 1), (61, .iaload, 1), (62, .if_icmp .ne 7, 3)],
  [(65, .iconst 1, 1), (66, .goto 13, 3), (69, .iconst 0, 1), (70, .goto 9, 3), (73, .aload_n 0, 1), (74, .iload_n 1, 1), (75, .iload_n 2, 1), (76, .invokevirtual 422, 3), (79, .ireturn, 1)]]
/-- TreegrabModel.valueOf(I)I -/
def zc_195 : List (List (Nat × Instr × Nat)) := [[(0, .aload_n 0, 1), (1, .getfield 38, 3), (4, .iload_n 1, 1), (5, .iaload, 1), (6, .iconst 4, 1), (7, .if_icmp .ne 17, 3), (10, .aload_n 0, 1), (11, .getfield 169, 3), (14, .aload_n 0, 1), (15, .getfield 47, 3), (18, .iload_n 1, 1), (19, .iaload, 1), (20, .iaload, 1), (21, .goto 9, 3), (24, .aload_n 0, 1), (25, .getfield 169, 3), (28, .iload_n 1, 1), (29, .iaload, 1), (30, .ireturn, 1)]]
/-- TreegrabModel.isInPart(I)Z -/
def zc_196 : List (List (Nat × Instr × Nat)) := [[(0, .aload_n 0, 1), (1, .getfield 59, 3), (4, .iload_n 1, 1), (5, .baload, 1), (6, .ifCond .ne 12, 3), (9, .aload_n 0, 1), (10, .getfield 56, 3), (13, .iload_n 1, 1), (14, .iaload, 1), (15, .ifCond .le 7, 3), (18, .iconst 1, 1), (19, .goto 4, 3), (22, .iconst 0, 1), (23, .ireturn, 1)]]
/-- TreegrabModel.isSome(II)Z -/
def zc_197 : List (List (Nat × Instr × Nat)) := [[(0, .iconst 0, 1), (1, .istore_n 3, 1), (2, .iconst 0, 1), (3, .istore 4, 2), (5, .iload 4, 2), (7, .aload_n 0, 1), (8, .getfield 389, 3), (11, .if_icmp .ge 45, 3), (14, .iload_n 3, 1), (15, .ifCond .ne 41, 3), (18, .aload_n 0, 1), (19, .getfield 172, 3), (22, .bipush 20, 2), (24, .iload_n 1, 1), (25, .imul, 1), (26, .iload 4, 2), (28, .iadd, 1), (29, .baload, 1), (30, .ifCond .eq 18, 3)],
  [(33, .aload_n 0, 1), (34, .iload_n 1, 1), (35, .iload_n 2, 1), (36, .iload 4, 2), (38, .invokevirtual 425, 3), (41, .ifCond .eq 7, 3), (44, .iconst 1, 1), (45, .goto 4, 3), (48, .iconst 0, 1), (49, .istore_n 3, 1), (50, .iinc 4 1, 3), (53, .goto (-48), 3), (56, .iload_n 3, 1), (57, .ireturn, 1)]]
/-- TreegrabModel.laysParts()V -/
def zc_198 : List (List (Nat × Instr × Nat)) := [[(0, .aload_n 0, 1), (1, .getfield 306, 3), (4, .iconst 1, 1), (5, .isub, 1), (6, .istore_n 1, 1), (7, .iload_n 1, 1), (8, .ifCond .le 120, 3), (11, .iconst 0, 1), (12, .istore_n 2, 1), (13, .iload_n 2, 1), (14, .aload_n 0, 1), (15, .getfield 389, 3), (18, .if_icmp .ge 104, 3), (21, .aload_n 0, 1), (22, .iload_n 1, 1), (23, .invokevirtual 428, 3), (26, .ifCond .eq 96, 3), (29, .aload_n 0, 1), (30, .iload_n 1, 1), (31, .iload_n 2, 1)],
  [(32, .invokevirtual 431, 3), (35, .istore_n 3, 1), (36, .iload_n 1, 1), (37, .iconst 1, 1), (38, .iadd, 1), (39, .istore 4, 2), (41, .iload 4, 2), (43, .aload_n 0, 1), (44, .getfield 306, 3), (47, .if_icmp .ge 57, 3), (50, .iload_n 3, 1), (51, .ifCond .eq 53, 3), (54, .aload_n 0, 1), (55, .getfield 63, 3), (58, .iload 4, 2), (60, .iaload, 1), (61, .iload_n 1, 1), (62, .if_icmp .ne 30, 3)],
  [(65, .aload_n 0, 1), (66, .iload 4, 2), (68, .iload_n 2, 1), (69, .invokevirtual 434, 3), (72, .aload_n 0, 1), (73, .getfield 66, 3), (76, .iload 4, 2), (78, .iaload, 1), (79, .bipush 33, 2), (81, .if_icmp .eq 7, 3), (84, .iconst 1, 1), (85, .goto 4, 3), (88, .iconst 0, 1), (89, .if_icmp .ne 7, 3), (92, .iconst 1, 1), (93, .goto 4, 3)],
  [(96, .iconst 0, 1), (97, .istore_n 3, 1), (98, .iinc 4 1, 3), (101, .goto (-60), 3), (104, .aload_n 0, 1), (105, .getfield 172, 3), (108, .bipush 20, 2), (110, .iload_n 1, 1), (111, .imul, 1), (112, .iload_n 2, 1), (113, .iadd, 1), (114, .iload_n 3, 1), (115, .bastore, 1), (116, .iinc 2 1, 3), (119, .goto (-106), 3), (122, .iinc 1 (-1), 3), (125, .goto (-118), 3)],
  [(128, .return_, 1)]]
/-- TreegrabModel.isGiven(I)Z -/
def zc_199 : List (List (Nat × Instr × Nat)) := [[(0, .iconst 0, 1), (1, .istore_n 2, 1), (2, .iconst 0, 1), (3, .istore_n 3, 1), (4, .iload_n 3, 1), (5, .aload_n 0, 1), (6, .getfield 306, 3), (9, .if_icmp .ge 49, 3), (12, .iload_n 2, 1), (13, .ifCond .ne 33, 3), (16, .aload_n 0, 1), (17, .getfield 56, 3), (20, .iload_n 3, 1), (21, .iaload, 1), (22, .iload_n 1, 1), (23, .if_icmp .ne 27, 3), (26, .aload_n 0, 1), (27, .getfield 50, 3), (30, .iload_n 3, 1), (31, .iaload, 1)],
  [(32, .iconst (-1), 1), (33, .if_icmp .eq 17, 3), (36, .aload_n 0, 1), (37, .getfield 169, 3), (40, .iload_n 3, 1), (41, .iaload, 1), (42, .iconst (-1), 1), (43, .if_icmp .eq 7, 3), (46, .iconst 1, 1), (47, .goto 4, 3), (50, .iconst 0, 1), (51, .istore_n 2, 1), (52, .iinc 3 1, 3), (55, .goto (-51), 3), (58, .iload_n 2, 1), (59, .ireturn, 1)]]
/-- TreegrabModel.hasNumbers(I)Z -/
def zc_200 : List (List (Nat × Instr × Nat)) := [[(0, .iconst 0, 1), (1, .istore_n 2, 1), (2, .iconst 0, 1), (3, .istore_n 3, 1), (4, .iload_n 3, 1), (5, .aload_n 0, 1), (6, .getfield 306, 3), (9, .if_icmp .ge 39, 3), (12, .iload_n 2, 1), (13, .ifCond .ne 23, 3), (16, .aload_n 0, 1), (17, .getfield 56, 3), (20, .iload_n 3, 1), (21, .iaload, 1), (22, .iload_n 1, 1), (23, .if_icmp .ne 17, 3), (26, .aload_n 0, 1), (27, .getfield 50, 3), (30, .iload_n 3, 1), (31, .iaload, 1)],
  [(32, .iconst (-1), 1), (33, .if_icmp .eq 7, 3), (36, .iconst 1, 1), (37, .goto 4, 3), (40, .iconst 0, 1), (41, .istore_n 2, 1), (42, .iinc 3 1, 3), (45, .goto (-41), 3), (48, .iload_n 2, 1), (49, .ireturn, 1)]]
/-- TreegrabModel.isSo(I)Z -/
def zc_201 : List (List (Nat × Instr × Nat)) := [[(0, .aload_n 0, 1), (1, .getfield 63, 3), (4, .iload_n 1, 1), (5, .iaload, 1), (6, .istore_n 2, 1), (7, .aload_n 0, 1), (8, .getfield 56, 3), (11, .iload_n 1, 1), (12, .iaload, 1), (13, .iload_n 1, 1), (14, .iconst 1, 1), (15, .iadd, 1), (16, .if_icmp .ne 18, 3), (19, .aload_n 0, 1), (20, .getfield 66, 3), (23, .iload_n 1, 1), (24, .iaload, 1), (25, .bipush 63, 2), (27, .if_icmp .ne 7, 3), (30, .iconst 1, 1), (31, .goto 4, 3)],
  [(34, .iconst 0, 1), (35, .istore_n 3, 1), (36, .aload_n 0, 1), (37, .getfield 59, 3), (40, .iload_n 2, 1), (41, .baload, 1), (42, .ifCond .ne 25, 3), (45, .aload_n 0, 1), (46, .getfield 56, 3), (49, .iload_n 2, 1), (50, .iaload, 1), (51, .ifCond .le 18, 3), (54, .aload_n 0, 1), (55, .aload_n 0, 1), (56, .getfield 56, 3), (59, .iload_n 2, 1), (60, .iaload, 1), (61, .invokevirtual 437, 3)],
  [(64, .ifCond .ne 5, 3), (67, .iconst 1, 1), (68, .ireturn, 1), (69, .aload_n 0, 1), (70, .iload_n 2, 1), (71, .invokevirtual 440, 3), (74, .istore 4, 2), (76, .aload_n 0, 1), (77, .getfield 66, 3), (80, .iload_n 1, 1), (81, .iaload, 1), (82, .bipush 33, 2), (84, .if_icmp .ne 19, 3), (87, .aload_n 0, 1), (88, .iload_n 1, 1), (89, .iload 4, 2), (91, .invokevirtual 434, 3), (94, .ifCond .ne 7, 3)],
  [(97, .iconst 1, 1), (98, .goto 4, 3), (101, .iconst 0, 1), (102, .ireturn, 1), (103, .iload_n 3, 1), (104, .ifCond .eq 18, 3), (107, .aload_n 0, 1), (108, .aload_n 0, 1), (109, .getfield 56, 3), (112, .iload_n 1, 1), (113, .iaload, 1), (114, .invokevirtual 443, 3), (117, .ifCond .ne 5, 3), (120, .iconst 1, 1), (121, .ireturn, 1), (122, .iload_n 3, 1), (123, .ifCond .eq 34, 3), (126, .aload_n 0, 1), (127, .aload_n 0, 1)],
  [(128, .getfield 56, 3), (131, .iload_n 1, 1), (132, .iaload, 1), (133, .invokevirtual 437, 3), (136, .ifCond .ne 21, 3), (139, .aload_n 0, 1), (140, .iload_n 1, 1), (141, .iload 4, 2), (143, .invokevirtual 434, 3), (146, .ifCond .ne 7, 3), (149, .iconst 1, 1), (150, .goto 19, 3), (153, .iconst 0, 1), (154, .goto 15, 3), (157, .aload_n 0, 1), (158, .iload_n 1, 1), (159, .iload 4, 2)],
  [(161, .aload_n 0, 1), (162, .iload_n 1, 1), (163, .invokevirtual 440, 3), (166, .invokevirtual 425, 3), (169, .ireturn, 1)]]
/-- TreegrabModel.isMatch()Z -/
def zc_202 : List (List (Nat × Instr × Nat)) := [[(0, .aload_n 0, 1), (1, .invokevirtual 446, 3), (4, .iconst 1, 1), (5, .istore_n 1, 1), (6, .iconst 1, 1), (7, .istore_n 2, 1), (8, .iload_n 2, 1), (9, .aload_n 0, 1), (10, .getfield 306, 3), (13, .if_icmp .ge 19, 3), (16, .iload_n 1, 1), (17, .ifCond .eq 15, 3), (20, .aload_n 0, 1), (21, .iload_n 2, 1), (22, .invokevirtual 449, 3), (25, .istore_n 1, 1), (26, .iinc 2 1, 3), (29, .goto (-21), 3)],
  [(32, .iload_n 1, 1), (33, .ireturn, 1)]]
/-- TreegrabModel.can(I)Z -/
def zc_203 : List (List (Nat × Instr × Nat)) := [[(0, .aload_n 0, 1), (1, .getfield 78, 3), (4, .iload_n 1, 1), (5, .iaload, 1), (6, .istore_n 2, 1), (7, .aload_n 0, 1), (8, .getfield 169, 3), (11, .iload_n 2, 1), (12, .iaload, 1), (13, .istore_n 3, 1), (14, .iconst 1, 1), (15, .istore 4, 2), (17, .iconst 0, 1), (18, .istore 5, 2), (20, .iload 5, 2), (22, .iload_n 1, 1), (23, .if_icmp .ge 84, 3), (26, .aload_n 0, 1), (27, .getfield 78, 3), (30, .iload 5, 2)],
  [(32, .iaload, 1), (33, .istore 6, 2), (35, .iload 4, 2), (37, .ifCond .eq 61, 3), (40, .aload_n 0, 1), (41, .getfield 56, 3), (44, .iload_n 2, 1), (45, .iaload, 1), (46, .ifCond .eq 48, 3), (49, .aload_n 0, 1), (50, .getfield 56, 3), (53, .iload 6, 2), (55, .iaload, 1), (56, .aload_n 0, 1), (57, .getfield 56, 3), (60, .iload_n 2, 1), (61, .iaload, 1), (62, .if_icmp .ne 32, 3)],
  [(65, .aload_n 0, 1), (66, .getfield 169, 3), (69, .iload 6, 2), (71, .iaload, 1), (72, .iconst (-1), 1), (73, .if_icmp .ne 7, 3), (76, .iconst 1, 1), (77, .goto 4, 3), (80, .iconst 0, 1), (81, .iload_n 3, 1), (82, .iconst (-1), 1), (83, .if_icmp .ne 7, 3), (86, .iconst 1, 1), (87, .goto 4, 3), (90, .iconst 0, 1), (91, .if_icmp .ne 7, 3), (94, .iconst 1, 1), (95, .goto 4, 3)],
  [(98, .iconst 0, 1), (99, .istore 4, 2), (101, .iinc 5 1, 3), (104, .goto (-84), 3), (107, .iload 4, 2), (109, .ifCond .eq 8, 3), (112, .iload_n 3, 1), (113, .iconst (-1), 1), (114, .if_icmp .ne 6, 3), (117, .iload 4, 2), (119, .ireturn, 1), (120, .aload_n 0, 1), (121, .iload_n 2, 1), (122, .iload_n 3, 1), (123, .invokevirtual 431, 3), (126, .ifCond .eq 30, 3)],
  [(129, .iload_n 2, 1), (130, .ifCond .eq 22, 3), (133, .aload_n 0, 1), (134, .iload_n 2, 1), (135, .aload_n 0, 1), (136, .aload_n 0, 1), (137, .getfield 63, 3), (140, .iload_n 2, 1), (141, .iaload, 1), (142, .invokevirtual 440, 3), (145, .iload_n 3, 1), (146, .invokevirtual 425, 3), (149, .ifCond .eq 7, 3), (152, .iconst 1, 1), (153, .goto 4, 3), (156, .iconst 0, 1), (157, .ireturn, 1)]]
/-- TreegrabModel.least(I)I -/
def zc_204 : List (List (Nat × Instr × Nat)) := [[(0, .aload_n 0, 1), (1, .getfield 56, 3), (4, .aload_n 0, 1), (5, .getfield 78, 3), (8, .iload_n 1, 1), (9, .iaload, 1), (10, .iaload, 1), (11, .ifCond .le 7, 3), (14, .iconst (-1), 1), (15, .goto 4, 3), (18, .iconst 0, 1), (19, .ireturn, 1)]]
/-- TreegrabModel.keeps()V -/
def zc_205 : List (List (Nat × Instr × Nat)) := [[(0, .iconst 0, 1), (1, .istore_n 1, 1), (2, .iconst 0, 1), (3, .istore_n 2, 1), (4, .iload_n 2, 1), (5, .aload_n 0, 1), (6, .getfield 312, 3), (9, .if_icmp .ge 29, 3), (12, .iload_n 1, 1), (13, .aload_n 0, 1), (14, .getfield 169, 3), (17, .aload_n 0, 1), (18, .getfield 78, 3), (21, .iload_n 2, 1), (22, .iaload, 1), (23, .iaload, 1), (24, .iconst 1, 1), (25, .iadd, 1), (26, .iconst 5, 1), (27, .iload_n 2, 1), (28, .imul, 1), (29, .ishl, 1), (30, .ior, 1), (31, .istore_n 1, 1)],
  [(32, .iinc 2 1, 3), (35, .goto (-31), 3), (38, .aload_n 0, 1), (39, .getfield 452, 3), (42, .sipush 4096, 3), (45, .if_icmp .ge 13, 3), (48, .aload_n 0, 1), (49, .getfield 178, 3), (52, .aload_n 0, 1), (53, .getfield 452, 3), (56, .iload_n 1, 1), (57, .iastore, 1), (58, .aload_n 0, 1), (59, .dup, 1), (60, .getfield 452, 3), (63, .iconst 1, 1)],
  [(64, .iadd, 1), (65, .putfield 452, 3), (68, .return_, 1)]]
/-- TreegrabModel.finds(I)V -/
def zc_206 : List (List (Nat × Instr × Nat)) := [[(0, .aload_n 0, 1), (1, .iconst 0, 1), (2, .putfield 452, 3), (5, .iconst 0, 1), (6, .istore_n 2, 1), (7, .aload_n 0, 1), (8, .getfield 175, 3), (11, .iconst 0, 1), (12, .aload_n 0, 1), (13, .iconst 0, 1), (14, .invokevirtual 455, 3), (17, .iconst 1, 1), (18, .isub, 1), (19, .iastore, 1), (20, .iload_n 2, 1), (21, .ifCond .lt 122, 3), (24, .aload_n 0, 1), (25, .getfield 175, 3), (28, .iload_n 2, 1), (29, .dup2, 1), (30, .iaload, 1), (31, .iconst 1, 1)],
  [(32, .iadd, 1), (33, .iastore, 1), (34, .aload_n 0, 1), (35, .getfield 175, 3), (38, .iload_n 2, 1), (39, .iaload, 1), (40, .aload_n 0, 1), (41, .getfield 389, 3), (44, .if_icmp .lt 9, 3), (47, .iinc 2 (-1), 3), (50, .goto (-30), 3), (53, .aload_n 0, 1), (54, .getfield 169, 3), (57, .aload_n 0, 1), (58, .getfield 78, 3), (61, .iload_n 2, 1), (62, .iaload, 1), (63, .aload_n 0, 1)],
  [(64, .getfield 175, 3), (67, .iload_n 2, 1), (68, .iaload, 1), (69, .iastore, 1), (70, .aload_n 0, 1), (71, .iload_n 2, 1), (72, .invokevirtual 458, 3), (75, .istore_n 3, 1), (76, .iload_n 3, 1), (77, .ifCond .eq 32, 3), (80, .iload_n 2, 1), (81, .aload_n 0, 1), (82, .getfield 312, 3), (85, .iconst 1, 1), (86, .isub, 1), (87, .if_icmp .ge 22, 3), (90, .iinc 2 1, 3), (93, .aload_n 0, 1), (94, .getfield 175, 3)],
  [(97, .iload_n 2, 1), (98, .aload_n 0, 1), (99, .iload_n 2, 1), (100, .invokevirtual 455, 3), (103, .iconst 1, 1), (104, .isub, 1), (105, .iastore, 1), (106, .goto 34, 3), (109, .iload_n 3, 1), (110, .ifCond .eq 30, 3), (113, .aload_n 0, 1), (114, .invokevirtual 461, 3), (117, .ifCond .eq 23, 3), (120, .aload_n 0, 1), (121, .invokevirtual 464, 3), (124, .aload_n 0, 1), (125, .getfield 452, 3)],
  [(128, .iload_n 1, 1), (129, .iconst 1, 1), (130, .iadd, 1), (131, .if_icmp .ne 7, 3), (134, .iconst (-1), 1), (135, .goto 4, 3), (138, .iload_n 2, 1), (139, .istore_n 2, 1), (140, .goto (-120), 3), (143, .return_, 1)]]
/-- TreegrabModel.matchesIn(I)I -/
def zc_207 : List (List (Nat × Instr × Nat)) := [[(0, .aload_n 0, 1), (1, .getfield 306, 3), (4, .ifCond .eq 12, 3), (7, .aload_n 0, 1), (8, .getfield 13, 3), (11, .iload_n 1, 1), (12, .iaload, 1), (13, .ifCond .ne 5, 3), (16, .iconst 0, 1), (17, .ireturn, 1), (18, .aload_n 0, 1), (19, .iload_n 1, 1), (20, .invokevirtual 402, 3), (23, .aload_n 0, 1), (24, .getfield 392, 3), (27, .ifCond .ne 14, 3), (30, .aload_n 0, 1), (31, .bipush (-2), 2)],
  [(33, .invokevirtual 467, 3), (36, .aload_n 0, 1), (37, .iconst 1, 1), (38, .putfield 392, 3), (41, .aload_n 0, 1), (42, .getfield 452, 3), (45, .ireturn, 1)]]
/-- TreegrabModel.matches(I)I -/
def zc_208 : List (List (Nat × Instr × Nat)) := [[(0, .aload_n 0, 1), (1, .iload_n 1, 1), (2, .invokestatic 358, 3), (5, .ifCond .eq 7, 3), (8, .iconst 0, 1), (9, .goto 4, 3), (12, .iconst 1, 1), (13, .invokevirtual 353, 3), (16, .ifCond .eq 11, 3), (19, .aload_n 0, 1), (20, .iload_n 1, 1), (21, .invokevirtual 470, 3), (24, .goto 4, 3), (27, .iconst 0, 1), (28, .ireturn, 1)]]
/-- TreegrabModel.matchesByTrying(I)I -/
def zc_209 : List (List (Nat × Instr × Nat)) := [[(0, .aload_n 0, 1), (1, .iload_n 1, 1), (2, .invokestatic 358, 3), (5, .ifCond .eq 7, 3), (8, .iconst 0, 1), (9, .goto 4, 3), (12, .iconst 1, 1), (13, .invokevirtual 353, 3), (16, .ifCond .eq 11, 3), (19, .aload_n 0, 1), (20, .iload_n 1, 1), (21, .invokevirtual 470, 3), (24, .goto 4, 3), (27, .iconst 0, 1), (28, .ireturn, 1)]]
/-- TreegrabModel.gives(I)V -/
def zc_210 : List (List (Nat × Instr × Nat)) := [[(0, .iload_n 1, 1), (1, .sipush 4096, 3), (4, .if_icmp .ge 48, 3), (7, .iconst 0, 1), (8, .istore_n 2, 1), (9, .iload_n 2, 1), (10, .aload_n 0, 1), (11, .getfield 312, 3), (14, .if_icmp .ge 35, 3), (17, .aload_n 0, 1), (18, .getfield 169, 3), (21, .aload_n 0, 1), (22, .getfield 78, 3), (25, .iload_n 2, 1), (26, .iaload, 1), (27, .aload_n 0, 1), (28, .getfield 178, 3), (31, .iload_n 1, 1)],
  [(32, .iaload, 1), (33, .iconst 5, 1), (34, .iload_n 2, 1), (35, .imul, 1), (36, .ishr, 1), (37, .bipush 31, 2), (39, .iand, 1), (40, .iconst 1, 1), (41, .isub, 1), (42, .iastore, 1), (43, .iinc 2 1, 3), (46, .goto (-37), 3), (49, .goto 13, 3), (52, .aload_n 0, 1), (53, .iload_n 1, 1), (54, .invokevirtual 467, 3), (57, .aload_n 0, 1), (58, .iconst 0, 1), (59, .putfield 392, 3), (62, .return_, 1)]]
/-- TreegrabModel.givenBy(III)I -/
def zc_211 : List (List (Nat × Instr × Nat)) := [[(0, .iload_n 1, 1), (1, .invokestatic 358, 3), (4, .ifCond .eq 25, 3), (7, .iload_n 3, 1), (8, .iconst 0, 1), (9, .aload_n 0, 1), (10, .getfield 312, 3), (13, .iconst 1, 1), (14, .isub, 1), (15, .invokestatic 208, 3), (18, .ifCond .eq 11, 3), (21, .iload_n 2, 1), (22, .ifCond .lt 7, 3), (25, .iconst 1, 1), (26, .goto 4, 3), (29, .iconst 0, 1), (30, .istore 4, 2)],
  [(32, .iload 4, 2), (34, .ifCond .eq 11, 3), (37, .aload_n 0, 1), (38, .iload_n 1, 1), (39, .invokevirtual 470, 3), (42, .goto 4, 3), (45, .iconst 0, 1), (46, .istore 5, 2), (48, .aload_n 0, 1), (49, .iload 4, 2), (51, .ifCond .eq 13, 3), (54, .iload_n 2, 1), (55, .iload 5, 2), (57, .if_icmp .ge 7, 3), (60, .iconst 0, 1), (61, .goto 4, 3)],
  [(64, .iconst 1, 1), (65, .invokevirtual 353, 3), (68, .ifCond .ne 5, 3), (71, .iconst 0, 1), (72, .ireturn, 1), (73, .aload_n 0, 1), (74, .iload_n 2, 1), (75, .invokevirtual 473, 3), (78, .aload_n 0, 1), (79, .getfield 169, 3), (82, .aload_n 0, 1), (83, .getfield 78, 3), (86, .iload_n 3, 1), (87, .iaload, 1), (88, .iaload, 1), (89, .ireturn, 1)]]
/-- TreegrabModel.matchAt(III)I -/
def zc_212 : List (List (Nat × Instr × Nat)) := [[(0, .aload_n 0, 1), (1, .iload_n 1, 1), (2, .iload_n 2, 1), (3, .iload_n 3, 1), (4, .invokevirtual 476, 3), (7, .ireturn, 1)]]
/-- TreegrabModel.matchAtByTrying(III)I -/
def zc_213 : List (List (Nat × Instr × Nat)) := [[(0, .aload_n 0, 1), (1, .iload_n 1, 1), (2, .iload_n 2, 1), (3, .iload_n 3, 1), (4, .invokevirtual 476, 3), (7, .ireturn, 1)]]
/-- TreegrabModel.fitting(I)I -/
def zc_214 : List (List (Nat × Instr × Nat)) := [[(0, .iconst 0, 1), (1, .istore_n 2, 1), (2, .iconst 0, 1), (3, .istore_n 3, 1), (4, .iload_n 3, 1), (5, .aload_n 0, 1), (6, .getfield 389, 3), (9, .if_icmp .ge 26, 3), (12, .iload_n 2, 1), (13, .aload_n 0, 1), (14, .iload_n 1, 1), (15, .iload_n 3, 1), (16, .invokevirtual 422, 3), (19, .ifCond .eq 7, 3), (22, .iconst 1, 1), (23, .goto 4, 3), (26, .iconst 0, 1), (27, .iadd, 1), (28, .istore_n 2, 1), (29, .iinc 3 1, 3)],
  [(32, .goto (-28), 3), (35, .iload_n 2, 1), (36, .ireturn, 1)]]
/-- TreegrabModel.meant(I)I -/
def zc_215 : List (List (Nat × Instr × Nat)) := [[(0, .aload_n 0, 1), (1, .getfield 38, 3), (4, .iload_n 1, 1), (5, .iaload, 1), (6, .iconst 4, 1), (7, .if_icmp .ne 12, 3), (10, .aload_n 0, 1), (11, .getfield 47, 3), (14, .iload_n 1, 1), (15, .iaload, 1), (16, .goto 4, 3), (19, .iload_n 1, 1), (20, .ireturn, 1)]]
/-- TreegrabModel.areTold(II)Z -/
def zc_216 : List (List (Nat × Instr × Nat)) := [[(0, .iconst 0, 1), (1, .istore_n 3, 1), (2, .iconst 1, 1), (3, .istore 4, 2), (5, .iload 4, 2), (7, .aload_n 0, 1), (8, .getfield 306, 3), (11, .if_icmp .ge 95, 3), (14, .aload_n 0, 1), (15, .iload 4, 2), (17, .invokevirtual 480, 3), (20, .istore 5, 2), (22, .aload_n 0, 1), (23, .aload_n 0, 1), (24, .getfield 63, 3), (27, .iload 4, 2), (29, .iaload, 1), (30, .invokevirtual 480, 3)],
  [(33, .istore 6, 2), (35, .aload_n 0, 1), (36, .iload 4, 2), (38, .invokevirtual 428, 3), (41, .ifCond .ne 17, 3), (44, .aload_n 0, 1), (45, .getfield 66, 3), (48, .iload 4, 2), (50, .iaload, 1), (51, .ifCond .ne 7, 3), (54, .iconst 1, 1), (55, .goto 4, 3), (58, .iconst 0, 1), (59, .istore 7, 2), (61, .iload_n 3, 1), (62, .ifCond .ne 32, 3)],
  [(65, .iload 7, 2), (67, .ifCond .eq 31, 3), (70, .iload 5, 2), (72, .iload_n 1, 1), (73, .if_icmp .ne 9, 3), (76, .iload 6, 2), (78, .iload_n 2, 1), (79, .if_icmp .eq 15, 3), (82, .iload 5, 2), (84, .iload_n 2, 1), (85, .if_icmp .ne 13, 3), (88, .iload 6, 2), (90, .iload_n 1, 1), (91, .if_icmp .ne 7, 3), (94, .iconst 1, 1), (95, .goto 4, 3)],
  [(98, .iconst 0, 1), (99, .istore_n 3, 1), (100, .iinc 4 1, 3), (103, .goto (-98), 3), (106, .iload_n 3, 1), (107, .ireturn, 1)]]
/-- TreegrabModel.isBound(II)Z -/
def zc_217 : List (List (Nat × Instr × Nat)) := [[(0, .iconst 0, 1), (1, .istore_n 3, 1), (2, .iconst 0, 1), (3, .istore 4, 2), (5, .iload 4, 2), (7, .iload_n 2, 1), (8, .if_icmp .ge 30, 3), (11, .iload_n 3, 1), (12, .ifCond .ne 14, 3), (15, .aload_n 0, 1), (16, .getfield 181, 3), (19, .iload 4, 2), (21, .iaload, 1), (22, .iload_n 1, 1), (23, .if_icmp .ne 7, 3), (26, .iconst 1, 1), (27, .goto 4, 3), (30, .iconst 0, 1), (31, .istore_n 3, 1)],
  [(32, .iinc 4 1, 3), (35, .goto (-30), 3), (38, .iload_n 3, 1), (39, .ireturn, 1)]]
/-- TreegrabModel.isTold(II)Z -/
def zc_218 : List (List (Nat × Instr × Nat)) := [[(0, .iload_n 2, 1), (1, .ifCond .ne 7, 3), (4, .iconst 1, 1), (5, .goto 4, 3), (8, .iconst 0, 1), (9, .istore_n 3, 1), (10, .iconst 0, 1), (11, .istore 4, 2), (13, .iload 4, 2), (15, .iload_n 2, 1), (16, .if_icmp .ge 34, 3), (19, .iload_n 3, 1), (20, .ifCond .ne 18, 3), (23, .aload_n 0, 1), (24, .aload_n 0, 1), (25, .getfield 181, 3), (28, .iload 4, 2), (30, .iaload, 1), (31, .iload_n 1, 1)],
  [(32, .invokevirtual 483, 3), (35, .ifCond .eq 7, 3), (38, .iconst 1, 1), (39, .goto 4, 3), (42, .iconst 0, 1), (43, .istore_n 3, 1), (44, .iinc 4 1, 3), (47, .goto (-34), 3), (50, .iload_n 3, 1), (51, .ireturn, 1)]]
/-- TreegrabModel.plans()I -/
def zc_219 : List (List (Nat × Instr × Nat)) := [[(0, .iconst 0, 1), (1, .istore_n 1, 1), (2, .iconst 0, 1), (3, .istore_n 2, 1), (4, .iload_n 2, 1), (5, .iconst (-1), 1), (6, .if_icmp .eq 112, 3), (9, .iconst (-1), 1), (10, .istore_n 2, 1), (11, .iconst 0, 1), (12, .istore_n 3, 1), (13, .iload_n 3, 1), (14, .aload_n 0, 1), (15, .getfield 306, 3), (18, .if_icmp .ge 82, 3), (21, .aload_n 0, 1), (22, .getfield 50, 3), (25, .iload_n 3, 1), (26, .iaload, 1), (27, .iconst (-1), 1), (28, .if_icmp .eq 34, 3), (31, .aload_n 0, 1)],
  [(32, .getfield 56, 3), (35, .iload_n 3, 1), (36, .iaload, 1), (37, .ifCond .ne 25, 3), (40, .aload_n 0, 1), (41, .iload_n 3, 1), (42, .iload_n 1, 1), (43, .invokevirtual 486, 3), (46, .ifCond .ne 16, 3), (49, .aload_n 0, 1), (50, .iload_n 3, 1), (51, .iload_n 1, 1), (52, .invokevirtual 489, 3), (55, .ifCond .eq 7, 3), (58, .iconst 1, 1), (59, .goto 4, 3), (62, .iconst 0, 1), (63, .istore 4, 2)],
  [(65, .iload 4, 2), (67, .ifCond .eq 25, 3), (70, .iload_n 2, 1), (71, .iconst (-1), 1), (72, .if_icmp .eq 16, 3), (75, .aload_n 0, 1), (76, .iload_n 3, 1), (77, .invokevirtual 492, 3), (80, .aload_n 0, 1), (81, .iload_n 2, 1), (82, .invokevirtual 492, 3), (85, .if_icmp .ge 7, 3), (88, .iload_n 3, 1), (89, .goto 4, 3), (92, .iload_n 2, 1), (93, .istore_n 2, 1), (94, .iinc 3 1, 3)],
  [(97, .goto (-84), 3), (100, .iload_n 2, 1), (101, .iconst (-1), 1), (102, .if_icmp .eq (-98), 3), (105, .aload_n 0, 1), (106, .getfield 181, 3), (109, .iload_n 1, 1), (110, .iload_n 2, 1), (111, .iastore, 1), (112, .iinc 1 1, 3), (115, .goto (-111), 3), (118, .iload_n 1, 1), (119, .ireturn, 1)]]
/-- TreegrabModel.planAt(II)I -/
def zc_220 : List (List (Nat × Instr × Nat)) := [[(0, .iload_n 1, 1), (1, .invokestatic 358, 3), (4, .ifCond .eq 18, 3), (7, .iload_n 2, 1), (8, .ifCond .lt 14, 3), (11, .aload_n 0, 1), (12, .getfield 306, 3), (15, .ifCond .le 7, 3), (18, .iconst 1, 1), (19, .goto 4, 3), (22, .iconst 0, 1), (23, .istore_n 3, 1), (24, .aload_n 0, 1), (25, .iload_n 3, 1), (26, .ifCond .eq 16, 3), (29, .aload_n 0, 1), (30, .getfield 13, 3)],
  [(33, .iload_n 1, 1), (34, .iaload, 1), (35, .ifCond .le 7, 3), (38, .iconst 0, 1), (39, .goto 4, 3), (42, .iconst 1, 1), (43, .invokevirtual 353, 3), (46, .ifCond .ne 5, 3), (49, .iconst 0, 1), (50, .ireturn, 1), (51, .aload_n 0, 1), (52, .iload_n 1, 1), (53, .invokevirtual 402, 3), (56, .aload_n 0, 1), (57, .iload_n 2, 1), (58, .aload_n 0, 1), (59, .invokevirtual 495, 3), (62, .if_icmp .ge 7, 3)],
  [(65, .iconst 0, 1), (66, .goto 4, 3), (69, .iconst 1, 1), (70, .invokevirtual 353, 3), (73, .ifCond .eq 17, 3), (76, .aload_n 0, 1), (77, .getfield 50, 3), (80, .aload_n 0, 1), (81, .getfield 181, 3), (84, .iload_n 2, 1), (85, .iaload, 1), (86, .iaload, 1), (87, .goto 4, 3), (90, .iconst 0, 1), (91, .ireturn, 1)]]
/-- TreegrabModel.spot(I)I -/
def zc_221 : List (List (Nat × Instr × Nat)) := [[(0, .iconst (-1), 1), (1, .istore_n 2, 1), (2, .iconst 0, 1), (3, .istore_n 3, 1), (4, .iload_n 3, 1), (5, .aload_n 0, 1), (6, .getfield 498, 3), (9, .if_icmp .ge 25, 3), (12, .aload_n 0, 1), (13, .getfield 184, 3), (16, .iload_n 3, 1), (17, .iaload, 1), (18, .iload_n 1, 1), (19, .if_icmp .ne 7, 3), (22, .iload_n 3, 1), (23, .goto 4, 3), (26, .iload_n 2, 1), (27, .istore_n 2, 1), (28, .iinc 3 1, 3), (31, .goto (-27), 3)],
  [(34, .iload_n 2, 1), (35, .ireturn, 1)]]
/-- TreegrabModel.end(I)I -/
def zc_222 : List (List (Nat × Instr × Nat)) := [[(0, .iload_n 1, 1), (1, .iconst 1, 1), (2, .iadd, 1), (3, .istore_n 2, 1), (4, .iload_n 2, 1), (5, .aload_n 0, 1), (6, .getfield 498, 3), (9, .if_icmp .ge 24, 3), (12, .aload_n 0, 1), (13, .getfield 187, 3), (16, .iload_n 2, 1), (17, .iaload, 1), (18, .aload_n 0, 1), (19, .getfield 187, 3), (22, .iload_n 1, 1), (23, .iaload, 1), (24, .if_icmp .le 9, 3), (27, .iinc 2 1, 3), (30, .goto (-26), 3)],
  [(33, .iload_n 2, 1), (34, .ireturn, 1)]]
/-- TreegrabModel.upOf(I)I -/
def zc_223 : List (List (Nat × Instr × Nat)) := [[(0, .iload_n 1, 1), (1, .iconst 1, 1), (2, .isub, 1), (3, .istore_n 2, 1), (4, .iload_n 2, 1), (5, .ifCond .lt 24, 3), (8, .aload_n 0, 1), (9, .getfield 187, 3), (12, .iload_n 2, 1), (13, .iaload, 1), (14, .aload_n 0, 1), (15, .getfield 187, 3), (18, .iload_n 1, 1), (19, .iaload, 1), (20, .if_icmp .lt 9, 3), (23, .iinc 2 (-1), 3), (26, .goto (-22), 3), (29, .iload_n 2, 1), (30, .ireturn, 1)]]
/-- TreegrabModel.isSingle(I)Z -/
def zc_224 : List (List (Nat × Instr × Nat)) := [[(0, .aload_n 0, 1), (1, .iload_n 1, 1), (2, .invokevirtual 501, 3), (5, .iload_n 1, 1), (6, .iconst 1, 1), (7, .iadd, 1), (8, .if_icmp .ne 7, 3), (11, .iconst 1, 1), (12, .goto 4, 3), (15, .iconst 0, 1), (16, .ireturn, 1)]]
/-- TreegrabModel.shifts(II)V -/
def zc_225 : List (List (Nat × Instr × Nat)) := [[(0, .aload_n 0, 1), (1, .getfield 498, 3), (4, .iconst 1, 1), (5, .isub, 1), (6, .istore_n 3, 1), (7, .iload_n 3, 1), (8, .iload_n 1, 1), (9, .if_icmp .lt 55, 3), (12, .iload_n 2, 1), (13, .ifCond .le 51, 3), (16, .aload_n 0, 1), (17, .getfield 184, 3), (20, .iload_n 3, 1), (21, .iload_n 2, 1), (22, .iadd, 1), (23, .aload_n 0, 1), (24, .getfield 184, 3), (27, .iload_n 3, 1), (28, .iaload, 1), (29, .iastore, 1), (30, .aload_n 0, 1), (31, .getfield 187, 3)],
  [(34, .iload_n 3, 1), (35, .iload_n 2, 1), (36, .iadd, 1), (37, .aload_n 0, 1), (38, .getfield 187, 3), (41, .iload_n 3, 1), (42, .iaload, 1), (43, .iastore, 1), (44, .aload_n 0, 1), (45, .getfield 190, 3), (48, .iload_n 3, 1), (49, .iload_n 2, 1), (50, .iadd, 1), (51, .aload_n 0, 1), (52, .getfield 190, 3), (55, .iload_n 3, 1), (56, .laload, 1), (57, .lastore, 1), (58, .iinc 3 (-1), 3), (61, .goto (-54), 3)],
  [(64, .iload_n 1, 1), (65, .istore_n 3, 1), (66, .iload_n 3, 1), (67, .aload_n 0, 1), (68, .getfield 498, 3), (71, .iload_n 2, 1), (72, .iadd, 1), (73, .if_icmp .ge 55, 3), (76, .iload_n 2, 1), (77, .ifCond .ge 51, 3), (80, .aload_n 0, 1), (81, .getfield 184, 3), (84, .iload_n 3, 1), (85, .aload_n 0, 1), (86, .getfield 184, 3), (89, .iload_n 3, 1), (90, .iload_n 2, 1), (91, .isub, 1), (92, .iaload, 1), (93, .iastore, 1), (94, .aload_n 0, 1), (95, .getfield 187, 3)],
  [(98, .iload_n 3, 1), (99, .aload_n 0, 1), (100, .getfield 187, 3), (103, .iload_n 3, 1), (104, .iload_n 2, 1), (105, .isub, 1), (106, .iaload, 1), (107, .iastore, 1), (108, .aload_n 0, 1), (109, .getfield 190, 3), (112, .iload_n 3, 1), (113, .aload_n 0, 1), (114, .getfield 190, 3), (117, .iload_n 3, 1), (118, .iload_n 2, 1), (119, .isub, 1), (120, .laload, 1), (121, .lastore, 1), (122, .iinc 3 1, 3), (125, .goto (-59), 3)],
  [(128, .aload_n 0, 1), (129, .dup, 1), (130, .getfield 498, 3), (133, .iload_n 2, 1), (134, .iadd, 1), (135, .putfield 498, 3), (138, .return_, 1)]]
/-- TreegrabModel.inserts(IIJ)V -/
def zc_226 : List (List (Nat × Instr × Nat)) := [[(0, .aload_n 0, 1), (1, .iload_n 1, 1), (2, .iconst 1, 1), (3, .invokevirtual 504, 3), (6, .aload_n 0, 1), (7, .getfield 184, 3), (10, .iload_n 1, 1), (11, .aload_n 0, 1), (12, .getfield 508, 3), (15, .iastore, 1), (16, .aload_n 0, 1), (17, .getfield 187, 3), (20, .iload_n 1, 1), (21, .iload_n 2, 1), (22, .iastore, 1), (23, .aload_n 0, 1), (24, .getfield 190, 3), (27, .iload_n 1, 1), (28, .lload_n 3, 1), (29, .lastore, 1), (30, .aload_n 0, 1), (31, .dup, 1)],
  [(32, .getfield 508, 3), (35, .iconst 1, 1), (36, .iadd, 1), (37, .putfield 508, 3), (40, .return_, 1)]]
/-- TreegrabModel.tidies(I)Z -/
def zc_227 : List (List (Nat × Instr × Nat)) := [[(0, .iload_n 1, 1), (1, .istore_n 2, 1), (2, .iload_n 2, 1), (3, .ifCond .le 28, 3), (6, .aload_n 0, 1), (7, .iload_n 2, 1), (8, .invokevirtual 511, 3), (11, .ifCond .eq 20, 3), (14, .aload_n 0, 1), (15, .iload_n 2, 1), (16, .invokevirtual 514, 3), (19, .istore_n 3, 1), (20, .aload_n 0, 1), (21, .iload_n 2, 1), (22, .iconst (-1), 1), (23, .invokevirtual 504, 3), (26, .iload_n 3, 1), (27, .istore_n 2, 1), (28, .goto (-26), 3), (31, .iload_n 2, 1)],
  [(32, .ifCond .gt 11, 3), (35, .aload_n 0, 1), (36, .iconst 0, 1), (37, .invokevirtual 511, 3), (40, .ifCond .ne 7, 3), (43, .iconst 1, 1), (44, .goto 4, 3), (47, .iconst 0, 1), (48, .ireturn, 1)]]
/-- TreegrabModel.deletes(I)Z -/
def zc_228 : List (List (Nat × Instr × Nat)) := [[(0, .iload_n 1, 1), (1, .ifCond .ne 5, 3), (4, .iconst 0, 1), (5, .ireturn, 1), (6, .aload_n 0, 1), (7, .iload_n 1, 1), (8, .invokevirtual 514, 3), (11, .istore_n 2, 1), (12, .aload_n 0, 1), (13, .iload_n 1, 1), (14, .iload_n 1, 1), (15, .aload_n 0, 1), (16, .iload_n 1, 1), (17, .invokevirtual 501, 3), (20, .isub, 1), (21, .invokevirtual 504, 3), (24, .aload_n 0, 1), (25, .iload_n 2, 1), (26, .invokevirtual 517, 3), (29, .ireturn, 1)]]
/-- TreegrabModel.excises(I)Z -/
def zc_229 : List (List (Nat × Instr × Nat)) := [[(0, .iconst 0, 1), (1, .istore_n 2, 1), (2, .iload_n 1, 1), (3, .iconst 1, 1), (4, .iadd, 1), (5, .istore_n 3, 1), (6, .iload_n 3, 1), (7, .aload_n 0, 1), (8, .iload_n 1, 1), (9, .invokevirtual 501, 3), (12, .if_icmp .ge 34, 3), (15, .iload_n 2, 1), (16, .aload_n 0, 1), (17, .getfield 187, 3), (20, .iload_n 3, 1), (21, .iaload, 1), (22, .aload_n 0, 1), (23, .getfield 187, 3), (26, .iload_n 1, 1), (27, .iaload, 1), (28, .iconst 1, 1), (29, .iadd, 1), (30, .if_icmp .ne 7, 3)],
  [(33, .iconst 1, 1), (34, .goto 4, 3), (37, .iconst 0, 1), (38, .iadd, 1), (39, .istore_n 2, 1), (40, .iinc 3 1, 3), (43, .goto (-37), 3), (46, .iload_n 2, 1), (47, .ifCond .eq 12, 3), (50, .iload_n 1, 1), (51, .ifCond .ne 10, 3), (54, .iload_n 2, 1), (55, .iconst 1, 1), (56, .if_icmp .le 5, 3), (59, .iconst 0, 1), (60, .ireturn, 1), (61, .aload_n 0, 1), (62, .iload_n 1, 1), (63, .invokevirtual 501, 3)],
  [(66, .istore_n 3, 1), (67, .iload_n 1, 1), (68, .iconst 1, 1), (69, .iadd, 1), (70, .istore 4, 2), (72, .iload 4, 2), (74, .iload_n 3, 1), (75, .if_icmp .ge 20, 3), (78, .aload_n 0, 1), (79, .getfield 187, 3), (82, .iload 4, 2), (84, .dup2, 1), (85, .iaload, 1), (86, .iconst 1, 1), (87, .isub, 1), (88, .iastore, 1), (89, .iinc 4 1, 3), (92, .goto (-20), 3), (95, .aload_n 0, 1)],
  [(96, .iload_n 1, 1), (97, .iconst (-1), 1), (98, .invokevirtual 504, 3), (101, .iconst 1, 1), (102, .ireturn, 1)]]
/-- TreegrabModel.wraps(IJ)Z -/
def zc_230 : List (List (Nat × Instr × Nat)) := [[(0, .aload_n 0, 1), (1, .getfield 498, 3), (4, .bipush 20, 2), (6, .if_icmp .ne 5, 3), (9, .iconst 0, 1), (10, .ireturn, 1), (11, .aload_n 0, 1), (12, .iload_n 1, 1), (13, .invokevirtual 501, 3), (16, .istore 4, 2), (18, .aload_n 0, 1), (19, .getfield 187, 3), (22, .iload_n 1, 1), (23, .iaload, 1), (24, .istore 5, 2), (26, .iload_n 1, 1), (27, .istore 6, 2), (29, .iload 6, 2), (31, .iload 4, 2)],
  [(33, .if_icmp .ge 20, 3), (36, .aload_n 0, 1), (37, .getfield 187, 3), (40, .iload 6, 2), (42, .dup2, 1), (43, .iaload, 1), (44, .iconst 1, 1), (45, .iadd, 1), (46, .iastore, 1), (47, .iinc 6 1, 3), (50, .goto (-21), 3), (53, .aload_n 0, 1), (54, .iload_n 1, 1), (55, .iload 5, 2), (57, .lload_n 2, 1), (58, .invokevirtual 520, 3), (61, .iconst 1, 1), (62, .ireturn, 1)]]
/-- TreegrabModel.isBarred(JI)Z -/
def zc_231 : List (List (Nat × Instr × Nat)) := [[(0, .lload_n 1, 1), (1, .ldc2_w 327, 3), (4, .lcmp, 1), (5, .ifCond .eq 11, 3), (8, .lload_n 1, 1), (9, .ldc2_w 329, 3), (12, .lcmp, 1), (13, .ifCond .ne 11, 3), (16, .aload_n 0, 1), (17, .iload_n 3, 1), (18, .invokevirtual 511, 3), (21, .goto 12, 3), (24, .iload_n 3, 1), (25, .ifCond .ne 7, 3), (28, .iconst 1, 1), (29, .goto 4, 3)],
  [(32, .iconst 0, 1), (33, .ireturn, 1)]]
/-- TreegrabModel.spotFor(JI)I -/
def zc_232 : List (List (Nat × Instr × Nat)) := [[(0, .lload_n 1, 1), (1, .ldc2_w 327, 3), (4, .lcmp, 1), (5, .ifCond .ne 9, 3), (8, .iload_n 3, 1), (9, .iconst 1, 1), (10, .iadd, 1), (11, .goto 20, 3), (14, .lload_n 1, 1), (15, .ldc2_w 331, 3), (18, .lcmp, 1), (19, .ifCond .ne 7, 3), (22, .iload_n 3, 1), (23, .goto 8, 3), (26, .aload_n 0, 1), (27, .iload_n 3, 1), (28, .invokevirtual 501, 3), (31, .ireturn, 1)]]
/-- TreegrabModel.depthFor(JI)I -/
def zc_233 : List (List (Nat × Instr × Nat)) := [[(0, .aload_n 0, 1), (1, .getfield 187, 3), (4, .iload_n 3, 1), (5, .iaload, 1), (6, .lload_n 1, 1), (7, .ldc2_w 327, 3), (10, .lcmp, 1), (11, .ifCond .eq 11, 3), (14, .lload_n 1, 1), (15, .ldc2_w 329, 3), (18, .lcmp, 1), (19, .ifCond .ne 7, 3), (22, .iconst 1, 1), (23, .goto 4, 3), (26, .iconst 0, 1), (27, .iadd, 1), (28, .ireturn, 1)]]
/-- TreegrabModel.adds(JJI)Z -/
def zc_234 : List (List (Nat × Instr × Nat)) := [[(0, .aload_n 0, 1), (1, .getfield 498, 3), (4, .bipush 20, 2), (6, .if_icmp .eq 13, 3), (9, .aload_n 0, 1), (10, .lload_n 3, 1), (11, .iload 5, 2), (13, .invokevirtual 524, 3), (16, .ifCond .eq 5, 3), (19, .iconst 0, 1), (20, .ireturn, 1), (21, .aload_n 0, 1), (22, .aload_n 0, 1), (23, .lload_n 3, 1), (24, .iload 5, 2), (26, .invokevirtual 528, 3), (29, .aload_n 0, 1), (30, .lload_n 3, 1), (31, .iload 5, 2)],
  [(33, .invokevirtual 532, 3), (36, .lload_n 1, 1), (37, .invokevirtual 520, 3), (40, .iconst 1, 1), (41, .ireturn, 1)]]
/-- TreegrabModel.moves(IJI)Z -/
def zc_235 : List (List (Nat × Instr × Nat)) := [[(0, .iload_n 1, 1), (1, .ifCond .eq 29, 3), (4, .iload 4, 2), (6, .iload_n 1, 1), (7, .if_icmp .lt 13, 3), (10, .iload 4, 2), (12, .aload_n 0, 1), (13, .iload_n 1, 1), (14, .invokevirtual 501, 3), (17, .if_icmp .lt 13, 3), (20, .aload_n 0, 1), (21, .lload_n 2, 1), (22, .iload 4, 2), (24, .invokevirtual 524, 3), (27, .ifCond .eq 5, 3), (30, .iconst 0, 1), (31, .ireturn, 1)],
  [(32, .aload_n 0, 1), (33, .getfield 184, 3), (36, .aload_n 0, 1), (37, .iload_n 1, 1), (38, .invokevirtual 514, 3), (41, .iaload, 1), (42, .istore 5, 2), (44, .aload_n 0, 1), (45, .getfield 184, 3), (48, .iload 4, 2), (50, .iaload, 1), (51, .istore 6, 2), (53, .aload_n 0, 1), (54, .aload_n 0, 1), (55, .iload_n 1, 1), (56, .invokevirtual 501, 3), (59, .iload_n 1, 1), (60, .isub, 1), (61, .putfield 535, 3)],
  [(64, .iconst 0, 1), (65, .istore 7, 2), (67, .iload 7, 2), (69, .aload_n 0, 1), (70, .getfield 535, 3), (73, .if_icmp .ge 64, 3), (76, .aload_n 0, 1), (77, .getfield 193, 3), (80, .iload 7, 2), (82, .aload_n 0, 1), (83, .getfield 184, 3), (86, .iload_n 1, 1), (87, .iload 7, 2), (89, .iadd, 1), (90, .iaload, 1), (91, .iastore, 1), (92, .aload_n 0, 1), (93, .getfield 196, 3)],
  [(96, .iload 7, 2), (98, .aload_n 0, 1), (99, .getfield 187, 3), (102, .iload_n 1, 1), (103, .iload 7, 2), (105, .iadd, 1), (106, .iaload, 1), (107, .aload_n 0, 1), (108, .getfield 187, 3), (111, .iload_n 1, 1), (112, .iaload, 1), (113, .isub, 1), (114, .iastore, 1), (115, .aload_n 0, 1), (116, .getfield 199, 3), (119, .iload 7, 2), (121, .aload_n 0, 1), (122, .getfield 190, 3), (125, .iload_n 1, 1), (126, .iload 7, 2)],
  [(128, .iadd, 1), (129, .laload, 1), (130, .lastore, 1), (131, .iinc 7 1, 3), (134, .goto (-67), 3), (137, .aload_n 0, 1), (138, .iload_n 1, 1), (139, .aload_n 0, 1), (140, .getfield 535, 3), (143, .ineg, 1), (144, .invokevirtual 504, 3), (147, .aload_n 0, 1), (148, .iload 6, 2), (150, .invokevirtual 538, 3), (153, .istore 7, 2), (155, .aload_n 0, 1), (156, .lload_n 2, 1), (157, .iload 7, 2), (159, .invokevirtual 532, 3)],
  [(162, .istore 8, 2), (164, .aload_n 0, 1), (165, .lload_n 2, 1), (166, .iload 7, 2), (168, .invokevirtual 528, 3), (171, .istore 9, 2), (173, .aload_n 0, 1), (174, .iload 9, 2), (176, .aload_n 0, 1), (177, .getfield 535, 3), (180, .invokevirtual 504, 3), (183, .iconst 0, 1), (184, .istore 10, 2), (186, .iload 10, 2), (188, .aload_n 0, 1), (189, .getfield 535, 3)],
  [(192, .if_icmp .ge 63, 3), (195, .aload_n 0, 1), (196, .getfield 184, 3), (199, .iload 9, 2), (201, .iload 10, 2), (203, .iadd, 1), (204, .aload_n 0, 1), (205, .getfield 193, 3), (208, .iload 10, 2), (210, .iaload, 1), (211, .iastore, 1), (212, .aload_n 0, 1), (213, .getfield 187, 3), (216, .iload 9, 2), (218, .iload 10, 2), (220, .iadd, 1), (221, .iload 8, 2), (223, .aload_n 0, 1)],
  [(224, .getfield 196, 3), (227, .iload 10, 2), (229, .iaload, 1), (230, .iadd, 1), (231, .iastore, 1), (232, .aload_n 0, 1), (233, .getfield 190, 3), (236, .iload 9, 2), (238, .iload 10, 2), (240, .iadd, 1), (241, .aload_n 0, 1), (242, .getfield 199, 3), (245, .iload 10, 2), (247, .laload, 1), (248, .lastore, 1), (249, .iinc 10 1, 3), (252, .goto (-66), 3), (255, .aload_n 0, 1)],
  [(256, .aload_n 0, 1), (257, .iload 5, 2), (259, .invokevirtual 538, 3), (262, .invokevirtual 517, 3), (265, .ireturn, 1)]]
/-- TreegrabModel.bound(I)I -/
def zc_236 : List (List (Nat × Instr × Nat)) := [[(0, .iconst (-1), 1), (1, .istore_n 2, 1), (2, .iconst 0, 1), (3, .istore_n 3, 1), (4, .iload_n 3, 1), (5, .aload_n 0, 1), (6, .getfield 306, 3), (9, .if_icmp .ge 40, 3), (12, .aload_n 0, 1), (13, .getfield 53, 3), (16, .iload_n 3, 1), (17, .iaload, 1), (18, .iload_n 1, 1), (19, .if_icmp .ne 22, 3), (22, .aload_n 0, 1), (23, .getfield 50, 3), (26, .iload_n 3, 1), (27, .iaload, 1), (28, .iconst (-1), 1), (29, .if_icmp .eq 12, 3)],
  [(32, .aload_n 0, 1), (33, .getfield 169, 3), (36, .iload_n 3, 1), (37, .iaload, 1), (38, .goto 4, 3), (41, .iload_n 2, 1), (42, .istore_n 2, 1), (43, .iinc 3 1, 3), (46, .goto (-42), 3), (49, .iload_n 2, 1), (50, .ireturn, 1)]]
/-- TreegrabModel.does(I)I -/
def zc_237 : List (List (Nat × Instr × Nat)) := [[(0, .aload_n 0, 1), (1, .getfield 123, 3), (4, .iload_n 1, 1), (5, .laload, 1), (6, .ldc2_w 323, 3), (9, .lcmp, 1), (10, .ifCond .ne 7, 3), (13, .iconst 0, 1), (14, .goto 13, 3), (17, .aload_n 0, 1), (18, .aload_n 0, 1), (19, .getfield 126, 3), (22, .iload_n 1, 1), (23, .iaload, 1), (24, .invokevirtual 541, 3), (27, .istore_n 2, 1), (28, .aload_n 0, 1), (29, .getfield 123, 3)],
  [(32, .iload_n 1, 1), (33, .laload, 1), (34, .ldc2_w 323, 3), (37, .lcmp, 1), (38, .ifCond .eq 16, 3), (41, .aload_n 0, 1), (42, .getfield 123, 3), (45, .iload_n 1, 1), (46, .laload, 1), (47, .ldc2_w 325, 3), (50, .lcmp, 1), (51, .ifCond .ne 16, 3), (54, .aload_n 0, 1), (55, .aload_n 0, 1), (56, .getfield 129, 3), (59, .iload_n 1, 1), (60, .iaload, 1), (61, .invokevirtual 541, 3)],
  [(64, .goto 4, 3), (67, .iconst 0, 1), (68, .istore_n 3, 1), (69, .iload_n 2, 1), (70, .iconst (-1), 1), (71, .if_icmp .eq 8, 3), (74, .iload_n 3, 1), (75, .iconst (-1), 1), (76, .if_icmp .ne 5, 3), (79, .iconst 0, 1), (80, .ireturn, 1), (81, .aload_n 0, 1), (82, .getfield 123, 3), (85, .iload_n 1, 1), (86, .laload, 1), (87, .ldc2_w 323, 3), (90, .lcmp, 1), (91, .ifCond .ne 7, 3), (94, .iconst 0, 1), (95, .goto 8, 3)],
  [(98, .aload_n 0, 1), (99, .iload_n 2, 1), (100, .invokevirtual 538, 3), (103, .istore 4, 2), (105, .aload_n 0, 1), (106, .getfield 123, 3), (109, .iload_n 1, 1), (110, .laload, 1), (111, .ldc2_w 323, 3), (114, .lcmp, 1), (115, .ifCond .eq 16, 3), (118, .aload_n 0, 1), (119, .getfield 123, 3), (122, .iload_n 1, 1), (123, .laload, 1), (124, .ldc2_w 325, 3), (127, .lcmp, 1)],
  [(128, .ifCond .ne 11, 3), (131, .aload_n 0, 1), (132, .iload_n 3, 1), (133, .invokevirtual 538, 3), (136, .goto 4, 3), (139, .iconst 0, 1), (140, .istore 5, 2), (142, .iload 4, 2), (144, .iconst (-1), 1), (145, .if_icmp .eq 9, 3), (148, .iload 5, 2), (150, .iconst (-1), 1), (151, .if_icmp .ne 5, 3), (154, .iconst 2, 1), (155, .ireturn, 1), (156, .iconst 1, 1), (157, .istore 6, 2), (159, .aload_n 0, 1)],
  [(160, .getfield 123, 3), (163, .iload_n 1, 1), (164, .laload, 1), (165, .ldc2_w 315, 3), (168, .lcmp, 1), (169, .ifCond .ne 19, 3), (172, .aload_n 0, 1), (173, .getfield 190, 3), (176, .iload 4, 2), (178, .aload_n 0, 1), (179, .getfield 132, 3), (182, .iload_n 1, 1), (183, .laload, 1), (184, .lastore, 1), (185, .goto 129, 3), (188, .aload_n 0, 1), (189, .getfield 123, 3)],
  [(192, .iload_n 1, 1), (193, .laload, 1), (194, .ldc2_w 321, 3), (197, .lcmp, 1), (198, .ifCond .ne 20, 3), (201, .aload_n 0, 1), (202, .iload 4, 2), (204, .aload_n 0, 1), (205, .getfield 132, 3), (208, .iload_n 1, 1), (209, .laload, 1), (210, .invokevirtual 544, 3), (213, .istore 6, 2), (215, .goto 99, 3), (218, .aload_n 0, 1), (219, .getfield 123, 3), (222, .iload_n 1, 1), (223, .laload, 1)],
  [(224, .ldc2_w 323, 3), (227, .lcmp, 1), (228, .ifCond .ne 26, 3), (231, .aload_n 0, 1), (232, .aload_n 0, 1), (233, .getfield 132, 3), (236, .iload_n 1, 1), (237, .laload, 1), (238, .aload_n 0, 1), (239, .getfield 135, 3), (242, .iload_n 1, 1), (243, .laload, 1), (244, .iload 5, 2), (246, .invokevirtual 547, 3), (249, .istore 6, 2), (251, .goto 63, 3), (254, .aload_n 0, 1), (255, .getfield 123, 3)],
  [(258, .iload_n 1, 1), (259, .laload, 1), (260, .ldc2_w 317, 3), (263, .lcmp, 1), (264, .ifCond .ne 12, 3), (267, .aload_n 0, 1), (268, .iload 4, 2), (270, .invokevirtual 551, 3), (273, .goto 39, 3), (276, .aload_n 0, 1), (277, .getfield 123, 3), (280, .iload_n 1, 1), (281, .laload, 1), (282, .ldc2_w 319, 3), (285, .lcmp, 1), (286, .ifCond .ne 12, 3)],
  [(289, .aload_n 0, 1), (290, .iload 4, 2), (292, .invokevirtual 554, 3), (295, .goto 17, 3), (298, .aload_n 0, 1), (299, .iload 4, 2), (301, .aload_n 0, 1), (302, .getfield 135, 3), (305, .iload_n 1, 1), (306, .laload, 1), (307, .iload 5, 2), (309, .invokevirtual 557, 3), (312, .istore 6, 2), (314, .iload 6, 2), (316, .ifCond .eq 7, 3), (319, .iconst 1, 1)],
  [(320, .goto 4, 3), (323, .iconst 2, 1), (324, .ireturn, 1)]]
/-- TreegrabModel.unrolls(I)V -/
def zc_238 : List (List (Nat × Instr × Nat)) := [[(0, .aload_n 0, 1), (1, .aload_n 0, 1), (2, .getfield 13, 3), (5, .iload_n 1, 1), (6, .iaload, 1), (7, .putfield 498, 3), (10, .aload_n 0, 1), (11, .bipush 20, 2), (13, .putfield 508, 3), (16, .iconst 0, 1), (17, .istore_n 2, 1), (18, .iload_n 2, 1), (19, .aload_n 0, 1), (20, .getfield 498, 3), (23, .if_icmp .ge 68, 3), (26, .aload_n 0, 1), (27, .getfield 20, 3), (30, .bipush 20, 2)],
  [(32, .iload_n 1, 1), (33, .imul, 1), (34, .iload_n 2, 1), (35, .iadd, 1), (36, .iaload, 1), (37, .istore_n 3, 1), (38, .aload_n 0, 1), (39, .getfield 184, 3), (42, .iload_n 2, 1), (43, .iload_n 2, 1), (44, .iastore, 1), (45, .aload_n 0, 1), (46, .getfield 187, 3), (49, .iload_n 2, 1), (50, .iload_n 3, 1), (51, .iconst (-1), 1), (52, .if_icmp .ne 7, 3), (55, .iconst 0, 1), (56, .goto 11, 3), (59, .aload_n 0, 1), (60, .getfield 187, 3), (63, .iload_n 3, 1)],
  [(64, .iaload, 1), (65, .iconst 1, 1), (66, .iadd, 1), (67, .iastore, 1), (68, .aload_n 0, 1), (69, .getfield 190, 3), (72, .iload_n 2, 1), (73, .aload_n 0, 1), (74, .getfield 16, 3), (77, .bipush 20, 2), (79, .iload_n 1, 1), (80, .imul, 1), (81, .iload_n 2, 1), (82, .iadd, 1), (83, .laload, 1), (84, .lastore, 1), (85, .iinc 2 1, 3), (88, .goto (-70), 3), (91, .return_, 1)]]
/-- TreegrabModel.rolls(I)V -/
def zc_239 : List (List (Nat × Instr × Nat)) := [[(0, .aload_n 0, 1), (1, .getfield 13, 3), (4, .iload_n 1, 1), (5, .aload_n 0, 1), (6, .getfield 498, 3), (9, .iastore, 1), (10, .iconst 0, 1), (11, .istore_n 2, 1), (12, .iload_n 2, 1), (13, .aload_n 0, 1), (14, .getfield 498, 3), (17, .if_icmp .ge 42, 3), (20, .aload_n 0, 1), (21, .getfield 16, 3), (24, .bipush 20, 2), (26, .iload_n 1, 1), (27, .imul, 1), (28, .iload_n 2, 1), (29, .iadd, 1), (30, .aload_n 0, 1), (31, .getfield 190, 3)],
  [(34, .iload_n 2, 1), (35, .laload, 1), (36, .lastore, 1), (37, .aload_n 0, 1), (38, .getfield 20, 3), (41, .bipush 20, 2), (43, .iload_n 1, 1), (44, .imul, 1), (45, .iload_n 2, 1), (46, .iadd, 1), (47, .aload_n 0, 1), (48, .iload_n 2, 1), (49, .invokevirtual 514, 3), (52, .iastore, 1), (53, .iinc 2 1, 3), (56, .goto (-44), 3), (59, .return_, 1)]]
/-- TreegrabModel.edit(I)I -/
def zc_240 : List (List (Nat × Instr × Nat)) := [[(0, .aload_n 0, 1), (1, .iload_n 1, 1), (2, .invokestatic 358, 3), (5, .ifCond .eq 7, 3), (8, .iconst 0, 1), (9, .goto 4, 3), (12, .iconst 1, 1), (13, .invokevirtual 353, 3), (16, .ifCond .eq 11, 3), (19, .aload_n 0, 1), (20, .iload_n 1, 1), (21, .invokevirtual 470, 3), (24, .ifCond .ne 5, 3), (27, .iconst 0, 1), (28, .ireturn, 1), (29, .aload_n 0, 1), (30, .iconst 0, 1), (31, .invokevirtual 473, 3)],
  [(34, .aload_n 0, 1), (35, .iload_n 1, 1), (36, .invokevirtual 561, 3), (39, .iconst 0, 1), (40, .istore_n 2, 1), (41, .iconst 0, 1), (42, .istore_n 3, 1), (43, .iload_n 3, 1), (44, .aload_n 0, 1), (45, .getfield 350, 3), (48, .if_icmp .ge 41, 3), (51, .aload_n 0, 1), (52, .iload_n 3, 1), (53, .invokevirtual 564, 3), (56, .istore 4, 2), (58, .aload_n 0, 1), (59, .iload 4, 2), (61, .iconst 2, 1), (62, .if_icmp .ne 7, 3)],
  [(65, .iconst 2, 1), (66, .goto 4, 3), (69, .iconst 0, 1), (70, .invokevirtual 353, 3), (73, .ifCond .ne 5, 3), (76, .iconst 0, 1), (77, .ireturn, 1), (78, .iload_n 2, 1), (79, .iload 4, 2), (81, .iadd, 1), (82, .istore_n 2, 1), (83, .iinc 3 1, 3), (86, .goto (-43), 3), (89, .iload_n 2, 1), (90, .ifCond .le 18, 3), (93, .aload_n 0, 1), (94, .iload_n 1, 1), (95, .invokevirtual 567, 3)],
  [(98, .aload_n 0, 1), (99, .iload_n 1, 1), (100, .invokevirtual 570, 3), (103, .aload_n 0, 1), (104, .iconst (-1), 1), (105, .putfield 153, 3), (108, .iload_n 2, 1), (109, .ireturn, 1)]]
/-- TreegrabModel.remembers(I)V -/
def zc_241 : List (List (Nat × Instr × Nat)) := [[(0, .aload_n 0, 1), (1, .getfield 29, 3), (4, .aload_n 0, 1), (5, .getfield 573, 3), (8, .iload_n 1, 1), (9, .iastore, 1), (10, .aload_n 0, 1), (11, .getfield 32, 3), (14, .aload_n 0, 1), (15, .getfield 573, 3), (18, .aload_n 0, 1), (19, .getfield 13, 3), (22, .iload_n 1, 1), (23, .iaload, 1), (24, .iastore, 1), (25, .iconst 0, 1), (26, .istore_n 2, 1), (27, .iload_n 2, 1), (28, .aload_n 0, 1), (29, .getfield 13, 3)],
  [(32, .iload_n 1, 1), (33, .iaload, 1), (34, .if_icmp .ge 52, 3), (37, .aload_n 0, 1), (38, .getfield 35, 3), (41, .bipush 20, 2), (43, .aload_n 0, 1), (44, .getfield 573, 3), (47, .imul, 1), (48, .iload_n 2, 1), (49, .iadd, 1), (50, .aload_n 0, 1), (51, .getfield 16, 3), (54, .bipush 20, 2), (56, .iload_n 1, 1), (57, .imul, 1), (58, .iload_n 2, 1), (59, .iadd, 1), (60, .laload, 1), (61, .aload_n 0, 1), (62, .getfield 20, 3)],
  [(65, .bipush 20, 2), (67, .iload_n 1, 1), (68, .imul, 1), (69, .iload_n 2, 1), (70, .iadd, 1), (71, .iaload, 1), (72, .iconst 1, 1), (73, .iadd, 1), (74, .i2l, 1), (75, .bipush 48, 2), (77, .lshl, 1), (78, .lor, 1), (79, .lastore, 1), (80, .iinc 2 1, 3), (83, .goto (-56), 3), (86, .aload_n 0, 1), (87, .dup, 1), (88, .getfield 573, 3), (91, .iconst 1, 1), (92, .iadd, 1), (93, .putfield 573, 3)],
  [(96, .return_, 1)]]
/-- TreegrabModel.drops(I)V -/
def zc_242 : List (List (Nat × Instr × Nat)) := [[(0, .aload_n 0, 1), (1, .dup, 1), (2, .getfield 573, 3), (5, .iconst 1, 1), (6, .isub, 1), (7, .putfield 573, 3), (10, .iload_n 1, 1), (11, .istore_n 2, 1), (12, .iload_n 2, 1), (13, .aload_n 0, 1), (14, .getfield 573, 3), (17, .if_icmp .ge 75, 3), (20, .aload_n 0, 1), (21, .getfield 29, 3), (24, .iload_n 2, 1), (25, .aload_n 0, 1), (26, .getfield 29, 3), (29, .iload_n 2, 1), (30, .iconst 1, 1), (31, .iadd, 1)],
  [(32, .iaload, 1), (33, .iastore, 1), (34, .aload_n 0, 1), (35, .getfield 32, 3), (38, .iload_n 2, 1), (39, .aload_n 0, 1), (40, .getfield 32, 3), (43, .iload_n 2, 1), (44, .iconst 1, 1), (45, .iadd, 1), (46, .iaload, 1), (47, .iastore, 1), (48, .iconst 0, 1), (49, .istore_n 3, 1), (50, .iload_n 3, 1), (51, .bipush 20, 2), (53, .if_icmp .ge 33, 3), (56, .aload_n 0, 1), (57, .getfield 35, 3), (60, .bipush 20, 2), (62, .iload_n 2, 1), (63, .imul, 1)],
  [(64, .iload_n 3, 1), (65, .iadd, 1), (66, .aload_n 0, 1), (67, .getfield 35, 3), (70, .bipush 20, 2), (72, .iload_n 2, 1), (73, .iconst 1, 1), (74, .iadd, 1), (75, .imul, 1), (76, .iload_n 3, 1), (77, .iadd, 1), (78, .laload, 1), (79, .lastore, 1), (80, .iinc 3 1, 3), (83, .goto (-33), 3), (86, .iinc 2 1, 3), (89, .goto (-77), 3), (92, .return_, 1)]]
/-- TreegrabModel.latest(I)I -/
def zc_243 : List (List (Nat × Instr × Nat)) := [[(0, .iconst (-1), 1), (1, .istore_n 2, 1), (2, .iconst 0, 1), (3, .istore_n 3, 1), (4, .iload_n 3, 1), (5, .aload_n 0, 1), (6, .getfield 573, 3), (9, .if_icmp .ge 25, 3), (12, .aload_n 0, 1), (13, .getfield 29, 3), (16, .iload_n 3, 1), (17, .iaload, 1), (18, .iload_n 1, 1), (19, .if_icmp .ne 7, 3), (22, .iload_n 3, 1), (23, .goto 4, 3), (26, .iload_n 2, 1), (27, .istore_n 2, 1), (28, .iinc 3 1, 3), (31, .goto (-27), 3)],
  [(34, .iload_n 2, 1), (35, .ireturn, 1)]]
/-- TreegrabModel.forgets(I)V -/
def zc_244 : List (List (Nat × Instr × Nat)) := [[(0, .aload_n 0, 1), (1, .iload_n 1, 1), (2, .invokevirtual 576, 3), (5, .istore_n 2, 1), (6, .iload_n 2, 1), (7, .iconst (-1), 1), (8, .if_icmp .eq 17, 3), (11, .aload_n 0, 1), (12, .iload_n 2, 1), (13, .invokevirtual 579, 3), (16, .aload_n 0, 1), (17, .iload_n 1, 1), (18, .invokevirtual 576, 3), (21, .istore_n 2, 1), (22, .goto (-16), 3), (25, .return_, 1)]]
/-- TreegrabModel.undo(I)I -/
def zc_245 : List (List (Nat × Instr × Nat)) := [[(0, .aload_n 0, 1), (1, .iload_n 1, 1), (2, .invokestatic 358, 3), (5, .ifCond .eq 7, 3), (8, .iconst 0, 1), (9, .goto 4, 3), (12, .iconst 1, 1), (13, .invokevirtual 353, 3), (16, .ifCond .ne 5, 3), (19, .iconst 0, 1), (20, .ireturn, 1), (21, .aload_n 0, 1), (22, .iload_n 1, 1), (23, .invokevirtual 576, 3), (26, .istore_n 2, 1), (27, .aload_n 0, 1), (28, .iload_n 2, 1), (29, .iconst (-1), 1), (30, .if_icmp .ne 7, 3)],
  [(33, .iconst 2, 1), (34, .goto 4, 3), (37, .iconst 0, 1), (38, .invokevirtual 353, 3), (41, .ifCond .ne 5, 3), (44, .iconst 0, 1), (45, .ireturn, 1), (46, .aload_n 0, 1), (47, .getfield 13, 3), (50, .iload_n 1, 1), (51, .aload_n 0, 1), (52, .getfield 32, 3), (55, .iload_n 2, 1), (56, .iaload, 1), (57, .iastore, 1), (58, .iconst 0, 1), (59, .istore_n 3, 1), (60, .iload_n 3, 1), (61, .aload_n 0, 1), (62, .getfield 13, 3)],
  [(65, .iload_n 1, 1), (66, .iaload, 1), (67, .if_icmp .ge 58, 3), (70, .aload_n 0, 1), (71, .getfield 35, 3), (74, .bipush 20, 2), (76, .iload_n 2, 1), (77, .imul, 1), (78, .iload_n 3, 1), (79, .iadd, 1), (80, .laload, 1), (81, .lstore 4, 2), (83, .aload_n 0, 1), (84, .getfield 16, 3), (87, .bipush 20, 2), (89, .iload_n 1, 1), (90, .imul, 1), (91, .iload_n 3, 1), (92, .iadd, 1), (93, .lload 4, 2), (95, .ldc2_w 582, 3)],
  [(98, .land, 1), (99, .lastore, 1), (100, .aload_n 0, 1), (101, .getfield 20, 3), (104, .bipush 20, 2), (106, .iload_n 1, 1), (107, .imul, 1), (108, .iload_n 3, 1), (109, .iadd, 1), (110, .lload 4, 2), (112, .bipush 48, 2), (114, .lshr, 1), (115, .l2i, 1), (116, .iconst 1, 1), (117, .isub, 1), (118, .iastore, 1), (119, .iinc 3 1, 3), (122, .goto (-62), 3), (125, .aload_n 0, 1), (126, .iload_n 2, 1), (127, .invokevirtual 579, 3)],
  [(130, .aload_n 0, 1), (131, .iconst (-1), 1), (132, .putfield 153, 3), (135, .aload_n 0, 1), (136, .getfield 13, 3), (139, .iload_n 1, 1), (140, .iaload, 1), (141, .ireturn, 1)]]
/-- TreegrabModel.prints(I)V -/
def zc_246 : List (List (Nat × Instr × Nat)) := [[(0, .aload_n 0, 1), (1, .getfield 202, 3), (4, .aload_n 0, 1), (5, .getfield 584, 3), (8, .iload_n 1, 1), (9, .iastore, 1), (10, .aload_n 0, 1), (11, .dup, 1), (12, .getfield 584, 3), (15, .iconst 1, 1), (16, .iadd, 1), (17, .putfield 584, 3), (20, .return_, 1)]]
/-- TreegrabModel.printsLabel(J)V -/
def zc_247 : List (List (Nat × Instr × Nat)) := [[(0, .lload_n 1, 1), (1, .lstore_n 3, 1), (2, .lload_n 3, 1), (3, .lconst 0, 1), (4, .lcmp, 1), (5, .ifCond .eq 21, 3), (8, .aload_n 0, 1), (9, .lload_n 3, 1), (10, .ldc2_w 356, 3), (13, .land, 1), (14, .l2i, 1), (15, .invokevirtual 587, 3), (18, .lload_n 3, 1), (19, .bipush 8, 2), (21, .lshr, 1), (22, .lstore_n 3, 1), (23, .goto (-21), 3), (26, .return_, 1)]]
/-- TreegrabModel.show(I)I -/
def zc_248 : List (List (Nat × Instr × Nat)) := [[(0, .aload_n 0, 1), (1, .iload_n 1, 1), (2, .invokestatic 358, 3), (5, .ifCond .eq 7, 3), (8, .iconst 0, 1), (9, .goto 4, 3), (12, .iconst 1, 1), (13, .invokevirtual 353, 3), (16, .ifCond .ne 5, 3), (19, .iconst 0, 1), (20, .ireturn, 1), (21, .aload_n 0, 1), (22, .iconst 0, 1), (23, .putfield 584, 3), (26, .aload_n 0, 1), (27, .iload_n 1, 1), (28, .invokevirtual 561, 3), (31, .iconst 0, 1)],
  [(32, .istore_n 2, 1), (33, .iload_n 2, 1), (34, .aload_n 0, 1), (35, .getfield 498, 3), (38, .if_icmp .ge 92, 3), (41, .iload_n 2, 1), (42, .ifCond .le 9, 3), (45, .aload_n 0, 1), (46, .bipush 32, 2), (48, .invokevirtual 587, 3), (51, .aload_n 0, 1), (52, .iload_n 2, 1), (53, .invokevirtual 511, 3), (56, .ifCond .ne 9, 3), (59, .aload_n 0, 1), (60, .bipush 40, 2), (62, .invokevirtual 587, 3)],
  [(65, .aload_n 0, 1), (66, .aload_n 0, 1), (67, .getfield 190, 3), (70, .iload_n 2, 1), (71, .laload, 1), (72, .invokevirtual 590, 3), (75, .iload_n 2, 1), (76, .iconst 1, 1), (77, .iadd, 1), (78, .aload_n 0, 1), (79, .getfield 498, 3), (82, .if_icmp .ge 14, 3), (85, .aload_n 0, 1), (86, .getfield 187, 3), (89, .iload_n 2, 1), (90, .iconst 1, 1), (91, .iadd, 1), (92, .iaload, 1), (93, .goto 4, 3)],
  [(96, .iconst 0, 1), (97, .istore_n 3, 1), (98, .aload_n 0, 1), (99, .getfield 187, 3), (102, .iload_n 2, 1), (103, .iaload, 1), (104, .istore 4, 2), (106, .iload 4, 2), (108, .iload_n 3, 1), (109, .if_icmp .le 15, 3), (112, .aload_n 0, 1), (113, .bipush 41, 2), (115, .invokevirtual 587, 3), (118, .iinc 4 (-1), 3), (121, .goto (-15), 3), (124, .iinc 2 1, 3), (127, .goto (-94), 3)],
  [(130, .aload_n 0, 1), (131, .getfield 584, 3), (134, .ireturn, 1)]]
/-- TreegrabModel.label(II)I -/
def zc_249 : List (List (Nat × Instr × Nat)) := [[(0, .aload_n 0, 1), (1, .iload_n 1, 1), (2, .iload_n 2, 1), (3, .invokevirtual 386, 3), (6, .ifCond .ne 5, 3), (9, .iconst 0, 1), (10, .ireturn, 1), (11, .aload_n 0, 1), (12, .iconst 0, 1), (13, .putfield 584, 3), (16, .aload_n 0, 1), (17, .aload_n 0, 1), (18, .getfield 16, 3), (21, .bipush 20, 2), (23, .iload_n 1, 1), (24, .imul, 1), (25, .iload_n 2, 1), (26, .iadd, 1), (27, .laload, 1), (28, .invokevirtual 590, 3), (31, .aload_n 0, 1)],
  [(32, .getfield 584, 3), (35, .ireturn, 1)]]
/-- TreegrabModel.word(I)J -/
def zc_250 : List (List (Nat × Instr × Nat)) := [[(0, .aload_n 0, 1), (1, .iconst 0, 1), (2, .putfield 205, 3), (5, .lconst 0, 1), (6, .lstore_n 2, 1), (7, .iconst 0, 1), (8, .istore 4, 2), (10, .iload 4, 2), (12, .bipush 8, 2), (14, .if_icmp .ge 61, 3), (17, .ldc2_w 594, 3), (20, .iload_n 1, 1), (21, .i2l, 1), (22, .lmul, 1), (23, .iload 4, 2), (25, .i2l, 1), (26, .ladd, 1), (27, .lstore 5, 2), (29, .lload_n 2, 1), (30, .lload 5, 2)],
  [(32, .lconst 0, 1), (33, .lcmp, 1), (34, .ifCond .lt 32, 3), (37, .lload 5, 2), (39, .aload_n 0, 1), (40, .getfield 584, 3), (43, .i2l, 1), (44, .lcmp, 1), (45, .ifCond .ge 21, 3), (48, .aload_n 0, 1), (49, .getfield 202, 3), (52, .lload 5, 2), (54, .l2i, 1), (55, .iaload, 1), (56, .i2l, 1), (57, .bipush 8, 2), (59, .iload 4, 2), (61, .imul, 1), (62, .lshl, 1), (63, .goto 4, 3)],
  [(66, .lconst 0, 1), (67, .lor, 1), (68, .lstore_n 2, 1), (69, .iinc 4 1, 3), (72, .goto (-62), 3), (75, .lload_n 2, 1), (76, .lreturn, 1)]]
/-- TreegrabLaw.feed(LTreegrab;JI[J)I -/
def zc_251 : List (List (Nat × Instr × Nat)) := [[(0, .aload 4, 2), (2, .iconst 0, 1), (3, .aload_n 0, 1), (4, .lload_n 1, 1), (5, .iload_n 3, 1), (6, .invokevirtual 7, 3), (9, .i2l, 1), (10, .lastore, 1), (11, .goto 11, 3), (14, .astore 5, 2), (16, .iconst 1, 1), (17, .ireturn, 1), (18, .astore 5, 2), (20, .iconst 2, 1), (21, .ireturn, 1), (22, .iconst 0, 1), (23, .ireturn, 1)]]
/-- TreegrabLaw.plant(LTreegrab;I[J)I -/
def zc_252 : List (List (Nat × Instr × Nat)) := [[(0, .aload_n 2, 1), (1, .iconst 0, 1), (2, .aload_n 0, 1), (3, .iload_n 1, 1), (4, .invokevirtual 17, 3), (7, .i2l, 1), (8, .lastore, 1), (9, .goto 9, 3), (12, .astore_n 3, 1), (13, .iconst 1, 1), (14, .ireturn, 1), (15, .astore_n 3, 1), (16, .iconst 2, 1), (17, .ireturn, 1), (18, .iconst 0, 1), (19, .ireturn, 1)]]
/-- TreegrabLaw.pattern(LTreegrab;[J)I -/
def zc_253 : List (List (Nat × Instr × Nat)) := [[(0, .aload_n 1, 1), (1, .iconst 0, 1), (2, .aload_n 0, 1), (3, .invokevirtual 23, 3), (6, .i2l, 1), (7, .lastore, 1), (8, .goto 6, 3), (11, .astore_n 2, 1), (12, .iconst 1, 1), (13, .ireturn, 1), (14, .iconst 0, 1), (15, .ireturn, 1)]]
/-- TreegrabLaw.script(LTreegrab;[J)I -/
def zc_254 : List (List (Nat × Instr × Nat)) := [[(0, .aload_n 1, 1), (1, .iconst 0, 1), (2, .aload_n 0, 1), (3, .invokevirtual 27, 3), (6, .i2l, 1), (7, .lastore, 1), (8, .goto 6, 3), (11, .astore_n 2, 1), (12, .iconst 1, 1), (13, .ireturn, 1), (14, .iconst 0, 1), (15, .ireturn, 1)]]
/-- TreegrabLaw.nodes(LTreegrab;I[J)I -/
def zc_255 : List (List (Nat × Instr × Nat)) := [[(0, .aload_n 2, 1), (1, .iconst 0, 1), (2, .aload_n 0, 1), (3, .iload_n 1, 1), (4, .invokevirtual 30, 3), (7, .i2l, 1), (8, .lastore, 1), (9, .goto 6, 3), (12, .astore_n 3, 1), (13, .iconst 1, 1), (14, .ireturn, 1), (15, .iconst 0, 1), (16, .ireturn, 1)]]
/-- TreegrabLaw.parent(LTreegrab;II[J)I -/
def zc_256 : List (List (Nat × Instr × Nat)) := [[(0, .aload_n 3, 1), (1, .iconst 0, 1), (2, .aload_n 0, 1), (3, .iload_n 1, 1), (4, .iload_n 2, 1), (5, .invokevirtual 33, 3), (8, .i2l, 1), (9, .lastore, 1), (10, .goto 7, 3), (13, .astore 4, 2), (15, .iconst 1, 1), (16, .ireturn, 1), (17, .iconst 0, 1), (18, .ireturn, 1)]]
/-- TreegrabLaw.children(LTreegrab;II[J)I -/
def zc_257 : List (List (Nat × Instr × Nat)) := [[(0, .aload_n 3, 1), (1, .iconst 0, 1), (2, .aload_n 0, 1), (3, .iload_n 1, 1), (4, .iload_n 2, 1), (5, .invokevirtual 37, 3), (8, .i2l, 1), (9, .lastore, 1), (10, .goto 7, 3), (13, .astore 4, 2), (15, .iconst 1, 1), (16, .ireturn, 1), (17, .iconst 0, 1), (18, .ireturn, 1)]]
/-- TreegrabLaw.wordOf(LTreegrab;IIZ[J)I -/
def zc_258 : List (List (Nat × Instr × Nat)) := [[(0, .aload 4, 2), (2, .iconst 0, 1), (3, .aload_n 0, 1), (4, .iload_n 1, 1), (5, .iload_n 2, 1), (6, .iload_n 3, 1), (7, .invokevirtual 40, 3), (10, .i2l, 1), (11, .lastore, 1), (12, .goto 7, 3), (15, .astore 5, 2), (17, .iconst 1, 1), (18, .ireturn, 1), (19, .iconst 0, 1), (20, .ireturn, 1)]]
/-- TreegrabLaw.withLabel(LTreegrab;I[J)I -/
def zc_259 : List (List (Nat × Instr × Nat)) := [[(0, .aload_n 2, 1), (1, .iconst 0, 1), (2, .aload_n 0, 1), (3, .iload_n 1, 1), (4, .invokevirtual 44, 3), (7, .i2l, 1), (8, .lastore, 1), (9, .goto 6, 3), (12, .astore_n 3, 1), (13, .iconst 1, 1), (14, .ireturn, 1), (15, .iconst 0, 1), (16, .ireturn, 1)]]
/-- TreegrabLaw.withLabelByWalk(LTreegrab;I[J)I -/
def zc_260 : List (List (Nat × Instr × Nat)) := [[(0, .aload_n 2, 1), (1, .iconst 0, 1), (2, .aload_n 0, 1), (3, .iload_n 1, 1), (4, .invokevirtual 47, 3), (7, .i2l, 1), (8, .lastore, 1), (9, .goto 6, 3), (12, .astore_n 3, 1), (13, .iconst 1, 1), (14, .ireturn, 1), (15, .iconst 0, 1), (16, .ireturn, 1)]]
/-- TreegrabLaw.matches(LTreegrab;I[J)I -/
def zc_261 : List (List (Nat × Instr × Nat)) := [[(0, .aload_n 2, 1), (1, .iconst 0, 1), (2, .aload_n 0, 1), (3, .iload_n 1, 1), (4, .invokevirtual 50, 3), (7, .i2l, 1), (8, .lastore, 1), (9, .goto 6, 3), (12, .astore_n 3, 1), (13, .iconst 1, 1), (14, .ireturn, 1), (15, .iconst 0, 1), (16, .ireturn, 1)]]
/-- TreegrabLaw.matchesByTrying(LTreegrab;I[J)I -/
def zc_262 : List (List (Nat × Instr × Nat)) := [[(0, .aload_n 2, 1), (1, .iconst 0, 1), (2, .aload_n 0, 1), (3, .iload_n 1, 1), (4, .invokevirtual 53, 3), (7, .i2l, 1), (8, .lastore, 1), (9, .goto 6, 3), (12, .astore_n 3, 1), (13, .iconst 1, 1), (14, .ireturn, 1), (15, .iconst 0, 1), (16, .ireturn, 1)]]
/-- TreegrabLaw.matchAt(LTreegrab;III[J)I -/
def zc_263 : List (List (Nat × Instr × Nat)) := [[(0, .aload 4, 2), (2, .iconst 0, 1), (3, .aload_n 0, 1), (4, .iload_n 1, 1), (5, .iload_n 2, 1), (6, .iload_n 3, 1), (7, .invokevirtual 56, 3), (10, .i2l, 1), (11, .lastore, 1), (12, .goto 7, 3), (15, .astore 5, 2), (17, .iconst 1, 1), (18, .ireturn, 1), (19, .iconst 0, 1), (20, .ireturn, 1)]]
/-- TreegrabLaw.matchAtByTrying(LTreegrab;III[J)I -/
def zc_264 : List (List (Nat × Instr × Nat)) := [[(0, .aload 4, 2), (2, .iconst 0, 1), (3, .aload_n 0, 1), (4, .iload_n 1, 1), (5, .iload_n 2, 1), (6, .iload_n 3, 1), (7, .invokevirtual 60, 3), (10, .i2l, 1), (11, .lastore, 1), (12, .goto 7, 3), (15, .astore 5, 2), (17, .iconst 1, 1), (18, .ireturn, 1), (19, .iconst 0, 1), (20, .ireturn, 1)]]
/-- TreegrabLaw.planAt(LTreegrab;II[J)I -/
def zc_265 : List (List (Nat × Instr × Nat)) := [[(0, .aload_n 3, 1), (1, .iconst 0, 1), (2, .aload_n 0, 1), (3, .iload_n 1, 1), (4, .iload_n 2, 1), (5, .invokevirtual 63, 3), (8, .i2l, 1), (9, .lastore, 1), (10, .goto 7, 3), (13, .astore 4, 2), (15, .iconst 1, 1), (16, .ireturn, 1), (17, .iconst 0, 1), (18, .ireturn, 1)]]
/-- TreegrabLaw.edit(LTreegrab;I[J)I -/
def zc_266 : List (List (Nat × Instr × Nat)) := [[(0, .aload_n 2, 1), (1, .iconst 0, 1), (2, .aload_n 0, 1), (3, .iload_n 1, 1), (4, .invokevirtual 66, 3), (7, .i2l, 1), (8, .lastore, 1), (9, .goto 9, 3), (12, .astore_n 3, 1), (13, .iconst 1, 1), (14, .ireturn, 1), (15, .astore_n 3, 1), (16, .iconst 2, 1), (17, .ireturn, 1), (18, .iconst 0, 1), (19, .ireturn, 1)]]
/-- TreegrabLaw.undo(LTreegrab;I[J)I -/
def zc_267 : List (List (Nat × Instr × Nat)) := [[(0, .aload_n 2, 1), (1, .iconst 0, 1), (2, .aload_n 0, 1), (3, .iload_n 1, 1), (4, .invokevirtual 69, 3), (7, .i2l, 1), (8, .lastore, 1), (9, .goto 9, 3), (12, .astore_n 3, 1), (13, .iconst 1, 1), (14, .ireturn, 1), (15, .astore_n 3, 1), (16, .iconst 2, 1), (17, .ireturn, 1), (18, .iconst 0, 1), (19, .ireturn, 1)]]
/-- TreegrabLaw.show(LTreegrab;I[J)I -/
def zc_268 : List (List (Nat × Instr × Nat)) := [[(0, .aload_n 2, 1), (1, .iconst 0, 1), (2, .aload_n 0, 1), (3, .iload_n 1, 1), (4, .invokevirtual 72, 3), (7, .i2l, 1), (8, .lastore, 1), (9, .goto 6, 3), (12, .astore_n 3, 1), (13, .iconst 1, 1), (14, .ireturn, 1), (15, .iconst 0, 1), (16, .ireturn, 1)]]
/-- TreegrabLaw.label(LTreegrab;II[J)I -/
def zc_269 : List (List (Nat × Instr × Nat)) := [[(0, .aload_n 3, 1), (1, .iconst 0, 1), (2, .aload_n 0, 1), (3, .iload_n 1, 1), (4, .iload_n 2, 1), (5, .invokevirtual 75, 3), (8, .i2l, 1), (9, .lastore, 1), (10, .goto 7, 3), (13, .astore 4, 2), (15, .iconst 1, 1), (16, .ireturn, 1), (17, .iconst 0, 1), (18, .ireturn, 1)]]
/-- TreegrabLaw.law([I)Z -/
def zc_270 : List (List (Nat × Instr × Nat)) := [[(0, .new 8, 3), (3, .dup, 1), (4, .invokespecial 78, 3), (7, .astore_n 1, 1), (8, .new 79, 3), (11, .dup, 1), (12, .invokespecial 81, 3), (15, .astore_n 2, 1), (16, .iconst 1, 1), (17, .newarray .long, 2), (19, .astore_n 3, 1), (20, .iconst 0, 1), (21, .istore 4, 2), (23, .iload 4, 2), (25, .aload_n 0, 1), (26, .arraylength, 1), (27, .iconst 4, 1), (28, .isub, 1), (29, .if_icmp .gt 1400, 3)],
  [(32, .aload_n 0, 1), (33, .iload 4, 2), (35, .iaload, 1), (36, .bipush 31, 2), (38, .iand, 1), (39, .tableswitch 1384 0 20 #[97, 197, 253, 297, 341, 382, 438, 506, 574, 670, 726, 782, 838, 894, 974, 1054, 1122, 1178, 1234, 1290, 1358], 97)],
  [],
  [],
  [(136, .aload_n 1, 1), (137, .aload_n 0, 1), (138, .iload 4, 2), (140, .iconst 1, 1), (141, .iadd, 1), (142, .iaload, 1), (143, .i2l, 1), (144, .bipush 32, 2), (146, .lshl, 1), (147, .aload_n 0, 1), (148, .iload 4, 2), (150, .iconst 2, 1), (151, .iadd, 1), (152, .iaload, 1), (153, .i2l, 1), (154, .ldc2_w 82, 3), (157, .land, 1), (158, .lor, 1), (159, .aload_n 0, 1)],
  [(160, .iload 4, 2), (162, .iconst 3, 1), (163, .iadd, 1), (164, .iaload, 1), (165, .aload_n 3, 1), (166, .invokestatic 84, 3), (169, .istore 5, 2), (171, .aload_n 2, 1), (172, .aload_n 0, 1), (173, .iload 4, 2), (175, .iconst 1, 1), (176, .iadd, 1), (177, .iaload, 1), (178, .i2l, 1), (179, .bipush 32, 2), (181, .lshl, 1), (182, .aload_n 0, 1), (183, .iload 4, 2), (185, .iconst 2, 1), (186, .iadd, 1), (187, .iaload, 1), (188, .i2l, 1), (189, .ldc2_w 82, 3)],
  [(192, .land, 1), (193, .lor, 1), (194, .aload_n 0, 1), (195, .iload 4, 2), (197, .iconst 3, 1), (198, .iadd, 1), (199, .iaload, 1), (200, .invokevirtual 89, 3), (203, .istore 6, 2), (205, .aload_n 2, 1), (206, .invokevirtual 90, 3), (209, .iload 5, 2), (211, .if_icmp .eq 5, 3), (214, .iconst 0, 1), (215, .ireturn, 1), (216, .iload 5, 2), (218, .ifCond .ne 15, 3), (221, .aload_n 3, 1), (222, .iconst 0, 1), (223, .laload, 1)],
  [(224, .iload 6, 2), (226, .i2l, 1), (227, .lcmp, 1), (228, .ifCond .eq 5, 3), (231, .iconst 0, 1), (232, .ireturn, 1), (233, .goto 1190, 3), (236, .aload_n 1, 1), (237, .aload_n 0, 1), (238, .iload 4, 2), (240, .iconst 1, 1), (241, .iadd, 1), (242, .iaload, 1), (243, .aload_n 3, 1), (244, .invokestatic 93, 3), (247, .istore 5, 2), (249, .aload_n 2, 1), (250, .aload_n 0, 1), (251, .iload 4, 2), (253, .iconst 1, 1), (254, .iadd, 1), (255, .iaload, 1)],
  [(256, .invokevirtual 96, 3), (259, .istore 6, 2), (261, .aload_n 2, 1), (262, .invokevirtual 90, 3), (265, .iload 5, 2), (267, .if_icmp .eq 5, 3), (270, .iconst 0, 1), (271, .ireturn, 1), (272, .iload 5, 2), (274, .ifCond .ne 15, 3), (277, .aload_n 3, 1), (278, .iconst 0, 1), (279, .laload, 1), (280, .iload 6, 2), (282, .i2l, 1), (283, .lcmp, 1), (284, .ifCond .eq 5, 3), (287, .iconst 0, 1)],
  [(288, .ireturn, 1), (289, .goto 1134, 3), (292, .aload_n 1, 1), (293, .aload_n 3, 1), (294, .invokestatic 97, 3), (297, .istore 5, 2), (299, .aload_n 2, 1), (300, .invokevirtual 100, 3), (303, .istore 6, 2), (305, .aload_n 2, 1), (306, .invokevirtual 90, 3), (309, .iload 5, 2), (311, .if_icmp .eq 5, 3), (314, .iconst 0, 1), (315, .ireturn, 1), (316, .iload 5, 2), (318, .ifCond .ne 15, 3)],
  [(321, .aload_n 3, 1), (322, .iconst 0, 1), (323, .laload, 1), (324, .iload 6, 2), (326, .i2l, 1), (327, .lcmp, 1), (328, .ifCond .eq 5, 3), (331, .iconst 0, 1), (332, .ireturn, 1), (333, .goto 1090, 3), (336, .aload_n 1, 1), (337, .aload_n 3, 1), (338, .invokestatic 101, 3), (341, .istore 5, 2), (343, .aload_n 2, 1), (344, .invokevirtual 103, 3), (347, .istore 6, 2), (349, .aload_n 2, 1), (350, .invokevirtual 90, 3)],
  [(353, .iload 5, 2), (355, .if_icmp .eq 5, 3), (358, .iconst 0, 1), (359, .ireturn, 1), (360, .iload 5, 2), (362, .ifCond .ne 15, 3), (365, .aload_n 3, 1), (366, .iconst 0, 1), (367, .laload, 1), (368, .iload 6, 2), (370, .i2l, 1), (371, .lcmp, 1), (372, .ifCond .eq 5, 3), (375, .iconst 0, 1), (376, .ireturn, 1), (377, .goto 1046, 3), (380, .aload_n 1, 1), (381, .aload_n 0, 1), (382, .iload 4, 2)],
  [(384, .iconst 1, 1), (385, .iadd, 1), (386, .iaload, 1), (387, .ifCond .eq 7, 3), (390, .iconst 1, 1), (391, .goto 4, 3), (394, .iconst 0, 1), (395, .invokevirtual 104, 3), (398, .aload_n 2, 1), (399, .aload_n 0, 1), (400, .iload 4, 2), (402, .iconst 1, 1), (403, .iadd, 1), (404, .iaload, 1), (405, .ifCond .eq 7, 3), (408, .iconst 1, 1), (409, .goto 4, 3), (412, .iconst 0, 1), (413, .invokevirtual 108, 3)],
  [(416, .if_icmp .eq 1007, 3), (419, .iconst 0, 1), (420, .ireturn, 1), (421, .aload_n 1, 1), (422, .aload_n 0, 1), (423, .iload 4, 2), (425, .iconst 1, 1), (426, .iadd, 1), (427, .iaload, 1), (428, .aload_n 3, 1), (429, .invokestatic 109, 3), (432, .istore 5, 2), (434, .aload_n 2, 1), (435, .aload_n 0, 1), (436, .iload 4, 2), (438, .iconst 1, 1), (439, .iadd, 1), (440, .iaload, 1), (441, .invokevirtual 111, 3), (444, .istore 6, 2), (446, .aload_n 2, 1), (447, .invokevirtual 90, 3)],
  [(450, .iload 5, 2), (452, .if_icmp .eq 5, 3), (455, .iconst 0, 1), (456, .ireturn, 1), (457, .iload 5, 2), (459, .ifCond .ne 15, 3), (462, .aload_n 3, 1), (463, .iconst 0, 1), (464, .laload, 1), (465, .iload 6, 2), (467, .i2l, 1), (468, .lcmp, 1), (469, .ifCond .eq 5, 3), (472, .iconst 0, 1), (473, .ireturn, 1), (474, .goto 949, 3), (477, .aload_n 1, 1), (478, .aload_n 0, 1), (479, .iload 4, 2)],
  [(481, .iconst 1, 1), (482, .iadd, 1), (483, .iaload, 1), (484, .aload_n 0, 1), (485, .iload 4, 2), (487, .iconst 2, 1), (488, .iadd, 1), (489, .iaload, 1), (490, .aload_n 3, 1), (491, .invokestatic 112, 3), (494, .istore 5, 2), (496, .aload_n 2, 1), (497, .aload_n 0, 1), (498, .iload 4, 2), (500, .iconst 1, 1), (501, .iadd, 1), (502, .iaload, 1), (503, .aload_n 0, 1), (504, .iload 4, 2), (506, .iconst 2, 1), (507, .iadd, 1), (508, .iaload, 1), (509, .invokevirtual 115, 3)],
  [(512, .istore 6, 2), (514, .aload_n 2, 1), (515, .invokevirtual 90, 3), (518, .iload 5, 2), (520, .if_icmp .eq 5, 3), (523, .iconst 0, 1), (524, .ireturn, 1), (525, .iload 5, 2), (527, .ifCond .ne 15, 3), (530, .aload_n 3, 1), (531, .iconst 0, 1), (532, .laload, 1), (533, .iload 6, 2), (535, .i2l, 1), (536, .lcmp, 1), (537, .ifCond .eq 5, 3), (540, .iconst 0, 1), (541, .ireturn, 1), (542, .goto 881, 3)],
  [(545, .aload_n 1, 1), (546, .aload_n 0, 1), (547, .iload 4, 2), (549, .iconst 1, 1), (550, .iadd, 1), (551, .iaload, 1), (552, .aload_n 0, 1), (553, .iload 4, 2), (555, .iconst 2, 1), (556, .iadd, 1), (557, .iaload, 1), (558, .aload_n 3, 1), (559, .invokestatic 116, 3), (562, .istore 5, 2), (564, .aload_n 2, 1), (565, .aload_n 0, 1), (566, .iload 4, 2), (568, .iconst 1, 1), (569, .iadd, 1), (570, .iaload, 1), (571, .aload_n 0, 1), (572, .iload 4, 2), (574, .iconst 2, 1), (575, .iadd, 1)],
  [(576, .iaload, 1), (577, .invokevirtual 118, 3), (580, .istore 6, 2), (582, .aload_n 2, 1), (583, .invokevirtual 90, 3), (586, .iload 5, 2), (588, .if_icmp .eq 5, 3), (591, .iconst 0, 1), (592, .ireturn, 1), (593, .iload 5, 2), (595, .ifCond .ne 15, 3), (598, .aload_n 3, 1), (599, .iconst 0, 1), (600, .laload, 1), (601, .iload 6, 2), (603, .i2l, 1), (604, .lcmp, 1), (605, .ifCond .eq 5, 3)],
  [(608, .iconst 0, 1), (609, .ireturn, 1), (610, .goto 813, 3), (613, .aload_n 1, 1), (614, .aload_n 0, 1), (615, .iload 4, 2), (617, .iconst 1, 1), (618, .iadd, 1), (619, .iaload, 1), (620, .aload_n 0, 1), (621, .iload 4, 2), (623, .iconst 2, 1), (624, .iadd, 1), (625, .iaload, 1), (626, .aload_n 0, 1), (627, .iload 4, 2), (629, .iconst 3, 1), (630, .iadd, 1), (631, .iaload, 1), (632, .ifCond .eq 7, 3), (635, .iconst 1, 1), (636, .goto 4, 3), (639, .iconst 0, 1)],
  [(640, .aload_n 3, 1), (641, .invokestatic 119, 3), (644, .istore 5, 2), (646, .aload_n 2, 1), (647, .aload_n 0, 1), (648, .iload 4, 2), (650, .iconst 1, 1), (651, .iadd, 1), (652, .iaload, 1), (653, .aload_n 0, 1), (654, .iload 4, 2), (656, .iconst 2, 1), (657, .iadd, 1), (658, .iaload, 1), (659, .aload_n 0, 1), (660, .iload 4, 2), (662, .iconst 3, 1), (663, .iadd, 1), (664, .iaload, 1), (665, .ifCond .eq 7, 3), (668, .iconst 1, 1), (669, .goto 4, 3)],
  [(672, .iconst 0, 1), (673, .invokevirtual 122, 3), (676, .istore 6, 2), (678, .aload_n 2, 1), (679, .invokevirtual 90, 3), (682, .iload 5, 2), (684, .if_icmp .eq 5, 3), (687, .iconst 0, 1), (688, .ireturn, 1), (689, .iload 5, 2), (691, .ifCond .ne 15, 3), (694, .aload_n 3, 1), (695, .iconst 0, 1), (696, .laload, 1), (697, .iload 6, 2), (699, .i2l, 1), (700, .lcmp, 1), (701, .ifCond .eq 5, 3)],
  [(704, .iconst 0, 1), (705, .ireturn, 1), (706, .goto 717, 3), (709, .aload_n 1, 1), (710, .aload_n 0, 1), (711, .iload 4, 2), (713, .iconst 1, 1), (714, .iadd, 1), (715, .iaload, 1), (716, .aload_n 3, 1), (717, .invokestatic 123, 3), (720, .istore 5, 2), (722, .aload_n 2, 1), (723, .aload_n 0, 1), (724, .iload 4, 2), (726, .iconst 1, 1), (727, .iadd, 1), (728, .iaload, 1), (729, .invokevirtual 125, 3), (732, .istore 6, 2), (734, .aload_n 2, 1), (735, .invokevirtual 90, 3)],
  [(738, .iload 5, 2), (740, .if_icmp .eq 5, 3), (743, .iconst 0, 1), (744, .ireturn, 1), (745, .iload 5, 2), (747, .ifCond .ne 15, 3), (750, .aload_n 3, 1), (751, .iconst 0, 1), (752, .laload, 1), (753, .iload 6, 2), (755, .i2l, 1), (756, .lcmp, 1), (757, .ifCond .eq 5, 3), (760, .iconst 0, 1), (761, .ireturn, 1), (762, .goto 661, 3), (765, .aload_n 1, 1), (766, .aload_n 0, 1), (767, .iload 4, 2)],
  [(769, .iconst 1, 1), (770, .iadd, 1), (771, .iaload, 1), (772, .aload_n 3, 1), (773, .invokestatic 126, 3), (776, .istore 5, 2), (778, .aload_n 2, 1), (779, .aload_n 0, 1), (780, .iload 4, 2), (782, .iconst 1, 1), (783, .iadd, 1), (784, .iaload, 1), (785, .invokevirtual 128, 3), (788, .istore 6, 2), (790, .aload_n 2, 1), (791, .invokevirtual 90, 3), (794, .iload 5, 2), (796, .if_icmp .eq 5, 3), (799, .iconst 0, 1)],
  [(800, .ireturn, 1), (801, .iload 5, 2), (803, .ifCond .ne 15, 3), (806, .aload_n 3, 1), (807, .iconst 0, 1), (808, .laload, 1), (809, .iload 6, 2), (811, .i2l, 1), (812, .lcmp, 1), (813, .ifCond .eq 5, 3), (816, .iconst 0, 1), (817, .ireturn, 1), (818, .goto 605, 3), (821, .aload_n 1, 1), (822, .aload_n 0, 1), (823, .iload 4, 2), (825, .iconst 1, 1), (826, .iadd, 1), (827, .iaload, 1), (828, .aload_n 3, 1), (829, .invokestatic 129, 3)],
  [(832, .istore 5, 2), (834, .aload_n 2, 1), (835, .aload_n 0, 1), (836, .iload 4, 2), (838, .iconst 1, 1), (839, .iadd, 1), (840, .iaload, 1), (841, .invokevirtual 131, 3), (844, .istore 6, 2), (846, .aload_n 2, 1), (847, .invokevirtual 90, 3), (850, .iload 5, 2), (852, .if_icmp .eq 5, 3), (855, .iconst 0, 1), (856, .ireturn, 1), (857, .iload 5, 2), (859, .ifCond .ne 15, 3), (862, .aload_n 3, 1), (863, .iconst 0, 1)],
  [(864, .laload, 1), (865, .iload 6, 2), (867, .i2l, 1), (868, .lcmp, 1), (869, .ifCond .eq 5, 3), (872, .iconst 0, 1), (873, .ireturn, 1), (874, .goto 549, 3), (877, .aload_n 1, 1), (878, .aload_n 0, 1), (879, .iload 4, 2), (881, .iconst 1, 1), (882, .iadd, 1), (883, .iaload, 1), (884, .aload_n 3, 1), (885, .invokestatic 132, 3), (888, .istore 5, 2), (890, .aload_n 2, 1), (891, .aload_n 0, 1), (892, .iload 4, 2), (894, .iconst 1, 1), (895, .iadd, 1)],
  [(896, .iaload, 1), (897, .invokevirtual 134, 3), (900, .istore 6, 2), (902, .aload_n 2, 1), (903, .invokevirtual 90, 3), (906, .iload 5, 2), (908, .if_icmp .eq 5, 3), (911, .iconst 0, 1), (912, .ireturn, 1), (913, .iload 5, 2), (915, .ifCond .ne 15, 3), (918, .aload_n 3, 1), (919, .iconst 0, 1), (920, .laload, 1), (921, .iload 6, 2), (923, .i2l, 1), (924, .lcmp, 1), (925, .ifCond .eq 5, 3)],
  [(928, .iconst 0, 1), (929, .ireturn, 1), (930, .goto 493, 3), (933, .aload_n 1, 1), (934, .aload_n 0, 1), (935, .iload 4, 2), (937, .iconst 1, 1), (938, .iadd, 1), (939, .iaload, 1), (940, .aload_n 0, 1), (941, .iload 4, 2), (943, .iconst 2, 1), (944, .iadd, 1), (945, .iaload, 1), (946, .aload_n 0, 1), (947, .iload 4, 2), (949, .iconst 3, 1), (950, .iadd, 1), (951, .iaload, 1), (952, .aload_n 3, 1), (953, .invokestatic 135, 3), (956, .istore 5, 2), (958, .aload_n 2, 1), (959, .aload_n 0, 1)],
  [(960, .iload 4, 2), (962, .iconst 1, 1), (963, .iadd, 1), (964, .iaload, 1), (965, .aload_n 0, 1), (966, .iload 4, 2), (968, .iconst 2, 1), (969, .iadd, 1), (970, .iaload, 1), (971, .aload_n 0, 1), (972, .iload 4, 2), (974, .iconst 3, 1), (975, .iadd, 1), (976, .iaload, 1), (977, .invokevirtual 138, 3), (980, .istore 6, 2), (982, .aload_n 2, 1), (983, .invokevirtual 90, 3), (986, .iload 5, 2), (988, .if_icmp .eq 5, 3), (991, .iconst 0, 1)],
  [(992, .ireturn, 1), (993, .iload 5, 2), (995, .ifCond .ne 15, 3), (998, .aload_n 3, 1), (999, .iconst 0, 1), (1000, .laload, 1), (1001, .iload 6, 2), (1003, .i2l, 1), (1004, .lcmp, 1), (1005, .ifCond .eq 5, 3), (1008, .iconst 0, 1), (1009, .ireturn, 1), (1010, .goto 413, 3), (1013, .aload_n 1, 1), (1014, .aload_n 0, 1), (1015, .iload 4, 2), (1017, .iconst 1, 1), (1018, .iadd, 1), (1019, .iaload, 1), (1020, .aload_n 0, 1), (1021, .iload 4, 2), (1023, .iconst 2, 1)],
  [(1024, .iadd, 1), (1025, .iaload, 1), (1026, .aload_n 0, 1), (1027, .iload 4, 2), (1029, .iconst 3, 1), (1030, .iadd, 1), (1031, .iaload, 1), (1032, .aload_n 3, 1), (1033, .invokestatic 139, 3), (1036, .istore 5, 2), (1038, .aload_n 2, 1), (1039, .aload_n 0, 1), (1040, .iload 4, 2), (1042, .iconst 1, 1), (1043, .iadd, 1), (1044, .iaload, 1), (1045, .aload_n 0, 1), (1046, .iload 4, 2), (1048, .iconst 2, 1), (1049, .iadd, 1), (1050, .iaload, 1), (1051, .aload_n 0, 1), (1052, .iload 4, 2), (1054, .iconst 3, 1), (1055, .iadd, 1)],
  [(1056, .iaload, 1), (1057, .invokevirtual 141, 3), (1060, .istore 6, 2), (1062, .aload_n 2, 1), (1063, .invokevirtual 90, 3), (1066, .iload 5, 2), (1068, .if_icmp .eq 5, 3), (1071, .iconst 0, 1), (1072, .ireturn, 1), (1073, .iload 5, 2), (1075, .ifCond .ne 15, 3), (1078, .aload_n 3, 1), (1079, .iconst 0, 1), (1080, .laload, 1), (1081, .iload 6, 2), (1083, .i2l, 1), (1084, .lcmp, 1), (1085, .ifCond .eq 5, 3)],
  [(1088, .iconst 0, 1), (1089, .ireturn, 1), (1090, .goto 333, 3), (1093, .aload_n 1, 1), (1094, .aload_n 0, 1), (1095, .iload 4, 2), (1097, .iconst 1, 1), (1098, .iadd, 1), (1099, .iaload, 1), (1100, .aload_n 0, 1), (1101, .iload 4, 2), (1103, .iconst 2, 1), (1104, .iadd, 1), (1105, .iaload, 1), (1106, .aload_n 3, 1), (1107, .invokestatic 142, 3), (1110, .istore 5, 2), (1112, .aload_n 2, 1), (1113, .aload_n 0, 1), (1114, .iload 4, 2), (1116, .iconst 1, 1), (1117, .iadd, 1), (1118, .iaload, 1), (1119, .aload_n 0, 1)],
  [(1120, .iload 4, 2), (1122, .iconst 2, 1), (1123, .iadd, 1), (1124, .iaload, 1), (1125, .invokevirtual 144, 3), (1128, .istore 6, 2), (1130, .aload_n 2, 1), (1131, .invokevirtual 90, 3), (1134, .iload 5, 2), (1136, .if_icmp .eq 5, 3), (1139, .iconst 0, 1), (1140, .ireturn, 1), (1141, .iload 5, 2), (1143, .ifCond .ne 15, 3), (1146, .aload_n 3, 1), (1147, .iconst 0, 1), (1148, .laload, 1), (1149, .iload 6, 2), (1151, .i2l, 1)],
  [(1152, .lcmp, 1), (1153, .ifCond .eq 5, 3), (1156, .iconst 0, 1), (1157, .ireturn, 1), (1158, .goto 265, 3), (1161, .aload_n 1, 1), (1162, .aload_n 0, 1), (1163, .iload 4, 2), (1165, .iconst 1, 1), (1166, .iadd, 1), (1167, .iaload, 1), (1168, .aload_n 3, 1), (1169, .invokestatic 145, 3), (1172, .istore 5, 2), (1174, .aload_n 2, 1), (1175, .aload_n 0, 1), (1176, .iload 4, 2), (1178, .iconst 1, 1), (1179, .iadd, 1), (1180, .iaload, 1), (1181, .invokevirtual 147, 3)],
  [(1184, .istore 6, 2), (1186, .aload_n 2, 1), (1187, .invokevirtual 90, 3), (1190, .iload 5, 2), (1192, .if_icmp .eq 5, 3), (1195, .iconst 0, 1), (1196, .ireturn, 1), (1197, .iload 5, 2), (1199, .ifCond .ne 15, 3), (1202, .aload_n 3, 1), (1203, .iconst 0, 1), (1204, .laload, 1), (1205, .iload 6, 2), (1207, .i2l, 1), (1208, .lcmp, 1), (1209, .ifCond .eq 5, 3), (1212, .iconst 0, 1), (1213, .ireturn, 1), (1214, .goto 209, 3)],
  [(1217, .aload_n 1, 1), (1218, .aload_n 0, 1), (1219, .iload 4, 2), (1221, .iconst 1, 1), (1222, .iadd, 1), (1223, .iaload, 1), (1224, .aload_n 3, 1), (1225, .invokestatic 148, 3), (1228, .istore 5, 2), (1230, .aload_n 2, 1), (1231, .aload_n 0, 1), (1232, .iload 4, 2), (1234, .iconst 1, 1), (1235, .iadd, 1), (1236, .iaload, 1), (1237, .invokevirtual 150, 3), (1240, .istore 6, 2), (1242, .aload_n 2, 1), (1243, .invokevirtual 90, 3), (1246, .iload 5, 2)],
  [(1248, .if_icmp .eq 5, 3), (1251, .iconst 0, 1), (1252, .ireturn, 1), (1253, .iload 5, 2), (1255, .ifCond .ne 15, 3), (1258, .aload_n 3, 1), (1259, .iconst 0, 1), (1260, .laload, 1), (1261, .iload 6, 2), (1263, .i2l, 1), (1264, .lcmp, 1), (1265, .ifCond .eq 5, 3), (1268, .iconst 0, 1), (1269, .ireturn, 1), (1270, .goto 153, 3), (1273, .aload_n 1, 1), (1274, .aload_n 0, 1), (1275, .iload 4, 2), (1277, .iconst 1, 1), (1278, .iadd, 1), (1279, .iaload, 1)],
  [(1280, .aload_n 3, 1), (1281, .invokestatic 151, 3), (1284, .istore 5, 2), (1286, .aload_n 2, 1), (1287, .aload_n 0, 1), (1288, .iload 4, 2), (1290, .iconst 1, 1), (1291, .iadd, 1), (1292, .iaload, 1), (1293, .invokevirtual 153, 3), (1296, .istore 6, 2), (1298, .aload_n 2, 1), (1299, .invokevirtual 90, 3), (1302, .iload 5, 2), (1304, .if_icmp .eq 5, 3), (1307, .iconst 0, 1), (1308, .ireturn, 1), (1309, .iload 5, 2), (1311, .ifCond .ne 15, 3)],
  [(1314, .aload_n 3, 1), (1315, .iconst 0, 1), (1316, .laload, 1), (1317, .iload 6, 2), (1319, .i2l, 1), (1320, .lcmp, 1), (1321, .ifCond .eq 5, 3), (1324, .iconst 0, 1), (1325, .ireturn, 1), (1326, .goto 97, 3), (1329, .aload_n 1, 1), (1330, .aload_n 0, 1), (1331, .iload 4, 2), (1333, .iconst 1, 1), (1334, .iadd, 1), (1335, .iaload, 1), (1336, .aload_n 0, 1), (1337, .iload 4, 2), (1339, .iconst 2, 1), (1340, .iadd, 1), (1341, .iaload, 1), (1342, .aload_n 3, 1), (1343, .invokestatic 154, 3)],
  [(1346, .istore 5, 2), (1348, .aload_n 2, 1), (1349, .aload_n 0, 1), (1350, .iload 4, 2), (1352, .iconst 1, 1), (1353, .iadd, 1), (1354, .iaload, 1), (1355, .aload_n 0, 1), (1356, .iload 4, 2), (1358, .iconst 2, 1), (1359, .iadd, 1), (1360, .iaload, 1), (1361, .invokevirtual 156, 3), (1364, .istore 6, 2), (1366, .aload_n 2, 1), (1367, .invokevirtual 90, 3), (1370, .iload 5, 2), (1372, .if_icmp .eq 5, 3), (1375, .iconst 0, 1)],
  [(1376, .ireturn, 1), (1377, .iload 5, 2), (1379, .ifCond .ne 15, 3), (1382, .aload_n 3, 1), (1383, .iconst 0, 1), (1384, .laload, 1), (1385, .iload 6, 2), (1387, .i2l, 1), (1388, .lcmp, 1), (1389, .ifCond .eq 5, 3), (1392, .iconst 0, 1), (1393, .ireturn, 1), (1394, .goto 29, 3), (1397, .aload_n 1, 1), (1398, .aload_n 0, 1), (1399, .iload 4, 2), (1401, .iconst 1, 1), (1402, .iadd, 1), (1403, .iaload, 1), (1404, .invokevirtual 157, 3), (1407, .aload_n 2, 1)],
  [(1408, .aload_n 0, 1), (1409, .iload 4, 2), (1411, .iconst 1, 1), (1412, .iadd, 1), (1413, .iaload, 1), (1414, .invokevirtual 161, 3), (1417, .lcmp, 1), (1418, .ifCond .eq 5, 3), (1421, .iconst 0, 1), (1422, .ireturn, 1), (1423, .iinc 4 4, 3), (1426, .goto (-1403), 3), (1429, .iconst 1, 1), (1430, .ireturn, 1)]]
/-- java/lang/Integer.bitCount(I)I -/
def zc_271 : List (List (Nat × Instr × Nat)) := [[(0, .iload_n 0, 1), (1, .iload_n 0, 1), (2, .iconst 1, 1), (3, .iushr, 1), (4, .ldc_w 265, 3), (7, .iand, 1), (8, .isub, 1), (9, .istore_n 0, 1), (10, .iload_n 0, 1), (11, .ldc_w 266, 3), (14, .iand, 1), (15, .iload_n 0, 1), (16, .iconst 2, 1), (17, .iushr, 1), (18, .ldc_w 266, 3), (21, .iand, 1), (22, .iadd, 1), (23, .istore_n 0, 1), (24, .iload_n 0, 1), (25, .iload_n 0, 1), (26, .iconst 4, 1), (27, .iushr, 1), (28, .iadd, 1), (29, .ldc_w 267, 3)],
  [(32, .iand, 1), (33, .istore_n 0, 1), (34, .iload_n 0, 1), (35, .iload_n 0, 1), (36, .bipush 8, 2), (38, .iushr, 1), (39, .iadd, 1), (40, .istore_n 0, 1), (41, .iload_n 0, 1), (42, .iload_n 0, 1), (43, .bipush 16, 2), (45, .iushr, 1), (46, .iadd, 1), (47, .istore_n 0, 1), (48, .iload_n 0, 1), (49, .bipush 63, 2), (51, .iand, 1), (52, .ireturn, 1)]]
/-- java/lang/Integer.numberOfTrailingZeros(I)I -/
def zc_272 : List (List (Nat × Instr × Nat)) := [[(0, .iload_n 0, 1), (1, .iconst (-1), 1), (2, .ixor, 1), (3, .iload_n 0, 1), (4, .iconst 1, 1), (5, .isub, 1), (6, .iand, 1), (7, .istore_n 0, 1), (8, .iload_n 0, 1), (9, .ifCond .gt 8, 3), (12, .iload_n 0, 1), (13, .bipush 32, 2), (15, .iand, 1), (16, .ireturn, 1), (17, .iconst 1, 1), (18, .istore_n 1, 1), (19, .iload_n 0, 1), (20, .ldc_w 264, 3), (23, .if_icmp .le 11, 3), (26, .iinc 1 16, 3), (29, .iload_n 0, 1), (30, .bipush 16, 2)],
  [(32, .iushr, 1), (33, .istore_n 0, 1), (34, .iload_n 0, 1), (35, .sipush 256, 3), (38, .if_icmp .le 11, 3), (41, .iinc 1 8, 3), (44, .iload_n 0, 1), (45, .bipush 8, 2), (47, .iushr, 1), (48, .istore_n 0, 1), (49, .iload_n 0, 1), (50, .bipush 16, 2), (52, .if_icmp .le 10, 3), (55, .iinc 1 4, 3), (58, .iload_n 0, 1), (59, .iconst 4, 1), (60, .iushr, 1), (61, .istore_n 0, 1), (62, .iload_n 0, 1), (63, .iconst 4, 1)],
  [(64, .if_icmp .le 10, 3), (67, .iinc 1 2, 3), (70, .iload_n 0, 1), (71, .iconst 2, 1), (72, .iushr, 1), (73, .istore_n 0, 1), (74, .iload_n 1, 1), (75, .iload_n 0, 1), (76, .iconst 1, 1), (77, .iushr, 1), (78, .iadd, 1), (79, .ireturn, 1)]]
/-- java/lang/Long.bitCount(J)I -/
def zc_273 : List (List (Nat × Instr × Nat)) := [[(0, .lload_n 0, 1), (1, .lload_n 0, 1), (2, .iconst 1, 1), (3, .lushr, 1), (4, .ldc2_w 314, 3), (7, .land, 1), (8, .lsub, 1), (9, .lstore_n 0, 1), (10, .lload_n 0, 1), (11, .ldc2_w 316, 3), (14, .land, 1), (15, .lload_n 0, 1), (16, .iconst 2, 1), (17, .lushr, 1), (18, .ldc2_w 316, 3), (21, .land, 1), (22, .ladd, 1), (23, .lstore_n 0, 1), (24, .lload_n 0, 1), (25, .lload_n 0, 1), (26, .iconst 4, 1), (27, .lushr, 1), (28, .ladd, 1), (29, .ldc2_w 318, 3)],
  [(32, .land, 1), (33, .lstore_n 0, 1), (34, .lload_n 0, 1), (35, .lload_n 0, 1), (36, .bipush 8, 2), (38, .lushr, 1), (39, .ladd, 1), (40, .lstore_n 0, 1), (41, .lload_n 0, 1), (42, .lload_n 0, 1), (43, .bipush 16, 2), (45, .lushr, 1), (46, .ladd, 1), (47, .lstore_n 0, 1), (48, .lload_n 0, 1), (49, .lload_n 0, 1), (50, .bipush 32, 2), (52, .lushr, 1), (53, .ladd, 1), (54, .lstore_n 0, 1), (55, .lload_n 0, 1), (56, .l2i, 1), (57, .bipush 127, 2), (59, .iand, 1), (60, .ireturn, 1)]]
/-- java/lang/Long.numberOfTrailingZeros(J)I -/
def zc_274 : List (List (Nat × Instr × Nat)) := [[(0, .lload_n 0, 1), (1, .l2i, 1), (2, .istore_n 2, 1), (3, .iload_n 2, 1), (4, .ifCond .ne 17, 3), (7, .bipush 32, 2), (9, .lload_n 0, 1), (10, .bipush 32, 2), (12, .lushr, 1), (13, .l2i, 1), (14, .invokestatic 311, 3), (17, .iadd, 1), (18, .goto 7, 3), (21, .iload_n 2, 1), (22, .invokestatic 311, 3), (25, .ireturn, 1)]]
def zcodes : List (List (List (List (Nat × Instr × Nat)))) := [[zc_0, zc_1, zc_2, zc_3, zc_4, zc_5, zc_6, zc_7, zc_8, zc_9, zc_10, zc_11, zc_12, zc_13, zc_14, zc_15],
  [zc_16, zc_17, zc_18, zc_19, zc_20, zc_21, zc_22, zc_23, zc_24, zc_25, zc_26, zc_27, zc_28, zc_29, zc_30, zc_31],
  [zc_32, zc_33, zc_34, zc_35, zc_36, zc_37, zc_38, zc_39, zc_40, zc_41, zc_42, zc_43, zc_44, zc_45, zc_46, zc_47],
  [zc_48, zc_49, zc_50, zc_51, zc_52, zc_53, zc_54, zc_55, zc_56, zc_57, zc_58, zc_59, zc_60, zc_61, zc_62, zc_63],
  [zc_64, zc_65, zc_66, zc_67, zc_68, zc_69, zc_70, zc_71, zc_72, zc_73, zc_74, zc_75, zc_76, zc_77, zc_78, zc_79],
  [zc_80, zc_81, zc_82, zc_83, zc_84, zc_85, zc_86, zc_87, zc_88, zc_89, zc_90, zc_91, zc_92, zc_93, zc_94, zc_95],
  [zc_96, zc_97, zc_98, zc_99, zc_100, zc_101, zc_102, zc_103, zc_104, zc_105, zc_106, zc_107, zc_108, zc_109, zc_110, zc_111],
  [zc_112, zc_113, zc_114, zc_115, zc_116, zc_117, zc_118, zc_119, zc_120, zc_121, zc_122, zc_123, zc_124, zc_125, zc_126, zc_127],
  [zc_128, zc_129, zc_130, zc_131, zc_132, zc_133, zc_134, zc_135, zc_136, zc_137, zc_138, zc_139, zc_140, zc_141, zc_142, zc_143],
  [zc_144, zc_145, zc_146, zc_147, zc_148, zc_149, zc_150, zc_151, zc_152, zc_153, zc_154, zc_155, zc_156, zc_157, zc_158, zc_159],
  [zc_160, zc_161, zc_162, zc_163, zc_164, zc_165, zc_166, zc_167, zc_168, zc_169, zc_170, zc_171, zc_172, zc_173, zc_174, zc_175],
  [zc_176, zc_177, zc_178, zc_179, zc_180, zc_181, zc_182, zc_183, zc_184, zc_185, zc_186, zc_187, zc_188, zc_189, zc_190, zc_191],
  [zc_192, zc_193, zc_194, zc_195, zc_196, zc_197, zc_198, zc_199, zc_200, zc_201, zc_202, zc_203, zc_204, zc_205, zc_206, zc_207],
  [zc_208, zc_209, zc_210, zc_211, zc_212, zc_213, zc_214, zc_215, zc_216, zc_217, zc_218, zc_219, zc_220, zc_221, zc_222, zc_223],
  [zc_224, zc_225, zc_226, zc_227, zc_228, zc_229, zc_230, zc_231, zc_232, zc_233, zc_234, zc_235, zc_236, zc_237, zc_238, zc_239],
  [zc_240, zc_241, zc_242, zc_243, zc_244, zc_245, zc_246, zc_247, zc_248, zc_249, zc_250, zc_251, zc_252, zc_253, zc_254, zc_255],
  [zc_256, zc_257, zc_258, zc_259, zc_260, zc_261, zc_262, zc_263, zc_264, zc_265, zc_266, zc_267, zc_268, zc_269, zc_270, zc_271],
  [zc_272, zc_273, zc_274]]
def zraw (m p : Nat) : Option (Instr × Nat) := zlk (zth [] (zth2 [] zcodes m) (p / 32)) p
/-- of each method: its class, how many arguments with the receiver, its locals, what it returns (0 nothing, 1 int, 2 boolean, 3 long), 0 virtual, 1 static, 2 a constructor -/
def zinfs : List (List (Nat × Nat × Nat × Nat × Nat)) := [[(0, 1, 1, 0, 2), (0, 2, 3, 0, 0), (0, 2, 3, 0, 0), (0, 5, 7, 2, 0), (0, 2, 3, 1, 0), (0, 2, 3, 1, 0), (0, 2, 2, 2, 0), (0, 2, 3, 1, 0), (0, 3, 5, 0, 0), (0, 3, 4, 0, 0), (0, 4, 5, 0, 0), (0, 2, 3, 2, 0), (0, 2, 4, 2, 0), (0, 2, 4, 2, 0), (0, 3, 7, 2, 0), (0, 3, 3, 2, 0)],
  [(0, 3, 3, 1, 0), (0, 3, 3, 1, 0), (0, 4, 7, 2, 0), (0, 4, 9, 2, 0), (0, 3, 4, 0, 0), (0, 3, 4, 0, 0), (1, 1, 1, 0, 2), (1, 4, 6, 0, 0), (1, 2, 6, 0, 0), (1, 2, 8, 1, 0), (1, 3, 5, 1, 0), (2, 1, 1, 0, 2), (2, 2, 2, 0, 0), (2, 3, 4, 0, 0), (2, 3, 7, 2, 0), (3, 1, 1, 0, 2)],
  [(3, 2, 2, 0, 0), (3, 2, 5, 0, 0), (3, 2, 6, 0, 0), (3, 2, 5, 3, 0), (4, 1, 1, 0, 2), (4, 2, 9, 2, 0), (4, 1, 2, 0, 0), (4, 1, 2, 0, 0), (4, 2, 2, 2, 0), (4, 2, 2, 2, 0), (4, 2, 2, 1, 0), (4, 3, 4, 1, 0), (4, 1, 4, 1, 1), (4, 2, 6, 1, 1), (4, 4, 5, 1, 1), (4, 5, 9, 2, 0)],
  [(4, 4, 6, 2, 0), (4, 4, 5, 0, 0), (4, 2, 2, 0, 0), (4, 3, 6, 2, 0), (4, 1, 2, 1, 1), (4, 3, 5, 2, 0), (4, 3, 4, 2, 0), (4, 3, 5, 2, 0), (5, 1, 1, 0, 2), (5, 2, 2, 2, 0), (5, 2, 2, 2, 0), (5, 2, 4, 2, 0), (5, 2, 4, 2, 0), (5, 1, 1, 1, 1), (5, 1, 2, 1, 1), (5, 1, 1, 1, 1)],
  [(5, 1, 2, 1, 1), (6, 1, 1, 0, 2), (6, 3, 5, 0, 0), (6, 2, 3, 0, 0), (6, 2, 5, 0, 0), (6, 1, 6, 0, 0), (6, 2, 2, 1, 0), (6, 3, 6, 2, 0), (6, 2, 2, 0, 0), (6, 2, 2, 0, 0), (6, 3, 6, 0, 0), (6, 3, 7, 1, 0), (6, 2, 5, 0, 0), (6, 2, 3, 0, 0), (6, 2, 2, 1, 0), (6, 2, 6, 1, 0)],
  [(7, 1, 1, 0, 2), (7, 3, 5, 0, 0), (7, 1, 1, 0, 0), (7, 1, 1, 0, 0), (7, 2, 2, 1, 0), (7, 1, 1, 1, 0), (7, 3, 3, 2, 0), (7, 1, 2, 1, 0), (7, 3, 6, 3, 0), (7, 1, 4, 3, 0), (7, 1, 2, 3, 0), (7, 2, 3, 2, 0), (8, 1, 1, 0, 2), (8, 2, 6, 2, 0), (8, 4, 8, 2, 0), (8, 1, 3, 0, 0)],
  [(8, 1, 3, 0, 0), (8, 2, 5, 0, 0), (8, 2, 6, 1, 0), (8, 2, 4, 1, 0), (8, 3, 5, 1, 0), (8, 3, 6, 2, 1), (8, 4, 10, 2, 0), (9, 1, 1, 0, 2), (9, 3, 4, 1, 0), (9, 2, 4, 1, 0), (9, 1, 3, 1, 0), (9, 1, 3, 1, 0), (9, 2, 2, 1, 0), (9, 2, 2, 1, 0), (9, 3, 3, 1, 0), (9, 3, 3, 1, 0)],
  [(9, 4, 4, 1, 0), (9, 2, 4, 1, 0), (9, 2, 3, 1, 0), (9, 2, 2, 1, 0), (9, 2, 2, 1, 0), (9, 4, 4, 1, 0), (9, 4, 4, 1, 0), (9, 3, 3, 1, 0), (9, 2, 6, 1, 0), (9, 2, 2, 1, 0), (9, 2, 2, 1, 0), (9, 3, 3, 1, 0), (9, 2, 2, 3, 0), (9, 1, 1, 2, 1), (9, 1, 1, 0, 1), (9, 3, 3, 0, 0)],
  [(9, 4, 4, 0, 0), (9, 1, 1, 0, 0), (9, 2, 2, 2, 0), (9, 2, 2, 0, 0), (9, 1, 1, 0, 0), (9, 2, 2, 0, 0), (9, 2, 2, 0, 0), (9, 2, 4, 1, 0), (9, 1, 1, 2, 1), (9, 1, 1, 2, 1), (9, 1, 1, 2, 1), (10, 1, 1, 0, 2), (10, 1, 1, 1, 0), (10, 2, 2, 2, 0), (10, 3, 3, 2, 1), (10, 1, 1, 2, 1)],
  [(10, 1, 1, 1, 0), (10, 1, 1, 0, 0), (10, 1, 1, 2, 1), (10, 1, 1, 2, 1), (10, 3, 3, 2, 0), (10, 1, 1, 1, 0), (10, 1, 2, 2, 0), (10, 1, 1, 2, 0), (10, 1, 1, 2, 0), (10, 1, 5, 2, 0), (10, 1, 1, 2, 0), (10, 2, 5, 1, 0), (10, 2, 3, 2, 0), (10, 2, 5, 2, 0), (10, 5, 9, 2, 0), (10, 1, 4, 1, 0)],
  [(10, 2, 3, 1, 0), (10, 3, 6, 1, 0), (10, 1, 6, 2, 0), (10, 1, 2, 0, 0), (10, 1, 1, 2, 0), (10, 1, 2, 2, 0), (10, 1, 2, 2, 0), (10, 1, 3, 2, 0), (10, 1, 2, 2, 0), (10, 1, 2, 0, 0), (10, 3, 5, 1, 0), (10, 2, 2, 2, 0), (10, 1, 1, 0, 0), (10, 2, 4, 1, 0), (10, 1, 2, 1, 0), (10, 1, 2, 1, 0)],
  [(10, 2, 2, 1, 0), (10, 2, 2, 1, 0), (10, 3, 4, 2, 0), (10, 3, 3, 1, 0), (10, 2, 6, 0, 0), (10, 2, 2, 1, 0), (10, 2, 2, 3, 0), (10, 3, 4, 2, 0), (10, 3, 3, 1, 0), (10, 4, 4, 1, 0), (10, 2, 7, 1, 0), (10, 2, 2, 1, 0), (10, 2, 2, 1, 0), (10, 5, 6, 2, 0), (10, 4, 6, 2, 0), (10, 4, 6, 2, 0)],
  [(10, 3, 6, 2, 0), (10, 3, 3, 2, 0), (10, 3, 3, 2, 0), (10, 2, 2, 1, 0), (10, 2, 2, 2, 0), (10, 3, 5, 2, 0), (10, 1, 5, 0, 0), (10, 2, 4, 2, 0), (10, 2, 4, 2, 0), (10, 2, 5, 2, 0), (10, 1, 3, 2, 0), (10, 2, 7, 2, 0), (10, 2, 2, 1, 0), (10, 1, 3, 0, 0), (10, 2, 4, 0, 0), (10, 2, 2, 1, 0)],
  [(10, 2, 2, 1, 0), (10, 2, 2, 1, 0), (10, 2, 3, 0, 0), (10, 4, 6, 1, 0), (10, 4, 4, 1, 0), (10, 4, 4, 1, 0), (10, 2, 4, 1, 0), (10, 2, 2, 1, 0), (10, 3, 8, 2, 0), (10, 3, 5, 2, 0), (10, 3, 5, 2, 0), (10, 1, 5, 1, 0), (10, 3, 4, 1, 0), (10, 2, 4, 1, 0), (10, 2, 3, 1, 0), (10, 2, 3, 1, 0)],
  [(10, 2, 2, 2, 0), (10, 3, 4, 0, 0), (10, 4, 5, 0, 0), (10, 2, 4, 2, 0), (10, 2, 3, 2, 0), (10, 2, 5, 2, 0), (10, 3, 7, 2, 0), (10, 3, 4, 2, 0), (10, 3, 4, 1, 0), (10, 3, 4, 1, 0), (10, 4, 6, 2, 0), (10, 4, 11, 2, 0), (10, 2, 4, 1, 0), (10, 2, 7, 1, 0), (10, 2, 4, 0, 0), (10, 2, 3, 0, 0)],
  [(10, 2, 5, 1, 0), (10, 2, 3, 0, 0), (10, 2, 4, 0, 0), (10, 2, 4, 1, 0), (10, 2, 3, 0, 0), (10, 2, 6, 1, 0), (10, 2, 2, 0, 0), (10, 2, 5, 0, 0), (10, 2, 5, 1, 0), (10, 3, 3, 1, 0), (10, 2, 7, 3, 0), (11, 4, 6, 1, 1), (11, 3, 4, 1, 1), (11, 2, 3, 1, 1), (11, 2, 3, 1, 1), (11, 3, 4, 1, 1)],
  [(11, 4, 5, 1, 1), (11, 4, 5, 1, 1), (11, 5, 6, 1, 1), (11, 3, 4, 1, 1), (11, 3, 4, 1, 1), (11, 3, 4, 1, 1), (11, 3, 4, 1, 1), (11, 5, 6, 1, 1), (11, 5, 6, 1, 1), (11, 4, 5, 1, 1), (11, 3, 4, 1, 1), (11, 3, 4, 1, 1), (11, 3, 4, 1, 1), (11, 4, 5, 1, 1), (11, 1, 7, 2, 1), (12, 1, 1, 1, 1)],
  [(12, 1, 2, 1, 1), (13, 1, 2, 1, 1), (13, 1, 3, 1, 1)]]
def zinf (m : Nat) : Nat × Nat × Nat × Nat × Nat := zth2 (0, 0, 0, 0, 0) zinfs m
/-- fields by class and pool entry: class, slot, kind (0 int, 1 boolean, 2 long, 3 reference), final -/
def zfts : List (List (Nat × Nat × Nat × Nat × Bool)) := [[(9, 0, 0, 3, true), (15, 0, 1, 3, true), (19, 0, 2, 3, true), (22, 0, 3, 3, true), (25, 0, 4, 3, true), (28, 0, 5, 3, true), (31, 8, 12, 0, false), (37, 0, 6, 0, false), (38, 8, 0, 3, true), (39, 8, 1, 3, true), (40, 0, 8, 0, false), (43, 0, 9, 0, false), (62, 5, 0, 3, true), (65, 5, 3, 3, true), (76, 5, 4, 3, true), (127, 0, 7, 0, false)],
  [(11, 1, 0, 3, true), (15, 1, 1, 0, false), (19, 1, 2, 0, false), (22, 1, 3, 0, false), (25, 1, 5, 0, false), (34, 1, 4, 0, false)],
  [(9, 2, 0, 3, true), (15, 2, 1, 3, true), (19, 2, 2, 3, true), (22, 2, 3, 3, true), (25, 2, 4, 0, false), (29, 8, 12, 0, false), (34, 8, 0, 3, true), (37, 8, 1, 3, true)],
  [(9, 3, 0, 3, true), (15, 3, 1, 0, false), (23, 8, 12, 0, false), (28, 8, 4, 3, true), (31, 8, 0, 3, true), (39, 8, 1, 3, true)],
  [(9, 4, 0, 3, true), (15, 4, 1, 3, true), (18, 4, 2, 3, true), (21, 4, 3, 3, true), (24, 4, 4, 3, true), (27, 4, 5, 3, true), (30, 4, 6, 3, true), (33, 4, 7, 3, true), (36, 4, 8, 3, true), (39, 4, 9, 3, true), (42, 4, 10, 3, true), (46, 4, 11, 3, true), (50, 4, 12, 3, true), (53, 4, 13, 3, true), (75, 7, 2, 0, false), (87, 4, 15, 0, false), (90, 4, 14, 0, false), (93, 4, 16, 0, false)],
  [(9, 5, 0, 3, true), (15, 5, 1, 3, true), (18, 5, 2, 3, true), (21, 5, 3, 3, true), (25, 5, 4, 3, true), (33, 5, 5, 0, false), (45, 7, 2, 0, false)],
  [(9, 6, 0, 3, true), (15, 6, 1, 3, true), (18, 6, 2, 3, true), (21, 6, 3, 3, true), (24, 6, 4, 3, true), (27, 6, 5, 3, true), (30, 6, 6, 3, true), (33, 6, 7, 3, true), (36, 6, 10, 3, false), (40, 6, 11, 3, false), (44, 8, 12, 0, false), (50, 8, 0, 3, true), (54, 4, 15, 0, false), (71, 4, 4, 3, true), (78, 6, 8, 0, false), (81, 4, 16, 0, false), (96, 4, 13, 3, true), (107, 4, 2, 3, true), (113, 6, 12, 3, false), (117, 6, 9, 1, false), (138, 4, 10, 3, true), (145, 4, 9, 3, true), (148, 4, 8, 3, true), (154, 4, 7, 3, true), (160, 4, 0, 3, true), (163, 4, 1, 3, true), (166, 4, 3, 3, true)],
  [(9, 7, 0, 3, true), (15, 7, 1, 0, false), (19, 7, 2, 0, false), (22, 7, 3, 0, false), (25, 7, 4, 0, false)],
  [(9, 8, 0, 3, true), (15, 8, 1, 3, true), (19, 8, 2, 3, true), (22, 8, 3, 3, true), (25, 8, 4, 3, true), (28, 8, 5, 3, true), (31, 8, 6, 3, true), (34, 8, 7, 3, true), (37, 8, 8, 3, true), (40, 8, 9, 3, true), (43, 8, 10, 3, true), (51, 8, 12, 0, false), (59, 7, 2, 0, false), (74, 8, 11, 0, false)],
  [(10, 9, 0, 3, true), (19, 9, 1, 3, true), (26, 9, 2, 3, true), (33, 9, 3, 3, true), (37, 9, 4, 3, true), (43, 9, 5, 3, true), (50, 9, 6, 3, true), (57, 9, 7, 3, true), (61, 9, 8, 3, false), (68, 9, 9, 3, false), (72, 9, 10, 3, false), (78, 9, 11, 3, false), (82, 9, 12, 3, false), (85, 9, 15, 0, false), (96, 7, 1, 0, false), (139, 8, 12, 0, false), (145, 4, 16, 0, false), (151, 5, 5, 0, false), (152, 9, 14, 0, false), (155, 9, 13, 0, false), (165, 8, 2, 3, true), (169, 8, 4, 3, true), (172, 8, 7, 3, true), (175, 8, 6, 3, true), (186, 7, 0, 3, true), (196, 1, 5, 0, false), (216, 6, 8, 0, false), (221, 6, 7, 3, true), (228, 5, 1, 3, true), (235, 5, 2, 3, true), (250, 0, 9, 0, false), (269, 3, 1, 0, false), (270, 8, 0, 3, true), (288, 7, 3, 0, false), (291, 7, 4, 0, false), (294, 4, 15, 0, false), (299, 1, 1, 0, false), (312, 4, 12, 3, true), (315, 4, 7, 3, true)],
  [(7, 10, 0, 3, true), (13, 10, 8, 3, true), (16, 10, 9, 3, true), (20, 10, 10, 3, true), (23, 10, 11, 3, true), (26, 10, 12, 3, true), (29, 10, 15, 3, true), (32, 10, 16, 3, true), (35, 10, 17, 3, true), (38, 10, 19, 3, true), (41, 10, 20, 3, true), (44, 10, 21, 3, true), (47, 10, 22, 3, true), (50, 10, 23, 3, true), (53, 10, 24, 3, true), (56, 10, 25, 3, true), (59, 10, 26, 3, true), (63, 10, 27, 3, true), (66, 10, 28, 3, true), (69, 10, 29, 3, true), (72, 10, 30, 3, true), (75, 10, 31, 3, true), (78, 10, 33, 3, true), (81, 10, 36, 3, true), (84, 10, 37, 3, true), (87, 10, 38, 3, true), (90, 10, 39, 3, true), (93, 10, 40, 3, true), (96, 10, 41, 3, true), (99, 10, 42, 3, true), (102, 10, 43, 3, true), (105, 10, 44, 3, true), (108, 10, 45, 3, true), (111, 10, 46, 3, true), (114, 10, 47, 3, true), (117, 10, 48, 3, true), (120, 10, 51, 3, true), (123, 10, 53, 3, true), (126, 10, 54, 3, true), (129, 10, 55, 3, true), (132, 10, 56, 3, true), (135, 10, 57, 3, true), (138, 10, 59, 3, true), (141, 10, 60, 3, true), (144, 10, 61, 3, true), (147, 10, 62, 3, true), (150, 10, 63, 3, true), (153, 10, 64, 0, false), (157, 10, 66, 3, true), (160, 10, 67, 3, true), (163, 10, 68, 3, true), (166, 10, 69, 3, true), (169, 10, 70, 3, true), (172, 10, 71, 3, true), (175, 10, 72, 3, true), (178, 10, 74, 3, true), (181, 10, 76, 3, true), (184, 10, 78, 3, true), (187, 10, 79, 3, true), (190, 10, 80, 3, true), (193, 10, 82, 3, true), (196, 10, 83, 3, true), (199, 10, 84, 3, true), (202, 10, 86, 3, true), (205, 10, 88, 0, false), (212, 10, 2, 0, false), (215, 10, 1, 0, false), (226, 10, 6, 0, false), (229, 10, 7, 0, false), (235, 10, 5, 0, false), (238, 10, 3, 2, false), (242, 10, 4, 0, false), (259, 10, 13, 0, false), (268, 10, 35, 0, false), (271, 10, 49, 0, false), (274, 10, 50, 0, false), (306, 10, 18, 0, false), (309, 10, 32, 0, false), (312, 10, 34, 0, false), (338, 10, 58, 0, false), (350, 10, 52, 0, false), (389, 10, 65, 0, false), (392, 10, 75, 1, false), (452, 10, 73, 0, false), (498, 10, 77, 0, false), (508, 10, 85, 0, false), (535, 10, 81, 0, false), (573, 10, 14, 0, false), (584, 10, 87, 0, false)],
  [],
  [],
  [],
  []]
def zft (o n : Nat) : Option (Nat × Nat × Nat × Bool) := zlk (zth [] zfts o) n
/-- methods by class and pool entry; 9001 Object.<init>, 9002 String.length, 9003 String.charAt -/
def zmts : List (List (Nat × Nat)) := [[(3, 9001), (46, 95), (49, 4), (53, 57), (59, 58), (66, 11), (69, 13), (72, 14), (79, 18), (83, 19), (87, 5), (90, 7), (93, 8), (97, 12), (100, 6), (103, 9), (106, 10), (110, 15), (114, 16), (118, 17), (121, 20), (124, 21)],
  [(3, 9001), (28, 9005), (37, 273), (43, 274), (46, 25)],
  [(3, 9001), (42, 95)],
  [(3, 9001), (19, 32), (35, 33)],
  [(3, 9001), (56, 83), (61, 38), (64, 47), (68, 85), (72, 39), (79, 43), (83, 44), (96, 9004), (102, 40), (106, 86), (110, 45), (113, 46), (117, 84), (121, 48), (125, 49), (129, 50), (133, 136), (136, 53), (140, 54), (143, 51), (146, 87), (149, 89), (153, 137), (156, 52)],
  [(3, 9001), (28, 83), (37, 85), (41, 60), (48, 86), (52, 61), (56, 87), (59, 57), (63, 64), (66, 89), (70, 58), (73, 62), (78, 91), (92, 63), (103, 137)],
  [(3, 9001), (57, 67), (61, 68), (64, 69), (67, 55), (74, 102), (84, 41), (88, 71), (92, 70), (99, 271), (104, 40), (110, 42), (121, 74), (125, 76), (128, 75), (132, 24), (142, 79), (151, 77), (157, 78)],
  [(3, 9001), (28, 84), (32, 136), (36, 138), (39, 85), (43, 87), (46, 86), (50, 88), (54, 9002), (58, 9003)],
  [(3, 9001), (46, 83), (55, 85), (62, 86), (66, 94), (70, 89), (77, 97), (81, 9004), (87, 96), (90, 98), (94, 101)],
  [(1, 9001), (9, 80), (18, 92), (25, 65), (32, 22), (42, 0), (49, 27), (56, 31), (67, 36), (77, 56), (104, 81), (108, 125), (112, 82), (120, 93), (124, 129), (129, 95), (132, 28), (136, 132), (142, 37), (148, 59), (158, 126), (161, 127), (178, 90), (182, 99), (189, 100), (193, 133), (197, 134), (200, 128), (204, 26), (208, 130), (213, 131), (224, 1), (231, 135), (238, 57), (241, 58), (244, 3), (253, 29), (257, 2), (260, 30), (266, 34), (274, 33), (278, 35), (295, 66), (302, 23), (305, 72), (309, 73)],
  [(1, 9001), (208, 142), (218, 144), (222, 146), (232, 145), (245, 147), (248, 150), (252, 148), (256, 149), (262, 151), (265, 152), (277, 157), (281, 154), (284, 155), (288, 156), (291, 160), (295, 159), (298, 158), (302, 161), (335, 164), (341, 165), (344, 166), (347, 167), (353, 141), (358, 143), (361, 172), (364, 153), (367, 171), (370, 244), (374, 162), (377, 163), (380, 168), (383, 169), (386, 178), (396, 181), (399, 183), (402, 180), (405, 186), (408, 189), (411, 190), (414, 182), (418, 192), (422, 193), (425, 191), (428, 196), (431, 194), (434, 197), (437, 199), (440, 195), (443, 200), (446, 198), (449, 201), (455, 204), (458, 203), (461, 202), (464, 205), (467, 206), (470, 207), (473, 210), (476, 211), (480, 215), (483, 216), (486, 217), (489, 218), (492, 214), (495, 219), (501, 222), (504, 225), (511, 224), (514, 223), (517, 227), (520, 226), (524, 231), (528, 232), (532, 233), (538, 221), (541, 236), (544, 230), (547, 234), (551, 228), (554, 229), (557, 235), (561, 238), (564, 237), (567, 241), (570, 239), (576, 243), (579, 242), (587, 246), (590, 247)],
  [(7, 104), (17, 105), (23, 106), (27, 107), (30, 109), (33, 110), (37, 111), (40, 112), (44, 113), (47, 114), (50, 115), (53, 116), (56, 117), (60, 118), (63, 119), (66, 120), (69, 121), (72, 122), (75, 123), (78, 103), (81, 139), (84, 251), (89, 170), (90, 140), (93, 252), (96, 173), (97, 253), (100, 174), (101, 254), (103, 175), (104, 108), (108, 176), (109, 255), (111, 177), (112, 256), (115, 179), (116, 257), (118, 184), (119, 258), (122, 185), (123, 259), (125, 187), (126, 260), (128, 188), (129, 261), (131, 208), (132, 262), (134, 209), (135, 263), (138, 212), (139, 264), (141, 213), (142, 265), (144, 220), (145, 266), (147, 240), (148, 267), (150, 245), (151, 268), (153, 248), (154, 269), (156, 249), (157, 124), (161, 250)],
  [],
  [(311, 272)],
  []]
def zmt (o n : Nat) : Option Nat := zlk (zth [] zmts o) n
def zcts : List (List (Nat × Nat)) := [[],
  [],
  [],
  [],
  [],
  [],
  [],
  [],
  [],
  [(7, 7), (16, 8), (23, 6), (30, 1), (40, 0), (47, 2), (54, 3), (65, 4), (75, 5)],
  [],
  [(8, 9), (79, 10)],
  [],
  [],
  []]
def zct (o n : Nat) : Option Nat := zlk (zth [] zcts o) n
def zsts : List (List (Nat × Nat)) := [[],
  [],
  [],
  [],
  [],
  [(76, 0), (82, 1), (84, 2), (86, 3), (88, 4), (90, 5), (95, 6), (97, 7), (99, 8), (101, 9)],
  [],
  [],
  [],
  [],
  [],
  [],
  [],
  [],
  []]
def zst (o n : Nat) : Option Nat := zlk (zth [] zsts o) n
def zits : List (List (Nat × Int)) := [[],
  [],
  [],
  [],
  [],
  [],
  [],
  [],
  [],
  [],
  [],
  [],
  [(264, 65536), (265, 1431655765), (266, 858993459), (267, 252645135)],
  [],
  []]
def zit (o n : Nat) : Option Int := zlk (zth [] zits o) n
def zlts : List (List (Nat × Int64)) := [[],
  [],
  [(40, 281474976710655)],
  [],
  [],
  [],
  [],
  [],
  [],
  [],
  [(315, 111520460465522), (317, 111550592214372), (319, 111546363770981), (321, 1885434487), (323, 6579297), (325, 1702260589), (327, 500153084262), (329, 1953718636), (331, 111542169658722), (333, 491328398945), (356, 255), (582, 281474976710655), (594, 8)],
  [(82, 4294967295)],
  [],
  [(314, 6148914691236517205), (316, 3689348814741910323), (318, 1085102592571150095)],
  []]
def zlt (o n : Nat) : Option Int64 := zlk (zth [] zlts o) n
/-- handlers of a method: from, to, the handler, the kind (0 IllegalArgument, 1 IllegalState, 2 IndexOutOfBounds), where it goes on behind its astore, the local of that -/
def zhds : List (Nat × List (Nat × Nat × Nat × Nat × Nat × Nat)) := [(251, [(0, 11, 14, 0, 16, 5), (0, 11, 18, 1, 20, 5)]), (252, [(0, 9, 12, 2, 13, 3), (0, 9, 15, 1, 16, 3)]), (253, [(0, 8, 11, 1, 12, 2)]), (254, [(0, 8, 11, 1, 12, 2)]), (255, [(0, 9, 12, 2, 13, 3)]), (256, [(0, 10, 13, 2, 15, 4)]), (257, [(0, 10, 13, 2, 15, 4)]), (258, [(0, 12, 15, 2, 17, 5)]), (259, [(0, 9, 12, 2, 13, 3)]), (260, [(0, 9, 12, 2, 13, 3)]), (261, [(0, 9, 12, 2, 13, 3)]), (262, [(0, 9, 12, 2, 13, 3)]), (263, [(0, 12, 15, 2, 17, 5)]), (264, [(0, 12, 15, 2, 17, 5)]), (265, [(0, 10, 13, 2, 15, 4)]), (266, [(0, 9, 12, 2, 13, 3), (0, 9, 15, 1, 16, 3)]), (267, [(0, 9, 12, 2, 13, 3), (0, 9, 15, 1, 16, 3)]), (268, [(0, 9, 12, 2, 13, 3)]), (269, [(0, 10, 13, 2, 15, 4)])]
/-- where exceptions are thrown: by method, by pc, the kind -/
def zthss : List (Nat × List (Nat × Nat)) := [(104, [(11, 0), (36, 1)]), (105, [(14, 2), (44, 1)]), (106, [(20, 1)]), (107, [(20, 1)]), (119, [(12, 2), (42, 2)]), (120, [(139, 1)]), (121, [(21, 1)]), (126, [(7, 2)]), (127, [(21, 2)]), (128, [(12, 2), (38, 2)])]
def zths (m p : Nat) : Option Nat := match zlk zthss m with | none => none | some l => zlk l p
def zkds : List (List (Nat × Nat)) := [[(0, 0), (10, 16), (8, 5), (20, 600), (23, 3), (9, 13), (21, 20), (20, 20), (20, 20), (20, 20), (20, 20), (20, 20), (20, 20), (20, 20), (21, 20), (20, 20)],
  [(20, 21), (9, 13), (21, 20), (20, 20), (20, 20), (20, 20), (20, 20), (20, 20), (20, 20), (20, 20), (21, 20), (20, 20), (20, 21), (9, 13), (21, 20), (20, 20)],
  [(20, 20), (20, 20), (20, 20), (20, 20), (20, 20), (20, 20), (21, 20), (20, 20), (20, 21), (7, 13), (20, 8), (20, 160), (20, 160), (20, 20), (20, 8), (20, 8)],
  [(20, 4), (20, 4), (2, 6), (21, 3039), (2, 6), (21, 3039), (1, 10), (21, 20), (20, 20), (20, 20), (21, 20), (20, 20), (20, 20), (3, 5), (21, 10240), (20, 512)],
  [(20, 512), (20, 3), (4, 2), (20, 184), (9, 13), (21, 20), (20, 20), (20, 20), (20, 20), (20, 20), (20, 20), (20, 20), (20, 20), (21, 20), (20, 20), (20, 21)],
  [(5, 17), (20, 8), (20, 8), (20, 8), (20, 8), (20, 8), (20, 8), (20, 8), (20, 8), (20, 8), (20, 8), (22, 8), (21, 600), (20, 26), (20, 4), (5, 17)],
  [(20, 8), (20, 8), (20, 8), (20, 8), (20, 8), (20, 8), (20, 8), (20, 8), (20, 8), (20, 8), (22, 8), (21, 600), (20, 26), (20, 4), (6, 6), (20, 8)],
  [(20, 8), (20, 8), (21, 8), (20, 8), (6, 6), (20, 8), (20, 8), (20, 8), (21, 8), (20, 8), (11, 89), (20, 600), (20, 3), (21, 60), (20, 60), (21, 20)],
  [(20, 20), (20, 513), (20, 513), (21, 10260), (20, 8), (20, 8), (20, 8), (20, 8), (20, 8), (20, 8), (20, 8), (22, 8), (20, 8), (20, 8), (20, 8), (20, 8)],
  [(21, 300), (20, 4), (20, 8), (20, 8), (20, 8), (20, 8), (20, 8), (20, 8), (20, 8), (22, 8), (20, 8), (20, 8), (20, 8), (20, 8), (21, 300), (20, 600)],
  [(21, 8), (20, 8), (20, 8), (21, 8), (21, 8), (21, 8), (20, 8), (20, 8), (21, 8), (21, 8), (20, 20), (20, 20), (20, 20), (20, 20), (20, 8), (22, 160)],
  [(20, 4), (20, 4096), (20, 4), (20, 24), (20, 24), (21, 24), (20, 24), (20, 24), (21, 24), (20, 512), (21, 1)]]
/-- the kind of a cell: 1 .. 11 an object of class 0 .. 10, 20 int[], 21 long[], 22 boolean[], 23 Tree[]; 25 the script; 31 a text -/
def zkd (k : Nat) : Nat := bif Nat.ble 187 k then (bif Nat.beq k 99999 then 25 else bif Nat.ble 100000 k && Nat.blt k 100010 then 31 else 0) else (zth2 (0, 0) zkds k).1
def zln (k : Nat) : Nat := (zth2 (0, 0) zkds k).2
def ztxs : List (List Nat) := [[114, 101, 110, 97, 109, 101], [100, 101, 108, 101, 116, 101], [101, 120, 99, 105, 115, 101], [119, 114, 97, 112], [97, 100, 100], [109, 111, 118, 101], [102, 105, 114, 115, 116], [108, 97, 115, 116], [98, 101, 102, 111, 114, 101], [97, 102, 116, 101, 114]]
def ztx (k : Nat) : List Nat := zth [] ztxs (k - 100000)
