/-! the machine in the small: worlds are three tables of numbers (ints, longs, references by the number of their cell), frames are lists -/
/-- a value: an int by its whole number, a long, a reference (0: null) -/
abbrev zV : Type := Int ⊕ Int64 ⊕ Nat
/-- a world: ints, longs, references by cell and place; how many cells there are; what was made: cells, slots -/
abbrev zW : Type := (Nat → Nat → Int) × (Nat → Nat → Int64) × (Nat → Nat → Nat) × Nat × Nat × Nat
/-- method, pc, locals, stack -/
abbrev zF : Type := Nat × Nat × List (Option zV) × List zV
/-- next, call (callee, where it goes on), return, throw -/
abbrev zR : Type := (zF × zW) ⊕ (zF × zF × zW) ⊕ (Option zV × zW) ⊕ (Nat × zW)
def zup {α : Type} (f : Nat → Nat → α) (k j : Nat) (x : α) : Nat → Nat → α := fun k' j' => if k' = k ∧ j' = j then x else f k' j'
def gI (σ : zW) (k j : Nat) : Int := σ.1 k j
def gL (σ : zW) (k j : Nat) : Int64 := σ.2.1 k j
def gR (σ : zW) (k j : Nat) : Nat := σ.2.2.1 k j
def gN (σ : zW) : Nat := σ.2.2.2.1
def gC (σ : zW) : Nat := σ.2.2.2.2.1
def gS (σ : zW) : Nat := σ.2.2.2.2.2
def sI (σ : zW) (k j : Nat) (x : Int) : zW := (zup σ.1 k j x, σ.2)
def sL (σ : zW) (k j : Nat) (x : Int64) : zW := (σ.1, zup σ.2.1 k j x, σ.2.2)
def sR (σ : zW) (k j : Nat) (x : Nat) : zW := (σ.1, σ.2.1, zup σ.2.2.1 k j x, σ.2.2.2)
/-- a cell of n slots is made -/
def zal (σ : zW) (n : Nat) : zW := (σ.1, σ.2.1, σ.2.2.1, gN σ + 1, gC σ + 1, gS σ + n)
/-- an exception is made -/
def zex (σ : zW) : zW := (σ.1, σ.2.1, σ.2.2.1, gN σ, gC σ + 1, gS σ + 6)
def w32 (z : Int) : Int := (z + 2147483648) % 4294967296 - 2147483648
def zand (x y : Int) : Int := (Int32.ofInt x &&& Int32.ofInt y).toInt
def zor (x y : Int) : Int := (Int32.ofInt x ||| Int32.ofInt y).toInt
def zxor (x y : Int) : Int := (Int32.ofInt x ^^^ Int32.ofInt y).toInt
def zshl (x y : Int) : Int := (Int32.ofInt x <<< (Int32.ofInt y &&& 31)).toInt
def zshr (x y : Int) : Int := (Int32.ofInt x >>> (Int32.ofInt y &&& 31)).toInt
def zushr (x y : Int) : Int := (((Int32.ofInt x).toUInt32 >>> ((Int32.ofInt y).toUInt32 &&& Int32.toUInt32 31)).toInt32).toInt
def zlshl (x : Int64) (y : Int) : Int64 := x <<< ((Int32.ofInt y).toInt64 &&& 63)
def zlshr (x : Int64) (y : Int) : Int64 := x >>> ((Int32.ofInt y).toInt64 &&& 63)
def zlushr (x : Int64) (y : Int) : Int64 := (x.toUInt64 >>> ((Int32.ofInt y).toInt64.toUInt64 &&& Int64.toUInt64 63)).toInt64
def zi2l (x : Int) : Int64 := Int64.ofInt x
def zl2i (x : Int64) : Int := x.toInt32.toInt
def zlc (x y : Int64) : Int := if x < y then -1 else if x = y then 0 else 1
def zdiv (x y : Int) : Int := (Int32.ofInt x / Int32.ofInt y).toInt
def zrem (x y : Int) : Int := (Int32.ofInt x - Int32.ofInt x / Int32.ofInt y * Int32.ofInt y).toInt
def zcat : List zV → Nat
  | [] => 0
  | .inr (.inl _) :: l => zcat l + 2
  | _ :: l => zcat l + 1
def zget : List (Option zV) → Nat → Option zV
  | [], _ => none
  | a :: _, 0 => a
  | _ :: l, n + 1 => zget l n
/-- a long whose second half is overwritten isn't there any more -/
def zcut (n : Nat) (a : Option zV) : Option zV := match n, a with
  | 0, some (.inr (.inl _)) => none
  | _, a => a
def zst1 : List (Option zV) → Nat → Option zV → List (Option zV)
  | [], _, _ => []
  | _ :: l, 0, v => v :: l
  | a :: l, n + 1, v => zcut n a :: zst1 l n v
def zst2 : List (Option zV) → Nat → Option zV → List (Option zV)
  | [], _, _ => []
  | _ :: l, 0, v => v :: zst1 l 0 none
  | a :: l, n + 1, v => zcut n a :: zst2 l n v
def zlay : List zV → List (Option zV)
  | [] => []
  | .inr (.inl x) :: l => some (.inr (.inl x)) :: none :: zlay l
  | v :: l => some v :: zlay l
def zpop : Nat → List zV → List zV → Option (List zV × List zV)
  | 0, st, acc => some (acc, st)
  | n + 1, v :: st, acc => zpop n st (v :: acc)
  | _ + 1, [], _ => none
def zent (y : Nat) (as : List zV) : zF := (y, 0, zlay as ++ List.replicate ((zinf y).2.2.1 - (zlay as).length) none, [])
def zrk : List zV → Nat
  | .inr (.inr k) :: _ => zkd k
  | _ => 0
/-- what a final field of class ci holds in cell k at slot j, once all is made -/
def zrf9 : List Nat := [2, 4, 41, 50, 52, 54, 61, 66, 68, 80, 95, 110, 116, 0, 0, 0]
def zrf (ci k j : Nat) : Nat := bif Nat.beq ci 9 then zth 0 zrf9 j else k + (j + 1)
def znx (m pc : Nat) (ls : List (Option zV)) (st : List zV) (σ : zW) : Option zR := some (.inl ((m, pc, ls, st), σ))
def zif (P : Prop) [Decidable P] (m pc : Nat) (off : Int) (ls : List (Option zV)) (st : List zV) (σ : zW) : Option zR := match (pc : Int) + off with
  | .ofNat t => znx m (if P then t else pc + 3) ls st σ
  | .negSucc _ => none
def zbr (c : ClassFile.Cond) (x y : Int) (m pc : Nat) (off : Int) (ls : List (Option zV)) (st : List zV) (σ : zW) : Option zR := match c with
  | .eq => zif (x = y) m pc off ls st σ
  | .ne => zif (¬ x = y) m pc off ls st σ
  | .lt => zif (x < y) m pc off ls st σ
  | .ge => zif (y ≤ x) m pc off ls st σ
  | .gt => zif (y < x) m pc off ls st σ
  | .le => zif (x ≤ y) m pc off ls st σ
def ztg (pc : Nat) (off : Int) : Nat := ((pc : Int) + off).toNat
def ztb (x : Int) (pc : Nat) (d : Int) : Int → List Int → Nat
  | _, [] => ztg pc d
  | k, o :: l => if x = k then ztg pc o else ztb x pc d (k + 1) l
def zlp (x : Int) (pc : Nat) (d : Int) : List (Int × Int) → Nat
  | [] => ztg pc d
  | q :: l => if x = q.1 then ztg pc q.2 else zlp x pc d l
def zpos (pc : Nat) (off : Int) : Bool := match (pc : Int) + off with
  | .ofNat _ => true
  | .negSucc _ => false
def zldi (m pc k : Nat) (ls : List (Option zV)) (st : List zV) (σ : zW) : Option zR := match zget ls k with
  | some (.inl z) => znx m pc ls (.inl z :: st) σ
  | _ => none
def zldl (m pc k : Nat) (ls : List (Option zV)) (st : List zV) (σ : zW) : Option zR := match zget ls k with
  | some (.inr (.inl z)) => znx m pc ls (.inr (.inl z) :: st) σ
  | _ => none
def zldr (m pc k : Nat) (ls : List (Option zV)) (st : List zV) (σ : zW) : Option zR := match zget ls k with
  | some (.inr (.inr z)) => znx m pc ls (.inr (.inr z) :: st) σ
  | _ => none
def zsti (m pc k : Nat) (ls : List (Option zV)) (st : List zV) (σ : zW) : Option zR := match st with
  | .inl z :: st => bif Nat.blt k ls.length then znx m pc (zst1 ls k (some (.inl z))) st σ else none
  | _ => none
def zstr (m pc k : Nat) (ls : List (Option zV)) (st : List zV) (σ : zW) : Option zR := match st with
  | .inr (.inr z) :: st => bif Nat.blt k ls.length then znx m pc (zst1 ls k (some (.inr (.inr z)))) st σ else none
  | _ => none
def zstl (m pc k : Nat) (ls : List (Option zV)) (st : List zV) (σ : zW) : Option zR := match st with
  | .inr (.inl z) :: st => bif Nat.blt (k + 1) ls.length then znx m pc (zst2 ls k (some (.inr (.inl z)))) st σ else none
  | _ => none
def zrd (ty : Nat) (σ : zW) (k j : Nat) : zV := match ty with
  | 0 => .inl (gI σ k j)
  | 1 => .inl (gI σ k j)
  | 2 => .inr (.inl (gL σ k j))
  | _ => .inr (.inr (gR σ k j))
def zgf (b : Bool) (q : Option (Nat × Nat × Nat × Bool)) (m pc : Nat) (ls : List (Option zV)) (st : List zV) (σ : zW) : Option zR := match q, st with
  | some (ci, j, ty, fin), .inr (.inr k) :: st => if zkd k = ci + 1 then znx m (pc + 3) ls ((bif b && (fin && Nat.beq ty 3) then .inr (.inr (zrf ci k j)) else zrd ty σ k j) :: st) σ else none
  | _, _ => none
def zpf (b : Bool) (q : Option (Nat × Nat × Nat × Bool)) (m pc : Nat) (ls : List (Option zV)) (st : List zV) (σ : zW) : Option zR := match q, st with
  | some (ci, j, ty, fin), v :: .inr (.inr k) :: st =>
    bif !fin || (!b && (Nat.beq (zinf m).2.2.2.2 2 && Nat.beq ci (zinf m).1)) then
      if zkd k = ci + 1 then
        match ty, v with
        | 0, .inl z => znx m (pc + 3) ls st (sI σ k j z)
        | 1, .inl z => if z = 0 ∨ z = 1 then znx m (pc + 3) ls st (sI σ k j z) else none
        | 2, .inr (.inl x) => znx m (pc + 3) ls st (sL σ k j x)
        | 3, .inr (.inr r) => znx m (pc + 3) ls st (sR σ k j r)
        | _, _ => none
      else none
    else none
  | _, _ => none
def zald (t m pc : Nat) (ls : List (Option zV)) (st : List zV) (σ : zW) : Option zR := match st with
  | .inl i :: .inr (.inr k) :: st =>
    if zkd k = t then
      if 0 ≤ i ∧ i < (zln k : Int) then
        match t with
        | 20 => znx m (pc + 1) ls (.inl (gI σ k i.toNat) :: st) σ
        | 21 => znx m (pc + 1) ls (.inr (.inl (gL σ k i.toNat)) :: st) σ
        | 22 => znx m (pc + 1) ls (.inl (gI σ k i.toNat) :: st) σ
        | 23 => znx m (pc + 1) ls (.inr (.inr (gR σ k i.toNat)) :: st) σ
        | _ => none
      else none
    else if t = 20 ∧ zkd k = 25 then
      if 0 ≤ i ∧ i < gI σ 99998 0 then znx m (pc + 1) ls (.inl (gI σ 99999 i.toNat) :: st) σ else none
    else none
  | _ => none
def zast (t m pc : Nat) (ls : List (Option zV)) (st : List zV) (σ : zW) : Option zR := match st with
  | v :: .inl i :: .inr (.inr k) :: st =>
    if zkd k = t then
      if 0 ≤ i ∧ i < (zln k : Int) then
        match t, v with
        | 20, .inl x => znx m (pc + 1) ls st (sI σ k i.toNat x)
        | 21, .inr (.inl x) => znx m (pc + 1) ls st (sL σ k i.toNat x)
        | 22, .inl x => if x = 0 ∨ x = 1 then znx m (pc + 1) ls st (sI σ k i.toNat x) else none
        | 23, .inr (.inr r) => if zkd r = 9 then znx m (pc + 1) ls st (sR σ k i.toNat r) else none
        | _, _ => none
      else none
    else none
  | _ => none
def zlng (m pc : Nat) (ls : List (Option zV)) (st : List zV) (σ : zW) : Option zR := match st with
  | .inr (.inr k) :: st => if zkd k = 25 then znx m (pc + 1) ls (.inl (gI σ 99998 0) :: st) σ else if 20 ≤ zkd k ∧ zkd k ≤ 22 then znx m (pc + 1) ls (.inl (zln k) :: st) σ else none
  | _ => none
def zmk (b : Bool) (t n m pc : Nat) (ls : List (Option zV)) (st : List zV) (σ : zW) : Option zR :=
  bif b then none else if zkd (gN σ + 1) = t ∧ zln (gN σ + 1) = n then znx m pc ls (.inr (.inr (gN σ + 1)) :: st) (zal σ n) else none
def zmka (b : Bool) (t m pc : Nat) (ls : List (Option zV)) (st : List zV) (σ : zW) : Option zR := match st with
  | .inl (.ofNat n) :: st => zmk b t n m pc ls st σ
  | _ => none
/-- a call of a method of ours: kd tells by which instruction (0 virtual, 1 static, 2 special) -/
def zcall (kd y m pc : Nat) (ls : List (Option zV)) (st : List zV) (σ : zW) : Option zR := match zpop (zinf y).2.1 st [] with
  | none => none
  | some (as, rest) =>
    bif Nat.beq (zinf y).2.2.2.2 kd && (Nat.ble (zcat rest) 8 && Nat.ble (zlay as).length (zinf y).2.2.1) then
      bif Nat.beq kd 1 then some (.inr (.inl (zent y as, (m, pc + 3, ls, rest), σ)))
      else if zrk as = (zinf y).1 + 1 then some (.inr (.inl (zent y as, (m, pc + 3, ls, rest), σ))) else none
    else none
def zinv (kd : Nat) (q : Option Nat) (m pc : Nat) (ls : List (Option zV)) (st : List zV) (σ : zW) : Option zR := match q with
  | none => none
  | some y =>
    bif Nat.ble 9000 y then
      match y, st with
      | 9001, .inr (.inr k) :: st => bif Nat.beq kd 2 && Nat.ble (zcat st) 8 then (if zkd k = 0 then none else znx m (pc + 3) ls st σ) else none
      | 9002, .inr (.inr k) :: st => bif Nat.beq kd 0 && Nat.ble (zcat st) 8 then (if zkd k = 31 then znx m (pc + 3) ls (.inl ((ztx k).length : Int) :: st) σ else none) else none
      | 9003, .inl i :: .inr (.inr k) :: st => bif Nat.beq kd 0 && Nat.ble (zcat st) 8 then (if zkd k = 31 ∧ 0 ≤ i ∧ i < ((ztx k).length : Int) then znx m (pc + 3) ls (.inl ((zth 0 (ztx k) i.toNat : Nat) : Int) :: st) σ else none) else none
      | 9004, .inl y :: .inl x :: st => bif Nat.beq kd 1 && Nat.ble (zcat st) 8 then znx m (pc + 3) ls (.inl (if x < y then y else x) :: st) σ else none
      | 9005, .inl y :: .inl x :: st => bif Nat.beq kd 1 && Nat.ble (zcat st) 8 then znx m (pc + 3) ls (.inl (if y < x then y else x) :: st) σ else none
      | _, _ => none
    else zcall kd y m pc ls st σ
def zbin (f : Int → Int → Int) (m pc : Nat) (ls : List (Option zV)) (st : List zV) (σ : zW) : Option zR := match st with
  | .inl y :: .inl x :: st => znx m (pc + 1) ls (.inl (f x y) :: st) σ
  | _ => none
def zlbin (f : Int64 → Int64 → Int64) (m pc : Nat) (ls : List (Option zV)) (st : List zV) (σ : zW) : Option zR := match st with
  | .inr (.inl y) :: .inr (.inl x) :: st => znx m (pc + 1) ls (.inr (.inl (f x y)) :: st) σ
  | _ => none
def zlsh (f : Int64 → Int → Int64) (m pc : Nat) (ls : List (Option zV)) (st : List zV) (σ : zW) : Option zR := match st with
  | .inl y :: .inr (.inl x) :: st => znx m (pc + 1) ls (.inr (.inl (f x y)) :: st) σ
  | _ => none
def zexec (b : Bool) (i : Instr) (len m pc : Nat) (ls : List (Option zV)) (st : List zV) (σ : zW) : Option zR := match i with
  | .iconst z => bif zin 128 z then znx m (pc + 1) ls (.inl z :: st) σ else none
  | .bipush z => bif zin 128 z then znx m (pc + 2) ls (.inl z :: st) σ else none
  | .sipush z => bif zin 32768 z then znx m (pc + 3) ls (.inl z :: st) σ else none
  | .lconst n => znx m (pc + 1) ls (.inr (.inl (bif Nat.beq n.val 0 then 0 else 1)) :: st) σ
  | .ldc n => match zst (zinf m).1 n with
    | some k => znx m (pc + 2) ls (.inr (.inr (100000 + k)) :: st) σ
    | none => match zit (zinf m).1 n with
      | some z => znx m (pc + 2) ls (.inl z :: st) σ
      | none => none
  | .ldc_w n => match zit (zinf m).1 n with
    | some z => znx m (pc + 3) ls (.inl z :: st) σ
    | none => none
  | .ldc2_w n => match zlt (zinf m).1 n with
    | some x => znx m (pc + 3) ls (.inr (.inl x) :: st) σ
    | none => none
  | .iload_n k => zldi m (pc + 1) k.val ls st σ
  | .iload k => zldi m (pc + 2) k ls st σ
  | .lload_n k => zldl m (pc + 1) k.val ls st σ
  | .lload k => zldl m (pc + 2) k ls st σ
  | .aload_n k => zldr m (pc + 1) k.val ls st σ
  | .aload k => zldr m (pc + 2) k ls st σ
  | .istore_n k => zsti m (pc + 1) k.val ls st σ
  | .istore k => zsti m (pc + 2) k ls st σ
  | .lstore_n k => zstl m (pc + 1) k.val ls st σ
  | .lstore k => zstl m (pc + 2) k ls st σ
  | .astore_n k => zstr m (pc + 1) k.val ls st σ
  | .astore k => zstr m (pc + 2) k ls st σ
  | .iinc k c => match zget ls k with
    | some (.inl z) => bif zin 32768 c && Nat.blt k ls.length then znx m (pc + 3) (zst1 ls k (some (.inl (w32 (z + c))))) st σ else none
    | _ => none
  | .iadd => zbin (fun x y => w32 (x + y)) m pc ls st σ
  | .isub => zbin (fun x y => w32 (x - y)) m pc ls st σ
  | .imul => zbin (fun x y => w32 (x * y)) m pc ls st σ
  | .iand => zbin zand m pc ls st σ
  | .ior => zbin zor m pc ls st σ
  | .ixor => zbin zxor m pc ls st σ
  | .ishl => zbin zshl m pc ls st σ
  | .ishr => zbin zshr m pc ls st σ
  | .iushr => zbin zushr m pc ls st σ
  | .idiv => match st with
    | .inl y :: .inl x :: st => if y = 0 then none else znx m (pc + 1) ls (.inl (zdiv x y) :: st) σ
    | _ => none
  | .irem => match st with
    | .inl y :: .inl x :: st => if y = 0 then none else znx m (pc + 1) ls (.inl (zrem x y) :: st) σ
    | _ => none
  | .ineg => match st with
    | .inl x :: st => znx m (pc + 1) ls (.inl (w32 (-x)) :: st) σ
    | _ => none
  | .ladd => zlbin (fun x y => x + y) m pc ls st σ
  | .lsub => zlbin (fun x y => x - y) m pc ls st σ
  | .lmul => zlbin (fun x y => x * y) m pc ls st σ
  | .land => zlbin (fun x y => x &&& y) m pc ls st σ
  | .lor => zlbin (fun x y => x ||| y) m pc ls st σ
  | .lshl => zlsh zlshl m pc ls st σ
  | .lshr => zlsh zlshr m pc ls st σ
  | .lushr => zlsh zlushr m pc ls st σ
  | .i2l => match st with
    | .inl x :: st => znx m (pc + 1) ls (.inr (.inl (zi2l x)) :: st) σ
    | _ => none
  | .i2c => match st with
    | .inl x :: st => if 0 ≤ x ∧ x < 65536 then znx m (pc + 1) ls (.inl x :: st) σ else none
    | _ => none
  | .l2i => match st with
    | .inr (.inl x) :: st => znx m (pc + 1) ls (.inl (zl2i x) :: st) σ
    | _ => none
  | .lcmp => match st with
    | .inr (.inl y) :: .inr (.inl x) :: st => znx m (pc + 1) ls (.inl (zlc x y) :: st) σ
    | _ => none
  | .dup => match st with
    | .inr (.inl _) :: _ => none
    | v :: st => znx m (pc + 1) ls (v :: v :: st) σ
    | _ => none
  | .dup2 => match st with
    | .inr (.inl x) :: st => znx m (pc + 1) ls (.inr (.inl x) :: .inr (.inl x) :: st) σ
    | _ :: .inr (.inl _) :: _ => none
    | v :: w :: st => znx m (pc + 1) ls (v :: w :: v :: w :: st) σ
    | _ => none
  | .pop => match st with
    | .inr (.inl _) :: _ => none
    | _ :: st => znx m (pc + 1) ls st σ
    | _ => none
  | .ifCond c off => match st with
    | .inl x :: st => zbr c x 0 m pc off ls st σ
    | _ => none
  | .if_icmp c off => match st with
    | .inl y :: .inl x :: st => zbr c x y m pc off ls st σ
    | _ => none
  | .goto off => match (pc : Int) + off with
    | .ofNat t => znx m t ls st σ
    | .negSucc _ => none
  | .tableswitch d lo hi offs => match st with
    | .inl x :: st => bif zpos pc d && (offs.toList.all (zpos pc) && decide (hi = lo + (offs.toList.length : Int) - 1)) then znx m (ztb x pc d lo offs.toList) ls st σ else none
    | _ => none
  | .lookupswitch d ps => match st with
    | .inl x :: st => bif zpos pc d && (ps.toList.all (fun q => zpos pc q.2) && (ps.toList.zip (ps.toList.drop 1)).all (fun (a, next) => a.1 < next.1)) then znx m (zlp x pc d ps.toList) ls st σ else none
    | _ => none
  | .getfield n => zgf b (zft (zinf m).1 n) m pc ls st σ
  | .putfield n => zpf b (zft (zinf m).1 n) m pc ls st σ
  | .iaload => zald 20 m pc ls st σ
  | .laload => zald 21 m pc ls st σ
  | .baload => zald 22 m pc ls st σ
  | .aaload => zald 23 m pc ls st σ
  | .iastore => zast 20 m pc ls st σ
  | .lastore => zast 21 m pc ls st σ
  | .bastore => zast 22 m pc ls st σ
  | .aastore => zast 23 m pc ls st σ
  | .arraylength => zlng m pc ls st σ
  | .new n => match zths m pc with
    | some k => bif Nat.ble (zcat st) 8 then some (.inr (.inr (.inr (k, zex σ)))) else none
    | none => match zct (zinf m).1 n with
      | some ci => zmk b (ci + 1) (zln (gN σ + 1)) m (pc + 3) ls st σ
      | none => none
  | .newarray t => match t with
    | .int => zmka b 20 m (pc + 2) ls st σ
    | .long => zmka b 21 m (pc + 2) ls st σ
    | .boolean => zmka b 22 m (pc + 2) ls st σ
    | _ => none
  | .anewarray n => match zct (zinf m).1 n with
    | some ci => bif Nat.beq ci 8 then zmka b 23 m (pc + 3) ls st σ else none
    | none => none
  | .invokevirtual n => zinv 0 (zmt (zinf m).1 n) m pc ls st σ
  | .invokestatic n => zinv 1 (zmt (zinf m).1 n) m pc ls st σ
  | .invokespecial n => zinv 2 (zmt (zinf m).1 n) m pc ls st σ
  | .ireturn => match st with
    | [.inl z] => match (zinf m).2.2.2.1 with
      | 1 => some (.inr (.inr (.inl (some (.inl z), σ))))
      | 2 => if z = 0 ∨ z = 1 then some (.inr (.inr (.inl (some (.inl z), σ)))) else none
      | 4 => if 0 ≤ z ∧ z < 65536 then some (.inr (.inr (.inl (some (.inl z), σ)))) else none
      | _ => none
    | _ => none
  | .lreturn => match st with
    | [.inr (.inl x)] => bif Nat.beq (zinf m).2.2.2.1 3 then some (.inr (.inr (.inl (some (.inr (.inl x)), σ)))) else none
    | _ => none
  | .return_ => match st with
    | [] => bif Nat.beq (zinf m).2.2.2.1 0 then some (.inr (.inr (.inl (none, σ)))) else none
    | _ => none
  | _ => none
def zstep (b : Bool) (f : zF) (σ : zW) : Option zR := match zraw f.1 f.2.1 with
  | some (i, len) => zexec b i len f.1 f.2.1 f.2.2.1 f.2.2.2 σ
  | none => none
def zpsh (f : zF) (v : Option zV) : zF := match v with
  | none => f
  | some v => (f.1, f.2.1, f.2.2.1, v :: f.2.2.2)
def zhf (k p : Nat) : List (Nat × Nat × Nat × Nat × Nat × Nat) → Option (Nat × Nat)
  | [] => none
  | (a, b, _, x, t, i) :: l => bif Nat.ble a p && (Nat.blt p b && Nat.beq x k) then some (t, i) else zhf k p l
/-- caught: where it goes on, behind the store of the exception -/
def zcth (f : zF) (k : Nat) : Option zF := match zlk zhds f.1 with
  | none => none
  | some l => match zhf k (f.2.1 - 3) l with
    | none => none
    | some (t, i) => some (f.1, t, zst1 f.2.2.1 i none, [])
abbrev zO : Type := Option zV ⊕ Nat
def zbig (b : Bool) : Nat → Nat → zF → zW → Option (zO × zW)
  | 0, _, _, _ => none
  | n + 1, d, f, σ => match zstep b f σ with
    | none => none
    | some (.inl (f', σ')) => zbig b n d f' σ'
    | some (.inr (.inl (g, f', σ'))) => match d with
      | 0 => none
      | d + 1 => match zbig b n d g σ' with
        | none => none
        | some (.inl v, σ2) => zbig b n (d + 1) (zpsh f' v) σ2
        | some (.inr k, σ2) => match zcth f' k with
          | none => some (.inr k, σ2)
          | some f2 => zbig b n (d + 1) f2 σ2
    | some (.inr (.inr (.inl (v, σ')))) => some (.inl v, σ')
    | some (.inr (.inr (.inr (k, σ')))) => some (.inr k, σ')
