/-! THE WALKER: what a method does, by a function over whole numbers. A value is a number, a long, or a reference: 0 null, k + 1 the k-th cell that the law has made, 100000 + j a given one (0 KIND_ABOVE, 1 STEP, 2 and 3 the two texts, 4 and 5 their bytes, 6 the script, 7 a formatter that nobody asks). All that cells hold is one plane of whole numbers. -/
abbrev AV : Type := Int ⊕ (Int ⊕ Nat)
abbrev Pl : Type := Nat → Int → Int
abbrev LVs : Type := List (Option AV)
/-- place, names, pile, how many cells there are, the plane -/
abbrev Fm : Type := Nat × LVs × List AV × Nat × Pl
def zw (x : Int) : Int := Int.bmod x 4294967296
def zl (x : Int) : Int := Int.bmod x 18446744073709551616
def zup (s : Pl) (k : Nat) (i v : Int) : Pl := fun a => if a = k then (fun b => if b = i then v else s k b) else s a
def znew (s : Pl) (k : Nat) : Pl := fun a => if a = k then (fun _ => 0) else s a
def zcopy (s : Pl) (k1 : Nat) (i : Int) (k2 : Nat) (j n : Int) : Pl := fun a => if a = k2 then (fun b => if j ≤ b ∧ b < j + n then s k1 (i + (b - j)) else s k2 b) else s a
/-- the cells, in the order in which the law makes them: kind (0 .. 8 a class, 20 ints, 21 bytes, 22 booleans, 23 Laws, 24 Sheets) and size -/
def zsh_L : List (Nat × Nat) :=
  [(7, 11), (0, 11), (20, 6), (20, 6), (20, 6), (20, 6), (20, 6), (20, 6), (20, 6), (20, 16),
   (0, 11), (20, 6), (20, 6), (20, 6), (20, 6), (20, 6), (20, 6), (20, 6), (20, 16), (23, 6), (24, 4),
   (1, 4), (20, 160), (20, 3), (20, 40), (1, 4), (20, 160), (20, 3), (20, 40), (1, 4), (20, 160), (20, 3), (20, 40),
   (1, 4), (20, 160), (20, 3), (20, 40), (1, 4), (20, 160), (20, 3), (20, 40), (1, 4), (20, 160), (20, 3), (20, 40),
   (5, 3), (20, 40), (5, 3), (20, 40), (5, 3), (20, 40), (5, 3), (20, 40),
   (2, 10), (20, 160), (20, 161), (20, 161), (3, 18), (20, 6), (20, 16), (20, 16), (20, 36), (20, 36), (20, 36), (4, 8), (20, 1954), (20, 1440), (20, 402),
   (6, 10), (20, 16), (20, 16), (20, 16),
   (8, 56), (20, 16), (20, 7), (20, 7), (20, 7), (20, 7), (20, 7), (20, 7), (20, 7), (21, 160), (20, 1190), (20, 1190), (20, 21), (20, 170), (20, 6), (20, 47), (20, 12),
   (20, 16), (20, 16), (20, 16), (20, 7), (20, 1500), (20, 1500), (22, 1500), (20, 4096), (20, 7), (20, 4), (20, 6), (20, 6), (20, 16), (20, 4), (20, 4), (20, 160), (20, 40)]
def zsh (k : Nat) : Nat × Nat := zsh_L.getD k (99, 0)
def zcat : AV → Nat
  | .inr (.inl _) => 2
  | _ => 1
def zkill (lv : LVs) (i : Nat) : LVs := match lv[i]? with
  | some (some (.inr (.inl _))) => lv.set i none
  | _ => lv
def zst1 (lv : LVs) (i : Nat) (v : AV) : LVs := match i with
  | 0 => lv.set 0 (some v)
  | j + 1 => (zkill lv j).set (j + 1) (some v)
def zst2 (lv : LVs) (i : Nat) (v : AV) : LVs := (zst1 lv i v).set (i + 1) none
def zld (lv : LVs) (i : Nat) : Option AV := match lv[i]? with
  | some (some v) => some v
  | _ => none
def zbr (pc : Nat) (off : Int) : Option Nat := if 0 ≤ (pc : Int) + off then some ((pc : Int) + off).toNat else none
def zcp : Jvm.ClassFile.Cond → Int → Int → Bool
  | .eq, x, y => decide (x = y)
  | .ne, x, y => decide (¬ x = y)
  | .lt, x, y => decide (x < y)
  | .ge, x, y => decide (y ≤ x)
  | .gt, x, y => decide (y < x)
  | .le, x, y => decide (x ≤ y)
def zdiv (x y : Int) : Int := (Int32.ofInt x / Int32.ofInt y).toInt
def zrem (x y : Int) : Int := (Int32.ofInt x - Int32.ofInt x / Int32.ofInt y * Int32.ofInt y).toInt
def zshl (x y : Int) : Int := (Int32.ofInt x <<< (Int32.ofInt y &&& 31)).toInt
def zshr (x y : Int) : Int := (Int32.ofInt x >>> (Int32.ofInt y &&& 31)).toInt
def zushr (x y : Int) : Int := ((Int32.ofInt x).toUInt32 >>> ((Int32.ofInt y).toUInt32 &&& Int32.toUInt32 31)).toInt32.toInt
def zand (x y : Int) : Int := (Int32.ofInt x &&& Int32.ofInt y).toInt
def zor (x y : Int) : Int := (Int32.ofInt x ||| Int32.ofInt y).toInt
def zxor (x y : Int) : Int := (Int32.ofInt x ^^^ Int32.ofInt y).toInt
def zb8 (x : Int) : Int := (Int32.ofInt x).toInt8.toInt32.toInt
def zs16 (x : Int) : Int := (Int32.ofInt x).toInt16.toInt32.toInt
def zc16 (x : Int) : Int := ((Int32.ofInt x).toUInt32 % 65536).toInt32.toInt
def zlrem (x y : Int) : Int := (Int64.ofInt x - Int64.ofInt x / Int64.ofInt y * Int64.ofInt y).toInt
def zlcmp (x y : Int) : Int := if y < x then 1 else if x = y then 0 else -1
/-- what a place of one of the given tables holds -/
def zgv_L : List (List Int) := [[-1, 0, 0, 0, 3, 2], [4, 20, 100, 500, 2500, 12500], [], [],
  [109, 97, 121, 32, 49, 32, 59, 32, 114, 111, 119, 32, 98, 97, 115, 101, 32, 59, 32, 103, 97, 105, 110, 32, 98, 97, 115, 101, 32, 42, 32, 40, 104, 111, 117, 114, 32, 60, 32, 98, 121, 32, 43, 32, 49, 41, 32, 59],
  [111, 102, 102, 32, 32, 111, 110, 32, 32, 32, 97, 116, 32, 32, 32, 98, 97, 115, 101, 32, 104, 111, 117, 114, 32, 98, 121, 32, 32, 32, 109, 97, 121, 32, 32, 114, 111, 119, 32, 32, 103, 97, 105, 110, 32, 111, 114, 32, 32, 32, 97, 110, 100, 32, 32, 110, 111, 116, 32, 32]]
/-- the field of an object of ours: class, slot, kind -/
def zfd (o idx : Nat) : Option (Nat × Nat × Nat) := match zw_fd.find? (fun e => e.1 == o && e.2.1 == idx) with
  | some e => some (e.2.2.1, e.2.2.2, (zf e.2.2.1 e.2.2.2).2.2.2)
  | none => none
def zisI (i v : Int) : Bool := decide (i = v)
/-- what getfield asks of a text: its bytes, its coder -/
def zsfd (j o idx : Nat) : Option AV := if o = 9 ∧ (j = 2 ∨ j = 3) then (if idx = 9 then some (.inr (.inr (100002 + j))) else if idx = 15 then some (.inl 0) else none) else none
/-- what getstatic gives -/
def zgs (o idx : Nat) : Option AV :=
  if o = 7 ∧ idx = 315 then some (.inr (.inr 100000)) else if (o = 0 ∧ idx = 69) ∨ (o = 3 ∧ idx = 123) then some (.inr (.inr 100001)) else if o = 9 ∧ idx = 38 then some (.inl 1) else if o = 9 ∧ idx = 1053 then some (.inr (.inr 100007)) else none
def zldc (o idx : Nat) : Option AV :=
  if o = 7 ∧ idx = 42 then some (.inr (.inr 100002)) else if o = 2 ∧ idx = 120 then some (.inr (.inr 100003)) else
  match zw_ck.find? (fun e => e.1 == o && e.2.1 == idx) with
  | some e => some (.inl e.2.2)
  | none => none
def zldc2 (o idx : Nat) : Option AV := match zw_cq.find? (fun e => e.1 == o && e.2.1 == idx) with
  | some e => some (.inr (.inl e.2.2))
  | none => none
def zcla (o idx : Nat) : Option Nat := match zw_cl.find? (fun e => e.1 == o && e.2.1 == idx) with
  | some e => some e.2.2
  | none => none
def zoi (o idx : Nat) : Bool := zw_oi.any fun e => e.1 == o && e.2 == idx
def zac (o idx : Nat) : Bool := zw_ac.any fun e => e.1 == o && e.2 == idx
def zml (o idx : Nat) : Option Nat := match zw_ml.find? (fun e => e.1 == o && e.2.1 == idx) with
  | some e => some e.2.2
  | none => none
def znl (o idx : Nat) : Option Nat := match zw_nl.find? (fun e => e.1 == o && e.2.1 == idx) with
  | some e => some e.2.2
  | none => none
def zatk : ArrayType → Nat
  | .int => 20
  | .byte => 21
  | .boolean => 22
  | _ => 98
section ZS
variable (xs : Nat → Int) (L : Nat)
/-- reading a given table: KIND_ABOVE, STEP, the texts' bytes, the script -/
def zgiv (j : Nat) : Nat × (Int → Int) := if j = 6 then (L, fun i => xs i.toNat) else ((zgv_L.getD j []).length, fun i => (zgv_L.getD j []).getD i.toNat 0)
/-- one instruction that is no call and no return, in five groups -/
def zsA (o : Nat) (ini : Bool) (i : Instr) (z : Nat) (f : Fm) : Option Fm :=
  match f with
  | (pc, lv, st, n, s) =>
    match i, st with
    | .iconst v, st => if -1 ≤ v ∧ v ≤ 5 then some (pc + z, lv, .inl v :: st, n, s) else none
    | .bipush v, st => if -128 ≤ v ∧ v < 128 then some (pc + z, lv, .inl v :: st, n, s) else none
    | .sipush v, st => if -32768 ≤ v ∧ v < 32768 then some (pc + z, lv, .inl v :: st, n, s) else none
    | .lconst v, st => some (pc + z, lv, .inr (.inl ((v : Nat) : Int)) :: st, n, s)
    | .iload_n k, st => match zld lv k with
      | some (.inl v) => some (pc + z, lv, .inl v :: st, n, s)
      | _ => none
    | .iload k, st => match zld lv k with
      | some (.inl v) => some (pc + z, lv, .inl v :: st, n, s)
      | _ => none
    | .lload_n k, st => match zld lv k with
      | some (.inr (.inl v)) => some (pc + z, lv, .inr (.inl v) :: st, n, s)
      | _ => none
    | .lload k, st => match zld lv k with
      | some (.inr (.inl v)) => some (pc + z, lv, .inr (.inl v) :: st, n, s)
      | _ => none
    | .aload_n k, st => match zld lv k with
      | some (.inr (.inr v)) => if 1 ≤ v ∧ v ≤ 100006 then some (pc + z, lv, .inr (.inr v) :: st, n, s) else none
      | _ => none
    | .aload k, st => match zld lv k with
      | some (.inr (.inr v)) => if 1 ≤ v ∧ v ≤ 100006 then some (pc + z, lv, .inr (.inr v) :: st, n, s) else none
      | _ => none
    | .istore_n k, .inl v :: st => if (k : Nat) < lv.length then some (pc + z, zst1 lv k (.inl v), st, n, s) else none
    | .istore k, .inl v :: st => if k < lv.length then some (pc + z, zst1 lv k (.inl v), st, n, s) else none
    | .astore_n k, .inr (.inr v) :: st => if (k : Nat) < lv.length ∧ 1 ≤ v ∧ v ≤ 100006 then some (pc + z, zst1 lv k (.inr (.inr v)), st, n, s) else none
    | .astore k, .inr (.inr v) :: st => if k < lv.length ∧ 1 ≤ v ∧ v ≤ 100006 then some (pc + z, zst1 lv k (.inr (.inr v)), st, n, s) else none
    | .lstore_n k, .inr (.inl v) :: st => if (k : Nat) + 1 < lv.length then some (pc + z, zst2 lv k (.inr (.inl v)), st, n, s) else none
    | .lstore k, .inr (.inl v) :: st => if k + 1 < lv.length then some (pc + z, zst2 lv k (.inr (.inl v)), st, n, s) else none
    | .iinc k c, st => if k < lv.length then match zld lv k with
      | some (.inl v) => some (pc + z, zst1 lv k (.inl (zw (v + c))), st, n, s)
      | _ => none
      else none
    | .dup, v :: st => if zcat v = 1 then some (pc + z, lv, v :: v :: st, n, s) else none
    | .dup2, v :: w :: st => if zcat v = 1 ∧ zcat w = 1 then some (pc + z, lv, v :: w :: v :: w :: st, n, s) else none
    | .pop, v :: st => if zcat v = 1 then some (pc + z, lv, st, n, s) else none
    | _, _ => none
def zsB (o : Nat) (ini : Bool) (i : Instr) (z : Nat) (f : Fm) : Option Fm :=
  match f with
  | (pc, lv, st, n, s) =>
    match i, st with
    | .iadd, .inl y :: .inl x :: st => some (pc + z, lv, .inl (zw (x + y)) :: st, n, s)
    | .isub, .inl y :: .inl x :: st => some (pc + z, lv, .inl (zw (x - y)) :: st, n, s)
    | .imul, .inl y :: .inl x :: st => some (pc + z, lv, .inl (zw (x * y)) :: st, n, s)
    | .idiv, .inl y :: .inl x :: st => if y = 0 then none else some (pc + z, lv, .inl (zdiv x y) :: st, n, s)
    | .irem, .inl y :: .inl x :: st => if y = 0 then none else some (pc + z, lv, .inl (zrem x y) :: st, n, s)
    | .ineg, .inl x :: st => some (pc + z, lv, .inl (zw (-x)) :: st, n, s)
    | .ishl, .inl y :: .inl x :: st => some (pc + z, lv, .inl (zshl x y) :: st, n, s)
    | .ishr, .inl y :: .inl x :: st => some (pc + z, lv, .inl (zshr x y) :: st, n, s)
    | .iushr, .inl y :: .inl x :: st => some (pc + z, lv, .inl (zushr x y) :: st, n, s)
    | .iand, .inl y :: .inl x :: st => some (pc + z, lv, .inl (zand x y) :: st, n, s)
    | .ior, .inl y :: .inl x :: st => some (pc + z, lv, .inl (zor x y) :: st, n, s)
    | .ixor, .inl y :: .inl x :: st => some (pc + z, lv, .inl (zxor x y) :: st, n, s)
    | .i2b, .inl x :: st => some (pc + z, lv, .inl (zb8 x) :: st, n, s)
    | .i2s, .inl x :: st => some (pc + z, lv, .inl (zs16 x) :: st, n, s)
    | .i2c, .inl x :: st => some (pc + z, lv, .inl (zc16 x) :: st, n, s)
    | .i2l, .inl x :: st => some (pc + z, lv, .inr (.inl x) :: st, n, s)
    | .l2i, .inr (.inl x) :: st => some (pc + z, lv, .inl (zw x) :: st, n, s)
    | .ladd, .inr (.inl y) :: .inr (.inl x) :: st => some (pc + z, lv, .inr (.inl (zl (x + y))) :: st, n, s)
    | .lmul, .inr (.inl y) :: .inr (.inl x) :: st => some (pc + z, lv, .inr (.inl (zl (x * y))) :: st, n, s)
    | .lrem, .inr (.inl y) :: .inr (.inl x) :: st => if y = 0 then none else some (pc + z, lv, .inr (.inl (zlrem x y)) :: st, n, s)
    | .lcmp, .inr (.inl y) :: .inr (.inl x) :: st => some (pc + z, lv, .inl (zlcmp x y) :: st, n, s)
    | _, _ => none
def zsC (o : Nat) (ini : Bool) (i : Instr) (z : Nat) (f : Fm) : Option Fm :=
  match f with
  | (pc, lv, st, n, s) =>
    match i, st with
    | .goto d, st => match zbr pc d with
      | some q => some (q, lv, st, n, s)
      | none => none
    | .ifCond c d, .inl x :: st => match zbr pc d with
      | some q => some (if zcp c x 0 = true then q else pc + z, lv, st, n, s)
      | none => none
    | .if_icmp c d, .inl y :: .inl x :: st => match zbr pc d with
      | some q => some (if zcp c x y = true then q else pc + z, lv, st, n, s)
      | none => none
    | .tableswitch d lo hi offs, .inl x :: st => if x < lo ∨ hi < x then match zbr pc d with
        | some q => some (q, lv, st, n, s)
        | none => none
      else match offs[(x - lo).toNat]? with
        | some off => match zbr pc off with
          | some q => some (q, lv, st, n, s)
          | none => none
        | none => none
    | .lookupswitch d ps, .inl x :: st => if (ps.toList.zip (ps.toList.drop 1)).all (fun (a, next) => a.1 < next.1) = true then match zbr pc (Op.lookupswitch.offset ps.toList d x) with
        | some q => some (q, lv, st, n, s)
        | none => none
      else none
    | .ldc idx, st => match zldc o idx with
      | some v => some (pc + z, lv, v :: st, n, s)
      | none => none
    | .ldc_w idx, st => match zldc o idx with
      | some (.inl v) => some (pc + z, lv, .inl v :: st, n, s)
      | _ => none
    | .ldc2_w idx, st => match zldc2 o idx with
      | some v => some (pc + z, lv, v :: st, n, s)
      | none => none
    | .getstatic idx, st => match zgs o idx with
      | some v => some (pc + z, lv, v :: st, n, s)
      | none => none
    | _, _ => none
def zsD (o : Nat) (ini : Bool) (i : Instr) (z : Nat) (f : Fm) : Option Fm :=
  match f with
  | (pc, lv, st, n, s) =>
    match i, st with
    | .getfield idx, .inr (.inr c) :: st => if 100000 ≤ c then match zsfd (c - 100000) o idx with
        | some v => some (pc + z, lv, v :: st, n, s)
        | none => none
      else match zfd o idx with
        | some (ci, k, t) => if 1 ≤ c ∧ c ≤ n ∧ (zsh (c - 1)).1 = ci ∧ k < zf_n ci then some (pc + z, lv, (if t = 1 then .inr (.inr (s (c - 1) k).toNat) else .inl (s (c - 1) k)) :: st, n, s) else none
        | none => none
    | .iaload, .inl i :: .inr (.inr c) :: st => if 100000 ≤ c then (if c = 100000 ∨ c = 100001 ∨ c = 100006 then (if 0 ≤ i ∧ i < ((zgiv xs L (c - 100000)).1 : Int) then some (pc + z, lv, .inl ((zgiv xs L (c - 100000)).2 i) :: st, n, s) else none) else none)
      else if 1 ≤ c ∧ c ≤ n ∧ (zsh (c - 1)).1 = 20 ∧ 0 ≤ i ∧ i < ((zsh (c - 1)).2 : Int) then some (pc + z, lv, .inl (s (c - 1) i) :: st, n, s) else none
    | .baload, .inl i :: .inr (.inr c) :: st => if 100000 ≤ c then (if c = 100004 ∨ c = 100005 then (if 0 ≤ i ∧ i < ((zgiv xs L (c - 100000)).1 : Int) then some (pc + z, lv, .inl ((zgiv xs L (c - 100000)).2 i) :: st, n, s) else none) else none)
      else if 1 ≤ c ∧ c ≤ n ∧ ((zsh (c - 1)).1 = 21 ∨ (zsh (c - 1)).1 = 22) ∧ 0 ≤ i ∧ i < ((zsh (c - 1)).2 : Int) then some (pc + z, lv, .inl (s (c - 1) i) :: st, n, s) else none
    | .aaload, .inl i :: .inr (.inr c) :: st => if 1 ≤ c ∧ c ≤ n ∧ ((zsh (c - 1)).1 = 23 ∨ (zsh (c - 1)).1 = 24) ∧ 0 ≤ i ∧ i < ((zsh (c - 1)).2 : Int) then some (pc + z, lv, .inr (.inr (s (c - 1) i).toNat) :: st, n, s) else none
    | .arraylength, .inr (.inr c) :: st => if 100000 ≤ c then (if c = 100000 ∨ c = 100001 ∨ c = 100004 ∨ c = 100005 ∨ c = 100006 then some (pc + z, lv, .inl ((zgiv xs L (c - 100000)).1 : Int) :: st, n, s) else none)
      else if 1 ≤ c ∧ c ≤ n ∧ 20 ≤ (zsh (c - 1)).1 ∧ (zsh (c - 1)).1 ≤ 24 then some (pc + z, lv, .inl ((zsh (c - 1)).2 : Int) :: st, n, s) else none
    | _, _ => none
def zsE (o : Nat) (ini : Bool) (i : Instr) (z : Nat) (f : Fm) : Option Fm :=
  match f with
  | (pc, lv, st, n, s) =>
    match i, st with
    | .putfield idx, .inl v :: .inr (.inr c) :: st => match zfd o idx with
        | some (ci, k, t) => if 1 ≤ c ∧ c ≤ n ∧ (zsh (c - 1)).1 = ci ∧ k < zf_n ci ∧ (t = 0 ∨ t = 2 ∧ (v = 0 ∨ v = 1)) ∧ ((zf ci k).2.2.1 = false ∨ (ini = true ∧ ci = o)) then some (pc + z, lv, st, n, zup s (c - 1) k v) else none
        | none => none
    | .putfield idx, .inr (.inr w) :: .inr (.inr c) :: st => match zfd o idx with
        | some (ci, k, t) => if 1 ≤ c ∧ c ≤ n ∧ (zsh (c - 1)).1 = ci ∧ k < zf_n ci ∧ t = 1 ∧ 1 ≤ w ∧ w ≤ n ∧ ((zf ci k).2.2.1 = false ∨ (ini = true ∧ ci = o)) then some (pc + z, lv, st, n, zup s (c - 1) k w) else none
        | none => none
    | .iastore, .inl v :: .inl i :: .inr (.inr c) :: st => if 1 ≤ c ∧ c ≤ n ∧ (zsh (c - 1)).1 = 20 ∧ 0 ≤ i ∧ i < ((zsh (c - 1)).2 : Int) then some (pc + z, lv, st, n, zup s (c - 1) i v) else none
    | .bastore, .inl v :: .inl i :: .inr (.inr c) :: st => if 1 ≤ c ∧ c ≤ n ∧ ((zsh (c - 1)).1 = 21 ∨ (zsh (c - 1)).1 = 22 ∧ (v = 0 ∨ v = 1)) ∧ 0 ≤ i ∧ i < ((zsh (c - 1)).2 : Int) then some (pc + z, lv, st, n, zup s (c - 1) i (if (zsh (c - 1)).1 = 21 then zb8 v else v)) else none
    | .aastore, .inr (.inr w) :: .inl i :: .inr (.inr c) :: st => if 1 ≤ c ∧ c ≤ n ∧ 1 ≤ w ∧ w ≤ n ∧ ((zsh (c - 1)).1 = 23 ∧ (zsh (w - 1)).1 = 1 ∨ (zsh (c - 1)).1 = 24 ∧ (zsh (w - 1)).1 = 5) ∧ 0 ≤ i ∧ i < ((zsh (c - 1)).2 : Int) then some (pc + z, lv, st, n, zup s (c - 1) i w) else none
    | .new idx, st => match zcla o idx with
        | some ci => if (zsh n).1 = ci ∧ (zsh n).2 = zf_n ci ∧ ci < 9 then some (pc + z, lv, .inr (.inr (n + 1)) :: st, n + 1, znew s n) else none
        | none => none
    | .newarray a, .inl k :: st => if (zsh n).1 = zatk a ∧ zatk a < 98 ∧ k = ((zsh n).2 : Int) then some (pc + z, lv, .inr (.inr (n + 1)) :: st, n + 1, znew s n) else none
    | .anewarray idx, .inl k :: st => match zcla o idx with
        | some ci => if ((ci = 1 ∧ (zsh n).1 = 23) ∨ (ci = 5 ∧ (zsh n).1 = 24)) ∧ k = ((zsh n).2 : Int) then some (pc + z, lv, .inr (.inr (n + 1)) :: st, n + 1, znew s n) else none
        | none => none
    | .invokespecial idx, .inr (.inr c) :: st => if zoi o idx = true ∧ 1 ≤ c ∧ c ≤ n ∧ (st.map zcat).sum ≤ 8 then some (pc + z, lv, st, n, s) else none
    | .invokestatic idx, .inl k :: .inl j :: .inr (.inr c2) :: .inl i :: .inr (.inr c1) :: st => if zac o idx = true ∧ 1 ≤ c1 ∧ c1 ≤ n ∧ 1 ≤ c2 ∧ c2 ≤ n ∧ (zsh (c1 - 1)).1 = 20 ∧ (zsh (c2 - 1)).1 = 20 ∧ 0 ≤ i ∧ 0 ≤ j ∧ 0 ≤ k ∧ i + k ≤ ((zsh (c1 - 1)).2 : Int) ∧ j + k ≤ ((zsh (c2 - 1)).2 : Int) ∧ (st.map zcat).sum ≤ 8 then some (pc + z, lv, st, n, zcopy s (c1 - 1) i (c2 - 1) j k) else none
    | _, _ => none
def zstep (o : Nat) (ini : Bool) (i : Instr) (z : Nat) (f : Fm) : Option Fm :=
  match zsA o ini i z f with
  | some r => some r
  | none => match zsB o ini i z f with
    | some r => some r
    | none => match zsC o ini i z f with
      | some r => some r
      | none => match zsD xs L o ini i z f with
        | some r => some r
        | none => zsE o ini i z f
/-- a return: what comes back -/
def zret (rt : Nat) (i : Instr) (st : List AV) : Option (Option AV) := match i, st with
  | .ireturn, [.inl v] => if rt = 1 ∨ (rt = 2 ∧ (v = 0 ∨ v = 1)) ∨ (rt = 3 ∧ 0 ≤ v ∧ v < 65536) ∨ (rt = 4 ∧ -128 ≤ v ∧ v < 128) then some (some (.inl v)) else none
  | .lreturn, [.inr (.inl v)] => if rt = 5 then some (some (.inr (.inl v))) else none
  | .areturn, [.inr (.inr c)] => if rt = 6 ∧ c < 100000 then some (some (.inr (.inr c))) else none
  | .return_, [] => if rt = 0 then some none else none
  | _, _ => none
/-- a call: which method; a receiver's class is looked at -/
def zcal (o : Nat) (i : Instr) : Option Nat := match i with
  | .invokevirtual idx => zml o idx
  | .invokestatic idx => match zml o idx with
    | some y => some y
    | none => znl o idx
  | .invokespecial idx => match zml o idx with
    | some y => some y
    | none => znl o idx
  | _ => none
/-- how it is called: 0 virtual, 1 static, 2 a constructor -/
def zmode (i : Instr) : Nat := match i with
  | .invokevirtual _ => 0
  | .invokestatic _ => 1
  | _ => 2
def zrecv (y n : Nat) : List AV → Bool
  | .inr (.inr c) :: _ => (decide (1 ≤ c) && decide (c ≤ n) && decide ((zsh (c - 1)).1 = (zm y).2.2.2.2.1)) || (decide (c = 100002 ∨ c = 100003) && decide ((zm y).2.2.2.2.1 = 9))
  | _ => false
def zcallok (i : Instr) (y n : Nat) (args rest : List AV) : Bool :=
  decide ((rest.map zcat).sum ≤ 8) && decide (y < 247) && (args.all fun v => decide (zcat v = 1)) &&
  (match zmode i with
    | 0 => !(zm y).2.2.2.2.2.2.2 && zrecv y n args && decide ((zm y).1.name ≠ "<init>")
    | 1 => (zm y).2.2.2.2.2.2.2
    | _ => decide ((zm y).1.name = "<init>") && zrecv y n args && decide ((zm y).2.2.2.2.2.1 = 0))
abbrev ZX : Type := Nat → List AV → Nat → Pl → Option (Option AV × Nat × Pl)
/-- a method's run from a place in it; y: which, o: its class -/
def zrun (ex : ZX) (y o rt : Nat) (ini : Bool) : Nat → Fm → Option (Option AV × Nat × Pl)
  | 0, _ => none
  | N + 1, f => match zi y f.1 with
    | none => none
    | some (i, z) => match zret rt i f.2.2.1 with
      | some r => some (r, f.2.2.2)
      | none => match zcal o i with
        | some y2 =>
          if (zm y2).2.2.2.2.2.2.1 ≤ f.2.2.1.length ∧ zcallok i y2 f.2.2.2.1 (f.2.2.1.take (zm y2).2.2.2.2.2.2.1).reverse (f.2.2.1.drop (zm y2).2.2.2.2.2.2.1) = true then
            match ex y2 (f.2.2.1.take (zm y2).2.2.2.2.2.2.1).reverse f.2.2.2.1 f.2.2.2.2 with
            | some (r, n2, s2) => zrun ex y o rt ini N (f.1 + z, f.2.1, r.toList ++ f.2.2.1.drop (zm y2).2.2.2.2.2.2.1, n2, s2)
            | none => none
          else none
        | none => match zstep xs L o ini i z f with
          | some f2 => zrun ex y o rt ini N f2
          | none => none
/-- a whole call, of depth d, each method's run of at most N instructions -/
def zex (N : Nat) : Nat → ZX
  | 0 => fun _ _ _ _ => none
  | d + 1 => fun y args n s => zrun xs L (zex N d) y (zm y).2.2.2.2.1 (zm y).2.2.2.2.2.1 (decide ((zm y).1.name = "<init>")) N (0, args.map some ++ List.replicate ((zm y).2.2.1 - args.length) none, [], n, s)
end ZS
