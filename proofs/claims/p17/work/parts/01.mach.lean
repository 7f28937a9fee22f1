/-! THE PLAIN MACHINE: values are whole numbers with a kind; cells are numbered; one function walks a method from one cut to the next. -/
abbrev TV : Type := Int ⊕ (Int ⊕ Nat)
abbrev vi (x : Int) : TV := .inl x
abbrev vl (x : Int) : TV := .inr (.inl x)
abbrev vr (x : Nat) : TV := .inr (.inr x)
abbrev LV : Type := List (Option TV)
/-- cells, slots, shape (kind, length) of each cell; the kinds: 0 byte[], 1 boolean[], 2 int[], 3 long[], 4 .. 6 arrays of objects, 10 + c an object of class c, 99 none -/
abbrev AG : Type := Nat × Nat × (Nat → Nat × Nat)
abbrev AH : Type := AG × (Nat → Nat → Int)
abbrev Rs : Type := Option (Int × AH)
noncomputable def w32 (x : Int) : Int := x.bmod 4294967296
noncomputable def w64 (x : Int) : Int := x.bmod 18446744073709551616
noncomputable def w8 (x : Int) : Int := x.bmod 256
noncomputable def w16u (x : Int) : Int := x % 65536
noncomputable def lcmp (x y : Int) : Int := if x < y then -1 else if x = y then 0 else 1
noncomputable def ishl (x y : Int) : Int := (Int32.ofInt x <<< (Int32.ofInt y &&& 31)).toInt
noncomputable def ishr (x y : Int) : Int := (Int32.ofInt x >>> (Int32.ofInt y &&& 31)).toInt
noncomputable def iushr (x y : Int) : Int := ((Int32.ofInt x).toUInt32 >>> ((Int32.ofInt y).toUInt32 &&& Int32.toUInt32 31)).toInt32.toInt
noncomputable def iand (x y : Int) : Int := (Int32.ofInt x &&& Int32.ofInt y).toInt
noncomputable def ior (x y : Int) : Int := (Int32.ofInt x ||| Int32.ofInt y).toInt
noncomputable def ixor (x y : Int) : Int := (Int32.ofInt x ^^^ Int32.ofInt y).toInt
noncomputable def land (x y : Int) : Int := (Int64.ofInt x &&& Int64.ofInt y).toInt
noncomputable def lor (x y : Int) : Int := (Int64.ofInt x ||| Int64.ofInt y).toInt
noncomputable def lxor (x y : Int) : Int := (Int64.ofInt x ^^^ Int64.ofInt y).toInt
noncomputable def lshl (x y : Int) : Int := (Int64.ofInt x <<< ((Int32.ofInt y).toInt64 &&& 63)).toInt
noncomputable def lushr (x y : Int) : Int := ((Int64.ofInt x).toUInt64 >>> ((Int32.ofInt y).toInt64.toUInt64 &&& Int64.toUInt64 63)).toInt64.toInt
noncomputable def idiv (x y : Int) : Int := w32 (x.tdiv y)
noncomputable def ldiv (x y : Int) : Int := w64 (x.tdiv y)
noncomputable def i32 (x : Int) : Int := w32 x
/-- a write -/
noncomputable def upd2 (h : Nat → Nat → Int) (a k : Nat) (v : Int) : Nat → Nat → Int := fun b j => if b = a ∧ j = k then v else h b j
noncomputable def wr (S : AH) (a k : Nat) (v : Int) : AH := (S.1, upd2 S.2 a k v)
/-- a new cell of a kind and a length, with what it holds -/
noncomputable def nwc (S : AH) (t n : Nat) (f : Nat → Int) : AH := ((S.1.1 + 1, S.1.2.1 + n, fun b => if b = S.1.1 then (t, n) else S.1.2.2 b), fun b => if b = S.1.1 then f else S.2 b)
noncomputable def nw (S : AH) (t n : Nat) : AH := nwc S t n (fun _ => 0)
/-- a whole cell's contents anew -/
noncomputable def wrA (S : AH) (a : Nat) (f : Nat → Int) : AH := (S.1, fun b => if b = a then f else S.2 b)
/-- the constants of a world: how many cells are fixed, their shapes, what is final in them -/
abbrev WC : Type := Nat × (Nat → Nat × Nat) × (Nat → Nat → Option Int)
noncomputable def shp (w : WC) (S : AH) (a : Nat) : Nat × Nat := match Nat.blt a w.1 with
  | true => w.2.1 a
  | false => S.1.2.2 a
noncomputable def rdv (w : WC) (S : AH) (a k : Nat) : Int := match w.2.2 a k with
  | some c => c
  | none => S.2 a k
/-- kinds of slots: 0 int, 1 long, 2 reference, 3 byte, 4 boolean, 5 char -/
noncomputable def mkv (c : Nat) (x : Int) : TV := match c with
  | 1 => vl x
  | 2 => vr x.toNat
  | _ => vi x
noncomputable def isL (o : Option (Option TV)) : Bool := match o with
  | some (some (.inr (.inl _))) => true
  | _ => false
/-- storing a value of one slot, of two: the list is laid out anew at once -/
noncomputable def setK (ls : LV) (i : Nat) (v : Option TV) (k : LV → Rs) : Rs := match ls, i with
  | [], _ => none
  | _ :: r, 0 => k (v :: r)
  | a :: r, i + 1 => setK r i v (fun q => k (a :: q))
noncomputable def st1 (ls : LV) (i : Nat) (v : TV) (k : LV → Rs) : Rs := match i with
  | 0 => setK ls 0 (some v) k
  | j + 1 => match isL ls[j]? with
    | true => setK ls j none (fun q => setK q (j + 1) (some v) k)
    | false => setK ls (j + 1) (some v) k
noncomputable def st2 (ls : LV) (i : Nat) (v : TV) (k : LV → Rs) : Rs := st1 ls i v (fun q => setK q (i + 1) none k)
noncomputable def gd (b : Bool) (r : Rs) : Rs := match b with
  | true => r
  | false => none
noncomputable def bindR (o : Rs) (k : Int → AH → Rs) : Rs := match o with
  | some (r, S) => k r S
  | none => none
noncomputable def ckZ (c : Nat) (x : Int) (r : Rs) : Rs := match c with
  | 3 => if -128 ≤ x ∧ x ≤ 127 then r else none
  | 4 => if x = 0 ∨ x = 1 then r else none
  | 5 => if 0 ≤ x ∧ x ≤ 65535 then r else none
  | _ => r
/-- what kind of slot an array of a kind has -/
noncomputable def arC (t : Nat) : Nat := match t with
  | 0 => 3
  | 1 => 4
  | 2 => 0
  | 3 => 1
  | _ => 2
abbrev XI : Type := Nat × Nat × Int × Nat
abbrev KT : Type := LV → List TV → AH → Rs
noncomputable def loadI (ls : LV) (i : Nat) (st : List TV) (S : AH) (k : KT) : Rs := match ls[i]? with
  | some (some (.inl x)) => k ls (vi x :: st) S
  | _ => none
noncomputable def loadL (ls : LV) (i : Nat) (st : List TV) (S : AH) (k : KT) : Rs := match ls[i]? with
  | some (some (.inr (.inl x))) => k ls (vl x :: st) S
  | _ => none
noncomputable def loadA (ls : LV) (i : Nat) (st : List TV) (S : AH) (k : KT) : Rs := match ls[i]? with
  | some (some (.inr (.inr x))) => k ls (vr x :: st) S
  | _ => none
noncomputable def stoI (ls : LV) (i : Nat) (st : List TV) (S : AH) (k : KT) : Rs := match st with
  | .inl x :: r => st1 ls i (vi x) (fun q => k q r S)
  | _ => none
noncomputable def stoL (ls : LV) (i : Nat) (st : List TV) (S : AH) (k : KT) : Rs := match st with
  | .inr (.inl x) :: r => st2 ls i (vl x) (fun q => k q r S)
  | _ => none
noncomputable def stoA (ls : LV) (i : Nat) (st : List TV) (S : AH) (k : KT) : Rs := match st with
  | .inr (.inr x) :: r => st1 ls i (vr x) (fun q => k q r S)
  | _ => none
noncomputable def bin (f : Int → Int → Int) (ls : LV) (st : List TV) (S : AH) (k : KT) : Rs := match st with
  | .inl y :: .inl x :: r => k ls (vi (f x y) :: r) S
  | _ => none
noncomputable def binL (f : Int → Int → Int) (ls : LV) (st : List TV) (S : AH) (k : KT) : Rs := match st with
  | .inr (.inl y) :: .inr (.inl x) :: r => k ls (vl (f x y) :: r) S
  | _ => none
noncomputable def dvI (f : Int → Int → Int) (ls : LV) (st : List TV) (S : AH) (k : KT) : Rs := match st with
  | .inl y :: .inl x :: r => if y = 0 then none else k ls (vi (f x y) :: r) S
  | _ => none
noncomputable def dvL (f : Int → Int → Int) (ls : LV) (st : List TV) (S : AH) (k : KT) : Rs := match st with
  | .inr (.inl y) :: .inr (.inl x) :: r => if y = 0 then none else k ls (vl (f x y) :: r) S
  | _ => none
noncomputable def shL (f : Int → Int → Int) (ls : LV) (st : List TV) (S : AH) (k : KT) : Rs := match st with
  | .inl y :: .inr (.inl x) :: r => k ls (vl (f x y) :: r) S
  | _ => none
noncomputable def una (f : Int → Int) (ls : LV) (st : List TV) (S : AH) (k : KT) : Rs := match st with
  | .inl x :: r => k ls (vi (f x) :: r) S
  | _ => none
noncomputable def ald (w : WC) (t : Nat) (ls : LV) (st : List TV) (S : AH) (k : KT) : Rs := match st with
  | .inl i :: .inr (.inr a) :: r => gd (Nat.beq (shp w S a).1 t) (if 0 ≤ i ∧ i < (shp w S a).2 then k ls (mkv (arC t) (rdv w S a i.toNat) :: r) S else none)
  | _ => none
/-- baload: of bytes or of booleans -/
noncomputable def aldB (w : WC) (ls : LV) (st : List TV) (S : AH) (k : KT) : Rs := match st with
  | .inl i :: .inr (.inr a) :: r => gd (Nat.ble (shp w S a).1 1) (if 0 ≤ i ∧ i < (shp w S a).2 then k ls (vi (rdv w S a i.toNat) :: r) S else none)
  | _ => none
/-- aaload: of one of the three kinds -/
noncomputable def aldA (w : WC) (ls : LV) (st : List TV) (S : AH) (k : KT) : Rs := match st with
  | .inl i :: .inr (.inr a) :: r => gd (Nat.ble 4 (shp w S a).1 && Nat.ble (shp w S a).1 6) (if 0 ≤ i ∧ i < (shp w S a).2 then k ls (vr (rdv w S a i.toNat).toNat :: r) S else none)
  | _ => none
/-- a slot that may be written: of no fixed cell's finals, of no cell from outside -/
noncomputable def wok (w : WC) (a : Nat) (k : Nat) : Bool := Nat.ble 15 a && (w.2.2 a k).isNone
/-- an array that may be written -/
noncomputable def wokF (w : WC) (a : Nat) : Bool := match Nat.blt a w.1 with
  | true => Nat.ble 15 a && Nat.blt (w.2.1 a).1 7
  | false => Nat.ble 15 a
noncomputable def astI (w : WC) (ls : LV) (st : List TV) (S : AH) (k : KT) : Rs := match st with
  | .inl x :: .inl i :: .inr (.inr a) :: r => gd (Nat.beq (shp w S a).1 2 && wokF w a) (if 0 ≤ i ∧ i < (shp w S a).2 then k ls r (wr S a i.toNat x) else none)
  | _ => none
noncomputable def astL (w : WC) (ls : LV) (st : List TV) (S : AH) (k : KT) : Rs := match st with
  | .inr (.inl x) :: .inl i :: .inr (.inr a) :: r => gd (Nat.beq (shp w S a).1 3 && wokF w a) (if 0 ≤ i ∧ i < (shp w S a).2 then k ls r (wr S a i.toNat x) else none)
  | _ => none
/-- bastore: into bytes what is left of the number, into booleans 0 or 1 alone -/
noncomputable def astB (w : WC) (ls : LV) (st : List TV) (S : AH) (k : KT) : Rs := match st with
  | .inl x :: .inl i :: .inr (.inr a) :: r => gd (Nat.ble (shp w S a).1 1 && wokF w a) (if 0 ≤ i ∧ i < (shp w S a).2 then (match (shp w S a).1 with
    | 0 => k ls r (wr S a i.toNat (w8 x))
    | _ => if x = 0 ∨ x = 1 then k ls r (wr S a i.toNat x) else none) else none)
  | _ => none
/-- the class of what an array of objects holds -/
noncomputable def elC (t : Nat) : Nat := match t with
  | 4 => 19
  | 5 => 11
  | _ => 12
noncomputable def astA (w : WC) (ls : LV) (st : List TV) (S : AH) (k : KT) : Rs := match st with
  | .inr (.inr x) :: .inl i :: .inr (.inr a) :: r => gd (Nat.ble 4 (shp w S a).1 && Nat.ble (shp w S a).1 6 && wokF w a && Nat.beq (shp w S x).1 (elC (shp w S a).1)) (if 0 ≤ i ∧ i < (shp w S a).2 then k ls r (wr S a i.toNat x) else none)
  | _ => none
noncomputable def getF (w : WC) (x : XI) (ls : LV) (st : List TV) (S : AH) (k : KT) : Rs := match st with
  | .inr (.inr a) :: r => gd (Nat.beq (shp w S a).1 (10 + x.1)) (k ls (mkv x.2.2.1.toNat (rdv w S a x.2.1) :: r) S)
  | _ => none
noncomputable def putF (w : WC) (x : XI) (ls : LV) (st : List TV) (S : AH) (k : KT) : Rs := match x.2.2.1.toNat, st with
  | 1, .inr (.inl v) :: .inr (.inr a) :: r => gd (Nat.beq (shp w S a).1 (10 + x.1) && wok w a x.2.1) (k ls r (wr S a x.2.1 v))
  | 2, .inr (.inr v) :: .inr (.inr a) :: r => gd (Nat.beq (shp w S a).1 (10 + x.1) && wok w a x.2.1) (k ls r (wr S a x.2.1 v))
  | c, .inl v :: .inr (.inr a) :: r => gd (!(Nat.beq c 1) && !(Nat.beq c 2)) (gd (Nat.beq (shp w S a).1 (10 + x.1) && wok w a x.2.1) (ckZ c v (k ls r (wr S a x.2.1 v))))
  | _, _ => none
noncomputable def alen (w : WC) (ls : LV) (st : List TV) (S : AH) (k : KT) : Rs := match st with
  | .inr (.inr a) :: r => gd (Nat.ble (shp w S a).1 6) (k ls (vi (shp w S a).2 :: r) S)
  | _ => none
noncomputable def aty (t : ArrayType) : Nat := match t with
  | .byte => 0
  | .boolean => 1
  | .int => 2
  | .long => 3
  | _ => 98
noncomputable def newA (t : Nat) (ls : LV) (st : List TV) (S : AH) (k : KT) : Rs := match st with
  | .inl n :: r => if 0 ≤ n ∧ n ≤ 20000 then k ls (vr S.1.1 :: r) (nw S t n.toNat) else none
  | _ => none
/-- one instruction that goes on to the next; x: what its pool entry says -/
noncomputable def step (w : WC) (i : Instr) (x : XI) (ls : LV) (st : List TV) (S : AH) (k : KT) : Rs := match i with
  | .iload_n j => loadI ls j.val st S k
  | .iload j => loadI ls j st S k
  | .lload_n j => loadL ls j.val st S k
  | .lload j => loadL ls j st S k
  | .aload_n j => loadA ls j.val st S k
  | .aload j => loadA ls j st S k
  | .istore_n j => stoI ls j.val st S k
  | .istore j => stoI ls j st S k
  | .lstore_n j => stoL ls j.val st S k
  | .lstore j => stoL ls j st S k
  | .astore_n j => stoA ls j.val st S k
  | .astore j => stoA ls j st S k
  | .iconst n => k ls (vi n :: st) S
  | .bipush n => k ls (vi n :: st) S
  | .sipush n => k ls (vi n :: st) S
  | .lconst n => k ls (vl n.val :: st) S
  | .aconst_null => k ls (vr 0 :: st) S
  | .ldc2_w _ => k ls (vl x.2.2.1 :: st) S
  | .ldc _ => (match x.1 with
    | 0 => k ls (vi x.2.2.1 :: st) S
    | _ => k ls (vr x.2.1 :: st) S)
  | .ldc_w _ => k ls (vi x.2.2.1 :: st) S
  | .getstatic _ => (match x.1 with
    | 0 => k ls (vi x.2.2.1 :: st) S
    | _ => k ls (vr x.2.1 :: st) S)
  | .iadd => bin (fun a b => w32 (a + b)) ls st S k
  | .isub => bin (fun a b => w32 (a - b)) ls st S k
  | .imul => bin (fun a b => w32 (a * b)) ls st S k
  | .iand => bin iand ls st S k
  | .ior => bin ior ls st S k
  | .ixor => bin ixor ls st S k
  | .ishl => bin ishl ls st S k
  | .ishr => bin ishr ls st S k
  | .iushr => bin iushr ls st S k
  | .ladd => binL (fun a b => w64 (a + b)) ls st S k
  | .lsub => binL (fun a b => w64 (a - b)) ls st S k
  | .lmul => binL (fun a b => w64 (a * b)) ls st S k
  | .land => binL land ls st S k
  | .lor => binL lor ls st S k
  | .lxor => binL lxor ls st S k
  | .lshl => shL lshl ls st S k
  | .lushr => shL lushr ls st S k
  | .idiv => dvI idiv ls st S k
  | .irem => dvI Int.tmod ls st S k
  | .ldiv => dvL ldiv ls st S k
  | .lrem => dvL Int.tmod ls st S k
  | .lneg => (match st with
    | .inr (.inl a) :: r => k ls (vl (w64 (-a)) :: r) S
    | _ => none)
  | .i2b => una w8 ls st S k
  | .i2c => una w16u ls st S k
  | .i2l => (match st with
    | .inl a :: r => k ls (vl a :: r) S
    | _ => none)
  | .l2i => (match st with
    | .inr (.inl a) :: r => k ls (vi (i32 a) :: r) S
    | _ => none)
  | .lcmp => (match st with
    | .inr (.inl y) :: .inr (.inl z) :: r => k ls (vi (lcmp z y) :: r) S
    | _ => none)
  | .iinc j n => (match ls[j]? with
    | some (some (.inl a)) => st1 ls j (vi (w32 (a + n))) (fun q => k q st S)
    | _ => none)
  | .dup => (match st with
    | .inl a :: r => k ls (vi a :: vi a :: r) S
    | .inr (.inr a) :: r => k ls (vr a :: vr a :: r) S
    | _ => none)
  | .dup2 => (match st with
    | .inr (.inl a) :: r => k ls (vl a :: vl a :: r) S
    | .inl a :: .inr (.inr b) :: r => k ls (vi a :: vr b :: vi a :: vr b :: r) S
    | .inl a :: .inl b :: r => k ls (vi a :: vi b :: vi a :: vi b :: r) S
    | _ => none)
  | .pop => (match st with
    | .inl _ :: r => k ls r S
    | .inr (.inr _) :: r => k ls r S
    | _ => none)
  | .pop2 => (match st with
    | .inr (.inl _) :: r => k ls r S
    | _ => none)
  | .getfield _ => getF w x ls st S k
  | .putfield _ => putF w x ls st S k
  | .iaload => ald w 2 ls st S k
  | .laload => ald w 3 ls st S k
  | .baload => aldB w ls st S k
  | .aaload => aldA w ls st S k
  | .iastore => astI w ls st S k
  | .lastore => astL w ls st S k
  | .bastore => astB w ls st S k
  | .aastore => astA w ls st S k
  | .arraylength => alen w ls st S k
  | .new _ => k ls (vr S.1.1 :: st) (nw S (10 + x.1) x.2.1)
  | .newarray t => gd (Nat.ble (aty t) 3) (newA (aty t) ls st S k)
  | .anewarray _ => newA x.1 ls st S k
  | .checkcast _ => (match st with
    | .inr (.inr a) :: r => gd (Nat.beq (shp w S a).1 x.1 && Nat.ble 15 a) (k ls (vr a :: r) S)
    | _ => none)
  | _ => none
/-- an entry of a method's code: place, cut (0: none; 2 b + 1: the locals whose bits are in b go on), instruction, its pool entry -/
abbrev CE : Type := Nat × Nat × Instr × XI
noncomputable def mskL (b : Nat) (ls : LV) : LV := match ls with
  | [] => []
  | v :: r => (match Nat.beq (b % 2) 1 with
    | true => v
    | false => none) :: mskL (b / 2) r
noncomputable def cde (cs : List CE) (pc : Nat) : List CE := match cs with
  | [] => []
  | e :: r => match Nat.beq e.1 pc with
    | true => e :: r
    | false => cde r pc
noncomputable def tgt (pc : Nat) (off : Int) : Nat := ((pc : Int) + off).toNat
noncomputable def takeA (n : Nat) (st : List TV) (acc : List TV) : Option (List TV × List TV) := match n, st with
  | 0, st => some (acc, st)
  | n + 1, v :: r => takeA n r (v :: acc)
  | _ + 1, [] => none
noncomputable def bIf (c : Jvm.ClassFile.Cond) (x y : Int) (a b : Rs) : Rs := match c with
  | .eq => if x = y then a else b
  | .ne => if x = y then b else a
  | .lt => if x < y then a else b
  | .ge => if x < y then b else a
  | .gt => if y < x then a else b
  | .le => if y < x then b else a
noncomputable def swt (x : Int) (k : Int) (offs : List Int) (d : Rs) (f : Int → Rs) : Rs := match offs with
  | [] => d
  | o :: r => if x = k then f o else swt x (k + 1) r d f
noncomputable def swl (x : Int) (ps : List (Int × Int)) (d : Rs) (f : Int → Rs) : Rs := match ps with
  | [] => d
  | q :: r => if x = q.1 then f q.2 else swl x r d f
noncomputable def cat (v : TV) : Nat := match v with
  | .inr (.inl _) => 2
  | _ => 1
noncomputable def cats (st : List TV) : Nat := match st with
  | [] => 0
  | v :: r => cat v + cats r
/-- what a call's answer leaves on the stack; 9: nothing -/
noncomputable def psh (c : Nat) (v : Int) (r : List TV) : List TV := match c with
  | 9 => r
  | c => mkv c v :: r
/-- Object.<init>, clone, arraycopy are instructions here -/
noncomputable def mObj : Nat := 9999
noncomputable def mClone : Nat := 9998
noncomputable def cpyF (f g : Nat → Int) (sp dp n : Nat) : Nat → Int := fun k => if dp ≤ k ∧ k < dp + n then f (sp + (k - dp)) else g k
noncomputable def copyA (w : WC) (st : List TV) (S : AH) (k : List TV → AH → Rs) : Rs := match st with
  | .inl n :: .inl dp :: .inr (.inr b) :: .inl sp :: .inr (.inr a) :: r => gd (Nat.beq (shp w S a).1 (shp w S b).1 && (Nat.beq (shp w S a).1 0 || Nat.beq (shp w S a).1 2) && wokF w b && !(Nat.beq a b))
      (if 0 ≤ n ∧ 0 ≤ sp ∧ 0 ≤ dp ∧ sp + n ≤ (shp w S a).2 ∧ dp + n ≤ (shp w S b).2 then k r (wrA S b (cpyF (rdv w S a) (rdv w S b) sp.toNat dp.toNat n.toNat)) else none)
  | _ => none
/-- arraycopy and Math's four -/
noncomputable def intr (w : WC) (m : Nat) (st : List TV) (S : AH) (k : List TV → AH → Rs) : Rs := match m with
  | 9997 => copyA w st S k
  | 9990 => (match st with
    | .inl y :: .inl x :: r => k (vi (max x y) :: r) S
    | _ => none)
  | 9991 => (match st with
    | .inl y :: .inl x :: r => k (vi (min x y) :: r) S
    | _ => none)
  | 9992 => (match st with
    | .inr (.inl y) :: .inr (.inl x) :: r => k (vl (max x y) :: r) S
    | _ => none)
  | 9993 => (match st with
    | .inr (.inl y) :: .inr (.inl x) :: r => k (vl (min x y) :: r) S
    | _ => none)
  | _ => none
abbrev RT : Type := List CE → LV → List TV → AH → Rs
section
variable (w : WC) (C : Nat → List TV → AH → Rs) (K : Nat → LV → List TV → AH → Rs) (cs0 : List CE) (rt : Nat)
/-- an entry's instruction; 'rec' goes on -/
noncomputable def ctl (pc : Nat) (i : Instr) (x : XI) (cs : List CE) (ls : LV) (st : List TV) (S : AH) (rec : RT) : Rs := match i with
  | .goto off => rec (cde cs0 (tgt pc off)) ls st S
  | .ifCond c off => (match st with
    | .inl a :: r => bIf c a 0 (rec (cde cs0 (tgt pc off)) ls r S) (rec cs ls r S)
    | _ => none)
  | .if_icmp c off => (match st with
    | .inl b :: .inl a :: r => bIf c a b (rec (cde cs0 (tgt pc off)) ls r S) (rec cs ls r S)
    | _ => none)
  | .ifnull off => (match st with
    | .inr (.inr a) :: r => if a = 0 then rec (cde cs0 (tgt pc off)) ls r S else gd (!(Nat.beq a 14)) (rec cs ls r S)
    | _ => none)
  | .ifnonnull off => (match st with
    | .inr (.inr a) :: r => if a = 0 then rec cs ls r S else gd (!(Nat.beq a 14)) (rec (cde cs0 (tgt pc off)) ls r S)
    | _ => none)
  | .tableswitch d lo _ offs => (match st with
    | .inl a :: r => swt a lo offs.toList (rec (cde cs0 (tgt pc d)) ls r S) (fun o => rec (cde cs0 (tgt pc o)) ls r S)
    | _ => none)
  | .lookupswitch d ps => (match st with
    | .inl a :: r => swl a ps.toList (rec (cde cs0 (tgt pc d)) ls r S) (fun o => rec (cde cs0 (tgt pc o)) ls r S)
    | _ => none)
  | .ireturn => (match st with
    | [.inl a] => gd (Nat.beq rt 0 || (Nat.ble 3 rt && Nat.ble rt 5)) (ckZ rt a (some (a, S)))
    | _ => none)
  | .lreturn => (match st with
    | [.inr (.inl a)] => gd (Nat.beq rt 1) (some (a, S))
    | _ => none)
  | .areturn => (match st with
    | [.inr (.inr a)] => gd (Nat.beq rt 2) (some (a, S))
    | _ => none)
  | .return_ => (match st with
    | [] => gd (Nat.beq rt 9) (some (0, S))
    | _ => none)
  | .invokestatic _ => (match Nat.ble 9990 x.1 with
    | true => gd (Nat.ble (cats st) 20) (intr w x.1 st S (fun r S' => rec cs ls r S'))
    | false => (match takeA x.2.1 st [] with
      | some (as, r) => gd (Nat.ble (cats r) 8) (bindR (C x.1 as S) (fun v S' => rec cs ls (psh x.2.2.1.toNat v r) S'))
      | none => none))
  | .invokevirtual _ => (match Nat.beq x.1 mClone with
    | true => (match st with
      | .inr (.inr a) :: r => gd (Nat.beq (shp w S a).1 x.2.2.2 && (Nat.beq x.2.2.2 0 || Nat.beq x.2.2.2 2) && Nat.ble (cats r) 8 && Nat.ble 15 a) (rec cs ls (vr S.1.1 :: r) (nwc S (shp w S a).1 (shp w S a).2 (rdv w S a)))
      | _ => none)
    | false => (match takeA x.2.1 st [] with
      | some (.inr (.inr b) :: as, r) => gd (Nat.beq (shp w S b).1 x.2.2.2 && Nat.ble (cats r) 8) (bindR (C x.1 (vr b :: as) S) (fun v S' => rec cs ls (psh x.2.2.1.toNat v r) S'))
      | _ => none))
  | .invokespecial _ => (match Nat.beq x.1 mObj with
    | true => (match st with
      | .inr (.inr b) :: r => gd (Nat.beq (shp w S b).1 x.2.2.2 && Nat.ble (cats r) 8) (rec cs ls r S)
      | _ => none)
    | false => (match takeA x.2.1 st [] with
      | some (.inr (.inr b) :: as, r) => gd (Nat.beq (shp w S b).1 x.2.2.2 && Nat.ble (cats r) 8) (bindR (C x.1 (vr b :: as) S) (fun _ S' => rec cs ls r S'))
      | _ => none))
  | i => step w i x ls st S (fun ls st S => rec cs ls st S)
noncomputable def go : Nat → Bool → RT
  | 0, _ => fun _ _ _ _ => none
  | n + 1, first => fun cs0' ls st S => match cs0' with
    | [] => none
    | (pc, ck, i, x) :: cs => match Nat.blt 0 ck && !first with
      | true => K pc (mskL (ck / 2) ls) st S
      | false => ctl w C cs0 rt pc i x cs ls st S (fun cs ls st S => go n false cs ls st S)
end
