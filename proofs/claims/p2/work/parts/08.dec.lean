def rcc (m : Nat) : Int := match rtOf m with
  | 9 => 9
  | 1 => 1
  | 2 => 2
  | _ => 0
theorem rt_ok : ((List.range 338).all fun m => match rty m with
  | none => Nat.beq (rtOf m) 9
  | some t => Nat.beq (rtOf m) (fk t) && !(Nat.beq (fk t) 7)) = true := by decide +kernel
theorem pn_ok : ((List.range 338).all fun m => decide ((parseMethodDescriptor (ynm m).desc).map (fun d => d.parameters.length) = some (pn m))) = true := by decide +kernel
/-! each method's code is what its bytes say; its pool entries are what the tables say -/
/-- instructions by numbers: cheap to compare -/
def prs2 : List Int → List (Int × Int)
  | a :: b :: r => (a, b) :: prs2 r
  | _ => []
theorem prs2_flat (l : List (Int × Int)) : prs2 (l.flatMap (fun q => [q.1, q.2])) = l := by
  induction l with
  | nil => rfl
  | cons a l ih =>
    show prs2 (a.1 :: a.2 :: l.flatMap _) = _
    rw [prs2, ih]
def encI (i : Instr) : List Int := match i with
  | .aaload => [1]
  | .aastore => [2]
  | .aconst_null => [3]
  | .areturn => [4]
  | .arraylength => [5]
  | .athrow => [6]
  | .baload => [7]
  | .bastore => [8]
  | .dup => [9]
  | .dup2 => [10]
  | .i2b => [11]
  | .i2c => [12]
  | .i2l => [13]
  | .iadd => [14]
  | .iaload => [15]
  | .iand => [16]
  | .iastore => [17]
  | .idiv => [18]
  | .imul => [19]
  | .ior => [20]
  | .irem => [21]
  | .ireturn => [22]
  | .ishl => [23]
  | .ishr => [24]
  | .isub => [25]
  | .iushr => [26]
  | .ixor => [27]
  | .l2i => [28]
  | .ladd => [29]
  | .laload => [30]
  | .land => [31]
  | .lastore => [32]
  | .lcmp => [33]
  | .ldiv => [34]
  | .lmul => [35]
  | .lneg => [36]
  | .lor => [37]
  | .lrem => [38]
  | .lreturn => [39]
  | .lshl => [40]
  | .lsub => [41]
  | .lushr => [42]
  | .lxor => [96]
  | .pop => [43]
  | .pop2 => [44]
  | .return_ => [45]
  | .aload a => [46, a]
  | .anewarray a => [47, a]
  | .astore a => [48, a]
  | .checkcast a => [49, a]
  | .getfield a => [50, a]
  | .getstatic a => [51, a]
  | .iload a => [52, a]
  | .invokespecial a => [53, a]
  | .invokestatic a => [54, a]
  | .invokevirtual a => [55, a]
  | .istore a => [56, a]
  | .ldc a => [57, a]
  | .ldc_w a => [58, a]
  | .ldc2_w a => [59, a]
  | .lload a => [60, a]
  | .lstore a => [61, a]
  | .new a => [62, a]
  | .putfield a => [63, a]
  | .bipush a => [64, a]
  | .sipush a => [65, a]
  | .iconst a => [66, a]
  | .goto a => [67, a]
  | .ifnull a => [68, a]
  | .ifnonnull a => [69, a]
  | .aload_n a => [70, a.val]
  | .astore_n a => [71, a.val]
  | .iload_n a => [72, a.val]
  | .istore_n a => [73, a.val]
  | .lload_n a => [74, a.val]
  | .lstore_n a => [75, a.val]
  | .ifCond .eq a => [76, a]
  | .ifCond .ne a => [77, a]
  | .ifCond .lt a => [78, a]
  | .ifCond .ge a => [79, a]
  | .ifCond .gt a => [80, a]
  | .ifCond .le a => [81, a]
  | .if_icmp .eq a => [82, a]
  | .if_icmp .ne a => [83, a]
  | .if_icmp .lt a => [84, a]
  | .if_icmp .ge a => [85, a]
  | .if_icmp .gt a => [86, a]
  | .if_icmp .le a => [87, a]
  | .lconst a => [88, a.val]
  | .newarray .boolean => [89]
  | .newarray .byte => [90]
  | .newarray .int => [91]
  | .newarray .long => [92]
  | .iinc a b => [93, a, b]
  | .tableswitch d lo hi os => 94 :: d :: lo :: hi :: os.toList
  | .lookupswitch d ps => 95 :: d :: ps.toList.flatMap (fun q => [q.1, q.2])
  | _ => []
def decI (l : List Int) : Option Instr := match l with
  | [] => none
  | k :: r =>
    if k = 1 then some .aaload else
    if k = 2 then some .aastore else
    if k = 3 then some .aconst_null else
    if k = 4 then some .areturn else
    if k = 5 then some .arraylength else
    if k = 6 then some .athrow else
    if k = 7 then some .baload else
    if k = 8 then some .bastore else
    if k = 9 then some .dup else
    if k = 10 then some .dup2 else
    if k = 11 then some .i2b else
    if k = 12 then some .i2c else
    if k = 13 then some .i2l else
    if k = 14 then some .iadd else
    if k = 15 then some .iaload else
    if k = 16 then some .iand else
    if k = 17 then some .iastore else
    if k = 18 then some .idiv else
    if k = 19 then some .imul else
    if k = 20 then some .ior else
    if k = 21 then some .irem else
    if k = 22 then some .ireturn else
    if k = 23 then some .ishl else
    if k = 24 then some .ishr else
    if k = 25 then some .isub else
    if k = 26 then some .iushr else
    if k = 27 then some .ixor else
    if k = 28 then some .l2i else
    if k = 29 then some .ladd else
    if k = 30 then some .laload else
    if k = 31 then some .land else
    if k = 32 then some .lastore else
    if k = 33 then some .lcmp else
    if k = 34 then some .ldiv else
    if k = 35 then some .lmul else
    if k = 36 then some .lneg else
    if k = 37 then some .lor else
    if k = 38 then some .lrem else
    if k = 39 then some .lreturn else
    if k = 40 then some .lshl else
    if k = 41 then some .lsub else
    if k = 42 then some .lushr else
    if k = 96 then some .lxor else
    if k = 43 then some .pop else
    if k = 44 then some .pop2 else
    if k = 45 then some .return_ else
    if k = 46 then some (.aload (r.headD 0).toNat) else
    if k = 47 then some (.anewarray (r.headD 0).toNat) else
    if k = 48 then some (.astore (r.headD 0).toNat) else
    if k = 49 then some (.checkcast (r.headD 0).toNat) else
    if k = 50 then some (.getfield (r.headD 0).toNat) else
    if k = 51 then some (.getstatic (r.headD 0).toNat) else
    if k = 52 then some (.iload (r.headD 0).toNat) else
    if k = 53 then some (.invokespecial (r.headD 0).toNat) else
    if k = 54 then some (.invokestatic (r.headD 0).toNat) else
    if k = 55 then some (.invokevirtual (r.headD 0).toNat) else
    if k = 56 then some (.istore (r.headD 0).toNat) else
    if k = 57 then some (.ldc (r.headD 0).toNat) else
    if k = 58 then some (.ldc_w (r.headD 0).toNat) else
    if k = 59 then some (.ldc2_w (r.headD 0).toNat) else
    if k = 60 then some (.lload (r.headD 0).toNat) else
    if k = 61 then some (.lstore (r.headD 0).toNat) else
    if k = 62 then some (.new (r.headD 0).toNat) else
    if k = 63 then some (.putfield (r.headD 0).toNat) else
    if k = 64 then some (.bipush (r.headD 0)) else
    if k = 65 then some (.sipush (r.headD 0)) else
    if k = 66 then some (.iconst (r.headD 0)) else
    if k = 67 then some (.goto (r.headD 0)) else
    if k = 68 then some (.ifnull (r.headD 0)) else
    if k = 69 then some (.ifnonnull (r.headD 0)) else
    if k = 70 then (if h : (r.headD 0).toNat < 4 then some (.aload_n ⟨(r.headD 0).toNat, h⟩) else none) else
    if k = 71 then (if h : (r.headD 0).toNat < 4 then some (.astore_n ⟨(r.headD 0).toNat, h⟩) else none) else
    if k = 72 then (if h : (r.headD 0).toNat < 4 then some (.iload_n ⟨(r.headD 0).toNat, h⟩) else none) else
    if k = 73 then (if h : (r.headD 0).toNat < 4 then some (.istore_n ⟨(r.headD 0).toNat, h⟩) else none) else
    if k = 74 then (if h : (r.headD 0).toNat < 4 then some (.lload_n ⟨(r.headD 0).toNat, h⟩) else none) else
    if k = 75 then (if h : (r.headD 0).toNat < 4 then some (.lstore_n ⟨(r.headD 0).toNat, h⟩) else none) else
    if k = 76 then some (.ifCond .eq (r.headD 0)) else
    if k = 77 then some (.ifCond .ne (r.headD 0)) else
    if k = 78 then some (.ifCond .lt (r.headD 0)) else
    if k = 79 then some (.ifCond .ge (r.headD 0)) else
    if k = 80 then some (.ifCond .gt (r.headD 0)) else
    if k = 81 then some (.ifCond .le (r.headD 0)) else
    if k = 82 then some (.if_icmp .eq (r.headD 0)) else
    if k = 83 then some (.if_icmp .ne (r.headD 0)) else
    if k = 84 then some (.if_icmp .lt (r.headD 0)) else
    if k = 85 then some (.if_icmp .ge (r.headD 0)) else
    if k = 86 then some (.if_icmp .gt (r.headD 0)) else
    if k = 87 then some (.if_icmp .le (r.headD 0)) else
    if k = 88 then (if h : (r.headD 0).toNat < 2 then some (.lconst ⟨(r.headD 0).toNat, h⟩) else none) else
    if k = 89 then some (.newarray .boolean) else
    if k = 90 then some (.newarray .byte) else
    if k = 91 then some (.newarray .int) else
    if k = 92 then some (.newarray .long) else
    if k = 93 then some (.iinc (r.headD 0).toNat ((r.drop 1).headD 0)) else
    if k = 94 then some (.tableswitch (r.headD 0) ((r.drop 1).headD 0) ((r.drop 2).headD 0) (r.drop 3).toArray) else
    if k = 95 then some (.lookupswitch (r.headD 0) (prs2 (r.drop 1)).toArray) else
    none
set_option maxHeartbeats 4000000 in
theorem decI_encI (i : Instr) (h : encI i ≠ []) : decI (encI i) = some i := by
  cases i
  all_goals first
    | rfl
    | exact absurd rfl h
    | (rename_i c _; cases c <;> rfl)
    | (rename_i c; cases c <;> first | rfl | exact absurd rfl h)
    | (simp [encI, decI, prs2_flat])
theorem encI_inj {i j : Instr} (h : encI i = encI j) (h0 : (encI j).isEmpty = false) : i = j := by
  have hj : encI j ≠ [] := fun q => by rw [q] at h0; cases h0
  have h1 := decI_encI j hj
  rw [← h, decI_encI i (by rw [h]; exact hj)] at h1
  exact Option.some.inj h1
def eqI (i j : Instr) : Bool := decide (encI i = encI j) && !(encI j).isEmpty
theorem eqI_eq {i j : Instr} (h : eqI i j = true) : i = j := by
  unfold eqI at h
  rw [Bool.and_eq_true, decide_eq_true_eq, Bool.not_eq_true'] at h
  exact encI_inj h.1 h.2
def mtc (a b : Nat) (c d : Nat) : Bool := Nat.beq a c && Nat.beq b d
def okI (own : Nat) (ini : Bool) (pc : Nat) (i : Instr) (x : XI) : Bool := match i with
  | .iconst n => decide (-2147483648 ≤ n ∧ n ≤ 2147483647)
  | .bipush n => decide (-128 ≤ n ∧ n ≤ 127)
  | .sipush n => decide (-32768 ≤ n ∧ n ≤ 32767)
  | .getfield q => (match Nat.beq x.1 13 with
    | true => (skl.any fun e => mtc e.1 e.2.1 own q && Nat.beq e.2.2.1 x.2.1) && (match x.2.1 with
      | 0 => decide (x.2.2.1 = 2)
      | 1 => decide (x.2.2.1 = 3)
      | _ => false)
    | false => (fkl.any fun e => mtc e.1 e.2.1 own q && mtc e.2.2.1 e.2.2.2.1 x.1 x.2.1) && decide (x.2.2.1 = fcd x.1 x.2.1) && Nat.blt x.1 13 && Nat.blt x.2.1 (NN x.1))
  | .putfield q => (fkl.any fun e => mtc e.1 e.2.1 own q && mtc e.2.2.1 e.2.2.2.1 x.1 x.2.1 && (!(TT x.1 x.2.1).2.2.2 || (ini && !e.2.2.2.2.2 && Nat.beq own x.1))) && decide (x.2.2.1 = fcd x.1 x.2.1) && Nat.blt x.1 13 && Nat.blt x.2.1 (NN x.1)
  | .getstatic q => gkl.any fun e => mtc e.1 e.2.1 own q && (match e.2.2.1 with
    | 0 => decide (x = (1, 2, 0, 0))
    | 1 => decide (x = (1, 3, 0, 0))
    | 2 => decide (x = (0, 0, 1, 0))
    | 3 => decide (x = (1, 14, 0, 0))
    | _ => false)
  | .new q => (ckl.any fun e => mtc e.1 e.2.1 own q && Nat.beq e.2.2.1 x.1) && Nat.blt x.1 13 && Nat.beq x.2.1 (NN x.1)
  | .anewarray q => akl.any fun e => mtc e.1 e.2.1 own q && (match e.2.2.1 with
    | 9 => Nat.beq x.1 4
    | 1 => Nat.beq x.1 5
    | 2 => Nat.beq x.1 6
    | _ => false)
  | .checkcast q => kkl.any fun e => mtc e.1 e.2.1 own q && Nat.beq e.2.2.1 x.1 && (Nat.beq x.1 0 || Nat.beq x.1 2)
  | .ldc q => (match x.1 with
    | 0 => ikl.any fun e => mtc e.1 e.2.1 own q && decide (e.2.2.1 = x.2.2.1)
    | _ => Nat.ble 4 x.2.1 && Nat.blt x.2.1 9 && mtc (stl.getD (x.2.1 - 4) (0, 0, "")).1 (stl.getD (x.2.1 - 4) (0, 0, "")).2.1 own q)
  | .ldc_w q => ikl.any fun e => mtc e.1 e.2.1 own q && decide (e.2.2.1 = x.2.2.1)
  | .ldc2_w q => lkl.any fun e => mtc e.1 e.2.1 own q && decide (e.2.2.1 = x.2.2.1)
  | .goto o => decide (0 ≤ (pc : Int) + o)
  | .ifCond _ o => decide (0 ≤ (pc : Int) + o)
  | .if_icmp _ o => decide (0 ≤ (pc : Int) + o)
  | .ifnull o => decide (0 ≤ (pc : Int) + o)
  | .ifnonnull o => decide (0 ≤ (pc : Int) + o)
  | .tableswitch d lo hi offs => decide (0 ≤ (pc : Int) + d) && (offs.toList.all fun o => decide (0 ≤ (pc : Int) + o)) && decide (hi = lo + offs.toList.length - 1)
  | .lookupswitch d ps => decide (0 ≤ (pc : Int) + d) && (ps.toList.all fun q => decide (0 ≤ (pc : Int) + q.2)) && ((ps.toList.zip (ps.toList.drop 1)).all fun q => decide (q.1.1 < q.2.1))
  | .invokestatic q => (match Nat.ble 9990 x.1 with
    | true => (xkl.any fun e => mtc e.1 e.2.1 own q && Nat.beq e.2.2.1 x.1)
    | false => Nat.ble 9000 x.1 || ((mkl.any fun e => mtc e.1 e.2.1 own q && Nat.beq e.2.2.1 x.1) && Nat.beq (mw x.1).1 0 && Nat.beq x.2.1 (pn x.1) && Nat.ble 1 x.1 && Nat.blt x.1 338 && decide (x.2.2.1 = rcc x.1)))
  | .invokevirtual q => (match Nat.beq x.1 9998 with
    | true => cln.any fun e => mtc e.1 e.2.1 own q && Nat.beq e.2.2.1 x.2.2.2
    | false => Nat.ble 9000 x.1 || ((mkl.any fun e => mtc e.1 e.2.1 own q && Nat.beq e.2.2.1 x.1) && Nat.beq (mw x.1).1 1 && Nat.beq x.2.1 (pn x.1 + 1) && Nat.ble 1 x.1 && Nat.blt x.1 338 && decide (x.2.2.1 = rcc x.1) && Nat.beq x.2.2.2 (10 + ow x.1) && Nat.ble (ow x.1) 13))
  | .invokespecial q => (match Nat.beq x.1 9999 with
    | true => (obl.any fun e => mtc e.1 e.2.1 own q) && Nat.beq x.2.2.2 (10 + own) && Nat.blt own 13
    | false => Nat.ble 9000 x.1 || ((mkl.any fun e => mtc e.1 e.2.1 own q && Nat.beq e.2.2.1 x.1) && Nat.beq (mw x.1).1 2 && Nat.beq x.2.1 (pn x.1 + 1) && Nat.ble 1 x.1 && Nat.blt x.1 338 && Nat.beq (rtOf x.1) 9 && Nat.beq x.2.2.2 (10 + ow x.1) && Nat.ble (ow x.1) 12))
  | _ => true
def lenI (i : Instr) (d : Nat) : Nat := match i with
  | .iload _ => 2
  | .lload _ => 2
  | .aload _ => 2
  | .istore _ => 2
  | .lstore _ => 2
  | .astore _ => 2
  | .bipush _ => 2
  | .ldc _ => 2
  | .newarray _ => 2
  | .sipush _ => 3
  | .ldc_w _ => 3
  | .ldc2_w _ => 3
  | .iinc _ _ => 3
  | .ifCond _ _ => 3
  | .if_icmp _ _ => 3
  | .goto _ => 3
  | .ifnull _ => 3
  | .ifnonnull _ => 3
  | .getfield _ => 3
  | .putfield _ => 3
  | .getstatic _ => 3
  | .invokevirtual _ => 3
  | .invokespecial _ => 3
  | .invokestatic _ => 3
  | .new _ => 3
  | .anewarray _ => 3
  | .checkcast _ => 3
  | .tableswitch _ _ _ _ => d
  | .lookupswitch _ _ => d
  | _ => 1
def okC (b : ByteArray) (own : Nat) (ini : Bool) : List CE → Bool
  | [] => true
  | e :: r => (match decode b e.1 with
    | .ok (i, len) => eqI i e.2.2.1 && Nat.beq len (lenI i len) && (match r with
      | [] => true
      | e' :: _ => Nat.beq e'.1 (e.1 + len))
    | .error _ => false) && okI own ini e.1 e.2.2.1 e.2.2.2 && okC b own ini r
def iniM (m : Nat) : Bool := Nat.beq (mw m).1 2
def okM (m : Nat) : Bool := okC (byo m) (ow m) (iniM m) (csOf m)

def okS (b : ByteArray) (own : Nat) (ini : Bool) (nx : Nat) : List CE → Bool
  | [] => true
  | e :: r => (match decode b e.1 with
    | .ok (i, len) => eqI i e.2.2.1 && Nat.beq len (lenI i len) && (match r with
      | [] => Nat.beq nx (e.1 + len)
      | e' :: _ => Nat.beq e'.1 (e.1 + len))
    | .error _ => false) && okI own ini e.1 e.2.2.1 e.2.2.2 && okS b own ini nx r
theorem okC_app {b : ByteArray} {own : Nat} {ini : Bool} {e0 : CE} {r : List CE} (hr : okC b own ini (e0 :: r) = true) : ∀ l : List CE, okS b own ini e0.1 l = true → okC b own ini (l ++ e0 :: r) = true := by
  intro l
  induction l with
  | nil => intro _; exact hr
  | cons e l ih =>
    intro h
    unfold okS at h
    rw [Bool.and_eq_true, Bool.and_eq_true] at h
    show okC b own ini (e :: (l ++ e0 :: r)) = true
    unfold okC
    rw [Bool.and_eq_true, Bool.and_eq_true]
    refine ⟨⟨?_, h.1.2⟩, ih h.2⟩
    have h1 := h.1.1
    cases hd : decode b e.1 with
    | error _ => rw [hd] at h1; cases h1
    | ok q =>
      rw [hd] at h1
      cases l with
      | nil => exact h1
      | cons e' l => exact h1
set_option maxRecDepth 100000 in
theorem ol_30 : okC code 14 false cs_0_30 = true := by decide +kernel
def ll_29 : List CE := [(1938, 0, .iadd, (0, 0, 0, 0)),
  (1939, 0, .iaload, (0, 0, 0, 0)),
  (1940, 0, .invokevirtual 217, (66, 3, 0, 10)),
  (1943, 0, .pop, (0, 0, 0, 0)),
  (1944, 0, .aload_n 2, (0, 0, 0, 0)),
  (1945, 0, .aload_n 0, (0, 0, 0, 0)),
  (1946, 0, .iload_n 3, (0, 0, 0, 0)),
  (1947, 0, .iconst 1, (0, 0, 0, 0)),
  (1948, 0, .iadd, (0, 0, 0, 0)),
  (1949, 0, .iaload, (0, 0, 0, 0)),
  (1950, 0, .aload_n 0, (0, 0, 0, 0)),
  (1951, 0, .iload_n 3, (0, 0, 0, 0)),
  (1952, 0, .iconst 2, (0, 0, 0, 0)),
  (1953, 0, .iadd, (0, 0, 0, 0)),
  (1954, 0, .iaload, (0, 0, 0, 0)),
  (1955, 0, .invokevirtual 220, (316, 3, 0, 22)),
  (1958, 0, .pop, (0, 0, 0, 0)),
  (1959, 0, .goto 82, (0, 0, 0, 0)),
  (1962, 31, .aload_n 1, (0, 0, 0, 0)),
  (1963, 0, .aload_n 0, (0, 0, 0, 0)),
  (1964, 0, .iload_n 3, (0, 0, 0, 0)),
  (1965, 0, .iconst 1, (0, 0, 0, 0)),
  (1966, 0, .iadd, (0, 0, 0, 0)),
  (1967, 0, .iaload, (0, 0, 0, 0)),
  (1968, 0, .aload_n 0, (0, 0, 0, 0)),
  (1969, 0, .iload_n 3, (0, 0, 0, 0)),
  (1970, 0, .iconst 2, (0, 0, 0, 0)),
  (1971, 0, .iadd, (0, 0, 0, 0)),
  (1972, 0, .iaload, (0, 0, 0, 0)),
  (1973, 0, .invokevirtual 221, (67, 3, 0, 10)),
  (1976, 0, .pop, (0, 0, 0, 0)),
  (1977, 0, .aload_n 2, (0, 0, 0, 0)),
  (1978, 0, .aload_n 0, (0, 0, 0, 0)),
  (1979, 0, .iload_n 3, (0, 0, 0, 0)),
  (1980, 0, .iconst 1, (0, 0, 0, 0)),
  (1981, 0, .iadd, (0, 0, 0, 0)),
  (1982, 0, .iaload, (0, 0, 0, 0)),
  (1983, 0, .aload_n 0, (0, 0, 0, 0)),
  (1984, 0, .iload_n 3, (0, 0, 0, 0)),
  (1985, 0, .iconst 2, (0, 0, 0, 0)),
  (1986, 0, .iadd, (0, 0, 0, 0)),
  (1987, 0, .iaload, (0, 0, 0, 0)),
  (1988, 0, .invokevirtual 224, (317, 3, 0, 22)),
  (1991, 0, .pop, (0, 0, 0, 0)),
  (1992, 0, .goto 49, (0, 0, 0, 0)),
  (1995, 31, .aload_n 1, (0, 0, 0, 0)),
  (1996, 0, .aload_n 0, (0, 0, 0, 0)),
  (1997, 0, .iload_n 3, (0, 0, 0, 0))]
set_option maxRecDepth 100000 in
theorem os_29 : okS code 14 false 1998 ll_29 = true := by decide +kernel
theorem ol_29 : okC code 14 false cs_0_29 = true := okC_app ol_30 ll_29 os_29
def ll_28 : List CE := [(1878, 0, .iaload, (0, 0, 0, 0)),
  (1879, 0, .invokevirtual 209, (62, 2, 0, 10)),
  (1882, 0, .pop, (0, 0, 0, 0)),
  (1883, 0, .aload_n 2, (0, 0, 0, 0)),
  (1884, 0, .aload_n 0, (0, 0, 0, 0)),
  (1885, 0, .iload_n 3, (0, 0, 0, 0)),
  (1886, 0, .iconst 1, (0, 0, 0, 0)),
  (1887, 0, .iadd, (0, 0, 0, 0)),
  (1888, 0, .iaload, (0, 0, 0, 0)),
  (1889, 0, .invokevirtual 212, (311, 2, 0, 22)),
  (1892, 0, .pop, (0, 0, 0, 0)),
  (1893, 0, .goto 148, (0, 0, 0, 0)),
  (1896, 31, .aload_n 1, (0, 0, 0, 0)),
  (1897, 0, .aload_n 0, (0, 0, 0, 0)),
  (1898, 0, .iload_n 3, (0, 0, 0, 0)),
  (1899, 0, .iconst 1, (0, 0, 0, 0)),
  (1900, 0, .iadd, (0, 0, 0, 0)),
  (1901, 0, .iaload, (0, 0, 0, 0)),
  (1902, 0, .aload_n 0, (0, 0, 0, 0)),
  (1903, 0, .iload_n 3, (0, 0, 0, 0)),
  (1904, 0, .iconst 2, (0, 0, 0, 0)),
  (1905, 0, .iadd, (0, 0, 0, 0)),
  (1906, 0, .iaload, (0, 0, 0, 0)),
  (1907, 0, .invokevirtual 213, (63, 3, 0, 10)),
  (1910, 0, .pop, (0, 0, 0, 0)),
  (1911, 0, .aload_n 2, (0, 0, 0, 0)),
  (1912, 0, .aload_n 0, (0, 0, 0, 0)),
  (1913, 0, .iload_n 3, (0, 0, 0, 0)),
  (1914, 0, .iconst 1, (0, 0, 0, 0)),
  (1915, 0, .iadd, (0, 0, 0, 0)),
  (1916, 0, .iaload, (0, 0, 0, 0)),
  (1917, 0, .aload_n 0, (0, 0, 0, 0)),
  (1918, 0, .iload_n 3, (0, 0, 0, 0)),
  (1919, 0, .iconst 2, (0, 0, 0, 0)),
  (1920, 0, .iadd, (0, 0, 0, 0)),
  (1921, 0, .iaload, (0, 0, 0, 0)),
  (1922, 0, .invokevirtual 216, (313, 3, 0, 22)),
  (1925, 0, .pop, (0, 0, 0, 0)),
  (1926, 0, .goto 115, (0, 0, 0, 0)),
  (1929, 31, .aload_n 1, (0, 0, 0, 0)),
  (1930, 0, .aload_n 0, (0, 0, 0, 0)),
  (1931, 0, .iload_n 3, (0, 0, 0, 0)),
  (1932, 0, .iconst 1, (0, 0, 0, 0)),
  (1933, 0, .iadd, (0, 0, 0, 0)),
  (1934, 0, .iaload, (0, 0, 0, 0)),
  (1935, 0, .aload_n 0, (0, 0, 0, 0)),
  (1936, 0, .iload_n 3, (0, 0, 0, 0)),
  (1937, 0, .iconst 2, (0, 0, 0, 0))]
set_option maxRecDepth 100000 in
theorem os_28 : okS code 14 false 1938 ll_28 = true := by decide +kernel
theorem ol_28 : okC code 14 false cs_0_28 = true := okC_app ol_29 ll_28 os_28
def ll_27 : List CE := [(1820, 0, .iconst 2, (0, 0, 0, 0)),
  (1821, 0, .iadd, (0, 0, 0, 0)),
  (1822, 0, .iaload, (0, 0, 0, 0)),
  (1823, 0, .invokevirtual 204, (308, 3, 0, 22)),
  (1826, 0, .pop, (0, 0, 0, 0)),
  (1827, 0, .goto 214, (0, 0, 0, 0)),
  (1830, 31, .aload_n 1, (0, 0, 0, 0)),
  (1831, 0, .aload_n 0, (0, 0, 0, 0)),
  (1832, 0, .iload_n 3, (0, 0, 0, 0)),
  (1833, 0, .iconst 1, (0, 0, 0, 0)),
  (1834, 0, .iadd, (0, 0, 0, 0)),
  (1835, 0, .iaload, (0, 0, 0, 0)),
  (1836, 0, .aload_n 0, (0, 0, 0, 0)),
  (1837, 0, .iload_n 3, (0, 0, 0, 0)),
  (1838, 0, .iconst 2, (0, 0, 0, 0)),
  (1839, 0, .iadd, (0, 0, 0, 0)),
  (1840, 0, .iaload, (0, 0, 0, 0)),
  (1841, 0, .aload_n 0, (0, 0, 0, 0)),
  (1842, 0, .iload_n 3, (0, 0, 0, 0)),
  (1843, 0, .iconst 3, (0, 0, 0, 0)),
  (1844, 0, .iadd, (0, 0, 0, 0)),
  (1845, 0, .iaload, (0, 0, 0, 0)),
  (1846, 0, .invokevirtual 205, (61, 4, 1, 10)),
  (1849, 0, .pop2, (0, 0, 0, 0)),
  (1850, 0, .aload_n 2, (0, 0, 0, 0)),
  (1851, 0, .aload_n 0, (0, 0, 0, 0)),
  (1852, 0, .iload_n 3, (0, 0, 0, 0)),
  (1853, 0, .iconst 1, (0, 0, 0, 0)),
  (1854, 0, .iadd, (0, 0, 0, 0)),
  (1855, 0, .iaload, (0, 0, 0, 0)),
  (1856, 0, .aload_n 0, (0, 0, 0, 0)),
  (1857, 0, .iload_n 3, (0, 0, 0, 0)),
  (1858, 0, .iconst 2, (0, 0, 0, 0)),
  (1859, 0, .iadd, (0, 0, 0, 0)),
  (1860, 0, .iaload, (0, 0, 0, 0)),
  (1861, 0, .aload_n 0, (0, 0, 0, 0)),
  (1862, 0, .iload_n 3, (0, 0, 0, 0)),
  (1863, 0, .iconst 3, (0, 0, 0, 0)),
  (1864, 0, .iadd, (0, 0, 0, 0)),
  (1865, 0, .iaload, (0, 0, 0, 0)),
  (1866, 0, .invokevirtual 208, (309, 4, 1, 22)),
  (1869, 0, .pop2, (0, 0, 0, 0)),
  (1870, 0, .goto 171, (0, 0, 0, 0)),
  (1873, 31, .aload_n 1, (0, 0, 0, 0)),
  (1874, 0, .aload_n 0, (0, 0, 0, 0)),
  (1875, 0, .iload_n 3, (0, 0, 0, 0)),
  (1876, 0, .iconst 1, (0, 0, 0, 0)),
  (1877, 0, .iadd, (0, 0, 0, 0))]
set_option maxRecDepth 100000 in
theorem os_27 : okS code 14 false 1878 ll_27 = true := by decide +kernel
theorem ol_27 : okC code 14 false cs_0_27 = true := okC_app ol_28 ll_27 os_27
def ll_26 : List CE := [(1760, 0, .pop2, (0, 0, 0, 0)),
  (1761, 0, .aload_n 2, (0, 0, 0, 0)),
  (1762, 0, .aload_n 0, (0, 0, 0, 0)),
  (1763, 0, .iload_n 3, (0, 0, 0, 0)),
  (1764, 0, .iconst 1, (0, 0, 0, 0)),
  (1765, 0, .iadd, (0, 0, 0, 0)),
  (1766, 0, .iaload, (0, 0, 0, 0)),
  (1767, 0, .invokevirtual 196, (306, 2, 1, 22)),
  (1770, 0, .pop2, (0, 0, 0, 0)),
  (1771, 0, .goto 270, (0, 0, 0, 0)),
  (1774, 31, .aload_n 1, (0, 0, 0, 0)),
  (1775, 0, .aload_n 0, (0, 0, 0, 0)),
  (1776, 0, .iload_n 3, (0, 0, 0, 0)),
  (1777, 0, .iconst 1, (0, 0, 0, 0)),
  (1778, 0, .iadd, (0, 0, 0, 0)),
  (1779, 0, .iaload, (0, 0, 0, 0)),
  (1780, 0, .invokevirtual 197, (59, 2, 1, 10)),
  (1783, 0, .pop2, (0, 0, 0, 0)),
  (1784, 0, .aload_n 2, (0, 0, 0, 0)),
  (1785, 0, .aload_n 0, (0, 0, 0, 0)),
  (1786, 0, .iload_n 3, (0, 0, 0, 0)),
  (1787, 0, .iconst 1, (0, 0, 0, 0)),
  (1788, 0, .iadd, (0, 0, 0, 0)),
  (1789, 0, .iaload, (0, 0, 0, 0)),
  (1790, 0, .invokevirtual 200, (307, 2, 1, 22)),
  (1793, 0, .pop2, (0, 0, 0, 0)),
  (1794, 0, .goto 247, (0, 0, 0, 0)),
  (1797, 31, .aload_n 1, (0, 0, 0, 0)),
  (1798, 0, .aload_n 0, (0, 0, 0, 0)),
  (1799, 0, .iload_n 3, (0, 0, 0, 0)),
  (1800, 0, .iconst 1, (0, 0, 0, 0)),
  (1801, 0, .iadd, (0, 0, 0, 0)),
  (1802, 0, .iaload, (0, 0, 0, 0)),
  (1803, 0, .aload_n 0, (0, 0, 0, 0)),
  (1804, 0, .iload_n 3, (0, 0, 0, 0)),
  (1805, 0, .iconst 2, (0, 0, 0, 0)),
  (1806, 0, .iadd, (0, 0, 0, 0)),
  (1807, 0, .iaload, (0, 0, 0, 0)),
  (1808, 0, .invokevirtual 201, (60, 3, 0, 10)),
  (1811, 0, .pop, (0, 0, 0, 0)),
  (1812, 0, .aload_n 2, (0, 0, 0, 0)),
  (1813, 0, .aload_n 0, (0, 0, 0, 0)),
  (1814, 0, .iload_n 3, (0, 0, 0, 0)),
  (1815, 0, .iconst 1, (0, 0, 0, 0)),
  (1816, 0, .iadd, (0, 0, 0, 0)),
  (1817, 0, .iaload, (0, 0, 0, 0)),
  (1818, 0, .aload_n 0, (0, 0, 0, 0)),
  (1819, 0, .iload_n 3, (0, 0, 0, 0))]
set_option maxRecDepth 100000 in
theorem os_26 : okS code 14 false 1820 ll_26 = true := by decide +kernel
theorem ol_26 : okC code 14 false cs_0_26 = true := okC_app ol_27 ll_26 os_26
def ll_25 : List CE := [(1692, 0, .iconst 1, (0, 0, 0, 0)),
  (1693, 0, .iadd, (0, 0, 0, 0)),
  (1694, 0, .iaload, (0, 0, 0, 0)),
  (1695, 0, .invokevirtual 187, (303, 2, 0, 22)),
  (1698, 0, .pop, (0, 0, 0, 0)),
  (1699, 0, .goto 342, (0, 0, 0, 0)),
  (1702, 31, .aload_n 1, (0, 0, 0, 0)),
  (1703, 0, .aload_n 0, (0, 0, 0, 0)),
  (1704, 0, .iload_n 3, (0, 0, 0, 0)),
  (1705, 0, .iconst 1, (0, 0, 0, 0)),
  (1706, 0, .iadd, (0, 0, 0, 0)),
  (1707, 0, .iaload, (0, 0, 0, 0)),
  (1708, 0, .aload_n 0, (0, 0, 0, 0)),
  (1709, 0, .iload_n 3, (0, 0, 0, 0)),
  (1710, 0, .iconst 2, (0, 0, 0, 0)),
  (1711, 0, .iadd, (0, 0, 0, 0)),
  (1712, 0, .iaload, (0, 0, 0, 0)),
  (1713, 0, .ifCond .eq 7, (0, 0, 0, 0)),
  (1716, 0, .iconst 1, (0, 0, 0, 0)),
  (1717, 0, .goto 4, (0, 0, 0, 0)),
  (1720, 0, .iconst 0, (0, 0, 0, 0)),
  (1721, 31, .invokevirtual 188, (56, 3, 0, 10)),
  (1724, 0, .pop, (0, 0, 0, 0)),
  (1725, 0, .aload_n 2, (0, 0, 0, 0)),
  (1726, 0, .aload_n 0, (0, 0, 0, 0)),
  (1727, 0, .iload_n 3, (0, 0, 0, 0)),
  (1728, 0, .iconst 1, (0, 0, 0, 0)),
  (1729, 0, .iadd, (0, 0, 0, 0)),
  (1730, 0, .iaload, (0, 0, 0, 0)),
  (1731, 0, .aload_n 0, (0, 0, 0, 0)),
  (1732, 0, .iload_n 3, (0, 0, 0, 0)),
  (1733, 0, .iconst 2, (0, 0, 0, 0)),
  (1734, 0, .iadd, (0, 0, 0, 0)),
  (1735, 0, .iaload, (0, 0, 0, 0)),
  (1736, 0, .ifCond .eq 7, (0, 0, 0, 0)),
  (1739, 0, .iconst 1, (0, 0, 0, 0)),
  (1740, 0, .goto 4, (0, 0, 0, 0)),
  (1743, 0, .iconst 0, (0, 0, 0, 0)),
  (1744, 0, .invokevirtual 192, (304, 3, 0, 22)),
  (1747, 0, .pop, (0, 0, 0, 0)),
  (1748, 0, .goto 293, (0, 0, 0, 0)),
  (1751, 31, .aload_n 1, (0, 0, 0, 0)),
  (1752, 0, .aload_n 0, (0, 0, 0, 0)),
  (1753, 0, .iload_n 3, (0, 0, 0, 0)),
  (1754, 0, .iconst 1, (0, 0, 0, 0)),
  (1755, 0, .iadd, (0, 0, 0, 0)),
  (1756, 0, .iaload, (0, 0, 0, 0)),
  (1757, 0, .invokevirtual 193, (57, 2, 1, 10))]
set_option maxRecDepth 100000 in
theorem os_25 : okS code 14 false 1760 ll_25 = true := by decide +kernel
theorem ol_25 : okC code 14 false cs_0_25 = true := okC_app ol_26 ll_25 os_25
def ll_24 : List CE := [(1632, 0, .iadd, (0, 0, 0, 0)),
  (1633, 0, .iaload, (0, 0, 0, 0)),
  (1634, 0, .aload_n 0, (0, 0, 0, 0)),
  (1635, 0, .iload_n 3, (0, 0, 0, 0)),
  (1636, 0, .iconst 2, (0, 0, 0, 0)),
  (1637, 0, .iadd, (0, 0, 0, 0)),
  (1638, 0, .iaload, (0, 0, 0, 0)),
  (1639, 0, .invokevirtual 179, (301, 3, 0, 22)),
  (1642, 0, .pop, (0, 0, 0, 0)),
  (1643, 0, .goto 398, (0, 0, 0, 0)),
  (1646, 31, .aload_n 1, (0, 0, 0, 0)),
  (1647, 0, .aload_n 0, (0, 0, 0, 0)),
  (1648, 0, .iload_n 3, (0, 0, 0, 0)),
  (1649, 0, .iconst 1, (0, 0, 0, 0)),
  (1650, 0, .iadd, (0, 0, 0, 0)),
  (1651, 0, .iaload, (0, 0, 0, 0)),
  (1652, 0, .aload_n 0, (0, 0, 0, 0)),
  (1653, 0, .iload_n 3, (0, 0, 0, 0)),
  (1654, 0, .iconst 2, (0, 0, 0, 0)),
  (1655, 0, .iadd, (0, 0, 0, 0)),
  (1656, 0, .iaload, (0, 0, 0, 0)),
  (1657, 0, .invokevirtual 180, (54, 3, 1, 10)),
  (1660, 0, .pop2, (0, 0, 0, 0)),
  (1661, 0, .aload_n 2, (0, 0, 0, 0)),
  (1662, 0, .aload_n 0, (0, 0, 0, 0)),
  (1663, 0, .iload_n 3, (0, 0, 0, 0)),
  (1664, 0, .iconst 1, (0, 0, 0, 0)),
  (1665, 0, .iadd, (0, 0, 0, 0)),
  (1666, 0, .iaload, (0, 0, 0, 0)),
  (1667, 0, .aload_n 0, (0, 0, 0, 0)),
  (1668, 0, .iload_n 3, (0, 0, 0, 0)),
  (1669, 0, .iconst 2, (0, 0, 0, 0)),
  (1670, 0, .iadd, (0, 0, 0, 0)),
  (1671, 0, .iaload, (0, 0, 0, 0)),
  (1672, 0, .invokevirtual 183, (302, 3, 1, 22)),
  (1675, 0, .pop2, (0, 0, 0, 0)),
  (1676, 0, .goto 365, (0, 0, 0, 0)),
  (1679, 31, .aload_n 1, (0, 0, 0, 0)),
  (1680, 0, .aload_n 0, (0, 0, 0, 0)),
  (1681, 0, .iload_n 3, (0, 0, 0, 0)),
  (1682, 0, .iconst 1, (0, 0, 0, 0)),
  (1683, 0, .iadd, (0, 0, 0, 0)),
  (1684, 0, .iaload, (0, 0, 0, 0)),
  (1685, 0, .invokevirtual 184, (55, 2, 0, 10)),
  (1688, 0, .pop, (0, 0, 0, 0)),
  (1689, 0, .aload_n 2, (0, 0, 0, 0)),
  (1690, 0, .aload_n 0, (0, 0, 0, 0)),
  (1691, 0, .iload_n 3, (0, 0, 0, 0))]
set_option maxRecDepth 100000 in
theorem os_24 : okS code 14 false 1692 ll_24 = true := by decide +kernel
theorem ol_24 : okC code 14 false cs_0_24 = true := okC_app ol_25 ll_24 os_24
def ll_23 : List CE := [(1572, 0, .iaload, (0, 0, 0, 0)),
  (1573, 0, .invokevirtual 171, (299, 4, 0, 22)),
  (1576, 0, .pop, (0, 0, 0, 0)),
  (1577, 0, .goto 464, (0, 0, 0, 0)),
  (1580, 31, .aload_n 1, (0, 0, 0, 0)),
  (1581, 0, .aload_n 0, (0, 0, 0, 0)),
  (1582, 0, .iload_n 3, (0, 0, 0, 0)),
  (1583, 0, .iconst 1, (0, 0, 0, 0)),
  (1584, 0, .iadd, (0, 0, 0, 0)),
  (1585, 0, .iaload, (0, 0, 0, 0)),
  (1586, 0, .aload_n 0, (0, 0, 0, 0)),
  (1587, 0, .iload_n 3, (0, 0, 0, 0)),
  (1588, 0, .iconst 2, (0, 0, 0, 0)),
  (1589, 0, .iadd, (0, 0, 0, 0)),
  (1590, 0, .iaload, (0, 0, 0, 0)),
  (1591, 0, .invokevirtual 172, (52, 3, 0, 10)),
  (1594, 0, .pop, (0, 0, 0, 0)),
  (1595, 0, .aload_n 2, (0, 0, 0, 0)),
  (1596, 0, .aload_n 0, (0, 0, 0, 0)),
  (1597, 0, .iload_n 3, (0, 0, 0, 0)),
  (1598, 0, .iconst 1, (0, 0, 0, 0)),
  (1599, 0, .iadd, (0, 0, 0, 0)),
  (1600, 0, .iaload, (0, 0, 0, 0)),
  (1601, 0, .aload_n 0, (0, 0, 0, 0)),
  (1602, 0, .iload_n 3, (0, 0, 0, 0)),
  (1603, 0, .iconst 2, (0, 0, 0, 0)),
  (1604, 0, .iadd, (0, 0, 0, 0)),
  (1605, 0, .iaload, (0, 0, 0, 0)),
  (1606, 0, .invokevirtual 175, (300, 3, 0, 22)),
  (1609, 0, .pop, (0, 0, 0, 0)),
  (1610, 0, .goto 431, (0, 0, 0, 0)),
  (1613, 31, .aload_n 1, (0, 0, 0, 0)),
  (1614, 0, .aload_n 0, (0, 0, 0, 0)),
  (1615, 0, .iload_n 3, (0, 0, 0, 0)),
  (1616, 0, .iconst 1, (0, 0, 0, 0)),
  (1617, 0, .iadd, (0, 0, 0, 0)),
  (1618, 0, .iaload, (0, 0, 0, 0)),
  (1619, 0, .aload_n 0, (0, 0, 0, 0)),
  (1620, 0, .iload_n 3, (0, 0, 0, 0)),
  (1621, 0, .iconst 2, (0, 0, 0, 0)),
  (1622, 0, .iadd, (0, 0, 0, 0)),
  (1623, 0, .iaload, (0, 0, 0, 0)),
  (1624, 0, .invokevirtual 176, (53, 3, 0, 10)),
  (1627, 0, .pop, (0, 0, 0, 0)),
  (1628, 0, .aload_n 2, (0, 0, 0, 0)),
  (1629, 0, .aload_n 0, (0, 0, 0, 0)),
  (1630, 0, .iload_n 3, (0, 0, 0, 0)),
  (1631, 0, .iconst 1, (0, 0, 0, 0))]
set_option maxRecDepth 100000 in
theorem os_23 : okS code 14 false 1632 ll_23 = true := by decide +kernel
theorem ol_23 : okC code 14 false cs_0_23 = true := okC_app ol_24 ll_23 os_23
def ll_22 : List CE := [(1518, 0, .pop2, (0, 0, 0, 0)),
  (1519, 0, .aload_n 2, (0, 0, 0, 0)),
  (1520, 0, .aload_n 0, (0, 0, 0, 0)),
  (1521, 0, .iload_n 3, (0, 0, 0, 0)),
  (1522, 0, .iconst 1, (0, 0, 0, 0)),
  (1523, 0, .iadd, (0, 0, 0, 0)),
  (1524, 0, .iaload, (0, 0, 0, 0)),
  (1525, 0, .aload_n 0, (0, 0, 0, 0)),
  (1526, 0, .iload_n 3, (0, 0, 0, 0)),
  (1527, 0, .iconst 2, (0, 0, 0, 0)),
  (1528, 0, .iadd, (0, 0, 0, 0)),
  (1529, 0, .iaload, (0, 0, 0, 0)),
  (1530, 0, .invokevirtual 167, (298, 3, 1, 22)),
  (1533, 0, .pop2, (0, 0, 0, 0)),
  (1534, 0, .goto 507, (0, 0, 0, 0)),
  (1537, 31, .aload_n 1, (0, 0, 0, 0)),
  (1538, 0, .aload_n 0, (0, 0, 0, 0)),
  (1539, 0, .iload_n 3, (0, 0, 0, 0)),
  (1540, 0, .iconst 1, (0, 0, 0, 0)),
  (1541, 0, .iadd, (0, 0, 0, 0)),
  (1542, 0, .iaload, (0, 0, 0, 0)),
  (1543, 0, .aload_n 0, (0, 0, 0, 0)),
  (1544, 0, .iload_n 3, (0, 0, 0, 0)),
  (1545, 0, .iconst 2, (0, 0, 0, 0)),
  (1546, 0, .iadd, (0, 0, 0, 0)),
  (1547, 0, .iaload, (0, 0, 0, 0)),
  (1548, 0, .aload_n 0, (0, 0, 0, 0)),
  (1549, 0, .iload_n 3, (0, 0, 0, 0)),
  (1550, 0, .iconst 3, (0, 0, 0, 0)),
  (1551, 0, .iadd, (0, 0, 0, 0)),
  (1552, 0, .iaload, (0, 0, 0, 0)),
  (1553, 0, .invokevirtual 168, (51, 4, 0, 10)),
  (1556, 0, .pop, (0, 0, 0, 0)),
  (1557, 0, .aload_n 2, (0, 0, 0, 0)),
  (1558, 0, .aload_n 0, (0, 0, 0, 0)),
  (1559, 0, .iload_n 3, (0, 0, 0, 0)),
  (1560, 0, .iconst 1, (0, 0, 0, 0)),
  (1561, 0, .iadd, (0, 0, 0, 0)),
  (1562, 0, .iaload, (0, 0, 0, 0)),
  (1563, 0, .aload_n 0, (0, 0, 0, 0)),
  (1564, 0, .iload_n 3, (0, 0, 0, 0)),
  (1565, 0, .iconst 2, (0, 0, 0, 0)),
  (1566, 0, .iadd, (0, 0, 0, 0)),
  (1567, 0, .iaload, (0, 0, 0, 0)),
  (1568, 0, .aload_n 0, (0, 0, 0, 0)),
  (1569, 0, .iload_n 3, (0, 0, 0, 0)),
  (1570, 0, .iconst 3, (0, 0, 0, 0)),
  (1571, 0, .iadd, (0, 0, 0, 0))]
set_option maxRecDepth 100000 in
theorem os_22 : okS code 14 false 1572 ll_22 = true := by decide +kernel
theorem ol_22 : okC code 14 false cs_0_22 = true := okC_app ol_23 ll_22 os_22
def ll_21 : List CE := [(1454, 0, .pop, (0, 0, 0, 0)),
  (1455, 0, .aload_n 2, (0, 0, 0, 0)),
  (1456, 0, .aload_n 0, (0, 0, 0, 0)),
  (1457, 0, .iload_n 3, (0, 0, 0, 0)),
  (1458, 0, .iconst 1, (0, 0, 0, 0)),
  (1459, 0, .iadd, (0, 0, 0, 0)),
  (1460, 0, .iaload, (0, 0, 0, 0)),
  (1461, 0, .aload_n 0, (0, 0, 0, 0)),
  (1462, 0, .iload_n 3, (0, 0, 0, 0)),
  (1463, 0, .iconst 2, (0, 0, 0, 0)),
  (1464, 0, .iadd, (0, 0, 0, 0)),
  (1465, 0, .iaload, (0, 0, 0, 0)),
  (1466, 0, .ifCond .eq 7, (0, 0, 0, 0)),
  (1469, 0, .iconst 1, (0, 0, 0, 0)),
  (1470, 0, .goto 4, (0, 0, 0, 0)),
  (1473, 0, .iconst 0, (0, 0, 0, 0)),
  (1474, 0, .invokevirtual 159, (293, 3, 0, 22)),
  (1477, 0, .pop, (0, 0, 0, 0)),
  (1478, 0, .goto 563, (0, 0, 0, 0)),
  (1481, 31, .aload_n 1, (0, 0, 0, 0)),
  (1482, 0, .aload_n 0, (0, 0, 0, 0)),
  (1483, 0, .iload_n 3, (0, 0, 0, 0)),
  (1484, 0, .iconst 1, (0, 0, 0, 0)),
  (1485, 0, .iadd, (0, 0, 0, 0)),
  (1486, 0, .iaload, (0, 0, 0, 0)),
  (1487, 0, .invokevirtual 160, (49, 2, 0, 10)),
  (1490, 0, .pop, (0, 0, 0, 0)),
  (1491, 0, .aload_n 2, (0, 0, 0, 0)),
  (1492, 0, .aload_n 0, (0, 0, 0, 0)),
  (1493, 0, .iload_n 3, (0, 0, 0, 0)),
  (1494, 0, .iconst 1, (0, 0, 0, 0)),
  (1495, 0, .iadd, (0, 0, 0, 0)),
  (1496, 0, .iaload, (0, 0, 0, 0)),
  (1497, 0, .invokevirtual 163, (296, 2, 0, 22)),
  (1500, 0, .pop, (0, 0, 0, 0)),
  (1501, 0, .goto 540, (0, 0, 0, 0)),
  (1504, 31, .aload_n 1, (0, 0, 0, 0)),
  (1505, 0, .aload_n 0, (0, 0, 0, 0)),
  (1506, 0, .iload_n 3, (0, 0, 0, 0)),
  (1507, 0, .iconst 1, (0, 0, 0, 0)),
  (1508, 0, .iadd, (0, 0, 0, 0)),
  (1509, 0, .iaload, (0, 0, 0, 0)),
  (1510, 0, .aload_n 0, (0, 0, 0, 0)),
  (1511, 0, .iload_n 3, (0, 0, 0, 0)),
  (1512, 0, .iconst 2, (0, 0, 0, 0)),
  (1513, 0, .iadd, (0, 0, 0, 0)),
  (1514, 0, .iaload, (0, 0, 0, 0)),
  (1515, 0, .invokevirtual 164, (50, 3, 1, 10))]
set_option maxRecDepth 100000 in
theorem os_21 : okS code 14 false 1518 ll_21 = true := by decide +kernel
theorem ol_21 : okC code 14 false cs_0_21 = true := okC_app ol_22 ll_21 os_21
def ll_20 : List CE := [(1390, 0, .iadd, (0, 0, 0, 0)),
  (1391, 0, .iaload, (0, 0, 0, 0)),
  (1392, 0, .invokevirtual 150, (291, 2, 1, 22)),
  (1395, 0, .pop2, (0, 0, 0, 0)),
  (1396, 0, .goto 645, (0, 0, 0, 0)),
  (1399, 31, .aload_n 1, (0, 0, 0, 0)),
  (1400, 0, .aload_n 0, (0, 0, 0, 0)),
  (1401, 0, .iload_n 3, (0, 0, 0, 0)),
  (1402, 0, .iconst 1, (0, 0, 0, 0)),
  (1403, 0, .iadd, (0, 0, 0, 0)),
  (1404, 0, .iaload, (0, 0, 0, 0)),
  (1405, 0, .aload_n 0, (0, 0, 0, 0)),
  (1406, 0, .iload_n 3, (0, 0, 0, 0)),
  (1407, 0, .iconst 2, (0, 0, 0, 0)),
  (1408, 0, .iadd, (0, 0, 0, 0)),
  (1409, 0, .iaload, (0, 0, 0, 0)),
  (1410, 0, .invokevirtual 151, (47, 3, 0, 10)),
  (1413, 0, .pop, (0, 0, 0, 0)),
  (1414, 0, .aload_n 2, (0, 0, 0, 0)),
  (1415, 0, .aload_n 0, (0, 0, 0, 0)),
  (1416, 0, .iload_n 3, (0, 0, 0, 0)),
  (1417, 0, .iconst 1, (0, 0, 0, 0)),
  (1418, 0, .iadd, (0, 0, 0, 0)),
  (1419, 0, .iaload, (0, 0, 0, 0)),
  (1420, 0, .aload_n 0, (0, 0, 0, 0)),
  (1421, 0, .iload_n 3, (0, 0, 0, 0)),
  (1422, 0, .iconst 2, (0, 0, 0, 0)),
  (1423, 0, .iadd, (0, 0, 0, 0)),
  (1424, 0, .iaload, (0, 0, 0, 0)),
  (1425, 0, .invokevirtual 154, (292, 3, 0, 22)),
  (1428, 0, .pop, (0, 0, 0, 0)),
  (1429, 0, .goto 612, (0, 0, 0, 0)),
  (1432, 31, .aload_n 1, (0, 0, 0, 0)),
  (1433, 0, .aload_n 0, (0, 0, 0, 0)),
  (1434, 0, .iload_n 3, (0, 0, 0, 0)),
  (1435, 0, .iconst 1, (0, 0, 0, 0)),
  (1436, 0, .iadd, (0, 0, 0, 0)),
  (1437, 0, .iaload, (0, 0, 0, 0)),
  (1438, 0, .aload_n 0, (0, 0, 0, 0)),
  (1439, 0, .iload_n 3, (0, 0, 0, 0)),
  (1440, 0, .iconst 2, (0, 0, 0, 0)),
  (1441, 0, .iadd, (0, 0, 0, 0)),
  (1442, 0, .iaload, (0, 0, 0, 0)),
  (1443, 0, .ifCond .eq 7, (0, 0, 0, 0)),
  (1446, 0, .iconst 1, (0, 0, 0, 0)),
  (1447, 0, .goto 4, (0, 0, 0, 0)),
  (1450, 0, .iconst 0, (0, 0, 0, 0)),
  (1451, 31, .invokevirtual 155, (48, 3, 0, 10))]
set_option maxRecDepth 100000 in
theorem os_20 : okS code 14 false 1454 ll_20 = true := by decide +kernel
theorem ol_20 : okC code 14 false cs_0_20 = true := okC_app ol_21 ll_20 os_20
def ll_19 : List CE := [(1328, 0, .iconst 4, (0, 0, 0, 0)),
  (1329, 0, .iadd, (0, 0, 0, 0)),
  (1330, 0, .iaload, (0, 0, 0, 0)),
  (1331, 0, .invokevirtual 139, (44, 5, 0, 10)),
  (1334, 0, .pop, (0, 0, 0, 0)),
  (1335, 0, .aload_n 2, (0, 0, 0, 0)),
  (1336, 0, .aload_n 0, (0, 0, 0, 0)),
  (1337, 0, .iload_n 3, (0, 0, 0, 0)),
  (1338, 0, .iconst 1, (0, 0, 0, 0)),
  (1339, 0, .iadd, (0, 0, 0, 0)),
  (1340, 0, .iaload, (0, 0, 0, 0)),
  (1341, 0, .aload_n 0, (0, 0, 0, 0)),
  (1342, 0, .iload_n 3, (0, 0, 0, 0)),
  (1343, 0, .iconst 2, (0, 0, 0, 0)),
  (1344, 0, .iadd, (0, 0, 0, 0)),
  (1345, 0, .iaload, (0, 0, 0, 0)),
  (1346, 0, .aload_n 0, (0, 0, 0, 0)),
  (1347, 0, .iload_n 3, (0, 0, 0, 0)),
  (1348, 0, .iconst 3, (0, 0, 0, 0)),
  (1349, 0, .iadd, (0, 0, 0, 0)),
  (1350, 0, .iaload, (0, 0, 0, 0)),
  (1351, 0, .aload_n 0, (0, 0, 0, 0)),
  (1352, 0, .iload_n 3, (0, 0, 0, 0)),
  (1353, 0, .iconst 4, (0, 0, 0, 0)),
  (1354, 0, .iadd, (0, 0, 0, 0)),
  (1355, 0, .iaload, (0, 0, 0, 0)),
  (1356, 0, .invokevirtual 142, (287, 5, 0, 22)),
  (1359, 0, .pop, (0, 0, 0, 0)),
  (1360, 0, .goto 681, (0, 0, 0, 0)),
  (1363, 31, .aload_n 1, (0, 0, 0, 0)),
  (1364, 0, .invokevirtual 143, (45, 1, 0, 10)),
  (1367, 0, .pop, (0, 0, 0, 0)),
  (1368, 0, .aload_n 2, (0, 0, 0, 0)),
  (1369, 0, .invokevirtual 146, (288, 1, 0, 22)),
  (1372, 0, .pop, (0, 0, 0, 0)),
  (1373, 0, .goto 668, (0, 0, 0, 0)),
  (1376, 31, .aload_n 1, (0, 0, 0, 0)),
  (1377, 0, .aload_n 0, (0, 0, 0, 0)),
  (1378, 0, .iload_n 3, (0, 0, 0, 0)),
  (1379, 0, .iconst 1, (0, 0, 0, 0)),
  (1380, 0, .iadd, (0, 0, 0, 0)),
  (1381, 0, .iaload, (0, 0, 0, 0)),
  (1382, 0, .invokevirtual 147, (46, 2, 1, 10)),
  (1385, 0, .pop2, (0, 0, 0, 0)),
  (1386, 0, .aload_n 2, (0, 0, 0, 0)),
  (1387, 0, .aload_n 0, (0, 0, 0, 0)),
  (1388, 0, .iload_n 3, (0, 0, 0, 0)),
  (1389, 0, .iconst 1, (0, 0, 0, 0))]
set_option maxRecDepth 100000 in
theorem os_19 : okS code 14 false 1390 ll_19 = true := by decide +kernel
theorem ol_19 : okC code 14 false cs_0_19 = true := okC_app ol_20 ll_19 os_19
def ll_18 : List CE := [(1268, 0, .iadd, (0, 0, 0, 0)),
  (1269, 0, .iaload, (0, 0, 0, 0)),
  (1270, 0, .aload_n 0, (0, 0, 0, 0)),
  (1271, 0, .iload_n 3, (0, 0, 0, 0)),
  (1272, 0, .iconst 2, (0, 0, 0, 0)),
  (1273, 0, .iadd, (0, 0, 0, 0)),
  (1274, 0, .iaload, (0, 0, 0, 0)),
  (1275, 0, .invokevirtual 130, (42, 3, 0, 10)),
  (1278, 0, .pop, (0, 0, 0, 0)),
  (1279, 0, .aload_n 2, (0, 0, 0, 0)),
  (1280, 0, .aload_n 0, (0, 0, 0, 0)),
  (1281, 0, .iload_n 3, (0, 0, 0, 0)),
  (1282, 0, .iconst 1, (0, 0, 0, 0)),
  (1283, 0, .iadd, (0, 0, 0, 0)),
  (1284, 0, .iaload, (0, 0, 0, 0)),
  (1285, 0, .aload_n 0, (0, 0, 0, 0)),
  (1286, 0, .iload_n 3, (0, 0, 0, 0)),
  (1287, 0, .iconst 2, (0, 0, 0, 0)),
  (1288, 0, .iadd, (0, 0, 0, 0)),
  (1289, 0, .iaload, (0, 0, 0, 0)),
  (1290, 0, .invokevirtual 133, (284, 3, 0, 22)),
  (1293, 0, .pop, (0, 0, 0, 0)),
  (1294, 0, .goto 747, (0, 0, 0, 0)),
  (1297, 31, .aload_n 1, (0, 0, 0, 0)),
  (1298, 0, .invokevirtual 134, (43, 1, 0, 10)),
  (1301, 0, .pop, (0, 0, 0, 0)),
  (1302, 0, .aload_n 2, (0, 0, 0, 0)),
  (1303, 0, .invokevirtual 138, (285, 1, 0, 22)),
  (1306, 0, .pop, (0, 0, 0, 0)),
  (1307, 0, .goto 734, (0, 0, 0, 0)),
  (1310, 31, .aload_n 1, (0, 0, 0, 0)),
  (1311, 0, .aload_n 0, (0, 0, 0, 0)),
  (1312, 0, .iload_n 3, (0, 0, 0, 0)),
  (1313, 0, .iconst 1, (0, 0, 0, 0)),
  (1314, 0, .iadd, (0, 0, 0, 0)),
  (1315, 0, .iaload, (0, 0, 0, 0)),
  (1316, 0, .aload_n 0, (0, 0, 0, 0)),
  (1317, 0, .iload_n 3, (0, 0, 0, 0)),
  (1318, 0, .iconst 2, (0, 0, 0, 0)),
  (1319, 0, .iadd, (0, 0, 0, 0)),
  (1320, 0, .iaload, (0, 0, 0, 0)),
  (1321, 0, .aload_n 0, (0, 0, 0, 0)),
  (1322, 0, .iload_n 3, (0, 0, 0, 0)),
  (1323, 0, .iconst 3, (0, 0, 0, 0)),
  (1324, 0, .iadd, (0, 0, 0, 0)),
  (1325, 0, .iaload, (0, 0, 0, 0)),
  (1326, 0, .aload_n 0, (0, 0, 0, 0)),
  (1327, 0, .iload_n 3, (0, 0, 0, 0))]
set_option maxRecDepth 100000 in
theorem os_18 : okS code 14 false 1328 ll_18 = true := by decide +kernel
theorem ol_18 : okC code 14 false cs_0_18 = true := okC_app ol_19 ll_18 os_18
def ll_17 : List CE := [(1210, 0, .iload_n 3, (0, 0, 0, 0)),
  (1211, 0, .iconst 3, (0, 0, 0, 0)),
  (1212, 0, .iadd, (0, 0, 0, 0)),
  (1213, 0, .iaload, (0, 0, 0, 0)),
  (1214, 0, .invokevirtual 125, (281, 4, 1, 22)),
  (1217, 0, .pop2, (0, 0, 0, 0)),
  (1218, 0, .goto 823, (0, 0, 0, 0)),
  (1221, 31, .aload_n 1, (0, 0, 0, 0)),
  (1222, 0, .aload_n 0, (0, 0, 0, 0)),
  (1223, 0, .iload_n 3, (0, 0, 0, 0)),
  (1224, 0, .iconst 1, (0, 0, 0, 0)),
  (1225, 0, .iadd, (0, 0, 0, 0)),
  (1226, 0, .iaload, (0, 0, 0, 0)),
  (1227, 0, .aload_n 0, (0, 0, 0, 0)),
  (1228, 0, .iload_n 3, (0, 0, 0, 0)),
  (1229, 0, .iconst 2, (0, 0, 0, 0)),
  (1230, 0, .iadd, (0, 0, 0, 0)),
  (1231, 0, .iaload, (0, 0, 0, 0)),
  (1232, 0, .aload_n 0, (0, 0, 0, 0)),
  (1233, 0, .iload_n 3, (0, 0, 0, 0)),
  (1234, 0, .iconst 3, (0, 0, 0, 0)),
  (1235, 0, .iadd, (0, 0, 0, 0)),
  (1236, 0, .iaload, (0, 0, 0, 0)),
  (1237, 0, .invokevirtual 126, (41, 4, 1, 10)),
  (1240, 0, .pop2, (0, 0, 0, 0)),
  (1241, 0, .aload_n 2, (0, 0, 0, 0)),
  (1242, 0, .aload_n 0, (0, 0, 0, 0)),
  (1243, 0, .iload_n 3, (0, 0, 0, 0)),
  (1244, 0, .iconst 1, (0, 0, 0, 0)),
  (1245, 0, .iadd, (0, 0, 0, 0)),
  (1246, 0, .iaload, (0, 0, 0, 0)),
  (1247, 0, .aload_n 0, (0, 0, 0, 0)),
  (1248, 0, .iload_n 3, (0, 0, 0, 0)),
  (1249, 0, .iconst 2, (0, 0, 0, 0)),
  (1250, 0, .iadd, (0, 0, 0, 0)),
  (1251, 0, .iaload, (0, 0, 0, 0)),
  (1252, 0, .aload_n 0, (0, 0, 0, 0)),
  (1253, 0, .iload_n 3, (0, 0, 0, 0)),
  (1254, 0, .iconst 3, (0, 0, 0, 0)),
  (1255, 0, .iadd, (0, 0, 0, 0)),
  (1256, 0, .iaload, (0, 0, 0, 0)),
  (1257, 0, .invokevirtual 129, (282, 4, 1, 22)),
  (1260, 0, .pop2, (0, 0, 0, 0)),
  (1261, 0, .goto 780, (0, 0, 0, 0)),
  (1264, 31, .aload_n 1, (0, 0, 0, 0)),
  (1265, 0, .aload_n 0, (0, 0, 0, 0)),
  (1266, 0, .iload_n 3, (0, 0, 0, 0)),
  (1267, 0, .iconst 1, (0, 0, 0, 0))]
set_option maxRecDepth 100000 in
theorem os_17 : okS code 14 false 1268 ll_17 = true := by decide +kernel
theorem ol_17 : okC code 14 false cs_0_17 = true := okC_app ol_18 ll_17 os_17
def ll_16 : List CE := [(1154, 0, .iadd, (0, 0, 0, 0)),
  (1155, 0, .iaload, (0, 0, 0, 0)),
  (1156, 0, .invokevirtual 117, (36, 3, 0, 10)),
  (1159, 0, .pop, (0, 0, 0, 0)),
  (1160, 0, .aload_n 2, (0, 0, 0, 0)),
  (1161, 0, .aload_n 0, (0, 0, 0, 0)),
  (1162, 0, .iload_n 3, (0, 0, 0, 0)),
  (1163, 0, .iconst 1, (0, 0, 0, 0)),
  (1164, 0, .iadd, (0, 0, 0, 0)),
  (1165, 0, .iaload, (0, 0, 0, 0)),
  (1166, 0, .aload_n 0, (0, 0, 0, 0)),
  (1167, 0, .iload_n 3, (0, 0, 0, 0)),
  (1168, 0, .iconst 2, (0, 0, 0, 0)),
  (1169, 0, .iadd, (0, 0, 0, 0)),
  (1170, 0, .iaload, (0, 0, 0, 0)),
  (1171, 0, .invokevirtual 120, (278, 3, 0, 22)),
  (1174, 0, .pop, (0, 0, 0, 0)),
  (1175, 0, .goto 866, (0, 0, 0, 0)),
  (1178, 31, .aload_n 1, (0, 0, 0, 0)),
  (1179, 0, .aload_n 0, (0, 0, 0, 0)),
  (1180, 0, .iload_n 3, (0, 0, 0, 0)),
  (1181, 0, .iconst 1, (0, 0, 0, 0)),
  (1182, 0, .iadd, (0, 0, 0, 0)),
  (1183, 0, .iaload, (0, 0, 0, 0)),
  (1184, 0, .aload_n 0, (0, 0, 0, 0)),
  (1185, 0, .iload_n 3, (0, 0, 0, 0)),
  (1186, 0, .iconst 2, (0, 0, 0, 0)),
  (1187, 0, .iadd, (0, 0, 0, 0)),
  (1188, 0, .iaload, (0, 0, 0, 0)),
  (1189, 0, .aload_n 0, (0, 0, 0, 0)),
  (1190, 0, .iload_n 3, (0, 0, 0, 0)),
  (1191, 0, .iconst 3, (0, 0, 0, 0)),
  (1192, 0, .iadd, (0, 0, 0, 0)),
  (1193, 0, .iaload, (0, 0, 0, 0)),
  (1194, 0, .invokevirtual 121, (39, 4, 1, 10)),
  (1197, 0, .pop2, (0, 0, 0, 0)),
  (1198, 0, .aload_n 2, (0, 0, 0, 0)),
  (1199, 0, .aload_n 0, (0, 0, 0, 0)),
  (1200, 0, .iload_n 3, (0, 0, 0, 0)),
  (1201, 0, .iconst 1, (0, 0, 0, 0)),
  (1202, 0, .iadd, (0, 0, 0, 0)),
  (1203, 0, .iaload, (0, 0, 0, 0)),
  (1204, 0, .aload_n 0, (0, 0, 0, 0)),
  (1205, 0, .iload_n 3, (0, 0, 0, 0)),
  (1206, 0, .iconst 2, (0, 0, 0, 0)),
  (1207, 0, .iadd, (0, 0, 0, 0)),
  (1208, 0, .iaload, (0, 0, 0, 0)),
  (1209, 0, .aload_n 0, (0, 0, 0, 0))]
set_option maxRecDepth 100000 in
theorem os_16 : okS code 14 false 1210 ll_16 = true := by decide +kernel
theorem ol_16 : okC code 14 false cs_0_16 = true := okC_app ol_17 ll_16 os_16
def ll_15 : List CE := [(1088, 0, .goto 4, (0, 0, 0, 0)),
  (1091, 0, .iconst 0, (0, 0, 0, 0)),
  (1092, 0, .invokevirtual 107, (272, 5, 0, 22)),
  (1095, 0, .pop, (0, 0, 0, 0)),
  (1096, 0, .goto 945, (0, 0, 0, 0)),
  (1099, 31, .aload_n 1, (0, 0, 0, 0)),
  (1100, 0, .aload_n 0, (0, 0, 0, 0)),
  (1101, 0, .iload_n 3, (0, 0, 0, 0)),
  (1102, 0, .iconst 1, (0, 0, 0, 0)),
  (1103, 0, .iadd, (0, 0, 0, 0)),
  (1104, 0, .iaload, (0, 0, 0, 0)),
  (1105, 0, .invokevirtual 108, (34, 2, 0, 10)),
  (1108, 0, .pop, (0, 0, 0, 0)),
  (1109, 0, .aload_n 2, (0, 0, 0, 0)),
  (1110, 0, .aload_n 0, (0, 0, 0, 0)),
  (1111, 0, .iload_n 3, (0, 0, 0, 0)),
  (1112, 0, .iconst 1, (0, 0, 0, 0)),
  (1113, 0, .iadd, (0, 0, 0, 0)),
  (1114, 0, .iaload, (0, 0, 0, 0)),
  (1115, 0, .invokevirtual 111, (273, 2, 0, 22)),
  (1118, 0, .pop, (0, 0, 0, 0)),
  (1119, 0, .goto 922, (0, 0, 0, 0)),
  (1122, 31, .aload_n 1, (0, 0, 0, 0)),
  (1123, 0, .aload_n 0, (0, 0, 0, 0)),
  (1124, 0, .iload_n 3, (0, 0, 0, 0)),
  (1125, 0, .iconst 1, (0, 0, 0, 0)),
  (1126, 0, .iadd, (0, 0, 0, 0)),
  (1127, 0, .iaload, (0, 0, 0, 0)),
  (1128, 0, .invokevirtual 112, (35, 2, 1, 10)),
  (1131, 0, .pop2, (0, 0, 0, 0)),
  (1132, 0, .aload_n 2, (0, 0, 0, 0)),
  (1133, 0, .aload_n 0, (0, 0, 0, 0)),
  (1134, 0, .iload_n 3, (0, 0, 0, 0)),
  (1135, 0, .iconst 1, (0, 0, 0, 0)),
  (1136, 0, .iadd, (0, 0, 0, 0)),
  (1137, 0, .iaload, (0, 0, 0, 0)),
  (1138, 0, .invokevirtual 116, (277, 2, 1, 22)),
  (1141, 0, .pop2, (0, 0, 0, 0)),
  (1142, 0, .goto 899, (0, 0, 0, 0)),
  (1145, 31, .aload_n 1, (0, 0, 0, 0)),
  (1146, 0, .aload_n 0, (0, 0, 0, 0)),
  (1147, 0, .iload_n 3, (0, 0, 0, 0)),
  (1148, 0, .iconst 1, (0, 0, 0, 0)),
  (1149, 0, .iadd, (0, 0, 0, 0)),
  (1150, 0, .iaload, (0, 0, 0, 0)),
  (1151, 0, .aload_n 0, (0, 0, 0, 0)),
  (1152, 0, .iload_n 3, (0, 0, 0, 0)),
  (1153, 0, .iconst 2, (0, 0, 0, 0))]
set_option maxRecDepth 100000 in
theorem os_15 : okS code 14 false 1154 ll_15 = true := by decide +kernel
theorem ol_15 : okC code 14 false cs_0_15 = true := okC_app ol_16 ll_15 os_15
def ll_14 : List CE := [(1032, 0, .iload_n 3, (0, 0, 0, 0)),
  (1033, 0, .iconst 1, (0, 0, 0, 0)),
  (1034, 0, .iadd, (0, 0, 0, 0)),
  (1035, 0, .iaload, (0, 0, 0, 0)),
  (1036, 0, .aload_n 0, (0, 0, 0, 0)),
  (1037, 0, .iload_n 3, (0, 0, 0, 0)),
  (1038, 0, .iconst 2, (0, 0, 0, 0)),
  (1039, 0, .iadd, (0, 0, 0, 0)),
  (1040, 0, .iaload, (0, 0, 0, 0)),
  (1041, 0, .aload_n 0, (0, 0, 0, 0)),
  (1042, 0, .iload_n 3, (0, 0, 0, 0)),
  (1043, 0, .iconst 3, (0, 0, 0, 0)),
  (1044, 0, .iadd, (0, 0, 0, 0)),
  (1045, 0, .iaload, (0, 0, 0, 0)),
  (1046, 0, .aload_n 0, (0, 0, 0, 0)),
  (1047, 0, .iload_n 3, (0, 0, 0, 0)),
  (1048, 0, .iconst 4, (0, 0, 0, 0)),
  (1049, 0, .iadd, (0, 0, 0, 0)),
  (1050, 0, .iaload, (0, 0, 0, 0)),
  (1051, 0, .ifCond .eq 7, (0, 0, 0, 0)),
  (1054, 0, .iconst 1, (0, 0, 0, 0)),
  (1055, 0, .goto 4, (0, 0, 0, 0)),
  (1058, 0, .iconst 0, (0, 0, 0, 0)),
  (1059, 31, .invokevirtual 103, (33, 5, 0, 10)),
  (1062, 0, .pop, (0, 0, 0, 0)),
  (1063, 0, .aload_n 2, (0, 0, 0, 0)),
  (1064, 0, .aload_n 0, (0, 0, 0, 0)),
  (1065, 0, .iload_n 3, (0, 0, 0, 0)),
  (1066, 0, .iconst 1, (0, 0, 0, 0)),
  (1067, 0, .iadd, (0, 0, 0, 0)),
  (1068, 0, .iaload, (0, 0, 0, 0)),
  (1069, 0, .aload_n 0, (0, 0, 0, 0)),
  (1070, 0, .iload_n 3, (0, 0, 0, 0)),
  (1071, 0, .iconst 2, (0, 0, 0, 0)),
  (1072, 0, .iadd, (0, 0, 0, 0)),
  (1073, 0, .iaload, (0, 0, 0, 0)),
  (1074, 0, .aload_n 0, (0, 0, 0, 0)),
  (1075, 0, .iload_n 3, (0, 0, 0, 0)),
  (1076, 0, .iconst 3, (0, 0, 0, 0)),
  (1077, 0, .iadd, (0, 0, 0, 0)),
  (1078, 0, .iaload, (0, 0, 0, 0)),
  (1079, 0, .aload_n 0, (0, 0, 0, 0)),
  (1080, 0, .iload_n 3, (0, 0, 0, 0)),
  (1081, 0, .iconst 4, (0, 0, 0, 0)),
  (1082, 0, .iadd, (0, 0, 0, 0)),
  (1083, 0, .iaload, (0, 0, 0, 0)),
  (1084, 0, .ifCond .eq 7, (0, 0, 0, 0)),
  (1087, 0, .iconst 1, (0, 0, 0, 0))]
set_option maxRecDepth 100000 in
theorem os_14 : okS code 14 false 1088 ll_14 = true := by decide +kernel
theorem ol_14 : okC code 14 false cs_0_14 = true := okC_app ol_15 ll_14 os_14
def ll_13 : List CE := [(968, 0, .iload_n 3, (0, 0, 0, 0)),
  (969, 0, .iconst 1, (0, 0, 0, 0)),
  (970, 0, .iadd, (0, 0, 0, 0)),
  (971, 0, .iaload, (0, 0, 0, 0)),
  (972, 0, .aload_n 0, (0, 0, 0, 0)),
  (973, 0, .iload_n 3, (0, 0, 0, 0)),
  (974, 0, .iconst 2, (0, 0, 0, 0)),
  (975, 0, .iadd, (0, 0, 0, 0)),
  (976, 0, .iaload, (0, 0, 0, 0)),
  (977, 0, .invokevirtual 94, (258, 3, 0, 22)),
  (980, 0, .pop, (0, 0, 0, 0)),
  (981, 0, .goto 1060, (0, 0, 0, 0)),
  (984, 31, .aload_n 1, (0, 0, 0, 0)),
  (985, 0, .aload_n 0, (0, 0, 0, 0)),
  (986, 0, .iload_n 3, (0, 0, 0, 0)),
  (987, 0, .iconst 1, (0, 0, 0, 0)),
  (988, 0, .iadd, (0, 0, 0, 0)),
  (989, 0, .iaload, (0, 0, 0, 0)),
  (990, 0, .invokevirtual 95, (27, 2, 0, 10)),
  (993, 0, .pop, (0, 0, 0, 0)),
  (994, 0, .aload_n 2, (0, 0, 0, 0)),
  (995, 0, .aload_n 0, (0, 0, 0, 0)),
  (996, 0, .iload_n 3, (0, 0, 0, 0)),
  (997, 0, .iconst 1, (0, 0, 0, 0)),
  (998, 0, .iadd, (0, 0, 0, 0)),
  (999, 0, .iaload, (0, 0, 0, 0)),
  (1000, 0, .invokevirtual 98, (260, 2, 0, 22)),
  (1003, 0, .pop, (0, 0, 0, 0)),
  (1004, 0, .goto 1037, (0, 0, 0, 0)),
  (1007, 31, .aload_n 1, (0, 0, 0, 0)),
  (1008, 0, .aload_n 0, (0, 0, 0, 0)),
  (1009, 0, .iload_n 3, (0, 0, 0, 0)),
  (1010, 0, .iconst 1, (0, 0, 0, 0)),
  (1011, 0, .iadd, (0, 0, 0, 0)),
  (1012, 0, .iaload, (0, 0, 0, 0)),
  (1013, 0, .invokevirtual 99, (32, 2, 0, 10)),
  (1016, 0, .pop, (0, 0, 0, 0)),
  (1017, 0, .aload_n 2, (0, 0, 0, 0)),
  (1018, 0, .aload_n 0, (0, 0, 0, 0)),
  (1019, 0, .iload_n 3, (0, 0, 0, 0)),
  (1020, 0, .iconst 1, (0, 0, 0, 0)),
  (1021, 0, .iadd, (0, 0, 0, 0)),
  (1022, 0, .iaload, (0, 0, 0, 0)),
  (1023, 0, .invokevirtual 102, (271, 2, 0, 22)),
  (1026, 0, .pop, (0, 0, 0, 0)),
  (1027, 0, .goto 1014, (0, 0, 0, 0)),
  (1030, 31, .aload_n 1, (0, 0, 0, 0)),
  (1031, 0, .aload_n 0, (0, 0, 0, 0))]
set_option maxRecDepth 100000 in
theorem os_13 : okS code 14 false 1032 ll_13 = true := by decide +kernel
theorem ol_13 : okC code 14 false cs_0_13 = true := okC_app ol_14 ll_13 os_13
def ll_12 : List CE := [(909, 0, .iaload, (0, 0, 0, 0)),
  (910, 0, .aload_n 0, (0, 0, 0, 0)),
  (911, 0, .iload_n 3, (0, 0, 0, 0)),
  (912, 0, .iconst 2, (0, 0, 0, 0)),
  (913, 0, .iadd, (0, 0, 0, 0)),
  (914, 0, .iaload, (0, 0, 0, 0)),
  (915, 0, .aload_n 0, (0, 0, 0, 0)),
  (916, 0, .iload_n 3, (0, 0, 0, 0)),
  (917, 0, .iconst 3, (0, 0, 0, 0)),
  (918, 0, .iadd, (0, 0, 0, 0)),
  (919, 0, .iaload, (0, 0, 0, 0)),
  (920, 0, .aload_n 0, (0, 0, 0, 0)),
  (921, 0, .iload_n 3, (0, 0, 0, 0)),
  (922, 0, .iconst 4, (0, 0, 0, 0)),
  (923, 0, .iadd, (0, 0, 0, 0)),
  (924, 0, .iaload, (0, 0, 0, 0)),
  (925, 0, .aload_n 0, (0, 0, 0, 0)),
  (926, 0, .iload_n 3, (0, 0, 0, 0)),
  (927, 0, .iconst 5, (0, 0, 0, 0)),
  (928, 0, .iadd, (0, 0, 0, 0)),
  (929, 0, .iaload, (0, 0, 0, 0)),
  (930, 0, .aload_n 0, (0, 0, 0, 0)),
  (931, 0, .iload_n 3, (0, 0, 0, 0)),
  (932, 0, .bipush 6, (0, 0, 0, 0)),
  (934, 0, .iadd, (0, 0, 0, 0)),
  (935, 0, .iaload, (0, 0, 0, 0)),
  (936, 0, .ifCond .eq 7, (0, 0, 0, 0)),
  (939, 0, .iconst 1, (0, 0, 0, 0)),
  (940, 0, .goto 4, (0, 0, 0, 0)),
  (943, 0, .iconst 0, (0, 0, 0, 0)),
  (944, 0, .invokevirtual 90, (256, 7, 0, 22)),
  (947, 0, .pop, (0, 0, 0, 0)),
  (948, 0, .goto 1093, (0, 0, 0, 0)),
  (951, 31, .aload_n 1, (0, 0, 0, 0)),
  (952, 0, .aload_n 0, (0, 0, 0, 0)),
  (953, 0, .iload_n 3, (0, 0, 0, 0)),
  (954, 0, .iconst 1, (0, 0, 0, 0)),
  (955, 0, .iadd, (0, 0, 0, 0)),
  (956, 0, .iaload, (0, 0, 0, 0)),
  (957, 0, .aload_n 0, (0, 0, 0, 0)),
  (958, 0, .iload_n 3, (0, 0, 0, 0)),
  (959, 0, .iconst 2, (0, 0, 0, 0)),
  (960, 0, .iadd, (0, 0, 0, 0)),
  (961, 0, .iaload, (0, 0, 0, 0)),
  (962, 0, .invokevirtual 91, (26, 3, 0, 10)),
  (965, 0, .pop, (0, 0, 0, 0)),
  (966, 0, .aload_n 2, (0, 0, 0, 0)),
  (967, 0, .aload_n 0, (0, 0, 0, 0))]
set_option maxRecDepth 100000 in
theorem os_12 : okS code 14 false 968 ll_12 = true := by decide +kernel
theorem ol_12 : okC code 14 false cs_0_12 = true := okC_app ol_13 ll_12 os_12
def ll_11 : List CE := [(850, 0, .iconst 2, (0, 0, 0, 0)),
  (851, 0, .iadd, (0, 0, 0, 0)),
  (852, 0, .iaload, (0, 0, 0, 0)),
  (853, 0, .invokevirtual 85, (244, 3, 1, 22)),
  (856, 0, .pop2, (0, 0, 0, 0)),
  (857, 0, .goto 1184, (0, 0, 0, 0)),
  (860, 31, .aload_n 1, (0, 0, 0, 0)),
  (861, 0, .aload_n 0, (0, 0, 0, 0)),
  (862, 0, .iload_n 3, (0, 0, 0, 0)),
  (863, 0, .iconst 1, (0, 0, 0, 0)),
  (864, 0, .iadd, (0, 0, 0, 0)),
  (865, 0, .iaload, (0, 0, 0, 0)),
  (866, 0, .aload_n 0, (0, 0, 0, 0)),
  (867, 0, .iload_n 3, (0, 0, 0, 0)),
  (868, 0, .iconst 2, (0, 0, 0, 0)),
  (869, 0, .iadd, (0, 0, 0, 0)),
  (870, 0, .iaload, (0, 0, 0, 0)),
  (871, 0, .aload_n 0, (0, 0, 0, 0)),
  (872, 0, .iload_n 3, (0, 0, 0, 0)),
  (873, 0, .iconst 3, (0, 0, 0, 0)),
  (874, 0, .iadd, (0, 0, 0, 0)),
  (875, 0, .iaload, (0, 0, 0, 0)),
  (876, 0, .aload_n 0, (0, 0, 0, 0)),
  (877, 0, .iload_n 3, (0, 0, 0, 0)),
  (878, 0, .iconst 4, (0, 0, 0, 0)),
  (879, 0, .iadd, (0, 0, 0, 0)),
  (880, 0, .iaload, (0, 0, 0, 0)),
  (881, 0, .aload_n 0, (0, 0, 0, 0)),
  (882, 0, .iload_n 3, (0, 0, 0, 0)),
  (883, 0, .iconst 5, (0, 0, 0, 0)),
  (884, 0, .iadd, (0, 0, 0, 0)),
  (885, 0, .iaload, (0, 0, 0, 0)),
  (886, 0, .aload_n 0, (0, 0, 0, 0)),
  (887, 0, .iload_n 3, (0, 0, 0, 0)),
  (888, 0, .bipush 6, (0, 0, 0, 0)),
  (890, 0, .iadd, (0, 0, 0, 0)),
  (891, 0, .iaload, (0, 0, 0, 0)),
  (892, 0, .ifCond .eq 7, (0, 0, 0, 0)),
  (895, 0, .iconst 1, (0, 0, 0, 0)),
  (896, 0, .goto 4, (0, 0, 0, 0)),
  (899, 0, .iconst 0, (0, 0, 0, 0)),
  (900, 31, .invokevirtual 86, (25, 7, 0, 10)),
  (903, 0, .pop, (0, 0, 0, 0)),
  (904, 0, .aload_n 2, (0, 0, 0, 0)),
  (905, 0, .aload_n 0, (0, 0, 0, 0)),
  (906, 0, .iload_n 3, (0, 0, 0, 0)),
  (907, 0, .iconst 1, (0, 0, 0, 0)),
  (908, 0, .iadd, (0, 0, 0, 0))]
set_option maxRecDepth 100000 in
theorem os_11 : okS code 14 false 909 ll_11 = true := by decide +kernel
theorem ol_11 : okC code 14 false cs_0_11 = true := okC_app ol_12 ll_11 os_11
def ll_10 : List CE := [(794, 0, .iaload, (0, 0, 0, 0)),
  (795, 0, .invokevirtual 76, (23, 5, 0, 10)),
  (798, 0, .pop, (0, 0, 0, 0)),
  (799, 0, .aload_n 2, (0, 0, 0, 0)),
  (800, 0, .aload_n 0, (0, 0, 0, 0)),
  (801, 0, .iload_n 3, (0, 0, 0, 0)),
  (802, 0, .iconst 1, (0, 0, 0, 0)),
  (803, 0, .iadd, (0, 0, 0, 0)),
  (804, 0, .iaload, (0, 0, 0, 0)),
  (805, 0, .aload_n 0, (0, 0, 0, 0)),
  (806, 0, .iload_n 3, (0, 0, 0, 0)),
  (807, 0, .iconst 2, (0, 0, 0, 0)),
  (808, 0, .iadd, (0, 0, 0, 0)),
  (809, 0, .iaload, (0, 0, 0, 0)),
  (810, 0, .aload_n 0, (0, 0, 0, 0)),
  (811, 0, .iload_n 3, (0, 0, 0, 0)),
  (812, 0, .iconst 3, (0, 0, 0, 0)),
  (813, 0, .iadd, (0, 0, 0, 0)),
  (814, 0, .iaload, (0, 0, 0, 0)),
  (815, 0, .aload_n 0, (0, 0, 0, 0)),
  (816, 0, .iload_n 3, (0, 0, 0, 0)),
  (817, 0, .iconst 4, (0, 0, 0, 0)),
  (818, 0, .iadd, (0, 0, 0, 0)),
  (819, 0, .iaload, (0, 0, 0, 0)),
  (820, 0, .invokevirtual 80, (251, 5, 0, 22)),
  (823, 0, .pop, (0, 0, 0, 0)),
  (824, 0, .goto 1217, (0, 0, 0, 0)),
  (827, 31, .aload_n 1, (0, 0, 0, 0)),
  (828, 0, .aload_n 0, (0, 0, 0, 0)),
  (829, 0, .iload_n 3, (0, 0, 0, 0)),
  (830, 0, .iconst 1, (0, 0, 0, 0)),
  (831, 0, .iadd, (0, 0, 0, 0)),
  (832, 0, .iaload, (0, 0, 0, 0)),
  (833, 0, .aload_n 0, (0, 0, 0, 0)),
  (834, 0, .iload_n 3, (0, 0, 0, 0)),
  (835, 0, .iconst 2, (0, 0, 0, 0)),
  (836, 0, .iadd, (0, 0, 0, 0)),
  (837, 0, .iaload, (0, 0, 0, 0)),
  (838, 0, .invokevirtual 81, (24, 3, 1, 10)),
  (841, 0, .pop2, (0, 0, 0, 0)),
  (842, 0, .aload_n 2, (0, 0, 0, 0)),
  (843, 0, .aload_n 0, (0, 0, 0, 0)),
  (844, 0, .iload_n 3, (0, 0, 0, 0)),
  (845, 0, .iconst 1, (0, 0, 0, 0)),
  (846, 0, .iadd, (0, 0, 0, 0)),
  (847, 0, .iaload, (0, 0, 0, 0)),
  (848, 0, .aload_n 0, (0, 0, 0, 0)),
  (849, 0, .iload_n 3, (0, 0, 0, 0))]
set_option maxRecDepth 100000 in
theorem os_10 : okS code 14 false 850 ll_10 = true := by decide +kernel
theorem ol_10 : okC code 14 false cs_0_10 = true := okC_app ol_11 ll_10 os_10
def ll_9 : List CE := [(740, 0, .iadd, (0, 0, 0, 0)),
  (741, 0, .iaload, (0, 0, 0, 0)),
  (742, 0, .aload_n 0, (0, 0, 0, 0)),
  (743, 0, .iload_n 3, (0, 0, 0, 0)),
  (744, 0, .iconst 3, (0, 0, 0, 0)),
  (745, 0, .iadd, (0, 0, 0, 0)),
  (746, 0, .iaload, (0, 0, 0, 0)),
  (747, 0, .invokevirtual 71, (22, 4, 0, 10)),
  (750, 0, .pop, (0, 0, 0, 0)),
  (751, 0, .aload_n 2, (0, 0, 0, 0)),
  (752, 0, .aload_n 0, (0, 0, 0, 0)),
  (753, 0, .iload_n 3, (0, 0, 0, 0)),
  (754, 0, .iconst 1, (0, 0, 0, 0)),
  (755, 0, .iadd, (0, 0, 0, 0)),
  (756, 0, .iaload, (0, 0, 0, 0)),
  (757, 0, .aload_n 0, (0, 0, 0, 0)),
  (758, 0, .iload_n 3, (0, 0, 0, 0)),
  (759, 0, .iconst 2, (0, 0, 0, 0)),
  (760, 0, .iadd, (0, 0, 0, 0)),
  (761, 0, .iaload, (0, 0, 0, 0)),
  (762, 0, .aload_n 0, (0, 0, 0, 0)),
  (763, 0, .iload_n 3, (0, 0, 0, 0)),
  (764, 0, .iconst 3, (0, 0, 0, 0)),
  (765, 0, .iadd, (0, 0, 0, 0)),
  (766, 0, .iaload, (0, 0, 0, 0)),
  (767, 0, .invokevirtual 75, (252, 4, 0, 22)),
  (770, 0, .pop, (0, 0, 0, 0)),
  (771, 0, .goto 1270, (0, 0, 0, 0)),
  (774, 31, .aload_n 1, (0, 0, 0, 0)),
  (775, 0, .aload_n 0, (0, 0, 0, 0)),
  (776, 0, .iload_n 3, (0, 0, 0, 0)),
  (777, 0, .iconst 1, (0, 0, 0, 0)),
  (778, 0, .iadd, (0, 0, 0, 0)),
  (779, 0, .iaload, (0, 0, 0, 0)),
  (780, 0, .aload_n 0, (0, 0, 0, 0)),
  (781, 0, .iload_n 3, (0, 0, 0, 0)),
  (782, 0, .iconst 2, (0, 0, 0, 0)),
  (783, 0, .iadd, (0, 0, 0, 0)),
  (784, 0, .iaload, (0, 0, 0, 0)),
  (785, 0, .aload_n 0, (0, 0, 0, 0)),
  (786, 0, .iload_n 3, (0, 0, 0, 0)),
  (787, 0, .iconst 3, (0, 0, 0, 0)),
  (788, 0, .iadd, (0, 0, 0, 0)),
  (789, 0, .iaload, (0, 0, 0, 0)),
  (790, 0, .aload_n 0, (0, 0, 0, 0)),
  (791, 0, .iload_n 3, (0, 0, 0, 0)),
  (792, 0, .iconst 4, (0, 0, 0, 0)),
  (793, 0, .iadd, (0, 0, 0, 0))]
set_option maxRecDepth 100000 in
theorem os_9 : okS code 14 false 794 ll_9 = true := by decide +kernel
theorem ol_9 : okC code 14 false cs_0_9 = true := okC_app ol_10 ll_9 os_9
def ll_8 : List CE := [(680, 0, .iaload, (0, 0, 0, 0)),
  (681, 0, .aload_n 0, (0, 0, 0, 0)),
  (682, 0, .iload_n 3, (0, 0, 0, 0)),
  (683, 0, .iconst 2, (0, 0, 0, 0)),
  (684, 0, .iadd, (0, 0, 0, 0)),
  (685, 0, .iaload, (0, 0, 0, 0)),
  (686, 0, .invokevirtual 62, (18, 3, 0, 10)),
  (689, 0, .pop, (0, 0, 0, 0)),
  (690, 0, .aload_n 2, (0, 0, 0, 0)),
  (691, 0, .aload_n 0, (0, 0, 0, 0)),
  (692, 0, .iload_n 3, (0, 0, 0, 0)),
  (693, 0, .iconst 1, (0, 0, 0, 0)),
  (694, 0, .iadd, (0, 0, 0, 0)),
  (695, 0, .iaload, (0, 0, 0, 0)),
  (696, 0, .aload_n 0, (0, 0, 0, 0)),
  (697, 0, .iload_n 3, (0, 0, 0, 0)),
  (698, 0, .iconst 2, (0, 0, 0, 0)),
  (699, 0, .iadd, (0, 0, 0, 0)),
  (700, 0, .iaload, (0, 0, 0, 0)),
  (701, 0, .invokevirtual 66, (254, 3, 0, 22)),
  (704, 0, .pop, (0, 0, 0, 0)),
  (705, 0, .goto 1336, (0, 0, 0, 0)),
  (708, 31, .aload_n 1, (0, 0, 0, 0)),
  (709, 0, .aload_n 0, (0, 0, 0, 0)),
  (710, 0, .iload_n 3, (0, 0, 0, 0)),
  (711, 0, .iconst 1, (0, 0, 0, 0)),
  (712, 0, .iadd, (0, 0, 0, 0)),
  (713, 0, .iaload, (0, 0, 0, 0)),
  (714, 0, .invokevirtual 67, (21, 2, 0, 10)),
  (717, 0, .pop, (0, 0, 0, 0)),
  (718, 0, .aload_n 2, (0, 0, 0, 0)),
  (719, 0, .aload_n 0, (0, 0, 0, 0)),
  (720, 0, .iload_n 3, (0, 0, 0, 0)),
  (721, 0, .iconst 1, (0, 0, 0, 0)),
  (722, 0, .iadd, (0, 0, 0, 0)),
  (723, 0, .iaload, (0, 0, 0, 0)),
  (724, 0, .invokevirtual 70, (255, 2, 0, 22)),
  (727, 0, .pop, (0, 0, 0, 0)),
  (728, 0, .goto 1313, (0, 0, 0, 0)),
  (731, 31, .aload_n 1, (0, 0, 0, 0)),
  (732, 0, .aload_n 0, (0, 0, 0, 0)),
  (733, 0, .iload_n 3, (0, 0, 0, 0)),
  (734, 0, .iconst 1, (0, 0, 0, 0)),
  (735, 0, .iadd, (0, 0, 0, 0)),
  (736, 0, .iaload, (0, 0, 0, 0)),
  (737, 0, .aload_n 0, (0, 0, 0, 0)),
  (738, 0, .iload_n 3, (0, 0, 0, 0)),
  (739, 0, .iconst 2, (0, 0, 0, 0))]
set_option maxRecDepth 100000 in
theorem os_8 : okS code 14 false 740 ll_8 = true := by decide +kernel
theorem ol_8 : okC code 14 false cs_0_8 = true := okC_app ol_9 ll_8 os_8
def ll_7 : List CE := [(622, 0, .iconst 1, (0, 0, 0, 0)),
  (623, 0, .iadd, (0, 0, 0, 0)),
  (624, 0, .iaload, (0, 0, 0, 0)),
  (625, 0, .aload_n 0, (0, 0, 0, 0)),
  (626, 0, .iload_n 3, (0, 0, 0, 0)),
  (627, 0, .iconst 2, (0, 0, 0, 0)),
  (628, 0, .iadd, (0, 0, 0, 0)),
  (629, 0, .iaload, (0, 0, 0, 0)),
  (630, 0, .aload_n 0, (0, 0, 0, 0)),
  (631, 0, .iload_n 3, (0, 0, 0, 0)),
  (632, 0, .iconst 3, (0, 0, 0, 0)),
  (633, 0, .iadd, (0, 0, 0, 0)),
  (634, 0, .iaload, (0, 0, 0, 0)),
  (635, 0, .invokevirtual 57, (240, 4, 0, 22)),
  (638, 0, .pop, (0, 0, 0, 0)),
  (639, 0, .goto 1402, (0, 0, 0, 0)),
  (642, 31, .aload_n 1, (0, 0, 0, 0)),
  (643, 0, .aload_n 0, (0, 0, 0, 0)),
  (644, 0, .iload_n 3, (0, 0, 0, 0)),
  (645, 0, .iconst 1, (0, 0, 0, 0)),
  (646, 0, .iadd, (0, 0, 0, 0)),
  (647, 0, .iaload, (0, 0, 0, 0)),
  (648, 0, .aload_n 0, (0, 0, 0, 0)),
  (649, 0, .iload_n 3, (0, 0, 0, 0)),
  (650, 0, .iconst 2, (0, 0, 0, 0)),
  (651, 0, .iadd, (0, 0, 0, 0)),
  (652, 0, .iaload, (0, 0, 0, 0)),
  (653, 0, .invokevirtual 58, (16, 3, 0, 10)),
  (656, 0, .pop, (0, 0, 0, 0)),
  (657, 0, .aload_n 2, (0, 0, 0, 0)),
  (658, 0, .aload_n 0, (0, 0, 0, 0)),
  (659, 0, .iload_n 3, (0, 0, 0, 0)),
  (660, 0, .iconst 1, (0, 0, 0, 0)),
  (661, 0, .iadd, (0, 0, 0, 0)),
  (662, 0, .iaload, (0, 0, 0, 0)),
  (663, 0, .aload_n 0, (0, 0, 0, 0)),
  (664, 0, .iload_n 3, (0, 0, 0, 0)),
  (665, 0, .iconst 2, (0, 0, 0, 0)),
  (666, 0, .iadd, (0, 0, 0, 0)),
  (667, 0, .iaload, (0, 0, 0, 0)),
  (668, 0, .invokevirtual 61, (242, 3, 0, 22)),
  (671, 0, .pop, (0, 0, 0, 0)),
  (672, 0, .goto 1369, (0, 0, 0, 0)),
  (675, 31, .aload_n 1, (0, 0, 0, 0)),
  (676, 0, .aload_n 0, (0, 0, 0, 0)),
  (677, 0, .iload_n 3, (0, 0, 0, 0)),
  (678, 0, .iconst 1, (0, 0, 0, 0)),
  (679, 0, .iadd, (0, 0, 0, 0))]
set_option maxRecDepth 100000 in
theorem os_7 : okS code 14 false 680 ll_7 = true := by decide +kernel
theorem ol_7 : okC code 14 false cs_0_7 = true := okC_app ol_8 ll_7 os_7
def ll_6 : List CE := [(568, 0, .iload_n 3, (0, 0, 0, 0)),
  (569, 0, .iconst 1, (0, 0, 0, 0)),
  (570, 0, .iadd, (0, 0, 0, 0)),
  (571, 0, .iaload, (0, 0, 0, 0)),
  (572, 0, .aload_n 0, (0, 0, 0, 0)),
  (573, 0, .iload_n 3, (0, 0, 0, 0)),
  (574, 0, .iconst 2, (0, 0, 0, 0)),
  (575, 0, .iadd, (0, 0, 0, 0)),
  (576, 0, .iaload, (0, 0, 0, 0)),
  (577, 0, .aload_n 0, (0, 0, 0, 0)),
  (578, 0, .iload_n 3, (0, 0, 0, 0)),
  (579, 0, .iconst 3, (0, 0, 0, 0)),
  (580, 0, .iadd, (0, 0, 0, 0)),
  (581, 0, .iaload, (0, 0, 0, 0)),
  (582, 0, .aload_n 0, (0, 0, 0, 0)),
  (583, 0, .iload_n 3, (0, 0, 0, 0)),
  (584, 0, .iconst 4, (0, 0, 0, 0)),
  (585, 0, .iadd, (0, 0, 0, 0)),
  (586, 0, .iaload, (0, 0, 0, 0)),
  (587, 0, .aload_n 0, (0, 0, 0, 0)),
  (588, 0, .iload_n 3, (0, 0, 0, 0)),
  (589, 0, .iconst 5, (0, 0, 0, 0)),
  (590, 0, .iadd, (0, 0, 0, 0)),
  (591, 0, .iaload, (0, 0, 0, 0)),
  (592, 0, .invokevirtual 53, (237, 6, 0, 22)),
  (595, 0, .pop, (0, 0, 0, 0)),
  (596, 0, .goto 1445, (0, 0, 0, 0)),
  (599, 31, .aload_n 1, (0, 0, 0, 0)),
  (600, 0, .aload_n 0, (0, 0, 0, 0)),
  (601, 0, .iload_n 3, (0, 0, 0, 0)),
  (602, 0, .iconst 1, (0, 0, 0, 0)),
  (603, 0, .iadd, (0, 0, 0, 0)),
  (604, 0, .iaload, (0, 0, 0, 0)),
  (605, 0, .aload_n 0, (0, 0, 0, 0)),
  (606, 0, .iload_n 3, (0, 0, 0, 0)),
  (607, 0, .iconst 2, (0, 0, 0, 0)),
  (608, 0, .iadd, (0, 0, 0, 0)),
  (609, 0, .iaload, (0, 0, 0, 0)),
  (610, 0, .aload_n 0, (0, 0, 0, 0)),
  (611, 0, .iload_n 3, (0, 0, 0, 0)),
  (612, 0, .iconst 3, (0, 0, 0, 0)),
  (613, 0, .iadd, (0, 0, 0, 0)),
  (614, 0, .iaload, (0, 0, 0, 0)),
  (615, 0, .invokevirtual 54, (15, 4, 0, 10)),
  (618, 0, .pop, (0, 0, 0, 0)),
  (619, 0, .aload_n 2, (0, 0, 0, 0)),
  (620, 0, .aload_n 0, (0, 0, 0, 0)),
  (621, 0, .iload_n 3, (0, 0, 0, 0))]
set_option maxRecDepth 100000 in
theorem os_6 : okS code 14 false 622 ll_6 = true := by decide +kernel
theorem ol_6 : okC code 14 false cs_0_6 = true := okC_app ol_7 ll_6 os_6
def ll_5 : List CE := [(512, 0, .iadd, (0, 0, 0, 0)),
  (513, 0, .iaload, (0, 0, 0, 0)),
  (514, 0, .invokevirtual 46, (11, 3, 0, 10)),
  (517, 0, .pop, (0, 0, 0, 0)),
  (518, 0, .aload_n 2, (0, 0, 0, 0)),
  (519, 0, .aload_n 0, (0, 0, 0, 0)),
  (520, 0, .iload_n 3, (0, 0, 0, 0)),
  (521, 0, .iconst 1, (0, 0, 0, 0)),
  (522, 0, .iadd, (0, 0, 0, 0)),
  (523, 0, .iaload, (0, 0, 0, 0)),
  (524, 0, .aload_n 0, (0, 0, 0, 0)),
  (525, 0, .iload_n 3, (0, 0, 0, 0)),
  (526, 0, .iconst 2, (0, 0, 0, 0)),
  (527, 0, .iadd, (0, 0, 0, 0)),
  (528, 0, .iaload, (0, 0, 0, 0)),
  (529, 0, .invokevirtual 49, (235, 3, 0, 22)),
  (532, 0, .pop, (0, 0, 0, 0)),
  (533, 0, .goto 1508, (0, 0, 0, 0)),
  (536, 31, .aload_n 1, (0, 0, 0, 0)),
  (537, 0, .aload_n 0, (0, 0, 0, 0)),
  (538, 0, .iload_n 3, (0, 0, 0, 0)),
  (539, 0, .iconst 1, (0, 0, 0, 0)),
  (540, 0, .iadd, (0, 0, 0, 0)),
  (541, 0, .iaload, (0, 0, 0, 0)),
  (542, 0, .aload_n 0, (0, 0, 0, 0)),
  (543, 0, .iload_n 3, (0, 0, 0, 0)),
  (544, 0, .iconst 2, (0, 0, 0, 0)),
  (545, 0, .iadd, (0, 0, 0, 0)),
  (546, 0, .iaload, (0, 0, 0, 0)),
  (547, 0, .aload_n 0, (0, 0, 0, 0)),
  (548, 0, .iload_n 3, (0, 0, 0, 0)),
  (549, 0, .iconst 3, (0, 0, 0, 0)),
  (550, 0, .iadd, (0, 0, 0, 0)),
  (551, 0, .iaload, (0, 0, 0, 0)),
  (552, 0, .aload_n 0, (0, 0, 0, 0)),
  (553, 0, .iload_n 3, (0, 0, 0, 0)),
  (554, 0, .iconst 4, (0, 0, 0, 0)),
  (555, 0, .iadd, (0, 0, 0, 0)),
  (556, 0, .iaload, (0, 0, 0, 0)),
  (557, 0, .aload_n 0, (0, 0, 0, 0)),
  (558, 0, .iload_n 3, (0, 0, 0, 0)),
  (559, 0, .iconst 5, (0, 0, 0, 0)),
  (560, 0, .iadd, (0, 0, 0, 0)),
  (561, 0, .iaload, (0, 0, 0, 0)),
  (562, 0, .invokevirtual 50, (12, 6, 0, 10)),
  (565, 0, .pop, (0, 0, 0, 0)),
  (566, 0, .aload_n 2, (0, 0, 0, 0)),
  (567, 0, .aload_n 0, (0, 0, 0, 0))]
set_option maxRecDepth 100000 in
theorem os_5 : okS code 14 false 568 ll_5 = true := by decide +kernel
theorem ol_5 : okC code 14 false cs_0_5 = true := okC_app ol_6 ll_5 os_5
def ll_4 : List CE := [(454, 0, .iload_n 3, (0, 0, 0, 0)),
  (455, 0, .iconst 2, (0, 0, 0, 0)),
  (456, 0, .iadd, (0, 0, 0, 0)),
  (457, 0, .iaload, (0, 0, 0, 0)),
  (458, 0, .aload_n 0, (0, 0, 0, 0)),
  (459, 0, .iload_n 3, (0, 0, 0, 0)),
  (460, 0, .iconst 3, (0, 0, 0, 0)),
  (461, 0, .iadd, (0, 0, 0, 0)),
  (462, 0, .iaload, (0, 0, 0, 0)),
  (463, 0, .invokevirtual 41, (203, 4, 0, 22)),
  (466, 0, .pop, (0, 0, 0, 0)),
  (467, 0, .goto 1574, (0, 0, 0, 0)),
  (470, 31, .aload_n 1, (0, 0, 0, 0)),
  (471, 0, .aload_n 0, (0, 0, 0, 0)),
  (472, 0, .iload_n 3, (0, 0, 0, 0)),
  (473, 0, .iconst 1, (0, 0, 0, 0)),
  (474, 0, .iadd, (0, 0, 0, 0)),
  (475, 0, .iaload, (0, 0, 0, 0)),
  (476, 0, .aload_n 0, (0, 0, 0, 0)),
  (477, 0, .iload_n 3, (0, 0, 0, 0)),
  (478, 0, .iconst 2, (0, 0, 0, 0)),
  (479, 0, .iadd, (0, 0, 0, 0)),
  (480, 0, .iaload, (0, 0, 0, 0)),
  (481, 0, .invokevirtual 42, (10, 3, 0, 10)),
  (484, 0, .pop, (0, 0, 0, 0)),
  (485, 0, .aload_n 2, (0, 0, 0, 0)),
  (486, 0, .aload_n 0, (0, 0, 0, 0)),
  (487, 0, .iload_n 3, (0, 0, 0, 0)),
  (488, 0, .iconst 1, (0, 0, 0, 0)),
  (489, 0, .iadd, (0, 0, 0, 0)),
  (490, 0, .iaload, (0, 0, 0, 0)),
  (491, 0, .aload_n 0, (0, 0, 0, 0)),
  (492, 0, .iload_n 3, (0, 0, 0, 0)),
  (493, 0, .iconst 2, (0, 0, 0, 0)),
  (494, 0, .iadd, (0, 0, 0, 0)),
  (495, 0, .iaload, (0, 0, 0, 0)),
  (496, 0, .invokevirtual 45, (231, 3, 0, 22)),
  (499, 0, .pop, (0, 0, 0, 0)),
  (500, 0, .goto 1541, (0, 0, 0, 0)),
  (503, 31, .aload_n 1, (0, 0, 0, 0)),
  (504, 0, .aload_n 0, (0, 0, 0, 0)),
  (505, 0, .iload_n 3, (0, 0, 0, 0)),
  (506, 0, .iconst 1, (0, 0, 0, 0)),
  (507, 0, .iadd, (0, 0, 0, 0)),
  (508, 0, .iaload, (0, 0, 0, 0)),
  (509, 0, .aload_n 0, (0, 0, 0, 0)),
  (510, 0, .iload_n 3, (0, 0, 0, 0)),
  (511, 0, .iconst 2, (0, 0, 0, 0))]
set_option maxRecDepth 100000 in
theorem os_4 : okS code 14 false 512 ll_4 = true := by decide +kernel
theorem ol_4 : okC code 14 false cs_0_4 = true := okC_app ol_5 ll_4 os_4
def ll_3 : List CE := [(400, 0, .aload_n 0, (0, 0, 0, 0)),
  (401, 0, .iload_n 3, (0, 0, 0, 0)),
  (402, 0, .iconst 2, (0, 0, 0, 0)),
  (403, 0, .iadd, (0, 0, 0, 0)),
  (404, 0, .iaload, (0, 0, 0, 0)),
  (405, 0, .aload_n 0, (0, 0, 0, 0)),
  (406, 0, .iload_n 3, (0, 0, 0, 0)),
  (407, 0, .iconst 3, (0, 0, 0, 0)),
  (408, 0, .iadd, (0, 0, 0, 0)),
  (409, 0, .iaload, (0, 0, 0, 0)),
  (410, 0, .aload_n 0, (0, 0, 0, 0)),
  (411, 0, .iload_n 3, (0, 0, 0, 0)),
  (412, 0, .iconst 4, (0, 0, 0, 0)),
  (413, 0, .iadd, (0, 0, 0, 0)),
  (414, 0, .iaload, (0, 0, 0, 0)),
  (415, 0, .aload_n 0, (0, 0, 0, 0)),
  (416, 0, .iload_n 3, (0, 0, 0, 0)),
  (417, 0, .iconst 5, (0, 0, 0, 0)),
  (418, 0, .iadd, (0, 0, 0, 0)),
  (419, 0, .iaload, (0, 0, 0, 0)),
  (420, 0, .invokevirtual 36, (201, 6, 0, 22)),
  (423, 0, .pop, (0, 0, 0, 0)),
  (424, 0, .goto 1617, (0, 0, 0, 0)),
  (427, 31, .aload_n 1, (0, 0, 0, 0)),
  (428, 0, .aload_n 0, (0, 0, 0, 0)),
  (429, 0, .iload_n 3, (0, 0, 0, 0)),
  (430, 0, .iconst 1, (0, 0, 0, 0)),
  (431, 0, .iadd, (0, 0, 0, 0)),
  (432, 0, .iaload, (0, 0, 0, 0)),
  (433, 0, .aload_n 0, (0, 0, 0, 0)),
  (434, 0, .iload_n 3, (0, 0, 0, 0)),
  (435, 0, .iconst 2, (0, 0, 0, 0)),
  (436, 0, .iadd, (0, 0, 0, 0)),
  (437, 0, .iaload, (0, 0, 0, 0)),
  (438, 0, .aload_n 0, (0, 0, 0, 0)),
  (439, 0, .iload_n 3, (0, 0, 0, 0)),
  (440, 0, .iconst 3, (0, 0, 0, 0)),
  (441, 0, .iadd, (0, 0, 0, 0)),
  (442, 0, .iaload, (0, 0, 0, 0)),
  (443, 0, .invokevirtual 37, (9, 4, 0, 10)),
  (446, 0, .pop, (0, 0, 0, 0)),
  (447, 0, .aload_n 2, (0, 0, 0, 0)),
  (448, 0, .aload_n 0, (0, 0, 0, 0)),
  (449, 0, .iload_n 3, (0, 0, 0, 0)),
  (450, 0, .iconst 1, (0, 0, 0, 0)),
  (451, 0, .iadd, (0, 0, 0, 0)),
  (452, 0, .iaload, (0, 0, 0, 0)),
  (453, 0, .aload_n 0, (0, 0, 0, 0))]
set_option maxRecDepth 100000 in
theorem os_3 : okS code 14 false 454 ll_3 = true := by decide +kernel
theorem ol_3 : okC code 14 false cs_0_3 = true := okC_app ol_4 ll_3 os_3
def ll_2 : List CE := [(346, 0, .aload_n 2, (0, 0, 0, 0)),
  (347, 0, .aload_n 0, (0, 0, 0, 0)),
  (348, 0, .iload_n 3, (0, 0, 0, 0)),
  (349, 0, .iconst 1, (0, 0, 0, 0)),
  (350, 0, .iadd, (0, 0, 0, 0)),
  (351, 0, .iaload, (0, 0, 0, 0)),
  (352, 0, .aload_n 0, (0, 0, 0, 0)),
  (353, 0, .iload_n 3, (0, 0, 0, 0)),
  (354, 0, .iconst 2, (0, 0, 0, 0)),
  (355, 0, .iadd, (0, 0, 0, 0)),
  (356, 0, .iaload, (0, 0, 0, 0)),
  (357, 0, .invokevirtual 31, (200, 3, 0, 22)),
  (360, 0, .pop, (0, 0, 0, 0)),
  (361, 0, .goto 1680, (0, 0, 0, 0)),
  (364, 31, .aload_n 1, (0, 0, 0, 0)),
  (365, 0, .aload_n 0, (0, 0, 0, 0)),
  (366, 0, .iload_n 3, (0, 0, 0, 0)),
  (367, 0, .iconst 1, (0, 0, 0, 0)),
  (368, 0, .iadd, (0, 0, 0, 0)),
  (369, 0, .iaload, (0, 0, 0, 0)),
  (370, 0, .aload_n 0, (0, 0, 0, 0)),
  (371, 0, .iload_n 3, (0, 0, 0, 0)),
  (372, 0, .iconst 2, (0, 0, 0, 0)),
  (373, 0, .iadd, (0, 0, 0, 0)),
  (374, 0, .iaload, (0, 0, 0, 0)),
  (375, 0, .aload_n 0, (0, 0, 0, 0)),
  (376, 0, .iload_n 3, (0, 0, 0, 0)),
  (377, 0, .iconst 3, (0, 0, 0, 0)),
  (378, 0, .iadd, (0, 0, 0, 0)),
  (379, 0, .iaload, (0, 0, 0, 0)),
  (380, 0, .aload_n 0, (0, 0, 0, 0)),
  (381, 0, .iload_n 3, (0, 0, 0, 0)),
  (382, 0, .iconst 4, (0, 0, 0, 0)),
  (383, 0, .iadd, (0, 0, 0, 0)),
  (384, 0, .iaload, (0, 0, 0, 0)),
  (385, 0, .aload_n 0, (0, 0, 0, 0)),
  (386, 0, .iload_n 3, (0, 0, 0, 0)),
  (387, 0, .iconst 5, (0, 0, 0, 0)),
  (388, 0, .iadd, (0, 0, 0, 0)),
  (389, 0, .iaload, (0, 0, 0, 0)),
  (390, 0, .invokevirtual 32, (7, 6, 0, 10)),
  (393, 0, .pop, (0, 0, 0, 0)),
  (394, 0, .aload_n 2, (0, 0, 0, 0)),
  (395, 0, .aload_n 0, (0, 0, 0, 0)),
  (396, 0, .iload_n 3, (0, 0, 0, 0)),
  (397, 0, .iconst 1, (0, 0, 0, 0)),
  (398, 0, .iadd, (0, 0, 0, 0)),
  (399, 0, .iaload, (0, 0, 0, 0))]
set_option maxRecDepth 100000 in
theorem os_2 : okS code 14 false 400 ll_2 = true := by decide +kernel
theorem ol_2 : okC code 14 false cs_0_2 = true := okC_app ol_3 ll_2 os_2
def ll_1 : List CE := [(286, 0, .aload_n 0, (0, 0, 0, 0)),
  (287, 0, .iload_n 3, (0, 0, 0, 0)),
  (288, 0, .iconst 1, (0, 0, 0, 0)),
  (289, 0, .iadd, (0, 0, 0, 0)),
  (290, 0, .iaload, (0, 0, 0, 0)),
  (291, 0, .invokevirtual 22, (196, 2, 0, 22)),
  (294, 0, .pop, (0, 0, 0, 0)),
  (295, 0, .goto 1746, (0, 0, 0, 0)),
  (298, 31, .aload_n 1, (0, 0, 0, 0)),
  (299, 0, .aload_n 0, (0, 0, 0, 0)),
  (300, 0, .iload_n 3, (0, 0, 0, 0)),
  (301, 0, .iconst 1, (0, 0, 0, 0)),
  (302, 0, .iadd, (0, 0, 0, 0)),
  (303, 0, .iaload, (0, 0, 0, 0)),
  (304, 0, .aload_n 0, (0, 0, 0, 0)),
  (305, 0, .iload_n 3, (0, 0, 0, 0)),
  (306, 0, .iconst 2, (0, 0, 0, 0)),
  (307, 0, .iadd, (0, 0, 0, 0)),
  (308, 0, .iaload, (0, 0, 0, 0)),
  (309, 0, .invokevirtual 23, (5, 3, 0, 10)),
  (312, 0, .pop, (0, 0, 0, 0)),
  (313, 0, .aload_n 2, (0, 0, 0, 0)),
  (314, 0, .aload_n 0, (0, 0, 0, 0)),
  (315, 0, .iload_n 3, (0, 0, 0, 0)),
  (316, 0, .iconst 1, (0, 0, 0, 0)),
  (317, 0, .iadd, (0, 0, 0, 0)),
  (318, 0, .iaload, (0, 0, 0, 0)),
  (319, 0, .aload_n 0, (0, 0, 0, 0)),
  (320, 0, .iload_n 3, (0, 0, 0, 0)),
  (321, 0, .iconst 2, (0, 0, 0, 0)),
  (322, 0, .iadd, (0, 0, 0, 0)),
  (323, 0, .iaload, (0, 0, 0, 0)),
  (324, 0, .invokevirtual 27, (198, 3, 0, 22)),
  (327, 0, .pop, (0, 0, 0, 0)),
  (328, 0, .goto 1713, (0, 0, 0, 0)),
  (331, 31, .aload_n 1, (0, 0, 0, 0)),
  (332, 0, .aload_n 0, (0, 0, 0, 0)),
  (333, 0, .iload_n 3, (0, 0, 0, 0)),
  (334, 0, .iconst 1, (0, 0, 0, 0)),
  (335, 0, .iadd, (0, 0, 0, 0)),
  (336, 0, .iaload, (0, 0, 0, 0)),
  (337, 0, .aload_n 0, (0, 0, 0, 0)),
  (338, 0, .iload_n 3, (0, 0, 0, 0)),
  (339, 0, .iconst 2, (0, 0, 0, 0)),
  (340, 0, .iadd, (0, 0, 0, 0)),
  (341, 0, .iaload, (0, 0, 0, 0)),
  (342, 0, .invokevirtual 28, (6, 3, 0, 10)),
  (345, 0, .pop, (0, 0, 0, 0))]
set_option maxRecDepth 100000 in
theorem os_1 : okS code 14 false 346 ll_1 = true := by decide +kernel
theorem ol_1 : okC code 14 false cs_0_1 = true := okC_app ol_2 ll_1 os_1
def ll_0 : List CE := [(0, 0, .new 7, (0, 14, 0, 0)),
  (3, 0, .dup, (0, 0, 0, 0)),
  (4, 0, .invokespecial 9, (1, 1, 9, 10)),
  (7, 0, .astore_n 1, (0, 0, 0, 0)),
  (8, 0, .new 10, (12, 107, 0, 0)),
  (11, 0, .dup, (0, 0, 0, 0)),
  (12, 0, .invokespecial 12, (193, 1, 9, 22)),
  (15, 0, .astore_n 2, (0, 0, 0, 0)),
  (16, 0, .iconst 0, (0, 0, 0, 0)),
  (17, 0, .istore_n 3, (0, 0, 0, 0)),
  (18, 31, .iload_n 3, (0, 0, 0, 0)),
  (19, 0, .aload_n 0, (0, 0, 0, 0)),
  (20, 0, .arraylength, (0, 0, 0, 0)),
  (21, 0, .bipush 7, (0, 0, 0, 0)),
  (23, 0, .isub, (0, 0, 0, 0)),
  (24, 0, .if_icmp .gt 2023, (0, 0, 0, 0)),
  (27, 0, .aload_n 0, (0, 0, 0, 0)),
  (28, 0, .iload_n 3, (0, 0, 0, 0)),
  (29, 0, .iaload, (0, 0, 0, 0)),
  (30, 0, .bipush 63, (0, 0, 0, 0)),
  (32, 0, .iand, (0, 0, 0, 0)),
  (33, 0, .tableswitch 2008 0 50 #[219, 242, 265, 298, 331, 394, 437, 470, 503, 566, 609, 642, 675, 698, 741, 794, 827, 918, 951, 974, 997, 1066, 1089, 1112, 1145, 1188, 1231, 1264, 1277, 1330, 1343, 1366, 1399, 1448, 1471, 1504, 1547, 1580, 1613, 1646, 1669, 1718, 1741, 1764, 1797, 1840, 1863, 1896, 1929, 1962, 1985], (0, 0, 0, 0)),
  (252, 31, .aload_n 1, (0, 0, 0, 0)),
  (253, 0, .aload_n 0, (0, 0, 0, 0)),
  (254, 0, .iload_n 3, (0, 0, 0, 0)),
  (255, 0, .iconst 1, (0, 0, 0, 0)),
  (256, 0, .iadd, (0, 0, 0, 0)),
  (257, 0, .iaload, (0, 0, 0, 0)),
  (258, 0, .invokevirtual 13, (2, 2, 0, 10)),
  (261, 0, .aload_n 2, (0, 0, 0, 0)),
  (262, 0, .aload_n 0, (0, 0, 0, 0)),
  (263, 0, .iload_n 3, (0, 0, 0, 0)),
  (264, 0, .iconst 1, (0, 0, 0, 0)),
  (265, 0, .iadd, (0, 0, 0, 0)),
  (266, 0, .iaload, (0, 0, 0, 0)),
  (267, 0, .invokevirtual 17, (194, 2, 0, 22)),
  (270, 0, .if_icmp .eq 1771, (0, 0, 0, 0)),
  (273, 0, .iconst 0, (0, 0, 0, 0)),
  (274, 0, .ireturn, (0, 0, 0, 0)),
  (275, 31, .aload_n 1, (0, 0, 0, 0)),
  (276, 0, .aload_n 0, (0, 0, 0, 0)),
  (277, 0, .iload_n 3, (0, 0, 0, 0)),
  (278, 0, .iconst 1, (0, 0, 0, 0)),
  (279, 0, .iadd, (0, 0, 0, 0)),
  (280, 0, .iaload, (0, 0, 0, 0)),
  (281, 0, .invokevirtual 18, (4, 2, 0, 10)),
  (284, 0, .pop, (0, 0, 0, 0)),
  (285, 0, .aload_n 2, (0, 0, 0, 0))]
set_option maxRecDepth 100000 in
theorem os_0 : okS code 14 false 286 ll_0 = true := by decide +kernel
theorem ol_0 : okC code 14 false cs_0 = true := okC_app ol_1 ll_0 os_0
theorem om_0 : okM 0 = true := ol_0
set_option maxRecDepth 100000 in
theorem om_1 : okM 1 = true := by decide +kernel
set_option maxRecDepth 100000 in
theorem om_2 : okM 2 = true := by decide +kernel
set_option maxRecDepth 100000 in
theorem om_3 : okM 3 = true := by decide +kernel
set_option maxRecDepth 100000 in
theorem om_4 : okM 4 = true := by decide +kernel
set_option maxRecDepth 100000 in
theorem om_5 : okM 5 = true := by decide +kernel
set_option maxRecDepth 100000 in
theorem om_6 : okM 6 = true := by decide +kernel
set_option maxRecDepth 100000 in
theorem om_7 : okM 7 = true := by decide +kernel
set_option maxRecDepth 100000 in
theorem om_8 : okM 8 = true := by decide +kernel
set_option maxRecDepth 100000 in
theorem om_9 : okM 9 = true := by decide +kernel
set_option maxRecDepth 100000 in
theorem om_10 : okM 10 = true := by decide +kernel
set_option maxRecDepth 100000 in
theorem om_11 : okM 11 = true := by decide +kernel
set_option maxRecDepth 100000 in
theorem om_12 : okM 12 = true := by decide +kernel
set_option maxRecDepth 100000 in
theorem om_13 : okM 13 = true := by decide +kernel
set_option maxRecDepth 100000 in
theorem om_14 : okM 14 = true := by decide +kernel
set_option maxRecDepth 100000 in
theorem om_15 : okM 15 = true := by decide +kernel
set_option maxRecDepth 100000 in
theorem om_16 : okM 16 = true := by decide +kernel
set_option maxRecDepth 100000 in
theorem om_17 : okM 17 = true := by decide +kernel
set_option maxRecDepth 100000 in
theorem om_18 : okM 18 = true := by decide +kernel
set_option maxRecDepth 100000 in
theorem om_19 : okM 19 = true := by decide +kernel
set_option maxRecDepth 100000 in
theorem om_20 : okM 20 = true := by decide +kernel
set_option maxRecDepth 100000 in
theorem om_21 : okM 21 = true := by decide +kernel
set_option maxRecDepth 100000 in
theorem om_22 : okM 22 = true := by decide +kernel
set_option maxRecDepth 100000 in
theorem om_23 : okM 23 = true := by decide +kernel
set_option maxRecDepth 100000 in
theorem om_24 : okM 24 = true := by decide +kernel
set_option maxRecDepth 100000 in
theorem om_25 : okM 25 = true := by decide +kernel
set_option maxRecDepth 100000 in
theorem om_26 : okM 26 = true := by decide +kernel
set_option maxRecDepth 100000 in
theorem om_27 : okM 27 = true := by decide +kernel
set_option maxRecDepth 100000 in
theorem om_28 : okM 28 = true := by decide +kernel
set_option maxRecDepth 100000 in
theorem om_29 : okM 29 = true := by decide +kernel
set_option maxRecDepth 100000 in
theorem om_30 : okM 30 = true := by decide +kernel
set_option maxRecDepth 100000 in
theorem om_31 : okM 31 = true := by decide +kernel
set_option maxRecDepth 100000 in
theorem om_32 : okM 32 = true := by decide +kernel
set_option maxRecDepth 100000 in
theorem om_33 : okM 33 = true := by decide +kernel
set_option maxRecDepth 100000 in
theorem om_34 : okM 34 = true := by decide +kernel
set_option maxRecDepth 100000 in
theorem om_35 : okM 35 = true := by decide +kernel
set_option maxRecDepth 100000 in
theorem om_36 : okM 36 = true := by decide +kernel
set_option maxRecDepth 100000 in
theorem om_37 : okM 37 = true := by decide +kernel
set_option maxRecDepth 100000 in
theorem om_38 : okM 38 = true := by decide +kernel
set_option maxRecDepth 100000 in
theorem om_39 : okM 39 = true := by decide +kernel
set_option maxRecDepth 100000 in
theorem om_40 : okM 40 = true := by decide +kernel
set_option maxRecDepth 100000 in
theorem om_41 : okM 41 = true := by decide +kernel
set_option maxRecDepth 100000 in
theorem om_42 : okM 42 = true := by decide +kernel
set_option maxRecDepth 100000 in
theorem om_43 : okM 43 = true := by decide +kernel
set_option maxRecDepth 100000 in
theorem om_44 : okM 44 = true := by decide +kernel
set_option maxRecDepth 100000 in
theorem om_45 : okM 45 = true := by decide +kernel
set_option maxRecDepth 100000 in
theorem om_46 : okM 46 = true := by decide +kernel
set_option maxRecDepth 100000 in
theorem om_47 : okM 47 = true := by decide +kernel
set_option maxRecDepth 100000 in
theorem om_48 : okM 48 = true := by decide +kernel
set_option maxRecDepth 100000 in
theorem om_49 : okM 49 = true := by decide +kernel
set_option maxRecDepth 100000 in
theorem om_50 : okM 50 = true := by decide +kernel
set_option maxRecDepth 100000 in
theorem om_51 : okM 51 = true := by decide +kernel
set_option maxRecDepth 100000 in
theorem om_52 : okM 52 = true := by decide +kernel
set_option maxRecDepth 100000 in
theorem om_53 : okM 53 = true := by decide +kernel
set_option maxRecDepth 100000 in
theorem om_54 : okM 54 = true := by decide +kernel
set_option maxRecDepth 100000 in
theorem om_55 : okM 55 = true := by decide +kernel
set_option maxRecDepth 100000 in
theorem om_56 : okM 56 = true := by decide +kernel
set_option maxRecDepth 100000 in
theorem om_57 : okM 57 = true := by decide +kernel
set_option maxRecDepth 100000 in
theorem om_58 : okM 58 = true := by decide +kernel
set_option maxRecDepth 100000 in
theorem om_59 : okM 59 = true := by decide +kernel
set_option maxRecDepth 100000 in
theorem om_60 : okM 60 = true := by decide +kernel
set_option maxRecDepth 100000 in
theorem om_61 : okM 61 = true := by decide +kernel
set_option maxRecDepth 100000 in
theorem om_62 : okM 62 = true := by decide +kernel
set_option maxRecDepth 100000 in
theorem om_63 : okM 63 = true := by decide +kernel
set_option maxRecDepth 100000 in
theorem om_64 : okM 64 = true := by decide +kernel
set_option maxRecDepth 100000 in
theorem om_65 : okM 65 = true := by decide +kernel
set_option maxRecDepth 100000 in
theorem om_66 : okM 66 = true := by decide +kernel
set_option maxRecDepth 100000 in
theorem om_67 : okM 67 = true := by decide +kernel
set_option maxRecDepth 100000 in
theorem om_68 : okM 68 = true := by decide +kernel
set_option maxRecDepth 100000 in
theorem om_69 : okM 69 = true := by decide +kernel
set_option maxRecDepth 100000 in
theorem om_70 : okM 70 = true := by decide +kernel
set_option maxRecDepth 100000 in
theorem om_71 : okM 71 = true := by decide +kernel
set_option maxRecDepth 100000 in
theorem om_72 : okM 72 = true := by decide +kernel
set_option maxRecDepth 100000 in
theorem om_73 : okM 73 = true := by decide +kernel
set_option maxRecDepth 100000 in
theorem om_74 : okM 74 = true := by decide +kernel
set_option maxRecDepth 100000 in
theorem om_75 : okM 75 = true := by decide +kernel
set_option maxRecDepth 100000 in
theorem om_76 : okM 76 = true := by decide +kernel
set_option maxRecDepth 100000 in
theorem om_77 : okM 77 = true := by decide +kernel
set_option maxRecDepth 100000 in
theorem om_78 : okM 78 = true := by decide +kernel
set_option maxRecDepth 100000 in
theorem om_79 : okM 79 = true := by decide +kernel
set_option maxRecDepth 100000 in
theorem om_80 : okM 80 = true := by decide +kernel
set_option maxRecDepth 100000 in
theorem om_81 : okM 81 = true := by decide +kernel
set_option maxRecDepth 100000 in
theorem om_82 : okM 82 = true := by decide +kernel
set_option maxRecDepth 100000 in
theorem om_83 : okM 83 = true := by decide +kernel
set_option maxRecDepth 100000 in
theorem om_84 : okM 84 = true := by decide +kernel
set_option maxRecDepth 100000 in
theorem om_85 : okM 85 = true := by decide +kernel
set_option maxRecDepth 100000 in
theorem om_86 : okM 86 = true := by decide +kernel
set_option maxRecDepth 100000 in
theorem om_87 : okM 87 = true := by decide +kernel
set_option maxRecDepth 100000 in
theorem om_88 : okM 88 = true := by decide +kernel
set_option maxRecDepth 100000 in
theorem om_89 : okM 89 = true := by decide +kernel
set_option maxRecDepth 100000 in
theorem om_90 : okM 90 = true := by decide +kernel
set_option maxRecDepth 100000 in
theorem om_91 : okM 91 = true := by decide +kernel
set_option maxRecDepth 100000 in
theorem om_92 : okM 92 = true := by decide +kernel
set_option maxRecDepth 100000 in
theorem om_93 : okM 93 = true := by decide +kernel
set_option maxRecDepth 100000 in
theorem om_94 : okM 94 = true := by decide +kernel
set_option maxRecDepth 100000 in
theorem om_95 : okM 95 = true := by decide +kernel
set_option maxRecDepth 100000 in
theorem om_96 : okM 96 = true := by decide +kernel
set_option maxRecDepth 100000 in
theorem om_97 : okM 97 = true := by decide +kernel
set_option maxRecDepth 100000 in
theorem om_98 : okM 98 = true := by decide +kernel
set_option maxRecDepth 100000 in
theorem om_99 : okM 99 = true := by decide +kernel
set_option maxRecDepth 100000 in
theorem om_100 : okM 100 = true := by decide +kernel
set_option maxRecDepth 100000 in
theorem om_101 : okM 101 = true := by decide +kernel
set_option maxRecDepth 100000 in
theorem om_102 : okM 102 = true := by decide +kernel
set_option maxRecDepth 100000 in
theorem om_103 : okM 103 = true := by decide +kernel
set_option maxRecDepth 100000 in
theorem om_104 : okM 104 = true := by decide +kernel
set_option maxRecDepth 100000 in
theorem om_105 : okM 105 = true := by decide +kernel
set_option maxRecDepth 100000 in
theorem om_106 : okM 106 = true := by decide +kernel
set_option maxRecDepth 100000 in
theorem om_107 : okM 107 = true := by decide +kernel
set_option maxRecDepth 100000 in
theorem om_108 : okM 108 = true := by decide +kernel
set_option maxRecDepth 100000 in
theorem om_109 : okM 109 = true := by decide +kernel
set_option maxRecDepth 100000 in
theorem om_110 : okM 110 = true := by decide +kernel
set_option maxRecDepth 100000 in
theorem om_111 : okM 111 = true := by decide +kernel
set_option maxRecDepth 100000 in
theorem om_112 : okM 112 = true := by decide +kernel
set_option maxRecDepth 100000 in
theorem om_113 : okM 113 = true := by decide +kernel
set_option maxRecDepth 100000 in
theorem om_114 : okM 114 = true := by decide +kernel
set_option maxRecDepth 100000 in
theorem om_115 : okM 115 = true := by decide +kernel
set_option maxRecDepth 100000 in
theorem om_116 : okM 116 = true := by decide +kernel
set_option maxRecDepth 100000 in
theorem om_117 : okM 117 = true := by decide +kernel
set_option maxRecDepth 100000 in
theorem om_118 : okM 118 = true := by decide +kernel
set_option maxRecDepth 100000 in
theorem om_119 : okM 119 = true := by decide +kernel
set_option maxRecDepth 100000 in
theorem om_120 : okM 120 = true := by decide +kernel
set_option maxRecDepth 100000 in
theorem om_121 : okM 121 = true := by decide +kernel
set_option maxRecDepth 100000 in
theorem om_122 : okM 122 = true := by decide +kernel
set_option maxRecDepth 100000 in
theorem om_123 : okM 123 = true := by decide +kernel
set_option maxRecDepth 100000 in
theorem om_124 : okM 124 = true := by decide +kernel
set_option maxRecDepth 100000 in
theorem om_125 : okM 125 = true := by decide +kernel
set_option maxRecDepth 100000 in
theorem om_126 : okM 126 = true := by decide +kernel
set_option maxRecDepth 100000 in
theorem om_127 : okM 127 = true := by decide +kernel
set_option maxRecDepth 100000 in
theorem om_128 : okM 128 = true := by decide +kernel
set_option maxRecDepth 100000 in
theorem om_129 : okM 129 = true := by decide +kernel
set_option maxRecDepth 100000 in
theorem om_130 : okM 130 = true := by decide +kernel
set_option maxRecDepth 100000 in
theorem om_131 : okM 131 = true := by decide +kernel
set_option maxRecDepth 100000 in
theorem om_132 : okM 132 = true := by decide +kernel
set_option maxRecDepth 100000 in
theorem om_133 : okM 133 = true := by decide +kernel
set_option maxRecDepth 100000 in
theorem om_134 : okM 134 = true := by decide +kernel
set_option maxRecDepth 100000 in
theorem om_135 : okM 135 = true := by decide +kernel
set_option maxRecDepth 100000 in
theorem om_136 : okM 136 = true := by decide +kernel
set_option maxRecDepth 100000 in
theorem om_137 : okM 137 = true := by decide +kernel
set_option maxRecDepth 100000 in
theorem om_138 : okM 138 = true := by decide +kernel
set_option maxRecDepth 100000 in
theorem om_139 : okM 139 = true := by decide +kernel
set_option maxRecDepth 100000 in
theorem om_140 : okM 140 = true := by decide +kernel
set_option maxRecDepth 100000 in
theorem om_141 : okM 141 = true := by decide +kernel
set_option maxRecDepth 100000 in
theorem om_142 : okM 142 = true := by decide +kernel
set_option maxRecDepth 100000 in
theorem om_143 : okM 143 = true := by decide +kernel
set_option maxRecDepth 100000 in
theorem om_144 : okM 144 = true := by decide +kernel
set_option maxRecDepth 100000 in
theorem om_145 : okM 145 = true := by decide +kernel
set_option maxRecDepth 100000 in
theorem om_146 : okM 146 = true := by decide +kernel
set_option maxRecDepth 100000 in
theorem om_147 : okM 147 = true := by decide +kernel
set_option maxRecDepth 100000 in
theorem om_148 : okM 148 = true := by decide +kernel
set_option maxRecDepth 100000 in
theorem om_149 : okM 149 = true := by decide +kernel
set_option maxRecDepth 100000 in
theorem om_150 : okM 150 = true := by decide +kernel
set_option maxRecDepth 100000 in
theorem om_151 : okM 151 = true := by decide +kernel
set_option maxRecDepth 100000 in
theorem om_152 : okM 152 = true := by decide +kernel
set_option maxRecDepth 100000 in
theorem om_153 : okM 153 = true := by decide +kernel
set_option maxRecDepth 100000 in
theorem om_154 : okM 154 = true := by decide +kernel
set_option maxRecDepth 100000 in
theorem om_155 : okM 155 = true := by decide +kernel
set_option maxRecDepth 100000 in
theorem om_156 : okM 156 = true := by decide +kernel
set_option maxRecDepth 100000 in
theorem om_157 : okM 157 = true := by decide +kernel
set_option maxRecDepth 100000 in
theorem om_158 : okM 158 = true := by decide +kernel
set_option maxRecDepth 100000 in
theorem om_159 : okM 159 = true := by decide +kernel
set_option maxRecDepth 100000 in
theorem om_160 : okM 160 = true := by decide +kernel
set_option maxRecDepth 100000 in
theorem om_161 : okM 161 = true := by decide +kernel
set_option maxRecDepth 100000 in
theorem om_162 : okM 162 = true := by decide +kernel
set_option maxRecDepth 100000 in
theorem om_163 : okM 163 = true := by decide +kernel
set_option maxRecDepth 100000 in
theorem om_164 : okM 164 = true := by decide +kernel
set_option maxRecDepth 100000 in
theorem om_165 : okM 165 = true := by decide +kernel
set_option maxRecDepth 100000 in
theorem om_166 : okM 166 = true := by decide +kernel
set_option maxRecDepth 100000 in
theorem om_167 : okM 167 = true := by decide +kernel
set_option maxRecDepth 100000 in
theorem om_168 : okM 168 = true := by decide +kernel
set_option maxRecDepth 100000 in
theorem om_169 : okM 169 = true := by decide +kernel
set_option maxRecDepth 100000 in
theorem om_170 : okM 170 = true := by decide +kernel
set_option maxRecDepth 100000 in
theorem om_171 : okM 171 = true := by decide +kernel
set_option maxRecDepth 100000 in
theorem om_172 : okM 172 = true := by decide +kernel
set_option maxRecDepth 100000 in
theorem om_173 : okM 173 = true := by decide +kernel
set_option maxRecDepth 100000 in
theorem om_174 : okM 174 = true := by decide +kernel
set_option maxRecDepth 100000 in
theorem om_175 : okM 175 = true := by decide +kernel
set_option maxRecDepth 100000 in
theorem om_176 : okM 176 = true := by decide +kernel
set_option maxRecDepth 100000 in
theorem om_177 : okM 177 = true := by decide +kernel
set_option maxRecDepth 100000 in
theorem om_178 : okM 178 = true := by decide +kernel
set_option maxRecDepth 100000 in
theorem om_179 : okM 179 = true := by decide +kernel
set_option maxRecDepth 100000 in
theorem om_180 : okM 180 = true := by decide +kernel
set_option maxRecDepth 100000 in
theorem om_181 : okM 181 = true := by decide +kernel
set_option maxRecDepth 100000 in
theorem om_182 : okM 182 = true := by decide +kernel
set_option maxRecDepth 100000 in
theorem om_183 : okM 183 = true := by decide +kernel
set_option maxRecDepth 100000 in
theorem om_184 : okM 184 = true := by decide +kernel
set_option maxRecDepth 100000 in
theorem om_185 : okM 185 = true := by decide +kernel
set_option maxRecDepth 100000 in
theorem om_186 : okM 186 = true := by decide +kernel
set_option maxRecDepth 100000 in
theorem om_187 : okM 187 = true := by decide +kernel
set_option maxRecDepth 100000 in
theorem om_188 : okM 188 = true := by decide +kernel
set_option maxRecDepth 100000 in
theorem om_189 : okM 189 = true := by decide +kernel
set_option maxRecDepth 100000 in
theorem om_190 : okM 190 = true := by decide +kernel
set_option maxRecDepth 100000 in
theorem om_191 : okM 191 = true := by decide +kernel
set_option maxRecDepth 100000 in
theorem om_192 : okM 192 = true := by decide +kernel
set_option maxRecDepth 100000 in
theorem om_193 : okM 193 = true := by decide +kernel
set_option maxRecDepth 100000 in
theorem om_194 : okM 194 = true := by decide +kernel
set_option maxRecDepth 100000 in
theorem om_195 : okM 195 = true := by decide +kernel
set_option maxRecDepth 100000 in
theorem om_196 : okM 196 = true := by decide +kernel
set_option maxRecDepth 100000 in
theorem om_197 : okM 197 = true := by decide +kernel
set_option maxRecDepth 100000 in
theorem om_198 : okM 198 = true := by decide +kernel
set_option maxRecDepth 100000 in
theorem om_199 : okM 199 = true := by decide +kernel
set_option maxRecDepth 100000 in
theorem om_200 : okM 200 = true := by decide +kernel
set_option maxRecDepth 100000 in
theorem om_201 : okM 201 = true := by decide +kernel
set_option maxRecDepth 100000 in
theorem om_202 : okM 202 = true := by decide +kernel
set_option maxRecDepth 100000 in
theorem om_203 : okM 203 = true := by decide +kernel
set_option maxRecDepth 100000 in
theorem om_204 : okM 204 = true := by decide +kernel
set_option maxRecDepth 100000 in
theorem om_205 : okM 205 = true := by decide +kernel
set_option maxRecDepth 100000 in
theorem om_206 : okM 206 = true := by decide +kernel
set_option maxRecDepth 100000 in
theorem om_207 : okM 207 = true := by decide +kernel
set_option maxRecDepth 100000 in
theorem om_208 : okM 208 = true := by decide +kernel
set_option maxRecDepth 100000 in
theorem om_209 : okM 209 = true := by decide +kernel
set_option maxRecDepth 100000 in
theorem om_210 : okM 210 = true := by decide +kernel
set_option maxRecDepth 100000 in
theorem om_211 : okM 211 = true := by decide +kernel
set_option maxRecDepth 100000 in
theorem om_212 : okM 212 = true := by decide +kernel
set_option maxRecDepth 100000 in
theorem om_213 : okM 213 = true := by decide +kernel
set_option maxRecDepth 100000 in
theorem om_214 : okM 214 = true := by decide +kernel
set_option maxRecDepth 100000 in
theorem om_215 : okM 215 = true := by decide +kernel
set_option maxRecDepth 100000 in
theorem om_216 : okM 216 = true := by decide +kernel
set_option maxRecDepth 100000 in
theorem om_217 : okM 217 = true := by decide +kernel
set_option maxRecDepth 100000 in
theorem om_218 : okM 218 = true := by decide +kernel
set_option maxRecDepth 100000 in
theorem om_219 : okM 219 = true := by decide +kernel
set_option maxRecDepth 100000 in
theorem om_220 : okM 220 = true := by decide +kernel
set_option maxRecDepth 100000 in
theorem om_221 : okM 221 = true := by decide +kernel
set_option maxRecDepth 100000 in
theorem om_222 : okM 222 = true := by decide +kernel
set_option maxRecDepth 100000 in
theorem om_223 : okM 223 = true := by decide +kernel
set_option maxRecDepth 100000 in
theorem om_224 : okM 224 = true := by decide +kernel
set_option maxRecDepth 100000 in
theorem om_225 : okM 225 = true := by decide +kernel
set_option maxRecDepth 100000 in
theorem om_226 : okM 226 = true := by decide +kernel
set_option maxRecDepth 100000 in
theorem om_227 : okM 227 = true := by decide +kernel
set_option maxRecDepth 100000 in
theorem om_228 : okM 228 = true := by decide +kernel
set_option maxRecDepth 100000 in
theorem om_229 : okM 229 = true := by decide +kernel
set_option maxRecDepth 100000 in
theorem om_230 : okM 230 = true := by decide +kernel
set_option maxRecDepth 100000 in
theorem om_231 : okM 231 = true := by decide +kernel
set_option maxRecDepth 100000 in
theorem om_232 : okM 232 = true := by decide +kernel
set_option maxRecDepth 100000 in
theorem om_233 : okM 233 = true := by decide +kernel
set_option maxRecDepth 100000 in
theorem om_234 : okM 234 = true := by decide +kernel
set_option maxRecDepth 100000 in
theorem om_235 : okM 235 = true := by decide +kernel
set_option maxRecDepth 100000 in
theorem om_236 : okM 236 = true := by decide +kernel
set_option maxRecDepth 100000 in
theorem om_237 : okM 237 = true := by decide +kernel
set_option maxRecDepth 100000 in
theorem om_238 : okM 238 = true := by decide +kernel
set_option maxRecDepth 100000 in
theorem om_239 : okM 239 = true := by decide +kernel
set_option maxRecDepth 100000 in
theorem om_240 : okM 240 = true := by decide +kernel
set_option maxRecDepth 100000 in
theorem om_241 : okM 241 = true := by decide +kernel
set_option maxRecDepth 100000 in
theorem om_242 : okM 242 = true := by decide +kernel
set_option maxRecDepth 100000 in
theorem om_243 : okM 243 = true := by decide +kernel
set_option maxRecDepth 100000 in
theorem om_244 : okM 244 = true := by decide +kernel
set_option maxRecDepth 100000 in
theorem om_245 : okM 245 = true := by decide +kernel
set_option maxRecDepth 100000 in
theorem om_246 : okM 246 = true := by decide +kernel
set_option maxRecDepth 100000 in
theorem om_247 : okM 247 = true := by decide +kernel
set_option maxRecDepth 100000 in
theorem om_248 : okM 248 = true := by decide +kernel
set_option maxRecDepth 100000 in
theorem om_249 : okM 249 = true := by decide +kernel
set_option maxRecDepth 100000 in
theorem om_250 : okM 250 = true := by decide +kernel
set_option maxRecDepth 100000 in
theorem om_251 : okM 251 = true := by decide +kernel
set_option maxRecDepth 100000 in
theorem om_252 : okM 252 = true := by decide +kernel
set_option maxRecDepth 100000 in
theorem om_253 : okM 253 = true := by decide +kernel
set_option maxRecDepth 100000 in
theorem om_254 : okM 254 = true := by decide +kernel
set_option maxRecDepth 100000 in
theorem om_255 : okM 255 = true := by decide +kernel
set_option maxRecDepth 100000 in
theorem om_256 : okM 256 = true := by decide +kernel
set_option maxRecDepth 100000 in
theorem om_257 : okM 257 = true := by decide +kernel
set_option maxRecDepth 100000 in
theorem om_258 : okM 258 = true := by decide +kernel
set_option maxRecDepth 100000 in
theorem om_259 : okM 259 = true := by decide +kernel
set_option maxRecDepth 100000 in
theorem om_260 : okM 260 = true := by decide +kernel
set_option maxRecDepth 100000 in
theorem om_261 : okM 261 = true := by decide +kernel
set_option maxRecDepth 100000 in
theorem om_262 : okM 262 = true := by decide +kernel
set_option maxRecDepth 100000 in
theorem om_263 : okM 263 = true := by decide +kernel
set_option maxRecDepth 100000 in
theorem om_264 : okM 264 = true := by decide +kernel
set_option maxRecDepth 100000 in
theorem om_265 : okM 265 = true := by decide +kernel
set_option maxRecDepth 100000 in
theorem om_266 : okM 266 = true := by decide +kernel
set_option maxRecDepth 100000 in
theorem om_267 : okM 267 = true := by decide +kernel
set_option maxRecDepth 100000 in
theorem om_268 : okM 268 = true := by decide +kernel
set_option maxRecDepth 100000 in
theorem om_269 : okM 269 = true := by decide +kernel
set_option maxRecDepth 100000 in
theorem om_270 : okM 270 = true := by decide +kernel
set_option maxRecDepth 100000 in
theorem om_271 : okM 271 = true := by decide +kernel
set_option maxRecDepth 100000 in
theorem om_272 : okM 272 = true := by decide +kernel
set_option maxRecDepth 100000 in
theorem om_273 : okM 273 = true := by decide +kernel
set_option maxRecDepth 100000 in
theorem om_274 : okM 274 = true := by decide +kernel
set_option maxRecDepth 100000 in
theorem om_275 : okM 275 = true := by decide +kernel
set_option maxRecDepth 100000 in
theorem om_276 : okM 276 = true := by decide +kernel
set_option maxRecDepth 100000 in
theorem om_277 : okM 277 = true := by decide +kernel
set_option maxRecDepth 100000 in
theorem om_278 : okM 278 = true := by decide +kernel
set_option maxRecDepth 100000 in
theorem om_279 : okM 279 = true := by decide +kernel
set_option maxRecDepth 100000 in
theorem om_280 : okM 280 = true := by decide +kernel
set_option maxRecDepth 100000 in
theorem om_281 : okM 281 = true := by decide +kernel
set_option maxRecDepth 100000 in
theorem om_282 : okM 282 = true := by decide +kernel
set_option maxRecDepth 100000 in
theorem om_283 : okM 283 = true := by decide +kernel
set_option maxRecDepth 100000 in
theorem om_284 : okM 284 = true := by decide +kernel
set_option maxRecDepth 100000 in
theorem om_285 : okM 285 = true := by decide +kernel
set_option maxRecDepth 100000 in
theorem om_286 : okM 286 = true := by decide +kernel
set_option maxRecDepth 100000 in
theorem om_287 : okM 287 = true := by decide +kernel
set_option maxRecDepth 100000 in
theorem om_288 : okM 288 = true := by decide +kernel
set_option maxRecDepth 100000 in
theorem om_289 : okM 289 = true := by decide +kernel
set_option maxRecDepth 100000 in
theorem om_290 : okM 290 = true := by decide +kernel
set_option maxRecDepth 100000 in
theorem om_291 : okM 291 = true := by decide +kernel
set_option maxRecDepth 100000 in
theorem om_292 : okM 292 = true := by decide +kernel
set_option maxRecDepth 100000 in
theorem om_293 : okM 293 = true := by decide +kernel
set_option maxRecDepth 100000 in
theorem om_294 : okM 294 = true := by decide +kernel
set_option maxRecDepth 100000 in
theorem om_295 : okM 295 = true := by decide +kernel
set_option maxRecDepth 100000 in
theorem om_296 : okM 296 = true := by decide +kernel
set_option maxRecDepth 100000 in
theorem om_297 : okM 297 = true := by decide +kernel
set_option maxRecDepth 100000 in
theorem om_298 : okM 298 = true := by decide +kernel
set_option maxRecDepth 100000 in
theorem om_299 : okM 299 = true := by decide +kernel
set_option maxRecDepth 100000 in
theorem om_300 : okM 300 = true := by decide +kernel
set_option maxRecDepth 100000 in
theorem om_301 : okM 301 = true := by decide +kernel
set_option maxRecDepth 100000 in
theorem om_302 : okM 302 = true := by decide +kernel
set_option maxRecDepth 100000 in
theorem om_303 : okM 303 = true := by decide +kernel
set_option maxRecDepth 100000 in
theorem om_304 : okM 304 = true := by decide +kernel
set_option maxRecDepth 100000 in
theorem om_305 : okM 305 = true := by decide +kernel
set_option maxRecDepth 100000 in
theorem om_306 : okM 306 = true := by decide +kernel
set_option maxRecDepth 100000 in
theorem om_307 : okM 307 = true := by decide +kernel
set_option maxRecDepth 100000 in
theorem om_308 : okM 308 = true := by decide +kernel
set_option maxRecDepth 100000 in
theorem om_309 : okM 309 = true := by decide +kernel
set_option maxRecDepth 100000 in
theorem om_310 : okM 310 = true := by decide +kernel
set_option maxRecDepth 100000 in
theorem om_311 : okM 311 = true := by decide +kernel
set_option maxRecDepth 100000 in
theorem om_312 : okM 312 = true := by decide +kernel
set_option maxRecDepth 100000 in
theorem om_313 : okM 313 = true := by decide +kernel
set_option maxRecDepth 100000 in
theorem om_314 : okM 314 = true := by decide +kernel
set_option maxRecDepth 100000 in
theorem om_315 : okM 315 = true := by decide +kernel
set_option maxRecDepth 100000 in
theorem om_316 : okM 316 = true := by decide +kernel
set_option maxRecDepth 100000 in
theorem om_317 : okM 317 = true := by decide +kernel
set_option maxRecDepth 100000 in
theorem om_318 : okM 318 = true := by decide +kernel
set_option maxRecDepth 100000 in
theorem om_319 : okM 319 = true := by decide +kernel
set_option maxRecDepth 100000 in
theorem om_320 : okM 320 = true := by decide +kernel
set_option maxRecDepth 100000 in
theorem om_321 : okM 321 = true := by decide +kernel
set_option maxRecDepth 100000 in
theorem om_322 : okM 322 = true := by decide +kernel
set_option maxRecDepth 100000 in
theorem om_323 : okM 323 = true := by decide +kernel
set_option maxRecDepth 100000 in
theorem om_324 : okM 324 = true := by decide +kernel
set_option maxRecDepth 100000 in
theorem om_325 : okM 325 = true := by decide +kernel
set_option maxRecDepth 100000 in
theorem om_326 : okM 326 = true := by decide +kernel
set_option maxRecDepth 100000 in
theorem om_327 : okM 327 = true := by decide +kernel
set_option maxRecDepth 100000 in
theorem om_328 : okM 328 = true := by decide +kernel
set_option maxRecDepth 100000 in
theorem om_329 : okM 329 = true := by decide +kernel
set_option maxRecDepth 100000 in
theorem om_330 : okM 330 = true := by decide +kernel
set_option maxRecDepth 100000 in
theorem om_331 : okM 331 = true := by decide +kernel
set_option maxRecDepth 100000 in
theorem om_332 : okM 332 = true := by decide +kernel
set_option maxRecDepth 100000 in
theorem om_333 : okM 333 = true := by decide +kernel
set_option maxRecDepth 100000 in
theorem om_334 : okM 334 = true := by decide +kernel
set_option maxRecDepth 100000 in
theorem om_335 : okM 335 = true := by decide +kernel
set_option maxRecDepth 100000 in
theorem om_336 : okM 336 = true := by decide +kernel
set_option maxRecDepth 100000 in
theorem om_337 : okM 337 = true := by decide +kernel
theorem omg_0 : ∀ m ∈ [0, 1, 2, 3, 4, 5, 6, 7, 8, 9, 10, 11, 12, 13, 14, 15, 16, 17, 18, 19], okM m = true := List.forall_mem_cons.mpr ⟨om_0, List.forall_mem_cons.mpr ⟨om_1, List.forall_mem_cons.mpr ⟨om_2, List.forall_mem_cons.mpr ⟨om_3, List.forall_mem_cons.mpr ⟨om_4, List.forall_mem_cons.mpr ⟨om_5, List.forall_mem_cons.mpr ⟨om_6, List.forall_mem_cons.mpr ⟨om_7, List.forall_mem_cons.mpr ⟨om_8, List.forall_mem_cons.mpr ⟨om_9, List.forall_mem_cons.mpr ⟨om_10, List.forall_mem_cons.mpr ⟨om_11, List.forall_mem_cons.mpr ⟨om_12, List.forall_mem_cons.mpr ⟨om_13, List.forall_mem_cons.mpr ⟨om_14, List.forall_mem_cons.mpr ⟨om_15, List.forall_mem_cons.mpr ⟨om_16, List.forall_mem_cons.mpr ⟨om_17, List.forall_mem_cons.mpr ⟨om_18, List.forall_mem_cons.mpr ⟨om_19, fun _ h => absurd h List.not_mem_nil⟩⟩⟩⟩⟩⟩⟩⟩⟩⟩⟩⟩⟩⟩⟩⟩⟩⟩⟩⟩
theorem omg_1 : ∀ m ∈ [20, 21, 22, 23, 24, 25, 26, 27, 28, 29, 30, 31, 32, 33, 34, 35, 36, 37, 38, 39], okM m = true := List.forall_mem_cons.mpr ⟨om_20, List.forall_mem_cons.mpr ⟨om_21, List.forall_mem_cons.mpr ⟨om_22, List.forall_mem_cons.mpr ⟨om_23, List.forall_mem_cons.mpr ⟨om_24, List.forall_mem_cons.mpr ⟨om_25, List.forall_mem_cons.mpr ⟨om_26, List.forall_mem_cons.mpr ⟨om_27, List.forall_mem_cons.mpr ⟨om_28, List.forall_mem_cons.mpr ⟨om_29, List.forall_mem_cons.mpr ⟨om_30, List.forall_mem_cons.mpr ⟨om_31, List.forall_mem_cons.mpr ⟨om_32, List.forall_mem_cons.mpr ⟨om_33, List.forall_mem_cons.mpr ⟨om_34, List.forall_mem_cons.mpr ⟨om_35, List.forall_mem_cons.mpr ⟨om_36, List.forall_mem_cons.mpr ⟨om_37, List.forall_mem_cons.mpr ⟨om_38, List.forall_mem_cons.mpr ⟨om_39, fun _ h => absurd h List.not_mem_nil⟩⟩⟩⟩⟩⟩⟩⟩⟩⟩⟩⟩⟩⟩⟩⟩⟩⟩⟩⟩
theorem omg_2 : ∀ m ∈ [40, 41, 42, 43, 44, 45, 46, 47, 48, 49, 50, 51, 52, 53, 54, 55, 56, 57, 58, 59], okM m = true := List.forall_mem_cons.mpr ⟨om_40, List.forall_mem_cons.mpr ⟨om_41, List.forall_mem_cons.mpr ⟨om_42, List.forall_mem_cons.mpr ⟨om_43, List.forall_mem_cons.mpr ⟨om_44, List.forall_mem_cons.mpr ⟨om_45, List.forall_mem_cons.mpr ⟨om_46, List.forall_mem_cons.mpr ⟨om_47, List.forall_mem_cons.mpr ⟨om_48, List.forall_mem_cons.mpr ⟨om_49, List.forall_mem_cons.mpr ⟨om_50, List.forall_mem_cons.mpr ⟨om_51, List.forall_mem_cons.mpr ⟨om_52, List.forall_mem_cons.mpr ⟨om_53, List.forall_mem_cons.mpr ⟨om_54, List.forall_mem_cons.mpr ⟨om_55, List.forall_mem_cons.mpr ⟨om_56, List.forall_mem_cons.mpr ⟨om_57, List.forall_mem_cons.mpr ⟨om_58, List.forall_mem_cons.mpr ⟨om_59, fun _ h => absurd h List.not_mem_nil⟩⟩⟩⟩⟩⟩⟩⟩⟩⟩⟩⟩⟩⟩⟩⟩⟩⟩⟩⟩
theorem omg_3 : ∀ m ∈ [60, 61, 62, 63, 64, 65, 66, 67, 68, 69, 70, 71, 72, 73, 74, 75, 76, 77, 78, 79], okM m = true := List.forall_mem_cons.mpr ⟨om_60, List.forall_mem_cons.mpr ⟨om_61, List.forall_mem_cons.mpr ⟨om_62, List.forall_mem_cons.mpr ⟨om_63, List.forall_mem_cons.mpr ⟨om_64, List.forall_mem_cons.mpr ⟨om_65, List.forall_mem_cons.mpr ⟨om_66, List.forall_mem_cons.mpr ⟨om_67, List.forall_mem_cons.mpr ⟨om_68, List.forall_mem_cons.mpr ⟨om_69, List.forall_mem_cons.mpr ⟨om_70, List.forall_mem_cons.mpr ⟨om_71, List.forall_mem_cons.mpr ⟨om_72, List.forall_mem_cons.mpr ⟨om_73, List.forall_mem_cons.mpr ⟨om_74, List.forall_mem_cons.mpr ⟨om_75, List.forall_mem_cons.mpr ⟨om_76, List.forall_mem_cons.mpr ⟨om_77, List.forall_mem_cons.mpr ⟨om_78, List.forall_mem_cons.mpr ⟨om_79, fun _ h => absurd h List.not_mem_nil⟩⟩⟩⟩⟩⟩⟩⟩⟩⟩⟩⟩⟩⟩⟩⟩⟩⟩⟩⟩
theorem omg_4 : ∀ m ∈ [80, 81, 82, 83, 84, 85, 86, 87, 88, 89, 90, 91, 92, 93, 94, 95, 96, 97, 98, 99], okM m = true := List.forall_mem_cons.mpr ⟨om_80, List.forall_mem_cons.mpr ⟨om_81, List.forall_mem_cons.mpr ⟨om_82, List.forall_mem_cons.mpr ⟨om_83, List.forall_mem_cons.mpr ⟨om_84, List.forall_mem_cons.mpr ⟨om_85, List.forall_mem_cons.mpr ⟨om_86, List.forall_mem_cons.mpr ⟨om_87, List.forall_mem_cons.mpr ⟨om_88, List.forall_mem_cons.mpr ⟨om_89, List.forall_mem_cons.mpr ⟨om_90, List.forall_mem_cons.mpr ⟨om_91, List.forall_mem_cons.mpr ⟨om_92, List.forall_mem_cons.mpr ⟨om_93, List.forall_mem_cons.mpr ⟨om_94, List.forall_mem_cons.mpr ⟨om_95, List.forall_mem_cons.mpr ⟨om_96, List.forall_mem_cons.mpr ⟨om_97, List.forall_mem_cons.mpr ⟨om_98, List.forall_mem_cons.mpr ⟨om_99, fun _ h => absurd h List.not_mem_nil⟩⟩⟩⟩⟩⟩⟩⟩⟩⟩⟩⟩⟩⟩⟩⟩⟩⟩⟩⟩
theorem omg_5 : ∀ m ∈ [100, 101, 102, 103, 104, 105, 106, 107, 108, 109, 110, 111, 112, 113, 114, 115, 116, 117, 118, 119], okM m = true := List.forall_mem_cons.mpr ⟨om_100, List.forall_mem_cons.mpr ⟨om_101, List.forall_mem_cons.mpr ⟨om_102, List.forall_mem_cons.mpr ⟨om_103, List.forall_mem_cons.mpr ⟨om_104, List.forall_mem_cons.mpr ⟨om_105, List.forall_mem_cons.mpr ⟨om_106, List.forall_mem_cons.mpr ⟨om_107, List.forall_mem_cons.mpr ⟨om_108, List.forall_mem_cons.mpr ⟨om_109, List.forall_mem_cons.mpr ⟨om_110, List.forall_mem_cons.mpr ⟨om_111, List.forall_mem_cons.mpr ⟨om_112, List.forall_mem_cons.mpr ⟨om_113, List.forall_mem_cons.mpr ⟨om_114, List.forall_mem_cons.mpr ⟨om_115, List.forall_mem_cons.mpr ⟨om_116, List.forall_mem_cons.mpr ⟨om_117, List.forall_mem_cons.mpr ⟨om_118, List.forall_mem_cons.mpr ⟨om_119, fun _ h => absurd h List.not_mem_nil⟩⟩⟩⟩⟩⟩⟩⟩⟩⟩⟩⟩⟩⟩⟩⟩⟩⟩⟩⟩
theorem omg_6 : ∀ m ∈ [120, 121, 122, 123, 124, 125, 126, 127, 128, 129, 130, 131, 132, 133, 134, 135, 136, 137, 138, 139], okM m = true := List.forall_mem_cons.mpr ⟨om_120, List.forall_mem_cons.mpr ⟨om_121, List.forall_mem_cons.mpr ⟨om_122, List.forall_mem_cons.mpr ⟨om_123, List.forall_mem_cons.mpr ⟨om_124, List.forall_mem_cons.mpr ⟨om_125, List.forall_mem_cons.mpr ⟨om_126, List.forall_mem_cons.mpr ⟨om_127, List.forall_mem_cons.mpr ⟨om_128, List.forall_mem_cons.mpr ⟨om_129, List.forall_mem_cons.mpr ⟨om_130, List.forall_mem_cons.mpr ⟨om_131, List.forall_mem_cons.mpr ⟨om_132, List.forall_mem_cons.mpr ⟨om_133, List.forall_mem_cons.mpr ⟨om_134, List.forall_mem_cons.mpr ⟨om_135, List.forall_mem_cons.mpr ⟨om_136, List.forall_mem_cons.mpr ⟨om_137, List.forall_mem_cons.mpr ⟨om_138, List.forall_mem_cons.mpr ⟨om_139, fun _ h => absurd h List.not_mem_nil⟩⟩⟩⟩⟩⟩⟩⟩⟩⟩⟩⟩⟩⟩⟩⟩⟩⟩⟩⟩
theorem omg_7 : ∀ m ∈ [140, 141, 142, 143, 144, 145, 146, 147, 148, 149, 150, 151, 152, 153, 154, 155, 156, 157, 158, 159], okM m = true := List.forall_mem_cons.mpr ⟨om_140, List.forall_mem_cons.mpr ⟨om_141, List.forall_mem_cons.mpr ⟨om_142, List.forall_mem_cons.mpr ⟨om_143, List.forall_mem_cons.mpr ⟨om_144, List.forall_mem_cons.mpr ⟨om_145, List.forall_mem_cons.mpr ⟨om_146, List.forall_mem_cons.mpr ⟨om_147, List.forall_mem_cons.mpr ⟨om_148, List.forall_mem_cons.mpr ⟨om_149, List.forall_mem_cons.mpr ⟨om_150, List.forall_mem_cons.mpr ⟨om_151, List.forall_mem_cons.mpr ⟨om_152, List.forall_mem_cons.mpr ⟨om_153, List.forall_mem_cons.mpr ⟨om_154, List.forall_mem_cons.mpr ⟨om_155, List.forall_mem_cons.mpr ⟨om_156, List.forall_mem_cons.mpr ⟨om_157, List.forall_mem_cons.mpr ⟨om_158, List.forall_mem_cons.mpr ⟨om_159, fun _ h => absurd h List.not_mem_nil⟩⟩⟩⟩⟩⟩⟩⟩⟩⟩⟩⟩⟩⟩⟩⟩⟩⟩⟩⟩
theorem omg_8 : ∀ m ∈ [160, 161, 162, 163, 164, 165, 166, 167, 168, 169, 170, 171, 172, 173, 174, 175, 176, 177, 178, 179], okM m = true := List.forall_mem_cons.mpr ⟨om_160, List.forall_mem_cons.mpr ⟨om_161, List.forall_mem_cons.mpr ⟨om_162, List.forall_mem_cons.mpr ⟨om_163, List.forall_mem_cons.mpr ⟨om_164, List.forall_mem_cons.mpr ⟨om_165, List.forall_mem_cons.mpr ⟨om_166, List.forall_mem_cons.mpr ⟨om_167, List.forall_mem_cons.mpr ⟨om_168, List.forall_mem_cons.mpr ⟨om_169, List.forall_mem_cons.mpr ⟨om_170, List.forall_mem_cons.mpr ⟨om_171, List.forall_mem_cons.mpr ⟨om_172, List.forall_mem_cons.mpr ⟨om_173, List.forall_mem_cons.mpr ⟨om_174, List.forall_mem_cons.mpr ⟨om_175, List.forall_mem_cons.mpr ⟨om_176, List.forall_mem_cons.mpr ⟨om_177, List.forall_mem_cons.mpr ⟨om_178, List.forall_mem_cons.mpr ⟨om_179, fun _ h => absurd h List.not_mem_nil⟩⟩⟩⟩⟩⟩⟩⟩⟩⟩⟩⟩⟩⟩⟩⟩⟩⟩⟩⟩
theorem omg_9 : ∀ m ∈ [180, 181, 182, 183, 184, 185, 186, 187, 188, 189, 190, 191, 192, 193, 194, 195, 196, 197, 198, 199], okM m = true := List.forall_mem_cons.mpr ⟨om_180, List.forall_mem_cons.mpr ⟨om_181, List.forall_mem_cons.mpr ⟨om_182, List.forall_mem_cons.mpr ⟨om_183, List.forall_mem_cons.mpr ⟨om_184, List.forall_mem_cons.mpr ⟨om_185, List.forall_mem_cons.mpr ⟨om_186, List.forall_mem_cons.mpr ⟨om_187, List.forall_mem_cons.mpr ⟨om_188, List.forall_mem_cons.mpr ⟨om_189, List.forall_mem_cons.mpr ⟨om_190, List.forall_mem_cons.mpr ⟨om_191, List.forall_mem_cons.mpr ⟨om_192, List.forall_mem_cons.mpr ⟨om_193, List.forall_mem_cons.mpr ⟨om_194, List.forall_mem_cons.mpr ⟨om_195, List.forall_mem_cons.mpr ⟨om_196, List.forall_mem_cons.mpr ⟨om_197, List.forall_mem_cons.mpr ⟨om_198, List.forall_mem_cons.mpr ⟨om_199, fun _ h => absurd h List.not_mem_nil⟩⟩⟩⟩⟩⟩⟩⟩⟩⟩⟩⟩⟩⟩⟩⟩⟩⟩⟩⟩
theorem omg_10 : ∀ m ∈ [200, 201, 202, 203, 204, 205, 206, 207, 208, 209, 210, 211, 212, 213, 214, 215, 216, 217, 218, 219], okM m = true := List.forall_mem_cons.mpr ⟨om_200, List.forall_mem_cons.mpr ⟨om_201, List.forall_mem_cons.mpr ⟨om_202, List.forall_mem_cons.mpr ⟨om_203, List.forall_mem_cons.mpr ⟨om_204, List.forall_mem_cons.mpr ⟨om_205, List.forall_mem_cons.mpr ⟨om_206, List.forall_mem_cons.mpr ⟨om_207, List.forall_mem_cons.mpr ⟨om_208, List.forall_mem_cons.mpr ⟨om_209, List.forall_mem_cons.mpr ⟨om_210, List.forall_mem_cons.mpr ⟨om_211, List.forall_mem_cons.mpr ⟨om_212, List.forall_mem_cons.mpr ⟨om_213, List.forall_mem_cons.mpr ⟨om_214, List.forall_mem_cons.mpr ⟨om_215, List.forall_mem_cons.mpr ⟨om_216, List.forall_mem_cons.mpr ⟨om_217, List.forall_mem_cons.mpr ⟨om_218, List.forall_mem_cons.mpr ⟨om_219, fun _ h => absurd h List.not_mem_nil⟩⟩⟩⟩⟩⟩⟩⟩⟩⟩⟩⟩⟩⟩⟩⟩⟩⟩⟩⟩
theorem omg_11 : ∀ m ∈ [220, 221, 222, 223, 224, 225, 226, 227, 228, 229, 230, 231, 232, 233, 234, 235, 236, 237, 238, 239], okM m = true := List.forall_mem_cons.mpr ⟨om_220, List.forall_mem_cons.mpr ⟨om_221, List.forall_mem_cons.mpr ⟨om_222, List.forall_mem_cons.mpr ⟨om_223, List.forall_mem_cons.mpr ⟨om_224, List.forall_mem_cons.mpr ⟨om_225, List.forall_mem_cons.mpr ⟨om_226, List.forall_mem_cons.mpr ⟨om_227, List.forall_mem_cons.mpr ⟨om_228, List.forall_mem_cons.mpr ⟨om_229, List.forall_mem_cons.mpr ⟨om_230, List.forall_mem_cons.mpr ⟨om_231, List.forall_mem_cons.mpr ⟨om_232, List.forall_mem_cons.mpr ⟨om_233, List.forall_mem_cons.mpr ⟨om_234, List.forall_mem_cons.mpr ⟨om_235, List.forall_mem_cons.mpr ⟨om_236, List.forall_mem_cons.mpr ⟨om_237, List.forall_mem_cons.mpr ⟨om_238, List.forall_mem_cons.mpr ⟨om_239, fun _ h => absurd h List.not_mem_nil⟩⟩⟩⟩⟩⟩⟩⟩⟩⟩⟩⟩⟩⟩⟩⟩⟩⟩⟩⟩
theorem omg_12 : ∀ m ∈ [240, 241, 242, 243, 244, 245, 246, 247, 248, 249, 250, 251, 252, 253, 254, 255, 256, 257, 258, 259], okM m = true := List.forall_mem_cons.mpr ⟨om_240, List.forall_mem_cons.mpr ⟨om_241, List.forall_mem_cons.mpr ⟨om_242, List.forall_mem_cons.mpr ⟨om_243, List.forall_mem_cons.mpr ⟨om_244, List.forall_mem_cons.mpr ⟨om_245, List.forall_mem_cons.mpr ⟨om_246, List.forall_mem_cons.mpr ⟨om_247, List.forall_mem_cons.mpr ⟨om_248, List.forall_mem_cons.mpr ⟨om_249, List.forall_mem_cons.mpr ⟨om_250, List.forall_mem_cons.mpr ⟨om_251, List.forall_mem_cons.mpr ⟨om_252, List.forall_mem_cons.mpr ⟨om_253, List.forall_mem_cons.mpr ⟨om_254, List.forall_mem_cons.mpr ⟨om_255, List.forall_mem_cons.mpr ⟨om_256, List.forall_mem_cons.mpr ⟨om_257, List.forall_mem_cons.mpr ⟨om_258, List.forall_mem_cons.mpr ⟨om_259, fun _ h => absurd h List.not_mem_nil⟩⟩⟩⟩⟩⟩⟩⟩⟩⟩⟩⟩⟩⟩⟩⟩⟩⟩⟩⟩
theorem omg_13 : ∀ m ∈ [260, 261, 262, 263, 264, 265, 266, 267, 268, 269, 270, 271, 272, 273, 274, 275, 276, 277, 278, 279], okM m = true := List.forall_mem_cons.mpr ⟨om_260, List.forall_mem_cons.mpr ⟨om_261, List.forall_mem_cons.mpr ⟨om_262, List.forall_mem_cons.mpr ⟨om_263, List.forall_mem_cons.mpr ⟨om_264, List.forall_mem_cons.mpr ⟨om_265, List.forall_mem_cons.mpr ⟨om_266, List.forall_mem_cons.mpr ⟨om_267, List.forall_mem_cons.mpr ⟨om_268, List.forall_mem_cons.mpr ⟨om_269, List.forall_mem_cons.mpr ⟨om_270, List.forall_mem_cons.mpr ⟨om_271, List.forall_mem_cons.mpr ⟨om_272, List.forall_mem_cons.mpr ⟨om_273, List.forall_mem_cons.mpr ⟨om_274, List.forall_mem_cons.mpr ⟨om_275, List.forall_mem_cons.mpr ⟨om_276, List.forall_mem_cons.mpr ⟨om_277, List.forall_mem_cons.mpr ⟨om_278, List.forall_mem_cons.mpr ⟨om_279, fun _ h => absurd h List.not_mem_nil⟩⟩⟩⟩⟩⟩⟩⟩⟩⟩⟩⟩⟩⟩⟩⟩⟩⟩⟩⟩
theorem omg_14 : ∀ m ∈ [280, 281, 282, 283, 284, 285, 286, 287, 288, 289, 290, 291, 292, 293, 294, 295, 296, 297, 298, 299], okM m = true := List.forall_mem_cons.mpr ⟨om_280, List.forall_mem_cons.mpr ⟨om_281, List.forall_mem_cons.mpr ⟨om_282, List.forall_mem_cons.mpr ⟨om_283, List.forall_mem_cons.mpr ⟨om_284, List.forall_mem_cons.mpr ⟨om_285, List.forall_mem_cons.mpr ⟨om_286, List.forall_mem_cons.mpr ⟨om_287, List.forall_mem_cons.mpr ⟨om_288, List.forall_mem_cons.mpr ⟨om_289, List.forall_mem_cons.mpr ⟨om_290, List.forall_mem_cons.mpr ⟨om_291, List.forall_mem_cons.mpr ⟨om_292, List.forall_mem_cons.mpr ⟨om_293, List.forall_mem_cons.mpr ⟨om_294, List.forall_mem_cons.mpr ⟨om_295, List.forall_mem_cons.mpr ⟨om_296, List.forall_mem_cons.mpr ⟨om_297, List.forall_mem_cons.mpr ⟨om_298, List.forall_mem_cons.mpr ⟨om_299, fun _ h => absurd h List.not_mem_nil⟩⟩⟩⟩⟩⟩⟩⟩⟩⟩⟩⟩⟩⟩⟩⟩⟩⟩⟩⟩
theorem omg_15 : ∀ m ∈ [300, 301, 302, 303, 304, 305, 306, 307, 308, 309, 310, 311, 312, 313, 314, 315, 316, 317, 318, 319], okM m = true := List.forall_mem_cons.mpr ⟨om_300, List.forall_mem_cons.mpr ⟨om_301, List.forall_mem_cons.mpr ⟨om_302, List.forall_mem_cons.mpr ⟨om_303, List.forall_mem_cons.mpr ⟨om_304, List.forall_mem_cons.mpr ⟨om_305, List.forall_mem_cons.mpr ⟨om_306, List.forall_mem_cons.mpr ⟨om_307, List.forall_mem_cons.mpr ⟨om_308, List.forall_mem_cons.mpr ⟨om_309, List.forall_mem_cons.mpr ⟨om_310, List.forall_mem_cons.mpr ⟨om_311, List.forall_mem_cons.mpr ⟨om_312, List.forall_mem_cons.mpr ⟨om_313, List.forall_mem_cons.mpr ⟨om_314, List.forall_mem_cons.mpr ⟨om_315, List.forall_mem_cons.mpr ⟨om_316, List.forall_mem_cons.mpr ⟨om_317, List.forall_mem_cons.mpr ⟨om_318, List.forall_mem_cons.mpr ⟨om_319, fun _ h => absurd h List.not_mem_nil⟩⟩⟩⟩⟩⟩⟩⟩⟩⟩⟩⟩⟩⟩⟩⟩⟩⟩⟩⟩
theorem omg_16 : ∀ m ∈ [320, 321, 322, 323, 324, 325, 326, 327, 328, 329, 330, 331, 332, 333, 334, 335, 336, 337], okM m = true := List.forall_mem_cons.mpr ⟨om_320, List.forall_mem_cons.mpr ⟨om_321, List.forall_mem_cons.mpr ⟨om_322, List.forall_mem_cons.mpr ⟨om_323, List.forall_mem_cons.mpr ⟨om_324, List.forall_mem_cons.mpr ⟨om_325, List.forall_mem_cons.mpr ⟨om_326, List.forall_mem_cons.mpr ⟨om_327, List.forall_mem_cons.mpr ⟨om_328, List.forall_mem_cons.mpr ⟨om_329, List.forall_mem_cons.mpr ⟨om_330, List.forall_mem_cons.mpr ⟨om_331, List.forall_mem_cons.mpr ⟨om_332, List.forall_mem_cons.mpr ⟨om_333, List.forall_mem_cons.mpr ⟨om_334, List.forall_mem_cons.mpr ⟨om_335, List.forall_mem_cons.mpr ⟨om_336, List.forall_mem_cons.mpr ⟨om_337, fun _ h => absurd h List.not_mem_nil⟩⟩⟩⟩⟩⟩⟩⟩⟩⟩⟩⟩⟩⟩⟩⟩⟩⟩
def mgs0 : List (List Nat) := [[0, 1, 2, 3, 4, 5, 6, 7, 8, 9, 10, 11, 12, 13, 14, 15, 16, 17, 18, 19], [20, 21, 22, 23, 24, 25, 26, 27, 28, 29, 30, 31, 32, 33, 34, 35, 36, 37, 38, 39], [40, 41, 42, 43, 44, 45, 46, 47, 48, 49, 50, 51, 52, 53, 54, 55, 56, 57, 58, 59], [60, 61, 62, 63, 64, 65, 66, 67, 68, 69, 70, 71, 72, 73, 74, 75, 76, 77, 78, 79], [80, 81, 82, 83, 84, 85, 86, 87, 88, 89, 90, 91, 92, 93, 94, 95, 96, 97, 98, 99], [100, 101, 102, 103, 104, 105, 106, 107, 108, 109, 110, 111, 112, 113, 114, 115, 116, 117, 118, 119], [120, 121, 122, 123, 124, 125, 126, 127, 128, 129, 130, 131, 132, 133, 134, 135, 136, 137, 138, 139], [140, 141, 142, 143, 144, 145, 146, 147, 148, 149, 150, 151, 152, 153, 154, 155, 156, 157, 158, 159], [160, 161, 162, 163, 164, 165, 166, 167, 168, 169, 170, 171, 172, 173, 174, 175, 176, 177, 178, 179], [180, 181, 182, 183, 184, 185, 186, 187, 188, 189, 190, 191, 192, 193, 194, 195, 196, 197, 198, 199], [200, 201, 202, 203, 204, 205, 206, 207, 208, 209, 210, 211, 212, 213, 214, 215, 216, 217, 218, 219], [220, 221, 222, 223, 224, 225, 226, 227, 228, 229, 230, 231, 232, 233, 234, 235, 236, 237, 238, 239], [240, 241, 242, 243, 244, 245, 246, 247, 248, 249, 250, 251, 252, 253, 254, 255, 256, 257, 258, 259], [260, 261, 262, 263, 264, 265, 266, 267, 268, 269, 270, 271, 272, 273, 274, 275, 276, 277, 278, 279], [280, 281, 282, 283, 284, 285, 286, 287, 288, 289, 290, 291, 292, 293, 294, 295, 296, 297, 298, 299], [300, 301, 302, 303, 304, 305, 306, 307, 308, 309, 310, 311, 312, 313, 314, 315, 316, 317, 318, 319], [320, 321, 322, 323, 324, 325, 326, 327, 328, 329, 330, 331, 332, 333, 334, 335, 336, 337]]
theorem om_all {m : Nat} (h2 : m < 338) : okM m = true := by
  have key : ∀ g ∈ mgs0, ∀ m ∈ g, okM m = true := List.forall_mem_cons.mpr ⟨omg_0, List.forall_mem_cons.mpr ⟨omg_1, List.forall_mem_cons.mpr ⟨omg_2, List.forall_mem_cons.mpr ⟨omg_3, List.forall_mem_cons.mpr ⟨omg_4, List.forall_mem_cons.mpr ⟨omg_5, List.forall_mem_cons.mpr ⟨omg_6, List.forall_mem_cons.mpr ⟨omg_7, List.forall_mem_cons.mpr ⟨omg_8, List.forall_mem_cons.mpr ⟨omg_9, List.forall_mem_cons.mpr ⟨omg_10, List.forall_mem_cons.mpr ⟨omg_11, List.forall_mem_cons.mpr ⟨omg_12, List.forall_mem_cons.mpr ⟨omg_13, List.forall_mem_cons.mpr ⟨omg_14, List.forall_mem_cons.mpr ⟨omg_15, List.forall_mem_cons.mpr ⟨omg_16, fun _ h => absurd h List.not_mem_nil⟩⟩⟩⟩⟩⟩⟩⟩⟩⟩⟩⟩⟩⟩⟩⟩⟩
  have hm : m ∈ mgs0.flatten := by
    have e : mgs0.flatten = List.range 338 := by decide +kernel
    rw [e, List.mem_range]
    omega
  obtain ⟨g, hg, hmg⟩ := List.mem_flatten.mp hm
  exact key g hg m hmg
