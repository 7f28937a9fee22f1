noncomputable def rcc (m : Nat) : Int := match rtOf m with
  | 9 => 9
  | 1 => 1
  | 2 => 2
  | _ => 0
theorem rt_ok : ((List.range 338).all fun m => match rty m with
  | none => Nat.beq (rtOf m) 9
  | some t => Nat.beq (rtOf m) (fk t) && !(Nat.beq (fk t) 7)) = true := by decide +kernel
theorem pn_ok : ((List.range 338).all fun m => decide ((parseMethodDescriptor (ynm m).desc).map (fun d => d.parameters.length) = some (pn m))) = true := by decide +kernel
/-! each method's code is what its bytes say; its pool entries are what the tables say -/
/-- instructions by numbers: cheap to compare -/
noncomputable def prs2 : List Int → List (Int × Int)
  | a :: b :: r => (a, b) :: prs2 r
  | _ => []
theorem prs2_flat (l : List (Int × Int)) : prs2 (l.flatMap (fun q => [q.1, q.2])) = l := by
  induction l with
  | nil => rfl
  | cons a l ih =>
    show prs2 (a.1 :: a.2 :: l.flatMap _) = _
    rw [prs2, ih]
noncomputable def encI (i : Instr) : List Int := match i with
  | .aaload => [1]
  | .aastore => [2]
  | .aconst_null => [3]
  | .areturn => [4]
  | .arraylength => [5]
  | .athrow => [6]
  | .baload => [7]
  | .bastore => [8]
  | .dup => [9]
  | .dup2 => [10]
  | .i2b => [11]
  | .i2c => [12]
  | .i2l => [13]
  | .iadd => [14]
  | .iaload => [15]
  | .iand => [16]
  | .iastore => [17]
  | .idiv => [18]
  | .imul => [19]
  | .ior => [20]
  | .irem => [21]
  | .ireturn => [22]
  | .ishl => [23]
  | .ishr => [24]
  | .isub => [25]
  | .iushr => [26]
  | .ixor => [27]
  | .l2i => [28]
  | .ladd => [29]
  | .laload => [30]
  | .land => [31]
  | .lastore => [32]
  | .lcmp => [33]
  | .ldiv => [34]
  | .lmul => [35]
  | .lneg => [36]
  | .lor => [37]
  | .lrem => [38]
  | .lreturn => [39]
  | .lshl => [40]
  | .lsub => [41]
  | .lushr => [42]
  | .lxor => [96]
  | .pop => [43]
  | .pop2 => [44]
  | .return_ => [45]
  | .aload a => [46, a]
  | .anewarray a => [47, a]
  | .astore a => [48, a]
  | .checkcast a => [49, a]
  | .getfield a => [50, a]
  | .getstatic a => [51, a]
  | .iload a => [52, a]
  | .invokespecial a => [53, a]
  | .invokestatic a => [54, a]
  | .invokevirtual a => [55, a]
  | .istore a => [56, a]
  | .ldc a => [57, a]
  | .ldc_w a => [58, a]
  | .ldc2_w a => [59, a]
  | .lload a => [60, a]
  | .lstore a => [61, a]
  | .new a => [62, a]
  | .putfield a => [63, a]
  | .bipush a => [64, a]
  | .sipush a => [65, a]
  | .iconst a => [66, a]
  | .goto a => [67, a]
  | .ifnull a => [68, a]
  | .ifnonnull a => [69, a]
  | .aload_n a => [70, a.val]
  | .astore_n a => [71, a.val]
  | .iload_n a => [72, a.val]
  | .istore_n a => [73, a.val]
  | .lload_n a => [74, a.val]
  | .lstore_n a => [75, a.val]
  | .ifCond .eq a => [76, a]
  | .ifCond .ne a => [77, a]
  | .ifCond .lt a => [78, a]
  | .ifCond .ge a => [79, a]
  | .ifCond .gt a => [80, a]
  | .ifCond .le a => [81, a]
  | .if_icmp .eq a => [82, a]
  | .if_icmp .ne a => [83, a]
  | .if_icmp .lt a => [84, a]
  | .if_icmp .ge a => [85, a]
  | .if_icmp .gt a => [86, a]
  | .if_icmp .le a => [87, a]
  | .lconst a => [88, a.val]
  | .newarray .boolean => [89]
  | .newarray .byte => [90]
  | .newarray .int => [91]
  | .newarray .long => [92]
  | .iinc a b => [93, a, b]
  | .tableswitch d lo hi os => 94 :: d :: lo :: hi :: os.toList
  | .lookupswitch d ps => 95 :: d :: ps.toList.flatMap (fun q => [q.1, q.2])
  | _ => []
noncomputable def decI (l : List Int) : Option Instr := match l with
  | [] => none
  | k :: r =>
    if k = 1 then some .aaload else
    if k = 2 then some .aastore else
    if k = 3 then some .aconst_null else
    if k = 4 then some .areturn else
    if k = 5 then some .arraylength else
    if k = 6 then some .athrow else
    if k = 7 then some .baload else
    if k = 8 then some .bastore else
    if k = 9 then some .dup else
    if k = 10 then some .dup2 else
    if k = 11 then some .i2b else
    if k = 12 then some .i2c else
    if k = 13 then some .i2l else
    if k = 14 then some .iadd else
    if k = 15 then some .iaload else
    if k = 16 then some .iand else
    if k = 17 then some .iastore else
    if k = 18 then some .idiv else
    if k = 19 then some .imul else
    if k = 20 then some .ior else
    if k = 21 then some .irem else
    if k = 22 then some .ireturn else
    if k = 23 then some .ishl else
    if k = 24 then some .ishr else
    if k = 25 then some .isub else
    if k = 26 then some .iushr else
    if k = 27 then some .ixor else
    if k = 28 then some .l2i else
    if k = 29 then some .ladd else
    if k = 30 then some .laload else
    if k = 31 then some .land else
    if k = 32 then some .lastore else
    if k = 33 then some .lcmp else
    if k = 34 then some .ldiv else
    if k = 35 then some .lmul else
    if k = 36 then some .lneg else
    if k = 37 then some .lor else
    if k = 38 then some .lrem else
    if k = 39 then some .lreturn else
    if k = 40 then some .lshl else
    if k = 41 then some .lsub else
    if k = 42 then some .lushr else
    if k = 96 then some .lxor else
    if k = 43 then some .pop else
    if k = 44 then some .pop2 else
    if k = 45 then some .return_ else
    if k = 46 then some (.aload (r.headD 0).toNat) else
    if k = 47 then some (.anewarray (r.headD 0).toNat) else
    if k = 48 then some (.astore (r.headD 0).toNat) else
    if k = 49 then some (.checkcast (r.headD 0).toNat) else
    if k = 50 then some (.getfield (r.headD 0).toNat) else
    if k = 51 then some (.getstatic (r.headD 0).toNat) else
    if k = 52 then some (.iload (r.headD 0).toNat) else
    if k = 53 then some (.invokespecial (r.headD 0).toNat) else
    if k = 54 then some (.invokestatic (r.headD 0).toNat) else
    if k = 55 then some (.invokevirtual (r.headD 0).toNat) else
    if k = 56 then some (.istore (r.headD 0).toNat) else
    if k = 57 then some (.ldc (r.headD 0).toNat) else
    if k = 58 then some (.ldc_w (r.headD 0).toNat) else
    if k = 59 then some (.ldc2_w (r.headD 0).toNat) else
    if k = 60 then some (.lload (r.headD 0).toNat) else
    if k = 61 then some (.lstore (r.headD 0).toNat) else
    if k = 62 then some (.new (r.headD 0).toNat) else
    if k = 63 then some (.putfield (r.headD 0).toNat) else
    if k = 64 then some (.bipush (r.headD 0)) else
    if k = 65 then some (.sipush (r.headD 0)) else
    if k = 66 then some (.iconst (r.headD 0)) else
    if k = 67 then some (.goto (r.headD 0)) else
    if k = 68 then some (.ifnull (r.headD 0)) else
    if k = 69 then some (.ifnonnull (r.headD 0)) else
    if k = 70 then (if h : (r.headD 0).toNat < 4 then some (.aload_n ⟨(r.headD 0).toNat, h⟩) else none) else
    if k = 71 then (if h : (r.headD 0).toNat < 4 then some (.astore_n ⟨(r.headD 0).toNat, h⟩) else none) else
    if k = 72 then (if h : (r.headD 0).toNat < 4 then some (.iload_n ⟨(r.headD 0).toNat, h⟩) else none) else
    if k = 73 then (if h : (r.headD 0).toNat < 4 then some (.istore_n ⟨(r.headD 0).toNat, h⟩) else none) else
    if k = 74 then (if h : (r.headD 0).toNat < 4 then some (.lload_n ⟨(r.headD 0).toNat, h⟩) else none) else
    if k = 75 then (if h : (r.headD 0).toNat < 4 then some (.lstore_n ⟨(r.headD 0).toNat, h⟩) else none) else
    if k = 76 then some (.ifCond .eq (r.headD 0)) else
    if k = 77 then some (.ifCond .ne (r.headD 0)) else
    if k = 78 then some (.ifCond .lt (r.headD 0)) else
    if k = 79 then some (.ifCond .ge (r.headD 0)) else
    if k = 80 then some (.ifCond .gt (r.headD 0)) else
    if k = 81 then some (.ifCond .le (r.headD 0)) else
    if k = 82 then some (.if_icmp .eq (r.headD 0)) else
    if k = 83 then some (.if_icmp .ne (r.headD 0)) else
    if k = 84 then some (.if_icmp .lt (r.headD 0)) else
    if k = 85 then some (.if_icmp .ge (r.headD 0)) else
    if k = 86 then some (.if_icmp .gt (r.headD 0)) else
    if k = 87 then some (.if_icmp .le (r.headD 0)) else
    if k = 88 then (if h : (r.headD 0).toNat < 2 then some (.lconst ⟨(r.headD 0).toNat, h⟩) else none) else
    if k = 89 then some (.newarray .boolean) else
    if k = 90 then some (.newarray .byte) else
    if k = 91 then some (.newarray .int) else
    if k = 92 then some (.newarray .long) else
    if k = 93 then some (.iinc (r.headD 0).toNat ((r.drop 1).headD 0)) else
    if k = 94 then some (.tableswitch (r.headD 0) ((r.drop 1).headD 0) ((r.drop 2).headD 0) (r.drop 3).toArray) else
    if k = 95 then some (.lookupswitch (r.headD 0) (prs2 (r.drop 1)).toArray) else
    none
set_option maxHeartbeats 4000000 in
theorem decI_encI (i : Instr) (h : encI i ≠ []) : decI (encI i) = some i := by
  cases i
  all_goals first
    | rfl
    | exact absurd rfl h
    | (rename_i c _; cases c <;> rfl)
    | (rename_i c; cases c <;> first | rfl | exact absurd rfl h)
    | (simp [encI, decI, prs2_flat])
theorem encI_inj {i j : Instr} (h : encI i = encI j) (h0 : (encI j).isEmpty = false) : i = j := by
  have hj : encI j ≠ [] := fun q => by rw [q] at h0; cases h0
  have h1 := decI_encI j hj
  rw [← h, decI_encI i (by rw [h]; exact hj)] at h1
  exact Option.some.inj h1
noncomputable def eqI (i j : Instr) : Bool := decide (encI i = encI j) && !(encI j).isEmpty
theorem eqI_eq {i j : Instr} (h : eqI i j = true) : i = j := by
  unfold eqI at h
  rw [Bool.and_eq_true, decide_eq_true_eq, Bool.not_eq_true'] at h
  exact encI_inj h.1 h.2
noncomputable def mtc (a b : Nat) (c d : Nat) : Bool := Nat.beq a c && Nat.beq b d
noncomputable def okI (own : Nat) (ini : Bool) (pc : Nat) (i : Instr) (x : XI) : Bool := match i with
  | .iconst n => decide (-2147483648 ≤ n ∧ n ≤ 2147483647)
  | .bipush n => decide (-128 ≤ n ∧ n ≤ 127)
  | .sipush n => decide (-32768 ≤ n ∧ n ≤ 32767)
  | .getfield q => (match Nat.beq x.1 13 with
    | true => (skl.any fun e => mtc e.1 e.2.1 own q && Nat.beq e.2.2.1 x.2.1) && (match x.2.1 with
      | 0 => decide (x.2.2.1 = 2)
      | 1 => decide (x.2.2.1 = 3)
      | _ => false)
    | false => (fkl.any fun e => mtc e.1 e.2.1 own q && mtc e.2.2.1 e.2.2.2.1 x.1 x.2.1) && decide (x.2.2.1 = fcd x.1 x.2.1) && Nat.blt x.1 13 && Nat.blt x.2.1 (NN x.1))
  | .putfield q => (fkl.any fun e => mtc e.1 e.2.1 own q && mtc e.2.2.1 e.2.2.2.1 x.1 x.2.1 && (!(TT x.1 x.2.1).2.2.2 || (ini && !e.2.2.2.2.2 && Nat.beq own x.1))) && decide (x.2.2.1 = fcd x.1 x.2.1) && Nat.blt x.1 13 && Nat.blt x.2.1 (NN x.1)
  | .getstatic q => gkl.any fun e => mtc e.1 e.2.1 own q && (match e.2.2.1 with
    | 0 => decide (x = (1, 2, 0, 0))
    | 1 => decide (x = (1, 3, 0, 0))
    | 2 => decide (x = (0, 0, 1, 0))
    | 3 => decide (x = (1, 14, 0, 0))
    | _ => false)
  | .new q => (ckl.any fun e => mtc e.1 e.2.1 own q && Nat.beq e.2.2.1 x.1) && Nat.blt x.1 13 && Nat.beq x.2.1 (NN x.1)
  | .anewarray q => akl.any fun e => mtc e.1 e.2.1 own q && (match e.2.2.1 with
    | 9 => Nat.beq x.1 4
    | 1 => Nat.beq x.1 5
    | 2 => Nat.beq x.1 6
    | _ => false)
  | .checkcast q => kkl.any fun e => mtc e.1 e.2.1 own q && Nat.beq e.2.2.1 x.1 && (Nat.beq x.1 0 || Nat.beq x.1 2)
  | .ldc q => (match x.1 with
    | 0 => ikl.any fun e => mtc e.1 e.2.1 own q && decide (e.2.2.1 = x.2.2.1)
    | _ => Nat.ble 4 x.2.1 && Nat.blt x.2.1 9 && mtc (stl.getD (x.2.1 - 4) (0, 0, "")).1 (stl.getD (x.2.1 - 4) (0, 0, "")).2.1 own q)
  | .ldc_w q => ikl.any fun e => mtc e.1 e.2.1 own q && decide (e.2.2.1 = x.2.2.1)
  | .ldc2_w q => lkl.any fun e => mtc e.1 e.2.1 own q && decide (e.2.2.1 = x.2.2.1)
  | .goto o => decide (0 ≤ (pc : Int) + o)
  | .ifCond _ o => decide (0 ≤ (pc : Int) + o)
  | .if_icmp _ o => decide (0 ≤ (pc : Int) + o)
  | .ifnull o => decide (0 ≤ (pc : Int) + o)
  | .ifnonnull o => decide (0 ≤ (pc : Int) + o)
  | .tableswitch d lo hi offs => decide (0 ≤ (pc : Int) + d) && (offs.toList.all fun o => decide (0 ≤ (pc : Int) + o)) && decide (hi = lo + offs.toList.length - 1)
  | .lookupswitch d ps => decide (0 ≤ (pc : Int) + d) && (ps.toList.all fun q => decide (0 ≤ (pc : Int) + q.2)) && ((ps.toList.zip (ps.toList.drop 1)).all fun q => decide (q.1.1 < q.2.1))
  | .invokestatic q => (match Nat.ble 9990 x.1 with
    | true => (xkl.any fun e => mtc e.1 e.2.1 own q && Nat.beq e.2.2.1 x.1)
    | false => Nat.ble 9000 x.1 || ((mkl.any fun e => mtc e.1 e.2.1 own q && Nat.beq e.2.2.1 x.1) && Nat.beq (mw x.1).1 0 && Nat.beq x.2.1 (pn x.1) && Nat.ble 1 x.1 && Nat.blt x.1 338 && decide (x.2.2.1 = rcc x.1)))
  | .invokevirtual q => (match Nat.beq x.1 9998 with
    | true => cln.any fun e => mtc e.1 e.2.1 own q && Nat.beq e.2.2.1 x.2.2.2
    | false => Nat.ble 9000 x.1 || ((mkl.any fun e => mtc e.1 e.2.1 own q && Nat.beq e.2.2.1 x.1) && Nat.beq (mw x.1).1 1 && Nat.beq x.2.1 (pn x.1 + 1) && Nat.ble 1 x.1 && Nat.blt x.1 338 && decide (x.2.2.1 = rcc x.1) && Nat.beq x.2.2.2 (10 + ow x.1) && Nat.ble (ow x.1) 13))
  | .invokespecial q => (match Nat.beq x.1 9999 with
    | true => (obl.any fun e => mtc e.1 e.2.1 own q) && Nat.beq x.2.2.2 (10 + own) && Nat.blt own 13
    | false => Nat.ble 9000 x.1 || ((mkl.any fun e => mtc e.1 e.2.1 own q && Nat.beq e.2.2.1 x.1) && Nat.beq (mw x.1).1 2 && Nat.beq x.2.1 (pn x.1 + 1) && Nat.ble 1 x.1 && Nat.blt x.1 338 && Nat.beq (rtOf x.1) 9 && Nat.beq x.2.2.2 (10 + ow x.1) && Nat.ble (ow x.1) 12))
  | _ => true
noncomputable def lenI (i : Instr) (d : Nat) : Nat := match i with
  | .iload _ => 2
  | .lload _ => 2
  | .aload _ => 2
  | .istore _ => 2
  | .lstore _ => 2
  | .astore _ => 2
  | .bipush _ => 2
  | .ldc _ => 2
  | .newarray _ => 2
  | .sipush _ => 3
  | .ldc_w _ => 3
  | .ldc2_w _ => 3
  | .iinc _ _ => 3
  | .ifCond _ _ => 3
  | .if_icmp _ _ => 3
  | .goto _ => 3
  | .ifnull _ => 3
  | .ifnonnull _ => 3
  | .getfield _ => 3
  | .putfield _ => 3
  | .getstatic _ => 3
  | .invokevirtual _ => 3
  | .invokespecial _ => 3
  | .invokestatic _ => 3
  | .new _ => 3
  | .anewarray _ => 3
  | .checkcast _ => 3
  | .tableswitch _ _ _ _ => d
  | .lookupswitch _ _ => d
  | _ => 1
noncomputable def okC (b : ByteArray) (own : Nat) (ini : Bool) : List CE → Bool
  | [] => true
  | e :: r => (match decode b e.1 with
    | .ok (i, len) => eqI i e.2.2.1 && Nat.beq len (lenI i len) && (match r with
      | [] => true
      | e' :: _ => Nat.beq e'.1 (e.1 + len))
    | .error _ => false) && okI own ini e.1 e.2.2.1 e.2.2.2 && okC b own ini r
noncomputable def iniM (m : Nat) : Bool := Nat.beq (mw m).1 2
noncomputable def okM (m : Nat) : Bool := okC (byo m) (ow m) (iniM m) (csOf m)

