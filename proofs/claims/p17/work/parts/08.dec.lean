section
-- 08.dec
noncomputable def rcc (m : Nat) : Int := match rtOf m with
  | 9 => 9
  | 1 => 1
  | 2 => 2
  | _ => 0
theorem rt_ok : ((List.range 338).all fun m => match rty m with
  | none => Nat.beq (rtOf m) 9
  | some t => Nat.beq (rtOf m) (fk t) && !(Nat.beq (fk t) 7)) = true := by decide +kernel
theorem pn_ok : ((List.range 338).all fun m => decide ((parseMethodDescriptor (ynm m).desc).map (fun d => d.parameters.length) = some (pn m))) = true := by decide +kernel
/-! each method's code is what its bytes say; its pool entries are what the tables say -/
/-- instructions by numbers: cheap to compare -/
noncomputable def prs2 : List Int → List (Int × Int)
  | a :: b :: r => (a, b) :: prs2 r
  | _ => []
theorem prs2_flat (l : List (Int × Int)) : prs2 (l.flatMap (fun q => [q.1, q.2])) = l := by
  induction l with
  | nil => rfl
  | cons a l ih =>
    show prs2 (a.1 :: a.2 :: l.flatMap _) = _
    rw [prs2, ih]
noncomputable def encI (i : Instr) : List Int := match i with
  | .aaload => [1]
  | .aastore => [2]
  | .aconst_null => [3]
  | .areturn => [4]
  | .arraylength => [5]
  | .athrow => [6]
  | .baload => [7]
  | .bastore => [8]
  | .dup => [9]
  | .dup2 => [10]
  | .i2b => [11]
  | .i2c => [12]
  | .i2l => [13]
  | .iadd => [14]
  | .iaload => [15]
  | .iand => [16]
  | .iastore => [17]
  | .idiv => [18]
  | .imul => [19]
  | .ior => [20]
  | .irem => [21]
  | .ireturn => [22]
  | .ishl => [23]
  | .ishr => [24]
  | .isub => [25]
  | .iushr => [26]
  | .ixor => [27]
  | .l2i => [28]
  | .ladd => [29]
  | .laload => [30]
  | .land => [31]
  | .lastore => [32]
  | .lcmp => [33]
  | .ldiv => [34]
  | .lmul => [35]
  | .lneg => [36]
  | .lor => [37]
  | .lrem => [38]
  | .lreturn => [39]
  | .lshl => [40]
  | .lsub => [41]
  | .lushr => [42]
  | .lxor => [96]
  | .pop => [43]
  | .pop2 => [44]
  | .return_ => [45]
  | .aload a => [46, a]
  | .anewarray a => [47, a]
  | .astore a => [48, a]
  | .checkcast a => [49, a]
  | .getfield a => [50, a]
  | .getstatic a => [51, a]
  | .iload a => [52, a]
  | .invokespecial a => [53, a]
  | .invokestatic a => [54, a]
  | .invokevirtual a => [55, a]
  | .istore a => [56, a]
  | .ldc a => [57, a]
  | .ldc_w a => [58, a]
  | .ldc2_w a => [59, a]
  | .lload a => [60, a]
  | .lstore a => [61, a]
  | .new a => [62, a]
  | .putfield a => [63, a]
  | .bipush a => [64, a]
  | .sipush a => [65, a]
  | .iconst a => [66, a]
  | .goto a => [67, a]
  | .ifnull a => [68, a]
  | .ifnonnull a => [69, a]
  | .aload_n a => [70, a.val]
  | .astore_n a => [71, a.val]
  | .iload_n a => [72, a.val]
  | .istore_n a => [73, a.val]
  | .lload_n a => [74, a.val]
  | .lstore_n a => [75, a.val]
  | .ifCond .eq a => [76, a]
  | .ifCond .ne a => [77, a]
  | .ifCond .lt a => [78, a]
  | .ifCond .ge a => [79, a]
  | .ifCond .gt a => [80, a]
  | .ifCond .le a => [81, a]
  | .if_icmp .eq a => [82, a]
  | .if_icmp .ne a => [83, a]
  | .if_icmp .lt a => [84, a]
  | .if_icmp .ge a => [85, a]
  | .if_icmp .gt a => [86, a]
  | .if_icmp .le a => [87, a]
  | .lconst a => [88, a.val]
  | .newarray .boolean => [89]
  | .newarray .byte => [90]
  | .newarray .int => [91]
  | .newarray .long => [92]
  | .iinc a b => [93, a, b]
  | .tableswitch d lo hi os => 94 :: d :: lo :: hi :: os.toList
  | .lookupswitch d ps => 95 :: d :: ps.toList.flatMap (fun q => [q.1, q.2])
  | _ => []
noncomputable def decI (l : List Int) : Option Instr := match l with
  | [] => none
  | k :: r =>
    if k = 1 then some .aaload else
    if k = 2 then some .aastore else
    if k = 3 then some .aconst_null else
    if k = 4 then some .areturn else
    if k = 5 then some .arraylength else
    if k = 6 then some .athrow else
    if k = 7 then some .baload else
    if k = 8 then some .bastore else
    if k = 9 then some .dup else
    if k = 10 then some .dup2 else
    if k = 11 then some .i2b else
    if k = 12 then some .i2c else
    if k = 13 then some .i2l else
    if k = 14 then some .iadd else
    if k = 15 then some .iaload else
    if k = 16 then some .iand else
    if k = 17 then some .iastore else
    if k = 18 then some .idiv else
    if k = 19 then some .imul else
    if k = 20 then some .ior else
    if k = 21 then some .irem else
    if k = 22 then some .ireturn else
    if k = 23 then some .ishl else
    if k = 24 then some .ishr else
    if k = 25 then some .isub else
    if k = 26 then some .iushr else
    if k = 27 then some .ixor else
    if k = 28 then some .l2i else
    if k = 29 then some .ladd else
    if k = 30 then some .laload else
    if k = 31 then some .land else
    if k = 32 then some .lastore else
    if k = 33 then some .lcmp else
    if k = 34 then some .ldiv else
    if k = 35 then some .lmul else
    if k = 36 then some .lneg else
    if k = 37 then some .lor else
    if k = 38 then some .lrem else
    if k = 39 then some .lreturn else
    if k = 40 then some .lshl else
    if k = 41 then some .lsub else
    if k = 42 then some .lushr else
    if k = 96 then some .lxor else
    if k = 43 then some .pop else
    if k = 44 then some .pop2 else
    if k = 45 then some .return_ else
    if k = 46 then some (.aload (r.headD 0).toNat) else
    if k = 47 then some (.anewarray (r.headD 0).toNat) else
    if k = 48 then some (.astore (r.headD 0).toNat) else
    if k = 49 then some (.checkcast (r.headD 0).toNat) else
    if k = 50 then some (.getfield (r.headD 0).toNat) else
    if k = 51 then some (.getstatic (r.headD 0).toNat) else
    if k = 52 then some (.iload (r.headD 0).toNat) else
    if k = 53 then some (.invokespecial (r.headD 0).toNat) else
    if k = 54 then some (.invokestatic (r.headD 0).toNat) else
    if k = 55 then some (.invokevirtual (r.headD 0).toNat) else
    if k = 56 then some (.istore (r.headD 0).toNat) else
    if k = 57 then some (.ldc (r.headD 0).toNat) else
    if k = 58 then some (.ldc_w (r.headD 0).toNat) else
    if k = 59 then some (.ldc2_w (r.headD 0).toNat) else
    if k = 60 then some (.lload (r.headD 0).toNat) else
    if k = 61 then some (.lstore (r.headD 0).toNat) else
    if k = 62 then some (.new (r.headD 0).toNat) else
    if k = 63 then some (.putfield (r.headD 0).toNat) else
    if k = 64 then some (.bipush (r.headD 0)) else
    if k = 65 then some (.sipush (r.headD 0)) else
    if k = 66 then some (.iconst (r.headD 0)) else
    if k = 67 then some (.goto (r.headD 0)) else
    if k = 68 then some (.ifnull (r.headD 0)) else
    if k = 69 then some (.ifnonnull (r.headD 0)) else
    if k = 70 then (if h : (r.headD 0).toNat < 4 then some (.aload_n ⟨(r.headD 0).toNat, h⟩) else none) else
    if k = 71 then (if h : (r.headD 0).toNat < 4 then some (.astore_n ⟨(r.headD 0).toNat, h⟩) else none) else
    if k = 72 then (if h : (r.headD 0).toNat < 4 then some (.iload_n ⟨(r.headD 0).toNat, h⟩) else none) else
    if k = 73 then (if h : (r.headD 0).toNat < 4 then some (.istore_n ⟨(r.headD 0).toNat, h⟩) else none) else
    if k = 74 then (if h : (r.headD 0).toNat < 4 then some (.lload_n ⟨(r.headD 0).toNat, h⟩) else none) else
    if k = 75 then (if h : (r.headD 0).toNat < 4 then some (.lstore_n ⟨(r.headD 0).toNat, h⟩) else none) else
    if k = 76 then some (.ifCond .eq (r.headD 0)) else
    if k = 77 then some (.ifCond .ne (r.headD 0)) else
    if k = 78 then some (.ifCond .lt (r.headD 0)) else
    if k = 79 then some (.ifCond .ge (r.headD 0)) else
    if k = 80 then some (.ifCond .gt (r.headD 0)) else
    if k = 81 then some (.ifCond .le (r.headD 0)) else
    if k = 82 then some (.if_icmp .eq (r.headD 0)) else
    if k = 83 then some (.if_icmp .ne (r.headD 0)) else
    if k = 84 then some (.if_icmp .lt (r.headD 0)) else
    if k = 85 then some (.if_icmp .ge (r.headD 0)) else
    if k = 86 then some (.if_icmp .gt (r.headD 0)) else
    if k = 87 then some (.if_icmp .le (r.headD 0)) else
    if k = 88 then (if h : (r.headD 0).toNat < 2 then some (.lconst ⟨(r.headD 0).toNat, h⟩) else none) else
    if k = 89 then some (.newarray .boolean) else
    if k = 90 then some (.newarray .byte) else
    if k = 91 then some (.newarray .int) else
    if k = 92 then some (.newarray .long) else
    if k = 93 then some (.iinc (r.headD 0).toNat ((r.drop 1).headD 0)) else
    if k = 94 then some (.tableswitch (r.headD 0) ((r.drop 1).headD 0) ((r.drop 2).headD 0) (r.drop 3).toArray) else
    if k = 95 then some (.lookupswitch (r.headD 0) (prs2 (r.drop 1)).toArray) else
    none
set_option maxHeartbeats 4000000 in
theorem decI_encI (i : Instr) (h : encI i ≠ []) : decI (encI i) = some i := by
  cases i
  all_goals first
    | rfl
    | exact absurd rfl h
    | (rename_i c _; cases c <;> rfl)
    | (rename_i c; cases c <;> first | rfl | exact absurd rfl h)
    | (simp [encI, decI, prs2_flat])
theorem encI_inj {i j : Instr} (h : encI i = encI j) (h0 : (encI j).isEmpty = false) : i = j := by
  have hj : encI j ≠ [] := fun q => by rw [q] at h0; cases h0
  have h1 := decI_encI j hj
  rw [← h, decI_encI i (by rw [h]; exact hj)] at h1
  exact Option.some.inj h1
noncomputable def eqI (i j : Instr) : Bool := decide (encI i = encI j) && !(encI j).isEmpty
theorem eqI_eq {i j : Instr} (h : eqI i j = true) : i = j := by
  unfold eqI at h
  rw [Bool.and_eq_true, decide_eq_true_eq, Bool.not_eq_true'] at h
  exact encI_inj h.1 h.2
noncomputable def mtc (a b : Nat) (c d : Nat) : Bool := Nat.beq a c && Nat.beq b d
noncomputable def okI (own : Nat) (ini : Bool) (pc : Nat) (i : Instr) (x : XI) : Bool := match i with
  | .iconst n => decide (-2147483648 ≤ n ∧ n ≤ 2147483647)
  | .bipush n => decide (-128 ≤ n ∧ n ≤ 127)
  | .sipush n => decide (-32768 ≤ n ∧ n ≤ 32767)
  | .getfield q => (match Nat.beq x.1 13 with
    | true => (skl.any fun e => mtc e.1 e.2.1 own q && Nat.beq e.2.2.1 x.2.1) && (match x.2.1 with
      | 0 => decide (x.2.2.1 = 2)
      | 1 => decide (x.2.2.1 = 3)
      | _ => false)
    | false => (fkl.any fun e => mtc e.1 e.2.1 own q && mtc e.2.2.1 e.2.2.2.1 x.1 x.2.1) && decide (x.2.2.1 = fcd x.1 x.2.1) && Nat.blt x.1 13 && Nat.blt x.2.1 (NN x.1))
  | .putfield q => (fkl.any fun e => mtc e.1 e.2.1 own q && mtc e.2.2.1 e.2.2.2.1 x.1 x.2.1 && (!(TT x.1 x.2.1).2.2.2 || (ini && !e.2.2.2.2.2 && Nat.beq own x.1))) && decide (x.2.2.1 = fcd x.1 x.2.1) && Nat.blt x.1 13 && Nat.blt x.2.1 (NN x.1)
  | .getstatic q => gkl.any fun e => mtc e.1 e.2.1 own q && (match e.2.2.1 with
    | 0 => decide (x = (1, 2, 0, 0))
    | 1 => decide (x = (1, 3, 0, 0))
    | 2 => decide (x = (0, 0, 1, 0))
    | 3 => decide (x = (1, 14, 0, 0))
    | _ => false)
  | .new q => (ckl.any fun e => mtc e.1 e.2.1 own q && Nat.beq e.2.2.1 x.1) && Nat.blt x.1 13 && Nat.beq x.2.1 (NN x.1)
  | .anewarray q => akl.any fun e => mtc e.1 e.2.1 own q && (match e.2.2.1 with
    | 9 => Nat.beq x.1 4
    | 1 => Nat.beq x.1 5
    | 2 => Nat.beq x.1 6
    | _ => false)
  | .checkcast q => kkl.any fun e => mtc e.1 e.2.1 own q && Nat.beq e.2.2.1 x.1 && (Nat.beq x.1 0 || Nat.beq x.1 2)
  | .ldc q => (match x.1 with
    | 0 => ikl.any fun e => mtc e.1 e.2.1 own q && decide (e.2.2.1 = x.2.2.1)
    | _ => Nat.ble 4 x.2.1 && Nat.blt x.2.1 9 && mtc (stl.getD (x.2.1 - 4) (0, 0, "")).1 (stl.getD (x.2.1 - 4) (0, 0, "")).2.1 own q)
  | .ldc_w q => ikl.any fun e => mtc e.1 e.2.1 own q && decide (e.2.2.1 = x.2.2.1)
  | .ldc2_w q => lkl.any fun e => mtc e.1 e.2.1 own q && decide (e.2.2.1 = x.2.2.1)
  | .goto o => decide (0 ≤ (pc : Int) + o)
  | .ifCond _ o => decide (0 ≤ (pc : Int) + o)
  | .if_icmp _ o => decide (0 ≤ (pc : Int) + o)
  | .ifnull o => decide (0 ≤ (pc : Int) + o)
  | .ifnonnull o => decide (0 ≤ (pc : Int) + o)
  | .tableswitch d lo hi offs => decide (0 ≤ (pc : Int) + d) && (offs.toList.all fun o => decide (0 ≤ (pc : Int) + o)) && decide (hi = lo + offs.toList.length - 1)
  | .lookupswitch d ps => decide (0 ≤ (pc : Int) + d) && (ps.toList.all fun q => decide (0 ≤ (pc : Int) + q.2)) && ((ps.toList.zip (ps.toList.drop 1)).all fun q => decide (q.1.1 < q.2.1))
  | .invokestatic q => (match Nat.ble 9990 x.1 with
    | true => (xkl.any fun e => mtc e.1 e.2.1 own q && Nat.beq e.2.2.1 x.1)
    | false => Nat.ble 9000 x.1 || ((mkl.any fun e => mtc e.1 e.2.1 own q && Nat.beq e.2.2.1 x.1) && Nat.beq (mw x.1).1 0 && Nat.beq x.2.1 (pn x.1) && Nat.ble 1 x.1 && Nat.blt x.1 338 && decide (x.2.2.1 = rcc x.1)))
  | .invokevirtual q => (match Nat.beq x.1 9998 with
    | true => cln.any fun e => mtc e.1 e.2.1 own q && Nat.beq e.2.2.1 x.2.2.2
    | false => Nat.ble 9000 x.1 || ((mkl.any fun e => mtc e.1 e.2.1 own q && Nat.beq e.2.2.1 x.1) && Nat.beq (mw x.1).1 1 && Nat.beq x.2.1 (pn x.1 + 1) && Nat.ble 1 x.1 && Nat.blt x.1 338 && decide (x.2.2.1 = rcc x.1) && Nat.beq x.2.2.2 (10 + ow x.1) && Nat.ble (ow x.1) 13))
  | .invokespecial q => (match Nat.beq x.1 9999 with
    | true => (obl.any fun e => mtc e.1 e.2.1 own q) && Nat.beq x.2.2.2 (10 + own) && Nat.blt own 13
    | false => Nat.ble 9000 x.1 || ((mkl.any fun e => mtc e.1 e.2.1 own q && Nat.beq e.2.2.1 x.1) && Nat.beq (mw x.1).1 2 && Nat.beq x.2.1 (pn x.1 + 1) && Nat.ble 1 x.1 && Nat.blt x.1 338 && Nat.beq (rtOf x.1) 9 && Nat.beq x.2.2.2 (10 + ow x.1) && Nat.ble (ow x.1) 12))
  | _ => true
noncomputable def lenI (i : Instr) (d : Nat) : Nat := match i with
  | .iload _ => 2
  | .lload _ => 2
  | .aload _ => 2
  | .istore _ => 2
  | .lstore _ => 2
  | .astore _ => 2
  | .bipush _ => 2
  | .ldc _ => 2
  | .newarray _ => 2
  | .sipush _ => 3
  | .ldc_w _ => 3
  | .ldc2_w _ => 3
  | .iinc _ _ => 3
  | .ifCond _ _ => 3
  | .if_icmp _ _ => 3
  | .goto _ => 3
  | .ifnull _ => 3
  | .ifnonnull _ => 3
  | .getfield _ => 3
  | .putfield _ => 3
  | .getstatic _ => 3
  | .invokevirtual _ => 3
  | .invokespecial _ => 3
  | .invokestatic _ => 3
  | .new _ => 3
  | .anewarray _ => 3
  | .checkcast _ => 3
  | .tableswitch _ _ _ _ => d
  | .lookupswitch _ _ => d
  | _ => 1
noncomputable def okC (b : ByteArray) (own : Nat) (ini : Bool) : List CE → Bool
  | [] => true
  | e :: r => (match decode b e.1 with
    | .ok (i, len) => eqI i e.2.2.1 && Nat.beq len (lenI i len) && (match r with
      | [] => true
      | e' :: _ => Nat.beq e'.1 (e.1 + len))
    | .error _ => false) && okI own ini e.1 e.2.2.1 e.2.2.2 && okC b own ini r
noncomputable def iniM (m : Nat) : Bool := Nat.beq (mw m).1 2
noncomputable def okM (m : Nat) : Bool := okC (byo m) (ow m) (iniM m) (csOf m)
end
section
-- 08a.win
/-! an instruction read off its bytes by numbers; decode says the same (printed by wip/p/gen/win.py) -/
theorem rd_bind {α β : Type} {r : Decoder α} {f : α → Decoder β} {b : ByteArray} {i j : Nat} {a : α} {R : Except DecodeError (β × Nat)} (h : r b i = .ok (a, j)) (hf : f a b j = R) : (r >>= f) b i = R := by
  show Except.bind (r b i) _ = R
  rw [h]
  exact hf
theorem rd_map {α β : Type} {r : Decoder α} {f : α → β} {b : ByteArray} {i j : Nat} {a : α} (h : r b i = .ok (a, j)) : (f <$> r) b i = .ok (f a, j) := by
  show Except.bind (r b i) _ = _
  rw [h]
  rfl
theorem rd_u1 {b : ByteArray} {p : Nat} (h : p < b.size) : (Jvm.ClassFile.Reader.u1 : Decoder Nat) b p = .ok ((b[p]).toNat, p + 1) := by
  show (if h : p < b.size then (do set (p + 1); pure b[p].toNat : Decoder Nat) else throw (HasTruncated.truncated p)) b p = _
  rw [dif_pos h]
  rfl
theorem rd_l1 {b : ByteArray} {p : Nat} {a : UInt8} {r : List UInt8} (hl : b.data.toList.drop p = a :: r) : (Jvm.ClassFile.Reader.u1 : Decoder Nat) b p = .ok (a.toNat, p + 1) ∧ b.data.toList.drop (p + 1) = r := by
  cases b with
  | mk d =>
    cases d with
    | mk l0 =>
      have h0 : l0.drop p = a :: r := hl
      have h1 : p < l0.length := by
        rcases Nat.lt_or_ge p l0.length with h | h
        · exact h
        · rw [List.drop_eq_nil_of_le h] at h0
          cases h0
      have h2 := List.drop_eq_getElem_cons h1
      rw [h0] at h2
      have h3 := List.cons.inj h2
      refine ⟨?_, h3.2.symm⟩
      rw [rd_u1 (b := ⟨⟨l0⟩⟩) h1, h3.1]
      rfl
section
variable {b : ByteArray} {p : Nat} {a x y : UInt8} {r : List UInt8}
theorem rd_s1 (hl : b.data.toList.drop p = a :: r) : (Jvm.ClassFile.Reader.s1 : Decoder Int) b p = .ok (Jvm.ClassFile.Reader.signed 8 a.toNat, p + 1) := rd_map (rd_l1 hl).1
theorem rd_u2 (hl : b.data.toList.drop p = x :: y :: r) : (Jvm.ClassFile.Reader.u2 : Decoder Nat) b p = .ok (x.toNat * 256 + y.toNat, p + 2) := rd_bind (rd_l1 hl).1 (rd_bind (rd_l1 (rd_l1 hl).2).1 rfl)
theorem rd_s2 (hl : b.data.toList.drop p = x :: y :: r) : (Jvm.ClassFile.Reader.s2 : Decoder Int) b p = .ok (Jvm.ClassFile.Reader.signed 16 (x.toNat * 256 + y.toNat), p + 2) := rd_map (rd_u2 hl)
end
noncomputable def op1 (k : Nat) (l : List UInt8) : Bool := match l with
  | a :: _ => Nat.beq a.toNat k
  | [] => false
noncomputable def opu1 (k q : Nat) (l : List UInt8) : Bool := match l with
  | a :: x :: _ => Nat.beq a.toNat k && Nat.beq x.toNat q
  | _ => false
noncomputable def ops1 (k : Nat) (q : Int) (l : List UInt8) : Bool := match l with
  | a :: x :: _ => Nat.beq a.toNat k && decide (Jvm.ClassFile.Reader.signed 8 x.toNat = q)
  | _ => false
noncomputable def opu2 (k q : Nat) (l : List UInt8) : Bool := match l with
  | a :: x :: y :: _ => Nat.beq a.toNat k && Nat.beq (x.toNat * 256 + y.toNat) q
  | _ => false
noncomputable def ops2 (k : Nat) (q : Int) (l : List UInt8) : Bool := match l with
  | a :: x :: y :: _ => Nat.beq a.toNat k && decide (Jvm.ClassFile.Reader.signed 16 (x.toNat * 256 + y.toNat) = q)
  | _ => false
noncomputable def opi (k q : Nat) (s : Int) (l : List UInt8) : Bool := match l with
  | a :: x :: y :: _ => Nat.beq a.toNat k && Nat.beq x.toNat q && decide (Jvm.ClassFile.Reader.signed 8 y.toNat = s)
  | _ => false
section
variable {b : ByteArray} {pc k n : Nat} {i : Instr} {C : Nat → Decoder Instr} {l : List UInt8}
theorem dq (hC : Decoder.instr pc = Jvm.ClassFile.Reader.u1 >>= C) (hu : (Jvm.ClassFile.Reader.u1 : Decoder Nat) b pc = .ok (k, pc + 1)) (hk : C k b (pc + 1) = .ok (i, pc + n)) : decode b pc = .ok (i, n) := by
  have h : Decoder.instr pc b pc = .ok (i, pc + n) := by
    rw [hC]
    exact rd_bind hu hk
  show Except.bind (Decoder.instr pc b pc) _ = _
  rw [h]
  show Except.ok (i, pc + n - pc) = _
  rw [Nat.add_sub_cancel_left]
theorem dq1 (hC : Decoder.instr pc = Jvm.ClassFile.Reader.u1 >>= C) (hl : b.data.toList.drop pc = l) (h : op1 k l = true) (hk : C k = Pure.pure i) : decode b pc = .ok (i, 1) := by
  cases l with
  | nil => cases h
  | cons a r =>
    have e : a.toNat = k := Nat.eq_of_beq_eq_true h
    have hu := (rd_l1 hl).1
    rw [e] at hu
    exact dq hC hu (by rw [hk]; rfl)
theorem dqu1 {f : Nat → Instr} {q : Nat} (hC : Decoder.instr pc = Jvm.ClassFile.Reader.u1 >>= C) (hl : b.data.toList.drop pc = l) (h : opu1 k q l = true) (hk : C k = Jvm.ClassFile.Reader.u1 >>= fun x => pure (f x)) : decode b pc = .ok (f q, 2) := by
  match l, hl, h with
  | a :: x :: r, hl, h =>
    have h' := (Bool.and_eq_true _ _).mp h
    have e : a.toNat = k := Nat.eq_of_beq_eq_true h'.1
    have e2 : x.toNat = q := Nat.eq_of_beq_eq_true h'.2
    have hu := rd_l1 hl
    have hv := (rd_l1 hu.2).1
    rw [e] at hu
    rw [e2] at hv
    exact dq hC hu.1 (by rw [hk]; exact rd_bind hv rfl)
theorem dqs1 {f : Int → Instr} {q : Int} (hC : Decoder.instr pc = Jvm.ClassFile.Reader.u1 >>= C) (hl : b.data.toList.drop pc = l) (h : ops1 k q l = true) (hk : C k = Jvm.ClassFile.Reader.s1 >>= fun x => pure (f x)) : decode b pc = .ok (f q, 2) := by
  match l, hl, h with
  | a :: x :: r, hl, h =>
    have h' := (Bool.and_eq_true _ _).mp h
    have e : a.toNat = k := Nat.eq_of_beq_eq_true h'.1
    have e2 := of_decide_eq_true h'.2
    have hu := rd_l1 hl
    have hv := rd_s1 hu.2
    rw [e] at hu
    rw [e2] at hv
    exact dq hC hu.1 (by rw [hk]; exact rd_bind hv rfl)
theorem dqu2 {f : Nat → Instr} {q : Nat} (hC : Decoder.instr pc = Jvm.ClassFile.Reader.u1 >>= C) (hl : b.data.toList.drop pc = l) (h : opu2 k q l = true) (hk : C k = Jvm.ClassFile.Reader.u2 >>= fun x => pure (f x)) : decode b pc = .ok (f q, 3) := by
  match l, hl, h with
  | a :: x :: y :: r, hl, h =>
    have h' := (Bool.and_eq_true _ _).mp h
    have e : a.toNat = k := Nat.eq_of_beq_eq_true h'.1
    have e2 : x.toNat * 256 + y.toNat = q := Nat.eq_of_beq_eq_true h'.2
    have hu := rd_l1 hl
    have hv := rd_u2 hu.2
    rw [e] at hu
    rw [e2] at hv
    exact dq hC hu.1 (by rw [hk]; exact rd_bind hv rfl)
theorem dqs2 {f : Int → Instr} {q : Int} (hC : Decoder.instr pc = Jvm.ClassFile.Reader.u1 >>= C) (hl : b.data.toList.drop pc = l) (h : ops2 k q l = true) (hk : C k = Jvm.ClassFile.Reader.s2 >>= fun x => pure (f x)) : decode b pc = .ok (f q, 3) := by
  match l, hl, h with
  | a :: x :: y :: r, hl, h =>
    have h' := (Bool.and_eq_true _ _).mp h
    have e : a.toNat = k := Nat.eq_of_beq_eq_true h'.1
    have e2 := of_decide_eq_true h'.2
    have hu := rd_l1 hl
    have hv := rd_s2 hu.2
    rw [e] at hu
    rw [e2] at hv
    exact dq hC hu.1 (by rw [hk]; exact rd_bind hv rfl)
theorem dqi {f : Nat → Int → Instr} {q : Nat} {s : Int} (hC : Decoder.instr pc = Jvm.ClassFile.Reader.u1 >>= C) (hl : b.data.toList.drop pc = l) (h : opi k q s l = true) (hk : C k = Jvm.ClassFile.Reader.u1 >>= fun x => Jvm.ClassFile.Reader.s1 >>= fun y => pure (f x y)) : decode b pc = .ok (f q s, 3) := by
  match l, hl, h with
  | a :: x :: y :: r, hl, h =>
    have h' := (Bool.and_eq_true _ _).mp h
    have h3 := (Bool.and_eq_true _ _).mp h'.1
    have e : a.toNat = k := Nat.eq_of_beq_eq_true h3.1
    have e2 : x.toNat = q := Nat.eq_of_beq_eq_true h3.2
    have e3 := of_decide_eq_true h'.2
    have hu := rd_l1 hl
    have hv := rd_l1 hu.2
    have hw := rd_s1 hv.2
    rw [e] at hu
    rw [e2] at hv
    rw [e3] at hw
    exact dq hC hu.1 (by rw [hk]; exact rd_bind hv.1 (rd_bind hw rfl))
theorem dqn {D : Nat → Decoder Instr} {q : Nat} (hC : Decoder.instr pc = Jvm.ClassFile.Reader.u1 >>= C) (hl : b.data.toList.drop pc = l) (h : opu1 k q l = true) (hk : C k = Jvm.ClassFile.Reader.u1 >>= D) (hD : D q = Pure.pure i) : decode b pc = .ok (i, 2) := by
  match l, hl, h with
  | a :: x :: r, hl, h =>
    have h' := (Bool.and_eq_true _ _).mp h
    have e : a.toNat = k := Nat.eq_of_beq_eq_true h'.1
    have e2 : x.toNat = q := Nat.eq_of_beq_eq_true h'.2
    have hu := rd_l1 hl
    have hv := (rd_l1 hu.2).1
    rw [e] at hu
    rw [e2] at hv
    exact dq hC hu.1 (by rw [hk]; exact rd_bind hv (by rw [hD]; rfl))
end
noncomputable def opc (q : Int) (l : List UInt8) : Bool := match q with
  | (-1) => op1 2 l
  | 0 => op1 3 l
  | 1 => op1 4 l
  | 2 => op1 5 l
  | 3 => op1 6 l
  | 4 => op1 7 l
  | 5 => op1 8 l
  | _ => false
noncomputable def okw (i : Instr) (l : List UInt8) : Bool := match i with
  | .aaload => op1 50 l
  | .aastore => op1 83 l
  | .aconst_null => op1 1 l
  | .areturn => op1 176 l
  | .arraylength => op1 190 l
  | .athrow => op1 191 l
  | .baload => op1 51 l
  | .bastore => op1 84 l
  | .dup => op1 89 l
  | .dup2 => op1 92 l
  | .i2b => op1 145 l
  | .i2c => op1 146 l
  | .i2l => op1 133 l
  | .iadd => op1 96 l
  | .iaload => op1 46 l
  | .iand => op1 126 l
  | .iastore => op1 79 l
  | .idiv => op1 108 l
  | .imul => op1 104 l
  | .ior => op1 128 l
  | .irem => op1 112 l
  | .ireturn => op1 172 l
  | .ishl => op1 120 l
  | .ishr => op1 122 l
  | .isub => op1 100 l
  | .iushr => op1 124 l
  | .ixor => op1 130 l
  | .l2i => op1 136 l
  | .ladd => op1 97 l
  | .laload => op1 47 l
  | .land => op1 127 l
  | .lastore => op1 80 l
  | .lcmp => op1 148 l
  | .ldiv => op1 109 l
  | .lmul => op1 105 l
  | .lneg => op1 117 l
  | .lor => op1 129 l
  | .lrem => op1 113 l
  | .lreturn => op1 173 l
  | .lshl => op1 121 l
  | .lsub => op1 101 l
  | .lushr => op1 125 l
  | .lxor => op1 131 l
  | .pop => op1 87 l
  | .pop2 => op1 88 l
  | .return_ => op1 177 l
  | .aload q => opu1 25 q l
  | .astore q => opu1 58 q l
  | .iload q => opu1 21 q l
  | .istore q => opu1 54 q l
  | .lload q => opu1 22 q l
  | .lstore q => opu1 55 q l
  | .ldc q => opu1 18 q l
  | .bipush q => ops1 16 q l
  | .anewarray q => opu2 189 q l
  | .checkcast q => opu2 192 q l
  | .getfield q => opu2 180 q l
  | .getstatic q => opu2 178 q l
  | .invokespecial q => opu2 183 q l
  | .invokestatic q => opu2 184 q l
  | .invokevirtual q => opu2 182 q l
  | .ldc_w q => opu2 19 q l
  | .ldc2_w q => opu2 20 q l
  | .new q => opu2 187 q l
  | .putfield q => opu2 181 q l
  | .sipush q => ops2 17 q l
  | .goto q => ops2 167 q l
  | .ifnull q => ops2 198 q l
  | .ifnonnull q => ops2 199 q l
  | .ifCond .eq q => ops2 153 q l
  | .ifCond .ne q => ops2 154 q l
  | .ifCond .lt q => ops2 155 q l
  | .ifCond .ge q => ops2 156 q l
  | .ifCond .gt q => ops2 157 q l
  | .ifCond .le q => ops2 158 q l
  | .if_icmp .eq q => ops2 159 q l
  | .if_icmp .ne q => ops2 160 q l
  | .if_icmp .lt q => ops2 161 q l
  | .if_icmp .ge q => ops2 162 q l
  | .if_icmp .gt q => ops2 163 q l
  | .if_icmp .le q => ops2 164 q l
  | .iinc q s => opi 132 q s l
  | .iload_n q => op1 (26 + q.val) l
  | .lload_n q => op1 (30 + q.val) l
  | .aload_n q => op1 (42 + q.val) l
  | .istore_n q => op1 (59 + q.val) l
  | .lstore_n q => op1 (63 + q.val) l
  | .astore_n q => op1 (75 + q.val) l
  | .lconst q => op1 (9 + q.val) l
  | .iconst q => opc q l
  | .newarray .boolean => opu1 188 4 l
  | .newarray .byte => opu1 188 8 l
  | .newarray .int => opu1 188 10 l
  | .newarray .long => opu1 188 11 l
  | _ => false
theorem okw_all {b : ByteArray} {pc : Nat} {l : List UInt8} (hl : b.data.toList.drop pc = l) {i : Instr} (h : okw i l = true) : decode b pc = .ok (i, lenI i 0) ∧ (encI i).isEmpty = false ∧ lenI i (lenI i 0) = lenI i 0 := by
  cases i
  case aaload => exact ⟨dq1 rfl hl h rfl, rfl, rfl⟩
  case aastore => exact ⟨dq1 rfl hl h rfl, rfl, rfl⟩
  case aconst_null => exact ⟨dq1 rfl hl h rfl, rfl, rfl⟩
  case areturn => exact ⟨dq1 rfl hl h rfl, rfl, rfl⟩
  case arraylength => exact ⟨dq1 rfl hl h rfl, rfl, rfl⟩
  case athrow => exact ⟨dq1 rfl hl h rfl, rfl, rfl⟩
  case baload => exact ⟨dq1 rfl hl h rfl, rfl, rfl⟩
  case bastore => exact ⟨dq1 rfl hl h rfl, rfl, rfl⟩
  case dup => exact ⟨dq1 rfl hl h rfl, rfl, rfl⟩
  case dup2 => exact ⟨dq1 rfl hl h rfl, rfl, rfl⟩
  case i2b => exact ⟨dq1 rfl hl h rfl, rfl, rfl⟩
  case i2c => exact ⟨dq1 rfl hl h rfl, rfl, rfl⟩
  case i2l => exact ⟨dq1 rfl hl h rfl, rfl, rfl⟩
  case iadd => exact ⟨dq1 rfl hl h rfl, rfl, rfl⟩
  case iaload => exact ⟨dq1 rfl hl h rfl, rfl, rfl⟩
  case iand => exact ⟨dq1 rfl hl h rfl, rfl, rfl⟩
  case iastore => exact ⟨dq1 rfl hl h rfl, rfl, rfl⟩
  case idiv => exact ⟨dq1 rfl hl h rfl, rfl, rfl⟩
  case imul => exact ⟨dq1 rfl hl h rfl, rfl, rfl⟩
  case ior => exact ⟨dq1 rfl hl h rfl, rfl, rfl⟩
  case irem => exact ⟨dq1 rfl hl h rfl, rfl, rfl⟩
  case ireturn => exact ⟨dq1 rfl hl h rfl, rfl, rfl⟩
  case ishl => exact ⟨dq1 rfl hl h rfl, rfl, rfl⟩
  case ishr => exact ⟨dq1 rfl hl h rfl, rfl, rfl⟩
  case isub => exact ⟨dq1 rfl hl h rfl, rfl, rfl⟩
  case iushr => exact ⟨dq1 rfl hl h rfl, rfl, rfl⟩
  case ixor => exact ⟨dq1 rfl hl h rfl, rfl, rfl⟩
  case l2i => exact ⟨dq1 rfl hl h rfl, rfl, rfl⟩
  case ladd => exact ⟨dq1 rfl hl h rfl, rfl, rfl⟩
  case laload => exact ⟨dq1 rfl hl h rfl, rfl, rfl⟩
  case land => exact ⟨dq1 rfl hl h rfl, rfl, rfl⟩
  case lastore => exact ⟨dq1 rfl hl h rfl, rfl, rfl⟩
  case lcmp => exact ⟨dq1 rfl hl h rfl, rfl, rfl⟩
  case ldiv => exact ⟨dq1 rfl hl h rfl, rfl, rfl⟩
  case lmul => exact ⟨dq1 rfl hl h rfl, rfl, rfl⟩
  case lneg => exact ⟨dq1 rfl hl h rfl, rfl, rfl⟩
  case lor => exact ⟨dq1 rfl hl h rfl, rfl, rfl⟩
  case lrem => exact ⟨dq1 rfl hl h rfl, rfl, rfl⟩
  case lreturn => exact ⟨dq1 rfl hl h rfl, rfl, rfl⟩
  case lshl => exact ⟨dq1 rfl hl h rfl, rfl, rfl⟩
  case lsub => exact ⟨dq1 rfl hl h rfl, rfl, rfl⟩
  case lushr => exact ⟨dq1 rfl hl h rfl, rfl, rfl⟩
  case lxor => exact ⟨dq1 rfl hl h rfl, rfl, rfl⟩
  case pop => exact ⟨dq1 rfl hl h rfl, rfl, rfl⟩
  case pop2 => exact ⟨dq1 rfl hl h rfl, rfl, rfl⟩
  case return_ => exact ⟨dq1 rfl hl h rfl, rfl, rfl⟩
  case aload q => exact ⟨dqu1 rfl hl h rfl, rfl, rfl⟩
  case astore q => exact ⟨dqu1 rfl hl h rfl, rfl, rfl⟩
  case iload q => exact ⟨dqu1 rfl hl h rfl, rfl, rfl⟩
  case istore q => exact ⟨dqu1 rfl hl h rfl, rfl, rfl⟩
  case lload q => exact ⟨dqu1 rfl hl h rfl, rfl, rfl⟩
  case lstore q => exact ⟨dqu1 rfl hl h rfl, rfl, rfl⟩
  case ldc q => exact ⟨dqu1 rfl hl h rfl, rfl, rfl⟩
  case bipush q => exact ⟨dqs1 rfl hl h rfl, rfl, rfl⟩
  case anewarray q => exact ⟨dqu2 rfl hl h rfl, rfl, rfl⟩
  case checkcast q => exact ⟨dqu2 rfl hl h rfl, rfl, rfl⟩
  case getfield q => exact ⟨dqu2 rfl hl h rfl, rfl, rfl⟩
  case getstatic q => exact ⟨dqu2 rfl hl h rfl, rfl, rfl⟩
  case invokespecial q => exact ⟨dqu2 rfl hl h rfl, rfl, rfl⟩
  case invokestatic q => exact ⟨dqu2 rfl hl h rfl, rfl, rfl⟩
  case invokevirtual q => exact ⟨dqu2 rfl hl h rfl, rfl, rfl⟩
  case ldc_w q => exact ⟨dqu2 rfl hl h rfl, rfl, rfl⟩
  case ldc2_w q => exact ⟨dqu2 rfl hl h rfl, rfl, rfl⟩
  case new q => exact ⟨dqu2 rfl hl h rfl, rfl, rfl⟩
  case putfield q => exact ⟨dqu2 rfl hl h rfl, rfl, rfl⟩
  case sipush q => exact ⟨dqs2 rfl hl h rfl, rfl, rfl⟩
  case goto q => exact ⟨dqs2 rfl hl h rfl, rfl, rfl⟩
  case ifnull q => exact ⟨dqs2 rfl hl h rfl, rfl, rfl⟩
  case ifnonnull q => exact ⟨dqs2 rfl hl h rfl, rfl, rfl⟩
  case ifCond c q =>
    cases c
    case eq => exact ⟨dqs2 rfl hl h rfl, rfl, rfl⟩
    case ne => exact ⟨dqs2 rfl hl h rfl, rfl, rfl⟩
    case lt => exact ⟨dqs2 rfl hl h rfl, rfl, rfl⟩
    case ge => exact ⟨dqs2 rfl hl h rfl, rfl, rfl⟩
    case gt => exact ⟨dqs2 rfl hl h rfl, rfl, rfl⟩
    case le => exact ⟨dqs2 rfl hl h rfl, rfl, rfl⟩
  case if_icmp c q =>
    cases c
    case eq => exact ⟨dqs2 rfl hl h rfl, rfl, rfl⟩
    case ne => exact ⟨dqs2 rfl hl h rfl, rfl, rfl⟩
    case lt => exact ⟨dqs2 rfl hl h rfl, rfl, rfl⟩
    case ge => exact ⟨dqs2 rfl hl h rfl, rfl, rfl⟩
    case gt => exact ⟨dqs2 rfl hl h rfl, rfl, rfl⟩
    case le => exact ⟨dqs2 rfl hl h rfl, rfl, rfl⟩
  case iinc q s => exact ⟨dqi rfl hl h rfl, rfl, rfl⟩
  case iload_n q =>
    match q, h with
    | 0, h => exact ⟨dq1 (k := 26) rfl hl h rfl, rfl, rfl⟩
    | 1, h => exact ⟨dq1 (k := 27) rfl hl h rfl, rfl, rfl⟩
    | 2, h => exact ⟨dq1 (k := 28) rfl hl h rfl, rfl, rfl⟩
    | 3, h => exact ⟨dq1 (k := 29) rfl hl h rfl, rfl, rfl⟩
  case lload_n q =>
    match q, h with
    | 0, h => exact ⟨dq1 (k := 30) rfl hl h rfl, rfl, rfl⟩
    | 1, h => exact ⟨dq1 (k := 31) rfl hl h rfl, rfl, rfl⟩
    | 2, h => exact ⟨dq1 (k := 32) rfl hl h rfl, rfl, rfl⟩
    | 3, h => exact ⟨dq1 (k := 33) rfl hl h rfl, rfl, rfl⟩
  case aload_n q =>
    match q, h with
    | 0, h => exact ⟨dq1 (k := 42) rfl hl h rfl, rfl, rfl⟩
    | 1, h => exact ⟨dq1 (k := 43) rfl hl h rfl, rfl, rfl⟩
    | 2, h => exact ⟨dq1 (k := 44) rfl hl h rfl, rfl, rfl⟩
    | 3, h => exact ⟨dq1 (k := 45) rfl hl h rfl, rfl, rfl⟩
  case istore_n q =>
    match q, h with
    | 0, h => exact ⟨dq1 (k := 59) rfl hl h rfl, rfl, rfl⟩
    | 1, h => exact ⟨dq1 (k := 60) rfl hl h rfl, rfl, rfl⟩
    | 2, h => exact ⟨dq1 (k := 61) rfl hl h rfl, rfl, rfl⟩
    | 3, h => exact ⟨dq1 (k := 62) rfl hl h rfl, rfl, rfl⟩
  case lstore_n q =>
    match q, h with
    | 0, h => exact ⟨dq1 (k := 63) rfl hl h rfl, rfl, rfl⟩
    | 1, h => exact ⟨dq1 (k := 64) rfl hl h rfl, rfl, rfl⟩
    | 2, h => exact ⟨dq1 (k := 65) rfl hl h rfl, rfl, rfl⟩
    | 3, h => exact ⟨dq1 (k := 66) rfl hl h rfl, rfl, rfl⟩
  case astore_n q =>
    match q, h with
    | 0, h => exact ⟨dq1 (k := 75) rfl hl h rfl, rfl, rfl⟩
    | 1, h => exact ⟨dq1 (k := 76) rfl hl h rfl, rfl, rfl⟩
    | 2, h => exact ⟨dq1 (k := 77) rfl hl h rfl, rfl, rfl⟩
    | 3, h => exact ⟨dq1 (k := 78) rfl hl h rfl, rfl, rfl⟩
  case lconst q =>
    match q, h with
    | 0, h => exact ⟨dq1 (k := 9) rfl hl h rfl, rfl, rfl⟩
    | 1, h => exact ⟨dq1 (k := 10) rfl hl h rfl, rfl, rfl⟩
  case iconst q =>
    have h' : opc q l = true := h
    unfold opc at h'
    split at h'
    · exact ⟨dq1 (k := 2) rfl hl h' rfl, rfl, rfl⟩
    · exact ⟨dq1 (k := 3) rfl hl h' rfl, rfl, rfl⟩
    · exact ⟨dq1 (k := 4) rfl hl h' rfl, rfl, rfl⟩
    · exact ⟨dq1 (k := 5) rfl hl h' rfl, rfl, rfl⟩
    · exact ⟨dq1 (k := 6) rfl hl h' rfl, rfl, rfl⟩
    · exact ⟨dq1 (k := 7) rfl hl h' rfl, rfl, rfl⟩
    · exact ⟨dq1 (k := 8) rfl hl h' rfl, rfl, rfl⟩
    · cases h'
  case newarray t =>
    cases t
    case boolean => exact ⟨dqn rfl hl h rfl rfl, rfl, rfl⟩
    case byte => exact ⟨dqn rfl hl h rfl rfl, rfl, rfl⟩
    case int => exact ⟨dqn rfl hl h rfl rfl, rfl, rfl⟩
    case long => exact ⟨dqn rfl hl h rfl rfl, rfl, rfl⟩
    all_goals cases h
  all_goals cases h
noncomputable def lnF (b : ByteArray) (pc : Nat) (i : Instr) (l : List UInt8) : Nat := match okw i l with
  | true => lenI i 0
  | false => (match i with
    | .tableswitch _ _ _ _ => (match decode b pc with
      | .ok (j, n) => (match eqI j i with
        | true => n
        | false => 0)
      | .error _ => 0)
    | .lookupswitch _ _ => (match decode b pc with
      | .ok (j, n) => (match eqI j i with
        | true => n
        | false => 0)
      | .error _ => 0)
    | _ => 0)
theorem lnF_ok {b : ByteArray} {pc : Nat} {i : Instr} {l : List UInt8} (hl : b.data.toList.drop pc = l) {n : Nat} (h : lnF b pc i l = n + 1) : decode b pc = .ok (i, n + 1) ∧ eqI i i = true ∧ n + 1 = lenI i (n + 1) := by
  have slow : ∀ {m : Nat}, (match decode b pc with
      | .ok (j, n) => (match eqI j i with
        | true => n
        | false => 0)
      | .error _ => 0) = m + 1 → decode b pc = .ok (i, m + 1) ∧ eqI i i = true := by
    intro m q
    cases hd : decode b pc with
    | error e => rw [hd] at q; cases q
    | ok z =>
      obtain ⟨j, n⟩ := z
      rw [hd] at q
      dsimp only at q
      cases he : eqI j i with
      | false => rw [he] at q; cases q
      | true =>
        rw [he] at q
        dsimp only at q
        have ej := eqI_eq he
        subst ej
        rw [q]
        exact ⟨rfl, he⟩
  unfold lnF at h
  cases hw : okw i l with
  | true =>
    rw [hw] at h
    dsimp only at h
    obtain ⟨d1, d2, d3⟩ := okw_all hl hw
    rw [h] at d1 d3
    refine ⟨d1, ?_, ?_⟩
    · unfold eqI
      rw [Bool.and_eq_true, decide_eq_true_eq, Bool.not_eq_true']
      exact ⟨rfl, d2⟩
    · exact d3.symm
  | false =>
    rw [hw] at h
    dsimp only at h
    cases i
    case tableswitch d lo hi os => exact ⟨(slow h).1, (slow h).2, rfl⟩
    case lookupswitch d ps => exact ⟨(slow h).1, (slow h).2, rfl⟩
    all_goals cases h
theorem any_dr {α : Type _} {l : List α} {n : Nat} {f : α → Bool} (h : (l.drop n).any f = true) : l.any f = true := by
  obtain ⟨x, h1, h2⟩ := List.any_eq_true.mp h
  exact List.any_eq_true.mpr ⟨x, List.mem_of_mem_drop h1, h2⟩
/-- okI, links looked up from the class's own on -/
noncomputable def okJ (own : Nat) (ini : Bool) (pc : Nat) (i : Instr) (x : XI) : Bool := match i with
  | .getfield q => (match Nat.beq x.1 13 with
    | true => okI own ini pc (.getfield q) x
    | false => ((fkl.drop (fkS.getD own 0)).any fun e => mtc e.1 e.2.1 own q && mtc e.2.2.1 e.2.2.2.1 x.1 x.2.1) && decide (x.2.2.1 = fcd x.1 x.2.1) && Nat.blt x.1 13 && Nat.blt x.2.1 (NN x.1))
  | .putfield q => ((fkl.drop (fkS.getD own 0)).any fun e => mtc e.1 e.2.1 own q && mtc e.2.2.1 e.2.2.2.1 x.1 x.2.1 && (!(TT x.1 x.2.1).2.2.2 || (ini && !e.2.2.2.2.2 && Nat.beq own x.1))) && decide (x.2.2.1 = fcd x.1 x.2.1) && Nat.blt x.1 13 && Nat.blt x.2.1 (NN x.1)
  | .invokestatic q => (match Nat.ble 9000 x.1 with
    | true => okI own ini pc (.invokestatic q) x
    | false => (((mkl.drop (mkS.getD own 0)).any fun e => mtc e.1 e.2.1 own q && Nat.beq e.2.2.1 x.1) && Nat.beq (mw x.1).1 0 && Nat.beq x.2.1 (pn x.1) && Nat.ble 1 x.1 && Nat.blt x.1 338 && decide (x.2.2.1 = rcc x.1)))
  | .invokevirtual q => (match Nat.ble 9000 x.1 with
    | true => okI own ini pc (.invokevirtual q) x
    | false => (((mkl.drop (mkS.getD own 0)).any fun e => mtc e.1 e.2.1 own q && Nat.beq e.2.2.1 x.1) && Nat.beq (mw x.1).1 1 && Nat.beq x.2.1 (pn x.1 + 1) && Nat.ble 1 x.1 && Nat.blt x.1 338 && decide (x.2.2.1 = rcc x.1) && Nat.beq x.2.2.2 (10 + ow x.1) && Nat.ble (ow x.1) 13))
  | .invokespecial q => (match Nat.ble 9000 x.1 with
    | true => okI own ini pc (.invokespecial q) x
    | false => (((mkl.drop (mkS.getD own 0)).any fun e => mtc e.1 e.2.1 own q && Nat.beq e.2.2.1 x.1) && Nat.beq (mw x.1).1 2 && Nat.beq x.2.1 (pn x.1 + 1) && Nat.ble 1 x.1 && Nat.blt x.1 338 && Nat.beq (rtOf x.1) 9 && Nat.beq x.2.2.2 (10 + ow x.1) && Nat.ble (ow x.1) 12))
  | i => okI own ini pc i x
theorem bl_big {n k : Nat} (h : Nat.ble 9000 n = false) (hk : 9000 ≤ k) : Nat.beq n k = false := by
  cases hb : Nat.beq n k with
  | false => rfl
  | true =>
    rw [Nat.eq_of_beq_eq_true hb, Nat.ble_eq_true_of_le hk] at h
    cases h
theorem bl_big2 {n k : Nat} (h : Nat.ble 9000 n = false) (hk : 9000 ≤ k) : Nat.ble k n = false := by
  cases hb : Nat.ble k n with
  | false => rfl
  | true =>
    rw [Nat.ble_eq_true_of_le (Nat.le_trans hk (Nat.le_of_ble_eq_true hb))] at h
    cases h
theorem okJ_okI {own : Nat} {ini : Bool} {pc : Nat} {i : Instr} {x : XI} (h : okJ own ini pc i x = true) : okI own ini pc i x = true := by
  cases i
  case getfield q =>
    cases hb : Nat.beq x.1 13 with
    | true => unfold okJ at h; rw [hb] at h; exact h
    | false =>
      unfold okJ at h
      unfold okI
      rw [hb] at h ⊢
      dsimp only at h ⊢
      simp only [Bool.and_eq_true] at h ⊢
      exact ⟨⟨⟨any_dr h.1.1.1, h.1.1.2⟩, h.1.2⟩, h.2⟩
  case putfield q =>
    unfold okJ at h
    unfold okI
    dsimp only at h ⊢
    rw [Bool.and_eq_true, Bool.and_eq_true, Bool.and_eq_true] at h ⊢
    exact ⟨⟨⟨any_dr h.1.1.1, h.1.1.2⟩, h.1.2⟩, h.2⟩
  case invokestatic q =>
    cases hb : Nat.ble 9000 x.1 with
    | true => unfold okJ at h; rw [hb] at h; exact h
    | false =>
      unfold okJ at h
      unfold okI
      rw [hb] at h
      dsimp only at h ⊢
      rw [hb, bl_big2 hb (k := 9990) (by decide)]
      dsimp only
      rw [Bool.and_eq_true, Bool.and_eq_true, Bool.and_eq_true, Bool.and_eq_true, Bool.and_eq_true] at h
      rw [Bool.false_or, Bool.and_eq_true, Bool.and_eq_true, Bool.and_eq_true, Bool.and_eq_true, Bool.and_eq_true]
      exact ⟨⟨⟨⟨⟨any_dr h.1.1.1.1.1, h.1.1.1.1.2⟩, h.1.1.1.2⟩, h.1.1.2⟩, h.1.2⟩, h.2⟩
  case invokevirtual q =>
    cases hb : Nat.ble 9000 x.1 with
    | true => unfold okJ at h; rw [hb] at h; exact h
    | false =>
      unfold okJ at h
      unfold okI
      rw [hb] at h
      dsimp only at h ⊢
      rw [hb, bl_big hb (k := 9998) (by decide)]
      dsimp only
      rw [Bool.and_eq_true, Bool.and_eq_true, Bool.and_eq_true, Bool.and_eq_true, Bool.and_eq_true, Bool.and_eq_true, Bool.and_eq_true] at h
      rw [Bool.false_or, Bool.and_eq_true, Bool.and_eq_true, Bool.and_eq_true, Bool.and_eq_true, Bool.and_eq_true, Bool.and_eq_true, Bool.and_eq_true]
      exact ⟨⟨⟨⟨⟨⟨⟨any_dr h.1.1.1.1.1.1.1, h.1.1.1.1.1.1.2⟩, h.1.1.1.1.1.2⟩, h.1.1.1.1.2⟩, h.1.1.1.2⟩, h.1.1.2⟩, h.1.2⟩, h.2⟩
  case invokespecial q =>
    cases hb : Nat.ble 9000 x.1 with
    | true => unfold okJ at h; rw [hb] at h; exact h
    | false =>
      unfold okJ at h
      unfold okI
      rw [hb] at h
      dsimp only at h ⊢
      rw [hb, bl_big hb (k := 9999) (by decide)]
      dsimp only
      rw [Bool.and_eq_true, Bool.and_eq_true, Bool.and_eq_true, Bool.and_eq_true, Bool.and_eq_true, Bool.and_eq_true, Bool.and_eq_true] at h
      rw [Bool.false_or, Bool.and_eq_true, Bool.and_eq_true, Bool.and_eq_true, Bool.and_eq_true, Bool.and_eq_true, Bool.and_eq_true, Bool.and_eq_true]
      exact ⟨⟨⟨⟨⟨⟨⟨any_dr h.1.1.1.1.1.1.1, h.1.1.1.1.1.1.2⟩, h.1.1.1.1.1.2⟩, h.1.1.1.1.2⟩, h.1.1.1.2⟩, h.1.1.2⟩, h.1.2⟩, h.2⟩
  all_goals exact h
noncomputable def okF (b : ByteArray) (own : Nat) (ini : Bool) : Nat → List CE → List UInt8 → Bool
  | 0, _, _ => true
  | _ + 1, [], _ => true
  | f + 1, e :: r, l => (match lnF b e.1 e.2.2.1 l with
    | 0 => false
    | n + 1 => (match r with
      | [] => true
      | e' :: _ => Nat.beq e'.1 (e.1 + (n + 1))) && okJ own ini e.1 e.2.2.1 e.2.2.2 && (match l.drop (n + 1) with
      | [] => okF b own ini f r []
      | x :: t => okF b own ini f r (x :: t)))
theorem okF_ok {b : ByteArray} {own : Nat} {ini : Bool} : ∀ (f : Nat) (cs : List CE) (l : List UInt8), (∀ e r, cs = e :: r → b.data.toList.drop e.1 = l) → okF b own ini f cs l = true → okC b own ini (cs.drop f) = true → okC b own ini cs = true := by
  intro f
  induction f with
  | zero => intro cs l _ _ hT; exact hT
  | succ f ih =>
    intro cs l hl h hT
    cases cs with
    | nil => rfl
    | cons e cs =>
      have hl' := hl e cs rfl
      have hT' : okC b own ini (cs.drop f) = true := hT
      unfold okF at h
      cases hq : lnF b e.1 e.2.2.1 l with
      | zero => rw [hq] at h; cases h
      | succ n =>
        rw [hq] at h
        dsimp only at h
        rw [Bool.and_eq_true, Bool.and_eq_true] at h
        obtain ⟨⟨h1, h2⟩, h3⟩ := h
        obtain ⟨d1, d2, d3⟩ := lnF_ok hl' hq
        have h4 : okF b own ini f cs (l.drop (n + 1)) = true := by
          cases hd : l.drop (n + 1) with
          | nil => rw [hd] at h3; exact h3
          | cons x t => rw [hd] at h3; exact h3
        have h5 : okC b own ini cs = true := by
          refine ih cs (l.drop (n + 1)) (fun e' r' he => ?_) h4 hT'
          rw [he] at h1
          have h6 : e'.1 = e.1 + (n + 1) := Nat.eq_of_beq_eq_true h1
          rw [h6, ← List.drop_drop, hl']
        unfold okC
        rw [d1]
        dsimp only
        rw [Bool.and_eq_true, Bool.and_eq_true, Bool.and_eq_true, Bool.and_eq_true]
        refine ⟨⟨⟨⟨d2, ?_⟩, h1⟩, okJ_okI h2⟩, h5⟩
        rw [← d3]
        exact Nat.beq_refl _
noncomputable def hdn (cs : List CE) (n : Nat) : Bool := match cs with
  | [] => true
  | e :: _ => Nat.beq e.1 n
theorem hdn_e {cs : List CE} {n : Nat} (h : hdn cs n = true) : ∀ e r, cs = e :: r → e.1 = n := by
  intro e r q
  rw [q] at h
  exact Nat.eq_of_beq_eq_true h
/-- a stretch of a method's code: its first f instructions, from pc on -/
theorem okF_st {b : ByteArray} {own : Nat} {ini : Bool} (f pc : Nat) {cs T : List CE} (h : (hdn cs pc && okF b own ini f cs (b.data.toList.drop pc)) = true) (hT : okC b own ini T = true) (hd : cs.drop f = T) : okC b own ini cs = true := by
  rw [Bool.and_eq_true] at h
  exact okF_ok f cs _ (fun e r q => by rw [hdn_e h.1 e r q]) h.2 (by rw [hd]; exact hT)
noncomputable def okG (m f : Nat) : Bool := hdn (csOf m) 0 && okF (byo m) (ow m) (iniM m) f (csOf m) (byo m).data.toList && ((csOf m).drop f).isEmpty
theorem okM_of (m f : Nat) (h : okG m f = true) : okM m = true := by
  unfold okG at h
  rw [Bool.and_eq_true] at h
  refine okF_st (T := []) f 0 h.1 rfl (List.isEmpty_iff.mp h.2)
end
