section SND
variable {p : Program} {l : Launch} {e : Env} {R : Room} {s : State} {m : MethodId} {args : Array Value} {below : List Frame} {meth : Method} {c : Code} {G : GE} {w : WC} {mi : Nat} {Q : State → Prop} {n0 s0 : Nat} {SF : AH} {F : Int × AH} {pc len : Nat} {ls : LV} {st : List TV} {S : AH} {k : KT}
theorem s_iinc (hc : CX G p s m meth c mi) {j : Nat} {n : Int} (hd : decode (byo mi) pc = .ok (.iinc j n, 3)) (h : (match ls[j]? with
    | some (some (.inl a)) => st1 ls j (vi (w32 (a + n))) (fun q => k q st S)
    | _ => none) = some F) (hk : ∀ ls' st' S', k ls' st' S' = some F → PP p l e R s m args below meth c G w mi Q n0 s0 SF (pc + 3) ls' st' S') : PP p l e R s m args below meth c G w mi Q n0 s0 SF pc ls st S := by
  have hG := hc.2.2.2.2.2.1.2.2.2.2.2.2.2.1
  split at h
  · rename_i a hq
    obtain ⟨hj, ls', h1, hl, hs1⟩ := st1_spec h
    have h2 := hk _ _ _ h1
    refine ⟨h2.1, fun H locs lsC hR hS hL hv hn hs => ?_⟩
    have ha : r32 a := (hL.2.2.2 _ _ hq).2
    obtain ⟨i, hi⟩ := List.getElem?_of_mem (lvp_mem (q := (j, rep G (.inl a))).mpr ⟨_, hq, rfl⟩)
    exact lv_iinc (k := i) hc.1 hc.2.1 hd hL.has hi (ofi_add a n).symm (by rw [← hL.1]; exact hj) rfl (fun lsC' h' => h2.2 H locs lsC' hR hS (LR.st1 (v := vi (w32 (a + n))) hG hL (w32_r _) hl hs1 h') hv hn hs)
  · cases h
theorem lnk_long (hE : EN G s s.heap) {q : Nat} {v : Int} (he : (lkl.any fun e => mtc e.1 e.2.1 (ow mi) q && decide (e.2.2.1 = v)) = true) : (Cond.constantLong (cnm (ow mi)) q (Int64.ofInt v)).before args s = true ∧ r64 v := by
  obtain ⟨en, hen, hm⟩ := List.any_eq_true.mp he
  rw [Bool.and_eq_true, decide_eq_true_eq] at hm
  obtain ⟨m1, m2⟩ := mtc_eq hm.1
  have hl := List.all_eq_true.mp lkl_ok en hen
  simp only [Bool.and_eq_true, decide_eq_true_eq] at hl
  rw [m1, m2, hm.2] at hl
  exact ⟨onT rfl (hE.word hl.1.1), hl.1.2, hl.2⟩
theorem lnk_int (hE : EN G s s.heap) {q : Nat} {v : Int} (he : (ikl.any fun e => mtc e.1 e.2.1 (ow mi) q && decide (e.2.2.1 = v)) = true) : (Cond.constant (cnm (ow mi)) q (Int32.ofInt v)).before args s = true ∧ r32 v := by
  obtain ⟨en, hen, hm⟩ := List.any_eq_true.mp he
  rw [Bool.and_eq_true, decide_eq_true_eq] at hm
  obtain ⟨m1, m2⟩ := mtc_eq hm.1
  have hl := List.all_eq_true.mp ikl_ok en hen
  simp only [Bool.and_eq_true, decide_eq_true_eq] at hl
  rw [m1, m2, hm.2] at hl
  exact ⟨onT rfl (hE.word hl.1.1), hl.1.2, hl.2⟩
theorem s_getst (hc : CX G p s m meth c mi) {q : Nat} {x : XI} (hI : okI (ow mi) (iniM mi) pc (.getstatic q) x = true) (hd : decode (byo mi) pc = .ok (.getstatic q, 3)) {v : TV} (hv : (match x.1 with
    | 0 => vi x.2.2.1
    | _ => vr x.2.1) = v) (h1 : PP p l e R s m args below meth c G w mi Q n0 s0 SF (pc + 3) ls (v :: st) S) : PP p l e R s m args below meth c G w mi Q n0 s0 SF pc ls st S := by
  obtain ⟨g1, g2⟩ := getst_ok (l := l) (e := e) (R := R) (args := args) (below := below) (Q := Q) hc hI hd hv
  exact ⟨h1.1, fun H locs lsC hR hS hL hv hn hs => g2 _ _ _ _ _ _ hS (h1.2 H locs lsC hR hS hL (cons_ok g1 hv) hn hs)⟩
set_option maxHeartbeats 4000000 in
/-- an instruction that goes on to the next -/
theorem step_sound (hc : CX G p s m meth c mi) (hw : OKW G w) (hrm : SF.1.1 - n0 ≤ R.cells ∧ SF.1.2.1 - s0 ≤ R.slots) {i : Instr} {x : XI} (hd : decode (byo mi) pc = .ok (i, len)) (hlen : len = lenI i len) (hI : okI (ow mi) (iniM mi) pc i x = true) (h : step w i x ls st S k = some F) (hk : ∀ ls' st' S', k ls' st' S' = some F → PP p l e R s m args below meth c G w mi Q n0 s0 SF (pc + len) ls' st' S') : PP p l e R s m args below meth c G w mi Q n0 s0 SF pc ls st S := by
  have hE := hc.2.2.2.2.2.1
  have hG := hE.2.2.2.2.2.2.2.1
  unfold step at h
  split at h
  · obtain rfl : len = 1 := hlen
    exact s_loadI (fun H locs cells slots lsC rest x hx q => lv_iload_n hc.1 hc.2.1 hd rfl hx q) h hk
  · obtain rfl : len = 2 := hlen
    exact s_loadI (fun H locs cells slots lsC rest x hx q => lv_iload hc.1 hc.2.1 hd hx q) h hk
  · obtain rfl : len = 1 := hlen
    exact s_loadL (fun H locs cells slots lsC rest x hx q => lv_lload_n hc.1 hc.2.1 hd rfl hx q) h hk
  · obtain rfl : len = 2 := hlen
    exact s_loadL (fun H locs cells slots lsC rest x hx q => lv_lload hc.1 hc.2.1 hd hx q) h hk
  · obtain rfl : len = 1 := hlen
    exact s_loadA hG (fun H locs cells slots lsC rest x hx q => lv_aload_n hc.1 hc.2.1 hd rfl hx q) (fun H locs cells slots lsC rest hx q => lv_aload_nN hc.1 hc.2.1 hd rfl hx q) h hk
  · obtain rfl : len = 2 := hlen
    exact s_loadA hG (fun H locs cells slots lsC rest x hx q => lv_aload hc.1 hc.2.1 hd hx q) (fun H locs cells slots lsC rest hx q => lv_aloadN hc.1 hc.2.1 hd hx q) h hk
  · obtain rfl : len = 1 := hlen
    exact s_stoI hG (fun H locs cells slots lsC lv x rest h1 h2 q => lv_istore_n hc.1 hc.2.1 hd rfl h1 h2 rfl q) h hk
  · obtain rfl : len = 2 := hlen
    exact s_stoI hG (fun H locs cells slots lsC lv x rest h1 h2 q => lv_istore hc.1 hc.2.1 hd h1 h2 rfl q) h hk
  · obtain rfl : len = 1 := hlen
    exact s_stoL hG (fun H locs cells slots lsC lv x rest h1 h2 q => lv_lstore_n hc.1 hc.2.1 hd rfl h1 h2 rfl q) h hk
  · obtain rfl : len = 2 := hlen
    exact s_stoL hG (fun H locs cells slots lsC lv x rest h1 h2 q => lv_lstore hc.1 hc.2.1 hd h1 h2 rfl q) h hk
  · obtain rfl : len = 1 := hlen
    exact s_stoA hG (fun H locs cells slots lsC lv x rest h1 h2 q => lv_astore_n hc.1 hc.2.1 hd rfl h1 h2 rfl q) (fun H locs cells slots lsC lv rest h1 h2 q => lv_astore_nN hc.1 hc.2.1 hd rfl h1 h2 rfl q) h hk
  · obtain rfl : len = 2 := hlen
    exact s_stoA hG (fun H locs cells slots lsC lv x rest h1 h2 q => lv_astore hc.1 hc.2.1 hd h1 h2 rfl q) (fun H locs cells slots lsC lv rest h1 h2 q => lv_astoreN hc.1 hc.2.1 hd h1 h2 rfl q) h hk
  · rename_i n
    obtain rfl : len = 1 := hlen
    have hb : -2147483648 ≤ n ∧ n ≤ 2147483647 := of_decide_eq_true hI
    exact s_push (v := vi n) hb (fun H locs cells slots lsC rest q => lv_iconst hc.1 hc.2.1 hd rfl q) (hk _ _ _ h)
  · obtain rfl : len = 2 := hlen
    have hb := of_decide_eq_true hI
    exact s_push (by show r32 _; unfold r32; omega) (fun H locs cells slots lsC rest q => lv_bipush hc.1 hc.2.1 hd (push8 hb) q) (hk _ _ _ h)
  · obtain rfl : len = 3 := hlen
    have hb := of_decide_eq_true hI
    exact s_push (by show r32 _; unfold r32; omega) (fun H locs cells slots lsC rest q => lv_sipush hc.1 hc.2.1 hd (push16 hb) q) (hk _ _ _ h)
  · rename_i n
    obtain rfl : len = 1 := hlen
    exact s_push (v := vl (n.val : Int)) (by show r64 _; unfold r64; omega) (fun H locs cells slots lsC rest q => lv_lconst hc.1 hc.2.1 hd (lcn _) q) (hk _ _ _ h)
  · obtain rfl : len = 1 := hlen
    exact s_push (v := vr 0) trivial (fun H locs cells slots lsC rest q => lv_null hc.1 hc.2.1 hd q) (hk _ _ _ h)
  · obtain rfl : len = 3 := hlen
    have hlk := lnk_long (args := args) hE hI
    exact s_push (v := vl x.2.2.1) hlk.2 (fun H locs cells slots lsC rest q => lv_ldc2 hc.1 hc.2.1 hc.2.2.2.1 hlk.1 hd q) (hk _ _ _ h)
  · obtain rfl : len = 2 := hlen
    unfold okI at hI
    dsimp only at hI
    split at h
    · rename_i hz
      rw [hz] at hI
      have hlk := lnk_int (args := args) hE hI
      exact s_push (v := vi x.2.2.1) hlk.2 (fun H locs cells slots lsC rest q => lv_ldc hc.1 hc.2.1 hc.2.2.2.1 hlk.1 hd q) (hk _ _ _ h)
    · rename_i hz
      split at hI
      · rename_i hz2
        exact absurd hz2 hz
      · simp only [Bool.and_eq_true] at hI
        obtain ⟨⟨i1, i2⟩, i3⟩ := hI
        have i1 := Nat.le_of_ble_eq_true i1
        have i2 := Nat.blt_eq.mp i2
        obtain ⟨m1, m2⟩ := mtc_eq i3
        have hst := (hE.2.2.2.2.2.1 (x.2.1 - 4) (by first | decide | omega)).1
        rw [m1, m2, show 4 + (x.2.1 - 4) = x.2.1 by omega] at hst
        have e2 : rep G (vr x.2.1) = .ref (gE G x.2.1) := by
          show rf G x.2.1 = _
          rw [rf_ref (by first | decide | omega) (by first | decide | omega)]
          unfold gad
          rw [if_pos (by first | decide | omega)]
        exact s_push (v := vr x.2.1) trivial (fun H locs cells slots lsC rest q => va_ldcS hc.1 hc.2.1 hc.2.2.2.1 hst hd (by rw [← e2]; exact q)) (hk _ _ _ h)
  · obtain rfl : len = 3 := hlen
    have hlk := lnk_int (args := args) hE hI
    exact s_push (v := vi x.2.2.1) hlk.2 (fun H locs cells slots lsC rest q => lv_ldcw hc.1 hc.2.1 hc.2.2.2.1 hlk.1 hd q) (hk _ _ _ h)
  · obtain rfl : len = 3 := hlen
    split at h
    · rename_i hz
      exact s_getst hc hI hd (v := vi x.2.2.1) (by rw [hz]; rfl) (hk _ _ _ h)
    · rename_i hz
      exact s_getst hc hI hd (v := vr x.2.1) (by split; rename_i z; exact absurd z hz; rfl) (hk _ _ _ h)
  · obtain rfl : len = 1 := hlen
    exact s_bin (g := fun x y => x + y) (fun x y _ _ => ofi_add x y) (fun x y _ _ => w32_r _) (fun H locs cells slots lsC x y rest q => lv_iadd hc.1 hc.2.1 hd q) h hk
  · obtain rfl : len = 1 := hlen
    exact s_bin (g := fun x y => x - y) (fun x y _ _ => ofi_sub x y) (fun x y _ _ => w32_r _) (fun H locs cells slots lsC x y rest q => lv_isub hc.1 hc.2.1 hd q) h hk
  · obtain rfl : len = 1 := hlen
    exact s_bin (g := fun x y => x * y) (fun x y _ _ => ofi_mul x y) (fun x y _ _ => w32_r _) (fun H locs cells slots lsC x y rest q => lv_imul hc.1 hc.2.1 hd q) h hk
  · obtain rfl : len = 1 := hlen
    exact s_bin (g := fun x y => x &&& y) (fun x y _ _ => to32 _) (fun x y _ _ => i32_r _) (fun H locs cells slots lsC x y rest q => lv_iand hc.1 hc.2.1 hd q) h hk
  · obtain rfl : len = 1 := hlen
    exact s_bin (g := fun x y => x ||| y) (fun x y _ _ => to32 _) (fun x y _ _ => i32_r _) (fun H locs cells slots lsC x y rest q => lv_ior hc.1 hc.2.1 hd q) h hk
  · obtain rfl : len = 1 := hlen
    exact s_bin (g := fun x y => x ^^^ y) (fun x y _ _ => to32 _) (fun x y _ _ => i32_r _) (fun H locs cells slots lsC x y rest q => lv_ixor hc.1 hc.2.1 hd q) h hk
  · obtain rfl : len = 1 := hlen
    exact s_bin (g := fun x y => x <<< (y &&& 31)) (fun x y _ _ => to32 _) (fun x y _ _ => i32_r _) (fun H locs cells slots lsC x y rest q => lv_ishl hc.1 hc.2.1 hd q) h hk
  · obtain rfl : len = 1 := hlen
    exact s_bin (g := fun x y => x >>> (y &&& 31)) (fun x y _ _ => to32 _) (fun x y _ _ => i32_r _) (fun H locs cells slots lsC x y rest q => lv_ishr hc.1 hc.2.1 hd q) h hk
  · obtain rfl : len = 1 := hlen
    exact s_bin (g := fun x y => (x.toUInt32 >>> (y.toUInt32 &&& Int32.toUInt32 31)).toInt32) (fun x y _ _ => to32 _) (fun x y _ _ => i32_r _) (fun H locs cells slots lsC x y rest q => lv_iushr hc.1 hc.2.1 hd rfl q) h hk
  · obtain rfl : len = 1 := hlen
    exact s_binL (g := fun x y => x + y) (fun x y _ _ => ofl_add x y) (fun x y _ _ => w64_r _) (fun H locs cells slots lsC x y rest q => lv_ladd hc.1 hc.2.1 hd q) h hk
  · obtain rfl : len = 1 := hlen
    exact s_binL (g := fun x y => x - y) (fun x y _ _ => ofl_sub x y) (fun x y _ _ => w64_r _) (fun H locs cells slots lsC x y rest q => lv_lsub hc.1 hc.2.1 hd q) h hk
  · obtain rfl : len = 1 := hlen
    exact s_binL (g := fun x y => x * y) (fun x y _ _ => ofl_mul x y) (fun x y _ _ => w64_r _) (fun H locs cells slots lsC x y rest q => lv_lmul hc.1 hc.2.1 hd q) h hk
  · obtain rfl : len = 1 := hlen
    exact s_binL (g := fun x y => x &&& y) (fun x y _ _ => to64 _) (fun x y _ _ => i64_r _) (fun H locs cells slots lsC x y rest q => lv_land hc.1 hc.2.1 hd q) h hk
  · obtain rfl : len = 1 := hlen
    exact s_binL (g := fun x y => x ||| y) (fun x y _ _ => to64 _) (fun x y _ _ => i64_r _) (fun H locs cells slots lsC x y rest q => lv_lor hc.1 hc.2.1 hd q) h hk
  · obtain rfl : len = 1 := hlen
    exact s_binL (g := fun x y => x ^^^ y) (fun x y _ _ => to64 _) (fun x y _ _ => i64_r _) (fun H locs cells slots lsC x y rest q => lv_lxor hc.1 hc.2.1 hd q) h hk
  · obtain rfl : len = 1 := hlen
    exact s_shL (g := fun x y => x <<< (y.toInt64 &&& 63)) (fun x y _ _ => to64 _) (fun x y _ _ => i64_r _) (fun H locs cells slots lsC x y rest q => lv_lshl hc.1 hc.2.1 hd rfl q) h hk
  · obtain rfl : len = 1 := hlen
    exact s_shL (g := fun x y => (x.toUInt64 >>> (y.toInt64.toUInt64 &&& Int64.toUInt64 63)).toInt64) (fun x y _ _ => to64 _) (fun x y _ _ => i64_r _) (fun H locs cells slots lsC x y rest q => lv_lushr hc.1 hc.2.1 hd rfl q) h hk
  · obtain rfl : len = 1 := hlen
    exact s_dvI (g := fun x y => x / y) (fun x y hx hy _ => ofi_div hx hy) (fun x y _ _ _ => w32_r _) (fun H locs cells slots lsC x y rest h0 q => lv_idiv hc.1 hc.2.1 hd h0 q) h hk
  · obtain rfl : len = 1 := hlen
    exact s_dvI (g := fun x y => x - x / y * y) (fun x y hx hy h0 => ofi_rem hx hy h0) (fun x y hx _ h0 => rem32_r h0 hx) (fun H locs cells slots lsC x y rest h0 q => lv_irem hc.1 hc.2.1 hd h0 q) h hk
  · obtain rfl : len = 1 := hlen
    exact s_dvL (g := fun x y => x / y) (fun x y hx hy _ => ofl_div hx hy) (fun x y _ _ _ => w64_r _) (fun H locs cells slots lsC x y rest h0 q => lv_ldiv hc.1 hc.2.1 hd h0 q) h hk
  · obtain rfl : len = 1 := hlen
    exact s_dvL (g := fun x y => x - x / y * y) (fun x y hx hy h0 => ofl_rem hx hy h0) (fun x y hx _ h0 => rem64_r h0 hx) (fun H locs cells slots lsC x y rest h0 q => lv_lrem hc.1 hc.2.1 hd h0 q) h hk
  · obtain rfl : len = 1 := hlen
    split at h
    · rename_i a r
      refine (hk _ _ _ h).stk (fun hv => ?_) (fun H locs cells slots lsC hv q => ?_)
      · exact cons_ok (w64_r _) (ok_cons hv).2
      · have q : W p l e R s m args below meth c H locs cells slots Q (F0 m (pc + 1) lsC (.long (Int64.ofInt (w64 (-a))) :: r.map (rep G))) := q
        rw [ofl_neg] at q
        exact lv_lneg hc.1 hc.2.1 hd q
    · cases h
  · obtain rfl : len = 1 := hlen
    exact s_una (g := fun x => x.toInt8.toInt32) (fun x hx => (ofi_i2b hx).symm) (fun x _ => by have := w8_r x; unfold r32; omega) (fun H locs cells slots lsC x rest q => lv_i2b hc.1 hc.2.1 hd rfl q) h hk
  · obtain rfl : len = 1 := hlen
    exact s_una (g := fun x => (x.toUInt32 % 65536).toInt32) (fun x hx => (ofi_i2c hx).symm) (fun x _ => by unfold w16u r32; omega) (fun H locs cells slots lsC x rest q => lv_i2c hc.1 hc.2.1 hd rfl q) h hk
  · obtain rfl : len = 1 := hlen
    split at h
    · rename_i a r
      refine (hk _ _ _ h).stk (fun hv => ?_) (fun H locs cells slots lsC hv q => ?_)
      · have ha : r32 a := (ok_cons hv).1
        exact cons_ok (show r64 a by unfold r32 at ha; unfold r64; omega) (ok_cons hv).2
      · exact lv_i2l hc.1 hc.2.1 hd (ofl_i2l (ok_cons hv).1) q
    · cases h
  · obtain rfl : len = 1 := hlen
    split at h
    · rename_i a r
      refine (hk _ _ _ h).stk (fun hv => ?_) (fun H locs cells slots lsC hv q => ?_)
      · exact cons_ok (w32_r a) (ok_cons hv).2
      · exact lv_l2i hc.1 hc.2.1 hd ofi_l2i q
    · cases h
  · obtain rfl : len = 1 := hlen
    split at h
    · rename_i y z r
      refine (hk _ _ _ h).stk (fun hv => ?_) (fun H locs cells slots lsC hv q => ?_)
      · exact cons_ok (lcmp_r z y) (ok_cons (ok_cons hv).2).2
      · have q : W p l e R s m args below meth c H locs cells slots Q (F0 m (pc + 1) lsC (.int (Int32.ofInt (lcmp z y)) :: r.map (rep G))) := q
        rw [ofi_cmp (ok_cons (ok_cons hv).2).1 (ok_cons hv).1] at q
        exact W.lcmp hc.1 hc.2.1 hd q
    · cases h
  · obtain rfl : len = 3 := hlen
    exact s_iinc hc hd h hk
  · obtain rfl : len = 1 := hlen
    split at h
    · exact (hk _ _ _ h).stk (fun hv => cons_ok (ok_cons hv).1 hv) (fun H locs cells slots lsC hv q => lv_dup hc.1 hc.2.1 hd rfl q)
    · rename_i a r
      refine (hk _ _ _ h).stk (fun hv => cons_ok (ok_cons hv).1 hv) (fun H locs cells slots lsC hv q => lv_dup hc.1 hc.2.1 hd ?_ q)
      rw [rep_cat hG]
      rfl
    · cases h
  · obtain rfl : len = 1 := hlen
    split at h
    · exact (hk _ _ _ h).stk (fun hv => cons_ok (ok_cons hv).1 hv) (fun H locs cells slots lsC hv q => lv_dup2_2 hc.1 hc.2.1 hd rfl q)
    · rename_i a b r
      refine (hk _ _ _ h).stk (fun hv => cons_ok (ok_cons hv).1 (cons_ok (ok_cons (ok_cons hv).2).1 hv)) (fun H locs cells slots lsC hv q => lv_dup2_11 hc.1 hc.2.1 hd rfl ?_ q)
      rw [rep_cat hG]
      rfl
    · exact (hk _ _ _ h).stk (fun hv => cons_ok (ok_cons hv).1 (cons_ok (ok_cons (ok_cons hv).2).1 hv)) (fun H locs cells slots lsC hv q => lv_dup2_11 hc.1 hc.2.1 hd rfl rfl q)
    · cases h
  · obtain rfl : len = 1 := hlen
    split at h
    · exact (hk _ _ _ h).stk (fun hv => (ok_cons hv).2) (fun H locs cells slots lsC hv q => lv_pop hc.1 hc.2.1 hd rfl q)
    · rename_i a r
      refine (hk _ _ _ h).stk (fun hv => (ok_cons hv).2) (fun H locs cells slots lsC hv q => lv_pop hc.1 hc.2.1 hd ?_ q)
      rw [rep_cat hG]
      rfl
    · cases h
  · obtain rfl : len = 1 := hlen
    split at h
    · exact (hk _ _ _ h).stk (fun hv => (ok_cons hv).2) (fun H locs cells slots lsC hv q => lv_pop2_2 hc.1 hc.2.1 hd rfl q)
    · cases h
  · obtain rfl : len = 3 := hlen
    exact s_getF hc hw hd hI h hk
  · obtain rfl : len = 3 := hlen
    exact s_putF hc hw hd hI h hk
  · obtain rfl : len = 1 := hlen
    exact s_aldI hc hw hd h hk
  · obtain rfl : len = 1 := hlen
    exact s_aldL hc hw hd h hk
  · obtain rfl : len = 1 := hlen
    exact s_aldB hc hw hd h hk
  · obtain rfl : len = 1 := hlen
    exact s_aldA hc hw hd h hk
  · obtain rfl : len = 1 := hlen
    exact s_astI hc hw hd h hk
  · obtain rfl : len = 1 := hlen
    exact s_astL hc hw hd h hk
  · obtain rfl : len = 1 := hlen
    exact s_astB hc hw hd h hk
  · obtain rfl : len = 1 := hlen
    exact s_astA hc hw hd h hk
  · obtain rfl : len = 1 := hlen
    exact s_alen hc hw hd h hk
  · obtain rfl : len = 3 := hlen
    exact s_new hc hw hrm hd hI (hk _ _ _ h)
  · obtain rfl : len = 2 := hlen
    exact s_newarr hc hw hrm hd h hk
  · obtain rfl : len = 3 := hlen
    exact s_anew hc hw hrm hd hI h hk
  · obtain rfl : len = 3 := hlen
    split at h
    · obtain ⟨hb, h⟩ := gd_some h
      rw [Bool.and_eq_true] at hb
      exact s_cast hc hw hd hI (Nat.eq_of_beq_eq_true hb.1) (Nat.le_of_ble_eq_true hb.2) (hk _ _ _ h)
    · cases h
  · cases h
end SND
