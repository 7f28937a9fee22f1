section
-- 09a.val
/-! FROM THE PLAIN MACHINE TO THE MACHINE: values -/
noncomputable def r32 (x : Int) : Prop := -2147483648 ≤ x ∧ x ≤ 2147483647
noncomputable def r64 (x : Int) : Prop := -9223372036854775808 ≤ x ∧ x ≤ 9223372036854775807
theorem w32_r (x : Int) : r32 (w32 x) := by
  unfold w32 r32 Int.bmod
  constructor <;> (dsimp only; split <;> omega)
theorem w64_r (x : Int) : r64 (w64 x) := by
  unfold w64 r64 Int.bmod
  constructor <;> (dsimp only; split <;> omega)
theorem w32_id {x : Int} (h : r32 x) : w32 x = x := by
  unfold r32 at h
  unfold w32 Int.bmod
  dsimp only
  split <;> omega
theorem w64_id {x : Int} (h : r64 x) : w64 x = x := by
  unfold r64 at h
  unfold w64 Int.bmod
  dsimp only
  split <;> omega
theorem w32_toInt (x : Int) : (Int32.ofInt x).toInt = w32 x := Int32.toInt_ofInt
theorem w64_toInt (x : Int) : (Int64.ofInt x).toInt = w64 x := Int64.toInt_ofInt
theorem of32 {x : Int} (h : r32 x) : (Int32.ofInt x).toInt = x := by rw [w32_toInt, w32_id h]
theorem of64 {x : Int} (h : r64 x) : (Int64.ofInt x).toInt = x := by rw [w64_toInt, w64_id h]
theorem to32 (x : Int32) : Int32.ofInt x.toInt = x := Int32.ofInt_toInt x
theorem to64 (x : Int64) : Int64.ofInt x.toInt = x := Int64.ofInt_toInt x
theorem i32_r (x : Int32) : r32 x.toInt := by
  have h := w32_r x.toInt
  rw [← w32_toInt, to32] at h
  exact h
theorem i64_r (x : Int64) : r64 x.toInt := by
  have h := w64_r x.toInt
  rw [← w64_toInt, to64] at h
  exact h
theorem w32_w (x : Int) : Int32.ofInt (w32 x) = Int32.ofInt x := by rw [← w32_toInt, to32]
theorem w64_w (x : Int) : Int64.ofInt (w64 x) = Int64.ofInt x := by rw [← w64_toInt, to64]
theorem ofi_add (a b : Int) : Int32.ofInt (w32 (a + b)) = Int32.ofInt a + Int32.ofInt b := by rw [w32_w, Int32.ofInt_add]
theorem ofi_sub (a b : Int) : Int32.ofInt (w32 (a - b)) = Int32.ofInt a - Int32.ofInt b := by rw [w32_w, Int32.ofInt_sub]
theorem ofi_mul (a b : Int) : Int32.ofInt (w32 (a * b)) = Int32.ofInt a * Int32.ofInt b := by rw [w32_w, Int32.ofInt_mul]
theorem ofl_add (a b : Int) : Int64.ofInt (w64 (a + b)) = Int64.ofInt a + Int64.ofInt b := by rw [w64_w, Int64.ofInt_add]
theorem ofl_sub (a b : Int) : Int64.ofInt (w64 (a - b)) = Int64.ofInt a - Int64.ofInt b := by rw [w64_w, Int64.ofInt_sub]
theorem ofl_mul (a b : Int) : Int64.ofInt (w64 (a * b)) = Int64.ofInt a * Int64.ofInt b := by rw [w64_w, Int64.ofInt_mul]
theorem ofl_neg (a : Int) : Int64.ofInt (w64 (-a)) = -Int64.ofInt a := by rw [w64_w, Int64.ofInt_neg]
theorem ofi_div {a b : Int} (ha : r32 a) (hb : r32 b) : Int32.ofInt (idiv a b) = Int32.ofInt a / Int32.ofInt b := by
  apply Int32.toInt_inj.mp
  unfold idiv
  rw [w32_w, w32_toInt, Int32.toInt_div, of32 ha, of32 hb]
  rfl
theorem ofl_div {a b : Int} (ha : r64 a) (hb : r64 b) : Int64.ofInt (ldiv a b) = Int64.ofInt a / Int64.ofInt b := by
  apply Int64.toInt_inj.mp
  unfold ldiv
  rw [w64_w, w64_toInt, Int64.toInt_div, of64 ha, of64 hb]
  rfl
theorem tmod_r {a b lo hi : Int} (hb : b ≠ 0) (h1 : lo ≤ a) (h2 : a ≤ hi) (h3 : lo ≤ 0) (h4 : 0 ≤ hi) : lo ≤ a.tmod b ∧ a.tmod b ≤ hi := by
  have e := Int.tmod_add_mul_tdiv a b
  rcases Int.le_total 0 a with h | h
  · have p1 : 0 ≤ a.tmod b := Int.tmod_nonneg b h
    have p2 : a.tmod b ≤ a := by
      have h5 : (a.tmod b).natAbs ≤ a.natAbs := by
        rw [Int.natAbs_tmod]
        exact Nat.mod_le _ _
      omega
    omega
  · have p1 : a.tmod b ≤ 0 := by
      have := Int.neg_tmod a b
      have h5 : 0 ≤ (-a).tmod b := Int.tmod_nonneg b (by first | decide | omega)
      omega
    have h5 : (a.tmod b).natAbs ≤ a.natAbs := by
      rw [Int.natAbs_tmod]
      exact Nat.mod_le _ _
    omega
theorem rem32_r {a b : Int} (hb : b ≠ 0) (ha : r32 a) : r32 (a.tmod b) := tmod_r hb ha.1 ha.2 (by first | decide | omega) (by first | decide | omega)
theorem rem64_r {a b : Int} (hb : b ≠ 0) (ha : r64 a) : r64 (a.tmod b) := tmod_r hb ha.1 ha.2 (by first | decide | omega) (by first | decide | omega)
theorem ofi_rem {a b : Int} (ha : r32 a) (hb : r32 b) (hb0 : b ≠ 0) : Int32.ofInt (a.tmod b) = Int32.ofInt a - Int32.ofInt a / Int32.ofInt b * Int32.ofInt b := by
  apply Int32.toInt_inj.mp
  rw [rem_toInt, of32 ha, of32 hb, of32 (rem32_r hb0 ha)]
theorem ofl_rem {a b : Int} (ha : r64 a) (hb : r64 b) (hb0 : b ≠ 0) : Int64.ofInt (a.tmod b) = Int64.ofInt a - Int64.ofInt a / Int64.ofInt b * Int64.ofInt b := by
  have e := Int.tmod_add_mul_tdiv a b
  have e2 : a.tmod b = a - a.tdiv b * b := by rw [Int.mul_comm (a.tdiv b) b]; omega
  have e3 : Int64.ofInt (a.tdiv b) = Int64.ofInt a / Int64.ofInt b := by
    rw [← ofl_div ha hb]
    unfold ldiv
    rw [w64_w]
  rw [e2, Int64.ofInt_sub, Int64.ofInt_mul, e3]
theorem zero32 {y : Int} (hy : r32 y) : Int32.ofInt y = 0 ↔ y = 0 := by
  constructor
  · intro h
    have := congrArg Int32.toInt h
    rw [of32 hy] at this
    exact this
  · rintro rfl; rfl
theorem zero64 {y : Int} (hy : r64 y) : Int64.ofInt y = 0 ↔ y = 0 := by
  constructor
  · intro h
    have := congrArg Int64.toInt h
    rw [of64 hy] at this
    exact this
  · rintro rfl; rfl
theorem lt32 {x y : Int} (hx : r32 x) (hy : r32 y) : Int32.ofInt x < Int32.ofInt y ↔ x < y := by rw [Int32.lt_iff_toInt_lt, of32 hx, of32 hy]
theorem le32 {x y : Int} (hx : r32 x) (hy : r32 y) : Int32.ofInt x ≤ Int32.ofInt y ↔ x ≤ y := by rw [Int32.le_iff_toInt_le, of32 hx, of32 hy]
theorem eq32 {x y : Int} (hx : r32 x) (hy : r32 y) : Int32.ofInt x = Int32.ofInt y ↔ x = y := by rw [← Int32.toInt_inj, of32 hx, of32 hy]
theorem lt64 {x y : Int} (hx : r64 x) (hy : r64 y) : Int64.ofInt x < Int64.ofInt y ↔ x < y := by rw [Int64.lt_iff_toInt_lt, of64 hx, of64 hy]
theorem eq64 {x y : Int} (hx : r64 x) (hy : r64 y) : Int64.ofInt x = Int64.ofInt y ↔ x = y := by rw [← Int64.toInt_inj, of64 hx, of64 hy]
theorem ofi_cmp {x y : Int} (hx : r64 x) (hy : r64 y) : Int32.ofInt (lcmp x y) = lg_cmp (Int64.ofInt x) (Int64.ofInt y) := by
  unfold lcmp lg_cmp
  simp only [lt64 hx hy, eq64 hx hy, gt_iff_lt, lt64 hy hx]
  repeat' split
  all_goals first | rfl | omega
theorem lcmp_r (x y : Int) : r32 (lcmp x y) := by
  unfold lcmp r32
  repeat' split
  all_goals omega
theorem ofl_i2l {x : Int} (hx : r32 x) : (Int32.ofInt x).toInt64 = Int64.ofInt x := by
  apply Int64.toInt_inj.mp
  rw [Int32.toInt_toInt64, of32 hx, of64 (by unfold r32 at hx; unfold r64; omega)]
theorem ofi_l2i {x : Int} : (Int64.ofInt x).toInt32 = Int32.ofInt (i32 x) := by
  unfold i32
  rw [w32_w]
  apply Int32.toInt_inj.mp
  rw [Int64.toInt_toInt32, w64_toInt, w32_toInt]
  unfold w64 w32
  exact Int.bmod_bmod_of_dvd (by decide)
theorem ofi_i2b {x : Int} (hx : r32 x) : (Int32.ofInt x).toInt8.toInt32 = Int32.ofInt (w8 x) := by
  apply Int32.toInt_inj.mp
  rw [Int8.toInt_toInt32, Int32.toInt_toInt8, of32 hx]
  rw [of32]
  · rfl
  · unfold w8 r32 Int.bmod
    constructor <;> (dsimp only; split <;> omega)
theorem w8_r (x : Int) : -128 ≤ w8 x ∧ w8 x ≤ 127 := by
  unfold w8 Int.bmod
  constructor <;> (dsimp only; split <;> omega)
theorem ofi_i2c {x : Int} (hx : r32 x) : ((Int32.ofInt x).toUInt32 % 65536).toInt32 = Int32.ofInt (w16u x) := by
  have e : ((Int32.ofInt x).toUInt32).toNat = (x % 4294967296).toNat := by
    show (Int32.ofInt x).toBitVec.toNat = _
    rw [Int32.toBitVec_ofInt, BitVec.toNat_ofInt]
    rfl
  have h2 : r32 (w16u x) := by unfold w16u r32; omega
  have e1 : ((Int32.ofInt x).toUInt32 % 65536).toNat = (w16u x).toNat := by
    rw [UInt32.toNat_mod, e]
    unfold w16u
    show (x % 4294967296).toNat % 65536 = _
    omega
  apply Int32.toInt_inj.mp
  rw [of32 h2]
  have e2 : ((Int32.ofInt x).toUInt32 % 65536).toInt32.toInt = (((Int32.ofInt x).toUInt32 % 65536).toNat : Int).bmod 4294967296 := by
    show ((Int32.ofInt x).toUInt32 % 65536).toBitVec.toInt = _
    rw [BitVec.toInt_eq_toNat_bmod]
    rfl
  rw [e2, e1]
  unfold w16u Int.bmod
  dsimp only
  split <;> omega
end
section
-- 09b.rel
/-! what stands for what: G holds the first own address, the addresses of the cells from outside, the formatter's value, class numbers, slots, array classes, the script -/
/-- where an own cell lies: its place in the order in which the cells were made -/
abbrev PM : Type := {q : Nat → Nat // (∀ a, 15 ≤ a → 15 ≤ q a) ∧ ∀ a b, q a = q b → a = b}
abbrev GE : Type := Nat × (Nat → Nat) × Value × (Nat → ClassId) × (Nat → Nat → Nat) × (Nat → ClassId) × Nat × (Nat → Int32) × PM
noncomputable def gb (G : GE) : Nat := G.1
noncomputable def gE (G : GE) : Nat → Nat := G.2.1
noncomputable def gV (G : GE) : Value := G.2.2.1
noncomputable def gC (G : GE) : Nat → ClassId := G.2.2.2.1
noncomputable def gS (G : GE) : Nat → Nat → Nat := G.2.2.2.2.1
noncomputable def gA (G : GE) : Nat → ClassId := G.2.2.2.2.2.1
noncomputable def gL (G : GE) : Nat := G.2.2.2.2.2.2.1
noncomputable def gX (G : GE) : Nat → Int32 := G.2.2.2.2.2.2.2.1
noncomputable def gp (G : GE) : Nat → Nat := G.2.2.2.2.2.2.2.2.val
theorem gp_ge {G : GE} {a : Nat} (h : 15 ≤ a) : 15 ≤ gp G a := G.2.2.2.2.2.2.2.2.property.1 a h
theorem gp_in {G : GE} {a b : Nat} (h : gp G a = gp G b) : a = b := G.2.2.2.2.2.2.2.2.property.2 a b h
noncomputable def gad (G : GE) (a : Nat) : Nat := if a < 15 then gE G a else gb G + (gp G a - 15)
noncomputable def rf (G : GE) (a : Nat) : Value := if a = 0 then .null else if a = 14 then gV G else .ref (gad G a)
noncomputable def rep (G : GE) (v : TV) : Value := match v with
  | .inl x => .int (Int32.ofInt x)
  | .inr (.inl x) => .long (Int64.ofInt x)
  | .inr (.inr a) => rf G a
noncomputable def okv (v : TV) : Prop := match v with
  | .inl x => r32 x
  | .inr (.inl x) => r64 x
  | .inr (.inr _) => True
noncomputable def okc (c : Nat) (x : Int) : Prop := match c with
  | 1 => r64 x
  | 2 => 0 ≤ x
  | 3 => -128 ≤ x ∧ x ≤ 127
  | 4 => x = 0 ∨ x = 1
  | 5 => 0 ≤ x ∧ x ≤ 65535
  | _ => r32 x
/-- the formatter's value is null or an address -/
noncomputable def gVok (G : GE) : Prop := gV G = .null ∨ ∃ t, gV G = .ref t
theorem rf_cases {G : GE} (h : gVok G) (a : Nat) : rf G a = .null ∨ ∃ t, rf G a = .ref t := by
  unfold rf
  split
  · exact Or.inl rfl
  · split
    · exact h
    · exact Or.inr ⟨_, rfl⟩
theorem rf_ref {G : GE} {a : Nat} (h0 : a ≠ 0) (h1 : a ≠ 14) : rf G a = .ref (gad G a) := by
  unfold rf
  rw [if_neg h0, if_neg h1]
theorem rep_cat {G : GE} (h : gVok G) (v : TV) : (rep G v).category = cat v := by
  match v with
  | .inl x => rfl
  | .inr (.inl x) => rfl
  | .inr (.inr a) =>
    show (rf G a).category = 1
    rcases rf_cases h a with q | ⟨t, q⟩ <;> rw [q] <;> rfl
theorem okc_r {c : Nat} {x : Int} (h : okc c x) (h1 : c ≠ 1) (h2 : c ≠ 2) : r32 x := by
  unfold okc at h
  split at h
  · exact absurd rfl h1
  · exact absurd rfl h2
  · unfold r32; omega
  · unfold r32; omega
  · unfold r32; omega
  · exact h
theorem okv_mkv {c : Nat} {x : Int} (h : okc c x) : okv (mkv c x) := by
  unfold mkv
  split
  · exact h
  · exact trivial
  · rename_i h1 h2
    exact okc_r h h1 h2
theorem mkv_i {c : Nat} {x : Int} (h1 : c ≠ 1) (h2 : c ≠ 2) : mkv c x = vi x := by
  unfold mkv
  split
  · exact absurd rfl h1
  · exact absurd rfl h2
  · rfl
/-! locals -/
noncomputable def LR (G : GE) (ls : LV) (lsC : Array Slot) (n : Nat) : Prop := ls.length = n ∧ lsC.size = n ∧ lv_wf lsC ∧ ∀ (i : Nat) (v : TV), ls[i]? = some (some v) → lsC[i]? = some (.val (rep G v)) ∧ okv v
noncomputable def lvp (G : GE) (ls : LV) : List (Nat × Value) := (List.range ls.length).filterMap (fun i => match ls[i]? with
  | some (some v) => some (i, rep G v)
  | _ => none)
theorem lvp_mem {G : GE} {ls : LV} {q : Nat × Value} : q ∈ lvp G ls ↔ ∃ v, ls[q.1]? = some (some v) ∧ q.2 = rep G v := by
  unfold lvp
  rw [List.mem_filterMap]
  constructor
  · rintro ⟨i, hi, h⟩
    split at h
    · rename_i v hv
      cases h
      exact ⟨v, hv, rfl⟩
    · cases h
  · rintro ⟨v, hv, hq⟩
    refine ⟨q.1, List.mem_range.mpr ?_, ?_⟩
    · exact (List.getElem?_eq_some_iff.mp hv).1
    · rw [hv]
      dsimp only
      rw [← hq]
theorem LR.has {G : GE} {ls : LV} {lsC : Array Slot} {n : Nat} (h : LR G ls lsC n) : lv_has lsC n (lvp G ls) :=
  ⟨h.2.1, h.2.2.1, fun q hq => by
    obtain ⟨v, hv, e⟩ := lvp_mem.mp hq
    rw [e]
    exact (h.2.2.2 _ _ hv).1⟩
theorem LR.at {G : GE} {ls : LV} {lsC : Array Slot} {n i : Nat} {v : TV} (h : LR G ls lsC n) (hv : ls[i]? = some (some v)) : lsC[i]? = some (.val (rep G v)) := (h.2.2.2 i v hv).1
theorem LR.msk {G : GE} {ls : LV} {lsC : Array Slot} {n : Nat} (h : LR G ls lsC n) (b : Nat) : LR G (mskL b ls) lsC n := by
  have key : ∀ (ls : LV) (b : Nat), (mskL b ls).length = ls.length ∧ ∀ (i : Nat) (v : TV), (mskL b ls)[i]? = some (some v) → ls[i]? = some (some v) := by
    intro ls
    induction ls with
    | nil => intro b; exact ⟨rfl, fun i v h => h⟩
    | cons a r ih =>
      intro b
      refine ⟨by simp [mskL, (ih (b / 2)).1], fun i v h => ?_⟩
      cases i with
      | zero =>
        simp only [mskL, List.getElem?_cons_zero, Option.some.injEq] at h ⊢
        split at h
        · exact h
        · cases h
      | succ i =>
        simp only [mskL, List.getElem?_cons_succ] at h ⊢
        exact (ih (b / 2)).2 i v h
  exact ⟨(key ls b).1.trans h.1, h.2.1, h.2.2.1, fun i v q => h.2.2.2 i v ((key ls b).2 i v q)⟩
/-- what a store leaves -/
theorem st1_spec {ls : LV} {i : Nat} {v : TV} {k : LV → Rs} {r : Int × AH} (h : st1 ls i v k = some r) : i < ls.length ∧ ∃ ls', k ls' = some r ∧ ls'.length = ls.length ∧ ∀ (j : Nat) (u : TV), ls'[j]? = some (some u) → (j = i ∧ u = v) ∨ (j ≠ i ∧ ls[j]? = some (some u) ∧ ¬ (j + 1 = i ∧ ∃ z, u = vl z)) := by
  unfold st1 at h
  split at h
  · rw [setK_eq] at h
    split at h
    · rename_i hl
      refine ⟨hl, _, h, List.length_set .., fun j u hj => ?_⟩
      rw [List.getElem?_set] at hj
      split at hj
      · rename_i e
        cases hj
        exact Or.inl ⟨e.symm, rfl⟩
      · rename_i e
        exact Or.inr ⟨fun q => e q.symm, hj, fun q => by omega⟩
    · cases h
  · rename_i k0
    split at h
    · rename_i hL
      rw [setK_eq] at h
      split at h
      · rename_i hl0
        rw [setK_eq] at h
        split at h
        · rename_i hl
          rw [List.length_set] at hl
          refine ⟨hl, _, h, by simp, fun j u hj => ?_⟩
          rw [List.getElem?_set] at hj
          split at hj
          · rename_i e
            rw [if_pos (by rw [List.length_set]; exact hl)] at hj
            cases hj
            exact Or.inl ⟨e.symm, rfl⟩
          · rename_i e
            rw [List.getElem?_set] at hj
            split at hj
            · cases hj
            · rename_i e2
              exact Or.inr ⟨fun q => e q.symm, hj, fun q => e2 (by first | decide | omega)⟩
        · cases h
      · cases h
    · rename_i hL
      rw [setK_eq] at h
      split at h
      · rename_i hl
        refine ⟨hl, _, h, List.length_set .., fun j u hj => ?_⟩
        rw [List.getElem?_set] at hj
        split at hj
        · rename_i e
          cases hj
          exact Or.inl ⟨e.symm, rfl⟩
        · rename_i e
          refine Or.inr ⟨fun q => e q.symm, hj, ?_⟩
          rintro ⟨q, z, rfl⟩
          have : j = k0 := by omega
          subst this
          rw [hj] at hL
          cases hL
      · cases h
theorem st2_spec {ls : LV} {i : Nat} {v : TV} {k : LV → Rs} {r : Int × AH} (h : st2 ls i v k = some r) : i + 1 < ls.length ∧ ∃ ls', k ls' = some r ∧ ls'.length = ls.length ∧ ∀ (j : Nat) (u : TV), ls'[j]? = some (some u) → (j = i ∧ u = v) ∨ (j ≠ i ∧ j ≠ i + 1 ∧ ls[j]? = some (some u) ∧ ¬ (j + 1 = i ∧ ∃ z, u = vl z)) := by
  unfold st2 at h
  obtain ⟨-, l1, h1, hl, hs⟩ := st1_spec h
  rw [setK_eq] at h1
  split at h1
  · rename_i hl1
    refine ⟨by omega, _, h1, by rw [List.length_set, hl], fun j u hj => ?_⟩
    rw [List.getElem?_set] at hj
    split at hj
    · cases hj
    · rename_i e
      rcases hs j u hj with q | ⟨q1, q2, q3⟩
      · exact Or.inl q
      · exact Or.inr ⟨q1, fun z => e z.symm, q2, q3⟩
  · cases h1
theorem LR.st1 {G : GE} {ls ls' : LV} {lsC lsC' : Array Slot} {n i : Nat} {v : TV} (hG : gVok G) (h : LR G ls lsC n) (hv : okv v) (hl : ls'.length = ls.length) (hs : ∀ (j : Nat) (u : TV), ls'[j]? = some (some u) → (j = i ∧ u = v) ∨ (j ≠ i ∧ ls[j]? = some (some u) ∧ ¬ (j + 1 = i ∧ ∃ z, u = vl z)))
    (h' : lv_has lsC' n ((i, rep G v) :: (lvp G ls).filter (fun q => !(q.1 == i) && !(q.1 + 1 == i && q.2.category == 2)))) : LR G ls' lsC' n := by
  refine ⟨hl.trans h.1, h'.1, h'.2.1, fun j u hj => ?_⟩
  rcases hs j u hj with ⟨rfl, rfl⟩ | ⟨q1, q2, q3⟩
  · exact ⟨h'.2.2 _ List.mem_cons_self, hv⟩
  · refine ⟨h'.2.2 (j, rep G u) (List.mem_cons_of_mem _ (List.mem_filter.mpr ⟨lvp_mem.mpr ⟨u, q2, rfl⟩, ?_⟩)), (h.2.2.2 j u q2).2⟩
    simp only [Bool.and_eq_true, Bool.not_eq_true', beq_eq_false_iff_ne, ne_eq, Bool.and_eq_false_iff]
    refine ⟨q1, ?_⟩
    by_cases e : j + 1 = i
    · right
      rw [rep_cat hG]
      intro q4
      apply q3
      refine ⟨e, ?_⟩
      match u, q4 with
      | .inr (.inl z), _ => exact ⟨z, rfl⟩
    · exact Or.inl e
theorem LR.st2 {G : GE} {ls ls' : LV} {lsC lsC' : Array Slot} {n i : Nat} {v : TV} (hG : gVok G) (h : LR G ls lsC n) (hv : okv v) (hl : ls'.length = ls.length) (hs : ∀ (j : Nat) (u : TV), ls'[j]? = some (some u) → (j = i ∧ u = v) ∨ (j ≠ i ∧ j ≠ i + 1 ∧ ls[j]? = some (some u) ∧ ¬ (j + 1 = i ∧ ∃ z, u = vl z)))
    (h' : lv_has lsC' n ((i, rep G v) :: (lvp G ls).filter (fun q => !(q.1 == i) && (!(q.1 == i + 1) && !(q.1 + 1 == i && q.2.category == 2))))) : LR G ls' lsC' n := by
  refine ⟨hl.trans h.1, h'.1, h'.2.1, fun j u hj => ?_⟩
  rcases hs j u hj with ⟨rfl, rfl⟩ | ⟨q1, q5, q2, q3⟩
  · exact ⟨h'.2.2 _ List.mem_cons_self, hv⟩
  · refine ⟨h'.2.2 (j, rep G u) (List.mem_cons_of_mem _ (List.mem_filter.mpr ⟨lvp_mem.mpr ⟨u, q2, rfl⟩, ?_⟩)), (h.2.2.2 j u q2).2⟩
    simp only [Bool.and_eq_true, Bool.not_eq_true', beq_eq_false_iff_ne, ne_eq, Bool.and_eq_false_iff]
    refine ⟨q1, q5, ?_⟩
    by_cases e : j + 1 = i
    · right
      rw [rep_cat hG]
      intro q4
      apply q3
      refine ⟨e, ?_⟩
      match u, q4 with
      | .inr (.inl z), _ => exact ⟨z, rfl⟩
    · exact Or.inl e
/-- the locals at a method's entry -/
theorem spr_len {G : GE} (hG : gVok G) (as : List TV) : (spr as).length = (lg_sl (as.map (rep G))).length := by
  induction as with
  | nil => rfl
  | cons v r ih =>
    have hc := rep_cat hG v
    have e : lg_sl ((v :: r).map (rep G)) = (if (rep G v).category = 2 then [.val (rep G v), .second] else [.val (rep G v)]) ++ lg_sl (r.map (rep G)) := by
      simp [lg_sl]
    rw [e, List.length_append, ← ih]
    match v, hc with
    | .inl x, hc => rw [if_neg (by rw [hc]; simp [cat])]; simp [spr]; omega
    | .inr (.inl x), hc => rw [if_pos (by rw [hc]; rfl)]; simp [spr]; omega
    | .inr (.inr a), hc => rw [if_neg (by rw [hc]; simp [cat])]; simp [spr]; omega
theorem spr_args {G : GE} (hG : gVok G) : ∀ (as : List TV) (i j : Nat) (v : TV), (spr as)[j]? = some (some v) → (i + j, rep G v) ∈ lv_args i (as.map (rep G)) ∧ v ∈ as := by
  intro as
  induction as with
  | nil => intro i j v h; cases h
  | cons u r ih =>
    intro i j v h
    have hc := rep_cat hG u
    rw [List.map_cons, lv_args]
    match u, hc, h with
    | .inl x, hc, h =>
      rw [if_neg (by rw [hc]; simp [cat])]
      cases j with
      | zero => cases h; exact ⟨List.mem_cons_self, List.mem_cons_self⟩
      | succ j =>
        have := ih (i + 1) j v h
        rw [show i + (j + 1) = i + 1 + j by omega]
        exact ⟨List.mem_cons_of_mem _ this.1, List.mem_cons_of_mem _ this.2⟩
    | .inr (.inr x), hc, h =>
      rw [if_neg (by rw [hc]; simp [cat])]
      cases j with
      | zero => cases h; exact ⟨List.mem_cons_self, List.mem_cons_self⟩
      | succ j =>
        have := ih (i + 1) j v h
        rw [show i + (j + 1) = i + 1 + j by omega]
        exact ⟨List.mem_cons_of_mem _ this.1, List.mem_cons_of_mem _ this.2⟩
    | .inr (.inl x), hc, h =>
      rw [if_pos (by rw [hc]; rfl)]
      cases j with
      | zero => cases h; exact ⟨List.mem_cons_self, List.mem_cons_self⟩
      | succ j =>
        cases j with
        | zero => cases h
        | succ j =>
          have := ih (i + 2) j v h
          rw [show i + (j + 1 + 1) = i + 2 + j by omega]
          exact ⟨List.mem_cons_of_mem _ this.1, List.mem_cons_of_mem _ this.2⟩
theorem LR.entry {G : GE} (hG : gVok G) {as : List TV} {n : Nat} (hn : (spr as).length ≤ n) (hok : ∀ v ∈ as, okv v) : LR G (ent n as) ((lg_sl (as.map (rep G)) ++ List.replicate (n - (lg_sl (as.map (rep G))).length) Slot.unset).toArray) n := by
  have hn' : (lg_sl (as.map (rep G))).length ≤ n := by rw [← spr_len hG]; exact hn
  have h := lv_entry (as.map (rep G)) (n := n) hn'
  refine ⟨by unfold ent; simp; omega, h.1, h.2.1, fun i v hv => ?_⟩
  unfold ent at hv
  by_cases hi : i < (spr as).length
  · rw [List.getElem?_append_left hi] at hv
    have h2 := spr_args hG as 0 i v hv
    rw [Nat.zero_add] at h2
    exact ⟨h.2.2 _ h2.1, hok v h2.2⟩
  · rw [List.getElem?_append_right (by first | decide | omega)] at hv
    have := List.mem_of_getElem? hv
    rw [List.mem_replicate] at this
    cases this.2
end
section
-- 09c.heap
/-! the heap -/
noncomputable def ety (t : Nat) : FieldType := match t with
  | 0 => .byte
  | 1 => .boolean
  | 2 => .int
  | 3 => .long
  | 4 => .object "SupplyBook$Text"
  | 5 => .object "SupplyBook$Authority"
  | _ => .object "SupplyBook$Claim"
/-- the cells from outside: 1 the script, 2 and 3 the class's two tables, 4 to 8 the Strings, 9 to 13 their bytes, 14 the formatter -/
noncomputable def stxs : List (List Int) := [[97, 121, 104, 107, 114, 113, 108], [109, 99, 98, 101, 100, 120], [60, 62, 61], [42, 47, 37], [109, 99, 98, 101, 100]]
noncomputable def xsh (L : Nat) (a : Nat) : Nat × Nat := ([(99, 0), (2, L), (2, 4), (2, 5), (23, 2), (23, 2), (23, 2), (23, 2), (23, 2), (0, 7), (0, 6), (0, 3), (0, 3), (0, 5), (98, 0)] : List (Nat × Nat)).getD a (99, 0)
noncomputable def xcl : List (List (Option Int)) := [[], [], [some 0, some 2, some 3, some 4], [some 10, some 0, some 0, some 0, some 30], [some 9, some 0], [some 10, some 0], [some 11, some 0], [some 12, some 0], [some 13, some 0],
  [some 97, some 121, some 104, some 107, some 114, some 113, some 108], [some 109, some 99, some 98, some 101, some 100, some 120], [some 60, some 62, some 61], [some 42, some 47, some 37], [some 109, some 99, some 98, some 101, some 100], []]
noncomputable def xct (xs : Nat → Int32) (a : Nat) : Nat → Option Int := match a with
  | 1 => fun k => some (xs k).toInt
  | a => fun k => (xcl.getD a []).getD k none
noncomputable def xvv (a j : Nat) : Int := ((xcl.getD a []).getD j none).getD 0
noncomputable def AA (G : GE) : Nat → Prop := fun q => gb G ≤ q
noncomputable def EN (G : GE) (U : State) (H : Heap) : Prop :=
  (∀ c ∈ lw_tbl, kw c = true → c.before #[] U = true) ∧
  (∀ ci, ci < 13 → u_Kn U (cnm ci) (TT ci) (NN ci) (gC G ci) (gS G ci)) ∧
  (∀ t, t < 7 → ArrOfT U (gA G t) (ety t) ∧ va_RA U (gA G t) (ety t)) ∧
  (va_X (gE G 1) (gL G) (gX G) U H ∧ gE G 1 < gb G ∧ gL G ≤ 3584) ∧
  (∀ a, a = 2 ∨ a = 3 → va_T .int (gE G a) (xsh (gL G) a).2 (fun j => .int (Int32.ofInt (xvv a j))) (AA G) U H) ∧
  (∀ j, j < 5 → vk_R (cnm (stl.getD j (0, 0, "")).1) (stl.getD j (0, 0, "")).2.1 (stl.getD j (0, 0, "")).2.2 (gE G (4 + j)) U ∧ va_O "java/lang/String" (gE G (4 + j)) (AA G) U H ∧ va_OF "java/lang/String" "coder" "B" (.int 0) (gE G (4 + j)) (AA G) U H ∧ va_OF "java/lang/String" "value" "[B" (.ref (gE G (9 + j))) (gE G (4 + j)) (AA G) U H ∧ va_T .byte (gE G (9 + j)) (xsh (gL G) (9 + j)).2 (fun k => .int (Int32.ofInt (xvv (9 + j) k))) (AA G) U H) ∧
  (va_Z "SupplyBook" "ASKED_KINDS" "[I" (.ref (gE G 2)) (AA G) U H ∧ va_Z "SupplyBook" "USUAL_NUMBERS" "[I" (.ref (gE G 3)) (AA G) U H ∧ va_Z "java/lang/String" "COMPACT_STRINGS" "Z" (.int 1) (AA G) U H ∧ va_Z "jdk/internal/util/Preconditions" "SIOOBE_FORMATTER" "Ljava/util/function/BiFunction;" (gV G) (AA G) U H) ∧
  gVok G ∧ gb G ≤ H.size
theorem kw_warm {c : Cond} (hk : kw c = true) {s U : State} (hW : s.WarmedH U.vm) (h : c.before #[] s = true) : c.before #[] U = true := by
  unfold kw at hk
  split at hk
  · exact va_Nw.warmF hW h
  · exact va_Nw.warmM hW h
  · exact va_Nw.warmC hW h
  · exact va_AO.moved hW.alike h
  · exact word_at hW (good_of_word hk) h
/-- what is known stays known -/
theorem EN.next {G : GE} {s U : State} {locs : List Loc} (h : EN G s s.heap) (hW : s.WarmedH U.vm) (hS : va_S (AA G) s.heap U.heap locs) : EN G U U.heap := by
  obtain ⟨h1, h2, h3, ⟨h4, h5, h6⟩, h7, h8, ⟨z1, z2, z3, z4⟩, h9, h10⟩ := h
  have hq := hS.2.1
  refine ⟨fun c hc hk => kw_warm hk hW (h1 c hc hk), fun ci hci => u_Kn_moved hW.alike (h2 ci hci), fun t ht => ⟨arrOfT_moved hW.alike (h3 t ht).1, (h3 t ht).2.moved hW.alike⟩, ⟨(h4.moved hW.alike).kept (hq _ (by first | decide | omega) (by unfold AA; omega)), h5, h6⟩, fun a ha => ((h7 a ha).moved hW.alike).kept hq, fun j hj => ?_, ⟨(z1.moved hW.alike).kept hq, (z2.moved hW.alike).kept hq, (z3.moved hW.alike).kept hq, (z4.moved hW.alike).kept hq⟩, h9, Nat.le_trans h10 hS.1⟩
  obtain ⟨a1, a2, a3, a4, a5⟩ := h8 j hj
  exact ⟨a1.warm hW, (a2.moved hW.alike).kept hq, (a3.moved hW.alike).kept hq, (a4.moved hW.alike).kept hq, (a5.moved hW.alike).kept hq⟩
theorem EN.word {G : GE} {U : State} {H : Heap} (h : EN G U H) {i : Nat} {c : Cond} (hc : wok1 i c = true) : c.before #[] U = true := h.1 c (wok1_mem hc).1 (wok1_mem hc).2
theorem onT {c : Cond} (ht : c.onTables = true) {A : Array Value} {U : State} (h : c.before #[] U = true) : c.before A U = true := va_tabs ht rfl h
noncomputable def isC (G : GE) (w : WC) (S : AH) (H : Heap) (a : Nat) : Prop :=
  ((shp w S a).1 < 7 → H[gad G a]? = some (arrV (gA G (shp w S a).1) (shp w S a).2 (fun j => rep G (mkv (arC (shp w S a).1) (rdv w S a j)))) ∧ (shp w S a).2 ≤ 20000 ∧ ∀ j, j < (shp w S a).2 → okc (arC (shp w S a).1) (rdv w S a j)) ∧
  ∀ ci, ci < 14 → (shp w S a).1 = 10 + ci → ci < 13 ∧ t_OB (gad G a) (gC G ci) (NN ci) (gS G ci) H (fun k => rep G (mkv (fcd ci k) (rdv w S a k))) ∧ ∀ k, k < NN ci → okc (fcd ci k) (rdv w S a k)
noncomputable def Rel (G : GE) (w : WC) (S : AH) (H : Heap) : Prop := 15 ≤ S.1.1 ∧ H.size = gb G + (S.1.1 - 15) ∧ w.1 ≤ S.1.1 ∧ (∀ a, S.1.1 ≤ a → (S.1.2.2 a).1 = 99) ∧ ∀ a, 15 ≤ a → a < S.1.1 → isC G w S H a
noncomputable def OKW (G : GE) (w : WC) : Prop := 15 ≤ w.1 ∧ (∀ a, a < 15 → (w.2.1 a = xsh (gL G) a ∧ ∀ k, w.2.2 a k = xct (gX G) a k) ∨ w.2.1 a = (99, 0)) ∧ (∀ a k, w.1 ≤ a → w.2.2 a k = none) ∧ (∀ a k, 15 ≤ a → a < w.1 → (w.2.1 a).1 < 7 → w.2.2 a k = none) ∧ ∀ a, w.1 ≤ a → gp G a = a
theorem gad_own {G : GE} {a : Nat} (h : 15 ≤ a) : gad G a = gb G + (gp G a - 15) := by
  unfold gad
  rw [if_neg (by first | decide | omega)]
theorem rf_own {G : GE} {a : Nat} (h : 15 ≤ a) : rf G a = .ref (gad G a) := rf_ref (by first | decide | omega) (by first | decide | omega)
theorem gad_A {G : GE} {a : Nat} (h : 15 ≤ a) : AA G (gad G a) := by
  rw [gad_own h]
  exact Nat.le_add_right _ _
theorem gad_ne {G : GE} {a b : Nat} (ha : 15 ≤ a) (hb : 15 ≤ b) (h : b ≠ a) : gad G b ≠ gad G a := by
  have h1 := gp_ge (G := G) ha
  have h2 := gp_ge (G := G) hb
  have h3 : gp G b ≠ gp G a := fun q => h (gp_in q)
  rw [gad_own ha, gad_own hb]
  omega
theorem shp_in {G : GE} {w : WC} {S : AH} (hw : OKW G w) {a : Nat} (h : a < 15) : shp w S a = w.2.1 a := by
  unfold shp
  rw [show Nat.blt a w.1 = true from Nat.blt_eq.mpr (Nat.lt_of_lt_of_le h hw.1)]
theorem ext_at {G : GE} {w : WC} {S : AH} (hw : OKW G w) {a : Nat} (h : a < 15) (hk : (shp w S a).1 ≠ 99) : w.2.1 a = xsh (gL G) a ∧ ∀ k, w.2.2 a k = xct (gX G) a k := by
  rcases hw.2.1 a h with q | q
  · exact q
  · rw [shp_in hw h, q] at hk
    exact absurd rfl hk
theorem shp_ext {G : GE} {w : WC} {S : AH} (hw : OKW G w) {a : Nat} (h : a < 15) (hk : (shp w S a).1 ≠ 99) : shp w S a = xsh (gL G) a := by
  rw [shp_in hw h]
  exact (ext_at hw h hk).1
theorem shp_dyn {w : WC} {S : AH} {a : Nat} (h : w.1 ≤ a) : shp w S a = S.1.2.2 a := by
  unfold shp
  rw [show Nat.blt a w.1 = false from by rw [← Bool.not_eq_true, Nat.blt_eq]; omega]
theorem rdv_ext {G : GE} {w : WC} {S : AH} (hw : OKW G w) {a k : Nat} {v : Int} (h : a < 15) (hk : (shp w S a).1 ≠ 99) (hv : xct (gX G) a k = some v) : rdv w S a k = v := by
  unfold rdv
  rw [(ext_at hw h hk).2 k, hv]
theorem rdv_none {w : WC} {S : AH} {a k : Nat} (h : w.2.2 a k = none) : rdv w S a k = S.2 a k := by
  unfold rdv
  rw [h]
/-- a cell with a shape is there -/
theorem Rel.lt {G : GE} {w : WC} {S : AH} {H : Heap} (hR : Rel G w S H) {a : Nat} (h : (shp w S a).1 ≠ 99) : a < S.1.1 := by
  rcases Nat.lt_or_ge a S.1.1 with q | q
  · exact q
  · exact absurd (by rw [shp_dyn (Nat.le_trans hR.2.2.1 q)]; exact hR.2.2.2.1 a q) h
theorem obj_ge {G : GE} {w : WC} {S : AH} (hw : OKW G w) {a ci : Nat} (hci : ci < 13) (h : (shp w S a).1 = 10 + ci) : 15 ≤ a := by
  rcases Nat.lt_or_ge a 15 with q | q
  · rw [shp_ext hw q (by first | decide | omega)] at h
    rcases (show a = 0 ∨ a = 1 ∨ a = 2 ∨ a = 3 ∨ a = 4 ∨ a = 5 ∨ a = 6 ∨ a = 7 ∨ a = 8 ∨ a = 9 ∨ a = 10 ∨ a = 11 ∨ a = 12 ∨ a = 13 ∨ a = 14 by omega) with rfl | rfl | rfl | rfl | rfl | rfl | rfl | rfl | rfl | rfl | rfl | rfl | rfl | rfl | rfl <;> simp [xsh] at h <;> omega
  · exact q
/-- an object of ours -/
theorem obj_at {G : GE} {w : WC} {S : AH} {H : Heap} (hw : OKW G w) (hR : Rel G w S H) {a ci : Nat} (hci : ci < 13) (h : (shp w S a).1 = 10 + ci) : 15 ≤ a ∧ t_OB (gad G a) (gC G ci) (NN ci) (gS G ci) H (fun k => rep G (mkv (fcd ci k) (rdv w S a k))) ∧ ∀ k, k < NN ci → okc (fcd ci k) (rdv w S a k) := by
  have h15 := obj_ge hw hci h
  exact ⟨h15, ((hR.2.2.2.2 a h15 (hR.lt (by first | decide | omega))).2 ci (by first | decide | omega) h).2⟩
theorem str_at {G : GE} {w : WC} {S : AH} {H : Heap} (hw : OKW G w) (hR : Rel G w S H) {a : Nat} (h : (shp w S a).1 = 23) : ∃ j, j < 5 ∧ a = 4 + j := by
  rcases Nat.lt_or_ge a 15 with q | q
  · rw [shp_ext hw q (by first | decide | omega)] at h
    rcases (show a = 0 ∨ a = 1 ∨ a = 2 ∨ a = 3 ∨ a = 4 ∨ a = 5 ∨ a = 6 ∨ a = 7 ∨ a = 8 ∨ a = 9 ∨ a = 10 ∨ a = 11 ∨ a = 12 ∨ a = 13 ∨ a = 14 by omega) with rfl | rfl | rfl | rfl | rfl | rfl | rfl | rfl | rfl | rfl | rfl | rfl | rfl | rfl | rfl
    all_goals first
      | exact ⟨0, by omega, rfl⟩
      | exact ⟨1, by omega, rfl⟩
      | exact ⟨2, by omega, rfl⟩
      | exact ⟨3, by omega, rfl⟩
      | exact ⟨4, by omega, rfl⟩
      | (simp [xsh] at h)
  · exact absurd ((hR.2.2.2.2 a q (hR.lt (by first | decide | omega))).2 13 (by first | decide | omega) h).1 (by first | decide | omega)
/-- an array, of ours or from outside -/
theorem arr_at {G : GE} {w : WC} {S : AH} {s : State} {H : Heap} {locs : List Loc} (hw : OKW G w) (hE : EN G s s.heap) (hS : va_S (AA G) s.heap H locs) (hR : Rel G w S H) {a t n : Nat} (h : shp w S a = (t, n)) (ht : t < 7) :
    rf G a = .ref (gad G a) ∧ n < 2 ^ 31 ∧ ∃ cell : Cell, H[gad G a]? = some cell ∧ s.isArrayOf cell (ety t) ∧ cell.vm ≠ .unknown ∧ n ≤ cell.slots.size ∧ cell.slots.size.toInt32 = Int32.ofNat n ∧ ∀ j, j < n → cell.slots[j]? = some (rep G (mkv (arC t) (rdv w S a j))) ∧ okc (arC t) (rdv w S a j) := by
  rcases Nat.lt_or_ge a 15 with q | q
  · have hk0 : (shp w S a).1 ≠ 99 := by rw [h]; show t ≠ 99; omega
    rw [shp_ext hw q hk0] at h
    obtain ⟨h1, h2, h3, ⟨h4, h5, h6⟩, h7, h8, -, h9, h10⟩ := hE
    have tbl : ∀ b : Nat, (shp w S b).1 ≠ 99 → b < 15 → b ≠ 0 → b ≠ 14 → b ≠ 1 → ∀ (t n : Nat), xsh (gL G) b = (t, n) → (t = 2 ∨ t = 0) → (∀ j, j < n → xct (gX G) b j = some (xvv b j) ∧ okc (arC t) (xvv b j)) → n < 2 ^ 31 → va_T (ety t) (gE G b) n (fun j => .int (Int32.ofInt (xvv b j))) (AA G) s s.heap →
        rf G b = .ref (gad G b) ∧ n < 2 ^ 31 ∧ ∃ cell : Cell, H[gad G b]? = some cell ∧ s.isArrayOf cell (ety t) ∧ cell.vm ≠ .unknown ∧ n ≤ cell.slots.size ∧ cell.slots.size.toInt32 = Int32.ofNat n ∧ ∀ j, j < n → cell.slots[j]? = some (rep G (mkv (arC t) (rdv w S b j))) ∧ okc (arC t) (rdv w S b j) := by
      intro b hkb hb b0 b14 b1 t n hx ht hv hn hT
      obtain ⟨cell, c1, c2, c3, c4, c5, c6, c7⟩ := hT.kept hS.2.1
      refine ⟨rf_ref b0 b14, hn, cell, ?_, c2, c3, c4, c5, fun j hj => ?_⟩
      · unfold gad
        rw [if_pos hb]
        exact c1
      · rw [rdv_ext hw hb hkb (hv j hj).1]
        refine ⟨?_, (hv j hj).2⟩
        rw [c6 j hj]
        rcases ht with rfl | rfl <;> rfl
    rcases (show a = 0 ∨ a = 1 ∨ a = 2 ∨ a = 3 ∨ (4 ≤ a ∧ a < 9) ∨ a = 9 ∨ a = 10 ∨ a = 11 ∨ a = 12 ∨ a = 13 ∨ a = 14 by omega) with rfl | rfl | rfl | rfl | q2 | rfl | rfl | rfl | rfl | rfl | rfl
    · simp [xsh] at h; omega
    · have e : t = 2 ∧ n = gL G := by simp [xsh] at h; exact ⟨h.1.symm, h.2.symm⟩
      obtain ⟨rfl, rfl⟩ := e
      obtain ⟨cell, c1, c2, c3, c4, c5⟩ := h4.kept (hS.2.1 _ (by first | decide | omega) (by unfold AA; omega))
      refine ⟨rf_ref (by decide) (by decide), by omega, cell, ?_, c2, c3, by omega, by rw [c4], fun j hj => ?_⟩
      · unfold gad
        rw [if_pos (by decide)]
        exact c1
      · rw [rdv_ext (v := (gX G j).toInt) hw (by decide) hk0 rfl]
        refine ⟨?_, i32_r _⟩
        rw [c5 j hj]
        show _ = some (Value.int (Int32.ofInt (gX G j).toInt))
        rw [to32]
    · exact tbl 2 hk0 (by decide) (by decide) (by decide) (by decide) t n h (by simp [xsh] at h; omega) (by simp [xsh] at h; obtain ⟨rfl, rfl⟩ := h; intro j hj; rcases (show j = 0 ∨ j = 1 ∨ j = 2 ∨ j = 3 by omega) with rfl | rfl | rfl | rfl <;> exact ⟨rfl, by simp [okc, arC, r32, xvv, xcl]⟩) (by simp [xsh] at h; omega) (by have := h7 2 (Or.inl rfl); rw [h] at this; simp [xsh] at h; obtain ⟨rfl, rfl⟩ := h; exact this)
    · exact tbl 3 hk0 (by decide) (by decide) (by decide) (by decide) t n h (by simp [xsh] at h; omega) (by simp [xsh] at h; obtain ⟨rfl, rfl⟩ := h; intro j hj; rcases (show j = 0 ∨ j = 1 ∨ j = 2 ∨ j = 3 ∨ j = 4 by omega) with rfl | rfl | rfl | rfl | rfl <;> exact ⟨rfl, by simp [okc, arC, r32, xvv, xcl]⟩) (by simp [xsh] at h; omega) (by have := h7 3 (Or.inr rfl); rw [h] at this; simp [xsh] at h; obtain ⟨rfl, rfl⟩ := h; exact this)
    · rcases (show a = 4 ∨ a = 5 ∨ a = 6 ∨ a = 7 ∨ a = 8 by omega) with rfl | rfl | rfl | rfl | rfl <;> simp [xsh] at h <;> omega
    · exact tbl 9 hk0 (by decide) (by decide) (by decide) (by decide) t n h (by simp [xsh] at h; omega) (by simp [xsh] at h; obtain ⟨rfl, rfl⟩ := h; intro j hj; rcases (show j = 0 ∨ j = 1 ∨ j = 2 ∨ j = 3 ∨ j = 4 ∨ j = 5 ∨ j = 6 by omega) with rfl | rfl | rfl | rfl | rfl | rfl | rfl <;> exact ⟨rfl, by simp [okc, arC, r32, xvv, xcl]⟩) (by simp [xsh] at h; omega) (by have := (h8 0 (by first | decide | omega)).2.2.2.2; rw [show (9 + 0 : Nat) = 9 from rfl, h] at this; simp [xsh] at h; obtain ⟨rfl, rfl⟩ := h; exact this)
    · exact tbl 10 hk0 (by decide) (by decide) (by decide) (by decide) t n h (by simp [xsh] at h; omega) (by simp [xsh] at h; obtain ⟨rfl, rfl⟩ := h; intro j hj; rcases (show j = 0 ∨ j = 1 ∨ j = 2 ∨ j = 3 ∨ j = 4 ∨ j = 5 by omega) with rfl | rfl | rfl | rfl | rfl | rfl <;> exact ⟨rfl, by simp [okc, arC, r32, xvv, xcl]⟩) (by simp [xsh] at h; omega) (by have := (h8 1 (by first | decide | omega)).2.2.2.2; rw [show (9 + 1 : Nat) = 10 from rfl, h] at this; simp [xsh] at h; obtain ⟨rfl, rfl⟩ := h; exact this)
    · exact tbl 11 hk0 (by decide) (by decide) (by decide) (by decide) t n h (by simp [xsh] at h; omega) (by simp [xsh] at h; obtain ⟨rfl, rfl⟩ := h; intro j hj; rcases (show j = 0 ∨ j = 1 ∨ j = 2 by omega) with rfl | rfl | rfl <;> exact ⟨rfl, by simp [okc, arC, r32, xvv, xcl]⟩) (by simp [xsh] at h; omega) (by have := (h8 2 (by first | decide | omega)).2.2.2.2; rw [show (9 + 2 : Nat) = 11 from rfl, h] at this; simp [xsh] at h; obtain ⟨rfl, rfl⟩ := h; exact this)
    · exact tbl 12 hk0 (by decide) (by decide) (by decide) (by decide) t n h (by simp [xsh] at h; omega) (by simp [xsh] at h; obtain ⟨rfl, rfl⟩ := h; intro j hj; rcases (show j = 0 ∨ j = 1 ∨ j = 2 by omega) with rfl | rfl | rfl <;> exact ⟨rfl, by simp [okc, arC, r32, xvv, xcl]⟩) (by simp [xsh] at h; omega) (by have := (h8 3 (by first | decide | omega)).2.2.2.2; rw [show (9 + 3 : Nat) = 12 from rfl, h] at this; simp [xsh] at h; obtain ⟨rfl, rfl⟩ := h; exact this)
    · exact tbl 13 hk0 (by decide) (by decide) (by decide) (by decide) t n h (by simp [xsh] at h; omega) (by simp [xsh] at h; obtain ⟨rfl, rfl⟩ := h; intro j hj; rcases (show j = 0 ∨ j = 1 ∨ j = 2 ∨ j = 3 ∨ j = 4 by omega) with rfl | rfl | rfl | rfl | rfl <;> exact ⟨rfl, by simp [okc, arC, r32, xvv, xcl]⟩) (by simp [xsh] at h; omega) (by have := (h8 4 (by first | decide | omega)).2.2.2.2; rw [show (9 + 4 : Nat) = 13 from rfl, h] at this; simp [xsh] at h; obtain ⟨rfl, rfl⟩ := h; exact this)
    · simp [xsh] at h; omega
  · have h' := (hR.2.2.2.2 a q (hR.lt (by rw [h]; show t ≠ 99; omega))).1
    rw [h] at h'
    dsimp only at h'
    obtain ⟨c1, c2, c3⟩ := h' ht
    have hsz : (arrV (gA G t) n (fun j => rep G (mkv (arC t) (rdv w S a j)))).slots.size = n := arrV_size _ _ _
    exact ⟨rf_own q, by omega, _, c1, (hE.2.2.1 t ht).1 _ _, fun e => (by cases e), (by rw [hsz]; exact Nat.le_refl _), (by rw [hsz]), fun j hj => ⟨arrV_read _ _ hj, c3 j hj⟩⟩
end
section
-- 09d.upd
/-! writes and new cells -/
theorem all13 {P : Nat → Nat → Bool} (h : ((List.range 13).all fun ci => (List.range (NN ci)).all fun k => P ci k) = true) {ci k : Nat} (hci : ci < 13) (hk : k < NN ci) : P ci k = true := by
  rw [List.all_eq_true] at h
  have h1 := h ci (List.mem_range.mpr hci)
  rw [List.all_eq_true] at h1
  exact h1 k (List.mem_range.mpr hk)
theorem lay_at {ci k : Nat} (hci : ci < 13) (hk : k < NN ci) : u_lay (cnm ci) (TT ci) k ∈ lw_tbl ∧ kw (u_lay (cnm ci) (TT ci) k) = true := wok1_mem (all13 (P := layOk) lay_ok hci hk)
theorem ty_at {ci k : Nat} (hci : ci < 13) (hk : k < NN ci) : parseFieldDescriptor (TT ci k).2.2.1 = some (fty ci k) := of_decide_eq_true (all13 (P := fun ci k => decide (parseFieldDescriptor (TT ci k).2.2.1 = some (fty ci k))) ty_ok hci hk)
theorem fc_at {ci k : Nat} (hci : ci < 13) (hk : k < NN ci) : fcd ci k = fk (fty ci k) := by
  have := all13 (P := fun ci k => fcd ci k == fk (fty ci k)) fc_ok hci hk
  simpa using this
theorem fc5_ok : ((List.range 13).all fun ci => (List.range (NN ci)).all fun k => Nat.blt (fcd ci k) 5) = true := by decide +kernel
theorem fc5_at {ci k : Nat} (hci : ci < 13) (hk : k < NN ci) : fcd ci k < 5 := Nat.blt_eq.mp (all13 (P := fun ci k => Nat.blt (fcd ci k) 5) fc5_ok hci hk)
theorem nm_at {ci : Nat} (hci : ci < 13) : ∀ a, a < NN ci → ∀ b, b < NN ci → a ≠ b → (TT ci a).2.1 ≠ (TT ci b).2.1 := by
  intro a ha b hb hne
  have h := all13 (P := fun ci a => (List.range (NN ci)).all fun b => a == b || decide ((TT ci a).2.1 ≠ (TT ci b).2.1)) nm_ok hci ha
  rw [List.all_eq_true] at h
  have h1 := h b (List.mem_range.mpr hb)
  simp only [Bool.or_eq_true, beq_iff_eq, decide_eq_true_eq] at h1
  rcases h1 with q | q
  · exact absurd q hne
  · exact q
/-- the words of the fields, for any arguments -/
theorem lays_w {G : GE} {s : State} {H : Heap} {args : Array Value} (hE : EN G s H) {ci : Nat} (hci : ci < 13) : ∀ w ∈ u_ws (cnm ci) (TT ci) (NN ci), w.before args s = true := by
  intro w hw
  obtain ⟨k, hk, rfl⟩ := List.mem_map.mp hw
  have hk := List.mem_range.mp hk
  have h := hE.1 _ (lay_at hci hk).1 (lay_at hci hk).2
  refine onT ?_ h
  unfold u_lay
  split <;> rfl
theorem dfl_a {G : GE} {t : Nat} (ht : t < 7) : defaultValue (ety t) = rep G (mkv (arC t) 0) := by
  rcases (show t = 0 ∨ t = 1 ∨ t = 2 ∨ t = 3 ∨ t = 4 ∨ t = 5 ∨ t = 6 by omega) with rfl | rfl | rfl | rfl | rfl | rfl | rfl <;> rfl
theorem dfl_f {G : GE} {ty : FieldType} (h : fk ty < 5) : defaultValue ty = rep G (mkv (fk ty) 0) := by
  cases ty <;> first | rfl | (simp [fk] at h)
theorem okc_0 (c : Nat) : okc c 0 := by
  unfold okc
  split <;> first | (unfold r32; omega) | (unfold r64; omega) | omega
theorem isC.kept {G : GE} {w : WC} {S S' : AH} {H H' : Heap} {b : Nat} (h : isC G w S H b) (h1 : ∀ j, rdv w S' b j = rdv w S b j) (h2 : shp w S' b = shp w S b) (h3 : H'[gad G b]? = H[gad G b]?) : isC G w S' H' b := by
  have e : rdv w S' b = rdv w S b := funext h1
  unfold isC at h ⊢
  rw [h2, e, h3]
  exact ⟨h.1, fun ci hci hq => ⟨(h.2 ci hci hq).1, (h.2 ci hci hq).2.1.kept h3, (h.2 ci hci hq).2.2⟩⟩
theorem Rel.upd {G : GE} {w : WC} {S S' : AH} {H H' : Heap} (hR : Rel G w S H) {a : Nat} (ha : 15 ≤ a) (hS : S'.1 = S.1) (hr : ∀ b, b ≠ a → ∀ j, rdv w S' b j = rdv w S b j) (hz : H'.size = H.size) (ho : ∀ q, q ≠ gad G a → H'[q]? = H[q]?) (hc : isC G w S' H' a) : Rel G w S' H' := by
  obtain ⟨h1, h2, h3, h4, h5⟩ := hR
  refine ⟨by rw [hS]; exact h1, by rw [hz, hS]; exact h2, by rw [hS]; exact h3, by rw [hS]; exact h4, fun b hb hlt => ?_⟩
  by_cases e : b = a
  · rw [e]; exact hc
  · rw [hS] at hlt
    exact (h5 b hb hlt).kept (hr b e) (by unfold shp; rw [hS]) (ho _ (gad_ne ha hb e))
theorem rdv_wr {w : WC} {S : AH} {a k : Nat} {v : Int} (h : w.2.2 a k = none) (b j : Nat) : rdv w (wr S a k v) b j = if b = a ∧ j = k then v else rdv w S b j := by
  unfold rdv wr upd2
  by_cases e : b = a ∧ j = k
  · rw [if_pos e, e.1, e.2, h]
    dsimp only
    rw [if_pos ⟨rfl, rfl⟩]
  · rw [if_neg e]
    cases w.2.2 b j with
    | some c => rfl
    | none =>
      dsimp only
      rw [if_neg e]
theorem wokF_none {G : GE} {w : WC} (hw : OKW G w) {a : Nat} (h : wokF w a = true) : 15 ≤ a ∧ ∀ k, w.2.2 a k = none := by
  unfold wokF at h
  cases hb : Nat.blt a w.1 with
  | true =>
    rw [hb] at h
    dsimp only at h
    rw [Bool.and_eq_true] at h
    have h1 := Nat.le_of_ble_eq_true h.1
    exact ⟨h1, fun k => hw.2.2.2.1 a k h1 (Nat.blt_eq.mp hb) (Nat.blt_eq.mp h.2)⟩
  | false =>
    rw [hb] at h
    dsimp only at h
    refine ⟨Nat.le_of_ble_eq_true h, fun k => hw.2.2.1 a k ?_⟩
    rcases Nat.lt_or_ge a w.1 with q | q
    · rw [Nat.blt_eq.mpr q] at hb; cases hb
    · exact q
theorem wok_none {w : WC} {a k : Nat} (h : wok w a k = true) : 15 ≤ a ∧ w.2.2 a k = none := by
  unfold wok at h
  rw [Bool.and_eq_true] at h
  refine ⟨Nat.le_of_ble_eq_true h.1, ?_⟩
  cases hq : w.2.2 a k with
  | none => rfl
  | some c => rw [hq] at h; cases h.2
/-- an array's place anew -/
theorem Rel.ast {G : GE} {w : WC} {S : AH} {H H' : Heap} (hw : OKW G w) (hR : Rel G w S H) {a t n i : Nat} {v : Int} (h : shp w S a = (t, n)) (ht : t < 7) (hf : wokF w a = true) (hv : okc (arC t) v) (hz : H'.size = H.size) (ho : ∀ q, q ≠ gad G a → H'[q]? = H[q]?)
    (h1 : H'[gad G a]? = some ((arrV (gA G t) n (fun j => rep G (mkv (arC t) (rdv w S a j)))).setSlot i (rep G (mkv (arC t) v)))) : Rel G w (wr S a i v) H' := by
  obtain ⟨h15, hn⟩ := wokF_none hw hf
  have h' := (hR.2.2.2.2 a h15 (hR.lt (by rw [h]; show t ≠ 99; omega))).1
  rw [h] at h'
  dsimp only at h'
  obtain ⟨c1, c2, c3⟩ := h' ht
  refine hR.upd h15 rfl (fun b hb j => by rw [rdv_wr (hn i), if_neg (fun q => hb q.1)]) hz ho ?_
  have hsh : shp w (wr S a i v) a = (t, n) := h
  unfold isC
  rw [hsh]
  refine ⟨fun _ => ⟨?_, c2, fun j hj => ?_⟩, fun ci hci q => ?_⟩
  · rw [h1, arrV_store]
    congr 2
    funext j
    unfold updV
    rw [rdv_wr (hn i)]
    by_cases e : j = i
    · rw [if_pos e, if_pos ⟨rfl, e⟩]
    · rw [if_neg e, if_neg (fun q => e q.2)]
  · rw [rdv_wr (hn i)]
    split
    · exact hv
    · exact c3 j hj
  · dsimp only at q; omega
/-- an object's field anew -/
theorem Rel.putf {G : GE} {w : WC} {S : AH} {H H' : Heap} (hw : OKW G w) (hR : Rel G w S H) {a ci k : Nat} {v : Int} (hci : ci < 13) (hk : k < NN ci) (h : (shp w S a).1 = 10 + ci) (hf : wok w a k = true) (hv : okc (fcd ci k) v) (hz : H'.size = H.size) (ho : ∀ q, q ≠ gad G a → H'[q]? = H[q]?)
    (h1 : t_OB (gad G a) (gC G ci) (NN ci) (gS G ci) H' (updV (fun k => rep G (mkv (fcd ci k) (rdv w S a k))) k (rep G (mkv (fcd ci k) v)))) : Rel G w (wr S a k v) H' := by
  obtain ⟨h15, hn⟩ := wok_none hf
  obtain ⟨-, -, c3⟩ := obj_at hw hR hci h
  refine hR.upd h15 rfl (fun b hb j => by rw [rdv_wr hn, if_neg (fun q => hb q.1)]) hz ho ?_
  have hsh : (shp w (wr S a k v) a).1 = 10 + ci := h
  refine ⟨fun q => by omega, fun cj hcj q => ?_⟩
  have e : cj = ci := by omega
  subst e
  refine ⟨hci, h1.to (fun j hj => ?_), fun j hj => ?_⟩
  · unfold updV
    rw [rdv_wr hn]
    by_cases e : j = k
    · rw [if_pos e, if_pos ⟨rfl, e⟩, e]
    · rw [if_neg e, if_neg (fun q => e q.2)]
  · rw [rdv_wr hn]
    split
    · rename_i e
      rw [e.2]; exact hv
    · exact c3 j hj
/-- a new cell -/
theorem gad_new {G : GE} {w : WC} {S : AH} {H : Heap} (hw : OKW G w) (hR : Rel G w S H) : gad G S.1.1 = H.size := by rw [gad_own hR.1, hw.2.2.2.2 _ hR.2.2.1, hR.2.1]
theorem Rel.push {G : GE} {w : WC} {S : AH} {H : Heap} (hw : OKW G w) (hR : Rel G w S H) {t n : Nat} {f : Nat → Int} {c : Cell} (hc : isC G w (nwc S t n f) (H.push c) S.1.1) : Rel G w (nwc S t n f) (H.push c) := by
  have hN := gad_new hw hR
  obtain ⟨h1, h2, h3, h4, h5⟩ := hR
  refine ⟨show 15 ≤ S.1.1 + 1 by omega, ?_, show w.1 ≤ S.1.1 + 1 by omega, fun a ha => ?_, fun b hb hlt => ?_⟩
  · show (H.push c).size = gb G + (S.1.1 + 1 - 15)
    rw [Array.size_push, h2]
    omega
  · have ha : S.1.1 + 1 ≤ a := ha
    show ((if a = S.1.1 then (t, n) else S.1.2.2 a)).1 = 99
    rw [if_neg (by first | decide | omega)]
    exact h4 a (by first | decide | omega)
  · by_cases e : b = S.1.1
    · rw [e]; exact hc
    · have hlt : b < S.1.1 + 1 := hlt
      have hb2 : b < S.1.1 := by omega
      refine (h5 b hb hb2).kept (fun j => ?_) ?_ ?_
      · unfold rdv nwc
        dsimp only
        rw [if_neg e]
      · unfold shp nwc
        dsimp only
        rw [if_neg e]
      · rw [Array.getElem?_push, if_neg]
        rw [← hN]
        exact gad_ne h1 hb e
theorem shp_new {G : GE} {w : WC} {S : AH} {H : Heap} (hR : Rel G w S H) {t n : Nat} {f : Nat → Int} : shp w (nwc S t n f) S.1.1 = (t, n) := by
  rw [shp_dyn hR.2.2.1]
  show (if S.1.1 = S.1.1 then (t, n) else S.1.2.2 S.1.1) = (t, n)
  rw [if_pos rfl]
theorem rdv_new {G : GE} {w : WC} {S : AH} {H : Heap} (hw : OKW G w) (hR : Rel G w S H) {t n j : Nat} {f : Nat → Int} : rdv w (nwc S t n f) S.1.1 j = f j := by
  rw [rdv_none (hw.2.2.1 _ _ hR.2.2.1)]
  show (if S.1.1 = S.1.1 then f else S.2 S.1.1) j = f j
  rw [if_pos rfl]
theorem Rel.newA {G : GE} {w : WC} {S : AH} {H : Heap} (hw : OKW G w) (hR : Rel G w S H) {t n : Nat} {f : Nat → Int} (ht : t < 7) (hn : n ≤ 20000) (hf : ∀ j, j < n → okc (arC t) (f j)) : Rel G w (nwc S t n f) (H.push (arrV (gA G t) n (fun j => rep G (mkv (arC t) (f j))))) := by
  refine hR.push hw ?_
  unfold isC
  rw [shp_new hR]
  refine ⟨fun _ => ⟨?_, hn, fun j hj => by rw [rdv_new hw hR]; exact hf j hj⟩, fun ci _ q => by dsimp only at q; omega⟩
  rw [gad_new hw hR, Array.getElem?_push_size]
  congr 2
  funext j
  rw [rdv_new hw hR]
theorem Rel.newO {G : GE} {w : WC} {S : AH} {H : Heap} (hw : OKW G w) (hR : Rel G w S H) {ci n : Nat} {c : Cell} (hci : ci < 13) (hob : t_OB H.size (gC G ci) (NN ci) (gS G ci) (H.push c) (fun k => rep G (mkv (fcd ci k) 0))) : Rel G w (nw S (10 + ci) n) (H.push c) := by
  unfold nw
  refine hR.push hw ?_
  unfold isC
  rw [shp_new hR]
  refine ⟨fun q => by dsimp only at q; omega, fun cj hcj q => ?_⟩
  have e : cj = ci := by dsimp only at q; omega
  subst e
  rw [gad_new hw hR]
  exact ⟨hci, hob.to (fun k _ => by rw [rdv_new hw hR]), fun k _ => by rw [rdv_new hw hR]; exact okc_0 _⟩
/-- an array's contents anew -/
theorem Rel.wrA {G : GE} {w : WC} {S : AH} {H H' : Heap} (hw : OKW G w) (hR : Rel G w S H) {a t n : Nat} {f : Nat → Int} (h : shp w S a = (t, n)) (ht : t < 7) (hf : wokF w a = true) (hv : ∀ j, j < n → okc (arC t) (f j)) (hz : H'.size = H.size) (ho : ∀ q, q ≠ gad G a → H'[q]? = H[q]?)
    (h1 : H'[gad G a]? = some (arrV (gA G t) n (fun j => rep G (mkv (arC t) (f j))))) : Rel G w (wrA S a f) H' := by
  obtain ⟨h15, hn⟩ := wokF_none hw hf
  have h' := (hR.2.2.2.2 a h15 (hR.lt (by rw [h]; show t ≠ 99; omega))).1
  rw [h] at h'
  dsimp only at h'
  obtain ⟨c1, c2, c3⟩ := h' ht
  have hrd : ∀ j, rdv w (_root_.Jvm.Pilot.@@N@@.wrA S a f) a j = f j := fun j => by
    rw [rdv_none (hn j)]
    show (if a = a then f else S.2 a) j = f j
    rw [if_pos rfl]
  refine hR.upd h15 rfl (fun b hb j => ?_) hz ho ?_
  · unfold rdv _root_.Jvm.Pilot.@@N@@.wrA
    dsimp only
    rw [if_neg hb]
  · have hsh : shp w (_root_.Jvm.Pilot.@@N@@.wrA S a f) a = (t, n) := h
    unfold isC
    rw [hsh]
    refine ⟨fun _ => ⟨?_, c2, fun j hj => by rw [hrd]; exact hv j hj⟩, fun ci hci q => by dsimp only at q; omega⟩
    rw [h1]
    congr 2
    funext j
    rw [hrd]
end
section
-- 09e.ins
/-! one instruction of the plain machine is one of the machine -/
noncomputable def CX (G : GE) (p : Program) (s : State) (m : MethodId) (meth : Method) (c : Code) (mi : Nat) : Prop := p.tables.exec = Jvm.exec ∧ c.code = byo mi ∧ c.maxLocals = mlOf mi ∧ s.vm.findClass (cnm (ow mi)) = some m.cls ∧ (iniM mi = true → meth.name = "<init>") ∧ EN G s s.heap ∧ mi < 338
noncomputable def LE2 (S S' : AH) : Prop := S.1.1 ≤ S'.1.1 ∧ S.1.2.1 ≤ S'.1.2.1
noncomputable def PP (p : Program) (l : Launch) (e : Env) (R : Room) (s : State) (m : MethodId) (args : Array Value) (below : List Frame) (meth : Method) (c : Code) (G : GE) (w : WC) (mi : Nat) (Q : State → Prop) (n0 s0 : Nat) (SF : AH) (pc : Nat) (ls : LV) (st : List TV) (S : AH) : Prop :=
  LE2 S SF ∧ ∀ (H : Heap) (locs : List Loc) (lsC : Array Slot), Rel G w S H → va_S (AA G) s.heap H locs → LR G ls lsC (mlOf mi) → (∀ v ∈ st, okv v) → n0 ≤ S.1.1 → s0 ≤ S.1.2.1 → W p l e R s m args below meth c H locs (S.1.1 - n0) (S.1.2.1 - s0) Q (F0 m pc lsC (st.map (rep G)))
theorem gd_some {b : Bool} {r : Rs} {F : Int × AH} (h : gd b r = some F) : b = true ∧ r = some F := by
  cases b
  · cases h
  · exact ⟨rfl, h⟩
theorem ok_cons {v : TV} {st : List TV} (h : ∀ u ∈ v :: st, okv u) : okv v ∧ ∀ u ∈ st, okv u := ⟨h v List.mem_cons_self, fun u hu => h u (List.mem_cons_of_mem _ hu)⟩
theorem cons_ok {v : TV} {st : List TV} (hv : okv v) (h : ∀ u ∈ st, okv u) : ∀ u ∈ v :: st, okv u := fun u hu => by
  rcases List.mem_cons.mp hu with rfl | q
  · exact hv
  · exact h u q
theorem clampI {i : Int} (h : r32 i) (h0 : 0 ≤ i) : (Int32.ofInt i).toNatClampNeg = i.toNat := by
  show (Int32.ofInt i).toInt.toNat = _
  rw [of32 h]
theorem inI {i : Int} {n : Nat} {c : Nat} (h : r32 i) (h0 : 0 ≤ i) (h1 : i < n) (hc : n ≤ c) : ¬ (Int32.ofInt i < 0 ∨ c ≤ (Int32.ofInt i).toNatClampNeg) := by
  rw [clampI h h0]
  rintro (q | q)
  · have := (lt32 h (y := 0) (by unfold r32; omega)).mp q
    omega
  · omega
section SND
variable {p : Program} {l : Launch} {e : Env} {R : Room} {s : State} {m : MethodId} {args : Array Value} {below : List Frame} {meth : Method} {c : Code} {G : GE} {w : WC} {mi : Nat} {Q : State → Prop} {n0 s0 : Nat} {SF : AH} {F : Int × AH} {pc len : Nat} {ls : LV} {st : List TV} {S : AH} {k : KT}
theorem PP.stk {pc' : Nat} {st' : List TV} (h : PP p l e R s m args below meth c G w mi Q n0 s0 SF pc' ls st' S) (hok : (∀ v ∈ st, okv v) → ∀ v ∈ st', okv v) (hrow : ∀ (H : Heap) (locs : List Loc) (cells slots : Nat) (lsC : Array Slot), (∀ v ∈ st, okv v) → W p l e R s m args below meth c H locs cells slots Q (F0 m pc' lsC (st'.map (rep G))) → W p l e R s m args below meth c H locs cells slots Q (F0 m pc lsC (st.map (rep G)))) : PP p l e R s m args below meth c G w mi Q n0 s0 SF pc ls st S :=
  ⟨h.1, fun H locs lsC hR hS hL hv hn hs => hrow _ _ _ _ _ hv (h.2 H locs lsC hR hS hL (hok hv) hn hs)⟩
theorem s_bin {f : Int → Int → Int} {g : Int32 → Int32 → Int32} (hfg : ∀ x y, r32 x → r32 y → Int32.ofInt (f x y) = g (Int32.ofInt x) (Int32.ofInt y)) (hr : ∀ x y, r32 x → r32 y → r32 (f x y))
    (row : ∀ (H : Heap) (locs : List Loc) (cells slots : Nat) (lsC : Array Slot) (x y : Int32) (rest : List Value), W p l e R s m args below meth c H locs cells slots Q (F0 m (pc + len) lsC (.int (g x y) :: rest)) → W p l e R s m args below meth c H locs cells slots Q (F0 m pc lsC (.int y :: .int x :: rest)))
    (h : bin f ls st S k = some F) (hk : ∀ ls' st' S', k ls' st' S' = some F → PP p l e R s m args below meth c G w mi Q n0 s0 SF (pc + len) ls' st' S') : PP p l e R s m args below meth c G w mi Q n0 s0 SF pc ls st S := by
  unfold bin at h
  split at h
  · rename_i y x r
    refine (hk _ _ _ h).stk (fun hv => ?_) (fun H locs cells slots lsC hv q => ?_)
    · obtain ⟨h1, hv⟩ := ok_cons hv
      obtain ⟨h2, hv⟩ := ok_cons hv
      exact cons_ok (hr _ _ h2 h1) hv
    · obtain ⟨h1, hv⟩ := ok_cons hv
      obtain ⟨h2, hv⟩ := ok_cons hv
      refine row _ _ _ _ _ _ _ _ ?_
      rw [← hfg _ _ h2 h1]
      exact q
  · cases h
theorem s_binL {f : Int → Int → Int} {g : Int64 → Int64 → Int64} (hfg : ∀ x y, r64 x → r64 y → Int64.ofInt (f x y) = g (Int64.ofInt x) (Int64.ofInt y)) (hr : ∀ x y, r64 x → r64 y → r64 (f x y))
    (row : ∀ (H : Heap) (locs : List Loc) (cells slots : Nat) (lsC : Array Slot) (x y : Int64) (rest : List Value), W p l e R s m args below meth c H locs cells slots Q (F0 m (pc + len) lsC (.long (g x y) :: rest)) → W p l e R s m args below meth c H locs cells slots Q (F0 m pc lsC (.long y :: .long x :: rest)))
    (h : binL f ls st S k = some F) (hk : ∀ ls' st' S', k ls' st' S' = some F → PP p l e R s m args below meth c G w mi Q n0 s0 SF (pc + len) ls' st' S') : PP p l e R s m args below meth c G w mi Q n0 s0 SF pc ls st S := by
  unfold binL at h
  split at h
  · rename_i y x r
    refine (hk _ _ _ h).stk (fun hv => ?_) (fun H locs cells slots lsC hv q => ?_)
    · obtain ⟨h1, hv⟩ := ok_cons hv
      obtain ⟨h2, hv⟩ := ok_cons hv
      exact cons_ok (hr _ _ h2 h1) hv
    · obtain ⟨h1, hv⟩ := ok_cons hv
      obtain ⟨h2, hv⟩ := ok_cons hv
      refine row _ _ _ _ _ _ _ _ ?_
      rw [← hfg _ _ h2 h1]
      exact q
  · cases h
theorem s_shL {f : Int → Int → Int} {g : Int64 → Int32 → Int64} (hfg : ∀ x y, r64 x → r32 y → Int64.ofInt (f x y) = g (Int64.ofInt x) (Int32.ofInt y)) (hr : ∀ x y, r64 x → r32 y → r64 (f x y))
    (row : ∀ (H : Heap) (locs : List Loc) (cells slots : Nat) (lsC : Array Slot) (x : Int64) (y : Int32) (rest : List Value), W p l e R s m args below meth c H locs cells slots Q (F0 m (pc + len) lsC (.long (g x y) :: rest)) → W p l e R s m args below meth c H locs cells slots Q (F0 m pc lsC (.int y :: .long x :: rest)))
    (h : shL f ls st S k = some F) (hk : ∀ ls' st' S', k ls' st' S' = some F → PP p l e R s m args below meth c G w mi Q n0 s0 SF (pc + len) ls' st' S') : PP p l e R s m args below meth c G w mi Q n0 s0 SF pc ls st S := by
  unfold shL at h
  split at h
  · rename_i y x r
    refine (hk _ _ _ h).stk (fun hv => ?_) (fun H locs cells slots lsC hv q => ?_)
    · obtain ⟨h1, hv⟩ := ok_cons hv
      obtain ⟨h2, hv⟩ := ok_cons hv
      exact cons_ok (hr _ _ h2 h1) hv
    · obtain ⟨h1, hv⟩ := ok_cons hv
      obtain ⟨h2, hv⟩ := ok_cons hv
      refine row _ _ _ _ _ _ _ _ ?_
      rw [← hfg _ _ h2 h1]
      exact q
  · cases h
theorem s_dvI {f : Int → Int → Int} {g : Int32 → Int32 → Int32} (hfg : ∀ x y, r32 x → r32 y → y ≠ 0 → Int32.ofInt (f x y) = g (Int32.ofInt x) (Int32.ofInt y)) (hr : ∀ x y, r32 x → r32 y → y ≠ 0 → r32 (f x y))
    (row : ∀ (H : Heap) (locs : List Loc) (cells slots : Nat) (lsC : Array Slot) (x y : Int32) (rest : List Value), ¬ y = 0 → W p l e R s m args below meth c H locs cells slots Q (F0 m (pc + len) lsC (.int (g x y) :: rest)) → W p l e R s m args below meth c H locs cells slots Q (F0 m pc lsC (.int y :: .int x :: rest)))
    (h : dvI f ls st S k = some F) (hk : ∀ ls' st' S', k ls' st' S' = some F → PP p l e R s m args below meth c G w mi Q n0 s0 SF (pc + len) ls' st' S') : PP p l e R s m args below meth c G w mi Q n0 s0 SF pc ls st S := by
  unfold dvI at h
  split at h
  · rename_i y x r
    split at h
    · cases h
    · rename_i h0
      refine (hk _ _ _ h).stk (fun hv => ?_) (fun H locs cells slots lsC hv q => ?_)
      · obtain ⟨h1, hv⟩ := ok_cons hv
        obtain ⟨h2, hv⟩ := ok_cons hv
        exact cons_ok (hr _ _ h2 h1 h0) hv
      · obtain ⟨h1, hv⟩ := ok_cons hv
        obtain ⟨h2, hv⟩ := ok_cons hv
        refine row _ _ _ _ _ _ _ _ (fun q => h0 ((zero32 h1).mp q)) ?_
        rw [← hfg _ _ h2 h1 h0]
        exact q
  · cases h
theorem s_dvL {f : Int → Int → Int} {g : Int64 → Int64 → Int64} (hfg : ∀ x y, r64 x → r64 y → y ≠ 0 → Int64.ofInt (f x y) = g (Int64.ofInt x) (Int64.ofInt y)) (hr : ∀ x y, r64 x → r64 y → y ≠ 0 → r64 (f x y))
    (row : ∀ (H : Heap) (locs : List Loc) (cells slots : Nat) (lsC : Array Slot) (x y : Int64) (rest : List Value), ¬ y = 0 → W p l e R s m args below meth c H locs cells slots Q (F0 m (pc + len) lsC (.long (g x y) :: rest)) → W p l e R s m args below meth c H locs cells slots Q (F0 m pc lsC (.long y :: .long x :: rest)))
    (h : dvL f ls st S k = some F) (hk : ∀ ls' st' S', k ls' st' S' = some F → PP p l e R s m args below meth c G w mi Q n0 s0 SF (pc + len) ls' st' S') : PP p l e R s m args below meth c G w mi Q n0 s0 SF pc ls st S := by
  unfold dvL at h
  split at h
  · rename_i y x r
    split at h
    · cases h
    · rename_i h0
      refine (hk _ _ _ h).stk (fun hv => ?_) (fun H locs cells slots lsC hv q => ?_)
      · obtain ⟨h1, hv⟩ := ok_cons hv
        obtain ⟨h2, hv⟩ := ok_cons hv
        exact cons_ok (hr _ _ h2 h1 h0) hv
      · obtain ⟨h1, hv⟩ := ok_cons hv
        obtain ⟨h2, hv⟩ := ok_cons hv
        refine row _ _ _ _ _ _ _ _ (fun q => h0 ((zero64 h1).mp q)) ?_
        rw [← hfg _ _ h2 h1 h0]
        exact q
  · cases h
theorem s_una {f : Int → Int} {g : Int32 → Int32} (hfg : ∀ x, r32 x → Int32.ofInt (f x) = g (Int32.ofInt x)) (hr : ∀ x, r32 x → r32 (f x))
    (row : ∀ (H : Heap) (locs : List Loc) (cells slots : Nat) (lsC : Array Slot) (x : Int32) (rest : List Value), W p l e R s m args below meth c H locs cells slots Q (F0 m (pc + len) lsC (.int (g x) :: rest)) → W p l e R s m args below meth c H locs cells slots Q (F0 m pc lsC (.int x :: rest)))
    (h : una f ls st S k = some F) (hk : ∀ ls' st' S', k ls' st' S' = some F → PP p l e R s m args below meth c G w mi Q n0 s0 SF (pc + len) ls' st' S') : PP p l e R s m args below meth c G w mi Q n0 s0 SF pc ls st S := by
  unfold una at h
  split at h
  · rename_i x r
    refine (hk _ _ _ h).stk (fun hv => ?_) (fun H locs cells slots lsC hv q => ?_)
    · obtain ⟨h1, hv⟩ := ok_cons hv
      exact cons_ok (hr _ h1) hv
    · obtain ⟨h1, hv⟩ := ok_cons hv
      refine row _ _ _ _ _ _ _ ?_
      rw [← hfg _ h1]
      exact q
  · cases h
theorem s_push {v : TV} (hv : okv v) (row : ∀ (H : Heap) (locs : List Loc) (cells slots : Nat) (lsC : Array Slot) (rest : List Value), W p l e R s m args below meth c H locs cells slots Q (F0 m (pc + len) lsC (rep G v :: rest)) → W p l e R s m args below meth c H locs cells slots Q (F0 m pc lsC rest)) (h : PP p l e R s m args below meth c G w mi Q n0 s0 SF (pc + len) ls (v :: st) S) : PP p l e R s m args below meth c G w mi Q n0 s0 SF pc ls st S :=
  h.stk (fun q => cons_ok hv q) (fun H locs cells slots lsC _ q => row _ _ _ _ _ _ q)
theorem s_loadI {j : Nat} (row : ∀ (H : Heap) (locs : List Loc) (cells slots : Nat) (lsC : Array Slot) (rest : List Value) (x : Int32), lsC[j]? = some (.val (.int x)) → W p l e R s m args below meth c H locs cells slots Q (F0 m (pc + len) lsC (.int x :: rest)) → W p l e R s m args below meth c H locs cells slots Q (F0 m pc lsC rest))
    (h : loadI ls j st S k = some F) (hk : ∀ ls' st' S', k ls' st' S' = some F → PP p l e R s m args below meth c G w mi Q n0 s0 SF (pc + len) ls' st' S') : PP p l e R s m args below meth c G w mi Q n0 s0 SF pc ls st S := by
  unfold loadI at h
  split at h
  · rename_i x hq
    have h1 := hk _ _ _ h
    exact ⟨h1.1, fun H locs lsC hR hS hL hv hn hs => row _ _ _ _ _ _ _ (hL.at hq) (h1.2 H locs lsC hR hS hL (cons_ok (hL.2.2.2 _ _ hq).2 hv) hn hs)⟩
  · cases h
theorem s_loadL {j : Nat} (row : ∀ (H : Heap) (locs : List Loc) (cells slots : Nat) (lsC : Array Slot) (rest : List Value) (x : Int64), lsC[j]? = some (.val (.long x)) → W p l e R s m args below meth c H locs cells slots Q (F0 m (pc + len) lsC (.long x :: rest)) → W p l e R s m args below meth c H locs cells slots Q (F0 m pc lsC rest))
    (h : loadL ls j st S k = some F) (hk : ∀ ls' st' S', k ls' st' S' = some F → PP p l e R s m args below meth c G w mi Q n0 s0 SF (pc + len) ls' st' S') : PP p l e R s m args below meth c G w mi Q n0 s0 SF pc ls st S := by
  unfold loadL at h
  split at h
  · rename_i x hq
    have h1 := hk _ _ _ h
    exact ⟨h1.1, fun H locs lsC hR hS hL hv hn hs => row _ _ _ _ _ _ _ (hL.at hq) (h1.2 H locs lsC hR hS hL (cons_ok (hL.2.2.2 _ _ hq).2 hv) hn hs)⟩
  · cases h
theorem s_loadA {j : Nat} (hG : gVok G) (rowR : ∀ (H : Heap) (locs : List Loc) (cells slots : Nat) (lsC : Array Slot) (rest : List Value) (x : Nat), lsC[j]? = some (.val (.ref x)) → W p l e R s m args below meth c H locs cells slots Q (F0 m (pc + len) lsC (.ref x :: rest)) → W p l e R s m args below meth c H locs cells slots Q (F0 m pc lsC rest))
    (rowN : ∀ (H : Heap) (locs : List Loc) (cells slots : Nat) (lsC : Array Slot) (rest : List Value), lsC[j]? = some (.val .null) → W p l e R s m args below meth c H locs cells slots Q (F0 m (pc + len) lsC (.null :: rest)) → W p l e R s m args below meth c H locs cells slots Q (F0 m pc lsC rest))
    (h : loadA ls j st S k = some F) (hk : ∀ ls' st' S', k ls' st' S' = some F → PP p l e R s m args below meth c G w mi Q n0 s0 SF (pc + len) ls' st' S') : PP p l e R s m args below meth c G w mi Q n0 s0 SF pc ls st S := by
  unfold loadA at h
  split at h
  · rename_i x hq
    have h1 := hk _ _ _ h
    refine ⟨h1.1, fun H locs lsC hR hS hL hv hn hs => ?_⟩
    have h2 := h1.2 H locs lsC hR hS hL (cons_ok (hL.2.2.2 _ _ hq).2 hv) hn hs
    have h3 := hL.at hq
    rw [List.map_cons] at h2
    rcases rf_cases hG x with z | ⟨t, z⟩
    · have z' : rep G (.inr (.inr x)) = .null := z
      rw [z'] at h2 h3
      exact rowN _ _ _ _ _ _ h3 h2
    · have z' : rep G (.inr (.inr x)) = .ref t := z
      rw [z'] at h2 h3
      exact rowR _ _ _ _ _ _ _ h3 h2
  · cases h
theorem s_stoI {j : Nat} (hG : gVok G) (row : ∀ (H : Heap) (locs : List Loc) (cells slots : Nat) (lsC : Array Slot) (lv : List (Nat × Value)) (x : Int32) (rest : List Value), lv_has lsC (mlOf mi) lv → j < mlOf mi → (∀ ls' : Array Slot, lv_has ls' (mlOf mi) ((j, .int x) :: lv.filter (fun q => !(q.1 == j) && !(q.1 + 1 == j && q.2.category == 2))) → W p l e R s m args below meth c H locs cells slots Q (F0 m (pc + len) ls' rest)) → W p l e R s m args below meth c H locs cells slots Q (F0 m pc lsC (.int x :: rest)))
    (h : stoI ls j st S k = some F) (hk : ∀ ls' st' S', k ls' st' S' = some F → PP p l e R s m args below meth c G w mi Q n0 s0 SF (pc + len) ls' st' S') : PP p l e R s m args below meth c G w mi Q n0 s0 SF pc ls st S := by
  unfold stoI at h
  split at h
  · rename_i x r
    obtain ⟨hj, ls', h1, hl, hs1⟩ := st1_spec h
    have h2 := hk _ _ _ h1
    refine ⟨h2.1, fun H locs lsC hR hS hL hv hn hs => ?_⟩
    obtain ⟨hx, hv⟩ := ok_cons hv
    exact row _ _ _ _ _ _ _ _ hL.has (by rw [← hL.1]; exact hj) (fun lsC' h' => h2.2 H locs lsC' hR hS (LR.st1 hG hL hx hl hs1 h') hv hn hs)
  · cases h
theorem s_stoL {j : Nat} (hG : gVok G) (row : ∀ (H : Heap) (locs : List Loc) (cells slots : Nat) (lsC : Array Slot) (lv : List (Nat × Value)) (x : Int64) (rest : List Value), lv_has lsC (mlOf mi) lv → j + 1 < mlOf mi → (∀ ls' : Array Slot, lv_has ls' (mlOf mi) ((j, .long x) :: lv.filter (fun q => !(q.1 == j) && (!(q.1 == j + 1) && !(q.1 + 1 == j && q.2.category == 2)))) → W p l e R s m args below meth c H locs cells slots Q (F0 m (pc + len) ls' rest)) → W p l e R s m args below meth c H locs cells slots Q (F0 m pc lsC (.long x :: rest)))
    (h : stoL ls j st S k = some F) (hk : ∀ ls' st' S', k ls' st' S' = some F → PP p l e R s m args below meth c G w mi Q n0 s0 SF (pc + len) ls' st' S') : PP p l e R s m args below meth c G w mi Q n0 s0 SF pc ls st S := by
  unfold stoL at h
  split at h
  · rename_i x r
    obtain ⟨hj, ls', h1, hl, hs1⟩ := st2_spec h
    have h2 := hk _ _ _ h1
    refine ⟨h2.1, fun H locs lsC hR hS hL hv hn hs => ?_⟩
    obtain ⟨hx, hv⟩ := ok_cons hv
    exact row _ _ _ _ _ _ _ _ hL.has (by rw [← hL.1]; exact hj) (fun lsC' h' => h2.2 H locs lsC' hR hS (LR.st2 hG hL hx hl hs1 h') hv hn hs)
  · cases h
theorem s_stoA {j : Nat} (hG : gVok G) (rowR : ∀ (H : Heap) (locs : List Loc) (cells slots : Nat) (lsC : Array Slot) (lv : List (Nat × Value)) (x : Nat) (rest : List Value), lv_has lsC (mlOf mi) lv → j < mlOf mi → (∀ ls' : Array Slot, lv_has ls' (mlOf mi) ((j, .ref x) :: lv.filter (fun q => !(q.1 == j) && !(q.1 + 1 == j && q.2.category == 2))) → W p l e R s m args below meth c H locs cells slots Q (F0 m (pc + len) ls' rest)) → W p l e R s m args below meth c H locs cells slots Q (F0 m pc lsC (.ref x :: rest)))
    (rowN : ∀ (H : Heap) (locs : List Loc) (cells slots : Nat) (lsC : Array Slot) (lv : List (Nat × Value)) (rest : List Value), lv_has lsC (mlOf mi) lv → j < mlOf mi → (∀ ls' : Array Slot, lv_has ls' (mlOf mi) ((j, .null) :: lv.filter (fun q => !(q.1 == j) && !(q.1 + 1 == j && q.2.category == 2))) → W p l e R s m args below meth c H locs cells slots Q (F0 m (pc + len) ls' rest)) → W p l e R s m args below meth c H locs cells slots Q (F0 m pc lsC (.null :: rest)))
    (h : stoA ls j st S k = some F) (hk : ∀ ls' st' S', k ls' st' S' = some F → PP p l e R s m args below meth c G w mi Q n0 s0 SF (pc + len) ls' st' S') : PP p l e R s m args below meth c G w mi Q n0 s0 SF pc ls st S := by
  unfold stoA at h
  split at h
  · rename_i x r
    obtain ⟨hj, ls', h1, hl, hs1⟩ := st1_spec h
    have h2 := hk _ _ _ h1
    refine ⟨h2.1, fun H locs lsC hR hS hL hv hn hs => ?_⟩
    obtain ⟨hx, hv⟩ := ok_cons hv
    have key : ∀ lsC', lv_has lsC' (mlOf mi) ((j, rep G (vr x)) :: (lvp G ls).filter (fun q => !(q.1 == j) && !(q.1 + 1 == j && q.2.category == 2))) → W p l e R s m args below meth c H locs (S.1.1 - n0) (S.1.2.1 - s0) Q (F0 m (pc + len) lsC' (r.map (rep G))) := fun lsC' h' => h2.2 H locs lsC' hR hS (LR.st1 hG hL hx hl hs1 h') hv hn hs
    rw [List.map_cons]
    rcases rf_cases hG x with z | ⟨t, z⟩
    · have z' : rep G (.inr (.inr x)) = .null := z
      have z2 : rep G (vr x) = .null := z
      rw [z2] at key
      rw [z']
      exact rowN _ _ _ _ _ _ _ hL.has (by rw [← hL.1]; exact hj) key
    · have z' : rep G (.inr (.inr x)) = .ref t := z
      have z2 : rep G (vr x) = .ref t := z
      rw [z2] at key
      rw [z']
      exact rowR _ _ _ _ _ _ _ _ hL.has (by rw [← hL.1]; exact hj) key
  · cases h
/-! arrays -/
theorem s_aldI (hc : CX G p s m meth c mi) (hw : OKW G w) (hd : decode (byo mi) pc = .ok (.iaload, 1)) (h : ald w 2 ls st S k = some F) (hk : ∀ ls' st' S', k ls' st' S' = some F → PP p l e R s m args below meth c G w mi Q n0 s0 SF (pc + 1) ls' st' S') : PP p l e R s m args below meth c G w mi Q n0 s0 SF pc ls st S := by
  unfold ald at h
  split at h
  · rename_i i a r
    obtain ⟨hb, h⟩ := gd_some h
    have hb := Nat.eq_of_beq_eq_true hb
    split at h
    · rename_i hi
      have h1 := hk _ _ _ h
      refine ⟨h1.1, fun H locs lsC hR hS hL hv hn hs => ?_⟩
      obtain ⟨v1, hv⟩ := ok_cons hv
      obtain ⟨-, hv⟩ := ok_cons hv
      obtain ⟨e1, e2, cell, c1, c2, c3, c4, c5, c6⟩ := arr_at hw hc.2.2.2.2.2.1 hS hR (a := a) (t := 2) (n := (shp w S a).2) (by rw [← hb]) (by decide)
      have hx := c6 i.toNat (by first | decide | omega)
      show W p l e R s m args below meth c _ _ _ _ _ (F0 m pc lsC (.int (Int32.ofInt i) :: rf G a :: r.map (rep G)))
      rw [e1]
      exact W.iald hc.1 hc.2.1 c1 c2 c3 (inI v1 hi.1 hi.2 c4) (by rw [clampI v1 hi.1]; exact hx.1) rfl rfl hd (h1.2 H locs lsC hR hS hL (cons_ok (okv_mkv hx.2) hv) hn hs)
    · cases h
  · cases h
theorem s_aldL (hc : CX G p s m meth c mi) (hw : OKW G w) (hd : decode (byo mi) pc = .ok (.laload, 1)) (h : ald w 3 ls st S k = some F) (hk : ∀ ls' st' S', k ls' st' S' = some F → PP p l e R s m args below meth c G w mi Q n0 s0 SF (pc + 1) ls' st' S') : PP p l e R s m args below meth c G w mi Q n0 s0 SF pc ls st S := by
  unfold ald at h
  split at h
  · rename_i i a r
    obtain ⟨hb, h⟩ := gd_some h
    have hb := Nat.eq_of_beq_eq_true hb
    split at h
    · rename_i hi
      have h1 := hk _ _ _ h
      refine ⟨h1.1, fun H locs lsC hR hS hL hv hn hs => ?_⟩
      obtain ⟨v1, hv⟩ := ok_cons hv
      obtain ⟨-, hv⟩ := ok_cons hv
      obtain ⟨e1, e2, cell, c1, c2, c3, c4, c5, c6⟩ := arr_at hw hc.2.2.2.2.2.1 hS hR (a := a) (t := 3) (n := (shp w S a).2) (by rw [← hb]) (by decide)
      have hx := c6 i.toNat (by first | decide | omega)
      show W p l e R s m args below meth c _ _ _ _ _ (F0 m pc lsC (.int (Int32.ofInt i) :: rf G a :: r.map (rep G)))
      rw [e1]
      exact W.lald hc.1 hc.2.1 c1 c2 c3 (inI v1 hi.1 hi.2 c4) (by rw [clampI v1 hi.1]; exact hx.1) rfl rfl hd (h1.2 H locs lsC hR hS hL (cons_ok (okv_mkv hx.2) hv) hn hs)
    · cases h
  · cases h
theorem s_aldB (hc : CX G p s m meth c mi) (hw : OKW G w) (hd : decode (byo mi) pc = .ok (.baload, 1)) (h : aldB w ls st S k = some F) (hk : ∀ ls' st' S', k ls' st' S' = some F → PP p l e R s m args below meth c G w mi Q n0 s0 SF (pc + 1) ls' st' S') : PP p l e R s m args below meth c G w mi Q n0 s0 SF pc ls st S := by
  unfold aldB at h
  split at h
  · rename_i i a r
    obtain ⟨hb, h⟩ := gd_some h
    have hb := Nat.le_of_ble_eq_true hb
    split at h
    · rename_i hi
      have h1 := hk _ _ _ h
      refine ⟨h1.1, fun H locs lsC hR hS hL hv hn hs => ?_⟩
      obtain ⟨v1, hv⟩ := ok_cons hv
      obtain ⟨-, hv⟩ := ok_cons hv
      obtain ⟨e1, e2, cell, c1, c2, c3, c4, c5, c6⟩ := arr_at hw hc.2.2.2.2.2.1 hS hR (a := a) (t := (shp w S a).1) (n := (shp w S a).2) rfl (by first | decide | omega)
      have hx := c6 i.toNat (by first | decide | omega)
      show W p l e R s m args below meth c _ _ _ _ _ (F0 m pc lsC (.int (Int32.ofInt i) :: rf G a :: r.map (rep G)))
      rw [e1]
      rcases (show (shp w S a).1 = 0 ∨ (shp w S a).1 = 1 by omega) with q | q
      · rw [q] at c2 hx
        exact W.bald hc.1 hc.2.1 c1 c2 c3 (inI v1 hi.1 hi.2 c4) (by rw [clampI v1 hi.1]; exact hx.1) rfl rfl hd (h1.2 H locs lsC hR hS hL (cons_ok (okv_mkv hx.2) hv) hn hs)
      · rw [q] at c2 hx
        exact W.zald hc.1 hc.2.1 c1 c2 c3 (inI v1 hi.1 hi.2 c4) (by rw [clampI v1 hi.1]; exact hx.1) rfl rfl hd (h1.2 H locs lsC hR hS hL (cons_ok (okv_mkv hx.2) hv) hn hs)
    · cases h
  · cases h
theorem s_aldA (hc : CX G p s m meth c mi) (hw : OKW G w) (hd : decode (byo mi) pc = .ok (.aaload, 1)) (h : aldA w ls st S k = some F) (hk : ∀ ls' st' S', k ls' st' S' = some F → PP p l e R s m args below meth c G w mi Q n0 s0 SF (pc + 1) ls' st' S') : PP p l e R s m args below meth c G w mi Q n0 s0 SF pc ls st S := by
  unfold aldA at h
  split at h
  · rename_i i a r
    obtain ⟨hb, h⟩ := gd_some h
    rw [Bool.and_eq_true] at hb
    have hb1 := Nat.le_of_ble_eq_true hb.1
    have hb2 := Nat.le_of_ble_eq_true hb.2
    split at h
    · rename_i hi
      have h1 := hk _ _ _ h
      refine ⟨h1.1, fun H locs lsC hR hS hL hv hn hs => ?_⟩
      obtain ⟨v1, hv⟩ := ok_cons hv
      obtain ⟨-, hv⟩ := ok_cons hv
      obtain ⟨e1, e2, cell, c1, c2, c3, c4, c5, c6⟩ := arr_at hw hc.2.2.2.2.2.1 hS hR (a := a) (t := (shp w S a).1) (n := (shp w S a).2) rfl (by first | decide | omega)
      have hx := c6 i.toNat (by first | decide | omega)
      have ha : arC (shp w S a).1 = 2 := by
        rcases (show (shp w S a).1 = 4 ∨ (shp w S a).1 = 5 ∨ (shp w S a).1 = 6 by omega) with q | q | q <;> rw [q] <;> rfl
      have ht : (ety (shp w S a).1).isReference = true := by
        rcases (show (shp w S a).1 = 4 ∨ (shp w S a).1 = 5 ∨ (shp w S a).1 = 6 by omega) with q | q | q <;> rw [q] <;> rfl
      rw [ha] at hx
      show W p l e R s m args below meth c _ _ _ _ _ (F0 m pc lsC (.int (Int32.ofInt i) :: rf G a :: r.map (rep G)))
      rw [e1]
      exact W.aald hc.1 hc.2.1 c1 c2 ht c3 (inI v1 hi.1 hi.2 c4) (by rw [clampI v1 hi.1]; exact hx.1) rfl rfl hd (h1.2 H locs lsC hR hS hL (cons_ok (okv_mkv hx.2) hv) hn hs)
    · cases h
  · cases h
theorem s_alen (hc : CX G p s m meth c mi) (hw : OKW G w) (hd : decode (byo mi) pc = .ok (.arraylength, 1)) (h : alen w ls st S k = some F) (hk : ∀ ls' st' S', k ls' st' S' = some F → PP p l e R s m args below meth c G w mi Q n0 s0 SF (pc + 1) ls' st' S') : PP p l e R s m args below meth c G w mi Q n0 s0 SF pc ls st S := by
  unfold alen at h
  split at h
  · rename_i a r
    obtain ⟨hb, h⟩ := gd_some h
    have hb := Nat.le_of_ble_eq_true hb
    have h1 := hk _ _ _ h
    refine ⟨h1.1, fun H locs lsC hR hS hL hv hn hs => ?_⟩
    obtain ⟨-, hv⟩ := ok_cons hv
    obtain ⟨e1, e2, cell, c1, c2, c3, c4, c5, c6⟩ := arr_at hw hc.2.2.2.2.2.1 hS hR (a := a) (t := (shp w S a).1) (n := (shp w S a).2) rfl (by first | decide | omega)
    show W p l e R s m args below meth c _ _ _ _ _ (F0 m pc lsC (rf G a :: r.map (rep G)))
    rw [e1]
    refine W.alen (n := Int32.ofInt ((shp w S a).2 : Int)) hc.1 hc.2.1 c1 c2 ?_ rfl rfl hd (h1.2 H locs lsC hR hS hL (cons_ok ?_ hv) hn hs)
    · rw [c5]
      exact (Int32.ofInt_eq_ofNat).symm
    · show r32 _
      unfold r32
      omega
  · cases h
/-- the cell of an array of ours -/
theorem own_arr (hw : OKW G w) {H : Heap} (hR : Rel G w S H) {a : Nat} (hf : wokF w a = true) (ht : (shp w S a).1 < 7) : 15 ≤ a ∧ H[gad G a]? = some (arrV (gA G (shp w S a).1) (shp w S a).2 (fun j => rep G (mkv (arC (shp w S a).1) (rdv w S a j)))) := by
  obtain ⟨h15, -⟩ := wokF_none hw hf
  exact ⟨h15, ((hR.2.2.2.2 a h15 (hR.lt (by first | decide | omega))).1 ht).1⟩
theorem s_astI (hc : CX G p s m meth c mi) (hw : OKW G w) (hd : decode (byo mi) pc = .ok (.iastore, 1)) (h : astI w ls st S k = some F) (hk : ∀ ls' st' S', k ls' st' S' = some F → PP p l e R s m args below meth c G w mi Q n0 s0 SF (pc + 1) ls' st' S') : PP p l e R s m args below meth c G w mi Q n0 s0 SF pc ls st S := by
  unfold astI at h
  split at h
  · rename_i x i a r
    obtain ⟨hb, h⟩ := gd_some h
    rw [Bool.and_eq_true] at hb
    have hb1 := Nat.eq_of_beq_eq_true hb.1
    split at h
    · rename_i hi
      have h1 := hk _ _ _ h
      refine ⟨h1.1, fun H locs lsC hR hS hL hv hn hs => ?_⟩
      obtain ⟨v0, hv⟩ := ok_cons hv
      obtain ⟨v1, hv⟩ := ok_cons hv
      obtain ⟨-, hv⟩ := ok_cons hv
      obtain ⟨h15, hcell⟩ := own_arr hw hR hb.2 (by first | decide | omega)
      rw [hb1] at hcell
      have hsz : (arrV (gA G 2) (shp w S a).2 (fun j => rep G (mkv (arC 2) (rdv w S a j)))).slots.size = (shp w S a).2 := arrV_size _ _ _
      show W p l e R s m args below meth c _ _ _ _ _ (F0 m pc lsC (.int (Int32.ofInt x) :: .int (Int32.ofInt i) :: rf G a :: r.map (rep G)))
      rw [rf_own h15]
      refine W.iast hc.1 hc.2.1 hcell ((hc.2.2.2.2.2.1.2.2.1 2 (by decide)).1 _ _) (fun q => by cases q) (inI v1 hi.1 hi.2 (by rw [hsz]; exact Nat.le_refl _)) rfl rfl hd (fun H' e1 e2 e3 => ?_)
      rw [clampI v1 hi.1] at e1 ⊢
      exact h1.2 H' _ lsC (Rel.ast hw hR (t := 2) (n := (shp w S a).2) (by rw [← hb1]) (by decide) hb.2 v0 e2 e3 e1) (hS.put e2 e3 (gad_A h15)) hL hv hn hs
    · cases h
  · cases h
theorem s_astL (hc : CX G p s m meth c mi) (hw : OKW G w) (hd : decode (byo mi) pc = .ok (.lastore, 1)) (h : astL w ls st S k = some F) (hk : ∀ ls' st' S', k ls' st' S' = some F → PP p l e R s m args below meth c G w mi Q n0 s0 SF (pc + 1) ls' st' S') : PP p l e R s m args below meth c G w mi Q n0 s0 SF pc ls st S := by
  unfold astL at h
  split at h
  · rename_i x i a r
    obtain ⟨hb, h⟩ := gd_some h
    rw [Bool.and_eq_true] at hb
    have hb1 := Nat.eq_of_beq_eq_true hb.1
    split at h
    · rename_i hi
      have h1 := hk _ _ _ h
      refine ⟨h1.1, fun H locs lsC hR hS hL hv hn hs => ?_⟩
      obtain ⟨v0, hv⟩ := ok_cons hv
      obtain ⟨v1, hv⟩ := ok_cons hv
      obtain ⟨-, hv⟩ := ok_cons hv
      obtain ⟨h15, hcell⟩ := own_arr hw hR hb.2 (by first | decide | omega)
      rw [hb1] at hcell
      have hsz : (arrV (gA G 3) (shp w S a).2 (fun j => rep G (mkv (arC 3) (rdv w S a j)))).slots.size = (shp w S a).2 := arrV_size _ _ _
      show W p l e R s m args below meth c _ _ _ _ _ (F0 m pc lsC (.long (Int64.ofInt x) :: .int (Int32.ofInt i) :: rf G a :: r.map (rep G)))
      rw [rf_own h15]
      refine W.last hc.1 hc.2.1 hcell ((hc.2.2.2.2.2.1.2.2.1 3 (by decide)).1 _ _) (fun q => by cases q) (inI v1 hi.1 hi.2 (by rw [hsz]; exact Nat.le_refl _)) rfl rfl hd (fun H' e1 e2 e3 => ?_)
      rw [clampI v1 hi.1] at e1 ⊢
      exact h1.2 H' _ lsC (Rel.ast hw hR (t := 3) (n := (shp w S a).2) (by rw [← hb1]) (by decide) hb.2 v0 e2 e3 e1) (hS.put e2 e3 (gad_A h15)) hL hv hn hs
    · cases h
  · cases h
theorem s_astB (hc : CX G p s m meth c mi) (hw : OKW G w) (hd : decode (byo mi) pc = .ok (.bastore, 1)) (h : astB w ls st S k = some F) (hk : ∀ ls' st' S', k ls' st' S' = some F → PP p l e R s m args below meth c G w mi Q n0 s0 SF (pc + 1) ls' st' S') : PP p l e R s m args below meth c G w mi Q n0 s0 SF pc ls st S := by
  unfold astB at h
  split at h
  · rename_i x i a r
    obtain ⟨hb, h⟩ := gd_some h
    rw [Bool.and_eq_true] at hb
    have hb1 := Nat.le_of_ble_eq_true hb.1
    split at h
    · rename_i hi
      split at h
      · rename_i q0
        have h1 := hk _ _ _ h
        refine ⟨h1.1, fun H locs lsC hR hS hL hv hn hs => ?_⟩
        obtain ⟨v0, hv⟩ := ok_cons hv
        obtain ⟨v1, hv⟩ := ok_cons hv
        obtain ⟨-, hv⟩ := ok_cons hv
        obtain ⟨h15, hcell⟩ := own_arr hw hR hb.2 (by first | decide | omega)
        rw [q0] at hcell
        have hsz : (arrV (gA G 0) (shp w S a).2 (fun j => rep G (mkv (arC 0) (rdv w S a j)))).slots.size = (shp w S a).2 := arrV_size _ _ _
        show W p l e R s m args below meth c _ _ _ _ _ (F0 m pc lsC (.int (Int32.ofInt x) :: .int (Int32.ofInt i) :: rf G a :: r.map (rep G)))
        rw [rf_own h15]
        refine W.bast hc.1 hc.2.1 hcell ((hc.2.2.2.2.2.1.2.2.1 0 (by decide)).1 _ _) (fun q => by cases q) (inI v1 hi.1 hi.2 (by rw [hsz]; exact Nat.le_refl _)) rfl rfl hd (fun H' e1 e2 e3 => ?_)
        rw [clampI v1 hi.1, narrow_byte, ofi_i2b v0] at e1
        rw [clampI v1 hi.1]
        exact h1.2 H' _ lsC (Rel.ast hw hR (t := 0) (n := (shp w S a).2) (by rw [← q0]) (by decide) hb.2 (w8_r x) e2 e3 e1) (hS.put e2 e3 (gad_A h15)) hL hv hn hs
      · rename_i q0
        split at h
        · rename_i hz
          have q2 : (shp w S a).1 ≠ 0 := fun z => q0 z
          have q1 : (shp w S a).1 = 1 := by omega
          have h1 := hk _ _ _ h
          refine ⟨h1.1, fun H locs lsC hR hS hL hv hn hs => ?_⟩
          obtain ⟨v0, hv⟩ := ok_cons hv
          obtain ⟨v1, hv⟩ := ok_cons hv
          obtain ⟨-, hv⟩ := ok_cons hv
          obtain ⟨h15, hcell⟩ := own_arr hw hR hb.2 (by first | decide | omega)
          rw [q1] at hcell
          have hsz : (arrV (gA G 1) (shp w S a).2 (fun j => rep G (mkv (arC 1) (rdv w S a j)))).slots.size = (shp w S a).2 := arrV_size _ _ _
          show W p l e R s m args below meth c _ _ _ _ _ (F0 m pc lsC (.int (Int32.ofInt x) :: .int (Int32.ofInt i) :: rf G a :: r.map (rep G)))
          rw [rf_own h15]
          refine W.zast hc.1 hc.2.1 hcell ((hc.2.2.2.2.2.1.2.2.1 1 (by decide)).1 _ _) (fun q => by cases q) (inI v1 hi.1 hi.2 (by rw [hsz]; exact Nat.le_refl _)) rfl rfl hd (fun H' e1 e2 e3 => ?_)
          have hnar : narrow .boolean (.int (Int32.ofInt x)) = .int (Int32.ofInt x) := by
            rcases hz with rfl | rfl
            · exact narrow_b0
            · exact narrow_b1
          rw [clampI v1 hi.1, hnar] at e1
          rw [clampI v1 hi.1]
          exact h1.2 H' _ lsC (Rel.ast hw hR (t := 1) (n := (shp w S a).2) (by rw [← q1]) (by decide) hb.2 hz e2 e3 e1) (hS.put e2 e3 (gad_A h15)) hL hv hn hs
        · cases h
    · cases h
  · cases h
theorem s_astA (hc : CX G p s m meth c mi) (hw : OKW G w) (hd : decode (byo mi) pc = .ok (.aastore, 1)) (h : astA w ls st S k = some F) (hk : ∀ ls' st' S', k ls' st' S' = some F → PP p l e R s m args below meth c G w mi Q n0 s0 SF (pc + 1) ls' st' S') : PP p l e R s m args below meth c G w mi Q n0 s0 SF pc ls st S := by
  unfold astA at h
  split at h
  · rename_i x i a r
    obtain ⟨hb, h⟩ := gd_some h
    simp only [Bool.and_eq_true] at hb
    obtain ⟨⟨⟨b1, b2⟩, b3⟩, b4⟩ := hb
    have b1 := Nat.le_of_ble_eq_true b1
    have b2 := Nat.le_of_ble_eq_true b2
    have b4 := Nat.eq_of_beq_eq_true b4
    split at h
    · rename_i hi
      have h1 := hk _ _ _ h
      refine ⟨h1.1, fun H locs lsC hR hS hL hv hn hs => ?_⟩
      obtain ⟨v0, hv⟩ := ok_cons hv
      obtain ⟨v1, hv⟩ := ok_cons hv
      obtain ⟨-, hv⟩ := ok_cons hv
      obtain ⟨h15, hcell⟩ := own_arr hw hR b3 (by first | decide | omega)
      have main : ∀ t ci : Nat, (shp w S a).1 = t → t < 7 → ci < 13 → ety t = .object (cnm ci) → elC t = 10 + ci → arC t = 2 → W p l e R s m args below meth c H locs (S.1.1 - n0) (S.1.2.1 - s0) Q (F0 m pc lsC (rf G x :: .int (Int32.ofInt i) :: rf G a :: r.map (rep G))) := by
        intro t ci ht ht7 hci hety hel harc
        rw [ht] at hcell b4
        rw [hel] at b4
        obtain ⟨x15, hob, -⟩ := obj_at hw hR hci b4
        obtain ⟨cv, g1, g2, g3, -⟩ := hob
        have hcls := (hc.2.2.2.2.2.1.2.1 ci hci).2
        have hRA := (hc.2.2.2.2.2.1.2.2.1 t ht7).2
        rw [hety] at hRA
        obtain ⟨kA, comp, k1, k2, k3, -⟩ := hRA
        have hcomp : comp = gC G ci := Option.some.inj (k3.symm.trans hcls.1)
        subst hcomp
        obtain ⟨kC, hkC, -⟩ := hcls.2
        have hsz : (arrV (gA G t) (shp w S a).2 (fun j => rep G (mkv (arC t) (rdv w S a j)))).slots.size = (shp w S a).2 := arrV_size _ _ _
        have hin := inI v1 hi.1 hi.2 (Nat.le_refl (shp w S a).2)
        rw [rf_own h15, rf_own x15]
        refine W.aast hc.1 hc.2.1 hcell (fun q h => by cases h) (fun h => by cases h) k1 k2 rfl hkC ⟨fun q => hin (Or.inl q), by rw [hsz, clampI v1 hi.1]; omega⟩ g1 (fun q h => by rw [g3] at h; cases h) (by rw [g2]; exact hkC) (by rw [g2]; exact va_assign hcls) rfl rfl hd (fun H' e1 e2 e3 => ?_)
        rw [clampI v1 hi.1] at e1 ⊢
        refine h1.2 H' _ lsC (Rel.ast hw hR (t := t) (n := (shp w S a).2) (by rw [← ht]) ht7 b3 (v := (x : Int)) (by rw [harc]; show (0 : Int) ≤ _; omega) e2 e3 ?_) (hS.put e2 e3 (gad_A h15)) hL hv hn hs
        rw [e1, harc]
        congr 2
        show _ = rf G (Int.toNat (x : Int))
        rw [Int.toNat_natCast, rf_own x15]
      rcases (show (shp w S a).1 = 4 ∨ (shp w S a).1 = 5 ∨ (shp w S a).1 = 6 by omega) with q | q | q
      · exact main 4 9 q (by decide) (by decide) (by decide +kernel) rfl rfl
      · exact main 5 1 q (by decide) (by decide) (by decide +kernel) rfl rfl
      · exact main 6 2 q (by decide) (by decide) (by decide +kernel) rfl rfl
    · cases h
  · cases h
end SND
end
section
-- 09f.obj
/-! fields, new cells -/
theorem mtc_eq {a b c d : Nat} (h : mtc a b c d = true) : a = c ∧ b = d := by
  unfold mtc at h
  rw [Bool.and_eq_true] at h
  exact ⟨Nat.eq_of_beq_eq_true h.1, Nat.eq_of_beq_eq_true h.2⟩
theorem store_ok {G : GE} (hG : gVok G) {ty : FieldType} {x : Int} (h5 : fk ty < 5) (hx : okc (fk ty) x) : narrow ty (rep G (mkv (fk ty) x)) = rep G (mkv (fk ty) x) ∧ fits ty (rep G (mkv (fk ty) x)) = true := by
  cases ty with
  | int => exact ⟨rfl, rfl⟩
  | long => exact ⟨rfl, rfl⟩
  | byte =>
    have hx : -128 ≤ x ∧ x ≤ 127 := hx
    have hr : r32 x := by unfold r32; omega
    have hw : w8 x = x := by
      unfold w8 Int.bmod
      dsimp only
      split <;> omega
    refine ⟨?_, ?_⟩
    · show narrow .byte (.int (Int32.ofInt x)) = .int (Int32.ofInt x)
      rw [narrow_byte, ofi_i2b hr, hw]
    · show (decide (-128 ≤ Int32.ofInt x) && decide (Int32.ofInt x ≤ 127)) = true
      have h1 : (-128 : Int32) ≤ Int32.ofInt x := (le32 (x := -128) (by unfold r32; omega) hr).mpr hx.1
      have h2 : Int32.ofInt x ≤ (127 : Int32) := (le32 (y := 127) hr (by unfold r32; omega)).mpr hx.2
      rw [decide_eq_true h1, decide_eq_true h2]
      rfl
  | boolean =>
    have hx : x = 0 ∨ x = 1 := hx
    rcases hx with rfl | rfl
    · exact ⟨narrow_b0, rfl⟩
    · exact ⟨narrow_b1, rfl⟩
  | object n =>
    have h : rep G (mkv (fk (.object n)) x) = rf G x.toNat := rfl
    rw [h]
    rcases rf_cases hG x.toNat with q | ⟨t, q⟩ <;> rw [q] <;> exact ⟨rfl, rfl⟩
  | array n =>
    have h : rep G (mkv (fk (.array n)) x) = rf G x.toNat := rfl
    rw [h]
    rcases rf_cases hG x.toNat with q | ⟨t, q⟩ <;> rw [q] <;> exact ⟨rfl, rfl⟩
  | char => simp [fk] at h5
  | _ => simp [fk] at h5
theorem fkl_link {G : GE} {s : State} {H : Heap} (hE : EN G s H) {args : Array Value} {e : Nat × Nat × Nat × Nat × Nat × Bool} (he : e ∈ fkl) : (e.2.2.2.2.2 = false → (Cond.fieldLink (cnm e.1) e.2.1 (cnm e.2.2.1) (TT e.2.2.1 e.2.2.2.1).2.1 (TT e.2.2.1 e.2.2.2.1).2.2.1).before args s = true) ∧ (e.2.2.2.2.2 = true → (Cond.fieldLinkNest (cnm e.1) e.2.1 (cnm e.2.2.1) (TT e.2.2.1 e.2.2.2.1).2.1 (TT e.2.2.1 e.2.2.2.1).2.2.1 "SupplyBook").before args s = true) := by
  have h := List.all_eq_true.mp fkl_ok e he
  refine ⟨fun q => ?_, fun q => ?_⟩
  · rw [q] at h
    exact onT rfl (hE.word h)
  · rw [q] at h
    exact onT rfl (hE.word h)
noncomputable def inl13 : List (Nat × Nat) := [(1024, 1001), (4028, 1021), (4225, 1022), (1196, 1008), (1238, 1009), (1136, 1006), (2076, 1011), (1032, 1002), (1062, 1003), (1119, 1005), (1161, 1007), (2034, 1010), (7036, 1012)]
theorem inst_all : ((List.range 13).all fun ci => wok1 (inl13.getD ci (0, 0)).1 (.instantiable (cnm ci) (NN ci)) && wok1 (inl13.getD ci (0, 0)).2 (.initialized (cnm ci))) = true := by decide +kernel
theorem inst_ok {ci : Nat} (h : ci < 13) : wok1 (inl13.getD ci (0, 0)).1 (.instantiable (cnm ci) (NN ci)) = true ∧ wok1 (inl13.getD ci (0, 0)).2 (.initialized (cnm ci)) = true := by
  have q := List.all_eq_true.mp inst_all ci (List.mem_range.mpr h)
  rw [Bool.and_eq_true] at q
  exact q
section SND
variable {p : Program} {l : Launch} {e : Env} {R : Room} {s : State} {m : MethodId} {args : Array Value} {below : List Frame} {meth : Method} {c : Code} {G : GE} {w : WC} {mi : Nat} {Q : State → Prop} {n0 s0 : Nat} {SF : AH} {F : Int × AH} {pc len : Nat} {ls : LV} {st : List TV} {S : AH} {k : KT}
theorem s_getF (hc : CX G p s m meth c mi) (hw : OKW G w) {q : Nat} {x : XI} (hd : decode (byo mi) pc = .ok (.getfield q, 3)) (hI : okI (ow mi) (iniM mi) pc (.getfield q) x = true) (h : getF w x ls st S k = some F) (hk : ∀ ls' st' S', k ls' st' S' = some F → PP p l e R s m args below meth c G w mi Q n0 s0 SF (pc + 3) ls' st' S') : PP p l e R s m args below meth c G w mi Q n0 s0 SF pc ls st S := by
  have hE := hc.2.2.2.2.2.1
  unfold getF at h
  split at h
  · rename_i a r
    obtain ⟨hb, h⟩ := gd_some h
    have hb := Nat.eq_of_beq_eq_true hb
    have h1 := hk _ _ _ h
    unfold okI at hI
    dsimp only at hI
    refine ⟨h1.1, fun H locs lsC hR hS hL hva hn hs => ?_⟩
    have hv : ∀ v ∈ r, okv v := (ok_cons hva).2
    clear hva
    show W p l e R s m args below meth c _ _ _ _ _ (F0 m pc lsC (rf G a :: r.map (rep G)))
    cases h13 : Nat.beq x.1 13 with
    | true =>
      rw [h13] at hI
      dsimp only at hI
      have e13 := Nat.eq_of_beq_eq_true h13
      rw [Bool.and_eq_true] at hI
      obtain ⟨he, hx2⟩ := hI
      obtain ⟨en, hen, hm⟩ := List.any_eq_true.mp he
      rw [Bool.and_eq_true] at hm
      obtain ⟨⟨m1, m2⟩, m3⟩ := And.intro (mtc_eq hm.1) (Nat.eq_of_beq_eq_true hm.2)
      obtain ⟨j, hj, rfl⟩ := str_at hw hR (a := a) (by rw [hb, e13])
      obtain ⟨-, -, g1, g2, -⟩ := hE.2.2.2.2.2.1 j hj
      have hl := hE.word (List.all_eq_true.mp skl_ok en hen)
      have ead : gad G (4 + j) = gE G (4 + j) := by unfold gad; rw [if_pos (by first | decide | omega)]
      rw [rf_ref (by first | decide | omega) (by first | decide | omega), ead]
      have hkk := h1.2 H locs lsC hR hS hL
      rw [m1, m2, m3] at hl
      match hq : x.2.1, hx2 with
      | 0, hx2 =>
        have hx2 := of_decide_eq_true hx2
        rw [hq] at hl hkk
        have hr : rdv w S (4 + j) 0 = ((9 + j : Nat) : Int) := by
          apply rdv_ext hw (by first | decide | omega) (by rw [hb, e13]; decide)
          rcases (show j = 0 ∨ j = 1 ∨ j = 2 ∨ j = 3 ∨ j = 4 by omega) with rfl | rfl | rfl | rfl | rfl <;> rfl
        rw [hx2, hr] at hkk
        refine vk_getf hc.1 hc.2.1 g2 hS hc.2.2.2.1 (onT rfl hl) (fun _ z => z) hd ?_
        have hkk := hkk (cons_ok (v := mkv (Int.toNat 2) ((9 + j : Nat) : Int)) trivial hv) hn hs
        have ev : rep G (mkv (Int.toNat 2) ((9 + j : Nat) : Int)) = .ref (gE G (9 + j)) := by
          show rf G (Int.toNat ((9 + j : Nat) : Int)) = _
          rw [Int.toNat_natCast, rf_ref (by first | decide | omega) (by first | decide | omega)]
          unfold gad
          rw [if_pos (by first | decide | omega)]
        rw [List.map_cons, ev] at hkk
        exact hkk
      | 1, hx2 =>
        have hx2 := of_decide_eq_true hx2
        rw [hq] at hl hkk
        have hr : rdv w S (4 + j) 1 = 0 := by
          apply rdv_ext hw (by first | decide | omega) (by rw [hb, e13]; decide)
          rcases (show j = 0 ∨ j = 1 ∨ j = 2 ∨ j = 3 ∨ j = 4 by omega) with rfl | rfl | rfl | rfl | rfl <;> rfl
        rw [hx2, hr] at hkk
        refine vk_getf hc.1 hc.2.1 g1 hS hc.2.2.2.1 (onT rfl hl) (fun _ z => z) hd ?_
        exact hkk (cons_ok (v := mkv (Int.toNat 3) 0) (by show r32 0; unfold r32; omega) hv) hn hs
      | n + 2, hx2 => cases hx2
    | false =>
      rw [h13] at hI
      dsimp only at hI
      simp only [Bool.and_eq_true, decide_eq_true_eq] at hI
      obtain ⟨⟨⟨he, hcode⟩, hci⟩, hkN⟩ := hI
      have hci := Nat.blt_eq.mp hci
      have hkN := Nat.blt_eq.mp hkN
      obtain ⟨en, hen, hm⟩ := List.any_eq_true.mp he
      rw [Bool.and_eq_true] at hm
      obtain ⟨⟨m1, m2⟩, ⟨m3, m4⟩⟩ := And.intro (mtc_eq hm.1) (mtc_eq hm.2)
      obtain ⟨a15, ⟨cell, q1, q2, q3, q4⟩, hok⟩ := obj_at hw hR hci hb
      obtain ⟨hSl, hfc, kC, hkC, hkind⟩ := hE.2.1 x.1 hci
      obtain ⟨cf, kf, fi, f, hi, hsl⟩ := hSl x.2.1 hkN
      have hst := (u_facts hfc hkC (u_lays (lays_w (args := args) hE hci) (fun w h => h) hkN) hi).1
      have hl := fkl_link (args := args) hE hen
      rw [m1, m2, m3, m4] at hl
      have hkk := h1.2 H locs lsC hR hS hL (cons_ok (okv_mkv (by rw [hcode]; show okc (Int.toNat (fcd x.1 x.2.1 : Int)) _; rw [Int.toNat_natCast]; exact hok _ hkN)) hv) hn hs
      rw [List.map_cons, hcode, Int.toNat_natCast] at hkk
      rw [rf_own a15]
      cases hnest : en.2.2.2.2.2 with
      | false => exact W.getf hc.1 hc.2.1 hc.2.2.2.1 (hl.1 hnest) hi hst q1 (by rw [q3]; exact fun z => by cases z) (by rw [hsl]; exact q4 _ hkN) rfl rfl hd hkk
      | true => exact va_Wgetf hc.1 hc.2.1 hc.2.2.2.1 (hl.2 hnest) hi hst q1 (by rw [q3]; exact fun z => by cases z) (by rw [hsl]; exact q4 _ hkN) rfl rfl hd hkk
  · cases h
/-- a field's store, once the value is known to fit -/
theorem s_put (hc : CX G p s m meth c mi) (hw : OKW G w) {q : Nat} {x : XI} (hd : decode (byo mi) pc = .ok (.putfield q, 3)) (hI : okI (ow mi) (iniM mi) pc (.putfield q) x = true) {a : Nat} {v : Int} {r : List TV} (hb : (shp w S a).1 = 10 + x.1) (hwk : wok w a x.2.1 = true) (hv0 : okc (fcd x.1 x.2.1) v) (h1 : PP p l e R s m args below meth c G w mi Q n0 s0 SF (pc + 3) ls r (wr S a x.2.1 v))
    {H : Heap} {locs : List Loc} {lsC : Array Slot} (hR : Rel G w S H) (hS : va_S (AA G) s.heap H locs) (hL : LR G ls lsC (mlOf mi)) (hv : ∀ v ∈ r, okv v) (hn : n0 ≤ S.1.1) (hs : s0 ≤ S.1.2.1) : W p l e R s m args below meth c H locs (S.1.1 - n0) (S.1.2.1 - s0) Q (F0 m pc lsC (rep G (mkv (fcd x.1 x.2.1) v) :: rf G a :: r.map (rep G))) := by
  have hE := hc.2.2.2.2.2.1
  unfold okI at hI
  simp only [Bool.and_eq_true, decide_eq_true_eq] at hI
  obtain ⟨⟨⟨he, hcode⟩, hci⟩, hkN⟩ := hI
  have hci := Nat.blt_eq.mp hci
  have hkN := Nat.blt_eq.mp hkN
  obtain ⟨en, hen, hm⟩ := List.any_eq_true.mp he
  rw [Bool.and_eq_true, Bool.and_eq_true] at hm
  obtain ⟨⟨hm1, hm2⟩, hm3⟩ := hm
  obtain ⟨m1, m2⟩ := mtc_eq hm1
  obtain ⟨m3, m4⟩ := mtc_eq hm2
  obtain ⟨a15, ⟨cell, q1, q2, q3, q4⟩, hok⟩ := obj_at hw hR hci hb
  obtain ⟨hSl, hfc, kC, hkC, hkind⟩ := hE.2.1 x.1 hci
  obtain ⟨cf, kf, fi, f, hi, hsl⟩ := hSl x.2.1 hkN
  have hlays := lays_w (args := args) hE hci
  have hst := (u_facts hfc hkC (u_lays hlays (fun w h => h) hkN) hi).1
  have hap : ∀ y z, y < NN x.1 → z < NN x.1 → y ≠ z → gS G x.1 y ≠ gS G x.1 z := by
    intro y z hy hz hne
    obtain ⟨_, _, _, fa, hia, ea⟩ := hSl y hy
    obtain ⟨_, _, _, fb, hib, eb⟩ := hSl z hz
    rw [← ea, ← eb]
    refine u_apart (u_lays hlays (fun w h => h) hy) (u_lays hlays (fun w h => h) hz) hia hib ?_
    rw [(State.fieldFound?_type hia (ty_at hci hy)).1, (State.fieldFound?_type hib (ty_at hci hz)).1]
    exact nm_at hci y hy z hz hne
  have hl := fkl_link (args := args) hE hen
  rw [m1, m2, m3, m4] at hl
  have hfk : fcd x.1 x.2.1 = fk (fty x.1 x.2.1) := fc_at hci hkN
  have hso := store_ok (x := v) hE.2.2.2.2.2.2.2.1 (ty := fty x.1 x.2.1) (by rw [← hfk]; exact fc5_at hci hkN) (by rw [← hfk]; exact hv0)
  rw [← hfk] at hso
  rw [rf_own a15]
  have hlt : f.slot < cell.slots.size := by rw [hsl]; exact k2_hasslot (q4 _ hkN)
  have fin : ∀ H' : Heap, H'[gad G a]? = some (cell.setSlot f.slot (rep G (mkv (fcd x.1 x.2.1) v))) → H'.size = H.size → (∀ q, q ≠ gad G a → H'[q]? = H[q]?) → W p l e R s m args below meth c H' (locs ++ [⟨gad G a, f.slot⟩]) (S.1.1 - n0) (S.1.2.1 - s0) Q (F0 m (pc + 3) lsC (r.map (rep G))) := by
    intro H' e1 e2 e3
    rw [hsl] at e1
    exact h1.2 H' _ lsC (Rel.putf hw hR hci hkN hb hwk hv0 e2 e3 ⟨_, e1, q2, q3, t_set q4 hap hkN _⟩) (hS.put e2 e3 (gad_A a15)) hL hv hn hs
  have hlay := hlays _ (u_in_lay hkN)
  unfold u_lay at hlay
  cases hfin : (TT x.1 x.2.1).2.2.2 with
  | false =>
    rw [if_neg (by rw [hfin]; decide)] at hlay
    have h6 := u_store hfc hkC hkind hlay hi (ty_at hci hkN) hso.1 hso.2
    cases hnest : en.2.2.2.2.2 with
    | false => exact W.putK hc.1 hc.2.1 (f := f) ⟨hc.2.2.2.1, hl.1 hnest, ⟨_, _, _, hi⟩, hst⟩ (by rw [q2]; exact h6) q1 q3 hlt rfl rfl hd fin
    | true => exact va_WputK hc.1 hc.2.1 (f := f) hc.2.2.2.1 (hl.2 hnest) hi hst (by rw [q2]; exact h6) q1 q3 hlt rfl rfl hd fin
  | true =>
    rw [if_pos hfin] at hlay
    rw [hfin] at hm3
    simp only [Bool.not_true, Bool.false_or, Bool.and_eq_true, Bool.not_eq_true'] at hm3
    obtain ⟨⟨i1, i2⟩, i3⟩ := hm3
    have i3 := Nat.eq_of_beq_eq_true i3
    have hcf : m.cls = cf := by
      obtain ⟨_, _, c', _, _, _, -, -, hf', -, -, -, hown2, -⟩ := Cond.laysFinal_spec hlay
      have e1 : c' = cf := by have := hi.symm.trans hf'; simp at this; exact this.1.symm
      have ho := hc.2.2.2.1
      rw [i3] at ho
      rw [← e1]; exact Option.some.inj (ho.symm.trans hown2)
    have h6 := u_fits hfc hkC hkind (Or.inr hlay) hi (ty_at hci hkN) hso.1 hso.2
    exact W.putFinK hc.1 hc.2.1 hc.2.2.2.1 (hl.1 i2) hi hst hcf (hc.2.2.2.2.1 i1) (by rw [q2]; exact h6) q1 q3 hlt rfl rfl hd fin
theorem ck_some {cc : Nat} {v : Int} {r : Rs} (h : ckZ cc v r = some F) : r = some F ∧ (r32 v → cc ≠ 1 → cc ≠ 2 → okc cc v) := by
  unfold ckZ at h
  split at h
  · split at h
    · rename_i q; exact ⟨h, fun _ _ _ => q⟩
    · cases h
  · split at h
    · rename_i q; exact ⟨h, fun _ _ _ => q⟩
    · cases h
  · split at h
    · rename_i q; exact ⟨h, fun _ _ _ => q⟩
    · cases h
  · rename_i a1 a2 a3
    refine ⟨h, fun hr b1 b2 => ?_⟩
    unfold okc
    split
    · exact absurd rfl b1
    · exact absurd rfl b2
    · exact absurd rfl a1
    · exact absurd rfl a2
    · exact absurd rfl a3
    · exact hr
theorem s_putF (hc : CX G p s m meth c mi) (hw : OKW G w) {q : Nat} {x : XI} (hd : decode (byo mi) pc = .ok (.putfield q, 3)) (hI : okI (ow mi) (iniM mi) pc (.putfield q) x = true) (h : putF w x ls st S k = some F) (hk : ∀ ls' st' S', k ls' st' S' = some F → PP p l e R s m args below meth c G w mi Q n0 s0 SF (pc + 3) ls' st' S') : PP p l e R s m args below meth c G w mi Q n0 s0 SF pc ls st S := by
  have hcd : x.2.2.1.toNat = fcd x.1 x.2.1 := by
    have hI' := hI
    unfold okI at hI'
    simp only [Bool.and_eq_true, decide_eq_true_eq] at hI'
    rw [hI'.1.1.2, Int.toNat_natCast]
  unfold putF at h
  split at h
  · rename_i v a r hq
    obtain ⟨hb, h⟩ := gd_some h
    rw [Bool.and_eq_true] at hb
    have h1 := hk _ _ _ h
    refine ⟨h1.1, fun H locs lsC hR hS hL hv hn hs => ?_⟩
    obtain ⟨v0, hv⟩ := ok_cons hv
    obtain ⟨-, hv⟩ := ok_cons hv
    have := s_put hc hw hd hI (Nat.eq_of_beq_eq_true hb.1) hb.2 (v := v) (by rw [← hcd, hq]; exact v0) h1 hR hS hL hv hn hs
    rw [← hcd, hq] at this
    exact this
  · rename_i v a r hq
    obtain ⟨hb, h⟩ := gd_some h
    rw [Bool.and_eq_true] at hb
    have h1 := hk _ _ _ h
    refine ⟨h1.1, fun H locs lsC hR hS hL hv hn hs => ?_⟩
    obtain ⟨v0, hv⟩ := ok_cons hv
    obtain ⟨-, hv⟩ := ok_cons hv
    have := s_put hc hw hd hI (Nat.eq_of_beq_eq_true hb.1) hb.2 (v := (v : Int)) (by rw [← hcd, hq]; show (0 : Int) ≤ _; omega) h1 hR hS hL hv hn hs
    rw [← hcd, hq] at this
    exact this
  · rename_i v a r
    obtain ⟨hz, h⟩ := gd_some h
    simp only [Bool.and_eq_true, Bool.not_eq_true'] at hz
    have c1 : x.2.2.1.toNat ≠ 1 := fun q => by rw [q] at hz; cases hz.1
    have c2 : x.2.2.1.toNat ≠ 2 := fun q => by rw [q] at hz; cases hz.2
    obtain ⟨hb, h⟩ := gd_some h
    rw [Bool.and_eq_true] at hb
    obtain ⟨h, hck⟩ := ck_some h
    have h1 := hk _ _ _ h
    refine ⟨h1.1, fun H locs lsC hR hS hL hv hn hs => ?_⟩
    obtain ⟨v0, hv⟩ := ok_cons hv
    obtain ⟨-, hv⟩ := ok_cons hv
    have := s_put hc hw hd hI (Nat.eq_of_beq_eq_true hb.1) hb.2 (v := v) (by rw [← hcd]; exact hck v0 c1 c2) h1 hR hS hL hv hn hs
    rw [← hcd, mkv_i c1 c2] at this
    exact this
  · cases h
theorem s_new (hc : CX G p s m meth c mi) (hw : OKW G w) (hrm : SF.1.1 - n0 ≤ R.cells ∧ SF.1.2.1 - s0 ≤ R.slots) {q : Nat} {x : XI} (hd : decode (byo mi) pc = .ok (.new q, 3)) (hI : okI (ow mi) (iniM mi) pc (.new q) x = true) (h1 : PP p l e R s m args below meth c G w mi Q n0 s0 SF (pc + 3) ls (vr S.1.1 :: st) (nw S (10 + x.1) x.2.1)) : PP p l e R s m args below meth c G w mi Q n0 s0 SF pc ls st S := by
  have hE := hc.2.2.2.2.2.1
  unfold okI at hI
  simp only [Bool.and_eq_true] at hI
  obtain ⟨⟨he, hci⟩, hN⟩ := hI
  have hci := Nat.blt_eq.mp hci
  have hN := Nat.eq_of_beq_eq_true hN
  obtain ⟨en, hen, hm⟩ := List.any_eq_true.mp he
  rw [Bool.and_eq_true] at hm
  obtain ⟨m1, m2⟩ := mtc_eq hm.1
  have m3 := Nat.eq_of_beq_eq_true hm.2
  have hl := hE.word (List.all_eq_true.mp ckl_ok en hen)
  rw [m1, m2, m3] at hl
  have hles : S.1.1 + 1 ≤ SF.1.1 ∧ S.1.2.1 + x.2.1 ≤ SF.1.2.1 := h1.1
  refine ⟨⟨by omega, by omega⟩, fun H locs lsC hR hS hL hv hn hs => ?_⟩
  have hKn := hE.2.1 x.1 hci
  refine W.newc hc.1 hc.2.1 hc.2.2.2.1 (onT rfl hl) (C := cnm x.1) (n := NN x.1) (onT rfl (hE.word (inst_ok hci).1)) (onT rfl (hE.word (inst_ok hci).2)) rfl hd (by first | decide | omega) (by rw [← hN]; omega) (fun cC kC f1 f2 f3 f4 => ?_)
  have hcC : cC = gC G x.1 := Option.some.inj (f1.symm.trans hKn.2.1)
  subst hcC
  have hob := u_born (H := H.push (blank (gC G x.1) kC)) (o := H.size) (fty x.1) (lays_w (args := args) hE hci) (fun w h => h) hKn f2 (by rw [Array.getElem?_push_size]) (fun k hk => ty_at hci hk)
  have hR' := Rel.newO hw hR (n := x.2.1) hci (c := blank (gC G x.1) kC) (hob.to (fun k hk => by rw [dfl_f (G := G) (by rw [← fc_at hci hk]; exact fc5_at hci hk), ← fc_at hci hk]))
  have hS' : va_S (AA G) s.heap (H.push (blank (gC G x.1) kC)) locs := ⟨by rw [Array.size_push]; exact Nat.le_succ_of_le hS.1, fun y h1 h2 => by rw [Array.getElem?_push, if_neg (Nat.ne_of_lt (Nat.lt_of_lt_of_le h1 hS.1))]; exact hS.2.1 y h1 h2, hS.2.2⟩
  have := h1.2 _ _ lsC hR' hS' hL (cons_ok trivial hv) (show n0 ≤ S.1.1 + 1 by omega) (show s0 ≤ S.1.2.1 + x.2.1 by omega)
  rw [List.map_cons] at this
  have e : rep G (vr S.1.1) = .ref H.size := by
    show rf G S.1.1 = _
    rw [rf_own hR.1, gad_new hw hR]
  rw [e] at this
  refine W.cs ?_ ?_ this
  · show S.1.1 - n0 + 1 = S.1.1 + 1 - n0
    omega
  · show S.1.2.1 - s0 + NN x.1 = S.1.2.1 + x.2.1 - s0
    omega
end SND
end
section
-- 09g.rest
/-! words of arrays, of Object, of Math -/
theorem aw_byte : wok1 1058 (.arrayClass .byte) = true := by decide +kernel
theorem aw_bool : wok1 8123 (.arrayClass .boolean) = true := by decide +kernel
theorem aw_int : wok1 1060 (.arrayClass .int) = true := by decide +kernel
theorem aw_long : wok1 1059 (.arrayClass .long) = true := by decide +kernel
theorem ao_text : wok1 1142 (.arrayOver (.object (cnm 9))) = true := by decide +kernel
theorem ao_auth : wok1 1167 (.arrayOver (.object (cnm 1))) = true := by decide +kernel
theorem ao_claim : wok1 1202 (.arrayOver (.object (cnm 2))) = true := by decide +kernel
theorem ob_inst : wok1 1029 (.instanceMethod objectInit) = true := by decide +kernel
theorem ob_code : wok1 1030 (.code objectInit ⟨#[0xb1]⟩ 1 none) = true := by decide +kernel
theorem cl_same0 : wok1 3147 (.sameMethod "[B" "java/lang/Object" "clone" "()Ljava/lang/Object;") = true := by decide +kernel
theorem cl_same2 : wok1 3161 (.sameMethod "[I" "java/lang/Object" "clone" "()Ljava/lang/Object;") = true := by decide +kernel
theorem cl_nat : wok1 3148 (.native ⟨"java/lang/Object", "clone", "()Ljava/lang/Object;"⟩) = true := by decide +kernel
theorem cl_inst : wok1 3149 (.instanceMethod ⟨"java/lang/Object", "clone", "()Ljava/lang/Object;"⟩) = true := by decide +kernel
theorem cl_sel0 : wok1 3150 (.selects "[B" ⟨"[B", "clone", "()Ljava/lang/Object;"⟩ ⟨"java/lang/Object", "clone", "()Ljava/lang/Object;"⟩) = true := by decide +kernel
theorem cl_sel2 : wok1 3162 (.selects "[I" ⟨"[I", "clone", "()Ljava/lang/Object;"⟩ ⟨"java/lang/Object", "clone", "()Ljava/lang/Object;"⟩) = true := by decide +kernel
theorem cl_cast0 : wok1 3151 (.castable "[B" "java/lang/Cloneable") = true := by decide +kernel
theorem cl_cast2 : wok1 3163 (.castable "[I" "java/lang/Cloneable") = true := by decide +kernel
theorem cp_stat : wok1 3155 (.static arraycopyName) = true := by decide +kernel
theorem cp_nat : wok1 3156 (.native arraycopyName) = true := by decide +kernel
theorem cp_ini : wok1 1019 (.initialized "java/lang/System") = true := by decide +kernel
theorem mt_ini : wok1 1014 (.initialized "java/lang/Math") = true := by decide +kernel
theorem mx_stat : wok1 3021 (.static Lib.Math.max.name) = true := by decide +kernel
theorem mn_stat : wok1 3024 (.static Lib.Math.min.name) = true := by decide +kernel
theorem mn_code : wok1 3025 (.code Lib.Math.min.name Lib.Math.min.code 2 (some .int)) = true := by decide +kernel
theorem mx_code : wok1 3022 (.code Lib.Math.max.name Lib.Math.max.code 2 (some .int)) = true := by decide +kernel
theorem ml_stat : wok1 5237 (.static Lib.MathLoose.min_long.x) = true := by decide +kernel
theorem ml_code : wok1 5238 (.code Lib.MathLoose.min_long.x Lib.MathLoose.min_long.code 4 (some .long)) = true := by decide +kernel
theorem mL_stat : wok1 6000 (.static Lib.MathLoose.max_long.x) = true := by decide +kernel
theorem mL_code : wok1 6001 (.code Lib.MathLoose.max_long.x Lib.MathLoose.max_long.code 4 (some .long)) = true := by decide +kernel
section SND
variable {p : Program} {l : Launch} {e : Env} {R : Room} {s : State} {m : MethodId} {args : Array Value} {below : List Frame} {meth : Method} {c : Code} {G : GE} {w : WC} {mi : Nat} {Q : State → Prop} {n0 s0 : Nat} {SF : AH} {F : Int × AH} {pc len : Nat} {ls : LV} {st : List TV} {S : AH} {k : KT}
theorem S_push {H : Heap} {locs : List Loc} {x : Cell} (hS : va_S (AA G) s.heap H locs) : va_S (AA G) s.heap (H.push x) locs :=
  ⟨by rw [Array.size_push]; exact Nat.le_succ_of_le hS.1, fun y h1 h2 => by rw [Array.getElem?_push, if_neg (Nat.ne_of_lt (Nat.lt_of_lt_of_le h1 hS.1))]; exact hS.2.1 y h1 h2, hS.2.2⟩
/-- behind a new array -/
theorem s_newEnd (hw : OKW G w) {t n : Nat} {r : List TV} {f : Nat → Int} (ht : t < 7) (hn20 : n ≤ 20000) (hf : ∀ j, j < n → okc (arC t) (f j)) (h1 : PP p l e R s m args below meth c G w mi Q n0 s0 SF pc ls (vr S.1.1 :: r) (nwc S t n f)) {H : Heap} {locs : List Loc} {lsC : Array Slot} (hR : Rel G w S H) (hS : va_S (AA G) s.heap H locs) (hL : LR G ls lsC (mlOf mi)) (hv : ∀ v ∈ r, okv v) (hn : n0 ≤ S.1.1) (hs : s0 ≤ S.1.2.1) :
    W p l e R s m args below meth c (H.push (arrV (gA G t) n (fun j => rep G (mkv (arC t) (f j))))) locs (S.1.1 - n0 + 1) (S.1.2.1 - s0 + n) Q (F0 m pc lsC (.ref H.size :: r.map (rep G))) := by
  have := h1.2 _ _ lsC (Rel.newA hw hR ht hn20 hf) (S_push hS) hL (cons_ok trivial hv) (show n0 ≤ S.1.1 + 1 by omega) (show s0 ≤ S.1.2.1 + n by omega)
  rw [List.map_cons] at this
  have e : rep G (vr S.1.1) = .ref H.size := by
    show rf G S.1.1 = _
    rw [rf_own hR.1, gad_new hw hR]
  rw [e] at this
  refine W.cs ?_ ?_ this
  · show S.1.1 - n0 + 1 = S.1.1 + 1 - n0
    omega
  · show S.1.2.1 - s0 + n = S.1.2.1 + n - s0
    omega
theorem s_newarr (hc : CX G p s m meth c mi) (hw : OKW G w) (hrm : SF.1.1 - n0 ≤ R.cells ∧ SF.1.2.1 - s0 ≤ R.slots) {ty : ArrayType} (hd : decode (byo mi) pc = .ok (.newarray ty, 2)) (hh : gd (Nat.ble (aty ty) 3) (newA (aty ty) ls st S k) = some F) (hk : ∀ ls' st' S', k ls' st' S' = some F → PP p l e R s m args below meth c G w mi Q n0 s0 SF (pc + 2) ls' st' S') : PP p l e R s m args below meth c G w mi Q n0 s0 SF pc ls st S := by
  have hE := hc.2.2.2.2.2.1
  obtain ⟨hb0, h⟩ := gd_some hh
  have hb := Nat.le_of_ble_eq_true hb0
  unfold newA at h
  split at h
  · rename_i n r
    split at h
    · rename_i hn1
      have h1 := hk _ _ _ h
      have hles : S.1.1 + 1 ≤ SF.1.1 ∧ S.1.2.1 + n.toNat ≤ SF.1.2.1 := h1.1
      refine ⟨⟨by omega, by omega⟩, fun H locs lsC hR hS hL hv hn hs => ?_⟩
      obtain ⟨v0, hv⟩ := ok_cons hv
      have hcl := clampI v0 hn1.1
      have hneg : ¬ Int32.ofInt n < 0 := fun q => by
        have := (lt32 v0 (y := 0) (by unfold r32; omega)).mp q
        omega
      have main : ∀ t : Nat, aty ty = t → t < 4 → newarray.typeOf ty = ety t → (Cond.arrayClass (ety t)).before args s = true → componentBytes (ety t) ≤ 8 → (∀ cX : ClassId, s.vm.findClass ("[" ++ (ety t).toString) = some cX → cX = gA G t) → W p l e R s m args below meth c H locs (S.1.1 - n0) (S.1.2.1 - s0) Q (F0 m pc lsC (.int (Int32.ofInt n) :: r.map (rep G))) := by
        intro t ht ht4 hty hac hcb hcl2
        rw [ht] at h1
        refine W.newa hc.1 hc.2.1 (by rw [hty]; exact hac) rfl hd rfl hneg (by rw [hcl, hty]; exact Nat.le_trans (Nat.mul_le_mul (show n.toNat ≤ 20000 by omega) hcb) (by decide)) (by first | decide | omega) (by rw [hcl]; omega) (fun cX kA comp f1 f2 f3 => ?_)
        rw [hty] at f1 ⊢
        have e := hcl2 cX f1
        subst e
        rw [hcl, arrV_new, dfl_a (G := G) (by first | decide | omega)]
        exact s_newEnd hw (f := fun _ => 0) (by first | decide | omega) (by first | decide | omega) (fun _ _ => okc_0 _) h1 hR hS hL hv hn hs
      have hRA : ∀ t, t < 4 → ∀ cX : ClassId, s.vm.findClass ("[" ++ (ety t).toString) = some cX → cX = gA G t := by
        intro t ht cX hX
        have := (hE.2.2.1 t (by first | decide | omega)).2
        rcases (show t = 0 ∨ t = 1 ∨ t = 2 ∨ t = 3 by omega) with rfl | rfl | rfl | rfl <;> exact Option.some.inj (hX.symm.trans this)
      cases ty with
      | byte => exact main 0 rfl (by decide) rfl (hE.word aw_byte) (by decide) (hRA 0 (by decide))
      | boolean => exact main 1 rfl (by decide) rfl (hE.word aw_bool) (by decide) (hRA 1 (by decide))
      | int => exact main 2 rfl (by decide) rfl (hE.word aw_int) (by decide) (hRA 2 (by decide))
      | long => exact main 3 rfl (by decide) rfl (hE.word aw_long) (by decide) (hRA 3 (by decide))
      | _ => exact absurd hb (by decide)
    · cases h
  · cases h
theorem s_anew (hc : CX G p s m meth c mi) (hw : OKW G w) (hrm : SF.1.1 - n0 ≤ R.cells ∧ SF.1.2.1 - s0 ≤ R.slots) {q : Nat} {x : XI} (hd : decode (byo mi) pc = .ok (.anewarray q, 3)) (hI : okI (ow mi) (iniM mi) pc (.anewarray q) x = true) (h : newA x.1 ls st S k = some F) (hk : ∀ ls' st' S', k ls' st' S' = some F → PP p l e R s m args below meth c G w mi Q n0 s0 SF (pc + 3) ls' st' S') : PP p l e R s m args below meth c G w mi Q n0 s0 SF pc ls st S := by
  have hE := hc.2.2.2.2.2.1
  unfold okI at hI
  obtain ⟨en, hen, hm⟩ := List.any_eq_true.mp hI
  rw [Bool.and_eq_true] at hm
  obtain ⟨hm, hm3⟩ := hm
  obtain ⟨m1, m2⟩ := mtc_eq hm
  have hl := hE.word (List.all_eq_true.mp akl_ok en hen)
  rw [m1, m2] at hl
  unfold newA at h
  split at h
  · rename_i n r
    split at h
    · rename_i hn1
      have h1 := hk _ _ _ h
      have hles : S.1.1 + 1 ≤ SF.1.1 ∧ S.1.2.1 + n.toNat ≤ SF.1.2.1 := h1.1
      refine ⟨⟨by omega, by omega⟩, fun H locs lsC hR hS hL hv hn hs => ?_⟩
      obtain ⟨v0, hv⟩ := ok_cons hv
      have hcl := clampI v0 hn1.1
      have hneg : ¬ Int32.ofInt n < 0 := fun q => by
        have := (lt32 v0 (y := 0) (by unfold r32; omega)).mp q
        omega
      have main : ∀ t ci : Nat, x.1 = t → t < 7 → en.2.2.1 = ci → ety t = .object (cnm ci) → arC t = 2 → va_AO (cnm ci) s → W p l e R s m args below meth c H locs (S.1.1 - n0) (S.1.2.1 - s0) Q (F0 m pc lsC (.int (Int32.ofInt n) :: r.map (rep G))) := by
        intro t ci ht ht7 hci hty harc hao
        rw [ht] at h1
        rw [hci] at hl
        have hRA := (hE.2.2.1 t ht7).2
        rw [hty] at hRA
        obtain ⟨kA', comp', g1, g2, g3, g4⟩ := hRA
        refine W.anew hc.1 hc.2.1 hc.2.2.2.1 (onT rfl hl) hao.use rfl hd rfl hneg (by rw [hcl]; omega) (by first | decide | omega) (by rw [hcl]; omega) (fun cX kA comp f1 f2 f3 f4 => ?_)
        have e : cX = gA G t := Option.some.inj (f1.symm.trans g4)
        subst e
        have := s_newEnd hw (f := fun _ => 0) (by first | decide | omega) (by first | decide | omega) (fun _ _ => okc_0 _) h1 hR hS hL hv hn hs
        rw [harc] at this
        rw [hcl, arrV_new]
        exact this
      match hz : en.2.2.1, hm3 with
      | 9, hm3 => exact main 4 9 (Nat.eq_of_beq_eq_true hm3) (by decide) hz (by decide +kernel) rfl (hE.word ao_text)
      | 1, hm3 => exact main 5 1 (Nat.eq_of_beq_eq_true hm3) (by decide) hz (by decide +kernel) rfl (hE.word ao_auth)
      | 2, hm3 => exact main 6 2 (Nat.eq_of_beq_eq_true hm3) (by decide) hz (by decide +kernel) rfl (hE.word ao_claim)
      | 0, hm3 => cases hm3
      | 3, hm3 => cases hm3
      | 4, hm3 => cases hm3
      | 5, hm3 => cases hm3
      | 6, hm3 => cases hm3
      | 7, hm3 => cases hm3
      | 8, hm3 => cases hm3
      | n + 10, hm3 => cases hm3
    · cases h
  · cases h
theorem W_cast {H : Heap} {locs : List Loc} {cells slots : Nat} {cc : ByteArray} {lsC : Array Slot} {rest : List Value} (hexec : p.tables.exec = Jvm.exec) (hb : c.code = cc) {own nm : String} {index : Nat} (hown : s.vm.findClass own = some m.cls) (hlink : (Cond.classLink own index nm).before args s = true) {a : Nat} {cell : Cell} (hcell : H[a]? = some cell) (hst : cell.vm.isStatics = false) (hnm : s.vm.findClass nm = some cell.cls) (hdg : decode cc pc = .ok (.checkcast index, 3))
    (k : W p l e R s m args below meth c H locs cells slots Q (F0 m (pc + 3) lsC (.ref a :: rest))) : W p l e R s m args below meth c H locs cells slots Q (F0 m pc lsC (.ref a :: rest)) := by
  intro T hT X
  obtain ⟨vm', X', st⟩ := X.checkcastYes hexec hown hlink (by rw [hT]; exact hcell) hst hnm (va_asg _ _) (g := F0 m pc lsC (.ref a :: rest)) rfl rfl (by rw [hb]; exact hdg)
  obtain ⟨t, a1, b1⟩ := k (T.setVm vm') hT X'
  exact ⟨t, st t a1, b1⟩
theorem adn_cls (hE : EN G s s.heap) {t : Nat} (ht : t = 0 ∨ t = 2) : s.vm.findClass (adn t) = some (gA G t) := by
  rcases ht with rfl | rfl
  · exact (hE.2.2.1 0 (by decide)).2
  · exact (hE.2.2.1 2 (by decide)).2
theorem own_ge (hw : OKW G w) {a t : Nat} (h : (shp w S a).1 = t) (ht : t = 0 ∨ t = 2) (hn : ∀ b, 9 ≤ b → b < 14 → a ≠ b) (h1 : a ≠ 1) (h2 : a ≠ 2) (h3 : a ≠ 3) : 15 ≤ a := by
  rcases Nat.lt_or_ge a 15 with q | q
  · rw [shp_ext hw q (by first | decide | omega)] at h
    rcases (show a = 0 ∨ a = 1 ∨ a = 2 ∨ a = 3 ∨ (4 ≤ a ∧ a < 9) ∨ (9 ≤ a ∧ a < 14) ∨ a = 14 by omega) with rfl | z | z | z | z | z | rfl
    · simp [xsh] at h; omega
    · exact absurd z h1
    · exact absurd z h2
    · exact absurd z h3
    · rcases (show a = 4 ∨ a = 5 ∨ a = 6 ∨ a = 7 ∨ a = 8 by omega) with rfl | rfl | rfl | rfl | rfl <;> simp [xsh] at h <;> omega
    · exact absurd rfl (hn a z.1 z.2)
    · simp [xsh] at h; omega
  · exact q
theorem s_cast (hc : CX G p s m meth c mi) (hw : OKW G w) {q : Nat} {x : XI} (hd : decode (byo mi) pc = .ok (.checkcast q, 3)) (hI : okI (ow mi) (iniM mi) pc (.checkcast q) x = true) {a : Nat} {r : List TV} (hb : (shp w S a).1 = x.1) (h15 : 15 ≤ a) (h1 : PP p l e R s m args below meth c G w mi Q n0 s0 SF (pc + 3) ls (vr a :: r) S) : PP p l e R s m args below meth c G w mi Q n0 s0 SF pc ls (vr a :: r) S := by
  have hE := hc.2.2.2.2.2.1
  unfold okI at hI
  obtain ⟨en, hen, hm⟩ := List.any_eq_true.mp hI
  rw [Bool.and_eq_true, Bool.and_eq_true] at hm
  obtain ⟨⟨hm, hm3⟩, hm4⟩ := hm
  obtain ⟨m1, m2⟩ := mtc_eq hm
  have m3 := Nat.eq_of_beq_eq_true hm3
  have hl := hE.word (List.all_eq_true.mp kkl_ok en hen)
  rw [m1, m2, m3] at hl
  have ht : x.1 = 0 ∨ x.1 = 2 := by
    rw [Bool.or_eq_true] at hm4
    exact hm4.elim (fun z => Or.inl (Nat.eq_of_beq_eq_true z)) (fun z => Or.inr (Nat.eq_of_beq_eq_true z))
  refine ⟨h1.1, fun H locs lsC hR hS hL hv hn hs => ?_⟩
  have hcell := ((hR.2.2.2.2 a h15 (hR.lt (by first | decide | omega))).1 (by first | decide | omega)).1
  rw [hb] at hcell
  have := h1.2 H locs lsC hR hS hL hv hn hs
  have e : rep G (vr a) = .ref (gad G a) := rf_own h15
  rw [List.map_cons, e] at this ⊢
  exact W_cast hc.1 hc.2.1 hc.2.2.2.1 (onT rfl hl) hcell rfl (adn_cls hE ht) hd this
/-- clone of an array of ours -/
theorem s_clone (hc : CX G p s m meth c mi) (hw : OKW G w) (hrm : SF.1.1 - n0 ≤ R.cells ∧ SF.1.2.1 - s0 ≤ R.slots) (hroom : 1 ≤ R.frames ∧ 64 ≤ R.locals) {q : Nat} {x : XI} (hd : decode (byo mi) pc = .ok (.invokevirtual q, 3)) (he : (cln.any fun e => mtc e.1 e.2.1 (ow mi) q && Nat.beq e.2.2.1 x.2.2.2) = true) {a : Nat} {r : List TV} (hb : (shp w S a).1 = x.2.2.2) (ht : x.2.2.2 = 0 ∨ x.2.2.2 = 2) (h15 : 15 ≤ a) (hcat : cats r ≤ 8)
    (h1 : PP p l e R s m args below meth c G w mi Q n0 s0 SF (pc + 3) ls (vr S.1.1 :: r) (nwc S (shp w S a).1 (shp w S a).2 (rdv w S a))) : PP p l e R s m args below meth c G w mi Q n0 s0 SF pc ls (vr a :: r) S := by
  have hE := hc.2.2.2.2.2.1
  obtain ⟨en, hen, hm⟩ := List.any_eq_true.mp he
  rw [Bool.and_eq_true] at hm
  obtain ⟨m1, m2⟩ := mtc_eq hm.1
  have m3 := Nat.eq_of_beq_eq_true hm.2
  have hl := hE.word (List.all_eq_true.mp cln_ok en hen)
  rw [m1, m2, m3] at hl
  have hles : S.1.1 + 1 ≤ SF.1.1 ∧ S.1.2.1 + (shp w S a).2 ≤ SF.1.2.1 := h1.1
  refine ⟨⟨by omega, by omega⟩, fun H locs lsC hR hS hL hv hn hs => ?_⟩
  obtain ⟨-, hv⟩ := ok_cons hv
  obtain ⟨hcell, hn20, hokc⟩ := (hR.2.2.2.2 a h15 (hR.lt (by first | decide | omega))).1 (by first | decide | omega)
  have hend := s_newEnd hw (by first | decide | omega) hn20 hokc h1 hR hS hL hv hn hs
  have e : rep G (vr a) = .ref (gad G a) := rf_own h15
  rw [List.map_cons, e]
  rw [hb] at hcell hend
  have hA := hE.2.2.1 x.2.2.2 (by first | decide | omega)
  have hnm := adn_cls hE ht
  have hfit : ∀ (i : Nat) (v : Value), (arrV (gA G x.2.2.2) (shp w S a).2 (fun j => rep G (mkv (arC x.2.2.2) (rdv w S a j)))).slots[i]? = some v → fits (ety x.2.2.2) v = true := by
    intro i v hi
    have hlt : i < (shp w S a).2 := by
      have := (Array.getElem?_eq_some_iff.mp hi).1
      rwa [arrV_size] at this
    rw [arrV_read _ _ hlt] at hi
    cases hi
    have hokc := hokc i hlt
    rw [hb] at hokc
    rcases ht with z | z
    · rw [z] at hokc ⊢
      exact (store_ok (ty := .byte) hE.2.2.2.2.2.2.2.1 (by decide) hokc).2
    · rw [z]
      rfl
  have hrest : ((r.map (rep G)).map fun v => v.category).sum ≤ 8 := by
    have : ∀ r : List TV, ((r.map (rep G)).map fun v => v.category).sum = cats r := by
      intro r
      induction r with
      | nil => rfl
      | cons v r ih => rw [List.map_cons, List.map_cons, List.sum_cons, ih, rep_cat hE.2.2.2.2.2.2.2.1]; rfl
    rw [this]
    exact hcat
  generalize hcx : arrV (gA G x.2.2.2) (shp w S a).2 (fun j => rep G (mkv (arC x.2.2.2) (rdv w S a j))) = cx at hcell hend hfit
  have c1 : cx.vm = .none := by rw [← hcx]; rfl
  have c2 : cx.cls = gA G x.2.2.2 := by rw [← hcx]; rfl
  have c3 : cx.slots.size = (shp w S a).2 := by rw [← hcx]; exact arrV_size _ _ _
  have c4 : ({ cls := cx.cls, slots := cx.slots } : Cell) = cx := by rw [← hcx]; rfl
  have hwords : (Cond.sameMethod (adn x.2.2.2) "java/lang/Object" "clone" "()Ljava/lang/Object;").before args s = true ∧ (Cond.selects (adn x.2.2.2) ⟨adn x.2.2.2, "clone", "()Ljava/lang/Object;"⟩ ⟨"java/lang/Object", "clone", "()Ljava/lang/Object;"⟩).before args s = true ∧ (Cond.castable (adn x.2.2.2) "java/lang/Cloneable").before args s = true := by
    rcases ht with z | z
    · rw [z]
      exact ⟨onT rfl (hE.word cl_same0), onT rfl (hE.word cl_sel0), onT rfl (hE.word cl_cast0)⟩
    · rw [z]
      exact ⟨onT rfl (hE.word cl_same2), onT rfl (hE.word cl_sel2), onT rfl (hE.word cl_cast2)⟩
  obtain ⟨c0, t0', f1, f2, f3⟩ := Cond.castable_spec hwords.2.2
  cases hnm.symm.trans f1
  intro T hT X
  have hcellT : T.heap[gad G a]? = some cx := by rw [hT]; exact hcell
  obtain ⟨-, kA, hkA, comp, hkind⟩ := State.isArrayOf_alike X.warmed.alike (hA.1 0 (fun _ => .null))
  obtain ⟨-, kS, hkS, compS, hkindS⟩ := hA.1 0 (fun _ => .null)
  obtain ⟨vm', X', stp⟩ := X.cloneArray hc.1 hc.2.2.2.1 (onT rfl hl) hwords.1 (onT rfl (hE.word cl_nat)) (onT rfl (hE.word cl_inst)) hwords.2.1 (a := gad G a) (cell := cx) hcellT (fun k h => by rw [c1] at h; cases h) (by rw [c1]; exact fun h => by cases h) (by rw [c2]; exact hnm) f2 (by rw [c2]; exact f3)
    (fun i v hv => by
      rw [c2]
      have hk' : T.vm.classes[gA G x.2.2.2]? = some kA := hkA
      simpa [State.fitsSlot, State.slotType?, hk', hkind] using hfit i v hv)
    (g := F0 m pc lsC (.ref (gad G a) :: r.map (rep G))) rfl (by rw [hc.2.2.1]; exact hL.2.1) rfl (by rw [hc.2.1]; exact hd) hroom.1 (by show 2 * 0 + _ + 14 ≤ _; omega) (by first | decide | omega) (by rw [c3]; omega) (hloader := by rw [c2]; exact Vm.clonesLoader_of_array hkS hkindS)
  rw [c4, c3] at X'
  obtain ⟨t, b1, b2⟩ := hend ((T.setVm vm').pushCell cx) (by rw [← hT]; rfl) X'
  refine ⟨t, stp t ?_, b2⟩
  rw [c4, hT]
  exact b1
end SND
end
section
-- 09h.step
section SND
variable {p : Program} {l : Launch} {e : Env} {R : Room} {s : State} {m : MethodId} {args : Array Value} {below : List Frame} {meth : Method} {c : Code} {G : GE} {w : WC} {mi : Nat} {Q : State → Prop} {n0 s0 : Nat} {SF : AH} {F : Int × AH} {pc len : Nat} {ls : LV} {st : List TV} {S : AH} {k : KT}
theorem cat_sum (hG : gVok G) : ∀ r : List TV, ((r.map (rep G)).map fun v => v.category).sum = cats r := by
  intro r
  induction r with
  | nil => rfl
  | cons v r ih => rw [List.map_cons, List.map_cons, List.sum_cons, ih, rep_cat hG]; rfl
theorem nnI {z : Int} (h : r32 z) (h0 : 0 ≤ z) : ¬ Int32.ofInt z < 0 := fun q => by
  have := (lt32 h (y := 0) (by unfold r32; omega)).mp q
  omega
theorem s_copy (hc : CX G p s m meth c mi) (hw : OKW G w) (hroom : 1 ≤ R.frames ∧ 64 ≤ R.locals) {q : Nat} {k2 : List TV → AH → Rs} (hd : decode (byo mi) pc = .ok (.invokestatic q, 3)) (he : (xkl.any fun e => mtc e.1 e.2.1 (ow mi) q && Nat.beq e.2.2.1 9997) = true) (hcat : cats st ≤ 20) (h : copyA w st S k2 = some F) (hk : ∀ r S', k2 r S' = some F → PP p l e R s m args below meth c G w mi Q n0 s0 SF (pc + 3) ls r S') : PP p l e R s m args below meth c G w mi Q n0 s0 SF pc ls st S := by
  have hE := hc.2.2.2.2.2.1
  obtain ⟨en, hen, hm⟩ := List.any_eq_true.mp he
  rw [Bool.and_eq_true] at hm
  obtain ⟨m1, m2⟩ := mtc_eq hm.1
  have m3 := Nat.eq_of_beq_eq_true hm.2
  have hl := List.all_eq_true.mp xkl_ok en hen
  rw [m1, m2, m3] at hl
  have hl := hE.word (show wok1 en.2.2.2 (.methodLink (cnm (ow mi)) q (mnm 9997)) = true from hl)
  unfold copyA at h
  split at h
  · rename_i n dp b sp a r
    obtain ⟨hb, h⟩ := gd_some h
    simp only [Bool.and_eq_true, Bool.or_eq_true, Bool.not_eq_true'] at hb
    obtain ⟨⟨⟨b1, b2⟩, b3⟩, b4⟩ := hb
    have b1 := Nat.eq_of_beq_eq_true b1
    have ht : (shp w S a).1 = 0 ∨ (shp w S a).1 = 2 := b2.elim (fun z => Or.inl (Nat.eq_of_beq_eq_true z)) (fun z => Or.inr (Nat.eq_of_beq_eq_true z))
    split at h
    · rename_i hi
      have h1 := hk _ _ h
      refine ⟨h1.1, fun H locs lsC hR hS hL hv hn hs => ?_⟩
      obtain ⟨v0, hv⟩ := ok_cons hv
      obtain ⟨v1, hv⟩ := ok_cons hv
      obtain ⟨-, hv⟩ := ok_cons hv
      obtain ⟨v2, hv⟩ := ok_cons hv
      obtain ⟨-, hv⟩ := ok_cons hv
      obtain ⟨e1, e2, cs, c1, c2, c3, c4, c5, c6⟩ := arr_at hw hE hS hR (a := a) (t := (shp w S a).1) (n := (shp w S a).2) rfl (by first | decide | omega)
      obtain ⟨h15, hcell⟩ := own_arr hw hR b3 (by first | decide | omega)
      have hokB : ∀ j, j < (shp w S b).2 → okc (arC (shp w S b).1) (rdv w S b j) := ((hR.2.2.2.2 b h15 (hR.lt (by first | decide | omega))).1 (by first | decide | omega)).2.2
      rw [← b1] at hcell hokB
      have hsz : (arrV (gA G (shp w S a).1) (shp w S b).2 (fun j => rep G (mkv (arC (shp w S a).1) (rdv w S b j)))).slots.size = (shp w S b).2 := arrV_size _ _ _
      obtain ⟨hs6, k0, hk0, cm0, hkk0⟩ := c2
      obtain ⟨-, k1, hk1, cm1, hkk1⟩ := (hE.2.2.1 (shp w S a).1 (by first | decide | omega)).1 (shp w S b).2 (fun j => rep G (mkv (arC (shp w S a).1) (rdv w S b j)))
      have hmk : ∀ z, ∃ y : Int32, rep G (mkv (arC (shp w S a).1) z) = .int y := by
        intro z
        rcases ht with q | q <;> rw [q] <;> exact ⟨_, rfl⟩
      show W p l e R s m args below meth c _ _ _ _ _ (F0 m pc lsC (.int (Int32.ofInt n) :: .int (Int32.ofInt dp) :: rf G b :: .int (Int32.ofInt sp) :: rf G a :: r.map (rep G)))
      rw [e1, rf_own h15]
      have hca : cats r ≤ 20 := by
        have : cats r ≤ cats (Sum.inl n :: Sum.inl dp :: Sum.inr (Sum.inr b) :: Sum.inl sp :: Sum.inr (Sum.inr a) :: r) := by
          simp only [cats]
          omega
        omega
      intro T hT X
      obtain ⟨vm', X', step⟩ := X.arraycopy hc.1 hc.2.2.2.1 (onT rfl hl) (onT rfl (hE.word cp_nat)) (onT rfl (hE.word cp_stat)) (onT rfl (hE.word cp_ini)) (src := gad G a) (dst := gad G b) (cs := cs) (cd := arrV (gA G (shp w S a).1) (shp w S b).2 (fun j => rep G (mkv (arC (shp w S a).1) (rdv w S b j)))) (srcPos := Int32.ofInt sp) (destPos := Int32.ofInt dp) (n := Int32.ofInt n) (by rw [hT]; exact c1) (by rw [hT]; exact hcell)
        hs6 (fun _ h => by cases h) c3 (fun h => by cases h) hk0 hk1 hkk0 hkk1 (by rcases ht with q | q <;> rw [q] <;> rfl) (nnI v2 hi.2.1) (nnI v1 hi.2.2.1) (nnI v0 hi.1)
        (by rw [of32 v2, of32 v0]; omega)
        (by rw [of32 v1, of32 v0, hsz]; omega)
        (fun vm₁ _ i hi2 => by
          rw [clampI v0 hi.1] at hi2
          rw [clampI v2 hi.2.1]
          have hj := c6 (sp.toNat + i) (by first | decide | omega)
          have e : cs.slots.getD (sp.toNat + i) .null = rep G (mkv (arC (shp w S a).1) (rdv w S a (sp.toNat + i))) := by
            rw [Array.getD_eq_getD_getElem?, hj.1]
            rfl
          rw [e]
          refine ⟨?_, ?_⟩
          · have hj2 := hj.2
            rcases ht with q | q
            · rw [q] at hj2 ⊢
              exact (store_ok (ty := .byte) hE.2.2.2.2.2.2.2.1 (by decide) hj2).2
            · rw [q]
              rfl
          · obtain ⟨y, hy⟩ := hmk (rdv w S a (sp.toNat + i))
            rw [hy]
            exact trivial)
        (g := F0 m pc lsC (.int (Int32.ofInt n) :: .int (Int32.ofInt dp) :: .ref (gad G b) :: .int (Int32.ofInt sp) :: .ref (gad G a) :: r.map (rep G))) rfl (by rw [hc.2.2.1]; exact hL.2.1) (rest := r.map (rep G)) rfl (by rw [hc.2.1]; exact hd) hroom.1 (by rw [cat_sum hE.2.2.2.2.2.2.2.1]; show 2 * 0 + _ + (5 + 2 + 11) ≤ _; omega)
      have ec : copied cs (arrV (gA G (shp w S a).1) (shp w S b).2 (fun j => rep G (mkv (arC (shp w S a).1) (rdv w S b j)))) (Int32.ofInt sp) (Int32.ofInt dp) (Int32.ofInt n) = arrV (gA G (shp w S a).1) (shp w S b).2 (fun j => rep G (mkv (arC (shp w S a).1) (cpyF (rdv w S a) (rdv w S b) sp.toNat dp.toNat n.toNat j))) := by
        have := va_copiedX (fun z => rep G (mkv (arC (shp w S a).1) z)) cs (gA G (shp w S a).1) (n1 := (shp w S b).2) (n0 := (shp w S a).2) (dp := dp.toNat) (sp := sp.toNat) (n := n.toNat) (rdv w S a) (rdv w S b) (fun j hj => (c6 j hj).1) (by first | decide | omega)
        unfold copied
        rw [clampI v0 hi.1, clampI v1 hi.2.2.1, clampI v2 hi.2.1]
        exact this
      rw [ec] at X' step
      have hlb : gad G b < H.size := (Array.getElem?_eq_some_iff.mp hcell).1
      have hheap : ((T.setVm vm').setCell (gad G b) (arrV (gA G (shp w S a).1) (shp w S b).2 (fun j => rep G (mkv (arC (shp w S a).1) (cpyF (rdv w S a) (rdv w S b) sp.toNat dp.toNat n.toNat j))))).heap = H.setIfInBounds (gad G b) (arrV (gA G (shp w S a).1) (shp w S b).2 (fun j => rep G (mkv (arC (shp w S a).1) (cpyF (rdv w S a) (rdv w S b) sp.toNat dp.toNat n.toNat j)))) := by rw [← hT]; rfl
      generalize hcx : arrV (gA G (shp w S a).1) (shp w S b).2 (fun j => rep G (mkv (arC (shp w S a).1) (cpyF (rdv w S a) (rdv w S b) sp.toNat dp.toNat n.toNat j))) = cx at X' step hheap
      have oq : ∀ q : Nat, q ≠ gad G b → (H.setIfInBounds (gad G b) cx)[q]? = H[q]? := fun q hq => by simp [Array.getElem?_setIfInBounds, Ne.symm hq]
      have hR' : Rel G w (_root_.Jvm.Pilot.@@N@@.wrA S b (cpyF (rdv w S a) (rdv w S b) sp.toNat dp.toNat n.toNat)) (H.setIfInBounds (gad G b) cx) := by
        refine Rel.wrA hw hR (t := (shp w S a).1) (n := (shp w S b).2) (by rw [b1]) (by first | decide | omega) b3 (fun j hj => ?_) (by simp) oq (by rw [hcx]; simp [Array.getElem?_setIfInBounds, hlb])
        unfold cpyF
        split
        · rename_i hq
          exact (c6 (sp.toNat + (j - dp.toNat)) (by first | decide | omega)).2
        · exact hokB j hj
      obtain ⟨t, a1, b1'⟩ := h1.2 _ (locs ++ (cs.stretch (Int32.ofInt sp).toNatClampNeg (Int32.ofInt n).toNatClampNeg).zipIdx.map fun q => ⟨gad G b, (Int32.ofInt dp).toNatClampNeg + q.2⟩) lsC hR' ⟨by simp; exact hS.1, fun q g1 g2 => by
          rw [oq q (fun e => g2 (by rw [e]; exact gad_A h15))]
          exact hS.2.1 q g1 g2, fun q hq => by
          rcases List.mem_append.mp hq with h | h
          · exact hS.2.2 q h
          · obtain ⟨z, -, hz⟩ := List.mem_map.mp h
            rw [← hz]
            exact gad_A h15⟩ hL hv hn hs _ hheap X'
      exact ⟨t, step t a1, b1'⟩
    · cases h
  · cases h
theorem mx32 {x y : Int} (hx : r32 x) (hy : r32 y) : (if Int32.ofInt x < Int32.ofInt y then Int32.ofInt y else Int32.ofInt x) = Int32.ofInt (max x y) := by
  simp only [lt32 hx hy]
  split
  · rw [Int.max_eq_right (by first | decide | omega)]
  · rw [Int.max_eq_left (by first | decide | omega)]
theorem xk_link (hE : EN G s s.heap) {q n : Nat} (hn : n ≠ 9998) (he : (xkl.any fun e => mtc e.1 e.2.1 (ow mi) q && Nat.beq e.2.2.1 n) = true) : (Cond.methodLink (cnm (ow mi)) q (mnm n)).before args s = true := by
  obtain ⟨en, hen, hm⟩ := List.any_eq_true.mp he
  rw [Bool.and_eq_true] at hm
  obtain ⟨m1, m2⟩ := mtc_eq hm.1
  have m3 := Nat.eq_of_beq_eq_true hm.2
  have hl := List.all_eq_true.mp xkl_ok en hen
  rw [m1, m2, m3, Bool.or_eq_true] at hl
  rcases hl with z | z
  · exact absurd (Nat.eq_of_beq_eq_true z) hn
  · exact onT rfl (hE.word z)
theorem cats_tl {v : TV} {r : List TV} {n : Nat} (h : cats (v :: r) ≤ n) : cats r ≤ n := by
  unfold cats at h
  omega
theorem s_intr (hc : CX G p s m meth c mi) (hw : OKW G w) (hrm : SF.1.1 - n0 ≤ R.cells ∧ SF.1.2.1 - s0 ≤ R.slots) (hroom : 1 ≤ R.frames ∧ 64 ≤ R.locals) {q n : Nat} {k2 : List TV → AH → Rs} (hd : decode (byo mi) pc = .ok (.invokestatic q, 3)) (he : (xkl.any fun e => mtc e.1 e.2.1 (ow mi) q && Nat.beq e.2.2.1 n) = true) (hcat : cats st ≤ 20) (h : intr w n st S k2 = some F) (hk : ∀ r S', k2 r S' = some F → PP p l e R s m args below meth c G w mi Q n0 s0 SF (pc + 3) ls r S') : PP p l e R s m args below meth c G w mi Q n0 s0 SF pc ls st S := by
  have hE := hc.2.2.2.2.2.1
  have hG := hE.2.2.2.2.2.2.2.1
  unfold intr at h
  split at h
  · exact s_copy hc hw hroom hd he hcat h hk
  · split at h
    · rename_i y x r
      have h1 := hk _ _ h
      refine ⟨h1.1, fun H locs lsC hR hS hL hv hn hs => ?_⟩
      obtain ⟨v0, hv⟩ := ok_cons hv
      obtain ⟨v1, hv⟩ := ok_cons hv
      have hl := xk_link (args := args) hE (by decide) he
      have hles := h1.1
      unfold LE2 at hles
      refine va_mmax hc.1 hc.2.1 (by rw [hc.2.2.1]; exact hL.2.1.symm) hc.2.2.2.1 hl (onT rfl (hE.word mx_stat)) (onT rfl (hE.word mt_ini)) (onT rfl (hE.word mx_code)) hroom.1 (by rw [cat_sum hG]; have := cats_tl (cats_tl hcat); omega) (by first | decide | omega) (by first | decide | omega) hd ?_
      have e : (if Int32.ofInt x < Int32.ofInt y then Int32.ofInt y else Int32.ofInt x) = Int32.ofInt (max x y) := mx32 v1 v0
      rw [e]
      exact h1.2 H locs lsC hR hS hL (cons_ok (show r32 (max x y) by have v0 : r32 y := v0; have v1 : r32 x := v1; unfold r32 at *; omega) hv) hn hs
    · cases h
  · split at h
    · rename_i y x r
      have h1 := hk _ _ h
      refine ⟨h1.1, fun H locs lsC hR hS hL hv hn hs => ?_⟩
      obtain ⟨v0, hv⟩ := ok_cons hv
      obtain ⟨v1, hv⟩ := ok_cons hv
      have v0 : r32 y := v0
      have v1 : r32 x := v1
      have hl := xk_link (args := args) hE (by decide) he
      have hles := h1.1
      unfold LE2 at hles
      refine va_mmin hc.1 hc.2.1 (by rw [hc.2.2.1]; exact hL.2.1.symm) hc.2.2.2.1 hl (onT rfl (hE.word mn_stat)) (onT rfl (hE.word mt_ini)) (onT rfl (hE.word mn_code)) hroom.1 (by rw [cat_sum hG]; have := cats_tl (cats_tl hcat); omega) (by first | decide | omega) (by first | decide | omega) hd ?_
      have hgo := h1.2 H locs lsC hR hS hL (cons_ok (show r32 (min x y) by unfold r32 at *; omega) hv) hn hs
      rw [List.map_cons] at hgo
      have e : rep G (vi (min x y)) = .int (Int32.ofInt (min x y)) := rfl
      rw [e] at hgo
      simp only [lt32 v0 v1, lt32 v1 v0, le32 v0 v1, le32 v1 v0]
      rcases (show y < x ∨ x ≤ y by omega) with z | z
      · rw [Int.min_eq_right (by first | decide | omega)] at hgo
        first
          | rw [if_pos z]; exact hgo
          | rw [if_neg (by first | decide | omega)]; exact hgo
      · rw [Int.min_eq_left (by first | decide | omega)] at hgo
        first
          | (rw [if_neg (by first | decide | omega)]; exact hgo)
          | (rw [if_pos (by first | decide | omega)]; exact hgo)
          | (split
             · rename_i z2
               have : x = y := by omega
               subst this
               exact hgo
             · exact hgo)
    · cases h
  · split at h
    · rename_i y x r
      have h1 := hk _ _ h
      refine ⟨h1.1, fun H locs lsC hR hS hL hv hn hs => ?_⟩
      obtain ⟨v0, hv⟩ := ok_cons hv
      obtain ⟨v1, hv⟩ := ok_cons hv
      have v0 : r64 y := v0
      have v1 : r64 x := v1
      have hl := xk_link (args := args) hE (by decide) he
      have hles := h1.1
      unfold LE2 at hles
      refine va_mmax_long hc.1 hc.2.1 (by rw [hc.2.2.1]; exact hL.2.1.symm) hc.2.2.2.1 hl (onT rfl (hE.word mL_stat)) (onT rfl (hE.word mt_ini)) (onT rfl (hE.word mL_code)) hroom.1 (by rw [cat_sum hG]; have := cats_tl (cats_tl hcat); omega) (by first | decide | omega) (by first | decide | omega) hd ?_
      have hgo := h1.2 H locs lsC hR hS hL (cons_ok (show r64 (max x y) by unfold r64 at *; omega) hv) hn hs
      rw [List.map_cons] at hgo
      have e : rep G (vl (max x y)) = .long (Int64.ofInt (max x y)) := rfl
      rw [e] at hgo
      simp only [lt64 v0 v1, lt64 v1 v0]
      rcases (show y < x ∨ x ≤ y by omega) with z | z
      · rw [Int.max_eq_left (by first | decide | omega)] at hgo
        rw [if_pos z]; exact hgo
      · rw [Int.max_eq_right (by first | decide | omega)] at hgo
        rw [if_neg (by first | decide | omega)]; exact hgo
    · cases h
  · split at h
    · rename_i y x r
      have h1 := hk _ _ h
      refine ⟨h1.1, fun H locs lsC hR hS hL hv hn hs => ?_⟩
      obtain ⟨v0, hv⟩ := ok_cons hv
      obtain ⟨v1, hv⟩ := ok_cons hv
      have v0 : r64 y := v0
      have v1 : r64 x := v1
      have hl := xk_link (args := args) hE (by decide) he
      have hles := h1.1
      unfold LE2 at hles
      refine va_mmin_long hc.1 hc.2.1 (by rw [hc.2.2.1]; exact hL.2.1.symm) hc.2.2.2.1 hl (onT rfl (hE.word ml_stat)) (onT rfl (hE.word mt_ini)) (onT rfl (hE.word ml_code)) hroom.1 (by rw [cat_sum hG]; have := cats_tl (cats_tl hcat); omega) (by first | decide | omega) (by first | decide | omega) hd ?_
      have hgo := h1.2 H locs lsC hR hS hL (cons_ok (show r64 (min x y) by unfold r64 at *; omega) hv) hn hs
      rw [List.map_cons] at hgo
      have e : rep G (vl (min x y)) = .long (Int64.ofInt (min x y)) := rfl
      rw [e] at hgo
      simp only [lt64 v0 v1, lt64 v1 v0]
      rcases (show x < y ∨ y ≤ x by omega) with z | z
      · rw [Int.min_eq_left (by first | decide | omega)] at hgo
        first
          | (rw [if_pos z]; exact hgo)
          | (rw [if_neg (by first | decide | omega)]; exact hgo)
      · rw [Int.min_eq_right (by first | decide | omega)] at hgo
        first
          | (rw [if_neg (by first | decide | omega)]; exact hgo)
          | (rw [if_pos (by first | decide | omega)]; exact hgo)
          | (split
             · exact hgo
             · rename_i z2
               have : x = y := by omega
               subst this
               exact hgo)
    · cases h
  · cases h
theorem push8 {n : Int} (h : -128 ≤ n ∧ n ≤ 127) : (Int8.ofInt n).toInt32 = Int32.ofInt n := by
  apply Int32.toInt_inj.mp
  rw [Int8.toInt_toInt32, of32 (by unfold r32; omega), Int8.toInt_ofInt]
  show n.bmod 256 = n
  unfold Int.bmod
  dsimp only
  split <;> omega
theorem push16 {n : Int} (h : -32768 ≤ n ∧ n ≤ 32767) : (Int16.ofInt n).toInt32 = Int32.ofInt n := by
  apply Int32.toInt_inj.mp
  rw [Int16.toInt_toInt32, of32 (by unfold r32; omega), Int16.toInt_ofInt]
  show n.bmod 65536 = n
  unfold Int.bmod
  dsimp only
  split <;> omega
theorem lcn (n : Nat) : Int64.ofNat n = Int64.ofInt (n : Int) := (Int64.ofInt_eq_ofNat).symm
theorem getst_ok (hc : CX G p s m meth c mi) {q : Nat} {x : XI} (hI : okI (ow mi) (iniM mi) pc (.getstatic q) x = true) (hd : decode (byo mi) pc = .ok (.getstatic q, 3)) {v : TV} (hv : (match x.1 with
    | 0 => vi x.2.2.1
    | _ => vr x.2.1) = v) : okv v ∧ ∀ (H : Heap) (locs : List Loc) (cells slots : Nat) (lsC : Array Slot) (rest : List Value), va_S (AA G) s.heap H locs → W p l e R s m args below meth c H locs cells slots Q (F0 m (pc + 3) lsC (rep G v :: rest)) → W p l e R s m args below meth c H locs cells slots Q (F0 m pc lsC rest) := by
  have hE := hc.2.2.2.2.2.1
  obtain ⟨z1, z2, z3, z4⟩ := hE.2.2.2.2.2.2.1
  unfold okI at hI
  obtain ⟨en, hen, hm⟩ := List.any_eq_true.mp hI
  rw [Bool.and_eq_true] at hm
  obtain ⟨m1, m2⟩ := mtc_eq hm.1
  have hm2 := hm.2
  have hl := List.all_eq_true.mp gkl_ok en hen
  rw [m1, m2] at hl
  have row : ∀ (C n d : String) (u : Value), va_Z C n d u (AA G) s s.heap → ((en.2.2.2.2 = true → (Cond.fieldLinkNest (cnm (ow mi)) q C n d "SupplyBook").before args s = true) ∧ (en.2.2.2.2 = false → (Cond.fieldLink (cnm (ow mi)) q C n d).before args s = true)) → ∀ (H : Heap) (locs : List Loc) (cells slots : Nat) (lsC : Array Slot) (rest : List Value), va_S (AA G) s.heap H locs → W p l e R s m args below meth c H locs cells slots Q (F0 m (pc + 3) lsC (u :: rest)) → W p l e R s m args below meth c H locs cells slots Q (F0 m pc lsC rest) := by
    intro C n d u hZ hlk H locs cells slots lsC rest hS hk
    cases hn : en.2.2.2.2 with
    | true => exact va_getsN hc.1 hc.2.1 hZ hS hc.2.2.2.1 (hlk.1 hn) (fun _ z => z) hd hk
    | false => exact va_gets hc.1 hc.2.1 hZ hS hc.2.2.2.1 (hlk.2 hn) (fun _ z => z) hd hk
  have lk : ∀ C n d : String, svl.getD en.2.2.1 ("", "", "") = (C, n, d) → ((en.2.2.2.2 = true → (Cond.fieldLinkNest (cnm (ow mi)) q C n d "SupplyBook").before args s = true) ∧ (en.2.2.2.2 = false → (Cond.fieldLink (cnm (ow mi)) q C n d).before args s = true)) := by
    intro C n d hsv
    rw [hsv] at hl
    refine ⟨fun z => ?_, fun z => ?_⟩
    · rw [z] at hl
      exact onT rfl (hE.word hl)
    · rw [z] at hl
      exact onT rfl (hE.word hl)
  match hz : en.2.2.1, hm2 with
  | 0, hm2 =>
    have e := of_decide_eq_true hm2
    subst e
    obtain rfl : v = vr 2 := hv.symm
    refine ⟨trivial, ?_⟩
    have e2 : rep G (vr 2) = .ref (gE G 2) := by
      show rf G 2 = _
      rw [rf_ref (by decide) (by decide)]
      rfl
    rw [e2]
    exact row _ _ _ _ z1 (lk _ _ _ (by rw [hz]; rfl))
  | 1, hm2 =>
    have e := of_decide_eq_true hm2
    subst e
    obtain rfl : v = vr 3 := hv.symm
    refine ⟨trivial, ?_⟩
    have e2 : rep G (vr 3) = .ref (gE G 3) := by
      show rf G 3 = _
      rw [rf_ref (by decide) (by decide)]
      rfl
    rw [e2]
    exact row _ _ _ _ z2 (lk _ _ _ (by rw [hz]; rfl))
  | 2, hm2 =>
    have e := of_decide_eq_true hm2
    subst e
    obtain rfl : v = vi 1 := hv.symm
    refine ⟨by show r32 1; unfold r32; omega, ?_⟩
    exact row _ _ _ _ z3 (lk _ _ _ (by rw [hz]; rfl))
  | 3, hm2 =>
    have e := of_decide_eq_true hm2
    subst e
    obtain rfl : v = vr 14 := hv.symm
    refine ⟨trivial, ?_⟩
    have e2 : rep G (vr 14) = gV G := by
      show rf G 14 = _
      unfold rf
      rw [if_neg (by decide), if_pos rfl]
    rw [e2]
    exact row _ _ _ _ z4 (lk _ _ _ (by rw [hz]; rfl))
  | n + 4, hm2 => cases hm2
end SND
end
section
-- 09i.disp
section SND
variable {p : Program} {l : Launch} {e : Env} {R : Room} {s : State} {m : MethodId} {args : Array Value} {below : List Frame} {meth : Method} {c : Code} {G : GE} {w : WC} {mi : Nat} {Q : State → Prop} {n0 s0 : Nat} {SF : AH} {F : Int × AH} {pc len : Nat} {ls : LV} {st : List TV} {S : AH} {k : KT}
theorem s_iinc (hc : CX G p s m meth c mi) {j : Nat} {n : Int} (hd : decode (byo mi) pc = .ok (.iinc j n, 3)) (h : (match ls[j]? with
    | some (some (.inl a)) => st1 ls j (vi (w32 (a + n))) (fun q => k q st S)
    | _ => none) = some F) (hk : ∀ ls' st' S', k ls' st' S' = some F → PP p l e R s m args below meth c G w mi Q n0 s0 SF (pc + 3) ls' st' S') : PP p l e R s m args below meth c G w mi Q n0 s0 SF pc ls st S := by
  have hG := hc.2.2.2.2.2.1.2.2.2.2.2.2.2.1
  split at h
  · rename_i a hq
    obtain ⟨hj, ls', h1, hl, hs1⟩ := st1_spec h
    have h2 := hk _ _ _ h1
    refine ⟨h2.1, fun H locs lsC hR hS hL hv hn hs => ?_⟩
    have ha : r32 a := (hL.2.2.2 _ _ hq).2
    obtain ⟨i, hi⟩ := List.getElem?_of_mem (lvp_mem (q := (j, rep G (.inl a))).mpr ⟨_, hq, rfl⟩)
    exact lv_iinc (k := i) hc.1 hc.2.1 hd hL.has hi (ofi_add a n).symm (by rw [← hL.1]; exact hj) rfl (fun lsC' h' => h2.2 H locs lsC' hR hS (LR.st1 (v := vi (w32 (a + n))) hG hL (w32_r _) hl hs1 h') hv hn hs)
  · cases h
theorem lnk_long (hE : EN G s s.heap) {q : Nat} {v : Int} (he : (lkl.any fun e => mtc e.1 e.2.1 (ow mi) q && decide (e.2.2.1 = v)) = true) : (Cond.constantLong (cnm (ow mi)) q (Int64.ofInt v)).before args s = true ∧ r64 v := by
  obtain ⟨en, hen, hm⟩ := List.any_eq_true.mp he
  rw [Bool.and_eq_true, decide_eq_true_eq] at hm
  obtain ⟨m1, m2⟩ := mtc_eq hm.1
  have hl := List.all_eq_true.mp lkl_ok en hen
  simp only [Bool.and_eq_true, decide_eq_true_eq] at hl
  rw [m1, m2, hm.2] at hl
  exact ⟨onT rfl (hE.word hl.1.1), hl.1.2, hl.2⟩
theorem lnk_int (hE : EN G s s.heap) {q : Nat} {v : Int} (he : (ikl.any fun e => mtc e.1 e.2.1 (ow mi) q && decide (e.2.2.1 = v)) = true) : (Cond.constant (cnm (ow mi)) q (Int32.ofInt v)).before args s = true ∧ r32 v := by
  obtain ⟨en, hen, hm⟩ := List.any_eq_true.mp he
  rw [Bool.and_eq_true, decide_eq_true_eq] at hm
  obtain ⟨m1, m2⟩ := mtc_eq hm.1
  have hl := List.all_eq_true.mp ikl_ok en hen
  simp only [Bool.and_eq_true, decide_eq_true_eq] at hl
  rw [m1, m2, hm.2] at hl
  exact ⟨onT rfl (hE.word hl.1.1), hl.1.2, hl.2⟩
theorem s_getst (hc : CX G p s m meth c mi) {q : Nat} {x : XI} (hI : okI (ow mi) (iniM mi) pc (.getstatic q) x = true) (hd : decode (byo mi) pc = .ok (.getstatic q, 3)) {v : TV} (hv : (match x.1 with
    | 0 => vi x.2.2.1
    | _ => vr x.2.1) = v) (h1 : PP p l e R s m args below meth c G w mi Q n0 s0 SF (pc + 3) ls (v :: st) S) : PP p l e R s m args below meth c G w mi Q n0 s0 SF pc ls st S := by
  obtain ⟨g1, g2⟩ := getst_ok (l := l) (e := e) (R := R) (args := args) (below := below) (Q := Q) hc hI hd hv
  exact ⟨h1.1, fun H locs lsC hR hS hL hv hn hs => g2 _ _ _ _ _ _ hS (h1.2 H locs lsC hR hS hL (cons_ok g1 hv) hn hs)⟩
set_option maxHeartbeats 4000000 in
/-- an instruction that goes on to the next -/
theorem step_sound (hc : CX G p s m meth c mi) (hw : OKW G w) (hrm : SF.1.1 - n0 ≤ R.cells ∧ SF.1.2.1 - s0 ≤ R.slots) {i : Instr} {x : XI} (hd : decode (byo mi) pc = .ok (i, len)) (hlen : len = lenI i len) (hI : okI (ow mi) (iniM mi) pc i x = true) (h : step w i x ls st S k = some F) (hk : ∀ ls' st' S', k ls' st' S' = some F → PP p l e R s m args below meth c G w mi Q n0 s0 SF (pc + len) ls' st' S') : PP p l e R s m args below meth c G w mi Q n0 s0 SF pc ls st S := by
  have hE := hc.2.2.2.2.2.1
  have hG := hE.2.2.2.2.2.2.2.1
  unfold step at h
  split at h
  · obtain rfl : len = 1 := hlen
    exact s_loadI (fun H locs cells slots lsC rest x hx q => lv_iload_n hc.1 hc.2.1 hd rfl hx q) h hk
  · obtain rfl : len = 2 := hlen
    exact s_loadI (fun H locs cells slots lsC rest x hx q => lv_iload hc.1 hc.2.1 hd hx q) h hk
  · obtain rfl : len = 1 := hlen
    exact s_loadL (fun H locs cells slots lsC rest x hx q => lv_lload_n hc.1 hc.2.1 hd rfl hx q) h hk
  · obtain rfl : len = 2 := hlen
    exact s_loadL (fun H locs cells slots lsC rest x hx q => lv_lload hc.1 hc.2.1 hd hx q) h hk
  · obtain rfl : len = 1 := hlen
    exact s_loadA hG (fun H locs cells slots lsC rest x hx q => lv_aload_n hc.1 hc.2.1 hd rfl hx q) (fun H locs cells slots lsC rest hx q => lv_aload_nN hc.1 hc.2.1 hd rfl hx q) h hk
  · obtain rfl : len = 2 := hlen
    exact s_loadA hG (fun H locs cells slots lsC rest x hx q => lv_aload hc.1 hc.2.1 hd hx q) (fun H locs cells slots lsC rest hx q => lv_aloadN hc.1 hc.2.1 hd hx q) h hk
  · obtain rfl : len = 1 := hlen
    exact s_stoI hG (fun H locs cells slots lsC lv x rest h1 h2 q => lv_istore_n hc.1 hc.2.1 hd rfl h1 h2 rfl q) h hk
  · obtain rfl : len = 2 := hlen
    exact s_stoI hG (fun H locs cells slots lsC lv x rest h1 h2 q => lv_istore hc.1 hc.2.1 hd h1 h2 rfl q) h hk
  · obtain rfl : len = 1 := hlen
    exact s_stoL hG (fun H locs cells slots lsC lv x rest h1 h2 q => lv_lstore_n hc.1 hc.2.1 hd rfl h1 h2 rfl q) h hk
  · obtain rfl : len = 2 := hlen
    exact s_stoL hG (fun H locs cells slots lsC lv x rest h1 h2 q => lv_lstore hc.1 hc.2.1 hd h1 h2 rfl q) h hk
  · obtain rfl : len = 1 := hlen
    exact s_stoA hG (fun H locs cells slots lsC lv x rest h1 h2 q => lv_astore_n hc.1 hc.2.1 hd rfl h1 h2 rfl q) (fun H locs cells slots lsC lv rest h1 h2 q => lv_astore_nN hc.1 hc.2.1 hd rfl h1 h2 rfl q) h hk
  · obtain rfl : len = 2 := hlen
    exact s_stoA hG (fun H locs cells slots lsC lv x rest h1 h2 q => lv_astore hc.1 hc.2.1 hd h1 h2 rfl q) (fun H locs cells slots lsC lv rest h1 h2 q => lv_astoreN hc.1 hc.2.1 hd h1 h2 rfl q) h hk
  · rename_i n
    obtain rfl : len = 1 := hlen
    have hb : -2147483648 ≤ n ∧ n ≤ 2147483647 := of_decide_eq_true hI
    exact s_push (v := vi n) hb (fun H locs cells slots lsC rest q => lv_iconst hc.1 hc.2.1 hd rfl q) (hk _ _ _ h)
  · obtain rfl : len = 2 := hlen
    have hb := of_decide_eq_true hI
    exact s_push (by show r32 _; unfold r32; omega) (fun H locs cells slots lsC rest q => lv_bipush hc.1 hc.2.1 hd (push8 hb) q) (hk _ _ _ h)
  · obtain rfl : len = 3 := hlen
    have hb := of_decide_eq_true hI
    exact s_push (by show r32 _; unfold r32; omega) (fun H locs cells slots lsC rest q => lv_sipush hc.1 hc.2.1 hd (push16 hb) q) (hk _ _ _ h)
  · rename_i n
    obtain rfl : len = 1 := hlen
    exact s_push (v := vl (n.val : Int)) (by show r64 _; unfold r64; omega) (fun H locs cells slots lsC rest q => lv_lconst hc.1 hc.2.1 hd (lcn _) q) (hk _ _ _ h)
  · obtain rfl : len = 1 := hlen
    exact s_push (v := vr 0) trivial (fun H locs cells slots lsC rest q => lv_null hc.1 hc.2.1 hd q) (hk _ _ _ h)
  · obtain rfl : len = 3 := hlen
    have hlk := lnk_long (args := args) hE hI
    exact s_push (v := vl x.2.2.1) hlk.2 (fun H locs cells slots lsC rest q => lv_ldc2 hc.1 hc.2.1 hc.2.2.2.1 hlk.1 hd q) (hk _ _ _ h)
  · obtain rfl : len = 2 := hlen
    unfold okI at hI
    dsimp only at hI
    split at h
    · rename_i hz
      rw [hz] at hI
      have hlk := lnk_int (args := args) hE hI
      exact s_push (v := vi x.2.2.1) hlk.2 (fun H locs cells slots lsC rest q => lv_ldc hc.1 hc.2.1 hc.2.2.2.1 hlk.1 hd q) (hk _ _ _ h)
    · rename_i hz
      split at hI
      · rename_i hz2
        exact absurd hz2 hz
      · simp only [Bool.and_eq_true] at hI
        obtain ⟨⟨i1, i2⟩, i3⟩ := hI
        have i1 := Nat.le_of_ble_eq_true i1
        have i2 := Nat.blt_eq.mp i2
        obtain ⟨m1, m2⟩ := mtc_eq i3
        have hst := (hE.2.2.2.2.2.1 (x.2.1 - 4) (by first | decide | omega)).1
        rw [m1, m2, show 4 + (x.2.1 - 4) = x.2.1 by omega] at hst
        have e2 : rep G (vr x.2.1) = .ref (gE G x.2.1) := by
          show rf G x.2.1 = _
          rw [rf_ref (by first | decide | omega) (by first | decide | omega)]
          unfold gad
          rw [if_pos (by first | decide | omega)]
        exact s_push (v := vr x.2.1) trivial (fun H locs cells slots lsC rest q => va_ldcS hc.1 hc.2.1 hc.2.2.2.1 hst hd (by rw [← e2]; exact q)) (hk _ _ _ h)
  · obtain rfl : len = 3 := hlen
    have hlk := lnk_int (args := args) hE hI
    exact s_push (v := vi x.2.2.1) hlk.2 (fun H locs cells slots lsC rest q => lv_ldcw hc.1 hc.2.1 hc.2.2.2.1 hlk.1 hd q) (hk _ _ _ h)
  · obtain rfl : len = 3 := hlen
    split at h
    · rename_i hz
      exact s_getst hc hI hd (v := vi x.2.2.1) (by rw [hz]; rfl) (hk _ _ _ h)
    · rename_i hz
      exact s_getst hc hI hd (v := vr x.2.1) (by split; rename_i z; exact absurd z hz; rfl) (hk _ _ _ h)
  · obtain rfl : len = 1 := hlen
    exact s_bin (g := fun x y => x + y) (fun x y _ _ => ofi_add x y) (fun x y _ _ => w32_r _) (fun H locs cells slots lsC x y rest q => lv_iadd hc.1 hc.2.1 hd q) h hk
  · obtain rfl : len = 1 := hlen
    exact s_bin (g := fun x y => x - y) (fun x y _ _ => ofi_sub x y) (fun x y _ _ => w32_r _) (fun H locs cells slots lsC x y rest q => lv_isub hc.1 hc.2.1 hd q) h hk
  · obtain rfl : len = 1 := hlen
    exact s_bin (g := fun x y => x * y) (fun x y _ _ => ofi_mul x y) (fun x y _ _ => w32_r _) (fun H locs cells slots lsC x y rest q => lv_imul hc.1 hc.2.1 hd q) h hk
  · obtain rfl : len = 1 := hlen
    exact s_bin (g := fun x y => x &&& y) (fun x y _ _ => to32 _) (fun x y _ _ => i32_r _) (fun H locs cells slots lsC x y rest q => lv_iand hc.1 hc.2.1 hd q) h hk
  · obtain rfl : len = 1 := hlen
    exact s_bin (g := fun x y => x ||| y) (fun x y _ _ => to32 _) (fun x y _ _ => i32_r _) (fun H locs cells slots lsC x y rest q => lv_ior hc.1 hc.2.1 hd q) h hk
  · obtain rfl : len = 1 := hlen
    exact s_bin (g := fun x y => x ^^^ y) (fun x y _ _ => to32 _) (fun x y _ _ => i32_r _) (fun H locs cells slots lsC x y rest q => lv_ixor hc.1 hc.2.1 hd q) h hk
  · obtain rfl : len = 1 := hlen
    exact s_bin (g := fun x y => x <<< (y &&& 31)) (fun x y _ _ => to32 _) (fun x y _ _ => i32_r _) (fun H locs cells slots lsC x y rest q => lv_ishl hc.1 hc.2.1 hd q) h hk
  · obtain rfl : len = 1 := hlen
    exact s_bin (g := fun x y => x >>> (y &&& 31)) (fun x y _ _ => to32 _) (fun x y _ _ => i32_r _) (fun H locs cells slots lsC x y rest q => lv_ishr hc.1 hc.2.1 hd q) h hk
  · obtain rfl : len = 1 := hlen
    exact s_bin (g := fun x y => (x.toUInt32 >>> (y.toUInt32 &&& Int32.toUInt32 31)).toInt32) (fun x y _ _ => to32 _) (fun x y _ _ => i32_r _) (fun H locs cells slots lsC x y rest q => lv_iushr hc.1 hc.2.1 hd rfl q) h hk
  · obtain rfl : len = 1 := hlen
    exact s_binL (g := fun x y => x + y) (fun x y _ _ => ofl_add x y) (fun x y _ _ => w64_r _) (fun H locs cells slots lsC x y rest q => lv_ladd hc.1 hc.2.1 hd q) h hk
  · obtain rfl : len = 1 := hlen
    exact s_binL (g := fun x y => x - y) (fun x y _ _ => ofl_sub x y) (fun x y _ _ => w64_r _) (fun H locs cells slots lsC x y rest q => lv_lsub hc.1 hc.2.1 hd q) h hk
  · obtain rfl : len = 1 := hlen
    exact s_binL (g := fun x y => x * y) (fun x y _ _ => ofl_mul x y) (fun x y _ _ => w64_r _) (fun H locs cells slots lsC x y rest q => lv_lmul hc.1 hc.2.1 hd q) h hk
  · obtain rfl : len = 1 := hlen
    exact s_binL (g := fun x y => x &&& y) (fun x y _ _ => to64 _) (fun x y _ _ => i64_r _) (fun H locs cells slots lsC x y rest q => lv_land hc.1 hc.2.1 hd q) h hk
  · obtain rfl : len = 1 := hlen
    exact s_binL (g := fun x y => x ||| y) (fun x y _ _ => to64 _) (fun x y _ _ => i64_r _) (fun H locs cells slots lsC x y rest q => lv_lor hc.1 hc.2.1 hd q) h hk
  · obtain rfl : len = 1 := hlen
    exact s_binL (g := fun x y => x ^^^ y) (fun x y _ _ => to64 _) (fun x y _ _ => i64_r _) (fun H locs cells slots lsC x y rest q => lv_lxor hc.1 hc.2.1 hd q) h hk
  · obtain rfl : len = 1 := hlen
    exact s_shL (g := fun x y => x <<< (y.toInt64 &&& 63)) (fun x y _ _ => to64 _) (fun x y _ _ => i64_r _) (fun H locs cells slots lsC x y rest q => lv_lshl hc.1 hc.2.1 hd rfl q) h hk
  · obtain rfl : len = 1 := hlen
    exact s_shL (g := fun x y => (x.toUInt64 >>> (y.toInt64.toUInt64 &&& Int64.toUInt64 63)).toInt64) (fun x y _ _ => to64 _) (fun x y _ _ => i64_r _) (fun H locs cells slots lsC x y rest q => lv_lushr hc.1 hc.2.1 hd rfl q) h hk
  · obtain rfl : len = 1 := hlen
    exact s_dvI (g := fun x y => x / y) (fun x y hx hy _ => ofi_div hx hy) (fun x y _ _ _ => w32_r _) (fun H locs cells slots lsC x y rest h0 q => lv_idiv hc.1 hc.2.1 hd h0 q) h hk
  · obtain rfl : len = 1 := hlen
    exact s_dvI (g := fun x y => x - x / y * y) (fun x y hx hy h0 => ofi_rem hx hy h0) (fun x y hx _ h0 => rem32_r h0 hx) (fun H locs cells slots lsC x y rest h0 q => lv_irem hc.1 hc.2.1 hd h0 q) h hk
  · obtain rfl : len = 1 := hlen
    exact s_dvL (g := fun x y => x / y) (fun x y hx hy _ => ofl_div hx hy) (fun x y _ _ _ => w64_r _) (fun H locs cells slots lsC x y rest h0 q => lv_ldiv hc.1 hc.2.1 hd h0 q) h hk
  · obtain rfl : len = 1 := hlen
    exact s_dvL (g := fun x y => x - x / y * y) (fun x y hx hy h0 => ofl_rem hx hy h0) (fun x y hx _ h0 => rem64_r h0 hx) (fun H locs cells slots lsC x y rest h0 q => lv_lrem hc.1 hc.2.1 hd h0 q) h hk
  · obtain rfl : len = 1 := hlen
    split at h
    · rename_i a r
      refine (hk _ _ _ h).stk (fun hv => ?_) (fun H locs cells slots lsC hv q => ?_)
      · exact cons_ok (w64_r _) (ok_cons hv).2
      · have q : W p l e R s m args below meth c H locs cells slots Q (F0 m (pc + 1) lsC (.long (Int64.ofInt (w64 (-a))) :: r.map (rep G))) := q
        rw [ofl_neg] at q
        exact lv_lneg hc.1 hc.2.1 hd q
    · cases h
  · obtain rfl : len = 1 := hlen
    exact s_una (g := fun x => x.toInt8.toInt32) (fun x hx => (ofi_i2b hx).symm) (fun x _ => by have := w8_r x; unfold r32; omega) (fun H locs cells slots lsC x rest q => lv_i2b hc.1 hc.2.1 hd rfl q) h hk
  · obtain rfl : len = 1 := hlen
    exact s_una (g := fun x => (x.toUInt32 % 65536).toInt32) (fun x hx => (ofi_i2c hx).symm) (fun x _ => by unfold w16u r32; omega) (fun H locs cells slots lsC x rest q => lv_i2c hc.1 hc.2.1 hd rfl q) h hk
  · obtain rfl : len = 1 := hlen
    split at h
    · rename_i a r
      refine (hk _ _ _ h).stk (fun hv => ?_) (fun H locs cells slots lsC hv q => ?_)
      · have ha : r32 a := (ok_cons hv).1
        exact cons_ok (show r64 a by unfold r32 at ha; unfold r64; omega) (ok_cons hv).2
      · exact lv_i2l hc.1 hc.2.1 hd (ofl_i2l (ok_cons hv).1) q
    · cases h
  · obtain rfl : len = 1 := hlen
    split at h
    · rename_i a r
      refine (hk _ _ _ h).stk (fun hv => ?_) (fun H locs cells slots lsC hv q => ?_)
      · exact cons_ok (w32_r a) (ok_cons hv).2
      · exact lv_l2i hc.1 hc.2.1 hd ofi_l2i q
    · cases h
  · obtain rfl : len = 1 := hlen
    split at h
    · rename_i y z r
      refine (hk _ _ _ h).stk (fun hv => ?_) (fun H locs cells slots lsC hv q => ?_)
      · exact cons_ok (lcmp_r z y) (ok_cons (ok_cons hv).2).2
      · have q : W p l e R s m args below meth c H locs cells slots Q (F0 m (pc + 1) lsC (.int (Int32.ofInt (lcmp z y)) :: r.map (rep G))) := q
        rw [ofi_cmp (ok_cons (ok_cons hv).2).1 (ok_cons hv).1] at q
        exact W.lcmp hc.1 hc.2.1 hd q
    · cases h
  · obtain rfl : len = 3 := hlen
    exact s_iinc hc hd h hk
  · obtain rfl : len = 1 := hlen
    split at h
    · exact (hk _ _ _ h).stk (fun hv => cons_ok (ok_cons hv).1 hv) (fun H locs cells slots lsC hv q => lv_dup hc.1 hc.2.1 hd rfl q)
    · rename_i a r
      refine (hk _ _ _ h).stk (fun hv => cons_ok (ok_cons hv).1 hv) (fun H locs cells slots lsC hv q => lv_dup hc.1 hc.2.1 hd ?_ q)
      rw [rep_cat hG]
      rfl
    · cases h
  · obtain rfl : len = 1 := hlen
    split at h
    · exact (hk _ _ _ h).stk (fun hv => cons_ok (ok_cons hv).1 hv) (fun H locs cells slots lsC hv q => lv_dup2_2 hc.1 hc.2.1 hd rfl q)
    · rename_i a b r
      refine (hk _ _ _ h).stk (fun hv => cons_ok (ok_cons hv).1 (cons_ok (ok_cons (ok_cons hv).2).1 hv)) (fun H locs cells slots lsC hv q => lv_dup2_11 hc.1 hc.2.1 hd rfl ?_ q)
      rw [rep_cat hG]
      rfl
    · exact (hk _ _ _ h).stk (fun hv => cons_ok (ok_cons hv).1 (cons_ok (ok_cons (ok_cons hv).2).1 hv)) (fun H locs cells slots lsC hv q => lv_dup2_11 hc.1 hc.2.1 hd rfl rfl q)
    · cases h
  · obtain rfl : len = 1 := hlen
    split at h
    · exact (hk _ _ _ h).stk (fun hv => (ok_cons hv).2) (fun H locs cells slots lsC hv q => lv_pop hc.1 hc.2.1 hd rfl q)
    · rename_i a r
      refine (hk _ _ _ h).stk (fun hv => (ok_cons hv).2) (fun H locs cells slots lsC hv q => lv_pop hc.1 hc.2.1 hd ?_ q)
      rw [rep_cat hG]
      rfl
    · cases h
  · obtain rfl : len = 1 := hlen
    split at h
    · exact (hk _ _ _ h).stk (fun hv => (ok_cons hv).2) (fun H locs cells slots lsC hv q => lv_pop2_2 hc.1 hc.2.1 hd rfl q)
    · cases h
  · obtain rfl : len = 3 := hlen
    exact s_getF hc hw hd hI h hk
  · obtain rfl : len = 3 := hlen
    exact s_putF hc hw hd hI h hk
  · obtain rfl : len = 1 := hlen
    exact s_aldI hc hw hd h hk
  · obtain rfl : len = 1 := hlen
    exact s_aldL hc hw hd h hk
  · obtain rfl : len = 1 := hlen
    exact s_aldB hc hw hd h hk
  · obtain rfl : len = 1 := hlen
    exact s_aldA hc hw hd h hk
  · obtain rfl : len = 1 := hlen
    exact s_astI hc hw hd h hk
  · obtain rfl : len = 1 := hlen
    exact s_astL hc hw hd h hk
  · obtain rfl : len = 1 := hlen
    exact s_astB hc hw hd h hk
  · obtain rfl : len = 1 := hlen
    exact s_astA hc hw hd h hk
  · obtain rfl : len = 1 := hlen
    exact s_alen hc hw hd h hk
  · obtain rfl : len = 3 := hlen
    exact s_new hc hw hrm hd hI (hk _ _ _ h)
  · obtain rfl : len = 2 := hlen
    exact s_newarr hc hw hrm hd h hk
  · obtain rfl : len = 3 := hlen
    exact s_anew hc hw hrm hd hI h hk
  · obtain rfl : len = 3 := hlen
    split at h
    · obtain ⟨hb, h⟩ := gd_some h
      rw [Bool.and_eq_true] at hb
      exact s_cast hc hw hd hI (Nat.eq_of_beq_eq_true hb.1) (Nat.le_of_ble_eq_true hb.2) (hk _ _ _ h)
    · cases h
  · cases h
end SND
end
