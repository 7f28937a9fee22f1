/-! the world behind the two constructors, printed by wip/p/gen/world.py -/
noncomputable def shl (L : Nat) : List (Nat × Nat) := [(99, 0), (2, L), (2, 4), (2, 5), (23, 2), (23, 2), (23, 2), (23, 2), (23, 2), (0, 7), (0, 6), (0, 3), (0, 3), (0, 5), (98, 0), (10, 14), (0, 400), (17, 6), (3, 40), (2, 16), (2, 16), (3, 16), (18, 13), (2, 16), (2, 16), (0, 0), (3, 7), (19, 3), (0, 0), (2, 0), (2, 0), (15, 5), (4, 20), (2, 20), (2, 20), (2, 20), (20, 8), (5, 80), (2, 20), (2, 20), (2, 20), (2, 20), (3, 200), (13, 10), (6, 300), (2, 300), (2, 10), (2, 100), (2, 100), (2, 100), (14, 9), (2, 14), (2, 14), (3, 15), (21, 11), (2, 3120), (3, 520), (2, 9), (2, 9), (2, 9), (2, 9), (3, 52), (3, 52), (16, 12), (2, 12), (2, 12), (2, 12), (2, 12), (2, 30), (2, 30), (2, 30), (2, 30), (22, 107), (0, 400), (2, 40), (2, 16), (2, 16), (3, 16), (2, 100), (2, 1600), (2, 1600), (2, 1600), (2, 1600), (2, 1600), (2, 20000), (2, 20000), (2, 16), (2, 16), (2, 16), (2, 16), (2, 16), (2, 220), (2, 220), (2, 220), (2, 20), (2, 20), (1, 320), (2, 80), (2, 80), (2, 80), (2, 80), (2, 80), (2, 80), (2, 80), (2, 80), (1, 80), (3, 80), (3, 80), (2, 300), (2, 300), (2, 300), (2, 300), (2, 300), (1, 300), (2, 300), (2, 300), (2, 300), (2, 300), (2, 300), (1, 300), (1, 300), (1, 300), (2, 300), (3, 300), (2, 20), (2, 20), (2, 20), (2, 20), (3, 220), (1, 220), (2, 14), (2, 14), (1, 14), (3, 3120), (3, 520), (2, 9), (2, 9), (2, 9), (2, 9), (2, 12), (2, 12), (1, 12), (2, 30), (2, 30), (2, 30), (2, 30), (2, 10), (2, 100), (2, 100), (2, 100), (3, 52)]
noncomputable def fnl : List (List (Option Int)) := [[],
  [],
  [some 0, some 2, some 3, some 4],
  [some 10, some 0, some 0, some 0, some 30],
  [some 9, some 0],
  [some 10, some 0],
  [some 11, some 0],
  [some 12, some 0],
  [some 13, some 0],
  [some 97, some 121, some 104, some 107, some 114, some 113, some 108],
  [some 109, some 99, some 98, some 101, some 100, some 120],
  [some 60, some 62, some 61],
  [some 42, some 47, some 37],
  [some 109, some 99, some 98, some 101, some 100],
  [],
  [none, none, none, some 16, none, some 17, some 22, some 27, some 31, some 36, some 43, some 50, some 54, some 63],
  [],
  [some 18, none, some 19, some 20, some 21, none],
  [],
  [],
  [],
  [],
  [some 23, some 24, none, none, none, none, none, none, none, none, some 26, none, none],
  [],
  [],
  [],
  [],
  [some 28, some 29, some 30],
  [],
  [],
  [],
  [some 32, some 33, some 34, some 35, none],
  [],
  [],
  [],
  [],
  [some 37, none, some 38, some 39, some 40, some 41, some 42, none],
  [],
  [],
  [],
  [],
  [],
  [],
  [some 44, none, some 45, none, none, some 46, some 47, some 48, some 49, none],
  [],
  [],
  [],
  [],
  [],
  [],
  [some 51, some 52, some 53, none, none, none, none, none, none],
  [],
  [],
  [],
  [some 55, none, some 56, some 57, some 58, some 59, some 60, none, some 61, some 150, some 62],
  [],
  [],
  [],
  [],
  [],
  [],
  [],
  [],
  [some 64, some 65, none, some 66, some 67, none, some 68, some 69, some 70, some 71, none, none],
  [],
  [],
  [],
  [],
  [],
  [],
  [],
  [],
  [some 73, none, none, none, none, none, some 74, some 75, some 76, some 77, some 78, some 79, some 80, some 81, some 82, some 83, some 84, some 85, none, none, none, none, none, none, none, none, none, some 86, some 87, some 88, some 89, some 90, some 91, some 92, some 93, none, none, some 94, some 95, some 96, none, some 97, some 98, some 99, some 100, some 101, some 102, some 103, some 104, some 105, some 106, some 107, none, none, some 108, some 109, some 110, some 111, some 112, some 113, some 114, some 115, some 116, some 117, some 118, some 119, some 120, some 121, some 122, some 123, none, some 124, some 125, some 126, some 127, none, none, some 128, some 129, none, some 130, some 131, some 132, some 133, some 134, none, none, none, some 135, some 136, some 137, some 138, none, none, some 139, some 140, some 141, some 142, some 143, some 144, some 145, some 146, none, some 147, some 148, some 149, none],
  [],
  [],
  [],
  [],
  [],
  [],
  [],
  [],
  [],
  [],
  [],
  [],
  [],
  [],
  [],
  [],
  [],
  [],
  [],
  [],
  [],
  [],
  [],
  [],
  [],
  [],
  [],
  [],
  [],
  [],
  [],
  [],
  [],
  [],
  [],
  [],
  [],
  [],
  [],
  [],
  [],
  [],
  [],
  [],
  [],
  [],
  [],
  [],
  [],
  [],
  [],
  [],
  [],
  [],
  [],
  [],
  [],
  [],
  [],
  [],
  [],
  [],
  [],
  [],
  [],
  [],
  [],
  [],
  [],
  [],
  [],
  [],
  [],
  [],
  [],
  [],
  [],
  []]
noncomputable def WK (L : Nat) (xs : Nat → Int) : WC := (151, fun a => (shl L).getD a (99, 0), fun a => match a with
  | 1 => fun k => some (xs k)
  | a => fun k => (fnl.getD a []).getD k none)

noncomputable def S_0 : AH := ((15, 0, fun _ => (99, 0)), fun _ _ => 0)
/-- the world of the constructors: the script is out of reach -/
noncomputable def w0 : WC := (15, fun a => match a with
  | 1 => (99, 0)
  | a => xsh 0 a, fun a => match a with
  | 1 => fun _ => none
  | a => fun k => (xcl.getD a []).getD k none)
noncomputable def K0 : KP := fun pc ls st S => match Nat.beq pc 18 && decide (ls = [some (vr 1), some (vr 15), some (vr 73), some (vi 0)]) && st.isEmpty with
  | true => some (0, S)
  | false => none
noncomputable def G0 : Rs := go w0 (evc w0 4) K0 (csOf 0) (rtOf 0) 4000 true (cde (csOf 0) 0) (ent (mlOf 0) [vr 1]) [] S_0
/-- behind the constructors, the cells in the order in which they are made -/
noncomputable def S1 : AH := (G0.getD (0, S_0)).2
/-- the cell a is the pm a-th that was made -/
noncomputable def pm (a : Nat) : Nat := if a < 62 then a else if a < 150 then a + 1 else if a = 150 then 62 else a
noncomputable def pv (r : Nat) : Nat := if r < 62 then r else if r = 62 then 150 else if r ≤ 150 then r - 1 else r
noncomputable def isRf (t k : Nat) : Bool := (Nat.ble 4 t && Nat.ble t 6) || (Nat.ble 10 t && Nat.beq (fcd (t - 10) k) 2)
noncomputable def pvx (b : Bool) (x : Int) : Int := match b with
  | true => ((pv x.toNat : Nat) : Int)
  | false => x
/-- the same state, the cells numbered otherwise -/
noncomputable def smv (S : AH) : AH := ((S.1.1, S.1.2.1, fun a => S.1.2.2 (pm a)), fun a k => pvx (isRf (S.1.2.2 (pm a)).1 k) (S.2 (pm a) k))
theorem smv_1 (S : AH) : (smv S).1.1 = S.1.1 := rfl
theorem smv_2 (S : AH) : (smv S).1.2.1 = S.1.2.1 := rfl
theorem smv_3 (S : AH) (a : Nat) : (smv S).1.2.2 a = S.1.2.2 (pm a) := rfl
theorem smv_4 (S : AH) (a k : Nat) : (smv S).2 a k = pvx (isRf (S.1.2.2 (pm a)).1 k) (S.2 (pm a) k) := rfl
/-- behind the constructors -/
noncomputable def SS : AH := smv S1
theorem SS_c : SS.1.1 = S1.1.1 := by
  unfold SS
  exact smv_1 S1
theorem SS_s : SS.1.2.1 = S1.1.2.1 := by
  unfold SS
  exact smv_2 S1
theorem G0_some : G0.isSome = true := by decide +kernel
theorem SS_cells : SS.1.1 = 151 := by decide +kernel
theorem SS_slots : SS.1.2.1 = 66190 := by decide +kernel
theorem SS_shape : ((List.range 151).all fun a => Nat.blt a 15 || decide (SS.1.2.2 a = (shl 0).getD a (99, 0))) = true := by decide +kernel
theorem SS_fin : ((List.range 151).all fun a => Nat.blt a 15 || (List.range 107).all fun k => match (fnl.getD a []).getD k none with
  | some c => decide (SS.2 a k = c)
  | none => true) = true := by decide +kernel
theorem fnl_len : (fnl.all fun l => Nat.ble l.length 107) = true := by decide +kernel
