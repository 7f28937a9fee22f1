section
-- 09q.world
/-! the world behind the two constructors, printed by wip/p/gen/world.py -/
noncomputable def shl (L : Nat) : List (Nat × Nat) := [(99, 0), (2, L), (2, 4), (2, 5), (23, 2), (23, 2), (23, 2), (23, 2), (23, 2), (0, 7), (0, 6), (0, 3), (0, 3), (0, 5), (98, 0), (10, 14), (0, 400), (17, 6), (3, 40), (2, 16), (2, 16), (3, 16), (18, 13), (2, 16), (2, 16), (0, 0), (3, 7), (19, 3), (0, 0), (2, 0), (2, 0), (15, 5), (4, 20), (2, 20), (2, 20), (2, 20), (20, 8), (5, 80), (2, 20), (2, 20), (2, 20), (2, 20), (3, 200), (13, 10), (6, 300), (2, 300), (2, 10), (2, 100), (2, 100), (2, 100), (14, 9), (2, 14), (2, 14), (3, 15), (21, 11), (2, 3120), (3, 520), (2, 9), (2, 9), (2, 9), (2, 9), (3, 52), (3, 52), (16, 12), (2, 12), (2, 12), (2, 12), (2, 12), (2, 30), (2, 30), (2, 30), (2, 30), (22, 107), (0, 400), (2, 40), (2, 16), (2, 16), (3, 16), (2, 100), (2, 1600), (2, 1600), (2, 1600), (2, 1600), (2, 1600), (2, 20000), (2, 20000), (2, 16), (2, 16), (2, 16), (2, 16), (2, 16), (2, 220), (2, 220), (2, 220), (2, 20), (2, 20), (1, 320), (2, 80), (2, 80), (2, 80), (2, 80), (2, 80), (2, 80), (2, 80), (2, 80), (1, 80), (3, 80), (3, 80), (2, 300), (2, 300), (2, 300), (2, 300), (2, 300), (1, 300), (2, 300), (2, 300), (2, 300), (2, 300), (2, 300), (1, 300), (1, 300), (1, 300), (2, 300), (3, 300), (2, 20), (2, 20), (2, 20), (2, 20), (3, 220), (1, 220), (2, 14), (2, 14), (1, 14), (3, 3120), (3, 520), (2, 9), (2, 9), (2, 9), (2, 9), (2, 12), (2, 12), (1, 12), (2, 30), (2, 30), (2, 30), (2, 30), (2, 10), (2, 100), (2, 100), (2, 100), (3, 52)]
noncomputable def fnl : List (List (Option Int)) := [[],
  [],
  [some 0, some 2, some 3, some 4],
  [some 10, some 0, some 0, some 0, some 30],
  [some 9, some 0],
  [some 10, some 0],
  [some 11, some 0],
  [some 12, some 0],
  [some 13, some 0],
  [some 97, some 121, some 104, some 107, some 114, some 113, some 108],
  [some 109, some 99, some 98, some 101, some 100, some 120],
  [some 60, some 62, some 61],
  [some 42, some 47, some 37],
  [some 109, some 99, some 98, some 101, some 100],
  [],
  [none, none, none, some 16, none, some 17, some 22, some 27, some 31, some 36, some 43, some 50, some 54, some 63],
  [],
  [some 18, none, some 19, some 20, some 21, none],
  [],
  [],
  [],
  [],
  [some 23, some 24, none, none, none, none, none, none, none, none, some 26, none, none],
  [],
  [],
  [],
  [],
  [some 28, some 29, some 30],
  [],
  [],
  [],
  [some 32, some 33, some 34, some 35, none],
  [],
  [],
  [],
  [],
  [some 37, none, some 38, some 39, some 40, some 41, some 42, none],
  [],
  [],
  [],
  [],
  [],
  [],
  [some 44, none, some 45, none, none, some 46, some 47, some 48, some 49, none],
  [],
  [],
  [],
  [],
  [],
  [],
  [some 51, some 52, some 53, none, none, none, none, none, none],
  [],
  [],
  [],
  [some 55, none, some 56, some 57, some 58, some 59, some 60, none, some 61, some 150, some 62],
  [],
  [],
  [],
  [],
  [],
  [],
  [],
  [],
  [some 64, some 65, none, some 66, some 67, none, some 68, some 69, some 70, some 71, none, none],
  [],
  [],
  [],
  [],
  [],
  [],
  [],
  [],
  [some 73, none, none, none, none, none, some 74, some 75, some 76, some 77, some 78, some 79, some 80, some 81, some 82, some 83, some 84, some 85, none, none, none, none, none, none, none, none, none, some 86, some 87, some 88, some 89, some 90, some 91, some 92, some 93, none, none, some 94, some 95, some 96, none, some 97, some 98, some 99, some 100, some 101, some 102, some 103, some 104, some 105, some 106, some 107, none, none, some 108, some 109, some 110, some 111, some 112, some 113, some 114, some 115, some 116, some 117, some 118, some 119, some 120, some 121, some 122, some 123, none, some 124, some 125, some 126, some 127, none, none, some 128, some 129, none, some 130, some 131, some 132, some 133, some 134, none, none, none, some 135, some 136, some 137, some 138, none, none, some 139, some 140, some 141, some 142, some 143, some 144, some 145, some 146, none, some 147, some 148, some 149, none],
  [],
  [],
  [],
  [],
  [],
  [],
  [],
  [],
  [],
  [],
  [],
  [],
  [],
  [],
  [],
  [],
  [],
  [],
  [],
  [],
  [],
  [],
  [],
  [],
  [],
  [],
  [],
  [],
  [],
  [],
  [],
  [],
  [],
  [],
  [],
  [],
  [],
  [],
  [],
  [],
  [],
  [],
  [],
  [],
  [],
  [],
  [],
  [],
  [],
  [],
  [],
  [],
  [],
  [],
  [],
  [],
  [],
  [],
  [],
  [],
  [],
  [],
  [],
  [],
  [],
  [],
  [],
  [],
  [],
  [],
  [],
  [],
  [],
  [],
  [],
  [],
  [],
  []]
noncomputable def WK (L : Nat) (xs : Nat → Int) : WC := (151, fun a => (shl L).getD a (99, 0), fun a => match a with
  | 1 => fun k => some (xs k)
  | a => fun k => (fnl.getD a []).getD k none)

noncomputable def S_0 : AH := ((15, 0, fun _ => (99, 0)), fun _ _ => 0)
/-- the world of the constructors: the script is out of reach -/
noncomputable def w0 : WC := (15, fun a => match a with
  | 1 => (99, 0)
  | a => xsh 0 a, fun a => match a with
  | 1 => fun _ => none
  | a => fun k => (xcl.getD a []).getD k none)
noncomputable def K0 : KP := fun pc ls st S => match Nat.beq pc 18 && decide (ls = [some (vr 1), some (vr 15), some (vr 73), some (vi 0)]) && st.isEmpty with
  | true => some (0, S)
  | false => none
noncomputable def G0 : Rs := go w0 (evc w0 4) K0 (csOf 0) (rtOf 0) 4000 true (cde (csOf 0) 0) (ent (mlOf 0) [vr 1]) [] S_0
/-- behind the constructors, the cells in the order in which they are made -/
noncomputable def S1 : AH := (G0.getD (0, S_0)).2
/-- the cell a is the pm a-th that was made -/
noncomputable def pm (a : Nat) : Nat := if a < 62 then a else if a < 150 then a + 1 else if a = 150 then 62 else a
noncomputable def pv (r : Nat) : Nat := if r < 62 then r else if r = 62 then 150 else if r ≤ 150 then r - 1 else r
noncomputable def isRf (t k : Nat) : Bool := (Nat.ble 4 t && Nat.ble t 6) || (Nat.ble 10 t && Nat.beq (fcd (t - 10) k) 2)
noncomputable def pvx (b : Bool) (x : Int) : Int := match b with
  | true => ((pv x.toNat : Nat) : Int)
  | false => x
/-- the same state, the cells numbered otherwise -/
noncomputable def smv (S : AH) : AH := ((S.1.1, S.1.2.1, fun a => S.1.2.2 (pm a)), fun a k => pvx (isRf (S.1.2.2 (pm a)).1 k) (S.2 (pm a) k))
theorem smv_1 (S : AH) : (smv S).1.1 = S.1.1 := rfl
theorem smv_2 (S : AH) : (smv S).1.2.1 = S.1.2.1 := rfl
theorem smv_3 (S : AH) (a : Nat) : (smv S).1.2.2 a = S.1.2.2 (pm a) := rfl
theorem smv_4 (S : AH) (a k : Nat) : (smv S).2 a k = pvx (isRf (S.1.2.2 (pm a)).1 k) (S.2 (pm a) k) := rfl
/-- behind the constructors -/
noncomputable def SS : AH := smv S1
theorem SS_c : SS.1.1 = S1.1.1 := by
  unfold SS
  exact smv_1 S1
theorem SS_s : SS.1.2.1 = S1.1.2.1 := by
  unfold SS
  exact smv_2 S1
theorem G0_some : G0.isSome = true := by decide +kernel
theorem SS_cells : SS.1.1 = 151 := by decide +kernel
theorem SS_slots : SS.1.2.1 = 66190 := by decide +kernel
theorem SS_shape : ((List.range 151).all fun a => Nat.blt a 15 || decide (SS.1.2.2 a = (shl 0).getD a (99, 0))) = true := by decide +kernel
theorem SS_fin : ((List.range 151).all fun a => Nat.blt a 15 || (List.range 107).all fun k => match (fnl.getD a []).getD k none with
  | some c => decide (SS.2 a k = c)
  | none => true) = true := by decide +kernel
theorem fnl_len : (fnl.all fun l => Nat.ble l.length 107) = true := by decide +kernel
end
section
-- 09r.pure
/-! a path goes one way -/
noncomputable def Pl (F : KT → Rs) : Prop := (∀ k, F k = none) ∨ ∃ a b c, ∀ k : KT, F k = k a b c
theorem Pl.ap (a : LV) (b : List TV) (c : AH) : Pl (fun k => k a b c) := Or.inr ⟨a, b, c, fun _ => rfl⟩
theorem Pl.no : Pl (fun _ => none) := Or.inl fun _ => rfl
theorem Pl.gd {b : Bool} {F : KT → Rs} (h : Pl F) : Pl (fun k => gd b (F k)) := by
  cases b
  · exact Pl.no
  · exact h
theorem Pl.it {c : Prop} [Decidable c] {F G : KT → Rs} (hF : Pl F) (hG : Pl G) : Pl (fun k => if c then F k else G k) := by
  by_cases hc : c
  · simp only [if_pos hc]; exact hF
  · simp only [if_neg hc]; exact hG
theorem Pl.ck {c : Nat} {v : Int} {F : KT → Rs} (hF : Pl F) : Pl (fun k => ckZ c v (F k)) := by
  unfold ckZ
  split
  · exact Pl.it hF Pl.no
  · exact Pl.it hF Pl.no
  · exact Pl.it hF Pl.no
  · exact hF
theorem pl_setK {ls : LV} {i : Nat} {v : Option TV} {F : LV → KT → Rs} (h : ∀ q, Pl (F q)) : Pl (fun k => setK ls i v (fun q => F q k)) := by
  simp only [setK_eq]
  exact Pl.it (h _) Pl.no
theorem pl_st1 {ls : LV} {i : Nat} {v : TV} {F : LV → KT → Rs} (h : ∀ q, Pl (F q)) : Pl (fun k => st1 ls i v (fun q => F q k)) := by
  unfold st1
  split
  · exact pl_setK h
  · split
    · exact pl_setK fun q => pl_setK h
    · exact pl_setK h
theorem pl_st2 {ls : LV} {i : Nat} {v : TV} {F : LV → KT → Rs} (h : ∀ q, Pl (F q)) : Pl (fun k => st2 ls i v (fun q => F q k)) := pl_st1 fun q => pl_setK h
theorem pl_loadI {ls : LV} {i : Nat} {st : List TV} {S : AH} : Pl (loadI ls i st S) := by
  unfold loadI
  split
  · exact Pl.ap _ _ _
  · exact Pl.no
theorem pl_loadL {ls : LV} {i : Nat} {st : List TV} {S : AH} : Pl (loadL ls i st S) := by
  unfold loadL
  split
  · exact Pl.ap _ _ _
  · exact Pl.no
theorem pl_loadA {ls : LV} {i : Nat} {st : List TV} {S : AH} : Pl (loadA ls i st S) := by
  unfold loadA
  split
  · exact Pl.ap _ _ _
  · exact Pl.no
theorem pl_stoI {ls : LV} {i : Nat} {st : List TV} {S : AH} : Pl (stoI ls i st S) := by
  unfold stoI
  split
  · exact pl_st1 fun q => Pl.ap _ _ _
  · exact Pl.no
theorem pl_stoL {ls : LV} {i : Nat} {st : List TV} {S : AH} : Pl (stoL ls i st S) := by
  unfold stoL
  split
  · exact pl_st2 fun q => Pl.ap _ _ _
  · exact Pl.no
theorem pl_stoA {ls : LV} {i : Nat} {st : List TV} {S : AH} : Pl (stoA ls i st S) := by
  unfold stoA
  split
  · exact pl_st1 fun q => Pl.ap _ _ _
  · exact Pl.no
theorem pl_bin {f : Int → Int → Int} {ls : LV} {st : List TV} {S : AH} : Pl (bin f ls st S) := by
  unfold bin
  split
  · exact Pl.ap _ _ _
  · exact Pl.no
theorem pl_binL {f : Int → Int → Int} {ls : LV} {st : List TV} {S : AH} : Pl (binL f ls st S) := by
  unfold binL
  split
  · exact Pl.ap _ _ _
  · exact Pl.no
theorem pl_shL {f : Int → Int → Int} {ls : LV} {st : List TV} {S : AH} : Pl (shL f ls st S) := by
  unfold shL
  split
  · exact Pl.ap _ _ _
  · exact Pl.no
theorem pl_una {f : Int → Int} {ls : LV} {st : List TV} {S : AH} : Pl (una f ls st S) := by
  unfold una
  split
  · exact Pl.ap _ _ _
  · exact Pl.no
theorem pl_dvI {f : Int → Int → Int} {ls : LV} {st : List TV} {S : AH} : Pl (dvI f ls st S) := by
  unfold dvI
  split
  · exact Pl.it Pl.no (Pl.ap _ _ _)
  · exact Pl.no
theorem pl_dvL {f : Int → Int → Int} {ls : LV} {st : List TV} {S : AH} : Pl (dvL f ls st S) := by
  unfold dvL
  split
  · exact Pl.it Pl.no (Pl.ap _ _ _)
  · exact Pl.no
theorem pl_ald {w : WC} {t : Nat} {ls : LV} {st : List TV} {S : AH} : Pl (ald w t ls st S) := by
  unfold ald
  split
  · exact Pl.gd (Pl.it (Pl.ap _ _ _) Pl.no)
  · exact Pl.no
theorem pl_aldB {w : WC} {ls : LV} {st : List TV} {S : AH} : Pl (aldB w ls st S) := by
  unfold aldB
  split
  · exact Pl.gd (Pl.it (Pl.ap _ _ _) Pl.no)
  · exact Pl.no
theorem pl_aldA {w : WC} {ls : LV} {st : List TV} {S : AH} : Pl (aldA w ls st S) := by
  unfold aldA
  split
  · exact Pl.gd (Pl.it (Pl.ap _ _ _) Pl.no)
  · exact Pl.no
theorem pl_astI {w : WC} {ls : LV} {st : List TV} {S : AH} : Pl (astI w ls st S) := by
  unfold astI
  split
  · exact Pl.gd (Pl.it (Pl.ap _ _ _) Pl.no)
  · exact Pl.no
theorem pl_astL {w : WC} {ls : LV} {st : List TV} {S : AH} : Pl (astL w ls st S) := by
  unfold astL
  split
  · exact Pl.gd (Pl.it (Pl.ap _ _ _) Pl.no)
  · exact Pl.no
theorem pl_astA {w : WC} {ls : LV} {st : List TV} {S : AH} : Pl (astA w ls st S) := by
  unfold astA
  split
  · exact Pl.gd (Pl.it (Pl.ap _ _ _) Pl.no)
  · exact Pl.no
theorem pl_astB {w : WC} {ls : LV} {st : List TV} {S : AH} : Pl (astB w ls st S) := by
  unfold astB
  split
  · refine Pl.gd (Pl.it ?_ Pl.no)
    split
    · exact Pl.ap _ _ _
    · exact Pl.it (Pl.ap _ _ _) Pl.no
  · exact Pl.no
theorem pl_getF {w : WC} {x : XI} {ls : LV} {st : List TV} {S : AH} : Pl (getF w x ls st S) := by
  unfold getF
  split
  · exact Pl.gd (Pl.ap _ _ _)
  · exact Pl.no
theorem pl_putF {w : WC} {x : XI} {ls : LV} {st : List TV} {S : AH} : Pl (putF w x ls st S) := by
  unfold putF
  split
  · exact Pl.gd (Pl.ap _ _ _)
  · exact Pl.gd (Pl.ap _ _ _)
  · exact Pl.gd (Pl.gd (Pl.ck (Pl.ap _ _ _)))
  · exact Pl.no
theorem pl_alen {w : WC} {ls : LV} {st : List TV} {S : AH} : Pl (alen w ls st S) := by
  unfold alen
  split
  · exact Pl.gd (Pl.ap _ _ _)
  · exact Pl.no
theorem pl_newA {t : Nat} {ls : LV} {st : List TV} {S : AH} : Pl (newA t ls st S) := by
  unfold newA
  split
  · exact Pl.it (Pl.ap _ _ _) Pl.no
  · exact Pl.no
set_option maxHeartbeats 4000000 in
theorem pl_step {w : WC} {i : Instr} {x : XI} {ls : LV} {st : List TV} {S : AH} : Pl (step w i x ls st S) := by
  unfold step
  split
  all_goals first
    | exact Pl.ap _ _ _
    | exact pl_loadI
    | exact pl_loadL
    | exact pl_loadA
    | exact pl_stoI
    | exact pl_stoL
    | exact pl_stoA
    | exact pl_bin
    | exact pl_binL
    | exact pl_shL
    | exact pl_una
    | exact pl_dvI
    | exact pl_dvL
    | exact pl_ald
    | exact pl_aldB
    | exact pl_aldA
    | exact pl_astI
    | exact pl_astL
    | exact pl_astB
    | exact pl_astA
    | exact pl_getF
    | exact pl_putF
    | exact pl_alen
    | exact Pl.gd pl_newA
    | exact pl_newA
    | exact Pl.no
    | (split
       all_goals first
         | exact Pl.ap _ _ _
         | exact Pl.no
         | exact Pl.gd (Pl.ap _ _ _)
         | exact pl_st1 fun q => Pl.ap _ _ _)
noncomputable def Pl2 (F : RT → Rs) : Prop := (∃ o, ∀ k, F k = o) ∨ ∃ z a b c, ∀ k : RT, F k = k z a b c
theorem Pl2.ap (z : List CE) (a : LV) (b : List TV) (c : AH) : Pl2 (fun k => k z a b c) := Or.inr ⟨z, a, b, c, fun _ => rfl⟩
theorem Pl2.cn (o : Rs) : Pl2 (fun _ => o) := Or.inl ⟨o, fun _ => rfl⟩
theorem Pl2.gd {b : Bool} {F : RT → Rs} (h : Pl2 F) : Pl2 (fun k => gd b (F k)) := by
  cases b
  · exact Pl2.cn none
  · exact h
theorem Pl2.it {c : Prop} [Decidable c] {F G : RT → Rs} (hF : Pl2 F) (hG : Pl2 G) : Pl2 (fun k => if c then F k else G k) := by
  by_cases hc : c
  · simp only [if_pos hc]; exact hF
  · simp only [if_neg hc]; exact hG
theorem Pl2.bf {c : Jvm.ClassFile.Cond} {x y : Int} {F G : RT → Rs} (hF : Pl2 F) (hG : Pl2 G) : Pl2 (fun k => bIf c x y (F k) (G k)) := by
  unfold bIf
  cases c
  · exact Pl2.it hF hG
  · exact Pl2.it hG hF
  · exact Pl2.it hF hG
  · exact Pl2.it hG hF
  · exact Pl2.it hF hG
  · exact Pl2.it hG hF
theorem Pl2.sw {x : Int} {F : RT → Rs} {G : Int → RT → Rs} (hF : Pl2 F) (hG : ∀ o, Pl2 (G o)) : ∀ (offs : List Int) (k : Int), Pl2 (fun q => swt x k offs (F q) (fun o => G o q)) := by
  intro offs
  induction offs with
  | nil => intro k; unfold swt; exact hF
  | cons o r ih => intro k; unfold swt; exact Pl2.it (hG o) (ih _)
theorem Pl2.sl {x : Int} {F : RT → Rs} {G : Int → RT → Rs} (hF : Pl2 F) (hG : ∀ o, Pl2 (G o)) : ∀ (ps : List (Int × Int)), Pl2 (fun q => swl x ps (F q) (fun o => G o q)) := by
  intro ps
  induction ps with
  | nil => unfold swl; exact hF
  | cons o r ih => unfold swl; exact Pl2.it (hG o.2) ih
theorem Pl2.bd {o : Rs} {F : Int → AH → RT → Rs} (hF : ∀ v S, Pl2 (F v S)) : Pl2 (fun k => bindR o (fun v S => F v S k)) := by
  unfold bindR
  split
  · exact hF _ _
  · exact Pl2.cn none
theorem Pl2.of {F : KT → Rs} (h : Pl F) (cs : List CE) : Pl2 (fun k => F (fun a b c => k cs a b c)) := by
  rcases h with h | ⟨a, b, c, h⟩
  · exact Or.inl ⟨none, fun k => h _⟩
  · exact Or.inr ⟨cs, a, b, c, fun k => h _⟩
theorem Pl2.cp {w : WC} {st : List TV} {S : AH} {cs : List CE} {ls : LV} : Pl2 (fun k => copyA w st S (fun r S' => k cs ls r S')) := by
  unfold copyA
  split
  · exact Pl2.gd (Pl2.it (Pl2.ap _ _ _ _) (Pl2.cn none))
  · exact Pl2.cn none
theorem Pl2.ir {w : WC} {m : Nat} {st : List TV} {S : AH} {cs : List CE} {ls : LV} : Pl2 (fun k => intr w m st S (fun r S' => k cs ls r S')) := by
  unfold intr
  split
  · exact Pl2.cp
  · split
    · exact Pl2.ap _ _ _ _
    · exact Pl2.cn none
  · split
    · exact Pl2.ap _ _ _ _
    · exact Pl2.cn none
  · split
    · exact Pl2.ap _ _ _ _
    · exact Pl2.cn none
  · split
    · exact Pl2.ap _ _ _ _
    · exact Pl2.cn none
  · exact Pl2.cn none
set_option maxHeartbeats 4000000 in
theorem pl_ctl {w : WC} {C : Nat → List TV → AH → Rs} {cs0 : List CE} {rt pc : Nat} {i : Instr} {x : XI} {cs : List CE} {ls : LV} {st : List TV} {S : AH} : Pl2 (ctl w C cs0 rt pc i x cs ls st S) := by
  unfold ctl
  split
  · exact Pl2.ap _ _ _ _
  · split
    · exact Pl2.bf (Pl2.ap _ _ _ _) (Pl2.ap _ _ _ _)
    · exact Pl2.cn none
  · split
    · exact Pl2.bf (Pl2.ap _ _ _ _) (Pl2.ap _ _ _ _)
    · exact Pl2.cn none
  · split
    · exact Pl2.it (Pl2.ap _ _ _ _) (Pl2.gd (Pl2.ap _ _ _ _))
    · exact Pl2.cn none
  · split
    · exact Pl2.it (Pl2.ap _ _ _ _) (Pl2.gd (Pl2.ap _ _ _ _))
    · exact Pl2.cn none
  · split
    · exact Pl2.sw (Pl2.ap _ _ _ _) (fun o => Pl2.ap _ _ _ _) _ _
    · exact Pl2.cn none
  · split
    · exact Pl2.sl (Pl2.ap _ _ _ _) (fun o => Pl2.ap _ _ _ _) _
    · exact Pl2.cn none
  · split
    · exact Pl2.cn _
    · exact Pl2.cn none
  · split
    · exact Pl2.cn _
    · exact Pl2.cn none
  · split
    · exact Pl2.cn _
    · exact Pl2.cn none
  · split
    · exact Pl2.cn _
    · exact Pl2.cn none
  · split
    · exact Pl2.gd Pl2.ir
    · split
      · exact Pl2.gd (Pl2.bd (fun v S => Pl2.ap _ _ _ _))
      · exact Pl2.cn none
  · split
    · split
      · exact Pl2.gd (Pl2.ap _ _ _ _)
      · exact Pl2.cn none
    · split
      · exact Pl2.gd (Pl2.bd (fun v S => Pl2.ap _ _ _ _))
      · exact Pl2.cn none
  · split
    · split
      · exact Pl2.gd (Pl2.ap _ _ _ _)
      · exact Pl2.cn none
    · split
      · exact Pl2.gd (Pl2.bd (fun v S => Pl2.ap _ _ _ _))
      · exact Pl2.cn none
  · exact Pl2.of pl_step _
theorem go_pl {w : WC} {C : CT} {cs0 : List CE} {rt : Nat} : ∀ (n : Nat) (first : Bool) (cs : List CE) (ls : LV) (st : List TV) (S : AH), (∃ o, ∀ K : KP, go w C K cs0 rt n first cs ls st S = o) ∨ ∃ pc a b c, ∀ K : KP, go w C K cs0 rt n first cs ls st S = K pc a b c := by
  intro n
  induction n with
  | zero => intro first cs ls st S; exact Or.inl ⟨none, fun K => rfl⟩
  | succ n ih =>
    intro first cs ls st S
    match cs with
    | [] => exact Or.inl ⟨none, fun K => rfl⟩
    | (pc, ck, i, x) :: cs =>
      unfold go
      dsimp only
      cases hc : (Nat.blt 0 ck && !first) with
      | true => exact Or.inr ⟨pc, _, st, S, fun K => rfl⟩
      | false =>
        dsimp only
        rcases (pl_ctl (w := w) (C := C) (cs0 := cs0) (rt := rt) (pc := pc) (i := i) (x := x) (cs := cs) (ls := ls) (st := st) (S := S)) with ⟨o, h⟩ | ⟨z, a, b, c, h⟩
        · exact Or.inl ⟨o, fun K => h _⟩
        · rcases ih false z a b c with ⟨o, h2⟩ | ⟨pc', a', b', c', h2⟩
          · exact Or.inl ⟨o, fun K => (h _).trans (h2 K)⟩
          · exact Or.inr ⟨pc', a', b', c', fun K => (h _).trans (h2 K)⟩
end
section
-- 09s.red
/-! the claim, reduced to the plain machine -/
theorem lw_ret {p : Program} {l : Launch} {e : Env} {s : State} {m : MethodId} {below : List Frame} {meth : Method} {c : Code} {b : Nat} (hx : p.tables.exec = Jvm.exec) (hb : c.code = code) (hr : meth.sig.returnType = ret) (hlocks : meth.locks = false) {pc : Nat} {H : Heap} {ls : Array Slot} (hdg : decode code pc = .ok (.ireturn, 1)) : W p l e room_1 s m #[Value.ref b] below meth c H [] 600000 7302250 (lw_Z below #[Value.ref b] s) (F0 m pc ls [.int 1]) := by
  intro T hT X
  obtain ⟨fs, hret, hrun, hended, hW, hframe⟩ := X.leave (v := some (.int 1)) (hlocks := hlocks) (fun h => by rw [hr] at h; cases h)
  have hmeth' : T.vm.method? m = some meth := X.method'
  refine ⟨T.setFrames fs, ?_, .returned (some (.int 1)), hrun, hended, rfl, ⟨_, rfl⟩, hW, hframe⟩
  jvm_step X.here [X.here.top, hx, hb, hdg, hmeth', hr, ret, narrow_b1]
  (try refine ⟨rfl, ?_⟩); (try refine ⟨rfl, ?_⟩)
  first | (intro acts; rw [hret _ acts rfl rfl rfl]) | rw [hret _ _ rfl rfl rfl]
  exact Steps.refl _
theorem GN_none : (go w0 (evc w0 4) (fun _ _ _ _ => none) (csOf 0) (rtOf 0) 4000 true (cde (csOf 0) 0) (ent (mlOf 0) [vr 1]) [] S_0).isNone = true := by decide +kernel
theorem K0_inv {pc : Nat} {ls : LV} {st : List TV} {S : AH} {r : Int × AH} (h : K0 pc ls st S = some r) : pc = 18 ∧ ls = [some (vr 1), some (vr 15), some (vr 73), some (vi 0)] ∧ st = [] ∧ r = (0, S) := by
  unfold K0 at h
  split at h
  · rename_i hb
    rw [Bool.and_eq_true, Bool.and_eq_true, decide_eq_true_eq] at hb
    exact ⟨Nat.eq_of_beq_eq_true hb.1.1, hb.1.2, List.isEmpty_iff.mp hb.2, (Option.some.inj h).symm⟩
  · cases h
theorem S1_go (K : KP) : go w0 (evc w0 4) K (csOf 0) (rtOf 0) 4000 true (cde (csOf 0) 0) (ent (mlOf 0) [vr 1]) [] S_0 = K 18 [some (vr 1), some (vr 15), some (vr 73), some (vi 0)] [] S1 := by
  have h0 := G0_some
  obtain ⟨r, hr⟩ := Option.isSome_iff_exists.mp h0
  rcases go_pl (w := w0) (C := evc w0 4) (cs0 := csOf 0) (rt := rtOf 0) 4000 true (cde (csOf 0) 0) (ent (mlOf 0) [vr 1]) [] S_0 with ⟨o, h⟩ | ⟨pc, a, b, c, h⟩
  · have h1 := GN_none
    rw [h] at h1
    have h2 : o = some r := (h K0).symm.trans hr
    rw [h2] at h1
    cases h1
  · have h2 : K0 pc a b c = some r := (h K0).symm.trans hr
    obtain ⟨e1, e2, e3, e4⟩ := K0_inv h2
    have e5 : S1 = c := by
      unfold S1
      rw [hr, e4]
      rfl
    rw [h K, e1, e2, e3, e5]
theorem shl_any (L : Nat) {a : Nat} (h : a ≠ 1) : (shl L).getD a (99, 0) = (shl 0).getD a (99, 0) := by
  match a, h with
  | 0, _ => rfl
  | 1, h => exact absurd rfl h
  | a + 2, _ => rfl
theorem fnl_len2 : fnl.length = 151 := by decide +kernel
theorem xcl_15 : xcl.length = 15 := by decide +kernel
theorem fnl_arr : ((List.range 151).all fun a => Nat.blt a 15 || Nat.ble 7 ((shl 0).getD a (99, 0)).1 || (fnl.getD a []).isEmpty) = true := by decide +kernel
theorem fnl_xcl : ((List.range 15).all fun a => decide (fnl.getD a [] = xcl.getD a []) && (Nat.beq a 1 || decide ((shl 0).getD a (99, 0) = xsh 0 a))) = true := by decide +kernel
theorem xsh_any (L : Nat) {a : Nat} (h : a ≠ 1) : xsh L a = xsh 0 a := by
  match a, h with
  | 0, _ => rfl
  | 1, h => exact absurd rfl h
  | a + 2, _ => rfl
theorem WK_fin {L : Nat} {xs : Nat → Int} {a k : Nat} (h : a ≠ 1) : (WK L xs).2.2 a k = (fnl.getD a []).getD k none := by
  match a, h with
  | 0, _ => rfl
  | 1, h => exact absurd rfl h
  | a + 2, _ => rfl
theorem OKW_WK {G : GE} (hp : ∀ a, 151 ≤ a → gp G a = a) : OKW G (WK (gL G) (fun k => (gX G k).toInt)) := by
  refine ⟨by show 15 ≤ 151; decide, fun a ha => Or.inl ?_, fun a k ha => ?_, fun a k h1 h2 h3 => ?_, fun a h => hp a h⟩
  · by_cases h1 : a = 1
    · subst h1
      exact ⟨rfl, fun k => rfl⟩
    · have h := List.all_eq_true.mp fnl_xcl a (List.mem_range.mpr ha)
      rw [Bool.and_eq_true, Bool.or_eq_true, decide_eq_true_eq, decide_eq_true_eq] at h
      refine ⟨?_, fun k => ?_⟩
      · show (shl (gL G)).getD a (99, 0) = xsh (gL G) a
        rw [shl_any _ h1, xsh_any _ h1]
        rcases h.2 with q | q
        · exact absurd (Nat.eq_of_beq_eq_true q) h1
        · exact q
      · rw [WK_fin h1, h.1]
        match a, h1 with
        | 0, _ => rfl
        | 1, h => exact absurd rfl h
        | a + 2, _ => rfl
  · have ha : 151 ≤ a := ha
    rw [WK_fin (by first | decide | omega), show fnl.getD a [] = [] by rw [List.getD_eq_getElem?_getD, List.getElem?_eq_none (by rw [fnl_len2]; exact ha)]; rfl]
    rfl
  · have h2 : a < 151 := h2
    have h := List.all_eq_true.mp fnl_arr a (List.mem_range.mpr h2)
    have h3 : ((shl (gL G)).getD a (99, 0)).1 < 7 := h3
    rw [shl_any _ (by first | decide | omega)] at h3
    rw [Bool.or_eq_true, Bool.or_eq_true] at h
    rcases h with (q | q) | q
    · exact absurd (Nat.blt_eq.mp q) (by first | decide | omega)
    · exact absurd (Nat.le_of_ble_eq_true q) (by first | decide | omega)
    · rw [WK_fin (by first | decide | omega), List.isEmpty_iff.mp q]
      rfl
theorem w0_fin {a k : Nat} (h : a ≠ 1) : w0.2.2 a k = (xcl.getD a []).getD k none := by
  match a, h with
  | 0, _ => rfl
  | 1, h => exact absurd rfl h
  | a + 2, _ => rfl
theorem OKW_w0 {G : GE} (hp : ∀ a, gp G a = a) : OKW G w0 := by
  refine ⟨by show 15 ≤ 15; decide, fun a ha => ?_, fun a k ha => ?_, fun a k h1 h2 h3 => ?_, fun a _ => hp a⟩
  · by_cases h1 : a = 1
    · subst h1
      exact Or.inr rfl
    · refine Or.inl ⟨?_, fun k => ?_⟩
      · rw [xsh_any _ h1]
        match a, h1 with
        | 0, _ => rfl
        | 1, h => exact absurd rfl h
        | a + 2, _ => rfl
      · rw [w0_fin h1]
        match a, h1 with
        | 0, _ => rfl
        | 1, h => exact absurd rfl h
        | a + 2, _ => rfl
  · have ha : 15 ≤ a := ha
    rw [w0_fin (by first | decide | omega), show xcl.getD a [] = [] by rw [List.getD_eq_getElem?_getD, List.getElem?_eq_none (by rw [xcl_15]; exact ha)]; rfl]
    rfl
  · have h2 : a < 15 := h2
    omega
theorem rel_0 {G : GE} {H : Heap} (h : gb G = H.size) : Rel G w0 S_0 H := by
  refine ⟨Nat.le_refl 15, ?_, Nat.le_refl 15, fun a _ => rfl, fun a h1 h2 => ?_⟩
  · show H.size = gb G + (15 - 15)
    omega
  · have h2 : a < 15 := h2
    omega
theorem pm_ge (a : Nat) (h : 15 ≤ a) : 15 ≤ pm a := by
  unfold pm
  split <;> (try split) <;> (try split) <;> omega
theorem pm_in (a b : Nat) (h : pm a = pm b) : a = b := by
  unfold pm at h
  repeat' split at h
  all_goals omega
theorem pm_pv (r : Nat) : pm (pv r) = r := by
  unfold pv
  by_cases a1 : r < 62
  · rw [if_pos a1]; unfold pm; rw [if_pos a1]
  · rw [if_neg a1]
    by_cases a2 : r = 62
    · rw [if_pos a2, a2]; rfl
    · rw [if_neg a2]
      by_cases a3 : r ≤ 150
      · rw [if_pos a3]; unfold pm; rw [if_neg (by first | decide | omega), if_pos (by first | decide | omega)]; omega
      · rw [if_neg a3]; unfold pm; rw [if_neg (by first | decide | omega), if_neg (by first | decide | omega), if_neg (by first | decide | omega)]
theorem pm_hi (a : Nat) (h : 151 ≤ a) : pm a = a := by
  unfold pm
  rw [if_neg (by first | decide | omega), if_neg (by first | decide | omega), if_neg (by first | decide | omega)]
theorem pm_lo (a : Nat) (h : a < 151) : pm a < 151 := by
  unfold pm
  split <;> (try split) <;> (try split) <;> omega
/-- the same, the cells numbered otherwise -/
noncomputable def gsw (G : GE) : GE := (G.1, G.2.1, G.2.2.1, G.2.2.2.1, G.2.2.2.2.1, G.2.2.2.2.2.1, G.2.2.2.2.2.2.1, G.2.2.2.2.2.2.2.1, ⟨pm, pm_ge, pm_in⟩)
theorem gp_sw {G : GE} : gp (gsw G) = pm := rfl
theorem gad_sw {G : GE} (hp : ∀ a, gp G a = a) (a : Nat) (h : 15 ≤ a) : gad (gsw G) a = gad G (pm a) := by
  rw [gad_own h, gad_own (pm_ge a h), hp, gp_sw]
  rfl
theorem rf_sw {G : GE} (hp : ∀ a, gp G a = a) (n : Nat) : rf (gsw G) (pv n) = rf G n := by
  by_cases h : n < 15
  · have e : pv n = n := by unfold pv; rw [if_pos (by first | decide | omega)]
    rw [e]
    unfold rf gad
    rw [if_pos h, if_pos h]
    rfl
  · have h2 : 15 ≤ pv n := by
      unfold pv
      split <;> (try split) <;> (try split) <;> omega
    rw [rf_own h2, rf_own (by first | decide | omega), gad_sw hp _ h2, pm_pv]
theorem rep_sw {G : GE} (hp : ∀ a, gp G a = a) (c : Nat) (b : Bool) (hb : b = true → c = 2) (hn : b = false → c ≠ 2) (x : Int) : rep (gsw G) (mkv c (pvx b x)) = rep G (mkv c x) := by
  cases b with
  | true =>
    rw [hb rfl]
    show rf (gsw G) (((pv x.toNat : Nat) : Int).toNat) = rf G x.toNat
    rw [Int.toNat_natCast]
    exact rf_sw hp _
  | false =>
    have h2 := hn rfl
    show rep (gsw G) (mkv c x) = rep G (mkv c x)
    unfold mkv
    split
    · rfl
    · exact absurd rfl h2
    · rfl
theorem okc_sw (c : Nat) (b : Bool) (hb : b = true → c = 2) {x : Int} (h : okc c x) : okc c (pvx b x) := by
  cases b with
  | true =>
    rw [hb rfl]
    show (0 : Int) ≤ ((pv x.toNat : Nat) : Int)
    omega
  | false => exact h
theorem isRf_a {t k : Nat} (ht : t < 7) : (isRf t k = true → arC t = 2) ∧ (isRf t k = false → arC t ≠ 2) := by
  rcases (show t = 0 ∨ t = 1 ∨ t = 2 ∨ t = 3 ∨ t = 4 ∨ t = 5 ∨ t = 6 by omega) with rfl | rfl | rfl | rfl | rfl | rfl | rfl <;> exact ⟨fun h => (by first | rfl | cases h), fun h => (by first | decide | cases h)⟩
theorem isRf_o {ci k : Nat} : (isRf (10 + ci) k = true → fcd ci k = 2) ∧ (isRf (10 + ci) k = false → fcd ci k ≠ 2) := by
  have e : isRf (10 + ci) k = Nat.beq (fcd ci k) 2 := by
    unfold isRf
    rw [show Nat.ble (10 + ci) 6 = false by rw [← Bool.not_eq_true, Nat.ble_eq]; omega, show Nat.ble 10 (10 + ci) = true from Nat.ble_eq.mpr (by first | decide | omega), Nat.add_sub_cancel_left]
    simp
  rw [e]
  refine ⟨fun h => Nat.eq_of_beq_eq_true h, fun h q => ?_⟩
  rw [q] at h
  cases h
theorem rel_mv {G : GE} {H : Heap} {L : Nat} {xs : Nat → Int} {S : AH} (hp : ∀ a, gp G a = a) (hc1 : S.1.1 = 151) (hsh : ∀ a, 15 ≤ a → a < 151 → (smv S).1.2.2 a = (shl 0).getD a (99, 0)) (hfi : ∀ a j c, 15 ≤ a → a < 151 → j < 107 → (fnl.getD a []).getD j none = some c → (smv S).2 a j = c) (h : Rel G w0 S H) : Rel (gsw G) (WK L xs) (smv S) H := by
  obtain ⟨h1, h2, h3, h4, h5⟩ := h
  refine ⟨h1, h2, by rw [smv_1, hc1]; exact Nat.le_refl _, fun a ha => ?_, fun a ha hlt => ?_⟩
  · have ha : S.1.1 ≤ a := ha
    show (S.1.2.2 (pm a)).1 = 99
    rw [pm_hi a (by rw [← hc1]; exact ha)]
    exact h4 a ha
  have hlt2 : a < 151 := by rw [smv_1, hc1] at hlt; exact hlt
  have hr := pm_lo a hlt2
  have hq := h5 (pm a) (pm_ge a ha) (by rw [hc1]; exact hr)
  have e1 : shp (WK L xs) (smv S) a = shp w0 S (pm a) := by
    rw [shp_dyn (show w0.1 ≤ pm a from pm_ge a ha)]
    unfold shp
    rw [show Nat.blt a (WK L xs).1 = true from Nat.blt_eq.mpr hlt2]
    show (shl L).getD a (99, 0) = _
    rw [shl_any _ (by first | decide | omega)]
    exact (hsh a ha hlt2).symm
  have e2 : ∀ j, rdv (WK L xs) (smv S) a j = (smv S).2 a j := by
    intro j
    unfold rdv
    rw [WK_fin (by first | decide | omega)]
    by_cases hj : j < 107
    · cases hc : (fnl.getD a []).getD j none with
      | none => rfl
      | some c => exact (hfi a j c ha hlt2 hj hc).symm
    · have hl : (fnl.getD a []).length ≤ 107 := by
        rw [List.getD_eq_getElem?_getD]
        cases hx : fnl[a]? with
        | none => show 0 ≤ 107; decide
        | some l => exact Nat.le_of_ble_eq_true (List.all_eq_true.mp fnl_len l (List.mem_of_getElem? hx))
      rw [List.getD_eq_getElem?_getD (l := fnl.getD a []), List.getElem?_eq_none (by first | decide | omega)]
      rfl
  have e3 : ∀ j, rdv w0 S (pm a) j = S.2 (pm a) j := fun j => rdv_none ((OKW_w0 hp).2.2.1 (pm a) j (pm_ge a ha))
  have e4 : shp w0 S (pm a) = S.1.2.2 (pm a) := shp_dyn (pm_ge a ha)
  have e5 : ∀ j, (smv S).2 a j = pvx (isRf (S.1.2.2 (pm a)).1 j) (S.2 (pm a) j) := fun j => rfl
  unfold isC at hq ⊢
  rw [e1, funext e2, gad_sw hp a ha]
  rw [funext e3] at hq
  rw [e4] at hq ⊢
  refine ⟨fun ht => ?_, fun ci hci ht => ?_⟩
  · obtain ⟨c1, c2, c3⟩ := hq.1 ht
    refine ⟨?_, c2, fun j hj => ?_⟩
    · rw [c1]
      show some (arrV (gA G _) _ _) = some (arrV (gA G _) _ _)
      congr 2
      funext j
      rw [e5]
      exact (rep_sw hp _ _ (isRf_a ht).1 (isRf_a ht).2 _).symm
    · rw [e5]
      exact okc_sw _ _ (isRf_a ht).1 (c3 j hj)
  · obtain ⟨c1, c2, c3⟩ := hq.2 ci hci ht
    refine ⟨c1, ?_, fun k hk => ?_⟩
    · refine c2.to (fun k hk => ?_)
      rw [e5, ht]
      exact (rep_sw hp _ _ isRf_o.1 isRf_o.2 _).symm
    · rw [e5, ht]
      exact okc_sw _ _ isRf_o.1 (c3 k hk)
theorem rel_sw {G : GE} {H : Heap} {L : Nat} {xs : Nat → Int} (hp : ∀ a, gp G a = a) (h : Rel G w0 S1 H) : Rel (gsw G) (WK L xs) SS H := by
  have h1 := SS_cells
  have h2 := SS_shape
  have h3 := SS_fin
  rw [SS_c] at h1
  unfold SS at h2 h3 ⊢
  refine rel_mv hp h1 (fun a ha hlt => ?_) (fun a j c ha hlt hj hc => ?_) h
  · have hs := List.all_eq_true.mp h2 a (List.mem_range.mpr hlt)
    rw [Bool.or_eq_true, decide_eq_true_eq] at hs
    rcases hs with q | q
    · exact absurd (Nat.blt_eq.mp q) (by first | decide | omega)
    · exact q
  · have hf := List.all_eq_true.mp h3 a (List.mem_range.mpr hlt)
    rw [Bool.or_eq_true] at hf
    rcases hf with q | q
    · exact absurd (Nat.blt_eq.mp q) (by first | decide | omega)
    · have hg := List.all_eq_true.mp q j (List.mem_range.mpr hj)
      rw [hc] at hg
      exact of_decide_eq_true hg
/-- what is left to show: the law's loop, on the plain machine -/
noncomputable def LawRuns : Prop := ∀ (L : Nat) (xs : Nat → Int), L ≤ 3584 → (∀ k, r32 (xs k)) → ∃ (d : Nat) (SF : AH), d ≤ 1200 ∧ LQ (WK L xs) (ev (WK L xs) d) 0 18 [some (vr 1), some (vr 15), some (vr 72), some (vi 0)] [] SS = some (1, SF) ∧ SF.1.1 ≤ 600000 ∧ SF.1.2.1 ≤ 7302250
theorem whole_red (HH : LawRuns) {p : Program} {e : Env} {s : State} {m : MethodId} {below : List Frame} {meth : Method} {c : Code} (l : Launch) {b L : Nat} {xs : Nat → Int32} (hL : L ≤ 3584) (C0 : lw_At p s m meth c b L xs) : W p l e room_1 s m #[Value.ref b] below meth c s.heap [] 0 0 (lw_Z below #[Value.ref b] s) (entryFrame m ([Value.ref b] : List Value).toArray 4) := by
  obtain ⟨G, hE, hgb, hg1, hgL, hgX, hgp⟩ := EN_start (show L ≤ 3584 by omega) C0
  obtain ⟨hx, hb, hr, hml, hown, -, -, hbl, hlocks, -⟩ := C0
  have hG := hE.2.2.2.2.2.2.2.1
  have hc : CX G p s m meth c 0 := ⟨hx, hb, hml, hown, fun h => (by cases h), hE, by decide⟩
  have hE' : EN (gsw G) s s.heap := by unfold EN at hE ⊢; exact hE
  have hG' : gVok (gsw G) := hG
  have hc' : CX (gsw G) p s m meth c 0 := ⟨hx, hb, hml, hown, fun h => (by cases h), hE', by decide⟩
  have hWK : OKW (gsw G) (WK (gL (gsw G)) (fun k => (gX (gsw G) k).toInt)) := OKW_WK (fun a h => pm_hi a h)
  obtain ⟨d, SF, hd, hrun, hcl, hsl⟩ := HH (gL G) (fun k => (gX G k).toInt) (by rw [hgL]; exact hL) (fun k => i32_r _)
  obtain ⟨n, hn⟩ := LQ_iff.mp hrun
  have hlen : ∀ (G : GE), gb G = s.heap.size → ∀ (pc : Nat) (ls : LV) (v : Int) (S : AH), ((1 : Int), SF) = (v, S) → decode (byo 0) pc = .ok (retI (rtOf 0), 1) → ∀ w : WC, PP p l e room_1 s m #[Value.ref b] below meth c G w 0 (lw_Z below #[Value.ref b] s) 15 0 SF pc ls (rst (rtOf 0) v) S := by
    intro G hgb pc ls v S hF hdc w
    cases hF
    refine ⟨LE2.rf, fun H locs lsC hR hS hLR hv h1 h2 => ?_⟩
    refine va_forget (fun q hq => ?_) (W.widen (k := 600000) (n := 7302250) (by first | decide | omega) (by first | decide | omega) (lw_ret hx hb hr hlocks hdc))
    have := hS.2.2 q hq
    rw [← hgb]
    exact this
  have hpp := lpn_sound (G := gsw G) (F := ((1 : Int), SF)) (SF := SF) (n0 := 15) (s0 := 0) (args := #[Value.ref b]) (below := below) (e := e) (R := room_1) (Q := lw_Z below #[Value.ref b] s) hc' hWK ⟨show SF.1.1 - 15 ≤ 600000 by omega, show SF.1.2.1 - 0 ≤ 7302250 by omega⟩ (ev_ok (l := l) hG' hWK d) ⟨show d + 1 ≤ 2048 by omega, show 64 * (d + 1) ≤ 84000 by omega⟩ (fun pc ls v S hF hdc _ => hlen (gsw G) hgb pc ls v S hF hdc _) n 18 _ [] SS hn
  have hpp0 : PP p l e room_1 s m #[Value.ref b] below meth c G w0 0 (lw_Z below #[Value.ref b] s) 15 0 SF 18 [some (vr 1), some (vr 15), some (vr 73), some (vi 0)] [] S1 := by
    have hp1 := hpp.1
    unfold LE2 at hp1
    rw [SS_c, SS_s] at hp1
    refine ⟨hp1, fun H locs lsC hR hS hLR hv h1 h2 => ?_⟩
    have hL2 : LR (gsw G) [some (vr 1), some (vr 15), some (vr 72), some (vi 0)] lsC (mlOf 0) := by
      refine ⟨hLR.1, hLR.2.1, hLR.2.2.1, fun i v hv => ?_⟩
      have z1 : rep (gsw G) (vr 1) = rep G (vr 1) := rf_sw hgp 1
      have z2 : rep (gsw G) (vr 15) = rep G (vr 15) := rf_sw hgp 15
      have z3 : rep (gsw G) (vr 72) = rep G (vr 73) := rf_sw hgp 73
      match i, hv with
      | 0, hv =>
        cases hv
        rw [z1]
        exact hLR.2.2.2 0 (vr 1) rfl
      | 1, hv =>
        cases hv
        rw [z2]
        exact hLR.2.2.2 1 (vr 15) rfl
      | 2, hv =>
        cases hv
        rw [z3]
        exact ⟨(hLR.2.2.2 2 (vr 73) rfl).1, trivial⟩
      | 3, hv =>
        cases hv
        exact hLR.2.2.2 3 (vi 0) rfl
      | i + 4, hv => cases hv
    have g := hpp.2 H locs lsC (rel_sw hgp hR) hS hL2 hv (by rw [SS_c]; exact h1) (by rw [SS_s]; exact h2)
    rw [SS_c, SS_s] at g
    exact g
  let K1 : KP := fun pc ls st S => haveI := Classical.propDecidable (PP p l e room_1 s m #[Value.ref b] below meth c G w0 0 (lw_Z below #[Value.ref b] s) 15 0 SF pc ls st S); if PP p l e room_1 s m #[Value.ref b] below meth c G w0 0 (lw_Z below #[Value.ref b] s) 15 0 SF pc ls st S then some (1, SF) else none
  have hK1 : ∀ pc ls st S, K1 pc ls st S = some (1, SF) → PP p l e room_1 s m #[Value.ref b] below meth c G w0 0 (lw_Z below #[Value.ref b] s) 15 0 SF pc ls st S := by
    intro pc ls st S h
    by_cases hp : PP p l e room_1 s m #[Value.ref b] below meth c G w0 0 (lw_Z below #[Value.ref b] s) 15 0 SF pc ls st S
    · exact hp
    · simp only [K1, if_neg hp] at h
      cases h
  have hgo : go w0 (evc w0 4) K1 (csOf 0) (rtOf 0) 4000 true (cde (csOf 0) 0) (ent (mlOf 0) [vr 1]) [] S_0 = some (1, SF) := by
    rw [S1_go]
    simp only [K1, if_pos hpp0]
  have hgo2 := go_C (evc_ev 4) _ _ _ _ _ _ _ hgo
  have hok : okC (byo 0) (ow 0) (iniM 0) (csOf 0) = true := om_all (by decide)
  obtain ⟨o1, o2⟩ := cde_spec (t := 0) (csOf 0) hok
  have hend := go_sound (F := ((1 : Int), SF)) (SF := SF) (n0 := 15) (s0 := 0) (args := #[Value.ref b]) (below := below) (e := e) (R := room_1) (Q := lw_Z below #[Value.ref b] s) hc (OKW_w0 hgp) ⟨show SF.1.1 - 15 ≤ 600000 by omega, show SF.1.2.1 - 0 ≤ 7302250 by omega⟩ (ev_ok (l := l) hG (OKW_w0 hgp) 4) ⟨by decide, by decide⟩ (fun pc ls v S hF hdc _ => hlen G hgb pc ls v S hF hdc _) hok hK1 4000 true (cde (csOf 0) 0) (ent (mlOf 0) [vr 1]) [] S_0 o1 hgo2
  have hfin : PP p l e room_1 s m #[Value.ref b] below meth c G w0 0 (lw_Z below #[Value.ref b] s) 15 0 SF 0 (ent (mlOf 0) [vr 1]) [] S_0 := by
    match hz : cde (csOf 0) 0, hgo2 with
    | [], h => cases h
    | e' :: r', h =>
      have := hend e' r' hz
      rw [o2 e' r' hz] at this
      exact this
  have hrep : ([vr 1] : List TV).map (rep G) = [Value.ref b] := by
    show [rf G 1] = _
    rw [rf_ref (by decide) (by decide)]
    unfold gad
    rw [if_pos (by decide), hg1]
  have hW := hfin.2 s.heap [] _ (rel_0 hgb) va_S.rf (LR.entry hG (as := [vr 1]) (n := 4) (by decide) (fun v hv => by rw [List.mem_singleton.mp hv]; exact trivial)) (fun u hu => by cases hu) (Nat.le_refl 15) (Nat.zero_le _)
  rw [hrep] at hW
  rw [lg_entry_eq]
  exact hW
end
