/-! a path goes one way -/
noncomputable def Pl (F : KT → Rs) : Prop := (∀ k, F k = none) ∨ ∃ a b c, ∀ k : KT, F k = k a b c
theorem Pl.ap (a : LV) (b : List TV) (c : AH) : Pl (fun k => k a b c) := Or.inr ⟨a, b, c, fun _ => rfl⟩
theorem Pl.no : Pl (fun _ => none) := Or.inl fun _ => rfl
theorem Pl.gd {b : Bool} {F : KT → Rs} (h : Pl F) : Pl (fun k => gd b (F k)) := by
  cases b
  · exact Pl.no
  · exact h
theorem Pl.it {c : Prop} [Decidable c] {F G : KT → Rs} (hF : Pl F) (hG : Pl G) : Pl (fun k => if c then F k else G k) := by
  by_cases hc : c
  · simp only [if_pos hc]; exact hF
  · simp only [if_neg hc]; exact hG
theorem Pl.ck {c : Nat} {v : Int} {F : KT → Rs} (hF : Pl F) : Pl (fun k => ckZ c v (F k)) := by
  unfold ckZ
  split
  · exact Pl.it hF Pl.no
  · exact Pl.it hF Pl.no
  · exact Pl.it hF Pl.no
  · exact hF
theorem pl_setK {ls : LV} {i : Nat} {v : Option TV} {F : LV → KT → Rs} (h : ∀ q, Pl (F q)) : Pl (fun k => setK ls i v (fun q => F q k)) := by
  simp only [setK_eq]
  exact Pl.it (h _) Pl.no
theorem pl_st1 {ls : LV} {i : Nat} {v : TV} {F : LV → KT → Rs} (h : ∀ q, Pl (F q)) : Pl (fun k => st1 ls i v (fun q => F q k)) := by
  unfold st1
  split
  · exact pl_setK h
  · split
    · exact pl_setK fun q => pl_setK h
    · exact pl_setK h
theorem pl_st2 {ls : LV} {i : Nat} {v : TV} {F : LV → KT → Rs} (h : ∀ q, Pl (F q)) : Pl (fun k => st2 ls i v (fun q => F q k)) := pl_st1 fun q => pl_setK h
theorem pl_loadI {ls : LV} {i : Nat} {st : List TV} {S : AH} : Pl (loadI ls i st S) := by
  unfold loadI
  split
  · exact Pl.ap _ _ _
  · exact Pl.no
theorem pl_loadL {ls : LV} {i : Nat} {st : List TV} {S : AH} : Pl (loadL ls i st S) := by
  unfold loadL
  split
  · exact Pl.ap _ _ _
  · exact Pl.no
theorem pl_loadA {ls : LV} {i : Nat} {st : List TV} {S : AH} : Pl (loadA ls i st S) := by
  unfold loadA
  split
  · exact Pl.ap _ _ _
  · exact Pl.no
theorem pl_stoI {ls : LV} {i : Nat} {st : List TV} {S : AH} : Pl (stoI ls i st S) := by
  unfold stoI
  split
  · exact pl_st1 fun q => Pl.ap _ _ _
  · exact Pl.no
theorem pl_stoL {ls : LV} {i : Nat} {st : List TV} {S : AH} : Pl (stoL ls i st S) := by
  unfold stoL
  split
  · exact pl_st2 fun q => Pl.ap _ _ _
  · exact Pl.no
theorem pl_stoA {ls : LV} {i : Nat} {st : List TV} {S : AH} : Pl (stoA ls i st S) := by
  unfold stoA
  split
  · exact pl_st1 fun q => Pl.ap _ _ _
  · exact Pl.no
theorem pl_bin {f : Int → Int → Int} {ls : LV} {st : List TV} {S : AH} : Pl (bin f ls st S) := by
  unfold bin
  split
  · exact Pl.ap _ _ _
  · exact Pl.no
theorem pl_binL {f : Int → Int → Int} {ls : LV} {st : List TV} {S : AH} : Pl (binL f ls st S) := by
  unfold binL
  split
  · exact Pl.ap _ _ _
  · exact Pl.no
theorem pl_shL {f : Int → Int → Int} {ls : LV} {st : List TV} {S : AH} : Pl (shL f ls st S) := by
  unfold shL
  split
  · exact Pl.ap _ _ _
  · exact Pl.no
theorem pl_una {f : Int → Int} {ls : LV} {st : List TV} {S : AH} : Pl (una f ls st S) := by
  unfold una
  split
  · exact Pl.ap _ _ _
  · exact Pl.no
theorem pl_dvI {f : Int → Int → Int} {ls : LV} {st : List TV} {S : AH} : Pl (dvI f ls st S) := by
  unfold dvI
  split
  · exact Pl.it Pl.no (Pl.ap _ _ _)
  · exact Pl.no
theorem pl_dvL {f : Int → Int → Int} {ls : LV} {st : List TV} {S : AH} : Pl (dvL f ls st S) := by
  unfold dvL
  split
  · exact Pl.it Pl.no (Pl.ap _ _ _)
  · exact Pl.no
theorem pl_ald {w : WC} {t : Nat} {ls : LV} {st : List TV} {S : AH} : Pl (ald w t ls st S) := by
  unfold ald
  split
  · exact Pl.gd (Pl.it (Pl.ap _ _ _) Pl.no)
  · exact Pl.no
theorem pl_aldB {w : WC} {ls : LV} {st : List TV} {S : AH} : Pl (aldB w ls st S) := by
  unfold aldB
  split
  · exact Pl.gd (Pl.it (Pl.ap _ _ _) Pl.no)
  · exact Pl.no
theorem pl_aldA {w : WC} {ls : LV} {st : List TV} {S : AH} : Pl (aldA w ls st S) := by
  unfold aldA
  split
  · exact Pl.gd (Pl.it (Pl.ap _ _ _) Pl.no)
  · exact Pl.no
theorem pl_astI {w : WC} {ls : LV} {st : List TV} {S : AH} : Pl (astI w ls st S) := by
  unfold astI
  split
  · exact Pl.gd (Pl.it (Pl.ap _ _ _) Pl.no)
  · exact Pl.no
theorem pl_astL {w : WC} {ls : LV} {st : List TV} {S : AH} : Pl (astL w ls st S) := by
  unfold astL
  split
  · exact Pl.gd (Pl.it (Pl.ap _ _ _) Pl.no)
  · exact Pl.no
theorem pl_astA {w : WC} {ls : LV} {st : List TV} {S : AH} : Pl (astA w ls st S) := by
  unfold astA
  split
  · exact Pl.gd (Pl.it (Pl.ap _ _ _) Pl.no)
  · exact Pl.no
theorem pl_astB {w : WC} {ls : LV} {st : List TV} {S : AH} : Pl (astB w ls st S) := by
  unfold astB
  split
  · refine Pl.gd (Pl.it ?_ Pl.no)
    split
    · exact Pl.ap _ _ _
    · exact Pl.it (Pl.ap _ _ _) Pl.no
  · exact Pl.no
theorem pl_getF {w : WC} {x : XI} {ls : LV} {st : List TV} {S : AH} : Pl (getF w x ls st S) := by
  unfold getF
  split
  · exact Pl.gd (Pl.ap _ _ _)
  · exact Pl.no
theorem pl_putF {w : WC} {x : XI} {ls : LV} {st : List TV} {S : AH} : Pl (putF w x ls st S) := by
  unfold putF
  split
  · exact Pl.gd (Pl.ap _ _ _)
  · exact Pl.gd (Pl.ap _ _ _)
  · exact Pl.gd (Pl.gd (Pl.ck (Pl.ap _ _ _)))
  · exact Pl.no
theorem pl_alen {w : WC} {ls : LV} {st : List TV} {S : AH} : Pl (alen w ls st S) := by
  unfold alen
  split
  · exact Pl.gd (Pl.ap _ _ _)
  · exact Pl.no
theorem pl_newA {t : Nat} {ls : LV} {st : List TV} {S : AH} : Pl (newA t ls st S) := by
  unfold newA
  split
  · exact Pl.it (Pl.ap _ _ _) Pl.no
  · exact Pl.no
set_option maxHeartbeats 4000000 in
theorem pl_step {w : WC} {i : Instr} {x : XI} {ls : LV} {st : List TV} {S : AH} : Pl (step w i x ls st S) := by
  unfold step
  split
  all_goals first
    | exact Pl.ap _ _ _
    | exact pl_loadI
    | exact pl_loadL
    | exact pl_loadA
    | exact pl_stoI
    | exact pl_stoL
    | exact pl_stoA
    | exact pl_bin
    | exact pl_binL
    | exact pl_shL
    | exact pl_una
    | exact pl_dvI
    | exact pl_dvL
    | exact pl_ald
    | exact pl_aldB
    | exact pl_aldA
    | exact pl_astI
    | exact pl_astL
    | exact pl_astB
    | exact pl_astA
    | exact pl_getF
    | exact pl_putF
    | exact pl_alen
    | exact Pl.gd pl_newA
    | exact pl_newA
    | exact Pl.no
    | (split
       all_goals first
         | exact Pl.ap _ _ _
         | exact Pl.no
         | exact Pl.gd (Pl.ap _ _ _)
         | exact pl_st1 fun q => Pl.ap _ _ _)
noncomputable def Pl2 (F : RT → Rs) : Prop := (∃ o, ∀ k, F k = o) ∨ ∃ z a b c, ∀ k : RT, F k = k z a b c
theorem Pl2.ap (z : List CE) (a : LV) (b : List TV) (c : AH) : Pl2 (fun k => k z a b c) := Or.inr ⟨z, a, b, c, fun _ => rfl⟩
theorem Pl2.cn (o : Rs) : Pl2 (fun _ => o) := Or.inl ⟨o, fun _ => rfl⟩
theorem Pl2.gd {b : Bool} {F : RT → Rs} (h : Pl2 F) : Pl2 (fun k => gd b (F k)) := by
  cases b
  · exact Pl2.cn none
  · exact h
theorem Pl2.it {c : Prop} [Decidable c] {F G : RT → Rs} (hF : Pl2 F) (hG : Pl2 G) : Pl2 (fun k => if c then F k else G k) := by
  by_cases hc : c
  · simp only [if_pos hc]; exact hF
  · simp only [if_neg hc]; exact hG
theorem Pl2.bf {c : Jvm.ClassFile.Cond} {x y : Int} {F G : RT → Rs} (hF : Pl2 F) (hG : Pl2 G) : Pl2 (fun k => bIf c x y (F k) (G k)) := by
  unfold bIf
  cases c
  · exact Pl2.it hF hG
  · exact Pl2.it hG hF
  · exact Pl2.it hF hG
  · exact Pl2.it hG hF
  · exact Pl2.it hF hG
  · exact Pl2.it hG hF
theorem Pl2.sw {x : Int} {F : RT → Rs} {G : Int → RT → Rs} (hF : Pl2 F) (hG : ∀ o, Pl2 (G o)) : ∀ (offs : List Int) (k : Int), Pl2 (fun q => swt x k offs (F q) (fun o => G o q)) := by
  intro offs
  induction offs with
  | nil => intro k; unfold swt; exact hF
  | cons o r ih => intro k; unfold swt; exact Pl2.it (hG o) (ih _)
theorem Pl2.sl {x : Int} {F : RT → Rs} {G : Int → RT → Rs} (hF : Pl2 F) (hG : ∀ o, Pl2 (G o)) : ∀ (ps : List (Int × Int)), Pl2 (fun q => swl x ps (F q) (fun o => G o q)) := by
  intro ps
  induction ps with
  | nil => unfold swl; exact hF
  | cons o r ih => unfold swl; exact Pl2.it (hG o.2) ih
theorem Pl2.bd {o : Rs} {F : Int → AH → RT → Rs} (hF : ∀ v S, Pl2 (F v S)) : Pl2 (fun k => bindR o (fun v S => F v S k)) := by
  unfold bindR
  split
  · exact hF _ _
  · exact Pl2.cn none
theorem Pl2.of {F : KT → Rs} (h : Pl F) (cs : List CE) : Pl2 (fun k => F (fun a b c => k cs a b c)) := by
  rcases h with h | ⟨a, b, c, h⟩
  · exact Or.inl ⟨none, fun k => h _⟩
  · exact Or.inr ⟨cs, a, b, c, fun k => h _⟩
theorem Pl2.cp {w : WC} {st : List TV} {S : AH} {cs : List CE} {ls : LV} : Pl2 (fun k => copyA w st S (fun r S' => k cs ls r S')) := by
  unfold copyA
  split
  · exact Pl2.gd (Pl2.it (Pl2.ap _ _ _ _) (Pl2.cn none))
  · exact Pl2.cn none
theorem Pl2.ir {w : WC} {m : Nat} {st : List TV} {S : AH} {cs : List CE} {ls : LV} : Pl2 (fun k => intr w m st S (fun r S' => k cs ls r S')) := by
  unfold intr
  split
  · exact Pl2.cp
  · split
    · exact Pl2.ap _ _ _ _
    · exact Pl2.cn none
  · split
    · exact Pl2.ap _ _ _ _
    · exact Pl2.cn none
  · split
    · exact Pl2.ap _ _ _ _
    · exact Pl2.cn none
  · split
    · exact Pl2.ap _ _ _ _
    · exact Pl2.cn none
  · exact Pl2.cn none
set_option maxHeartbeats 4000000 in
theorem pl_ctl {w : WC} {C : Nat → List TV → AH → Rs} {cs0 : List CE} {rt pc : Nat} {i : Instr} {x : XI} {cs : List CE} {ls : LV} {st : List TV} {S : AH} : Pl2 (ctl w C cs0 rt pc i x cs ls st S) := by
  unfold ctl
  split
  · exact Pl2.ap _ _ _ _
  · split
    · exact Pl2.bf (Pl2.ap _ _ _ _) (Pl2.ap _ _ _ _)
    · exact Pl2.cn none
  · split
    · exact Pl2.bf (Pl2.ap _ _ _ _) (Pl2.ap _ _ _ _)
    · exact Pl2.cn none
  · split
    · exact Pl2.it (Pl2.ap _ _ _ _) (Pl2.gd (Pl2.ap _ _ _ _))
    · exact Pl2.cn none
  · split
    · exact Pl2.it (Pl2.ap _ _ _ _) (Pl2.gd (Pl2.ap _ _ _ _))
    · exact Pl2.cn none
  · split
    · exact Pl2.sw (Pl2.ap _ _ _ _) (fun o => Pl2.ap _ _ _ _) _ _
    · exact Pl2.cn none
  · split
    · exact Pl2.sl (Pl2.ap _ _ _ _) (fun o => Pl2.ap _ _ _ _) _
    · exact Pl2.cn none
  · split
    · exact Pl2.cn _
    · exact Pl2.cn none
  · split
    · exact Pl2.cn _
    · exact Pl2.cn none
  · split
    · exact Pl2.cn _
    · exact Pl2.cn none
  · split
    · exact Pl2.cn _
    · exact Pl2.cn none
  · split
    · exact Pl2.gd Pl2.ir
    · split
      · exact Pl2.gd (Pl2.bd (fun v S => Pl2.ap _ _ _ _))
      · exact Pl2.cn none
  · split
    · split
      · exact Pl2.gd (Pl2.ap _ _ _ _)
      · exact Pl2.cn none
    · split
      · exact Pl2.gd (Pl2.bd (fun v S => Pl2.ap _ _ _ _))
      · exact Pl2.cn none
  · split
    · split
      · exact Pl2.gd (Pl2.ap _ _ _ _)
      · exact Pl2.cn none
    · split
      · exact Pl2.gd (Pl2.bd (fun v S => Pl2.ap _ _ _ _))
      · exact Pl2.cn none
  · exact Pl2.of pl_step _
theorem go_pl {w : WC} {C : CT} {cs0 : List CE} {rt : Nat} : ∀ (n : Nat) (first : Bool) (cs : List CE) (ls : LV) (st : List TV) (S : AH), (∃ o, ∀ K : KP, go w C K cs0 rt n first cs ls st S = o) ∨ ∃ pc a b c, ∀ K : KP, go w C K cs0 rt n first cs ls st S = K pc a b c := by
  intro n
  induction n with
  | zero => intro first cs ls st S; exact Or.inl ⟨none, fun K => rfl⟩
  | succ n ih =>
    intro first cs ls st S
    match cs with
    | [] => exact Or.inl ⟨none, fun K => rfl⟩
    | (pc, ck, i, x) :: cs =>
      unfold go
      dsimp only
      cases hc : (Nat.blt 0 ck && !first) with
      | true => exact Or.inr ⟨pc, _, st, S, fun K => rfl⟩
      | false =>
        dsimp only
        rcases (pl_ctl (w := w) (C := C) (cs0 := cs0) (rt := rt) (pc := pc) (i := i) (x := x) (cs := cs) (ls := ls) (st := st) (S := S)) with ⟨o, h⟩ | ⟨z, a, b, c, h⟩
        · exact Or.inl ⟨o, fun K => h _⟩
        · rcases ih false z a b c with ⟨o, h2⟩ | ⟨pc', a', b', c', h2⟩
          · exact Or.inl ⟨o, fun K => (h _).trans (h2 K)⟩
          · exact Or.inr ⟨pc', a', b', c', fun K => (h _).trans (h2 K)⟩
