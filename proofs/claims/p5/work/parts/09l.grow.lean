/-! cells and slots only grow -/
theorem LE2.rf {S : AH} : LE2 S S := ⟨Nat.le_refl _, Nat.le_refl _⟩
theorem LE2.tr {S T U : AH} (h : LE2 S T) (k : LE2 T U) : LE2 S U := ⟨Nat.le_trans h.1 k.1, Nat.le_trans h.2 k.2⟩
noncomputable def Gr (S : AH) (F : KT → Rs) : Prop := ∀ k r, F k = some r → ∃ a b c, k a b c = some r ∧ LE2 S c
theorem Gr.ap {S : AH} (a : LV) (b : List TV) {c : AH} (hc : LE2 S c) : Gr S (fun k => k a b c) := fun _ _ h => ⟨a, b, c, h, hc⟩
theorem Gr.no {S : AH} : Gr S (fun _ => none) := fun _ _ h => nomatch h
theorem Gr.gd {S : AH} {b : Bool} {F : KT → Rs} (h : Gr S F) : Gr S (fun k => gd b (F k)) := by
  cases b
  · exact Gr.no
  · exact h
theorem Gr.it {S : AH} {c : Prop} [Decidable c] {F G : KT → Rs} (hF : Gr S F) (hG : Gr S G) : Gr S (fun k => if c then F k else G k) := by
  by_cases hc : c
  · simp only [if_pos hc]; exact hF
  · simp only [if_neg hc]; exact hG
theorem Gr.ck {S : AH} {c : Nat} {v : Int} {F : KT → Rs} (hF : Gr S F) : Gr S (fun k => ckZ c v (F k)) := by
  unfold ckZ
  split
  · exact Gr.it hF Gr.no
  · exact Gr.it hF Gr.no
  · exact Gr.it hF Gr.no
  · exact hF
theorem gr_setK {S : AH} {ls : LV} {i : Nat} {v : Option TV} {F : LV → KT → Rs} (h : ∀ q, Gr S (F q)) : Gr S (fun k => setK ls i v (fun q => F q k)) := by
  simp only [setK_eq]
  exact Gr.it (h _) Gr.no
theorem gr_st1 {S : AH} {ls : LV} {i : Nat} {v : TV} {F : LV → KT → Rs} (h : ∀ q, Gr S (F q)) : Gr S (fun k => st1 ls i v (fun q => F q k)) := by
  unfold st1
  split
  · exact gr_setK h
  · split
    · exact gr_setK fun q => gr_setK h
    · exact gr_setK h
theorem gr_st2 {S : AH} {ls : LV} {i : Nat} {v : TV} {F : LV → KT → Rs} (h : ∀ q, Gr S (F q)) : Gr S (fun k => st2 ls i v (fun q => F q k)) := gr_st1 fun q => gr_setK h
theorem gr_loadI {ls : LV} {i : Nat} {st : List TV} {S : AH} : Gr S (loadI ls i st S) := by
  unfold loadI
  split
  · exact Gr.ap _ _ (by first | exact LE2.rf | exact ⟨Nat.le_succ _, Nat.le_add_right _ _⟩)
  · exact Gr.no
theorem gr_loadL {ls : LV} {i : Nat} {st : List TV} {S : AH} : Gr S (loadL ls i st S) := by
  unfold loadL
  split
  · exact Gr.ap _ _ (by first | exact LE2.rf | exact ⟨Nat.le_succ _, Nat.le_add_right _ _⟩)
  · exact Gr.no
theorem gr_loadA {ls : LV} {i : Nat} {st : List TV} {S : AH} : Gr S (loadA ls i st S) := by
  unfold loadA
  split
  · exact Gr.ap _ _ (by first | exact LE2.rf | exact ⟨Nat.le_succ _, Nat.le_add_right _ _⟩)
  · exact Gr.no
theorem gr_stoI {ls : LV} {i : Nat} {st : List TV} {S : AH} : Gr S (stoI ls i st S) := by
  unfold stoI
  split
  · exact gr_st1 fun q => Gr.ap _ _ (by first | exact LE2.rf | exact ⟨Nat.le_succ _, Nat.le_add_right _ _⟩)
  · exact Gr.no
theorem gr_stoL {ls : LV} {i : Nat} {st : List TV} {S : AH} : Gr S (stoL ls i st S) := by
  unfold stoL
  split
  · exact gr_st2 fun q => Gr.ap _ _ (by first | exact LE2.rf | exact ⟨Nat.le_succ _, Nat.le_add_right _ _⟩)
  · exact Gr.no
theorem gr_stoA {ls : LV} {i : Nat} {st : List TV} {S : AH} : Gr S (stoA ls i st S) := by
  unfold stoA
  split
  · exact gr_st1 fun q => Gr.ap _ _ (by first | exact LE2.rf | exact ⟨Nat.le_succ _, Nat.le_add_right _ _⟩)
  · exact Gr.no
theorem gr_bin {f : Int → Int → Int} {ls : LV} {st : List TV} {S : AH} : Gr S (bin f ls st S) := by
  unfold bin
  split
  · exact Gr.ap _ _ (by first | exact LE2.rf | exact ⟨Nat.le_succ _, Nat.le_add_right _ _⟩)
  · exact Gr.no
theorem gr_binL {f : Int → Int → Int} {ls : LV} {st : List TV} {S : AH} : Gr S (binL f ls st S) := by
  unfold binL
  split
  · exact Gr.ap _ _ (by first | exact LE2.rf | exact ⟨Nat.le_succ _, Nat.le_add_right _ _⟩)
  · exact Gr.no
theorem gr_shL {f : Int → Int → Int} {ls : LV} {st : List TV} {S : AH} : Gr S (shL f ls st S) := by
  unfold shL
  split
  · exact Gr.ap _ _ (by first | exact LE2.rf | exact ⟨Nat.le_succ _, Nat.le_add_right _ _⟩)
  · exact Gr.no
theorem gr_una {f : Int → Int} {ls : LV} {st : List TV} {S : AH} : Gr S (una f ls st S) := by
  unfold una
  split
  · exact Gr.ap _ _ (by first | exact LE2.rf | exact ⟨Nat.le_succ _, Nat.le_add_right _ _⟩)
  · exact Gr.no
theorem gr_dvI {f : Int → Int → Int} {ls : LV} {st : List TV} {S : AH} : Gr S (dvI f ls st S) := by
  unfold dvI
  split
  · exact Gr.it Gr.no (Gr.ap _ _ (by first | exact LE2.rf | exact ⟨Nat.le_succ _, Nat.le_add_right _ _⟩))
  · exact Gr.no
theorem gr_dvL {f : Int → Int → Int} {ls : LV} {st : List TV} {S : AH} : Gr S (dvL f ls st S) := by
  unfold dvL
  split
  · exact Gr.it Gr.no (Gr.ap _ _ (by first | exact LE2.rf | exact ⟨Nat.le_succ _, Nat.le_add_right _ _⟩))
  · exact Gr.no
theorem gr_ald {w : WC} {t : Nat} {ls : LV} {st : List TV} {S : AH} : Gr S (ald w t ls st S) := by
  unfold ald
  split
  · exact Gr.gd (Gr.it (Gr.ap _ _ (by first | exact LE2.rf | exact ⟨Nat.le_succ _, Nat.le_add_right _ _⟩)) Gr.no)
  · exact Gr.no
theorem gr_aldB {w : WC} {ls : LV} {st : List TV} {S : AH} : Gr S (aldB w ls st S) := by
  unfold aldB
  split
  · exact Gr.gd (Gr.it (Gr.ap _ _ (by first | exact LE2.rf | exact ⟨Nat.le_succ _, Nat.le_add_right _ _⟩)) Gr.no)
  · exact Gr.no
theorem gr_aldA {w : WC} {ls : LV} {st : List TV} {S : AH} : Gr S (aldA w ls st S) := by
  unfold aldA
  split
  · exact Gr.gd (Gr.it (Gr.ap _ _ (by first | exact LE2.rf | exact ⟨Nat.le_succ _, Nat.le_add_right _ _⟩)) Gr.no)
  · exact Gr.no
theorem gr_astI {w : WC} {ls : LV} {st : List TV} {S : AH} : Gr S (astI w ls st S) := by
  unfold astI
  split
  · exact Gr.gd (Gr.it (Gr.ap _ _ (by first | exact LE2.rf | exact ⟨Nat.le_succ _, Nat.le_add_right _ _⟩)) Gr.no)
  · exact Gr.no
theorem gr_astL {w : WC} {ls : LV} {st : List TV} {S : AH} : Gr S (astL w ls st S) := by
  unfold astL
  split
  · exact Gr.gd (Gr.it (Gr.ap _ _ (by first | exact LE2.rf | exact ⟨Nat.le_succ _, Nat.le_add_right _ _⟩)) Gr.no)
  · exact Gr.no
theorem gr_astA {w : WC} {ls : LV} {st : List TV} {S : AH} : Gr S (astA w ls st S) := by
  unfold astA
  split
  · exact Gr.gd (Gr.it (Gr.ap _ _ (by first | exact LE2.rf | exact ⟨Nat.le_succ _, Nat.le_add_right _ _⟩)) Gr.no)
  · exact Gr.no
theorem gr_astB {w : WC} {ls : LV} {st : List TV} {S : AH} : Gr S (astB w ls st S) := by
  unfold astB
  split
  · refine Gr.gd (Gr.it ?_ Gr.no)
    split
    · exact Gr.ap _ _ (by first | exact LE2.rf | exact ⟨Nat.le_succ _, Nat.le_add_right _ _⟩)
    · exact Gr.it (Gr.ap _ _ (by first | exact LE2.rf | exact ⟨Nat.le_succ _, Nat.le_add_right _ _⟩)) Gr.no
  · exact Gr.no
theorem gr_getF {w : WC} {x : XI} {ls : LV} {st : List TV} {S : AH} : Gr S (getF w x ls st S) := by
  unfold getF
  split
  · exact Gr.gd (Gr.ap _ _ (by first | exact LE2.rf | exact ⟨Nat.le_succ _, Nat.le_add_right _ _⟩))
  · exact Gr.no
theorem gr_putF {w : WC} {x : XI} {ls : LV} {st : List TV} {S : AH} : Gr S (putF w x ls st S) := by
  unfold putF
  split
  · exact Gr.gd (Gr.ap _ _ (by first | exact LE2.rf | exact ⟨Nat.le_succ _, Nat.le_add_right _ _⟩))
  · exact Gr.gd (Gr.ap _ _ (by first | exact LE2.rf | exact ⟨Nat.le_succ _, Nat.le_add_right _ _⟩))
  · exact Gr.gd (Gr.gd (Gr.ck (Gr.ap _ _ (by first | exact LE2.rf | exact ⟨Nat.le_succ _, Nat.le_add_right _ _⟩))))
  · exact Gr.no
theorem gr_alen {w : WC} {ls : LV} {st : List TV} {S : AH} : Gr S (alen w ls st S) := by
  unfold alen
  split
  · exact Gr.gd (Gr.ap _ _ (by first | exact LE2.rf | exact ⟨Nat.le_succ _, Nat.le_add_right _ _⟩))
  · exact Gr.no
theorem gr_newA {t : Nat} {ls : LV} {st : List TV} {S : AH} : Gr S (newA t ls st S) := by
  unfold newA
  split
  · exact Gr.it (Gr.ap _ _ (by first | exact LE2.rf | exact ⟨Nat.le_succ _, Nat.le_add_right _ _⟩)) Gr.no
  · exact Gr.no
set_option maxHeartbeats 4000000 in
theorem gr_step {w : WC} {i : Instr} {x : XI} {ls : LV} {st : List TV} {S : AH} : Gr S (step w i x ls st S) := by
  unfold step
  split
  all_goals first
    | exact Gr.ap _ _ (by first | exact LE2.rf | exact ⟨Nat.le_succ _, Nat.le_add_right _ _⟩)
    | exact gr_loadI
    | exact gr_loadL
    | exact gr_loadA
    | exact gr_stoI
    | exact gr_stoL
    | exact gr_stoA
    | exact gr_bin
    | exact gr_binL
    | exact gr_shL
    | exact gr_una
    | exact gr_dvI
    | exact gr_dvL
    | exact gr_ald
    | exact gr_aldB
    | exact gr_aldA
    | exact gr_astI
    | exact gr_astL
    | exact gr_astB
    | exact gr_astA
    | exact gr_getF
    | exact gr_putF
    | exact gr_alen
    | exact Gr.gd gr_newA
    | exact gr_newA
    | exact Gr.no
    | (split
       all_goals first
         | exact Gr.ap _ _ (by first | exact LE2.rf | exact ⟨Nat.le_succ _, Nat.le_add_right _ _⟩)
         | exact Gr.no
         | exact Gr.gd (Gr.ap _ _ (by first | exact LE2.rf | exact ⟨Nat.le_succ _, Nat.le_add_right _ _⟩))
         | exact gr_st1 fun q => Gr.ap _ _ (by first | exact LE2.rf | exact ⟨Nat.le_succ _, Nat.le_add_right _ _⟩))
noncomputable def Gr2 (S : AH) (F : RT → Rs) : Prop := ∀ k r, F k = some r → LE2 S r.2 ∨ ∃ z a b c, k z a b c = some r ∧ LE2 S c
theorem ret_le {S : AH} {b : Bool} {c : Nat} {v : Int} {r : Int × AH} {o : Rs} (h : o = some r) (ho : o = gd b (ckZ c v (some (v, S))) ∨ o = gd b (some (v, S))) : LE2 S r.2 := by
  have key : ∀ {q : Rs}, q = some r → q = some (v, S) → LE2 S r.2 := by
    intro q h1 h2
    rw [h2] at h1
    cases h1
    exact LE2.rf
  rcases ho with rfl | rfl
  · obtain ⟨-, h⟩ := gd_some h
    exact key (ck_some h).1 rfl
  · obtain ⟨-, h⟩ := gd_some h
    exact key h rfl
theorem Gr2.ap {S : AH} (z : List CE) (a : LV) (b : List TV) {c : AH} (hc : LE2 S c) : Gr2 S (fun k => k z a b c) := fun _ _ h => Or.inr ⟨z, a, b, c, h, hc⟩
theorem Gr2.no {S : AH} : Gr2 S (fun _ => none) := fun _ _ h => nomatch h
theorem Gr2.cn {S : AH} {o : Rs} (ho : ∀ r, o = some r → LE2 S r.2) : Gr2 S (fun _ => o) := fun _ r h => Or.inl (ho r h)
theorem Gr2.gd {S : AH} {b : Bool} {F : RT → Rs} (h : Gr2 S F) : Gr2 S (fun k => gd b (F k)) := by
  cases b
  · exact Gr2.no
  · exact h
theorem Gr2.it {S : AH} {c : Prop} [Decidable c] {F G : RT → Rs} (hF : Gr2 S F) (hG : Gr2 S G) : Gr2 S (fun k => if c then F k else G k) := by
  by_cases hc : c
  · simp only [if_pos hc]; exact hF
  · simp only [if_neg hc]; exact hG
theorem Gr2.bf {S : AH} {c : Jvm.ClassFile.Cond} {x y : Int} {F G : RT → Rs} (hF : Gr2 S F) (hG : Gr2 S G) : Gr2 S (fun k => bIf c x y (F k) (G k)) := by
  unfold bIf
  cases c
  · exact Gr2.it hF hG
  · exact Gr2.it hG hF
  · exact Gr2.it hF hG
  · exact Gr2.it hG hF
  · exact Gr2.it hF hG
  · exact Gr2.it hG hF
theorem Gr2.sw {S : AH} {x : Int} {F : RT → Rs} {G : Int → RT → Rs} (hF : Gr2 S F) (hG : ∀ o, Gr2 S (G o)) : ∀ (offs : List Int) (k : Int), Gr2 S (fun q => swt x k offs (F q) (fun o => G o q)) := by
  intro offs
  induction offs with
  | nil => intro k; unfold swt; exact hF
  | cons o r ih => intro k; unfold swt; exact Gr2.it (hG o) (ih _)
theorem Gr2.sl {S : AH} {x : Int} {F : RT → Rs} {G : Int → RT → Rs} (hF : Gr2 S F) (hG : ∀ o, Gr2 S (G o)) : ∀ (ps : List (Int × Int)), Gr2 S (fun q => swl x ps (F q) (fun o => G o q)) := by
  intro ps
  induction ps with
  | nil => unfold swl; exact hF
  | cons o r ih => unfold swl; exact Gr2.it (hG o.2) ih
theorem Gr2.bd {S : AH} {o : Rs} {F : Int → AH → RT → Rs} (ho : ∀ r, o = some r → LE2 S r.2) (hF : ∀ v T, LE2 S T → Gr2 S (F v T)) : Gr2 S (fun k => bindR o (fun v S => F v S k)) := by
  unfold bindR
  split
  · exact hF _ _ (ho _ rfl)
  · exact Gr2.no
theorem Gr2.of {S : AH} {F : KT → Rs} (h : Gr S F) (cs : List CE) : Gr2 S (fun k => F (fun a b c => k cs a b c)) := by
  intro k r q
  obtain ⟨a, b, c, h1, h2⟩ := h _ _ q
  exact Or.inr ⟨cs, a, b, c, h1, h2⟩
theorem Gr2.cp {w : WC} {st : List TV} {S : AH} {cs : List CE} {ls : LV} : Gr2 S (fun k => copyA w st S (fun r S' => k cs ls r S')) := by
  unfold copyA
  split
  · exact Gr2.gd (Gr2.it (Gr2.ap _ _ _ (by first | exact LE2.rf | exact ⟨Nat.le_succ _, Nat.le_add_right _ _⟩)) (Gr2.no))
  · exact Gr2.no
theorem Gr2.ir {w : WC} {m : Nat} {st : List TV} {S : AH} {cs : List CE} {ls : LV} : Gr2 S (fun k => intr w m st S (fun r S' => k cs ls r S')) := by
  unfold intr
  split
  · exact Gr2.cp
  · split
    · exact Gr2.ap _ _ _ (by first | exact LE2.rf | exact ⟨Nat.le_succ _, Nat.le_add_right _ _⟩)
    · exact Gr2.no
  · split
    · exact Gr2.ap _ _ _ (by first | exact LE2.rf | exact ⟨Nat.le_succ _, Nat.le_add_right _ _⟩)
    · exact Gr2.no
  · split
    · exact Gr2.ap _ _ _ (by first | exact LE2.rf | exact ⟨Nat.le_succ _, Nat.le_add_right _ _⟩)
    · exact Gr2.no
  · split
    · exact Gr2.ap _ _ _ (by first | exact LE2.rf | exact ⟨Nat.le_succ _, Nat.le_add_right _ _⟩)
    · exact Gr2.no
  · exact Gr2.no
set_option maxHeartbeats 4000000 in
theorem gr_ctl {w : WC} {C : Nat → List TV → AH → Rs} {cs0 : List CE} {rt pc : Nat} {i : Instr} {x : XI} {cs : List CE} {ls : LV} {st : List TV} {S : AH} (hC : ∀ m as S r, C m as S = some r → LE2 S r.2) : Gr2 S (ctl w C cs0 rt pc i x cs ls st S) := by
  unfold ctl
  split
  · exact Gr2.ap _ _ _ (by first | exact LE2.rf | exact ⟨Nat.le_succ _, Nat.le_add_right _ _⟩)
  · split
    · exact Gr2.bf (Gr2.ap _ _ _ (by first | exact LE2.rf | exact ⟨Nat.le_succ _, Nat.le_add_right _ _⟩)) (Gr2.ap _ _ _ (by first | exact LE2.rf | exact ⟨Nat.le_succ _, Nat.le_add_right _ _⟩))
    · exact Gr2.no
  · split
    · exact Gr2.bf (Gr2.ap _ _ _ (by first | exact LE2.rf | exact ⟨Nat.le_succ _, Nat.le_add_right _ _⟩)) (Gr2.ap _ _ _ (by first | exact LE2.rf | exact ⟨Nat.le_succ _, Nat.le_add_right _ _⟩))
    · exact Gr2.no
  · split
    · exact Gr2.it (Gr2.ap _ _ _ (by first | exact LE2.rf | exact ⟨Nat.le_succ _, Nat.le_add_right _ _⟩)) (Gr2.gd (Gr2.ap _ _ _ (by first | exact LE2.rf | exact ⟨Nat.le_succ _, Nat.le_add_right _ _⟩)))
    · exact Gr2.no
  · split
    · exact Gr2.it (Gr2.ap _ _ _ (by first | exact LE2.rf | exact ⟨Nat.le_succ _, Nat.le_add_right _ _⟩)) (Gr2.gd (Gr2.ap _ _ _ (by first | exact LE2.rf | exact ⟨Nat.le_succ _, Nat.le_add_right _ _⟩)))
    · exact Gr2.no
  · split
    · exact Gr2.sw (Gr2.ap _ _ _ (by first | exact LE2.rf | exact ⟨Nat.le_succ _, Nat.le_add_right _ _⟩)) (fun o => Gr2.ap _ _ _ (by first | exact LE2.rf | exact ⟨Nat.le_succ _, Nat.le_add_right _ _⟩)) _ _
    · exact Gr2.no
  · split
    · exact Gr2.sl (Gr2.ap _ _ _ (by first | exact LE2.rf | exact ⟨Nat.le_succ _, Nat.le_add_right _ _⟩)) (fun o => Gr2.ap _ _ _ (by first | exact LE2.rf | exact ⟨Nat.le_succ _, Nat.le_add_right _ _⟩)) _
    · exact Gr2.no
  · split
    · exact Gr2.cn (fun r h => by first | exact ret_le h (Or.inl rfl) | exact ret_le (c := 0) h (Or.inr rfl))
    · exact Gr2.no
  · split
    · exact Gr2.cn (fun r h => by first | exact ret_le h (Or.inl rfl) | exact ret_le (c := 0) h (Or.inr rfl))
    · exact Gr2.no
  · split
    · exact Gr2.cn (fun r h => by first | exact ret_le h (Or.inl rfl) | exact ret_le (c := 0) h (Or.inr rfl))
    · exact Gr2.no
  · split
    · exact Gr2.cn (fun r h => by first | exact ret_le h (Or.inl rfl) | exact ret_le (c := 0) h (Or.inr rfl))
    · exact Gr2.no
  · split
    · exact Gr2.gd Gr2.ir
    · split
      · exact Gr2.gd (Gr2.bd (fun r h => hC _ _ _ _ h) (fun v T hT => Gr2.ap _ _ _ hT))
      · exact Gr2.no
  · split
    · split
      · exact Gr2.gd (Gr2.ap _ _ _ (by first | exact LE2.rf | exact ⟨Nat.le_succ _, Nat.le_add_right _ _⟩))
      · exact Gr2.no
    · split
      · exact Gr2.gd (Gr2.bd (fun r h => hC _ _ _ _ h) (fun v T hT => Gr2.ap _ _ _ hT))
      · exact Gr2.no
  · split
    · split
      · exact Gr2.gd (Gr2.ap _ _ _ (by first | exact LE2.rf | exact ⟨Nat.le_succ _, Nat.le_add_right _ _⟩))
      · exact Gr2.no
    · split
      · exact Gr2.gd (Gr2.bd (fun r h => hC _ _ _ _ h) (fun v T hT => Gr2.ap _ _ _ hT))
      · exact Gr2.no
  · exact Gr2.of gr_step _
theorem go_gr {w : WC} {C : CT} {cs0 : List CE} {rt : Nat} (hC : ∀ m as S r, C m as S = some r → LE2 S r.2) : ∀ (n : Nat) (first : Bool) (cs : List CE) (ls : LV) (st : List TV) (S : AH) (K : KP) (r : Int × AH), (∀ pc a b c, K pc a b c = some r → LE2 c r.2) → go w C K cs0 rt n first cs ls st S = some r → LE2 S r.2 := by
  intro n
  induction n with
  | zero => intro first cs ls st S K r _ h; cases h
  | succ n ih =>
    intro first cs ls st S K r hK h
    match cs, h with
    | [], h => cases h
    | (pc, ck, i, x) :: cs, h =>
      unfold go at h
      dsimp only at h
      cases hc : (Nat.blt 0 ck && !first) with
      | true =>
        rw [hc] at h
        exact hK _ _ _ _ h
      | false =>
        rw [hc] at h
        dsimp only at h
        rcases gr_ctl hC _ _ h with h1 | ⟨z, a, b, c, h1, h2⟩
        · exact h1
        · exact h2.tr (ih false z a b c K r hK h1)
theorem lpn_gr {w : WC} {C : CT} {m : Nat} (hC : ∀ m as S r, C m as S = some r → LE2 S r.2) : ∀ (n : Nat) (pc : Nat) (ls : LV) (st : List TV) (S : AH) (r : Int × AH), lpn w C m n pc ls st S = some r → LE2 S r.2 := by
  intro n
  induction n with
  | zero => intro pc ls st S r h; cases h
  | succ n ih => intro pc ls st S r h; exact go_gr hC _ _ _ _ _ _ _ _ (fun pc a b c q => ih pc a b c r q) h
theorem ev_gr {w : WC} : ∀ (d m : Nat) (as : List TV) (S : AH) (r : Int × AH), ev w d m as S = some r → LE2 S r.2 := by
  intro d
  induction d with
  | zero => intro m as S r h; cases h
  | succ d ih =>
    intro m as S r h
    obtain ⟨-, h⟩ := gd_some h
    obtain ⟨n, h⟩ := LQ_iff.mp h
    exact lpn_gr (fun m as S r q => ih m as S r q) _ _ _ _ _ _ h
