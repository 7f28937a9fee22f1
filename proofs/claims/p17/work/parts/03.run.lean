section
-- 03.run
/-! A method's run: from cut to cut, any number of times; calls a level deeper. -/
noncomputable def Lin (F : KT → Rs) : Prop := ∀ k r, F k = some r → ∃ a b c, k a b c = some r ∧ ∀ k' : KT, k' a b c = some r → F k' = some r
theorem Lin.ap (a : LV) (b : List TV) (c : AH) : Lin (fun k => k a b c) := fun _ _ h => ⟨a, b, c, h, fun _ q => q⟩
theorem Lin.no : Lin (fun _ => none) := fun _ _ h => nomatch h
theorem Lin.gd {b : Bool} {F : KT → Rs} (h : Lin F) : Lin (fun k => gd b (F k)) := by
  cases b
  · exact Lin.no
  · exact h
theorem Lin.it {c : Prop} [Decidable c] {F G : KT → Rs} (hF : Lin F) (hG : Lin G) : Lin (fun k => if c then F k else G k) := by
  by_cases hc : c
  · simp only [if_pos hc]; exact hF
  · simp only [if_neg hc]; exact hG
theorem Lin.ck {c : Nat} {v : Int} {F : KT → Rs} (hF : Lin F) : Lin (fun k => ckZ c v (F k)) := by
  unfold ckZ
  split
  · exact Lin.it hF Lin.no
  · exact Lin.it hF Lin.no
  · exact Lin.it hF Lin.no
  · exact hF
theorem setK_eq : ∀ (ls : LV) (i : Nat) (v : Option TV) (k : LV → Rs), setK ls i v k = if i < ls.length then k (ls.set i v) else none := by
  intro ls
  induction ls with
  | nil => intro i v k; simp [setK]
  | cons a r ih =>
    intro i v k
    cases i with
    | zero => simp [setK]
    | succ i => simp [setK, ih]
theorem lin_setK {ls : LV} {i : Nat} {v : Option TV} {F : LV → KT → Rs} (h : ∀ q, Lin (F q)) : Lin (fun k => setK ls i v (fun q => F q k)) := by
  simp only [setK_eq]
  exact Lin.it (h _) Lin.no
theorem lin_st1 {ls : LV} {i : Nat} {v : TV} {F : LV → KT → Rs} (h : ∀ q, Lin (F q)) : Lin (fun k => st1 ls i v (fun q => F q k)) := by
  unfold st1
  split
  · exact lin_setK h
  · split
    · exact lin_setK fun q => lin_setK h
    · exact lin_setK h
theorem lin_st2 {ls : LV} {i : Nat} {v : TV} {F : LV → KT → Rs} (h : ∀ q, Lin (F q)) : Lin (fun k => st2 ls i v (fun q => F q k)) := lin_st1 fun q => lin_setK h
theorem lin_loadI {ls : LV} {i : Nat} {st : List TV} {S : AH} : Lin (loadI ls i st S) := by
  unfold loadI
  split
  · exact Lin.ap _ _ _
  · exact Lin.no
theorem lin_loadL {ls : LV} {i : Nat} {st : List TV} {S : AH} : Lin (loadL ls i st S) := by
  unfold loadL
  split
  · exact Lin.ap _ _ _
  · exact Lin.no
theorem lin_loadA {ls : LV} {i : Nat} {st : List TV} {S : AH} : Lin (loadA ls i st S) := by
  unfold loadA
  split
  · exact Lin.ap _ _ _
  · exact Lin.no
theorem lin_stoI {ls : LV} {i : Nat} {st : List TV} {S : AH} : Lin (stoI ls i st S) := by
  unfold stoI
  split
  · exact lin_st1 fun q => Lin.ap _ _ _
  · exact Lin.no
theorem lin_stoL {ls : LV} {i : Nat} {st : List TV} {S : AH} : Lin (stoL ls i st S) := by
  unfold stoL
  split
  · exact lin_st2 fun q => Lin.ap _ _ _
  · exact Lin.no
theorem lin_stoA {ls : LV} {i : Nat} {st : List TV} {S : AH} : Lin (stoA ls i st S) := by
  unfold stoA
  split
  · exact lin_st1 fun q => Lin.ap _ _ _
  · exact Lin.no
theorem lin_bin {f : Int → Int → Int} {ls : LV} {st : List TV} {S : AH} : Lin (bin f ls st S) := by
  unfold bin
  split
  · exact Lin.ap _ _ _
  · exact Lin.no
theorem lin_binL {f : Int → Int → Int} {ls : LV} {st : List TV} {S : AH} : Lin (binL f ls st S) := by
  unfold binL
  split
  · exact Lin.ap _ _ _
  · exact Lin.no
theorem lin_shL {f : Int → Int → Int} {ls : LV} {st : List TV} {S : AH} : Lin (shL f ls st S) := by
  unfold shL
  split
  · exact Lin.ap _ _ _
  · exact Lin.no
theorem lin_una {f : Int → Int} {ls : LV} {st : List TV} {S : AH} : Lin (una f ls st S) := by
  unfold una
  split
  · exact Lin.ap _ _ _
  · exact Lin.no
theorem lin_dvI {f : Int → Int → Int} {ls : LV} {st : List TV} {S : AH} : Lin (dvI f ls st S) := by
  unfold dvI
  split
  · exact Lin.it Lin.no (Lin.ap _ _ _)
  · exact Lin.no
theorem lin_dvL {f : Int → Int → Int} {ls : LV} {st : List TV} {S : AH} : Lin (dvL f ls st S) := by
  unfold dvL
  split
  · exact Lin.it Lin.no (Lin.ap _ _ _)
  · exact Lin.no
theorem lin_ald {w : WC} {t : Nat} {ls : LV} {st : List TV} {S : AH} : Lin (ald w t ls st S) := by
  unfold ald
  split
  · exact Lin.gd (Lin.it (Lin.ap _ _ _) Lin.no)
  · exact Lin.no
theorem lin_aldB {w : WC} {ls : LV} {st : List TV} {S : AH} : Lin (aldB w ls st S) := by
  unfold aldB
  split
  · exact Lin.gd (Lin.it (Lin.ap _ _ _) Lin.no)
  · exact Lin.no
theorem lin_aldA {w : WC} {ls : LV} {st : List TV} {S : AH} : Lin (aldA w ls st S) := by
  unfold aldA
  split
  · exact Lin.gd (Lin.it (Lin.ap _ _ _) Lin.no)
  · exact Lin.no
theorem lin_astI {w : WC} {ls : LV} {st : List TV} {S : AH} : Lin (astI w ls st S) := by
  unfold astI
  split
  · exact Lin.gd (Lin.it (Lin.ap _ _ _) Lin.no)
  · exact Lin.no
theorem lin_astL {w : WC} {ls : LV} {st : List TV} {S : AH} : Lin (astL w ls st S) := by
  unfold astL
  split
  · exact Lin.gd (Lin.it (Lin.ap _ _ _) Lin.no)
  · exact Lin.no
theorem lin_astA {w : WC} {ls : LV} {st : List TV} {S : AH} : Lin (astA w ls st S) := by
  unfold astA
  split
  · exact Lin.gd (Lin.it (Lin.ap _ _ _) Lin.no)
  · exact Lin.no
theorem lin_astB {w : WC} {ls : LV} {st : List TV} {S : AH} : Lin (astB w ls st S) := by
  unfold astB
  split
  · refine Lin.gd (Lin.it ?_ Lin.no)
    split
    · exact Lin.ap _ _ _
    · exact Lin.it (Lin.ap _ _ _) Lin.no
  · exact Lin.no
theorem lin_getF {w : WC} {x : XI} {ls : LV} {st : List TV} {S : AH} : Lin (getF w x ls st S) := by
  unfold getF
  split
  · exact Lin.gd (Lin.ap _ _ _)
  · exact Lin.no
theorem lin_putF {w : WC} {x : XI} {ls : LV} {st : List TV} {S : AH} : Lin (putF w x ls st S) := by
  unfold putF
  split
  · exact Lin.gd (Lin.ap _ _ _)
  · exact Lin.gd (Lin.ap _ _ _)
  · exact Lin.gd (Lin.gd (Lin.ck (Lin.ap _ _ _)))
  · exact Lin.no
theorem lin_alen {w : WC} {ls : LV} {st : List TV} {S : AH} : Lin (alen w ls st S) := by
  unfold alen
  split
  · exact Lin.gd (Lin.ap _ _ _)
  · exact Lin.no
theorem lin_newA {t : Nat} {ls : LV} {st : List TV} {S : AH} : Lin (newA t ls st S) := by
  unfold newA
  split
  · exact Lin.it (Lin.ap _ _ _) Lin.no
  · exact Lin.no
set_option maxHeartbeats 4000000 in
theorem lin_step {w : WC} {i : Instr} {x : XI} {ls : LV} {st : List TV} {S : AH} : Lin (step w i x ls st S) := by
  unfold step
  split
  all_goals first
    | exact Lin.ap _ _ _
    | exact lin_loadI
    | exact lin_loadL
    | exact lin_loadA
    | exact lin_stoI
    | exact lin_stoL
    | exact lin_stoA
    | exact lin_bin
    | exact lin_binL
    | exact lin_shL
    | exact lin_una
    | exact lin_dvI
    | exact lin_dvL
    | exact lin_ald
    | exact lin_aldB
    | exact lin_aldA
    | exact lin_astI
    | exact lin_astL
    | exact lin_astB
    | exact lin_astA
    | exact lin_getF
    | exact lin_putF
    | exact lin_alen
    | exact Lin.gd lin_newA
    | exact lin_newA
    | exact Lin.no
    | (split
       all_goals first
         | exact Lin.ap _ _ _
         | exact Lin.no
         | exact Lin.gd (Lin.ap _ _ _)
         | exact lin_st1 fun q => Lin.ap _ _ _)
noncomputable def Lin2 (F : RT → Rs) : Prop := ∀ k r, F k = some r → (∀ k', F k' = some r) ∨ ∃ z a b c, k z a b c = some r ∧ ∀ k' : RT, k' z a b c = some r → F k' = some r
theorem Lin2.ap (z : List CE) (a : LV) (b : List TV) (c : AH) : Lin2 (fun k => k z a b c) := fun _ _ h => Or.inr ⟨z, a, b, c, h, fun _ q => q⟩
theorem Lin2.cn (o : Rs) : Lin2 (fun _ => o) := fun _ _ h => Or.inl fun _ => h
theorem Lin2.gd {b : Bool} {F : RT → Rs} (h : Lin2 F) : Lin2 (fun k => gd b (F k)) := by
  cases b
  · exact Lin2.cn none
  · exact h
theorem Lin2.it {c : Prop} [Decidable c] {F G : RT → Rs} (hF : Lin2 F) (hG : Lin2 G) : Lin2 (fun k => if c then F k else G k) := by
  by_cases hc : c
  · simp only [if_pos hc]; exact hF
  · simp only [if_neg hc]; exact hG
theorem Lin2.bf {c : Jvm.ClassFile.Cond} {x y : Int} {F G : RT → Rs} (hF : Lin2 F) (hG : Lin2 G) : Lin2 (fun k => bIf c x y (F k) (G k)) := by
  unfold bIf
  cases c
  · exact Lin2.it hF hG
  · exact Lin2.it hG hF
  · exact Lin2.it hF hG
  · exact Lin2.it hG hF
  · exact Lin2.it hF hG
  · exact Lin2.it hG hF
theorem Lin2.sw {x : Int} {F : RT → Rs} {G : Int → RT → Rs} (hF : Lin2 F) (hG : ∀ o, Lin2 (G o)) : ∀ (offs : List Int) (k : Int), Lin2 (fun q => swt x k offs (F q) (fun o => G o q)) := by
  intro offs
  induction offs with
  | nil => intro k; unfold swt; exact hF
  | cons o r ih => intro k; unfold swt; exact Lin2.it (hG o) (ih _)
theorem Lin2.sl {x : Int} {F : RT → Rs} {G : Int → RT → Rs} (hF : Lin2 F) (hG : ∀ o, Lin2 (G o)) : ∀ (ps : List (Int × Int)), Lin2 (fun q => swl x ps (F q) (fun o => G o q)) := by
  intro ps
  induction ps with
  | nil => unfold swl; exact hF
  | cons o r ih => unfold swl; exact Lin2.it (hG o.2) ih
theorem Lin2.bd {o : Rs} {F : Int → AH → RT → Rs} (hF : ∀ v S, Lin2 (F v S)) : Lin2 (fun k => bindR o (fun v S => F v S k)) := by
  unfold bindR
  split
  · exact hF _ _
  · exact Lin2.cn none
theorem Lin2.of {F : KT → Rs} (h : Lin F) (cs : List CE) : Lin2 (fun k => F (fun a b c => k cs a b c)) := by
  intro k r q
  obtain ⟨a, b, c, h1, h2⟩ := h _ _ q
  exact Or.inr ⟨cs, a, b, c, h1, fun k' q' => h2 _ q'⟩
theorem Lin2.cp {w : WC} {st : List TV} {S : AH} {cs : List CE} {ls : LV} : Lin2 (fun k => copyA w st S (fun r S' => k cs ls r S')) := by
  unfold copyA
  split
  · exact Lin2.gd (Lin2.it (Lin2.ap _ _ _ _) (Lin2.cn none))
  · exact Lin2.cn none
theorem Lin2.ir {w : WC} {m : Nat} {st : List TV} {S : AH} {cs : List CE} {ls : LV} : Lin2 (fun k => intr w m st S (fun r S' => k cs ls r S')) := by
  unfold intr
  split
  · exact Lin2.cp
  · split
    · exact Lin2.ap _ _ _ _
    · exact Lin2.cn none
  · split
    · exact Lin2.ap _ _ _ _
    · exact Lin2.cn none
  · split
    · exact Lin2.ap _ _ _ _
    · exact Lin2.cn none
  · split
    · exact Lin2.ap _ _ _ _
    · exact Lin2.cn none
  · exact Lin2.cn none
set_option maxHeartbeats 4000000 in
theorem lin_ctl {w : WC} {C : Nat → List TV → AH → Rs} {cs0 : List CE} {rt pc : Nat} {i : Instr} {x : XI} {cs : List CE} {ls : LV} {st : List TV} {S : AH} : Lin2 (ctl w C cs0 rt pc i x cs ls st S) := by
  unfold ctl
  split
  · exact Lin2.ap _ _ _ _
  · split
    · exact Lin2.bf (Lin2.ap _ _ _ _) (Lin2.ap _ _ _ _)
    · exact Lin2.cn none
  · split
    · exact Lin2.bf (Lin2.ap _ _ _ _) (Lin2.ap _ _ _ _)
    · exact Lin2.cn none
  · split
    · exact Lin2.it (Lin2.ap _ _ _ _) (Lin2.gd (Lin2.ap _ _ _ _))
    · exact Lin2.cn none
  · split
    · exact Lin2.it (Lin2.ap _ _ _ _) (Lin2.gd (Lin2.ap _ _ _ _))
    · exact Lin2.cn none
  · split
    · exact Lin2.sw (Lin2.ap _ _ _ _) (fun o => Lin2.ap _ _ _ _) _ _
    · exact Lin2.cn none
  · split
    · exact Lin2.sl (Lin2.ap _ _ _ _) (fun o => Lin2.ap _ _ _ _) _
    · exact Lin2.cn none
  · split
    · exact Lin2.cn _
    · exact Lin2.cn none
  · split
    · exact Lin2.cn _
    · exact Lin2.cn none
  · split
    · exact Lin2.cn _
    · exact Lin2.cn none
  · split
    · exact Lin2.cn _
    · exact Lin2.cn none
  · split
    · exact Lin2.gd Lin2.ir
    · split
      · exact Lin2.gd (Lin2.bd (fun v S => Lin2.ap _ _ _ _))
      · exact Lin2.cn none
  · split
    · split
      · exact Lin2.gd (Lin2.ap _ _ _ _)
      · exact Lin2.cn none
    · split
      · exact Lin2.gd (Lin2.bd (fun v S => Lin2.ap _ _ _ _))
      · exact Lin2.cn none
  · split
    · split
      · exact Lin2.gd (Lin2.ap _ _ _ _)
      · exact Lin2.cn none
    · split
      · exact Lin2.gd (Lin2.bd (fun v S => Lin2.ap _ _ _ _))
      · exact Lin2.cn none
  · exact Lin2.of lin_step _
abbrev CT : Type := Nat → List TV → AH → Rs
abbrev KP : Type := Nat → LV → List TV → AH → Rs
/-- a path through 'go' meets K once at most -/
theorem go_lin {w : WC} {C : CT} {cs0 : List CE} {rt : Nat} : ∀ (n : Nat) (first : Bool) (cs : List CE) (ls : LV) (st : List TV) (S : AH) (K : KP) (r : Int × AH), go w C K cs0 rt n first cs ls st S = some r →
    (∀ K', go w C K' cs0 rt n first cs ls st S = some r) ∨ ∃ pc a b c, K pc a b c = some r ∧ ∀ K' : KP, K' pc a b c = some r → go w C K' cs0 rt n first cs ls st S = some r := by
  intro n
  induction n with
  | zero => intro first cs ls st S K r h; cases h
  | succ n ih =>
    intro first cs ls st S K r h
    match cs, h with
    | [], h => cases h
    | (pc, ck, i, x) :: cs, h =>
      unfold go at h ⊢
      dsimp only at h ⊢
      cases hc : (Nat.blt 0 ck && !first) with
      | true =>
        rw [hc] at h
        exact Or.inr ⟨pc, _, st, S, h, fun K' q => q⟩
      | false =>
        rw [hc] at h
        dsimp only at h ⊢
        rcases lin_ctl _ _ h with h1 | ⟨z, a, b, c, h1, h2⟩
        · exact Or.inl fun K' => h1 _
        · rcases ih false z a b c K r h1 with h3 | ⟨pc', a', b', c', h3, h4⟩
          · exact Or.inl fun K' => h2 _ (h3 K')
          · exact Or.inr ⟨pc', a', b', c', h3, fun K' q => h2 _ (h4 K' q)⟩
theorem go_mono {w : WC} {C : CT} {cs0 : List CE} {rt n : Nat} {first : Bool} {cs : List CE} {ls : LV} {st : List TV} {S : AH} {K K' : KP} {r : Int × AH} (hK : ∀ pc a b c, K pc a b c = some r → K' pc a b c = some r) (h : go w C K cs0 rt n first cs ls st S = some r) : go w C K' cs0 rt n first cs ls st S = some r := by
  rcases go_lin _ _ _ _ _ _ _ _ h with h1 | ⟨pc, a, b, c, h1, h2⟩
  · exact h1 K'
  · exact h2 K' (hK _ _ _ _ h1)
/-- n hops from cut to cut -/
noncomputable def lpn (w : WC) (C : CT) (m : Nat) : Nat → KP
  | 0 => fun _ _ _ _ => none
  | n + 1 => fun pc ls st S => go w C (lpn w C m n) (csOf m) (rtOf m) 4000 true (cde (csOf m) pc) ls st S
theorem lpn_up {w : WC} {C : CT} {m : Nat} : ∀ (n : Nat) (pc : Nat) (ls : LV) (st : List TV) (S : AH) (r : Int × AH), lpn w C m n pc ls st S = some r → lpn w C m (n + 1) pc ls st S = some r := by
  intro n
  induction n with
  | zero => intro pc ls st S r h; cases h
  | succ n ih => intro pc ls st S r h; exact go_mono (fun pc a b c q => ih pc a b c r q) h
theorem lpn_le {w : WC} {C : CT} {m n n' : Nat} (hn : n ≤ n') {pc : Nat} {ls : LV} {st : List TV} {S : AH} {r : Int × AH} (h : lpn w C m n pc ls st S = some r) : lpn w C m n' pc ls st S = some r := by
  induction hn with
  | refl => exact h
  | step _ ih => exact lpn_up _ _ _ _ _ _ ih
noncomputable def LQ (w : WC) (C : CT) (m : Nat) : KP := fun pc ls st S =>
  haveI := Classical.propDecidable (∃ q : Nat × (Int × AH), lpn w C m q.1 pc ls st S = some q.2)
  if h : ∃ q : Nat × (Int × AH), lpn w C m q.1 pc ls st S = some q.2 then some (Classical.choose h).2 else none
theorem LQ_iff {w : WC} {C : CT} {m pc : Nat} {ls : LV} {st : List TV} {S : AH} {r : Int × AH} : LQ w C m pc ls st S = some r ↔ ∃ n, lpn w C m n pc ls st S = some r := by
  unfold LQ
  constructor
  · intro h
    split at h
    · rename_i q
      cases h
      exact ⟨_, Classical.choose_spec q⟩
    · cases h
  · rintro ⟨n, h⟩
    have q : ∃ q : Nat × (Int × AH), lpn w C m q.1 pc ls st S = some q.2 := ⟨(n, r), h⟩
    rw [dif_pos q]
    have h1 := lpn_le (Nat.le_max_left n (Classical.choose q).1) h
    have h2 := lpn_le (Nat.le_max_right n (Classical.choose q).1) (Classical.choose_spec q)
    rw [h1] at h2
    exact h2.symm
theorem LQ_eq (w : WC) (C : CT) (m pc : Nat) (ls : LV) (st : List TV) (S : AH) : LQ w C m pc ls st S = go w C (LQ w C m) (csOf m) (rtOf m) 4000 true (cde (csOf m) pc) ls st S := by
  have key : ∀ r, LQ w C m pc ls st S = some r ↔ go w C (LQ w C m) (csOf m) (rtOf m) 4000 true (cde (csOf m) pc) ls st S = some r := by
    intro r
    constructor
    · intro h
      obtain ⟨n, h⟩ := LQ_iff.mp h
      match n, h with
      | 0, h => cases h
      | n + 1, h => exact go_mono (fun pc a b c q => LQ_iff.mpr ⟨n, q⟩) h
    · intro h
      rcases go_lin _ _ _ _ _ _ _ _ h with h1 | ⟨pc', a, b, c, h1, h2⟩
      · exact LQ_iff.mpr ⟨1, h1 _⟩
      · obtain ⟨n, h1⟩ := LQ_iff.mp h1
        exact LQ_iff.mpr ⟨n + 1, h2 _ h1⟩
  cases h : LQ w C m pc ls st S with
  | some r => exact ((key r).mp h).symm
  | none =>
    cases h2 : go w C (LQ w C m) (csOf m) (rtOf m) 4000 true (cde (csOf m) pc) ls st S with
    | none => rfl
    | some r => rw [(key r).mpr h2] at h; cases h
/-- the locals at a method's entry -/
noncomputable def spr (as : List TV) : LV := match as with
  | [] => []
  | .inr (.inl x) :: r => some (vl x) :: none :: spr r
  | v :: r => some v :: spr r
noncomputable def ent (n : Nat) (as : List TV) : LV := spr as ++ List.replicate (n - (spr as).length) none
/-- method m at calls' depth d -/
noncomputable def ev (w : WC) : Nat → CT
  | 0 => fun _ _ _ => none
  | d + 1 => fun m as S => gd (Nat.ble (spr as).length (mlOf m)) (LQ w (ev w d) m 0 (ent (mlOf m) as) [] S)
theorem ev_eq (w : WC) (d m : Nat) (as : List TV) (S : AH) : ev w (d + 1) m as S = gd (Nat.ble (spr as).length (mlOf m)) (go w (ev w d) (LQ w (ev w d) m) (csOf m) (rtOf m) 4000 true (cde (csOf m) 0) (ent (mlOf m) as) [] S) := by
  rw [← LQ_eq]
  rfl
end
section
-- 04.tbl
-- ===== PART A: goes FIRST, ahead of the names: the tables' words, and 'selects' of the private methods out of them =====
/-- a private method of a class that the tables say can be made, by its rows of tables_1 -/
noncomputable def lw_okq (q : MethodName × Nat) : Prop := (q.1.cls ≠ "java/lang/invoke/MethodHandle" ∧ q.1.cls ≠ "java/lang/invoke/VarHandle") ∧ Cond.instantiable q.1.cls q.2 ∈ tables_1 ∧ Cond.privateMethod q.1 ∈ tables_1 ∧ Cond.instanceMethod q.1 ∈ tables_1
/-- a list's tails, twenty apart -/
noncomputable def dk (t : List Cond) : List (List Cond) := [t.drop 0, t.drop 20, t.drop 40, t.drop 60, t.drop 80, t.drop 100, t.drop 120, t.drop 140, t.drop 160, t.drop 180, t.drop 200, t.drop 220]
theorem dk_mem {t l : List Cond} (h : l ∈ dk t) {c : Cond} (hc : c ∈ l) : c ∈ t := by
  simp only [dk, List.mem_cons, List.not_mem_nil, or_false] at h
  rcases h with rfl | rfl | rfl | rfl | rfl | rfl | rfl | rfl | rfl | rfl | rfl | rfl <;> first | exact hc | exact List.mem_of_mem_drop hc
theorem mem_gD {α : Type _} {l : List (List α)} {n : Nat} {x : α} (h : x ∈ l.getD n []) : ∃ y ∈ l, x ∈ y := by
  rw [List.getD_eq_getElem?_getD] at h
  cases ht : l[n]? with
  | none => rw [ht] at h; cases h
  | some y => rw [ht] at h; exact ⟨y, List.mem_of_getElem? ht, h⟩
noncomputable def twq : List (List (List Cond)) := [[], dk tables_1_1, dk tables_1_2, dk tables_1_3, dk tables_1_4, dk tables_1_5, dk tables_1_6, dk tables_1_7, dk tables_1_8, dk tables_1_9, dk tables_1_10]
noncomputable def wt (i : Nat) : Option Cond := ((twq.getD (i / 1000) []).getD (i % 1000 / 20) [])[i % 20]?
theorem wt_mem {i : Nat} {c : Cond} (h : wt i = some c) : c ∈ tables_1 := by
  have h0 : c ∈ ((twq.getD (i / 1000) []).getD (i % 1000 / 20) []) := List.mem_of_getElem? h
  obtain ⟨l, hl, hc⟩ := mem_gD h0
  obtain ⟨T, hT, hl'⟩ := mem_gD hl
  simp only [twq, List.mem_cons, List.not_mem_nil, or_false] at hT
  unfold tables_1
  simp only [List.mem_append]
  rcases hT with rfl | rfl | rfl | rfl | rfl | rfl | rfl | rfl | rfl | rfl | rfl
  · cases hl'
  all_goals
    have hx := dk_mem hl' hc
    simp only [hx, true_or, or_true]
noncomputable def lw_okB (q : MethodName × Nat) (i : Nat × Nat × Nat) : Bool := decide (q.1.cls ≠ "java/lang/invoke/MethodHandle") && decide (q.1.cls ≠ "java/lang/invoke/VarHandle") && decide (wt i.1 = some (Cond.instantiable q.1.cls q.2)) && decide (wt i.2.1 = some (Cond.privateMethod q.1)) && decide (wt i.2.2 = some (Cond.instanceMethod q.1))
theorem lw_okB_ok {q : MethodName × Nat} {i : Nat × Nat × Nat} (h : lw_okB q i = true) : lw_okq q := by
  unfold lw_okB at h
  rw [Bool.and_eq_true, Bool.and_eq_true, Bool.and_eq_true, Bool.and_eq_true, decide_eq_true_eq, decide_eq_true_eq, decide_eq_true_eq, decide_eq_true_eq, decide_eq_true_eq] at h
  exact ⟨⟨h.1.1.1.1, h.1.1.1.2⟩, wt_mem h.1.1.2, wt_mem h.1.2, wt_mem h.2⟩
noncomputable def lw_chk : List (MethodName × Nat) → List (Nat × Nat × Nat) → Bool
  | [], _ => true
  | _ :: _, [] => false
  | q :: l, i :: r => lw_okB q i && lw_chk l r
theorem lw_chk_ok : ∀ (l : List (MethodName × Nat)) (r : List (Nat × Nat × Nat)), lw_chk l r = true → ∀ q ∈ l, lw_okq q := by
  intro l
  induction l with
  | nil => intro r _ q hq; cases hq
  | cons a l ih =>
    intro r h q hq
    cases r with
    | nil => cases h
    | cons i r =>
      have h' := (Bool.and_eq_true _ _).mp h
      rcases List.mem_cons.mp hq with rfl | hq
      · exact lw_okB_ok h'.1
      · exact ih r h'.2 q hq
noncomputable def lw_privs_1 : List (MethodName × Nat) := [(⟨"SupplyBook", "feedInt", "(I)V"⟩, 14), (⟨"SupplyBook$Reader", "begin", "([BII)V"⟩, 13), (⟨"SupplyBook$Reader", "step", "()V"⟩, 13), (⟨"SupplyBook$Reader", "readClause", "(Z)V"⟩, 13), (⟨"SupplyBook$Reader", "isNextOf", "(Ljava/lang/String;)Z"⟩, 13), (⟨"SupplyBook$Reader", "fail", "(II)V"⟩, 13), (⟨"SupplyBook$Reader", "readMoney", "(I)I"⟩, 13), (⟨"SupplyBook$Reader", "readNumber", "(I)I"⟩, 13), (⟨"SupplyBook$Reader", "isNextDigit", "()Z"⟩, 13), (⟨"SupplyBook$Reader", "expect", "(C)V"⟩, 13), (⟨"SupplyBook$Reader", "readRule", "(I)I"⟩, 13), (⟨"SupplyBook$Reader", "readCondition", "(IZ)Z"⟩, 13), (⟨"SupplyBook$Reader", "readPart", "(IZ)Z"⟩, 13), (⟨"SupplyBook$Reader", "readPiece", "(IZ)Z"⟩, 13), (⟨"SupplyBook$Reader", "opensOneMore", "(I)Z"⟩, 13), (⟨"SupplyBook$Reader", "readExpression", "(IZ)J"⟩, 13)]
theorem lw_r1 : ∀ q ∈ lw_privs_1, lw_okq q := lw_chk_ok lw_privs_1 [(1024, 2209, 2210), (1062, 2225, 2226), (1062, 2229, 2230), (1062, 2233, 2234), (1062, 2238, 2239), (1062, 3082, 3083), (1062, 3086, 3087), (1062, 3090, 3091), (1062, 3094, 3095), (1062, 3098, 3099), (1062, 3103, 3104), (1062, 3107, 3108), (1062, 3111, 3112), (1062, 3115, 3116), (1062, 3119, 3120), (1062, 3123, 3124)] (by decide +kernel)
noncomputable def lw_privs_2 : List (MethodName × Nat) := [(⟨"SupplyBook$Reader", "readTerm", "(IZ)J"⟩, 13), (⟨"SupplyBook$Reader", "readFactor", "(IZ)J"⟩, 13), (⟨"SupplyBook$Laws", "strikeLower", "(I)V"⟩, 5), (⟨"SupplyBook", "leftOf", "(ILSupplyBook$Authority;I)J"⟩, 14), (⟨"SupplyBook", "paidUnderCeiling", "(LSupplyBook$Authority;I)J"⟩, 14), (⟨"SupplyBook", "whoLets", "(LSupplyBook$Claim;)I"⟩, 14), (⟨"SupplyBook", "tellReader", "(LSupplyBook$Claim;)V"⟩, 14), (⟨"SupplyBook", "barOf", "(LSupplyBook$Claim;ILSupplyBook$Authority;)I"⟩, 14), (⟨"SupplyBook", "isOverCeiling", "(LSupplyBook$Claim;II)Z"⟩, 14), (⟨"SupplyBook$Reader", "barOfRule", "(IZI)I"⟩, 13), (⟨"SupplyBook$Cuts", "chooseFrom", "(IJJJI)V"⟩, 9), (⟨"SupplyBook$Cuts", "isWorse", "(JJ)Z"⟩, 9), (⟨"SupplyBook$Cuts", "searchMore", "(IJJ)V"⟩, 9), (⟨"SupplyBook$Weeks", "placeOf", "(III)I"⟩, 11), (⟨"SupplyBook$Weeks", "dueIn", "(II)J"⟩, 11), (⟨"SupplyBook$Weeks", "reckonFlow", "(II)V"⟩, 11)]
theorem lw_r2 : ∀ q ∈ lw_privs_2, lw_okq q := lw_chk_ok lw_privs_2 [(1062, 3127, 3128), (1062, 3131, 3132), (1136, 3188, 3189), (1024, 4124, 4125), (1024, 4128, 4129), (1024, 5080, 5081), (1024, 5084, 5085), (1024, 5111, 5112), (1024, 5116, 5117), (1062, 5132, 5133), (1238, 5169, 5170), (1238, 5173, 5174), (1238, 5186, 5187), (2034, 5208, 5209), (2034, 6020, 6021), (2034, 6028, 6029)] (by decide +kernel)
noncomputable def lw_privs_3 : List (MethodName × Nat) := [(⟨"SupplyBook$Loans", "lowestBid", "(I)I"⟩, 12), (⟨"SupplyBook", "fallsByNow", "(LSupplyBook$Authority;)Z"⟩, 14), (⟨"SupplyBook", "firstWrong", "(IILSupplyBook$Claim;)I"⟩, 14), (⟨"SupplyBook", "tapeInt", "(I)I"⟩, 14), (⟨"SupplyBookModel", "isHead", "(I)Z"⟩, 107), (⟨"SupplyBookModel", "isUnder", "(II)Z"⟩, 107), (⟨"SupplyBookModel", "push", "(I)V"⟩, 107), (⟨"SupplyBookModel", "readText", "(IZ)I"⟩, 107), (⟨"SupplyBookModel", "isGood", "()Z"⟩, 107), (⟨"SupplyBookModel", "clause", "()V"⟩, 107), (⟨"SupplyBookModel", "here", "()I"⟩, 107), (⟨"SupplyBookModel", "fails", "(II)V"⟩, 107), (⟨"SupplyBookModel", "condition", "()V"⟩, 107), (⟨"SupplyBookModel", "opens", "()V"⟩, 107), (⟨"SupplyBookModel", "piece", "()V"⟩, 107), (⟨"SupplyBookModel", "reads", "(I)I"⟩, 107)]
theorem lw_r3 : ∀ q ∈ lw_privs_3, lw_okq q := lw_chk_ok lw_privs_3 [(2076, 6086, 6087), (1024, 6202, 6203), (1024, 7007, 7008), (1024, 7011, 7012), (7036, 8137, 8138), (7036, 8145, 8146), (7036, 8158, 8159), (7036, 8167, 8168), (7036, 8171, 8172), (7036, 8175, 8176), (7036, 8179, 8180), (7036, 8189, 8190), (7036, 8193, 8194), (7036, 8197, 8198), (7036, 8201, 8202), (7036, 8205, 8206)] (by decide +kernel)
noncomputable def lw_privs_4 : List (MethodName × Nat) := [(⟨"SupplyBookModel", "seesDigit", "()Z"⟩, 107), (⟨"SupplyBookModel", "emit", "(II)V"⟩, 107), (⟨"SupplyBookModel", "expression", "()V"⟩, 107), (⟨"SupplyBookModel", "factor", "()V"⟩, 107), (⟨"SupplyBookModel", "goesOn", "()Z"⟩, 107), (⟨"SupplyBookModel", "sums", "(Z)V"⟩, 107), (⟨"SupplyBookModel", "top", "()I"⟩, 107), (⟨"SupplyBookModel", "goesOnBehind", "()Z"⟩, 107), (⟨"SupplyBookModel", "ends", "()V"⟩, 107), (⟨"SupplyBookModel", "goesBehind", "()Z"⟩, 107), (⟨"SupplyBookModel", "joins", "(Z)V"⟩, 107), (⟨"SupplyBookModel", "keepsText", "(I)V"⟩, 107), (⟨"SupplyBookModel", "strikes", "(I)V"⟩, 107), (⟨"SupplyBookModel", "isInForce", "(II)Z"⟩, 107), (⟨"SupplyBookModel", "isCounted", "(III)Z"⟩, 107), (⟨"SupplyBookModel", "numberOf", "(II)I"⟩, 107)]
theorem lw_r4 : ∀ q ∈ lw_privs_4, lw_okq q := lw_chk_ok lw_privs_4 [(7036, 8209, 8210), (7036, 8215, 8216), (7036, 8219, 8220), (7036, 8223, 8224), (7036, 8231, 8232), (7036, 9001, 9002), (7036, 9005, 9006), (7036, 9009, 9010), (7036, 9016, 9017), (7036, 9020, 9021), (7036, 9024, 9025), (7036, 9029, 9030), (7036, 9037, 9038), (7036, 9041, 9042), (7036, 9045, 9046), (7036, 9053, 9054)] (by decide +kernel)
noncomputable def lw_privs_5 : List (MethodName × Nat) := [(⟨"SupplyBookModel", "makes", "(IIII)I"⟩, 107), (⟨"SupplyBookModel", "isAuthority", "(I)Z"⟩, 107), (⟨"SupplyBookModel", "year", "()I"⟩, 107), (⟨"SupplyBookModel", "isOf", "(II)Z"⟩, 107), (⟨"SupplyBookModel", "leftOf", "(II)J"⟩, 107), (⟨"SupplyBookModel", "paidBy", "(III)J"⟩, 107), (⟨"SupplyBookModel", "isPaidIn", "(II)Z"⟩, 107), (⟨"SupplyBookModel", "countsBy", "(I)I"⟩, 107), (⟨"SupplyBookModel", "boundBy", "(II)J"⟩, 107), (⟨"SupplyBookModel", "canMove", "(I)Z"⟩, 107), (⟨"SupplyBookModel", "isHand", "(I)Z"⟩, 107), (⟨"SupplyBookModel", "isClaim", "(I)Z"⟩, 107), (⟨"SupplyBookModel", "lets", "(I)I"⟩, 107), (⟨"SupplyBookModel", "bar", "(II)I"⟩, 107), (⟨"SupplyBookModel", "isBelowCeilings", "(II)Z"⟩, 107), (⟨"SupplyBookModel", "barsOfTexts", "(I)I"⟩, 107)]
theorem lw_r5 : ∀ q ∈ lw_privs_5, lw_okq q := lw_chk_ok lw_privs_5 [(7036, 9065, 9066), (7036, 9073, 9074), (7036, 9081, 9082), (7036, 9090, 9091), (7036, 9094, 9095), (7036, 9098, 9099), (7036, 9102, 9103), (7036, 9106, 9107), (7036, 9110, 9111), (7036, 9123, 9124), (7036, 9140, 9141), (7036, 9149, 9150), (7036, 9157, 9158), (7036, 9161, 9162), (7036, 9165, 9166), (7036, 9169, 9170)] (by decide +kernel)
noncomputable def lw_privs_6 : List (MethodName × Nat) := [(⟨"SupplyBookModel", "barOf", "(I)I"⟩, 107), (⟨"SupplyBookModel", "holds", "(I)I"⟩, 107), (⟨"SupplyBookModel", "does", "(II)V"⟩, 107), (⟨"SupplyBookModel", "letterOf", "(I)J"⟩, 107), (⟨"SupplyBookModel", "rankOf", "(I)I"⟩, 107), (⟨"SupplyBookModel", "hasFloors", "(I)Z"⟩, 107), (⟨"SupplyBookModel", "sumOf", "(I)J"⟩, 107), (⟨"SupplyBookModel", "worthOf", "(I)I"⟩, 107), (⟨"SupplyBookModel", "week", "()I"⟩, 107), (⟨"SupplyBookModel", "cameIn", "(III)J"⟩, 107), (⟨"SupplyBookModel", "foretells", "(III)J"⟩, 107), (⟨"SupplyBookModel", "shortBy", "(I)I"⟩, 107), (⟨"SupplyBookModel", "costOf", "(I)J"⟩, 107), (⟨"SupplyBookModel", "nextBid", "()I"⟩, 107), (⟨"SupplyBookModel", "owed", "()J"⟩, 107), (⟨"SupplyBookModel", "interest", "(II)J"⟩, 107)]
theorem lw_r6 : ∀ q ∈ lw_privs_6, lw_okq q := lw_chk_ok lw_privs_6 [(7036, 9173, 9174), (7036, 9177, 9178), (7036, 9181, 9182), (7036, 9188, 9189), (7036, 9192, 9193), (7036, 9209, 9210), (7036, 9213, 9214), (7036, 9217, 9218), (7036, 9231, 9232), (7036, 9235, 9236), (7036, 10009, 10010), (7036, 10021, 10022), (7036, 10033, 10034), (7036, 10053, 10054), (7036, 10057, 10058), (7036, 10065, 10066)] (by decide +kernel)
noncomputable def lw_privs_7 : List (MethodName × Nat) := [(⟨"SupplyBookModel", "surcharges", "(I)J"⟩, 107), (⟨"SupplyBookModel", "isMeant", "(IIII)Z"⟩, 107), (⟨"SupplyBookModel", "copiesText", "(II)V"⟩, 107), (⟨"SupplyBookModel", "paidAfter", "(II)I"⟩, 107), (⟨"SupplyBookModel", "numberAt", "(I)I"⟩, 107)]
theorem lw_r7 : ∀ q ∈ lw_privs_7, lw_okq q := lw_chk_ok lw_privs_7 [(7036, 10098, 10099), (7036, 10118, 10119), (7036, 10126, 10127), (7036, 10134, 10135), (7036, 10138, 10139)] (by decide +kernel)
noncomputable def lw_privs : List (MethodName × Nat) := lw_privs_1 ++ (lw_privs_2 ++ (lw_privs_3 ++ (lw_privs_4 ++ (lw_privs_5 ++ (lw_privs_6 ++ (lw_privs_7))))))
noncomputable def lw_tbl : List Cond := k2_sels lw_privs ++ tables_1
theorem lw_privs_ok : ∀ q ∈ lw_privs, lw_okq q := by
  show ∀ q ∈ lw_privs_1 ++ (lw_privs_2 ++ (lw_privs_3 ++ (lw_privs_4 ++ (lw_privs_5 ++ (lw_privs_6 ++ (lw_privs_7)))))), lw_okq q
  exact List.forall_mem_append.mpr ⟨lw_r1, List.forall_mem_append.mpr ⟨lw_r2, List.forall_mem_append.mpr ⟨lw_r3, List.forall_mem_append.mpr ⟨lw_r4, List.forall_mem_append.mpr ⟨lw_r5, List.forall_mem_append.mpr ⟨lw_r6, lw_r7⟩⟩⟩⟩⟩⟩
end
section
-- 05.names
noncomputable def cnl : List String := [
  "SupplyBook", "SupplyBook$Authority", "SupplyBook$Claim", "SupplyBook$Claims", "SupplyBook$Cuts", "SupplyBook$Laws",
  "SupplyBook$Loans", "SupplyBook$People", "SupplyBook$Reader", "SupplyBook$Text", "SupplyBook$Votes", "SupplyBook$Weeks",
  "SupplyBookModel", "java/lang/String", "SupplyBookLaw", "java/lang/Math", "java/lang/Integer", "java/lang/StringLatin1",
  "java/util/Arrays", "jdk/internal/util/Preconditions"]
noncomputable def cnm (c : Nat) : String := cnl.getD c ""
noncomputable def fdl : List (List (String × String × Bool)) := [
  [("today", "I", false), ("chest", "J", false), ("nextClosed", "I", false), ("tape", "[B", true), ("tapeSize", "I", false), ("people", "LSupplyBook$People;", true), ("reader", "LSupplyBook$Reader;", true), ("noWords", "LSupplyBook$Text;", true), ("laws", "LSupplyBook$Laws;", true), ("votes", "LSupplyBook$Votes;", true), ("claims", "LSupplyBook$Claims;", true), ("cuts", "LSupplyBook$Cuts;", true), ("weeks", "LSupplyBook$Weeks;", true), ("loans", "LSupplyBook$Loans;", true)],
  [("kind", "I", true), ("head", "I", true), ("sum", "I", true), ("year", "I", true), ("toldOn", "I", true), ("words", "LSupplyBook$Text;", true), ("base", "I", true), ("struckOn", "I", false), ("coveredBy", "I", false), ("coveredOn", "I", false), ("fell", "Z", false), ("movedTo", "J", false), ("movedFrom", "J", false), ("spent", "[J", true)],
  [("hand", "I", true), ("head", "I", true), ("kind", "I", true), ("sum", "I", true), ("contract", "I", true), ("tendered", "Z", true), ("signers", "I", false), ("paidOn", "I", false), ("paidBy", "I", false), ("countsBy", "I", false), ("question", "I", false), ("isSurcharged", "Z", false), ("isDrawn", "Z", false), ("fault", "I", false), ("wrong", "J", false)],
  [("list", "[LSupplyBook$Claim;", true), ("size", "I", false), ("paidOrder", "[I", true), ("paidSize", "I", false), ("paidInAll", "J", false), ("steps", "[I", true), ("findClaims", "[I", true), ("findSums", "[I", true), ("findDays", "[I", true), ("finds", "I", false)],
  [("sums", "[I", true), ("worths", "[I", true), ("worthAhead", "[J", true), ("floors", "I", false), ("size", "I", false), ("bestSet", "I", false), ("bestSum", "J", false), ("bestWorth", "J", false), ("leastMore", "J", false)],
  [("texts", "[LSupplyBook$Text;", true), ("firstDays", "[I", true), ("lastDays", "[I", true), ("counting", "[I", true), ("size", "I", false)],
  [("bidSums", "[I", true), ("bidRates", "[I", true), ("bids", "I", false), ("takenBids", "[I", true), ("takenSums", "[I", true), ("taken", "I", false), ("sums", "[I", true), ("rates", "[I", true), ("madeDays", "[I", true), ("backDays", "[I", true), ("size", "I", false), ("interestPaid", "J", false)],
  [("above", "[J", true), ("heads", "I", false), ("handHeads", "[I", true), ("handRanks", "[I", true), ("handCharges", "[J", true), ("hands", "I", false)],
  [("starts", "[I", true), ("values", "[I", true), ("clauses", "I", false), ("bytes", "[B", false), ("at", "I", false), ("end", "I", false), ("sign", "I", false), ("fault", "I", false), ("faultAt", "I", false), ("isRefused", "Z", false), ("facts", "[J", true), ("headsAbove", "J", false), ("isTendered", "Z", false)],
  [("bytes", "[B", true), ("starts", "[I", true), ("values", "[I", true)],
  [("list", "[LSupplyBook$Authority;", true), ("size", "I", false), ("contractAuthorities", "[I", true), ("contractSums", "[I", true), ("contractFroms", "[I", true), ("contractTos", "[I", true), ("contractPaid", "[J", true), ("contracts", "I", false)],
  [("arrived", "[I", true), ("arrivedInAll", "J", false), ("dues", "[J", true), ("offerSums", "[I", true), ("offerWeeks", "[I", true), ("offerSpans", "[I", true), ("offerCosts", "[I", true), ("offers", "I", false), ("worstBillions", "[J", true), ("worstPence", "[J", true), ("flow", "[J", true)],
  [("tape", "[B", true), ("taped", "I", false), ("now", "I", false), ("chest", "J", false), ("heads", "I", false), ("hands", "I", false), ("parent", "[I", true), ("handHead", "[I", true), ("handRank", "[I", true), ("surcharge", "[J", true), ("clauseMany", "[I", true), ("letter", "[I", true), ("number", "[I", true), ("other", "[I", true), ("codeFrom", "[I", true), ("codeTo", "[I", true), ("code", "[I", true), ("codeArg", "[I", true), ("place", "I", false), ("end", "I", false), ("bad", "I", false), ("many", "I", false), ("codes", "I", false), ("open", "I", false), ("depth", "I", false), ("isLaw", "Z", false), ("isDone", "Z", false), ("readLetter", "[I", true), ("readNumber", "[I", true), ("readOther", "[I", true), ("readFrom", "[I", true), ("readTo", "[I", true), ("readCode", "[I", true), ("readArg", "[I", true), ("stack", "[I", true), ("isBehind", "Z", false), ("laws", "I", false), ("lawFrom", "[I", true), ("lawTo", "[I", true), ("isStruck", "[Z", true), ("authorities", "I", false), ("kind", "[I", true), ("aHead", "[I", true), ("aSum", "[I", true), ("aYear", "[I", true), ("struck", "[I", true), ("of", "[I", true), ("coverDay", "[I", true), ("toldDay", "[I", true), ("hasFallen", "[Z", true), ("movedTo", "[J", true), ("movedFrom", "[J", true), ("claims", "I", false), ("paidMany", "I", false), ("cHand", "[I", true), ("cHead", "[I", true), ("cKind", "[I", true), ("cSum", "[I", true), ("cContract", "[I", true), ("cTender", "[Z", true), ("cSigns", "[I", true), ("cDay", "[I", true), ("cBy", "[I", true), ("cTurn", "[I", true), ("cQuestion", "[I", true), ("cSurcharged", "[Z", true), ("cDrawn", "[Z", true), ("cTested", "[Z", true), ("cFault", "[I", true), ("cFinds", "[J", true), ("contracts", "I", false), ("kAuthority", "[I", true), ("kSum", "[I", true), ("kFrom", "[I", true), ("kTo", "[I", true), ("askedClaim", "I", false), ("askedLeft", "J", false), ("value", "[J", true), ("isRefused", "[Z", true), ("items", "I", false), ("itemSum", "[I", true), ("itemWorth", "[I", true), ("isFloor", "[Z", true), ("came", "[J", true), ("dues", "[J", true), ("cameAll", "J", false), ("paidInterest", "J", false), ("offers", "I", false), ("offerSum", "[I", true), ("offerWeek", "[I", true), ("offerWeeks", "[I", true), ("offerCost", "[I", true), ("bids", "I", false), ("loans", "I", false), ("bidSum", "[I", true), ("bidRate", "[I", true), ("isTaken", "[Z", true), ("loanSum", "[I", true), ("loanRate", "[I", true), ("loanDay", "[I", true), ("loanBack", "[I", true), ("drawStep", "[I", true), ("finds", "I", false), ("findClaim", "[I", true), ("findSum", "[I", true), ("findDay", "[I", true), ("closed", "I", false)]]
noncomputable def TT (ci : Nat) : u_T := fun k => (cnm ci, ((fdl.getD ci []).getD k ("", "", false)).1, ((fdl.getD ci []).getD k ("", "", false)).2.1, ((fdl.getD ci []).getD k ("", "", false)).2.2)
noncomputable def nnl : List Nat := [
  14, 14, 15, 10, 9, 5, 12, 6, 13, 3, 8, 11, 107]
noncomputable def NN (ci : Nat) : Nat := nnl.getD ci 0
noncomputable def fcl : List (List Nat) := [
  [0, 1, 0, 2, 0, 2, 2, 2, 2, 2, 2, 2, 2, 2],
  [0, 0, 0, 0, 0, 2, 0, 0, 0, 0, 4, 1, 1, 2],
  [0, 0, 0, 0, 0, 4, 0, 0, 0, 0, 0, 4, 4, 0, 1],
  [2, 0, 2, 0, 1, 2, 2, 2, 2, 0],
  [2, 2, 2, 0, 0, 0, 1, 1, 1],
  [2, 2, 2, 2, 0],
  [2, 2, 0, 2, 2, 0, 2, 2, 2, 2, 0, 1],
  [2, 0, 2, 2, 2, 0],
  [2, 2, 0, 2, 0, 0, 0, 0, 0, 4, 2, 1, 4],
  [2, 2, 2],
  [2, 0, 2, 2, 2, 2, 2, 0],
  [2, 1, 2, 2, 2, 2, 2, 0, 2, 2, 2],
  [2, 0, 0, 1, 0, 0, 2, 2, 2, 2, 2, 2, 2, 2, 2, 2, 2, 2, 0, 0, 0, 0, 0, 0, 0, 4, 4, 2, 2, 2, 2, 2, 2, 2, 2, 4, 0, 2, 2, 2, 0, 2, 2, 2, 2, 2, 2, 2, 2, 2, 2, 2, 0, 0, 2, 2, 2, 2, 2, 2, 2, 2, 2, 2, 2, 2, 2, 2, 2, 2, 0, 2, 2, 2, 2, 0, 1, 2, 2, 0, 2, 2, 2, 2, 2, 1, 1, 0, 2, 2, 2, 2, 0, 0, 2, 2, 2, 2, 2, 2, 2, 2, 0, 2, 2, 2, 0]]
noncomputable def fcd (ci k : Nat) : Nat := (fcl.getD ci []).getD k 0
noncomputable def tyl : List (List FieldType) := [
  [.int, .long, .int, (.array .byte), .int, (.object "SupplyBook$People"), (.object "SupplyBook$Reader"), (.object "SupplyBook$Text"), (.object "SupplyBook$Laws"), (.object "SupplyBook$Votes"), (.object "SupplyBook$Claims"), (.object "SupplyBook$Cuts"), (.object "SupplyBook$Weeks"), (.object "SupplyBook$Loans")],
  [.int, .int, .int, .int, .int, (.object "SupplyBook$Text"), .int, .int, .int, .int, .boolean, .long, .long, (.array .long)],
  [.int, .int, .int, .int, .int, .boolean, .int, .int, .int, .int, .int, .boolean, .boolean, .int, .long],
  [(.array (.object "SupplyBook$Claim")), .int, (.array .int), .int, .long, (.array .int), (.array .int), (.array .int), (.array .int), .int],
  [(.array .int), (.array .int), (.array .long), .int, .int, .int, .long, .long, .long],
  [(.array (.object "SupplyBook$Text")), (.array .int), (.array .int), (.array .int), .int],
  [(.array .int), (.array .int), .int, (.array .int), (.array .int), .int, (.array .int), (.array .int), (.array .int), (.array .int), .int, .long],
  [(.array .long), .int, (.array .int), (.array .int), (.array .long), .int],
  [(.array .int), (.array .int), .int, (.array .byte), .int, .int, .int, .int, .int, .boolean, (.array .long), .long, .boolean],
  [(.array .byte), (.array .int), (.array .int)],
  [(.array (.object "SupplyBook$Authority")), .int, (.array .int), (.array .int), (.array .int), (.array .int), (.array .long), .int],
  [(.array .int), .long, (.array .long), (.array .int), (.array .int), (.array .int), (.array .int), .int, (.array .long), (.array .long), (.array .long)],
  [(.array .byte), .int, .int, .long, .int, .int, (.array .int), (.array .int), (.array .int), (.array .long), (.array .int), (.array .int), (.array .int), (.array .int), (.array .int), (.array .int), (.array .int), (.array .int), .int, .int, .int, .int, .int, .int, .int, .boolean, .boolean, (.array .int), (.array .int), (.array .int), (.array .int), (.array .int), (.array .int), (.array .int), (.array .int), .boolean, .int, (.array .int), (.array .int), (.array .boolean), .int, (.array .int), (.array .int), (.array .int), (.array .int), (.array .int), (.array .int), (.array .int), (.array .int), (.array .boolean), (.array .long), (.array .long), .int, .int, (.array .int), (.array .int), (.array .int), (.array .int), (.array .int), (.array .boolean), (.array .int), (.array .int), (.array .int), (.array .int), (.array .int), (.array .boolean), (.array .boolean), (.array .boolean), (.array .int), (.array .long), .int, (.array .int), (.array .int), (.array .int), (.array .int), .int, .long, (.array .long), (.array .boolean), .int, (.array .int), (.array .int), (.array .boolean), (.array .long), (.array .long), .long, .long, .int, (.array .int), (.array .int), (.array .int), (.array .int), .int, .int, (.array .int), (.array .int), (.array .boolean), (.array .int), (.array .int), (.array .int), (.array .int), (.array .int), .int, (.array .int), (.array .int), (.array .int), .int]]
noncomputable def fty (ci k : Nat) : FieldType := (tyl.getD ci []).getD k .int
noncomputable def lyl : List (List Nat) := [
  [2135, 2137, 2139, 2141, 2143, 2145, 2147, 2149, 2151, 2153, 2155, 2157, 2159, 2161],
  [4064, 4066, 4068, 4070, 4072, 4074, 4076, 4078, 4080, 4082, 4084, 4086, 4088, 4090],
  [5035, 5037, 5039, 5041, 5043, 5045, 5047, 5049, 5051, 5053, 5055, 5057, 5059, 5061, 5063],
  [1216, 1218, 1220, 1222, 1224, 1226, 1228, 1230, 1232, 1234],
  [2014, 2016, 2018, 2020, 2022, 2024, 2026, 2028, 2030],
  [1149, 1151, 1153, 1155, 1157],
  [2096, 2098, 2100, 2102, 2104, 2106, 2108, 2110, 2112, 2114, 2116, 2118],
  [1045, 1047, 1049, 1051, 1053, 1055],
  [1091, 1093, 1095, 1097, 1099, 1101, 1103, 1105, 1107, 1109, 1111, 1113, 1115],
  [1128, 1130, 1132],
  [1178, 1180, 1182, 1184, 1186, 1188, 1190, 1192],
  [2052, 2054, 2056, 2058, 2060, 2062, 2064, 2066, 2068, 2070, 2072],
  [7148, 7150, 7152, 7154, 7156, 7158, 7160, 7162, 7164, 7166, 7168, 7170, 7172, 7174, 7176, 7178, 7180, 7182, 7184, 7186, 7188, 7190, 7192, 7194, 7196, 7198, 7200, 7202, 7204, 7206, 7208, 7210, 7212, 7214, 7216, 7218, 7220, 7222, 7224, 7226, 7228, 7230, 7232, 7234, 7236, 7238, 8000, 8002, 8004, 8006, 8008, 8010, 8012, 8014, 8016, 8018, 8020, 8022, 8024, 8026, 8028, 8030, 8032, 8034, 8036, 8038, 8040, 8042, 8044, 8046, 8048, 8050, 8052, 8054, 8056, 8058, 8060, 8062, 8064, 8066, 8068, 8070, 8072, 8074, 8076, 8078, 8080, 8082, 8084, 8086, 8088, 8090, 8092, 8094, 8096, 8098, 8100, 8102, 8104, 8106, 8108, 8110, 8112, 8114, 8116, 8118, 8120]]
/-- a word of the tables, by its place -/
noncomputable def tbs : List (List Cond) := [k2_sels lw_privs, tables_1_1, tables_1_2, tables_1_3, tables_1_4, tables_1_5, tables_1_6, tables_1_7, tables_1_8, tables_1_9, tables_1_10]
noncomputable def tbq : List (List (List Cond)) := [dk (k2_sels lw_privs), dk tables_1_1, dk tables_1_2, dk tables_1_3, dk tables_1_4, dk tables_1_5, dk tables_1_6, dk tables_1_7, dk tables_1_8, dk tables_1_9, dk tables_1_10]
noncomputable def wat (i : Nat) : Option Cond := ((tbq.getD (i / 1000) []).getD (i % 1000 / 20) [])[i % 20]?
noncomputable def yl : List (List (Nat × String × String)) := [
  [(14, "law", "([I)Z"), (0, "<init>", "()V"), (0, "now", "(I)Z"), (0, "isDay", "(I)Z"), (0, "head", "(I)I"), (0, "under", "(II)I"), (0, "hand", "(II)I"), (0, "feed", "(IIIII)I"), (0, "feedInt", "(I)V"), (0, "law", "(III)I"), (0, "counts", "(II)I"), (0, "number", "(II)I"), (0, "vote", "(IIIII)I"), (0, "isSum", "(I)Z"), (0, "isYear", "(I)Z"), (0, "ceiling", "(III)I"), (0, "advance", "(II)I"), (0, "yearOf", "(I)I"), (0, "cover", "(II)Z"), (0, "leftOf", "(ILSupplyBook$Authority;I)J")],
  [(0, "paidUnderCeiling", "(LSupplyBook$Authority;I)J"), (0, "strike", "(I)Z"), (0, "move", "(III)Z"), (0, "commit", "(IIII)I"), (0, "left", "(II)J"), (0, "claim", "(IIIIIZ)I"), (0, "sign", "(II)Z"), (0, "may", "(I)I"), (0, "whoLets", "(LSupplyBook$Claim;)I"), (0, "tellReader", "(LSupplyBook$Claim;)V"), (0, "barOf", "(LSupplyBook$Claim;ILSupplyBook$Authority;)I"), (0, "isOverCeiling", "(LSupplyBook$Claim;II)Z"), (0, "pay", "(I)I"), (0, "ask", "(IIIZ)I"), (0, "cut", "(I)I"), (0, "more", "(I)J"), (0, "comes", "(II)Z"), (0, "isTax", "(I)Z"), (0, "weekOf", "(I)I"), (0, "came", "(III)J")],
  [(0, "isWeek", "(I)Z"), (0, "foretold", "(III)J"), (0, "due", "(II)Z"), (0, "shortWeek", "()I"), (0, "offer", "(IIII)I"), (0, "plan", "()I"), (0, "judge", "(I)J"), (0, "bid", "(II)I"), (0, "tender", "(IZ)I"), (0, "repay", "(I)Z"), (0, "loan", "(II)J"), (0, "draw", "(III)I"), (0, "drawn", "(II)I"), (0, "test", "(II)Z"), (0, "found", "(II)J"), (0, "question", "(I)Z"), (0, "answer", "(IZ)Z"), (0, "falls", "(I)J"), (0, "fallsByNow", "(LSupplyBook$Authority;)Z"), (0, "surcharged", "(I)J")],
  [(0, "find", "(II)Z"), (0, "paid", "(III)J"), (0, "close", "(I)I"), (0, "check", "(II)I"), (0, "firstWrong", "(IILSupplyBook$Claim;)I"), (0, "tapeInt", "(I)I"), (0, "look", "(II)I"), (0, "about", "(II)I"), (0, "count", "(I)I"), (0, "sum", "(I)J"), (1, "<init>", "(IIIIILSupplyBook$Text;I)V"), (1, "spentIn", "(I)J"), (1, "spend", "(IJ)V"), (1, "canMove", "(I)Z"), (1, "canBind", "()Z"), (2, "wasPaidIn", "(I)Z"), (2, "isPaid", "()Z"), (2, "<init>", "(IIIIIZ)V"), (2, "isFoundOf", "(I)Z"), (3, "<init>", "()V")],
  [(3, "at", "(I)LSupplyBook$Claim;"), (3, "recount", "(II)V"), (3, "addClaim", "(LSupplyBook$Claim;)I"), (3, "paidOfHand", "(II)I"), (3, "markPaid", "(III)V"), (3, "drawSome", "(III)I"), (3, "drawnAt", "(II)I"), (3, "faultsOf", "(I)J"), (3, "spreadFaultsOf", "(I)J"), (3, "notRightOf", "(I)J"), (3, "addFind", "(III)Z"), (3, "knownWrong", "(II)J"), (3, "paidAt", "(I)I"), (4, "<init>", "()V"), (4, "addItem", "(IIZ)I"), (4, "bestOf", "(I)I"), (4, "chooseFrom", "(IJJJI)V"), (4, "isWorse", "(JJ)Z"), (4, "moreThan", "(I)J"), (4, "searchMore", "(IJJ)V")],
  [(5, "<init>", "()V"), (5, "isFull", "()Z"), (5, "addLaw", "(LSupplyBook$Text;II)I"), (5, "isLaw", "(I)Z"), (5, "weigh", "(I)V"), (5, "strikeLower", "(I)V"), (5, "textOf", "(I)LSupplyBook$Text;"), (5, "countingOf", "(I)I"), (5, "numberOn", "(II)I"), (6, "<init>", "()V"), (6, "addBid", "(II)I"), (6, "takeBids", "(I)J"), (6, "lowestBid", "(I)I"), (6, "owed", "()J"), (6, "areTooMany", "()Z"), (6, "lendTaken", "(IZ)I"), (6, "isLoan", "(I)Z"), (6, "backOn", "(I)I"), (6, "interestOn", "(II)J"), (6, "sumOf", "(I)I")],
  [(6, "markBack", "(IIJ)V"), (6, "rateOf", "(I)I"), (6, "madeOn", "(I)I"), (7, "<init>", "()V"), (7, "addHead", "(I)I"), (7, "isHead", "(I)Z"), (7, "headsAbove", "(I)J"), (7, "isUnder", "(II)Z"), (7, "addHand", "(II)I"), (7, "isHand", "(I)Z"), (7, "headOfHand", "(I)I"), (7, "greatestRank", "(I)I"), (7, "surcharge", "(LSupplyBook$Claim;)J"), (7, "chargeOf", "(I)J"), (8, "<init>", "()V"), (8, "readAll", "([BIZ)I"), (8, "begin", "([BII)V"), (8, "step", "()V"), (8, "readClause", "(Z)V"), (8, "isNextOf", "(Ljava/lang/String;)Z")],
  [(8, "isRule", "(I)Z"), (8, "fail", "(II)V"), (8, "readMoney", "(I)I"), (8, "readNumber", "(I)I"), (8, "isNextDigit", "()Z"), (8, "expect", "(C)V"), (8, "readRule", "(I)I"), (8, "readCondition", "(IZ)Z"), (8, "readPart", "(IZ)Z"), (8, "readPiece", "(IZ)Z"), (8, "opensOneMore", "(I)Z"), (8, "readExpression", "(IZ)J"), (8, "readTerm", "(IZ)J"), (8, "readFactor", "(IZ)J"), (8, "textRead", "()LSupplyBook$Text;"), (8, "tellClaim", "(LSupplyBook$Claim;JI)V"), (8, "tellTime", "(II)V"), (8, "tellLeft", "(J)V"), (8, "barOfText", "(LSupplyBook$Text;I)I"), (8, "barOfRule", "(IZI)I")],
  [(9, "<init>", "([B[I[I)V"), (9, "clauses", "()I"), (9, "letterOf", "(I)I"), (9, "startOf", "(I)I"), (9, "valueOf", "(I)I"), (10, "<init>", "()V"), (10, "isFull", "()Z"), (10, "addAuthority", "(LSupplyBook$Authority;)I"), (10, "at", "(I)LSupplyBook$Authority;"), (10, "advancesOf", "(I)J"), (10, "boundOf", "(II)J"), (10, "boundBy", "(II)J"), (10, "isContract", "(I)Z"), (10, "contractsAreFull", "()Z"), (10, "isOf", "(LSupplyBook$Authority;I)Z"), (10, "addContract", "(IIII)I"), (10, "authorityOfContract", "(I)I"), (10, "payOfContract", "(III)V"), (11, "<init>", "()V"), (11, "addTax", "(III)Z")],
  [(11, "placeOf", "(III)I"), (11, "arrivedIn", "(III)J"), (11, "foreseen", "(IIII)J"), (11, "addDue", "(III)V"), (11, "reckonWorst", "(JI)V"), (11, "dueIn", "(II)J"), (11, "firstShort", "(II)I"), (11, "reckonFlow", "(II)V"), (11, "addOffer", "(IIII)I"), (11, "cheapestPlan", "(I)I"), (11, "costOf", "(I)J"), (11, "isOfferSet", "(I)Z"), (11, "duesOf", "(I)J"), (12, "<init>", "()V"), (12, "now", "(I)Z"), (12, "lies", "(JJJ)Z"), (12, "head", "(I)I"), (12, "isHead", "(I)Z"), (12, "under", "(II)I"), (12, "isUnder", "(II)Z")],
  [(12, "hand", "(II)I"), (12, "feed", "(IIIII)I"), (12, "push", "(I)V"), (12, "law", "(III)I"), (12, "readText", "(IZ)I"), (12, "isGood", "()Z"), (12, "clause", "()V"), (12, "here", "()I"), (12, "isOfWords", "(I)Z"), (12, "isOfLaws", "(I)Z"), (12, "fails", "(II)V"), (12, "condition", "()V"), (12, "opens", "()V"), (12, "piece", "()V"), (12, "reads", "(I)I"), (12, "seesDigit", "()Z"), (12, "emit", "(II)V"), (12, "expression", "()V"), (12, "factor", "()V"), (12, "isValue", "(I)Z")],
  [(12, "goesOn", "()Z"), (12, "isTimes", "(I)Z"), (12, "isPlus", "(I)Z"), (12, "sums", "(Z)V"), (12, "top", "()I"), (12, "goesOnBehind", "()Z"), (12, "isSign", "(I)Z"), (12, "ends", "()V"), (12, "goesBehind", "()Z"), (12, "joins", "(Z)V"), (12, "keepsText", "(I)V"), (12, "counts", "(II)I"), (12, "strikes", "(I)V"), (12, "isInForce", "(II)Z"), (12, "isCounted", "(III)Z"), (12, "number", "(II)I"), (12, "numberOf", "(II)I"), (12, "vote", "(IIIII)I"), (12, "isSum", "(I)Z"), (12, "makes", "(IIII)I")],
  [(12, "ceiling", "(III)I"), (12, "isAuthority", "(I)Z"), (12, "advance", "(II)I"), (12, "year", "()I"), (12, "left", "(II)J"), (12, "isOf", "(II)Z"), (12, "leftOf", "(II)J"), (12, "paidBy", "(III)J"), (12, "isPaidIn", "(II)Z"), (12, "countsBy", "(I)I"), (12, "boundBy", "(II)J"), (12, "commit", "(IIII)I"), (12, "move", "(III)Z"), (12, "canMove", "(I)Z"), (12, "cover", "(II)Z"), (12, "strike", "(I)Z"), (12, "claim", "(IIIIIZ)I"), (12, "isHand", "(I)Z"), (12, "sign", "(II)Z"), (12, "isClaim", "(I)Z")],
  [(12, "may", "(I)I"), (12, "lets", "(I)I"), (12, "bar", "(II)I"), (12, "isBelowCeilings", "(II)Z"), (12, "barsOfTexts", "(I)I"), (12, "barOf", "(I)I"), (12, "holds", "(I)I"), (12, "does", "(II)V"), (12, "worked", "(IJJ)J"), (12, "letterOf", "(I)J"), (12, "rankOf", "(I)I"), (12, "pay", "(I)I"), (12, "ask", "(IIIZ)I"), (12, "cut", "(I)I"), (12, "hasFloors", "(I)Z"), (12, "sumOf", "(I)J"), (12, "worthOf", "(I)I"), (12, "more", "(I)J"), (12, "comes", "(II)Z"), (12, "week", "()I")],
  [(12, "cameIn", "(III)J"), (12, "came", "(III)J"), (12, "foretold", "(III)J"), (12, "foretells", "(III)J"), (12, "due", "(II)Z"), (12, "shortWeek", "()I"), (12, "shortBy", "(I)I"), (12, "offer", "(IIII)I"), (12, "plan", "()I"), (12, "costOf", "(I)J"), (12, "sizeOf", "(I)I"), (12, "judge", "(I)J"), (12, "bid", "(II)I"), (12, "tender", "(IZ)I"), (12, "nextBid", "()I"), (12, "owed", "()J"), (12, "repay", "(I)Z"), (12, "interest", "(II)J"), (12, "loan", "(II)J"), (12, "draw", "(III)I")],
  [(12, "drawn", "(II)I"), (12, "test", "(II)Z"), (12, "found", "(II)J"), (12, "question", "(I)Z"), (12, "answer", "(IZ)Z"), (12, "surcharges", "(I)J"), (12, "falls", "(I)J"), (12, "surcharged", "(I)J"), (12, "find", "(II)Z"), (12, "paid", "(III)J"), (12, "isMeant", "(IIII)Z"), (12, "close", "(I)I"), (12, "copiesText", "(II)V"), (12, "check", "(II)I"), (12, "paidAfter", "(II)I"), (12, "numberAt", "(I)I"), (12, "look", "(II)I"), (12, "about", "(II)I"), (12, "count", "(I)I"), (12, "sum", "(I)J")],
  [(16, "bitCount", "(I)I"), (13, "length", "()I"), (13, "coder", "()B"), (13, "indexOf", "(I)I"), (13, "indexOf", "(II)I"), (13, "isLatin1", "()Z"), (13, "charAt", "(I)C"), (17, "indexOf", "([BIII)I"), (17, "canEncode", "(I)Z"), (17, "indexOfChar", "([BIII)I"), (17, "charAt", "([BI)C"), (13, "checkIndex", "(II)V"), (18, "copyOf", "([BI)[B"), (18, "copyOf", "([II)[I"), (18, "fill", "([JJ)V"), (19, "checkFromToIndex", "(IIILjava/util/function/BiFunction;)I"), (19, "checkIndex", "(IILjava/util/function/BiFunction;)I"), (15, "floorDiv", "(JJ)J")]]
noncomputable def ynm (m : Nat) : MethodName := ⟨cnm (g2 yl (0, "", "") m).1, (g2 yl (0, "", "") m).2.1, (g2 yl (0, "", "") m).2.2⟩
noncomputable def ow (m : Nat) : Nat := (g2 yl (0, "", "") m).1
noncomputable def bol : List (List ByteArray) := [
  [code, prog_1_method_1_code, prog_1_method_2_code, prog_1_method_63_code, prog_1_method_3_code, prog_1_method_4_code, prog_1_method_5_code, prog_1_method_6_code, prog_1_method_7_code, prog_1_method_9_code, prog_1_method_10_code, prog_1_method_11_code, prog_1_method_12_code, prog_1_method_66_code, prog_1_method_64_code, prog_1_method_13_code, prog_1_method_14_code, prog_1_method_68_code, prog_1_method_15_code, prog_1_method_20_code],
  [prog_1_method_21_code, prog_1_method_16_code, prog_1_method_17_code, prog_1_method_18_code, prog_1_method_19_code, prog_1_method_22_code, prog_1_method_23_code, prog_1_method_24_code, prog_1_method_26_code, prog_1_method_27_code, prog_1_method_28_code, prog_1_method_29_code, prog_1_method_25_code, prog_1_method_30_code, prog_1_method_31_code, prog_1_method_32_code, prog_1_method_33_code, prog_1_method_67_code, prog_1_method_69_code, prog_1_method_34_code],
  [prog_1_method_65_code, prog_1_method_35_code, prog_1_method_36_code, prog_1_method_37_code, prog_1_method_38_code, prog_1_method_39_code, prog_1_method_40_code, prog_1_method_41_code, prog_1_method_42_code, prog_1_method_43_code, prog_1_method_44_code, prog_1_method_45_code, prog_1_method_46_code, prog_1_method_47_code, prog_1_method_48_code, prog_1_method_49_code, prog_1_method_50_code, prog_1_method_51_code, prog_1_method_52_code, prog_1_method_53_code],
  [prog_1_method_54_code, prog_1_method_55_code, prog_1_method_56_code, prog_1_method_57_code, prog_1_method_58_code, prog_1_method_8_code, prog_1_method_59_code, prog_1_method_60_code, prog_1_method_61_code, prog_1_method_62_code, prog_2_method_1_code, prog_2_method_4_code, prog_2_method_5_code, prog_2_method_2_code, prog_2_method_3_code, prog_3_method_3_code, prog_3_method_2_code, prog_3_method_1_code, prog_3_method_4_code, prog_4_method_1_code],
  [prog_4_method_2_code, prog_4_method_6_code, prog_4_method_3_code, prog_4_method_7_code, prog_4_method_5_code, prog_4_method_8_code, prog_4_method_9_code, prog_4_method_10_code, prog_4_method_11_code, prog_4_method_12_code, prog_4_method_13_code, prog_4_method_14_code, prog_4_method_4_code, prog_5_method_1_code, prog_5_method_2_code, prog_5_method_3_code, prog_5_method_5_code, prog_5_method_6_code, prog_5_method_4_code, prog_5_method_7_code],
  [prog_6_method_1_code, prog_6_method_2_code, prog_6_method_4_code, prog_6_method_3_code, prog_6_method_7_code, prog_6_method_8_code, prog_6_method_5_code, prog_6_method_6_code, prog_6_method_9_code, prog_7_method_1_code, prog_7_method_2_code, prog_7_method_3_code, prog_7_method_4_code, prog_7_method_14_code, prog_7_method_5_code, prog_7_method_6_code, prog_7_method_7_code, prog_7_method_11_code, prog_7_method_12_code, prog_7_method_8_code],
  [prog_7_method_13_code, prog_7_method_9_code, prog_7_method_10_code, prog_8_method_1_code, prog_8_method_5_code, prog_8_method_2_code, prog_8_method_6_code, prog_8_method_4_code, prog_8_method_7_code, prog_8_method_3_code, prog_8_method_8_code, prog_8_method_9_code, prog_8_method_11_code, prog_8_method_10_code, prog_9_method_1_code, prog_9_method_5_code, prog_9_method_10_code, prog_9_method_11_code, prog_9_method_16_code, prog_9_method_12_code],
  [prog_9_method_8_code, prog_9_method_14_code, prog_9_method_17_code, prog_9_method_19_code, prog_9_method_13_code, prog_9_method_15_code, prog_9_method_18_code, prog_9_method_20_code, prog_9_method_21_code, prog_9_method_22_code, prog_9_method_23_code, prog_9_method_24_code, prog_9_method_25_code, prog_9_method_26_code, prog_9_method_6_code, prog_9_method_2_code, prog_9_method_3_code, prog_9_method_4_code, prog_9_method_7_code, prog_9_method_9_code],
  [prog_10_method_1_code, prog_10_method_2_code, prog_10_method_5_code, prog_10_method_3_code, prog_10_method_4_code, prog_11_method_1_code, prog_11_method_2_code, prog_11_method_4_code, prog_11_method_3_code, prog_11_method_6_code, prog_11_method_12_code, prog_11_method_11_code, prog_11_method_8_code, prog_11_method_7_code, prog_11_method_5_code, prog_11_method_9_code, prog_11_method_10_code, prog_11_method_13_code, prog_12_method_1_code, prog_12_method_4_code],
  [prog_12_method_2_code, prog_12_method_3_code, prog_12_method_5_code, prog_12_method_6_code, prog_12_method_9_code, prog_12_method_7_code, prog_12_method_13_code, prog_12_method_14_code, prog_12_method_10_code, prog_12_method_15_code, prog_12_method_12_code, prog_12_method_11_code, prog_12_method_8_code, prog_14_method_1_code, prog_14_method_6_code, prog_14_method_2_code, prog_14_method_10_code, prog_14_method_7_code, prog_14_method_11_code, prog_14_method_9_code],
  [prog_14_method_12_code, prog_14_method_14_code, prog_14_method_13_code, prog_14_method_43_code, prog_14_method_40_code, prog_14_method_17_code, prog_14_method_39_code, prog_14_method_15_code, prog_14_method_37_code, prog_14_method_38_code, prog_14_method_16_code, prog_14_method_36_code, prog_14_method_20_code, prog_14_method_34_code, prog_14_method_22_code, prog_14_method_21_code, prog_14_method_18_code, prog_14_method_33_code, prog_14_method_30_code, prog_14_method_29_code],
  [prog_14_method_31_code, prog_14_method_23_code, prog_14_method_24_code, prog_14_method_26_code, prog_14_method_19_code, prog_14_method_32_code, prog_14_method_25_code, prog_14_method_28_code, prog_14_method_35_code, prog_14_method_27_code, prog_14_method_41_code, prog_14_method_47_code, prog_14_method_45_code, prog_14_method_44_code, prog_14_method_46_code, prog_14_method_49_code, prog_14_method_48_code, prog_14_method_52_code, prog_14_method_3_code, prog_14_method_51_code],
  [prog_14_method_53_code, prog_14_method_50_code, prog_14_method_54_code, prog_14_method_4_code, prog_14_method_62_code, prog_14_method_55_code, prog_14_method_61_code, prog_14_method_59_code, prog_14_method_57_code, prog_14_method_58_code, prog_14_method_60_code, prog_14_method_63_code, prog_14_method_65_code, prog_14_method_64_code, prog_14_method_66_code, prog_14_method_67_code, prog_14_method_78_code, prog_14_method_8_code, prog_14_method_79_code, prog_14_method_56_code],
  [prog_14_method_80_code, prog_14_method_77_code, prog_14_method_76_code, prog_14_method_75_code, prog_14_method_74_code, prog_14_method_73_code, prog_14_method_72_code, prog_14_method_71_code, prog_14_method_70_code, prog_14_method_69_code, prog_14_method_68_code, prog_14_method_81_code, prog_14_method_82_code, prog_14_method_87_code, prog_14_method_84_code, prog_14_method_85_code, prog_14_method_86_code, prog_14_method_88_code, prog_14_method_90_code, prog_14_method_5_code],
  [prog_14_method_89_code, prog_14_method_91_code, prog_14_method_93_code, prog_14_method_92_code, prog_14_method_94_code, prog_14_method_96_code, prog_14_method_95_code, prog_14_method_97_code, prog_14_method_99_code, prog_14_method_98_code, prog_14_method_83_code, prog_14_method_100_code, prog_14_method_101_code, prog_14_method_104_code, prog_14_method_103_code, prog_14_method_102_code, prog_14_method_106_code, prog_14_method_105_code, prog_14_method_107_code, prog_14_method_108_code],
  [prog_14_method_109_code, prog_14_method_110_code, prog_14_method_111_code, prog_14_method_112_code, prog_14_method_114_code, prog_14_method_113_code, prog_14_method_115_code, prog_14_method_116_code, prog_14_method_117_code, prog_14_method_119_code, prog_14_method_118_code, prog_14_method_120_code, prog_14_method_42_code, prog_14_method_123_code, prog_14_method_121_code, prog_14_method_122_code, prog_14_method_124_code, prog_14_method_125_code, prog_14_method_126_code, prog_14_method_127_code],
  [prog_17_method_49_code, prog_19_method_54_code, prog_19_method_152_code, prog_19_method_79_code, prog_19_method_80_code, prog_19_method_154_code, prog_19_method_56_code, prog_20_method_22_code, prog_20_method_4_code, prog_20_method_23_code, prog_20_method_2_code, prog_19_method_155_code, prog_23_method_121_code, prog_23_method_123_code, prog_23_method_101_code, prog_24_method_12_code, prog_24_method_11_code, prog_18_method_49_code]]
noncomputable def byo (m : Nat) : ByteArray := g2 bol code m
noncomputable def rfl_l : List (List (Option FieldType)) := [
  [some .boolean, none, some .boolean, some .boolean, some .int, some .int, some .int, some .int, none, some .int, some .int, some .int, some .int, some .boolean, some .boolean, some .int, some .int, some .int, some .boolean, some .long],
  [some .long, some .boolean, some .boolean, some .int, some .long, some .int, some .boolean, some .int, some .int, none, some .int, some .boolean, some .int, some .int, some .int, some .long, some .boolean, some .boolean, some .int, some .long],
  [some .boolean, some .long, some .boolean, some .int, some .int, some .int, some .long, some .int, some .int, some .boolean, some .long, some .int, some .int, some .boolean, some .long, some .boolean, some .boolean, some .long, some .boolean, some .long],
  [some .boolean, some .long, some .int, some .int, some .int, some .int, some .int, some .int, some .int, some .long, none, some .long, none, some .boolean, some .boolean, some .boolean, some .boolean, none, some .boolean, none],
  [some (.object "SupplyBook$Claim"), none, some .int, some .int, none, some .int, some .int, some .long, some .long, some .long, some .boolean, some .long, some .int, none, some .int, some .int, none, some .boolean, some .long, none],
  [none, some .boolean, some .int, some .boolean, none, none, some (.object "SupplyBook$Text"), some .int, some .int, none, some .int, some .long, some .int, some .long, some .boolean, some .int, some .boolean, some .int, some .long, some .int],
  [none, some .int, some .int, none, some .int, some .boolean, some .long, some .boolean, some .int, some .boolean, some .int, some .int, some .long, some .long, none, some .int, none, none, none, some .boolean],
  [some .boolean, none, some .int, some .int, some .boolean, none, some .int, some .boolean, some .boolean, some .boolean, some .boolean, some .long, some .long, some .long, some (.object "SupplyBook$Text"), none, none, none, some .int, some .int],
  [none, some .int, some .int, some .int, some .int, none, some .boolean, some .int, some (.object "SupplyBook$Authority"), some .long, some .long, some .long, some .boolean, some .boolean, some .boolean, some .int, some .int, none, none, some .boolean],
  [some .int, some .long, some .long, none, none, some .long, some .int, none, some .int, some .int, some .long, some .boolean, some .long, none, some .boolean, some .boolean, some .int, some .boolean, some .int, some .boolean],
  [some .int, some .int, none, some .int, some .int, some .boolean, none, some .int, some .boolean, some .boolean, none, none, none, none, some .int, some .boolean, none, none, none, some .boolean],
  [some .boolean, some .boolean, some .boolean, none, some .int, some .boolean, some .boolean, none, some .boolean, none, none, some .int, none, some .boolean, some .boolean, some .int, some .int, some .int, some .boolean, some .int],
  [some .int, some .boolean, some .int, some .int, some .long, some .boolean, some .long, some .long, some .boolean, some .int, some .long, some .int, some .boolean, some .boolean, some .boolean, some .boolean, some .int, some .boolean, some .boolean, some .boolean],
  [some .int, some .int, some .int, some .boolean, some .int, some .int, some .int, none, some .long, some .long, some .int, some .int, some .int, some .int, some .boolean, some .long, some .int, some .long, some .boolean, some .int],
  [some .long, some .long, some .long, some .long, some .boolean, some .int, some .int, some .int, some .int, some .long, some .int, some .long, some .int, some .int, some .int, some .long, some .boolean, some .long, some .long, some .int],
  [some .int, some .boolean, some .long, some .boolean, some .boolean, some .long, some .long, some .long, some .boolean, some .long, some .boolean, some .int, none, some .int, some .int, some .int, some .int, some .int, some .int, some .long],
  [some .int, some .int, some .byte, some .int, some .int, some .boolean, some .char, some .int, some .boolean, some .int, some .char, none, some (.array .byte), some (.array .int), none, some .int, some .int, some .long]]
noncomputable def rty (m : Nat) : Option FieldType := g2 rfl_l none m
/-- a method's words: 0 static, 1 of an object, 2 a constructor; places of code, initialized, static or instanceMethod, selects -/
noncomputable def mwl : List (List (Nat × Nat × Nat × Nat × Nat)) := [
  [(0, 0, 0, 0, 0), (2, 1027, 1001, 1026, 0), (1, 2167, 1001, 2165, 2166), (0, 2170, 1001, 2169, 0), (1, 2174, 1001, 2172, 2173), (1, 2190, 1001, 2188, 2189), (1, 2199, 1001, 2197, 2198), (1, 2207, 1001, 2205, 2206), (1, 2211, 1001, 2210, 0), (1, 2215, 1001, 2213, 2214), (1, 3174, 1001, 3172, 3173), (1, 3221, 1001, 3219, 3220), (1, 4015, 1001, 4013, 4014), (0, 4018, 1001, 4017, 0), (0, 4022, 1001, 4021, 0), (1, 4101, 1001, 4099, 4100), (1, 4109, 1001, 4107, 4108), (0, 4112, 1001, 4111, 0), (1, 4122, 1001, 4120, 4121), (1, 4126, 1001, 4125, 19)],
  [(1, 4130, 1001, 4129, 20), (1, 4174, 1001, 4172, 4173), (1, 4178, 1001, 4176, 4177), (1, 4187, 1001, 4185, 4186), (1, 4208, 1001, 4206, 4207), (1, 4213, 1001, 4211, 4212), (1, 5073, 1001, 5071, 5072), (1, 5078, 1001, 5076, 5077), (1, 5082, 1001, 5081, 21), (1, 5086, 1001, 5085, 22), (1, 5113, 1001, 5112, 23), (1, 5118, 1001, 5117, 24), (1, 5142, 1001, 5140, 5141), (1, 5154, 1001, 5152, 5153), (1, 5163, 1001, 5161, 5162), (1, 5179, 1001, 5177, 5178), (1, 5193, 1001, 5191, 5192), (0, 5196, 1001, 5195, 0), (0, 5206, 1001, 5205, 0), (1, 5215, 1001, 5213, 5214)],
  [(0, 5218, 1001, 5217, 0), (1, 5228, 1001, 5226, 5227), (1, 6005, 1001, 6003, 6004), (1, 6013, 1001, 6011, 6012), (1, 6040, 1001, 6038, 6039), (1, 6048, 1001, 6046, 6047), (1, 6062, 1001, 6060, 6061), (1, 6072, 1001, 6070, 6071), (1, 6080, 1001, 6078, 6079), (1, 6105, 1001, 6103, 6104), (1, 6132, 1001, 6130, 6131), (1, 6144, 1001, 6142, 6143), (1, 6153, 1001, 6151, 6152), (1, 6161, 1001, 6159, 6160), (1, 6165, 1001, 6163, 6164), (1, 6187, 1001, 6185, 6186), (1, 6191, 1001, 6189, 6190), (1, 6200, 1001, 6198, 6199), (1, 6204, 1001, 6203, 33), (1, 6208, 1001, 6206, 6207)],
  [(1, 6217, 1001, 6215, 6216), (1, 6225, 1001, 6223, 6224), (1, 6233, 1001, 6231, 6232), (1, 6239, 1001, 6237, 6238), (1, 7009, 1001, 7008, 34), (1, 7013, 1001, 7012, 35), (1, 7017, 1001, 7015, 7016), (1, 7021, 1001, 7019, 7020), (1, 7026, 1001, 7024, 7025), (1, 7030, 1001, 7028, 7029), (2, 4031, 1021, 4030, 0), (1, 4147, 1021, 4145, 4146), (1, 4165, 1021, 4163, 4164), (1, 4182, 1021, 4180, 4181), (1, 4191, 1021, 4189, 4190), (1, 4138, 1022, 4136, 4137), (1, 4142, 1022, 4140, 4141), (2, 4228, 1022, 4227, 0), (1, 6173, 1022, 6171, 6172), (2, 1199, 1008, 1198, 0)],
  [(1, 4134, 1008, 4132, 4133), (1, 4169, 1008, 4167, 4168), (1, 5069, 1008, 5067, 5068), (1, 5100, 1008, 5098, 5099), (1, 5150, 1008, 5148, 5149), (1, 6148, 1008, 6146, 6147), (1, 6157, 1008, 6155, 6156), (1, 6169, 1008, 6167, 6168), (1, 6178, 1008, 6176, 6177), (1, 6183, 1008, 6181, 6182), (1, 6221, 1008, 6219, 6220), (1, 6229, 1008, 6227, 6228), (1, 7005, 1008, 7003, 7004), (2, 2001, 1009, 2000, 0), (1, 5159, 1009, 5157, 5158), (1, 5167, 1009, 5165, 5166), (1, 5171, 1009, 5170, 26), (1, 5175, 1009, 5174, 27), (1, 5183, 1009, 5181, 5182), (1, 5188, 1009, 5187, 28)],
  [(2, 1139, 1006, 1138, 0), (1, 2219, 1006, 2217, 2218), (1, 3169, 1006, 3167, 3168), (1, 3178, 1006, 3176, 3177), (1, 3182, 1006, 3180, 3181), (1, 3190, 1006, 3189, 18), (1, 3194, 1006, 3192, 3193), (1, 3211, 1006, 3209, 3210), (1, 3227, 1006, 3225, 3226), (2, 2079, 1011, 2078, 0), (1, 6076, 1011, 6074, 6075), (1, 6084, 1011, 6082, 6083), (1, 6088, 1011, 6087, 32), (1, 6093, 1011, 6091, 6092), (1, 6097, 1011, 6095, 6096), (1, 6101, 1011, 6099, 6100), (1, 6109, 1011, 6107, 6108), (1, 6113, 1011, 6111, 6112), (1, 6118, 1011, 6116, 6117), (1, 6124, 1011, 6122, 6123)],
  [(1, 6128, 1011, 6126, 6127), (1, 6136, 1011, 6134, 6135), (1, 6140, 1011, 6138, 6139), (2, 1035, 1002, 1034, 0), (1, 2178, 1002, 2176, 2177), (1, 2182, 1002, 2180, 2181), (1, 2186, 1002, 2184, 2185), (1, 2195, 1002, 2193, 2194), (1, 2203, 1002, 2201, 2202), (1, 4217, 1002, 4215, 4216), (1, 4221, 1002, 4219, 4220), (1, 5091, 1002, 5089, 5090), (1, 6195, 1002, 6193, 6194), (1, 6212, 1002, 6210, 6211), (2, 1065, 1003, 1064, 0), (1, 2223, 1003, 2221, 2222), (1, 2227, 1003, 2226, 1), (1, 2231, 1003, 2230, 2), (1, 2235, 1003, 2234, 3), (1, 3000, 1003, 2239, 4)],
  [(0, 3080, 1003, 3079, 0), (1, 3084, 1003, 3083, 5), (1, 3088, 1003, 3087, 6), (1, 3092, 1003, 3091, 7), (1, 3096, 1003, 3095, 8), (1, 3100, 1003, 3099, 9), (1, 3105, 1003, 3104, 10), (1, 3109, 1003, 3108, 11), (1, 3113, 1003, 3112, 12), (1, 3117, 1003, 3116, 13), (1, 3121, 1003, 3120, 14), (1, 3125, 1003, 3124, 15), (1, 3129, 1003, 3128, 16), (1, 3133, 1003, 3132, 17), (1, 3139, 1003, 3137, 3138), (1, 5096, 1003, 5094, 5095), (1, 5105, 1003, 5103, 5104), (1, 5122, 1003, 5120, 5121), (1, 5126, 1003, 5124, 5125), (1, 5134, 1003, 5133, 25)],
  [(2, 1122, 1005, 1121, 0), (1, 3186, 1005, 3184, 3185), (1, 3199, 1005, 3197, 3198), (1, 3203, 1005, 3201, 3202), (1, 3207, 1005, 3205, 3206), (2, 1164, 1007, 1163, 0), (1, 4026, 1007, 4024, 4025), (1, 4096, 1007, 4094, 4095), (1, 4105, 1007, 4103, 4104), (1, 4117, 1007, 4115, 4116), (1, 4152, 1007, 4150, 4151), (1, 4156, 1007, 4154, 4155), (1, 4160, 1007, 4158, 4159), (1, 4195, 1007, 4193, 4194), (1, 4199, 1007, 4197, 4198), (1, 4203, 1007, 4201, 4202), (1, 5109, 1007, 5107, 5108), (1, 5146, 1007, 5144, 5145), (2, 2037, 1010, 2036, 0), (1, 5200, 1010, 5198, 5199)],
  [(1, 5210, 1010, 5209, 29), (1, 5222, 1010, 5220, 5221), (1, 5233, 1010, 5231, 5232), (1, 6009, 1010, 6007, 6008), (1, 6017, 1010, 6015, 6016), (1, 6022, 1010, 6021, 30), (1, 6026, 1010, 6024, 6025), (1, 6030, 1010, 6029, 31), (1, 6044, 1010, 6042, 6043), (1, 6052, 1010, 6050, 6051), (1, 6056, 1010, 6054, 6055), (1, 6066, 1010, 6064, 6065), (1, 7034, 1010, 7032, 7033), (2, 7039, 1012, 7038, 0), (1, 8127, 1012, 8125, 8126), (0, 8131, 1012, 8130, 0), (1, 8135, 1012, 8133, 8134), (1, 8139, 1012, 8138, 36), (1, 8143, 1012, 8141, 8142), (1, 8147, 1012, 8146, 37)],
  [(1, 8151, 1012, 8149, 8150), (1, 8156, 1012, 8154, 8155), (1, 8160, 1012, 8159, 38), (1, 8164, 1012, 8162, 8163), (1, 8169, 1012, 8168, 39), (1, 8173, 1012, 8172, 40), (1, 8177, 1012, 8176, 41), (1, 8181, 1012, 8180, 42), (0, 8184, 1012, 8183, 0), (0, 8187, 1012, 8186, 0), (1, 8191, 1012, 8190, 43), (1, 8195, 1012, 8194, 44), (1, 8199, 1012, 8198, 45), (1, 8203, 1012, 8202, 46), (1, 8207, 1012, 8206, 47), (1, 8211, 1012, 8210, 48), (1, 8217, 1012, 8216, 49), (1, 8221, 1012, 8220, 50), (1, 8225, 1012, 8224, 51), (0, 8229, 1012, 8228, 0)],
  [(1, 8233, 1012, 8232, 52), (0, 8236, 1012, 8235, 0), (0, 8239, 1012, 8238, 0), (1, 9003, 1012, 9002, 53), (1, 9007, 1012, 9006, 54), (1, 9011, 1012, 9010, 55), (0, 9014, 1012, 9013, 0), (1, 9018, 1012, 9017, 56), (1, 9022, 1012, 9021, 57), (1, 9026, 1012, 9025, 58), (1, 9031, 1012, 9030, 59), (1, 9035, 1012, 9033, 9034), (1, 9039, 1012, 9038, 60), (1, 9043, 1012, 9042, 61), (1, 9047, 1012, 9046, 62), (1, 9051, 1012, 9049, 9050), (1, 9055, 1012, 9054, 63), (1, 9059, 1012, 9057, 9058), (0, 9062, 1012, 9061, 0), (1, 9067, 1012, 9066, 64)],
  [(1, 9071, 1012, 9069, 9070), (1, 9075, 1012, 9074, 65), (1, 9079, 1012, 9077, 9078), (1, 9083, 1012, 9082, 66), (1, 9088, 1012, 9086, 9087), (1, 9092, 1012, 9091, 67), (1, 9096, 1012, 9095, 68), (1, 9100, 1012, 9099, 69), (1, 9104, 1012, 9103, 70), (1, 9108, 1012, 9107, 71), (1, 9112, 1012, 9111, 72), (1, 9117, 1012, 9115, 9116), (1, 9121, 1012, 9119, 9120), (1, 9125, 1012, 9124, 73), (1, 9130, 1012, 9128, 9129), (1, 9134, 1012, 9132, 9133), (1, 9138, 1012, 9136, 9137), (1, 9142, 1012, 9141, 74), (1, 9147, 1012, 9145, 9146), (1, 9151, 1012, 9150, 75)],
  [(1, 9155, 1012, 9153, 9154), (1, 9159, 1012, 9158, 76), (1, 9163, 1012, 9162, 77), (1, 9167, 1012, 9166, 78), (1, 9171, 1012, 9170, 79), (1, 9175, 1012, 9174, 80), (1, 9179, 1012, 9178, 81), (1, 9183, 1012, 9182, 82), (0, 9186, 1012, 9185, 0), (1, 9190, 1012, 9189, 83), (1, 9194, 1012, 9193, 84), (1, 9198, 1012, 9196, 9197), (1, 9202, 1012, 9200, 9201), (1, 9207, 1012, 9205, 9206), (1, 9211, 1012, 9210, 85), (1, 9215, 1012, 9214, 86), (1, 9219, 1012, 9218, 87), (1, 9223, 1012, 9221, 9222), (1, 9228, 1012, 9226, 9227), (1, 9233, 1012, 9232, 88)],
  [(1, 9237, 1012, 9236, 89), (1, 10001, 1012, 9239, 10000), (1, 10006, 1012, 10004, 10005), (1, 10011, 1012, 10010, 90), (1, 10015, 1012, 10013, 10014), (1, 10019, 1012, 10017, 10018), (1, 10023, 1012, 10022, 91), (1, 10027, 1012, 10025, 10026), (1, 10031, 1012, 10029, 10030), (1, 10035, 1012, 10034, 92), (0, 10038, 1012, 10037, 0), (1, 10042, 1012, 10040, 10041), (1, 10046, 1012, 10044, 10045), (1, 10051, 1012, 10049, 10050), (1, 10055, 1012, 10054, 93), (1, 10059, 1012, 10058, 94), (1, 10063, 1012, 10061, 10062), (1, 10067, 1012, 10066, 95), (1, 10072, 1012, 10070, 10071), (1, 10076, 1012, 10074, 10075)],
  [(1, 10080, 1012, 10078, 10079), (1, 10084, 1012, 10082, 10083), (1, 10088, 1012, 10086, 10087), (1, 10092, 1012, 10090, 10091), (1, 10096, 1012, 10094, 10095), (1, 10100, 1012, 10099, 96), (1, 10104, 1012, 10102, 10103), (1, 10108, 1012, 10106, 10107), (1, 10112, 1012, 10110, 10111), (1, 10116, 1012, 10114, 10115), (1, 10120, 1012, 10119, 97), (1, 10124, 1012, 10122, 10123), (1, 10128, 1012, 10127, 98), (1, 10132, 1012, 10130, 10131), (1, 10136, 1012, 10135, 99), (1, 10140, 1012, 10139, 100), (1, 10144, 1012, 10142, 10143), (1, 10148, 1012, 10146, 10147), (1, 10152, 1012, 10150, 10151), (1, 10156, 1012, 10154, 10155)],
  [(0, 3214, 1020, 3213, 0), (1, 1071, 1004, 1069, 1070), (1, 1075, 1004, 1073, 1074), (1, 3004, 1004, 3002, 3003), (1, 3008, 1004, 3006, 3007), (1, 3012, 1004, 3010, 3011), (1, 3235, 1004, 3233, 3234), (0, 3016, 1013, 3015, 0), (0, 3019, 1013, 3018, 0), (0, 3028, 1013, 3027, 0), (0, 3238, 1013, 3237, 0), (0, 4001, 1004, 4000, 0), (0, 3145, 1018, 3144, 0), (0, 3159, 1018, 3158, 0), (0, 6033, 1018, 6032, 0), (0, 3051, 1016, 3050, 0), (0, 4004, 1016, 4003, 0), (0, 6036, 1014, 6035, 0)]]
noncomputable def mw (m : Nat) : Nat × Nat × Nat × Nat × Nat := g2 mwl (0, 0, 0, 0, 0) m
/-- field links: class, entry, class of the field, its number, place of the word, nest -/
noncomputable def fkl : List (Nat × Nat × Nat × Nat × Nat × Bool) := [
  (0, 7, 0, 0, 2121, false), (0, 13, 0, 1, 2122, false), (0, 17, 0, 2, 2123, false), (0, 20, 0, 3, 2124, false), (0, 24, 0, 4, 2125, false),
  (0, 30, 0, 5, 2126, false), (0, 37, 0, 6, 2127, false), (0, 46, 0, 7, 2128, false), (0, 53, 0, 8, 2129, false), (0, 60, 0, 9, 2130, false),
  (0, 67, 0, 10, 2131, false), (0, 74, 0, 11, 2132, false), (0, 81, 0, 12, 2133, false), (0, 88, 0, 13, 2134, false), (0, 172, 1, 0, 4035, true),
  (0, 175, 1, 1, 4037, true), (0, 178, 1, 3, 4043, true), (0, 190, 1, 8, 4054, true), (0, 193, 1, 7, 4052, true), (0, 207, 1, 9, 4056, true),
  (0, 217, 1, 2, 4040, true), (0, 225, 1, 11, 4060, true), (0, 222, 1, 12, 4062, true), (0, 252, 3, 1, 1205, true), (0, 258, 2, 9, 5021, true),
  (0, 263, 1, 6, 4050, true), (0, 269, 2, 1, 4236, true), (0, 270, 2, 3, 5004, true), (0, 290, 2, 0, 4233, true), (0, 293, 2, 6, 5012, true),
  (0, 299, 2, 4, 5006, true), (0, 323, 10, 1, 1170, true), (0, 356, 1, 5, 4047, true), (0, 363, 5, 4, 1148, true), (0, 472, 2, 12, 5028, true),
  (0, 476, 2, 13, 5031, true), (0, 488, 2, 10, 5023, true), (0, 495, 1, 10, 4058, true), (0, 502, 2, 8, 5018, true), (0, 505, 1, 4, 4045, true),
  (0, 511, 2, 14, 5034, true), (0, 517, 2, 7, 5015, true), (0, 533, 3, 3, 1208, true), (0, 546, 2, 2, 4239, true), (0, 547, 2, 5, 5009, true),
  (0, 554, 7, 1, 1039, true), (0, 557, 7, 5, 1044, true), (0, 560, 10, 7, 1177, true), (0, 563, 4, 4, 2009, true), (0, 564, 11, 7, 2048, true),
  (0, 567, 6, 2, 2084, true), (0, 570, 6, 10, 2093, true), (0, 571, 11, 1, 2041, true), (0, 574, 3, 4, 1210, true), (0, 577, 6, 11, 2095, true),
  (1, 9, 1, 7, 4051, false), (1, 15, 1, 8, 4053, false), (1, 18, 1, 9, 4055, false), (1, 21, 1, 10, 4057, false), (1, 25, 1, 11, 4059, false),
  (1, 29, 1, 12, 4061, false), (1, 32, 1, 13, 4063, false), (1, 36, 1, 0, 4033, false), (1, 39, 1, 1, 4036, false), (1, 42, 1, 2, 4038, false),
  (1, 45, 1, 3, 4041, false), (1, 48, 1, 4, 4044, false), (1, 51, 1, 5, 4046, false), (1, 55, 1, 6, 4048, false), (2, 15, 2, 7, 5013, false),
  (2, 9, 2, 6, 5010, false), (2, 18, 2, 8, 5016, false), (2, 21, 2, 9, 5019, false), (2, 24, 2, 10, 5022, false), (2, 27, 2, 11, 5024, false),
  (2, 31, 2, 12, 5026, false), (2, 34, 2, 13, 5029, false), (2, 37, 2, 14, 5032, false), (2, 41, 2, 0, 4230, false), (2, 44, 2, 1, 4234, false),
  (2, 47, 2, 2, 4237, false), (2, 50, 2, 3, 5000, false), (2, 53, 2, 4, 5005, false), (2, 56, 2, 5, 5007, false), (3, 11, 3, 0, 1203, false),
  (3, 17, 3, 1, 1204, false), (3, 21, 3, 2, 1206, false), (3, 25, 3, 3, 1207, false), (3, 28, 3, 4, 1209, false), (3, 32, 3, 5, 1211, false),
  (3, 35, 3, 6, 1212, false), (3, 38, 3, 7, 1213, false), (3, 41, 3, 8, 1214, false), (3, 44, 3, 9, 1215, false), (3, 57, 2, 9, 5020, true),
  (3, 63, 2, 0, 4231, true), (3, 51, 2, 7, 5014, true), (3, 54, 2, 8, 5017, true), (3, 60, 2, 3, 5002, true), (3, 73, 2, 12, 5027, true),
  (3, 80, 2, 13, 5030, true), (3, 85, 2, 14, 5033, true), (4, 9, 4, 0, 2004, false), (4, 15, 4, 1, 2005, false), (4, 18, 4, 2, 2006, false),
  (4, 22, 4, 3, 2007, false), (4, 26, 4, 4, 2008, false), (4, 29, 4, 5, 2010, false), (4, 32, 4, 6, 2011, false), (4, 36, 4, 7, 2012, false),
  (4, 41, 4, 8, 2013, false), (5, 11, 5, 0, 1143, false), (5, 17, 5, 1, 1144, false), (5, 21, 5, 2, 1145, false), (5, 24, 5, 3, 1146, false),
  (5, 27, 5, 4, 1147, false), (6, 9, 6, 0, 2081, false), (6, 15, 6, 1, 2082, false), (6, 18, 6, 2, 2083, false), (6, 22, 6, 3, 2085, false),
  (6, 25, 6, 4, 2086, false), (6, 28, 6, 5, 2087, false), (6, 31, 6, 6, 2088, false), (6, 34, 6, 7, 2089, false), (6, 37, 6, 8, 2090, false),
  (6, 40, 6, 9, 2091, false), (6, 43, 6, 10, 2092, false), (6, 46, 6, 11, 2094, false), (7, 9, 7, 0, 1037, false), (7, 15, 7, 1, 1038, false),
  (7, 19, 7, 2, 1040, false), (7, 23, 7, 3, 1041, false), (7, 26, 7, 4, 1042, false), (7, 29, 7, 5, 1043, false), (7, 51, 2, 6, 5011, true),
  (7, 56, 2, 0, 4232, true), (7, 65, 2, 11, 5025, true), (7, 69, 2, 3, 5003, true), (8, 9, 8, 0, 1078, false), (8, 15, 8, 1, 1079, false),
  (8, 18, 8, 2, 1080, false), (8, 22, 8, 3, 1081, false), (8, 26, 8, 4, 1082, false), (8, 29, 8, 5, 1083, false), (8, 32, 8, 6, 1084, false),
  (8, 35, 8, 7, 1085, false), (8, 38, 8, 8, 1086, false), (8, 41, 8, 9, 1087, false), (8, 53, 8, 10, 1088, false), (8, 57, 8, 11, 1089, false),
  (8, 61, 8, 12, 1090, false), (8, 64, 2, 5, 5008, true), (8, 69, 2, 3, 5001, true), (8, 72, 2, 1, 4235, true), (8, 75, 2, 2, 4238, true),
  (8, 123, 9, 0, 1125, true), (9, 9, 9, 0, 1124, false), (9, 15, 9, 1, 1126, false), (9, 19, 9, 2, 1127, false), (10, 11, 10, 0, 1168, false),
  (10, 17, 10, 1, 1169, false), (10, 21, 10, 2, 1171, false), (10, 25, 10, 3, 1172, false), (10, 28, 10, 4, 1173, false), (10, 31, 10, 5, 1174, false),
  (10, 34, 10, 6, 1175, false), (10, 38, 10, 7, 1176, false), (10, 45, 1, 0, 4034, true), (10, 55, 1, 3, 4042, true), (10, 58, 1, 2, 4039, true),
  (10, 48, 1, 6, 4049, true), (11, 9, 11, 0, 2039, false), (11, 15, 11, 1, 2040, false), (11, 19, 11, 2, 2042, false), (11, 23, 11, 3, 2043, false),
  (11, 26, 11, 4, 2044, false), (11, 29, 11, 5, 2045, false), (11, 32, 11, 6, 2046, false), (11, 35, 11, 7, 2047, false), (11, 39, 11, 8, 2049, false),
  (11, 42, 11, 9, 2050, false), (11, 45, 11, 10, 2051, false), (12, 7, 12, 0, 7041, false), (12, 13, 12, 6, 7047, false), (12, 17, 12, 7, 7048, false),
  (12, 20, 12, 8, 7049, false), (12, 23, 12, 9, 7050, false), (12, 27, 12, 10, 7051, false), (12, 30, 12, 11, 7052, false), (12, 33, 12, 12, 7053, false),
  (12, 36, 12, 13, 7054, false), (12, 39, 12, 14, 7055, false), (12, 42, 12, 15, 7056, false), (12, 45, 12, 16, 7057, false), (12, 48, 12, 17, 7058, false),
  (12, 51, 12, 27, 7068, false), (12, 54, 12, 28, 7069, false), (12, 57, 12, 29, 7070, false), (12, 60, 12, 30, 7071, false), (12, 63, 12, 31, 7072, false),
  (12, 66, 12, 32, 7073, false), (12, 69, 12, 33, 7074, false), (12, 72, 12, 34, 7075, false), (12, 75, 12, 37, 7078, false), (12, 78, 12, 38, 7079, false),
  (12, 81, 12, 39, 7080, false), (12, 85, 12, 41, 7082, false), (12, 88, 12, 42, 7083, false), (12, 91, 12, 43, 7084, false), (12, 94, 12, 44, 7085, false),
  (12, 97, 12, 45, 7086, false), (12, 100, 12, 46, 7087, false), (12, 103, 12, 47, 7088, false), (12, 106, 12, 48, 7089, false), (12, 109, 12, 49, 7090, false),
  (12, 112, 12, 50, 7091, false), (12, 115, 12, 51, 7092, false), (12, 118, 12, 54, 7095, false), (12, 121, 12, 55, 7096, false), (12, 124, 12, 56, 7097, false),
  (12, 127, 12, 57, 7098, false), (12, 130, 12, 58, 7099, false), (12, 133, 12, 59, 7100, false), (12, 136, 12, 60, 7101, false), (12, 139, 12, 61, 7102, false),
  (12, 142, 12, 62, 7103, false), (12, 145, 12, 63, 7104, false), (12, 148, 12, 64, 7105, false), (12, 151, 12, 65, 7106, false), (12, 154, 12, 66, 7107, false),
  (12, 157, 12, 67, 7108, false), (12, 160, 12, 68, 7109, false), (12, 163, 12, 69, 7110, false), (12, 166, 12, 71, 7112, false), (12, 169, 12, 72, 7113, false),
  (12, 172, 12, 73, 7114, false), (12, 175, 12, 74, 7115, false), (12, 178, 12, 77, 7118, false), (12, 181, 12, 78, 7119, false), (12, 184, 12, 80, 7121, false),
  (12, 187, 12, 81, 7122, false), (12, 190, 12, 82, 7123, false), (12, 193, 12, 83, 7124, false), (12, 196, 12, 84, 7125, false), (12, 199, 12, 88, 7129, false),
  (12, 202, 12, 89, 7130, false), (12, 205, 12, 90, 7131, false), (12, 208, 12, 91, 7132, false), (12, 211, 12, 94, 7135, false), (12, 214, 12, 95, 7136, false),
  (12, 217, 12, 96, 7137, false), (12, 220, 12, 97, 7138, false), (12, 223, 12, 98, 7139, false), (12, 226, 12, 99, 7140, false), (12, 229, 12, 100, 7141, false),
  (12, 232, 12, 101, 7142, false), (12, 235, 12, 103, 7144, false), (12, 238, 12, 104, 7145, false), (12, 241, 12, 105, 7146, false), (12, 250, 12, 2, 7043, false),
  (12, 256, 12, 4, 7045, false), (12, 259, 12, 5, 7046, false), (12, 272, 12, 1, 7042, false), (12, 397, 12, 36, 7077, false), (12, 279, 12, 18, 7059, false),
  (12, 282, 12, 19, 7060, false), (12, 285, 12, 20, 7061, false), (12, 386, 12, 21, 7062, false), (12, 292, 12, 22, 7063, false), (12, 383, 12, 25, 7066, false),
  (12, 295, 12, 24, 7065, false), (12, 298, 12, 23, 7064, false), (12, 368, 12, 26, 7067, false), (12, 349, 12, 35, 7076, false), (12, 423, 12, 40, 7081, false),
  (12, 454, 12, 70, 7111, false), (12, 441, 12, 52, 7093, false), (12, 474, 12, 75, 7116, false), (12, 480, 12, 76, 7117, false), (12, 521, 12, 3, 7044, false),
  (12, 524, 12, 53, 7094, false), (12, 527, 12, 79, 7120, false), (12, 552, 12, 85, 7126, false), (12, 562, 12, 87, 7128, false), (12, 574, 12, 92, 7133, false),
  (12, 579, 12, 93, 7134, false), (12, 594, 12, 86, 7127, false), (12, 600, 12, 102, 7143, false), (12, 607, 12, 106, 7147, false)]
noncomputable def skl : List (Nat × Nat × Nat × Nat) := [
  (13, 9, 0, 10157), (13, 15, 1, 10158)]
noncomputable def mkl : List (Nat × Nat × Nat × Nat × Bool) := [
  (0, 29, 123, 1033, true), (0, 36, 134, 1063, true), (0, 43, 160, 1120, false), (0, 52, 100, 1137, true), (0, 59, 165, 1162, true),
  (0, 66, 79, 1197, true), (0, 73, 93, 1239, true), (0, 80, 178, 2035, true), (0, 87, 109, 2077, true), (0, 92, 3, 2168, false),
  (0, 96, 124, 2175, false), (0, 100, 125, 2191, false), (0, 103, 127, 2192, false), (0, 107, 128, 2200, false), (0, 111, 8, 2208, false),
  (0, 115, 101, 2216, false), (0, 119, 135, 2220, false), (0, 123, 154, 3136, false), (0, 127, 102, 3166, false), (0, 131, 103, 3175, false),
  (0, 134, 104, 3179, false), (0, 137, 107, 3208, false), (0, 140, 320, 3212, false), (0, 149, 108, 3224, false), (0, 152, 13, 4016, false),
  (0, 155, 14, 4020, false), (0, 158, 166, 4023, false), (0, 161, 70, 4029, false), (0, 164, 167, 4093, false), (0, 168, 168, 4102, false),
  (0, 181, 17, 4110, false), (0, 186, 169, 4114, false), (0, 196, 19, 4123, false), (0, 200, 71, 4144, false), (0, 203, 72, 4162, false),
  (0, 210, 81, 4166, false), (0, 244, 20, 4127, false), (0, 248, 170, 4149, false), (0, 255, 80, 4131, false), (0, 266, 75, 4135, false),
  (0, 214, 73, 4179, false), (0, 228, 74, 4188, false), (0, 231, 173, 4192, false), (0, 234, 174, 4196, false), (0, 238, 175, 4200, false),
  (0, 271, 129, 4214, false), (0, 274, 130, 4218, false), (0, 277, 172, 4223, false), (0, 280, 77, 4226, false), (0, 283, 82, 5066, false),
  (0, 287, 76, 5074, false), (0, 296, 28, 5079, false), (0, 309, 29, 5083, false), (0, 313, 176, 5106, false), (0, 316, 30, 5110, false),
  (0, 329, 126, 5087, false), (0, 332, 131, 5088, false), (0, 335, 155, 5093, false), (0, 339, 83, 5097, false), (0, 342, 156, 5102, false),
  (0, 345, 171, 5114, false), (0, 348, 31, 5115, false), (0, 352, 157, 5119, false), (0, 359, 158, 5123, false), (0, 364, 106, 5135, false),
  (0, 302, 177, 5143, false), (0, 306, 84, 5147, false), (0, 369, 94, 5156, false), (0, 373, 95, 5164, false), (0, 376, 98, 5180, false),
  (0, 381, 37, 5194, false), (0, 384, 179, 5197, false), (0, 388, 40, 5216, false), (0, 391, 181, 5219, false), (0, 395, 38, 5229, false),
  (0, 398, 182, 5230, false), (0, 402, 183, 6006, false), (0, 405, 184, 6014, false), (0, 409, 186, 6023, false), (0, 412, 188, 6041, false),
  (0, 415, 189, 6049, false), (0, 418, 191, 6063, false), (0, 421, 190, 6067, false), (0, 426, 110, 6073, false), (0, 429, 111, 6081, false),
  (0, 432, 113, 6090, false), (0, 436, 114, 6094, false), (0, 439, 115, 6098, false), (0, 443, 116, 6106, false), (0, 446, 117, 6110, false),
  (0, 449, 118, 6115, false), (0, 452, 119, 6121, false), (0, 455, 120, 6125, false), (0, 459, 121, 6133, false), (0, 462, 122, 6137, false),
  (0, 465, 85, 6145, false), (0, 469, 86, 6154, false), (0, 479, 87, 6166, false), (0, 482, 88, 6175, false), (0, 485, 89, 6180, false),
  (0, 491, 132, 6192, false), (0, 498, 58, 6201, false), (0, 508, 133, 6209, false), (0, 514, 90, 6218, false), (0, 520, 91, 6226, false),
  (0, 536, 92, 7002, false), (0, 539, 64, 7006, false), (0, 543, 65, 7010, false), (0, 550, 161, 7022, false), (0, 580, 192, 7031, false),
  (1, 58, 14, 4148, true), (2, 59, 76, 4139, false), (2, 63, 17, 4143, true), (2, 67, 75, 6174, false), (3, 47, 80, 4170, false),
  (3, 66, 75, 5101, false), (3, 70, 14, 6149, true), (3, 77, 78, 6170, false), (4, 44, 96, 5168, false), (4, 56, 97, 5172, false),
  (4, 48, 95, 5184, false), (4, 52, 99, 5185, false), (5, 31, 101, 3170, false), (5, 39, 161, 3183, false), (5, 43, 105, 3187, false),
  (5, 47, 106, 3191, false), (5, 51, 162, 3196, false), (5, 55, 164, 3204, false), (5, 35, 103, 3195, false), (5, 63, 321, 3230, false),
  (5, 68, 104, 3231, false), (5, 71, 326, 3232, false), (6, 50, 112, 6085, false), (6, 60, 116, 6114, false), (7, 32, 125, 2179, false),
  (7, 36, 126, 2183, false), (7, 40, 129, 4222, false), (7, 59, 320, 6196, false), (8, 47, 321, 1068, false), (8, 78, 136, 2224, false),
  (8, 82, 138, 2232, false), (8, 86, 145, 3097, false), (8, 138, 137, 2228, false), (8, 150, 139, 2237, false), (8, 119, 140, 3078, false),
  (8, 144, 141, 3081, false), (8, 154, 142, 3085, false), (8, 157, 146, 3102, false), (8, 141, 323, 3001, false), (8, 160, 143, 3089, false),
  (8, 164, 144, 3093, false), (8, 127, 147, 3106, false), (8, 168, 148, 3110, false), (8, 171, 149, 3114, false), (8, 174, 150, 3118, false),
  (8, 177, 151, 3122, false), (8, 183, 152, 3126, false), (8, 186, 153, 3130, false), (8, 101, 332, 3143, false), (8, 107, 333, 3157, false),
  (8, 110, 160, 3165, false), (8, 113, 161, 5127, false), (8, 115, 162, 5128, false), (8, 124, 163, 5129, false), (8, 131, 164, 5130, false),
  (8, 134, 159, 5131, false), (9, 22, 163, 3200, false), (10, 41, 166, 4097, false), (10, 51, 168, 4118, false), (10, 71, 171, 4153, false),
  (10, 64, 172, 4157, false), (10, 68, 14, 4161, true), (10, 61, 173, 4204, false), (11, 48, 37, 5201, true), (11, 62, 3, 5202, true),
  (11, 65, 17, 5203, true), (11, 69, 38, 5204, true), (11, 58, 180, 5207, false), (11, 52, 14, 5223, true), (11, 55, 40, 5224, true),
  (11, 74, 181, 5234, false), (11, 94, 182, 6018, false), (11, 90, 185, 6019, false), (11, 98, 187, 6027, false), (11, 102, 337, 6034, false),
  (11, 105, 334, 6031, false), (11, 111, 190, 6053, false), (11, 115, 320, 6057, false), (11, 120, 186, 6058, false), (12, 246, 195, 8129, false),
  (12, 262, 197, 8136, false), (12, 266, 199, 8144, false), (12, 275, 202, 8157, false), (12, 402, 204, 8166, false), (12, 406, 230, 9028, false),
  (12, 288, 205, 8170, false), (12, 394, 206, 8174, false), (12, 305, 207, 8178, false), (12, 301, 210, 8188, false), (12, 377, 208, 8182, false),
  (12, 380, 209, 8185, false), (12, 389, 211, 8192, false), (12, 332, 214, 8204, false), (12, 328, 212, 8196, false), (12, 371, 213, 8200, false),
  (12, 374, 228, 9019, false), (12, 325, 216, 8214, false), (12, 359, 217, 8218, false), (12, 362, 227, 9015, false), (12, 313, 215, 8208, false),
  (12, 353, 218, 8222, false), (12, 356, 220, 8230, false), (12, 336, 219, 8227, false), (12, 319, 221, 8234, false), (12, 322, 222, 8237, false),
  (12, 339, 223, 9000, false), (12, 316, 224, 9004, false), (12, 343, 225, 9008, false), (12, 346, 226, 9012, false), (12, 365, 229, 9023, false),
  (12, 412, 232, 9036, false), (12, 415, 234, 9044, false), (12, 409, 233, 9040, false), (12, 419, 236, 9052, false), (12, 426, 238, 9060, false),
  (12, 429, 239, 9064, false), (12, 433, 241, 9072, false), (12, 436, 243, 9080, false), (12, 461, 245, 9089, false), (12, 464, 246, 9093, false),
  (12, 450, 247, 9097, false), (12, 457, 250, 9109, false), (12, 444, 248, 9101, false), (12, 447, 249, 9105, false), (12, 469, 253, 9122, false),
  (12, 510, 257, 9139, false), (12, 515, 259, 9148, false), (12, 518, 261, 9156, false), (12, 507, 262, 9160, false), (12, 501, 263, 9164, false),
  (12, 504, 264, 9168, false), (12, 498, 265, 9172, false), (12, 495, 266, 9176, false), (12, 477, 270, 9191, false), (12, 488, 267, 9180, false),
  (12, 491, 269, 9187, false), (12, 484, 268, 9184, false), (12, 532, 274, 9208, false), (12, 535, 275, 9212, false), (12, 538, 276, 9216, false),
  (12, 541, 273, 9224, false), (12, 546, 279, 9230, false), (12, 549, 280, 9234, false), (12, 559, 283, 10008, false), (12, 565, 286, 10020, false),
  (12, 568, 289, 10032, false), (12, 571, 290, 10036, false), (12, 582, 294, 10052, false), (12, 585, 295, 10056, false), (12, 591, 297, 10064, false),
  (12, 597, 305, 10097, false), (12, 603, 310, 10117, false), (12, 610, 312, 10125, false), (12, 613, 314, 10133, false), (12, 616, 315, 10137, false),
  (13, 335, 322, 1072, false), (13, 633, 324, 3005, false), (13, 492, 325, 3009, false), (13, 505, 321, 3013, false), (13, 637, 327, 3014, false),
  (13, 495, 330, 3236, false), (13, 1059, 336, 4002, false), (14, 9, 1, 1025, false), (14, 12, 193, 7037, false), (14, 13, 2, 2164, false),
  (14, 17, 194, 8124, false), (14, 18, 4, 2171, false), (14, 22, 196, 8132, false), (14, 23, 5, 2187, false), (14, 27, 198, 8140, false),
  (14, 28, 6, 2196, false), (14, 31, 200, 8148, false), (14, 32, 7, 2204, false), (14, 36, 201, 8153, false), (14, 37, 9, 2212, false),
  (14, 41, 203, 8161, false), (14, 42, 10, 3171, false), (14, 45, 231, 9032, false), (14, 46, 11, 3218, false), (14, 49, 235, 9048, false),
  (14, 50, 12, 4012, false), (14, 53, 237, 9056, false), (14, 54, 15, 4098, false), (14, 57, 240, 9068, false), (14, 58, 16, 4106, false),
  (14, 61, 242, 9076, false), (14, 62, 18, 4119, false), (14, 66, 254, 9127, false), (14, 67, 21, 4171, false), (14, 70, 255, 9131, false),
  (14, 71, 22, 4175, false), (14, 75, 252, 9118, false), (14, 76, 23, 4184, false), (14, 80, 251, 9114, false), (14, 81, 24, 4205, false),
  (14, 85, 244, 9085, false), (14, 86, 25, 4210, false), (14, 90, 256, 9135, false), (14, 91, 26, 5070, false), (14, 94, 258, 9144, false),
  (14, 95, 27, 5075, false), (14, 98, 260, 9152, false), (14, 99, 32, 5139, false), (14, 102, 271, 9195, false), (14, 103, 33, 5151, false),
  (14, 107, 272, 9199, false), (14, 108, 34, 5160, false), (14, 111, 273, 9204, false), (14, 112, 35, 5176, false), (14, 116, 277, 9220, false),
  (14, 117, 36, 5190, false), (14, 120, 278, 9225, false), (14, 121, 39, 5212, false), (14, 125, 281, 9238, false), (14, 126, 41, 5225, false),
  (14, 129, 282, 10003, false), (14, 130, 42, 6002, false), (14, 133, 284, 10012, false), (14, 134, 43, 6010, false), (14, 138, 285, 10016, false),
  (14, 139, 44, 6037, false), (14, 142, 287, 10024, false), (14, 143, 45, 6045, false), (14, 146, 288, 10028, false), (14, 147, 46, 6059, false),
  (14, 150, 291, 10039, false), (14, 151, 47, 6069, false), (14, 154, 292, 10043, false), (14, 155, 48, 6077, false), (14, 159, 293, 10048, false),
  (14, 160, 49, 6102, false), (14, 163, 296, 10060, false), (14, 164, 50, 6129, false), (14, 167, 298, 10069, false), (14, 168, 51, 6141, false),
  (14, 171, 299, 10073, false), (14, 172, 52, 6150, false), (14, 175, 300, 10077, false), (14, 176, 53, 6158, false), (14, 179, 301, 10081, false),
  (14, 180, 54, 6162, false), (14, 183, 302, 10085, false), (14, 184, 55, 6184, false), (14, 187, 303, 10089, false), (14, 188, 56, 6188, false),
  (14, 192, 304, 10093, false), (14, 193, 57, 6197, false), (14, 196, 306, 10101, false), (14, 197, 59, 6205, false), (14, 200, 307, 10105, false),
  (14, 201, 60, 6214, false), (14, 204, 308, 10109, false), (14, 205, 61, 6222, false), (14, 208, 309, 10113, false), (14, 209, 62, 6230, false),
  (14, 212, 311, 10121, false), (14, 213, 63, 6236, false), (14, 216, 313, 10129, false), (14, 217, 66, 7014, false), (14, 220, 316, 10141, false),
  (14, 221, 67, 7018, false), (14, 224, 317, 10145, false), (14, 225, 68, 7023, false), (14, 228, 318, 10149, false), (14, 229, 69, 7027, false),
  (14, 232, 319, 10153, false), (17, 88, 328, 3017, false), (17, 95, 329, 3026, false), (17, 9, 331, 3239, false)]
/-- where a class's links begin -/
noncomputable def fkS : List Nat := [
  0, 55, 69, 84, 102, 111, 116, 128, 138, 156, 159, 171, 182, 289, 289, 289, 289, 289, 289, 289]
noncomputable def mkS : List Nat := [
  0, 110, 111, 114, 118, 122, 132, 134, 138, 166, 167, 173, 189, 265, 272, 379, 379, 376, 379, 379]
noncomputable def xkl : List (Nat × Nat × Nat × Nat) := [
  (0, 324, 9990, 5138), (0, 525, 9993, 6235), (6, 54, 9991, 6089), (7, 43, 9990, 5092), (8, 90, 9991, 3140),
  (8, 96, 9990, 3141), (11, 78, 9990, 5235), (11, 84, 9993, 5236), (11, 88, 9992, 5239), (17, 92, 9990, 3020),
  (17, 38, 9991, 3023), (18, 310, 9998, 3146), (18, 304, 9991, 3153), (18, 150, 9997, 3154), (18, 316, 9998, 3160)]
noncomputable def cln : List (Nat × Nat × Nat × Nat) := [(18, 310, 0, 3146), (18, 316, 2, 3160)]
noncomputable def pnl : List (List Nat) := [
  [1, 0, 1, 1, 1, 2, 2, 5, 1, 3, 2, 2, 5, 1, 1, 3, 2, 1, 2, 3],
  [2, 1, 3, 4, 2, 6, 2, 1, 1, 1, 3, 3, 1, 4, 1, 1, 2, 1, 1, 3],
  [1, 3, 2, 0, 4, 0, 1, 2, 2, 1, 2, 3, 2, 2, 2, 1, 2, 1, 1, 1],
  [2, 3, 1, 2, 3, 1, 2, 2, 1, 1, 7, 1, 2, 1, 0, 1, 0, 6, 1, 0],
  [1, 2, 1, 2, 3, 3, 2, 1, 1, 1, 3, 2, 1, 0, 3, 1, 5, 2, 1, 3],
  [0, 0, 3, 1, 1, 1, 1, 1, 2, 0, 2, 1, 1, 0, 0, 2, 1, 1, 2, 1],
  [3, 1, 1, 0, 1, 1, 1, 2, 2, 1, 1, 1, 1, 1, 0, 3, 3, 0, 1, 1],
  [1, 2, 1, 1, 0, 1, 1, 2, 2, 2, 1, 2, 2, 2, 0, 3, 2, 1, 2, 3],
  [3, 0, 1, 1, 1, 0, 0, 1, 1, 1, 2, 2, 1, 0, 2, 4, 1, 3, 0, 3],
  [3, 3, 4, 3, 2, 2, 2, 2, 4, 1, 1, 1, 1, 0, 1, 3, 1, 1, 2, 2],
  [2, 5, 1, 3, 2, 0, 0, 0, 1, 1, 2, 0, 0, 0, 1, 0, 2, 0, 0, 1],
  [0, 1, 1, 1, 0, 0, 1, 0, 0, 1, 1, 2, 1, 2, 3, 2, 2, 5, 1, 4],
  [3, 1, 2, 0, 2, 2, 2, 3, 2, 1, 2, 4, 3, 1, 2, 1, 6, 1, 2, 1],
  [1, 1, 2, 2, 1, 1, 1, 2, 3, 1, 1, 1, 4, 1, 1, 1, 1, 1, 2, 0],
  [3, 3, 3, 3, 2, 0, 1, 4, 0, 1, 1, 1, 2, 2, 0, 0, 1, 2, 2, 3],
  [2, 2, 2, 1, 2, 1, 1, 1, 2, 3, 4, 1, 2, 2, 2, 1, 2, 2, 1, 1],
  [1, 0, 0, 1, 2, 0, 1, 4, 1, 4, 2, 2, 2, 2, 2, 4, 3, 2]]
noncomputable def pn (m : Nat) : Nat := g2 pnl 0 m
noncomputable def obl : List (Nat × Nat × Nat) := [
  (0, 1, 1028), (1, 3, 4032), (2, 3, 4229), (3, 3, 1200), (4, 3, 2002), (5, 3, 1140),
  (6, 3, 2080), (7, 3, 1036), (8, 3, 1066), (9, 3, 1123), (10, 3, 1165), (11, 3, 2038),
  (12, 1, 7040)]
noncomputable def ckl : List (Nat × Nat × Nat × Nat) := [
  (14, 7, 0, 1023), (14, 10, 12, 7035), (0, 27, 7, 1031), (0, 34, 8, 1061), (0, 41, 9, 1118), (0, 50, 5, 1135),
  (0, 57, 10, 1160), (0, 64, 3, 1195), (0, 71, 4, 1237), (0, 78, 11, 2033), (0, 85, 6, 2075), (0, 159, 1, 4027),
  (0, 259, 2, 4224), (8, 99, 9, 3142)]
noncomputable def akl : List (Nat × Nat × Nat × Nat) := [
  (3, 9, 2, 1201), (5, 9, 9, 1141), (10, 9, 1, 1166)]
noncomputable def kkl : List (Nat × Nat × Nat × Nat) := [
  (18, 311, 0, 3152), (18, 317, 2, 3164)]
noncomputable def lkl : List (Nat × Nat × Int × Nat) := [
  (0, 184, 1000, 4113), (0, 220, 100, 4183), (0, 242, (-1000000000000), 4209), (0, 379, (-1), 5189), (0, 424, (-2), 6068), (0, 523, 1000000000, 6234),
  (0, 529, 3, 7000), (0, 531, 4, 7001), (3, 83, (-1), 6179), (4, 39, (-1), 2003), (6, 64, (-1), 6119), (6, 66, 3600000, 6120),
  (7, 49, (-1), 6213), (11, 72, 1000000000, 5211), (12, 254, 3599, 8128), (12, 270, 9, 8152), (12, 400, 200, 8165), (12, 392, 49, 9027),
  (12, 311, 57, 8213), (12, 309, 48, 8212), (12, 244, 1000000000, 9063), (12, 439, 1000, 9084), (12, 467, (-1000000000000), 9113), (12, 472, 100, 9126),
  (12, 513, (-1), 9143), (12, 530, 1000000, 9203), (12, 544, 5, 9229), (12, 555, 51, 10002), (12, 557, 2, 10007), (12, 577, 9999, 10047),
  (12, 589, 3600000, 10068)]
noncomputable def ikl : List (Nat × Nat × Int × Nat) := [
  (0, 583, 1000000000, 4019), (0, 368, 1000000, 5155), (8, 163, 999999, 3101), (12, 331, 999999, 8226), (16, 265, 1431655765, 3215), (16, 266, 858993459, 3216),
  (16, 267, 252645135, 3217)]
noncomputable def gkl : List (Nat × Nat × Nat × Nat × Bool) := [
  (0, 145, 1, 3222, false), (0, 320, 0, 5136, false), (5, 58, 1, 3228, true), (13, 38, 2, 1076, false), (13, 1053, 3, 3047, false)]
noncomputable def svl : List (String × String × String) := [("SupplyBook", "ASKED_KINDS", "[I"), ("SupplyBook", "USUAL_NUMBERS", "[I"), ("java/lang/String", "COMPACT_STRINGS", "Z"), ("jdk/internal/util/Preconditions", "SIOOBE_FORMATTER", "Ljava/util/function/BiFunction;")]
noncomputable def stl : List (Nat × Nat × String) := [(8, 45, "ayhkrql"), (8, 148, "mcbedx"), (8, 181, "<>="), (8, 189, "*/%"), (5, 61, "mcbed")]
end
