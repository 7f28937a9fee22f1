/-! A method's run: from cut to cut, any number of times; calls a level deeper. -/
noncomputable def Lin (F : KT → Rs) : Prop := ∀ k r, F k = some r → ∃ a b c, k a b c = some r ∧ ∀ k' : KT, k' a b c = some r → F k' = some r
theorem Lin.ap (a : LV) (b : List TV) (c : AH) : Lin (fun k => k a b c) := fun _ _ h => ⟨a, b, c, h, fun _ q => q⟩
theorem Lin.no : Lin (fun _ => none) := fun _ _ h => nomatch h
theorem Lin.gd {b : Bool} {F : KT → Rs} (h : Lin F) : Lin (fun k => gd b (F k)) := by
  cases b
  · exact Lin.no
  · exact h
theorem Lin.it {c : Prop} [Decidable c] {F G : KT → Rs} (hF : Lin F) (hG : Lin G) : Lin (fun k => if c then F k else G k) := by
  by_cases hc : c
  · simp only [if_pos hc]; exact hF
  · simp only [if_neg hc]; exact hG
theorem Lin.ck {c : Nat} {v : Int} {F : KT → Rs} (hF : Lin F) : Lin (fun k => ckZ c v (F k)) := by
  unfold ckZ
  split
  · exact Lin.it hF Lin.no
  · exact Lin.it hF Lin.no
  · exact Lin.it hF Lin.no
  · exact hF
theorem setK_eq : ∀ (ls : LV) (i : Nat) (v : Option TV) (k : LV → Rs), setK ls i v k = if i < ls.length then k (ls.set i v) else none := by
  intro ls
  induction ls with
  | nil => intro i v k; simp [setK]
  | cons a r ih =>
    intro i v k
    cases i with
    | zero => simp [setK]
    | succ i => simp [setK, ih]
theorem lin_setK {ls : LV} {i : Nat} {v : Option TV} {F : LV → KT → Rs} (h : ∀ q, Lin (F q)) : Lin (fun k => setK ls i v (fun q => F q k)) := by
  simp only [setK_eq]
  exact Lin.it (h _) Lin.no
theorem lin_st1 {ls : LV} {i : Nat} {v : TV} {F : LV → KT → Rs} (h : ∀ q, Lin (F q)) : Lin (fun k => st1 ls i v (fun q => F q k)) := by
  unfold st1
  split
  · exact lin_setK h
  · split
    · exact lin_setK fun q => lin_setK h
    · exact lin_setK h
theorem lin_st2 {ls : LV} {i : Nat} {v : TV} {F : LV → KT → Rs} (h : ∀ q, Lin (F q)) : Lin (fun k => st2 ls i v (fun q => F q k)) := lin_st1 fun q => lin_setK h
theorem lin_loadI {ls : LV} {i : Nat} {st : List TV} {S : AH} : Lin (loadI ls i st S) := by
  unfold loadI
  split
  · exact Lin.ap _ _ _
  · exact Lin.no
theorem lin_loadL {ls : LV} {i : Nat} {st : List TV} {S : AH} : Lin (loadL ls i st S) := by
  unfold loadL
  split
  · exact Lin.ap _ _ _
  · exact Lin.no
theorem lin_loadA {ls : LV} {i : Nat} {st : List TV} {S : AH} : Lin (loadA ls i st S) := by
  unfold loadA
  split
  · exact Lin.ap _ _ _
  · exact Lin.no
theorem lin_stoI {ls : LV} {i : Nat} {st : List TV} {S : AH} : Lin (stoI ls i st S) := by
  unfold stoI
  split
  · exact lin_st1 fun q => Lin.ap _ _ _
  · exact Lin.no
theorem lin_stoL {ls : LV} {i : Nat} {st : List TV} {S : AH} : Lin (stoL ls i st S) := by
  unfold stoL
  split
  · exact lin_st2 fun q => Lin.ap _ _ _
  · exact Lin.no
theorem lin_stoA {ls : LV} {i : Nat} {st : List TV} {S : AH} : Lin (stoA ls i st S) := by
  unfold stoA
  split
  · exact lin_st1 fun q => Lin.ap _ _ _
  · exact Lin.no
theorem lin_bin {f : Int → Int → Int} {ls : LV} {st : List TV} {S : AH} : Lin (bin f ls st S) := by
  unfold bin
  split
  · exact Lin.ap _ _ _
  · exact Lin.no
theorem lin_binL {f : Int → Int → Int} {ls : LV} {st : List TV} {S : AH} : Lin (binL f ls st S) := by
  unfold binL
  split
  · exact Lin.ap _ _ _
  · exact Lin.no
theorem lin_shL {f : Int → Int → Int} {ls : LV} {st : List TV} {S : AH} : Lin (shL f ls st S) := by
  unfold shL
  split
  · exact Lin.ap _ _ _
  · exact Lin.no
theorem lin_una {f : Int → Int} {ls : LV} {st : List TV} {S : AH} : Lin (una f ls st S) := by
  unfold una
  split
  · exact Lin.ap _ _ _
  · exact Lin.no
theorem lin_dvI {f : Int → Int → Int} {ls : LV} {st : List TV} {S : AH} : Lin (dvI f ls st S) := by
  unfold dvI
  split
  · exact Lin.it Lin.no (Lin.ap _ _ _)
  · exact Lin.no
theorem lin_dvL {f : Int → Int → Int} {ls : LV} {st : List TV} {S : AH} : Lin (dvL f ls st S) := by
  unfold dvL
  split
  · exact Lin.it Lin.no (Lin.ap _ _ _)
  · exact Lin.no
theorem lin_ald {w : WC} {t : Nat} {ls : LV} {st : List TV} {S : AH} : Lin (ald w t ls st S) := by
  unfold ald
  split
  · exact Lin.gd (Lin.it (Lin.ap _ _ _) Lin.no)
  · exact Lin.no
theorem lin_aldB {w : WC} {ls : LV} {st : List TV} {S : AH} : Lin (aldB w ls st S) := by
  unfold aldB
  split
  · exact Lin.gd (Lin.it (Lin.ap _ _ _) Lin.no)
  · exact Lin.no
theorem lin_aldA {w : WC} {ls : LV} {st : List TV} {S : AH} : Lin (aldA w ls st S) := by
  unfold aldA
  split
  · exact Lin.gd (Lin.it (Lin.ap _ _ _) Lin.no)
  · exact Lin.no
theorem lin_astI {w : WC} {ls : LV} {st : List TV} {S : AH} : Lin (astI w ls st S) := by
  unfold astI
  split
  · exact Lin.gd (Lin.it (Lin.ap _ _ _) Lin.no)
  · exact Lin.no
theorem lin_astL {w : WC} {ls : LV} {st : List TV} {S : AH} : Lin (astL w ls st S) := by
  unfold astL
  split
  · exact Lin.gd (Lin.it (Lin.ap _ _ _) Lin.no)
  · exact Lin.no
theorem lin_astA {w : WC} {ls : LV} {st : List TV} {S : AH} : Lin (astA w ls st S) := by
  unfold astA
  split
  · exact Lin.gd (Lin.it (Lin.ap _ _ _) Lin.no)
  · exact Lin.no
theorem lin_astB {w : WC} {ls : LV} {st : List TV} {S : AH} : Lin (astB w ls st S) := by
  unfold astB
  split
  · refine Lin.gd (Lin.it ?_ Lin.no)
    split
    · exact Lin.ap _ _ _
    · exact Lin.it (Lin.ap _ _ _) Lin.no
  · exact Lin.no
theorem lin_getF {w : WC} {x : XI} {ls : LV} {st : List TV} {S : AH} : Lin (getF w x ls st S) := by
  unfold getF
  split
  · exact Lin.gd (Lin.ap _ _ _)
  · exact Lin.no
theorem lin_putF {w : WC} {x : XI} {ls : LV} {st : List TV} {S : AH} : Lin (putF w x ls st S) := by
  unfold putF
  split
  · exact Lin.gd (Lin.ap _ _ _)
  · exact Lin.gd (Lin.ap _ _ _)
  · exact Lin.gd (Lin.gd (Lin.ck (Lin.ap _ _ _)))
  · exact Lin.no
theorem lin_alen {w : WC} {ls : LV} {st : List TV} {S : AH} : Lin (alen w ls st S) := by
  unfold alen
  split
  · exact Lin.gd (Lin.ap _ _ _)
  · exact Lin.no
theorem lin_newA {t : Nat} {ls : LV} {st : List TV} {S : AH} : Lin (newA t ls st S) := by
  unfold newA
  split
  · exact Lin.it (Lin.ap _ _ _) Lin.no
  · exact Lin.no
set_option maxHeartbeats 4000000 in
theorem lin_step {w : WC} {i : Instr} {x : XI} {ls : LV} {st : List TV} {S : AH} : Lin (step w i x ls st S) := by
  unfold step
  split
  all_goals first
    | exact Lin.ap _ _ _
    | exact lin_loadI
    | exact lin_loadL
    | exact lin_loadA
    | exact lin_stoI
    | exact lin_stoL
    | exact lin_stoA
    | exact lin_bin
    | exact lin_binL
    | exact lin_shL
    | exact lin_una
    | exact lin_dvI
    | exact lin_dvL
    | exact lin_ald
    | exact lin_aldB
    | exact lin_aldA
    | exact lin_astI
    | exact lin_astL
    | exact lin_astB
    | exact lin_astA
    | exact lin_getF
    | exact lin_putF
    | exact lin_alen
    | exact Lin.gd lin_newA
    | exact lin_newA
    | exact Lin.no
    | (split
       all_goals first
         | exact Lin.ap _ _ _
         | exact Lin.no
         | exact Lin.gd (Lin.ap _ _ _)
         | exact lin_st1 fun q => Lin.ap _ _ _)
noncomputable def Lin2 (F : RT → Rs) : Prop := ∀ k r, F k = some r → (∀ k', F k' = some r) ∨ ∃ z a b c, k z a b c = some r ∧ ∀ k' : RT, k' z a b c = some r → F k' = some r
theorem Lin2.ap (z : List CE) (a : LV) (b : List TV) (c : AH) : Lin2 (fun k => k z a b c) := fun _ _ h => Or.inr ⟨z, a, b, c, h, fun _ q => q⟩
theorem Lin2.cn (o : Rs) : Lin2 (fun _ => o) := fun _ _ h => Or.inl fun _ => h
theorem Lin2.gd {b : Bool} {F : RT → Rs} (h : Lin2 F) : Lin2 (fun k => gd b (F k)) := by
  cases b
  · exact Lin2.cn none
  · exact h
theorem Lin2.it {c : Prop} [Decidable c] {F G : RT → Rs} (hF : Lin2 F) (hG : Lin2 G) : Lin2 (fun k => if c then F k else G k) := by
  by_cases hc : c
  · simp only [if_pos hc]; exact hF
  · simp only [if_neg hc]; exact hG
theorem Lin2.bf {c : Jvm.ClassFile.Cond} {x y : Int} {F G : RT → Rs} (hF : Lin2 F) (hG : Lin2 G) : Lin2 (fun k => bIf c x y (F k) (G k)) := by
  unfold bIf
  cases c
  · exact Lin2.it hF hG
  · exact Lin2.it hG hF
  · exact Lin2.it hF hG
  · exact Lin2.it hG hF
  · exact Lin2.it hF hG
  · exact Lin2.it hG hF
theorem Lin2.sw {x : Int} {F : RT → Rs} {G : Int → RT → Rs} (hF : Lin2 F) (hG : ∀ o, Lin2 (G o)) : ∀ (offs : List Int) (k : Int), Lin2 (fun q => swt x k offs (F q) (fun o => G o q)) := by
  intro offs
  induction offs with
  | nil => intro k; unfold swt; exact hF
  | cons o r ih => intro k; unfold swt; exact Lin2.it (hG o) (ih _)
theorem Lin2.sl {x : Int} {F : RT → Rs} {G : Int → RT → Rs} (hF : Lin2 F) (hG : ∀ o, Lin2 (G o)) : ∀ (ps : List (Int × Int)), Lin2 (fun q => swl x ps (F q) (fun o => G o q)) := by
  intro ps
  induction ps with
  | nil => unfold swl; exact hF
  | cons o r ih => unfold swl; exact Lin2.it (hG o.2) ih
theorem Lin2.bd {o : Rs} {F : Int → AH → RT → Rs} (hF : ∀ v S, Lin2 (F v S)) : Lin2 (fun k => bindR o (fun v S => F v S k)) := by
  unfold bindR
  split
  · exact hF _ _
  · exact Lin2.cn none
theorem Lin2.of {F : KT → Rs} (h : Lin F) (cs : List CE) : Lin2 (fun k => F (fun a b c => k cs a b c)) := by
  intro k r q
  obtain ⟨a, b, c, h1, h2⟩ := h _ _ q
  exact Or.inr ⟨cs, a, b, c, h1, fun k' q' => h2 _ q'⟩
theorem Lin2.cp {w : WC} {st : List TV} {S : AH} {cs : List CE} {ls : LV} : Lin2 (fun k => copyA w st S (fun r S' => k cs ls r S')) := by
  unfold copyA
  split
  · exact Lin2.gd (Lin2.it (Lin2.ap _ _ _ _) (Lin2.cn none))
  · exact Lin2.cn none
theorem Lin2.ir {w : WC} {m : Nat} {st : List TV} {S : AH} {cs : List CE} {ls : LV} : Lin2 (fun k => intr w m st S (fun r S' => k cs ls r S')) := by
  unfold intr
  split
  · exact Lin2.cp
  · split
    · exact Lin2.ap _ _ _ _
    · exact Lin2.cn none
  · split
    · exact Lin2.ap _ _ _ _
    · exact Lin2.cn none
  · split
    · exact Lin2.ap _ _ _ _
    · exact Lin2.cn none
  · split
    · exact Lin2.ap _ _ _ _
    · exact Lin2.cn none
  · exact Lin2.cn none
set_option maxHeartbeats 4000000 in
theorem lin_ctl {w : WC} {C : Nat → List TV → AH → Rs} {cs0 : List CE} {rt pc : Nat} {i : Instr} {x : XI} {cs : List CE} {ls : LV} {st : List TV} {S : AH} : Lin2 (ctl w C cs0 rt pc i x cs ls st S) := by
  unfold ctl
  split
  · exact Lin2.ap _ _ _ _
  · split
    · exact Lin2.bf (Lin2.ap _ _ _ _) (Lin2.ap _ _ _ _)
    · exact Lin2.cn none
  · split
    · exact Lin2.bf (Lin2.ap _ _ _ _) (Lin2.ap _ _ _ _)
    · exact Lin2.cn none
  · split
    · exact Lin2.it (Lin2.ap _ _ _ _) (Lin2.gd (Lin2.ap _ _ _ _))
    · exact Lin2.cn none
  · split
    · exact Lin2.it (Lin2.ap _ _ _ _) (Lin2.gd (Lin2.ap _ _ _ _))
    · exact Lin2.cn none
  · split
    · exact Lin2.sw (Lin2.ap _ _ _ _) (fun o => Lin2.ap _ _ _ _) _ _
    · exact Lin2.cn none
  · split
    · exact Lin2.sl (Lin2.ap _ _ _ _) (fun o => Lin2.ap _ _ _ _) _
    · exact Lin2.cn none
  · split
    · exact Lin2.cn _
    · exact Lin2.cn none
  · split
    · exact Lin2.cn _
    · exact Lin2.cn none
  · split
    · exact Lin2.cn _
    · exact Lin2.cn none
  · split
    · exact Lin2.cn _
    · exact Lin2.cn none
  · split
    · exact Lin2.gd Lin2.ir
    · split
      · exact Lin2.gd (Lin2.bd (fun v S => Lin2.ap _ _ _ _))
      · exact Lin2.cn none
  · split
    · split
      · exact Lin2.gd (Lin2.ap _ _ _ _)
      · exact Lin2.cn none
    · split
      · exact Lin2.gd (Lin2.bd (fun v S => Lin2.ap _ _ _ _))
      · exact Lin2.cn none
  · split
    · split
      · exact Lin2.gd (Lin2.ap _ _ _ _)
      · exact Lin2.cn none
    · split
      · exact Lin2.gd (Lin2.bd (fun v S => Lin2.ap _ _ _ _))
      · exact Lin2.cn none
  · exact Lin2.of lin_step _
abbrev CT : Type := Nat → List TV → AH → Rs
abbrev KP : Type := Nat → LV → List TV → AH → Rs
/-- a path through 'go' meets K once at most -/
theorem go_lin {w : WC} {C : CT} {cs0 : List CE} {rt : Nat} : ∀ (n : Nat) (first : Bool) (cs : List CE) (ls : LV) (st : List TV) (S : AH) (K : KP) (r : Int × AH), go w C K cs0 rt n first cs ls st S = some r →
    (∀ K', go w C K' cs0 rt n first cs ls st S = some r) ∨ ∃ pc a b c, K pc a b c = some r ∧ ∀ K' : KP, K' pc a b c = some r → go w C K' cs0 rt n first cs ls st S = some r := by
  intro n
  induction n with
  | zero => intro first cs ls st S K r h; cases h
  | succ n ih =>
    intro first cs ls st S K r h
    match cs, h with
    | [], h => cases h
    | (pc, ck, i, x) :: cs, h =>
      unfold go at h ⊢
      dsimp only at h ⊢
      cases hc : (Nat.blt 0 ck && !first) with
      | true =>
        rw [hc] at h
        exact Or.inr ⟨pc, _, st, S, h, fun K' q => q⟩
      | false =>
        rw [hc] at h
        dsimp only at h ⊢
        rcases lin_ctl _ _ h with h1 | ⟨z, a, b, c, h1, h2⟩
        · exact Or.inl fun K' => h1 _
        · rcases ih false z a b c K r h1 with h3 | ⟨pc', a', b', c', h3, h4⟩
          · exact Or.inl fun K' => h2 _ (h3 K')
          · exact Or.inr ⟨pc', a', b', c', h3, fun K' q => h2 _ (h4 K' q)⟩
theorem go_mono {w : WC} {C : CT} {cs0 : List CE} {rt n : Nat} {first : Bool} {cs : List CE} {ls : LV} {st : List TV} {S : AH} {K K' : KP} {r : Int × AH} (hK : ∀ pc a b c, K pc a b c = some r → K' pc a b c = some r) (h : go w C K cs0 rt n first cs ls st S = some r) : go w C K' cs0 rt n first cs ls st S = some r := by
  rcases go_lin _ _ _ _ _ _ _ _ h with h1 | ⟨pc, a, b, c, h1, h2⟩
  · exact h1 K'
  · exact h2 K' (hK _ _ _ _ h1)
/-- n hops from cut to cut -/
noncomputable def lpn (w : WC) (C : CT) (m : Nat) : Nat → KP
  | 0 => fun _ _ _ _ => none
  | n + 1 => fun pc ls st S => go w C (lpn w C m n) (csOf m) (rtOf m) 4000 true (cde (csOf m) pc) ls st S
theorem lpn_up {w : WC} {C : CT} {m : Nat} : ∀ (n : Nat) (pc : Nat) (ls : LV) (st : List TV) (S : AH) (r : Int × AH), lpn w C m n pc ls st S = some r → lpn w C m (n + 1) pc ls st S = some r := by
  intro n
  induction n with
  | zero => intro pc ls st S r h; cases h
  | succ n ih => intro pc ls st S r h; exact go_mono (fun pc a b c q => ih pc a b c r q) h
theorem lpn_le {w : WC} {C : CT} {m n n' : Nat} (hn : n ≤ n') {pc : Nat} {ls : LV} {st : List TV} {S : AH} {r : Int × AH} (h : lpn w C m n pc ls st S = some r) : lpn w C m n' pc ls st S = some r := by
  induction hn with
  | refl => exact h
  | step _ ih => exact lpn_up _ _ _ _ _ _ ih
noncomputable def LQ (w : WC) (C : CT) (m : Nat) : KP := fun pc ls st S =>
  haveI := Classical.propDecidable (∃ q : Nat × (Int × AH), lpn w C m q.1 pc ls st S = some q.2)
  if h : ∃ q : Nat × (Int × AH), lpn w C m q.1 pc ls st S = some q.2 then some (Classical.choose h).2 else none
theorem LQ_iff {w : WC} {C : CT} {m pc : Nat} {ls : LV} {st : List TV} {S : AH} {r : Int × AH} : LQ w C m pc ls st S = some r ↔ ∃ n, lpn w C m n pc ls st S = some r := by
  unfold LQ
  constructor
  · intro h
    split at h
    · rename_i q
      cases h
      exact ⟨_, Classical.choose_spec q⟩
    · cases h
  · rintro ⟨n, h⟩
    have q : ∃ q : Nat × (Int × AH), lpn w C m q.1 pc ls st S = some q.2 := ⟨(n, r), h⟩
    rw [dif_pos q]
    have h1 := lpn_le (Nat.le_max_left n (Classical.choose q).1) h
    have h2 := lpn_le (Nat.le_max_right n (Classical.choose q).1) (Classical.choose_spec q)
    rw [h1] at h2
    exact h2.symm
theorem LQ_eq (w : WC) (C : CT) (m pc : Nat) (ls : LV) (st : List TV) (S : AH) : LQ w C m pc ls st S = go w C (LQ w C m) (csOf m) (rtOf m) 4000 true (cde (csOf m) pc) ls st S := by
  have key : ∀ r, LQ w C m pc ls st S = some r ↔ go w C (LQ w C m) (csOf m) (rtOf m) 4000 true (cde (csOf m) pc) ls st S = some r := by
    intro r
    constructor
    · intro h
      obtain ⟨n, h⟩ := LQ_iff.mp h
      match n, h with
      | 0, h => cases h
      | n + 1, h => exact go_mono (fun pc a b c q => LQ_iff.mpr ⟨n, q⟩) h
    · intro h
      rcases go_lin _ _ _ _ _ _ _ _ h with h1 | ⟨pc', a, b, c, h1, h2⟩
      · exact LQ_iff.mpr ⟨1, h1 _⟩
      · obtain ⟨n, h1⟩ := LQ_iff.mp h1
        exact LQ_iff.mpr ⟨n + 1, h2 _ h1⟩
  cases h : LQ w C m pc ls st S with
  | some r => exact ((key r).mp h).symm
  | none =>
    cases h2 : go w C (LQ w C m) (csOf m) (rtOf m) 4000 true (cde (csOf m) pc) ls st S with
    | none => rfl
    | some r => rw [(key r).mpr h2] at h; cases h
/-- the locals at a method's entry -/
noncomputable def spr (as : List TV) : LV := match as with
  | [] => []
  | .inr (.inl x) :: r => some (vl x) :: none :: spr r
  | v :: r => some v :: spr r
noncomputable def ent (n : Nat) (as : List TV) : LV := spr as ++ List.replicate (n - (spr as).length) none
/-- method m at calls' depth d -/
noncomputable def ev (w : WC) : Nat → CT
  | 0 => fun _ _ _ => none
  | d + 1 => fun m as S => gd (Nat.ble (spr as).length (mlOf m)) (LQ w (ev w d) m 0 (ent (mlOf m) as) [] S)
theorem ev_eq (w : WC) (d m : Nat) (as : List TV) (S : AH) : ev w (d + 1) m as S = gd (Nat.ble (spr as).length (mlOf m)) (go w (ev w d) (LQ w (ev w d) m) (csOf m) (rtOf m) 4000 true (cde (csOf m) 0) (ent (mlOf m) as) [] S) := by
  rw [← LQ_eq]
  rfl
