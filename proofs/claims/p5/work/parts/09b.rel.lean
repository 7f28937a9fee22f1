/-! what stands for what: G holds the first own address, the addresses of the cells from outside, the formatter's value, class numbers, slots, array classes, the script -/
/-- where an own cell lies: its place in the order in which the cells were made -/
abbrev PM : Type := {q : Nat → Nat // (∀ a, 15 ≤ a → 15 ≤ q a) ∧ ∀ a b, q a = q b → a = b}
abbrev GE : Type := Nat × (Nat → Nat) × Value × (Nat → ClassId) × (Nat → Nat → Nat) × (Nat → ClassId) × Nat × (Nat → Int32) × PM
noncomputable def gb (G : GE) : Nat := G.1
noncomputable def gE (G : GE) : Nat → Nat := G.2.1
noncomputable def gV (G : GE) : Value := G.2.2.1
noncomputable def gC (G : GE) : Nat → ClassId := G.2.2.2.1
noncomputable def gS (G : GE) : Nat → Nat → Nat := G.2.2.2.2.1
noncomputable def gA (G : GE) : Nat → ClassId := G.2.2.2.2.2.1
noncomputable def gL (G : GE) : Nat := G.2.2.2.2.2.2.1
noncomputable def gX (G : GE) : Nat → Int32 := G.2.2.2.2.2.2.2.1
noncomputable def gp (G : GE) : Nat → Nat := G.2.2.2.2.2.2.2.2.val
theorem gp_ge {G : GE} {a : Nat} (h : 15 ≤ a) : 15 ≤ gp G a := G.2.2.2.2.2.2.2.2.property.1 a h
theorem gp_in {G : GE} {a b : Nat} (h : gp G a = gp G b) : a = b := G.2.2.2.2.2.2.2.2.property.2 a b h
noncomputable def gad (G : GE) (a : Nat) : Nat := if a < 15 then gE G a else gb G + (gp G a - 15)
noncomputable def rf (G : GE) (a : Nat) : Value := if a = 0 then .null else if a = 14 then gV G else .ref (gad G a)
noncomputable def rep (G : GE) (v : TV) : Value := match v with
  | .inl x => .int (Int32.ofInt x)
  | .inr (.inl x) => .long (Int64.ofInt x)
  | .inr (.inr a) => rf G a
noncomputable def okv (v : TV) : Prop := match v with
  | .inl x => r32 x
  | .inr (.inl x) => r64 x
  | .inr (.inr _) => True
noncomputable def okc (c : Nat) (x : Int) : Prop := match c with
  | 1 => r64 x
  | 2 => 0 ≤ x
  | 3 => -128 ≤ x ∧ x ≤ 127
  | 4 => x = 0 ∨ x = 1
  | 5 => 0 ≤ x ∧ x ≤ 65535
  | _ => r32 x
/-- the formatter's value is null or an address -/
noncomputable def gVok (G : GE) : Prop := gV G = .null ∨ ∃ t, gV G = .ref t
theorem rf_cases {G : GE} (h : gVok G) (a : Nat) : rf G a = .null ∨ ∃ t, rf G a = .ref t := by
  unfold rf
  split
  · exact Or.inl rfl
  · split
    · exact h
    · exact Or.inr ⟨_, rfl⟩
theorem rf_ref {G : GE} {a : Nat} (h0 : a ≠ 0) (h1 : a ≠ 14) : rf G a = .ref (gad G a) := by
  unfold rf
  rw [if_neg h0, if_neg h1]
theorem rep_cat {G : GE} (h : gVok G) (v : TV) : (rep G v).category = cat v := by
  match v with
  | .inl x => rfl
  | .inr (.inl x) => rfl
  | .inr (.inr a) =>
    show (rf G a).category = 1
    rcases rf_cases h a with q | ⟨t, q⟩ <;> rw [q] <;> rfl
theorem okc_r {c : Nat} {x : Int} (h : okc c x) (h1 : c ≠ 1) (h2 : c ≠ 2) : r32 x := by
  unfold okc at h
  split at h
  · exact absurd rfl h1
  · exact absurd rfl h2
  · unfold r32; omega
  · unfold r32; omega
  · unfold r32; omega
  · exact h
theorem okv_mkv {c : Nat} {x : Int} (h : okc c x) : okv (mkv c x) := by
  unfold mkv
  split
  · exact h
  · exact trivial
  · rename_i h1 h2
    exact okc_r h h1 h2
theorem mkv_i {c : Nat} {x : Int} (h1 : c ≠ 1) (h2 : c ≠ 2) : mkv c x = vi x := by
  unfold mkv
  split
  · exact absurd rfl h1
  · exact absurd rfl h2
  · rfl
/-! locals -/
noncomputable def LR (G : GE) (ls : LV) (lsC : Array Slot) (n : Nat) : Prop := ls.length = n ∧ lsC.size = n ∧ lv_wf lsC ∧ ∀ (i : Nat) (v : TV), ls[i]? = some (some v) → lsC[i]? = some (.val (rep G v)) ∧ okv v
noncomputable def lvp (G : GE) (ls : LV) : List (Nat × Value) := (List.range ls.length).filterMap (fun i => match ls[i]? with
  | some (some v) => some (i, rep G v)
  | _ => none)
theorem lvp_mem {G : GE} {ls : LV} {q : Nat × Value} : q ∈ lvp G ls ↔ ∃ v, ls[q.1]? = some (some v) ∧ q.2 = rep G v := by
  unfold lvp
  rw [List.mem_filterMap]
  constructor
  · rintro ⟨i, hi, h⟩
    split at h
    · rename_i v hv
      cases h
      exact ⟨v, hv, rfl⟩
    · cases h
  · rintro ⟨v, hv, hq⟩
    refine ⟨q.1, List.mem_range.mpr ?_, ?_⟩
    · exact (List.getElem?_eq_some_iff.mp hv).1
    · rw [hv]
      dsimp only
      rw [← hq]
theorem LR.has {G : GE} {ls : LV} {lsC : Array Slot} {n : Nat} (h : LR G ls lsC n) : lv_has lsC n (lvp G ls) :=
  ⟨h.2.1, h.2.2.1, fun q hq => by
    obtain ⟨v, hv, e⟩ := lvp_mem.mp hq
    rw [e]
    exact (h.2.2.2 _ _ hv).1⟩
theorem LR.at {G : GE} {ls : LV} {lsC : Array Slot} {n i : Nat} {v : TV} (h : LR G ls lsC n) (hv : ls[i]? = some (some v)) : lsC[i]? = some (.val (rep G v)) := (h.2.2.2 i v hv).1
theorem LR.msk {G : GE} {ls : LV} {lsC : Array Slot} {n : Nat} (h : LR G ls lsC n) (b : Nat) : LR G (mskL b ls) lsC n := by
  have key : ∀ (ls : LV) (b : Nat), (mskL b ls).length = ls.length ∧ ∀ (i : Nat) (v : TV), (mskL b ls)[i]? = some (some v) → ls[i]? = some (some v) := by
    intro ls
    induction ls with
    | nil => intro b; exact ⟨rfl, fun i v h => h⟩
    | cons a r ih =>
      intro b
      refine ⟨by simp [mskL, (ih (b / 2)).1], fun i v h => ?_⟩
      cases i with
      | zero =>
        simp only [mskL, List.getElem?_cons_zero, Option.some.injEq] at h ⊢
        split at h
        · exact h
        · cases h
      | succ i =>
        simp only [mskL, List.getElem?_cons_succ] at h ⊢
        exact (ih (b / 2)).2 i v h
  exact ⟨(key ls b).1.trans h.1, h.2.1, h.2.2.1, fun i v q => h.2.2.2 i v ((key ls b).2 i v q)⟩
/-- what a store leaves -/
theorem st1_spec {ls : LV} {i : Nat} {v : TV} {k : LV → Rs} {r : Int × AH} (h : st1 ls i v k = some r) : i < ls.length ∧ ∃ ls', k ls' = some r ∧ ls'.length = ls.length ∧ ∀ (j : Nat) (u : TV), ls'[j]? = some (some u) → (j = i ∧ u = v) ∨ (j ≠ i ∧ ls[j]? = some (some u) ∧ ¬ (j + 1 = i ∧ ∃ z, u = vl z)) := by
  unfold st1 at h
  split at h
  · rw [setK_eq] at h
    split at h
    · rename_i hl
      refine ⟨hl, _, h, List.length_set .., fun j u hj => ?_⟩
      rw [List.getElem?_set] at hj
      split at hj
      · rename_i e
        cases hj
        exact Or.inl ⟨e.symm, rfl⟩
      · rename_i e
        exact Or.inr ⟨fun q => e q.symm, hj, fun q => by omega⟩
    · cases h
  · rename_i k0
    split at h
    · rename_i hL
      rw [setK_eq] at h
      split at h
      · rename_i hl0
        rw [setK_eq] at h
        split at h
        · rename_i hl
          rw [List.length_set] at hl
          refine ⟨hl, _, h, by simp, fun j u hj => ?_⟩
          rw [List.getElem?_set] at hj
          split at hj
          · rename_i e
            rw [if_pos (by rw [List.length_set]; exact hl)] at hj
            cases hj
            exact Or.inl ⟨e.symm, rfl⟩
          · rename_i e
            rw [List.getElem?_set] at hj
            split at hj
            · cases hj
            · rename_i e2
              exact Or.inr ⟨fun q => e q.symm, hj, fun q => e2 (by first | decide | omega)⟩
        · cases h
      · cases h
    · rename_i hL
      rw [setK_eq] at h
      split at h
      · rename_i hl
        refine ⟨hl, _, h, List.length_set .., fun j u hj => ?_⟩
        rw [List.getElem?_set] at hj
        split at hj
        · rename_i e
          cases hj
          exact Or.inl ⟨e.symm, rfl⟩
        · rename_i e
          refine Or.inr ⟨fun q => e q.symm, hj, ?_⟩
          rintro ⟨q, z, rfl⟩
          have : j = k0 := by omega
          subst this
          rw [hj] at hL
          cases hL
      · cases h
theorem st2_spec {ls : LV} {i : Nat} {v : TV} {k : LV → Rs} {r : Int × AH} (h : st2 ls i v k = some r) : i + 1 < ls.length ∧ ∃ ls', k ls' = some r ∧ ls'.length = ls.length ∧ ∀ (j : Nat) (u : TV), ls'[j]? = some (some u) → (j = i ∧ u = v) ∨ (j ≠ i ∧ j ≠ i + 1 ∧ ls[j]? = some (some u) ∧ ¬ (j + 1 = i ∧ ∃ z, u = vl z)) := by
  unfold st2 at h
  obtain ⟨-, l1, h1, hl, hs⟩ := st1_spec h
  rw [setK_eq] at h1
  split at h1
  · rename_i hl1
    refine ⟨by omega, _, h1, by rw [List.length_set, hl], fun j u hj => ?_⟩
    rw [List.getElem?_set] at hj
    split at hj
    · cases hj
    · rename_i e
      rcases hs j u hj with q | ⟨q1, q2, q3⟩
      · exact Or.inl q
      · exact Or.inr ⟨q1, fun z => e z.symm, q2, q3⟩
  · cases h1
theorem LR.st1 {G : GE} {ls ls' : LV} {lsC lsC' : Array Slot} {n i : Nat} {v : TV} (hG : gVok G) (h : LR G ls lsC n) (hv : okv v) (hl : ls'.length = ls.length) (hs : ∀ (j : Nat) (u : TV), ls'[j]? = some (some u) → (j = i ∧ u = v) ∨ (j ≠ i ∧ ls[j]? = some (some u) ∧ ¬ (j + 1 = i ∧ ∃ z, u = vl z)))
    (h' : lv_has lsC' n ((i, rep G v) :: (lvp G ls).filter (fun q => !(q.1 == i) && !(q.1 + 1 == i && q.2.category == 2)))) : LR G ls' lsC' n := by
  refine ⟨hl.trans h.1, h'.1, h'.2.1, fun j u hj => ?_⟩
  rcases hs j u hj with ⟨rfl, rfl⟩ | ⟨q1, q2, q3⟩
  · exact ⟨h'.2.2 _ List.mem_cons_self, hv⟩
  · refine ⟨h'.2.2 (j, rep G u) (List.mem_cons_of_mem _ (List.mem_filter.mpr ⟨lvp_mem.mpr ⟨u, q2, rfl⟩, ?_⟩)), (h.2.2.2 j u q2).2⟩
    simp only [Bool.and_eq_true, Bool.not_eq_true', beq_eq_false_iff_ne, ne_eq, Bool.and_eq_false_iff]
    refine ⟨q1, ?_⟩
    by_cases e : j + 1 = i
    · right
      rw [rep_cat hG]
      intro q4
      apply q3
      refine ⟨e, ?_⟩
      match u, q4 with
      | .inr (.inl z), _ => exact ⟨z, rfl⟩
    · exact Or.inl e
theorem LR.st2 {G : GE} {ls ls' : LV} {lsC lsC' : Array Slot} {n i : Nat} {v : TV} (hG : gVok G) (h : LR G ls lsC n) (hv : okv v) (hl : ls'.length = ls.length) (hs : ∀ (j : Nat) (u : TV), ls'[j]? = some (some u) → (j = i ∧ u = v) ∨ (j ≠ i ∧ j ≠ i + 1 ∧ ls[j]? = some (some u) ∧ ¬ (j + 1 = i ∧ ∃ z, u = vl z)))
    (h' : lv_has lsC' n ((i, rep G v) :: (lvp G ls).filter (fun q => !(q.1 == i) && (!(q.1 == i + 1) && !(q.1 + 1 == i && q.2.category == 2))))) : LR G ls' lsC' n := by
  refine ⟨hl.trans h.1, h'.1, h'.2.1, fun j u hj => ?_⟩
  rcases hs j u hj with ⟨rfl, rfl⟩ | ⟨q1, q5, q2, q3⟩
  · exact ⟨h'.2.2 _ List.mem_cons_self, hv⟩
  · refine ⟨h'.2.2 (j, rep G u) (List.mem_cons_of_mem _ (List.mem_filter.mpr ⟨lvp_mem.mpr ⟨u, q2, rfl⟩, ?_⟩)), (h.2.2.2 j u q2).2⟩
    simp only [Bool.and_eq_true, Bool.not_eq_true', beq_eq_false_iff_ne, ne_eq, Bool.and_eq_false_iff]
    refine ⟨q1, q5, ?_⟩
    by_cases e : j + 1 = i
    · right
      rw [rep_cat hG]
      intro q4
      apply q3
      refine ⟨e, ?_⟩
      match u, q4 with
      | .inr (.inl z), _ => exact ⟨z, rfl⟩
    · exact Or.inl e
/-- the locals at a method's entry -/
theorem spr_len {G : GE} (hG : gVok G) (as : List TV) : (spr as).length = (lg_sl (as.map (rep G))).length := by
  induction as with
  | nil => rfl
  | cons v r ih =>
    have hc := rep_cat hG v
    have e : lg_sl ((v :: r).map (rep G)) = (if (rep G v).category = 2 then [.val (rep G v), .second] else [.val (rep G v)]) ++ lg_sl (r.map (rep G)) := by
      simp [lg_sl]
    rw [e, List.length_append, ← ih]
    match v, hc with
    | .inl x, hc => rw [if_neg (by rw [hc]; simp [cat])]; simp [spr]; omega
    | .inr (.inl x), hc => rw [if_pos (by rw [hc]; rfl)]; simp [spr]; omega
    | .inr (.inr a), hc => rw [if_neg (by rw [hc]; simp [cat])]; simp [spr]; omega
theorem spr_args {G : GE} (hG : gVok G) : ∀ (as : List TV) (i j : Nat) (v : TV), (spr as)[j]? = some (some v) → (i + j, rep G v) ∈ lv_args i (as.map (rep G)) ∧ v ∈ as := by
  intro as
  induction as with
  | nil => intro i j v h; cases h
  | cons u r ih =>
    intro i j v h
    have hc := rep_cat hG u
    rw [List.map_cons, lv_args]
    match u, hc, h with
    | .inl x, hc, h =>
      rw [if_neg (by rw [hc]; simp [cat])]
      cases j with
      | zero => cases h; exact ⟨List.mem_cons_self, List.mem_cons_self⟩
      | succ j =>
        have := ih (i + 1) j v h
        rw [show i + (j + 1) = i + 1 + j by omega]
        exact ⟨List.mem_cons_of_mem _ this.1, List.mem_cons_of_mem _ this.2⟩
    | .inr (.inr x), hc, h =>
      rw [if_neg (by rw [hc]; simp [cat])]
      cases j with
      | zero => cases h; exact ⟨List.mem_cons_self, List.mem_cons_self⟩
      | succ j =>
        have := ih (i + 1) j v h
        rw [show i + (j + 1) = i + 1 + j by omega]
        exact ⟨List.mem_cons_of_mem _ this.1, List.mem_cons_of_mem _ this.2⟩
    | .inr (.inl x), hc, h =>
      rw [if_pos (by rw [hc]; rfl)]
      cases j with
      | zero => cases h; exact ⟨List.mem_cons_self, List.mem_cons_self⟩
      | succ j =>
        cases j with
        | zero => cases h
        | succ j =>
          have := ih (i + 2) j v h
          rw [show i + (j + 1 + 1) = i + 2 + j by omega]
          exact ⟨List.mem_cons_of_mem _ this.1, List.mem_cons_of_mem _ this.2⟩
theorem LR.entry {G : GE} (hG : gVok G) {as : List TV} {n : Nat} (hn : (spr as).length ≤ n) (hok : ∀ v ∈ as, okv v) : LR G (ent n as) ((lg_sl (as.map (rep G)) ++ List.replicate (n - (lg_sl (as.map (rep G))).length) Slot.unset).toArray) n := by
  have hn' : (lg_sl (as.map (rep G))).length ≤ n := by rw [← spr_len hG]; exact hn
  have h := lv_entry (as.map (rep G)) (n := n) hn'
  refine ⟨by unfold ent; simp; omega, h.1, h.2.1, fun i v hv => ?_⟩
  unfold ent at hv
  by_cases hi : i < (spr as).length
  · rw [List.getElem?_append_left hi] at hv
    have h2 := spr_args hG as 0 i v hv
    rw [Nat.zero_add] at h2
    exact ⟨h.2.2 _ h2.1, hok v h2.2⟩
  · rw [List.getElem?_append_right (by first | decide | omega)] at hv
    have := List.mem_of_getElem? hv
    rw [List.mem_replicate] at this
    cases this.2
