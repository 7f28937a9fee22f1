/-! the heap -/
noncomputable def ety (t : Nat) : FieldType := match t with
  | 0 => .byte
  | 1 => .boolean
  | 2 => .int
  | 3 => .long
  | 4 => .object "SupplyBook$Text"
  | 5 => .object "SupplyBook$Authority"
  | _ => .object "SupplyBook$Claim"
/-- the cells from outside: 1 the script, 2 and 3 the class's two tables, 4 to 8 the Strings, 9 to 13 their bytes, 14 the formatter -/
noncomputable def stxs : List (List Int) := [[97, 121, 104, 107, 114, 113, 108], [109, 99, 98, 101, 100, 120], [60, 62, 61], [42, 47, 37], [109, 99, 98, 101, 100]]
noncomputable def xsh (L : Nat) (a : Nat) : Nat × Nat := ([(99, 0), (2, L), (2, 4), (2, 5), (23, 2), (23, 2), (23, 2), (23, 2), (23, 2), (0, 7), (0, 6), (0, 3), (0, 3), (0, 5), (98, 0)] : List (Nat × Nat)).getD a (99, 0)
noncomputable def xcl : List (List (Option Int)) := [[], [], [some 0, some 2, some 3, some 4], [some 10, some 0, some 0, some 0, some 30], [some 9, some 0], [some 10, some 0], [some 11, some 0], [some 12, some 0], [some 13, some 0],
  [some 97, some 121, some 104, some 107, some 114, some 113, some 108], [some 109, some 99, some 98, some 101, some 100, some 120], [some 60, some 62, some 61], [some 42, some 47, some 37], [some 109, some 99, some 98, some 101, some 100], []]
noncomputable def xct (xs : Nat → Int32) (a : Nat) : Nat → Option Int := match a with
  | 1 => fun k => some (xs k).toInt
  | a => fun k => (xcl.getD a []).getD k none
noncomputable def xvv (a j : Nat) : Int := ((xcl.getD a []).getD j none).getD 0
noncomputable def AA (G : GE) : Nat → Prop := fun q => gb G ≤ q
noncomputable def EN (G : GE) (U : State) (H : Heap) : Prop :=
  (∀ c ∈ lw_tbl, kw c = true → c.before #[] U = true) ∧
  (∀ ci, ci < 13 → u_Kn U (cnm ci) (TT ci) (NN ci) (gC G ci) (gS G ci)) ∧
  (∀ t, t < 7 → ArrOfT U (gA G t) (ety t) ∧ va_RA U (gA G t) (ety t)) ∧
  (va_X (gE G 1) (gL G) (gX G) U H ∧ gE G 1 < gb G ∧ gL G ≤ 3584) ∧
  (∀ a, a = 2 ∨ a = 3 → va_T .int (gE G a) (xsh (gL G) a).2 (fun j => .int (Int32.ofInt (xvv a j))) (AA G) U H) ∧
  (∀ j, j < 5 → vk_R (cnm (stl.getD j (0, 0, "")).1) (stl.getD j (0, 0, "")).2.1 (stl.getD j (0, 0, "")).2.2 (gE G (4 + j)) U ∧ va_O "java/lang/String" (gE G (4 + j)) (AA G) U H ∧ va_OF "java/lang/String" "coder" "B" (.int 0) (gE G (4 + j)) (AA G) U H ∧ va_OF "java/lang/String" "value" "[B" (.ref (gE G (9 + j))) (gE G (4 + j)) (AA G) U H ∧ va_T .byte (gE G (9 + j)) (xsh (gL G) (9 + j)).2 (fun k => .int (Int32.ofInt (xvv (9 + j) k))) (AA G) U H) ∧
  (va_Z "SupplyBook" "ASKED_KINDS" "[I" (.ref (gE G 2)) (AA G) U H ∧ va_Z "SupplyBook" "USUAL_NUMBERS" "[I" (.ref (gE G 3)) (AA G) U H ∧ va_Z "java/lang/String" "COMPACT_STRINGS" "Z" (.int 1) (AA G) U H ∧ va_Z "jdk/internal/util/Preconditions" "SIOOBE_FORMATTER" "Ljava/util/function/BiFunction;" (gV G) (AA G) U H) ∧
  gVok G ∧ gb G ≤ H.size
theorem kw_warm {c : Cond} (hk : kw c = true) {s U : State} (hW : s.WarmedH U.vm) (h : c.before #[] s = true) : c.before #[] U = true := by
  unfold kw at hk
  split at hk
  · exact va_Nw.warmF hW h
  · exact va_Nw.warmM hW h
  · exact va_Nw.warmC hW h
  · exact va_AO.moved hW.alike h
  · exact word_at hW (good_of_word hk) h
/-- what is known stays known -/
theorem EN.next {G : GE} {s U : State} {locs : List Loc} (h : EN G s s.heap) (hW : s.WarmedH U.vm) (hS : va_S (AA G) s.heap U.heap locs) : EN G U U.heap := by
  obtain ⟨h1, h2, h3, ⟨h4, h5, h6⟩, h7, h8, ⟨z1, z2, z3, z4⟩, h9, h10⟩ := h
  have hq := hS.2.1
  refine ⟨fun c hc hk => kw_warm hk hW (h1 c hc hk), fun ci hci => u_Kn_moved hW.alike (h2 ci hci), fun t ht => ⟨arrOfT_moved hW.alike (h3 t ht).1, (h3 t ht).2.moved hW.alike⟩, ⟨(h4.moved hW.alike).kept (hq _ (by first | decide | omega) (by unfold AA; omega)), h5, h6⟩, fun a ha => ((h7 a ha).moved hW.alike).kept hq, fun j hj => ?_, ⟨(z1.moved hW.alike).kept hq, (z2.moved hW.alike).kept hq, (z3.moved hW.alike).kept hq, (z4.moved hW.alike).kept hq⟩, h9, Nat.le_trans h10 hS.1⟩
  obtain ⟨a1, a2, a3, a4, a5⟩ := h8 j hj
  exact ⟨a1.warm hW, (a2.moved hW.alike).kept hq, (a3.moved hW.alike).kept hq, (a4.moved hW.alike).kept hq, (a5.moved hW.alike).kept hq⟩
theorem EN.word {G : GE} {U : State} {H : Heap} (h : EN G U H) {i : Nat} {c : Cond} (hc : wok1 i c = true) : c.before #[] U = true := h.1 c (wok1_mem hc).1 (wok1_mem hc).2
theorem onT {c : Cond} (ht : c.onTables = true) {A : Array Value} {U : State} (h : c.before #[] U = true) : c.before A U = true := va_tabs ht rfl h
noncomputable def isC (G : GE) (w : WC) (S : AH) (H : Heap) (a : Nat) : Prop :=
  ((shp w S a).1 < 7 → H[gad G a]? = some (arrV (gA G (shp w S a).1) (shp w S a).2 (fun j => rep G (mkv (arC (shp w S a).1) (rdv w S a j)))) ∧ (shp w S a).2 ≤ 20000 ∧ ∀ j, j < (shp w S a).2 → okc (arC (shp w S a).1) (rdv w S a j)) ∧
  ∀ ci, ci < 14 → (shp w S a).1 = 10 + ci → ci < 13 ∧ t_OB (gad G a) (gC G ci) (NN ci) (gS G ci) H (fun k => rep G (mkv (fcd ci k) (rdv w S a k))) ∧ ∀ k, k < NN ci → okc (fcd ci k) (rdv w S a k)
noncomputable def Rel (G : GE) (w : WC) (S : AH) (H : Heap) : Prop := 15 ≤ S.1.1 ∧ H.size = gb G + (S.1.1 - 15) ∧ w.1 ≤ S.1.1 ∧ (∀ a, S.1.1 ≤ a → (S.1.2.2 a).1 = 99) ∧ ∀ a, 15 ≤ a → a < S.1.1 → isC G w S H a
noncomputable def OKW (G : GE) (w : WC) : Prop := 15 ≤ w.1 ∧ (∀ a, a < 15 → (w.2.1 a = xsh (gL G) a ∧ ∀ k, w.2.2 a k = xct (gX G) a k) ∨ w.2.1 a = (99, 0)) ∧ (∀ a k, w.1 ≤ a → w.2.2 a k = none) ∧ (∀ a k, 15 ≤ a → a < w.1 → (w.2.1 a).1 < 7 → w.2.2 a k = none) ∧ ∀ a, w.1 ≤ a → gp G a = a
theorem gad_own {G : GE} {a : Nat} (h : 15 ≤ a) : gad G a = gb G + (gp G a - 15) := by
  unfold gad
  rw [if_neg (by first | decide | omega)]
theorem rf_own {G : GE} {a : Nat} (h : 15 ≤ a) : rf G a = .ref (gad G a) := rf_ref (by first | decide | omega) (by first | decide | omega)
theorem gad_A {G : GE} {a : Nat} (h : 15 ≤ a) : AA G (gad G a) := by
  rw [gad_own h]
  exact Nat.le_add_right _ _
theorem gad_ne {G : GE} {a b : Nat} (ha : 15 ≤ a) (hb : 15 ≤ b) (h : b ≠ a) : gad G b ≠ gad G a := by
  have h1 := gp_ge (G := G) ha
  have h2 := gp_ge (G := G) hb
  have h3 : gp G b ≠ gp G a := fun q => h (gp_in q)
  rw [gad_own ha, gad_own hb]
  omega
theorem shp_in {G : GE} {w : WC} {S : AH} (hw : OKW G w) {a : Nat} (h : a < 15) : shp w S a = w.2.1 a := by
  unfold shp
  rw [show Nat.blt a w.1 = true from Nat.blt_eq.mpr (Nat.lt_of_lt_of_le h hw.1)]
theorem ext_at {G : GE} {w : WC} {S : AH} (hw : OKW G w) {a : Nat} (h : a < 15) (hk : (shp w S a).1 ≠ 99) : w.2.1 a = xsh (gL G) a ∧ ∀ k, w.2.2 a k = xct (gX G) a k := by
  rcases hw.2.1 a h with q | q
  · exact q
  · rw [shp_in hw h, q] at hk
    exact absurd rfl hk
theorem shp_ext {G : GE} {w : WC} {S : AH} (hw : OKW G w) {a : Nat} (h : a < 15) (hk : (shp w S a).1 ≠ 99) : shp w S a = xsh (gL G) a := by
  rw [shp_in hw h]
  exact (ext_at hw h hk).1
theorem shp_dyn {w : WC} {S : AH} {a : Nat} (h : w.1 ≤ a) : shp w S a = S.1.2.2 a := by
  unfold shp
  rw [show Nat.blt a w.1 = false from by rw [← Bool.not_eq_true, Nat.blt_eq]; omega]
theorem rdv_ext {G : GE} {w : WC} {S : AH} (hw : OKW G w) {a k : Nat} {v : Int} (h : a < 15) (hk : (shp w S a).1 ≠ 99) (hv : xct (gX G) a k = some v) : rdv w S a k = v := by
  unfold rdv
  rw [(ext_at hw h hk).2 k, hv]
theorem rdv_none {w : WC} {S : AH} {a k : Nat} (h : w.2.2 a k = none) : rdv w S a k = S.2 a k := by
  unfold rdv
  rw [h]
/-- a cell with a shape is there -/
theorem Rel.lt {G : GE} {w : WC} {S : AH} {H : Heap} (hR : Rel G w S H) {a : Nat} (h : (shp w S a).1 ≠ 99) : a < S.1.1 := by
  rcases Nat.lt_or_ge a S.1.1 with q | q
  · exact q
  · exact absurd (by rw [shp_dyn (Nat.le_trans hR.2.2.1 q)]; exact hR.2.2.2.1 a q) h
theorem obj_ge {G : GE} {w : WC} {S : AH} (hw : OKW G w) {a ci : Nat} (hci : ci < 13) (h : (shp w S a).1 = 10 + ci) : 15 ≤ a := by
  rcases Nat.lt_or_ge a 15 with q | q
  · rw [shp_ext hw q (by first | decide | omega)] at h
    rcases (show a = 0 ∨ a = 1 ∨ a = 2 ∨ a = 3 ∨ a = 4 ∨ a = 5 ∨ a = 6 ∨ a = 7 ∨ a = 8 ∨ a = 9 ∨ a = 10 ∨ a = 11 ∨ a = 12 ∨ a = 13 ∨ a = 14 by omega) with rfl | rfl | rfl | rfl | rfl | rfl | rfl | rfl | rfl | rfl | rfl | rfl | rfl | rfl | rfl <;> simp [xsh] at h <;> omega
  · exact q
/-- an object of ours -/
theorem obj_at {G : GE} {w : WC} {S : AH} {H : Heap} (hw : OKW G w) (hR : Rel G w S H) {a ci : Nat} (hci : ci < 13) (h : (shp w S a).1 = 10 + ci) : 15 ≤ a ∧ t_OB (gad G a) (gC G ci) (NN ci) (gS G ci) H (fun k => rep G (mkv (fcd ci k) (rdv w S a k))) ∧ ∀ k, k < NN ci → okc (fcd ci k) (rdv w S a k) := by
  have h15 := obj_ge hw hci h
  exact ⟨h15, ((hR.2.2.2.2 a h15 (hR.lt (by first | decide | omega))).2 ci (by first | decide | omega) h).2⟩
theorem str_at {G : GE} {w : WC} {S : AH} {H : Heap} (hw : OKW G w) (hR : Rel G w S H) {a : Nat} (h : (shp w S a).1 = 23) : ∃ j, j < 5 ∧ a = 4 + j := by
  rcases Nat.lt_or_ge a 15 with q | q
  · rw [shp_ext hw q (by first | decide | omega)] at h
    rcases (show a = 0 ∨ a = 1 ∨ a = 2 ∨ a = 3 ∨ a = 4 ∨ a = 5 ∨ a = 6 ∨ a = 7 ∨ a = 8 ∨ a = 9 ∨ a = 10 ∨ a = 11 ∨ a = 12 ∨ a = 13 ∨ a = 14 by omega) with rfl | rfl | rfl | rfl | rfl | rfl | rfl | rfl | rfl | rfl | rfl | rfl | rfl | rfl | rfl
    all_goals first
      | exact ⟨0, by omega, rfl⟩
      | exact ⟨1, by omega, rfl⟩
      | exact ⟨2, by omega, rfl⟩
      | exact ⟨3, by omega, rfl⟩
      | exact ⟨4, by omega, rfl⟩
      | (simp [xsh] at h)
  · exact absurd ((hR.2.2.2.2 a q (hR.lt (by first | decide | omega))).2 13 (by first | decide | omega) h).1 (by first | decide | omega)
/-- an array, of ours or from outside -/
theorem arr_at {G : GE} {w : WC} {S : AH} {s : State} {H : Heap} {locs : List Loc} (hw : OKW G w) (hE : EN G s s.heap) (hS : va_S (AA G) s.heap H locs) (hR : Rel G w S H) {a t n : Nat} (h : shp w S a = (t, n)) (ht : t < 7) :
    rf G a = .ref (gad G a) ∧ n < 2 ^ 31 ∧ ∃ cell : Cell, H[gad G a]? = some cell ∧ s.isArrayOf cell (ety t) ∧ cell.vm ≠ .unknown ∧ n ≤ cell.slots.size ∧ cell.slots.size.toInt32 = Int32.ofNat n ∧ ∀ j, j < n → cell.slots[j]? = some (rep G (mkv (arC t) (rdv w S a j))) ∧ okc (arC t) (rdv w S a j) := by
  rcases Nat.lt_or_ge a 15 with q | q
  · have hk0 : (shp w S a).1 ≠ 99 := by rw [h]; show t ≠ 99; omega
    rw [shp_ext hw q hk0] at h
    obtain ⟨h1, h2, h3, ⟨h4, h5, h6⟩, h7, h8, -, h9, h10⟩ := hE
    have tbl : ∀ b : Nat, (shp w S b).1 ≠ 99 → b < 15 → b ≠ 0 → b ≠ 14 → b ≠ 1 → ∀ (t n : Nat), xsh (gL G) b = (t, n) → (t = 2 ∨ t = 0) → (∀ j, j < n → xct (gX G) b j = some (xvv b j) ∧ okc (arC t) (xvv b j)) → n < 2 ^ 31 → va_T (ety t) (gE G b) n (fun j => .int (Int32.ofInt (xvv b j))) (AA G) s s.heap →
        rf G b = .ref (gad G b) ∧ n < 2 ^ 31 ∧ ∃ cell : Cell, H[gad G b]? = some cell ∧ s.isArrayOf cell (ety t) ∧ cell.vm ≠ .unknown ∧ n ≤ cell.slots.size ∧ cell.slots.size.toInt32 = Int32.ofNat n ∧ ∀ j, j < n → cell.slots[j]? = some (rep G (mkv (arC t) (rdv w S b j))) ∧ okc (arC t) (rdv w S b j) := by
      intro b hkb hb b0 b14 b1 t n hx ht hv hn hT
      obtain ⟨cell, c1, c2, c3, c4, c5, c6, c7⟩ := hT.kept hS.2.1
      refine ⟨rf_ref b0 b14, hn, cell, ?_, c2, c3, c4, c5, fun j hj => ?_⟩
      · unfold gad
        rw [if_pos hb]
        exact c1
      · rw [rdv_ext hw hb hkb (hv j hj).1]
        refine ⟨?_, (hv j hj).2⟩
        rw [c6 j hj]
        rcases ht with rfl | rfl <;> rfl
    rcases (show a = 0 ∨ a = 1 ∨ a = 2 ∨ a = 3 ∨ (4 ≤ a ∧ a < 9) ∨ a = 9 ∨ a = 10 ∨ a = 11 ∨ a = 12 ∨ a = 13 ∨ a = 14 by omega) with rfl | rfl | rfl | rfl | q2 | rfl | rfl | rfl | rfl | rfl | rfl
    · simp [xsh] at h; omega
    · have e : t = 2 ∧ n = gL G := by simp [xsh] at h; exact ⟨h.1.symm, h.2.symm⟩
      obtain ⟨rfl, rfl⟩ := e
      obtain ⟨cell, c1, c2, c3, c4, c5⟩ := h4.kept (hS.2.1 _ (by first | decide | omega) (by unfold AA; omega))
      refine ⟨rf_ref (by decide) (by decide), by omega, cell, ?_, c2, c3, by omega, by rw [c4], fun j hj => ?_⟩
      · unfold gad
        rw [if_pos (by decide)]
        exact c1
      · rw [rdv_ext (v := (gX G j).toInt) hw (by decide) hk0 rfl]
        refine ⟨?_, i32_r _⟩
        rw [c5 j hj]
        show _ = some (Value.int (Int32.ofInt (gX G j).toInt))
        rw [to32]
    · exact tbl 2 hk0 (by decide) (by decide) (by decide) (by decide) t n h (by simp [xsh] at h; omega) (by simp [xsh] at h; obtain ⟨rfl, rfl⟩ := h; intro j hj; rcases (show j = 0 ∨ j = 1 ∨ j = 2 ∨ j = 3 by omega) with rfl | rfl | rfl | rfl <;> exact ⟨rfl, by simp [okc, arC, r32, xvv, xcl]⟩) (by simp [xsh] at h; omega) (by have := h7 2 (Or.inl rfl); rw [h] at this; simp [xsh] at h; obtain ⟨rfl, rfl⟩ := h; exact this)
    · exact tbl 3 hk0 (by decide) (by decide) (by decide) (by decide) t n h (by simp [xsh] at h; omega) (by simp [xsh] at h; obtain ⟨rfl, rfl⟩ := h; intro j hj; rcases (show j = 0 ∨ j = 1 ∨ j = 2 ∨ j = 3 ∨ j = 4 by omega) with rfl | rfl | rfl | rfl | rfl <;> exact ⟨rfl, by simp [okc, arC, r32, xvv, xcl]⟩) (by simp [xsh] at h; omega) (by have := h7 3 (Or.inr rfl); rw [h] at this; simp [xsh] at h; obtain ⟨rfl, rfl⟩ := h; exact this)
    · rcases (show a = 4 ∨ a = 5 ∨ a = 6 ∨ a = 7 ∨ a = 8 by omega) with rfl | rfl | rfl | rfl | rfl <;> simp [xsh] at h <;> omega
    · exact tbl 9 hk0 (by decide) (by decide) (by decide) (by decide) t n h (by simp [xsh] at h; omega) (by simp [xsh] at h; obtain ⟨rfl, rfl⟩ := h; intro j hj; rcases (show j = 0 ∨ j = 1 ∨ j = 2 ∨ j = 3 ∨ j = 4 ∨ j = 5 ∨ j = 6 by omega) with rfl | rfl | rfl | rfl | rfl | rfl | rfl <;> exact ⟨rfl, by simp [okc, arC, r32, xvv, xcl]⟩) (by simp [xsh] at h; omega) (by have := (h8 0 (by first | decide | omega)).2.2.2.2; rw [show (9 + 0 : Nat) = 9 from rfl, h] at this; simp [xsh] at h; obtain ⟨rfl, rfl⟩ := h; exact this)
    · exact tbl 10 hk0 (by decide) (by decide) (by decide) (by decide) t n h (by simp [xsh] at h; omega) (by simp [xsh] at h; obtain ⟨rfl, rfl⟩ := h; intro j hj; rcases (show j = 0 ∨ j = 1 ∨ j = 2 ∨ j = 3 ∨ j = 4 ∨ j = 5 by omega) with rfl | rfl | rfl | rfl | rfl | rfl <;> exact ⟨rfl, by simp [okc, arC, r32, xvv, xcl]⟩) (by simp [xsh] at h; omega) (by have := (h8 1 (by first | decide | omega)).2.2.2.2; rw [show (9 + 1 : Nat) = 10 from rfl, h] at this; simp [xsh] at h; obtain ⟨rfl, rfl⟩ := h; exact this)
    · exact tbl 11 hk0 (by decide) (by decide) (by decide) (by decide) t n h (by simp [xsh] at h; omega) (by simp [xsh] at h; obtain ⟨rfl, rfl⟩ := h; intro j hj; rcases (show j = 0 ∨ j = 1 ∨ j = 2 by omega) with rfl | rfl | rfl <;> exact ⟨rfl, by simp [okc, arC, r32, xvv, xcl]⟩) (by simp [xsh] at h; omega) (by have := (h8 2 (by first | decide | omega)).2.2.2.2; rw [show (9 + 2 : Nat) = 11 from rfl, h] at this; simp [xsh] at h; obtain ⟨rfl, rfl⟩ := h; exact this)
    · exact tbl 12 hk0 (by decide) (by decide) (by decide) (by decide) t n h (by simp [xsh] at h; omega) (by simp [xsh] at h; obtain ⟨rfl, rfl⟩ := h; intro j hj; rcases (show j = 0 ∨ j = 1 ∨ j = 2 by omega) with rfl | rfl | rfl <;> exact ⟨rfl, by simp [okc, arC, r32, xvv, xcl]⟩) (by simp [xsh] at h; omega) (by have := (h8 3 (by first | decide | omega)).2.2.2.2; rw [show (9 + 3 : Nat) = 12 from rfl, h] at this; simp [xsh] at h; obtain ⟨rfl, rfl⟩ := h; exact this)
    · exact tbl 13 hk0 (by decide) (by decide) (by decide) (by decide) t n h (by simp [xsh] at h; omega) (by simp [xsh] at h; obtain ⟨rfl, rfl⟩ := h; intro j hj; rcases (show j = 0 ∨ j = 1 ∨ j = 2 ∨ j = 3 ∨ j = 4 by omega) with rfl | rfl | rfl | rfl | rfl <;> exact ⟨rfl, by simp [okc, arC, r32, xvv, xcl]⟩) (by simp [xsh] at h; omega) (by have := (h8 4 (by first | decide | omega)).2.2.2.2; rw [show (9 + 4 : Nat) = 13 from rfl, h] at this; simp [xsh] at h; obtain ⟨rfl, rfl⟩ := h; exact this)
    · simp [xsh] at h; omega
  · have h' := (hR.2.2.2.2 a q (hR.lt (by rw [h]; show t ≠ 99; omega))).1
    rw [h] at h'
    dsimp only at h'
    obtain ⟨c1, c2, c3⟩ := h' ht
    have hsz : (arrV (gA G t) n (fun j => rep G (mkv (arC t) (rdv w S a j)))).slots.size = n := arrV_size _ _ _
    exact ⟨rf_own q, by omega, _, c1, (hE.2.2.1 t ht).1 _ _, fun e => (by cases e), (by rw [hsz]; exact Nat.le_refl _), (by rw [hsz]), fun j hj => ⟨arrV_read _ _ hj, c3 j hj⟩⟩
