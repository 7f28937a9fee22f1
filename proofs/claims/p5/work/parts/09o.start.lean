/-! what holds at the law's entry -/
noncomputable def R_law : String := "SupplyBookLaw"
noncomputable def lw_P (b : Addr) (xs : List Int32) (args : Array Value) (s : State) : Prop := args = #[.ref b] ∧ s.IntsAt b xs ∧ xs.length ≤ 3584 ∧ (Jvm.Cond.and given_1 narrow_1).before args s = true
noncomputable def lw_Q (_ : Array Value) (s : State) (o : Outcome) (t : State) : Prop := o = .returned (some (.int 1)) ∧ Framed s o t [] 600000 7302250
noncomputable def lw_Z (below : List Frame) (a : Array Value) (s : State) : State → Prop := fun t => ∃ o, t.status = .running ∧ Ended t below o ∧ lw_Q a s o t
noncomputable def lw_At (p : Program) (s : State) (m : MethodId) (meth : Method) (c : Code) (b L : Nat) (xs : Nat → Int32) : Prop :=
  p.tables.exec = Jvm.exec ∧ c.code = code ∧ meth.sig.returnType = ret ∧ c.maxLocals = 4 ∧ s.vm.findClass R_law = some m.cls ∧ (∀ w ∈ lw_tbl, w.before #[Value.ref b] s = true) ∧ va_X b L xs s s.heap ∧ b < s.heap.size ∧ meth.locks = false ∧ (Jvm.Cond.and given_1 narrow_1).before #[Value.ref b] s = true
theorem kw_any {c : Cond} (hk : kw c = true) {A A' : Array Value} {U : State} (h : c.before A U = true) : c.before A' U = true := by
  unfold kw at hk
  split at hk
  · exact va_any rfl h
  · exact va_any rfl h
  · exact va_any rfl h
  · exact h
  · rcases good_of_word hk with q | ⟨ty, rfl⟩
    · rw [Bool.and_eq_true] at q
      exact va_any q.1 h
    · exact h
noncomputable def stm (i : Nat) : Term := .string (cnm (stl.getD i (0, 0, "")).1) (stl.getD i (0, 0, "")).2.1
noncomputable def sln : List Nat := [7, 6, 3, 3, 5]
noncomputable def sbt : List (List Int32) := [[97, 121, 104, 107, 114, 113, 108], [109, 99, 98, 101, 100, 120], [60, 62, 61], [42, 47, 37], [109, 99, 98, 101, 100]]
noncomputable def inN (c : Cond) : Bool := decide (c ∈ flatC (Jvm.Cond.and given_1 narrow_1))
theorem st_ex : ((List.range 5).all fun i => inN (.exactly (stm i) "java/lang/String") && inN (.eq (.field (stm i) "java/lang/String" "coder" "B") (.int 0)) && inN (.arrayOf (.field (stm i) "java/lang/String" "value" "[B") .byte) && inN (.eq (.length (.field (stm i) "java/lang/String" "value" "[B")) (.int (Int32.ofNat (sln.getD i 0))))) = true := by decide +kernel
theorem st_el : ((List.range 5).all fun i => (List.range (sln.getD i 0)).all fun j => inN (.eq (.elem (.field (stm i) "java/lang/String" "value" "[B") (.int (Int32.ofNat j))) (.int ((sbt.getD i []).getD j 0)))) = true := by decide +kernel
theorem st_ne : ((List.range 5).all fun i => (List.range 5).all fun j => Nat.beq i j || inN (.not (.eq (stm i) (stm j))) || inN (.not (.eq (stm j) (stm i)))) = true := by decide +kernel
theorem st_by : ((List.range 5).all fun i => (List.range (sln.getD i 0)).all fun j => decide ((sbt.getD i []).getD j 0 = Int32.ofInt (xvv (9 + i) j))) = true := by decide +kernel
noncomputable def tbv : List (List Int32) := [[], [], [0, 2, 3, 4], [10, 0, 0, 0, 30]]
noncomputable def tbn (a : Nat) : String := if a = 2 then "ASKED_KINDS" else "USUAL_NUMBERS"
theorem tb_ok : ([2, 3].all fun a => inN (.arrayOf (.static "SupplyBook" (tbn a) "[I") .int) && inN (.eq (.length (.static "SupplyBook" (tbn a) "[I")) (.int (Int32.ofNat (xsh 0 a).2))) && (List.range (xsh 0 a).2).all fun j => inN (.eq (.elem (.static "SupplyBook" (tbn a) "[I") (.int (Int32.ofNat j))) (.int ((tbv.getD a []).getD j 0))) && decide ((tbv.getD a []).getD j 0 = Int32.ofInt (xvv a j))) = true := by decide +kernel
theorem cs_in : inN (.eq (.static "java/lang/String" "COMPACT_STRINGS" "Z") (.int 1)) = true := by decide +kernel
theorem fm_in : inN (.isRef (.static "jdk/internal/util/Preconditions" "SIOOBE_FORMATTER" "Ljava/util/function/BiFunction;")) = true := by decide +kernel
noncomputable def gEf (b t2 t3 : Nat) (aK aV : Nat → Nat) : Nat → Nat := fun a => if a = 1 then b else if a = 2 then t2 else if a = 3 then t3 else if a < 9 then aK (a - 4) else aV (a - 9)
theorem EN_start {p : Program} {s : State} {m : MethodId} {meth : Method} {c : Code} {b L : Nat} {xs : Nat → Int32} (hL : L ≤ 3584) (C0 : lw_At p s m meth c b L xs) : ∃ G : GE, EN G s s.heap ∧ gb G = s.heap.size ∧ gE G 1 = b ∧ gL G = L ∧ gX G = xs ∧ ∀ a, gp G a = a := by
  obtain ⟨-, -, -, -, -, hts, hX, hbl, -, hgv⟩ := C0
  have hs := flat_of_before _ hgv
  have hin : ∀ {c : Cond}, inN c = true → c.before #[Value.ref b] s = true := fun h => hs _ (of_decide_eq_true h)
  have hw : ∀ c ∈ lw_tbl, kw c = true → c.before #[] s = true := fun c hc hk => kw_any hk (hts c hc)
  have hw1 : ∀ {i : Nat} {c : Cond} {A : Array Value}, wok1 i c = true → c.before A s = true := fun h => kw_any (wok1_mem h).2 (hts _ (wok1_mem h).1)
  have hA : ∀ a : Nat, a < s.heap.size → ¬ (fun q => s.heap.size ≤ q) a := fun a ha q => by dsimp only at q; omega
  -- classes
  have h0 : ∀ ci : Nat, ∃ q : ClassId × (Nat → Nat), ci < 13 → u_Kn s (cnm ci) (TT ci) (NN ci) q.1 q.2 := by
    intro ci
    by_cases hci : ci < 13
    · obtain ⟨cC, iS, h⟩ := u_known (C := cnm ci) (T := TT ci) (N := NN ci) (n := NN ci) hts (fun w hw => by
        obtain ⟨k, hk, rfl⟩ := List.mem_map.mp hw
        exact (lay_at hci (List.mem_range.mp hk)).1) (hw1 (inst_ok hci).1)
      exact ⟨(cC, iS), fun _ => h⟩
    · exact ⟨(0, fun _ => 0), fun h => absurd h hci⟩
  obtain ⟨fC, hfC⟩ := Classical.axiomOfChoice h0
  have hap : ∀ {ty : FieldType}, (Cond.arrayClass ty).before #[Value.ref b] s = true → ∃ cA : ClassId, ArrOfT s cA ty ∧ s.vm.findClass ("[" ++ ty.toString) = some cA := by
    intro ty h
    obtain ⟨cA, kA, comp, f1, f2, f3⟩ := Cond.arrayClass_spec h
    exact ⟨cA, fun N z => ⟨(fun k h => by cases h), kA, f2, comp, f3⟩, f1⟩
  have hao : ∀ {C : String}, va_AO C s → ∃ cA : ClassId, ArrOfT s cA (.object C) ∧ va_RA s cA (.object C) := by
    intro C h
    obtain ⟨comp, cA, kA, f1, -, f2, f3, f4⟩ := Cond.arrayOver_spec (args := #[]) (first := s) (o := none) (idx := []) h
    exact ⟨cA, fun N z => ⟨(fun k h => by cases h), kA, f2, comp, f3⟩, kA, comp, f2, f3, f1, f4⟩
  have h1 : ∀ t : Nat, ∃ q : ClassId, t < 7 → ArrOfT s q (ety t) ∧ va_RA s q (ety t) := by
    intro t
    by_cases ht : t < 7
    · rcases (show t = 0 ∨ t = 1 ∨ t = 2 ∨ t = 3 ∨ t = 4 ∨ t = 5 ∨ t = 6 by omega) with rfl | rfl | rfl | rfl | rfl | rfl | rfl
      · obtain ⟨cA, a1, a2⟩ := hap (hw1 aw_byte); exact ⟨cA, fun _ => ⟨a1, a2⟩⟩
      · obtain ⟨cA, a1, a2⟩ := hap (hw1 aw_bool); exact ⟨cA, fun _ => ⟨a1, a2⟩⟩
      · obtain ⟨cA, a1, a2⟩ := hap (hw1 aw_int); exact ⟨cA, fun _ => ⟨a1, a2⟩⟩
      · obtain ⟨cA, a1, a2⟩ := hap (hw1 aw_long); exact ⟨cA, fun _ => ⟨a1, a2⟩⟩
      · obtain ⟨cA, a1, a2⟩ := hao (C := cnm 9) (hw1 ao_text); exact ⟨cA, fun _ => ⟨a1, a2⟩⟩
      · obtain ⟨cA, a1, a2⟩ := hao (C := cnm 1) (hw1 ao_auth); exact ⟨cA, fun _ => ⟨a1, a2⟩⟩
      · obtain ⟨cA, a1, a2⟩ := hao (C := cnm 2) (hw1 ao_claim); exact ⟨cA, fun _ => ⟨a1, a2⟩⟩
    · exact ⟨0, fun h => absurd h ht⟩
  obtain ⟨fA, hfA⟩ := Classical.axiomOfChoice h1
  -- texts
  have hex := fun i (hi : i < 5) => List.all_eq_true.mp st_ex i (List.mem_range.mpr hi)
  simp only [Bool.and_eq_true] at hex
  obtain ⟨aK, aV, hSS, hSe⟩ := vk_Sof (args := #[Value.ref b]) (s := s) (N := 5) (tm := stm) (len := sln) (byt := sbt) (A := fun q => s.heap.size ≤ q)
    (fun i hi => by rcases (show i = 0 ∨ i = 1 ∨ i = 2 ∨ i = 3 ∨ i = 4 by omega) with rfl | rfl | rfl | rfl | rfl <;> decide)
    (fun i hi => hin (hex i hi).1.1.1) (fun i hi => hin (hex i hi).1.1.2) (fun i hi => hin (hex i hi).1.2) (fun i hi => hin (hex i hi).2)
    (fun i hi j hj => hin (List.all_eq_true.mp (List.all_eq_true.mp st_el i (List.mem_range.mpr hi)) j (List.mem_range.mpr hj)))
    (fun i j hi hj hij => by
      have h := List.all_eq_true.mp (List.all_eq_true.mp st_ne i (List.mem_range.mpr hi)) j (List.mem_range.mpr hj)
      rw [Bool.or_eq_true, Bool.or_eq_true] at h
      rcases h with (h | h) | h
      · exact absurd (Nat.eq_of_beq_eq_true h) hij
      · exact Or.inl (hin h)
      · exact Or.inr (hin h)) hA
  -- tables
  have htb : ∀ a : Nat, a = 2 ∨ a = 3 → ∃ t : Nat, (Term.static "SupplyBook" (tbn a) "[I").eval #[Value.ref b] s none [] s = some (.ref t) ∧ va_T .int t (xsh L a).2 (fun j => .int (Int32.ofInt (xvv a j))) (fun q => s.heap.size ≤ q) s s.heap := by
    intro a ha
    have hx : (xsh L a).2 = (xsh 0 a).2 := by rcases ha with rfl | rfl <;> rfl
    have h := List.all_eq_true.mp tb_ok a (by simp; exact ha)
    rw [Bool.and_eq_true, Bool.and_eq_true] at h
    obtain ⟨⟨g1, g2⟩, g3⟩ := h
    rw [hx]
    refine va_Tof ?_ (hin g1) (va_eqt (hin g2)) (fun j hj => ?_) hA
    · rcases ha with rfl | rfl <;> decide
    · have g := List.all_eq_true.mp g3 j (List.mem_range.mpr hj)
      rw [Bool.and_eq_true, decide_eq_true_eq] at g
      rw [va_eqt (hin g.1), g.2]
  obtain ⟨t2, e2, T2⟩ := htb 2 (Or.inl rfl)
  obtain ⟨t3, e3, T3⟩ := htb 3 (Or.inr rfl)
  have lS : ∀ {c : Cond}, decide (c ∈ tables_1) = true → c.before #[Value.ref b] s = true := fun h => hts _ (List.mem_append_right _ (of_decide_eq_true h))
  have z2 := va_Zref (A := fun q => s.heap.size ≤ q) (C := "SupplyBook") (n := "ASKED_KINDS") (d := "[I") (lS (by decide +kernel)) (lS (by decide +kernel)) e2 hA
  have z3 := va_Zref (A := fun q => s.heap.size ≤ q) (C := "SupplyBook") (n := "USUAL_NUMBERS") (d := "[I") (lS (by decide +kernel)) (lS (by decide +kernel)) e3 hA
  have z4 := va_Zof (A := fun q => s.heap.size ≤ q) (C := "java/lang/String") (n := "COMPACT_STRINGS") (d := "Z") (lS (by decide +kernel)) (lS (by decide +kernel)) (va_eqi (hin cs_in)) hA
  have z5 := va_Zqof (A := fun q => s.heap.size ≤ q) (C := "jdk/internal/util/Preconditions") (n := "SIOOBE_FORMATTER") (d := "Ljava/util/function/BiFunction;") (lS (by decide +kernel)) (lS (by decide +kernel)) (hin fm_in) hA
  have hV : ∃ v : Value, (v = .null ∨ ∃ t, v = .ref t) ∧ va_Z "jdk/internal/util/Preconditions" "SIOOBE_FORMATTER" "Ljava/util/function/BiFunction;" v (fun q => s.heap.size ≤ q) s s.heap := by
    rcases z5 with z | ⟨t, z⟩
    · exact ⟨_, Or.inl rfl, z⟩
    · exact ⟨_, Or.inr ⟨t, rfl⟩, z⟩
  obtain ⟨v, hv, z5⟩ := hV
  refine ⟨(s.heap.size, gEf b t2 t3 aK aV, v, fun ci => (fC ci).1, fun ci => (fC ci).2, fA, L, xs, ⟨fun a => a, fun _ h => h, fun _ _ h => h⟩), ⟨hw, hfC, hfA, ⟨hX, hbl, hL⟩, fun a ha => ?_, fun j hj => ?_, ⟨z2, z3, z4, z5⟩, hv, Nat.le_refl _⟩, rfl, rfl, rfl, rfl, fun _ => rfl⟩
  · rcases ha with rfl | rfl
    · exact T2
    · exact T3
  · obtain ⟨g1, g2, g3, g4⟩ := hSS.1 j hj
    have k1 : gEf b t2 t3 aK aV (4 + j) = aK j := by
      unfold gEf
      rw [if_neg (by first | decide | omega), if_neg (by first | decide | omega), if_neg (by first | decide | omega), if_pos (by first | decide | omega)]
      congr 1
      omega
    have k2 : gEf b t2 t3 aK aV (9 + j) = aV j := by
      unfold gEf
      rw [if_neg (by first | decide | omega), if_neg (by first | decide | omega), if_neg (by first | decide | omega), if_neg (by first | decide | omega)]
      congr 1
      omega
    show vk_R _ _ _ (gEf b t2 t3 aK aV (4 + j)) s ∧ va_O _ (gEf b t2 t3 aK aV (4 + j)) _ s s.heap ∧ va_OF _ _ _ _ (gEf b t2 t3 aK aV (4 + j)) _ s s.heap ∧ va_OF _ _ _ (.ref (gEf b t2 t3 aK aV (9 + j))) (gEf b t2 t3 aK aV (4 + j)) _ s s.heap ∧ va_T .byte (gEf b t2 t3 aK aV (9 + j)) (xsh L (9 + j)).2 _ _ s s.heap
    rw [k1, k2]
    refine ⟨?_, g1, g2, g3, ?_⟩
    · refine vk_R.of (A := #[Value.ref b]) ?_ (hSe j hj)
      rcases (show j = 0 ∨ j = 1 ∨ j = 2 ∨ j = 3 ∨ j = 4 by omega) with rfl | rfl | rfl | rfl | rfl <;> exact lS (by decide +kernel)
    · have hl : (xsh L (9 + j)).2 = sln.getD j 0 := by rcases (show j = 0 ∨ j = 1 ∨ j = 2 ∨ j = 3 ∨ j = 4 by omega) with rfl | rfl | rfl | rfl | rfl <;> rfl
      rw [hl]
      obtain ⟨cell, c1, c2, c3, c4, c5, c6, c7⟩ := g4
      refine ⟨cell, c1, c2, c3, c4, c5, fun k hk => ?_, c7⟩
      rw [c6 k hk]
      have := List.all_eq_true.mp (List.all_eq_true.mp st_by j (List.mem_range.mpr hj)) k (List.mem_range.mpr hk)
      dsimp only
      rw [of_decide_eq_true this]
