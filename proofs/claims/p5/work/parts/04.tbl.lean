-- ===== PART A: goes FIRST, ahead of the names: the tables' words, and 'selects' of the private methods out of them =====
/-- a private method of a class that the tables say can be made, by its rows of tables_1 -/
noncomputable def lw_okq (q : MethodName × Nat) : Prop := (q.1.cls ≠ "java/lang/invoke/MethodHandle" ∧ q.1.cls ≠ "java/lang/invoke/VarHandle") ∧ Cond.instantiable q.1.cls q.2 ∈ tables_1 ∧ Cond.privateMethod q.1 ∈ tables_1 ∧ Cond.instanceMethod q.1 ∈ tables_1
/-- a list's tails, twenty apart -/
noncomputable def dk (t : List Cond) : List (List Cond) := [t.drop 0, t.drop 20, t.drop 40, t.drop 60, t.drop 80, t.drop 100, t.drop 120, t.drop 140, t.drop 160, t.drop 180, t.drop 200, t.drop 220]
theorem dk_mem {t l : List Cond} (h : l ∈ dk t) {c : Cond} (hc : c ∈ l) : c ∈ t := by
  simp only [dk, List.mem_cons, List.not_mem_nil, or_false] at h
  rcases h with rfl | rfl | rfl | rfl | rfl | rfl | rfl | rfl | rfl | rfl | rfl | rfl <;> first | exact hc | exact List.mem_of_mem_drop hc
theorem mem_gD {α : Type _} {l : List (List α)} {n : Nat} {x : α} (h : x ∈ l.getD n []) : ∃ y ∈ l, x ∈ y := by
  rw [List.getD_eq_getElem?_getD] at h
  cases ht : l[n]? with
  | none => rw [ht] at h; cases h
  | some y => rw [ht] at h; exact ⟨y, List.mem_of_getElem? ht, h⟩
noncomputable def twq : List (List (List Cond)) := [[], dk tables_1_1, dk tables_1_2, dk tables_1_3, dk tables_1_4, dk tables_1_5, dk tables_1_6, dk tables_1_7, dk tables_1_8, dk tables_1_9, dk tables_1_10]
noncomputable def wt (i : Nat) : Option Cond := ((twq.getD (i / 1000) []).getD (i % 1000 / 20) [])[i % 20]?
theorem wt_mem {i : Nat} {c : Cond} (h : wt i = some c) : c ∈ tables_1 := by
  have h0 : c ∈ ((twq.getD (i / 1000) []).getD (i % 1000 / 20) []) := List.mem_of_getElem? h
  obtain ⟨l, hl, hc⟩ := mem_gD h0
  obtain ⟨T, hT, hl'⟩ := mem_gD hl
  simp only [twq, List.mem_cons, List.not_mem_nil, or_false] at hT
  unfold tables_1
  simp only [List.mem_append]
  rcases hT with rfl | rfl | rfl | rfl | rfl | rfl | rfl | rfl | rfl | rfl | rfl
  · cases hl'
  all_goals
    have hx := dk_mem hl' hc
    simp only [hx, true_or, or_true]
noncomputable def lw_okB (q : MethodName × Nat) (i : Nat × Nat × Nat) : Bool := decide (q.1.cls ≠ "java/lang/invoke/MethodHandle") && decide (q.1.cls ≠ "java/lang/invoke/VarHandle") && decide (wt i.1 = some (Cond.instantiable q.1.cls q.2)) && decide (wt i.2.1 = some (Cond.privateMethod q.1)) && decide (wt i.2.2 = some (Cond.instanceMethod q.1))
theorem lw_okB_ok {q : MethodName × Nat} {i : Nat × Nat × Nat} (h : lw_okB q i = true) : lw_okq q := by
  unfold lw_okB at h
  rw [Bool.and_eq_true, Bool.and_eq_true, Bool.and_eq_true, Bool.and_eq_true, decide_eq_true_eq, decide_eq_true_eq, decide_eq_true_eq, decide_eq_true_eq, decide_eq_true_eq] at h
  exact ⟨⟨h.1.1.1.1, h.1.1.1.2⟩, wt_mem h.1.1.2, wt_mem h.1.2, wt_mem h.2⟩
noncomputable def lw_chk : List (MethodName × Nat) → List (Nat × Nat × Nat) → Bool
  | [], _ => true
  | _ :: _, [] => false
  | q :: l, i :: r => lw_okB q i && lw_chk l r
theorem lw_chk_ok : ∀ (l : List (MethodName × Nat)) (r : List (Nat × Nat × Nat)), lw_chk l r = true → ∀ q ∈ l, lw_okq q := by
  intro l
  induction l with
  | nil => intro r _ q hq; cases hq
  | cons a l ih =>
    intro r h q hq
    cases r with
    | nil => cases h
    | cons i r =>
      have h' := (Bool.and_eq_true _ _).mp h
      rcases List.mem_cons.mp hq with rfl | hq
      · exact lw_okB_ok h'.1
      · exact ih r h'.2 q hq
noncomputable def lw_privs_1 : List (MethodName × Nat) := [(⟨"SupplyBook", "feedInt", "(I)V"⟩, 14), (⟨"SupplyBook$Reader", "begin", "([BII)V"⟩, 13), (⟨"SupplyBook$Reader", "step", "()V"⟩, 13), (⟨"SupplyBook$Reader", "readClause", "(Z)V"⟩, 13), (⟨"SupplyBook$Reader", "isNextOf", "(Ljava/lang/String;)Z"⟩, 13), (⟨"SupplyBook$Reader", "fail", "(II)V"⟩, 13), (⟨"SupplyBook$Reader", "readMoney", "(I)I"⟩, 13), (⟨"SupplyBook$Reader", "readNumber", "(I)I"⟩, 13), (⟨"SupplyBook$Reader", "isNextDigit", "()Z"⟩, 13), (⟨"SupplyBook$Reader", "expect", "(C)V"⟩, 13), (⟨"SupplyBook$Reader", "readRule", "(I)I"⟩, 13), (⟨"SupplyBook$Reader", "readCondition", "(IZ)Z"⟩, 13), (⟨"SupplyBook$Reader", "readPart", "(IZ)Z"⟩, 13), (⟨"SupplyBook$Reader", "readPiece", "(IZ)Z"⟩, 13), (⟨"SupplyBook$Reader", "opensOneMore", "(I)Z"⟩, 13), (⟨"SupplyBook$Reader", "readExpression", "(IZ)J"⟩, 13)]
theorem lw_r1 : ∀ q ∈ lw_privs_1, lw_okq q := lw_chk_ok lw_privs_1 [(1024, 2209, 2210), (1062, 2225, 2226), (1062, 2229, 2230), (1062, 2233, 2234), (1062, 2238, 2239), (1062, 3082, 3083), (1062, 3086, 3087), (1062, 3090, 3091), (1062, 3094, 3095), (1062, 3098, 3099), (1062, 3103, 3104), (1062, 3107, 3108), (1062, 3111, 3112), (1062, 3115, 3116), (1062, 3119, 3120), (1062, 3123, 3124)] (by decide +kernel)
noncomputable def lw_privs_2 : List (MethodName × Nat) := [(⟨"SupplyBook$Reader", "readTerm", "(IZ)J"⟩, 13), (⟨"SupplyBook$Reader", "readFactor", "(IZ)J"⟩, 13), (⟨"SupplyBook$Laws", "strikeLower", "(I)V"⟩, 5), (⟨"SupplyBook", "leftOf", "(ILSupplyBook$Authority;I)J"⟩, 14), (⟨"SupplyBook", "paidUnderCeiling", "(LSupplyBook$Authority;I)J"⟩, 14), (⟨"SupplyBook", "whoLets", "(LSupplyBook$Claim;)I"⟩, 14), (⟨"SupplyBook", "tellReader", "(LSupplyBook$Claim;)V"⟩, 14), (⟨"SupplyBook", "barOf", "(LSupplyBook$Claim;ILSupplyBook$Authority;)I"⟩, 14), (⟨"SupplyBook", "isOverCeiling", "(LSupplyBook$Claim;II)Z"⟩, 14), (⟨"SupplyBook$Reader", "barOfRule", "(IZI)I"⟩, 13), (⟨"SupplyBook$Cuts", "chooseFrom", "(IJJJI)V"⟩, 9), (⟨"SupplyBook$Cuts", "isWorse", "(JJ)Z"⟩, 9), (⟨"SupplyBook$Cuts", "searchMore", "(IJJ)V"⟩, 9), (⟨"SupplyBook$Weeks", "placeOf", "(III)I"⟩, 11), (⟨"SupplyBook$Weeks", "dueIn", "(II)J"⟩, 11), (⟨"SupplyBook$Weeks", "reckonFlow", "(II)V"⟩, 11)]
theorem lw_r2 : ∀ q ∈ lw_privs_2, lw_okq q := lw_chk_ok lw_privs_2 [(1062, 3127, 3128), (1062, 3131, 3132), (1136, 3188, 3189), (1024, 4124, 4125), (1024, 4128, 4129), (1024, 5080, 5081), (1024, 5084, 5085), (1024, 5111, 5112), (1024, 5116, 5117), (1062, 5132, 5133), (1238, 5169, 5170), (1238, 5173, 5174), (1238, 5186, 5187), (2034, 5208, 5209), (2034, 6020, 6021), (2034, 6028, 6029)] (by decide +kernel)
noncomputable def lw_privs_3 : List (MethodName × Nat) := [(⟨"SupplyBook$Loans", "lowestBid", "(I)I"⟩, 12), (⟨"SupplyBook", "fallsByNow", "(LSupplyBook$Authority;)Z"⟩, 14), (⟨"SupplyBook", "firstWrong", "(IILSupplyBook$Claim;)I"⟩, 14), (⟨"SupplyBook", "tapeInt", "(I)I"⟩, 14), (⟨"SupplyBookModel", "isHead", "(I)Z"⟩, 107), (⟨"SupplyBookModel", "isUnder", "(II)Z"⟩, 107), (⟨"SupplyBookModel", "push", "(I)V"⟩, 107), (⟨"SupplyBookModel", "readText", "(IZ)I"⟩, 107), (⟨"SupplyBookModel", "isGood", "()Z"⟩, 107), (⟨"SupplyBookModel", "clause", "()V"⟩, 107), (⟨"SupplyBookModel", "here", "()I"⟩, 107), (⟨"SupplyBookModel", "fails", "(II)V"⟩, 107), (⟨"SupplyBookModel", "condition", "()V"⟩, 107), (⟨"SupplyBookModel", "opens", "()V"⟩, 107), (⟨"SupplyBookModel", "piece", "()V"⟩, 107), (⟨"SupplyBookModel", "reads", "(I)I"⟩, 107)]
theorem lw_r3 : ∀ q ∈ lw_privs_3, lw_okq q := lw_chk_ok lw_privs_3 [(2076, 6086, 6087), (1024, 6202, 6203), (1024, 7007, 7008), (1024, 7011, 7012), (7036, 8137, 8138), (7036, 8145, 8146), (7036, 8158, 8159), (7036, 8167, 8168), (7036, 8171, 8172), (7036, 8175, 8176), (7036, 8179, 8180), (7036, 8189, 8190), (7036, 8193, 8194), (7036, 8197, 8198), (7036, 8201, 8202), (7036, 8205, 8206)] (by decide +kernel)
noncomputable def lw_privs_4 : List (MethodName × Nat) := [(⟨"SupplyBookModel", "seesDigit", "()Z"⟩, 107), (⟨"SupplyBookModel", "emit", "(II)V"⟩, 107), (⟨"SupplyBookModel", "expression", "()V"⟩, 107), (⟨"SupplyBookModel", "factor", "()V"⟩, 107), (⟨"SupplyBookModel", "goesOn", "()Z"⟩, 107), (⟨"SupplyBookModel", "sums", "(Z)V"⟩, 107), (⟨"SupplyBookModel", "top", "()I"⟩, 107), (⟨"SupplyBookModel", "goesOnBehind", "()Z"⟩, 107), (⟨"SupplyBookModel", "ends", "()V"⟩, 107), (⟨"SupplyBookModel", "goesBehind", "()Z"⟩, 107), (⟨"SupplyBookModel", "joins", "(Z)V"⟩, 107), (⟨"SupplyBookModel", "keepsText", "(I)V"⟩, 107), (⟨"SupplyBookModel", "strikes", "(I)V"⟩, 107), (⟨"SupplyBookModel", "isInForce", "(II)Z"⟩, 107), (⟨"SupplyBookModel", "isCounted", "(III)Z"⟩, 107), (⟨"SupplyBookModel", "numberOf", "(II)I"⟩, 107)]
theorem lw_r4 : ∀ q ∈ lw_privs_4, lw_okq q := lw_chk_ok lw_privs_4 [(7036, 8209, 8210), (7036, 8215, 8216), (7036, 8219, 8220), (7036, 8223, 8224), (7036, 8231, 8232), (7036, 9001, 9002), (7036, 9005, 9006), (7036, 9009, 9010), (7036, 9016, 9017), (7036, 9020, 9021), (7036, 9024, 9025), (7036, 9029, 9030), (7036, 9037, 9038), (7036, 9041, 9042), (7036, 9045, 9046), (7036, 9053, 9054)] (by decide +kernel)
noncomputable def lw_privs_5 : List (MethodName × Nat) := [(⟨"SupplyBookModel", "makes", "(IIII)I"⟩, 107), (⟨"SupplyBookModel", "isAuthority", "(I)Z"⟩, 107), (⟨"SupplyBookModel", "year", "()I"⟩, 107), (⟨"SupplyBookModel", "isOf", "(II)Z"⟩, 107), (⟨"SupplyBookModel", "leftOf", "(II)J"⟩, 107), (⟨"SupplyBookModel", "paidBy", "(III)J"⟩, 107), (⟨"SupplyBookModel", "isPaidIn", "(II)Z"⟩, 107), (⟨"SupplyBookModel", "countsBy", "(I)I"⟩, 107), (⟨"SupplyBookModel", "boundBy", "(II)J"⟩, 107), (⟨"SupplyBookModel", "canMove", "(I)Z"⟩, 107), (⟨"SupplyBookModel", "isHand", "(I)Z"⟩, 107), (⟨"SupplyBookModel", "isClaim", "(I)Z"⟩, 107), (⟨"SupplyBookModel", "lets", "(I)I"⟩, 107), (⟨"SupplyBookModel", "bar", "(II)I"⟩, 107), (⟨"SupplyBookModel", "isBelowCeilings", "(II)Z"⟩, 107), (⟨"SupplyBookModel", "barsOfTexts", "(I)I"⟩, 107)]
theorem lw_r5 : ∀ q ∈ lw_privs_5, lw_okq q := lw_chk_ok lw_privs_5 [(7036, 9065, 9066), (7036, 9073, 9074), (7036, 9081, 9082), (7036, 9090, 9091), (7036, 9094, 9095), (7036, 9098, 9099), (7036, 9102, 9103), (7036, 9106, 9107), (7036, 9110, 9111), (7036, 9123, 9124), (7036, 9140, 9141), (7036, 9149, 9150), (7036, 9157, 9158), (7036, 9161, 9162), (7036, 9165, 9166), (7036, 9169, 9170)] (by decide +kernel)
noncomputable def lw_privs_6 : List (MethodName × Nat) := [(⟨"SupplyBookModel", "barOf", "(I)I"⟩, 107), (⟨"SupplyBookModel", "holds", "(I)I"⟩, 107), (⟨"SupplyBookModel", "does", "(II)V"⟩, 107), (⟨"SupplyBookModel", "letterOf", "(I)J"⟩, 107), (⟨"SupplyBookModel", "rankOf", "(I)I"⟩, 107), (⟨"SupplyBookModel", "hasFloors", "(I)Z"⟩, 107), (⟨"SupplyBookModel", "sumOf", "(I)J"⟩, 107), (⟨"SupplyBookModel", "worthOf", "(I)I"⟩, 107), (⟨"SupplyBookModel", "week", "()I"⟩, 107), (⟨"SupplyBookModel", "cameIn", "(III)J"⟩, 107), (⟨"SupplyBookModel", "foretells", "(III)J"⟩, 107), (⟨"SupplyBookModel", "shortBy", "(I)I"⟩, 107), (⟨"SupplyBookModel", "costOf", "(I)J"⟩, 107), (⟨"SupplyBookModel", "nextBid", "()I"⟩, 107), (⟨"SupplyBookModel", "owed", "()J"⟩, 107), (⟨"SupplyBookModel", "interest", "(II)J"⟩, 107)]
theorem lw_r6 : ∀ q ∈ lw_privs_6, lw_okq q := lw_chk_ok lw_privs_6 [(7036, 9173, 9174), (7036, 9177, 9178), (7036, 9181, 9182), (7036, 9188, 9189), (7036, 9192, 9193), (7036, 9209, 9210), (7036, 9213, 9214), (7036, 9217, 9218), (7036, 9231, 9232), (7036, 9235, 9236), (7036, 10009, 10010), (7036, 10021, 10022), (7036, 10033, 10034), (7036, 10053, 10054), (7036, 10057, 10058), (7036, 10065, 10066)] (by decide +kernel)
noncomputable def lw_privs_7 : List (MethodName × Nat) := [(⟨"SupplyBookModel", "surcharges", "(I)J"⟩, 107), (⟨"SupplyBookModel", "isMeant", "(IIII)Z"⟩, 107), (⟨"SupplyBookModel", "copiesText", "(II)V"⟩, 107), (⟨"SupplyBookModel", "paidAfter", "(II)I"⟩, 107), (⟨"SupplyBookModel", "numberAt", "(I)I"⟩, 107)]
theorem lw_r7 : ∀ q ∈ lw_privs_7, lw_okq q := lw_chk_ok lw_privs_7 [(7036, 10098, 10099), (7036, 10118, 10119), (7036, 10126, 10127), (7036, 10134, 10135), (7036, 10138, 10139)] (by decide +kernel)
noncomputable def lw_privs : List (MethodName × Nat) := lw_privs_1 ++ (lw_privs_2 ++ (lw_privs_3 ++ (lw_privs_4 ++ (lw_privs_5 ++ (lw_privs_6 ++ (lw_privs_7))))))
noncomputable def lw_tbl : List Cond := k2_sels lw_privs ++ tables_1
theorem lw_privs_ok : ∀ q ∈ lw_privs, lw_okq q := by
  show ∀ q ∈ lw_privs_1 ++ (lw_privs_2 ++ (lw_privs_3 ++ (lw_privs_4 ++ (lw_privs_5 ++ (lw_privs_6 ++ (lw_privs_7)))))), lw_okq q
  exact List.forall_mem_append.mpr ⟨lw_r1, List.forall_mem_append.mpr ⟨lw_r2, List.forall_mem_append.mpr ⟨lw_r3, List.forall_mem_append.mpr ⟨lw_r4, List.forall_mem_append.mpr ⟨lw_r5, List.forall_mem_append.mpr ⟨lw_r6, lw_r7⟩⟩⟩⟩⟩⟩
