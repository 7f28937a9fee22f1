/-! what the tables say, by places -/
theorem wat_mem {i : Nat} {c : Cond} (h : wat i = some c) : c ∈ lw_tbl := by
  have h0 : c ∈ ((tbq.getD (i / 1000) []).getD (i % 1000 / 20) []) := List.mem_of_getElem? h
  obtain ⟨l, hl, hc⟩ := mem_gD h0
  obtain ⟨T, hT, hl'⟩ := mem_gD hl
  have e : tbq = tbs.map dk := rfl
  rw [e] at hT
  obtain ⟨t, ht, rfl⟩ := List.mem_map.mp hT
  exact tbs_mem t ht c (dk_mem hl' hc)
/-- words that last while a method runs -/
noncomputable def kw (c : Cond) : Bool := match c with
  | .fieldLinkNest .. => true
  | .methodLinkNest .. => true
  | .castable .. => true
  | .arrayOver (.object _) => true
  | c => goodWord c
noncomputable def wok1 (i : Nat) (c : Cond) : Bool := decide (wat i = some c) && kw c
theorem wok1_mem {i : Nat} {c : Cond} (h : wok1 i c = true) : c ∈ lw_tbl ∧ kw c = true := by
  unfold wok1 at h
  rw [Bool.and_eq_true, decide_eq_true_eq] at h
  exact ⟨wat_mem h.1, h.2⟩
noncomputable def layOk (ci k : Nat) : Bool := wok1 ((lyl.getD ci []).getD k 0) (u_lay (cnm ci) (TT ci) k)
theorem lay_ok : ((List.range 13).all fun ci => (List.range (NN ci)).all fun k => layOk ci k) = true := by decide +kernel
theorem ty_ok : ((List.range 13).all fun ci => (List.range (NN ci)).all fun k => decide (parseFieldDescriptor (TT ci k).2.2.1 = some (fty ci k))) = true := by decide +kernel
/-- kinds of slots by types -/
noncomputable def fk (t : FieldType) : Nat := match t with
  | .int => 0
  | .long => 1
  | .byte => 3
  | .boolean => 4
  | .char => 5
  | .object _ => 2
  | .array _ => 2
  | _ => 7
theorem fc_ok : ((List.range 13).all fun ci => (List.range (NN ci)).all fun k => fcd ci k == fk (fty ci k)) = true := by decide +kernel
theorem nm_ok : ((List.range 13).all fun ci => (List.range (NN ci)).all fun a => (List.range (NN ci)).all fun b => a == b || decide ((TT ci a).2.1 ≠ (TT ci b).2.1)) = true := by decide +kernel
noncomputable def mwOk (m : Nat) : Bool := wok1 (mw m).2.2.1 (.initialized (ynm m).cls) && plainName (ynm m).cls && decide ((ynm m).cls ≠ "java/lang/invoke/MethodHandle") && decide ((ynm m).cls ≠ "java/lang/invoke/VarHandle") && (match (mw m).1 with
  | 0 => wok1 (mw m).2.2.2.1 (.static (ynm m))
  | 1 => wok1 (mw m).2.2.2.1 (.instanceMethod (ynm m)) && wok1 (mw m).2.2.2.2 (.selects (ynm m).cls (ynm m) (ynm m))
  | _ => wok1 (mw m).2.2.2.1 (.instanceMethod (ynm m)) && decide ((ynm m).name = "<init>"))
theorem mw_ok : ((List.range 336).all fun m => mwOk (m + 1)) = true := by decide +kernel
theorem fkl_ok : (fkl.all fun q => wok1 q.2.2.2.2.1 (match q.2.2.2.2.2 with
  | true => .fieldLinkNest (cnm q.1) q.2.1 (cnm q.2.2.1) (TT q.2.2.1 q.2.2.2.1).2.1 (TT q.2.2.1 q.2.2.2.1).2.2.1 "SupplyBook"
  | false => .fieldLink (cnm q.1) q.2.1 (cnm q.2.2.1) (TT q.2.2.1 q.2.2.2.1).2.1 (TT q.2.2.1 q.2.2.2.1).2.2.1)) = true := by decide +kernel
theorem mkl_ok : (mkl.all fun q => wok1 q.2.2.2.1 (match q.2.2.2.2 with
  | true => .methodLinkNest (cnm q.1) q.2.1 (ynm q.2.2.1) "SupplyBook"
  | false => .methodLink (cnm q.1) q.2.1 (ynm q.2.2.1))) = true := by decide +kernel
theorem obl_ok : (obl.all fun q => wok1 q.2.2 (.methodLink (cnm q.1) q.2.1 objectInit)) = true := by decide +kernel
theorem ckl_ok : (ckl.all fun q => wok1 q.2.2.2 (.classLink (cnm q.1) q.2.1 (cnm q.2.2.1))) = true := by decide +kernel
theorem akl_ok : (akl.all fun q => wok1 q.2.2.2 (.classLink (cnm q.1) q.2.1 (cnm q.2.2.1))) = true := by decide +kernel
noncomputable def adn (t : Nat) : String := match t with
  | 0 => "[B"
  | _ => "[I"
theorem kkl_ok : (kkl.all fun q => wok1 q.2.2.2 (.classLink (cnm q.1) q.2.1 (adn q.2.2.1))) = true := by decide +kernel
theorem lkl_ok : (lkl.all fun q => wok1 q.2.2.2 (.constantLong (cnm q.1) q.2.1 (Int64.ofInt q.2.2.1)) && decide (-9223372036854775808 ≤ q.2.2.1) && decide (q.2.2.1 ≤ 9223372036854775807)) = true := by decide +kernel
theorem ikl_ok : (ikl.all fun q => wok1 q.2.2.2 (.constant (cnm q.1) q.2.1 (Int32.ofInt q.2.2.1)) && decide (-2147483648 ≤ q.2.2.1) && decide (q.2.2.1 ≤ 2147483647)) = true := by decide +kernel
theorem skl_ok : (skl.all fun q => wok1 q.2.2.2 (match q.2.2.1 with
  | 0 => .fieldLink (cnm q.1) q.2.1 "java/lang/String" "value" "[B"
  | _ => .fieldLink (cnm q.1) q.2.1 "java/lang/String" "coder" "B")) = true := by decide +kernel
theorem gkl_ok : (gkl.all fun q => wok1 q.2.2.2.1 (match q.2.2.2.2 with
  | true => .fieldLinkNest (cnm q.1) q.2.1 (svl.getD q.2.2.1 ("", "", "")).1 (svl.getD q.2.2.1 ("", "", "")).2.1 (svl.getD q.2.2.1 ("", "", "")).2.2 "SupplyBook"
  | false => .fieldLink (cnm q.1) q.2.1 (svl.getD q.2.2.1 ("", "", "")).1 (svl.getD q.2.2.1 ("", "", "")).2.1 (svl.getD q.2.2.1 ("", "", "")).2.2)) = true := by decide +kernel
theorem cln_ok : (cln.all fun q => wok1 q.2.2.2 (.methodLink (cnm q.1) q.2.1 ⟨adn q.2.2.1, "clone", "()Ljava/lang/Object;"⟩)) = true := by decide +kernel
noncomputable def mnm (k : Nat) : MethodName := match k with
  | 9990 => Lib.Math.max.name
  | 9991 => Lib.Math.min.name
  | 9992 => Lib.MathLoose.max_long.x
  | 9993 => Lib.MathLoose.min_long.x
  | 9998 => ⟨"[B", "clone", "()Ljava/lang/Object;"⟩
  | _ => arraycopyName
theorem xkl_ok : (xkl.all fun q => Nat.beq q.2.2.1 9998 || wok1 q.2.2.2 (.methodLink (cnm q.1) q.2.1 (mnm q.2.2.1))) = true := by decide +kernel
