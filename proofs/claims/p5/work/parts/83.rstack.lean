/-! the reference's reader: its stack and its code -/
noncomputable def emS (S : AH) (k : Nat) (c a : Int) : AH := wr (wr (wr S 91 k c) 92 k a) 72 22 ((k : Int) + 1)
/-- a ! that ends -/
noncomputable def enS : List Int → List Int
  | [] => []
  | c :: s => if c = 33 then enS s else c :: s
noncomputable def enC : List Int → CD
  | [] => []
  | c :: s => if c = 33 then (3, 0) :: enC s else []
section
variable {L : Nat} {xs : Nat → Int} {d : Nat} {S S' T U W : AH} {t : TB} {n p : Nat} {cd : CD} {st : List Int}
theorem opn_op {c : Int} (h : ¬ (c = 33 ∨ c = 40 ∨ c = 91)) : opn (c :: st) = opn st := by
  show (if c = 33 ∨ c = 40 ∨ c = 91 then 1 else 0) + opn st = opn st
  rw [if_neg h, Nat.zero_add]
theorem opn_br {c : Int} (h : c = 33 ∨ c = 40 ∨ c = 91) : opn (c :: st) = opn st + 1 := by
  show (if c = 33 ∨ c = 40 ∨ c = 91 then 1 else 0) + opn st = opn st + 1
  rw [if_pos h, Nat.add_comm]
theorem codes_snoc {f g : Nat → Int} (h : ∀ (i : Nat) (q : Int × Int), cd[i]? = some q → f i = q.1 ∧ g i = q.2) {x : Int × Int} (hf : f cd.length = x.1) (hg : g cd.length = x.2) : ∀ (i : Nat) (q : Int × Int), (cd ++ [x])[i]? = some q → f i = q.1 ∧ g i = q.2 := by
  intro i q hq
  by_cases e : i < cd.length
  · rw [List.getElem?_append_left e] at hq
    exact h i q hq
  · rw [List.getElem?_append_right (by first | decide | omega)] at hq
    have hl := (List.getElem?_eq_some_iff.mp hq).1
    have hi : i = cd.length := by
      simp only [List.length_singleton] at hl
      omega
    subst hi
    rw [Nat.sub_self] at hq
    simp only [List.getElem?_cons_zero, Option.some.injEq] at hq
    subst hq
    exact ⟨hf, hg⟩
theorem emS_z {k : Nat} {c a : Int} : Zf S (emS S k c a) := ((Zf.wA (by first | decide | omega)).tr (Zf.wA (by first | decide | omega))).tr (Zf.w72 (by first | decide | omega))
theorem emS_72 {k j : Nat} {c a : Int} : (emS S k c a).2 72 j = if j = 22 then (k : Int) + 1 else S.2 72 j := by
  unfold emS
  rw [wr_f, wr_c (by decide), wr_c (by decide)]
theorem emS_91 {k j : Nat} {c a : Int} : (emS S k c a).2 91 j = if j = k then c else S.2 91 j := by
  unfold emS
  rw [wr_c (by decide), wr_c (by decide), wr_f]
theorem emS_92 {k j : Nat} {c a : Int} : (emS S k c a).2 92 j = if j = k then a else S.2 92 j := by
  unfold emS
  rw [wr_c (by decide), wr_f, wr_c (by decide)]
theorem emS_93 {k : Nat} {c a : Int} : (emS S k c a).2 93 = S.2 93 := by
  unfold emS
  rw [wr_c (by decide), wr_c (by decide), wr_c (by decide)]
/-- the codes of a state with one more -/
theorem emS_cd {c a : Int} (h : ∀ (i : Nat) (q : Int × Int), cd[i]? = some q → S.2 91 i = q.1 ∧ S.2 92 i = q.2) : ∀ (i : Nat) (q : Int × Int), (cd ++ [(c, a)])[i]? = some q → (emS S cd.length c a).2 91 i = q.1 ∧ (emS S cd.length c a).2 92 i = q.2 := by
  refine codes_snoc (fun i q hq => ?_) (by rw [emS_91, if_pos rfl]) (by rw [emS_92, if_pos rfl])
  have hl := (List.getElem?_eq_some_iff.mp hq).1
  rw [emS_91, emS_92, if_neg (by first | decide | omega), if_neg (by first | decide | omega)]
  exact h i q hq
theorem m_emit (hb : S.2 72 20 = 0) {k : Nat} (hk : S.2 72 22 = k) (h2 : k < 220) (c a : Int) : ev (WK L xs) (d + 2) 216 [vr 72, vi c, vi a] S = some (0, emS S k c a) := by
  rw [q_216, m_good hb, bR, if_neg (by decide), hk, if_pos (by first | decide | omega), if_pos (by first | decide | omega), Int.toNat_natCast, w32e (by first | decide | omega) (by first | decide | omega)]
  rfl
theorem m_top (H : RZ t n S p cd st) : ev (WK L xs) (d + 1) 224 [vr 72] S = some (st.headD 0, S) := by
  obtain ⟨⟨z1, z2, z3⟩, ⟨h18, h20, h22, h23, h24, h26⟩, ⟨b1, b2, b3⟩, hc, hs⟩ := H
  rw [q_224, h24]
  cases st with
  | nil => rw [if_neg (by decide)]; rfl
  | cons c s =>
    rw [List.length_cons] at b2 h24 ⊢
    rw [if_pos (by first | decide | omega), w32e (x := ((s.length + 1 : Nat) : Int) - 1) (by first | decide | omega) (by first | decide | omega), if_pos (by first | decide | omega)]
    have := hs 0 c rfl
    rw [List.length_cons] at this
    rw [show (((s.length + 1 : Nat) : Int) - 1).toNat = s.length + 1 - 1 - 0 by omega, this]
    rfl
/-- an entry goes from the stack, a code comes -/
theorem RZ.pop {x : Int} (H : RZ t n S p cd (x :: st)) (hx : ¬ (x = 33 ∨ x = 40 ∨ x = 91)) (c : Int) : RZ t n (wr (emS S cd.length c 0) 72 24 (w32 ((emS S cd.length c 0).2 72 24 - 1))) p (cd ++ [(c, 0)]) st ∧ Zf S (wr (emS S cd.length c 0) 72 24 (w32 ((emS S cd.length c 0).2 72 24 - 1))) := by
  obtain ⟨z, ⟨h18, h20, h22, h23, h24, h26⟩, ⟨b1, b2, b3⟩, hc, hs⟩ := H
  have h200 := z.2.2
  rw [List.length_cons] at b2 h24 hs
  rw [opn_op hx] at h23 b3
  have hz : Zf S (wr (emS S cd.length c 0) 72 24 (w32 ((emS S cd.length c 0).2 72 24 - 1))) := emS_z.tr (Zf.w72 (by first | decide | omega))
  refine ⟨⟨z.fr hz, ⟨?_, ?_, ?_, ?_, ?_, ?_⟩, ⟨b1, ?_, b3⟩, ?_, fun i q hq => ?_⟩, hz⟩
  · rw [wr_f, if_neg (by decide), emS_72, if_neg (by decide), h18]
  · rw [wr_f, if_neg (by decide), emS_72, if_neg (by decide), h20]
  · rw [wr_f, if_neg (by decide), emS_72, if_pos rfl, List.length_append, List.length_singleton]
    omega
  · rw [wr_f, if_neg (by decide), emS_72, if_neg (by decide), h23]
  · rw [wr_f, if_pos rfl, emS_72, if_neg (by decide), h24, w32e (by first | decide | omega) (by first | decide | omega)]
    omega
  · rw [wr_f, if_neg (by decide), emS_72, if_neg (by decide), h26]
  · rw [List.length_append, List.length_singleton]
    omega
  · rw [wr_c (by decide), wr_c (by decide)]
    exact emS_cd hc
  · have hl := (List.getElem?_eq_some_iff.mp hq).1
    have := hs (i + 1) q hq
    rw [wr_c (by decide), emS_93, show st.length - 1 - i = st.length + 1 - 1 - (i + 1) by omega]
    exact this
theorem RZ.popN (H : RZ t n S p cd (33 :: st)) : RZ t n (wr (wr (emS S cd.length 3 0) 72 24 (w32 ((emS S cd.length 3 0).2 72 24 - 1))) 72 23 (w32 ((wr (emS S cd.length 3 0) 72 24 (w32 ((emS S cd.length 3 0).2 72 24 - 1))).2 72 23 - 1))) p (cd ++ [(3, 0)]) st ∧ Zf S (wr (wr (emS S cd.length 3 0) 72 24 (w32 ((emS S cd.length 3 0).2 72 24 - 1))) 72 23 (w32 ((wr (emS S cd.length 3 0) 72 24 (w32 ((emS S cd.length 3 0).2 72 24 - 1))).2 72 23 - 1))) := by
  obtain ⟨z, ⟨h18, h20, h22, h23, h24, h26⟩, ⟨b1, b2, b3⟩, hc, hs⟩ := H
  have h200 := z.2.2
  rw [List.length_cons] at b2 h24 hs
  rw [opn_br (Or.inl rfl)] at h23 b3
  have e23 : (wr (emS S cd.length 3 0) 72 24 (w32 ((emS S cd.length 3 0).2 72 24 - 1))).2 72 23 = S.2 72 23 := by rw [wr_f, if_neg (by decide), emS_72, if_neg (by decide)]
  have hz : Zf S (wr (wr (emS S cd.length 3 0) 72 24 (w32 ((emS S cd.length 3 0).2 72 24 - 1))) 72 23 (w32 ((wr (emS S cd.length 3 0) 72 24 (w32 ((emS S cd.length 3 0).2 72 24 - 1))).2 72 23 - 1))) := (emS_z.tr (Zf.w72 (by first | decide | omega))).tr (Zf.w72 (by first | decide | omega))
  refine ⟨⟨z.fr hz, ⟨?_, ?_, ?_, ?_, ?_, ?_⟩, ⟨b1, ?_, by omega⟩, ?_, fun i q hq => ?_⟩, hz⟩
  · rw [wr_f, if_neg (by decide), wr_f, if_neg (by decide), emS_72, if_neg (by decide), h18]
  · rw [wr_f, if_neg (by decide), wr_f, if_neg (by decide), emS_72, if_neg (by decide), h20]
  · rw [wr_f, if_neg (by decide), wr_f, if_neg (by decide), emS_72, if_pos rfl, List.length_append, List.length_singleton]
    omega
  · rw [wr_f, if_pos rfl, e23, h23, w32e (by first | decide | omega) (by first | decide | omega)]
    omega
  · rw [wr_f, if_neg (by decide), wr_f, if_pos rfl, emS_72, if_neg (by decide), h24, w32e (by first | decide | omega) (by first | decide | omega)]
    omega
  · rw [wr_f, if_neg (by decide), wr_f, if_neg (by decide), emS_72, if_neg (by decide), h26]
  · rw [List.length_append, List.length_singleton]
    omega
  · rw [wr_c (by decide), wr_c (by decide), wr_c (by decide), wr_c (by decide)]
    exact emS_cd hc
  · have hl := (List.getElem?_eq_some_iff.mp hq).1
    have := hs (i + 1) q hq
    rw [wr_c (by decide), wr_c (by decide), emS_93, show st.length - 1 - i = st.length + 1 - 1 - (i + 1) by omega]
    exact this
theorem tm_br {c : Int} (h : isTm c = true) : ¬ (c = 33 ∨ c = 40 ∨ c = 91) := by
  unfold isTm at h
  have := of_decide_eq_true h
  omega
theorem pm_br {c : Int} (h : isPm c = true) : ¬ (c = 33 ∨ c = 40 ∨ c = 91) := by
  unfold isPm at h
  have := of_decide_eq_true h
  omega
theorem sg_br {c : Int} (h : isSg c = true) : ¬ (c = 33 ∨ c = 40 ∨ c = 91) := by
  unfold isSg at h
  have := of_decide_eq_true h
  omega
theorem nt {b : Bool} (h : b = false) : ¬ b = true := by
  rw [h]
  decide
theorem m_sumsL {pl : Int} (hpl : pl = 0 ∨ pl = 1) (h1 : isTm (st.headD 0) = false) (h2 : pl = 1 → isPm (st.headD 0) = false) : ∀ (pd : List Int) (cd : CD) (S : AH), RZ t n S p cd (pd ++ st) → (∀ c, c ∈ pd → isTm c = true ∨ (pl = 1 ∧ isPm c = true)) → ∃ T, LQ (WK L xs) (ev (WK L xs) (d + 3)) 223 0 [some (vr 72), some (vi pl)] [] S = some (0, T) ∧ RZ t n T p (cd ++ pdc pd) st ∧ Zf S T ∧ T.2 72 35 = S.2 72 35 := by
  intro pd
  induction pd with
  | nil =>
    intro cd S H _
    rw [List.nil_append] at H
    refine ⟨S, ?_, by rw [pdc_nil, List.append_nil]; exact H, Zf.rf, rfl⟩
    rw [q_223_0, m_top H, bR, m_times, bR]
    simp only [bi_0]
    rw [if_pos (nt h1)]
    rcases hpl with e | e
    · rw [if_pos e]
    · rw [if_neg (by first | decide | omega), m_top H, bR, m_plus, bR]
      simp only [bi_0]
      rw [if_pos (nt (h2 e))]
  | cons c pd ih =>
    intro cd S H hc
    rw [List.cons_append] at H
    have hk : cd.length < 220 := by
      have := H.2.2.1
      have := H.1.2.2
      omega
    have hx : ¬ (c = 33 ∨ c = 40 ∨ c = 91) := by
      rcases hc c List.mem_cons_self with z | z
      · exact tm_br z
      · exact pm_br z.2
    obtain ⟨H2, z2⟩ := H.pop hx c
    obtain ⟨T, t1, t2, t3, t4⟩ := ih _ _ H2 (fun x hx => hc x (List.mem_cons_of_mem _ hx))
    refine ⟨T, ?_, by rw [pdc_cons]; rw [List.append_assoc] at t2; exact t2, z2.tr t3, by rw [t4, wr_f, if_neg (by decide), emS_72, if_neg (by decide)]⟩
    have tp : ∀ dd, ev (WK L xs) (dd + 1) 224 [vr 72] S = some (c, S) := fun dd => m_top H
    rw [q_223_0, tp, bR, m_times, bR]
    simp only [bi_0]
    by_cases q : isTm c = true
    · rw [if_neg (fun z => z q), tp, bR, m_emit H.2.1.2.1 H.2.1.2.2.1 hk, bR]
      exact t1
    · rcases hc c List.mem_cons_self with z | z
      · exact absurd z q
      · rw [if_pos q, if_neg (by first | decide | omega), tp, bR, m_plus, bR]
        simp only [bi_0]
        rw [if_neg (fun y => y z.2), tp, bR, m_emit H.2.1.2.1 H.2.1.2.2.1 hk, bR]
        exact t1
theorem m_sums {pl : Int} (hpl : pl = 0 ∨ pl = 1) (h1 : isTm (st.headD 0) = false) (h2 : pl = 1 → isPm (st.headD 0) = false) {pd : List Int} (H : RZ t n S p cd (pd ++ st)) (hc : ∀ c, c ∈ pd → isTm c = true ∨ (pl = 1 ∧ isPm c = true)) : ∃ T, ev (WK L xs) (d + 4) 223 [vr 72, vi pl] S = some (0, T) ∧ RZ t n T p (cd ++ pdc pd) st ∧ Zf S T ∧ T.2 72 35 = S.2 72 35 := by
  rw [q_223, ← q_223_0]
  exact m_sumsL hpl h1 h2 pd cd S H hc
theorem m_joinsL {pl : Int} (hpl : pl = 0 ∨ pl = 1) (h1 : st.headD 0 ≠ 38) (h2 : pl = 1 → st.headD 0 ≠ 124) : ∀ (pd : List Int) (cd : CD) (S : AH), RZ t n S p cd (pd ++ st) → (∀ c, c ∈ pd → c = 38 ∨ (pl = 1 ∧ c = 124)) → ∃ T, LQ (WK L xs) (ev (WK L xs) (d + 3)) 229 0 [some (vr 72), some (vi pl)] [] S = some (0, T) ∧ RZ t n T p (cd ++ pdc pd) st ∧ Zf S T := by
  intro pd
  induction pd with
  | nil =>
    intro cd S H _
    rw [List.nil_append] at H
    refine ⟨S, ?_, by rw [pdc_nil, List.append_nil]; exact H, Zf.rf⟩
    rw [q_229_0, m_top H, bR, if_neg h1]
    rcases hpl with e | e
    · rw [if_pos e]
    · rw [if_neg (by first | decide | omega), m_top H, bR, if_neg (h2 e)]
  | cons c pd ih =>
    intro cd S H hc
    rw [List.cons_append] at H
    have hk : cd.length < 220 := by
      have := H.2.2.1
      have := H.1.2.2
      omega
    have hx : ¬ (c = 33 ∨ c = 40 ∨ c = 91) := by
      rcases hc c List.mem_cons_self with z | z <;> omega
    obtain ⟨H2, z2⟩ := H.pop hx c
    obtain ⟨T, t1, t2, t3⟩ := ih _ _ H2 (fun x hx => hc x (List.mem_cons_of_mem _ hx))
    refine ⟨T, ?_, by rw [pdc_cons]; rw [List.append_assoc] at t2; exact t2, z2.tr t3⟩
    have tp : ∀ dd, ev (WK L xs) (dd + 1) 224 [vr 72] S = some (c, S) := fun dd => m_top H
    rw [q_229_0, tp, bR]
    by_cases q : c = 38
    · rw [if_pos q, tp, bR, m_emit H.2.1.2.1 H.2.1.2.2.1 hk, bR]
      exact t1
    · rcases hc c List.mem_cons_self with z | z
      · exact absurd z q
      · rw [if_neg q, if_neg (by first | decide | omega), tp, bR, if_pos z.2, tp, bR, m_emit H.2.1.2.1 H.2.1.2.2.1 hk, bR]
        exact t1
theorem m_joins {pl : Int} (hpl : pl = 0 ∨ pl = 1) (h1 : st.headD 0 ≠ 38) (h2 : pl = 1 → st.headD 0 ≠ 124) {pd : List Int} (H : RZ t n S p cd (pd ++ st)) (hc : ∀ c, c ∈ pd → c = 38 ∨ (pl = 1 ∧ c = 124)) : ∃ T, ev (WK L xs) (d + 4) 229 [vr 72, vi pl] S = some (0, T) ∧ RZ t n T p (cd ++ pdc pd) st ∧ Zf S T := by
  rw [q_229, ← q_229_0]
  exact m_joinsL hpl h1 h2 pd cd S H hc
theorem m_endsL : ∀ (st : List Int) (cd : CD) (S : AH), RZ t n S p cd st → ∃ T, LQ (WK L xs) (ev (WK L xs) (d + 3)) 227 0 [some (vr 72)] [] S = some (0, T) ∧ RZ t n T p (cd ++ enC st) (enS st) ∧ Zf S T := by
  intro st
  induction st with
  | nil =>
    intro cd S H
    refine ⟨S, ?_, by show RZ t n S p (cd ++ []) []; rw [List.append_nil]; exact H, Zf.rf⟩
    rw [q_227_0, m_top H, bR, if_neg (by decide)]
  | cons c st ih =>
    intro cd S H
    have hk : cd.length < 220 := by
      have := H.2.2.1
      have := H.1.2.2
      omega
    by_cases q : c = 33
    · subst q
      obtain ⟨H2, z2⟩ := H.popN
      obtain ⟨T, t1, t2, t3⟩ := ih _ _ H2
      refine ⟨T, ?_, ?_, z2.tr t3⟩
      · rw [q_227_0, show ev (WK L xs) (d + 3) 224 [vr 72] S = some (33, S) from m_top H, bR, if_pos rfl, m_emit H.2.1.2.1 H.2.1.2.2.1 hk, bR]
        exact t1
      · rw [List.append_assoc] at t2
        exact t2
    · refine ⟨S, ?_, ?_, Zf.rf⟩
      · rw [q_227_0, show ev (WK L xs) (d + 3) 224 [vr 72] S = some (c, S) from m_top H, bR, if_neg q]
      · show RZ t n S p (cd ++ (if c = 33 then (3, 0) :: enC st else [])) (if c = 33 then enS st else c :: st)
        rw [if_neg q, if_neg q, List.append_nil]
        exact H
theorem m_ends (H : RZ t n S p cd st) : ∃ T, ev (WK L xs) (d + 4) 227 [vr 72] S = some (0, T) ∧ RZ t n T p (cd ++ enC st) (enS st) ∧ Zf S T := by
  rw [q_227, ← q_227_0]
  exact m_endsL st cd S H
/-- a sign goes to the stack, and the place goes on -/
theorem RZ.push (H : RZ t n S p cd st) (hT : Zf S T) (hp : p < n) {c : Int} (h18 : T.2 72 18 = (p : Int) + 1) (h20 : T.2 72 20 = 0) (h22 : T.2 72 22 = S.2 72 22) (h23 : T.2 72 23 = opn (c :: st)) (h24 : T.2 72 24 = (st.length : Int) + 1) (h26 : T.2 72 26 = 0) (h91 : T.2 91 = S.2 91) (h92 : T.2 92 = S.2 92) (h93 : ∀ j, T.2 93 j = if j = st.length then c else S.2 93 j) (h8 : opn (c :: st) ≤ 8) : RZ t n T (p + 1) cd (c :: st) := by
  obtain ⟨z, ⟨g18, g20, g22, g23, g24, g26⟩, ⟨b1, b2, b3⟩, hc, hs⟩ := H
  refine ⟨z.fr hT, ⟨by rw [h18]; omega, h20, by rw [h22, g22], h23, by rw [h24, List.length_cons]; omega, h26⟩, ⟨by omega, by rw [List.length_cons]; omega, h8⟩, by rw [h91, h92]; exact hc, fun i q hq => ?_⟩
  rw [List.length_cons, h93]
  cases i with
  | zero =>
    simp only [List.getElem?_cons_zero, Option.some.injEq] at hq
    rw [if_pos (by first | decide | omega), hq]
  | succ i =>
    simp only [List.getElem?_cons_succ] at hq
    have hl := (List.getElem?_eq_some_iff.mp hq).1
    rw [if_neg (by first | decide | omega), show st.length + 1 - 1 - (i + 1) = st.length - 1 - i by omega]
    exact hs i q hq
theorem m_opens (H : RZ t n S p cd st) (hc : cu t n p = 33 ∨ cu t n p = 40 ∨ cu t n p = 91) : (opn st = 8 → ∃ T, ev (WK L xs) (d + 2) 212 [vr 72] S = some (0, T) ∧ Bd S T (flt 5 p)) ∧ (opn st < 8 → ∃ T, ev (WK L xs) (d + 2) 212 [vr 72] S = some (0, T) ∧ RZ t n T (p + 1) cd (cu t n p :: st) ∧ Zf S T ∧ T.2 72 35 = S.2 72 35) := by
  have H0 := H
  obtain ⟨z, ⟨h18, h20, h22, h23, h24, h26⟩, ⟨b1, b2, b3⟩, hcd, hs⟩ := H
  have h200 := z.2.2
  have hp := cu_pos (t := t) (n := n) (p := p) (by first | decide | omega)
  refine ⟨fun q => ?_, fun q => ?_⟩
  · have zz : Zf S (wr S 72 20 (flt 5 p)) := Zf.w72 (by first | decide | omega)
    rw [q_212, h23, if_pos (by first | decide | omega), h18, m_fails h20 (by decide) (by first | decide | omega), bR, q_212_18, m_here (z.fr zz) (p := p) (by rw [wr_f, if_neg (by decide), h18]) (by first | decide | omega), bR, show (wr S 72 20 (flt 5 p)).2 72 24 = st.length by rw [wr_f, if_neg (by decide), h24], if_pos (by first | decide | omega)]
    refine ⟨_, rfl, (((zz.tr (Zf.wA (by first | decide | omega))).tr (Zf.w72 (by first | decide | omega))).tr (Zf.w72 (by first | decide | omega))).tr (Zf.w72 (by first | decide | omega)), ?_, flt_neg (by decide) _⟩
    rw [wr_f, if_neg (by decide), wr_f, if_neg (by decide), wr_f, if_neg (by decide), wr_c (by decide), wr_f, if_pos rfl]
  · rw [q_212, h23, if_neg (by first | decide | omega), q_212_18, m_here z h18 (by first | decide | omega), bR, h24, if_pos (by first | decide | omega), h23, h18, Int.toNat_natCast, w32e (x := (st.length : Int) + 1) (by first | decide | omega) (by first | decide | omega), w32e (x := (opn st : Int) + 1) (by first | decide | omega) (by first | decide | omega), w32e (x := (p : Int) + 1) (by first | decide | omega) (by first | decide | omega)]
    have hz : Zf S (wr (wr (wr (wr S 93 st.length (cu t n p)) 72 24 ((st.length : Int) + 1)) 72 23 ((opn st : Int) + 1)) 72 18 ((p : Int) + 1)) := (((Zf.wA (by first | decide | omega)).tr (Zf.w72 (by first | decide | omega))).tr (Zf.w72 (by first | decide | omega))).tr (Zf.w72 (by first | decide | omega))
    refine ⟨_, rfl, H0.push hz hp ?_ ?_ ?_ ?_ ?_ ?_ ?_ ?_ (fun j => ?_) (by rw [opn_br hc]; omega), hz, by rw [wr_f, if_neg (by decide), wr_f, if_neg (by decide), wr_f, if_neg (by decide), wr_c (by decide)]⟩
    · rw [wr_f, if_pos rfl]
    · rw [wr_f, if_neg (by decide), wr_f, if_neg (by decide), wr_f, if_neg (by decide), wr_c (by decide), h20]
    · rw [wr_f, if_neg (by decide), wr_f, if_neg (by decide), wr_f, if_neg (by decide), wr_c (by decide)]
    · rw [wr_f, if_neg (by decide), wr_f, if_pos rfl, opn_br hc]
      omega
    · rw [wr_f, if_neg (by decide), wr_f, if_neg (by decide), wr_f, if_pos rfl]
    · rw [wr_f, if_neg (by decide), wr_f, if_neg (by decide), wr_f, if_neg (by decide), wr_c (by decide), h26]
    · rw [wr_c (by decide), wr_c (by decide), wr_c (by decide), wr_c (by decide)]
    · rw [wr_c (by decide), wr_c (by decide), wr_c (by decide), wr_c (by decide)]
    · rw [wr_c (by decide), wr_c (by decide), wr_c (by decide), wr_f]
end
