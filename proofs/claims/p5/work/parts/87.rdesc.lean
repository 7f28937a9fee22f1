/-! the reference reads an expression as the descent does -/
noncomputable def FOk (L : Nat) (xs : Nat → Int) (d : Nat) (t : TB) (n : Nat) (S : AH) (cd : CD) (st : List Int) (r : PR) : Prop := match r with
  | .inl e => ∃ T, XA L xs d S = some (0, T) ∧ Bd S T e
  | .inr (q, g) => ∃ T, XA L xs d S = XB L xs d T ∧ RZ t n T q (cd ++ g) st ∧ Zf S T
noncomputable def TOk (L : Nat) (xs : Nat → Int) (d : Nat) (t : TB) (n : Nat) (is : Int → Prop) (X : Rs) (S : AH) (cd : CD) (st : List Int) (r : PR) : Prop := match r with
  | .inl e => ∃ T, X = some (0, T) ∧ Bd S T e
  | .inr (q, g) => ∃ (T : AH) (pd : List Int) (g' : CD), g = g' ++ pdc pd ∧ (∀ x, x ∈ pd → is x) ∧ X = XB L xs d T ∧ RZ t n T q (cd ++ g') (pd ++ st) ∧ Zf S T
section
variable {L : Nat} {xs : Nat → Int} {d : Nat} {S S' T U W : AH} {t : TB} {n p : Nat} {cd : CD} {st pd : List Int}
theorem tm_pm {c : Int} (h : isTm c = true) : isPm c = false := by
  unfold isTm at h
  have := of_decide_eq_true h
  unfold isPm
  exact decide_eq_false (by first | decide | omega)
theorem pm_tm {c : Int} (h : isPm c = true) : isTm c = false := by
  unfold isPm at h
  have := of_decide_eq_true h
  unfold isTm
  exact decide_eq_false (by first | decide | omega)
theorem bad_of {X Y : Rs} {e : Int} (hXY : X = Y) (hz : Zf S T) (h : ∃ U, Y = some (0, U) ∧ Bd T U e) : ∃ U, X = some (0, U) ∧ Bd S U e := by
  obtain ⟨U, u1, u2⟩ := h
  exact ⟨U, hXY.trans u1, u2.of hz⟩
/-- a term's row -/
theorem ter_row (f : Nat) (h1 : isTm (st.headD 0) = false) (hf : ∀ (p : Nat) (S : AH) (cd : CD) (s : List Int), RZ t n S p cd s → opn s = opn st → FOk L xs d t n S cd s (facG t n (rdE t n f) (opn s) p)) : ∀ (k p : Nat) (g g' : CD) (pd : List Int) (S : AH), RZ t n S p (cd ++ g') (pd ++ st) → g = g' ++ pdc pd → (∀ x, x ∈ pd → isTm x = true) → TOk L xs d t n (fun x => isTm x = true) (XB L xs d S) S cd st (rowL t n isTm (facG t n (rdE t n f) (opn st)) k p g) := by
  intro k
  induction k with
  | zero =>
    intro p g g' pd S H e ha
    exact ⟨S, pd, g', e, ha, rfl, H, Zf.rf⟩
  | succ k ih =>
    intro p g g' pd S H e ha
    unfold rowL
    by_cases c : isTm (cu t n p) = true
    · rw [if_pos c]
      obtain ⟨T, t1, t2, t3⟩ := XB_op (L := L) (xs := xs) (d := d) H (Or.inl c) (fun x hx => Or.inl (ha x hx)) h1 (fun q => absurd (tm_pm c) (by rw [q]; decide))
      rw [List.append_assoc, ← e] at t2
      have hF := hf _ _ _ _ t2 (opn_op (tm_br c))
      rw [opn_op (tm_br c)] at hF
      revert hF
      cases hp : facG t n (rdE t n f) (opn st) (p + 1) with
      | inl x => exact fun hF => bad_of t1 t3 hF
      | inr x =>
        obtain ⟨q, g2⟩ := x
        rintro ⟨U, u1, u2, u3⟩
        rw [List.append_assoc] at u2
        have hI := ih q (g ++ g2 ++ [(cu t n p, 0)]) (g ++ g2) [cu t n p] U u2 rfl (fun x hx => by rw [List.mem_singleton.mp hx]; exact c)
        show TOk L xs d t n (fun x => isTm x = true) (XB L xs d S) S cd st (rowL t n isTm (facG t n (rdE t n f) (opn st)) k q (g ++ g2 ++ [(cu t n p, 0)]))
        revert hI
        cases rowL t n isTm (facG t n (rdE t n f) (opn st)) k q (g ++ g2 ++ [(cu t n p, 0)]) with
        | inl x => exact fun hI => bad_of (t1.trans u1) (t3.tr u3) hI
        | inr x =>
          obtain ⟨q3, g3⟩ := x
          rintro ⟨V, pd3, g3', v1, v2, v3, v4, v5⟩
          exact ⟨V, pd3, g3', v1, v2, (t1.trans u1).trans v3, v4, (t3.tr u3).tr v5⟩
    · rw [if_neg c]
      exact ⟨S, pd, g', e, ha, rfl, H, Zf.rf⟩
theorem ter_ok (f : Nat) (h1 : isTm (st.headD 0) = false) (hf : ∀ (p : Nat) (S : AH) (cd : CD) (s : List Int), RZ t n S p cd s → opn s = opn st → FOk L xs d t n S cd s (facG t n (rdE t n f) (opn s) p)) (H : RZ t n S p cd st) : TOk L xs d t n (fun x => isTm x = true) (XA L xs d S) S cd st (terG t n (rdE t n f) (opn st) p) := by
  have hF := hf p S cd st H rfl
  unfold terG rowG
  revert hF
  cases facG t n (rdE t n f) (opn st) p with
  | inl x => exact fun hF => hF
  | inr x =>
    obtain ⟨q, g⟩ := x
    rintro ⟨T, t1, t2, t3⟩
    have hI := ter_row (cd := cd) f h1 hf 200 q g g [] T t2 (by rw [pdc_nil, List.append_nil]) (fun x hx => by cases hx)
    show TOk L xs d t n (fun x => isTm x = true) (XA L xs d S) S cd st (rowL t n isTm (facG t n (rdE t n f) (opn st)) 200 q g)
    revert hI
    cases rowL t n isTm (facG t n (rdE t n f) (opn st)) 200 q g with
    | inl x => exact fun hI => bad_of t1 t3 hI
    | inr x =>
      obtain ⟨q3, g3⟩ := x
      rintro ⟨V, pd3, g3', v1, v2, v3, v4, v5⟩
      exact ⟨V, pd3, g3', v1, v2, t1.trans v3, v4, t3.tr v5⟩
/-- an expression's row -/
theorem exp_row (f : Nat) (h1 : isTm (st.headD 0) = false) (h2 : isPm (st.headD 0) = false) (hf : ∀ (p : Nat) (S : AH) (cd : CD) (s : List Int), RZ t n S p cd s → opn s = opn st → FOk L xs d t n S cd s (facG t n (rdE t n f) (opn s) p)) : ∀ (k p : Nat) (g g' : CD) (pd : List Int) (S : AH), RZ t n S p (cd ++ g') (pd ++ st) → g = g' ++ pdc pd → (∀ x, x ∈ pd → isTm x = true ∨ isPm x = true) → TOk L xs d t n (fun x => isTm x = true ∨ isPm x = true) (XB L xs d S) S cd st (rowL t n isPm (terG t n (rdE t n f) (opn st)) k p g) := by
  intro k
  induction k with
  | zero =>
    intro p g g' pd S H e ha
    exact ⟨S, pd, g', e, ha, rfl, H, Zf.rf⟩
  | succ k ih =>
    intro p g g' pd S H e ha
    unfold rowL
    by_cases c : isPm (cu t n p) = true
    · rw [if_pos c]
      obtain ⟨T, t1, t2, t3⟩ := XB_op (L := L) (xs := xs) (d := d) H (Or.inr c) (fun x hx => (ha x hx).imp id (fun q => ⟨c, q⟩)) h1 (fun _ => h2)
      rw [List.append_assoc, ← e] at t2
      have hF := ter_ok f (st := cu t n p :: st) (pm_tm c) (fun p S cd s q1 q2 => hf p S cd s q1 (q2.trans (opn_op (pm_br c)))) t2
      rw [opn_op (pm_br c)] at hF
      revert hF
      cases hp : terG t n (rdE t n f) (opn st) (p + 1) with
      | inl x => exact fun hF => bad_of t1 t3 hF
      | inr x =>
        obtain ⟨q, g2⟩ := x
        rintro ⟨U, pd2, g2', u0, ua, u1, u2, u3⟩
        have hI := ih q (g ++ g2 ++ [(cu t n p, 0)]) (g ++ g2') (pd2 ++ [cu t n p]) U (by rw [List.append_assoc] at u2; rw [List.append_assoc]; exact u2) (by rw [u0, pdc_app, pdc_cons, pdc_nil, List.append_assoc, List.append_assoc, List.append_assoc]) (fun x hx => by
          rcases List.mem_append.mp hx with y | y
          · exact Or.inl (ua x y)
          · rw [List.mem_singleton.mp y]
            exact Or.inr c)
        show TOk L xs d t n (fun x => isTm x = true ∨ isPm x = true) (XB L xs d S) S cd st (rowL t n isPm (terG t n (rdE t n f) (opn st)) k q (g ++ g2 ++ [(cu t n p, 0)]))
        revert hI
        cases rowL t n isPm (terG t n (rdE t n f) (opn st)) k q (g ++ g2 ++ [(cu t n p, 0)]) with
        | inl x => exact fun hI => bad_of (t1.trans u1) (t3.tr u3) hI
        | inr x =>
          obtain ⟨q3, g3⟩ := x
          rintro ⟨V, pd3, g3', v1, v2, v3, v4, v5⟩
          exact ⟨V, pd3, g3', v1, v2, (t1.trans u1).trans v3, v4, (t3.tr u3).tr v5⟩
    · rw [if_neg c]
      exact ⟨S, pd, g', e, ha, rfl, H, Zf.rf⟩
theorem exp_ok1 (f : Nat) (h1 : isTm (st.headD 0) = false) (h2 : isPm (st.headD 0) = false) (hf : ∀ (p : Nat) (S : AH) (cd : CD) (s : List Int), RZ t n S p cd s → opn s = opn st → FOk L xs d t n S cd s (facG t n (rdE t n f) (opn s) p)) (H : RZ t n S p cd st) : TOk L xs d t n (fun x => isTm x = true ∨ isPm x = true) (XA L xs d S) S cd st (rdE t n (f + 1) (opn st) p) := by
  have hF := ter_ok f h1 hf H
  show TOk L xs d t n (fun x => isTm x = true ∨ isPm x = true) (XA L xs d S) S cd st (rowG t n isPm (terG t n (rdE t n f) (opn st)) p)
  unfold rowG
  revert hF
  cases terG t n (rdE t n f) (opn st) p with
  | inl x => exact fun hF => hF
  | inr x =>
    obtain ⟨q, g⟩ := x
    rintro ⟨T, pd, g', t0, ta, t1, t2, t3⟩
    have hI := exp_row (cd := cd) f h1 h2 hf 200 q g g' pd T t2 t0 (fun x hx => Or.inl (ta x hx))
    show TOk L xs d t n (fun x => isTm x = true ∨ isPm x = true) (XA L xs d S) S cd st (rowL t n isPm (terG t n (rdE t n f) (opn st)) 200 q g)
    revert hI
    cases rowL t n isPm (terG t n (rdE t n f) (opn st)) 200 q g with
    | inl x => exact fun hI => bad_of t1 t3 hI
    | inr x =>
      obtain ⟨q3, g3⟩ := x
      rintro ⟨V, pd3, g3', v1, v2, v3, v4, v5⟩
      exact ⟨V, pd3, g3', v1, v2, t1.trans v3, v4, t3.tr v5⟩
theorem fac_ok (f : Nat) (he : ∀ (p : Nat) (S : AH) (cd : CD) (s : List Int), RZ t n S p cd s → isTm (s.headD 0) = false → isPm (s.headD 0) = false → 9 ≤ f + opn s → TOk L xs d t n (fun x => isTm x = true ∨ isPm x = true) (XA L xs d S) S cd s (rdE t n f (opn s) p)) (H : RZ t n S p cd st) (hd : 8 ≤ f + opn st) : FOk L xs d t n S cd st (facG t n (rdE t n f) (opn st) p) := by
  by_cases c : cu t n p = 91
  · have b3 := H.2.2.1.2.2
    have h200 := H.1.2.2
    obtain ⟨o1, o2⟩ := XA_open (L := L) (xs := xs) (d := d) H c
    unfold facG
    rw [if_pos c]
    by_cases c2 : 8 ≤ opn st
    · rw [if_pos c2]
      exact o1 (by first | decide | omega)
    · rw [if_neg c2]
      obtain ⟨T, t1, t2, t3⟩ := o2 (by first | decide | omega)
      have hb : opn (91 :: st) = opn st + 1 := opn_br (Or.inr (Or.inr rfl))
      have hE := he _ _ _ _ t2 (show isTm 91 = false by decide) (show isPm 91 = false by decide) (by first | decide | omega)
      rw [hb] at hE
      revert hE
      cases hr : rdE t n f (opn st + 1) (p + 1) with
      | inl x => exact fun hE => bad_of t1 t3 hE
      | inr x =>
        obtain ⟨q, g⟩ := x
        rintro ⟨U, pd, g', u0, ua, u1, u2, u3⟩
        obtain ⟨x1, x2⟩ := rdE_ex h200 f _ hr
        by_cases c3 : cu t n q = 93
        · show FOk L xs d t n S cd st (if cu t n q = 93 then .inr (q + 1, g) else .inl (flt 1 q))
          rw [if_pos c3]
          obtain ⟨V, v1, v2, v3⟩ := XB_close (L := L) (xs := xs) (d := d) u2 c3 ua
          rw [List.append_assoc, ← u0] at v2
          exact ⟨V, (t1.trans u1).trans v1, v2, (t3.tr u3).tr v3⟩
        · show FOk L xs d t n S cd st (if cu t n q = 93 then .inr (q + 1, g) else .inl (flt 1 q))
          rw [if_neg c3]
          by_cases c4 : isSg (cu t n q) = true
          · exact bad_of (t1.trans u1) (t3.tr u3) ((XB_sign (L := L) (xs := xs) (d := d) u2 c4 ua (show isTm 91 = false by decide) (show isPm 91 = false by decide)).2 (Or.inl rfl))
          · exact bad_of (t1.trans u1) (t3.tr u3) ((XB_end (L := L) (xs := xs) (d := d) u2 x1 x2 c3 (nf c4) ua (show isTm 91 = false by decide) (show isPm 91 = false by decide)).1 (show isSg 91 = false by decide))
  · have := XA_atom (L := L) (xs := xs) (d := d) H c (rdE t n f) (opn st)
    unfold FOk
    exact this
theorem exp_ok (f : Nat) : ∀ (p : Nat) (S : AH) (cd : CD) (s : List Int), RZ t n S p cd s → isTm (s.headD 0) = false → isPm (s.headD 0) = false → 9 ≤ f + opn s → TOk L xs d t n (fun x => isTm x = true ∨ isPm x = true) (XA L xs d S) S cd s (rdE t n f (opn s) p) := by
  induction f with
  | zero =>
    intro p S cd s H _ _ h
    have := H.2.2.1.2.2
    omega
  | succ f ih =>
    intro p S cd s H h1 h2 h
    exact exp_ok1 f h1 h2 (fun p S cd s2 q1 q2 => fac_ok f ih q1 (by first | decide | omega)) H
end
