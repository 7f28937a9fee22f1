/-! the reference reads a condition as the descent does -/
noncomputable def goodT (c : Int) : Prop := c = 33 ∨ c = 40 ∨ c = 38 ∨ c = 124
/-- what can't stand behind a piece -/
noncomputable def offB (c : Int) : Prop := c ≠ 38 ∧ c ≠ 124 ∧ c ≠ 41
noncomputable def POk (L : Nat) (xs : Nat → Int) (d : Nat) (t : TB) (n : Nat) (S : AH) (cd : CD) (st : List Int) (r : PR) : Prop := match r with
  | .inl e => ∃ T, CA L xs d S = some (0, T) ∧ Bd S T e
  | .inr (q, g) => (∃ T, CA L xs d S = CB L xs d T ∧ RZ t n T q (cd ++ g ++ enC st) (enS st) ∧ Zf S T) ∨ (offB (cu t n q) ∧ ∃ T, CA L xs d S = some (0, T) ∧ Bd S T (flt 1 q))
noncomputable def ROk (L : Nat) (xs : Nat → Int) (d : Nat) (t : TB) (n : Nat) (is : Int → Prop) (X : Rs) (S : AH) (cd : CD) (st : List Int) (r : PR) : Prop := match r with
  | .inl e => ∃ T, X = some (0, T) ∧ Bd S T e
  | .inr (q, g) => (∃ (T : AH) (pd : List Int) (g' : CD), g = g' ++ pdc pd ∧ (∀ x, x ∈ pd → is x) ∧ X = CB L xs d T ∧ RZ t n T q (cd ++ g') (pd ++ st) ∧ Zf S T) ∨ (offB (cu t n q) ∧ ∃ T, X = some (0, T) ∧ Bd S T (flt 1 q))
section
variable {L : Nat} {xs : Nat → Int} {d : Nat} {S S' T U W : AH} {t : TB} {n p : Nat} {cd : CD} {st pd : List Int}
theorem ROk.of {is : Int → Prop} {X Y : Rs} {r : PR} (hXY : X = Y) (hz : Zf S T) (h : ROk L xs d t n is Y T cd st r) : ROk L xs d t n is X S cd st r := by
  revert h
  cases r with
  | inl e => exact fun h => bad_of hXY hz h
  | inr x =>
    obtain ⟨q, g⟩ := x
    rintro (⟨V, pd3, g3', v1, v2, v3, v4, v5⟩ | ⟨h1, h2⟩)
    · exact Or.inl ⟨V, pd3, g3', v1, v2, hXY.trans v3, v4, hz.tr v5⟩
    · exact Or.inr ⟨h1, bad_of hXY hz h2⟩
theorem rowL_off {is : Int → Bool} {part : Nat → PR} (k q : Nat) (g : CD) (h : is (cu t n q) = false) : rowL t n is part k q g = .inr (q, g) := by
  cases k with
  | zero => rfl
  | succ k =>
    unfold rowL
    rw [if_neg (nt h)]
theorem off_and {c : Int} (h : offB c) : isAnd c = false := decide_eq_false h.1
theorem off_or {c : Int} (h : offB c) : isOr c = false := decide_eq_false h.2.1
theorem cmp_ok (h : goodT (st.headD 0)) (H : RZ t n S p cd st) : match cmpG t n (opn st) p with
    | .inl e => ∃ T, XA L xs d S = some (0, T) ∧ Bd S T e
    | .inr (q, g) => (∃ T, XA L xs d S = some (0, T) ∧ RZ t n T q (cd ++ g) st ∧ Zf S T) ∨ (offB (cu t n q) ∧ ∃ T, XA L xs d S = some (0, T) ∧ Bd S T (flt 1 q)) := by
  have h200 := H.1.2.2
  have k1 : isTm (st.headD 0) = false := by
    rcases h with e | e | e | e <;> rw [e] <;> decide
  have k2 : isPm (st.headD 0) = false := by
    rcases h with e | e | e | e <;> rw [e] <;> decide
  have k3 : isSg (st.headD 0) = false := by
    rcases h with e | e | e | e <;> rw [e] <;> decide
  have k4 : st.headD 0 ≠ 91 := by
    rcases h with e | e | e | e <;> rw [e] <;> decide
  have hE := exp_ok (L := L) (xs := xs) (d := d) 9 p S cd st H k1 k2 (by first | decide | omega)
  unfold cmpG
  revert hE
  cases hr : rdE t n 9 (opn st) p with
  | inl e => exact fun hE => hE
  | inr x =>
    obtain ⟨q, g⟩ := x
    rintro ⟨U, pd, g', u0, ua, u1, u2, u3⟩
    obtain ⟨x1, x2⟩ := rdE_ex h200 _ _ hr
    by_cases c : isSg (cu t n q) = true
    · simp only [c, if_true]
      obtain ⟨V, v1, v2, v3⟩ := (XB_sign (L := L) (xs := xs) (d := d) u2 c ua k1 k2).1 k4 k3
      rw [List.append_assoc, ← u0] at v2
      obtain ⟨s1, s2, s3, s4⟩ := sg_not c
      have hE2 := exp_ok (L := L) (xs := xs) (d := d) 9 (q + 1) V (cd ++ g) (cu t n q :: st) v2 s1 s2 (by first | decide | omega)
      rw [opn_op (sg_br c)] at hE2
      revert hE2
      cases hr2 : rdE t n 9 (opn st) (q + 1) with
      | inl e => exact fun hE2 => bad_of (u1.trans v1) (u3.tr v3) hE2
      | inr x =>
        obtain ⟨r, g2⟩ := x
        rintro ⟨W, pd2, g2', w0, wa, w1, w2, w3⟩
        obtain ⟨y1, y2⟩ := rdE_ex h200 _ _ hr2
        have eq := (u1.trans v1).trans w1
        have ez := (u3.tr v3).tr w3
        have hb : ∀ c : Int, isSg c = true → c ≠ 91 := fun c hc e => by rw [e] at hc; exact absurd hc (by decide)
        by_cases c3 : cu t n r = 93
        · exact Or.inr ⟨by unfold offB; omega, bad_of eq ez (XB_closeB (L := L) (xs := xs) (d := d) w2 c3 wa s1 s2 (hb _ c))⟩
        · by_cases c4 : isSg (cu t n r) = true
          · refine Or.inr ⟨?_, bad_of eq ez ((XB_sign (L := L) (xs := xs) (d := d) w2 c4 wa s1 s2).2 (Or.inr c))⟩
            unfold isSg at c4
            have := of_decide_eq_true c4
            unfold offB
            omega
          · obtain ⟨Y, z1, z2, z3⟩ := (XB_end (L := L) (xs := xs) (d := d) w2 y1 y2 c3 (nf c4) wa s1 s2).2 _ _ rfl c
            refine Or.inl ⟨Y, eq.trans z1, ?_, ez.tr z3⟩
            rw [w0]
            rw [show cd ++ (g ++ (g2' ++ pdc pd2) ++ [(cu t n q, 0)]) = cd ++ g ++ g2' ++ pdc pd2 ++ [(cu t n q, 0)] by simp only [List.append_assoc]]
            exact z2
    · have cf := nf c
      simp only [cf]
      show ∃ T, XA L xs d S = some (0, T) ∧ Bd S T (flt 1 q)
      by_cases c3 : cu t n q = 93
      · exact bad_of u1 u3 (XB_closeB (L := L) (xs := xs) (d := d) u2 c3 ua k1 k2 k4)
      · exact bad_of u1 u3 ((XB_end (L := L) (xs := xs) (d := d) u2 x1 x2 c3 cf ua k1 k2).1 k3)
/-- u and comparisons -/
theorem pie_flat (h : goodT (st.headD 0)) (H : RZ t n S p cd st) (h1 : cu t n p ≠ 33) (h2 : cu t n p ≠ 40) (recP recC : Nat → Nat → PR) : POk L xs d t n S cd st (pieG t n recP recC (opn st) p) := by
  have h200 := H.1.2.2
  have b1 := H.2.2.1.1
  have h20 := H.2.1.2.1
  have h18 := H.2.1.1
  have fin : ∀ {T : AH} {q : Nat} {g : CD}, RZ t n T q (cd ++ g) st → Zf S T → ev (WK L xs) (d + 9) 213 [vr 72] S = bindR (ev (WK L xs) (d + 8) 205 [vr 72] T) (fun r7 S8 => (if r7 = 0 then (some ((0 : Int), S8)) else (bindR (ev (WK L xs) (d + 8) 227 [vr 72] S8) (fun r9 S10 => (some ((0 : Int), S10)))))) → ∃ U, CA L xs d S = CB L xs d U ∧ RZ t n U q (cd ++ g ++ enC st) (enS st) ∧ Zf S U := by
    intro T q g HT hz e
    obtain ⟨U, u1, u2, u3⟩ := m_ends (L := L) (xs := xs) (d := d + 4) HT
    refine ⟨U, CA_good H (r := 0) ?_ u2, u2, hz.tr u3⟩
    rw [e, m_good HT.2.1.2.1, bR, if_neg (by decide), show ev (WK L xs) (d + 8) 227 [vr 72] T = some (0, U) from u1, bR]
  have finB : ∀ {T : AH} {e : Int}, Bd S T e → ev (WK L xs) (d + 9) 213 [vr 72] S = bindR (ev (WK L xs) (d + 8) 205 [vr 72] T) (fun r7 S8 => (if r7 = 0 then (some ((0 : Int), S8)) else (bindR (ev (WK L xs) (d + 8) 227 [vr 72] S8) (fun r9 S10 => (some ((0 : Int), S10)))))) → ∃ U, CA L xs d S = some (0, U) ∧ Bd S U e := by
    intro T e hb eq
    have hb0 : T.2 72 20 ≠ 0 := by
      have := hb.2
      omega
    refine CA_badd H (r := 0) (T := T) ?_ hb
    rw [eq, m_bad hb0, bR, if_pos rfl]
  unfold pieG
  rw [if_neg h1, if_neg h2]
  by_cases c : cu t n p = 117
  · rw [if_pos c]
    have hp := cu_pos (t := t) (n := n) (p := p) (by first | decide | omega)
    have hz : Zf S (wr S 72 18 ((p + 1 : Nat) : Int)) := Zf.w72 (by first | decide | omega)
    have key : ev (WK L xs) (d + 9) 213 [vr 72] S = bindR (ev (WK L xs) (d + 8) 214 [vr 72, vi 39] (wr S 72 18 ((p + 1 : Nat) : Int))) (fun r11 S12 => (bindR (ev (WK L xs) (d + 8) 216 [vr 72, vi 2, vi r11] S12) (fun r13 S14 => (bindR (ev (WK L xs) (d + 8) 205 [vr 72] S14) (fun r15 S16 => (if r15 = 0 then (some ((0 : Int), S16)) else (bindR (ev (WK L xs) (d + 8) 227 [vr 72] S16) (fun r17 S18 => (some ((0 : Int), S18)))))))))) := by
      rw [pie_32 H h1 h2, q_213_32, m_good h20, bR, if_neg (by decide), m_here H.1 h18 (by first | decide | omega), bR, if_pos c, h18, w32e (x := (p : Int) + 1) (by first | decide | omega) (by first | decide | omega)]
      rfl
    have hr := m_reads (L := L) (xs := xs) (d := d + 4) 39 (H.1.fr hz) (p := p + 1) (by first | decide | omega) (by rw [wr_f, if_pos rfl]) (by rw [wr_f, if_neg (by decide), h20])
    revert hr
    cases hN : rdN t n 39 (p + 1) with
    | inl e =>
      rintro ⟨w, T, t1, t2⟩
      have hb : T.2 72 20 ≠ 0 := by
        have := t2.2
        omega
      refine finB (t2.of hz) ?_
      rw [key, show ev (WK L xs) (d + 8) 214 [vr 72, vi 39] (wr S 72 18 ((p + 1 : Nat) : Int)) = some (w, T) from t1, bR, q_216, m_bad hb, bR, if_pos rfl, bR]
    | inr qv =>
      obtain ⟨q, v⟩ := qv
      rintro ⟨T, t1, t2⟩
      have hq := rdN_lt hN
      obtain ⟨z, ⟨h18, h20, h22, h23, h24, h26⟩, ⟨b1, b2, b3⟩, hcd, hs⟩ := H
      have f72 : ∀ k, k ≠ 18 → T.2 72 k = S.2 72 k := fun k hk => by rw [t2.2.2.1 k hk, wr_f, if_neg hk]
      have fA : ∀ a, a ≠ 72 → T.2 a = S.2 a := fun a ha => by rw [t2.2.1 a ha, wr_c ha]
      refine Or.inl (fin (T := emS T cd.length 2 v) (q := q) (g := [(2, v)]) ?_ ((hz.tr t2.zf).tr emS_z) ?_)
      · refine ⟨z.fr ((hz.tr t2.zf).tr emS_z), ⟨?_, ?_, ?_, ?_, ?_, ?_⟩, ⟨hq.2 (by first | decide | omega), ?_, b3⟩, emS_cd (fun i x hx => ?_), fun i x hx => ?_⟩
        · rw [emS_72, if_neg (by decide), t2.2.2.2]
        · rw [emS_72, if_neg (by decide), f72 _ (by decide), h20]
        · rw [emS_72, if_pos rfl, List.length_append, List.length_singleton]
          omega
        · rw [emS_72, if_neg (by decide), f72 _ (by decide), h23]
        · rw [emS_72, if_neg (by decide), f72 _ (by decide), h24]
        · rw [emS_72, if_neg (by decide), f72 _ (by decide), h26]
        · rw [List.length_append, List.length_singleton]
          omega
        · rw [fA 91 (by decide), fA 92 (by decide)]
          exact hcd i x hx
        · rw [emS_93, fA 93 (by decide)]
          exact hs i x hx
      · rw [key, show ev (WK L xs) (d + 8) 214 [vr 72, vi 39] (wr S 72 18 ((p + 1 : Nat) : Int)) = some (v, T) from t1, bR, m_emit (by rw [f72 _ (by decide), h20]) (k := cd.length) (by rw [f72 _ (by decide), h22]) (by first | decide | omega), bR]
  · rw [if_neg c]
    have key : ev (WK L xs) (d + 9) 213 [vr 72] S = bindR (XA L xs (d + 1) S) (fun _ T => bindR (ev (WK L xs) (d + 8) 205 [vr 72] T) (fun r7 S8 => (if r7 = 0 then (some ((0 : Int), S8)) else (bindR (ev (WK L xs) (d + 8) 227 [vr 72] S8) (fun r9 S10 => (some ((0 : Int), S10))))))) := by
      rw [pie_32 H h1 h2, q_213_32, m_good h20, bR, if_neg (by decide), m_here H.1 h18 (by first | decide | omega), bR, if_neg c, q_217]
      rfl
    have hC := cmp_ok (L := L) (xs := xs) (d := d + 1) h H
    revert hC
    cases cmpG t n (opn st) p with
    | inl e =>
      rintro ⟨T, t1, t2⟩
      exact finB t2 (by rw [key, t1, bR])
    | inr x =>
      obtain ⟨q, g⟩ := x
      rintro (⟨T, t1, t2, t3⟩ | ⟨o, T, t1, t2⟩)
      · exact Or.inl (fin t2 t3 (by rw [key, t1, bR]))
      · exact Or.inr ⟨o, finB t2 (by rw [key, t1, bR])⟩
theorem en_top {c : Int} (h : c ≠ 33) : enC (c :: st) = [] ∧ enS (c :: st) = c :: st := by
  unfold enC enS
  rw [if_neg h, if_neg h]
  exact ⟨rfl, rfl⟩
theorem hd_ne {c : Int} (h : st.headD 0 = c) (h0 : c ≠ 0) : ∃ s, st = c :: s := by
  cases st with
  | nil => exact absurd h.symm h0
  | cons x s => exact ⟨s, by rw [show x = c from h]⟩
/-- a part's row -/
theorem par_row {f : Nat → PR} (h1 : st.headD 0 = 40 ∨ st.headD 0 = 124) (hf : ∀ (p : Nat) (S : AH) (cd : CD), RZ t n S p cd (38 :: st) → POk L xs d t n S cd (38 :: st) (f p)) : ∀ (k p : Nat) (g g' : CD) (pd : List Int) (S : AH), RZ t n S p (cd ++ g') (pd ++ st) → g = g' ++ pdc pd → (∀ x, x ∈ pd → x = 38) → ROk L xs d t n (fun x => x = 38) (CB L xs d S) S cd st (rowL t n isAnd f k p g) := by
  intro k
  induction k with
  | zero =>
    intro p g g' pd S H e ha
    exact Or.inl ⟨S, pd, g', e, ha, rfl, H, Zf.rf⟩
  | succ k ih =>
    intro p g g' pd S H e ha
    unfold rowL
    by_cases c : isAnd (cu t n p) = true
    · rw [if_pos c]
      have c' : cu t n p = 38 := of_decide_eq_true c
      obtain ⟨T, t1, t2, t3⟩ := CB_op (L := L) (xs := xs) (d := d) H (Or.inl c') (fun x hx => Or.inl (ha x hx)) (by first | decide | omega) (fun q => by omega)
      rw [List.append_assoc, ← e, c'] at t2
      have hF := hf _ _ _ t2
      revert hF
      cases hp : f (p + 1) with
      | inl x => exact fun hF => bad_of t1 t3 hF
      | inr x =>
        obtain ⟨q, g2⟩ := x
        rintro (⟨U, u1, u2, u3⟩ | ⟨o, hb⟩)
        · rw [(en_top (st := st) (c := 38) (by decide)).1, (en_top (st := st) (c := 38) (by decide)).2, List.append_nil, List.append_assoc] at u2
          have hI := ih q (g ++ g2 ++ [(cu t n p, 0)]) (g ++ g2) [cu t n p] U (by rw [c']; exact u2) rfl (fun x hx => by rw [List.mem_singleton.mp hx]; exact c')
          exact ROk.of (t1.trans u1) (t3.tr u3) hI
        · show ROk L xs d t n (fun x => x = 38) (CB L xs d S) S cd st (rowL t n isAnd f k q (g ++ g2 ++ [(cu t n p, 0)]))
          rw [rowL_off k q _ (off_and o)]
          exact Or.inr ⟨o, bad_of t1 t3 hb⟩
    · rw [if_neg c]
      exact Or.inl ⟨S, pd, g', e, ha, rfl, H, Zf.rf⟩
theorem par_ok {f : Nat → PR} (h1 : st.headD 0 = 40 ∨ st.headD 0 = 124) (hf : ∀ (p : Nat) (S : AH) (cd : CD) (s : List Int), s = st ∨ s = 38 :: st → RZ t n S p cd s → POk L xs d t n S cd s (f p)) (H : RZ t n S p cd st) : ROk L xs d t n (fun x => x = 38) (CA L xs d S) S cd st (rowG t n isAnd f p) := by
  have hF := hf p S cd st (Or.inl rfl) H
  unfold rowG
  revert hF
  cases f p with
  | inl x => exact fun hF => hF
  | inr x =>
    obtain ⟨q, g⟩ := x
    obtain ⟨s, hs⟩ : ∃ s, st = st.headD 0 :: s := hd_ne rfl (by first | decide | omega)
    have he := en_top (st := s) (c := st.headD 0) (by first | decide | omega)
    rw [← hs] at he
    rintro (⟨U, u1, u2, u3⟩ | ⟨o, hb⟩)
    · rw [he.1, he.2, List.append_nil] at u2
      have hI := par_row (L := L) (xs := xs) (d := d) (cd := cd) h1 (fun p S cd q => hf p S cd _ (Or.inr rfl) q) 200 q g g [] U u2 (by rw [pdc_nil, List.append_nil]) (fun x hx => by cases hx)
      exact ROk.of u1 u3 hI
    · show ROk L xs d t n (fun x => x = 38) (CA L xs d S) S cd st (rowL t n isAnd f 200 q g)
      rw [rowL_off 200 q _ (off_and o)]
      exact Or.inr ⟨o, hb⟩
/-- a condition's row -/
theorem cnd_row {f : Nat → PR} (h1 : st.headD 0 = 40) (hf : ∀ (p : Nat) (S : AH) (cd : CD) (s : List Int), s = 124 :: st ∨ s = 38 :: 124 :: st → RZ t n S p cd s → POk L xs d t n S cd s (f p)) : ∀ (k p : Nat) (g g' : CD) (pd : List Int) (S : AH), RZ t n S p (cd ++ g') (pd ++ st) → g = g' ++ pdc pd → (∀ x, x ∈ pd → x = 38 ∨ x = 124) → ROk L xs d t n (fun x => x = 38 ∨ x = 124) (CB L xs d S) S cd st (rowL t n isOr (rowG t n isAnd f) k p g) := by
  intro k
  induction k with
  | zero =>
    intro p g g' pd S H e ha
    exact Or.inl ⟨S, pd, g', e, ha, rfl, H, Zf.rf⟩
  | succ k ih =>
    intro p g g' pd S H e ha
    unfold rowL
    by_cases c : isOr (cu t n p) = true
    · rw [if_pos c]
      have c' : cu t n p = 124 := of_decide_eq_true c
      obtain ⟨T, t1, t2, t3⟩ := CB_op (L := L) (xs := xs) (d := d) H (Or.inr c') (fun x hx => (ha x hx).imp id (fun q => ⟨c', q⟩)) (by first | decide | omega) (fun q => by omega)
      rw [List.append_assoc, ← e, c'] at t2
      have hF := par_ok (L := L) (xs := xs) (d := d) (st := 124 :: st) (Or.inr rfl) hf t2
      revert hF
      cases hp : rowG t n isAnd f (p + 1) with
      | inl x => exact fun hF => bad_of t1 t3 hF
      | inr x =>
        obtain ⟨q, g2⟩ := x
        rintro (⟨U, pd2, g2', u0, ua, u1, u2, u3⟩ | ⟨o, hb⟩)
        · have hI := ih q (g ++ g2 ++ [(cu t n p, 0)]) (g ++ g2') (pd2 ++ [cu t n p]) U (by rw [List.append_assoc] at u2; rw [List.append_assoc, c']; exact u2) (by rw [u0, pdc_app, pdc_cons, pdc_nil, List.append_assoc, List.append_assoc, List.append_assoc]) (fun x hx => by
            rcases List.mem_append.mp hx with y | y
            · exact Or.inl (ua x y)
            · rw [List.mem_singleton.mp y]
              exact Or.inr c')
          exact ROk.of (t1.trans u1) (t3.tr u3) hI
        · show ROk L xs d t n (fun x => x = 38 ∨ x = 124) (CB L xs d S) S cd st (rowL t n isOr (rowG t n isAnd f) k q (g ++ g2 ++ [(cu t n p, 0)]))
          rw [rowL_off k q _ (off_or o)]
          exact Or.inr ⟨o, bad_of t1 t3 hb⟩
    · rw [if_neg c]
      exact Or.inl ⟨S, pd, g', e, ha, rfl, H, Zf.rf⟩
theorem cnd_ok {f : Nat → PR} (h1 : st.headD 0 = 40) (hf : ∀ (p : Nat) (S : AH) (cd : CD) (s : List Int), s = st ∨ s = 38 :: st ∨ s = 124 :: st ∨ s = 38 :: 124 :: st → RZ t n S p cd s → POk L xs d t n S cd s (f p)) (H : RZ t n S p cd st) : ROk L xs d t n (fun x => x = 38 ∨ x = 124) (CA L xs d S) S cd st (cndG t n f p) := by
  have hF := par_ok (L := L) (xs := xs) (d := d) (Or.inl h1) (fun p S cd s q => hf p S cd s (by rcases q with q | q; exact Or.inl q; exact Or.inr (Or.inl q))) H
  unfold cndG
  rw [show rowG t n isOr (rowG t n isAnd f) p = (match rowG t n isAnd f p with
    | .inl e => .inl e
    | .inr (q, g) => rowL t n isOr (rowG t n isAnd f) 200 q g) from rfl]
  revert hF
  cases rowG t n isAnd f p with
  | inl x => exact fun hF => hF
  | inr x =>
    obtain ⟨q, g⟩ := x
    rintro (⟨U, pd2, g2', u0, ua, u1, u2, u3⟩ | ⟨o, hb⟩)
    · have hI := cnd_row (L := L) (xs := xs) (d := d) (cd := cd) h1 (fun p S cd s q => hf p S cd s (Or.inr (Or.inr q))) 200 q g g2' pd2 U u2 u0 (fun x hx => Or.inl (ua x hx))
      exact ROk.of u1 u3 hI
    · show ROk L xs d t n (fun x => x = 38 ∨ x = 124) (CA L xs d S) S cd st (rowL t n isOr (rowG t n isAnd f) 200 q g)
      rw [rowL_off 200 q _ (off_or o)]
      exact Or.inr ⟨o, hb⟩
theorem opn_s {s : List Int} (h : s = st ∨ s = 38 :: st ∨ s = 124 :: st ∨ s = 38 :: 124 :: st) : opn s = opn st := by
  rcases h with e | e | e | e <;> rw [e]
  · exact opn_op (by decide)
  · exact opn_op (by decide)
  · exact (opn_op (by decide)).trans (opn_op (by decide))
theorem goodT_s {s : List Int} (h0 : st.headD 0 = 40) (h : s = st ∨ s = 38 :: st ∨ s = 124 :: st ∨ s = 38 :: 124 :: st) : goodT (s.headD 0) := by
  unfold goodT
  rcases h with e | e | e | e <;> rw [e]
  · exact Or.inr (Or.inl h0)
  · exact Or.inr (Or.inr (Or.inl rfl))
  · exact Or.inr (Or.inr (Or.inr rfl))
  · exact Or.inr (Or.inr (Or.inl rfl))
theorem pie_ok (f : Nat) : ∀ (p : Nat) (S : AH) (cd : CD) (st : List Int), RZ t n S p cd st → goodT (st.headD 0) → 9 ≤ f + opn st → POk L xs d t n S cd st (rdP t n f (opn st) p) := by
  induction f with
  | zero =>
    intro p S cd s H _ h
    have := H.2.2.1.2.2
    omega
  | succ f ih =>
    intro p S cd st H hg h
    show POk L xs d t n S cd st (pieG t n (rdP t n f) (fun o p => cndG t n (rdP t n f o) p) (opn st) p)
    have b3 := H.2.2.1.2.2
    have h200 := H.1.2.2
    by_cases c1 : cu t n p = 33
    · obtain ⟨o1, o2⟩ := CA_open (L := L) (xs := xs) (d := d) H (Or.inl c1)
      unfold pieG
      rw [if_pos c1]
      by_cases c2 : 8 ≤ opn st
      · rw [if_pos c2]
        exact o1 (by first | decide | omega)
      · rw [if_neg c2]
        obtain ⟨T, t1, t2, t3⟩ := o2 (by first | decide | omega)
        rw [c1] at t2
        have hb : opn (33 :: st) = opn st + 1 := opn_br (Or.inl rfl)
        have hE := ih _ _ _ _ t2 (Or.inl rfl) (by first | decide | omega)
        rw [hb] at hE
        revert hE
        cases hr : rdP t n f (opn st + 1) (p + 1) with
        | inl x => exact fun hE => bad_of t1 t3 hE
        | inr x =>
          obtain ⟨q, g⟩ := x
          rintro (⟨U, u1, u2, u3⟩ | ⟨o, hb⟩)
          · refine Or.inl ⟨U, t1.trans u1, ?_, t3.tr u3⟩
            have e1 : enC (33 :: st) = (3, 0) :: enC st := by
              show (if (33 : Int) = 33 then (3, 0) :: enC st else []) = _
              rw [if_pos rfl]
            have e2 : enS (33 :: st) = enS st := by
              show (if (33 : Int) = 33 then enS st else 33 :: st) = _
              rw [if_pos rfl]
            rw [e1, e2] at u2
            rw [show cd ++ (g ++ [(3, 0)]) ++ enC st = cd ++ g ++ (3, 0) :: enC st by simp only [List.append_assoc, List.cons_append, List.nil_append]]
            exact u2
          · exact Or.inr ⟨o, bad_of t1 t3 hb⟩
    · by_cases c3 : cu t n p = 40
      · obtain ⟨o1, o2⟩ := CA_open (L := L) (xs := xs) (d := d) H (Or.inr c3)
        unfold pieG
        rw [if_neg c1, if_pos c3]
        by_cases c2 : 8 ≤ opn st
        · rw [if_pos c2]
          exact o1 (by first | decide | omega)
        · rw [if_neg c2]
          obtain ⟨T, t1, t2, t3⟩ := o2 (by first | decide | omega)
          rw [c3] at t2
          have hb : opn (40 :: st) = opn st + 1 := opn_br (Or.inr (Or.inl rfl))
          have hE := cnd_ok (L := L) (xs := xs) (d := d) (st := 40 :: st) (f := rdP t n f (opn st + 1)) rfl (fun p S cd s q1 q2 => by
            have e := opn_s q1
            have := ih p S cd s q2 (goodT_s rfl q1) (by first | decide | omega)
            rw [e, hb] at this
            exact this) t2
          have hst : st ≠ [] := by
            intro e
            rw [e] at hg
            unfold goodT at hg
            simp at hg
          revert hE
          dsimp only
          cases hr : cndG t n (rdP t n f (opn st + 1)) (p + 1) with
          | inl x => exact fun hE => bad_of t1 t3 hE
          | inr x =>
            obtain ⟨q, g⟩ := x
            rintro (⟨U, pd2, g2', u0, ua, u1, u2, u3⟩ | ⟨o, hb⟩)
            · show POk L xs d t n S cd st (if cu t n q = 41 then .inr (q + 1, g) else .inl (flt 1 q))
              by_cases c4 : cu t n q = 41
              · rw [if_pos c4]
                obtain ⟨V, v1, v2, v3⟩ := CB_close (L := L) (xs := xs) (d := d) u2 c4 ua hst
                rw [List.append_assoc cd, ← u0] at v2
                exact Or.inl ⟨V, (t1.trans u1).trans v1, v2, (t3.tr u3).tr v3⟩
              · rw [if_neg c4]
                have hx := cndG_ex (rdP_mon f _) h200 hr
                exact bad_of (t1.trans u1) (t3.tr u3) (CB_fail (L := L) (xs := xs) (d := d) u2 ⟨hx.1, hx.2, c4⟩)
            · show POk L xs d t n S cd st (if cu t n q = 41 then .inr (q + 1, g) else .inl (flt 1 q))
              rw [if_neg o.2.2]
              exact bad_of t1 t3 hb
      · exact pie_flat hg H c1 c3 _ _
end
