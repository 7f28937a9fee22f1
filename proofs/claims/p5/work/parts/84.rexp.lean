/-! the reference's reader: factors and signs -/
noncomputable def XA (L : Nat) (xs : Nat → Int) (d : Nat) (S : AH) : Rs := LQ (WK L xs) (ev (WK L xs) (d + 6)) 217 7 [some (vr 72), some (vi 1)] [] (wr S 72 35 0)
noncomputable def XB (L : Nat) (xs : Nat → Int) (d : Nat) (S : AH) : Rs := LQ (WK L xs) (ev (WK L xs) (d + 6)) 217 29 [some (vr 72), none] [] S
section
variable {L : Nat} {xs : Nat → Int} {d : Nat} {S S' T U W : AH} {t : TB} {n p : Nat} {cd : CD} {st : List Int}
theorem wr_id {a k : Nat} {v : Int} (h : S.2 a k = v) : wr S a k v = S := by
  refine Prod.ext rfl ?_
  funext b j
  rw [wr_2]
  by_cases q : b = a ∧ j = k
  · rw [if_pos q, q.1, q.2, h]
  · rw [if_neg q]
theorem wr_wr {a k : Nat} {v w : Int} : wr (wr S a k v) a k w = wr S a k w := by
  refine Prod.ext rfl ?_
  funext b j
  rw [wr_2, wr_2, wr_2]
  by_cases q : b = a ∧ j = k
  · rw [if_pos q, if_pos q]
  · rw [if_neg q, if_neg q, if_neg q]
theorem RZ.w35 {b : Int} (H : RZ t n S p cd st) : RZ t n (wr S 72 35 b) p cd st := by
  obtain ⟨z, ⟨h18, h20, h22, h23, h24, h26⟩, bs, hc, hs⟩ := H
  refine ⟨z.fr (Zf.w72 (by first | decide | omega)), ⟨?_, ?_, ?_, ?_, ?_, ?_⟩, bs, ?_, ?_⟩
  · rw [wr_f, if_neg (by decide), h18]
  · rw [wr_f, if_neg (by decide), h20]
  · rw [wr_f, if_neg (by decide), h22]
  · rw [wr_f, if_neg (by decide), h23]
  · rw [wr_f, if_neg (by decide), h24]
  · rw [wr_f, if_neg (by decide), h26]
  · rw [wr_c (by decide), wr_c (by decide)]
    exact hc
  · rw [wr_c (by decide)]
    exact hs
theorem XB_bad (h : S.2 72 20 ≠ 0) : XB L xs d S = some (0, wr S 72 35 0) := by
  unfold XB
  rw [q_217_29, m_bad (by rw [wr_f, if_neg (by decide)]; exact h), bR, if_pos rfl, q_217_7, if_pos rfl]
theorem X1_bad (h : S.2 72 20 ≠ 0) : LQ (WK L xs) (ev (WK L xs) (d + 6)) 217 7 [some (vr 72), some (vi 1)] [] S = some (0, S) := by
  rw [q_217_7, if_neg (by decide), m_bad h, bR, if_pos rfl]
theorem XA_fac (h : S.2 72 20 = 0) : XA L xs d S = bindR (ev (WK L xs) (d + 6) 218 [vr 72] (wr S 72 35 0)) (fun _ T => XB L xs d T) := by
  unfold XA XB
  rw [q_217_7, if_neg (by decide), m_good (by rw [wr_f, if_neg (by decide)]; exact h), bR, if_neg (by decide), if_pos (by rw [wr_f, if_pos rfl])]
theorem XB_on (h : S.2 72 20 = 0) : XB L xs d S = bindR (ev (WK L xs) (d + 6) 220 [vr 72] (wr S 72 35 0)) (fun r T => if r = 0 then some (0, T) else LQ (WK L xs) (ev (WK L xs) (d + 6)) 217 7 [some (vr 72), some (vi 1)] [] T) := by
  unfold XB
  rw [q_217_29, m_good (by rw [wr_f, if_neg (by decide)]; exact h), bR, if_neg (by decide)]
  congr 1
  funext r T
  by_cases q : r = 0
  · rw [if_pos q, if_pos q, q_217_7, if_pos rfl]
  · rw [if_neg q, if_neg q]
theorem XB_35 {b : Int} : XB L xs d (wr S 72 35 b) = XB L xs d S := by
  unfold XB
  rw [q_217_29, q_217_29, wr_wr]
theorem rdN_lt {most : Int} {q : Nat} {v : Int} (h : rdN t n most p = .inr (q, v)) : p < q ∧ (p ≤ n → q ≤ n) := by
  unfold rdN at h
  by_cases c : dgt (cu t n p) = false
  · rw [if_pos c] at h
    exact absurd h (by simp)
  · rw [if_neg c] at h
    have c' : dgt (cu t n p) = true := by simpa using c
    have h1 : (nds t n 6 p 0).1 = q := by
      by_cases c1 : dgt (cu t n (nds t n 6 p 0).1) = true
      · rw [if_pos c1] at h
        cases h
      · rw [if_neg c1] at h
        by_cases c2 : most < (nds t n 6 p 0).2
        · rw [if_pos c2] at h
          cases h
        · rw [if_neg c2] at h
          simp only [Sum.inr.injEq] at h
          rw [h]
    refine ⟨?_, fun hp => by rw [← h1]; exact nds_n 6 p 0 hp⟩
    have h2 : (nds t n 6 p 0).1 = (nds t n 5 (p + 1) (10 * 0 + cu t n p - 48)).1 := by rw [nds, if_pos c']
    have := nds_le (t := t) (n := n) 5 (p + 1) (10 * 0 + cu t n p - 48)
    omega
/-- a number, a letter, or what can't stand there -/
theorem XA_atom (H0 : RZ t n S p cd st) (hc : cu t n p ≠ 91) (rec : Nat → Nat → PR) (o : Nat) : match facG t n rec o p with
    | .inl e => ∃ T, XA L xs d S = some (0, T) ∧ Bd S T e
    | .inr (q, g) => ∃ T, XA L xs d S = XB L xs d T ∧ RZ t n T q (cd ++ g) st ∧ Zf S T := by
  have zS : Zf S (wr S 72 35 0) := Zf.w72 (by first | decide | omega)
  have H := H0.w35 (b := 0)
  generalize hS0 : wr S 72 35 0 = S0 at H zS
  obtain ⟨z, ⟨h18, h20, h22, h23, h24, h26⟩, ⟨b1, b2, b3⟩, hcd, hs⟩ := H
  have h200 := z.2.2
  have key : XA L xs d S = bindR (LQ (WK L xs) (ev (WK L xs) (d + 5)) 218 23 [some (vr 72)] [] S0) (fun _ T => XB L xs d T) := by
    rw [XA_fac H0.2.1.2.1, hS0, q_218, m_good h20, bR, if_neg (by decide), m_here z h18 (by first | decide | omega), bR, if_neg hc]
  rw [key, q_218_23, m_good h20, bR, if_neg (by decide), m_sees z h18 (by first | decide | omega), bR]
  simp only [bi_0]
  unfold facG
  rw [if_neg hc]
  by_cases c1 : dgt (cu t n p) = true
  · rw [if_pos c1, if_neg (fun x => x c1)]
    have hr := m_reads (L := L) (xs := xs) (d := d + 1) 999999 z b1 h18 h20
    revert hr
    cases hN : rdN t n 999999 p with
    | inl e =>
      rintro ⟨w, T, t1, t2⟩
      have hb : T.2 72 20 ≠ 0 := by
        have := t2.2
        omega
      refine ⟨wr T 72 35 0, ?_, ?_⟩
      · rw [t1, bR, q_216, m_bad hb, bR, if_pos rfl, bR, bR, XB_bad hb]
      · exact ⟨(zS.tr t2.1).tr (Zf.w72 (by first | decide | omega)), by rw [wr_f, if_neg (by decide)]; exact t2.2.1, t2.2.2⟩
    | inr qv =>
      obtain ⟨q, v⟩ := qv
      rintro ⟨T, t1, t2⟩
      have hq := rdN_lt hN
      have e20 : T.2 72 20 = 0 := by rw [t2.2.2.1 20 (by decide), h20]
      have e22 : T.2 72 22 = cd.length := by rw [t2.2.2.1 22 (by decide), h22]
      refine ⟨emS T cd.length 0 v, ?_, ?_, (zS.tr t2.zf).tr emS_z⟩
      · rw [t1, bR, m_emit e20 e22 (by first | decide | omega), bR, bR]
      · refine ⟨z.fr (t2.zf.tr emS_z), ⟨?_, ?_, ?_, ?_, ?_, ?_⟩, ⟨hq.2 b1, ?_, b3⟩, emS_cd (fun i x hx => ?_), fun i x hx => ?_⟩
        · rw [emS_72, if_neg (by decide), t2.2.2.2]
        · rw [emS_72, if_neg (by decide), e20]
        · rw [emS_72, if_pos rfl, List.length_append, List.length_singleton]
          omega
        · rw [emS_72, if_neg (by decide), t2.2.2.1 _ (by decide), h23]
        · rw [emS_72, if_neg (by decide), t2.2.2.1 _ (by decide), h24]
        · rw [emS_72, if_neg (by decide), t2.2.2.1 _ (by decide), h26]
        · rw [List.length_append, List.length_singleton]
          omega
        · rw [t2.2.1 91 (by decide), t2.2.1 92 (by decide)]
          exact hcd i x hx
        · rw [emS_93, t2.2.1 93 (by decide)]
          exact hs i x hx
  · rw [if_neg c1, if_pos c1, m_here z h18 (by first | decide | omega), bR, m_value, bR]
    simp only [bi_0]
    by_cases c2 : isVl (cu t n p) = true
    · rw [if_pos c2, if_neg (fun x => x c2), m_here z h18 (by first | decide | omega), bR, m_emit h20 h22 (by first | decide | omega), bR, bR]
      have hp : p < n := cu_pos (t := t) (fun z0 => by rw [z0] at c2; exact absurd c2 (by decide))
      have e18 : (emS S0 cd.length 1 (cu t n p)).2 72 18 = p := by rw [emS_72, if_neg (by decide), h18]
      have hz : Zf S0 (wr (emS S0 cd.length 1 (cu t n p)) 72 18 (w32 ((emS S0 cd.length 1 (cu t n p)).2 72 18 + 1))) := emS_z.tr (Zf.w72 (by first | decide | omega))
      refine ⟨_, rfl, ?_, zS.tr hz⟩
      refine ⟨z.fr hz, ⟨?_, ?_, ?_, ?_, ?_, ?_⟩, ⟨by omega, ?_, b3⟩, ?_, fun i x hx => ?_⟩
      · rw [wr_f, if_pos rfl, e18, w32e (by first | decide | omega) (by first | decide | omega)]
        omega
      · rw [wr_f, if_neg (by decide), emS_72, if_neg (by decide), h20]
      · rw [wr_f, if_neg (by decide), emS_72, if_pos rfl, List.length_append, List.length_singleton]
        omega
      · rw [wr_f, if_neg (by decide), emS_72, if_neg (by decide), h23]
      · rw [wr_f, if_neg (by decide), emS_72, if_neg (by decide), h24]
      · rw [wr_f, if_neg (by decide), emS_72, if_neg (by decide), h26]
      · rw [List.length_append, List.length_singleton]
        omega
      · rw [wr_c (by decide), wr_c (by decide)]
        exact emS_cd hcd
      · rw [wr_c (by decide), emS_93]
        exact hs i x hx
    · rw [if_neg c2, if_pos c2, h18, m_fails h20 (by decide) (by first | decide | omega), bR, bR]
      have hb : (wr S0 72 20 (flt 1 p)).2 72 20 ≠ 0 := by
        rw [wr_f, if_pos rfl]
        have := flt_neg (f := 1) (by decide) p
        omega
      refine ⟨_, XB_bad hb, ?_⟩
      exact ⟨(zS.tr (Zf.w72 (by first | decide | omega))).tr (Zf.w72 (by first | decide | omega)), by rw [wr_f, if_neg (by decide), wr_f, if_pos rfl], flt_neg (by decide) p⟩
theorem XA_open (H0 : RZ t n S p cd st) (hc : cu t n p = 91) : (opn st = 8 → ∃ T, XA L xs d S = some (0, T) ∧ Bd S T (flt 5 p)) ∧ (opn st < 8 → ∃ T, XA L xs d S = XA L xs d T ∧ RZ t n T (p + 1) cd (91 :: st) ∧ Zf S T) := by
  have zS : Zf S (wr S 72 35 0) := Zf.w72 (by first | decide | omega)
  have H := H0.w35 (b := 0)
  have e35 : (wr S 72 35 0).2 72 35 = 0 := by rw [wr_f, if_pos rfl]
  generalize hS0 : wr S 72 35 0 = S0 at H zS e35
  have h20 := H.2.1.2.1
  have h200 := H.1.2.2
  have b1 := H.2.2.1.1
  have key : XA L xs d S = bindR (bindR (ev (WK L xs) (d + 5) 212 [vr 72] S0) (fun _ S6 => LQ (WK L xs) (ev (WK L xs) (d + 5)) 218 0 [some (vr 72)] [] S6)) (fun _ T => XB L xs d T) := by
    rw [XA_fac H0.2.1.2.1, hS0, q_218, m_good h20, bR, if_neg (by decide), m_here H.1 H.2.1.1 (by first | decide | omega), bR, if_pos hc]
  rw [key]
  obtain ⟨o1, o2⟩ := m_opens (L := L) (xs := xs) (d := d + 3) H (Or.inr (Or.inr hc))
  refine ⟨fun q => ?_, fun q => ?_⟩
  · obtain ⟨T, t1, t2⟩ := o1 q
    have hb : T.2 72 20 ≠ 0 := by
      have := t2.2
      omega
    refine ⟨wr T 72 35 0, ?_, (zS.tr t2.1).tr (Zf.w72 (by first | decide | omega)), by rw [wr_f, if_neg (by decide)]; exact t2.2.1, t2.2.2⟩
    rw [t1, bR, q_218_0, m_bad hb, bR, if_pos rfl, q_218_23, m_bad hb, bR, if_pos rfl, bR, XB_bad hb]
  · obtain ⟨T, t1, t2, t3, t4⟩ := o2 q
    rw [hc] at t2
    refine ⟨T, ?_, t2, zS.tr t3⟩
    rw [t1, bR, XA_fac t2.2.1.2.1, wr_id (by rw [t4, e35]), q_218, q_218_0]
end
