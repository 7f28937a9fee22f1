/-! the reference reads a clause as the descent does -/
noncomputable def Kf (S S' : AH) : Prop := S'.1 = S.1 ∧ (∀ a, a ≠ 72 → ¬ (86 ≤ a ∧ a ≤ 93) → S'.2 a = S.2 a) ∧ ∀ k, k ≠ 18 → k ≠ 20 → k ≠ 21 → k ≠ 22 → k ≠ 23 → k ≠ 24 → k ≠ 26 → k ≠ 35 → S'.2 72 k = S.2 72 k
/-- the first m clauses stay -/
noncomputable def Kk (m : Nat) (S S' : AH) : Prop := ∀ a j, 86 ≤ a → a ≤ 90 → j < m → S'.2 a j = S.2 a j
section
variable {L : Nat} {xs : Nat → Int} {d : Nat} {S S' T U W : AH} {t : TB} {n p : Nat} {cd : CD} {st pd : List Int}
theorem Zf.kf (h : Zf S T) : Kf S T := ⟨h.1, fun a q1 q2 => h.2.1 a q1 (by first | decide | omega) (by first | decide | omega) (by first | decide | omega), fun k q1 q2 _ q4 q5 q6 q7 q8 => h.2.2 k q1 q2 q4 q5 q6 q7 q8⟩
theorem Kf.tr (h : Kf S T) (k : Kf T U) : Kf S U := ⟨k.1.trans h.1, fun a q1 q2 => (k.2.1 a q1 q2).trans (h.2.1 a q1 q2), fun j q1 q2 q3 q4 q5 q6 q7 q8 => (k.2.2 j q1 q2 q3 q4 q5 q6 q7 q8).trans (h.2.2 j q1 q2 q3 q4 q5 q6 q7 q8)⟩
theorem Kf.w72 {k : Nat} {v : Int} (hk : k = 18 ∨ k = 20 ∨ k = 21 ∨ k = 22 ∨ k = 23 ∨ k = 24 ∨ k = 26 ∨ k = 35) : Kf S (wr S 72 k v) := ⟨rfl, fun a q1 _ => wr_c q1, fun j q1 q2 q3 q4 q5 q6 q7 q8 => by rw [wr_f, if_neg (by first | decide | omega)]⟩
theorem Kf.wA {a k : Nat} {v : Int} (ha : 86 ≤ a ∧ a ≤ 93) : Kf S (wr S a k v) := ⟨rfl, fun b q1 q2 => wr_c (by first | decide | omega), fun j _ _ _ _ _ _ _ _ => by rw [wr_c (by first | decide | omega)]⟩
theorem Zt.kf (h : Zt t n S) (hf : Kf S S') : Zt t n S' := by
  obtain ⟨h1, h2, h3⟩ := h
  refine ⟨?_, ?_, h3⟩
  · rw [hf.2.1 73 (by decide) (by decide)]
    exact h1
  · rw [hf.2.2 19 (by decide) (by decide) (by decide) (by decide) (by decide) (by decide) (by decide) (by decide)]
    exact h2
theorem Kk.z {m : Nat} (h : Zf S T) : Kk m S T := fun a j q1 q2 _ => by rw [h.2.1 a (by first | decide | omega) (by first | decide | omega) (by first | decide | omega) (by first | decide | omega)]
theorem Kk.tr {m : Nat} (h : Kk m S T) (k : Kk m T U) : Kk m S U := fun a j q1 q2 q3 => (k a j q1 q2 q3).trans (h a j q1 q2 q3)
theorem Kk.w72 {m k : Nat} {v : Int} : Kk m S (wr S 72 k v) := fun a j q1 q2 _ => by rw [wr_c (by first | decide | omega)]
theorem Kk.wA {m a k : Nat} {v : Int} (h : m ≤ k) : Kk m S (wr S a k v) := fun b j q1 q2 q3 => by rw [wr_2, if_neg (by first | decide | omega)]
theorem m_cond (H : RD t n S p cd) : (cu t n p ≠ 40 → ∃ T, ev (WK L xs) (d + 10) 211 [vr 72] S = some (0, T) ∧ Bd S T (flt 1 p)) ∧ (cu t n p = 40 → match rdC t n (p + 1) with
    | .inl e => ∃ T, ev (WK L xs) (d + 10) 211 [vr 72] S = some (0, T) ∧ Bd S T e
    | .inr (q, g) => (cu t n q = 41 → ∃ T, ev (WK L xs) (d + 10) 211 [vr 72] S = some (0, T) ∧ RD t n T (q + 1) (cd ++ g) ∧ Zf S T) ∧ (cu t n q ≠ 41 → ∃ T, ev (WK L xs) (d + 10) 211 [vr 72] S = some (0, T) ∧ Bd S T (flt 1 q))) := by
  obtain ⟨z, ⟨h18, h20, h22⟩, ⟨b1, b2⟩, hcd⟩ := H
  have h200 := z.2.2
  have hz : Zf S (wr (wr (wr S 72 24 0) 72 23 0) 72 26 0) := ((Zf.w72 (by first | decide | omega)).tr (Zf.w72 (by first | decide | omega))).tr (Zf.w72 (by first | decide | omega))
  have H0 : RZ t n (wr (wr (wr S 72 24 0) 72 23 0) 72 26 0) p cd [] := by
    refine ⟨z.fr hz, ⟨?_, ?_, ?_, ?_, ?_, ?_⟩, ⟨b1, b2, by decide⟩, ?_, fun i c hc => by simp at hc⟩
    · rw [wr_f, if_neg (by decide), wr_f, if_neg (by decide), wr_f, if_neg (by decide), h18]
    · rw [wr_f, if_neg (by decide), wr_f, if_neg (by decide), wr_f, if_neg (by decide), h20]
    · rw [wr_f, if_neg (by decide), wr_f, if_neg (by decide), wr_f, if_neg (by decide), h22]
    · rw [wr_f, if_neg (by decide), wr_f, if_pos rfl]
      rfl
    · rw [wr_f, if_neg (by decide), wr_f, if_neg (by decide), wr_f, if_pos rfl]
      rfl
    · rw [wr_f, if_pos rfl]
    · rw [wr_c (by decide), wr_c (by decide), wr_c (by decide), wr_c (by decide), wr_c (by decide), wr_c (by decide)]
      exact hcd
  generalize hS0 : wr (wr (wr S 72 24 0) 72 23 0) 72 26 0 = S0 at H0 hz
  refine ⟨fun c => ?_, fun c => ?_⟩
  · refine ⟨wr S0 72 20 (flt 1 p), ?_, (Bd.fl (by decide) p).of hz⟩
    have hn := flt_neg (f := 1) (by decide) p
    rw [q_211, hS0, m_here H0.1 H0.2.1.1 (by first | decide | omega), bR, if_neg c, H0.2.1.1, m_fails H0.2.1.2.1 (by decide) (by first | decide | omega), bR, m_bad (by rw [wr_f, if_pos rfl]; omega), bR, if_pos rfl]
  · obtain ⟨T, t1, t2, t3, -⟩ := (m_opens (L := L) (xs := xs) (d := d + 7) H0 (Or.inr (Or.inl c))).2 (by decide)
    rw [c] at t2
    have key : ev (WK L xs) (d + 10) 211 [vr 72] S = CA L xs d T := by
      rw [q_211, hS0, m_here H0.1 H0.2.1.1 (by first | decide | omega), bR, if_pos c, m_good H0.2.1.2.1, bR, if_neg (by decide), show ev (WK L xs) (d + 9) 212 [vr 72] S0 = some (0, T) from t1, bR]
      rfl
    have o1 : opn [40] = 1 := rfl
    have hE := cnd_ok (L := L) (xs := xs) (d := d) (st := [40]) (f := rdP t n 9 1) rfl (fun p S cd s q1 q2 => by
      have e := opn_s q1
      have := pie_ok (L := L) (xs := xs) (d := d) 9 p S cd s q2 (goodT_s rfl q1) (by first | decide | omega)
      rw [e, o1] at this
      exact this) t2
    unfold rdC
    revert hE
    cases hr : cndG t n (rdP t n 9 1) (p + 1) with
    | inl e => exact fun hE => bad_of key (hz.tr t3) hE
    | inr x =>
      obtain ⟨q, g⟩ := x
      rintro (⟨U, pd2, g2', u0, ua, u1, u2, u3⟩ | ⟨o, hb⟩)
      · refine ⟨fun c4 => ?_, fun c4 => ?_⟩
        · obtain ⟨V, v1, v2, v3⟩ := CB_done (L := L) (xs := xs) (d := d) u2 c4 ua
          rw [List.append_assoc, ← u0] at v2
          exact ⟨V, (key.trans u1).trans v1, v2, ((hz.tr t3).tr u3).tr v3⟩
        · have hx := cndG_ex (rdP_mon 9 1) h200 hr
          exact bad_of (key.trans u1) ((hz.tr t3).tr u3) (CB_fail (L := L) (xs := xs) (d := d) u2 ⟨hx.1, hx.2, c4⟩)
      · exact ⟨fun c4 => absurd c4 o.2.2, fun _ => bad_of key (hz.tr t3) hb⟩
/-- what a clause leaves -/
noncomputable def KOk (L : Nat) (xs : Nat → Int) (d : Nat) (t : TB) (n : Nat) (S : AH) (cd : CD) (m : Nat) (r : Int ⊕ (Nat × CL)) : Prop := match r with
  | .inl e => ∃ T, ev (WK L xs) (d + 12) 206 [vr 72] S = some (0, T) ∧ Kf S T ∧ T.2 72 20 = e ∧ e < 0
  | .inr (q, c) => ∃ T, ev (WK L xs) (d + 12) 206 [vr 72] S = some (0, T) ∧ Kf S T ∧ RD t n T q (cd ++ c.2.2.2) ∧ T.2 72 21 = (m : Int) + 1 ∧ Kk m S T ∧ T.2 86 m = c.1 ∧ T.2 87 m = c.2.1 ∧ T.2 88 m = c.2.2.1 ∧ T.2 89 m = cd.length ∧ T.2 90 m = (cd ++ c.2.2.2).length
theorem RD.kf (H : RD t n S p cd) (hf : Kf S T) {q : Nat} (h18 : T.2 72 18 = q) (h20 : T.2 72 20 = 0) (h22 : T.2 72 22 = S.2 72 22) (h91 : T.2 91 = S.2 91) (h92 : T.2 92 = S.2 92) (hq : p ≤ q ∧ q ≤ n) : RD t n T q cd := by
  obtain ⟨z, ⟨g18, g20, g22⟩, ⟨b1, b2⟩, hcd⟩ := H
  refine ⟨z.kf hf, ⟨h18, h20, by rw [h22, g22]⟩, ⟨hq.2, by omega⟩, ?_⟩
  rw [h91, h92]
  exact hcd
/-- a clause ends -/
theorem K_end (H : RD t n T p cd) {m : Nat} (hm : m < 16) (h21 : T.2 72 21 = m) : RD t n (wr (wr T 90 m (T.2 72 22)) 72 21 (w32 (T.2 72 21 + 1))) p cd ∧ (wr (wr T 90 m (T.2 72 22)) 72 21 (w32 (T.2 72 21 + 1))).2 72 21 = (m : Int) + 1 ∧ (wr (wr T 90 m (T.2 72 22)) 72 21 (w32 (T.2 72 21 + 1))).2 90 m = cd.length ∧ Kf T (wr (wr T 90 m (T.2 72 22)) 72 21 (w32 (T.2 72 21 + 1))) ∧ Kk m T (wr (wr T 90 m (T.2 72 22)) 72 21 (w32 (T.2 72 21 + 1))) ∧ ∀ a, a ≠ 72 → a ≠ 90 → (wr (wr T 90 m (T.2 72 22)) 72 21 (w32 (T.2 72 21 + 1))).2 a = T.2 a := by
  have kf : Kf T (wr (wr T 90 m (T.2 72 22)) 72 21 (w32 (T.2 72 21 + 1))) := (Kf.wA (by first | decide | omega)).tr (Kf.w72 (by first | decide | omega))
  refine ⟨H.kf kf ?_ ?_ ?_ ?_ ?_ ⟨Nat.le_refl _, H.2.2.1.1⟩, ?_, ?_, kf, (Kk.wA (Nat.le_refl _)).tr Kk.w72, fun a q1 q2 => ?_⟩
  · rw [wr_f, if_neg (by decide), wr_c (by decide), H.2.1.1]
  · rw [wr_f, if_neg (by decide), wr_c (by decide), H.2.1.2.1]
  · rw [wr_f, if_neg (by decide), wr_c (by decide)]
  · rw [wr_c (by decide), wr_c (by decide)]
  · rw [wr_c (by decide), wr_c (by decide)]
  · rw [wr_f, if_pos rfl, h21, w32e (by first | decide | omega) (by first | decide | omega)]
  · rw [wr_c (by decide), wr_f, if_pos rfl, H.2.1.2.2]
  · rw [wr_c q1, wr_c q2]
theorem m_clause (H : RD t n S p cd) {m : Nat} (hm : m ≤ 16) (h21 : S.2 72 21 = m) {law : Bool} (h25 : S.2 72 25 = if law then 1 else 0) : KOk L xs d t n S cd m (rdK t n law m p) := by
  have H0 := H
  obtain ⟨z, ⟨h18, h20, h22⟩, ⟨b1, b2⟩, hcd⟩ := H
  have h200 := z.2.2
  have ent : ev (WK L xs) (d + 12) 206 [vr 72] S = bindR (ev (WK L xs) (d + 11) 208 [vi (cu t n p)] S) (fun r3 S4 => (if r3 = 0 then (bindR (ev (WK L xs) (d + 11) 209 [vi (cu t n p)] S4) (fun r5 S6 => (if r5 = 0 then (bindR (ev (WK L xs) (d + 11) 210 [vr 72, vi (1 : Int), vi (S6.2 72 18)] S6) (fun r7 S8 => (LQ (WK L xs) (ev (WK L xs) (d + 11)) 206 76 [some (vr 72), some (vi (cu t n p))] [] S8))) else (LQ (WK L xs) (ev (WK L xs) (d + 11)) 206 31 [some (vr 72), some (vi (cu t n p))] [] S6)))) else (LQ (WK L xs) (ev (WK L xs) (d + 11)) 206 31 [some (vr 72), some (vi (cu t n p))] [] S4))) := by
    rw [q_206, m_here z h18 (by first | decide | omega), bR]
  have badK : ∀ (f : Int), 1 ≤ f ∧ f ≤ 6 → bindR (ev (WK L xs) (d + 11) 210 [vr 72, vi f, vi (S.2 72 18)] S) (fun r7 S8 => (LQ (WK L xs) (ev (WK L xs) (d + 11)) 206 76 [some (vr 72), some (vi (cu t n p))] [] S8)) = some (0, wr S 72 20 (flt f p)) ∧ Kf S (wr S 72 20 (flt f p)) ∧ (wr S 72 20 (flt f p)).2 72 20 = flt f p ∧ flt f p < 0 := by
    intro f hf
    have hn := flt_neg hf.1 p
    have e20 : (wr S 72 20 (flt f p)).2 72 20 = flt f p := by rw [wr_f, if_pos rfl]
    refine ⟨?_, Kf.w72 (by first | decide | omega), e20, hn⟩
    rw [h18, m_fails h20 hf (by first | decide | omega), bR, q_206_76, m_bad (by first | decide | omega), bR, if_pos rfl]
  unfold rdK
  by_cases c1 : isWd (cu t n p) = false ∧ isLw (cu t n p) = false
  · rw [if_pos c1]
    obtain ⟨k1, k2⟩ := badK 1 (by decide)
    refine ⟨_, ?_, k2⟩
    rw [ent, m_words, bR]
    simp only [bi_0]
    rw [if_pos (nt c1.1), m_laws, bR]
    simp only [bi_0]
    rw [if_pos (nt c1.2)]
    exact k1
  rw [if_neg c1]
  have hne : cu t n p ≠ 0 := fun e => c1 (by rw [e]; decide)
  have hp := cu_pos hne
  have to31 : ev (WK L xs) (d + 12) 206 [vr 72] S = LQ (WK L xs) (ev (WK L xs) (d + 11)) 206 31 [some (vr 72), some (vi (cu t n p))] [] S := by
    rw [ent, m_words, bR]
    simp only [bi_0]
    by_cases c2 : isWd (cu t n p) = true
    · rw [if_neg (fun q => q c2)]
    · have c3 : isLw (cu t n p) = true := by
        by_cases c3 : isLw (cu t n p) = true
        · exact c3
        · exact absurd ⟨nf c2, nf c3⟩ c1
      rw [if_pos c2, m_laws, bR]
      simp only [bi_0]
      rw [if_neg (fun q => q c3)]
  by_cases c2 : law = false ∧ isLw (cu t n p) = true
  · rw [if_pos c2]
    obtain ⟨k1, k2⟩ := badK 6 (by decide)
    refine ⟨_, ?_, k2⟩
    rw [to31, q_206_31, h25, c2.1, if_pos (by decide), m_laws, bR]
    simp only [bi_0]
    rw [if_neg (fun q => q c2.2)]
    exact k1
  rw [if_neg c2]
  by_cases c3 : m = 16
  · rw [if_pos c3]
    obtain ⟨k1, k2⟩ := badK 4 (by decide)
    refine ⟨_, ?_, k2⟩
    rw [to31, q_206_31, h25]
    by_cases c4 : law = true
    · rw [c4, if_neg (by decide), h21, if_pos (by first | decide | omega)]
      exact k1
    · have c5 : isLw (cu t n p) = false := by
        by_cases c5 : isLw (cu t n p) = true
        · exact absurd ⟨nf c4, c5⟩ c2
        · exact nf c5
      rw [nf c4, if_pos (by decide), m_laws, bR]
      simp only [bi_0]
      rw [if_pos (nt c5), h21, if_pos (by first | decide | omega)]
      exact k1
  rw [if_neg c3]
  have to76 : ev (WK L xs) (d + 12) 206 [vr 72] S = LQ (WK L xs) (ev (WK L xs) (d + 11)) 206 76 [some (vr 72), some (vi (cu t n p))] [] S := by
    rw [to31, q_206_31, h25]
    by_cases c4 : law = true
    · rw [c4, if_neg (by decide), h21, if_neg (by first | decide | omega)]
    · have c5 : isLw (cu t n p) = false := by
        by_cases c5 : isLw (cu t n p) = true
        · exact absurd ⟨nf c4, c5⟩ c2
        · exact nf c5
      rw [nf c4, if_pos (by decide), m_laws, bR]
      simp only [bi_0]
      rw [if_pos (nt c5), h21, if_neg (by first | decide | omega)]
  have hq : (0 : Int) ≤ (m : Int) ∧ (m : Int) < 16 := by omega
  generalize hS1 : wr (wr (wr (wr (wr S 86 m (cu t n p)) 87 m 0) 88 m 0) 89 m (cd.length : Int)) 72 18 ((p + 1 : Nat) : Int) = S1
  have kS : Kf S S1 := by
    rw [← hS1]
    exact ((((Kf.wA (by first | decide | omega)).tr (Kf.wA (by first | decide | omega))).tr (Kf.wA (by first | decide | omega))).tr (Kf.wA (by first | decide | omega))).tr (Kf.w72 (by first | decide | omega))
  have kK : Kk m S S1 := by
    rw [← hS1]
    exact ((((Kk.wA (Nat.le_refl _)).tr (Kk.wA (Nat.le_refl _))).tr (Kk.wA (Nat.le_refl _))).tr (Kk.wA (Nat.le_refl _))).tr Kk.w72
  have f72 : ∀ k, k ≠ 18 → S1.2 72 k = S.2 72 k := fun k hk => by rw [← hS1, wr_f, if_neg hk, wr_c (by decide), wr_c (by decide), wr_c (by decide), wr_c (by decide)]
  have f18 : S1.2 72 18 = ((p + 1 : Nat) : Int) := by rw [← hS1, wr_f, if_pos rfl]
  have f86 : S1.2 86 m = cu t n p := by rw [← hS1, wr_c (by decide), wr_c (by decide), wr_c (by decide), wr_c (by decide), wr_f, if_pos rfl]
  have f87 : S1.2 87 m = 0 := by rw [← hS1, wr_c (by decide), wr_c (by decide), wr_c (by decide), wr_f, if_pos rfl]
  have f88 : S1.2 88 m = 0 := by rw [← hS1, wr_c (by decide), wr_c (by decide), wr_f, if_pos rfl]
  have f89 : S1.2 89 m = cd.length := by rw [← hS1, wr_c (by decide), wr_f, if_pos rfl]
  have f91 : ∀ a, 91 ≤ a → S1.2 a = S.2 a := fun a ha => by rw [← hS1, wr_c (by first | decide | omega), wr_c (by first | decide | omega), wr_c (by first | decide | omega), wr_c (by first | decide | omega), wr_c (by first | decide | omega)]
  have H1 : RD t n S1 (p + 1) cd := H0.kf kS f18 (by rw [f72 _ (by decide), h20]) (f72 _ (by decide)) (f91 91 (by decide)) (f91 92 (by decide)) (by first | decide | omega)
  have go : ev (WK L xs) (d + 12) 206 [vr 72] S = (if ¬ isWd (cu t n p) = true then (if cu t n p = 120 then (bindR (ev (WK L xs) (d + 11) 214 [vr 72, vi (19 : Int)] S1) (fun r5 S6 => (if 0 ≤ (S1.2 72 21) ∧ (S1.2 72 21) < (16 : Int) then (bindR (ev (WK L xs) (d + 11) 205 [vr 72] (wr S6 87 (S1.2 72 21).toNat r5)) (fun r7 S8 => (if r7 = 0 then (LQ (WK L xs) (ev (WK L xs) (d + 11)) 206 262 [some (vr 72), none] [] S8) else (bindR (ev (WK L xs) (d + 11) 207 [vr 72] S8) (fun r9 S10 => (if r9 = (46 : Int) then (LQ (WK L xs) (ev (WK L xs) (d + 11)) 206 262 [some (vr 72), none] [] S10) else (bindR (ev (WK L xs) (d + 11) 210 [vr 72, vi (1 : Int), vi (S10.2 72 18)] S10) (fun r11 S12 => (LQ (WK L xs) (ev (WK L xs) (d + 11)) 206 262 [some (vr 72), none] [] S12))))))))) else none))) else (if cu t n p = 109 then (LQ (WK L xs) (ev (WK L xs) (d + 11)) 206 326 [some (vr 72), none] [vi (100 : Int), vr 72, vi (S1.2 72 21), vr 87] S1) else (if cu t n p = 99 then (LQ (WK L xs) (ev (WK L xs) (d + 11)) 206 326 [some (vr 72), none] [vi (100 : Int), vr 72, vi (S1.2 72 21), vr 87] S1) else (LQ (WK L xs) (ev (WK L xs) (d + 11)) 206 326 [some (vr 72), none] [vi (999999 : Int), vr 72, vi (S1.2 72 21), vr 87] S1)))) else (bindR (ev (WK L xs) (d + 11) 211 [vr 72] S1) (fun r13 S14 => (bindR (ev (WK L xs) (d + 11) 205 [vr 72] S14) (fun r15 S16 => (if r15 = 0 then (if 0 ≤ (S16.2 72 21) ∧ (S16.2 72 21) < (16 : Int) then (some ((0 : Int), (wr (wr S16 90 (S16.2 72 21).toNat (S16.2 72 22)) 72 21 (w32 ((S16.2 72 21) + (1 : Int)))))) else none) else (if cu t n p = (115 : Int) then (bindR (ev (WK L xs) (d + 11) 207 [vr 72] S16) (fun r17 S18 => (bindR (ev (WK L xs) (d + 11) 195 [vl r17, vl (49 : Int), vl (57 : Int)] S18) (fun r19 S20 => (if r19 = 0 then (bindR (ev (WK L xs) (d + 11) 210 [vr 72, vi (1 : Int), vi (S20.2 72 18)] S20) (fun r21 S22 => (LQ (WK L xs) (ev (WK L xs) (d + 11)) 206 187 [some (vr 72), none] [] S22))) else (LQ (WK L xs) (ev (WK L xs) (d + 11)) 206 187 [some (vr 72), none] [] S20)))))) else (if 0 ≤ (S16.2 72 21) ∧ (S16.2 72 21) < (16 : Int) then (some ((0 : Int), (wr (wr S16 90 (S16.2 72 21).toNat (S16.2 72 22)) 72 21 (w32 ((S16.2 72 21) + (1 : Int)))))) else none)))))))) := by
    rw [to76, q_206_76, m_good h20, bR, if_neg (by decide), h21, if_pos hq, if_pos hq, if_pos hq, if_pos hq, Int.toNat_natCast, h22, h18, w32e (x := (p : Int) + 1) (by first | decide | omega) (by first | decide | omega), show (p : Int) + 1 = ((p + 1 : Nat) : Int) by omega, hS1, m_words, bR]
    simp only [bi_0]
  have f21 : S1.2 72 21 = m := by rw [f72 _ (by decide), h21]
  have m21 : ∀ {T : AH}, Zf S1 T → T.2 72 21 = m := fun {T} hz => by rw [hz.2.2 21 (by decide) (by decide) (by decide) (by decide) (by decide) (by decide) (by decide), f21]
  have finB : ∀ {T T' : AH} {e : Int}, Bd S1 T e → Kf T T' → T'.2 72 20 = e → ev (WK L xs) (d + 12) 206 [vr 72] S = some (0, T') → ∃ T, ev (WK L xs) (d + 12) 206 [vr 72] S = some (0, T) ∧ Kf S T ∧ T.2 72 20 = e ∧ e < 0 := fun {T T' e} hb hk h20' hE => ⟨T', hE, (kS.tr hb.1.kf).tr hk, h20', hb.2.2⟩
  by_cases c4 : isWd (cu t n p) = true
  · rw [if_pos c4]
    rw [if_neg (fun q => q c4)] at go
    have endB : ∀ {T : AH} {e : Int}, Bd S1 T e → ev (WK L xs) (d + 11) 211 [vr 72] S1 = some (0, T) → ∃ T, ev (WK L xs) (d + 12) 206 [vr 72] S = some (0, T) ∧ Kf S T ∧ T.2 72 20 = e ∧ e < 0 := by
      intro T e hb hE
      have h0 : T.2 72 20 ≠ 0 := by
        have := hb.2
        omega
      refine finB (T' := wr (wr T 90 m (T.2 72 22)) 72 21 (w32 (T.2 72 21 + 1))) hb ((Kf.wA (by first | decide | omega)).tr (Kf.w72 (by first | decide | omega))) ?_ ?_
      · rw [wr_f, if_neg (by decide), wr_c (by decide)]
        exact hb.2.1
      · rw [go, hE, bR, m_bad h0, bR, if_pos rfl, if_pos (by rw [m21 hb.1]; exact hq), show (T.2 72 21).toNat = m by rw [m21 hb.1]; rfl]
    obtain ⟨C1, C2⟩ := m_cond (L := L) (xs := xs) (d := d + 1) H1
    by_cases c5 : cu t n (p + 1) = 40
    rotate_left
    · rw [if_neg c5]
      obtain ⟨T, t1, t2⟩ := C1 c5
      exact endB t2 t1
    rw [if_pos c5]
    have hC := C2 c5
    revert hC
    rw [show p + 1 + 1 = p + 2 from rfl]
    cases hr : rdC t n (p + 2) with
    | inl e =>
      rintro ⟨T, t1, t2⟩
      exact endB t2 t1
    | inr x =>
      obtain ⟨q, g⟩ := x
      rintro ⟨D1, D2⟩
      show KOk L xs d t n S cd m (if cu t n q = 41 then (if cu t n p = 115 then (if 49 ≤ cu t n (q + 1) ∧ cu t n (q + 1) ≤ 57 then .inr (q + 2, (115, cu t n (q + 1) - 48, 0, g)) else .inl (flt 1 (q + 1))) else .inr (q + 1, (cu t n p, 0, 0, g))) else .inl (flt 1 q))
      by_cases c6 : cu t n q = 41
      rotate_left
      · rw [if_neg c6]
        obtain ⟨T, t1, t2⟩ := D2 c6
        exact endB t2 t1
      rw [if_pos c6]
      obtain ⟨T, t1, t2, t3⟩ := D1 c6
      have g21 := m21 t3
      have zz : ∀ a, 86 ≤ a → a ≤ 90 → T.2 a = S1.2 a := fun a q1 q2 => t3.2.1 a (by first | decide | omega) (by first | decide | omega) (by first | decide | omega) (by first | decide | omega)
      by_cases c7 : cu t n p = 115
      rotate_left
      · rw [if_neg c7]
        obtain ⟨e1, e2, e3, e4, e5, e6⟩ := K_end (m := m) t2 (by first | decide | omega) g21
        refine ⟨_, ?_, (kS.tr t3.kf).tr e4, e1, e2, (kK.tr (Kk.z t3)).tr e5, ?_, ?_, ?_, ?_, e3⟩
        · rw [go, show ev (WK L xs) (d + 11) 211 [vr 72] S1 = some (0, T) from t1, bR, m_good t2.2.1.2.1, bR, if_neg (by decide), if_neg c7, if_pos (by rw [g21]; exact hq), show (T.2 72 21).toNat = m by rw [g21]; rfl]
        · rw [e6 86 (by decide) (by decide), zz 86 (by decide) (by decide), f86]
        · rw [e6 87 (by decide) (by decide), zz 87 (by decide) (by decide), f87]
        · rw [e6 88 (by decide) (by decide), zz 88 (by decide) (by decide), f88]
        · rw [e6 89 (by decide) (by decide), zz 89 (by decide) (by decide), f89]
      rw [if_pos c7]
      have q1n := t2.2.2.1.1
      have go2 : ev (WK L xs) (d + 12) 206 [vr 72] S = (if ¬ (49 ≤ cu t n (q + 1) ∧ cu t n (q + 1) ≤ 57) then (bindR (ev (WK L xs) (d + 11) 210 [vr 72, vi (1 : Int), vi (T.2 72 18)] T) (fun r21 S22 => (LQ (WK L xs) (ev (WK L xs) (d + 11)) 206 187 [some (vr 72), none] [] S22))) else (LQ (WK L xs) (ev (WK L xs) (d + 11)) 206 187 [some (vr 72), none] [] T)) := by
        rw [go, show ev (WK L xs) (d + 11) 211 [vr 72] S1 = some (0, T) from t1, bR, m_good t2.2.1.2.1, bR, if_neg (by decide), if_pos c7, m_here t2.1 t2.2.1.1 (by first | decide | omega), bR, m_lies, bR]
        simp only [bi_0]
      by_cases c8 : 49 ≤ cu t n (q + 1) ∧ cu t n (q + 1) ≤ 57
      · rw [if_pos c8]
        rw [if_neg (fun z => z c8)] at go2
        have hq1 := cu_pos (t := t) (n := n) (p := q + 1) (by first | decide | omega)
        generalize hU : wr (wr T 87 m (cu t n (q + 1) - 48)) 72 18 ((q + 2 : Nat) : Int) = U
        have kU : Kf T U := by rw [← hU]; exact (Kf.wA (by first | decide | omega)).tr (Kf.w72 (by first | decide | omega))
        have kkU : Kk m T U := by rw [← hU]; exact (Kk.wA (Nat.le_refl _)).tr Kk.w72
        have U72 : ∀ k, k ≠ 18 → U.2 72 k = T.2 72 k := fun k hk => by rw [← hU, wr_f, if_neg hk, wr_c (by decide)]
        have UA : ∀ a, a ≠ 72 → a ≠ 87 → U.2 a = T.2 a := fun a q1 q2 => by rw [← hU, wr_c q1, wr_c q2]
        have U87 : U.2 87 m = cu t n (q + 1) - 48 := by rw [← hU, wr_c (by decide), wr_f, if_pos rfl]
        have HU : RD t n U (q + 2) (cd ++ g) := t2.kf kU (by rw [← hU, wr_f, if_pos rfl]) (by rw [U72 _ (by decide), t2.2.1.2.1]) (U72 _ (by decide)) (UA 91 (by decide) (by decide)) (UA 92 (by decide) (by decide)) (by first | decide | omega)
        obtain ⟨e1, e2, e3, e4, e5, e6⟩ := K_end (m := m) HU (by first | decide | omega) (by rw [U72 _ (by decide), g21])
        refine ⟨_, ?_, ((kS.tr t3.kf).tr kU).tr e4, e1, e2, ((kK.tr (Kk.z t3)).tr kkU).tr e5, ?_, ?_, ?_, ?_, e3⟩
        · rw [go2, q_206_187, m_here t2.1 t2.2.1.1 (by first | decide | omega), bR, g21, if_pos hq, if_pos hq, Int.toNat_natCast, w32e (x := cu t n (q + 1) - 48) (by first | decide | omega) (by first | decide | omega), t2.2.1.1, w32e (x := ((q + 1 : Nat) : Int) + 1) (by first | decide | omega) (by first | decide | omega), show ((q + 1 : Nat) : Int) + 1 = ((q + 2 : Nat) : Int) by omega, hU, U72 22 (by decide), U72 21 (by decide), g21]
        · rw [e6 86 (by decide) (by decide), UA 86 (by decide) (by decide), zz 86 (by decide) (by decide), f86, c7]
        · rw [e6 87 (by decide) (by decide), U87]
        · rw [e6 88 (by decide) (by decide), UA 88 (by decide) (by decide), zz 88 (by decide) (by decide), f88]
        · rw [e6 89 (by decide) (by decide), UA 89 (by decide) (by decide), zz 89 (by decide) (by decide), f89]
      · rw [if_neg c8]
        rw [if_pos c8, t2.2.1.1, m_fails t2.2.1.2.1 (by decide) (by first | decide | omega), bR] at go2
        have hb : Bd S1 (wr T 72 20 (flt 1 (q + 1))) (flt 1 (q + 1)) := (Bd.fl (by decide) (q + 1)).of t3
        have zU : Zt t n (wr T 72 20 (flt 1 (q + 1))) := t2.1.fr (Zf.w72 (by first | decide | omega))
        have u18 : (wr T 72 20 (flt 1 (q + 1))).2 72 18 = ((q + 1 : Nat) : Int) := by rw [wr_f, if_neg (by decide), t2.2.1.1]
        have u21 : (wr T 72 20 (flt 1 (q + 1))).2 72 21 = m := by rw [wr_f, if_neg (by decide), g21]
        rw [q_206_187, m_here zU u18 (by first | decide | omega), bR, u21, if_pos hq, if_pos hq] at go2
        refine finB hb ?_ ?_ go2
        · exact (((Kf.wA (by first | decide | omega)).tr (Kf.w72 (by first | decide | omega))).tr (Kf.wA (by first | decide | omega))).tr (Kf.w72 (by first | decide | omega))
        · rw [wr_f, if_neg (by decide), wr_c (by decide), wr_f, if_neg (by decide), wr_c (by decide), wr_f, if_pos rfl]
  · rw [if_neg c4]
    rw [if_pos c4, f21, Int.toNat_natCast] at go
    have z1 := H1.1
    have g20 : S1.2 72 20 = 0 := H1.2.1.2.1
    by_cases c5 : cu t n p = 120
    · rw [if_pos c5]
      rw [if_pos c5] at go
      have e262 : ∀ {X : AH} {e : Int}, X.2 72 20 = e → e < 0 → X.2 72 21 = m → ∃ Y, LQ (WK L xs) (ev (WK L xs) (d + 11)) 206 262 [some (vr 72), none] [] X = some (0, Y) ∧ Kf X Y ∧ Y.2 72 20 = e := by
        intro X e h1 h2 h3
        have a20 : (wr X 72 18 (w32 (X.2 72 18 + 1))).2 72 20 = e := by rw [wr_f, if_neg (by decide), h1]
        have a21 : (wr X 72 18 (w32 (X.2 72 18 + 1))).2 72 21 = m := by rw [wr_f, if_neg (by decide), h3]
        refine ⟨_, by rw [q_206_262, m_bad (by first | decide | omega), bR, if_pos rfl, a21, if_pos hq], ((Kf.w72 (by first | decide | omega)).tr (Kf.wA (by first | decide | omega))).tr (Kf.w72 (by first | decide | omega)), ?_⟩
        rw [wr_f, if_neg (by decide), wr_c (by decide), a20]
      have hr := m_reads (L := L) (xs := xs) (d := d + 7) 19 z1 (p := p + 1) (by first | decide | omega) f18 g20
      revert hr
      cases hN : rdN t n 19 (p + 1) with
      | inl e =>
        rintro ⟨w, T, t1, t2⟩
        have a20 : (wr T 87 m w).2 72 20 = e := by rw [wr_c (by decide)]; exact t2.2.1
        obtain ⟨Y, y1, y2, y3⟩ := e262 a20 t2.2.2 (by rw [wr_c (by decide), m21 t2.1])
        rw [show ev (WK L xs) (d + 11) 214 [vr 72, vi 19] S1 = some (w, T) from t1, bR, if_pos hq, m_bad (by have := t2.2.2; omega), bR, if_pos rfl, y1] at go
        exact finB t2 ((Kf.wA (by first | decide | omega)).tr y2) y3 go
      | inr qv =>
        obtain ⟨q, v⟩ := qv
        rintro ⟨T, t1, t2⟩
        have hq2 := rdN_lt hN
        have hqn := hq2.2 (by first | decide | omega)
        have g21 : T.2 72 21 = m := by rw [t2.2.2.1 _ (by decide), f21]
        have v20 : (wr T 87 m v).2 72 20 = 0 := by rw [wr_c (by decide), t2.2.2.1 _ (by decide), g20]
        have v18 : (wr T 87 m v).2 72 18 = q := by rw [wr_c (by decide), t2.2.2.2]
        have v21 : (wr T 87 m v).2 72 21 = m := by rw [wr_c (by decide), g21]
        have kV : Kf S1 (wr T 87 m v) := t2.zf.kf.tr (Kf.wA (by first | decide | omega))
        have zV : Zt t n (wr T 87 m v) := z1.kf kV
        rw [show ev (WK L xs) (d + 11) 214 [vr 72, vi 19] S1 = some (v, T) from t1, bR, if_pos hq, m_good v20, bR, if_neg (by decide), m_here zV v18 (by first | decide | omega), bR] at go
        show KOk L xs d t n S cd m (if cu t n q = 46 then (match rdN t n 15 (q + 1) with
          | .inl e => .inl e
          | .inr (r, u) => .inr (r, (120, v, u, []))) else .inl (flt 1 q))
        by_cases c6 : cu t n q = 46
        rotate_left
        · rw [if_neg c6]
          have hn := flt_neg (f := 1) (by decide) q
          obtain ⟨Y, y1, y2, y3⟩ := e262 (X := wr (wr T 87 m v) 72 20 (flt 1 q)) (e := flt 1 q) (by rw [wr_f, if_pos rfl]) hn (by rw [wr_f, if_neg (by decide), v21])
          rw [if_neg c6, v18, m_fails v20 (by decide) (by first | decide | omega), bR, y1] at go
          exact ⟨Y, go, ((kS.tr kV).tr (Kf.w72 (by first | decide | omega))).tr y2, y3, hn⟩
        rw [if_pos c6]
        have hqlt := cu_pos (t := t) (n := n) (p := q) (by first | decide | omega)
        generalize hV2 : wr (wr T 87 m v) 72 18 ((q + 1 : Nat) : Int) = V2
        have kV2 : Kf S1 V2 := by rw [← hV2]; exact kV.tr (Kf.w72 (by first | decide | omega))
        have kkV2 : Kk m S1 V2 := by rw [← hV2]; exact ((Kk.z t2.zf).tr (Kk.wA (Nat.le_refl _))).tr Kk.w72
        have w18 : V2.2 72 18 = ((q + 1 : Nat) : Int) := by rw [← hV2, wr_f, if_pos rfl]
        have w20 : V2.2 72 20 = 0 := by rw [← hV2, wr_f, if_neg (by decide), v20]
        have w21 : V2.2 72 21 = m := by rw [← hV2, wr_f, if_neg (by decide), v21]
        have w22 : V2.2 72 22 = S1.2 72 22 := by rw [← hV2, wr_f, if_neg (by decide), wr_c (by decide), t2.2.2.1 _ (by decide)]
        have wA : ∀ a, a ≠ 72 → a ≠ 87 → V2.2 a = S1.2 a := fun a q1 q2 => by rw [← hV2, wr_c q1, wr_c q2, t2.2.1 a q1]
        have w87 : V2.2 87 m = v := by rw [← hV2, wr_c (by decide), wr_f, if_pos rfl]
        rw [if_pos c6, q_206_262, v18, w32e (x := (q : Int) + 1) (by first | decide | omega) (by first | decide | omega), show (q : Int) + 1 = ((q + 1 : Nat) : Int) by omega, hV2, m_good w20, bR, if_neg (by decide)] at go
        have hr2 := m_reads (L := L) (xs := xs) (d := d + 7) 15 (z1.kf kV2) (p := q + 1) (by first | decide | omega) w18 w20
        revert hr2
        cases hN2 : rdN t n 15 (q + 1) with
        | inl e =>
          rintro ⟨w, T2, s1, s2⟩
          have b21 : T2.2 72 21 = m := by rw [s2.1.2.2 21 (by decide) (by decide) (by decide) (by decide) (by decide) (by decide) (by decide), w21]
          rw [show ev (WK L xs) (d + 11) 214 [vr 72, vi 15] V2 = some (w, T2) from s1, bR, w21, if_pos hq, b21, if_pos hq] at go
          refine ⟨_, go, ((kS.tr kV2).tr s2.1.kf).tr (((Kf.wA (by first | decide | omega)).tr (Kf.wA (by first | decide | omega))).tr (Kf.w72 (by first | decide | omega))), ?_, s2.2.2⟩
          rw [wr_f, if_neg (by decide), wr_c (by decide), wr_c (by decide)]
          exact s2.2.1
        | inr ru =>
          obtain ⟨r, u⟩ := ru
          rintro ⟨T2, s1, s2⟩
          have hr3 := rdN_lt hN2
          have b21 : T2.2 72 21 = m := by rw [s2.2.2.1 _ (by decide), w21]
          have kU : Kf S1 (wr T2 88 m u) := (kV2.tr s2.zf.kf).tr (Kf.wA (by first | decide | omega))
          have kkU : Kk m S1 (wr T2 88 m u) := (kkV2.tr (Kk.z s2.zf)).tr (Kk.wA (Nat.le_refl _))
          have HU : RD t n (wr T2 88 m u) r cd := H1.kf kU (by rw [wr_c (by decide), s2.2.2.2]) (by rw [wr_c (by decide), s2.2.2.1 _ (by decide), w20]) (by rw [wr_c (by decide), s2.2.2.1 _ (by decide), w22]) (by rw [wr_c (by decide), s2.2.1 _ (by decide), wA _ (by decide) (by decide)]) (by rw [wr_c (by decide), s2.2.1 _ (by decide), wA _ (by decide) (by decide)]) ⟨by omega, hr3.2 (by first | decide | omega)⟩
          obtain ⟨e1, e2, e3, e4, e5, e6⟩ := K_end (m := m) HU (by first | decide | omega) (by rw [wr_c (by decide), b21])
          rw [← List.append_nil cd] at e1
          have e3' := e3
          rw [← List.append_nil cd] at e3'
          refine ⟨_, ?_, (kS.tr kU).tr e4, e1, e2, (kK.tr kkU).tr e5, ?_, ?_, ?_, ?_, e3'⟩
          · rw [go, show ev (WK L xs) (d + 11) 214 [vr 72, vi 15] V2 = some (u, T2) from s1, bR, w21, if_pos hq, b21, if_pos hq, Int.toNat_natCast, wr_c (by decide), b21]
          · rw [e6 86 (by decide) (by decide), wr_c (by decide), s2.2.1 _ (by decide), wA _ (by decide) (by decide), f86, c5]
          · rw [e6 87 (by decide) (by decide), wr_c (by decide), s2.2.1 _ (by decide), w87]
          · rw [e6 88 (by decide) (by decide), wr_f, if_pos rfl]
          · rw [e6 89 (by decide) (by decide), wr_c (by decide), s2.2.1 _ (by decide), wA _ (by decide) (by decide), f89]
    · rw [if_neg c5]
      rw [if_neg c5] at go
      generalize hmost : (if cu t n p = 109 ∨ cu t n p = 99 then (100 : Int) else 999999) = most
      have go2 : ev (WK L xs) (d + 12) 206 [vr 72] S = LQ (WK L xs) (ev (WK L xs) (d + 11)) 206 326 [some (vr 72), none] [vi most, vr 72, vi (m : Int), vr 87] S1 := by
        rw [go, ← hmost]
        by_cases c6 : cu t n p = 109
        · rw [if_pos c6, if_pos (Or.inl c6)]
        · rw [if_neg c6]
          by_cases c7 : cu t n p = 99
          · rw [if_pos c7, if_pos (Or.inr c7)]
          · rw [if_neg c7, if_neg (by first | decide | omega)]
      have hr := m_reads (L := L) (xs := xs) (d := d + 7) most z1 (p := p + 1) (by first | decide | omega) f18 g20
      rw [q_206_326] at go2
      revert hr
      cases hN : rdN t n most (p + 1) with
      | inl e =>
        rintro ⟨w, T, t1, t2⟩
        rw [show ev (WK L xs) (d + 11) 214 [vr 72, vi most] S1 = some (w, T) from t1, bR, if_pos hq, m21 t2.1, if_pos hq] at go2
        refine finB t2 ?_ ?_ go2
        · exact ((Kf.wA (by first | decide | omega)).tr (Kf.wA (by first | decide | omega))).tr (Kf.w72 (by first | decide | omega))
        · rw [wr_f, if_neg (by decide), wr_c (by decide), wr_c (by decide)]
          exact t2.2.1
      | inr qv =>
        obtain ⟨q, v⟩ := qv
        rintro ⟨T, t1, t2⟩
        have hq2 := rdN_lt hN
        have g21 : T.2 72 21 = m := by rw [t2.2.2.1 _ (by decide), f21]
        have kU : Kf S1 (wr T 87 m v) := t2.zf.kf.tr (Kf.wA (by first | decide | omega))
        have HU : RD t n (wr T 87 m v) q cd := H1.kf kU (by rw [wr_c (by decide), t2.2.2.2]) (by rw [wr_c (by decide), t2.2.2.1 _ (by decide), g20]) (by rw [wr_c (by decide), t2.2.2.1 _ (by decide)]) (by rw [wr_c (by decide), t2.2.1 _ (by decide)]) (by rw [wr_c (by decide), t2.2.1 _ (by decide)]) ⟨by omega, hq2.2 (by first | decide | omega)⟩
        obtain ⟨e1, e2, e3, e4, e5, e6⟩ := K_end (m := m) HU (by first | decide | omega) (by rw [wr_c (by decide), g21])
        rw [← List.append_nil cd] at e1
        have e3' := e3
        rw [← List.append_nil cd] at e3'
        refine ⟨_, ?_, (kS.tr kU).tr e4, e1, e2, ((kK.tr (Kk.z t2.zf)).tr (Kk.wA (Nat.le_refl _))).tr e5, ?_, ?_, ?_, ?_, e3'⟩
        · rw [go2, show ev (WK L xs) (d + 11) 214 [vr 72, vi most] S1 = some (v, T) from t1, bR, if_pos hq, g21, if_pos hq, Int.toNat_natCast, wr_c (by decide), g21]
        · rw [e6 86 (by decide) (by decide), wr_c (by decide), t2.2.1 _ (by decide), f86]
        · rw [e6 87 (by decide) (by decide), wr_f, if_pos rfl]
        · rw [e6 88 (by decide) (by decide), wr_c (by decide), t2.2.1 _ (by decide), f88]
        · rw [e6 89 (by decide) (by decide), wr_c (by decide), t2.2.1 _ (by decide), f89]
end
