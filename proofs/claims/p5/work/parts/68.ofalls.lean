/-! falls: the call -/
section
variable {L : Nat} {xs : Nat → Int} {d : Nat} {S T U S' : AH}
theorem o_falls (H : Inv S) (p : Int) : Ok L xs 57 306 [vi p] S := by
  have gv := H.gv
  have gk := H.gk
  have gp := H.gp
  have hn := gv.1.1
  have hkn := gk.n
  have ht := H.gt
  by_cases hp : 0 ≤ p ∧ p < S.2 72 40
  · obtain ⟨v, hv⟩ := Int.eq_ofNat_of_zero_le hp.1
    subst hv
    obtain ⟨a1, a2, a3, a4, a5, a6, a7, a8, a9, a10, a11, a12, a13, a14, a15, a16⟩ := gv.2.2.2.1 v hp.2
    have h5 := a1.1
    have hq : (0 : Int) ≤ (v : Int) ∧ (v : Int) < 80 := by omega
    have h50 : ¬ auA S v = 0 := by omega
    have htd := (gv.1.2.1 v hp.2).2.2.2.2.1
    by_cases hk : S.2 97 v = 4
    · by_cases hf : S.2 105 v = 0
      · have hnb := nmb_bd H.gl (k := 4) (by decide) (S.2 104 v)
        obtain ⟨T, t1, t2, t3⟩ := x_nmb (L := L) (xs := xs) (d := 193) H.gl (k := 4) (by decide) (S.2 104 v)
        generalize hNm : nmb S.2 4 (S.2 104 v) = nm at t1 hnb
        have oT : isO T (auA S v) 11 14 := a1.eq t2
        have eT : T.2 (auA S v) = S.2 (auA S v) := t3 _ (by first | decide | omega)
        rw [if_neg (show ¬ S.2 97 v = 1 by omega)] at a9
        have x58 : ev (WK L xs) 199 58 [vr 15, vr (auA S v)] S = some (bi (S.2 104 v + nm < S.2 72 2 ∧ (S.2 102 v = -1 ∨ S.2 104 v + nm < S.2 103 v)), T) := by
          have h40 : ev (WK L xs) 198 58 = ev (WK L xs) 198 58 := rfl
          rw [q_58, k11 a1, k11 a1, rdvD h5, a7]
          rw [show ev (WK L xs) 198 108 [vr 31, vi 4, vi (S.2 104 v)] S = some (nm, T) from t1, bR, k11 oT, k11 oT, rdvD h5, rdvD h5, eT, a9, a11, w32e (x := S.2 104 v + nm) (by first | decide | omega) (by first | decide | omega), w32e (by first | decide | omega) (by first | decide | omega), q_58_40, t3 15 (by decide), ht.1]
          by_cases c1 : S.2 102 v = -1
          · rw [if_pos c1]
            by_cases c2 : S.2 104 v + nm < S.2 72 2
            · rw [if_neg (by first | decide | omega), bi_T ⟨c2, Or.inl c1⟩]
            · rw [if_pos (by first | decide | omega), bi_F (fun z => c2 z.1)]
          · rw [if_neg c1]
            by_cases c3 : S.2 104 v + nm < S.2 103 v
            · rw [if_neg (by first | decide | omega)]
              by_cases c2 : S.2 104 v + nm < S.2 72 2
              · rw [if_neg (by first | decide | omega), bi_T ⟨c2, Or.inr c3⟩]
              · rw [if_pos (by first | decide | omega), bi_F (fun z => c2 z.1)]
            · rw [if_pos (by first | decide | omega), bi_F (fun z => by omega)]
              split <;> rfl
        by_cases hP : S.2 104 v + nm < S.2 72 2 ∧ (S.2 102 v = -1 ∨ S.2 104 v + nm < S.2 103 v)
        · obtain ⟨N, hN⟩ := Int.eq_ofNat_of_zero_le hkn.1
          obtain ⟨n, hnn⟩ := Int.eq_ofNat_of_zero_le gp.1.2.1.1
          have hcl : ∀ e, e < N → isO S (clA S e) 12 15 ∧ clA S e ≠ auA S v := fun e he => ⟨gk.ob (by first | decide | omega), (au_cl gv gk hp.2 (show (e : Int) < S.2 72 52 by omega)).1.symm⟩
          have lo : ∀ a, a < 151 → ∀ e, e < N → a ≠ clA S e := fun a ha e he z => by have := (hcl e he).1.1; omega
          have cB : ∀ a, a ≠ 35 → a ≠ auA S v → (wr T (auA S v) 10 1).2 a = S.2 a := fun a q1 q2 => by rw [wr_c q2, t3 a q1]
          obtain ⟨X, x1, x2, x3, x4, x5⟩ := x_flL (L := L) (xs := xs) (d := 197) gk gp (B := wr T (auA S v) 10 1) (v := (v : Int)) (N := N) (n := n) hN hnn t2 (fun a ha => cB a (by first | decide | omega) (by first | decide | omega)) (fun e he => cB _ (by have := (hcl e he).1.1; omega) (hcl e he).2) N 0 (wr T (auA S v) 10 1) (by first | decide | omega) t2 (fun _ _ _ => rfl) (fun e he k => by rw [cB _ (by have := (hcl e he).1.1; omega) (hcl e he).2, if_neg (by first | decide | omega)]) (fun j => by rw [cB 21 (by decide) (by first | decide | omega)]; rfl)
          have cX : ∀ a, a < 151 → a ≠ 21 → a ≠ 35 → X.2 a = S.2 a := fun a q1 q2 q3 => by rw [x3 a q2 (lo a q1), cB a q3 (by first | decide | omega)]
          have X72 : X.2 72 = S.2 72 := cX 72 (by decide) (by decide) (by decide)
          have hRV : RV X.2 := gv.1.fr (fun a ha => cX a (by first | decide | omega) (by first | decide | omega) (by first | decide | omega)) (fun k _ => by rw [X72]) (by unfold HM; rw [X72]; omega)
          have hFx : Fx (fun a => a = auA S v ∨ ∃ e, e < N ∧ a = clA S e) S X := ⟨by rw [x2]; exact Nat.le_refl _, fun a q1 q2 => ⟨by rw [x2], fun q => by
            rw [x3 a (by first | decide | omega) (fun e he z => q (Or.inr ⟨e, he, z⟩)), cB a (by first | decide | omega) (fun z => q (Or.inl z))]⟩⟩
          have hXt : Xt (fun a => a = auA S v ∨ ∃ e, e < N ∧ a = clA S e) S := by
            rintro a (rfl | ⟨e, he, rfl⟩)
            · rw [a1.2.2]; omega
            · rw [(hcl e he).1.2.2]; omega
          have glX : GL X := H.gl.fx hFx hXt (fun a q => cX a (by first | decide | omega) (by first | decide | omega) (by first | decide | omega)) (by rw [X72]) (fun t x _ q => q.cells (fun a q1 q2 => cX a (by first | decide | omega) (by first | decide | omega) (by first | decide | omega)))
          obtain ⟨Z, z1, z2, z3⟩ := m_nmb (L := L) (xs := xs) (d := 195) glX (k := 4) (by decide) (S.2 104 v)
          rw [nmb_fr 4 _ (cX 78 (by decide) (by decide) (by decide)) (cX 79 (by decide) (by decide) (by decide)) (cX 80 (by decide) (by decide) (by decide)) (cX 81 (by decide) (by decide) (by decide)) (cX 94 (by decide) (by decide) (by decide)) (cX 95 (by decide) (by decide) (by decide)) (by rw [X72]), hNm] at z1
          have cZ : ∀ a, a < 151 → a ≠ 21 → a ≠ 35 → a ≠ 96 → Z.2 a = S.2 a := fun a q1 q2 q3 q4 => by rw [z3 a q4, cX a q1 q2 q3]
          have cY : ∀ a, a < 151 → a ≠ 21 → a ≠ 35 → a ≠ 96 → a ≠ 105 → (wr Z 105 v 1).2 a = S.2 a := fun a q1 q2 q3 q4 q5 => by rw [wr_c q5, cZ a q1 q2 q3 q4]
          have hZ1 : Z.1 = S.1 := z2.trans x2
          obtain ⟨F, f1, f2, f3, f4, f5⟩ := m_flL (L := L) (xs := xs) (d := 197) gk gp (B := wr Z 105 v 1) (v := (v : Int)) (N := N) (n := n) hN hnn hZ1 (fun a ha => cY a (by first | decide | omega) (by first | decide | omega) (by first | decide | omega) (by first | decide | omega) (by first | decide | omega)) N 0 (wr Z 105 v 1) (by first | decide | omega) hZ1 (fun _ _ _ => rfl) (fun e => by rw [cY 119 (by decide) (by decide) (by decide) (by decide) (by decide), if_neg (by first | decide | omega)]) (fun j => by rw [cY 77 (by decide) (by decide) (by decide) (by decide) (by decide)]; rfl)
          refine ⟨fsm S.2 v N, X, F, ?_, ?_, ?_, Gw.of f2⟩
          · rw [q_57, x_au gv hp.2, bR, Int.toNat_natCast, if_neg h50, g14a a1, k11 a1, k11 a1, rdvD h5, rdvD h5, a3, if_pos hk, a12, if_pos hf, x58, bR, bi_T hP, if_neg (by decide), k11w oT]
            exact x1
          · have x104 : X.2 104 v = S.2 104 v := by rw [cX 104 (by decide) (by decide) (by decide)]
            rw [q_306, m_isAu hRV, bR]
            simp only [bi_0, X72, Int.toNat_natCast, cX 97 (by decide) (by decide) (by decide), cX 105 (by decide) (by decide) (by decide), x104, if_pos hq]
            rw [if_neg (fun z => z hp), if_pos hk, if_pos hf]
            rw [show ev (WK L xs) 199 236 [vr 72, vi 100, vi (S.2 104 v)] X = some (nm, Z) from z1, bR, w32e (x := S.2 104 v + nm) (by first | decide | omega) (by first | decide | omega)]
            simp only [cZ 72 (by decide) (by decide) (by decide) (by decide), cZ 102 (by decide) (by decide) (by decide) (by decide), cZ 103 (by decide) (by decide) (by decide) (by decide)]
            rw [if_pos hP.1]
            by_cases c1 : S.2 102 v = -1
            · rw [if_pos c1]
              exact f1
            · rw [if_neg c1, if_pos (by first | decide | omega)]
              exact f1
          · have hS1 : Inv (wr (wr S (auA S v) 10 1) 105 v 1) := by
              refine H.au1 hp.2 rfl (fun a q1 q2 => by rw [wr_c (by first | decide | omega), wr_c q2]) (fun a q1 _ q3 _ _ => by rw [wr_c q3, wr_c (by first | decide | omega)]) (fun a j q1 q2 => ?_) (fun k q1 q2 => ?_) ?_ ?_ ?_ ?_
              · rw [wr_2, if_neg (fun z => q2 z.2), wr_c (by first | decide | omega)]
              · rw [wr_c (by first | decide | omega), wr_f, if_neg (by first | decide | omega)]
              · rw [wr_c (by first | decide | omega), wr_f, if_neg (by decide), wr_c (by decide), wr_c (by first | decide | omega), a10]
              · rw [wr_c (by first | decide | omega), wr_f, if_pos rfl, wr_f, if_pos rfl]
              · rw [wr_c (by first | decide | omega), wr_f, if_neg (by decide), wr_c (by decide), wr_c (by first | decide | omega), a13]
              · rw [wr_c (by first | decide | omega), wr_f, if_neg (by decide), wr_c (by decide), wr_c (by first | decide | omega), a14]
            generalize hS1e : wr (wr S (auA S v) 10 1) 105 v 1 = S1 at hS1
            have s1 : ∀ a, a ≠ 105 → a ≠ auA S v → S1.2 a = S.2 a := fun a q1 q2 => by rw [← hS1e, wr_c q1, wr_c q2]
            have s72 : S1.2 72 = S.2 72 := s1 72 (by decide) (by first | decide | omega)
            have scl : ∀ e, clA S1 e = clA S e := fun e => by unfold clA; rw [s1 44 (by decide) (by first | decide | omega)]
            have hFlo : ∀ a, a < 151 → a ≠ 21 → a ≠ 35 → a ≠ 77 → a ≠ 96 → a ≠ 119 → F.2 a = S1.2 a := fun a q1 q2 q3 q4 q5 q6 => by
              rw [f3 a q4 q6]
              by_cases e : a = 105
              · subst e
                rw [← hS1e]
                funext k
                rw [wr_f, wr_f, cZ 105 (by decide) (by decide) (by decide) (by decide), wr_c (by first | decide | omega)]
              · rw [cY a q1 q2 q3 q5 e, s1 a e (by first | decide | omega)]
            have hFhi : ∀ a, 151 ≤ a → (∀ e, e < N → a ≠ clA S e) → F.2 a = S1.2 a := fun a q1 q2 => by
              rw [f3 a (by first | decide | omega) (by first | decide | omega), wr_c (by first | decide | omega), z3 a (by first | decide | omega), x3 a (by first | decide | omega) q2]
              by_cases e : a = auA S v
              · subst e
                rw [← hS1e]
                funext k
                rw [wr_f, eT, wr_c (by first | decide | omega), wr_f]
              · rw [cB a (by first | decide | omega) e, s1 a (by first | decide | omega) e]
            have hFcl : ∀ e, e < N → ∀ k, F.2 (clA S e) k = if k = 11 ∧ S.2 116 e = v ∧ S.2 119 e = 0 then 1 else S.2 (clA S e) k := fun e he k => by
              have := (hcl e he).1.1
              rw [f3 _ (by first | decide | omega) (by first | decide | omega), wr_c (by first | decide | omega), z3 _ (by first | decide | omega), x4 e he k]
            have F21 : ∀ j, F.2 21 j = cg S.2 v n (S.2 21 j) j N := fun j => by rw [f3 21 (by decide) (by decide), wr_c (by decide), z3 21 (by decide), x5 j]
            have hM1 : Inv ((S.1, fun a => if a = 21 ∨ a = 77 ∨ a = 35 ∨ a = 96 then S.2 a else F.2 a) : AH) := by
              have cc : ∀ a, a < 151 → a ≠ 119 → ((S.1, fun a => if a = 21 ∨ a = 77 ∨ a = 35 ∨ a = 96 then S.2 a else F.2 a) : AH).2 a = S1.2 a := fun a q1 q2 => by
                show (if a = 21 ∨ a = 77 ∨ a = 35 ∨ a = 96 then S.2 a else F.2 a) = _
                by_cases e : a = 21 ∨ a = 77 ∨ a = 35 ∨ a = 96
                · rw [if_pos e, s1 a (by first | decide | omega) (by first | decide | omega)]
                · rw [if_neg e, hFlo a q1 (by first | decide | omega) (by first | decide | omega) (by first | decide | omega) (by first | decide | omega) q2]
              have c119 : ∀ e, ((S.1, fun a => if a = 21 ∨ a = 77 ∨ a = 35 ∨ a = 96 then S.2 a else F.2 a) : AH).2 119 e = if e < N ∧ S.2 116 e = v ∧ S.2 119 e = 0 then 1 else S.2 119 e := fun e => f4 e
              have chi : ∀ a, 151 ≤ a → ((S.1, fun a => if a = 21 ∨ a = 77 ∨ a = 35 ∨ a = 96 then S.2 a else F.2 a) : AH).2 a = F.2 a := fun a q1 => by
                show (if a = 21 ∨ a = 77 ∨ a = 35 ∨ a = 96 then S.2 a else F.2 a) = _
                rw [if_neg (by first | decide | omega)]
              refine hS1.marks (by rw [← hS1e]; rfl) (fun a q1 q2 => ?_) (fun a q1 q2 q3 q4 => cc a q1 (by first | decide | omega)) (fun y hy => ?_) (fun c hc => ?_) (fun c hc => ?_) (fun c hc a q1 q2 => ?_)
              · rw [chi a q1]
                exact hFhi a q1 (fun e he z => q2 e (by rw [s72, hN]; omega) (by rw [scl]; exact z))
              · rw [cc 46 (by decide) (by decide), cc 146 (by decide) (by decide)]
                exact hS1.gk.2.2.2.2.2.2.2.2.2.1 y hy
              · rw [s72] at hc
                have hcN : c < N := by omega
                have o5 := (hcl c hcN).1.1
                obtain ⟨b1, b2, b3, b4, b5, b6, b7, b8, b9, b10, b11, b12, b13, b14, b15, b16⟩ := gk.2.2.2.2.1 c hc
                rw [scl, chi _ o5, c119 c, cc 118 (by decide) (by decide), cc 120 (by decide) (by decide), cc 121 (by decide) (by decide), cc 122 (by decide) (by decide), s1 118 (by decide) (by first | decide | omega), s1 120 (by decide) (by first | decide | omega), s1 121 (by decide) (by first | decide | omega), s1 122 (by decide) (by first | decide | omega), hFcl c hcN 10, hFcl c hcN 11, hFcl c hcN 12, hFcl c hcN 13, if_neg (show ¬ ((10 : Nat) = 11 ∧ S.2 116 c = (v : Int) ∧ S.2 119 c = 0) from fun z => absurd z.1 (by decide)), if_neg (show ¬ ((12 : Nat) = 11 ∧ S.2 116 c = (v : Int) ∧ S.2 119 c = 0) from fun z => absurd z.1 (by decide)), if_neg (show ¬ ((13 : Nat) = 11 ∧ S.2 116 c = (v : Int) ∧ S.2 119 c = 0) from fun z => absurd z.1 (by decide)), s1 (clA S c) (by first | decide | omega) (hcl c hcN).2]
                refine ⟨fun k hk2 => by rw [hFcl c hcN k, if_neg (by first | decide | omega)], b12, ?_, b14, b15⟩
                by_cases q : S.2 116 c = v ∧ S.2 119 c = 0
                · rw [if_pos ⟨rfl, q⟩, if_pos ⟨hcN, q⟩]
                · rw [if_neg (fun z => q z.2), if_neg (fun z => q z.2), b13]
              · rw [s72] at hc
                obtain ⟨r1, r2, r3, r4, r5, r6, r7, r8, r9, r10, r11, r12, r13⟩ := gk.1.2.2.2.1 c hc
                rw [c119 c, cc 120 (by decide) (by decide), cc 121 (by decide) (by decide), cc 122 (by decide) (by decide), s1 120 (by decide) (by first | decide | omega), s1 121 (by decide) (by first | decide | omega), s1 122 (by decide) (by first | decide | omega), s1 111 (by decide) (by first | decide | omega)]
                refine ⟨?_, r10, r11, r12⟩
                split
                · exact Or.inr rfl
                · exact r9
              · rw [s72, hN] at hc
                by_cases e : a = 119
                · subst e
                  rw [c119 c, if_neg (by first | decide | omega), s1 119 (by decide) (by first | decide | omega)]
                · rw [cc a (by first | decide | omega) e]
            have hM2 : Inv ((S.1, fun a => if a = 35 ∨ a = 96 then S.2 a else F.2 a) : AH) := by
              refine hM1.chg rfl (fun a q1 q2 => ?_) (fun i hi => ?_)
              · show (if a = 35 ∨ a = 96 then S.2 a else F.2 a) = (if a = 21 ∨ a = 77 ∨ a = 35 ∨ a = 96 then S.2 a else F.2 a)
                by_cases e : a = 35 ∨ a = 96
                · rw [if_pos e, if_pos (by first | decide | omega)]
                · rw [if_neg e, if_neg (by first | decide | omega)]
              · show F.2 21 i = F.2 77 i
                rw [F21 i, f5 i, gp.2.2.2.2.2 i hi]
            refine hM2.scr (Fr.eq f2 (fun a q1 => ?_)) (fun a k q1 q2 => ?_)
            · show F.2 a = (if a = 35 ∨ a = 96 then S.2 a else F.2 a)
              rw [if_neg (by first | decide | omega)]
            · show F.2 a k = (if a = 35 ∨ a = 96 then S.2 a else F.2 a) k
              rw [if_neg (fun z => q2 (by unfold scr; omega))]
        · have HT := H.s35 t2 t3
          obtain ⟨U, u1, u2, u3⟩ := m_nmb (L := L) (xs := xs) (d := 195) HT.gl (k := 4) (by decide) (S.2 104 v)
          rw [nmb_fr 4 _ (t3 78 (by decide)) (t3 79 (by decide)) (t3 80 (by decide)) (t3 81 (by decide)) (t3 94 (by decide)) (t3 95 (by decide)) (by rw [t3 72 (by decide)]), hNm] at u1
          refine ⟨-1, T, U, ?_, ?_, HT.s96 u2 u3, Gw.of (u2.trans t2)⟩
          · rw [q_57, x_au gv hp.2, bR, Int.toNat_natCast, if_neg h50, g14a a1, k11 a1, k11 a1, rdvD h5, rdvD h5, a3, if_pos hk, a12, if_pos hf, x58, bR, bi_F hP, if_pos rfl]
          · rw [q_306, m_isAu HT.gv.1, bR]
            simp only [bi_0, t3 72 (by decide), Int.toNat_natCast, t3 97 (by decide), t3 105 (by decide), t3 104 (by decide), if_pos hq]
            rw [if_neg (fun z => z hp), if_pos hk, if_pos hf]
            rw [show ev (WK L xs) 199 236 [vr 72, vi 100, vi (S.2 104 v)] T = some (nm, U) from u1, bR, w32e (x := S.2 104 v + nm) (by first | decide | omega) (by first | decide | omega), u3 72 (by decide), u3 102 (by decide), u3 103 (by decide), t3 72 (by decide), t3 102 (by decide), t3 103 (by decide)]
            by_cases c1 : S.2 104 v + nm < S.2 72 2
            · rw [if_pos c1, if_neg (fun z => hP ⟨c1, Or.inl z⟩), if_neg (fun z => hP ⟨c1, Or.inr z⟩)]
            · rw [if_neg c1]
      · refine Ok.same (r := -1) H ?_ ?_
        · rw [q_57, x_au gv hp.2, bR, Int.toNat_natCast, if_neg h50, g14a a1, k11 a1, k11 a1, rdvD h5, rdvD h5, a3, if_pos hk, a12, if_neg hf]
        · rw [q_306, m_isAu gv.1, bR]
          simp only [bi_0, Int.toNat_natCast]
          rw [if_neg (fun z => z hp), if_pos hq, if_pos hk, if_pos hq, if_neg hf]
    · refine Ok.same (r := -1) H ?_ ?_
      · rw [q_57, x_au gv hp.2, bR, Int.toNat_natCast, if_neg h50, g14a a1, k11 a1, rdvD h5, a3, if_neg hk]
      · rw [q_306, m_isAu gv.1, bR]
        simp only [bi_0, Int.toNat_natCast]
        rw [if_neg (fun z => z hp), if_pos hq, if_neg hk]
  · refine Ok.same (r := -1) H ?_ ?_
    · rw [q_57, x_au0 gv hp, bR, if_pos (by decide)]
    · rw [q_306, m_isAu gv.1, bR]
      simp only [bi_0]
      rw [if_pos hp]
end
