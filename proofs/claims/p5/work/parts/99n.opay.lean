/-! pay: the call -/
section
variable {L : Nat} {xs : Nat → Int} {d : Nat} {S S' T U W A : AH} {h : Nat → Nat → Int} {c : Nat}
theorem leV_inl {k : Int} : ∀ (m v : Nat) (w a : Int), leV h c k m v w = .inl a → ∃ u : Nat, a = (u : Int) ∧ u < v + m ∧ h 97 u = k ∧ barV h c u = 0 := by
  intro m
  induction m with
  | zero => intro v w a e; cases e
  | succ m ih =>
    intro v w a e
    unfold leV at e
    split at e
    · split at e
      · exact ⟨v, (Sum.inl.inj e).symm, by omega, (by assumption : _ ∧ _).1, by assumption⟩
      · obtain ⟨u, u1, u2, u3⟩ := ih _ _ _ e
        exact ⟨u, u1, by omega, u3⟩
    · obtain ⟨u, u1, u2, u3⟩ := ih _ _ _ e
      exact ⟨u, u1, by omega, u3⟩
theorem leK_cs (hn : 0 ≤ h 72 40) : ∀ (r : List Int) (w : Int), (0 ≤ w ∧ w ≤ 8) → (∀ k, k ∈ r → k ≠ 1) → (-18 ≤ leK h c r w ∧ leK h c r w ≤ -10) ∨ ∃ u : Nat, leK h c r w = (u : Int) ∧ (u : Int) < h 72 40 ∧ h 97 u ≠ 1 ∧ barV h c u = 0 := by
  intro r
  induction r with
  | nil =>
    intro w hw _
    refine Or.inl ?_
    show -18 ≤ -10 - w ∧ -10 - w ≤ -10
    omega
  | cons k r ih =>
    intro w hw hr
    have hb := leV_bd h c k (h 72 40).toNat 0 w
    have hi := leV_inl (h := h) (c := c) (k := k) (h 72 40).toNat 0 w
    rw [leK_cons]
    revert hb hi
    cases leV h c k (h 72 40).toNat 0 w with
    | inl a =>
      intro _ hi
      obtain ⟨u, u1, u2, u3, u4⟩ := hi a rfl
      refine Or.inr ⟨u, u1, by omega, ?_, u4⟩
      rw [u3]
      exact hr k (List.mem_cons_self ..)
    | inr u =>
      intro hb _
      exact ih u (hb u hw rfl) (fun q hq => hr q (List.mem_cons_of_mem _ hq))
theorem ltV_cs (hn : 0 ≤ h 72 40) : (-18 ≤ ltV h c ∧ ltV h c ≤ -10) ∨ ∃ u : Nat, ltV h c = (u : Int) ∧ (u : Int) < h 72 40 ∧ h 97 u ≠ 1 ∧ barV h c u = 0 := leK_cs hn _ 1 (by decide) (fun k hk z => by
  rw [z] at hk
  exact absurd hk (by decide))
theorem barV_0 {v : Nat} (hb : barV h c v = 0) : ofY h v (yr (h 72 2)) = true ∧ ¬ (h 97 v = 4 ∧ h 102 v ≠ -1) := by
  unfold barV at hb
  by_cases c1 : uN h (h 109 c) (h 98 v) = false ∨ ofY h v (yr (h 72 2)) = false
  · rw [if_pos c1] at hb
    cases hb
  rw [if_neg c1] at hb
  by_cases c2 : h 101 v ≠ -1 ∨ (h 97 v = 4 ∧ h 102 v ≠ -1)
  · rw [if_pos c2] at hb
    cases hb
  refine ⟨?_, fun z => c2 (Or.inr z)⟩
  by_cases z : ofY h v (yr (h 72 2)) = true
  · exact z
  · exact absurd (Or.inr (nf z)) c1
/-- what the reference needs, behind a call of the class that wrote over made objects -/
theorem Inv.irF (H : Inv S) {X : Nat → Prop} (hF : Fx X S T) (hX : Xt X S) (hc : ∀ a, (31 ≤ a ∧ a ≤ 34) ∨ (72 ≤ a ∧ a < 151) → T.2 a = S.2 a) : IR T := by
  have e72 := hc 72 (by first | decide | omega)
  have hm : HM S.2 T.2 := by
    unfold HM
    rw [e72]
    omega
  refine ⟨H.gk.1.fr (fun a q => hc a (by first | decide | omega)) (fun k _ => by rw [e72]) hm, H.gv.1.fr (fun a q => hc a (by first | decide | omega)) (fun k _ => by rw [e72]) hm, H.gp.1.fr (by rw [e72]) (by rw [e72]) (fun a q => hc a (by first | decide | omega)), H.gl.fx hF hX (fun a q => hc a (by first | decide | omega)) (by rw [e72]) (fun t x _ q => q.cells (fun a q1 q2 => hc a (by first | decide | omega))), fun v hv => ?_⟩
  rw [e72] at hv
  obtain ⟨-, -, -, -, -, -, -, -, -, -, -, -, -, -, a15, -⟩ := H.gv.2.2.2.1 v hv
  exact ⟨_, a15.fx hF hX (fun x q => q.cells (fun a q1 q2 => hc a (by first | decide | omega)))⟩
/-- of a contract more is paid -/
theorem x_conP {m y : Nat} {ct s : Int} (h36 : T.2 36 7 = m) (hm : m ≤ 20) (hct : -1 ≤ ct ∧ ct < m) (hy : y < 10) : ∃ U, ev (WK L xs) (d + 2) 177 [vr 36, vi ct, vi (y : Int), vi s] T = some (0, U) ∧ U.1 = T.1 ∧ (∀ a, a ≠ 42 → U.2 a = T.2 a) ∧ ∀ j : Nat, U.2 42 j = if ct ≠ -1 ∧ (j : Int) = ct * 10 + y then w64 (T.2 42 j + s) else T.2 42 j := by
  have h172 : ev (WK L xs) (d + 1) 172 [vr 36, vi ct] T = some (bi (0 ≤ ct ∧ ct < (m : Int)), T) := by
    rw [q_172, h36, rng]
  by_cases c1 : ct = -1
  · refine ⟨T, ?_, rfl, fun _ _ => rfl, fun j => ?_⟩
    · rw [q_177, h172, bR]
      simp only [bi_0]
      rw [if_pos (by first | decide | omega)]
    · rw [if_neg (fun z => z.1 c1)]
  · obtain ⟨k, hk⟩ := Int.eq_ofNat_of_zero_le (show 0 ≤ ct by omega)
    subst hk
    have e : w32 (w32 ((k : Int) * 10) + (y : Int)) = ((k * 10 + y : Nat) : Int) := by
      rw [w32e (x := (k : Int) * 10) (by first | decide | omega) (by first | decide | omega), w32e (by first | decide | omega) (by first | decide | omega)]
      omega
    have q : (0 : Int) ≤ ((k * 10 + y : Nat) : Int) ∧ ((k * 10 + y : Nat) : Int) < 200 := by omega
    refine ⟨wr T 42 (k * 10 + y) (w64 (T.2 42 (k * 10 + y) + s)), ?_, rfl, fun a ha => wr_c ha, fun j => ?_⟩
    · rw [q_177, h172, bR]
      simp only [bi_0]
      rw [if_neg (fun z => z (by first | decide | omega)), x_isYear, bR]
      simp only [bi_0]
      rw [if_neg (fun z => z (by first | decide | omega)), e, if_pos q, if_pos q, Int.toNat_natCast]
    · rw [wr_f]
      by_cases z : j = k * 10 + y
      · rw [if_pos z, if_pos ⟨c1, by omega⟩, z]
      · rw [if_neg z, if_neg (fun w => z (by have := w.2; omega))]
/-- the claim is marked as paid -/
theorem x_markP {o n v : Nat} (ho : isO T o 12 15) (h80 : ∀ dd, ev (WK L xs) (dd + 1) 80 [vr 43, vi (c : Int)] T = some ((o : Int), T)) (hn : T.2 43 3 = n) (hn3 : n < 300) (day : Int) : ∃ U, ev (WK L xs) (d + 2) 84 [vr 43, vi (c : Int), vi (v : Int), vi day] T = some (0, U) ∧ U.1 = T.1 ∧ (∀ a, a ≠ o → a ≠ 43 → a ≠ 45 → U.2 a = T.2 a) ∧ (∀ k, U.2 o k = if k = 7 then day else if k = 8 ∨ k = 9 then (v : Int) else T.2 o k) ∧ (∀ j, j ≠ 3 → j ≠ 4 → U.2 43 j = T.2 43 j) ∧ U.2 43 3 = (n : Int) + 1 ∧ U.2 43 4 = w64 (T.2 43 4 + T.2 o 3) ∧ ∀ j, U.2 45 j = if j = n then (c : Int) else T.2 45 j := by
  have h5 := ho.1
  have n43 : o ≠ 43 := by omega
  have n45 : o ≠ 45 := by omega
  have m43 : 43 ≠ o := by omega
  have m45 : 45 ≠ o := by omega
  have g0 : ∀ (X : AH) (k : Nat) (r : Rs), X.1 = T.1 → gd (Nat.beq (shp (WK L xs) X o).1 12 && wok (WK L xs) o k) r = r := fun X k r e => k12w (S := X) (ho.eq e) r
  have g1 : ∀ (X : AH) (r : Rs), X.1 = T.1 → gd (Nat.beq (shp (WK L xs) X o).1 12) r = r := fun X r e => k12 (S := X) (ho.eq e) r
  have hk : ∀ k, k ≠ 7 → k ≠ 8 → k ≠ 9 → (wr (wr (wr T o 7 day) o 8 (v : Int)) o 9 (v : Int)).2 o k = T.2 o k := fun k q1 q2 q3 => by rw [wr_f, if_neg q3, wr_f, if_neg q2, wr_f, if_neg q1]
  have h43 : (wr (wr (wr T o 7 day) o 8 (v : Int)) o 9 (v : Int)).2 43 = T.2 43 := by rw [wr_c m43, wr_c m43, wr_c m43]
  have h45 : (wr (wr (wr T o 7 day) o 8 (v : Int)) o 9 (v : Int)).2 45 = T.2 45 := by rw [wr_c m45, wr_c m45, wr_c m45]
  have go := q_84 L xs (d + 1) T (c : Int) (v : Int) day
  rw [h80, bR, Int.toNat_natCast, if_neg (by first | decide | omega), g14 ho, hn, if_pos (by first | decide | omega), g0 T 7 _ rfl, g0 (wr T o 7 day) 8 _ rfl, g0 (wr (wr T o 7 day) o 8 (v : Int)) 9 _ rfl, h43, hn, if_pos (by first | decide | omega), Int.toNat_natCast, g1 (wr (wr (wr (wr (wr T o 7 day) o 8 (v : Int)) o 9 (v : Int)) 45 n (c : Int)) 43 3 (w32 ((n : Int) + 1))) _ rfl, rdvD h5, wr_c n43, wr_c n45, hk 3 (by decide) (by decide) (by decide), w32e (by first | decide | omega) (by first | decide | omega)] at go
  refine ⟨_, go, rfl, fun a q1 q2 q3 => ?_, fun k => ?_, fun j q1 q2 => ?_, ?_, ?_, fun j => ?_⟩
  · rw [wr_c q2, wr_c q2, wr_c q3, wr_c q1, wr_c q1, wr_c q1]
  · rw [wr_c n43, wr_c n43, wr_c n45, wr_f, wr_f, wr_f]
    by_cases e7 : k = 7
    · rw [if_pos e7, if_neg (by first | decide | omega), if_neg (by first | decide | omega), if_pos e7]
    · rw [if_neg e7, if_neg e7]
      by_cases e9 : k = 9
      · rw [if_pos e9, if_pos (Or.inr e9)]
      · rw [if_neg e9]
        by_cases e8 : k = 8
        · rw [if_pos e8, if_pos (Or.inl e8)]
        · rw [if_neg e8, if_neg (show ¬ (k = 8 ∨ k = 9) by omega)]
  · rw [wr_f, if_neg q2, wr_f, if_neg q1, wr_c (by decide), h43]
  · rw [wr_f, if_neg (by decide), wr_f, if_pos rfl]
  · rw [wr_f, if_pos rfl]
  · rw [wr_c (by decide), wr_c (by decide), wr_f]
    by_cases e : j = n
    · rw [if_pos e, if_pos e]
    · rw [if_neg e, if_neg e, h45]
/-- the class pays the claim c by v -/
theorem x_payD (H : Inv S) {v y n : Nat} (hc : (c : Int) < S.2 72 52) (hv : (v : Int) < S.2 72 40) (hy : yr (S.2 72 2) = y) (hn : S.2 72 53 = n) (hn3 : n < 300) (hd : S.2 115 c = -1) (hlt : ltV S.2 c = (v : Int)) (hch : ¬ S.2 72 3 < S.2 111 c) : ∃ Z, ev (WK L xs) 200 32 [vr 15, vi (c : Int)] S = some ((v : Int), Z) ∧ Z.1 = S.1 ∧ (∀ a, 151 ≤ a → a ≠ spA S v → a ≠ clA S c → Z.2 a = S.2 a) ∧ (∀ a, a < 151 → a ≠ 15 → a ≠ 22 → a ≠ 26 → a ≠ 35 → ¬ (42 ≤ a ∧ a ≤ 45 ∧ a ≠ 44) → Z.2 a = S.2 a) ∧ (∀ j, j ≠ 1 → Z.2 15 j = S.2 15 j) ∧ (∀ j : Nat, Z.2 42 j = if S.2 112 c ≠ -1 ∧ (j : Int) = S.2 112 c * 10 + y then w64 (S.2 42 j + S.2 111 c) else S.2 42 j) ∧
    (∀ j, j ≠ 3 → j ≠ 4 → Z.2 43 j = S.2 43 j) ∧ Z.2 43 3 = (n : Int) + 1 ∧ Z.2 43 4 = w64 (S.2 43 4 + S.2 111 c) ∧ (∀ j, Z.2 45 j = if j = n then (c : Int) else S.2 45 j) ∧ Z.2 15 1 = w64 (S.2 15 1 - S.2 111 c) ∧ (∀ j, Z.2 (spA S v) j = if j = y then w64 (S.2 (spA S v) j + S.2 111 c) else S.2 (spA S v) j) ∧ (∀ k, Z.2 (clA S c) k = if k = 7 then S.2 72 2 else if k = 8 ∨ k = 9 then (v : Int) else S.2 (clA S c) k) := by
  have gk := H.gk
  have gv := H.gv
  have ht := H.gt.1
  have hyN := H.yN
  rw [hy] at hyN
  have ho := gk.ob hc
  have h5 := ho.1
  have hau := gv.ob hv
  have hcn := gv.1.2.2.2.1
  obtain ⟨s1, s2, -⟩ := gv.2.2.2.1 v hv
  obtain ⟨b1, b2, b3, b4, b5, b6, b7, b8, b9, -⟩ := gk.2.2.2.2.1 c hc
  obtain ⟨-, -, -, -, r5, -⟩ := gk.1.2.2.2.1 c hc
  obtain ⟨U, u1, u2⟩ := x_who (L := L) (xs := xs) (d := 127) H hc
  rw [hlt] at u1
  have HU := u2.inv H
  have hvU : (v : Int) < U.2 72 40 := by rw [u2.hi 72 (by decide)]; exact hv
  have eAu : auA U v = auA S v := by unfold auA; rw [u2.hi 37 (by decide)]
  have xau := x_au (L := L) (xs := xs) (d := 198) HU.gv hvU
  rw [eAu] at xau
  have oU : isO U (clA S c) 12 15 := ho.eq u2.1
  have aU : isO U (auA S v) 11 14 := hau.eq u2.1
  have pU : isO U (spA S v) 3 10 := s2.eq u2.1
  have n1 : spA S v ≠ clA S c := (au_cl gv gk hv hc).2
  have n2 : auA S v ≠ spA S v := au_sp gv hv hv
  have n3 : auA S v ≠ clA S c := (au_cl gv gk hv hc).1
  have p150 := s2.1
  have a150 := s1.1
  have eO : U.2 (clA S c) = S.2 (clA S c) := u2.hi _ (by first | decide | omega)
  have U15 : U.2 15 = S.2 15 := u2.2.1 15 (by decide) (by decide) (by decide)
  -- the chest
  obtain ⟨X1, hX1⟩ : ∃ X1, X1 = wr U 15 1 (w64 (S.2 15 1 - S.2 111 c)) := ⟨_, rfl⟩
  have X1a : X1.1 = U.1 := by rw [hX1]; rfl
  have X1c : ∀ a, a ≠ 15 → X1.2 a = U.2 a := fun a q => by rw [hX1, wr_c q]
  have X1f : ∀ j, j ≠ 1 → X1.2 15 j = S.2 15 j := fun j q => by rw [hX1, wr_f, if_neg q, U15]
  have X1g : X1.2 15 1 = w64 (S.2 15 1 - S.2 111 c) := by rw [hX1, wr_f, if_pos rfl]
  have oX1 : isO X1 (clA S c) 12 15 := oU.eq X1a
  have aX1 : isO X1 (auA S v) 11 14 := aU.eq X1a
  have X1o : X1.2 (clA S c) = S.2 (clA S c) := by rw [X1c _ (by first | decide | omega), eO]
  -- what it takes up
  have sp := x_spend (L := L) (xs := xs) (d := 197) (S := X1) (o := auA S v) (p := spA S v) aX1 (pU.eq X1a) (by rw [X1c _ (by first | decide | omega), u2.hi _ (by first | decide | omega)]; rfl) (y := y) (by first | decide | omega) (S.2 111 c)
  obtain ⟨X2, hX2⟩ : ∃ X2, X2 = wr X1 (spA S v) y (w64 (X1.2 (spA S v) y + S.2 111 c)) := ⟨_, rfl⟩
  rw [← hX2] at sp
  have X2a : X2.1 = U.1 := by rw [hX2]; exact X1a
  have X2c : ∀ a, a ≠ spA S v → X2.2 a = X1.2 a := fun a q => by rw [hX2, wr_c q]
  have oX2 : isO X2 (clA S c) 12 15 := oU.eq X2a
  have X2o : X2.2 (clA S c) = S.2 (clA S c) := by rw [X2c _ n1.symm, X1o]
  have X2n : X2.2 15 0 = S.2 72 2 := by rw [X2c 15 (by first | decide | omega), X1f 0 (by decide), ht]
  -- the contract
  obtain ⟨m, hm⟩ := Int.eq_ofNat_of_zero_le hcn.1
  obtain ⟨X3, c1, c2, c3, c4⟩ := x_conP (L := L) (xs := xs) (d := 197) (T := X2) (m := m) (y := y) (ct := S.2 112 c) (s := S.2 111 c) (by rw [X2c 36 (by first | decide | omega), X1c 36 (by decide), u2.hi 36 (by decide), gv.2.2.1, hm]) (by first | decide | omega) (by first | decide | omega) (by first | decide | omega)
  have X3a : X3.1 = U.1 := c2.trans X2a
  have oX3 : isO X3 (clA S c) 12 15 := oU.eq X3a
  have X3c : ∀ a, a ≠ 42 → a ≠ spA S v → a ≠ 15 → X3.2 a = U.2 a := fun a q1 q2 q3 => by rw [c3 a q1, X2c a q2, X1c a q3]
  have X3n : X3.2 15 0 = S.2 72 2 := by rw [c3 15 (by decide), X2n]
  have h80 : ∀ dd, ev (WK L xs) (dd + 1) 80 [vr 43, vi (c : Int)] X3 = some ((clA S c : Int), X3) := fun dd => by
    have e43 : X3.2 43 = S.2 43 := by rw [X3c 43 (by decide) (by first | decide | omega) (by decide), u2.hi 43 (by decide)]
    have e44 : X3.2 44 = S.2 44 := by rw [X3c 44 (by decide) (by first | decide | omega) (by decide), u2.hi 44 (by decide)]
    have := gk.n
    rw [q_80, e43, gk.2.1, if_neg (by first | decide | omega), if_pos hc, if_pos (by first | decide | omega), Int.toNat_natCast, e44]
    rfl
  obtain ⟨Z, z1, z2, z3, z4, z5, z6, z7, z8⟩ := x_markP (L := L) (xs := xs) (d := 197) (T := X3) (c := c) (o := clA S c) (n := n) (v := v) oX3 h80 (by rw [X3c 43 (by decide) (by first | decide | omega) (by decide), u2.hi 43 (by decide), gk.2.2.1, hn]) hn3 (S.2 72 2)
  have X3o : X3.2 (clA S c) = S.2 (clA S c) := by rw [c3 _ (by first | decide | omega), X2o]
  refine ⟨Z, ?_, z2.trans (X3a.trans u2.1), fun a q1 q2 q3 => ?_, fun a q1 q2 q3 q4 q5 q6 => ?_, fun j q => ?_, fun j => ?_, fun j q1 q2 => ?_, z6, ?_, fun j => ?_, ?_, fun j => ?_, fun k => ?_⟩
  · have hch2 : ¬ S.2 15 1 < S.2 111 c := by rw [H.gc.1]; exact hch
    rw [q_32, x_cl gk hc, bR, Int.toNat_natCast, if_neg (by first | decide | omega), g14 ho, k12a ho, x_isPaid ho, bR, b9]
    simp only [bi_0]
    rw [if_pos (fun z => z hd), show ev (WK L xs) 199 28 [vr 15, vr (clA S c)] S = _ from u1, bR, show ev (WK L xs) 199 168 [vr 36, vi (v : Int)] U = _ from xau, bR, Int.toNat_natCast, if_neg (by first | decide | omega), g14a aU, k12 oU, rdvD h5, eO, b5, U15]
    simp only [lc_lt]
    rw [if_neg hch2, k12 oU, ht, ← hX1, x_yearOf, hy, bR, k12 oX1, k11a aX1, rdvD h5, X1o, b5, show ev (WK L xs) 199 72 [vr (auA S v), vi (y : Int), vl (S.2 111 c)] X1 = some (0, X2) from sp, bR, k12 oX2, X2n, x_yearOf, hy, bR, k12 oX2, rdvD h5, rdvD h5, X2o, b5, b6, show ev (WK L xs) 199 177 [vr 36, vi (S.2 112 c), vi (y : Int), vi (S.2 111 c)] X2 = some (0, X3) from c1, bR, X3n, show ev (WK L xs) 199 84 [vr 43, vi (c : Int), vi (v : Int), vi (S.2 72 2)] X3 = some (0, Z) from z1, bR]
  · rw [z3 a q3 (by first | decide | omega) (by first | decide | omega), X3c a (by first | decide | omega) q2 (by first | decide | omega), u2.hi a (by first | decide | omega)]
  · rw [z3 a (by first | decide | omega) (by first | decide | omega) (by first | decide | omega), X3c a (by first | decide | omega) (by first | decide | omega) q2, u2.2.1 a q3 q4 q5]
  · rw [z3 15 (by first | decide | omega) (by decide) (by decide), c3 15 (by decide), X2c 15 (by first | decide | omega), X1f j q]
  · rw [z3 42 (by first | decide | omega) (by decide) (by decide), c4 j, X2c 42 (by first | decide | omega), X1c 42 (by decide), u2.hi 42 (by decide)]
  · rw [z5 j q1 q2, X3c 43 (by decide) (by first | decide | omega) (by decide), u2.hi 43 (by decide)]
  · rw [z7, X3o, b5, X3c 43 (by decide) (by first | decide | omega) (by decide), u2.hi 43 (by decide)]
  · rw [z8 j, X3c 45 (by decide) (by first | decide | omega) (by decide), u2.hi 45 (by decide)]
  · rw [z3 15 (by first | decide | omega) (by decide) (by decide), c3 15 (by decide), X2c 15 (by first | decide | omega), X1g]
  · rw [z3 _ n1 (by first | decide | omega) (by first | decide | omega), c3 _ (by first | decide | omega), hX2, wr_f, X1c _ (by first | decide | omega), u2.hi _ (by first | decide | omega)]
    by_cases e : j = y
    · rw [if_pos e, if_pos e, e]
    · rw [if_neg e, if_neg e]
  · rw [z4 k, X3o]
theorem o_pay (H : Inv S) (p : Int) : Ok L xs 32 271 [vi p] S := by
  have gk := H.gk
  have gv := H.gv
  have hn := gk.n
  by_cases hp : 0 ≤ p ∧ p < S.2 72 52
  rotate_left
  · refine Ok.same (r := -1) H ?_ ?_
    · rw [q_32, x_cl0 gk hp, bR, if_pos (by decide)]
    · rw [q_271, m_isClaim gk.1, bR]
      simp only [bi_0]
      rw [if_pos hp]
  obtain ⟨c, hc⟩ := Int.eq_ofNat_of_zero_le hp.1
  subst hc
  have ho := gk.ob hp.2
  have h5 := ho.1
  obtain ⟨a1, a2, a3, a4, a5, a6, a7, a8, a9, -⟩ := gk.2.2.2.2.1 c hp.2
  have qc : (0 : Int) ≤ (c : Int) ∧ (c : Int) < 300 := by omega
  by_cases hd : S.2 115 c = -1
  rotate_left
  · refine Ok.same (r := -1) H ?_ ?_
    · rw [q_32, x_cl gk hp.2, bR, Int.toNat_natCast, if_neg (by first | decide | omega), g14 ho, k12a ho, x_isPaid ho, bR, a9]
      simp only [bi_0]
      rw [if_neg (fun z => z hd)]
    · rw [q_271, m_isClaim gk.1, bR]
      simp only [bi_0]
      rw [if_neg (fun z => z hp), if_pos qc, Int.toNat_natCast, if_neg hd]
  -- the class's way to one who lets
  have xgo : ∀ U : AH, ev (WK L xs) 199 28 [vr 15, vr (clA S c)] S = some (ltV S.2 c, U) → ev (WK L xs) 200 32 [vr 15, vi (c : Int)] S = bindR (ev (WK L xs) 199 168 [vr 36, vi (ltV S.2 c)] U) (fun r7 S8 => (if r7.toNat = 0 then (some (ltV S.2 c, S8)) else (gd (!(Nat.beq r7.toNat 14)) (gd (Nat.beq (shp (WK L xs) S8 (clA S c)).1 12) (if (lcmp (S8.2 15 1) (rdv (WK L xs) S8 (clA S c) 3)) < 0 then (some ((-9 : Int), S8)) else (gd (Nat.beq (shp (WK L xs) S8 (clA S c)).1 12) (bindR (ev (WK L xs) 199 17 [vi (S8.2 15 0)] (wr S8 15 1 (w64 ((S8.2 15 1) - (rdv (WK L xs) S8 (clA S c) 3))))) (fun r9 S10 => (gd (Nat.beq (shp (WK L xs) S10 (clA S c)).1 12) (gd (Nat.beq (shp (WK L xs) S10 r7.toNat).1 11 && Nat.ble 0 8) (bindR (ev (WK L xs) 199 72 [vr r7.toNat, vi r9, vl (rdv (WK L xs) S10 (clA S c) 3)] S10) (fun r11 S12 => (gd (Nat.beq (shp (WK L xs) S12 (clA S c)).1 12) (bindR (ev (WK L xs) 199 17 [vi (S12.2 15 0)] S12) (fun r13 S14 => (gd (Nat.beq (shp (WK L xs) S14 (clA S c)).1 12) (bindR (ev (WK L xs) 199 177 [vr 36, vi (rdv (WK L xs) S12 (clA S c) 4), vi r13, vi (rdv (WK L xs) S14 (clA S c) 3)] S14) (fun r15 S16 => (bindR (ev (WK L xs) 199 84 [vr 43, vi (c : Int), vi (ltV S.2 c), vi (S16.2 15 0)] S16) (fun r17 S18 => (some (ltV S.2 c, S18)))))))))))))))))))))) := by
    intro U u1
    rw [q_32, x_cl gk hp.2, bR, Int.toNat_natCast, if_neg (by first | decide | omega), g14 ho, k12a ho, x_isPaid ho, bR, a9]
    simp only [bi_0]
    rw [if_pos (fun z => z hd), u1, bR]
  -- the reference's
  have mgo : ∀ (B V : AH) (r : Int), (∀ a, 72 ≤ a → a < 151 → B.2 a = S.2 a) → RK B.2 → ev (WK L xs) 199 261 [vr 72, vi (c : Int)] B = some (r, V) → Wf B V → ev (WK L xs) 200 271 [vr 72, vi (c : Int)] B = (if r < 0 then some (r, V) else if S.2 72 3 < S.2 111 c then some (-9, V) else some (r, wr (wr (wr (wr (wr V 72 3 (w64 (S.2 72 3 - S.2 111 c))) 115 c (S.2 72 2)) 116 c r) 117 c (S.2 72 53)) 72 53 (w32 (S.2 72 53 + 1)))) := by
    intro B V r hB rk hv1 hW
    have V72 : ∀ k, k ≠ 75 → k ≠ 76 → V.2 72 k = S.2 72 k := fun k q1 q2 => by rw [hW.2.2 k q1 q2, hB 72 (by decide) (by decide)]
    have V111 : V.2 111 = S.2 111 := by rw [hW.2.1 111 (by decide) (by decide) (by decide) (by decide), hB 111 (by decide) (by decide)]
    rw [q_271, m_isClaim rk, bR, hB 72 (by decide) (by decide)]
    simp only [bi_0, lc_lt]
    rw [if_neg (fun z => z hp), if_pos qc, Int.toNat_natCast, hB 115 (by decide) (by decide), if_pos hd, hv1, bR, V72 3 (by decide) (by decide), V111, V72 2 (by decide) (by decide), V72 53 (by decide) (by decide)]
    simp only [if_pos qc]
  obtain ⟨U, u1, u2⟩ := x_who (L := L) (xs := xs) (d := 127) H hp.2
  have u1' : ev (WK L xs) 199 28 [vr 15, vr (clA S c)] S = some (ltV S.2 c, U) := u1
  have HU := u2.inv H
  have U15 : U.2 15 = S.2 15 := u2.2.1 15 (by decide) (by decide) (by decide)
  obtain ⟨V, v1, v2⟩ := m_lets (L := L) (xs := xs) (d := 190) HU.ir (c := c) (by rw [u2.hi 72 (by decide)]; exact hp.2)
  rw [u2.wh.lt] at v1
  have mU := mgo U V (ltV S.2 c) (fun a q1 _ => u2.hi a (by first | decide | omega)) HU.gk.1 v1 v2
  rcases ltV_cs (h := S.2) (c := c) gv.1.1.1 with hlt | ⟨v, hlt, hv, kv, bv⟩
  · -- none lets
    refine ⟨ltV S.2 c, U, V, ?_, ?_, v2.inv HU, Gw.of (v2.1.trans u2.1)⟩
    · rw [xgo U u1', x_au0 HU.gv (by first | decide | omega), bR, if_pos (by decide)]
    · rw [mU, if_pos (by first | decide | omega)]
  by_cases hch : S.2 72 3 < S.2 111 c
  · -- the chest has not so much
    have hvU : (v : Int) < U.2 72 40 := by rw [u2.hi 72 (by decide)]; exact hv
    have eAu : auA U v = auA S v := by unfold auA; rw [u2.hi 37 (by decide)]
    have xau := x_au (L := L) (xs := xs) (d := 198) HU.gv hvU
    rw [eAu] at xau
    have aU : isO U (auA S v) 11 14 := (gv.ob hv).eq u2.1
    have a150 := aU.1
    have oU : isO U (clA S c) 12 15 := ho.eq u2.1
    refine ⟨-9, U, V, ?_, ?_, v2.inv HU, Gw.of (v2.1.trans u2.1)⟩
    · rw [xgo U u1', hlt, show ev (WK L xs) 199 168 [vr 36, vi (v : Int)] U = _ from xau, bR, Int.toNat_natCast, if_neg (by first | decide | omega), g14a aU, k12 oU, rdvD h5, u2.hi (clA S c) (by first | decide | omega), a5, U15, H.gc.1]
      simp only [lc_lt]
      rw [if_pos hch]
    · rw [mU, hlt, if_neg (by first | decide | omega), if_pos hch]
  -- it is paid
  have hyN := H.yN
  obtain ⟨y, hy⟩ := Int.eq_ofNat_of_zero_le hyN.1
  obtain ⟨n, hnn⟩ := Int.eq_ofNat_of_zero_le gk.1.2.1.1
  have hpl := paid_lt gk hp.2 hd
  have hn3 : n < 300 := by omega
  obtain ⟨ofv, ov⟩ := barV_0 bv
  have y4 : S.2 97 v = 4 → (y : Int) = S.2 100 v := fun k4 => by
    unfold ofY at ofv
    rw [if_neg kv, if_neg (by rw [k4]; decide)] at ofv
    rw [← hy]
    exact of_decide_eq_true ofv
  obtain ⟨Z, z0, z1, z2, z3, z4, z5, z6, z7, z8, z9, z10, z11, z12⟩ := x_payD (L := L) (xs := xs) H hp.2 hv hy hnn hn3 hd hlt hch
  have Zr : ∀ a, 72 ≤ a → a < 151 → Z.2 a = S.2 a := fun a q1 q2 => z3 a q2 (by first | decide | omega) (by first | decide | omega) (by first | decide | omega) (by first | decide | omega) (by first | decide | omega)
  have n1 : spA S v ≠ clA S c := (au_cl gv gk hv hp.2).2
  have p150 := (gv.2.2.2.1 v hv).2.1.1
  have irZ : IR Z := H.irF (X := fun a => a = spA S v ∨ a = clA S c) ⟨by rw [z1]; exact Nat.le_refl _, fun a q1 q2 => ⟨by rw [z1], fun q => z2 a q1 (fun z => q (Or.inl z)) (fun z => q (Or.inr z))⟩⟩ (by
    rintro a (rfl | rfl)
    · rw [(gv.2.2.2.1 v hv).2.1.2.2]
      omega
    · rw [ho.2.2]
      omega) (fun a q => z3 a (by first | decide | omega) (by first | decide | omega) (by first | decide | omega) (by first | decide | omega) (by first | decide | omega) (by first | decide | omega))
  have whZ : Wh S.2 Z.2 := ⟨fun a q1 q2 _ _ _ => Zr a (by first | decide | omega) q2, fun k _ _ => by rw [Zr 72 (by decide) (by decide)]⟩
  obtain ⟨V, v1, v2⟩ := m_lets (L := L) (xs := xs) (d := 190) irZ (c := c) (by rw [Zr 72 (by decide) (by decide)]; exact hp.2)
  rw [whZ.lt, hlt] at v1
  have mZ := mgo Z V (v : Int) Zr irZ.rk v1 v2
  rw [if_neg (by first | decide | omega), if_neg hch] at mZ
  generalize hF : wr (wr (wr (wr (wr V 72 3 (w64 (S.2 72 3 - S.2 111 c))) 115 c (S.2 72 2)) 116 c (v : Int)) 117 c (S.2 72 53)) 72 53 (w32 (S.2 72 53 + 1)) = F at mZ
  have F1 : F.1 = S.1 := by rw [← hF]; exact v2.1.trans z1
  have Fc : ∀ a, a ≠ 72 → a ≠ 96 → (a < 115 ∨ (117 < a ∧ a < 128) ∨ 129 < a) → F.2 a = Z.2 a := fun a q1 q2 q3 => by rw [← hF, wr_c q1, wr_c (by first | decide | omega), wr_c (by first | decide | omega), wr_c (by first | decide | omega), wr_c q1, v2.2.1 a q1 q2 (by first | decide | omega) (by first | decide | omega)]
  have F72 : ∀ j, j ≠ 3 → j ≠ 53 → j ≠ 75 → j ≠ 76 → F.2 72 j = S.2 72 j := fun j q1 q2 q3 q4 => by rw [← hF, wr_f, if_neg q2, wr_c (by decide), wr_c (by decide), wr_c (by decide), wr_f, if_neg q1, v2.2.2 j q3 q4, Zr 72 (by decide) (by decide)]
  obtain ⟨Q, hQ⟩ : ∃ Q : AH, Q = (S.1, fun a k => if a = 22 ∨ a = 26 ∨ a = 35 ∨ a = 96 ∨ a = 128 ∨ a = 129 ∨ (a = 72 ∧ (k = 75 ∨ k = 76)) then F.2 a k else S.2 a k) := ⟨_, rfl⟩
  have Q1 : Q.1 = S.1 := by rw [hQ]
  have Q2 : ∀ a k, Q.2 a k = if a = 22 ∨ a = 26 ∨ a = 35 ∨ a = 96 ∨ a = 128 ∨ a = 129 ∨ (a = 72 ∧ (k = 75 ∨ k = 76)) then F.2 a k else S.2 a k := fun a k => by rw [hQ]
  have Qc : ∀ a, a ≠ 22 → a ≠ 26 → a ≠ 35 → a ≠ 72 → a ≠ 96 → a ≠ 128 → a ≠ 129 → Q.2 a = S.2 a := fun a q1 q2 q3 q4 q5 q6 q7 => by
    funext k
    rw [Q2, if_neg (by first | decide | omega)]
  have Q72 : ∀ k, k ≠ 75 → k ≠ 76 → Q.2 72 k = S.2 72 k := fun k q1 q2 => by rw [Q2, if_neg (by first | decide | omega)]
  have HQ : Inv Q := H.scr ⟨by rw [Q1]; exact Nat.le_refl _, fun a q1 _ => ⟨by rw [Q1], Qc a (by first | decide | omega) (by first | decide | omega) (by first | decide | omega) (by first | decide | omega) (by first | decide | omega) (by first | decide | omega) (by first | decide | omega)⟩⟩ (fun a k q1 q2 => by
    unfold scr at q2
    rw [Q2, if_neg (by first | decide | omega)])
  have eSp : spA Q v = spA S v := by
    unfold spA auA
    rw [Qc 37 (by decide) (by decide) (by decide) (by decide) (by decide) (by decide) (by decide)]
    have := (gv.ob hv).1
    unfold auA at this
    rw [Qc _ (by first | decide | omega) (by first | decide | omega) (by first | decide | omega) (by first | decide | omega) (by first | decide | omega) (by first | decide | omega) (by first | decide | omega)]
  have eCl : clA Q c = clA S c := by
    unfold clA
    rw [Qc 44 (by decide) (by decide) (by decide) (by decide) (by decide) (by decide) (by decide)]
  have QC : ∀ a, a < 15 ∨ (35 < a ∧ a < 72) ∨ (72 < a ∧ a < 96) ∨ (96 < a ∧ a < 128) ∨ 129 < a → Q.2 a = S.2 a := fun a q => Qc a (by first | decide | omega) (by first | decide | omega) (by first | decide | omega) (by first | decide | omega) (by first | decide | omega) (by first | decide | omega) (by first | decide | omega)
  have Q15 : Q.2 15 = S.2 15 := Qc 15 (by decide) (by decide) (by decide) (by decide) (by decide) (by decide) (by decide)
  refine ⟨v, Z, F, z0, mZ, ?_, Gw.of F1⟩
  refine HQ.pd (c := c) (v := v) (y := y) (n := n) ?_ ?_ ?_ ?_ ?_ ?_ ?_ ?_ (by rw [F1, Q1]) (fun a q1 q2 q3 => ?_) (fun a q1 q2 q3 q4 q5 => ?_) (fun j q => ?_) (fun j => ?_) (fun j q1 q2 => ?_) ?_ ?_ (fun j => ?_) (fun j q1 q2 => ?_) ?_ ?_ ?_ (fun j => ?_) (fun j => ?_) (fun j => ?_) (fun j => ?_) (fun k => ?_)
  · rw [Q72 52 (by decide) (by decide)]
    exact hp.2
  · rw [Q72 40 (by decide) (by decide)]
    exact hv
  · rw [QC 97 (by first | decide | omega)]
    exact kv
  · rw [QC 97 (by first | decide | omega), QC 102 (by first | decide | omega)]
    exact ov
  · rw [Q72 2 (by decide) (by decide)]
    exact hy
  · rw [QC 97 (by first | decide | omega), QC 100 (by first | decide | omega)]
    exact y4
  · rw [QC 115 (by first | decide | omega)]
    exact hd
  · rw [Q72 53 (by decide) (by decide)]
    exact hnn
  · rw [eSp] at q2
    rw [eCl] at q3
    rw [Fc a (by first | decide | omega) (by first | decide | omega) (by first | decide | omega), z2 a q1 q2 q3, QC a (by first | decide | omega)]
  · by_cases e : a = 22 ∨ a = 26 ∨ a = 35 ∨ a = 96 ∨ a = 128 ∨ a = 129
    · funext k
      rw [Q2, if_pos (by first | decide | omega)]
    · rw [Fc a (by first | decide | omega) (by first | decide | omega) (by first | decide | omega), z3 a q1 q2 (by first | decide | omega) (by first | decide | omega) (by first | decide | omega) q3, Qc a (by first | decide | omega) (by first | decide | omega) (by first | decide | omega) q4 (by first | decide | omega) (by first | decide | omega) (by first | decide | omega)]
  · rw [Fc 15 (by decide) (by decide) (by decide), z4 j q, Q15]
  · rw [Fc 42 (by decide) (by decide) (by decide), z5 j, QC 112 (by first | decide | omega), QC 111 (by first | decide | omega), QC 42 (by first | decide | omega)]
  · rw [Fc 43 (by decide) (by decide) (by decide), z6 j q1 q2, QC 43 (by first | decide | omega)]
  · rw [Fc 43 (by decide) (by decide) (by decide), z7]
  · rw [Fc 43 (by decide) (by decide) (by decide), z8, QC 43 (by first | decide | omega), QC 111 (by first | decide | omega)]
  · rw [Fc 45 (by decide) (by decide) (by decide), z9 j, QC 45 (by first | decide | omega)]
  · by_cases e : j = 75 ∨ j = 76
    · rw [Q2, if_pos (by first | decide | omega)]
    · rw [F72 j q1 q2 (by first | decide | omega) (by first | decide | omega), Q72 j (by first | decide | omega) (by first | decide | omega)]
  · rw [← hF, wr_f, if_neg (by decide), wr_c (by decide), wr_c (by decide), wr_c (by decide), wr_f, if_pos rfl, Q72 3 (by decide) (by decide), QC 111 (by first | decide | omega)]
  · rw [Fc 15 (by decide) (by decide) (by decide), z10, Q15, QC 111 (by first | decide | omega)]
  · rw [← hF, wr_f, if_pos rfl, hnn, w32e (by first | decide | omega) (by first | decide | omega)]
  · rw [← hF, wr_c (by decide), wr_c (by decide), wr_c (by decide), wr_f, wr_c (by decide), v2.2.1 115 (by decide) (by decide) (by decide) (by decide), Zr 115 (by decide) (by decide), Q72 2 (by decide) (by decide), QC 115 (by first | decide | omega)]
  · rw [← hF, wr_c (by decide), wr_c (by decide), wr_f, wr_c (by decide), wr_c (by decide), v2.2.1 116 (by decide) (by decide) (by decide) (by decide), Zr 116 (by decide) (by decide), QC 116 (by first | decide | omega)]
  · rw [← hF, wr_c (by decide), wr_f, wr_c (by decide), wr_c (by decide), wr_c (by decide), v2.2.1 117 (by decide) (by decide) (by decide) (by decide), Zr 117 (by decide) (by decide), QC 117 (by first | decide | omega), hnn]
  · rw [eSp, Fc _ (by first | decide | omega) (by first | decide | omega) (by first | decide | omega), z11 j, QC (spA S v) (by first | decide | omega), QC 111 (by first | decide | omega)]
  · rw [eCl, Fc _ (by first | decide | omega) (by first | decide | omega) (by first | decide | omega), z12 k, Q72 2 (by decide) (by decide), QC (clA S c) (by first | decide | omega)]
end
