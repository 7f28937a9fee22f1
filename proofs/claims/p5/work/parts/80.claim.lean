/-! a new claim -/
noncomputable def clF (hn hd k s ct td : Int) : Nat → Int := fun j => match j with
  | 0 => hn
  | 1 => hd
  | 2 => k
  | 3 => s
  | 4 => ct
  | 5 => td
  | 7 => -1
  | 8 => -1
  | 9 => -1
  | 13 => -1
  | _ => 0
section
variable {L : Nat} {xs : Nat → Int} {d : Nat} {S T U S' W : AH}
theorem x_newCl (h : 151 ≤ S.1.1) (hn hd k s ct td : Int) (ht : td = 0 ∨ td = 1) : ev (WK L xs) (d + 1) 77 [vr S.1.1, vi hn, vi hd, vi k, vi s, vi ct, vi td] (nw S 12 15) = some (0, nwc S 12 15 (clF hn hd k s ct td)) := by
  have hs : (nw S 12 15).1.2.2 S.1.1 = (12, 15) := by rw [nw_s, if_pos rfl]
  rw [q_77]
  refine gd_go (gt_0 h hs) ?_
  refine gd_go (gt_w h hs) ?_
  refine gd_go (gt_w h hs) ?_
  refine gd_go (gt_w h hs) ?_
  refine gd_go (gt_w h hs) ?_
  refine gd_go (gt_w h hs) ?_
  refine gd_go (gt_w h hs) ?_
  refine gd_go (gt_w h hs) ?_
  refine gd_go (gt_w h hs) ?_
  refine gd_go (gt_w h hs) ?_
  refine gd_go (gt_w h hs) ?_
  refine gd_go (gt_w h hs) ?_
  refine gd_go (gt_w h hs) ?_
  refine gd_go (gt_w h hs) ?_
  refine gd_go (gt_w h hs) ?_
  refine gd_go (gt_w h hs) ?_
  rw [if_pos ht]
  congr 2
  refine Prod.ext rfl ?_
  funext b j
  simp only [wr_2, nw_2]
  show _ = (if b = S.1.1 then clF hn hd k s ct td else S.2 b) j
  by_cases e : b = S.1.1
  · subst e
    rw [if_pos rfl]
    simp only [true_and, if_true]
    unfold clF
    match j with
    | 0 => rfl
    | 1 => rfl
    | 2 => rfl
    | 3 => rfl
    | 4 => rfl
    | 5 => rfl
    | 6 => rfl
    | 7 => rfl
    | 8 => rfl
    | 9 => rfl
    | 10 => rfl
    | 11 => rfl
    | 12 => rfl
    | 13 => rfl
    | 14 => rfl
    | j + 15 => simp
  · rw [if_neg e]
    simp only [e, false_and, if_false]
/-- what a new claim is, in the reference's state -/
noncomputable def nwK (h : Nat → Nat → Int) (heads hands contracts : Int) (n : Nat) : Prop := (0 ≤ h 108 n ∧ h 108 n < hands) ∧ (0 ≤ h 109 n ∧ h 109 n < heads) ∧ (0 ≤ h 110 n ∧ h 110 n ≤ 9) ∧ (1 ≤ h 111 n ∧ h 111 n ≤ 1000000000) ∧ (-1 ≤ h 112 n ∧ h 112 n < contracts) ∧ (h 113 n = 0 ∨ h 113 n = 1) ∧ h 115 n = -1 ∧ h 116 n = -1
theorem Inv.newK (H : Inv S) {n o : Nat} (hn : S.2 72 52 = n) (hn300 : n < 300) (ho : S.1.1 ≤ o) (hop : isO S' o 12 15) (hlen : S.1.1 ≤ S'.1.1) (hF : ∀ a, 151 ≤ a → a < S.1.1 → S'.1.2.2 a = S.1.2.2 a ∧ S'.2 a = S.2 a)
    (hc : ∀ a, a < 151 → a ≠ 43 → a ≠ 44 → a ≠ 72 → ¬ (108 ≤ a ∧ a ≤ 113) → ¬ (115 ≤ a ∧ a ≤ 116) → S'.2 a = S.2 a) (h43 : ∀ k, k ≠ 1 → S'.2 43 k = S.2 43 k) (e43 : S'.2 43 1 = (n : Int) + 1) (h72 : ∀ k, k ≠ 52 → S'.2 72 k = S.2 72 k) (e72 : S'.2 72 52 = (n : Int) + 1) (h44 : ∀ j, S'.2 44 j = if j = n then (o : Int) else S.2 44 j)
    (hj : ∀ a j, 108 ≤ a → a ≤ 116 → j ≠ n → S'.2 a j = S.2 a j) (hR : nwK S'.2 (S.2 72 4) (S.2 72 5) (S.2 72 70) n) (hO : ∀ j, S'.2 o j = clF (S'.2 108 n) (S'.2 109 n) (S'.2 110 n) (S'.2 111 n) (S'.2 112 n) (S'.2 113 n) j) : Inv S' := by
  obtain ⟨i1, gt, gc, gx, gb, gp, gl, gv, gk, gu, gw, gn⟩ := H
  have hFx : Fx (fun _ => False) S S' := ⟨hlen, fun a q1 q2 => ⟨(hF a q1 q2).1, fun _ => (hF a q1 q2).2⟩⟩
  have hX : Xt (fun _ => False) S := fun a q => q.elim
  have C : ∀ a, a < 43 ∨ (44 < a ∧ a < 72) ∨ (72 < a ∧ a < 108) ∨ a = 114 ∨ (116 < a ∧ a < 151) → S'.2 a = S.2 a := fun a q => hc a (by first | decide | omega) (by first | decide | omega) (by first | decide | omega) (by first | decide | omega) (by first | decide | omega) (by first | decide | omega)
  have c15 := C 15 (by first | decide | omega)
  have rv := gv.1
  have rk := gk.1
  obtain ⟨n1, n2, n3, n4, n5, n6, n7, n8⟩ := hR
  have hcb : ∀ c : Nat, c ≠ n → cby S'.2 c = cby S.2 c := fun c hc2 => by
    unfold cby
    rw [hj 116 c (by first | decide | omega) (by first | decide | omega) hc2, C 97 (by first | decide | omega), C 102 (by first | decide | omega)]
  have hpi : ∀ (c : Nat) (y : Int), c ≠ n → pin S'.2 c y = pin S.2 c y := fun c y hc2 => by
    unfold pin
    rw [hj 115 c (by first | decide | omega) (by first | decide | omega) hc2]
  have hpn : ∀ y : Int, pin S'.2 n y = false := fun y => by
    unfold pin
    rw [n7]
    exact decide_eq_false (fun z => z.1 rfl)
  have eN : nClaims S.2 = n := by unfold nClaims; rw [hn]; rfl
  have eN' : nClaims S'.2 = n + 1 := by unfold nClaims; rw [e72]; omega
  have hpb : pby S'.2 = pby S.2 := by
    funext v y
    unfold pby
    rw [eN, eN', sm_su, hpn, if_neg (fun z => absurd z.1 (by decide)), Int.add_zero]
    refine sm_congr (fun c hc2 => ?_)
    rw [hcb c (by first | decide | omega), hpi c y (by first | decide | omega), hj 111 c (by first | decide | omega) (by first | decide | omega) (by first | decide | omega)]
  have hq : pct S'.2 = pct S.2 := by
    funext v y
    unfold pct
    rw [eN, eN', sm_su, hpn, if_neg (fun z => absurd z.1 (by decide)), Int.add_zero]
    refine sm_congr (fun c hc2 => ?_)
    rw [hpi c y (by first | decide | omega), hj 112 c (by first | decide | omega) (by first | decide | omega) (by first | decide | omega), hj 111 c (by first | decide | omega) (by first | decide | omega) (by first | decide | omega)]
  have hm : HM S.2 S'.2 := by unfold HM; rw [h72 _ (by decide), h72 _ (by decide)]; omega
  refine ⟨Nat.le_trans i1 hlen, gt.fr (by rw [c15]) (h72 _ (by decide)), gc.fr (by rw [c15]) (h72 _ (by decide)), gx.fr (by rw [c15]) (h72 _ (by decide)), gb.fr (by rw [c15]) (h72 _ (by decide)) (C _ (by first | decide | omega)) (C _ (by first | decide | omega)), gp.fr (h72 _ (by decide)) (h72 _ (by decide)) (fun a q => C a (by first | decide | omega)), gl.fx hFx hX (fun a q => C a (by first | decide | omega)) (h72 _ (by decide)) (fun t x q1 q => q.cells (fun a q1 q2 => C a (by first | decide | omega))), gv.fx hFx hX (fun v hv => ⟨fun z => z, fun z => z⟩) (fun a q => C a (by first | decide | omega)) (fun k q => h72 k (by first | decide | omega)) hm hpb hq, ?_, gu.fr (h72 _ (by decide)) (by rw [C 50 (by first | decide | omega)]) (by rw [C 50 (by first | decide | omega)]) (fun a q => C a (by first | decide | omega)), gw.fr (h72 _ (by decide)) (h72 _ (by decide)) (by rw [C 54 (by first | decide | omega)]) (by rw [C 54 (by first | decide | omega)]) (fun a q => C a (by first | decide | omega)), gn.fr (h72 _ (by decide)) (h72 _ (by decide)) (h72 _ (by decide)) (by rw [C 63 (by first | decide | omega)]) (by rw [C 63 (by first | decide | omega)]) (by rw [C 63 (by first | decide | omega)]) (fun a q => C a (by first | decide | omega))⟩
  obtain ⟨h1, h2, h3, h4, h5, h6, h7, h8, h9, h10, h11⟩ := gk
  have gk0 : GK S := ⟨h1, h2, h3, h4, h5, h6, h7, h8, h9, h10, h11⟩
  obtain ⟨g1, g2, g3, g4, g5, g6⟩ := h1
  obtain ⟨z1, z2, z3, z4, z5, z6, z7⟩ := g5 n (by first | decide | omega) hn300
  have ecl : ∀ c, c ≠ n → clA S' c = clA S c := fun c q => by unfold clA; rw [h44 c, if_neg q]
  have oN : clA S' n = o := by
    unfold clA
    rw [h44 n, if_pos rfl]
    rfl
  unfold GK
  rw [eN', h43 3 (by decide), h43 4 (by decide), h43 9 (by decide), e43, e72, h72 53 (by decide), h72 102 (by decide), C 45 (by first | decide | omega), C 46 (by first | decide | omega), C 47 (by first | decide | omega), C 48 (by first | decide | omega), C 49 (by first | decide | omega), C 117 (by first | decide | omega), C 146 (by first | decide | omega), C 147 (by first | decide | omega), C 148 (by first | decide | omega), C 149 (by first | decide | omega)]
  refine ⟨?_, rfl, h3, h4, fun c hc2 => ?_, fun c e q1 q2 q => ?_, fun i hi => ?_, fun c hc2 q => ?_, ?_, h10, h11⟩
  · unfold RK
    rw [e72, h72 53 (by decide), h72 102 (by decide), h72 4 (by decide), h72 5 (by decide), h72 40 (by decide), h72 70 (by decide), C 97 (by first | decide | omega), C 114 (by first | decide | omega), C 117 (by first | decide | omega), C 118 (by first | decide | omega), C 119 (by first | decide | omega), C 120 (by first | decide | omega), C 121 (by first | decide | omega), C 122 (by first | decide | omega), C 123 (by first | decide | omega), C 147 (by first | decide | omega), C 148 (by first | decide | omega)]
    refine ⟨by omega, by omega, g3, fun c hc2 => ?_, fun c q1 q2 => g5 c (by first | decide | omega) q2, fun f hf => ?_⟩
    · by_cases e : c = n
      · subst e
        rw [z1, z3, z4, z5, z6, z7]
        exact ⟨n1, n2, n3, n4, n5, by decide, Or.inl ⟨n7, n8⟩, n6, Or.inl rfl, Or.inl rfl, Or.inl rfl, ⟨by decide, by omega⟩, by decide, by omega⟩
      · rw [hj 108 c (by first | decide | omega) (by first | decide | omega) e, hj 109 c (by first | decide | omega) (by first | decide | omega) e, hj 110 c (by first | decide | omega) (by first | decide | omega) e, hj 111 c (by first | decide | omega) (by first | decide | omega) e, hj 112 c (by first | decide | omega) (by first | decide | omega) e, hj 113 c (by first | decide | omega) (by first | decide | omega) e, hj 115 c (by first | decide | omega) (by first | decide | omega) e, hj 116 c (by first | decide | omega) (by first | decide | omega) e]
        exact g4 c (by first | decide | omega)
    · obtain ⟨f1, f2⟩ := g6 f hf
      rw [hj 115 _ (by first | decide | omega) (by first | decide | omega) (show (S.2 147 f).toNat ≠ n by omega)]
      exact ⟨⟨f1.1, by omega, f1.2.2⟩, f2⟩
  · by_cases e : c = n
    · subst e
      have ecb : cby S'.2 c = -1 := by unfold cby; rw [n8, if_neg (fun z => z.1 rfl)]
      unfold AK
      rw [oN, ecb, hO 0, hO 1, hO 2, hO 3, hO 4, hO 5, hO 6, hO 7, hO 8, hO 9, hO 10, hO 11, hO 12, hO 13, hO 14, C 114 (by first | decide | omega), C 118 (by first | decide | omega), C 119 (by first | decide | omega), C 120 (by first | decide | omega), C 121 (by first | decide | omega), C 122 (by first | decide | omega), C 123 (by first | decide | omega), z1, z2, z3, z4, z5, z6, z7, n7, n8]
      exact ⟨hop, rfl, rfl, rfl, rfl, rfl, rfl, rfl, rfl, rfl, rfl, rfl, rfl, rfl, rfl, rfl⟩
    · have A := h5 c (by first | decide | omega)
      have ob := gk0.ob (c := c) (by first | decide | omega)
      have eo := (hF _ ob.1 ob.2.1).2
      unfold AK at A ⊢
      rw [ecl c e, eo, hcb c e, C 114 (by first | decide | omega), C 118 (by first | decide | omega), C 119 (by first | decide | omega), C 120 (by first | decide | omega), C 121 (by first | decide | omega), C 122 (by first | decide | omega), C 123 (by first | decide | omega), hj 108 c (by first | decide | omega) (by first | decide | omega) e, hj 109 c (by first | decide | omega) (by first | decide | omega) e, hj 110 c (by first | decide | omega) (by first | decide | omega) e, hj 111 c (by first | decide | omega) (by first | decide | omega) e, hj 112 c (by first | decide | omega) (by first | decide | omega) e, hj 113 c (by first | decide | omega) (by first | decide | omega) e, hj 115 c (by first | decide | omega) (by first | decide | omega) e, hj 116 c (by first | decide | omega) (by first | decide | omega) e]
      exact ⟨A.1.fx hFx, A.2⟩
  · by_cases e1 : c = n
    · by_cases e2 : e = n
      · rw [e1, e2]
      · have := (gk0.ob (c := e) (by first | decide | omega)).2.1
        rw [e1, oN, ecl e e2] at q
        omega
    · have := (gk0.ob (c := c) (by first | decide | omega)).2.1
      by_cases e2 : e = n
      · rw [e2, oN, ecl c e1] at q
        omega
      · rw [ecl c e1, ecl e e2] at q
        exact h6 c e (by first | decide | omega) (by first | decide | omega) q
  · obtain ⟨f1, f2, f3, f4⟩ := h7 i hi
    rw [hj 115 _ (by first | decide | omega) (by first | decide | omega) (show (S.2 45 i).toNat ≠ n by omega)]
    exact ⟨f1, by omega, f3, f4⟩
  · have e : c ≠ n := fun e => by rw [e, n7] at q; exact q rfl
    rw [hj 115 c (by first | decide | omega) (by first | decide | omega) e] at q
    exact h8 c (by first | decide | omega) q
  · rw [sm_su, n7, if_neg (fun z => z rfl), Int.add_zero, h9, eN]
    refine sm_congr (fun c hc2 => ?_)
    rw [hj 115 c (by first | decide | omega) (by first | decide | omega) (by first | decide | omega), hj 111 c (by first | decide | omega) (by first | decide | omega) (by first | decide | omega)]
end
