/-! cover -/
section
variable {L : Nat} {xs : Nat → Int} {d : Nat} {S T U S' W : AH}
theorem wokFD {a : Nat} (h : 151 ≤ a) : wokF (WK L xs) a = true := by
  have e : Nat.blt a (WK L xs).1 = false := by
    show Nat.blt a 151 = false
    cases hb : Nat.blt a 151 with
    | false => rfl
    | true =>
      have : a + 1 ≤ 151 := Nat.le_of_ble_eq_true hb
      omega
  unfold wokF
  rw [e]
  exact Nat.ble_eq_true_of_le (by first | decide | omega)
theorem k11a {o : Nat} (h : isO S o 11 14) (r : Rs) : gd (Nat.beq (shp (WK L xs) S o).1 11 && Nat.ble 0 8) r = r := by
  rw [shpD h.1, h.2.2]
  rfl
/-- what a year of an authority takes up -/
theorem x_spend {o p : Nat} (h1 : isO S o 11 14) (h2 : isO S p 3 10) (h13 : (S.2 o 13).toNat = p) {y : Nat} (hy : y < 10) (s : Int) : ev (WK L xs) (d + 2) 72 [vr o, vi (y : Int), vl s] S = some (0, wr S p y (w64 (S.2 p y + s))) := by
  have hq : (0 : Int) ≤ (y : Int) ∧ (y : Int) < (((3, 10) : Nat × Nat).2 : Int) := by
    show (0 : Int) ≤ (y : Int) ∧ (y : Int) < ((10 : Nat) : Int)
    omega
  have kw : ∀ r : Rs, gd (Nat.beq ((3, 10) : Nat × Nat).1 3 && wokF (WK L xs) p) r = r := fun r => by rw [wokFD h2.1]; rfl
  rw [q_72, x_isYear, bR]
  simp only [bi_0]
  rw [if_neg (by first | decide | omega), k11 h1, rdvD h1.1, h13, shpD h2.1, h2.2.2, rdvD h2.1, Int.toNat_natCast, if_pos hq, if_pos hq, kw]
  rfl
theorem x_rcL (gk : GK S) {B : AH} {p w : Int} {N : Nat} (hN : S.2 72 52 = N) (b43 : B.2 43 = S.2 43) (b44 : B.2 44 = S.2 44) : ∀ (m c : Nat) (T : AH), c + m = N → T.1 = S.1 → (∀ a, (∀ e, e < N → a ≠ clA S e) → T.2 a = B.2 a) → (∀ e, e < N → ∀ k, T.2 (clA S e) k = if k = 9 ∧ e < c ∧ S.2 (clA S e) 9 = p then w else S.2 (clA S e) k) →
    ∃ T', LQ (WK L xs) (ev (WK L xs) (d + 1)) 81 2 [some (vr 43), some (vi p), some (vi w), some (vi (c : Int)), none] [] T = some (0, T') ∧ T'.1 = S.1 ∧ (∀ a, (∀ e, e < N → a ≠ clA S e) → T'.2 a = B.2 a) ∧ (∀ e, e < N → ∀ k, T'.2 (clA S e) k = if k = 9 ∧ S.2 (clA S e) 9 = p then w else S.2 (clA S e) k) := by
  have hn3 := gk.n
  have hob : ∀ e, e < N → isO S (clA S e) 12 15 := fun e he => gk.ob (by first | decide | omega)
  have lo : ∀ a, a < 151 → ∀ e, e < N → a ≠ clA S e := fun a ha e he z => by have := (hob e he).1; omega
  intro m
  induction m with
  | zero =>
    intro c T hc t1 t2 t3
    have e : c = N := by omega
    subst e
    have h43 : T.2 43 = S.2 43 := by rw [t2 43 (lo 43 (by decide)), b43]
    refine ⟨T, ?_, t1, t2, fun e he k => ?_⟩
    · rw [q_81_2, h43, gk.2.1, hN, if_neg (by first | decide | omega)]
    · rw [t3 e he k]
      simp only [he, true_and]
  | succ m ih =>
    intro c T hc t1 t2 t3
    have hcN : c < N := by omega
    have h43 : T.2 43 = S.2 43 := by rw [t2 43 (lo 43 (by decide)), b43]
    have h44 : T.2 44 = S.2 44 := by rw [t2 44 (lo 44 (by decide)), b44]
    have a1 := hob c hcN
    have h5 := a1.1
    have hO : isO T (clA S c) 12 15 := a1.eq t1
    have e1 : (c : Int) + 1 = ((c + 1 : Nat) : Int) := by omega
    have tc : ∀ k, T.2 (clA S c) k = S.2 (clA S c) k := fun k => by rw [t3 c hcN k, if_neg (by first | decide | omega)]
    have x80 : ev (WK L xs) (d + 1) 80 [vr 43, vi (c : Int)] T = some ((clA S c : Int), T) := by
      rw [q_80, h43, gk.2.1, if_neg (by first | decide | omega), if_pos (by first | decide | omega), if_pos (by first | decide | omega), Int.toNat_natCast, h44]
      rfl
    rw [q_81_2, h43, gk.2.1, hN, if_pos (by first | decide | omega), x80, bR, Int.toNat_natCast, if_neg (by first | decide | omega), g14 hO, k12 hO, rdvD h5, tc 9, w32e (by first | decide | omega) (by first | decide | omega), e1]
    by_cases hv : S.2 (clA S c) 9 = p
    · rw [if_pos hv, k12w hO]
      refine ih (c + 1) _ (by first | decide | omega) t1 (fun a q2 => by rw [wr_c (q2 c hcN), t2 a q2]) (fun e he k => ?_)
      by_cases ec : e = c
      · subst ec
        rw [wr_f, tc k]
        by_cases q : k = 9
        · rw [if_pos q, if_pos ⟨q, by omega, hv⟩]
        · rw [if_neg q, if_neg (fun z => q z.1)]
      · have hne : clA S e ≠ clA S c := fun z => ec (gk.2.2.2.2.2.1 e c (by first | decide | omega) (by first | decide | omega) z)
        rw [wr_c hne, t3 e he k]
        by_cases q : k = 9 ∧ e < c ∧ S.2 (clA S e) 9 = p
        · rw [if_pos q, if_pos ⟨q.1, by omega, q.2.2⟩]
        · rw [if_neg q, if_neg (fun z => q ⟨z.1, by omega, z.2.2⟩)]
    · rw [if_neg hv]
      refine ih (c + 1) T (by first | decide | omega) t1 t2 (fun e he k => ?_)
      rw [t3 e he k]
      by_cases ec : e = c
      · subst ec
        rw [if_neg (by first | decide | omega), if_neg (fun z => hv z.2.2)]
      · by_cases q : k = 9 ∧ e < c ∧ S.2 (clA S e) 9 = p
        · rw [if_pos q, if_pos ⟨q.1, by omega, q.2.2⟩]
        · rw [if_neg q, if_neg (fun z => q ⟨z.1, by omega, z.2.2⟩)]
/-- by what claims count, and what was paid, when the advance v is covered by w -/
theorem cby_cov (rv : RV S.2) (rk : RK S.2) {v w : Nat} (hw : (w : Int) < S.2 72 40) (kv : S.2 97 v = 4) (ov : S.2 102 v = -1) {h' : Nat → Nat → Int} (e1 : h' 116 = S.2 116) (e2 : h' 97 = S.2 97) (e3 : h' 102 = fun j => if j = v then (w : Int) else S.2 102 j) {c : Nat} (hc : (c : Int) < S.2 72 52) : cby h' c = if cby S.2 c = v then (w : Int) else cby S.2 c := by
  obtain ⟨-, -, -, -, -, -, r7, -⟩ := rk.2.2.2.1 c hc
  have e3' : ∀ j, h' 102 j = if j = v then (w : Int) else S.2 102 j := fun j => by rw [e3]
  unfold cby
  rw [e1, e2]
  by_cases h1 : S.2 116 c = -1
  · rw [if_neg (show ¬ (S.2 116 c ≠ -1 ∧ S.2 97 (S.2 116 c).toNat = 4 ∧ h' 102 (S.2 116 c).toNat ≠ -1) from fun z => z.1 h1), if_neg (show ¬ (S.2 116 c ≠ -1 ∧ S.2 97 (S.2 116 c).toNat = 4 ∧ S.2 102 (S.2 116 c).toNat ≠ -1) from fun z => z.1 h1), if_neg (by first | decide | omega)]
  have hr : 0 ≤ S.2 116 c ∧ S.2 116 c < S.2 72 40 := by omega
  by_cases h2 : S.2 116 c = v
  · have h3 : (S.2 116 c).toNat = v := by omega
    rw [h3, e3' v, if_pos (rfl : v = v), if_pos (show S.2 116 c ≠ -1 ∧ S.2 97 v = 4 ∧ (w : Int) ≠ -1 from ⟨h1, kv, by omega⟩), if_neg (show ¬ (S.2 116 c ≠ -1 ∧ S.2 97 v = 4 ∧ S.2 102 v ≠ -1) from fun z => z.2.2 ov), if_pos h2]
  · have h3 : (S.2 116 c).toNat ≠ v := by omega
    rw [e3', if_neg h3]
    by_cases q : S.2 116 c ≠ -1 ∧ S.2 97 (S.2 116 c).toNat = 4 ∧ S.2 102 (S.2 116 c).toNat ≠ -1
    · rw [if_pos q]
      rw [if_neg]
      intro z
      have := (rv.2.1 (S.2 116 c).toNat (by first | decide | omega)).2.2.2.2.2.2.1 q.2.1
      rcases this with x | x
      · exact q.2.2 x
      · have x3 := x.2.2
        rw [z, Int.toNat_natCast, kv] at x3
        cases x3
    · rw [if_neg q, if_neg h2]
theorem pby_cov (rv : RV S.2) (rk : RK S.2) {v w : Nat} (hvw : v ≠ w) (hw : (w : Int) < S.2 72 40) (kv : S.2 97 v = 4) (ov : S.2 102 v = -1) {h' : Nat → Nat → Int} (e1 : h' 116 = S.2 116) (e2 : h' 97 = S.2 97) (e3 : h' 102 = fun j => if j = v then (w : Int) else S.2 102 j) (e4 : h' 115 = S.2 115) (e5 : h' 111 = S.2 111) (e6 : h' 72 52 = S.2 72 52) (u : Nat) (y : Int) : pby h' u y = if u = w then pby S.2 w y + pby S.2 v y else if u = v then 0 else pby S.2 u y := by
  have hp : pin h' = pin S.2 := pin_fr e4
  have hn : nClaims h' = nClaims S.2 := by unfold nClaims; rw [e6]
  have hnc := rk.nC
  have key : ∀ c, c < nClaims S.2 → (cby h' c = (u : Int) ↔ if u = w then (cby S.2 c = (w : Int) ∨ cby S.2 c = (v : Int)) else if u = v then False else cby S.2 c = (u : Int)) := by
    intro c hc
    rw [cby_cov rv rk hw kv ov e1 e2 e3 (by first | decide | omega)]
    by_cases q1 : cby S.2 c = (v : Int)
    · rw [if_pos q1]
      by_cases q2 : u = w
      · rw [if_pos q2]
        exact ⟨fun _ => Or.inr q1, fun _ => by omega⟩
      · rw [if_neg q2]
        by_cases q3 : u = v
        · rw [if_pos q3]
          exact ⟨fun z => by omega, False.elim⟩
        · rw [if_neg q3]
          exact ⟨fun z => by omega, fun z => by omega⟩
    · rw [if_neg q1]
      by_cases q2 : u = w
      · rw [if_pos q2]
        exact ⟨fun z => Or.inl (by first | decide | omega), fun z => by rcases z with z | z <;> omega⟩
      · rw [if_neg q2]
        by_cases q3 : u = v
        · rw [if_pos q3]
          exact ⟨fun z => by omega, False.elim⟩
        · rw [if_neg q3]
  unfold pby
  rw [hp, hn, e5]
  by_cases q2 : u = w
  · rw [if_pos q2, ← sm_add]
    refine sm_congr (fun c hc => ?_)
    have k := key c hc
    rw [if_pos q2] at k
    by_cases p1 : pin S.2 c y = true
    · by_cases p2 : cby S.2 c = (w : Int)
      · rw [if_pos ⟨p1, k.mpr (Or.inl p2)⟩, if_pos ⟨p1, p2⟩, if_neg (fun z => hvw (by have := z.2; omega))]
        omega
      · by_cases p3 : cby S.2 c = (v : Int)
        · rw [if_pos ⟨p1, k.mpr (Or.inr p3)⟩, if_neg (fun z => p2 z.2), if_pos ⟨p1, p3⟩]
          omega
        · rw [if_neg (fun z => by rcases k.mp z.2 with x | x <;> contradiction), if_neg (fun z => p2 z.2), if_neg (fun z => p3 z.2)]
          omega
    · rw [if_neg (fun z => p1 z.1), if_neg (fun z => p1 z.1), if_neg (fun z => p1 z.1)]
      omega
  · rw [if_neg q2]
    by_cases q3 : u = v
    · rw [if_pos q3]
      refine Eq.trans (sm_congr (g := fun _ => 0) (fun c hc => ?_)) (sm_zero _)
      have k := key c hc
      rw [if_neg q2, if_pos q3] at k
      exact if_neg (fun z => k.mp z.2)
    · rw [if_neg q3]
      refine sm_congr (fun c hc => ?_)
      have k := key c hc
      rw [if_neg q2, if_neg q3] at k
      by_cases p1 : pin S.2 c y = true ∧ cby S.2 c = (u : Int)
      · rw [if_pos p1, if_pos ⟨p1.1, k.mpr p1.2⟩]
      · rw [if_neg p1, if_neg (fun z => p1 ⟨z.1, k.mp z.2⟩)]

/-- the advance v is covered by the vote w -/
theorem Inv.cov (H : Inv S) {v w y : Nat} (hv : (v : Int) < S.2 72 40) (hw : (w : Int) < S.2 72 40) (kv : S.2 97 v = 4) (kw : S.2 97 w = 0) (ov : S.2 102 v = -1) (hy : S.2 100 v = y) (hS : S'.1 = S.1)
    (hF : ∀ a, 151 ≤ a → a ≠ auA S v → a ≠ spA S v → a ≠ spA S w → (∀ c : Nat, (c : Int) < S.2 72 52 → a ≠ clA S c) → S'.2 a = S.2 a) (hc : ∀ a, a < 151 → a ≠ 102 → a ≠ 103 → S'.2 a = S.2 a) (h102 : S'.2 102 = fun j => if j = v then (w : Int) else S.2 102 j) (h103 : ∀ j, j ≠ v → S'.2 103 j = S.2 103 j)
    (hO : ∀ k, k ≠ 8 → k ≠ 9 → S'.2 (auA S v) k = S.2 (auA S v) k) (h8 : S'.2 (auA S v) 8 = w) (h9 : S'.2 (auA S v) 9 = S'.2 103 v) (hsv : ∀ j, S'.2 (spA S v) j = if j = y then 0 else S.2 (spA S v) j) (hsw : ∀ j, S'.2 (spA S w) j = if j = y then S.2 (spA S w) y + S.2 (spA S v) y else S.2 (spA S w) j)
    (hcl : ∀ c : Nat, (c : Int) < S.2 72 52 → ∀ k, S'.2 (clA S c) k = if k = 9 ∧ S.2 (clA S c) 9 = v then (w : Int) else S.2 (clA S c) k) : Inv S' := by
  obtain ⟨i1, gt, gc, gx, gb, gp, gl, gv, gk, gu, gw, gn⟩ := H
  have hvw : v ≠ w := fun z => by
    rw [z, kw] at kv
    cases kv
  have hov := gv.ob hv
  have C : ∀ a, a < 102 ∨ (103 < a ∧ a < 151) → S'.2 a = S.2 a := fun a q => hc a (by first | decide | omega) (by first | decide | omega) (by first | decide | omega)
  have hFx : Fx (fun a => a = auA S v ∨ a = spA S v ∨ a = spA S w ∨ ∃ c : Nat, (c : Int) < S.2 72 52 ∧ a = clA S c) S S' := ⟨by rw [hS]; exact Nat.le_refl _, fun a q1 q2 => ⟨by rw [hS], fun q => hF a q1 (fun z => q (Or.inl z)) (fun z => q (Or.inr (Or.inl z))) (fun z => q (Or.inr (Or.inr (Or.inl z)))) (fun c h z => q (Or.inr (Or.inr (Or.inr ⟨c, h, z⟩))))⟩⟩
  have hX : Xt (fun a => a = auA S v ∨ a = spA S v ∨ a = spA S w ∨ ∃ c : Nat, (c : Int) < S.2 72 52 ∧ a = clA S c) S := by
    rintro a (rfl | rfl | rfl | ⟨c, h, rfl⟩)
    · rw [hov.2.2]; omega
    · rw [(gv.2.2.2.1 v hv).2.1.2.2]; omega
    · rw [(gv.2.2.2.1 w hw).2.1.2.2]; omega
    · rw [(gk.ob h).2.2]; omega
  have c15 := C 15 (by first | decide | omega)
  have c72 := C 72 (by first | decide | omega)
  have hm : HM S.2 S'.2 := by
    unfold HM
    rw [c72]
    omega
  have eau : ∀ u, auA S' u = auA S u := fun u => by unfold auA; rw [C 37 (by first | decide | omega)]
  have nau : ∀ u : Nat, (u : Int) < S.2 72 40 → u ≠ v → S'.2 (auA S u) = S.2 (auA S u) := fun u hu e => hF _ (gv.ob hu).1 (fun z => e (auA_inj gv hu hv z)) (au_sp gv hu hv) (au_sp gv hu hw) (fun c h => (au_cl gv gk hu h).1)
  have esp : ∀ u : Nat, (u : Int) < S.2 72 40 → spA S' u = spA S u := fun u hu => by
    unfold spA
    rw [eau]
    by_cases e : u = v
    · subst e
      rw [hO 13 (by decide) (by decide)]
    · rw [nau u hu e]
  have hp := pby_cov gv.1 gk.1 hvw hw kv ov (h' := S'.2) (C _ (by first | decide | omega)) (C _ (by first | decide | omega)) h102 (C _ (by first | decide | omega)) (C _ (by first | decide | omega)) (by rw [c72])
  have hq : pct S'.2 = pct S.2 := pct_fr (C _ (by first | decide | omega)) (C _ (by first | decide | omega)) (C _ (by first | decide | omega)) (by rw [c72])
  have hcb : ∀ c : Nat, (c : Int) < S.2 72 52 → cby S'.2 c = if cby S.2 c = v then (w : Int) else cby S.2 c := fun c h => cby_cov gv.1 gk.1 hw kv ov (C _ (by first | decide | omega)) (C _ (by first | decide | omega)) h102 h
  refine ⟨by rw [hS]; exact i1, gt.fr (by rw [c15]) (by rw [c72]), gc.fr (by rw [c15]) (by rw [c72]), gx.fr (by rw [c15]) (by rw [c72]), gb.fr (by rw [c15]) (by rw [c72]) (C _ (by first | decide | omega)) (C _ (by first | decide | omega)), gp.fr (by rw [c72]) (by rw [c72]) (fun a q => C a (by first | decide | omega)), gl.fx hFx hX (fun a q => C a (by first | decide | omega)) (by rw [c72]) (fun t x _ q => q.cells (fun a q1 q2 => C a (by first | decide | omega))), ?_, ?_, gu.fr (by rw [c72]) (by rw [C 50 (by first | decide | omega)]) (by rw [C 50 (by first | decide | omega)]) (fun a q => C a (by first | decide | omega)), gw.fr (by rw [c72]) (by rw [c72]) (by rw [C 54 (by first | decide | omega)]) (by rw [C 54 (by first | decide | omega)]) (fun a q => C a (by first | decide | omega)), gn.fr (by rw [c72]) (by rw [c72]) (by rw [c72]) (by rw [C 63 (by first | decide | omega)]) (by rw [C 63 (by first | decide | omega)]) (by rw [C 63 (by first | decide | omega)]) (fun a q => C a (by first | decide | omega))⟩
  · obtain ⟨h1, h2, h3, h4, h5, h6, h7'⟩ := gv
    have gv0 : GV S := ⟨h1, h2, h3, h4, h5, h6, h7'⟩
    unfold GV
    rw [hq, C 36 (by first | decide | omega), c72, C 38 (by first | decide | omega), C 39 (by first | decide | omega), C 40 (by first | decide | omega), C 41 (by first | decide | omega), C 42 (by first | decide | omega), C 124 (by first | decide | omega), C 125 (by first | decide | omega), C 126 (by first | decide | omega), C 127 (by first | decide | omega)]
    refine ⟨?_, h2, h3, fun u hu => ?_, fun u x hu hx q => ?_, h6, h7'⟩
    · obtain ⟨g1, g2, g3, g4⟩ := h1
      have o2 : ∀ j, S'.2 102 j = if j = v then (w : Int) else S.2 102 j := fun j => by rw [h102]
      unfold RV
      rw [c72, C 97 (by first | decide | omega), C 98 (by first | decide | omega), C 99 (by first | decide | omega), C 100 (by first | decide | omega), C 104 (by first | decide | omega), C 105 (by first | decide | omega), C 106 (by first | decide | omega), C 107 (by first | decide | omega), C 124 (by first | decide | omega), C 125 (by first | decide | omega), C 126 (by first | decide | omega), C 127 (by first | decide | omega)]
      refine ⟨g1, fun u hu => ?_, g3, g4⟩
      rw [o2 u]
      by_cases e : u = v
      · subst e
        rw [if_pos rfl]
        obtain ⟨f1, f2, f3, f4, f5, f6, f7, f8⟩ := g2 u hu
        refine ⟨f1, f2, f3, f4, f5, fun z => ?_, fun _ => Or.inr ⟨by omega, hw, by rw [Int.toNat_natCast]; exact kw⟩, fun _ z => absurd kv z⟩
        rw [kv] at z
        cases z
      · rw [if_neg e]
        exact g2 u hu
    · by_cases e : u = v
      · subst e
        have A := h4 u hu
        unfold AV at A ⊢
        rw [eau, esp u hu, h8, h9, h102, hO 0 (by decide) (by decide), hO 1 (by decide) (by decide), hO 2 (by decide) (by decide), hO 3 (by decide) (by decide), hO 4 (by decide) (by decide), hO 5 (by decide) (by decide), hO 6 (by decide) (by decide), hO 7 (by decide) (by decide), hO 10 (by decide) (by decide), hO 11 (by decide) (by decide), hO 12 (by decide) (by decide), C 97 (by first | decide | omega), C 98 (by first | decide | omega), C 99 (by first | decide | omega), C 100 (by first | decide | omega), C 101 (by first | decide | omega), C 104 (by first | decide | omega), C 105 (by first | decide | omega), C 106 (by first | decide | omega), C 107 (by first | decide | omega)]
        obtain ⟨a1, a2, a3, a4, a5, a6, a7, a8, a9, a10, a11, a12, a13, a14, a15, a16⟩ := A
        have k1 : ¬ S.2 97 u = 1 := by rw [kv]; decide
        refine ⟨a1.eq hS, a2.eq hS, a3, a4, a5, a6, a7, ?_, ?_, a10, rfl, a12, a13, a14, a15.fx hFx hX (fun x q => q.cells (fun a q1 q2 => C a (by first | decide | omega))), fun _ j hj => ?_⟩
        · rw [if_neg k1]
          rw [if_neg k1] at a8
          exact a8
        · rw [if_neg k1]
          exact (if_pos rfl).symm
        · have z := a16 k1 j hj
          rw [hp u j, if_neg hvw, if_pos rfl, hsv j]
          refine ⟨?_, fun _ _ => rfl⟩
          by_cases ej : j = y
          · rw [if_pos ej]
          · rw [if_neg ej, z.1]
            exact z.2 kv (by first | decide | omega)
      · by_cases ew : u = w
        · subst ew
          have A := h4 u hu
          have Av := h4 v hv
          have o2 : S'.2 102 u = S.2 102 u := by rw [h102]; exact if_neg e
          unfold AV at A ⊢
          rw [eau, esp u hu, nau u hu e, o2, h103 u e, C 97 (by first | decide | omega), C 98 (by first | decide | omega), C 99 (by first | decide | omega), C 100 (by first | decide | omega), C 101 (by first | decide | omega), C 104 (by first | decide | omega), C 105 (by first | decide | omega), C 106 (by first | decide | omega), C 107 (by first | decide | omega)]
          obtain ⟨a1, a2, a3, a4, a5, a6, a7, a8, a9, a10, a11, a12, a13, a14, a15, a16⟩ := A
          obtain ⟨-, -, -, -, -, -, -, -, -, -, -, -, -, -, -, b16⟩ := Av
          have k1 : ¬ S.2 97 u = 1 := by rw [kw]; decide
          have k1v : ¬ S.2 97 v = 1 := by rw [kv]; decide
          refine ⟨a1.eq hS, a2.eq hS, a3, a4, a5, a6, a7, a8, a9, a10, a11, a12, a13, a14, a15.fx hFx hX (fun x q => q.cells (fun a q1 q2 => C a (by first | decide | omega))), fun _ j hj => ?_⟩
          have z := a16 k1 j hj
          have zv := b16 k1v j hj
          rw [hp u j, if_pos rfl, hsw j]
          refine ⟨?_, fun z4 => by rw [kw] at z4; cases z4⟩
          by_cases ej : j = y
          · rw [if_pos ej, ← ej, z.1, zv.1]
          · rw [if_neg ej, z.1, zv.2 kv (by first | decide | omega), Int.add_zero]
        · refine ((h4 u hu).fx hFx hX ?_ ?_ (by rw [C 37 (by first | decide | omega)]) (fun a q1 q2 => ?_) (fun _ j _ => by rw [hp u j, if_neg ew, if_neg e]) (fun x q => q.cells (fun a q1 q2 => C a (by first | decide | omega)))).1
          · rintro (z | z | z | ⟨c, h, z⟩)
            · exact e (auA_inj gv0 hu hv z)
            · exact au_sp gv0 hu hv z
            · exact au_sp gv0 hu hw z
            · exact (au_cl gv0 gk hu h).1 z
          · rintro (z | z | z | ⟨c, h, z⟩)
            · exact au_sp gv0 hv hu z.symm
            · exact e (h5 u v hu hv (Or.inr z))
            · exact ew (h5 u w hu hw (Or.inr z))
            · exact (au_cl gv0 gk hu h).2 z
          · by_cases q3 : a = 102
            · rw [q3, h102]
              exact if_neg e
            · by_cases q4 : a = 103
              · rw [q4, h103 u e]
              · rw [C a (by first | decide | omega)]
    · rw [eau, eau, esp u hu, esp x hx] at q
      exact h5 u x hu hx q
  · obtain ⟨h1, h2, h3, h4, h5, h6, h7', h8', h9', h10', h11'⟩ := gk
    have ecl : ∀ c, clA S' c = clA S c := fun c => by unfold clA; rw [C 44 (by first | decide | omega)]
    unfold GK nClaims
    rw [C 43 (by first | decide | omega), c72, C 45 (by first | decide | omega), C 46 (by first | decide | omega), C 47 (by first | decide | omega), C 48 (by first | decide | omega), C 49 (by first | decide | omega), C 111 (by first | decide | omega), C 115 (by first | decide | omega), C 117 (by first | decide | omega), C 146 (by first | decide | omega), C 147 (by first | decide | omega), C 148 (by first | decide | omega), C 149 (by first | decide | omega)]
    refine ⟨h1.fr (fun a q => C a (by first | decide | omega)) (fun k _ => by rw [c72]) hm, h2, h3, h4, fun c hc2 => ?_, fun c e q1 q2 q => ?_, h7', h8', h9', h10', h11'⟩
    · have A := h5 c hc2
      unfold AK at A ⊢
      obtain ⟨b1, b2, b3, b4, b5, b6, b7, b8, b9, b10, b11, b12, b13, b14, b15, b16⟩ := A
      rw [ecl]
      have hk : ∀ k, k ≠ 9 → S'.2 (clA S c) k = S.2 (clA S c) k := fun k q => by rw [hcl c hc2 k, if_neg (fun z => q z.1)]
      rw [hk 0 (by decide), hk 1 (by decide), hk 2 (by decide), hk 3 (by decide), hk 4 (by decide), hk 5 (by decide), hk 6 (by decide), hk 7 (by decide), hk 8 (by decide), hk 10 (by decide), hk 11 (by decide), hk 12 (by decide), hk 13 (by decide), hk 14 (by decide), hcl c hc2 9, hcb c hc2, b11, C 108 (by first | decide | omega), C 109 (by first | decide | omega), C 110 (by first | decide | omega), C 111 (by first | decide | omega), C 112 (by first | decide | omega), C 113 (by first | decide | omega), C 114 (by first | decide | omega), C 115 (by first | decide | omega), C 116 (by first | decide | omega), C 118 (by first | decide | omega), C 119 (by first | decide | omega), C 120 (by first | decide | omega), C 121 (by first | decide | omega), C 122 (by first | decide | omega), C 123 (by first | decide | omega)]
      refine ⟨b1.eq hS, b2, b3, b4, b5, b6, b7, b8, b9, b10, ?_, b12, b13, b14, b15, b16⟩
      by_cases q : cby S.2 c = (v : Int)
      · rw [if_pos ⟨rfl, q⟩, if_pos q]
      · rw [if_neg (fun z => q z.2), if_neg q]
    · rw [ecl, ecl] at q
      exact h6 c e q1 q2 q
end
