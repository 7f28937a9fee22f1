section
-- 73.cover
/-! cover -/
section
variable {L : Nat} {xs : Nat → Int} {d : Nat} {S T U S' W : AH}
theorem wokFD {a : Nat} (h : 151 ≤ a) : wokF (WK L xs) a = true := by
  have e : Nat.blt a (WK L xs).1 = false := by
    show Nat.blt a 151 = false
    cases hb : Nat.blt a 151 with
    | false => rfl
    | true =>
      have : a + 1 ≤ 151 := Nat.le_of_ble_eq_true hb
      omega
  unfold wokF
  rw [e]
  exact Nat.ble_eq_true_of_le (by first | decide | omega)
theorem k11a {o : Nat} (h : isO S o 11 14) (r : Rs) : gd (Nat.beq (shp (WK L xs) S o).1 11 && Nat.ble 0 8) r = r := by
  rw [shpD h.1, h.2.2]
  rfl
/-- what a year of an authority takes up -/
theorem x_spend {o p : Nat} (h1 : isO S o 11 14) (h2 : isO S p 3 10) (h13 : (S.2 o 13).toNat = p) {y : Nat} (hy : y < 10) (s : Int) : ev (WK L xs) (d + 2) 72 [vr o, vi (y : Int), vl s] S = some (0, wr S p y (w64 (S.2 p y + s))) := by
  have hq : (0 : Int) ≤ (y : Int) ∧ (y : Int) < (((3, 10) : Nat × Nat).2 : Int) := by
    show (0 : Int) ≤ (y : Int) ∧ (y : Int) < ((10 : Nat) : Int)
    omega
  have kw : ∀ r : Rs, gd (Nat.beq ((3, 10) : Nat × Nat).1 3 && wokF (WK L xs) p) r = r := fun r => by rw [wokFD h2.1]; rfl
  rw [q_72, x_isYear, bR]
  simp only [bi_0]
  rw [if_neg (by first | decide | omega), k11 h1, rdvD h1.1, h13, shpD h2.1, h2.2.2, rdvD h2.1, Int.toNat_natCast, if_pos hq, if_pos hq, kw]
  rfl
theorem x_rcL (gk : GK S) {B : AH} {p w : Int} {N : Nat} (hN : S.2 72 52 = N) (b43 : B.2 43 = S.2 43) (b44 : B.2 44 = S.2 44) : ∀ (m c : Nat) (T : AH), c + m = N → T.1 = S.1 → (∀ a, (∀ e, e < N → a ≠ clA S e) → T.2 a = B.2 a) → (∀ e, e < N → ∀ k, T.2 (clA S e) k = if k = 9 ∧ e < c ∧ S.2 (clA S e) 9 = p then w else S.2 (clA S e) k) →
    ∃ T', LQ (WK L xs) (ev (WK L xs) (d + 1)) 81 2 [some (vr 43), some (vi p), some (vi w), some (vi (c : Int)), none] [] T = some (0, T') ∧ T'.1 = S.1 ∧ (∀ a, (∀ e, e < N → a ≠ clA S e) → T'.2 a = B.2 a) ∧ (∀ e, e < N → ∀ k, T'.2 (clA S e) k = if k = 9 ∧ S.2 (clA S e) 9 = p then w else S.2 (clA S e) k) := by
  have hn3 := gk.n
  have hob : ∀ e, e < N → isO S (clA S e) 12 15 := fun e he => gk.ob (by first | decide | omega)
  have lo : ∀ a, a < 151 → ∀ e, e < N → a ≠ clA S e := fun a ha e he z => by have := (hob e he).1; omega
  intro m
  induction m with
  | zero =>
    intro c T hc t1 t2 t3
    have e : c = N := by omega
    subst e
    have h43 : T.2 43 = S.2 43 := by rw [t2 43 (lo 43 (by decide)), b43]
    refine ⟨T, ?_, t1, t2, fun e he k => ?_⟩
    · rw [q_81_2, h43, gk.2.1, hN, if_neg (by first | decide | omega)]
    · rw [t3 e he k]
      simp only [he, true_and]
  | succ m ih =>
    intro c T hc t1 t2 t3
    have hcN : c < N := by omega
    have h43 : T.2 43 = S.2 43 := by rw [t2 43 (lo 43 (by decide)), b43]
    have h44 : T.2 44 = S.2 44 := by rw [t2 44 (lo 44 (by decide)), b44]
    have a1 := hob c hcN
    have h5 := a1.1
    have hO : isO T (clA S c) 12 15 := a1.eq t1
    have e1 : (c : Int) + 1 = ((c + 1 : Nat) : Int) := by omega
    have tc : ∀ k, T.2 (clA S c) k = S.2 (clA S c) k := fun k => by rw [t3 c hcN k, if_neg (by first | decide | omega)]
    have x80 : ev (WK L xs) (d + 1) 80 [vr 43, vi (c : Int)] T = some ((clA S c : Int), T) := by
      rw [q_80, h43, gk.2.1, if_neg (by first | decide | omega), if_pos (by first | decide | omega), if_pos (by first | decide | omega), Int.toNat_natCast, h44]
      rfl
    rw [q_81_2, h43, gk.2.1, hN, if_pos (by first | decide | omega), x80, bR, Int.toNat_natCast, if_neg (by first | decide | omega), g14 hO, k12 hO, rdvD h5, tc 9, w32e (by first | decide | omega) (by first | decide | omega), e1]
    by_cases hv : S.2 (clA S c) 9 = p
    · rw [if_pos hv, k12w hO]
      refine ih (c + 1) _ (by first | decide | omega) t1 (fun a q2 => by rw [wr_c (q2 c hcN), t2 a q2]) (fun e he k => ?_)
      by_cases ec : e = c
      · subst ec
        rw [wr_f, tc k]
        by_cases q : k = 9
        · rw [if_pos q, if_pos ⟨q, by omega, hv⟩]
        · rw [if_neg q, if_neg (fun z => q z.1)]
      · have hne : clA S e ≠ clA S c := fun z => ec (gk.2.2.2.2.2.1 e c (by first | decide | omega) (by first | decide | omega) z)
        rw [wr_c hne, t3 e he k]
        by_cases q : k = 9 ∧ e < c ∧ S.2 (clA S e) 9 = p
        · rw [if_pos q, if_pos ⟨q.1, by omega, q.2.2⟩]
        · rw [if_neg q, if_neg (fun z => q ⟨z.1, by omega, z.2.2⟩)]
    · rw [if_neg hv]
      refine ih (c + 1) T (by first | decide | omega) t1 t2 (fun e he k => ?_)
      rw [t3 e he k]
      by_cases ec : e = c
      · subst ec
        rw [if_neg (by first | decide | omega), if_neg (fun z => hv z.2.2)]
      · by_cases q : k = 9 ∧ e < c ∧ S.2 (clA S e) 9 = p
        · rw [if_pos q, if_pos ⟨q.1, by omega, q.2.2⟩]
        · rw [if_neg q, if_neg (fun z => q ⟨z.1, by omega, z.2.2⟩)]
/-- by what claims count, and what was paid, when the advance v is covered by w -/
theorem cby_cov (rv : RV S.2) (rk : RK S.2) {v w : Nat} (hw : (w : Int) < S.2 72 40) (kv : S.2 97 v = 4) (ov : S.2 102 v = -1) {h' : Nat → Nat → Int} (e1 : h' 116 = S.2 116) (e2 : h' 97 = S.2 97) (e3 : h' 102 = fun j => if j = v then (w : Int) else S.2 102 j) {c : Nat} (hc : (c : Int) < S.2 72 52) : cby h' c = if cby S.2 c = v then (w : Int) else cby S.2 c := by
  obtain ⟨-, -, -, -, -, -, r7, -⟩ := rk.2.2.2.1 c hc
  have e3' : ∀ j, h' 102 j = if j = v then (w : Int) else S.2 102 j := fun j => by rw [e3]
  unfold cby
  rw [e1, e2]
  by_cases h1 : S.2 116 c = -1
  · rw [if_neg (show ¬ (S.2 116 c ≠ -1 ∧ S.2 97 (S.2 116 c).toNat = 4 ∧ h' 102 (S.2 116 c).toNat ≠ -1) from fun z => z.1 h1), if_neg (show ¬ (S.2 116 c ≠ -1 ∧ S.2 97 (S.2 116 c).toNat = 4 ∧ S.2 102 (S.2 116 c).toNat ≠ -1) from fun z => z.1 h1), if_neg (by first | decide | omega)]
  have hr : 0 ≤ S.2 116 c ∧ S.2 116 c < S.2 72 40 := by omega
  by_cases h2 : S.2 116 c = v
  · have h3 : (S.2 116 c).toNat = v := by omega
    rw [h3, e3' v, if_pos (rfl : v = v), if_pos (show S.2 116 c ≠ -1 ∧ S.2 97 v = 4 ∧ (w : Int) ≠ -1 from ⟨h1, kv, by omega⟩), if_neg (show ¬ (S.2 116 c ≠ -1 ∧ S.2 97 v = 4 ∧ S.2 102 v ≠ -1) from fun z => z.2.2 ov), if_pos h2]
  · have h3 : (S.2 116 c).toNat ≠ v := by omega
    rw [e3', if_neg h3]
    by_cases q : S.2 116 c ≠ -1 ∧ S.2 97 (S.2 116 c).toNat = 4 ∧ S.2 102 (S.2 116 c).toNat ≠ -1
    · rw [if_pos q]
      rw [if_neg]
      intro z
      have := (rv.2.1 (S.2 116 c).toNat (by first | decide | omega)).2.2.2.2.2.2.1 q.2.1
      rcases this with x | x
      · exact q.2.2 x
      · have x3 := x.2.2
        rw [z, Int.toNat_natCast, kv] at x3
        cases x3
    · rw [if_neg q, if_neg h2]
theorem pby_cov (rv : RV S.2) (rk : RK S.2) {v w : Nat} (hvw : v ≠ w) (hw : (w : Int) < S.2 72 40) (kv : S.2 97 v = 4) (ov : S.2 102 v = -1) {h' : Nat → Nat → Int} (e1 : h' 116 = S.2 116) (e2 : h' 97 = S.2 97) (e3 : h' 102 = fun j => if j = v then (w : Int) else S.2 102 j) (e4 : h' 115 = S.2 115) (e5 : h' 111 = S.2 111) (e6 : h' 72 52 = S.2 72 52) (u : Nat) (y : Int) : pby h' u y = if u = w then pby S.2 w y + pby S.2 v y else if u = v then 0 else pby S.2 u y := by
  have hp : pin h' = pin S.2 := pin_fr e4
  have hn : nClaims h' = nClaims S.2 := by unfold nClaims; rw [e6]
  have hnc := rk.nC
  have key : ∀ c, c < nClaims S.2 → (cby h' c = (u : Int) ↔ if u = w then (cby S.2 c = (w : Int) ∨ cby S.2 c = (v : Int)) else if u = v then False else cby S.2 c = (u : Int)) := by
    intro c hc
    rw [cby_cov rv rk hw kv ov e1 e2 e3 (by first | decide | omega)]
    by_cases q1 : cby S.2 c = (v : Int)
    · rw [if_pos q1]
      by_cases q2 : u = w
      · rw [if_pos q2]
        exact ⟨fun _ => Or.inr q1, fun _ => by omega⟩
      · rw [if_neg q2]
        by_cases q3 : u = v
        · rw [if_pos q3]
          exact ⟨fun z => by omega, False.elim⟩
        · rw [if_neg q3]
          exact ⟨fun z => by omega, fun z => by omega⟩
    · rw [if_neg q1]
      by_cases q2 : u = w
      · rw [if_pos q2]
        exact ⟨fun z => Or.inl (by first | decide | omega), fun z => by rcases z with z | z <;> omega⟩
      · rw [if_neg q2]
        by_cases q3 : u = v
        · rw [if_pos q3]
          exact ⟨fun z => by omega, False.elim⟩
        · rw [if_neg q3]
  unfold pby
  rw [hp, hn, e5]
  by_cases q2 : u = w
  · rw [if_pos q2, ← sm_add]
    refine sm_congr (fun c hc => ?_)
    have k := key c hc
    rw [if_pos q2] at k
    by_cases p1 : pin S.2 c y = true
    · by_cases p2 : cby S.2 c = (w : Int)
      · rw [if_pos ⟨p1, k.mpr (Or.inl p2)⟩, if_pos ⟨p1, p2⟩, if_neg (fun z => hvw (by have := z.2; omega))]
        omega
      · by_cases p3 : cby S.2 c = (v : Int)
        · rw [if_pos ⟨p1, k.mpr (Or.inr p3)⟩, if_neg (fun z => p2 z.2), if_pos ⟨p1, p3⟩]
          omega
        · rw [if_neg (fun z => by rcases k.mp z.2 with x | x <;> contradiction), if_neg (fun z => p2 z.2), if_neg (fun z => p3 z.2)]
          omega
    · rw [if_neg (fun z => p1 z.1), if_neg (fun z => p1 z.1), if_neg (fun z => p1 z.1)]
      omega
  · rw [if_neg q2]
    by_cases q3 : u = v
    · rw [if_pos q3]
      refine Eq.trans (sm_congr (g := fun _ => 0) (fun c hc => ?_)) (sm_zero _)
      have k := key c hc
      rw [if_neg q2, if_pos q3] at k
      exact if_neg (fun z => k.mp z.2)
    · rw [if_neg q3]
      refine sm_congr (fun c hc => ?_)
      have k := key c hc
      rw [if_neg q2, if_neg q3] at k
      by_cases p1 : pin S.2 c y = true ∧ cby S.2 c = (u : Int)
      · rw [if_pos p1, if_pos ⟨p1.1, k.mpr p1.2⟩]
      · rw [if_neg p1, if_neg (fun z => p1 ⟨z.1, k.mp z.2⟩)]

/-- the advance v is covered by the vote w -/
theorem Inv.cov (H : Inv S) {v w y : Nat} (hv : (v : Int) < S.2 72 40) (hw : (w : Int) < S.2 72 40) (kv : S.2 97 v = 4) (kw : S.2 97 w = 0) (ov : S.2 102 v = -1) (hy : S.2 100 v = y) (hS : S'.1 = S.1)
    (hF : ∀ a, 151 ≤ a → a ≠ auA S v → a ≠ spA S v → a ≠ spA S w → (∀ c : Nat, (c : Int) < S.2 72 52 → a ≠ clA S c) → S'.2 a = S.2 a) (hc : ∀ a, a < 151 → a ≠ 102 → a ≠ 103 → S'.2 a = S.2 a) (h102 : S'.2 102 = fun j => if j = v then (w : Int) else S.2 102 j) (h103 : ∀ j, j ≠ v → S'.2 103 j = S.2 103 j)
    (hO : ∀ k, k ≠ 8 → k ≠ 9 → S'.2 (auA S v) k = S.2 (auA S v) k) (h8 : S'.2 (auA S v) 8 = w) (h9 : S'.2 (auA S v) 9 = S'.2 103 v) (hsv : ∀ j, S'.2 (spA S v) j = if j = y then 0 else S.2 (spA S v) j) (hsw : ∀ j, S'.2 (spA S w) j = if j = y then S.2 (spA S w) y + S.2 (spA S v) y else S.2 (spA S w) j)
    (hcl : ∀ c : Nat, (c : Int) < S.2 72 52 → ∀ k, S'.2 (clA S c) k = if k = 9 ∧ S.2 (clA S c) 9 = v then (w : Int) else S.2 (clA S c) k) : Inv S' := by
  obtain ⟨i1, gt, gc, gx, gb, gp, gl, gv, gk, gu, gw, gn⟩ := H
  have hvw : v ≠ w := fun z => by
    rw [z, kw] at kv
    cases kv
  have hov := gv.ob hv
  have C : ∀ a, a < 102 ∨ (103 < a ∧ a < 151) → S'.2 a = S.2 a := fun a q => hc a (by first | decide | omega) (by first | decide | omega) (by first | decide | omega)
  have hFx : Fx (fun a => a = auA S v ∨ a = spA S v ∨ a = spA S w ∨ ∃ c : Nat, (c : Int) < S.2 72 52 ∧ a = clA S c) S S' := ⟨by rw [hS]; exact Nat.le_refl _, fun a q1 q2 => ⟨by rw [hS], fun q => hF a q1 (fun z => q (Or.inl z)) (fun z => q (Or.inr (Or.inl z))) (fun z => q (Or.inr (Or.inr (Or.inl z)))) (fun c h z => q (Or.inr (Or.inr (Or.inr ⟨c, h, z⟩))))⟩⟩
  have hX : Xt (fun a => a = auA S v ∨ a = spA S v ∨ a = spA S w ∨ ∃ c : Nat, (c : Int) < S.2 72 52 ∧ a = clA S c) S := by
    rintro a (rfl | rfl | rfl | ⟨c, h, rfl⟩)
    · rw [hov.2.2]; omega
    · rw [(gv.2.2.2.1 v hv).2.1.2.2]; omega
    · rw [(gv.2.2.2.1 w hw).2.1.2.2]; omega
    · rw [(gk.ob h).2.2]; omega
  have c15 := C 15 (by first | decide | omega)
  have c72 := C 72 (by first | decide | omega)
  have hm : HM S.2 S'.2 := by
    unfold HM
    rw [c72]
    omega
  have eau : ∀ u, auA S' u = auA S u := fun u => by unfold auA; rw [C 37 (by first | decide | omega)]
  have nau : ∀ u : Nat, (u : Int) < S.2 72 40 → u ≠ v → S'.2 (auA S u) = S.2 (auA S u) := fun u hu e => hF _ (gv.ob hu).1 (fun z => e (auA_inj gv hu hv z)) (au_sp gv hu hv) (au_sp gv hu hw) (fun c h => (au_cl gv gk hu h).1)
  have esp : ∀ u : Nat, (u : Int) < S.2 72 40 → spA S' u = spA S u := fun u hu => by
    unfold spA
    rw [eau]
    by_cases e : u = v
    · subst e
      rw [hO 13 (by decide) (by decide)]
    · rw [nau u hu e]
  have hp := pby_cov gv.1 gk.1 hvw hw kv ov (h' := S'.2) (C _ (by first | decide | omega)) (C _ (by first | decide | omega)) h102 (C _ (by first | decide | omega)) (C _ (by first | decide | omega)) (by rw [c72])
  have hq : pct S'.2 = pct S.2 := pct_fr (C _ (by first | decide | omega)) (C _ (by first | decide | omega)) (C _ (by first | decide | omega)) (by rw [c72])
  have hcb : ∀ c : Nat, (c : Int) < S.2 72 52 → cby S'.2 c = if cby S.2 c = v then (w : Int) else cby S.2 c := fun c h => cby_cov gv.1 gk.1 hw kv ov (C _ (by first | decide | omega)) (C _ (by first | decide | omega)) h102 h
  refine ⟨by rw [hS]; exact i1, gt.fr (by rw [c15]) (by rw [c72]), gc.fr (by rw [c15]) (by rw [c72]), gx.fr (by rw [c15]) (by rw [c72]), gb.fr (by rw [c15]) (by rw [c72]) (C _ (by first | decide | omega)) (C _ (by first | decide | omega)), gp.fr (by rw [c72]) (by rw [c72]) (fun a q => C a (by first | decide | omega)), gl.fx hFx hX (fun a q => C a (by first | decide | omega)) (by rw [c72]) (fun t x _ q => q.cells (fun a q1 q2 => C a (by first | decide | omega))), ?_, ?_, gu.fr (by rw [c72]) (by rw [C 50 (by first | decide | omega)]) (by rw [C 50 (by first | decide | omega)]) (fun a q => C a (by first | decide | omega)), gw.fr (by rw [c72]) (by rw [c72]) (by rw [C 54 (by first | decide | omega)]) (by rw [C 54 (by first | decide | omega)]) (fun a q => C a (by first | decide | omega)), gn.fr (by rw [c72]) (by rw [c72]) (by rw [c72]) (by rw [C 63 (by first | decide | omega)]) (by rw [C 63 (by first | decide | omega)]) (by rw [C 63 (by first | decide | omega)]) (fun a q => C a (by first | decide | omega))⟩
  · obtain ⟨h1, h2, h3, h4, h5, h6, h7'⟩ := gv
    have gv0 : GV S := ⟨h1, h2, h3, h4, h5, h6, h7'⟩
    unfold GV
    rw [hq, C 36 (by first | decide | omega), c72, C 38 (by first | decide | omega), C 39 (by first | decide | omega), C 40 (by first | decide | omega), C 41 (by first | decide | omega), C 42 (by first | decide | omega), C 124 (by first | decide | omega), C 125 (by first | decide | omega), C 126 (by first | decide | omega), C 127 (by first | decide | omega)]
    refine ⟨?_, h2, h3, fun u hu => ?_, fun u x hu hx q => ?_, h6, h7'⟩
    · obtain ⟨g1, g2, g3, g4⟩ := h1
      have o2 : ∀ j, S'.2 102 j = if j = v then (w : Int) else S.2 102 j := fun j => by rw [h102]
      unfold RV
      rw [c72, C 97 (by first | decide | omega), C 98 (by first | decide | omega), C 99 (by first | decide | omega), C 100 (by first | decide | omega), C 104 (by first | decide | omega), C 105 (by first | decide | omega), C 106 (by first | decide | omega), C 107 (by first | decide | omega), C 124 (by first | decide | omega), C 125 (by first | decide | omega), C 126 (by first | decide | omega), C 127 (by first | decide | omega)]
      refine ⟨g1, fun u hu => ?_, g3, g4⟩
      rw [o2 u]
      by_cases e : u = v
      · subst e
        rw [if_pos rfl]
        obtain ⟨f1, f2, f3, f4, f5, f6, f7, f8⟩ := g2 u hu
        refine ⟨f1, f2, f3, f4, f5, fun z => ?_, fun _ => Or.inr ⟨by omega, hw, by rw [Int.toNat_natCast]; exact kw⟩, fun _ z => absurd kv z⟩
        rw [kv] at z
        cases z
      · rw [if_neg e]
        exact g2 u hu
    · by_cases e : u = v
      · subst e
        have A := h4 u hu
        unfold AV at A ⊢
        rw [eau, esp u hu, h8, h9, h102, hO 0 (by decide) (by decide), hO 1 (by decide) (by decide), hO 2 (by decide) (by decide), hO 3 (by decide) (by decide), hO 4 (by decide) (by decide), hO 5 (by decide) (by decide), hO 6 (by decide) (by decide), hO 7 (by decide) (by decide), hO 10 (by decide) (by decide), hO 11 (by decide) (by decide), hO 12 (by decide) (by decide), C 97 (by first | decide | omega), C 98 (by first | decide | omega), C 99 (by first | decide | omega), C 100 (by first | decide | omega), C 101 (by first | decide | omega), C 104 (by first | decide | omega), C 105 (by first | decide | omega), C 106 (by first | decide | omega), C 107 (by first | decide | omega)]
        obtain ⟨a1, a2, a3, a4, a5, a6, a7, a8, a9, a10, a11, a12, a13, a14, a15, a16⟩ := A
        have k1 : ¬ S.2 97 u = 1 := by rw [kv]; decide
        refine ⟨a1.eq hS, a2.eq hS, a3, a4, a5, a6, a7, ?_, ?_, a10, rfl, a12, a13, a14, a15.fx hFx hX (fun x q => q.cells (fun a q1 q2 => C a (by first | decide | omega))), fun _ j hj => ?_⟩
        · rw [if_neg k1]
          rw [if_neg k1] at a8
          exact a8
        · rw [if_neg k1]
          exact (if_pos rfl).symm
        · have z := a16 k1 j hj
          rw [hp u j, if_neg hvw, if_pos rfl, hsv j]
          refine ⟨?_, fun _ _ => rfl⟩
          by_cases ej : j = y
          · rw [if_pos ej]
          · rw [if_neg ej, z.1]
            exact z.2 kv (by first | decide | omega)
      · by_cases ew : u = w
        · subst ew
          have A := h4 u hu
          have Av := h4 v hv
          have o2 : S'.2 102 u = S.2 102 u := by rw [h102]; exact if_neg e
          unfold AV at A ⊢
          rw [eau, esp u hu, nau u hu e, o2, h103 u e, C 97 (by first | decide | omega), C 98 (by first | decide | omega), C 99 (by first | decide | omega), C 100 (by first | decide | omega), C 101 (by first | decide | omega), C 104 (by first | decide | omega), C 105 (by first | decide | omega), C 106 (by first | decide | omega), C 107 (by first | decide | omega)]
          obtain ⟨a1, a2, a3, a4, a5, a6, a7, a8, a9, a10, a11, a12, a13, a14, a15, a16⟩ := A
          obtain ⟨-, -, -, -, -, -, -, -, -, -, -, -, -, -, -, b16⟩ := Av
          have k1 : ¬ S.2 97 u = 1 := by rw [kw]; decide
          have k1v : ¬ S.2 97 v = 1 := by rw [kv]; decide
          refine ⟨a1.eq hS, a2.eq hS, a3, a4, a5, a6, a7, a8, a9, a10, a11, a12, a13, a14, a15.fx hFx hX (fun x q => q.cells (fun a q1 q2 => C a (by first | decide | omega))), fun _ j hj => ?_⟩
          have z := a16 k1 j hj
          have zv := b16 k1v j hj
          rw [hp u j, if_pos rfl, hsw j]
          refine ⟨?_, fun z4 => by rw [kw] at z4; cases z4⟩
          by_cases ej : j = y
          · rw [if_pos ej, ← ej, z.1, zv.1]
          · rw [if_neg ej, z.1, zv.2 kv (by first | decide | omega), Int.add_zero]
        · refine ((h4 u hu).fx hFx hX ?_ ?_ (by rw [C 37 (by first | decide | omega)]) (fun a q1 q2 => ?_) (fun _ j _ => by rw [hp u j, if_neg ew, if_neg e]) (fun x q => q.cells (fun a q1 q2 => C a (by first | decide | omega)))).1
          · rintro (z | z | z | ⟨c, h, z⟩)
            · exact e (auA_inj gv0 hu hv z)
            · exact au_sp gv0 hu hv z
            · exact au_sp gv0 hu hw z
            · exact (au_cl gv0 gk hu h).1 z
          · rintro (z | z | z | ⟨c, h, z⟩)
            · exact au_sp gv0 hv hu z.symm
            · exact e (h5 u v hu hv (Or.inr z))
            · exact ew (h5 u w hu hw (Or.inr z))
            · exact (au_cl gv0 gk hu h).2 z
          · by_cases q3 : a = 102
            · rw [q3, h102]
              exact if_neg e
            · by_cases q4 : a = 103
              · rw [q4, h103 u e]
              · rw [C a (by first | decide | omega)]
    · rw [eau, eau, esp u hu, esp x hx] at q
      exact h5 u x hu hx q
  · obtain ⟨h1, h2, h3, h4, h5, h6, h7', h8', h9', h10', h11'⟩ := gk
    have ecl : ∀ c, clA S' c = clA S c := fun c => by unfold clA; rw [C 44 (by first | decide | omega)]
    unfold GK nClaims
    rw [C 43 (by first | decide | omega), c72, C 45 (by first | decide | omega), C 46 (by first | decide | omega), C 47 (by first | decide | omega), C 48 (by first | decide | omega), C 49 (by first | decide | omega), C 111 (by first | decide | omega), C 115 (by first | decide | omega), C 117 (by first | decide | omega), C 146 (by first | decide | omega), C 147 (by first | decide | omega), C 148 (by first | decide | omega), C 149 (by first | decide | omega)]
    refine ⟨h1.fr (fun a q => C a (by first | decide | omega)) (fun k _ => by rw [c72]) hm, h2, h3, h4, fun c hc2 => ?_, fun c e q1 q2 q => ?_, h7', h8', h9', h10', h11'⟩
    · have A := h5 c hc2
      unfold AK at A ⊢
      obtain ⟨b1, b2, b3, b4, b5, b6, b7, b8, b9, b10, b11, b12, b13, b14, b15, b16⟩ := A
      rw [ecl]
      have hk : ∀ k, k ≠ 9 → S'.2 (clA S c) k = S.2 (clA S c) k := fun k q => by rw [hcl c hc2 k, if_neg (fun z => q z.1)]
      rw [hk 0 (by decide), hk 1 (by decide), hk 2 (by decide), hk 3 (by decide), hk 4 (by decide), hk 5 (by decide), hk 6 (by decide), hk 7 (by decide), hk 8 (by decide), hk 10 (by decide), hk 11 (by decide), hk 12 (by decide), hk 13 (by decide), hk 14 (by decide), hcl c hc2 9, hcb c hc2, b11, C 108 (by first | decide | omega), C 109 (by first | decide | omega), C 110 (by first | decide | omega), C 111 (by first | decide | omega), C 112 (by first | decide | omega), C 113 (by first | decide | omega), C 114 (by first | decide | omega), C 115 (by first | decide | omega), C 116 (by first | decide | omega), C 118 (by first | decide | omega), C 119 (by first | decide | omega), C 120 (by first | decide | omega), C 121 (by first | decide | omega), C 122 (by first | decide | omega), C 123 (by first | decide | omega)]
      refine ⟨b1.eq hS, b2, b3, b4, b5, b6, b7, b8, b9, b10, ?_, b12, b13, b14, b15, b16⟩
      by_cases q : cby S.2 c = (v : Int)
      · rw [if_pos ⟨rfl, q⟩, if_pos q]
      · rw [if_neg (fun z => q z.2), if_neg q]
    · rw [ecl, ecl] at q
      exact h6 c e q1 q2 q
end
end
section
-- 74.ocover
/-! cover: the call -/
section
variable {L : Nat} {xs : Nat → Int} {d : Nat} {S T U S' W : AH}
theorem o_cover (H : Inv S) (p q : Int) : Ok L xs 18 254 [vi p, vi q] S := by
  have gv := H.gv
  have gk := H.gk
  have ht := H.gt
  by_cases hp : 0 ≤ p ∧ p < S.2 72 40
  · by_cases hw : 0 ≤ q ∧ q < S.2 72 40
    · obtain ⟨v, hv⟩ := Int.eq_ofNat_of_zero_le hp.1
      subst hv
      obtain ⟨w, hw2⟩ := Int.eq_ofNat_of_zero_le hw.1
      subst hw2
      obtain ⟨a1, a2, a3, a4, a5, a6, a7, a8, a9, a10, a11, a12, a13, a14, a15, a16⟩ := gv.2.2.2.1 v hp.2
      obtain ⟨b1, b2, b3, b4, b5, b6, b7, b8, b9, b10, b11, b12, b13, b14, b15, b16⟩ := gv.2.2.2.1 w hw.2
      obtain ⟨r1, r2, r3, r4, r5, r6, r7, r8⟩ := gv.1.2.1 v hp.2
      obtain ⟨s1, s2, s3, s4, s5, s6, s7, s8⟩ := gv.1.2.1 w hw.2
      have h5 := a1.1
      have h6 := b1.1
      have hn80 := gv.1.1
      have hqv : (0 : Int) ≤ (v : Int) ∧ (v : Int) < 80 := by omega
      have hqw : (0 : Int) ≤ (w : Int) ∧ (w : Int) < 80 := by omega
      obtain ⟨y, hy⟩ := Int.eq_ofNat_of_zero_le r4.1
      have hy10 : y < 10 := by omega
      obtain ⟨N, hN⟩ := Int.eq_ofNat_of_zero_le gk.1.1.1
      generalize hP : (S.2 97 v = 4 ∧ S.2 97 w = 0 ∧ S.2 102 v = -1 ∧ S.2 101 w = -1 ∧ S.2 100 w = S.2 100 v ∧ uN S.2 (S.2 98 v) (S.2 98 w) = true ∧ ¬ lft S.2 w y < pby S.2 v y) = P
      have instP : Decidable P := Classical.propDecidable _
      -- the class
      have X18 : (¬ P → ev (WK L xs) 200 18 [vr 15, vi (v : Int), vi (w : Int)] S = some (0, S)) ∧ (P → ∃ T, ev (WK L xs) 200 18 [vr 15, vi (v : Int), vi (w : Int)] S = some (1, T) ∧ T.1 = S.1 ∧ (∀ a, a ≠ auA S v → a ≠ spA S v → a ≠ spA S w → (∀ e, e < N → a ≠ clA S e) → T.2 a = S.2 a) ∧ (∀ e, e < N → ∀ k, T.2 (clA S e) k = if k = 9 ∧ S.2 (clA S e) 9 = (v : Int) then (w : Int) else S.2 (clA S e) k) ∧
          (∀ k, T.2 (auA S v) k = if k = 9 then S.2 72 2 else if k = 8 then (w : Int) else S.2 (auA S v) k) ∧ (∀ j, T.2 (spA S v) j = if j = y then 0 else S.2 (spA S v) j) ∧ (∀ j, T.2 (spA S w) j = if j = y then S.2 (spA S w) y + S.2 (spA S v) y else S.2 (spA S w) j)) := by
        subst hP
        rw [q_18, x_au gv hp.2, bR, x_au gv hw.2, bR, Int.toNat_natCast, Int.toNat_natCast, if_neg (by first | decide | omega), g14a a1, if_neg (by first | decide | omega), g14a b1]
        simp only [k11 a1, k11 b1, rdvD h5, rdvD h6, a3, b3]
        by_cases c1 : S.2 97 v = 4
        rotate_left
        · rw [if_neg c1]
          exact ⟨fun _ => rfl, fun z => absurd z.1 c1⟩
        rw [if_pos c1]
        by_cases c2 : S.2 97 w = 0
        rotate_left
        · rw [if_neg c2]
          exact ⟨fun _ => rfl, fun z => absurd z.2.1 c2⟩
        have nk1 : ¬ S.2 97 v = 1 := by rw [c1]; decide
        have nk2 : ¬ S.2 97 w = 1 := by rw [c2]; decide
        rw [if_pos c2, a9, if_neg nk1]
        by_cases c3 : S.2 102 v = -1
        rotate_left
        · rw [if_neg c3]
          exact ⟨fun _ => rfl, fun z => absurd z.2.2.1 c3⟩
        rw [if_pos c3, b10]
        by_cases c4 : S.2 101 w = -1
        rotate_left
        · rw [if_neg c4]
          exact ⟨fun _ => rfl, fun z => absurd z.2.2.2.1 c4⟩
        rw [if_pos c4, b6, a6]
        by_cases c5 : S.2 100 w = S.2 100 v
        rotate_left
        · rw [if_neg c5]
          exact ⟨fun _ => rfl, fun z => absurd z.2.2.2.2.1 c5⟩
        rw [if_pos c5, a4, b4, x_isUnder H.gp, bR, hy]
        simp only [bi_0]
        by_cases c6 : uN S.2 (S.2 98 v) (S.2 98 w) = true
        rotate_left
        · rw [if_pos (fun z => c6 z.2.2)]
          exact ⟨fun _ => rfl, fun z => absurd z.2.2.2.2.2.1 c6⟩
        rw [if_neg (fun z => z ⟨r2, s2, c6⟩), x_leftOf H hw.2 (by first | decide | omega), bR, k11b a1, x_spentIn gv hp.2 nk1 (by first | decide | omega), bR]
        simp only [lc_lt]
        by_cases c7 : lft S.2 w y < pby S.2 v y
        · rw [if_pos c7]
          exact ⟨fun _ => rfl, fun z => absurd c7 z.2.2.2.2.2.2⟩
        have hpv : S.2 (spA S v) y = pby S.2 v y := (a16 nk1 y hy10).1
        have hpw : S.2 (spA S w) y = pby S.2 w y := (b16 nk2 y hy10).1
        have bdv : 0 ≤ pby S.2 v y ∧ pby S.2 v y ≤ 300000000000 := smC_bd gk.1 (P := fun c => pin S.2 c y = true ∧ cby S.2 c = v) (Nat.le_refl _)
        have bdw : 0 ≤ pby S.2 w y ∧ pby S.2 w y ≤ 300000000000 := smC_bd gk.1 (P := fun c => pin S.2 c y = true ∧ cby S.2 c = w) (Nat.le_refl _)
        have hvw : v ≠ w := fun z => by
          rw [z, c2] at c1
          cases c1
        have n1 := au_sp gv hp.2 hw.2
        have n2 := au_sp gv hp.2 hp.2
        have n3 : spA S v ≠ spA S w := fun z => hvw (gv.2.2.2.2.1 v w hp.2 hw.2 (Or.inr z))
        have n4 := a2.1
        have n5 := b2.1
        rw [if_neg c7, k11b a1, x_spentIn gv hp.2 nk1 (by first | decide | omega), bR, k11a b1, x_spend b1 b2 rfl hy10, bR, ← hpv, w64e (by first | decide | omega) (by first | decide | omega)]
        generalize hA : wr S (spA S w) y (S.2 (spA S w) y + S.2 (spA S v) y) = A
        have oA1 : isO A (auA S v) 11 14 := a1.eq (by rw [← hA]; rfl)
        have oA2 : isO A (spA S v) 3 10 := a2.eq (by rw [← hA]; rfl)
        have cA : ∀ a, a ≠ spA S w → A.2 a = S.2 a := fun a z => by rw [← hA, wr_c z]
        have x71 : ev (WK L xs) 199 71 [vr (auA S v), vi (y : Int)] A = some (S.2 (spA S v) y, A) := by
          have e13 : (A.2 (auA S v) 13).toNat = spA S v := by rw [cA _ n1]; rfl
          rw [q_71, x_isYear, bR]
          simp only [bi_0]
          rw [if_neg (by first | decide | omega), k11 oA1, rdvD h5, e13, shpD n4, oA2.2.2, rdvD n4, Int.toNat_natCast, if_pos (show (0 : Int) ≤ (y : Int) ∧ (y : Int) < ((3, 10) : Nat × Nat).2 by show (0 : Int) ≤ (y : Int) ∧ (y : Int) < ((10 : Nat) : Int); omega), cA _ n3]
          rfl
        rw [k11b oA1, x71, bR, k11a oA1, x_spend oA1 oA2 (by rw [cA _ n1]; rfl) hy10, bR, cA _ n3, w64_ar, show S.2 (spA S v) y + -S.2 (spA S v) y = 0 by omega, show w64 0 = 0 from rfl]
        generalize hB : wr A (spA S v) y 0 = B
        have oB : isO B (auA S v) 11 14 := oA1.eq (by rw [← hB]; rfl)
        have e1 : ∀ a, a ≠ spA S w → a ≠ spA S v → B.2 a = S.2 a := fun a z1 z2 => by rw [← hB, wr_c z2, cA a z1]
        rw [k11w oB, k11w (show isO (wr B (auA S v) 8 (w : Int)) (auA S v) 11 14 from oB), wr_c (show (15 : Nat) ≠ auA S v by omega), e1 15 (by first | decide | omega) (by first | decide | omega), ht.1]
        generalize hD : wr (wr B (auA S v) 8 (w : Int)) (auA S v) 9 (S.2 72 2) = D
        have hD1 : D.1 = S.1 := by rw [← hD, ← hB, ← hA]; rfl
        have dA : ∀ a, a ≠ auA S v → a ≠ spA S w → a ≠ spA S v → D.2 a = S.2 a := fun a z0 z1 z2 => by rw [← hD, wr_c z0, wr_c z0, e1 a z1 z2]
        have hob : ∀ e, e < N → isO S (clA S e) 12 15 := fun e he => gk.ob (by first | decide | omega)
        have lo : ∀ a, a < 151 → D.2 a = S.2 a := fun a z => dA a (by first | decide | omega) (by first | decide | omega) (by first | decide | omega)
        have dC : ∀ e, e < N → D.2 (clA S e) = S.2 (clA S e) := fun e he => dA _ (au_cl gv gk hp.2 (by first | decide | omega)).1.symm (au_cl gv gk hw.2 (by first | decide | omega)).2.symm (au_cl gv gk hp.2 (by first | decide | omega)).2.symm
        obtain ⟨T, t1, t2, t3, t4⟩ := x_rcL (L := L) (xs := xs) (d := 197) gk (B := D) (p := v) (w := w) hN (lo 43 (by decide)) (lo 44 (by decide)) N 0 D (by first | decide | omega) hD1 (fun _ _ => rfl) (fun e he k => by rw [dC e he, if_neg (by first | decide | omega)])
        refine ⟨fun z => absurd ⟨c1, c2, c3, c4, c5.trans hy, c6, by rw [hpv]; exact c7⟩ z, fun _ => ⟨T, ?_, t2, fun a z1 z2 z3 z4 => ?_, t4, fun k => ?_, fun j => ?_, fun j => ?_⟩⟩
        · rw [q_81]
          rw [show LQ (WK L xs) (ev (WK L xs) 198) 81 2 [some (vr 43), some (vi (v : Int)), some (vi (w : Int)), some (vi 0), none] [] D = some (0, T) from t1, bR]
        · rw [t3 a z4, dA a z1 z3 z2]
        · rw [t3 _ (fun e he => (au_cl gv gk hp.2 (by first | decide | omega)).1), ← hD, wr_f, wr_f, e1 _ n1 n2]
        · rw [t3 _ (fun e he => (au_cl gv gk hp.2 (by first | decide | omega)).2), ← hD, wr_c n2.symm, wr_c n2.symm, ← hB, wr_f, cA _ n3]
        · rw [t3 _ (fun e he => (au_cl gv gk hw.2 (by first | decide | omega)).2), ← hD, wr_c n1.symm, wr_c n1.symm, ← hB, wr_c n3.symm, ← hA, wr_f]
      -- the reference
      have M254 : ∀ W : AH, (∀ a, 72 ≤ a → a < 151 → W.2 a = S.2 a) → ev (WK L xs) 200 254 [vr 72, vi (v : Int), vi (w : Int)] W = if P then some (1, wr (wr W 102 v (w : Int)) 103 v (S.2 72 2)) else some (0, W) := by
        intro W hW
        obtain ⟨rk, rv, rp⟩ := H.ref (W := W) (fun a q1 q2 _ => hW a q1 q2)
        have w72 := hW 72 (by decide) (by decide)
        have hpW : (v : Int) < W.2 72 40 := by rw [w72]; exact hp.2
        have hwW : (w : Int) < W.2 72 40 := by rw [w72]; exact hw.2
        have elf : lft W.2 = lft S.2 := lft_fr (fun a ha => hW a (by first | decide | omega) (by first | decide | omega)) (by rw [w72]) (by rw [w72])
        have epb : pby W.2 = pby S.2 := pby_fr (hW _ (by decide) (by decide)) (hW _ (by decide) (by decide)) (hW _ (by decide) (by decide)) (hW _ (by decide) (by decide)) (hW _ (by decide) (by decide)) (by rw [w72])
        have eun : uN W.2 = uN S.2 := by
          funext a b
          unfold uN
          rw [hW 74 (by decide) (by decide)]
        subst hP
        rw [q_254, m_isAu rv, bR]
        simp only [bi_0]
        rw [w72, if_neg (fun z => z hp), m_isAu rv, bR]
        simp only [bi_0]
        rw [w72, if_neg (fun z => z hw)]
        simp only [if_pos hqv, if_pos hqw, Int.toNat_natCast]
        rw [hW 97 (by decide) (by decide), hW 98 (by decide) (by decide), hW 100 (by decide) (by decide), hW 101 (by decide) (by decide), hW 102 (by decide) (by decide)]
        by_cases c1 : S.2 97 v = 4
        rotate_left
        · rw [if_neg c1, if_neg (fun z => c1 z.1)]
        rw [if_pos c1]
        by_cases c3 : S.2 102 v = -1
        rotate_left
        · rw [if_neg c3, if_neg (fun z => c3 z.2.2.1)]
        rw [if_pos c3]
        by_cases c2 : S.2 97 w = 0
        rotate_left
        · rw [if_neg c2, if_neg (fun z => c2 z.2.1)]
        rw [if_pos c2]
        by_cases c4 : S.2 101 w = -1
        rotate_left
        · rw [if_neg c4, if_neg (fun z => c4 z.2.2.2.1)]
        rw [if_pos c4]
        by_cases c5 : S.2 100 w = S.2 100 v
        rotate_left
        · rw [if_neg c5, if_neg (fun z => c5 z.2.2.2.2.1)]
        rw [if_pos c5, m_isUnder rp _ _ r2.1 (by rw [w72]; exact r2.2) s2.1, bR]
        simp only [bi_0]
        rw [eun]
        by_cases c6 : uN S.2 (S.2 98 v) (S.2 98 w) = true
        rotate_left
        · rw [if_pos c6, if_neg (fun z => c6 z.2.2.2.2.2.1)]
        rw [if_neg (fun z => z c6), hW 100 (by decide) (by decide), m_leftOf rk rv rp hwW, bR, hW 100 (by decide) (by decide), m_paidBy rk rv, bR, elf, epb]
        simp only [lc_lt]
        by_cases c7 : lft S.2 w y < pby S.2 v y
        · rw [if_pos (show lft S.2 w (S.2 100 v) < pby S.2 v (S.2 100 v) by rw [hy]; exact c7), if_neg (fun z => z.2.2.2.2.2.2 c7)]
        rw [if_neg (show ¬ lft S.2 w (S.2 100 v) < pby S.2 v (S.2 100 v) by rw [hy]; exact c7), if_pos (show S.2 97 v = 4 ∧ S.2 97 w = 0 ∧ S.2 102 v = -1 ∧ S.2 101 w = -1 ∧ S.2 100 w = S.2 100 v ∧ uN S.2 (S.2 98 v) (S.2 98 w) = true ∧ ¬ lft S.2 w y < pby S.2 v y from ⟨c1, c2, c3, c4, c5, c6, c7⟩), w72]
      by_cases hPP : P
      · obtain ⟨T, t0, t1, t2, t3, t4, t5, t6⟩ := X18.2 hPP
        have hob : ∀ e, e < N → isO S (clA S e) 12 15 := fun e he => gk.ob (by first | decide | omega)
        have lo : ∀ a, a < 151 → T.2 a = S.2 a := fun a z => t2 a (by first | decide | omega) (by have := a2.1; omega) (by have := b2.1; omega) (fun e he => by have := (hob e he).1; omega)
        have m := M254 T (fun a _ z => lo a z)
        rw [if_pos hPP] at m
        refine ⟨1, T, _, t0, m, ?_, Gw.of t1⟩
        rw [← hP] at hPP
        obtain ⟨c1, c2, c3, c4, c5, c6, c7⟩ := hPP
        have n4 := a2.1
        have n5 := b2.1
        refine H.cov (y := y) hp.2 hw.2 c1 c2 c3 hy t1 (fun a z0 z1 z2 z3 z4 => ?_) (fun a z1 z2 z3 => ?_) ?_ (fun j z => ?_) (fun k z1 z2 => ?_) ?_ ?_ (fun j => ?_) (fun j => ?_) (fun c hc k => ?_)
        · rw [wr_c (by first | decide | omega), wr_c (by first | decide | omega), t2 a z1 z2 z3 (fun e he => z4 e (by first | decide | omega))]
        · rw [wr_c z3, wr_c z2, lo a z1]
        · rw [wr_c (by decide), wr_g, lo 102 (by decide)]
        · rw [wr_f, if_neg z, wr_c (by decide), lo 103 (by decide)]
        · rw [wr_c (by first | decide | omega), wr_c (by first | decide | omega), t4 k, if_neg z2, if_neg z1]
        · rw [wr_c (by first | decide | omega), wr_c (by first | decide | omega), t4 8, if_neg (by decide), if_pos rfl]
        · rw [wr_c (by first | decide | omega), wr_c (by first | decide | omega), t4 9, if_pos rfl, wr_f, if_pos rfl]
        · rw [wr_c (by first | decide | omega), wr_c (by first | decide | omega), t5 j]
        · rw [wr_c (by first | decide | omega), wr_c (by first | decide | omega), t6 j]
        · have := (gk.ob hc).1
          rw [wr_c (by first | decide | omega), wr_c (by first | decide | omega), t3 c (by first | decide | omega) k]
      · have m := M254 S (fun _ _ _ => rfl)
        rw [if_neg hPP] at m
        exact ⟨0, S, S, X18.1 hPP, m, H, Gw.rf⟩
    · refine Ok.same (r := 0) H ?_ ?_
      · obtain ⟨v, hv⟩ := Int.eq_ofNat_of_zero_le hp.1
        subst hv
        have a1 := gv.ob hp.2
        have := a1.1
        rw [q_18, x_au gv hp.2, bR, x_au0 gv hw, bR, Int.toNat_natCast, if_neg (by first | decide | omega), g14a a1, if_pos (by decide)]
      · rw [q_254, m_isAu gv.1, bR]
        simp only [bi_0]
        rw [if_neg (fun z => z hp), m_isAu gv.1, bR]
        simp only [bi_0]
        rw [if_pos hw]
  · refine Ok.same (r := 0) H ?_ ?_
    · have hx : ∃ r, ev (WK L xs) 199 168 [vr 36, vi q] S = some (r, S) := by
        by_cases hw : 0 ≤ q ∧ q < S.2 72 40
        · obtain ⟨w, hw2⟩ := Int.eq_ofNat_of_zero_le hw.1
          subst hw2
          exact ⟨_, x_au gv hw.2⟩
        · exact ⟨_, x_au0 gv hw⟩
      obtain ⟨r, hr⟩ := hx
      rw [q_18, x_au0 gv hp, bR, hr, bR, if_pos (by decide)]
    · rw [q_254, m_isAu gv.1, bR]
      simp only [bi_0]
      rw [if_pos hp]
end
end
section
-- 75.inits
/-! the constructors of what is made between calls -/
theorem zc_70 : csOf 70 = cs_70 := rfl
theorem zr_70 : rtOf 70 = 9 := rfl
theorem zm_70 : mlOf 70 = 8 := rfl
set_option maxRecDepth 100000 in
set_option maxHeartbeats 4000000 in
/-- SupplyBook$Authority.<init>(IIIIILSupplyBook$Text;I)V -/
theorem q_70 (L : Nat) (xs : Nat → Int) (d : Nat) (S : AH) (o : Nat) (p1 : Int) (p2 : Int) (p3 : Int) (p4 : Int) (p5 : Int) (p6 : Nat) (p7 : Int) : ev (WK L xs) (d + 1) 70 [vr o, vi p1, vi p2, vi p3, vi p4, vi p5, vr p6, vi p7] S = (gd (Nat.beq (shp (WK L xs) S o).1 11 && Nat.ble 0 8) (gd (Nat.beq (shp (WK L xs) S o).1 11 && wok (WK L xs) o 7) (gd (Nat.beq (shp (WK L xs) (wr S o 7 (-1 : Int)) o).1 11 && wok (WK L xs) o 8) (gd (Nat.beq (shp (WK L xs) (wr (wr S o 7 (-1 : Int)) o 8 (-1 : Int)) o).1 11 && wok (WK L xs) o 9) (gd (Nat.beq (shp (WK L xs) (wr (wr (wr S o 7 (-1 : Int)) o 8 (-1 : Int)) o 9 (-1 : Int)) o).1 11 && wok (WK L xs) o 10) (gd (Nat.beq (shp (WK L xs) (wr (wr (wr (wr S o 7 (-1 : Int)) o 8 (-1 : Int)) o 9 (-1 : Int)) o 10 (0 : Int)) o).1 11 && wok (WK L xs) o 11) (gd (Nat.beq (shp (WK L xs) (wr (wr (wr (wr (wr S o 7 (-1 : Int)) o 8 (-1 : Int)) o 9 (-1 : Int)) o 10 (0 : Int)) o 11 (0 : Int)) o).1 11 && wok (WK L xs) o 12) (gd (Nat.beq (shp (WK L xs) (nw (wr (wr (wr (wr (wr (wr S o 7 (-1 : Int)) o 8 (-1 : Int)) o 9 (-1 : Int)) o 10 (0 : Int)) o 11 (0 : Int)) o 12 (0 : Int)) 3 10) o).1 11 && wok (WK L xs) o 13) (gd (Nat.beq (shp (WK L xs) (wr (nw (wr (wr (wr (wr (wr (wr S o 7 (-1 : Int)) o 8 (-1 : Int)) o 9 (-1 : Int)) o 10 (0 : Int)) o 11 (0 : Int)) o 12 (0 : Int)) 3 10) o 13 ((wr (wr (wr (wr (wr (wr S o 7 (-1 : Int)) o 8 (-1 : Int)) o 9 (-1 : Int)) o 10 (0 : Int)) o 11 (0 : Int)) o 12 (0 : Int)).1.1 : Int)) o).1 11 && wok (WK L xs) o 0) (gd (Nat.beq (shp (WK L xs) (wr (wr (nw (wr (wr (wr (wr (wr (wr S o 7 (-1 : Int)) o 8 (-1 : Int)) o 9 (-1 : Int)) o 10 (0 : Int)) o 11 (0 : Int)) o 12 (0 : Int)) 3 10) o 13 ((wr (wr (wr (wr (wr (wr S o 7 (-1 : Int)) o 8 (-1 : Int)) o 9 (-1 : Int)) o 10 (0 : Int)) o 11 (0 : Int)) o 12 (0 : Int)).1.1 : Int)) o 0 p1) o).1 11 && wok (WK L xs) o 1) (gd (Nat.beq (shp (WK L xs) (wr (wr (wr (nw (wr (wr (wr (wr (wr (wr S o 7 (-1 : Int)) o 8 (-1 : Int)) o 9 (-1 : Int)) o 10 (0 : Int)) o 11 (0 : Int)) o 12 (0 : Int)) 3 10) o 13 ((wr (wr (wr (wr (wr (wr S o 7 (-1 : Int)) o 8 (-1 : Int)) o 9 (-1 : Int)) o 10 (0 : Int)) o 11 (0 : Int)) o 12 (0 : Int)).1.1 : Int)) o 0 p1) o 1 p2) o).1 11 && wok (WK L xs) o 2) (gd (Nat.beq (shp (WK L xs) (wr (wr (wr (wr (nw (wr (wr (wr (wr (wr (wr S o 7 (-1 : Int)) o 8 (-1 : Int)) o 9 (-1 : Int)) o 10 (0 : Int)) o 11 (0 : Int)) o 12 (0 : Int)) 3 10) o 13 ((wr (wr (wr (wr (wr (wr S o 7 (-1 : Int)) o 8 (-1 : Int)) o 9 (-1 : Int)) o 10 (0 : Int)) o 11 (0 : Int)) o 12 (0 : Int)).1.1 : Int)) o 0 p1) o 1 p2) o 2 p3) o).1 11 && wok (WK L xs) o 3) (gd (Nat.beq (shp (WK L xs) (wr (wr (wr (wr (wr (nw (wr (wr (wr (wr (wr (wr S o 7 (-1 : Int)) o 8 (-1 : Int)) o 9 (-1 : Int)) o 10 (0 : Int)) o 11 (0 : Int)) o 12 (0 : Int)) 3 10) o 13 ((wr (wr (wr (wr (wr (wr S o 7 (-1 : Int)) o 8 (-1 : Int)) o 9 (-1 : Int)) o 10 (0 : Int)) o 11 (0 : Int)) o 12 (0 : Int)).1.1 : Int)) o 0 p1) o 1 p2) o 2 p3) o 3 p4) o).1 11 && wok (WK L xs) o 4) (gd (Nat.beq (shp (WK L xs) (wr (wr (wr (wr (wr (wr (nw (wr (wr (wr (wr (wr (wr S o 7 (-1 : Int)) o 8 (-1 : Int)) o 9 (-1 : Int)) o 10 (0 : Int)) o 11 (0 : Int)) o 12 (0 : Int)) 3 10) o 13 ((wr (wr (wr (wr (wr (wr S o 7 (-1 : Int)) o 8 (-1 : Int)) o 9 (-1 : Int)) o 10 (0 : Int)) o 11 (0 : Int)) o 12 (0 : Int)).1.1 : Int)) o 0 p1) o 1 p2) o 2 p3) o 3 p4) o 4 p5) o).1 11 && wok (WK L xs) o 5) (gd (Nat.beq (shp (WK L xs) (wr (wr (wr (wr (wr (wr (wr (nw (wr (wr (wr (wr (wr (wr S o 7 (-1 : Int)) o 8 (-1 : Int)) o 9 (-1 : Int)) o 10 (0 : Int)) o 11 (0 : Int)) o 12 (0 : Int)) 3 10) o 13 ((wr (wr (wr (wr (wr (wr S o 7 (-1 : Int)) o 8 (-1 : Int)) o 9 (-1 : Int)) o 10 (0 : Int)) o 11 (0 : Int)) o 12 (0 : Int)).1.1 : Int)) o 0 p1) o 1 p2) o 2 p3) o 3 p4) o 4 p5) o 5 (p6 : Int)) o).1 11 && wok (WK L xs) o 6) (some (0, (wr (wr (wr (wr (wr (wr (wr (wr (nw (wr (wr (wr (wr (wr (wr S o 7 (-1 : Int)) o 8 (-1 : Int)) o 9 (-1 : Int)) o 10 (0 : Int)) o 11 (0 : Int)) o 12 (0 : Int)) 3 10) o 13 ((wr (wr (wr (wr (wr (wr S o 7 (-1 : Int)) o 8 (-1 : Int)) o 9 (-1 : Int)) o 10 (0 : Int)) o 11 (0 : Int)) o 12 (0 : Int)).1.1 : Int)) o 0 p1) o 1 p2) o 2 p3) o 3 p4) o 4 p5) o 5 (p6 : Int)) o 6 p7)))))))))))))))))) := by rw [ev_eq, zc_70, zr_70, zm_70]; rfl
theorem zc_77 : csOf 77 = cs_77 := rfl
theorem zr_77 : rtOf 77 = 9 := rfl
theorem zm_77 : mlOf 77 = 7 := rfl
set_option maxRecDepth 100000 in
set_option maxHeartbeats 4000000 in
/-- SupplyBook$Claim.<init>(IIIIIZ)V -/
theorem q_77 (L : Nat) (xs : Nat → Int) (d : Nat) (S : AH) (o : Nat) (p1 : Int) (p2 : Int) (p3 : Int) (p4 : Int) (p5 : Int) (p6 : Int) : ev (WK L xs) (d + 1) 77 [vr o, vi p1, vi p2, vi p3, vi p4, vi p5, vi p6] S = (gd (Nat.beq (shp (WK L xs) S o).1 12 && Nat.ble 0 8) (gd (Nat.beq (shp (WK L xs) S o).1 12 && wok (WK L xs) o 6) (gd (Nat.beq (shp (WK L xs) (wr S o 6 (0 : Int)) o).1 12 && wok (WK L xs) o 7) (gd (Nat.beq (shp (WK L xs) (wr (wr S o 6 (0 : Int)) o 7 (-1 : Int)) o).1 12 && wok (WK L xs) o 8) (gd (Nat.beq (shp (WK L xs) (wr (wr (wr S o 6 (0 : Int)) o 7 (-1 : Int)) o 8 (-1 : Int)) o).1 12 && wok (WK L xs) o 9) (gd (Nat.beq (shp (WK L xs) (wr (wr (wr (wr S o 6 (0 : Int)) o 7 (-1 : Int)) o 8 (-1 : Int)) o 9 (-1 : Int)) o).1 12 && wok (WK L xs) o 10) (gd (Nat.beq (shp (WK L xs) (wr (wr (wr (wr (wr S o 6 (0 : Int)) o 7 (-1 : Int)) o 8 (-1 : Int)) o 9 (-1 : Int)) o 10 (0 : Int)) o).1 12 && wok (WK L xs) o 11) (gd (Nat.beq (shp (WK L xs) (wr (wr (wr (wr (wr (wr S o 6 (0 : Int)) o 7 (-1 : Int)) o 8 (-1 : Int)) o 9 (-1 : Int)) o 10 (0 : Int)) o 11 (0 : Int)) o).1 12 && wok (WK L xs) o 12) (gd (Nat.beq (shp (WK L xs) (wr (wr (wr (wr (wr (wr (wr S o 6 (0 : Int)) o 7 (-1 : Int)) o 8 (-1 : Int)) o 9 (-1 : Int)) o 10 (0 : Int)) o 11 (0 : Int)) o 12 (0 : Int)) o).1 12 && wok (WK L xs) o 13) (gd (Nat.beq (shp (WK L xs) (wr (wr (wr (wr (wr (wr (wr (wr S o 6 (0 : Int)) o 7 (-1 : Int)) o 8 (-1 : Int)) o 9 (-1 : Int)) o 10 (0 : Int)) o 11 (0 : Int)) o 12 (0 : Int)) o 13 (-1 : Int)) o).1 12 && wok (WK L xs) o 14) (gd (Nat.beq (shp (WK L xs) (wr (wr (wr (wr (wr (wr (wr (wr (wr S o 6 (0 : Int)) o 7 (-1 : Int)) o 8 (-1 : Int)) o 9 (-1 : Int)) o 10 (0 : Int)) o 11 (0 : Int)) o 12 (0 : Int)) o 13 (-1 : Int)) o 14 (0 : Int)) o).1 12 && wok (WK L xs) o 0) (gd (Nat.beq (shp (WK L xs) (wr (wr (wr (wr (wr (wr (wr (wr (wr (wr S o 6 (0 : Int)) o 7 (-1 : Int)) o 8 (-1 : Int)) o 9 (-1 : Int)) o 10 (0 : Int)) o 11 (0 : Int)) o 12 (0 : Int)) o 13 (-1 : Int)) o 14 (0 : Int)) o 0 p1) o).1 12 && wok (WK L xs) o 1) (gd (Nat.beq (shp (WK L xs) (wr (wr (wr (wr (wr (wr (wr (wr (wr (wr (wr S o 6 (0 : Int)) o 7 (-1 : Int)) o 8 (-1 : Int)) o 9 (-1 : Int)) o 10 (0 : Int)) o 11 (0 : Int)) o 12 (0 : Int)) o 13 (-1 : Int)) o 14 (0 : Int)) o 0 p1) o 1 p2) o).1 12 && wok (WK L xs) o 2) (gd (Nat.beq (shp (WK L xs) (wr (wr (wr (wr (wr (wr (wr (wr (wr (wr (wr (wr S o 6 (0 : Int)) o 7 (-1 : Int)) o 8 (-1 : Int)) o 9 (-1 : Int)) o 10 (0 : Int)) o 11 (0 : Int)) o 12 (0 : Int)) o 13 (-1 : Int)) o 14 (0 : Int)) o 0 p1) o 1 p2) o 2 p3) o).1 12 && wok (WK L xs) o 3) (gd (Nat.beq (shp (WK L xs) (wr (wr (wr (wr (wr (wr (wr (wr (wr (wr (wr (wr (wr S o 6 (0 : Int)) o 7 (-1 : Int)) o 8 (-1 : Int)) o 9 (-1 : Int)) o 10 (0 : Int)) o 11 (0 : Int)) o 12 (0 : Int)) o 13 (-1 : Int)) o 14 (0 : Int)) o 0 p1) o 1 p2) o 2 p3) o 3 p4) o).1 12 && wok (WK L xs) o 4) (gd (Nat.beq (shp (WK L xs) (wr (wr (wr (wr (wr (wr (wr (wr (wr (wr (wr (wr (wr (wr S o 6 (0 : Int)) o 7 (-1 : Int)) o 8 (-1 : Int)) o 9 (-1 : Int)) o 10 (0 : Int)) o 11 (0 : Int)) o 12 (0 : Int)) o 13 (-1 : Int)) o 14 (0 : Int)) o 0 p1) o 1 p2) o 2 p3) o 3 p4) o 4 p5) o).1 12 && wok (WK L xs) o 5) (if p6 = 0 ∨ p6 = 1 then (some (0, (wr (wr (wr (wr (wr (wr (wr (wr (wr (wr (wr (wr (wr (wr (wr S o 6 (0 : Int)) o 7 (-1 : Int)) o 8 (-1 : Int)) o 9 (-1 : Int)) o 10 (0 : Int)) o 11 (0 : Int)) o 12 (0 : Int)) o 13 (-1 : Int)) o 14 (0 : Int)) o 0 p1) o 1 p2) o 2 p3) o 3 p4) o 4 p5) o 5 p6))) else none))))))))))))))))) := by rw [ev_eq, zc_77, zr_77, zm_77]; rfl
theorem zc_160 : csOf 160 = cs_160 := rfl
theorem zr_160 : rtOf 160 = 9 := rfl
theorem zm_160 : mlOf 160 = 4 := rfl
set_option maxRecDepth 100000 in
set_option maxHeartbeats 4000000 in
/-- SupplyBook$Text.<init>([B[I[I)V -/
theorem q_160 (L : Nat) (xs : Nat → Int) (d : Nat) (S : AH) (o : Nat) (p1 : Nat) (p2 : Nat) (p3 : Nat) : ev (WK L xs) (d + 1) 160 [vr o, vr p1, vr p2, vr p3] S = (gd (Nat.beq (shp (WK L xs) S o).1 19 && Nat.ble 0 8) (gd (Nat.beq (shp (WK L xs) S o).1 19 && wok (WK L xs) o 0) (gd (Nat.beq (shp (WK L xs) (wr S o 0 (p1 : Int)) o).1 19 && wok (WK L xs) o 1) (gd (Nat.beq (shp (WK L xs) (wr (wr S o 0 (p1 : Int)) o 1 (p2 : Int)) o).1 19 && wok (WK L xs) o 2) (some (0, (wr (wr (wr S o 0 (p1 : Int)) o 1 (p2 : Int)) o 2 (p3 : Int)))))))) := by rw [ev_eq, zc_160, zr_160, zm_160]; rfl
section
variable {L : Nat} {xs : Nat → Int} {d : Nat} {S : AH}
theorem gd_go {b : Bool} {r z : Rs} (h : b = true) (h2 : r = z) : gd b r = z := by
  rw [h]
  exact h2
theorem gt_w {X : AH} {o t n k : Nat} (h : 151 ≤ o) (hs : X.1.2.2 o = (t, n)) : (Nat.beq (shp (WK L xs) X o).1 t && wok (WK L xs) o k) = true := by
  rw [shpD h, hs, wokD h]
  simp
theorem gt_0 {X : AH} {o t n : Nat} (h : 151 ≤ o) (hs : X.1.2.2 o = (t, n)) : (Nat.beq (shp (WK L xs) X o).1 t && Nat.ble 0 8) = true := by
  rw [shpD h, hs]
  simp
theorem nw_s {t n b : Nat} : (nw S t n).1.2.2 b = if b = S.1.1 then (t, n) else S.1.2.2 b := rfl
theorem nw_2 {t n b k : Nat} : (nw S t n).2 b k = if b = S.1.1 then 0 else S.2 b k := by
  show (if b = S.1.1 then (fun _ => 0) else S.2 b) k = _
  by_cases e : b = S.1.1
  · rw [if_pos e, if_pos e]
  · rw [if_neg e, if_neg e]
/-- a new authority's fields -/
noncomputable def auF (k hd s y td : Int) (tx : Nat) (bs : Int) (sp : Nat) : Nat → Int := fun j => match j with
  | 0 => k
  | 1 => hd
  | 2 => s
  | 3 => y
  | 4 => td
  | 5 => tx
  | 6 => bs
  | 7 => -1
  | 8 => -1
  | 9 => -1
  | 13 => sp
  | _ => 0
/-- the state with a new authority behind it, not yet in the list -/
noncomputable def auS (S : AH) (k hd s y td : Int) (tx : Nat) (bs : Int) : AH := ((S.1.1 + 1 + 1, S.1.2.1 + 14 + 10, fun b => if b = S.1.1 + 1 then (3, 10) else if b = S.1.1 then (11, 14) else S.1.2.2 b), fun b => if b = S.1.1 then auF k hd s y td tx bs (S.1.1 + 1) else if b = S.1.1 + 1 then fun _ => 0 else S.2 b)
theorem x_newAu (h : 151 ≤ S.1.1) (k hd s y td : Int) (tx : Nat) (bs : Int) : ev (WK L xs) (d + 1) 70 [vr S.1.1, vi k, vi hd, vi s, vi y, vi td, vr tx, vi bs] (nw S 11 14) = some (0, auS S k hd s y td tx bs) := by
  have hs : (nw S 11 14).1.2.2 S.1.1 = (11, 14) := by rw [nw_s, if_pos rfl]
  have hs2 : (nw (nw S 11 14) 3 10).1.2.2 S.1.1 = (11, 14) := by
    rw [nw_s, if_neg (show ¬ S.1.1 = (nw S 11 14).1.1 from fun z => absurd (show S.1.1 = S.1.1 + 1 from z) (by first | decide | omega)), hs]
  rw [q_70]
  refine gd_go (gt_0 h hs) ?_
  refine gd_go (gt_w h hs) ?_
  refine gd_go (gt_w h hs) ?_
  refine gd_go (gt_w h hs) ?_
  refine gd_go (gt_w h hs) ?_
  refine gd_go (gt_w h hs) ?_
  refine gd_go (gt_w h hs) ?_
  refine gd_go (gt_w h hs2) ?_
  refine gd_go (gt_w h hs2) ?_
  refine gd_go (gt_w h hs2) ?_
  refine gd_go (gt_w h hs2) ?_
  refine gd_go (gt_w h hs2) ?_
  refine gd_go (gt_w h hs2) ?_
  refine gd_go (gt_w h hs2) ?_
  refine gd_go (gt_w h hs2) ?_
  congr 2
  refine Prod.ext rfl ?_
  funext b j
  have e1 : (nw (wr (wr (wr (wr (wr (wr (nw S 11 14) S.1.1 7 (-1)) S.1.1 8 (-1)) S.1.1 9 (-1)) S.1.1 10 0) S.1.1 11 0) S.1.1 12 0) 3 10).2 b j = if b = S.1.1 + 1 then 0 else (wr (wr (wr (wr (wr (wr (nw S 11 14) S.1.1 7 (-1)) S.1.1 8 (-1)) S.1.1 9 (-1)) S.1.1 10 0) S.1.1 11 0) S.1.1 12 0).2 b j := nw_2
  simp only [wr_2]
  rw [e1]
  simp only [wr_2, nw_2]
  show _ = (if b = S.1.1 then auF k hd s y td tx bs (S.1.1 + 1) else if b = S.1.1 + 1 then fun _ => 0 else S.2 b) j
  by_cases e : b = S.1.1
  · subst e
    rw [if_pos rfl]
    simp only [true_and, if_true, show ¬ S.1.1 = S.1.1 + 1 by omega, if_false]
    unfold auF
    match j with
    | 0 => rfl
    | 1 => rfl
    | 2 => rfl
    | 3 => rfl
    | 4 => rfl
    | 5 => rfl
    | 6 => rfl
    | 7 => rfl
    | 8 => rfl
    | 9 => rfl
    | 10 => rfl
    | 11 => rfl
    | 12 => rfl
    | 13 => rfl
    | j + 14 => simp
  · rw [if_neg e]
    simp only [e, false_and, if_false]
    by_cases e2 : b = S.1.1 + 1
    · rw [if_pos e2, if_pos e2]
    · rw [if_neg e2, if_neg e2]
end
end
section
-- 76.newau
/-! a new authority -/
section
variable {L : Nat} {xs : Nat → Int} {d : Nat} {S T U S' W : AH}
theorem cby_bd (rv : RV S.2) (rk : RK S.2) {c : Nat} (hc : (c : Int) < S.2 72 52) : cby S.2 c < S.2 72 40 := by
  obtain ⟨-, -, -, -, -, -, r7, -⟩ := rk.2.2.2.1 c hc
  have hn := rv.1
  unfold cby
  by_cases q : S.2 116 c ≠ -1 ∧ S.2 97 (S.2 116 c).toNat = 4 ∧ S.2 102 (S.2 116 c).toNat ≠ -1
  · rw [if_pos q]
    have := (rv.2.1 (S.2 116 c).toNat (by first | decide | omega)).2.2.2.2.2.2.1 q.2.1
    omega
  · rw [if_neg q]
    omega
theorem pby_new (rv : RV S.2) (rk : RK S.2) {v : Int} (hv : S.2 72 40 ≤ v) (y : Int) : pby S.2 v y = 0 := by
  unfold pby
  have hn := rk.nC
  refine Eq.trans (sm_congr (g := fun _ => 0) (fun c hc => ?_)) (sm_zero _)
  have := cby_bd rv rk (c := c) (by first | decide | omega)
  exact if_neg (fun z => by omega)
/-- what a new authority is, in the reference's state -/
noncomputable def nwR (h : Nat → Nat → Int) (heads : Int) (old : Nat → Int) (oldY : Nat → Int) (n : Nat) : Prop := (0 ≤ h 97 n ∧ h 97 n ≤ 4) ∧ (0 ≤ h 98 n ∧ h 98 n < heads) ∧ (0 ≤ h 99 n ∧ h 99 n ≤ 1000000000) ∧ (0 ≤ h 100 n ∧ h 100 n ≤ 9) ∧ (0 ≤ h 104 n ∧ h 104 n < 3600) ∧
  (h 97 n = 1 → 0 ≤ h 102 n ∧ h 102 n < n ∧ old (h 102 n).toNat ≠ 1 ∧ h 100 n = oldY (h 102 n).toNat) ∧ (h 97 n ≠ 1 → h 102 n = -1)
theorem Inv.newA (H : Inv S) {n o p tx : Nat} (hn : S.2 72 40 = n) (hn80 : n < 80) (ho : S.1.1 ≤ o) (hp : S.1.1 ≤ p) (hop : isO S' o 11 14) (hpp : isO S' p 3 10) (hlen : S.1.1 ≤ S'.1.1) (hF : ∀ a, 151 ≤ a → a < S.1.1 → S'.1.2.2 a = S.1.2.2 a ∧ S'.2 a = S.2 a)
    (hc : ∀ a, a < 151 → a ≠ 36 → a ≠ 37 → a ≠ 72 → ¬ (78 ≤ a ∧ a ≤ 85) → ¬ (97 ≤ a ∧ a ≤ 104) → S'.2 a = S.2 a) (h36 : ∀ k, k ≠ 1 → S'.2 36 k = S.2 36 k) (e36 : S'.2 36 1 = (n : Int) + 1) (h72 : ∀ k, k ≠ 40 → S'.2 72 k = S.2 72 k) (e72 : S'.2 72 40 = (n : Int) + 1) (h37 : ∀ j, S'.2 37 j = if j = n then (o : Int) else S.2 37 j)
    (hj : ∀ a j, 97 ≤ a → a ≤ 104 → j ≠ n → S'.2 a j = S.2 a j) (ht : ∀ t x, t ≠ 20 + n → RX S.2 t x → RX S'.2 t x) (hR : nwR S'.2 (S.2 72 4) (S.2 97) (S.2 100) n)
    (hO : ∀ j, S'.2 o j = auF (S'.2 97 n) (S'.2 98 n) (S'.2 99 n) (S'.2 100 n) (S'.2 104 n) tx (if S'.2 97 n = 1 then S'.2 102 n else -1) p j) (hst : S'.2 101 n = -1) (hcd : S'.2 103 n = -1) (hsp : ∀ j, S'.2 p j = 0) (hT : TX S' tx (20 + n)) : Inv S' := by
  obtain ⟨i1, gt, gc, gx, gb, gp, gl, gv, gk, gu, gw, gn⟩ := H
  have hFx : Fx (fun _ => False) S S' := ⟨hlen, fun a q1 q2 => ⟨(hF a q1 q2).1, fun _ => (hF a q1 q2).2⟩⟩
  have hX : Xt (fun _ => False) S := fun a q => q.elim
  have C : ∀ a, a < 36 ∨ (37 < a ∧ a < 72) ∨ (72 < a ∧ a < 78) ∨ (85 < a ∧ a < 97) ∨ (104 < a ∧ a < 151) → S'.2 a = S.2 a := fun a q => hc a (by first | decide | omega) (by first | decide | omega) (by first | decide | omega) (by first | decide | omega) (by first | decide | omega) (by first | decide | omega)
  have c15 := C 15 (by first | decide | omega)
  have e20 : ∀ t, t < 20 → t ≠ 20 + n := fun t q => by omega
  have rv := gv.1
  have rk := gk.1
  have hcb : ∀ c : Nat, (c : Int) < S.2 72 52 → cby S'.2 c = cby S.2 c := fun c hc2 => by
    obtain ⟨-, -, -, -, -, -, r7, -⟩ := rk.2.2.2.1 c hc2
    unfold cby
    rw [C 116 (by first | decide | omega)]
    by_cases q : S.2 116 c = -1
    · rw [if_neg (fun z => z.1 q), if_neg (fun z => z.1 q)]
    · rw [hj 97 _ (by first | decide | omega) (by first | decide | omega) (show (S.2 116 c).toNat ≠ n by omega), hj 102 _ (by first | decide | omega) (by first | decide | omega) (show (S.2 116 c).toNat ≠ n by omega)]
  have hpb : ∀ v y, pby S'.2 v y = pby S.2 v y := fun v y => by
    have hnc := rk.nC
    unfold pby
    rw [pin_fr (h := S.2) (h' := S'.2) (C _ (by first | decide | omega)), C 111 (by first | decide | omega), show nClaims S'.2 = nClaims S.2 by unfold nClaims; rw [h72 _ (by decide)]]
    refine sm_congr (fun c hc2 => ?_)
    rw [hcb c (by first | decide | omega)]
  have hq : pct S'.2 = pct S.2 := pct_fr (C _ (by first | decide | omega)) (C _ (by first | decide | omega)) (C _ (by first | decide | omega)) (h72 _ (by decide))
  refine ⟨Nat.le_trans i1 hlen, gt.fr (by rw [c15]) (h72 _ (by decide)), gc.fr (by rw [c15]) (h72 _ (by decide)), gx.fr (by rw [c15]) (h72 _ (by decide)), gb.fr (by rw [c15]) (h72 _ (by decide)) (C _ (by first | decide | omega)) (C _ (by first | decide | omega)), gp.fr (h72 _ (by decide)) (h72 _ (by decide)) (fun a q => C a (by first | decide | omega)), gl.fx hFx hX (fun a q => C a (by first | decide | omega)) (h72 _ (by decide)) (fun t x q1 q => ht t x (e20 t q1) q), ?_, ?_, gu.fr (h72 _ (by decide)) (by rw [C 50 (by first | decide | omega)]) (by rw [C 50 (by first | decide | omega)]) (fun a q => C a (by first | decide | omega)), gw.fr (h72 _ (by decide)) (h72 _ (by decide)) (by rw [C 54 (by first | decide | omega)]) (by rw [C 54 (by first | decide | omega)]) (fun a q => C a (by first | decide | omega)), gn.fr (h72 _ (by decide)) (h72 _ (by decide)) (h72 _ (by decide)) (by rw [C 63 (by first | decide | omega)]) (by rw [C 63 (by first | decide | omega)]) (by rw [C 63 (by first | decide | omega)]) (fun a q => C a (by first | decide | omega))⟩
  · obtain ⟨h1, h2, h3, h4, h5, h6, h7⟩ := gv
    have hA : ∀ v : Nat, (v : Int) < S.2 72 40 → AV S' v ∧ auA S' v = auA S v ∧ spA S' v = spA S v := fun v hv => (h4 v hv).fx hFx hX (fun z => z) (fun z => z) (by rw [h37 v, if_neg (by first | decide | omega)]) (fun a q1 q2 => by
      by_cases q : a ≤ 104
      · exact hj a v q1 q (by first | decide | omega)
      · rw [C a (by first | decide | omega)]) (fun _ y _ => hpb _ _) (fun x q => ht _ x (by first | decide | omega) q)
    have aN : auA S' n = o := by
      unfold auA
      rw [h37 n, if_pos rfl]
      rfl
    have sN : spA S' n = p := by
      unfold spA
      rw [aN, hO 13]
      rfl
    have old : ∀ v : Nat, (v : Int) < S.2 72 40 → auA S v < S.1.1 ∧ spA S v < S.1.1 := fun v hv => ⟨(h4 v hv).1.2.1, (h4 v hv).2.1.2.1⟩
    obtain ⟨n1, n2, n3, n4, n5, n6, n7⟩ := hR
    obtain ⟨g1, g2, g3, g4, g5⟩ := h1
    unfold GV
    rw [hq, e72, e36, h36 7 (by decide), h72 70 (by decide), C 38 (by first | decide | omega), C 39 (by first | decide | omega), C 40 (by first | decide | omega), C 41 (by first | decide | omega), C 42 (by first | decide | omega), C 124 (by first | decide | omega), C 125 (by first | decide | omega), C 126 (by first | decide | omega), C 127 (by first | decide | omega)]
    refine ⟨?_, rfl, h3, fun v hv => ?_, fun v w hv hw q => ?_, h6, h7⟩
    · unfold RV
      rw [e72, h72 4 (by decide), h72 70 (by decide), C 105 (by first | decide | omega), C 106 (by first | decide | omega), C 107 (by first | decide | omega), C 124 (by first | decide | omega), C 125 (by first | decide | omega), C 126 (by first | decide | omega), C 127 (by first | decide | omega)]
      refine ⟨by omega, fun v hv => ?_, fun v q1 q2 => g3 v (by first | decide | omega) q2, g4, fun k hk => ?_⟩
      · by_cases e : v = n
        · subst e
          refine ⟨n1, n2, n3, n4, n5, fun z => ?_, fun z => Or.inl (n7 (by first | decide | omega)), fun z _ => n7 z⟩
          obtain ⟨m1, m2, m3, m4⟩ := n6 z
          have hne : (S'.2 102 v).toNat ≠ v := by omega
          rw [hj 97 _ (by first | decide | omega) (by first | decide | omega) hne, hj 100 (S'.2 102 v).toNat (by first | decide | omega) (by first | decide | omega) hne]
          exact ⟨m1, m2, m3, m4⟩
        · rw [hj 97 v (by first | decide | omega) (by first | decide | omega) e, hj 98 v (by first | decide | omega) (by first | decide | omega) e, hj 99 v (by first | decide | omega) (by first | decide | omega) e, hj 100 v (by first | decide | omega) (by first | decide | omega) e, hj 102 v (by first | decide | omega) (by first | decide | omega) e, hj 104 v (by first | decide | omega) (by first | decide | omega) e]
          obtain ⟨f1, f2, f3, f4, f5, f6, f7, f8⟩ := g2 v (by first | decide | omega)
          refine ⟨f1, f2, f3, f4, f5, fun z => ?_, fun z => ?_, f8⟩
          · have := f6 z
            have hne : (S.2 102 v).toNat ≠ n := by omega
            rw [hj 97 _ (by first | decide | omega) (by first | decide | omega) hne, hj 100 (S.2 102 v).toNat (by first | decide | omega) (by first | decide | omega) hne]
            exact this
          · rcases f7 z with x | x
            · exact Or.inl x
            · have hne : (S.2 102 v).toNat ≠ n := by omega
              rw [hj 97 _ (by first | decide | omega) (by first | decide | omega) hne]
              exact Or.inr ⟨x.1, by omega, x.2.2⟩
      · obtain ⟨f1, f2⟩ := g5 k hk
        have hne : (S.2 124 k).toNat ≠ n := by omega
        rw [hj 97 _ (by first | decide | omega) (by first | decide | omega) hne]
        exact ⟨⟨f1.1, by omega, f1.2.2⟩, f2⟩
    · by_cases e : v = n
      · subst e
        unfold AV
        rw [aN, sN, hO 0, hO 1, hO 2, hO 3, hO 4, hO 5, hO 6, hO 7, hO 8, hO 9, hO 10, hO 11, hO 12, hst, hcd, C 105 (by first | decide | omega), C 106 (by first | decide | omega), C 107 (by first | decide | omega), (g3 v (by first | decide | omega) (by first | decide | omega)).1, (g3 v (by first | decide | omega) (by first | decide | omega)).2.1, (g3 v (by first | decide | omega) (by first | decide | omega)).2.2]
        refine ⟨hop, hpp, rfl, rfl, rfl, rfl, rfl, rfl, ?_, rfl, rfl, rfl, rfl, rfl, hT, fun q y hy => ?_⟩
        · show (-1 : Int) = if S'.2 97 v = 1 then -1 else S'.2 102 v
          by_cases q : S'.2 97 v = 1
          · rw [if_pos q]
          · rw [if_neg q, n7 q]
        · rw [hpb, hsp, pby_new rv rk (by first | decide | omega)]
          exact ⟨rfl, fun _ _ => rfl⟩
      · exact (hA v (by first | decide | omega)).1
    · by_cases e : v = n
      · by_cases e2 : w = n
        · rw [e, e2]
        · obtain ⟨-, b1, b2⟩ := hA w (by first | decide | omega)
          have := old w (by first | decide | omega)
          rw [e, aN, sN, b1, b2] at q
          omega
      · obtain ⟨-, a1, a2⟩ := hA v (by first | decide | omega)
        have := old v (by first | decide | omega)
        by_cases e2 : w = n
        · rw [e2, aN, sN, a1, a2] at q
          omega
        · obtain ⟨-, b1, b2⟩ := hA w (by first | decide | omega)
          rw [a1, a2, b1, b2] at q
          exact h5 v w (by first | decide | omega) (by first | decide | omega) q
  · obtain ⟨h1, h2, h3, h4, h5, h6, h7, h8, h9, h10, h11⟩ := gk
    have gk0 : GK S := ⟨h1, h2, h3, h4, h5, h6, h7, h8, h9, h10, h11⟩
    have ecl : ∀ c, clA S' c = clA S c := fun c => by unfold clA; rw [C 44 (by first | decide | omega)]
    unfold GK nClaims
    rw [C 43 (by first | decide | omega), h72 52 (by decide), h72 53 (by decide), h72 102 (by decide), C 45 (by first | decide | omega), C 46 (by first | decide | omega), C 47 (by first | decide | omega), C 48 (by first | decide | omega), C 49 (by first | decide | omega), C 111 (by first | decide | omega), C 115 (by first | decide | omega), C 117 (by first | decide | omega), C 146 (by first | decide | omega), C 147 (by first | decide | omega), C 148 (by first | decide | omega), C 149 (by first | decide | omega)]
    refine ⟨?_, h2, h3, h4, fun c hc2 => ?_, fun c e q1 q2 q => ?_, h7, h8, h9, h10, h11⟩
    · obtain ⟨g1, g2, g3, g4, g5, g6⟩ := h1
      unfold RK
      rw [h72 52 (by decide), h72 53 (by decide), h72 102 (by decide), h72 4 (by decide), h72 5 (by decide), h72 70 (by decide), e72, C 108 (by first | decide | omega), C 109 (by first | decide | omega), C 110 (by first | decide | omega), C 111 (by first | decide | omega), C 112 (by first | decide | omega), C 113 (by first | decide | omega), C 114 (by first | decide | omega), C 115 (by first | decide | omega), C 116 (by first | decide | omega), C 117 (by first | decide | omega), C 118 (by first | decide | omega), C 119 (by first | decide | omega), C 120 (by first | decide | omega), C 121 (by first | decide | omega), C 122 (by first | decide | omega), C 123 (by first | decide | omega), C 147 (by first | decide | omega), C 148 (by first | decide | omega)]
      refine ⟨g1, g2, g3, fun c hc2 => ?_, g5, g6⟩
      obtain ⟨f1, f2, f3, f4, f5, f6, f7, f8⟩ := g4 c hc2
      refine ⟨f1, f2, f3, f4, f5, f6, ?_, f8⟩
      rcases f7 with z | z
      · exact Or.inl z
      · have hne : (S.2 116 c).toNat ≠ n := by omega
        rw [hj 97 _ (by first | decide | omega) (by first | decide | omega) hne]
        exact Or.inr ⟨z.1, ⟨z.2.1.1, by omega, z.2.1.2.2⟩, z.2.2⟩
    · have A := h5 c hc2
      have ob := gk0.ob hc2
      have eo := (hF _ ob.1 ob.2.1).2
      unfold AK at A ⊢
      rw [ecl, eo, hcb c hc2, C 108 (by first | decide | omega), C 109 (by first | decide | omega), C 110 (by first | decide | omega), C 111 (by first | decide | omega), C 112 (by first | decide | omega), C 113 (by first | decide | omega), C 114 (by first | decide | omega), C 115 (by first | decide | omega), C 116 (by first | decide | omega), C 118 (by first | decide | omega), C 119 (by first | decide | omega), C 120 (by first | decide | omega), C 121 (by first | decide | omega), C 122 (by first | decide | omega), C 123 (by first | decide | omega)]
      exact ⟨A.1.fx hFx, A.2⟩
    · rw [ecl, ecl] at q
      exact h6 c e q1 q2 q
end
end
section
-- 77.ceil
/-! ceiling, advance -/
section
variable {L : Nat} {xs : Nat → Int} {d : Nat} {S T U S' W : AH}
theorem RX.c78 {h h' : Nat → Nat → Int} {t : Nat} {x : TXT} (H : RX h t x) (h78 : h' 78 t = h 78 t) (hc : ∀ a, 79 ≤ a → a ≤ 85 → h' a = h a) : RX h' t x := by
  unfold RX at H ⊢
  rw [h78, hc 79 (by first | decide | omega) (by first | decide | omega), hc 80 (by first | decide | omega) (by first | decide | omega), hc 81 (by first | decide | omega) (by first | decide | omega), hc 82 (by first | decide | omega) (by first | decide | omega), hc 83 (by first | decide | omega) (by first | decide | omega), hc 84 (by first | decide | omega) (by first | decide | omega), hc 85 (by first | decide | omega) (by first | decide | omega)]
  exact H
theorem RX.nil {h : Nat → Nat → Int} {t : Nat} (h78 : h 78 t = 0) : RX h t [] := by
  refine ⟨h78, by decide, fun j q z => ?_, by decide, fun i q z => ?_⟩
  · simp at z
  · simp [cds] at z
theorem auS_hi {k hd s y td bs : Int} {tx a : Nat} (h1 : a < S.1.1) : (auS S k hd s y td tx bs).1.2.2 a = S.1.2.2 a ∧ (auS S k hd s y td tx bs).2 a = S.2 a := by
  constructor
  · show (if a = S.1.1 + 1 then ((3, 10) : Nat × Nat) else if a = S.1.1 then (11, 14) else S.1.2.2 a) = _
    rw [if_neg (by first | decide | omega), if_neg (by first | decide | omega)]
  · show (if a = S.1.1 then auF k hd s y td tx bs (S.1.1 + 1) else if a = S.1.1 + 1 then fun _ => 0 else S.2 a) = _
    rw [if_neg (by first | decide | omega), if_neg (by first | decide | omega)]
theorem auS_o {k hd s y td bs : Int} {tx : Nat} (h : 151 ≤ S.1.1) : isO (auS S k hd s y td tx bs) S.1.1 11 14 ∧ isO (auS S k hd s y td tx bs) (S.1.1 + 1) 3 10 ∧ (auS S k hd s y td tx bs).2 S.1.1 = auF k hd s y td tx bs (S.1.1 + 1) ∧ (∀ j, (auS S k hd s y td tx bs).2 (S.1.1 + 1) j = 0) := by
  refine ⟨⟨h, by show S.1.1 < S.1.1 + 1 + 1; omega, ?_⟩, ⟨by omega, by show S.1.1 + 1 < S.1.1 + 1 + 1; omega, ?_⟩, ?_, fun j => ?_⟩
  · show (if S.1.1 = S.1.1 + 1 then ((3, 10) : Nat × Nat) else if S.1.1 = S.1.1 then (11, 14) else S.1.2.2 S.1.1) = _
    rw [if_neg (by first | decide | omega), if_pos rfl]
  · show (if S.1.1 + 1 = S.1.1 + 1 then ((3, 10) : Nat × Nat) else if S.1.1 + 1 = S.1.1 then (11, 14) else S.1.2.2 (S.1.1 + 1)) = _
    rw [if_pos rfl]
  · show (if S.1.1 = S.1.1 then auF k hd s y td tx bs (S.1.1 + 1) else if S.1.1 = S.1.1 + 1 then fun _ => 0 else S.2 S.1.1) = _
    rw [if_pos rfl]
  · show (if S.1.1 + 1 = S.1.1 then auF k hd s y td tx bs (S.1.1 + 1) else if S.1.1 + 1 = S.1.1 + 1 then fun _ => 0 else S.2 (S.1.1 + 1)) j = _
    rw [if_neg (by first | decide | omega), if_pos rfl]
theorem Inv.newB (H : Inv S) {n tx : Nat} (hn : S.2 72 40 = n) (hn80 : n < 80) {k hd s y td bs : Int} (h1 : S'.1 = (auS S k hd s y td tx bs).1) (hhi : ∀ a, 151 ≤ a → S'.2 a = (auS S k hd s y td tx bs).2 a) (hc : ∀ a, a < 151 → a ≠ 36 → a ≠ 37 → a ≠ 72 → ¬ (78 ≤ a ∧ a ≤ 85) → ¬ (97 ≤ a ∧ a ≤ 104) → S'.2 a = S.2 a) (h36 : ∀ k, k ≠ 1 → S'.2 36 k = S.2 36 k) (e36 : S'.2 36 1 = (n : Int) + 1) (h72 : ∀ k, k ≠ 40 → S'.2 72 k = S.2 72 k) (e72 : S'.2 72 40 = (n : Int) + 1) (h37 : ∀ j, S'.2 37 j = if j = n then (S.1.1 : Int) else S.2 37 j)
    (hj : ∀ a j, 97 ≤ a → a ≤ 104 → j ≠ n → S'.2 a j = S.2 a j) (ht : ∀ t x, t ≠ 20 + n → RX S.2 t x → RX S'.2 t x) (hR : nwR S'.2 (S.2 72 4) (S.2 97) (S.2 100) n) (v1 : S'.2 97 n = k) (v2 : S'.2 98 n = hd) (v3 : S'.2 99 n = s) (v4 : S'.2 100 n = y) (v5 : S'.2 104 n = td) (v6 : (if S'.2 97 n = 1 then S'.2 102 n else -1) = bs) (hst : S'.2 101 n = -1) (hcd : S'.2 103 n = -1) (hT : TX S' tx (20 + n)) : Inv S' := by
  have i1 := H.1
  obtain ⟨o1, o2, o3, o4⟩ := auS_o (S := S) (k := k) (hd := hd) (s := s) (y := y) (td := td) (tx := tx) (bs := bs) i1
  refine H.newA (o := S.1.1) (p := S.1.1 + 1) (tx := tx) hn hn80 (Nat.le_refl _) (by first | decide | omega) (o1.eq h1) (o2.eq h1) (by rw [h1]; show S.1.1 ≤ S.1.1 + 1 + 1; omega) (fun a q1 q2 => ⟨by rw [h1, (auS_hi q2).1], by rw [hhi a q1, (auS_hi q2).2]⟩) hc h36 e36 h72 e72 h37 hj ht hR (fun j => ?_) hst hcd (fun j => ?_) hT
  · rw [hhi _ i1, o3, v1, v2, v3, v4, v5, ← v6, v1]
  · rw [hhi _ (by first | decide | omega), o4 j]
theorem x_addAu {n o : Nat} (h : isO T o 11 14) (hn : T.2 36 1 = n) (hn80 : n < 80) : ev (WK L xs) (d + 2) 167 [vr 36, vr o] T = some ((n : Int), wr (wr T 37 n (o : Int)) 36 1 ((n : Int) + 1)) := by
  rw [q_167, q_166, hn, if_pos (by first | decide | omega), bR, if_pos rfl, k11 h, hn, if_pos (by first | decide | omega), Int.toNat_natCast, wi (by first | decide | omega) (by first | decide | omega), w32e (by first | decide | omega) (by first | decide | omega)]
theorem m_addAu {n : Nat} (hn : W.2 72 40 = n) (hn80 : n < 80) (k hd s y : Int) : ∃ U, ev (WK L xs) (d + 1) 239 [vr 72, vi k, vi hd, vi s, vi y] W = some ((n : Int), U) ∧ U.1 = W.1 ∧ (∀ a, a ≠ 72 → a ≠ 78 → ¬ (97 ≤ a ∧ a ≤ 104) → U.2 a = W.2 a) ∧ (∀ j, j ≠ 40 → U.2 72 j = W.2 72 j) ∧ U.2 72 40 = (n : Int) + 1 ∧ (∀ j, U.2 78 j = if j = 20 + n then 0 else W.2 78 j) ∧ (∀ a j, 97 ≤ a → a ≤ 104 → j ≠ n → U.2 a j = W.2 a j) ∧ U.2 97 n = k ∧ U.2 98 n = hd ∧ U.2 99 n = s ∧ U.2 100 n = y ∧ U.2 101 n = -1 ∧ U.2 102 n = -1 ∧ U.2 103 n = -1 ∧ U.2 104 n = W.2 72 2 := by
  have hq : (0 : Int) ≤ (n : Int) ∧ (n : Int) < 80 := by omega
  have e20 : w32 (20 + (n : Int)) = ((20 + n : Nat) : Int) := by rw [w32e (by first | decide | omega) (by first | decide | omega)]; omega
  refine ⟨wr (wr (wr (wr (wr (wr (wr (wr (wr (wr W 97 n k) 98 n hd) 99 n s) 100 n y) 101 n (-1)) 102 n (-1)) 103 n (-1)) 104 n (W.2 72 2)) 78 (20 + n) 0) 72 40 ((n : Int) + 1), by rw [q_239, hn, if_pos hq, if_pos hq, if_pos hq, if_pos hq, if_pos hq, if_pos hq, if_pos hq, if_pos hq, e20, if_pos (by first | decide | omega), Int.toNat_natCast, Int.toNat_natCast, w32e (x := (n : Int) + 1) (by first | decide | omega) (by first | decide | omega)], rfl, fun a q1 q2 q3 => ?_, fun j q => ?_, ?_, fun j => ?_, fun a j q1 q2 q3 => ?_, ?_, ?_, ?_, ?_, ?_, ?_, ?_, ?_⟩
  · repeat rw [wr_c (by first | decide | omega)]
  · rw [wr_f, if_neg q]
    repeat rw [wr_c (by first | decide | omega)]
  · rw [wr_f, if_pos rfl]
  · rw [wr_c (by decide), wr_f]
    repeat rw [wr_c (by decide)]
  · rw [wr_c (by first | decide | omega), wr_c (by first | decide | omega)]
    simp only [wr_2, q3, and_false, if_false]
  all_goals simp [wr_2]
theorem o_ceiling (H : Inv S) (p hd s : Int) : Ok L xs 15 240 [vi p, vi hd, vi s] S := by
  have gv := H.gv
  have gp := H.gp
  have ht := H.gt
  have i1 := H.1
  have hn80 := gv.1.1
  obtain ⟨n, hn⟩ := Int.eq_ofNat_of_zero_le hn80.1
  have en : S.2 36 1 = n := by rw [gv.2.1, hn]
  by_cases hp : 0 ≤ p ∧ p < S.2 72 40
  · obtain ⟨v, hv⟩ := Int.eq_ofNat_of_zero_le hp.1
    subst hv
    obtain ⟨a1, a2, a3, a4, a5, a6, -⟩ := gv.2.2.2.1 v hp.2
    obtain ⟨r1, r2, r3, r4, r5, r6, r7, r8⟩ := gv.1.2.1 v hp.2
    have h5 := a1.1
    have hqv : (0 : Int) ≤ (v : Int) ∧ (v : Int) < 80 := by omega
    generalize hP : (S.2 97 v ≠ 1 ∧ (0 ≤ s ∧ s ≤ 1000000000) ∧ n < 80 ∧ (0 ≤ hd ∧ hd < S.2 72 4) ∧ uN S.2 hd (S.2 98 v) = true) = P
    have instP : Decidable P := Classical.propDecidable _
    generalize hB : auS S 1 hd s (S.2 100 v) (S.2 72 2) 27 (v : Int) = B
    have X15 : ev (WK L xs) 200 15 [vr 15, vi (v : Int), vi hd, vi s] S = if P then some ((n : Int), wr (wr B 37 n (S.1.1 : Int)) 36 1 ((n : Int) + 1)) else some (-1, S) := by
      subst hP
      rw [q_15, x_au gv hp.2, bR, Int.toNat_natCast, if_neg (by first | decide | omega), g14a a1, k11 a1, rdvD h5, a3]
      by_cases c1 : S.2 97 v = 1
      · rw [if_pos c1, if_neg (fun z => z.1 c1)]
      rw [if_neg c1, x_isSum, bR]
      simp only [bi_0]
      by_cases c2 : 0 ≤ s ∧ s ≤ 1000000000
      rotate_left
      · rw [if_pos c2, if_neg (fun z => c2 z.2.1)]
      rw [if_neg (fun z => z c2), q_166, en]
      by_cases c3 : n < 80
      rotate_left
      · rw [if_neg (by first | decide | omega), bR, if_neg (by decide), if_neg (fun z => c3 z.2.2.1)]
      rw [if_pos (by first | decide | omega), bR, if_pos rfl, k11 a1, rdvD h5, a4, x_isUnder gp, bR]
      simp only [bi_0]
      by_cases c4 : 0 ≤ hd ∧ hd < S.2 72 4
      rotate_left
      · rw [if_pos (fun z => c4 z.1), if_neg (fun z => c4 z.2.2.2.1)]
      by_cases c5 : uN S.2 hd (S.2 98 v) = true
      rotate_left
      · rw [if_pos (fun z => c5 z.2.2), if_neg (fun z => c5 z.2.2.2.2)]
      have hs : (nw S 11 14).1.2.2 S.1.1 = (11, 14) := by rw [nw_s, if_pos rfl]
      have oA : isO (nw S 11 14) (auA S v) 11 14 := ⟨h5, by have := a1.2.1; show auA S v < S.1.1 + 1; omega, by rw [nw_s, if_neg (by have := a1.2.1; omega)]; exact a1.2.2⟩
      have g1 : ∀ r : Rs, gd (Nat.beq (shp (WK L xs) (nw S 11 14) S.1.1).1 11 && Nat.ble 2 8) r = r := fun r => by rw [shpD i1, hs]; rfl
      have e15 : (nw S 11 14).2 15 0 = S.2 15 0 := by rw [nw_2, if_neg (by first | decide | omega)]
      have eY : (nw S 11 14).2 (auA S v) 3 = S.2 100 v := by rw [nw_2, if_neg (by have := a1.2.1; omega), a6]
      rw [if_neg (fun z => z ⟨c4, r2, c5⟩), if_pos ⟨c1, c2, c3, c4, c5⟩, k11 oA, g1, rdvD h5, eY, e15, ht.1, x_newAu i1, bR, hB]
      have oB : isO B S.1.1 11 14 := by rw [← hB]; exact (auS_o i1).1
      have eB : B.2 36 1 = n := by rw [← hB, (auS_hi (a := 36) (by first | decide | omega)).2, en]
      rw [x_addAu oB eB c3, bR]
    have M240 : ∀ W : AH, (∀ a, 72 ≤ a → a < 151 → W.2 a = S.2 a) → (¬ P → ev (WK L xs) 200 240 [vr 72, vi (v : Int), vi hd, vi s] W = some (-1, W)) ∧ (P → ∃ U, ev (WK L xs) 199 239 [vr 72, vi 1, vi hd, vi s, vi (S.2 100 v)] W = some ((n : Int), U) ∧ ev (WK L xs) 200 240 [vr 72, vi (v : Int), vi hd, vi s] W = some ((n : Int), wr U 102 n (v : Int))) := by
      intro W hW
      obtain ⟨rk, rv, rp⟩ := H.ref (W := W) (fun a q1 q2 _ => hW a q1 q2)
      have w72 := hW 72 (by decide) (by decide)
      have eun : uN W.2 = uN S.2 := by
        funext a b
        unfold uN
        rw [hW 74 (by decide) (by decide)]
      subst hP
      rw [q_240, w72, hn]
      by_cases c3 : n < 80
      rotate_left
      · rw [if_pos (by first | decide | omega)]
        exact ⟨fun _ => rfl, fun z => absurd z.2.2.1 c3⟩
      rw [if_neg (by first | decide | omega), m_isAu rv, bR]
      simp only [bi_0]
      rw [w72, if_neg (fun z => z hp)]
      simp only [if_pos hqv, Int.toNat_natCast]
      rw [hW 97 (by decide) (by decide)]
      by_cases c1 : S.2 97 v = 1
      · rw [if_pos c1]
        exact ⟨fun _ => rfl, fun z => absurd c1 z.1⟩
      rw [if_neg c1, m_isHead rp, bR]
      simp only [bi_0]
      rw [w72]
      by_cases c4 : 0 ≤ hd ∧ hd < S.2 72 4
      rotate_left
      · rw [if_pos c4]
        exact ⟨fun _ => rfl, fun z => absurd z.2.2.2.1 c4⟩
      rw [if_neg (fun z => z c4), hW 98 (by decide) (by decide), m_isUnder rp _ _ c4.1 (by rw [w72]; exact c4.2) r2.1, bR]
      simp only [bi_0]
      rw [eun]
      by_cases c5 : uN S.2 hd (S.2 98 v) = true
      rotate_left
      · rw [if_pos c5]
        exact ⟨fun _ => rfl, fun z => absurd z.2.2.2.2 c5⟩
      rw [if_neg (fun z => z c5), m_isSum, bR]
      simp only [bi_0]
      by_cases c2 : 0 ≤ s ∧ s ≤ 1000000000
      rotate_left
      · rw [if_pos c2]
        exact ⟨fun _ => rfl, fun z => absurd z.2.1 c2⟩
      rw [if_neg (fun z => z c2), hW 100 (by decide) (by decide)]
      refine ⟨fun z => absurd ⟨c1, c2, c3, c4, c5⟩ z, fun _ => ?_⟩
      obtain ⟨U, u1, -⟩ := m_addAu (L := L) (xs := xs) (d := 198) (W := W) (n := n) (by rw [w72, hn]) c3 1 hd s (S.2 100 v)
      refine ⟨U, u1, ?_⟩
      rw [show ev (WK L xs) 199 239 [vr 72, vi 1, vi hd, vi s, vi (S.2 100 v)] W = some ((n : Int), U) from u1, bR, if_pos (by first | decide | omega), Int.toNat_natCast]
    by_cases hPP : P
    · rw [if_pos hPP] at X15
      have loB : ∀ a, a < 151 → B.2 a = S.2 a := fun a q => by rw [← hB, (auS_hi (by first | decide | omega)).2]
      generalize hW : wr (wr B 37 n (S.1.1 : Int)) 36 1 ((n : Int) + 1) = W at X15
      have lo : ∀ a, 72 ≤ a → a < 151 → W.2 a = S.2 a := fun a q1 q2 => by rw [← hW, wr_c (by first | decide | omega), wr_c (by first | decide | omega), loB a q2]
      obtain ⟨U, u0, m⟩ := (M240 W lo).2 hPP
      rw [← hP] at hPP
      obtain ⟨c1, c2, c3, c4, c5⟩ := hPP
      obtain ⟨U', u1, u2, u3, u4, u5, u6, u7, u8, u9, u10, u11, u12, u13, u14, u15⟩ := m_addAu (L := L) (xs := xs) (d := 198) (W := W) (n := n) (by rw [lo 72 (by decide) (by decide), hn]) c3 1 hd s (S.2 100 v)
      have eU : U' = U := by
        have := u1.symm.trans u0
        simp only [Option.some.injEq, Prod.mk.injEq, true_and] at this
        exact this
      subst eU
      have hW1 : W.1 = B.1 := by rw [← hW]; rfl
      refine ⟨_, W, _, X15, m, ?_, ?_⟩
      rotate_left
      · unfold Gw
        rw [show (wr U' 102 n (v : Int)).1 = U'.1 from rfl, u2, hW1, ← hB]
        exact ⟨by show S.1.1 + 1 + 1 ≤ _; omega, by show S.1.2.1 + 14 + 10 ≤ _; omega⟩
      refine H.newB (tx := 27) (k := 1) (hd := hd) (s := s) (y := S.2 100 v) (td := S.2 72 2) (bs := (v : Int)) hn c3 ?_ (fun a q => ?_) (fun a q1 q2 q3 q4 q5 q6 => ?_) (fun k q => ?_) ?_ (fun k q => ?_) ?_ (fun j => ?_) (fun a j q1 q2 q3 => ?_) (fun t x q1 q2 => ?_) ?_ ?_ ?_ ?_ ?_ ?_ ?_ ?_ ?_ ?_
      · rw [hB, ← hW1, ← u2]; rfl
      · rw [wr_c (by first | decide | omega), u3 a (by first | decide | omega) (by first | decide | omega) (by first | decide | omega), ← hW, wr_c (by first | decide | omega), wr_c (by first | decide | omega), hB]
      · rw [wr_c (by first | decide | omega), u3 a (by first | decide | omega) (by first | decide | omega) (by first | decide | omega), ← hW, wr_c (by first | decide | omega), wr_c (by first | decide | omega), loB a q1]
      · rw [wr_c (by decide), u3 36 (by decide) (by decide) (by decide), ← hW, wr_f, if_neg q, wr_c (by decide), loB 36 (by decide)]
      · rw [wr_c (by decide), u3 36 (by decide) (by decide) (by decide), ← hW, wr_f, if_pos rfl]
      · rw [wr_c (by decide), u4 k q, lo 72 (by decide) (by decide)]
      · rw [wr_c (by decide), u5]
      · rw [wr_c (by decide), u3 37 (by decide) (by decide) (by decide), ← hW, wr_c (by decide), wr_f, loB 37 (by decide)]
      · rw [wr_2, if_neg (fun z => q3 z.2), u7 a j q1 q2 q3, lo a (by first | decide | omega) (by first | decide | omega)]
      · refine q2.c78 ?_ (fun a z1 z2 => ?_)
        · rw [wr_c (by decide), u6 t, if_neg q1, lo 78 (by decide) (by decide)]
        · rw [wr_c (by first | decide | omega), u3 a (by first | decide | omega) (by first | decide | omega) (by first | decide | omega), lo a (by first | decide | omega) (by first | decide | omega)]
      · unfold nwR
        rw [wr_c (by decide), wr_c (by decide), wr_c (by decide), wr_c (by decide), wr_c (by decide), wr_f, if_pos rfl, u8, u9, u10, u11, u15, lo 72 (by decide) (by decide)]
        exact ⟨by decide, c4, c2, r4, ht.2, fun _ => ⟨by omega, by omega, by rw [Int.toNat_natCast]; exact c1, by rw [Int.toNat_natCast]⟩, fun z => absurd rfl z⟩
      · rw [wr_c (by decide), u8]
      · rw [wr_c (by decide), u9]
      · rw [wr_c (by decide), u10]
      · rw [wr_c (by decide), u11]
      · rw [wr_c (by decide), u15, lo 72 (by decide) (by decide)]
      · rw [wr_c (by decide), u8, if_pos rfl, wr_f, if_pos rfl]
      · rw [wr_c (by decide), u12]
      · rw [wr_c (by decide), u14]
      · refine ⟨[], RX.nil ?_, Or.inl ⟨rfl, rfl⟩⟩
        rw [wr_c (by decide), u6, if_pos rfl]
    · rw [if_neg hPP] at X15
      exact ⟨_, S, S, X15, (M240 S (fun _ _ _ => rfl)).1 hPP, H, Gw.rf⟩
  · refine Ok.same (r := -1) H ?_ ?_
    · rw [q_15, x_au0 gv hp, bR, if_pos (by decide)]
    · rw [q_240]
      by_cases c2 : S.2 72 40 = 80
      · rw [if_pos c2]
      rw [if_neg c2, m_isAu gv.1, bR]
      simp only [bi_0]
      rw [if_pos hp]
end
end
section
-- 78.advance
/-! advance -/
noncomputable def adF (h : Nat → Nat → Int) (y : Int) (v : Nat) : Int := if h 97 v = 4 ∧ h 100 v = y then h 99 v else 0
section
variable {L : Nat} {xs : Nat → Int} {d : Nat} {S T U S' W : AH}
theorem adF_bd (rv : RV S.2) (y : Int) {n : Nat} (hn : (n : Int) ≤ S.2 72 40) : 0 ≤ sm (adF S.2 y) n ∧ sm (adF S.2 y) n ≤ 80000000000 := by
  have h := rv.1
  have := sm_bd (f := adF S.2 y) (M := 1000000000) (n := n) (fun j hj => by
    have := (rv.2.1 j (by first | decide | omega)).2.2.1
    unfold adF
    split <;> omega)
  omega
theorem x_advs (gv : GV S) (y : Int) : ev (WK L xs) (d + 2) 169 [vr 36, vi y] S = some (sm (adF S.2 y) (S.2 72 40).toNat, S) := by
  have hn := gv.1.1
  have key : ∀ (m v : Nat), v + m = (S.2 72 40).toNat → LQ (WK L xs) (ev (WK L xs) (d + 1)) 169 5 [some (vr 36), some (vi y), some (vl (sm (adF S.2 y) v)), none, some (vi (v : Int)), none] [] S = some (sm (adF S.2 y) (S.2 72 40).toNat, S) := by
    intro m
    induction m with
    | zero =>
      intro v hv
      rw [q_169_5, gv.2.1, if_neg (by first | decide | omega), show v = (S.2 72 40).toNat by omega]
    | succ m ih =>
      intro v hv
      have hvn : (v : Int) < S.2 72 40 := by omega
      obtain ⟨a1, a2, a3, a4, a5, a6, -⟩ := gv.2.2.2.1 v hvn
      have h5 := a1.1
      have e1 : (v : Int) + 1 = ((v + 1 : Nat) : Int) := by omega
      have hi := ih (v + 1) (by first | decide | omega)
      have hb := adF_bd gv.1 y (n := v + 1) (by first | decide | omega)
      rw [sm_su (adF S.2 y) v] at hi hb
      rw [q_169_5, gv.2.1, if_pos (by first | decide | omega), x_au gv hvn, bR, Int.toNat_natCast, if_neg (by first | decide | omega), g14a a1, w32e (by first | decide | omega) (by first | decide | omega), e1]
      simp only [k11 a1, rdvD h5, a3, a5, a6]
      by_cases c1 : S.2 97 v = 4
      · rw [if_pos c1]
        by_cases c2 : S.2 100 v = y
        · have : adF S.2 y v = S.2 99 v := by unfold adF; rw [if_pos ⟨c1, c2⟩]
          rw [this] at hi hb
          rw [if_pos c2, w64e (by first | decide | omega) (by first | decide | omega)]
          exact hi
        · have : adF S.2 y v = 0 := by unfold adF; rw [if_neg (fun z => c2 z.2)]
          rw [this, Int.add_zero] at hi
          rw [if_neg c2]
          exact hi
      · have : adF S.2 y v = 0 := by unfold adF; rw [if_neg (fun z => c1 z.1)]
        rw [this, Int.add_zero] at hi
        rw [if_neg c1]
        exact hi
  rw [q_169]
  exact key (S.2 72 40).toNat 0 (by first | decide | omega)
end
end
section
-- 79.oadv
/-! advance: the call -/
section
variable {L : Nat} {xs : Nat → Int} {d : Nat} {S T U S' W : AH}
theorem m_advL (rv : RV S.2) {s : Int} (hs : 0 ≤ s ∧ s ≤ 1000000000) (hd : Int) : ∀ (m v : Nat), v + m = (S.2 72 40).toNat → LQ (WK L xs) (ev (WK L xs) (d + 1)) 242 32 [some (vr 72), some (vi hd), some (vi s), some (vl (s + sm (adF S.2 (yr (S.2 72 2))) v)), none, some (vi (v : Int))] [] S = LQ (WK L xs) (ev (WK L xs) (d + 1)) 242 32 [some (vr 72), some (vi hd), some (vi s), some (vl (s + sm (adF S.2 (yr (S.2 72 2))) (S.2 72 40).toNat)), none, some (vi ((S.2 72 40).toNat : Int))] [] S := by
  have hn := rv.1
  intro m
  induction m with
  | zero =>
    intro v hv
    rw [show v = (S.2 72 40).toNat by omega]
  | succ m ih =>
    intro v hv
    have hvn : (v : Int) < S.2 72 40 := by omega
    have hq : (0 : Int) ≤ (v : Int) ∧ (v : Int) < 80 := by omega
    have e1 : (v : Int) + 1 = ((v + 1 : Nat) : Int) := by omega
    have hi := ih (v + 1) (by first | decide | omega)
    have hb := adF_bd rv (yr (S.2 72 2)) (n := v + 1) (by first | decide | omega)
    have hb0 := adF_bd rv (yr (S.2 72 2)) (n := v) (by first | decide | omega)
    rw [sm_su (adF S.2 (yr (S.2 72 2))) v] at hi hb
    rw [← hi, q_242_32, if_pos hvn, w32e (x := (v : Int) + 1) (by first | decide | omega) (by first | decide | omega), e1]
    simp only [if_pos hq, Int.toNat_natCast]
    rw [m_year, bR, show idiv (S.2 72 2) 360 = yr (S.2 72 2) from rfl]
    by_cases c1 : S.2 97 v = 4
    · rw [if_pos c1]
      by_cases c2 : S.2 100 v = yr (S.2 72 2)
      · have : adF S.2 (yr (S.2 72 2)) v = S.2 99 v := by unfold adF; rw [if_pos ⟨c1, c2⟩]
        rw [this] at hb ⊢
        rw [if_pos c2, w64e (by first | decide | omega) (by first | decide | omega), Int.add_assoc]
      · have : adF S.2 (yr (S.2 72 2)) v = 0 := by unfold adF; rw [if_neg (fun z => c2 z.2)]
        rw [this, if_neg c2, w64e (by first | decide | omega) (by first | decide | omega), Int.add_zero, Int.add_zero]
    · have : adF S.2 (yr (S.2 72 2)) v = 0 := by unfold adF; rw [if_neg (fun z => c1 z.1)]
      rw [this, if_neg c1, w64e (by first | decide | omega) (by first | decide | omega), Int.add_zero, Int.add_zero]
theorem o_advance (H : Inv S) (hd s : Int) : Ok L xs 16 242 [vi hd, vi s] S := by
  have gv := H.gv
  have gp := H.gp
  have ht := H.gt
  have i1 := H.1
  have hyN := H.yN
  have hn80 := gv.1.1
  obtain ⟨n, hn⟩ := Int.eq_ofNat_of_zero_le hn80.1
  have en : S.2 36 1 = n := by rw [gv.2.1, hn]
  by_cases hP : (0 ≤ hd ∧ hd < S.2 72 4) ∧ (0 ≤ s ∧ s ≤ 1000000000) ∧ n < 80
  · obtain ⟨c1, c2, c3⟩ := hP
    obtain ⟨T, t1, t2, t3⟩ := x_nmb (L := L) (xs := xs) (d := 194) H.gl (k := 3) (by decide) (S.2 72 2)
    generalize hNm : nmb S.2 3 (S.2 72 2) = nm at t1
    have HT := H.s35 t2 t3
    have bd := adF_bd gv.1 (yr (S.2 72 2)) (n := n) (by first | decide | omega)
    have eAd : adF T.2 = adF S.2 := by
      funext y v
      unfold adF
      rw [t3 97 (by decide), t3 99 (by decide), t3 100 (by decide)]
    generalize hA : sm (adF S.2 (yr (S.2 72 2))) n = A at bd
    have x0 : ev (WK L xs) 200 16 [vr 15, vi hd, vi s] S = if w64 (nm * 1000) < A + s then some (-1, T) else some ((n : Int), wr (wr (auS T 4 hd s (yr (S.2 72 2)) (S.2 72 2) 27 (-1)) 37 n (T.1.1 : Int)) 36 1 ((n : Int) + 1)) := by
      rw [q_16, x_isHead, bR, gp.2.1]
      simp only [bi_0]
      rw [if_neg (fun z => z c1), x_isSum, bR]
      simp only [bi_0]
      rw [if_neg (fun z => z c2), q_166, en, if_pos (by first | decide | omega), bR, if_pos rfl, x_yearOf, bR, ht.1]
      rw [show ev (WK L xs) 199 108 [vr 31, vi 3, vi (S.2 72 2)] S = some (nm, T) from t1, bR, x_advs HT.gv, bR, eAd, t3 72 (by decide), hn, Int.toNat_natCast, hA, w64e (x := A + s) (by first | decide | omega) (by first | decide | omega)]
      simp only [lc_gt]
      have hi1 : 151 ≤ T.1.1 := by rw [t2]; exact i1
      by_cases c4 : w64 (nm * 1000) < A + s
      · rw [if_pos c4, if_pos c4]
      have hs : (nw T 11 14).1.2.2 T.1.1 = (11, 14) := by rw [nw_s, if_pos rfl]
      have g1 : ∀ r : Rs, gd (Nat.beq (shp (WK L xs) (nw T 11 14) T.1.1).1 11 && Nat.ble 2 8) r = r := fun r => by rw [shpD hi1, hs]; rfl
      have e15 : (nw T 11 14).2 15 0 = S.2 72 2 := by rw [nw_2, if_neg (by first | decide | omega), t3 15 (by decide), ht.1]
      rw [if_neg c4, if_neg c4, g1, e15, x_newAu hi1, bR]
      rw [x_addAu (auS_o hi1).1 (by rw [(auS_hi (a := 36) (by first | decide | omega)).2, t3 36 (by decide), en]) c3, bR]
    have M0 : ∀ W : AH, (∀ a, 72 ≤ a → a < 151 → W.2 a = S.2 a) → GL W → ∃ U, U.1 = W.1 ∧ (∀ a, a ≠ 96 → U.2 a = W.2 a) ∧ ev (WK L xs) 200 242 [vr 72, vi hd, vi s] W = if w64 (nm * 1000) < A + s then some (-1, U) else bindR (ev (WK L xs) 199 239 [vr 72, vi 4, vi hd, vi s, vi (yr (S.2 72 2))] U) (fun r5 S6 => some (r5, S6)) := by
      intro W hW glW
      obtain ⟨rk, rv, rp⟩ := H.ref (W := W) (fun a q1 q2 _ => hW a q1 q2)
      have w72 := hW 72 (by decide) (by decide)
      obtain ⟨U, u1, u2, u3⟩ := m_nmb (L := L) (xs := xs) (d := 195) glW (k := 3) (by decide) (S.2 72 2)
      rw [nmb_fr 3 _ (hW 78 (by decide) (by decide)) (hW 79 (by decide) (by decide)) (hW 80 (by decide) (by decide)) (hW 81 (by decide) (by decide)) (hW 94 (by decide) (by decide)) (hW 95 (by decide) (by decide)) (by rw [w72]), hNm] at u1
      refine ⟨U, u2, u3, ?_⟩
      have eA2 : adF W.2 = adF S.2 := by
        funext y v
        unfold adF
        rw [hW 97 (by decide) (by decide), hW 99 (by decide) (by decide), hW 100 (by decide) (by decide)]
      have lp := m_advL (L := L) (xs := xs) (d := 198) rv c2 hd n 0 (by rw [w72, hn]; omega)
      rw [eA2, w72, hn, Int.toNat_natCast, hA, show sm (adF S.2 (yr (S.2 72 2))) 0 = 0 from rfl, Int.add_zero] at lp
      rw [q_242, w72, hn, if_neg (by first | decide | omega), m_isHead rp, bR]
      simp only [bi_0]
      rw [w72, if_neg (fun z => z c1), m_isSum, bR]
      simp only [bi_0]
      rw [if_neg (fun z => z c2)]
      refine Eq.trans lp ?_
      rw [q_242_32, w72, hn, if_neg (by first | decide | omega)]
      rw [show ev (WK L xs) 199 236 [vr 72, vi 101, vi (S.2 72 2)] W = some (nm, U) from u1, bR, m_year, bR, u3 72 (by decide), w72, Int.mul_comm 1000 nm, Int.add_comm s A]
      simp only [lc_gt]
      rfl
    by_cases c4 : w64 (nm * 1000) < A + s
    · rw [if_pos c4] at x0
      obtain ⟨U, u1, u2, u3⟩ := M0 T (fun a q1 q2 => t3 a (by first | decide | omega)) HT.gl
      rw [if_pos c4] at u3
      exact ⟨-1, T, U, x0, u3, HT.s96 u1 u2, Gw.of (u1.trans t2)⟩
    · rw [if_neg c4] at x0
      have hi1 : 151 ≤ T.1.1 := by rw [t2]; exact i1
      generalize hB : auS T 4 hd s (yr (S.2 72 2)) (S.2 72 2) 27 (-1) = B at x0
      have loB : ∀ a, a < 151 → B.2 a = T.2 a := fun a q => by rw [← hB, (auS_hi (by first | decide | omega)).2]
      generalize hW : wr (wr B 37 n (T.1.1 : Int)) 36 1 ((n : Int) + 1) = W at x0
      have hW1 : W.1 = B.1 := by rw [← hW]; rfl
      have loT : ∀ a, a < 151 → a ≠ 36 → a ≠ 37 → W.2 a = T.2 a := fun a q1 q2 q3 => by rw [← hW, wr_c q2, wr_c q3, loB a q1]
      have lo : ∀ a, 72 ≤ a → a < 151 → W.2 a = S.2 a := fun a q1 q2 => by rw [loT a q2 (by first | decide | omega) (by first | decide | omega), t3 a (by first | decide | omega)]
      have hFx : Fx (fun _ => False) T W := ⟨by rw [hW1, ← hB]; show T.1.1 ≤ T.1.1 + 1 + 1; omega, fun a q1 q2 => ⟨by rw [hW1, ← hB, (auS_hi q2).1], fun _ => by rw [← hW, wr_c (by first | decide | omega), wr_c (by first | decide | omega), ← hB, (auS_hi q2).2]⟩⟩
      have glW : GL W := HT.gl.fx hFx (fun a q => q.elim) (fun a q => loT a (by first | decide | omega) (by first | decide | omega) (by first | decide | omega)) (by rw [loT 72 (by decide) (by decide) (by decide)]) (fun t x _ q => q.cells (fun a q1 q2 => loT a (by first | decide | omega) (by first | decide | omega) (by first | decide | omega)))
      obtain ⟨V, v1, v2, v3⟩ := M0 W lo glW
      rw [if_neg c4] at v3
      have V72 : V.2 72 = S.2 72 := by rw [v2 72 (by decide), lo 72 (by decide) (by decide)]
      obtain ⟨U, u1, u2, u3, u4, u5, u6, u7, u8, u9, u10, u11, u12, u13, u14, u15⟩ := m_addAu (L := L) (xs := xs) (d := 198) (W := V) (n := n) (by rw [V72, hn]) c3 4 hd s (yr (S.2 72 2))
      rw [show ev (WK L xs) 199 239 [vr 72, vi 4, vi hd, vi s, vi (yr (S.2 72 2))] V = some ((n : Int), U) from u1, bR] at v3
      refine ⟨_, W, U, x0, v3, ?_, ?_⟩
      rotate_left
      · unfold Gw
        rw [u2, v1, hW1, ← hB]
        have e := t2
        exact ⟨by show T.1.1 + 1 + 1 ≤ _; rw [t2]; omega, by show T.1.2.1 + 14 + 10 ≤ _; rw [t2]; omega⟩
      have lV : ∀ a, a ≠ 96 → a ≠ 36 → a ≠ 37 → a < 151 → V.2 a = T.2 a := fun a q1 q2 q3 q4 => by rw [v2 a q1, loT a q4 q2 q3]
      have T72 := t3 72 (by decide)
      have H2 : Inv ((U.1, fun a => if a = 96 then T.2 96 else U.2 a) : AH) := by
        have q96 : ∀ a, a ≠ 96 → ((U.1, fun a => if a = 96 then T.2 96 else U.2 a) : AH).2 a = U.2 a := fun a q => if_neg q
        refine HT.newB (tx := 27) (k := 4) (hd := hd) (s := s) (y := yr (S.2 72 2)) (td := S.2 72 2) (bs := -1) (by rw [T72, hn]) c3 ?_ (fun a q => ?_) (fun a q1 q2 q3 q4 q5 q6 => ?_) (fun k q => ?_) ?_ (fun k q => ?_) ?_ (fun j => ?_) (fun a j q1 q2 q3 => ?_) (fun t x q1 q2 => ?_) ?_ ?_ ?_ ?_ ?_ ?_ ?_ ?_ ?_ ?_
        · rw [hB, ← hW1, ← v1]; exact u2
        · rw [q96 a (by first | decide | omega), u3 a (by first | decide | omega) (by first | decide | omega) (by first | decide | omega), v2 a (by first | decide | omega), ← hW, wr_c (by first | decide | omega), wr_c (by first | decide | omega), hB]
        · by_cases e : a = 96
          · subst e
            show (if (96 : Nat) = 96 then T.2 96 else U.2 96) = T.2 96
            rw [if_pos rfl]
          · rw [q96 a e, u3 a (by first | decide | omega) (by first | decide | omega) (by first | decide | omega), lV a e q2 q3 q1]
        · rw [q96 36 (by decide), u3 36 (by decide) (by decide) (by decide), v2 36 (by decide), ← hW, wr_f, if_neg q, wr_c (by decide), loB 36 (by decide)]
        · rw [q96 36 (by decide), u3 36 (by decide) (by decide) (by decide), v2 36 (by decide), ← hW, wr_f, if_pos rfl]
        · rw [q96 72 (by decide), u4 k q, V72, T72]
        · rw [q96 72 (by decide), u5]
        · rw [q96 37 (by decide), u3 37 (by decide) (by decide) (by decide), v2 37 (by decide), ← hW, wr_c (by decide), wr_f, loB 37 (by decide)]
        · rw [q96 a (by first | decide | omega), u7 a j q1 q2 q3, lV a (by first | decide | omega) (by first | decide | omega) (by first | decide | omega) (by first | decide | omega)]
        · refine q2.c78 ?_ (fun a z1 z2 => ?_)
          · rw [q96 78 (by decide), u6 t, if_neg q1, lV 78 (by decide) (by decide) (by decide) (by decide)]
          · rw [q96 a (by first | decide | omega), u3 a (by first | decide | omega) (by first | decide | omega) (by first | decide | omega), lV a (by first | decide | omega) (by first | decide | omega) (by first | decide | omega) (by first | decide | omega)]
        · unfold nwR
          rw [q96 97 (by decide), q96 98 (by decide), q96 99 (by decide), q96 100 (by decide), q96 102 (by decide), q96 104 (by decide), u8, u9, u10, u11, u13, u15, V72, T72]
          exact ⟨by decide, c1, c2, by omega, ht.2, fun z => absurd z (by decide), fun _ => rfl⟩
        · rw [q96 97 (by decide), u8]
        · rw [q96 98 (by decide), u9]
        · rw [q96 99 (by decide), u10]
        · rw [q96 100 (by decide), u11]
        · rw [q96 104 (by decide), u15, V72]
        · rw [q96 97 (by decide), u8, if_neg (by decide)]
        · rw [q96 101 (by decide), u12]
        · rw [q96 103 (by decide), u14]
        · refine ⟨[], RX.nil ?_, Or.inl ⟨rfl, rfl⟩⟩
          rw [q96 78 (by decide), u6, if_pos rfl]
      exact H2.s96 rfl (fun a q => (if_neg q).symm)
  · refine Ok.same (r := -1) H ?_ ?_
    · rw [q_16, x_isHead, bR, gp.2.1]
      simp only [bi_0]
      by_cases c1 : 0 ≤ hd ∧ hd < S.2 72 4
      rotate_left
      · rw [if_pos c1]
      rw [if_neg (fun z => z c1), x_isSum, bR]
      simp only [bi_0]
      by_cases c2 : 0 ≤ s ∧ s ≤ 1000000000
      rotate_left
      · rw [if_pos c2]
      have c3 : ¬ n < 80 := fun z => hP ⟨c1, c2, z⟩
      rw [if_neg (fun z => z c2), q_166, en, if_neg (by first | decide | omega), bR, if_neg (by decide)]
    · rw [q_242, hn]
      by_cases c3 : n < 80
      rotate_left
      · rw [if_pos (by first | decide | omega)]
      rw [if_neg (by first | decide | omega), m_isHead gp.1, bR]
      simp only [bi_0]
      by_cases c1 : 0 ≤ hd ∧ hd < S.2 72 4
      rotate_left
      · rw [if_pos c1]
      have c2 : ¬ (0 ≤ s ∧ s ≤ 1000000000) := fun z => hP ⟨c1, z, c3⟩
      rw [if_neg (fun z => z c1), m_isSum, bR]
      simp only [bi_0]
      rw [if_pos c2]
end
end
section
-- 80.claim
/-! a new claim -/
noncomputable def clF (hn hd k s ct td : Int) : Nat → Int := fun j => match j with
  | 0 => hn
  | 1 => hd
  | 2 => k
  | 3 => s
  | 4 => ct
  | 5 => td
  | 7 => -1
  | 8 => -1
  | 9 => -1
  | 13 => -1
  | _ => 0
section
variable {L : Nat} {xs : Nat → Int} {d : Nat} {S T U S' W : AH}
theorem x_newCl (h : 151 ≤ S.1.1) (hn hd k s ct td : Int) (ht : td = 0 ∨ td = 1) : ev (WK L xs) (d + 1) 77 [vr S.1.1, vi hn, vi hd, vi k, vi s, vi ct, vi td] (nw S 12 15) = some (0, nwc S 12 15 (clF hn hd k s ct td)) := by
  have hs : (nw S 12 15).1.2.2 S.1.1 = (12, 15) := by rw [nw_s, if_pos rfl]
  rw [q_77]
  refine gd_go (gt_0 h hs) ?_
  refine gd_go (gt_w h hs) ?_
  refine gd_go (gt_w h hs) ?_
  refine gd_go (gt_w h hs) ?_
  refine gd_go (gt_w h hs) ?_
  refine gd_go (gt_w h hs) ?_
  refine gd_go (gt_w h hs) ?_
  refine gd_go (gt_w h hs) ?_
  refine gd_go (gt_w h hs) ?_
  refine gd_go (gt_w h hs) ?_
  refine gd_go (gt_w h hs) ?_
  refine gd_go (gt_w h hs) ?_
  refine gd_go (gt_w h hs) ?_
  refine gd_go (gt_w h hs) ?_
  refine gd_go (gt_w h hs) ?_
  refine gd_go (gt_w h hs) ?_
  rw [if_pos ht]
  congr 2
  refine Prod.ext rfl ?_
  funext b j
  simp only [wr_2, nw_2]
  show _ = (if b = S.1.1 then clF hn hd k s ct td else S.2 b) j
  by_cases e : b = S.1.1
  · subst e
    rw [if_pos rfl]
    simp only [true_and, if_true]
    unfold clF
    match j with
    | 0 => rfl
    | 1 => rfl
    | 2 => rfl
    | 3 => rfl
    | 4 => rfl
    | 5 => rfl
    | 6 => rfl
    | 7 => rfl
    | 8 => rfl
    | 9 => rfl
    | 10 => rfl
    | 11 => rfl
    | 12 => rfl
    | 13 => rfl
    | 14 => rfl
    | j + 15 => simp
  · rw [if_neg e]
    simp only [e, false_and, if_false]
/-- what a new claim is, in the reference's state -/
noncomputable def nwK (h : Nat → Nat → Int) (heads hands contracts : Int) (n : Nat) : Prop := (0 ≤ h 108 n ∧ h 108 n < hands) ∧ (0 ≤ h 109 n ∧ h 109 n < heads) ∧ (0 ≤ h 110 n ∧ h 110 n ≤ 9) ∧ (1 ≤ h 111 n ∧ h 111 n ≤ 1000000000) ∧ (-1 ≤ h 112 n ∧ h 112 n < contracts) ∧ (h 113 n = 0 ∨ h 113 n = 1) ∧ h 115 n = -1 ∧ h 116 n = -1
theorem Inv.newK (H : Inv S) {n o : Nat} (hn : S.2 72 52 = n) (hn300 : n < 300) (ho : S.1.1 ≤ o) (hop : isO S' o 12 15) (hlen : S.1.1 ≤ S'.1.1) (hF : ∀ a, 151 ≤ a → a < S.1.1 → S'.1.2.2 a = S.1.2.2 a ∧ S'.2 a = S.2 a)
    (hc : ∀ a, a < 151 → a ≠ 43 → a ≠ 44 → a ≠ 72 → ¬ (108 ≤ a ∧ a ≤ 113) → ¬ (115 ≤ a ∧ a ≤ 116) → S'.2 a = S.2 a) (h43 : ∀ k, k ≠ 1 → S'.2 43 k = S.2 43 k) (e43 : S'.2 43 1 = (n : Int) + 1) (h72 : ∀ k, k ≠ 52 → S'.2 72 k = S.2 72 k) (e72 : S'.2 72 52 = (n : Int) + 1) (h44 : ∀ j, S'.2 44 j = if j = n then (o : Int) else S.2 44 j)
    (hj : ∀ a j, 108 ≤ a → a ≤ 116 → j ≠ n → S'.2 a j = S.2 a j) (hR : nwK S'.2 (S.2 72 4) (S.2 72 5) (S.2 72 70) n) (hO : ∀ j, S'.2 o j = clF (S'.2 108 n) (S'.2 109 n) (S'.2 110 n) (S'.2 111 n) (S'.2 112 n) (S'.2 113 n) j) : Inv S' := by
  obtain ⟨i1, gt, gc, gx, gb, gp, gl, gv, gk, gu, gw, gn⟩ := H
  have hFx : Fx (fun _ => False) S S' := ⟨hlen, fun a q1 q2 => ⟨(hF a q1 q2).1, fun _ => (hF a q1 q2).2⟩⟩
  have hX : Xt (fun _ => False) S := fun a q => q.elim
  have C : ∀ a, a < 43 ∨ (44 < a ∧ a < 72) ∨ (72 < a ∧ a < 108) ∨ a = 114 ∨ (116 < a ∧ a < 151) → S'.2 a = S.2 a := fun a q => hc a (by first | decide | omega) (by first | decide | omega) (by first | decide | omega) (by first | decide | omega) (by first | decide | omega) (by first | decide | omega)
  have c15 := C 15 (by first | decide | omega)
  have rv := gv.1
  have rk := gk.1
  obtain ⟨n1, n2, n3, n4, n5, n6, n7, n8⟩ := hR
  have hcb : ∀ c : Nat, c ≠ n → cby S'.2 c = cby S.2 c := fun c hc2 => by
    unfold cby
    rw [hj 116 c (by first | decide | omega) (by first | decide | omega) hc2, C 97 (by first | decide | omega), C 102 (by first | decide | omega)]
  have hpi : ∀ (c : Nat) (y : Int), c ≠ n → pin S'.2 c y = pin S.2 c y := fun c y hc2 => by
    unfold pin
    rw [hj 115 c (by first | decide | omega) (by first | decide | omega) hc2]
  have hpn : ∀ y : Int, pin S'.2 n y = false := fun y => by
    unfold pin
    rw [n7]
    exact decide_eq_false (fun z => z.1 rfl)
  have eN : nClaims S.2 = n := by unfold nClaims; rw [hn]; rfl
  have eN' : nClaims S'.2 = n + 1 := by unfold nClaims; rw [e72]; omega
  have hpb : pby S'.2 = pby S.2 := by
    funext v y
    unfold pby
    rw [eN, eN', sm_su, hpn, if_neg (fun z => absurd z.1 (by decide)), Int.add_zero]
    refine sm_congr (fun c hc2 => ?_)
    rw [hcb c (by first | decide | omega), hpi c y (by first | decide | omega), hj 111 c (by first | decide | omega) (by first | decide | omega) (by first | decide | omega)]
  have hq : pct S'.2 = pct S.2 := by
    funext v y
    unfold pct
    rw [eN, eN', sm_su, hpn, if_neg (fun z => absurd z.1 (by decide)), Int.add_zero]
    refine sm_congr (fun c hc2 => ?_)
    rw [hpi c y (by first | decide | omega), hj 112 c (by first | decide | omega) (by first | decide | omega) (by first | decide | omega), hj 111 c (by first | decide | omega) (by first | decide | omega) (by first | decide | omega)]
  have hm : HM S.2 S'.2 := by unfold HM; rw [h72 _ (by decide), h72 _ (by decide)]; omega
  refine ⟨Nat.le_trans i1 hlen, gt.fr (by rw [c15]) (h72 _ (by decide)), gc.fr (by rw [c15]) (h72 _ (by decide)), gx.fr (by rw [c15]) (h72 _ (by decide)), gb.fr (by rw [c15]) (h72 _ (by decide)) (C _ (by first | decide | omega)) (C _ (by first | decide | omega)), gp.fr (h72 _ (by decide)) (h72 _ (by decide)) (fun a q => C a (by first | decide | omega)), gl.fx hFx hX (fun a q => C a (by first | decide | omega)) (h72 _ (by decide)) (fun t x q1 q => q.cells (fun a q1 q2 => C a (by first | decide | omega))), gv.fx hFx hX (fun v hv => ⟨fun z => z, fun z => z⟩) (fun a q => C a (by first | decide | omega)) (fun k q => h72 k (by first | decide | omega)) hm hpb hq, ?_, gu.fr (h72 _ (by decide)) (by rw [C 50 (by first | decide | omega)]) (by rw [C 50 (by first | decide | omega)]) (fun a q => C a (by first | decide | omega)), gw.fr (h72 _ (by decide)) (h72 _ (by decide)) (by rw [C 54 (by first | decide | omega)]) (by rw [C 54 (by first | decide | omega)]) (fun a q => C a (by first | decide | omega)), gn.fr (h72 _ (by decide)) (h72 _ (by decide)) (h72 _ (by decide)) (by rw [C 63 (by first | decide | omega)]) (by rw [C 63 (by first | decide | omega)]) (by rw [C 63 (by first | decide | omega)]) (fun a q => C a (by first | decide | omega))⟩
  obtain ⟨h1, h2, h3, h4, h5, h6, h7, h8, h9, h10, h11⟩ := gk
  have gk0 : GK S := ⟨h1, h2, h3, h4, h5, h6, h7, h8, h9, h10, h11⟩
  obtain ⟨g1, g2, g3, g4, g5, g6⟩ := h1
  obtain ⟨z1, z2, z3, z4, z5, z6, z7⟩ := g5 n (by first | decide | omega) hn300
  have ecl : ∀ c, c ≠ n → clA S' c = clA S c := fun c q => by unfold clA; rw [h44 c, if_neg q]
  have oN : clA S' n = o := by
    unfold clA
    rw [h44 n, if_pos rfl]
    rfl
  unfold GK
  rw [eN', h43 3 (by decide), h43 4 (by decide), h43 9 (by decide), e43, e72, h72 53 (by decide), h72 102 (by decide), C 45 (by first | decide | omega), C 46 (by first | decide | omega), C 47 (by first | decide | omega), C 48 (by first | decide | omega), C 49 (by first | decide | omega), C 117 (by first | decide | omega), C 146 (by first | decide | omega), C 147 (by first | decide | omega), C 148 (by first | decide | omega), C 149 (by first | decide | omega)]
  refine ⟨?_, rfl, h3, h4, fun c hc2 => ?_, fun c e q1 q2 q => ?_, fun i hi => ?_, fun c hc2 q => ?_, ?_, h10, h11⟩
  · unfold RK
    rw [e72, h72 53 (by decide), h72 102 (by decide), h72 4 (by decide), h72 5 (by decide), h72 40 (by decide), h72 70 (by decide), C 97 (by first | decide | omega), C 114 (by first | decide | omega), C 117 (by first | decide | omega), C 118 (by first | decide | omega), C 119 (by first | decide | omega), C 120 (by first | decide | omega), C 121 (by first | decide | omega), C 122 (by first | decide | omega), C 123 (by first | decide | omega), C 147 (by first | decide | omega), C 148 (by first | decide | omega)]
    refine ⟨by omega, by omega, g3, fun c hc2 => ?_, fun c q1 q2 => g5 c (by first | decide | omega) q2, fun f hf => ?_⟩
    · by_cases e : c = n
      · subst e
        rw [z1, z3, z4, z5, z6, z7]
        exact ⟨n1, n2, n3, n4, n5, by decide, Or.inl ⟨n7, n8⟩, n6, Or.inl rfl, Or.inl rfl, Or.inl rfl, ⟨by decide, by omega⟩, by decide, by omega⟩
      · rw [hj 108 c (by first | decide | omega) (by first | decide | omega) e, hj 109 c (by first | decide | omega) (by first | decide | omega) e, hj 110 c (by first | decide | omega) (by first | decide | omega) e, hj 111 c (by first | decide | omega) (by first | decide | omega) e, hj 112 c (by first | decide | omega) (by first | decide | omega) e, hj 113 c (by first | decide | omega) (by first | decide | omega) e, hj 115 c (by first | decide | omega) (by first | decide | omega) e, hj 116 c (by first | decide | omega) (by first | decide | omega) e]
        exact g4 c (by first | decide | omega)
    · obtain ⟨f1, f2⟩ := g6 f hf
      rw [hj 115 _ (by first | decide | omega) (by first | decide | omega) (show (S.2 147 f).toNat ≠ n by omega)]
      exact ⟨⟨f1.1, by omega, f1.2.2⟩, f2⟩
  · by_cases e : c = n
    · subst e
      have ecb : cby S'.2 c = -1 := by unfold cby; rw [n8, if_neg (fun z => z.1 rfl)]
      unfold AK
      rw [oN, ecb, hO 0, hO 1, hO 2, hO 3, hO 4, hO 5, hO 6, hO 7, hO 8, hO 9, hO 10, hO 11, hO 12, hO 13, hO 14, C 114 (by first | decide | omega), C 118 (by first | decide | omega), C 119 (by first | decide | omega), C 120 (by first | decide | omega), C 121 (by first | decide | omega), C 122 (by first | decide | omega), C 123 (by first | decide | omega), z1, z2, z3, z4, z5, z6, z7, n7, n8]
      exact ⟨hop, rfl, rfl, rfl, rfl, rfl, rfl, rfl, rfl, rfl, rfl, rfl, rfl, rfl, rfl, rfl⟩
    · have A := h5 c (by first | decide | omega)
      have ob := gk0.ob (c := c) (by first | decide | omega)
      have eo := (hF _ ob.1 ob.2.1).2
      unfold AK at A ⊢
      rw [ecl c e, eo, hcb c e, C 114 (by first | decide | omega), C 118 (by first | decide | omega), C 119 (by first | decide | omega), C 120 (by first | decide | omega), C 121 (by first | decide | omega), C 122 (by first | decide | omega), C 123 (by first | decide | omega), hj 108 c (by first | decide | omega) (by first | decide | omega) e, hj 109 c (by first | decide | omega) (by first | decide | omega) e, hj 110 c (by first | decide | omega) (by first | decide | omega) e, hj 111 c (by first | decide | omega) (by first | decide | omega) e, hj 112 c (by first | decide | omega) (by first | decide | omega) e, hj 113 c (by first | decide | omega) (by first | decide | omega) e, hj 115 c (by first | decide | omega) (by first | decide | omega) e, hj 116 c (by first | decide | omega) (by first | decide | omega) e]
      exact ⟨A.1.fx hFx, A.2⟩
  · by_cases e1 : c = n
    · by_cases e2 : e = n
      · rw [e1, e2]
      · have := (gk0.ob (c := e) (by first | decide | omega)).2.1
        rw [e1, oN, ecl e e2] at q
        omega
    · have := (gk0.ob (c := c) (by first | decide | omega)).2.1
      by_cases e2 : e = n
      · rw [e2, oN, ecl c e1] at q
        omega
      · rw [ecl c e1, ecl e e2] at q
        exact h6 c e (by first | decide | omega) (by first | decide | omega) q
  · obtain ⟨f1, f2, f3, f4⟩ := h7 i hi
    rw [hj 115 _ (by first | decide | omega) (by first | decide | omega) (show (S.2 45 i).toNat ≠ n by omega)]
    exact ⟨f1, by omega, f3, f4⟩
  · have e : c ≠ n := fun e => by rw [e, n7] at q; exact q rfl
    rw [hj 115 c (by first | decide | omega) (by first | decide | omega) e] at q
    exact h8 c (by first | decide | omega) q
  · rw [sm_su, n7, if_neg (fun z => z rfl), Int.add_zero, h9, eN]
    refine sm_congr (fun c hc2 => ?_)
    rw [hj 115 c (by first | decide | omega) (by first | decide | omega) (by first | decide | omega), hj 111 c (by first | decide | omega) (by first | decide | omega) (by first | decide | omega)]
end
end
section
-- 81.oclaim
/-! claim: the call -/
section
variable {L : Nat} {xs : Nat → Int} {d : Nat} {S T U S' W : AH}
noncomputable def clQ (h : Nat → Nat → Int) (p1 p2 p3 p4 p5 : Int) : Prop := (0 ≤ p1 ∧ p1 < h 72 5) ∧ (0 ≤ p2 ∧ p2 < h 72 4) ∧ uN h p2 (h 75 p1.toNat) = true ∧ (0 ≤ p3 ∧ p3 ≤ 9) ∧ (1 ≤ p4 ∧ p4 ≤ 1000000000) ∧ (-1 ≤ p5 ∧ p5 < h 72 70)
theorem x_claim (H : Inv S) (p1 p2 p3 p4 p5 p6 : Int) (h6 : p6 = 0 ∨ p6 = 1) : (¬ clQ S.2 p1 p2 p3 p4 p5 → ev (WK L xs) 200 25 [vr 15, vi p1, vi p2, vi p3, vi p4, vi p5, vi p6] S = some (-1, S)) ∧ (clQ S.2 p1 p2 p3 p4 p5 → ev (WK L xs) 200 25 [vr 15, vi p1, vi p2, vi p3, vi p4, vi p5, vi p6] S = ev (WK L xs) 199 82 [vr 43, vr S.1.1] (nwc S 12 15 (clF p1 p2 p3 p4 p5 p6))) := by
  have gp := H.gp
  have gv := H.gv
  have i1 := H.1
  have hnd : ∀ r : Rs, bindR r (fun r S' => some (r, S')) = r := fun r => by rcases r with _ | ⟨a, b⟩ <;> rfl
  have hs : (nw S 12 15).1.2.2 S.1.1 = (12, 15) := by rw [nw_s, if_pos rfl]
  have g1 : ∀ r : Rs, gd (Nat.beq (shp (WK L xs) (nw S 12 15) S.1.1).1 12 && Nat.ble 2 8) r = r := fun r => by rw [shpD i1, hs]; rfl
  rw [q_25, x_isHand, bR, gp.2.2.1]
  simp only [bi_0]
  by_cases c1 : 0 ≤ p1 ∧ p1 < S.2 72 5
  rotate_left
  · rw [if_pos c1]
    exact ⟨fun _ => rfl, fun z => absurd z.1 c1⟩
  obtain ⟨w, hw⟩ := Int.eq_ofNat_of_zero_le c1.1
  subst hw
  have e19 := (gp.2.2.2.2.1 w c1.2).1
  have r75 := gp.1.2.2.2 w c1.2
  have h16 := gp.1.2.1
  rw [if_neg (fun z => z c1), q_130, x_isHand, bR, gp.2.2.1]
  simp only [bi_0]
  rw [if_neg (fun z => z c1), if_pos (by first | decide | omega), Int.toNat_natCast, e19, bR, x_isUnder gp, bR]
  simp only [bi_0]
  unfold clQ
  rw [Int.toNat_natCast]
  by_cases c2 : 0 ≤ p2 ∧ p2 < S.2 72 4
  rotate_left
  · rw [if_pos (fun z => c2 z.1)]
    exact ⟨fun _ => rfl, fun z => absurd z.2.1 c2⟩
  by_cases c3 : uN S.2 p2 (S.2 75 w) = true
  rotate_left
  · rw [if_pos (fun z => c3 z.2.2)]
    exact ⟨fun _ => rfl, fun z => absurd z.2.2.1 c3⟩
  rw [if_neg (fun z => z ⟨c2, ⟨r75.1, r75.2.1⟩, c3⟩)]
  by_cases c4 : 0 ≤ p3 ∧ p3 ≤ 9
  rotate_left
  · by_cases c5 : p3 < 0
    · rw [if_pos c5]
      exact ⟨fun _ => rfl, fun z => absurd z.2.2.2.1 c4⟩
    · rw [if_neg c5, if_pos (by first | decide | omega)]
      exact ⟨fun _ => rfl, fun z => absurd z.2.2.2.1 c4⟩
  rw [if_neg (by first | decide | omega), if_neg (by first | decide | omega), x_isSum, bR]
  simp only [bi_0]
  by_cases c5 : 1 ≤ p4 ∧ p4 ≤ 1000000000
  rotate_left
  · by_cases c6 : 0 ≤ p4 ∧ p4 ≤ 1000000000
    · rw [if_neg (fun z => z c6), if_pos (by first | decide | omega)]
      exact ⟨fun _ => rfl, fun z => absurd z.2.2.2.2.1 c5⟩
    · rw [if_pos c6]
      exact ⟨fun _ => rfl, fun z => absurd z.2.2.2.2.1 c5⟩
  have h70 := gv.1.2.2.2.1
  rw [if_neg (fun z => z ⟨by omega, c5.2⟩), if_neg (by first | decide | omega), q_172, rng, bR, gv.2.2.1]
  simp only [bi_0, g1, x_newCl i1 _ _ _ _ _ _ h6, bR, hnd]
  by_cases c6 : p5 = -1
  · rw [if_pos c6]
    exact ⟨fun z => absurd ⟨c1, c2, c3, c4, c5, by omega, by omega⟩ z, fun _ => rfl⟩
  rw [if_neg c6]
  by_cases c7 : 0 ≤ p5 ∧ p5 < S.2 72 70
  · rw [if_neg (fun z => z c7)]
    exact ⟨fun z => absurd ⟨c1, c2, c3, c4, c5, by omega, by omega⟩ z, fun _ => rfl⟩
  · rw [if_pos c7]
    exact ⟨fun _ => rfl, fun z => absurd z.2.2.2.2.2 (by first | decide | omega)⟩
theorem m_claim (H : Inv S) {n : Nat} (hn : S.2 72 52 = n) (hW : ∀ a, 72 ≤ a → a < 151 → W.2 a = S.2 a) (p1 p2 p3 p4 p5 p6 : Int) (h6 : p6 = 0 ∨ p6 = 1) : (n = 300 ∨ ¬ clQ S.2 p1 p2 p3 p4 p5 → ev (WK L xs) 200 256 [vr 72, vi p1, vi p2, vi p3, vi p4, vi p5, vi p6] W = some (-1, W)) ∧ (n ≠ 300 → clQ S.2 p1 p2 p3 p4 p5 → ev (WK L xs) 200 256 [vr 72, vi p1, vi p2, vi p3, vi p4, vi p5, vi p6] W = some ((n : Int), wr (wr (wr (wr (wr (wr (wr (wr (wr W 108 n p1) 109 n p2) 110 n p3) 111 n p4) 112 n p5) 113 n p6) 115 n (-1)) 116 n (-1)) 72 52 ((n : Int) + 1))) := by
  obtain ⟨rk, rv, rp⟩ := H.ref (W := W) (fun a q1 q2 _ => hW a q1 q2)
  have w72 := hW 72 (by decide) (by decide)
  have h300 := H.gk.n
  have eun : uN W.2 = uN S.2 := by
    funext a b
    unfold uN
    rw [hW 74 (by decide) (by decide)]
  have gp := H.gp
  rw [q_256, w72, hn]
  by_cases c0 : n = 300
  · rw [if_pos (by first | decide | omega)]
    exact ⟨fun _ => rfl, fun z => absurd c0 z⟩
  rw [if_neg (by first | decide | omega), m_isHand rp, bR]
  simp only [bi_0]
  rw [w72]
  by_cases c1 : 0 ≤ p1 ∧ p1 < S.2 72 5
  rotate_left
  · rw [if_pos c1]
    exact ⟨fun _ => rfl, fun _ z => absurd z.1 c1⟩
  obtain ⟨w, hw⟩ := Int.eq_ofNat_of_zero_le c1.1
  subst hw
  have r75 := gp.1.2.2.2 w c1.2
  have h16 := gp.1.2.1
  unfold clQ
  rw [Int.toNat_natCast, if_neg (fun z => z c1), m_isHead rp, bR]
  simp only [bi_0]
  rw [w72]
  by_cases c2 : 0 ≤ p2 ∧ p2 < S.2 72 4
  rotate_left
  · rw [if_pos c2]
    exact ⟨fun _ => rfl, fun _ z => absurd z.2.1 c2⟩
  rw [if_neg (fun z => z c2), if_pos (by first | decide | omega), hW 75 (by decide) (by decide), m_isUnder rp _ _ c2.1 (by rw [w72]; exact c2.2) r75.1, bR]
  simp only [bi_0]
  rw [eun]
  by_cases c3 : uN S.2 p2 (S.2 75 w) = true
  rotate_left
  · rw [if_pos c3]
    exact ⟨fun _ => rfl, fun _ z => absurd z.2.2.1 c3⟩
  have h70 := H.gv.1.2.2.2.1
  rw [if_neg (fun z => z c3), m_lies, bR, m_lies, bR, m_lies, bR]
  simp only [bi_0]
  rw [w72, w32e (x := S.2 72 70 - 1) (by first | decide | omega) (by first | decide | omega), hn]
  by_cases c4 : 0 ≤ p3 ∧ p3 ≤ 9
  rotate_left
  · rw [if_pos c4]
    exact ⟨fun _ => rfl, fun _ z => absurd z.2.2.2.1 c4⟩
  rw [if_neg (fun z => z c4)]
  by_cases c5 : 1 ≤ p4 ∧ p4 ≤ 1000000000
  rotate_left
  · rw [if_pos c5]
    exact ⟨fun _ => rfl, fun _ z => absurd z.2.2.2.2.1 c5⟩
  rw [if_neg (fun z => z c5)]
  by_cases c6 : -1 ≤ p5 ∧ p5 ≤ S.2 72 70 - 1
  rotate_left
  · rw [if_pos c6]
    exact ⟨fun _ => rfl, fun _ z => absurd z.2.2.2.2.2 (by first | decide | omega)⟩
  have hq : (0 : Int) ≤ (n : Int) ∧ (n : Int) < 300 := by omega
  rw [if_neg (fun z => z c6)]
  refine ⟨fun z => ?_, fun _ _ => ?_⟩
  · rcases z with z | z
    · exact absurd z c0
    · exact absurd ⟨c1, c2, c3, c4, c5, by omega⟩ z
  · simp only [if_pos hq]
    rw [if_pos h6, wi (by first | decide | omega) (by first | decide | omega), w32e (by first | decide | omega) (by first | decide | omega), Int.toNat_natCast]
theorem o_claim (H : Inv S) (p1 p2 p3 p4 p5 p6 : Int) (h6 : p6 = 0 ∨ p6 = 1) : Ok L xs 25 256 [vi p1, vi p2, vi p3, vi p4, vi p5, vi p6] S := by
  have gk := H.gk
  have i1 := H.1
  have h300 := gk.n
  obtain ⟨n, hn⟩ := Int.eq_ofNat_of_zero_le h300.1
  have en : S.2 43 1 = n := by rw [gk.2.1, hn]
  have x0 := x_claim (L := L) (xs := xs) H p1 p2 p3 p4 p5 p6 h6
  by_cases c : clQ S.2 p1 p2 p3 p4 p5
  rotate_left
  · exact Ok.same H (x0.1 c) ((m_claim H hn (fun _ _ _ => rfl) p1 p2 p3 p4 p5 p6 h6).1 (Or.inr c))
  have x1 := x0.2 c
  generalize hB : nwc S 12 15 (clF p1 p2 p3 p4 p5 p6) = B at x1
  have B1 : ∀ a, a < S.1.1 → B.1.2.2 a = S.1.2.2 a ∧ B.2 a = S.2 a := fun a q => by
    rw [← hB]
    constructor
    · show (if a = S.1.1 then ((12, 15) : Nat × Nat) else S.1.2.2 a) = _
      rw [if_neg (by first | decide | omega)]
    · show (if a = S.1.1 then clF p1 p2 p3 p4 p5 p6 else S.2 a) = _
      rw [if_neg (by first | decide | omega)]
  have oB : isO B S.1.1 12 15 := by
    rw [← hB]
    refine ⟨i1, Nat.lt_succ_self _, ?_⟩
    show (if S.1.1 = S.1.1 then ((12, 15) : Nat × Nat) else S.1.2.2 S.1.1) = _
    rw [if_pos rfl]
  have fB : B.2 S.1.1 = clF p1 p2 p3 p4 p5 p6 := by
    rw [← hB]
    show (if S.1.1 = S.1.1 then clF p1 p2 p3 p4 p5 p6 else S.2 S.1.1) = _
    rw [if_pos rfl]
  have gB : B.1.1 = S.1.1 + 1 ∧ B.1.2.1 = S.1.2.1 + 15 := by rw [← hB]; exact ⟨rfl, rfl⟩
  have lo : ∀ a, a < 151 → B.2 a = S.2 a := fun a q => (B1 a (by first | decide | omega)).2
  by_cases c0 : n = 300
  · rw [q_82, lo 43 (by decide), en, if_neg (by first | decide | omega)] at x1
    have hF : Fr S B := by rw [← hB]; exact Fr.nw
    refine ⟨-1, B, B, x1, (m_claim H hn (fun a _ q => lo a q) p1 p2 p3 p4 p5 p6 h6).1 (Or.inl c0), H.scr hF (fun a k q _ => by rw [lo a q]), ?_⟩
    unfold Gw
    omega
  have hq : (0 : Int) ≤ (n : Int) ∧ (n : Int) < 300 := by omega
  rw [q_82, lo 43 (by decide), en, if_pos hq.2, k12 oB, if_pos hq, wi (by first | decide | omega) (by first | decide | omega), w32e (by first | decide | omega) (by first | decide | omega), Int.toNat_natCast] at x1
  generalize hV : wr (wr B 44 n (S.1.1 : Int)) 43 1 ((n : Int) + 1) = V at x1
  have V1 : V.1 = B.1 := by rw [← hV]; rfl
  have loV : ∀ a, a ≠ 43 → a ≠ 44 → V.2 a = B.2 a := fun a q1 q2 => by rw [← hV, wr_c q1, wr_c q2]
  have m0 := (m_claim (L := L) (xs := xs) H hn (W := V) (fun a q1 q2 => by rw [loV a (by first | decide | omega) (by first | decide | omega), lo a q2]) p1 p2 p3 p4 p5 p6 h6).2 c0 c
  refine ⟨_, V, _, x1, m0, ?_, ?_⟩
  rotate_left
  · unfold Gw
    simp only [wr_1]
    rw [V1]
    omega
  obtain ⟨c1, c2, c3, c4, c5, c6⟩ := c
  refine H.newK (n := n) (o := S.1.1) hn (by first | decide | omega) (Nat.le_refl _) ?_ ?_ (fun a q1 q2 => ?_) (fun a q1 q2 q3 q4 q5 q6 => ?_) (fun k q => ?_) ?_ (fun k q => ?_) ?_ (fun j => ?_) (fun a j q1 q2 q3 => ?_) ?_ (fun j => ?_)
  · exact oB.eq (by simp only [wr_1]; exact V1)
  · simp only [wr_1]
    rw [V1]
    omega
  · refine ⟨by simp only [wr_1]; rw [V1, (B1 a q2).1], ?_⟩
    repeat rw [wr_c (by first | decide | omega)]
    rw [loV a (by first | decide | omega) (by first | decide | omega), (B1 a q2).2]
  · repeat rw [wr_c (by first | decide | omega)]
    rw [loV a (by first | decide | omega) (by first | decide | omega), lo a q1]
  · repeat rw [wr_c (by decide)]
    rw [← hV, wr_f, if_neg q, wr_c (by decide), lo 43 (by decide)]
  · repeat rw [wr_c (by decide)]
    rw [← hV, wr_f, if_pos rfl]
  · rw [wr_f, if_neg q]
    repeat rw [wr_c (by decide)]
    rw [loV 72 (by decide) (by decide), lo 72 (by decide)]
  · rw [wr_f, if_pos rfl]
  · repeat rw [wr_c (by decide)]
    rw [← hV, wr_c (by decide), wr_f, lo 44 (by decide)]
  · rw [wr_c (by first | decide | omega)]
    simp only [wr_2, q3, and_false, if_false]
    rw [loV a (by first | decide | omega) (by first | decide | omega), lo a (by first | decide | omega)]
  · unfold nwK
    simp only [wr_2]
    exact ⟨c1, c2, c4, c5, c6, h6, rfl, rfl⟩
  · have e : ∀ U : AH, (∀ a, a ≠ 72 → ¬ (108 ≤ a ∧ a ≤ 116) → U.2 a = V.2 a) → U.2 S.1.1 j = clF p1 p2 p3 p4 p5 p6 j := fun U hU => by
      rw [hU S.1.1 (by first | decide | omega) (by first | decide | omega), loV _ (by first | decide | omega) (by first | decide | omega), fB]
    rw [e _ (fun a q1 q2 => by repeat rw [wr_c (by first | decide | omega)])]
    simp only [wr_2]
    rfl
end
end
