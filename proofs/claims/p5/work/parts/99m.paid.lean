/-! a claim is paid: what holds behind -/
theorem pig : ∀ (N n : Nat) (f : Nat → Nat), (∀ i, i < n → f i < N) → (∀ i j, i < n → j < n → f i = f j → i = j) → n ≤ N := by
  intro N
  induction N with
  | zero =>
    intro n f h1 _
    by_cases hn : n = 0
    · omega
    · have := h1 0 (by first | decide | omega)
      omega
  | succ N ih =>
    intro n f h1 h2
    by_cases hx : ∃ i, i < n ∧ f i = N
    · obtain ⟨i, hi, hf⟩ := hx
      have := ih (n - 1) (fun j => if j = i then f (n - 1) else f j) (fun j hj => by
        show (if j = i then f (n - 1) else f j) < N
        by_cases e : j = i
        · rw [if_pos e]
          have a := h1 (n - 1) (by first | decide | omega)
          have b : f (n - 1) ≠ N := fun z => by
            have := h2 (n - 1) i (by first | decide | omega) hi (by first | decide | omega)
            omega
          omega
        · rw [if_neg e]
          have a := h1 j (by first | decide | omega)
          have b : f j ≠ N := fun z => e (h2 j i (by first | decide | omega) hi (by first | decide | omega))
          omega) (fun j k hj hk => by
        show (if j = i then f (n - 1) else f j) = (if k = i then f (n - 1) else f k) → j = k
        by_cases e : j = i
        · by_cases e2 : k = i
          · intro _
            omega
          · rw [if_pos e, if_neg e2]
            intro z
            have := h2 (n - 1) k (by first | decide | omega) (by first | decide | omega) z
            omega
        · by_cases e2 : k = i
          · rw [if_neg e, if_pos e2]
            intro z
            have := h2 j (n - 1) (by first | decide | omega) (by first | decide | omega) z
            omega
          · rw [if_neg e, if_neg e2]
            exact h2 j k (by first | decide | omega) (by first | decide | omega))
      omega
    · have := ih n f (fun i hi => by
        have a := h1 i hi
        have b : f i ≠ N := fun z => hx ⟨i, hi, z⟩
        omega) h2
      omega
section
variable {S S' T U : AH}
/-- not all are paid -/
theorem paid_lt (gk : GK S) {c : Nat} (hc : (c : Int) < S.2 72 52) (hd : S.2 115 c = -1) : S.2 72 53 < S.2 72 52 := by
  have h0 := gk.1.1
  have hp := gk.1.2.1
  have ho := gk.2.2.2.2.2.2.1
  have := pig (S.2 72 52).toNat ((S.2 72 53).toNat + 1) (fun i => if i = (S.2 72 53).toNat then c else (S.2 45 i).toNat) (fun i hi => by
    show (if i = (S.2 72 53).toNat then c else (S.2 45 i).toNat) < _
    by_cases e : i = (S.2 72 53).toNat
    · rw [if_pos e]
      omega
    · rw [if_neg e]
      have := ho i (by first | decide | omega)
      omega) (fun i j hi hj => by
    show (if i = (S.2 72 53).toNat then c else (S.2 45 i).toNat) = (if j = (S.2 72 53).toNat then c else (S.2 45 j).toNat) → i = j
    by_cases e : i = (S.2 72 53).toNat
    · by_cases e2 : j = (S.2 72 53).toNat
      · intro _
        omega
      · rw [if_pos e, if_neg e2]
        intro z
        have := (ho j (by first | decide | omega)).2.2.1
        rw [← z] at this
        exact absurd hd this
    · by_cases e2 : j = (S.2 72 53).toNat
      · rw [if_neg e, if_pos e2]
        intro z
        have := (ho i (by first | decide | omega)).2.2.1
        rw [z] at this
        exact absurd hd this
      · rw [if_neg e, if_neg e2]
        intro z
        have a := (ho i (by first | decide | omega)).2.2.2
        have b := (ho j (by first | decide | omega)).2.2.2
        rw [z, b] at a
        omega)
  omega
/-- the sums behind -/
theorem pby_pd {h h' : Nat → Nat → Int} {c v y : Nat} (hc : c < nClaims h) (e1 : ∀ j, h' 115 j = if j = c then h 72 2 else h 115 j) (e2 : ∀ j, h' 116 j = if j = c then (v : Int) else h 116 j) (e3 : h' 97 = h 97) (e4 : h' 102 = h 102) (e5 : h' 111 = h 111) (e6 : h' 72 52 = h 72 52) (hd : h 115 c = -1) (hn : 0 ≤ h 72 2) (hy : yr (h 72 2) = y) (ov : ¬ (h 97 v = 4 ∧ h 102 v ≠ -1)) :
    (∀ e, cby h' e = if e = c then (v : Int) else cby h e) ∧ (∀ e z, pin h' e z = if e = c then decide ((y : Int) = z) else pin h e z) ∧ ∀ (u : Nat) (z : Int), pby h' u z = pby h u z + if u = v ∧ (y : Int) = z then h 111 c else 0 := by
  have a1 : ∀ e, cby h' e = if e = c then (v : Int) else cby h e := by
    intro e
    unfold cby
    rw [e2, e3, e4]
    by_cases q : e = c
    · rw [if_pos q, if_pos q, Int.toNat_natCast, if_neg (fun z => ov ⟨z.2.1, z.2.2⟩)]
    · rw [if_neg q, if_neg q]
  have a2 : ∀ e z, pin h' e z = if e = c then decide ((y : Int) = z) else pin h e z := by
    intro e z
    unfold pin
    rw [e1]
    by_cases q : e = c
    · rw [if_pos q, if_pos q, hy]
      by_cases w : (y : Int) = z
      · rw [decide_eq_true w, decide_eq_true (show h 72 2 ≠ -1 ∧ (y : Int) = z from ⟨by omega, w⟩)]
      · rw [decide_eq_false w, decide_eq_false (show ¬ (h 72 2 ≠ -1 ∧ (y : Int) = z) from fun x => w x.2)]
    · rw [if_neg q, if_neg q]
  refine ⟨a1, a2, fun u z => ?_⟩
  have p0 : pin h c z = false := decide_eq_false (fun x => x.1 hd)
  unfold pby
  rw [show nClaims h' = nClaims h by unfold nClaims; rw [e6], e5]
  rw [sm_one (f := fun c => if pin h c z = true ∧ cby h c = (u : Int) then h 111 c else 0) hc (fun k _ hk => by
    show (if pin h' k z = true ∧ cby h' k = (u : Int) then h 111 k else 0) = (if pin h k z = true ∧ cby h k = (u : Int) then h 111 k else 0)
    rw [a1, a2, if_neg hk, if_neg hk])]
  show _ - (if pin h c z = true ∧ cby h c = (u : Int) then h 111 c else 0) + (if pin h' c z = true ∧ cby h' c = (u : Int) then h 111 c else 0) = _
  rw [a1, a2, if_pos rfl, if_pos rfl, p0, if_neg (fun x => by cases x.1), Int.sub_zero]
  congr 1
  by_cases w : u = v ∧ (y : Int) = z
  · rw [if_pos w, if_pos ⟨decide_eq_true w.2, by omega⟩]
  · rw [if_neg w, if_neg (fun x => w ⟨by omega, of_decide_eq_true x.1⟩)]
theorem pct_pd {h h' : Nat → Nat → Int} {c y : Nat} (hc : c < nClaims h) (a2 : ∀ e z, pin h' e z = if e = c then decide ((y : Int) = z) else pin h e z) (e4 : h' 112 = h 112) (e5 : h' 111 = h 111) (e6 : h' 72 52 = h 72 52) (hd : h 115 c = -1) (k z : Int) : pct h' k z = pct h k z + if h 112 c = k ∧ (y : Int) = z then h 111 c else 0 := by
  have p0 : pin h c z = false := decide_eq_false (fun x => x.1 hd)
  unfold pct
  rw [show nClaims h' = nClaims h by unfold nClaims; rw [e6], e4, e5]
  rw [sm_one (f := fun c => if pin h c z = true ∧ h 112 c = k then h 111 c else 0) hc (fun j _ hk => by
    show (if pin h' j z = true ∧ h 112 j = k then h 111 j else 0) = (if pin h j z = true ∧ h 112 j = k then h 111 j else 0)
    rw [a2, if_neg hk])]
  show _ - (if pin h c z = true ∧ h 112 c = k then h 111 c else 0) + (if pin h' c z = true ∧ h 112 c = k then h 111 c else 0) = _
  rw [a2, if_pos rfl, p0, if_neg (fun x => by cases x.1), Int.sub_zero]
  congr 1
  by_cases w : h 112 c = k ∧ (y : Int) = z
  · rw [if_pos w, if_pos ⟨decide_eq_true w.2, w.1⟩]
  · rw [if_neg w, if_neg (fun x => w ⟨x.2, of_decide_eq_true x.1⟩)]
/-- the claim c is paid by v in the year y -/
theorem Inv.pd (H : Inv S) {c v y n : Nat} (hc : (c : Int) < S.2 72 52) (hv : (v : Int) < S.2 72 40) (kv : S.2 97 v ≠ 1) (ov : ¬ (S.2 97 v = 4 ∧ S.2 102 v ≠ -1)) (hy : yr (S.2 72 2) = y) (y4 : S.2 97 v = 4 → (y : Int) = S.2 100 v) (hd : S.2 115 c = -1) (hn : S.2 72 53 = n) (hS : S'.1 = S.1)
    (hF : ∀ a, 151 ≤ a → a ≠ spA S v → a ≠ clA S c → S'.2 a = S.2 a) (hcl : ∀ a, a < 151 → a ≠ 15 → ¬ (42 ≤ a ∧ a ≤ 45 ∧ a ≠ 44) → a ≠ 72 → ¬ (115 ≤ a ∧ a ≤ 117) → S'.2 a = S.2 a) (h15 : ∀ j, j ≠ 1 → S'.2 15 j = S.2 15 j) (h42 : ∀ j : Nat, S'.2 42 j = if S.2 112 c ≠ -1 ∧ (j : Int) = S.2 112 c * 10 + y then w64 (S.2 42 j + S.2 111 c) else S.2 42 j)
    (h43 : ∀ j, j ≠ 3 → j ≠ 4 → S'.2 43 j = S.2 43 j) (h433 : S'.2 43 3 = (n : Int) + 1) (h434 : S'.2 43 4 = w64 (S.2 43 4 + S.2 111 c)) (h45 : ∀ j, S'.2 45 j = if j = n then (c : Int) else S.2 45 j) (h72 : ∀ j, j ≠ 3 → j ≠ 53 → S'.2 72 j = S.2 72 j) (h723 : S'.2 72 3 = w64 (S.2 72 3 - S.2 111 c)) (h151 : S'.2 15 1 = w64 (S.2 15 1 - S.2 111 c)) (h7253 : S'.2 72 53 = (n : Int) + 1)
    (h115 : ∀ j, S'.2 115 j = if j = c then S.2 72 2 else S.2 115 j) (h116 : ∀ j, S'.2 116 j = if j = c then (v : Int) else S.2 116 j) (h117 : ∀ j, S'.2 117 j = if j = c then (n : Int) else S.2 117 j) (hsp : ∀ j, S'.2 (spA S v) j = if j = y then w64 (S.2 (spA S v) j + S.2 111 c) else S.2 (spA S v) j) (hob : ∀ k, S'.2 (clA S c) k = if k = 7 then S.2 72 2 else if k = 8 ∨ k = 9 then (v : Int) else S.2 (clA S c) k) : Inv S' := by
  have H0 := H
  obtain ⟨i1, gt, gc, gx, gb, gp, gl, gv, gk, gu, gw, gn⟩ := H
  have hplt := paid_lt gk hc hd
  have hyN := H0.yN
  rw [hy] at hyN
  have hN := gk.1.1
  have hcN : c < nClaims S.2 := by unfold nClaims; omega
  obtain ⟨-, -, -, r4c, r5c, -⟩ := gk.1.2.2.2.1 c hc
  have C : ∀ a, a < 15 ∨ (15 < a ∧ a < 42) ∨ a = 44 ∨ (45 < a ∧ a < 72) ∨ (72 < a ∧ a < 115) ∨ (117 < a ∧ a < 151) → S'.2 a = S.2 a := fun a q => hcl a (by first | decide | omega) (by first | decide | omega) (by first | decide | omega) (by first | decide | omega) (by first | decide | omega)
  have K : ∀ k, k ≠ 3 → k ≠ 53 → S'.2 72 k = S.2 72 k := h72
  have hFx : Fx (fun a => a = spA S v ∨ a = clA S c) S S' := ⟨by rw [hS]; exact Nat.le_refl _, fun a q1 q2 => ⟨by rw [hS], fun q => hF a q1 (fun z => q (Or.inl z)) (fun z => q (Or.inr z))⟩⟩
  have hX : Xt (fun a => a = spA S v ∨ a = clA S c) S := by
    rintro a (rfl | rfl)
    · rw [(gv.2.2.2.1 v hv).2.1.2.2]
      omega
    · rw [(gk.ob hc).2.2]
      omega
  have hm : HM S.2 S'.2 := by
    unfold HM
    rw [K 4 (by decide) (by decide), K 5 (by decide) (by decide)]
    omega
  obtain ⟨hcb, hpi, hpb⟩ := pby_pd (h := S.2) (h' := S'.2) (v := v) (y := y) hcN h115 h116 (C _ (by first | decide | omega)) (C _ (by first | decide | omega)) (C _ (by first | decide | omega)) (K _ (by decide) (by decide)) hd gt.2.1 hy ov
  have hpc := pct_pd (h := S.2) (h' := S'.2) (c := c) (y := y) hcN hpi (C _ (by first | decide | omega)) (C _ (by first | decide | omega)) (K _ (by decide) (by decide)) hd
  refine ⟨by rw [hS]; exact i1, gt.fr (h15 _ (by decide)) (K _ (by decide) (by decide)), ?_, gx.fr (h15 _ (by decide)) (K _ (by decide) (by decide)), gb.fr (h15 _ (by decide)) (K _ (by decide) (by decide)) (C _ (by first | decide | omega)) (C _ (by first | decide | omega)), gp.fr (K _ (by decide) (by decide)) (K _ (by decide) (by decide)) (fun a q => C a (by first | decide | omega)), gl.fx hFx hX (fun a q => C a (by first | decide | omega)) (K _ (by decide) (by decide)) (fun t x _ q => q.cells (fun a q1 q2 => C a (by first | decide | omega))), ?_, ?_, gu.fr (K _ (by decide) (by decide)) (by rw [C 50 (by first | decide | omega)]) (by rw [C 50 (by first | decide | omega)]) (fun a q => C a (by first | decide | omega)), gw.fr (K _ (by decide) (by decide)) (K _ (by decide) (by decide)) (by rw [C 54 (by first | decide | omega)]) (by rw [C 54 (by first | decide | omega)]) (fun a q => C a (by first | decide | omega)), gn.fr (K _ (by decide) (by decide)) (K _ (by decide) (by decide)) (K _ (by decide) (by decide)) (by rw [C 63 (by first | decide | omega)]) (by rw [C 63 (by first | decide | omega)]) (by rw [C 63 (by first | decide | omega)]) (fun a q => C a (by first | decide | omega))⟩
  · unfold GC
    rw [h151, h723, gc.1]
    exact ⟨rfl, w64_i _⟩
  · obtain ⟨h1, h2, h3, h4, h5, h6, h7'⟩ := gv
    have gv0 : GV S := ⟨h1, h2, h3, h4, h5, h6, h7'⟩
    have eau : ∀ u, auA S' u = auA S u := fun u => by unfold auA; rw [C 37 (by first | decide | omega)]
    have nau : ∀ u : Nat, (u : Int) < S.2 72 40 → S'.2 (auA S u) = S.2 (auA S u) := fun u hu => hF _ (gv0.ob hu).1 (au_sp gv0 hu hv) (au_cl gv0 gk hu hc).1
    have esp : ∀ u : Nat, (u : Int) < S.2 72 40 → spA S' u = spA S u := fun u hu => by
      unfold spA
      rw [eau, nau u hu]
    have c36 := C 36 (by first | decide | omega)
    unfold GV
    rw [c36, K 40 (by decide) (by decide), K 70 (by decide) (by decide), C 38 (by first | decide | omega), C 39 (by first | decide | omega), C 40 (by first | decide | omega), C 41 (by first | decide | omega), C 124 (by first | decide | omega), C 125 (by first | decide | omega), C 126 (by first | decide | omega), C 127 (by first | decide | omega)]
    refine ⟨h1.fr (fun a q => C a (by first | decide | omega)) (fun k q => K k (by first | decide | omega) (by first | decide | omega)) hm, h2, h3, fun u hu => ?_, fun u x hu hx q => ?_, h6, fun k z hk hz => ?_⟩
    · by_cases e : u = v
      · subst e
        have A := h4 u hu
        unfold AV at A ⊢
        rw [eau, esp u hu, nau u hu, C 97 (by first | decide | omega), C 98 (by first | decide | omega), C 99 (by first | decide | omega), C 100 (by first | decide | omega), C 101 (by first | decide | omega), C 102 (by first | decide | omega), C 103 (by first | decide | omega), C 104 (by first | decide | omega), C 105 (by first | decide | omega), C 106 (by first | decide | omega), C 107 (by first | decide | omega)]
        obtain ⟨a1, a2, a3, a4, a5, a6, a7, a8, a9, a10, a11, a12, a13, a14, a15, a16⟩ := A
        refine ⟨a1.eq hS, a2.eq hS, a3, a4, a5, a6, a7, a8, a9, a10, a11, a12, a13, a14, a15.fx hFx hX (fun x q => q.cells (fun a q1 q2 => C a (by first | decide | omega))), fun z1 j hj => ?_⟩
        obtain ⟨b1, b2⟩ := a16 z1 j hj
        have hb := smC_bd gk.1 (P := fun c => pin S.2 c (j : Int) = true ∧ cby S.2 c = (u : Int)) (n := nClaims S.2) (Nat.le_refl _)
        have hb2 : 0 ≤ pby S.2 u j ∧ pby S.2 u j ≤ 300000000000 := hb
        rw [hsp j, hpb u j, b1]
        by_cases ej : j = y
        · rw [if_pos ej, if_pos ⟨rfl, by omega⟩, w64e (by first | decide | omega) (by first | decide | omega)]
          exact ⟨rfl, fun k4 ne => absurd (y4 k4) (by first | decide | omega)⟩
        · rw [if_neg ej, if_neg (fun z => ej (by have := z.2; omega)), Int.add_zero]
          exact ⟨rfl, b2⟩
      · refine ((h4 u hu).fx hFx hX ?_ ?_ (by rw [C 37 (by first | decide | omega)]) (fun a q1 q2 => by rw [C a (by first | decide | omega)]) (fun _ j _ => by rw [hpb u j, if_neg (fun z => e z.1), Int.add_zero]) (fun x q => q.cells (fun a q1 q2 => C a (by first | decide | omega)))).1
        · rintro (z | z)
          · exact au_sp gv0 hu hv z
          · exact (au_cl gv0 gk hu hc).1 z
        · rintro (z | z)
          · exact e (h5 u v hu hv (Or.inr z))
          · exact (au_cl gv0 gk hu hc).2 z
    · rw [eau, eau, esp u hu, esp x hx] at q
      exact h5 u x hu hx q
    · have hb := smC_bd gk.1 (P := fun c => pin S.2 c (z : Int) = true ∧ S.2 112 c = (k : Int)) (n := nClaims S.2) (Nat.le_refl _)
      have hb2 : 0 ≤ pct S.2 k z ∧ pct S.2 k z ≤ 300000000000 := hb
      rw [h42, hpc, h7' k z hk hz]
      by_cases q : S.2 112 c = (k : Int) ∧ (y : Int) = z
      · rw [if_pos q, if_pos ⟨by omega, by omega⟩, w64e (by first | decide | omega) (by first | decide | omega)]
      · rw [if_neg q, if_neg (fun w => q ⟨by omega, by omega⟩), Int.add_zero]
  · obtain ⟨h1, h2, h3, h4, h5, h6, h7', h8', h9', h10', h11'⟩ := gk
    have gk0 : GK S := ⟨h1, h2, h3, h4, h5, h6, h7', h8', h9', h10', h11'⟩
    have ecl : ∀ e, clA S' e = clA S e := fun e => by unfold clA; rw [C 44 (by first | decide | omega)]
    have nC : nClaims S'.2 = nClaims S.2 := by unfold nClaims; rw [K 52 (by decide) (by decide)]
    unfold GK
    rw [nC, h43 1 (by decide) (by decide), h43 9 (by decide) (by decide), h433, h434, K 52 (by decide) (by decide), h7253, K 102 (by decide) (by decide), C 46 (by first | decide | omega), C 47 (by first | decide | omega), C 48 (by first | decide | omega), C 49 (by first | decide | omega), C 111 (by first | decide | omega), C 146 (by first | decide | omega), C 147 (by first | decide | omega), C 148 (by first | decide | omega), C 149 (by first | decide | omega)]
    refine ⟨?_, h2, rfl, h4, fun e he => ?_, fun e f q1 q2 q => ?_, fun i hi => ?_, fun e he hne => ?_, ?_, h10', h11'⟩
    · obtain ⟨r1, r2, r3, r4, r5, r6⟩ := h1
      unfold RK
      rw [K 4 (by decide) (by decide), K 5 (by decide) (by decide), K 40 (by decide) (by decide), K 52 (by decide) (by decide), h7253, K 70 (by decide) (by decide), K 102 (by decide) (by decide), C 97 (by first | decide | omega), C 108 (by first | decide | omega), C 109 (by first | decide | omega), C 110 (by first | decide | omega), C 111 (by first | decide | omega), C 112 (by first | decide | omega), C 113 (by first | decide | omega), C 114 (by first | decide | omega), C 118 (by first | decide | omega), C 119 (by first | decide | omega), C 120 (by first | decide | omega), C 121 (by first | decide | omega), C 122 (by first | decide | omega), C 123 (by first | decide | omega), C 147 (by first | decide | omega), C 148 (by first | decide | omega)]
      refine ⟨r1, by omega, r3, fun e he => ?_, r5, fun f hf => ?_⟩
      · obtain ⟨s1, s2, s3, s4, s5, s6, s7, s8⟩ := r4 e he
        refine ⟨s1, s2, s3, s4, s5, s6, ?_, s8⟩
        rw [h115, h116, h117]
        by_cases q : e = c
        · rw [if_pos q, if_pos q, if_pos q]
          refine Or.inr ⟨gt.2, ⟨by omega, hv, ?_⟩, by omega, by omega⟩
          rw [Int.toNat_natCast]
          exact kv
        · rw [if_neg q, if_neg q, if_neg q]
          rcases s7 with z | ⟨z1, z2, z3, z4⟩
          · exact Or.inl z
          · exact Or.inr ⟨z1, z2, z3, by omega⟩
      · obtain ⟨⟨f1, f2, f3⟩, f4⟩ := r6 f hf
        refine ⟨⟨f1, f2, ?_⟩, f4⟩
        rw [h115]
        by_cases q : (S.2 147 f).toNat = c
        · rw [if_pos q]
          have := gt.2
          omega
        · rw [if_neg q]
          exact f3
    · have A := h5 e he
      unfold AK at A ⊢
      rw [ecl, hcb, h115, h116, C 108 (by first | decide | omega), C 109 (by first | decide | omega), C 110 (by first | decide | omega), C 111 (by first | decide | omega), C 112 (by first | decide | omega), C 113 (by first | decide | omega), C 114 (by first | decide | omega), C 118 (by first | decide | omega), C 119 (by first | decide | omega), C 120 (by first | decide | omega), C 121 (by first | decide | omega), C 122 (by first | decide | omega), C 123 (by first | decide | omega)]
      obtain ⟨b1, b2, b3, b4, b5, b6, b7, b8, b9, b10, b11, b12, b13, b14, b15, b16⟩ := A
      by_cases q : e = c
      · subst q
        rw [if_pos rfl, if_pos rfl, if_pos rfl, hob 0, hob 1, hob 2, hob 3, hob 4, hob 5, hob 6, hob 7, hob 8, hob 9, hob 10, hob 11, hob 12, hob 13, hob 14]
        exact ⟨b1.eq hS, b2, b3, b4, b5, b6, b7, b8, rfl, rfl, rfl, b12, b13, b14, b15, b16⟩
      · rw [if_neg q, if_neg q, if_neg q, hF (clA S e) (b1.1) (fun z => (au_cl gv gk0 hv he).2 z.symm) (fun z => q (h6 e c he hc z))]
        exact ⟨b1.eq hS, b2, b3, b4, b5, b6, b7, b8, b9, b10, b11, b12, b13, b14, b15, b16⟩
    · rw [ecl, ecl] at q
      exact h6 e f q1 q2 q
    · rw [h45 i]
      by_cases q : i = n
      · rw [if_pos q, Int.toNat_natCast, h115, h117, if_pos rfl, if_pos rfl]
        have := gt.2
        exact ⟨by omega, hc, by omega, by omega⟩
      · obtain ⟨z1, z2, z3, z4⟩ := h7' i (by first | decide | omega)
        have ne : (S.2 45 i).toNat ≠ c := fun w => by
          rw [w] at z3
          exact z3 hd
        rw [if_neg q, h115, h117, if_neg ne, if_neg ne]
        exact ⟨z1, z2, z3, z4⟩
    · rw [h115] at hne
      rw [h117, h45]
      by_cases q : e = c
      · rw [if_pos q, Int.toNat_natCast, if_pos rfl, q]
      · rw [if_neg q] at hne
        obtain ⟨-, -, -, -, -, -, s7, -⟩ := h1.2.2.2.1 e he
        rw [if_neg q, if_neg (by first | decide | omega)]
        exact h8' e he hne
    · have hb := smC_bd h1 (P := fun c => S.2 115 c ≠ -1) (n := nClaims S.2) (Nat.le_refl _)
      have e := sm_one (f := fun c => if S.2 115 c ≠ -1 then S.2 111 c else 0) (g := fun c => if S'.2 115 c ≠ -1 then S.2 111 c else 0) hcN (fun k _ hk => by
        show (if S'.2 115 k ≠ -1 then S.2 111 k else 0) = (if S.2 115 k ≠ -1 then S.2 111 k else 0)
        rw [h115, if_neg hk])
      have e2 : (if S.2 115 c ≠ -1 then S.2 111 c else 0) = 0 := if_neg (fun z => z hd)
      have e3 : (if S'.2 115 c ≠ -1 then S.2 111 c else 0) = S.2 111 c := by
        rw [h115, if_pos rfl]
        exact if_pos (by have := gt.2; omega)
      have e4 : sm (fun c => if S'.2 115 c ≠ -1 then S.2 111 c else 0) (nClaims S.2) = sm (fun c => if S.2 115 c ≠ -1 then S.2 111 c else 0) (nClaims S.2) - (if S.2 115 c ≠ -1 then S.2 111 c else 0) + (if S'.2 115 c ≠ -1 then S.2 111 c else 0) := e
      have hb2 : 0 ≤ sm (fun c => if S.2 115 c ≠ -1 then S.2 111 c else 0) (nClaims S.2) ∧ sm (fun c => if S.2 115 c ≠ -1 then S.2 111 c else 0) (nClaims S.2) ≤ 300000000000 := hb
      rw [e4, e2, e3, h9', Int.sub_zero]
      exact w64e (by first | decide | omega) (by first | decide | omega)
end
