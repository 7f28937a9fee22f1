/-! the bar of a clause, of a text -/
noncomputable def cdK (h : Nat → Nat → Int) (k : Nat) : CD := (List.range (h 83 k - h 82 k).toNat).map fun i => (h 84 (200 * (k / 16) + (h 82 k).toNat + i), h 85 (200 * (k / 16) + (h 82 k).toNat + i))
noncomputable def evA (le : Int → Int) (ud : Int → Bool) (g : CD) : Option Int := match rnA le ud g [] with
  | some (o :: _) => o
  | _ => none
noncomputable def brH (h : Nat → Nat → Int) (c : Nat) (l : Int) (k : Nat) : Int := if isWd (h 79 k) = true then brK (rkC h c) (h 113 c) (h 79 k) (h 80 k) (evA (leC h c l) (udC h c) (cdK h k)) else 0
/-- of the clauses of the text t from j on, m of them, where the mask is -/
noncomputable def tbR (h : Nat → Nat → Int) (c : Nat) (l : Int) (msk : Nat → Bool) (t : Nat) : Nat → Nat → Int
  | 0, _ => 0
  | m + 1, j => if msk j = true ∧ brH h c l (16 * t + j) ≠ 0 then brH h c l (16 * t + j) else tbR h c l msk t m (j + 1)
section
variable {L : Nat} {xs : Nat → Int} {d : Nat} {S S' T U W : AH} {h : Nat → Nat → Int} {le : Int → Int} {ud : Int → Bool}
theorem Cmp.ev {g : CD} {o : Option Int} (hg : Cmp le ud g o) : evA le ud g = o := by
  unfold evA
  rw [hg []]
theorem cds_succ {x : TXT} {j : Nat} {q : Nat × CL} (hq : x[j]? = some q) : cds x (j + 1) = cds x j ++ q.2.2.2.2 := by
  unfold cds
  rw [List.take_add_one, hq, List.map_append, List.flatten_append]
  simp
theorem cds_split {x : TXT} (j : Nat) : ∃ r, cds x x.length = cds x j ++ r := by
  refine ⟨((x.drop j).map fun q => q.2.2.2.2).flatten, ?_⟩
  unfold cds
  rw [List.take_of_length_le (Nat.le_refl _), ← List.flatten_append, ← List.map_append, List.take_append_drop]
theorem RX.code {t j : Nat} {x : TXT} (H : RX h t x) {q : Nat × CL} (hq : x[j]? = some q) : h 82 (16 * t + j) = (cds x j).length ∧ h 83 (16 * t + j) = (((cds x j).length + q.2.2.2.2.length : Nat) : Int) ∧ (cds x j).length + q.2.2.2.2.length ≤ 200 ∧ (∀ (i : Nat) (z : Int × Int), q.2.2.2.2[i]? = some z → h 84 (200 * t + (cds x j).length + i) = z.1 ∧ h 85 (200 * t + (cds x j).length + i) = z.2) ∧ cdK h (16 * t + j) = q.2.2.2.2 := by
  obtain ⟨a1, a2, a3, a4, a5⟩ := H
  obtain ⟨-, -, -, c4, c5⟩ := a3 j q hq
  have hj : j < 16 := Nat.lt_of_lt_of_le (List.getElem?_eq_some_iff.mp hq).1 a2
  obtain ⟨r, hr⟩ := cds_split (x := x) (j + 1)
  rw [cds_succ hq] at c5 hr
  rw [List.length_append] at c5
  have hl := congrArg List.length hr
  rw [List.length_append, List.length_append] at hl
  have hcd : ∀ (i : Nat) (z : Int × Int), q.2.2.2.2[i]? = some z → h 84 (200 * t + (cds x j).length + i) = z.1 ∧ h 85 (200 * t + (cds x j).length + i) = z.2 := fun i z hz => by
    have hi := (List.getElem?_eq_some_iff.mp hz).1
    have := a5 ((cds x j).length + i) z (by
      rw [hr, List.getElem?_append_left (by rw [List.length_append]; omega), List.getElem?_append_right (by first | decide | omega), show (cds x j).length + i - (cds x j).length = i by omega]
      exact hz)
    rw [← Nat.add_assoc] at this
    exact this
  refine ⟨c4, c5, by omega, hcd, ?_⟩
  unfold cdK
  rw [c4, c5, show (16 * t + j) / 16 = t by omega, Int.toNat_natCast, show ((((cds x j).length + q.2.2.2.2.length : Nat) : Int) - ((cds x j).length : Int)).toNat = q.2.2.2.2.length by omega]
  apply List.ext_getElem?
  intro i
  by_cases hi : i < q.2.2.2.2.length
  · obtain ⟨z, hz⟩ : ∃ z, q.2.2.2.2[i]? = some z := ⟨_, List.getElem?_eq_getElem hi⟩
    obtain ⟨e1, e2⟩ := hcd i z hz
    rw [hz, List.getElem?_map, List.getElem?_range hi]
    show some (h 84 (200 * t + (cds x j).length + i), h 85 (200 * t + (cds x j).length + i)) = some z
    rw [e1, e2]
  · rw [List.getElem?_eq_none (by rw [List.length_map, List.length_range]; omega), List.getElem?_eq_none (by first | decide | omega)]
/-- a rule's condition in its text -/
noncomputable def RPr (t : TB) (n : Nat) (q : Nat × CL) : Prop := isWd q.2.1 = true → q.1 + 1 ≤ n ∧ cu t n (q.1 + 1) = 40 ∧ ∃ r, rdC t n (q.1 + 2) = .inr (r, q.2.2.2.2)
theorem lw_wd {c : Int} (h : isLw c = true) : isWd c = false := by
  have := of_decide_eq_true h
  exact decide_eq_false (by first | decide | omega)
theorem rdK_rule {t : TB} {n many p q : Nat} {law : Bool} {c : CL} (h : rdK t n law many p = .inr (q, c)) : RPr t n (p, c) := by
  unfold rdK at h
  by_cases c1 : isWd (cu t n p) = false ∧ isLw (cu t n p) = false
  · rw [if_pos c1] at h
    cases h
  rw [if_neg c1] at h
  by_cases c2 : law = false ∧ isLw (cu t n p) = true
  · rw [if_pos c2] at h
    cases h
  rw [if_neg c2] at h
  by_cases c3 : many = 16
  · rw [if_pos c3] at h
    cases h
  rw [if_neg c3] at h
  by_cases c4 : isWd (cu t n p) = true
  · rw [if_pos c4] at h
    have hp : p < n := cu_pos (t := t) (fun e => by rw [e] at c4; exact absurd c4 (by decide))
    by_cases c5 : cu t n (p + 1) = 40
    · rw [if_pos c5] at h
      cases hr : rdC t n (p + 2) with
      | inl e => rw [hr] at h; cases h
      | inr y =>
        obtain ⟨r, g⟩ := y
        rw [hr] at h
        have hcc : c.2.2.2 = g := by
          have h' : (if cu t n r = 41 then (if cu t n p = 115 then (if 49 ≤ cu t n (r + 1) ∧ cu t n (r + 1) ≤ 57 then (.inr (r + 2, (115, cu t n (r + 1) - 48, 0, g)) : Int ⊕ (Nat × CL)) else .inl (flt 1 (r + 1))) else .inr (r + 1, (cu t n p, 0, 0, g))) else .inl (flt 1 r)) = .inr (q, c) := h
          by_cases c6 : cu t n r = 41
          · rw [if_pos c6] at h'
            by_cases c7 : cu t n p = 115
            · rw [if_pos c7] at h'
              by_cases c8 : 49 ≤ cu t n (r + 1) ∧ cu t n (r + 1) ≤ 57
              · rw [if_pos c8] at h'
                have e : _ = c := congrArg Prod.snd (Sum.inr.inj h')
                rw [← e]
              · rw [if_neg c8] at h'
                cases h'
            · rw [if_neg c7] at h'
              have e : _ = c := congrArg Prod.snd (Sum.inr.inj h')
              rw [← e]
          · rw [if_neg c6] at h'
            cases h'
        intro _
        exact ⟨by show p + 1 ≤ n; omega, c5, r, by rw [← hcc] at hr; exact hr⟩
    · rw [if_neg c5] at h
      cases h
  · rw [if_neg c4] at h
    have hlw : isLw (cu t n p) = true := by
      by_cases z : isLw (cu t n p) = true
      · exact z
      · exact absurd ⟨nf c4, nf z⟩ c1
    have fin : c.1 = cu t n p → RPr t n (p, c) := fun e hw => by
      rw [show (p, c).2.1 = cu t n p from e, lw_wd hlw] at hw
      exact absurd hw (by decide)
    by_cases c5 : cu t n p = 120
    · rw [if_pos c5] at h
      cases hr : rdN t n 19 (p + 1) with
      | inl e => rw [hr] at h; cases h
      | inr y =>
        obtain ⟨r, v⟩ := y
        rw [hr] at h
        have h' : (if cu t n r = 46 then (match rdN t n 15 (r + 1) with
          | .inl e => (.inl e : Int ⊕ (Nat × CL))
          | .inr (r, u) => .inr (r, (120, v, u, []))) else .inl (flt 1 r)) = .inr (q, c) := h
        by_cases c6 : cu t n r = 46
        · rw [if_pos c6] at h'
          cases hr2 : rdN t n 15 (r + 1) with
          | inl e => rw [hr2] at h'; cases h'
          | inr y2 =>
            obtain ⟨r2, u⟩ := y2
            rw [hr2] at h'
            have e : _ = c := congrArg Prod.snd (Sum.inr.inj h')
            exact fin (by rw [← e, c5])
        · rw [if_neg c6] at h'
          cases h'
    · rw [if_neg c5] at h
      cases hr : rdN t n (if cu t n p = 109 ∨ cu t n p = 99 then 100 else 999999) (p + 1) with
      | inl e => rw [hr] at h; cases h
      | inr y =>
        obtain ⟨r, v⟩ := y
        rw [hr] at h
        have e : _ = c := congrArg Prod.snd (Sum.inr.inj h)
        exact fin (by rw [← e])
theorem rdTL_rule {t : TB} {n : Nat} {law : Bool} {x : TXT} : ∀ (k p : Nat) (acc : TXT), rdTL t n law k p acc = .inr x → (∀ q ∈ acc, RPr t n q) → ∀ q ∈ x, RPr t n q := by
  intro k
  induction k with
  | zero => intro p acc e; cases e
  | succ k ih =>
    intro p acc e ha
    unfold rdTL at e
    cases hr : rdK t n law acc.length p with
    | inl y => rw [hr] at e; cases e
    | inr y =>
      obtain ⟨q, c⟩ := y
      rw [hr] at e
      have e' : (if q < n then (if cu t n q = 59 then rdTL t n law k (q + 1) (acc ++ [(p, c)]) else .inl (flt 1 q)) else .inr (acc ++ [(p, c)])) = .inr x := e
      have ha' : ∀ z ∈ acc ++ [(p, c)], RPr t n z := fun z hz => by
        rcases List.mem_append.mp hz with w | w
        · exact ha z w
        · rw [List.mem_singleton.mp w]
          exact rdK_rule hr
      by_cases c1 : q < n
      · rw [if_pos c1] at e'
        by_cases c2 : cu t n q = 59
        · rw [if_pos c2] at e'
          exact ih _ _ e' ha'
        · rw [if_neg c2] at e'
          cases e'
      · rw [if_neg c1] at e'
        rw [← Sum.inr.inj e']
        exact ha'
/-- all of a rule's clause -/
theorem TX.rule {a t : Nat} (H : TX S a t) {j : Nat} (hj : (j : Int) < S.2 78 t) (hw : isWd (S.2 79 (16 * t + j)) = true) : ∃ (b n p r fr : Nat) (g : CD), isO S a 19 3 ∧ S.2 a 0 = b ∧ isO S b 0 n ∧ n ≤ 200 ∧ (∀ d, ev (WK L xs) (d + 1) 163 [vr a, vi (j : Int)] S = some ((p : Int), S)) ∧ p + 1 ≤ n ∧ cu (byt S.2 b) n (p + 1) = 40 ∧ rdC (byt S.2 b) n (p + 2) = .inr (r, g) ∧ cdK S.2 (16 * t + j) = g ∧ S.2 82 (16 * t + j) = fr ∧ S.2 83 (16 * t + j) = ((fr + g.length : Nat) : Int) ∧ fr + g.length ≤ 200 ∧ ∀ (i : Nat) (z : Int × Int), g[i]? = some z → S.2 84 (200 * t + fr + i) = z.1 ∧ S.2 85 (200 * t + fr + i) = z.2 := by
  obtain ⟨x, hX, hx⟩ := H
  have h1 := hX.1
  have hjl : j < x.length := by omega
  rcases hx with ⟨e1, e2⟩ | ⟨b1, b, s, v, n, b2, b3, b4, b5, b6, b7, b8, b9, b10⟩
  · subst e2
    exact absurd hjl (by simp)
  · obtain ⟨q, hq⟩ : ∃ q, x[j]? = some q := ⟨x[j], List.getElem?_eq_getElem hjl⟩
    have hP : RPr (byt S.2 b) n q := rdTL_rule 17 0 [] b9 (fun _ z => by cases z) q (List.mem_of_getElem? hq)
    obtain ⟨c1, -⟩ := hX.2.2.1 j q hq
    rw [c1] at hw
    obtain ⟨p1, p2, r, p3⟩ := hP hw
    obtain ⟨k1, k2, k3, k4, k5⟩ := hX.code hq
    obtain ⟨d1, d2⟩ := b10 j q hq
    have hs : shp (WK L xs) S a = (19, 3) := by rw [shpD b1.1]; exact b1.2.2
    have hss : shp (WK L xs) S s = (2, x.length) := by rw [shpD b6.1]; exact b6.2.2
    refine ⟨b, n, q.1, r, (cds x j).length, q.2.2.2.2, b1, b2, b5, b8, fun d => ?_, p1, p2, p3, k5, k1, k2, k3, k4⟩
    rw [q_163, if_neg (by first | decide | omega), hs, rdvD b1.1, rdvD b1.1, b3, Int.toNat_natCast, hss]
    show gd true (gd true (if (j : Int) < (x.length : Int) then gd true (gd true (if 0 ≤ (j : Int) ∧ (j : Int) < (x.length : Int) then some (rdv (WK L xs) S s (j : Int).toNat, S) else none)) else _)) = _
    rw [gdT, gdT, if_pos (by first | decide | omega), gdT, gdT, if_pos (by first | decide | omega), rdvD b6.1, Int.toNat_natCast, d1]
end
