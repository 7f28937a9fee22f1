/-! calls: cut, more -/
theorem Tr_all {n s : Nat} : Tr 0 n s ↔ s < 2 ^ n := by
  constructor
  · intro h
    exact Nat.lt_pow_two_of_testBit s (fun i hi => by rw [h i hi]; simp)
  · intro h k hk
    rw [Nat.testBit_lt_two_pow (Nat.lt_of_lt_of_le h (Nat.pow_le_pow_right (by decide) hk))]
    simp
theorem sS_0 {h : Nat → Nat → Int} : sS h 0 = 0 := by
  unfold sS
  rw [sm_congr (g := fun _ => 0) (fun k _ => by simp), sm_zero]
theorem wS_0 {h : Nat → Nat → Int} : wS h 0 = 0 := by
  unfold wS
  rw [sm_congr (g := fun _ => 0) (fun k _ => by simp), sm_zero]
section
variable {L : Nat} {xs : Nat → Int} {d : Nat} {S : AH}
theorem x_best (hU : GU S.2) (tot : Int) (hd : 20 ≤ d) : ∃ S' b, ev (WK L xs) d 95 [vr 50, vi tot] S = some (b, S') ∧ D50 S S' ∧ Bst S.2 S' b ∧ IsB S.2 tot (fun s => s < 2 ^ nIt S.2) b := by
  have hB := hU.itB
  have hn := hB.1
  have en := hU.n
  have e4 := hU.2.1
  obtain ⟨S', b', r1, r2, r3, r4⟩ := x_choose (L := L) (xs := xs) hU tot (d - nIt S.2 - 3) (nIt S.2) 0 (fun _ => False) (-1) (wr S 50 5 (-1)) (Nat.le_refl _) (by decide) (fun k _ => by simp) (fun k h1 h2 => by omega) (fun m hm => hm.elim) (D50.wr (by decide)) ⟨by simp [wr_f], fun m hm => by omega⟩ (Or.inl ⟨rfl, fun s hs => hs.elim⟩)
  refine ⟨S', b', ?_, r2, r3, r4.ext (fun s => by rw [Tr_all]; simp)⟩
  obtain ⟨e, he⟩ : ∃ e, d = e + 1 := ⟨d - 1, by omega⟩
  subst he
  have ed : e + 1 - nIt S.2 - 3 + nIt S.2 + 2 = e := by omega
  rw [sS_0, wS_0, ed] at r1
  rw [q_95, e4, en, w32e (by first | decide | omega) (by first | decide | omega)]
  have r1' : ev (WK L xs) e 96 [vr 50, vi ((nIt S.2 : Int) - 1), vl tot, vl 0, vl 0, vi 0] (wr S 50 5 (-1)) = some (0, S') := r1
  rw [r1', bR, r3.1]
theorem m_best (hU : GU S.2) (tot : Int) : ∃ b, ev (WK L xs) (d + 3) 273 [vr 72, vi tot] S = some ((if 0 ≤ tot ∧ tot ≤ 1000000000 then b else -1), S) ∧ IsB S.2 tot (fun s => s < 2 ^ nIt S.2) b := by
  have hB := hU.itB
  have hn := hB.1
  have en := hU.n
  have h2n : 2 ^ nIt S.2 ≤ 16384 := Nat.pow_le_pow_right (n := 2) (j := 14) (by decide) hn
  have key : ∀ (m k : Nat) (b : Int), k + m = 2 ^ nIt S.2 → IsB S.2 tot (fun s => s < k) b → ∃ b', LQ (WK L xs) (ev (WK L xs) (d + 2)) 273 13 [some (vr 72), some (vi tot), some (vi b), some (vi (k : Int))] [] S = some (b', S) ∧ IsB S.2 tot (fun s => s < 2 ^ nIt S.2) b' := by
    intro m
    induction m with
    | zero =>
      intro k b hk hI
      rw [q_273_13, en, ishl_n _ (by first | decide | omega), if_neg (by first | decide | omega)]
      have : k = 2 ^ nIt S.2 := by omega
      subst this
      exact ⟨b, rfl, hI⟩
    | succ m ih =>
      intro k b hk hI
      obtain ⟨r, f1, f2, f3⟩ := m_hasFloors (L := L) (xs := xs) (d := d + 1) hU k (by first | decide | omega)
      have e1 : (k : Int) + 1 = ((k + 1 : Nat) : Int) := by omega
      have hkeep : (¬ cnd S.2 tot k ∨ ∃ m : Nat, b = m ∧ ¬ btr S.2 k m) → IsB S.2 tot (fun s => s < k + 1) b := fun hz => (hI.grow (B := fun s => s = k) (fun s hs => by subst hs; exact hz)).ext (fun s => by omega)
      have htake : cnd S.2 tot k → (b = -1 ∨ ∃ m : Nat, b = m ∧ btr S.2 k m) → IsB S.2 tot (fun s => s < k + 1) (k : Int) := fun hz hq => (hI.take hz hq).ext (fun s => by omega)
      rw [q_273_13, en, ishl_n _ (by first | decide | omega), if_pos (by first | decide | omega), f1, bR, w32e (by first | decide | omega) (by first | decide | omega), e1]
      rcases f2 with hr | hr
      · rw [if_pos hr]
        exact ih (k + 1) b (by first | decide | omega) (hkeep (Or.inl (fun z => by have := f3.mpr z.1; omega)))
      · have hfl := f3.mp hr
        rw [if_neg (by first | decide | omega), m_sumOf hU k (by first | decide | omega), bR]
        simp only [lc_gt]
        by_cases h1 : tot < sS S.2 k
        · rw [if_pos h1]
          exact ih (k + 1) b (by first | decide | omega) (hkeep (Or.inl (fun z => by have := z.2; omega)))
        · rw [if_neg h1]
          have hc : cnd S.2 tot k := ⟨hfl, by omega⟩
          by_cases h2 : b = -1
          · rw [if_pos h2]
            exact ih (k + 1) k (by first | decide | omega) (htake hc (Or.inl h2))
          · rw [if_neg h2]
            rcases (show IsB S.2 tot (fun s => s < k) b from hI) with ⟨q, -⟩ | ⟨x, hx, a1, c1, q1⟩
            · exact absurd q h2
            · have ax : x < k := a1
              subst hx
              rw [m_worthOf hU k (by first | decide | omega), bR, m_worthOf hU x (by first | decide | omega), bR]
              by_cases h3 : wS S.2 x < wS S.2 k
              · rw [if_pos h3]
                exact ih (k + 1) k (by first | decide | omega) (htake hc (Or.inr ⟨x, rfl, Or.inl h3⟩))
              · rw [if_neg h3, m_worthOf hU k (by first | decide | omega), bR, m_worthOf hU x (by first | decide | omega), bR]
                by_cases h4 : wS S.2 k = wS S.2 x
                · rw [if_pos h4, m_sumOf hU k (by first | decide | omega), bR, m_sumOf hU x (by first | decide | omega), bR]
                  simp only [lc_lt]
                  by_cases h5 : sS S.2 k < sS S.2 x
                  · rw [if_pos h5]
                    exact ih (k + 1) k (by first | decide | omega) (htake hc (Or.inr ⟨x, rfl, Or.inr ⟨h4, Or.inl h5⟩⟩))
                  · rw [if_neg h5]
                    exact ih (k + 1) x (by first | decide | omega) (hkeep (Or.inr ⟨x, rfl, by unfold btr; omega⟩))
                · rw [if_neg h4]
                  exact ih (k + 1) x (by first | decide | omega) (hkeep (Or.inr ⟨x, rfl, by unfold btr; omega⟩))
  obtain ⟨b, k1, k2⟩ := key (2 ^ nIt S.2) 0 (-1) (by first | decide | omega) (Or.inl ⟨rfl, fun s hs => by omega⟩)
  refine ⟨b, ?_, k2⟩
  rw [q_273, m_isSum, bR]
  simp only [bi_0]
  by_cases hc : 0 ≤ tot ∧ tot ≤ 1000000000
  · rw [if_neg (fun z => z hc), if_pos hc]
    exact k1
  · rw [if_pos hc, if_neg hc]
theorem D50.inv {S' : AH} (H : Inv S) (h : D50 S S') : Inv S' := by
  refine H.scr ⟨by rw [h.1]; exact Nat.le_refl _, fun a h1 h2 => ⟨by rw [h.1], h.cell (by first | decide | omega)⟩⟩ (fun a k _ hs => h.2 a k (fun z => hs ?_))
  unfold scr
  omega
theorem D50.gu {S' : AH} (H : GU S.2) (h : D50 S S') : GU S'.2 := H.fr (h.2 _ _ (by decide)) (h.2 _ _ (by decide)) (h.2 _ _ (by decide)) (fun a ha => h.cell (by first | decide | omega))
theorem D50.sets {S' : AH} (h : D50 S S') : nIt S'.2 = nIt S.2 ∧ wS S'.2 = wS S.2 ∧ sS S'.2 = sS S.2 ∧ (∀ s, flO S'.2 s ↔ flO S.2 s) := by
  have e1 : nIt S'.2 = nIt S.2 := by unfold nIt; rw [h.cell (by decide)]
  refine ⟨e1, ?_, ?_, fun s => ?_⟩
  · funext s
    unfold wS
    rw [e1, h.cell (a := 131) (by decide)]
  · funext s
    unfold sS
    rw [e1, h.cell (a := 130) (by decide)]
  · unfold flO
    rw [e1, h.cell (a := 132) (by decide)]
theorem D50.isB {S' : AH} (h : D50 S S') {tot b : Int} {A : Nat → Prop} (hb : IsB S'.2 tot A b) : IsB S.2 tot A b := by
  obtain ⟨e1, e2, e3, e4⟩ := h.sets
  unfold IsB cnd btr at hb ⊢
  rw [e2, e3] at hb
  simpa only [e4] using hb
theorem o_cut (H : Inv S) (t : Int) : Ok L xs 34 273 [vi t] S := by
  by_cases hc : 0 ≤ t ∧ t ≤ 1000000000
  · obtain ⟨S1, b, x1, x2, x3, x4⟩ := x_best (L := L) (xs := xs) (d := 199) H.gu t (by decide)
    obtain ⟨b2, m1, m2⟩ := m_best (L := L) (xs := xs) (d := 197) (x2.gu H.gu) t
    have e : b2 = b := by
      have := x2.isB m2
      rw [x2.sets.1] at this
      exact this.one x4
    rw [if_pos hc, e] at m1
    refine ⟨b, S1, S1, ?_, m1, x2.inv H, Gw.of x2.1⟩
    rw [q_34, x_isSum, bR]
    simp only [bi_0]
    rw [if_neg (fun z => z hc), x1, bR]
  · obtain ⟨b2, m1, m2⟩ := m_best (L := L) (xs := xs) (d := 197) H.gu t
    rw [if_neg hc] at m1
    refine Ok.same H ?_ m1
    rw [q_34, x_isSum, bR]
    simp only [bi_0]
    rw [if_pos hc]
theorem D50.isL {S' : AH} (h : D50 S S') {bw b : Int} {A : Nat → Prop} (hb : IsL S'.2 bw A b) : IsL S.2 bw A b := by
  obtain ⟨e1, e2, e3, e4⟩ := h.sets
  unfold IsL at hb ⊢
  rw [e2, e3] at hb
  simpa only [e4] using hb
theorem x_more (hU : GU S.2) (tot : Int) (h1 : 0 ≤ tot ∧ tot ≤ 1000000000) (hd : 20 ≤ d) : ∃ S' r, ev (WK L xs) (d + 1) 98 [vr 50, vi tot] S = some (r, S') ∧ D50 S S' ∧ ∃ b, IsB S.2 tot (fun s => s < 2 ^ nIt S.2) b ∧ (b = -1 → r = -1) ∧ ∀ m : Nat, b = m → ∃ v, IsL S.2 (wS S.2 m) (fun s => s < 2 ^ nIt S.2) v ∧ r = if v = -1 then 0 else v - tot := by
  obtain ⟨S1, b, x1, x2, x3, x4⟩ := x_best (L := L) (xs := xs) (d := d) hU tot hd
  by_cases hb : b = -1
  · refine ⟨S1, -1, ?_, x2, b, x4, fun _ => rfl, fun m hm => by omega⟩
    rw [q_98, x1, bR, if_pos hb]
  · obtain ⟨m, hm⟩ : ∃ m : Nat, b = m := by
      rcases x4 with ⟨q, -⟩ | ⟨m, q, -⟩
      · exact absurd q hb
      · exact ⟨m, q⟩
    have hB := hU.itB
    have hn := hB.1
    obtain ⟨z1, z2, z3, z4⟩ := x2.sets
    have hU1 := x2.gu hU
    have en : S1.2 72 79 = (nIt S.2 : Int) := by rw [hU1.n, z1]
    have g1 := (x3.2 m hm).2
    obtain ⟨S2, v, r1, r2, r3, r4, r5⟩ := x_search (L := L) (xs := xs) hU (wS S.2 m) (d - nIt S.2 - 1) (nIt S.2) 0 (fun _ => False) (-1) (wr S1 50 8 (-1)) (Nat.le_refl _) (fun k _ => by simp) (fun k h1 h2 => by omega) (x2.tr (D50.wr (by decide))) (by rw [wr_f, if_neg (by decide)]; exact g1) (by rw [wr_f, if_pos rfl]) (Or.inl ⟨rfl, fun s hs => hs.elim⟩)
    have ed : d - nIt S.2 - 1 + nIt S.2 + 1 = d := by omega
    rw [sS_0, wS_0, ed] at r1
    have r5' : IsL S.2 (wS S.2 m) (fun s => s < 2 ^ nIt S.2) v := r5.ext (fun s => by rw [Tr_all]; simp)
    refine ⟨S2, if v = -1 then 0 else v - tot, ?_, r2, b, x4, fun q => absurd q hb, fun m2 hm2 => ⟨v, ?_, rfl⟩⟩
    · rw [q_98, x1, bR, if_neg hb, hU1.2.1, en, w32e (by first | decide | omega) (by first | decide | omega), r1, bR, r4]
      simp only [lc_eq]
      by_cases hv : v = -1
      · rw [if_pos hv, if_pos hv]
      · rw [if_neg hv, if_neg hv]
        have hvb : 0 ≤ v ∧ v ≤ 14000000000 := by
          rcases r5' with ⟨q, -⟩ | ⟨x, -, -, q, -⟩
          · exact absurd q hv
          · rw [q]
            exact sS_bd hB x
        rw [w64e (by first | decide | omega) (by first | decide | omega)]
    · have : m2 = m := by omega
      subst this
      exact r5'
theorem m_more (hU : GU S.2) (tot : Int) (h1 : 0 ≤ tot ∧ tot ≤ 1000000000) : ∃ r, ev (WK L xs) (d + 4) 277 [vr 72, vi tot] S = some (r, S) ∧ ∃ b, IsB S.2 tot (fun s => s < 2 ^ nIt S.2) b ∧ (b = -1 → r = -1) ∧ ∀ m : Nat, b = m → ∃ v, IsL S.2 (wS S.2 m) (fun s => s < 2 ^ nIt S.2) v ∧ r = if v = -1 then 0 else v - tot := by
  obtain ⟨b, m1, m2⟩ := m_best (L := L) (xs := xs) (d := d) hU tot
  rw [if_pos h1] at m1
  by_cases hb : b = -1
  · refine ⟨-1, ?_, b, m2, fun _ => rfl, fun m hm => by omega⟩
    rw [q_277, m1, bR, if_pos hb]
  · have hB := hU.itB
    have hn := hB.1
    have en := hU.n
    have h2n : 2 ^ nIt S.2 ≤ 16384 := Nat.pow_le_pow_right (n := 2) (j := 14) (by decide) hn
    have m2' := m2
    rcases m2 with ⟨q, -⟩ | ⟨x, hx, ax, cx, qx⟩
    · exact absurd q hb
    · subst hx
      have ax : x < 2 ^ nIt S.2 := ax
      -- a set of more worth costs more than the total
      have hgt : ∀ s, s < 2 ^ nIt S.2 → flO S.2 s ∧ wS S.2 x < wS S.2 s → tot < sS S.2 s := by
        intro s hs hq
        rcases Int.lt_or_le tot (sS S.2 s) with z | z
        · exact z
        · exact absurd (Or.inl hq.2) (qx s hs ⟨hq.1, z⟩)
      have key : ∀ (m k : Nat) (v : Int), k + m = 2 ^ nIt S.2 → IsL S.2 (wS S.2 x) (fun s => s < k) v → ∃ v', LQ (WK L xs) (ev (WK L xs) (d + 3)) 277 20 [some (vr 72), some (vi tot), some (vi (x : Int)), some (vl (if v = -1 then 0 else v - tot)), none, some (vi (k : Int)), none, none] [] S = some (if v' = -1 then 0 else v' - tot, S) ∧ IsL S.2 (wS S.2 x) (fun s => s < 2 ^ nIt S.2) v' := by
        intro m
        induction m with
        | zero =>
          intro k v hk hI
          rw [q_277_20, en, ishl_n _ (by first | decide | omega), if_neg (by first | decide | omega)]
          have : k = 2 ^ nIt S.2 := by omega
          subst this
          exact ⟨v, rfl, hI⟩
        | succ m ih =>
          intro k v hk hI
          obtain ⟨r, f1, f2, f3⟩ := m_hasFloors (L := L) (xs := xs) (d := d + 2) hU k (by first | decide | omega)
          have e1 : (k : Int) + 1 = ((k + 1 : Nat) : Int) := by omega
          have hkeep : (¬ (flO S.2 k ∧ wS S.2 x < wS S.2 k) ∨ (v ≠ -1 ∧ v ≤ sS S.2 k)) → IsL S.2 (wS S.2 x) (fun s => s < k + 1) v := fun hz => (hI.grow (B := fun s => s = k) (fun s hs => by subst hs; exact hz)).ext (fun s => by omega)
          have htake : (flO S.2 k ∧ wS S.2 x < wS S.2 k) → (v = -1 ∨ sS S.2 k < v) → IsL S.2 (wS S.2 x) (fun s => s < k + 1) (sS S.2 k) := fun hz hq => (hI.take (fun s => (sS_bd hB s).1) hz hq).ext (fun s => by omega)
          rw [q_277_20, en, ishl_n _ (by first | decide | omega), if_pos (by first | decide | omega), f1, bR, w32e (by first | decide | omega) (by first | decide | omega), e1]
          rcases f2 with hr | hr
          · rw [if_pos hr]
            exact ih (k + 1) v (by first | decide | omega) (hkeep (Or.inl (fun z => by have := f3.mpr z.1; omega)))
          · have hfl := f3.mp hr
            rw [if_neg (by first | decide | omega), m_worthOf hU k (by first | decide | omega), bR, m_worthOf hU x (by first | decide | omega), bR]
            by_cases h2 : wS S.2 x < wS S.2 k
            · rw [if_pos h2, m_sumOf hU k (by first | decide | omega), bR]
              have hk1 := hgt k (by first | decide | omega) ⟨hfl, h2⟩
              have hk2 := sS_bd hB k
              have hnew : (if sS S.2 k = -1 then (0 : Int) else sS S.2 k - tot) = sS S.2 k - tot := if_neg (by first | decide | omega)
              rw [w64e (x := sS S.2 k - tot) (by first | decide | omega) (by first | decide | omega)]
              simp only [lc_eq, lc_lt]
              by_cases h3 : v = -1
              · rw [if_pos h3, if_pos rfl]
                have := ih (k + 1) (sS S.2 k) (by first | decide | omega) (htake ⟨hfl, h2⟩ (Or.inl h3))
                rw [hnew] at this
                exact this
              · have hv : tot < v := by
                  rcases (show IsL S.2 (wS S.2 x) (fun s => s < k) v from hI) with ⟨q, -⟩ | ⟨y, ay, cy, q, -⟩
                  · exact absurd q h3
                  · have ay : y < k := ay
                    rw [q]
                    exact hgt y (by first | decide | omega) cy
                rw [if_neg h3, if_neg (by first | decide | omega)]
                by_cases h4 : sS S.2 k < v
                · rw [if_pos (by first | decide | omega)]
                  have := ih (k + 1) (sS S.2 k) (by first | decide | omega) (htake ⟨hfl, h2⟩ (Or.inr h4))
                  rw [hnew] at this
                  exact this
                · rw [if_neg (by first | decide | omega)]
                  have := ih (k + 1) v (by first | decide | omega) (hkeep (Or.inr ⟨h3, by omega⟩))
                  rw [if_neg h3] at this
                  exact this
            · rw [if_neg h2]
              exact ih (k + 1) v (by first | decide | omega) (hkeep (Or.inl (fun z => h2 z.2)))
      obtain ⟨v, k1, k2⟩ := key (2 ^ nIt S.2) 0 (-1) (by first | decide | omega) (Or.inl ⟨rfl, fun s hs => by omega⟩)
      refine ⟨if v = -1 then 0 else v - tot, ?_, (x : Int), m2', fun q => absurd q hb, fun m hm => ⟨v, ?_, rfl⟩⟩
      · rw [q_277, m1, bR, if_neg hb]
        exact k1
      · have : m = x := by omega
        subst this
        exact k2
theorem o_more (H : Inv S) (t : Int) : Ok L xs 35 277 [vi t] S := by
  by_cases hc : 0 ≤ t ∧ t ≤ 1000000000
  · obtain ⟨S1, r, x1, x2, b, x3, x4, x5⟩ := x_more (L := L) (xs := xs) (d := 198) H.gu t hc (by decide)
    obtain ⟨r2, m1, b2, m3, m4, m5⟩ := m_more (L := L) (xs := xs) (d := 196) (x2.gu H.gu) t hc
    have m3 := x2.isB m3
    obtain ⟨z1, z2, z3, z4⟩ := x2.sets
    rw [z1] at m3
    have e : b2 = b := m3.one x3
    have er : r2 = r := by
      rcases x3 with ⟨q, -⟩ | ⟨m, q, -⟩
      · rw [x4 q, m4 (e.trans q)]
      · obtain ⟨v, y1, y2⟩ := x5 m q
        obtain ⟨v2, y3, y4⟩ := m5 m (e.trans q)
        have y3 := x2.isL y3
        rw [z1, z2] at y3
        rw [y2, y4, y3.one y1]
    rw [er] at m1
    refine ⟨r, S1, S1, ?_, m1, x2.inv H, Gw.of x2.1⟩
    rw [q_35, x_isSum, bR]
    simp only [bi_0]
    rw [if_neg (fun z => z hc), x1, bR]
  · obtain ⟨b2, m1, m2⟩ := m_best (L := L) (xs := xs) (d := 196) H.gu t
    rw [if_neg hc] at m1
    refine Ok.same (r := -1) H ?_ ?_
    · rw [q_35, x_isSum, bR]
      simp only [bi_0]
      rw [if_pos hc]
    · rw [q_277, m1, bR, if_pos rfl]
end
