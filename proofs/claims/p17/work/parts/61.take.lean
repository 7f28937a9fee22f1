section
-- 61.take
/-! tender: what is taken -/
noncomputable def tk (s r : Nat → Int) (n : Nat) : Nat → Int → (Nat → Bool) → List (Nat × Int)
  | 0, _, _ => []
  | m + 1, left, t => if 0 < left ∧ lwB r t n ≠ -1 then ((lwB r t n).toNat, min left (s (lwB r t n).toNat)) :: tk s r n m (left - min left (s (lwB r t n).toNat)) (fun k => t k || k == (lwB r t n).toNat) else []
/-- the sum of what is taken -/
noncomputable def tks (l : List (Nat × Int)) : Int := (l.map (·.2)).sum
theorem tk_len {s r : Nat → Int} {n : Nat} : ∀ (m : Nat) (left : Int) (t : Nat → Bool), (tk s r n m left t).length ≤ m := by
  intro m
  induction m with
  | zero => intro left t; exact Nat.le_refl _
  | succ m ih =>
    intro left t
    simp only [tk]
    split
    · rw [List.length_cons]
      have := ih (left - min left (s (lwB r t n).toNat)) (fun k => t k || k == (lwB r t n).toNat)
      omega
    · exact Nat.zero_le _
theorem tks_bd {s r : Nat → Int} {n : Nat} (hs : ∀ b, b < n → 1 ≤ s b) : ∀ (m : Nat) (left : Int) (t : Nat → Bool), 0 ≤ left → 0 ≤ tks (tk s r n m left t) ∧ tks (tk s r n m left t) ≤ left := by
  intro m
  induction m with
  | zero =>
    intro left t h
    show (0 : Int) ≤ 0 ∧ (0 : Int) ≤ left
    omega
  | succ m ih =>
    intro left t h
    simp only [tk]
    by_cases q : 0 < left ∧ lwB r t n ≠ -1
    · rw [if_pos q]
      have hb := lwB_bd (r := r) (t := t) (n := n)
      have h1 := hs (lwB r t n).toNat (by first | decide | omega)
      have hi := ih (left - min left (s (lwB r t n).toNat)) (fun k => t k || k == (lwB r t n).toNat) (by first | decide | omega)
      unfold tks at hi ⊢
      rw [List.map_cons, List.sum_cons]
      show 0 ≤ min left (s (lwB r t n).toNat) + _ ∧ min left (s (lwB r t n).toNat) + _ ≤ left
      omega
    · rw [if_neg q]
      show (0 : Int) ≤ 0 ∧ (0 : Int) ≤ left
      omega
/-- each of the list is a bid, and a sum that is due to it -/
theorem tk_mem {s r : Nat → Int} {n : Nat} (hs : ∀ b, b < n → 1 ≤ s b) : ∀ (m : Nat) (left : Int) (t : Nat → Bool), ∀ q ∈ tk s r n m left t, q.1 < n ∧ 1 ≤ q.2 ∧ q.2 ≤ s q.1 := by
  intro m
  induction m with
  | zero => intro left t q hq; cases hq
  | succ m ih =>
    intro left t q hq
    simp only [tk] at hq
    by_cases z : 0 < left ∧ lwB r t n ≠ -1
    · rw [if_pos z] at hq
      have hb := lwB_bd (r := r) (t := t) (n := n)
      have h1 := hs (lwB r t n).toNat (by first | decide | omega)
      rcases List.mem_cons.mp hq with e | hq
      · rw [e]
        show (lwB r t n).toNat < n ∧ 1 ≤ min left (s (lwB r t n).toNat) ∧ min left (s (lwB r t n).toNat) ≤ s (lwB r t n).toNat
        omega
      · exact ih _ _ q hq
    · rw [if_neg z] at hq
      cases hq
end
section
-- 62.tender
/-! tender: numbers on both sides in one word -/
noncomputable def nmb (h : Nat → Nat → Int) (k : Nat) (day : Int) : Int := nmL h (skd h day) day (nlet k) (ndef k) (h 72 36).toNat
theorem nmb_fr {h h' : Nat → Nat → Int} (k : Nat) (day : Int) (e0 : h' 78 = h 78) (e1 : h' 79 = h 79) (e2 : h' 80 = h 80) (e3 : h' 81 = h 81) (e4 : h' 94 = h 94) (e5 : h' 95 = h 95) (e6 : h' 72 36 = h 72 36) : nmb h' k day = nmb h k day := by
  unfold nmb
  rw [skd_fr day e0 e1 e2 e3 e4 e5 e6, e6, nmL_fr e0 e1 e2 e4 e5]
theorem nlet_def {k : Nat} (hk : k < 5) : (if nlet k = 109 then (10 : Int) else if nlet k = 100 then 30 else 0) = ndef k := by
  have : k = 0 ∨ k = 1 ∨ k = 2 ∨ k = 3 ∨ k = 4 := by omega
  rcases this with rfl | rfl | rfl | rfl | rfl <;> decide
section
variable {L : Nat} {xs : Nat → Int} {d : Nat} {S T U : AH}
theorem x_nmb (gl : GL S) {k : Nat} (hk : k < 5) (day : Int) : ∃ T, ev (WK L xs) (d + 5) 108 [vr 31, vi (k : Int), vi day] S = some (nmb S.2 k day, T) ∧ T.1 = S.1 ∧ ∀ a, a ≠ 35 → T.2 a = S.2 a := by
  obtain ⟨T, t1, t2⟩ := x_numberOn (L := L) (xs := xs) (d := d) gl hk day
  exact ⟨T, t1, t2.1, t2.2.1⟩
theorem m_nmb (gl : GL S) {k : Nat} (hk : k < 5) (day : Int) : ∃ U, ev (WK L xs) (d + 4) 236 [vr 72, vi (nlet k), vi day] S = some (nmb S.2 k day, U) ∧ U.1 = S.1 ∧ ∀ a, a ≠ 96 → U.2 a = S.2 a := by
  obtain ⟨U, u1, u2⟩ := m_numberOf (L := L) (xs := xs) (d := d) gl (nlet k) day
  rw [nlet_def hk] at u1
  exact ⟨U, u1, u2.1, u2.2.1⟩
theorem Fr.eq (h1 : T.1 = S.1) (h : ∀ a, 151 ≤ a → T.2 a = S.2 a) : Fr S T := ⟨by rw [h1]; exact Nat.le_refl _, fun a q _ => ⟨by rw [h1], h a q⟩⟩
theorem Inv.s35 (H : Inv S) (h1 : T.1 = S.1) (h : ∀ a, a ≠ 35 → T.2 a = S.2 a) : Inv T := H.scr (Fr.eq h1 (fun a q => h a (by first | decide | omega))) (fun a k _ q2 => by rw [h a (fun z => q2 (by unfold _root_.Jvm.Pilot.@@N@@.scr; omega))])
theorem Inv.s96 (H : Inv S) (h1 : T.1 = S.1) (h : ∀ a, a ≠ 96 → T.2 a = S.2 a) : Inv T := H.scr (Fr.eq h1 (fun a q => h a (by first | decide | omega))) (fun a k _ q2 => by rw [h a (fun z => q2 (by unfold _root_.Jvm.Pilot.@@N@@.scr; omega))])
end
/-! how many are taken -/
noncomputable def cn (t : Nat → Bool) : Nat → Nat
  | 0 => 0
  | n + 1 => cn t n + (if t n = true then 1 else 0)
theorem cn_le (t : Nat → Bool) : ∀ n, cn t n ≤ n := by
  intro n
  induction n with
  | zero => exact Nat.le_refl _
  | succ n ih => simp only [cn]; split <;> omega
theorem cn_full {t : Nat → Bool} : ∀ n, cn t n = n → ∀ b, b < n → t b = true := by
  intro n
  induction n with
  | zero => intro _ b hb; omega
  | succ n ih =>
    intro h b hb
    simp only [cn] at h
    have := cn_le t n
    by_cases q : t n = true
    · rw [if_pos q] at h
      by_cases e : b = n
      · rw [e]; exact q
      · exact ih (by first | decide | omega) b (by first | decide | omega)
    · rw [if_neg q] at h; omega
theorem cn_same {t u : Nat → Bool} : ∀ n, (∀ b, b < n → t b = u b) → cn t n = cn u n := by
  intro n
  induction n with
  | zero => intro _; rfl
  | succ n ih => intro h; simp only [cn]; rw [ih (fun b hb => h b (by first | decide | omega)), h n (by first | decide | omega)]
theorem cn_set {t : Nat → Bool} {b : Nat} : ∀ n, b < n → t b = false → cn (fun k => t k || k == b) n = cn t n + 1 := by
  intro n
  induction n with
  | zero => intro h; omega
  | succ n ih =>
    intro h hf
    simp only [cn]
    by_cases e : b = n
    · subst e
      have e1 := cn_same (t := fun k => t k || k == b) (u := t) b (fun k hk => by simp; omega)
      rw [e1]
      simp [hf]
    · rw [ih (by first | decide | omega) hf]
      have : (n == b) = false := by simp; omega
      simp only [this, Bool.or_false]
      omega
theorem cn_none (n : Nat) : cn (fun _ => false) n = 0 := by
  induction n with
  | zero => rfl
  | succ n ih => simp only [cn, ih]; rfl
theorem low_cong {r r' : Nat → Int} {t : Nat → Bool} : ∀ (m b : Nat) (best : Int), (best = -1 ∨ (0 ≤ best ∧ best < b)) → (∀ k, k < b + m → r k = r' k) → low r t m b best = low r' t m b best := by
  intro m
  induction m with
  | zero => intro b best _ _; rfl
  | succ m ih =>
    intro b best h hr
    simp only [low]
    rw [hr b (by first | decide | omega)]
    have e : (t b = false ∧ (best = -1 ∨ r' b < r best.toNat)) ↔ (t b = false ∧ (best = -1 ∨ r' b < r' best.toNat)) := by
      rcases h with h | h
      · subst h; simp
      · rw [hr best.toNat (by first | decide | omega)]
    simp only [e]
    exact ih (b + 1) _ (by split <;> omega) (fun k hk => hr k (by first | decide | omega))
theorem lwB_cong {r r' : Nat → Int} {t : Nat → Bool} {n : Nat} (hr : ∀ k, k < n → r k = r' k) : lwB r t n = lwB r' t n := low_cong n 0 (-1) (Or.inl rfl) (fun k hk => hr k (by first | decide | omega))
theorem tk_cong {s s' r r' : Nat → Int} {n : Nat} (hs : ∀ k, k < n → s k = s' k) (hr : ∀ k, k < n → r k = r' k) : ∀ (m : Nat) (left : Int) (t : Nat → Bool), tk s r n m left t = tk s' r' n m left t := by
  intro m
  induction m with
  | zero => intro left t; rfl
  | succ m ih =>
    intro left t
    simp only [tk]
    rw [lwB_cong hr]
    have hb := lwB_bd (r := r') (t := t) (n := n)
    by_cases q : 0 < left ∧ lwB r' t n ≠ -1
    · rw [if_pos q, if_pos q, hs _ (by first | decide | omega), ih]
    · rw [if_neg q, if_neg q]
theorem tks_cons (q : Nat × Int) (l : List (Nat × Int)) : tks (q :: l) = q.2 + tks l := by
  unfold tks
  rw [List.map_cons, List.sum_cons]
theorem tks_nil : tks [] = 0 := rfl
end
section
-- 63.tenderx
/-! tender: the class's loops -/
section
variable {L : Nat} {xs : Nat → Int} {d : Nat} {S T U : AH}
theorem x_takeL {n : Nat} (hn : n ≤ 12) {p : Int} : ∀ (m i : Nat) (left : Int) (used : Nat) (t : Nat → Bool) (S : AH), i + m = n → S.2 63 5 = i → S.2 63 2 = n → used < 65536 → (∀ b, b < n → used.testBit b = t b) → 0 ≤ left → left ≤ 1000000000 → (∀ b, b < n → 1 ≤ S.2 64 b ∧ S.2 64 b ≤ 1000000000) →
    ∃ T, LQ (WK L xs) (ev (WK L xs) (d + 1)) 111 12 [some (vr 63), some (vi p), some (vi left), some (vi (used : Int)), some (vi (i : Int)), none] [] S = some (w64 (p - (left - tks (tk (S.2 64) (S.2 65) n m left t))), T) ∧ T.1 = S.1 ∧ (∀ a, a ≠ 63 → a ≠ 66 → a ≠ 67 → T.2 a = S.2 a) ∧ (∀ k, k ≠ 5 → T.2 63 k = S.2 63 k) ∧ T.2 63 5 = ((i + (tk (S.2 64) (S.2 65) n m left t).length : Nat) : Int) ∧ (∀ j, j < i → T.2 66 j = S.2 66 j ∧ T.2 67 j = S.2 67 j) ∧ ∀ (j : Nat) (q : Nat × Int), (tk (S.2 64) (S.2 65) n m left t)[j]? = some q → T.2 66 (i + j) = q.1 ∧ T.2 67 (i + j) = q.2 := by
  intro m
  induction m with
  | zero =>
    intro i left used t S hi h5 h2 hu ht hl1 hl2 hs
    refine ⟨S, ?_, rfl, fun _ _ _ _ => rfl, fun _ _ => rfl, h5, fun _ _ => ⟨rfl, rfl⟩, fun j q hq => by cases hq⟩
    rw [q_111_12, h2, if_neg (by first | decide | omega)]
    show some (w64 (p - left), S) = some (w64 (p - (left - 0)), S)
    rw [Int.sub_zero]
  | succ m ih =>
    intro i left used t S hi h5 h2 hu ht hl1 hl2 hs
    have hb := lwB_bd (r := S.2 65) (t := t) (n := n)
    have hlow := x_low (L := L) (xs := xs) (d := d) (S := S) hn hu h2 ht
    simp only [tk]
    by_cases q : 0 < left ∧ lwB (S.2 65) t n ≠ -1
    · rw [if_pos q]
      obtain ⟨b, hbe⟩ := Int.eq_ofNat_of_zero_le (show 0 ≤ lwB (S.2 65) t n by omega)
      rw [hbe] at hlow hb q ⊢
      rw [Int.toNat_natCast] at hb ⊢
      have hbn : b < n := by omega
      have hbt : t b = false := by
        rcases hb with hb | hb
        · omega
        · exact hb.2.2
      obtain ⟨o1, o2, -⟩ := set_or hu (show b < 16 by omega)
      have hv := hs b hbn
      have f64 : ∀ a, a ≠ 63 → a ≠ 66 → a ≠ 67 → (wr (wr (wr S 66 i b) 67 i (min left (S.2 64 b))) 63 5 ((i + 1 : Nat) : Int)).2 a = S.2 a := fun a q1 q2 q3 => by rw [wr_c q1, wr_c q3, wr_c q2]
      obtain ⟨T, t1, t2, t3, t4, t5, t6, t7⟩ := ih (i + 1) (left - min left (S.2 64 b)) (used ||| 2 ^ b) (fun k => t k || k == b) (wr (wr (wr S 66 i b) 67 i (min left (S.2 64 b))) 63 5 ((i + 1 : Nat) : Int)) (by first | decide | omega) (by rw [wr_f, if_pos rfl]) (by rw [wr_f, if_neg (by decide), wr_c (by decide), wr_c (by decide)]; exact h2) o2 (fun k hk => by
        rw [Nat.testBit_or, ht k hk, Nat.testBit_two_pow]
        by_cases e : b = k
        · subst e; simp
        · have : (k == b) = false := by simp; omega
          simp [e, this]) (by first | decide | omega) (by first | decide | omega) (fun k hk => by rw [f64 64 (by decide) (by decide) (by decide)]; exact hs k hk)
      rw [f64 64 (by decide) (by decide) (by decide), f64 65 (by decide) (by decide) (by decide)] at t1 t5 t7
      refine ⟨T, ?_, t2, fun a q1 q2 q3 => by rw [t3 a q1 q2 q3, f64 a q1 q2 q3], fun k hk => ?_, ?_, fun j hj => ?_, fun j x hx => ?_⟩
      · have hq12 : (0 : Int) ≤ (i : Int) ∧ (i : Int) < 12 := by omega
        rw [q_111_12, h2, if_pos (by first | decide | omega), if_pos q.1, hlow, bR, if_neg (by first | decide | omega), h5, if_pos (by first | decide | omega), if_pos hq12, if_pos (by first | decide | omega), if_pos hq12, if_pos hq12, Int.toNat_natCast, Int.toNat_natCast, wr_f, if_pos rfl, w32e (by first | decide | omega) (by first | decide | omega), w32e (by first | decide | omega) (by first | decide | omega), o1, show (i : Int) + 1 = ((i + 1 : Nat) : Int) by omega, t1, tks_cons]
        show some (w64 (p - (left - min left (S.2 64 b) - _)), T) = some (w64 (p - (left - (min left (S.2 64 b) + _))), T)
        rw [Int.sub_sub]
      · rw [t4 k hk, wr_f, if_neg hk, wr_c (by decide), wr_c (by decide)]
      · rw [t5, List.length_cons]
        omega
      · obtain ⟨z1, z2⟩ := t6 j (by first | decide | omega)
        rw [z1, z2, wr_c (by decide), wr_c (by decide), wr_f, if_neg (by first | decide | omega), wr_c (by decide), wr_f, if_neg (by first | decide | omega), wr_c (by decide)]
        exact ⟨rfl, rfl⟩
      · cases j with
        | zero =>
          have hx2 : ((b, min left (S.2 64 b)) : Nat × Int) = x := by
            rw [List.getElem?_cons_zero] at hx
            exact Option.some.inj hx
          obtain ⟨z1, z2⟩ := t6 i (by first | decide | omega)
          rw [← hx2, Nat.add_zero, z1, z2, wr_c (by decide), wr_c (by decide), wr_f, if_pos rfl, wr_c (by decide), wr_f, if_pos rfl]
          exact ⟨rfl, rfl⟩
        | succ j =>
          rw [List.getElem?_cons_succ] at hx
          have := t7 j x hx
          rw [show i + 1 + j = i + (j + 1) by omega] at this
          exact this
    · rw [if_neg q]
      refine ⟨S, ?_, rfl, fun _ _ _ _ => rfl, fun _ _ => rfl, h5, fun _ _ => ⟨rfl, rfl⟩, fun j q hq => by cases hq⟩
      have e0 : w64 (p - (left - tks [])) = w64 (p - left) := by rw [tks_nil, Int.sub_zero]
      rw [e0, q_111_12, h2, if_pos (by first | decide | omega)]
      by_cases q2 : 0 < left
      · rw [if_pos q2, hlow, bR, if_pos (by first | decide | omega)]
      · rw [if_neg q2]
/-- the rate of the i-th loan of a tender -/
noncomputable def rto (r : Nat → Int) (l : List (Nat × Int)) (one : Int) (q : Nat × Int) : Int := if one = 0 then r q.1 else r (l.getLast?.getD (0, 0)).1
theorem x_lendL {n sz : Nat} {l : List (Nat × Int)} {day one : Int} (hn : n ≤ 12) (h2 : T.2 63 2 = n) (h5 : T.2 63 5 = l.length) (h12 : l.length ≤ 12) (hz : sz + l.length ≤ 30) (hm : ∀ q ∈ l, q.1 < n) (hl : ∀ (j : Nat) (q : Nat × Int), l[j]? = some q → T.2 66 j = q.1 ∧ T.2 67 j = q.2) : ∀ (m i : Nat) (V : AH), i + m = l.length → V.1 = T.1 → (∀ a, a ≠ 63 → ¬ (68 ≤ a ∧ a ≤ 71) → V.2 a = T.2 a) → (∀ k, k ≠ 10 → V.2 63 k = T.2 63 k) → V.2 63 10 = ((sz + i : Nat) : Int) → (∀ a j, 68 ≤ a → a ≤ 71 → j < sz → V.2 a j = T.2 a j) → (∀ (j : Nat) (q : Nat × Int), j < i → l[j]? = some q → V.2 68 (sz + j) = q.2 ∧ V.2 69 (sz + j) = rto (T.2 65) l one q ∧ V.2 70 (sz + j) = day ∧ V.2 71 (sz + j) = -1) →
    ∃ U, LQ (WK L xs) (ev (WK L xs) d) 115 2 [some (vr 63), some (vi day), some (vi one), some (vi (i : Int)), none] [] V = some ((l.length : Int), U) ∧ U.1 = T.1 ∧ (∀ a, a ≠ 63 → ¬ (68 ≤ a ∧ a ≤ 71) → U.2 a = T.2 a) ∧ (∀ k, k ≠ 10 → k ≠ 2 → U.2 63 k = T.2 63 k) ∧ U.2 63 2 = 0 ∧ U.2 63 10 = ((sz + l.length : Nat) : Int) ∧ (∀ a j, 68 ≤ a → a ≤ 71 → j < sz → U.2 a j = T.2 a j) ∧ ∀ (j : Nat) (q : Nat × Int), l[j]? = some q → U.2 68 (sz + j) = q.2 ∧ U.2 69 (sz + j) = rto (T.2 65) l one q ∧ U.2 70 (sz + j) = day ∧ U.2 71 (sz + j) = -1 := by
  intro m
  induction m with
  | zero =>
    intro i V hi v1 v2 v3 v4 v5 v6
    have hi' : i = l.length := by omega
    refine ⟨wr V 63 2 0, ?_, v1, fun a q1 q2 => by rw [wr_c q1]; exact v2 a q1 q2, fun k q1 q2 => by rw [wr_f, if_neg q2]; exact v3 k q1, by rw [wr_f, if_pos rfl], by rw [wr_f, if_neg (by decide), v4, hi'], fun a j q1 q2 q3 => by rw [wr_c (by first | decide | omega)]; exact v5 a j q1 q2 q3, fun j q hq => ?_⟩
    · rw [q_115_2, v3 5 (by decide), h5, if_neg (by first | decide | omega)]
    · have hj := (List.getElem?_eq_some_iff.mp hq).1
      rw [wr_c (by decide), wr_c (by decide), wr_c (by decide), wr_c (by decide)]
      exact v6 j q (by first | decide | omega) hq
  | succ m ih =>
    intro i V hi v1 v2 v3 v4 v5 v6
    have hil : i < l.length := by omega
    have hx : l[i]? = some l[i] := List.getElem?_eq_getElem hil
    obtain ⟨x1, x2⟩ := hl i _ hx
    have hx3 := hm l[i] (List.getElem_mem hil)
    have hll : l.length - 1 < l.length := by omega
    have hy : l[l.length - 1]? = some l[l.length - 1] := List.getElem?_eq_getElem hll
    obtain ⟨y1, -⟩ := hl (l.length - 1) _ hy
    have hy3 := hm l[l.length - 1] (List.getElem_mem hll)
    have hlast : l.getLast?.getD (0, 0) = l[l.length - 1] := by rw [List.getLast?_eq_getElem?, hy]; rfl
    have hzi : (0 : Int) ≤ ((sz + i : Nat) : Int) ∧ ((sz + i : Nat) : Int) < 30 := by omega
    have go : ∀ (tt : Nat) (z : Nat), V.2 66 tt = z → tt < 12 → z < n → T.2 65 z = rto (T.2 65) l one l[i] → ∃ U, LQ (WK L xs) (ev (WK L xs) d) 115 40 [some (vr 63), some (vi day), some (vi one), some (vi (i : Int)), none] [vi (tt : Int), vr 66] V = some ((l.length : Int), U) ∧ U.1 = T.1 ∧ (∀ a, a ≠ 63 → ¬ (68 ≤ a ∧ a ≤ 71) → U.2 a = T.2 a) ∧ (∀ k, k ≠ 10 → k ≠ 2 → U.2 63 k = T.2 63 k) ∧ U.2 63 2 = 0 ∧ U.2 63 10 = ((sz + l.length : Nat) : Int) ∧ (∀ a j, 68 ≤ a → a ≤ 71 → j < sz → U.2 a j = T.2 a j) ∧ ∀ (j : Nat) (q : Nat × Int), l[j]? = some q → U.2 68 (sz + j) = q.2 ∧ U.2 69 (sz + j) = rto (T.2 65) l one q ∧ U.2 70 (sz + j) = day ∧ U.2 71 (sz + j) = -1 := by
      intro tt z hz1 htt hzn hrt
      have := ih (i + 1) (wr (wr (wr (wr (wr V 68 (sz + i) l[i].2) 69 (sz + i) (T.2 65 z)) 70 (sz + i) day) 71 (sz + i) (-1)) 63 10 ((sz + (i + 1) : Nat) : Int)) (by first | decide | omega) v1 (fun a q1 q2 => by rw [wr_c q1, wr_c (by first | decide | omega), wr_c (by first | decide | omega), wr_c (by first | decide | omega), wr_c (by first | decide | omega)]; exact v2 a q1 q2) (fun k hk => by rw [wr_f, if_neg hk, wr_c (by decide), wr_c (by decide), wr_c (by decide), wr_c (by decide)]; exact v3 k hk) (by rw [wr_f, if_pos rfl]) (fun a j q1 q2 q3 => by
        rw [← v5 a j q1 q2 q3]
        simp only [wr_2]
        rw [if_neg (by first | decide | omega), if_neg (by first | decide | omega), if_neg (by first | decide | omega), if_neg (by first | decide | omega), if_neg (by first | decide | omega)]) (fun j q hj hq => by
        simp only [wr_2]
        by_cases e : j = i
        · subst e
          rw [hx] at hq
          have hq := Option.some.inj hq
          subst hq
          simp [hrt]
        · obtain ⟨w1, w2, w3, w4⟩ := v6 j q (by first | decide | omega) hq
          have e2 : ¬ (sz + j = sz + i) := by omega
          simp [e2, w1, w2, w3, w4, e])
      rw [q_115_40, if_pos (by first | decide | omega), if_pos (by first | decide | omega), v4, if_pos hzi, Int.toNat_natCast, Int.toNat_natCast, Int.toNat_natCast, hz1, if_neg (by first | decide | omega), v3 2 (by decide), h2, if_pos (by first | decide | omega), if_pos (by first | decide | omega), Int.toNat_natCast, v2 65 (by decide) (by decide), v2 67 (by decide) (by decide), x2, q_115_91]
      simp only [wr_c (show (63 : Nat) ≠ 68 by decide), v4, Int.toNat_natCast]
      rw [if_pos hzi, if_pos hzi, if_pos hzi, w32e (by first | decide | omega) (by first | decide | omega), w32e (by first | decide | omega) (by first | decide | omega), show (i : Int) + 1 = ((i + 1 : Nat) : Int) by omega, show ((sz + i : Nat) : Int) + 1 = ((sz + (i + 1) : Nat) : Int) by omega]
      exact this
    rw [q_115_2, v3 5 (by decide), h5, if_pos (by first | decide | omega), v4, if_pos (by first | decide | omega)]
    by_cases ho : one = 0
    · rw [if_pos ho]
      refine go i l[i].1 (by rw [v2 66 (by decide) (by decide)]; exact x1) (by first | decide | omega) hx3 ?_
      unfold rto
      rw [if_pos ho]
    · rw [if_neg ho, w32e (by first | decide | omega) (by first | decide | omega), show ((l.length : Nat) : Int) - 1 = ((l.length - 1 : Nat) : Int) by omega]
      refine go (l.length - 1) l[l.length - 1].1 (by rw [v2 66 (by decide) (by decide)]; exact y1) (by first | decide | omega) hy3 ?_
      unfold rto
      rw [if_neg ho, hlast]
end
end
section
-- 64.tenderm
/-! tender: the reference's loops -/
section
variable {L : Nat} {xs : Nat → Int} {d : Nat} {S T U : AH}
/-- the rate of the last one taken -/
noncomputable def hiR (r : Nat → Int) (l : List (Nat × Int)) (high : Int) : Int := match l.getLast? with
  | some q => r q.1
  | none => high
theorem hiR_nil (r : Nat → Int) (high : Int) : hiR r [] high = high := rfl
theorem hiR_cons (r : Nat → Int) (q : Nat × Int) (l : List (Nat × Int)) (high : Int) : hiR r (q :: l) high = hiR r l (r q.1) := by
  unfold hiR
  rw [List.getLast?_cons]
  cases l.getLast? <;> rfl
theorem m_clr1 {n : Nat} (hn : n ≤ 12) {p one : Int} : ∀ (m i : Nat) (S : AH), i + m = n → S.2 72 92 = n → (∀ b, b < i → S.2 141 b = 0) → ∃ T, LQ (WK L xs) (ev (WK L xs) (d + 1)) 293 16 [some (vr 72), some (vi p), some (vi one), some (vi (i : Int)), none, none, none, none] [] S = LQ (WK L xs) (ev (WK L xs) (d + 1)) 293 51 [some (vr 72), some (vi p), some (vi one), some (vi p), some (vi 0), some (vi 0), some (vi (lwB (S.2 140) (fun _ => false) n)), none] [] T ∧ T.1 = S.1 ∧ (∀ a, a ≠ 141 → T.2 a = S.2 a) ∧ ∀ b, b < n → T.2 141 b = 0 := by
  intro m
  induction m with
  | zero =>
    intro i S hi h2 h3
    refine ⟨S, ?_, rfl, fun _ _ => rfl, fun b hb => h3 b (by first | decide | omega)⟩
    rw [q_293_16, h2, if_neg (by first | decide | omega), m_low hn h2 (t := fun _ => false) (fun b hb => by rw [h3 b (by first | decide | omega)]; rfl), bR]
  | succ m ih =>
    intro i S hi h2 h3
    obtain ⟨T, t1, t2, t3, t4⟩ := ih (i + 1) (wr S 141 i 0) (by first | decide | omega) (by rw [wr_c (by decide)]; exact h2) (fun b hb => by
      rw [wr_f]
      by_cases e : b = i
      · rw [if_pos e]
      · rw [if_neg e]; exact h3 b (by first | decide | omega))
    rw [wr_c (by decide)] at t1
    refine ⟨T, ?_, t2, fun a ha => by rw [t3 a ha, wr_c ha], t4⟩
    rw [q_293_16, h2, if_pos (by first | decide | omega), if_pos (by first | decide | omega), Int.toNat_natCast, w32e (by first | decide | omega) (by first | decide | omega), show (i : Int) + 1 = ((i + 1 : Nat) : Int) by omega, t1]
theorem m_clr2 {n : Nat} (hn : n ≤ 12) {one x3 x4 x5 : Int} : ∀ (m i : Nat) (S : AH), i + m = n → S.2 72 92 = n → (∀ b, b < i → S.2 141 b = 0) → ∃ T, LQ (WK L xs) (ev (WK L xs) d) 293 163 [some (vr 72), none, some (vi one), some (vi x3), some (vi x4), some (vi x5), none, some (vi (i : Int))] [] S = LQ (WK L xs) (ev (WK L xs) d) 293 189 [some (vr 72), none, some (vi one), some (vi x3), some (vi x4), some (vi x5), none, some (vi 0)] [] T ∧ T.1 = S.1 ∧ (∀ a, a ≠ 141 → T.2 a = S.2 a) ∧ ∀ b, b < n → T.2 141 b = 0 := by
  intro m
  induction m with
  | zero =>
    intro i S hi h2 h3
    refine ⟨S, ?_, rfl, fun _ _ => rfl, fun b hb => h3 b (by first | decide | omega)⟩
    rw [q_293_163, h2, if_neg (by first | decide | omega)]
  | succ m ih =>
    intro i S hi h2 h3
    obtain ⟨T, t1, t2, t3, t4⟩ := ih (i + 1) (wr S 141 i 0) (by first | decide | omega) (by rw [wr_c (by decide)]; exact h2) (fun b hb => by
      rw [wr_f]
      by_cases e : b = i
      · rw [if_pos e]
      · rw [if_neg e]; exact h3 b (by first | decide | omega))
    refine ⟨T, ?_, t2, fun a ha => by rw [t3 a ha, wr_c ha], t4⟩
    rw [q_293_163, h2, if_pos (by first | decide | omega), if_pos (by first | decide | omega), Int.toNat_natCast, w32e (by first | decide | omega) (by first | decide | omega), show (i : Int) + 1 = ((i + 1 : Nat) : Int) by omega, t1]
theorem m_tk1 {n : Nat} (hn : n ≤ 12) {p one : Int} : ∀ (m i : Nat) (left high : Int) (t : Nat → Bool) (S : AH), i + m = n → cn t n + m = n → S.2 72 92 = n → (∀ b, b < n → S.2 141 b = if t b then 1 else 0) → 0 ≤ left → left ≤ 1000000000 → (∀ b, b < n → 1 ≤ S.2 139 b ∧ S.2 139 b ≤ 1000000000) →
    ∃ T, LQ (WK L xs) (ev (WK L xs) (d + 1)) 293 51 [some (vr 72), some (vi p), some (vi one), some (vi left), some (vi (i : Int)), some (vi high), some (vi (lwB (S.2 140) t n)), none] [] S = LQ (WK L xs) (ev (WK L xs) (d + 1)) 293 115 [some (vr 72), some (vi p), some (vi one), some (vi (left - tks (tk (S.2 139) (S.2 140) n m left t))), some (vi ((i + (tk (S.2 139) (S.2 140) n m left t).length : Nat) : Int)), some (vi (hiR (S.2 140) (tk (S.2 139) (S.2 140) n m left t) high)), none, none] [] T ∧ T.1 = S.1 ∧ ∀ a, a ≠ 141 → T.2 a = S.2 a := by
  intro m
  induction m with
  | zero =>
    intro i left high t S hi hc h2 ht hl1 hl2 hs
    refine ⟨S, ?_, rfl, fun _ _ => rfl⟩
    have hb := lwB_bd (r := S.2 140) (t := t) (n := n)
    have hN : lwB (S.2 140) t n = -1 := by
      rcases hb with hb | ⟨b1, b2, b3⟩
      · exact hb
      · have := cn_full n (by first | decide | omega) (lwB (S.2 140) t n).toNat (by first | decide | omega)
        rw [b3] at this
        cases this
    simp only [tk]
    rw [q_293_51, hN, tks_nil, Int.sub_zero, hiR_nil]
    by_cases q : 0 < left
    · rw [if_pos q, if_pos rfl]
      rfl
    · rw [if_neg q]
      rfl
  | succ m ih =>
    intro i left high t S hi hc h2 ht hl1 hl2 hs
    have hb := lwB_bd (r := S.2 140) (t := t) (n := n)
    simp only [tk]
    by_cases q : 0 < left ∧ lwB (S.2 140) t n ≠ -1
    · rw [if_pos q]
      obtain ⟨b, hbe⟩ := Int.eq_ofNat_of_zero_le (show 0 ≤ lwB (S.2 140) t n by omega)
      rw [hbe] at hb q ⊢
      rw [Int.toNat_natCast] at hb ⊢
      have hbn : b < n := by omega
      have hbt : t b = false := by
        rcases hb with hb | hb
        · omega
        · exact hb.2.2
      have hv := hs b hbn
      have hcs := cn_set (t := t) n hbn hbt
      have ht' : ∀ k, k < n → (wr S 141 b 1).2 141 k = if (t k || k == b) = true then 1 else 0 := fun k hk => by
        rw [wr_f]
        by_cases e : k = b
        · subst e; simp
        · have : (k == b) = false := by simp; exact e
          rw [if_neg e, ht k hk, this, Bool.or_false]
      obtain ⟨T, t1, t2, t3⟩ := ih (i + 1) (left - min left (S.2 139 b)) (S.2 140 b) (fun k => t k || k == b) (wr S 141 b 1) (by first | decide | omega) (by first | decide | omega) (by rw [wr_c (by decide)]; exact h2) ht' (by first | decide | omega) (by first | decide | omega) (fun k hk => by rw [wr_c (by decide)]; exact hs k hk)
      rw [wr_c (show (139 : Nat) ≠ 141 by decide), wr_c (show (140 : Nat) ≠ 141 by decide)] at t1
      refine ⟨T, ?_, t2, fun a ha => by rw [t3 a ha, wr_c ha]⟩
      have hq : (0 : Int) ≤ (b : Int) ∧ (b : Int) < 12 := by omega
      have hlow := m_low (L := L) (xs := xs) (d := d) (S := wr S 141 b 1) (t := fun k => t k || k == b) hn (by rw [wr_c (by decide)]; exact h2) ht'
      rw [wr_c (show (140 : Nat) ≠ 141 by decide)] at hlow
      rw [tks_cons, hiR_cons, List.length_cons, q_293_51, if_pos q.1, if_neg (by first | decide | omega), if_pos hq, Int.toNat_natCast]
      have fin : ∀ v : Int, v = min left (S.2 139 b) → LQ (WK L xs) (ev (WK L xs) (d + 1)) 293 84 [some (vr 72), some (vi p), some (vi one), none, some (vi (i : Int)), none, some (vi (b : Int)), none] [vi v, vi left] S = LQ (WK L xs) (ev (WK L xs) (d + 1)) 293 115 [some (vr 72), some (vi p), some (vi one), some (vi (left - (min left (S.2 139 b) + tks (tk (S.2 139) (S.2 140) n m (left - min left (S.2 139 b)) (fun k => t k || k == b))))), some (vi ((i + ((tk (S.2 139) (S.2 140) n m (left - min left (S.2 139 b)) (fun k => t k || k == b)).length + 1) : Nat) : Int)), some (vi (hiR (S.2 140) (tk (S.2 139) (S.2 140) n m (left - min left (S.2 139 b)) (fun k => t k || k == b)) (S.2 140 b))), none, none] [] T := by
        intro v hv2
        rw [q_293_84, if_pos hq, if_pos hq, Int.toNat_natCast, hlow, bR, w32e (by first | decide | omega) (by first | decide | omega), w32e (by first | decide | omega) (by first | decide | omega), hv2, show (i : Int) + 1 = ((i + 1 : Nat) : Int) by omega, t1, Int.sub_sub, show i + 1 + (tk (S.2 139) (S.2 140) n m (left - min left (S.2 139 b)) (fun k => t k || k == b)).length = i + ((tk (S.2 139) (S.2 140) n m (left - min left (S.2 139 b)) (fun k => t k || k == b)).length + 1) by omega]
      by_cases h3 : S.2 139 b < left
      · rw [if_pos h3, if_pos hq]
        exact fin _ (by first | decide | omega)
      · rw [if_neg h3]
        exact fin _ (by first | decide | omega)
    · rw [if_neg q]
      refine ⟨S, ?_, rfl, fun _ _ => rfl⟩
      rw [q_293_51, tks_nil, Int.sub_zero, hiR_nil]
      by_cases q2 : 0 < left
      · rw [if_pos q2, if_pos (by first | decide | omega)]
        rfl
      · rw [if_neg q2]
        rfl
theorem m_tk3 {n N : Nat} (hn : n ≤ 12) {one high : Int} : ∀ (m i sz : Nat) (left : Int) (t : Nat → Bool) (S : AH), i + (tk (S.2 139) (S.2 140) n m left t).length = N → S.2 72 92 = n → S.2 72 93 = sz → sz + (tk (S.2 139) (S.2 140) n m left t).length ≤ 30 → N ≤ 12 → (∀ b, b < n → S.2 141 b = if t b then 1 else 0) → 0 ≤ left → left ≤ 1000000000 → (∀ b, b < n → 1 ≤ S.2 139 b ∧ S.2 139 b ≤ 1000000000) → w64 (S.2 72 3) = S.2 72 3 →
    ∃ T, LQ (WK L xs) (ev (WK L xs) (d + 1)) 293 189 [some (vr 72), none, some (vi one), some (vi left), some (vi (N : Int)), some (vi high), none, some (vi (i : Int))] [] S = some ((N : Int), T) ∧ T.1 = S.1 ∧ (∀ a, a ≠ 72 → ¬ (141 ≤ a ∧ a ≤ 145) → T.2 a = S.2 a) ∧ (∀ k, k ≠ 3 → k ≠ 92 → k ≠ 93 → T.2 72 k = S.2 72 k) ∧ T.2 72 92 = 0 ∧ T.2 72 93 = ((sz + (tk (S.2 139) (S.2 140) n m left t).length : Nat) : Int) ∧ T.2 72 3 = w64 (S.2 72 3 + tks (tk (S.2 139) (S.2 140) n m left t)) ∧ (∀ a j, 142 ≤ a → a ≤ 145 → j < sz → T.2 a j = S.2 a j) ∧ ∀ (j : Nat) (q : Nat × Int), (tk (S.2 139) (S.2 140) n m left t)[j]? = some q → T.2 142 (sz + j) = q.2 ∧ T.2 143 (sz + j) = (if one = 0 then S.2 140 q.1 else high) ∧ T.2 144 (sz + j) = S.2 72 2 ∧ T.2 145 (sz + j) = -1 := by
  have stop : ∀ (i sz : Nat) (left : Int) (S : AH), i = N → S.2 72 93 = sz → w64 (S.2 72 3) = S.2 72 3 → ∃ T, LQ (WK L xs) (ev (WK L xs) (d + 1)) 293 189 [some (vr 72), none, some (vi one), some (vi left), some (vi (N : Int)), some (vi high), none, some (vi (i : Int))] [] S = some ((N : Int), T) ∧ T.1 = S.1 ∧ (∀ a, a ≠ 72 → ¬ (141 ≤ a ∧ a ≤ 145) → T.2 a = S.2 a) ∧ (∀ k, k ≠ 3 → k ≠ 92 → k ≠ 93 → T.2 72 k = S.2 72 k) ∧ T.2 72 92 = 0 ∧ T.2 72 93 = ((sz + 0 : Nat) : Int) ∧ T.2 72 3 = w64 (S.2 72 3 + 0) ∧ (∀ a j, 142 ≤ a → a ≤ 145 → j < sz → T.2 a j = S.2 a j) := by
    intro i sz left S hi h3 hw
    refine ⟨wr S 72 92 0, ?_, rfl, fun a q1 q2 => wr_c q1, fun k q1 q2 q3 => by rw [wr_f, if_neg q2], by rw [wr_f, if_pos rfl], by rw [wr_f, if_neg (by decide), h3]; rfl, by rw [wr_f, if_neg (by decide), Int.add_zero, hw], fun a j q1 q2 q3 => by rw [wr_c (by first | decide | omega)]⟩
    rw [q_293_189, if_neg (by first | decide | omega)]
  intro m
  induction m with
  | zero =>
    intro i sz left t S hi h2 h3 hz hN ht hl1 hl2 hs hw
    obtain ⟨T, t1, t2, t3, t4, t5, t6, t7, t8⟩ := stop i sz left S hi h3 hw
    exact ⟨T, t1, t2, t3, t4, t5, t6, t7, t8, fun j q hq => by cases hq⟩
  | succ m ih =>
    intro i sz left t S hi h2 h3 hz hN ht hl1 hl2 hs hw
    have hb := lwB_bd (r := S.2 140) (t := t) (n := n)
    simp only [tk] at hi hz ⊢
    by_cases q : 0 < left ∧ lwB (S.2 140) t n ≠ -1
    · rw [if_pos q] at hi hz ⊢
      obtain ⟨b, hbe⟩ := Int.eq_ofNat_of_zero_le (show 0 ≤ lwB (S.2 140) t n by omega)
      have hlow := m_low (L := L) (xs := xs) (d := d) (S := S) (t := t) hn h2 ht
      rw [hbe] at hb q hlow hi hz ⊢
      rw [Int.toNat_natCast] at hb hi hz ⊢
      rw [List.length_cons] at hi hz ⊢
      have hbn : b < n := by omega
      have hv := hs b hbn
      generalize hR : (if one = 0 then S.2 140 b else high) = rt
      generalize hM : min left (S.2 139 b) = mn at hi hz ⊢
      generalize hS2 : wr (wr (wr (wr (wr (wr (wr S 141 b 1) 142 sz mn) 143 sz rt) 144 sz (S.2 72 2)) 145 sz (-1)) 72 3 (w64 (S.2 72 3 + mn))) 72 93 ((sz + 1 : Nat) : Int) = S2
      have f1 : ∀ a, a ≠ 72 → ¬ (141 ≤ a ∧ a ≤ 145) → S2.2 a = S.2 a := fun a q1 q2 => by rw [← hS2, wr_c q1, wr_c q1, wr_c (by first | decide | omega), wr_c (by first | decide | omega), wr_c (by first | decide | omega), wr_c (by first | decide | omega), wr_c (by first | decide | omega)]
      have f2 : ∀ k, k ≠ 3 → k ≠ 93 → S2.2 72 k = S.2 72 k := fun k q1 q2 => by rw [← hS2, wr_f, if_neg q2, wr_f, if_neg q1, wr_c (by decide), wr_c (by decide), wr_c (by decide), wr_c (by decide), wr_c (by decide)]
      have f3 : S2.2 72 3 = w64 (S.2 72 3 + mn) := by rw [← hS2, wr_f, if_neg (by decide), wr_f, if_pos rfl]
      have f4 : S2.2 72 93 = ((sz + 1 : Nat) : Int) := by rw [← hS2, wr_f, if_pos rfl]
      have f5 : ∀ k, k < n → S2.2 141 k = if (t k || k == b) = true then 1 else 0 := fun k hk => by
        rw [← hS2, wr_c (by decide), wr_c (by decide), wr_c (by decide), wr_c (by decide), wr_c (by decide), wr_c (by decide), wr_f]
        by_cases e : k = b
        · subst e; simp
        · have : (k == b) = false := by simp; exact e
          rw [if_neg e, ht k hk, this, Bool.or_false]
      have f6 : S2.2 142 sz = mn ∧ S2.2 143 sz = rt ∧ S2.2 144 sz = S.2 72 2 ∧ S2.2 145 sz = -1 := by
        rw [← hS2]
        simp [wr_2]
      have f7 : ∀ a j, 142 ≤ a → a ≤ 145 → j < sz → S2.2 a j = S.2 a j := fun a j q1 q2 q3 => by
        rw [← hS2]
        simp only [wr_2]
        rw [if_neg (by first | decide | omega), if_neg (by first | decide | omega), if_neg (by first | decide | omega), if_neg (by first | decide | omega), if_neg (by first | decide | omega), if_neg (by first | decide | omega), if_neg (by first | decide | omega)]
      have g1 := f1 139 (by decide) (by decide)
      have g2 := f1 140 (by decide) (by decide)
      obtain ⟨T, t1, t2, t3, t4, t5, t6, t7, t8, t9⟩ := ih (i + 1) (sz + 1) (left - mn) (fun k => t k || k == b) S2 (by rw [g1, g2]; omega) (by rw [f2 92 (by decide) (by decide)]; exact h2) f4 (by rw [g1, g2]; omega) hN f5 (by first | decide | omega) (by first | decide | omega) (fun k hk => by rw [g1]; exact hs k hk) (by rw [f3, w64_i])
      rw [g1, g2] at t6 t7 t9
      refine ⟨T, ?_, by rw [t2, ← hS2]; rfl, fun a q1 q2 => by rw [t3 a q1 q2, f1 a q1 q2], fun k q1 q2 q3 => by rw [t4 k q1 q2 q3, f2 k q1 q3], t5, by rw [t6]; omega, ?_, fun a j q1 q2 q3 => by rw [t8 a j q1 q2 (by first | decide | omega), f7 a j q1 q2 q3], fun j x hx => ?_⟩
      · have hq : (0 : Int) ≤ (b : Int) ∧ (b : Int) < 12 := by omega
        have hz3 : (0 : Int) ≤ (sz : Int) ∧ (sz : Int) < 30 := by omega
        have fin : ∀ (v rr : Int), v = mn → rr = rt → LQ (WK L xs) (ev (WK L xs) (d + 1)) 293 265 [some (vr 72), none, some (vi one), some (vi left), some (vi (N : Int)), some (vi high), none, some (vi (i : Int))] [vi rr, vi (sz : Int), vr 143] (wr (wr S 141 b 1) 142 sz v) = some ((N : Int), T) := by
          intro v rr hv1 hv2
          subst hv1
          subst hv2
          rw [q_293_265]
          simp only [wr_f, wr_c (show (72 : Nat) ≠ 141 by decide), wr_c (show (72 : Nat) ≠ 142 by decide), h3, Int.toNat_natCast, if_pos trivial]
          rw [if_pos hz3, if_pos hz3, if_pos hz3, if_pos hz3, if_pos hz3, w32e (by first | decide | omega) (by first | decide | omega), w32e (by first | decide | omega) (by first | decide | omega), w32e (by first | decide | omega) (by first | decide | omega), show (i : Int) + 1 = ((i + 1 : Nat) : Int) by omega, show (sz : Int) + 1 = ((sz + 1 : Nat) : Int) by omega]
          rw [← t1, ← hS2]
        rw [q_293_189, if_pos (by first | decide | omega), hlow, bR, if_pos hq, if_pos hq, h3, Int.toNat_natCast, Int.toNat_natCast]
        by_cases c1 : S.2 139 b < left
        · rw [if_pos c1, if_pos hq, if_pos hz3]
          by_cases c2 : one = 0
          · rw [if_pos c2] at hR
            rw [if_pos c2, if_pos hq]
            exact fin _ _ (by first | decide | omega) hR
          · rw [if_neg c2] at hR
            rw [if_neg c2]
            exact fin _ _ (by first | decide | omega) hR
        · rw [if_neg c1, if_pos hz3]
          by_cases c2 : one = 0
          · rw [if_pos c2] at hR
            rw [if_pos c2, if_pos hq]
            exact fin _ _ (by first | decide | omega) hR
          · rw [if_neg c2] at hR
            rw [if_neg c2]
            exact fin _ _ (by first | decide | omega) hR
      · rw [t7, f3, w64_al, tks_cons, Int.add_assoc]
      · cases j with
        | zero =>
          have hx2 : ((b, mn) : Nat × Int) = x := by
            rw [List.getElem?_cons_zero] at hx
            exact Option.some.inj hx
          rw [← hx2, Nat.add_zero, t8 142 sz (by decide) (by decide) (by first | decide | omega), t8 143 sz (by decide) (by decide) (by first | decide | omega), t8 144 sz (by decide) (by decide) (by first | decide | omega), t8 145 sz (by decide) (by decide) (by first | decide | omega), hR]
          exact f6
        | succ j =>
          rw [List.getElem?_cons_succ] at hx
          have := t9 j x hx
          rw [show sz + 1 + j = sz + (j + 1) by omega, f2 2 (by decide) (by decide)] at this
          exact this
    · rw [if_neg q] at hi hz ⊢
      obtain ⟨T, t1, t2, t3, t4, t5, t6, t7, t8⟩ := stop i sz left S hi h3 hw
      exact ⟨T, t1, t2, t3, t4, t5, t6, t7, t8, fun j q hq => by cases hq⟩
end
end
section
-- 65.otender
/-! tender: the call -/
section
variable {L : Nat} {xs : Nat → Int} {d : Nat} {S T U : AH}
/-- what a tender takes -/
noncomputable def tkS (h : Nat → Nat → Int) (p : Int) : List (Nat × Int) := tk (h 139) (h 140) (h 72 92).toNat (h 72 92).toNat p (fun _ => false)
theorem tkS_fr {h h' : Nat → Nat → Int} (e1 : h' 139 = h 139) (e2 : h' 140 = h 140) (e3 : h' 72 92 = h 72 92) (p : Int) : tkS h' p = tkS h p := by
  unfold tkS
  rw [e1, e2, e3]
theorem GN.tk (gn : GN S.2) {p : Int} (hp : 1 ≤ p ∧ p ≤ 1000000000) : (tkS S.2 p).length ≤ 12 ∧ (0 ≤ tks (tkS S.2 p) ∧ tks (tkS S.2 p) ≤ p) ∧ ∀ q ∈ tkS S.2 p, q.1 < (S.2 72 92).toNat ∧ 1 ≤ q.2 ∧ q.2 ≤ 1000000000 := by
  obtain ⟨⟨b1, b2⟩, b3, b4, -⟩ := gn
  have hs : ∀ b, b < (S.2 72 92).toNat → 1 ≤ S.2 139 b := fun b hb => (b4 b (by first | decide | omega)).2.2.1.1
  refine ⟨Nat.le_trans (tk_len _ _ _) (by first | decide | omega), tks_bd hs _ _ _ (by first | decide | omega), fun q hq => ?_⟩
  obtain ⟨z1, z2, z3⟩ := tk_mem hs _ _ _ q hq
  exact ⟨z1, z2, Int.le_trans z3 (b4 q.1 (by first | decide | omega)).2.2.1.2⟩
theorem x_take (gn : GN S.2) {p : Int} (hp : 1 ≤ p ∧ p ≤ 1000000000) : ∃ T, ev (WK L xs) (d + 2) 111 [vr 63, vi p] S = some (tks (tkS S.2 p), T) ∧ T.1 = S.1 ∧ (∀ a, a ≠ 63 → a ≠ 66 → a ≠ 67 → T.2 a = S.2 a) ∧ (∀ k, k ≠ 5 → T.2 63 k = S.2 63 k) ∧ T.2 63 5 = ((tkS S.2 p).length : Int) ∧ ∀ (j : Nat) (q : Nat × Int), (tkS S.2 p)[j]? = some q → T.2 66 j = q.1 ∧ T.2 67 j = q.2 := by
  obtain ⟨-, hb, -⟩ := gn.tk hp
  obtain ⟨⟨b1, b2⟩, b3, b4, -⟩ := gn
  obtain ⟨T, t1, t2, t3, t4, t5, -, t7⟩ := x_takeL (L := L) (xs := xs) (d := d) (n := (S.2 72 92).toNat) (by first | decide | omega) (p := p) (S.2 72 92).toNat 0 p 0 (fun _ => false) (wr S 63 5 0) (by first | decide | omega) (by rw [wr_f, if_pos rfl]; rfl) (by rw [wr_f, if_neg (by decide), b3]; omega) (by decide) (fun b _ => Nat.zero_testBit b) (by first | decide | omega) (by first | decide | omega) (fun b hb => by rw [wr_c (by decide), (b4 b (by first | decide | omega)).1]; exact (b4 b (by first | decide | omega)).2.2.1)
  have e : tk ((wr S 63 5 0).2 64) ((wr S 63 5 0).2 65) (S.2 72 92).toNat (S.2 72 92).toNat p (fun _ => false) = tkS S.2 p := by
    rw [wr_c (by decide), wr_c (by decide)]
    exact tk_cong (fun k hk => (b4 k (by first | decide | omega)).1) (fun k hk => (b4 k (by first | decide | omega)).2.1) _ _ _
  rw [e] at t1 t5 t7
  simp only [Nat.zero_add] at t5 t7
  refine ⟨T, ?_, t2, fun a q1 q2 q3 => by rw [t3 a q1 q2 q3, wr_c q1], fun k hk => by rw [t4 k hk, wr_f, if_neg hk], t5, t7⟩
  rw [q_111]
  refine t1.trans ?_
  rw [w64e (by first | decide | omega) (by first | decide | omega)]
  congr 2
  omega
theorem oweS_fr {h h' : Nat → Nat → Int} (e1 : h' 142 = h 142) (e2 : h' 145 = h 145) (e3 : h' 72 93 = h 72 93) : oweS h' = oweS h := by
  have : owd h' = owd h := by
    funext i
    unfold owd
    rw [e1, e2]
  unfold oweS
  rw [this, e3]
theorem m_owed2 (l1 : 0 ≤ S.2 72 93) (l2 : S.2 72 93 ≤ 30) : ev (WK L xs) (d + 1) 295 [vr 72] S = some (oweS S.2, S) := by
  have key : ∀ (m i : Nat), i + m = (S.2 72 93).toNat → LQ (WK L xs) (ev (WK L xs) d) 295 4 [some (vr 72), some (vl (w64 (sm (owd S.2) i))), none, some (vi (i : Int))] [] S = some (oweS S.2, S) := by
    intro m
    induction m with
    | zero =>
      intro i hi
      rw [q_295_4, if_neg (by first | decide | omega), show i = (S.2 72 93).toNat by omega]
      rfl
    | succ m ih =>
      intro i hi
      have e1 : (i : Int) + 1 = ((i + 1 : Nat) : Int) := by omega
      have hi2 := ih (i + 1) (by first | decide | omega)
      rw [sm_su (owd S.2) i] at hi2
      rw [q_295_4, if_pos (by first | decide | omega), if_pos (by first | decide | omega), if_pos (show (0 : Int) ≤ (i : Int) ∧ (i : Int) < 30 by omega), Int.toNat_natCast, w32e (by first | decide | omega) (by first | decide | omega), e1, w64_al, w64_al]
      by_cases h : S.2 145 i = -1
      · have : owd S.2 i = S.2 142 i := by unfold owd; rw [if_pos h]
        rw [if_pos h, ← this]
        exact hi2
      · have : owd S.2 i = 0 := by unfold owd; rw [if_neg h]
        rw [if_neg h]
        rw [this] at hi2
        exact hi2
  rw [q_295]
  exact key (S.2 72 93).toNat 0 (by first | decide | omega)
theorem o_tender (H : Inv S) (p q : Int) : Ok L xs 48 293 [vi p, vi q] S := by
  have gn := H.gn
  have ht := H.gt.1
  by_cases hp : 1 ≤ p ∧ p ≤ 1000000000
  · obtain ⟨k1, k2, k3⟩ := gn.tk hp
    generalize hl : tkS S.2 p = l at k1 k2 k3
    obtain ⟨⟨b1, b2⟩, b3, b4, ⟨l1, l2⟩, l3, l4, l5⟩ := gn
    obtain ⟨n, hnn⟩ := Int.eq_ofNat_of_zero_le b1
    obtain ⟨sz, hsz⟩ := Int.eq_ofNat_of_zero_le l1
    have hn12 : n ≤ 12 := by omega
    have hen : (S.2 72 92).toNat = n := by omega
    rw [hen] at k3
    -- the class
    obtain ⟨T, t1, t2, t3, t4, t5, t6⟩ := x_take (L := L) (xs := xs) (d := 197) H.gn hp
    rw [hl] at t1 t5 t6
    have glT : GL T := H.gl.fr (Fr.eq t2 (fun a ha => t3 a (by first | decide | omega) (by first | decide | omega) (by first | decide | omega))) (fun a ha => t3 a (by unfold lvk at ha; omega) (by unfold lvk at ha; omega) (by unfold lvk at ha; omega)) (fun k _ => by rw [t3 72 (by decide) (by decide) (by decide)])
    obtain ⟨V, v1, v2, v3⟩ := x_nmb (L := L) (xs := xs) (d := 194) glT (k := 2) (by decide) (S.2 72 2)
    have cT : ∀ a, a ≠ 35 → a ≠ 63 → a ≠ 66 → a ≠ 67 → V.2 a = S.2 a := fun a q0 q1 q2 q3 => by rw [v3 a q0, t3 a q1 q2 q3]
    have c63 : ∀ k, k ≠ 5 → V.2 63 k = S.2 63 k := fun k hk => by rw [v3 63 (by decide), t4 k hk]
    have eN : nmb T.2 2 (S.2 72 2) = nmb S.2 2 (S.2 72 2) := nmb_fr 2 _ (t3 78 (by decide) (by decide) (by decide)) (t3 79 (by decide) (by decide) (by decide)) (t3 80 (by decide) (by decide) (by decide)) (t3 81 (by decide) (by decide) (by decide)) (t3 94 (by decide) (by decide) (by decide)) (t3 95 (by decide) (by decide) (by decide)) (by rw [t3 72 (by decide) (by decide) (by decide)])
    rw [eN] at v1
    generalize hNm : nmb S.2 2 (S.2 72 2) = nm at v1
    have HV : Inv V := H.scr (Fr.eq (v2.trans t2) (fun a ha => cT a (by first | decide | omega) (by first | decide | omega) (by first | decide | omega) (by first | decide | omega))) (fun a k _ q2 => by
      by_cases e : a = 63
      · subst e
        exact c63 k (fun z => q2 (by unfold scr; omega))
      · rw [cT a (fun z => q2 (by unfold scr; omega)) e (fun z => q2 (by unfold scr; omega)) (fun z => q2 (by unfold scr; omega))])
    have eO : oweS V.2 = oweS S.2 := oweS_fr (cT 142 (by decide) (by decide) (by decide) (by decide)) (cT 145 (by decide) (by decide) (by decide) (by decide)) (by rw [cT 72 (by decide) (by decide) (by decide) (by decide)])
    have vO := x_owed (L := L) (xs := xs) (d := 198) HV.gn
    rw [eO] at vO
    generalize hO : oweS S.2 = ow at vO eO
    have v72 : V.2 72 = S.2 72 := cT 72 (by decide) (by decide) (by decide) (by decide)
    have x48 : ev (WK L xs) 200 48 [vr 15, vi p, vi q] S = if w64 (nm * 1000) < w64 (ow + tks l) then some (-1, V) else if 30 < (sz : Int) + l.length then some (-1, V) else bindR (ev (WK L xs) 199 115 [vr 63, vi (S.2 72 2), vi q] (wr V 15 1 (w64 (S.2 72 3 + tks l)))) (fun r S2 => some (r, S2)) := by
      rw [q_48, x_isSum, bR]
      simp only [bi_0]
      rw [if_neg (by first | decide | omega), if_neg (by first | decide | omega), t1, bR, t3 15 (by decide) (by decide) (by decide), ht]
      rw [show ev (WK L xs) 199 108 [vr 31, vi 2, vi (S.2 72 2)] T = some (nm, V) from v1, bR, vO, bR]
      simp only [lc_gt]
      by_cases c1 : w64 (nm * 1000) < w64 (ow + tks l)
      · rw [if_pos c1, if_pos c1]
      · rw [if_neg c1, if_neg c1, q_114, v3 63 (by decide), t5, t4 10 (by decide), l3, hsz, w32e (by first | decide | omega) (by first | decide | omega)]
        by_cases c2 : 30 < (sz : Int) + l.length
        · rw [if_pos c2, if_pos c2, bR, if_neg (by decide)]
        · rw [if_neg c2, if_neg c2, bR, if_pos rfl, cT 15 (by decide) (by decide) (by decide) (by decide), ht, H.gc.1]
    -- the reference up to the refusals, at any state that keeps what it reads
    have m293 : ∀ W : AH, W.1 = S.1 → GL W → (∀ a, a = 72 ∨ a = 139 ∨ a = 140 ∨ a = 142 ∨ a = 145 ∨ (78 ≤ a ∧ a ≤ 81) ∨ a = 94 ∨ a = 95 → W.2 a = S.2 a) → ∃ Z, Z.1 = S.1 ∧ (∀ a, a ≠ 96 → a ≠ 141 → Z.2 a = W.2 a) ∧ ev (WK L xs) 200 293 [vr 72, vi p, vi q] W = if w64 (nm * 1000) < w64 (ow + tks l) then some (-1, Z) else if 30 < (sz : Int) + l.length then some (-1, Z) else LQ (WK L xs) (ev (WK L xs) 199) 293 163 [some (vr 72), none, some (vi q), some (vi p), some (vi ((l.length : Nat) : Int)), some (vi (hiR (S.2 140) l 0)), none, some (vi 0)] [] Z := by
      intro W w1 glW wc
      have w72 := wc 72 (by first | decide | omega)
      have w139 := wc 139 (by first | decide | omega)
      have w140 := wc 140 (by first | decide | omega)
      obtain ⟨A, a1, a2, a3, a4⟩ := m_clr1 (L := L) (xs := xs) (d := 198) (n := n) hn12 (p := p) (one := q) n 0 W (by first | decide | omega) (by rw [w72]; exact hnn) (fun b hb => by omega)
      obtain ⟨B, g1, g2, g3⟩ := m_tk1 (L := L) (xs := xs) (d := 198) (n := n) hn12 (p := p) (one := q) n 0 p 0 (fun _ => false) A (by first | decide | omega) (by rw [cn_none]; omega) (by rw [a3 72 (by decide), w72]; exact hnn) (fun b hb => by rw [a4 b hb]; rfl) (by first | decide | omega) (by first | decide | omega) (fun b hb => by rw [a3 139 (by decide), w139]; exact (b4 b (by first | decide | omega)).2.2.1)
      rw [a3 139 (by decide), a3 140 (by decide), w139, w140] at g1
      rw [w140] at a1
      have el : tk (S.2 139) (S.2 140) n n p (fun _ => false) = l := by
        rw [← hl]
        unfold tkS
        rw [hen]
      rw [el, Nat.zero_add] at g1
      have cB : ∀ a, a ≠ 141 → B.2 a = W.2 a := fun a ha => by rw [g3 a ha, a3 a ha]
      have glB : GL B := glW.fr (Fr.eq (g2.trans a2) (fun a ha => cB a (by first | decide | omega))) (fun a ha => cB a (by unfold lvk at ha; omega)) (fun k _ => by rw [cB 72 (by decide)])
      obtain ⟨Z, z1, z2, z3⟩ := m_nmb (L := L) (xs := xs) (d := 195) glB (k := 2) (by decide) (S.2 72 2)
      have eB : nmb B.2 2 (S.2 72 2) = nm := by
        rw [← hNm]
        exact nmb_fr 2 _ (by rw [cB 78 (by decide), wc 78 (by first | decide | omega)]) (by rw [cB 79 (by decide), wc 79 (by first | decide | omega)]) (by rw [cB 80 (by decide), wc 80 (by first | decide | omega)]) (by rw [cB 81 (by decide), wc 81 (by first | decide | omega)]) (by rw [cB 94 (by decide), wc 94 (by first | decide | omega)]) (by rw [cB 95 (by decide), wc 95 (by first | decide | omega)]) (by rw [cB 72 (by decide), w72])
      have eOB : oweS B.2 = ow := by
        rw [← hO]
        exact oweS_fr (by rw [cB 142 (by decide), wc 142 (by first | decide | omega)]) (by rw [cB 145 (by decide), wc 145 (by first | decide | omega)]) (by rw [cB 72 (by decide), w72])
      rw [eB] at z1
      refine ⟨Z, by rw [z2, g2, a2, w1], fun a q1 q2 => by rw [z3 a q1, cB a q2], ?_⟩
      have mO := m_owed2 (L := L) (xs := xs) (d := 198) (S := B) (by rw [cB 72 (by decide), w72]; exact l1) (by rw [cB 72 (by decide), w72]; exact l2)
      rw [eOB] at mO
      rw [q_293, m_lies, bR]
      simp only [bi_0]
      rw [if_neg (by first | decide | omega)]
      refine a1.trans (g1.trans ?_)
      rw [q_293_115, mO, bR, cB 72 (by decide), w72]
      rw [show ev (WK L xs) 199 236 [vr 72, vi 98, vi (S.2 72 2)] B = some (nm, Z) from z1, bR, z3 72 (by decide), cB 72 (by decide), w72]
      simp only [lc_gt]
      rw [w64_sl, show ow + p - (p - tks l) = ow + tks l by omega, Int.mul_comm 1000 nm, show S.2 72 93 = (sz : Int) from hsz, w32e (by first | decide | omega) (by first | decide | omega)]
    by_cases c1 : w64 (nm * 1000) < w64 (ow + tks l)
    · rw [if_pos c1] at x48
      obtain ⟨Z, z1, z2, z3⟩ := m293 V (v2.trans t2) HV.gl (fun a ha => cT a (by first | decide | omega) (by first | decide | omega) (by first | decide | omega) (by first | decide | omega))
      rw [if_pos c1] at z3
      exact ⟨-1, V, Z, x48, z3, HV.scr (Fr.eq (z1.trans (v2.trans t2).symm) (fun a ha => z2 a (by first | decide | omega) (by first | decide | omega))) (fun a k _ q2 => by rw [z2 a (fun z => q2 (by unfold scr; omega)) (fun z => q2 (by unfold scr; omega))]), Gw.of z1⟩
    rw [if_neg c1] at x48
    by_cases c2 : 30 < (sz : Int) + l.length
    · rw [if_pos c2] at x48
      obtain ⟨Z, z1, z2, z3⟩ := m293 V (v2.trans t2) HV.gl (fun a ha => cT a (by first | decide | omega) (by first | decide | omega) (by first | decide | omega) (by first | decide | omega))
      rw [if_neg c1, if_pos c2] at z3
      exact ⟨-1, V, Z, x48, z3, HV.scr (Fr.eq (z1.trans (v2.trans t2).symm) (fun a ha => z2 a (by first | decide | omega) (by first | decide | omega))) (fun a k _ q2 => by rw [z2 a (fun z => q2 (by unfold scr; omega)) (fun z => q2 (by unfold scr; omega))]), Gw.of z1⟩
    rw [if_neg c2] at x48
    -- the class lends
    generalize hC : w64 (S.2 72 3 + tks l) = ch at x48
    obtain ⟨X, x1, x2, x3, x4, x5, x6, x7, x8⟩ := x_lendL (L := L) (xs := xs) (d := 198) (T := wr V 15 1 ch) (n := n) (sz := sz) (l := l) (day := S.2 72 2) (one := q) hn12 (by rw [wr_c (by decide), c63 2 (by decide), b3, hnn]) (by rw [wr_c (by decide), v3 63 (by decide), t5]) k1 (by first | decide | omega) (fun q hq => (k3 q hq).1) (fun j q hq => by rw [wr_c (by decide), wr_c (by decide), v3 66 (by decide), v3 67 (by decide)]; exact t6 j q hq) l.length 0 (wr V 15 1 ch) (by first | decide | omega) rfl (fun _ _ _ => rfl) (fun _ _ => rfl) (by rw [wr_c (by decide), c63 10 (by decide), l3, hsz]; rfl) (fun _ _ _ _ _ => rfl) (fun j _ hj => by omega)
    have x115 : ev (WK L xs) 199 115 [vr 63, vi (S.2 72 2), vi q] (wr V 15 1 ch) = some ((l.length : Int), X) := by
      rw [q_115]
      exact x1
    rw [x115, bR] at x48
    have cX : ∀ a, a ≠ 15 → a ≠ 35 → a ≠ 63 → ¬ (66 ≤ a ∧ a ≤ 71) → X.2 a = S.2 a := fun a q0 q1 q2 q3 => by rw [x3 a q2 (by first | decide | omega), wr_c q0, cT a q1 q2 (by first | decide | omega) (by first | decide | omega)]
    have X15 : ∀ k, X.2 15 k = if k = 1 then ch else S.2 15 k := fun k => by rw [x3 15 (by decide) (by decide), wr_f, cT 15 (by decide) (by decide) (by decide) (by decide)]
    have X63 : ∀ k, k ≠ 2 → k ≠ 5 → k ≠ 10 → X.2 63 k = S.2 63 k := fun k q1 q2 q3 => by rw [x4 k q3 q1, wr_c (by decide), c63 k q2]
    have hX1 : X.1 = S.1 := x2.trans (v2.trans t2)
    have glX : GL X := H.gl.fr (Fr.eq hX1 (fun a ha => cX a (by first | decide | omega) (by first | decide | omega) (by first | decide | omega) (by first | decide | omega))) (fun a ha => cX a (by unfold lvk at ha; omega) (by unfold lvk at ha; omega) (by unfold lvk at ha; omega) (by unfold lvk at ha; omega)) (fun k _ => by rw [cX 72 (by decide) (by decide) (by decide) (by decide)])
    obtain ⟨Z, z1, z2, z3⟩ := m293 X hX1 glX (fun a ha => cX a (by first | decide | omega) (by first | decide | omega) (by first | decide | omega) (by first | decide | omega))
    rw [if_neg c1, if_neg c2] at z3
    have cZ : ∀ a, a ≠ 15 → a ≠ 35 → a ≠ 63 → ¬ (66 ≤ a ∧ a ≤ 71) → a ≠ 96 → a ≠ 141 → Z.2 a = S.2 a := fun a q0 q1 q2 q3 q4 q5 => by rw [z2 a q4 q5, cX a q0 q1 q2 q3]
    have Z72 : Z.2 72 = S.2 72 := cZ 72 (by decide) (by decide) (by decide) (by decide) (by decide) (by decide)
    have Z139 : Z.2 139 = S.2 139 := cZ 139 (by decide) (by decide) (by decide) (by decide) (by decide) (by decide)
    have Z140 : Z.2 140 = S.2 140 := cZ 140 (by decide) (by decide) (by decide) (by decide) (by decide) (by decide)
    obtain ⟨A, a1, a2, a3, a4⟩ := m_clr2 (L := L) (xs := xs) (d := 199) (n := n) hn12 (one := q) (x3 := p) (x4 := ((l.length : Nat) : Int)) (x5 := hiR (S.2 140) l 0) n 0 Z (by first | decide | omega) (by rw [Z72]; exact hnn) (fun b hb => by omega)
    have el : tk (A.2 139) (A.2 140) n n p (fun _ => false) = l := by
      rw [a3 139 (by decide), a3 140 (by decide), Z139, Z140, ← hl]
      unfold tkS
      rw [hen]
    obtain ⟨F, f1, f2, f3, f4, f5, f6, f7, f8, f9⟩ := m_tk3 (L := L) (xs := xs) (d := 198) (n := n) (N := l.length) hn12 (one := q) (high := hiR (S.2 140) l 0) n 0 sz p (fun _ => false) A (by rw [el]; omega) (by rw [a3 72 (by decide), Z72]; exact hnn) (by rw [a3 72 (by decide), Z72]; exact hsz) (by rw [el]; omega) k1 (fun b hb => by rw [a4 b hb]; rfl) (by first | decide | omega) (by first | decide | omega) (fun b hb => by rw [a3 139 (by decide), Z139]; exact (b4 b (by first | decide | omega)).2.2.1) (by rw [a3 72 (by decide), Z72]; exact H.gc.2)
    rw [el] at f6 f7 f9
    rw [a3 72 (by decide), Z72] at f7 f9
    rw [a3 140 (by decide), Z140] at f9
    have F1 : F.1 = S.1 := by rw [f2, a2, z1]
    have cF : ∀ a, a ≠ 15 → a ≠ 35 → a ≠ 63 → ¬ (66 ≤ a ∧ a ≤ 71) → a ≠ 72 → a ≠ 96 → ¬ (141 ≤ a ∧ a ≤ 145) → F.2 a = S.2 a := fun a q0 q1 q2 q3 q4 q5 q6 => by rw [f3 a q4 q6, a3 a (by first | decide | omega), cZ a q0 q1 q2 q3 q5 (by first | decide | omega)]
    have cG : ∀ a, a = 15 ∨ a = 63 ∨ (66 ≤ a ∧ a ≤ 71) → F.2 a = X.2 a := fun a ha => by rw [f3 a (by first | decide | omega) (by first | decide | omega), a3 a (by first | decide | omega), z2 a (by first | decide | omega) (by first | decide | omega)]
    have F72 : ∀ k, k ≠ 3 → k ≠ 92 → k ≠ 93 → F.2 72 k = S.2 72 k := fun k q1 q2 q3 => by rw [f4 k q1 q2 q3, a3 72 (by decide), Z72]
    have F15 : ∀ k, F.2 15 k = if k = 1 then ch else S.2 15 k := fun k => by rw [cG 15 (by first | decide | omega), X15 k]
    refine ⟨(l.length : Int), X, F, x48, z3.trans (a1.trans f1), ?_, Gw.of F1⟩
    refine Inv.upd H (Fr.eq F1 (fun a ha => cF a (by first | decide | omega) (by first | decide | omega) (by first | decide | omega) (by first | decide | omega) (by first | decide | omega) (by first | decide | omega) (by first | decide | omega))) (fun a ha => ?_) (fun k hk => F72 k (by unfold lvf at hk; omega) (by unfold lvf at hk; omega) (by unfold lvf at hk; omega)) ?_ ?_ ?_ ?_ ?_ ?_ ?_ ?_ ?_
    · unfold lvk at ha
      exact cF a (by first | decide | omega) (by first | decide | omega) (by first | decide | omega) (by first | decide | omega) (by first | decide | omega) (by first | decide | omega) (by first | decide | omega)
    · unfold HM
      rw [F72 4 (by decide) (by decide) (by decide), F72 5 (by decide) (by decide) (by decide)]
      exact ⟨Int.le_refl _, Int.le_refl _⟩
    · exact H.gt.fr (by rw [F15 0, if_neg (by decide)]) (F72 2 (by decide) (by decide) (by decide))
    · unfold GC
      rw [F15 1, if_pos rfl, f7, ← hC, w64_i]
      exact ⟨rfl, rfl⟩
    · exact H.gx.fr (by rw [F15 2, if_neg (by decide)]) (F72 106 (by decide) (by decide) (by decide))
    · exact H.gb.fr (by rw [F15 _, if_neg (by decide)]) (F72 1 (by decide) (by decide) (by decide)) (cF 16 (by decide) (by decide) (by decide) (by decide) (by decide) (by decide) (by decide)) (cF 73 (by decide) (by decide) (by decide) (by decide) (by decide) (by decide) (by decide))
    · exact H.gp.fr (F72 4 (by decide) (by decide) (by decide)) (F72 5 (by decide) (by decide) (by decide)) (fun a ha => cF a (by first | decide | omega) (by first | decide | omega) (by first | decide | omega) (by first | decide | omega) (by first | decide | omega) (by first | decide | omega) (by first | decide | omega))
    · exact H.gu.fr (F72 79 (by decide) (by decide) (by decide)) (by rw [cF 50 (by decide) (by decide) (by decide) (by decide) (by decide) (by decide) (by decide)]) (by rw [cF 50 (by decide) (by decide) (by decide) (by decide) (by decide) (by decide) (by decide)]) (fun a ha => cF a (by first | decide | omega) (by first | decide | omega) (by first | decide | omega) (by first | decide | omega) (by first | decide | omega) (by first | decide | omega) (by first | decide | omega))
    · exact H.gw.fr (F72 85 (by decide) (by decide) (by decide)) (F72 87 (by decide) (by decide) (by decide)) (by rw [cF 54 (by decide) (by decide) (by decide) (by decide) (by decide) (by decide) (by decide)]) (by rw [cF 54 (by decide) (by decide) (by decide) (by decide) (by decide) (by decide) (by decide)]) (fun a ha => cF a (by first | decide | omega) (by first | decide | omega) (by first | decide | omega) (by first | decide | omega) (by first | decide | omega) (by first | decide | omega) (by first | decide | omega))
    · unfold GN
      rw [f5, f6, F72 86 (by decide) (by decide) (by decide), cG 63 (by first | decide | omega), x5, x6, X63 11 (by decide) (by decide) (by decide), cG 68 (by first | decide | omega), cG 69 (by first | decide | omega), cG 70 (by first | decide | omega), cG 71 (by first | decide | omega)]
      refine ⟨by omega, rfl, fun b hb => by omega, by omega, rfl, l4, fun i hi => ?_⟩
      by_cases hi2 : i < sz
      · rw [x7 68 i (by decide) (by decide) hi2, x7 69 i (by decide) (by decide) hi2, x7 70 i (by decide) (by decide) hi2, x7 71 i (by decide) (by decide) hi2, f8 142 i (by decide) (by decide) hi2, f8 143 i (by decide) (by decide) hi2, f8 144 i (by decide) (by decide) hi2, f8 145 i (by decide) (by decide) hi2, wr_c (by decide), wr_c (by decide), wr_c (by decide), wr_c (by decide), cT 68 (by decide) (by decide) (by decide) (by decide), cT 69 (by decide) (by decide) (by decide) (by decide), cT 70 (by decide) (by decide) (by decide) (by decide), cT 71 (by decide) (by decide) (by decide) (by decide), a3 142 (by decide), a3 143 (by decide), a3 144 (by decide), a3 145 (by decide), cZ 142 (by decide) (by decide) (by decide) (by decide) (by decide) (by decide), cZ 143 (by decide) (by decide) (by decide) (by decide) (by decide) (by decide), cZ 144 (by decide) (by decide) (by decide) (by decide) (by decide) (by decide), cZ 145 (by decide) (by decide) (by decide) (by decide) (by decide) (by decide)]
        exact l5 i (by first | decide | omega)
      · obtain ⟨j, hj⟩ := Nat.exists_eq_add_of_le (show sz ≤ i by omega)
        subst hj
        have hjl : j < l.length := by omega
        have hx : l[j]? = some l[j] := List.getElem?_eq_getElem hjl
        obtain ⟨y1, y2, y3, y4⟩ := x8 j _ hx
        obtain ⟨w1, w2, w3, w4⟩ := f9 j _ hx
        obtain ⟨m1, m2, m3⟩ := k3 l[j] (List.getElem_mem hjl)
        have hne : l ≠ [] := fun z => by rw [z] at hjl; exact Nat.not_lt_zero _ hjl
        have hlm : (l.getLast hne).1 < n := (k3 _ (List.getLast_mem hne)).1
        have hrt : rto ((wr V 15 1 ch).2 65) l q l[j] = (if q = 0 then S.2 140 l[j].1 else hiR (S.2 140) l 0) := by
          unfold rto hiR
          rw [wr_c (by decide), cT 65 (by decide) (by decide) (by decide) (by decide), List.getLast?_eq_getLast hne]
          by_cases c3 : q = 0
          · rw [if_pos c3, if_pos c3]
            exact (b4 _ (by first | decide | omega)).2.1
          · rw [if_neg c3, if_neg c3]
            show S.2 65 (l.getLast hne).1 = S.2 140 (l.getLast hne).1
            exact (b4 _ (by first | decide | omega)).2.1
        have hrb : 0 ≤ (if q = 0 then S.2 140 l[j].1 else hiR (S.2 140) l 0) ∧ (if q = 0 then S.2 140 l[j].1 else hiR (S.2 140) l 0) ≤ 9999 := by
          unfold hiR
          rw [List.getLast?_eq_getLast hne]
          by_cases c3 : q = 0
          · rw [if_pos c3]
            exact (b4 _ (by first | decide | omega)).2.2.2
          · rw [if_neg c3]
            exact (b4 _ (by first | decide | omega)).2.2.2
        rw [y1, y2, y3, y4, w1, w2, w3, w4, hrt]
        exact ⟨⟨rfl, rfl, rfl, rfl⟩, ⟨m2, m3⟩, hrb, H.gt.2⟩
  · refine Ok.same (r := -1) H ?_ ?_
    · rw [q_48, x_isSum, bR]
      simp only [bi_0]
      by_cases h1 : 0 ≤ p ∧ p ≤ 1000000000
      · rw [if_neg (fun z => z h1), if_pos (by first | decide | omega)]
      · rw [if_pos h1]
    · rw [q_293, m_lies, bR]
      simp only [bi_0]
      rw [if_pos (by first | decide | omega)]
end
end
section
-- 66.au1
/-! one authority: what may change without its sums -/
section
variable {L : Nat} {xs : Nat → Int} {d : Nat} {S T U S' : AH}
theorem GV.ob (H : GV S) {v : Nat} (hv : (v : Int) < S.2 72 40) : isO S (auA S v) 11 14 := (H.2.2.2.1 v hv).1
theorem auA_inj (H : GV S) {v w : Nat} (hv : (v : Int) < S.2 72 40) (hw : (w : Int) < S.2 72 40) (h : auA S v = auA S w) : v = w := H.2.2.2.2.1 v w hv hw (Or.inl h)
theorem k11w {o k : Nat} (h : isO S o 11 14) (r : Rs) : gd (Nat.beq (shp (WK L xs) S o).1 11 && wok (WK L xs) o k) r = r := by
  rw [shpD h.1, h.2.2, wokD h.1]
  rfl
theorem isO.eq {o t n : Nat} (h : isO S o t n) (hT : T.1 = S.1) : isO T o t n := by
  unfold isO
  rw [hT]
  exact h
theorem au_cl (gv : GV S) (gk : GK S) {v c : Nat} (hv : (v : Int) < S.2 72 40) (hc : (c : Int) < S.2 72 52) : auA S v ≠ clA S c ∧ spA S v ≠ clA S c := by
  have z1 := (gk.ob hc).2.2
  have z2 := (gv.2.2.2.1 v hv).1.2.2
  have z3 := (gv.2.2.2.1 v hv).2.1.2.2
  constructor
  · intro e
    rw [e, z1] at z2
    cases z2
  · intro e
    rw [e, z1] at z3
    cases z3
theorem au_sp (gv : GV S) {v w : Nat} (hv : (v : Int) < S.2 72 40) (hw : (w : Int) < S.2 72 40) : auA S v ≠ spA S w := by
  have z2 := (gv.2.2.2.1 v hv).1.2.2
  have z3 := (gv.2.2.2.1 w hw).2.1.2.2
  intro e
  rw [← e, z2] at z3
  cases z3
theorem Inv.au1 (H : Inv S) {v : Nat} (hv : (v : Int) < S.2 72 40) (hS : S'.1 = S.1) (hF : ∀ a, 151 ≤ a → a ≠ auA S v → S'.2 a = S.2 a) (hc : ∀ a, a < 151 → a ≠ 101 → a ≠ 105 → a ≠ 106 → a ≠ 107 → S'.2 a = S.2 a) (hj : ∀ a j, a < 151 → j ≠ v → S'.2 a j = S.2 a j)
    (hO : ∀ k, k ≠ 7 → ¬ (10 ≤ k ∧ k ≤ 12) → S'.2 (auA S v) k = S.2 (auA S v) k) (h7 : S'.2 (auA S v) 7 = S'.2 101 v) (h10 : S'.2 (auA S v) 10 = S'.2 105 v) (h11 : S'.2 (auA S v) 11 = S'.2 106 v) (h12 : S'.2 (auA S v) 12 = S'.2 107 v) : Inv S' := by
  obtain ⟨i1, gt, gc, gx, gb, gp, gl, gv, gk, gu, gw, gn⟩ := H
  have hov := gv.ob hv
  have hFx : Fx (fun a => a = auA S v) S S' := ⟨by rw [hS]; exact Nat.le_refl _, fun a q1 q2 => ⟨by rw [hS], fun q => hF a q1 q⟩⟩
  have hX : Xt (fun a => a = auA S v) S := by
    rintro a rfl
    rw [hov.2.2]
    omega
  have C : ∀ a, a < 101 ∨ (101 < a ∧ a < 105) ∨ (107 < a ∧ a < 151) → S'.2 a = S.2 a := fun a q => hc a (by first | decide | omega) (by first | decide | omega) (by first | decide | omega) (by first | decide | omega) (by first | decide | omega)
  have c15 := C 15 (by first | decide | omega)
  have c72 := C 72 (by first | decide | omega)
  have hm : HM S.2 S'.2 := by
    unfold HM
    rw [c72]
    omega
  have eau : ∀ w, auA S' w = auA S w := fun w => by unfold auA; rw [C 37 (by first | decide | omega)]
  have esp : ∀ w : Nat, (w : Int) < S.2 72 40 → spA S' w = spA S w := fun w hw => by
    unfold spA
    rw [eau]
    by_cases e : w = v
    · subst e
      rw [hO 13 (by decide) (by decide)]
    · rw [hF _ (gv.ob hw).1 (fun z => e (auA_inj gv hw hv z))]
  have hp : pby S'.2 = pby S.2 := pby_fr (C _ (by first | decide | omega)) (C _ (by first | decide | omega)) (C _ (by first | decide | omega)) (C _ (by first | decide | omega)) (C _ (by first | decide | omega)) (by rw [c72])
  have hq : pct S'.2 = pct S.2 := pct_fr (C _ (by first | decide | omega)) (C _ (by first | decide | omega)) (C _ (by first | decide | omega)) (by rw [c72])
  have hcb : cby S'.2 = cby S.2 := cby_fr (C _ (by first | decide | omega)) (C _ (by first | decide | omega)) (C _ (by first | decide | omega))
  refine ⟨by rw [hS]; exact i1, gt.fr (by rw [c15]) (by rw [c72]), gc.fr (by rw [c15]) (by rw [c72]), gx.fr (by rw [c15]) (by rw [c72]), gb.fr (by rw [c15]) (by rw [c72]) (C _ (by first | decide | omega)) (C _ (by first | decide | omega)), gp.fr (by rw [c72]) (by rw [c72]) (fun a q => C a (by first | decide | omega)), gl.fx hFx hX (fun a q => C a (by first | decide | omega)) (by rw [c72]) (fun t x _ q => q.cells (fun a q1 q2 => C a (by first | decide | omega))), ?_, ?_, gu.fr (by rw [c72]) (by rw [C 50 (by first | decide | omega)]) (by rw [C 50 (by first | decide | omega)]) (fun a q => C a (by first | decide | omega)), gw.fr (by rw [c72]) (by rw [c72]) (by rw [C 54 (by first | decide | omega)]) (by rw [C 54 (by first | decide | omega)]) (fun a q => C a (by first | decide | omega)), gn.fr (by rw [c72]) (by rw [c72]) (by rw [c72]) (by rw [C 63 (by first | decide | omega)]) (by rw [C 63 (by first | decide | omega)]) (by rw [C 63 (by first | decide | omega)]) (fun a q => C a (by first | decide | omega))⟩
  · obtain ⟨h1, h2, h3, h4, h5, h6, h7'⟩ := gv
    have gv0 : GV S := ⟨h1, h2, h3, h4, h5, h6, h7'⟩
    unfold GV
    rw [hq, C 36 (by first | decide | omega), c72, C 38 (by first | decide | omega), C 39 (by first | decide | omega), C 40 (by first | decide | omega), C 41 (by first | decide | omega), C 42 (by first | decide | omega), C 124 (by first | decide | omega), C 125 (by first | decide | omega), C 126 (by first | decide | omega), C 127 (by first | decide | omega)]
    refine ⟨?_, h2, h3, fun w hw => ?_, fun w x hw hx q => ?_, h6, h7'⟩
    · unfold RV at h1 ⊢
      rw [c72, C 97 (by first | decide | omega), C 98 (by first | decide | omega), C 99 (by first | decide | omega), C 100 (by first | decide | omega), C 102 (by first | decide | omega), C 104 (by first | decide | omega), C 124 (by first | decide | omega), C 125 (by first | decide | omega), C 126 (by first | decide | omega), C 127 (by first | decide | omega)]
      refine ⟨h1.1, h1.2.1, fun w hw1 hw2 => ?_, h1.2.2.2⟩
      rw [hj 105 w (by decide) (by first | decide | omega), hj 106 w (by decide) (by first | decide | omega), hj 107 w (by decide) (by first | decide | omega)]
      exact h1.2.2.1 w hw1 hw2
    · by_cases e : w = v
      · subst e
        have A := h4 w hw
        have e4 : S'.2 (spA S w) = S.2 (spA S w) := hF _ A.2.1.1 (au_sp gv0 hw hw).symm
        unfold AV at A ⊢
        rw [eau, esp w hw, e4, hp, h7, h10, h11, h12, hO 0 (by decide) (by decide), hO 1 (by decide) (by decide), hO 2 (by decide) (by decide), hO 3 (by decide) (by decide), hO 4 (by decide) (by decide), hO 5 (by decide) (by decide), hO 6 (by decide) (by decide), hO 8 (by decide) (by decide), hO 9 (by decide) (by decide), C 97 (by first | decide | omega), C 98 (by first | decide | omega), C 99 (by first | decide | omega), C 100 (by first | decide | omega), C 102 (by first | decide | omega), C 103 (by first | decide | omega), C 104 (by first | decide | omega)]
        obtain ⟨a1, a2, a3, a4, a5, a6, a7, a8, a9, a10, a11, a12, a13, a14, a15, a16⟩ := A
        exact ⟨a1.eq hS, a2.eq hS, a3, a4, a5, a6, a7, a8, a9, rfl, a11, rfl, rfl, rfl, a15.fx hFx hX (fun x q => q.cells (fun a q1 q2 => C a (by first | decide | omega))), a16⟩
      · exact ((h4 w hw).fx hFx hX (fun z => e (auA_inj gv0 hw hv z)) (au_sp gv0 hv hw).symm (by rw [C 37 (by first | decide | omega)]) (fun a q1 q2 => hj a w (by first | decide | omega) e) (fun _ y _ => by rw [hp]) (fun x q => q.cells (fun a q1 q2 => C a (by first | decide | omega)))).1
    · rw [eau, eau, esp w hw, esp x hx] at q
      exact h5 w x hw hx q
  · obtain ⟨h1, h2, h3, h4, h5, h6, h7', h8, h9, h10', h11'⟩ := gk
    have gk0 : GK S := ⟨h1, h2, h3, h4, h5, h6, h7', h8, h9, h10', h11'⟩
    have ecl : ∀ c, clA S' c = clA S c := fun c => by unfold clA; rw [C 44 (by first | decide | omega)]
    unfold GK nClaims
    rw [C 43 (by first | decide | omega), c72, C 45 (by first | decide | omega), C 46 (by first | decide | omega), C 47 (by first | decide | omega), C 48 (by first | decide | omega), C 49 (by first | decide | omega), C 111 (by first | decide | omega), C 115 (by first | decide | omega), C 117 (by first | decide | omega), C 146 (by first | decide | omega), C 147 (by first | decide | omega), C 148 (by first | decide | omega), C 149 (by first | decide | omega)]
    refine ⟨h1.fr (fun a q => C a (by first | decide | omega)) (fun k _ => by rw [c72]) hm, h2, h3, h4, fun c hc2 => ?_, fun c e q1 q2 q => ?_, h7', h8, h9, h10', h11'⟩
    · exact (h5 c hc2).re hS (C _ (by first | decide | omega)) (hF _ (gk0.ob hc2).1 (au_cl gv gk0 hv hc2).1.symm) (fun a q1 q2 => by rw [C a (by first | decide | omega)]) (by rw [hcb])
    · rw [ecl, ecl] at q
      exact h6 c e q1 q2 q
theorem o_strike (H : Inv S) (p : Int) : Ok L xs 21 255 [vi p] S := by
  have gv := H.gv
  have hn := gv.1.1
  have ht := H.gt.1
  by_cases hp : 0 ≤ p ∧ p < S.2 72 40
  · obtain ⟨v, hv⟩ := Int.eq_ofNat_of_zero_le hp.1
    subst hv
    obtain ⟨a1, a2, a3, a4, a5, a6, a7, a8, a9, a10, a11, a12, a13, a14, a15, a16⟩ := gv.2.2.2.1 v hp.2
    have h5 := a1.1
    have hq : (0 : Int) ≤ (v : Int) ∧ (v : Int) < 80 := by omega
    have h50 : ¬ auA S v = 0 := by omega
    by_cases hs : S.2 101 v = -1
    · have e1 : ∀ a, a < 151 → (wr S (auA S v) 7 (S.2 72 2)).2 a = S.2 a := fun a ha => wr_c (by first | decide | omega)
      have hRV : RV (wr S (auA S v) 7 (S.2 72 2)).2 := gv.1.fr (fun a ha => e1 a (by first | decide | omega)) (fun k _ => by rw [e1 72 (by decide)]) (by unfold HM; rw [e1 72 (by decide)]; omega)
      refine ⟨1, wr S (auA S v) 7 (S.2 72 2), wr (wr S (auA S v) 7 (S.2 72 2)) 101 v (S.2 72 2), ?_, ?_, ?_, Gw.of rfl⟩
      · rw [q_21, x_au gv hp.2, bR, Int.toNat_natCast, if_neg h50, g14a a1, k11 a1, rdvD h5, a10, if_pos hs, k11w a1, ht]
      · rw [q_255, m_isAu hRV, bR]
        simp only [bi_0, e1 72 (by decide), e1 101 (by decide), Int.toNat_natCast]
        rw [if_neg (fun z => z hp), if_pos hq, if_pos hs, if_pos hq]
      · refine H.au1 hp.2 rfl (fun a q1 q2 => by rw [wr_c (by first | decide | omega), wr_c q2]) (fun a q1 q2 _ _ _ => by rw [wr_c q2, wr_c (by first | decide | omega)]) (fun a j q1 q2 => ?_) (fun k q1 q2 => ?_) ?_ ?_ ?_ ?_
        · rw [wr_2, if_neg (fun z => q2 z.2), e1 a q1]
        · rw [wr_c (by first | decide | omega), wr_f, if_neg q1]
        · rw [wr_c (by first | decide | omega), wr_f, if_pos rfl, wr_f, if_pos rfl]
        · rw [wr_c (by first | decide | omega), wr_f, if_neg (by decide), wr_c (by decide), e1 105 (by decide), a12]
        · rw [wr_c (by first | decide | omega), wr_f, if_neg (by decide), wr_c (by decide), e1 106 (by decide), a13]
        · rw [wr_c (by first | decide | omega), wr_f, if_neg (by decide), wr_c (by decide), e1 107 (by decide), a14]
    · refine Ok.same (r := 0) H ?_ ?_
      · rw [q_21, x_au gv hp.2, bR, Int.toNat_natCast, if_neg h50, g14a a1, k11 a1, rdvD h5, a10, if_neg hs]
      · rw [q_255, m_isAu gv.1, bR]
        simp only [bi_0, Int.toNat_natCast]
        rw [if_neg (fun z => z hp), if_pos hq, if_neg hs]
  · refine Ok.same (r := 0) H ?_ ?_
    · rw [q_21, x_au0 gv hp, bR, if_pos (by decide)]
    · rw [q_255, m_isAu gv.1, bR]
      simp only [bi_0]
      rw [if_pos hp]
end
end
section
-- 67.falls
/-! falls -/
section
variable {L : Nat} {xs : Nat → Int} {d : Nat} {S T U S' : AH}
theorem nmC_bd (gl : GL S) {f : Nat → Bool} {day lt : Int} {i : Nat} (hi : (i : Int) < S.2 72 36) {v : Int} : ∀ j : Nat, (j : Int) ≤ S.2 78 i → nmC S.2 f day lt i j = some v → 0 ≤ v ∧ v ≤ 999999 := by
  intro j
  induction j with
  | zero => intro _ h; cases h
  | succ j ih =>
    intro hj h
    simp only [nmC] at h
    by_cases q : S.2 79 (16 * i + j) = lt ∧ inF S.2 day i = true ∧ f (16 * i + j) = false
    · rw [if_pos q] at h
      have hv := Option.some.inj h
      have := ((gl.2.2.2 i hi).2.2.cl (L := 0) (xs := fun _ => 0) (j := j) (by first | decide | omega)).2.1
      rw [hv] at this
      exact this
    · rw [if_neg q] at h
      exact ih (by first | decide | omega) h
theorem nmb_bd (gl : GL S) {k : Nat} (hk : k < 5) (day : Int) : 0 ≤ nmb S.2 k day ∧ nmb S.2 k day ≤ 999999 := by
  have key : ∀ i : Nat, (i : Int) ≤ S.2 72 36 → 0 ≤ nmL S.2 (skd S.2 day) day (nlet k) (ndef k) i ∧ nmL S.2 (skd S.2 day) day (nlet k) (ndef k) i ≤ 999999 := by
    intro i
    induction i with
    | zero =>
      intro _
      simp only [nmL]
      have : k = 0 ∨ k = 1 ∨ k = 2 ∨ k = 3 ∨ k = 4 := by omega
      rcases this with rfl | rfl | rfl | rfl | rfl <;> decide
    | succ i ih =>
      intro hi
      simp only [nmL]
      have hcm := cm_bd (gl.2.2.2 i (by first | decide | omega)).2.2
      cases e : nmC S.2 (skd S.2 day) day (nlet k) i (S.2 78 i).toNat with
      | none => exact ih (by first | decide | omega)
      | some v => exact nmC_bd gl (by first | decide | omega) _ (by first | decide | omega) e
  have := gl.2
  exact key _ (by first | decide | omega)
/-- a hand's charge behind the claims ahead of c -/
noncomputable def cg (h : Nat → Nat → Int) (v : Int) (n : Nat) (b : Int) (j : Nat) : Nat → Int
  | 0 => b
  | c + 1 => if (h 116 c = v ∧ h 119 c = 0) ∧ j < n ∧ ((h 114 c).toNat ||| 2 ^ (h 108 c).toNat).testBit j = true then w64 (cg h v n b j c + chv ((h 114 c).toNat ||| 2 ^ (h 108 c).toNat) (h 111 c) j) else cg h v n b j c
noncomputable def fsm (h : Nat → Nat → Int) (v : Int) : Nat → Int
  | 0 => 0
  | c + 1 => if h 116 c = v then w64 (fsm h v c + (if h 119 c = 0 then h 111 c else 0)) else fsm h v c
theorem x_flL (gk : GK S) (gp : GP S.2) {B : AH} {v : Int} {N n : Nat} (hN : S.2 72 52 = N) (hn : S.2 72 5 = n) (b1 : B.1 = S.1) (b2 : ∀ a, a = 17 ∨ a = 21 ∨ a = 43 ∨ a = 44 → B.2 a = S.2 a) (b3 : ∀ e, e < N → B.2 (clA S e) = S.2 (clA S e)) : ∀ (m c : Nat) (T : AH), c + m = N → T.1 = S.1 → (∀ a, a ≠ 21 → (∀ e, e < N → a ≠ clA S e) → T.2 a = B.2 a) → (∀ e, e < N → ∀ k, T.2 (clA S e) k = if k = 11 ∧ e < c ∧ S.2 116 e = v ∧ S.2 119 e = 0 then 1 else S.2 (clA S e) k) → (∀ j, T.2 21 j = cg S.2 v n (S.2 21 j) j c) →
    ∃ T', LQ (WK L xs) (ev (WK L xs) (d + 2)) 57 50 [some (vr 15), some (vi v), none, some (vl (fsm S.2 v c)), none, some (vi (c : Int)), none] [] T = some (fsm S.2 v N, T') ∧ T'.1 = S.1 ∧ (∀ a, a ≠ 21 → (∀ e, e < N → a ≠ clA S e) → T'.2 a = B.2 a) ∧ (∀ e, e < N → ∀ k, T'.2 (clA S e) k = if k = 11 ∧ S.2 116 e = v ∧ S.2 119 e = 0 then 1 else S.2 (clA S e) k) ∧ ∀ j, T'.2 21 j = cg S.2 v n (S.2 21 j) j N := by
  have hn3 := gk.n
  obtain ⟨-, ⟨hh1, hh2⟩, -, -⟩ := gp.1
  have hob : ∀ e, e < N → isO S (clA S e) 12 15 := fun e he => gk.ob (by first | decide | omega)
  intro m
  induction m with
  | zero =>
    intro c T hc t1 t2 t3 t4
    have e : c = N := by omega
    subst e
    have h43 : T.2 43 = S.2 43 := by rw [t2 43 (by decide) (fun e he z => by have := (hob e he).1; omega), b2 43 (by first | decide | omega)]
    refine ⟨T, ?_, t1, t2, fun e he k => ?_, t4⟩
    · rw [q_57_50, h43, gk.2.1, hN, if_neg (by first | decide | omega)]
    · rw [t3 e he k]
      simp only [he, true_and]
  | succ m ih =>
    intro c T hc t1 t2 t3 t4
    have hcN : c < N := by omega
    have lo : ∀ a, a < 151 → ∀ e, e < N → a ≠ clA S e := fun a ha e he z => by have := (hob e he).1; omega
    have h43 : T.2 43 = S.2 43 := by rw [t2 43 (by decide) (lo 43 (by decide)), b2 43 (by first | decide | omega)]
    have h44 : T.2 44 = S.2 44 := by rw [t2 44 (by decide) (lo 44 (by decide)), b2 44 (by first | decide | omega)]
    have h17 : T.2 17 = S.2 17 := by rw [t2 17 (by decide) (lo 17 (by decide)), b2 17 (by first | decide | omega)]
    obtain ⟨a1, a2, a3, a4, a5, a6, a7, a8, a9, a10, a11, a12, a13, a14, a15, a16⟩ := gk.2.2.2.2.1 c (by first | decide | omega)
    obtain ⟨r1, r2, r3, r4, r5, r6, r7, r8, r9, r10, r11, r12, r13⟩ := gk.1.2.2.2.1 c (by first | decide | omega)
    have h5 := a1.1
    have hO : isO T (clA S c) 12 15 := a1.eq t1
    have e1 : (c : Int) + 1 = ((c + 1 : Nat) : Int) := by omega
    have tc : ∀ k, T.2 (clA S c) k = S.2 (clA S c) k := fun k => by rw [t3 c hcN k, if_neg (by first | decide | omega)]
    have x80 : ev (WK L xs) (d + 2) 80 [vr 43, vi (c : Int)] T = some ((clA S c : Int), T) := by
      rw [q_80, h43, gk.2.1, if_neg (by first | decide | omega), if_pos (by first | decide | omega), if_pos (by first | decide | omega), Int.toNat_natCast, h44]
      rfl
    rw [q_57_50, h43, gk.2.1, hN, if_pos (by first | decide | omega), x80, bR, Int.toNat_natCast, if_neg (by first | decide | omega), g14 hO, k12 hO, rdvD h5, tc 8, a10, w32e (by first | decide | omega) (by first | decide | omega), e1]
    by_cases hv : S.2 116 c = v
    · rw [if_pos hv]
      obtain ⟨s, hs⟩ := Int.eq_ofNat_of_zero_le r6.1
      obtain ⟨w, hw⟩ := Int.eq_ofNat_of_zero_le r1.1
      obtain ⟨T1, x1, x2, x3, x4, x5⟩ := x_charge (L := L) (xs := xs) (d := d) (T := T) (o := clA S c) hO (n := n) (s := s) (w := w) (by rw [tc 6, a8, hs]) (by first | decide | omega) (by rw [tc 0, a2, hw]) (by first | decide | omega) (by rw [h17, gp.2.2.1, hn]) (by first | decide | omega)
      rw [tc 11, a13] at x1 x4 x5
      rw [tc 3, a5] at x1 x5
      have hf : fsm S.2 v (c + 1) = w64 (fsm S.2 v c + (if S.2 119 c = 0 then S.2 111 c else 0)) := by simp only [fsm]; rw [if_pos hv]
      rw [x1, bR, ← hf]
      refine ih (c + 1) T1 (by first | decide | omega) (x2.trans t1) (fun a q1 q2 => by rw [x3 a q1 (q2 c hcN), t2 a q1 q2]) (fun e he k => ?_) (fun j => ?_)
      · by_cases ec : e = c
        · subst ec
          rw [x4 k, tc k]
          by_cases q : k = 11 ∧ S.2 119 e = 0
          · rw [if_pos q, if_pos ⟨q.1, by omega, hv, q.2⟩]
          · rw [if_neg q, if_neg (fun z => q ⟨z.1, z.2.2.2⟩)]
        · have hne : clA S e ≠ clA S c := fun z => ec (gk.2.2.2.2.2.1 e c (by first | decide | omega) (by first | decide | omega) z)
          rw [x3 _ (by have := (hob e he).1; omega) hne, t3 e he k]
          by_cases q : k = 11 ∧ e < c ∧ S.2 116 e = v ∧ S.2 119 e = 0
          · rw [if_pos q, if_pos ⟨q.1, by omega, q.2.2⟩]
          · rw [if_neg q, if_neg (fun z => q ⟨z.1, by omega, z.2.2⟩)]
      · rw [x5 j, t4 j]
        simp only [cg]
        have es : (S.2 114 c).toNat = s := by omega
        have ew : (S.2 108 c).toNat = w := by omega
        rw [es, ew]
        by_cases q : S.2 119 c = 0 ∧ j < n ∧ (s ||| 2 ^ w).testBit j = true
        · rw [if_pos q, if_pos ⟨⟨hv, q.1⟩, q.2⟩]
        · rw [if_neg q, if_neg (fun z => q ⟨z.1.2, z.2⟩)]
    · rw [if_neg hv]
      have hf : fsm S.2 v (c + 1) = fsm S.2 v c := by simp only [fsm]; rw [if_neg hv]
      rw [← hf]
      refine ih (c + 1) T (by first | decide | omega) t1 t2 (fun e he k => ?_) (fun j => ?_)
      · rw [t3 e he k]
        by_cases q : k = 11 ∧ e < c ∧ S.2 116 e = v ∧ S.2 119 e = 0
        · rw [if_pos q, if_pos ⟨q.1, by omega, q.2.2⟩]
        · rw [if_neg q, if_neg (fun z => q ⟨z.1, by
            by_cases ec : e = c
            · subst ec; exact absurd z.2.2.1 hv
            · omega, z.2.2⟩)]
      · rw [t4 j]
        simp only [cg]
        rw [if_neg (fun z => hv z.1.1)]
theorem m_flL (gk : GK S) (gp : GP S.2) {B : AH} {v : Int} {N n : Nat} (hN : S.2 72 52 = N) (hn : S.2 72 5 = n) (b1 : B.1 = S.1) (b2 : ∀ a, a = 72 ∨ a = 77 ∨ (108 ≤ a ∧ a ≤ 119) → B.2 a = S.2 a) : ∀ (m c : Nat) (T : AH), c + m = N → T.1 = S.1 → (∀ a, a ≠ 77 → a ≠ 119 → T.2 a = B.2 a) → (∀ e, T.2 119 e = if e < c ∧ S.2 116 e = v ∧ S.2 119 e = 0 then 1 else S.2 119 e) → (∀ j, T.2 77 j = cg S.2 v n (S.2 77 j) j c) →
    ∃ T', LQ (WK L xs) (ev (WK L xs) (d + 2)) 306 95 [some (vr 72), some (vi v), none, some (vl (fsm S.2 v c)), none, some (vi (c : Int))] [] T = some (fsm S.2 v N, T') ∧ T'.1 = S.1 ∧ (∀ a, a ≠ 77 → a ≠ 119 → T'.2 a = B.2 a) ∧ (∀ e, T'.2 119 e = if e < N ∧ S.2 116 e = v ∧ S.2 119 e = 0 then 1 else S.2 119 e) ∧ ∀ j, T'.2 77 j = cg S.2 v n (S.2 77 j) j N := by
  have hn3 := gk.n
  obtain ⟨-, ⟨hh1, hh2⟩, -, -⟩ := gp.1
  intro m
  induction m with
  | zero =>
    intro c T hc t1 t2 t3 t4
    have e : c = N := by omega
    subst e
    refine ⟨T, ?_, t1, t2, t3, t4⟩
    rw [q_306_95, t2 72 (by decide) (by decide), b2 72 (by first | decide | omega), hN, if_neg (by first | decide | omega)]
  | succ m ih =>
    intro c T hc t1 t2 t3 t4
    have hcN : c < N := by omega
    have u : ∀ a, a = 72 ∨ (108 ≤ a ∧ a ≤ 118) → T.2 a = S.2 a := fun a ha => by rw [t2 a (by first | decide | omega) (by first | decide | omega), b2 a (by first | decide | omega)]
    obtain ⟨r1, r2, r3, r4, r5, r6, r7, r8, r9, r10, r11, r12, r13⟩ := gk.1.2.2.2.1 c (by first | decide | omega)
    have e1 : (c : Int) + 1 = ((c + 1 : Nat) : Int) := by omega
    have tc : T.2 119 c = S.2 119 c := by rw [t3 c, if_neg (by first | decide | omega)]
    rw [q_306_95, u 72 (by first | decide | omega), hN, if_pos (by first | decide | omega), if_pos (by first | decide | omega), Int.toNat_natCast, u 116 (by first | decide | omega), w32e (by first | decide | omega) (by first | decide | omega), e1]
    by_cases hv : S.2 116 c = v
    · rw [if_pos hv]
      obtain ⟨s, hs⟩ := Int.eq_ofNat_of_zero_le r6.1
      obtain ⟨w, hw⟩ := Int.eq_ofNat_of_zero_le r1.1
      obtain ⟨T1, x1, x2, x3, x4, x5⟩ := m_charge (L := L) (xs := xs) (d := d) (T := T) (c := c) (by first | decide | omega) (n := n) (s := s) (w := w) (by rw [u 114 (by first | decide | omega), hs]) (by first | decide | omega) (by rw [u 108 (by first | decide | omega), hw]) (by first | decide | omega) (by rw [u 72 (by first | decide | omega), hn]) (by first | decide | omega)
      rw [tc, u 111 (by first | decide | omega)] at x1 x5
      rw [tc] at x4
      have hf : fsm S.2 v (c + 1) = w64 (fsm S.2 v c + (if S.2 119 c = 0 then S.2 111 c else 0)) := by simp only [fsm]; rw [if_pos hv]
      rw [x1, bR, ← hf]
      refine ih (c + 1) T1 (by first | decide | omega) (x2.trans t1) (fun a q1 q2 => by rw [x3 a q1 q2, t2 a q1 q2]) (fun e => ?_) (fun j => ?_)
      · rw [x4 e, t3 e]
        by_cases ec : e = c
        · subst ec
          by_cases q : S.2 119 e = 0
          · rw [if_pos ⟨rfl, q⟩, if_pos ⟨by omega, hv, q⟩]
          · rw [if_neg (fun z => q z.2), if_neg (by first | decide | omega), if_neg (fun z => q z.2.2)]
        · rw [if_neg (fun z => ec z.1)]
          by_cases q : e < c ∧ S.2 116 e = v ∧ S.2 119 e = 0
          · rw [if_pos q, if_pos ⟨by omega, q.2⟩]
          · rw [if_neg q, if_neg (fun z => q ⟨by omega, z.2⟩)]
      · rw [x5 j, t4 j]
        simp only [cg]
        have es : (S.2 114 c).toNat = s := by omega
        have ew : (S.2 108 c).toNat = w := by omega
        rw [es, ew]
        by_cases q : S.2 119 c = 0 ∧ j < n ∧ (s ||| 2 ^ w).testBit j = true
        · rw [if_pos q, if_pos ⟨⟨hv, q.1⟩, q.2⟩]
        · rw [if_neg q, if_neg (fun z => q ⟨z.1.2, z.2⟩)]
    · rw [if_neg hv]
      have hf : fsm S.2 v (c + 1) = fsm S.2 v c := by simp only [fsm]; rw [if_neg hv]
      rw [← hf]
      refine ih (c + 1) T (by first | decide | omega) t1 t2 (fun e => ?_) (fun j => ?_)
      · rw [t3 e]
        by_cases q : e < c ∧ S.2 116 e = v ∧ S.2 119 e = 0
        · rw [if_pos q, if_pos ⟨by omega, q.2⟩]
        · rw [if_neg q, if_neg (fun z => q ⟨by
            by_cases ec : e = c
            · subst ec; exact absurd z.2.1 hv
            · omega, z.2⟩)]
      · rw [t4 j]
        simp only [cg]
        rw [if_neg (fun z => hv z.1.1)]
end
end
section
-- 68.ofalls
/-! falls: the call -/
section
variable {L : Nat} {xs : Nat → Int} {d : Nat} {S T U S' : AH}
theorem o_falls (H : Inv S) (p : Int) : Ok L xs 57 306 [vi p] S := by
  have gv := H.gv
  have gk := H.gk
  have gp := H.gp
  have hn := gv.1.1
  have hkn := gk.n
  have ht := H.gt
  by_cases hp : 0 ≤ p ∧ p < S.2 72 40
  · obtain ⟨v, hv⟩ := Int.eq_ofNat_of_zero_le hp.1
    subst hv
    obtain ⟨a1, a2, a3, a4, a5, a6, a7, a8, a9, a10, a11, a12, a13, a14, a15, a16⟩ := gv.2.2.2.1 v hp.2
    have h5 := a1.1
    have hq : (0 : Int) ≤ (v : Int) ∧ (v : Int) < 80 := by omega
    have h50 : ¬ auA S v = 0 := by omega
    have htd := (gv.1.2.1 v hp.2).2.2.2.2.1
    by_cases hk : S.2 97 v = 4
    · by_cases hf : S.2 105 v = 0
      · have hnb := nmb_bd H.gl (k := 4) (by decide) (S.2 104 v)
        obtain ⟨T, t1, t2, t3⟩ := x_nmb (L := L) (xs := xs) (d := 193) H.gl (k := 4) (by decide) (S.2 104 v)
        generalize hNm : nmb S.2 4 (S.2 104 v) = nm at t1 hnb
        have oT : isO T (auA S v) 11 14 := a1.eq t2
        have eT : T.2 (auA S v) = S.2 (auA S v) := t3 _ (by first | decide | omega)
        rw [if_neg (show ¬ S.2 97 v = 1 by omega)] at a9
        have x58 : ev (WK L xs) 199 58 [vr 15, vr (auA S v)] S = some (bi (S.2 104 v + nm < S.2 72 2 ∧ (S.2 102 v = -1 ∨ S.2 104 v + nm < S.2 103 v)), T) := by
          have h40 : ev (WK L xs) 198 58 = ev (WK L xs) 198 58 := rfl
          rw [q_58, k11 a1, k11 a1, rdvD h5, a7]
          rw [show ev (WK L xs) 198 108 [vr 31, vi 4, vi (S.2 104 v)] S = some (nm, T) from t1, bR, k11 oT, k11 oT, rdvD h5, rdvD h5, eT, a9, a11, w32e (x := S.2 104 v + nm) (by first | decide | omega) (by first | decide | omega), w32e (by first | decide | omega) (by first | decide | omega), q_58_40, t3 15 (by decide), ht.1]
          by_cases c1 : S.2 102 v = -1
          · rw [if_pos c1]
            by_cases c2 : S.2 104 v + nm < S.2 72 2
            · rw [if_neg (by first | decide | omega), bi_T ⟨c2, Or.inl c1⟩]
            · rw [if_pos (by first | decide | omega), bi_F (fun z => c2 z.1)]
          · rw [if_neg c1]
            by_cases c3 : S.2 104 v + nm < S.2 103 v
            · rw [if_neg (by first | decide | omega)]
              by_cases c2 : S.2 104 v + nm < S.2 72 2
              · rw [if_neg (by first | decide | omega), bi_T ⟨c2, Or.inr c3⟩]
              · rw [if_pos (by first | decide | omega), bi_F (fun z => c2 z.1)]
            · rw [if_pos (by first | decide | omega), bi_F (fun z => by omega)]
              split <;> rfl
        by_cases hP : S.2 104 v + nm < S.2 72 2 ∧ (S.2 102 v = -1 ∨ S.2 104 v + nm < S.2 103 v)
        · obtain ⟨N, hN⟩ := Int.eq_ofNat_of_zero_le hkn.1
          obtain ⟨n, hnn⟩ := Int.eq_ofNat_of_zero_le gp.1.2.1.1
          have hcl : ∀ e, e < N → isO S (clA S e) 12 15 ∧ clA S e ≠ auA S v := fun e he => ⟨gk.ob (by first | decide | omega), (au_cl gv gk hp.2 (show (e : Int) < S.2 72 52 by omega)).1.symm⟩
          have lo : ∀ a, a < 151 → ∀ e, e < N → a ≠ clA S e := fun a ha e he z => by have := (hcl e he).1.1; omega
          have cB : ∀ a, a ≠ 35 → a ≠ auA S v → (wr T (auA S v) 10 1).2 a = S.2 a := fun a q1 q2 => by rw [wr_c q2, t3 a q1]
          obtain ⟨X, x1, x2, x3, x4, x5⟩ := x_flL (L := L) (xs := xs) (d := 197) gk gp (B := wr T (auA S v) 10 1) (v := (v : Int)) (N := N) (n := n) hN hnn t2 (fun a ha => cB a (by first | decide | omega) (by first | decide | omega)) (fun e he => cB _ (by have := (hcl e he).1.1; omega) (hcl e he).2) N 0 (wr T (auA S v) 10 1) (by first | decide | omega) t2 (fun _ _ _ => rfl) (fun e he k => by rw [cB _ (by have := (hcl e he).1.1; omega) (hcl e he).2, if_neg (by first | decide | omega)]) (fun j => by rw [cB 21 (by decide) (by first | decide | omega)]; rfl)
          have cX : ∀ a, a < 151 → a ≠ 21 → a ≠ 35 → X.2 a = S.2 a := fun a q1 q2 q3 => by rw [x3 a q2 (lo a q1), cB a q3 (by first | decide | omega)]
          have X72 : X.2 72 = S.2 72 := cX 72 (by decide) (by decide) (by decide)
          have hRV : RV X.2 := gv.1.fr (fun a ha => cX a (by first | decide | omega) (by first | decide | omega) (by first | decide | omega)) (fun k _ => by rw [X72]) (by unfold HM; rw [X72]; omega)
          have hFx : Fx (fun a => a = auA S v ∨ ∃ e, e < N ∧ a = clA S e) S X := ⟨by rw [x2]; exact Nat.le_refl _, fun a q1 q2 => ⟨by rw [x2], fun q => by
            rw [x3 a (by first | decide | omega) (fun e he z => q (Or.inr ⟨e, he, z⟩)), cB a (by first | decide | omega) (fun z => q (Or.inl z))]⟩⟩
          have hXt : Xt (fun a => a = auA S v ∨ ∃ e, e < N ∧ a = clA S e) S := by
            rintro a (rfl | ⟨e, he, rfl⟩)
            · rw [a1.2.2]; omega
            · rw [(hcl e he).1.2.2]; omega
          have glX : GL X := H.gl.fx hFx hXt (fun a q => cX a (by first | decide | omega) (by first | decide | omega) (by first | decide | omega)) (by rw [X72]) (fun t x _ q => q.cells (fun a q1 q2 => cX a (by first | decide | omega) (by first | decide | omega) (by first | decide | omega)))
          obtain ⟨Z, z1, z2, z3⟩ := m_nmb (L := L) (xs := xs) (d := 195) glX (k := 4) (by decide) (S.2 104 v)
          rw [nmb_fr 4 _ (cX 78 (by decide) (by decide) (by decide)) (cX 79 (by decide) (by decide) (by decide)) (cX 80 (by decide) (by decide) (by decide)) (cX 81 (by decide) (by decide) (by decide)) (cX 94 (by decide) (by decide) (by decide)) (cX 95 (by decide) (by decide) (by decide)) (by rw [X72]), hNm] at z1
          have cZ : ∀ a, a < 151 → a ≠ 21 → a ≠ 35 → a ≠ 96 → Z.2 a = S.2 a := fun a q1 q2 q3 q4 => by rw [z3 a q4, cX a q1 q2 q3]
          have cY : ∀ a, a < 151 → a ≠ 21 → a ≠ 35 → a ≠ 96 → a ≠ 105 → (wr Z 105 v 1).2 a = S.2 a := fun a q1 q2 q3 q4 q5 => by rw [wr_c q5, cZ a q1 q2 q3 q4]
          have hZ1 : Z.1 = S.1 := z2.trans x2
          obtain ⟨F, f1, f2, f3, f4, f5⟩ := m_flL (L := L) (xs := xs) (d := 197) gk gp (B := wr Z 105 v 1) (v := (v : Int)) (N := N) (n := n) hN hnn hZ1 (fun a ha => cY a (by first | decide | omega) (by first | decide | omega) (by first | decide | omega) (by first | decide | omega) (by first | decide | omega)) N 0 (wr Z 105 v 1) (by first | decide | omega) hZ1 (fun _ _ _ => rfl) (fun e => by rw [cY 119 (by decide) (by decide) (by decide) (by decide) (by decide), if_neg (by first | decide | omega)]) (fun j => by rw [cY 77 (by decide) (by decide) (by decide) (by decide) (by decide)]; rfl)
          refine ⟨fsm S.2 v N, X, F, ?_, ?_, ?_, Gw.of f2⟩
          · rw [q_57, x_au gv hp.2, bR, Int.toNat_natCast, if_neg h50, g14a a1, k11 a1, k11 a1, rdvD h5, rdvD h5, a3, if_pos hk, a12, if_pos hf, x58, bR, bi_T hP, if_neg (by decide), k11w oT]
            exact x1
          · have x104 : X.2 104 v = S.2 104 v := by rw [cX 104 (by decide) (by decide) (by decide)]
            rw [q_306, m_isAu hRV, bR]
            simp only [bi_0, X72, Int.toNat_natCast, cX 97 (by decide) (by decide) (by decide), cX 105 (by decide) (by decide) (by decide), x104, if_pos hq]
            rw [if_neg (fun z => z hp), if_pos hk, if_pos hf]
            rw [show ev (WK L xs) 199 236 [vr 72, vi 100, vi (S.2 104 v)] X = some (nm, Z) from z1, bR, w32e (x := S.2 104 v + nm) (by first | decide | omega) (by first | decide | omega)]
            simp only [cZ 72 (by decide) (by decide) (by decide) (by decide), cZ 102 (by decide) (by decide) (by decide) (by decide), cZ 103 (by decide) (by decide) (by decide) (by decide)]
            rw [if_pos hP.1]
            by_cases c1 : S.2 102 v = -1
            · rw [if_pos c1]
              exact f1
            · rw [if_neg c1, if_pos (by first | decide | omega)]
              exact f1
          · have hS1 : Inv (wr (wr S (auA S v) 10 1) 105 v 1) := by
              refine H.au1 hp.2 rfl (fun a q1 q2 => by rw [wr_c (by first | decide | omega), wr_c q2]) (fun a q1 _ q3 _ _ => by rw [wr_c q3, wr_c (by first | decide | omega)]) (fun a j q1 q2 => ?_) (fun k q1 q2 => ?_) ?_ ?_ ?_ ?_
              · rw [wr_2, if_neg (fun z => q2 z.2), wr_c (by first | decide | omega)]
              · rw [wr_c (by first | decide | omega), wr_f, if_neg (by first | decide | omega)]
              · rw [wr_c (by first | decide | omega), wr_f, if_neg (by decide), wr_c (by decide), wr_c (by first | decide | omega), a10]
              · rw [wr_c (by first | decide | omega), wr_f, if_pos rfl, wr_f, if_pos rfl]
              · rw [wr_c (by first | decide | omega), wr_f, if_neg (by decide), wr_c (by decide), wr_c (by first | decide | omega), a13]
              · rw [wr_c (by first | decide | omega), wr_f, if_neg (by decide), wr_c (by decide), wr_c (by first | decide | omega), a14]
            generalize hS1e : wr (wr S (auA S v) 10 1) 105 v 1 = S1 at hS1
            have s1 : ∀ a, a ≠ 105 → a ≠ auA S v → S1.2 a = S.2 a := fun a q1 q2 => by rw [← hS1e, wr_c q1, wr_c q2]
            have s72 : S1.2 72 = S.2 72 := s1 72 (by decide) (by first | decide | omega)
            have scl : ∀ e, clA S1 e = clA S e := fun e => by unfold clA; rw [s1 44 (by decide) (by first | decide | omega)]
            have hFlo : ∀ a, a < 151 → a ≠ 21 → a ≠ 35 → a ≠ 77 → a ≠ 96 → a ≠ 119 → F.2 a = S1.2 a := fun a q1 q2 q3 q4 q5 q6 => by
              rw [f3 a q4 q6]
              by_cases e : a = 105
              · subst e
                rw [← hS1e]
                funext k
                rw [wr_f, wr_f, cZ 105 (by decide) (by decide) (by decide) (by decide), wr_c (by first | decide | omega)]
              · rw [cY a q1 q2 q3 q5 e, s1 a e (by first | decide | omega)]
            have hFhi : ∀ a, 151 ≤ a → (∀ e, e < N → a ≠ clA S e) → F.2 a = S1.2 a := fun a q1 q2 => by
              rw [f3 a (by first | decide | omega) (by first | decide | omega), wr_c (by first | decide | omega), z3 a (by first | decide | omega), x3 a (by first | decide | omega) q2]
              by_cases e : a = auA S v
              · subst e
                rw [← hS1e]
                funext k
                rw [wr_f, eT, wr_c (by first | decide | omega), wr_f]
              · rw [cB a (by first | decide | omega) e, s1 a (by first | decide | omega) e]
            have hFcl : ∀ e, e < N → ∀ k, F.2 (clA S e) k = if k = 11 ∧ S.2 116 e = v ∧ S.2 119 e = 0 then 1 else S.2 (clA S e) k := fun e he k => by
              have := (hcl e he).1.1
              rw [f3 _ (by first | decide | omega) (by first | decide | omega), wr_c (by first | decide | omega), z3 _ (by first | decide | omega), x4 e he k]
            have F21 : ∀ j, F.2 21 j = cg S.2 v n (S.2 21 j) j N := fun j => by rw [f3 21 (by decide) (by decide), wr_c (by decide), z3 21 (by decide), x5 j]
            have hM1 : Inv ((S.1, fun a => if a = 21 ∨ a = 77 ∨ a = 35 ∨ a = 96 then S.2 a else F.2 a) : AH) := by
              have cc : ∀ a, a < 151 → a ≠ 119 → ((S.1, fun a => if a = 21 ∨ a = 77 ∨ a = 35 ∨ a = 96 then S.2 a else F.2 a) : AH).2 a = S1.2 a := fun a q1 q2 => by
                show (if a = 21 ∨ a = 77 ∨ a = 35 ∨ a = 96 then S.2 a else F.2 a) = _
                by_cases e : a = 21 ∨ a = 77 ∨ a = 35 ∨ a = 96
                · rw [if_pos e, s1 a (by first | decide | omega) (by first | decide | omega)]
                · rw [if_neg e, hFlo a q1 (by first | decide | omega) (by first | decide | omega) (by first | decide | omega) (by first | decide | omega) q2]
              have c119 : ∀ e, ((S.1, fun a => if a = 21 ∨ a = 77 ∨ a = 35 ∨ a = 96 then S.2 a else F.2 a) : AH).2 119 e = if e < N ∧ S.2 116 e = v ∧ S.2 119 e = 0 then 1 else S.2 119 e := fun e => f4 e
              have chi : ∀ a, 151 ≤ a → ((S.1, fun a => if a = 21 ∨ a = 77 ∨ a = 35 ∨ a = 96 then S.2 a else F.2 a) : AH).2 a = F.2 a := fun a q1 => by
                show (if a = 21 ∨ a = 77 ∨ a = 35 ∨ a = 96 then S.2 a else F.2 a) = _
                rw [if_neg (by first | decide | omega)]
              refine hS1.marks (by rw [← hS1e]; rfl) (fun a q1 q2 => ?_) (fun a q1 q2 q3 q4 => cc a q1 (by first | decide | omega)) (fun y hy => ?_) (fun c hc => ?_) (fun c hc => ?_) (fun c hc a q1 q2 => ?_)
              · rw [chi a q1]
                exact hFhi a q1 (fun e he z => q2 e (by rw [s72, hN]; omega) (by rw [scl]; exact z))
              · rw [cc 46 (by decide) (by decide), cc 146 (by decide) (by decide)]
                exact hS1.gk.2.2.2.2.2.2.2.2.2.1 y hy
              · rw [s72] at hc
                have hcN : c < N := by omega
                have o5 := (hcl c hcN).1.1
                obtain ⟨b1, b2, b3, b4, b5, b6, b7, b8, b9, b10, b11, b12, b13, b14, b15, b16⟩ := gk.2.2.2.2.1 c hc
                rw [scl, chi _ o5, c119 c, cc 118 (by decide) (by decide), cc 120 (by decide) (by decide), cc 121 (by decide) (by decide), cc 122 (by decide) (by decide), s1 118 (by decide) (by first | decide | omega), s1 120 (by decide) (by first | decide | omega), s1 121 (by decide) (by first | decide | omega), s1 122 (by decide) (by first | decide | omega), hFcl c hcN 10, hFcl c hcN 11, hFcl c hcN 12, hFcl c hcN 13, if_neg (show ¬ ((10 : Nat) = 11 ∧ S.2 116 c = (v : Int) ∧ S.2 119 c = 0) from fun z => absurd z.1 (by decide)), if_neg (show ¬ ((12 : Nat) = 11 ∧ S.2 116 c = (v : Int) ∧ S.2 119 c = 0) from fun z => absurd z.1 (by decide)), if_neg (show ¬ ((13 : Nat) = 11 ∧ S.2 116 c = (v : Int) ∧ S.2 119 c = 0) from fun z => absurd z.1 (by decide)), s1 (clA S c) (by first | decide | omega) (hcl c hcN).2]
                refine ⟨fun k hk2 => by rw [hFcl c hcN k, if_neg (by first | decide | omega)], b12, ?_, b14, b15⟩
                by_cases q : S.2 116 c = v ∧ S.2 119 c = 0
                · rw [if_pos ⟨rfl, q⟩, if_pos ⟨hcN, q⟩]
                · rw [if_neg (fun z => q z.2), if_neg (fun z => q z.2), b13]
              · rw [s72] at hc
                obtain ⟨r1, r2, r3, r4, r5, r6, r7, r8, r9, r10, r11, r12, r13⟩ := gk.1.2.2.2.1 c hc
                rw [c119 c, cc 120 (by decide) (by decide), cc 121 (by decide) (by decide), cc 122 (by decide) (by decide), s1 120 (by decide) (by first | decide | omega), s1 121 (by decide) (by first | decide | omega), s1 122 (by decide) (by first | decide | omega), s1 111 (by decide) (by first | decide | omega)]
                refine ⟨?_, r10, r11, r12⟩
                split
                · exact Or.inr rfl
                · exact r9
              · rw [s72, hN] at hc
                by_cases e : a = 119
                · subst e
                  rw [c119 c, if_neg (by first | decide | omega), s1 119 (by decide) (by first | decide | omega)]
                · rw [cc a (by first | decide | omega) e]
            have hM2 : Inv ((S.1, fun a => if a = 35 ∨ a = 96 then S.2 a else F.2 a) : AH) := by
              refine hM1.chg rfl (fun a q1 q2 => ?_) (fun i hi => ?_)
              · show (if a = 35 ∨ a = 96 then S.2 a else F.2 a) = (if a = 21 ∨ a = 77 ∨ a = 35 ∨ a = 96 then S.2 a else F.2 a)
                by_cases e : a = 35 ∨ a = 96
                · rw [if_pos e, if_pos (by first | decide | omega)]
                · rw [if_neg e, if_neg (by first | decide | omega)]
              · show F.2 21 i = F.2 77 i
                rw [F21 i, f5 i, gp.2.2.2.2.2 i hi]
            refine hM2.scr (Fr.eq f2 (fun a q1 => ?_)) (fun a k q1 q2 => ?_)
            · show F.2 a = (if a = 35 ∨ a = 96 then S.2 a else F.2 a)
              rw [if_neg (by first | decide | omega)]
            · show F.2 a k = (if a = 35 ∨ a = 96 then S.2 a else F.2 a) k
              rw [if_neg (fun z => q2 (z.elim (fun h => Or.inr (Or.inl h)) (fun h => Or.inr (Or.inr (Or.inr (Or.inr (Or.inr (Or.inr (Or.inr (Or.inr (Or.inr (Or.inr (Or.inl h)))))))))))))]
        · have HT := H.s35 t2 t3
          obtain ⟨U, u1, u2, u3⟩ := m_nmb (L := L) (xs := xs) (d := 195) HT.gl (k := 4) (by decide) (S.2 104 v)
          rw [nmb_fr 4 _ (t3 78 (by decide)) (t3 79 (by decide)) (t3 80 (by decide)) (t3 81 (by decide)) (t3 94 (by decide)) (t3 95 (by decide)) (by rw [t3 72 (by decide)]), hNm] at u1
          refine ⟨-1, T, U, ?_, ?_, HT.s96 u2 u3, Gw.of (u2.trans t2)⟩
          · rw [q_57, x_au gv hp.2, bR, Int.toNat_natCast, if_neg h50, g14a a1, k11 a1, k11 a1, rdvD h5, rdvD h5, a3, if_pos hk, a12, if_pos hf, x58, bR, bi_F hP, if_pos rfl]
          · rw [q_306, m_isAu HT.gv.1, bR]
            simp only [bi_0, t3 72 (by decide), Int.toNat_natCast, t3 97 (by decide), t3 105 (by decide), t3 104 (by decide), if_pos hq]
            rw [if_neg (fun z => z hp), if_pos hk, if_pos hf]
            rw [show ev (WK L xs) 199 236 [vr 72, vi 100, vi (S.2 104 v)] T = some (nm, U) from u1, bR, w32e (x := S.2 104 v + nm) (by first | decide | omega) (by first | decide | omega), u3 72 (by decide), u3 102 (by decide), u3 103 (by decide), t3 72 (by decide), t3 102 (by decide), t3 103 (by decide)]
            by_cases c1 : S.2 104 v + nm < S.2 72 2
            · rw [if_pos c1, if_neg (fun z => hP ⟨c1, Or.inl z⟩), if_neg (fun z => hP ⟨c1, Or.inr z⟩)]
            · rw [if_neg c1]
      · refine Ok.same (r := -1) H ?_ ?_
        · rw [q_57, x_au gv hp.2, bR, Int.toNat_natCast, if_neg h50, g14a a1, k11 a1, k11 a1, rdvD h5, rdvD h5, a3, if_pos hk, a12, if_neg hf]
        · rw [q_306, m_isAu gv.1, bR]
          simp only [bi_0, Int.toNat_natCast]
          rw [if_neg (fun z => z hp), if_pos hq, if_pos hk, if_pos hq, if_neg hf]
    · refine Ok.same (r := -1) H ?_ ?_
      · rw [q_57, x_au gv hp.2, bR, Int.toNat_natCast, if_neg h50, g14a a1, k11 a1, rdvD h5, a3, if_neg hk]
      · rw [q_306, m_isAu gv.1, bR]
        simp only [bi_0, Int.toNat_natCast]
        rw [if_neg (fun z => z hp), if_pos hq, if_neg hk]
  · refine Ok.same (r := -1) H ?_ ?_
    · rw [q_57, x_au0 gv hp, bR, if_pos (by decide)]
    · rw [q_306, m_isAu gv.1, bR]
      simp only [bi_0]
      rw [if_pos hp]
end
end
section
-- 69.left
/-! what is left of an authority -/
noncomputable def pud (h : Nat → Nat → Int) (v y hd : Int) : Int := sm (fun c => if pin h c y = true ∧ cby h c = v ∧ uN h (h 109 c) hd = true then h 111 c else 0) (nClaims h)
noncomputable def bnd (h : Nat → Nat → Int) (k : Nat) (y : Int) : Int := if h 126 k ≤ y ∧ y ≤ h 127 k then h 125 k - pct h k y else 0
noncomputable def bnf (h : Nat → Nat → Int) (v y : Int) (k : Nat) : Int := if h 124 k = v then bnd h k y else 0
noncomputable def bns (h : Nat → Nat → Int) (v y : Int) : Int := sm (bnf h v y) (h 72 70).toNat
noncomputable def lft (h : Nat → Nat → Int) (v : Nat) (y : Int) : Int := if h 97 v = 1 then w64 (h 99 v - pud h (h 102 v) y (h 98 v)) else if h 102 v ≠ -1 then 0 else w64 (h 99 v + h 106 v - h 107 v - pby h v y - bns h v y)
noncomputable def ofY (h : Nat → Nat → Int) (v : Nat) (y : Int) : Bool := if h 97 (if h 97 v = 1 then (h 102 v).toNat else v) = 3 then decide (h 100 v ≤ y) else decide (y = h 100 v)
theorem pud_fr {h h' : Nat → Nat → Int} (e1 : h' 115 = h 115) (e2 : h' 116 = h 116) (e3 : h' 97 = h 97) (e4 : h' 102 = h 102) (e5 : h' 111 = h 111) (e6 : h' 72 52 = h 72 52) (e7 : h' 109 = h 109) (e8 : h' 74 = h 74) : pud h' = pud h := by
  funext v y hd
  unfold pud nClaims uN
  rw [pin_fr e1, cby_fr e2 e3 e4, e5, e6, e7, e8]
theorem bns_fr {h h' : Nat → Nat → Int} (e1 : h' 115 = h 115) (e2 : h' 112 = h 112) (e3 : h' 111 = h 111) (e4 : h' 72 52 = h 72 52) (e5 : h' 124 = h 124) (e6 : h' 125 = h 125) (e7 : h' 126 = h 126) (e8 : h' 127 = h 127) (e9 : h' 72 70 = h 72 70) : bnd h' = bnd h ∧ bns h' = bns h := by
  have hb : bnd h' = bnd h := by
    funext k y
    unfold bnd
    rw [pct_fr e1 e2 e3 e4, e6, e7, e8]
  refine ⟨hb, ?_⟩
  funext v y
  unfold bns
  have : bnf h' v y = bnf h v y := by
    funext k
    unfold bnf
    rw [hb, e5]
  rw [this, e9]
theorem lft_fr {h h' : Nat → Nat → Int} (hc : ∀ a, a = 74 ∨ (97 ≤ a ∧ a ≤ 102) ∨ (106 ≤ a ∧ a ≤ 127) → h' a = h a) (h1 : h' 72 52 = h 72 52) (h2 : h' 72 70 = h 72 70) : lft h' = lft h := by
  funext v y
  unfold lft
  rw [pud_fr (hc 115 (by first | decide | omega)) (hc 116 (by first | decide | omega)) (hc 97 (by first | decide | omega)) (hc 102 (by first | decide | omega)) (hc 111 (by first | decide | omega)) h1 (hc 109 (by first | decide | omega)) (hc 74 (by first | decide | omega)), pby_fr (hc 115 (by first | decide | omega)) (hc 116 (by first | decide | omega)) (hc 97 (by first | decide | omega)) (hc 102 (by first | decide | omega)) (hc 111 (by first | decide | omega)) h1, (bns_fr (hc 115 (by first | decide | omega)) (hc 112 (by first | decide | omega)) (hc 111 (by first | decide | omega)) h1 (hc 124 (by first | decide | omega)) (hc 125 (by first | decide | omega)) (hc 126 (by first | decide | omega)) (hc 127 (by first | decide | omega)) h2).2, hc 97 (by first | decide | omega), hc 98 (by first | decide | omega), hc 99 (by first | decide | omega), hc 102 (by first | decide | omega), hc 106 (by first | decide | omega), hc 107 (by first | decide | omega)]
theorem ofY_fr {h h' : Nat → Nat → Int} (e1 : h' 97 = h 97) (e2 : h' 102 = h 102) (e3 : h' 100 = h 100) : ofY h' = ofY h := by
  funext v y
  unfold ofY
  rw [e1, e2, e3]
section
variable {L : Nat} {xs : Nat → Int} {d : Nat} {S T U S' : AH}
theorem RK.nC (gk : RK S.2) : S.2 72 52 = (nClaims S.2 : Int) ∧ nClaims S.2 ≤ 300 := by
  have := gk.1
  unfold nClaims
  omega
theorem smC_bd (gk : RK S.2) {P : Nat → Prop} [DecidablePred P] {n : Nat} (hn : n ≤ nClaims S.2) : 0 ≤ sm (fun c => if P c then S.2 111 c else 0) n ∧ sm (fun c => if P c then S.2 111 c else 0) n ≤ 300000000000 := by
  have h3 := gk.nC
  have := sm_bd (f := fun c => if P c then S.2 111 c else 0) (M := 1000000000) (n := n) (fun j hj => by
    have := (gk.2.2.2.1 j (by first | decide | omega)).2.2.2.1
    show 0 ≤ (if P j then S.2 111 j else 0) ∧ (if P j then S.2 111 j else 0) ≤ 1000000000
    split <;> omega)
  omega
theorem m_cby2 (gk : RK S.2) (gv : RV S.2) {c : Nat} (hc : (c : Int) < S.2 72 52) : ev (WK L xs) (d + 1) 249 [vr 72, vi (c : Int)] S = some (cby S.2 c, S) := by
  have h3 := gk.1
  have hv := gv.1
  have hq : (0 : Int) ≤ (c : Int) ∧ (c : Int) < 300 := by omega
  obtain ⟨-, -, -, -, -, -, r7, -⟩ := gk.2.2.2.1 c hc
  rw [q_249]
  simp only [if_pos hq, Int.toNat_natCast]
  unfold cby
  by_cases h1 : S.2 116 c = -1
  · rw [if_pos h1, if_neg (fun z => z.1 h1)]
  · have hr : 0 ≤ S.2 116 c ∧ S.2 116 c < 80 := by omega
    simp only [if_pos hr]
    rw [if_neg h1]
    by_cases h2 : S.2 97 (S.2 116 c).toNat = 4
    · rw [if_pos h2]
      by_cases h4 : S.2 102 (S.2 116 c).toNat = -1
      · rw [if_pos h4, if_neg (fun z => z.2.2 h4)]
      · rw [if_neg h4, if_pos ⟨h1, h2, h4⟩]
    · rw [if_neg h2, if_neg (fun z => h2 z.2.1)]
theorem m_paidBy (gk : RK S.2) (gv : RV S.2) (v y : Int) : ev (WK L xs) (d + 2) 247 [vr 72, vi v, vi y, vi (-1)] S = some (pby S.2 v y, S) := by
  obtain ⟨hn, hn3⟩ := gk.nC
  have key : ∀ (m c : Nat), c + m = nClaims S.2 → LQ (WK L xs) (ev (WK L xs) (d + 1)) 247 6 [some (vr 72), some (vi v), some (vi y), some (vi (-1)), some (vl (sm (fun c => if pin S.2 c y = true ∧ cby S.2 c = v then S.2 111 c else 0) c)), none, some (vi (c : Int))] [] S = some (pby S.2 v y, S) := by
    intro m
    induction m with
    | zero =>
      intro c hc
      rw [q_247_6, hn, if_neg (by first | decide | omega), show c = nClaims S.2 by omega]
      rfl
    | succ m ih =>
      intro c hc
      have e1 : (c : Int) + 1 = ((c + 1 : Nat) : Int) := by omega
      have hi2 := ih (c + 1) (by first | decide | omega)
      have hb := smC_bd gk (P := fun c => pin S.2 c y = true ∧ cby S.2 c = v) (n := c + 1) (by first | decide | omega)
      have hst := sm_su (fun c => if pin S.2 c y = true ∧ cby S.2 c = v then S.2 111 c else 0) c
      rw [hst] at hi2 hb
      rw [q_247_6, hn, if_pos (by first | decide | omega), m_paidIn (by first | decide | omega), bR, w32e (by first | decide | omega) (by first | decide | omega), e1]
      simp only [bi_0]
      by_cases h1 : pin S.2 c y = true
      · rw [if_neg (fun z => z h1), m_cby2 gk gv (by first | decide | omega), bR]
        by_cases h2 : cby S.2 c = v
        · rw [if_pos (show pin S.2 c y = true ∧ cby S.2 c = v from ⟨h1, h2⟩)] at hi2 hb
          rw [if_pos h2, if_pos trivial, if_pos (by first | decide | omega), Int.toNat_natCast, w64e (by first | decide | omega) (by first | decide | omega)]
          exact hi2
        · rw [if_neg (show ¬ (pin S.2 c y = true ∧ cby S.2 c = v) from fun z => h2 z.2), Int.add_zero] at hi2
          rw [if_neg h2]
          exact hi2
      · rw [if_neg (show ¬ (pin S.2 c y = true ∧ cby S.2 c = v) from fun z => h1 z.1), Int.add_zero] at hi2
        rw [if_pos h1]
        exact hi2
  rw [q_247]
  exact key (nClaims S.2) 0 (by first | decide | omega)
theorem m_paidUn (gk : RK S.2) (gv : RV S.2) (gp : RP S.2) (v y : Int) {hd : Int} (hh : 0 ≤ hd) : ev (WK L xs) (d + 2) 247 [vr 72, vi v, vi y, vi hd] S = some (pud S.2 v y hd, S) := by
  obtain ⟨hn, hn3⟩ := gk.nC
  have key : ∀ (m c : Nat), c + m = nClaims S.2 → LQ (WK L xs) (ev (WK L xs) (d + 1)) 247 6 [some (vr 72), some (vi v), some (vi y), some (vi hd), some (vl (sm (fun c => if pin S.2 c y = true ∧ cby S.2 c = v ∧ uN S.2 (S.2 109 c) hd = true then S.2 111 c else 0) c)), none, some (vi (c : Int))] [] S = some (pud S.2 v y hd, S) := by
    intro m
    induction m with
    | zero =>
      intro c hc
      rw [q_247_6, hn, if_neg (by first | decide | omega), show c = nClaims S.2 by omega]
      rfl
    | succ m ih =>
      intro c hc
      have e1 : (c : Int) + 1 = ((c + 1 : Nat) : Int) := by omega
      have hi2 := ih (c + 1) (by first | decide | omega)
      have hb := smC_bd gk (P := fun c => pin S.2 c y = true ∧ cby S.2 c = v ∧ uN S.2 (S.2 109 c) hd = true) (n := c + 1) (by first | decide | omega)
      have hst := sm_su (fun c => if pin S.2 c y = true ∧ cby S.2 c = v ∧ uN S.2 (S.2 109 c) hd = true then S.2 111 c else 0) c
      have hch := (gk.2.2.2.1 c (by first | decide | omega)).2.1
      rw [hst] at hi2 hb
      rw [q_247_6, hn, if_pos (by first | decide | omega), m_paidIn (by first | decide | omega), bR, w32e (by first | decide | omega) (by first | decide | omega), e1]
      simp only [bi_0]
      by_cases h1 : pin S.2 c y = true
      · rw [if_neg (fun z => z h1), m_cby2 gk gv (by first | decide | omega), bR]
        by_cases h2 : cby S.2 c = v
        · rw [if_pos h2, if_neg (by first | decide | omega), if_pos (by first | decide | omega), Int.toNat_natCast, m_isUnder gp _ _ hch.1 hch.2 hh, bR]
          simp only [bi_0]
          by_cases h4 : uN S.2 (S.2 109 c) hd = true
          · rw [if_pos (show pin S.2 c y = true ∧ cby S.2 c = v ∧ uN S.2 (S.2 109 c) hd = true from ⟨h1, h2, h4⟩)] at hi2 hb
            rw [if_neg (fun z => z h4), if_pos (by first | decide | omega), w64e (by first | decide | omega) (by first | decide | omega)]
            exact hi2
          · rw [if_neg (show ¬ (pin S.2 c y = true ∧ cby S.2 c = v ∧ uN S.2 (S.2 109 c) hd = true) from fun z => h4 z.2.2), Int.add_zero] at hi2
            rw [if_pos h4]
            exact hi2
        · rw [if_neg (show ¬ (pin S.2 c y = true ∧ cby S.2 c = v ∧ uN S.2 (S.2 109 c) hd = true) from fun z => h2 z.2.1), Int.add_zero] at hi2
          rw [if_neg h2]
          exact hi2
      · rw [if_neg (show ¬ (pin S.2 c y = true ∧ cby S.2 c = v ∧ uN S.2 (S.2 109 c) hd = true) from fun z => h1 z.1), Int.add_zero] at hi2
        rw [if_pos h1]
        exact hi2
  rw [q_247]
  exact key (nClaims S.2) 0 (by first | decide | omega)
theorem m_boundBy (gk : RK S.2) (gv : RV S.2) {k : Nat} (hk : (k : Int) < S.2 72 70) (y : Int) : ev (WK L xs) (d + 2) 250 [vr 72, vi (k : Int), vi y] S = some (bnd S.2 k y, S) := by
  obtain ⟨hn, hn3⟩ := gk.nC
  have hkn := gv.2.2.2.1
  obtain ⟨-, ⟨s1, s2⟩, -⟩ := gv.2.2.2.2 k hk
  have hq : (0 : Int) ≤ (k : Int) ∧ (k : Int) < 20 := by omega
  have key : ∀ (m c : Nat), c + m = nClaims S.2 → LQ (WK L xs) (ev (WK L xs) (d + 1)) 250 35 [some (vr 72), some (vi (k : Int)), some (vi y), some (vl (S.2 125 k - sm (fun c => if pin S.2 c y = true ∧ S.2 112 c = k then S.2 111 c else 0) c)), none, some (vi (c : Int))] [] S = some (S.2 125 k - pct S.2 k y, S) := by
    intro m
    induction m with
    | zero =>
      intro c hc
      rw [q_250_35, hn, if_neg (by first | decide | omega), show c = nClaims S.2 by omega]
      rfl
    | succ m ih =>
      intro c hc
      have e1 : (c : Int) + 1 = ((c + 1 : Nat) : Int) := by omega
      have hi2 := ih (c + 1) (by first | decide | omega)
      have hb0 := smC_bd gk (P := fun c => pin S.2 c y = true ∧ S.2 112 c = k) (n := c) (by first | decide | omega)
      have hb := smC_bd gk (P := fun c => pin S.2 c y = true ∧ S.2 112 c = k) (n := c + 1) (by first | decide | omega)
      have hst := sm_su (fun c => if pin S.2 c y = true ∧ S.2 112 c = k then S.2 111 c else 0) c
      rw [hst] at hi2 hb
      rw [q_250_35, hn, if_pos (by first | decide | omega), if_pos (by first | decide | omega), Int.toNat_natCast, w32e (x := (c : Int) + 1) (by first | decide | omega) (by first | decide | omega), e1]
      by_cases h2 : S.2 112 c = k
      · rw [if_pos h2, m_paidIn (by first | decide | omega), bR]
        simp only [bi_0]
        by_cases h1 : pin S.2 c y = true
        · rw [if_pos (show pin S.2 c y = true ∧ S.2 112 c = k from ⟨h1, h2⟩)] at hi2 hb
          rw [if_neg (fun z => z h1), if_pos (by first | decide | omega), w64e (by first | decide | omega) (by first | decide | omega), Int.sub_sub]
          exact hi2
        · rw [if_neg (show ¬ (pin S.2 c y = true ∧ S.2 112 c = k) from fun z => h1 z.1), Int.add_zero] at hi2
          rw [if_pos h1, Int.sub_zero, w64e (by first | decide | omega) (by first | decide | omega)]
          exact hi2
      · rw [if_neg (show ¬ (pin S.2 c y = true ∧ S.2 112 c = k) from fun z => h2 z.2), Int.add_zero] at hi2
        rw [if_neg h2, Int.sub_zero, w64e (by first | decide | omega) (by first | decide | omega)]
        exact hi2
  rw [q_250, if_pos hq, if_pos hq, m_lies, bR, Int.toNat_natCast]
  simp only [bi_0]
  unfold bnd
  by_cases h : S.2 126 k ≤ y ∧ y ≤ S.2 127 k
  · rw [if_neg (fun z => z h), if_pos hq, if_pos h]
    have := key (nClaims S.2) 0 (by first | decide | omega)
    have z0 : sm (fun c => if pin S.2 c y = true ∧ S.2 112 c = k then S.2 111 c else 0) 0 = 0 := rfl
    rw [z0, Int.sub_zero] at this
    exact this
  · rw [if_pos h, if_neg h]
theorem m_leftOf (gk : RK S.2) (gv : RV S.2) (gp : RP S.2) {v : Nat} (hv : (v : Int) < S.2 72 40) (y : Int) : ev (WK L xs) (d + 4) 246 [vr 72, vi (v : Int), vi y] S = some (lft S.2 v y, S) := by
  have hn := gv.1
  have hkn := gv.2.2.2.1
  obtain ⟨r1, r2, r3, r4, r5, r6, r7, r8⟩ := gv.2.1 v hv
  have hq : (0 : Int) ≤ (v : Int) ∧ (v : Int) < 80 := by omega
  have key : ∀ (b : Int) (m k : Nat), k + m = (S.2 72 70).toNat → LQ (WK L xs) (ev (WK L xs) (d + 3)) 246 91 [some (vr 72), some (vi (v : Int)), some (vi y), some (vl (w64 (b - sm (bnf S.2 v y) k))), none, some (vi (k : Int))] [] S = some (w64 (b - bns S.2 v y), S) := by
    intro b m
    induction m with
    | zero =>
      intro k hk
      rw [q_246_91, if_neg (by first | decide | omega), show k = (S.2 72 70).toNat by omega]
      rfl
    | succ m ih =>
      intro k hk
      have e1 : (k : Int) + 1 = ((k + 1 : Nat) : Int) := by omega
      have hi2 := ih (k + 1) (by first | decide | omega)
      rw [sm_su (bnf S.2 v y) k, ← Int.sub_sub] at hi2
      rw [q_246_91, if_pos (by first | decide | omega), if_pos (by first | decide | omega), Int.toNat_natCast, w32e (x := (k : Int) + 1) (by first | decide | omega) (by first | decide | omega), e1]
      by_cases h : S.2 124 k = v
      · have : bnf S.2 v y k = bnd S.2 k y := by unfold bnf; rw [if_pos h]
        rw [this] at hi2
        rw [if_pos h, m_boundBy gk gv (by first | decide | omega), bR, w64_sl]
        exact hi2
      · have : bnf S.2 v y k = 0 := by unfold bnf; rw [if_neg h]
        rw [this] at hi2
        rw [if_neg h, w64_sl]
        exact hi2
  have k58 : LQ (WK L xs) (ev (WK L xs) (d + 3)) 246 58 [some (vr 72), some (vi (v : Int)), some (vi y), none, none, none] [] S = some (w64 (S.2 99 v + S.2 106 v - S.2 107 v - pby S.2 v y - bns S.2 v y), S) := by
    rw [q_246_58]
    simp only [if_pos hq, Int.toNat_natCast]
    rw [m_paidBy gk gv, bR, w64_sl, Int.sub_sub (w64 (S.2 99 v + S.2 106 v)), w64_sl, ← Int.sub_sub]
    have := key (S.2 99 v + S.2 106 v - S.2 107 v - pby S.2 v y) (S.2 72 70).toNat 0 (by first | decide | omega)
    have z0 : sm (bnf S.2 v y) 0 = 0 := rfl
    rw [z0, Int.sub_zero] at this
    exact this
  rw [q_246]
  simp only [if_pos hq, Int.toNat_natCast]
  unfold lft
  by_cases h1 : S.2 97 v = 1
  · rw [if_pos h1, if_pos h1, m_paidUn gk gv gp _ _ r2.1, bR]
  · rw [if_neg h1, if_neg h1]
    by_cases h2 : S.2 97 v = 4
    · rw [if_pos h2]
      by_cases h4 : S.2 102 v = -1
      · rw [if_pos h4, if_neg (fun z => z h4), k58]
      · rw [if_neg h4, if_pos h4]
    · rw [if_neg h2, k58, if_neg (fun z => z (r8 h1 h2))]
theorem m_isOf (gv : RV S.2) {v : Nat} (hv : (v : Int) < S.2 72 40) (y : Int) : ev (WK L xs) (d + 1) 245 [vr 72, vi (v : Int), vi y] S = some (bi (ofY S.2 v y = true), S) := by
  have hn := gv.1
  obtain ⟨r1, r2, r3, r4, r5, r6, r7, r8⟩ := gv.2.1 v hv
  have hq : (0 : Int) ≤ (v : Int) ∧ (v : Int) < 80 := by omega
  have key : ∀ a : Nat, a < 80 → S.2 100 v = S.2 100 a → (ofY S.2 v y = if S.2 97 a = 3 then decide (S.2 100 a ≤ y) else decide (y = S.2 100 a)) → LQ (WK L xs) (ev (WK L xs) d) 245 20 [some (vr 72), none, some (vi y), none] [vi (a : Int)] S = some (bi (ofY S.2 v y = true), S) := by
    intro a ha hy hO
    have hqa : (0 : Int) ≤ (a : Int) ∧ (a : Int) < 80 := by omega
    rw [q_245_20, hO]
    simp only [if_pos hqa, Int.toNat_natCast]
    by_cases h3 : S.2 97 a = 3
    · rw [if_pos h3, if_pos h3]
      by_cases h4 : y < S.2 100 a
      · rw [if_pos h4, bi_F (by rw [decide_eq_true_iff]; omega)]
      · rw [if_neg h4, bi_T (by rw [decide_eq_true_iff]; omega)]
    · rw [if_neg h3, if_neg h3]
      by_cases h4 : y = S.2 100 a
      · rw [if_pos h4, bi_T (by rw [decide_eq_true_iff]; exact h4)]
      · rw [if_neg h4, bi_F (by rw [decide_eq_true_iff]; exact h4)]
  rw [q_245]
  simp only [if_pos hq, Int.toNat_natCast]
  by_cases h1 : S.2 97 v = 1
  · obtain ⟨o1, o2, o3, o4⟩ := r6 h1
    rw [if_pos h1]
    have := key (S.2 102 v).toNat (by first | decide | omega) o4 (by unfold ofY; rw [if_pos h1, o4])
    rw [show (((S.2 102 v).toNat : Nat) : Int) = S.2 102 v by omega] at this
    exact this
  · rw [if_neg h1]
    exact key v (by first | decide | omega) rfl (by unfold ofY; rw [if_neg h1])
end
end
section
-- 70.leftx
/-! what is left: the class's side -/
section
variable {L : Nat} {xs : Nat → Int} {d : Nat} {S T U S' : AH}
theorem x_paidUn (H : Inv S) {v : Nat} (hv : (v : Int) < S.2 72 40) (h1 : S.2 97 v = 1) (y : Int) : ev (WK L xs) (d + 4) 20 [vr 15, vr (auA S v), vi y] S = some (pud S.2 (S.2 102 v) y (S.2 98 v), S) := by
  have gk := H.gk
  have gv := H.gv
  have gp := H.gp
  obtain ⟨hn, hn3⟩ := gk.1.nC
  obtain ⟨a1, a2, a3, a4, a5, a6, a7, a8, a9, -⟩ := gv.2.2.2.1 v hv
  obtain ⟨-, r2, -⟩ := gv.1.2.1 v hv
  rw [if_pos h1] at a8
  have key : ∀ (m c : Nat), c + m = nClaims S.2 → LQ (WK L xs) (ev (WK L xs) (d + 3)) 20 5 [some (vr 15), some (vr (auA S v)), some (vi y), some (vl (sm (fun c => if pin S.2 c y = true ∧ cby S.2 c = S.2 102 v ∧ uN S.2 (S.2 109 c) (S.2 98 v) = true then S.2 111 c else 0) c)), none, some (vi (c : Int)), none] [] S = some (pud S.2 (S.2 102 v) y (S.2 98 v), S) := by
    intro m
    induction m with
    | zero =>
      intro c hc
      rw [q_20_5, gk.2.1, hn, if_neg (by first | decide | omega), show c = nClaims S.2 by omega]
      rfl
    | succ m ih =>
      intro c hc
      have hcl : (c : Int) < S.2 72 52 := by omega
      have e1 : (c : Int) + 1 = ((c + 1 : Nat) : Int) := by omega
      have hi2 := ih (c + 1) (by first | decide | omega)
      have hb := smC_bd gk.1 (P := fun c => pin S.2 c y = true ∧ cby S.2 c = S.2 102 v ∧ uN S.2 (S.2 109 c) (S.2 98 v) = true) (n := c + 1) (by first | decide | omega)
      have hst := sm_su (fun c => if pin S.2 c y = true ∧ cby S.2 c = S.2 102 v ∧ uN S.2 (S.2 109 c) (S.2 98 v) = true then S.2 111 c else 0) c
      obtain ⟨b1, b2, b3, b4, b5, b6, b7, b8, b9, b10, b11, -⟩ := gk.2.2.2.2.1 c hcl
      have hch := (gk.1.2.2.2.1 c hcl).2.1
      have h5 := b1.1
      rw [hst] at hi2 hb
      rw [q_20_5, gk.2.1, hn, if_pos (by first | decide | omega), x_cl gk hcl, bR, Int.toNat_natCast, if_neg (by first | decide | omega), g14 b1, k12 b1, k11 a1, rdvD h5, rdvD a1.1, b11, a8, w32e (by first | decide | omega) (by first | decide | omega), e1]
      by_cases h2 : cby S.2 c = S.2 102 v
      · rw [if_pos h2, k12a b1, x_paidIn b1, bR, b9]
        simp only [bi_0]
        by_cases h3 : pin S.2 c y = true
        · have h3' : S.2 115 c ≠ -1 ∧ yr (S.2 115 c) = y := by unfold pin at h3; exact of_decide_eq_true h3
          rw [if_neg (fun z => z h3'), k12 b1, k11 a1, rdvD h5, rdvD a1.1, b3, a4, x_isUnder gp, bR]
          simp only [bi_0]
          by_cases h4 : uN S.2 (S.2 109 c) (S.2 98 v) = true
          · rw [if_pos (show pin S.2 c y = true ∧ cby S.2 c = S.2 102 v ∧ uN S.2 (S.2 109 c) (S.2 98 v) = true from ⟨h3, h2, h4⟩)] at hi2 hb
            rw [if_neg (fun z => z ⟨hch, r2, h4⟩), k12 b1, rdvD h5, b5, w64e (by first | decide | omega) (by first | decide | omega)]
            exact hi2
          · rw [if_neg (show ¬ (pin S.2 c y = true ∧ cby S.2 c = S.2 102 v ∧ uN S.2 (S.2 109 c) (S.2 98 v) = true) from fun z => h4 z.2.2), Int.add_zero] at hi2
            rw [if_pos (fun z => h4 z.2.2)]
            exact hi2
        · have h3' : ¬ (S.2 115 c ≠ -1 ∧ yr (S.2 115 c) = y) := fun z => h3 (by unfold pin; exact decide_eq_true z)
          rw [if_neg (show ¬ (pin S.2 c y = true ∧ cby S.2 c = S.2 102 v ∧ uN S.2 (S.2 109 c) (S.2 98 v) = true) from fun z => h3 z.1), Int.add_zero] at hi2
          rw [if_pos h3']
          exact hi2
      · rw [if_neg (show ¬ (pin S.2 c y = true ∧ cby S.2 c = S.2 102 v ∧ uN S.2 (S.2 109 c) (S.2 98 v) = true) from fun z => h2 z.2.1), Int.add_zero] at hi2
        rw [if_neg h2]
        exact hi2
  rw [q_20]
  exact key (nClaims S.2) 0 (by first | decide | omega)
theorem x_isCon (gv : GV S) (p : Int) : ev (WK L xs) (d + 1) 172 [vr 36, vi p] S = some (bi (0 ≤ p ∧ p < S.2 72 70), S) := by
  rw [q_172, gv.2.2.1, rng]
theorem x_boundBy (gv : GV S) (gk : GK S) {k : Nat} (hk : (k : Int) < S.2 72 70) {y : Int} (hy : 0 ≤ y ∧ y < 10) : ev (WK L xs) (d + 2) 171 [vr 36, vi (k : Int), vi y] S = some (bnd S.2 k y, S) := by
  have hkn := gv.1.2.2.2.1
  obtain ⟨-, ⟨s1, s2⟩, -⟩ := gv.1.2.2.2.2 k hk
  obtain ⟨c1, c2, c3, c4⟩ := gv.2.2.2.2.2.1 k hk
  obtain ⟨n, hn⟩ := Int.eq_ofNat_of_zero_le hy.1
  subst hn
  have hp := gv.2.2.2.2.2.2 k n (by first | decide | omega) (by first | decide | omega)
  have hb := smC_bd gk.1 (P := fun c => pin S.2 c n = true ∧ S.2 112 c = k) (n := nClaims S.2) (Nat.le_refl _)
  have hb2 : 0 ≤ pct S.2 k n ∧ pct S.2 k n ≤ 300000000000 := hb
  have hq : (0 : Int) ≤ (k : Int) ∧ (k : Int) < 20 := by omega
  rw [q_171, x_isCon gv, bR]
  simp only [bi_0]
  rw [if_neg (fun z => z ⟨by omega, hk⟩), x_isYear, bR]
  simp only [bi_0]
  rw [if_neg (fun z => z hy), w32e (x := (k : Int) * 10) (by first | decide | omega) (by first | decide | omega), w32e (by first | decide | omega) (by first | decide | omega), if_pos (show (0 : Int) ≤ (k : Int) * 10 + (n : Int) ∧ (k : Int) * 10 + (n : Int) < 200 by omega)]
  simp only [if_pos hq, Int.toNat_natCast]
  rw [show ((k : Int) * 10 + (n : Int)).toNat = k * 10 + n by omega, hp, c2, c3, c4]
  unfold bnd
  by_cases h1 : (n : Int) < S.2 126 k
  · rw [if_pos h1, if_neg (by first | decide | omega)]
  · rw [if_neg h1]
    by_cases h2 : S.2 127 k < n
    · rw [if_pos h2, if_neg (by first | decide | omega)]
    · rw [if_neg h2, if_pos (by first | decide | omega), w64e (by first | decide | omega) (by first | decide | omega)]
theorem x_boundOf (gv : GV S) (gk : GK S) (v : Int) {y : Int} (hy : 0 ≤ y ∧ y < 10) : ev (WK L xs) (d + 3) 170 [vr 36, vi v, vi y] S = some (w64 (bns S.2 v y), S) := by
  have hkn := gv.1.2.2.2.1
  have key : ∀ (m k : Nat), k + m = (S.2 72 70).toNat → LQ (WK L xs) (ev (WK L xs) (d + 2)) 170 5 [some (vr 36), some (vi v), some (vi y), some (vl (w64 (sm (bnf S.2 v y) k))), none, some (vi (k : Int))] [] S = some (w64 (bns S.2 v y), S) := by
    intro m
    induction m with
    | zero =>
      intro k hk
      rw [q_170_5, gv.2.2.1, if_neg (by first | decide | omega), show k = (S.2 72 70).toNat by omega]
      rfl
    | succ m ih =>
      intro k hk
      have e1 : (k : Int) + 1 = ((k + 1 : Nat) : Int) := by omega
      have hi2 := ih (k + 1) (by first | decide | omega)
      obtain ⟨c1, -⟩ := gv.2.2.2.2.2.1 k (by first | decide | omega)
      rw [sm_su (bnf S.2 v y) k] at hi2
      rw [q_170_5, gv.2.2.1, if_pos (by first | decide | omega), if_pos (by first | decide | omega), Int.toNat_natCast, c1, w32e (x := (k : Int) + 1) (by first | decide | omega) (by first | decide | omega), e1]
      by_cases h : S.2 124 k = v
      · have : bnf S.2 v y k = bnd S.2 k y := by unfold bnf; rw [if_pos h]
        rw [this] at hi2
        rw [if_pos h, x_boundBy gv gk (by first | decide | omega) hy, bR, w64_al]
        exact hi2
      · have : bnf S.2 v y k = 0 := by unfold bnf; rw [if_neg h]
        rw [this, Int.add_zero] at hi2
        rw [if_neg h]
        exact hi2
  rw [q_170]
  have := key (S.2 72 70).toNat 0 (by first | decide | omega)
  exact this
theorem k11b {o : Nat} (h : isO S o 11 14) (r : Rs) : gd (Nat.beq (shp (WK L xs) S o).1 11 && Nat.ble 2 8) r = r := by
  rw [shpD h.1, h.2.2]
  rfl
theorem x_spentIn (gv : GV S) {v : Nat} (hv : (v : Int) < S.2 72 40) (h1 : S.2 97 v ≠ 1) {y : Int} (hy : 0 ≤ y ∧ y < 10) : ev (WK L xs) (d + 2) 71 [vr (auA S v), vi y] S = some (pby S.2 v y, S) := by
  obtain ⟨a1, a2, a3, a4, a5, a6, a7, a8, a9, a10, a11, a12, a13, a14, a15, a16⟩ := gv.2.2.2.1 v hv
  obtain ⟨n, hn⟩ := Int.eq_ofNat_of_zero_le hy.1
  subst hn
  have e13 : (S.2 (auA S v) 13).toNat = spA S v := rfl
  rw [q_71, x_isYear, bR]
  simp only [bi_0]
  rw [if_neg (fun z => z hy), k11 a1, rdvD a1.1, e13, shpD a2.1, a2.2.2, rdvD a2.1, Int.toNat_natCast, if_pos (show (0 : Int) ≤ (n : Int) ∧ (n : Int) < ((3, 10) : Nat × Nat).2 by show (0 : Int) ≤ (n : Int) ∧ (n : Int) < ((10 : Nat) : Int); omega), (a16 h1 n (by first | decide | omega)).1]
  rfl
theorem x_leftOf (H : Inv S) {v : Nat} (hv : (v : Int) < S.2 72 40) {y : Int} (hy : 0 ≤ y ∧ y < 10) : ev (WK L xs) (d + 5) 19 [vr 15, vi (v : Int), vr (auA S v), vi y] S = some (lft S.2 v y, S) := by
  have gv := H.gv
  obtain ⟨a1, a2, a3, a4, a5, a6, a7, a8, a9, a10, a11, a12, a13, a14, a15, a16⟩ := gv.2.2.2.1 v hv
  have h5 := a1.1
  rw [q_19]
  simp only [k11 a1, k11b a1, rdvD h5, a3, a5, a9, a13, a14]
  unfold lft
  by_cases h1 : S.2 97 v = 1
  · rw [if_pos h1, if_pos h1, x_paidUn H hv h1, bR]
  · rw [if_neg h1, if_neg h1, if_neg h1]
    by_cases h2 : S.2 102 v = -1
    · rw [if_pos h2, if_neg (fun z => z h2), x_spentIn gv hv h1 hy, bR, x_boundOf gv H.gk _ hy, bR, w64_sr, w64_ar, w64_sl, Int.sub_sub (w64 (S.2 99 v + (S.2 106 v - S.2 107 v))), w64_sl]
      congr 2
      congr 1
      omega
    · rw [if_neg h2, if_pos h2]
theorem x_isOf (gv : GV S) {v : Nat} (hv : (v : Int) < S.2 72 40) (y : Int) : ev (WK L xs) (d + 2) 174 [vr 36, vr (auA S v), vi y] S = some (bi (ofY S.2 v y = true), S) := by
  obtain ⟨a1, a2, a3, a4, a5, a6, a7, a8, a9, a10, a11, a12, a13, a14, a15, a16⟩ := gv.2.2.2.1 v hv
  obtain ⟨r1, r2, r3, r4, r5, r6, r7, r8⟩ := gv.1.2.1 v hv
  have h5 := a1.1
  have k1 : LQ (WK L xs) (ev (WK L xs) (d + 1)) 174 38 [none, some (vr (auA S v)), some (vi y), none, none] [vi 1] S = some (bi (S.2 100 v ≤ y), S) := by
    rw [q_174_38, if_neg (by decide), k11 a1, rdvD h5, a6]
    by_cases h4 : y < S.2 100 v
    · rw [if_pos h4, bi_F (by first | decide | omega)]
    · rw [if_neg h4, bi_T (by first | decide | omega)]
  have k0 : LQ (WK L xs) (ev (WK L xs) (d + 1)) 174 38 [none, some (vr (auA S v)), some (vi y), none, none] [vi 0] S = some (bi (y = S.2 100 v), S) := by
    rw [q_174_38, if_pos rfl, k11 a1, rdvD h5, a6, ite_bi]
  rw [q_174, k1, k0]
  simp only [k11 a1, rdvD h5, a3, a8]
  unfold ofY
  by_cases h1 : S.2 97 v = 1
  · obtain ⟨o1, o2, o3, o4⟩ := r6 h1
    obtain ⟨w, hw⟩ := Int.eq_ofNat_of_zero_le o1
    have hwl : (w : Int) < S.2 72 40 := by omega
    obtain ⟨b1, b2, b3, -⟩ := gv.2.2.2.1 w hwl
    have h6 := b1.1
    simp only [if_pos h1]
    rw [hw, x_au gv hwl, bR, Int.toNat_natCast, Int.toNat_natCast, if_neg (by first | decide | omega), g14a b1, k11 b1, rdvD h6, b3, k1, k0]
    by_cases h3 : S.2 97 w = 3
    · rw [if_pos h3, if_pos h3]
      congr 2
      exact bi_iff decide_eq_true_iff.symm
    · rw [if_neg h3, if_neg h3]
      congr 2
      exact bi_iff decide_eq_true_iff.symm
  · simp only [if_neg h1]
    rw [if_neg (by first | decide | omega), g14a a1]
    by_cases h3 : S.2 97 v = 3
    · rw [if_pos h3, if_pos h3]
      congr 2
      exact bi_iff decide_eq_true_iff.symm
    · rw [if_neg h3, if_neg h3]
      congr 2
      exact bi_iff decide_eq_true_iff.symm
theorem o_left (H : Inv S) (p q : Int) : Ok L xs 24 244 [vi p, vi q] S := by
  have gv := H.gv
  by_cases hp : 0 ≤ p ∧ p < S.2 72 40
  · obtain ⟨v, hv⟩ := Int.eq_ofNat_of_zero_le hp.1
    subst hv
    obtain ⟨a1, -⟩ := gv.2.2.2.1 v hp.2
    have h5 := a1.1
    by_cases hq : 0 ≤ q ∧ q < 10
    · by_cases ho : ofY S.2 v q = true
      · refine Ok.same (r := lft S.2 v q) H ?_ ?_
        · rw [q_24, x_au gv hp.2, bR, Int.toNat_natCast, if_neg (by first | decide | omega), g14a a1, x_isYear, bR]
          simp only [bi_0]
          rw [if_neg (fun z => z hq), x_isOf gv hp.2, bR]
          simp only [bi_0]
          rw [if_neg (fun z => z ho), x_leftOf H hp.2 hq, bR]
        · rw [q_244, m_isAu gv.1, bR]
          simp only [bi_0]
          rw [if_neg (fun z => z hp), m_lies, bR]
          simp only [bi_0]
          rw [if_neg (by first | decide | omega), m_isOf gv.1 hp.2, bR]
          simp only [bi_0]
          rw [if_neg (fun z => z ho), m_leftOf H.gk.1 gv.1 H.gp.1 hp.2, bR]
      · refine Ok.same (r := -1000000000000) H ?_ ?_
        · rw [q_24, x_au gv hp.2, bR, Int.toNat_natCast, if_neg (by first | decide | omega), g14a a1, x_isYear, bR]
          simp only [bi_0]
          rw [if_neg (fun z => z hq), x_isOf gv hp.2, bR]
          simp only [bi_0]
          rw [if_pos ho]
        · rw [q_244, m_isAu gv.1, bR]
          simp only [bi_0]
          rw [if_neg (fun z => z hp), m_lies, bR]
          simp only [bi_0]
          rw [if_neg (by first | decide | omega), m_isOf gv.1 hp.2, bR]
          simp only [bi_0]
          rw [if_pos ho]
    · refine Ok.same (r := -1000000000000) H ?_ ?_
      · rw [q_24, x_au gv hp.2, bR, Int.toNat_natCast, if_neg (by first | decide | omega), g14a a1, x_isYear, bR]
        simp only [bi_0]
        rw [if_pos hq]
      · rw [q_244, m_isAu gv.1, bR]
        simp only [bi_0]
        rw [if_neg (fun z => z hp), m_lies, bR]
        simp only [bi_0]
        rw [if_pos (by first | decide | omega)]
  · refine Ok.same (r := -1000000000000) H ?_ ?_
    · rw [q_24, x_au0 gv hp, bR, if_pos (by decide)]
    · rw [q_244, m_isAu gv.1, bR]
      simp only [bi_0]
      rw [if_pos hp]
end
end
section
-- 71.move
/-! move -/
noncomputable def cmv (h : Nat → Nat → Int) (v : Nat) (y : Int) : Prop := (h 97 v = 0 ∨ h 97 v = 2) ∧ h 100 v = y ∧ h 101 v = -1
section
variable {L : Nat} {xs : Nat → Int} {d : Nat} {S T U S' W : AH}
theorem RP.fr {h h' : Nat → Nat → Int} (H : RP h) (e4 : h' 72 4 = h 72 4) (e5 : h' 72 5 = h 72 5) (hc : ∀ a, 74 ≤ a ∧ a ≤ 77 → h' a = h a) : RP h' := by
  unfold RP
  rw [e4, e5, hc 74 (by first | decide | omega), hc 75 (by first | decide | omega), hc 76 (by first | decide | omega)]
  exact H
/-- where the class alone has moved, the reference reads as before -/
theorem Inv.ref (H : Inv S) (hW : ∀ a, 72 ≤ a → a < 151 → a ≠ 96 → W.2 a = S.2 a) : RK W.2 ∧ RV W.2 ∧ RP W.2 := by
  have w72 := hW 72 (by decide) (by decide) (by decide)
  have hm : HM S.2 W.2 := by
    unfold HM
    rw [w72]
    omega
  exact ⟨H.gk.1.fr (fun a ha => hW a (by first | decide | omega) (by first | decide | omega) (by first | decide | omega)) (fun k _ => by rw [w72]) hm, H.gv.1.fr (fun a ha => hW a (by first | decide | omega) (by first | decide | omega) (by first | decide | omega)) (fun k _ => by rw [w72]) hm, H.gp.1.fr (by rw [w72]) (by rw [w72]) (fun a ha => hW a (by first | decide | omega) (by first | decide | omega) (by first | decide | omega))⟩
theorem Inv.yN (H : Inv S) : (0 ≤ yr (S.2 72 2) ∧ yr (S.2 72 2) < 10) := by
  have := H.gt.2
  unfold yr
  rw [yr_v this.1 this.2]
  omega
theorem x_canMove (gv : GV S) {v : Nat} (hv : (v : Int) < S.2 72 40) (y : Int) [Decidable (cmv S.2 v y)] : ev (WK L xs) (d + 1) 73 [vr (auA S v), vi y] S = some (bi (cmv S.2 v y), S) := by
  obtain ⟨a1, a2, a3, a4, a5, a6, a7, a8, a9, a10, a11, a12, a13, a14, a15, a16⟩ := gv.2.2.2.1 v hv
  have h5 := a1.1
  have k15 : LQ (WK L xs) (ev (WK L xs) d) 73 15 [some (vr (auA S v)), some (vi y)] [] S = some (bi (S.2 100 v = y ∧ S.2 101 v = -1), S) := by
    rw [q_73_15, k11 a1, k11 a1, rdvD h5, rdvD h5, a6, a10]
    by_cases h1 : S.2 100 v = y
    · rw [if_pos h1, ite_bi]
      congr 2
      exact bi_iff ⟨fun z => ⟨h1, z⟩, fun z => z.2⟩
    · rw [if_neg h1, bi_F (fun z => h1 z.1)]
  rw [q_73, k15]
  simp only [k11 a1, rdvD h5, a3]
  by_cases h1 : S.2 97 v = 0
  · rw [if_pos h1]
    congr 2
    exact bi_iff ⟨fun z => ⟨Or.inl h1, z⟩, fun z => z.2⟩
  · rw [if_neg h1]
    by_cases h2 : S.2 97 v = 2
    · rw [if_pos h2]
      congr 2
      exact bi_iff ⟨fun z => ⟨Or.inr h2, z⟩, fun z => z.2⟩
    · rw [if_neg h2, bi_F (fun z => by rcases z.1 with z | z <;> contradiction)]
theorem m_canMove (gv : RV S.2) {v : Nat} (hv : (v : Int) < S.2 72 40) [Decidable (cmv S.2 v (yr (S.2 72 2)))] : ev (WK L xs) (d + 3) 253 [vr 72, vi (v : Int)] S = some (bi (cmv S.2 v (yr (S.2 72 2))), S) := by
  have hn := gv.1
  have hq : (0 : Int) ≤ (v : Int) ∧ (v : Int) < 80 := by omega
  have k27 : LQ (WK L xs) (ev (WK L xs) (d + 2)) 253 27 [some (vr 72), some (vi (v : Int))] [] S = some (bi (S.2 100 v = yr (S.2 72 2) ∧ S.2 101 v = -1), S) := by
    rw [q_253_27, m_year, bR]
    simp only [if_pos hq, Int.toNat_natCast]
    show (if S.2 100 v = yr (S.2 72 2) then _ else _) = _
    by_cases h1 : S.2 100 v = yr (S.2 72 2)
    · rw [if_pos h1, ite_bi]
      congr 2
      exact bi_iff ⟨fun z => ⟨h1, z⟩, fun z => z.2⟩
    · rw [if_neg h1, bi_F (fun z => h1 z.1)]
  rw [q_253, m_isAu gv, bR, k27]
  simp only [bi_0, if_pos hq, Int.toNat_natCast]
  rw [if_neg (fun z => z ⟨hq.1, hv⟩)]
  by_cases h1 : S.2 97 v = 0
  · rw [if_pos h1]
    congr 2
    exact bi_iff ⟨fun z => ⟨Or.inl h1, z⟩, fun z => z.2⟩
  · rw [if_neg h1]
    by_cases h2 : S.2 97 v = 2
    · rw [if_pos h2]
      congr 2
      exact bi_iff ⟨fun z => ⟨Or.inr h2, z⟩, fun z => z.2⟩
    · rw [if_neg h2, bi_F (fun z => by rcases z.1 with z | z <;> contradiction)]
theorem m_canMove0 (gv : RV S.2) {p : Int} (hp : ¬ (0 ≤ p ∧ p < S.2 72 40)) : ev (WK L xs) (d + 3) 253 [vr 72, vi p] S = some (0, S) := by
  rw [q_253, m_isAu gv, bR]
  simp only [bi_0]
  rw [if_pos hp]
theorem o_move (H : Inv S) (p q s : Int) : Ok L xs 22 252 [vi p, vi q, vi s] S := by
  have gv := H.gv
  have ht := H.gt
  have hy := H.yN
  have inst : ∀ v y, Decidable (cmv S.2 v y) := fun v y => Classical.propDecidable _
  by_cases hp : 0 ≤ p ∧ p < S.2 72 40
  · by_cases hw : 0 ≤ q ∧ q < S.2 72 40
    · obtain ⟨v, hv⟩ := Int.eq_ofNat_of_zero_le hp.1
      subst hv
      obtain ⟨w, hw2⟩ := Int.eq_ofNat_of_zero_le hw.1
      subst hw2
      obtain ⟨a1, a2, a3, a4, a5, a6, a7, a8, a9, a10, a11, a12, a13, a14, a15, a16⟩ := gv.2.2.2.1 v hp.2
      obtain ⟨b1, b2, b3, b4, b5, b6, b7, b8, b9, b10, b11, b12, b13, b14, b15, b16⟩ := gv.2.2.2.1 w hw.2
      have h5 := a1.1
      have h6 := b1.1
      have hn80 := gv.1.1
      have hqv : (0 : Int) ≤ (v : Int) ∧ (v : Int) < 80 := by omega
      have hqw : (0 : Int) ≤ (w : Int) ∧ (w : Int) < 80 := by omega
      obtain ⟨T, t1, t2, t3⟩ := x_nmb (L := L) (xs := xs) (d := 194) H.gl (k := 0) (by decide) (S.2 72 2)
      generalize hNm : nmb S.2 0 (S.2 72 2) = nm at t1
      have oT : isO T (auA S v) 11 14 := a1.eq t2
      have oT2 : isO T (auA S w) 11 14 := b1.eq t2
      have eT : T.2 (auA S v) = S.2 (auA S v) := t3 _ (by first | decide | omega)
      have eT2 : T.2 (auA S w) = S.2 (auA S w) := t3 _ (by first | decide | omega)
      generalize hP : ((v : Int) ≠ w ∧ (0 ≤ s ∧ s ≤ 1000000000) ∧ cmv S.2 v (yr (S.2 72 2)) ∧ cmv S.2 w (yr (S.2 72 2)) ∧ ¬ lft S.2 v (yr (S.2 72 2)) < s) = P
      have instP : Decidable P := Classical.propDecidable _
      have X22 : ev (WK L xs) 200 22 [vr 15, vi (v : Int), vi (w : Int), vi s] S = if P then (if ldiv (w64 (S.2 99 v * nm)) 100 < w64 (S.2 107 v + s) then some (0, T) else some (1, wr (wr T (auA S v) 12 (w64 (S.2 107 v + s))) (auA S w) 11 (w64 (S.2 106 w + s)))) else some (0, S) := by
        subst hP
        rw [q_22, x_au gv hp.2, bR, x_au gv hw.2, bR, Int.toNat_natCast, Int.toNat_natCast, if_neg (by first | decide | omega), g14a a1, if_neg (by first | decide | omega), g14a b1]
        by_cases c1 : (v : Int) = w
        · rw [if_pos c1, if_neg (fun z => z.1 c1)]
        rw [if_neg c1, x_isSum, bR]
        simp only [bi_0]
        by_cases c2 : 0 ≤ s ∧ s ≤ 1000000000
        rotate_left
        · rw [if_pos c2, if_neg (fun z => c2 z.2.1)]
        rw [if_neg (fun z => z c2), x_yearOf, bR, ht.1]
        have kk1 : ∀ r : Rs, gd (Nat.beq (shp (WK L xs) S (auA S v)).1 11 && Nat.ble 0 8) r = r := fun r => by rw [shpD h5, a1.2.2]; rfl
        have kk2 : ∀ r : Rs, gd (Nat.beq (shp (WK L xs) S (auA S w)).1 11 && Nat.ble 0 8) r = r := fun r => by rw [shpD h6, b1.2.2]; rfl
        rw [kk1, x_canMove gv hp.2, bR]
        simp only [bi_0]
        by_cases c3 : cmv S.2 v (yr (S.2 72 2))
        rotate_left
        · rw [if_pos c3, if_neg (fun z => c3 z.2.2.1)]
        rw [if_neg (fun z => z c3), kk2, x_canMove gv hw.2, bR]
        simp only [bi_0]
        by_cases c4 : cmv S.2 w (yr (S.2 72 2))
        rotate_left
        · rw [if_pos c4, if_neg (fun z => c4 z.2.2.2.1)]
        rw [if_neg (fun z => z c4), x_leftOf H hp.2 hy, bR]
        simp only [lc_lt]
        by_cases c5 : lft S.2 v (yr (S.2 72 2)) < s
        · rw [if_pos c5, if_neg (fun z => z.2.2.2.2 c5)]
        rw [if_neg c5, if_pos ⟨c1, c2, c3, c4, c5⟩, k11 a1, ht.1]
        rw [show ev (WK L xs) 199 108 [vr 31, vi 0, vi (S.2 72 2)] S = some (nm, T) from t1, bR, k11 oT, k11 oT, k11w oT, k11 (show isO (wr T (auA S v) 12 (w64 (rdv (WK L xs) T (auA S v) 12 + s))) (auA S w) 11 14 from oT2), k11w (show isO (wr T (auA S v) 12 (w64 (rdv (WK L xs) T (auA S v) 12 + s))) (auA S w) 11 14 from oT2), rdvD h5, rdvD h5, rdvD h6, wr_2, if_neg (show ¬ (auA S w = auA S v ∧ (11 : Nat) = 12) from fun z => absurd z.2 (by decide)), eT, eT2, a14, a5, b13]
        simp only [lc_gt]
      have M252 : ∀ W : AH, (∀ a, 72 ≤ a → a < 151 → W.2 a = S.2 a) → GL W → ∃ U, U.1 = W.1 ∧ (∀ a, a ≠ 96 → U.2 a = W.2 a) ∧ ev (WK L xs) 200 252 [vr 72, vi (v : Int), vi (w : Int), vi s] W = if P then (if ldiv (w64 (S.2 99 v * nm)) 100 < w64 (S.2 107 v + s) then some (0, U) else some (1, wr (wr U 107 v (w64 (S.2 107 v + s))) 106 w (w64 (S.2 106 w + s)))) else some (0, W) := by
        intro W hW glW
        obtain ⟨rk, rv, rp⟩ := H.ref (W := W) (fun a q1 q2 _ => hW a q1 q2)
        have w72 := hW 72 (by decide) (by decide)
        obtain ⟨U, u1, u2, u3⟩ := m_nmb (L := L) (xs := xs) (d := 195) glW (k := 0) (by decide) (S.2 72 2)
        rw [nmb_fr 0 _ (hW 78 (by decide) (by decide)) (hW 79 (by decide) (by decide)) (hW 80 (by decide) (by decide)) (hW 81 (by decide) (by decide)) (hW 94 (by decide) (by decide)) (hW 95 (by decide) (by decide)) (by rw [w72]), hNm] at u1
        refine ⟨U, u2, u3, ?_⟩
        have hpW : (v : Int) < W.2 72 40 := by rw [w72]; exact hp.2
        have hwW : (w : Int) < W.2 72 40 := by rw [w72]; exact hw.2
        have ecm : ∀ v y, cmv W.2 v y = cmv S.2 v y := fun v y => by unfold cmv; rw [hW 97 (by decide) (by decide), hW 100 (by decide) (by decide), hW 101 (by decide) (by decide)]
        have elf : lft W.2 = lft S.2 := lft_fr (fun a ha => hW a (by first | decide | omega) (by first | decide | omega)) (by rw [w72]) (by rw [w72])
        have i1 : Decidable (cmv W.2 v (yr (W.2 72 2))) := Classical.propDecidable _
        have i2 : Decidable (cmv W.2 w (yr (W.2 72 2))) := Classical.propDecidable _
        have mc1 : ev (WK L xs) 199 253 [vr 72, vi (v : Int)] W = some (bi (cmv S.2 v (yr (S.2 72 2))), W) := by
          rw [show (199 : Nat) = 196 + 3 from rfl, m_canMove rv hpW]
          congr 2
          exact bi_iff (by rw [ecm, w72])
        have mc2 : ev (WK L xs) 199 253 [vr 72, vi (w : Int)] W = some (bi (cmv S.2 w (yr (S.2 72 2))), W) := by
          rw [show (199 : Nat) = 196 + 3 from rfl, m_canMove rv hwW]
          congr 2
          exact bi_iff (by rw [ecm, w72])
        subst hP
        rw [q_252, mc1, bR]
        simp only [bi_0]
        by_cases c3 : cmv S.2 v (yr (S.2 72 2))
        rotate_left
        · rw [if_pos c3, if_neg (fun z => c3 z.2.2.1)]
        rw [if_neg (fun z => z c3), mc2, bR]
        simp only [bi_0]
        by_cases c4 : cmv S.2 w (yr (S.2 72 2))
        rotate_left
        · rw [if_pos c4, if_neg (fun z => c4 z.2.2.2.1)]
        rw [if_neg (fun z => z c4)]
        by_cases c1 : (v : Int) = w
        · rw [if_pos c1, if_neg (fun z => z.1 c1)]
        rw [if_neg c1, m_isSum, bR]
        simp only [bi_0]
        by_cases c2 : 0 ≤ s ∧ s ≤ 1000000000
        rotate_left
        · rw [if_pos c2, if_neg (fun z => c2 z.2.1)]
        rw [if_neg (fun z => z c2), m_year, bR, m_leftOf rk rv rp hpW, bR, elf, w72]
        simp only [lc_gt]
        rw [show idiv (S.2 72 2) 360 = yr (S.2 72 2) from rfl]
        by_cases c5 : lft S.2 v (yr (S.2 72 2)) < s
        · rw [if_pos c5, if_neg (fun z => z.2.2.2.2 c5)]
        rw [if_neg c5, if_pos hqv, if_pos hqv, if_pos (show (v : Int) ≠ w ∧ (0 ≤ s ∧ s ≤ 1000000000) ∧ cmv S.2 v (yr (S.2 72 2)) ∧ cmv S.2 w (yr (S.2 72 2)) ∧ ¬ lft S.2 v (yr (S.2 72 2)) < s from ⟨c1, c2, c3, c4, c5⟩)]
        rw [show ev (WK L xs) 199 236 [vr 72, vi 109, vi (S.2 72 2)] W = some (nm, U) from u1, bR, u3 107 (by decide), u3 106 (by decide), hW 107 (by decide) (by decide), hW 106 (by decide) (by decide), hW 99 (by decide) (by decide), Int.toNat_natCast, Int.toNat_natCast]
        simp only [if_pos hqv, if_pos hqw]
      by_cases hPP : P
      · rw [if_pos hPP] at X22
        by_cases hM : ldiv (w64 (S.2 99 v * nm)) 100 < w64 (S.2 107 v + s)
        · rw [if_pos hM] at X22
          have HT := H.s35 t2 t3
          obtain ⟨U, u1, u2, u3⟩ := M252 T (fun a q1 q2 => t3 a (by first | decide | omega)) HT.gl
          rw [if_pos hPP, if_pos hM] at u3
          exact ⟨0, T, U, X22, u3, HT.s96 u1 u2, Gw.of (u1.trans t2)⟩
        · rw [if_neg hM] at X22
          have hvw : v ≠ w := by
            rw [← hP] at hPP
            have := hPP.1
            omega
          have hne : auA S v ≠ auA S w := fun z => hvw (auA_inj gv hp.2 hw.2 z)
          generalize hmf : w64 (S.2 107 v + s) = mf at X22 M252 hM
          generalize hmt : w64 (S.2 106 w + s) = mt at X22 M252
          have cW : ∀ a, a ≠ 35 → a ≠ auA S v → a ≠ auA S w → (wr (wr T (auA S v) 12 mf) (auA S w) 11 mt).2 a = S.2 a := fun a q1 q2 q3 => by rw [wr_c q3, wr_c q2, t3 a q1]
          have hFx : Fx (fun a => a = auA S v ∨ a = auA S w) S (wr (wr T (auA S v) 12 mf) (auA S w) 11 mt) := ⟨by show S.1.1 ≤ T.1.1; rw [t2]; exact Nat.le_refl _, fun a q1 q2 => ⟨by show T.1.2.2 a = S.1.2.2 a; rw [t2], fun q => cW a (by first | decide | omega) (fun z => q (Or.inl z)) (fun z => q (Or.inr z))⟩⟩
          have hXt : Xt (fun a => a = auA S v ∨ a = auA S w) S := by
            rintro a (rfl | rfl)
            · rw [a1.2.2]; omega
            · rw [b1.2.2]; omega
          have glW : GL (wr (wr T (auA S v) 12 mf) (auA S w) 11 mt) := H.gl.fx hFx hXt (fun a q => cW a (by first | decide | omega) (by first | decide | omega) (by first | decide | omega)) (by rw [cW 72 (by decide) (by first | decide | omega) (by first | decide | omega)]) (fun t x _ q => q.cells (fun a q1 q2 => cW a (by first | decide | omega) (by first | decide | omega) (by first | decide | omega)))
          obtain ⟨U, u1, u2, u3⟩ := M252 _ (fun a q1 q2 => cW a (by first | decide | omega) (by first | decide | omega) (by first | decide | omega)) glW
          rw [if_pos hPP, if_neg hM] at u3
          refine ⟨1, _, _, X22, u3, ?_, Gw.of (u1.trans t2)⟩
          have H1 : Inv (wr (wr S (auA S v) 12 mf) 107 v mf) := by
            refine H.au1 hp.2 rfl (fun a q1 q2 => by rw [wr_c (by first | decide | omega), wr_c q2]) (fun a q1 _ _ _ q5 => by rw [wr_c q5, wr_c (by first | decide | omega)]) (fun a j q1 q2 => ?_) (fun k q1 q2 => ?_) ?_ ?_ ?_ ?_
            · rw [wr_2, if_neg (fun z => q2 z.2), wr_c (by first | decide | omega)]
            · rw [wr_c (by first | decide | omega), wr_f, if_neg (by first | decide | omega)]
            · rw [wr_c (by first | decide | omega), wr_f, if_neg (by decide), wr_c (by decide), wr_c (by first | decide | omega), a10]
            · rw [wr_c (by first | decide | omega), wr_f, if_neg (by decide), wr_c (by decide), wr_c (by first | decide | omega), a12]
            · rw [wr_c (by first | decide | omega), wr_f, if_neg (by decide), wr_c (by decide), wr_c (by first | decide | omega), a13]
            · rw [wr_c (by first | decide | omega), wr_f, if_pos rfl, wr_f, if_pos rfl]
          generalize hS1 : wr (wr S (auA S v) 12 mf) 107 v mf = S1 at H1
          have s1 : ∀ a, a ≠ 107 → a ≠ auA S v → S1.2 a = S.2 a := fun a q1 q2 => by rw [← hS1, wr_c q1, wr_c q2]
          have eaw : auA S1 w = auA S w := by unfold auA; rw [s1 37 (by decide) (by first | decide | omega)]
          have hwS1 : (w : Int) < S1.2 72 40 := by rw [s1 72 (by decide) (by first | decide | omega)]; exact hw.2
          have H2 : Inv (wr (wr S1 (auA S w) 11 mt) 106 w mt) := by
            refine H1.au1 hwS1 rfl (fun a q1 q2 => by rw [eaw] at q2; rw [wr_c (by first | decide | omega), wr_c q2]) (fun a q1 _ _ q4 _ => by rw [wr_c q4, wr_c (by first | decide | omega)]) (fun a j q1 q2 => ?_) (fun k q1 q2 => ?_) ?_ ?_ ?_ ?_
            · rw [wr_2, if_neg (fun z => q2 z.2), wr_c (by first | decide | omega)]
            · rw [eaw, wr_c (by first | decide | omega), wr_f, if_neg (by first | decide | omega)]
            · rw [eaw, wr_c (by first | decide | omega), wr_f, if_neg (by decide), wr_c (by decide), wr_c (by first | decide | omega), s1 (auA S w) (by first | decide | omega) hne.symm, s1 101 (by decide) (by first | decide | omega), b10]
            · rw [eaw, wr_c (by first | decide | omega), wr_f, if_neg (by decide), wr_c (by decide), wr_c (by first | decide | omega), s1 (auA S w) (by first | decide | omega) hne.symm, s1 105 (by decide) (by first | decide | omega), b12]
            · rw [eaw, wr_c (by first | decide | omega), wr_f, if_pos rfl, wr_f, if_pos rfl]
            · rw [eaw, wr_c (by first | decide | omega), wr_f, if_neg (by decide), wr_c (by decide), wr_c (by first | decide | omega), s1 (auA S w) (by first | decide | omega) hne.symm, ← hS1, wr_f, if_neg (fun z => hvw z.symm), wr_c (by first | decide | omega), b14]
          refine H2.scr (Fr.eq (by rw [← hS1]; exact u1.trans t2) (fun a q1 => ?_)) (fun a k q1 q2 => ?_)
          · rw [wr_c (by first | decide | omega), wr_c (by first | decide | omega), u2 a (by first | decide | omega), wr_c (show a ≠ 106 by omega)]
            funext k
            rw [wr_2, wr_2, wr_2, t3 a (by first | decide | omega), ← hS1, wr_2, if_neg (show ¬ (a = 107 ∧ k = v) by omega), wr_2]
          · have n35 : a ≠ 35 := fun z => q2 (by unfold scr; omega)
            have n96 : a ≠ 96 := fun z => q2 (by unfold scr; omega)
            rw [wr_2, wr_2, u2 a n96, wr_c (show a ≠ auA S w by omega), wr_c (show a ≠ auA S v by omega), t3 a n35, wr_2, wr_c (show a ≠ auA S w by omega), ← hS1, wr_2, wr_c (show a ≠ auA S v by omega)]
      · rw [if_neg hPP] at X22
        obtain ⟨U, u1, u2, u3⟩ := M252 S (fun _ _ _ => rfl) H.gl
        rw [if_neg hPP] at u3
        exact ⟨0, S, S, X22, u3, H, Gw.rf⟩
    · refine Ok.same (r := 0) H ?_ ?_
      · obtain ⟨v, hv⟩ := Int.eq_ofNat_of_zero_le hp.1
        subst hv
        have a1 := gv.ob hp.2
        have := a1.1
        rw [q_22, x_au gv hp.2, bR, x_au0 gv hw, bR, Int.toNat_natCast, if_neg (by first | decide | omega), g14a a1, if_pos (by decide)]
      · obtain ⟨v, hv⟩ := Int.eq_ofNat_of_zero_le hp.1
        subst hv
        have i1 : Decidable (cmv S.2 v (yr (S.2 72 2))) := Classical.propDecidable _
        rw [q_252, m_canMove gv.1 hp.2, bR, m_canMove0 gv.1 hw, bR]
        simp only [bi_0]
        by_cases c3 : cmv S.2 v (yr (S.2 72 2))
        · rw [if_neg (fun z => z c3), if_pos trivial]
        · rw [if_pos c3]
  · refine Ok.same (r := 0) H ?_ ?_
    · have hx : ∃ r, ev (WK L xs) 199 168 [vr 36, vi q] S = some (r, S) := by
        by_cases hw : 0 ≤ q ∧ q < S.2 72 40
        · obtain ⟨w, hw2⟩ := Int.eq_ofNat_of_zero_le hw.1
          subst hw2
          exact ⟨_, x_au gv hw.2⟩
        · exact ⟨_, x_au0 gv hw⟩
      obtain ⟨r, hr⟩ := hx
      rw [q_22, x_au0 gv hp, bR, hr, bR, if_pos (by decide)]
    · rw [q_252, m_canMove0 gv.1 hp, bR, if_pos rfl]
end
end
section
-- 72.commit
/-! commit -/
noncomputable def cmO (h : Nat → Nat → Int) (v : Nat) (s lo hi : Int) : Prop := ∀ k : Int, lo ≤ k → k ≤ hi → ofY h v k = true ∧ ¬ lft h v k < s
section
variable {L : Nat} {xs : Nat → Int} {d : Nat} {S T U S' W : AH}
theorem cmO_end {h : Nat → Nat → Int} {v : Nat} {s lo hi : Int} (hl : hi < lo) : cmO h v s lo hi := fun k q1 q2 => by omega
theorem cmO_step {h : Nat → Nat → Int} {v : Nat} {s lo hi : Int} (hl : lo ≤ hi) : cmO h v s lo hi ↔ (ofY h v lo = true ∧ ¬ lft h v lo < s) ∧ cmO h v s (lo + 1) hi := by
  constructor
  · intro z
    exact ⟨z lo (by first | decide | omega) hl, fun k q1 q2 => z k (by first | decide | omega) q2⟩
  · intro z k q1 q2
    by_cases e : k = lo
    · rw [e]
      exact z.1
    · exact z.2 k (by first | decide | omega) q2
theorem x_cmL (H : Inv S) {v : Nat} (hv : (v : Int) < S.2 72 40) (s f : Int) {t : Int} (ht : t ≤ 9) [I : ∀ y, Decidable (cmO S.2 v s y t)] : ∀ (m : Nat) (y : Int), 0 ≤ y → y + m = t + 1 → LQ (WK L xs) (ev (WK L xs) (d + 5)) 23 68 [some (vr 15), some (vi (v : Int)), some (vi s), some (vi f), some (vi t), some (vr (auA S v)), some (vi y)] [] S = if cmO S.2 v s y t then bindR (ev (WK L xs) (d + 5) 175 [vr 36, vi (v : Int), vi s, vi f, vi t] S) (fun r1 S2 => some (r1, S2)) else some (-1, S) := by
  intro m
  induction m with
  | zero =>
    intro y h1 h2
    rw [q_23_68, if_pos (by first | decide | omega), if_pos (cmO_end (by first | decide | omega))]
  | succ m ih =>
    intro y h1 h2
    have hs := cmO_step (h := S.2) (v := v) (s := s) (lo := y) (hi := t) (by first | decide | omega)
    rw [q_23_68, if_neg (by first | decide | omega), x_isOf H.gv hv, bR]
    simp only [bi_0]
    by_cases c1 : ofY S.2 v y = true
    rotate_left
    · rw [if_pos c1, if_neg (fun z => c1 (hs.mp z).1.1)]
    rw [if_neg (fun z => z c1), x_leftOf H hv (by first | decide | omega), bR]
    simp only [lc_lt]
    by_cases c2 : lft S.2 v y < s
    · rw [if_pos c2, if_neg (fun z => (hs.mp z).1.2 c2)]
    rw [if_neg c2, w32e (by first | decide | omega) (by first | decide | omega), ih (y + 1) (by first | decide | omega) (by first | decide | omega)]
    by_cases c3 : cmO S.2 v s (y + 1) t
    · rw [if_pos c3, if_pos (hs.mpr ⟨⟨c1, c2⟩, c3⟩)]
    · rw [if_neg c3, if_neg (fun z => c3 (hs.mp z).2)]
theorem m_cmL (rk : RK S.2) (rv : RV S.2) (rp : RP S.2) {v : Nat} (hv : (v : Int) < S.2 72 40) (s f : Int) {t : Int} (ht : t ≤ 9) (hn : S.2 72 70 < 20) [I : ∀ y, Decidable (cmO S.2 v s y t)] : ∀ (m : Nat) (y : Int), 0 ≤ y → y + m = t + 1 → LQ (WK L xs) (ev (WK L xs) (d + 4)) 251 85 [some (vr 72), some (vi (v : Int)), some (vi s), some (vi f), some (vi t), some (vi y)] [] S = if cmO S.2 v s y t then some (S.2 72 70, wr (wr (wr (wr (wr S 124 (S.2 72 70).toNat (v : Int)) 125 (S.2 72 70).toNat s) 126 (S.2 72 70).toNat f) 127 (S.2 72 70).toNat t) 72 70 (S.2 72 70 + 1)) else some (-1, S) := by
  intro m
  have hn0 := rv.2.2.2.1
  have hq : 0 ≤ S.2 72 70 ∧ S.2 72 70 < 20 := ⟨hn0.1, hn⟩
  induction m with
  | zero =>
    intro y h1 h2
    rw [q_251_85, if_pos (by first | decide | omega), if_pos (cmO_end (by first | decide | omega)), if_pos hq, if_pos hq, if_pos hq, if_pos hq, wi hq.1 (by first | decide | omega), w32e (by first | decide | omega) (by first | decide | omega)]
  | succ m ih =>
    intro y h1 h2
    have hs := cmO_step (h := S.2) (v := v) (s := s) (lo := y) (hi := t) (by first | decide | omega)
    rw [q_251_85, if_neg (by first | decide | omega), m_isOf rv hv, bR]
    simp only [bi_0]
    by_cases c1 : ofY S.2 v y = true
    rotate_left
    · rw [if_pos c1, if_neg (fun z => c1 (hs.mp z).1.1)]
    rw [if_neg (fun z => z c1), m_leftOf rk rv rp hv, bR]
    simp only [lc_lt]
    by_cases c2 : lft S.2 v y < s
    · rw [if_pos c2, if_neg (fun z => (hs.mp z).1.2 c2)]
    rw [if_neg c2, w32e (by first | decide | omega) (by first | decide | omega), ih (y + 1) (by first | decide | omega) (by first | decide | omega)]
    by_cases c3 : cmO S.2 v s (y + 1) t
    · rw [if_pos c3, if_pos (hs.mpr ⟨⟨c1, c2⟩, c3⟩)]
    · rw [if_neg c3, if_neg (fun z => c3 (hs.mp z).2)]
theorem x_canBind (gv : GV S) {v : Nat} (hv : (v : Int) < S.2 72 40) : ev (WK L xs) (d + 1) 74 [vr (auA S v)] S = some (bi ((S.2 97 v ≠ 1 ∧ S.2 97 v ≠ 4) ∧ S.2 101 v = -1), S) := by
  obtain ⟨a1, a2, a3, a4, a5, a6, a7, a8, a9, a10, -⟩ := gv.2.2.2.1 v hv
  have h5 := a1.1
  have hr := (gv.1.2.1 v hv).1
  rw [q_74]
  simp only [k11 a1, rdvD h5, a3, a10]
  by_cases c : S.2 101 v = -1
  · rw [if_pos c]
    by_cases e0 : S.2 97 v = 0
    · rw [if_pos e0, bi_T (by first | decide | omega)]
    rw [if_neg e0]
    by_cases e2 : S.2 97 v = 2
    · rw [if_pos e2, bi_T (by first | decide | omega)]
    rw [if_neg e2]
    by_cases e3 : S.2 97 v = 3
    · rw [if_pos e3, bi_T (by first | decide | omega)]
    rw [if_neg e3, bi_F (by first | decide | omega)]
  · rw [if_neg c, bi_F (fun z => c z.2)]
    repeat' split
    all_goals rfl
/-- a new contract -/
theorem Inv.con1 (H : Inv S) {n : Nat} (hn : S.2 72 70 = n) (hn20 : n < 20) (hS : S'.1 = S.1) (hF : ∀ a, 151 ≤ a → S'.2 a = S.2 a) (hc : ∀ a, a < 151 → a ≠ 36 → a ≠ 72 → ¬ (38 ≤ a ∧ a ≤ 41) → ¬ (124 ≤ a ∧ a ≤ 127) → S'.2 a = S.2 a)
    (h36 : ∀ k, k ≠ 7 → S'.2 36 k = S.2 36 k) (h72 : ∀ k, k ≠ 70 → S'.2 72 k = S.2 72 k) (e36 : S'.2 36 7 = (n : Int) + 1) (e72 : S'.2 72 70 = (n : Int) + 1) (hj : ∀ a j, j ≠ n → (38 ≤ a ∧ a ≤ 41) ∨ (124 ≤ a ∧ a ≤ 127) → S'.2 a j = S.2 a j)
    (w1 : S'.2 38 n = S'.2 124 n) (w2 : S'.2 39 n = S'.2 125 n) (w3 : S'.2 40 n = S'.2 126 n) (w4 : S'.2 41 n = S'.2 127 n)
    (r1 : 0 ≤ S'.2 124 n ∧ S'.2 124 n < S.2 72 40 ∧ S.2 97 (S'.2 124 n).toNat ≠ 1 ∧ S.2 97 (S'.2 124 n).toNat ≠ 4) (r2 : 0 ≤ S'.2 125 n ∧ S'.2 125 n ≤ 1000000000) (r3 : 0 ≤ S'.2 126 n ∧ S'.2 126 n ≤ S'.2 127 n ∧ S'.2 127 n ≤ 9) : Inv S' := by
  obtain ⟨i1, gt, gc, gx, gb, gp, gl, gv, gk, gu, gw, gn⟩ := H
  have hFx : Fx (fun _ => False) S S' := ⟨by rw [hS]; exact Nat.le_refl _, fun a q1 q2 => ⟨by rw [hS], fun _ => hF a q1⟩⟩
  have hX : Xt (fun _ => False) S := fun a q => q.elim
  have C : ∀ a, a < 36 ∨ a = 37 ∨ (41 < a ∧ a < 72) ∨ (72 < a ∧ a < 124) ∨ (127 < a ∧ a < 151) → S'.2 a = S.2 a := fun a q => hc a (by first | decide | omega) (by first | decide | omega) (by first | decide | omega) (by first | decide | omega) (by first | decide | omega)
  have c15 := C 15 (by first | decide | omega)
  have hm : HM S.2 S'.2 := by
    unfold HM
    rw [h72 4 (by decide), h72 5 (by decide)]
    omega
  have hp : pby S'.2 = pby S.2 := pby_fr (C _ (by first | decide | omega)) (C _ (by first | decide | omega)) (C _ (by first | decide | omega)) (C _ (by first | decide | omega)) (C _ (by first | decide | omega)) (h72 _ (by decide))
  have hq : pct S'.2 = pct S.2 := pct_fr (C _ (by first | decide | omega)) (C _ (by first | decide | omega)) (C _ (by first | decide | omega)) (h72 _ (by decide))
  have hcb : cby S'.2 = cby S.2 := cby_fr (C _ (by first | decide | omega)) (C _ (by first | decide | omega)) (C _ (by first | decide | omega))
  refine ⟨by rw [hS]; exact i1, gt.fr (by rw [c15]) (h72 _ (by decide)), gc.fr (by rw [c15]) (h72 _ (by decide)), gx.fr (by rw [c15]) (h72 _ (by decide)), gb.fr (by rw [c15]) (h72 _ (by decide)) (C _ (by first | decide | omega)) (C _ (by first | decide | omega)), gp.fr (h72 _ (by decide)) (h72 _ (by decide)) (fun a q => C a (by first | decide | omega)), gl.fx hFx hX (fun a q => C a (by first | decide | omega)) (h72 _ (by decide)) (fun t x _ q => q.cells (fun a q1 q2 => C a (by first | decide | omega))), ?_, ?_, gu.fr (h72 _ (by decide)) (by rw [C 50 (by first | decide | omega)]) (by rw [C 50 (by first | decide | omega)]) (fun a q => C a (by first | decide | omega)), gw.fr (h72 _ (by decide)) (h72 _ (by decide)) (by rw [C 54 (by first | decide | omega)]) (by rw [C 54 (by first | decide | omega)]) (fun a q => C a (by first | decide | omega)), gn.fr (h72 _ (by decide)) (h72 _ (by decide)) (h72 _ (by decide)) (by rw [C 63 (by first | decide | omega)]) (by rw [C 63 (by first | decide | omega)]) (by rw [C 63 (by first | decide | omega)]) (fun a q => C a (by first | decide | omega))⟩
  · obtain ⟨h1, h2, h3, h4, h5, h6, h7⟩ := gv
    have hA : ∀ v : Nat, (v : Int) < S.2 72 40 → AV S' v ∧ auA S' v = auA S v ∧ spA S' v = spA S v := fun v hv => (h4 v hv).fx hFx hX (fun z => z) (fun z => z) (by rw [C 37 (by first | decide | omega)]) (fun a q1 q2 => by rw [C a (by first | decide | omega)]) (fun _ y _ => by rw [hp]) (fun x q => q.cells (fun a q1 q2 => C a (by first | decide | omega)))
    unfold GV
    rw [hq, h72 40 (by decide), h36 1 (by decide), e36, e72, C 42 (by first | decide | omega)]
    refine ⟨?_, h2, rfl, fun v hv => (hA v hv).1, fun v w hv hw q => ?_, fun k hk => ?_, h7⟩
    · obtain ⟨g1, g2, g3, g4, g5⟩ := h1
      rw [hn] at g5
      unfold RV
      rw [h72 40 (by decide), h72 4 (by decide), e72, C 97 (by first | decide | omega), C 98 (by first | decide | omega), C 99 (by first | decide | omega), C 100 (by first | decide | omega), C 102 (by first | decide | omega), C 104 (by first | decide | omega), C 105 (by first | decide | omega), C 106 (by first | decide | omega), C 107 (by first | decide | omega)]
      refine ⟨g1, g2, g3, by omega, fun k hk => ?_⟩
      by_cases e : k = n
      · subst e
        exact ⟨⟨r1.1, r1.2.1, r1.2.2⟩, r2, r3⟩
      · rw [hj 124 k e (by first | decide | omega), hj 125 k e (by first | decide | omega), hj 126 k e (by first | decide | omega), hj 127 k e (by first | decide | omega)]
        exact g5 k (by first | decide | omega)
    · obtain ⟨-, a1, a2⟩ := hA v hv
      obtain ⟨-, b1, b2⟩ := hA w hw
      rw [a1, a2, b1, b2] at q
      exact h5 v w hv hw q
    · by_cases e : k = n
      · subst e
        exact ⟨w1, w2, w3, w4⟩
      · rw [hj 124 k e (by first | decide | omega), hj 125 k e (by first | decide | omega), hj 126 k e (by first | decide | omega), hj 127 k e (by first | decide | omega), hj 38 k e (by first | decide | omega), hj 39 k e (by first | decide | omega), hj 40 k e (by first | decide | omega), hj 41 k e (by first | decide | omega)]
        exact h6 k (by first | decide | omega)
  · obtain ⟨h1, h2, h3, h4, h5, h6, h7, h8, h9, h10, h11⟩ := gk
    have gk0 : GK S := ⟨h1, h2, h3, h4, h5, h6, h7, h8, h9, h10, h11⟩
    have ecl : ∀ c, clA S' c = clA S c := fun c => by unfold clA; rw [C 44 (by first | decide | omega)]
    unfold GK nClaims
    rw [C 43 (by first | decide | omega), h72 52 (by decide), h72 53 (by decide), h72 102 (by decide), C 45 (by first | decide | omega), C 46 (by first | decide | omega), C 47 (by first | decide | omega), C 48 (by first | decide | omega), C 49 (by first | decide | omega), C 111 (by first | decide | omega), C 115 (by first | decide | omega), C 117 (by first | decide | omega), C 146 (by first | decide | omega), C 147 (by first | decide | omega), C 148 (by first | decide | omega), C 149 (by first | decide | omega)]
    refine ⟨?_, h2, h3, h4, fun c hc2 => ?_, fun c e q1 q2 q => ?_, h7, h8, h9, h10, h11⟩
    · obtain ⟨g1, g2, g3, g4, g5, g6⟩ := h1
      unfold RK
      rw [h72 52 (by decide), h72 53 (by decide), h72 102 (by decide), h72 4 (by decide), h72 5 (by decide), h72 40 (by decide), e72, C 97 (by first | decide | omega), C 108 (by first | decide | omega), C 109 (by first | decide | omega), C 110 (by first | decide | omega), C 111 (by first | decide | omega), C 112 (by first | decide | omega), C 113 (by first | decide | omega), C 114 (by first | decide | omega), C 115 (by first | decide | omega), C 116 (by first | decide | omega), C 117 (by first | decide | omega), C 118 (by first | decide | omega), C 119 (by first | decide | omega), C 120 (by first | decide | omega), C 121 (by first | decide | omega), C 122 (by first | decide | omega), C 123 (by first | decide | omega), C 147 (by first | decide | omega), C 148 (by first | decide | omega)]
      refine ⟨g1, g2, g3, fun c hc2 => ?_, g5, g6⟩
      obtain ⟨f1, f2, f3, f4, f5, f6⟩ := g4 c hc2
      exact ⟨f1, f2, f3, f4, ⟨f5.1, by omega⟩, f6⟩
    · exact (h5 c hc2).re hS (C _ (by first | decide | omega)) (hF _ (gk0.ob hc2).1) (fun a q1 q2 => by rw [C a (by first | decide | omega)]) (by rw [hcb])
    · rw [ecl, ecl] at q
      exact h6 c e q1 q2 q
theorem o_commit (H : Inv S) (p s f t : Int) : Ok L xs 23 251 [vi p, vi s, vi f, vi t] S := by
  have gv := H.gv
  have hnc := gv.1.2.2.2.1
  have ec : S.2 36 7 = S.2 72 70 := gv.2.2.1
  by_cases hp : 0 ≤ p ∧ p < S.2 72 40
  · obtain ⟨v, hv⟩ := Int.eq_ofNat_of_zero_le hp.1
    subst hv
    have a1 := gv.ob hp.2
    have h5 := a1.1
    have hn80 := gv.1.1
    have hqv : (0 : Int) ≤ (v : Int) ∧ (v : Int) < 80 := by omega
    have I : ∀ y, Decidable (cmO S.2 v s y t) := fun y => Classical.propDecidable _
    generalize hP : (((S.2 97 v ≠ 1 ∧ S.2 97 v ≠ 4) ∧ S.2 101 v = -1) ∧ S.2 72 70 < 20 ∧ (0 ≤ s ∧ s ≤ 1000000000) ∧ (0 ≤ f ∧ f ≤ t ∧ t ≤ 9) ∧ cmO S.2 v s f t) = P
    have instP : Decidable P := Classical.propDecidable _
    obtain ⟨n, hn⟩ := Int.eq_ofNat_of_zero_le hnc.1
    have X23 : ev (WK L xs) 200 23 [vr 15, vi (v : Int), vi s, vi f, vi t] S = if P then some (S.2 72 70, wr (wr (wr (wr (wr S 38 (S.2 72 70).toNat (v : Int)) 39 (S.2 72 70).toNat s) 40 (S.2 72 70).toNat f) 41 (S.2 72 70).toNat t) 36 7 (S.2 72 70 + 1)) else some (-1, S) := by
      subst hP
      rw [q_23, x_au gv hp.2, bR, Int.toNat_natCast, if_neg (by first | decide | omega), g14a a1]
      have kk1 : ∀ r : Rs, gd (Nat.beq (shp (WK L xs) S (auA S v)).1 11 && Nat.ble 0 8) r = r := fun r => by rw [shpD h5, a1.2.2]; rfl
      rw [kk1, x_canBind gv hp.2, bR]
      simp only [bi_0]
      by_cases c1 : (S.2 97 v ≠ 1 ∧ S.2 97 v ≠ 4) ∧ S.2 101 v = -1
      rotate_left
      · rw [if_pos c1, if_neg (fun z => c1 z.1)]
      rw [if_neg (fun z => z c1), q_173, ec]
      by_cases c2 : S.2 72 70 < 20
      rotate_left
      · rw [if_neg c2, bR, if_neg (by decide), if_neg (fun z => c2 z.2.1)]
      rw [if_pos c2, bR, if_pos rfl, x_isSum, bR]
      simp only [bi_0]
      by_cases c3 : 0 ≤ s ∧ s ≤ 1000000000
      rotate_left
      · rw [if_pos c3, if_neg (fun z => c3 z.2.2.1)]
      rw [if_neg (fun z => z c3), x_isYear, bR]
      simp only [bi_0]
      by_cases c4 : 0 ≤ f ∧ f < 10
      rotate_left
      · rw [if_pos c4, if_neg (fun z => c4 ⟨z.2.2.2.1.1, by have := z.2.2.2.1; omega⟩)]
      rw [if_neg (fun z => z c4), x_isYear, bR]
      simp only [bi_0]
      by_cases c5 : 0 ≤ t ∧ t < 10
      rotate_left
      · rw [if_pos c5, if_neg (fun z => c5 (by have := z.2.2.2.1; omega))]
      rw [if_neg (fun z => z c5)]
      by_cases c6 : t < f
      · rw [if_pos c6, if_neg (fun z => by have := z.2.2.2.1; omega)]
      rw [if_neg c6, x_cmL (d := 194) H hp.2 s f (t := t) (by first | decide | omega) (t + 1 - f).toNat f c4.1 (by first | decide | omega)]
      by_cases c7 : cmO S.2 v s f t
      rotate_left
      · rw [if_neg c7, if_neg (fun z => c7 z.2.2.2.2)]
      rw [if_pos c7, if_pos ⟨c1, c2, c3, by omega, c7⟩, q_175, q_173, ec, if_pos c2, bR, if_pos rfl, if_pos (by first | decide | omega), if_pos (by first | decide | omega), if_pos (by first | decide | omega), if_pos (by first | decide | omega), bR, ec, wi hnc.1 (by first | decide | omega), w32e (by first | decide | omega) (by first | decide | omega)]
    have M251 : ∀ W : AH, (∀ a, 72 ≤ a → a < 151 → W.2 a = S.2 a) → ev (WK L xs) 200 251 [vr 72, vi (v : Int), vi s, vi f, vi t] W = if P then some (S.2 72 70, wr (wr (wr (wr (wr W 124 (S.2 72 70).toNat (v : Int)) 125 (S.2 72 70).toNat s) 126 (S.2 72 70).toNat f) 127 (S.2 72 70).toNat t) 72 70 (S.2 72 70 + 1)) else some (-1, W) := by
      intro W hW
      obtain ⟨rk, rv, rp⟩ := H.ref (W := W) (fun a q1 q2 _ => hW a q1 q2)
      have w72 := hW 72 (by decide) (by decide)
      have hpW : (v : Int) < W.2 72 40 := by rw [w72]; exact hp.2
      have elf : lft W.2 = lft S.2 := lft_fr (fun a ha => hW a (by first | decide | omega) (by first | decide | omega)) (by rw [w72]) (by rw [w72])
      have eof : ofY W.2 = ofY S.2 := ofY_fr (hW _ (by decide) (by decide)) (hW _ (by decide) (by decide)) (hW _ (by decide) (by decide))
      have eok : ∀ y, cmO W.2 v s y t = cmO S.2 v s y t := fun y => by unfold cmO; rw [elf, eof]
      have I2 : ∀ y, Decidable (cmO W.2 v s y t) := fun y => Classical.propDecidable _
      subst hP
      rw [q_251, w72]
      by_cases c2 : S.2 72 70 < 20
      rotate_left
      · rw [if_pos (by first | decide | omega), if_neg (fun z => c2 z.2.1)]
      rw [if_neg (by first | decide | omega), m_isAu rv, bR]
      simp only [bi_0]
      rw [w72, if_neg (fun z => z hp), if_pos hqv, if_pos hqv, if_pos hqv, hW 97 (by decide) (by decide), hW 101 (by decide) (by decide), Int.toNat_natCast]
      by_cases c11 : S.2 97 v = 1
      · rw [if_pos c11, if_neg (fun z => z.1.1.1 c11)]
      rw [if_neg c11]
      by_cases c12 : S.2 97 v = 4
      · rw [if_pos c12, if_neg (fun z => z.1.1.2 c12)]
      rw [if_neg c12]
      by_cases c13 : S.2 101 v = -1
      rotate_left
      · rw [if_neg c13, if_neg (fun z => c13 z.1.2)]
      rw [if_pos c13, m_isSum, bR]
      simp only [bi_0]
      by_cases c3 : 0 ≤ s ∧ s ≤ 1000000000
      rotate_left
      · rw [if_pos c3, if_neg (fun z => c3 z.2.2.1)]
      rw [if_neg (fun z => z c3), m_lies, bR]
      simp only [bi_0]
      by_cases c4 : 0 ≤ f ∧ f ≤ 9
      rotate_left
      · rw [if_pos c4, if_neg (fun z => c4 (by have := z.2.2.2.1; omega))]
      rw [if_neg (fun z => z c4), m_lies, bR]
      simp only [bi_0]
      by_cases c5 : f ≤ t ∧ t ≤ 9
      rotate_left
      · rw [if_pos c5, if_neg (fun z => c5 (by have := z.2.2.2.1; omega))]
      rw [if_neg (fun z => z c5), m_cmL (d := 195) rk rv rp hpW s f (t := t) (by first | decide | omega) (by rw [w72]; exact c2) (t + 1 - f).toNat f c4.1 (by first | decide | omega), w72]
      by_cases c7 : cmO S.2 v s f t
      rotate_left
      · rw [if_neg (by rw [eok]; exact c7), if_neg (fun z => c7 z.2.2.2.2)]
      rw [if_pos (by rw [eok]; exact c7), if_pos ⟨⟨⟨c11, c12⟩, c13⟩, c2, c3, by omega, c7⟩]
    by_cases hPP : P
    · rw [if_pos hPP] at X23
      have m := M251 (wr (wr (wr (wr (wr S 38 (S.2 72 70).toNat (v : Int)) 39 (S.2 72 70).toNat s) 40 (S.2 72 70).toNat f) 41 (S.2 72 70).toNat t) 36 7 (S.2 72 70 + 1)) (fun a q1 q2 => by rw [wr_c (by first | decide | omega), wr_c (by first | decide | omega), wr_c (by first | decide | omega), wr_c (by first | decide | omega), wr_c (by first | decide | omega)])
      rw [if_pos hPP] at m
      refine ⟨_, _, _, X23, m, ?_, Gw.of rfl⟩
      rw [← hP] at hPP
      obtain ⟨c1, c2, c3, c4, c5⟩ := hPP
      have hn' := hn
      rw [hn, Int.toNat_natCast]
      refine H.con1 (n := n) hn' (by first | decide | omega) rfl (fun a q => ?_) (fun a q1 q2 q3 q4 q5 => ?_) (fun k q => ?_) (fun k q => ?_) ?_ ?_ (fun a j q1 q2 => ?_) ?_ ?_ ?_ ?_ ?_ ?_ ?_
      · repeat rw [wr_c (by first | decide | omega)]
      · repeat rw [wr_c (by first | decide | omega)]
      · simp [wr_2, q]
      · simp [wr_2, q]
      · simp [wr_2]
      · simp [wr_2]
      · simp [wr_2, q1]
        omega
      · simp [wr_2]
      · simp [wr_2]
      · simp [wr_2]
      · simp [wr_2]
      · simp only [wr_2]
        simp
        exact ⟨by omega, c1.1⟩
      · simp [wr_2]
        omega
      · simp [wr_2]
        omega
    · rw [if_neg hPP] at X23
      have m := M251 S (fun _ _ _ => rfl)
      rw [if_neg hPP] at m
      exact ⟨_, S, S, X23, m, H, Gw.rf⟩
  · refine Ok.same (r := -1) H ?_ ?_
    · rw [q_23, x_au0 gv hp, bR, if_pos (by decide)]
    · rw [q_251]
      by_cases c2 : S.2 72 70 = 20
      · rw [if_pos c2]
      rw [if_neg c2, m_isAu gv.1, bR]
      simp only [bi_0]
      rw [if_pos hp]
end
end
