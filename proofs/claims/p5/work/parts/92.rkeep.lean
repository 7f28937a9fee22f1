/-! the reference keeps a text -/
/-- only the text tt changes -/
noncomputable def TxF (tt : Nat) (S T : AH) : Prop := T.1 = S.1 ∧ (∀ a, ¬ (78 ≤ a ∧ a ≤ 85) → T.2 a = S.2 a) ∧ (∀ j, j ≠ tt → T.2 78 j = S.2 78 j) ∧ (∀ a j, 79 ≤ a → a ≤ 83 → ¬ (16 * tt ≤ j ∧ j < 16 * tt + 16) → T.2 a j = S.2 a j) ∧ ∀ a j, 84 ≤ a → a ≤ 85 → ¬ (200 * tt ≤ j ∧ j < 200 * tt + 200) → T.2 a j = S.2 a j
section
variable {L : Nat} {xs : Nat → Int} {d : Nat} {S S' T U W : AH} {x : TXT} {tt : Nat}
theorem TxF.rx (h : TxF tt S T) {t : Nat} {y : TXT} (ht : t ≠ tt) (H : RX S.2 t y) : RX T.2 t y := by
  obtain ⟨h1, h2, h3, h4, h5⟩ := h
  refine H.fr (h3 t ht) (fun j hj => ?_) (fun i hi => ?_)
  · have : ¬ (16 * tt ≤ 16 * t + j ∧ 16 * t + j < 16 * tt + 16) := by omega
    exact ⟨h4 79 _ (by decide) (by decide) this, h4 80 _ (by decide) (by decide) this, h4 81 _ (by decide) (by decide) this, h4 82 _ (by decide) (by decide) this, h4 83 _ (by decide) (by decide) this⟩
  · have : ¬ (200 * tt ≤ 200 * t + i ∧ 200 * t + i < 200 * tt + 200) := by omega
    exact ⟨h5 84 _ (by decide) (by decide) this, h5 85 _ (by decide) (by decide) this⟩
theorem m_keepL1 (ht : tt < 100) (h16 : x.length ≤ 16) (h21 : S.2 72 21 = x.length) : ∀ (m k : Nat) (T : AH), k + m = x.length → T.1 = S.1 → (∀ a, ¬ (79 ≤ a ∧ a ≤ 83) → T.2 a = S.2 a) → (∀ a j, 79 ≤ a → a ≤ 83 → T.2 a j = if 16 * tt ≤ j ∧ j < 16 * tt + k then S.2 (a + 7) (j - 16 * tt) else S.2 a j) → ∃ U, LQ (WK L xs) (ev (WK L xs) d) 230 12 [some (vr 72), some (vi (tt : Int)), some (vi (k : Int))] [] T = LQ (WK L xs) (ev (WK L xs) d) 230 113 [some (vr 72), some (vi (tt : Int)), some (vi 0)] [] U ∧ U.1 = S.1 ∧ (∀ a, ¬ (79 ≤ a ∧ a ≤ 83) → U.2 a = S.2 a) ∧ (∀ a j, 79 ≤ a → a ≤ 83 → U.2 a j = if 16 * tt ≤ j ∧ j < 16 * tt + x.length then S.2 (a + 7) (j - 16 * tt) else S.2 a j) := by
  intro m
  induction m with
  | zero =>
    intro k T hk h1 h2 h3
    refine ⟨T, ?_, h1, h2, ?_⟩
    · rw [q_230_12, h2 72 (by decide), h21, if_neg (by first | decide | omega)]
    · rw [show x.length = k by omega]
      exact h3
  | succ m ih =>
    intro k T hk h1 h2 h3
    have e1 : (k : Int) + 1 = ((k + 1 : Nat) : Int) := by omega
    have hk16 : (0 : Int) ≤ (k : Int) ∧ (k : Int) < 16 := by omega
    have ew : w32 (w32 (16 * (tt : Int)) + (k : Int)) = ((16 * tt + k : Nat) : Int) := by
      rw [w32e (x := 16 * (tt : Int)) (by first | decide | omega) (by first | decide | omega), w32e (by first | decide | omega) (by first | decide | omega)]
      omega
    have hw : (0 : Int) ≤ ((16 * tt + k : Nat) : Int) ∧ ((16 * tt + k : Nat) : Int) < 1600 := by omega
    have hI := ih (k + 1) (wr (wr (wr (wr (wr T 79 (16 * tt + k) (T.2 86 k)) 80 (16 * tt + k) (T.2 87 k)) 81 (16 * tt + k) (T.2 88 k)) 82 (16 * tt + k) (T.2 89 k)) 83 (16 * tt + k) (T.2 90 k)) (by first | decide | omega) h1 (fun a ha => by
      rw [wr_c (by first | decide | omega), wr_c (by first | decide | omega), wr_c (by first | decide | omega), wr_c (by first | decide | omega), wr_c (by first | decide | omega), h2 a ha]) (fun a j q1 q2 => by
      have h0 : a = 79 ∨ a = 80 ∨ a = 81 ∨ a = 82 ∨ a = 83 := by omega
      by_cases e : j = 16 * tt + k
      · subst e
        rw [if_pos (by first | decide | omega), show 16 * tt + k - 16 * tt = k by omega]
        rcases h0 with rfl | rfl | rfl | rfl | rfl <;> simp [wr_2, h2]
      · have h3' := h3 a j q1 q2
        have : (wr (wr (wr (wr (wr T 79 (16 * tt + k) (T.2 86 k)) 80 (16 * tt + k) (T.2 87 k)) 81 (16 * tt + k) (T.2 88 k)) 82 (16 * tt + k) (T.2 89 k)) 83 (16 * tt + k) (T.2 90 k)).2 a j = T.2 a j := by
          simp only [wr_2, e, and_false, if_false]
        rw [this, h3']
        by_cases c : 16 * tt ≤ j ∧ j < 16 * tt + k
        · rw [if_pos c, if_pos (by first | decide | omega)]
        · rw [if_neg c, if_neg (by first | decide | omega)])
    obtain ⟨U, u1, u2⟩ := hI
    refine ⟨U, ?_, u2⟩
    rw [← u1, q_230_12, h2 72 (by decide), h21, if_pos (by first | decide | omega), ew]
    simp only [if_pos hk16, if_pos hw, Int.toNat_natCast]
    rw [w32e (x := (k : Int) + 1) (by first | decide | omega) (by first | decide | omega), e1]
theorem m_keepL2 (ht : tt < 100) {c : Nat} (h16 : c ≤ 200) (h22 : S.2 72 22 = c) : ∀ (m k : Nat) (T : AH), k + m = c → T.1 = S.1 → (∀ a, ¬ (84 ≤ a ∧ a ≤ 85) → T.2 a = S.2 a) → (∀ a j, 84 ≤ a → a ≤ 85 → T.2 a j = if 200 * tt ≤ j ∧ j < 200 * tt + k then S.2 (a + 7) (j - 200 * tt) else S.2 a j) → ∃ U, LQ (WK L xs) (ev (WK L xs) d) 230 113 [some (vr 72), some (vi (tt : Int)), some (vi (k : Int))] [] T = some (0, U) ∧ U.1 = S.1 ∧ (∀ a, ¬ (84 ≤ a ∧ a ≤ 85) → U.2 a = S.2 a) ∧ (∀ a j, 84 ≤ a → a ≤ 85 → U.2 a j = if 200 * tt ≤ j ∧ j < 200 * tt + c then S.2 (a + 7) (j - 200 * tt) else S.2 a j) := by
  intro m
  induction m with
  | zero =>
    intro k T hk h1 h2 h3
    refine ⟨T, ?_, h1, h2, ?_⟩
    · rw [q_230_113, h2 72 (by decide), h22, if_neg (by first | decide | omega)]
    · rw [show c = k by omega]
      exact h3
  | succ m ih =>
    intro k T hk h1 h2 h3
    have e1 : (k : Int) + 1 = ((k + 1 : Nat) : Int) := by omega
    have hk16 : (0 : Int) ≤ (k : Int) ∧ (k : Int) < 220 := by omega
    have ew : w32 (w32 (200 * (tt : Int)) + (k : Int)) = ((200 * tt + k : Nat) : Int) := by
      rw [w32e (x := 200 * (tt : Int)) (by first | decide | omega) (by first | decide | omega), w32e (by first | decide | omega) (by first | decide | omega)]
      omega
    have hw : (0 : Int) ≤ ((200 * tt + k : Nat) : Int) ∧ ((200 * tt + k : Nat) : Int) < 20000 := by omega
    have hI := ih (k + 1) (wr (wr T 84 (200 * tt + k) (T.2 91 k)) 85 (200 * tt + k) (T.2 92 k)) (by first | decide | omega) h1 (fun a ha => by
      rw [wr_c (by first | decide | omega), wr_c (by first | decide | omega), h2 a ha]) (fun a j q1 q2 => by
      have h0 : a = 84 ∨ a = 85 := by omega
      by_cases e : j = 200 * tt + k
      · subst e
        rw [if_pos (by first | decide | omega), show 200 * tt + k - 200 * tt = k by omega]
        rcases h0 with rfl | rfl <;> simp [wr_2, h2]
      · have h3' := h3 a j q1 q2
        have : (wr (wr T 84 (200 * tt + k) (T.2 91 k)) 85 (200 * tt + k) (T.2 92 k)).2 a j = T.2 a j := by
          simp only [wr_2, e, and_false, if_false]
        rw [this, h3']
        by_cases c : 200 * tt ≤ j ∧ j < 200 * tt + k
        · rw [if_pos c, if_pos (by first | decide | omega)]
        · rw [if_neg c, if_neg (by first | decide | omega)])
    obtain ⟨U, u1, u2⟩ := hI
    refine ⟨U, ?_, u2⟩
    rw [← u1, q_230_113, h2 72 (by decide), h22, if_pos (by first | decide | omega), ew]
    simp only [if_pos hk16, if_pos hw, Int.toNat_natCast]
    rw [w32e (x := (k : Int) + 1) (by first | decide | omega) (by first | decide | omega), e1]
theorem m_keeps (ht : tt < 100) (H : RTf S x) : ∃ T, ev (WK L xs) (d + 1) 230 [vr 72, vi (tt : Int)] S = some (0, T) ∧ TxF tt S T ∧ RX T.2 tt x := by
  obtain ⟨⟨h21, h16, hcl⟩, h22, h200, hcd⟩ := H
  obtain ⟨U, u1, u2, u3, u4⟩ := m_keepL1 (L := L) (xs := xs) (d := d) (S := wr S 78 tt (S.2 72 21)) ht h16 (by rw [wr_c (by decide), h21]) x.length 0 (wr S 78 tt (S.2 72 21)) (by first | decide | omega) rfl (fun _ _ => rfl) (fun a j _ _ => by rw [if_neg (by first | decide | omega)])
  obtain ⟨V, v1, v2, v3, v4⟩ := m_keepL2 (L := L) (xs := xs) (d := d) (S := U) ht h200 (by rw [u3 72 (by decide), wr_c (by decide), h22]) (cds x x.length).length 0 U (by first | decide | omega) rfl (fun _ _ => rfl) (fun a j _ _ => by rw [if_neg (by first | decide | omega)])
  have V78 : ∀ j, V.2 78 j = if j = tt then (x.length : Int) else S.2 78 j := fun j => by rw [v3 78 (by decide), u3 78 (by decide), wr_f, h21]
  have VA : ∀ a j, 79 ≤ a → a ≤ 83 → V.2 a j = if 16 * tt ≤ j ∧ j < 16 * tt + x.length then S.2 (a + 7) (j - 16 * tt) else S.2 a j := fun a j q1 q2 => by
    rw [v3 a (by first | decide | omega), u4 a j q1 q2, wr_c (by first | decide | omega), wr_c (by first | decide | omega)]
  have VB : ∀ a j, 84 ≤ a → a ≤ 85 → V.2 a j = if 200 * tt ≤ j ∧ j < 200 * tt + (cds x x.length).length then S.2 (a + 7) (j - 200 * tt) else S.2 a j := fun a j q1 q2 => by
    rw [v4 a j q1 q2, u3 (a + 7) (by first | decide | omega), u3 a (by first | decide | omega), wr_c (by first | decide | omega), wr_c (by first | decide | omega)]
  refine ⟨V, ?_, ⟨?_, fun a ha => ?_, fun j hj => ?_, fun a j q1 q2 q3 => ?_, fun a j q1 q2 q3 => ?_⟩, ?_, h16, fun j q hq => ?_, h200, fun i q hq => ?_⟩
  · rw [q_230, if_pos (by first | decide | omega), Int.toNat_natCast]
    exact u1.trans v1
  · rw [v2, u2]
    rfl
  · rw [v3 a (by first | decide | omega), u3 a (by first | decide | omega), wr_c (by first | decide | omega)]
  · rw [V78, if_neg hj]
  · rw [VA a j q1 q2, if_neg (by first | decide | omega)]
  · rw [VB a j q1 q2, if_neg (by first | decide | omega)]
  · rw [V78, if_pos rfl]
  · have hj := (List.getElem?_eq_some_iff.mp hq).1
    have hb : 16 * tt ≤ 16 * tt + j ∧ 16 * tt + j < 16 * tt + x.length := by omega
    rw [VA 79 _ (by decide) (by decide), VA 80 _ (by decide) (by decide), VA 81 _ (by decide) (by decide), VA 82 _ (by decide) (by decide), VA 83 _ (by decide) (by decide), if_pos hb, if_pos hb, if_pos hb, if_pos hb, if_pos hb, show 16 * tt + j - 16 * tt = j by omega]
    exact hcl j q hq
  · have hi := (List.getElem?_eq_some_iff.mp hq).1
    have hb : 200 * tt ≤ 200 * tt + i ∧ 200 * tt + i < 200 * tt + (cds x x.length).length := by omega
    rw [VB 84 _ (by decide) (by decide), VB 85 _ (by decide) (by decide), if_pos hb, if_pos hb, show 200 * tt + i - 200 * tt = i by omega]
    exact hcd i q hq
end
