/-! strikes, the reference's -/
section
variable {L : Nat} {xs : Nat → Int} {d : Nat} {S S' : AH} {o : Nat}
theorem cm_bd {a t : Nat} (H : TX S a t) : 0 ≤ S.2 78 t ∧ S.2 78 t ≤ 16 := by
  obtain ⟨x, ⟨h1, h2, -⟩, -⟩ := H
  rw [h1]
  omega
theorem m_skL (gl : GL S) {day : Int} : ∀ (i : Nat) (T : AH) (f : Nat → Bool), (i : Int) ≤ S.2 72 36 → A96 S T f → ∃ T', LQ (WK L xs) (ev (WK L xs) (d + 2)) 232 29 [some (vr 72), some (vi day), some (vi ((i : Int) - 1)), none] [] T = some (0, T') ∧ A96 S T' (skL S.2 day i f) := by
  have hl := gl.2.2.1
  intro i
  induction i with
  | zero =>
    intro T f _ hA
    rw [q_232_29, if_pos (by first | decide | omega)]
    exact ⟨T, rfl, hA⟩
  | succ i ih =>
    intro T f hi hA
    have tx := (gl.2.2.2 i (by first | decide | omega)).2.2
    have hcm := cm_bd tx
    have e0 : ((i + 1 : Nat) : Int) - 1 = i := by omega
    have e1 : (i : Int) + -1 = (i : Int) - 1 := by omega
    have w1 : w32 (16 * (i : Int)) = 16 * (i : Int) := w32e (by first | decide | omega) (by first | decide | omega)
    rw [e0, q_232_29, if_neg (by first | decide | omega), w1]
    show ∃ T', _ = _ ∧ A96 S T' (skL S.2 day i (if inF S.2 day i = true then skC S.2 i (S.2 78 i).toNat 0 f else f))
    by_cases hF : inF S.2 day i = true
    · obtain ⟨T1, t1, t2⟩ := m_skC (L := L) (xs := xs) (d := d) gl (i := i) (by first | decide | omega) hF (S.2 78 i).toNat 0 T f (by first | decide | omega) hA
      rw [show 16 * (i : Int) + ((0 : Nat) : Int) = 16 * (i : Int) by omega] at t1
      rw [if_pos hF, t1, e1]
      exact ih T1 _ (by first | decide | omega) t2
    · rw [if_neg hF]
      have hiF : ev (WK L xs) (d + 2) 233 [vr 72, vi (i : Int), vi day] T = some (bi (inF S.2 day i = true), T) := by
        have e3 : inF T.2 day i = inF S.2 day i := by
          unfold inF
          rw [hA.2.1 94 (by decide), hA.2.1 95 (by decide)]
        rw [m_inF (by first | decide | omega), e3]
      rw [q_232_38, if_pos (by first | decide | omega), w1, hiF, bR, bi_F hF, if_pos rfl, w32e (x := (i : Int) + -1) (by first | decide | omega) (by first | decide | omega), e1, ite_self]
      exact ih T f (by first | decide | omega) hA
theorem m_strikes (gl : GL S) (day : Int) : ∃ T', ev (WK L xs) (d + 3) 232 [vr 72, vi day] S = some (0, T') ∧ A96 S T' (skd S.2 day) := by
  have hl := gl.2
  have key : ∀ (m k : Nat) (T : AH), k + m = 320 → T.1 = S.1 → (∀ a, a ≠ 96 → T.2 a = S.2 a) → (∀ j, j < k → T.2 96 j = 0) → ∃ T', LQ (WK L xs) (ev (WK L xs) (d + 2)) 232 2 [some (vr 72), some (vi day), some (vi (k : Int)), none] [] T = some (0, T') ∧ A96 S T' (skd S.2 day) := by
    intro m
    induction m with
    | zero =>
      intro k T hk h1 h2 h3
      rw [q_232_2, if_neg (by first | decide | omega), h2 72 (by decide), w32e (by first | decide | omega) (by first | decide | omega)]
      have := m_skL (L := L) (xs := xs) (d := d) gl (day := day) (S.2 72 36).toNat T (fun _ => false) (by first | decide | omega) ⟨h1, h2, fun j hj => by rw [h3 j (by first | decide | omega)]; rfl⟩
      rw [show ((S.2 72 36).toNat : Int) - 1 = S.2 72 36 - 1 by omega] at this
      exact this
    | succ m ih =>
      intro k T hk h1 h2 h3
      rw [q_232_2, if_pos (by first | decide | omega), if_pos (by first | decide | omega), w32e (by first | decide | omega) (by first | decide | omega), show (k : Int) + 1 = ((k + 1 : Nat) : Int) by omega, Int.toNat_natCast]
      refine ih (k + 1) _ (by first | decide | omega) h1 (fun a ha => by rw [wr_c ha]; exact h2 a ha) (fun j hj => ?_)
      rw [wr_f]
      by_cases e : j = k
      · rw [if_pos e]
      · rw [if_neg e]
        exact h3 j (by first | decide | omega)
  rw [q_232]
  exact key 320 0 S (by first | decide | omega) rfl (fun _ _ => rfl) (fun j hj => by omega)
/-- the class's bits: what is in force and not struck -/
noncomputable def btsF (h : Nat → Nat → Int) (day : Int) (f : Nat → Bool) (i j : Nat) : Bool := inF h day i && decide ((j : Int) < h 78 i) && !f (16 * i + j)
noncomputable def B35 (S T : AH) (day : Int) (f : Nat → Bool) (n : Nat) : Prop := T.1 = S.1 ∧ (∀ a, a ≠ 35 → T.2 a = S.2 a) ∧ ∀ i : Nat, i < n → ∃ z : Nat, T.2 35 i = z ∧ z < 65536 ∧ ∀ j, j < 16 → z.testBit j = btsF S.2 day f i j
theorem CX2.ad {a : Nat} {law : Bool} {x : TXT} (H : CX2 S a law x) : a ≠ 0 ∧ a ≠ 14 := by
  rcases H with ⟨h, -⟩ | ⟨h, -⟩
  · omega
  · have := h.1
    omega
theorem TX.ad {a t : Nat} (H : TX S a t) : a ≠ 0 ∧ a ≠ 14 := by
  obtain ⟨x, -, h⟩ := H
  exact h.ad
theorem nb14 {a : Nat} (h : a ≠ 14) (r : Rs) : gd (!(Nat.beq a 14)) r = r := by
  have : Nat.beq a 14 = false := by
    cases e : Nat.beq a 14 with
    | false => rfl
    | true => exact absurd (Nat.eq_of_beq_eq_true e) h
  rw [this]
  rfl
end
