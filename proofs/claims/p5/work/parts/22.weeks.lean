/-! calls: surcharged, bid, offer, ask, came, comes, due -/
section
variable {L : Nat} {xs : Nat → Int} {d : Nat} {S : AH}
theorem o_surcharged (H : Inv S) (p : Int) : Ok L xs 59 307 [vi p] S := by
  obtain ⟨hR, e1, e2, hA, hB, hC⟩ := H.gp
  have h16 := hR.2.1
  refine Ok.same (r := if 0 ≤ p ∧ p < S.2 72 5 then S.2 77 p.toNat else -1) H ?_ ?_
  · rw [q_59]
    simp only [q_133, x_isHand, bR, bi_0, e2]
    by_cases hc : 0 ≤ p ∧ p < S.2 72 5
    · rw [if_neg (fun z => z hc), if_neg (fun z => z hc), if_pos (by first | decide | omega), if_pos hc, hC p.toNat (by first | decide | omega)]
      rfl
    · rw [if_pos hc, if_neg hc]
  · rw [q_307]
    simp only [m_isHand hR, bR, bi_0]
    by_cases hc : 0 ≤ p ∧ p < S.2 72 5
    · rw [if_neg (fun z => z hc), if_pos (by first | decide | omega), if_pos hc]
    · rw [if_pos hc, if_neg hc]
end
