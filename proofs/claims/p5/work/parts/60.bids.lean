/-! tender: the bids in their order -/
noncomputable def low (r : Nat → Int) (t : Nat → Bool) : Nat → Nat → Int → Int
  | 0, _, best => best
  | m + 1, b, best => low r t m (b + 1) (if t b = false ∧ (best = -1 ∨ r b < r best.toNat) then (b : Int) else best)
noncomputable def lwB (r : Nat → Int) (t : Nat → Bool) (n : Nat) : Int := low r t n 0 (-1)
theorem low_bd {r : Nat → Int} {t : Nat → Bool} : ∀ (m b : Nat) (best : Int), (best = -1 ∨ (0 ≤ best ∧ best < b ∧ t best.toNat = false)) → (low r t m b best = -1 ∨ (0 ≤ low r t m b best ∧ low r t m b best < ((b + m : Nat) : Int) ∧ t (low r t m b best).toNat = false)) := by
  intro m
  induction m with
  | zero =>
    intro b best h
    rcases h with h | ⟨h1, h2, h3⟩
    · exact Or.inl h
    · exact Or.inr ⟨h1, by show best < ((b + 0 : Nat) : Int); omega, h3⟩
  | succ m ih =>
    intro b best h
    have hx := ih (b + 1) (if t b = false ∧ (best = -1 ∨ r b < r best.toNat) then (b : Int) else best) (by
      by_cases q : t b = false ∧ (best = -1 ∨ r b < r best.toNat)
      · rw [if_pos q]
        exact Or.inr ⟨by omega, by omega, by rw [Int.toNat_natCast]; exact q.1⟩
      · rw [if_neg q]
        rcases h with h | ⟨h1, h2, h3⟩
        · exact Or.inl h
        · exact Or.inr ⟨h1, by omega, h3⟩)
    have e : b + 1 + m = b + (m + 1) := by omega
    rw [e] at hx
    exact hx
theorem lwB_bd {r : Nat → Int} {t : Nat → Bool} {n : Nat} : lwB r t n = -1 ∨ (0 ≤ lwB r t n ∧ lwB r t n < n ∧ t (lwB r t n).toNat = false) := by
  have := low_bd (r := r) (t := t) n 0 (-1) (Or.inl rfl)
  rw [Nat.zero_add] at this
  exact this
section
variable {L : Nat} {xs : Nat → Int} {d : Nat} {S T U : AH}
theorem x_low {n set : Nat} {t : Nat → Bool} (hn : n ≤ 12) (hs : set < 65536) (h2 : S.2 63 2 = n) (ht : ∀ b, b < n → set.testBit b = t b) : ev (WK L xs) (d + 1) 112 [vr 63, vi (set : Int)] S = some (lwB (S.2 65) t n, S) := by
  have key : ∀ (m b : Nat) (best : Int), b + m = n → (best = -1 ∨ (0 ≤ best ∧ best < b)) → LQ (WK L xs) (ev (WK L xs) d) 112 4 [some (vr 63), some (vi (set : Int)), some (vi best), some (vi (b : Int))] [] S = some (low (S.2 65) t m b best, S) := by
    intro m
    induction m with
    | zero =>
      intro b best hb hbe
      rw [q_112_4, h2, if_neg (by first | decide | omega)]
      rfl
    | succ m ih =>
      intro b best hb hbe
      have e1 : (b : Int) + 1 = ((b + 1 : Nat) : Int) := by omega
      have i1 := ih (b + 1) b (by first | decide | omega) (by first | decide | omega)
      have i2 := ih (b + 1) best (by first | decide | omega) (by first | decide | omega)
      rw [q_112_4, h2, if_pos (by first | decide | omega), bit16 hs (by first | decide | omega), ht b (by first | decide | omega), w32e (by first | decide | omega) (by first | decide | omega), e1, i1, i2, Int.toNat_natCast]
      simp only [low]
      cases hb2 : t b with
      | true =>
        rw [if_neg (by decide), if_neg (fun z => by cases z.1)]
      | false =>
        rw [if_pos (by rfl)]
        by_cases h3 : best = -1
        · rw [if_pos h3, if_pos (show false = false ∧ (best = -1 ∨ S.2 65 b < S.2 65 best.toNat) from ⟨rfl, Or.inl h3⟩)]
        · rw [if_neg h3, if_pos (show 0 ≤ (b : Int) ∧ (b : Int) < 12 by omega), if_pos (show 0 ≤ best ∧ best < 12 by omega)]
          by_cases h4 : S.2 65 b < S.2 65 best.toNat
          · rw [if_pos h4, if_pos (show false = false ∧ (best = -1 ∨ S.2 65 b < S.2 65 best.toNat) from ⟨rfl, Or.inr h4⟩)]
          · rw [if_neg h4, if_neg (fun z => by rcases z.2 with z | z <;> contradiction)]
  rw [q_112]
  exact key n 0 (-1) (by first | decide | omega) (Or.inl rfl)
theorem m_low {n : Nat} {t : Nat → Bool} (hn : n ≤ 12) (h2 : S.2 72 92 = n) (ht : ∀ b, b < n → S.2 141 b = if t b then 1 else 0) : ev (WK L xs) (d + 1) 294 [vr 72] S = some (lwB (S.2 140) t n, S) := by
  have key : ∀ (m b : Nat) (best : Int), b + m = n → (best = -1 ∨ (0 ≤ best ∧ best < b)) → LQ (WK L xs) (ev (WK L xs) d) 294 4 [some (vr 72), some (vi best), some (vi (b : Int))] [] S = some (low (S.2 140) t m b best, S) := by
    intro m
    induction m with
    | zero =>
      intro b best hb hbe
      rw [q_294_4, h2, if_neg (by first | decide | omega)]
      rfl
    | succ m ih =>
      intro b best hb hbe
      have e1 : (b : Int) + 1 = ((b + 1 : Nat) : Int) := by omega
      have i1 := ih (b + 1) b (by first | decide | omega) (by first | decide | omega)
      have i2 := ih (b + 1) best (by first | decide | omega) (by first | decide | omega)
      have hq : 0 ≤ (b : Int) ∧ (b : Int) < 12 := by omega
      rw [q_294_4, h2, if_pos (by first | decide | omega), if_pos hq, Int.toNat_natCast, ht b (by first | decide | omega), w32e (by first | decide | omega) (by first | decide | omega), e1, i1, i2]
      simp only [low]
      cases hb2 : t b with
      | true =>
        rw [if_neg (by decide), if_neg (fun z => by cases z.1)]
      | false =>
        rw [if_pos (by rfl)]
        by_cases h3 : best = -1
        · rw [if_pos h3, if_pos (show false = false ∧ (best = -1 ∨ S.2 140 b < S.2 140 best.toNat) from ⟨rfl, Or.inl h3⟩)]
        · rw [if_neg h3, if_pos hq, if_pos (show 0 ≤ best ∧ best < 12 by omega)]
          by_cases h4 : S.2 140 b < S.2 140 best.toNat
          · rw [if_pos h4, if_pos (show false = false ∧ (best = -1 ∨ S.2 140 b < S.2 140 best.toNat) from ⟨rfl, Or.inr h4⟩)]
          · rw [if_neg h4, if_neg (fun z => by rcases z.2 with z | z <;> contradiction)]
  rw [q_294]
  exact key n 0 (-1) (by first | decide | omega) (Or.inl rfl)
end
