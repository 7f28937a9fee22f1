/-! tender: what is taken -/
noncomputable def tk (s r : Nat → Int) (n : Nat) : Nat → Int → (Nat → Bool) → List (Nat × Int)
  | 0, _, _ => []
  | m + 1, left, t => if 0 < left ∧ lwB r t n ≠ -1 then ((lwB r t n).toNat, min left (s (lwB r t n).toNat)) :: tk s r n m (left - min left (s (lwB r t n).toNat)) (fun k => t k || k == (lwB r t n).toNat) else []
/-- the sum of what is taken -/
noncomputable def tks (l : List (Nat × Int)) : Int := (l.map (·.2)).sum
theorem tk_len {s r : Nat → Int} {n : Nat} : ∀ (m : Nat) (left : Int) (t : Nat → Bool), (tk s r n m left t).length ≤ m := by
  intro m
  induction m with
  | zero => intro left t; exact Nat.le_refl _
  | succ m ih =>
    intro left t
    simp only [tk]
    split
    · rw [List.length_cons]
      have := ih (left - min left (s (lwB r t n).toNat)) (fun k => t k || k == (lwB r t n).toNat)
      omega
    · exact Nat.zero_le _
theorem tks_bd {s r : Nat → Int} {n : Nat} (hs : ∀ b, b < n → 1 ≤ s b) : ∀ (m : Nat) (left : Int) (t : Nat → Bool), 0 ≤ left → 0 ≤ tks (tk s r n m left t) ∧ tks (tk s r n m left t) ≤ left := by
  intro m
  induction m with
  | zero =>
    intro left t h
    show (0 : Int) ≤ 0 ∧ (0 : Int) ≤ left
    omega
  | succ m ih =>
    intro left t h
    simp only [tk]
    by_cases q : 0 < left ∧ lwB r t n ≠ -1
    · rw [if_pos q]
      have hb := lwB_bd (r := r) (t := t) (n := n)
      have h1 := hs (lwB r t n).toNat (by first | decide | omega)
      have hi := ih (left - min left (s (lwB r t n).toNat)) (fun k => t k || k == (lwB r t n).toNat) (by first | decide | omega)
      unfold tks at hi ⊢
      rw [List.map_cons, List.sum_cons]
      show 0 ≤ min left (s (lwB r t n).toNat) + _ ∧ min left (s (lwB r t n).toNat) + _ ≤ left
      omega
    · rw [if_neg q]
      show (0 : Int) ≤ 0 ∧ (0 : Int) ≤ left
      omega
/-- each of the list is a bid, and a sum that is due to it -/
theorem tk_mem {s r : Nat → Int} {n : Nat} (hs : ∀ b, b < n → 1 ≤ s b) : ∀ (m : Nat) (left : Int) (t : Nat → Bool), ∀ q ∈ tk s r n m left t, q.1 < n ∧ 1 ≤ q.2 ∧ q.2 ≤ s q.1 := by
  intro m
  induction m with
  | zero => intro left t q hq; cases hq
  | succ m ih =>
    intro left t q hq
    simp only [tk] at hq
    by_cases z : 0 < left ∧ lwB r t n ≠ -1
    · rw [if_pos z] at hq
      have hb := lwB_bd (r := r) (t := t) (n := n)
      have h1 := hs (lwB r t n).toNat (by first | decide | omega)
      rcases List.mem_cons.mp hq with e | hq
      · rw [e]
        show (lwB r t n).toNat < n ∧ 1 ≤ min left (s (lwB r t n).toNat) ∧ min left (s (lwB r t n).toNat) ≤ s (lwB r t n).toNat
        omega
      · exact ih _ _ q hq
    · rw [if_neg z] at hq
      cases hq
