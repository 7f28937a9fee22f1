/-! tender: numbers on both sides in one word -/
noncomputable def nmb (h : Nat → Nat → Int) (k : Nat) (day : Int) : Int := nmL h (skd h day) day (nlet k) (ndef k) (h 72 36).toNat
theorem nmb_fr {h h' : Nat → Nat → Int} (k : Nat) (day : Int) (e0 : h' 78 = h 78) (e1 : h' 79 = h 79) (e2 : h' 80 = h 80) (e3 : h' 81 = h 81) (e4 : h' 94 = h 94) (e5 : h' 95 = h 95) (e6 : h' 72 36 = h 72 36) : nmb h' k day = nmb h k day := by
  unfold nmb
  rw [skd_fr day e0 e1 e2 e3 e4 e5 e6, e6, nmL_fr e0 e1 e2 e4 e5]
theorem nlet_def {k : Nat} (hk : k < 5) : (if nlet k = 109 then (10 : Int) else if nlet k = 100 then 30 else 0) = ndef k := by
  have : k = 0 ∨ k = 1 ∨ k = 2 ∨ k = 3 ∨ k = 4 := by omega
  rcases this with rfl | rfl | rfl | rfl | rfl <;> decide
section
variable {L : Nat} {xs : Nat → Int} {d : Nat} {S T U : AH}
theorem x_nmb (gl : GL S) {k : Nat} (hk : k < 5) (day : Int) : ∃ T, ev (WK L xs) (d + 5) 108 [vr 31, vi (k : Int), vi day] S = some (nmb S.2 k day, T) ∧ T.1 = S.1 ∧ ∀ a, a ≠ 35 → T.2 a = S.2 a := by
  obtain ⟨T, t1, t2⟩ := x_numberOn (L := L) (xs := xs) (d := d) gl hk day
  exact ⟨T, t1, t2.1, t2.2.1⟩
theorem m_nmb (gl : GL S) {k : Nat} (hk : k < 5) (day : Int) : ∃ U, ev (WK L xs) (d + 4) 236 [vr 72, vi (nlet k), vi day] S = some (nmb S.2 k day, U) ∧ U.1 = S.1 ∧ ∀ a, a ≠ 96 → U.2 a = S.2 a := by
  obtain ⟨U, u1, u2⟩ := m_numberOf (L := L) (xs := xs) (d := d) gl (nlet k) day
  rw [nlet_def hk] at u1
  exact ⟨U, u1, u2.1, u2.2.1⟩
theorem Fr.eq (h1 : T.1 = S.1) (h : ∀ a, 151 ≤ a → T.2 a = S.2 a) : Fr S T := ⟨by rw [h1]; exact Nat.le_refl _, fun a q _ => ⟨by rw [h1], h a q⟩⟩
theorem Inv.s35 (H : Inv S) (h1 : T.1 = S.1) (h : ∀ a, a ≠ 35 → T.2 a = S.2 a) : Inv T := H.scr (Fr.eq h1 (fun a q => h a (by first | decide | omega))) (fun a k _ q2 => by rw [h a (fun z => q2 (by unfold _root_.Jvm.Pilot.@@N@@.scr; omega))])
theorem Inv.s96 (H : Inv S) (h1 : T.1 = S.1) (h : ∀ a, a ≠ 96 → T.2 a = S.2 a) : Inv T := H.scr (Fr.eq h1 (fun a q => h a (by first | decide | omega))) (fun a k _ q2 => by rw [h a (fun z => q2 (by unfold _root_.Jvm.Pilot.@@N@@.scr; omega))])
end
/-! how many are taken -/
noncomputable def cn (t : Nat → Bool) : Nat → Nat
  | 0 => 0
  | n + 1 => cn t n + (if t n = true then 1 else 0)
theorem cn_le (t : Nat → Bool) : ∀ n, cn t n ≤ n := by
  intro n
  induction n with
  | zero => exact Nat.le_refl _
  | succ n ih => simp only [cn]; split <;> omega
theorem cn_full {t : Nat → Bool} : ∀ n, cn t n = n → ∀ b, b < n → t b = true := by
  intro n
  induction n with
  | zero => intro _ b hb; omega
  | succ n ih =>
    intro h b hb
    simp only [cn] at h
    have := cn_le t n
    by_cases q : t n = true
    · rw [if_pos q] at h
      by_cases e : b = n
      · rw [e]; exact q
      · exact ih (by first | decide | omega) b (by first | decide | omega)
    · rw [if_neg q] at h; omega
theorem cn_same {t u : Nat → Bool} : ∀ n, (∀ b, b < n → t b = u b) → cn t n = cn u n := by
  intro n
  induction n with
  | zero => intro _; rfl
  | succ n ih => intro h; simp only [cn]; rw [ih (fun b hb => h b (by first | decide | omega)), h n (by first | decide | omega)]
theorem cn_set {t : Nat → Bool} {b : Nat} : ∀ n, b < n → t b = false → cn (fun k => t k || k == b) n = cn t n + 1 := by
  intro n
  induction n with
  | zero => intro h; omega
  | succ n ih =>
    intro h hf
    simp only [cn]
    by_cases e : b = n
    · subst e
      have e1 := cn_same (t := fun k => t k || k == b) (u := t) b (fun k hk => by simp; omega)
      rw [e1]
      simp [hf]
    · rw [ih (by first | decide | omega) hf]
      have : (n == b) = false := by simp; omega
      simp only [this, Bool.or_false]
      omega
theorem cn_none (n : Nat) : cn (fun _ => false) n = 0 := by
  induction n with
  | zero => rfl
  | succ n ih => simp only [cn, ih]; rfl
theorem low_cong {r r' : Nat → Int} {t : Nat → Bool} : ∀ (m b : Nat) (best : Int), (best = -1 ∨ (0 ≤ best ∧ best < b)) → (∀ k, k < b + m → r k = r' k) → low r t m b best = low r' t m b best := by
  intro m
  induction m with
  | zero => intro b best _ _; rfl
  | succ m ih =>
    intro b best h hr
    simp only [low]
    rw [hr b (by first | decide | omega)]
    have e : (t b = false ∧ (best = -1 ∨ r' b < r best.toNat)) ↔ (t b = false ∧ (best = -1 ∨ r' b < r' best.toNat)) := by
      rcases h with h | h
      · subst h; simp
      · rw [hr best.toNat (by first | decide | omega)]
    simp only [e]
    exact ih (b + 1) _ (by split <;> omega) (fun k hk => hr k (by first | decide | omega))
theorem lwB_cong {r r' : Nat → Int} {t : Nat → Bool} {n : Nat} (hr : ∀ k, k < n → r k = r' k) : lwB r t n = lwB r' t n := low_cong n 0 (-1) (Or.inl rfl) (fun k hk => hr k (by first | decide | omega))
theorem tk_cong {s s' r r' : Nat → Int} {n : Nat} (hs : ∀ k, k < n → s k = s' k) (hr : ∀ k, k < n → r k = r' k) : ∀ (m : Nat) (left : Int) (t : Nat → Bool), tk s r n m left t = tk s' r' n m left t := by
  intro m
  induction m with
  | zero => intro left t; rfl
  | succ m ih =>
    intro left t
    simp only [tk]
    rw [lwB_cong hr]
    have hb := lwB_bd (r := r') (t := t) (n := n)
    by_cases q : 0 < left ∧ lwB r' t n ≠ -1
    · rw [if_pos q, if_pos q, hs _ (by first | decide | omega), ih]
    · rw [if_neg q, if_neg q]
theorem tks_cons (q : Nat × Int) (l : List (Nat × Int)) : tks (q :: l) = q.2 + tks l := by
  unfold tks
  rw [List.map_cons, List.sum_cons]
theorem tks_nil : tks [] = 0 := rfl
