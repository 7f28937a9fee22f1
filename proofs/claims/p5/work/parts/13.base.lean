/-! MATHEMATICS: words for answers -/
theorem bR {r : Int} {S : AH} {k : Int → AH → Rs} : bindR (some (r, S)) k = k r S := rfl
theorem gdT {r : Rs} : gd true r = r := rfl
theorem wr_1 {S : AH} {a k : Nat} {v : Int} : (wr S a k v).1 = S.1 := rfl
theorem wr_2 {S : AH} {a k b j : Nat} {v : Int} : (wr S a k v).2 b j = if b = a ∧ j = k then v else S.2 b j := rfl
theorem wr_c {S : AH} {a k b : Nat} {v : Int} (h : b ≠ a) : (wr S a k v).2 b = S.2 b := by
  funext j
  rw [wr_2, if_neg (fun q => h q.1)]
theorem wr_f {S : AH} {a k j : Nat} {v : Int} : (wr S a k v).2 a j = if j = k then v else S.2 a j := by
  rw [wr_2]
  by_cases h : j = k
  · rw [if_pos ⟨rfl, h⟩, if_pos h]
  · rw [if_neg (fun q => h q.2), if_neg h]
theorem wr_g {S : AH} {a k : Nat} {v : Int} : (wr S a k v).2 a = fun j => if j = k then v else S.2 a j := funext fun _ => wr_f
theorem lc_lt {x y : Int} : lcmp x y < 0 ↔ x < y := by
  unfold lcmp
  repeat' split
  all_goals omega
theorem lc_gt {x y : Int} : 0 < lcmp x y ↔ y < x := by
  unfold lcmp
  repeat' split
  all_goals omega
theorem lc_eq {x y : Int} : lcmp x y = 0 ↔ x = y := by
  unfold lcmp
  repeat' split
  all_goals omega
/-- 1 for what holds -/
noncomputable def bi (P : Prop) [Decidable P] : Int := if P then 1 else 0
theorem bi_0 {P : Prop} [Decidable P] : bi P = 0 ↔ ¬ P := by
  unfold bi
  by_cases h : P <;> simp [h]
theorem bi_1 {P : Prop} [Decidable P] : bi P = 1 ↔ P := by
  unfold bi
  by_cases h : P <;> simp [h]
theorem bi_01 {P : Prop} [Decidable P] : (bi P = 0 ∨ bi P = 1) = True := by
  unfold bi
  by_cases h : P <;> simp [h]
theorem bi_iff {P R : Prop} [Decidable P] [Decidable R] (h : P ↔ R) : bi P = bi R := by
  unfold bi
  by_cases q : P
  · rw [if_pos q, if_pos (h.mp q)]
  · rw [if_neg q, if_neg (fun z => q (h.mpr z))]
theorem bi_T {P : Prop} [Decidable P] (h : P) : bi P = 1 := bi_1.mpr h
theorem bi_F {P : Prop} [Decidable P] (h : ¬ P) : bi P = 0 := bi_0.mpr h
theorem w32e {x : Int} (h1 : -2147483648 ≤ x) (h2 : x ≤ 2147483647) : w32 x = x := w32_id ⟨h1, h2⟩
theorem w64e {x : Int} (h1 : -9223372036854775808 ≤ x) (h2 : x ≤ 9223372036854775807) : w64 x = x := w64_id ⟨h1, h2⟩
theorem wi {x : Int} (h1 : 0 ≤ x) (h2 : x < 2147483647) : w32 (w32 (x + 1) - 1) = x := by
  rw [w32e (x := x + 1) (by first | decide | omega) (by first | decide | omega), w32e (by first | decide | omega) (by first | decide | omega)]
  omega
/-- w64 forgets what is inside -/
theorem w64_al (a b : Int) : w64 (w64 a + b) = w64 (a + b) := by unfold w64; exact Int.bmod_add_bmod
theorem w64_ar (a b : Int) : w64 (a + w64 b) = w64 (a + b) := by unfold w64; exact Int.add_bmod_bmod
theorem w64_sl (a b : Int) : w64 (w64 a - b) = w64 (a - b) := by unfold w64; exact Int.bmod_sub_bmod
theorem w64_sr (a b : Int) : w64 (a - w64 b) = w64 (a - b) := by unfold w64; exact Int.sub_bmod_bmod
theorem w64_i (a : Int) : w64 (w64 a) = w64 a := by unfold w64; exact Int.bmod_bmod
/-- sums -/
noncomputable def sm (f : Nat → Int) : Nat → Int
  | 0 => 0
  | n + 1 => sm f n + f n
theorem sm_congr {f g : Nat → Int} : ∀ {n : Nat}, (∀ k, k < n → f k = g k) → sm f n = sm g n := by
  intro n
  induction n with
  | zero => intro _; rfl
  | succ n ih => intro h; unfold sm; rw [ih (fun k hk => h k (by first | decide | omega)), h n (by first | decide | omega)]
theorem sm_bd {f : Nat → Int} {M : Int} : ∀ {n : Nat}, (∀ k, k < n → 0 ≤ f k ∧ f k ≤ M) → 0 ≤ sm f n ∧ sm f n ≤ n * M := by
  intro n
  induction n with
  | zero => intro _; simp [sm]
  | succ n ih =>
    intro h
    have h1 := ih (fun k hk => h k (by first | decide | omega))
    have h2 := h n (by first | decide | omega)
    have h3 : ((n + 1 : Nat) : Int) * M = (n : Int) * M + M := by rw [Int.natCast_succ, Int.add_mul, Int.one_mul]
    unfold sm
    rw [h3]
    omega
theorem sm_add {f g : Nat → Int} (n : Nat) : sm (fun k => f k + g k) n = sm f n + sm g n := by
  induction n with
  | zero => rfl
  | succ n ih => simp only [sm, ih]; omega
theorem sm_zero (n : Nat) : sm (fun _ => 0) n = 0 := by
  induction n with
  | zero => rfl
  | succ n ih => simp only [sm, ih]; omega
/-- one place anew -/
theorem sm_one {f g : Nat → Int} {c : Nat} : ∀ {n : Nat}, c < n → (∀ k, k < n → k ≠ c → g k = f k) → sm g n = sm f n - f c + g c := by
  intro n
  induction n with
  | zero => intro h; omega
  | succ n ih =>
    intro h hk
    unfold sm
    by_cases e : c = n
    · subst e
      rw [sm_congr (fun k q => hk k (by first | decide | omega) (by first | decide | omega))]
      omega
    · rw [ih (by first | decide | omega) (fun k q => hk k (by first | decide | omega)), hk n (by first | decide | omega) (fun q => e q.symm)]
      omega
section
variable {L : Nat} {xs : Nat → Int} {d : Nat} {S : AH}
theorem rdvD {a k : Nat} (h : 151 ≤ a) : rdv (WK L xs) S a k = S.2 a k := by
  have e : (WK L xs).2.2 a k = none := by
    rw [WK_fin (by first | decide | omega), show fnl.getD a [] = [] by rw [List.getD_eq_getElem?_getD, List.getElem?_eq_none (by rw [fnl_len2]; exact h)]; rfl]
    rfl
  exact rdv_none e
theorem shpD {a : Nat} (h : 151 ≤ a) : shp (WK L xs) S a = S.1.2.2 a := shp_dyn h
theorem m_lies (a b c : Int) : ev (WK L xs) (d + 1) 195 [vl a, vl b, vl c] S = some (bi (b ≤ a ∧ a ≤ c), S) := by
  rw [q_195]
  simp only [lc_lt, lc_gt]
  by_cases h1 : a < b
  · rw [if_pos h1, bi_F (by first | decide | omega)]
  · rw [if_neg h1]
    by_cases h2 : c < a
    · rw [if_pos h2, bi_F (by first | decide | omega)]
    · rw [if_neg h2, bi_T (by first | decide | omega)]
theorem m_isSum (v : Int) : ev (WK L xs) (d + 2) 238 [vi v] S = some (bi (0 ≤ v ∧ v ≤ 1000000000), S) := by
  rw [q_238]
  simp only [m_lies, bR, bi_01, if_true]
theorem m_year : ev (WK L xs) (d + 1) 243 [vr 72] S = some (idiv (S.2 72 2) 360, S) := by rw [q_243]
theorem m_week : ev (WK L xs) (d + 1) 279 [vr 72] S = some (idiv (Int.tmod (S.2 72 2) 360) 7, S) := by rw [q_279]
end
