/-! the class's reader: its small steps -/
/-- where a number stands in a list, from i on -/
noncomputable def ixl (c : Int) : List Int → Int → Int
  | [], _ => -1
  | x :: r, i => if x = c then i else ixl c r (i + 1)
/-- the sign at a place: -1 behind the end -/
noncomputable def sgn (t : TB) (n p : Nat) : Int := if p < n then t p else -1
section
variable {L : Nat} {xs : Nat → Int} {d : Nat} {S S' T U W : AH} {t : TB} {n p : Nat}
theorem w8c {c : Int} (h : 0 ≤ c ∧ c ≤ 255) : (c < 128 → w8 c = c) ∧ (128 ≤ c → w8 c < 0) := by
  unfold w8 Int.bmod
  have : c % (256 : Nat) = c := Int.emod_eq_of_lt h.1 (by first | decide | omega)
  simp only [this]
  constructor
  · intro q
    rw [if_pos (by first | decide | omega)]
  · intro q
    rw [if_neg (by first | decide | omega)]
    omega
theorem x_idxL {b : Nat} {l : List Int} {c : Int} (hs : (shp (WK L xs) S b) = (0, l.length)) (hv : ∀ k, k < l.length → rdv (WK L xs) S b k = l.getD k 0) (hl : l.length ≤ 100) : ∀ (m i : Nat), i + m = l.length → LQ (WK L xs) (ev (WK L xs) d) 329 7 [some (vr b), none, none, some (vi (l.length : Int)), some (vi c), some (vi (i : Int))] [] S = some (ixl c (l.drop i) i, S) := by
  intro m
  induction m with
  | zero =>
    intro i h
    rw [q_329_7, if_neg (by first | decide | omega), List.drop_eq_nil_of_le (by first | decide | omega)]
    rfl
  | succ m ih =>
    intro i h
    have hi : i < l.length := by omega
    have e : l.drop i = l.getD i 0 :: l.drop (i + 1) := by
      rw [List.drop_eq_getElem_cons hi, List.getD_eq_getElem?_getD, List.getElem?_eq_getElem hi, Option.getD_some]
    rw [q_329_7, if_pos (by first | decide | omega), hs, show Nat.ble ((0, l.length) : Nat × Nat).1 1 = true from rfl, gdT, if_pos (show 0 ≤ (i : Int) ∧ (i : Int) < (((0, l.length) : Nat × Nat).2 : Nat) from by show 0 ≤ (i : Int) ∧ (i : Int) < (l.length : Int); omega), Int.toNat_natCast, hv i hi, e]
    show _ = some (if l.getD i 0 = c then (i : Int) else ixl c (l.drop (i + 1)) ((i : Int) + 1), S)
    by_cases q : l.getD i 0 = c
    · rw [if_pos q, if_pos q]
    · rw [if_neg q, if_neg q, w32e (by first | decide | omega) (by first | decide | omega), show (i : Int) + 1 = ((i + 1 : Nat) : Int) by omega]
      exact ih (i + 1) (by first | decide | omega)
theorem x_idx {s b : Nat} {l : List Int} {c : Int} (s1 : (shp (WK L xs) S s).1 = 23) (s2 : rdv (WK L xs) S s 0 = (b : Int)) (s3 : rdv (WK L xs) S s 1 = 0) (hs : (shp (WK L xs) S b) = (0, l.length)) (hv : ∀ k, k < l.length → rdv (WK L xs) S b k = l.getD k 0) (hl : 0 < l.length ∧ l.length ≤ 100) (hc : 0 ≤ c ∧ c ≤ 255) : ev (WK L xs) (d + 5) 323 [vr s, vi c] S = some (ixl (w8 c) l 0, S) := by
  have e1 : Nat.beq (shp (WK L xs) S s).1 23 = true := by rw [s1]; rfl
  have e2 : Nat.ble (shp (WK L xs) S b).1 6 = true := by rw [hs]; rfl
  have e3 : ((shp (WK L xs) S b).2 : Int) = (l.length : Int) := by rw [hs]
  have h321 : ∀ dd, ev (WK L xs) (dd + 2) 321 [vr s] S = some ((l.length : Int), S) := fun dd => by
    have hsh : ishr (l.length : Int) 0 = (l.length : Int) := by
      have := hl.2
      have h0 : ∀ k : Nat, k ≤ 100 → ishr (k : Int) 0 = (k : Int) := by decide
      exact h0 _ this
    rw [q_321, e1, gdT, s2, Int.toNat_natCast, e2, gdT, show (true && Nat.ble 1 8) = true from rfl, gdT, q_322, e1, gdT, s3, if_pos (by decide), bR, e3, hsh]
  have h325 : ∀ dd, ev (WK L xs) (dd + 1) 325 [vr s] S = some (1, S) := fun dd => by rw [q_325, e1, gdT, s3, if_pos rfl]
  have h329 := x_idxL (L := L) (xs := xs) (d := d + 1) (S := S) (c := w8 c) hs hv hl.2 l.length 0 (by first | decide | omega)
  rw [List.drop_zero] at h329
  have mm : (max 0 0 : Int) = 0 := by decide
  have mn : min (l.length : Int) (l.length : Int) = (l.length : Int) := Int.min_self _
  rw [q_323, e1, show (true && Nat.ble 0 8) = true from rfl, gdT, q_324, e1, show (true && Nat.ble 0 8) = true from rfl, gdT, h325, bR, if_neg (by decide), e1, gdT, show (true && Nat.ble 3 8) = true from rfl, gdT, h321, bR, s2, Int.toNat_natCast, q_327, q_328, if_neg (by first | decide | omega), if_neg (by first | decide | omega), bR, if_neg (by decide), e2, gdT, e3, mm, mn, if_pos (by first | decide | omega), q_329, show (0 : Int) = ((0 : Nat) : Int) from rfl, h329, bR, bR, bR]
theorem x_idx5 {c : Int} (hc : 0 ≤ c ∧ c ≤ 255) : ev (WK L xs) (d + 5) 323 [vr 5, vi c] S = some (ixl (w8 c) [109, 99, 98, 101, 100, 120] 0, S) := by
  refine x_idx (b := 10) (l := [109, 99, 98, 101, 100, 120]) rfl rfl rfl rfl (fun k hk => ?_) (by decide) hc
  have : k = 0 ∨ k = 1 ∨ k = 2 ∨ k = 3 ∨ k = 4 ∨ k = 5 := by simp only [List.length_cons, List.length_nil] at hk; omega
  rcases this with rfl | rfl | rfl | rfl | rfl | rfl <;> rfl
theorem x_idx6 {c : Int} (hc : 0 ≤ c ∧ c ≤ 255) : ev (WK L xs) (d + 5) 323 [vr 6, vi c] S = some (ixl (w8 c) [60, 62, 61] 0, S) := by
  refine x_idx (b := 11) (l := [60, 62, 61]) rfl rfl rfl rfl (fun k hk => ?_) (by decide) hc
  have : k = 0 ∨ k = 1 ∨ k = 2 := by simp only [List.length_cons, List.length_nil] at hk; omega
  rcases this with rfl | rfl | rfl <;> rfl
theorem x_idx7 {c : Int} (hc : 0 ≤ c ∧ c ≤ 255) : ev (WK L xs) (d + 5) 323 [vr 7, vi c] S = some (ixl (w8 c) [42, 47, 37] 0, S) := by
  refine x_idx (b := 12) (l := [42, 47, 37]) rfl rfl rfl rfl (fun k hk => ?_) (by decide) hc
  have : k = 0 ∨ k = 1 ∨ k = 2 := by simp only [List.length_cons, List.length_nil] at hk; omega
  rcases this with rfl | rfl | rfl <;> rfl
theorem x_idx4 {c : Int} (hc : 0 ≤ c ∧ c ≤ 255) : ev (WK L xs) (d + 5) 323 [vr 4, vi c] S = some (ixl (w8 c) [97, 121, 104, 107, 114, 113, 108] 0, S) := by
  refine x_idx (b := 9) (l := [97, 121, 104, 107, 114, 113, 108]) rfl rfl rfl rfl (fun k hk => ?_) (by decide) hc
  have : k = 0 ∨ k = 1 ∨ k = 2 ∨ k = 3 ∨ k = 4 ∨ k = 5 ∨ k = 6 := by simp only [List.length_cons, List.length_nil] at hk; omega
  rcases this with rfl | rfl | rfl | rfl | rfl | rfl | rfl <;> rfl
theorem w16c {c : Int} (hc : 0 ≤ c ∧ c ≤ 255) : w16u c = c := by
  unfold w16u
  exact Int.emod_eq_of_lt hc.1 (by first | decide | omega)
/-- is the next sign one of these? -/
theorem x_next7 {c : Int} (h : S.2 22 6 = c) (hc : -1 ≤ c ∧ c ≤ 255) : ev (WK L xs) (d + 6) 139 [vr 22, vr 7] S = some (bi (isTm c = true), S) := by
  rw [q_139, h]
  by_cases q : c = -1
  · rw [if_pos q, bi_F (by rw [q]; decide)]
  · have h8 := w8c (c := c) (by first | decide | omega)
    rw [if_neg q, show (Nat.beq (shp (WK L xs) S 7).1 23 && Nat.ble 0 8) = true from rfl, gdT, w16c (by first | decide | omega), x_idx7 (by first | decide | omega), bR]
    unfold bi isTm
    simp only [ixl, decide_eq_true_eq]
    ((repeat' split) <;> first | rfl | (exfalso; omega))
theorem x_next6 {c : Int} (h : S.2 22 6 = c) (hc : -1 ≤ c ∧ c ≤ 255) : ev (WK L xs) (d + 6) 139 [vr 22, vr 6] S = some (bi (isSg c = true), S) := by
  rw [q_139, h]
  by_cases q : c = -1
  · rw [if_pos q, bi_F (by rw [q]; decide)]
  · have h8 := w8c (c := c) (by first | decide | omega)
    rw [if_neg q, show (Nat.beq (shp (WK L xs) S 6).1 23 && Nat.ble 0 8) = true from rfl, gdT, w16c (by first | decide | omega), x_idx6 (by first | decide | omega), bR]
    unfold bi isSg
    simp only [ixl, decide_eq_true_eq]
    ((repeat' split) <;> first | rfl | (exfalso; omega))
theorem x_next5 {c : Int} (h : S.2 22 6 = c) (hc : -1 ≤ c ∧ c ≤ 255) : ev (WK L xs) (d + 6) 139 [vr 22, vr 5] S = some (bi (isLw c = true), S) := by
  rw [q_139, h]
  by_cases q : c = -1
  · rw [if_pos q, bi_F (by rw [q]; decide)]
  · have h8 := w8c (c := c) (by first | decide | omega)
    rw [if_neg q, show (Nat.beq (shp (WK L xs) S 5).1 23 && Nat.ble 0 8) = true from rfl, gdT, w16c (by first | decide | omega), x_idx5 (by first | decide | omega), bR]
    unfold bi isLw
    simp only [ixl, decide_eq_true_eq]
    ((repeat' split) <;> first | rfl | (exfalso; omega))
theorem x_dig {c : Int} (h : S.2 22 6 = c) : ev (WK L xs) (d + 1) 144 [vr 22] S = some (bi (dgt c = true), S) := by
  rw [q_144, h]
  unfold bi dgt
  simp only [decide_eq_true_eq]
  ((repeat' split) <;> first | rfl | (exfalso; omega))
theorem x_rule (c : Int) : ev (WK L xs) (d + 1) 140 [vi c] S = some (bi (isWd c = true), S) := by
  rw [q_140]
  unfold bi isWd
  simp only [decide_eq_true_eq]
  ((repeat' split) <;> first | rfl | (exfalso; omega))
end
