section
-- 93.xbase
/-! the class's reader: its small steps -/
/-- where a number stands in a list, from i on -/
noncomputable def ixl (c : Int) : List Int → Int → Int
  | [], _ => -1
  | x :: r, i => if x = c then i else ixl c r (i + 1)
/-- the sign at a place: -1 behind the end -/
noncomputable def sgn (t : TB) (n p : Nat) : Int := if p < n then t p else -1
section
variable {L : Nat} {xs : Nat → Int} {d : Nat} {S S' T U W : AH} {t : TB} {n p : Nat}
theorem w8c {c : Int} (h : 0 ≤ c ∧ c ≤ 255) : (c < 128 → w8 c = c) ∧ (128 ≤ c → w8 c < 0) := by
  unfold w8 Int.bmod
  have : c % (256 : Nat) = c := Int.emod_eq_of_lt h.1 (by first | decide | omega)
  simp only [this]
  constructor
  · intro q
    rw [if_pos (by first | decide | omega)]
  · intro q
    rw [if_neg (by first | decide | omega)]
    omega
theorem x_idxL {b : Nat} {l : List Int} {c : Int} (hs : (shp (WK L xs) S b) = (0, l.length)) (hv : ∀ k, k < l.length → rdv (WK L xs) S b k = l.getD k 0) (hl : l.length ≤ 100) : ∀ (m i : Nat), i + m = l.length → LQ (WK L xs) (ev (WK L xs) d) 329 7 [some (vr b), none, none, some (vi (l.length : Int)), some (vi c), some (vi (i : Int))] [] S = some (ixl c (l.drop i) i, S) := by
  intro m
  induction m with
  | zero =>
    intro i h
    rw [q_329_7, if_neg (by first | decide | omega), List.drop_eq_nil_of_le (by first | decide | omega)]
    rfl
  | succ m ih =>
    intro i h
    have hi : i < l.length := by omega
    have e : l.drop i = l.getD i 0 :: l.drop (i + 1) := by
      rw [List.drop_eq_getElem_cons hi, List.getD_eq_getElem?_getD, List.getElem?_eq_getElem hi, Option.getD_some]
    rw [q_329_7, if_pos (by first | decide | omega), hs, show Nat.ble ((0, l.length) : Nat × Nat).1 1 = true from rfl, gdT, if_pos (show 0 ≤ (i : Int) ∧ (i : Int) < (((0, l.length) : Nat × Nat).2 : Nat) from by show 0 ≤ (i : Int) ∧ (i : Int) < (l.length : Int); omega), Int.toNat_natCast, hv i hi, e]
    show _ = some (if l.getD i 0 = c then (i : Int) else ixl c (l.drop (i + 1)) ((i : Int) + 1), S)
    by_cases q : l.getD i 0 = c
    · rw [if_pos q, if_pos q]
    · rw [if_neg q, if_neg q, w32e (by first | decide | omega) (by first | decide | omega), show (i : Int) + 1 = ((i + 1 : Nat) : Int) by omega]
      exact ih (i + 1) (by first | decide | omega)
theorem x_idx {s b : Nat} {l : List Int} {c : Int} (s1 : (shp (WK L xs) S s).1 = 23) (s2 : rdv (WK L xs) S s 0 = (b : Int)) (s3 : rdv (WK L xs) S s 1 = 0) (hs : (shp (WK L xs) S b) = (0, l.length)) (hv : ∀ k, k < l.length → rdv (WK L xs) S b k = l.getD k 0) (hl : 0 < l.length ∧ l.length ≤ 100) (hc : 0 ≤ c ∧ c ≤ 255) : ev (WK L xs) (d + 5) 323 [vr s, vi c] S = some (ixl (w8 c) l 0, S) := by
  have e1 : Nat.beq (shp (WK L xs) S s).1 23 = true := by rw [s1]; rfl
  have e2 : Nat.ble (shp (WK L xs) S b).1 6 = true := by rw [hs]; rfl
  have e3 : ((shp (WK L xs) S b).2 : Int) = (l.length : Int) := by rw [hs]
  have h321 : ∀ dd, ev (WK L xs) (dd + 2) 321 [vr s] S = some ((l.length : Int), S) := fun dd => by
    have hsh : ishr (l.length : Int) 0 = (l.length : Int) := by
      have := hl.2
      have h0 : ∀ k : Nat, k ≤ 100 → ishr (k : Int) 0 = (k : Int) := by decide
      exact h0 _ this
    rw [q_321, e1, gdT, s2, Int.toNat_natCast, e2, gdT, show (true && Nat.ble 1 8) = true from rfl, gdT, q_322, e1, gdT, s3, if_pos (by decide), bR, e3, hsh]
  have h325 : ∀ dd, ev (WK L xs) (dd + 1) 325 [vr s] S = some (1, S) := fun dd => by rw [q_325, e1, gdT, s3, if_pos rfl]
  have h329 := x_idxL (L := L) (xs := xs) (d := d + 1) (S := S) (c := w8 c) hs hv hl.2 l.length 0 (by first | decide | omega)
  rw [List.drop_zero] at h329
  have mm : (max 0 0 : Int) = 0 := by decide
  have mn : min (l.length : Int) (l.length : Int) = (l.length : Int) := Int.min_self _
  rw [q_323, e1, show (true && Nat.ble 0 8) = true from rfl, gdT, q_324, e1, show (true && Nat.ble 0 8) = true from rfl, gdT, h325, bR, if_neg (by decide), e1, gdT, show (true && Nat.ble 3 8) = true from rfl, gdT, h321, bR, s2, Int.toNat_natCast, q_327, q_328, if_neg (by first | decide | omega), if_neg (by first | decide | omega), bR, if_neg (by decide), e2, gdT, e3, mm, mn, if_pos (by first | decide | omega), q_329, show (0 : Int) = ((0 : Nat) : Int) from rfl, h329, bR, bR, bR]
theorem x_idx5 {c : Int} (hc : 0 ≤ c ∧ c ≤ 255) : ev (WK L xs) (d + 5) 323 [vr 5, vi c] S = some (ixl (w8 c) [109, 99, 98, 101, 100, 120] 0, S) := by
  refine x_idx (b := 10) (l := [109, 99, 98, 101, 100, 120]) rfl rfl rfl rfl (fun k hk => ?_) (by decide) hc
  have : k = 0 ∨ k = 1 ∨ k = 2 ∨ k = 3 ∨ k = 4 ∨ k = 5 := by simp only [List.length_cons, List.length_nil] at hk; omega
  rcases this with rfl | rfl | rfl | rfl | rfl | rfl <;> rfl
theorem x_idx6 {c : Int} (hc : 0 ≤ c ∧ c ≤ 255) : ev (WK L xs) (d + 5) 323 [vr 6, vi c] S = some (ixl (w8 c) [60, 62, 61] 0, S) := by
  refine x_idx (b := 11) (l := [60, 62, 61]) rfl rfl rfl rfl (fun k hk => ?_) (by decide) hc
  have : k = 0 ∨ k = 1 ∨ k = 2 := by simp only [List.length_cons, List.length_nil] at hk; omega
  rcases this with rfl | rfl | rfl <;> rfl
theorem x_idx7 {c : Int} (hc : 0 ≤ c ∧ c ≤ 255) : ev (WK L xs) (d + 5) 323 [vr 7, vi c] S = some (ixl (w8 c) [42, 47, 37] 0, S) := by
  refine x_idx (b := 12) (l := [42, 47, 37]) rfl rfl rfl rfl (fun k hk => ?_) (by decide) hc
  have : k = 0 ∨ k = 1 ∨ k = 2 := by simp only [List.length_cons, List.length_nil] at hk; omega
  rcases this with rfl | rfl | rfl <;> rfl
theorem x_idx4 {c : Int} (hc : 0 ≤ c ∧ c ≤ 255) : ev (WK L xs) (d + 5) 323 [vr 4, vi c] S = some (ixl (w8 c) [97, 121, 104, 107, 114, 113, 108] 0, S) := by
  refine x_idx (b := 9) (l := [97, 121, 104, 107, 114, 113, 108]) rfl rfl rfl rfl (fun k hk => ?_) (by decide) hc
  have : k = 0 ∨ k = 1 ∨ k = 2 ∨ k = 3 ∨ k = 4 ∨ k = 5 ∨ k = 6 := by simp only [List.length_cons, List.length_nil] at hk; omega
  rcases this with rfl | rfl | rfl | rfl | rfl | rfl | rfl <;> rfl
theorem w16c {c : Int} (hc : 0 ≤ c ∧ c ≤ 255) : w16u c = c := by
  unfold w16u
  exact Int.emod_eq_of_lt hc.1 (by first | decide | omega)
/-- is the next sign one of these? -/
theorem x_next7 {c : Int} (h : S.2 22 6 = c) (hc : -1 ≤ c ∧ c ≤ 255) : ev (WK L xs) (d + 6) 139 [vr 22, vr 7] S = some (bi (isTm c = true), S) := by
  rw [q_139, h]
  by_cases q : c = -1
  · rw [if_pos q, bi_F (by rw [q]; decide)]
  · have h8 := w8c (c := c) (by first | decide | omega)
    rw [if_neg q, show (Nat.beq (shp (WK L xs) S 7).1 23 && Nat.ble 0 8) = true from rfl, gdT, w16c (by first | decide | omega), x_idx7 (by first | decide | omega), bR]
    unfold bi isTm
    simp only [ixl, decide_eq_true_eq]
    ((repeat' split) <;> first | rfl | (exfalso; omega))
theorem x_next6 {c : Int} (h : S.2 22 6 = c) (hc : -1 ≤ c ∧ c ≤ 255) : ev (WK L xs) (d + 6) 139 [vr 22, vr 6] S = some (bi (isSg c = true), S) := by
  rw [q_139, h]
  by_cases q : c = -1
  · rw [if_pos q, bi_F (by rw [q]; decide)]
  · have h8 := w8c (c := c) (by first | decide | omega)
    rw [if_neg q, show (Nat.beq (shp (WK L xs) S 6).1 23 && Nat.ble 0 8) = true from rfl, gdT, w16c (by first | decide | omega), x_idx6 (by first | decide | omega), bR]
    unfold bi isSg
    simp only [ixl, decide_eq_true_eq]
    ((repeat' split) <;> first | rfl | (exfalso; omega))
theorem x_next5 {c : Int} (h : S.2 22 6 = c) (hc : -1 ≤ c ∧ c ≤ 255) : ev (WK L xs) (d + 6) 139 [vr 22, vr 5] S = some (bi (isLw c = true), S) := by
  rw [q_139, h]
  by_cases q : c = -1
  · rw [if_pos q, bi_F (by rw [q]; decide)]
  · have h8 := w8c (c := c) (by first | decide | omega)
    rw [if_neg q, show (Nat.beq (shp (WK L xs) S 5).1 23 && Nat.ble 0 8) = true from rfl, gdT, w16c (by first | decide | omega), x_idx5 (by first | decide | omega), bR]
    unfold bi isLw
    simp only [ixl, decide_eq_true_eq]
    ((repeat' split) <;> first | rfl | (exfalso; omega))
theorem x_dig {c : Int} (h : S.2 22 6 = c) : ev (WK L xs) (d + 1) 144 [vr 22] S = some (bi (dgt c = true), S) := by
  rw [q_144, h]
  unfold bi dgt
  simp only [decide_eq_true_eq]
  ((repeat' split) <;> first | rfl | (exfalso; omega))
theorem x_rule (c : Int) : ev (WK L xs) (d + 1) 140 [vi c] S = some (bi (isWd c = true), S) := by
  rw [q_140]
  unfold bi isWd
  simp only [decide_eq_true_eq]
  ((repeat' split) <;> first | rfl | (exfalso; omega))
end
end
section
-- 94.xnum
/-! the class's reader: its state -/
noncomputable def FA (S : AH) (le : Int → Int) (ud : Int → Bool) : Prop := (S.2 26 0 = le 97 ∧ S.2 26 1 = le 121 ∧ S.2 26 2 = le 104 ∧ S.2 26 3 = le 107 ∧ S.2 26 4 = le 114 ∧ S.2 26 5 = le 113 ∧ S.2 26 6 = le 108) ∧ ∀ N : Int, 0 ≤ N → N ≤ 39 → (lcmp (land (lushr (S.2 22 11) N) 1) 0 = 0 ↔ ud N = false)
noncomputable def RB (L : Nat) (xs : Nat → Int) (t : TB) (n : Nat) (S : AH) : Prop := n ≤ 200 ∧ (∀ k, 0 ≤ t k ∧ t k ≤ 255) ∧ S.2 22 5 = n ∧ ∃ b len : Nat, S.2 22 3 = b ∧ b ≠ 22 ∧ b ≠ 23 ∧ b ≠ 24 ∧ shp (WK L xs) S b = (0, len) ∧ n ≤ len ∧ ∀ k, k < n → iand (rdv (WK L xs) S b k) 255 = t k
noncomputable def Cf (S S' : AH) : Prop := S'.1 = S.1 ∧ (∀ a, a ≠ 22 → S'.2 a = S.2 a) ∧ ∀ k, ¬ (4 ≤ k ∧ k ≤ 9 ∧ k ≠ 5) → S'.2 22 k = S.2 22 k
noncomputable def GS (L : Nat) (xs : Nat → Int) (t : TB) (n : Nat) (le : Int → Int) (ud : Int → Bool) (S : AH) (p : Nat) : Prop := RB L xs t n S ∧ FA S le ud ∧ S.2 22 4 = p ∧ S.2 22 6 = sgn t n p ∧ S.2 22 7 = 0 ∧ S.2 22 9 = 0 ∧ p ≤ n
noncomputable def FS (S T : AH) (e : Int) : Prop := Cf S T ∧ T.2 22 6 = -1 ∧ ∃ (f : Int) (q : Nat), T.2 22 7 = f ∧ T.2 22 8 = q ∧ 1 ≤ f ∧ f ≤ 6 ∧ q ≤ 300 ∧ e = flt f q
noncomputable def Rf (S T : AH) : Prop := Cf S T ∧ T.2 22 6 = -1 ∧ T.2 22 9 = 1 ∧ T.2 22 7 = 0
/-- nothing more is read -/
noncomputable def Dead (S : AH) : Prop := S.2 22 6 = -1 ∧ (S.2 22 7 ≠ 0 ∨ S.2 22 9 ≠ 0)
section
variable {L : Nat} {xs : Nat → Int} {d : Nat} {S S' T U W : AH} {t : TB} {n p : Nat} {le : Int → Int} {ud : Int → Bool}
theorem rdv_fr {b k : Nat} (h : T.2 b = S.2 b) : rdv (WK L xs) T b k = rdv (WK L xs) S b k := by
  unfold rdv
  rw [h]
theorem shp_fr {b : Nat} (h : T.1 = S.1) : shp (WK L xs) T b = shp (WK L xs) S b := by
  unfold shp
  rw [h]
theorem Cf.rf : Cf S S := ⟨rfl, fun _ _ => rfl, fun _ _ => rfl⟩
theorem Cf.tr (h : Cf S T) (k : Cf T U) : Cf S U := ⟨k.1.trans h.1, fun a q => (k.2.1 a q).trans (h.2.1 a q), fun j q => (k.2.2 j q).trans (h.2.2 j q)⟩
theorem Cf.w {k : Nat} {v : Int} (hk : 4 ≤ k ∧ k ≤ 9 ∧ k ≠ 5) : Cf S (wr S 22 k v) := ⟨rfl, fun a q => wr_c q, fun j q => by rw [wr_f, if_neg (by first | decide | omega)]⟩
theorem RB.fr (h : RB L xs t n S) (hf : Cf S T) : RB L xs t n T := by
  obtain ⟨h1, h2, h3, b, len, h4, h5, h6, h7, h8, h9, h10⟩ := h
  refine ⟨h1, h2, by rw [hf.2.2 5 (by first | decide | omega), h3], b, len, by rw [hf.2.2 3 (by first | decide | omega), h4], h5, h6, h7, by rw [shp_fr hf.1, h8], h9, fun k hk => ?_⟩
  rw [rdv_fr (hf.2.1 b h5)]
  exact h10 k hk
theorem FA.fr (h : FA S le ud) (hf : Cf S T) : FA T le ud := by
  unfold FA
  rw [hf.2.1 26 (by decide), hf.2.2 11 (by first | decide | omega)]
  exact h
theorem FS.of (h : Cf S T) {e : Int} (k : FS T U e) : FS S U e := ⟨h.tr k.1, k.2⟩
theorem Rf.of (h : Cf S T) (k : Rf T U) : Rf S U := ⟨h.tr k.1, k.2⟩
theorem FS.dead {e : Int} (h : FS S T e) : Dead T := by
  obtain ⟨-, h2, f, q, h3, -, h5, -⟩ := h
  exact ⟨h2, Or.inl (by first | decide | omega)⟩
theorem Rf.dead (h : Rf S T) : Dead T := ⟨h.2.1, Or.inr (by rw [h.2.2.1]; decide)⟩
theorem sgn_b (h : ∀ k, 0 ≤ t k ∧ t k ≤ 255) : -1 ≤ sgn t n p ∧ sgn t n p ≤ 255 := by
  unfold sgn
  have := h p
  split <;> omega
theorem sgn_lt (h : sgn t n p ≠ -1) : p < n := by
  unfold sgn at h
  by_cases q : p < n
  · exact q
  · rw [if_neg q] at h
    exact absurd rfl h
theorem sgn_cu {c : Int} (hc : 0 < c) : sgn t n p = c ↔ cu t n p = c := by
  unfold sgn cu
  by_cases q : p < n
  · rw [if_pos q, if_pos q]
  · rw [if_neg q, if_neg q]
    omega
theorem sgn_tm : isTm (sgn t n p) = isTm (cu t n p) := by
  unfold sgn cu
  by_cases q : p < n
  · rw [if_pos q, if_pos q]
  · rw [if_neg q, if_neg q]
    decide
theorem sgn_sg : isSg (sgn t n p) = isSg (cu t n p) := by
  unfold sgn cu
  by_cases q : p < n
  · rw [if_pos q, if_pos q]
  · rw [if_neg q, if_neg q]
    decide
theorem sgn_lw : isLw (sgn t n p) = isLw (cu t n p) := by
  unfold sgn cu
  by_cases q : p < n
  · rw [if_pos q, if_pos q]
  · rw [if_neg q, if_neg q]
    decide
theorem sgn_wd : isWd (sgn t n p) = isWd (cu t n p) := by
  unfold sgn cu
  by_cases q : p < n
  · rw [if_pos q, if_pos q]
  · rw [if_neg q, if_neg q]
    decide
theorem sgn_dg : dgt (sgn t n p) = dgt (cu t n p) := by
  unfold sgn cu
  by_cases q : p < n
  · rw [if_pos q, if_pos q]
  · rw [if_neg q, if_neg q]
    decide
theorem cu_sgn (h : p < n) : sgn t n p = cu t n p := by
  unfold sgn cu
  rw [if_pos h, if_pos h]
/-- to a place -/
theorem x_step0 (hB : RB L xs t n S) (hA : FA S le ud) {q : Nat} (h4 : S.2 22 4 = (q : Int) - 1) (hq : q ≤ n) (h7 : S.2 22 7 = 0) (h9 : S.2 22 9 = 0) : ∃ T, ev (WK L xs) (d + 1) 137 [vr 22] S = some (0, T) ∧ GS L xs t n le ud T q ∧ Cf S T := by
  have hB0 := hB
  obtain ⟨b1, b2, b3, b, len, b4, b5, b6, b7, b8, b9, b10⟩ := hB
  have hz : Cf S (wr (wr S 22 4 (q : Int)) 22 6 (sgn t n q)) := (Cf.w (by first | decide | omega)).tr (Cf.w (by first | decide | omega))
  refine ⟨wr (wr S 22 4 (q : Int)) 22 6 (sgn t n q), ?_, ⟨hB0.fr hz, hA.fr hz, ?_, ?_, ?_, ?_, hq⟩, hz⟩
  · rw [q_137, h4, show (q : Int) - 1 + 1 = (q : Int) by omega, w32e (x := (q : Int)) (by first | decide | omega) (by first | decide | omega), if_neg (by first | decide | omega), b3]
    unfold sgn
    by_cases c : q < n
    · rw [if_pos (by first | decide | omega), if_pos c, b4, Int.toNat_natCast, shp_fr (T := wr S 22 4 (q : Int)) (S := S) rfl, b8, show Nat.ble ((0, len) : Nat × Nat).1 6 = true from rfl, gdT, if_pos (show (q : Int) < ((((0, len) : Nat × Nat).2 : Nat) : Int) from by show (q : Int) < (len : Int); omega), show Nat.ble ((0, len) : Nat × Nat).1 1 = true from rfl, gdT, if_pos (show 0 ≤ (q : Int) ∧ (q : Int) < ((((0, len) : Nat × Nat).2 : Nat) : Int) from by show 0 ≤ (q : Int) ∧ (q : Int) < (len : Int); omega), Int.toNat_natCast, rdv_fr (T := wr S 22 4 (q : Int)) (S := S) (wr_c b5), b10 q c]
    · rw [if_neg (by first | decide | omega), if_neg c]
  · rw [wr_f, if_neg (by decide), wr_f, if_pos rfl]
  · rw [wr_f, if_pos rfl]
  · rw [wr_f, if_neg (by decide), wr_f, if_neg (by decide), h7]
  · rw [wr_f, if_neg (by decide), wr_f, if_neg (by decide), h9]
theorem x_step (H : GS L xs t n le ud S p) (hp : p < n) : ∃ T, ev (WK L xs) (d + 1) 137 [vr 22] S = some (0, T) ∧ GS L xs t n le ud T (p + 1) ∧ Cf S T := x_step0 H.1 H.2.1 (q := p + 1) (by rw [H.2.2.1]; omega) (by first | decide | omega) H.2.2.2.2.1 H.2.2.2.2.2.1
theorem x_fail (H : GS L xs t n le ud S p) {f : Int} (hf : 1 ≤ f ∧ f ≤ 6) {q : Nat} (hq : q ≤ 300) : ∃ T, ev (WK L xs) (d + 1) 141 [vr 22, vi f, vi (q : Int)] S = some (0, T) ∧ FS S T (flt f q) := by
  obtain ⟨h1, h2, h3, h4, h7, h9, h10⟩ := H
  refine ⟨_, by rw [q_141, if_pos h7, if_pos h9], ⟨((Cf.w (by first | decide | omega)).tr (Cf.w (by first | decide | omega))).tr (Cf.w (by first | decide | omega)), by rw [wr_f, if_pos rfl], f, q, ?_, ?_, hf.1, hf.2, hq, rfl⟩⟩
  · rw [wr_f, if_neg (by decide), wr_f, if_neg (by decide), wr_f, if_pos rfl]
  · rw [wr_f, if_neg (by decide), wr_f, if_pos rfl]
theorem x_failD (H : Dead S) (f q : Int) : ev (WK L xs) (d + 1) 141 [vr 22, vi f, vi q] S = some (0, S) := by
  rw [q_141]
  by_cases c : S.2 22 7 = 0
  · rw [if_pos c, if_neg (H.2.resolve_left (fun z => z c))]
  · rw [if_neg c]
theorem x_expect (H : GS L xs t n le ud S p) {c : Int} (hc : 0 < c) : (cu t n p = c → ∃ T, ev (WK L xs) (d + 2) 145 [vr 22, vi c] S = some (0, T) ∧ GS L xs t n le ud T (p + 1) ∧ Cf S T) ∧ (cu t n p ≠ c → ∃ T, ev (WK L xs) (d + 2) 145 [vr 22, vi c] S = some (0, T) ∧ FS S T (flt 1 p)) := by
  have h200 := H.1.1
  refine ⟨fun q => ?_, fun q => ?_⟩
  · obtain ⟨T, t1, t2, t3⟩ := x_step (d := d) H (cu_pos (t := t) (n := n) (p := p) (by first | decide | omega))
    exact ⟨T, by rw [q_145, H.2.2.2.1, if_pos ((sgn_cu hc).mpr q), t1, bR], t2, t3⟩
  · obtain ⟨T, t1, t2⟩ := x_fail (d := d) H (f := 1) (by decide) (q := p) (by have := H.2.2.2.2.2.2; omega)
    exact ⟨T, by rw [q_145, H.2.2.2.1, if_neg (fun z => q ((sgn_cu hc).mp z)), H.2.2.1, t1, bR], t2⟩
theorem x_expectD (H : Dead S) {c : Int} (hc : 0 < c) : ev (WK L xs) (d + 2) 145 [vr 22, vi c] S = some (0, S) := by
  rw [q_145, H.1, if_neg (by first | decide | omega), x_failD H, bR]
theorem x_digD (H : Dead S) : ev (WK L xs) (d + 1) 144 [vr 22] S = some (0, S) := by rw [x_dig H.1, bi_F (by decide)]
theorem x_numD (H : Dead S) (most : Int) : ev (WK L xs) (d + 2) 143 [vr 22, vi most] S = some (0, S) := by
  rw [q_143, q_143_13, if_pos (by decide), x_digD H, bR, if_pos rfl, q_143_53, if_pos rfl, x_failD H, bR]
theorem x_numL (most : Int) (f : Nat) (k : Nat) : ∀ (j : Nat) (v : Int) (S : AH), j + k = 6 → 1 ≤ j → 0 ≤ v → v < pw10 j → GS L xs t n le ud S (f + j) →
    (dgt (cu t n (nds t n k (f + j) v).1) = true → ∃ w T, LQ (WK L xs) (ev (WK L xs) (d + 1)) 143 13 [some (vr 22), some (vi most), some (vi (f : Int)), some (vi v), some (vi (j : Int)), some (vi (j : Int))] [] S = some (w, T) ∧ FS S T (flt 2 (nds t n k (f + j) v).1)) ∧
    (dgt (cu t n (nds t n k (f + j) v).1) = false → most < (nds t n k (f + j) v).2 → ∃ w T, LQ (WK L xs) (ev (WK L xs) (d + 1)) 143 13 [some (vr 22), some (vi most), some (vi (f : Int)), some (vi v), some (vi (j : Int)), some (vi (j : Int))] [] S = some (w, T) ∧ FS S T (flt 3 f)) ∧
    (dgt (cu t n (nds t n k (f + j) v).1) = false → ¬ most < (nds t n k (f + j) v).2 → ∃ T, LQ (WK L xs) (ev (WK L xs) (d + 1)) 143 13 [some (vr 22), some (vi most), some (vi (f : Int)), some (vi v), some (vi (j : Int)), some (vi (j : Int))] [] S = some ((nds t n k (f + j) v).2, T) ∧ GS L xs t n le ud T (nds t n k (f + j) v).1 ∧ Cf S T) := by
  have fin : ∀ (j : Nat) (v : Int) (S : AH), 1 ≤ j → j ≤ 6 → GS L xs t n le ud S (f + j) → (dgt (cu t n (f + j)) = true → ∃ w T, LQ (WK L xs) (ev (WK L xs) (d + 1)) 143 53 [some (vr 22), some (vi most), some (vi (f : Int)), some (vi v), some (vi (j : Int)), none] [] S = some (w, T) ∧ FS S T (flt 2 (f + j))) ∧ (dgt (cu t n (f + j)) = false → most < v → ∃ w T, LQ (WK L xs) (ev (WK L xs) (d + 1)) 143 53 [some (vr 22), some (vi most), some (vi (f : Int)), some (vi v), some (vi (j : Int)), none] [] S = some (w, T) ∧ FS S T (flt 3 f)) ∧ (dgt (cu t n (f + j)) = false → ¬ most < v → ∃ T, LQ (WK L xs) (ev (WK L xs) (d + 1)) 143 53 [some (vr 22), some (vi most), some (vi (f : Int)), some (vi v), some (vi (j : Int)), none] [] S = some (v, T) ∧ GS L xs t n le ud T (f + j) ∧ Cf S T) := by
    intro j v S h1 h6 H
    have h200 := H.1.1
    have hn := H.2.2.2.2.2.2
    rw [q_143_53, if_neg (by first | decide | omega), x_dig H.2.2.2.1, bR, sgn_dg]
    simp only [bi_0]
    refine ⟨fun q => ?_, fun q q2 => ?_, fun q q2 => ?_⟩
    · obtain ⟨T, t1, t2⟩ := x_fail (d := d) H (f := 2) (by decide) (q := f + j) (by first | decide | omega)
      rw [if_neg (fun z => z q), H.2.2.1, t1, bR]
      exact ⟨v, T, rfl, t2⟩
    · obtain ⟨T, t1, t2⟩ := x_fail (d := d) H (f := 3) (by decide) (q := f) (by first | decide | omega)
      rw [if_pos (nt q), if_pos q2, t1, bR]
      exact ⟨v, T, rfl, t2⟩
    · rw [if_pos (nt q), if_neg q2]
      exact ⟨S, rfl, H, Cf.rf⟩
  induction k with
  | zero =>
    intro j v S hj j1 v0 v1 H
    simp only [nds]
    rw [q_143_13, if_neg (by first | decide | omega)]
    exact fin j v S j1 (by first | decide | omega) H
  | succ k ih =>
    intro j v S hj j1 v0 v1 H
    have h200 := H.1.1
    have b6 := pw10_b (j := j) (by first | decide | omega)
    unfold nds
    by_cases q : dgt (cu t n (f + j)) = true
    · rw [if_pos q]
      have hc := dgt_b q
      have hlt := cu_pos (t := t) (n := n) (p := f + j) (by first | decide | omega)
      obtain ⟨T, t1, t2, t3⟩ := x_step (L := L) (xs := xs) (d := d) H hlt
      have step : LQ (WK L xs) (ev (WK L xs) (d + 1)) 143 13 [some (vr 22), some (vi most), some (vi (f : Int)), some (vi v), some (vi (j : Int)), some (vi (j : Int))] [] S = LQ (WK L xs) (ev (WK L xs) (d + 1)) 143 13 [some (vr 22), some (vi most), some (vi (f : Int)), some (vi (10 * v + cu t n (f + j) - 48)), some (vi ((j + 1 : Nat) : Int)), some (vi ((j + 1 : Nat) : Int))] [] T := by
        rw [q_143_13, if_pos (by first | decide | omega), x_dig H.2.2.2.1, bR, sgn_dg]
        simp only [bi_0]
        rw [if_neg (fun z => z q), t1, bR, H.2.2.2.1, cu_sgn hlt, w32e (x := v * 10) (by first | decide | omega) (by first | decide | omega), w32e (x := cu t n (f + j) - 48) (by first | decide | omega) (by first | decide | omega), w32e (x := v * 10 + (cu t n (f + j) - 48)) (by first | decide | omega) (by first | decide | omega), w32e (x := (j : Int) + 1) (by first | decide | omega) (by first | decide | omega), show v * 10 + (cu t n (f + j) - 48) = 10 * v + cu t n (f + j) - 48 by omega]
        rfl
      rw [step]
      have hI := ih (j + 1) (10 * v + cu t n (f + j) - 48) T (by first | decide | omega) (by first | decide | omega) (by first | decide | omega) (by show _ < 10 * pw10 j; omega) t2
      rw [show f + j + 1 = f + (j + 1) from rfl]
      obtain ⟨h1, h2, h3⟩ := hI
      refine ⟨fun x => ?_, fun x y => ?_, fun x y => ?_⟩
      · obtain ⟨w, U, a, b⟩ := h1 x
        exact ⟨w, U, a, b.of t3⟩
      · obtain ⟨w, U, a, b⟩ := h2 x y
        exact ⟨w, U, a, b.of t3⟩
      · obtain ⟨U, a, b, c⟩ := h3 x y
        exact ⟨U, a, b, t3.tr c⟩
    · rw [if_neg q]
      have e : LQ (WK L xs) (ev (WK L xs) (d + 1)) 143 13 [some (vr 22), some (vi most), some (vi (f : Int)), some (vi v), some (vi (j : Int)), some (vi (j : Int))] [] S = LQ (WK L xs) (ev (WK L xs) (d + 1)) 143 53 [some (vr 22), some (vi most), some (vi (f : Int)), some (vi v), some (vi (j : Int)), none] [] S := by
        rw [q_143_13, if_pos (by first | decide | omega), x_dig H.2.2.2.1, bR, sgn_dg]
        simp only [bi_0]
        rw [if_pos q]
      rw [e]
      exact fin j v S j1 (by first | decide | omega) H
theorem x_num (most : Int) (H : GS L xs t n le ud S p) : match rdN t n most p with
    | .inl e => ∃ w T, ev (WK L xs) (d + 2) 143 [vr 22, vi most] S = some (w, T) ∧ FS S T e
    | .inr (q, v) => ∃ T, ev (WK L xs) (d + 2) 143 [vr 22, vi most] S = some (v, T) ∧ GS L xs t n le ud T q ∧ Cf S T := by
  have h200 := H.1.1
  have hn := H.2.2.2.2.2.2
  unfold rdN
  by_cases q : dgt (cu t n p) = false
  · rw [if_pos q]
    show ∃ w T, ev (WK L xs) (d + 2) 143 [vr 22, vi most] S = some (w, T) ∧ FS S T (flt 1 p)
    obtain ⟨T, t1, t2⟩ := x_fail (L := L) (xs := xs) (d := d) H (f := 1) (by decide) (q := p) (by first | decide | omega)
    rw [q_143, q_143_13, if_pos (by decide), x_dig H.2.2.2.1, bR, sgn_dg]
    simp only [bi_0]
    rw [if_pos (nt q), q_143_53, if_pos rfl, H.2.2.1, t1, bR]
    exact ⟨0, T, rfl, t2⟩
  · rw [if_neg q]
    have q' : dgt (cu t n p) = true := by simpa using q
    have hc := dgt_b q'
    have hlt := cu_pos (t := t) (n := n) (p := p) (by first | decide | omega)
    obtain ⟨T, t1, t2, t3⟩ := x_step (L := L) (xs := xs) (d := d) H hlt
    have e : ev (WK L xs) (d + 2) 143 [vr 22, vi most] S = LQ (WK L xs) (ev (WK L xs) (d + 1)) 143 13 [some (vr 22), some (vi most), some (vi (p : Int)), some (vi (10 * 0 + cu t n p - 48)), some (vi ((1 : Nat) : Int)), some (vi ((1 : Nat) : Int))] [] T := by
      rw [q_143, q_143_13, if_pos (by decide), x_dig H.2.2.2.1, bR, sgn_dg]
      simp only [bi_0]
      rw [if_neg (fun z => z q'), t1, bR, H.2.2.2.1, H.2.2.1, cu_sgn hlt, w32e (x := (0 : Int) * 10) (by first | decide | omega) (by first | decide | omega), w32e (x := cu t n p - 48) (by first | decide | omega) (by first | decide | omega), w32e (x := 0 * 10 + (cu t n p - 48)) (by first | decide | omega) (by first | decide | omega), w32e (x := (0 : Int) + 1) (by first | decide | omega) (by first | decide | omega), show 0 * 10 + (cu t n p - 48) = 10 * 0 + cu t n p - 48 by omega]
      rfl
    rw [e]
    obtain ⟨h1, h2, h3⟩ := x_numL (L := L) (xs := xs) (d := d) (le := le) (ud := ud) (t := t) (n := n) most p 5 1 (10 * 0 + cu t n p - 48) T (by decide) (by decide) (by first | decide | omega) (by show _ < 10 * pw10 0; show _ < (10 : Int) * 1; omega) t2
    have e6 : nds t n 6 p 0 = nds t n 5 (p + 1) (10 * 0 + cu t n p - 48) := by rw [nds, if_pos q']
    rw [← e6] at h1 h2 h3
    by_cases c1 : dgt (cu t n (nds t n 6 p 0).1) = true
    · rw [if_pos c1]
      obtain ⟨w, U, a, b⟩ := h1 c1
      exact ⟨w, U, a, b.of t3⟩
    · have c1' := nf c1
      rw [if_neg c1]
      by_cases c2 : most < (nds t n 6 p 0).2
      · rw [if_pos c2]
        obtain ⟨w, U, a, b⟩ := h2 c1' c2
        exact ⟨w, U, a, b.of t3⟩
      · rw [if_neg c2]
        obtain ⟨U, a, b, c⟩ := h3 c1' c2
        exact ⟨U, a, b, t3.tr c⟩
end
end
section
-- 95.xexp
/-! what a code reckons; none: refused -/
noncomputable def wkA (c x y : Int) : Int := if c = 43 then w64 (x + y) else if c = 45 then w64 (x - y) else if c = 42 then w64 (x * y) else if c = 47 then ldiv x y else if c = 37 then Int.tmod x y else if c = 60 then bi (x < y) else if c = 62 then bi (y < x) else bi (x = y)
noncomputable def opA (c : Int) (a b : Option Int) : Option Int := match a with
  | none => none
  | some x => if c = 38 then (if x = 1 then b else some x) else if c = 124 then (if x = 0 then b else some x) else (match b with
    | none => none
    | some y => if (c = 47 ∨ c = 37) ∧ y = 0 then none else some (wkA c x y))
noncomputable def stA (le : Int → Int) (ud : Int → Bool) (c a : Int) (s : List (Option Int)) : Option (List (Option Int)) := if 3 < c then (match s with
    | b :: x :: r => some (opA c x b :: r)
    | _ => none) else if c = 3 then (match s with
    | x :: r => some (x.map (fun v => w64 (1 - v)) :: r)
    | [] => none) else if c = 0 then some (some a :: s) else if c = 1 then some (some (le a) :: s) else if 0 ≤ a then some (some (if ud a then 1 else 0) :: s) else none
noncomputable def rnA (le : Int → Int) (ud : Int → Bool) : CD → List (Option Int) → Option (List (Option Int))
  | [], s => some s
  | (c, a) :: r, s => match stA le ud c a s with
    | none => none
    | some s' => rnA le ud r s'
noncomputable def Cmp (le : Int → Int) (ud : Int → Bool) (g : CD) (o : Option Int) : Prop := ∀ s, rnA le ud g s = some (o :: s)
noncomputable def WFp (le : Int → Int) (ud : Int → Bool) (part : Nat → PR) : Prop := ∀ (p q : Nat) (g : CD), part p = .inr (q, g) → ∃ o, Cmp le ud g o
section
variable {le : Int → Int} {ud : Int → Bool} {t : TB} {n : Nat} {is : Int → Bool} {part : Nat → PR}
theorem rnA_app (g h : CD) (s : List (Option Int)) : rnA le ud (g ++ h) s = match rnA le ud g s with
    | none => none
    | some s' => rnA le ud h s' := by
  induction g generalizing s with
  | nil => rfl
  | cons x g ih =>
    obtain ⟨c, a⟩ := x
    show (match stA le ud c a s with
      | none => none
      | some s' => rnA le ud (g ++ h) s') = match (match stA le ud c a s with
      | none => none
      | some s' => rnA le ud g s') with
      | none => none
      | some s' => rnA le ud h s'
    cases stA le ud c a s with
    | none => rfl
    | some s' => exact ih s'
theorem Cmp.bin {g g2 : CD} {a b : Option Int} (h1 : Cmp le ud g a) (h2 : Cmp le ud g2 b) {c : Int} (hc : 3 < c) : Cmp le ud (g ++ g2 ++ [(c, 0)]) (opA c a b) := by
  intro s
  rw [rnA_app, rnA_app, h1]
  dsimp only
  rw [h2]
  dsimp only
  show (match stA le ud c 0 (b :: a :: s) with
    | none => none
    | some s' => some s') = _
  unfold stA
  rw [if_pos hc]
theorem Cmp.neg {g : CD} {a : Option Int} (h1 : Cmp le ud g a) : Cmp le ud (g ++ [(3, 0)]) (a.map (fun v => w64 (1 - v))) := by
  intro s
  rw [rnA_app, h1]
  rfl
theorem Cmp.num (v : Int) : Cmp le ud [(0, v)] (some v) := fun s => rfl
theorem Cmp.let (c : Int) : Cmp le ud [(1, c)] (some (le c)) := fun s => rfl
theorem Cmp.und {c : Int} (h : 0 ≤ c) : Cmp le ud [(2, c)] (some (if ud c then 1 else 0)) := fun s => by
  show (match stA le ud 2 c s with
    | none => none
    | some s' => some s') = _
  unfold stA
  rw [if_neg (by decide), if_neg (by decide), if_neg (by decide), if_neg (by decide), if_pos h]
theorem opA_none (c : Int) (b : Option Int) : opA c none b = none := rfl
theorem rowL_wf (h : WFp le ud part) (hi : ∀ c, is c = true → 3 < c) : ∀ (k p : Nat) (g : CD) (q : Nat) (g' : CD), (∃ o, Cmp le ud g o) → rowL t n is part k p g = .inr (q, g') → ∃ o, Cmp le ud g' o := by
  intro k
  induction k with
  | zero =>
    intro p g q g' ho e
    simp only [rowL, Sum.inr.injEq, Prod.mk.injEq] at e
    rw [← e.2]
    exact ho
  | succ k ih =>
    intro p g q g' ho e
    unfold rowL at e
    by_cases c : is (cu t n p) = true
    · rw [if_pos c] at e
      cases hp : part (p + 1) with
      | inl x => rw [hp] at e; cases e
      | inr x =>
        obtain ⟨r, g2⟩ := x
        rw [hp] at e
        obtain ⟨o, ho⟩ := ho
        obtain ⟨o2, ho2⟩ := h _ _ _ hp
        exact ih _ _ _ _ ⟨_, ho.bin ho2 (hi _ c)⟩ e
    · rw [if_neg c] at e
      simp only [Sum.inr.injEq, Prod.mk.injEq] at e
      rw [← e.2]
      exact ho
theorem rowL_none (h : WFp le ud part) (hi : ∀ c, is c = true → 3 < c) : ∀ (k p : Nat) (g : CD) (q : Nat) (g' : CD), Cmp le ud g none → rowL t n is part k p g = .inr (q, g') → Cmp le ud g' none := by
  intro k
  induction k with
  | zero =>
    intro p g q g' ho e
    simp only [rowL, Sum.inr.injEq, Prod.mk.injEq] at e
    rw [← e.2]
    exact ho
  | succ k ih =>
    intro p g q g' ho e
    unfold rowL at e
    by_cases c : is (cu t n p) = true
    · rw [if_pos c] at e
      cases hp : part (p + 1) with
      | inl x => rw [hp] at e; cases e
      | inr x =>
        obtain ⟨r, g2⟩ := x
        rw [hp] at e
        obtain ⟨o2, ho2⟩ := h _ _ _ hp
        exact ih _ _ _ _ (ho.bin ho2 (hi _ c)) e
    · rw [if_neg c] at e
      simp only [Sum.inr.injEq, Prod.mk.injEq] at e
      rw [← e.2]
      exact ho
theorem rowG_wf (h : WFp le ud part) (hi : ∀ c, is c = true → 3 < c) : WFp le ud (rowG t n is part) := by
  intro p q g e
  obtain ⟨r, g1, h1, h2⟩ := rowG_inr e
  exact rowL_wf h hi _ _ _ _ _ (h _ _ _ h1) h2
theorem tm_3 (c : Int) (h : isTm c = true) : 3 < c := by
  have := of_decide_eq_true h
  omega
theorem pm_3 (c : Int) (h : isPm c = true) : 3 < c := by
  have := of_decide_eq_true h
  omega
theorem sg_3 (c : Int) (h : isSg c = true) : 3 < c := by
  have := of_decide_eq_true h
  omega
theorem and_3 (c : Int) (h : isAnd c = true) : 3 < c := by
  have := of_decide_eq_true h
  omega
theorem or_3 (c : Int) (h : isOr c = true) : 3 < c := by
  have := of_decide_eq_true h
  omega
theorem facG_wf {rec : Nat → Nat → PR} (h : ∀ o, WFp le ud (rec o)) (o : Nat) : WFp le ud (facG t n rec o) := by
  intro p q g e
  unfold facG at e
  by_cases c1 : cu t n p = 91
  · rw [if_pos c1] at e
    by_cases c2 : 8 ≤ o
    · rw [if_pos c2] at e
      cases e
    · rw [if_neg c2] at e
      cases hr : rec (o + 1) (p + 1) with
      | inl x => rw [hr] at e; cases e
      | inr x =>
        obtain ⟨r, g1⟩ := x
        rw [hr] at e
        have := h _ _ _ _ hr
        by_cases c3 : cu t n r = 93
        · simp only [c3, if_true, Sum.inr.injEq, Prod.mk.injEq] at e
          rw [← e.2]
          exact this
        · simp only [c3, if_false] at e
          cases e
  · rw [if_neg c1] at e
    by_cases c2 : dgt (cu t n p) = true
    · rw [if_pos c2] at e
      cases hr : rdN t n 999999 p with
      | inl x => rw [hr] at e; cases e
      | inr x =>
        obtain ⟨r, v⟩ := x
        rw [hr] at e
        simp only [Sum.inr.injEq, Prod.mk.injEq] at e
        rw [← e.2]
        exact ⟨_, Cmp.num v⟩
    · rw [if_neg c2] at e
      by_cases c3 : isVl (cu t n p) = true
      · rw [if_pos c3] at e
        simp only [Sum.inr.injEq, Prod.mk.injEq] at e
        rw [← e.2]
        exact ⟨_, Cmp.let _⟩
      · rw [if_neg c3] at e
        cases e
theorem terG_wf {rec : Nat → Nat → PR} (h : ∀ o, WFp le ud (rec o)) (o : Nat) : WFp le ud (terG t n rec o) := rowG_wf (facG_wf h o) tm_3
theorem rdE_wf (f : Nat) : ∀ o, WFp le ud (rdE t n f o) := by
  induction f with
  | zero => intro o p q g e; cases e
  | succ f ih => intro o; exact rowG_wf (terG_wf ih o) pm_3
end
/-- what the class answers where the descent answers r -/
noncomputable def lv (live : Bool) : Int := if live then 1 else 0
noncomputable def CR (L : Nat) (xs : Nat → Int) (t : TB) (n : Nat) (le : Int → Int) (ud : Int → Bool) (live bl : Bool) (S : AH) (res : Rs) (r : PR) : Prop := match r with
  | .inl e => live = false → ∃ v T, res = some (v, T) ∧ (bl = true → v = 0 ∨ v = 1) ∧ FS S T e
  | .inr (q, g) => ∃ v T, res = some (v, T) ∧ (bl = true → v = 0 ∨ v = 1) ∧ ((GS L xs t n le ud T q ∧ Cf S T ∧ (live = true → Cmp le ud g (some v))) ∨ (live = true ∧ Cmp le ud g none ∧ Rf S T))
section
variable {L : Nat} {xs : Nat → Int} {d : Nat} {S S' T U W : AH} {t : TB} {n p : Nat} {le : Int → Int} {ud : Int → Bool} {live bl : Bool}
theorem CR.of (h : Cf S T) {X Y : Rs} (e : X = Y) {r : PR} (k : CR L xs t n le ud live bl T Y r) : CR L xs t n le ud live bl S X r := by
  revert k
  cases r with
  | inl x =>
    intro k q
    obtain ⟨v, U, u1, u2, u3⟩ := k q
    exact ⟨v, U, e.trans u1, u2, u3.of h⟩
  | inr x =>
    obtain ⟨q, g⟩ := x
    rintro ⟨v, U, u1, u2, u3 | u3⟩
    · exact ⟨v, U, e.trans u1, u2, Or.inl ⟨u3.1, h.tr u3.2.1, u3.2.2⟩⟩
    · exact ⟨v, U, e.trans u1, u2, Or.inr ⟨u3.1, u3.2.1, u3.2.2.of h⟩⟩
/-- a row behind what was refused -/
theorem CR.ref {is : Int → Bool} {part : Nat → PR} (hw : WFp le ud part) (hi : ∀ c, is c = true → 3 < c) (hl : live = true) {v : Int} {X : Rs} (hX : X = some (v, T)) (hv : bl = true → v = 0 ∨ v = 1) (hR : Rf S T) {g : CD} (hg : Cmp le ud g none) (k q : Nat) : CR L xs t n le ud live bl S X (rowL t n is part k q g) := by
  cases hr : rowL t n is part k q g with
  | inl e => exact fun z => absurd (z.symm.trans hl) (by decide)
  | inr x =>
    obtain ⟨q3, g3⟩ := x
    exact ⟨v, T, hX, hv, Or.inr ⟨hl, rowL_none hw hi _ _ _ _ _ hg hr, hR⟩⟩
theorem CR.bad {e : Int} {v : Int} {X : Rs} (hX : X = some (v, T)) (hv : bl = true → v = 0 ∨ v = 1) (hF : FS S T e) : CR L xs t n le ud live bl S X (.inl e) := fun _ => ⟨v, T, hX, hv, hF⟩
theorem bl0 {v : Int} : (false = true → v = 0 ∨ v = 1) := fun h => absurd h (by decide)
theorem lcz {v : Int} : lcmp v 0 = 0 ↔ v = 0 := lc_eq
theorem terD (h : Dead S) (o l v i : Int) (hd : 0 ≤ i) : LQ (WK L xs) (ev (WK L xs) (d + 6)) 152 10 [some (vr 22), some (vi o), some (vi l), some (vl v), none, some (vi i), none, none, none] [] S = some (v, S) := by
  rw [q_152_10]
  by_cases q : i < 200
  · rw [if_pos q, x_next7 h.1 (by decide), bR, bi_F (by decide), if_pos rfl]
  · rw [if_neg q]
theorem expD (h : Dead S) (o l v i : Int) : LQ (WK L xs) (ev (WK L xs) d) 151 10 [some (vr 22), some (vi o), some (vi l), some (vl v), none, some (vi i), none, none, none] [] S = some (v, S) := by
  rw [q_151_10, h.1]
  by_cases q : i < 200
  · rw [if_pos q, if_neg (by decide), if_neg (by decide)]
  · rw [if_neg q]
theorem Rf.ag (h : Rf S T) : Rf S (wr (wr T 22 9 1) 22 6 (-1)) := ⟨(h.1.tr (Cf.w (by first | decide | omega))).tr (Cf.w (by first | decide | omega)), by rw [wr_f, if_pos rfl], by rw [wr_f, if_neg (by decide), wr_f, if_pos rfl], by rw [wr_f, if_neg (by decide), wr_f, if_neg (by decide), h.2.2.2]⟩
theorem GS.ref (H : GS L xs t n le ud T p) (h : Cf S T) : Rf S (wr (wr T 22 9 1) 22 6 (-1)) := ⟨(h.tr (Cf.w (by first | decide | omega))).tr (Cf.w (by first | decide | omega)), by rw [wr_f, if_pos rfl], by rw [wr_f, if_neg (by decide), wr_f, if_pos rfl], by rw [wr_f, if_neg (by decide), wr_f, if_neg (by decide), H.2.2.2.2.1]⟩
theorem xter_row (f o : Nat) (hf : ∀ (p : Nat) (S : AH), GS L xs t n le ud S p → CR L xs t n le ud live false S (ev (WK L xs) (d + 6) 153 [vr 22, vi (o : Int), vi (lv live)] S) (facG t n (rdE t n f) o p)) : ∀ (k i p : Nat) (g : CD) (v : Int) (S : AH), i + k = 200 → GS L xs t n le ud S p → (live = true → Cmp le ud g (some v)) → CR L xs t n le ud live false S (LQ (WK L xs) (ev (WK L xs) (d + 6)) 152 10 [some (vr 22), some (vi (o : Int)), some (vi (lv live)), some (vl v), none, some (vi (i : Int)), none, none, none] [] S) (rowL t n isTm (facG t n (rdE t n f) o) k p g) := by
  have hw : WFp le ud (facG t n (rdE t n f) o) := facG_wf (rdE_wf f) o
  intro k
  induction k with
  | zero =>
    intro i p g v S hi H hg
    exact ⟨v, S, by rw [q_152_10, if_neg (by first | decide | omega)], bl0, Or.inl ⟨H, Cf.rf, hg⟩⟩
  | succ k ih =>
    intro i p g v S hi H hg
    have hb := sgn_b (n := n) (p := p) H.1.2.1
    have e1 : w32 ((i : Int) + 1) = ((i + 1 : Nat) : Int) := by
      rw [w32e (by first | decide | omega) (by first | decide | omega)]
      rfl
    unfold rowL
    by_cases c : isTm (cu t n p) = true
    · rw [if_pos c]
      have hlt := cu_pos (t := t) (n := n) (p := p) (by have := tm_3 _ c; omega)
      obtain ⟨T, t1, t2, t3⟩ := x_step (L := L) (xs := xs) (d := d + 5) H hlt
      have hcc := of_decide_eq_true c
      have go : LQ (WK L xs) (ev (WK L xs) (d + 6)) 152 10 [some (vr 22), some (vi (o : Int)), some (vi (lv live)), some (vl v), none, some (vi (i : Int)), none, none, none] [] S = bindR (ev (WK L xs) (d + 6) 153 [vr 22, vi (o : Int), vi (lv live)] T) (fun r5 S6 => (if cu t n p = (42 : Int) then (LQ (WK L xs) (ev (WK L xs) (d + 6)) 152 10 [some (vr 22), some (vi (o : Int)), some (vi (lv live)), some (vl (w64 (v * r5))), none, some (vi ((i + 1 : Nat) : Int)), none, none, none] [] S6) else (if r5 = 0 then (if lv live = 0 then (LQ (WK L xs) (ev (WK L xs) (d + 6)) 152 10 [some (vr 22), some (vi (o : Int)), some (vi (lv live)), some (vl v), none, some (vi ((i + 1 : Nat) : Int)), none, none, none] [] S6) else (LQ (WK L xs) (ev (WK L xs) (d + 6)) 152 10 [some (vr 22), some (vi (o : Int)), some (vi (lv live)), some (vl v), none, some (vi ((i + 1 : Nat) : Int)), none, none, none] [] (wr (wr S6 22 9 1) 22 6 (-1)))) else (if cu t n p = (47 : Int) then (if r5 = 0 then none else (LQ (WK L xs) (ev (WK L xs) (d + 6)) 152 10 [some (vr 22), some (vi (o : Int)), some (vi (lv live)), some (vl (ldiv v r5)), none, some (vi ((i + 1 : Nat) : Int)), none, none, none] [] S6)) else (if r5 = 0 then none else (LQ (WK L xs) (ev (WK L xs) (d + 6)) 152 10 [some (vr 22), some (vi (o : Int)), some (vi (lv live)), some (vl (Int.tmod v r5)), none, some (vi ((i + 1 : Nat) : Int)), none, none, none] [] S6)))))) := by
        rw [q_152_10, if_pos (by first | decide | omega), x_next7 H.2.2.2.1 hb, sgn_tm, bi_T c, bR, if_neg (by decide), t1, bR, H.2.2.2.1, cu_sgn hlt, e1]
        simp only [lcz]
      have hF := hf _ _ t2
      revert hF
      cases hp : facG t n (rdE t n f) o (p + 1) with
      | inl e =>
        intro hF hl
        obtain ⟨v2, U, u1, -, u3⟩ := hF hl
        have D := u3.dead
        have hl0 : lv live = 0 := by rw [hl]; rfl
        refine (fun (⟨w, hw⟩ : ∃ w, LQ (WK L xs) (ev (WK L xs) (d + 6)) 152 10 [some (vr 22), some (vi (o : Int)), some (vi (lv live)), some (vl v), none, some (vi (i : Int)), none, none, none] [] S = some (w, U)) => ⟨w, U, hw, bl0, u3.of t3⟩) ?_
        rw [go, u1, bR]
        simp only [terD D _ _ _ _ (Int.natCast_nonneg _)]
        by_cases q1 : cu t n p = 42
        · rw [if_pos q1]
          exact ⟨_, rfl⟩
        · rw [if_neg q1]
          by_cases q2 : v2 = 0
          · rw [if_pos q2, if_pos hl0]
            exact ⟨_, rfl⟩
          · rw [if_neg q2, if_neg q2, if_neg q2]
            by_cases q3 : cu t n p = 47
            · rw [if_pos q3]
              exact ⟨_, rfl⟩
            · rw [if_neg q3]
              exact ⟨_, rfl⟩
      | inr x =>
        obtain ⟨q, g2⟩ := x
        rintro ⟨v2, U, u1, -, ⟨uG, uC, uv⟩ | ⟨ul, ug, uR⟩⟩
        · rw [u1, bR] at go
          show CR L xs t n le ud live false S _ (rowL t n isTm (facG t n (rdE t n f) o) k q (g ++ g2 ++ [(cu t n p, 0)]))
          have nx : ∀ w : Int, (live = true → opA (cu t n p) (some v) (some v2) = some w) → LQ (WK L xs) (ev (WK L xs) (d + 6)) 152 10 [some (vr 22), some (vi (o : Int)), some (vi (lv live)), some (vl v), none, some (vi (i : Int)), none, none, none] [] S = LQ (WK L xs) (ev (WK L xs) (d + 6)) 152 10 [some (vr 22), some (vi (o : Int)), some (vi (lv live)), some (vl w), none, some (vi ((i + 1 : Nat) : Int)), none, none, none] [] U → CR L xs t n le ud live false S (LQ (WK L xs) (ev (WK L xs) (d + 6)) 152 10 [some (vr 22), some (vi (o : Int)), some (vi (lv live)), some (vl v), none, some (vi (i : Int)), none, none, none] [] S) (rowL t n isTm (facG t n (rdE t n f) o) k q (g ++ g2 ++ [(cu t n p, 0)])) := fun w hw2 he => CR.of (t3.tr uC) he (ih (i + 1) q _ w U (by first | decide | omega) uG (fun hl => by rw [← hw2 hl]; exact (hg hl).bin (uv hl) (tm_3 _ c)))
          by_cases q1 : cu t n p = 42
          · rw [if_pos q1] at go
            exact nx _ (fun _ => by rw [q1]; rfl) go
          · rw [if_neg q1] at go
            by_cases q2 : v2 = 0
            · rw [if_pos q2] at go
              by_cases hl : live = true
              · rw [if_neg (by rw [hl]; decide)] at go
                have R := uG.ref (t3.tr uC)
                rw [terD R.dead _ _ _ _ (Int.natCast_nonneg _)] at go
                refine CR.ref hw tm_3 hl go bl0 R ?_ k q
                have := (hg hl).bin (uv hl) (tm_3 _ c)
                rw [show opA (cu t n p) (some v) (some v2) = none by
                  show (if cu t n p = 38 then _ else if cu t n p = 124 then _ else if (cu t n p = 47 ∨ cu t n p = 37) ∧ v2 = 0 then none else some (wkA (cu t n p) v v2)) = none
                  rw [if_neg (by first | decide | omega), if_neg (by first | decide | omega), if_pos ⟨by omega, q2⟩]] at this
                exact this
              · rw [if_pos (by rw [nf hl]; rfl)] at go
                exact nx _ (fun z => absurd z hl) go
            · rw [if_neg q2, if_neg q2, if_neg q2] at go
              have hop : opA (cu t n p) (some v) (some v2) = some (wkA (cu t n p) v v2) := by
                show (if cu t n p = 38 then _ else if cu t n p = 124 then _ else if (cu t n p = 47 ∨ cu t n p = 37) ∧ v2 = 0 then none else some (wkA (cu t n p) v v2)) = _
                rw [if_neg (by first | decide | omega), if_neg (by first | decide | omega), if_neg (fun z => q2 z.2)]
              by_cases q3 : cu t n p = 47
              · rw [if_pos q3] at go
                exact nx _ (fun _ => by rw [hop, q3]; rfl) go
              · rw [if_neg q3] at go
                exact nx _ (fun _ => by rw [hop, show cu t n p = 37 by omega]; rfl) go
        · rw [u1, bR] at go
          have D := uR.dead
          have hl1 : ¬ lv live = 0 := by rw [ul]; decide
          have hg3 : Cmp le ud (g ++ g2 ++ [(cu t n p, 0)]) none := by
            have := (hg ul).bin ug (tm_3 _ c)
            rw [show opA (cu t n p) (some v) none = none by
              show (if cu t n p = 38 then _ else if cu t n p = 124 then _ else none) = none
              rw [if_neg (by first | decide | omega), if_neg (by first | decide | omega)]] at this
            exact this
          show CR L xs t n le ud live false S _ (rowL t n isTm (facG t n (rdE t n f) o) k q (g ++ g2 ++ [(cu t n p, 0)]))
          simp only [terD D _ _ _ _ (Int.natCast_nonneg _), terD uR.ag.dead _ _ _ _ (Int.natCast_nonneg _)] at go
          by_cases q1 : cu t n p = 42
          · rw [if_pos q1] at go
            exact CR.ref hw tm_3 ul go bl0 (uR.of t3) hg3 k q
          · rw [if_neg q1] at go
            by_cases q2 : v2 = 0
            · rw [if_pos q2, if_neg hl1] at go
              exact CR.ref hw tm_3 ul go bl0 (uR.ag.of t3) hg3 k q
            · rw [if_neg q2, if_neg q2, if_neg q2] at go
              by_cases q3 : cu t n p = 47
              · rw [if_pos q3] at go
                exact CR.ref hw tm_3 ul go bl0 (uR.of t3) hg3 k q
              · rw [if_neg q3] at go
                exact CR.ref hw tm_3 ul go bl0 (uR.of t3) hg3 k q
    · rw [if_neg c]
      exact ⟨v, S, by rw [q_152_10, if_pos (by first | decide | omega), x_next7 H.2.2.2.1 hb, sgn_tm, bi_F c, bR, if_pos rfl], bl0, Or.inl ⟨H, Cf.rf, hg⟩⟩
end
end
section
-- 96.xexp2
/-! the class reads an expression as the descent does -/
section
variable {L : Nat} {xs : Nat → Int} {d : Nat} {S S' T U W : AH} {t : TB} {n p : Nat} {le : Int → Int} {ud : Int → Bool} {live bl : Bool}
theorem xter_ok (f o : Nat) (hf : ∀ (p : Nat) (S : AH), GS L xs t n le ud S p → CR L xs t n le ud live false S (ev (WK L xs) (d + 6) 153 [vr 22, vi (o : Int), vi (lv live)] S) (facG t n (rdE t n f) o p)) (H : GS L xs t n le ud S p) : CR L xs t n le ud live false S (ev (WK L xs) (d + 7) 152 [vr 22, vi (o : Int), vi (lv live)] S) (terG t n (rdE t n f) o p) := by
  have hw : WFp le ud (facG t n (rdE t n f) o) := facG_wf (rdE_wf f) o
  have hF := hf p S H
  unfold terG rowG
  revert hF
  rw [q_152]
  cases facG t n (rdE t n f) o p with
  | inl e =>
    intro hF hl
    obtain ⟨v, T, t1, -, t3⟩ := hF hl
    exact ⟨v, T, by rw [t1, bR]; exact terD t3.dead _ _ _ _ (by decide), bl0, t3⟩
  | inr x =>
    obtain ⟨q, g⟩ := x
    rintro ⟨v, T, t1, -, ⟨tG, tC, tv⟩ | ⟨tl, tg, tR⟩⟩
    · exact CR.of tC (by rw [t1, bR]; rfl) (xter_row f o hf 200 0 q g v T rfl tG tv)
    · exact CR.ref hw tm_3 tl (by rw [t1, bR]; exact terD tR.dead _ _ _ _ (by decide)) bl0 tR tg 200 q
theorem xexp_row (f o : Nat) (hf : ∀ (p : Nat) (S : AH), GS L xs t n le ud S p → CR L xs t n le ud live false S (ev (WK L xs) (d + 6) 153 [vr 22, vi (o : Int), vi (lv live)] S) (facG t n (rdE t n f) o p)) : ∀ (k i p : Nat) (g : CD) (v : Int) (S : AH), i + k = 200 → GS L xs t n le ud S p → (live = true → Cmp le ud g (some v)) → CR L xs t n le ud live false S (LQ (WK L xs) (ev (WK L xs) (d + 7)) 151 10 [some (vr 22), some (vi (o : Int)), some (vi (lv live)), some (vl v), none, some (vi (i : Int)), none, none, none] [] S) (rowL t n isPm (terG t n (rdE t n f) o) k p g) := by
  have hw : WFp le ud (terG t n (rdE t n f) o) := terG_wf (rdE_wf f) o
  intro k
  induction k with
  | zero =>
    intro i p g v S hi H hg
    exact ⟨v, S, by rw [q_151_10, if_neg (by first | decide | omega)], bl0, Or.inl ⟨H, Cf.rf, hg⟩⟩
  | succ k ih =>
    intro i p g v S hi H hg
    have e1 : w32 ((i : Int) + 1) = ((i + 1 : Nat) : Int) := by
      rw [w32e (by first | decide | omega) (by first | decide | omega)]
      rfl
    have s43 : S.2 22 6 = 43 ↔ cu t n p = 43 := by rw [H.2.2.2.1]; exact sgn_cu (by decide)
    have s45 : S.2 22 6 = 45 ↔ cu t n p = 45 := by rw [H.2.2.2.1]; exact sgn_cu (by decide)
    unfold rowL
    by_cases c : isPm (cu t n p) = true
    · rw [if_pos c]
      have hlt := cu_pos (t := t) (n := n) (p := p) (by have := pm_3 _ c; omega)
      obtain ⟨T, t1, t2, t3⟩ := x_step (L := L) (xs := xs) (d := d + 6) H hlt
      have hcc := of_decide_eq_true c
      have go : LQ (WK L xs) (ev (WK L xs) (d + 7)) 151 10 [some (vr 22), some (vi (o : Int)), some (vi (lv live)), some (vl v), none, some (vi (i : Int)), none, none, none] [] S = bindR (ev (WK L xs) (d + 7) 152 [vr 22, vi (o : Int), vi (lv live)] T) (fun r3 S4 => LQ (WK L xs) (ev (WK L xs) (d + 7)) 151 10 [some (vr 22), some (vi (o : Int)), some (vi (lv live)), some (vl (wkA (cu t n p) v r3)), none, some (vi ((i + 1 : Nat) : Int)), none, none, none] [] S4) := by
        rw [q_151_10, if_pos (by first | decide | omega)]
        by_cases q : cu t n p = 43
        · rw [if_pos (s43.mpr q), if_pos (s43.mpr q), q_151_50, t1, bR, e1]
          simp only [if_neg (show ¬ (1 : Int) = 0 by decide)]
          rw [q]
          rfl
        · have q5 : cu t n p = 45 := by omega
          rw [if_neg (fun z => q (s43.mp z)), if_pos (s45.mpr q5), if_neg (fun z => q (s43.mp z)), q_151_50, t1, bR, e1]
          simp only [if_pos (show (0 : Int) = 0 from rfl)]
          rw [q5]
          rfl
      have hop : ∀ a b : Int, opA (cu t n p) (some a) (some b) = some (wkA (cu t n p) a b) := fun a b => by
        show (if cu t n p = 38 then _ else if cu t n p = 124 then _ else if (cu t n p = 47 ∨ cu t n p = 37) ∧ b = 0 then none else some (wkA (cu t n p) a b)) = _
        rw [if_neg (by first | decide | omega), if_neg (by first | decide | omega), if_neg (by first | decide | omega)]
      have hF := xter_ok f o hf t2
      revert hF
      cases hp : terG t n (rdE t n f) o (p + 1) with
      | inl e =>
        intro hF hl
        obtain ⟨v2, U, u1, -, u3⟩ := hF hl
        exact ⟨_, U, by rw [go, u1, bR]; exact expD u3.dead _ _ _ _, bl0, u3.of t3⟩
      | inr x =>
        obtain ⟨q, g2⟩ := x
        rintro ⟨v2, U, u1, -, ⟨uG, uC, uv⟩ | ⟨ul, ug, uR⟩⟩
        · rw [u1, bR] at go
          exact CR.of (t3.tr uC) go (ih (i + 1) q _ _ U (by first | decide | omega) uG (fun hl => by rw [← hop]; exact (hg hl).bin (uv hl) (pm_3 _ c)))
        · rw [u1, bR, expD uR.dead] at go
          have hg3 : Cmp le ud (g ++ g2 ++ [(cu t n p, 0)]) none := by
            have := (hg ul).bin ug (pm_3 _ c)
            rw [show opA (cu t n p) (some v) none = none by
              show (if cu t n p = 38 then _ else if cu t n p = 124 then _ else none) = none
              rw [if_neg (by first | decide | omega), if_neg (by first | decide | omega)]] at this
            exact this
          exact CR.ref hw pm_3 ul go bl0 (uR.of t3) hg3 k q
    · rw [if_neg c]
      have hcc := of_decide_eq_false (nf c)
      exact ⟨v, S, by rw [q_151_10, if_pos (by first | decide | omega), if_neg (fun z => hcc (Or.inl (s43.mp z))), if_neg (fun z => hcc (Or.inr (s45.mp z)))], bl0, Or.inl ⟨H, Cf.rf, hg⟩⟩
theorem xexp_ok1 (f o : Nat) (hf : ∀ (p : Nat) (S : AH), GS L xs t n le ud S p → CR L xs t n le ud live false S (ev (WK L xs) (d + 6) 153 [vr 22, vi (o : Int), vi (lv live)] S) (facG t n (rdE t n f) o p)) (H : GS L xs t n le ud S p) : CR L xs t n le ud live false S (ev (WK L xs) (d + 8) 151 [vr 22, vi (o : Int), vi (lv live)] S) (rdE t n (f + 1) o p) := by
  have hw : WFp le ud (terG t n (rdE t n f) o) := terG_wf (rdE_wf f) o
  have hF := xter_ok f o hf H
  show CR L xs t n le ud live false S _ (rowG t n isPm (terG t n (rdE t n f) o) p)
  unfold rowG
  revert hF
  rw [q_151]
  cases terG t n (rdE t n f) o p with
  | inl e =>
    intro hF hl
    obtain ⟨v, T, t1, -, t3⟩ := hF hl
    exact ⟨v, T, by rw [t1, bR]; exact expD t3.dead _ _ _ _, bl0, t3⟩
  | inr x =>
    obtain ⟨q, g⟩ := x
    rintro ⟨v, T, t1, -, ⟨tG, tC, tv⟩ | ⟨tl, tg, tR⟩⟩
    · exact CR.of tC (by rw [t1, bR]; rfl) (xexp_row f o hf 200 0 q g v T rfl tG tv)
    · exact CR.ref hw pm_3 tl (by rw [t1, bR]; exact expD tR.dead _ _ _ _) bl0 tR tg 200 q
/-- one more is open -/
theorem x_opens (H : GS L xs t n le ud S p) (hp : p < n) (o : Nat) : (8 ≤ o → ∃ T, ev (WK L xs) (d + 2) 150 [vr 22, vi (o : Int)] S = some (0, T) ∧ FS S T (flt 5 p)) ∧ (o < 8 → ∃ T, ev (WK L xs) (d + 2) 150 [vr 22, vi (o : Int)] S = some (1, T) ∧ GS L xs t n le ud T (p + 1) ∧ Cf S T) := by
  have h200 := H.1.1
  refine ⟨fun q => ?_, fun q => ?_⟩
  · obtain ⟨T, t1, t2⟩ := x_fail (L := L) (xs := xs) (d := d) H (f := 5) (by decide) (q := p) (by first | decide | omega)
    exact ⟨T, by rw [q_150, if_neg (by first | decide | omega), H.2.2.1, t1, bR], t2⟩
  · obtain ⟨T, t1, t2, t3⟩ := x_step (L := L) (xs := xs) (d := d) H hp
    exact ⟨T, by rw [q_150, if_pos (by first | decide | omega), t1, bR], t2, t3⟩
theorem xfac_ok (f o : Nat) (ho : o ≤ 8) (he : o < 8 → ∀ (p : Nat) (S : AH), GS L xs t n le ud S p → CR L xs t n le ud live false S (ev (WK L xs) (d + 8) 151 [vr 22, vi ((o + 1 : Nat) : Int), vi (lv live)] S) (rdE t n f (o + 1) p)) (H : GS L xs t n le ud S p) : CR L xs t n le ud live false S (ev (WK L xs) (d + 9) 153 [vr 22, vi (o : Int), vi (lv live)] S) (facG t n (rdE t n f) o p) := by
  have h200 := H.1.1
  have hn := H.2.2.2.2.2.2
  have hb := sgn_b (n := n) (p := p) H.1.2.1
  have s91 : S.2 22 6 = 91 ↔ cu t n p = 91 := by rw [H.2.2.2.1]; exact sgn_cu (by decide)
  unfold facG
  by_cases c : cu t n p = 91
  · rw [if_pos c]
    have hlt := cu_pos (t := t) (n := n) (p := p) (by first | decide | omega)
    obtain ⟨o1, o2⟩ := x_opens (L := L) (xs := xs) (d := d + 6) H hlt o
    by_cases c2 : 8 ≤ o
    · rw [if_pos c2]
      obtain ⟨T, t1, t2⟩ := o1 c2
      refine CR.bad (v := 0) ?_ bl0 t2
      rw [q_153, if_pos (s91.mpr c), t1, bR, if_pos rfl, x_expectD t2.dead (by decide), bR]
    · rw [if_neg c2]
      obtain ⟨T, t1, t2, t3⟩ := o2 (by first | decide | omega)
      have go : ev (WK L xs) (d + 9) 153 [vr 22, vi (o : Int), vi (lv live)] S = bindR (ev (WK L xs) (d + 8) 151 [vr 22, vi ((o + 1 : Nat) : Int), vi (lv live)] T) (fun r11 S12 => (bindR (ev (WK L xs) (d + 8) 145 [vr 22, vi 93] S12) (fun r13 S14 => (some (r11, S14))))) := by
        rw [q_153, if_pos (s91.mpr c), t1, bR, if_neg (by decide), w32e (x := (o : Int) + 1) (by first | decide | omega) (by first | decide | omega)]
        rfl
      have hE := he (by first | decide | omega) _ _ t2
      revert hE
      cases hr : rdE t n f (o + 1) (p + 1) with
      | inl e =>
        intro hE hl
        obtain ⟨v, U, u1, -, u3⟩ := hE hl
        exact ⟨v, U, by rw [go, u1, bR, x_expectD u3.dead (by decide), bR], bl0, u3.of t3⟩
      | inr x =>
        obtain ⟨q, g⟩ := x
        rintro ⟨v, U, u1, -, ⟨uG, uC, uv⟩ | ⟨ul, ug, uR⟩⟩
        · rw [u1, bR] at go
          obtain ⟨e1, e2⟩ := x_expect (L := L) (xs := xs) (d := d + 6) uG (c := 93) (by decide)
          by_cases c3 : cu t n q = 93
          · show CR L xs t n le ud live false S _ (if cu t n q = 93 then .inr (q + 1, g) else .inl (flt 1 q))
            rw [if_pos c3]
            obtain ⟨V, v1, v2, v3⟩ := e1 c3
            exact ⟨v, V, by rw [go, v1, bR], bl0, Or.inl ⟨v2, (t3.tr uC).tr v3, uv⟩⟩
          · show CR L xs t n le ud live false S _ (if cu t n q = 93 then .inr (q + 1, g) else .inl (flt 1 q))
            rw [if_neg c3]
            obtain ⟨V, v1, v2⟩ := e2 c3
            exact CR.bad (v := v) (by rw [go, v1, bR]) bl0 (v2.of (t3.tr uC))
        · rw [u1, bR, x_expectD uR.dead (by decide), bR] at go
          show CR L xs t n le ud live false S _ (if cu t n q = 93 then .inr (q + 1, g) else .inl (flt 1 q))
          by_cases c3 : cu t n q = 93
          · rw [if_pos c3]
            exact ⟨v, U, go, bl0, Or.inr ⟨ul, ug, uR.of t3⟩⟩
          · rw [if_neg c3]
            exact fun z => absurd (z.symm.trans ul) (by decide)
  · rw [if_neg c]
    have go : ev (WK L xs) (d + 9) 153 [vr 22, vi (o : Int), vi (lv live)] S = (if ¬ dgt (cu t n p) = true then (if sgn t n p = (-1 : Int) then (LQ (WK L xs) (ev (WK L xs) (d + 8)) 153 75 [some (vr 22), none, none, none, none] [vi (-1 : Int)] S) else (bindR (ev (WK L xs) (d + 8) 323 [vr 4, vi (w16u (sgn t n p))] S) (fun r3 S4 => (LQ (WK L xs) (ev (WK L xs) (d + 8)) 153 75 [some (vr 22), none, none, none, none] [vi r3] S4)))) else (bindR (ev (WK L xs) (d + 8) 143 [vr 22, vi (999999 : Int)] S) (fun r5 S6 => (some (r5, S6))))) := by
      rw [q_153, if_neg (fun z => c (s91.mp z)), x_dig H.2.2.2.1, bR, sgn_dg, H.2.2.2.1]
      simp only [bi_0]
    by_cases c1 : dgt (cu t n p) = true
    · rw [if_pos c1]
      rw [if_neg (fun z => z c1)] at go
      have hr := x_num (L := L) (xs := xs) (d := d + 6) 999999 H
      revert hr
      cases hN : rdN t n 999999 p with
      | inl e =>
        rintro ⟨w, T, t1, t2⟩
        exact CR.bad (v := w) (by rw [go, show ev (WK L xs) (d + 8) 143 [vr 22, vi 999999] S = some (w, T) from t1, bR]) bl0 t2
      | inr x =>
        obtain ⟨q, v⟩ := x
        rintro ⟨T, t1, t2, t3⟩
        exact ⟨v, T, by rw [go, show ev (WK L xs) (d + 8) 143 [vr 22, vi 999999] S = some (v, T) from t1, bR], bl0, Or.inl ⟨t2, t3, fun _ => Cmp.num v⟩⟩
    · rw [if_neg c1]
      rw [if_pos c1] at go
      obtain ⟨F, f1, f2⟩ := x_fail (L := L) (xs := xs) (d := d + 7) H (f := 1) (by decide) (q := p) (by first | decide | omega)
      have failed : ∀ z : Int, z < 0 → LQ (WK L xs) (ev (WK L xs) (d + 8)) 153 75 [some (vr 22), none, none, none, none] [vi z] S = some (0, F) := fun z hz => by rw [q_153_75, if_pos hz, H.2.2.1, f1, bR]
      by_cases c2 : isVl (cu t n p) = true
      · rw [if_pos c2]
        have hcc := of_decide_eq_true c2
        have hlt := cu_pos (t := t) (n := n) (p := p) (by first | decide | omega)
        obtain ⟨T, t1, t2, t3⟩ := x_step (L := L) (xs := xs) (d := d + 7) H hlt
        have h8 := (w8c (c := cu t n p) (by first | decide | omega)).1 (by first | decide | omega)
        rw [cu_sgn hlt, if_neg (by first | decide | omega), w16c (by first | decide | omega), x_idx4 (by first | decide | omega), bR, h8] at go
        have fa := t2.2.1.1
        have pick : ∀ (z : Int) (k : Nat), z = (k : Int) → k < 7 → T.2 26 k = le (cu t n p) → LQ (WK L xs) (ev (WK L xs) (d + 8)) 153 75 [some (vr 22), none, none, none, none] [vi z] S = some (le (cu t n p), T) := fun z k hz hk hv => by
          rw [q_153_75, hz, if_neg (by first | decide | omega), if_pos (by first | decide | omega), t1, bR, if_pos (by first | decide | omega), Int.toNat_natCast, hv]
        refine ⟨le (cu t n p), T, ?_, bl0, Or.inl ⟨t2, t3, fun _ => Cmp.let _⟩⟩
        rw [go]
        rcases hcc with e | e | e | e | e | e | e
        · exact pick _ 0 (by rw [e]; rfl) (by decide) (by rw [e]; exact fa.1)
        · exact pick _ 1 (by rw [e]; rfl) (by decide) (by rw [e]; exact fa.2.1)
        · exact pick _ 2 (by rw [e]; rfl) (by decide) (by rw [e]; exact fa.2.2.1)
        · exact pick _ 3 (by rw [e]; rfl) (by decide) (by rw [e]; exact fa.2.2.2.1)
        · exact pick _ 4 (by rw [e]; rfl) (by decide) (by rw [e]; exact fa.2.2.2.2.1)
        · exact pick _ 5 (by rw [e]; rfl) (by decide) (by rw [e]; exact fa.2.2.2.2.2.1)
        · exact pick _ 6 (by rw [e]; rfl) (by decide) (by rw [e]; exact fa.2.2.2.2.2.2)
      · rw [if_neg c2]
        have hcc := of_decide_eq_false (nf c2)
        refine CR.bad (v := 0) ?_ bl0 f2
        by_cases q : sgn t n p = -1
        · rw [go, if_pos q, failed _ (by decide)]
        · have hlt := sgn_lt q
          have h8 := w8c (c := sgn t n p) (by first | decide | omega)
          rw [go, if_neg q, w16c (by first | decide | omega), x_idx4 (by first | decide | omega), bR]
          refine failed _ ?_
          rw [cu_sgn hlt] at h8 ⊢
          simp only [ixl]
          repeat' split
          all_goals omega
theorem xexp_ok (f : Nat) : ∀ (o p : Nat) (S : AH), o ≤ 8 → 9 ≤ f + o → GS L xs t n le ud S p → CR L xs t n le ud live false S (ev (WK L xs) (d + 3 * f + 8) 151 [vr 22, vi (o : Int), vi (lv live)] S) (rdE t n f o p) := by
  induction f with
  | zero =>
    intro o p S h1 h2
    omega
  | succ f ih =>
    intro o p S h1 h2 H
    have e : d + 3 * (f + 1) + 8 = (d + 3 * f + 3) + 8 := by omega
    rw [e]
    refine xexp_ok1 (d := d + 3 * f + 3) f o (fun p S hG => ?_) H
    exact xfac_ok (d := d + 3 * f) f o h1 (fun h8 p S hG => ih (o + 1) p S (by first | decide | omega) (by first | decide | omega) hG) hG
end
end
section
-- 97.xcond
/-! the class reads a condition as the descent does -/
section
variable {le : Int → Int} {ud : Int → Bool} {t : TB} {n : Nat}
theorem nds_v (k p : Nat) (v : Int) (hv : 0 ≤ v) : 0 ≤ (nds t n k p v).2 := by
  induction k generalizing p v with
  | zero => unfold nds; exact hv
  | succ k ih =>
    unfold nds
    by_cases q : dgt (cu t n p) = true
    · rw [if_pos q]
      have := dgt_b q
      exact ih _ _ (by first | decide | omega)
    · rw [if_neg q]
      exact hv
theorem rdN_v {most : Int} {p q : Nat} {v : Int} (h : rdN t n most p = .inr (q, v)) : 0 ≤ v ∧ v ≤ most := by
  unfold rdN at h
  by_cases c : dgt (cu t n p) = false
  · rw [if_pos c] at h
    cases h
  · rw [if_neg c] at h
    by_cases c1 : dgt (cu t n (nds t n 6 p 0).1) = true
    · rw [if_pos c1] at h
      cases h
    · rw [if_neg c1] at h
      by_cases c2 : most < (nds t n 6 p 0).2
      · rw [if_pos c2] at h
        cases h
      · rw [if_neg c2] at h
        simp only [Sum.inr.injEq] at h
        have := nds_v (t := t) (n := n) 6 p 0 (by decide)
        rw [h] at this c2
        exact ⟨this, by omega⟩
theorem cmpG_wf (o : Nat) : WFp le ud (cmpG t n o) := by
  intro p q g e
  unfold cmpG at e
  cases h1 : rdE t n 9 o p with
  | inl x => rw [h1] at e; cases e
  | inr x =>
    obtain ⟨r, g1⟩ := x
    rw [h1] at e
    obtain ⟨o1, a1⟩ := rdE_wf (le := le) (ud := ud) _ _ _ _ _ h1
    by_cases c : isSg (cu t n r) = true
    · simp only [c, if_true] at e
      cases h2 : rdE t n 9 o (r + 1) with
      | inl x => rw [h2] at e; cases e
      | inr x =>
        obtain ⟨r2, g2⟩ := x
        rw [h2] at e
        obtain ⟨o2, a2⟩ := rdE_wf (le := le) (ud := ud) _ _ _ _ _ h2
        simp only [Sum.inr.injEq, Prod.mk.injEq] at e
        rw [← e.2]
        exact ⟨_, a1.bin a2 (sg_3 _ c)⟩
    · simp only [c] at e
      cases e
theorem pieG_wf {recP recC : Nat → Nat → PR} (hP : ∀ o, WFp le ud (recP o)) (hC : ∀ o, WFp le ud (recC o)) (o : Nat) : WFp le ud (pieG t n recP recC o) := by
  intro p q g e
  unfold pieG at e
  by_cases c1 : cu t n p = 33
  · rw [if_pos c1] at e
    by_cases c2 : 8 ≤ o
    · rw [if_pos c2] at e
      cases e
    · rw [if_neg c2] at e
      cases hr : recP (o + 1) (p + 1) with
      | inl x => rw [hr] at e; cases e
      | inr x =>
        obtain ⟨r, g1⟩ := x
        rw [hr] at e
        obtain ⟨o1, a1⟩ := hP _ _ _ _ hr
        simp only [Sum.inr.injEq, Prod.mk.injEq] at e
        rw [← e.2]
        exact ⟨_, a1.neg⟩
  · rw [if_neg c1] at e
    by_cases c3 : cu t n p = 40
    · rw [if_pos c3] at e
      by_cases c2 : 8 ≤ o
      · rw [if_pos c2] at e
        cases e
      · rw [if_neg c2] at e
        cases hr : recC (o + 1) (p + 1) with
        | inl x => rw [hr] at e; cases e
        | inr x =>
          obtain ⟨r, g1⟩ := x
          rw [hr] at e
          have := hC _ _ _ _ hr
          by_cases c4 : cu t n r = 41
          · simp only [c4, if_true, Sum.inr.injEq, Prod.mk.injEq] at e
            rw [← e.2]
            exact this
          · simp only [c4, if_false] at e
            cases e
    · rw [if_neg c3] at e
      by_cases c5 : cu t n p = 117
      · rw [if_pos c5] at e
        cases hr : rdN t n 39 (p + 1) with
        | inl x => rw [hr] at e; cases e
        | inr x =>
          obtain ⟨r, v⟩ := x
          rw [hr] at e
          simp only [Sum.inr.injEq, Prod.mk.injEq] at e
          rw [← e.2]
          exact ⟨_, Cmp.und (rdN_v hr).1⟩
      · rw [if_neg c5] at e
        exact cmpG_wf _ _ _ _ e
theorem cndG_wf {pie : Nat → PR} (h : WFp le ud pie) : WFp le ud (cndG t n pie) := rowG_wf (rowG_wf h and_3) or_3
theorem rdP_wf (f : Nat) : ∀ o, WFp le ud (rdP t n f o) := by
  induction f with
  | zero => intro o p q g e; cases e
  | succ f ih => intro o; exact pieG_wf ih (fun o => cndG_wf (ih o)) o
end
section
variable {L : Nat} {xs : Nat → Int} {d : Nat} {S S' T U W : AH} {t : TB} {n p : Nat} {le : Int → Int} {ud : Int → Bool} {live bl : Bool}
theorem b01 {P : Prop} [Decidable P] {S : AH} : (if P then (some ((1 : Int), S) : Rs) else some (0, S)) = some (bi P, S) := ite_bi
theorem biv {P : Prop} [Decidable P] : (true = true → bi P = 0 ∨ bi P = 1) := fun _ => by rw [bi_01]; trivial
theorem xcmp_ok (o : Nat) (ho : 1 ≤ o ∧ o ≤ 8) (H : GS L xs t n le ud S p) (h1 : cu t n p ≠ 33) (h2 : cu t n p ≠ 40) (h3 : cu t n p ≠ 117) : CR L xs t n le ud live true S (ev (WK L xs) (d + 36) 149 [vr 22, vi (o : Int), vi (lv live)] S) (cmpG t n o p) := by
  have h200 := H.1.1
  have s33 : S.2 22 6 = 33 ↔ cu t n p = 33 := by rw [H.2.2.2.1]; exact sgn_cu (by decide)
  have s40 : S.2 22 6 = 40 ↔ cu t n p = 40 := by rw [H.2.2.2.1]; exact sgn_cu (by decide)
  have s117 : S.2 22 6 = 117 ↔ cu t n p = 117 := by rw [H.2.2.2.1]; exact sgn_cu (by decide)
  have go : ev (WK L xs) (d + 36) 149 [vr 22, vi (o : Int), vi (lv live)] S = bindR (ev (WK L xs) (d + 35) 151 [vr 22, vi (o : Int), vi (lv live)] S) (fun r1 S2 => (bindR (ev (WK L xs) (d + 35) 139 [vr 22, vr 6] S2) (fun r3 S4 => (if r3 = 0 then (bindR (ev (WK L xs) (d + 35) 141 [vr 22, vi (1 : Int), vi (S4.2 22 4)] S4) (fun r9 S10 => (some ((0 : Int), S10)))) else (bindR (ev (WK L xs) (d + 35) 137 [vr 22] S4) (fun r5 S6 => (bindR (ev (WK L xs) (d + 35) 151 [vr 22, vi (o : Int), vi (lv live)] S6) (fun r7 S8 => some (if (S2.2 22 6) = (60 : Int) then bi (r1 < r7) else if (S2.2 22 6) = (62 : Int) then bi (r7 < r1) else bi (r1 = r7), S8))))))))) := by
    rw [q_149, if_neg (fun z => h1 (s33.mp z)), if_neg (fun z => h2 (s40.mp z)), if_neg (fun z => h3 (s117.mp z))]
    simp only [lc_lt, lc_gt, lc_eq, b01]
    congr 1
    funext r1 S2
    congr 1
    funext r3 S4
    by_cases q : r3 = 0
    · rw [if_pos q, if_pos q]
    · rw [if_neg q, if_neg q]
      congr 1
      funext r5 S6
      congr 1
      funext r7 S8
      by_cases q1 : S2.2 22 6 = 60
      · rw [if_pos q1, if_pos q1]
      · rw [if_neg q1, if_neg q1]
        by_cases q2 : S2.2 22 6 = 62
        · rw [if_pos q2, if_pos q2]
        · rw [if_neg q2, if_neg q2]
  have v01 : ∀ (c r1 r7 : Int), (if c = (60 : Int) then bi (r1 < r7) else if c = (62 : Int) then bi (r7 < r1) else bi (r1 = r7)) = 0 ∨ (if c = (60 : Int) then bi (r1 < r7) else if c = (62 : Int) then bi (r7 < r1) else bi (r1 = r7)) = 1 := fun c r1 r7 => by
    repeat' split
    all_goals (rw [bi_01]; trivial)
  have hE := xexp_ok (L := L) (xs := xs) (d := d) (le := le) (ud := ud) (live := live) 9 o p S ho.2 (by first | decide | omega) H
  unfold cmpG
  revert hE
  rw [show d + 3 * 9 + 8 = d + 35 from rfl]
  cases hr : rdE t n 9 o p with
  | inl e =>
    intro hE hl
    obtain ⟨v, T, t1, -, t3⟩ := hE hl
    exact ⟨0, T, by rw [go, t1, bR, x_next6 t3.dead.1 (by decide), bR, bi_F (by decide), if_pos rfl, x_failD t3.dead, bR], fun _ => Or.inl rfl, t3⟩
  | inr x =>
    obtain ⟨q, g⟩ := x
    rintro ⟨v, T, t1, -, ⟨tG, tC, tv⟩ | ⟨tl, tg, tR⟩⟩
    · rw [t1, bR, x_next6 tG.2.2.2.1 (sgn_b tG.1.2.1), sgn_sg, bR] at go
      show CR L xs t n le ud live true S _ (if isSg (cu t n q) then (match rdE t n 9 o (q + 1) with
        | .inl e => .inl e
        | .inr (r, g2) => .inr (r, g ++ g2 ++ [(cu t n q, 0)])) else .inl (flt 1 q))
      have hqn := tG.2.2.2.2.2.2
      by_cases c : isSg (cu t n q) = true
      · have hcc := of_decide_eq_true c
        have hlt := cu_pos (t := t) (n := n) (p := q) (by first | decide | omega)
        obtain ⟨U, u1, u2, u3⟩ := x_step (L := L) (xs := xs) (d := d + 34) tG hlt
        rw [if_pos c]
        rw [bi_T c, if_neg (by decide), u1, bR] at go
        have hE2 := xexp_ok (L := L) (xs := xs) (d := d) (le := le) (ud := ud) (live := live) 9 o (q + 1) U ho.2 (by first | decide | omega) u2
        revert hE2
        rw [show d + 3 * 9 + 8 = d + 35 from rfl]
        rw [tG.2.2.2.1, cu_sgn hlt] at go
        cases hr2 : rdE t n 9 o (q + 1) with
        | inl e =>
          intro hE2 hl
          obtain ⟨w, V, v1, -, v3⟩ := hE2 hl
          exact ⟨_, V, by rw [go, v1, bR], fun _ => v01 _ _ _, v3.of (tC.tr u3)⟩
        | inr y =>
          obtain ⟨r, g2⟩ := y
          rintro ⟨w, V, v1, -, ⟨vG, vC, vv⟩ | ⟨vl, vg, vR⟩⟩
          · rw [v1, bR] at go
            refine ⟨_, V, go, fun _ => v01 _ _ _, Or.inl ⟨vG, (tC.tr u3).tr vC, fun hl => ?_⟩⟩
            have := (tv hl).bin (vv hl) (sg_3 _ c)
            rw [show opA (cu t n q) (some v) (some w) = some (if cu t n q = (60 : Int) then bi (v < w) else if cu t n q = (62 : Int) then bi (w < v) else bi (v = w)) by
              show (if cu t n q = 38 then _ else if cu t n q = 124 then _ else if (cu t n q = 47 ∨ cu t n q = 37) ∧ w = 0 then none else some (wkA (cu t n q) v w)) = _
              rw [if_neg (by first | decide | omega), if_neg (by first | decide | omega), if_neg (by first | decide | omega)]
              unfold wkA
              rw [if_neg (by first | decide | omega), if_neg (by first | decide | omega), if_neg (by first | decide | omega), if_neg (by first | decide | omega), if_neg (by first | decide | omega)]] at this
            exact this
          · rw [v1, bR] at go
            refine ⟨_, V, go, fun _ => v01 _ _ _, Or.inr ⟨vl, ?_, vR.of (tC.tr u3)⟩⟩
            have := (tv vl).bin vg (sg_3 _ c)
            rw [show opA (cu t n q) (some v) none = none by
              show (if cu t n q = 38 then _ else if cu t n q = 124 then _ else none) = none
              rw [if_neg (by first | decide | omega), if_neg (by first | decide | omega)]] at this
            exact this
      · rw [if_neg c]
        obtain ⟨F, f1, f2⟩ := x_fail (L := L) (xs := xs) (d := d + 34) tG (f := 1) (by decide) (q := q) (by first | decide | omega)
        rw [bi_F c, if_pos rfl, tG.2.2.1, f1, bR] at go
        exact CR.bad go (fun _ => Or.inl rfl) (f2.of tC)
    · rw [t1, bR, x_next6 tR.dead.1 (by decide), bR, bi_F (by decide), if_pos rfl, x_failD tR.dead, bR] at go
      show CR L xs t n le ud live true S _ (if isSg (cu t n q) then (match rdE t n 9 o (q + 1) with
        | .inl e => .inl e
        | .inr (r, g2) => .inr (r, g ++ g2 ++ [(cu t n q, 0)])) else .inl (flt 1 q))
      by_cases c : isSg (cu t n q) = true
      · rw [if_pos c]
        cases hr2 : rdE t n 9 o (q + 1) with
        | inl e => exact fun z => absurd (z.symm.trans tl) (by decide)
        | inr y =>
          obtain ⟨r, g2⟩ := y
          obtain ⟨o2, a2⟩ := rdE_wf (le := le) (ud := ud) _ _ _ _ _ hr2
          exact ⟨0, T, go, fun _ => Or.inl rfl, Or.inr ⟨tl, tg.bin a2 (sg_3 _ c), tR⟩⟩
      · rw [if_neg c]
        exact fun z => absurd (z.symm.trans tl) (by decide)
theorem parD (h : Dead S) (o l v i : Int) (hv : v = 0 ∨ v = 1) : LQ (WK L xs) (ev (WK L xs) d) 148 10 [some (vr 22), some (vi o), some (vi l), some (vi v), some (vi i), none, none] [] S = some (v, S) := by
  rw [q_148_10, h.1]
  by_cases q : i < 200
  · rw [if_pos q, if_neg (by decide), if_pos hv]
  · rw [if_neg q, if_pos hv]
theorem cndD (h : Dead S) (o l v i : Int) (hv : v = 0 ∨ v = 1) : LQ (WK L xs) (ev (WK L xs) d) 147 10 [some (vr 22), some (vi o), some (vi l), some (vi v), some (vi i), none, none] [] S = some (v, S) := by
  rw [q_147_10, h.1]
  by_cases q : i < 200
  · rw [if_pos q, if_neg (by decide), if_pos hv]
  · rw [if_neg q, if_pos hv]
theorem xpar_row {pie : Nat → PR} {o : Int} (hw : WFp le ud pie) (hf : ∀ (lv' : Bool) (p : Nat) (S : AH), GS L xs t n le ud S p → CR L xs t n le ud lv' true S (ev (WK L xs) (d + 1) 149 [vr 22, vi o, vi (lv lv')] S) (pie p)) : ∀ (k i p : Nat) (g : CD) (v : Int) (S : AH), i + k = 200 → GS L xs t n le ud S p → (v = 0 ∨ v = 1) → (live = true → Cmp le ud g (some v)) → CR L xs t n le ud live true S (LQ (WK L xs) (ev (WK L xs) (d + 1)) 148 10 [some (vr 22), some (vi o), some (vi (lv live)), some (vi v), some (vi (i : Int)), none, none] [] S) (rowL t n isAnd pie k p g) := by
  intro k
  induction k with
  | zero =>
    intro i p g v S hi H hv hg
    exact ⟨v, S, by rw [q_148_10, if_neg (by first | decide | omega), if_pos hv], fun _ => hv, Or.inl ⟨H, Cf.rf, hg⟩⟩
  | succ k ih =>
    intro i p g v S hi H hv hg
    have e1 : w32 ((i : Int) + 1) = ((i + 1 : Nat) : Int) := by
      rw [w32e (by first | decide | omega) (by first | decide | omega)]
      rfl
    have s38 : S.2 22 6 = 38 ↔ cu t n p = 38 := by rw [H.2.2.2.1]; exact sgn_cu (by decide)
    unfold rowL
    by_cases c : isAnd (cu t n p) = true
    · rw [if_pos c]
      have hcc : cu t n p = 38 := of_decide_eq_true c
      have hlt := cu_pos (t := t) (n := n) (p := p) (by first | decide | omega)
      obtain ⟨T, t1, t2, t3⟩ := x_step (L := L) (xs := xs) (d := d) H hlt
      obtain ⟨ak, hak⟩ : ∃ ak : Bool, ak = (live && decide (v = 1)) := ⟨_, rfl⟩
      have go : LQ (WK L xs) (ev (WK L xs) (d + 1)) 148 10 [some (vr 22), some (vi o), some (vi (lv live)), some (vi v), some (vi (i : Int)), none, none] [] S = bindR (ev (WK L xs) (d + 1) 149 [vr 22, vi o, vi (lv ak)] T) (fun r1 S2 => LQ (WK L xs) (ev (WK L xs) (d + 1)) 148 10 [some (vr 22), some (vi o), some (vi (lv live)), some (vi (if ak = true then r1 else v)), some (vi ((i + 1 : Nat) : Int)), none, none] [] S2) := by
        rw [q_148_10, if_pos (by first | decide | omega), if_pos (s38.mpr hcc), t1, bR]
        cases hl : live with
        | false =>
          rw [hl] at hak
          rw [if_pos (show lv false = 0 from rfl), q_148_44, hak, e1]
          simp only [if_pos]
          rfl
        | true =>
          rw [hl] at hak
          rw [if_neg (show ¬ lv true = 0 by decide)]
          rcases hv with hv | hv
          · rw [if_pos hv, q_148_44, hak, e1, hv]
            simp only [if_pos]
            rfl
          · rw [if_neg (by first | decide | omega), q_148_44, hak, e1, hv]
            rfl
      have hF := hf ak _ _ t2
      revert hF
      cases hp : pie (p + 1) with
      | inl e =>
        intro hF hl
        have ha : ak = false := by rw [hak, hl]; rfl
        obtain ⟨v2, U, u1, u2, u3⟩ := hF ha
        refine ⟨v, U, ?_, fun _ => hv, u3.of t3⟩
        rw [go, u1, bR, ha, if_neg (by decide)]
        exact parD u3.dead _ _ _ _ hv
      | inr x =>
        obtain ⟨q, g2⟩ := x
        obtain ⟨o2, ho2⟩ := hw _ _ _ hp
        rintro ⟨v2, U, u1, u2, ⟨uG, uC, uv⟩ | ⟨ul, ug, uR⟩⟩
        · rw [u1, bR] at go
          have hv2 : (if ak = true then v2 else v) = 0 ∨ (if ak = true then v2 else v) = 1 := by
            by_cases z : ak = true
            · rw [if_pos z]
              exact u2 rfl
            · rw [if_neg z]
              exact hv
          refine CR.of (t3.tr uC) go (ih (i + 1) q _ _ U (by first | decide | omega) uG hv2 (fun hl => ?_))
          by_cases z : ak = true
          · have := (hg hl).bin (uv z) (and_3 _ c)
            have v1 : v = 1 := by
              rw [hak, hl] at z
              simpa using z
            rw [if_pos z]
            rw [v1, hcc, show opA 38 (some 1) (some v2) = some v2 from rfl] at this
            rw [hcc]
            exact this
          · have v0 : v = 0 := by
              rcases hv with hv | hv
              · exact hv
              · exact absurd (by rw [hak, hl, hv]; rfl) z
            have := (hg hl).bin ho2 (and_3 _ c)
            rw [if_neg z, v0]
            rw [v0, hcc, show opA 38 (some 0) o2 = some 0 from rfl] at this
            rw [hcc]
            exact this
        · have hl : live = true := by
            rw [hak] at ul
            simp only [Bool.and_eq_true] at ul
            exact ul.1
          have v1 : v = 1 := by
            rw [hak, hl] at ul
            simpa using ul
          have hg3 : Cmp le ud (g ++ g2 ++ [(cu t n p, 0)]) none := by
            have := (hg hl).bin ug (and_3 _ c)
            rw [v1, hcc, show opA 38 (some 1) none = none from rfl] at this
            rw [hcc]
            exact this
          rw [u1, bR, if_pos ul, parD uR.dead _ _ _ _ (u2 rfl)] at go
          exact CR.ref hw and_3 hl go u2 (uR.of t3) hg3 k q
    · rw [if_neg c]
      have hcc : cu t n p ≠ 38 := of_decide_eq_false (nf c)
      exact ⟨v, S, by rw [q_148_10, if_pos (by first | decide | omega), if_neg (fun z => hcc (s38.mp z)), if_pos hv], fun _ => hv, Or.inl ⟨H, Cf.rf, hg⟩⟩
theorem xpar_ok {pie : Nat → PR} {o : Int} (hw : WFp le ud pie) (hf : ∀ (lv' : Bool) (p : Nat) (S : AH), GS L xs t n le ud S p → CR L xs t n le ud lv' true S (ev (WK L xs) (d + 1) 149 [vr 22, vi o, vi (lv lv')] S) (pie p)) (H : GS L xs t n le ud S p) : CR L xs t n le ud live true S (ev (WK L xs) (d + 2) 148 [vr 22, vi o, vi (lv live)] S) (rowG t n isAnd pie p) := by
  have hF := hf live p S H
  unfold rowG
  revert hF
  rw [q_148]
  cases pie p with
  | inl e =>
    intro hF hl
    obtain ⟨v, T, t1, t2, t3⟩ := hF hl
    exact ⟨v, T, by rw [t1, bR]; exact parD t3.dead _ _ _ _ (t2 rfl), t2, t3⟩
  | inr x =>
    obtain ⟨q, g⟩ := x
    rintro ⟨v, T, t1, t2, ⟨tG, tC, tv⟩ | ⟨tl, tg, tR⟩⟩
    · exact CR.of tC (by rw [t1, bR]; rfl) (xpar_row hw hf 200 0 q g v T rfl tG (t2 rfl) tv)
    · exact CR.ref hw and_3 tl (by rw [t1, bR]; exact parD tR.dead _ _ _ _ (t2 rfl)) t2 tR tg 200 q
theorem xcnd_row {pie : Nat → PR} {o : Int} (hw : WFp le ud pie) (hf : ∀ (lv' : Bool) (p : Nat) (S : AH), GS L xs t n le ud S p → CR L xs t n le ud lv' true S (ev (WK L xs) (d + 1) 149 [vr 22, vi o, vi (lv lv')] S) (pie p)) : ∀ (k i p : Nat) (g : CD) (v : Int) (S : AH), i + k = 200 → GS L xs t n le ud S p → (v = 0 ∨ v = 1) → (live = true → Cmp le ud g (some v)) → CR L xs t n le ud live true S (LQ (WK L xs) (ev (WK L xs) (d + 2)) 147 10 [some (vr 22), some (vi o), some (vi (lv live)), some (vi v), some (vi (i : Int)), none, none] [] S) (rowL t n isOr (rowG t n isAnd pie) k p g) := by
  have hw2 : WFp le ud (rowG t n isAnd pie) := rowG_wf hw and_3
  intro k
  induction k with
  | zero =>
    intro i p g v S hi H hv hg
    exact ⟨v, S, by rw [q_147_10, if_neg (by first | decide | omega), if_pos hv], fun _ => hv, Or.inl ⟨H, Cf.rf, hg⟩⟩
  | succ k ih =>
    intro i p g v S hi H hv hg
    have e1 : w32 ((i : Int) + 1) = ((i + 1 : Nat) : Int) := by
      rw [w32e (by first | decide | omega) (by first | decide | omega)]
      rfl
    have s124 : S.2 22 6 = 124 ↔ cu t n p = 124 := by rw [H.2.2.2.1]; exact sgn_cu (by decide)
    unfold rowL
    by_cases c : isOr (cu t n p) = true
    · rw [if_pos c]
      have hcc : cu t n p = 124 := of_decide_eq_true c
      have hlt := cu_pos (t := t) (n := n) (p := p) (by first | decide | omega)
      obtain ⟨T, t1, t2, t3⟩ := x_step (L := L) (xs := xs) (d := d + 1) H hlt
      obtain ⟨ak, hak⟩ : ∃ ak : Bool, ak = (live && decide (v = 0)) := ⟨_, rfl⟩
      have go : LQ (WK L xs) (ev (WK L xs) (d + 2)) 147 10 [some (vr 22), some (vi o), some (vi (lv live)), some (vi v), some (vi (i : Int)), none, none] [] S = bindR (ev (WK L xs) (d + 2) 148 [vr 22, vi o, vi (lv ak)] T) (fun r1 S2 => LQ (WK L xs) (ev (WK L xs) (d + 2)) 147 10 [some (vr 22), some (vi o), some (vi (lv live)), some (vi (if ak = true then r1 else v)), some (vi ((i + 1 : Nat) : Int)), none, none] [] S2) := by
        rw [q_147_10, if_pos (by first | decide | omega), if_pos (s124.mpr hcc), t1, bR]
        cases hl : live with
        | false =>
          rw [hl] at hak
          rw [if_pos (show lv false = 0 from rfl), q_147_44, hak, e1]
          simp only [if_pos]
          rfl
        | true =>
          rw [hl] at hak
          rw [if_neg (show ¬ lv true = 0 by decide)]
          rcases hv with hv | hv
          · rw [if_pos hv, q_147_44, hak, e1, hv]
            rfl
          · rw [if_neg (by first | decide | omega), q_147_44, hak, e1, hv]
            simp only [if_pos]
            rfl
      have hF := xpar_ok (live := ak) hw hf t2
      revert hF
      cases hp : rowG t n isAnd pie (p + 1) with
      | inl e =>
        intro hF hl
        have ha : ak = false := by rw [hak, hl]; rfl
        obtain ⟨v2, U, u1, u2, u3⟩ := hF ha
        refine ⟨v, U, ?_, fun _ => hv, u3.of t3⟩
        rw [go, u1, bR, ha, if_neg (by decide)]
        exact cndD u3.dead _ _ _ _ hv
      | inr x =>
        obtain ⟨q, g2⟩ := x
        obtain ⟨o2, ho2⟩ := hw2 _ _ _ hp
        rintro ⟨v2, U, u1, u2, ⟨uG, uC, uv⟩ | ⟨ul, ug, uR⟩⟩
        · rw [u1, bR] at go
          have hv2 : (if ak = true then v2 else v) = 0 ∨ (if ak = true then v2 else v) = 1 := by
            by_cases z : ak = true
            · rw [if_pos z]
              exact u2 rfl
            · rw [if_neg z]
              exact hv
          refine CR.of (t3.tr uC) go (ih (i + 1) q _ _ U (by first | decide | omega) uG hv2 (fun hl => ?_))
          by_cases z : ak = true
          · have := (hg hl).bin (uv z) (or_3 _ c)
            have v0 : v = 0 := by
              rw [hak, hl] at z
              simpa using z
            rw [if_pos z]
            rw [v0, hcc, show opA 124 (some 0) (some v2) = some v2 from rfl] at this
            rw [hcc]
            exact this
          · have v1 : v = 1 := by
              rcases hv with hv | hv
              · exact absurd (by rw [hak, hl, hv]; rfl) z
              · exact hv
            have := (hg hl).bin ho2 (or_3 _ c)
            rw [if_neg z, v1]
            rw [v1, hcc, show opA 124 (some 1) o2 = some 1 from rfl] at this
            rw [hcc]
            exact this
        · have hl : live = true := by
            rw [hak] at ul
            simp only [Bool.and_eq_true] at ul
            exact ul.1
          have v0 : v = 0 := by
            rw [hak, hl] at ul
            simpa using ul
          have hg3 : Cmp le ud (g ++ g2 ++ [(cu t n p, 0)]) none := by
            have := (hg hl).bin ug (or_3 _ c)
            rw [v0, hcc, show opA 124 (some 0) none = none from rfl] at this
            rw [hcc]
            exact this
          rw [u1, bR, if_pos ul, cndD uR.dead _ _ _ _ (u2 rfl)] at go
          exact CR.ref hw2 or_3 hl go u2 (uR.of t3) hg3 k q
    · rw [if_neg c]
      have hcc : cu t n p ≠ 124 := of_decide_eq_false (nf c)
      exact ⟨v, S, by rw [q_147_10, if_pos (by first | decide | omega), if_neg (fun z => hcc (s124.mp z)), if_pos hv], fun _ => hv, Or.inl ⟨H, Cf.rf, hg⟩⟩
theorem xcnd_ok {pie : Nat → PR} {o : Int} (hw : WFp le ud pie) (hf : ∀ (lv' : Bool) (p : Nat) (S : AH), GS L xs t n le ud S p → CR L xs t n le ud lv' true S (ev (WK L xs) (d + 1) 149 [vr 22, vi o, vi (lv lv')] S) (pie p)) (H : GS L xs t n le ud S p) : CR L xs t n le ud live true S (ev (WK L xs) (d + 3) 147 [vr 22, vi o, vi (lv live)] S) (cndG t n pie p) := by
  have hw2 : WFp le ud (rowG t n isAnd pie) := rowG_wf hw and_3
  have hF := xpar_ok (live := live) hw hf H
  unfold cndG
  rw [show rowG t n isOr (rowG t n isAnd pie) p = (match rowG t n isAnd pie p with
    | .inl e => .inl e
    | .inr (q, g) => rowL t n isOr (rowG t n isAnd pie) 200 q g) from rfl]
  revert hF
  rw [q_147]
  cases rowG t n isAnd pie p with
  | inl e =>
    intro hF hl
    obtain ⟨v, T, t1, t2, t3⟩ := hF hl
    exact ⟨v, T, by rw [t1, bR]; exact cndD t3.dead _ _ _ _ (t2 rfl), t2, t3⟩
  | inr x =>
    obtain ⟨q, g⟩ := x
    rintro ⟨v, T, t1, t2, ⟨tG, tC, tv⟩ | ⟨tl, tg, tR⟩⟩
    · exact CR.of tC (by rw [t1, bR]; rfl) (xcnd_row hw hf 200 0 q g v T rfl tG (t2 rfl) tv)
    · exact CR.ref hw2 or_3 tl (by rw [t1, bR]; exact cndD tR.dead _ _ _ _ (t2 rfl)) t2 tR tg 200 q
end
end
section
-- 98.xpiece
/-! the class reads a piece as the descent does -/
section
variable {L : Nat} {xs : Nat → Int} {d : Nat} {S S' T U W : AH} {t : TB} {n p : Nat} {le : Int → Int} {ud : Int → Bool} {live bl : Bool}
theorem xpie_ok (f : Nat) : ∀ (d o p : Nat) (live : Bool) (S : AH), 1 ≤ o ∧ o ≤ 8 → 9 ≤ f + o → GS L xs t n le ud S p → CR L xs t n le ud live true S (ev (WK L xs) (d + 3 * f + 40) 149 [vr 22, vi (o : Int), vi (lv live)] S) (rdP t n f o p) := by
  induction f with
  | zero =>
    intro d o p live S h1 h2
    omega
  | succ f ih =>
    intro d o p live S ho h9 H
    show CR L xs t n le ud live true S _ (pieG t n (rdP t n f) (fun o p => cndG t n (rdP t n f o) p) o p)
    have h200 := H.1.1
    have hn := H.2.2.2.2.2.2
    have s33 : S.2 22 6 = 33 ↔ cu t n p = 33 := by rw [H.2.2.2.1]; exact sgn_cu (by decide)
    have s40 : S.2 22 6 = 40 ↔ cu t n p = 40 := by rw [H.2.2.2.1]; exact sgn_cu (by decide)
    have s117 : S.2 22 6 = 117 ↔ cu t n p = 117 := by rw [H.2.2.2.1]; exact sgn_cu (by decide)
    have eo : w32 ((o : Int) + 1) = ((o + 1 : Nat) : Int) := by
      rw [w32e (by first | decide | omega) (by first | decide | omega)]
      rfl
    unfold pieG
    by_cases c1 : cu t n p = 33
    · rw [if_pos c1]
      have hlt := cu_pos (t := t) (n := n) (p := p) (by first | decide | omega)
      obtain ⟨o1, o2⟩ := x_opens (L := L) (xs := xs) (d := d + 3 * f + 40) H hlt o
      rw [show d + 3 * (f + 1) + 40 = (d + 3 * f + 42) + 1 by omega, q_149, if_pos (s33.mpr c1)]
      by_cases c2 : 8 ≤ o
      · rw [if_pos c2]
        obtain ⟨T, t1, t2⟩ := o1 c2
        exact CR.bad (v := 0) (by rw [t1, bR, if_pos rfl]) (fun _ => Or.inl rfl) t2
      · rw [if_neg c2]
        obtain ⟨T, t1, t2, t3⟩ := o2 (by first | decide | omega)
        rw [t1, bR, if_neg (by decide), eo]
        have hE := ih (d + 2) (o + 1) (p + 1) live T (by first | decide | omega) (by first | decide | omega) t2
        rw [show d + 2 + 3 * f + 40 = d + 3 * f + 42 by omega] at hE
        revert hE
        cases hr : rdP t n f (o + 1) (p + 1) with
        | inl e =>
          intro hE hl
          obtain ⟨v, U, u1, u2, u3⟩ := hE hl
          rw [u1, bR]
          by_cases q : v = 0
          · exact ⟨1, U, by rw [if_pos q], fun _ => Or.inr rfl, u3.of t3⟩
          · exact ⟨0, U, by rw [if_neg q], fun _ => Or.inl rfl, u3.of t3⟩
        | inr x =>
          obtain ⟨q, g⟩ := x
          rintro ⟨v, U, u1, u2, ⟨uG, uC, uv⟩ | ⟨ul, ug, uR⟩⟩
          · rw [u1, bR]
            refine ⟨1 - v, U, ?_, fun _ => ?_, Or.inl ⟨uG, t3.tr uC, fun hl => by
              have hw : w64 (1 - v) = 1 - v := by
                rcases u2 rfl with q | q <;> rw [q] <;> decide
              have := (uv hl).neg
              rw [show (some v : Option Int).map (fun v => w64 (1 - v)) = some (1 - v) from congrArg some hw] at this
              exact this⟩⟩
            · rcases u2 rfl with q | q
              · rw [if_pos q, q]
                rfl
              · rw [if_neg (by first | decide | omega), q]
                rfl
            · rcases u2 rfl with q | q
              · exact Or.inr (by first | decide | omega)
              · exact Or.inl (by first | decide | omega)
          · rw [u1, bR]
            refine ⟨1 - v, U, ?_, fun _ => ?_, Or.inr ⟨ul, ug.neg, uR.of t3⟩⟩
            · rcases u2 rfl with q | q
              · rw [if_pos q, q]
                rfl
              · rw [if_neg (by first | decide | omega), q]
                rfl
            · rcases u2 rfl with q | q
              · exact Or.inr (by first | decide | omega)
              · exact Or.inl (by first | decide | omega)
    rw [if_neg c1]
    by_cases c3 : cu t n p = 40
    · rw [if_pos c3]
      have hlt := cu_pos (t := t) (n := n) (p := p) (by first | decide | omega)
      obtain ⟨o1, o2⟩ := x_opens (L := L) (xs := xs) (d := d + 3 * f + 40) H hlt o
      rw [show d + 3 * (f + 1) + 40 = (d + 3 * f + 42) + 1 by omega, q_149, if_neg (fun z => c1 (s33.mp z)), if_pos (s40.mpr c3)]
      by_cases c2 : 8 ≤ o
      · rw [if_pos c2]
        obtain ⟨T, t1, t2⟩ := o1 c2
        exact CR.bad (v := 0) (by rw [t1, bR, if_pos rfl, x_expectD t2.dead (by decide), bR]) (fun _ => Or.inl rfl) t2
      · rw [if_neg c2]
        obtain ⟨T, t1, t2, t3⟩ := o2 (by first | decide | omega)
        rw [t1, bR, if_neg (by decide), eo]
        have hE := xcnd_ok (L := L) (xs := xs) (d := d + 3 * f + 39) (o := ((o + 1 : Nat) : Int)) (live := live) (rdP_wf (le := le) (ud := ud) f (o + 1)) (fun l p S hG => ih d (o + 1) p l S (by first | decide | omega) (by first | decide | omega) hG) t2
        revert hE
        dsimp only
        have v01 : ∀ (v : Int) (X : AH), (v = 0 ∨ v = 1) → (if v = 0 then (some ((0 : Int), X) : Rs) else some (1, X)) = some (v, X) := fun v X hv => by
          rcases hv with q | q
          · rw [if_pos q, q]
          · rw [if_neg (by first | decide | omega), q]
        cases hr : cndG t n (rdP t n f (o + 1)) (p + 1) with
        | inl e =>
          intro hE hl
          obtain ⟨v, U, u1, u2, u3⟩ := hE hl
          refine ⟨v, U, ?_, u2, u3.of t3⟩
          rw [u1, bR]
          simp only [x_expectD u3.dead (show (0 : Int) < 41 by decide), bR]
          exact v01 v U (u2 rfl)
        | inr x =>
          obtain ⟨q, g⟩ := x
          rintro ⟨v, U, u1, u2, ⟨uG, uC, uv⟩ | ⟨ul, ug, uR⟩⟩
          · rw [u1, bR]
            obtain ⟨e1, e2⟩ := x_expect (L := L) (xs := xs) (d := d + 3 * f + 40) uG (c := 41) (by decide)
            show CR L xs t n le ud live true S _ (if cu t n q = 41 then .inr (q + 1, g) else .inl (flt 1 q))
            by_cases c4 : cu t n q = 41
            · rw [if_pos c4]
              obtain ⟨V, v1, v2, v3⟩ := e1 c4
              refine ⟨v, V, ?_, u2, Or.inl ⟨v2, (t3.tr uC).tr v3, uv⟩⟩
              simp only [v1, bR]
              exact v01 v V (u2 rfl)
            · rw [if_neg c4]
              obtain ⟨V, v1, v2⟩ := e2 c4
              refine CR.bad (v := v) ?_ u2 (v2.of (t3.tr uC))
              simp only [v1, bR]
              exact v01 v V (u2 rfl)
          · rw [u1, bR]
            show CR L xs t n le ud live true S _ (if cu t n q = 41 then .inr (q + 1, g) else .inl (flt 1 q))
            by_cases c4 : cu t n q = 41
            · rw [if_pos c4]
              refine ⟨v, U, ?_, u2, Or.inr ⟨ul, ug, uR.of t3⟩⟩
              simp only [x_expectD uR.dead (show (0 : Int) < 41 by decide), bR]
              exact v01 v U (u2 rfl)
            · rw [if_neg c4]
              exact fun z => absurd (z.symm.trans ul) (by decide)
    rw [if_neg c3]
    by_cases c5 : cu t n p = 117
    · rw [if_pos c5]
      have hlt := cu_pos (t := t) (n := n) (p := p) (by first | decide | omega)
      obtain ⟨T, t1, t2, t3⟩ := x_step (L := L) (xs := xs) (d := d + 3 * f + 41) H hlt
      rw [show d + 3 * (f + 1) + 40 = (d + 3 * f + 42) + 1 by omega, q_149, if_neg (fun z => c1 (s33.mp z)), if_neg (fun z => c3 (s40.mp z)), if_pos (s117.mpr c5), t1, bR]
      have hr := x_num (L := L) (xs := xs) (d := d + 3 * f + 40) 39 t2
      revert hr
      cases hN : rdN t n 39 (p + 1) with
      | inl e =>
        rintro ⟨w, U, u1, u2⟩
        rw [show ev (WK L xs) (d + 3 * f + 42) 143 [vr 22, vi 39] T = some (w, U) from u1, bR, ite_bin]
        exact CR.bad rfl biv (u2.of t3)
      | inr x =>
        obtain ⟨q, v⟩ := x
        rintro ⟨U, u1, u2, u3⟩
        have hv := rdN_v hN
        rw [show ev (WK L xs) (d + 3 * f + 42) 143 [vr 22, vi 39] T = some (v, U) from u1, bR, ite_bin]
        refine ⟨_, U, rfl, biv, Or.inl ⟨u2, t3.tr u3, fun _ => ?_⟩⟩
        have := t2.2.1.2 v hv.1 hv.2
        have e : bi (¬ lcmp (land (lushr (T.2 22 11) v) 1) 0 = 0) = if ud v then 1 else 0 := by
          by_cases z : ud v = true
          · have h0 : ¬ lcmp (land (lushr (T.2 22 11) v) 1) 0 = 0 := fun y => by rw [this.mp y] at z; exact absurd z (by decide)
            rw [if_pos z, bi_T h0]
          · have h0 : lcmp (land (lushr (T.2 22 11) v) 1) 0 = 0 := this.mpr (nf z)
            rw [if_neg z]
            exact bi_0.mpr (fun y => y h0)
        rw [e]
        exact Cmp.und hv.1
    · rw [if_neg c5]
      rw [show d + 3 * (f + 1) + 40 = (d + 3 * f + 7) + 36 by omega]
      exact xcmp_ok o ho H c1 c3 c5
/-- a condition behind its bracket -/
theorem xrdC (H : GS L xs t n le ud S p) : CR L xs t n le ud live true S (ev (WK L xs) (d + 69) 147 [vr 22, vi 1, vi (lv live)] S) (rdC t n p) := by
  unfold rdC
  exact xcnd_ok (d := d + 66) (o := 1) (rdP_wf 9 1) (fun l p S hG => xpie_ok 9 d 1 p l S (by decide) (by decide) hG) H
/-- a condition where nothing more is read -/
theorem xrdCD (D : Dead S) (l : Int) : ∃ v, ev (WK L xs) (d + 12) 147 [vr 22, vi 1, vi l] S = some (v, S) := by
  have hT : ev (WK L xs) (d + 8) 152 [vr 22, vi 1, vi l] S = some (0, S) := by
    rw [q_152, q_153, D.1, if_neg (by decide), x_digD D, bR, if_pos rfl, D.1, if_pos rfl, q_153_75, if_pos (by decide), x_failD D, bR, bR]
    exact terD D _ _ _ _ (by decide)
  have hE : ev (WK L xs) (d + 9) 151 [vr 22, vi 1, vi l] S = some (0, S) := by
    rw [q_151, hT, bR]
    exact expD D _ _ _ _
  have hP : ev (WK L xs) (d + 10) 149 [vr 22, vi 1, vi l] S = some (0, S) := by
    rw [q_149, D.1, if_neg (by decide), if_neg (by decide), if_neg (by decide), hE, bR, x_next6 D.1 (by decide), bR, bi_F (by decide), if_pos rfl, x_failD D, bR]
  have hA : ev (WK L xs) (d + 11) 148 [vr 22, vi 1, vi l] S = some (0, S) := by
    rw [q_148, hP, bR]
    exact parD D _ _ _ _ (Or.inl rfl)
  refine ⟨0, ?_⟩
  rw [q_147, hA, bR]
  exact cndD D _ _ _ _ (Or.inl rfl)
end
end
section
-- 99.xclause
/-! the class reads a clause as the descent does -/
noncomputable def Xf (S T : AH) : Prop := T.1 = S.1 ∧ (∀ a, a ≠ 22 → a ≠ 23 → a ≠ 24 → T.2 a = S.2 a) ∧ ∀ k, ¬ (4 ≤ k ∧ k ≤ 9 ∧ k ≠ 5) → k ≠ 2 → T.2 22 k = S.2 22 k
/-- a fault is told -/
noncomputable def FT (T : AH) (e : Int) : Prop := T.2 22 6 = -1 ∧ ∃ (f : Int) (q : Nat), T.2 22 7 = f ∧ T.2 22 8 = q ∧ 1 ≤ f ∧ f ≤ 6 ∧ q ≤ 300 ∧ e = flt f q
section
variable {L : Nat} {xs : Nat → Int} {d : Nat} {S S' T U W : AH} {t : TB} {n p : Nat} {le : Int → Int} {ud : Int → Bool} {live bl : Bool}
theorem Cf.xf (h : Cf S T) : Xf S T := ⟨h.1, fun a q1 _ _ => h.2.1 a q1, fun k q1 _ => h.2.2 k q1⟩
theorem Xf.tr (h : Xf S T) (k : Xf T U) : Xf S U := ⟨k.1.trans h.1, fun a q1 q2 q3 => (k.2.1 a q1 q2 q3).trans (h.2.1 a q1 q2 q3), fun j q1 q2 => (k.2.2 j q1 q2).trans (h.2.2 j q1 q2)⟩
theorem Xf.wA {a k : Nat} {v : Int} (h : a = 23 ∨ a = 24) : Xf S (wr S a k v) := ⟨rfl, fun b q1 q2 q3 => wr_c (by first | decide | omega), fun j _ _ => by rw [wr_c (by first | decide | omega)]⟩
theorem Xf.w2 {v : Int} : Xf S (wr S 22 2 v) := ⟨rfl, fun b q1 _ _ => wr_c q1, fun j _ q => by rw [wr_f, if_neg q]⟩
theorem RB.xf (h : RB L xs t n S) (hf : Xf S T) : RB L xs t n T := by
  obtain ⟨h1, h2, h3, b, len, h4, h5, h6, h7, h8, h9, h10⟩ := h
  refine ⟨h1, h2, by rw [hf.2.2 5 (by first | decide | omega) (by decide), h3], b, len, by rw [hf.2.2 3 (by first | decide | omega) (by decide), h4], h5, h6, h7, by rw [shp_fr hf.1, h8], h9, fun k hk => ?_⟩
  rw [rdv_fr (hf.2.1 b h5 h6 h7)]
  exact h10 k hk
theorem FA.xf (h : FA S le ud) (hf : Xf S T) : FA T le ud := by
  unfold FA
  rw [hf.2.1 26 (by decide) (by decide) (by decide), hf.2.2 11 (by first | decide | omega) (by decide)]
  exact h
theorem GS.xf (H : GS L xs t n le ud S p) (hf : Xf S T) (h : ∀ k, k = 4 ∨ k = 6 ∨ k = 7 ∨ k = 9 → T.2 22 k = S.2 22 k) : GS L xs t n le ud T p := by
  obtain ⟨h1, h2, h3, h4, h5, h6, h7⟩ := H
  refine ⟨h1.xf hf, h2.xf hf, ?_, ?_, ?_, ?_, h7⟩
  · rw [h 4 (by first | decide | omega), h3]
  · rw [h 6 (by first | decide | omega), h4]
  · rw [h 7 (by first | decide | omega), h5]
  · rw [h 9 (by first | decide | omega), h6]
theorem FS.ft {e : Int} (h : FS S T e) : FT T e := h.2
theorem x_ruleD (D : Dead S) (c : Int) : ∃ v, ev (WK L xs) (d + 13) 146 [vr 22, vi c] S = some (v, S) := by
  obtain ⟨v, hv⟩ := xrdCD (L := L) (xs := xs) (d := d) D 0
  refine ⟨0, ?_⟩
  rw [q_146, x_expectD D (by decide), bR, hv, bR, x_expectD D (by decide), bR]
  by_cases q : c = 115
  · rw [if_pos q, x_digD D, bR, if_pos rfl, q_146_45, if_pos rfl, x_failD D, bR]
  · rw [if_neg q]
/-- a rule behind its letter -/
theorem x_readRule (H : GS L xs t n le ud S p) (c : Int) : (cu t n p ≠ 40 → ∃ v T, ev (WK L xs) (d + 70) 146 [vr 22, vi c] S = some (v, T) ∧ FS S T (flt 1 p)) ∧ (cu t n p = 40 → match rdC t n (p + 1) with
    | .inl e => ∃ v T, ev (WK L xs) (d + 70) 146 [vr 22, vi c] S = some (v, T) ∧ FS S T e
    | .inr (q, _) => (cu t n q ≠ 41 → ∃ v T, ev (WK L xs) (d + 70) 146 [vr 22, vi c] S = some (v, T) ∧ FS S T (flt 1 q)) ∧ (cu t n q = 41 → (c ≠ 115 → ∃ T, ev (WK L xs) (d + 70) 146 [vr 22, vi c] S = some (0, T) ∧ GS L xs t n le ud T (q + 1) ∧ Cf S T) ∧ (c = 115 → (49 ≤ cu t n (q + 1) ∧ cu t n (q + 1) ≤ 57 → ∃ T, ev (WK L xs) (d + 70) 146 [vr 22, vi c] S = some (cu t n (q + 1) - 48, T) ∧ GS L xs t n le ud T (q + 2) ∧ Cf S T) ∧ (¬ (49 ≤ cu t n (q + 1) ∧ cu t n (q + 1) ≤ 57) → ∃ v T, ev (WK L xs) (d + 70) 146 [vr 22, vi c] S = some (v, T) ∧ FS S T (flt 1 (q + 1)))))) := by
  have h200 := H.1.1
  obtain ⟨e1, e2⟩ := x_expect (L := L) (xs := xs) (d := d + 67) H (c := 40) (by decide)
  have tailD : ∀ {U : AH} (r : Int), Dead U → ∃ v, bindR (ev (WK L xs) (d + 69) 145 [vr 22, vi 41] U) (fun r5 S6 => (if c = (115 : Int) then (bindR (ev (WK L xs) (d + 69) 144 [vr 22] S6) (fun r7 S8 => (if r7 = 0 then (LQ (WK L xs) (ev (WK L xs) (d + 69)) 146 45 [some (vr 22), none, none] [vi (0 : Int)] S8) else (LQ (WK L xs) (ev (WK L xs) (d + 69)) 146 45 [some (vr 22), none, none] [vi (w32 ((S8.2 22 6) - (48 : Int)))] S8)))) else (some ((0 : Int), S6)))) = some (v, U) := by
    intro U r D
    refine ⟨0, ?_⟩
    rw [x_expectD D (by decide), bR]
    by_cases q : c = 115
    · rw [if_pos q, x_digD D, bR, if_pos rfl, q_146_45, if_pos rfl, x_failD D, bR]
    · rw [if_neg q]
  refine ⟨fun q => ?_, fun q => ?_⟩
  · obtain ⟨T, t1, t2⟩ := e2 q
    obtain ⟨v, hv⟩ := xrdCD (L := L) (xs := xs) (d := d + 57) t2.dead 0
    obtain ⟨w, hw⟩ := tailD 0 t2.dead
    exact ⟨w, T, by rw [q_146, t1, bR, hv, bR]; exact hw, t2⟩
  · obtain ⟨T, t1, t2, t3⟩ := e1 q
    have go : ev (WK L xs) (d + 70) 146 [vr 22, vi c] S = bindR (ev (WK L xs) (d + 69) 147 [vr 22, vi 1, vi (lv false)] T) (fun r3 S4 => (bindR (ev (WK L xs) (d + 69) 145 [vr 22, vi 41] S4) (fun r5 S6 => (if c = (115 : Int) then (bindR (ev (WK L xs) (d + 69) 144 [vr 22] S6) (fun r7 S8 => (if r7 = 0 then (LQ (WK L xs) (ev (WK L xs) (d + 69)) 146 45 [some (vr 22), none, none] [vi (0 : Int)] S8) else (LQ (WK L xs) (ev (WK L xs) (d + 69)) 146 45 [some (vr 22), none, none] [vi (w32 ((S8.2 22 6) - (48 : Int)))] S8)))) else (some ((0 : Int), S6)))))) := by
      rw [q_146, t1, bR]
      rfl
    have hC := xrdC (L := L) (xs := xs) (d := d) (live := false) t2
    revert hC
    cases hr : rdC t n (p + 1) with
    | inl e =>
      intro hC
      obtain ⟨v, U, u1, u2, u3⟩ := hC rfl
      obtain ⟨w, hw⟩ := tailD 0 u3.dead
      exact ⟨w, U, by rw [go, u1, bR]; exact hw, u3.of t3⟩
    | inr x =>
      obtain ⟨r, g⟩ := x
      rintro ⟨v, U, u1, u2, ⟨uG, uC, -⟩ | ⟨ul, -⟩⟩
      rotate_left
      · exact absurd ul (by decide)
      rw [u1, bR] at go
      obtain ⟨f1, f2⟩ := x_expect (L := L) (xs := xs) (d := d + 67) uG (c := 41) (by decide)
      have hrn := uG.2.2.2.2.2.2
      refine ⟨fun q2 => ?_, fun q2 => ⟨fun q3 => ?_, fun q3 => ?_⟩⟩
      · obtain ⟨V, v1, v2⟩ := f2 q2
        rw [v1, bR] at go
        refine ⟨0, V, ?_, v2.of (t3.tr uC)⟩
        rw [go]
        by_cases q4 : c = 115
        · rw [if_pos q4, x_digD v2.dead, bR, if_pos rfl, q_146_45, if_pos rfl, x_failD v2.dead, bR]
        · rw [if_neg q4]
      · obtain ⟨V, v1, v2, v3⟩ := f1 q2
        rw [v1, bR, if_neg q3] at go
        exact ⟨V, go, v2, (t3.tr uC).tr v3⟩
      · obtain ⟨V, v1, v2, v3⟩ := f1 q2
        have hvn := v2.2.2.2.2.2.2
        rw [v1, bR, if_pos q3, x_dig v2.2.2.2.1, bR, sgn_dg] at go
        simp only [bi_0] at go
        obtain ⟨F, g1, g2⟩ := x_fail (L := L) (xs := xs) (d := d + 68) v2 (f := 1) (by decide) (q := r + 1) (by first | decide | omega)
        refine ⟨fun q4 => ?_, fun q4 => ?_⟩
        · have hd : dgt (cu t n (r + 1)) = true := decide_eq_true (by first | decide | omega)
          have hlt := cu_pos (t := t) (n := n) (p := r + 1) (by first | decide | omega)
          obtain ⟨X, y1, y2, y3⟩ := x_step (L := L) (xs := xs) (d := d + 68) v2 hlt
          rw [if_neg (fun z => z hd), v2.2.2.2.1, cu_sgn hlt, w32e (x := cu t n (r + 1) - 48) (by first | decide | omega) (by first | decide | omega), q_146_45, if_neg (by first | decide | omega), y1, bR] at go
          exact ⟨X, go, y2, ((t3.tr uC).tr v3).tr y3⟩
        · by_cases hd : dgt (cu t n (r + 1)) = true
          · have hb := dgt_b hd
            have hlt := cu_pos (t := t) (n := n) (p := r + 1) (by first | decide | omega)
            rw [if_neg (fun z => z hd), v2.2.2.2.1, cu_sgn hlt, w32e (x := cu t n (r + 1) - 48) (by first | decide | omega) (by first | decide | omega), q_146_45, if_pos (by first | decide | omega), v2.2.2.1, g1, bR] at go
            exact ⟨_, F, go, g2.of ((t3.tr uC).tr v3)⟩
          · rw [if_pos hd, q_146_45, if_pos rfl, v2.2.2.1, g1, bR] at go
            exact ⟨_, F, go, g2.of ((t3.tr uC).tr v3)⟩
/-- what a clause leaves in the class -/
noncomputable def XOk (L : Nat) (xs : Nat → Int) (t : TB) (n : Nat) (le : Int → Int) (ud : Int → Bool) (X : Rs) (S : AH) (p m : Nat) (r : Int ⊕ (Nat × CL)) : Prop := match r with
  | .inl e => ∃ T, X = some (0, T) ∧ Xf S T ∧ FT T e
  | .inr (q, c) => ∃ T, X = some (0, T) ∧ Xf S T ∧ GS L xs t n le ud T q ∧ T.2 22 2 = (m : Int) + 1 ∧ (∀ a j, a = 23 ∨ a = 24 → j < m → T.2 a j = S.2 a j) ∧ T.2 23 m = p ∧ T.2 24 m = vlu c
theorem x_clause (H : GS L xs t n le ud S p) {m : Nat} (hm : m ≤ 16) (h2 : S.2 22 2 = m) {law : Bool} : XOk L xs t n le ud (ev (WK L xs) (d + 72) 138 [vr 22, vi (lv law)] S) S p m (rdK t n law m p) := by
  have h200 := H.1.1
  have hn := H.2.2.2.2.2.2
  have hb := sgn_b (n := n) (p := p) H.1.2.1
  have failK : ∀ (f : Int), 1 ≤ f ∧ f ≤ 6 → ∃ T, bindR (ev (WK L xs) (d + 71) 141 [vr 22, vi f, vi (S.2 22 4)] S) (fun r9 S10 => (some ((0 : Int), S10))) = some (0, T) ∧ Xf S T ∧ FT T (flt f p) := by
    intro f hf
    obtain ⟨T, t1, t2⟩ := x_fail (L := L) (xs := xs) (d := d + 70) H hf (q := p) (by first | decide | omega)
    exact ⟨T, by rw [H.2.2.1, t1, bR], t2.1.xf, t2.2⟩
  unfold rdK
  by_cases c1 : isWd (cu t n p) = false ∧ isLw (cu t n p) = false
  · rw [if_pos c1]
    obtain ⟨T, k1, k2⟩ := failK 1 (by decide)
    refine ⟨T, ?_, k2⟩
    rw [q_138, x_next5 H.2.2.2.1 hb, sgn_lw, bR, bi_F (nt c1.2), if_pos rfl, H.2.2.2.1, x_rule, sgn_wd, bR, bi_F (nt c1.1), if_pos rfl]
    exact k1
  rw [if_neg c1]
  by_cases c2 : law = false ∧ isLw (cu t n p) = true
  · rw [if_pos c2]
    obtain ⟨T, k1, k2⟩ := failK 6 (by decide)
    refine ⟨T, ?_, k2⟩
    rw [q_138, x_next5 H.2.2.2.1 hb, sgn_lw, bR, bi_T c2.2, if_neg (by decide), if_neg (by decide), c2.1, if_pos (show lv false = 0 from rfl)]
    exact k1
  rw [if_neg c2]
  have to54 : ev (WK L xs) (d + 72) 138 [vr 22, vi (lv law)] S = LQ (WK L xs) (ev (WK L xs) (d + 71)) 138 54 [some (vr 22), none, some (vi (bi (isLw (cu t n p) = true))), none] [] S := by
    rw [q_138, x_next5 H.2.2.2.1 hb, sgn_lw, bR]
    by_cases c3 : isLw (cu t n p) = true
    · have c4 : law = true := by
        by_cases c4 : law = true
        · exact c4
        · exact absurd ⟨nf c4, c3⟩ c2
      rw [bi_T c3, if_neg (by decide), if_neg (by decide), c4, if_neg (show ¬ lv true = 0 by decide)]
    · have c4 : isWd (cu t n p) = true := by
        by_cases c4 : isWd (cu t n p) = true
        · exact c4
        · exact absurd ⟨nf c4, nf c3⟩ c1
      rw [bi_F c3, if_pos rfl, H.2.2.2.1, x_rule, sgn_wd, bR, bi_T c4, if_neg (by decide), if_pos rfl]
  by_cases c3 : m = 16
  · rw [if_pos c3]
    obtain ⟨T, k1, k2⟩ := failK 4 (by decide)
    refine ⟨T, ?_, k2⟩
    rw [to54, q_138_54, h2, if_neg (by first | decide | omega)]
    exact k1
  rw [if_neg c3]
  have hne : cu t n p ≠ 0 := fun e => c1 (by rw [e]; decide)
  have hlt := cu_pos hne
  have hq : (0 : Int) ≤ (m : Int) ∧ (m : Int) < 16 := by omega
  have x23 : Xf S (wr S 23 m (p : Int)) := Xf.wA (by first | decide | omega)
  have H1 : GS L xs t n le ud (wr S 23 m (p : Int)) p := H.xf x23 (fun k _ => by rw [wr_c (by decide)])
  obtain ⟨T, t1, t2, t3⟩ := x_step (L := L) (xs := xs) (d := d + 70) H1 hlt
  have T2 : T.2 22 2 = m := by rw [t3.2.2 2 (by first | decide | omega), wr_c (by decide), h2]
  have T23 : T.2 23 = (wr S 23 m (p : Int)).2 23 := t3.2.1 23 (by decide)
  have T24 : T.2 24 = S.2 24 := by rw [t3.2.1 24 (by decide), wr_c (by decide)]
  have xT : Xf S T := x23.tr t3.xf
  have go : ev (WK L xs) (d + 72) 138 [vr 22, vi (lv law)] S = (if ¬ isLw (cu t n p) = true then bindR (ev (WK L xs) (d + 71) 146 [vr 22, vi (cu t n p)] T) (fun r3 S4 => some ((0 : Int), wr (wr S4 24 m r3) 22 2 (w32 ((S4.2 22 2) + (1 : Int))))) else bindR (ev (WK L xs) (d + 71) 142 [vr 22, vi (cu t n p)] T) (fun r3 S4 => some ((0 : Int), wr (wr S4 24 m r3) 22 2 (w32 ((S4.2 22 2) + (1 : Int)))))) := by
    rw [to54, q_138_54, h2, if_pos (by first | decide | omega), if_pos hq, Int.toNat_natCast, H.2.2.1, t1, bR, H.2.2.2.1, cu_sgn hlt, T2]
    simp only [bi_0, if_pos hq, Int.toNat_natCast]
  -- the ends
  have endB : ∀ {U : AH} {v e : Int} {Y : Rs}, FS T U e → Y = some (v, U) → bindR Y (fun r3 S4 => some ((0 : Int), wr (wr S4 24 m r3) 22 2 (w32 ((S4.2 22 2) + (1 : Int))))) = some (0, wr (wr U 24 m v) 22 2 (w32 (U.2 22 2 + 1))) ∧ Xf S (wr (wr U 24 m v) 22 2 (w32 (U.2 22 2 + 1))) ∧ FT (wr (wr U 24 m v) 22 2 (w32 (U.2 22 2 + 1))) e := by
    intro U v e Y hF hY
    refine ⟨by rw [hY, bR], ((xT.tr hF.1.xf).tr (Xf.wA (by first | decide | omega))).tr Xf.w2, ?_⟩
    obtain ⟨g1, f, q, g2, g3, g4⟩ := hF.2
    refine ⟨by rw [wr_f, if_neg (by decide), wr_c (by decide), g1], f, q, by rw [wr_f, if_neg (by decide), wr_c (by decide), g2], by rw [wr_f, if_neg (by decide), wr_c (by decide), g3], g4⟩
  have endG : ∀ {U : AH} {v : Int} {q : Nat} {Y : Rs}, GS L xs t n le ud U q → Cf T U → Y = some (v, U) → bindR Y (fun r3 S4 => some ((0 : Int), wr (wr S4 24 m r3) 22 2 (w32 ((S4.2 22 2) + (1 : Int))))) = some (0, wr (wr U 24 m v) 22 2 (w32 (U.2 22 2 + 1))) ∧ Xf S (wr (wr U 24 m v) 22 2 (w32 (U.2 22 2 + 1))) ∧ GS L xs t n le ud (wr (wr U 24 m v) 22 2 (w32 (U.2 22 2 + 1))) q ∧ (wr (wr U 24 m v) 22 2 (w32 (U.2 22 2 + 1))).2 22 2 = (m : Int) + 1 ∧ (∀ a j, a = 23 ∨ a = 24 → j < m → (wr (wr U 24 m v) 22 2 (w32 (U.2 22 2 + 1))).2 a j = S.2 a j) ∧ (wr (wr U 24 m v) 22 2 (w32 (U.2 22 2 + 1))).2 23 m = p ∧ (wr (wr U 24 m v) 22 2 (w32 (U.2 22 2 + 1))).2 24 m = v := by
    intro U v q Y hG hC hY
    have xU : Xf U (wr (wr U 24 m v) 22 2 (w32 (U.2 22 2 + 1))) := (Xf.wA (by first | decide | omega)).tr Xf.w2
    refine ⟨by rw [hY, bR], (xT.tr hC.xf).tr xU, hG.xf xU (fun k hk => by rw [wr_f, if_neg (by first | decide | omega), wr_c (by decide)]), ?_, fun a j ha hj => ?_, ?_, ?_⟩
    · rw [wr_f, if_pos rfl, hC.2.2 2 (by first | decide | omega), T2, w32e (by first | decide | omega) (by first | decide | omega)]
    · rcases ha with rfl | rfl
      · rw [wr_c (by decide), wr_c (by decide), hC.2.1 23 (by decide), T23, wr_f, if_neg (by first | decide | omega)]
      · rw [wr_c (by decide), wr_f, if_neg (by first | decide | omega), hC.2.1 24 (by decide), T24]
    · rw [wr_c (by decide), wr_c (by decide), hC.2.1 23 (by decide), T23, wr_f, if_pos rfl]
    · rw [wr_c (by decide), wr_f, if_pos rfl]
  by_cases c4 : isWd (cu t n p) = true
  · rw [if_pos c4]
    have hlw : ¬ isLw (cu t n p) = true := fun z => by
      have a := of_decide_eq_true c4
      have b := of_decide_eq_true z
      omega
    rw [if_pos hlw] at go
    obtain ⟨R1, R2⟩ := x_readRule (L := L) (xs := xs) (d := d + 1) t2 (cu t n p)
    by_cases c5 : cu t n (p + 1) = 40
    rotate_left
    · rw [if_neg c5]
      obtain ⟨v, U, u1, u2⟩ := R1 c5
      obtain ⟨z1, z2⟩ := endB u2 u1
      exact ⟨_, go.trans z1, z2⟩
    rw [if_pos c5]
    have hR := R2 c5
    revert hR
    rw [show p + 1 + 1 = p + 2 from rfl]
    cases hr : rdC t n (p + 2) with
    | inl e =>
      rintro ⟨v, U, u1, u2⟩
      obtain ⟨z1, z2⟩ := endB u2 u1
      exact ⟨_, go.trans z1, z2⟩
    | inr x =>
      obtain ⟨q, g⟩ := x
      rintro ⟨D1, D2⟩
      show XOk L xs t n le ud _ S p m (if cu t n q = 41 then (if cu t n p = 115 then (if 49 ≤ cu t n (q + 1) ∧ cu t n (q + 1) ≤ 57 then .inr (q + 2, (115, cu t n (q + 1) - 48, 0, g)) else .inl (flt 1 (q + 1))) else .inr (q + 1, (cu t n p, 0, 0, g))) else .inl (flt 1 q))
      by_cases c6 : cu t n q = 41
      rotate_left
      · rw [if_neg c6]
        obtain ⟨v, U, u1, u2⟩ := D1 c6
        obtain ⟨z1, z2⟩ := endB u2 u1
        exact ⟨_, go.trans z1, z2⟩
      rw [if_pos c6]
      obtain ⟨E1, E2⟩ := D2 c6
      by_cases c7 : cu t n p = 115
      rotate_left
      · rw [if_neg c7]
        obtain ⟨U, u1, u2, u3⟩ := E1 c7
        obtain ⟨z1, z2, z3, z4, z5, z6, z7⟩ := endG u2 u3 u1
        refine ⟨_, go.trans z1, z2, z3, z4, z5, z6, ?_⟩
        rw [z7]
        have a := of_decide_eq_true c4
        show (0 : Int) = if cu t n p = 120 then _ else (0 : Int)
        rw [if_neg (by first | decide | omega)]
      rw [if_pos c7]
      obtain ⟨G1, G2⟩ := E2 c7
      by_cases c8 : 49 ≤ cu t n (q + 1) ∧ cu t n (q + 1) ≤ 57
      · rw [if_pos c8]
        obtain ⟨U, u1, u2, u3⟩ := G1 c8
        obtain ⟨z1, z2, z3, z4, z5, z6, z7⟩ := endG u2 u3 u1
        refine ⟨_, go.trans z1, z2, z3, z4, z5, z6, ?_⟩
        rw [z7]
        rfl
      · rw [if_neg c8]
        obtain ⟨v, U, u1, u2⟩ := G2 c8
        obtain ⟨z1, z2⟩ := endB u2 u1
        exact ⟨_, go.trans z1, z2⟩
  · rw [if_neg c4]
    have hlw : isLw (cu t n p) = true := by
      by_cases z : isLw (cu t n p) = true
      · exact z
      · exact absurd ⟨nf c4, nf z⟩ c1
    rw [if_neg (fun z => z hlw), q_142] at go
    have nd : ∀ Y : Rs, bindR Y (fun r1 S2 => some (r1, S2)) = Y := fun Y => by rcases Y with _ | ⟨a, b⟩ <;> rfl
    simp only [nd] at go
    by_cases c5 : cu t n p = 120
    · rw [if_pos c5]
      rw [if_pos c5] at go
      have hr := x_num (L := L) (xs := xs) (d := d + 68) 19 t2
      revert hr
      cases hN : rdN t n 19 (p + 1) with
      | inl e =>
        rintro ⟨w, U, u1, u2⟩
        obtain ⟨z1, z2⟩ := endB (v := w32 (w32 (w * 16) + 0)) u2 rfl
        refine ⟨_, go.trans (Eq.trans ?_ z1), z2⟩
        rw [show ev (WK L xs) (d + 70) 143 [vr 22, vi 19] T = some (w, U) from u1, bR, x_expectD u2.dead (by decide), bR, x_numD u2.dead, bR]
      | inr x =>
        obtain ⟨q, v⟩ := x
        rintro ⟨U, u1, u2, u3⟩
        have hv := rdN_v hN
        have hqn := u2.2.2.2.2.2.2
        rw [show ev (WK L xs) (d + 70) 143 [vr 22, vi 19] T = some (v, U) from u1, bR] at go
        obtain ⟨e1, e2⟩ := x_expect (L := L) (xs := xs) (d := d + 68) u2 (c := 46) (by decide)
        show XOk L xs t n le ud _ S p m (if cu t n q = 46 then (match rdN t n 15 (q + 1) with
          | .inl e => .inl e
          | .inr (r, u) => .inr (r, (120, v, u, []))) else .inl (flt 1 q))
        by_cases c6 : cu t n q = 46
        rotate_left
        · rw [if_neg c6]
          obtain ⟨V, v1, v2⟩ := e2 c6
          obtain ⟨z1, z2⟩ := endB (v := w32 (w32 (v * 16) + 0)) (v2.of u3) rfl
          refine ⟨_, go.trans (Eq.trans ?_ z1), z2⟩
          rw [show ev (WK L xs) (d + 70) 145 [vr 22, vi 46] U = some (0, V) from v1, bR, x_numD v2.dead, bR]
        rw [if_pos c6]
        obtain ⟨V, v1, v2, v3⟩ := e1 c6
        rw [show ev (WK L xs) (d + 70) 145 [vr 22, vi 46] U = some (0, V) from v1, bR] at go
        have hr2 := x_num (L := L) (xs := xs) (d := d + 68) 15 v2
        revert hr2
        cases hN2 : rdN t n 15 (q + 1) with
        | inl e =>
          rintro ⟨w, X, y1, y2⟩
          obtain ⟨z1, z2⟩ := endB (v := w32 (w32 (v * 16) + w)) (y2.of (u3.tr v3)) rfl
          refine ⟨_, go.trans (Eq.trans ?_ z1), z2⟩
          rw [show ev (WK L xs) (d + 70) 143 [vr 22, vi 15] V = some (w, X) from y1, bR]
        | inr y =>
          obtain ⟨r, u⟩ := y
          rintro ⟨X, y1, y2, y3⟩
          have hu := rdN_v hN2
          obtain ⟨z1, z2, z3, z4, z5, z6, z7⟩ := endG (v := w32 (w32 (v * 16) + u)) y2 ((u3.tr v3).tr y3) rfl
          refine ⟨_, go.trans (Eq.trans ?_ z1), z2, z3, z4, z5, z6, ?_⟩
          · rw [show ev (WK L xs) (d + 70) 143 [vr 22, vi 15] V = some (u, X) from y1, bR]
          · rw [z7, w32e (x := v * 16) (by first | decide | omega) (by first | decide | omega), w32e (by first | decide | omega) (by first | decide | omega)]
            rfl
    · rw [if_neg c5]
      rw [if_neg c5] at go
      generalize hmost : (if cu t n p = 109 ∨ cu t n p = 99 then (100 : Int) else 999999) = most
      have go2 : ev (WK L xs) (d + 72) 138 [vr 22, vi (lv law)] S = bindR (ev (WK L xs) (d + 70) 143 [vr 22, vi most] T) (fun r3 S4 => some ((0 : Int), wr (wr S4 24 m r3) 22 2 (w32 ((S4.2 22 2) + (1 : Int))))) := by
        rw [go, ← hmost]
        by_cases c6 : cu t n p = 109
        · rw [if_pos c6, if_pos (Or.inl c6)]
        · rw [if_neg c6]
          by_cases c7 : cu t n p = 99
          · rw [if_pos c7, if_pos (Or.inr c7)]
          · rw [if_neg c7, if_neg (by first | decide | omega)]
      have hr := x_num (L := L) (xs := xs) (d := d + 68) most t2
      revert hr
      cases hN : rdN t n most (p + 1) with
      | inl e =>
        rintro ⟨w, U, u1, u2⟩
        obtain ⟨z1, z2⟩ := endB u2 u1
        exact ⟨_, go2.trans z1, z2⟩
      | inr x =>
        obtain ⟨q, v⟩ := x
        rintro ⟨U, u1, u2, u3⟩
        obtain ⟨z1, z2, z3, z4, z5, z6, z7⟩ := endG u2 u3 u1
        refine ⟨_, go2.trans z1, z2, z3, z4, z5, z6, ?_⟩
        rw [z7]
        show v = if cu t n p = 120 then _ else v
        rw [if_neg c5]
end
end
section
-- 99a.xtext
/-! the class reads a text and makes a Text of it -/
noncomputable def Yf (S T : AH) : Prop := T.1 = S.1 ∧ (∀ a, a ≠ 22 → a ≠ 23 → a ≠ 24 → T.2 a = S.2 a) ∧ ∀ k, 10 ≤ k → T.2 22 k = S.2 22 k
/-- what the reader holds of a text that stands -/
noncomputable def XT (T : AH) (x : TXT) : Prop := T.2 22 2 = x.length ∧ x.length ≤ 16 ∧ ∀ (j : Nat) (q : Nat × CL), x[j]? = some q → T.2 23 j = q.1 ∧ T.2 24 j = vlu q.2
section
variable {L : Nat} {xs : Nat → Int} {d : Nat} {S S' T U W : AH} {t : TB} {n p : Nat} {le : Int → Int} {ud : Int → Bool} {live bl : Bool}
theorem iand255 (x : Int) : 0 ≤ iand x 255 ∧ iand x 255 ≤ 255 := by
  have h2 : (BitVec.ofInt 32 x &&& BitVec.ofInt 32 (255 : Int)).toNat ≤ 255 := by
    rw [BitVec.toNat_and]
    exact Nat.le_trans Nat.and_le_right (by decide)
  have e : iand x 255 = ((BitVec.ofInt 32 x &&& BitVec.ofInt 32 (255 : Int)).toNat : Int) := by
    show (Int32.ofInt x &&& Int32.ofInt 255).toBitVec.toInt = _
    rw [show (Int32.ofInt x &&& Int32.ofInt 255).toBitVec = BitVec.ofInt 32 x &&& BitVec.ofInt 32 255 from rfl, ti32 (by first | decide | omega)]
  rw [e]
  omega
theorem FT.code {e : Int} (h : FT T e) : T.2 22 7 ≠ 0 ∧ w32 (w32 (-1000 * T.2 22 7) - T.2 22 8) = e ∧ Dead T := by
  obtain ⟨h1, f, q, h2, h3, h4, h5, h6, h7⟩ := h
  refine ⟨by omega, ?_, h1, Or.inl (by first | decide | omega)⟩
  rw [h2, h3, w32e (x := -1000 * f) (by first | decide | omega) (by first | decide | omega), w32e (by first | decide | omega) (by first | decide | omega), h7]
  rfl
theorem x_allL {law : Bool} (k : Nat) : ∀ (x : TXT) (p i : Nat) (S : AH), x.length + k = 17 → i + k = 17 → GS L xs t n le ud S p → XT S x → match rdTL t n law k p x with
    | .inl e => ∃ T, LQ (WK L xs) (ev (WK L xs) (d + 72)) 135 15 [some (vr 22), none, none, some (vi (lv law)), some (vi (i : Int))] [] S = some (e, T) ∧ Xf S T
    | .inr y => ∃ T, LQ (WK L xs) (ev (WK L xs) (d + 72)) 135 15 [some (vr 22), none, none, some (vi (lv law)), some (vi (i : Int))] [] S = some (0, T) ∧ Xf S T ∧ XT T y := by
  induction k with
  | zero =>
    intro x p i S hl _ _ hc
    have := hc.2.1
    omega
  | succ k ih =>
    intro x p i S hl hi H hc
    have hK := x_clause (L := L) (xs := xs) (d := d) H hc.2.1 hc.1 (law := law)
    have e1 : w32 ((i : Int) + 1) = ((i + 1 : Nat) : Int) := by
      rw [w32e (by first | decide | omega) (by first | decide | omega)]
      rfl
    have go : LQ (WK L xs) (ev (WK L xs) (d + 72)) 135 15 [some (vr 22), none, none, some (vi (lv law)), some (vi (i : Int))] [] S = bindR (ev (WK L xs) (d + 72) 138 [vr 22, vi (lv law)] S) (fun r1 S2 => (if (S2.2 22 4) < (S2.2 22 5) then (bindR (ev (WK L xs) (d + 72) 145 [vr 22, vi (59 : Int)] S2) (fun r3 S4 => (LQ (WK L xs) (ev (WK L xs) (d + 72)) 135 15 [some (vr 22), none, none, some (vi (lv law)), some (vi ((i + 1 : Nat) : Int))] [] S4))) else (if (S2.2 22 7) = 0 then (some ((0 : Int), S2)) else (some ((w32 ((w32 ((-1000 : Int) * (S2.2 22 7))) - (S2.2 22 8))), S2))))) := by
      rw [q_135_15, if_neg (by first | decide | omega), if_pos H.2.2.2.2.1, e1]
    have stop : ∀ {T : AH} {e : Int} (j : Nat), FT T e → j ≤ 17 → LQ (WK L xs) (ev (WK L xs) (d + 72)) 135 15 [some (vr 22), none, none, some (vi (lv law)), some (vi (j : Int))] [] T = some (e, T) := by
      intro T e j hF hj
      obtain ⟨f1, f2, -⟩ := hF.code
      rw [q_135_15]
      by_cases q : (16 : Int) < (j : Int)
      · rw [if_pos q, if_neg f1, f2]
      · rw [if_neg q, if_neg f1, if_neg f1, f2]
    unfold rdTL
    revert hK
    cases hr : rdK t n law x.length p with
    | inl e =>
      rintro ⟨T, t1, t2, t3⟩
      refine ⟨T, ?_, t2⟩
      obtain ⟨f1, f2, f3⟩ := t3.code
      rw [go, t1, bR]
      by_cases q : T.2 22 4 < T.2 22 5
      · rw [if_pos q, x_expectD f3 (by decide), bR]
        exact stop (i + 1) t3 (by first | decide | omega)
      · rw [if_neg q, if_neg f1, f2]
    | inr y =>
      obtain ⟨q, c⟩ := y
      rintro ⟨T, t1, t2, t3, t4, t5, t6, t7⟩
      have hx : x.length ≠ 16 := fun e => by rw [e] at hr; exact rdK_16 hr
      have hx16 := hc.2.1
      have T5 : T.2 22 5 = n := t3.1.2.2.1
      have CT : XT T (x ++ [(p, c)]) := by
        refine ⟨by rw [t4, List.length_append, List.length_singleton]; omega, by rw [List.length_append, List.length_singleton]; omega, fun j y hy => ?_⟩
        have hj := (List.getElem?_eq_some_iff.mp hy).1
        rw [List.length_append, List.length_singleton] at hj
        by_cases ej : j < x.length
        · rw [List.getElem?_append_left ej] at hy
          rw [t5 23 j (by first | decide | omega) ej, t5 24 j (by first | decide | omega) ej]
          exact hc.2.2 j y hy
        · have ej2 : j = x.length := by omega
          subst ej2
          rw [List.getElem?_append_right (Nat.le_refl _), Nat.sub_self] at hy
          simp only [List.getElem?_cons_zero, Option.some.injEq] at hy
          subst hy
          exact ⟨t6, t7⟩
      rw [t1, bR, t3.2.2.1, T5] at go
      show match (if q < n then (if cu t n q = 59 then rdTL t n law k (q + 1) (x ++ [(p, c)]) else .inl (flt 1 q)) else .inr (x ++ [(p, c)])) with
          | .inl e => ∃ T, LQ (WK L xs) (ev (WK L xs) (d + 72)) 135 15 [some (vr 22), none, none, some (vi (lv law)), some (vi (i : Int))] [] S = some (e, T) ∧ Xf S T
          | .inr y => ∃ T, LQ (WK L xs) (ev (WK L xs) (d + 72)) 135 15 [some (vr 22), none, none, some (vi (lv law)), some (vi (i : Int))] [] S = some (0, T) ∧ Xf S T ∧ XT T y
      by_cases c1 : q < n
      · rw [if_pos c1]
        rw [if_pos (by first | decide | omega)] at go
        obtain ⟨e2, e3⟩ := x_expect (L := L) (xs := xs) (d := d + 70) t3 (c := 59) (by decide)
        by_cases c2 : cu t n q = 59
        · rw [if_pos c2]
          obtain ⟨V, v1, v2, v3⟩ := e2 c2
          rw [show ev (WK L xs) (d + 72) 145 [vr 22, vi 59] T = some (0, V) from v1, bR] at go
          have CV : XT V (x ++ [(p, c)]) := by
            refine ⟨by rw [v3.2.2 2 (by first | decide | omega), CT.1], CT.2.1, fun j y hy => ?_⟩
            rw [v3.2.1 23 (by decide), v3.2.1 24 (by decide)]
            exact CT.2.2 j y hy
          have hI := ih (x ++ [(p, c)]) (q + 1) (i + 1) V (by rw [List.length_append, List.length_singleton]; omega) (by first | decide | omega) v2 CV
          rw [go]
          revert hI
          cases rdTL t n law k (q + 1) (x ++ [(p, c)]) with
          | inl e =>
            rintro ⟨U, u1, u2⟩
            exact ⟨U, u1, (t2.tr v3.xf).tr u2⟩
          | inr y =>
            rintro ⟨U, u1, u2, u3⟩
            exact ⟨U, u1, (t2.tr v3.xf).tr u2, u3⟩
        · rw [if_neg c2]
          obtain ⟨V, v1, v2⟩ := e3 c2
          rw [show ev (WK L xs) (d + 72) 145 [vr 22, vi 59] T = some (0, V) from v1, bR] at go
          exact ⟨V, by rw [go]; exact stop (i + 1) v2.ft (by first | decide | omega), t2.tr v2.1.xf⟩
      · rw [if_neg c1]
        rw [if_neg (by first | decide | omega), if_pos t3.2.2.2.2.1] at go
        exact ⟨T, go, t2, CT⟩
theorem x_readAll {b len : Nat} (hn : n ≤ 200) (ht : ∀ k, 0 ≤ t k ∧ t k ≤ 255) (hb : b ≠ 22 ∧ b ≠ 23 ∧ b ≠ 24) (hs : shp (WK L xs) S b = (0, len)) (hl : n ≤ len) (hr : ∀ k, k < n → iand (rdv (WK L xs) S b k) 255 = t k) {law : Bool} : match rdT t n law with
    | .inl e => ∃ T, ev (WK L xs) (d + 73) 135 [vr 22, vr b, vi (n : Int), vi (lv law)] S = some (e, T) ∧ Yf S T
    | .inr y => ∃ T, ev (WK L xs) (d + 73) 135 [vr 22, vr b, vi (n : Int), vi (lv law)] S = some (0, T) ∧ Yf S T ∧ XT T y ∧ T.2 22 3 = b ∧ T.2 22 5 = n := by
  generalize hS0 : wr (wr (wr (wr (wr (wr S 22 3 (b : Int)) 22 4 (-1)) 22 5 (n : Int)) 22 7 0) 22 8 0) 22 9 0 = S0
  have c0 : ∀ a, a ≠ 22 → S0.2 a = S.2 a := fun a ha => by rw [← hS0]; repeat rw [wr_c ha]
  have s0 : S0.1 = S.1 := by rw [← hS0]; rfl
  have k0 : ∀ k, 10 ≤ k → S0.2 22 k = S.2 22 k := fun k hk => by
    rw [← hS0, wr_f, if_neg (by first | decide | omega), wr_f, if_neg (by first | decide | omega), wr_f, if_neg (by first | decide | omega), wr_f, if_neg (by first | decide | omega), wr_f, if_neg (by first | decide | omega), wr_f, if_neg (by first | decide | omega)]
  have B0 : RB L xs t n S0 := ⟨hn, ht, by rw [← hS0]; simp [wr_f], b, len, by rw [← hS0]; simp [wr_f], hb.1, hb.2.1, hb.2.2, by rw [shp_fr s0, hs], hl, fun k hk => by rw [rdv_fr (c0 b hb.1)]; exact hr k hk⟩
  obtain ⟨T, t1, t2, t3⟩ := x_step0 (L := L) (xs := xs) (d := d + 70) (S := S0) (le := fun c => if c = 97 then S0.2 26 0 else if c = 121 then S0.2 26 1 else if c = 104 then S0.2 26 2 else if c = 107 then S0.2 26 3 else if c = 114 then S0.2 26 4 else if c = 113 then S0.2 26 5 else S0.2 26 6) (ud := fun N => decide (¬ lcmp (land (lushr (S0.2 22 11) N) 1) 0 = 0)) B0 ⟨⟨rfl, rfl, rfl, rfl, rfl, rfl, rfl⟩, fun N _ _ => by rw [decide_eq_false_iff_not, Decidable.not_not]⟩ (q := 0) (by rw [← hS0]; simp [wr_f]) (Nat.zero_le _) (by rw [← hS0]; simp [wr_f]) (by rw [← hS0]; simp [wr_f])
  have x2 : Xf T (wr T 22 2 0) := Xf.w2
  have H0 := t2.xf x2 (fun k hk => by rw [wr_f, if_neg (by first | decide | omega)])
  have go : ev (WK L xs) (d + 73) 135 [vr 22, vr b, vi (n : Int), vi (lv law)] S = LQ (WK L xs) (ev (WK L xs) (d + 72)) 135 15 [some (vr 22), none, none, some (vi (lv law)), some (vi ((0 : Nat) : Int))] [] (wr T 22 2 0) := by
    rw [q_135, q_136, show w32 ((0 : Int) - 1) = -1 from by decide, hS0, show ev (WK L xs) (d + 71) 137 [vr 22] S0 = some (0, T) from t1, bR, bR]
    rfl
  have yf : ∀ {X : AH}, Xf (wr T 22 2 0) X → Yf S X := fun {X} h => by
    refine ⟨?_, fun a q1 q2 q3 => ?_, fun k hk => ?_⟩
    · rw [h.1]
      show T.1 = S.1
      rw [t3.1, s0]
    · rw [h.2.1 a q1 q2 q3, wr_c q1, t3.2.1 a q1, c0 a q1]
    · rw [h.2.2 k (by first | decide | omega) (by first | decide | omega), wr_f, if_neg (by first | decide | omega), t3.2.2 k (by first | decide | omega), k0 k hk]
  have f3 : ∀ {X : AH}, Xf (wr T 22 2 0) X → X.2 22 3 = b ∧ X.2 22 5 = n := fun {X} h => by
    rw [h.2.2 3 (by first | decide | omega) (by decide), h.2.2 5 (by first | decide | omega) (by decide), wr_f, if_neg (by decide), wr_f, if_neg (by decide), t3.2.2 3 (by first | decide | omega), t3.2.2 5 (by first | decide | omega), ← hS0]
    simp [wr_f]
  have hA := x_allL (L := L) (xs := xs) (d := d) (law := law) 17 [] 0 0 (wr T 22 2 0) rfl rfl H0 ⟨by rw [wr_f, if_pos rfl]; rfl, by decide, fun j q hq => by simp at hq⟩
  rw [go]
  unfold rdT
  revert hA
  cases rdTL t n law 17 0 [] with
  | inl e =>
    rintro ⟨X, y1, y2⟩
    exact ⟨X, y1, yf y2⟩
  | inr y =>
    rintro ⟨X, y1, y2, y3⟩
    exact ⟨X, y1, yf y2, y3, f3 y2⟩
/-- a copy of a row -/
theorem x_copyI (i1 : 151 ≤ S.1.1) {a m : Nat} (ha : a = 23 ∨ a = 24) (hm : m ≤ 16) : ∃ T, ev (WK L xs) (d + 1) 333 [vr a, vi (m : Int)] S = some ((S.1.1 : Int), T) ∧ T.1.1 = S.1.1 + 1 ∧ T.1.2.1 = S.1.2.1 + m ∧ T.1.2.2 S.1.1 = (2, m) ∧ (∀ c, c < S.1.1 → T.1.2.2 c = S.1.2.2 c ∧ T.2 c = S.2 c) ∧ ∀ j, j < m → T.2 S.1.1 j = S.2 a j := by
  have sa : shp (WK L xs) S a = (2, 16) := by rcases ha with rfl | rfl <;> rfl
  have ra : ∀ X : AH, ∀ j, rdv (WK L xs) X a j = X.2 a j := fun X j => by rcases ha with rfl | rfl <;> rfl
  rw [q_333, sa, show Nat.ble ((2, 16) : Nat × Nat).1 6 = true from rfl, gdT]
  by_cases q : m = 16
  · subst q
    refine ⟨nwc S 2 16 (rdv (WK L xs) S a), ?_, rfl, rfl, ?_, fun c hc => ⟨?_, ?_⟩, fun j hj => ?_⟩
    · rw [if_pos (show ((16 : Nat) : Int) = ((((2, 16) : Nat × Nat).2 : Nat) : Int) from rfl)]
      have g1 : (Nat.beq ((2, 16) : Nat × Nat).1 2 && (Nat.beq 2 0 || Nat.beq 2 2) && Nat.ble 0 8 && Nat.ble 15 a) = true := by rcases ha with rfl | rfl <;> rfl
      have g2 : (Nat.beq (shp (WK L xs) (nwc S 2 16 (rdv (WK L xs) S a)) S.1.1).1 2 && Nat.ble 15 S.1.1) = true := by
        rw [shpD i1, show (nwc S 2 16 (rdv (WK L xs) S a)).1.2.2 S.1.1 = (2, 16) by show (if S.1.1 = S.1.1 then ((2, 16) : Nat × Nat) else S.1.2.2 S.1.1) = _; rw [if_pos rfl]]
        simp only [Nat.beq_eq_true_eq, Bool.and_eq_true, Nat.ble_eq]
        exact ⟨rfl, by omega⟩
      refine gd_go g1 (gd_go g2 rfl)
    · show (if S.1.1 = S.1.1 then ((2, 16) : Nat × Nat) else S.1.2.2 S.1.1) = _
      rw [if_pos rfl]
    · show (if c = S.1.1 then ((2, 16) : Nat × Nat) else S.1.2.2 c) = _
      rw [if_neg (by first | decide | omega)]
    · show (if c = S.1.1 then (rdv (WK L xs) S a) else S.2 c) = _
      rw [if_neg (by first | decide | omega)]
    · show (if S.1.1 = S.1.1 then (rdv (WK L xs) S a) else S.2 S.1.1) j = _
      rw [if_pos rfl, ra]
  · have hne : ¬ ((m : Int) = ((((2, 16) : Nat × Nat).2 : Nat) : Int)) := fun z => q (by have : (m : Int) = 16 := z; omega)
    rw [if_neg hne, if_pos (by first | decide | omega), Int.toNat_natCast]
    have sa2 : shp (WK L xs) (nw S 2 m) a = (2, 16) := by rcases ha with rfl | rfl <;> rfl
    have sn : shp (WK L xs) (nw S 2 m) S.1.1 = (2, m) := by
      rw [shpD i1]
      show (if S.1.1 = S.1.1 then ((2, m) : Nat × Nat) else S.1.2.2 S.1.1) = _
      rw [if_pos rfl]
    have mn : min (((2, 16) : Nat × Nat).2 : Int) (m : Int) = (m : Int) := by
      show min (16 : Int) (m : Int) = (m : Int)
      omega
    refine ⟨wrA (nw S 2 m) S.1.1 (cpyF (rdv (WK L xs) (nw S 2 m) a) (rdv (WK L xs) (nw S 2 m) S.1.1) 0 0 m), ?_, rfl, rfl, ?_, fun c hc => ⟨?_, ?_⟩, fun j hj => ?_⟩
    · rw [sa2, show Nat.ble ((2, 16) : Nat × Nat).1 6 = true from rfl, gdT, sn, mn, Int.toNat_natCast]
      have g2 : (Nat.beq ((2, 16) : Nat × Nat).1 ((2, m) : Nat × Nat).1 && (Nat.beq ((2, 16) : Nat × Nat).1 0 || Nat.beq ((2, 16) : Nat × Nat).1 2) && wokF (WK L xs) S.1.1 && !(Nat.beq a S.1.1)) = true := by
        rw [wokFD i1, show Nat.beq a S.1.1 = false by
          cases hb : Nat.beq a S.1.1 with
          | false => rfl
          | true => have := Nat.eq_of_beq_eq_true hb; omega]
        rfl
      refine gd_go g2 ?_
      rw [if_pos (show 0 ≤ (m : Int) ∧ (0 : Int) ≤ 0 ∧ (0 : Int) ≤ 0 ∧ 0 + (m : Int) ≤ ((((2, 16) : Nat × Nat).2 : Nat) : Int) ∧ 0 + (m : Int) ≤ ((((2, m) : Nat × Nat).2 : Nat) : Int) from ⟨by omega, by decide, by decide, by show 0 + (m : Int) ≤ 16; omega, by show 0 + (m : Int) ≤ (m : Int); omega⟩)]
    · show (if S.1.1 = S.1.1 then ((2, m) : Nat × Nat) else S.1.2.2 S.1.1) = _
      rw [if_pos rfl]
    · show (if c = S.1.1 then ((2, m) : Nat × Nat) else S.1.2.2 c) = _
      rw [if_neg (by first | decide | omega)]
    · show (if c = S.1.1 then _ else (nw S 2 m).2 c) = _
      rw [if_neg (by first | decide | omega)]
      show (if c = S.1.1 then _ else S.2 c) = _
      rw [if_neg (by first | decide | omega)]
    · show (if S.1.1 = S.1.1 then cpyF (rdv (WK L xs) (nw S 2 m) a) (rdv (WK L xs) (nw S 2 m) S.1.1) 0 0 m else (nw S 2 m).2 S.1.1) j = _
      rw [if_pos rfl]
      unfold cpyF
      rw [if_pos (by first | decide | omega), ra, show 0 + (j - 0) = j by omega, nw_2, if_neg (by first | decide | omega)]
theorem x_copyB (i1 : 151 ≤ S.1.1) {m : Nat} (hm : m ≤ 200) : ∃ T, ev (WK L xs) (d + 1) 332 [vr 16, vi (m : Int)] S = some ((S.1.1 : Int), T) ∧ T.1.1 = S.1.1 + 1 ∧ T.1.2.1 = S.1.2.1 + m ∧ T.1.2.2 S.1.1 = (0, m) ∧ (∀ c, c < S.1.1 → T.1.2.2 c = S.1.2.2 c ∧ T.2 c = S.2 c) ∧ ∀ j, T.2 S.1.1 j = if j < m then S.2 16 j else 0 := by
  have sa : shp (WK L xs) S 16 = (0, 400) := rfl
  have ra : ∀ X : AH, ∀ j, rdv (WK L xs) X 16 j = X.2 16 j := fun X j => rfl
  rw [q_332, sa, show Nat.ble ((0, 400) : Nat × Nat).1 6 = true from rfl, gdT]
  have hne : ¬ ((m : Int) = ((((0, 400) : Nat × Nat).2 : Nat) : Int)) := fun z => by have : (m : Int) = 400 := z; omega
  rw [if_neg hne, if_pos (by first | decide | omega), Int.toNat_natCast]
  have sa2 : shp (WK L xs) (nw S 0 m) 16 = (0, 400) := rfl
  have sn : shp (WK L xs) (nw S 0 m) S.1.1 = (0, m) := by
    rw [shpD i1]
    show (if S.1.1 = S.1.1 then ((0, m) : Nat × Nat) else S.1.2.2 S.1.1) = _
    rw [if_pos rfl]
  have mn : min (((0, 400) : Nat × Nat).2 : Int) (m : Int) = (m : Int) := by
    show min (400 : Int) (m : Int) = (m : Int)
    omega
  refine ⟨wrA (nw S 0 m) S.1.1 (cpyF (rdv (WK L xs) (nw S 0 m) 16) (rdv (WK L xs) (nw S 0 m) S.1.1) 0 0 m), ?_, rfl, rfl, ?_, fun c hc => ⟨?_, ?_⟩, fun j => ?_⟩
  · rw [sa2, show Nat.ble ((0, 400) : Nat × Nat).1 6 = true from rfl, gdT, sn, mn, Int.toNat_natCast]
    have g2 : (Nat.beq ((0, 400) : Nat × Nat).1 ((0, m) : Nat × Nat).1 && (Nat.beq ((0, 400) : Nat × Nat).1 0 || Nat.beq ((0, 400) : Nat × Nat).1 2) && wokF (WK L xs) S.1.1 && !(Nat.beq 16 S.1.1)) = true := by
      rw [wokFD i1, show Nat.beq 16 S.1.1 = false by
        cases hb : Nat.beq 16 S.1.1 with
        | false => rfl
        | true => have := Nat.eq_of_beq_eq_true hb; omega]
      rfl
    refine gd_go g2 ?_
    rw [if_pos (show 0 ≤ (m : Int) ∧ (0 : Int) ≤ 0 ∧ (0 : Int) ≤ 0 ∧ 0 + (m : Int) ≤ ((((0, 400) : Nat × Nat).2 : Nat) : Int) ∧ 0 + (m : Int) ≤ ((((0, m) : Nat × Nat).2 : Nat) : Int) from ⟨by omega, by decide, by decide, by show 0 + (m : Int) ≤ 400; omega, by show 0 + (m : Int) ≤ (m : Int); omega⟩)]
  · show (if S.1.1 = S.1.1 then ((0, m) : Nat × Nat) else S.1.2.2 S.1.1) = _
    rw [if_pos rfl]
  · show (if c = S.1.1 then ((0, m) : Nat × Nat) else S.1.2.2 c) = _
    rw [if_neg (by first | decide | omega)]
  · show (if c = S.1.1 then _ else (nw S 0 m).2 c) = _
    rw [if_neg (by first | decide | omega)]
    show (if c = S.1.1 then _ else S.2 c) = _
    rw [if_neg (by first | decide | omega)]
  · show (if S.1.1 = S.1.1 then cpyF (rdv (WK L xs) (nw S 0 m) 16) (rdv (WK L xs) (nw S 0 m) S.1.1) 0 0 m else (nw S 0 m).2 S.1.1) j = _
    rw [if_pos rfl]
    unfold cpyF
    by_cases q : j < m
    · rw [if_pos (by first | decide | omega), if_pos q, ra, show 0 + (j - 0) = j by omega, nw_2, if_neg (by first | decide | omega)]
    · rw [if_neg (by first | decide | omega), if_neg q, rdvD i1, nw_2, if_pos rfl]
theorem x_textRead {n : Nat} {x : TXT} (i1 : 151 ≤ S.1.1) (hn : n ≤ 200) (h3 : S.2 22 3 = 16) (h5 : S.2 22 5 = n) (hX : XT S x) : ∃ T, ev (WK L xs) (d + 2) 154 [vr 22] S = some ((S.1.1 : Int), T) ∧ T.1.1 = S.1.1 + 4 ∧ T.1.2.1 = S.1.2.1 + 3 + n + x.length + x.length ∧ (∀ c, c < S.1.1 → T.1.2.2 c = S.1.2.2 c ∧ T.2 c = S.2 c) ∧ (T.1.2.2 S.1.1 = (19, 3) ∧ T.1.2.2 (S.1.1 + 1) = (0, n) ∧ T.1.2.2 (S.1.1 + 2) = (2, x.length) ∧ T.1.2.2 (S.1.1 + 3) = (2, x.length)) ∧ (T.2 S.1.1 0 = ((S.1.1 + 1 : Nat) : Int) ∧ T.2 S.1.1 1 = ((S.1.1 + 2 : Nat) : Int) ∧ T.2 S.1.1 2 = ((S.1.1 + 3 : Nat) : Int)) ∧ (∀ j, T.2 (S.1.1 + 1) j = if j < n then S.2 16 j else 0) ∧ ∀ j, j < x.length → T.2 (S.1.1 + 2) j = S.2 23 j ∧ T.2 (S.1.1 + 3) j = S.2 24 j := by
  obtain ⟨x1, x2, -⟩ := hX
  have n1 : (nw S 19 3).1.1 = S.1.1 + 1 := rfl
  have lo : ∀ c k, c < S.1.1 → (nw S 19 3).2 c k = S.2 c k := fun c k hc => by rw [nw_2, if_neg (by first | decide | omega)]
  obtain ⟨A, a1, a2, a3, a4, a5, a6⟩ := x_copyB (L := L) (xs := xs) (d := d) (S := nw S 19 3) (by first | decide | omega) hn
  obtain ⟨B, b1, b2, b3, b4, b5, b6⟩ := x_copyI (L := L) (xs := xs) (d := d) (S := A) (by first | decide | omega) (a := 23) (by first | decide | omega) x2
  obtain ⟨C, c1, c2, c3, c4, c5, c6⟩ := x_copyI (L := L) (xs := xs) (d := d) (S := B) (by first | decide | omega) (a := 24) (by first | decide | omega) x2
  rw [n1] at a1 a2 a4 a5 a6
  rw [a2] at b1 b2 b4 b5 b6
  rw [b2] at c1 c2 c4 c5 c6
  have shC : C.1.2.2 S.1.1 = (19, 3) := by
    rw [(c5 _ (by first | decide | omega)).1, (b5 _ (by first | decide | omega)).1, (a5 _ (by first | decide | omega)).1]
    show (if S.1.1 = S.1.1 then ((19, 3) : Nat × Nat) else S.1.2.2 S.1.1) = _
    rw [if_pos rfl]
  have eA : ∀ c, c < S.1.1 → A.2 c = S.2 c := fun c hc => by
    rw [(a5 c (by first | decide | omega)).2]
    funext k
    exact lo c k hc
  have eB : ∀ c, c < S.1.1 → B.2 c = S.2 c := fun c hc => by rw [(b5 c (by first | decide | omega)).2, eA c hc]
  have eC : ∀ c, c < S.1.1 → C.2 c = S.2 c := fun c hc => by rw [(c5 c (by first | decide | omega)).2, eB c hc]
  refine ⟨wr (wr (wr C S.1.1 0 ((S.1.1 + 1 : Nat) : Int)) S.1.1 1 ((S.1.1 + 2 : Nat) : Int)) S.1.1 2 ((S.1.1 + 3 : Nat) : Int), ?_, ?_, ?_, fun c hc => ⟨?_, ?_⟩, ⟨shC, ?_, ?_, ?_⟩, ⟨?_, ?_, ?_⟩, fun j => ?_, fun j hj => ⟨?_, ?_⟩⟩
  · have s16 : shp (WK L xs) S 16 = (0, 400) := rfl
    have e3 : ((nw S 19 3).2 22 3).toNat = 16 := by rw [lo 22 3 (by first | decide | omega), h3]; rfl
    have mx : max 0 (min (n : Int) ((((0, 400) : Nat × Nat).2 : Nat) : Int)) = (n : Int) := by
      show max 0 (min (n : Int) (400 : Int)) = (n : Int)
      omega
    rw [q_154, show (S.2 22 3).toNat = 16 by rw [h3]; rfl, s16, show Nat.ble ((0, 400) : Nat × Nat).1 6 = true from rfl, gdT, e3, h5, mx, a1, bR, show A.2 22 2 = (x.length : Int) by rw [eA 22 (by first | decide | omega), x1], b1, bR, show B.2 22 2 = (x.length : Int) by rw [eB 22 (by first | decide | omega), x1], c1, bR]
    have g1 : (Nat.beq (shp (WK L xs) C S.1.1).1 19 && Nat.ble 1 8) = true := by rw [shpD i1, shC]; rfl
    refine gd_go g1 ?_
    rw [q_160, Int.toNat_natCast, Int.toNat_natCast, Int.toNat_natCast]
    have gg : ∀ X : AH, X.1 = C.1 → (Nat.beq (shp (WK L xs) X S.1.1).1 19) = true := fun X hX => by rw [shpD i1, hX, shC]; rfl
    have w : ∀ k, wok (WK L xs) S.1.1 k = true := fun k => wokD i1
    rw [gg C rfl, w, gg (wr C S.1.1 0 ((S.1.1 + 1 : Nat) : Int)) rfl, w, gg (wr (wr C S.1.1 0 ((S.1.1 + 1 : Nat) : Int)) S.1.1 1 ((S.1.1 + 1 + 1 : Nat) : Int)) rfl, w]
    rfl
  · show C.1.1 = _
    omega
  · show C.1.2.1 = _
    rw [c3, b3, a3]
    show S.1.2.1 + 3 + n + x.length + x.length = _
    rfl
  · show C.1.2.2 c = _
    rw [(c5 c (by first | decide | omega)).1, (b5 c (by first | decide | omega)).1, (a5 c (by first | decide | omega)).1]
    show (if c = S.1.1 then ((19, 3) : Nat × Nat) else S.1.2.2 c) = _
    rw [if_neg (by first | decide | omega)]
  · rw [wr_c (by first | decide | omega), wr_c (by first | decide | omega), wr_c (by first | decide | omega), eC c hc]
  · show C.1.2.2 (S.1.1 + 1) = _
    rw [(c5 _ (by first | decide | omega)).1, (b5 _ (by first | decide | omega)).1, a4]
  · show C.1.2.2 (S.1.1 + 2) = _
    rw [(c5 _ (by first | decide | omega)).1, b4]
  · exact c4
  · rw [wr_f, if_neg (by decide), wr_f, if_neg (by decide), wr_f, if_pos rfl]
  · rw [wr_f, if_neg (by decide), wr_f, if_pos rfl]
  · rw [wr_f, if_pos rfl]
  · rw [wr_c (by first | decide | omega), wr_c (by first | decide | omega), wr_c (by first | decide | omega), (c5 _ (by first | decide | omega)).2, (b5 _ (by first | decide | omega)).2, a6 j, lo 16 j (by first | decide | omega)]
  · rw [wr_c (by first | decide | omega), wr_c (by first | decide | omega), wr_c (by first | decide | omega), (c5 _ (by first | decide | omega)).2, b6 j hj, eA 23 (by first | decide | omega)]
  · rw [wr_c (by first | decide | omega), wr_c (by first | decide | omega), wr_c (by first | decide | omega), c6 j hj, eB 24 (by first | decide | omega)]
end
end
