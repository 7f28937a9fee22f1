/-! the class's reader: its state -/
noncomputable def FA (S : AH) (le : Int → Int) (ud : Int → Bool) : Prop := (S.2 26 0 = le 97 ∧ S.2 26 1 = le 121 ∧ S.2 26 2 = le 104 ∧ S.2 26 3 = le 107 ∧ S.2 26 4 = le 114 ∧ S.2 26 5 = le 113 ∧ S.2 26 6 = le 108) ∧ ∀ N : Int, 0 ≤ N → N ≤ 39 → (lcmp (land (lushr (S.2 22 11) N) 1) 0 = 0 ↔ ud N = false)
noncomputable def RB (L : Nat) (xs : Nat → Int) (t : TB) (n : Nat) (S : AH) : Prop := n ≤ 200 ∧ (∀ k, 0 ≤ t k ∧ t k ≤ 255) ∧ S.2 22 5 = n ∧ ∃ b len : Nat, S.2 22 3 = b ∧ b ≠ 22 ∧ b ≠ 23 ∧ b ≠ 24 ∧ shp (WK L xs) S b = (0, len) ∧ n ≤ len ∧ ∀ k, k < n → iand (rdv (WK L xs) S b k) 255 = t k
noncomputable def Cf (S S' : AH) : Prop := S'.1 = S.1 ∧ (∀ a, a ≠ 22 → S'.2 a = S.2 a) ∧ ∀ k, ¬ (4 ≤ k ∧ k ≤ 9 ∧ k ≠ 5) → S'.2 22 k = S.2 22 k
noncomputable def GS (L : Nat) (xs : Nat → Int) (t : TB) (n : Nat) (le : Int → Int) (ud : Int → Bool) (S : AH) (p : Nat) : Prop := RB L xs t n S ∧ FA S le ud ∧ S.2 22 4 = p ∧ S.2 22 6 = sgn t n p ∧ S.2 22 7 = 0 ∧ S.2 22 9 = 0 ∧ p ≤ n
noncomputable def FS (S T : AH) (e : Int) : Prop := Cf S T ∧ T.2 22 6 = -1 ∧ ∃ (f : Int) (q : Nat), T.2 22 7 = f ∧ T.2 22 8 = q ∧ 1 ≤ f ∧ f ≤ 6 ∧ q ≤ 300 ∧ e = flt f q
noncomputable def Rf (S T : AH) : Prop := Cf S T ∧ T.2 22 6 = -1 ∧ T.2 22 9 = 1 ∧ T.2 22 7 = 0
/-- nothing more is read -/
noncomputable def Dead (S : AH) : Prop := S.2 22 6 = -1 ∧ (S.2 22 7 ≠ 0 ∨ S.2 22 9 ≠ 0)
section
variable {L : Nat} {xs : Nat → Int} {d : Nat} {S S' T U W : AH} {t : TB} {n p : Nat} {le : Int → Int} {ud : Int → Bool}
theorem rdv_fr {b k : Nat} (h : T.2 b = S.2 b) : rdv (WK L xs) T b k = rdv (WK L xs) S b k := by
  unfold rdv
  rw [h]
theorem shp_fr {b : Nat} (h : T.1 = S.1) : shp (WK L xs) T b = shp (WK L xs) S b := by
  unfold shp
  rw [h]
theorem Cf.rf : Cf S S := ⟨rfl, fun _ _ => rfl, fun _ _ => rfl⟩
theorem Cf.tr (h : Cf S T) (k : Cf T U) : Cf S U := ⟨k.1.trans h.1, fun a q => (k.2.1 a q).trans (h.2.1 a q), fun j q => (k.2.2 j q).trans (h.2.2 j q)⟩
theorem Cf.w {k : Nat} {v : Int} (hk : 4 ≤ k ∧ k ≤ 9 ∧ k ≠ 5) : Cf S (wr S 22 k v) := ⟨rfl, fun a q => wr_c q, fun j q => by rw [wr_f, if_neg (by first | decide | omega)]⟩
theorem RB.fr (h : RB L xs t n S) (hf : Cf S T) : RB L xs t n T := by
  obtain ⟨h1, h2, h3, b, len, h4, h5, h6, h7, h8, h9, h10⟩ := h
  refine ⟨h1, h2, by rw [hf.2.2 5 (by first | decide | omega), h3], b, len, by rw [hf.2.2 3 (by first | decide | omega), h4], h5, h6, h7, by rw [shp_fr hf.1, h8], h9, fun k hk => ?_⟩
  rw [rdv_fr (hf.2.1 b h5)]
  exact h10 k hk
theorem FA.fr (h : FA S le ud) (hf : Cf S T) : FA T le ud := by
  unfold FA
  rw [hf.2.1 26 (by decide), hf.2.2 11 (by first | decide | omega)]
  exact h
theorem FS.of (h : Cf S T) {e : Int} (k : FS T U e) : FS S U e := ⟨h.tr k.1, k.2⟩
theorem Rf.of (h : Cf S T) (k : Rf T U) : Rf S U := ⟨h.tr k.1, k.2⟩
theorem FS.dead {e : Int} (h : FS S T e) : Dead T := by
  obtain ⟨-, h2, f, q, h3, -, h5, -⟩ := h
  exact ⟨h2, Or.inl (by first | decide | omega)⟩
theorem Rf.dead (h : Rf S T) : Dead T := ⟨h.2.1, Or.inr (by rw [h.2.2.1]; decide)⟩
theorem sgn_b (h : ∀ k, 0 ≤ t k ∧ t k ≤ 255) : -1 ≤ sgn t n p ∧ sgn t n p ≤ 255 := by
  unfold sgn
  have := h p
  split <;> omega
theorem sgn_lt (h : sgn t n p ≠ -1) : p < n := by
  unfold sgn at h
  by_cases q : p < n
  · exact q
  · rw [if_neg q] at h
    exact absurd rfl h
theorem sgn_cu {c : Int} (hc : 0 < c) : sgn t n p = c ↔ cu t n p = c := by
  unfold sgn cu
  by_cases q : p < n
  · rw [if_pos q, if_pos q]
  · rw [if_neg q, if_neg q]
    omega
theorem sgn_tm : isTm (sgn t n p) = isTm (cu t n p) := by
  unfold sgn cu
  by_cases q : p < n
  · rw [if_pos q, if_pos q]
  · rw [if_neg q, if_neg q]
    decide
theorem sgn_sg : isSg (sgn t n p) = isSg (cu t n p) := by
  unfold sgn cu
  by_cases q : p < n
  · rw [if_pos q, if_pos q]
  · rw [if_neg q, if_neg q]
    decide
theorem sgn_lw : isLw (sgn t n p) = isLw (cu t n p) := by
  unfold sgn cu
  by_cases q : p < n
  · rw [if_pos q, if_pos q]
  · rw [if_neg q, if_neg q]
    decide
theorem sgn_wd : isWd (sgn t n p) = isWd (cu t n p) := by
  unfold sgn cu
  by_cases q : p < n
  · rw [if_pos q, if_pos q]
  · rw [if_neg q, if_neg q]
    decide
theorem sgn_dg : dgt (sgn t n p) = dgt (cu t n p) := by
  unfold sgn cu
  by_cases q : p < n
  · rw [if_pos q, if_pos q]
  · rw [if_neg q, if_neg q]
    decide
theorem cu_sgn (h : p < n) : sgn t n p = cu t n p := by
  unfold sgn cu
  rw [if_pos h, if_pos h]
/-- to a place -/
theorem x_step0 (hB : RB L xs t n S) (hA : FA S le ud) {q : Nat} (h4 : S.2 22 4 = (q : Int) - 1) (hq : q ≤ n) (h7 : S.2 22 7 = 0) (h9 : S.2 22 9 = 0) : ∃ T, ev (WK L xs) (d + 1) 137 [vr 22] S = some (0, T) ∧ GS L xs t n le ud T q ∧ Cf S T := by
  have hB0 := hB
  obtain ⟨b1, b2, b3, b, len, b4, b5, b6, b7, b8, b9, b10⟩ := hB
  have hz : Cf S (wr (wr S 22 4 (q : Int)) 22 6 (sgn t n q)) := (Cf.w (by first | decide | omega)).tr (Cf.w (by first | decide | omega))
  refine ⟨wr (wr S 22 4 (q : Int)) 22 6 (sgn t n q), ?_, ⟨hB0.fr hz, hA.fr hz, ?_, ?_, ?_, ?_, hq⟩, hz⟩
  · rw [q_137, h4, show (q : Int) - 1 + 1 = (q : Int) by omega, w32e (x := (q : Int)) (by first | decide | omega) (by first | decide | omega), if_neg (by first | decide | omega), b3]
    unfold sgn
    by_cases c : q < n
    · rw [if_pos (by first | decide | omega), if_pos c, b4, Int.toNat_natCast, shp_fr (T := wr S 22 4 (q : Int)) (S := S) rfl, b8, show Nat.ble ((0, len) : Nat × Nat).1 6 = true from rfl, gdT, if_pos (show (q : Int) < ((((0, len) : Nat × Nat).2 : Nat) : Int) from by show (q : Int) < (len : Int); omega), show Nat.ble ((0, len) : Nat × Nat).1 1 = true from rfl, gdT, if_pos (show 0 ≤ (q : Int) ∧ (q : Int) < ((((0, len) : Nat × Nat).2 : Nat) : Int) from by show 0 ≤ (q : Int) ∧ (q : Int) < (len : Int); omega), Int.toNat_natCast, rdv_fr (T := wr S 22 4 (q : Int)) (S := S) (wr_c b5), b10 q c]
    · rw [if_neg (by first | decide | omega), if_neg c]
  · rw [wr_f, if_neg (by decide), wr_f, if_pos rfl]
  · rw [wr_f, if_pos rfl]
  · rw [wr_f, if_neg (by decide), wr_f, if_neg (by decide), h7]
  · rw [wr_f, if_neg (by decide), wr_f, if_neg (by decide), h9]
theorem x_step (H : GS L xs t n le ud S p) (hp : p < n) : ∃ T, ev (WK L xs) (d + 1) 137 [vr 22] S = some (0, T) ∧ GS L xs t n le ud T (p + 1) ∧ Cf S T := x_step0 H.1 H.2.1 (q := p + 1) (by rw [H.2.2.1]; omega) (by first | decide | omega) H.2.2.2.2.1 H.2.2.2.2.2.1
theorem x_fail (H : GS L xs t n le ud S p) {f : Int} (hf : 1 ≤ f ∧ f ≤ 6) {q : Nat} (hq : q ≤ 300) : ∃ T, ev (WK L xs) (d + 1) 141 [vr 22, vi f, vi (q : Int)] S = some (0, T) ∧ FS S T (flt f q) := by
  obtain ⟨h1, h2, h3, h4, h7, h9, h10⟩ := H
  refine ⟨_, by rw [q_141, if_pos h7, if_pos h9], ⟨((Cf.w (by first | decide | omega)).tr (Cf.w (by first | decide | omega))).tr (Cf.w (by first | decide | omega)), by rw [wr_f, if_pos rfl], f, q, ?_, ?_, hf.1, hf.2, hq, rfl⟩⟩
  · rw [wr_f, if_neg (by decide), wr_f, if_neg (by decide), wr_f, if_pos rfl]
  · rw [wr_f, if_neg (by decide), wr_f, if_pos rfl]
theorem x_failD (H : Dead S) (f q : Int) : ev (WK L xs) (d + 1) 141 [vr 22, vi f, vi q] S = some (0, S) := by
  rw [q_141]
  by_cases c : S.2 22 7 = 0
  · rw [if_pos c, if_neg (H.2.resolve_left (fun z => z c))]
  · rw [if_neg c]
theorem x_expect (H : GS L xs t n le ud S p) {c : Int} (hc : 0 < c) : (cu t n p = c → ∃ T, ev (WK L xs) (d + 2) 145 [vr 22, vi c] S = some (0, T) ∧ GS L xs t n le ud T (p + 1) ∧ Cf S T) ∧ (cu t n p ≠ c → ∃ T, ev (WK L xs) (d + 2) 145 [vr 22, vi c] S = some (0, T) ∧ FS S T (flt 1 p)) := by
  have h200 := H.1.1
  refine ⟨fun q => ?_, fun q => ?_⟩
  · obtain ⟨T, t1, t2, t3⟩ := x_step (d := d) H (cu_pos (t := t) (n := n) (p := p) (by first | decide | omega))
    exact ⟨T, by rw [q_145, H.2.2.2.1, if_pos ((sgn_cu hc).mpr q), t1, bR], t2, t3⟩
  · obtain ⟨T, t1, t2⟩ := x_fail (d := d) H (f := 1) (by decide) (q := p) (by have := H.2.2.2.2.2.2; omega)
    exact ⟨T, by rw [q_145, H.2.2.2.1, if_neg (fun z => q ((sgn_cu hc).mp z)), H.2.2.1, t1, bR], t2⟩
theorem x_expectD (H : Dead S) {c : Int} (hc : 0 < c) : ev (WK L xs) (d + 2) 145 [vr 22, vi c] S = some (0, S) := by
  rw [q_145, H.1, if_neg (by first | decide | omega), x_failD H, bR]
theorem x_digD (H : Dead S) : ev (WK L xs) (d + 1) 144 [vr 22] S = some (0, S) := by rw [x_dig H.1, bi_F (by decide)]
theorem x_numD (H : Dead S) (most : Int) : ev (WK L xs) (d + 2) 143 [vr 22, vi most] S = some (0, S) := by
  rw [q_143, q_143_13, if_pos (by decide), x_digD H, bR, if_pos rfl, q_143_53, if_pos rfl, x_failD H, bR]
theorem x_numL (most : Int) (f : Nat) (k : Nat) : ∀ (j : Nat) (v : Int) (S : AH), j + k = 6 → 1 ≤ j → 0 ≤ v → v < pw10 j → GS L xs t n le ud S (f + j) →
    (dgt (cu t n (nds t n k (f + j) v).1) = true → ∃ w T, LQ (WK L xs) (ev (WK L xs) (d + 1)) 143 13 [some (vr 22), some (vi most), some (vi (f : Int)), some (vi v), some (vi (j : Int)), some (vi (j : Int))] [] S = some (w, T) ∧ FS S T (flt 2 (nds t n k (f + j) v).1)) ∧
    (dgt (cu t n (nds t n k (f + j) v).1) = false → most < (nds t n k (f + j) v).2 → ∃ w T, LQ (WK L xs) (ev (WK L xs) (d + 1)) 143 13 [some (vr 22), some (vi most), some (vi (f : Int)), some (vi v), some (vi (j : Int)), some (vi (j : Int))] [] S = some (w, T) ∧ FS S T (flt 3 f)) ∧
    (dgt (cu t n (nds t n k (f + j) v).1) = false → ¬ most < (nds t n k (f + j) v).2 → ∃ T, LQ (WK L xs) (ev (WK L xs) (d + 1)) 143 13 [some (vr 22), some (vi most), some (vi (f : Int)), some (vi v), some (vi (j : Int)), some (vi (j : Int))] [] S = some ((nds t n k (f + j) v).2, T) ∧ GS L xs t n le ud T (nds t n k (f + j) v).1 ∧ Cf S T) := by
  have fin : ∀ (j : Nat) (v : Int) (S : AH), 1 ≤ j → j ≤ 6 → GS L xs t n le ud S (f + j) → (dgt (cu t n (f + j)) = true → ∃ w T, LQ (WK L xs) (ev (WK L xs) (d + 1)) 143 53 [some (vr 22), some (vi most), some (vi (f : Int)), some (vi v), some (vi (j : Int)), none] [] S = some (w, T) ∧ FS S T (flt 2 (f + j))) ∧ (dgt (cu t n (f + j)) = false → most < v → ∃ w T, LQ (WK L xs) (ev (WK L xs) (d + 1)) 143 53 [some (vr 22), some (vi most), some (vi (f : Int)), some (vi v), some (vi (j : Int)), none] [] S = some (w, T) ∧ FS S T (flt 3 f)) ∧ (dgt (cu t n (f + j)) = false → ¬ most < v → ∃ T, LQ (WK L xs) (ev (WK L xs) (d + 1)) 143 53 [some (vr 22), some (vi most), some (vi (f : Int)), some (vi v), some (vi (j : Int)), none] [] S = some (v, T) ∧ GS L xs t n le ud T (f + j) ∧ Cf S T) := by
    intro j v S h1 h6 H
    have h200 := H.1.1
    have hn := H.2.2.2.2.2.2
    rw [q_143_53, if_neg (by first | decide | omega), x_dig H.2.2.2.1, bR, sgn_dg]
    simp only [bi_0]
    refine ⟨fun q => ?_, fun q q2 => ?_, fun q q2 => ?_⟩
    · obtain ⟨T, t1, t2⟩ := x_fail (d := d) H (f := 2) (by decide) (q := f + j) (by first | decide | omega)
      rw [if_neg (fun z => z q), H.2.2.1, t1, bR]
      exact ⟨v, T, rfl, t2⟩
    · obtain ⟨T, t1, t2⟩ := x_fail (d := d) H (f := 3) (by decide) (q := f) (by first | decide | omega)
      rw [if_pos (nt q), if_pos q2, t1, bR]
      exact ⟨v, T, rfl, t2⟩
    · rw [if_pos (nt q), if_neg q2]
      exact ⟨S, rfl, H, Cf.rf⟩
  induction k with
  | zero =>
    intro j v S hj j1 v0 v1 H
    simp only [nds]
    rw [q_143_13, if_neg (by first | decide | omega)]
    exact fin j v S j1 (by first | decide | omega) H
  | succ k ih =>
    intro j v S hj j1 v0 v1 H
    have h200 := H.1.1
    have b6 := pw10_b (j := j) (by first | decide | omega)
    unfold nds
    by_cases q : dgt (cu t n (f + j)) = true
    · rw [if_pos q]
      have hc := dgt_b q
      have hlt := cu_pos (t := t) (n := n) (p := f + j) (by first | decide | omega)
      obtain ⟨T, t1, t2, t3⟩ := x_step (L := L) (xs := xs) (d := d) H hlt
      have step : LQ (WK L xs) (ev (WK L xs) (d + 1)) 143 13 [some (vr 22), some (vi most), some (vi (f : Int)), some (vi v), some (vi (j : Int)), some (vi (j : Int))] [] S = LQ (WK L xs) (ev (WK L xs) (d + 1)) 143 13 [some (vr 22), some (vi most), some (vi (f : Int)), some (vi (10 * v + cu t n (f + j) - 48)), some (vi ((j + 1 : Nat) : Int)), some (vi ((j + 1 : Nat) : Int))] [] T := by
        rw [q_143_13, if_pos (by first | decide | omega), x_dig H.2.2.2.1, bR, sgn_dg]
        simp only [bi_0]
        rw [if_neg (fun z => z q), t1, bR, H.2.2.2.1, cu_sgn hlt, w32e (x := v * 10) (by first | decide | omega) (by first | decide | omega), w32e (x := cu t n (f + j) - 48) (by first | decide | omega) (by first | decide | omega), w32e (x := v * 10 + (cu t n (f + j) - 48)) (by first | decide | omega) (by first | decide | omega), w32e (x := (j : Int) + 1) (by first | decide | omega) (by first | decide | omega), show v * 10 + (cu t n (f + j) - 48) = 10 * v + cu t n (f + j) - 48 by omega]
        rfl
      rw [step]
      have hI := ih (j + 1) (10 * v + cu t n (f + j) - 48) T (by first | decide | omega) (by first | decide | omega) (by first | decide | omega) (by show _ < 10 * pw10 j; omega) t2
      rw [show f + j + 1 = f + (j + 1) from rfl]
      obtain ⟨h1, h2, h3⟩ := hI
      refine ⟨fun x => ?_, fun x y => ?_, fun x y => ?_⟩
      · obtain ⟨w, U, a, b⟩ := h1 x
        exact ⟨w, U, a, b.of t3⟩
      · obtain ⟨w, U, a, b⟩ := h2 x y
        exact ⟨w, U, a, b.of t3⟩
      · obtain ⟨U, a, b, c⟩ := h3 x y
        exact ⟨U, a, b, t3.tr c⟩
    · rw [if_neg q]
      have e : LQ (WK L xs) (ev (WK L xs) (d + 1)) 143 13 [some (vr 22), some (vi most), some (vi (f : Int)), some (vi v), some (vi (j : Int)), some (vi (j : Int))] [] S = LQ (WK L xs) (ev (WK L xs) (d + 1)) 143 53 [some (vr 22), some (vi most), some (vi (f : Int)), some (vi v), some (vi (j : Int)), none] [] S := by
        rw [q_143_13, if_pos (by first | decide | omega), x_dig H.2.2.2.1, bR, sgn_dg]
        simp only [bi_0]
        rw [if_pos q]
      rw [e]
      exact fin j v S j1 (by first | decide | omega) H
theorem x_num (most : Int) (H : GS L xs t n le ud S p) : match rdN t n most p with
    | .inl e => ∃ w T, ev (WK L xs) (d + 2) 143 [vr 22, vi most] S = some (w, T) ∧ FS S T e
    | .inr (q, v) => ∃ T, ev (WK L xs) (d + 2) 143 [vr 22, vi most] S = some (v, T) ∧ GS L xs t n le ud T q ∧ Cf S T := by
  have h200 := H.1.1
  have hn := H.2.2.2.2.2.2
  unfold rdN
  by_cases q : dgt (cu t n p) = false
  · rw [if_pos q]
    show ∃ w T, ev (WK L xs) (d + 2) 143 [vr 22, vi most] S = some (w, T) ∧ FS S T (flt 1 p)
    obtain ⟨T, t1, t2⟩ := x_fail (L := L) (xs := xs) (d := d) H (f := 1) (by decide) (q := p) (by first | decide | omega)
    rw [q_143, q_143_13, if_pos (by decide), x_dig H.2.2.2.1, bR, sgn_dg]
    simp only [bi_0]
    rw [if_pos (nt q), q_143_53, if_pos rfl, H.2.2.1, t1, bR]
    exact ⟨0, T, rfl, t2⟩
  · rw [if_neg q]
    have q' : dgt (cu t n p) = true := by simpa using q
    have hc := dgt_b q'
    have hlt := cu_pos (t := t) (n := n) (p := p) (by first | decide | omega)
    obtain ⟨T, t1, t2, t3⟩ := x_step (L := L) (xs := xs) (d := d) H hlt
    have e : ev (WK L xs) (d + 2) 143 [vr 22, vi most] S = LQ (WK L xs) (ev (WK L xs) (d + 1)) 143 13 [some (vr 22), some (vi most), some (vi (p : Int)), some (vi (10 * 0 + cu t n p - 48)), some (vi ((1 : Nat) : Int)), some (vi ((1 : Nat) : Int))] [] T := by
      rw [q_143, q_143_13, if_pos (by decide), x_dig H.2.2.2.1, bR, sgn_dg]
      simp only [bi_0]
      rw [if_neg (fun z => z q'), t1, bR, H.2.2.2.1, H.2.2.1, cu_sgn hlt, w32e (x := (0 : Int) * 10) (by first | decide | omega) (by first | decide | omega), w32e (x := cu t n p - 48) (by first | decide | omega) (by first | decide | omega), w32e (x := 0 * 10 + (cu t n p - 48)) (by first | decide | omega) (by first | decide | omega), w32e (x := (0 : Int) + 1) (by first | decide | omega) (by first | decide | omega), show 0 * 10 + (cu t n p - 48) = 10 * 0 + cu t n p - 48 by omega]
      rfl
    rw [e]
    obtain ⟨h1, h2, h3⟩ := x_numL (L := L) (xs := xs) (d := d) (le := le) (ud := ud) (t := t) (n := n) most p 5 1 (10 * 0 + cu t n p - 48) T (by decide) (by decide) (by first | decide | omega) (by show _ < 10 * pw10 0; show _ < (10 : Int) * 1; omega) t2
    have e6 : nds t n 6 p 0 = nds t n 5 (p + 1) (10 * 0 + cu t n p - 48) := by rw [nds, if_pos q']
    rw [← e6] at h1 h2 h3
    by_cases c1 : dgt (cu t n (nds t n 6 p 0).1) = true
    · rw [if_pos c1]
      obtain ⟨w, U, a, b⟩ := h1 c1
      exact ⟨w, U, a, b.of t3⟩
    · have c1' := nf c1
      rw [if_neg c1]
      by_cases c2 : most < (nds t n 6 p 0).2
      · rw [if_pos c2]
        obtain ⟨w, U, a, b⟩ := h2 c1' c2
        exact ⟨w, U, a, b.of t3⟩
      · rw [if_neg c2]
        obtain ⟨U, a, b, c⟩ := h3 c1' c2
        exact ⟨U, a, b, t3.tr c⟩
end
