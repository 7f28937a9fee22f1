section
-- 82.rbase
/-! the reference's reader: its small steps -/
noncomputable def Zf (S S' : AH) : Prop := S'.1 = S.1 ∧ (∀ a, a ≠ 72 → a ≠ 91 → a ≠ 92 → a ≠ 93 → S'.2 a = S.2 a) ∧ ∀ k, k ≠ 18 → k ≠ 20 → k ≠ 22 → k ≠ 23 → k ≠ 24 → k ≠ 26 → k ≠ 35 → S'.2 72 k = S.2 72 k
/-- the bytes and their end -/
noncomputable def Zt (t : TB) (n : Nat) (S : AH) : Prop := (∀ k, k < n → iand (S.2 73 k) 255 = t k) ∧ S.2 72 19 = n ∧ n ≤ 200
noncomputable def Bd (S S' : AH) (e : Int) : Prop := Zf S S' ∧ S'.2 72 20 = e ∧ e < 0
/-- how many of ( [ ! are open -/
noncomputable def opn : List Int → Nat
  | [] => 0
  | c :: s => (if c = 33 ∨ c = 40 ∨ c = 91 then 1 else 0) + opn s
/-- place, code, stack (its top first) -/
noncomputable def RZ (t : TB) (n : Nat) (S : AH) (p : Nat) (cd : CD) (st : List Int) : Prop := Zt t n S ∧ (S.2 72 18 = p ∧ S.2 72 20 = 0 ∧ S.2 72 22 = cd.length ∧ S.2 72 23 = opn st ∧ S.2 72 24 = st.length ∧ S.2 72 26 = 0) ∧ (p ≤ n ∧ cd.length + st.length ≤ p ∧ opn st ≤ 8) ∧ (∀ (i : Nat) (q : Int × Int), cd[i]? = some q → S.2 91 i = q.1 ∧ S.2 92 i = q.2) ∧ ∀ (i : Nat) (c : Int), st[i]? = some c → S.2 93 (st.length - 1 - i) = c
/-- codes without an argument -/
noncomputable def pdc (pd : List Int) : CD := pd.map fun c => (c, (0 : Int))
theorem pdc_nil : pdc [] = [] := rfl
theorem pdc_cons (c : Int) (pd : List Int) : pdc (c :: pd) = (c, 0) :: pdc pd := rfl
theorem pdc_app (a b : List Int) : pdc (a ++ b) = pdc a ++ pdc b := by unfold pdc; rw [List.map_append]
section
variable {L : Nat} {xs : Nat → Int} {d : Nat} {S S' T U W : AH} {t : TB} {n p : Nat} {cd : CD} {st : List Int}
theorem Zf.rf : Zf S S := ⟨rfl, fun _ _ _ _ _ => rfl, fun _ _ _ _ _ _ _ _ => rfl⟩
theorem Zf.tr (h : Zf S T) (k : Zf T U) : Zf S U := ⟨k.1.trans h.1, fun a q1 q2 q3 q4 => (k.2.1 a q1 q2 q3 q4).trans (h.2.1 a q1 q2 q3 q4), fun j q1 q2 q3 q4 q5 q6 q7 => (k.2.2 j q1 q2 q3 q4 q5 q6 q7).trans (h.2.2 j q1 q2 q3 q4 q5 q6 q7)⟩
theorem Zf.w72 {k : Nat} {v : Int} (hk : k = 18 ∨ k = 20 ∨ k = 22 ∨ k = 23 ∨ k = 24 ∨ k = 26 ∨ k = 35) : Zf S (wr S 72 k v) := ⟨rfl, fun a q1 _ _ _ => wr_c q1, fun j q1 q2 q3 q4 q5 q6 q7 => by rw [wr_f, if_neg (by first | decide | omega)]⟩
theorem Zf.wA {a k : Nat} {v : Int} (ha : a = 91 ∨ a = 92 ∨ a = 93) : Zf S (wr S a k v) := ⟨rfl, fun b q1 q2 q3 q4 => wr_c (by first | decide | omega), fun j _ _ _ _ _ _ _ => by rw [wr_c (by first | decide | omega)]⟩
theorem Zt.fr (h : Zt t n S) (hf : Zf S S') : Zt t n S' := by
  obtain ⟨h1, h2, h3⟩ := h
  refine ⟨?_, ?_, h3⟩
  · rw [hf.2.1 73 (by decide) (by decide) (by decide) (by decide)]
    exact h1
  · rw [hf.2.2 19 (by decide) (by decide) (by decide) (by decide) (by decide) (by decide) (by decide)]
    exact h2
theorem Bd.of (h : Zf S T) {e : Int} (k : Bd T U e) : Bd S U e := ⟨h.tr k.1, k.2⟩
theorem cu_pos (h : cu t n p ≠ 0) : p < n := by
  unfold cu at h
  by_cases q : p < n
  · exact q
  · rw [if_neg q] at h
    exact absurd rfl h
theorem m_times (c : Int) : ev (WK L xs) (d + 1) 221 [vi c] S = some (bi (isTm c = true), S) := by
  rw [q_221]
  unfold bi isTm
  simp only [decide_eq_true_eq]
  ((repeat' split) <;> first | rfl | (exfalso; omega))
theorem m_plus (c : Int) : ev (WK L xs) (d + 1) 222 [vi c] S = some (bi (isPm c = true), S) := by
  rw [q_222]
  unfold bi isPm
  simp only [decide_eq_true_eq]
  ((repeat' split) <;> first | rfl | (exfalso; omega))
theorem m_sign (c : Int) : ev (WK L xs) (d + 1) 226 [vi c] S = some (bi (isSg c = true), S) := by
  rw [q_226]
  unfold bi isSg
  simp only [decide_eq_true_eq]
  ((repeat' split) <;> first | rfl | (exfalso; omega))
theorem m_value (c : Int) : ev (WK L xs) (d + 1) 219 [vi c] S = some (bi (isVl c = true), S) := by
  rw [q_219]
  unfold bi isVl
  simp only [decide_eq_true_eq]
  ((repeat' split) <;> first | rfl | (exfalso; omega))
theorem m_words (c : Int) : ev (WK L xs) (d + 1) 208 [vi c] S = some (bi (isWd c = true), S) := by
  rw [q_208]
  unfold bi isWd
  simp only [decide_eq_true_eq]
  ((repeat' split) <;> first | rfl | (exfalso; omega))
theorem m_laws (c : Int) : ev (WK L xs) (d + 1) 209 [vi c] S = some (bi (isLw c = true), S) := by
  rw [q_209]
  unfold bi isLw
  simp only [decide_eq_true_eq]
  ((repeat' split) <;> first | rfl | (exfalso; omega))
theorem m_good (h : S.2 72 20 = 0) : ev (WK L xs) (d + 1) 205 [vr 72] S = some (1, S) := by rw [q_205, if_pos h]
theorem m_bad (h : S.2 72 20 ≠ 0) : ev (WK L xs) (d + 1) 205 [vr 72] S = some (0, S) := by rw [q_205, if_neg h]
theorem m_here (z : Zt t n S) (hp : S.2 72 18 = p) (h3 : p ≤ 300) : ev (WK L xs) (d + 1) 207 [vr 72] S = some (cu t n p, S) := by
  obtain ⟨z1, z2, z3⟩ := z
  rw [q_207, hp, z2]
  unfold cu
  by_cases q : p < n
  · rw [if_pos (by first | decide | omega), if_pos (by first | decide | omega), if_pos q, Int.toNat_natCast, z1 p q]
  · rw [if_neg (by first | decide | omega), if_neg q]
theorem m_sees (z : Zt t n S) (hp : S.2 72 18 = p) (h3 : p ≤ 300) : ev (WK L xs) (d + 2) 215 [vr 72] S = some (bi (dgt (cu t n p) = true), S) := by
  rw [q_215, m_here z hp h3, bR, m_lies, bR]
  simp only [bi_01, if_true]
  congr 2
  refine bi_iff ?_
  unfold dgt
  rw [decide_eq_true_eq]
theorem m_fails (h : S.2 72 20 = 0) {f : Int} (hf : 1 ≤ f ∧ f ≤ 6) {q : Nat} (hq : q ≤ 300) : ev (WK L xs) (d + 1) 210 [vr 72, vi f, vi (q : Int)] S = some (0, wr S 72 20 (flt f q)) := by
  rw [q_210, h, if_neg (by decide), w32e (x := -1000 * f) (by first | decide | omega) (by first | decide | omega), w32e (by first | decide | omega) (by first | decide | omega)]
  rfl
theorem m_failsB {e : Int} (h : S.2 72 20 = e) (he : e < 0) (f q : Int) : ∃ T, ev (WK L xs) (d + 1) 210 [vr 72, vi f, vi q] S = some (0, T) ∧ Zf S T ∧ T.2 72 20 = e := by
  refine ⟨_, by rw [q_210, if_pos (by first | decide | omega)], Zf.w72 (by first | decide | omega), ?_⟩
  rw [wr_f, if_pos rfl, h]
theorem flt_neg {f : Int} (hf : 1 ≤ f) (q : Nat) : flt f q < 0 := by
  unfold flt
  omega
theorem Bd.fl {f : Int} (hf : 1 ≤ f) (q : Nat) : Bd S (wr S 72 20 (flt f q)) (flt f q) := ⟨Zf.w72 (by first | decide | omega), by rw [wr_f, if_pos rfl], flt_neg hf q⟩
/-! numbers -/
theorem nds_le (k p : Nat) (v : Int) : p ≤ (nds t n k p v).1 ∧ (nds t n k p v).1 ≤ p + k := by
  induction k generalizing p v with
  | zero => unfold nds; exact ⟨Nat.le_refl _, Nat.le_refl _⟩
  | succ k ih =>
    unfold nds
    by_cases q : dgt (cu t n p) = true
    · rw [if_pos q]
      have := ih (p + 1) (10 * v + cu t n p - 48)
      omega
    · rw [if_neg q]
      exact ⟨Nat.le_refl _, by omega⟩
theorem dgt_b {c : Int} (h : dgt c = true) : 48 ≤ c ∧ c ≤ 57 := by
  unfold dgt at h
  exact of_decide_eq_true h
theorem nds_n (k p : Nat) (v : Int) (hp : p ≤ n) : (nds t n k p v).1 ≤ n := by
  induction k generalizing p v with
  | zero => unfold nds; exact hp
  | succ k ih =>
    unfold nds
    by_cases q : dgt (cu t n p) = true
    · rw [if_pos q]
      have := dgt_b q
      exact ih (p + 1) _ (cu_pos (t := t) (n := n) (by first | decide | omega))
    · rw [if_neg q]
      exact hp
noncomputable def pw10 : Nat → Int
  | 0 => 1
  | j + 1 => 10 * pw10 j
theorem pw10_b {j : Nat} (h : j ≤ 6) : pw10 j ≤ 1000000 := by
  have h0 : j = 0 ∨ j = 1 ∨ j = 2 ∨ j = 3 ∨ j = 4 ∨ j = 5 ∨ j = 6 := by omega
  rcases h0 with rfl | rfl | rfl | rfl | rfl | rfl | rfl <;> decide
/-- the place alone goes on -/
noncomputable def Plc (S T : AH) (q : Nat) : Prop := T.1 = S.1 ∧ (∀ a, a ≠ 72 → T.2 a = S.2 a) ∧ (∀ k, k ≠ 18 → T.2 72 k = S.2 72 k) ∧ T.2 72 18 = q
theorem Plc.w {q : Nat} : Plc S (wr S 72 18 (q : Int)) q := ⟨rfl, fun _ h => wr_c h, fun k h => by rw [wr_f, if_neg h], by rw [wr_f, if_pos rfl]⟩
theorem Plc.zf {q : Nat} (h : Plc S T q) : Zf S T := ⟨h.1, fun a q1 _ _ _ => h.2.1 a q1, fun k q1 _ _ _ _ _ _ => h.2.2.1 k q1⟩
theorem Plc.tr {q r : Nat} (h : Plc S T q) (k : Plc T U r) : Plc S U r := ⟨k.1.trans h.1, fun a z => (k.2.1 a z).trans (h.2.1 a z), fun j z => (k.2.2.1 j z).trans (h.2.2.1 j z), k.2.2.2⟩
theorem m_readsB (most f w : Int) {e : Int} (hb : S.2 72 20 = e) (he : e < 0) : ∃ T, LQ (WK L xs) (ev (WK L xs) (d + 1)) 214 23 [some (vr 72), some (vi most), some (vi f), some (vi w)] [] S = some (w, T) ∧ Zf S T ∧ T.2 72 20 = e := by
  rw [q_214_23, m_bad (by first | decide | omega), bR, if_pos rfl]
  by_cases q : most < w
  · obtain ⟨T, t1, t2, t3⟩ := m_failsB (L := L) (xs := xs) (d := d) hb he 3 f
    rw [if_pos q, t1, bR]
    exact ⟨T, rfl, t2, t3⟩
  · rw [if_neg q]
    exact ⟨S, rfl, Zf.rf, hb⟩
theorem m_readsL (most : Int) (f : Nat) (k : Nat) : ∀ (j : Nat) (v : Int) (S : AH), j + k = 6 → 0 ≤ v → v < pw10 j → Zt t n S → f + j ≤ n → S.2 72 18 = ((f + j : Nat) : Int) → S.2 72 20 = 0 →
    (dgt (cu t n (nds t n k (f + j) v).1) = true → ∃ w T, LQ (WK L xs) (ev (WK L xs) (d + 3)) 214 23 [some (vr 72), some (vi most), some (vi (f : Int)), some (vi v)] [] S = some (w, T) ∧ Bd S T (flt 2 (nds t n k (f + j) v).1)) ∧
    (dgt (cu t n (nds t n k (f + j) v).1) = false → most < (nds t n k (f + j) v).2 → ∃ w T, LQ (WK L xs) (ev (WK L xs) (d + 3)) 214 23 [some (vr 72), some (vi most), some (vi (f : Int)), some (vi v)] [] S = some (w, T) ∧ Bd S T (flt 3 f)) ∧
    (dgt (cu t n (nds t n k (f + j) v).1) = false → ¬ most < (nds t n k (f + j) v).2 → ∃ T, LQ (WK L xs) (ev (WK L xs) (d + 3)) 214 23 [some (vr 72), some (vi most), some (vi (f : Int)), some (vi v)] [] S = some ((nds t n k (f + j) v).2, T) ∧ Plc S T (nds t n k (f + j) v).1) := by
  have stop : ∀ (j : Nat) (v : Int) (S : AH), Zt t n S → f + j ≤ n → S.2 72 18 = ((f + j : Nat) : Int) → S.2 72 20 = 0 → dgt (cu t n (f + j)) = false → (most < v → ∃ w T, LQ (WK L xs) (ev (WK L xs) (d + 3)) 214 23 [some (vr 72), some (vi most), some (vi (f : Int)), some (vi v)] [] S = some (w, T) ∧ Bd S T (flt 3 f)) ∧ (¬ most < v → ∃ T, LQ (WK L xs) (ev (WK L xs) (d + 3)) 214 23 [some (vr 72), some (vi most), some (vi (f : Int)), some (vi v)] [] S = some (v, T) ∧ Plc S T (f + j)) := by
    intro j v S z hn hp hb hd
    have h200 := z.2.2
    rw [q_214_23, m_good hb, bR, if_neg (by decide), m_sees z hp (by first | decide | omega), bR]
    simp only [bi_0]
    rw [if_pos (by rw [hd]; decide)]
    refine ⟨fun q => ?_, fun q => ?_⟩
    · rw [if_pos q, m_fails hb (by decide) (by first | decide | omega), bR]
      exact ⟨v, _, rfl, Bd.fl (by decide) f⟩
    · rw [if_neg q]
      exact ⟨S, rfl, rfl, fun _ _ => rfl, fun _ _ => rfl, hp⟩
  induction k with
  | zero =>
    intro j v S hj v0 v1 z hn hp hb
    have h200 := z.2.2
    have b6 := pw10_b (j := j) (by first | decide | omega)
    simp only [nds]
    refine ⟨fun q => ?_, fun q => (stop j v S z hn hp hb q).1, fun q => (stop j v S z hn hp hb q).2⟩
    have hc := dgt_b q
    rw [q_214_23, m_good hb, bR, if_neg (by decide), m_sees z hp (by first | decide | omega), bR]
    simp only [bi_0]
    rw [if_neg (fun x => x q), hp, w32e (x := (f : Int) + 6) (by first | decide | omega) (by first | decide | omega), if_pos (by first | decide | omega), m_fails hb (by decide) (by first | decide | omega), bR]
    have z2 : Zt t n (wr S 72 20 (flt 2 (f + j))) := z.fr (Zf.w72 (by first | decide | omega))
    rw [q_214_57, m_here z2 (p := f + j) (by rw [wr_f, if_neg (by decide), hp]) (by first | decide | omega), bR]
    obtain ⟨T, t1, t2, t3⟩ := m_readsB (L := L) (xs := xs) (d := d + 2) (S := wr (wr S 72 20 (flt 2 (f + j))) 72 18 (w32 ((wr S 72 20 (flt 2 (f + j))).2 72 18 + 1))) most f (w32 (w32 (w32 (10 * v) + cu t n (f + j)) - 48)) (e := flt 2 (f + j)) (by rw [wr_f, if_neg (by decide), wr_f, if_pos rfl]) (flt_neg (by decide) _)
    exact ⟨_, T, t1, ((Zf.w72 (by first | decide | omega)).tr (Zf.w72 (by first | decide | omega))).tr t2, t3, flt_neg (by decide) _⟩
  | succ k ih =>
    intro j v S hj v0 v1 z hn hp hb
    have h200 := z.2.2
    have b6 := pw10_b (j := j) (by first | decide | omega)
    unfold nds
    by_cases q : dgt (cu t n (f + j)) = true
    · rw [if_pos q]
      have hc := dgt_b q
      have hlt := cu_pos (t := t) (n := n) (p := f + j) (by first | decide | omega)
      have step : LQ (WK L xs) (ev (WK L xs) (d + 3)) 214 23 [some (vr 72), some (vi most), some (vi (f : Int)), some (vi v)] [] S = LQ (WK L xs) (ev (WK L xs) (d + 3)) 214 23 [some (vr 72), some (vi most), some (vi (f : Int)), some (vi (10 * v + cu t n (f + j) - 48))] [] (wr S 72 18 ((f + (j + 1) : Nat) : Int)) := by
        rw [q_214_23, m_good hb, bR, if_neg (by decide), m_sees z hp (by first | decide | omega), bR]
        simp only [bi_0]
        rw [if_neg (fun x => x q), hp, w32e (x := (f : Int) + 6) (by first | decide | omega) (by first | decide | omega), if_neg (by first | decide | omega), q_214_57, m_here z hp (by first | decide | omega), bR, hp, w32e (x := 10 * v) (by first | decide | omega) (by first | decide | omega), w32e (x := 10 * v + cu t n (f + j)) (by first | decide | omega) (by first | decide | omega), w32e (x := 10 * v + cu t n (f + j) - 48) (by first | decide | omega) (by first | decide | omega), w32e (x := ((f + j : Nat) : Int) + 1) (by first | decide | omega) (by first | decide | omega), show ((f + j : Nat) : Int) + 1 = ((f + (j + 1) : Nat) : Int) by omega]
      rw [step]
      have hs : Zf S (wr S 72 18 ((f + (j + 1) : Nat) : Int)) := Zf.w72 (by first | decide | omega)
      have hI := ih (j + 1) (10 * v + cu t n (f + j) - 48) (wr S 72 18 ((f + (j + 1) : Nat) : Int)) (by first | decide | omega) (by first | decide | omega) (by show _ < 10 * pw10 j; omega) (z.fr hs) (by first | decide | omega) (by rw [wr_f, if_pos rfl]) (by rw [wr_f, if_neg (by decide), hb])
      rw [show f + j + 1 = f + (j + 1) from rfl]
      obtain ⟨h1, h2, h3⟩ := hI
      refine ⟨fun x => ?_, fun x y => ?_, fun x y => ?_⟩
      · obtain ⟨w, T, a, b⟩ := h1 x
        exact ⟨w, T, a, b.of hs⟩
      · obtain ⟨w, T, a, b⟩ := h2 x y
        exact ⟨w, T, a, b.of hs⟩
      · obtain ⟨T, a, b⟩ := h3 x y
        exact ⟨T, a, Plc.w.tr b⟩
    · rw [if_neg q]
      have q' : dgt (cu t n (f + j)) = false := by simpa using q
      exact ⟨fun x => absurd x q, fun x => (stop j v S z hn hp hb x).1, fun x => (stop j v S z hn hp hb x).2⟩
theorem m_reads (most : Int) (z : Zt t n S) (hn : p ≤ n) (hp : S.2 72 18 = p) (hb : S.2 72 20 = 0) : match rdN t n most p with
    | .inl e => ∃ w T, ev (WK L xs) (d + 4) 214 [vr 72, vi most] S = some (w, T) ∧ Bd S T e
    | .inr (q, v) => ∃ T, ev (WK L xs) (d + 4) 214 [vr 72, vi most] S = some (v, T) ∧ Plc S T q := by
  have h200 := z.2.2
  unfold rdN
  by_cases q : dgt (cu t n p) = false
  · rw [if_pos q]
    show ∃ w T, ev (WK L xs) (d + 4) 214 [vr 72, vi most] S = some (w, T) ∧ Bd S T (flt 1 p)
    rw [q_214, m_sees z hp (by first | decide | omega), bR]
    simp only [bi_0]
    rw [if_pos (by rw [q]; decide), hp, m_fails hb (by decide) (by first | decide | omega), bR]
    obtain ⟨T, t1, t2, t3⟩ := m_readsB (L := L) (xs := xs) (d := d + 2) (S := wr S 72 20 (flt 1 p)) most p 0 (e := flt 1 p) (by rw [wr_f, if_pos rfl]) (flt_neg (by decide) _)
    exact ⟨_, T, t1, (Zf.w72 (by first | decide | omega)).tr t2, t3, flt_neg (by decide) _⟩
  · rw [if_neg q]
    have q' : dgt (cu t n p) = true := by simpa using q
    have e : ev (WK L xs) (d + 4) 214 [vr 72, vi most] S = LQ (WK L xs) (ev (WK L xs) (d + 3)) 214 23 [some (vr 72), some (vi most), some (vi (p : Int)), some (vi 0)] [] S := by
      rw [q_214, m_sees z hp (by first | decide | omega), bR]
      simp only [bi_0]
      rw [if_neg (fun x => x q'), hp]
    rw [e]
    obtain ⟨h1, h2, h3⟩ := m_readsL (L := L) (xs := xs) (d := d) (t := t) (n := n) most p 6 0 0 S (by decide) (by decide) (by decide) z (by first | decide | omega) (by rw [hp]; rfl) hb
    simp only [Nat.add_zero] at h1 h2 h3
    by_cases c1 : dgt (cu t n (nds t n 6 p 0).1) = true
    · rw [if_pos c1]
      exact h1 c1
    · have c1' : dgt (cu t n (nds t n 6 p 0).1) = false := by simpa using c1
      rw [if_neg c1]
      by_cases c2 : most < (nds t n 6 p 0).2
      · rw [if_pos c2]
        exact h2 c1' c2
      · rw [if_neg c2]
        exact h3 c1' c2
end
end
section
-- 83.rstack
/-! the reference's reader: its stack and its code -/
noncomputable def emS (S : AH) (k : Nat) (c a : Int) : AH := wr (wr (wr S 91 k c) 92 k a) 72 22 ((k : Int) + 1)
/-- a ! that ends -/
noncomputable def enS : List Int → List Int
  | [] => []
  | c :: s => if c = 33 then enS s else c :: s
noncomputable def enC : List Int → CD
  | [] => []
  | c :: s => if c = 33 then (3, 0) :: enC s else []
section
variable {L : Nat} {xs : Nat → Int} {d : Nat} {S S' T U W : AH} {t : TB} {n p : Nat} {cd : CD} {st : List Int}
theorem opn_op {c : Int} (h : ¬ (c = 33 ∨ c = 40 ∨ c = 91)) : opn (c :: st) = opn st := by
  show (if c = 33 ∨ c = 40 ∨ c = 91 then 1 else 0) + opn st = opn st
  rw [if_neg h, Nat.zero_add]
theorem opn_br {c : Int} (h : c = 33 ∨ c = 40 ∨ c = 91) : opn (c :: st) = opn st + 1 := by
  show (if c = 33 ∨ c = 40 ∨ c = 91 then 1 else 0) + opn st = opn st + 1
  rw [if_pos h, Nat.add_comm]
theorem codes_snoc {f g : Nat → Int} (h : ∀ (i : Nat) (q : Int × Int), cd[i]? = some q → f i = q.1 ∧ g i = q.2) {x : Int × Int} (hf : f cd.length = x.1) (hg : g cd.length = x.2) : ∀ (i : Nat) (q : Int × Int), (cd ++ [x])[i]? = some q → f i = q.1 ∧ g i = q.2 := by
  intro i q hq
  by_cases e : i < cd.length
  · rw [List.getElem?_append_left e] at hq
    exact h i q hq
  · rw [List.getElem?_append_right (by first | decide | omega)] at hq
    have hl := (List.getElem?_eq_some_iff.mp hq).1
    have hi : i = cd.length := by
      simp only [List.length_singleton] at hl
      omega
    subst hi
    rw [Nat.sub_self] at hq
    simp only [List.getElem?_cons_zero, Option.some.injEq] at hq
    subst hq
    exact ⟨hf, hg⟩
theorem emS_z {k : Nat} {c a : Int} : Zf S (emS S k c a) := ((Zf.wA (by first | decide | omega)).tr (Zf.wA (by first | decide | omega))).tr (Zf.w72 (by first | decide | omega))
theorem emS_72 {k j : Nat} {c a : Int} : (emS S k c a).2 72 j = if j = 22 then (k : Int) + 1 else S.2 72 j := by
  unfold emS
  rw [wr_f, wr_c (by decide), wr_c (by decide)]
theorem emS_91 {k j : Nat} {c a : Int} : (emS S k c a).2 91 j = if j = k then c else S.2 91 j := by
  unfold emS
  rw [wr_c (by decide), wr_c (by decide), wr_f]
theorem emS_92 {k j : Nat} {c a : Int} : (emS S k c a).2 92 j = if j = k then a else S.2 92 j := by
  unfold emS
  rw [wr_c (by decide), wr_f, wr_c (by decide)]
theorem emS_93 {k : Nat} {c a : Int} : (emS S k c a).2 93 = S.2 93 := by
  unfold emS
  rw [wr_c (by decide), wr_c (by decide), wr_c (by decide)]
/-- the codes of a state with one more -/
theorem emS_cd {c a : Int} (h : ∀ (i : Nat) (q : Int × Int), cd[i]? = some q → S.2 91 i = q.1 ∧ S.2 92 i = q.2) : ∀ (i : Nat) (q : Int × Int), (cd ++ [(c, a)])[i]? = some q → (emS S cd.length c a).2 91 i = q.1 ∧ (emS S cd.length c a).2 92 i = q.2 := by
  refine codes_snoc (fun i q hq => ?_) (by rw [emS_91, if_pos rfl]) (by rw [emS_92, if_pos rfl])
  have hl := (List.getElem?_eq_some_iff.mp hq).1
  rw [emS_91, emS_92, if_neg (by first | decide | omega), if_neg (by first | decide | omega)]
  exact h i q hq
theorem m_emit (hb : S.2 72 20 = 0) {k : Nat} (hk : S.2 72 22 = k) (h2 : k < 220) (c a : Int) : ev (WK L xs) (d + 2) 216 [vr 72, vi c, vi a] S = some (0, emS S k c a) := by
  rw [q_216, m_good hb, bR, if_neg (by decide), hk, if_pos (by first | decide | omega), if_pos (by first | decide | omega), Int.toNat_natCast, w32e (by first | decide | omega) (by first | decide | omega)]
  rfl
theorem m_top (H : RZ t n S p cd st) : ev (WK L xs) (d + 1) 224 [vr 72] S = some (st.headD 0, S) := by
  obtain ⟨⟨z1, z2, z3⟩, ⟨h18, h20, h22, h23, h24, h26⟩, ⟨b1, b2, b3⟩, hc, hs⟩ := H
  rw [q_224, h24]
  cases st with
  | nil => rw [if_neg (by decide)]; rfl
  | cons c s =>
    rw [List.length_cons] at b2 h24 ⊢
    rw [if_pos (by first | decide | omega), w32e (x := ((s.length + 1 : Nat) : Int) - 1) (by first | decide | omega) (by first | decide | omega), if_pos (by first | decide | omega)]
    have := hs 0 c rfl
    rw [List.length_cons] at this
    rw [show (((s.length + 1 : Nat) : Int) - 1).toNat = s.length + 1 - 1 - 0 by omega, this]
    rfl
/-- an entry goes from the stack, a code comes -/
theorem RZ.pop {x : Int} (H : RZ t n S p cd (x :: st)) (hx : ¬ (x = 33 ∨ x = 40 ∨ x = 91)) (c : Int) : RZ t n (wr (emS S cd.length c 0) 72 24 (w32 ((emS S cd.length c 0).2 72 24 - 1))) p (cd ++ [(c, 0)]) st ∧ Zf S (wr (emS S cd.length c 0) 72 24 (w32 ((emS S cd.length c 0).2 72 24 - 1))) := by
  obtain ⟨z, ⟨h18, h20, h22, h23, h24, h26⟩, ⟨b1, b2, b3⟩, hc, hs⟩ := H
  have h200 := z.2.2
  rw [List.length_cons] at b2 h24 hs
  rw [opn_op hx] at h23 b3
  have hz : Zf S (wr (emS S cd.length c 0) 72 24 (w32 ((emS S cd.length c 0).2 72 24 - 1))) := emS_z.tr (Zf.w72 (by first | decide | omega))
  refine ⟨⟨z.fr hz, ⟨?_, ?_, ?_, ?_, ?_, ?_⟩, ⟨b1, ?_, b3⟩, ?_, fun i q hq => ?_⟩, hz⟩
  · rw [wr_f, if_neg (by decide), emS_72, if_neg (by decide), h18]
  · rw [wr_f, if_neg (by decide), emS_72, if_neg (by decide), h20]
  · rw [wr_f, if_neg (by decide), emS_72, if_pos rfl, List.length_append, List.length_singleton]
    omega
  · rw [wr_f, if_neg (by decide), emS_72, if_neg (by decide), h23]
  · rw [wr_f, if_pos rfl, emS_72, if_neg (by decide), h24, w32e (by first | decide | omega) (by first | decide | omega)]
    omega
  · rw [wr_f, if_neg (by decide), emS_72, if_neg (by decide), h26]
  · rw [List.length_append, List.length_singleton]
    omega
  · rw [wr_c (by decide), wr_c (by decide)]
    exact emS_cd hc
  · have hl := (List.getElem?_eq_some_iff.mp hq).1
    have := hs (i + 1) q hq
    rw [wr_c (by decide), emS_93, show st.length - 1 - i = st.length + 1 - 1 - (i + 1) by omega]
    exact this
theorem RZ.popN (H : RZ t n S p cd (33 :: st)) : RZ t n (wr (wr (emS S cd.length 3 0) 72 24 (w32 ((emS S cd.length 3 0).2 72 24 - 1))) 72 23 (w32 ((wr (emS S cd.length 3 0) 72 24 (w32 ((emS S cd.length 3 0).2 72 24 - 1))).2 72 23 - 1))) p (cd ++ [(3, 0)]) st ∧ Zf S (wr (wr (emS S cd.length 3 0) 72 24 (w32 ((emS S cd.length 3 0).2 72 24 - 1))) 72 23 (w32 ((wr (emS S cd.length 3 0) 72 24 (w32 ((emS S cd.length 3 0).2 72 24 - 1))).2 72 23 - 1))) := by
  obtain ⟨z, ⟨h18, h20, h22, h23, h24, h26⟩, ⟨b1, b2, b3⟩, hc, hs⟩ := H
  have h200 := z.2.2
  rw [List.length_cons] at b2 h24 hs
  rw [opn_br (Or.inl rfl)] at h23 b3
  have e23 : (wr (emS S cd.length 3 0) 72 24 (w32 ((emS S cd.length 3 0).2 72 24 - 1))).2 72 23 = S.2 72 23 := by rw [wr_f, if_neg (by decide), emS_72, if_neg (by decide)]
  have hz : Zf S (wr (wr (emS S cd.length 3 0) 72 24 (w32 ((emS S cd.length 3 0).2 72 24 - 1))) 72 23 (w32 ((wr (emS S cd.length 3 0) 72 24 (w32 ((emS S cd.length 3 0).2 72 24 - 1))).2 72 23 - 1))) := (emS_z.tr (Zf.w72 (by first | decide | omega))).tr (Zf.w72 (by first | decide | omega))
  refine ⟨⟨z.fr hz, ⟨?_, ?_, ?_, ?_, ?_, ?_⟩, ⟨b1, ?_, by omega⟩, ?_, fun i q hq => ?_⟩, hz⟩
  · rw [wr_f, if_neg (by decide), wr_f, if_neg (by decide), emS_72, if_neg (by decide), h18]
  · rw [wr_f, if_neg (by decide), wr_f, if_neg (by decide), emS_72, if_neg (by decide), h20]
  · rw [wr_f, if_neg (by decide), wr_f, if_neg (by decide), emS_72, if_pos rfl, List.length_append, List.length_singleton]
    omega
  · rw [wr_f, if_pos rfl, e23, h23, w32e (by first | decide | omega) (by first | decide | omega)]
    omega
  · rw [wr_f, if_neg (by decide), wr_f, if_pos rfl, emS_72, if_neg (by decide), h24, w32e (by first | decide | omega) (by first | decide | omega)]
    omega
  · rw [wr_f, if_neg (by decide), wr_f, if_neg (by decide), emS_72, if_neg (by decide), h26]
  · rw [List.length_append, List.length_singleton]
    omega
  · rw [wr_c (by decide), wr_c (by decide), wr_c (by decide), wr_c (by decide)]
    exact emS_cd hc
  · have hl := (List.getElem?_eq_some_iff.mp hq).1
    have := hs (i + 1) q hq
    rw [wr_c (by decide), wr_c (by decide), emS_93, show st.length - 1 - i = st.length + 1 - 1 - (i + 1) by omega]
    exact this
theorem tm_br {c : Int} (h : isTm c = true) : ¬ (c = 33 ∨ c = 40 ∨ c = 91) := by
  unfold isTm at h
  have := of_decide_eq_true h
  omega
theorem pm_br {c : Int} (h : isPm c = true) : ¬ (c = 33 ∨ c = 40 ∨ c = 91) := by
  unfold isPm at h
  have := of_decide_eq_true h
  omega
theorem sg_br {c : Int} (h : isSg c = true) : ¬ (c = 33 ∨ c = 40 ∨ c = 91) := by
  unfold isSg at h
  have := of_decide_eq_true h
  omega
theorem nt {b : Bool} (h : b = false) : ¬ b = true := by
  rw [h]
  decide
theorem m_sumsL {pl : Int} (hpl : pl = 0 ∨ pl = 1) (h1 : isTm (st.headD 0) = false) (h2 : pl = 1 → isPm (st.headD 0) = false) : ∀ (pd : List Int) (cd : CD) (S : AH), RZ t n S p cd (pd ++ st) → (∀ c, c ∈ pd → isTm c = true ∨ (pl = 1 ∧ isPm c = true)) → ∃ T, LQ (WK L xs) (ev (WK L xs) (d + 3)) 223 0 [some (vr 72), some (vi pl)] [] S = some (0, T) ∧ RZ t n T p (cd ++ pdc pd) st ∧ Zf S T ∧ T.2 72 35 = S.2 72 35 := by
  intro pd
  induction pd with
  | nil =>
    intro cd S H _
    rw [List.nil_append] at H
    refine ⟨S, ?_, by rw [pdc_nil, List.append_nil]; exact H, Zf.rf, rfl⟩
    rw [q_223_0, m_top H, bR, m_times, bR]
    simp only [bi_0]
    rw [if_pos (nt h1)]
    rcases hpl with e | e
    · rw [if_pos e]
    · rw [if_neg (by first | decide | omega), m_top H, bR, m_plus, bR]
      simp only [bi_0]
      rw [if_pos (nt (h2 e))]
  | cons c pd ih =>
    intro cd S H hc
    rw [List.cons_append] at H
    have hk : cd.length < 220 := by
      have := H.2.2.1
      have := H.1.2.2
      omega
    have hx : ¬ (c = 33 ∨ c = 40 ∨ c = 91) := by
      rcases hc c List.mem_cons_self with z | z
      · exact tm_br z
      · exact pm_br z.2
    obtain ⟨H2, z2⟩ := H.pop hx c
    obtain ⟨T, t1, t2, t3, t4⟩ := ih _ _ H2 (fun x hx => hc x (List.mem_cons_of_mem _ hx))
    refine ⟨T, ?_, by rw [pdc_cons]; rw [List.append_assoc] at t2; exact t2, z2.tr t3, by rw [t4, wr_f, if_neg (by decide), emS_72, if_neg (by decide)]⟩
    have tp : ∀ dd, ev (WK L xs) (dd + 1) 224 [vr 72] S = some (c, S) := fun dd => m_top H
    rw [q_223_0, tp, bR, m_times, bR]
    simp only [bi_0]
    by_cases q : isTm c = true
    · rw [if_neg (fun z => z q), tp, bR, m_emit H.2.1.2.1 H.2.1.2.2.1 hk, bR]
      exact t1
    · rcases hc c List.mem_cons_self with z | z
      · exact absurd z q
      · rw [if_pos q, if_neg (by first | decide | omega), tp, bR, m_plus, bR]
        simp only [bi_0]
        rw [if_neg (fun y => y z.2), tp, bR, m_emit H.2.1.2.1 H.2.1.2.2.1 hk, bR]
        exact t1
theorem m_sums {pl : Int} (hpl : pl = 0 ∨ pl = 1) (h1 : isTm (st.headD 0) = false) (h2 : pl = 1 → isPm (st.headD 0) = false) {pd : List Int} (H : RZ t n S p cd (pd ++ st)) (hc : ∀ c, c ∈ pd → isTm c = true ∨ (pl = 1 ∧ isPm c = true)) : ∃ T, ev (WK L xs) (d + 4) 223 [vr 72, vi pl] S = some (0, T) ∧ RZ t n T p (cd ++ pdc pd) st ∧ Zf S T ∧ T.2 72 35 = S.2 72 35 := by
  rw [q_223, ← q_223_0]
  exact m_sumsL hpl h1 h2 pd cd S H hc
theorem m_joinsL {pl : Int} (hpl : pl = 0 ∨ pl = 1) (h1 : st.headD 0 ≠ 38) (h2 : pl = 1 → st.headD 0 ≠ 124) : ∀ (pd : List Int) (cd : CD) (S : AH), RZ t n S p cd (pd ++ st) → (∀ c, c ∈ pd → c = 38 ∨ (pl = 1 ∧ c = 124)) → ∃ T, LQ (WK L xs) (ev (WK L xs) (d + 3)) 229 0 [some (vr 72), some (vi pl)] [] S = some (0, T) ∧ RZ t n T p (cd ++ pdc pd) st ∧ Zf S T := by
  intro pd
  induction pd with
  | nil =>
    intro cd S H _
    rw [List.nil_append] at H
    refine ⟨S, ?_, by rw [pdc_nil, List.append_nil]; exact H, Zf.rf⟩
    rw [q_229_0, m_top H, bR, if_neg h1]
    rcases hpl with e | e
    · rw [if_pos e]
    · rw [if_neg (by first | decide | omega), m_top H, bR, if_neg (h2 e)]
  | cons c pd ih =>
    intro cd S H hc
    rw [List.cons_append] at H
    have hk : cd.length < 220 := by
      have := H.2.2.1
      have := H.1.2.2
      omega
    have hx : ¬ (c = 33 ∨ c = 40 ∨ c = 91) := by
      rcases hc c List.mem_cons_self with z | z <;> omega
    obtain ⟨H2, z2⟩ := H.pop hx c
    obtain ⟨T, t1, t2, t3⟩ := ih _ _ H2 (fun x hx => hc x (List.mem_cons_of_mem _ hx))
    refine ⟨T, ?_, by rw [pdc_cons]; rw [List.append_assoc] at t2; exact t2, z2.tr t3⟩
    have tp : ∀ dd, ev (WK L xs) (dd + 1) 224 [vr 72] S = some (c, S) := fun dd => m_top H
    rw [q_229_0, tp, bR]
    by_cases q : c = 38
    · rw [if_pos q, tp, bR, m_emit H.2.1.2.1 H.2.1.2.2.1 hk, bR]
      exact t1
    · rcases hc c List.mem_cons_self with z | z
      · exact absurd z q
      · rw [if_neg q, if_neg (by first | decide | omega), tp, bR, if_pos z.2, tp, bR, m_emit H.2.1.2.1 H.2.1.2.2.1 hk, bR]
        exact t1
theorem m_joins {pl : Int} (hpl : pl = 0 ∨ pl = 1) (h1 : st.headD 0 ≠ 38) (h2 : pl = 1 → st.headD 0 ≠ 124) {pd : List Int} (H : RZ t n S p cd (pd ++ st)) (hc : ∀ c, c ∈ pd → c = 38 ∨ (pl = 1 ∧ c = 124)) : ∃ T, ev (WK L xs) (d + 4) 229 [vr 72, vi pl] S = some (0, T) ∧ RZ t n T p (cd ++ pdc pd) st ∧ Zf S T := by
  rw [q_229, ← q_229_0]
  exact m_joinsL hpl h1 h2 pd cd S H hc
theorem m_endsL : ∀ (st : List Int) (cd : CD) (S : AH), RZ t n S p cd st → ∃ T, LQ (WK L xs) (ev (WK L xs) (d + 3)) 227 0 [some (vr 72)] [] S = some (0, T) ∧ RZ t n T p (cd ++ enC st) (enS st) ∧ Zf S T := by
  intro st
  induction st with
  | nil =>
    intro cd S H
    refine ⟨S, ?_, by show RZ t n S p (cd ++ []) []; rw [List.append_nil]; exact H, Zf.rf⟩
    rw [q_227_0, m_top H, bR, if_neg (by decide)]
  | cons c st ih =>
    intro cd S H
    have hk : cd.length < 220 := by
      have := H.2.2.1
      have := H.1.2.2
      omega
    by_cases q : c = 33
    · subst q
      obtain ⟨H2, z2⟩ := H.popN
      obtain ⟨T, t1, t2, t3⟩ := ih _ _ H2
      refine ⟨T, ?_, ?_, z2.tr t3⟩
      · rw [q_227_0, show ev (WK L xs) (d + 3) 224 [vr 72] S = some (33, S) from m_top H, bR, if_pos rfl, m_emit H.2.1.2.1 H.2.1.2.2.1 hk, bR]
        exact t1
      · rw [List.append_assoc] at t2
        exact t2
    · refine ⟨S, ?_, ?_, Zf.rf⟩
      · rw [q_227_0, show ev (WK L xs) (d + 3) 224 [vr 72] S = some (c, S) from m_top H, bR, if_neg q]
      · show RZ t n S p (cd ++ (if c = 33 then (3, 0) :: enC st else [])) (if c = 33 then enS st else c :: st)
        rw [if_neg q, if_neg q, List.append_nil]
        exact H
theorem m_ends (H : RZ t n S p cd st) : ∃ T, ev (WK L xs) (d + 4) 227 [vr 72] S = some (0, T) ∧ RZ t n T p (cd ++ enC st) (enS st) ∧ Zf S T := by
  rw [q_227, ← q_227_0]
  exact m_endsL st cd S H
/-- a sign goes to the stack, and the place goes on -/
theorem RZ.push (H : RZ t n S p cd st) (hT : Zf S T) (hp : p < n) {c : Int} (h18 : T.2 72 18 = (p : Int) + 1) (h20 : T.2 72 20 = 0) (h22 : T.2 72 22 = S.2 72 22) (h23 : T.2 72 23 = opn (c :: st)) (h24 : T.2 72 24 = (st.length : Int) + 1) (h26 : T.2 72 26 = 0) (h91 : T.2 91 = S.2 91) (h92 : T.2 92 = S.2 92) (h93 : ∀ j, T.2 93 j = if j = st.length then c else S.2 93 j) (h8 : opn (c :: st) ≤ 8) : RZ t n T (p + 1) cd (c :: st) := by
  obtain ⟨z, ⟨g18, g20, g22, g23, g24, g26⟩, ⟨b1, b2, b3⟩, hc, hs⟩ := H
  refine ⟨z.fr hT, ⟨by rw [h18]; omega, h20, by rw [h22, g22], h23, by rw [h24, List.length_cons]; omega, h26⟩, ⟨by omega, by rw [List.length_cons]; omega, h8⟩, by rw [h91, h92]; exact hc, fun i q hq => ?_⟩
  rw [List.length_cons, h93]
  cases i with
  | zero =>
    simp only [List.getElem?_cons_zero, Option.some.injEq] at hq
    rw [if_pos (by first | decide | omega), hq]
  | succ i =>
    simp only [List.getElem?_cons_succ] at hq
    have hl := (List.getElem?_eq_some_iff.mp hq).1
    rw [if_neg (by first | decide | omega), show st.length + 1 - 1 - (i + 1) = st.length - 1 - i by omega]
    exact hs i q hq
theorem m_opens (H : RZ t n S p cd st) (hc : cu t n p = 33 ∨ cu t n p = 40 ∨ cu t n p = 91) : (opn st = 8 → ∃ T, ev (WK L xs) (d + 2) 212 [vr 72] S = some (0, T) ∧ Bd S T (flt 5 p)) ∧ (opn st < 8 → ∃ T, ev (WK L xs) (d + 2) 212 [vr 72] S = some (0, T) ∧ RZ t n T (p + 1) cd (cu t n p :: st) ∧ Zf S T ∧ T.2 72 35 = S.2 72 35) := by
  have H0 := H
  obtain ⟨z, ⟨h18, h20, h22, h23, h24, h26⟩, ⟨b1, b2, b3⟩, hcd, hs⟩ := H
  have h200 := z.2.2
  have hp := cu_pos (t := t) (n := n) (p := p) (by first | decide | omega)
  refine ⟨fun q => ?_, fun q => ?_⟩
  · have zz : Zf S (wr S 72 20 (flt 5 p)) := Zf.w72 (by first | decide | omega)
    rw [q_212, h23, if_pos (by first | decide | omega), h18, m_fails h20 (by decide) (by first | decide | omega), bR, q_212_18, m_here (z.fr zz) (p := p) (by rw [wr_f, if_neg (by decide), h18]) (by first | decide | omega), bR, show (wr S 72 20 (flt 5 p)).2 72 24 = st.length by rw [wr_f, if_neg (by decide), h24], if_pos (by first | decide | omega)]
    refine ⟨_, rfl, (((zz.tr (Zf.wA (by first | decide | omega))).tr (Zf.w72 (by first | decide | omega))).tr (Zf.w72 (by first | decide | omega))).tr (Zf.w72 (by first | decide | omega)), ?_, flt_neg (by decide) _⟩
    rw [wr_f, if_neg (by decide), wr_f, if_neg (by decide), wr_f, if_neg (by decide), wr_c (by decide), wr_f, if_pos rfl]
  · rw [q_212, h23, if_neg (by first | decide | omega), q_212_18, m_here z h18 (by first | decide | omega), bR, h24, if_pos (by first | decide | omega), h23, h18, Int.toNat_natCast, w32e (x := (st.length : Int) + 1) (by first | decide | omega) (by first | decide | omega), w32e (x := (opn st : Int) + 1) (by first | decide | omega) (by first | decide | omega), w32e (x := (p : Int) + 1) (by first | decide | omega) (by first | decide | omega)]
    have hz : Zf S (wr (wr (wr (wr S 93 st.length (cu t n p)) 72 24 ((st.length : Int) + 1)) 72 23 ((opn st : Int) + 1)) 72 18 ((p : Int) + 1)) := (((Zf.wA (by first | decide | omega)).tr (Zf.w72 (by first | decide | omega))).tr (Zf.w72 (by first | decide | omega))).tr (Zf.w72 (by first | decide | omega))
    refine ⟨_, rfl, H0.push hz hp ?_ ?_ ?_ ?_ ?_ ?_ ?_ ?_ (fun j => ?_) (by rw [opn_br hc]; omega), hz, by rw [wr_f, if_neg (by decide), wr_f, if_neg (by decide), wr_f, if_neg (by decide), wr_c (by decide)]⟩
    · rw [wr_f, if_pos rfl]
    · rw [wr_f, if_neg (by decide), wr_f, if_neg (by decide), wr_f, if_neg (by decide), wr_c (by decide), h20]
    · rw [wr_f, if_neg (by decide), wr_f, if_neg (by decide), wr_f, if_neg (by decide), wr_c (by decide)]
    · rw [wr_f, if_neg (by decide), wr_f, if_pos rfl, opn_br hc]
      omega
    · rw [wr_f, if_neg (by decide), wr_f, if_neg (by decide), wr_f, if_pos rfl]
    · rw [wr_f, if_neg (by decide), wr_f, if_neg (by decide), wr_f, if_neg (by decide), wr_c (by decide), h26]
    · rw [wr_c (by decide), wr_c (by decide), wr_c (by decide), wr_c (by decide)]
    · rw [wr_c (by decide), wr_c (by decide), wr_c (by decide), wr_c (by decide)]
    · rw [wr_c (by decide), wr_c (by decide), wr_c (by decide), wr_f]
end
end
section
-- 84.rexp
/-! the reference's reader: factors and signs -/
noncomputable def XA (L : Nat) (xs : Nat → Int) (d : Nat) (S : AH) : Rs := LQ (WK L xs) (ev (WK L xs) (d + 6)) 217 7 [some (vr 72), some (vi 1)] [] (wr S 72 35 0)
noncomputable def XB (L : Nat) (xs : Nat → Int) (d : Nat) (S : AH) : Rs := LQ (WK L xs) (ev (WK L xs) (d + 6)) 217 29 [some (vr 72), none] [] S
section
variable {L : Nat} {xs : Nat → Int} {d : Nat} {S S' T U W : AH} {t : TB} {n p : Nat} {cd : CD} {st : List Int}
theorem wr_id {a k : Nat} {v : Int} (h : S.2 a k = v) : wr S a k v = S := by
  refine Prod.ext rfl ?_
  funext b j
  rw [wr_2]
  by_cases q : b = a ∧ j = k
  · rw [if_pos q, q.1, q.2, h]
  · rw [if_neg q]
theorem wr_wr {a k : Nat} {v w : Int} : wr (wr S a k v) a k w = wr S a k w := by
  refine Prod.ext rfl ?_
  funext b j
  rw [wr_2, wr_2, wr_2]
  by_cases q : b = a ∧ j = k
  · rw [if_pos q, if_pos q]
  · rw [if_neg q, if_neg q, if_neg q]
theorem RZ.w35 {b : Int} (H : RZ t n S p cd st) : RZ t n (wr S 72 35 b) p cd st := by
  obtain ⟨z, ⟨h18, h20, h22, h23, h24, h26⟩, bs, hc, hs⟩ := H
  refine ⟨z.fr (Zf.w72 (by first | decide | omega)), ⟨?_, ?_, ?_, ?_, ?_, ?_⟩, bs, ?_, ?_⟩
  · rw [wr_f, if_neg (by decide), h18]
  · rw [wr_f, if_neg (by decide), h20]
  · rw [wr_f, if_neg (by decide), h22]
  · rw [wr_f, if_neg (by decide), h23]
  · rw [wr_f, if_neg (by decide), h24]
  · rw [wr_f, if_neg (by decide), h26]
  · rw [wr_c (by decide), wr_c (by decide)]
    exact hc
  · rw [wr_c (by decide)]
    exact hs
theorem XB_bad (h : S.2 72 20 ≠ 0) : XB L xs d S = some (0, wr S 72 35 0) := by
  unfold XB
  rw [q_217_29, m_bad (by rw [wr_f, if_neg (by decide)]; exact h), bR, if_pos rfl, q_217_7, if_pos rfl]
theorem X1_bad (h : S.2 72 20 ≠ 0) : LQ (WK L xs) (ev (WK L xs) (d + 6)) 217 7 [some (vr 72), some (vi 1)] [] S = some (0, S) := by
  rw [q_217_7, if_neg (by decide), m_bad h, bR, if_pos rfl]
theorem XA_fac (h : S.2 72 20 = 0) : XA L xs d S = bindR (ev (WK L xs) (d + 6) 218 [vr 72] (wr S 72 35 0)) (fun _ T => XB L xs d T) := by
  unfold XA XB
  rw [q_217_7, if_neg (by decide), m_good (by rw [wr_f, if_neg (by decide)]; exact h), bR, if_neg (by decide), if_pos (by rw [wr_f, if_pos rfl])]
theorem XB_on (h : S.2 72 20 = 0) : XB L xs d S = bindR (ev (WK L xs) (d + 6) 220 [vr 72] (wr S 72 35 0)) (fun r T => if r = 0 then some (0, T) else LQ (WK L xs) (ev (WK L xs) (d + 6)) 217 7 [some (vr 72), some (vi 1)] [] T) := by
  unfold XB
  rw [q_217_29, m_good (by rw [wr_f, if_neg (by decide)]; exact h), bR, if_neg (by decide)]
  congr 1
  funext r T
  by_cases q : r = 0
  · rw [if_pos q, if_pos q, q_217_7, if_pos rfl]
  · rw [if_neg q, if_neg q]
theorem XB_35 {b : Int} : XB L xs d (wr S 72 35 b) = XB L xs d S := by
  unfold XB
  rw [q_217_29, q_217_29, wr_wr]
theorem rdN_lt {most : Int} {q : Nat} {v : Int} (h : rdN t n most p = .inr (q, v)) : p < q ∧ (p ≤ n → q ≤ n) := by
  unfold rdN at h
  by_cases c : dgt (cu t n p) = false
  · rw [if_pos c] at h
    exact absurd h (by simp)
  · rw [if_neg c] at h
    have c' : dgt (cu t n p) = true := by simpa using c
    have h1 : (nds t n 6 p 0).1 = q := by
      by_cases c1 : dgt (cu t n (nds t n 6 p 0).1) = true
      · rw [if_pos c1] at h
        cases h
      · rw [if_neg c1] at h
        by_cases c2 : most < (nds t n 6 p 0).2
        · rw [if_pos c2] at h
          cases h
        · rw [if_neg c2] at h
          simp only [Sum.inr.injEq] at h
          rw [h]
    refine ⟨?_, fun hp => by rw [← h1]; exact nds_n 6 p 0 hp⟩
    have h2 : (nds t n 6 p 0).1 = (nds t n 5 (p + 1) (10 * 0 + cu t n p - 48)).1 := by rw [nds, if_pos c']
    have := nds_le (t := t) (n := n) 5 (p + 1) (10 * 0 + cu t n p - 48)
    omega
/-- a number, a letter, or what can't stand there -/
theorem XA_atom (H0 : RZ t n S p cd st) (hc : cu t n p ≠ 91) (rec : Nat → Nat → PR) (o : Nat) : match facG t n rec o p with
    | .inl e => ∃ T, XA L xs d S = some (0, T) ∧ Bd S T e
    | .inr (q, g) => ∃ T, XA L xs d S = XB L xs d T ∧ RZ t n T q (cd ++ g) st ∧ Zf S T := by
  have zS : Zf S (wr S 72 35 0) := Zf.w72 (by first | decide | omega)
  have H := H0.w35 (b := 0)
  generalize hS0 : wr S 72 35 0 = S0 at H zS
  obtain ⟨z, ⟨h18, h20, h22, h23, h24, h26⟩, ⟨b1, b2, b3⟩, hcd, hs⟩ := H
  have h200 := z.2.2
  have key : XA L xs d S = bindR (LQ (WK L xs) (ev (WK L xs) (d + 5)) 218 23 [some (vr 72)] [] S0) (fun _ T => XB L xs d T) := by
    rw [XA_fac H0.2.1.2.1, hS0, q_218, m_good h20, bR, if_neg (by decide), m_here z h18 (by first | decide | omega), bR, if_neg hc]
  rw [key, q_218_23, m_good h20, bR, if_neg (by decide), m_sees z h18 (by first | decide | omega), bR]
  simp only [bi_0]
  unfold facG
  rw [if_neg hc]
  by_cases c1 : dgt (cu t n p) = true
  · rw [if_pos c1, if_neg (fun x => x c1)]
    have hr := m_reads (L := L) (xs := xs) (d := d + 1) 999999 z b1 h18 h20
    revert hr
    cases hN : rdN t n 999999 p with
    | inl e =>
      rintro ⟨w, T, t1, t2⟩
      have hb : T.2 72 20 ≠ 0 := by
        have := t2.2
        omega
      refine ⟨wr T 72 35 0, ?_, ?_⟩
      · rw [t1, bR, q_216, m_bad hb, bR, if_pos rfl, bR, bR, XB_bad hb]
      · exact ⟨(zS.tr t2.1).tr (Zf.w72 (by first | decide | omega)), by rw [wr_f, if_neg (by decide)]; exact t2.2.1, t2.2.2⟩
    | inr qv =>
      obtain ⟨q, v⟩ := qv
      rintro ⟨T, t1, t2⟩
      have hq := rdN_lt hN
      have e20 : T.2 72 20 = 0 := by rw [t2.2.2.1 20 (by decide), h20]
      have e22 : T.2 72 22 = cd.length := by rw [t2.2.2.1 22 (by decide), h22]
      refine ⟨emS T cd.length 0 v, ?_, ?_, (zS.tr t2.zf).tr emS_z⟩
      · rw [t1, bR, m_emit e20 e22 (by first | decide | omega), bR, bR]
      · refine ⟨z.fr (t2.zf.tr emS_z), ⟨?_, ?_, ?_, ?_, ?_, ?_⟩, ⟨hq.2 b1, ?_, b3⟩, emS_cd (fun i x hx => ?_), fun i x hx => ?_⟩
        · rw [emS_72, if_neg (by decide), t2.2.2.2]
        · rw [emS_72, if_neg (by decide), e20]
        · rw [emS_72, if_pos rfl, List.length_append, List.length_singleton]
          omega
        · rw [emS_72, if_neg (by decide), t2.2.2.1 _ (by decide), h23]
        · rw [emS_72, if_neg (by decide), t2.2.2.1 _ (by decide), h24]
        · rw [emS_72, if_neg (by decide), t2.2.2.1 _ (by decide), h26]
        · rw [List.length_append, List.length_singleton]
          omega
        · rw [t2.2.1 91 (by decide), t2.2.1 92 (by decide)]
          exact hcd i x hx
        · rw [emS_93, t2.2.1 93 (by decide)]
          exact hs i x hx
  · rw [if_neg c1, if_pos c1, m_here z h18 (by first | decide | omega), bR, m_value, bR]
    simp only [bi_0]
    by_cases c2 : isVl (cu t n p) = true
    · rw [if_pos c2, if_neg (fun x => x c2), m_here z h18 (by first | decide | omega), bR, m_emit h20 h22 (by first | decide | omega), bR, bR]
      have hp : p < n := cu_pos (t := t) (fun z0 => by rw [z0] at c2; exact absurd c2 (by decide))
      have e18 : (emS S0 cd.length 1 (cu t n p)).2 72 18 = p := by rw [emS_72, if_neg (by decide), h18]
      have hz : Zf S0 (wr (emS S0 cd.length 1 (cu t n p)) 72 18 (w32 ((emS S0 cd.length 1 (cu t n p)).2 72 18 + 1))) := emS_z.tr (Zf.w72 (by first | decide | omega))
      refine ⟨_, rfl, ?_, zS.tr hz⟩
      refine ⟨z.fr hz, ⟨?_, ?_, ?_, ?_, ?_, ?_⟩, ⟨by omega, ?_, b3⟩, ?_, fun i x hx => ?_⟩
      · rw [wr_f, if_pos rfl, e18, w32e (by first | decide | omega) (by first | decide | omega)]
        omega
      · rw [wr_f, if_neg (by decide), emS_72, if_neg (by decide), h20]
      · rw [wr_f, if_neg (by decide), emS_72, if_pos rfl, List.length_append, List.length_singleton]
        omega
      · rw [wr_f, if_neg (by decide), emS_72, if_neg (by decide), h23]
      · rw [wr_f, if_neg (by decide), emS_72, if_neg (by decide), h24]
      · rw [wr_f, if_neg (by decide), emS_72, if_neg (by decide), h26]
      · rw [List.length_append, List.length_singleton]
        omega
      · rw [wr_c (by decide), wr_c (by decide)]
        exact emS_cd hcd
      · rw [wr_c (by decide), emS_93]
        exact hs i x hx
    · rw [if_neg c2, if_pos c2, h18, m_fails h20 (by decide) (by first | decide | omega), bR, bR]
      have hb : (wr S0 72 20 (flt 1 p)).2 72 20 ≠ 0 := by
        rw [wr_f, if_pos rfl]
        have := flt_neg (f := 1) (by decide) p
        omega
      refine ⟨_, XB_bad hb, ?_⟩
      exact ⟨(zS.tr (Zf.w72 (by first | decide | omega))).tr (Zf.w72 (by first | decide | omega)), by rw [wr_f, if_neg (by decide), wr_f, if_pos rfl], flt_neg (by decide) p⟩
theorem XA_open (H0 : RZ t n S p cd st) (hc : cu t n p = 91) : (opn st = 8 → ∃ T, XA L xs d S = some (0, T) ∧ Bd S T (flt 5 p)) ∧ (opn st < 8 → ∃ T, XA L xs d S = XA L xs d T ∧ RZ t n T (p + 1) cd (91 :: st) ∧ Zf S T) := by
  have zS : Zf S (wr S 72 35 0) := Zf.w72 (by first | decide | omega)
  have H := H0.w35 (b := 0)
  have e35 : (wr S 72 35 0).2 72 35 = 0 := by rw [wr_f, if_pos rfl]
  generalize hS0 : wr S 72 35 0 = S0 at H zS e35
  have h20 := H.2.1.2.1
  have h200 := H.1.2.2
  have b1 := H.2.2.1.1
  have key : XA L xs d S = bindR (bindR (ev (WK L xs) (d + 5) 212 [vr 72] S0) (fun _ S6 => LQ (WK L xs) (ev (WK L xs) (d + 5)) 218 0 [some (vr 72)] [] S6)) (fun _ T => XB L xs d T) := by
    rw [XA_fac H0.2.1.2.1, hS0, q_218, m_good h20, bR, if_neg (by decide), m_here H.1 H.2.1.1 (by first | decide | omega), bR, if_pos hc]
  rw [key]
  obtain ⟨o1, o2⟩ := m_opens (L := L) (xs := xs) (d := d + 3) H (Or.inr (Or.inr hc))
  refine ⟨fun q => ?_, fun q => ?_⟩
  · obtain ⟨T, t1, t2⟩ := o1 q
    have hb : T.2 72 20 ≠ 0 := by
      have := t2.2
      omega
    refine ⟨wr T 72 35 0, ?_, (zS.tr t2.1).tr (Zf.w72 (by first | decide | omega)), by rw [wr_f, if_neg (by decide)]; exact t2.2.1, t2.2.2⟩
    rw [t1, bR, q_218_0, m_bad hb, bR, if_pos rfl, q_218_23, m_bad hb, bR, if_pos rfl, bR, XB_bad hb]
  · obtain ⟨T, t1, t2, t3, t4⟩ := o2 q
    rw [hc] at t2
    refine ⟨T, ?_, t2, zS.tr t3⟩
    rw [t1, bR, XA_fac t2.2.1.2.1, wr_id (by rw [t4, e35]), q_218, q_218_0]
end
end
section
-- 85.rsign
/-! the reference's reader: what goes on behind a factor -/
section
variable {L : Nat} {xs : Nat → Int} {d : Nat} {S S' T U W : AH} {t : TB} {n p : Nat} {cd : CD} {st pd : List Int}
theorem tm_0 : isTm 0 = false := by decide
theorem nf {b : Bool} (h : ¬ b = true) : b = false := by simpa using h
theorem X1_A (h : T.2 72 35 = 0) : LQ (WK L xs) (ev (WK L xs) (d + 6)) 217 7 [some (vr 72), some (vi 1)] [] T = XA L xs d T := by
  unfold XA
  rw [wr_id h]
theorem RZ.psh (H : RZ t n S p cd st) (hp : p < n) {c : Int} (hc : ¬ (c = 33 ∨ c = 40 ∨ c = 91)) : RZ t n (wr (wr (wr S 93 st.length c) 72 24 ((st.length : Int) + 1)) 72 18 ((p : Int) + 1)) (p + 1) cd (c :: st) ∧ Zf S (wr (wr (wr S 93 st.length c) 72 24 ((st.length : Int) + 1)) 72 18 ((p : Int) + 1)) := by
  have hz : Zf S (wr (wr (wr S 93 st.length c) 72 24 ((st.length : Int) + 1)) 72 18 ((p : Int) + 1)) := ((Zf.wA (by first | decide | omega)).tr (Zf.w72 (by first | decide | omega))).tr (Zf.w72 (by first | decide | omega))
  have H0 := H
  obtain ⟨z, ⟨h18, h20, h22, h23, h24, h26⟩, ⟨b1, b2, b3⟩, hcd, hs⟩ := H
  refine ⟨H0.push hz hp ?_ ?_ ?_ ?_ ?_ ?_ ?_ ?_ (fun j => ?_) (by rw [opn_op hc]; exact b3), hz⟩
  · rw [wr_f, if_pos rfl]
  · rw [wr_f, if_neg (by decide), wr_f, if_neg (by decide), wr_c (by decide), h20]
  · rw [wr_f, if_neg (by decide), wr_f, if_neg (by decide), wr_c (by decide)]
  · rw [wr_f, if_neg (by decide), wr_f, if_neg (by decide), wr_c (by decide), h23, opn_op hc]
  · rw [wr_f, if_neg (by decide), wr_f, if_pos rfl]
  · rw [wr_f, if_neg (by decide), wr_f, if_neg (by decide), wr_c (by decide), h26]
  · rw [wr_c (by decide), wr_c (by decide), wr_c (by decide)]
  · rw [wr_c (by decide), wr_c (by decide), wr_c (by decide)]
  · rw [wr_c (by decide), wr_c (by decide), wr_f]
/-- a sign of reckoning -/
theorem XB_op (H0 : RZ t n S p cd (pd ++ st)) (hc : isTm (cu t n p) = true ∨ isPm (cu t n p) = true) (hpd : ∀ x, x ∈ pd → isTm x = true ∨ (isPm (cu t n p) = true ∧ isPm x = true)) (h1 : isTm (st.headD 0) = false) (h2 : isPm (cu t n p) = true → isPm (st.headD 0) = false) : ∃ T, XB L xs d S = XA L xs d T ∧ RZ t n T (p + 1) (cd ++ pdc pd) (cu t n p :: st) ∧ Zf S T := by
  have zS : Zf S (wr S 72 35 0) := Zf.w72 (by first | decide | omega)
  have H := H0.w35 (b := 0)
  have e35 : (wr S 72 35 0).2 72 35 = 0 := by rw [wr_f, if_pos rfl]
  generalize hS0 : wr S 72 35 0 = S0 at H zS e35
  have h200 := H.1.2.2
  have b1 := H.2.2.1.1
  have hne : cu t n p ≠ 0 := fun q => by rw [q] at hc; exact absurd hc (by decide)
  have hp := cu_pos hne
  have hbr : ¬ (cu t n p = 33 ∨ cu t n p = 40 ∨ cu t n p = 91) := by
    rcases hc with q | q
    · exact tm_br q
    · exact pm_br q
  have g : ev (WK L xs) (d + 6) 220 [vr 72] S0 = LQ (WK L xs) (ev (WK L xs) (d + 5)) 220 19 [some (vr 72), some (vi (cu t n p))] [] S0 := by
    rw [q_220, m_here H.1 H.2.1.1 (by first | decide | omega), bR, m_times, bR]
    simp only [bi_0]
    by_cases q : isTm (cu t n p) = true
    · rw [if_neg (fun z => z q)]
    · rw [if_pos q, m_plus, bR]
      simp only [bi_0]
      rw [if_neg (fun z => z (hc.resolve_left q))]
  have hpl : bi (isPm (cu t n p) = true) = 0 ∨ bi (isPm (cu t n p) = true) = 1 := by rw [bi_01]; trivial
  obtain ⟨T, t1, t2, t3, t4⟩ := m_sums (L := L) (xs := xs) (d := d + 1) hpl h1 (fun q => h2 (bi_1.mp q)) H (fun x hx => by
    rcases hpd x hx with q | q
    · exact Or.inl q
    · exact Or.inr ⟨bi_T q.1, q.2⟩)
  have b2 := t2.2.2.1
  obtain ⟨P1, P2⟩ := t2.psh hp hbr
  refine ⟨_, ?_, P1, (zS.tr t3).tr P2⟩
  rw [XB_on H0.2.1.2.1, hS0, g, q_220_19, m_plus, bR, show ev (WK L xs) (d + 5) 223 [vr 72, vi (bi (isPm (cu t n p) = true))] S0 = some (0, T) from t1, bR, t2.2.1.2.2.2.2.1, if_pos (by first | decide | omega), t2.2.1.1, Int.toNat_natCast, w32e (x := (st.length : Int) + 1) (by first | decide | omega) (by first | decide | omega), w32e (x := (p : Int) + 1) (by first | decide | omega) (by first | decide | omega), bR, if_neg (by decide), X1_A]
  rw [wr_f, if_neg (by decide), wr_f, if_neg (by decide), wr_c (by decide), t4, e35]
/-- all that waits is flushed -/
theorem XB_sums (H0 : RZ t n S p cd (pd ++ st)) (hpd : ∀ x, x ∈ pd → isTm x = true ∨ isPm x = true) (h1 : isTm (st.headD 0) = false) (h2 : isPm (st.headD 0) = false) : ∃ T, ev (WK L xs) (d + 5) 223 [vr 72, vi 1] (wr S 72 35 0) = some (0, T) ∧ RZ t n T p (cd ++ pdc pd) st ∧ Zf S T ∧ T.2 72 35 = 0 := by
  have zS : Zf S (wr S 72 35 0) := Zf.w72 (by first | decide | omega)
  obtain ⟨T, t1, t2, t3, t4⟩ := m_sums (L := L) (xs := xs) (d := d + 1) (pl := 1) (Or.inr rfl) h1 (fun _ => h2) (H0.w35 (b := 0)) (fun x hx => by
    rcases hpd x hx with q | q
    · exact Or.inl q
    · exact Or.inr ⟨rfl, q⟩)
  exact ⟨T, t1, t2, zS.tr t3, by rw [t4, wr_f, if_pos rfl]⟩
theorem XB_close (H0 : RZ t n S p cd (pd ++ 91 :: st)) (hc : cu t n p = 93) (hpd : ∀ x, x ∈ pd → isTm x = true ∨ isPm x = true) : ∃ T, XB L xs d S = XB L xs d T ∧ RZ t n T (p + 1) (cd ++ pdc pd) st ∧ Zf S T := by
  have H := H0.w35 (b := 0)
  have h200 := H.1.2.2
  have b1 := H.2.2.1.1
  have hp := cu_pos (t := t) (n := n) (p := p) (by first | decide | omega)
  obtain ⟨T, t1, t2, t3, t4⟩ := XB_sums (L := L) (xs := xs) (d := d) H0 hpd (show isTm 91 = false by decide) (show isPm 91 = false by decide)
  have ht := m_top (L := L) (xs := xs) (d := d + 4) t2
  obtain ⟨z, ⟨h18, h20, h22, h23, h24, h26⟩, ⟨c1, c2, c3⟩, hcd, hs⟩ := t2
  rw [List.length_cons] at h24 c2 hs
  rw [opn_br (Or.inr (Or.inr rfl))] at h23 c3
  have e20 : (wr (wr (wr T 72 24 (st.length : Int)) 72 23 (opn st : Int)) 72 18 ((p : Int) + 1)).2 72 20 = 0 := by rw [wr_f, if_neg (by decide), wr_f, if_neg (by decide), wr_f, if_neg (by decide), h20]
  have hz : Zf T (wr (wr (wr T 72 24 (st.length : Int)) 72 23 (opn st : Int)) 72 18 ((p : Int) + 1)) := ((Zf.w72 (by first | decide | omega)).tr (Zf.w72 (by first | decide | omega))).tr (Zf.w72 (by first | decide | omega))
  refine ⟨wr (wr (wr T 72 24 (st.length : Int)) 72 23 (opn st : Int)) 72 18 ((p : Int) + 1), ?_, ?_, t3.tr hz⟩
  · rw [XB_on H0.2.1.2.1, q_220, m_here H.1 H.2.1.1 (by first | decide | omega), bR, hc, m_times, bR]
    simp only [bi_0]
    rw [if_pos (by decide), m_plus, bR]
    simp only [bi_0]
    rw [if_pos (by decide), if_pos trivial, t1, bR, show ev (WK L xs) (d + 5) 224 [vr 72] T = some (91, T) from ht, bR, if_pos rfl, h24, h23, h18, w32e (x := ((st.length + 1 : Nat) : Int) - 1) (by first | decide | omega) (by first | decide | omega), w32e (x := ((opn st + 1 : Nat) : Int) - 1) (by first | decide | omega) (by first | decide | omega), w32e (x := (p : Int) + 1) (by first | decide | omega) (by first | decide | omega), show ((st.length + 1 : Nat) : Int) - 1 = (st.length : Int) by omega, show ((opn st + 1 : Nat) : Int) - 1 = (opn st : Int) by omega, m_good e20, bR, if_neg (by decide), q_225, bR, if_neg (by decide), bR, if_neg (by decide), q_217_7, if_neg (by decide), m_good (by rw [wr_f, if_neg (by decide), e20]), bR, if_neg (by decide), if_neg (by rw [wr_f, if_pos rfl]; decide)]
    exact XB_35
  · refine ⟨z.fr hz, ⟨?_, e20, ?_, ?_, ?_, ?_⟩, ⟨by omega, by omega, by omega⟩, ?_, fun i x hx => ?_⟩
    · rw [wr_f, if_pos rfl]
      omega
    · rw [wr_f, if_neg (by decide), wr_f, if_neg (by decide), wr_f, if_neg (by decide), h22]
    · rw [wr_f, if_neg (by decide), wr_f, if_pos rfl]
    · rw [wr_f, if_neg (by decide), wr_f, if_neg (by decide), wr_f, if_pos rfl]
    · rw [wr_f, if_neg (by decide), wr_f, if_neg (by decide), wr_f, if_neg (by decide), h26]
    · rw [wr_c (by decide), wr_c (by decide), wr_c (by decide), wr_c (by decide), wr_c (by decide), wr_c (by decide)]
      exact hcd
    · have hl := (List.getElem?_eq_some_iff.mp hx).1
      have := hs (i + 1) x hx
      rw [wr_c (by decide), wr_c (by decide), wr_c (by decide), show st.length - 1 - i = st.length + 1 - 1 - (i + 1) by omega]
      exact this
theorem XB_closeB (H0 : RZ t n S p cd (pd ++ st)) (hc : cu t n p = 93) (hpd : ∀ x, x ∈ pd → isTm x = true ∨ isPm x = true) (h1 : isTm (st.headD 0) = false) (h2 : isPm (st.headD 0) = false) (h3 : st.headD 0 ≠ 91) : ∃ T, XB L xs d S = some (0, T) ∧ Bd S T (flt 1 p) := by
  have H := H0.w35 (b := 0)
  have h200 := H.1.2.2
  have b1 := H.2.2.1.1
  obtain ⟨T, t1, t2, t3, t4⟩ := XB_sums (L := L) (xs := xs) (d := d) H0 hpd h1 h2
  refine ⟨wr T 72 20 (flt 1 p), ?_, (Bd.fl (by decide) p).of t3⟩
  rw [XB_on H0.2.1.2.1, q_220, m_here H.1 H.2.1.1 (by first | decide | omega), bR, hc, m_times, bR]
  simp only [bi_0]
  rw [if_pos (by decide), m_plus, bR]
  simp only [bi_0]
  rw [if_pos (by decide), if_pos trivial, t1, bR, m_top t2, bR, if_neg h3, t2.2.1.1, m_fails t2.2.1.2.1 (by decide) (by first | decide | omega), bR, bR, if_pos rfl]
theorem sg_not {c : Int} (h : isSg c = true) : isTm c = false ∧ isPm c = false ∧ c ≠ 93 ∧ c ≠ 0 := by
  unfold isSg at h
  have := of_decide_eq_true h
  unfold isTm isPm
  refine ⟨decide_eq_false (by first | decide | omega), decide_eq_false (by first | decide | omega), by omega, by omega⟩
theorem XB_sign (H0 : RZ t n S p cd (pd ++ st)) (hc : isSg (cu t n p) = true) (hpd : ∀ x, x ∈ pd → isTm x = true ∨ isPm x = true) (h1 : isTm (st.headD 0) = false) (h2 : isPm (st.headD 0) = false) : (st.headD 0 ≠ 91 → isSg (st.headD 0) = false → ∃ T, XB L xs d S = XA L xs d T ∧ RZ t n T (p + 1) (cd ++ pdc pd) (cu t n p :: st) ∧ Zf S T) ∧ (st.headD 0 = 91 ∨ isSg (st.headD 0) = true → ∃ T, XB L xs d S = some (0, T) ∧ Bd S T (flt 1 p)) := by
  have H := H0.w35 (b := 0)
  have h200 := H.1.2.2
  have b1 := H.2.2.1.1
  obtain ⟨s1, s2, s3, s4⟩ := sg_not hc
  have hp := cu_pos s4
  obtain ⟨T, t1, t2, t3, t4⟩ := XB_sums (L := L) (xs := xs) (d := d) H0 hpd h1 h2
  have b2 := t2.2.2.1
  obtain ⟨P1, P2⟩ := t2.psh hp (sg_br hc)
  have bad : ∀ {X : AH}, X = wr T 72 20 (flt 1 p) → ∃ T2, bindR (LQ (WK L xs) (ev (WK L xs) (d + 5)) 220 180 [some (vr 72), some (vi (cu t n p))] [] X) (fun r T => if r = 0 then some (0, T) else LQ (WK L xs) (ev (WK L xs) (d + 6)) 217 7 [some (vr 72), some (vi 1)] [] T) = some (0, T2) ∧ Bd S T2 (flt 1 p) := by
    rintro X rfl
    have e24 : (wr T 72 20 (flt 1 p)).2 72 24 = st.length := by rw [wr_f, if_neg (by decide), t2.2.1.2.2.2.2.1]
    have hz : Zf (wr T 72 20 (flt 1 p)) (wr (wr (wr (wr T 72 20 (flt 1 p)) 93 ((wr T 72 20 (flt 1 p)).2 72 24).toNat (cu t n p)) 72 24 (w32 ((wr T 72 20 (flt 1 p)).2 72 24 + 1))) 72 18 (w32 ((wr T 72 20 (flt 1 p)).2 72 18 + 1))) := ((Zf.wA (by first | decide | omega)).tr (Zf.w72 (by first | decide | omega))).tr (Zf.w72 (by first | decide | omega))
    have e20 : (wr (wr (wr (wr T 72 20 (flt 1 p)) 93 ((wr T 72 20 (flt 1 p)).2 72 24).toNat (cu t n p)) 72 24 (w32 ((wr T 72 20 (flt 1 p)).2 72 24 + 1))) 72 18 (w32 ((wr T 72 20 (flt 1 p)).2 72 18 + 1))).2 72 20 = flt 1 p := by rw [wr_f, if_neg (by decide), wr_f, if_neg (by decide), wr_c (by decide), wr_f, if_pos rfl]
    have hn := flt_neg (f := 1) (by decide) p
    refine ⟨_, ?_, (t3.tr (Zf.w72 (by first | decide | omega))).tr hz, e20, hn⟩
    rw [q_220_180, if_pos (by first | decide | omega), bR, if_neg (by decide), X1_bad (by first | decide | omega)]
  have pre : XB L xs d S = bindR (bindR (ev (WK L xs) (d + 5) 224 [vr 72] T) (fun r21 S22 => (if r21 = 91 then (bindR (ev (WK L xs) (d + 5) 210 [vr 72, vi (1 : Int), vi (S22.2 72 18)] S22) (fun r23 S24 => (LQ (WK L xs) (ev (WK L xs) (d + 5)) 220 180 [some (vr 72), some (vi (cu t n p))] [] S24))) else (bindR (ev (WK L xs) (d + 5) 224 [vr 72] S22) (fun r25 S26 => (bindR (ev (WK L xs) (d + 5) 226 [vi r25] S26) (fun r27 S28 => (if r27 = 0 then (LQ (WK L xs) (ev (WK L xs) (d + 5)) 220 180 [some (vr 72), some (vi (cu t n p))] [] S28) else (bindR (ev (WK L xs) (d + 5) 210 [vr 72, vi (1 : Int), vi (S28.2 72 18)] S28) (fun r29 S30 => (LQ (WK L xs) (ev (WK L xs) (d + 5)) 220 180 [some (vr 72), some (vi (cu t n p))] [] S30))))))))))) (fun r T => if r = 0 then some (0, T) else LQ (WK L xs) (ev (WK L xs) (d + 6)) 217 7 [some (vr 72), some (vi 1)] [] T) := by
    rw [XB_on H0.2.1.2.1, q_220, m_here H.1 H.2.1.1 (by first | decide | omega), bR, m_times, bR]
    simp only [bi_0]
    rw [if_pos (nt s1), m_plus, bR]
    simp only [bi_0]
    rw [if_pos (nt s2), if_neg s3, t1, bR, m_sign, bR]
    simp only [bi_0]
    rw [if_neg (fun z => z hc)]
  refine ⟨fun q1 q2 => ⟨_, ?_, P1, t3.tr P2⟩, fun q => ?_⟩
  · rw [pre, m_top t2, bR, if_neg q1, m_top t2, bR, m_sign, bR]
    simp only [bi_0]
    rw [if_pos (nt q2), q_220_180, t2.2.1.2.2.2.2.1, if_pos (by first | decide | omega), t2.2.1.1, Int.toNat_natCast, w32e (x := (st.length : Int) + 1) (by first | decide | omega) (by first | decide | omega), w32e (x := (p : Int) + 1) (by first | decide | omega) (by first | decide | omega), bR, if_neg (by decide), X1_A]
    rw [wr_f, if_neg (by decide), wr_f, if_neg (by decide), wr_c (by decide), t4]
  · rw [pre, m_top t2, bR]
    by_cases q1 : st.headD 0 = 91
    · rw [if_pos q1, t2.2.1.1, m_fails t2.2.1.2.1 (by decide) (by first | decide | omega), bR]
      exact bad rfl
    · rw [if_neg q1, m_top t2, bR, m_sign, bR]
      simp only [bi_0]
      rw [if_neg (fun z => z (q.resolve_left q1)), t2.2.1.1, m_fails t2.2.1.2.1 (by decide) (by first | decide | omega), bR]
      exact bad rfl
theorem XB_end (H0 : RZ t n S p cd (pd ++ st)) (s1 : isTm (cu t n p) = false) (s2 : isPm (cu t n p) = false) (s3 : cu t n p ≠ 93) (s4 : isSg (cu t n p) = false) (hpd : ∀ x, x ∈ pd → isTm x = true ∨ isPm x = true) (h1 : isTm (st.headD 0) = false) (h2 : isPm (st.headD 0) = false) : (isSg (st.headD 0) = false → ∃ T, XB L xs d S = some (0, T) ∧ Bd S T (flt 1 p)) ∧ (∀ (c : Int) (s : List Int), st = c :: s → isSg c = true → ∃ T, XB L xs d S = some (0, T) ∧ RZ t n T p (cd ++ pdc pd ++ [(c, 0)]) s ∧ Zf S T) := by
  have H := H0.w35 (b := 0)
  have h200 := H.1.2.2
  have b1 := H.2.2.1.1
  obtain ⟨T, t1, t2, t3, t4⟩ := XB_sums (L := L) (xs := xs) (d := d) H0 hpd h1 h2
  have b2 := t2.2.2.1
  have pre : XB L xs d S = bindR (bindR (ev (WK L xs) (d + 5) 226 [vi (st.headD 0)] T) (fun r13 S14 => (if r13 = 0 then (bindR (ev (WK L xs) (d + 5) 210 [vr 72, vi (1 : Int), vi (S14.2 72 18)] S14) (fun r15 S16 => (some ((0 : Int), S16)))) else (bindR (ev (WK L xs) (d + 5) 224 [vr 72] S14) (fun r17 S18 => (bindR (ev (WK L xs) (d + 5) 216 [vr 72, vi r17, vi (0 : Int)] S18) (fun r19 S20 => (some ((0 : Int), (wr S20 72 24 (w32 ((S20.2 72 24) - (1 : Int))))))))))))) (fun r T => if r = 0 then some (0, T) else LQ (WK L xs) (ev (WK L xs) (d + 6)) 217 7 [some (vr 72), some (vi 1)] [] T) := by
    rw [XB_on H0.2.1.2.1, q_220, m_here H.1 H.2.1.1 (by first | decide | omega), bR, m_times, bR]
    simp only [bi_0]
    rw [if_pos (nt s1), m_plus, bR]
    simp only [bi_0]
    rw [if_pos (nt s2), if_neg s3, t1, bR, m_sign, bR]
    simp only [bi_0]
    rw [if_pos (nt s4), m_top t2, bR]
  refine ⟨fun q => ⟨wr T 72 20 (flt 1 p), ?_, (Bd.fl (by decide) p).of t3⟩, fun c s e q => ?_⟩
  · rw [pre, m_sign, bR]
    simp only [bi_0]
    rw [if_pos (nt q), t2.2.1.1, m_fails t2.2.1.2.1 (by decide) (by first | decide | omega), bR, bR, if_pos rfl]
  · subst e
    obtain ⟨P1, P2⟩ := t2.pop (sg_br q) c
    refine ⟨_, ?_, P1, t3.tr P2⟩
    rw [pre, show (c :: s).headD 0 = c from rfl, m_sign, bR]
    simp only [bi_0]
    rw [if_neg (fun z => z q), show ev (WK L xs) (d + 5) 224 [vr 72] T = some (c, T) from m_top t2, bR, m_emit t2.2.1.2.1 t2.2.1.2.2.1 (by first | decide | omega), bR, bR, if_pos rfl]
end
end
section
-- 86.rpure
/-! the reader by descent: how far it goes -/
noncomputable def Mon (part : Nat → PR) : Prop := ∀ (p q : Nat) (g : CD), part p = .inr (q, g) → p < q
section
variable {t : TB} {n : Nat} {is : Int → Bool} {part : Nat → PR}
theorem rowL_mon (h : Mon part) : ∀ (k p : Nat) (g : CD) (q : Nat) (g' : CD), rowL t n is part k p g = .inr (q, g') → p ≤ q := by
  intro k
  induction k with
  | zero =>
    intro p g q g' e
    simp only [rowL, Sum.inr.injEq, Prod.mk.injEq] at e
    omega
  | succ k ih =>
    intro p g q g' e
    unfold rowL at e
    by_cases c : is (cu t n p) = true
    · rw [if_pos c] at e
      cases hp : part (p + 1) with
      | inl x => rw [hp] at e; cases e
      | inr x =>
        obtain ⟨r, g2⟩ := x
        rw [hp] at e
        have h1 := h _ _ _ hp
        have h2 := ih _ _ _ _ e
        omega
    · rw [if_neg c] at e
      simp only [Sum.inr.injEq, Prod.mk.injEq] at e
      omega
theorem rowL_ex (h : Mon part) (h0 : is 0 = false) : ∀ (k p : Nat) (g : CD) (q : Nat) (g' : CD), n ≤ p + k → rowL t n is part k p g = .inr (q, g') → is (cu t n q) = false := by
  intro k
  induction k with
  | zero =>
    intro p g q g' hn e
    simp only [rowL, Sum.inr.injEq, Prod.mk.injEq] at e
    rw [← e.1]
    unfold cu
    rw [if_neg (by first | decide | omega)]
    exact h0
  | succ k ih =>
    intro p g q g' hn e
    unfold rowL at e
    by_cases c : is (cu t n p) = true
    · rw [if_pos c] at e
      cases hp : part (p + 1) with
      | inl x => rw [hp] at e; cases e
      | inr x =>
        obtain ⟨r, g2⟩ := x
        rw [hp] at e
        have h1 := h _ _ _ hp
        exact ih _ _ _ _ (by first | decide | omega) e
    · rw [if_neg c] at e
      simp only [Sum.inr.injEq, Prod.mk.injEq] at e
      rw [← e.1]
      simpa using c
theorem rowL_P {P : Nat → Prop} (hp : ∀ (p q : Nat) (g : CD), part p = .inr (q, g) → P q) : ∀ (k p : Nat) (g : CD) (q : Nat) (g' : CD), P p → rowL t n is part k p g = .inr (q, g') → P q := by
  intro k
  induction k with
  | zero =>
    intro p g q g' h e
    simp only [rowL, Sum.inr.injEq, Prod.mk.injEq] at e
    rw [← e.1]
    exact h
  | succ k ih =>
    intro p g q g' h e
    unfold rowL at e
    by_cases c : is (cu t n p) = true
    · rw [if_pos c] at e
      cases hq : part (p + 1) with
      | inl x => rw [hq] at e; cases e
      | inr x =>
        obtain ⟨r, g2⟩ := x
        rw [hq] at e
        exact ih _ _ _ _ (hp _ _ _ hq) e
    · rw [if_neg c] at e
      simp only [Sum.inr.injEq, Prod.mk.injEq] at e
      rw [← e.1]
      exact h
theorem rowG_inr {p q : Nat} {g : CD} (e : rowG t n is part p = .inr (q, g)) : ∃ r g1, part p = .inr (r, g1) ∧ rowL t n is part 200 r g1 = .inr (q, g) := by
  unfold rowG at e
  cases hp : part p with
  | inl x => rw [hp] at e; cases e
  | inr x =>
    obtain ⟨r, g1⟩ := x
    rw [hp] at e
    exact ⟨r, g1, rfl, e⟩
theorem rowG_mon (h : Mon part) : Mon (rowG t n is part) := by
  intro p q g e
  obtain ⟨r, g1, h1, h2⟩ := rowG_inr e
  have := h _ _ _ h1
  have := rowL_mon h _ _ _ _ _ h2
  omega
theorem rowG_ex (h : Mon part) (h0 : is 0 = false) (hn : n ≤ 200) {p q : Nat} {g : CD} (e : rowG t n is part p = .inr (q, g)) : is (cu t n q) = false := by
  obtain ⟨r, g1, h1, h2⟩ := rowG_inr e
  exact rowL_ex h h0 _ _ _ _ _ (by first | decide | omega) h2
theorem rowG_P {P : Nat → Prop} (hp : ∀ (p q : Nat) (g : CD), part p = .inr (q, g) → P q) {p q : Nat} {g : CD} (e : rowG t n is part p = .inr (q, g)) : P q := by
  obtain ⟨r, g1, h1, h2⟩ := rowG_inr e
  exact rowL_P hp _ _ _ _ _ (hp _ _ _ h1) h2
theorem facG_mon {rec : Nat → Nat → PR} (h : ∀ o, Mon (rec o)) (o : Nat) : Mon (facG t n rec o) := by
  intro p q g e
  unfold facG at e
  by_cases c1 : cu t n p = 91
  · rw [if_pos c1] at e
    by_cases c2 : 8 ≤ o
    · rw [if_pos c2] at e
      cases e
    · rw [if_neg c2] at e
      cases hr : rec (o + 1) (p + 1) with
      | inl x => rw [hr] at e; cases e
      | inr x =>
        obtain ⟨r, g1⟩ := x
        rw [hr] at e
        have := h _ _ _ _ hr
        by_cases c3 : cu t n r = 93
        · simp only [c3, if_true, Sum.inr.injEq, Prod.mk.injEq] at e
          omega
        · simp only [c3, if_false] at e
          cases e
  · rw [if_neg c1] at e
    by_cases c2 : dgt (cu t n p) = true
    · rw [if_pos c2] at e
      cases hr : rdN t n 999999 p with
      | inl x => rw [hr] at e; cases e
      | inr x =>
        obtain ⟨r, v⟩ := x
        rw [hr] at e
        simp only [Sum.inr.injEq, Prod.mk.injEq] at e
        have := (rdN_lt hr).1
        omega
    · rw [if_neg c2] at e
      by_cases c3 : isVl (cu t n p) = true
      · rw [if_pos c3] at e
        simp only [Sum.inr.injEq, Prod.mk.injEq] at e
        omega
      · rw [if_neg c3] at e
        cases e
theorem terG_mon {rec : Nat → Nat → PR} (h : ∀ o, Mon (rec o)) (o : Nat) : Mon (terG t n rec o) := rowG_mon (facG_mon h o)
theorem rdE_mon (f : Nat) : ∀ o, Mon (rdE t n f o) := by
  induction f with
  | zero => intro o p q g e; cases e
  | succ f ih => intro o; exact rowG_mon (terG_mon ih o)
theorem terG_ex (hn : n ≤ 200) (f o : Nat) {p q : Nat} {g : CD} (e : terG t n (rdE t n f) o p = .inr (q, g)) : isTm (cu t n q) = false := rowG_ex (facG_mon (rdE_mon f) o) (by decide) hn e
theorem rdE_ex (hn : n ≤ 200) (f o : Nat) {p q : Nat} {g : CD} (e : rdE t n f o p = .inr (q, g)) : isTm (cu t n q) = false ∧ isPm (cu t n q) = false := by
  cases f with
  | zero => cases e
  | succ f =>
    have e' : rowG t n isPm (terG t n (rdE t n f) o) p = .inr (q, g) := e
    exact ⟨rowG_P (part := terG t n (rdE t n f) o) (P := fun q => isTm (cu t n q) = false) (fun p q g h => terG_ex hn f o h) e', rowG_ex (terG_mon (rdE_mon f) o) (by decide) hn e'⟩
theorem cmpG_mon (o : Nat) : Mon (cmpG t n o) := by
  intro p q g e
  unfold cmpG at e
  cases h1 : rdE t n 9 o p with
  | inl x => rw [h1] at e; cases e
  | inr x =>
    obtain ⟨r, g1⟩ := x
    rw [h1] at e
    have a1 := rdE_mon _ _ _ _ _ h1
    by_cases c : isSg (cu t n r) = true
    · simp only [c, if_true] at e
      cases h2 : rdE t n 9 o (r + 1) with
      | inl x => rw [h2] at e; cases e
      | inr x =>
        obtain ⟨r2, g2⟩ := x
        rw [h2] at e
        have a2 := rdE_mon _ _ _ _ _ h2
        simp only [Sum.inr.injEq, Prod.mk.injEq] at e
        omega
    · simp only [c] at e
      cases e
theorem pieG_mon {recP recC : Nat → Nat → PR} (hP : ∀ o, Mon (recP o)) (hC : ∀ o, Mon (recC o)) (o : Nat) : Mon (pieG t n recP recC o) := by
  intro p q g e
  unfold pieG at e
  by_cases c1 : cu t n p = 33
  · rw [if_pos c1] at e
    by_cases c2 : 8 ≤ o
    · rw [if_pos c2] at e
      cases e
    · rw [if_neg c2] at e
      cases hr : recP (o + 1) (p + 1) with
      | inl x => rw [hr] at e; cases e
      | inr x =>
        obtain ⟨r, g1⟩ := x
        rw [hr] at e
        have := hP _ _ _ _ hr
        simp only [Sum.inr.injEq, Prod.mk.injEq] at e
        omega
  · rw [if_neg c1] at e
    by_cases c3 : cu t n p = 40
    · rw [if_pos c3] at e
      by_cases c2 : 8 ≤ o
      · rw [if_pos c2] at e
        cases e
      · rw [if_neg c2] at e
        cases hr : recC (o + 1) (p + 1) with
        | inl x => rw [hr] at e; cases e
        | inr x =>
          obtain ⟨r, g1⟩ := x
          rw [hr] at e
          have := hC _ _ _ _ hr
          by_cases c4 : cu t n r = 41
          · simp only [c4, if_true, Sum.inr.injEq, Prod.mk.injEq] at e
            omega
          · simp only [c4, if_false] at e
            cases e
    · rw [if_neg c3] at e
      by_cases c5 : cu t n p = 117
      · rw [if_pos c5] at e
        cases hr : rdN t n 39 (p + 1) with
        | inl x => rw [hr] at e; cases e
        | inr x =>
          obtain ⟨r, v⟩ := x
          rw [hr] at e
          simp only [Sum.inr.injEq, Prod.mk.injEq] at e
          have := (rdN_lt hr).1
          omega
      · rw [if_neg c5] at e
        exact cmpG_mon _ _ _ _ e
theorem cndG_mon {pie : Nat → PR} (h : Mon pie) : Mon (cndG t n pie) := rowG_mon (rowG_mon h)
theorem rdP_mon (f : Nat) : ∀ o, Mon (rdP t n f o) := by
  induction f with
  | zero => intro o p q g e; cases e
  | succ f ih => intro o; exact pieG_mon ih (fun o => cndG_mon (ih o)) o
theorem parG_ex {pie : Nat → PR} (h : Mon pie) (hn : n ≤ 200) {p q : Nat} {g : CD} (e : rowG t n isAnd pie p = .inr (q, g)) : cu t n q ≠ 38 := by
  have := rowG_ex h (by decide) hn e
  unfold isAnd at this
  exact of_decide_eq_false this
theorem cndG_ex {pie : Nat → PR} (h : Mon pie) (hn : n ≤ 200) {p q : Nat} {g : CD} (e : cndG t n pie p = .inr (q, g)) : cu t n q ≠ 38 ∧ cu t n q ≠ 124 := by
  have h2 := rowG_ex (rowG_mon h) (by decide) hn e
  unfold isOr at h2
  exact ⟨rowG_P (P := fun q => cu t n q ≠ 38) (fun p q g x => parG_ex h hn x) e, of_decide_eq_false h2⟩
end
end
section
-- 87.rdesc
/-! the reference reads an expression as the descent does -/
noncomputable def FOk (L : Nat) (xs : Nat → Int) (d : Nat) (t : TB) (n : Nat) (S : AH) (cd : CD) (st : List Int) (r : PR) : Prop := match r with
  | .inl e => ∃ T, XA L xs d S = some (0, T) ∧ Bd S T e
  | .inr (q, g) => ∃ T, XA L xs d S = XB L xs d T ∧ RZ t n T q (cd ++ g) st ∧ Zf S T
noncomputable def TOk (L : Nat) (xs : Nat → Int) (d : Nat) (t : TB) (n : Nat) (is : Int → Prop) (X : Rs) (S : AH) (cd : CD) (st : List Int) (r : PR) : Prop := match r with
  | .inl e => ∃ T, X = some (0, T) ∧ Bd S T e
  | .inr (q, g) => ∃ (T : AH) (pd : List Int) (g' : CD), g = g' ++ pdc pd ∧ (∀ x, x ∈ pd → is x) ∧ X = XB L xs d T ∧ RZ t n T q (cd ++ g') (pd ++ st) ∧ Zf S T
section
variable {L : Nat} {xs : Nat → Int} {d : Nat} {S S' T U W : AH} {t : TB} {n p : Nat} {cd : CD} {st pd : List Int}
theorem tm_pm {c : Int} (h : isTm c = true) : isPm c = false := by
  unfold isTm at h
  have := of_decide_eq_true h
  unfold isPm
  exact decide_eq_false (by first | decide | omega)
theorem pm_tm {c : Int} (h : isPm c = true) : isTm c = false := by
  unfold isPm at h
  have := of_decide_eq_true h
  unfold isTm
  exact decide_eq_false (by first | decide | omega)
theorem bad_of {X Y : Rs} {e : Int} (hXY : X = Y) (hz : Zf S T) (h : ∃ U, Y = some (0, U) ∧ Bd T U e) : ∃ U, X = some (0, U) ∧ Bd S U e := by
  obtain ⟨U, u1, u2⟩ := h
  exact ⟨U, hXY.trans u1, u2.of hz⟩
/-- a term's row -/
theorem ter_row (f : Nat) (h1 : isTm (st.headD 0) = false) (hf : ∀ (p : Nat) (S : AH) (cd : CD) (s : List Int), RZ t n S p cd s → opn s = opn st → FOk L xs d t n S cd s (facG t n (rdE t n f) (opn s) p)) : ∀ (k p : Nat) (g g' : CD) (pd : List Int) (S : AH), RZ t n S p (cd ++ g') (pd ++ st) → g = g' ++ pdc pd → (∀ x, x ∈ pd → isTm x = true) → TOk L xs d t n (fun x => isTm x = true) (XB L xs d S) S cd st (rowL t n isTm (facG t n (rdE t n f) (opn st)) k p g) := by
  intro k
  induction k with
  | zero =>
    intro p g g' pd S H e ha
    exact ⟨S, pd, g', e, ha, rfl, H, Zf.rf⟩
  | succ k ih =>
    intro p g g' pd S H e ha
    unfold rowL
    by_cases c : isTm (cu t n p) = true
    · rw [if_pos c]
      obtain ⟨T, t1, t2, t3⟩ := XB_op (L := L) (xs := xs) (d := d) H (Or.inl c) (fun x hx => Or.inl (ha x hx)) h1 (fun q => absurd (tm_pm c) (by rw [q]; decide))
      rw [List.append_assoc, ← e] at t2
      have hF := hf _ _ _ _ t2 (opn_op (tm_br c))
      rw [opn_op (tm_br c)] at hF
      revert hF
      cases hp : facG t n (rdE t n f) (opn st) (p + 1) with
      | inl x => exact fun hF => bad_of t1 t3 hF
      | inr x =>
        obtain ⟨q, g2⟩ := x
        rintro ⟨U, u1, u2, u3⟩
        rw [List.append_assoc] at u2
        have hI := ih q (g ++ g2 ++ [(cu t n p, 0)]) (g ++ g2) [cu t n p] U u2 rfl (fun x hx => by rw [List.mem_singleton.mp hx]; exact c)
        show TOk L xs d t n (fun x => isTm x = true) (XB L xs d S) S cd st (rowL t n isTm (facG t n (rdE t n f) (opn st)) k q (g ++ g2 ++ [(cu t n p, 0)]))
        revert hI
        cases rowL t n isTm (facG t n (rdE t n f) (opn st)) k q (g ++ g2 ++ [(cu t n p, 0)]) with
        | inl x => exact fun hI => bad_of (t1.trans u1) (t3.tr u3) hI
        | inr x =>
          obtain ⟨q3, g3⟩ := x
          rintro ⟨V, pd3, g3', v1, v2, v3, v4, v5⟩
          exact ⟨V, pd3, g3', v1, v2, (t1.trans u1).trans v3, v4, (t3.tr u3).tr v5⟩
    · rw [if_neg c]
      exact ⟨S, pd, g', e, ha, rfl, H, Zf.rf⟩
theorem ter_ok (f : Nat) (h1 : isTm (st.headD 0) = false) (hf : ∀ (p : Nat) (S : AH) (cd : CD) (s : List Int), RZ t n S p cd s → opn s = opn st → FOk L xs d t n S cd s (facG t n (rdE t n f) (opn s) p)) (H : RZ t n S p cd st) : TOk L xs d t n (fun x => isTm x = true) (XA L xs d S) S cd st (terG t n (rdE t n f) (opn st) p) := by
  have hF := hf p S cd st H rfl
  unfold terG rowG
  revert hF
  cases facG t n (rdE t n f) (opn st) p with
  | inl x => exact fun hF => hF
  | inr x =>
    obtain ⟨q, g⟩ := x
    rintro ⟨T, t1, t2, t3⟩
    have hI := ter_row (cd := cd) f h1 hf 200 q g g [] T t2 (by rw [pdc_nil, List.append_nil]) (fun x hx => by cases hx)
    show TOk L xs d t n (fun x => isTm x = true) (XA L xs d S) S cd st (rowL t n isTm (facG t n (rdE t n f) (opn st)) 200 q g)
    revert hI
    cases rowL t n isTm (facG t n (rdE t n f) (opn st)) 200 q g with
    | inl x => exact fun hI => bad_of t1 t3 hI
    | inr x =>
      obtain ⟨q3, g3⟩ := x
      rintro ⟨V, pd3, g3', v1, v2, v3, v4, v5⟩
      exact ⟨V, pd3, g3', v1, v2, t1.trans v3, v4, t3.tr v5⟩
/-- an expression's row -/
theorem exp_row (f : Nat) (h1 : isTm (st.headD 0) = false) (h2 : isPm (st.headD 0) = false) (hf : ∀ (p : Nat) (S : AH) (cd : CD) (s : List Int), RZ t n S p cd s → opn s = opn st → FOk L xs d t n S cd s (facG t n (rdE t n f) (opn s) p)) : ∀ (k p : Nat) (g g' : CD) (pd : List Int) (S : AH), RZ t n S p (cd ++ g') (pd ++ st) → g = g' ++ pdc pd → (∀ x, x ∈ pd → isTm x = true ∨ isPm x = true) → TOk L xs d t n (fun x => isTm x = true ∨ isPm x = true) (XB L xs d S) S cd st (rowL t n isPm (terG t n (rdE t n f) (opn st)) k p g) := by
  intro k
  induction k with
  | zero =>
    intro p g g' pd S H e ha
    exact ⟨S, pd, g', e, ha, rfl, H, Zf.rf⟩
  | succ k ih =>
    intro p g g' pd S H e ha
    unfold rowL
    by_cases c : isPm (cu t n p) = true
    · rw [if_pos c]
      obtain ⟨T, t1, t2, t3⟩ := XB_op (L := L) (xs := xs) (d := d) H (Or.inr c) (fun x hx => (ha x hx).imp id (fun q => ⟨c, q⟩)) h1 (fun _ => h2)
      rw [List.append_assoc, ← e] at t2
      have hF := ter_ok f (st := cu t n p :: st) (pm_tm c) (fun p S cd s q1 q2 => hf p S cd s q1 (q2.trans (opn_op (pm_br c)))) t2
      rw [opn_op (pm_br c)] at hF
      revert hF
      cases hp : terG t n (rdE t n f) (opn st) (p + 1) with
      | inl x => exact fun hF => bad_of t1 t3 hF
      | inr x =>
        obtain ⟨q, g2⟩ := x
        rintro ⟨U, pd2, g2', u0, ua, u1, u2, u3⟩
        have hI := ih q (g ++ g2 ++ [(cu t n p, 0)]) (g ++ g2') (pd2 ++ [cu t n p]) U (by rw [List.append_assoc] at u2; rw [List.append_assoc]; exact u2) (by rw [u0, pdc_app, pdc_cons, pdc_nil, List.append_assoc, List.append_assoc, List.append_assoc]) (fun x hx => by
          rcases List.mem_append.mp hx with y | y
          · exact Or.inl (ua x y)
          · rw [List.mem_singleton.mp y]
            exact Or.inr c)
        show TOk L xs d t n (fun x => isTm x = true ∨ isPm x = true) (XB L xs d S) S cd st (rowL t n isPm (terG t n (rdE t n f) (opn st)) k q (g ++ g2 ++ [(cu t n p, 0)]))
        revert hI
        cases rowL t n isPm (terG t n (rdE t n f) (opn st)) k q (g ++ g2 ++ [(cu t n p, 0)]) with
        | inl x => exact fun hI => bad_of (t1.trans u1) (t3.tr u3) hI
        | inr x =>
          obtain ⟨q3, g3⟩ := x
          rintro ⟨V, pd3, g3', v1, v2, v3, v4, v5⟩
          exact ⟨V, pd3, g3', v1, v2, (t1.trans u1).trans v3, v4, (t3.tr u3).tr v5⟩
    · rw [if_neg c]
      exact ⟨S, pd, g', e, ha, rfl, H, Zf.rf⟩
theorem exp_ok1 (f : Nat) (h1 : isTm (st.headD 0) = false) (h2 : isPm (st.headD 0) = false) (hf : ∀ (p : Nat) (S : AH) (cd : CD) (s : List Int), RZ t n S p cd s → opn s = opn st → FOk L xs d t n S cd s (facG t n (rdE t n f) (opn s) p)) (H : RZ t n S p cd st) : TOk L xs d t n (fun x => isTm x = true ∨ isPm x = true) (XA L xs d S) S cd st (rdE t n (f + 1) (opn st) p) := by
  have hF := ter_ok f h1 hf H
  show TOk L xs d t n (fun x => isTm x = true ∨ isPm x = true) (XA L xs d S) S cd st (rowG t n isPm (terG t n (rdE t n f) (opn st)) p)
  unfold rowG
  revert hF
  cases terG t n (rdE t n f) (opn st) p with
  | inl x => exact fun hF => hF
  | inr x =>
    obtain ⟨q, g⟩ := x
    rintro ⟨T, pd, g', t0, ta, t1, t2, t3⟩
    have hI := exp_row (cd := cd) f h1 h2 hf 200 q g g' pd T t2 t0 (fun x hx => Or.inl (ta x hx))
    show TOk L xs d t n (fun x => isTm x = true ∨ isPm x = true) (XA L xs d S) S cd st (rowL t n isPm (terG t n (rdE t n f) (opn st)) 200 q g)
    revert hI
    cases rowL t n isPm (terG t n (rdE t n f) (opn st)) 200 q g with
    | inl x => exact fun hI => bad_of t1 t3 hI
    | inr x =>
      obtain ⟨q3, g3⟩ := x
      rintro ⟨V, pd3, g3', v1, v2, v3, v4, v5⟩
      exact ⟨V, pd3, g3', v1, v2, t1.trans v3, v4, t3.tr v5⟩
theorem fac_ok (f : Nat) (he : ∀ (p : Nat) (S : AH) (cd : CD) (s : List Int), RZ t n S p cd s → isTm (s.headD 0) = false → isPm (s.headD 0) = false → 9 ≤ f + opn s → TOk L xs d t n (fun x => isTm x = true ∨ isPm x = true) (XA L xs d S) S cd s (rdE t n f (opn s) p)) (H : RZ t n S p cd st) (hd : 8 ≤ f + opn st) : FOk L xs d t n S cd st (facG t n (rdE t n f) (opn st) p) := by
  by_cases c : cu t n p = 91
  · have b3 := H.2.2.1.2.2
    have h200 := H.1.2.2
    obtain ⟨o1, o2⟩ := XA_open (L := L) (xs := xs) (d := d) H c
    unfold facG
    rw [if_pos c]
    by_cases c2 : 8 ≤ opn st
    · rw [if_pos c2]
      exact o1 (by first | decide | omega)
    · rw [if_neg c2]
      obtain ⟨T, t1, t2, t3⟩ := o2 (by first | decide | omega)
      have hb : opn (91 :: st) = opn st + 1 := opn_br (Or.inr (Or.inr rfl))
      have hE := he _ _ _ _ t2 (show isTm 91 = false by decide) (show isPm 91 = false by decide) (by first | decide | omega)
      rw [hb] at hE
      revert hE
      cases hr : rdE t n f (opn st + 1) (p + 1) with
      | inl x => exact fun hE => bad_of t1 t3 hE
      | inr x =>
        obtain ⟨q, g⟩ := x
        rintro ⟨U, pd, g', u0, ua, u1, u2, u3⟩
        obtain ⟨x1, x2⟩ := rdE_ex h200 f _ hr
        by_cases c3 : cu t n q = 93
        · show FOk L xs d t n S cd st (if cu t n q = 93 then .inr (q + 1, g) else .inl (flt 1 q))
          rw [if_pos c3]
          obtain ⟨V, v1, v2, v3⟩ := XB_close (L := L) (xs := xs) (d := d) u2 c3 ua
          rw [List.append_assoc, ← u0] at v2
          exact ⟨V, (t1.trans u1).trans v1, v2, (t3.tr u3).tr v3⟩
        · show FOk L xs d t n S cd st (if cu t n q = 93 then .inr (q + 1, g) else .inl (flt 1 q))
          rw [if_neg c3]
          by_cases c4 : isSg (cu t n q) = true
          · exact bad_of (t1.trans u1) (t3.tr u3) ((XB_sign (L := L) (xs := xs) (d := d) u2 c4 ua (show isTm 91 = false by decide) (show isPm 91 = false by decide)).2 (Or.inl rfl))
          · exact bad_of (t1.trans u1) (t3.tr u3) ((XB_end (L := L) (xs := xs) (d := d) u2 x1 x2 c3 (nf c4) ua (show isTm 91 = false by decide) (show isPm 91 = false by decide)).1 (show isSg 91 = false by decide))
  · have := XA_atom (L := L) (xs := xs) (d := d) H c (rdE t n f) (opn st)
    unfold FOk
    exact this
theorem exp_ok (f : Nat) : ∀ (p : Nat) (S : AH) (cd : CD) (s : List Int), RZ t n S p cd s → isTm (s.headD 0) = false → isPm (s.headD 0) = false → 9 ≤ f + opn s → TOk L xs d t n (fun x => isTm x = true ∨ isPm x = true) (XA L xs d S) S cd s (rdE t n f (opn s) p) := by
  induction f with
  | zero =>
    intro p S cd s H _ _ h
    have := H.2.2.1.2.2
    omega
  | succ f ih =>
    intro p S cd s H h1 h2 h
    exact exp_ok1 f h1 h2 (fun p S cd s2 q1 q2 => fac_ok f ih q1 (by first | decide | omega)) H
end
end
section
-- 88.rcond
/-! the reference's reader: pieces and what joins them -/
noncomputable def CA (L : Nat) (xs : Nat → Int) (d : Nat) (S : AH) : Rs := LQ (WK L xs) (ev (WK L xs) (d + 9)) 211 47 [some (vr 72), some (vi 1)] [] S
noncomputable def CB (L : Nat) (xs : Nat → Int) (d : Nat) (S : AH) : Rs := LQ (WK L xs) (ev (WK L xs) (d + 9)) 211 47 [some (vr 72), some (vi 0)] [] S
/-- behind a condition -/
noncomputable def RD (t : TB) (n : Nat) (S : AH) (p : Nat) (cd : CD) : Prop := Zt t n S ∧ (S.2 72 18 = p ∧ S.2 72 20 = 0 ∧ S.2 72 22 = cd.length) ∧ (p ≤ n ∧ cd.length ≤ p) ∧ ∀ (i : Nat) (q : Int × Int), cd[i]? = some q → S.2 91 i = q.1 ∧ S.2 92 i = q.2
section
variable {L : Nat} {xs : Nat → Int} {d : Nat} {S S' T U W : AH} {t : TB} {n p : Nat} {cd : CD} {st pd : List Int}
theorem C_bad {x : Int} (h : S.2 72 20 ≠ 0) : LQ (WK L xs) (ev (WK L xs) (d + 9)) 211 47 [some (vr 72), some (vi x)] [] S = some (0, S) := by
  rw [q_211_47, m_bad h, bR, if_pos rfl]
theorem CB_on (h : S.2 72 20 = 0) (h26 : S.2 72 26 = 0) : CB L xs d S = bindR (ev (WK L xs) (d + 9) 228 [vr 72] S) (fun r T => LQ (WK L xs) (ev (WK L xs) (d + 9)) 211 47 [some (vr 72), some (vi r)] [] T) := by
  unfold CB
  rw [q_211_47, m_good h, bR, if_neg (by decide), if_pos h26, if_pos rfl, m_good h, bR, if_neg (by decide)]
theorem CA_on (h : S.2 72 20 = 0) (h26 : S.2 72 26 = 0) : CA L xs d S = bindR (ev (WK L xs) (d + 9) 213 [vr 72] S) (fun _ T => bindR (ev (WK L xs) (d + 9) 205 [vr 72] T) (fun r9 S10 => if r9 = 0 then LQ (WK L xs) (ev (WK L xs) (d + 9)) 211 47 [some (vr 72), some (vi 1)] [] S10 else bindR (ev (WK L xs) (d + 9) 228 [vr 72] S10) (fun r T => LQ (WK L xs) (ev (WK L xs) (d + 9)) 211 47 [some (vr 72), some (vi r)] [] T))) := by
  unfold CA
  rw [q_211_47, m_good h, bR, if_neg (by decide), if_pos h26, if_neg (by decide)]
theorem CA_good (H : RZ t n S p cd st) {q : Nat} {cd2 : CD} {st2 : List Int} {r : Int} (h : ev (WK L xs) (d + 9) 213 [vr 72] S = some (r, T)) (HT : RZ t n T q cd2 st2) : CA L xs d S = CB L xs d T := by
  rw [CA_on H.2.1.2.1 H.2.1.2.2.2.2.2, h, bR, m_good HT.2.1.2.1, bR, if_neg (by decide), CB_on HT.2.1.2.1 HT.2.1.2.2.2.2.2]
theorem CA_badd (H : RZ t n S p cd st) {r e : Int} (h : ev (WK L xs) (d + 9) 213 [vr 72] S = some (r, T)) (hT : Bd S T e) : ∃ T, CA L xs d S = some (0, T) ∧ Bd S T e := by
  have hb : T.2 72 20 ≠ 0 := by
    have := hT.2
    omega
  refine ⟨T, ?_, hT⟩
  rw [CA_on H.2.1.2.1 H.2.1.2.2.2.2.2, h, bR, m_bad hb, bR, if_pos rfl, C_bad hb]
theorem pie_32 (H : RZ t n S p cd st) (h1 : cu t n p ≠ 33) (h2 : cu t n p ≠ 40) : ev (WK L xs) (d + 9) 213 [vr 72] S = LQ (WK L xs) (ev (WK L xs) (d + 8)) 213 32 [some (vr 72)] [] S := by
  have h200 := H.1.2.2
  have b1 := H.2.2.1.1
  rw [q_213, m_good H.2.1.2.1, bR, if_neg (by decide), m_here H.1 H.2.1.1 (by first | decide | omega), bR, if_neg h1, m_here H.1 H.2.1.1 (by first | decide | omega), bR, if_neg h2]
theorem CA_open (H : RZ t n S p cd st) (hc : cu t n p = 33 ∨ cu t n p = 40) : (opn st = 8 → ∃ T, CA L xs d S = some (0, T) ∧ Bd S T (flt 5 p)) ∧ (opn st < 8 → ∃ T, CA L xs d S = CA L xs d T ∧ RZ t n T (p + 1) cd (cu t n p :: st) ∧ Zf S T) := by
  have h200 := H.1.2.2
  have b1 := H.2.2.1.1
  have key : ev (WK L xs) (d + 9) 213 [vr 72] S = bindR (ev (WK L xs) (d + 8) 212 [vr 72] S) (fun _ S6 => LQ (WK L xs) (ev (WK L xs) (d + 8)) 213 0 [some (vr 72)] [] S6) := by
    rw [q_213, m_good H.2.1.2.1, bR, if_neg (by decide), m_here H.1 H.2.1.1 (by first | decide | omega), bR]
    by_cases c : cu t n p = 33
    · rw [if_pos c]
    · rw [if_neg c, m_here H.1 H.2.1.1 (by first | decide | omega), bR, if_pos (hc.resolve_left c)]
  obtain ⟨o1, o2⟩ := m_opens (L := L) (xs := xs) (d := d + 6) H (by first | decide | omega)
  refine ⟨fun q => ?_, fun q => ?_⟩
  · obtain ⟨T, t1, t2⟩ := o1 q
    have hb : T.2 72 20 ≠ 0 := by
      have := t2.2
      omega
    refine CA_badd H (r := 0) (T := T) ?_ t2
    rw [key, t1, bR, q_213_0, m_bad hb, bR, if_pos rfl, q_213_32, m_bad hb, bR, if_pos rfl]
  · obtain ⟨T, t1, t2, t3, -⟩ := o2 q
    refine ⟨T, ?_, t2, t3⟩
    rw [CA_on H.2.1.2.1 H.2.1.2.2.2.2.2, CA_on t2.2.1.2.1 t2.2.1.2.2.2.2.2, key, t1, bR, q_213, q_213_0]
/-- a sign that joins -/
theorem CB_op (H : RZ t n S p cd (pd ++ st)) (hc : cu t n p = 38 ∨ cu t n p = 124) (hpd : ∀ x, x ∈ pd → x = 38 ∨ (cu t n p = 124 ∧ x = 124)) (h1 : st.headD 0 ≠ 38) (h2 : cu t n p = 124 → st.headD 0 ≠ 124) : ∃ T, CB L xs d S = CA L xs d T ∧ RZ t n T (p + 1) (cd ++ pdc pd) (cu t n p :: st) ∧ Zf S T := by
  have h200 := H.1.2.2
  have b1 := H.2.2.1.1
  have hp := cu_pos (t := t) (n := n) (p := p) (by first | decide | omega)
  have g : ev (WK L xs) (d + 9) 228 [vr 72] S = LQ (WK L xs) (ev (WK L xs) (d + 8)) 228 29 [some (vr 72), some (vi (cu t n p))] [vi (bi (cu t n p = 124)), vr 72] S := by
    rw [q_228, m_here H.1 H.2.1.1 (by first | decide | omega), bR]
    by_cases c : cu t n p = 124
    · rw [if_neg (by first | decide | omega), if_pos c, if_pos c, bi_T c]
    · rw [if_pos (hc.resolve_right c), if_neg c, bi_F c]
  have hpl : bi (cu t n p = 124) = 0 ∨ bi (cu t n p = 124) = 1 := by rw [bi_01]; trivial
  obtain ⟨T, t1, t2, t3⟩ := m_joins (L := L) (xs := xs) (d := d + 4) hpl h1 (fun q => h2 (bi_1.mp q)) H (fun x hx => by
    rcases hpd x hx with q | q
    · exact Or.inl q
    · exact Or.inr ⟨bi_T q.1, q.2⟩)
  have b2 := t2.2.2.1
  obtain ⟨P1, P2⟩ := t2.psh hp (c := cu t n p) (by first | decide | omega)
  refine ⟨_, ?_, P1, t3.tr P2⟩
  rw [CB_on H.2.1.2.1 H.2.1.2.2.2.2.2, g, q_228_29, show ev (WK L xs) (d + 8) 229 [vr 72, vi (bi (cu t n p = 124))] S = some (0, T) from t1, bR, t2.2.1.2.2.2.2.1, if_pos (by first | decide | omega), t2.2.1.1, Int.toNat_natCast, w32e (x := (st.length : Int) + 1) (by first | decide | omega) (by first | decide | omega), w32e (x := (p : Int) + 1) (by first | decide | omega) (by first | decide | omega), bR]
  rfl
theorem CB_fail (H : RZ t n S p cd st) (hc : cu t n p ≠ 38 ∧ cu t n p ≠ 124 ∧ cu t n p ≠ 41) : ∃ T, CB L xs d S = some (0, T) ∧ Bd S T (flt 1 p) := by
  have h200 := H.1.2.2
  have b1 := H.2.2.1.1
  have hn := flt_neg (f := 1) (by decide) p
  refine ⟨wr S 72 20 (flt 1 p), ?_, Bd.fl (by decide) p⟩
  rw [CB_on H.2.1.2.1 H.2.1.2.2.2.2.2, q_228, m_here H.1 H.2.1.1 (by first | decide | omega), bR, if_neg hc.1, if_neg hc.2.1, if_neg hc.2.2, H.2.1.1, m_fails H.2.1.2.1 (by decide) (by first | decide | omega), bR, bR, C_bad (by rw [wr_f, if_pos rfl]; omega)]
/-- a ) -/
theorem CB_pop (H : RZ t n S p cd (pd ++ 40 :: st)) (hc : cu t n p = 41) (hpd : ∀ x, x ∈ pd → x = 38 ∨ x = 124) : ∃ T, ev (WK L xs) (d + 8) 229 [vr 72, vi 1] S = some (0, T) ∧ RZ t n T p (cd ++ pdc pd) (40 :: st) ∧ Zf S T ∧ (p < n ∧ st.length ≤ 199 ∧ opn st ≤ 7) ∧ w32 (T.2 72 24 - 1) = st.length ∧ w32 (T.2 72 23 - 1) = opn st ∧ w32 (T.2 72 18 + 1) = (p : Int) + 1 := by
  have h200 := H.1.2.2
  have hp := cu_pos (t := t) (n := n) (p := p) (by first | decide | omega)
  obtain ⟨T, t1, t2, t3⟩ := m_joins (L := L) (xs := xs) (d := d + 4) (pl := 1) (st := 40 :: st) (Or.inr rfl) (show (40 : Int) ≠ 38 by decide) (fun _ => show (40 : Int) ≠ 124 by decide) H (fun x hx => (hpd x hx).imp id (fun q => ⟨rfl, q⟩))
  refine ⟨T, t1, t2, t3, ?_⟩
  obtain ⟨z, ⟨h18, h20, h22, h23, h24, h26⟩, ⟨c1, c2, c3⟩, -, -⟩ := t2
  rw [List.length_cons] at h24 c2
  rw [opn_br (Or.inr (Or.inl rfl))] at h23 c3
  rw [h18, h23, h24, w32e (x := ((st.length + 1 : Nat) : Int) - 1) (by first | decide | omega) (by first | decide | omega), w32e (x := ((opn st + 1 : Nat) : Int) - 1) (by first | decide | omega) (by first | decide | omega), w32e (by first | decide | omega) (by first | decide | omega)]
  omega
theorem CB_close (H : RZ t n S p cd (pd ++ 40 :: st)) (hc : cu t n p = 41) (hpd : ∀ x, x ∈ pd → x = 38 ∨ x = 124) (hst : st ≠ []) : ∃ T, CB L xs d S = CB L xs d T ∧ RZ t n T (p + 1) (cd ++ pdc pd ++ enC st) (enS st) ∧ Zf S T := by
  have h200 := H.1.2.2
  have b1 := H.2.2.1.1
  obtain ⟨T, t1, t2, t3, ⟨hp, l1, l2⟩, e24, e23, e18⟩ := CB_pop (L := L) (xs := xs) (d := d) H hc hpd
  have hl : st.length ≠ 0 := fun q => hst (List.length_eq_zero_iff.mp q)
  have hz : Zf T (wr (wr (wr (wr T 72 24 (st.length : Int)) 72 23 (opn st : Int)) 72 18 ((p : Int) + 1)) 72 26 0) := (((Zf.w72 (by first | decide | omega)).tr (Zf.w72 (by first | decide | omega))).tr (Zf.w72 (by first | decide | omega))).tr (Zf.w72 (by first | decide | omega))
  have HX : RZ t n (wr (wr (wr (wr T 72 24 (st.length : Int)) 72 23 (opn st : Int)) 72 18 ((p : Int) + 1)) 72 26 0) (p + 1) (cd ++ pdc pd) st := by
    obtain ⟨z, ⟨h18, h20, h22, h23, h24, h26⟩, ⟨c1, c2, c3⟩, hcd, hs⟩ := t2
    rw [List.length_cons] at c2 hs
    refine ⟨z.fr hz, ⟨?_, ?_, ?_, ?_, ?_, ?_⟩, ⟨by omega, by omega, by omega⟩, ?_, fun i x hx => ?_⟩
    · rw [wr_f, if_neg (by decide), wr_f, if_pos rfl]
      omega
    · rw [wr_f, if_neg (by decide), wr_f, if_neg (by decide), wr_f, if_neg (by decide), wr_f, if_neg (by decide), h20]
    · rw [wr_f, if_neg (by decide), wr_f, if_neg (by decide), wr_f, if_neg (by decide), wr_f, if_neg (by decide), h22]
    · rw [wr_f, if_neg (by decide), wr_f, if_neg (by decide), wr_f, if_pos rfl]
    · rw [wr_f, if_neg (by decide), wr_f, if_neg (by decide), wr_f, if_neg (by decide), wr_f, if_pos rfl]
    · rw [wr_f, if_pos rfl]
    · rw [wr_c (by decide), wr_c (by decide), wr_c (by decide), wr_c (by decide), wr_c (by decide), wr_c (by decide), wr_c (by decide), wr_c (by decide)]
      exact hcd
    · have hl := (List.getElem?_eq_some_iff.mp hx).1
      have := hs (i + 1) x hx
      rw [wr_c (by decide), wr_c (by decide), wr_c (by decide), wr_c (by decide), show st.length - 1 - i = st.length + 1 - 1 - (i + 1) by omega]
      exact this
  obtain ⟨U, u1, u2, u3⟩ := m_ends (L := L) (xs := xs) (d := d + 4) HX
  refine ⟨U, ?_, u2, (t3.tr hz).tr u3⟩
  rw [CB_on H.2.1.2.1 H.2.1.2.2.2.2.2, q_228, m_here H.1 H.2.1.1 (by first | decide | omega), bR, if_neg (by first | decide | omega), if_neg (by first | decide | omega), if_pos hc, t1, bR, e24, e23, e18, if_neg (by first | decide | omega), if_pos rfl, show ev (WK L xs) (d + 8) 227 [vr 72] (wr (wr (wr (wr T 72 24 (st.length : Int)) 72 23 (opn st : Int)) 72 18 ((p : Int) + 1)) 72 26 0) = some (0, U) from u1, bR, bR]
  rfl
theorem CB_done (H : RZ t n S p cd (pd ++ [40])) (hc : cu t n p = 41) (hpd : ∀ x, x ∈ pd → x = 38 ∨ x = 124) : ∃ T, CB L xs d S = some (0, T) ∧ RD t n T (p + 1) (cd ++ pdc pd) ∧ Zf S T := by
  have h200 := H.1.2.2
  have b1 := H.2.2.1.1
  obtain ⟨T, t1, t2, t3, ⟨hp, l1, l2⟩, e24, e23, e18⟩ := CB_pop (L := L) (xs := xs) (d := d) H hc hpd
  have hz : Zf T (wr (wr (wr (wr T 72 24 ((([] : List Int).length : Nat) : Int)) 72 23 ((opn [] : Nat) : Int)) 72 18 ((p : Int) + 1)) 72 26 1) := (((Zf.w72 (by first | decide | omega)).tr (Zf.w72 (by first | decide | omega))).tr (Zf.w72 (by first | decide | omega))).tr (Zf.w72 (by first | decide | omega))
  refine ⟨_, ?_, ?_, t3.tr hz⟩
  · rw [CB_on H.2.1.2.1 H.2.1.2.2.2.2.2, q_228, m_here H.1 H.2.1.1 (by first | decide | omega), bR, if_neg (by first | decide | omega), if_neg (by first | decide | omega), if_pos hc, t1, bR, e24, e23, e18, if_pos (show (([] : List Int).length : Int) = 0 from rfl), if_neg (show ¬ (1 : Int) = 0 by decide), bR, q_211_47, m_good (by rw [wr_f, if_neg (by decide), wr_f, if_neg (by decide), wr_f, if_neg (by decide), wr_f, if_neg (by decide), t2.2.1.2.1]), bR, if_neg (by decide), if_neg (by rw [wr_f, if_pos rfl]; decide)]
  · obtain ⟨z, ⟨h18, h20, h22, h23, h24, h26⟩, ⟨c1, c2, c3⟩, hcd, hs⟩ := t2
    rw [List.length_cons] at c2
    refine ⟨z.fr hz, ⟨?_, ?_, ?_⟩, ⟨by omega, by omega⟩, ?_⟩
    · rw [wr_f, if_neg (by decide), wr_f, if_pos rfl]
      omega
    · rw [wr_f, if_neg (by decide), wr_f, if_neg (by decide), wr_f, if_neg (by decide), wr_f, if_neg (by decide), h20]
    · rw [wr_f, if_neg (by decide), wr_f, if_neg (by decide), wr_f, if_neg (by decide), wr_f, if_neg (by decide), h22]
    · rw [wr_c (by decide), wr_c (by decide), wr_c (by decide), wr_c (by decide), wr_c (by decide), wr_c (by decide), wr_c (by decide), wr_c (by decide)]
      exact hcd
end
end
section
-- 89.rcdesc
/-! the reference reads a condition as the descent does -/
noncomputable def goodT (c : Int) : Prop := c = 33 ∨ c = 40 ∨ c = 38 ∨ c = 124
/-- what can't stand behind a piece -/
noncomputable def offB (c : Int) : Prop := c ≠ 38 ∧ c ≠ 124 ∧ c ≠ 41
noncomputable def POk (L : Nat) (xs : Nat → Int) (d : Nat) (t : TB) (n : Nat) (S : AH) (cd : CD) (st : List Int) (r : PR) : Prop := match r with
  | .inl e => ∃ T, CA L xs d S = some (0, T) ∧ Bd S T e
  | .inr (q, g) => (∃ T, CA L xs d S = CB L xs d T ∧ RZ t n T q (cd ++ g ++ enC st) (enS st) ∧ Zf S T) ∨ (offB (cu t n q) ∧ ∃ T, CA L xs d S = some (0, T) ∧ Bd S T (flt 1 q))
noncomputable def ROk (L : Nat) (xs : Nat → Int) (d : Nat) (t : TB) (n : Nat) (is : Int → Prop) (X : Rs) (S : AH) (cd : CD) (st : List Int) (r : PR) : Prop := match r with
  | .inl e => ∃ T, X = some (0, T) ∧ Bd S T e
  | .inr (q, g) => (∃ (T : AH) (pd : List Int) (g' : CD), g = g' ++ pdc pd ∧ (∀ x, x ∈ pd → is x) ∧ X = CB L xs d T ∧ RZ t n T q (cd ++ g') (pd ++ st) ∧ Zf S T) ∨ (offB (cu t n q) ∧ ∃ T, X = some (0, T) ∧ Bd S T (flt 1 q))
section
variable {L : Nat} {xs : Nat → Int} {d : Nat} {S S' T U W : AH} {t : TB} {n p : Nat} {cd : CD} {st pd : List Int}
theorem ROk.of {is : Int → Prop} {X Y : Rs} {r : PR} (hXY : X = Y) (hz : Zf S T) (h : ROk L xs d t n is Y T cd st r) : ROk L xs d t n is X S cd st r := by
  revert h
  cases r with
  | inl e => exact fun h => bad_of hXY hz h
  | inr x =>
    obtain ⟨q, g⟩ := x
    rintro (⟨V, pd3, g3', v1, v2, v3, v4, v5⟩ | ⟨h1, h2⟩)
    · exact Or.inl ⟨V, pd3, g3', v1, v2, hXY.trans v3, v4, hz.tr v5⟩
    · exact Or.inr ⟨h1, bad_of hXY hz h2⟩
theorem rowL_off {is : Int → Bool} {part : Nat → PR} (k q : Nat) (g : CD) (h : is (cu t n q) = false) : rowL t n is part k q g = .inr (q, g) := by
  cases k with
  | zero => rfl
  | succ k =>
    unfold rowL
    rw [if_neg (nt h)]
theorem off_and {c : Int} (h : offB c) : isAnd c = false := decide_eq_false h.1
theorem off_or {c : Int} (h : offB c) : isOr c = false := decide_eq_false h.2.1
theorem cmp_ok (h : goodT (st.headD 0)) (H : RZ t n S p cd st) : match cmpG t n (opn st) p with
    | .inl e => ∃ T, XA L xs d S = some (0, T) ∧ Bd S T e
    | .inr (q, g) => (∃ T, XA L xs d S = some (0, T) ∧ RZ t n T q (cd ++ g) st ∧ Zf S T) ∨ (offB (cu t n q) ∧ ∃ T, XA L xs d S = some (0, T) ∧ Bd S T (flt 1 q)) := by
  have h200 := H.1.2.2
  have k1 : isTm (st.headD 0) = false := by
    rcases h with e | e | e | e <;> rw [e] <;> decide
  have k2 : isPm (st.headD 0) = false := by
    rcases h with e | e | e | e <;> rw [e] <;> decide
  have k3 : isSg (st.headD 0) = false := by
    rcases h with e | e | e | e <;> rw [e] <;> decide
  have k4 : st.headD 0 ≠ 91 := by
    rcases h with e | e | e | e <;> rw [e] <;> decide
  have hE := exp_ok (L := L) (xs := xs) (d := d) 9 p S cd st H k1 k2 (by first | decide | omega)
  unfold cmpG
  revert hE
  cases hr : rdE t n 9 (opn st) p with
  | inl e => exact fun hE => hE
  | inr x =>
    obtain ⟨q, g⟩ := x
    rintro ⟨U, pd, g', u0, ua, u1, u2, u3⟩
    obtain ⟨x1, x2⟩ := rdE_ex h200 _ _ hr
    by_cases c : isSg (cu t n q) = true
    · simp only [c, if_true]
      obtain ⟨V, v1, v2, v3⟩ := (XB_sign (L := L) (xs := xs) (d := d) u2 c ua k1 k2).1 k4 k3
      rw [List.append_assoc, ← u0] at v2
      obtain ⟨s1, s2, s3, s4⟩ := sg_not c
      have hE2 := exp_ok (L := L) (xs := xs) (d := d) 9 (q + 1) V (cd ++ g) (cu t n q :: st) v2 s1 s2 (by first | decide | omega)
      rw [opn_op (sg_br c)] at hE2
      revert hE2
      cases hr2 : rdE t n 9 (opn st) (q + 1) with
      | inl e => exact fun hE2 => bad_of (u1.trans v1) (u3.tr v3) hE2
      | inr x =>
        obtain ⟨r, g2⟩ := x
        rintro ⟨W, pd2, g2', w0, wa, w1, w2, w3⟩
        obtain ⟨y1, y2⟩ := rdE_ex h200 _ _ hr2
        have eq := (u1.trans v1).trans w1
        have ez := (u3.tr v3).tr w3
        have hb : ∀ c : Int, isSg c = true → c ≠ 91 := fun c hc e => by rw [e] at hc; exact absurd hc (by decide)
        by_cases c3 : cu t n r = 93
        · exact Or.inr ⟨by unfold offB; omega, bad_of eq ez (XB_closeB (L := L) (xs := xs) (d := d) w2 c3 wa s1 s2 (hb _ c))⟩
        · by_cases c4 : isSg (cu t n r) = true
          · refine Or.inr ⟨?_, bad_of eq ez ((XB_sign (L := L) (xs := xs) (d := d) w2 c4 wa s1 s2).2 (Or.inr c))⟩
            unfold isSg at c4
            have := of_decide_eq_true c4
            unfold offB
            omega
          · obtain ⟨Y, z1, z2, z3⟩ := (XB_end (L := L) (xs := xs) (d := d) w2 y1 y2 c3 (nf c4) wa s1 s2).2 _ _ rfl c
            refine Or.inl ⟨Y, eq.trans z1, ?_, ez.tr z3⟩
            rw [w0]
            rw [show cd ++ (g ++ (g2' ++ pdc pd2) ++ [(cu t n q, 0)]) = cd ++ g ++ g2' ++ pdc pd2 ++ [(cu t n q, 0)] by simp only [List.append_assoc]]
            exact z2
    · have cf := nf c
      simp only [cf]
      show ∃ T, XA L xs d S = some (0, T) ∧ Bd S T (flt 1 q)
      by_cases c3 : cu t n q = 93
      · exact bad_of u1 u3 (XB_closeB (L := L) (xs := xs) (d := d) u2 c3 ua k1 k2 k4)
      · exact bad_of u1 u3 ((XB_end (L := L) (xs := xs) (d := d) u2 x1 x2 c3 cf ua k1 k2).1 k3)
/-- u and comparisons -/
theorem pie_flat (h : goodT (st.headD 0)) (H : RZ t n S p cd st) (h1 : cu t n p ≠ 33) (h2 : cu t n p ≠ 40) (recP recC : Nat → Nat → PR) : POk L xs d t n S cd st (pieG t n recP recC (opn st) p) := by
  have h200 := H.1.2.2
  have b1 := H.2.2.1.1
  have h20 := H.2.1.2.1
  have h18 := H.2.1.1
  have fin : ∀ {T : AH} {q : Nat} {g : CD}, RZ t n T q (cd ++ g) st → Zf S T → ev (WK L xs) (d + 9) 213 [vr 72] S = bindR (ev (WK L xs) (d + 8) 205 [vr 72] T) (fun r7 S8 => (if r7 = 0 then (some ((0 : Int), S8)) else (bindR (ev (WK L xs) (d + 8) 227 [vr 72] S8) (fun r9 S10 => (some ((0 : Int), S10)))))) → ∃ U, CA L xs d S = CB L xs d U ∧ RZ t n U q (cd ++ g ++ enC st) (enS st) ∧ Zf S U := by
    intro T q g HT hz e
    obtain ⟨U, u1, u2, u3⟩ := m_ends (L := L) (xs := xs) (d := d + 4) HT
    refine ⟨U, CA_good H (r := 0) ?_ u2, u2, hz.tr u3⟩
    rw [e, m_good HT.2.1.2.1, bR, if_neg (by decide), show ev (WK L xs) (d + 8) 227 [vr 72] T = some (0, U) from u1, bR]
  have finB : ∀ {T : AH} {e : Int}, Bd S T e → ev (WK L xs) (d + 9) 213 [vr 72] S = bindR (ev (WK L xs) (d + 8) 205 [vr 72] T) (fun r7 S8 => (if r7 = 0 then (some ((0 : Int), S8)) else (bindR (ev (WK L xs) (d + 8) 227 [vr 72] S8) (fun r9 S10 => (some ((0 : Int), S10)))))) → ∃ U, CA L xs d S = some (0, U) ∧ Bd S U e := by
    intro T e hb eq
    have hb0 : T.2 72 20 ≠ 0 := by
      have := hb.2
      omega
    refine CA_badd H (r := 0) (T := T) ?_ hb
    rw [eq, m_bad hb0, bR, if_pos rfl]
  unfold pieG
  rw [if_neg h1, if_neg h2]
  by_cases c : cu t n p = 117
  · rw [if_pos c]
    have hp := cu_pos (t := t) (n := n) (p := p) (by first | decide | omega)
    have hz : Zf S (wr S 72 18 ((p + 1 : Nat) : Int)) := Zf.w72 (by first | decide | omega)
    have key : ev (WK L xs) (d + 9) 213 [vr 72] S = bindR (ev (WK L xs) (d + 8) 214 [vr 72, vi 39] (wr S 72 18 ((p + 1 : Nat) : Int))) (fun r11 S12 => (bindR (ev (WK L xs) (d + 8) 216 [vr 72, vi 2, vi r11] S12) (fun r13 S14 => (bindR (ev (WK L xs) (d + 8) 205 [vr 72] S14) (fun r15 S16 => (if r15 = 0 then (some ((0 : Int), S16)) else (bindR (ev (WK L xs) (d + 8) 227 [vr 72] S16) (fun r17 S18 => (some ((0 : Int), S18)))))))))) := by
      rw [pie_32 H h1 h2, q_213_32, m_good h20, bR, if_neg (by decide), m_here H.1 h18 (by first | decide | omega), bR, if_pos c, h18, w32e (x := (p : Int) + 1) (by first | decide | omega) (by first | decide | omega)]
      rfl
    have hr := m_reads (L := L) (xs := xs) (d := d + 4) 39 (H.1.fr hz) (p := p + 1) (by first | decide | omega) (by rw [wr_f, if_pos rfl]) (by rw [wr_f, if_neg (by decide), h20])
    revert hr
    cases hN : rdN t n 39 (p + 1) with
    | inl e =>
      rintro ⟨w, T, t1, t2⟩
      have hb : T.2 72 20 ≠ 0 := by
        have := t2.2
        omega
      refine finB (t2.of hz) ?_
      rw [key, show ev (WK L xs) (d + 8) 214 [vr 72, vi 39] (wr S 72 18 ((p + 1 : Nat) : Int)) = some (w, T) from t1, bR, q_216, m_bad hb, bR, if_pos rfl, bR]
    | inr qv =>
      obtain ⟨q, v⟩ := qv
      rintro ⟨T, t1, t2⟩
      have hq := rdN_lt hN
      obtain ⟨z, ⟨h18, h20, h22, h23, h24, h26⟩, ⟨b1, b2, b3⟩, hcd, hs⟩ := H
      have f72 : ∀ k, k ≠ 18 → T.2 72 k = S.2 72 k := fun k hk => by rw [t2.2.2.1 k hk, wr_f, if_neg hk]
      have fA : ∀ a, a ≠ 72 → T.2 a = S.2 a := fun a ha => by rw [t2.2.1 a ha, wr_c ha]
      refine Or.inl (fin (T := emS T cd.length 2 v) (q := q) (g := [(2, v)]) ?_ ((hz.tr t2.zf).tr emS_z) ?_)
      · refine ⟨z.fr ((hz.tr t2.zf).tr emS_z), ⟨?_, ?_, ?_, ?_, ?_, ?_⟩, ⟨hq.2 (by first | decide | omega), ?_, b3⟩, emS_cd (fun i x hx => ?_), fun i x hx => ?_⟩
        · rw [emS_72, if_neg (by decide), t2.2.2.2]
        · rw [emS_72, if_neg (by decide), f72 _ (by decide), h20]
        · rw [emS_72, if_pos rfl, List.length_append, List.length_singleton]
          omega
        · rw [emS_72, if_neg (by decide), f72 _ (by decide), h23]
        · rw [emS_72, if_neg (by decide), f72 _ (by decide), h24]
        · rw [emS_72, if_neg (by decide), f72 _ (by decide), h26]
        · rw [List.length_append, List.length_singleton]
          omega
        · rw [fA 91 (by decide), fA 92 (by decide)]
          exact hcd i x hx
        · rw [emS_93, fA 93 (by decide)]
          exact hs i x hx
      · rw [key, show ev (WK L xs) (d + 8) 214 [vr 72, vi 39] (wr S 72 18 ((p + 1 : Nat) : Int)) = some (v, T) from t1, bR, m_emit (by rw [f72 _ (by decide), h20]) (k := cd.length) (by rw [f72 _ (by decide), h22]) (by first | decide | omega), bR]
  · rw [if_neg c]
    have key : ev (WK L xs) (d + 9) 213 [vr 72] S = bindR (XA L xs (d + 1) S) (fun _ T => bindR (ev (WK L xs) (d + 8) 205 [vr 72] T) (fun r7 S8 => (if r7 = 0 then (some ((0 : Int), S8)) else (bindR (ev (WK L xs) (d + 8) 227 [vr 72] S8) (fun r9 S10 => (some ((0 : Int), S10))))))) := by
      rw [pie_32 H h1 h2, q_213_32, m_good h20, bR, if_neg (by decide), m_here H.1 h18 (by first | decide | omega), bR, if_neg c, q_217]
      rfl
    have hC := cmp_ok (L := L) (xs := xs) (d := d + 1) h H
    revert hC
    cases cmpG t n (opn st) p with
    | inl e =>
      rintro ⟨T, t1, t2⟩
      exact finB t2 (by rw [key, t1, bR])
    | inr x =>
      obtain ⟨q, g⟩ := x
      rintro (⟨T, t1, t2, t3⟩ | ⟨o, T, t1, t2⟩)
      · exact Or.inl (fin t2 t3 (by rw [key, t1, bR]))
      · exact Or.inr ⟨o, finB t2 (by rw [key, t1, bR])⟩
theorem en_top {c : Int} (h : c ≠ 33) : enC (c :: st) = [] ∧ enS (c :: st) = c :: st := by
  unfold enC enS
  rw [if_neg h, if_neg h]
  exact ⟨rfl, rfl⟩
theorem hd_ne {c : Int} (h : st.headD 0 = c) (h0 : c ≠ 0) : ∃ s, st = c :: s := by
  cases st with
  | nil => exact absurd h.symm h0
  | cons x s => exact ⟨s, by rw [show x = c from h]⟩
/-- a part's row -/
theorem par_row {f : Nat → PR} (h1 : st.headD 0 = 40 ∨ st.headD 0 = 124) (hf : ∀ (p : Nat) (S : AH) (cd : CD), RZ t n S p cd (38 :: st) → POk L xs d t n S cd (38 :: st) (f p)) : ∀ (k p : Nat) (g g' : CD) (pd : List Int) (S : AH), RZ t n S p (cd ++ g') (pd ++ st) → g = g' ++ pdc pd → (∀ x, x ∈ pd → x = 38) → ROk L xs d t n (fun x => x = 38) (CB L xs d S) S cd st (rowL t n isAnd f k p g) := by
  intro k
  induction k with
  | zero =>
    intro p g g' pd S H e ha
    exact Or.inl ⟨S, pd, g', e, ha, rfl, H, Zf.rf⟩
  | succ k ih =>
    intro p g g' pd S H e ha
    unfold rowL
    by_cases c : isAnd (cu t n p) = true
    · rw [if_pos c]
      have c' : cu t n p = 38 := of_decide_eq_true c
      obtain ⟨T, t1, t2, t3⟩ := CB_op (L := L) (xs := xs) (d := d) H (Or.inl c') (fun x hx => Or.inl (ha x hx)) (by first | decide | omega) (fun q => by omega)
      rw [List.append_assoc, ← e, c'] at t2
      have hF := hf _ _ _ t2
      revert hF
      cases hp : f (p + 1) with
      | inl x => exact fun hF => bad_of t1 t3 hF
      | inr x =>
        obtain ⟨q, g2⟩ := x
        rintro (⟨U, u1, u2, u3⟩ | ⟨o, hb⟩)
        · rw [(en_top (st := st) (c := 38) (by decide)).1, (en_top (st := st) (c := 38) (by decide)).2, List.append_nil, List.append_assoc] at u2
          have hI := ih q (g ++ g2 ++ [(cu t n p, 0)]) (g ++ g2) [cu t n p] U (by rw [c']; exact u2) rfl (fun x hx => by rw [List.mem_singleton.mp hx]; exact c')
          exact ROk.of (t1.trans u1) (t3.tr u3) hI
        · show ROk L xs d t n (fun x => x = 38) (CB L xs d S) S cd st (rowL t n isAnd f k q (g ++ g2 ++ [(cu t n p, 0)]))
          rw [rowL_off k q _ (off_and o)]
          exact Or.inr ⟨o, bad_of t1 t3 hb⟩
    · rw [if_neg c]
      exact Or.inl ⟨S, pd, g', e, ha, rfl, H, Zf.rf⟩
theorem par_ok {f : Nat → PR} (h1 : st.headD 0 = 40 ∨ st.headD 0 = 124) (hf : ∀ (p : Nat) (S : AH) (cd : CD) (s : List Int), s = st ∨ s = 38 :: st → RZ t n S p cd s → POk L xs d t n S cd s (f p)) (H : RZ t n S p cd st) : ROk L xs d t n (fun x => x = 38) (CA L xs d S) S cd st (rowG t n isAnd f p) := by
  have hF := hf p S cd st (Or.inl rfl) H
  unfold rowG
  revert hF
  cases f p with
  | inl x => exact fun hF => hF
  | inr x =>
    obtain ⟨q, g⟩ := x
    obtain ⟨s, hs⟩ : ∃ s, st = st.headD 0 :: s := hd_ne rfl (by first | decide | omega)
    have he := en_top (st := s) (c := st.headD 0) (by first | decide | omega)
    rw [← hs] at he
    rintro (⟨U, u1, u2, u3⟩ | ⟨o, hb⟩)
    · rw [he.1, he.2, List.append_nil] at u2
      have hI := par_row (L := L) (xs := xs) (d := d) (cd := cd) h1 (fun p S cd q => hf p S cd _ (Or.inr rfl) q) 200 q g g [] U u2 (by rw [pdc_nil, List.append_nil]) (fun x hx => by cases hx)
      exact ROk.of u1 u3 hI
    · show ROk L xs d t n (fun x => x = 38) (CA L xs d S) S cd st (rowL t n isAnd f 200 q g)
      rw [rowL_off 200 q _ (off_and o)]
      exact Or.inr ⟨o, hb⟩
/-- a condition's row -/
theorem cnd_row {f : Nat → PR} (h1 : st.headD 0 = 40) (hf : ∀ (p : Nat) (S : AH) (cd : CD) (s : List Int), s = 124 :: st ∨ s = 38 :: 124 :: st → RZ t n S p cd s → POk L xs d t n S cd s (f p)) : ∀ (k p : Nat) (g g' : CD) (pd : List Int) (S : AH), RZ t n S p (cd ++ g') (pd ++ st) → g = g' ++ pdc pd → (∀ x, x ∈ pd → x = 38 ∨ x = 124) → ROk L xs d t n (fun x => x = 38 ∨ x = 124) (CB L xs d S) S cd st (rowL t n isOr (rowG t n isAnd f) k p g) := by
  intro k
  induction k with
  | zero =>
    intro p g g' pd S H e ha
    exact Or.inl ⟨S, pd, g', e, ha, rfl, H, Zf.rf⟩
  | succ k ih =>
    intro p g g' pd S H e ha
    unfold rowL
    by_cases c : isOr (cu t n p) = true
    · rw [if_pos c]
      have c' : cu t n p = 124 := of_decide_eq_true c
      obtain ⟨T, t1, t2, t3⟩ := CB_op (L := L) (xs := xs) (d := d) H (Or.inr c') (fun x hx => (ha x hx).imp id (fun q => ⟨c', q⟩)) (by first | decide | omega) (fun q => by omega)
      rw [List.append_assoc, ← e, c'] at t2
      have hF := par_ok (L := L) (xs := xs) (d := d) (st := 124 :: st) (Or.inr rfl) hf t2
      revert hF
      cases hp : rowG t n isAnd f (p + 1) with
      | inl x => exact fun hF => bad_of t1 t3 hF
      | inr x =>
        obtain ⟨q, g2⟩ := x
        rintro (⟨U, pd2, g2', u0, ua, u1, u2, u3⟩ | ⟨o, hb⟩)
        · have hI := ih q (g ++ g2 ++ [(cu t n p, 0)]) (g ++ g2') (pd2 ++ [cu t n p]) U (by rw [List.append_assoc] at u2; rw [List.append_assoc, c']; exact u2) (by rw [u0, pdc_app, pdc_cons, pdc_nil, List.append_assoc, List.append_assoc, List.append_assoc]) (fun x hx => by
            rcases List.mem_append.mp hx with y | y
            · exact Or.inl (ua x y)
            · rw [List.mem_singleton.mp y]
              exact Or.inr c')
          exact ROk.of (t1.trans u1) (t3.tr u3) hI
        · show ROk L xs d t n (fun x => x = 38 ∨ x = 124) (CB L xs d S) S cd st (rowL t n isOr (rowG t n isAnd f) k q (g ++ g2 ++ [(cu t n p, 0)]))
          rw [rowL_off k q _ (off_or o)]
          exact Or.inr ⟨o, bad_of t1 t3 hb⟩
    · rw [if_neg c]
      exact Or.inl ⟨S, pd, g', e, ha, rfl, H, Zf.rf⟩
theorem cnd_ok {f : Nat → PR} (h1 : st.headD 0 = 40) (hf : ∀ (p : Nat) (S : AH) (cd : CD) (s : List Int), s = st ∨ s = 38 :: st ∨ s = 124 :: st ∨ s = 38 :: 124 :: st → RZ t n S p cd s → POk L xs d t n S cd s (f p)) (H : RZ t n S p cd st) : ROk L xs d t n (fun x => x = 38 ∨ x = 124) (CA L xs d S) S cd st (cndG t n f p) := by
  have hF := par_ok (L := L) (xs := xs) (d := d) (Or.inl h1) (fun p S cd s q => hf p S cd s (by rcases q with q | q; exact Or.inl q; exact Or.inr (Or.inl q))) H
  unfold cndG
  rw [show rowG t n isOr (rowG t n isAnd f) p = (match rowG t n isAnd f p with
    | .inl e => .inl e
    | .inr (q, g) => rowL t n isOr (rowG t n isAnd f) 200 q g) from rfl]
  revert hF
  cases rowG t n isAnd f p with
  | inl x => exact fun hF => hF
  | inr x =>
    obtain ⟨q, g⟩ := x
    rintro (⟨U, pd2, g2', u0, ua, u1, u2, u3⟩ | ⟨o, hb⟩)
    · have hI := cnd_row (L := L) (xs := xs) (d := d) (cd := cd) h1 (fun p S cd s q => hf p S cd s (Or.inr (Or.inr q))) 200 q g g2' pd2 U u2 u0 (fun x hx => Or.inl (ua x hx))
      exact ROk.of u1 u3 hI
    · show ROk L xs d t n (fun x => x = 38 ∨ x = 124) (CA L xs d S) S cd st (rowL t n isOr (rowG t n isAnd f) 200 q g)
      rw [rowL_off 200 q _ (off_or o)]
      exact Or.inr ⟨o, hb⟩
theorem opn_s {s : List Int} (h : s = st ∨ s = 38 :: st ∨ s = 124 :: st ∨ s = 38 :: 124 :: st) : opn s = opn st := by
  rcases h with e | e | e | e <;> rw [e]
  · exact opn_op (by decide)
  · exact opn_op (by decide)
  · exact (opn_op (by decide)).trans (opn_op (by decide))
theorem goodT_s {s : List Int} (h0 : st.headD 0 = 40) (h : s = st ∨ s = 38 :: st ∨ s = 124 :: st ∨ s = 38 :: 124 :: st) : goodT (s.headD 0) := by
  unfold goodT
  rcases h with e | e | e | e <;> rw [e]
  · exact Or.inr (Or.inl h0)
  · exact Or.inr (Or.inr (Or.inl rfl))
  · exact Or.inr (Or.inr (Or.inr rfl))
  · exact Or.inr (Or.inr (Or.inl rfl))
theorem pie_ok (f : Nat) : ∀ (p : Nat) (S : AH) (cd : CD) (st : List Int), RZ t n S p cd st → goodT (st.headD 0) → 9 ≤ f + opn st → POk L xs d t n S cd st (rdP t n f (opn st) p) := by
  induction f with
  | zero =>
    intro p S cd s H _ h
    have := H.2.2.1.2.2
    omega
  | succ f ih =>
    intro p S cd st H hg h
    show POk L xs d t n S cd st (pieG t n (rdP t n f) (fun o p => cndG t n (rdP t n f o) p) (opn st) p)
    have b3 := H.2.2.1.2.2
    have h200 := H.1.2.2
    by_cases c1 : cu t n p = 33
    · obtain ⟨o1, o2⟩ := CA_open (L := L) (xs := xs) (d := d) H (Or.inl c1)
      unfold pieG
      rw [if_pos c1]
      by_cases c2 : 8 ≤ opn st
      · rw [if_pos c2]
        exact o1 (by first | decide | omega)
      · rw [if_neg c2]
        obtain ⟨T, t1, t2, t3⟩ := o2 (by first | decide | omega)
        rw [c1] at t2
        have hb : opn (33 :: st) = opn st + 1 := opn_br (Or.inl rfl)
        have hE := ih _ _ _ _ t2 (Or.inl rfl) (by first | decide | omega)
        rw [hb] at hE
        revert hE
        cases hr : rdP t n f (opn st + 1) (p + 1) with
        | inl x => exact fun hE => bad_of t1 t3 hE
        | inr x =>
          obtain ⟨q, g⟩ := x
          rintro (⟨U, u1, u2, u3⟩ | ⟨o, hb⟩)
          · refine Or.inl ⟨U, t1.trans u1, ?_, t3.tr u3⟩
            have e1 : enC (33 :: st) = (3, 0) :: enC st := by
              show (if (33 : Int) = 33 then (3, 0) :: enC st else []) = _
              rw [if_pos rfl]
            have e2 : enS (33 :: st) = enS st := by
              show (if (33 : Int) = 33 then enS st else 33 :: st) = _
              rw [if_pos rfl]
            rw [e1, e2] at u2
            rw [show cd ++ (g ++ [(3, 0)]) ++ enC st = cd ++ g ++ (3, 0) :: enC st by simp only [List.append_assoc, List.cons_append, List.nil_append]]
            exact u2
          · exact Or.inr ⟨o, bad_of t1 t3 hb⟩
    · by_cases c3 : cu t n p = 40
      · obtain ⟨o1, o2⟩ := CA_open (L := L) (xs := xs) (d := d) H (Or.inr c3)
        unfold pieG
        rw [if_neg c1, if_pos c3]
        by_cases c2 : 8 ≤ opn st
        · rw [if_pos c2]
          exact o1 (by first | decide | omega)
        · rw [if_neg c2]
          obtain ⟨T, t1, t2, t3⟩ := o2 (by first | decide | omega)
          rw [c3] at t2
          have hb : opn (40 :: st) = opn st + 1 := opn_br (Or.inr (Or.inl rfl))
          have hE := cnd_ok (L := L) (xs := xs) (d := d) (st := 40 :: st) (f := rdP t n f (opn st + 1)) rfl (fun p S cd s q1 q2 => by
            have e := opn_s q1
            have := ih p S cd s q2 (goodT_s rfl q1) (by first | decide | omega)
            rw [e, hb] at this
            exact this) t2
          have hst : st ≠ [] := by
            intro e
            rw [e] at hg
            unfold goodT at hg
            simp at hg
          revert hE
          dsimp only
          cases hr : cndG t n (rdP t n f (opn st + 1)) (p + 1) with
          | inl x => exact fun hE => bad_of t1 t3 hE
          | inr x =>
            obtain ⟨q, g⟩ := x
            rintro (⟨U, pd2, g2', u0, ua, u1, u2, u3⟩ | ⟨o, hb⟩)
            · show POk L xs d t n S cd st (if cu t n q = 41 then .inr (q + 1, g) else .inl (flt 1 q))
              by_cases c4 : cu t n q = 41
              · rw [if_pos c4]
                obtain ⟨V, v1, v2, v3⟩ := CB_close (L := L) (xs := xs) (d := d) u2 c4 ua hst
                rw [List.append_assoc cd, ← u0] at v2
                exact Or.inl ⟨V, (t1.trans u1).trans v1, v2, (t3.tr u3).tr v3⟩
              · rw [if_neg c4]
                have hx := cndG_ex (rdP_mon f _) h200 hr
                exact bad_of (t1.trans u1) (t3.tr u3) (CB_fail (L := L) (xs := xs) (d := d) u2 ⟨hx.1, hx.2, c4⟩)
            · show POk L xs d t n S cd st (if cu t n q = 41 then .inr (q + 1, g) else .inl (flt 1 q))
              rw [if_neg o.2.2]
              exact bad_of t1 t3 hb
      · exact pie_flat hg H c1 c3 _ _
end
end
section
-- 90.rclause
/-! the reference reads a clause as the descent does -/
noncomputable def Kf (S S' : AH) : Prop := S'.1 = S.1 ∧ (∀ a, a ≠ 72 → ¬ (86 ≤ a ∧ a ≤ 93) → S'.2 a = S.2 a) ∧ ∀ k, k ≠ 18 → k ≠ 20 → k ≠ 21 → k ≠ 22 → k ≠ 23 → k ≠ 24 → k ≠ 26 → k ≠ 35 → S'.2 72 k = S.2 72 k
/-- the first m clauses stay -/
noncomputable def Kk (m : Nat) (S S' : AH) : Prop := ∀ a j, 86 ≤ a → a ≤ 90 → j < m → S'.2 a j = S.2 a j
section
variable {L : Nat} {xs : Nat → Int} {d : Nat} {S S' T U W : AH} {t : TB} {n p : Nat} {cd : CD} {st pd : List Int}
theorem Zf.kf (h : Zf S T) : Kf S T := ⟨h.1, fun a q1 q2 => h.2.1 a q1 (by first | decide | omega) (by first | decide | omega) (by first | decide | omega), fun k q1 q2 _ q4 q5 q6 q7 q8 => h.2.2 k q1 q2 q4 q5 q6 q7 q8⟩
theorem Kf.tr (h : Kf S T) (k : Kf T U) : Kf S U := ⟨k.1.trans h.1, fun a q1 q2 => (k.2.1 a q1 q2).trans (h.2.1 a q1 q2), fun j q1 q2 q3 q4 q5 q6 q7 q8 => (k.2.2 j q1 q2 q3 q4 q5 q6 q7 q8).trans (h.2.2 j q1 q2 q3 q4 q5 q6 q7 q8)⟩
theorem Kf.w72 {k : Nat} {v : Int} (hk : k = 18 ∨ k = 20 ∨ k = 21 ∨ k = 22 ∨ k = 23 ∨ k = 24 ∨ k = 26 ∨ k = 35) : Kf S (wr S 72 k v) := ⟨rfl, fun a q1 _ => wr_c q1, fun j q1 q2 q3 q4 q5 q6 q7 q8 => by rw [wr_f, if_neg (by first | decide | omega)]⟩
theorem Kf.wA {a k : Nat} {v : Int} (ha : 86 ≤ a ∧ a ≤ 93) : Kf S (wr S a k v) := ⟨rfl, fun b q1 q2 => wr_c (by first | decide | omega), fun j _ _ _ _ _ _ _ _ => by rw [wr_c (by first | decide | omega)]⟩
theorem Zt.kf (h : Zt t n S) (hf : Kf S S') : Zt t n S' := by
  obtain ⟨h1, h2, h3⟩ := h
  refine ⟨?_, ?_, h3⟩
  · rw [hf.2.1 73 (by decide) (by decide)]
    exact h1
  · rw [hf.2.2 19 (by decide) (by decide) (by decide) (by decide) (by decide) (by decide) (by decide) (by decide)]
    exact h2
theorem Kk.z {m : Nat} (h : Zf S T) : Kk m S T := fun a j q1 q2 _ => by rw [h.2.1 a (by first | decide | omega) (by first | decide | omega) (by first | decide | omega) (by first | decide | omega)]
theorem Kk.tr {m : Nat} (h : Kk m S T) (k : Kk m T U) : Kk m S U := fun a j q1 q2 q3 => (k a j q1 q2 q3).trans (h a j q1 q2 q3)
theorem Kk.w72 {m k : Nat} {v : Int} : Kk m S (wr S 72 k v) := fun a j q1 q2 _ => by rw [wr_c (by first | decide | omega)]
theorem Kk.wA {m a k : Nat} {v : Int} (h : m ≤ k) : Kk m S (wr S a k v) := fun b j q1 q2 q3 => by rw [wr_2, if_neg (by first | decide | omega)]
theorem m_cond (H : RD t n S p cd) : (cu t n p ≠ 40 → ∃ T, ev (WK L xs) (d + 10) 211 [vr 72] S = some (0, T) ∧ Bd S T (flt 1 p)) ∧ (cu t n p = 40 → match rdC t n (p + 1) with
    | .inl e => ∃ T, ev (WK L xs) (d + 10) 211 [vr 72] S = some (0, T) ∧ Bd S T e
    | .inr (q, g) => (cu t n q = 41 → ∃ T, ev (WK L xs) (d + 10) 211 [vr 72] S = some (0, T) ∧ RD t n T (q + 1) (cd ++ g) ∧ Zf S T) ∧ (cu t n q ≠ 41 → ∃ T, ev (WK L xs) (d + 10) 211 [vr 72] S = some (0, T) ∧ Bd S T (flt 1 q))) := by
  obtain ⟨z, ⟨h18, h20, h22⟩, ⟨b1, b2⟩, hcd⟩ := H
  have h200 := z.2.2
  have hz : Zf S (wr (wr (wr S 72 24 0) 72 23 0) 72 26 0) := ((Zf.w72 (by first | decide | omega)).tr (Zf.w72 (by first | decide | omega))).tr (Zf.w72 (by first | decide | omega))
  have H0 : RZ t n (wr (wr (wr S 72 24 0) 72 23 0) 72 26 0) p cd [] := by
    refine ⟨z.fr hz, ⟨?_, ?_, ?_, ?_, ?_, ?_⟩, ⟨b1, b2, by decide⟩, ?_, fun i c hc => by simp at hc⟩
    · rw [wr_f, if_neg (by decide), wr_f, if_neg (by decide), wr_f, if_neg (by decide), h18]
    · rw [wr_f, if_neg (by decide), wr_f, if_neg (by decide), wr_f, if_neg (by decide), h20]
    · rw [wr_f, if_neg (by decide), wr_f, if_neg (by decide), wr_f, if_neg (by decide), h22]
    · rw [wr_f, if_neg (by decide), wr_f, if_pos rfl]
      rfl
    · rw [wr_f, if_neg (by decide), wr_f, if_neg (by decide), wr_f, if_pos rfl]
      rfl
    · rw [wr_f, if_pos rfl]
    · rw [wr_c (by decide), wr_c (by decide), wr_c (by decide), wr_c (by decide), wr_c (by decide), wr_c (by decide)]
      exact hcd
  generalize hS0 : wr (wr (wr S 72 24 0) 72 23 0) 72 26 0 = S0 at H0 hz
  refine ⟨fun c => ?_, fun c => ?_⟩
  · refine ⟨wr S0 72 20 (flt 1 p), ?_, (Bd.fl (by decide) p).of hz⟩
    have hn := flt_neg (f := 1) (by decide) p
    rw [q_211, hS0, m_here H0.1 H0.2.1.1 (by first | decide | omega), bR, if_neg c, H0.2.1.1, m_fails H0.2.1.2.1 (by decide) (by first | decide | omega), bR, m_bad (by rw [wr_f, if_pos rfl]; omega), bR, if_pos rfl]
  · obtain ⟨T, t1, t2, t3, -⟩ := (m_opens (L := L) (xs := xs) (d := d + 7) H0 (Or.inr (Or.inl c))).2 (by decide)
    rw [c] at t2
    have key : ev (WK L xs) (d + 10) 211 [vr 72] S = CA L xs d T := by
      rw [q_211, hS0, m_here H0.1 H0.2.1.1 (by first | decide | omega), bR, if_pos c, m_good H0.2.1.2.1, bR, if_neg (by decide), show ev (WK L xs) (d + 9) 212 [vr 72] S0 = some (0, T) from t1, bR]
      rfl
    have o1 : opn [40] = 1 := rfl
    have hE := cnd_ok (L := L) (xs := xs) (d := d) (st := [40]) (f := rdP t n 9 1) rfl (fun p S cd s q1 q2 => by
      have e := opn_s q1
      have := pie_ok (L := L) (xs := xs) (d := d) 9 p S cd s q2 (goodT_s rfl q1) (by first | decide | omega)
      rw [e, o1] at this
      exact this) t2
    unfold rdC
    revert hE
    cases hr : cndG t n (rdP t n 9 1) (p + 1) with
    | inl e => exact fun hE => bad_of key (hz.tr t3) hE
    | inr x =>
      obtain ⟨q, g⟩ := x
      rintro (⟨U, pd2, g2', u0, ua, u1, u2, u3⟩ | ⟨o, hb⟩)
      · refine ⟨fun c4 => ?_, fun c4 => ?_⟩
        · obtain ⟨V, v1, v2, v3⟩ := CB_done (L := L) (xs := xs) (d := d) u2 c4 ua
          rw [List.append_assoc, ← u0] at v2
          exact ⟨V, (key.trans u1).trans v1, v2, ((hz.tr t3).tr u3).tr v3⟩
        · have hx := cndG_ex (rdP_mon 9 1) h200 hr
          exact bad_of (key.trans u1) ((hz.tr t3).tr u3) (CB_fail (L := L) (xs := xs) (d := d) u2 ⟨hx.1, hx.2, c4⟩)
      · exact ⟨fun c4 => absurd c4 o.2.2, fun _ => bad_of key (hz.tr t3) hb⟩
/-- what a clause leaves -/
noncomputable def KOk (L : Nat) (xs : Nat → Int) (d : Nat) (t : TB) (n : Nat) (S : AH) (cd : CD) (m : Nat) (r : Int ⊕ (Nat × CL)) : Prop := match r with
  | .inl e => ∃ T, ev (WK L xs) (d + 12) 206 [vr 72] S = some (0, T) ∧ Kf S T ∧ T.2 72 20 = e ∧ e < 0
  | .inr (q, c) => ∃ T, ev (WK L xs) (d + 12) 206 [vr 72] S = some (0, T) ∧ Kf S T ∧ RD t n T q (cd ++ c.2.2.2) ∧ T.2 72 21 = (m : Int) + 1 ∧ Kk m S T ∧ T.2 86 m = c.1 ∧ T.2 87 m = c.2.1 ∧ T.2 88 m = c.2.2.1 ∧ T.2 89 m = cd.length ∧ T.2 90 m = (cd ++ c.2.2.2).length
theorem RD.kf (H : RD t n S p cd) (hf : Kf S T) {q : Nat} (h18 : T.2 72 18 = q) (h20 : T.2 72 20 = 0) (h22 : T.2 72 22 = S.2 72 22) (h91 : T.2 91 = S.2 91) (h92 : T.2 92 = S.2 92) (hq : p ≤ q ∧ q ≤ n) : RD t n T q cd := by
  obtain ⟨z, ⟨g18, g20, g22⟩, ⟨b1, b2⟩, hcd⟩ := H
  refine ⟨z.kf hf, ⟨h18, h20, by rw [h22, g22]⟩, ⟨hq.2, by omega⟩, ?_⟩
  rw [h91, h92]
  exact hcd
/-- a clause ends -/
theorem K_end (H : RD t n T p cd) {m : Nat} (hm : m < 16) (h21 : T.2 72 21 = m) : RD t n (wr (wr T 90 m (T.2 72 22)) 72 21 (w32 (T.2 72 21 + 1))) p cd ∧ (wr (wr T 90 m (T.2 72 22)) 72 21 (w32 (T.2 72 21 + 1))).2 72 21 = (m : Int) + 1 ∧ (wr (wr T 90 m (T.2 72 22)) 72 21 (w32 (T.2 72 21 + 1))).2 90 m = cd.length ∧ Kf T (wr (wr T 90 m (T.2 72 22)) 72 21 (w32 (T.2 72 21 + 1))) ∧ Kk m T (wr (wr T 90 m (T.2 72 22)) 72 21 (w32 (T.2 72 21 + 1))) ∧ ∀ a, a ≠ 72 → a ≠ 90 → (wr (wr T 90 m (T.2 72 22)) 72 21 (w32 (T.2 72 21 + 1))).2 a = T.2 a := by
  have kf : Kf T (wr (wr T 90 m (T.2 72 22)) 72 21 (w32 (T.2 72 21 + 1))) := (Kf.wA (by first | decide | omega)).tr (Kf.w72 (by first | decide | omega))
  refine ⟨H.kf kf ?_ ?_ ?_ ?_ ?_ ⟨Nat.le_refl _, H.2.2.1.1⟩, ?_, ?_, kf, (Kk.wA (Nat.le_refl _)).tr Kk.w72, fun a q1 q2 => ?_⟩
  · rw [wr_f, if_neg (by decide), wr_c (by decide), H.2.1.1]
  · rw [wr_f, if_neg (by decide), wr_c (by decide), H.2.1.2.1]
  · rw [wr_f, if_neg (by decide), wr_c (by decide)]
  · rw [wr_c (by decide), wr_c (by decide)]
  · rw [wr_c (by decide), wr_c (by decide)]
  · rw [wr_f, if_pos rfl, h21, w32e (by first | decide | omega) (by first | decide | omega)]
  · rw [wr_c (by decide), wr_f, if_pos rfl, H.2.1.2.2]
  · rw [wr_c q1, wr_c q2]
theorem m_clause (H : RD t n S p cd) {m : Nat} (hm : m ≤ 16) (h21 : S.2 72 21 = m) {law : Bool} (h25 : S.2 72 25 = if law then 1 else 0) : KOk L xs d t n S cd m (rdK t n law m p) := by
  have H0 := H
  obtain ⟨z, ⟨h18, h20, h22⟩, ⟨b1, b2⟩, hcd⟩ := H
  have h200 := z.2.2
  have ent : ev (WK L xs) (d + 12) 206 [vr 72] S = bindR (ev (WK L xs) (d + 11) 208 [vi (cu t n p)] S) (fun r3 S4 => (if r3 = 0 then (bindR (ev (WK L xs) (d + 11) 209 [vi (cu t n p)] S4) (fun r5 S6 => (if r5 = 0 then (bindR (ev (WK L xs) (d + 11) 210 [vr 72, vi (1 : Int), vi (S6.2 72 18)] S6) (fun r7 S8 => (LQ (WK L xs) (ev (WK L xs) (d + 11)) 206 76 [some (vr 72), some (vi (cu t n p))] [] S8))) else (LQ (WK L xs) (ev (WK L xs) (d + 11)) 206 31 [some (vr 72), some (vi (cu t n p))] [] S6)))) else (LQ (WK L xs) (ev (WK L xs) (d + 11)) 206 31 [some (vr 72), some (vi (cu t n p))] [] S4))) := by
    rw [q_206, m_here z h18 (by first | decide | omega), bR]
  have badK : ∀ (f : Int), 1 ≤ f ∧ f ≤ 6 → bindR (ev (WK L xs) (d + 11) 210 [vr 72, vi f, vi (S.2 72 18)] S) (fun r7 S8 => (LQ (WK L xs) (ev (WK L xs) (d + 11)) 206 76 [some (vr 72), some (vi (cu t n p))] [] S8)) = some (0, wr S 72 20 (flt f p)) ∧ Kf S (wr S 72 20 (flt f p)) ∧ (wr S 72 20 (flt f p)).2 72 20 = flt f p ∧ flt f p < 0 := by
    intro f hf
    have hn := flt_neg hf.1 p
    have e20 : (wr S 72 20 (flt f p)).2 72 20 = flt f p := by rw [wr_f, if_pos rfl]
    refine ⟨?_, Kf.w72 (by first | decide | omega), e20, hn⟩
    rw [h18, m_fails h20 hf (by first | decide | omega), bR, q_206_76, m_bad (by first | decide | omega), bR, if_pos rfl]
  unfold rdK
  by_cases c1 : isWd (cu t n p) = false ∧ isLw (cu t n p) = false
  · rw [if_pos c1]
    obtain ⟨k1, k2⟩ := badK 1 (by decide)
    refine ⟨_, ?_, k2⟩
    rw [ent, m_words, bR]
    simp only [bi_0]
    rw [if_pos (nt c1.1), m_laws, bR]
    simp only [bi_0]
    rw [if_pos (nt c1.2)]
    exact k1
  rw [if_neg c1]
  have hne : cu t n p ≠ 0 := fun e => c1 (by rw [e]; decide)
  have hp := cu_pos hne
  have to31 : ev (WK L xs) (d + 12) 206 [vr 72] S = LQ (WK L xs) (ev (WK L xs) (d + 11)) 206 31 [some (vr 72), some (vi (cu t n p))] [] S := by
    rw [ent, m_words, bR]
    simp only [bi_0]
    by_cases c2 : isWd (cu t n p) = true
    · rw [if_neg (fun q => q c2)]
    · have c3 : isLw (cu t n p) = true := by
        by_cases c3 : isLw (cu t n p) = true
        · exact c3
        · exact absurd ⟨nf c2, nf c3⟩ c1
      rw [if_pos c2, m_laws, bR]
      simp only [bi_0]
      rw [if_neg (fun q => q c3)]
  by_cases c2 : law = false ∧ isLw (cu t n p) = true
  · rw [if_pos c2]
    obtain ⟨k1, k2⟩ := badK 6 (by decide)
    refine ⟨_, ?_, k2⟩
    rw [to31, q_206_31, h25, c2.1, if_pos (by decide), m_laws, bR]
    simp only [bi_0]
    rw [if_neg (fun q => q c2.2)]
    exact k1
  rw [if_neg c2]
  by_cases c3 : m = 16
  · rw [if_pos c3]
    obtain ⟨k1, k2⟩ := badK 4 (by decide)
    refine ⟨_, ?_, k2⟩
    rw [to31, q_206_31, h25]
    by_cases c4 : law = true
    · rw [c4, if_neg (by decide), h21, if_pos (by first | decide | omega)]
      exact k1
    · have c5 : isLw (cu t n p) = false := by
        by_cases c5 : isLw (cu t n p) = true
        · exact absurd ⟨nf c4, c5⟩ c2
        · exact nf c5
      rw [nf c4, if_pos (by decide), m_laws, bR]
      simp only [bi_0]
      rw [if_pos (nt c5), h21, if_pos (by first | decide | omega)]
      exact k1
  rw [if_neg c3]
  have to76 : ev (WK L xs) (d + 12) 206 [vr 72] S = LQ (WK L xs) (ev (WK L xs) (d + 11)) 206 76 [some (vr 72), some (vi (cu t n p))] [] S := by
    rw [to31, q_206_31, h25]
    by_cases c4 : law = true
    · rw [c4, if_neg (by decide), h21, if_neg (by first | decide | omega)]
    · have c5 : isLw (cu t n p) = false := by
        by_cases c5 : isLw (cu t n p) = true
        · exact absurd ⟨nf c4, c5⟩ c2
        · exact nf c5
      rw [nf c4, if_pos (by decide), m_laws, bR]
      simp only [bi_0]
      rw [if_pos (nt c5), h21, if_neg (by first | decide | omega)]
  have hq : (0 : Int) ≤ (m : Int) ∧ (m : Int) < 16 := by omega
  generalize hS1 : wr (wr (wr (wr (wr S 86 m (cu t n p)) 87 m 0) 88 m 0) 89 m (cd.length : Int)) 72 18 ((p + 1 : Nat) : Int) = S1
  have kS : Kf S S1 := by
    rw [← hS1]
    exact ((((Kf.wA (by first | decide | omega)).tr (Kf.wA (by first | decide | omega))).tr (Kf.wA (by first | decide | omega))).tr (Kf.wA (by first | decide | omega))).tr (Kf.w72 (by first | decide | omega))
  have kK : Kk m S S1 := by
    rw [← hS1]
    exact ((((Kk.wA (Nat.le_refl _)).tr (Kk.wA (Nat.le_refl _))).tr (Kk.wA (Nat.le_refl _))).tr (Kk.wA (Nat.le_refl _))).tr Kk.w72
  have f72 : ∀ k, k ≠ 18 → S1.2 72 k = S.2 72 k := fun k hk => by rw [← hS1, wr_f, if_neg hk, wr_c (by decide), wr_c (by decide), wr_c (by decide), wr_c (by decide)]
  have f18 : S1.2 72 18 = ((p + 1 : Nat) : Int) := by rw [← hS1, wr_f, if_pos rfl]
  have f86 : S1.2 86 m = cu t n p := by rw [← hS1, wr_c (by decide), wr_c (by decide), wr_c (by decide), wr_c (by decide), wr_f, if_pos rfl]
  have f87 : S1.2 87 m = 0 := by rw [← hS1, wr_c (by decide), wr_c (by decide), wr_c (by decide), wr_f, if_pos rfl]
  have f88 : S1.2 88 m = 0 := by rw [← hS1, wr_c (by decide), wr_c (by decide), wr_f, if_pos rfl]
  have f89 : S1.2 89 m = cd.length := by rw [← hS1, wr_c (by decide), wr_f, if_pos rfl]
  have f91 : ∀ a, 91 ≤ a → S1.2 a = S.2 a := fun a ha => by rw [← hS1, wr_c (by first | decide | omega), wr_c (by first | decide | omega), wr_c (by first | decide | omega), wr_c (by first | decide | omega), wr_c (by first | decide | omega)]
  have H1 : RD t n S1 (p + 1) cd := H0.kf kS f18 (by rw [f72 _ (by decide), h20]) (f72 _ (by decide)) (f91 91 (by decide)) (f91 92 (by decide)) (by first | decide | omega)
  have go : ev (WK L xs) (d + 12) 206 [vr 72] S = (if ¬ isWd (cu t n p) = true then (if cu t n p = 120 then (bindR (ev (WK L xs) (d + 11) 214 [vr 72, vi (19 : Int)] S1) (fun r5 S6 => (if 0 ≤ (S1.2 72 21) ∧ (S1.2 72 21) < (16 : Int) then (bindR (ev (WK L xs) (d + 11) 205 [vr 72] (wr S6 87 (S1.2 72 21).toNat r5)) (fun r7 S8 => (if r7 = 0 then (LQ (WK L xs) (ev (WK L xs) (d + 11)) 206 262 [some (vr 72), none] [] S8) else (bindR (ev (WK L xs) (d + 11) 207 [vr 72] S8) (fun r9 S10 => (if r9 = (46 : Int) then (LQ (WK L xs) (ev (WK L xs) (d + 11)) 206 262 [some (vr 72), none] [] S10) else (bindR (ev (WK L xs) (d + 11) 210 [vr 72, vi (1 : Int), vi (S10.2 72 18)] S10) (fun r11 S12 => (LQ (WK L xs) (ev (WK L xs) (d + 11)) 206 262 [some (vr 72), none] [] S12))))))))) else none))) else (if cu t n p = 109 then (LQ (WK L xs) (ev (WK L xs) (d + 11)) 206 326 [some (vr 72), none] [vi (100 : Int), vr 72, vi (S1.2 72 21), vr 87] S1) else (if cu t n p = 99 then (LQ (WK L xs) (ev (WK L xs) (d + 11)) 206 326 [some (vr 72), none] [vi (100 : Int), vr 72, vi (S1.2 72 21), vr 87] S1) else (LQ (WK L xs) (ev (WK L xs) (d + 11)) 206 326 [some (vr 72), none] [vi (999999 : Int), vr 72, vi (S1.2 72 21), vr 87] S1)))) else (bindR (ev (WK L xs) (d + 11) 211 [vr 72] S1) (fun r13 S14 => (bindR (ev (WK L xs) (d + 11) 205 [vr 72] S14) (fun r15 S16 => (if r15 = 0 then (if 0 ≤ (S16.2 72 21) ∧ (S16.2 72 21) < (16 : Int) then (some ((0 : Int), (wr (wr S16 90 (S16.2 72 21).toNat (S16.2 72 22)) 72 21 (w32 ((S16.2 72 21) + (1 : Int)))))) else none) else (if cu t n p = (115 : Int) then (bindR (ev (WK L xs) (d + 11) 207 [vr 72] S16) (fun r17 S18 => (bindR (ev (WK L xs) (d + 11) 195 [vl r17, vl (49 : Int), vl (57 : Int)] S18) (fun r19 S20 => (if r19 = 0 then (bindR (ev (WK L xs) (d + 11) 210 [vr 72, vi (1 : Int), vi (S20.2 72 18)] S20) (fun r21 S22 => (LQ (WK L xs) (ev (WK L xs) (d + 11)) 206 187 [some (vr 72), none] [] S22))) else (LQ (WK L xs) (ev (WK L xs) (d + 11)) 206 187 [some (vr 72), none] [] S20)))))) else (if 0 ≤ (S16.2 72 21) ∧ (S16.2 72 21) < (16 : Int) then (some ((0 : Int), (wr (wr S16 90 (S16.2 72 21).toNat (S16.2 72 22)) 72 21 (w32 ((S16.2 72 21) + (1 : Int)))))) else none)))))))) := by
    rw [to76, q_206_76, m_good h20, bR, if_neg (by decide), h21, if_pos hq, if_pos hq, if_pos hq, if_pos hq, Int.toNat_natCast, h22, h18, w32e (x := (p : Int) + 1) (by first | decide | omega) (by first | decide | omega), show (p : Int) + 1 = ((p + 1 : Nat) : Int) by omega, hS1, m_words, bR]
    simp only [bi_0]
  have f21 : S1.2 72 21 = m := by rw [f72 _ (by decide), h21]
  have m21 : ∀ {T : AH}, Zf S1 T → T.2 72 21 = m := fun {T} hz => by rw [hz.2.2 21 (by decide) (by decide) (by decide) (by decide) (by decide) (by decide) (by decide), f21]
  have finB : ∀ {T T' : AH} {e : Int}, Bd S1 T e → Kf T T' → T'.2 72 20 = e → ev (WK L xs) (d + 12) 206 [vr 72] S = some (0, T') → ∃ T, ev (WK L xs) (d + 12) 206 [vr 72] S = some (0, T) ∧ Kf S T ∧ T.2 72 20 = e ∧ e < 0 := fun {T T' e} hb hk h20' hE => ⟨T', hE, (kS.tr hb.1.kf).tr hk, h20', hb.2.2⟩
  by_cases c4 : isWd (cu t n p) = true
  · rw [if_pos c4]
    rw [if_neg (fun q => q c4)] at go
    have endB : ∀ {T : AH} {e : Int}, Bd S1 T e → ev (WK L xs) (d + 11) 211 [vr 72] S1 = some (0, T) → ∃ T, ev (WK L xs) (d + 12) 206 [vr 72] S = some (0, T) ∧ Kf S T ∧ T.2 72 20 = e ∧ e < 0 := by
      intro T e hb hE
      have h0 : T.2 72 20 ≠ 0 := by
        have := hb.2
        omega
      refine finB (T' := wr (wr T 90 m (T.2 72 22)) 72 21 (w32 (T.2 72 21 + 1))) hb ((Kf.wA (by first | decide | omega)).tr (Kf.w72 (by first | decide | omega))) ?_ ?_
      · rw [wr_f, if_neg (by decide), wr_c (by decide)]
        exact hb.2.1
      · rw [go, hE, bR, m_bad h0, bR, if_pos rfl, if_pos (by rw [m21 hb.1]; exact hq), show (T.2 72 21).toNat = m by rw [m21 hb.1]; rfl]
    obtain ⟨C1, C2⟩ := m_cond (L := L) (xs := xs) (d := d + 1) H1
    by_cases c5 : cu t n (p + 1) = 40
    rotate_left
    · rw [if_neg c5]
      obtain ⟨T, t1, t2⟩ := C1 c5
      exact endB t2 t1
    rw [if_pos c5]
    have hC := C2 c5
    revert hC
    rw [show p + 1 + 1 = p + 2 from rfl]
    cases hr : rdC t n (p + 2) with
    | inl e =>
      rintro ⟨T, t1, t2⟩
      exact endB t2 t1
    | inr x =>
      obtain ⟨q, g⟩ := x
      rintro ⟨D1, D2⟩
      show KOk L xs d t n S cd m (if cu t n q = 41 then (if cu t n p = 115 then (if 49 ≤ cu t n (q + 1) ∧ cu t n (q + 1) ≤ 57 then .inr (q + 2, (115, cu t n (q + 1) - 48, 0, g)) else .inl (flt 1 (q + 1))) else .inr (q + 1, (cu t n p, 0, 0, g))) else .inl (flt 1 q))
      by_cases c6 : cu t n q = 41
      rotate_left
      · rw [if_neg c6]
        obtain ⟨T, t1, t2⟩ := D2 c6
        exact endB t2 t1
      rw [if_pos c6]
      obtain ⟨T, t1, t2, t3⟩ := D1 c6
      have g21 := m21 t3
      have zz : ∀ a, 86 ≤ a → a ≤ 90 → T.2 a = S1.2 a := fun a q1 q2 => t3.2.1 a (by first | decide | omega) (by first | decide | omega) (by first | decide | omega) (by first | decide | omega)
      by_cases c7 : cu t n p = 115
      rotate_left
      · rw [if_neg c7]
        obtain ⟨e1, e2, e3, e4, e5, e6⟩ := K_end (m := m) t2 (by first | decide | omega) g21
        refine ⟨_, ?_, (kS.tr t3.kf).tr e4, e1, e2, (kK.tr (Kk.z t3)).tr e5, ?_, ?_, ?_, ?_, e3⟩
        · rw [go, show ev (WK L xs) (d + 11) 211 [vr 72] S1 = some (0, T) from t1, bR, m_good t2.2.1.2.1, bR, if_neg (by decide), if_neg c7, if_pos (by rw [g21]; exact hq), show (T.2 72 21).toNat = m by rw [g21]; rfl]
        · rw [e6 86 (by decide) (by decide), zz 86 (by decide) (by decide), f86]
        · rw [e6 87 (by decide) (by decide), zz 87 (by decide) (by decide), f87]
        · rw [e6 88 (by decide) (by decide), zz 88 (by decide) (by decide), f88]
        · rw [e6 89 (by decide) (by decide), zz 89 (by decide) (by decide), f89]
      rw [if_pos c7]
      have q1n := t2.2.2.1.1
      have go2 : ev (WK L xs) (d + 12) 206 [vr 72] S = (if ¬ (49 ≤ cu t n (q + 1) ∧ cu t n (q + 1) ≤ 57) then (bindR (ev (WK L xs) (d + 11) 210 [vr 72, vi (1 : Int), vi (T.2 72 18)] T) (fun r21 S22 => (LQ (WK L xs) (ev (WK L xs) (d + 11)) 206 187 [some (vr 72), none] [] S22))) else (LQ (WK L xs) (ev (WK L xs) (d + 11)) 206 187 [some (vr 72), none] [] T)) := by
        rw [go, show ev (WK L xs) (d + 11) 211 [vr 72] S1 = some (0, T) from t1, bR, m_good t2.2.1.2.1, bR, if_neg (by decide), if_pos c7, m_here t2.1 t2.2.1.1 (by first | decide | omega), bR, m_lies, bR]
        simp only [bi_0]
      by_cases c8 : 49 ≤ cu t n (q + 1) ∧ cu t n (q + 1) ≤ 57
      · rw [if_pos c8]
        rw [if_neg (fun z => z c8)] at go2
        have hq1 := cu_pos (t := t) (n := n) (p := q + 1) (by first | decide | omega)
        generalize hU : wr (wr T 87 m (cu t n (q + 1) - 48)) 72 18 ((q + 2 : Nat) : Int) = U
        have kU : Kf T U := by rw [← hU]; exact (Kf.wA (by first | decide | omega)).tr (Kf.w72 (by first | decide | omega))
        have kkU : Kk m T U := by rw [← hU]; exact (Kk.wA (Nat.le_refl _)).tr Kk.w72
        have U72 : ∀ k, k ≠ 18 → U.2 72 k = T.2 72 k := fun k hk => by rw [← hU, wr_f, if_neg hk, wr_c (by decide)]
        have UA : ∀ a, a ≠ 72 → a ≠ 87 → U.2 a = T.2 a := fun a q1 q2 => by rw [← hU, wr_c q1, wr_c q2]
        have U87 : U.2 87 m = cu t n (q + 1) - 48 := by rw [← hU, wr_c (by decide), wr_f, if_pos rfl]
        have HU : RD t n U (q + 2) (cd ++ g) := t2.kf kU (by rw [← hU, wr_f, if_pos rfl]) (by rw [U72 _ (by decide), t2.2.1.2.1]) (U72 _ (by decide)) (UA 91 (by decide) (by decide)) (UA 92 (by decide) (by decide)) (by first | decide | omega)
        obtain ⟨e1, e2, e3, e4, e5, e6⟩ := K_end (m := m) HU (by first | decide | omega) (by rw [U72 _ (by decide), g21])
        refine ⟨_, ?_, ((kS.tr t3.kf).tr kU).tr e4, e1, e2, ((kK.tr (Kk.z t3)).tr kkU).tr e5, ?_, ?_, ?_, ?_, e3⟩
        · rw [go2, q_206_187, m_here t2.1 t2.2.1.1 (by first | decide | omega), bR, g21, if_pos hq, if_pos hq, Int.toNat_natCast, w32e (x := cu t n (q + 1) - 48) (by first | decide | omega) (by first | decide | omega), t2.2.1.1, w32e (x := ((q + 1 : Nat) : Int) + 1) (by first | decide | omega) (by first | decide | omega), show ((q + 1 : Nat) : Int) + 1 = ((q + 2 : Nat) : Int) by omega, hU, U72 22 (by decide), U72 21 (by decide), g21]
        · rw [e6 86 (by decide) (by decide), UA 86 (by decide) (by decide), zz 86 (by decide) (by decide), f86, c7]
        · rw [e6 87 (by decide) (by decide), U87]
        · rw [e6 88 (by decide) (by decide), UA 88 (by decide) (by decide), zz 88 (by decide) (by decide), f88]
        · rw [e6 89 (by decide) (by decide), UA 89 (by decide) (by decide), zz 89 (by decide) (by decide), f89]
      · rw [if_neg c8]
        rw [if_pos c8, t2.2.1.1, m_fails t2.2.1.2.1 (by decide) (by first | decide | omega), bR] at go2
        have hb : Bd S1 (wr T 72 20 (flt 1 (q + 1))) (flt 1 (q + 1)) := (Bd.fl (by decide) (q + 1)).of t3
        have zU : Zt t n (wr T 72 20 (flt 1 (q + 1))) := t2.1.fr (Zf.w72 (by first | decide | omega))
        have u18 : (wr T 72 20 (flt 1 (q + 1))).2 72 18 = ((q + 1 : Nat) : Int) := by rw [wr_f, if_neg (by decide), t2.2.1.1]
        have u21 : (wr T 72 20 (flt 1 (q + 1))).2 72 21 = m := by rw [wr_f, if_neg (by decide), g21]
        rw [q_206_187, m_here zU u18 (by first | decide | omega), bR, u21, if_pos hq, if_pos hq] at go2
        refine finB hb ?_ ?_ go2
        · exact (((Kf.wA (by first | decide | omega)).tr (Kf.w72 (by first | decide | omega))).tr (Kf.wA (by first | decide | omega))).tr (Kf.w72 (by first | decide | omega))
        · rw [wr_f, if_neg (by decide), wr_c (by decide), wr_f, if_neg (by decide), wr_c (by decide), wr_f, if_pos rfl]
  · rw [if_neg c4]
    rw [if_pos c4, f21, Int.toNat_natCast] at go
    have z1 := H1.1
    have g20 : S1.2 72 20 = 0 := H1.2.1.2.1
    by_cases c5 : cu t n p = 120
    · rw [if_pos c5]
      rw [if_pos c5] at go
      have e262 : ∀ {X : AH} {e : Int}, X.2 72 20 = e → e < 0 → X.2 72 21 = m → ∃ Y, LQ (WK L xs) (ev (WK L xs) (d + 11)) 206 262 [some (vr 72), none] [] X = some (0, Y) ∧ Kf X Y ∧ Y.2 72 20 = e := by
        intro X e h1 h2 h3
        have a20 : (wr X 72 18 (w32 (X.2 72 18 + 1))).2 72 20 = e := by rw [wr_f, if_neg (by decide), h1]
        have a21 : (wr X 72 18 (w32 (X.2 72 18 + 1))).2 72 21 = m := by rw [wr_f, if_neg (by decide), h3]
        refine ⟨_, by rw [q_206_262, m_bad (by first | decide | omega), bR, if_pos rfl, a21, if_pos hq], ((Kf.w72 (by first | decide | omega)).tr (Kf.wA (by first | decide | omega))).tr (Kf.w72 (by first | decide | omega)), ?_⟩
        rw [wr_f, if_neg (by decide), wr_c (by decide), a20]
      have hr := m_reads (L := L) (xs := xs) (d := d + 7) 19 z1 (p := p + 1) (by first | decide | omega) f18 g20
      revert hr
      cases hN : rdN t n 19 (p + 1) with
      | inl e =>
        rintro ⟨w, T, t1, t2⟩
        have a20 : (wr T 87 m w).2 72 20 = e := by rw [wr_c (by decide)]; exact t2.2.1
        obtain ⟨Y, y1, y2, y3⟩ := e262 a20 t2.2.2 (by rw [wr_c (by decide), m21 t2.1])
        rw [show ev (WK L xs) (d + 11) 214 [vr 72, vi 19] S1 = some (w, T) from t1, bR, if_pos hq, m_bad (by have := t2.2.2; omega), bR, if_pos rfl, y1] at go
        exact finB t2 ((Kf.wA (by first | decide | omega)).tr y2) y3 go
      | inr qv =>
        obtain ⟨q, v⟩ := qv
        rintro ⟨T, t1, t2⟩
        have hq2 := rdN_lt hN
        have hqn := hq2.2 (by first | decide | omega)
        have g21 : T.2 72 21 = m := by rw [t2.2.2.1 _ (by decide), f21]
        have v20 : (wr T 87 m v).2 72 20 = 0 := by rw [wr_c (by decide), t2.2.2.1 _ (by decide), g20]
        have v18 : (wr T 87 m v).2 72 18 = q := by rw [wr_c (by decide), t2.2.2.2]
        have v21 : (wr T 87 m v).2 72 21 = m := by rw [wr_c (by decide), g21]
        have kV : Kf S1 (wr T 87 m v) := t2.zf.kf.tr (Kf.wA (by first | decide | omega))
        have zV : Zt t n (wr T 87 m v) := z1.kf kV
        rw [show ev (WK L xs) (d + 11) 214 [vr 72, vi 19] S1 = some (v, T) from t1, bR, if_pos hq, m_good v20, bR, if_neg (by decide), m_here zV v18 (by first | decide | omega), bR] at go
        show KOk L xs d t n S cd m (if cu t n q = 46 then (match rdN t n 15 (q + 1) with
          | .inl e => .inl e
          | .inr (r, u) => .inr (r, (120, v, u, []))) else .inl (flt 1 q))
        by_cases c6 : cu t n q = 46
        rotate_left
        · rw [if_neg c6]
          have hn := flt_neg (f := 1) (by decide) q
          obtain ⟨Y, y1, y2, y3⟩ := e262 (X := wr (wr T 87 m v) 72 20 (flt 1 q)) (e := flt 1 q) (by rw [wr_f, if_pos rfl]) hn (by rw [wr_f, if_neg (by decide), v21])
          rw [if_neg c6, v18, m_fails v20 (by decide) (by first | decide | omega), bR, y1] at go
          exact ⟨Y, go, ((kS.tr kV).tr (Kf.w72 (by first | decide | omega))).tr y2, y3, hn⟩
        rw [if_pos c6]
        have hqlt := cu_pos (t := t) (n := n) (p := q) (by first | decide | omega)
        generalize hV2 : wr (wr T 87 m v) 72 18 ((q + 1 : Nat) : Int) = V2
        have kV2 : Kf S1 V2 := by rw [← hV2]; exact kV.tr (Kf.w72 (by first | decide | omega))
        have kkV2 : Kk m S1 V2 := by rw [← hV2]; exact ((Kk.z t2.zf).tr (Kk.wA (Nat.le_refl _))).tr Kk.w72
        have w18 : V2.2 72 18 = ((q + 1 : Nat) : Int) := by rw [← hV2, wr_f, if_pos rfl]
        have w20 : V2.2 72 20 = 0 := by rw [← hV2, wr_f, if_neg (by decide), v20]
        have w21 : V2.2 72 21 = m := by rw [← hV2, wr_f, if_neg (by decide), v21]
        have w22 : V2.2 72 22 = S1.2 72 22 := by rw [← hV2, wr_f, if_neg (by decide), wr_c (by decide), t2.2.2.1 _ (by decide)]
        have wA : ∀ a, a ≠ 72 → a ≠ 87 → V2.2 a = S1.2 a := fun a q1 q2 => by rw [← hV2, wr_c q1, wr_c q2, t2.2.1 a q1]
        have w87 : V2.2 87 m = v := by rw [← hV2, wr_c (by decide), wr_f, if_pos rfl]
        rw [if_pos c6, q_206_262, v18, w32e (x := (q : Int) + 1) (by first | decide | omega) (by first | decide | omega), show (q : Int) + 1 = ((q + 1 : Nat) : Int) by omega, hV2, m_good w20, bR, if_neg (by decide)] at go
        have hr2 := m_reads (L := L) (xs := xs) (d := d + 7) 15 (z1.kf kV2) (p := q + 1) (by first | decide | omega) w18 w20
        revert hr2
        cases hN2 : rdN t n 15 (q + 1) with
        | inl e =>
          rintro ⟨w, T2, s1, s2⟩
          have b21 : T2.2 72 21 = m := by rw [s2.1.2.2 21 (by decide) (by decide) (by decide) (by decide) (by decide) (by decide) (by decide), w21]
          rw [show ev (WK L xs) (d + 11) 214 [vr 72, vi 15] V2 = some (w, T2) from s1, bR, w21, if_pos hq, b21, if_pos hq] at go
          refine ⟨_, go, ((kS.tr kV2).tr s2.1.kf).tr (((Kf.wA (by first | decide | omega)).tr (Kf.wA (by first | decide | omega))).tr (Kf.w72 (by first | decide | omega))), ?_, s2.2.2⟩
          rw [wr_f, if_neg (by decide), wr_c (by decide), wr_c (by decide)]
          exact s2.2.1
        | inr ru =>
          obtain ⟨r, u⟩ := ru
          rintro ⟨T2, s1, s2⟩
          have hr3 := rdN_lt hN2
          have b21 : T2.2 72 21 = m := by rw [s2.2.2.1 _ (by decide), w21]
          have kU : Kf S1 (wr T2 88 m u) := (kV2.tr s2.zf.kf).tr (Kf.wA (by first | decide | omega))
          have kkU : Kk m S1 (wr T2 88 m u) := (kkV2.tr (Kk.z s2.zf)).tr (Kk.wA (Nat.le_refl _))
          have HU : RD t n (wr T2 88 m u) r cd := H1.kf kU (by rw [wr_c (by decide), s2.2.2.2]) (by rw [wr_c (by decide), s2.2.2.1 _ (by decide), w20]) (by rw [wr_c (by decide), s2.2.2.1 _ (by decide), w22]) (by rw [wr_c (by decide), s2.2.1 _ (by decide), wA _ (by decide) (by decide)]) (by rw [wr_c (by decide), s2.2.1 _ (by decide), wA _ (by decide) (by decide)]) ⟨by omega, hr3.2 (by first | decide | omega)⟩
          obtain ⟨e1, e2, e3, e4, e5, e6⟩ := K_end (m := m) HU (by first | decide | omega) (by rw [wr_c (by decide), b21])
          rw [← List.append_nil cd] at e1
          have e3' := e3
          rw [← List.append_nil cd] at e3'
          refine ⟨_, ?_, (kS.tr kU).tr e4, e1, e2, (kK.tr kkU).tr e5, ?_, ?_, ?_, ?_, e3'⟩
          · rw [go, show ev (WK L xs) (d + 11) 214 [vr 72, vi 15] V2 = some (u, T2) from s1, bR, w21, if_pos hq, b21, if_pos hq, Int.toNat_natCast, wr_c (by decide), b21]
          · rw [e6 86 (by decide) (by decide), wr_c (by decide), s2.2.1 _ (by decide), wA _ (by decide) (by decide), f86, c5]
          · rw [e6 87 (by decide) (by decide), wr_c (by decide), s2.2.1 _ (by decide), w87]
          · rw [e6 88 (by decide) (by decide), wr_f, if_pos rfl]
          · rw [e6 89 (by decide) (by decide), wr_c (by decide), s2.2.1 _ (by decide), wA _ (by decide) (by decide), f89]
    · rw [if_neg c5]
      rw [if_neg c5] at go
      generalize hmost : (if cu t n p = 109 ∨ cu t n p = 99 then (100 : Int) else 999999) = most
      have go2 : ev (WK L xs) (d + 12) 206 [vr 72] S = LQ (WK L xs) (ev (WK L xs) (d + 11)) 206 326 [some (vr 72), none] [vi most, vr 72, vi (m : Int), vr 87] S1 := by
        rw [go, ← hmost]
        by_cases c6 : cu t n p = 109
        · rw [if_pos c6, if_pos (Or.inl c6)]
        · rw [if_neg c6]
          by_cases c7 : cu t n p = 99
          · rw [if_pos c7, if_pos (Or.inr c7)]
          · rw [if_neg c7, if_neg (by first | decide | omega)]
      have hr := m_reads (L := L) (xs := xs) (d := d + 7) most z1 (p := p + 1) (by first | decide | omega) f18 g20
      rw [q_206_326] at go2
      revert hr
      cases hN : rdN t n most (p + 1) with
      | inl e =>
        rintro ⟨w, T, t1, t2⟩
        rw [show ev (WK L xs) (d + 11) 214 [vr 72, vi most] S1 = some (w, T) from t1, bR, if_pos hq, m21 t2.1, if_pos hq] at go2
        refine finB t2 ?_ ?_ go2
        · exact ((Kf.wA (by first | decide | omega)).tr (Kf.wA (by first | decide | omega))).tr (Kf.w72 (by first | decide | omega))
        · rw [wr_f, if_neg (by decide), wr_c (by decide), wr_c (by decide)]
          exact t2.2.1
      | inr qv =>
        obtain ⟨q, v⟩ := qv
        rintro ⟨T, t1, t2⟩
        have hq2 := rdN_lt hN
        have g21 : T.2 72 21 = m := by rw [t2.2.2.1 _ (by decide), f21]
        have kU : Kf S1 (wr T 87 m v) := t2.zf.kf.tr (Kf.wA (by first | decide | omega))
        have HU : RD t n (wr T 87 m v) q cd := H1.kf kU (by rw [wr_c (by decide), t2.2.2.2]) (by rw [wr_c (by decide), t2.2.2.1 _ (by decide), g20]) (by rw [wr_c (by decide), t2.2.2.1 _ (by decide)]) (by rw [wr_c (by decide), t2.2.1 _ (by decide)]) (by rw [wr_c (by decide), t2.2.1 _ (by decide)]) ⟨by omega, hq2.2 (by first | decide | omega)⟩
        obtain ⟨e1, e2, e3, e4, e5, e6⟩ := K_end (m := m) HU (by first | decide | omega) (by rw [wr_c (by decide), g21])
        rw [← List.append_nil cd] at e1
        have e3' := e3
        rw [← List.append_nil cd] at e3'
        refine ⟨_, ?_, (kS.tr kU).tr e4, e1, e2, ((kK.tr (Kk.z t2.zf)).tr (Kk.wA (Nat.le_refl _))).tr e5, ?_, ?_, ?_, ?_, e3'⟩
        · rw [go2, show ev (WK L xs) (d + 11) 214 [vr 72, vi most] S1 = some (v, T) from t1, bR, if_pos hq, g21, if_pos hq, Int.toNat_natCast, wr_c (by decide), g21]
        · rw [e6 86 (by decide) (by decide), wr_c (by decide), t2.2.1 _ (by decide), f86]
        · rw [e6 87 (by decide) (by decide), wr_f, if_pos rfl]
        · rw [e6 88 (by decide) (by decide), wr_c (by decide), t2.2.1 _ (by decide), f88]
        · rw [e6 89 (by decide) (by decide), wr_c (by decide), t2.2.1 _ (by decide), f89]
end
end
section
-- 91.rtext
/-! the reference reads and keeps a text -/
noncomputable def RTc (S : AH) (x : TXT) : Prop := S.2 72 21 = x.length ∧ x.length ≤ 16 ∧ ∀ (j : Nat) (q : Nat × CL), x[j]? = some q → S.2 86 j = q.2.1 ∧ S.2 87 j = q.2.2.1 ∧ S.2 88 j = q.2.2.2.1 ∧ S.2 89 j = (cds x j).length ∧ S.2 90 j = (cds x (j + 1)).length
noncomputable def RTf (S : AH) (x : TXT) : Prop := RTc S x ∧ S.2 72 22 = (cds x x.length).length ∧ (cds x x.length).length ≤ 200 ∧ ∀ (i : Nat) (q : Int × Int), (cds x x.length)[i]? = some q → S.2 91 i = q.1 ∧ S.2 92 i = q.2
noncomputable def Tf (S S' : AH) : Prop := S'.1 = S.1 ∧ (∀ a, a ≠ 72 → ¬ (86 ≤ a ∧ a ≤ 93) → S'.2 a = S.2 a) ∧ ∀ k, k ≠ 1 → ¬ (18 ≤ k ∧ k ≤ 26) → k ≠ 35 → S'.2 72 k = S.2 72 k
section
variable {L : Nat} {xs : Nat → Int} {d : Nat} {S S' T U W : AH} {t : TB} {n p : Nat} {cd : CD} {st pd : List Int} {x : TXT}
theorem cds_le {a : Nat × CL} {j : Nat} (h : j ≤ x.length) : cds (x ++ [a]) j = cds x j := by
  unfold cds
  rw [List.take_append_of_le_length h]
theorem cds_all {a : Nat × CL} : cds (x ++ [a]) (x.length + 1) = cds x x.length ++ a.2.2.2.2 := by
  unfold cds
  rw [List.take_of_length_le (by rw [List.length_append, List.length_singleton]; exact Nat.le_refl _), List.take_of_length_le (Nat.le_refl _), List.map_append, List.flatten_append]
  simp
theorem rdK_16 {law : Bool} {q : Nat} {c : CL} (h : rdK t n law 16 p = .inr (q, c)) : False := by
  unfold rdK at h
  by_cases c1 : isWd (cu t n p) = false ∧ isLw (cu t n p) = false
  · rw [if_pos c1] at h
    cases h
  · rw [if_neg c1] at h
    by_cases c2 : law = false ∧ isLw (cu t n p) = true
    · rw [if_pos c2] at h
      cases h
    · rw [if_neg c2, if_pos rfl] at h
      cases h
theorem m_textL {law : Bool} (k : Nat) : ∀ (x : TXT) (p : Nat) (S : AH), x.length + k = 17 → RD t n S p (cds x x.length) → RTc S x → S.2 72 25 = (if law then 1 else 0) → match rdTL t n law k p x with
    | .inl e => ∃ T, LQ (WK L xs) (ev (WK L xs) (d + 12)) 204 45 [some (vr 72), none, none, some (vi 1)] [] S = some (e, T) ∧ Kf S T ∧ e < 0
    | .inr y => ∃ T, LQ (WK L xs) (ev (WK L xs) (d + 12)) 204 45 [some (vr 72), none, none, some (vi 1)] [] S = some (0, T) ∧ Kf S T ∧ RTf T y := by
  induction k with
  | zero =>
    intro x p S hl _ hc _
    have := hc.2.1
    omega
  | succ k ih =>
    intro x p S hl H hc h25
    have h200 := H.1.2.2
    have hK := m_clause (L := L) (xs := xs) (d := d) H hc.2.1 hc.1 h25
    have go : LQ (WK L xs) (ev (WK L xs) (d + 12)) 204 45 [some (vr 72), none, none, some (vi 1)] [] S = bindR (ev (WK L xs) (d + 12) 206 [vr 72] S) (fun r3 S4 => (bindR (ev (WK L xs) (d + 12) 205 [vr 72] S4) (fun r5 S6 => (if r5 = 0 then (LQ (WK L xs) (ev (WK L xs) (d + 12)) 204 83 [some (vr 72), none, none, none] [vi (0 : Int)] S6) else (if (S6.2 72 18) < (S6.2 72 19) then (LQ (WK L xs) (ev (WK L xs) (d + 12)) 204 83 [some (vr 72), none, none, none] [vi (1 : Int)] S6) else (LQ (WK L xs) (ev (WK L xs) (d + 12)) 204 83 [some (vr 72), none, none, none] [vi (0 : Int)] S6)))))) := by
      rw [q_204_45, if_neg (by decide), m_good H.2.1.2.1, bR, if_neg (by decide)]
    unfold rdTL
    revert hK
    cases hr : rdK t n law x.length p with
    | inl e =>
      rintro ⟨T, t1, t2, t3, t4⟩
      refine ⟨wr T 72 18 (w32 (T.2 72 18 + 1)), ?_, t2.tr (Kf.w72 (by first | decide | omega)), t4⟩
      rw [go, t1, bR, m_bad (by first | decide | omega), bR, if_pos rfl, q_204_83, if_pos rfl, q_204_45, if_pos rfl, wr_f, if_neg (by decide), t3]
    | inr y =>
      obtain ⟨q, c⟩ := y
      rintro ⟨T, t1, t2, t3, t4, t5, t6, t7, t8, t9, t10⟩
      have hx : x.length ≠ 16 := fun e => by rw [e] at hr; exact rdK_16 hr
      have hx16 := hc.2.1
      have T19 : T.2 72 19 = n := t3.1.2.1
      have e1 : cds (x ++ [(p, c)]) (x ++ [(p, c)]).length = cds x x.length ++ c.2.2.2 := by
        rw [List.length_append, List.length_singleton, cds_all]
      have HT : RD t n T q (cds (x ++ [(p, c)]) (x ++ [(p, c)]).length) := by rw [e1]; exact t3
      have CT : RTc T (x ++ [(p, c)]) := by
        refine ⟨by rw [t4, List.length_append, List.length_singleton]; omega, by rw [List.length_append, List.length_singleton]; omega, fun j y hy => ?_⟩
        have hj := (List.getElem?_eq_some_iff.mp hy).1
        rw [List.length_append, List.length_singleton] at hj
        by_cases ej : j < x.length
        · rw [List.getElem?_append_left ej] at hy
          obtain ⟨a1, a2, a3, a4, a5⟩ := hc.2.2 j y hy
          rw [t5 86 j (by decide) (by decide) ej, t5 87 j (by decide) (by decide) ej, t5 88 j (by decide) (by decide) ej, t5 89 j (by decide) (by decide) ej, t5 90 j (by decide) (by decide) ej, cds_le (by first | decide | omega), cds_le (by first | decide | omega)]
          exact ⟨a1, a2, a3, a4, a5⟩
        · have ej2 : j = x.length := by omega
          subst ej2
          rw [List.getElem?_append_right (Nat.le_refl _), Nat.sub_self] at hy
          simp only [List.getElem?_cons_zero, Option.some.injEq] at hy
          subst hy
          rw [cds_le (Nat.le_refl _), cds_all]
          exact ⟨t6, t7, t8, t9, t10⟩
      by_cases c1 : q < n
      · show match (if q < n then (if cu t n q = 59 then rdTL t n law k (q + 1) (x ++ [(p, c)]) else .inl (flt 1 q)) else .inr (x ++ [(p, c)])) with
          | .inl e => ∃ T, LQ (WK L xs) (ev (WK L xs) (d + 12)) 204 45 [some (vr 72), none, none, some (vi 1)] [] S = some (e, T) ∧ Kf S T ∧ e < 0
          | .inr y => ∃ T, LQ (WK L xs) (ev (WK L xs) (d + 12)) 204 45 [some (vr 72), none, none, some (vi 1)] [] S = some (0, T) ∧ Kf S T ∧ RTf T y
        rw [if_pos c1]
        by_cases c2 : cu t n q = 59
        · rw [if_pos c2]
          have go2 : LQ (WK L xs) (ev (WK L xs) (d + 12)) 204 45 [some (vr 72), none, none, some (vi 1)] [] S = LQ (WK L xs) (ev (WK L xs) (d + 12)) 204 45 [some (vr 72), none, none, some (vi 1)] [] (wr T 72 18 ((q + 1 : Nat) : Int)) := by
            rw [go, t1, bR, m_good t3.2.1.2.1, bR, if_neg (by decide), t3.2.1.1, T19, if_pos (by first | decide | omega), q_204_83, if_neg (by decide), m_here t3.1 t3.2.1.1 (by first | decide | omega), bR, if_pos c2, t3.2.1.1, w32e (x := (q : Int) + 1) (by first | decide | omega) (by first | decide | omega)]
            rfl
          have k72 : Kf T (wr T 72 18 ((q + 1 : Nat) : Int)) := Kf.w72 (by first | decide | omega)
          have hI := ih (x ++ [(p, c)]) (q + 1) (wr T 72 18 ((q + 1 : Nat) : Int)) (by rw [List.length_append, List.length_singleton]; omega) (HT.kf k72 (by rw [wr_f, if_pos rfl]) (by rw [wr_f, if_neg (by decide), t3.2.1.2.1]) (by rw [wr_f, if_neg (by decide)]) (by rw [wr_c (by decide)]) (by rw [wr_c (by decide)]) (by first | decide | omega)) ⟨by rw [wr_f, if_neg (by decide), CT.1], CT.2.1, fun j y hy => by rw [wr_c (by decide), wr_c (by decide), wr_c (by decide), wr_c (by decide), wr_c (by decide)]; exact CT.2.2 j y hy⟩ (by rw [wr_f, if_neg (by decide), t2.2.2 25 (by decide) (by decide) (by decide) (by decide) (by decide) (by decide) (by decide) (by decide), h25])
          rw [go2]
          revert hI
          cases rdTL t n law k (q + 1) (x ++ [(p, c)]) with
          | inl e =>
            rintro ⟨U, u1, u2, u3⟩
            exact ⟨U, u1, (t2.tr k72).tr u2, u3⟩
          | inr y =>
            rintro ⟨U, u1, u2, u3⟩
            exact ⟨U, u1, (t2.tr k72).tr u2, u3⟩
        · rw [if_neg c2]
          have hn := flt_neg (f := 1) (by decide) q
          refine ⟨wr (wr T 72 20 (flt 1 q)) 72 18 (w32 ((wr T 72 20 (flt 1 q)).2 72 18 + 1)), ?_, (t2.tr (Kf.w72 (by first | decide | omega))).tr (Kf.w72 (by first | decide | omega)), hn⟩
          have b20 : (wr (wr T 72 20 (flt 1 q)) 72 18 (w32 ((wr T 72 20 (flt 1 q)).2 72 18 + 1))).2 72 20 = flt 1 q := by rw [wr_f, if_neg (by decide), wr_f, if_pos rfl]
          rw [go, t1, bR, m_good t3.2.1.2.1, bR, if_neg (by decide), t3.2.1.1, T19, if_pos (by first | decide | omega), q_204_83, if_neg (by decide), m_here t3.1 t3.2.1.1 (by first | decide | omega), bR, if_neg c2, t3.2.1.1, m_fails t3.2.1.2.1 (by decide) (by first | decide | omega), bR, q_204_45, if_neg (by decide), m_bad (by first | decide | omega), bR, if_pos rfl, b20]
      · show match (if q < n then (if cu t n q = 59 then rdTL t n law k (q + 1) (x ++ [(p, c)]) else .inl (flt 1 q)) else .inr (x ++ [(p, c)])) with
          | .inl e => ∃ T, LQ (WK L xs) (ev (WK L xs) (d + 12)) 204 45 [some (vr 72), none, none, some (vi 1)] [] S = some (e, T) ∧ Kf S T ∧ e < 0
          | .inr y => ∃ T, LQ (WK L xs) (ev (WK L xs) (d + 12)) 204 45 [some (vr 72), none, none, some (vi 1)] [] S = some (0, T) ∧ Kf S T ∧ RTf T y
        rw [if_neg c1]
        refine ⟨wr T 72 18 (w32 (T.2 72 18 + 1)), ?_, t2.tr (Kf.w72 (by first | decide | omega)), ⟨by rw [wr_f, if_neg (by decide), CT.1], CT.2.1, fun j y hy => by rw [wr_c (by decide), wr_c (by decide), wr_c (by decide), wr_c (by decide), wr_c (by decide)]; exact CT.2.2 j y hy⟩, ?_, ?_, fun i y hy => ?_⟩
        · rw [go, t1, bR, m_good t3.2.1.2.1, bR, if_neg (by decide), T19, t3.2.1.1, if_neg (by first | decide | omega), q_204_83, if_pos rfl, q_204_45, if_pos rfl, wr_f, if_neg (by decide), t3.2.1.2.1, t3.2.1.1]
        · rw [wr_f, if_neg (by decide), HT.2.1.2.2]
        · have := HT.2.2.1
          omega
        · rw [wr_c (by decide), wr_c (by decide)]
          exact HT.2.2.2 i y hy
theorem m_readText (hn : n ≤ 200) (ht : ∀ k, k < n → iand (S.2 73 k) 255 = t k) {law : Bool} : (0 < n → match rdT t n law with
    | .inl e => ∃ T, ev (WK L xs) (d + 13) 204 [vr 72, vi (n : Int), vi (if law then 1 else 0)] S = some (e, T) ∧ Tf S T ∧ T.2 72 1 = 0 ∧ e < 0
    | .inr y => ∃ T, ev (WK L xs) (d + 13) 204 [vr 72, vi (n : Int), vi (if law then 1 else 0)] S = some (0, T) ∧ Tf S T ∧ T.2 72 1 = 0 ∧ RTf T y) ∧ (n = 0 → ∃ T, ev (WK L xs) (d + 13) 204 [vr 72, vi (n : Int), vi (if law then 1 else 0)] S = some (0, T) ∧ Tf S T ∧ T.2 72 1 = 0 ∧ RTf T []) := by
  have hb : ((if law = true then (1 : Int) else 0) = 0 ∨ (if law = true then (1 : Int) else 0) = 1) := by
    cases law
    · exact Or.inl rfl
    · exact Or.inr rfl
  generalize hlw : (if law = true then (1 : Int) else 0) = lw at hb
  generalize hS0 : wr (wr (wr (wr (wr (wr (wr S 72 1 0) 72 18 0) 72 19 (n : Int)) 72 20 0) 72 21 0) 72 22 0) 72 25 lw = S0
  have c0 : ∀ a, a ≠ 72 → S0.2 a = S.2 a := fun a ha => by rw [← hS0]; repeat rw [wr_c ha]
  have k0 : ∀ k, k ≠ 1 → k ≠ 18 → k ≠ 19 → k ≠ 20 → k ≠ 21 → k ≠ 22 → k ≠ 25 → S0.2 72 k = S.2 72 k := fun k q1 q2 q3 q4 q5 q6 q7 => by
    rw [← hS0, wr_f, if_neg q7, wr_f, if_neg q6, wr_f, if_neg q5, wr_f, if_neg q4, wr_f, if_neg q3, wr_f, if_neg q2, wr_f, if_neg q1]
  have v1 : S0.2 72 1 = 0 := by rw [← hS0]; simp [wr_f]
  have v18 : S0.2 72 18 = 0 := by rw [← hS0]; simp [wr_f]
  have v19 : S0.2 72 19 = n := by rw [← hS0]; simp [wr_f]
  have v20 : S0.2 72 20 = 0 := by rw [← hS0]; simp [wr_f]
  have v21 : S0.2 72 21 = 0 := by rw [← hS0]; simp [wr_f]
  have v22 : S0.2 72 22 = 0 := by rw [← hS0]; simp [wr_f]
  have v25 : S0.2 72 25 = lw := by rw [← hS0]; simp [wr_f]
  have tf : ∀ {T : AH}, Kf S0 T → Tf S T ∧ T.2 72 1 = 0 := fun {T} h => by
    refine ⟨⟨?_, fun a q1 q2 => by rw [h.2.1 a q1 q2, c0 a q1], fun k q1 q2 q3 => ?_⟩, ?_⟩
    · rw [h.1, ← hS0]
      rfl
    · rw [h.2.2 k (by first | decide | omega) (by first | decide | omega) (by first | decide | omega) (by first | decide | omega) (by first | decide | omega) (by first | decide | omega) (by first | decide | omega) q3, k0 k q1 (by first | decide | omega) (by first | decide | omega) (by first | decide | omega) (by first | decide | omega) (by first | decide | omega) (by first | decide | omega)]
    · rw [h.2.2 1 (by decide) (by decide) (by decide) (by decide) (by decide) (by decide) (by decide) (by decide), v1]
  have kr : Kf S0 S0 := Zf.kf Zf.rf
  have C0 : RTc S0 [] := ⟨v21, by decide, fun j q hq => by simp at hq⟩
  refine ⟨fun h0 => ?_, fun h0 => ?_⟩
  · have go : ev (WK L xs) (d + 13) 204 [vr 72, vi (n : Int), vi lw] S = LQ (WK L xs) (ev (WK L xs) (d + 12)) 204 45 [some (vr 72), none, none, some (vi 1)] [] S0 := by
      rw [q_204, if_pos hb, if_pos (by first | decide | omega), hS0]
    have H0 : RD t n S0 0 (cds [] 0) := ⟨⟨by rw [c0 73 (by decide)]; exact ht, v19, hn⟩, ⟨v18, v20, v22⟩, ⟨by omega, by decide⟩, fun i q hq => by simp [cds] at hq⟩
    have hT := m_textL (L := L) (xs := xs) (d := d) (law := law) 17 [] 0 S0 rfl H0 C0 (by rw [v25, hlw])
    rw [go]
    unfold rdT
    revert hT
    cases rdTL t n law 17 0 [] with
    | inl e =>
      rintro ⟨T, t1, t2, t3⟩
      exact ⟨T, t1, (tf t2).1, (tf t2).2, t3⟩
    | inr y =>
      rintro ⟨T, t1, t2, t3⟩
      exact ⟨T, t1, (tf t2).1, (tf t2).2, t3⟩
  · refine ⟨S0, ?_, (tf kr).1, v1, C0, v22, by decide, fun i q hq => by simp [cds] at hq⟩
    rw [q_204, if_pos hb, if_neg (by first | decide | omega), hS0, q_204_45, if_pos rfl, v20]
end
end
section
-- 92.rkeep
/-! the reference keeps a text -/
/-- only the text tt changes -/
noncomputable def TxF (tt : Nat) (S T : AH) : Prop := T.1 = S.1 ∧ (∀ a, ¬ (78 ≤ a ∧ a ≤ 85) → T.2 a = S.2 a) ∧ (∀ j, j ≠ tt → T.2 78 j = S.2 78 j) ∧ (∀ a j, 79 ≤ a → a ≤ 83 → ¬ (16 * tt ≤ j ∧ j < 16 * tt + 16) → T.2 a j = S.2 a j) ∧ ∀ a j, 84 ≤ a → a ≤ 85 → ¬ (200 * tt ≤ j ∧ j < 200 * tt + 200) → T.2 a j = S.2 a j
section
variable {L : Nat} {xs : Nat → Int} {d : Nat} {S S' T U W : AH} {x : TXT} {tt : Nat}
theorem TxF.rx (h : TxF tt S T) {t : Nat} {y : TXT} (ht : t ≠ tt) (H : RX S.2 t y) : RX T.2 t y := by
  obtain ⟨h1, h2, h3, h4, h5⟩ := h
  refine H.fr (h3 t ht) (fun j hj => ?_) (fun i hi => ?_)
  · have : ¬ (16 * tt ≤ 16 * t + j ∧ 16 * t + j < 16 * tt + 16) := by omega
    exact ⟨h4 79 _ (by decide) (by decide) this, h4 80 _ (by decide) (by decide) this, h4 81 _ (by decide) (by decide) this, h4 82 _ (by decide) (by decide) this, h4 83 _ (by decide) (by decide) this⟩
  · have : ¬ (200 * tt ≤ 200 * t + i ∧ 200 * t + i < 200 * tt + 200) := by omega
    exact ⟨h5 84 _ (by decide) (by decide) this, h5 85 _ (by decide) (by decide) this⟩
theorem m_keepL1 (ht : tt < 100) (h16 : x.length ≤ 16) (h21 : S.2 72 21 = x.length) : ∀ (m k : Nat) (T : AH), k + m = x.length → T.1 = S.1 → (∀ a, ¬ (79 ≤ a ∧ a ≤ 83) → T.2 a = S.2 a) → (∀ a j, 79 ≤ a → a ≤ 83 → T.2 a j = if 16 * tt ≤ j ∧ j < 16 * tt + k then S.2 (a + 7) (j - 16 * tt) else S.2 a j) → ∃ U, LQ (WK L xs) (ev (WK L xs) d) 230 12 [some (vr 72), some (vi (tt : Int)), some (vi (k : Int))] [] T = LQ (WK L xs) (ev (WK L xs) d) 230 113 [some (vr 72), some (vi (tt : Int)), some (vi 0)] [] U ∧ U.1 = S.1 ∧ (∀ a, ¬ (79 ≤ a ∧ a ≤ 83) → U.2 a = S.2 a) ∧ (∀ a j, 79 ≤ a → a ≤ 83 → U.2 a j = if 16 * tt ≤ j ∧ j < 16 * tt + x.length then S.2 (a + 7) (j - 16 * tt) else S.2 a j) := by
  intro m
  induction m with
  | zero =>
    intro k T hk h1 h2 h3
    refine ⟨T, ?_, h1, h2, ?_⟩
    · rw [q_230_12, h2 72 (by decide), h21, if_neg (by first | decide | omega)]
    · rw [show x.length = k by omega]
      exact h3
  | succ m ih =>
    intro k T hk h1 h2 h3
    have e1 : (k : Int) + 1 = ((k + 1 : Nat) : Int) := by omega
    have hk16 : (0 : Int) ≤ (k : Int) ∧ (k : Int) < 16 := by omega
    have ew : w32 (w32 (16 * (tt : Int)) + (k : Int)) = ((16 * tt + k : Nat) : Int) := by
      rw [w32e (x := 16 * (tt : Int)) (by first | decide | omega) (by first | decide | omega), w32e (by first | decide | omega) (by first | decide | omega)]
      omega
    have hw : (0 : Int) ≤ ((16 * tt + k : Nat) : Int) ∧ ((16 * tt + k : Nat) : Int) < 1600 := by omega
    have hI := ih (k + 1) (wr (wr (wr (wr (wr T 79 (16 * tt + k) (T.2 86 k)) 80 (16 * tt + k) (T.2 87 k)) 81 (16 * tt + k) (T.2 88 k)) 82 (16 * tt + k) (T.2 89 k)) 83 (16 * tt + k) (T.2 90 k)) (by first | decide | omega) h1 (fun a ha => by
      rw [wr_c (by first | decide | omega), wr_c (by first | decide | omega), wr_c (by first | decide | omega), wr_c (by first | decide | omega), wr_c (by first | decide | omega), h2 a ha]) (fun a j q1 q2 => by
      have h0 : a = 79 ∨ a = 80 ∨ a = 81 ∨ a = 82 ∨ a = 83 := by omega
      by_cases e : j = 16 * tt + k
      · subst e
        rw [if_pos (by first | decide | omega), show 16 * tt + k - 16 * tt = k by omega]
        rcases h0 with rfl | rfl | rfl | rfl | rfl <;> simp [wr_2, h2]
      · have h3' := h3 a j q1 q2
        have : (wr (wr (wr (wr (wr T 79 (16 * tt + k) (T.2 86 k)) 80 (16 * tt + k) (T.2 87 k)) 81 (16 * tt + k) (T.2 88 k)) 82 (16 * tt + k) (T.2 89 k)) 83 (16 * tt + k) (T.2 90 k)).2 a j = T.2 a j := by
          simp only [wr_2, e, and_false, if_false]
        rw [this, h3']
        by_cases c : 16 * tt ≤ j ∧ j < 16 * tt + k
        · rw [if_pos c, if_pos (by first | decide | omega)]
        · rw [if_neg c, if_neg (by first | decide | omega)])
    obtain ⟨U, u1, u2⟩ := hI
    refine ⟨U, ?_, u2⟩
    rw [← u1, q_230_12, h2 72 (by decide), h21, if_pos (by first | decide | omega), ew]
    simp only [if_pos hk16, if_pos hw, Int.toNat_natCast]
    rw [w32e (x := (k : Int) + 1) (by first | decide | omega) (by first | decide | omega), e1]
theorem m_keepL2 (ht : tt < 100) {c : Nat} (h16 : c ≤ 200) (h22 : S.2 72 22 = c) : ∀ (m k : Nat) (T : AH), k + m = c → T.1 = S.1 → (∀ a, ¬ (84 ≤ a ∧ a ≤ 85) → T.2 a = S.2 a) → (∀ a j, 84 ≤ a → a ≤ 85 → T.2 a j = if 200 * tt ≤ j ∧ j < 200 * tt + k then S.2 (a + 7) (j - 200 * tt) else S.2 a j) → ∃ U, LQ (WK L xs) (ev (WK L xs) d) 230 113 [some (vr 72), some (vi (tt : Int)), some (vi (k : Int))] [] T = some (0, U) ∧ U.1 = S.1 ∧ (∀ a, ¬ (84 ≤ a ∧ a ≤ 85) → U.2 a = S.2 a) ∧ (∀ a j, 84 ≤ a → a ≤ 85 → U.2 a j = if 200 * tt ≤ j ∧ j < 200 * tt + c then S.2 (a + 7) (j - 200 * tt) else S.2 a j) := by
  intro m
  induction m with
  | zero =>
    intro k T hk h1 h2 h3
    refine ⟨T, ?_, h1, h2, ?_⟩
    · rw [q_230_113, h2 72 (by decide), h22, if_neg (by first | decide | omega)]
    · rw [show c = k by omega]
      exact h3
  | succ m ih =>
    intro k T hk h1 h2 h3
    have e1 : (k : Int) + 1 = ((k + 1 : Nat) : Int) := by omega
    have hk16 : (0 : Int) ≤ (k : Int) ∧ (k : Int) < 220 := by omega
    have ew : w32 (w32 (200 * (tt : Int)) + (k : Int)) = ((200 * tt + k : Nat) : Int) := by
      rw [w32e (x := 200 * (tt : Int)) (by first | decide | omega) (by first | decide | omega), w32e (by first | decide | omega) (by first | decide | omega)]
      omega
    have hw : (0 : Int) ≤ ((200 * tt + k : Nat) : Int) ∧ ((200 * tt + k : Nat) : Int) < 20000 := by omega
    have hI := ih (k + 1) (wr (wr T 84 (200 * tt + k) (T.2 91 k)) 85 (200 * tt + k) (T.2 92 k)) (by first | decide | omega) h1 (fun a ha => by
      rw [wr_c (by first | decide | omega), wr_c (by first | decide | omega), h2 a ha]) (fun a j q1 q2 => by
      have h0 : a = 84 ∨ a = 85 := by omega
      by_cases e : j = 200 * tt + k
      · subst e
        rw [if_pos (by first | decide | omega), show 200 * tt + k - 200 * tt = k by omega]
        rcases h0 with rfl | rfl <;> simp [wr_2, h2]
      · have h3' := h3 a j q1 q2
        have : (wr (wr T 84 (200 * tt + k) (T.2 91 k)) 85 (200 * tt + k) (T.2 92 k)).2 a j = T.2 a j := by
          simp only [wr_2, e, and_false, if_false]
        rw [this, h3']
        by_cases c : 200 * tt ≤ j ∧ j < 200 * tt + k
        · rw [if_pos c, if_pos (by first | decide | omega)]
        · rw [if_neg c, if_neg (by first | decide | omega)])
    obtain ⟨U, u1, u2⟩ := hI
    refine ⟨U, ?_, u2⟩
    rw [← u1, q_230_113, h2 72 (by decide), h22, if_pos (by first | decide | omega), ew]
    simp only [if_pos hk16, if_pos hw, Int.toNat_natCast]
    rw [w32e (x := (k : Int) + 1) (by first | decide | omega) (by first | decide | omega), e1]
theorem m_keeps (ht : tt < 100) (H : RTf S x) : ∃ T, ev (WK L xs) (d + 1) 230 [vr 72, vi (tt : Int)] S = some (0, T) ∧ TxF tt S T ∧ RX T.2 tt x := by
  obtain ⟨⟨h21, h16, hcl⟩, h22, h200, hcd⟩ := H
  obtain ⟨U, u1, u2, u3, u4⟩ := m_keepL1 (L := L) (xs := xs) (d := d) (S := wr S 78 tt (S.2 72 21)) ht h16 (by rw [wr_c (by decide), h21]) x.length 0 (wr S 78 tt (S.2 72 21)) (by first | decide | omega) rfl (fun _ _ => rfl) (fun a j _ _ => by rw [if_neg (by first | decide | omega)])
  obtain ⟨V, v1, v2, v3, v4⟩ := m_keepL2 (L := L) (xs := xs) (d := d) (S := U) ht h200 (by rw [u3 72 (by decide), wr_c (by decide), h22]) (cds x x.length).length 0 U (by first | decide | omega) rfl (fun _ _ => rfl) (fun a j _ _ => by rw [if_neg (by first | decide | omega)])
  have V78 : ∀ j, V.2 78 j = if j = tt then (x.length : Int) else S.2 78 j := fun j => by rw [v3 78 (by decide), u3 78 (by decide), wr_f, h21]
  have VA : ∀ a j, 79 ≤ a → a ≤ 83 → V.2 a j = if 16 * tt ≤ j ∧ j < 16 * tt + x.length then S.2 (a + 7) (j - 16 * tt) else S.2 a j := fun a j q1 q2 => by
    rw [v3 a (by first | decide | omega), u4 a j q1 q2, wr_c (by first | decide | omega), wr_c (by first | decide | omega)]
  have VB : ∀ a j, 84 ≤ a → a ≤ 85 → V.2 a j = if 200 * tt ≤ j ∧ j < 200 * tt + (cds x x.length).length then S.2 (a + 7) (j - 200 * tt) else S.2 a j := fun a j q1 q2 => by
    rw [v4 a j q1 q2, u3 (a + 7) (by first | decide | omega), u3 a (by first | decide | omega), wr_c (by first | decide | omega), wr_c (by first | decide | omega)]
  refine ⟨V, ?_, ⟨?_, fun a ha => ?_, fun j hj => ?_, fun a j q1 q2 q3 => ?_, fun a j q1 q2 q3 => ?_⟩, ?_, h16, fun j q hq => ?_, h200, fun i q hq => ?_⟩
  · rw [q_230, if_pos (by first | decide | omega), Int.toNat_natCast]
    exact u1.trans v1
  · rw [v2, u2]
    rfl
  · rw [v3 a (by first | decide | omega), u3 a (by first | decide | omega), wr_c (by first | decide | omega)]
  · rw [V78, if_neg hj]
  · rw [VA a j q1 q2, if_neg (by first | decide | omega)]
  · rw [VB a j q1 q2, if_neg (by first | decide | omega)]
  · rw [V78, if_pos rfl]
  · have hj := (List.getElem?_eq_some_iff.mp hq).1
    have hb : 16 * tt ≤ 16 * tt + j ∧ 16 * tt + j < 16 * tt + x.length := by omega
    rw [VA 79 _ (by decide) (by decide), VA 80 _ (by decide) (by decide), VA 81 _ (by decide) (by decide), VA 82 _ (by decide) (by decide), VA 83 _ (by decide) (by decide), if_pos hb, if_pos hb, if_pos hb, if_pos hb, if_pos hb, show 16 * tt + j - 16 * tt = j by omega]
    exact hcl j q hq
  · have hi := (List.getElem?_eq_some_iff.mp hq).1
    have hb : 200 * tt ≤ 200 * tt + i ∧ 200 * tt + i < 200 * tt + (cds x x.length).length := by omega
    rw [VB 84 _ (by decide) (by decide), VB 85 _ (by decide) (by decide), if_pos hb, if_pos hb, show 200 * tt + i - 200 * tt = i by omega]
    exact hcd i q hq
end
end
