/-! the reference's reader: its small steps -/
noncomputable def Zf (S S' : AH) : Prop := S'.1 = S.1 ∧ (∀ a, a ≠ 72 → a ≠ 91 → a ≠ 92 → a ≠ 93 → S'.2 a = S.2 a) ∧ ∀ k, k ≠ 18 → k ≠ 20 → k ≠ 22 → k ≠ 23 → k ≠ 24 → k ≠ 26 → k ≠ 35 → S'.2 72 k = S.2 72 k
/-- the bytes and their end -/
noncomputable def Zt (t : TB) (n : Nat) (S : AH) : Prop := (∀ k, k < n → iand (S.2 73 k) 255 = t k) ∧ S.2 72 19 = n ∧ n ≤ 200
noncomputable def Bd (S S' : AH) (e : Int) : Prop := Zf S S' ∧ S'.2 72 20 = e ∧ e < 0
/-- how many of ( [ ! are open -/
noncomputable def opn : List Int → Nat
  | [] => 0
  | c :: s => (if c = 33 ∨ c = 40 ∨ c = 91 then 1 else 0) + opn s
/-- place, code, stack (its top first) -/
noncomputable def RZ (t : TB) (n : Nat) (S : AH) (p : Nat) (cd : CD) (st : List Int) : Prop := Zt t n S ∧ (S.2 72 18 = p ∧ S.2 72 20 = 0 ∧ S.2 72 22 = cd.length ∧ S.2 72 23 = opn st ∧ S.2 72 24 = st.length ∧ S.2 72 26 = 0) ∧ (p ≤ n ∧ cd.length + st.length ≤ p ∧ opn st ≤ 8) ∧ (∀ (i : Nat) (q : Int × Int), cd[i]? = some q → S.2 91 i = q.1 ∧ S.2 92 i = q.2) ∧ ∀ (i : Nat) (c : Int), st[i]? = some c → S.2 93 (st.length - 1 - i) = c
/-- codes without an argument -/
noncomputable def pdc (pd : List Int) : CD := pd.map fun c => (c, (0 : Int))
theorem pdc_nil : pdc [] = [] := rfl
theorem pdc_cons (c : Int) (pd : List Int) : pdc (c :: pd) = (c, 0) :: pdc pd := rfl
theorem pdc_app (a b : List Int) : pdc (a ++ b) = pdc a ++ pdc b := by unfold pdc; rw [List.map_append]
section
variable {L : Nat} {xs : Nat → Int} {d : Nat} {S S' T U W : AH} {t : TB} {n p : Nat} {cd : CD} {st : List Int}
theorem Zf.rf : Zf S S := ⟨rfl, fun _ _ _ _ _ => rfl, fun _ _ _ _ _ _ _ _ => rfl⟩
theorem Zf.tr (h : Zf S T) (k : Zf T U) : Zf S U := ⟨k.1.trans h.1, fun a q1 q2 q3 q4 => (k.2.1 a q1 q2 q3 q4).trans (h.2.1 a q1 q2 q3 q4), fun j q1 q2 q3 q4 q5 q6 q7 => (k.2.2 j q1 q2 q3 q4 q5 q6 q7).trans (h.2.2 j q1 q2 q3 q4 q5 q6 q7)⟩
theorem Zf.w72 {k : Nat} {v : Int} (hk : k = 18 ∨ k = 20 ∨ k = 22 ∨ k = 23 ∨ k = 24 ∨ k = 26 ∨ k = 35) : Zf S (wr S 72 k v) := ⟨rfl, fun a q1 _ _ _ => wr_c q1, fun j q1 q2 q3 q4 q5 q6 q7 => by rw [wr_f, if_neg (by first | decide | omega)]⟩
theorem Zf.wA {a k : Nat} {v : Int} (ha : a = 91 ∨ a = 92 ∨ a = 93) : Zf S (wr S a k v) := ⟨rfl, fun b q1 q2 q3 q4 => wr_c (by first | decide | omega), fun j _ _ _ _ _ _ _ => by rw [wr_c (by first | decide | omega)]⟩
theorem Zt.fr (h : Zt t n S) (hf : Zf S S') : Zt t n S' := by
  obtain ⟨h1, h2, h3⟩ := h
  refine ⟨?_, ?_, h3⟩
  · rw [hf.2.1 73 (by decide) (by decide) (by decide) (by decide)]
    exact h1
  · rw [hf.2.2 19 (by decide) (by decide) (by decide) (by decide) (by decide) (by decide) (by decide)]
    exact h2
theorem Bd.of (h : Zf S T) {e : Int} (k : Bd T U e) : Bd S U e := ⟨h.tr k.1, k.2⟩
theorem cu_pos (h : cu t n p ≠ 0) : p < n := by
  unfold cu at h
  by_cases q : p < n
  · exact q
  · rw [if_neg q] at h
    exact absurd rfl h
theorem m_times (c : Int) : ev (WK L xs) (d + 1) 221 [vi c] S = some (bi (isTm c = true), S) := by
  rw [q_221]
  unfold bi isTm
  simp only [decide_eq_true_eq]
  ((repeat' split) <;> first | rfl | (exfalso; omega))
theorem m_plus (c : Int) : ev (WK L xs) (d + 1) 222 [vi c] S = some (bi (isPm c = true), S) := by
  rw [q_222]
  unfold bi isPm
  simp only [decide_eq_true_eq]
  ((repeat' split) <;> first | rfl | (exfalso; omega))
theorem m_sign (c : Int) : ev (WK L xs) (d + 1) 226 [vi c] S = some (bi (isSg c = true), S) := by
  rw [q_226]
  unfold bi isSg
  simp only [decide_eq_true_eq]
  ((repeat' split) <;> first | rfl | (exfalso; omega))
theorem m_value (c : Int) : ev (WK L xs) (d + 1) 219 [vi c] S = some (bi (isVl c = true), S) := by
  rw [q_219]
  unfold bi isVl
  simp only [decide_eq_true_eq]
  ((repeat' split) <;> first | rfl | (exfalso; omega))
theorem m_words (c : Int) : ev (WK L xs) (d + 1) 208 [vi c] S = some (bi (isWd c = true), S) := by
  rw [q_208]
  unfold bi isWd
  simp only [decide_eq_true_eq]
  ((repeat' split) <;> first | rfl | (exfalso; omega))
theorem m_laws (c : Int) : ev (WK L xs) (d + 1) 209 [vi c] S = some (bi (isLw c = true), S) := by
  rw [q_209]
  unfold bi isLw
  simp only [decide_eq_true_eq]
  ((repeat' split) <;> first | rfl | (exfalso; omega))
theorem m_good (h : S.2 72 20 = 0) : ev (WK L xs) (d + 1) 205 [vr 72] S = some (1, S) := by rw [q_205, if_pos h]
theorem m_bad (h : S.2 72 20 ≠ 0) : ev (WK L xs) (d + 1) 205 [vr 72] S = some (0, S) := by rw [q_205, if_neg h]
theorem m_here (z : Zt t n S) (hp : S.2 72 18 = p) (h3 : p ≤ 300) : ev (WK L xs) (d + 1) 207 [vr 72] S = some (cu t n p, S) := by
  obtain ⟨z1, z2, z3⟩ := z
  rw [q_207, hp, z2]
  unfold cu
  by_cases q : p < n
  · rw [if_pos (by first | decide | omega), if_pos (by first | decide | omega), if_pos q, Int.toNat_natCast, z1 p q]
  · rw [if_neg (by first | decide | omega), if_neg q]
theorem m_sees (z : Zt t n S) (hp : S.2 72 18 = p) (h3 : p ≤ 300) : ev (WK L xs) (d + 2) 215 [vr 72] S = some (bi (dgt (cu t n p) = true), S) := by
  rw [q_215, m_here z hp h3, bR, m_lies, bR]
  simp only [bi_01, if_true]
  congr 2
  refine bi_iff ?_
  unfold dgt
  rw [decide_eq_true_eq]
theorem m_fails (h : S.2 72 20 = 0) {f : Int} (hf : 1 ≤ f ∧ f ≤ 6) {q : Nat} (hq : q ≤ 300) : ev (WK L xs) (d + 1) 210 [vr 72, vi f, vi (q : Int)] S = some (0, wr S 72 20 (flt f q)) := by
  rw [q_210, h, if_neg (by decide), w32e (x := -1000 * f) (by first | decide | omega) (by first | decide | omega), w32e (by first | decide | omega) (by first | decide | omega)]
  rfl
theorem m_failsB {e : Int} (h : S.2 72 20 = e) (he : e < 0) (f q : Int) : ∃ T, ev (WK L xs) (d + 1) 210 [vr 72, vi f, vi q] S = some (0, T) ∧ Zf S T ∧ T.2 72 20 = e := by
  refine ⟨_, by rw [q_210, if_pos (by first | decide | omega)], Zf.w72 (by first | decide | omega), ?_⟩
  rw [wr_f, if_pos rfl, h]
theorem flt_neg {f : Int} (hf : 1 ≤ f) (q : Nat) : flt f q < 0 := by
  unfold flt
  omega
theorem Bd.fl {f : Int} (hf : 1 ≤ f) (q : Nat) : Bd S (wr S 72 20 (flt f q)) (flt f q) := ⟨Zf.w72 (by first | decide | omega), by rw [wr_f, if_pos rfl], flt_neg hf q⟩
/-! numbers -/
theorem nds_le (k p : Nat) (v : Int) : p ≤ (nds t n k p v).1 ∧ (nds t n k p v).1 ≤ p + k := by
  induction k generalizing p v with
  | zero => unfold nds; exact ⟨Nat.le_refl _, Nat.le_refl _⟩
  | succ k ih =>
    unfold nds
    by_cases q : dgt (cu t n p) = true
    · rw [if_pos q]
      have := ih (p + 1) (10 * v + cu t n p - 48)
      omega
    · rw [if_neg q]
      exact ⟨Nat.le_refl _, by omega⟩
theorem dgt_b {c : Int} (h : dgt c = true) : 48 ≤ c ∧ c ≤ 57 := by
  unfold dgt at h
  exact of_decide_eq_true h
theorem nds_n (k p : Nat) (v : Int) (hp : p ≤ n) : (nds t n k p v).1 ≤ n := by
  induction k generalizing p v with
  | zero => unfold nds; exact hp
  | succ k ih =>
    unfold nds
    by_cases q : dgt (cu t n p) = true
    · rw [if_pos q]
      have := dgt_b q
      exact ih (p + 1) _ (cu_pos (t := t) (n := n) (by first | decide | omega))
    · rw [if_neg q]
      exact hp
noncomputable def pw10 : Nat → Int
  | 0 => 1
  | j + 1 => 10 * pw10 j
theorem pw10_b {j : Nat} (h : j ≤ 6) : pw10 j ≤ 1000000 := by
  have h0 : j = 0 ∨ j = 1 ∨ j = 2 ∨ j = 3 ∨ j = 4 ∨ j = 5 ∨ j = 6 := by omega
  rcases h0 with rfl | rfl | rfl | rfl | rfl | rfl | rfl <;> decide
/-- the place alone goes on -/
noncomputable def Plc (S T : AH) (q : Nat) : Prop := T.1 = S.1 ∧ (∀ a, a ≠ 72 → T.2 a = S.2 a) ∧ (∀ k, k ≠ 18 → T.2 72 k = S.2 72 k) ∧ T.2 72 18 = q
theorem Plc.w {q : Nat} : Plc S (wr S 72 18 (q : Int)) q := ⟨rfl, fun _ h => wr_c h, fun k h => by rw [wr_f, if_neg h], by rw [wr_f, if_pos rfl]⟩
theorem Plc.zf {q : Nat} (h : Plc S T q) : Zf S T := ⟨h.1, fun a q1 _ _ _ => h.2.1 a q1, fun k q1 _ _ _ _ _ _ => h.2.2.1 k q1⟩
theorem Plc.tr {q r : Nat} (h : Plc S T q) (k : Plc T U r) : Plc S U r := ⟨k.1.trans h.1, fun a z => (k.2.1 a z).trans (h.2.1 a z), fun j z => (k.2.2.1 j z).trans (h.2.2.1 j z), k.2.2.2⟩
theorem m_readsB (most f w : Int) {e : Int} (hb : S.2 72 20 = e) (he : e < 0) : ∃ T, LQ (WK L xs) (ev (WK L xs) (d + 1)) 214 23 [some (vr 72), some (vi most), some (vi f), some (vi w)] [] S = some (w, T) ∧ Zf S T ∧ T.2 72 20 = e := by
  rw [q_214_23, m_bad (by first | decide | omega), bR, if_pos rfl]
  by_cases q : most < w
  · obtain ⟨T, t1, t2, t3⟩ := m_failsB (L := L) (xs := xs) (d := d) hb he 3 f
    rw [if_pos q, t1, bR]
    exact ⟨T, rfl, t2, t3⟩
  · rw [if_neg q]
    exact ⟨S, rfl, Zf.rf, hb⟩
theorem m_readsL (most : Int) (f : Nat) (k : Nat) : ∀ (j : Nat) (v : Int) (S : AH), j + k = 6 → 0 ≤ v → v < pw10 j → Zt t n S → f + j ≤ n → S.2 72 18 = ((f + j : Nat) : Int) → S.2 72 20 = 0 →
    (dgt (cu t n (nds t n k (f + j) v).1) = true → ∃ w T, LQ (WK L xs) (ev (WK L xs) (d + 3)) 214 23 [some (vr 72), some (vi most), some (vi (f : Int)), some (vi v)] [] S = some (w, T) ∧ Bd S T (flt 2 (nds t n k (f + j) v).1)) ∧
    (dgt (cu t n (nds t n k (f + j) v).1) = false → most < (nds t n k (f + j) v).2 → ∃ w T, LQ (WK L xs) (ev (WK L xs) (d + 3)) 214 23 [some (vr 72), some (vi most), some (vi (f : Int)), some (vi v)] [] S = some (w, T) ∧ Bd S T (flt 3 f)) ∧
    (dgt (cu t n (nds t n k (f + j) v).1) = false → ¬ most < (nds t n k (f + j) v).2 → ∃ T, LQ (WK L xs) (ev (WK L xs) (d + 3)) 214 23 [some (vr 72), some (vi most), some (vi (f : Int)), some (vi v)] [] S = some ((nds t n k (f + j) v).2, T) ∧ Plc S T (nds t n k (f + j) v).1) := by
  have stop : ∀ (j : Nat) (v : Int) (S : AH), Zt t n S → f + j ≤ n → S.2 72 18 = ((f + j : Nat) : Int) → S.2 72 20 = 0 → dgt (cu t n (f + j)) = false → (most < v → ∃ w T, LQ (WK L xs) (ev (WK L xs) (d + 3)) 214 23 [some (vr 72), some (vi most), some (vi (f : Int)), some (vi v)] [] S = some (w, T) ∧ Bd S T (flt 3 f)) ∧ (¬ most < v → ∃ T, LQ (WK L xs) (ev (WK L xs) (d + 3)) 214 23 [some (vr 72), some (vi most), some (vi (f : Int)), some (vi v)] [] S = some (v, T) ∧ Plc S T (f + j)) := by
    intro j v S z hn hp hb hd
    have h200 := z.2.2
    rw [q_214_23, m_good hb, bR, if_neg (by decide), m_sees z hp (by first | decide | omega), bR]
    simp only [bi_0]
    rw [if_pos (by rw [hd]; decide)]
    refine ⟨fun q => ?_, fun q => ?_⟩
    · rw [if_pos q, m_fails hb (by decide) (by first | decide | omega), bR]
      exact ⟨v, _, rfl, Bd.fl (by decide) f⟩
    · rw [if_neg q]
      exact ⟨S, rfl, rfl, fun _ _ => rfl, fun _ _ => rfl, hp⟩
  induction k with
  | zero =>
    intro j v S hj v0 v1 z hn hp hb
    have h200 := z.2.2
    have b6 := pw10_b (j := j) (by first | decide | omega)
    simp only [nds]
    refine ⟨fun q => ?_, fun q => (stop j v S z hn hp hb q).1, fun q => (stop j v S z hn hp hb q).2⟩
    have hc := dgt_b q
    rw [q_214_23, m_good hb, bR, if_neg (by decide), m_sees z hp (by first | decide | omega), bR]
    simp only [bi_0]
    rw [if_neg (fun x => x q), hp, w32e (x := (f : Int) + 6) (by first | decide | omega) (by first | decide | omega), if_pos (by first | decide | omega), m_fails hb (by decide) (by first | decide | omega), bR]
    have z2 : Zt t n (wr S 72 20 (flt 2 (f + j))) := z.fr (Zf.w72 (by first | decide | omega))
    rw [q_214_57, m_here z2 (p := f + j) (by rw [wr_f, if_neg (by decide), hp]) (by first | decide | omega), bR]
    obtain ⟨T, t1, t2, t3⟩ := m_readsB (L := L) (xs := xs) (d := d + 2) (S := wr (wr S 72 20 (flt 2 (f + j))) 72 18 (w32 ((wr S 72 20 (flt 2 (f + j))).2 72 18 + 1))) most f (w32 (w32 (w32 (10 * v) + cu t n (f + j)) - 48)) (e := flt 2 (f + j)) (by rw [wr_f, if_neg (by decide), wr_f, if_pos rfl]) (flt_neg (by decide) _)
    exact ⟨_, T, t1, ((Zf.w72 (by first | decide | omega)).tr (Zf.w72 (by first | decide | omega))).tr t2, t3, flt_neg (by decide) _⟩
  | succ k ih =>
    intro j v S hj v0 v1 z hn hp hb
    have h200 := z.2.2
    have b6 := pw10_b (j := j) (by first | decide | omega)
    unfold nds
    by_cases q : dgt (cu t n (f + j)) = true
    · rw [if_pos q]
      have hc := dgt_b q
      have hlt := cu_pos (t := t) (n := n) (p := f + j) (by first | decide | omega)
      have step : LQ (WK L xs) (ev (WK L xs) (d + 3)) 214 23 [some (vr 72), some (vi most), some (vi (f : Int)), some (vi v)] [] S = LQ (WK L xs) (ev (WK L xs) (d + 3)) 214 23 [some (vr 72), some (vi most), some (vi (f : Int)), some (vi (10 * v + cu t n (f + j) - 48))] [] (wr S 72 18 ((f + (j + 1) : Nat) : Int)) := by
        rw [q_214_23, m_good hb, bR, if_neg (by decide), m_sees z hp (by first | decide | omega), bR]
        simp only [bi_0]
        rw [if_neg (fun x => x q), hp, w32e (x := (f : Int) + 6) (by first | decide | omega) (by first | decide | omega), if_neg (by first | decide | omega), q_214_57, m_here z hp (by first | decide | omega), bR, hp, w32e (x := 10 * v) (by first | decide | omega) (by first | decide | omega), w32e (x := 10 * v + cu t n (f + j)) (by first | decide | omega) (by first | decide | omega), w32e (x := 10 * v + cu t n (f + j) - 48) (by first | decide | omega) (by first | decide | omega), w32e (x := ((f + j : Nat) : Int) + 1) (by first | decide | omega) (by first | decide | omega), show ((f + j : Nat) : Int) + 1 = ((f + (j + 1) : Nat) : Int) by omega]
      rw [step]
      have hs : Zf S (wr S 72 18 ((f + (j + 1) : Nat) : Int)) := Zf.w72 (by first | decide | omega)
      have hI := ih (j + 1) (10 * v + cu t n (f + j) - 48) (wr S 72 18 ((f + (j + 1) : Nat) : Int)) (by first | decide | omega) (by first | decide | omega) (by show _ < 10 * pw10 j; omega) (z.fr hs) (by first | decide | omega) (by rw [wr_f, if_pos rfl]) (by rw [wr_f, if_neg (by decide), hb])
      rw [show f + j + 1 = f + (j + 1) from rfl]
      obtain ⟨h1, h2, h3⟩ := hI
      refine ⟨fun x => ?_, fun x y => ?_, fun x y => ?_⟩
      · obtain ⟨w, T, a, b⟩ := h1 x
        exact ⟨w, T, a, b.of hs⟩
      · obtain ⟨w, T, a, b⟩ := h2 x y
        exact ⟨w, T, a, b.of hs⟩
      · obtain ⟨T, a, b⟩ := h3 x y
        exact ⟨T, a, Plc.w.tr b⟩
    · rw [if_neg q]
      have q' : dgt (cu t n (f + j)) = false := by simpa using q
      exact ⟨fun x => absurd x q, fun x => (stop j v S z hn hp hb x).1, fun x => (stop j v S z hn hp hb x).2⟩
theorem m_reads (most : Int) (z : Zt t n S) (hn : p ≤ n) (hp : S.2 72 18 = p) (hb : S.2 72 20 = 0) : match rdN t n most p with
    | .inl e => ∃ w T, ev (WK L xs) (d + 4) 214 [vr 72, vi most] S = some (w, T) ∧ Bd S T e
    | .inr (q, v) => ∃ T, ev (WK L xs) (d + 4) 214 [vr 72, vi most] S = some (v, T) ∧ Plc S T q := by
  have h200 := z.2.2
  unfold rdN
  by_cases q : dgt (cu t n p) = false
  · rw [if_pos q]
    show ∃ w T, ev (WK L xs) (d + 4) 214 [vr 72, vi most] S = some (w, T) ∧ Bd S T (flt 1 p)
    rw [q_214, m_sees z hp (by first | decide | omega), bR]
    simp only [bi_0]
    rw [if_pos (by rw [q]; decide), hp, m_fails hb (by decide) (by first | decide | omega), bR]
    obtain ⟨T, t1, t2, t3⟩ := m_readsB (L := L) (xs := xs) (d := d + 2) (S := wr S 72 20 (flt 1 p)) most p 0 (e := flt 1 p) (by rw [wr_f, if_pos rfl]) (flt_neg (by decide) _)
    exact ⟨_, T, t1, (Zf.w72 (by first | decide | omega)).tr t2, t3, flt_neg (by decide) _⟩
  · rw [if_neg q]
    have q' : dgt (cu t n p) = true := by simpa using q
    have e : ev (WK L xs) (d + 4) 214 [vr 72, vi most] S = LQ (WK L xs) (ev (WK L xs) (d + 3)) 214 23 [some (vr 72), some (vi most), some (vi (p : Int)), some (vi 0)] [] S := by
      rw [q_214, m_sees z hp (by first | decide | omega), bR]
      simp only [bi_0]
      rw [if_neg (fun x => x q'), hp]
    rw [e]
    obtain ⟨h1, h2, h3⟩ := m_readsL (L := L) (xs := xs) (d := d) (t := t) (n := n) most p 6 0 0 S (by decide) (by decide) (by decide) z (by first | decide | omega) (by rw [hp]; rfl) hb
    simp only [Nat.add_zero] at h1 h2 h3
    by_cases c1 : dgt (cu t n (nds t n 6 p 0).1) = true
    · rw [if_pos c1]
      exact h1 c1
    · have c1' : dgt (cu t n (nds t n 6 p 0).1) = false := by simpa using c1
      rw [if_neg c1]
      by_cases c2 : most < (nds t n 6 p 0).2
      · rw [if_pos c2]
        exact h2 c1' c2
      · rw [if_neg c2]
        exact h3 c1' c2
end
