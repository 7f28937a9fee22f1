/-! the class reads a text and makes a Text of it -/
noncomputable def Yf (S T : AH) : Prop := T.1 = S.1 ∧ (∀ a, a ≠ 22 → a ≠ 23 → a ≠ 24 → T.2 a = S.2 a) ∧ ∀ k, 10 ≤ k → T.2 22 k = S.2 22 k
/-- what the reader holds of a text that stands -/
noncomputable def XT (T : AH) (x : TXT) : Prop := T.2 22 2 = x.length ∧ x.length ≤ 16 ∧ ∀ (j : Nat) (q : Nat × CL), x[j]? = some q → T.2 23 j = q.1 ∧ T.2 24 j = vlu q.2
section
variable {L : Nat} {xs : Nat → Int} {d : Nat} {S S' T U W : AH} {t : TB} {n p : Nat} {le : Int → Int} {ud : Int → Bool} {live bl : Bool}
theorem iand255 (x : Int) : 0 ≤ iand x 255 ∧ iand x 255 ≤ 255 := by
  have h2 : (BitVec.ofInt 32 x &&& BitVec.ofInt 32 (255 : Int)).toNat ≤ 255 := by
    rw [BitVec.toNat_and]
    exact Nat.le_trans Nat.and_le_right (by decide)
  have e : iand x 255 = ((BitVec.ofInt 32 x &&& BitVec.ofInt 32 (255 : Int)).toNat : Int) := by
    show (Int32.ofInt x &&& Int32.ofInt 255).toBitVec.toInt = _
    rw [show (Int32.ofInt x &&& Int32.ofInt 255).toBitVec = BitVec.ofInt 32 x &&& BitVec.ofInt 32 255 from rfl, ti32 (by first | decide | omega)]
  rw [e]
  omega
theorem FT.code {e : Int} (h : FT T e) : T.2 22 7 ≠ 0 ∧ w32 (w32 (-1000 * T.2 22 7) - T.2 22 8) = e ∧ Dead T := by
  obtain ⟨h1, f, q, h2, h3, h4, h5, h6, h7⟩ := h
  refine ⟨by omega, ?_, h1, Or.inl (by first | decide | omega)⟩
  rw [h2, h3, w32e (x := -1000 * f) (by first | decide | omega) (by first | decide | omega), w32e (by first | decide | omega) (by first | decide | omega), h7]
  rfl
theorem x_allL {law : Bool} (k : Nat) : ∀ (x : TXT) (p i : Nat) (S : AH), x.length + k = 17 → i + k = 17 → GS L xs t n le ud S p → XT S x → match rdTL t n law k p x with
    | .inl e => ∃ T, LQ (WK L xs) (ev (WK L xs) (d + 72)) 135 15 [some (vr 22), none, none, some (vi (lv law)), some (vi (i : Int))] [] S = some (e, T) ∧ Xf S T
    | .inr y => ∃ T, LQ (WK L xs) (ev (WK L xs) (d + 72)) 135 15 [some (vr 22), none, none, some (vi (lv law)), some (vi (i : Int))] [] S = some (0, T) ∧ Xf S T ∧ XT T y := by
  induction k with
  | zero =>
    intro x p i S hl _ _ hc
    have := hc.2.1
    omega
  | succ k ih =>
    intro x p i S hl hi H hc
    have hK := x_clause (L := L) (xs := xs) (d := d) H hc.2.1 hc.1 (law := law)
    have e1 : w32 ((i : Int) + 1) = ((i + 1 : Nat) : Int) := by
      rw [w32e (by first | decide | omega) (by first | decide | omega)]
      rfl
    have go : LQ (WK L xs) (ev (WK L xs) (d + 72)) 135 15 [some (vr 22), none, none, some (vi (lv law)), some (vi (i : Int))] [] S = bindR (ev (WK L xs) (d + 72) 138 [vr 22, vi (lv law)] S) (fun r1 S2 => (if (S2.2 22 4) < (S2.2 22 5) then (bindR (ev (WK L xs) (d + 72) 145 [vr 22, vi (59 : Int)] S2) (fun r3 S4 => (LQ (WK L xs) (ev (WK L xs) (d + 72)) 135 15 [some (vr 22), none, none, some (vi (lv law)), some (vi ((i + 1 : Nat) : Int))] [] S4))) else (if (S2.2 22 7) = 0 then (some ((0 : Int), S2)) else (some ((w32 ((w32 ((-1000 : Int) * (S2.2 22 7))) - (S2.2 22 8))), S2))))) := by
      rw [q_135_15, if_neg (by first | decide | omega), if_pos H.2.2.2.2.1, e1]
    have stop : ∀ {T : AH} {e : Int} (j : Nat), FT T e → j ≤ 17 → LQ (WK L xs) (ev (WK L xs) (d + 72)) 135 15 [some (vr 22), none, none, some (vi (lv law)), some (vi (j : Int))] [] T = some (e, T) := by
      intro T e j hF hj
      obtain ⟨f1, f2, -⟩ := hF.code
      rw [q_135_15]
      by_cases q : (16 : Int) < (j : Int)
      · rw [if_pos q, if_neg f1, f2]
      · rw [if_neg q, if_neg f1, if_neg f1, f2]
    unfold rdTL
    revert hK
    cases hr : rdK t n law x.length p with
    | inl e =>
      rintro ⟨T, t1, t2, t3⟩
      refine ⟨T, ?_, t2⟩
      obtain ⟨f1, f2, f3⟩ := t3.code
      rw [go, t1, bR]
      by_cases q : T.2 22 4 < T.2 22 5
      · rw [if_pos q, x_expectD f3 (by decide), bR]
        exact stop (i + 1) t3 (by first | decide | omega)
      · rw [if_neg q, if_neg f1, f2]
    | inr y =>
      obtain ⟨q, c⟩ := y
      rintro ⟨T, t1, t2, t3, t4, t5, t6, t7⟩
      have hx : x.length ≠ 16 := fun e => by rw [e] at hr; exact rdK_16 hr
      have hx16 := hc.2.1
      have T5 : T.2 22 5 = n := t3.1.2.2.1
      have CT : XT T (x ++ [(p, c)]) := by
        refine ⟨by rw [t4, List.length_append, List.length_singleton]; omega, by rw [List.length_append, List.length_singleton]; omega, fun j y hy => ?_⟩
        have hj := (List.getElem?_eq_some_iff.mp hy).1
        rw [List.length_append, List.length_singleton] at hj
        by_cases ej : j < x.length
        · rw [List.getElem?_append_left ej] at hy
          rw [t5 23 j (by first | decide | omega) ej, t5 24 j (by first | decide | omega) ej]
          exact hc.2.2 j y hy
        · have ej2 : j = x.length := by omega
          subst ej2
          rw [List.getElem?_append_right (Nat.le_refl _), Nat.sub_self] at hy
          simp only [List.getElem?_cons_zero, Option.some.injEq] at hy
          subst hy
          exact ⟨t6, t7⟩
      rw [t1, bR, t3.2.2.1, T5] at go
      show match (if q < n then (if cu t n q = 59 then rdTL t n law k (q + 1) (x ++ [(p, c)]) else .inl (flt 1 q)) else .inr (x ++ [(p, c)])) with
          | .inl e => ∃ T, LQ (WK L xs) (ev (WK L xs) (d + 72)) 135 15 [some (vr 22), none, none, some (vi (lv law)), some (vi (i : Int))] [] S = some (e, T) ∧ Xf S T
          | .inr y => ∃ T, LQ (WK L xs) (ev (WK L xs) (d + 72)) 135 15 [some (vr 22), none, none, some (vi (lv law)), some (vi (i : Int))] [] S = some (0, T) ∧ Xf S T ∧ XT T y
      by_cases c1 : q < n
      · rw [if_pos c1]
        rw [if_pos (by first | decide | omega)] at go
        obtain ⟨e2, e3⟩ := x_expect (L := L) (xs := xs) (d := d + 70) t3 (c := 59) (by decide)
        by_cases c2 : cu t n q = 59
        · rw [if_pos c2]
          obtain ⟨V, v1, v2, v3⟩ := e2 c2
          rw [show ev (WK L xs) (d + 72) 145 [vr 22, vi 59] T = some (0, V) from v1, bR] at go
          have CV : XT V (x ++ [(p, c)]) := by
            refine ⟨by rw [v3.2.2 2 (by first | decide | omega), CT.1], CT.2.1, fun j y hy => ?_⟩
            rw [v3.2.1 23 (by decide), v3.2.1 24 (by decide)]
            exact CT.2.2 j y hy
          have hI := ih (x ++ [(p, c)]) (q + 1) (i + 1) V (by rw [List.length_append, List.length_singleton]; omega) (by first | decide | omega) v2 CV
          rw [go]
          revert hI
          cases rdTL t n law k (q + 1) (x ++ [(p, c)]) with
          | inl e =>
            rintro ⟨U, u1, u2⟩
            exact ⟨U, u1, (t2.tr v3.xf).tr u2⟩
          | inr y =>
            rintro ⟨U, u1, u2, u3⟩
            exact ⟨U, u1, (t2.tr v3.xf).tr u2, u3⟩
        · rw [if_neg c2]
          obtain ⟨V, v1, v2⟩ := e3 c2
          rw [show ev (WK L xs) (d + 72) 145 [vr 22, vi 59] T = some (0, V) from v1, bR] at go
          exact ⟨V, by rw [go]; exact stop (i + 1) v2.ft (by first | decide | omega), t2.tr v2.1.xf⟩
      · rw [if_neg c1]
        rw [if_neg (by first | decide | omega), if_pos t3.2.2.2.2.1] at go
        exact ⟨T, go, t2, CT⟩
theorem x_readAll {b len : Nat} (hn : n ≤ 200) (ht : ∀ k, 0 ≤ t k ∧ t k ≤ 255) (hb : b ≠ 22 ∧ b ≠ 23 ∧ b ≠ 24) (hs : shp (WK L xs) S b = (0, len)) (hl : n ≤ len) (hr : ∀ k, k < n → iand (rdv (WK L xs) S b k) 255 = t k) {law : Bool} : match rdT t n law with
    | .inl e => ∃ T, ev (WK L xs) (d + 73) 135 [vr 22, vr b, vi (n : Int), vi (lv law)] S = some (e, T) ∧ Yf S T
    | .inr y => ∃ T, ev (WK L xs) (d + 73) 135 [vr 22, vr b, vi (n : Int), vi (lv law)] S = some (0, T) ∧ Yf S T ∧ XT T y ∧ T.2 22 3 = b ∧ T.2 22 5 = n := by
  generalize hS0 : wr (wr (wr (wr (wr (wr S 22 3 (b : Int)) 22 4 (-1)) 22 5 (n : Int)) 22 7 0) 22 8 0) 22 9 0 = S0
  have c0 : ∀ a, a ≠ 22 → S0.2 a = S.2 a := fun a ha => by rw [← hS0]; repeat rw [wr_c ha]
  have s0 : S0.1 = S.1 := by rw [← hS0]; rfl
  have k0 : ∀ k, 10 ≤ k → S0.2 22 k = S.2 22 k := fun k hk => by
    rw [← hS0, wr_f, if_neg (by first | decide | omega), wr_f, if_neg (by first | decide | omega), wr_f, if_neg (by first | decide | omega), wr_f, if_neg (by first | decide | omega), wr_f, if_neg (by first | decide | omega), wr_f, if_neg (by first | decide | omega)]
  have B0 : RB L xs t n S0 := ⟨hn, ht, by rw [← hS0]; simp [wr_f], b, len, by rw [← hS0]; simp [wr_f], hb.1, hb.2.1, hb.2.2, by rw [shp_fr s0, hs], hl, fun k hk => by rw [rdv_fr (c0 b hb.1)]; exact hr k hk⟩
  obtain ⟨T, t1, t2, t3⟩ := x_step0 (L := L) (xs := xs) (d := d + 70) (S := S0) (le := fun c => if c = 97 then S0.2 26 0 else if c = 121 then S0.2 26 1 else if c = 104 then S0.2 26 2 else if c = 107 then S0.2 26 3 else if c = 114 then S0.2 26 4 else if c = 113 then S0.2 26 5 else S0.2 26 6) (ud := fun N => decide (¬ lcmp (land (lushr (S0.2 22 11) N) 1) 0 = 0)) B0 ⟨⟨rfl, rfl, rfl, rfl, rfl, rfl, rfl⟩, fun N _ _ => by rw [decide_eq_false_iff_not, Decidable.not_not]⟩ (q := 0) (by rw [← hS0]; simp [wr_f]) (Nat.zero_le _) (by rw [← hS0]; simp [wr_f]) (by rw [← hS0]; simp [wr_f])
  have x2 : Xf T (wr T 22 2 0) := Xf.w2
  have H0 := t2.xf x2 (fun k hk => by rw [wr_f, if_neg (by first | decide | omega)])
  have go : ev (WK L xs) (d + 73) 135 [vr 22, vr b, vi (n : Int), vi (lv law)] S = LQ (WK L xs) (ev (WK L xs) (d + 72)) 135 15 [some (vr 22), none, none, some (vi (lv law)), some (vi ((0 : Nat) : Int))] [] (wr T 22 2 0) := by
    rw [q_135, q_136, show w32 ((0 : Int) - 1) = -1 from by decide, hS0, show ev (WK L xs) (d + 71) 137 [vr 22] S0 = some (0, T) from t1, bR, bR]
    rfl
  have yf : ∀ {X : AH}, Xf (wr T 22 2 0) X → Yf S X := fun {X} h => by
    refine ⟨?_, fun a q1 q2 q3 => ?_, fun k hk => ?_⟩
    · rw [h.1]
      show T.1 = S.1
      rw [t3.1, s0]
    · rw [h.2.1 a q1 q2 q3, wr_c q1, t3.2.1 a q1, c0 a q1]
    · rw [h.2.2 k (by first | decide | omega) (by first | decide | omega), wr_f, if_neg (by first | decide | omega), t3.2.2 k (by first | decide | omega), k0 k hk]
  have f3 : ∀ {X : AH}, Xf (wr T 22 2 0) X → X.2 22 3 = b ∧ X.2 22 5 = n := fun {X} h => by
    rw [h.2.2 3 (by first | decide | omega) (by decide), h.2.2 5 (by first | decide | omega) (by decide), wr_f, if_neg (by decide), wr_f, if_neg (by decide), t3.2.2 3 (by first | decide | omega), t3.2.2 5 (by first | decide | omega), ← hS0]
    simp [wr_f]
  have hA := x_allL (L := L) (xs := xs) (d := d) (law := law) 17 [] 0 0 (wr T 22 2 0) rfl rfl H0 ⟨by rw [wr_f, if_pos rfl]; rfl, by decide, fun j q hq => by simp at hq⟩
  rw [go]
  unfold rdT
  revert hA
  cases rdTL t n law 17 0 [] with
  | inl e =>
    rintro ⟨X, y1, y2⟩
    exact ⟨X, y1, yf y2⟩
  | inr y =>
    rintro ⟨X, y1, y2, y3⟩
    exact ⟨X, y1, yf y2, y3, f3 y2⟩
/-- a copy of a row -/
theorem x_copyI (i1 : 151 ≤ S.1.1) {a m : Nat} (ha : a = 23 ∨ a = 24) (hm : m ≤ 16) : ∃ T, ev (WK L xs) (d + 1) 333 [vr a, vi (m : Int)] S = some ((S.1.1 : Int), T) ∧ T.1.1 = S.1.1 + 1 ∧ T.1.2.1 = S.1.2.1 + m ∧ T.1.2.2 S.1.1 = (2, m) ∧ (∀ c, c < S.1.1 → T.1.2.2 c = S.1.2.2 c ∧ T.2 c = S.2 c) ∧ ∀ j, j < m → T.2 S.1.1 j = S.2 a j := by
  have sa : shp (WK L xs) S a = (2, 16) := by rcases ha with rfl | rfl <;> rfl
  have ra : ∀ X : AH, ∀ j, rdv (WK L xs) X a j = X.2 a j := fun X j => by rcases ha with rfl | rfl <;> rfl
  rw [q_333, sa, show Nat.ble ((2, 16) : Nat × Nat).1 6 = true from rfl, gdT]
  by_cases q : m = 16
  · subst q
    refine ⟨nwc S 2 16 (rdv (WK L xs) S a), ?_, rfl, rfl, ?_, fun c hc => ⟨?_, ?_⟩, fun j hj => ?_⟩
    · rw [if_pos (show ((16 : Nat) : Int) = ((((2, 16) : Nat × Nat).2 : Nat) : Int) from rfl)]
      have g1 : (Nat.beq ((2, 16) : Nat × Nat).1 2 && (Nat.beq 2 0 || Nat.beq 2 2) && Nat.ble 0 8 && Nat.ble 15 a) = true := by rcases ha with rfl | rfl <;> rfl
      have g2 : (Nat.beq (shp (WK L xs) (nwc S 2 16 (rdv (WK L xs) S a)) S.1.1).1 2 && Nat.ble 15 S.1.1) = true := by
        rw [shpD i1, show (nwc S 2 16 (rdv (WK L xs) S a)).1.2.2 S.1.1 = (2, 16) by show (if S.1.1 = S.1.1 then ((2, 16) : Nat × Nat) else S.1.2.2 S.1.1) = _; rw [if_pos rfl]]
        simp only [Nat.beq_eq_true_eq, Bool.and_eq_true, Nat.ble_eq]
        exact ⟨rfl, by omega⟩
      refine gd_go g1 (gd_go g2 rfl)
    · show (if S.1.1 = S.1.1 then ((2, 16) : Nat × Nat) else S.1.2.2 S.1.1) = _
      rw [if_pos rfl]
    · show (if c = S.1.1 then ((2, 16) : Nat × Nat) else S.1.2.2 c) = _
      rw [if_neg (by first | decide | omega)]
    · show (if c = S.1.1 then (rdv (WK L xs) S a) else S.2 c) = _
      rw [if_neg (by first | decide | omega)]
    · show (if S.1.1 = S.1.1 then (rdv (WK L xs) S a) else S.2 S.1.1) j = _
      rw [if_pos rfl, ra]
  · have hne : ¬ ((m : Int) = ((((2, 16) : Nat × Nat).2 : Nat) : Int)) := fun z => q (by have : (m : Int) = 16 := z; omega)
    rw [if_neg hne, if_pos (by first | decide | omega), Int.toNat_natCast]
    have sa2 : shp (WK L xs) (nw S 2 m) a = (2, 16) := by rcases ha with rfl | rfl <;> rfl
    have sn : shp (WK L xs) (nw S 2 m) S.1.1 = (2, m) := by
      rw [shpD i1]
      show (if S.1.1 = S.1.1 then ((2, m) : Nat × Nat) else S.1.2.2 S.1.1) = _
      rw [if_pos rfl]
    have mn : min (((2, 16) : Nat × Nat).2 : Int) (m : Int) = (m : Int) := by
      show min (16 : Int) (m : Int) = (m : Int)
      omega
    refine ⟨wrA (nw S 2 m) S.1.1 (cpyF (rdv (WK L xs) (nw S 2 m) a) (rdv (WK L xs) (nw S 2 m) S.1.1) 0 0 m), ?_, rfl, rfl, ?_, fun c hc => ⟨?_, ?_⟩, fun j hj => ?_⟩
    · rw [sa2, show Nat.ble ((2, 16) : Nat × Nat).1 6 = true from rfl, gdT, sn, mn, Int.toNat_natCast]
      have g2 : (Nat.beq ((2, 16) : Nat × Nat).1 ((2, m) : Nat × Nat).1 && (Nat.beq ((2, 16) : Nat × Nat).1 0 || Nat.beq ((2, 16) : Nat × Nat).1 2) && wokF (WK L xs) S.1.1 && !(Nat.beq a S.1.1)) = true := by
        rw [wokFD i1, show Nat.beq a S.1.1 = false by
          cases hb : Nat.beq a S.1.1 with
          | false => rfl
          | true => have := Nat.eq_of_beq_eq_true hb; omega]
        rfl
      refine gd_go g2 ?_
      rw [if_pos (show 0 ≤ (m : Int) ∧ (0 : Int) ≤ 0 ∧ (0 : Int) ≤ 0 ∧ 0 + (m : Int) ≤ ((((2, 16) : Nat × Nat).2 : Nat) : Int) ∧ 0 + (m : Int) ≤ ((((2, m) : Nat × Nat).2 : Nat) : Int) from ⟨by omega, by decide, by decide, by show 0 + (m : Int) ≤ 16; omega, by show 0 + (m : Int) ≤ (m : Int); omega⟩)]
    · show (if S.1.1 = S.1.1 then ((2, m) : Nat × Nat) else S.1.2.2 S.1.1) = _
      rw [if_pos rfl]
    · show (if c = S.1.1 then ((2, m) : Nat × Nat) else S.1.2.2 c) = _
      rw [if_neg (by first | decide | omega)]
    · show (if c = S.1.1 then _ else (nw S 2 m).2 c) = _
      rw [if_neg (by first | decide | omega)]
      show (if c = S.1.1 then _ else S.2 c) = _
      rw [if_neg (by first | decide | omega)]
    · show (if S.1.1 = S.1.1 then cpyF (rdv (WK L xs) (nw S 2 m) a) (rdv (WK L xs) (nw S 2 m) S.1.1) 0 0 m else (nw S 2 m).2 S.1.1) j = _
      rw [if_pos rfl]
      unfold cpyF
      rw [if_pos (by first | decide | omega), ra, show 0 + (j - 0) = j by omega, nw_2, if_neg (by first | decide | omega)]
theorem x_copyB (i1 : 151 ≤ S.1.1) {m : Nat} (hm : m ≤ 200) : ∃ T, ev (WK L xs) (d + 1) 332 [vr 16, vi (m : Int)] S = some ((S.1.1 : Int), T) ∧ T.1.1 = S.1.1 + 1 ∧ T.1.2.1 = S.1.2.1 + m ∧ T.1.2.2 S.1.1 = (0, m) ∧ (∀ c, c < S.1.1 → T.1.2.2 c = S.1.2.2 c ∧ T.2 c = S.2 c) ∧ ∀ j, T.2 S.1.1 j = if j < m then S.2 16 j else 0 := by
  have sa : shp (WK L xs) S 16 = (0, 400) := rfl
  have ra : ∀ X : AH, ∀ j, rdv (WK L xs) X 16 j = X.2 16 j := fun X j => rfl
  rw [q_332, sa, show Nat.ble ((0, 400) : Nat × Nat).1 6 = true from rfl, gdT]
  have hne : ¬ ((m : Int) = ((((0, 400) : Nat × Nat).2 : Nat) : Int)) := fun z => by have : (m : Int) = 400 := z; omega
  rw [if_neg hne, if_pos (by first | decide | omega), Int.toNat_natCast]
  have sa2 : shp (WK L xs) (nw S 0 m) 16 = (0, 400) := rfl
  have sn : shp (WK L xs) (nw S 0 m) S.1.1 = (0, m) := by
    rw [shpD i1]
    show (if S.1.1 = S.1.1 then ((0, m) : Nat × Nat) else S.1.2.2 S.1.1) = _
    rw [if_pos rfl]
  have mn : min (((0, 400) : Nat × Nat).2 : Int) (m : Int) = (m : Int) := by
    show min (400 : Int) (m : Int) = (m : Int)
    omega
  refine ⟨wrA (nw S 0 m) S.1.1 (cpyF (rdv (WK L xs) (nw S 0 m) 16) (rdv (WK L xs) (nw S 0 m) S.1.1) 0 0 m), ?_, rfl, rfl, ?_, fun c hc => ⟨?_, ?_⟩, fun j => ?_⟩
  · rw [sa2, show Nat.ble ((0, 400) : Nat × Nat).1 6 = true from rfl, gdT, sn, mn, Int.toNat_natCast]
    have g2 : (Nat.beq ((0, 400) : Nat × Nat).1 ((0, m) : Nat × Nat).1 && (Nat.beq ((0, 400) : Nat × Nat).1 0 || Nat.beq ((0, 400) : Nat × Nat).1 2) && wokF (WK L xs) S.1.1 && !(Nat.beq 16 S.1.1)) = true := by
      rw [wokFD i1, show Nat.beq 16 S.1.1 = false by
        cases hb : Nat.beq 16 S.1.1 with
        | false => rfl
        | true => have := Nat.eq_of_beq_eq_true hb; omega]
      rfl
    refine gd_go g2 ?_
    rw [if_pos (show 0 ≤ (m : Int) ∧ (0 : Int) ≤ 0 ∧ (0 : Int) ≤ 0 ∧ 0 + (m : Int) ≤ ((((0, 400) : Nat × Nat).2 : Nat) : Int) ∧ 0 + (m : Int) ≤ ((((0, m) : Nat × Nat).2 : Nat) : Int) from ⟨by omega, by decide, by decide, by show 0 + (m : Int) ≤ 400; omega, by show 0 + (m : Int) ≤ (m : Int); omega⟩)]
  · show (if S.1.1 = S.1.1 then ((0, m) : Nat × Nat) else S.1.2.2 S.1.1) = _
    rw [if_pos rfl]
  · show (if c = S.1.1 then ((0, m) : Nat × Nat) else S.1.2.2 c) = _
    rw [if_neg (by first | decide | omega)]
  · show (if c = S.1.1 then _ else (nw S 0 m).2 c) = _
    rw [if_neg (by first | decide | omega)]
    show (if c = S.1.1 then _ else S.2 c) = _
    rw [if_neg (by first | decide | omega)]
  · show (if S.1.1 = S.1.1 then cpyF (rdv (WK L xs) (nw S 0 m) 16) (rdv (WK L xs) (nw S 0 m) S.1.1) 0 0 m else (nw S 0 m).2 S.1.1) j = _
    rw [if_pos rfl]
    unfold cpyF
    by_cases q : j < m
    · rw [if_pos (by first | decide | omega), if_pos q, ra, show 0 + (j - 0) = j by omega, nw_2, if_neg (by first | decide | omega)]
    · rw [if_neg (by first | decide | omega), if_neg q, rdvD i1, nw_2, if_pos rfl]
theorem x_textRead {n : Nat} {x : TXT} (i1 : 151 ≤ S.1.1) (hn : n ≤ 200) (h3 : S.2 22 3 = 16) (h5 : S.2 22 5 = n) (hX : XT S x) : ∃ T, ev (WK L xs) (d + 2) 154 [vr 22] S = some ((S.1.1 : Int), T) ∧ T.1.1 = S.1.1 + 4 ∧ T.1.2.1 = S.1.2.1 + 3 + n + x.length + x.length ∧ (∀ c, c < S.1.1 → T.1.2.2 c = S.1.2.2 c ∧ T.2 c = S.2 c) ∧ (T.1.2.2 S.1.1 = (19, 3) ∧ T.1.2.2 (S.1.1 + 1) = (0, n) ∧ T.1.2.2 (S.1.1 + 2) = (2, x.length) ∧ T.1.2.2 (S.1.1 + 3) = (2, x.length)) ∧ (T.2 S.1.1 0 = ((S.1.1 + 1 : Nat) : Int) ∧ T.2 S.1.1 1 = ((S.1.1 + 2 : Nat) : Int) ∧ T.2 S.1.1 2 = ((S.1.1 + 3 : Nat) : Int)) ∧ (∀ j, T.2 (S.1.1 + 1) j = if j < n then S.2 16 j else 0) ∧ ∀ j, j < x.length → T.2 (S.1.1 + 2) j = S.2 23 j ∧ T.2 (S.1.1 + 3) j = S.2 24 j := by
  obtain ⟨x1, x2, -⟩ := hX
  have n1 : (nw S 19 3).1.1 = S.1.1 + 1 := rfl
  have lo : ∀ c k, c < S.1.1 → (nw S 19 3).2 c k = S.2 c k := fun c k hc => by rw [nw_2, if_neg (by first | decide | omega)]
  obtain ⟨A, a1, a2, a3, a4, a5, a6⟩ := x_copyB (L := L) (xs := xs) (d := d) (S := nw S 19 3) (by first | decide | omega) hn
  obtain ⟨B, b1, b2, b3, b4, b5, b6⟩ := x_copyI (L := L) (xs := xs) (d := d) (S := A) (by first | decide | omega) (a := 23) (by first | decide | omega) x2
  obtain ⟨C, c1, c2, c3, c4, c5, c6⟩ := x_copyI (L := L) (xs := xs) (d := d) (S := B) (by first | decide | omega) (a := 24) (by first | decide | omega) x2
  rw [n1] at a1 a2 a4 a5 a6
  rw [a2] at b1 b2 b4 b5 b6
  rw [b2] at c1 c2 c4 c5 c6
  have shC : C.1.2.2 S.1.1 = (19, 3) := by
    rw [(c5 _ (by first | decide | omega)).1, (b5 _ (by first | decide | omega)).1, (a5 _ (by first | decide | omega)).1]
    show (if S.1.1 = S.1.1 then ((19, 3) : Nat × Nat) else S.1.2.2 S.1.1) = _
    rw [if_pos rfl]
  have eA : ∀ c, c < S.1.1 → A.2 c = S.2 c := fun c hc => by
    rw [(a5 c (by first | decide | omega)).2]
    funext k
    exact lo c k hc
  have eB : ∀ c, c < S.1.1 → B.2 c = S.2 c := fun c hc => by rw [(b5 c (by first | decide | omega)).2, eA c hc]
  have eC : ∀ c, c < S.1.1 → C.2 c = S.2 c := fun c hc => by rw [(c5 c (by first | decide | omega)).2, eB c hc]
  refine ⟨wr (wr (wr C S.1.1 0 ((S.1.1 + 1 : Nat) : Int)) S.1.1 1 ((S.1.1 + 2 : Nat) : Int)) S.1.1 2 ((S.1.1 + 3 : Nat) : Int), ?_, ?_, ?_, fun c hc => ⟨?_, ?_⟩, ⟨shC, ?_, ?_, ?_⟩, ⟨?_, ?_, ?_⟩, fun j => ?_, fun j hj => ⟨?_, ?_⟩⟩
  · have s16 : shp (WK L xs) S 16 = (0, 400) := rfl
    have e3 : ((nw S 19 3).2 22 3).toNat = 16 := by rw [lo 22 3 (by first | decide | omega), h3]; rfl
    have mx : max 0 (min (n : Int) ((((0, 400) : Nat × Nat).2 : Nat) : Int)) = (n : Int) := by
      show max 0 (min (n : Int) (400 : Int)) = (n : Int)
      omega
    rw [q_154, show (S.2 22 3).toNat = 16 by rw [h3]; rfl, s16, show Nat.ble ((0, 400) : Nat × Nat).1 6 = true from rfl, gdT, e3, h5, mx, a1, bR, show A.2 22 2 = (x.length : Int) by rw [eA 22 (by first | decide | omega), x1], b1, bR, show B.2 22 2 = (x.length : Int) by rw [eB 22 (by first | decide | omega), x1], c1, bR]
    have g1 : (Nat.beq (shp (WK L xs) C S.1.1).1 19 && Nat.ble 1 8) = true := by rw [shpD i1, shC]; rfl
    refine gd_go g1 ?_
    rw [q_160, Int.toNat_natCast, Int.toNat_natCast, Int.toNat_natCast]
    have gg : ∀ X : AH, X.1 = C.1 → (Nat.beq (shp (WK L xs) X S.1.1).1 19) = true := fun X hX => by rw [shpD i1, hX, shC]; rfl
    have w : ∀ k, wok (WK L xs) S.1.1 k = true := fun k => wokD i1
    rw [gg C rfl, w, gg (wr C S.1.1 0 ((S.1.1 + 1 : Nat) : Int)) rfl, w, gg (wr (wr C S.1.1 0 ((S.1.1 + 1 : Nat) : Int)) S.1.1 1 ((S.1.1 + 1 + 1 : Nat) : Int)) rfl, w]
    rfl
  · show C.1.1 = _
    omega
  · show C.1.2.1 = _
    rw [c3, b3, a3]
    show S.1.2.1 + 3 + n + x.length + x.length = _
    rfl
  · show C.1.2.2 c = _
    rw [(c5 c (by first | decide | omega)).1, (b5 c (by first | decide | omega)).1, (a5 c (by first | decide | omega)).1]
    show (if c = S.1.1 then ((19, 3) : Nat × Nat) else S.1.2.2 c) = _
    rw [if_neg (by first | decide | omega)]
  · rw [wr_c (by first | decide | omega), wr_c (by first | decide | omega), wr_c (by first | decide | omega), eC c hc]
  · show C.1.2.2 (S.1.1 + 1) = _
    rw [(c5 _ (by first | decide | omega)).1, (b5 _ (by first | decide | omega)).1, a4]
  · show C.1.2.2 (S.1.1 + 2) = _
    rw [(c5 _ (by first | decide | omega)).1, b4]
  · exact c4
  · rw [wr_f, if_neg (by decide), wr_f, if_neg (by decide), wr_f, if_pos rfl]
  · rw [wr_f, if_neg (by decide), wr_f, if_pos rfl]
  · rw [wr_f, if_pos rfl]
  · rw [wr_c (by first | decide | omega), wr_c (by first | decide | omega), wr_c (by first | decide | omega), (c5 _ (by first | decide | omega)).2, (b5 _ (by first | decide | omega)).2, a6 j, lo 16 j (by first | decide | omega)]
  · rw [wr_c (by first | decide | omega), wr_c (by first | decide | omega), wr_c (by first | decide | omega), (c5 _ (by first | decide | omega)).2, b6 j hj, eA 23 (by first | decide | omega)]
  · rw [wr_c (by first | decide | omega), wr_c (by first | decide | omega), wr_c (by first | decide | omega), c6 j hj, eB 24 (by first | decide | omega)]
end
