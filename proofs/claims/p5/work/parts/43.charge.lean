/-! what falls on the hands; answer -/
noncomputable def rmn (set : Nat) (r : Int) : Nat → Int
  | 0 => r
  | i + 1 => if set.testBit i then w32 (rmn set r i + -1) else rmn set r i
/-- what of the sum falls on the hand j -/
noncomputable def chv (set : Nat) (sum : Int) (j : Nat) : Int := w32 (idiv sum (pcn set) + if 0 < rmn set (Int.tmod sum (pcn set)) j then 1 else 0)
theorem pcn_pos {x : Nat} (h : x < 65536) (h0 : x ≠ 0) : ¬ (pcn x : Int) = 0 := by
  have := (low_at h h0).1
  omega
section
variable {L : Nat} {xs : Nat → Int} {d : Nat} {S S' : AH} {o : Nat}
theorem set_or {s w : Nat} (hs : s < 65536) (hw : w < 16) : ior (s : Int) (ishl 1 (w : Int)) = ((s ||| 2 ^ w : Nat) : Int) ∧ s ||| 2 ^ w < 65536 ∧ s ||| 2 ^ w ≠ 0 := by
  refine ⟨?_, Nat.or_lt_two_pow (n := 16) (by first | decide | omega) (Nat.pow_lt_pow_right (by decide) (by first | decide | omega)), fun z => ?_⟩
  · rw [ishl_n w (by first | decide | omega), ior_n s (2 ^ w) (by first | decide | omega) (Nat.lt_of_lt_of_le (Nat.pow_lt_pow_right (by decide) hw) (by decide))]
  · have h1 : (s ||| 2 ^ w).testBit w = true := by
      rw [Nat.testBit_or, Nat.testBit_two_pow_self, Bool.or_true]
    rw [z, Nat.zero_testBit] at h1
    cases h1
theorem bit16 {x i : Nat} (hx : x < 65536) (hi : i < 16) : iand (ishr (x : Int) (i : Int)) 1 = if x.testBit i then 1 else 0 := by
  have := ibit (x : Int) (i : Int) (by first | decide | omega) (by first | decide | omega) (by first | decide | omega) (by first | decide | omega)
  rw [Int.toNat_natCast, Int.toNat_natCast] at this
  exact this
theorem x_chl {U : AH} (hO : isO U o 12 15) {n set : Nat} (hset : set < 65536) (hn : n ≤ 16) (hk : ¬ (pcn set : Int) = 0) (hh : U.2 17 5 = n) : ∀ (m i : Nat) (T : AH), i + m = n → T.1 = U.1 → (∀ a, a ≠ 21 → T.2 a = U.2 a) → (∀ j, T.2 21 j = if j < i ∧ set.testBit j = true then w64 (U.2 21 j + chv set (U.2 o 3) j) else U.2 21 j) →
    ∃ T', LQ (WK L xs) (ev (WK L xs) d) 132 46 [some (vr 17), some (vr o), some (vi (set : Int)), some (vi (pcn set : Int)), some (vi (rmn set (Int.tmod (U.2 o 3) (pcn set)) i)), some (vi (i : Int))] [] T = some (U.2 o 3, T') ∧ T'.1 = U.1 ∧ (∀ a, a ≠ 21 → T'.2 a = U.2 a) ∧ ∀ j, T'.2 21 j = if j < n ∧ set.testBit j = true then w64 (U.2 21 j + chv set (U.2 o 3) j) else U.2 21 j := by
  have h5 := hO.1
  intro m
  induction m with
  | zero =>
    intro i T hi h1 h2 h3
    have hOT : isO T o 12 15 := by
      unfold isO
      rw [h1]
      exact hO
    have e : i = n := by omega
    subst e
    rw [q_132_46, h2 17 (by decide), hh, if_neg (by first | decide | omega), k12 hOT, rdvD h5, h2 o (by first | decide | omega)]
    exact ⟨T, rfl, h1, h2, h3⟩
  | succ m ih =>
    intro i T hi h1 h2 h3
    have hOT : isO T o 12 15 := by
      unfold isO
      rw [h1]
      exact hO
    have e1 : (i : Int) + 1 = ((i + 1 : Nat) : Int) := by omega
    have hq : (0 : Int) ≤ (i : Int) ∧ (i : Int) < 16 := by omega
    have hru : rmn set (Int.tmod (U.2 o 3) (pcn set)) (i + 1) = if set.testBit i then w32 (rmn set (Int.tmod (U.2 o 3) (pcn set)) i + -1) else rmn set (Int.tmod (U.2 o 3) (pcn set)) i := rfl
    rw [q_132_46, h2 17 (by decide), hh, if_pos (by first | decide | omega), bit16 hset (by first | decide | omega), w32e (x := (i : Int) + 1) (by first | decide | omega) (by first | decide | omega), e1]
    cases hb : set.testBit i with
    | false =>
      rw [hb, if_neg (by decide)] at hru
      rw [if_pos (by rfl), ← hru]
      refine ih (i + 1) T (by first | decide | omega) h1 h2 (fun j => ?_)
      rw [h3 j]
      by_cases hj : j = i
      · subst hj
        rw [hb, if_neg (by simp), if_neg (by simp)]
      · by_cases q : j < i ∧ set.testBit j = true
        · rw [if_pos q, if_pos ⟨by omega, q.2⟩]
        · rw [if_neg q, if_neg (fun z => q ⟨by omega, z.2⟩)]
    | true =>
      rw [hb, if_pos rfl] at hru
      have hti : T.2 21 i = U.2 21 i := by rw [h3 i, if_neg (by first | decide | omega)]
      have hnx : ∀ v : Int, v = chv set (U.2 o 3) i → ∃ T', LQ (WK L xs) (ev (WK L xs) d) 132 46 [some (vr 17), some (vr o), some (vi (set : Int)), some (vi (pcn set : Int)), some (vi (rmn set (Int.tmod (U.2 o 3) (pcn set)) (i + 1))), some (vi ((i + 1 : Nat) : Int))] [] (wr T 21 i (w64 (U.2 21 i + v))) = some (U.2 o 3, T') ∧ T'.1 = U.1 ∧ (∀ a, a ≠ 21 → T'.2 a = U.2 a) ∧ ∀ j, T'.2 21 j = if j < n ∧ set.testBit j = true then w64 (U.2 21 j + chv set (U.2 o 3) j) else U.2 21 j := by
        intro v hv
        refine ih (i + 1) _ (by first | decide | omega) h1 (fun a ha => by rw [wr_c ha]; exact h2 a ha) (fun j => ?_)
        rw [wr_f, h3 j]
        by_cases hj : j = i
        · subst hj
          rw [if_pos rfl, if_pos ⟨by omega, hb⟩, hv]
        · rw [if_neg hj]
          by_cases q : j < i ∧ set.testBit j = true
          · rw [if_pos q, if_pos ⟨by omega, q.2⟩]
          · rw [if_neg q, if_neg (fun z => q ⟨by omega, z.2⟩)]
      rw [if_neg (by decide), if_pos hq, k12 hOT, if_neg hk, if_pos hq, if_pos hq, rdvD h5, h2 o (by first | decide | omega), Int.toNat_natCast, hti, ← hru]
      by_cases hr : 0 < rmn set (Int.tmod (U.2 o 3) (pcn set)) i
      · rw [if_pos hr]
        refine hnx _ ?_
        unfold chv
        rw [if_pos hr]
      · rw [if_neg hr]
        refine hnx _ ?_
        unfold chv
        rw [if_neg hr]
theorem x_charge {T : AH} (hO : isO T o 12 15) {n s w : Nat} (h6 : T.2 o 6 = s) (hs : s < 65536) (h0 : T.2 o 0 = w) (hw : w < 16) (hh : T.2 17 5 = n) (hn : n ≤ 16) : ∃ T', ev (WK L xs) (d + 2) 132 [vr 17, vr o] T = some (if T.2 o 11 = 0 then T.2 o 3 else 0, T') ∧ T'.1 = T.1 ∧ (∀ a, a ≠ 21 → a ≠ o → T'.2 a = T.2 a) ∧ (∀ k, T'.2 o k = if k = 11 ∧ T.2 o 11 = 0 then 1 else T.2 o k) ∧ ∀ j, T'.2 21 j = if T.2 o 11 = 0 ∧ j < n ∧ (s ||| 2 ^ w).testBit j = true then w64 (T.2 21 j + chv (s ||| 2 ^ w) (T.2 o 3) j) else T.2 21 j := by
  have h5 := hO.1
  obtain ⟨e1, e2, e3⟩ := set_or hs hw
  have hk := pcn_pos e2 e3
  rw [q_132, k12 hO, k12 hO, rdvD h5, rdvD h5, h6, h0, e1, j_bitCount _ e2, bR, k12 hO, rdvD h5]
  by_cases hc : T.2 o 11 = 0
  · rw [if_pos hc, if_neg hk, if_neg hk, k12w hO, k12 (show isO (wr T o 11 1) o 12 15 from hO), rdvD h5]
    have hv : (wr T o 11 1).2 o 3 = T.2 o 3 := by rw [wr_f, if_neg (by decide)]
    obtain ⟨T', t1, t2, t3, t4⟩ := x_chl (L := L) (xs := xs) (d := d + 1) (U := wr T o 11 1) (o := o) hO (n := n) (set := s ||| 2 ^ w) e2 hn hk (by rw [wr_c (by first | decide | omega)]; exact hh) n 0 (wr T o 11 1) (by first | decide | omega) rfl (fun _ _ => rfl) (fun j => by rw [if_neg (by first | decide | omega)])
    refine ⟨T', ?_, t2, fun a q1 q2 => by rw [t3 a q1, wr_c q2], fun k => ?_, fun j => ?_⟩
    · rw [if_pos hc, ← hv]
      exact t1
    · rw [t3 o (by first | decide | omega), wr_f]
      by_cases q : k = 11
      · rw [if_pos q, if_pos ⟨q, hc⟩]
      · rw [if_neg q, if_neg (fun z => q z.1)]
    · rw [t4 j, hv, wr_c (by first | decide | omega)]
      by_cases q : j < n ∧ (s ||| 2 ^ w).testBit j = true
      · rw [if_pos q, if_pos ⟨hc, q⟩]
      · rw [if_neg q, if_neg (fun z => q z.2)]
  · rw [if_neg hc]
    refine ⟨T, ?_, rfl, fun _ _ _ => rfl, fun k => ?_, fun j => ?_⟩
    · rw [if_neg hc]
    · rw [if_neg (fun z => hc z.2)]
    · rw [if_neg (fun z => hc z.1)]
theorem m_chl {U : AH} {c : Nat} (hc : c < 300) {n set : Nat} (hset : set < 65536) (hn : n ≤ 16) (hk : ¬ (pcn set : Int) = 0) (hh : U.2 72 5 = n) : ∀ (m i : Nat) (T : AH), i + m = n → T.1 = U.1 → (∀ a, a ≠ 77 → T.2 a = U.2 a) → (∀ j, T.2 77 j = if j < i ∧ set.testBit j = true then w64 (U.2 77 j + chv set (U.2 111 c) j) else U.2 77 j) →
    ∃ T', LQ (WK L xs) (ev (WK L xs) d) 305 52 [some (vr 72), some (vi (c : Int)), some (vi (set : Int)), some (vi (pcn set : Int)), some (vi (rmn set (Int.tmod (U.2 111 c) (pcn set)) i)), some (vi (i : Int))] [] T = some (U.2 111 c, T') ∧ T'.1 = U.1 ∧ (∀ a, a ≠ 77 → T'.2 a = U.2 a) ∧ ∀ j, T'.2 77 j = if j < n ∧ set.testBit j = true then w64 (U.2 77 j + chv set (U.2 111 c) j) else U.2 77 j := by
  have hqc : (0 : Int) ≤ (c : Int) ∧ (c : Int) < 300 := by omega
  intro m
  induction m with
  | zero =>
    intro i T hi h1 h2 h3
    have e : i = n := by omega
    subst e
    rw [q_305_52, h2 72 (by decide), hh, if_neg (by first | decide | omega), if_pos hqc, h2 111 (by decide), Int.toNat_natCast]
    exact ⟨T, rfl, h1, h2, h3⟩
  | succ m ih =>
    intro i T hi h1 h2 h3
    have e1 : (i : Int) + 1 = ((i + 1 : Nat) : Int) := by omega
    have hq : (0 : Int) ≤ (i : Int) ∧ (i : Int) < 16 := by omega
    have hru : rmn set (Int.tmod (U.2 111 c) (pcn set)) (i + 1) = if set.testBit i then w32 (rmn set (Int.tmod (U.2 111 c) (pcn set)) i + -1) else rmn set (Int.tmod (U.2 111 c) (pcn set)) i := rfl
    rw [q_305_52, h2 72 (by decide), hh, if_pos (by first | decide | omega), bit16 hset (by first | decide | omega), w32e (x := (i : Int) + 1) (by first | decide | omega) (by first | decide | omega), e1]
    cases hb : set.testBit i with
    | false =>
      rw [hb, if_neg (by decide)] at hru
      rw [if_pos (by rfl), ← hru]
      refine ih (i + 1) T (by first | decide | omega) h1 h2 (fun j => ?_)
      rw [h3 j]
      by_cases hj : j = i
      · subst hj
        rw [hb, if_neg (by simp), if_neg (by simp)]
      · by_cases q : j < i ∧ set.testBit j = true
        · rw [if_pos q, if_pos ⟨by omega, q.2⟩]
        · rw [if_neg q, if_neg (fun z => q ⟨by omega, z.2⟩)]
    | true =>
      rw [hb, if_pos rfl] at hru
      have hti : T.2 77 i = U.2 77 i := by rw [h3 i, if_neg (by first | decide | omega)]
      have hnx : ∀ v : Int, v = chv set (U.2 111 c) i → ∃ T', LQ (WK L xs) (ev (WK L xs) d) 305 52 [some (vr 72), some (vi (c : Int)), some (vi (set : Int)), some (vi (pcn set : Int)), some (vi (rmn set (Int.tmod (U.2 111 c) (pcn set)) (i + 1))), some (vi ((i + 1 : Nat) : Int))] [] (wr T 77 i (w64 (U.2 77 i + v))) = some (U.2 111 c, T') ∧ T'.1 = U.1 ∧ (∀ a, a ≠ 77 → T'.2 a = U.2 a) ∧ ∀ j, T'.2 77 j = if j < n ∧ set.testBit j = true then w64 (U.2 77 j + chv set (U.2 111 c) j) else U.2 77 j := by
        intro v hv
        refine ih (i + 1) _ (by first | decide | omega) h1 (fun a ha => by rw [wr_c ha]; exact h2 a ha) (fun j => ?_)
        rw [wr_f, h3 j]
        by_cases hj : j = i
        · subst hj
          rw [if_pos rfl, if_pos ⟨by omega, hb⟩, hv]
        · rw [if_neg hj]
          by_cases q : j < i ∧ set.testBit j = true
          · rw [if_pos q, if_pos ⟨by omega, q.2⟩]
          · rw [if_neg q, if_neg (fun z => q ⟨by omega, z.2⟩)]
      rw [if_neg (by decide), if_pos hq, if_pos hqc, if_neg hk, if_pos hq, if_pos hq, h2 111 (by decide), Int.toNat_natCast, Int.toNat_natCast, hti, ← hru]
      by_cases hr : 0 < rmn set (Int.tmod (U.2 111 c) (pcn set)) i
      · rw [if_pos hr]
        refine hnx _ ?_
        unfold chv
        rw [if_pos hr]
      · rw [if_neg hr]
        refine hnx _ ?_
        unfold chv
        rw [if_neg hr]
theorem m_charge {T : AH} {c : Nat} (hc : c < 300) {n s w : Nat} (h6 : T.2 114 c = s) (hs : s < 65536) (h0 : T.2 108 c = w) (hw : w < 16) (hh : T.2 72 5 = n) (hn : n ≤ 16) : ∃ T', ev (WK L xs) (d + 2) 305 [vr 72, vi (c : Int)] T = some (if T.2 119 c = 0 then T.2 111 c else 0, T') ∧ T'.1 = T.1 ∧ (∀ a, a ≠ 77 → a ≠ 119 → T'.2 a = T.2 a) ∧ (∀ k, T'.2 119 k = if k = c ∧ T.2 119 c = 0 then 1 else T.2 119 k) ∧ ∀ j, T'.2 77 j = if T.2 119 c = 0 ∧ j < n ∧ (s ||| 2 ^ w).testBit j = true then w64 (T.2 77 j + chv (s ||| 2 ^ w) (T.2 111 c) j) else T.2 77 j := by
  obtain ⟨e1, e2, e3⟩ := set_or hs hw
  have hk := pcn_pos e2 e3
  have hqc : (0 : Int) ≤ (c : Int) ∧ (c : Int) < 300 := by omega
  rw [q_305, if_pos hqc, if_pos hqc, if_pos hqc, if_pos hqc, Int.toNat_natCast, h6, h0, e1, m_sizeOf _ e2, bR, if_pos hqc, if_neg hk]
  by_cases hcc : T.2 119 c = 0
  · rw [if_pos hcc]
    have hv : (wr T 119 c 1).2 111 c = T.2 111 c := by rw [wr_c (by decide)]
    obtain ⟨T', t1, t2, t3, t4⟩ := m_chl (L := L) (xs := xs) (d := d + 1) (U := wr T 119 c 1) (c := c) hc (n := n) (set := s ||| 2 ^ w) e2 hn hk (by rw [wr_c (by decide)]; exact hh) n 0 (wr T 119 c 1) (by first | decide | omega) rfl (fun _ _ => rfl) (fun j => by rw [if_neg (by first | decide | omega)])
    refine ⟨T', ?_, t2, fun a q1 q2 => by rw [t3 a q1, wr_c q2], fun k => ?_, fun j => ?_⟩
    · rw [if_pos hcc, ← hv]
      exact t1
    · rw [t3 119 (by decide), wr_f]
      by_cases q : k = c
      · rw [if_pos q, if_pos ⟨q, hcc⟩]
      · rw [if_neg q, if_neg (fun z => q z.1)]
    · rw [t4 j, hv, wr_c (by decide)]
      by_cases q : j < n ∧ (s ||| 2 ^ w).testBit j = true
      · rw [if_pos q, if_pos ⟨hcc, q⟩]
      · rw [if_neg q, if_neg (fun z => q z.2)]
  · rw [if_neg hcc]
    refine ⟨T, ?_, rfl, fun _ _ _ => rfl, fun k => ?_, fun j => ?_⟩
    · rw [if_neg hcc]
    · rw [if_neg (fun z => hcc z.2)]
    · rw [if_neg (fun z => hcc z.1)]
/-- charges may change alike -/
theorem Inv.chg (H : Inv S) (hS : S'.1 = S.1) (hc : ∀ a, a ≠ 21 → a ≠ 77 → S'.2 a = S.2 a) (he : ∀ i, i < 16 → S'.2 21 i = S'.2 77 i) : Inv S' := by
  have C : ∀ a, (a < 21 ∨ (21 < a ∧ a < 77) ∨ 77 < a) → S'.2 a = S.2 a := fun a q => hc a (by first | decide | omega) (by first | decide | omega)
  have c72 := C 72 (by first | decide | omega)
  have c15 := C 15 (by first | decide | omega)
  refine H.upd ⟨by rw [hS]; exact Nat.le_refl _, fun a q1 q2 => ⟨by rw [hS], C a (by first | decide | omega)⟩⟩ (fun a q => C a (by unfold lvk at q; omega)) (fun k _ => by rw [c72]) (by unfold HM; rw [c72]; omega) (H.gt.fr (by rw [c15]) (by rw [c72])) (H.gc.fr (by rw [c15]) (by rw [c72])) (H.gx.fr (by rw [c15]) (by rw [c72])) (H.gb.fr (by rw [c15]) (by rw [c72]) (C _ (by first | decide | omega)) (C _ (by first | decide | omega))) ?_ (H.gu.fr (by rw [c72]) (by rw [C 50 (by first | decide | omega)]) (by rw [C 50 (by first | decide | omega)]) (fun a ha => C a (by first | decide | omega))) (H.gw.fr (by rw [c72]) (by rw [c72]) (by rw [C 54 (by first | decide | omega)]) (by rw [C 54 (by first | decide | omega)]) (fun a ha => C a (by first | decide | omega))) (H.gn.fr (by rw [c72]) (by rw [c72]) (by rw [c72]) (by rw [C 63 (by first | decide | omega)]) (by rw [C 63 (by first | decide | omega)]) (by rw [C 63 (by first | decide | omega)]) (fun a ha => C a (by first | decide | omega)))
  obtain ⟨g1, g2, g3, g4, g5, g6⟩ := H.gp
  unfold GP RP
  rw [c72, C 17 (by first | decide | omega), C 18 (by first | decide | omega), C 19 (by first | decide | omega), C 20 (by first | decide | omega), C 74 (by first | decide | omega), C 75 (by first | decide | omega), C 76 (by first | decide | omega)]
  exact ⟨g1, g2, g3, g4, g5, he⟩
end
