/-! what is left of an authority -/
noncomputable def pud (h : Nat → Nat → Int) (v y hd : Int) : Int := sm (fun c => if pin h c y = true ∧ cby h c = v ∧ uN h (h 109 c) hd = true then h 111 c else 0) (nClaims h)
noncomputable def bnd (h : Nat → Nat → Int) (k : Nat) (y : Int) : Int := if h 126 k ≤ y ∧ y ≤ h 127 k then h 125 k - pct h k y else 0
noncomputable def bnf (h : Nat → Nat → Int) (v y : Int) (k : Nat) : Int := if h 124 k = v then bnd h k y else 0
noncomputable def bns (h : Nat → Nat → Int) (v y : Int) : Int := sm (bnf h v y) (h 72 70).toNat
noncomputable def lft (h : Nat → Nat → Int) (v : Nat) (y : Int) : Int := if h 97 v = 1 then w64 (h 99 v - pud h (h 102 v) y (h 98 v)) else if h 102 v ≠ -1 then 0 else w64 (h 99 v + h 106 v - h 107 v - pby h v y - bns h v y)
noncomputable def ofY (h : Nat → Nat → Int) (v : Nat) (y : Int) : Bool := if h 97 (if h 97 v = 1 then (h 102 v).toNat else v) = 3 then decide (h 100 v ≤ y) else decide (y = h 100 v)
theorem pud_fr {h h' : Nat → Nat → Int} (e1 : h' 115 = h 115) (e2 : h' 116 = h 116) (e3 : h' 97 = h 97) (e4 : h' 102 = h 102) (e5 : h' 111 = h 111) (e6 : h' 72 52 = h 72 52) (e7 : h' 109 = h 109) (e8 : h' 74 = h 74) : pud h' = pud h := by
  funext v y hd
  unfold pud nClaims uN
  rw [pin_fr e1, cby_fr e2 e3 e4, e5, e6, e7, e8]
theorem bns_fr {h h' : Nat → Nat → Int} (e1 : h' 115 = h 115) (e2 : h' 112 = h 112) (e3 : h' 111 = h 111) (e4 : h' 72 52 = h 72 52) (e5 : h' 124 = h 124) (e6 : h' 125 = h 125) (e7 : h' 126 = h 126) (e8 : h' 127 = h 127) (e9 : h' 72 70 = h 72 70) : bnd h' = bnd h ∧ bns h' = bns h := by
  have hb : bnd h' = bnd h := by
    funext k y
    unfold bnd
    rw [pct_fr e1 e2 e3 e4, e6, e7, e8]
  refine ⟨hb, ?_⟩
  funext v y
  unfold bns
  have : bnf h' v y = bnf h v y := by
    funext k
    unfold bnf
    rw [hb, e5]
  rw [this, e9]
theorem lft_fr {h h' : Nat → Nat → Int} (hc : ∀ a, a = 74 ∨ (97 ≤ a ∧ a ≤ 102) ∨ (106 ≤ a ∧ a ≤ 127) → h' a = h a) (h1 : h' 72 52 = h 72 52) (h2 : h' 72 70 = h 72 70) : lft h' = lft h := by
  funext v y
  unfold lft
  rw [pud_fr (hc 115 (by first | decide | omega)) (hc 116 (by first | decide | omega)) (hc 97 (by first | decide | omega)) (hc 102 (by first | decide | omega)) (hc 111 (by first | decide | omega)) h1 (hc 109 (by first | decide | omega)) (hc 74 (by first | decide | omega)), pby_fr (hc 115 (by first | decide | omega)) (hc 116 (by first | decide | omega)) (hc 97 (by first | decide | omega)) (hc 102 (by first | decide | omega)) (hc 111 (by first | decide | omega)) h1, (bns_fr (hc 115 (by first | decide | omega)) (hc 112 (by first | decide | omega)) (hc 111 (by first | decide | omega)) h1 (hc 124 (by first | decide | omega)) (hc 125 (by first | decide | omega)) (hc 126 (by first | decide | omega)) (hc 127 (by first | decide | omega)) h2).2, hc 97 (by first | decide | omega), hc 98 (by first | decide | omega), hc 99 (by first | decide | omega), hc 102 (by first | decide | omega), hc 106 (by first | decide | omega), hc 107 (by first | decide | omega)]
theorem ofY_fr {h h' : Nat → Nat → Int} (e1 : h' 97 = h 97) (e2 : h' 102 = h 102) (e3 : h' 100 = h 100) : ofY h' = ofY h := by
  funext v y
  unfold ofY
  rw [e1, e2, e3]
section
variable {L : Nat} {xs : Nat → Int} {d : Nat} {S T U S' : AH}
theorem RK.nC (gk : RK S.2) : S.2 72 52 = (nClaims S.2 : Int) ∧ nClaims S.2 ≤ 300 := by
  have := gk.1
  unfold nClaims
  omega
theorem smC_bd (gk : RK S.2) {P : Nat → Prop} [DecidablePred P] {n : Nat} (hn : n ≤ nClaims S.2) : 0 ≤ sm (fun c => if P c then S.2 111 c else 0) n ∧ sm (fun c => if P c then S.2 111 c else 0) n ≤ 300000000000 := by
  have h3 := gk.nC
  have := sm_bd (f := fun c => if P c then S.2 111 c else 0) (M := 1000000000) (n := n) (fun j hj => by
    have := (gk.2.2.2.1 j (by first | decide | omega)).2.2.2.1
    show 0 ≤ (if P j then S.2 111 j else 0) ∧ (if P j then S.2 111 j else 0) ≤ 1000000000
    split <;> omega)
  omega
theorem m_cby2 (gk : RK S.2) (gv : RV S.2) {c : Nat} (hc : (c : Int) < S.2 72 52) : ev (WK L xs) (d + 1) 249 [vr 72, vi (c : Int)] S = some (cby S.2 c, S) := by
  have h3 := gk.1
  have hv := gv.1
  have hq : (0 : Int) ≤ (c : Int) ∧ (c : Int) < 300 := by omega
  obtain ⟨-, -, -, -, -, -, r7, -⟩ := gk.2.2.2.1 c hc
  rw [q_249]
  simp only [if_pos hq, Int.toNat_natCast]
  unfold cby
  by_cases h1 : S.2 116 c = -1
  · rw [if_pos h1, if_neg (fun z => z.1 h1)]
  · have hr : 0 ≤ S.2 116 c ∧ S.2 116 c < 80 := by omega
    simp only [if_pos hr]
    rw [if_neg h1]
    by_cases h2 : S.2 97 (S.2 116 c).toNat = 4
    · rw [if_pos h2]
      by_cases h4 : S.2 102 (S.2 116 c).toNat = -1
      · rw [if_pos h4, if_neg (fun z => z.2.2 h4)]
      · rw [if_neg h4, if_pos ⟨h1, h2, h4⟩]
    · rw [if_neg h2, if_neg (fun z => h2 z.2.1)]
theorem m_paidBy (gk : RK S.2) (gv : RV S.2) (v y : Int) : ev (WK L xs) (d + 2) 247 [vr 72, vi v, vi y, vi (-1)] S = some (pby S.2 v y, S) := by
  obtain ⟨hn, hn3⟩ := gk.nC
  have key : ∀ (m c : Nat), c + m = nClaims S.2 → LQ (WK L xs) (ev (WK L xs) (d + 1)) 247 6 [some (vr 72), some (vi v), some (vi y), some (vi (-1)), some (vl (sm (fun c => if pin S.2 c y = true ∧ cby S.2 c = v then S.2 111 c else 0) c)), none, some (vi (c : Int))] [] S = some (pby S.2 v y, S) := by
    intro m
    induction m with
    | zero =>
      intro c hc
      rw [q_247_6, hn, if_neg (by first | decide | omega), show c = nClaims S.2 by omega]
      rfl
    | succ m ih =>
      intro c hc
      have e1 : (c : Int) + 1 = ((c + 1 : Nat) : Int) := by omega
      have hi2 := ih (c + 1) (by first | decide | omega)
      have hb := smC_bd gk (P := fun c => pin S.2 c y = true ∧ cby S.2 c = v) (n := c + 1) (by first | decide | omega)
      have hst := sm_su (fun c => if pin S.2 c y = true ∧ cby S.2 c = v then S.2 111 c else 0) c
      rw [hst] at hi2 hb
      rw [q_247_6, hn, if_pos (by first | decide | omega), m_paidIn (by first | decide | omega), bR, w32e (by first | decide | omega) (by first | decide | omega), e1]
      simp only [bi_0]
      by_cases h1 : pin S.2 c y = true
      · rw [if_neg (fun z => z h1), m_cby2 gk gv (by first | decide | omega), bR]
        by_cases h2 : cby S.2 c = v
        · rw [if_pos (show pin S.2 c y = true ∧ cby S.2 c = v from ⟨h1, h2⟩)] at hi2 hb
          rw [if_pos h2, if_pos trivial, if_pos (by first | decide | omega), Int.toNat_natCast, w64e (by first | decide | omega) (by first | decide | omega)]
          exact hi2
        · rw [if_neg (show ¬ (pin S.2 c y = true ∧ cby S.2 c = v) from fun z => h2 z.2), Int.add_zero] at hi2
          rw [if_neg h2]
          exact hi2
      · rw [if_neg (show ¬ (pin S.2 c y = true ∧ cby S.2 c = v) from fun z => h1 z.1), Int.add_zero] at hi2
        rw [if_pos h1]
        exact hi2
  rw [q_247]
  exact key (nClaims S.2) 0 (by first | decide | omega)
theorem m_paidUn (gk : RK S.2) (gv : RV S.2) (gp : RP S.2) (v y : Int) {hd : Int} (hh : 0 ≤ hd) : ev (WK L xs) (d + 2) 247 [vr 72, vi v, vi y, vi hd] S = some (pud S.2 v y hd, S) := by
  obtain ⟨hn, hn3⟩ := gk.nC
  have key : ∀ (m c : Nat), c + m = nClaims S.2 → LQ (WK L xs) (ev (WK L xs) (d + 1)) 247 6 [some (vr 72), some (vi v), some (vi y), some (vi hd), some (vl (sm (fun c => if pin S.2 c y = true ∧ cby S.2 c = v ∧ uN S.2 (S.2 109 c) hd = true then S.2 111 c else 0) c)), none, some (vi (c : Int))] [] S = some (pud S.2 v y hd, S) := by
    intro m
    induction m with
    | zero =>
      intro c hc
      rw [q_247_6, hn, if_neg (by first | decide | omega), show c = nClaims S.2 by omega]
      rfl
    | succ m ih =>
      intro c hc
      have e1 : (c : Int) + 1 = ((c + 1 : Nat) : Int) := by omega
      have hi2 := ih (c + 1) (by first | decide | omega)
      have hb := smC_bd gk (P := fun c => pin S.2 c y = true ∧ cby S.2 c = v ∧ uN S.2 (S.2 109 c) hd = true) (n := c + 1) (by first | decide | omega)
      have hst := sm_su (fun c => if pin S.2 c y = true ∧ cby S.2 c = v ∧ uN S.2 (S.2 109 c) hd = true then S.2 111 c else 0) c
      have hch := (gk.2.2.2.1 c (by first | decide | omega)).2.1
      rw [hst] at hi2 hb
      rw [q_247_6, hn, if_pos (by first | decide | omega), m_paidIn (by first | decide | omega), bR, w32e (by first | decide | omega) (by first | decide | omega), e1]
      simp only [bi_0]
      by_cases h1 : pin S.2 c y = true
      · rw [if_neg (fun z => z h1), m_cby2 gk gv (by first | decide | omega), bR]
        by_cases h2 : cby S.2 c = v
        · rw [if_pos h2, if_neg (by first | decide | omega), if_pos (by first | decide | omega), Int.toNat_natCast, m_isUnder gp _ _ hch.1 hch.2 hh, bR]
          simp only [bi_0]
          by_cases h4 : uN S.2 (S.2 109 c) hd = true
          · rw [if_pos (show pin S.2 c y = true ∧ cby S.2 c = v ∧ uN S.2 (S.2 109 c) hd = true from ⟨h1, h2, h4⟩)] at hi2 hb
            rw [if_neg (fun z => z h4), if_pos (by first | decide | omega), w64e (by first | decide | omega) (by first | decide | omega)]
            exact hi2
          · rw [if_neg (show ¬ (pin S.2 c y = true ∧ cby S.2 c = v ∧ uN S.2 (S.2 109 c) hd = true) from fun z => h4 z.2.2), Int.add_zero] at hi2
            rw [if_pos h4]
            exact hi2
        · rw [if_neg (show ¬ (pin S.2 c y = true ∧ cby S.2 c = v ∧ uN S.2 (S.2 109 c) hd = true) from fun z => h2 z.2.1), Int.add_zero] at hi2
          rw [if_neg h2]
          exact hi2
      · rw [if_neg (show ¬ (pin S.2 c y = true ∧ cby S.2 c = v ∧ uN S.2 (S.2 109 c) hd = true) from fun z => h1 z.1), Int.add_zero] at hi2
        rw [if_pos h1]
        exact hi2
  rw [q_247]
  exact key (nClaims S.2) 0 (by first | decide | omega)
theorem m_boundBy (gk : RK S.2) (gv : RV S.2) {k : Nat} (hk : (k : Int) < S.2 72 70) (y : Int) : ev (WK L xs) (d + 2) 250 [vr 72, vi (k : Int), vi y] S = some (bnd S.2 k y, S) := by
  obtain ⟨hn, hn3⟩ := gk.nC
  have hkn := gv.2.2.2.1
  obtain ⟨-, ⟨s1, s2⟩, -⟩ := gv.2.2.2.2 k hk
  have hq : (0 : Int) ≤ (k : Int) ∧ (k : Int) < 20 := by omega
  have key : ∀ (m c : Nat), c + m = nClaims S.2 → LQ (WK L xs) (ev (WK L xs) (d + 1)) 250 35 [some (vr 72), some (vi (k : Int)), some (vi y), some (vl (S.2 125 k - sm (fun c => if pin S.2 c y = true ∧ S.2 112 c = k then S.2 111 c else 0) c)), none, some (vi (c : Int))] [] S = some (S.2 125 k - pct S.2 k y, S) := by
    intro m
    induction m with
    | zero =>
      intro c hc
      rw [q_250_35, hn, if_neg (by first | decide | omega), show c = nClaims S.2 by omega]
      rfl
    | succ m ih =>
      intro c hc
      have e1 : (c : Int) + 1 = ((c + 1 : Nat) : Int) := by omega
      have hi2 := ih (c + 1) (by first | decide | omega)
      have hb0 := smC_bd gk (P := fun c => pin S.2 c y = true ∧ S.2 112 c = k) (n := c) (by first | decide | omega)
      have hb := smC_bd gk (P := fun c => pin S.2 c y = true ∧ S.2 112 c = k) (n := c + 1) (by first | decide | omega)
      have hst := sm_su (fun c => if pin S.2 c y = true ∧ S.2 112 c = k then S.2 111 c else 0) c
      rw [hst] at hi2 hb
      rw [q_250_35, hn, if_pos (by first | decide | omega), if_pos (by first | decide | omega), Int.toNat_natCast, w32e (x := (c : Int) + 1) (by first | decide | omega) (by first | decide | omega), e1]
      by_cases h2 : S.2 112 c = k
      · rw [if_pos h2, m_paidIn (by first | decide | omega), bR]
        simp only [bi_0]
        by_cases h1 : pin S.2 c y = true
        · rw [if_pos (show pin S.2 c y = true ∧ S.2 112 c = k from ⟨h1, h2⟩)] at hi2 hb
          rw [if_neg (fun z => z h1), if_pos (by first | decide | omega), w64e (by first | decide | omega) (by first | decide | omega), Int.sub_sub]
          exact hi2
        · rw [if_neg (show ¬ (pin S.2 c y = true ∧ S.2 112 c = k) from fun z => h1 z.1), Int.add_zero] at hi2
          rw [if_pos h1, Int.sub_zero, w64e (by first | decide | omega) (by first | decide | omega)]
          exact hi2
      · rw [if_neg (show ¬ (pin S.2 c y = true ∧ S.2 112 c = k) from fun z => h2 z.2), Int.add_zero] at hi2
        rw [if_neg h2, Int.sub_zero, w64e (by first | decide | omega) (by first | decide | omega)]
        exact hi2
  rw [q_250, if_pos hq, if_pos hq, m_lies, bR, Int.toNat_natCast]
  simp only [bi_0]
  unfold bnd
  by_cases h : S.2 126 k ≤ y ∧ y ≤ S.2 127 k
  · rw [if_neg (fun z => z h), if_pos hq, if_pos h]
    have := key (nClaims S.2) 0 (by first | decide | omega)
    have z0 : sm (fun c => if pin S.2 c y = true ∧ S.2 112 c = k then S.2 111 c else 0) 0 = 0 := rfl
    rw [z0, Int.sub_zero] at this
    exact this
  · rw [if_pos h, if_neg h]
theorem m_leftOf (gk : RK S.2) (gv : RV S.2) (gp : RP S.2) {v : Nat} (hv : (v : Int) < S.2 72 40) (y : Int) : ev (WK L xs) (d + 4) 246 [vr 72, vi (v : Int), vi y] S = some (lft S.2 v y, S) := by
  have hn := gv.1
  have hkn := gv.2.2.2.1
  obtain ⟨r1, r2, r3, r4, r5, r6, r7, r8⟩ := gv.2.1 v hv
  have hq : (0 : Int) ≤ (v : Int) ∧ (v : Int) < 80 := by omega
  have key : ∀ (b : Int) (m k : Nat), k + m = (S.2 72 70).toNat → LQ (WK L xs) (ev (WK L xs) (d + 3)) 246 91 [some (vr 72), some (vi (v : Int)), some (vi y), some (vl (w64 (b - sm (bnf S.2 v y) k))), none, some (vi (k : Int))] [] S = some (w64 (b - bns S.2 v y), S) := by
    intro b m
    induction m with
    | zero =>
      intro k hk
      rw [q_246_91, if_neg (by first | decide | omega), show k = (S.2 72 70).toNat by omega]
      rfl
    | succ m ih =>
      intro k hk
      have e1 : (k : Int) + 1 = ((k + 1 : Nat) : Int) := by omega
      have hi2 := ih (k + 1) (by first | decide | omega)
      rw [sm_su (bnf S.2 v y) k, ← Int.sub_sub] at hi2
      rw [q_246_91, if_pos (by first | decide | omega), if_pos (by first | decide | omega), Int.toNat_natCast, w32e (x := (k : Int) + 1) (by first | decide | omega) (by first | decide | omega), e1]
      by_cases h : S.2 124 k = v
      · have : bnf S.2 v y k = bnd S.2 k y := by unfold bnf; rw [if_pos h]
        rw [this] at hi2
        rw [if_pos h, m_boundBy gk gv (by first | decide | omega), bR, w64_sl]
        exact hi2
      · have : bnf S.2 v y k = 0 := by unfold bnf; rw [if_neg h]
        rw [this] at hi2
        rw [if_neg h, w64_sl]
        exact hi2
  have k58 : LQ (WK L xs) (ev (WK L xs) (d + 3)) 246 58 [some (vr 72), some (vi (v : Int)), some (vi y), none, none, none] [] S = some (w64 (S.2 99 v + S.2 106 v - S.2 107 v - pby S.2 v y - bns S.2 v y), S) := by
    rw [q_246_58]
    simp only [if_pos hq, Int.toNat_natCast]
    rw [m_paidBy gk gv, bR, w64_sl, Int.sub_sub (w64 (S.2 99 v + S.2 106 v)), w64_sl, ← Int.sub_sub]
    have := key (S.2 99 v + S.2 106 v - S.2 107 v - pby S.2 v y) (S.2 72 70).toNat 0 (by first | decide | omega)
    have z0 : sm (bnf S.2 v y) 0 = 0 := rfl
    rw [z0, Int.sub_zero] at this
    exact this
  rw [q_246]
  simp only [if_pos hq, Int.toNat_natCast]
  unfold lft
  by_cases h1 : S.2 97 v = 1
  · rw [if_pos h1, if_pos h1, m_paidUn gk gv gp _ _ r2.1, bR]
  · rw [if_neg h1, if_neg h1]
    by_cases h2 : S.2 97 v = 4
    · rw [if_pos h2]
      by_cases h4 : S.2 102 v = -1
      · rw [if_pos h4, if_neg (fun z => z h4), k58]
      · rw [if_neg h4, if_pos h4]
    · rw [if_neg h2, k58, if_neg (fun z => z (r8 h1 h2))]
theorem m_isOf (gv : RV S.2) {v : Nat} (hv : (v : Int) < S.2 72 40) (y : Int) : ev (WK L xs) (d + 1) 245 [vr 72, vi (v : Int), vi y] S = some (bi (ofY S.2 v y = true), S) := by
  have hn := gv.1
  obtain ⟨r1, r2, r3, r4, r5, r6, r7, r8⟩ := gv.2.1 v hv
  have hq : (0 : Int) ≤ (v : Int) ∧ (v : Int) < 80 := by omega
  have key : ∀ a : Nat, a < 80 → S.2 100 v = S.2 100 a → (ofY S.2 v y = if S.2 97 a = 3 then decide (S.2 100 a ≤ y) else decide (y = S.2 100 a)) → LQ (WK L xs) (ev (WK L xs) d) 245 20 [some (vr 72), none, some (vi y), none] [vi (a : Int)] S = some (bi (ofY S.2 v y = true), S) := by
    intro a ha hy hO
    have hqa : (0 : Int) ≤ (a : Int) ∧ (a : Int) < 80 := by omega
    rw [q_245_20, hO]
    simp only [if_pos hqa, Int.toNat_natCast]
    by_cases h3 : S.2 97 a = 3
    · rw [if_pos h3, if_pos h3]
      by_cases h4 : y < S.2 100 a
      · rw [if_pos h4, bi_F (by rw [decide_eq_true_iff]; omega)]
      · rw [if_neg h4, bi_T (by rw [decide_eq_true_iff]; omega)]
    · rw [if_neg h3, if_neg h3]
      by_cases h4 : y = S.2 100 a
      · rw [if_pos h4, bi_T (by rw [decide_eq_true_iff]; exact h4)]
      · rw [if_neg h4, bi_F (by rw [decide_eq_true_iff]; exact h4)]
  rw [q_245]
  simp only [if_pos hq, Int.toNat_natCast]
  by_cases h1 : S.2 97 v = 1
  · obtain ⟨o1, o2, o3, o4⟩ := r6 h1
    rw [if_pos h1]
    have := key (S.2 102 v).toNat (by first | decide | omega) o4 (by unfold ofY; rw [if_pos h1, o4])
    rw [show (((S.2 102 v).toNat : Nat) : Int) = S.2 102 v by omega] at this
    exact this
  · rw [if_neg h1]
    exact key v (by first | decide | omega) rfl (by unfold ofY; rw [if_neg h1])
end
