/-! check: the call -/
noncomputable def wrd (t : Nat → Int) (w : Nat) : Int := ior (ishl (ior (ishl (ior (ishl (ior (ishl 0 8) (iand (t (4 * w)) 255)) 8) (iand (t (4 * w + 1)) 255)) 8) (iand (t (4 * w + 2)) 255)) 8) (iand (t (4 * w + 3)) 255)
section
variable {L : Nat} {xs : Nat → Int} {d : Nat} {S S' T U : AH} {o : Nat}
theorem x_w1 {w k : Nat} (hw : 4 * w + k < 400) (hk : k < 4) (a : Int) : LQ (WK L xs) (ev (WK L xs) d) 65 4 [some (vr 15), some (vi (w : Int)), some (vi a), some (vi (k : Int)), none, none] [] S = LQ (WK L xs) (ev (WK L xs) d) 65 4 [some (vr 15), some (vi (w : Int)), some (vi (ior (ishl a 8) (iand (S.2 16 (4 * w + k)) 255))), some (vi ((k + 1 : Nat) : Int)), none, none] [] S := by
  rw [q_65_4, if_pos (by first | decide | omega), w32e (x := (w : Int) * 4) (by first | decide | omega) (by first | decide | omega), w32e (x := (w : Int) * 4 + (k : Int)) (by first | decide | omega) (by first | decide | omega), if_neg (by first | decide | omega), if_pos (by first | decide | omega), if_pos (by first | decide | omega), w32e (x := (k : Int) + 1) (by first | decide | omega) (by first | decide | omega), show ((w : Int) * 4 + (k : Int)).toNat = 4 * w + k by omega, show (k : Int) + 1 = ((k + 1 : Nat) : Int) by omega]
theorem x_word {w : Nat} (hw : 4 * w + 3 < 400) : ev (WK L xs) (d + 1) 65 [vr 15, vi (w : Int)] S = some (wrd (S.2 16) w, S) := by
  have h0 := x_w1 (L := L) (xs := xs) (d := d) (S := S) (w := w) (k := 0) (by first | decide | omega) (by first | decide | omega)
  have h1 := x_w1 (L := L) (xs := xs) (d := d) (S := S) (w := w) (k := 1) (by first | decide | omega) (by first | decide | omega)
  have h2 := x_w1 (L := L) (xs := xs) (d := d) (S := S) (w := w) (k := 2) (by first | decide | omega) (by first | decide | omega)
  have h3 := x_w1 (L := L) (xs := xs) (d := d) (S := S) (w := w) (k := 3) (by first | decide | omega) (by first | decide | omega)
  rw [q_65]
  refine (h0 0).trans ((h1 _).trans ((h2 _).trans ((h3 _).trans ?_)))
  rw [q_65_4, if_neg (by decide)]
  rfl
theorem m_w1 {w k : Nat} (hw : 4 * w + k < 400) (hk : k < 4) (a : Int) : LQ (WK L xs) (ev (WK L xs) d) 315 4 [some (vr 72), some (vi (w : Int)), some (vi a), some (vi (k : Int))] [] S = LQ (WK L xs) (ev (WK L xs) d) 315 4 [some (vr 72), some (vi (w : Int)), some (vi (ior (ishl a 8) (iand (S.2 73 (4 * w + k)) 255))), some (vi ((k + 1 : Nat) : Int))] [] S := by
  rw [q_315_4, if_pos (by first | decide | omega), w32e (x := 4 * (w : Int)) (by first | decide | omega) (by first | decide | omega), w32e (x := 4 * (w : Int) + (k : Int)) (by first | decide | omega) (by first | decide | omega), if_pos (by first | decide | omega), w32e (x := (k : Int) + 1) (by first | decide | omega) (by first | decide | omega), show (4 * (w : Int) + (k : Int)).toNat = 4 * w + k by omega, show (k : Int) + 1 = ((k + 1 : Nat) : Int) by omega]
theorem m_word {w : Nat} (hw : 4 * w + 3 < 400) : ev (WK L xs) (d + 1) 315 [vr 72, vi (w : Int)] S = some (wrd (S.2 73) w, S) := by
  have h0 := m_w1 (L := L) (xs := xs) (d := d) (S := S) (w := w) (k := 0) (by first | decide | omega) (by first | decide | omega)
  have h1 := m_w1 (L := L) (xs := xs) (d := d) (S := S) (w := w) (k := 1) (by first | decide | omega) (by first | decide | omega)
  have h2 := m_w1 (L := L) (xs := xs) (d := d) (S := S) (w := w) (k := 2) (by first | decide | omega) (by first | decide | omega)
  have h3 := m_w1 (L := L) (xs := xs) (d := d) (S := S) (w := w) (k := 3) (by first | decide | omega) (by first | decide | omega)
  rw [q_315]
  refine (h0 0).trans ((h1 _).trans ((h2 _).trans ((h3 _).trans ?_)))
  rw [q_315_4, if_neg (by decide)]
  rfl
theorem wrd_eq {t u : Nat → Int} {w : Nat} (h : ∀ k, k < 400 → t k = u k) (hw : 4 * w + 3 < 400) : wrd t w = wrd u w := by
  unfold wrd
  rw [h _ (show 4 * w < 400 by omega), h _ (show 4 * w + 1 < 400 by omega), h _ (show 4 * w + 2 < 400 by omega), h _ hw]
theorem chk_sim (gk : GK S) (gT : GK T) (gU : GK U) (hT : ∀ a, a ≠ 15 → T.2 a = S.2 a) (hU : ∀ a, a ≠ 15 → a ≠ 72 → U.2 a = S.2 a) (hU2 : ∀ k, k ≠ 1 → U.2 72 k = S.2 72 k) (ht : ∀ k, k < 400 → S.2 16 k = S.2 73 k) {y : Int} {n : Nat} (hn4 : 12 * n ≤ 400) : ∀ (m i k : Nat), (i : Int) + m = S.2 72 53 → (k : Int) = pR S.2 y i → k ≤ n → ∃ r, LQ (WK L xs) (ev (WK L xs) (d + 4)) 63 43 [some (vr 15), some (vi y), some (vi (n : Int)), some (vi (3 * (k : Int))), some (vi (i : Int)), none, none, none] [] T = some (r, T) ∧ LQ (WK L xs) (ev (WK L xs) (d + 4)) 313 37 [some (vr 72), some (vi y), some (vi (n : Int)), some (vi (k : Int)), none] [] U = some (r, U) := by
  obtain ⟨hn, hn3⟩ := nC gk
  have hpm := gk.1.2.1
  have epT : pin T.2 = pin S.2 := pin_fr (hT 115 (by first | decide | omega))
  have epU : pin U.2 = pin S.2 := pin_fr (hU 115 (by first | decide | omega) (by first | decide | omega))
  have eR : ∀ i, pR U.2 y i = pR S.2 y i := fun i => by unfold pR; rw [epU, hU 45 (by first | decide | omega) (by first | decide | omega)]
  have ernk : ∀ t c, rnk U.2 y t c = rnk S.2 y t c := fun t c => by unfold rnk; rw [epU, hU 117 (by first | decide | omega) (by first | decide | omega)]
  have eN : nClaims U.2 = nClaims S.2 := by unfold nClaims; rw [hU2 52 (by first | decide | omega)]
  have w3 : w32 (3 * (n : Int)) = 3 * (n : Int) := w32e (by first | decide | omega) (by first | decide | omega)
  intro m
  induction m with
  | zero =>
    intro i k him hk hkn
    have hno : ev (WK L xs) (d + 4) 314 [vr 72, vi y, vi (k : Int)] U = some (-1, U) := m_nth0 gU (by rw [eR, hU2 53 (by first | decide | omega), show (S.2 72 53).toNat = i by omega]; omega)
    have w3k : w32 (3 * (k : Int)) = 3 * (k : Int) := w32e (by first | decide | omega) (by first | decide | omega)
    rw [q_63_43, hT 43 (by first | decide | omega), gk.2.2.1, if_neg (by first | decide | omega), w3, q_313_37]
    by_cases hkk : k = n
    · subst hkk
      rw [if_pos rfl, if_neg (by first | decide | omega), hno, bR, if_pos rfl]
      exact ⟨-1, rfl, rfl⟩
    · rw [if_neg (by first | decide | omega), if_pos (by first | decide | omega), hno, bR, if_pos rfl, w3k]
      exact ⟨_, rfl, rfl⟩
  | succ m ih =>
    intro i k him hk hkn
    obtain ⟨p1, p2, p3, p4⟩ := gk.2.2.2.2.2.2.1 i (by first | decide | omega)
    obtain ⟨c, hc⟩ := Int.eq_ofNat_of_zero_le p1
    rw [hc] at p2
    rw [hc, Int.toNat_natCast] at p3 p4
    have hclT : (c : Int) < T.2 72 52 := by rw [hT 72 (by first | decide | omega)]; exact p2
    have hclU : (c : Int) < U.2 72 52 := by rw [hU2 52 (by first | decide | omega)]; exact p2
    have ho := gT.ob hclT
    have h5 := ho.1
    obtain ⟨a1, a2, a3, a4, a5, a6, a7, a8, a9, a10, -⟩ := gT.2.2.2.2.1 c hclT
    rw [hT 115 (by first | decide | omega)] at a9
    rw [hT 116 (by first | decide | omega)] at a10
    have e1 : (i : Int) + 1 = ((i + 1 : Nat) : Int) := by omega
    have w3k : w32 (3 * (k : Int)) = 3 * (k : Int) := w32e (by first | decide | omega) (by first | decide | omega)
    have hu : pR S.2 y (i + 1) = pR S.2 y i + if pin S.2 (S.2 45 i).toNat y = true then 1 else 0 := rfl
    rw [hc, Int.toNat_natCast] at hu
    have h92 : ev (WK L xs) (d + 4) 92 [vr 43, vi (i : Int)] T = some ((c : Int), T) := by
      rw [q_92, hT 43 (by first | decide | omega), gk.2.2.1, if_neg (by first | decide | omega), if_pos (by first | decide | omega), if_pos (by first | decide | omega), hT 45 (by first | decide | omega), Int.toNat_natCast, hc]
    rw [q_63_43, hT 43 (by first | decide | omega), gk.2.2.1, if_pos (by first | decide | omega), h92, bR, x_cl gT hclT, bR, Int.toNat_natCast, if_neg (by first | decide | omega), g14 ho, k12a ho, x_pin gT hclT, bR, epT, w3, w32e (x := (i : Int) + 1) (by first | decide | omega) (by first | decide | omega), e1, w32e (x := 3 * (k : Int) + 3) (by first | decide | omega) (by first | decide | omega)]
    simp only [bi_0]
    by_cases hp : pin S.2 c y = true
    · rw [if_pos hp] at hu
      have hrk : rnk S.2 y (S.2 117 c) (nClaims S.2) = k := by rw [p4, rnk_swap gk y i (by first | decide | omega), hk]
      have hnt : ev (WK L xs) (d + 4) 314 [vr 72, vi y, vi (k : Int)] U = some ((c : Int), U) := by
        have := m_nth1 (L := L) (xs := xs) (d := d + 2) gU (y := y) hclU (by rw [epU]; exact hp)
        rw [ernk, eN, hU 117 (by first | decide | omega) (by first | decide | omega), hrk] at this
        exact this
      rw [if_neg (fun z => z hp)]
      by_cases hkk : k = n
      · subst hkk
        rw [if_neg (by first | decide | omega), q_313_37, if_neg (by first | decide | omega), hnt, bR, if_neg (by first | decide | omega), w3k]
        exact ⟨_, rfl, rfl⟩
      · have hl : k < n := by omega
        have q0 : 4 * (3 * k) + 3 < 400 := by omega
        have q1 : 4 * (3 * k + 1) + 3 < 400 := by omega
        have q2 : 4 * (3 * k + 2) + 3 < 400 := by omega
        have k0 : (3 * (k : Int)) = ((3 * k : Nat) : Int) := by omega
        have k1 : w32 (3 * (k : Int) + 1) = ((3 * k + 1 : Nat) : Int) := by rw [w32e (by first | decide | omega) (by first | decide | omega)]; omega
        have k2 : w32 (3 * (k : Int) + 2) = ((3 * k + 2 : Nat) : Int) := by rw [w32e (by first | decide | omega) (by first | decide | omega)]; omega
        have x0 : ∀ d, ev (WK L xs) (d + 1) 65 [vr 15, vi (3 * (k : Int))] T = some (wrd (S.2 73) (3 * k), T) := fun d => by rw [k0, x_word q0, hT 16 (by first | decide | omega), wrd_eq ht q0]
        have x1 : ∀ d, ev (WK L xs) (d + 1) 65 [vr 15, vi ((3 * k + 1 : Nat) : Int)] T = some (wrd (S.2 73) (3 * k + 1), T) := fun d => by rw [x_word q1, hT 16 (by first | decide | omega), wrd_eq ht q1]
        have x2 : ∀ d, ev (WK L xs) (d + 1) 65 [vr 15, vi ((3 * k + 2 : Nat) : Int)] T = some (wrd (S.2 73) (3 * k + 2), T) := fun d => by rw [x_word q2, hT 16 (by first | decide | omega), wrd_eq ht q2]
        have m0 : ∀ d, ev (WK L xs) (d + 1) 315 [vr 72, vi (3 * (k : Int))] U = some (wrd (S.2 73) (3 * k), U) := fun d => by rw [k0, m_word q0, hU 73 (by first | decide | omega) (by first | decide | omega)]
        have m1 : ∀ d, ev (WK L xs) (d + 1) 315 [vr 72, vi ((3 * k + 1 : Nat) : Int)] U = some (wrd (S.2 73) (3 * k + 1), U) := fun d => by rw [m_word q1, hU 73 (by first | decide | omega) (by first | decide | omega)]
        have m2 : ∀ d, ev (WK L xs) (d + 1) 315 [vr 72, vi ((3 * k + 2 : Nat) : Int)] U = some (wrd (S.2 73) (3 * k + 2), U) := fun d => by rw [m_word q2, hU 73 (by first | decide | omega) (by first | decide | omega)]
        have hc3 : (0 : Int) ≤ (c : Int) ∧ (c : Int) < 300 := by omega
        have e2 : (k : Int) + 1 = ((k + 1 : Nat) : Int) := by omega
        obtain ⟨r, i1, i2⟩ := ih (i + 1) (k + 1) (by first | decide | omega) (by first | decide | omega) (by first | decide | omega)
        rw [show 3 * ((k + 1 : Nat) : Int) = 3 * (k : Int) + 3 by omega] at i1
        rw [if_pos (by first | decide | omega), q_64, x0, bR, k1, x1, bR, k12 ho, rdvD h5, a10, k2, x2, bR, k12 ho, rdvD h5, a9, q_313_37, if_pos (show (k : Int) < (n : Int) by omega), hnt, bR, if_neg (show ¬ (c : Int) = -1 by omega), w3k, m0, bR, k1, m1, bR, if_pos hc3, k2, m2, bR, if_pos hc3, hU 116 (by first | decide | omega) (by first | decide | omega), hU 115 (by first | decide | omega) (by first | decide | omega), Int.toNat_natCast, w32e (x := (k : Int) + 1) (by first | decide | omega) (by first | decide | omega), e2]
        by_cases z0 : wrd (S.2 73) (3 * k) = c
        · rw [if_pos z0, if_pos z0]
          by_cases z1 : wrd (S.2 73) (3 * k + 1) = S.2 116 c
          · rw [if_pos z1, if_pos z1]
            by_cases z2 : wrd (S.2 73) (3 * k + 2) = S.2 115 c
            · rw [if_pos z2, if_pos z2, bR, if_pos rfl]
              exact ⟨r, i1, i2⟩
            · rw [if_neg z2, if_neg z2, bR, if_neg (by first | decide | omega)]
              exact ⟨_, rfl, rfl⟩
          · rw [if_neg z1, if_neg z1, bR, if_neg (by first | decide | omega)]
            exact ⟨_, rfl, rfl⟩
        · rw [if_neg z0, if_neg z0, bR, if_neg (by first | decide | omega)]
          exact ⟨_, rfl, rfl⟩
    · rw [if_neg hp, Int.add_zero] at hu
      rw [if_pos hp]
      exact ih (i + 1) k (by first | decide | omega) (by first | decide | omega) hkn
theorem o_check (H : Inv S) (p q : Int) (hq2 : -2147483648 ≤ q ∧ q ≤ 2147483647) : Ok L xs 63 313 [vi p, vi q] S := by
  have gk := H.gk
  obtain ⟨b1, b2, b3, b4⟩ := H.gb
  have hpm := gk.1.2.1
  have hd : idiv (S.2 72 1) 12 = S.2 72 1 / 12 := by
    unfold idiv
    rw [Int.tdiv_eq_ediv_of_nonneg b2, w32e (by first | decide | omega) (by first | decide | omega)]
  by_cases hc : (0 ≤ p ∧ p < 10) ∧ 0 ≤ q ∧ 12 * q ≤ S.2 72 1
  · obtain ⟨h1, h2, h3⟩ := hc
    obtain ⟨n, hn⟩ := Int.eq_ofNat_of_zero_le h2
    subst hn
    have hT : ∀ a, a ≠ 15 → (wr S 15 4 0).2 a = S.2 a := fun a ha => wr_c ha
    have hU : ∀ a, a ≠ 15 → a ≠ 72 → (wr (wr S 15 4 0) 72 1 0).2 a = S.2 a := fun a q1 q2 => by rw [wr_c q2, wr_c q1]
    have hU2 : ∀ k, k ≠ 1 → (wr (wr S 15 4 0) 72 1 0).2 72 k = S.2 72 k := fun k hk => by rw [wr_f, if_neg hk, wr_c (by decide)]
    have gT : GK (wr S 15 4 0) := gk.fr (Fr.wr (by decide)) (fun a ha => hT a (by unfold lvk at ha; omega)) (fun k _ => by rw [hT 72 (by decide)]) (by unfold HM; rw [hT 72 (by decide)]; omega)
    have gU : GK (wr (wr S 15 4 0) 72 1 0) := gk.fr ((Fr.wr (by decide)).tr (Fr.wr (by decide))) (fun a ha => hU a (by unfold lvk at ha; omega) (by unfold lvk at ha; omega)) (fun k hk => hU2 k (by unfold lvf at hk; omega)) (by unfold HM; rw [hU2 4 (by decide), hU2 5 (by decide)]; omega)
    obtain ⟨r, x1, m1⟩ := chk_sim (L := L) (xs := xs) (d := 195) gk gT gU hT hU hU2 b4 (y := p) (n := n) (by first | decide | omega) (S.2 72 53).toNat 0 0 (by first | decide | omega) rfl (by first | decide | omega)
    refine ⟨r, wr S 15 4 0, wr (wr S 15 4 0) 72 1 0, ?_, ?_, ?_, Gw.of rfl⟩
    · rw [q_63, x_isYear, bR]
      simp only [bi_0, lc_gt]
      rw [if_neg (fun z => z h1), if_neg (by first | decide | omega), b1, w64e (x := (n : Int) * 3) (by first | decide | omega) (by first | decide | omega), w64e (by first | decide | omega) (by first | decide | omega), if_neg (by first | decide | omega)]
      exact x1
    · rw [q_313, m_lies, bR]
      simp only [bi_0]
      rw [if_neg (by first | decide | omega), if_neg (by first | decide | omega), hT 72 (by decide), hd, if_neg (by first | decide | omega)]
      exact m1
    · refine Inv.upd H ?_ (fun a ha => ?_) (fun k hk => ?_) ?_ ?_ ?_ ?_ ?_ ?_ ?_ ?_ ?_
      · repeat' first | exact Fr.rf | exact Fr.wr (by decide) | refine Fr.tr ?_ (Fr.wr (by decide))
      · unfold lvk at ha
        repeat rw [wr_c (by first | decide | omega)]
      · unfold lvf at hk
        rcases hk with rfl | rfl | rfl | rfl | rfl | rfl <;> simp [wr_c, wr_f]
      · simp [HM, wr_c, wr_f]
      · exact H.gt.fr (by simp [wr_c, wr_f]) (by simp [wr_c, wr_f])
      · exact H.gc.fr (by simp [wr_c, wr_f]) (by simp [wr_c, wr_f])
      · exact H.gx.fr (by simp [wr_c, wr_f]) (by simp [wr_c, wr_f])
      · unfold GB
        simp [wr_c, wr_f]
        exact b4
      · exact H.gp.fr (by simp [wr_c, wr_f]) (by simp [wr_c, wr_f]) (fun a ha => by repeat rw [wr_c (by first | decide | omega)])
      · exact H.gu.fr (by simp [wr_c, wr_f]) (by simp [wr_c, wr_f]) (by simp [wr_c, wr_f]) (fun a ha => by repeat rw [wr_c (by first | decide | omega)])
      · exact H.gw.fr (by simp [wr_c, wr_f]) (by simp [wr_c, wr_f]) (by simp [wr_c, wr_f]) (by simp [wr_c, wr_f]) (fun a ha => by repeat rw [wr_c (by first | decide | omega)])
      · exact H.gn.fr (by simp [wr_c, wr_f]) (by simp [wr_c, wr_f]) (by simp [wr_c, wr_f]) (by simp [wr_c, wr_f]) (by simp [wr_c, wr_f]) (by simp [wr_c, wr_f]) (fun a ha => by repeat rw [wr_c (by first | decide | omega)])
  · refine Ok.same (r := -2) H ?_ ?_
    · rw [q_63, x_isYear, bR]
      simp only [bi_0, lc_gt]
      rw [b1]
      by_cases h1 : 0 ≤ p ∧ p < 10
      · rw [if_neg (fun z => z h1)]
        by_cases h2 : q < 0
        · rw [if_pos h2]
        · rw [if_neg h2, w64e (x := q * 3) (by first | decide | omega) (by first | decide | omega), w64e (by first | decide | omega) (by first | decide | omega), if_pos (by first | decide | omega)]
      · rw [if_pos h1]
    · rw [q_313, m_lies, bR]
      simp only [bi_0]
      rw [hd]
      by_cases h1 : 0 ≤ p ∧ p ≤ 9
      · rw [if_neg (fun z => z h1)]
        by_cases h2 : q < 0
        · rw [if_pos h2]
        · rw [if_neg h2, if_pos (by first | decide | omega)]
      · rw [if_pos h1]
end
