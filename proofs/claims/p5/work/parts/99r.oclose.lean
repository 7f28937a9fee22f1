/-! close: the call -/
section
variable {L : Nat} {xs : Nat → Int} {d : Nat} {S J T U W A : AH}
theorem cyJ_72 {n v : Nat} {y pt : Int} (j : Nat) : (cyJ J n v y pt).2 72 j = if j = 40 then (n : Int) + 1 else J.2 72 j := by
  rw [cyJ_r (by decide), adH_72]
theorem cyJ_lo {n v a : Nat} {y pt : Int} (i1 : 151 ≤ J.1.1) (h : a < 72) (h1 : a ≠ 36) (h2 : a ≠ 37) : (cyJ J n v y pt).2 a = J.2 a := by
  have e : (cyJ J n v y pt).2 a = (wr (wr (auS J 2 (J.2 98 v) (min (cyV J.2 v y pt) 1000000000) (y + 1) (J.2 72 2) (J.2 (auA J v) 5).toNat (-1)) 37 n (J.1.1 : Int)) 36 1 ((n : Int) + 1)).2 a := if_neg (by first | decide | omega)
  rw [e, wr_c h1, wr_c h2, (auS_hi (by first | decide | omega)).2]
theorem cyJ_sz {n v : Nat} {y pt : Int} : (cyJ J n v y pt).1.1 = J.1.1 + 2 ∧ (cyJ J n v y pt).1.2.1 = J.1.2.1 + 24 := ⟨rfl, rfl⟩
theorem cyJ_fr {n v : Nat} {y pt : Int} : Fr J (cyJ J n v y pt) := by
  refine ⟨by rw [cyJ_sz.1]; omega, fun a q1 q2 => ⟨?_, ?_⟩⟩
  · show (if a = J.1.1 + 1 then ((3, 10) : Nat × Nat) else if a = J.1.1 then (11, 14) else J.1.2.2 a) = _
    rw [if_neg (by first | decide | omega), if_neg (by first | decide | omega)]
  · have e : (cyJ J n v y pt).2 a = (wr (wr (auS J 2 (J.2 98 v) (min (cyV J.2 v y pt) 1000000000) (y + 1) (J.2 72 2) (J.2 (auA J v) 5).toNat (-1)) 37 n (J.1.1 : Int)) 36 1 ((n : Int) + 1)).2 a := if_neg (by first | decide | omega)
    rw [e, wr_c (by first | decide | omega), wr_c (by first | decide | omega), (auS_hi q2).2]
theorem cl_both {n0 : Nat} {y pt : Int} (hy : 0 ≤ y ∧ y < 9) : ∀ (m v k : Nat) (J : AH), v + m = n0 → k ≤ v → Inv J → (n0 : Int) ≤ J.2 72 40 → ∃ (J' : AH) (r : Int), Inv J' ∧ Fr J J' ∧ (J'.1.1 ≤ J.1.1 + 2 * m ∧ J'.1.2.1 ≤ J.1.2.1 + 24 * m) ∧ (∀ a, a < 72 → a ≠ 36 → a ≠ 37 → J'.2 a = J.2 a) ∧ (∀ j, j ≠ 40 → J'.2 72 j = J.2 72 j) ∧
    (∀ T, XR J T → ∃ T', LQ (WK L xs) (ev (WK L xs) 199) 62 65 [some (vr 15), some (vi y), some (vi pt), some (vi (n0 : Int)), some (vi (k : Int)), some (vi (v : Int)), none, none, none] [] T = some (r, T') ∧ XR J' T' ∧ T'.2 15 = T.2 15 ∧ ∀ a, (72 ≤ a ∧ a < 151) ∨ a = 35 → T'.2 a = T.2 a) ∧
    (∀ W, MR J W → ∃ W', LQ (WK L xs) (ev (WK L xs) 199) 311 47 [some (vr 72), some (vi y), some (vi pt), some (vi (n0 : Int)), some (vi (k : Int)), some (vi (v : Int)), none, none, none] [] W = some (r, wr W' 72 106 (w32 (J.2 72 106 + 1))) ∧ MR J' W' ∧ W'.1 = W.1 ∧ ∀ a, a < 72 ∨ 151 ≤ a ∨ a = 96 → W'.2 a = W.2 a) := by
  intro m
  induction m with
  | zero =>
    intro v k J hv hk H hn
    refine ⟨J, k, H, Fr.rf, ⟨by omega, by omega⟩, fun _ _ _ _ => rfl, fun _ _ => rfl, fun T p => ⟨T, ?_, p, rfl, fun _ _ => rfl⟩, fun W p => ⟨W, ?_, p, rfl, fun _ _ => rfl⟩⟩
    · rw [q_62_65, if_neg (by first | decide | omega)]
    · rw [q_311_47, if_neg (by first | decide | omega), p 72 (by decide) (by decide) (by decide)]
  | succ m ih =>
    intro v k J hv hk H hn
    have h80 := H.gv.1.1
    by_cases c0 : J.2 72 40 < 80
    rotate_left
    · refine ⟨J, k, H, Fr.rf, ⟨by omega, by omega⟩, fun _ _ _ _ => rfl, fun _ _ => rfl, fun T p => ⟨T, ?_, p, rfl, fun _ _ => rfl⟩, fun W p => ⟨W, ?_, p, rfl, fun _ _ => rfl⟩⟩
      · exact x_clF H p c0 hn hy (m + 1) v hv hk
      · exact (m_clS (L := L) (xs := xs) H p (v := v) (n0 := n0) (k := k) (by first | decide | omega) hn hk hy (pt := pt)).2.2 c0
    by_cases cP : cyP J.2 v y pt
    · obtain ⟨n, hnn⟩ := Int.eq_ofNat_of_zero_le h80.1
      have hn80 : n < 80 := by omega
      have HJ := H.cyJ hnn hn80 (show v < n by omega) hy cP.2.2.2
      have i1 := H.1
      obtain ⟨s1, s2⟩ := cyJ_sz (J := J) (n := n) (v := v) (y := y) (pt := pt)
      obtain ⟨J', r, j1, j2, j3, j4, j5, jT, jW⟩ := ih (v + 1) (k + 1) (cyJ J n v y pt) (by first | decide | omega) (by first | decide | omega) HJ (by rw [cyJ_72, if_pos rfl]; omega)
      refine ⟨J', r, j1, cyJ_fr.tr j2, ⟨by omega, by omega⟩, fun a q1 q2 q3 => by rw [j4 a q1 q2 q3, cyJ_lo i1 q1 q2 q3], fun j q => by rw [j5 j q, cyJ_72, if_neg q], fun T p => ?_, fun W p => ?_⟩
      · obtain ⟨T1, t1, t2, t3, t4⟩ := (x_clS (L := L) (xs := xs) H p (v := v) (n0 := n0) (k := k) (by first | decide | omega) hn hk hy (pt := pt)).2 n hnn hn80 cP
        obtain ⟨T2, u1, u2, u3, u4⟩ := jT T1 t2
        exact ⟨T2, t1.trans u1, u2, u3.trans t3, fun a q => (u4 a q).trans (t4 a q)⟩
      · obtain ⟨W1, t1, t2, t3, t4⟩ := (m_clS (L := L) (xs := xs) H p (v := v) (n0 := n0) (k := k) (by first | decide | omega) hn hk hy (pt := pt)).2.1 n hnn hn80 cP
        obtain ⟨W2, u1, u2, u3, u4⟩ := jW W1 t2
        rw [cyJ_72, if_neg (by decide)] at u1
        exact ⟨W2, t1.trans u1, u2, u3.trans t3, fun a q => (u4 a q).trans (t4 a q)⟩
    · obtain ⟨J', r, j1, j2, j3, j4, j5, jT, jW⟩ := ih (v + 1) k J (by first | decide | omega) (by first | decide | omega) H hn
      refine ⟨J', r, j1, j2, ⟨by omega, by omega⟩, j4, j5, fun T p => ?_, fun W p => ?_⟩
      · obtain ⟨T2, u1, u2⟩ := jT T p
        exact ⟨T2, ((x_clS (L := L) (xs := xs) H p (v := v) (n0 := n0) (k := k) (by first | decide | omega) hn hk hy (pt := pt)).1 (fun z => cP z.1)).trans u1, u2⟩
      · obtain ⟨W2, u1, u2⟩ := jW W p
        exact ⟨W2, ((m_clS (L := L) (xs := xs) H p (v := v) (n0 := n0) (k := k) (by first | decide | omega) hn hk hy (pt := pt)).1 c0 cP).trans u1, u2⟩
theorem Inv.clo (H : Inv S) {c : Int} (hc : 0 ≤ c ∧ c ≤ 9) : Inv (wr (wr S 15 2 c) 72 106 c) := by
  refine Inv.upd H ?_ (fun a ha => ?_) (fun k hk => ?_) ?_ ?_ ?_ ?_ ?_ ?_ ?_ ?_ ?_
  · repeat' first | exact Fr.rf | exact Fr.wr (by decide) | refine Fr.tr ?_ (Fr.wr (by decide))
  · unfold lvk at ha
    repeat rw [wr_c (by first | decide | omega)]
  · unfold lvf at hk
    rcases hk with rfl | rfl | rfl | rfl | rfl | rfl <;> simp [wr_c, wr_f]
  · simp [HM, wr_c, wr_f]
  · exact H.gt.fr (by simp [wr_c, wr_f]) (by simp [wr_c, wr_f])
  · exact H.gc.fr (by simp [wr_c, wr_f]) (by simp [wr_c, wr_f])
  · simp [GX, wr_c, wr_f]
    omega
  · exact H.gb.fr (by simp [wr_c, wr_f]) (by simp [wr_c, wr_f]) (by simp [wr_c, wr_f]) (by simp [wr_c, wr_f])
  · exact H.gp.fr (by simp [wr_c, wr_f]) (by simp [wr_c, wr_f]) (fun a ha => by repeat rw [wr_c (by first | decide | omega)])
  · exact H.gu.fr (by simp [wr_c, wr_f]) (by simp [wr_c, wr_f]) (by simp [wr_c, wr_f]) (fun a ha => by repeat rw [wr_c (by first | decide | omega)])
  · exact H.gw.fr (by simp [wr_c, wr_f]) (by simp [wr_c, wr_f]) (by simp [wr_c, wr_f]) (by simp [wr_c, wr_f]) (fun a ha => by repeat rw [wr_c (by first | decide | omega)])
  · exact H.gn.fr (by simp [wr_c, wr_f]) (by simp [wr_c, wr_f]) (by simp [wr_c, wr_f]) (by simp [wr_c, wr_f]) (by simp [wr_c, wr_f]) (by simp [wr_c, wr_f]) (fun a ha => by repeat rw [wr_c (by first | decide | omega)])
theorem o_close (H : Inv S) (p : Int) : Ok L xs 62 311 [vi p] S := by
  have gx := H.gx
  have ht := H.gt
  have gv := H.gv
  have hyN := H.yN
  have i1 := H.1
  have yd : idiv (S.2 72 2) 360 = yr (S.2 72 2) := rfl
  by_cases c1 : p = S.2 72 106
  rotate_left
  · refine Ok.same (r := -1) H ?_ ?_
    · rw [q_62, gx.1, if_neg c1]
    · rw [q_311, if_neg c1]
  by_cases c2 : p < yr (S.2 72 2)
  rotate_left
  · refine Ok.same (r := -1) H ?_ ?_
    · rw [q_62, gx.1, if_pos c1, ht.1, x_yearOf, bR, if_neg c2]
    · rw [q_311, if_pos c1, m_year, bR, yd, if_neg c2]
  have gx2 := gx.2.1
  have hy : 0 ≤ p ∧ p < 9 := by omega
  have h80 := gv.1.1
  obtain ⟨n0, hn0⟩ := Int.eq_ofNat_of_zero_le h80.1
  have ed : w32 (w32 (w32 (p * 360) + 360) - 1) = p * 360 + 359 := by
    rw [w32e (x := p * 360) (by first | decide | omega) (by first | decide | omega), w32e (x := p * 360 + 360) (by first | decide | omega) (by first | decide | omega), w32e (by first | decide | omega) (by first | decide | omega)]
    omega
  have ed2 : w32 (w32 (w32 (360 * p) + 360) - 1) = p * 360 + 359 := by
    rw [Int.mul_comm 360 p]
    exact ed
  have ep : w32 (p + 1) = p + 1 := w32e (by first | decide | omega) (by first | decide | omega)
  -- the class: the number
  have glB : GL (wr S 15 2 (p + 1)) := H.gl.fr (Fr.wr (by decide)) (fun a q => wr_c (by unfold lvk at q; omega)) (fun k _ => by rw [wr_c (by decide)])
  obtain ⟨T0, t1, t2, t3⟩ := x_nmb (L := L) (xs := xs) (d := 194) glB (k := 1) (by decide) (p * 360 + 359)
  have eB : ∀ a, a ≠ 15 → (wr S 15 2 (p + 1)).2 a = S.2 a := fun a q => wr_c q
  rw [nmb_fr (h := S.2) 1 _ (eB 78 (by decide)) (eB 79 (by decide)) (eB 80 (by decide)) (eB 81 (by decide)) (eB 94 (by decide)) (eB 95 (by decide)) (by rw [eB 72 (by decide)])] at t1
  generalize hpt : nmb S.2 1 (p * 360 + 359) = pt at t1
  have T0c : ∀ a, a ≠ 15 → a ≠ 35 → T0.2 a = S.2 a := fun a q1 q2 => by rw [t3 a q2, eB a q1]
  have T015 : ∀ j, T0.2 15 j = if j = 2 then p + 1 else S.2 15 j := fun j => by rw [t3 15 (by decide), wr_f]
  have hXR : XR S T0 := ⟨t2, fun a q => T0c a (by first | decide | omega) (by first | decide | omega), by rw [T015, if_neg (by decide), ht.1]⟩
  obtain ⟨J, r, j1, j2, j3, j4, j5, jT, jW⟩ := cl_both (L := L) (xs := xs) (n0 := n0) (y := p) (pt := pt) hy n0 0 0 S (by first | decide | omega) (Nat.le_refl 0) H (by first | decide | omega)
  obtain ⟨T, x1, x2, x3, x4⟩ := jT T0 hXR
  have xx : ev (WK L xs) 200 62 [vr 15, vi p] S = some (r, T) := by
    rw [q_62, gx.1, if_pos c1, ht.1, x_yearOf, bR, if_pos c2, ed, gx.1, ← c1, ep, show ev (WK L xs) 199 108 [vr 31, vi 1, vi (p * 360 + 359)] (wr S 15 2 (p + 1)) = some (pt, T0) from t1, bR, T0c 36 (by decide) (by decide), gv.2.1, hn0]
    exact x1
  -- the reference
  have Tr : ∀ a, 72 ≤ a → a < 151 → T.2 a = S.2 a := fun a q1 q2 => by rw [x4 a (Or.inl ⟨q1, q2⟩), T0c a (by first | decide | omega) (by first | decide | omega)]
  have hFx : Fx (fun _ => False) S T := ⟨by rw [x2.1]; exact j2.1, fun a q1 q2 => ⟨by rw [x2.1, (j2.2 a q1 q2).1], fun _ => by rw [x2.hi q1, (j2.2 a q1 q2).2]⟩⟩
  have glT : GL T := H.gl.fx hFx (fun a q => q.elim) (fun a q => by
    by_cases c : a < 72
    · rw [x2.lo c (by first | decide | omega) (by first | decide | omega), j4 a c (by first | decide | omega) (by first | decide | omega)]
    · exact Tr a (by first | decide | omega) (by first | decide | omega)) (by rw [Tr 72 (by decide) (by decide)]) (fun t x _ q => q.cells (fun a q1 q2 => Tr a (by first | decide | omega) (by first | decide | omega)))
  obtain ⟨A, a1, a2, a3⟩ := m_nmb (L := L) (xs := xs) (d := 195) glT (k := 1) (by decide) (p * 360 + 359)
  rw [nmb_fr (h := S.2) 1 _ (Tr 78 (by decide) (by decide)) (Tr 79 (by decide) (by decide)) (Tr 80 (by decide) (by decide)) (Tr 81 (by decide) (by decide)) (Tr 94 (by decide) (by decide)) (Tr 95 (by decide) (by decide)) (by rw [Tr 72 (by decide) (by decide)]), hpt] at a1
  have hMR : MR S A := fun a q1 q2 q3 => by rw [a3 a q3, Tr a q1 q2]
  obtain ⟨V, v1, v2, v3, v4⟩ := jW A hMR
  have T72 := Tr 72 (by decide) (by decide)
  have mm : ev (WK L xs) 200 311 [vr 72, vi p] T = some (r, wr V 72 106 (w32 (S.2 72 106 + 1))) := by
    rw [q_311, T72, if_pos c1, m_year, bR, T72, yd, if_pos c2, ed2, show ev (WK L xs) 199 236 [vr 72, vi 99, vi (p * 360 + 359)] T = some (pt, A) from a1, bR, hMR 72 (by decide) (by decide) (by decide), hn0]
    exact v1
  rw [← c1, ep] at mm
  have F1 : V.1 = J.1 := v3.trans (a2.trans x2.1)
  obtain ⟨E, hE⟩ : ∃ E : AH, E = (J.1, fun a => if a = 35 ∨ a = 96 then V.2 a else J.2 a) := ⟨_, rfl⟩
  have E1 : E.1 = J.1 := by rw [hE]
  have Eo : ∀ a, a ≠ 35 → a ≠ 96 → E.2 a = J.2 a := fun a q1 q2 => by rw [hE]; exact if_neg (by first | decide | omega)
  have Ei : ∀ a, a = 35 ∨ a = 96 → E.2 a = V.2 a := fun a q => by rw [hE]; exact if_pos q
  have HE : Inv E := j1.scr (Fr.eq E1 (fun a q => Eo a (by first | decide | omega) (by first | decide | omega))) (fun a k q1 q2 => by rw [Eo a (fun e => q2 (by unfold scr; omega)) (fun e => q2 (by unfold scr; omega))])
  have hF : wr V 72 106 (p + 1) = wr (wr E 15 2 (p + 1)) 72 106 (p + 1) := by
    refine Prod.ext (F1.trans E1.symm) (funext fun a => funext fun j => ?_)
    by_cases c72 : a = 72
    · subst c72
      rw [wr_f, wr_f, wr_c (by decide), Eo 72 (by decide) (by decide), v2 72 (by decide) (by decide) (by decide)]
    rw [wr_c c72, wr_c c72]
    by_cases c15 : a = 15
    · subst c15
      rw [wr_f, v4 15 (Or.inl (by decide)), a3 15 (by decide), x3, T015, Eo 15 (by decide) (by decide), j4 15 (by decide) (by decide) (by decide)]
    rw [wr_c c15]
    by_cases cs : a = 35 ∨ a = 96
    · rw [Ei a cs]
    rw [Eo a (by first | decide | omega) (by first | decide | omega)]
    by_cases cr : 72 ≤ a ∧ a < 151
    · rw [v2 a cr.1 cr.2 (by first | decide | omega)]
    · rw [v4 a (by first | decide | omega), a3 a (by first | decide | omega), x2.2.1 a (by first | decide | omega)]
  rw [hF] at mm
  refine ⟨r, T, _, xx, mm, HE.clo (by first | decide | omega), ?_⟩
  unfold Gw
  show E.1.1 ≤ S.1.1 + 1000 ∧ E.1.2.1 ≤ S.1.2.1 + 10000
  rw [E1]
  omega
end
