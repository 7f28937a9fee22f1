/-! feed -/
noncomputable def bts (p : Int) (i : Nat) : Int := w8 (w8 (ishr p (24 - 8 * i)))
noncomputable def pt (S : AH) (A l1 l2 m : Nat) (b : Int) : AH := wr (wr S A m b) l1 l2 (m + 1)
noncomputable def ap (f : Nat → Int) (n : Nat) (p : Int) : Nat → Int := fun k => if n ≤ k ∧ k < n + 4 then bts p (k - n) else f k
/-- one int behind the tape's end -/
noncomputable def Tw (S S' : AH) (A l1 l2 n : Nat) (p : Int) : Prop := S'.1 = S.1 ∧ S'.2 l1 l2 = n + 4 ∧ S'.2 A = ap (S.2 A) n p ∧ ∀ a k, a ≠ A → ¬ (a = l1 ∧ k = l2) → S'.2 a k = S.2 a k
theorem Tw.of {S : AH} {A l1 l2 n : Nat} (h : A ≠ l1) (p : Int) : Tw S (pt (pt (pt (pt S A l1 l2 n (bts p 0)) A l1 l2 (n + 1) (bts p 1)) A l1 l2 (n + 2) (bts p 2)) A l1 l2 (n + 3) (bts p 3)) A l1 l2 n p := by
  refine ⟨rfl, ?_, ?_, fun a k h1 h2 => ?_⟩
  · unfold pt
    rw [wr_f, if_pos rfl]
    omega
  · funext k
    unfold pt
    simp only [wr_c h, wr_f, ap]
    by_cases e0 : k = n + 3
    · subst e0
      rw [if_pos rfl, if_pos (by first | decide | omega), show n + 3 - n = 3 by omega]
    · rw [if_neg e0]
      by_cases e1 : k = n + 2
      · subst e1
        rw [if_pos rfl, if_pos (by first | decide | omega), show n + 2 - n = 2 by omega]
      · rw [if_neg e1]
        by_cases e2 : k = n + 1
        · subst e2
          rw [if_pos rfl, if_pos (by first | decide | omega), show n + 1 - n = 1 by omega]
        · rw [if_neg e2]
          by_cases e3 : k = n
          · subst e3
            rw [if_pos rfl, if_pos (by first | decide | omega), show k - k = 0 by omega]
          · rw [if_neg e3, if_neg (by first | decide | omega)]
  · unfold pt
    simp only [wr_2]
    simp only [h1, h2, false_and, if_false]
section
variable {L : Nat} {xs : Nat → Int} {d : Nat} {S : AH}
theorem x_fd1 {p x : Int} {m : Nat} (h : S.2 15 4 = m) (hm : m < 400) (hx : 0 ≤ x) (hx2 : x ≤ 3) : LQ (WK L xs) (ev (WK L xs) d) 8 2 [some (vr 15), some (vi p), some (vi x)] [] S = LQ (WK L xs) (ev (WK L xs) d) 8 2 [some (vr 15), some (vi p), some (vi (x - 1))] [] (pt S 16 15 4 m (w8 (w8 (ishr p (8 * x))))) := by
  rw [q_8_2, h, if_neg (by first | decide | omega), if_pos (by first | decide | omega), if_pos (by first | decide | omega), w32e (x := x + -1) (by first | decide | omega) (by first | decide | omega), w32e (x := 8 * x) (by first | decide | omega) (by first | decide | omega), w32e (x := (m : Int) + 1) (by first | decide | omega) (by first | decide | omega), Int.toNat_natCast]
  rfl
theorem pt_sz {A l1 l2 m : Nat} {b : Int} : (pt S A l1 l2 m b).2 l1 l2 = ((m + 1 : Nat) : Int) := by
  unfold pt
  rw [wr_f, if_pos rfl]
  omega
theorem x_feedInt (p : Int) {n : Nat} (h : S.2 15 4 = n) (hn : n ≤ 396) : ∃ S', ev (WK L xs) (d + 1) 8 [vr 15, vi p] S = some (0, S') ∧ Tw S S' 16 15 4 n p := by
  refine ⟨_, ?_, Tw.of (by decide) p⟩
  rw [q_8, x_fd1 h (by first | decide | omega) (by first | decide | omega) (by first | decide | omega), x_fd1 pt_sz (by first | decide | omega) (by first | decide | omega) (by first | decide | omega), x_fd1 pt_sz (by first | decide | omega) (by first | decide | omega) (by first | decide | omega), x_fd1 pt_sz (by first | decide | omega) (by first | decide | omega) (by first | decide | omega), q_8_2, if_pos (by first | decide | omega)]
  rfl
theorem m_fd1 {p x : Int} {m : Nat} (h : S.2 72 1 = m) (hm : m < 400) (hx : 0 ≤ x) (hx2 : x ≤ 24) : LQ (WK L xs) (ev (WK L xs) d) 202 3 [some (vr 72), some (vi p), some (vi x)] [] S = LQ (WK L xs) (ev (WK L xs) d) 202 3 [some (vr 72), some (vi p), some (vi (x - 8))] [] (pt S 73 72 1 m (w8 (w8 (ishr p x)))) := by
  rw [q_202_3, h, if_neg (by first | decide | omega), if_pos (by first | decide | omega), w32e (x := x + -8) (by first | decide | omega) (by first | decide | omega), w32e (x := (m : Int) + 1) (by first | decide | omega) (by first | decide | omega), Int.toNat_natCast]
  rfl
theorem m_push (p : Int) {n : Nat} (h : S.2 72 1 = n) (hn : n ≤ 396) : ∃ S', ev (WK L xs) (d + 1) 202 [vr 72, vi p] S = some (0, S') ∧ Tw S S' 73 72 1 n p := by
  refine ⟨_, ?_, Tw.of (by decide) p⟩
  rw [q_202, m_fd1 h (by first | decide | omega) (by first | decide | omega) (by first | decide | omega), m_fd1 pt_sz (by first | decide | omega) (by first | decide | omega) (by first | decide | omega), m_fd1 pt_sz (by first | decide | omega) (by first | decide | omega) (by first | decide | omega), m_fd1 pt_sz (by first | decide | omega) (by first | decide | omega) (by first | decide | omega), q_202_3, if_pos (by first | decide | omega)]
  rfl
noncomputable def ap5 (f : Nat → Int) (n : Nat) (a b c e g : Int) : Nat → Int := ap (ap (ap (ap (ap f n a) (n + 4) b) (n + 8) c) (n + 12) e) (n + 16) g
noncomputable def Tw5 (S S' : AH) (A l1 l2 n : Nat) (a b c e g : Int) : Prop := S'.1 = S.1 ∧ S'.2 l1 l2 = n + 20 ∧ S'.2 A = ap5 (S.2 A) n a b c e g ∧ ∀ a k, a ≠ A → ¬ (a = l1 ∧ k = l2) → S'.2 a k = S.2 a k
theorem Tw5.of {S0 S1 S2 S3 S4 S5 : AH} {A l1 l2 n : Nat} {a b c e g : Int} (h1 : Tw S0 S1 A l1 l2 n a) (h2 : Tw S1 S2 A l1 l2 (n + 4) b) (h3 : Tw S2 S3 A l1 l2 (n + 8) c) (h4 : Tw S3 S4 A l1 l2 (n + 12) e) (h5 : Tw S4 S5 A l1 l2 (n + 16) g) : Tw5 S0 S5 A l1 l2 n a b c e g := by
  refine ⟨by rw [h5.1, h4.1, h3.1, h2.1, h1.1], by rw [h5.2.1]; omega, by rw [h5.2.2.1, h4.2.2.1, h3.2.2.1, h2.2.2.1, h1.2.2.1]; rfl, fun x k q1 q2 => ?_⟩
  rw [h5.2.2.2 x k q1 q2, h4.2.2.2 x k q1 q2, h3.2.2.2 x k q1 q2, h2.2.2.2 x k q1 q2, h1.2.2.2 x k q1 q2]
theorem x_feed {n : Nat} (a b c e g : Int) (h : S.2 15 4 = n) (hn : n ≤ 380) : ∃ S', ev (WK L xs) (d + 2) 7 [vr 15, vi a, vi b, vi c, vi e, vi g] S = some ((n : Int) + 20, S') ∧ Tw5 S S' 16 15 4 n a b c e g := by
  obtain ⟨S1, e1, f1⟩ := x_feedInt (L := L) (xs := xs) (d := d) a h (by first | decide | omega)
  obtain ⟨S2, e2, f2⟩ := x_feedInt (L := L) (xs := xs) (d := d) (n := n + 4) b f1.2.1 (by first | decide | omega)
  obtain ⟨S3, e3, f3⟩ := x_feedInt (L := L) (xs := xs) (d := d) (n := n + 8) c (by rw [f2.2.1]; omega) (by first | decide | omega)
  obtain ⟨S4, e4, f4⟩ := x_feedInt (L := L) (xs := xs) (d := d) (n := n + 12) e (by rw [f3.2.1]; omega) (by first | decide | omega)
  obtain ⟨S5, e5, f5⟩ := x_feedInt (L := L) (xs := xs) (d := d) (n := n + 16) g (by rw [f4.2.1]; omega) (by first | decide | omega)
  have F := Tw5.of f1 f2 f3 f4 f5
  refine ⟨S5, ?_, F⟩
  rw [q_7, h, w32e (by first | decide | omega) (by first | decide | omega), if_neg (by first | decide | omega), e1]
  simp only [bR, e2, e3, e4, e5, F.2.1]
theorem m_feed {n : Nat} (a b c e g : Int) (h : S.2 72 1 = n) (hn : n ≤ 380) : ∃ S', ev (WK L xs) (d + 2) 201 [vr 72, vi a, vi b, vi c, vi e, vi g] S = some ((n : Int) + 20, S') ∧ Tw5 S S' 73 72 1 n a b c e g := by
  obtain ⟨S1, e1, f1⟩ := m_push (L := L) (xs := xs) (d := d) a h (by first | decide | omega)
  obtain ⟨S2, e2, f2⟩ := m_push (L := L) (xs := xs) (d := d) (n := n + 4) b f1.2.1 (by first | decide | omega)
  obtain ⟨S3, e3, f3⟩ := m_push (L := L) (xs := xs) (d := d) (n := n + 8) c (by rw [f2.2.1]; omega) (by first | decide | omega)
  obtain ⟨S4, e4, f4⟩ := m_push (L := L) (xs := xs) (d := d) (n := n + 12) e (by rw [f3.2.1]; omega) (by first | decide | omega)
  obtain ⟨S5, e5, f5⟩ := m_push (L := L) (xs := xs) (d := d) (n := n + 16) g (by rw [f4.2.1]; omega) (by first | decide | omega)
  have F := Tw5.of f1 f2 f3 f4 f5
  refine ⟨S5, ?_, F⟩
  rw [q_201, h, w32e (by first | decide | omega) (by first | decide | omega), if_neg (by first | decide | omega), e1]
  simp only [bR, e2, e3, e4, e5, F.2.1]
theorem ap_eq {f g : Nat → Int} {N : Nat} (h : ∀ k, k < N → f k = g k) (n : Nat) (p : Int) : ∀ k, k < N → ap f n p k = ap g n p k := by
  intro k hk
  unfold ap
  split
  · rfl
  · exact h k hk
theorem o_feed (H : Inv S) (a b c e g : Int) : Ok L xs 7 201 [vi a, vi b, vi c, vi e, vi g] S := by
  obtain ⟨b1, b2, b3, b4⟩ := H.gb
  obtain ⟨n, hn⟩ := Int.eq_ofNat_of_zero_le b2
  by_cases hc : n ≤ 380
  · obtain ⟨S1, x1, F1⟩ := x_feed (L := L) (xs := xs) (d := 198) (n := n) a b c e g (by rw [b1, hn]) hc
    have k1 : S1.2 72 1 = n := by rw [F1.2.2.2 _ _ (by decide) (by decide), hn]
    obtain ⟨S2, m1, F2⟩ := m_feed (L := L) (xs := xs) (d := 198) a b c e g k1 hc
    have hoth : ∀ a k, a ≠ 16 → a ≠ 73 → ¬ (a = 15 ∧ k = 4) → ¬ (a = 72 ∧ k = 1) → S2.2 a k = S.2 a k := fun a k q1 q2 q3 q4 => by rw [F2.2.2.2 a k q2 q4, F1.2.2.2 a k q1 q3]
    have hc' : ∀ a, a ≠ 15 → a ≠ 16 → a ≠ 72 → a ≠ 73 → S2.2 a = S.2 a := fun a q1 q2 q3 q4 => by
      funext k
      exact hoth a k q2 q4 (fun z => q1 z.1) (fun z => q3 z.1)
    have e15 : ∀ k, k ≠ 4 → S2.2 15 k = S.2 15 k := fun k hk => hoth 15 k (by decide) (by decide) (fun z => hk z.2) (by first | decide | omega)
    have e72 : ∀ k, k ≠ 1 → S2.2 72 k = S.2 72 k := fun k hk => hoth 72 k (by decide) (by decide) (by first | decide | omega) (fun z => hk z.2)
    refine ⟨(n : Int) + 20, S1, S2, x1, m1, ?_, Gw.of (by rw [F2.1, F1.1])⟩
    have hF : Fr S S2 := ⟨by rw [F2.1, F1.1]; exact Nat.le_refl _, fun q h1 h2 => ⟨by rw [F2.1, F1.1], hc' q (by first | decide | omega) (by first | decide | omega) (by first | decide | omega) (by first | decide | omega)⟩⟩
    refine H.upd hF (fun q hq => hc' q (by unfold lvk at hq; omega) (by unfold lvk at hq; omega) (by unfold lvk at hq; omega) (by unfold lvk at hq; omega)) (fun k hk => e72 k (by unfold lvf at hk; omega)) ⟨Int.le_of_eq (e72 4 (by decide)).symm, Int.le_of_eq (e72 5 (by decide)).symm⟩ (H.gt.fr (e15 0 (by decide)) (e72 2 (by decide))) (H.gc.fr (e15 1 (by decide)) (e72 3 (by decide))) (H.gx.fr (e15 2 (by decide)) (e72 106 (by decide))) ?_
      (H.gp.fr (e72 4 (by decide)) (e72 5 (by decide)) (fun a ha => hc' a (by first | decide | omega) (by first | decide | omega) (by first | decide | omega) (by first | decide | omega))) (H.gu.fr (e72 79 (by decide)) (by rw [hc' 50 (by decide) (by decide) (by decide) (by decide)]) (by rw [hc' 50 (by decide) (by decide) (by decide) (by decide)]) (fun a ha => hc' a (by first | decide | omega) (by first | decide | omega) (by first | decide | omega) (by first | decide | omega)))
      (H.gw.fr (e72 85 (by decide)) (e72 87 (by decide)) (by rw [hc' 54 (by decide) (by decide) (by decide) (by decide)]) (by rw [hc' 54 (by decide) (by decide) (by decide) (by decide)]) (fun a ha => hc' a (by first | decide | omega) (by first | decide | omega) (by first | decide | omega) (by first | decide | omega)))
      (H.gn.fr (e72 92 (by decide)) (e72 93 (by decide)) (e72 86 (by decide)) (by rw [hc' 63 (by decide) (by decide) (by decide) (by decide)]) (by rw [hc' 63 (by decide) (by decide) (by decide) (by decide)]) (by rw [hc' 63 (by decide) (by decide) (by decide) (by decide)]) (fun a ha => hc' a (by first | decide | omega) (by first | decide | omega) (by first | decide | omega) (by first | decide | omega)))
    have z1 : S2.2 15 4 = (n : Int) + 20 := by rw [F2.2.2.2 _ _ (by decide) (by decide), F1.2.1]
    have z2 : S2.2 72 1 = (n : Int) + 20 := F2.2.1
    have z3 : S2.2 16 = ap5 (S.2 16) n a b c e g := by
      rw [← F1.2.2.1]
      funext k
      exact F2.2.2.2 _ _ (by decide) (by first | decide | omega)
    have z4 : S2.2 73 = ap5 (S.2 73) n a b c e g := by
      have : S1.2 73 = S.2 73 := by funext k; exact F1.2.2.2 _ _ (by decide) (by first | decide | omega)
      rw [F2.2.2.1, this]
    unfold GB
    rw [z1, z2, z3, z4]
    refine ⟨rfl, by omega, by omega, ?_⟩
    exact ap_eq (ap_eq (ap_eq (ap_eq (ap_eq b4 _ _) _ _) _ _) _ _) _ _
  · refine Ok.same (r := -1) H ?_ ?_
    · rw [q_7, b1, w32e (by first | decide | omega) (by first | decide | omega), if_pos (by first | decide | omega)]
    · rw [q_201, w32e (by first | decide | omega) (by first | decide | omega), if_pos (by first | decide | omega)]
end
