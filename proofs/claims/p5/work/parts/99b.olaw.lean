/-! law: the call -/
/-- neither scratch nor what a new law changes -/
noncomputable def nwLk (a k : Nat) : Prop := ¬ scr a k ∧ ¬ ((a = 31 ∧ k = 4) ∨ (32 ≤ a ∧ a ≤ 34) ∨ (a = 72 ∧ k = 36) ∨ (78 ≤ a ∧ a ≤ 85) ∨ a = 94 ∨ a = 95)
noncomputable def nscr (a k : Nat) : Prop := ¬ scr a k
section
variable {L : Nat} {xs : Nat → Int} {d : Nat} {S S' T U W : AH} {t : TB} {n p : Nat}
theorem Inv.tape0 (H : Inv S) : Inv (wr (wr S 15 4 0) 72 1 0) := by
  have b4 := H.gb.2.2.2
  refine Inv.upd H ?_ (fun a ha => ?_) (fun k hk => ?_) ?_ ?_ ?_ ?_ ?_ ?_ ?_ ?_ ?_
  · repeat' first | exact Fr.rf | exact Fr.wr (by decide) | refine Fr.tr ?_ (Fr.wr (by decide))
  · unfold lvk at ha
    repeat rw [wr_c (by first | decide | omega)]
  · unfold lvf at hk
    rcases hk with rfl | rfl | rfl | rfl | rfl | rfl <;> simp [wr_c, wr_f]
  · simp [HM, wr_c, wr_f]
  · exact H.gt.fr (by simp [wr_c, wr_f]) (by simp [wr_c, wr_f])
  · exact H.gc.fr (by simp [wr_c, wr_f]) (by simp [wr_c, wr_f])
  · exact H.gx.fr (by simp [wr_c, wr_f]) (by simp [wr_c, wr_f])
  · unfold GB
    simp [wr_c, wr_f]
    exact b4
  · exact H.gp.fr (by simp [wr_c, wr_f]) (by simp [wr_c, wr_f]) (fun a ha => by repeat rw [wr_c (by first | decide | omega)])
  · exact H.gu.fr (by simp [wr_c, wr_f]) (by simp [wr_c, wr_f]) (by simp [wr_c, wr_f]) (fun a ha => by repeat rw [wr_c (by first | decide | omega)])
  · exact H.gw.fr (by simp [wr_c, wr_f]) (by simp [wr_c, wr_f]) (by simp [wr_c, wr_f]) (by simp [wr_c, wr_f]) (fun a ha => by repeat rw [wr_c (by first | decide | omega)])
  · exact H.gn.fr (by simp [wr_c, wr_f]) (by simp [wr_c, wr_f]) (by simp [wr_c, wr_f]) (by simp [wr_c, wr_f]) (by simp [wr_c, wr_f]) (by simp [wr_c, wr_f]) (fun a ha => by repeat rw [wr_c (by first | decide | omega)])
theorem Inv.nscr (H : Inv S) (hF : Fr S S') (h : ∀ a k, a < 151 → _root_.Jvm.Pilot.@@N@@.nscr a k → S'.2 a k = S.2 a k) : Inv S' := H.scr hF (fun a k q1 q2 => h a k q1 q2)
theorem RK.fr2 {h h' : Nat → Nat → Int} (H : RK h) (hc : ∀ a, a = 97 ∨ (108 ≤ a ∧ a ≤ 123) ∨ (147 ≤ a ∧ a ≤ 149) → h' a = h a) (hk : ∀ k, k = 40 ∨ k = 52 ∨ k = 53 ∨ k = 70 ∨ k = 102 → h' 72 k = h 72 k) (hm : HM h h') : RK h' := by
  unfold RK at H ⊢
  rw [hk 40 (by first | decide | omega), hk 52 (by first | decide | omega), hk 53 (by first | decide | omega), hk 70 (by first | decide | omega), hk 102 (by first | decide | omega), hc 97 (by first | decide | omega), hc 108 (by first | decide | omega), hc 109 (by first | decide | omega), hc 110 (by first | decide | omega), hc 111 (by first | decide | omega), hc 112 (by first | decide | omega), hc 113 (by first | decide | omega), hc 114 (by first | decide | omega), hc 115 (by first | decide | omega), hc 116 (by first | decide | omega), hc 117 (by first | decide | omega), hc 118 (by first | decide | omega), hc 119 (by first | decide | omega), hc 120 (by first | decide | omega), hc 121 (by first | decide | omega), hc 122 (by first | decide | omega), hc 123 (by first | decide | omega), hc 147 (by first | decide | omega), hc 148 (by first | decide | omega)]
  obtain ⟨r1, r2, r3, r4, r5, r6⟩ := H
  have hm1 := hm.1
  have hm2 := hm.2
  exact ⟨r1, r2, r3, fun c q => (by obtain ⟨⟨a1, a2⟩, ⟨b1, b2⟩, z⟩ := r4 c q; exact ⟨⟨a1, by omega⟩, ⟨b1, by omega⟩, z⟩), r5, r6⟩
theorem Inv.newL (H : Inv S) {n o : Nat} (hn : S.2 72 36 = n) (hn20 : n < 20) (hF : Fr S S') (hc : ∀ a k, a < 151 → nwLk a k → S'.2 a k = S.2 a k) (e31 : S'.2 31 4 = (n : Int) + 1) (e72 : S'.2 72 36 = (n : Int) + 1) (h32 : ∀ j, S'.2 32 j = if j = n then (o : Int) else S.2 32 j) (h33 : ∀ j, S'.2 33 j = if j = n then S'.2 94 n else S.2 33 j) (h34 : ∀ j, S'.2 34 j = if j = n then S'.2 95 n else S.2 34 j)
    (hj : ∀ a j, a = 94 ∨ a = 95 → j ≠ n → S'.2 a j = S.2 a j) (ht : ∀ t x, t ≠ n → RX S.2 t x → RX S'.2 t x) (hT : TX S' o n) : Inv S' := by
  obtain ⟨i1, gt, gc, gx, gb, gp, gl, gv, gk, gu, gw, gn⟩ := H
  have C : ∀ a, a < 151 → (∀ k, nwLk a k) → S'.2 a = S.2 a := fun a h1 h2 => funext fun k => hc a k h1 (h2 k)
  have C1 : ∀ a, (15 ≤ a ∧ a ≤ 21) ∨ (36 ≤ a ∧ a ≤ 49) ∨ (51 ≤ a ∧ a ≤ 60) ∨ (64 ≤ a ∧ a ≤ 65) ∨ (68 ≤ a ∧ a ≤ 71) ∨ (73 ≤ a ∧ a ≤ 77) ∨ (97 ≤ a ∧ a ≤ 127) ∨ (130 ≤ a ∧ a ≤ 140) ∨ (142 ≤ a ∧ a ≤ 149) → S'.2 a = S.2 a := fun a q => C a (by first | decide | omega) (fun k => by unfold nwLk _root_.Jvm.Pilot.@@N@@.scr; omega)
  have h72 : ∀ k, k < 18 ∨ (37 ≤ k ∧ k < 75) ∨ 77 ≤ k → S'.2 72 k = S.2 72 k := fun k q => hc 72 k (by decide) (by unfold nwLk _root_.Jvm.Pilot.@@N@@.scr; omega)
  have c50 : ∀ k, k < 5 → S'.2 50 k = S.2 50 k := fun k q => hc 50 k (by decide) (by unfold nwLk _root_.Jvm.Pilot.@@N@@.scr; omega)
  have c63 : ∀ k, k ≠ 5 → S'.2 63 k = S.2 63 k := fun k q => hc 63 k (by decide) (by unfold nwLk _root_.Jvm.Pilot.@@N@@.scr; omega)
  have hFx : Fx (fun _ => False) S S' := ⟨hF.1, fun a q1 q2 => ⟨(hF.2 a q1 q2).1, fun _ => (hF.2 a q1 q2).2⟩⟩
  have hX : Xt (fun _ => False) S := fun a q => q.elim
  have c15 := C1 15 (by first | decide | omega)
  have hm : HM S.2 S'.2 := by unfold HM; rw [h72 _ (by decide), h72 _ (by decide)]; omega
  have hpb : pby S'.2 = pby S.2 := pby_fr (C1 115 (by first | decide | omega)) (C1 116 (by first | decide | omega)) (C1 97 (by first | decide | omega)) (C1 102 (by first | decide | omega)) (C1 111 (by first | decide | omega)) (h72 52 (by decide))
  have hpc : pct S'.2 = pct S.2 := pct_fr (C1 115 (by first | decide | omega)) (C1 112 (by first | decide | omega)) (C1 111 (by first | decide | omega)) (h72 52 (by decide))
  refine ⟨Nat.le_trans i1 hF.1, gt.fr (by rw [c15]) (h72 _ (by decide)), gc.fr (by rw [c15]) (h72 _ (by decide)), gx.fr (by rw [c15]) (h72 _ (by decide)), gb.fr (by rw [c15]) (h72 _ (by decide)) (C1 _ (by first | decide | omega)) (C1 _ (by first | decide | omega)), gp.fr (h72 _ (by decide)) (h72 _ (by decide)) (fun a q => C1 a (by first | decide | omega)), ?_, ?_, ?_, gu.fr (h72 _ (by decide)) (c50 _ (by decide)) (c50 _ (by decide)) (fun a q => C1 a (by first | decide | omega)), gw.fr (h72 _ (by decide)) (h72 _ (by decide)) (by rw [C1 54 (by first | decide | omega)]) (by rw [C1 54 (by first | decide | omega)]) (fun a q => C1 a (by first | decide | omega)), gn.fr (h72 _ (by decide)) (h72 _ (by decide)) (h72 _ (by decide)) (c63 _ (by decide)) (c63 _ (by decide)) (c63 _ (by decide)) (fun a q => C1 a (by first | decide | omega))⟩
  · obtain ⟨h1, h2, h3, h4⟩ := gl
    unfold GL
    rw [e31, e72]
    refine ⟨rfl, by omega, by omega, fun i hi => ?_⟩
    rw [h32 i, h33 i, h34 i]
    by_cases e : i = n
    · subst e
      rw [if_pos rfl, if_pos rfl, if_pos rfl, Int.toNat_natCast]
      exact ⟨rfl, rfl, hT⟩
    · rw [if_neg e, if_neg e, if_neg e, hj 94 i (by first | decide | omega) e, hj 95 i (by first | decide | omega) e]
      obtain ⟨g1, g2, g3⟩ := h4 i (by first | decide | omega)
      exact ⟨g1, g2, g3.fx hFx hX (fun x hx => ht i x e hx)⟩
  · obtain ⟨h1, h2, h3, h4, h5, h6, h7⟩ := gv
    have hA : ∀ v : Nat, (v : Int) < S.2 72 40 → AV S' v ∧ auA S' v = auA S v ∧ spA S' v = spA S v := fun v hv => (h4 v hv).fx hFx hX (fun z => z) (fun z => z) (by rw [C1 37 (by first | decide | omega)]) (fun a q1 q2 => by rw [C1 a (by first | decide | omega)]) (fun _ y _ => by rw [hpb]) (fun x q => ht _ x (by first | decide | omega) q)
    unfold GV
    rw [hpc, C1 36 (by first | decide | omega), h72 40 (by decide), h72 70 (by decide), C1 38 (by first | decide | omega), C1 39 (by first | decide | omega), C1 40 (by first | decide | omega), C1 41 (by first | decide | omega), C1 42 (by first | decide | omega), C1 124 (by first | decide | omega), C1 125 (by first | decide | omega), C1 126 (by first | decide | omega), C1 127 (by first | decide | omega)]
    refine ⟨h1.fr (fun a q => C1 a (by first | decide | omega)) (fun k q => h72 k (by first | decide | omega)) hm, h2, h3, fun v hv => (hA v hv).1, fun v w hv hw q => ?_, h6, h7⟩
    obtain ⟨-, a1, a2⟩ := hA v hv
    obtain ⟨-, b1, b2⟩ := hA w hw
    rw [a1, a2, b1, b2] at q
    exact h5 v w hv hw q
  · have ecb : cby S'.2 = cby S.2 := cby_fr (C1 116 (by first | decide | omega)) (C1 97 (by first | decide | omega)) (C1 102 (by first | decide | omega))
    obtain ⟨h1, h2, h3, h4, h5, h6, h7, h8, h9, h10, h11⟩ := gk
    have gk0 : GK S := ⟨h1, h2, h3, h4, h5, h6, h7, h8, h9, h10, h11⟩
    have ecl : ∀ c, clA S' c = clA S c := fun c => by unfold clA; rw [C1 44 (by first | decide | omega)]
    unfold GK nClaims
    rw [C1 43 (by first | decide | omega), h72 52 (by decide), h72 53 (by decide), h72 102 (by decide), C1 45 (by first | decide | omega), C1 46 (by first | decide | omega), C1 47 (by first | decide | omega), C1 48 (by first | decide | omega), C1 49 (by first | decide | omega), C1 111 (by first | decide | omega), C1 115 (by first | decide | omega), C1 117 (by first | decide | omega), C1 146 (by first | decide | omega), C1 147 (by first | decide | omega), C1 148 (by first | decide | omega), C1 149 (by first | decide | omega)]
    refine ⟨h1.fr2 (fun a q => C1 a (by first | decide | omega)) (fun k q => h72 k (by first | decide | omega)) hm, h2, h3, h4, fun c hc2 => ?_, fun c e q1 q2 q => ?_, h7, h8, h9, h10, h11⟩
    · have A := h5 c hc2
      have ob := gk0.ob hc2
      have eo := (hF.2 _ ob.1 ob.2.1).2
      unfold AK at A ⊢
      rw [ecl, eo, ecb, C1 108 (by first | decide | omega), C1 109 (by first | decide | omega), C1 110 (by first | decide | omega), C1 111 (by first | decide | omega), C1 112 (by first | decide | omega), C1 113 (by first | decide | omega), C1 114 (by first | decide | omega), C1 115 (by first | decide | omega), C1 116 (by first | decide | omega), C1 118 (by first | decide | omega), C1 119 (by first | decide | omega), C1 120 (by first | decide | omega), C1 121 (by first | decide | omega), C1 122 (by first | decide | omega), C1 123 (by first | decide | omega)]
      exact ⟨A.1.fx hFx, A.2⟩
    · rw [ecl, ecl] at q
      exact h6 c e q1 q2 q
noncomputable def lwQ (h : Nat → Nat → Int) (p1 p2 p3 : Int) : Prop := (0 ≤ p1 ∧ p1 < 3600) ∧ (0 ≤ p2 ∧ p2 < 3600) ∧ p1 ≤ p2 ∧ h 72 36 < 20 ∧ (1 ≤ p3 ∧ p3 ≤ 200) ∧ p3 ≤ h 72 1
theorem o_law (H : Inv S) (p1 p2 p3 : Int) : Ok L xs 9 203 [vi p1, vi p2, vi p3] S := by
  have gl := H.gl
  have gb := H.gb
  have i1 := H.1
  have hl := gl.2
  by_cases hQ : lwQ S.2 p1 p2 p3
  rotate_left
  · refine Ok.same (r := -1) H ?_ ?_
    · rw [q_9, x_isDay, bR]
      simp only [bi_0]
      by_cases c1 : 0 ≤ p1 ∧ p1 < 3600
      rotate_left
      · rw [if_pos c1]
      rw [if_neg (fun z => z c1), x_isDay, bR]
      simp only [bi_0]
      by_cases c2 : 0 ≤ p2 ∧ p2 < 3600
      rotate_left
      · rw [if_pos c2]
      rw [if_neg (fun z => z c2)]
      by_cases c3 : p2 < p1
      · rw [if_pos c3]
      rw [if_neg c3, q_101, gl.1]
      by_cases c4 : S.2 72 36 < 20
      rotate_left
      · rw [if_neg c4, bR, if_neg (by decide)]
      rw [if_pos c4, bR, if_pos rfl]
      by_cases c5 : p3 < 1
      · rw [if_pos c5]
      rw [if_neg c5]
      by_cases c6 : 200 < p3
      · rw [if_pos c6]
      rw [if_neg c6, gb.1]
      by_cases c7 : S.2 72 1 < p3
      · rw [if_pos c7]
      exact absurd ⟨c1, c2, by omega, c4, by omega, by omega⟩ hQ
    · rw [q_203]
      by_cases c4 : S.2 72 36 = 20
      · rw [if_pos c4]
      rw [if_neg c4, m_lies, bR]
      simp only [bi_0]
      by_cases c1 : 0 ≤ p1 ∧ p1 ≤ 3599
      rotate_left
      · rw [if_pos c1]
      rw [if_neg (fun z => z c1), m_lies, bR]
      simp only [bi_0]
      by_cases c2 : p1 ≤ p2 ∧ p2 ≤ 3599
      rotate_left
      · rw [if_pos c2]
      rw [if_neg (fun z => z c2), m_lies, bR]
      simp only [bi_0]
      by_cases c5 : 1 ≤ p3 ∧ p3 ≤ 200
      rotate_left
      · rw [if_pos c5]
      rw [if_neg (fun z => z c5)]
      by_cases c7 : S.2 72 1 < p3
      · rw [if_pos c7]
      exact absurd ⟨by omega, by omega, by omega, by omega, c5, by omega⟩ hQ
  obtain ⟨c1, c2, c3, c4, c5, c6⟩ := hQ
  obtain ⟨n, hn⟩ := Int.eq_ofNat_of_zero_le (show 0 ≤ p3 by omega)
  obtain ⟨m, hm⟩ := Int.eq_ofNat_of_zero_le hl.1
  subst hn
  have hT400 := gb.2.2.1
  obtain ⟨t, ht⟩ : ∃ t : TB, t = fun k => if k < n then iand (S.2 73 k) 255 else 0 := ⟨_, rfl⟩
  have htb : ∀ k, 0 ≤ t k ∧ t k ≤ 255 := fun k => by
    rw [ht]
    show 0 ≤ (if k < n then iand (S.2 73 k) 255 else 0) ∧ (if k < n then iand (S.2 73 k) 255 else 0) ≤ 255
    by_cases q : k < n
    · rw [if_pos q]
      exact iand255 _
    · rw [if_neg q]
      decide
  have ht2 : ∀ k, k < n → iand (S.2 73 k) 255 = t k := fun k hk => by
    rw [ht]
    show _ = if k < n then iand (S.2 73 k) 255 else 0
    rw [if_pos hk]
  have hR := x_readAll (L := L) (xs := xs) (d := 126) (S := S) (t := t) (b := 16) (len := 400) (n := n) (law := true) (by first | decide | omega) htb (by decide) rfl (by first | decide | omega) (fun k hk => by
    rw [show rdv (WK L xs) S 16 k = S.2 16 k from rfl, gb.2.2.2 k (by first | decide | omega)]
    exact ht2 k hk)
  have xgo : ev (WK L xs) 200 9 [vr 15, vi p1, vi p2, vi (n : Int)] S = bindR (ev (WK L xs) 199 135 [vr 22, vr 16, vi (n : Int), vi (lv true)] S) (fun r7 S8 => (if r7 = 0 then (bindR (ev (WK L xs) 199 154 [vr 22] (wr S8 15 4 0)) (fun r9 S10 => (bindR (ev (WK L xs) 199 102 [vr 31, vr r9.toNat, vi p1, vi p2] S10) (fun r11 S12 => (some (r11, S12)))))) else (some (r7, (wr S8 15 4 0))))) := by
    rw [q_9, x_isDay, bR]
    simp only [bi_0]
    rw [if_neg (fun z => z c1), x_isDay, bR]
    simp only [bi_0]
    rw [if_neg (fun z => z c2), if_neg (by first | decide | omega), q_101, gl.1, if_pos c4, bR, if_pos rfl, if_neg (by first | decide | omega), if_neg (by first | decide | omega), gb.1, if_neg (by first | decide | omega)]
    rfl
  have mgo : ∀ W : AH, (∀ a, 72 ≤ a → a < 151 → W.2 a = S.2 a) → ev (WK L xs) 200 203 [vr 72, vi p1, vi p2, vi (n : Int)] W = bindR (ev (WK L xs) 199 204 [vr 72, vi (n : Int), vi (if true then 1 else 0)] W) (fun r7 S8 => (if r7 < 0 then (some (r7, S8)) else (if 0 ≤ (S8.2 72 36) ∧ (S8.2 72 36) < (20 : Int) then (if 0 ≤ (S8.2 72 36) ∧ (S8.2 72 36) < (20 : Int) then (bindR (ev (WK L xs) 199 230 [vr 72, vi (S8.2 72 36)] (wr (wr S8 94 (S8.2 72 36).toNat p1) 95 (S8.2 72 36).toNat p2)) (fun r9 S10 => (some ((w32 ((w32 ((S10.2 72 36) + (1 : Int))) - (1 : Int))), (wr S10 72 36 (w32 ((S10.2 72 36) + (1 : Int)))))))) else none) else none))) := by
    intro W hW
    have w72 := hW 72 (by decide) (by decide)
    rw [q_203, w72, if_neg (by first | decide | omega), m_lies, bR]
    simp only [bi_0]
    rw [if_neg (fun z => z (by first | decide | omega)), m_lies, bR]
    simp only [bi_0]
    rw [if_neg (fun z => z (by first | decide | omega)), m_lies, bR]
    simp only [bi_0]
    rw [if_neg (fun z => z c5), w72, if_neg (by first | decide | omega)]
    rfl
  have H1 := H.tape0
  revert hR
  cases hr : rdT t n true with
  | inl e =>
    rintro ⟨T, t1, t2⟩
    obtain ⟨M1, -⟩ := m_readText (L := L) (xs := xs) (d := 186) (S := wr T 15 4 0) (t := t) (n := n) (law := true) (by first | decide | omega) (fun k hk => by rw [wr_c (by decide), t2.2.1 73 (by decide) (by decide) (by decide)]; exact ht2 k hk)
    have hM := M1 (by first | decide | omega)
    rw [hr] at hM
    obtain ⟨U, u1, u2, u3, u4⟩ := hM
    have hlo : ∀ a, 72 ≤ a → a < 151 → (wr T 15 4 0).2 a = S.2 a := fun a q1 q2 => by rw [wr_c (by first | decide | omega), t2.2.1 a (by first | decide | omega) (by first | decide | omega) (by first | decide | omega)]
    refine ⟨e, wr T 15 4 0, U, ?_, ?_, ?_, ?_⟩
    · rw [xgo, show ev (WK L xs) 199 135 [vr 22, vr 16, vi (n : Int), vi (lv true)] S = some (e, T) from t1, bR, if_neg (by first | decide | omega)]
    · rw [mgo _ hlo, show ev (WK L xs) 199 204 [vr 72, vi (n : Int), vi (if true then 1 else 0)] (wr T 15 4 0) = some (e, U) from u1, bR, if_pos u4]
    · have uT : U.1 = S.1 := by
        rw [u2.1]
        exact t2.1
      refine H1.nscr ⟨by rw [uT]; exact Nat.le_refl _, fun a q1 q2 => ⟨by rw [uT]; rfl, ?_⟩⟩ (fun a k q1 q2 => ?_)
      · rw [u2.2.1 a (by first | decide | omega) (by first | decide | omega), wr_c (by first | decide | omega), t2.2.1 a (by first | decide | omega) (by first | decide | omega) (by first | decide | omega), wr_c (by first | decide | omega), wr_c (by first | decide | omega)]
      · unfold nscr scr at q2
        by_cases e72 : a = 72
        · subst e72
          rw [wr_f]
          by_cases ek : k = 1
          · rw [if_pos ek, ek, u3]
          · rw [if_neg ek, u2.2.2 k ek (by first | decide | omega) (by first | decide | omega), wr_c (by decide), t2.2.1 72 (by decide) (by decide) (by decide), wr_c (by decide)]
        · rw [u2.2.1 a e72 (by first | decide | omega), wr_c e72]
          by_cases e15 : a = 15
          · subst e15
            rw [wr_f, wr_f, t2.2.1 15 (by decide) (by decide) (by decide)]
          · rw [wr_c e15, wr_c e15, t2.2.1 a (by first | decide | omega) (by first | decide | omega) (by first | decide | omega)]
    · exact Gw.of (u2.1.trans t2.1)
  | inr x =>
    rintro ⟨T, t1, t2, t3, t4, t5⟩
    have T1 : (wr T 15 4 0).1 = S.1 := t2.1
    have c0 : ∀ a, a ≠ 15 → a ≠ 22 → a ≠ 23 → a ≠ 24 → (wr T 15 4 0).2 a = S.2 a := fun a q1 q2 q3 q4 => by rw [wr_c q1, t2.2.1 a q2 q3 q4]
    have f22 : ∀ k, (wr T 15 4 0).2 22 k = T.2 22 k := fun k => by rw [wr_c (by decide)]
    obtain ⟨A, a1, a2, a3, a4, ⟨b1, b2, b3, b4⟩, ⟨g1, g2, g3⟩, a6, a7⟩ := x_textRead (L := L) (xs := xs) (d := 197) (S := wr T 15 4 0) (n := n) (x := x) (by rw [T1]; exact i1) (by first | decide | omega) (by rw [f22, t4]; rfl) (by rw [f22, t5]) ⟨by rw [f22, t3.1], t3.2.1, fun j q hq => by rw [wr_c (by decide), wr_c (by decide)]; exact t3.2.2 j q hq⟩
    rw [T1] at a1 a2 a3 a4 b1 b2 b3 b4 g1 g2 g3 a6 a7
    have A31 : A.2 31 4 = m := by rw [(a4 31 (by first | decide | omega)).2, c0 31 (by decide) (by decide) (by decide) (by decide), gl.1, hm]
    generalize hB : wr (wr (wr (wr A 32 m (S.1.1 : Int)) 33 m p1) 34 m p2) 31 4 ((m : Int) + 1) = B
    have B1 : B.1 = A.1 := by rw [← hB]; rfl
    have cB : ∀ a, ¬ (31 ≤ a ∧ a ≤ 34) → B.2 a = A.2 a := fun a q => by rw [← hB, wr_c (by first | decide | omega), wr_c (by first | decide | omega), wr_c (by first | decide | omega), wr_c (by first | decide | omega)]
    have xx : ev (WK L xs) 200 9 [vr 15, vi p1, vi p2, vi (n : Int)] S = some ((m : Int), B) := by
      have gA : Nat.beq (shp (WK L xs) A S.1.1).1 19 = true := by rw [shpD i1, b1]; rfl
      rw [xgo, show ev (WK L xs) 199 135 [vr 22, vr 16, vi (n : Int), vi (lv true)] S = some (0, T) from t1, bR, if_pos rfl, show ev (WK L xs) 199 154 [vr 22] (wr T 15 4 0) = some ((S.1.1 : Int), A) from a1, bR, q_102, q_101, A31, if_pos (by first | decide | omega), bR, if_pos rfl, Int.toNat_natCast, gA, gdT, A31, if_pos (by first | decide | omega), if_pos (by first | decide | omega), if_pos (by first | decide | omega), Int.toNat_natCast, wi (by first | decide | omega) (by first | decide | omega), w32e (by first | decide | omega) (by first | decide | omega), hB, bR]
    have lo : ∀ a, 72 ≤ a → a < 151 → B.2 a = S.2 a := fun a q1 q2 => by rw [cB a (by first | decide | omega), (a4 a (by first | decide | omega)).2, c0 a (by first | decide | omega) (by first | decide | omega) (by first | decide | omega) (by first | decide | omega)]
    obtain ⟨M1, -⟩ := m_readText (L := L) (xs := xs) (d := 186) (S := B) (t := t) (n := n) (law := true) (by first | decide | omega) (fun k hk => by rw [lo 73 (by decide) (by decide)]; exact ht2 k hk)
    have hM := M1 (by first | decide | omega)
    rw [hr] at hM
    obtain ⟨U, u1, u2, u3, u4⟩ := hM
    have U36 : U.2 72 36 = m := by rw [u2.2.2 36 (by decide) (by decide) (by decide), lo 72 (by decide) (by decide), hm]
    have u4' : RTf (wr (wr U 94 m p1) 95 m p2) x := by
      obtain ⟨⟨v1, v2, v3⟩, v4, v5, v6⟩ := u4
      refine ⟨⟨by rw [wr_c (by decide), wr_c (by decide), v1], v2, fun j q hq => ?_⟩, by rw [wr_c (by decide), wr_c (by decide), v4], v5, fun i q hq => ?_⟩
      · rw [wr_c (by decide), wr_c (by decide), wr_c (by decide), wr_c (by decide), wr_c (by decide), wr_c (by decide), wr_c (by decide), wr_c (by decide), wr_c (by decide), wr_c (by decide)]
        exact v3 j q hq
      · rw [wr_c (by decide), wr_c (by decide), wr_c (by decide), wr_c (by decide)]
        exact v6 i q hq
    obtain ⟨V, v1, v2, v3⟩ := m_keeps (L := L) (xs := xs) (d := 198) (tt := m) (by first | decide | omega) u4'
    have V36 : V.2 72 36 = m := by rw [v2.2.1 72 (by decide), wr_c (by decide), wr_c (by decide), U36]
    refine ⟨(m : Int), B, wr V 72 36 ((m : Int) + 1), xx, ?_, ?_, ?_⟩
    · rw [mgo B lo, show ev (WK L xs) 199 204 [vr 72, vi (n : Int), vi (if true then 1 else 0)] B = some (0, U) from u1, bR, if_neg (by decide), U36, if_pos (by first | decide | omega), if_pos (by first | decide | omega), Int.toNat_natCast, show ev (WK L xs) 199 230 [vr 72, vi (m : Int)] (wr (wr U 94 m p1) 95 m p2) = some (0, V) from v1, bR, V36, wi (by first | decide | omega) (by first | decide | omega), w32e (by first | decide | omega) (by first | decide | omega)]
    · have V1 : V.1 = A.1 := by
        rw [v2.1]
        show U.1 = A.1
        rw [u2.1, B1]
      have vlo : ∀ a, a ≠ 72 → ¬ (78 ≤ a ∧ a ≤ 95) → V.2 a = B.2 a := fun a q1 q2 => by rw [v2.2.1 a (by first | decide | omega), wr_c (by first | decide | omega), wr_c (by first | decide | omega), u2.2.1 a q1 (by first | decide | omega)]
      have S1c : ∀ a, a ≠ 15 → a ≠ 72 → (wr (wr S 15 4 0) 72 1 0).2 a = S.2 a := fun a q1 q2 => by rw [wr_c q2, wr_c q1]
      have hj9 : ∀ a j, a = 94 ∨ a = 95 → V.2 a j = if j = m then (if a = 94 then p1 else p2) else S.2 a j := fun a j ha => by
        rw [v2.2.1 a (by first | decide | omega)]
        rcases ha with rfl | rfl
        · rw [wr_c (by decide), wr_f, u2.2.1 94 (by decide) (by decide), lo 94 (by decide) (by decide)]
          rfl
        · rw [wr_f, wr_c (by decide), u2.2.1 95 (by decide) (by decide), lo 95 (by decide) (by decide)]
          rfl
      have vO : ∀ a, 151 ≤ a → (wr V 72 36 ((m : Int) + 1)).2 a = A.2 a := fun a ha => by rw [wr_c (by first | decide | omega), vlo a (by first | decide | omega) (by first | decide | omega), cB a (by first | decide | omega)]
      refine H1.newL (n := m) (o := S.1.1) (by rw [wr_f, if_neg (by decide), wr_c (by decide), hm]) (by first | decide | omega) ⟨?_, fun a q1 q2 => ⟨?_, ?_⟩⟩ (fun a k q1 q2 => ?_) ?_ ?_ (fun j => ?_) (fun j => ?_) (fun j => ?_) (fun a j q1 q2 => ?_) (fun tt y q1 q2 => ?_) ?_
      · show S.1.1 ≤ V.1.1
        rw [V1]
        omega
      · show V.1.2.2 a = S.1.2.2 a
        rw [V1, (a4 a q2).1]
      · rw [vO a q1, (a4 a q2).2, c0 a (by first | decide | omega) (by first | decide | omega) (by first | decide | omega) (by first | decide | omega), S1c a (by first | decide | omega) (by first | decide | omega)]
      · unfold nwLk scr at q2
        by_cases e72 : a = 72
        · subst e72
          rw [wr_f, if_neg (by first | decide | omega), v2.2.1 72 (by decide), wr_c (by decide), wr_c (by decide), wr_f]
          by_cases ek : k = 1
          · rw [if_pos ek, ek, u3]
          · rw [if_neg ek, u2.2.2 k ek (by first | decide | omega) (by first | decide | omega), lo 72 (by decide) (by decide), wr_c (by decide)]
        · rw [wr_c e72, vlo a e72 (by first | decide | omega), wr_c e72]
          by_cases e15 : a = 15
          · subst e15
            rw [cB 15 (by decide), (a4 15 (by first | decide | omega)).2, wr_f, wr_f, t2.2.1 15 (by decide) (by decide) (by decide)]
          · by_cases e31 : a = 31
            · subst e31
              rw [← hB, wr_f, if_neg (by first | decide | omega), wr_c (by decide), wr_c (by decide), wr_c (by decide), (a4 31 (by first | decide | omega)).2, c0 31 (by decide) (by decide) (by decide) (by decide), wr_c (by decide)]
            · rw [cB a (by first | decide | omega), (a4 a (by first | decide | omega)).2, c0 a e15 (by first | decide | omega) (by first | decide | omega) (by first | decide | omega), wr_c e15]
      · rw [wr_c (by decide), vlo 31 (by decide) (by decide), ← hB, wr_f, if_pos rfl]
      · rw [wr_f, if_pos rfl]
      · rw [wr_c (by decide), vlo 32 (by decide) (by decide), ← hB, wr_c (by decide), wr_c (by decide), wr_c (by decide), wr_f, (a4 32 (by first | decide | omega)).2, c0 32 (by decide) (by decide) (by decide) (by decide), S1c 32 (by decide) (by decide)]
      · rw [wr_c (by decide), wr_c (by decide), hj9 94 m (by first | decide | omega), if_pos rfl, if_pos rfl, vlo 33 (by decide) (by decide), ← hB, wr_c (by decide), wr_c (by decide), wr_f, wr_c (by decide), (a4 33 (by first | decide | omega)).2, c0 33 (by decide) (by decide) (by decide) (by decide), S1c 33 (by decide) (by decide)]
      · rw [wr_c (by decide), wr_c (by decide), hj9 95 m (by first | decide | omega), if_pos rfl, if_neg (show ¬ (95 : Nat) = 94 by decide), vlo 34 (by decide) (by decide), ← hB, wr_c (by decide), wr_f, wr_c (by decide), wr_c (by decide), (a4 34 (by first | decide | omega)).2, c0 34 (by decide) (by decide) (by decide) (by decide), S1c 34 (by decide) (by decide)]
      · rw [wr_c (by first | decide | omega), hj9 a j q1, if_neg q2, S1c a (by first | decide | omega) (by first | decide | omega)]
      · have e2 : RX (wr (wr U 94 m p1) 95 m p2).2 tt y := q2.cells (fun a z1 z2 => by rw [wr_c (by first | decide | omega), wr_c (by first | decide | omega), u2.2.1 a (by first | decide | omega) (by first | decide | omega), lo a (by first | decide | omega) (by first | decide | omega), S1c a (by first | decide | omega) (by first | decide | omega)])
        exact (v2.rx q1 e2).cells (fun a z1 z2 => by rw [wr_c (by first | decide | omega)])
      · refine ⟨x, v3.cells (fun a z1 z2 => by rw [wr_c (by first | decide | omega)]), Or.inr ⟨⟨i1, ?_, ?_⟩, S.1.1 + 1, S.1.1 + 2, S.1.1 + 3, n, ?_, ?_, ?_, ⟨by omega, ?_, ?_⟩, ⟨by omega, ?_, ?_⟩, ⟨by omega, ?_, ?_⟩, by omega, ?_, fun j q hq => ?_⟩⟩
        · show S.1.1 < V.1.1
          rw [V1]
          omega
        · show V.1.2.2 S.1.1 = _
          rw [V1, b1]
        · rw [vO _ i1, g1]
        · rw [vO _ i1, g2]
        · rw [vO _ i1, g3]
        · show S.1.1 + 1 < V.1.1
          rw [V1]
          omega
        · show V.1.2.2 (S.1.1 + 1) = _
          rw [V1, b2]
        · show S.1.1 + 2 < V.1.1
          rw [V1]
          omega
        · show V.1.2.2 (S.1.1 + 2) = _
          rw [V1, b3]
        · show S.1.1 + 3 < V.1.1
          rw [V1]
          omega
        · show V.1.2.2 (S.1.1 + 3) = _
          rw [V1, b4]
        · have e : byt (wr V 72 36 ((m : Int) + 1)).2 (S.1.1 + 1) = t := by
            funext k
            unfold byt
            rw [vO _ (by first | decide | omega), a6 k, ht, c0 16 (by decide) (by decide) (by decide) (by decide)]
            show iand (if k < n then S.2 16 k else 0) 255 = if k < n then iand (S.2 73 k) 255 else 0
            by_cases q : k < n
            · rw [if_pos q, if_pos q, gb.2.2.2 k (by first | decide | omega)]
            · rw [if_neg q, if_neg q]
              decide
          rw [e, show decide (m < 20) = true from decide_eq_true (by first | decide | omega)]
          exact hr
        · have hj := (List.getElem?_eq_some_iff.mp hq).1
          rw [vO _ (by first | decide | omega), vO _ (by first | decide | omega), (a7 j hj).1, (a7 j hj).2, wr_c (by decide), wr_c (by decide)]
          exact t3.2.2 j q hq
    · unfold Gw
      show V.1.1 ≤ S.1.1 + 1000 ∧ V.1.2.1 ≤ S.1.2.1 + 10000
      have := t3.2.1
      rw [v2.1]
      show U.1.1 ≤ S.1.1 + 1000 ∧ U.1.2.1 ≤ S.1.2.1 + 10000
      rw [u2.1, B1]
      omega
end
