section
-- 99b.olaw
/-! law: the call -/
/-- neither scratch nor what a new law changes -/
noncomputable def nwLk (a k : Nat) : Prop := ¬ scr a k ∧ ¬ ((a = 31 ∧ k = 4) ∨ (32 ≤ a ∧ a ≤ 34) ∨ (a = 72 ∧ k = 36) ∨ (78 ≤ a ∧ a ≤ 85) ∨ a = 94 ∨ a = 95)
noncomputable def nscr (a k : Nat) : Prop := ¬ scr a k
section
variable {L : Nat} {xs : Nat → Int} {d : Nat} {S S' T U W : AH} {t : TB} {n p : Nat}
theorem Inv.tape0 (H : Inv S) : Inv (wr (wr S 15 4 0) 72 1 0) := by
  have b4 := H.gb.2.2.2
  refine Inv.upd H ?_ (fun a ha => ?_) (fun k hk => ?_) ?_ ?_ ?_ ?_ ?_ ?_ ?_ ?_ ?_
  · repeat' first | refine Fr.tr ?_ (Fr.wr (by decide)) | exact Fr.rf
  · unfold lvk at ha
    repeat rw [wr_c (by first | decide | omega)]
  · unfold lvf at hk
    rcases hk with rfl | rfl | rfl | rfl | rfl | rfl <;> simp [wr_c, wr_f]
  · simp [HM, wr_c, wr_f]
  · exact H.gt.fr (by simp [wr_c, wr_f]) (by simp [wr_c, wr_f])
  · exact H.gc.fr (by simp [wr_c, wr_f]) (by simp [wr_c, wr_f])
  · exact H.gx.fr (by simp [wr_c, wr_f]) (by simp [wr_c, wr_f])
  · unfold GB
    simp [wr_c, wr_f]
    exact b4
  · exact H.gp.fr (by simp [wr_c, wr_f]) (by simp [wr_c, wr_f]) (fun a ha => by repeat rw [wr_c (by first | decide | omega)])
  · exact H.gu.fr (by simp [wr_c, wr_f]) (by simp [wr_c, wr_f]) (by simp [wr_c, wr_f]) (fun a ha => by repeat rw [wr_c (by first | decide | omega)])
  · exact H.gw.fr (by simp [wr_c, wr_f]) (by simp [wr_c, wr_f]) (by simp [wr_c, wr_f]) (by simp [wr_c, wr_f]) (fun a ha => by repeat rw [wr_c (by first | decide | omega)])
  · exact H.gn.fr (by simp [wr_c, wr_f]) (by simp [wr_c, wr_f]) (by simp [wr_c, wr_f]) (by simp [wr_c, wr_f]) (by simp [wr_c, wr_f]) (by simp [wr_c, wr_f]) (fun a ha => by repeat rw [wr_c (by first | decide | omega)])
theorem Inv.nscr (H : Inv S) (hF : Fr S S') (h : ∀ a k, a < 151 → _root_.Jvm.Pilot.@@N@@.nscr a k → S'.2 a k = S.2 a k) : Inv S' := H.scr hF (fun a k q1 q2 => h a k q1 q2)
theorem RK.fr2 {h h' : Nat → Nat → Int} (H : RK h) (hc : ∀ a, a = 97 ∨ (108 ≤ a ∧ a ≤ 123) ∨ (147 ≤ a ∧ a ≤ 149) → h' a = h a) (hk : ∀ k, k = 40 ∨ k = 52 ∨ k = 53 ∨ k = 70 ∨ k = 102 → h' 72 k = h 72 k) (hm : HM h h') : RK h' := by
  unfold RK at H ⊢
  rw [hk 40 (by first | decide | omega), hk 52 (by first | decide | omega), hk 53 (by first | decide | omega), hk 70 (by first | decide | omega), hk 102 (by first | decide | omega), hc 97 (by first | decide | omega), hc 108 (by first | decide | omega), hc 109 (by first | decide | omega), hc 110 (by first | decide | omega), hc 111 (by first | decide | omega), hc 112 (by first | decide | omega), hc 113 (by first | decide | omega), hc 114 (by first | decide | omega), hc 115 (by first | decide | omega), hc 116 (by first | decide | omega), hc 117 (by first | decide | omega), hc 118 (by first | decide | omega), hc 119 (by first | decide | omega), hc 120 (by first | decide | omega), hc 121 (by first | decide | omega), hc 122 (by first | decide | omega), hc 123 (by first | decide | omega), hc 147 (by first | decide | omega), hc 148 (by first | decide | omega)]
  obtain ⟨r1, r2, r3, r4, r5, r6⟩ := H
  have hm1 := hm.1
  have hm2 := hm.2
  exact ⟨r1, r2, r3, fun c q => (by obtain ⟨⟨a1, a2⟩, ⟨b1, b2⟩, z⟩ := r4 c q; exact ⟨⟨a1, by omega⟩, ⟨b1, by omega⟩, z⟩), r5, r6⟩
theorem Inv.newL (H : Inv S) {n o : Nat} (hn : S.2 72 36 = n) (hn20 : n < 20) (hF : Fr S S') (hc : ∀ a k, a < 151 → nwLk a k → S'.2 a k = S.2 a k) (e31 : S'.2 31 4 = (n : Int) + 1) (e72 : S'.2 72 36 = (n : Int) + 1) (h32 : ∀ j, S'.2 32 j = if j = n then (o : Int) else S.2 32 j) (h33 : ∀ j, S'.2 33 j = if j = n then S'.2 94 n else S.2 33 j) (h34 : ∀ j, S'.2 34 j = if j = n then S'.2 95 n else S.2 34 j)
    (hj : ∀ a j, a = 94 ∨ a = 95 → j ≠ n → S'.2 a j = S.2 a j) (ht : ∀ t x, t ≠ n → RX S.2 t x → RX S'.2 t x) (hT : TX S' o n) : Inv S' := by
  obtain ⟨i1, gt, gc, gx, gb, gp, gl, gv, gk, gu, gw, gn⟩ := H
  have C : ∀ a, a < 151 → (∀ k, nwLk a k) → S'.2 a = S.2 a := fun a h1 h2 => funext fun k => hc a k h1 (h2 k)
  have C1 : ∀ a, (15 ≤ a ∧ a ≤ 21) ∨ (36 ≤ a ∧ a ≤ 49) ∨ (51 ≤ a ∧ a ≤ 60) ∨ (64 ≤ a ∧ a ≤ 65) ∨ (68 ≤ a ∧ a ≤ 71) ∨ (73 ≤ a ∧ a ≤ 77) ∨ (97 ≤ a ∧ a ≤ 127) ∨ (130 ≤ a ∧ a ≤ 140) ∨ (142 ≤ a ∧ a ≤ 149) → S'.2 a = S.2 a := fun a q => C a (by first | decide | omega) (fun k => by unfold nwLk _root_.Jvm.Pilot.@@N@@.scr; omega)
  have h72 : ∀ k, k < 18 ∨ (37 ≤ k ∧ k < 75) ∨ 77 ≤ k → S'.2 72 k = S.2 72 k := fun k q => hc 72 k (by decide) (by unfold nwLk _root_.Jvm.Pilot.@@N@@.scr; omega)
  have c50 : ∀ k, k < 5 → S'.2 50 k = S.2 50 k := fun k q => hc 50 k (by decide) (by unfold nwLk _root_.Jvm.Pilot.@@N@@.scr; omega)
  have c63 : ∀ k, k ≠ 5 → S'.2 63 k = S.2 63 k := fun k q => hc 63 k (by decide) (by unfold nwLk _root_.Jvm.Pilot.@@N@@.scr; omega)
  have hFx : Fx (fun _ => False) S S' := ⟨hF.1, fun a q1 q2 => ⟨(hF.2 a q1 q2).1, fun _ => (hF.2 a q1 q2).2⟩⟩
  have hX : Xt (fun _ => False) S := fun a q => q.elim
  have c15 := C1 15 (by first | decide | omega)
  have hm : HM S.2 S'.2 := by unfold HM; rw [h72 _ (by decide), h72 _ (by decide)]; omega
  have hpb : pby S'.2 = pby S.2 := pby_fr (C1 115 (by first | decide | omega)) (C1 116 (by first | decide | omega)) (C1 97 (by first | decide | omega)) (C1 102 (by first | decide | omega)) (C1 111 (by first | decide | omega)) (h72 52 (by decide))
  have hpc : pct S'.2 = pct S.2 := pct_fr (C1 115 (by first | decide | omega)) (C1 112 (by first | decide | omega)) (C1 111 (by first | decide | omega)) (h72 52 (by decide))
  refine ⟨Nat.le_trans i1 hF.1, gt.fr (by rw [c15]) (h72 _ (by decide)), gc.fr (by rw [c15]) (h72 _ (by decide)), gx.fr (by rw [c15]) (h72 _ (by decide)), gb.fr (by rw [c15]) (h72 _ (by decide)) (C1 _ (by first | decide | omega)) (C1 _ (by first | decide | omega)), gp.fr (h72 _ (by decide)) (h72 _ (by decide)) (fun a q => C1 a (by first | decide | omega)), ?_, ?_, ?_, gu.fr (h72 _ (by decide)) (c50 _ (by decide)) (c50 _ (by decide)) (fun a q => C1 a (by first | decide | omega)), gw.fr (h72 _ (by decide)) (h72 _ (by decide)) (by rw [C1 54 (by first | decide | omega)]) (by rw [C1 54 (by first | decide | omega)]) (fun a q => C1 a (by first | decide | omega)), gn.fr (h72 _ (by decide)) (h72 _ (by decide)) (h72 _ (by decide)) (c63 _ (by decide)) (c63 _ (by decide)) (c63 _ (by decide)) (fun a q => C1 a (by first | decide | omega))⟩
  · obtain ⟨h1, h2, h3, h4⟩ := gl
    unfold GL
    rw [e31, e72]
    refine ⟨rfl, by omega, by omega, fun i hi => ?_⟩
    rw [h32 i, h33 i, h34 i]
    by_cases e : i = n
    · subst e
      rw [if_pos rfl, if_pos rfl, if_pos rfl, Int.toNat_natCast]
      exact ⟨rfl, rfl, hT⟩
    · rw [if_neg e, if_neg e, if_neg e, hj 94 i (by first | decide | omega) e, hj 95 i (by first | decide | omega) e]
      obtain ⟨g1, g2, g3⟩ := h4 i (by first | decide | omega)
      exact ⟨g1, g2, g3.fx hFx hX (fun x hx => ht i x e hx)⟩
  · obtain ⟨h1, h2, h3, h4, h5, h6, h7⟩ := gv
    have hA : ∀ v : Nat, (v : Int) < S.2 72 40 → AV S' v ∧ auA S' v = auA S v ∧ spA S' v = spA S v := fun v hv => (h4 v hv).fx hFx hX (fun z => z) (fun z => z) (by rw [C1 37 (by first | decide | omega)]) (fun a q1 q2 => by rw [C1 a (by first | decide | omega)]) (fun _ y _ => by rw [hpb]) (fun x q => ht _ x (by first | decide | omega) q)
    unfold GV
    rw [hpc, C1 36 (by first | decide | omega), h72 40 (by decide), h72 70 (by decide), C1 38 (by first | decide | omega), C1 39 (by first | decide | omega), C1 40 (by first | decide | omega), C1 41 (by first | decide | omega), C1 42 (by first | decide | omega), C1 124 (by first | decide | omega), C1 125 (by first | decide | omega), C1 126 (by first | decide | omega), C1 127 (by first | decide | omega)]
    refine ⟨h1.fr (fun a q => C1 a (by first | decide | omega)) (fun k q => h72 k (by first | decide | omega)) hm, h2, h3, fun v hv => (hA v hv).1, fun v w hv hw q => ?_, h6, h7⟩
    obtain ⟨-, a1, a2⟩ := hA v hv
    obtain ⟨-, b1, b2⟩ := hA w hw
    rw [a1, a2, b1, b2] at q
    exact h5 v w hv hw q
  · have ecb : cby S'.2 = cby S.2 := cby_fr (C1 116 (by first | decide | omega)) (C1 97 (by first | decide | omega)) (C1 102 (by first | decide | omega))
    obtain ⟨h1, h2, h3, h4, h5, h6, h7, h8, h9, h10, h11⟩ := gk
    have gk0 : GK S := ⟨h1, h2, h3, h4, h5, h6, h7, h8, h9, h10, h11⟩
    have ecl : ∀ c, clA S' c = clA S c := fun c => by unfold clA; rw [C1 44 (by first | decide | omega)]
    unfold GK nClaims
    rw [C1 43 (by first | decide | omega), h72 52 (by decide), h72 53 (by decide), h72 102 (by decide), C1 45 (by first | decide | omega), C1 46 (by first | decide | omega), C1 47 (by first | decide | omega), C1 48 (by first | decide | omega), C1 49 (by first | decide | omega), C1 111 (by first | decide | omega), C1 115 (by first | decide | omega), C1 117 (by first | decide | omega), C1 146 (by first | decide | omega), C1 147 (by first | decide | omega), C1 148 (by first | decide | omega), C1 149 (by first | decide | omega)]
    refine ⟨h1.fr2 (fun a q => C1 a (by first | decide | omega)) (fun k q => h72 k (by first | decide | omega)) hm, h2, h3, h4, fun c hc2 => ?_, fun c e q1 q2 q => ?_, h7, h8, h9, h10, h11⟩
    · have A := h5 c hc2
      have ob := gk0.ob hc2
      have eo := (hF.2 _ ob.1 ob.2.1).2
      unfold AK at A ⊢
      rw [ecl, eo, ecb, C1 108 (by first | decide | omega), C1 109 (by first | decide | omega), C1 110 (by first | decide | omega), C1 111 (by first | decide | omega), C1 112 (by first | decide | omega), C1 113 (by first | decide | omega), C1 114 (by first | decide | omega), C1 115 (by first | decide | omega), C1 116 (by first | decide | omega), C1 118 (by first | decide | omega), C1 119 (by first | decide | omega), C1 120 (by first | decide | omega), C1 121 (by first | decide | omega), C1 122 (by first | decide | omega), C1 123 (by first | decide | omega)]
      exact ⟨A.1.fx hFx, A.2⟩
    · rw [ecl, ecl] at q
      exact h6 c e q1 q2 q
noncomputable def lwQ (h : Nat → Nat → Int) (p1 p2 p3 : Int) : Prop := (0 ≤ p1 ∧ p1 < 3600) ∧ (0 ≤ p2 ∧ p2 < 3600) ∧ p1 ≤ p2 ∧ h 72 36 < 20 ∧ (1 ≤ p3 ∧ p3 ≤ 200) ∧ p3 ≤ h 72 1
theorem o_law (H : Inv S) (p1 p2 p3 : Int) : Ok L xs 9 203 [vi p1, vi p2, vi p3] S := by
  have gl := H.gl
  have gb := H.gb
  have i1 := H.1
  have hl := gl.2
  by_cases hQ : lwQ S.2 p1 p2 p3
  rotate_left
  · refine Ok.same (r := -1) H ?_ ?_
    · rw [q_9, x_isDay, bR]
      simp only [bi_0]
      by_cases c1 : 0 ≤ p1 ∧ p1 < 3600
      rotate_left
      · rw [if_pos c1]
      rw [if_neg (fun z => z c1), x_isDay, bR]
      simp only [bi_0]
      by_cases c2 : 0 ≤ p2 ∧ p2 < 3600
      rotate_left
      · rw [if_pos c2]
      rw [if_neg (fun z => z c2)]
      by_cases c3 : p2 < p1
      · rw [if_pos c3]
      rw [if_neg c3, q_101, gl.1]
      by_cases c4 : S.2 72 36 < 20
      rotate_left
      · rw [if_neg c4, bR, if_neg (by decide)]
      rw [if_pos c4, bR, if_pos rfl]
      by_cases c5 : p3 < 1
      · rw [if_pos c5]
      rw [if_neg c5]
      by_cases c6 : 200 < p3
      · rw [if_pos c6]
      rw [if_neg c6, gb.1]
      by_cases c7 : S.2 72 1 < p3
      · rw [if_pos c7]
      exact absurd ⟨c1, c2, by omega, c4, by omega, by omega⟩ hQ
    · rw [q_203]
      by_cases c4 : S.2 72 36 = 20
      · rw [if_pos c4]
      rw [if_neg c4, m_lies, bR]
      simp only [bi_0]
      by_cases c1 : 0 ≤ p1 ∧ p1 ≤ 3599
      rotate_left
      · rw [if_pos c1]
      rw [if_neg (fun z => z c1), m_lies, bR]
      simp only [bi_0]
      by_cases c2 : p1 ≤ p2 ∧ p2 ≤ 3599
      rotate_left
      · rw [if_pos c2]
      rw [if_neg (fun z => z c2), m_lies, bR]
      simp only [bi_0]
      by_cases c5 : 1 ≤ p3 ∧ p3 ≤ 200
      rotate_left
      · rw [if_pos c5]
      rw [if_neg (fun z => z c5)]
      by_cases c7 : S.2 72 1 < p3
      · rw [if_pos c7]
      exact absurd ⟨by omega, by omega, by omega, by omega, c5, by omega⟩ hQ
  obtain ⟨c1, c2, c3, c4, c5, c6⟩ := hQ
  obtain ⟨n, hn⟩ := Int.eq_ofNat_of_zero_le (show 0 ≤ p3 by omega)
  obtain ⟨m, hm⟩ := Int.eq_ofNat_of_zero_le hl.1
  subst hn
  have hT400 := gb.2.2.1
  obtain ⟨t, ht⟩ : ∃ t : TB, t = fun k => if k < n then iand (S.2 73 k) 255 else 0 := ⟨_, rfl⟩
  have htb : ∀ k, 0 ≤ t k ∧ t k ≤ 255 := fun k => by
    rw [ht]
    show 0 ≤ (if k < n then iand (S.2 73 k) 255 else 0) ∧ (if k < n then iand (S.2 73 k) 255 else 0) ≤ 255
    by_cases q : k < n
    · rw [if_pos q]
      exact iand255 _
    · rw [if_neg q]
      decide
  have ht2 : ∀ k, k < n → iand (S.2 73 k) 255 = t k := fun k hk => by
    rw [ht]
    show _ = if k < n then iand (S.2 73 k) 255 else 0
    rw [if_pos hk]
  have hR := x_readAll (L := L) (xs := xs) (d := 126) (S := S) (t := t) (b := 16) (len := 400) (n := n) (law := true) (by first | decide | omega) htb (by decide) rfl (by first | decide | omega) (fun k hk => by
    rw [show rdv (WK L xs) S 16 k = S.2 16 k from rfl, gb.2.2.2 k (by first | decide | omega)]
    exact ht2 k hk)
  have xgo : ev (WK L xs) 200 9 [vr 15, vi p1, vi p2, vi (n : Int)] S = bindR (ev (WK L xs) 199 135 [vr 22, vr 16, vi (n : Int), vi (lv true)] S) (fun r7 S8 => (if r7 = 0 then (bindR (ev (WK L xs) 199 154 [vr 22] (wr S8 15 4 0)) (fun r9 S10 => (bindR (ev (WK L xs) 199 102 [vr 31, vr r9.toNat, vi p1, vi p2] S10) (fun r11 S12 => (some (r11, S12)))))) else (some (r7, (wr S8 15 4 0))))) := by
    rw [q_9, x_isDay, bR]
    simp only [bi_0]
    rw [if_neg (fun z => z c1), x_isDay, bR]
    simp only [bi_0]
    rw [if_neg (fun z => z c2), if_neg (by first | decide | omega), q_101, gl.1, if_pos c4, bR, if_pos rfl, if_neg (by first | decide | omega), if_neg (by first | decide | omega), gb.1, if_neg (by first | decide | omega)]
    rfl
  have mgo : ∀ W : AH, (∀ a, 72 ≤ a → a < 151 → W.2 a = S.2 a) → ev (WK L xs) 200 203 [vr 72, vi p1, vi p2, vi (n : Int)] W = bindR (ev (WK L xs) 199 204 [vr 72, vi (n : Int), vi (if true then 1 else 0)] W) (fun r7 S8 => (if r7 < 0 then (some (r7, S8)) else (if 0 ≤ (S8.2 72 36) ∧ (S8.2 72 36) < (20 : Int) then (if 0 ≤ (S8.2 72 36) ∧ (S8.2 72 36) < (20 : Int) then (bindR (ev (WK L xs) 199 230 [vr 72, vi (S8.2 72 36)] (wr (wr S8 94 (S8.2 72 36).toNat p1) 95 (S8.2 72 36).toNat p2)) (fun r9 S10 => (some ((w32 ((w32 ((S10.2 72 36) + (1 : Int))) - (1 : Int))), (wr S10 72 36 (w32 ((S10.2 72 36) + (1 : Int)))))))) else none) else none))) := by
    intro W hW
    have w72 := hW 72 (by decide) (by decide)
    rw [q_203, w72, if_neg (by first | decide | omega), m_lies, bR]
    simp only [bi_0]
    rw [if_neg (fun z => z (by first | decide | omega)), m_lies, bR]
    simp only [bi_0]
    rw [if_neg (fun z => z (by first | decide | omega)), m_lies, bR]
    simp only [bi_0]
    rw [if_neg (fun z => z c5), w72, if_neg (by first | decide | omega)]
    rfl
  have H1 := H.tape0
  revert hR
  cases hr : rdT t n true with
  | inl e =>
    rintro ⟨T, t1, t2⟩
    obtain ⟨M1, -⟩ := m_readText (L := L) (xs := xs) (d := 186) (S := wr T 15 4 0) (t := t) (n := n) (law := true) (by first | decide | omega) (fun k hk => by rw [wr_c (by decide), t2.2.1 73 (by decide) (by decide) (by decide)]; exact ht2 k hk)
    have hM := M1 (by first | decide | omega)
    rw [hr] at hM
    obtain ⟨U, u1, u2, u3, u4⟩ := hM
    have hlo : ∀ a, 72 ≤ a → a < 151 → (wr T 15 4 0).2 a = S.2 a := fun a q1 q2 => by rw [wr_c (by first | decide | omega), t2.2.1 a (by first | decide | omega) (by first | decide | omega) (by first | decide | omega)]
    refine ⟨e, wr T 15 4 0, U, ?_, ?_, ?_, ?_⟩
    · rw [xgo, show ev (WK L xs) 199 135 [vr 22, vr 16, vi (n : Int), vi (lv true)] S = some (e, T) from t1, bR, if_neg (by first | decide | omega)]
    · rw [mgo _ hlo, show ev (WK L xs) 199 204 [vr 72, vi (n : Int), vi (if true then 1 else 0)] (wr T 15 4 0) = some (e, U) from u1, bR, if_pos u4]
    · have uT : U.1 = S.1 := by
        rw [u2.1]
        exact t2.1
      refine H1.nscr ⟨by rw [uT]; exact Nat.le_refl _, fun a q1 q2 => ⟨by rw [uT]; rfl, ?_⟩⟩ (fun a k q1 q2 => ?_)
      · rw [u2.2.1 a (by first | decide | omega) (by first | decide | omega), wr_c (by first | decide | omega), t2.2.1 a (by first | decide | omega) (by first | decide | omega) (by first | decide | omega), wr_c (by first | decide | omega), wr_c (by first | decide | omega)]
      · unfold nscr scr at q2
        by_cases e72 : a = 72
        · subst e72
          rw [wr_f]
          by_cases ek : k = 1
          · rw [if_pos ek, ek, u3]
          · rw [if_neg ek, u2.2.2 k ek (by first | decide | omega) (by first | decide | omega), wr_c (by decide), t2.2.1 72 (by decide) (by decide) (by decide), wr_c (by decide)]
        · rw [u2.2.1 a e72 (by first | decide | omega), wr_c e72]
          by_cases e15 : a = 15
          · subst e15
            rw [wr_f, wr_f, t2.2.1 15 (by decide) (by decide) (by decide)]
          · rw [wr_c e15, wr_c e15, t2.2.1 a (by first | decide | omega) (by first | decide | omega) (by first | decide | omega)]
    · exact Gw.of (u2.1.trans t2.1)
  | inr x =>
    rintro ⟨T, t1, t2, t3, t4, t5⟩
    have T1 : (wr T 15 4 0).1 = S.1 := t2.1
    have c0 : ∀ a, a ≠ 15 → a ≠ 22 → a ≠ 23 → a ≠ 24 → (wr T 15 4 0).2 a = S.2 a := fun a q1 q2 q3 q4 => by rw [wr_c q1, t2.2.1 a q2 q3 q4]
    have f22 : ∀ k, (wr T 15 4 0).2 22 k = T.2 22 k := fun k => by rw [wr_c (by decide)]
    obtain ⟨A, a1, a2, a3, a4, ⟨b1, b2, b3, b4⟩, ⟨g1, g2, g3⟩, a6, a7⟩ := x_textRead (L := L) (xs := xs) (d := 197) (S := wr T 15 4 0) (n := n) (x := x) (by rw [T1]; exact i1) (by first | decide | omega) (by rw [f22, t4]; rfl) (by rw [f22, t5]) ⟨by rw [f22, t3.1], t3.2.1, fun j q hq => by rw [wr_c (by decide), wr_c (by decide)]; exact t3.2.2 j q hq⟩
    rw [T1] at a1 a2 a3 a4 b1 b2 b3 b4 g1 g2 g3 a6 a7
    have A31 : A.2 31 4 = m := by rw [(a4 31 (by first | decide | omega)).2, c0 31 (by decide) (by decide) (by decide) (by decide), gl.1, hm]
    generalize hB : wr (wr (wr (wr A 32 m (S.1.1 : Int)) 33 m p1) 34 m p2) 31 4 ((m : Int) + 1) = B
    have B1 : B.1 = A.1 := by rw [← hB]; rfl
    have cB : ∀ a, ¬ (31 ≤ a ∧ a ≤ 34) → B.2 a = A.2 a := fun a q => by rw [← hB, wr_c (by first | decide | omega), wr_c (by first | decide | omega), wr_c (by first | decide | omega), wr_c (by first | decide | omega)]
    have xx : ev (WK L xs) 200 9 [vr 15, vi p1, vi p2, vi (n : Int)] S = some ((m : Int), B) := by
      have gA : Nat.beq (shp (WK L xs) A S.1.1).1 19 = true := by rw [shpD i1, b1]; rfl
      rw [xgo, show ev (WK L xs) 199 135 [vr 22, vr 16, vi (n : Int), vi (lv true)] S = some (0, T) from t1, bR, if_pos rfl, show ev (WK L xs) 199 154 [vr 22] (wr T 15 4 0) = some ((S.1.1 : Int), A) from a1, bR, q_102, q_101, A31, if_pos (by first | decide | omega), bR, if_pos rfl, Int.toNat_natCast, gA, gdT, A31, if_pos (by first | decide | omega), if_pos (by first | decide | omega), if_pos (by first | decide | omega), Int.toNat_natCast, wi (by first | decide | omega) (by first | decide | omega), w32e (by first | decide | omega) (by first | decide | omega), hB, bR]
    have lo : ∀ a, 72 ≤ a → a < 151 → B.2 a = S.2 a := fun a q1 q2 => by rw [cB a (by first | decide | omega), (a4 a (by first | decide | omega)).2, c0 a (by first | decide | omega) (by first | decide | omega) (by first | decide | omega) (by first | decide | omega)]
    obtain ⟨M1, -⟩ := m_readText (L := L) (xs := xs) (d := 186) (S := B) (t := t) (n := n) (law := true) (by first | decide | omega) (fun k hk => by rw [lo 73 (by decide) (by decide)]; exact ht2 k hk)
    have hM := M1 (by first | decide | omega)
    rw [hr] at hM
    obtain ⟨U, u1, u2, u3, u4⟩ := hM
    have U36 : U.2 72 36 = m := by rw [u2.2.2 36 (by decide) (by decide) (by decide), lo 72 (by decide) (by decide), hm]
    have u4' : RTf (wr (wr U 94 m p1) 95 m p2) x := by
      obtain ⟨⟨v1, v2, v3⟩, v4, v5, v6⟩ := u4
      refine ⟨⟨by rw [wr_c (by decide), wr_c (by decide), v1], v2, fun j q hq => ?_⟩, by rw [wr_c (by decide), wr_c (by decide), v4], v5, fun i q hq => ?_⟩
      · rw [wr_c (by decide), wr_c (by decide), wr_c (by decide), wr_c (by decide), wr_c (by decide), wr_c (by decide), wr_c (by decide), wr_c (by decide), wr_c (by decide), wr_c (by decide)]
        exact v3 j q hq
      · rw [wr_c (by decide), wr_c (by decide), wr_c (by decide), wr_c (by decide)]
        exact v6 i q hq
    obtain ⟨V, v1, v2, v3⟩ := m_keeps (L := L) (xs := xs) (d := 198) (tt := m) (by first | decide | omega) u4'
    have V36 : V.2 72 36 = m := by rw [v2.2.1 72 (by decide), wr_c (by decide), wr_c (by decide), U36]
    refine ⟨(m : Int), B, wr V 72 36 ((m : Int) + 1), xx, ?_, ?_, ?_⟩
    · rw [mgo B lo, show ev (WK L xs) 199 204 [vr 72, vi (n : Int), vi (if true then 1 else 0)] B = some (0, U) from u1, bR, if_neg (by decide), U36, if_pos (by first | decide | omega), if_pos (by first | decide | omega), Int.toNat_natCast, show ev (WK L xs) 199 230 [vr 72, vi (m : Int)] (wr (wr U 94 m p1) 95 m p2) = some (0, V) from v1, bR, V36, wi (by first | decide | omega) (by first | decide | omega), w32e (by first | decide | omega) (by first | decide | omega)]
    · have V1 : V.1 = A.1 := by
        rw [v2.1]
        show U.1 = A.1
        rw [u2.1, B1]
      have vlo : ∀ a, a ≠ 72 → ¬ (78 ≤ a ∧ a ≤ 95) → V.2 a = B.2 a := fun a q1 q2 => by rw [v2.2.1 a (by first | decide | omega), wr_c (by first | decide | omega), wr_c (by first | decide | omega), u2.2.1 a q1 (by first | decide | omega)]
      have S1c : ∀ a, a ≠ 15 → a ≠ 72 → (wr (wr S 15 4 0) 72 1 0).2 a = S.2 a := fun a q1 q2 => by rw [wr_c q2, wr_c q1]
      have hj9 : ∀ a j, a = 94 ∨ a = 95 → V.2 a j = if j = m then (if a = 94 then p1 else p2) else S.2 a j := fun a j ha => by
        rw [v2.2.1 a (by first | decide | omega)]
        rcases ha with rfl | rfl
        · rw [wr_c (by decide), wr_f, u2.2.1 94 (by decide) (by decide), lo 94 (by decide) (by decide)]
          rfl
        · rw [wr_f, wr_c (by decide), u2.2.1 95 (by decide) (by decide), lo 95 (by decide) (by decide)]
          rfl
      have vO : ∀ a, 151 ≤ a → (wr V 72 36 ((m : Int) + 1)).2 a = A.2 a := fun a ha => by rw [wr_c (by first | decide | omega), vlo a (by first | decide | omega) (by first | decide | omega), cB a (by first | decide | omega)]
      refine H1.newL (n := m) (o := S.1.1) (by rw [wr_f, if_neg (by decide), wr_c (by decide), hm]) (by first | decide | omega) ⟨?_, fun a q1 q2 => ⟨?_, ?_⟩⟩ (fun a k q1 q2 => ?_) ?_ ?_ (fun j => ?_) (fun j => ?_) (fun j => ?_) (fun a j q1 q2 => ?_) (fun tt y q1 q2 => ?_) ?_
      · show S.1.1 ≤ V.1.1
        rw [V1]
        omega
      · show V.1.2.2 a = S.1.2.2 a
        rw [V1, (a4 a q2).1]
      · rw [vO a q1, (a4 a q2).2, c0 a (by first | decide | omega) (by first | decide | omega) (by first | decide | omega) (by first | decide | omega), S1c a (by first | decide | omega) (by first | decide | omega)]
      · unfold nwLk scr at q2
        by_cases e72 : a = 72
        · subst e72
          rw [wr_f, if_neg (by first | decide | omega), v2.2.1 72 (by decide), wr_c (by decide), wr_c (by decide), wr_f]
          by_cases ek : k = 1
          · rw [if_pos ek, ek, u3]
          · rw [if_neg ek, u2.2.2 k ek (by first | decide | omega) (by first | decide | omega), lo 72 (by decide) (by decide), wr_c (by decide)]
        · rw [wr_c e72, vlo a e72 (by first | decide | omega), wr_c e72]
          by_cases e15 : a = 15
          · subst e15
            rw [cB 15 (by decide), (a4 15 (by first | decide | omega)).2, wr_f, wr_f, t2.2.1 15 (by decide) (by decide) (by decide)]
          · by_cases e31 : a = 31
            · subst e31
              rw [← hB, wr_f, if_neg (by first | decide | omega), wr_c (by decide), wr_c (by decide), wr_c (by decide), (a4 31 (by first | decide | omega)).2, c0 31 (by decide) (by decide) (by decide) (by decide), wr_c (by decide)]
            · rw [cB a (by first | decide | omega), (a4 a (by first | decide | omega)).2, c0 a e15 (by first | decide | omega) (by first | decide | omega) (by first | decide | omega), wr_c e15]
      · rw [wr_c (by decide), vlo 31 (by decide) (by decide), ← hB, wr_f, if_pos rfl]
      · rw [wr_f, if_pos rfl]
      · rw [wr_c (by decide), vlo 32 (by decide) (by decide), ← hB, wr_c (by decide), wr_c (by decide), wr_c (by decide), wr_f, (a4 32 (by first | decide | omega)).2, c0 32 (by decide) (by decide) (by decide) (by decide), S1c 32 (by decide) (by decide)]
      · rw [wr_c (by decide), wr_c (by decide), hj9 94 m (by first | decide | omega), if_pos rfl, if_pos rfl, vlo 33 (by decide) (by decide), ← hB, wr_c (by decide), wr_c (by decide), wr_f, wr_c (by decide), (a4 33 (by first | decide | omega)).2, c0 33 (by decide) (by decide) (by decide) (by decide), S1c 33 (by decide) (by decide)]
      · rw [wr_c (by decide), wr_c (by decide), hj9 95 m (by first | decide | omega), if_pos rfl, if_neg (show ¬ (95 : Nat) = 94 by decide), vlo 34 (by decide) (by decide), ← hB, wr_c (by decide), wr_f, wr_c (by decide), wr_c (by decide), (a4 34 (by first | decide | omega)).2, c0 34 (by decide) (by decide) (by decide) (by decide), S1c 34 (by decide) (by decide)]
      · rw [wr_c (by first | decide | omega), hj9 a j q1, if_neg q2, S1c a (by first | decide | omega) (by first | decide | omega)]
      · have e2 : RX (wr (wr U 94 m p1) 95 m p2).2 tt y := q2.cells (fun a z1 z2 => by rw [wr_c (by first | decide | omega), wr_c (by first | decide | omega), u2.2.1 a (by first | decide | omega) (by first | decide | omega), lo a (by first | decide | omega) (by first | decide | omega), S1c a (by first | decide | omega) (by first | decide | omega)])
        exact (v2.rx q1 e2).cells (fun a z1 z2 => by rw [wr_c (by first | decide | omega)])
      · refine ⟨x, v3.cells (fun a z1 z2 => by rw [wr_c (by first | decide | omega)]), Or.inr ⟨⟨i1, ?_, ?_⟩, S.1.1 + 1, S.1.1 + 2, S.1.1 + 3, n, ?_, ?_, ?_, ⟨by omega, ?_, ?_⟩, ⟨by omega, ?_, ?_⟩, ⟨by omega, ?_, ?_⟩, by omega, ?_, fun j q hq => ?_⟩⟩
        · show S.1.1 < V.1.1
          rw [V1]
          omega
        · show V.1.2.2 S.1.1 = _
          rw [V1, b1]
        · rw [vO _ i1, g1]
        · rw [vO _ i1, g2]
        · rw [vO _ i1, g3]
        · show S.1.1 + 1 < V.1.1
          rw [V1]
          omega
        · show V.1.2.2 (S.1.1 + 1) = _
          rw [V1, b2]
        · show S.1.1 + 2 < V.1.1
          rw [V1]
          omega
        · show V.1.2.2 (S.1.1 + 2) = _
          rw [V1, b3]
        · show S.1.1 + 3 < V.1.1
          rw [V1]
          omega
        · show V.1.2.2 (S.1.1 + 3) = _
          rw [V1, b4]
        · have e : byt (wr V 72 36 ((m : Int) + 1)).2 (S.1.1 + 1) = t := by
            funext k
            unfold byt
            rw [vO _ (by first | decide | omega), a6 k, ht, c0 16 (by decide) (by decide) (by decide) (by decide)]
            show iand (if k < n then S.2 16 k else 0) 255 = if k < n then iand (S.2 73 k) 255 else 0
            by_cases q : k < n
            · rw [if_pos q, if_pos q, gb.2.2.2 k (by first | decide | omega)]
            · rw [if_neg q, if_neg q]
              decide
          rw [e, show decide (m < 20) = true from decide_eq_true (by first | decide | omega)]
          exact hr
        · have hj := (List.getElem?_eq_some_iff.mp hq).1
          rw [vO _ (by first | decide | omega), vO _ (by first | decide | omega), (a7 j hj).1, (a7 j hj).2, wr_c (by decide), wr_c (by decide)]
          exact t3.2.2 j q hq
    · unfold Gw
      show V.1.1 ≤ S.1.1 + 1000 ∧ V.1.2.1 ≤ S.1.2.1 + 10000
      have := t3.2.1
      rw [v2.1]
      show U.1.1 ≤ S.1.1 + 1000 ∧ U.1.2.1 ≤ S.1.2.1 + 10000
      rw [u2.1, B1]
      omega
end
end
section
-- 99c.ovote
/-! vote: the call -/
section
variable {L : Nat} {xs : Nat → Int} {d : Nat} {S S' T U W A : AH} {t : TB} {n p : Nat}
theorem vote_fin (H : Inv S) {nA n tx : Nat} {x : TXT} (hn : S.2 72 40 = nA) (hn80 : nA < 80) {k hd s y : Int} (hk : k = 0 ∨ k = 2 ∨ k = 3) (hhd : 0 ≤ hd ∧ hd < S.2 72 4) (hs : 0 ≤ s ∧ s ≤ 1000000000) (hy : 0 ≤ y ∧ y ≤ 9)
    (hA1 : S.1.1 ≤ A.1.1 ∧ A.1.1 ≤ S.1.1 + 4 ∧ A.1.2.1 ≤ S.1.2.1 + 300) (hF : ∀ a, 151 ≤ a → a < S.1.1 → A.1.2.2 a = S.1.2.2 a ∧ A.2 a = S.2 a) (hc : ∀ a, a < 151 → a ≠ 15 → a ≠ 22 → a ≠ 23 → a ≠ 24 → A.2 a = S.2 a) (h15 : ∀ j, A.2 15 j = if j = 4 then 0 else S.2 15 j) (hT : CX2 A tx false x)
    (hR : ∀ W : AH, W.2 73 = S.2 73 → ∃ U, ev (WK L xs) 199 204 [vr 72, vi (n : Int), vi 0] W = some (0, U) ∧ Tf W U ∧ U.2 72 1 = 0 ∧ RTf U x) :
    ∃ B Z, LQ (WK L xs) (ev (WK L xs) 199) 12 135 [some (vr 15), some (vi k), some (vi hd), some (vi s), some (vi y), none, none, none] [vr tx] A = some ((nA : Int), B) ∧ (∀ a, 72 ≤ a → a < 151 → B.2 a = S.2 a) ∧ bindR (ev (WK L xs) 199 204 [vr 72, vi (n : Int), vi 0] B) (fun r9 S10 => (if r9 < 0 then (some (r9, S10)) else (bindR (ev (WK L xs) 199 239 [vr 72, vi k, vi hd, vi s, vi y] S10) (fun r11 S12 => (bindR (ev (WK L xs) 199 230 [vr 72, vi (w32 ((20 : Int) + r11))] S12) (fun r13 S14 => (some (r11, S14)))))))) = some ((nA : Int), Z) ∧ Inv Z ∧ Gw S Z := by
  have hk04 : 0 ≤ k ∧ k ≤ 4 := by omega
  have hk1 : k ≠ 1 := by omega
  have n20 : decide (20 + nA < 20) = false := decide_eq_false (by first | decide | omega)
  have i1 := H.1
  have gv := H.gv
  have ht := H.gt
  have iA : 151 ≤ A.1.1 := by omega
  have A36 : A.2 36 1 = nA := by rw [hc 36 (by decide) (by decide) (by decide) (by decide) (by decide), gv.2.1, hn]
  generalize hD : auS A k hd s y (S.2 72 2) tx (-1) = D
  have loD : ∀ a, a < 151 → D.2 a = A.2 a := fun a q => by rw [← hD, (auS_hi (by first | decide | omega)).2]
  have oD := auS_o (S := A) (k := k) (hd := hd) (s := s) (y := y) (td := S.2 72 2) (tx := tx) (bs := -1) iA
  rw [hD] at oD
  generalize hB : wr (wr D 37 nA (A.1.1 : Int)) 36 1 ((nA : Int) + 1) = B
  have B1 : B.1 = D.1 := by rw [← hB]; rfl
  have cB : ∀ a, a ≠ 36 → a ≠ 37 → B.2 a = D.2 a := fun a q1 q2 => by rw [← hB, wr_c q1, wr_c q2]
  have xx : LQ (WK L xs) (ev (WK L xs) 199) 12 135 [some (vr 15), some (vi k), some (vi hd), some (vi s), some (vi y), none, none, none] [vr tx] A = some ((nA : Int), B) := by
    have hs : (nw A 11 14).1.2.2 A.1.1 = (11, 14) := by rw [nw_s, if_pos rfl]
    have g1 : ∀ r : Rs, gd (Nat.beq (shp (WK L xs) (nw A 11 14) A.1.1).1 11 && Nat.ble 2 8) r = r := fun r => by rw [shpD iA, hs]; rfl
    have e15 : (nw A 11 14).2 15 0 = S.2 72 2 := by rw [nw_2, if_neg (by first | decide | omega), h15, if_neg (by decide), ht.1]
    rw [q_12_135, g1, e15, x_newAu iA, bR, hD, x_addAu oD.1 (by rw [loD 36 (by decide), A36]) hn80, bR, hB]
  have lo : ∀ a, 72 ≤ a → a < 151 → B.2 a = S.2 a := fun a q1 q2 => by rw [cB a (by first | decide | omega) (by first | decide | omega), loD a q2, hc a q2 (by first | decide | omega) (by first | decide | omega) (by first | decide | omega) (by first | decide | omega)]
  obtain ⟨U, u1, u2, u3, u4⟩ := hR B (lo 73 (by decide) (by decide))
  have U40 : U.2 72 40 = nA := by rw [u2.2.2 40 (by decide) (by decide) (by decide), lo 72 (by decide) (by decide), hn]
  have U2 : U.2 72 2 = S.2 72 2 := by rw [u2.2.2 2 (by decide) (by decide) (by decide), lo 72 (by decide) (by decide)]
  obtain ⟨V, v1, v2, v3, v4, v5, v6, v7, v8, v9, v10, v11, v12, v13, v14, v15⟩ := m_addAu (L := L) (xs := xs) (d := 198) (W := U) (n := nA) U40 hn80 k hd s y
  have RV4 : RTf V x := by
    obtain ⟨⟨w1, w2, w3⟩, w4, w5, w6⟩ := u4
    refine ⟨⟨by rw [v4 21 (by decide), w1], w2, fun j q hq => ?_⟩, by rw [v4 22 (by decide), w4], w5, fun i q hq => ?_⟩
    · rw [v3 86 (by decide) (by decide) (by decide), v3 87 (by decide) (by decide) (by decide), v3 88 (by decide) (by decide) (by decide), v3 89 (by decide) (by decide) (by decide), v3 90 (by decide) (by decide) (by decide)]
      exact w3 j q hq
    · rw [v3 91 (by decide) (by decide) (by decide), v3 92 (by decide) (by decide) (by decide)]
      exact w6 i q hq
  obtain ⟨Z, z1, z2, z3⟩ := m_keeps (L := L) (xs := xs) (d := 198) (tt := 20 + nA) (by first | decide | omega) RV4
  have Z1 : Z.1 = D.1 := by rw [z2.1, v2, u2.1, B1]
  have w20 : w32 ((20 : Int) + (nA : Int)) = ((20 + nA : Nat) : Int) := by
    rw [w32e (by first | decide | omega) (by first | decide | omega)]
    omega
  refine ⟨B, Z, xx, lo, ?_, ?_, ?_⟩
  · rw [u1, bR, if_neg (by decide), show ev (WK L xs) 199 239 [vr 72, vi k, vi hd, vi s, vi y] U = some ((nA : Int), V) from v1, bR, w20, show ev (WK L xs) 199 230 [vr 72, vi ((20 + nA : Nat) : Int)] V = some (0, Z) from z1, bR]
  · have H1 := H.tape0
    have zA : ∀ a, a ≠ 72 → ¬ (78 ≤ a ∧ a ≤ 85) → ¬ (86 ≤ a ∧ a ≤ 93) → ¬ (97 ≤ a ∧ a ≤ 104) → Z.2 a = B.2 a := fun a q1 q2 q3 q4 => by rw [z2.2.1 a q2, v3 a q1 (by first | decide | omega) q4, u2.2.1 a q1 q3]
    have z72 : ∀ j, j ≠ 40 → Z.2 72 j = U.2 72 j := fun j q => by rw [z2.2.1 72 (by decide), v4 j q]
    obtain ⟨E, hE⟩ : ∃ E : AH, E = (A.1, fun a j => if (a = 72 ∧ j ≠ 40) ∨ (86 ≤ a ∧ a ≤ 93) then Z.2 a j else A.2 a j) := ⟨_, rfl⟩
    have E1 : E.1 = A.1 := by rw [hE]
    have E2 : ∀ a j, E.2 a j = if (a = 72 ∧ j ≠ 40) ∨ (86 ≤ a ∧ a ≤ 93) then Z.2 a j else A.2 a j := fun a j => by rw [hE]
    have EA : ∀ a, a ≠ 72 → ¬ (86 ≤ a ∧ a ≤ 93) → E.2 a = A.2 a := fun a q1 q2 => by
      funext j
      rw [E2, if_neg (fun z => z.elim (fun y => q1 y.1) q2)]
    have S1c : ∀ a, a ≠ 15 → a ≠ 72 → (wr (wr S 15 4 0) 72 1 0).2 a = S.2 a := fun a q1 q2 => by rw [wr_c q2, wr_c q1]
    have HE : Inv E := by
      refine H1.nscr ⟨by rw [E1]; exact hA1.1, fun a q1 q2 => ⟨?_, ?_⟩⟩ (fun a j q1 q2 => ?_)
      · rw [E1, (hF a q1 q2).1]
        rfl
      · rw [EA a (by first | decide | omega) (by first | decide | omega), (hF a q1 q2).2, S1c a (by first | decide | omega) (by first | decide | omega)]
      · unfold nscr scr at q2
        by_cases e72 : a = 72
        · subst e72
          rw [E2]
          by_cases e40 : j = 40
          · rw [if_neg (fun z => z.elim (fun y => y.2 e40) (fun y => by omega)), hc 72 (by decide) (by decide) (by decide) (by decide) (by decide), wr_f, if_neg (by first | decide | omega), wr_c (by decide)]
          · rw [if_pos (Or.inl ⟨rfl, e40⟩), z72 j e40, wr_f]
            by_cases ej : j = 1
            · rw [if_pos ej, ej, u3]
            · rw [if_neg ej, u2.2.2 j ej (by first | decide | omega) (by first | decide | omega), lo 72 (by decide) (by decide), wr_c (by decide)]
        · rw [EA a e72 (by first | decide | omega)]
          by_cases e15 : a = 15
          · subst e15
            rw [h15, wr_c (by decide), wr_f]
          · rw [hc a q1 e15 (by first | decide | omega) (by first | decide | omega) (by first | decide | omega), S1c a e15 e72]
    have Enow : E.2 72 2 = S.2 72 2 := by rw [E2, if_pos (Or.inl ⟨rfl, by decide⟩), z72 2 (by decide), U2]
    have E4 : E.2 72 4 = S.2 72 4 := by rw [E2, if_pos (Or.inl ⟨rfl, by decide⟩), z72 4 (by decide), u2.2.2 4 (by decide) (by decide) (by decide), lo 72 (by decide) (by decide)]
    have auE : (auS E k hd s y (S.2 72 2) tx (-1)).1 = D.1 := by
      rw [← hD]
      show ((E.1.1 + 1 + 1, E.1.2.1 + 14 + 10, fun b => if b = E.1.1 + 1 then (3, 10) else if b = E.1.1 then (11, 14) else E.1.2.2 b) : AG) = (A.1.1 + 1 + 1, A.1.2.1 + 14 + 10, fun b => if b = A.1.1 + 1 then (3, 10) else if b = A.1.1 then (11, 14) else A.1.2.2 b)
      rw [E1]
    have Zhi : ∀ a, 151 ≤ a → Z.2 a = D.2 a := fun a q => by rw [zA a (by first | decide | omega) (by first | decide | omega) (by first | decide | omega) (by first | decide | omega), cB a (by first | decide | omega) (by first | decide | omega)]
    refine HE.newB (n := nA) (tx := tx) (k := k) (hd := hd) (s := s) (y := y) (td := S.2 72 2) (bs := -1) ?_ hn80 ?_ (fun a q => ?_) (fun a q1 q2 q3 q4 q5 q6 => ?_) (fun j q => ?_) ?_ (fun j q => ?_) ?_ (fun j => ?_) (fun a j q1 q2 q3 => ?_) (fun tt w q1 q2 => ?_) ?_ ?_ ?_ ?_ ?_ ?_ ?_ ?_ ?_ ?_
    · rw [E2, if_neg (fun z => z.elim (fun y => y.2 rfl) (fun y => by omega)), hc 72 (by decide) (by decide) (by decide) (by decide) (by decide), hn]
    · rw [auE, Z1]
    · rw [Zhi a q, ← hD]
      show (if a = A.1.1 then auF k hd s y (S.2 72 2) tx (-1) (A.1.1 + 1) else if a = A.1.1 + 1 then fun _ => 0 else A.2 a) = (if a = E.1.1 then auF k hd s y (S.2 72 2) tx (-1) (E.1.1 + 1) else if a = E.1.1 + 1 then fun _ => 0 else E.2 a)
      rw [E1, EA a (by first | decide | omega) (by first | decide | omega)]
    · by_cases e : 86 ≤ a ∧ a ≤ 93
      · funext j
        rw [E2, if_pos (Or.inr e)]
      · rw [EA a q4 e, zA a q4 q5 e q6, cB a q2 q3, loD a q1]
    · rw [zA 36 (by decide) (by decide) (by decide) (by decide), ← hB, wr_f, if_neg q, wr_c (by decide), loD 36 (by decide), EA 36 (by decide) (by decide)]
    · rw [zA 36 (by decide) (by decide) (by decide) (by decide), ← hB, wr_f, if_pos rfl]
    · rw [E2, if_pos (Or.inl ⟨rfl, q⟩)]
    · rw [z2.2.1 72 (by decide), v5]
    · rw [zA 37 (by decide) (by decide) (by decide) (by decide), ← hB, wr_c (by decide), wr_f, loD 37 (by decide), E1, EA 37 (by decide) (by decide)]
    · rw [z2.2.1 a (by first | decide | omega), v7 a j q1 q2 q3, u2.2.1 a (by first | decide | omega) (by first | decide | omega), lo a (by first | decide | omega) (by first | decide | omega), EA a (by first | decide | omega) (by first | decide | omega), hc a (by first | decide | omega) (by first | decide | omega) (by first | decide | omega) (by first | decide | omega) (by first | decide | omega)]
    · refine z2.rx q1 (q2.c78 ?_ (fun a w1 w2 => ?_))
      · rw [v6 tt, if_neg (by first | decide | omega), u2.2.1 78 (by decide) (by decide), lo 78 (by decide) (by decide), EA 78 (by decide) (by decide), hc 78 (by decide) (by decide) (by decide) (by decide) (by decide)]
      · rw [v3 a (by first | decide | omega) (by first | decide | omega) (by first | decide | omega), u2.2.1 a (by first | decide | omega) (by first | decide | omega), lo a (by first | decide | omega) (by first | decide | omega), EA a (by first | decide | omega) (by first | decide | omega), hc a (by first | decide | omega) (by first | decide | omega) (by first | decide | omega) (by first | decide | omega) (by first | decide | omega)]
    · unfold nwR
      rw [z2.2.1 97 (by decide), z2.2.1 98 (by decide), z2.2.1 99 (by decide), z2.2.1 100 (by decide), z2.2.1 102 (by decide), z2.2.1 104 (by decide), v8, v9, v10, v11, v13, v15, U2, E4]
      exact ⟨hk04, hhd, hs, hy, ht.2, fun z => absurd z hk1, fun _ => rfl⟩
    · rw [z2.2.1 97 (by decide), v8]
    · rw [z2.2.1 98 (by decide), v9]
    · rw [z2.2.1 99 (by decide), v10]
    · rw [z2.2.1 100 (by decide), v11]
    · rw [z2.2.1 104 (by decide), v15, U2]
    · rw [z2.2.1 97 (by decide), v8, if_neg hk1]
    · rw [z2.2.1 101 (by decide), v12]
    · rw [z2.2.1 103 (by decide), v14]
    · refine ⟨x, z3, ?_⟩
      rw [n20]
      refine hT.fr ⟨?_, fun a q1 q2 => ⟨?_, ?_⟩⟩
      · rw [Z1, ← hD]
        show A.1.1 ≤ A.1.1 + 1 + 1
        omega
      · rw [Z1, ← hD, (auS_hi q2).1]
      · rw [Zhi a q1, ← hD, (auS_hi q2).2]
  · unfold Gw
    rw [Z1, ← hD]
    show A.1.1 + 1 + 1 ≤ _ ∧ A.1.2.1 + 14 + 10 ≤ _
    omega
noncomputable def vtQ (h : Nat → Nat → Int) (p1 p2 p3 p4 p5 : Int) : Prop := (p1 = 0 ∨ p1 = 2 ∨ p1 = 3) ∧ (0 ≤ p2 ∧ p2 < h 72 4) ∧ (0 ≤ p3 ∧ p3 ≤ 1000000000) ∧ (0 ≤ p4 ∧ p4 < 10) ∧ h 72 40 < 80 ∧ (0 ≤ p5 ∧ p5 ≤ 200) ∧ p5 ≤ h 72 1
theorem o_vote (H : Inv S) (p1 p2 p3 p4 p5 : Int) : Ok L xs 12 237 [vi p1, vi p2, vi p3, vi p4, vi p5] S := by
  have gv := H.gv
  have gb := H.gb
  have gp := H.gp
  have i1 := H.1
  have hn80 := gv.1.1
  by_cases hQ : vtQ S.2 p1 p2 p3 p4 p5
  rotate_left
  · refine Ok.same (r := -1) H ?_ ?_
    · have go : ev (WK L xs) 200 12 [vr 15, vi p1, vi p2, vi p3, vi p4, vi p5] S = if p1 = 0 ∨ p1 = 2 ∨ p1 = 3 then (LQ (WK L xs) (ev (WK L xs) 199) 12 16 [some (vr 15), some (vi p1), some (vi p2), some (vi p3), some (vi p4), some (vi p5), none, none] [] S) else some (-1, S) := by
        rw [q_12]
        by_cases q1 : p1 = 0
        · rw [if_pos q1, if_pos (Or.inl q1)]
        · rw [if_neg q1]
          by_cases q2 : p1 = 2
          · rw [if_pos q2, if_pos (Or.inr (Or.inl q2))]
          · rw [if_neg q2]
            by_cases q3 : p1 = 3
            · rw [if_pos q3, if_pos (Or.inr (Or.inr q3))]
            · rw [if_neg q3, if_neg (by first | decide | omega)]
      rw [go]
      by_cases c0 : p1 = 0 ∨ p1 = 2 ∨ p1 = 3
      rotate_left
      · rw [if_neg c0]
      rw [if_pos c0, q_12_16, x_isHead, bR, gp.2.1]
      simp only [bi_0]
      by_cases c1 : 0 ≤ p2 ∧ p2 < S.2 72 4
      rotate_left
      · rw [if_pos c1]
      rw [if_neg (fun z => z c1), x_isSum, bR]
      simp only [bi_0]
      by_cases c2 : 0 ≤ p3 ∧ p3 ≤ 1000000000
      rotate_left
      · rw [if_pos c2]
      rw [if_neg (fun z => z c2), x_isYear, bR]
      simp only [bi_0]
      by_cases c3 : 0 ≤ p4 ∧ p4 < 10
      rotate_left
      · rw [if_pos c3]
      rw [if_neg (fun z => z c3), q_166, gv.2.1]
      by_cases c4 : S.2 72 40 < 80
      rotate_left
      · rw [if_neg c4, bR, if_neg (by decide)]
      rw [if_pos c4, bR, if_pos rfl]
      by_cases c5 : p5 < 0
      · rw [if_pos c5]
      rw [if_neg c5]
      by_cases c6 : 200 < p5
      · rw [if_pos c6]
      rw [if_neg c6, gb.1]
      by_cases c7 : S.2 72 1 < p5
      · rw [if_pos c7]
      exact absurd ⟨c0, c1, c2, c3, c4, by omega, by omega⟩ hQ
    · rw [q_237]
      by_cases c4 : S.2 72 40 = 80
      · rw [if_pos c4]
      rw [if_neg c4]
      have go : (if p1 = 0 then (LQ (WK L xs) (ev (WK L xs) 199) 237 23 [some (vr 72), some (vi p1), some (vi p2), some (vi p3), some (vi p4), some (vi p5), none, none] [] S) else (if p1 = 2 then (LQ (WK L xs) (ev (WK L xs) 199) 237 23 [some (vr 72), some (vi p1), some (vi p2), some (vi p3), some (vi p4), some (vi p5), none, none] [] S) else (if p1 = 3 then (LQ (WK L xs) (ev (WK L xs) 199) 237 23 [some (vr 72), some (vi p1), some (vi p2), some (vi p3), some (vi p4), some (vi p5), none, none] [] S) else (some ((-1 : Int), S))))) = if p1 = 0 ∨ p1 = 2 ∨ p1 = 3 then (LQ (WK L xs) (ev (WK L xs) 199) 237 23 [some (vr 72), some (vi p1), some (vi p2), some (vi p3), some (vi p4), some (vi p5), none, none] [] S) else some (-1, S) := by
        by_cases q1 : p1 = 0
        · rw [if_pos q1, if_pos (Or.inl q1)]
        · rw [if_neg q1]
          by_cases q2 : p1 = 2
          · rw [if_pos q2, if_pos (Or.inr (Or.inl q2))]
          · rw [if_neg q2]
            by_cases q3 : p1 = 3
            · rw [if_pos q3, if_pos (Or.inr (Or.inr q3))]
            · rw [if_neg q3, if_neg (by first | decide | omega)]
      rw [go]
      by_cases c0 : p1 = 0 ∨ p1 = 2 ∨ p1 = 3
      rotate_left
      · rw [if_neg c0]
      rw [if_pos c0, q_237_23, m_isHead gp.1, bR]
      simp only [bi_0]
      by_cases c1 : 0 ≤ p2 ∧ p2 < S.2 72 4
      rotate_left
      · rw [if_pos c1]
      rw [if_neg (fun z => z c1), m_isSum, bR]
      simp only [bi_0]
      by_cases c2 : 0 ≤ p3 ∧ p3 ≤ 1000000000
      rotate_left
      · rw [if_pos c2]
      rw [if_neg (fun z => z c2), m_lies, bR]
      simp only [bi_0]
      by_cases c3 : 0 ≤ p4 ∧ p4 ≤ 9
      rotate_left
      · rw [if_pos c3]
      rw [if_neg (fun z => z c3), m_lies, bR]
      simp only [bi_0]
      by_cases c5 : 0 ≤ p5 ∧ p5 ≤ 200
      rotate_left
      · rw [if_pos c5]
      rw [if_neg (fun z => z c5)]
      by_cases c7 : S.2 72 1 < p5
      · rw [if_pos c7]
      exact absurd ⟨c0, c1, c2, by omega, by omega, c5, by omega⟩ hQ
  obtain ⟨c0, c1, c2, c3, c4, c5, c6⟩ := hQ
  obtain ⟨n, hn⟩ := Int.eq_ofNat_of_zero_le c5.1
  obtain ⟨nA, hA⟩ := Int.eq_ofNat_of_zero_le hn80.1
  subst hn
  have hT400 := gb.2.2.1
  have xgo : ev (WK L xs) 200 12 [vr 15, vi p1, vi p2, vi p3, vi p4, vi (n : Int)] S = if (n : Int) = 0 then (LQ (WK L xs) (ev (WK L xs) 199) 12 101 [some (vr 15), some (vi p1), some (vi p2), some (vi p3), some (vi p4), some (vi (n : Int)), none, none] [vi (0 : Int)] S) else (bindR (ev (WK L xs) 199 135 [vr 22, vr 16, vi (n : Int), vi (lv false)] S) (fun r9 S10 => (LQ (WK L xs) (ev (WK L xs) 199) 12 101 [some (vr 15), some (vi p1), some (vi p2), some (vi p3), some (vi p4), some (vi (n : Int)), none, none] [vi r9] S10))) := by
    have go : ev (WK L xs) 200 12 [vr 15, vi p1, vi p2, vi p3, vi p4, vi (n : Int)] S = (LQ (WK L xs) (ev (WK L xs) 199) 12 16 [some (vr 15), some (vi p1), some (vi p2), some (vi p3), some (vi p4), some (vi (n : Int)), none, none] [] S) := by
      rw [q_12]
      rcases c0 with q | q | q
      · rw [if_pos q]
      · rw [if_neg (by first | decide | omega), if_pos q]
      · rw [if_neg (by first | decide | omega), if_neg (by first | decide | omega), if_pos q]
    rw [go, q_12_16, x_isHead, bR, gp.2.1]
    simp only [bi_0]
    rw [if_neg (fun z => z c1), x_isSum, bR]
    simp only [bi_0]
    rw [if_neg (fun z => z c2), x_isYear, bR]
    simp only [bi_0]
    rw [if_neg (fun z => z c3), q_166, gv.2.1, if_pos c4, bR, if_pos rfl, if_neg (by first | decide | omega), if_neg (by first | decide | omega), gb.1, if_neg (by first | decide | omega)]
    rfl
  have mgo : ∀ W : AH, (∀ a, 72 ≤ a → a < 151 → W.2 a = S.2 a) → ev (WK L xs) 200 237 [vr 72, vi p1, vi p2, vi p3, vi p4, vi (n : Int)] W = bindR (ev (WK L xs) 199 204 [vr 72, vi (n : Int), vi 0] W) (fun r9 S10 => (if r9 < 0 then (some (r9, S10)) else (bindR (ev (WK L xs) 199 239 [vr 72, vi p1, vi p2, vi p3, vi p4] S10) (fun r11 S12 => (bindR (ev (WK L xs) 199 230 [vr 72, vi (w32 ((20 : Int) + r11))] S12) (fun r13 S14 => (some (r11, S14)))))))) := by
    intro W hW
    have w72 := hW 72 (by decide) (by decide)
    obtain ⟨rk, rv, rp⟩ := H.ref (W := W) (fun a q1 q2 _ => hW a q1 q2)
    have go : ev (WK L xs) 200 237 [vr 72, vi p1, vi p2, vi p3, vi p4, vi (n : Int)] W = (LQ (WK L xs) (ev (WK L xs) 199) 237 23 [some (vr 72), some (vi p1), some (vi p2), some (vi p3), some (vi p4), some (vi (n : Int)), none, none] [] W) := by
      rw [q_237, w72, if_neg (by first | decide | omega)]
      rcases c0 with q | q | q
      · rw [if_pos q]
      · rw [if_neg (by first | decide | omega), if_pos q]
      · rw [if_neg (by first | decide | omega), if_neg (by first | decide | omega), if_pos q]
    rw [go, q_237_23, m_isHead rp, bR, w72]
    simp only [bi_0]
    rw [if_neg (fun z => z c1), m_isSum, bR]
    simp only [bi_0]
    rw [if_neg (fun z => z c2), m_lies, bR]
    simp only [bi_0]
    rw [if_neg (fun z => z (by first | decide | omega)), m_lies, bR]
    simp only [bi_0]
    rw [if_neg (fun z => z c5), w72, if_neg (by first | decide | omega)]
  obtain ⟨t, ht⟩ : ∃ t : TB, t = fun k => if k < n then iand (S.2 73 k) 255 else 0 := ⟨_, rfl⟩
  have htb : ∀ k, 0 ≤ t k ∧ t k ≤ 255 := fun k => by
    rw [ht]
    show 0 ≤ (if k < n then iand (S.2 73 k) 255 else 0) ∧ (if k < n then iand (S.2 73 k) 255 else 0) ≤ 255
    by_cases q : k < n
    · rw [if_pos q]
      exact iand255 _
    · rw [if_neg q]
      decide
  have ht2 : ∀ k, k < n → iand (S.2 73 k) 255 = t k := fun k hk => by
    rw [ht]
    show _ = if k < n then iand (S.2 73 k) 255 else 0
    rw [if_pos hk]
  have H1 := H.tape0
  by_cases hz : n = 0
  · obtain ⟨B, Z, b1, b2, b3, b4, b5⟩ := vote_fin (L := L) (xs := xs) (A := wr S 15 4 0) (n := n) (tx := 27) (x := []) H hA (by first | decide | omega) c0 c1 c2 (y := p4) (by first | decide | omega) ⟨Nat.le_refl _, by show S.1.1 ≤ _; omega, by show S.1.2.1 ≤ _; omega⟩ (fun a q1 q2 => ⟨rfl, wr_c (by first | decide | omega)⟩) (fun a q1 q2 _ _ _ => wr_c q2) (fun j => by rw [wr_f]) (Or.inl ⟨rfl, rfl⟩) (fun W hW => (m_readText (L := L) (xs := xs) (d := 186) (S := W) (t := t) (n := n) (law := false) (by first | decide | omega) (fun k hk => by omega)).2 hz)
    refine ⟨(nA : Int), B, Z, ?_, ?_, b4, b5⟩
    · rw [xgo, if_pos (by first | decide | omega), q_12_101, if_pos rfl, if_pos (by first | decide | omega)]
      exact b1
    · rw [mgo B b2]
      exact b3
  rw [if_neg (by first | decide | omega)] at xgo
  have hR := x_readAll (L := L) (xs := xs) (d := 126) (S := S) (t := t) (b := 16) (len := 400) (n := n) (law := false) (by first | decide | omega) htb (by decide) rfl (by first | decide | omega) (fun k hk => by
    rw [show rdv (WK L xs) S 16 k = S.2 16 k from rfl, gb.2.2.2 k (by first | decide | omega)]
    exact ht2 k hk)
  revert hR
  cases hr : rdT t n false with
  | inl e =>
    rintro ⟨T, t1, t2⟩
    obtain ⟨M1, -⟩ := m_readText (L := L) (xs := xs) (d := 186) (S := wr T 15 4 0) (t := t) (n := n) (law := false) (by first | decide | omega) (fun k hk => by rw [wr_c (by decide), t2.2.1 73 (by decide) (by decide) (by decide)]; exact ht2 k hk)
    have hM := M1 (by first | decide | omega)
    rw [hr] at hM
    obtain ⟨U, u1, u2, u3, u4⟩ := hM
    have hlo : ∀ a, 72 ≤ a → a < 151 → (wr T 15 4 0).2 a = S.2 a := fun a q1 q2 => by rw [wr_c (by first | decide | omega), t2.2.1 a (by first | decide | omega) (by first | decide | omega) (by first | decide | omega)]
    refine ⟨e, wr T 15 4 0, U, ?_, ?_, ?_, ?_⟩
    · rw [xgo, show ev (WK L xs) 199 135 [vr 22, vr 16, vi (n : Int), vi (lv false)] S = some (e, T) from t1, bR, q_12_101, if_neg (by first | decide | omega)]
    · rw [mgo _ hlo, show ev (WK L xs) 199 204 [vr 72, vi (n : Int), vi 0] (wr T 15 4 0) = some (e, U) from u1, bR, if_pos u4]
    · have uT : U.1 = S.1 := by
        rw [u2.1]
        exact t2.1
      refine H1.nscr ⟨by rw [uT]; exact Nat.le_refl _, fun a q1 q2 => ⟨by rw [uT]; rfl, ?_⟩⟩ (fun a k q1 q2 => ?_)
      · rw [u2.2.1 a (by first | decide | omega) (by first | decide | omega), wr_c (by first | decide | omega), t2.2.1 a (by first | decide | omega) (by first | decide | omega) (by first | decide | omega), wr_c (by first | decide | omega), wr_c (by first | decide | omega)]
      · unfold nscr scr at q2
        by_cases e72 : a = 72
        · subst e72
          rw [wr_f]
          by_cases ek : k = 1
          · rw [if_pos ek, ek, u3]
          · rw [if_neg ek, u2.2.2 k ek (by first | decide | omega) (by first | decide | omega), wr_c (by decide), t2.2.1 72 (by decide) (by decide) (by decide), wr_c (by decide)]
        · rw [u2.2.1 a e72 (by first | decide | omega), wr_c e72]
          by_cases e15 : a = 15
          · subst e15
            rw [wr_f, wr_f, t2.2.1 15 (by decide) (by decide) (by decide)]
          · rw [wr_c e15, wr_c e15, t2.2.1 a (by first | decide | omega) (by first | decide | omega) (by first | decide | omega)]
    · exact Gw.of (u2.1.trans t2.1)
  | inr x =>
    rintro ⟨T, t1, t2, t3, t4, t5⟩
    have T1 : (wr T 15 4 0).1 = S.1 := t2.1
    have c0' : ∀ a, a ≠ 15 → a ≠ 22 → a ≠ 23 → a ≠ 24 → (wr T 15 4 0).2 a = S.2 a := fun a q1 q2 q3 q4 => by rw [wr_c q1, t2.2.1 a q2 q3 q4]
    have f22 : ∀ k, (wr T 15 4 0).2 22 k = T.2 22 k := fun k => by rw [wr_c (by decide)]
    obtain ⟨A, a1, a2, a3, a4, ⟨b1, b2, b3, b4⟩, ⟨g1, g2, g3⟩, a6, a7⟩ := x_textRead (L := L) (xs := xs) (d := 197) (S := wr T 15 4 0) (n := n) (x := x) (by rw [T1]; exact i1) (by first | decide | omega) (by rw [f22, t4]; rfl) (by rw [f22, t5]) ⟨by rw [f22, t3.1], t3.2.1, fun j q hq => by rw [wr_c (by decide), wr_c (by decide)]; exact t3.2.2 j q hq⟩
    rw [T1] at a1 a2 a3 a4 b1 b2 b3 b4 g1 g2 g3 a6 a7
    have hx16 := t3.2.1
    obtain ⟨B, Z, z1, z2, z3, z4, z5⟩ := vote_fin (L := L) (xs := xs) (A := A) (n := n) (tx := S.1.1) (x := x) H hA (by first | decide | omega) c0 c1 c2 (y := p4) (by first | decide | omega) ⟨by omega, by omega, by omega⟩ (fun a q1 q2 => ⟨by rw [(a4 a q2).1], by rw [(a4 a q2).2, c0' a (by first | decide | omega) (by first | decide | omega) (by first | decide | omega) (by first | decide | omega)]⟩) (fun a q1 q2 q3 q4 q5 => by rw [(a4 a (by first | decide | omega)).2, c0' a q2 q3 q4 q5]) (fun j => by rw [(a4 15 (by first | decide | omega)).2, wr_f, t2.2.1 15 (by decide) (by decide) (by decide)]) (Or.inr ⟨⟨i1, by omega, b1⟩, S.1.1 + 1, S.1.1 + 2, S.1.1 + 3, n, g1, g2, g3, ⟨by omega, by omega, b2⟩, ⟨by omega, by omega, b3⟩, ⟨by omega, by omega, b4⟩, by omega, by
        have e : byt A.2 (S.1.1 + 1) = t := by
          funext k
          unfold byt
          rw [a6 k, ht, c0' 16 (by decide) (by decide) (by decide) (by decide)]
          show iand (if k < n then S.2 16 k else 0) 255 = if k < n then iand (S.2 73 k) 255 else 0
          by_cases q : k < n
          · rw [if_pos q, if_pos q, gb.2.2.2 k (by first | decide | omega)]
          · rw [if_neg q, if_neg q]
            decide
        rw [e]
        exact hr, fun j q hq => by
        have hj := (List.getElem?_eq_some_iff.mp hq).1
        rw [(a7 j hj).1, (a7 j hj).2, wr_c (by decide), wr_c (by decide)]
        exact t3.2.2 j q hq⟩) (fun W hW => by
        have hM := (m_readText (L := L) (xs := xs) (d := 186) (S := W) (t := t) (n := n) (law := false) (by first | decide | omega) (fun k hk => by rw [hW]; exact ht2 k hk)).1 (by first | decide | omega)
        rw [hr] at hM
        exact hM)
    refine ⟨(nA : Int), B, Z, ?_, ?_, z4, z5⟩
    · rw [xgo, show ev (WK L xs) 199 135 [vr 22, vr 16, vi (n : Int), vi (lv false)] S = some (0, T) from t1, bR, q_12_101, if_pos rfl, if_neg (by first | decide | omega), show ev (WK L xs) 199 154 [vr 22] (wr T 15 4 0) = some ((S.1.1 : Int), A) from a1, bR, Int.toNat_natCast]
      exact z1
    · rw [mgo B z2]
      exact z3
end
end
section
-- 99d.rhold
/-! the reference reckons a code -/
/-- the greatest rank among those who signed, of the first k hands -/
noncomputable def rkF (h : Nat → Nat → Int) (sg : Nat) : Nat → Int
  | 0 => 0
  | k + 1 => if sg.testBit k then max (rkF h sg k) (h 76 k) else rkF h sg k
noncomputable def rkC (h : Nat → Nat → Int) (c : Nat) : Int := rkF h (h 114 c).toNat (h 72 5).toNat
/-- how many claims of its hand were paid this year -/
noncomputable def pdT (h : Nat → Nat → Int) (c x : Nat) : Int := if h 108 x = h 108 c ∧ pin h x (yr (h 72 2)) = true then 1 else 0
noncomputable def pdH (h : Nat → Nat → Int) (c : Nat) : Int := sm (pdT h c) (nClaims h)
noncomputable def leC (h : Nat → Nat → Int) (c : Nat) (l x : Int) : Int := if x = 97 then h 111 c else if x = 104 then h 109 c else if x = 107 then h 110 c else if x = 113 then pdH h c else if x = 114 then rkC h c else if x = 121 then Int.tmod (h 72 2) 360 else l
noncomputable def udC (h : Nat → Nat → Int) (c : Nat) (N : Int) : Bool := decide (N < h 72 4) && uN h (h 109 c) N
/-- the stack of values -/
noncomputable def Stk (S : AH) (s : List (Option Int)) : Prop := ∀ (i : Nat) (o : Option Int), s[i]? = some o → (o = none → S.2 129 (s.length - 1 - i) = 1) ∧ ∀ v, o = some v → S.2 129 (s.length - 1 - i) = 0 ∧ S.2 128 (s.length - 1 - i) = v
noncomputable def Vf (S T : AH) : Prop := T.1 = S.1 ∧ ∀ a, a ≠ 128 → a ≠ 129 → T.2 a = S.2 a
section
variable {L : Nat} {xs : Nat → Int} {d : Nat} {S S' T U W : AH}
theorem Vf.rf : Vf S S := ⟨rfl, fun _ _ _ => rfl⟩
theorem Vf.tr (h : Vf S T) (k : Vf T U) : Vf S U := ⟨k.1.trans h.1, fun a q1 q2 => (k.2 a q1 q2).trans (h.2 a q1 q2)⟩
theorem Vf.w {a k : Nat} {v : Int} (h : a = 128 ∨ a = 129) : Vf S (wr S a k v) := ⟨rfl, fun b q1 q2 => wr_c (by first | decide | omega)⟩
theorem pdT_bd (h : Nat → Nat → Int) (c x : Nat) : 0 ≤ pdT h c x ∧ pdT h c x ≤ 1 := by
  unfold pdT
  split <;> omega
theorem rkF_bd (hR : RP S.2) (sg : Nat) : ∀ k : Nat, (k : Int) ≤ S.2 72 5 → 0 ≤ rkF S.2 sg k ∧ rkF S.2 sg k ≤ 9 := by
  intro k
  induction k with
  | zero => intro _; exact ⟨Int.le_refl 0, by show (0 : Int) ≤ 9; decide⟩
  | succ k ih =>
    intro hk
    have h1 := ih (by first | decide | omega)
    have h2 := hR.2.2.2 k (by first | decide | omega)
    show 0 ≤ (if sg.testBit k then max (rkF S.2 sg k) (S.2 76 k) else rkF S.2 sg k) ∧ (if sg.testBit k then max (rkF S.2 sg k) (S.2 76 k) else rkF S.2 sg k) ≤ 9
    split <;> omega
theorem m_rank (hR : RP S.2) (hK : RK S.2) {c : Nat} (hc : (c : Int) < S.2 72 52) : ev (WK L xs) (d + 1) 270 [vr 72, vi (c : Int)] S = some (rkC S.2 c, S) := by
  obtain ⟨-, -, -, -, -, r6, -⟩ := hK.2.2.2.1 c hc
  have h300 := hK.1.2
  have h16 := hR.2.1
  obtain ⟨sg, hsg⟩ := Int.eq_ofNat_of_zero_le r6.1
  have key : ∀ (m k : Nat), k + m = (S.2 72 5).toNat → LQ (WK L xs) (ev (WK L xs) d) 270 4 [some (vr 72), some (vi (c : Int)), some (vi (rkF S.2 sg k)), some (vi (k : Int))] [] S = some (rkF S.2 sg (S.2 72 5).toNat, S) := by
    intro m
    induction m with
    | zero =>
      intro k hk
      rw [q_270_4, if_neg (by first | decide | omega), show k = (S.2 72 5).toNat by omega]
    | succ m ih =>
      intro k hk
      have hi := ih (k + 1) (by first | decide | omega)
      have e1 : w32 ((k : Int) + 1) = ((k + 1 : Nat) : Int) := by
        rw [w32e (by first | decide | omega) (by first | decide | omega)]
        rfl
      have hk16 : k < 16 := by omega
      rw [q_270_4, if_pos (by first | decide | omega), if_pos (by first | decide | omega), Int.toNat_natCast, hsg, bit16 (by first | decide | omega) hk16, Int.toNat_natCast, e1, ← hi]
      show _ = LQ (WK L xs) (ev (WK L xs) d) 270 4 [some (vr 72), some (vi (c : Int)), some (vi (if sg.testBit k then max (rkF S.2 sg k) (S.2 76 k) else rkF S.2 sg k)), some (vi ((k + 1 : Nat) : Int))] [] S
      have hq : (0 : Int) ≤ (k : Int) ∧ (k : Int) < 16 := by omega
      by_cases q : sg.testBit k = true
      · rw [if_pos q, if_pos q, if_pos (show (1 : Int) = 1 from rfl), if_pos hq]
        by_cases q2 : rkF S.2 sg k < S.2 76 k
        · rw [if_pos q2, if_pos hq, show max (rkF S.2 sg k) (S.2 76 k) = S.2 76 k by omega]
        · rw [if_neg q2, show max (rkF S.2 sg k) (S.2 76 k) = rkF S.2 sg k by omega]
      · rw [if_neg q, if_neg q, if_neg (show ¬ (0 : Int) = 1 by decide)]
  rw [q_270]
  unfold rkC
  rw [hsg, Int.toNat_natCast]
  exact key (S.2 72 5).toNat 0 (by first | decide | omega)
theorem m_paidHand (hK : RK S.2) {c : Nat} (hc : (c : Int) < S.2 72 52) : LQ (WK L xs) (ev (WK L xs) (d + 1)) 269 110 [some (vr 72), none, some (vi (c : Int)), some (vi 0), some (vi 0)] [] S = some (pdH S.2 c, S) := by
  have h300 := hK.1.2
  have hn := hK.nC
  have key : ∀ (m k : Nat), k + m = nClaims S.2 → LQ (WK L xs) (ev (WK L xs) (d + 1)) 269 110 [some (vr 72), none, some (vi (c : Int)), some (vi (sm (pdT S.2 c) k)), some (vi (k : Int))] [] S = some (sm (pdT S.2 c) (nClaims S.2), S) := by
    intro m
    induction m with
    | zero =>
      intro k hk
      rw [q_269_110, if_neg (by first | decide | omega), show k = nClaims S.2 by omega]
    | succ m ih =>
      intro k hk
      have hi := ih (k + 1) (by first | decide | omega)
      have e1 : w32 ((k : Int) + 1) = ((k + 1 : Nat) : Int) := by
        rw [w32e (by first | decide | omega) (by first | decide | omega)]
        rfl
      have hb := sm_bd (f := pdT S.2 c) (M := 1) (n := k) (fun j _ => pdT_bd _ _ _)
      rw [sm_su] at hi
      rw [q_269_110, if_pos (by first | decide | omega), if_pos (by first | decide | omega), if_pos (by first | decide | omega), Int.toNat_natCast, Int.toNat_natCast, m_year, bR, m_paidIn (by first | decide | omega), bR, e1, w32e (x := sm (pdT S.2 c) k + 0) (by first | decide | omega) (by first | decide | omega), w32e (x := sm (pdT S.2 c) k + 1) (by first | decide | omega) (by first | decide | omega), show idiv (S.2 72 2) 360 = yr (S.2 72 2) from rfl]
      simp only [bi_0]
      by_cases q1 : S.2 108 k = S.2 108 c
      · rw [if_pos q1]
        by_cases q2 : pin S.2 k (yr (S.2 72 2)) = true
        · have : pdT S.2 c k = 1 := by unfold pdT; rw [if_pos ⟨q1, q2⟩]
          rw [if_neg (fun z => z q2), ← hi, this]
        · have : pdT S.2 c k = 0 := by unfold pdT; rw [if_neg (fun z => q2 z.2)]
          rw [if_pos q2, ← hi, this]
      · have : pdT S.2 c k = 0 := by unfold pdT; rw [if_neg (fun z => q1 z.1)]
        rw [if_neg q1, ← hi, this]
  exact key (nClaims S.2) 0 (by first | decide | omega)
theorem m_letter (hR : RP S.2) (hK : RK S.2) {c : Nat} (hc : (c : Int) < S.2 72 52) (h75 : S.2 72 75 = c) (x : Int) : ev (WK L xs) (d + 2) 269 [vr 72, vi x] S = some (leC S.2 c (S.2 72 76) x, S) := by
  have h300 := hK.1.2
  unfold leC
  rw [q_269, h75, Int.toNat_natCast]
  by_cases q1 : x = 97
  · rw [if_pos q1, if_pos q1, if_pos (by first | decide | omega)]
  rw [if_neg q1, if_neg q1]
  by_cases q2 : x = 104
  · rw [if_pos q2, if_pos q2, if_pos (by first | decide | omega)]
  rw [if_neg q2, if_neg q2]
  by_cases q3 : x = 107
  · rw [if_pos q3, if_pos q3, if_pos (by first | decide | omega)]
  rw [if_neg q3, if_neg q3]
  by_cases q4 : x = 113
  · rw [if_pos q4, if_pos q4]
    exact m_paidHand hK hc
  rw [if_neg q4, if_neg q4]
  by_cases q5 : x = 114
  · rw [if_pos q5, if_pos q5, m_rank hR hK hc, bR]
  rw [if_neg q5, if_neg q5]
  by_cases q6 : x = 121
  · rw [if_pos q6, if_pos q6]
  · rw [if_neg q6, if_neg q6]
theorem m_worked (c x y : Int) : ev (WK L xs) (d + 1) 268 [vi c, vl x, vl y] S = some (if (c = 47 ∨ c = 37) ∧ y = 0 then 0 else wkA c x y, S) := by
  rw [q_268]
  unfold wkA
  simp only [lc_lt, lc_gt, lc_eq, b01]
  by_cases q1 : c = 37
  · rw [if_pos q1]
    by_cases q2 : y = 0
    · rw [if_pos q2, if_pos ⟨Or.inr q1, q2⟩]
    · rw [if_neg q2, if_neg q2, if_neg (fun z => q2 z.2), if_neg (by first | decide | omega), if_neg (by first | decide | omega), if_neg (by first | decide | omega), if_neg (by first | decide | omega), if_pos q1]
  rw [if_neg q1]
  by_cases q3 : c = 42
  · rw [if_pos q3, if_neg (by first | decide | omega), if_neg (by first | decide | omega), if_neg (by first | decide | omega), if_pos q3]
  rw [if_neg q3]
  by_cases q4 : c = 43
  · rw [if_pos q4, if_neg (by first | decide | omega), if_pos q4]
  rw [if_neg q4]
  by_cases q5 : c = 45
  · rw [if_pos q5, if_neg (by first | decide | omega), if_neg q4, if_pos q5]
  rw [if_neg q5]
  by_cases q6 : c = 47
  · rw [if_pos q6]
    by_cases q2 : y = 0
    · rw [if_pos q2, if_pos ⟨Or.inl q6, q2⟩]
    · rw [if_neg q2, if_neg q2, if_neg (fun z => q2 z.2), if_neg q4, if_neg q5, if_neg q3, if_pos q6]
  rw [if_neg q6, if_neg (show ¬ ((c = 47 ∨ c = 37) ∧ y = 0) from fun z => by omega), if_neg q4, if_neg q5, if_neg q3, if_neg q6, if_neg q1]
  by_cases q7 : c = 60
  · rw [if_pos q7, if_pos q7]
  rw [if_neg q7, if_neg q7]
  by_cases q8 : c = 62
  · rw [if_pos q8, if_pos q8]
  · rw [if_neg q8, if_neg q8]
theorem Stk.tail {o : Option Int} {s : List (Option Int)} (h : Stk S (o :: s)) : Stk S s := by
  intro i x hx
  have hl := (List.getElem?_eq_some_iff.mp hx).1
  have := h (i + 1) x hx
  rw [List.length_cons, show s.length + 1 - 1 - (i + 1) = s.length - 1 - i by omega] at this
  exact this
theorem Stk.push {o : Option Int} {s : List (Option Int)} (h : Stk S s) (hT : ∀ j, j < s.length → T.2 128 j = S.2 128 j ∧ T.2 129 j = S.2 129 j) (h1 : o = none → T.2 129 s.length = 1) (h2 : ∀ v, o = some v → T.2 129 s.length = 0 ∧ T.2 128 s.length = v) : Stk T (o :: s) := by
  intro i x hx
  cases i with
  | zero =>
    simp only [List.getElem?_cons_zero, Option.some.injEq] at hx
    subst hx
    rw [List.length_cons, show s.length + 1 - 1 - 0 = s.length by omega]
    exact ⟨h1, h2⟩
  | succ i =>
    simp only [List.getElem?_cons_succ] at hx
    have hl := (List.getElem?_eq_some_iff.mp hx).1
    obtain ⟨e1, e2⟩ := hT (s.length - 1 - i) (by first | decide | omega)
    rw [List.length_cons, show s.length + 1 - 1 - (i + 1) = s.length - 1 - i by omega, e1, e2]
    exact h i x hx
theorem Stk.top {o : Option Int} {s : List (Option Int)} (h : Stk S (o :: s)) : (o = none → S.2 129 s.length = 1) ∧ ∀ v, o = some v → S.2 129 s.length = 0 ∧ S.2 128 s.length = v := by
  have := h 0 o rfl
  rw [List.length_cons, show s.length + 1 - 1 - 0 = s.length by omega] at this
  exact this
theorem m_does {a b : Option Int} {s : List (Option Int)} (h : Stk S (b :: a :: s)) (hl : s.length + 2 ≤ 220) (c : Int) : ∃ T, ev (WK L xs) (d + 2) 267 [vr 72, vi c, vi ((s.length + 2 : Nat) : Int)] S = some (0, T) ∧ Vf S T ∧ Stk T (opA c a b :: s) := by
  obtain ⟨b1, b2⟩ := h.top
  rw [List.length_cons] at b1 b2
  obtain ⟨a1, a2⟩ := h.tail.top
  have hs := h.tail.tail
  have e2 : w32 (((s.length + 2 : Nat) : Int) - 2) = (s.length : Int) := by
    rw [w32e (by first | decide | omega) (by first | decide | omega)]
    omega
  have e1 : w32 (((s.length + 2 : Nat) : Int) - 1) = ((s.length + 1 : Nat) : Int) := by
    rw [w32e (by first | decide | omega) (by first | decide | omega)]
    omega
  have hq : (0 : Int) ≤ (s.length : Int) ∧ (s.length : Int) < 220 := by omega
  have hq1 : (0 : Int) ≤ ((s.length + 1 : Nat) : Int) ∧ ((s.length + 1 : Nat) : Int) < 220 := by omega
  have keep : ∀ {o : Option Int}, o = a → Stk S (o :: s) := fun {o} e => by rw [e]; exact h.tail
  have jn : (c = 38 ∨ c = 124) → ∃ T, LQ (WK L xs) (ev (WK L xs) (d + 1)) 267 21 [some (vr 72), some (vi c), none, some (vi (s.length : Int)), some (vi ((s.length + 1 : Nat) : Int)), none] [] S = some (0, T) ∧ Vf S T ∧ Stk T (opA c a b :: s) := by
    intro hc
    have copy : ∃ T, LQ (WK L xs) (ev (WK L xs) (d + 1)) 267 56 [some (vr 72), none, none, some (vi (s.length : Int)), some (vi ((s.length + 1 : Nat) : Int)), none] [vi 1] S = some (0, T) ∧ Vf S T ∧ Stk T (b :: s) := by
      have h01 : S.2 129 (s.length + 1) = 0 ∨ S.2 129 (s.length + 1) = 1 := by
        cases b with
        | none => exact Or.inr (b1 rfl)
        | some v => exact Or.inl (b2 v rfl).1
      refine ⟨wr (wr S 128 s.length (S.2 128 (s.length + 1))) 129 s.length (S.2 129 (s.length + 1)), ?_, (Vf.w (by first | decide | omega)).tr (Vf.w (by first | decide | omega)), hs.push (fun j hj => ?_) (fun e => ?_) (fun v e => ?_)⟩
      · rw [q_267_56, if_neg (by decide), if_pos hq1, if_pos hq, if_pos hq1, if_pos hq, Int.toNat_natCast, Int.toNat_natCast, if_pos h01]
      · rw [wr_c (by decide), wr_f, if_neg (by first | decide | omega), wr_f, if_neg (by first | decide | omega), wr_c (by decide)]
        exact ⟨rfl, rfl⟩
      · rw [wr_f, if_pos rfl, b1 e]
      · rw [wr_f, if_pos rfl, wr_c (by decide), wr_f, if_pos rfl]
        exact b2 v e
    have stay : LQ (WK L xs) (ev (WK L xs) (d + 1)) 267 56 [some (vr 72), none, none, some (vi (s.length : Int)), some (vi ((s.length + 1 : Nat) : Int)), none] [vi 0] S = some (0, S) := by rw [q_267_56, if_pos rfl]
    cases a with
    | none =>
      refine ⟨S, ?_, Vf.rf, keep rfl⟩
      rw [q_267_21, if_pos hq, Int.toNat_natCast, a1 rfl, if_neg (by decide), stay]
    | some x =>
      obtain ⟨x1, x2⟩ := a2 x rfl
      rw [q_267_21, if_pos hq, Int.toNat_natCast, x1, if_pos rfl, if_pos hq, x2]
      simp only [lc_eq]
      by_cases q : c = 38
      · rw [if_pos q]
        by_cases q2 : x = 1
        · rw [if_pos q2]
          obtain ⟨T, t1, t2, t3⟩ := copy
          refine ⟨T, t1, t2, ?_⟩
          rw [show opA c (some x) b = b by rw [q, q2]; rfl]
          exact t3
        · rw [if_neg q2]
          refine ⟨S, stay, Vf.rf, keep ?_⟩
          show (if c = 38 then (if x = 1 then b else some x) else _) = some x
          rw [if_pos q, if_neg q2]
      · have q4 : c = 124 := hc.resolve_left q
        rw [if_neg q]
        by_cases q2 : x = 0
        · rw [if_pos q2]
          obtain ⟨T, t1, t2, t3⟩ := copy
          refine ⟨T, t1, t2, ?_⟩
          rw [show opA c (some x) b = b by rw [q4, q2]; rfl]
          exact t3
        · rw [if_neg q2]
          refine ⟨S, stay, Vf.rf, keep ?_⟩
          show (if c = 38 then _ else if c = 124 then (if x = 0 then b else some x) else _) = some x
          rw [if_neg q, if_pos q4, if_neg q2]
  by_cases c1 : c = 38
  · obtain ⟨T, t1, t2⟩ := jn (Or.inl c1)
    exact ⟨T, by rw [q_267, if_pos c1, e2, e1]; exact t1, t2⟩
  by_cases c2 : c = 124
  · obtain ⟨T, t1, t2⟩ := jn (Or.inr c2)
    exact ⟨T, by rw [q_267, if_neg c1, if_pos c2, e2, e1]; exact t1, t2⟩
  have fin : ∀ f : Int, (f = 0 ∨ f = 1) → (opA c a b = none → f = 1) → (∀ v, opA c a b = some v → f = 0 ∧ (if (c = 47 ∨ c = 37) ∧ S.2 128 (s.length + 1) = 0 then 0 else wkA c (S.2 128 s.length) (S.2 128 (s.length + 1))) = v) → ∃ T, LQ (WK L xs) (ev (WK L xs) (d + 1)) 267 144 [some (vr 72), some (vi c), none, some (vi (s.length : Int)), some (vi ((s.length + 1 : Nat) : Int)), none] [vi f, vi (s.length : Int), vr 129] S = some (0, T) ∧ Vf S T ∧ Stk T (opA c a b :: s) := by
    intro f hf h1 h2
    refine ⟨wr (wr S 129 s.length f) 128 s.length (if (c = 47 ∨ c = 37) ∧ S.2 128 (s.length + 1) = 0 then 0 else wkA c (S.2 128 s.length) (S.2 128 (s.length + 1))), ?_, (Vf.w (by first | decide | omega)).tr (Vf.w (by first | decide | omega)), hs.push (fun j hj => ?_) (fun e => ?_) (fun v e => ?_)⟩
    · rw [q_267_144, if_pos hq, if_pos hf, if_pos hq, if_pos hq1, Int.toNat_natCast, Int.toNat_natCast, m_worked, bR, if_pos hq]
    · rw [wr_f, if_neg (by first | decide | omega), wr_c (by decide), wr_c (by decide), wr_f, if_neg (by first | decide | omega)]
      exact ⟨rfl, rfl⟩
    · rw [wr_c (by decide), wr_f, if_pos rfl, h1 e]
    · rw [wr_c (by decide), wr_f, if_pos rfl, wr_f, if_pos rfl]
      exact h2 v e
  rw [q_267, if_neg c1, if_neg c2, e2, e1, if_pos hq, Int.toNat_natCast, Int.toNat_natCast]
  cases a with
  | none =>
    rw [a1 rfl, if_neg (by decide)]
    exact fin 1 (Or.inr rfl) (fun _ => rfl) (fun v e => absurd e (by rw [opA_none]; simp))
  | some x =>
    obtain ⟨x1, x2⟩ := a2 x rfl
    rw [x1, if_pos rfl, if_pos hq1]
    have hopN : opA c (some x) none = none := by
      show (if c = 38 then _ else if c = 124 then _ else none) = none
      rw [if_neg c1, if_neg c2]
    have hopS : ∀ y, opA c (some x) (some y) = if (c = 47 ∨ c = 37) ∧ y = 0 then none else some (wkA c x y) := fun y => by
      show (if c = 38 then _ else if c = 124 then _ else if (c = 47 ∨ c = 37) ∧ y = 0 then none else some (wkA c x y)) = _
      rw [if_neg c1, if_neg c2]
    cases b with
    | none =>
      rw [b1 rfl, if_neg (by decide)]
      exact fin 1 (Or.inr rfl) (fun _ => rfl) (fun v e => absurd e (by rw [hopN]; simp))
    | some y =>
      obtain ⟨y1, y2⟩ := b2 y rfl
      have hop' := hopS y
      rw [y1, if_pos rfl]
      simp only [lc_eq]
      rw [x2, y2] at fin
      rw [y2]
      by_cases q : (c = 47 ∨ c = 37) ∧ y = 0
      · rw [if_pos q] at hop'
        have f1 := fin 1 (Or.inr rfl) (fun _ => rfl) (fun v e => absurd e (by rw [hop']; simp))
        by_cases q1 : c = 47
        · rw [if_pos q1, if_pos hq1, if_pos q.2]
          exact f1
        · rw [if_neg q1, if_pos (q.1.resolve_left q1), if_pos hq1, if_pos q.2]
          exact f1
      · rw [if_neg q] at hop'
        have f0 := fin 0 (Or.inl rfl) (fun e => absurd e (by rw [hop']; simp)) (fun v e => ⟨rfl, by rw [if_neg q]; rw [hop'] at e; exact Option.some.inj e⟩)
        by_cases q1 : c = 47
        · rw [if_pos q1, if_pos hq1, if_neg (fun z => q ⟨Or.inl q1, z⟩)]
          exact f0
        · rw [if_neg q1]
          by_cases q2 : c = 37
          · rw [if_pos q2, if_pos hq1, if_neg (fun z => q ⟨Or.inr q2, z⟩)]
            exact f0
          · rw [if_neg q2]
            exact f0
end
end
section
-- 99e.rbar
/-! the reference reckons a clause -/
/-- the bar of a rule -/
noncomputable def brK (rk td lt nm : Int) (o : Option Int) : Int := match o with
  | none => 8
  | some v => if lt = 111 then (if v = 1 then 0 else 5) else if v = 0 then 0 else if lt = 110 then 5 else if lt = 115 then (if rk < nm then 6 else 0) else (if td = 0 then 7 else 0)
section
variable {L : Nat} {xs : Nat → Int} {d : Nat} {S S' T U W : AH} {h h' : Nat → Nat → Int}
theorem rkF_fr (e : h' 76 = h 76) (sg : Nat) : ∀ k, rkF h' sg k = rkF h sg k := by
  intro k
  induction k with
  | zero => rfl
  | succ k ih =>
    show (if sg.testBit k then max (rkF h' sg k) (h' 76 k) else rkF h' sg k) = (if sg.testBit k then max (rkF h sg k) (h 76 k) else rkF h sg k)
    rw [ih, e]
theorem leC_fr (hc : ∀ a, a ≠ 72 → a ≠ 96 → a ≠ 128 → a ≠ 129 → 72 ≤ a → a < 151 → h' a = h a) (h72 : ∀ k, k ≠ 75 → k ≠ 76 → h' 72 k = h 72 k) (c : Nat) (l : Int) : leC h' c l = leC h c l ∧ udC h' c = udC h c ∧ rkC h' c = rkC h c := by
  have C : ∀ a, (73 ≤ a ∧ a ≤ 95) ∨ (97 ≤ a ∧ a ≤ 127) → h' a = h a := fun a q => hc a (by first | decide | omega) (by first | decide | omega) (by first | decide | omega) (by first | decide | omega) (by first | decide | omega) (by first | decide | omega)
  have e1 : rkC h' c = rkC h c := by
    unfold rkC
    rw [C 114 (by first | decide | omega), h72 5 (by decide) (by decide)]
    exact rkF_fr (C 76 (by first | decide | omega)) _ _
  have e2 : pdH h' c = pdH h c := by
    unfold pdH nClaims
    rw [h72 52 (by decide) (by decide)]
    refine sm_congr (fun x _ => ?_)
    unfold pdT
    rw [pin_fr (h := h) (h' := h') (C 115 (by first | decide | omega)), C 108 (by first | decide | omega), h72 2 (by decide) (by decide)]
  refine ⟨?_, ?_, e1⟩
  · funext x
    unfold leC
    rw [e1, e2, C 111 (by first | decide | omega), C 109 (by first | decide | omega), C 110 (by first | decide | omega), h72 2 (by decide) (by decide)]
  · funext N
    unfold udC uN
    rw [C 74 (by first | decide | omega), C 109 (by first | decide | omega), h72 4 (by decide) (by decide)]
theorem Vf.le (hv : Vf S T) (c : Nat) (l : Int) : leC T.2 c l = leC S.2 c l ∧ udC T.2 c = udC S.2 c ∧ rkC T.2 c = rkC S.2 c := leC_fr (fun a _ _ q1 q2 _ _ => hv.2 a q1 q2) (fun k _ _ => by rw [hv.2 72 (by decide) (by decide)]) c l
theorem Vf.rp (hv : Vf S T) (hR : RP S.2) : RP T.2 := hR.fr (by rw [hv.2 72 (by decide) (by decide)]) (by rw [hv.2 72 (by decide) (by decide)]) (fun a q => hv.2 a (by first | decide | omega) (by first | decide | omega))
theorem Vf.rk (hv : Vf S T) (hK : RK S.2) : RK T.2 := hK.fr2 (fun a q => hv.2 a (by first | decide | omega) (by first | decide | omega)) (fun k _ => by rw [hv.2 72 (by decide) (by decide)]) (by unfold HM; rw [hv.2 72 (by decide) (by decide)]; omega)
theorem ar_q2 {i g en : Nat} (h : i + (g + 1) ≤ en) (h2 : (en : Int) ≤ 20000) : ((0 : Int) ≤ (i : Int) ∧ (i : Int) < 20000) ∧ (i : Int) < (en : Int) ∧ i + 1 + g ≤ en := by omega
theorem ar_74 {s s1 g : Nat} (h : s + (g + 1) ≤ 220) (h2 : s1 ≤ s + 1) : s1 + g ≤ 220 := by omega
theorem ar_nn {s g : Nat} (h : s + (g + 1) ≤ 220) : (0 : Int) ≤ (s : Int) ∧ (s : Int) < 220 := by omega
theorem ar_n1 {s g : Nat} (h : s + (g + 1) ≤ 220) : w32 ((s : Int) + 1) = ((s + 1 : Nat) : Int) := by
  rw [w32e (by first | decide | omega) (by first | decide | omega)]
  rfl
theorem ar_i1 {i g en : Nat} (h : i + (g + 1) ≤ en) (h2 : (en : Int) ≤ 20000) : w32 ((i : Int) + 1) = ((i + 1 : Nat) : Int) := by
  rw [w32e (by first | decide | omega) (by first | decide | omega)]
  rfl
theorem ar_0g {fr g : Nat} (h2 : fr + g ≤ 200) : 0 + g ≤ 220 := by omega
theorem m_holdL (hR : RP S.2) (hK : RK S.2) {c : Nat} (hc : (c : Int) < S.2 72 52) (h75 : S.2 72 75 = c) {k en : Nat} (hk : k < 1600) {x3 : Int} (hE : w32 (x3 + S.2 83 k) = (en : Int)) (hen : (en : Int) ≤ 20000) : ∀ (g : CD) (i : Nat) (T : AH) (s s' : List (Option Int)), i + g.length ≤ en → (∀ (j : Nat) (q : Int × Int), g[j]? = some q → S.2 84 (i + j) = q.1 ∧ S.2 85 (i + j) = q.2) → Vf S T → Stk T s → s.length + g.length ≤ 220 → rnA (leC S.2 c (S.2 72 76)) (udC S.2 c) g s = some s' → ∃ U, LQ (WK L xs) (ev (WK L xs) (d + 3)) 266 21 [some (vr 72), some (vi (k : Int)), some (vi (s.length : Int)), some (vi x3), some (vi (i : Int))] [] T = LQ (WK L xs) (ev (WK L xs) (d + 3)) 266 21 [some (vr 72), some (vi (k : Int)), some (vi (s'.length : Int)), some (vi x3), some (vi ((i + g.length : Nat) : Int))] [] U ∧ Vf S U ∧ Stk U s' := by
  intro g
  induction g with
  | nil =>
    intro i T s s' _ _ hv hs _ hr
    have : s = s' := Option.some.inj hr
    subst this
    exact ⟨T, rfl, hv, hs⟩
  | cons z g ih =>
    obtain ⟨cc, aa⟩ := z
    intro i T s s' hi hcd hv hs hl hr
    rw [List.length_cons] at hi hl
    have h300 := hK.1.2
    obtain ⟨z1, z2⟩ := hcd 0 (cc, aa) rfl
    rw [Nat.add_zero] at z1 z2
    have hcd' : ∀ (j : Nat) (q : Int × Int), g[j]? = some q → S.2 84 (i + 1 + j) = q.1 ∧ S.2 85 (i + 1 + j) = q.2 := fun j q hq => by
      have := hcd (j + 1) q hq
      rw [show i + (j + 1) = i + 1 + j by omega] at this
      exact this
    have T84 : T.2 84 i = cc := by rw [hv.2 84 (by decide) (by decide), z1]
    have T85 : T.2 85 i = aa := by rw [hv.2 85 (by decide) (by decide), z2]
    have T83 : w32 (x3 + T.2 83 k) = (en : Int) := by rw [hv.2 83 (by decide) (by decide), hE]
    have T72 : T.2 72 = S.2 72 := hv.2 72 (by decide) (by decide)
    have e1 : w32 ((i : Int) + 1) = ((i + 1 : Nat) : Int) := ar_i1 hi hen
    have q1 : (0 : Int) ≤ (k : Int) ∧ (k : Int) < 1600 := by omega
    have q2 : (0 : Int) ≤ (i : Int) ∧ (i : Int) < 20000 := (ar_q2 hi hen).1
    have el : i + (g.length + 1) = i + 1 + g.length := by omega
    rw [List.length_cons, el]
    change (match stA (leC S.2 c (S.2 72 76)) (udC S.2 c) cc aa s with
      | none => none
      | some s1 => rnA (leC S.2 c (S.2 72 76)) (udC S.2 c) g s1) = some s' at hr
    -- what one step must give
    have next : ∀ (s1 : List (Option Int)) (U : AH), stA (leC S.2 c (S.2 72 76)) (udC S.2 c) cc aa s = some s1 → Vf S U → Stk U s1 → s1.length ≤ s.length + 1 → LQ (WK L xs) (ev (WK L xs) (d + 3)) 266 21 [some (vr 72), some (vi (k : Int)), some (vi (s.length : Int)), some (vi x3), some (vi (i : Int))] [] T = LQ (WK L xs) (ev (WK L xs) (d + 3)) 266 21 [some (vr 72), some (vi (k : Int)), some (vi (s1.length : Int)), some (vi x3), some (vi ((i + 1 : Nat) : Int))] [] U → ∃ U, LQ (WK L xs) (ev (WK L xs) (d + 3)) 266 21 [some (vr 72), some (vi (k : Int)), some (vi (s.length : Int)), some (vi x3), some (vi (i : Int))] [] T = LQ (WK L xs) (ev (WK L xs) (d + 3)) 266 21 [some (vr 72), some (vi (k : Int)), some (vi (s'.length : Int)), some (vi x3), some (vi ((i + 1 + g.length : Nat) : Int))] [] U ∧ Vf S U ∧ Stk U s' := by
      intro s1 U hst hvU hsU hlen he
      rw [hst] at hr
      obtain ⟨V, v1, v2, v3⟩ := ih (i + 1) U s1 s' (ar_q2 hi hen).2.2 hcd' hvU hsU (ar_74 hl hlen) hr
      exact ⟨V, he.trans v1, v2, v3⟩
    have go := q_266_21 L xs (d + 3) T (k : Int) (s.length : Int) x3 (i : Int)
    rw [if_pos q1, Int.toNat_natCast, Int.toNat_natCast, T83, if_pos (show (i : Int) < (en : Int) from (ar_q2 hi hen).2.1), if_pos q2, T84, T85, e1] at go
    unfold stA at next hr
    by_cases c1 : 3 < cc
    · rw [if_pos c1, if_pos q2] at go
      rw [if_pos c1] at next hr
      match s, hs, hl, next, hr, go with
      | [], _, _, _, hr, _ => cases hr
      | [_], _, _, _, hr, _ => cases hr
      | b :: a :: r, hs, hl, next, hr, go =>
        obtain ⟨U, u1, u2, u3⟩ := m_does (L := L) (xs := xs) (d := d + 1) hs (by rw [List.length_cons, List.length_cons] at hl; omega) cc
        refine next _ U rfl (hv.tr u2) u3 (by rw [List.length_cons, List.length_cons, List.length_cons]; omega) ?_
        rw [List.length_cons, List.length_cons] at go hl ⊢
        rw [show ev (WK L xs) (d + 3) 267 [vr 72, vi cc, vi ((r.length + 1 + 1 : Nat) : Int)] T = some (0, U) from u1, bR, w32e (x := ((r.length + 1 + 1 : Nat) : Int) + -1) (by first | decide | omega) (by first | decide | omega), show ((r.length + 1 + 1 : Nat) : Int) + -1 = ((r.length + 1 : Nat) : Int) by omega] at go
        exact go
    rw [if_neg c1, if_pos q2] at go
    rw [if_neg c1] at next hr
    by_cases c3 : cc = 3
    · rw [if_pos c3] at go
      rw [if_pos c3] at next hr
      match s, hs, hl, next, hr, go with
      | [], _, _, _, hr, _ => cases hr
      | x :: r, hs, hl, next, hr, go =>
        rw [List.length_cons] at go hl
        have e0 : w32 (((r.length + 1 : Nat) : Int) - 1) = (r.length : Int) := by
          rw [w32e (by first | decide | omega) (by first | decide | omega)]
          omega
        have q3 : (0 : Int) ≤ (r.length : Int) ∧ (r.length : Int) < 220 := by omega
        rw [e0, if_pos q3, if_pos q3, Int.toNat_natCast] at go
        refine next _ (wr T 128 r.length (w64 (1 - T.2 128 r.length))) rfl (hv.tr (Vf.w (by first | decide | omega))) (hs.tail.push (fun j hj => ?_) (fun e => ?_) (fun v e => ?_)) (by rw [List.length_cons, List.length_cons]; omega) ?_
        · rw [wr_f, if_neg (by first | decide | omega), wr_c (by decide)]
          exact ⟨rfl, rfl⟩
        · rw [wr_c (by decide)]
          cases x with
          | none => exact hs.top.1 rfl
          | some y => cases e
        · rw [wr_c (by decide), wr_f, if_pos rfl]
          cases x with
          | none => cases e
          | some y =>
            obtain ⟨t1, t2⟩ := hs.top.2 y rfl
            rw [t2]
            exact ⟨t1, Option.some.inj e⟩
        · rw [List.length_cons, List.length_cons]
          exact go
    rw [if_neg c3] at go
    rw [if_neg c3] at next hr
    have qn : (0 : Int) ≤ (s.length : Int) ∧ (s.length : Int) < 220 := ar_nn hl
    have en1 : w32 ((s.length : Int) + 1) = ((s.length + 1 : Nat) : Int) := ar_n1 hl
    rw [if_pos qn, if_pos q2, Int.toNat_natCast, en1, if_pos q2, if_pos qn] at go
    have vW : Vf T (wr T 129 s.length 0) := Vf.w (by first | decide | omega)
    have psh : ∀ v : Int, Stk (wr (wr T 129 s.length 0) 128 s.length v) (some v :: s) := fun v => hs.push (fun j hj => by
        rw [wr_f, if_neg (Nat.ne_of_lt hj), wr_c (by decide), wr_c (by decide), wr_f, if_neg (Nat.ne_of_lt hj)]
        exact ⟨rfl, rfl⟩) (fun e => by cases e) (fun w e => by
        rw [wr_c (by decide), wr_f, if_pos rfl, wr_f, if_pos rfl]
        exact ⟨rfl, Option.some.inj e⟩)
    by_cases c0 : cc = 0
    · rw [if_pos c0] at go
      rw [if_pos c0] at next
      exact next _ _ rfl (hv.tr (vW.tr (Vf.w (by first | decide | omega)))) (psh aa) (by rw [List.length_cons]; exact Nat.le_refl _) go
    rw [if_neg c0, if_pos q2] at go
    rw [if_neg c0] at next hr
    by_cases cl : cc = 1
    · rw [if_pos cl, if_pos q2] at go
      rw [if_pos cl] at next
      have hvW := hv.tr vW
      have hlt := m_letter (L := L) (xs := xs) (d := d + 1) (S := wr T 129 s.length 0) (hvW.rp hR) (hvW.rk hK) (c := c) (by rw [hvW.2 72 (by decide) (by decide)]; exact hc) (by rw [hvW.2 72 (by decide) (by decide)]; exact h75) aa
      rw [(hvW.le c _).1, hvW.2 72 (by decide) (by decide)] at hlt
      rw [show ev (WK L xs) (d + 3) 269 [vr 72, vi aa] (wr T 129 s.length 0) = some (leC S.2 c (S.2 72 76) aa, wr T 129 s.length 0) from hlt, bR, if_pos qn] at go
      exact next _ _ rfl (hv.tr (vW.tr (Vf.w (by first | decide | omega)))) (psh _) (by rw [List.length_cons]; exact Nat.le_refl _) go
    rw [if_neg cl, if_pos q2] at go
    rw [if_neg cl] at next hr
    by_cases ca : 0 ≤ aa
    rotate_left
    · rw [if_neg ca] at hr
      cases hr
    rw [if_pos ca] at next
    rw [T72, h75, if_pos (show (0 : Int) ≤ (c : Int) ∧ (c : Int) < 300 by omega), if_pos q2, Int.toNat_natCast] at go
    obtain ⟨-, r2, -⟩ := hK.2.2.2.1 c hc
    by_cases ch : aa < S.2 72 4
    · have hvW := hv.tr vW
      have hun := m_isUnder (L := L) (xs := xs) (d := d + 2) (S := wr T 129 s.length 0) (hvW.rp hR) (S.2 109 c) aa r2.1 (by rw [hvW.2 72 (by decide) (by decide)]; exact r2.2) ca
      have eu : uN (wr T 129 s.length 0).2 = uN S.2 := by
        funext x y
        unfold uN
        rw [hvW.2 74 (by decide) (by decide)]
      rw [eu] at hun
      have eud : udC S.2 c aa = uN S.2 (S.2 109 c) aa := by
        unfold udC
        rw [decide_eq_true ch, Bool.true_and]
      rw [if_pos ch, hv.2 109 (by decide) (by decide), hun, bR] at go
      simp only [bi_0] at go
      by_cases cu : uN S.2 (S.2 109 c) aa = true
      · rw [if_neg (fun z => z cu), if_pos qn] at go
        rw [eud, if_pos cu] at next
        exact next _ _ rfl (hv.tr (vW.tr (Vf.w (by first | decide | omega)))) (psh 1) (by rw [List.length_cons]; exact Nat.le_refl _) go
      · rw [if_pos cu, if_pos qn] at go
        rw [eud, if_neg cu] at next
        exact next _ _ rfl (hv.tr (vW.tr (Vf.w (by first | decide | omega)))) (psh 0) (by rw [List.length_cons]; exact Nat.le_refl _) go
    · have eud : udC S.2 c aa = false := by
        unfold udC
        rw [decide_eq_false ch, Bool.false_and]
      rw [if_neg ch, if_pos qn] at go
      rw [eud, if_neg (by decide)] at next
      exact next _ _ rfl (hv.tr (vW.tr (Vf.w (by first | decide | omega)))) (psh 0) (by rw [List.length_cons]; exact Nat.le_refl _) go
theorem ar_ee {tt fr gl : Nat} (h : tt < 100) (h2 : fr + gl ≤ 200) : w32 (((200 * tt : Nat) : Int) + ((fr + gl : Nat) : Int)) = ((200 * tt + fr + gl : Nat) : Int) := by
  rw [w32e (by first | decide | omega) (by first | decide | omega)]
  omega
theorem ar_en {tt fr gl : Nat} (h : tt < 100) (h2 : fr + gl ≤ 200) : ((200 * tt + fr + gl : Nat) : Int) ≤ 20000 := by omega
theorem m_holds (hR : RP S.2) (hK : RK S.2) {c : Nat} (hc : (c : Int) < S.2 72 52) (h75 : S.2 72 75 = c) {tt j fr : Nat} (ht : tt < 100) (hj : j < 16) {g : CD} (h82 : S.2 82 (16 * tt + j) = fr) (h83 : S.2 83 (16 * tt + j) = ((fr + g.length : Nat) : Int)) (h200 : fr + g.length ≤ 200) (hcd : ∀ (i : Nat) (q : Int × Int), g[i]? = some q → S.2 84 (200 * tt + fr + i) = q.1 ∧ S.2 85 (200 * tt + fr + i) = q.2) {o : Option Int} (hg : Cmp (leC S.2 c (S.2 72 76)) (udC S.2 c) g o) : ∃ U, ev (WK L xs) (d + 4) 266 [vr 72, vi ((16 * tt + j : Nat) : Int)] S = some (match o with
    | none => 2
    | some v => i32 v, U) ∧ Vf S U := by
  have e16 : idiv ((16 * tt + j : Nat) : Int) 16 = (tt : Int) := by
    unfold idiv
    rw [Int.tdiv_eq_ediv_of_nonneg (by first | decide | omega), w32e (by first | decide | omega) (by first | decide | omega)]
    omega
  have eb : w32 ((tt : Int) * 200) = ((200 * tt : Nat) : Int) := by
    rw [w32e (by first | decide | omega) (by first | decide | omega)]
    omega
  have ef : w32 (((200 * tt : Nat) : Int) + (fr : Int)) = ((200 * tt + fr : Nat) : Int) := by
    rw [w32e (by first | decide | omega) (by first | decide | omega)]
    omega
  have ee : w32 (((200 * tt : Nat) : Int) + S.2 83 (16 * tt + j)) = ((200 * tt + fr + g.length : Nat) : Int) := by
    rw [h83]
    exact ar_ee ht h200
  obtain ⟨U, u1, u2, u3⟩ := m_holdL (L := L) (xs := xs) (d := d) hR hK hc h75 (k := 16 * tt + j) (by first | decide | omega) ee (ar_en ht h200) g (200 * tt + fr) S [] [o] (Nat.le_refl _) hcd Vf.rf (fun i o h => by simp at h) (ar_0g h200) (hg [])
  have U83 : w32 (((200 * tt : Nat) : Int) + U.2 83 (16 * tt + j)) = ((200 * tt + fr + g.length : Nat) : Int) := by rw [u2.2 83 (by decide) (by decide), ee]
  refine ⟨U, ?_, u2⟩
  rw [q_266, if_pos (by first | decide | omega), Int.toNat_natCast, e16, eb, h82, ef]
  refine u1.trans ?_
  rw [q_266_21, if_pos (by first | decide | omega), Int.toNat_natCast, U83, if_neg (by first | decide | omega), if_pos (by decide)]
  obtain ⟨t1, t2⟩ := u3.top
  cases o with
  | none => rw [show U.2 129 0 = 1 from t1 rfl, if_neg (by decide)]
  | some v =>
    obtain ⟨w1, w2⟩ := t2 v rfl
    rw [show U.2 129 0 = 0 from w1, if_pos rfl, if_pos (by decide), show U.2 128 0 = v from w2]
end
end
section
-- 99f.xbar
/-! the bar of a clause, of a text -/
noncomputable def cdK (h : Nat → Nat → Int) (k : Nat) : CD := (List.range (h 83 k - h 82 k).toNat).map fun i => (h 84 (200 * (k / 16) + (h 82 k).toNat + i), h 85 (200 * (k / 16) + (h 82 k).toNat + i))
noncomputable def evA (le : Int → Int) (ud : Int → Bool) (g : CD) : Option Int := match rnA le ud g [] with
  | some (o :: _) => o
  | _ => none
noncomputable def brH (h : Nat → Nat → Int) (c : Nat) (l : Int) (k : Nat) : Int := if isWd (h 79 k) = true then brK (rkC h c) (h 113 c) (h 79 k) (h 80 k) (evA (leC h c l) (udC h c) (cdK h k)) else 0
/-- of the clauses of the text t from j on, m of them, where the mask is -/
noncomputable def tbR (h : Nat → Nat → Int) (c : Nat) (l : Int) (msk : Nat → Bool) (t : Nat) : Nat → Nat → Int
  | 0, _ => 0
  | m + 1, j => if msk j = true ∧ brH h c l (16 * t + j) ≠ 0 then brH h c l (16 * t + j) else tbR h c l msk t m (j + 1)
section
variable {L : Nat} {xs : Nat → Int} {d : Nat} {S S' T U W : AH} {h : Nat → Nat → Int} {le : Int → Int} {ud : Int → Bool}
theorem Cmp.ev {g : CD} {o : Option Int} (hg : Cmp le ud g o) : evA le ud g = o := by
  unfold evA
  rw [hg []]
theorem cds_succ {x : TXT} {j : Nat} {q : Nat × CL} (hq : x[j]? = some q) : cds x (j + 1) = cds x j ++ q.2.2.2.2 := by
  unfold cds
  rw [List.take_add_one, hq, List.map_append, List.flatten_append]
  simp
theorem cds_split {x : TXT} (j : Nat) : ∃ r, cds x x.length = cds x j ++ r := by
  refine ⟨((x.drop j).map fun q => q.2.2.2.2).flatten, ?_⟩
  unfold cds
  rw [List.take_of_length_le (Nat.le_refl _), ← List.flatten_append, ← List.map_append, List.take_append_drop]
theorem RX.code {t j : Nat} {x : TXT} (H : RX h t x) {q : Nat × CL} (hq : x[j]? = some q) : h 82 (16 * t + j) = (cds x j).length ∧ h 83 (16 * t + j) = (((cds x j).length + q.2.2.2.2.length : Nat) : Int) ∧ (cds x j).length + q.2.2.2.2.length ≤ 200 ∧ (∀ (i : Nat) (z : Int × Int), q.2.2.2.2[i]? = some z → h 84 (200 * t + (cds x j).length + i) = z.1 ∧ h 85 (200 * t + (cds x j).length + i) = z.2) ∧ cdK h (16 * t + j) = q.2.2.2.2 := by
  obtain ⟨a1, a2, a3, a4, a5⟩ := H
  obtain ⟨-, -, -, c4, c5⟩ := a3 j q hq
  have hj : j < 16 := Nat.lt_of_lt_of_le (List.getElem?_eq_some_iff.mp hq).1 a2
  obtain ⟨r, hr⟩ := cds_split (x := x) (j + 1)
  rw [cds_succ hq] at c5 hr
  rw [List.length_append] at c5
  have hl := congrArg List.length hr
  rw [List.length_append, List.length_append] at hl
  have hcd : ∀ (i : Nat) (z : Int × Int), q.2.2.2.2[i]? = some z → h 84 (200 * t + (cds x j).length + i) = z.1 ∧ h 85 (200 * t + (cds x j).length + i) = z.2 := fun i z hz => by
    have hi := (List.getElem?_eq_some_iff.mp hz).1
    have := a5 ((cds x j).length + i) z (by
      rw [hr, List.getElem?_append_left (by rw [List.length_append]; omega), List.getElem?_append_right (by first | decide | omega), show (cds x j).length + i - (cds x j).length = i by omega]
      exact hz)
    rw [← Nat.add_assoc] at this
    exact this
  refine ⟨c4, c5, by omega, hcd, ?_⟩
  unfold cdK
  rw [c4, c5, show (16 * t + j) / 16 = t by omega, Int.toNat_natCast, show ((((cds x j).length + q.2.2.2.2.length : Nat) : Int) - ((cds x j).length : Int)).toNat = q.2.2.2.2.length by omega]
  apply List.ext_getElem?
  intro i
  by_cases hi : i < q.2.2.2.2.length
  · obtain ⟨z, hz⟩ : ∃ z, q.2.2.2.2[i]? = some z := ⟨_, List.getElem?_eq_getElem hi⟩
    obtain ⟨e1, e2⟩ := hcd i z hz
    rw [hz, List.getElem?_map, List.getElem?_range hi]
    show some (h 84 (200 * t + (cds x j).length + i), h 85 (200 * t + (cds x j).length + i)) = some z
    rw [e1, e2]
  · rw [List.getElem?_eq_none (by rw [List.length_map, List.length_range]; omega), List.getElem?_eq_none (by first | decide | omega)]
/-- a rule's condition in its text -/
noncomputable def RPr (t : TB) (n : Nat) (q : Nat × CL) : Prop := isWd q.2.1 = true → q.1 + 1 ≤ n ∧ cu t n (q.1 + 1) = 40 ∧ ∃ r, rdC t n (q.1 + 2) = .inr (r, q.2.2.2.2)
theorem lw_wd {c : Int} (h : isLw c = true) : isWd c = false := by
  have := of_decide_eq_true h
  exact decide_eq_false (by first | decide | omega)
theorem rdK_rule {t : TB} {n many p q : Nat} {law : Bool} {c : CL} (h : rdK t n law many p = .inr (q, c)) : RPr t n (p, c) := by
  unfold rdK at h
  by_cases c1 : isWd (cu t n p) = false ∧ isLw (cu t n p) = false
  · rw [if_pos c1] at h
    cases h
  rw [if_neg c1] at h
  by_cases c2 : law = false ∧ isLw (cu t n p) = true
  · rw [if_pos c2] at h
    cases h
  rw [if_neg c2] at h
  by_cases c3 : many = 16
  · rw [if_pos c3] at h
    cases h
  rw [if_neg c3] at h
  by_cases c4 : isWd (cu t n p) = true
  · rw [if_pos c4] at h
    have hp : p < n := cu_pos (t := t) (fun e => by rw [e] at c4; exact absurd c4 (by decide))
    by_cases c5 : cu t n (p + 1) = 40
    · rw [if_pos c5] at h
      cases hr : rdC t n (p + 2) with
      | inl e => rw [hr] at h; cases h
      | inr y =>
        obtain ⟨r, g⟩ := y
        rw [hr] at h
        have hcc : c.2.2.2 = g := by
          have h' : (if cu t n r = 41 then (if cu t n p = 115 then (if 49 ≤ cu t n (r + 1) ∧ cu t n (r + 1) ≤ 57 then (.inr (r + 2, (115, cu t n (r + 1) - 48, 0, g)) : Int ⊕ (Nat × CL)) else .inl (flt 1 (r + 1))) else .inr (r + 1, (cu t n p, 0, 0, g))) else .inl (flt 1 r)) = .inr (q, c) := h
          by_cases c6 : cu t n r = 41
          · rw [if_pos c6] at h'
            by_cases c7 : cu t n p = 115
            · rw [if_pos c7] at h'
              by_cases c8 : 49 ≤ cu t n (r + 1) ∧ cu t n (r + 1) ≤ 57
              · rw [if_pos c8] at h'
                have e : _ = c := congrArg Prod.snd (Sum.inr.inj h')
                rw [← e]
              · rw [if_neg c8] at h'
                cases h'
            · rw [if_neg c7] at h'
              have e : _ = c := congrArg Prod.snd (Sum.inr.inj h')
              rw [← e]
          · rw [if_neg c6] at h'
            cases h'
        intro _
        exact ⟨by show p + 1 ≤ n; omega, c5, r, by rw [← hcc] at hr; exact hr⟩
    · rw [if_neg c5] at h
      cases h
  · rw [if_neg c4] at h
    have hlw : isLw (cu t n p) = true := by
      by_cases z : isLw (cu t n p) = true
      · exact z
      · exact absurd ⟨nf c4, nf z⟩ c1
    have fin : c.1 = cu t n p → RPr t n (p, c) := fun e hw => by
      rw [show (p, c).2.1 = cu t n p from e, lw_wd hlw] at hw
      exact absurd hw (by decide)
    by_cases c5 : cu t n p = 120
    · rw [if_pos c5] at h
      cases hr : rdN t n 19 (p + 1) with
      | inl e => rw [hr] at h; cases h
      | inr y =>
        obtain ⟨r, v⟩ := y
        rw [hr] at h
        have h' : (if cu t n r = 46 then (match rdN t n 15 (r + 1) with
          | .inl e => (.inl e : Int ⊕ (Nat × CL))
          | .inr (r, u) => .inr (r, (120, v, u, []))) else .inl (flt 1 r)) = .inr (q, c) := h
        by_cases c6 : cu t n r = 46
        · rw [if_pos c6] at h'
          cases hr2 : rdN t n 15 (r + 1) with
          | inl e => rw [hr2] at h'; cases h'
          | inr y2 =>
            obtain ⟨r2, u⟩ := y2
            rw [hr2] at h'
            have e : _ = c := congrArg Prod.snd (Sum.inr.inj h')
            exact fin (by rw [← e, c5])
        · rw [if_neg c6] at h'
          cases h'
    · rw [if_neg c5] at h
      cases hr : rdN t n (if cu t n p = 109 ∨ cu t n p = 99 then 100 else 999999) (p + 1) with
      | inl e => rw [hr] at h; cases h
      | inr y =>
        obtain ⟨r, v⟩ := y
        rw [hr] at h
        have e : _ = c := congrArg Prod.snd (Sum.inr.inj h)
        exact fin (by rw [← e])
theorem rdTL_rule {t : TB} {n : Nat} {law : Bool} {x : TXT} : ∀ (k p : Nat) (acc : TXT), rdTL t n law k p acc = .inr x → (∀ q ∈ acc, RPr t n q) → ∀ q ∈ x, RPr t n q := by
  intro k
  induction k with
  | zero => intro p acc e; cases e
  | succ k ih =>
    intro p acc e ha
    unfold rdTL at e
    cases hr : rdK t n law acc.length p with
    | inl y => rw [hr] at e; cases e
    | inr y =>
      obtain ⟨q, c⟩ := y
      rw [hr] at e
      have e' : (if q < n then (if cu t n q = 59 then rdTL t n law k (q + 1) (acc ++ [(p, c)]) else .inl (flt 1 q)) else .inr (acc ++ [(p, c)])) = .inr x := e
      have ha' : ∀ z ∈ acc ++ [(p, c)], RPr t n z := fun z hz => by
        rcases List.mem_append.mp hz with w | w
        · exact ha z w
        · rw [List.mem_singleton.mp w]
          exact rdK_rule hr
      by_cases c1 : q < n
      · rw [if_pos c1] at e'
        by_cases c2 : cu t n q = 59
        · rw [if_pos c2] at e'
          exact ih _ _ e' ha'
        · rw [if_neg c2] at e'
          cases e'
      · rw [if_neg c1] at e'
        rw [← Sum.inr.inj e']
        exact ha'
/-- all of a rule's clause -/
theorem TX.rule {a t : Nat} (H : TX S a t) {j : Nat} (hj : (j : Int) < S.2 78 t) (hw : isWd (S.2 79 (16 * t + j)) = true) : ∃ (b n p r fr : Nat) (g : CD), isO S a 19 3 ∧ S.2 a 0 = b ∧ isO S b 0 n ∧ n ≤ 200 ∧ (∀ d, ev (WK L xs) (d + 1) 163 [vr a, vi (j : Int)] S = some ((p : Int), S)) ∧ p + 1 ≤ n ∧ cu (byt S.2 b) n (p + 1) = 40 ∧ rdC (byt S.2 b) n (p + 2) = .inr (r, g) ∧ cdK S.2 (16 * t + j) = g ∧ S.2 82 (16 * t + j) = fr ∧ S.2 83 (16 * t + j) = ((fr + g.length : Nat) : Int) ∧ fr + g.length ≤ 200 ∧ ∀ (i : Nat) (z : Int × Int), g[i]? = some z → S.2 84 (200 * t + fr + i) = z.1 ∧ S.2 85 (200 * t + fr + i) = z.2 := by
  obtain ⟨x, hX, hx⟩ := H
  have h1 := hX.1
  have hjl : j < x.length := by omega
  rcases hx with ⟨e1, e2⟩ | ⟨b1, b, s, v, n, b2, b3, b4, b5, b6, b7, b8, b9, b10⟩
  · subst e2
    exact absurd hjl (by simp)
  · obtain ⟨q, hq⟩ : ∃ q, x[j]? = some q := ⟨x[j], List.getElem?_eq_getElem hjl⟩
    have hP : RPr (byt S.2 b) n q := rdTL_rule 17 0 [] b9 (fun _ z => by cases z) q (List.mem_of_getElem? hq)
    obtain ⟨c1, -⟩ := hX.2.2.1 j q hq
    rw [c1] at hw
    obtain ⟨p1, p2, r, p3⟩ := hP hw
    obtain ⟨k1, k2, k3, k4, k5⟩ := hX.code hq
    obtain ⟨d1, d2⟩ := b10 j q hq
    have hs : shp (WK L xs) S a = (19, 3) := by rw [shpD b1.1]; exact b1.2.2
    have hss : shp (WK L xs) S s = (2, x.length) := by rw [shpD b6.1]; exact b6.2.2
    refine ⟨b, n, q.1, r, (cds x j).length, q.2.2.2.2, b1, b2, b5, b8, fun d => ?_, p1, p2, p3, k5, k1, k2, k3, k4⟩
    rw [q_163, if_neg (by first | decide | omega), hs, rdvD b1.1, rdvD b1.1, b3, Int.toNat_natCast, hss]
    show gd true (gd true (if (j : Int) < (x.length : Int) then gd true (gd true (if 0 ≤ (j : Int) ∧ (j : Int) < (x.length : Int) then some (rdv (WK L xs) S s (j : Int).toNat, S) else none)) else _)) = _
    rw [gdT, gdT, if_pos (by first | decide | omega), gdT, gdT, if_pos (by first | decide | omega), rdvD b6.1, Int.toNat_natCast, d1]
end
end
section
-- 99g.xbart
/-! the class's bar of a text -/
noncomputable def B01 (o : Option Int) : Prop := o = none ∨ o = some 0 ∨ o = some 1
noncomputable def WF1 (le : Int → Int) (ud : Int → Bool) (part : Nat → PR) : Prop := ∀ (p q : Nat) (g : CD), part p = .inr (q, g) → ∃ o, Cmp le ud g o ∧ B01 o
noncomputable def Qf (S T : AH) : Prop := T.1 = S.1 ∧ (∀ a, a ≠ 22 → T.2 a = S.2 a) ∧ ∀ k, 10 ≤ k → T.2 22 k = S.2 22 k
section
variable {L : Nat} {xs : Nat → Int} {d : Nat} {S S' T U W : AH} {t : TB} {n : Nat} {le : Int → Int} {ud : Int → Bool} {h : Nat → Nat → Int}
theorem bi_B {P : Prop} [Decidable P] : B01 (some (bi P)) := by
  unfold bi
  split
  · exact Or.inr (Or.inr rfl)
  · exact Or.inr (Or.inl rfl)
theorem opA_B {c : Int} (hc : c = 38 ∨ c = 124) {a b : Option Int} (ha : B01 a) (hb : B01 b) : B01 (opA c a b) := by
  rcases ha with rfl | rfl | rfl
  · exact Or.inl rfl
  · rcases hc with rfl | rfl
    · exact Or.inr (Or.inl rfl)
    · exact hb
  · rcases hc with rfl | rfl
    · exact hb
    · exact Or.inr (Or.inr rfl)
theorem rowL_wf1 {is : Int → Bool} {part : Nat → PR} (hw : WF1 le ud part) (hi : ∀ c, is c = true → c = 38 ∨ c = 124) : ∀ (k p : Nat) (g : CD) (q : Nat) (g' : CD), (∃ o, Cmp le ud g o ∧ B01 o) → rowL t n is part k p g = .inr (q, g') → ∃ o, Cmp le ud g' o ∧ B01 o := by
  intro k
  induction k with
  | zero =>
    intro p g q g' ho e
    simp only [rowL, Sum.inr.injEq, Prod.mk.injEq] at e
    rw [← e.2]
    exact ho
  | succ k ih =>
    intro p g q g' ho e
    unfold rowL at e
    by_cases c : is (cu t n p) = true
    · rw [if_pos c] at e
      cases hp : part (p + 1) with
      | inl x => rw [hp] at e; cases e
      | inr x =>
        obtain ⟨r, g2⟩ := x
        rw [hp] at e
        obtain ⟨o, ho, hB⟩ := ho
        obtain ⟨o2, ho2, hB2⟩ := hw _ _ _ hp
        have hcc := hi _ c
        exact ih _ _ _ _ ⟨_, ho.bin ho2 (by first | decide | omega), opA_B hcc hB hB2⟩ e
    · rw [if_neg c] at e
      simp only [Sum.inr.injEq, Prod.mk.injEq] at e
      rw [← e.2]
      exact ho
theorem rowG_wf1 {is : Int → Bool} {part : Nat → PR} (hw : WF1 le ud part) (hi : ∀ c, is c = true → c = 38 ∨ c = 124) : WF1 le ud (rowG t n is part) := by
  intro p q g e
  obtain ⟨r, g1, h1, h2⟩ := rowG_inr e
  exact rowL_wf1 hw hi _ _ _ _ _ (hw _ _ _ h1) h2
theorem cmpG_wf1 (o : Nat) : WF1 le ud (cmpG t n o) := by
  intro p q g e
  unfold cmpG at e
  cases h1 : rdE t n 9 o p with
  | inl x => rw [h1] at e; cases e
  | inr x =>
    obtain ⟨r, g1⟩ := x
    rw [h1] at e
    obtain ⟨o1, a1⟩ := rdE_wf (le := le) (ud := ud) _ _ _ _ _ h1
    by_cases c : isSg (cu t n r) = true
    · simp only [c, if_true] at e
      cases h2 : rdE t n 9 o (r + 1) with
      | inl x => rw [h2] at e; cases e
      | inr x =>
        obtain ⟨r2, g2⟩ := x
        rw [h2] at e
        obtain ⟨o2, a2⟩ := rdE_wf (le := le) (ud := ud) _ _ _ _ _ h2
        simp only [Sum.inr.injEq, Prod.mk.injEq] at e
        rw [← e.2]
        refine ⟨_, a1.bin a2 (sg_3 _ c), ?_⟩
        have hcc := of_decide_eq_true c
        cases o1 with
        | none => exact Or.inl rfl
        | some x =>
          cases o2 with
          | none =>
            refine Or.inl ?_
            show (if cu t n r = 38 then _ else if cu t n r = 124 then _ else none) = none
            rw [if_neg (by first | decide | omega), if_neg (by first | decide | omega)]
          | some y =>
            have : opA (cu t n r) (some x) (some y) = some (if cu t n r = (60 : Int) then bi (x < y) else if cu t n r = (62 : Int) then bi (y < x) else bi (x = y)) := by
              show (if cu t n r = 38 then _ else if cu t n r = 124 then _ else if (cu t n r = 47 ∨ cu t n r = 37) ∧ y = 0 then none else some (wkA (cu t n r) x y)) = _
              rw [if_neg (by first | decide | omega), if_neg (by first | decide | omega), if_neg (by first | decide | omega)]
              unfold wkA
              rw [if_neg (by first | decide | omega), if_neg (by first | decide | omega), if_neg (by first | decide | omega), if_neg (by first | decide | omega), if_neg (by first | decide | omega)]
            rw [this]
            repeat' split
            all_goals exact bi_B
    · simp only [c] at e
      cases e
theorem pieG_wf1 {recP recC : Nat → Nat → PR} (hP : ∀ o, WF1 le ud (recP o)) (hC : ∀ o, WF1 le ud (recC o)) (o : Nat) : WF1 le ud (pieG t n recP recC o) := by
  intro p q g e
  unfold pieG at e
  by_cases c1 : cu t n p = 33
  · rw [if_pos c1] at e
    by_cases c2 : 8 ≤ o
    · rw [if_pos c2] at e
      cases e
    · rw [if_neg c2] at e
      cases hr : recP (o + 1) (p + 1) with
      | inl x => rw [hr] at e; cases e
      | inr x =>
        obtain ⟨r, g1⟩ := x
        rw [hr] at e
        obtain ⟨o1, a1, b1⟩ := hP _ _ _ _ hr
        simp only [Sum.inr.injEq, Prod.mk.injEq] at e
        rw [← e.2]
        refine ⟨_, a1.neg, ?_⟩
        rcases b1 with rfl | rfl | rfl
        · exact Or.inl rfl
        · exact Or.inr (Or.inr rfl)
        · exact Or.inr (Or.inl rfl)
  · rw [if_neg c1] at e
    by_cases c3 : cu t n p = 40
    · rw [if_pos c3] at e
      by_cases c2 : 8 ≤ o
      · rw [if_pos c2] at e
        cases e
      · rw [if_neg c2] at e
        cases hr : recC (o + 1) (p + 1) with
        | inl x => rw [hr] at e; cases e
        | inr x =>
          obtain ⟨r, g1⟩ := x
          rw [hr] at e
          have := hC _ _ _ _ hr
          by_cases c4 : cu t n r = 41
          · simp only [c4, if_true, Sum.inr.injEq, Prod.mk.injEq] at e
            rw [← e.2]
            exact this
          · simp only [c4, if_false] at e
            cases e
    · rw [if_neg c3] at e
      by_cases c5 : cu t n p = 117
      · rw [if_pos c5] at e
        cases hr : rdN t n 39 (p + 1) with
        | inl x => rw [hr] at e; cases e
        | inr x =>
          obtain ⟨r, v⟩ := x
          rw [hr] at e
          simp only [Sum.inr.injEq, Prod.mk.injEq] at e
          rw [← e.2]
          refine ⟨_, Cmp.und (rdN_v hr).1, ?_⟩
          split
          · exact Or.inr (Or.inr rfl)
          · exact Or.inr (Or.inl rfl)
      · rw [if_neg c5] at e
        exact cmpG_wf1 _ _ _ _ e
theorem and_12 (c : Int) (hc : isAnd c = true) : c = 38 ∨ c = 124 := Or.inl (of_decide_eq_true hc)
theorem or_12 (c : Int) (hc : isOr c = true) : c = 38 ∨ c = 124 := Or.inr (of_decide_eq_true hc)
theorem cndG_wf1 {pie : Nat → PR} (hp : WF1 le ud pie) : WF1 le ud (cndG t n pie) := rowG_wf1 (rowG_wf1 hp and_12) or_12
theorem rdP_wf1 (f : Nat) : ∀ o, WF1 le ud (rdP t n f o) := by
  induction f with
  | zero => intro o p q g e; cases e
  | succ f ih => intro o; exact pieG_wf1 ih (fun o => cndG_wf1 (ih o)) o
theorem rdC_wf1 : WF1 le ud (rdC t n) := cndG_wf1 (rdP_wf1 9 1)
theorem Qf.rf : Qf S S := ⟨rfl, fun _ _ => rfl, fun _ _ => rfl⟩
theorem Qf.tr (a : Qf S T) (b : Qf T U) : Qf S U := ⟨b.1.trans a.1, fun c q => (b.2.1 c q).trans (a.2.1 c q), fun k q => (b.2.2 k q).trans (a.2.2 k q)⟩
theorem Cf.qf (a : Cf S T) : Qf S T := ⟨a.1, a.2.1, fun k q => a.2.2 k (by first | decide | omega)⟩
theorem Qf.fa (a : Qf S T) (hA : FA S le ud) : FA T le ud := by
  unfold FA
  rw [a.2.1 26 (by decide), a.2.2 11 (by decide)]
  exact hA
theorem Qf.fr (a : Qf S T) : Fr S T := ⟨by rw [a.1]; exact Nat.le_refl _, fun c q1 _ => ⟨by rw [a.1], a.2.1 c (by first | decide | omega)⟩⟩
theorem Qf.tx (q : Qf S T) {a t : Nat} (hT : TX S a t) : TX T a t := hT.fr q.fr (fun c q1 q2 => q.2.1 c (by first | decide | omega))
theorem x_begin {b n p : Nat} (hb : isO S b 0 n) (hn : n ≤ 200) (hA : FA S le ud) (hp : p ≤ n) : ∃ T, ev (WK L xs) (d + 2) 136 [vr 22, vr b, vi (p : Int), vi (n : Int)] S = some (0, T) ∧ GS L xs (byt S.2 b) n le ud T p ∧ Qf S T := by
  generalize hS0 : wr (wr (wr (wr (wr (wr S 22 3 (b : Int)) 22 4 ((p : Int) - 1)) 22 5 (n : Int)) 22 7 0) 22 8 0) 22 9 0 = S0
  have hb1 := hb.1
  have c0 : ∀ a, a ≠ 22 → S0.2 a = S.2 a := fun a ha => by rw [← hS0]; repeat rw [wr_c ha]
  have s0 : S0.1 = S.1 := by rw [← hS0]; rfl
  have k0 : ∀ k, 10 ≤ k → S0.2 22 k = S.2 22 k := fun k hk => by
    rw [← hS0, wr_f, if_neg (by first | decide | omega), wr_f, if_neg (by first | decide | omega), wr_f, if_neg (by first | decide | omega), wr_f, if_neg (by first | decide | omega), wr_f, if_neg (by first | decide | omega), wr_f, if_neg (by first | decide | omega)]
  have q0 : Qf S S0 := ⟨s0, c0, k0⟩
  have B0 : RB L xs (byt S.2 b) n S0 := ⟨hn, fun k => iand255 _, by rw [← hS0]; simp [wr_f], b, n, by rw [← hS0]; simp [wr_f], by omega, by omega, by omega, by rw [shpD hb1, s0, hb.2.2], Nat.le_refl _, fun k hk => by rw [rdvD hb1, c0 b (by first | decide | omega)]; rfl⟩
  obtain ⟨T, t1, t2, t3⟩ := x_step0 (L := L) (xs := xs) (d := d) (S := S0) B0 (q0.fa hA) (q := p) (by rw [← hS0]; simp [wr_f]) hp (by rw [← hS0]; simp [wr_f]) (by rw [← hS0]; simp [wr_f])
  refine ⟨T, ?_, t2, q0.tr t3.qf⟩
  rw [q_136, w32e (x := (p : Int) - 1) (by first | decide | omega) (by first | decide | omega), hS0, t1, bR]
theorem x_barRule {lt v nm rk td : Int} (hw : isWd lt = true) (hv : v = 0 ∨ v = 1) (h4 : U.2 26 4 = rk) (h12 : U.2 22 12 = td) : ev (WK L xs) (d + 1) 159 [vr 22, vi lt, vi v, vi nm] U = some (brK rk td lt nm (some v), U) := by
  have hc := of_decide_eq_true hw
  rw [q_159, h4, h12]
  simp only [lc_lt]
  show _ = some (if lt = 111 then (if v = 1 then 0 else 5) else if v = 0 then 0 else if lt = 110 then 5 else if lt = 115 then (if rk < nm then 6 else 0) else (if td = 0 then 7 else 0), U)
  rcases hc with e | e | e | e
  · rw [if_neg (by first | decide | omega), if_pos e, if_pos e]
    rcases hv with q | q
    · rw [if_pos q, if_neg (by first | decide | omega)]
    · rw [if_neg (by first | decide | omega), if_pos q]
  · rw [if_pos e, if_neg (show ¬ lt = 111 by omega), if_pos e]
    rcases hv with q | q
    · rw [if_pos q, if_pos q]
    · rw [if_neg (by first | decide | omega), if_neg (by first | decide | omega)]
  · rw [if_neg (by first | decide | omega), if_neg (by first | decide | omega), if_neg (by first | decide | omega), if_neg (by first | decide | omega), if_neg (by first | decide | omega), if_pos e, if_neg (show ¬ lt = 111 by omega), if_neg (show ¬ lt = 110 by omega), if_pos e]
    rcases hv with q | q
    · rw [if_pos q, if_pos q]
    · rw [if_neg (by first | decide | omega), if_neg (show ¬ v = 0 by omega), if_pos (by decide)]
      by_cases z : rk < nm
      · rw [if_pos z, if_pos z]
      · rw [if_neg z, if_neg z]
  · rw [if_neg (by first | decide | omega), if_neg (by first | decide | omega), if_neg (by first | decide | omega), if_neg (by first | decide | omega), if_neg (by first | decide | omega), if_neg (by first | decide | omega), if_pos e, if_neg (show ¬ lt = 111 by omega), if_neg (show ¬ lt = 110 by omega), if_neg (show ¬ lt = 115 by omega)]
    rcases hv with q | q
    · rw [if_pos q, if_pos q]
    · rw [if_neg (by first | decide | omega), if_neg (show ¬ v = 0 by omega)]
      by_cases z : td = 0
      · rw [if_pos z, if_pos z]
      · rw [if_neg z, if_neg z]
/-- a text's bar -/
theorem x_barL {a tt c : Nat} {l : Int} (hT : TX S a tt) (hA : FA S (leC S.2 c l) (udC S.2 c)) (h12 : S.2 22 12 = S.2 113 c) {mk : Nat → Bool} {x2 : Int} (hm : ∀ j : Nat, j < 16 → (iand (ishr x2 (j : Int)) 1 = 0 ↔ mk j = false)) : ∀ (m j : Nat) (T : AH), (j + m : Nat) = (S.2 78 tt).toNat → Qf S T → ∃ U, LQ (WK L xs) (ev (WK L xs) (d + 69)) 158 5 [some (vr 22), some (vr a), some (vi x2), some (vi 0), some (vi (j : Int)), none, none] [] T = some (tbR S.2 c l mk tt m j, U) ∧ Qf S U := by
  have had := hT.ad
  have hcm := cm_bd hT
  intro m
  induction m with
  | zero =>
    intro j T hj hQ
    obtain ⟨k1, k2⟩ := x_clauses (L := L) (xs := xs) (d := d + 68) (hQ.tx hT)
    refine ⟨T, ?_, hQ⟩
    rw [q_158_5, if_neg had.1, nb14 had.2, k1, show (true && Nat.ble 1 8) = true from rfl, gdT, k2, bR, hQ.2.1 78 (by decide), if_neg (by first | decide | omega)]
    rfl
  | succ m ih =>
    intro j T hj hQ
    have hTT := hQ.tx hT
    have hjm : (j : Int) < S.2 78 tt := by omega
    obtain ⟨k1, k2⟩ := x_clauses (L := L) (xs := xs) (d := d + 68) hTT
    obtain ⟨j16, n1, n2, n3, n4⟩ := hTT.cl (L := L) (xs := xs) (j := j) (by rw [hQ.2.1 78 (by decide)]; exact hjm)
    have T79 : T.2 79 = S.2 79 := hQ.2.1 79 (by decide)
    have T80 : T.2 80 = S.2 80 := hQ.2.1 80 (by decide)
    have e1 : w32 ((j : Int) + 1) = ((j + 1 : Nat) : Int) := by
      rw [w32e (by first | decide | omega) (by first | decide | omega)]
      rfl
    have go := q_158_5 L xs (d + 69) T a x2 0 (j : Int)
    rw [if_neg had.1, nb14 had.2, k1, show (true && Nat.ble 1 8) = true from rfl, gdT, k2, bR, hQ.2.1 78 (by decide), if_pos hjm, if_pos rfl, k1, show (true && Nat.ble 0 8) = true from rfl, gdT, n3, bR, T79, e1] at go
    show ∃ U, LQ (WK L xs) (ev (WK L xs) (d + 69)) 158 5 [some (vr 22), some (vr a), some (vi x2), some (vi 0), some (vi (j : Int)), none, none] [] T = some (if mk j = true ∧ brH S.2 c l (16 * tt + j) ≠ 0 then brH S.2 c l (16 * tt + j) else tbR S.2 c l mk tt m (j + 1), U) ∧ Qf S U
    by_cases cm : mk j = true
    rotate_left
    · rw [if_pos ((hm j j16).mpr (nf cm))] at go
      rw [if_neg (fun z => cm z.1), go]
      exact ih (j + 1) T (by first | decide | omega) hQ
    rw [if_neg (fun z => by rw [(hm j j16).mp z] at cm; exact absurd cm (by decide)), x_rule, bR] at go
    simp only [bi_0] at go
    by_cases hw : isWd (S.2 79 (16 * tt + j)) = true
    rotate_left
    · have hb0 : brH S.2 c l (16 * tt + j) = 0 := by unfold brH; rw [if_neg hw]
      rw [if_pos hw] at go
      rw [if_neg (fun z => z.2 hb0), go]
      exact ih (j + 1) T (by first | decide | omega) hQ
    rw [if_neg (fun z => z hw)] at go
    obtain ⟨b, n, p, r, fr, g, b1, b2, b3, b4, b5, b6, b7, b8, b9, -⟩ := hTT.rule (L := L) (xs := xs) (j := j) (by rw [hQ.2.1 78 (by decide)]; exact hjm) (by rw [T79]; exact hw)
    have ecd : cdK T.2 (16 * tt + j) = cdK S.2 (16 * tt + j) := by
      unfold cdK
      rw [hQ.2.1 82 (by decide), hQ.2.1 83 (by decide), hQ.2.1 84 (by decide), hQ.2.1 85 (by decide)]
    have k19 : Nat.beq (shp (WK L xs) T a).1 19 = true := k1
    have hab : rdv (WK L xs) T a 0 = (b : Int) := by rw [rdvD b1.1, b2]
    have hbs : shp (WK L xs) T b = (0, n) := by rw [shpD b3.1]; exact b3.2.2
    have ep : w32 ((p : Int) + 1) = ((p + 1 : Nat) : Int) := by
      rw [w32e (by first | decide | omega) (by first | decide | omega)]
      rfl
    obtain ⟨A, a1, a2, a3⟩ := x_begin (L := L) (xs := xs) (d := d + 67) (p := p + 1) b3 b4 (hQ.fa hA) b6
    obtain ⟨B, c1, c2, c3⟩ := (x_expect (L := L) (xs := xs) (d := d + 67) a2 (c := 40) (by decide)).1 b7
    rw [k19, gdT, show (true && Nat.ble 2 8) = true from rfl, gdT, b5, bR, hab, Int.toNat_natCast, hbs, show Nat.ble ((0, n) : Nat × Nat).1 6 = true from rfl, gdT, k19, gdT, ep, show ev (WK L xs) (d + 69) 136 [vr 22, vr b, vi ((p + 1 : Nat) : Int), vi ((((0, n) : Nat × Nat).2 : Nat) : Int)] T = some (0, A) from a1, bR, show ev (WK L xs) (d + 69) 145 [vr 22, vi 40] A = some (0, B) from c1, bR] at go
    have hC := xrdC (L := L) (xs := xs) (d := d) (live := true) c2
    rw [show p + 1 + 1 = p + 2 from rfl, b8] at hC
    obtain ⟨v, U, u1, u2, u3⟩ := hC
    have hv := u2 rfl
    rw [show ev (WK L xs) (d + 69) 147 [vr 22, vi 1, vi 1] B = some (v, U) from u1, bR] at go
    rw [ecd] at b9
    rcases u3 with ⟨uG, uC, uv⟩ | ⟨-, ug, uR⟩
    · have hQU : Qf S U := ((hQ.tr a3).tr c3.qf).tr uC.qf
      have hTU := hQU.tx hT
      obtain ⟨ku, -⟩ := x_clauses (L := L) (xs := xs) (d := d + 68) hTU
      obtain ⟨-, -, -, -, n4u⟩ := hTU.cl (L := L) (xs := xs) (j := j) (by rw [hQU.2.1 78 (by decide)]; exact hjm)
      have hne : S.2 79 (16 * tt + j) ≠ 120 := fun z => by rw [z] at hw; exact absurd hw (by decide)
      have hbr := x_barRule (L := L) (xs := xs) (d := d + 68) (U := U) (nm := S.2 80 (16 * tt + j)) (rk := rkC S.2 c) (td := S.2 113 c) hw hv (by rw [hQU.2.1 26 (by decide)]; exact hA.1.2.2.2.2.1) (by rw [hQU.2.2 12 (by decide), h12])
      have hb : brH S.2 c l (16 * tt + j) = brK (rkC S.2 c) (S.2 113 c) (S.2 79 (16 * tt + j)) (S.2 80 (16 * tt + j)) (some v) := by
        unfold brH
        rw [if_pos hw, b9, (uv rfl).ev]
      rw [if_pos uG.2.2.2.2.2.1, ku, show (true && Nat.ble 3 8) = true from rfl, gdT, n4u, bR, hQU.2.1 79 (by decide), hQU.2.1 80 (by decide), if_neg hne, hbr, bR, ← hb] at go
      by_cases z : brH S.2 c l (16 * tt + j) = 0
      · rw [if_neg (fun y => y.2 z), go, z]
        exact ih (j + 1) U (by first | decide | omega) hQU
      · rw [if_pos ⟨cm, z⟩]
        obtain ⟨kk1, kk2⟩ := x_clauses (L := L) (xs := xs) (d := d + 68) hTU
        refine ⟨U, ?_, hQU⟩
        rw [go, q_158_5, if_neg had.1, nb14 had.2, kk1, show (true && Nat.ble 1 8) = true from rfl, gdT, kk2, bR]
        by_cases y : ((j + 1 : Nat) : Int) < U.2 78 tt
        · rw [if_pos y, if_neg z]
        · rw [if_neg y]
    · have hQU : Qf S U := ((hQ.tr a3).tr c3.qf).tr uR.1.qf
      have hTU := hQU.tx hT
      have hb : brH S.2 c l (16 * tt + j) = 8 := by
        unfold brH
        rw [if_pos hw, b9, ug.ev]
        rfl
      rw [if_neg (show ¬ U.2 22 9 = 0 by rw [uR.2.2.1]; decide)] at go
      rw [hb, if_pos ⟨cm, by decide⟩]
      obtain ⟨kk1, kk2⟩ := x_clauses (L := L) (xs := xs) (d := d + 68) hTU
      refine ⟨U, ?_, hQU⟩
      rw [go, q_158_5, if_neg had.1, nb14 had.2, kk1, show (true && Nat.ble 1 8) = true from rfl, gdT, kk2, bR]
      by_cases y : ((j + 1 : Nat) : Int) < U.2 78 tt
      · rw [if_pos y, if_neg (by decide)]
      · rw [if_neg y]
theorem x_barText {a tt c : Nat} {l : Int} (hT : TX S a tt) (hA : FA S (leC S.2 c l) (udC S.2 c)) (h12 : S.2 22 12 = S.2 113 c) {mk : Nat → Bool} {x2 : Int} (hm : ∀ j : Nat, j < 16 → (iand (ishr x2 (j : Int)) 1 = 0 ↔ mk j = false)) : ∃ U, ev (WK L xs) (d + 70) 158 [vr 22, vr a, vi x2] S = some (tbR S.2 c l mk tt (S.2 78 tt).toNat 0, U) ∧ Qf S U := by
  rw [q_158]
  exact x_barL hT hA h12 hm _ 0 S (by first | decide | omega) Qf.rf
end
end
section
-- 99h.mbar
/-! the reference's bar of an authority: its texts -/
/-- of the laws from i on, m of them -/
noncomputable def laR (h : Nat → Nat → Int) (c : Nat) (l : Int) (msk : Nat → Nat → Bool) : Nat → Nat → Int
  | 0, _ => 0
  | m + 1, i => if tbR h c l (msk i) i (h 78 i).toNat 0 ≠ 0 then tbR h c l (msk i) i (h 78 i).toNat 0 else laR h c l msk m (i + 1)
noncomputable def mkA : Nat → Bool := fun _ => true
noncomputable def mkL (h : Nat → Nat → Int) : Nat → Nat → Bool := fun i j => btsF h (h 72 2) (skd h (h 72 2)) i j
noncomputable def btR (h : Nat → Nat → Int) (c v : Nat) (l : Int) : Int := if tbR h c l mkA (20 + v) (h 78 (20 + v)).toNat 0 ≠ 0 then tbR h c l mkA (20 + v) (h 78 (20 + v)).toNat 0 else laR h c l (mkL h) (h 72 36).toNat 0
/-- what the reference alone needs -/
noncomputable def IR (S : AH) : Prop := RK S.2 ∧ RV S.2 ∧ RP S.2 ∧ GL S ∧ ∀ v : Nat, (v : Int) < S.2 72 40 → ∃ a, TX S a (20 + v)
/-- the cells that the reference's bars are read from -/
noncomputable def Wh (h h' : Nat → Nat → Int) : Prop := (∀ a, 72 < a → a < 151 → a ≠ 96 → a ≠ 128 → a ≠ 129 → h' a = h a) ∧ ∀ k, k ≠ 75 → k ≠ 76 → h' 72 k = h 72 k
noncomputable def Wf (S T : AH) : Prop := T.1 = S.1 ∧ (∀ a, a ≠ 72 → a ≠ 96 → a ≠ 128 → a ≠ 129 → T.2 a = S.2 a) ∧ ∀ k, k ≠ 75 → k ≠ 76 → T.2 72 k = S.2 72 k
section
variable {L : Nat} {xs : Nat → Int} {d : Nat} {S S' T U W : AH} {h h' : Nat → Nat → Int}
theorem Wf.rf : Wf S S := ⟨rfl, fun _ _ _ _ _ => rfl, fun _ _ _ => rfl⟩
theorem Wf.tr (p : Wf S T) (q : Wf T U) : Wf S U := ⟨q.1.trans p.1, fun a q1 q2 q3 q4 => (q.2.1 a q1 q2 q3 q4).trans (p.2.1 a q1 q2 q3 q4), fun k q1 q2 => (q.2.2 k q1 q2).trans (p.2.2 k q1 q2)⟩
theorem Vf.wf (p : Vf S T) : Wf S T := ⟨p.1, fun a _ _ q1 q2 => p.2 a q1 q2, fun k _ _ => by rw [p.2 72 (by decide) (by decide)]⟩
theorem A96.wf {f : Nat → Bool} (p : A96 S T f) : Wf S T := ⟨p.1, fun a _ q _ _ => p.2.1 a q, fun k _ _ => by rw [p.2.1 72 (by decide)]⟩
theorem Wf.w72 {k : Nat} {v : Int} (hk : k = 75 ∨ k = 76) : Wf S (wr S 72 k v) := ⟨rfl, fun a q _ _ _ => wr_c q, fun j q1 q2 => by rw [wr_f, if_neg (by first | decide | omega)]⟩
theorem Wf.wh (p : Wf S T) : Wh S.2 T.2 := ⟨fun a q1 _ q2 q3 q4 => p.2.1 a (by first | decide | omega) q2 q3 q4, p.2.2⟩
theorem Wf.inv (p : Wf S T) (H : Inv S) : Inv T := H.scr ⟨by rw [p.1]; exact Nat.le_refl _, fun a q1 _ => ⟨by rw [p.1], p.2.1 a (by first | decide | omega) (by first | decide | omega) (by first | decide | omega) (by first | decide | omega)⟩⟩ (fun a k q1 q2 => by
  unfold scr at q2
  by_cases e : a = 72
  · subst e
    exact p.2.2 k (by first | decide | omega) (by first | decide | omega)
  · rw [p.2.1 a e (by first | decide | omega) (by first | decide | omega) (by first | decide | omega)])
theorem IR.rk (H : IR S) : RK S.2 := H.1
theorem IR.rv (H : IR S) : RV S.2 := H.2.1
theorem IR.rp (H : IR S) : RP S.2 := H.2.2.1
theorem IR.gl (H : IR S) : GL S := H.2.2.2.1
theorem IR.tx (H : IR S) {v : Nat} (hv : (v : Int) < S.2 72 40) : ∃ a, TX S a (20 + v) := H.2.2.2.2 v hv
theorem Inv.ir (H : Inv S) : IR S := ⟨H.gk.1, H.gv.1, H.gp.1, H.gl, fun v hv => by
  obtain ⟨-, -, -, -, -, -, -, -, -, -, -, -, -, -, a15, -⟩ := H.gv.2.2.2.1 v hv
  exact ⟨_, a15⟩⟩
theorem Wf.ir (p : Wf S T) (H : IR S) : IR T := by
  obtain ⟨h1, h2, h3, h4, h5⟩ := H
  have C : ∀ a, a ≠ 72 → a ≠ 96 → (a < 128 ∨ 129 < a) → T.2 a = S.2 a := fun a q1 q2 q3 => p.2.1 a q1 q2 (by first | decide | omega) (by first | decide | omega)
  have hm : HM S.2 T.2 := by
    unfold HM
    rw [p.2.2 4 (by decide) (by decide), p.2.2 5 (by decide) (by decide)]
    omega
  have hF : Fr S T := ⟨by rw [p.1]; exact Nat.le_refl _, fun a q1 _ => ⟨by rw [p.1], C a (by first | decide | omega) (by first | decide | omega) (by first | decide | omega)⟩⟩
  have hk : ∀ k, lvf k → T.2 72 k = S.2 72 k := fun k q => p.2.2 k (by unfold lvf at q; omega) (by unfold lvf at q; omega)
  refine ⟨h1.fr (fun a q => C a (by first | decide | omega) (by first | decide | omega) (by first | decide | omega)) hk hm, h2.fr (fun a q => C a (by first | decide | omega) (by first | decide | omega) (by first | decide | omega)) (fun k q => p.2.2 k (by first | decide | omega) (by first | decide | omega)) hm, h3.fr (p.2.2 4 (by decide) (by decide)) (p.2.2 5 (by decide) (by decide)) (fun a q => C a (by first | decide | omega) (by first | decide | omega) (by first | decide | omega)), h4.fr hF (fun a q => C a (by unfold lvk at q; omega) (by unfold lvk at q; omega) (by unfold lvk at q; omega)) hk, fun v hv => ?_⟩
  obtain ⟨a, ha⟩ := h5 v (by rw [← p.2.2 40 (by decide) (by decide)]; exact hv)
  exact ⟨a, ha.fr hF (fun b q1 q2 => C b (by first | decide | omega) (by first | decide | omega) (by first | decide | omega))⟩
theorem Wh.le (p : Wh h h') (c : Nat) (l : Int) : leC h' c l = leC h c l ∧ udC h' c = udC h c ∧ rkC h' c = rkC h c := leC_fr (fun a q1 q2 q3 q4 q5 q6 => p.1 a (by first | decide | omega) q6 q2 q3 q4) p.2 c l
theorem Wh.br (p : Wh h h') (c : Nat) (l : Int) (k : Nat) : brH h' c l k = brH h c l k := by
  obtain ⟨e1, e2, e3⟩ := p.le c l
  unfold brH cdK
  rw [e1, e2, e3, p.1 79 (by decide) (by decide) (by decide) (by decide) (by decide), p.1 80 (by decide) (by decide) (by decide) (by decide) (by decide), p.1 82 (by decide) (by decide) (by decide) (by decide) (by decide), p.1 83 (by decide) (by decide) (by decide) (by decide) (by decide), p.1 84 (by decide) (by decide) (by decide) (by decide) (by decide), p.1 85 (by decide) (by decide) (by decide) (by decide) (by decide), p.1 113 (by decide) (by decide) (by decide) (by decide) (by decide)]
theorem Wh.tb (p : Wh h h') (c : Nat) (l : Int) (mk : Nat → Bool) (t : Nat) : ∀ m j, tbR h' c l mk t m j = tbR h c l mk t m j := by
  intro m
  induction m with
  | zero => intro j; rfl
  | succ m ih =>
    intro j
    show (if mk j = true ∧ brH h' c l (16 * t + j) ≠ 0 then brH h' c l (16 * t + j) else tbR h' c l mk t m (j + 1)) = (if mk j = true ∧ brH h c l (16 * t + j) ≠ 0 then brH h c l (16 * t + j) else tbR h c l mk t m (j + 1))
    rw [p.br, ih]
theorem Wh.la (p : Wh h h') (c : Nat) (l : Int) (mk : Nat → Nat → Bool) : ∀ m i, laR h' c l mk m i = laR h c l mk m i := by
  intro m
  induction m with
  | zero => intro i; rfl
  | succ m ih =>
    intro i
    show (if tbR h' c l (mk i) i (h' 78 i).toNat 0 ≠ 0 then tbR h' c l (mk i) i (h' 78 i).toNat 0 else laR h' c l mk m (i + 1)) = (if tbR h c l (mk i) i (h 78 i).toNat 0 ≠ 0 then tbR h c l (mk i) i (h 78 i).toNat 0 else laR h c l mk m (i + 1))
    rw [p.1 78 (by decide) (by decide) (by decide) (by decide) (by decide), p.tb, ih]
theorem Wh.mk (p : Wh h h') : mkL h' = mkL h := by
  funext i j
  unfold mkL btsF inF
  have e79 := p.1 79 (by decide) (by decide) (by decide) (by decide) (by decide)
  have e80 := p.1 80 (by decide) (by decide) (by decide) (by decide) (by decide)
  have e81 := p.1 81 (by decide) (by decide) (by decide) (by decide) (by decide)
  have e78 := p.1 78 (by decide) (by decide) (by decide) (by decide) (by decide)
  have e94 := p.1 94 (by decide) (by decide) (by decide) (by decide) (by decide)
  have e95 := p.1 95 (by decide) (by decide) (by decide) (by decide) (by decide)
  rw [skd_fr (h := h) (h' := h') _ e78 e79 e80 e81 e94 e95 (p.2 36 (by decide) (by decide)), e78, e94, e95, p.2 2 (by decide) (by decide)]
theorem Wh.bt (p : Wh h h') (c v : Nat) (l : Int) : btR h' c v l = btR h c v l := by
  unfold btR
  rw [p.tb, p.la, p.mk, p.1 78 (by decide) (by decide) (by decide) (by decide) (by decide), p.2 36 (by decide) (by decide)]
theorem brK_bd (rk td lt nm : Int) (o : Option Int) : 0 ≤ brK rk td lt nm o ∧ brK rk td lt nm o ≤ 8 := by
  unfold brK
  repeat' split
  all_goals omega
theorem brH_bd (h : Nat → Nat → Int) (c : Nat) (l : Int) (k : Nat) : 0 ≤ brH h c l k ∧ brH h c l k ≤ 8 := by
  unfold brH
  split
  · exact brK_bd _ _ _ _ _
  · omega
theorem tbR_bd (h : Nat → Nat → Int) (c : Nat) (l : Int) (mk : Nat → Bool) (t : Nat) : ∀ m j, 0 ≤ tbR h c l mk t m j ∧ tbR h c l mk t m j ≤ 8 := by
  intro m
  induction m with
  | zero => intro j; exact ⟨Int.le_refl 0, by show (0 : Int) ≤ 8; decide⟩
  | succ m ih =>
    intro j
    unfold tbR
    split
    · exact brH_bd _ _ _ _
    · exact ih _
theorem laR_bd (h : Nat → Nat → Int) (c : Nat) (l : Int) (mk : Nat → Nat → Bool) : ∀ m i, 0 ≤ laR h c l mk m i ∧ laR h c l mk m i ≤ 8 := by
  intro m
  induction m with
  | zero => intro j; exact ⟨Int.le_refl 0, by show (0 : Int) ≤ 8; decide⟩
  | succ m ih =>
    intro j
    unfold laR
    split
    · exact tbR_bd _ _ _ _ _ _ _
    · exact ih _
theorem btR_bd (h : Nat → Nat → Int) (c v : Nat) (l : Int) : 0 ≤ btR h c v l ∧ btR h c v l ≤ 8 := by
  unfold btR
  split
  · exact tbR_bd _ _ _ _ _ _ _
  · exact laR_bd _ _ _ _ _ _
theorem m_barK (H : IR S) {c tt j a : Nat} (hc : (c : Int) < S.2 72 52) (h75 : S.2 72 75 = c) (hT : TX S a tt) (ht : tt < 100) (hj : (j : Int) < S.2 78 tt) : ∃ U, ev (WK L xs) (d + 5) 265 [vr 72, vi ((16 * tt + j : Nat) : Int)] S = some (brH S.2 c (S.2 72 76) (16 * tt + j), U) ∧ Vf S U := by
  have gp := H.rp
  have gk := H.rk
  have hn := gk.1
  have j16 : j < 16 := (hT.cl (L := L) (xs := xs) hj).1
  have q1600 : (0 : Int) ≤ ((16 * tt + j : Nat) : Int) ∧ ((16 * tt + j : Nat) : Int) < 1600 := by omega
  rw [q_265, if_pos q1600, Int.toNat_natCast, m_words, bR]
  simp only [bi_0]
  unfold brH
  by_cases hw : isWd (S.2 79 (16 * tt + j)) = true
  rotate_left
  · rw [if_pos hw, if_neg hw]
    exact ⟨S, rfl, Vf.rf⟩
  rw [if_neg (fun z => z hw), if_pos hw]
  obtain ⟨b, n, p, r, fr, g, b1, b2, b3, b4, b5, b6, b7, b8, b9, f1, f2, f3, f4⟩ := hT.rule (L := L) (xs := xs) hj hw
  obtain ⟨o, ho, hB⟩ := rdC_wf1 (le := leC S.2 c (S.2 72 76)) (ud := udC S.2 c) (t := byt S.2 b) (n := n) _ _ _ b8
  obtain ⟨U, u1, u2⟩ := m_holds (L := L) (xs := xs) (d := d) gp gk hc h75 ht j16 f1 f2 f3 f4 ho
  rw [b9, ho.ev]
  have U75 : U.2 72 75 = c := by rw [u2.2 72 (by decide) (by decide), h75]
  have U80 : U.2 80 = S.2 80 := u2.2 80 (by decide) (by decide)
  have U113 : U.2 113 = S.2 113 := u2.2 113 (by decide) (by decide)
  have hrk : ev (WK L xs) (d + 4) 270 [vr 72, vi (c : Int)] U = some (rkC S.2 c, U) := by
    have := m_rank (L := L) (xs := xs) (d := d + 3) (S := U) (u2.rp gp) (u2.rk gk) (c := c) (by rw [u2.2 72 (by decide) (by decide)]; exact hc)
    rw [(u2.le c 0).2.2] at this
    exact this
  refine ⟨U, ?_, u2⟩
  rcases hB with e | hB
  · subst e
    rw [show ev (WK L xs) (d + 4) 266 [vr 72, vi ((16 * tt + j : Nat) : Int)] S = some (2, U) from u1, bR, if_pos rfl]
    rfl
  · have hv : ∃ v : Int, (v = 0 ∨ v = 1) ∧ o = some v ∧ i32 v = v := by
      rcases hB with e | e
      · exact ⟨0, Or.inl rfl, e, by decide⟩
      · exact ⟨1, Or.inr rfl, e, by decide⟩
    obtain ⟨v, hv, eo, iv⟩ := hv
    subst eo
    have u3 : ev (WK L xs) (d + 4) 266 [vr 72, vi ((16 * tt + j : Nat) : Int)] S = some (v, U) := by
      rw [u1]
      show some (i32 v, U) = _
      rw [iv]
    rw [u3, bR, if_neg (show ¬ v = 2 by omega)]
    show _ = some (if S.2 79 (16 * tt + j) = 111 then (if v = 1 then 0 else 5) else if v = 0 then 0 else if S.2 79 (16 * tt + j) = 110 then 5 else if S.2 79 (16 * tt + j) = 115 then (if rkC S.2 c < S.2 80 (16 * tt + j) then 6 else 0) else (if S.2 113 c = 0 then 7 else 0), U)
    by_cases c1 : S.2 79 (16 * tt + j) = 111
    · rw [if_pos c1, if_pos c1]
      by_cases c2 : v = 1
      · rw [if_pos c2, if_pos c2]
      · rw [if_neg c2, if_neg c2]
    rw [if_neg c1, if_neg c1]
    by_cases c2 : v = 0
    · rw [if_pos c2, if_pos c2]
    rw [if_neg c2, if_neg c2]
    by_cases c3 : S.2 79 (16 * tt + j) = 110
    · rw [if_pos c3, if_pos c3]
    rw [if_neg c3, if_neg c3]
    by_cases c4 : S.2 79 (16 * tt + j) = 115
    · rw [if_pos c4, if_pos c4, U75, hrk, bR, if_pos q1600, U80]
      by_cases c5 : rkC S.2 c < S.2 80 (16 * tt + j)
      · rw [if_pos c5, if_pos c5]
      · rw [if_neg c5, if_neg c5]
    · rw [if_neg c4, if_neg c4, U75, if_pos (show (0 : Int) ≤ (c : Int) ∧ (c : Int) < 300 by omega), Int.toNat_natCast, U113]
      by_cases c5 : S.2 113 c = 0
      · rw [if_pos c5, if_pos c5]
      · rw [if_neg c5, if_neg c5]
theorem w16t {tt j : Nat} (ht : tt < 100) (hj : j ≤ 16) : w32 (w32 (16 * (tt : Int)) + (j : Int)) = ((16 * tt + j : Nat) : Int) := by
  rw [w32e (x := 16 * (tt : Int)) (by first | decide | omega) (by first | decide | omega), w32e (by first | decide | omega) (by first | decide | omega)]
  omega
theorem wj {j : Nat} (h : j ≤ 1000) : w32 ((j : Int) + 1) = ((j + 1 : Nat) : Int) := by
  rw [w32e (by first | decide | omega) (by first | decide | omega)]
  rfl
theorem w20v {v : Nat} {n : Int} (h : (v : Int) < n) (h2 : n ≤ 80) : w32 (20 + (v : Int)) = ((20 + v : Nat) : Int) := by
  rw [w32e (by first | decide | omega) (by first | decide | omega)]
  omega
/-- the words of an authority -/
theorem m_wordL (H : IR S) {c v : Nat} (hc : (c : Int) < S.2 72 52) (hv : (v : Int) < S.2 72 40) (h75 : S.2 72 75 = c) : ∀ (m j : Nat) (T : AH), j + m = (S.2 78 (20 + v)).toNat → Vf S T → ∃ U, LQ (WK L xs) (ev (WK L xs) (d + 5)) 264 2 [some (vr 72), some (vi (v : Int)), some (vi (j : Int)), none, none] [] T = (if tbR S.2 c (S.2 72 76) mkA (20 + v) m j ≠ 0 then some (tbR S.2 c (S.2 72 76) mkA (20 + v) m j, U) else bindR (ev (WK L xs) (d + 5) 232 [vr 72, vi (S.2 72 2)] U) (fun _ S2 => LQ (WK L xs) (ev (WK L xs) (d + 5)) 264 51 [some (vr 72), none, some (vi 0), none, none] [] S2)) ∧ Vf S U := by
  have hv80 := H.rv.1
  obtain ⟨a, a15⟩ := H.tx hv
  have hcm := cm_bd a15
  have q100 : (0 : Int) ≤ ((20 + v : Nat) : Int) ∧ ((20 + v : Nat) : Int) < 100 := by omega
  intro m
  induction m with
  | zero =>
    intro j T hj hT
    refine ⟨T, ?_, hT⟩
    rw [q_264_2, w20v hv hv80.2, if_pos q100, Int.toNat_natCast, hT.2 78 (by decide) (by decide), if_neg (by first | decide | omega), hT.2 72 (by decide) (by decide)]
    rfl
  | succ m ih =>
    intro j T hj hT
    have HT := hT.wf.ir H
    have T72 : T.2 72 = S.2 72 := hT.2 72 (by decide) (by decide)
    have T78 : T.2 78 = S.2 78 := hT.2 78 (by decide) (by decide)
    obtain ⟨z, z15⟩ := HT.tx (v := v) (by rw [T72]; exact hv)
    obtain ⟨U, u1, u2⟩ := m_barK (L := L) (xs := xs) (d := d) HT (c := c) (j := j) (by rw [T72]; exact hc) (by rw [T72]; exact h75) z15 (by first | decide | omega) (by rw [T78]; omega)
    rw [hT.wf.wh.br, T72] at u1
    obtain ⟨V, v1, v2⟩ := ih (j + 1) U (by first | decide | omega) (hT.tr u2)
    have hb := brH_bd S.2 c (S.2 72 76) (16 * (20 + v) + j)
    have go := q_264_2 L xs (d + 5) T (v : Int) (j : Int)
    rw [w20v hv hv80.2, if_pos q100, Int.toNat_natCast, T78, if_pos (show (j : Int) < S.2 78 (20 + v) by omega), w16t (by first | decide | omega) (by first | decide | omega), u1, bR, wj (j := j) (by first | decide | omega)] at go
    show ∃ U, LQ (WK L xs) (ev (WK L xs) (d + 5)) 264 2 [some (vr 72), some (vi (v : Int)), some (vi (j : Int)), none, none] [] T = (if (if mkA j = true ∧ brH S.2 c (S.2 72 76) (16 * (20 + v) + j) ≠ 0 then brH S.2 c (S.2 72 76) (16 * (20 + v) + j) else tbR S.2 c (S.2 72 76) mkA (20 + v) m (j + 1)) ≠ 0 then some ((if mkA j = true ∧ brH S.2 c (S.2 72 76) (16 * (20 + v) + j) ≠ 0 then brH S.2 c (S.2 72 76) (16 * (20 + v) + j) else tbR S.2 c (S.2 72 76) mkA (20 + v) m (j + 1)), U) else bindR (ev (WK L xs) (d + 5) 232 [vr 72, vi (S.2 72 2)] U) (fun _ S2 => LQ (WK L xs) (ev (WK L xs) (d + 5)) 264 51 [some (vr 72), none, some (vi 0), none, none] [] S2)) ∧ Vf S U
    by_cases z : brH S.2 c (S.2 72 76) (16 * (20 + v) + j) = 0
    · rw [if_neg (by first | decide | omega)] at go
      rw [if_neg (show ¬ (mkA j = true ∧ brH S.2 c (S.2 72 76) (16 * (20 + v) + j) ≠ 0) from fun y => y.2 z)]
      exact ⟨V, go.trans v1, v2⟩
    · rw [if_pos (by first | decide | omega)] at go
      rw [if_pos (show mkA j = true ∧ brH S.2 c (S.2 72 76) (16 * (20 + v) + j) ≠ 0 from ⟨rfl, z⟩)]
      refine ⟨U, ?_, hT.tr u2⟩
      rw [if_pos (show brH S.2 c (S.2 72 76) (16 * (20 + v) + j) ≠ 0 from z)]
      exact go
/-- the clauses of a law that count -/
theorem m_lawC (H : IR S) {c i : Nat} (hc : (c : Int) < S.2 72 52) (hi : (i : Int) < S.2 72 36) (h75 : S.2 72 75 = c) (h96 : ∀ k, k < 320 → S.2 96 k = if skd S.2 (S.2 72 2) k then 1 else 0) : ∀ (m j : Nat) (T : AH), j + m = (S.2 78 i).toNat → Vf S T → ∃ U, LQ (WK L xs) (ev (WK L xs) (d + 5)) 264 61 [some (vr 72), none, some (vi (i : Int)), some (vi (j : Int)), none] [] T = (if tbR S.2 c (S.2 72 76) (mkL S.2 i) i m j ≠ 0 then some (tbR S.2 c (S.2 72 76) (mkL S.2 i) i m j, U) else LQ (WK L xs) (ev (WK L xs) (d + 5)) 264 51 [some (vr 72), none, some (vi ((i + 1 : Nat) : Int)), none, none] [] U) ∧ Vf S U := by
  have hl20 := H.gl
  have a15 := (H.gl.2.2.2 i hi).2.2
  have hcm := cm_bd a15
  have i20 : i < 20 := by have := hl20.2.2.1; omega
  have q100 : (0 : Int) ≤ (i : Int) ∧ (i : Int) < 100 := by omega
  intro m
  induction m with
  | zero =>
    intro j T hj hT
    refine ⟨T, ?_, hT⟩
    rw [q_264_61, if_pos q100, Int.toNat_natCast, hT.2 78 (by decide) (by decide), if_neg (by first | decide | omega), wj (j := i) (by first | decide | omega)]
    rfl
  | succ m ih =>
    intro j T hj hT
    have HT := hT.wf.ir H
    have T72 : T.2 72 = S.2 72 := hT.2 72 (by decide) (by decide)
    have T78 : T.2 78 = S.2 78 := hT.2 78 (by decide) (by decide)
    have hA : A96 T T (skd S.2 (S.2 72 2)) := ⟨rfl, fun _ _ => rfl, fun k hk => by rw [hT.2 96 (by decide) (by decide)]; exact h96 k hk⟩
    have hcnt := m_isCounted (L := L) (xs := xs) (d := d + 2) hA (i := i) (j := j) i20 (by first | decide | omega) (S.2 72 2)
    have einF : inF T.2 = inF S.2 := by
      funext day k
      unfold inF
      rw [hT.2 94 (by decide) (by decide), hT.2 95 (by decide) (by decide)]
    rw [einF] at hcnt
    have hmk : mkL S.2 i j = true ↔ (inF S.2 (S.2 72 2) i = true ∧ skd S.2 (S.2 72 2) (16 * i + j) = false) := by
      unfold mkL btsF
      rw [decide_eq_true (show (j : Int) < S.2 78 i by omega), Bool.and_true, Bool.and_eq_true, Bool.not_eq_true']
    obtain ⟨V, v1, v2⟩ := ih (j + 1) T (by first | decide | omega) hT
    have go := q_264_61 L xs (d + 5) T (i : Int) (j : Int)
    rw [if_pos q100, Int.toNat_natCast, T78, if_pos (show (j : Int) < S.2 78 i by omega), T72, show ev (WK L xs) (d + 5) 234 [vr 72, vi (i : Int), vi (j : Int), vi (S.2 72 2)] T = _ from hcnt, bR, wj (j := j) (by first | decide | omega)] at go
    simp only [bi_0] at go
    show ∃ U, LQ (WK L xs) (ev (WK L xs) (d + 5)) 264 61 [some (vr 72), none, some (vi (i : Int)), some (vi (j : Int)), none] [] T = (if (if mkL S.2 i j = true ∧ brH S.2 c (S.2 72 76) (16 * i + j) ≠ 0 then brH S.2 c (S.2 72 76) (16 * i + j) else tbR S.2 c (S.2 72 76) (mkL S.2 i) i m (j + 1)) ≠ 0 then some ((if mkL S.2 i j = true ∧ brH S.2 c (S.2 72 76) (16 * i + j) ≠ 0 then brH S.2 c (S.2 72 76) (16 * i + j) else tbR S.2 c (S.2 72 76) (mkL S.2 i) i m (j + 1)), U) else LQ (WK L xs) (ev (WK L xs) (d + 5)) 264 51 [some (vr 72), none, some (vi ((i + 1 : Nat) : Int)), none, none] [] U) ∧ Vf S U
    by_cases cm : mkL S.2 i j = true
    rotate_left
    · rw [if_pos (fun z => cm (hmk.mpr z))] at go
      rw [if_neg (show ¬ (mkL S.2 i j = true ∧ brH S.2 c (S.2 72 76) (16 * i + j) ≠ 0) from fun y => cm y.1)]
      exact ⟨V, go.trans v1, v2⟩
    rw [if_neg (fun z => z (hmk.mp cm))] at go
    obtain ⟨U, u1, u2⟩ := m_barK (L := L) (xs := xs) (d := d) HT (c := c) (j := j) (by rw [T72]; exact hc) (by rw [T72]; exact h75) (HT.gl.2.2.2 i (by rw [T72]; exact hi)).2.2 (by first | decide | omega) (by rw [T78]; omega)
    rw [hT.wf.wh.br, T72] at u1
    rw [w16t (by first | decide | omega) (by first | decide | omega), u1, bR] at go
    have hb := brH_bd S.2 c (S.2 72 76) (16 * i + j)
    obtain ⟨V, v1, v2⟩ := ih (j + 1) U (by first | decide | omega) (hT.tr u2)
    by_cases z : brH S.2 c (S.2 72 76) (16 * i + j) = 0
    · rw [if_neg (by first | decide | omega)] at go
      rw [if_neg (show ¬ (mkL S.2 i j = true ∧ brH S.2 c (S.2 72 76) (16 * i + j) ≠ 0) from fun y => y.2 z)]
      exact ⟨V, go.trans v1, v2⟩
    · rw [if_pos (by first | decide | omega)] at go
      rw [if_pos (show mkL S.2 i j = true ∧ brH S.2 c (S.2 72 76) (16 * i + j) ≠ 0 from ⟨cm, z⟩)]
      refine ⟨U, ?_, hT.tr u2⟩
      rw [if_pos (show brH S.2 c (S.2 72 76) (16 * i + j) ≠ 0 from z)]
      exact go
theorem m_lawL (H : IR S) {c : Nat} (hc : (c : Int) < S.2 72 52) (h75 : S.2 72 75 = c) (h96 : ∀ k, k < 320 → S.2 96 k = if skd S.2 (S.2 72 2) k then 1 else 0) : ∀ (m i : Nat) (T : AH), (i : Int) + m = S.2 72 36 → Vf S T → ∃ U, LQ (WK L xs) (ev (WK L xs) (d + 5)) 264 51 [some (vr 72), none, some (vi (i : Int)), none, none] [] T = some (laR S.2 c (S.2 72 76) (mkL S.2) m i, U) ∧ Vf S U := by
  intro m
  induction m with
  | zero =>
    intro i T hi hT
    refine ⟨T, ?_, hT⟩
    rw [q_264_51, hT.2 72 (by decide) (by decide), if_neg (by first | decide | omega)]
    rfl
  | succ m ih =>
    intro i T hi hT
    have hil : (i : Int) < S.2 72 36 := by omega
    obtain ⟨U, u1, u2⟩ := m_lawC (L := L) (xs := xs) (d := d) H hc hil h75 h96 (S.2 78 i).toNat 0 T (by first | decide | omega) hT
    obtain ⟨V, v1, v2⟩ := ih (i + 1) U (by first | decide | omega) u2
    show ∃ U, LQ (WK L xs) (ev (WK L xs) (d + 5)) 264 51 [some (vr 72), none, some (vi (i : Int)), none, none] [] T = some (if tbR S.2 c (S.2 72 76) (mkL S.2 i) i (S.2 78 i).toNat 0 ≠ 0 then tbR S.2 c (S.2 72 76) (mkL S.2 i) i (S.2 78 i).toNat 0 else laR S.2 c (S.2 72 76) (mkL S.2) m (i + 1), U) ∧ Vf S U
    have go := q_264_51 L xs (d + 5) T (i : Int)
    rw [hT.2 72 (by decide) (by decide), if_pos hil] at go
    have go2 := go.trans u1
    by_cases z : tbR S.2 c (S.2 72 76) (mkL S.2 i) i (S.2 78 i).toNat 0 = 0
    · rw [if_neg (fun y => y z)] at go2
      rw [if_neg (fun y => y z)]
      exact ⟨V, go2.trans v1, v2⟩
    · rw [if_pos z] at go2
      rw [if_pos z]
      exact ⟨U, go2, u2⟩
theorem m_bars (H : IR S) {c v : Nat} (hc : (c : Int) < S.2 72 52) (hv : (v : Int) < S.2 72 40) (h75 : S.2 72 75 = c) : ∃ U, ev (WK L xs) (d + 6) 264 [vr 72, vi (v : Int)] S = some (btR S.2 c v (S.2 72 76), U) ∧ Wf S U := by
  obtain ⟨U, u1, u2⟩ := m_wordL (L := L) (xs := xs) (d := d) H hc hv h75 (S.2 78 (20 + v)).toNat 0 S (by first | decide | omega) Vf.rf
  have go := (q_264 L xs (d + 5) S (v : Int)).trans u1
  unfold btR
  by_cases z : tbR S.2 c (S.2 72 76) mkA (20 + v) (S.2 78 (20 + v)).toNat 0 = 0
  rotate_left
  · rw [if_pos z] at go
    rw [if_pos z]
    exact ⟨U, go, u2.wf⟩
  rw [if_neg (fun y => y z)] at go
  rw [if_neg (fun y => y z)]
  have HU := u2.wf.ir H
  obtain ⟨A, a1, a2⟩ := m_strikes (L := L) (xs := xs) (d := d + 2) HU.gl (S.2 72 2)
  rw [show ev (WK L xs) (d + 5) 232 [vr 72, vi (S.2 72 2)] U = some (0, A) from a1, bR] at go
  have wA : Wf S A := u2.wf.tr a2.wf
  have HA := wA.ir H
  have eN : A.2 72 2 = S.2 72 2 := wA.2.2 2 (by decide) (by decide)
  have sk : skd A.2 (A.2 72 2) = skd U.2 (S.2 72 2) := by
    rw [eN]
    exact skd_fr _ (a2.2.1 78 (by decide)) (a2.2.1 79 (by decide)) (a2.2.1 80 (by decide)) (a2.2.1 81 (by decide)) (a2.2.1 94 (by decide)) (a2.2.1 95 (by decide)) (by rw [a2.2.1 72 (by decide)])
  have A72 : A.2 72 = S.2 72 := by rw [a2.2.1 72 (by decide), u2.2 72 (by decide) (by decide)]
  obtain ⟨V, v1, v2⟩ := m_lawL (L := L) (xs := xs) (d := d) HA (c := c) (by rw [A72]; exact hc) (by rw [A72]; exact h75) (by rw [sk]; exact a2.2.2) (S.2 72 36).toNat 0 A (by rw [A72]; have := H.gl.2.1; omega) Vf.rf
  rw [wA.wh.la, wA.wh.mk, A72] at v1
  exact ⟨V, go.trans v1, wA.tr v2.wf⟩
end
end
section
-- 99i.mlets
/-! the reference's bar of an authority, and which one lets -/
noncomputable def ceP (h : Nat → Nat → Int) (c v : Nat) (y : Int) (x : Nat) : Bool := decide (h 97 x = 1 ∧ h 102 x = v ∧ h 101 x = -1 ∧ uN h (h 109 c) (h 98 x) = true ∧ lft h x y < h 111 c)
noncomputable def ceL (h : Nat → Nat → Int) (c v : Nat) (y : Int) : Nat → Nat → Bool
  | 0, _ => false
  | m + 1, x => ceP h c v y x || ceL h c v y m (x + 1)
noncomputable def hasV (h : Nat → Nat → Int) (c v : Nat) (y : Int) : Int := if h 112 c = -1 then lft h v y else bnd h (h 112 c).toNat y
noncomputable def barV (h : Nat → Nat → Int) (c v : Nat) : Int :=
  if uN h (h 109 c) (h 98 v) = false ∨ ofY h v (yr (h 72 2)) = false then 1
  else if h 101 v ≠ -1 ∨ (h 97 v = 4 ∧ h 102 v ≠ -1) then 2
  else if hasV h c v (yr (h 72 2)) < h 111 c then 3
  else if ceL h c v (yr (h 72 2)) (h 72 40).toNat 0 = true then 4
  else btR h c v (lft h v (yr (h 72 2)))
noncomputable def leV (h : Nat → Nat → Int) (c : Nat) (k : Int) : Nat → Nat → Int → Int ⊕ Int
  | 0, _, w => .inr w
  | m + 1, v, w => if h 97 v = k ∧ (h 112 c = -1 ∨ h 124 (h 112 c).toNat = v) then (if barV h c v = 0 then .inl v else leV h c k m (v + 1) (max w (barV h c v))) else leV h c k m (v + 1) w
noncomputable def leK (h : Nat → Nat → Int) (c : Nat) : List Int → Int → Int
  | [], w => -10 - w
  | k :: r, w => match leV h c k (h 72 40).toNat 0 w with
    | .inl v => v
    | .inr u => leK h c r u
noncomputable def ltV (h : Nat → Nat → Int) (c : Nat) : Int := leK h c [0, 2, 3, 4] 1
section
variable {L : Nat} {xs : Nat → Int} {d : Nat} {S S' T U W : AH} {h h' : Nat → Nat → Int}
theorem Wh.lf (p : Wh h h') : lft h' = lft h := lft_fr (fun a q => p.1 a (by first | decide | omega) (by first | decide | omega) (by first | decide | omega) (by first | decide | omega) (by first | decide | omega)) (p.2 52 (by decide) (by decide)) (p.2 70 (by decide) (by decide))
theorem Wh.un (p : Wh h h') : uN h' = uN h := by
  funext a b
  unfold uN
  rw [p.1 74 (by decide) (by decide) (by decide) (by decide) (by decide)]
theorem Wh.oy (p : Wh h h') : ofY h' = ofY h := ofY_fr (p.1 97 (by decide) (by decide) (by decide) (by decide) (by decide)) (p.1 102 (by decide) (by decide) (by decide) (by decide) (by decide)) (p.1 100 (by decide) (by decide) (by decide) (by decide) (by decide))
theorem Wh.bn (p : Wh h h') : bnd h' = bnd h := (bns_fr (p.1 115 (by decide) (by decide) (by decide) (by decide) (by decide)) (p.1 112 (by decide) (by decide) (by decide) (by decide) (by decide)) (p.1 111 (by decide) (by decide) (by decide) (by decide) (by decide)) (p.2 52 (by decide) (by decide)) (p.1 124 (by decide) (by decide) (by decide) (by decide) (by decide)) (p.1 125 (by decide) (by decide) (by decide) (by decide) (by decide)) (p.1 126 (by decide) (by decide) (by decide) (by decide) (by decide)) (p.1 127 (by decide) (by decide) (by decide) (by decide) (by decide)) (p.2 70 (by decide) (by decide))).1
theorem Wh.ce (p : Wh h h') (c v : Nat) (y : Int) : ∀ m x, ceL h' c v y m x = ceL h c v y m x := by
  intro m
  induction m with
  | zero => intro x; rfl
  | succ m ih =>
    intro x
    show (ceP h' c v y x || ceL h' c v y m (x + 1)) = (ceP h c v y x || ceL h c v y m (x + 1))
    rw [ih]
    unfold ceP
    rw [p.lf, p.un, p.1 97 (by decide) (by decide) (by decide) (by decide) (by decide), p.1 98 (by decide) (by decide) (by decide) (by decide) (by decide), p.1 101 (by decide) (by decide) (by decide) (by decide) (by decide), p.1 102 (by decide) (by decide) (by decide) (by decide) (by decide), p.1 109 (by decide) (by decide) (by decide) (by decide) (by decide), p.1 111 (by decide) (by decide) (by decide) (by decide) (by decide)]
theorem Wh.bar (p : Wh h h') (c v : Nat) : barV h' c v = barV h c v := by
  unfold barV hasV
  rw [p.lf, p.un, p.oy, p.bn, p.ce, p.bt, p.1 97 (by decide) (by decide) (by decide) (by decide) (by decide), p.1 98 (by decide) (by decide) (by decide) (by decide) (by decide), p.1 101 (by decide) (by decide) (by decide) (by decide) (by decide), p.1 102 (by decide) (by decide) (by decide) (by decide) (by decide), p.1 109 (by decide) (by decide) (by decide) (by decide) (by decide), p.1 111 (by decide) (by decide) (by decide) (by decide) (by decide), p.1 112 (by decide) (by decide) (by decide) (by decide) (by decide), p.2 2 (by decide) (by decide), p.2 40 (by decide) (by decide)]
theorem Wh.lv (p : Wh h h') (c : Nat) (k : Int) : ∀ m v w, leV h' c k m v w = leV h c k m v w := by
  intro m
  induction m with
  | zero => intro v w; rfl
  | succ m ih =>
    intro v w
    show (if h' 97 v = k ∧ (h' 112 c = -1 ∨ h' 124 (h' 112 c).toNat = v) then (if barV h' c v = 0 then .inl v else leV h' c k m (v + 1) (max w (barV h' c v))) else leV h' c k m (v + 1) w) = (if h 97 v = k ∧ (h 112 c = -1 ∨ h 124 (h 112 c).toNat = v) then (if barV h c v = 0 then .inl v else leV h c k m (v + 1) (max w (barV h c v))) else leV h c k m (v + 1) w)
    rw [ih, ih, p.bar, p.1 97 (by decide) (by decide) (by decide) (by decide) (by decide), p.1 112 (by decide) (by decide) (by decide) (by decide) (by decide), p.1 124 (by decide) (by decide) (by decide) (by decide) (by decide)]
theorem Wh.lk (p : Wh h h') (c : Nat) : ∀ r w, leK h' c r w = leK h c r w := by
  intro r
  induction r with
  | nil => intro w; rfl
  | cons k r ih =>
    intro w
    show (match leV h' c k (h' 72 40).toNat 0 w with
      | .inl v => v
      | .inr u => leK h' c r u) = (match leV h c k (h 72 40).toNat 0 w with
      | .inl v => v
      | .inr u => leK h c r u)
    rw [p.lv, p.2 40 (by decide) (by decide)]
    cases leV h c k (h 72 40).toNat 0 w with
    | inl v => rfl
    | inr u => exact ih u
theorem Wh.lt (p : Wh h h') (c : Nat) : ltV h' c = ltV h c := p.lk c _ _
theorem barV_bd (h : Nat → Nat → Int) (c v : Nat) : 0 ≤ barV h c v ∧ barV h c v ≤ 8 := by
  unfold barV
  split
  · omega
  split
  · omega
  split
  · omega
  split
  · omega
  exact btR_bd _ _ _ _
theorem m_ceL (gk : RK S.2) (gv : RV S.2) (gp : RP S.2) {c v : Nat} (hc : (c : Int) < S.2 72 52) : ∀ (m x : Nat), x + m = (S.2 72 40).toNat → LQ (WK L xs) (ev (WK L xs) (d + 4)) 263 2 [some (vr 72), some (vi (c : Int)), some (vi (v : Int)), some (vi (x : Int))] [] S = some (if ceL S.2 c v (yr (S.2 72 2)) m x = true then 0 else 1, S) := by
  have hn := gv.1
  have hk := gk.1
  obtain ⟨-, r2, -⟩ := gk.2.2.2.1 c hc
  have qc : (0 : Int) ≤ (c : Int) ∧ (c : Int) < 300 := by omega
  intro m
  induction m with
  | zero =>
    intro x hx
    rw [q_263_2, if_neg (by first | decide | omega)]
    rfl
  | succ m ih =>
    intro x hx
    have hxl : (x : Int) < S.2 72 40 := by omega
    have qx : (0 : Int) ≤ (x : Int) ∧ (x : Int) < 80 := by omega
    have e1 : w32 ((x : Int) + 1) = ((x + 1 : Nat) : Int) := by
      rw [w32e (by first | decide | omega) (by first | decide | omega)]
      rfl
    obtain ⟨-, s2, -⟩ := gv.2.1 x hxl
    have hi := ih (x + 1) (by first | decide | omega)
    have go := q_263_2 L xs (d + 4) S (c : Int) (v : Int) (x : Int)
    rw [if_pos hxl, e1] at go
    simp only [if_pos qx, if_pos qc, Int.toNat_natCast] at go
    rw [m_isUnder gp _ _ r2.1 r2.2 s2.1, bR, m_year, bR, show idiv (S.2 72 2) 360 = yr (S.2 72 2) from rfl, m_leftOf gk gv gp hxl, bR, hi] at go
    simp only [bi_0, lc_lt] at go
    show _ = some (if (ceP S.2 c v (yr (S.2 72 2)) x || ceL S.2 c v (yr (S.2 72 2)) m (x + 1)) = true then 0 else 1, S)
    by_cases c1 : S.2 97 x = 1
    rotate_left
    · rw [if_neg c1] at go
      rw [show ceP S.2 c v (yr (S.2 72 2)) x = false from decide_eq_false (fun z => c1 z.1), Bool.false_or]
      exact go
    rw [if_pos c1] at go
    by_cases c2 : S.2 102 x = v
    rotate_left
    · rw [if_neg c2] at go
      rw [show ceP S.2 c v (yr (S.2 72 2)) x = false from decide_eq_false (fun z => c2 z.2.1), Bool.false_or]
      exact go
    rw [if_pos c2] at go
    by_cases c3 : S.2 101 x = -1
    rotate_left
    · rw [if_neg c3] at go
      rw [show ceP S.2 c v (yr (S.2 72 2)) x = false from decide_eq_false (fun z => c3 z.2.2.1), Bool.false_or]
      exact go
    rw [if_pos c3] at go
    by_cases c4 : uN S.2 (S.2 109 c) (S.2 98 x) = true
    rotate_left
    · rw [if_pos c4] at go
      rw [show ceP S.2 c v (yr (S.2 72 2)) x = false from decide_eq_false (fun z => c4 z.2.2.2.1), Bool.false_or]
      exact go
    rw [if_neg (fun z => z c4)] at go
    by_cases c5 : lft S.2 x (yr (S.2 72 2)) < S.2 111 c
    · rw [if_pos c5] at go
      rw [show ceP S.2 c v (yr (S.2 72 2)) x = true from decide_eq_true ⟨c1, c2, c3, c4, c5⟩, Bool.true_or, if_pos rfl]
      exact go
    · rw [if_neg c5] at go
      rw [show ceP S.2 c v (yr (S.2 72 2)) x = false from decide_eq_false (fun z => c5 z.2.2.2.2), Bool.false_or]
      exact go
theorem m_bar (H : IR S) {c v : Nat} (hc : (c : Int) < S.2 72 52) (hv : (v : Int) < S.2 72 40) : ∃ U, ev (WK L xs) (d + 8) 262 [vr 72, vi (c : Int), vi (v : Int)] S = some (barV S.2 c v, U) ∧ Wf S U := by
  have gk := H.rk
  have gv := H.rv
  have gp := H.rp
  have hn := gv.1
  have hk := gk.1
  have hcn := gv.2.2.2.1
  obtain ⟨-, r2, -, -, r5, -⟩ := gk.2.2.2.1 c hc
  obtain ⟨-, s2, -⟩ := gv.2.1 v hv
  have qc : (0 : Int) ≤ (c : Int) ∧ (c : Int) < 300 := by omega
  have qv : (0 : Int) ≤ (v : Int) ∧ (v : Int) < 80 := by omega
  have yd : idiv (S.2 72 2) 360 = yr (S.2 72 2) := rfl
  -- behind what it has
  have k101 : ∀ t : Int, ∃ U, LQ (WK L xs) (ev (WK L xs) (d + 7)) 262 101 [some (vr 72), some (vi (c : Int)), some (vi (v : Int)), none, none] [vl t] S = some (if t < S.2 111 c then 3 else if ceL S.2 c v (yr (S.2 72 2)) (S.2 72 40).toNat 0 = true then 4 else btR S.2 c v (lft S.2 v (yr (S.2 72 2))), U) ∧ Wf S U := by
    intro t
    have hce := m_ceL (L := L) (xs := xs) (d := d + 2) gk gv gp (v := v) hc (S.2 72 40).toNat 0 (by first | decide | omega)
    have h263 : ev (WK L xs) (d + 7) 263 [vr 72, vi (c : Int), vi (v : Int)] S = _ := (q_263 L xs (d + 6) S (c : Int) (v : Int)).trans hce
    rw [q_262_101, if_pos qc, Int.toNat_natCast]
    simp only [lc_lt]
    by_cases c1 : t < S.2 111 c
    · rw [if_pos c1, if_pos c1]
      exact ⟨S, rfl, Wf.rf⟩
    rw [if_neg c1, if_neg c1, h263, bR]
    by_cases c2 : ceL S.2 c v (yr (S.2 72 2)) (S.2 72 40).toNat 0 = true
    · rw [if_pos c2, if_pos c2, if_pos rfl]
      exact ⟨S, rfl, Wf.rf⟩
    rw [if_neg c2, if_neg c2, if_neg (by decide)]
    have w1 : Wf S (wr S 72 75 (c : Int)) := Wf.w72 (by first | decide | omega)
    have H1 := w1.ir H
    have w2 : Wf S (wr (wr S 72 75 (c : Int)) 72 76 (lft S.2 v (yr (S.2 72 2)))) := w1.tr (Wf.w72 (by first | decide | omega))
    have H2 := w2.ir H
    have hl := m_leftOf (L := L) (xs := xs) (d := d + 3) H1.rk H1.rv H1.rp (v := v) (by rw [w1.2.2 40 (by decide) (by decide)]; exact hv) (yr (S.2 72 2))
    rw [w1.wh.lf] at hl
    obtain ⟨U, u1, u2⟩ := m_bars (L := L) (xs := xs) (d := d + 1) H2 (c := c) (v := v) (by rw [w2.2.2 52 (by decide) (by decide)]; exact hc) (by rw [w2.2.2 40 (by decide) (by decide)]; exact hv) (by rw [wr_f, if_neg (by decide), wr_f, if_pos rfl])
    rw [wr_f, if_pos rfl, w2.wh.bt] at u1
    refine ⟨U, ?_, w2.tr u2⟩
    rw [m_year, bR, w1.2.2 2 (by decide) (by decide), yd, show ev (WK L xs) (d + 7) 246 [vr 72, vi (v : Int), vi (yr (S.2 72 2))] (wr S 72 75 (c : Int)) = _ from hl, bR, show ev (WK L xs) (d + 7) 264 [vr 72, vi (v : Int)] (wr (wr S 72 75 (c : Int)) 72 76 (lft S.2 v (yr (S.2 72 2)))) = _ from u1, bR]
  have k65 : ∃ U, LQ (WK L xs) (ev (WK L xs) (d + 7)) 262 65 [some (vr 72), some (vi (c : Int)), some (vi (v : Int)), none, none] [] S = some (if hasV S.2 c v (yr (S.2 72 2)) < S.2 111 c then 3 else if ceL S.2 c v (yr (S.2 72 2)) (S.2 72 40).toNat 0 = true then 4 else btR S.2 c v (lft S.2 v (yr (S.2 72 2))), U) ∧ Wf S U := by
    unfold hasV
    rw [q_262_65]
    simp only [if_pos qc, Int.toNat_natCast]
    by_cases c1 : S.2 112 c = -1
    · rw [if_pos c1, if_pos c1, m_year, bR, yd, m_leftOf gk gv gp hv, bR]
      exact k101 _
    · rw [if_neg c1, if_neg c1, m_year, bR, yd]
      obtain ⟨k, hkk⟩ := Int.eq_ofNat_of_zero_le (show 0 ≤ S.2 112 c by omega)
      rw [hkk, m_boundBy gk gv (by first | decide | omega), bR, Int.toNat_natCast]
      exact k101 _
  obtain ⟨U, u1, u2⟩ := k65
  have go := q_262 L xs (d + 7) S (c : Int) (v : Int)
  simp only [if_pos qc, if_pos qv, Int.toNat_natCast] at go
  rw [m_isUnder gp _ _ r2.1 r2.2 s2.1, bR, m_year, bR, yd, m_isOf gv hv, bR, u1] at go
  simp only [bi_0] at go
  unfold barV
  by_cases c1 : uN S.2 (S.2 109 c) (S.2 98 v) = true
  rotate_left
  · rw [if_pos c1] at go
    rw [if_pos (Or.inl (nf c1))]
    exact ⟨S, go, Wf.rf⟩
  rw [if_neg (fun z => z c1)] at go
  by_cases c2 : ofY S.2 v (yr (S.2 72 2)) = true
  rotate_left
  · rw [if_pos c2] at go
    rw [if_pos (Or.inr (nf c2))]
    exact ⟨S, go, Wf.rf⟩
  rw [if_neg (fun z => z c2)] at go
  rw [if_neg (fun z => z.elim (fun y => by rw [c1] at y; cases y) (fun y => by rw [c2] at y; cases y))]
  by_cases c3 : S.2 101 v = -1
  rotate_left
  · rw [if_neg c3] at go
    rw [if_pos (Or.inl c3)]
    exact ⟨S, go, Wf.rf⟩
  rw [if_pos c3] at go
  by_cases c4 : S.2 97 v = 4
  · rw [if_pos c4] at go
    by_cases c5 : S.2 102 v = -1
    · rw [if_pos c5] at go
      rw [if_neg (fun z => z.elim (fun y => y c3) (fun y => y.2 c5))]
      exact ⟨U, go, u2⟩
    · rw [if_neg c5] at go
      rw [if_pos (Or.inr ⟨c4, c5⟩)]
      exact ⟨S, go, Wf.rf⟩
  · rw [if_neg c4] at go
    rw [if_neg (fun z => z.elim (fun y => y c3) (fun y => c4 y.1))]
    exact ⟨U, go, u2⟩
theorem leV_bd (h : Nat → Nat → Int) (c : Nat) (k : Int) : ∀ (m v : Nat) (w u : Int), 0 ≤ w ∧ w ≤ 8 → leV h c k m v w = .inr u → 0 ≤ u ∧ u ≤ 8 := by
  intro m
  induction m with
  | zero =>
    intro v w u hw e
    have : w = u := Sum.inr.inj e
    omega
  | succ m ih =>
    intro v w u hw e
    unfold leV at e
    have hb := barV_bd h c v
    split at e
    · split at e
      · cases e
      · exact ih _ _ _ (by first | decide | omega) e
    · exact ih _ _ _ hw e
theorem m_letV (H : IR S) {c : Nat} (hc : (c : Int) < S.2 72 52) {k : Nat} (hk : k ≤ 4) (hk1 : k ≠ 1) : ∀ (m v : Nat) (T : AH) (w : Int), v + m = (S.2 72 40).toNat → Wf S T → ∃ U, LQ (WK L xs) (ev (WK L xs) (d + 8)) 261 12 [some (vr 72), some (vi (c : Int)), some (vi w), some (vi (k : Int)), some (vi (v : Int)), none] [] T = (match leV S.2 c k m v w with
    | .inl a => some (a, U)
    | .inr u => LQ (WK L xs) (ev (WK L xs) (d + 8)) 261 4 [some (vr 72), some (vi (c : Int)), some (vi u), some (vi ((k + 1 : Nat) : Int)), none, none] [] U) ∧ Wf S U := by
  have hn := H.rv.1
  have hkn := H.rk.1
  have hcn := H.rv.2.2.2.1
  obtain ⟨-, -, -, -, r5, -⟩ := H.rk.2.2.2.1 c hc
  have qc : (0 : Int) ≤ (c : Int) ∧ (c : Int) < 300 := by omega
  intro m
  induction m with
  | zero =>
    intro v T w hv hT
    refine ⟨T, ?_, hT⟩
    rw [q_261_12, hT.2.2 40 (by decide) (by decide), if_neg (by first | decide | omega), wj (j := k) (by first | decide | omega)]
    rfl
  | succ m ih =>
    intro v T w hv hT
    have hvl : (v : Int) < S.2 72 40 := by omega
    have qv : (0 : Int) ≤ (v : Int) ∧ (v : Int) < 80 := by omega
    have e1 : w32 ((v : Int) + 1) = ((v + 1 : Nat) : Int) := by
      rw [w32e (by first | decide | omega) (by first | decide | omega)]
      rfl
    have T97 : T.2 97 = S.2 97 := hT.2.1 97 (by decide) (by decide) (by decide) (by decide)
    have T112 : T.2 112 = S.2 112 := hT.2.1 112 (by decide) (by decide) (by decide) (by decide)
    have T124 : T.2 124 = S.2 124 := hT.2.1 124 (by decide) (by decide) (by decide) (by decide)
    have go := q_261_12 L xs (d + 8) T (c : Int) w (k : Int) (v : Int)
    rw [hT.2.2 40 (by decide) (by decide), if_pos hvl, if_pos qv, e1, if_neg (show ¬ (k : Int) = 1 by omega)] at go
    simp only [if_pos qc, Int.toNat_natCast, T97, T112, T124] at go
    have skip : ¬ (S.2 97 v = (k : Int) ∧ (S.2 112 c = -1 ∨ S.2 124 (S.2 112 c).toNat = v)) → LQ (WK L xs) (ev (WK L xs) (d + 8)) 261 12 [some (vr 72), some (vi (c : Int)), some (vi w), some (vi (k : Int)), some (vi (v : Int)), none] [] T = LQ (WK L xs) (ev (WK L xs) (d + 8)) 261 12 [some (vr 72), some (vi (c : Int)), some (vi w), some (vi (k : Int)), some (vi ((v + 1 : Nat) : Int)), none] [] T → ∃ U, LQ (WK L xs) (ev (WK L xs) (d + 8)) 261 12 [some (vr 72), some (vi (c : Int)), some (vi w), some (vi (k : Int)), some (vi (v : Int)), none] [] T = (match leV S.2 c k (m + 1) v w with
        | .inl a => some (a, U)
        | .inr u => LQ (WK L xs) (ev (WK L xs) (d + 8)) 261 4 [some (vr 72), some (vi (c : Int)), some (vi u), some (vi ((k + 1 : Nat) : Int)), none, none] [] U) ∧ Wf S U := by
      intro hN hgo
      have e : leV S.2 c k (m + 1) v w = leV S.2 c k m (v + 1) w := by
        show (if S.2 97 v = (k : Int) ∧ (S.2 112 c = -1 ∨ S.2 124 (S.2 112 c).toNat = v) then _ else _) = _
        rw [if_neg hN]
      rw [e]
      obtain ⟨V, v1, v2⟩ := ih (v + 1) T w (by first | decide | omega) hT
      exact ⟨V, hgo.trans v1, v2⟩
    by_cases c1 : S.2 97 v = (k : Int)
    rotate_left
    · rw [if_neg c1] at go
      exact skip (fun z => c1 z.1) go
    rw [if_pos c1] at go
    have take : LQ (WK L xs) (ev (WK L xs) (d + 8)) 261 12 [some (vr 72), some (vi (c : Int)), some (vi w), some (vi (k : Int)), some (vi (v : Int)), none] [] T = LQ (WK L xs) (ev (WK L xs) (d + 8)) 261 66 [some (vr 72), some (vi (c : Int)), some (vi w), some (vi (k : Int)), some (vi (v : Int)), none] [] T → (S.2 112 c = -1 ∨ S.2 124 (S.2 112 c).toNat = v) → ∃ U, LQ (WK L xs) (ev (WK L xs) (d + 8)) 261 12 [some (vr 72), some (vi (c : Int)), some (vi w), some (vi (k : Int)), some (vi (v : Int)), none] [] T = (match leV S.2 c k (m + 1) v w with
        | .inl a => some (a, U)
        | .inr u => LQ (WK L xs) (ev (WK L xs) (d + 8)) 261 4 [some (vr 72), some (vi (c : Int)), some (vi u), some (vi ((k + 1 : Nat) : Int)), none, none] [] U) ∧ Wf S U := by
      intro hgo hY
      have HT := hT.ir H
      obtain ⟨U, u1, u2⟩ := m_bar (L := L) (xs := xs) (d := d) HT (c := c) (v := v) (by rw [hT.2.2 52 (by decide) (by decide)]; exact hc) (by rw [hT.2.2 40 (by decide) (by decide)]; exact hvl)
      rw [hT.wh.bar] at u1
      have e : leV S.2 c k (m + 1) v w = if barV S.2 c v = 0 then .inl (v : Int) else leV S.2 c k m (v + 1) (max w (barV S.2 c v)) := by
        show (if S.2 97 v = (k : Int) ∧ (S.2 112 c = -1 ∨ S.2 124 (S.2 112 c).toNat = v) then _ else _) = _
        rw [if_pos ⟨c1, hY⟩]
      rw [q_261_66, u1, bR, e1] at hgo
      rw [e]
      by_cases c2 : barV S.2 c v = 0
      · rw [if_pos c2] at hgo
        rw [if_pos c2]
        exact ⟨U, hgo, hT.tr u2⟩
      rw [if_neg c2] at hgo
      rw [if_neg c2]
      by_cases c3 : w < barV S.2 c v
      · rw [if_pos c3] at hgo
        obtain ⟨V, v1, v2⟩ := ih (v + 1) U (barV S.2 c v) (by first | decide | omega) (hT.tr u2)
        rw [show max w (barV S.2 c v) = barV S.2 c v by omega]
        exact ⟨V, hgo.trans v1, v2⟩
      · rw [if_neg c3] at hgo
        obtain ⟨V, v1, v2⟩ := ih (v + 1) U w (by first | decide | omega) (hT.tr u2)
        rw [show max w (barV S.2 c v) = w by omega]
        exact ⟨V, hgo.trans v1, v2⟩
    by_cases c2 : S.2 112 c = -1
    · rw [if_pos c2] at go
      exact take go (Or.inl c2)
    rw [if_neg c2, if_pos (show 0 ≤ S.2 112 c ∧ S.2 112 c < 20 by omega)] at go
    by_cases c3 : S.2 124 (S.2 112 c).toNat = v
    · rw [if_pos c3] at go
      exact take go (Or.inr c3)
    · rw [if_neg c3] at go
      exact skip (fun z => z.2.elim c2 c3) go
theorem m_let1 (H : IR S) {c : Nat} : ∀ (m v : Nat) (T : AH) (w : Int), v + m = (S.2 72 40).toNat → Wf S T → LQ (WK L xs) (ev (WK L xs) d) 261 12 [some (vr 72), some (vi (c : Int)), some (vi w), some (vi 1), some (vi (v : Int)), none] [] T = LQ (WK L xs) (ev (WK L xs) d) 261 4 [some (vr 72), some (vi (c : Int)), some (vi w), some (vi 2), none, none] [] T := by
  have hn := H.rv.1
  intro m
  induction m with
  | zero =>
    intro v T w hv hT
    rw [q_261_12, hT.2.2 40 (by decide) (by decide), if_neg (by first | decide | omega)]
    rfl
  | succ m ih =>
    intro v T w hv hT
    have e1 : w32 ((v : Int) + 1) = ((v + 1 : Nat) : Int) := by
      rw [w32e (by first | decide | omega) (by first | decide | omega)]
      rfl
    rw [q_261_12, hT.2.2 40 (by decide) (by decide), if_pos (by first | decide | omega), if_pos (by first | decide | omega), if_pos (show (1 : Int) = 1 from rfl), e1, ih (v + 1) T w (by first | decide | omega) hT]
    split <;> rfl
theorem m_lets (H : IR S) {c : Nat} (hc : (c : Int) < S.2 72 52) : ∃ U, ev (WK L xs) (d + 9) 261 [vr 72, vi (c : Int)] S = some (ltV S.2 c, U) ∧ Wf S U := by
  have hn := H.rv.1
  have fin : ∀ (T : AH) (w : Int), (0 ≤ w ∧ w ≤ 8) → LQ (WK L xs) (ev (WK L xs) (d + 8)) 261 4 [some (vr 72), some (vi (c : Int)), some (vi w), some (vi 5), none, none] [] T = some (-10 - w, T) := fun T w hw => by
    rw [q_261_4, if_pos (by decide), w32e (by first | decide | omega) (by first | decide | omega)]
  -- one kind
  have one : ∀ (k : Nat) (r : List Int), k ≤ 4 → k ≠ 1 → (∀ (T : AH) (w : Int), (0 ≤ w ∧ w ≤ 8) → Wf S T → ∃ U, LQ (WK L xs) (ev (WK L xs) (d + 8)) 261 4 [some (vr 72), some (vi (c : Int)), some (vi w), some (vi ((k + 1 : Nat) : Int)), none, none] [] T = some (leK S.2 c r w, U) ∧ Wf S U) → ∀ (T : AH) (w : Int), (0 ≤ w ∧ w ≤ 8) → Wf S T → ∃ U, LQ (WK L xs) (ev (WK L xs) (d + 8)) 261 4 [some (vr 72), some (vi (c : Int)), some (vi w), some (vi (k : Int)), none, none] [] T = some (leK S.2 c ((k : Int) :: r) w, U) ∧ Wf S U := by
    intro k r hk hk1 hr T w hw hT
    have go := q_261_4 L xs (d + 8) T (c : Int) w (k : Int)
    rw [if_neg (by first | decide | omega)] at go
    obtain ⟨U, u1, u2⟩ := m_letV (L := L) (xs := xs) (d := d) H hc hk hk1 (S.2 72 40).toNat 0 T w (by first | decide | omega) hT
    have hb := leV_bd S.2 c (k : Int) (S.2 72 40).toNat 0 w
    show ∃ U, LQ (WK L xs) (ev (WK L xs) (d + 8)) 261 4 [some (vr 72), some (vi (c : Int)), some (vi w), some (vi (k : Int)), none, none] [] T = some ((match leV S.2 c (k : Int) (S.2 72 40).toNat 0 w with
      | .inl v => v
      | .inr u => leK S.2 c r u), U) ∧ Wf S U
    have go2 := go.trans u1
    revert go2 hb
    cases leV S.2 c (k : Int) (S.2 72 40).toNat 0 w with
    | inl a =>
      intro hb go2
      exact ⟨U, go2, u2⟩
    | inr u =>
      intro hb go2
      obtain ⟨V, v1, v2⟩ := hr U u (hb u hw rfl) u2
      exact ⟨V, go2.trans v1, v2⟩
  have s4 := one 4 [] (by decide) (by decide) (fun T w hw hT => ⟨T, fin T w hw, hT⟩)
  have s3 := one 3 [4] (by decide) (by decide) s4
  have s2 := one 2 [3, 4] (by decide) (by decide) s3
  have s1 : ∀ (T : AH) (w : Int), (0 ≤ w ∧ w ≤ 8) → Wf S T → ∃ U, LQ (WK L xs) (ev (WK L xs) (d + 8)) 261 4 [some (vr 72), some (vi (c : Int)), some (vi w), some (vi 1), none, none] [] T = some (leK S.2 c [2, 3, 4] w, U) ∧ Wf S U := by
    intro T w hw hT
    obtain ⟨U, u1, u2⟩ := s2 T w hw hT
    refine ⟨U, ?_, u2⟩
    have h1 := m_let1 (L := L) (xs := xs) (d := d + 8) H (c := c) (S.2 72 40).toNat 0 T w (by first | decide | omega) hT
    rw [q_261_4, if_neg (by decide)]
    exact h1.trans u1
  have s0 := one 0 [2, 3, 4] (by decide) (by decide) s1
  obtain ⟨U, u1, u2⟩ := s0 S 1 (by decide) Wf.rf
  exact ⟨U, (q_261 L xs (d + 8) S (c : Int)).trans u1, u2⟩
end
end
