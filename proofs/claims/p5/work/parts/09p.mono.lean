/-! deeper runs give no other answer -/
noncomputable def Cle (C C' : CT) : Prop := ∀ m as S r, C m as S = some r → C' m as S = some r
theorem bind_C {o o' : Rs} {k : Int → AH → Rs} {r : Int × AH} (ho : ∀ r, o = some r → o' = some r) (h : bindR o k = some r) : bindR o' k = some r := by
  obtain ⟨v, S', h1, h2⟩ := bind_some h
  rw [ho _ h1]
  exact h2
theorem gd_mk {b : Bool} {o : Rs} {r : Int × AH} (hb : b = true) (h : o = some r) : gd b o = some r := by
  rw [hb]
  exact h
set_option maxHeartbeats 4000000 in
theorem ctl_C {w : WC} {C C' : CT} (hC : Cle C C') {cs0 : List CE} {rt pc : Nat} {i : Instr} {x : XI} {cs : List CE} {ls : LV} {st : List TV} {S : AH} {rec : RT} {r : Int × AH} (h : ctl w C cs0 rt pc i x cs ls st S rec = some r) : ctl w C' cs0 rt pc i x cs ls st S rec = some r := by
  unfold ctl at h ⊢
  cases i
  all_goals try exact h
  case invokestatic =>
    dsimp only at h ⊢
    cases hx : Nat.ble 9990 x.1 with
    | true =>
      rw [hx] at h
      exact h
    | false =>
      rw [hx] at h
      dsimp only at h ⊢
      cases hq : takeA x.2.1 st [] with
      | none => rw [hq] at h; cases h
      | some q =>
        obtain ⟨as, rr⟩ := q
        rw [hq] at h
        dsimp only at h ⊢
        obtain ⟨hb, h⟩ := gd_some h
        exact gd_mk hb (bind_C (fun r q => hC _ _ _ r q) h)
  case invokevirtual =>
    dsimp only at h ⊢
    cases hx : Nat.beq x.1 mClone with
    | true =>
      rw [hx] at h
      exact h
    | false =>
      rw [hx] at h
      dsimp only at h ⊢
      cases hq : takeA x.2.1 st [] with
      | none => rw [hq] at h; cases h
      | some q =>
        obtain ⟨as, rr⟩ := q
        rw [hq] at h
        match as, h with
        | .inr (.inr b) :: as, h =>
          dsimp only at h ⊢
          obtain ⟨hb, h⟩ := gd_some h
          exact gd_mk hb (bind_C (fun r q => hC _ _ _ r q) h)
        | [], h => cases h
        | .inl _ :: _, h => cases h
        | .inr (.inl _) :: _, h => cases h
  case invokespecial =>
    dsimp only at h ⊢
    cases hx : Nat.beq x.1 mObj with
    | true =>
      rw [hx] at h
      exact h
    | false =>
      rw [hx] at h
      dsimp only at h ⊢
      cases hq : takeA x.2.1 st [] with
      | none => rw [hq] at h; cases h
      | some q =>
        obtain ⟨as, rr⟩ := q
        rw [hq] at h
        match as, h with
        | .inr (.inr b) :: as, h =>
          dsimp only at h ⊢
          obtain ⟨hb, h⟩ := gd_some h
          exact gd_mk hb (bind_C (fun r q => hC _ _ _ r q) h)
        | [], h => cases h
        | .inl _ :: _, h => cases h
        | .inr (.inl _) :: _, h => cases h
theorem go_C {w : WC} {C C' : CT} (hC : Cle C C') {cs0 : List CE} {rt : Nat} {K : KP} : ∀ (n : Nat) (first : Bool) (cs : List CE) (ls : LV) (st : List TV) (S : AH) (r : Int × AH), go w C K cs0 rt n first cs ls st S = some r → go w C' K cs0 rt n first cs ls st S = some r := by
  intro n
  induction n with
  | zero => intro first cs ls st S r h; cases h
  | succ n ih =>
    intro first cs ls st S r h
    match cs, h with
    | [], h => cases h
    | (pc, ck, i, x) :: cs, h =>
      unfold go at h ⊢
      dsimp only at h ⊢
      cases hc : (Nat.blt 0 ck && !first) with
      | true =>
        rw [hc] at h
        exact h
      | false =>
        rw [hc] at h
        dsimp only at h ⊢
        refine ctl_C hC ?_
        rcases lin_ctl _ _ h with h1 | ⟨z, a, b, c, h1, h2⟩
        · exact h1 _
        · exact h2 _ (ih false z a b c r h1)
theorem lpn_C {w : WC} {C C' : CT} (hC : Cle C C') {m : Nat} : ∀ (n : Nat) (pc : Nat) (ls : LV) (st : List TV) (S : AH) (r : Int × AH), lpn w C m n pc ls st S = some r → lpn w C' m n pc ls st S = some r := by
  intro n
  induction n with
  | zero => intro pc ls st S r h; cases h
  | succ n ih =>
    intro pc ls st S r h
    have h : go w C (lpn w C m n) (csOf m) (rtOf m) 4000 true (cde (csOf m) pc) ls st S = some r := h
    show go w C' (lpn w C' m n) (csOf m) (rtOf m) 4000 true (cde (csOf m) pc) ls st S = some r
    exact go_mono (fun pc a b c q => ih pc a b c r q) (go_C hC _ _ _ _ _ _ _ h)
theorem LQ_C {w : WC} {C C' : CT} (hC : Cle C C') {m pc : Nat} {ls : LV} {st : List TV} {S : AH} {r : Int × AH} (h : LQ w C m pc ls st S = some r) : LQ w C' m pc ls st S = some r := by
  obtain ⟨n, h⟩ := LQ_iff.mp h
  exact LQ_iff.mpr ⟨n, lpn_C hC _ _ _ _ _ _ h⟩
theorem ev_up {w : WC} : ∀ d, Cle (ev w d) (ev w (d + 1)) := by
  intro d
  induction d with
  | zero => intro m as S r h; cases h
  | succ d ih =>
    intro m as S r h
    obtain ⟨hb, h⟩ := gd_some h
    exact gd_mk hb (LQ_C ih h)
theorem ev_le {w : WC} {d d' : Nat} (hd : d ≤ d') : Cle (ev w d) (ev w d') := by
  induction hd with
  | refl => exact fun m as S r h => h
  | step _ ih => exact fun m as S r h => ev_up _ m as S r (ih m as S r h)
theorem LQ_le {w : WC} {d d' m pc : Nat} (hd : d ≤ d') {ls : LV} {st : List TV} {S : AH} {r : Int × AH} (h : LQ w (ev w d) m pc ls st S = some r) : LQ w (ev w d') m pc ls st S = some r := LQ_C (ev_le hd) h
/-- runs of few cuts, to be reckoned -/
noncomputable def evc (w : WC) : Nat → CT
  | 0 => fun _ _ _ => none
  | d + 1 => fun m as S => gd (Nat.ble (spr as).length (mlOf m)) (lpn w (evc w d) m 4 0 (ent (mlOf m) as) [] S)
theorem evc_ev {w : WC} : ∀ d, Cle (evc w d) (ev w d) := by
  intro d
  induction d with
  | zero => intro m as S r h; cases h
  | succ d ih =>
    intro m as S r h
    obtain ⟨hb, h⟩ := gd_some h
    exact gd_mk hb (LQ_iff.mpr ⟨4, lpn_C ih _ _ _ _ _ _ h⟩)
