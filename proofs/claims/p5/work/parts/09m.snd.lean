/-! the whole of a method's run -/
noncomputable def rst (rt : Nat) (v : Int) : List TV := match rt with
  | 9 => []
  | t => [mkv t v]
noncomputable def CTok (l : Launch) (G : GE) (w : WC) (d : Nat) (C : CT) : Prop := (∀ m' as S v S', 1 ≤ m' → m' < 338 → C m' as S = some (v, S') → MTok l G w d m' as S v S') ∧ ∀ m' as S, 338 ≤ m' → C m' as S = none
section SND
variable {p : Program} {l : Launch} {e : Env} {R : Room} {s : State} {m : MethodId} {args : Array Value} {below : List Frame} {meth : Method} {c : Code} {G : GE} {w : WC} {mi : Nat} {Q : State → Prop} {n0 s0 : Nat} {SF : AH} {F : Int × AH} {pc len : Nat} {ls : LV} {st : List TV} {S : AH} {k : KT}
theorem ok_app {a b : List TV} (h : ∀ u ∈ a ++ b, okv u) : (∀ u ∈ a, okv u) ∧ ∀ u ∈ b, okv u := ⟨fun u hu => h u (List.mem_append_left _ hu), fun u hu => h u (List.mem_append_right _ hu)⟩
theorem s_obj (hc : CX G p s m meth c mi) (hw : OKW G w) (hroom : 1 ≤ R.frames ∧ 64 ≤ R.locals) {q b : Nat} {r : List TV} (hd : decode (byo mi) pc = .ok (.invokespecial q, 3)) (he : (obl.any fun e => mtc e.1 e.2.1 (ow mi) q) = true) (hown : ow mi < 13) (hb : (shp w S b).1 = 10 + ow mi) (hcat : cats r ≤ 8) (h1 : PP p l e R s m args below meth c G w mi Q n0 s0 SF (pc + 3) ls r S) : PP p l e R s m args below meth c G w mi Q n0 s0 SF pc ls (vr b :: r) S := by
  have hE := hc.2.2.2.2.2.1
  obtain ⟨en, hen, hm⟩ := List.any_eq_true.mp he
  obtain ⟨m1, m2⟩ := mtc_eq hm
  have hl := hE.word (List.all_eq_true.mp obl_ok en hen)
  rw [m1, m2] at hl
  refine ⟨h1.1, fun H locs lsC hR hS hL hv hn hs => ?_⟩
  have h15 := obj_ge hw hown hb
  have e : rep G (vr b) = .ref (gad G b) := rf_own h15
  rw [List.map_cons, e]
  refine W.objInit hc.1 hc.2.1 hc.2.2.2.1 (onT rfl hl) (onT rfl (hE.word ob_inst)) (onT rfl (hE.word ob_code)) rfl (by rw [hc.2.2.1]; exact hL.2.1) rfl hd hroom.1 ?_ (h1.2 H locs lsC hR hS hL (ok_cons hv).2 hn hs)
  rw [cat_sum hE.2.2.2.2.2.2.2.1]
  show 2 * 0 + _ + 12 ≤ _
  omega
/-- who is called: its cell -/
theorem recv_cell (hc : CX G p s m meth c mi) (hw : OKW G w) {H : Heap} {locs : List Loc} (hR : Rel G w S H) (hS : va_S (AA G) s.heap H locs) {b m' : Nat} (hb : (shp w S b).1 = 10 + ow m') (ho : ow m' ≤ 13) : rf G b = .ref (gad G b) ∧ ∃ cellB : Cell, H[gad G b]? = some cellB ∧ cellB.vm.isStatics = false ∧ s.vm.findClass (ynm m').cls = some cellB.cls := by
  have hE := hc.2.2.2.2.2.1
  rcases Nat.lt_or_ge (ow m') 13 with h13 | h13
  · obtain ⟨a15, ⟨cell, q1, q2, q3, q4⟩, hok⟩ := obj_at hw hR h13 hb
    refine ⟨rf_own a15, cell, q1, by rw [q3]; rfl, ?_⟩
    rw [q2]
    exact (hE.2.1 _ h13).2.1
  · have e13 : ow m' = 13 := by omega
    rw [e13] at hb
    obtain ⟨j, hj, rfl⟩ := str_at hw hR hb
    obtain ⟨-, ⟨cell, g1, g2, g3, g4⟩, -⟩ := hE.2.2.2.2.2.1 j hj
    have ead : gad G (4 + j) = gE G (4 + j) := by unfold gad; rw [if_pos (by first | decide | omega)]
    refine ⟨rf_ref (by first | decide | omega) (by first | decide | omega), cell, ?_, g2, ?_⟩
    · rw [ead, hS.2.1 _ (Array.getElem?_eq_some_iff.mp g1).1 g4]
      exact g1
    · show s.vm.findClass (cnm (ow m')) = _
      rw [e13]
      exact g3
/-- behind a call -/
theorem s_behind {d m' : Nat} {as r : List TV} {v : Int} {S' : AH} {code : Nat} (hcode : (code : Int) = rcc m') (hM : MTok l G w d m' as S v S') (h1 : PP p l e R s m args below meth c G w mi Q n0 s0 SF (pc + 3) ls (psh code v r) S') {H : Heap} {locs : List Loc} {lsC : Array Slot} {st0 : List Value} {az : Array Value} (hS : va_S (AA G) s.heap H locs) (hL : LR G ls lsC (mlOf mi)) (hv : ∀ u ∈ r, okv u) (hn : n0 ≤ S.1.1) (hs : s0 ≤ S.1.2.1)
    (hrun : va_Run p l e R s m args below meth c H locs (S.1.1 - n0) (S.1.2.1 - s0) (S'.1.1 - S.1.1) (S'.1.2.1 - S.1.2.1) (F0 m pc lsC st0) (r.map (rep G)) (QCc G w S' (rtOf m') v az) (AA G)) : W p l e R s m args below meth c H locs (S.1.1 - n0) (S.1.2.1 - s0) Q (F0 m pc lsC st0) := by
  obtain ⟨l1, l2⟩ := hM.1
  refine call_end hrun hS (fun hok H' locs' hR' hS' => ?_)
  obtain ⟨p1, p2⟩ := psh_rep (G := G) (rt := rtOf m') (code := code) (v := v) (r := r) hcode hok
  have := h1.2 H' locs' lsC hR' hS' hL (p2 hv) (by first | decide | omega) (by first | decide | omega)
  rw [p1] at this
  refine W.cs ?_ ?_ this
  · omega
  · omega
set_option maxHeartbeats 4000000 in
theorem ctl_sound (hc : CX G p s m meth c mi) (hw : OKW G w) (hrm : SF.1.1 - n0 ≤ R.cells ∧ SF.1.2.1 - s0 ≤ R.slots) {d : Nat} {C : CT} (hC : CTok l G w d C) (hfr : d + 1 ≤ R.frames ∧ 64 * (d + 1) ≤ R.locals) {i : Instr} {x : XI} {cs cs0 : List CE} {rec : RT} (hd : decode (byo mi) pc = .ok (i, len)) (hlen : len = lenI i len) (hI : okI (ow mi) (iniM mi) pc i x = true)
    (hend : ∀ (pc : Nat) (ls : LV) (v : Int) (S : AH), F = (v, S) → decode (byo mi) pc = .ok (retI (rtOf mi), 1) → ((∀ u ∈ rst (rtOf mi) v, okv u) → okc (rtOf mi) v) → PP p l e R s m args below meth c G w mi Q n0 s0 SF pc ls (rst (rtOf mi) v) S)
    (h : ctl w C cs0 (rtOf mi) pc i x cs ls st S rec = some F) (hkn : ∀ ls' st' S', rec cs ls' st' S' = some F → PP p l e R s m args below meth c G w mi Q n0 s0 SF (pc + len) ls' st' S') (hkt : ∀ t ls' st' S', rec (cde cs0 t) ls' st' S' = some F → PP p l e R s m args below meth c G w mi Q n0 s0 SF t ls' st' S') : PP p l e R s m args below meth c G w mi Q n0 s0 SF pc ls st S := by
  have hE := hc.2.2.2.2.2.1
  have hG := hE.2.2.2.2.2.2.2.1
  have hroom : 1 ≤ R.frames ∧ 64 ≤ R.locals := by omega
  unfold ctl at h
  split at h
  · rename_i off
    obtain rfl : len = 3 := hlen
    have h0 : 0 ≤ (pc : Int) + off := of_decide_eq_true hI
    have h1 := hkt _ _ _ _ h
    exact ⟨h1.1, fun H locs lsC hR hS hL hv hn hs => lv_goto hc.1 hc.2.1 hd (tgt_eq h0) (h1.2 H locs lsC hR hS hL hv hn hs)⟩
  · rename_i cd off
    obtain rfl : len = 3 := hlen
    have h0 : 0 ≤ (pc : Int) + off := of_decide_eq_true hI
    split at h
    · exact s_if0 hc hd h0 h (fun z => hkt _ _ _ _ z) (fun z => hkn _ _ _ z)
    · cases h
  · rename_i cd off
    obtain rfl : len = 3 := hlen
    have h0 : 0 ≤ (pc : Int) + off := of_decide_eq_true hI
    split at h
    · exact s_ifc hc hd h0 h (fun z => hkt _ _ _ _ z) (fun z => hkn _ _ _ z)
    · cases h
  · rename_i off
    obtain rfl : len = 3 := hlen
    have h0 : 0 ≤ (pc : Int) + off := of_decide_eq_true hI
    split at h
    · exact s_null hc hd h0 h (fun z => hkt _ _ _ _ z) (fun z => hkn _ _ _ z)
    · cases h
  · rename_i off
    obtain rfl : len = 3 := hlen
    have h0 : 0 ≤ (pc : Int) + off := of_decide_eq_true hI
    split at h
    · exact s_nonnull hc hd h0 h (fun z => hkt _ _ _ _ z) (fun z => hkn _ _ _ z)
    · cases h
  · split at h
    · exact s_table hc hd hI h (fun z => hkt _ _ _ _ z) (fun o z => hkt _ _ _ _ z)
    · cases h
  · split at h
    · exact s_lookup hc hd hI h (fun z => hkt _ _ _ _ z) (fun o z => hkt _ _ _ _ z)
    · cases h
  · obtain rfl : len = 1 := hlen
    split at h
    · rename_i a
      obtain ⟨hb, h⟩ := gd_some h
      obtain ⟨h, hck⟩ := ck_some h
      cases h
      have hrt : rtOf mi = 0 ∨ (3 ≤ rtOf mi ∧ rtOf mi ≤ 5) := by
        rw [Bool.or_eq_true, Bool.and_eq_true] at hb
        rcases hb with z | z
        · exact Or.inl (Nat.eq_of_beq_eq_true z)
        · exact Or.inr ⟨Nat.le_of_ble_eq_true z.1, Nat.le_of_ble_eq_true z.2⟩
      have hr : rst (rtOf mi) a = [vi a] ∧ retI (rtOf mi) = .ireturn := by
        rcases (show rtOf mi = 0 ∨ rtOf mi = 3 ∨ rtOf mi = 4 ∨ rtOf mi = 5 by omega) with z | z | z | z <;> rw [z] <;> exact ⟨rfl, rfl⟩
      have := hend pc ls a S rfl (by rw [hr.2]; exact hd) (fun z => hck (by rw [hr.1] at z; exact z (vi a) List.mem_cons_self) (by first | decide | omega) (by first | decide | omega))
      rw [hr.1] at this
      exact this
    · cases h
  · obtain rfl : len = 1 := hlen
    split at h
    · rename_i a
      obtain ⟨hb, h⟩ := gd_some h
      have hb := Nat.eq_of_beq_eq_true hb
      cases h
      have := hend pc ls a S rfl (by rw [hb]; exact hd) (fun z => by rw [hb] at z ⊢; exact z (vl a) List.mem_cons_self)
      rw [hb] at this
      exact this
    · cases h
  · obtain rfl : len = 1 := hlen
    split at h
    · rename_i a
      obtain ⟨hb, h⟩ := gd_some h
      have hb := Nat.eq_of_beq_eq_true hb
      cases h
      have := hend pc ls (a : Int) S rfl (by rw [hb]; exact hd) (fun z => by rw [hb]; show (0 : Int) ≤ _; omega)
      rw [hb] at this
      exact this
    · cases h
  · obtain rfl : len = 1 := hlen
    split at h
    · obtain ⟨hb, h⟩ := gd_some h
      have hb := Nat.eq_of_beq_eq_true hb
      cases h
      have := hend pc ls 0 S rfl (by rw [hb]; exact hd) (fun z => by rw [hb]; show r32 0; unfold r32; omega)
      rw [hb] at this
      exact this
    · cases h
  · rename_i q
    obtain rfl : len = 3 := hlen
    unfold okI at hI
    dsimp only at hI
    cases hx : Nat.ble 9990 x.1 with
    | true =>
      rw [hx] at h hI
      dsimp only at h hI
      obtain ⟨hb, h⟩ := gd_some h
      exact s_intr hc hw hrm hroom hd hI (Nat.le_of_ble_eq_true hb) h (fun r S' z => hkn _ _ _ z)
    | false =>
      rw [hx] at h hI
      dsimp only at h hI
      split at h
      · rename_i as r hta
        obtain ⟨hb, h⟩ := gd_some h
        have hb := Nat.le_of_ble_eq_true hb
        obtain ⟨v, S', hcl, h⟩ := bind_some h
        rw [Bool.or_eq_true] at hI
        rcases hI with hI | hI
        · have := hC.2 x.1 as S (Nat.le_trans (by decide) (Nat.le_of_ble_eq_true hI))
          rw [this] at hcl
          cases hcl
        · simp only [Bool.and_eq_true, decide_eq_true_eq] at hI
          obtain ⟨⟨⟨⟨⟨i1, i2⟩, i3⟩, i4⟩, i5⟩, i6⟩ := hI
          have i2 := Nat.eq_of_beq_eq_true i2
          have i3 := Nat.eq_of_beq_eq_true i3
          have i4 := Nat.le_of_ble_eq_true i4
          have i5 := Nat.blt_eq.mp i5
          have hM := hC.1 _ _ _ _ _ i4 i5 hcl
          have h1 := hkn _ _ _ h
          have hcode : ((x.2.2.1.toNat : Nat) : Int) = rcc x.1 := by
            rw [i6]
            unfold rcc
            split <;> rfl
          refine ⟨hM.1.tr h1.1, fun H locs lsC hR hS hL hv hn hs => ?_⟩
          obtain ⟨la, g1, g2, g3⟩ := takeA_spec _ _ _ _ _ hta
          rw [List.append_nil] at g3
          subst g2
          subst g3
          obtain ⟨hv1, hv2⟩ := ok_app hv
          have hle1 := hM.1
          have hle2 := h1.1
          unfold LE2 at hle1 hle2
          refine s_behind hcode hM h1 hS hL hv2 hn hs (az := (la.reverse.map (rep G)).toArray) ?_
          have hrun := (run_call (below := below) (e := e) (R := R) (pc := pc) (rest := r.map (rep G)) (lsC := lsC) (cells := S.1.1 - n0) (slots := S.1.2.1 - s0) hc i4 i5 hM (fun u hu => hv1 u (List.mem_reverse.mp hu)) hfr (mk_link (args := args) hE i1) hR hS hL.2.1 (by rw [cat_sum hG]; exact hb) (by first | decide | omega)).1 i2 (by rw [List.length_reverse, g1]; exact i3) hd
          rw [List.map_reverse, List.reverse_reverse, ← List.map_append] at hrun
          rw [List.map_reverse]
          exact hrun
      · cases h
  · rename_i q
    obtain rfl : len = 3 := hlen
    unfold okI at hI
    dsimp only at hI
    cases hx : Nat.beq x.1 mClone with
    | true =>
      have hx2 : Nat.beq x.1 9998 = true := hx
      rw [hx] at h
      rw [hx2] at hI
      dsimp only at h hI
      split at h
      · rename_i a r
        obtain ⟨hb, h⟩ := gd_some h
        simp only [Bool.and_eq_true, Bool.or_eq_true] at hb
        obtain ⟨⟨⟨b1, b2⟩, b3⟩, b4⟩ := hb
        exact s_clone hc hw hrm hroom hd hI (Nat.eq_of_beq_eq_true b1) (b2.elim (fun z => Or.inl (Nat.eq_of_beq_eq_true z)) (fun z => Or.inr (Nat.eq_of_beq_eq_true z))) (Nat.le_of_ble_eq_true b4) (Nat.le_of_ble_eq_true b3) (hkn _ _ _ h)
      · cases h
    | false =>
      have hx2 : Nat.beq x.1 9998 = false := hx
      rw [hx] at h
      rw [hx2] at hI
      dsimp only at h hI
      split at h
      · rename_i b bs r hta
        obtain ⟨hb, h⟩ := gd_some h
        rw [Bool.and_eq_true] at hb
        have hb1 := Nat.eq_of_beq_eq_true hb.1
        have hb2 := Nat.le_of_ble_eq_true hb.2
        obtain ⟨v, S', hcl, h⟩ := bind_some h
        rw [Bool.or_eq_true] at hI
        rcases hI with hI | hI
        · have := hC.2 x.1 (vr b :: bs) S (Nat.le_trans (by decide) (Nat.le_of_ble_eq_true hI))
          rw [this] at hcl
          cases hcl
        · simp only [Bool.and_eq_true, decide_eq_true_eq] at hI
          obtain ⟨⟨⟨⟨⟨⟨⟨i1, i2⟩, i3⟩, i4⟩, i5⟩, i6⟩, i7⟩, i8⟩ := hI
          have i2 := Nat.eq_of_beq_eq_true i2
          have i3 := Nat.eq_of_beq_eq_true i3
          have i4 := Nat.le_of_ble_eq_true i4
          have i5 := Nat.blt_eq.mp i5
          have i7 := Nat.eq_of_beq_eq_true i7
          have i8 := Nat.le_of_ble_eq_true i8
          have hM := hC.1 _ _ _ _ _ i4 i5 hcl
          have h1 := hkn _ _ _ h
          have hcode : ((x.2.2.1.toNat : Nat) : Int) = rcc x.1 := by
            rw [i6]
            unfold rcc
            split <;> rfl
          refine ⟨hM.1.tr h1.1, fun H locs lsC hR hS hL hv hn hs => ?_⟩
          obtain ⟨la, g1, g2, g3⟩ := takeA_spec _ _ _ _ _ hta
          rw [List.append_nil] at g3
          subst g2
          obtain ⟨hv1, hv2⟩ := ok_app hv
          have hla : la = (vr b :: bs).reverse := by rw [g3, List.reverse_reverse]
          have hle1 := hM.1
          have hle2 := h1.1
          unfold LE2 at hle1 hle2
          refine s_behind hcode hM h1 hS hL hv2 hn hs (az := ((vr b :: bs).map (rep G)).toArray) ?_
          obtain ⟨rc1, rc2⟩ := recv_cell hc hw hR hS (m' := x.1) (b := b) (by rw [hb1, i7]) i8
          have hrun := ((run_call (below := below) (e := e) (R := R) (pc := pc) (rest := r.map (rep G)) (lsC := lsC) (cells := S.1.1 - n0) (slots := S.1.2.1 - s0) hc i4 i5 hM (fun u hu => hv1 u (by rw [hla]; exact List.mem_reverse.mpr hu)) hfr (mk_link (args := args) hE i1) hR hS hL.2.1 (by rw [cat_sum hG]; exact hb2) (by first | decide | omega)).2 b bs rfl rc1 rc2 (by
            have := g1
            rw [hla, List.length_reverse, List.length_cons] at this
            omega)).1 i2 hd
          have hst : (la ++ r).map (rep G) = ((vr b :: bs).map (rep G)).reverse ++ r.map (rep G) := by rw [hla, List.map_append, List.map_reverse]
          rw [hst]
          exact hrun
      · cases h
  · rename_i q
    obtain rfl : len = 3 := hlen
    unfold okI at hI
    dsimp only at hI
    cases hx : Nat.beq x.1 mObj with
    | true =>
      have hx2 : Nat.beq x.1 9999 = true := hx
      rw [hx] at h
      rw [hx2] at hI
      dsimp only at h hI
      split at h
      · rename_i b r
        obtain ⟨hb, h⟩ := gd_some h
        rw [Bool.and_eq_true] at hb
        simp only [Bool.and_eq_true] at hI
        obtain ⟨⟨i1, i2⟩, i3⟩ := hI
        exact s_obj hc hw hroom hd i1 (Nat.blt_eq.mp i3) ((Nat.eq_of_beq_eq_true hb.1).trans (Nat.eq_of_beq_eq_true i2)) (Nat.le_of_ble_eq_true hb.2) (hkn _ _ _ h)
      · cases h
    | false =>
      have hx2 : Nat.beq x.1 9999 = false := hx
      rw [hx] at h
      rw [hx2] at hI
      dsimp only at h hI
      split at h
      · rename_i b bs r hta
        obtain ⟨hb, h⟩ := gd_some h
        rw [Bool.and_eq_true] at hb
        have hb1 := Nat.eq_of_beq_eq_true hb.1
        have hb2 := Nat.le_of_ble_eq_true hb.2
        obtain ⟨v, S', hcl, h⟩ := bind_some h
        rw [Bool.or_eq_true] at hI
        rcases hI with hI | hI
        · have := hC.2 x.1 (vr b :: bs) S (Nat.le_trans (by decide) (Nat.le_of_ble_eq_true hI))
          rw [this] at hcl
          cases hcl
        · simp only [Bool.and_eq_true] at hI
          obtain ⟨⟨⟨⟨⟨⟨⟨i1, i2⟩, i3⟩, i4⟩, i5⟩, i6⟩, i7⟩, i8⟩ := hI
          have i2 := Nat.eq_of_beq_eq_true i2
          have i3 := Nat.eq_of_beq_eq_true i3
          have i4 := Nat.le_of_ble_eq_true i4
          have i5 := Nat.blt_eq.mp i5
          have i6 := Nat.eq_of_beq_eq_true i6
          have i7 := Nat.eq_of_beq_eq_true i7
          have i8 := Nat.le_of_ble_eq_true i8
          have hM := hC.1 _ _ _ _ _ i4 i5 hcl
          have h1 := hkn _ _ _ h
          refine ⟨hM.1.tr h1.1, fun H locs lsC hR hS hL hv hn hs => ?_⟩
          obtain ⟨la, g1, g2, g3⟩ := takeA_spec _ _ _ _ _ hta
          rw [List.append_nil] at g3
          subst g2
          obtain ⟨hv1, hv2⟩ := ok_app hv
          have hla : la = (vr b :: bs).reverse := by rw [g3, List.reverse_reverse]
          have hle1 := hM.1
          have hle2 := h1.1
          unfold LE2 at hle1 hle2
          refine s_behind (code := 9) (r := r) (v := v) (by unfold rcc; rw [i6]; rfl) hM h1 hS hL hv2 hn hs (az := ((vr b :: bs).map (rep G)).toArray) ?_
          obtain ⟨rc1, rc2⟩ := recv_cell hc hw hR hS (m' := x.1) (b := b) (by rw [hb1, i7]) (by first | decide | omega)
          have hrun := ((run_call (below := below) (e := e) (R := R) (pc := pc) (rest := r.map (rep G)) (lsC := lsC) (cells := S.1.1 - n0) (slots := S.1.2.1 - s0) hc i4 i5 hM (fun u hu => hv1 u (by rw [hla]; exact List.mem_reverse.mpr hu)) hfr (mk_link (args := args) hE i1) hR hS hL.2.1 (by rw [cat_sum hG]; exact hb2) (by first | decide | omega)).2 b bs rfl rc1 rc2 (by
            have := g1
            rw [hla, List.length_reverse, List.length_cons] at this
            omega)).2 i2 i6 hd
          have hst : (la ++ r).map (rep G) = ((vr b :: bs).map (rep G)).reverse ++ r.map (rep G) := by rw [hla, List.map_append, List.map_reverse]
          rw [hst]
          exact hrun
      · cases h
  · exact step_sound hc hw hrm hd hlen hI h (fun ls' st' S' z => hkn _ _ _ z)
theorem PP.msk {b : Nat} (h : PP p l e R s m args below meth c G w mi Q n0 s0 SF pc (mskL b ls) st S) : PP p l e R s m args below meth c G w mi Q n0 s0 SF pc ls st S := ⟨h.1, fun H locs lsC hR hS hL hv hn hs => h.2 H locs lsC hR hS (hL.msk b) hv hn hs⟩
theorem go_sound (hc : CX G p s m meth c mi) (hw : OKW G w) (hrm : SF.1.1 - n0 ≤ R.cells ∧ SF.1.2.1 - s0 ≤ R.slots) {d : Nat} {C : CT} (hC : CTok l G w d C) (hfr : d + 1 ≤ R.frames ∧ 64 * (d + 1) ≤ R.locals)
    (hend : ∀ (pc : Nat) (ls : LV) (v : Int) (S : AH), F = (v, S) → decode (byo mi) pc = .ok (retI (rtOf mi), 1) → ((∀ u ∈ rst (rtOf mi) v, okv u) → okc (rtOf mi) v) → PP p l e R s m args below meth c G w mi Q n0 s0 SF pc ls (rst (rtOf mi) v) S)
    {cs0 : List CE} (hcs0 : okC (byo mi) (ow mi) (iniM mi) cs0 = true) {K : KP} (hK : ∀ pc ls st S, K pc ls st S = some F → PP p l e R s m args below meth c G w mi Q n0 s0 SF pc ls st S) : ∀ (n : Nat) (first : Bool) (cs : List CE) (ls : LV) (st : List TV) (S : AH), okC (byo mi) (ow mi) (iniM mi) cs = true → go w C K cs0 (rtOf mi) n first cs ls st S = some F → ∀ (e1 : CE) (r1 : List CE), cs = e1 :: r1 → PP p l e R s m args below meth c G w mi Q n0 s0 SF e1.1 ls st S := by
  intro n
  induction n with
  | zero => intro first cs ls st S _ h; cases h
  | succ n ih =>
    intro first cs ls st S hok h e1 r hcs
    subst hcs
    obtain ⟨pc, ck, i, x⟩ := e1
    unfold go at h
    dsimp only at h
    cases hq : (Nat.blt 0 ck && !first) with
    | true =>
      rw [hq] at h
      exact PP.msk (hK _ _ _ _ h)
    | false =>
      rw [hq] at h
      dsimp only at h
      obtain ⟨len, hd, hlen, hnx, hI, hr⟩ := okC_inv hok
      refine ctl_sound hc hw hrm hC hfr hd hlen hI hend h (fun ls' st' S' z => ?_) (fun t ls' st' S' z => ?_)
      · match r, z, hnx, hr with
        | [], z, _, _ =>
          cases n <;> cases z
        | e' :: r', z, hnx, hr =>
          have := ih false (e' :: r') ls' st' S' hr z e' r' rfl
          rw [hnx e' r' rfl] at this
          exact this
      · obtain ⟨h1, h2⟩ := cde_spec (t := t) cs0 hcs0
        match hz : cde cs0 t, z, h1, h2 with
        | [], z, _, _ =>
          cases n <;> cases z
        | e' :: r', z, h1, h2 =>
          have := ih false (e' :: r') ls' st' S' h1 z e' r' rfl
          rw [h2 e' r' rfl] at this
          exact this
theorem lpn_sound (hc : CX G p s m meth c mi) (hw : OKW G w) (hrm : SF.1.1 - n0 ≤ R.cells ∧ SF.1.2.1 - s0 ≤ R.slots) {d : Nat} {C : CT} (hC : CTok l G w d C) (hfr : d + 1 ≤ R.frames ∧ 64 * (d + 1) ≤ R.locals)
    (hend : ∀ (pc : Nat) (ls : LV) (v : Int) (S : AH), F = (v, S) → decode (byo mi) pc = .ok (retI (rtOf mi), 1) → ((∀ u ∈ rst (rtOf mi) v, okv u) → okc (rtOf mi) v) → PP p l e R s m args below meth c G w mi Q n0 s0 SF pc ls (rst (rtOf mi) v) S) : ∀ (n : Nat) (pc : Nat) (ls : LV) (st : List TV) (S : AH), lpn w C mi n pc ls st S = some F → PP p l e R s m args below meth c G w mi Q n0 s0 SF pc ls st S := by
  have hok : okC (byo mi) (ow mi) (iniM mi) (csOf mi) = true := om_all hc.2.2.2.2.2.2
  intro n
  induction n with
  | zero => intro pc ls st S h; cases h
  | succ n ih =>
    intro pc ls st S h
    have h : go w C (lpn w C mi n) (csOf mi) (rtOf mi) 4000 true (cde (csOf mi) pc) ls st S = some F := h
    obtain ⟨h1, h2⟩ := cde_spec (t := pc) (csOf mi) hok
    have h3 := go_sound hc hw hrm hC hfr hend hok (K := lpn w C mi n) ih 4000 true (cde (csOf mi) pc) ls st S h1 h
    match hz : cde (csOf mi) pc, h with
    | [], h => cases h
    | e' :: r', h =>
      have := h3 e' r' hz
      rw [h2 e' r' hz] at this
      exact this
end SND
