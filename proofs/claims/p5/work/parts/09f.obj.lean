/-! fields, new cells -/
theorem mtc_eq {a b c d : Nat} (h : mtc a b c d = true) : a = c ∧ b = d := by
  unfold mtc at h
  rw [Bool.and_eq_true] at h
  exact ⟨Nat.eq_of_beq_eq_true h.1, Nat.eq_of_beq_eq_true h.2⟩
theorem store_ok {G : GE} (hG : gVok G) {ty : FieldType} {x : Int} (h5 : fk ty < 5) (hx : okc (fk ty) x) : narrow ty (rep G (mkv (fk ty) x)) = rep G (mkv (fk ty) x) ∧ fits ty (rep G (mkv (fk ty) x)) = true := by
  cases ty with
  | int => exact ⟨rfl, rfl⟩
  | long => exact ⟨rfl, rfl⟩
  | byte =>
    have hx : -128 ≤ x ∧ x ≤ 127 := hx
    have hr : r32 x := by unfold r32; omega
    have hw : w8 x = x := by
      unfold w8 Int.bmod
      dsimp only
      split <;> omega
    refine ⟨?_, ?_⟩
    · show narrow .byte (.int (Int32.ofInt x)) = .int (Int32.ofInt x)
      rw [narrow_byte, ofi_i2b hr, hw]
    · show (decide (-128 ≤ Int32.ofInt x) && decide (Int32.ofInt x ≤ 127)) = true
      have h1 : (-128 : Int32) ≤ Int32.ofInt x := (le32 (x := -128) (by unfold r32; omega) hr).mpr hx.1
      have h2 : Int32.ofInt x ≤ (127 : Int32) := (le32 (y := 127) hr (by unfold r32; omega)).mpr hx.2
      rw [decide_eq_true h1, decide_eq_true h2]
      rfl
  | boolean =>
    have hx : x = 0 ∨ x = 1 := hx
    rcases hx with rfl | rfl
    · exact ⟨narrow_b0, rfl⟩
    · exact ⟨narrow_b1, rfl⟩
  | object n =>
    have h : rep G (mkv (fk (.object n)) x) = rf G x.toNat := rfl
    rw [h]
    rcases rf_cases hG x.toNat with q | ⟨t, q⟩ <;> rw [q] <;> exact ⟨rfl, rfl⟩
  | array n =>
    have h : rep G (mkv (fk (.array n)) x) = rf G x.toNat := rfl
    rw [h]
    rcases rf_cases hG x.toNat with q | ⟨t, q⟩ <;> rw [q] <;> exact ⟨rfl, rfl⟩
  | char => simp [fk] at h5
  | _ => simp [fk] at h5
theorem fkl_link {G : GE} {s : State} {H : Heap} (hE : EN G s H) {args : Array Value} {e : Nat × Nat × Nat × Nat × Nat × Bool} (he : e ∈ fkl) : (e.2.2.2.2.2 = false → (Cond.fieldLink (cnm e.1) e.2.1 (cnm e.2.2.1) (TT e.2.2.1 e.2.2.2.1).2.1 (TT e.2.2.1 e.2.2.2.1).2.2.1).before args s = true) ∧ (e.2.2.2.2.2 = true → (Cond.fieldLinkNest (cnm e.1) e.2.1 (cnm e.2.2.1) (TT e.2.2.1 e.2.2.2.1).2.1 (TT e.2.2.1 e.2.2.2.1).2.2.1 "SupplyBook").before args s = true) := by
  have h := List.all_eq_true.mp fkl_ok e he
  refine ⟨fun q => ?_, fun q => ?_⟩
  · rw [q] at h
    exact onT rfl (hE.word h)
  · rw [q] at h
    exact onT rfl (hE.word h)
noncomputable def inl13 : List (Nat × Nat) := [(1024, 1001), (4028, 1021), (4225, 1022), (1196, 1008), (1238, 1009), (1136, 1006), (2076, 1011), (1032, 1002), (1062, 1003), (1119, 1005), (1161, 1007), (2034, 1010), (7036, 1012)]
theorem inst_all : ((List.range 13).all fun ci => wok1 (inl13.getD ci (0, 0)).1 (.instantiable (cnm ci) (NN ci)) && wok1 (inl13.getD ci (0, 0)).2 (.initialized (cnm ci))) = true := by decide +kernel
theorem inst_ok {ci : Nat} (h : ci < 13) : wok1 (inl13.getD ci (0, 0)).1 (.instantiable (cnm ci) (NN ci)) = true ∧ wok1 (inl13.getD ci (0, 0)).2 (.initialized (cnm ci)) = true := by
  have q := List.all_eq_true.mp inst_all ci (List.mem_range.mpr h)
  rw [Bool.and_eq_true] at q
  exact q
section SND
variable {p : Program} {l : Launch} {e : Env} {R : Room} {s : State} {m : MethodId} {args : Array Value} {below : List Frame} {meth : Method} {c : Code} {G : GE} {w : WC} {mi : Nat} {Q : State → Prop} {n0 s0 : Nat} {SF : AH} {F : Int × AH} {pc len : Nat} {ls : LV} {st : List TV} {S : AH} {k : KT}
theorem s_getF (hc : CX G p s m meth c mi) (hw : OKW G w) {q : Nat} {x : XI} (hd : decode (byo mi) pc = .ok (.getfield q, 3)) (hI : okI (ow mi) (iniM mi) pc (.getfield q) x = true) (h : getF w x ls st S k = some F) (hk : ∀ ls' st' S', k ls' st' S' = some F → PP p l e R s m args below meth c G w mi Q n0 s0 SF (pc + 3) ls' st' S') : PP p l e R s m args below meth c G w mi Q n0 s0 SF pc ls st S := by
  have hE := hc.2.2.2.2.2.1
  unfold getF at h
  split at h
  · rename_i a r
    obtain ⟨hb, h⟩ := gd_some h
    have hb := Nat.eq_of_beq_eq_true hb
    have h1 := hk _ _ _ h
    unfold okI at hI
    dsimp only at hI
    refine ⟨h1.1, fun H locs lsC hR hS hL hva hn hs => ?_⟩
    have hv : ∀ v ∈ r, okv v := (ok_cons hva).2
    clear hva
    show W p l e R s m args below meth c _ _ _ _ _ (F0 m pc lsC (rf G a :: r.map (rep G)))
    cases h13 : Nat.beq x.1 13 with
    | true =>
      rw [h13] at hI
      dsimp only at hI
      have e13 := Nat.eq_of_beq_eq_true h13
      rw [Bool.and_eq_true] at hI
      obtain ⟨he, hx2⟩ := hI
      obtain ⟨en, hen, hm⟩ := List.any_eq_true.mp he
      rw [Bool.and_eq_true] at hm
      obtain ⟨⟨m1, m2⟩, m3⟩ := And.intro (mtc_eq hm.1) (Nat.eq_of_beq_eq_true hm.2)
      obtain ⟨j, hj, rfl⟩ := str_at hw hR (a := a) (by rw [hb, e13])
      obtain ⟨-, -, g1, g2, -⟩ := hE.2.2.2.2.2.1 j hj
      have hl := hE.word (List.all_eq_true.mp skl_ok en hen)
      have ead : gad G (4 + j) = gE G (4 + j) := by unfold gad; rw [if_pos (by first | decide | omega)]
      rw [rf_ref (by first | decide | omega) (by first | decide | omega), ead]
      have hkk := h1.2 H locs lsC hR hS hL
      rw [m1, m2, m3] at hl
      match hq : x.2.1, hx2 with
      | 0, hx2 =>
        have hx2 := of_decide_eq_true hx2
        rw [hq] at hl hkk
        have hr : rdv w S (4 + j) 0 = ((9 + j : Nat) : Int) := by
          apply rdv_ext hw (by first | decide | omega) (by rw [hb, e13]; decide)
          rcases (show j = 0 ∨ j = 1 ∨ j = 2 ∨ j = 3 ∨ j = 4 by omega) with rfl | rfl | rfl | rfl | rfl <;> rfl
        rw [hx2, hr] at hkk
        refine vk_getf hc.1 hc.2.1 g2 hS hc.2.2.2.1 (onT rfl hl) (fun _ z => z) hd ?_
        have hkk := hkk (cons_ok (v := mkv (Int.toNat 2) ((9 + j : Nat) : Int)) trivial hv) hn hs
        have ev : rep G (mkv (Int.toNat 2) ((9 + j : Nat) : Int)) = .ref (gE G (9 + j)) := by
          show rf G (Int.toNat ((9 + j : Nat) : Int)) = _
          rw [Int.toNat_natCast, rf_ref (by first | decide | omega) (by first | decide | omega)]
          unfold gad
          rw [if_pos (by first | decide | omega)]
        rw [List.map_cons, ev] at hkk
        exact hkk
      | 1, hx2 =>
        have hx2 := of_decide_eq_true hx2
        rw [hq] at hl hkk
        have hr : rdv w S (4 + j) 1 = 0 := by
          apply rdv_ext hw (by first | decide | omega) (by rw [hb, e13]; decide)
          rcases (show j = 0 ∨ j = 1 ∨ j = 2 ∨ j = 3 ∨ j = 4 by omega) with rfl | rfl | rfl | rfl | rfl <;> rfl
        rw [hx2, hr] at hkk
        refine vk_getf hc.1 hc.2.1 g1 hS hc.2.2.2.1 (onT rfl hl) (fun _ z => z) hd ?_
        exact hkk (cons_ok (v := mkv (Int.toNat 3) 0) (by show r32 0; unfold r32; omega) hv) hn hs
      | n + 2, hx2 => cases hx2
    | false =>
      rw [h13] at hI
      dsimp only at hI
      simp only [Bool.and_eq_true, decide_eq_true_eq] at hI
      obtain ⟨⟨⟨he, hcode⟩, hci⟩, hkN⟩ := hI
      have hci := Nat.blt_eq.mp hci
      have hkN := Nat.blt_eq.mp hkN
      obtain ⟨en, hen, hm⟩ := List.any_eq_true.mp he
      rw [Bool.and_eq_true] at hm
      obtain ⟨⟨m1, m2⟩, ⟨m3, m4⟩⟩ := And.intro (mtc_eq hm.1) (mtc_eq hm.2)
      obtain ⟨a15, ⟨cell, q1, q2, q3, q4⟩, hok⟩ := obj_at hw hR hci hb
      obtain ⟨hSl, hfc, kC, hkC, hkind⟩ := hE.2.1 x.1 hci
      obtain ⟨cf, kf, fi, f, hi, hsl⟩ := hSl x.2.1 hkN
      have hst := (u_facts hfc hkC (u_lays (lays_w (args := args) hE hci) (fun w h => h) hkN) hi).1
      have hl := fkl_link (args := args) hE hen
      rw [m1, m2, m3, m4] at hl
      have hkk := h1.2 H locs lsC hR hS hL (cons_ok (okv_mkv (by rw [hcode]; show okc (Int.toNat (fcd x.1 x.2.1 : Int)) _; rw [Int.toNat_natCast]; exact hok _ hkN)) hv) hn hs
      rw [List.map_cons, hcode, Int.toNat_natCast] at hkk
      rw [rf_own a15]
      cases hnest : en.2.2.2.2.2 with
      | false => exact W.getf hc.1 hc.2.1 hc.2.2.2.1 (hl.1 hnest) hi hst q1 (by rw [q3]; exact fun z => by cases z) (by rw [hsl]; exact q4 _ hkN) rfl rfl hd hkk
      | true => exact va_Wgetf hc.1 hc.2.1 hc.2.2.2.1 (hl.2 hnest) hi hst q1 (by rw [q3]; exact fun z => by cases z) (by rw [hsl]; exact q4 _ hkN) rfl rfl hd hkk
  · cases h
/-- a field's store, once the value is known to fit -/
theorem s_put (hc : CX G p s m meth c mi) (hw : OKW G w) {q : Nat} {x : XI} (hd : decode (byo mi) pc = .ok (.putfield q, 3)) (hI : okI (ow mi) (iniM mi) pc (.putfield q) x = true) {a : Nat} {v : Int} {r : List TV} (hb : (shp w S a).1 = 10 + x.1) (hwk : wok w a x.2.1 = true) (hv0 : okc (fcd x.1 x.2.1) v) (h1 : PP p l e R s m args below meth c G w mi Q n0 s0 SF (pc + 3) ls r (wr S a x.2.1 v))
    {H : Heap} {locs : List Loc} {lsC : Array Slot} (hR : Rel G w S H) (hS : va_S (AA G) s.heap H locs) (hL : LR G ls lsC (mlOf mi)) (hv : ∀ v ∈ r, okv v) (hn : n0 ≤ S.1.1) (hs : s0 ≤ S.1.2.1) : W p l e R s m args below meth c H locs (S.1.1 - n0) (S.1.2.1 - s0) Q (F0 m pc lsC (rep G (mkv (fcd x.1 x.2.1) v) :: rf G a :: r.map (rep G))) := by
  have hE := hc.2.2.2.2.2.1
  unfold okI at hI
  simp only [Bool.and_eq_true, decide_eq_true_eq] at hI
  obtain ⟨⟨⟨he, hcode⟩, hci⟩, hkN⟩ := hI
  have hci := Nat.blt_eq.mp hci
  have hkN := Nat.blt_eq.mp hkN
  obtain ⟨en, hen, hm⟩ := List.any_eq_true.mp he
  rw [Bool.and_eq_true, Bool.and_eq_true] at hm
  obtain ⟨⟨hm1, hm2⟩, hm3⟩ := hm
  obtain ⟨m1, m2⟩ := mtc_eq hm1
  obtain ⟨m3, m4⟩ := mtc_eq hm2
  obtain ⟨a15, ⟨cell, q1, q2, q3, q4⟩, hok⟩ := obj_at hw hR hci hb
  obtain ⟨hSl, hfc, kC, hkC, hkind⟩ := hE.2.1 x.1 hci
  obtain ⟨cf, kf, fi, f, hi, hsl⟩ := hSl x.2.1 hkN
  have hlays := lays_w (args := args) hE hci
  have hst := (u_facts hfc hkC (u_lays hlays (fun w h => h) hkN) hi).1
  have hap : ∀ y z, y < NN x.1 → z < NN x.1 → y ≠ z → gS G x.1 y ≠ gS G x.1 z := by
    intro y z hy hz hne
    obtain ⟨_, _, _, fa, hia, ea⟩ := hSl y hy
    obtain ⟨_, _, _, fb, hib, eb⟩ := hSl z hz
    rw [← ea, ← eb]
    refine u_apart (u_lays hlays (fun w h => h) hy) (u_lays hlays (fun w h => h) hz) hia hib ?_
    rw [(State.fieldFound?_type hia (ty_at hci hy)).1, (State.fieldFound?_type hib (ty_at hci hz)).1]
    exact nm_at hci y hy z hz hne
  have hl := fkl_link (args := args) hE hen
  rw [m1, m2, m3, m4] at hl
  have hfk : fcd x.1 x.2.1 = fk (fty x.1 x.2.1) := fc_at hci hkN
  have hso := store_ok (x := v) hE.2.2.2.2.2.2.2.1 (ty := fty x.1 x.2.1) (by rw [← hfk]; exact fc5_at hci hkN) (by rw [← hfk]; exact hv0)
  rw [← hfk] at hso
  rw [rf_own a15]
  have hlt : f.slot < cell.slots.size := by rw [hsl]; exact k2_hasslot (q4 _ hkN)
  have fin : ∀ H' : Heap, H'[gad G a]? = some (cell.setSlot f.slot (rep G (mkv (fcd x.1 x.2.1) v))) → H'.size = H.size → (∀ q, q ≠ gad G a → H'[q]? = H[q]?) → W p l e R s m args below meth c H' (locs ++ [⟨gad G a, f.slot⟩]) (S.1.1 - n0) (S.1.2.1 - s0) Q (F0 m (pc + 3) lsC (r.map (rep G))) := by
    intro H' e1 e2 e3
    rw [hsl] at e1
    exact h1.2 H' _ lsC (Rel.putf hw hR hci hkN hb hwk hv0 e2 e3 ⟨_, e1, q2, q3, t_set q4 hap hkN _⟩) (hS.put e2 e3 (gad_A a15)) hL hv hn hs
  have hlay := hlays _ (u_in_lay hkN)
  unfold u_lay at hlay
  cases hfin : (TT x.1 x.2.1).2.2.2 with
  | false =>
    rw [if_neg (by rw [hfin]; decide)] at hlay
    have h6 := u_store hfc hkC hkind hlay hi (ty_at hci hkN) hso.1 hso.2
    cases hnest : en.2.2.2.2.2 with
    | false => exact W.putK hc.1 hc.2.1 (f := f) ⟨hc.2.2.2.1, hl.1 hnest, ⟨_, _, _, hi⟩, hst⟩ (by rw [q2]; exact h6) q1 q3 hlt rfl rfl hd fin
    | true => exact va_WputK hc.1 hc.2.1 (f := f) hc.2.2.2.1 (hl.2 hnest) hi hst (by rw [q2]; exact h6) q1 q3 hlt rfl rfl hd fin
  | true =>
    rw [if_pos hfin] at hlay
    rw [hfin] at hm3
    simp only [Bool.not_true, Bool.false_or, Bool.and_eq_true, Bool.not_eq_true'] at hm3
    obtain ⟨⟨i1, i2⟩, i3⟩ := hm3
    have i3 := Nat.eq_of_beq_eq_true i3
    have hcf : m.cls = cf := by
      obtain ⟨_, _, c', _, _, _, -, -, hf', -, -, -, hown2, -⟩ := Cond.laysFinal_spec hlay
      have e1 : c' = cf := by have := hi.symm.trans hf'; simp at this; exact this.1.symm
      have ho := hc.2.2.2.1
      rw [i3] at ho
      rw [← e1]; exact Option.some.inj (ho.symm.trans hown2)
    have h6 := u_fits hfc hkC hkind (Or.inr hlay) hi (ty_at hci hkN) hso.1 hso.2
    exact W.putFinK hc.1 hc.2.1 hc.2.2.2.1 (hl.1 i2) hi hst hcf (hc.2.2.2.2.1 i1) (by rw [q2]; exact h6) q1 q3 hlt rfl rfl hd fin
theorem ck_some {cc : Nat} {v : Int} {r : Rs} (h : ckZ cc v r = some F) : r = some F ∧ (r32 v → cc ≠ 1 → cc ≠ 2 → okc cc v) := by
  unfold ckZ at h
  split at h
  · split at h
    · rename_i q; exact ⟨h, fun _ _ _ => q⟩
    · cases h
  · split at h
    · rename_i q; exact ⟨h, fun _ _ _ => q⟩
    · cases h
  · split at h
    · rename_i q; exact ⟨h, fun _ _ _ => q⟩
    · cases h
  · rename_i a1 a2 a3
    refine ⟨h, fun hr b1 b2 => ?_⟩
    unfold okc
    split
    · exact absurd rfl b1
    · exact absurd rfl b2
    · exact absurd rfl a1
    · exact absurd rfl a2
    · exact absurd rfl a3
    · exact hr
theorem s_putF (hc : CX G p s m meth c mi) (hw : OKW G w) {q : Nat} {x : XI} (hd : decode (byo mi) pc = .ok (.putfield q, 3)) (hI : okI (ow mi) (iniM mi) pc (.putfield q) x = true) (h : putF w x ls st S k = some F) (hk : ∀ ls' st' S', k ls' st' S' = some F → PP p l e R s m args below meth c G w mi Q n0 s0 SF (pc + 3) ls' st' S') : PP p l e R s m args below meth c G w mi Q n0 s0 SF pc ls st S := by
  have hcd : x.2.2.1.toNat = fcd x.1 x.2.1 := by
    have hI' := hI
    unfold okI at hI'
    simp only [Bool.and_eq_true, decide_eq_true_eq] at hI'
    rw [hI'.1.1.2, Int.toNat_natCast]
  unfold putF at h
  split at h
  · rename_i v a r hq
    obtain ⟨hb, h⟩ := gd_some h
    rw [Bool.and_eq_true] at hb
    have h1 := hk _ _ _ h
    refine ⟨h1.1, fun H locs lsC hR hS hL hv hn hs => ?_⟩
    obtain ⟨v0, hv⟩ := ok_cons hv
    obtain ⟨-, hv⟩ := ok_cons hv
    have := s_put hc hw hd hI (Nat.eq_of_beq_eq_true hb.1) hb.2 (v := v) (by rw [← hcd, hq]; exact v0) h1 hR hS hL hv hn hs
    rw [← hcd, hq] at this
    exact this
  · rename_i v a r hq
    obtain ⟨hb, h⟩ := gd_some h
    rw [Bool.and_eq_true] at hb
    have h1 := hk _ _ _ h
    refine ⟨h1.1, fun H locs lsC hR hS hL hv hn hs => ?_⟩
    obtain ⟨v0, hv⟩ := ok_cons hv
    obtain ⟨-, hv⟩ := ok_cons hv
    have := s_put hc hw hd hI (Nat.eq_of_beq_eq_true hb.1) hb.2 (v := (v : Int)) (by rw [← hcd, hq]; show (0 : Int) ≤ _; omega) h1 hR hS hL hv hn hs
    rw [← hcd, hq] at this
    exact this
  · rename_i v a r
    obtain ⟨hz, h⟩ := gd_some h
    simp only [Bool.and_eq_true, Bool.not_eq_true'] at hz
    have c1 : x.2.2.1.toNat ≠ 1 := fun q => by rw [q] at hz; cases hz.1
    have c2 : x.2.2.1.toNat ≠ 2 := fun q => by rw [q] at hz; cases hz.2
    obtain ⟨hb, h⟩ := gd_some h
    rw [Bool.and_eq_true] at hb
    obtain ⟨h, hck⟩ := ck_some h
    have h1 := hk _ _ _ h
    refine ⟨h1.1, fun H locs lsC hR hS hL hv hn hs => ?_⟩
    obtain ⟨v0, hv⟩ := ok_cons hv
    obtain ⟨-, hv⟩ := ok_cons hv
    have := s_put hc hw hd hI (Nat.eq_of_beq_eq_true hb.1) hb.2 (v := v) (by rw [← hcd]; exact hck v0 c1 c2) h1 hR hS hL hv hn hs
    rw [← hcd, mkv_i c1 c2] at this
    exact this
  · cases h
theorem s_new (hc : CX G p s m meth c mi) (hw : OKW G w) (hrm : SF.1.1 - n0 ≤ R.cells ∧ SF.1.2.1 - s0 ≤ R.slots) {q : Nat} {x : XI} (hd : decode (byo mi) pc = .ok (.new q, 3)) (hI : okI (ow mi) (iniM mi) pc (.new q) x = true) (h1 : PP p l e R s m args below meth c G w mi Q n0 s0 SF (pc + 3) ls (vr S.1.1 :: st) (nw S (10 + x.1) x.2.1)) : PP p l e R s m args below meth c G w mi Q n0 s0 SF pc ls st S := by
  have hE := hc.2.2.2.2.2.1
  unfold okI at hI
  simp only [Bool.and_eq_true] at hI
  obtain ⟨⟨he, hci⟩, hN⟩ := hI
  have hci := Nat.blt_eq.mp hci
  have hN := Nat.eq_of_beq_eq_true hN
  obtain ⟨en, hen, hm⟩ := List.any_eq_true.mp he
  rw [Bool.and_eq_true] at hm
  obtain ⟨m1, m2⟩ := mtc_eq hm.1
  have m3 := Nat.eq_of_beq_eq_true hm.2
  have hl := hE.word (List.all_eq_true.mp ckl_ok en hen)
  rw [m1, m2, m3] at hl
  have hles : S.1.1 + 1 ≤ SF.1.1 ∧ S.1.2.1 + x.2.1 ≤ SF.1.2.1 := h1.1
  refine ⟨⟨by omega, by omega⟩, fun H locs lsC hR hS hL hv hn hs => ?_⟩
  have hKn := hE.2.1 x.1 hci
  refine W.newc hc.1 hc.2.1 hc.2.2.2.1 (onT rfl hl) (C := cnm x.1) (n := NN x.1) (onT rfl (hE.word (inst_ok hci).1)) (onT rfl (hE.word (inst_ok hci).2)) rfl hd (by first | decide | omega) (by rw [← hN]; omega) (fun cC kC f1 f2 f3 f4 => ?_)
  have hcC : cC = gC G x.1 := Option.some.inj (f1.symm.trans hKn.2.1)
  subst hcC
  have hob := u_born (H := H.push (blank (gC G x.1) kC)) (o := H.size) (fty x.1) (lays_w (args := args) hE hci) (fun w h => h) hKn f2 (by rw [Array.getElem?_push_size]) (fun k hk => ty_at hci hk)
  have hR' := Rel.newO hw hR (n := x.2.1) hci (c := blank (gC G x.1) kC) (hob.to (fun k hk => by rw [dfl_f (G := G) (by rw [← fc_at hci hk]; exact fc5_at hci hk), ← fc_at hci hk]))
  have hS' : va_S (AA G) s.heap (H.push (blank (gC G x.1) kC)) locs := ⟨by rw [Array.size_push]; exact Nat.le_succ_of_le hS.1, fun y h1 h2 => by rw [Array.getElem?_push, if_neg (Nat.ne_of_lt (Nat.lt_of_lt_of_le h1 hS.1))]; exact hS.2.1 y h1 h2, hS.2.2⟩
  have := h1.2 _ _ lsC hR' hS' hL (cons_ok trivial hv) (show n0 ≤ S.1.1 + 1 by omega) (show s0 ≤ S.1.2.1 + x.2.1 by omega)
  rw [List.map_cons] at this
  have e : rep G (vr S.1.1) = .ref H.size := by
    show rf G S.1.1 = _
    rw [rf_own hR.1, gad_new hw hR]
  rw [e] at this
  refine W.cs ?_ ?_ this
  · show S.1.1 - n0 + 1 = S.1.1 + 1 - n0
    omega
  · show S.1.2.1 - s0 + NN x.1 = S.1.2.1 + x.2.1 - s0
    omega
end SND
