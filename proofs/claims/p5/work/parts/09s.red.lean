/-! the claim, reduced to the plain machine -/
theorem lw_ret {p : Program} {l : Launch} {e : Env} {s : State} {m : MethodId} {below : List Frame} {meth : Method} {c : Code} {b : Nat} (hx : p.tables.exec = Jvm.exec) (hb : c.code = code) (hr : meth.sig.returnType = ret) (hlocks : meth.locks = false) {pc : Nat} {H : Heap} {ls : Array Slot} (hdg : decode code pc = .ok (.ireturn, 1)) : W p l e room_1 s m #[Value.ref b] below meth c H [] 600000 7302250 (lw_Z below #[Value.ref b] s) (F0 m pc ls [.int 1]) := by
  intro T hT X
  obtain ⟨fs, hret, hrun, hended, hW, hframe⟩ := X.leave (v := some (.int 1)) (hlocks := hlocks) (fun h => by rw [hr] at h; cases h)
  have hmeth' : T.vm.method? m = some meth := X.method'
  refine ⟨T.setFrames fs, ?_, .returned (some (.int 1)), hrun, hended, rfl, ⟨_, rfl⟩, hW, hframe⟩
  jvm_step X.here [X.here.top, hx, hb, hdg, hmeth', hr, ret, narrow_b1]
  (try refine ⟨rfl, ?_⟩); (try refine ⟨rfl, ?_⟩)
  first | (intro acts; rw [hret _ acts rfl rfl rfl]) | rw [hret _ _ rfl rfl rfl]
  exact Steps.refl _
theorem GN_none : (go w0 (evc w0 4) (fun _ _ _ _ => none) (csOf 0) (rtOf 0) 4000 true (cde (csOf 0) 0) (ent (mlOf 0) [vr 1]) [] S_0).isNone = true := by decide +kernel
theorem K0_inv {pc : Nat} {ls : LV} {st : List TV} {S : AH} {r : Int × AH} (h : K0 pc ls st S = some r) : pc = 18 ∧ ls = [some (vr 1), some (vr 15), some (vr 73), some (vi 0)] ∧ st = [] ∧ r = (0, S) := by
  unfold K0 at h
  split at h
  · rename_i hb
    rw [Bool.and_eq_true, Bool.and_eq_true, decide_eq_true_eq] at hb
    exact ⟨Nat.eq_of_beq_eq_true hb.1.1, hb.1.2, List.isEmpty_iff.mp hb.2, (Option.some.inj h).symm⟩
  · cases h
theorem S1_go (K : KP) : go w0 (evc w0 4) K (csOf 0) (rtOf 0) 4000 true (cde (csOf 0) 0) (ent (mlOf 0) [vr 1]) [] S_0 = K 18 [some (vr 1), some (vr 15), some (vr 73), some (vi 0)] [] S1 := by
  have h0 := G0_some
  obtain ⟨r, hr⟩ := Option.isSome_iff_exists.mp h0
  rcases go_pl (w := w0) (C := evc w0 4) (cs0 := csOf 0) (rt := rtOf 0) 4000 true (cde (csOf 0) 0) (ent (mlOf 0) [vr 1]) [] S_0 with ⟨o, h⟩ | ⟨pc, a, b, c, h⟩
  · have h1 := GN_none
    rw [h] at h1
    have h2 : o = some r := (h K0).symm.trans hr
    rw [h2] at h1
    cases h1
  · have h2 : K0 pc a b c = some r := (h K0).symm.trans hr
    obtain ⟨e1, e2, e3, e4⟩ := K0_inv h2
    have e5 : S1 = c := by
      unfold S1
      rw [hr, e4]
      rfl
    rw [h K, e1, e2, e3, e5]
theorem shl_any (L : Nat) {a : Nat} (h : a ≠ 1) : (shl L).getD a (99, 0) = (shl 0).getD a (99, 0) := by
  match a, h with
  | 0, _ => rfl
  | 1, h => exact absurd rfl h
  | a + 2, _ => rfl
theorem fnl_len2 : fnl.length = 151 := by decide +kernel
theorem xcl_15 : xcl.length = 15 := by decide +kernel
theorem fnl_arr : ((List.range 151).all fun a => Nat.blt a 15 || Nat.ble 7 ((shl 0).getD a (99, 0)).1 || (fnl.getD a []).isEmpty) = true := by decide +kernel
theorem fnl_xcl : ((List.range 15).all fun a => decide (fnl.getD a [] = xcl.getD a []) && (Nat.beq a 1 || decide ((shl 0).getD a (99, 0) = xsh 0 a))) = true := by decide +kernel
theorem xsh_any (L : Nat) {a : Nat} (h : a ≠ 1) : xsh L a = xsh 0 a := by
  match a, h with
  | 0, _ => rfl
  | 1, h => exact absurd rfl h
  | a + 2, _ => rfl
theorem WK_fin {L : Nat} {xs : Nat → Int} {a k : Nat} (h : a ≠ 1) : (WK L xs).2.2 a k = (fnl.getD a []).getD k none := by
  match a, h with
  | 0, _ => rfl
  | 1, h => exact absurd rfl h
  | a + 2, _ => rfl
theorem OKW_WK {G : GE} (hp : ∀ a, 151 ≤ a → gp G a = a) : OKW G (WK (gL G) (fun k => (gX G k).toInt)) := by
  refine ⟨by show 15 ≤ 151; decide, fun a ha => Or.inl ?_, fun a k ha => ?_, fun a k h1 h2 h3 => ?_, fun a h => hp a h⟩
  · by_cases h1 : a = 1
    · subst h1
      exact ⟨rfl, fun k => rfl⟩
    · have h := List.all_eq_true.mp fnl_xcl a (List.mem_range.mpr ha)
      rw [Bool.and_eq_true, Bool.or_eq_true, decide_eq_true_eq, decide_eq_true_eq] at h
      refine ⟨?_, fun k => ?_⟩
      · show (shl (gL G)).getD a (99, 0) = xsh (gL G) a
        rw [shl_any _ h1, xsh_any _ h1]
        rcases h.2 with q | q
        · exact absurd (Nat.eq_of_beq_eq_true q) h1
        · exact q
      · rw [WK_fin h1, h.1]
        match a, h1 with
        | 0, _ => rfl
        | 1, h => exact absurd rfl h
        | a + 2, _ => rfl
  · have ha : 151 ≤ a := ha
    rw [WK_fin (by first | decide | omega), show fnl.getD a [] = [] by rw [List.getD_eq_getElem?_getD, List.getElem?_eq_none (by rw [fnl_len2]; exact ha)]; rfl]
    rfl
  · have h2 : a < 151 := h2
    have h := List.all_eq_true.mp fnl_arr a (List.mem_range.mpr h2)
    have h3 : ((shl (gL G)).getD a (99, 0)).1 < 7 := h3
    rw [shl_any _ (by first | decide | omega)] at h3
    rw [Bool.or_eq_true, Bool.or_eq_true] at h
    rcases h with (q | q) | q
    · exact absurd (Nat.blt_eq.mp q) (by first | decide | omega)
    · exact absurd (Nat.le_of_ble_eq_true q) (by first | decide | omega)
    · rw [WK_fin (by first | decide | omega), List.isEmpty_iff.mp q]
      rfl
theorem w0_fin {a k : Nat} (h : a ≠ 1) : w0.2.2 a k = (xcl.getD a []).getD k none := by
  match a, h with
  | 0, _ => rfl
  | 1, h => exact absurd rfl h
  | a + 2, _ => rfl
theorem OKW_w0 {G : GE} (hp : ∀ a, gp G a = a) : OKW G w0 := by
  refine ⟨by show 15 ≤ 15; decide, fun a ha => ?_, fun a k ha => ?_, fun a k h1 h2 h3 => ?_, fun a _ => hp a⟩
  · by_cases h1 : a = 1
    · subst h1
      exact Or.inr rfl
    · refine Or.inl ⟨?_, fun k => ?_⟩
      · rw [xsh_any _ h1]
        match a, h1 with
        | 0, _ => rfl
        | 1, h => exact absurd rfl h
        | a + 2, _ => rfl
      · rw [w0_fin h1]
        match a, h1 with
        | 0, _ => rfl
        | 1, h => exact absurd rfl h
        | a + 2, _ => rfl
  · have ha : 15 ≤ a := ha
    rw [w0_fin (by first | decide | omega), show xcl.getD a [] = [] by rw [List.getD_eq_getElem?_getD, List.getElem?_eq_none (by rw [xcl_15]; exact ha)]; rfl]
    rfl
  · have h2 : a < 15 := h2
    omega
theorem rel_0 {G : GE} {H : Heap} (h : gb G = H.size) : Rel G w0 S_0 H := by
  refine ⟨Nat.le_refl 15, ?_, Nat.le_refl 15, fun a _ => rfl, fun a h1 h2 => ?_⟩
  · show H.size = gb G + (15 - 15)
    omega
  · have h2 : a < 15 := h2
    omega
theorem pm_ge (a : Nat) (h : 15 ≤ a) : 15 ≤ pm a := by
  unfold pm
  split <;> (try split) <;> (try split) <;> omega
theorem pm_in (a b : Nat) (h : pm a = pm b) : a = b := by
  unfold pm at h
  repeat' split at h
  all_goals omega
theorem pm_pv (r : Nat) : pm (pv r) = r := by
  unfold pv
  by_cases a1 : r < 62
  · rw [if_pos a1]; unfold pm; rw [if_pos a1]
  · rw [if_neg a1]
    by_cases a2 : r = 62
    · rw [if_pos a2, a2]; rfl
    · rw [if_neg a2]
      by_cases a3 : r ≤ 150
      · rw [if_pos a3]; unfold pm; rw [if_neg (by first | decide | omega), if_pos (by first | decide | omega)]; omega
      · rw [if_neg a3]; unfold pm; rw [if_neg (by first | decide | omega), if_neg (by first | decide | omega), if_neg (by first | decide | omega)]
theorem pm_hi (a : Nat) (h : 151 ≤ a) : pm a = a := by
  unfold pm
  rw [if_neg (by first | decide | omega), if_neg (by first | decide | omega), if_neg (by first | decide | omega)]
theorem pm_lo (a : Nat) (h : a < 151) : pm a < 151 := by
  unfold pm
  split <;> (try split) <;> (try split) <;> omega
/-- the same, the cells numbered otherwise -/
noncomputable def gsw (G : GE) : GE := (G.1, G.2.1, G.2.2.1, G.2.2.2.1, G.2.2.2.2.1, G.2.2.2.2.2.1, G.2.2.2.2.2.2.1, G.2.2.2.2.2.2.2.1, ⟨pm, pm_ge, pm_in⟩)
theorem gp_sw {G : GE} : gp (gsw G) = pm := rfl
theorem gad_sw {G : GE} (hp : ∀ a, gp G a = a) (a : Nat) (h : 15 ≤ a) : gad (gsw G) a = gad G (pm a) := by
  rw [gad_own h, gad_own (pm_ge a h), hp, gp_sw]
  rfl
theorem rf_sw {G : GE} (hp : ∀ a, gp G a = a) (n : Nat) : rf (gsw G) (pv n) = rf G n := by
  by_cases h : n < 15
  · have e : pv n = n := by unfold pv; rw [if_pos (by first | decide | omega)]
    rw [e]
    unfold rf gad
    rw [if_pos h, if_pos h]
    rfl
  · have h2 : 15 ≤ pv n := by
      unfold pv
      split <;> (try split) <;> (try split) <;> omega
    rw [rf_own h2, rf_own (by first | decide | omega), gad_sw hp _ h2, pm_pv]
theorem rep_sw {G : GE} (hp : ∀ a, gp G a = a) (c : Nat) (b : Bool) (hb : b = true → c = 2) (hn : b = false → c ≠ 2) (x : Int) : rep (gsw G) (mkv c (pvx b x)) = rep G (mkv c x) := by
  cases b with
  | true =>
    rw [hb rfl]
    show rf (gsw G) (((pv x.toNat : Nat) : Int).toNat) = rf G x.toNat
    rw [Int.toNat_natCast]
    exact rf_sw hp _
  | false =>
    have h2 := hn rfl
    show rep (gsw G) (mkv c x) = rep G (mkv c x)
    unfold mkv
    split
    · rfl
    · exact absurd rfl h2
    · rfl
theorem okc_sw (c : Nat) (b : Bool) (hb : b = true → c = 2) {x : Int} (h : okc c x) : okc c (pvx b x) := by
  cases b with
  | true =>
    rw [hb rfl]
    show (0 : Int) ≤ ((pv x.toNat : Nat) : Int)
    omega
  | false => exact h
theorem isRf_a {t k : Nat} (ht : t < 7) : (isRf t k = true → arC t = 2) ∧ (isRf t k = false → arC t ≠ 2) := by
  rcases (show t = 0 ∨ t = 1 ∨ t = 2 ∨ t = 3 ∨ t = 4 ∨ t = 5 ∨ t = 6 by omega) with rfl | rfl | rfl | rfl | rfl | rfl | rfl <;> exact ⟨fun h => (by first | rfl | cases h), fun h => (by first | decide | cases h)⟩
theorem isRf_o {ci k : Nat} : (isRf (10 + ci) k = true → fcd ci k = 2) ∧ (isRf (10 + ci) k = false → fcd ci k ≠ 2) := by
  have e : isRf (10 + ci) k = Nat.beq (fcd ci k) 2 := by
    unfold isRf
    rw [show Nat.ble (10 + ci) 6 = false by rw [← Bool.not_eq_true, Nat.ble_eq]; omega, show Nat.ble 10 (10 + ci) = true from Nat.ble_eq.mpr (by first | decide | omega), Nat.add_sub_cancel_left]
    simp
  rw [e]
  refine ⟨fun h => Nat.eq_of_beq_eq_true h, fun h q => ?_⟩
  rw [q] at h
  cases h
theorem rel_mv {G : GE} {H : Heap} {L : Nat} {xs : Nat → Int} {S : AH} (hp : ∀ a, gp G a = a) (hc1 : S.1.1 = 151) (hsh : ∀ a, 15 ≤ a → a < 151 → (smv S).1.2.2 a = (shl 0).getD a (99, 0)) (hfi : ∀ a j c, 15 ≤ a → a < 151 → j < 107 → (fnl.getD a []).getD j none = some c → (smv S).2 a j = c) (h : Rel G w0 S H) : Rel (gsw G) (WK L xs) (smv S) H := by
  obtain ⟨h1, h2, h3, h4, h5⟩ := h
  refine ⟨h1, h2, by rw [smv_1, hc1]; exact Nat.le_refl _, fun a ha => ?_, fun a ha hlt => ?_⟩
  · have ha : S.1.1 ≤ a := ha
    show (S.1.2.2 (pm a)).1 = 99
    rw [pm_hi a (by rw [← hc1]; exact ha)]
    exact h4 a ha
  have hlt2 : a < 151 := by rw [smv_1, hc1] at hlt; exact hlt
  have hr := pm_lo a hlt2
  have hq := h5 (pm a) (pm_ge a ha) (by rw [hc1]; exact hr)
  have e1 : shp (WK L xs) (smv S) a = shp w0 S (pm a) := by
    rw [shp_dyn (show w0.1 ≤ pm a from pm_ge a ha)]
    unfold shp
    rw [show Nat.blt a (WK L xs).1 = true from Nat.blt_eq.mpr hlt2]
    show (shl L).getD a (99, 0) = _
    rw [shl_any _ (by first | decide | omega)]
    exact (hsh a ha hlt2).symm
  have e2 : ∀ j, rdv (WK L xs) (smv S) a j = (smv S).2 a j := by
    intro j
    unfold rdv
    rw [WK_fin (by first | decide | omega)]
    by_cases hj : j < 107
    · cases hc : (fnl.getD a []).getD j none with
      | none => rfl
      | some c => exact (hfi a j c ha hlt2 hj hc).symm
    · have hl : (fnl.getD a []).length ≤ 107 := by
        rw [List.getD_eq_getElem?_getD]
        cases hx : fnl[a]? with
        | none => show 0 ≤ 107; decide
        | some l => exact Nat.le_of_ble_eq_true (List.all_eq_true.mp fnl_len l (List.mem_of_getElem? hx))
      rw [List.getD_eq_getElem?_getD (l := fnl.getD a []), List.getElem?_eq_none (by first | decide | omega)]
      rfl
  have e3 : ∀ j, rdv w0 S (pm a) j = S.2 (pm a) j := fun j => rdv_none ((OKW_w0 hp).2.2.1 (pm a) j (pm_ge a ha))
  have e4 : shp w0 S (pm a) = S.1.2.2 (pm a) := shp_dyn (pm_ge a ha)
  have e5 : ∀ j, (smv S).2 a j = pvx (isRf (S.1.2.2 (pm a)).1 j) (S.2 (pm a) j) := fun j => rfl
  unfold isC at hq ⊢
  rw [e1, funext e2, gad_sw hp a ha]
  rw [funext e3] at hq
  rw [e4] at hq ⊢
  refine ⟨fun ht => ?_, fun ci hci ht => ?_⟩
  · obtain ⟨c1, c2, c3⟩ := hq.1 ht
    refine ⟨?_, c2, fun j hj => ?_⟩
    · rw [c1]
      show some (arrV (gA G _) _ _) = some (arrV (gA G _) _ _)
      congr 2
      funext j
      rw [e5]
      exact (rep_sw hp _ _ (isRf_a ht).1 (isRf_a ht).2 _).symm
    · rw [e5]
      exact okc_sw _ _ (isRf_a ht).1 (c3 j hj)
  · obtain ⟨c1, c2, c3⟩ := hq.2 ci hci ht
    refine ⟨c1, ?_, fun k hk => ?_⟩
    · refine c2.to (fun k hk => ?_)
      rw [e5, ht]
      exact (rep_sw hp _ _ isRf_o.1 isRf_o.2 _).symm
    · rw [e5, ht]
      exact okc_sw _ _ isRf_o.1 (c3 k hk)
theorem rel_sw {G : GE} {H : Heap} {L : Nat} {xs : Nat → Int} (hp : ∀ a, gp G a = a) (h : Rel G w0 S1 H) : Rel (gsw G) (WK L xs) SS H := by
  have h1 := SS_cells
  have h2 := SS_shape
  have h3 := SS_fin
  rw [SS_c] at h1
  unfold SS at h2 h3 ⊢
  refine rel_mv hp h1 (fun a ha hlt => ?_) (fun a j c ha hlt hj hc => ?_) h
  · have hs := List.all_eq_true.mp h2 a (List.mem_range.mpr hlt)
    rw [Bool.or_eq_true, decide_eq_true_eq] at hs
    rcases hs with q | q
    · exact absurd (Nat.blt_eq.mp q) (by first | decide | omega)
    · exact q
  · have hf := List.all_eq_true.mp h3 a (List.mem_range.mpr hlt)
    rw [Bool.or_eq_true] at hf
    rcases hf with q | q
    · exact absurd (Nat.blt_eq.mp q) (by first | decide | omega)
    · have hg := List.all_eq_true.mp q j (List.mem_range.mpr hj)
      rw [hc] at hg
      exact of_decide_eq_true hg
/-- what is left to show: the law's loop, on the plain machine -/
noncomputable def LawRuns : Prop := ∀ (L : Nat) (xs : Nat → Int), L ≤ 3584 → (∀ k, r32 (xs k)) → ∃ (d : Nat) (SF : AH), d ≤ 1200 ∧ LQ (WK L xs) (ev (WK L xs) d) 0 18 [some (vr 1), some (vr 15), some (vr 72), some (vi 0)] [] SS = some (1, SF) ∧ SF.1.1 ≤ 600000 ∧ SF.1.2.1 ≤ 7302250
theorem whole_red (HH : LawRuns) {p : Program} {e : Env} {s : State} {m : MethodId} {below : List Frame} {meth : Method} {c : Code} (l : Launch) {b L : Nat} {xs : Nat → Int32} (hL : L ≤ 3584) (C0 : lw_At p s m meth c b L xs) : W p l e room_1 s m #[Value.ref b] below meth c s.heap [] 0 0 (lw_Z below #[Value.ref b] s) (entryFrame m ([Value.ref b] : List Value).toArray 4) := by
  obtain ⟨G, hE, hgb, hg1, hgL, hgX, hgp⟩ := EN_start (show L ≤ 3584 by omega) C0
  obtain ⟨hx, hb, hr, hml, hown, -, -, hbl, hlocks, -⟩ := C0
  have hG := hE.2.2.2.2.2.2.2.1
  have hc : CX G p s m meth c 0 := ⟨hx, hb, hml, hown, fun h => (by cases h), hE, by decide⟩
  have hE' : EN (gsw G) s s.heap := by unfold EN at hE ⊢; exact hE
  have hG' : gVok (gsw G) := hG
  have hc' : CX (gsw G) p s m meth c 0 := ⟨hx, hb, hml, hown, fun h => (by cases h), hE', by decide⟩
  have hWK : OKW (gsw G) (WK (gL (gsw G)) (fun k => (gX (gsw G) k).toInt)) := OKW_WK (fun a h => pm_hi a h)
  obtain ⟨d, SF, hd, hrun, hcl, hsl⟩ := HH (gL G) (fun k => (gX G k).toInt) (by rw [hgL]; exact hL) (fun k => i32_r _)
  obtain ⟨n, hn⟩ := LQ_iff.mp hrun
  have hlen : ∀ (G : GE), gb G = s.heap.size → ∀ (pc : Nat) (ls : LV) (v : Int) (S : AH), ((1 : Int), SF) = (v, S) → decode (byo 0) pc = .ok (retI (rtOf 0), 1) → ∀ w : WC, PP p l e room_1 s m #[Value.ref b] below meth c G w 0 (lw_Z below #[Value.ref b] s) 15 0 SF pc ls (rst (rtOf 0) v) S := by
    intro G hgb pc ls v S hF hdc w
    cases hF
    refine ⟨LE2.rf, fun H locs lsC hR hS hLR hv h1 h2 => ?_⟩
    refine va_forget (fun q hq => ?_) (W.widen (k := 600000) (n := 7302250) (by first | decide | omega) (by first | decide | omega) (lw_ret hx hb hr hlocks hdc))
    have := hS.2.2 q hq
    rw [← hgb]
    exact this
  have hpp := lpn_sound (G := gsw G) (F := ((1 : Int), SF)) (SF := SF) (n0 := 15) (s0 := 0) (args := #[Value.ref b]) (below := below) (e := e) (R := room_1) (Q := lw_Z below #[Value.ref b] s) hc' hWK ⟨show SF.1.1 - 15 ≤ 600000 by omega, show SF.1.2.1 - 0 ≤ 7302250 by omega⟩ (ev_ok (l := l) hG' hWK d) ⟨show d + 1 ≤ 2048 by omega, show 64 * (d + 1) ≤ 84000 by omega⟩ (fun pc ls v S hF hdc _ => hlen (gsw G) hgb pc ls v S hF hdc _) n 18 _ [] SS hn
  have hpp0 : PP p l e room_1 s m #[Value.ref b] below meth c G w0 0 (lw_Z below #[Value.ref b] s) 15 0 SF 18 [some (vr 1), some (vr 15), some (vr 73), some (vi 0)] [] S1 := by
    have hp1 := hpp.1
    unfold LE2 at hp1
    rw [SS_c, SS_s] at hp1
    refine ⟨hp1, fun H locs lsC hR hS hLR hv h1 h2 => ?_⟩
    have hL2 : LR (gsw G) [some (vr 1), some (vr 15), some (vr 72), some (vi 0)] lsC (mlOf 0) := by
      refine ⟨hLR.1, hLR.2.1, hLR.2.2.1, fun i v hv => ?_⟩
      have z1 : rep (gsw G) (vr 1) = rep G (vr 1) := rf_sw hgp 1
      have z2 : rep (gsw G) (vr 15) = rep G (vr 15) := rf_sw hgp 15
      have z3 : rep (gsw G) (vr 72) = rep G (vr 73) := rf_sw hgp 73
      match i, hv with
      | 0, hv =>
        cases hv
        rw [z1]
        exact hLR.2.2.2 0 (vr 1) rfl
      | 1, hv =>
        cases hv
        rw [z2]
        exact hLR.2.2.2 1 (vr 15) rfl
      | 2, hv =>
        cases hv
        rw [z3]
        exact ⟨(hLR.2.2.2 2 (vr 73) rfl).1, trivial⟩
      | 3, hv =>
        cases hv
        exact hLR.2.2.2 3 (vi 0) rfl
      | i + 4, hv => cases hv
    have g := hpp.2 H locs lsC (rel_sw hgp hR) hS hL2 hv (by rw [SS_c]; exact h1) (by rw [SS_s]; exact h2)
    rw [SS_c, SS_s] at g
    exact g
  let K1 : KP := fun pc ls st S => haveI := Classical.propDecidable (PP p l e room_1 s m #[Value.ref b] below meth c G w0 0 (lw_Z below #[Value.ref b] s) 15 0 SF pc ls st S); if PP p l e room_1 s m #[Value.ref b] below meth c G w0 0 (lw_Z below #[Value.ref b] s) 15 0 SF pc ls st S then some (1, SF) else none
  have hK1 : ∀ pc ls st S, K1 pc ls st S = some (1, SF) → PP p l e room_1 s m #[Value.ref b] below meth c G w0 0 (lw_Z below #[Value.ref b] s) 15 0 SF pc ls st S := by
    intro pc ls st S h
    by_cases hp : PP p l e room_1 s m #[Value.ref b] below meth c G w0 0 (lw_Z below #[Value.ref b] s) 15 0 SF pc ls st S
    · exact hp
    · simp only [K1, if_neg hp] at h
      cases h
  have hgo : go w0 (evc w0 4) K1 (csOf 0) (rtOf 0) 4000 true (cde (csOf 0) 0) (ent (mlOf 0) [vr 1]) [] S_0 = some (1, SF) := by
    rw [S1_go]
    simp only [K1, if_pos hpp0]
  have hgo2 := go_C (evc_ev 4) _ _ _ _ _ _ _ hgo
  have hok : okC (byo 0) (ow 0) (iniM 0) (csOf 0) = true := om_all (by decide)
  obtain ⟨o1, o2⟩ := cde_spec (t := 0) (csOf 0) hok
  have hend := go_sound (F := ((1 : Int), SF)) (SF := SF) (n0 := 15) (s0 := 0) (args := #[Value.ref b]) (below := below) (e := e) (R := room_1) (Q := lw_Z below #[Value.ref b] s) hc (OKW_w0 hgp) ⟨show SF.1.1 - 15 ≤ 600000 by omega, show SF.1.2.1 - 0 ≤ 7302250 by omega⟩ (ev_ok (l := l) hG (OKW_w0 hgp) 4) ⟨by decide, by decide⟩ (fun pc ls v S hF hdc _ => hlen G hgb pc ls v S hF hdc _) hok hK1 4000 true (cde (csOf 0) 0) (ent (mlOf 0) [vr 1]) [] S_0 o1 hgo2
  have hfin : PP p l e room_1 s m #[Value.ref b] below meth c G w0 0 (lw_Z below #[Value.ref b] s) 15 0 SF 0 (ent (mlOf 0) [vr 1]) [] S_0 := by
    match hz : cde (csOf 0) 0, hgo2 with
    | [], h => cases h
    | e' :: r', h =>
      have := hend e' r' hz
      rw [o2 e' r' hz] at this
      exact this
  have hrep : ([vr 1] : List TV).map (rep G) = [Value.ref b] := by
    show [rf G 1] = _
    rw [rf_ref (by decide) (by decide)]
    unfold gad
    rw [if_pos (by decide), hg1]
  have hW := hfin.2 s.heap [] _ (rel_0 hgb) va_S.rf (LR.entry hG (as := [vr 1]) (n := 4) (by decide) (fun v hv => by rw [List.mem_singleton.mp hv]; exact trivial)) (fun u hu => by cases hu) (Nat.le_refl 15) (Nat.zero_le _)
  rw [hrep] at hW
  rw [lg_entry_eq]
  exact hW
