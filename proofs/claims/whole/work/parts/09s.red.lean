/-! the claim, reduced to the plain machine -/
theorem lw_ret {p : Program} {l : Launch} {e : Env} {s : State} {m : MethodId} {below : List Frame} {meth : Method} {c : Code} {b : Nat} (hx : p.tables.exec = Jvm.exec) (hb : c.code = code) (hr : meth.sig.returnType = ret) (hlocks : meth.locks = false) {pc : Nat} {H : Heap} {ls : Array Slot} (hdg : decode code pc = .ok (.ireturn, 1)) : W p l e room_1 s m #[Value.ref b] below meth c H [] 600000 7302250 (lw_Z below #[Value.ref b] s) (F0 m pc ls [.int 1]) := by
  intro T hT X
  obtain ⟨fs, hret, hrun, hended, hW, hframe⟩ := X.leave (v := some (.int 1)) (hlocks := hlocks) (fun h => by rw [hr] at h; cases h)
  have hmeth' : T.vm.method? m = some meth := X.method'
  refine ⟨T.setFrames fs, ?_, .returned (some (.int 1)), hrun, hended, rfl, ⟨_, rfl⟩, hW, hframe⟩
  jvm_step X.here [X.here.top, hx, hb, hdg, hmeth', hr, ret, narrow_b1]
  (try refine ⟨rfl, ?_⟩); (try refine ⟨rfl, ?_⟩)
  first | (intro acts; rw [hret _ acts rfl rfl rfl]) | rw [hret _ _ rfl rfl rfl]
  exact Steps.refl _
theorem GN_none : (go w0 (evc w0 4) (fun _ _ _ _ => none) (csOf 0) (rtOf 0) 4000 true (cde (csOf 0) 0) (ent (mlOf 0) [vr 1]) [] S_0).isNone = true := by decide +kernel
theorem K0_inv {pc : Nat} {ls : LV} {st : List TV} {S : AH} {r : Int × AH} (h : K0 pc ls st S = some r) : pc = 18 ∧ ls = [some (vr 1), some (vr 15), some (vr 72), some (vi 0)] ∧ st = [] ∧ r = (0, S) := by
  unfold K0 at h
  split at h
  · rename_i hb
    rw [Bool.and_eq_true, Bool.and_eq_true, decide_eq_true_eq] at hb
    exact ⟨Nat.eq_of_beq_eq_true hb.1.1, hb.1.2, List.isEmpty_iff.mp hb.2, (Option.some.inj h).symm⟩
  · cases h
theorem SS_go (K : KP) : go w0 (evc w0 4) K (csOf 0) (rtOf 0) 4000 true (cde (csOf 0) 0) (ent (mlOf 0) [vr 1]) [] S_0 = K 18 [some (vr 1), some (vr 15), some (vr 72), some (vi 0)] [] SS := by
  have h0 := G0_some
  obtain ⟨r, hr⟩ := Option.isSome_iff_exists.mp h0
  rcases go_pl (w := w0) (C := evc w0 4) (cs0 := csOf 0) (rt := rtOf 0) 4000 true (cde (csOf 0) 0) (ent (mlOf 0) [vr 1]) [] S_0 with ⟨o, h⟩ | ⟨pc, a, b, c, h⟩
  · have h1 := GN_none
    rw [h] at h1
    have h2 : o = some r := (h K0).symm.trans hr
    rw [h2] at h1
    cases h1
  · have h2 : K0 pc a b c = some r := (h K0).symm.trans hr
    obtain ⟨e1, e2, e3, e4⟩ := K0_inv h2
    have e5 : SS = c := by
      unfold SS
      rw [hr, e4]
      rfl
    rw [h K, e1, e2, e3, e5]
theorem shl_any (L : Nat) {a : Nat} (h : a ≠ 1) : (shl L).getD a (99, 0) = (shl 0).getD a (99, 0) := by
  match a, h with
  | 0, _ => rfl
  | 1, h => exact absurd rfl h
  | a + 2, _ => rfl
theorem fnl_150 : fnl.length = 150 := by decide +kernel
theorem xcl_15 : xcl.length = 15 := by decide +kernel
theorem fnl_arr : ((List.range 150).all fun a => Nat.blt a 15 || Nat.ble 7 ((shl 0).getD a (99, 0)).1 || (fnl.getD a []).isEmpty) = true := by decide +kernel
theorem fnl_xcl : ((List.range 15).all fun a => decide (fnl.getD a [] = xcl.getD a []) && (Nat.beq a 1 || decide ((shl 0).getD a (99, 0) = xsh 0 a))) = true := by decide +kernel
theorem xsh_any (L : Nat) {a : Nat} (h : a ≠ 1) : xsh L a = xsh 0 a := by
  match a, h with
  | 0, _ => rfl
  | 1, h => exact absurd rfl h
  | a + 2, _ => rfl
theorem WK_fin {L : Nat} {xs : Nat → Int} {a k : Nat} (h : a ≠ 1) : (WK L xs).2.2 a k = (fnl.getD a []).getD k none := by
  match a, h with
  | 0, _ => rfl
  | 1, h => exact absurd rfl h
  | a + 2, _ => rfl
theorem OKW_WK {G : GE} : OKW G (WK (gL G) (fun k => (gX G k).toInt)) := by
  refine ⟨by show 15 ≤ 150; decide, fun a ha => Or.inl ?_, fun a k ha => ?_, fun a k h1 h2 h3 => ?_⟩
  · by_cases h1 : a = 1
    · subst h1
      exact ⟨rfl, fun k => rfl⟩
    · have h := List.all_eq_true.mp fnl_xcl a (List.mem_range.mpr ha)
      rw [Bool.and_eq_true, Bool.or_eq_true, decide_eq_true_eq, decide_eq_true_eq] at h
      refine ⟨?_, fun k => ?_⟩
      · show (shl (gL G)).getD a (99, 0) = xsh (gL G) a
        rw [shl_any _ h1, xsh_any _ h1]
        rcases h.2 with q | q
        · exact absurd (Nat.eq_of_beq_eq_true q) h1
        · exact q
      · rw [WK_fin h1, h.1]
        match a, h1 with
        | 0, _ => rfl
        | 1, h => exact absurd rfl h
        | a + 2, _ => rfl
  · have ha : 150 ≤ a := ha
    rw [WK_fin (by omega), show fnl.getD a [] = [] by rw [List.getD_eq_getElem?_getD, List.getElem?_eq_none (by rw [fnl_150]; exact ha)]; rfl]
    rfl
  · have h2 : a < 150 := h2
    have h := List.all_eq_true.mp fnl_arr a (List.mem_range.mpr h2)
    have h3 : ((shl (gL G)).getD a (99, 0)).1 < 7 := h3
    rw [shl_any _ (by omega)] at h3
    rw [Bool.or_eq_true, Bool.or_eq_true] at h
    rcases h with (q | q) | q
    · exact absurd (Nat.blt_eq.mp q) (by omega)
    · exact absurd (Nat.le_of_ble_eq_true q) (by omega)
    · rw [WK_fin (by omega), List.isEmpty_iff.mp q]
      rfl
theorem w0_fin {a k : Nat} (h : a ≠ 1) : w0.2.2 a k = (xcl.getD a []).getD k none := by
  match a, h with
  | 0, _ => rfl
  | 1, h => exact absurd rfl h
  | a + 2, _ => rfl
theorem OKW_w0 {G : GE} : OKW G w0 := by
  refine ⟨by show 15 ≤ 15; decide, fun a ha => ?_, fun a k ha => ?_, fun a k h1 h2 h3 => ?_⟩
  · by_cases h1 : a = 1
    · subst h1
      exact Or.inr rfl
    · refine Or.inl ⟨?_, fun k => ?_⟩
      · rw [xsh_any _ h1]
        match a, h1 with
        | 0, _ => rfl
        | 1, h => exact absurd rfl h
        | a + 2, _ => rfl
      · rw [w0_fin h1]
        match a, h1 with
        | 0, _ => rfl
        | 1, h => exact absurd rfl h
        | a + 2, _ => rfl
  · have ha : 15 ≤ a := ha
    rw [w0_fin (by omega), show xcl.getD a [] = [] by rw [List.getD_eq_getElem?_getD, List.getElem?_eq_none (by rw [xcl_15]; exact ha)]; rfl]
    rfl
  · have h2 : a < 15 := h2
    omega
theorem rel_0 {G : GE} {H : Heap} (h : gb G = H.size) : Rel G w0 S_0 H := by
  refine ⟨Nat.le_refl 15, ?_, Nat.le_refl 15, fun a _ => rfl, fun a h1 h2 => ?_⟩
  · show H.size = gb G + (15 - 15)
    omega
  · have h2 : a < 15 := h2
    omega
theorem rel_sw {G : GE} {H : Heap} {L : Nat} {xs : Nat → Int} (h : Rel G w0 SS H) : Rel G (WK L xs) SS H := by
  obtain ⟨h1, h2, h3, h4, h5⟩ := h
  refine ⟨h1, h2, by rw [SS_cells]; show 150 ≤ 150; decide, h4, fun a ha hlt => ?_⟩
  have hlt2 := hlt
  rw [SS_cells] at hlt2
  have hq := h5 a ha hlt
  have e1 : shp (WK L xs) SS a = shp w0 SS a := by
    rw [shp_dyn (show w0.1 ≤ a from ha)]
    have hs := List.all_eq_true.mp SS_shape a (List.mem_range.mpr hlt2)
    rw [Bool.or_eq_true, decide_eq_true_eq] at hs
    unfold shp
    rw [show Nat.blt a (WK L xs).1 = true from Nat.blt_eq.mpr hlt2]
    show (shl L).getD a (99, 0) = _
    rw [shl_any _ (by omega)]
    rcases hs with q | q
    · exact absurd (Nat.blt_eq.mp q) (by omega)
    · exact q.symm
  have e2 : ∀ j, rdv (WK L xs) SS a j = rdv w0 SS a j := by
    intro j
    rw [rdv_none (w := w0) ((OKW_w0 (G := G)).2.2.1 a j ha)]
    unfold rdv
    rw [WK_fin (by omega)]
    have hf := List.all_eq_true.mp SS_fin a (List.mem_range.mpr hlt2)
    rw [Bool.or_eq_true] at hf
    rcases hf with q | q
    · exact absurd (Nat.blt_eq.mp q) (by omega)
    · by_cases hj : j < 107
      · have hg := List.all_eq_true.mp q j (List.mem_range.mpr hj)
        cases hc : (fnl.getD a []).getD j none with
        | none => rfl
        | some c =>
          rw [hc] at hg
          exact (of_decide_eq_true hg).symm
      · have hl : (fnl.getD a []).length ≤ 107 := by
          rw [List.getD_eq_getElem?_getD]
          cases hx : fnl[a]? with
          | none => show 0 ≤ 107; decide
          | some l => exact Nat.le_of_ble_eq_true (List.all_eq_true.mp fnl_len l (List.mem_of_getElem? hx))
        rw [List.getD_eq_getElem?_getD (l := fnl.getD a []), List.getElem?_eq_none (by omega)]
        rfl
  unfold isC at hq ⊢
  rw [e1, funext e2]
  exact hq
/-- what is left to show: the law's loop, on the plain machine -/
def LawRuns : Prop := ∀ (L : Nat) (xs : Nat → Int), L ≤ 3584 → (∀ k, r32 (xs k)) → ∃ (d : Nat) (SF : AH), d ≤ 1200 ∧ LQ (WK L xs) (ev (WK L xs) d) 0 18 [some (vr 1), some (vr 15), some (vr 72), some (vi 0)] [] SS = some (1, SF) ∧ SF.1.1 ≤ 600000 ∧ SF.1.2.1 ≤ 7302250
theorem whole_red (HH : LawRuns) {p : Program} {e : Env} {s : State} {m : MethodId} {below : List Frame} {meth : Method} {c : Code} (l : Launch) {b L : Nat} {xs : Nat → Int32} (hL : L ≤ 3584) (C0 : lw_At p s m meth c b L xs) : W p l e room_1 s m #[Value.ref b] below meth c s.heap [] 0 0 (lw_Z below #[Value.ref b] s) (entryFrame m ([Value.ref b] : List Value).toArray 4) := by
  obtain ⟨G, hE, hgb, hg1, hgL, hgX⟩ := EN_start hL C0
  obtain ⟨hx, hb, hr, hml, hown, -, -, hbl, hlocks, -⟩ := C0
  have hG := hE.2.2.2.2.2.2.2.1
  have hc : CX G p s m meth c 0 := ⟨hx, hb, hml, hown, fun h => (by cases h), hE, by decide⟩
  obtain ⟨d, SF, hd, hrun, hcl, hsl⟩ := HH (gL G) (fun k => (gX G k).toInt) (by rw [hgL]; exact hL) (fun k => i32_r _)
  obtain ⟨n, hn⟩ := LQ_iff.mp hrun
  have hlen : ∀ (pc : Nat) (ls : LV) (v : Int) (S : AH), ((1 : Int), SF) = (v, S) → decode (byo 0) pc = .ok (retI (rtOf 0), 1) → ∀ w : WC, PP p l e room_1 s m #[Value.ref b] below meth c G w 0 (lw_Z below #[Value.ref b] s) 15 0 SF pc ls (rst (rtOf 0) v) S := by
    intro pc ls v S hF hdc w
    cases hF
    refine ⟨LE2.rf, fun H locs lsC hR hS hLR hv h1 h2 => ?_⟩
    refine va_forget (fun q hq => ?_) (W.widen (k := 600000) (n := 7302250) (by omega) (by omega) (lw_ret hx hb hr hlocks hdc))
    have := hS.2.2 q hq
    rw [← hgb]
    exact this
  have hpp := lpn_sound (F := ((1 : Int), SF)) (SF := SF) (n0 := 15) (s0 := 0) (args := #[Value.ref b]) (below := below) (e := e) (R := room_1) (Q := lw_Z below #[Value.ref b] s) hc OKW_WK ⟨show SF.1.1 - 15 ≤ 600000 by omega, show SF.1.2.1 - 0 ≤ 7302250 by omega⟩ (ev_ok (l := l) hG OKW_WK d) ⟨show d + 1 ≤ 2048 by omega, show 64 * (d + 1) ≤ 84000 by omega⟩ (fun pc ls v S hF hdc _ => hlen pc ls v S hF hdc _) n 18 _ [] SS hn
  have hpp0 : PP p l e room_1 s m #[Value.ref b] below meth c G w0 0 (lw_Z below #[Value.ref b] s) 15 0 SF 18 [some (vr 1), some (vr 15), some (vr 72), some (vi 0)] [] SS := ⟨hpp.1, fun H locs lsC hR hS hLR hv h1 h2 => hpp.2 H locs lsC (rel_sw hR) hS hLR hv h1 h2⟩
  let K1 : KP := fun pc ls st S => haveI := Classical.propDecidable (PP p l e room_1 s m #[Value.ref b] below meth c G w0 0 (lw_Z below #[Value.ref b] s) 15 0 SF pc ls st S); if PP p l e room_1 s m #[Value.ref b] below meth c G w0 0 (lw_Z below #[Value.ref b] s) 15 0 SF pc ls st S then some (1, SF) else none
  have hK1 : ∀ pc ls st S, K1 pc ls st S = some (1, SF) → PP p l e room_1 s m #[Value.ref b] below meth c G w0 0 (lw_Z below #[Value.ref b] s) 15 0 SF pc ls st S := by
    intro pc ls st S h
    by_cases hp : PP p l e room_1 s m #[Value.ref b] below meth c G w0 0 (lw_Z below #[Value.ref b] s) 15 0 SF pc ls st S
    · exact hp
    · simp only [K1, if_neg hp] at h
      cases h
  have hgo : go w0 (evc w0 4) K1 (csOf 0) (rtOf 0) 4000 true (cde (csOf 0) 0) (ent (mlOf 0) [vr 1]) [] S_0 = some (1, SF) := by
    rw [SS_go]
    simp only [K1, if_pos hpp0]
  have hgo2 := go_C (evc_ev 4) _ _ _ _ _ _ _ hgo
  have hok : okC (byo 0) (ow 0) (iniM 0) (csOf 0) = true := om_all (by decide)
  obtain ⟨o1, o2⟩ := cde_spec (t := 0) (csOf 0) hok
  have hend := go_sound (F := ((1 : Int), SF)) (SF := SF) (n0 := 15) (s0 := 0) (args := #[Value.ref b]) (below := below) (e := e) (R := room_1) (Q := lw_Z below #[Value.ref b] s) hc OKW_w0 ⟨show SF.1.1 - 15 ≤ 600000 by omega, show SF.1.2.1 - 0 ≤ 7302250 by omega⟩ (ev_ok (l := l) hG OKW_w0 4) ⟨by decide, by decide⟩ (fun pc ls v S hF hdc _ => hlen pc ls v S hF hdc _) hok hK1 4000 true (cde (csOf 0) 0) (ent (mlOf 0) [vr 1]) [] S_0 o1 hgo2
  have hfin : PP p l e room_1 s m #[Value.ref b] below meth c G w0 0 (lw_Z below #[Value.ref b] s) 15 0 SF 0 (ent (mlOf 0) [vr 1]) [] S_0 := by
    match hz : cde (csOf 0) 0, hgo2 with
    | [], h => cases h
    | e' :: r', h =>
      have := hend e' r' hz
      rw [o2 e' r' hz] at this
      exact this
  have hrep : ([vr 1] : List TV).map (rep G) = [Value.ref b] := by
    show [rf G 1] = _
    rw [rf_ref (by decide) (by decide)]
    unfold gad
    rw [if_pos (by decide), hg1]
  have hW := hfin.2 s.heap [] _ (rel_0 hgb) va_S.rf (LR.entry hG (as := [vr 1]) (n := 4) (by decide) (fun v hv => by rw [List.mem_singleton.mp hv]; exact trivial)) (fun u hu => by cases hu) (Nat.le_refl 15) (Nat.zero_le _)
  rw [hrep] at hW
  rw [lg_entry_eq]
  exact hW
