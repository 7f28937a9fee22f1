/-! control, calls, returns -/
noncomputable def rvo (G : GE) (rt : Nat) (r : Int) : Option Value := match rt with
  | 9 => none
  | t => some (rep G (mkv t r))
noncomputable def retI (rt : Nat) : Instr := match rt with
  | 9 => .return_
  | 1 => .lreturn
  | 2 => .areturn
  | _ => .ireturn
noncomputable def PCc (G : GE) (w : WC) (S : AH) (as : List TV) : Array Value → State → Prop := fun a U => a = (as.map (rep G)).toArray ∧ Rel G w S U.heap ∧ EN G U U.heap
noncomputable def QCc (G : GE) (w : WC) (S' : AH) (rt : Nat) (v : Int) : Array Value → State → Outcome → State → Prop := fun _ st o t => o = .returned (rvo G rt v) ∧ okc rt v ∧ Rel G w S' t.heap ∧ va_F (AA G) st t
noncomputable def rmd (d : Nat) (S S' : AH) : Room := { frames := d, cells := S'.1.1 - S.1.1, slots := S'.1.2.1 - S.1.2.1, locals := 64 * d }
/-- a method's run is the machine's -/
noncomputable def MTok (l : Launch) (G : GE) (w : WC) (d m : Nat) (as : List TV) (S : AH) (v : Int) (S' : AH) : Prop := LE2 S S' ∧ ((∀ u ∈ as, okv u) → Met l (ynm m) [.code (ynm m) (byo m) (mlOf m) (rty m)] (rmd d S S') (PCc G w S as) (QCc G w S' (rtOf m) v) (S'.1.1 - S.1.1) (S'.1.2.1 - S.1.2.1) (AA G))
theorem PCc_blind {G : GE} {w : WC} {S : AH} {as : List TV} : FrameBlind (PCc G w S as) := by
  intro a U g mk h
  exact ⟨h.1, h.2.1, EN.next (U := U.calling g mk a) (locs := []) h.2.2 (State.WarmedH.refl U) va_S.rf⟩
/-- a method of Math that the machine has no entry for is called as any other -/
noncomputable def mwOk2 (m : Nat) : Bool := wok1 (mw m).2.2.1 (.initialized (ynm m).cls) && plainFor (ynm m) && decide ((ynm m).cls ≠ "java/lang/invoke/MethodHandle") && decide ((ynm m).cls ≠ "java/lang/invoke/VarHandle") && (match (mw m).1 with
  | 0 => wok1 (mw m).2.2.2.1 (.static (ynm m))
  | 1 => wok1 (mw m).2.2.2.1 (.instanceMethod (ynm m)) && wok1 (mw m).2.2.2.2 (.selects (ynm m).cls (ynm m) (ynm m))
  | _ => wok1 (mw m).2.2.2.1 (.instanceMethod (ynm m)) && decide ((ynm m).name = "<init>"))
theorem mw_337 : mwOk2 337 = true := by decide +kernel
theorem mw_at {m : Nat} (h1 : 1 ≤ m) (h2 : m < 338) : mwOk2 m = true := by
  by_cases h3 : m = 337
  · rw [h3]
    exact mw_337
  have h := List.all_eq_true.mp mw_ok (m - 1) (List.mem_range.mpr (by first | decide | omega))
  rw [show m - 1 + 1 = m by omega] at h
  unfold mwOk at h
  unfold mwOk2
  rw [Bool.and_eq_true, Bool.and_eq_true, Bool.and_eq_true, Bool.and_eq_true] at h ⊢
  exact ⟨⟨⟨⟨h.1.1.1.1, plainFor_of_name h.1.1.1.2⟩, h.1.1.2⟩, h.1.2⟩, h.2⟩
theorem pn_at {m : Nat} (h2 : m < 338) : (parseMethodDescriptor (ynm m).desc).map (fun d => d.parameters.length) = some (pn m) := of_decide_eq_true (List.all_eq_true.mp pn_ok m (List.mem_range.mpr h2))
theorem ml_ok : ((List.range 338).all fun m => Nat.ble (mlOf m) 40) = true := by decide +kernel
theorem ml_at {m : Nat} (h2 : m < 338) : mlOf m ≤ 40 := Nat.le_of_ble_eq_true (List.all_eq_true.mp ml_ok m (List.mem_range.mpr h2))
theorem okC_inv {b : ByteArray} {own : Nat} {ini : Bool} {e : CE} {cs : List CE} (h : okC b own ini (e :: cs) = true) : ∃ len, decode b e.1 = .ok (e.2.2.1, len) ∧ len = lenI e.2.2.1 len ∧ (∀ e' r, cs = e' :: r → e'.1 = e.1 + len) ∧ okI own ini e.1 e.2.2.1 e.2.2.2 = true ∧ okC b own ini cs = true := by
  unfold okC at h
  rw [Bool.and_eq_true, Bool.and_eq_true] at h
  obtain ⟨⟨h1, h2⟩, h3⟩ := h
  cases hd : decode b e.1 with
  | error _ => rw [hd] at h1; cases h1
  | ok q =>
    obtain ⟨i, len⟩ := q
    rw [hd] at h1
    dsimp only at h1
    rw [Bool.and_eq_true, Bool.and_eq_true] at h1
    have ei := eqI_eq h1.1.1
    subst ei
    refine ⟨len, rfl, Nat.eq_of_beq_eq_true h1.1.2, fun e' r hr => ?_, h2, h3⟩
    have h4 := h1.2
    rw [hr] at h4
    exact Nat.eq_of_beq_eq_true h4
theorem cde_spec {b : ByteArray} {own : Nat} {ini : Bool} {t : Nat} : ∀ cs : List CE, okC b own ini cs = true → okC b own ini (cde cs t) = true ∧ ∀ e r, cde cs t = e :: r → e.1 = t := by
  intro cs
  induction cs with
  | nil => intro _; exact ⟨rfl, fun e r h => by cases h⟩
  | cons e cs ih =>
    intro h
    unfold cde
    cases hb : Nat.beq e.1 t with
    | true => exact ⟨h, fun e' r q => by cases q; exact Nat.eq_of_beq_eq_true hb⟩
    | false =>
      obtain ⟨len, -, -, -, -, h5⟩ := okC_inv h
      exact ih h5
theorem takeA_spec : ∀ (n : Nat) (st acc as r : List TV), takeA n st acc = some (as, r) → ∃ l, l.length = n ∧ st = l ++ r ∧ as = l.reverse ++ acc := by
  intro n
  induction n with
  | zero => intro st acc as r h; cases h; exact ⟨[], rfl, rfl, rfl⟩
  | succ n ih =>
    intro st acc as r h
    match st, h with
    | v :: st, h =>
      obtain ⟨l, h1, h2, h3⟩ := ih st (v :: acc) as r h
      exact ⟨v :: l, by simp [h1], by rw [h2]; rfl, by rw [h3]; simp⟩
section SND
variable {p : Program} {l : Launch} {e : Env} {R : Room} {s : State} {m : MethodId} {args : Array Value} {below : List Frame} {meth : Method} {c : Code} {G : GE} {w : WC} {mi : Nat} {Q : State → Prop} {n0 s0 : Nat} {SF : AH} {F : Int × AH} {pc len : Nat} {ls : LV} {st : List TV} {S : AH} {k : KT}
theorem call_end {H : Heap} {locs : List Loc} {cells slots mc ms : Nat} {lsC : Array Slot} {st0 rest : List Value} {S' : AH} {rt : Nat} {vo : Int} {as : Array Value} (hrun : va_Run p l e R s m args below meth c H locs cells slots mc ms (F0 m pc lsC st0) rest (QCc G w S' rt vo as) (AA G)) (hS : va_S (AA G) s.heap H locs)
    (kk : okc rt vo → ∀ (H' : Heap) (locs' : List Loc), Rel G w S' H' → va_S (AA G) s.heap H' locs' → W p l e R s m args below meth c H' locs' (cells + mc) (slots + ms) Q (F0 m (pc + 3) lsC ((rvo G rt vo).toList ++ rest))) : W p l e R s m args below meth c H locs cells slots Q (F0 m pc lsC st0) := by
  intro T hT X
  obtain ⟨v, st₀, t, T', L, h0, X', hL, e1, e2, ⟨hv, hokc, hR, hz, hk⟩, stp⟩ := hrun T hT X
  cases hv
  rw [h0] at hz hk
  obtain ⟨t2, a1, b1⟩ := kk hokc T'.heap (locs ++ L) (by rw [e1]; exact hR)
    ⟨Nat.le_trans hS.1 (by rw [e1]; exact hz), fun q h1 h2 => by rw [e1, hk q (Nat.lt_of_lt_of_le h1 hS.1) h2]; exact hS.2.1 q h1 h2, fun q hq => by
      rcases List.mem_append.mp hq with h | h
      · exact hS.2.2 q h
      · exact hL q h⟩ T' rfl X'
  exact ⟨t2, stp t2 a1, b1⟩
theorem mk_link (hE : EN G s s.heap) {q m' : Nat} (he : (mkl.any fun e => mtc e.1 e.2.1 (ow mi) q && Nat.beq e.2.2.1 m') = true) : (Cond.methodLink (cnm (ow mi)) q (ynm m')).before args s = true ∨ (Cond.methodLinkNest (cnm (ow mi)) q (ynm m') "SupplyBook").before args s = true := by
  obtain ⟨en, hen, hm⟩ := List.any_eq_true.mp he
  rw [Bool.and_eq_true] at hm
  obtain ⟨m1, m2⟩ := mtc_eq hm.1
  have m3 := Nat.eq_of_beq_eq_true hm.2
  have hl := List.all_eq_true.mp mkl_ok en hen
  rw [m1, m2, m3] at hl
  cases hn : en.2.2.2.2 with
  | true => rw [hn] at hl; exact Or.inr (onT rfl (hE.word hl))
  | false => rw [hn] at hl; exact Or.inl (onT rfl (hE.word hl))
theorem code_kw (m' : Nat) : kw (Cond.code (ynm m') (byo m') (mlOf m') (rty m')) = true := rfl
/-- the three kinds of calls give one run -/
theorem run_call (hc : CX G p s m meth c mi) {d m' q : Nat} {as : List TV} {S S' : AH} {v : Int} (h1 : 1 ≤ m') (h2 : m' < 338) (hM : MTok l G w d m' as S v S') (hoa : ∀ u ∈ as, okv u) (hfr : d + 1 ≤ R.frames ∧ 64 * (d + 1) ≤ R.locals) (hlk : (Cond.methodLink (cnm (ow mi)) q (ynm m')).before args s = true ∨ (Cond.methodLinkNest (cnm (ow mi)) q (ynm m') "SupplyBook").before args s = true)
    {H : Heap} {locs : List Loc} {cells slots : Nat} {lsC : Array Slot} {rest : List Value} (hR : Rel G w S H) (hS : va_S (AA G) s.heap H locs) (hsz : lsC.size = mlOf mi) (hrest : (rest.map fun v => v.category).sum ≤ 8) (hf : cells + (S'.1.1 - S.1.1) ≤ R.cells ∧ slots + (S'.1.2.1 - S.1.2.1) ≤ R.slots) :
    ((mw m').1 = 0 → as.length = pn m' → decode (byo mi) pc = .ok (.invokestatic q, 3) → va_Run p l e R s m args below meth c H locs cells slots (S'.1.1 - S.1.1) (S'.1.2.1 - S.1.2.1) (F0 m pc lsC ((as.map (rep G)).reverse ++ rest)) rest (QCc G w S' (rtOf m') v (as.map (rep G)).toArray) (AA G)) ∧
    (∀ (b : Nat) (bs : List TV), as = vr b :: bs → rf G b = .ref (gad G b) → (∃ cellB : Cell, H[gad G b]? = some cellB ∧ cellB.vm.isStatics = false ∧ s.vm.findClass (ynm m').cls = some cellB.cls) → bs.length = pn m' → ((mw m').1 = 1 → decode (byo mi) pc = .ok (.invokevirtual q, 3) → va_Run p l e R s m args below meth c H locs cells slots (S'.1.1 - S.1.1) (S'.1.2.1 - S.1.2.1) (F0 m pc lsC ((as.map (rep G)).reverse ++ rest)) rest (QCc G w S' (rtOf m') v (as.map (rep G)).toArray) (AA G)) ∧
      ((mw m').1 = 2 → rtOf m' = 9 → decode (byo mi) pc = .ok (.invokespecial q, 3) → va_Run p l e R s m args below meth c H locs cells slots (S'.1.1 - S.1.1) (S'.1.2.1 - S.1.2.1) (F0 m pc lsC ((as.map (rep G)).reverse ++ rest)) rest (QCc G w S' (rtOf m') v (as.map (rep G)).toArray) (AA G))) := by
  have hE := hc.2.2.2.2.2.1
  obtain ⟨hle, hM⟩ := hM
  have hM := hM hoa
  have hmw := mw_at h1 h2
  unfold mwOk2 at hmw
  simp only [Bool.and_eq_true, decide_eq_true_eq] at hmw
  obtain ⟨⟨⟨⟨w1, w2⟩, w3⟩, w4⟩, w5⟩ := hmw
  have hcode : ∀ (a' : Array Value) (U : State), s.WarmedH U.vm → (Cond.code (ynm m') (byo m') (mlOf m') (rty m')).before a' U = true := fun a' U hW => onT rfl (kw_warm (code_kw m') hW (hE.1 _ (cw_all h1 h2) (code_kw m')))
  have hws : ∀ w ∈ [Cond.code (ynm m') (byo m') (mlOf m') (rty m')], ∀ (a' : Array Value) (U : State), s.WarmedH U.vm → w.before a' U = true := by
    intro w hw a' U hW
    rw [List.mem_singleton] at hw
    subst hw
    exact hcode a' U hW
  have hcode0 : (Cond.code (ynm m') (byo m') (mlOf m') (rty m')).before args s = true := hcode args s (State.WarmedH.refl s)
  have hini : (Cond.initialized (ynm m').cls).before args s = true := onT rfl (hE.word w1)
  have hpn : ∀ sig, parseMethodDescriptor (ynm m').desc = some sig → pn m' = sig.parameters.length := by
    intro sig hsig
    have := pn_at h2
    rw [hsig] at this
    exact (Option.some.inj this).symm
  have hml := ml_at h2
  have hroom : 8 + (mlOf m' + 11) + (rmd d S S').locals ≤ R.locals := by
    show 8 + (mlOf m' + 11) + 64 * d ≤ R.locals
    omega
  have hPc : ∀ U : State, U.heap = H → s.WarmedH U.vm → PCc G w S as (as.map (rep G)).toArray U := by
    intro U hU hW
    exact ⟨rfl, by rw [hU]; exact hR, EN.next (locs := locs) hE hW (by rw [hU]; exact hS)⟩
  have hcf : CallFix p m c (byo mi) (mlOf mi) s args [] (cnm (ow mi)) := ⟨hc.1, hc.2.1, hc.2.2.1, hc.2.2.2.1, fun w h => by cases h⟩
  refine ⟨fun hk hn hd => ?_, fun b bs has hrf hcell hn => ⟨fun hk hd => ?_, fun hk hrt hd => ?_⟩⟩
  · rw [hk] at w5
    have hst : (Cond.static (ynm m')).before args s = true := onT rfl (hE.word w5)
    rcases hlk with hl | hl
    · exact va_runS (As := as.map (rep G)) hcf hM ⟨⟨rfl, rfl, hfr.1, hroom, hws, List.mem_singleton.mpr rfl, hcode0, hini, ⟨w3, w4⟩, hpn, hl⟩, hst⟩ ⟨PCc_blind, hPc⟩ rfl (by rw [List.length_map]; exact hn) hsz rfl (lv_room hrest) hd hf
    · exact va_runSN (As := as.map (rep G)) hcf hM ⟨⟨⟨rfl, rfl, hfr.1, hroom, hws, List.mem_singleton.mpr rfl⟩, hcode0, hini, ⟨w3, w4⟩, hpn, hl⟩, hst, trivial⟩ ⟨PCc_blind, hPc⟩ rfl (by rw [List.length_map]; exact hn) hsz rfl (lv_room hrest) hd hf
  · subst has
    rw [hk] at w5
    simp only [Bool.and_eq_true] at w5
    have hin : (Cond.instanceMethod (ynm m')).before args s = true := onT rfl (hE.word w5.1)
    have hsel : (Cond.selects (ynm m').cls (ynm m') (ynm m')).before args s = true := onT rfl (hE.word w5.2)
    have ha : (vr b :: bs).map (rep G) = .ref (gad G b) :: bs.map (rep G) := by
      rw [List.map_cons]
      congr 1
    rw [ha] at hPc ⊢
    have hstk : (Value.ref (gad G b) :: bs.map (rep G)).reverse ++ rest = (bs.map (rep G)).reverse ++ .ref (gad G b) :: rest := by simp
    rw [hstk]
    rcases hlk with hl | hl
    · exact va_runV (As := bs.map (rep G)) (C := (ynm m').cls) hcf hM ⟨⟨rfl, rfl, hfr.1, hroom, hws, List.mem_singleton.mpr rfl, hcode0, hini, ⟨w3, w4⟩, hpn, hl⟩, hin, hsel⟩ ⟨PCc_blind, hcell, hPc⟩ rfl (by rw [List.length_map]; exact hn) hsz rfl (lv_room hrest) hd hf
    · exact va_runVN (As := bs.map (rep G)) (C := (ynm m').cls) hcf hM ⟨⟨⟨rfl, rfl, hfr.1, hroom, hws, List.mem_singleton.mpr rfl⟩, hcode0, hini, ⟨w3, w4⟩, hpn, hl⟩, hin, hsel⟩ ⟨PCc_blind, hcell, hPc⟩ rfl (by rw [List.length_map]; exact hn) hsz rfl (lv_room hrest) hd hf
  · subst has
    rw [hk] at w5
    simp only [Bool.and_eq_true, decide_eq_true_eq] at w5
    have hin : (Cond.instanceMethod (ynm m')).before args s = true := onT rfl (hE.word w5.1)
    have ha : (vr b :: bs).map (rep G) = .ref (gad G b) :: bs.map (rep G) := by
      rw [List.map_cons]
      congr 1
    rw [ha] at hPc ⊢
    have hstk : (Value.ref (gad G b) :: bs.map (rep G)).reverse ++ rest = (bs.map (rep G)).reverse ++ .ref (gad G b) :: rest := by simp
    rw [hstk]
    have hrty : rty m' = none := by
      have := List.all_eq_true.mp rt_ok m' (List.mem_range.mpr h2)
      cases hr : rty m' with
      | none => rfl
      | some t =>
        rw [hr] at this
        dsimp only at this
        rw [Bool.and_eq_true] at this
        have e := Nat.eq_of_beq_eq_true this.1
        rw [hrt] at e
        cases t <;> cases e
    rw [hrty] at hws hcode0 hM
    rcases hlk with hl | hl
    · exact va_runI (As := bs.map (rep G)) hcf hM ⟨⟨rfl, rfl, hfr.1, hroom, hws, List.mem_singleton.mpr rfl, hcode0, hini, ⟨w3, w4⟩, hpn, hl⟩, w5.2, hin⟩ ⟨PCc_blind, hPc⟩ rfl (by rw [List.length_map]; exact hn) hsz rfl (lv_room hrest) hd hf
    · exact va_runIN (As := bs.map (rep G)) hcf hM ⟨⟨⟨rfl, rfl, hfr.1, hroom, hws, List.mem_singleton.mpr rfl⟩, hcode0, hini, ⟨w3, w4⟩, hpn, hl⟩, w5.2, hin⟩ ⟨PCc_blind, hPc⟩ rfl (by rw [List.length_map]; exact hn) hsz rfl (lv_room hrest) hd hf
/-- behind a call: what is on the stack -/
theorem psh_rep {rt : Nat} {code : Nat} {v : Int} {r : List TV} (hcode : (code : Int) = (match rt with
    | 9 => 9
    | 1 => 1
    | 2 => 2
    | _ => 0)) (hv : okc rt v) : (psh code v r).map (rep G) = (rvo G rt v).toList ++ r.map (rep G) ∧ ((∀ u ∈ r, okv u) → ∀ u ∈ psh code v r, okv u) := by
  match rt, hcode with
  | 9, hcode =>
    have hcode : (code : Int) = 9 := hcode
    have e : code = 9 := by omega
    subst e
    exact ⟨rfl, fun h => h⟩
  | 1, hcode =>
    have hcode : (code : Int) = 1 := hcode
    have e : code = 1 := by omega
    subst e
    exact ⟨rfl, fun h => cons_ok hv h⟩
  | 2, hcode =>
    have hcode : (code : Int) = 2 := hcode
    have e : code = 2 := by omega
    subst e
    exact ⟨rfl, fun h => cons_ok trivial h⟩
  | 0, hcode =>
    have hcode : (code : Int) = 0 := hcode
    have e : code = 0 := by omega
    subst e
    exact ⟨rfl, fun h => cons_ok hv h⟩
  | 3, hcode =>
    have hcode : (code : Int) = 0 := hcode
    have e : code = 0 := by omega
    subst e
    exact ⟨rfl, fun h => cons_ok (okc_r hv (by decide) (by decide)) h⟩
  | 4, hcode =>
    have hcode : (code : Int) = 0 := hcode
    have e : code = 0 := by omega
    subst e
    exact ⟨rfl, fun h => cons_ok (okc_r hv (by decide) (by decide)) h⟩
  | 5, hcode =>
    have hcode : (code : Int) = 0 := hcode
    have e : code = 0 := by omega
    subst e
    exact ⟨rfl, fun h => cons_ok (okc_r hv (by decide) (by decide)) h⟩
  | 6, hcode =>
    have hcode : (code : Int) = 0 := hcode
    have e : code = 0 := by omega
    subst e
    exact ⟨rfl, fun h => cons_ok (okc_r hv (by decide) (by decide)) h⟩
  | 7, hcode =>
    have hcode : (code : Int) = 0 := hcode
    have e : code = 0 := by omega
    subst e
    exact ⟨rfl, fun h => cons_ok (okc_r hv (by decide) (by decide)) h⟩
  | 8, hcode =>
    have hcode : (code : Int) = 0 := hcode
    have e : code = 0 := by omega
    subst e
    exact ⟨rfl, fun h => cons_ok (okc_r hv (by decide) (by decide)) h⟩
  | n + 10, hcode =>
    have e : code = 0 := by
      have : (code : Int) = 0 := hcode
      omega
    subst e
    exact ⟨rfl, fun h => cons_ok (okc_r hv (by first | decide | omega) (by first | decide | omega)) h⟩
theorem bind_some {o : Rs} {kk : Int → AH → Rs} (h : bindR o kk = some F) : ∃ v S', o = some (v, S') ∧ kk v S' = some F := by
  unfold bindR at h
  split at h
  · exact ⟨_, _, rfl, h⟩
  · cases h
end SND
