section
-- 09j.ctl
/-! control, calls, returns -/
noncomputable def rvo (G : GE) (rt : Nat) (r : Int) : Option Value := match rt with
  | 9 => none
  | t => some (rep G (mkv t r))
noncomputable def retI (rt : Nat) : Instr := match rt with
  | 9 => .return_
  | 1 => .lreturn
  | 2 => .areturn
  | _ => .ireturn
noncomputable def PCc (G : GE) (w : WC) (S : AH) (as : List TV) : Array Value → State → Prop := fun a U => a = (as.map (rep G)).toArray ∧ Rel G w S U.heap ∧ EN G U U.heap
noncomputable def QCc (G : GE) (w : WC) (S' : AH) (rt : Nat) (v : Int) : Array Value → State → Outcome → State → Prop := fun _ st o t => o = .returned (rvo G rt v) ∧ okc rt v ∧ Rel G w S' t.heap ∧ va_F (AA G) st t
noncomputable def rmd (d : Nat) (S S' : AH) : Room := { frames := d, cells := S'.1.1 - S.1.1, slots := S'.1.2.1 - S.1.2.1, locals := 64 * d }
/-- a method's run is the machine's -/
noncomputable def MTok (l : Launch) (G : GE) (w : WC) (d m : Nat) (as : List TV) (S : AH) (v : Int) (S' : AH) : Prop := LE2 S S' ∧ ((∀ u ∈ as, okv u) → Met l (ynm m) [.code (ynm m) (byo m) (mlOf m) (rty m)] (rmd d S S') (PCc G w S as) (QCc G w S' (rtOf m) v) (S'.1.1 - S.1.1) (S'.1.2.1 - S.1.2.1) (AA G))
theorem PCc_blind {G : GE} {w : WC} {S : AH} {as : List TV} : FrameBlind (PCc G w S as) := by
  intro a U g mk h
  exact ⟨h.1, h.2.1, EN.next (U := U.calling g mk a) (locs := []) h.2.2 (State.WarmedH.refl U) va_S.rf⟩
/-- a method of Math that the machine has no entry for is called as any other -/
noncomputable def mwOk2 (m : Nat) : Bool := wok1 (mw m).2.2.1 (.initialized (ynm m).cls) && plainFor (ynm m) && decide ((ynm m).cls ≠ "java/lang/invoke/MethodHandle") && decide ((ynm m).cls ≠ "java/lang/invoke/VarHandle") && (match (mw m).1 with
  | 0 => wok1 (mw m).2.2.2.1 (.static (ynm m))
  | 1 => wok1 (mw m).2.2.2.1 (.instanceMethod (ynm m)) && wok1 (mw m).2.2.2.2 (.selects (ynm m).cls (ynm m) (ynm m))
  | _ => wok1 (mw m).2.2.2.1 (.instanceMethod (ynm m)) && decide ((ynm m).name = "<init>"))
theorem mw_337 : mwOk2 337 = true := by decide +kernel
theorem mw_at {m : Nat} (h1 : 1 ≤ m) (h2 : m < 338) : mwOk2 m = true := by
  by_cases h3 : m = 337
  · rw [h3]
    exact mw_337
  have h := List.all_eq_true.mp mw_ok (m - 1) (List.mem_range.mpr (by first | decide | omega))
  rw [show m - 1 + 1 = m by omega] at h
  unfold mwOk at h
  unfold mwOk2
  rw [Bool.and_eq_true, Bool.and_eq_true, Bool.and_eq_true, Bool.and_eq_true] at h ⊢
  exact ⟨⟨⟨⟨h.1.1.1.1, plainFor_of_name h.1.1.1.2⟩, h.1.1.2⟩, h.1.2⟩, h.2⟩
theorem pn_at {m : Nat} (h2 : m < 338) : (parseMethodDescriptor (ynm m).desc).map (fun d => d.parameters.length) = some (pn m) := of_decide_eq_true (List.all_eq_true.mp pn_ok m (List.mem_range.mpr h2))
theorem ml_ok : ((List.range 338).all fun m => Nat.ble (mlOf m) 40) = true := by decide +kernel
theorem ml_at {m : Nat} (h2 : m < 338) : mlOf m ≤ 40 := Nat.le_of_ble_eq_true (List.all_eq_true.mp ml_ok m (List.mem_range.mpr h2))
theorem okC_inv {b : ByteArray} {own : Nat} {ini : Bool} {e : CE} {cs : List CE} (h : okC b own ini (e :: cs) = true) : ∃ len, decode b e.1 = .ok (e.2.2.1, len) ∧ len = lenI e.2.2.1 len ∧ (∀ e' r, cs = e' :: r → e'.1 = e.1 + len) ∧ okI own ini e.1 e.2.2.1 e.2.2.2 = true ∧ okC b own ini cs = true := by
  unfold okC at h
  rw [Bool.and_eq_true, Bool.and_eq_true] at h
  obtain ⟨⟨h1, h2⟩, h3⟩ := h
  cases hd : decode b e.1 with
  | error _ => rw [hd] at h1; cases h1
  | ok q =>
    obtain ⟨i, len⟩ := q
    rw [hd] at h1
    dsimp only at h1
    rw [Bool.and_eq_true, Bool.and_eq_true] at h1
    have ei := eqI_eq h1.1.1
    subst ei
    refine ⟨len, rfl, Nat.eq_of_beq_eq_true h1.1.2, fun e' r hr => ?_, h2, h3⟩
    have h4 := h1.2
    rw [hr] at h4
    exact Nat.eq_of_beq_eq_true h4
theorem cde_spec {b : ByteArray} {own : Nat} {ini : Bool} {t : Nat} : ∀ cs : List CE, okC b own ini cs = true → okC b own ini (cde cs t) = true ∧ ∀ e r, cde cs t = e :: r → e.1 = t := by
  intro cs
  induction cs with
  | nil => intro _; exact ⟨rfl, fun e r h => by cases h⟩
  | cons e cs ih =>
    intro h
    unfold cde
    cases hb : Nat.beq e.1 t with
    | true => exact ⟨h, fun e' r q => by cases q; exact Nat.eq_of_beq_eq_true hb⟩
    | false =>
      obtain ⟨len, -, -, -, -, h5⟩ := okC_inv h
      exact ih h5
theorem takeA_spec : ∀ (n : Nat) (st acc as r : List TV), takeA n st acc = some (as, r) → ∃ l, l.length = n ∧ st = l ++ r ∧ as = l.reverse ++ acc := by
  intro n
  induction n with
  | zero => intro st acc as r h; cases h; exact ⟨[], rfl, rfl, rfl⟩
  | succ n ih =>
    intro st acc as r h
    match st, h with
    | v :: st, h =>
      obtain ⟨l, h1, h2, h3⟩ := ih st (v :: acc) as r h
      exact ⟨v :: l, by simp [h1], by rw [h2]; rfl, by rw [h3]; simp⟩
section SND
variable {p : Program} {l : Launch} {e : Env} {R : Room} {s : State} {m : MethodId} {args : Array Value} {below : List Frame} {meth : Method} {c : Code} {G : GE} {w : WC} {mi : Nat} {Q : State → Prop} {n0 s0 : Nat} {SF : AH} {F : Int × AH} {pc len : Nat} {ls : LV} {st : List TV} {S : AH} {k : KT}
theorem call_end {H : Heap} {locs : List Loc} {cells slots mc ms : Nat} {lsC : Array Slot} {st0 rest : List Value} {S' : AH} {rt : Nat} {vo : Int} {as : Array Value} (hrun : va_Run p l e R s m args below meth c H locs cells slots mc ms (F0 m pc lsC st0) rest (QCc G w S' rt vo as) (AA G)) (hS : va_S (AA G) s.heap H locs)
    (kk : okc rt vo → ∀ (H' : Heap) (locs' : List Loc), Rel G w S' H' → va_S (AA G) s.heap H' locs' → W p l e R s m args below meth c H' locs' (cells + mc) (slots + ms) Q (F0 m (pc + 3) lsC ((rvo G rt vo).toList ++ rest))) : W p l e R s m args below meth c H locs cells slots Q (F0 m pc lsC st0) := by
  intro T hT X
  obtain ⟨v, st₀, t, T', L, h0, X', hL, e1, e2, ⟨hv, hokc, hR, hz, hk⟩, stp⟩ := hrun T hT X
  cases hv
  rw [h0] at hz hk
  obtain ⟨t2, a1, b1⟩ := kk hokc T'.heap (locs ++ L) (by rw [e1]; exact hR)
    ⟨Nat.le_trans hS.1 (by rw [e1]; exact hz), fun q h1 h2 => by rw [e1, hk q (Nat.lt_of_lt_of_le h1 hS.1) h2]; exact hS.2.1 q h1 h2, fun q hq => by
      rcases List.mem_append.mp hq with h | h
      · exact hS.2.2 q h
      · exact hL q h⟩ T' rfl X'
  exact ⟨t2, stp t2 a1, b1⟩
theorem mk_link (hE : EN G s s.heap) {q m' : Nat} (he : (mkl.any fun e => mtc e.1 e.2.1 (ow mi) q && Nat.beq e.2.2.1 m') = true) : (Cond.methodLink (cnm (ow mi)) q (ynm m')).before args s = true ∨ (Cond.methodLinkNest (cnm (ow mi)) q (ynm m') "SupplyBook").before args s = true := by
  obtain ⟨en, hen, hm⟩ := List.any_eq_true.mp he
  rw [Bool.and_eq_true] at hm
  obtain ⟨m1, m2⟩ := mtc_eq hm.1
  have m3 := Nat.eq_of_beq_eq_true hm.2
  have hl := List.all_eq_true.mp mkl_ok en hen
  rw [m1, m2, m3] at hl
  cases hn : en.2.2.2.2 with
  | true => rw [hn] at hl; exact Or.inr (onT rfl (hE.word hl))
  | false => rw [hn] at hl; exact Or.inl (onT rfl (hE.word hl))
theorem code_kw (m' : Nat) : kw (Cond.code (ynm m') (byo m') (mlOf m') (rty m')) = true := rfl
/-- the three kinds of calls give one run -/
theorem run_call (hc : CX G p s m meth c mi) {d m' q : Nat} {as : List TV} {S S' : AH} {v : Int} (h1 : 1 ≤ m') (h2 : m' < 338) (hM : MTok l G w d m' as S v S') (hoa : ∀ u ∈ as, okv u) (hfr : d + 1 ≤ R.frames ∧ 64 * (d + 1) ≤ R.locals) (hlk : (Cond.methodLink (cnm (ow mi)) q (ynm m')).before args s = true ∨ (Cond.methodLinkNest (cnm (ow mi)) q (ynm m') "SupplyBook").before args s = true)
    {H : Heap} {locs : List Loc} {cells slots : Nat} {lsC : Array Slot} {rest : List Value} (hR : Rel G w S H) (hS : va_S (AA G) s.heap H locs) (hsz : lsC.size = mlOf mi) (hrest : (rest.map fun v => v.category).sum ≤ 8) (hf : cells + (S'.1.1 - S.1.1) ≤ R.cells ∧ slots + (S'.1.2.1 - S.1.2.1) ≤ R.slots) :
    ((mw m').1 = 0 → as.length = pn m' → decode (byo mi) pc = .ok (.invokestatic q, 3) → va_Run p l e R s m args below meth c H locs cells slots (S'.1.1 - S.1.1) (S'.1.2.1 - S.1.2.1) (F0 m pc lsC ((as.map (rep G)).reverse ++ rest)) rest (QCc G w S' (rtOf m') v (as.map (rep G)).toArray) (AA G)) ∧
    (∀ (b : Nat) (bs : List TV), as = vr b :: bs → rf G b = .ref (gad G b) → (∃ cellB : Cell, H[gad G b]? = some cellB ∧ cellB.vm.isStatics = false ∧ s.vm.findClass (ynm m').cls = some cellB.cls) → bs.length = pn m' → ((mw m').1 = 1 → decode (byo mi) pc = .ok (.invokevirtual q, 3) → va_Run p l e R s m args below meth c H locs cells slots (S'.1.1 - S.1.1) (S'.1.2.1 - S.1.2.1) (F0 m pc lsC ((as.map (rep G)).reverse ++ rest)) rest (QCc G w S' (rtOf m') v (as.map (rep G)).toArray) (AA G)) ∧
      ((mw m').1 = 2 → rtOf m' = 9 → decode (byo mi) pc = .ok (.invokespecial q, 3) → va_Run p l e R s m args below meth c H locs cells slots (S'.1.1 - S.1.1) (S'.1.2.1 - S.1.2.1) (F0 m pc lsC ((as.map (rep G)).reverse ++ rest)) rest (QCc G w S' (rtOf m') v (as.map (rep G)).toArray) (AA G))) := by
  have hE := hc.2.2.2.2.2.1
  obtain ⟨hle, hM⟩ := hM
  have hM := hM hoa
  have hmw := mw_at h1 h2
  unfold mwOk2 at hmw
  simp only [Bool.and_eq_true, decide_eq_true_eq] at hmw
  obtain ⟨⟨⟨⟨w1, w2⟩, w3⟩, w4⟩, w5⟩ := hmw
  have hcode : ∀ (a' : Array Value) (U : State), s.WarmedH U.vm → (Cond.code (ynm m') (byo m') (mlOf m') (rty m')).before a' U = true := fun a' U hW => onT rfl (kw_warm (code_kw m') hW (hE.1 _ (cw_all h1 h2) (code_kw m')))
  have hws : ∀ w ∈ [Cond.code (ynm m') (byo m') (mlOf m') (rty m')], ∀ (a' : Array Value) (U : State), s.WarmedH U.vm → w.before a' U = true := by
    intro w hw a' U hW
    rw [List.mem_singleton] at hw
    subst hw
    exact hcode a' U hW
  have hcode0 : (Cond.code (ynm m') (byo m') (mlOf m') (rty m')).before args s = true := hcode args s (State.WarmedH.refl s)
  have hini : (Cond.initialized (ynm m').cls).before args s = true := onT rfl (hE.word w1)
  have hpn : ∀ sig, parseMethodDescriptor (ynm m').desc = some sig → pn m' = sig.parameters.length := by
    intro sig hsig
    have := pn_at h2
    rw [hsig] at this
    exact (Option.some.inj this).symm
  have hml := ml_at h2
  have hroom : 8 + (mlOf m' + 11) + (rmd d S S').locals ≤ R.locals := by
    show 8 + (mlOf m' + 11) + 64 * d ≤ R.locals
    omega
  have hPc : ∀ U : State, U.heap = H → s.WarmedH U.vm → PCc G w S as (as.map (rep G)).toArray U := by
    intro U hU hW
    exact ⟨rfl, by rw [hU]; exact hR, EN.next (locs := locs) hE hW (by rw [hU]; exact hS)⟩
  have hcf : CallFix p m c (byo mi) (mlOf mi) s args [] (cnm (ow mi)) := ⟨hc.1, hc.2.1, hc.2.2.1, hc.2.2.2.1, fun w h => by cases h⟩
  refine ⟨fun hk hn hd => ?_, fun b bs has hrf hcell hn => ⟨fun hk hd => ?_, fun hk hrt hd => ?_⟩⟩
  · rw [hk] at w5
    have hst : (Cond.static (ynm m')).before args s = true := onT rfl (hE.word w5)
    rcases hlk with hl | hl
    · exact va_runS (As := as.map (rep G)) hcf hM ⟨⟨rfl, rfl, hfr.1, hroom, hws, List.mem_singleton.mpr rfl, hcode0, hini, ⟨w3, w4⟩, hpn, hl⟩, hst⟩ ⟨PCc_blind, hPc⟩ rfl (by rw [List.length_map]; exact hn) hsz rfl (lv_room hrest) hd hf
    · exact va_runSN (As := as.map (rep G)) hcf hM ⟨⟨⟨rfl, rfl, hfr.1, hroom, hws, List.mem_singleton.mpr rfl⟩, hcode0, hini, ⟨w3, w4⟩, hpn, hl⟩, hst, trivial⟩ ⟨PCc_blind, hPc⟩ rfl (by rw [List.length_map]; exact hn) hsz rfl (lv_room hrest) hd hf
  · subst has
    rw [hk] at w5
    simp only [Bool.and_eq_true] at w5
    have hin : (Cond.instanceMethod (ynm m')).before args s = true := onT rfl (hE.word w5.1)
    have hsel : (Cond.selects (ynm m').cls (ynm m') (ynm m')).before args s = true := onT rfl (hE.word w5.2)
    have ha : (vr b :: bs).map (rep G) = .ref (gad G b) :: bs.map (rep G) := by
      rw [List.map_cons]
      congr 1
    rw [ha] at hPc ⊢
    have hstk : (Value.ref (gad G b) :: bs.map (rep G)).reverse ++ rest = (bs.map (rep G)).reverse ++ .ref (gad G b) :: rest := by simp
    rw [hstk]
    rcases hlk with hl | hl
    · exact va_runV (As := bs.map (rep G)) (C := (ynm m').cls) hcf hM ⟨⟨rfl, rfl, hfr.1, hroom, hws, List.mem_singleton.mpr rfl, hcode0, hini, ⟨w3, w4⟩, hpn, hl⟩, hin, hsel⟩ ⟨PCc_blind, hcell, hPc⟩ rfl (by rw [List.length_map]; exact hn) hsz rfl (lv_room hrest) hd hf
    · exact va_runVN (As := bs.map (rep G)) (C := (ynm m').cls) hcf hM ⟨⟨⟨rfl, rfl, hfr.1, hroom, hws, List.mem_singleton.mpr rfl⟩, hcode0, hini, ⟨w3, w4⟩, hpn, hl⟩, hin, hsel⟩ ⟨PCc_blind, hcell, hPc⟩ rfl (by rw [List.length_map]; exact hn) hsz rfl (lv_room hrest) hd hf
  · subst has
    rw [hk] at w5
    simp only [Bool.and_eq_true, decide_eq_true_eq] at w5
    have hin : (Cond.instanceMethod (ynm m')).before args s = true := onT rfl (hE.word w5.1)
    have ha : (vr b :: bs).map (rep G) = .ref (gad G b) :: bs.map (rep G) := by
      rw [List.map_cons]
      congr 1
    rw [ha] at hPc ⊢
    have hstk : (Value.ref (gad G b) :: bs.map (rep G)).reverse ++ rest = (bs.map (rep G)).reverse ++ .ref (gad G b) :: rest := by simp
    rw [hstk]
    have hrty : rty m' = none := by
      have := List.all_eq_true.mp rt_ok m' (List.mem_range.mpr h2)
      cases hr : rty m' with
      | none => rfl
      | some t =>
        rw [hr] at this
        dsimp only at this
        rw [Bool.and_eq_true] at this
        have e := Nat.eq_of_beq_eq_true this.1
        rw [hrt] at e
        cases t <;> cases e
    rw [hrty] at hws hcode0 hM
    rcases hlk with hl | hl
    · exact va_runI (As := bs.map (rep G)) hcf hM ⟨⟨rfl, rfl, hfr.1, hroom, hws, List.mem_singleton.mpr rfl, hcode0, hini, ⟨w3, w4⟩, hpn, hl⟩, w5.2, hin⟩ ⟨PCc_blind, hPc⟩ rfl (by rw [List.length_map]; exact hn) hsz rfl (lv_room hrest) hd hf
    · exact va_runIN (As := bs.map (rep G)) hcf hM ⟨⟨⟨rfl, rfl, hfr.1, hroom, hws, List.mem_singleton.mpr rfl⟩, hcode0, hini, ⟨w3, w4⟩, hpn, hl⟩, w5.2, hin⟩ ⟨PCc_blind, hPc⟩ rfl (by rw [List.length_map]; exact hn) hsz rfl (lv_room hrest) hd hf
/-- behind a call: what is on the stack -/
theorem psh_rep {rt : Nat} {code : Nat} {v : Int} {r : List TV} (hcode : (code : Int) = (match rt with
    | 9 => 9
    | 1 => 1
    | 2 => 2
    | _ => 0)) (hv : okc rt v) : (psh code v r).map (rep G) = (rvo G rt v).toList ++ r.map (rep G) ∧ ((∀ u ∈ r, okv u) → ∀ u ∈ psh code v r, okv u) := by
  match rt, hcode with
  | 9, hcode =>
    have hcode : (code : Int) = 9 := hcode
    have e : code = 9 := by omega
    subst e
    exact ⟨rfl, fun h => h⟩
  | 1, hcode =>
    have hcode : (code : Int) = 1 := hcode
    have e : code = 1 := by omega
    subst e
    exact ⟨rfl, fun h => cons_ok hv h⟩
  | 2, hcode =>
    have hcode : (code : Int) = 2 := hcode
    have e : code = 2 := by omega
    subst e
    exact ⟨rfl, fun h => cons_ok trivial h⟩
  | 0, hcode =>
    have hcode : (code : Int) = 0 := hcode
    have e : code = 0 := by omega
    subst e
    exact ⟨rfl, fun h => cons_ok hv h⟩
  | 3, hcode =>
    have hcode : (code : Int) = 0 := hcode
    have e : code = 0 := by omega
    subst e
    exact ⟨rfl, fun h => cons_ok (okc_r hv (by decide) (by decide)) h⟩
  | 4, hcode =>
    have hcode : (code : Int) = 0 := hcode
    have e : code = 0 := by omega
    subst e
    exact ⟨rfl, fun h => cons_ok (okc_r hv (by decide) (by decide)) h⟩
  | 5, hcode =>
    have hcode : (code : Int) = 0 := hcode
    have e : code = 0 := by omega
    subst e
    exact ⟨rfl, fun h => cons_ok (okc_r hv (by decide) (by decide)) h⟩
  | 6, hcode =>
    have hcode : (code : Int) = 0 := hcode
    have e : code = 0 := by omega
    subst e
    exact ⟨rfl, fun h => cons_ok (okc_r hv (by decide) (by decide)) h⟩
  | 7, hcode =>
    have hcode : (code : Int) = 0 := hcode
    have e : code = 0 := by omega
    subst e
    exact ⟨rfl, fun h => cons_ok (okc_r hv (by decide) (by decide)) h⟩
  | 8, hcode =>
    have hcode : (code : Int) = 0 := hcode
    have e : code = 0 := by omega
    subst e
    exact ⟨rfl, fun h => cons_ok (okc_r hv (by decide) (by decide)) h⟩
  | n + 10, hcode =>
    have e : code = 0 := by
      have : (code : Int) = 0 := hcode
      omega
    subst e
    exact ⟨rfl, fun h => cons_ok (okc_r hv (by first | decide | omega) (by first | decide | omega)) h⟩
theorem bind_some {o : Rs} {kk : Int → AH → Rs} (h : bindR o kk = some F) : ∃ v S', o = some (v, S') ∧ kk v S' = some F := by
  unfold bindR at h
  split at h
  · exact ⟨_, _, rfl, h⟩
  · cases h
end SND
end
section
-- 09k.br
section SND
variable {p : Program} {l : Launch} {e : Env} {R : Room} {s : State} {m : MethodId} {args : Array Value} {below : List Frame} {meth : Method} {c : Code} {G : GE} {w : WC} {mi : Nat} {Q : State → Prop} {n0 s0 : Nat} {SF : AH} {F : Int × AH} {pc len : Nat} {ls : LV} {st : List TV} {S : AH} {k : KT}
theorem ite_some {P : Prop} [Decidable P] {X Y : Rs} (h : (if P then X else Y) = some F) : (P ∧ X = some F) ∨ (¬ P ∧ Y = some F) := by
  by_cases hp : P
  · rw [if_pos hp] at h; exact Or.inl ⟨hp, h⟩
  · rw [if_neg hp] at h; exact Or.inr ⟨hp, h⟩
theorem tgt_eq {off : Int} (h0 : 0 ≤ (pc : Int) + off) : (pc : Int) + off = ((tgt pc off : Nat) : Int) := (Int.toNat_of_nonneg h0).symm
theorem r0 : r32 0 := by unfold r32; omega
theorem s_if0 (hc : CX G p s m meth c mi) {cd : Jvm.ClassFile.Cond} {off : Int} {a : Int} {r : List TV} {A B : Rs} (hd : decode (byo mi) pc = .ok (.ifCond cd off, 3)) (h0 : 0 ≤ (pc : Int) + off) (h : bIf cd a 0 A B = some F) (hA : A = some F → PP p l e R s m args below meth c G w mi Q n0 s0 SF (tgt pc off) ls r S) (hB : B = some F → PP p l e R s m args below meth c G w mi Q n0 s0 SF (pc + 3) ls r S) : PP p l e R s m args below meth c G w mi Q n0 s0 SF pc ls (vi a :: r) S := by
  have ht := tgt_eq h0
  unfold bIf at h
  cases cd with
  | eq =>
    dsimp only at h
    rcases ite_some h with ⟨hp, h⟩ | ⟨hp, h⟩
    · have h1 := hA h
      refine ⟨h1.1, fun H locs lsC hR hS hL hv hn hs => ?_⟩
      have ha : r32 a := (ok_cons hv).1
      have hg := h1.2 H locs lsC hR hS hL (ok_cons hv).2 hn hs
      exact lv_if_eq hc.1 hc.2.1 hd ht (fun _ => hg) (fun z => absurd ((zero32 ha).mpr hp) z)
    · have h1 := hB h
      refine ⟨h1.1, fun H locs lsC hR hS hL hv hn hs => ?_⟩
      have ha : r32 a := (ok_cons hv).1
      have hg := h1.2 H locs lsC hR hS hL (ok_cons hv).2 hn hs
      exact lv_if_eq hc.1 hc.2.1 hd ht (fun z => absurd ((zero32 ha).mp z) hp) (fun _ => hg)
  | ne =>
    dsimp only at h
    rcases ite_some h with ⟨hp, h⟩ | ⟨hp, h⟩
    · have h1 := hB h
      refine ⟨h1.1, fun H locs lsC hR hS hL hv hn hs => ?_⟩
      have ha : r32 a := (ok_cons hv).1
      have hg := h1.2 H locs lsC hR hS hL (ok_cons hv).2 hn hs
      exact lv_if_ne hc.1 hc.2.1 hd ht (fun z => absurd ((zero32 ha).mpr hp) z) (fun _ => hg)
    · have h1 := hA h
      refine ⟨h1.1, fun H locs lsC hR hS hL hv hn hs => ?_⟩
      have ha : r32 a := (ok_cons hv).1
      have hg := h1.2 H locs lsC hR hS hL (ok_cons hv).2 hn hs
      exact lv_if_ne hc.1 hc.2.1 hd ht (fun _ => hg) (fun z => absurd ((zero32 ha).mp z) hp)
  | lt =>
    dsimp only at h
    rcases ite_some h with ⟨hp, h⟩ | ⟨hp, h⟩
    · have h1 := hA h
      refine ⟨h1.1, fun H locs lsC hR hS hL hv hn hs => ?_⟩
      have ha : r32 a := (ok_cons hv).1
      have hg := h1.2 H locs lsC hR hS hL (ok_cons hv).2 hn hs
      exact lv_if_lt hc.1 hc.2.1 hd ht (fun _ => hg) (fun z => absurd ((lt32 ha r0).mpr hp) z)
    · have h1 := hB h
      refine ⟨h1.1, fun H locs lsC hR hS hL hv hn hs => ?_⟩
      have ha : r32 a := (ok_cons hv).1
      have hg := h1.2 H locs lsC hR hS hL (ok_cons hv).2 hn hs
      exact lv_if_lt hc.1 hc.2.1 hd ht (fun z => absurd ((lt32 ha r0).mp z) hp) (fun _ => hg)
  | ge =>
    dsimp only at h
    rcases ite_some h with ⟨hp, h⟩ | ⟨hp, h⟩
    · have h1 := hB h
      refine ⟨h1.1, fun H locs lsC hR hS hL hv hn hs => ?_⟩
      have ha : r32 a := (ok_cons hv).1
      have hg := h1.2 H locs lsC hR hS hL (ok_cons hv).2 hn hs
      exact lv_if_ge hc.1 hc.2.1 hd ht (fun z => absurd ((le32 r0 ha).mp z) (by first | decide | omega)) (fun _ => hg)
    · have h1 := hA h
      refine ⟨h1.1, fun H locs lsC hR hS hL hv hn hs => ?_⟩
      have ha : r32 a := (ok_cons hv).1
      have hg := h1.2 H locs lsC hR hS hL (ok_cons hv).2 hn hs
      exact lv_if_ge hc.1 hc.2.1 hd ht (fun _ => hg) (fun z => absurd ((le32 r0 ha).mpr (by first | decide | omega)) z)
  | gt =>
    dsimp only at h
    rcases ite_some h with ⟨hp, h⟩ | ⟨hp, h⟩
    · have h1 := hA h
      refine ⟨h1.1, fun H locs lsC hR hS hL hv hn hs => ?_⟩
      have ha : r32 a := (ok_cons hv).1
      have hg := h1.2 H locs lsC hR hS hL (ok_cons hv).2 hn hs
      exact lv_if_gt hc.1 hc.2.1 hd ht (fun _ => hg) (fun z => absurd ((lt32 r0 ha).mpr hp) z)
    · have h1 := hB h
      refine ⟨h1.1, fun H locs lsC hR hS hL hv hn hs => ?_⟩
      have ha : r32 a := (ok_cons hv).1
      have hg := h1.2 H locs lsC hR hS hL (ok_cons hv).2 hn hs
      exact lv_if_gt hc.1 hc.2.1 hd ht (fun z => absurd ((lt32 r0 ha).mp z) hp) (fun _ => hg)
  | le =>
    dsimp only at h
    rcases ite_some h with ⟨hp, h⟩ | ⟨hp, h⟩
    · have h1 := hB h
      refine ⟨h1.1, fun H locs lsC hR hS hL hv hn hs => ?_⟩
      have ha : r32 a := (ok_cons hv).1
      have hg := h1.2 H locs lsC hR hS hL (ok_cons hv).2 hn hs
      exact lv_if_le hc.1 hc.2.1 hd ht (fun z => absurd ((le32 ha r0).mp z) (by first | decide | omega)) (fun _ => hg)
    · have h1 := hA h
      refine ⟨h1.1, fun H locs lsC hR hS hL hv hn hs => ?_⟩
      have ha : r32 a := (ok_cons hv).1
      have hg := h1.2 H locs lsC hR hS hL (ok_cons hv).2 hn hs
      exact lv_if_le hc.1 hc.2.1 hd ht (fun _ => hg) (fun z => absurd ((le32 ha r0).mpr (by first | decide | omega)) z)
theorem s_ifc (hc : CX G p s m meth c mi) {cd : Jvm.ClassFile.Cond} {off : Int} {a b : Int} {r : List TV} {A B : Rs} (hd : decode (byo mi) pc = .ok (.if_icmp cd off, 3)) (h0 : 0 ≤ (pc : Int) + off) (h : bIf cd a b A B = some F) (hA : A = some F → PP p l e R s m args below meth c G w mi Q n0 s0 SF (tgt pc off) ls r S) (hB : B = some F → PP p l e R s m args below meth c G w mi Q n0 s0 SF (pc + 3) ls r S) : PP p l e R s m args below meth c G w mi Q n0 s0 SF pc ls (vi b :: vi a :: r) S := by
  have ht := tgt_eq h0
  unfold bIf at h
  cases cd with
  | eq =>
    dsimp only at h
    rcases ite_some h with ⟨hp, h⟩ | ⟨hp, h⟩
    · have h1 := hA h
      refine ⟨h1.1, fun H locs lsC hR hS hL hv hn hs => ?_⟩
      have hb : r32 b := (ok_cons hv).1
      have ha : r32 a := (ok_cons (ok_cons hv).2).1
      have hg := h1.2 H locs lsC hR hS hL (ok_cons (ok_cons hv).2).2 hn hs
      exact lv_icmp_eq hc.1 hc.2.1 hd ht (fun _ => hg) (fun z => absurd ((eq32 ha hb).mpr hp) z)
    · have h1 := hB h
      refine ⟨h1.1, fun H locs lsC hR hS hL hv hn hs => ?_⟩
      have hb : r32 b := (ok_cons hv).1
      have ha : r32 a := (ok_cons (ok_cons hv).2).1
      have hg := h1.2 H locs lsC hR hS hL (ok_cons (ok_cons hv).2).2 hn hs
      exact lv_icmp_eq hc.1 hc.2.1 hd ht (fun z => absurd ((eq32 ha hb).mp z) hp) (fun _ => hg)
  | ne =>
    dsimp only at h
    rcases ite_some h with ⟨hp, h⟩ | ⟨hp, h⟩
    · have h1 := hB h
      refine ⟨h1.1, fun H locs lsC hR hS hL hv hn hs => ?_⟩
      have hb : r32 b := (ok_cons hv).1
      have ha : r32 a := (ok_cons (ok_cons hv).2).1
      have hg := h1.2 H locs lsC hR hS hL (ok_cons (ok_cons hv).2).2 hn hs
      exact lv_icmp_ne hc.1 hc.2.1 hd ht (fun z => absurd ((eq32 ha hb).mpr hp) z) (fun _ => hg)
    · have h1 := hA h
      refine ⟨h1.1, fun H locs lsC hR hS hL hv hn hs => ?_⟩
      have hb : r32 b := (ok_cons hv).1
      have ha : r32 a := (ok_cons (ok_cons hv).2).1
      have hg := h1.2 H locs lsC hR hS hL (ok_cons (ok_cons hv).2).2 hn hs
      exact lv_icmp_ne hc.1 hc.2.1 hd ht (fun _ => hg) (fun z => absurd ((eq32 ha hb).mp z) hp)
  | lt =>
    dsimp only at h
    rcases ite_some h with ⟨hp, h⟩ | ⟨hp, h⟩
    · have h1 := hA h
      refine ⟨h1.1, fun H locs lsC hR hS hL hv hn hs => ?_⟩
      have hb : r32 b := (ok_cons hv).1
      have ha : r32 a := (ok_cons (ok_cons hv).2).1
      have hg := h1.2 H locs lsC hR hS hL (ok_cons (ok_cons hv).2).2 hn hs
      exact lv_icmp_lt hc.1 hc.2.1 hd ht (fun _ => hg) (fun z => absurd ((lt32 ha hb).mpr hp) z)
    · have h1 := hB h
      refine ⟨h1.1, fun H locs lsC hR hS hL hv hn hs => ?_⟩
      have hb : r32 b := (ok_cons hv).1
      have ha : r32 a := (ok_cons (ok_cons hv).2).1
      have hg := h1.2 H locs lsC hR hS hL (ok_cons (ok_cons hv).2).2 hn hs
      exact lv_icmp_lt hc.1 hc.2.1 hd ht (fun z => absurd ((lt32 ha hb).mp z) hp) (fun _ => hg)
  | ge =>
    dsimp only at h
    rcases ite_some h with ⟨hp, h⟩ | ⟨hp, h⟩
    · have h1 := hB h
      refine ⟨h1.1, fun H locs lsC hR hS hL hv hn hs => ?_⟩
      have hb : r32 b := (ok_cons hv).1
      have ha : r32 a := (ok_cons (ok_cons hv).2).1
      have hg := h1.2 H locs lsC hR hS hL (ok_cons (ok_cons hv).2).2 hn hs
      exact lv_icmp_ge hc.1 hc.2.1 hd ht (fun z => absurd ((le32 hb ha).mp z) (by first | decide | omega)) (fun _ => hg)
    · have h1 := hA h
      refine ⟨h1.1, fun H locs lsC hR hS hL hv hn hs => ?_⟩
      have hb : r32 b := (ok_cons hv).1
      have ha : r32 a := (ok_cons (ok_cons hv).2).1
      have hg := h1.2 H locs lsC hR hS hL (ok_cons (ok_cons hv).2).2 hn hs
      exact lv_icmp_ge hc.1 hc.2.1 hd ht (fun _ => hg) (fun z => absurd ((le32 hb ha).mpr (by first | decide | omega)) z)
  | gt =>
    dsimp only at h
    rcases ite_some h with ⟨hp, h⟩ | ⟨hp, h⟩
    · have h1 := hA h
      refine ⟨h1.1, fun H locs lsC hR hS hL hv hn hs => ?_⟩
      have hb : r32 b := (ok_cons hv).1
      have ha : r32 a := (ok_cons (ok_cons hv).2).1
      have hg := h1.2 H locs lsC hR hS hL (ok_cons (ok_cons hv).2).2 hn hs
      exact lv_icmp_gt hc.1 hc.2.1 hd ht (fun _ => hg) (fun z => absurd ((lt32 hb ha).mpr hp) z)
    · have h1 := hB h
      refine ⟨h1.1, fun H locs lsC hR hS hL hv hn hs => ?_⟩
      have hb : r32 b := (ok_cons hv).1
      have ha : r32 a := (ok_cons (ok_cons hv).2).1
      have hg := h1.2 H locs lsC hR hS hL (ok_cons (ok_cons hv).2).2 hn hs
      exact lv_icmp_gt hc.1 hc.2.1 hd ht (fun z => absurd ((lt32 hb ha).mp z) hp) (fun _ => hg)
  | le =>
    dsimp only at h
    rcases ite_some h with ⟨hp, h⟩ | ⟨hp, h⟩
    · have h1 := hB h
      refine ⟨h1.1, fun H locs lsC hR hS hL hv hn hs => ?_⟩
      have hb : r32 b := (ok_cons hv).1
      have ha : r32 a := (ok_cons (ok_cons hv).2).1
      have hg := h1.2 H locs lsC hR hS hL (ok_cons (ok_cons hv).2).2 hn hs
      exact lv_icmp_le hc.1 hc.2.1 hd ht (fun z => absurd ((le32 ha hb).mp z) (by first | decide | omega)) (fun _ => hg)
    · have h1 := hA h
      refine ⟨h1.1, fun H locs lsC hR hS hL hv hn hs => ?_⟩
      have hb : r32 b := (ok_cons hv).1
      have ha : r32 a := (ok_cons (ok_cons hv).2).1
      have hg := h1.2 H locs lsC hR hS hL (ok_cons (ok_cons hv).2).2 hn hs
      exact lv_icmp_le hc.1 hc.2.1 hd ht (fun _ => hg) (fun z => absurd ((le32 ha hb).mpr (by first | decide | omega)) z)
theorem s_null (hc : CX G p s m meth c mi) {off : Int} {a : Nat} {r : List TV} {A B : Rs} (hd : decode (byo mi) pc = .ok (.ifnull off, 3)) (h0 : 0 ≤ (pc : Int) + off) (h : (if a = 0 then A else gd (!(Nat.beq a 14)) B) = some F) (hA : A = some F → PP p l e R s m args below meth c G w mi Q n0 s0 SF (tgt pc off) ls r S) (hB : B = some F → PP p l e R s m args below meth c G w mi Q n0 s0 SF (pc + 3) ls r S) : PP p l e R s m args below meth c G w mi Q n0 s0 SF pc ls (vr a :: r) S := by
  have ht := tgt_eq h0
  rcases ite_some h with ⟨hp, h⟩ | ⟨hp, h⟩
  · have h1 := hA h
    subst hp
    exact ⟨h1.1, fun H locs lsC hR hS hL hv hn hs => lv_ifnullN hc.1 hc.2.1 hd ht (h1.2 H locs lsC hR hS hL (ok_cons hv).2 hn hs)⟩
  · obtain ⟨hb, h⟩ := gd_some h
    have h14 : a ≠ 14 := fun z => by rw [z] at hb; cases hb
    have h1 := hB h
    refine ⟨h1.1, fun H locs lsC hR hS hL hv hn hs => ?_⟩
    have e : rep G (vr a) = .ref (gad G a) := rf_ref hp h14
    rw [List.map_cons, e]
    exact lv_ifnull hc.1 hc.2.1 hd (h1.2 H locs lsC hR hS hL (ok_cons hv).2 hn hs)
theorem s_nonnull (hc : CX G p s m meth c mi) {off : Int} {a : Nat} {r : List TV} {A B : Rs} (hd : decode (byo mi) pc = .ok (.ifnonnull off, 3)) (h0 : 0 ≤ (pc : Int) + off) (h : (if a = 0 then B else gd (!(Nat.beq a 14)) A) = some F) (hA : A = some F → PP p l e R s m args below meth c G w mi Q n0 s0 SF (tgt pc off) ls r S) (hB : B = some F → PP p l e R s m args below meth c G w mi Q n0 s0 SF (pc + 3) ls r S) : PP p l e R s m args below meth c G w mi Q n0 s0 SF pc ls (vr a :: r) S := by
  have ht := tgt_eq h0
  rcases ite_some h with ⟨hp, h⟩ | ⟨hp, h⟩
  · have h1 := hB h
    subst hp
    exact ⟨h1.1, fun H locs lsC hR hS hL hv hn hs => lv_ifnonnullN hc.1 hc.2.1 hd (h1.2 H locs lsC hR hS hL (ok_cons hv).2 hn hs)⟩
  · obtain ⟨hb, h⟩ := gd_some h
    have h14 : a ≠ 14 := fun z => by rw [z] at hb; cases hb
    have h1 := hA h
    refine ⟨h1.1, fun H locs lsC hR hS hL hv hn hs => ?_⟩
    have e : rep G (vr a) = .ref (gad G a) := rf_ref hp h14
    rw [List.map_cons, e]
    exact lv_ifnonnull hc.1 hc.2.1 hd ht (h1.2 H locs lsC hR hS hL (ok_cons hv).2 hn hs)
theorem swt_spec {x : Int} {d : Rs} {f : Int → Rs} : ∀ (offs : List Int) (k : Int), swt x k offs d f = some F → (∃ o, 0 ≤ x - k ∧ offs[(x - k).toNat]? = some o ∧ f o = some F) ∨ ((x < k ∨ k + offs.length ≤ x) ∧ d = some F) := by
  intro offs
  induction offs with
  | nil => intro k h; refine Or.inr ⟨?_, h⟩; simp; omega
  | cons o r ih =>
    intro k h
    unfold swt at h
    rcases ite_some h with ⟨hp, h2⟩ | ⟨hp, h2⟩
    · subst hp
      exact Or.inl ⟨o, by omega, by simp, h2⟩
    · rcases ih (k + 1) h2 with ⟨o', h1, h2, h3⟩ | ⟨h1, h2⟩
      · refine Or.inl ⟨o', by omega, ?_, h3⟩
        rw [show (x - k).toNat = (x - (k + 1)).toNat + 1 by omega, List.getElem?_cons_succ]
        exact h2
      · refine Or.inr ⟨?_, h2⟩
        simp only [List.length_cons]
        omega
theorem s_table (hc : CX G p s m meth c mi) {d lo hi : Int} {offs : Array Int} {x : XI} {a : Int} {r : List TV} {D : Rs} {f : Int → Rs} (hd : decode (byo mi) pc = .ok (.tableswitch d lo hi offs, len)) (hI : okI (ow mi) (iniM mi) pc (.tableswitch d lo hi offs) x = true) (h : swt a lo offs.toList D f = some F) (hD : D = some F → PP p l e R s m args below meth c G w mi Q n0 s0 SF (tgt pc d) ls r S) (hf : ∀ o, f o = some F → PP p l e R s m args below meth c G w mi Q n0 s0 SF (tgt pc o) ls r S) : PP p l e R s m args below meth c G w mi Q n0 s0 SF pc ls (vi a :: r) S := by
  unfold okI at hI
  simp only [Bool.and_eq_true, decide_eq_true_eq] at hI
  obtain ⟨⟨i1, i2⟩, i3⟩ := hI
  rcases swt_spec _ _ h with ⟨o, h1, h2, h3⟩ | ⟨h1, h2⟩
  · have hp := hf o h3
    have i2 := of_decide_eq_true (List.all_eq_true.mp i2 o (List.mem_of_getElem? h2))
    refine ⟨hp.1, fun H locs lsC hR hS hL hv hn hs => ?_⟩
    have ha : r32 a := (ok_cons hv).1
    have hlt : (a - lo).toNat < offs.toList.length := (List.getElem?_eq_some_iff.mp h2).1
    exact lv_tableIn hc.1 hc.2.1 hd (by rw [of32 ha]; omega) (by rw [of32 ha, i3]; omega) (by rw [of32 ha, ← Array.getElem?_toList]; exact h2) (tgt_eq i2) (hp.2 H locs lsC hR hS hL (ok_cons hv).2 hn hs)
  · have hp := hD h2
    refine ⟨hp.1, fun H locs lsC hR hS hL hv hn hs => ?_⟩
    have ha : r32 a := (ok_cons hv).1
    exact lv_tableOut hc.1 hc.2.1 hd (by rw [of32 ha, i3]; omega) (tgt_eq i1) (hp.2 H locs lsC hR hS hL (ok_cons hv).2 hn hs)
theorem swl_spec {x : Int} {D : Rs} {f : Int → Rs} {d : Int} : ∀ (ps : List (Int × Int)), swl x ps D f = some F → (∃ q ∈ ps, Op.lookupswitch.offset ps d x = q.2 ∧ f q.2 = some F) ∨ (Op.lookupswitch.offset ps d x = d ∧ D = some F) := by
  intro ps
  induction ps with
  | nil => intro h; exact Or.inr ⟨rfl, h⟩
  | cons q r ih =>
    intro h
    unfold swl at h
    rcases ite_some h with ⟨hp, h⟩ | ⟨hp, h⟩
    · refine Or.inl ⟨q, List.mem_cons_self, ?_, h⟩
      rw [hp]
      simp [Op.lookupswitch.offset]
    · have e : Op.lookupswitch.offset (q :: r) d x = Op.lookupswitch.offset r d x := by
        obtain ⟨q1, q2⟩ := q
        have hp : ¬ x = q1 := hp
        simp [Op.lookupswitch.offset, Ne.symm hp, hp]
      rw [e]
      rcases ih h with ⟨q', h1, h2, h3⟩ | h1
      · exact Or.inl ⟨q', List.mem_cons_of_mem _ h1, h2, h3⟩
      · exact Or.inr h1
theorem s_lookup (hc : CX G p s m meth c mi) {d : Int} {ps : Array (Int × Int)} {x : XI} {a : Int} {r : List TV} {D : Rs} {f : Int → Rs} (hd : decode (byo mi) pc = .ok (.lookupswitch d ps, len)) (hI : okI (ow mi) (iniM mi) pc (.lookupswitch d ps) x = true) (h : swl a ps.toList D f = some F) (hD : D = some F → PP p l e R s m args below meth c G w mi Q n0 s0 SF (tgt pc d) ls r S) (hf : ∀ o, f o = some F → PP p l e R s m args below meth c G w mi Q n0 s0 SF (tgt pc o) ls r S) : PP p l e R s m args below meth c G w mi Q n0 s0 SF pc ls (vi a :: r) S := by
  unfold okI at hI
  rw [Bool.and_eq_true, Bool.and_eq_true, decide_eq_true_eq] at hI
  obtain ⟨⟨i1, i2⟩, i3⟩ := hI
  rcases swl_spec (d := d) _ h with ⟨q, h1, h2, h3⟩ | ⟨h1, h2⟩
  · have hp := hf _ h3
    have i2 := of_decide_eq_true (List.all_eq_true.mp i2 q h1)
    refine ⟨hp.1, fun H locs lsC hR hS hL hv hn hs => ?_⟩
    have ha : r32 a := (ok_cons hv).1
    exact lv_lookup hc.1 hc.2.1 hd i3 (by rw [of32 ha]; exact h2) (tgt_eq i2) (hp.2 H locs lsC hR hS hL (ok_cons hv).2 hn hs)
  · have hp := hD h2
    refine ⟨hp.1, fun H locs lsC hR hS hL hv hn hs => ?_⟩
    have ha : r32 a := (ok_cons hv).1
    exact lv_lookup hc.1 hc.2.1 hd i3 (by rw [of32 ha]; exact h1) (tgt_eq i1) (hp.2 H locs lsC hR hS hL (ok_cons hv).2 hn hs)
end SND
end
section
-- 09l.grow
/-! cells and slots only grow -/
theorem LE2.rf {S : AH} : LE2 S S := ⟨Nat.le_refl _, Nat.le_refl _⟩
theorem LE2.tr {S T U : AH} (h : LE2 S T) (k : LE2 T U) : LE2 S U := ⟨Nat.le_trans h.1 k.1, Nat.le_trans h.2 k.2⟩
noncomputable def Gr (S : AH) (F : KT → Rs) : Prop := ∀ k r, F k = some r → ∃ a b c, k a b c = some r ∧ LE2 S c
theorem Gr.ap {S : AH} (a : LV) (b : List TV) {c : AH} (hc : LE2 S c) : Gr S (fun k => k a b c) := fun _ _ h => ⟨a, b, c, h, hc⟩
theorem Gr.no {S : AH} : Gr S (fun _ => none) := fun _ _ h => nomatch h
theorem Gr.gd {S : AH} {b : Bool} {F : KT → Rs} (h : Gr S F) : Gr S (fun k => gd b (F k)) := by
  cases b
  · exact Gr.no
  · exact h
theorem Gr.it {S : AH} {c : Prop} [Decidable c] {F G : KT → Rs} (hF : Gr S F) (hG : Gr S G) : Gr S (fun k => if c then F k else G k) := by
  by_cases hc : c
  · simp only [if_pos hc]; exact hF
  · simp only [if_neg hc]; exact hG
theorem Gr.ck {S : AH} {c : Nat} {v : Int} {F : KT → Rs} (hF : Gr S F) : Gr S (fun k => ckZ c v (F k)) := by
  unfold ckZ
  split
  · exact Gr.it hF Gr.no
  · exact Gr.it hF Gr.no
  · exact Gr.it hF Gr.no
  · exact hF
theorem gr_setK {S : AH} {ls : LV} {i : Nat} {v : Option TV} {F : LV → KT → Rs} (h : ∀ q, Gr S (F q)) : Gr S (fun k => setK ls i v (fun q => F q k)) := by
  simp only [setK_eq]
  exact Gr.it (h _) Gr.no
theorem gr_st1 {S : AH} {ls : LV} {i : Nat} {v : TV} {F : LV → KT → Rs} (h : ∀ q, Gr S (F q)) : Gr S (fun k => st1 ls i v (fun q => F q k)) := by
  unfold st1
  split
  · exact gr_setK h
  · split
    · exact gr_setK fun q => gr_setK h
    · exact gr_setK h
theorem gr_st2 {S : AH} {ls : LV} {i : Nat} {v : TV} {F : LV → KT → Rs} (h : ∀ q, Gr S (F q)) : Gr S (fun k => st2 ls i v (fun q => F q k)) := gr_st1 fun q => gr_setK h
theorem gr_loadI {ls : LV} {i : Nat} {st : List TV} {S : AH} : Gr S (loadI ls i st S) := by
  unfold loadI
  split
  · exact Gr.ap _ _ (by first | exact LE2.rf | exact ⟨Nat.le_succ _, Nat.le_add_right _ _⟩)
  · exact Gr.no
theorem gr_loadL {ls : LV} {i : Nat} {st : List TV} {S : AH} : Gr S (loadL ls i st S) := by
  unfold loadL
  split
  · exact Gr.ap _ _ (by first | exact LE2.rf | exact ⟨Nat.le_succ _, Nat.le_add_right _ _⟩)
  · exact Gr.no
theorem gr_loadA {ls : LV} {i : Nat} {st : List TV} {S : AH} : Gr S (loadA ls i st S) := by
  unfold loadA
  split
  · exact Gr.ap _ _ (by first | exact LE2.rf | exact ⟨Nat.le_succ _, Nat.le_add_right _ _⟩)
  · exact Gr.no
theorem gr_stoI {ls : LV} {i : Nat} {st : List TV} {S : AH} : Gr S (stoI ls i st S) := by
  unfold stoI
  split
  · exact gr_st1 fun q => Gr.ap _ _ (by first | exact LE2.rf | exact ⟨Nat.le_succ _, Nat.le_add_right _ _⟩)
  · exact Gr.no
theorem gr_stoL {ls : LV} {i : Nat} {st : List TV} {S : AH} : Gr S (stoL ls i st S) := by
  unfold stoL
  split
  · exact gr_st2 fun q => Gr.ap _ _ (by first | exact LE2.rf | exact ⟨Nat.le_succ _, Nat.le_add_right _ _⟩)
  · exact Gr.no
theorem gr_stoA {ls : LV} {i : Nat} {st : List TV} {S : AH} : Gr S (stoA ls i st S) := by
  unfold stoA
  split
  · exact gr_st1 fun q => Gr.ap _ _ (by first | exact LE2.rf | exact ⟨Nat.le_succ _, Nat.le_add_right _ _⟩)
  · exact Gr.no
theorem gr_bin {f : Int → Int → Int} {ls : LV} {st : List TV} {S : AH} : Gr S (bin f ls st S) := by
  unfold bin
  split
  · exact Gr.ap _ _ (by first | exact LE2.rf | exact ⟨Nat.le_succ _, Nat.le_add_right _ _⟩)
  · exact Gr.no
theorem gr_binL {f : Int → Int → Int} {ls : LV} {st : List TV} {S : AH} : Gr S (binL f ls st S) := by
  unfold binL
  split
  · exact Gr.ap _ _ (by first | exact LE2.rf | exact ⟨Nat.le_succ _, Nat.le_add_right _ _⟩)
  · exact Gr.no
theorem gr_shL {f : Int → Int → Int} {ls : LV} {st : List TV} {S : AH} : Gr S (shL f ls st S) := by
  unfold shL
  split
  · exact Gr.ap _ _ (by first | exact LE2.rf | exact ⟨Nat.le_succ _, Nat.le_add_right _ _⟩)
  · exact Gr.no
theorem gr_una {f : Int → Int} {ls : LV} {st : List TV} {S : AH} : Gr S (una f ls st S) := by
  unfold una
  split
  · exact Gr.ap _ _ (by first | exact LE2.rf | exact ⟨Nat.le_succ _, Nat.le_add_right _ _⟩)
  · exact Gr.no
theorem gr_dvI {f : Int → Int → Int} {ls : LV} {st : List TV} {S : AH} : Gr S (dvI f ls st S) := by
  unfold dvI
  split
  · exact Gr.it Gr.no (Gr.ap _ _ (by first | exact LE2.rf | exact ⟨Nat.le_succ _, Nat.le_add_right _ _⟩))
  · exact Gr.no
theorem gr_dvL {f : Int → Int → Int} {ls : LV} {st : List TV} {S : AH} : Gr S (dvL f ls st S) := by
  unfold dvL
  split
  · exact Gr.it Gr.no (Gr.ap _ _ (by first | exact LE2.rf | exact ⟨Nat.le_succ _, Nat.le_add_right _ _⟩))
  · exact Gr.no
theorem gr_ald {w : WC} {t : Nat} {ls : LV} {st : List TV} {S : AH} : Gr S (ald w t ls st S) := by
  unfold ald
  split
  · exact Gr.gd (Gr.it (Gr.ap _ _ (by first | exact LE2.rf | exact ⟨Nat.le_succ _, Nat.le_add_right _ _⟩)) Gr.no)
  · exact Gr.no
theorem gr_aldB {w : WC} {ls : LV} {st : List TV} {S : AH} : Gr S (aldB w ls st S) := by
  unfold aldB
  split
  · exact Gr.gd (Gr.it (Gr.ap _ _ (by first | exact LE2.rf | exact ⟨Nat.le_succ _, Nat.le_add_right _ _⟩)) Gr.no)
  · exact Gr.no
theorem gr_aldA {w : WC} {ls : LV} {st : List TV} {S : AH} : Gr S (aldA w ls st S) := by
  unfold aldA
  split
  · exact Gr.gd (Gr.it (Gr.ap _ _ (by first | exact LE2.rf | exact ⟨Nat.le_succ _, Nat.le_add_right _ _⟩)) Gr.no)
  · exact Gr.no
theorem gr_astI {w : WC} {ls : LV} {st : List TV} {S : AH} : Gr S (astI w ls st S) := by
  unfold astI
  split
  · exact Gr.gd (Gr.it (Gr.ap _ _ (by first | exact LE2.rf | exact ⟨Nat.le_succ _, Nat.le_add_right _ _⟩)) Gr.no)
  · exact Gr.no
theorem gr_astL {w : WC} {ls : LV} {st : List TV} {S : AH} : Gr S (astL w ls st S) := by
  unfold astL
  split
  · exact Gr.gd (Gr.it (Gr.ap _ _ (by first | exact LE2.rf | exact ⟨Nat.le_succ _, Nat.le_add_right _ _⟩)) Gr.no)
  · exact Gr.no
theorem gr_astA {w : WC} {ls : LV} {st : List TV} {S : AH} : Gr S (astA w ls st S) := by
  unfold astA
  split
  · exact Gr.gd (Gr.it (Gr.ap _ _ (by first | exact LE2.rf | exact ⟨Nat.le_succ _, Nat.le_add_right _ _⟩)) Gr.no)
  · exact Gr.no
theorem gr_astB {w : WC} {ls : LV} {st : List TV} {S : AH} : Gr S (astB w ls st S) := by
  unfold astB
  split
  · refine Gr.gd (Gr.it ?_ Gr.no)
    split
    · exact Gr.ap _ _ (by first | exact LE2.rf | exact ⟨Nat.le_succ _, Nat.le_add_right _ _⟩)
    · exact Gr.it (Gr.ap _ _ (by first | exact LE2.rf | exact ⟨Nat.le_succ _, Nat.le_add_right _ _⟩)) Gr.no
  · exact Gr.no
theorem gr_getF {w : WC} {x : XI} {ls : LV} {st : List TV} {S : AH} : Gr S (getF w x ls st S) := by
  unfold getF
  split
  · exact Gr.gd (Gr.ap _ _ (by first | exact LE2.rf | exact ⟨Nat.le_succ _, Nat.le_add_right _ _⟩))
  · exact Gr.no
theorem gr_putF {w : WC} {x : XI} {ls : LV} {st : List TV} {S : AH} : Gr S (putF w x ls st S) := by
  unfold putF
  split
  · exact Gr.gd (Gr.ap _ _ (by first | exact LE2.rf | exact ⟨Nat.le_succ _, Nat.le_add_right _ _⟩))
  · exact Gr.gd (Gr.ap _ _ (by first | exact LE2.rf | exact ⟨Nat.le_succ _, Nat.le_add_right _ _⟩))
  · exact Gr.gd (Gr.gd (Gr.ck (Gr.ap _ _ (by first | exact LE2.rf | exact ⟨Nat.le_succ _, Nat.le_add_right _ _⟩))))
  · exact Gr.no
theorem gr_alen {w : WC} {ls : LV} {st : List TV} {S : AH} : Gr S (alen w ls st S) := by
  unfold alen
  split
  · exact Gr.gd (Gr.ap _ _ (by first | exact LE2.rf | exact ⟨Nat.le_succ _, Nat.le_add_right _ _⟩))
  · exact Gr.no
theorem gr_newA {t : Nat} {ls : LV} {st : List TV} {S : AH} : Gr S (newA t ls st S) := by
  unfold newA
  split
  · exact Gr.it (Gr.ap _ _ (by first | exact LE2.rf | exact ⟨Nat.le_succ _, Nat.le_add_right _ _⟩)) Gr.no
  · exact Gr.no
set_option maxHeartbeats 4000000 in
theorem gr_step {w : WC} {i : Instr} {x : XI} {ls : LV} {st : List TV} {S : AH} : Gr S (step w i x ls st S) := by
  unfold step
  split
  all_goals first
    | exact Gr.ap _ _ (by first | exact LE2.rf | exact ⟨Nat.le_succ _, Nat.le_add_right _ _⟩)
    | exact gr_loadI
    | exact gr_loadL
    | exact gr_loadA
    | exact gr_stoI
    | exact gr_stoL
    | exact gr_stoA
    | exact gr_bin
    | exact gr_binL
    | exact gr_shL
    | exact gr_una
    | exact gr_dvI
    | exact gr_dvL
    | exact gr_ald
    | exact gr_aldB
    | exact gr_aldA
    | exact gr_astI
    | exact gr_astL
    | exact gr_astB
    | exact gr_astA
    | exact gr_getF
    | exact gr_putF
    | exact gr_alen
    | exact Gr.gd gr_newA
    | exact gr_newA
    | exact Gr.no
    | (split
       all_goals first
         | exact Gr.ap _ _ (by first | exact LE2.rf | exact ⟨Nat.le_succ _, Nat.le_add_right _ _⟩)
         | exact Gr.no
         | exact Gr.gd (Gr.ap _ _ (by first | exact LE2.rf | exact ⟨Nat.le_succ _, Nat.le_add_right _ _⟩))
         | exact gr_st1 fun q => Gr.ap _ _ (by first | exact LE2.rf | exact ⟨Nat.le_succ _, Nat.le_add_right _ _⟩))
noncomputable def Gr2 (S : AH) (F : RT → Rs) : Prop := ∀ k r, F k = some r → LE2 S r.2 ∨ ∃ z a b c, k z a b c = some r ∧ LE2 S c
theorem ret_le {S : AH} {b : Bool} {c : Nat} {v : Int} {r : Int × AH} {o : Rs} (h : o = some r) (ho : o = gd b (ckZ c v (some (v, S))) ∨ o = gd b (some (v, S))) : LE2 S r.2 := by
  have key : ∀ {q : Rs}, q = some r → q = some (v, S) → LE2 S r.2 := by
    intro q h1 h2
    rw [h2] at h1
    cases h1
    exact LE2.rf
  rcases ho with rfl | rfl
  · obtain ⟨-, h⟩ := gd_some h
    exact key (ck_some h).1 rfl
  · obtain ⟨-, h⟩ := gd_some h
    exact key h rfl
theorem Gr2.ap {S : AH} (z : List CE) (a : LV) (b : List TV) {c : AH} (hc : LE2 S c) : Gr2 S (fun k => k z a b c) := fun _ _ h => Or.inr ⟨z, a, b, c, h, hc⟩
theorem Gr2.no {S : AH} : Gr2 S (fun _ => none) := fun _ _ h => nomatch h
theorem Gr2.cn {S : AH} {o : Rs} (ho : ∀ r, o = some r → LE2 S r.2) : Gr2 S (fun _ => o) := fun _ r h => Or.inl (ho r h)
theorem Gr2.gd {S : AH} {b : Bool} {F : RT → Rs} (h : Gr2 S F) : Gr2 S (fun k => gd b (F k)) := by
  cases b
  · exact Gr2.no
  · exact h
theorem Gr2.it {S : AH} {c : Prop} [Decidable c] {F G : RT → Rs} (hF : Gr2 S F) (hG : Gr2 S G) : Gr2 S (fun k => if c then F k else G k) := by
  by_cases hc : c
  · simp only [if_pos hc]; exact hF
  · simp only [if_neg hc]; exact hG
theorem Gr2.bf {S : AH} {c : Jvm.ClassFile.Cond} {x y : Int} {F G : RT → Rs} (hF : Gr2 S F) (hG : Gr2 S G) : Gr2 S (fun k => bIf c x y (F k) (G k)) := by
  unfold bIf
  cases c
  · exact Gr2.it hF hG
  · exact Gr2.it hG hF
  · exact Gr2.it hF hG
  · exact Gr2.it hG hF
  · exact Gr2.it hF hG
  · exact Gr2.it hG hF
theorem Gr2.sw {S : AH} {x : Int} {F : RT → Rs} {G : Int → RT → Rs} (hF : Gr2 S F) (hG : ∀ o, Gr2 S (G o)) : ∀ (offs : List Int) (k : Int), Gr2 S (fun q => swt x k offs (F q) (fun o => G o q)) := by
  intro offs
  induction offs with
  | nil => intro k; unfold swt; exact hF
  | cons o r ih => intro k; unfold swt; exact Gr2.it (hG o) (ih _)
theorem Gr2.sl {S : AH} {x : Int} {F : RT → Rs} {G : Int → RT → Rs} (hF : Gr2 S F) (hG : ∀ o, Gr2 S (G o)) : ∀ (ps : List (Int × Int)), Gr2 S (fun q => swl x ps (F q) (fun o => G o q)) := by
  intro ps
  induction ps with
  | nil => unfold swl; exact hF
  | cons o r ih => unfold swl; exact Gr2.it (hG o.2) ih
theorem Gr2.bd {S : AH} {o : Rs} {F : Int → AH → RT → Rs} (ho : ∀ r, o = some r → LE2 S r.2) (hF : ∀ v T, LE2 S T → Gr2 S (F v T)) : Gr2 S (fun k => bindR o (fun v S => F v S k)) := by
  unfold bindR
  split
  · exact hF _ _ (ho _ rfl)
  · exact Gr2.no
theorem Gr2.of {S : AH} {F : KT → Rs} (h : Gr S F) (cs : List CE) : Gr2 S (fun k => F (fun a b c => k cs a b c)) := by
  intro k r q
  obtain ⟨a, b, c, h1, h2⟩ := h _ _ q
  exact Or.inr ⟨cs, a, b, c, h1, h2⟩
theorem Gr2.cp {w : WC} {st : List TV} {S : AH} {cs : List CE} {ls : LV} : Gr2 S (fun k => copyA w st S (fun r S' => k cs ls r S')) := by
  unfold copyA
  split
  · exact Gr2.gd (Gr2.it (Gr2.ap _ _ _ (by first | exact LE2.rf | exact ⟨Nat.le_succ _, Nat.le_add_right _ _⟩)) (Gr2.no))
  · exact Gr2.no
theorem Gr2.ir {w : WC} {m : Nat} {st : List TV} {S : AH} {cs : List CE} {ls : LV} : Gr2 S (fun k => intr w m st S (fun r S' => k cs ls r S')) := by
  unfold intr
  split
  · exact Gr2.cp
  · split
    · exact Gr2.ap _ _ _ (by first | exact LE2.rf | exact ⟨Nat.le_succ _, Nat.le_add_right _ _⟩)
    · exact Gr2.no
  · split
    · exact Gr2.ap _ _ _ (by first | exact LE2.rf | exact ⟨Nat.le_succ _, Nat.le_add_right _ _⟩)
    · exact Gr2.no
  · split
    · exact Gr2.ap _ _ _ (by first | exact LE2.rf | exact ⟨Nat.le_succ _, Nat.le_add_right _ _⟩)
    · exact Gr2.no
  · split
    · exact Gr2.ap _ _ _ (by first | exact LE2.rf | exact ⟨Nat.le_succ _, Nat.le_add_right _ _⟩)
    · exact Gr2.no
  · exact Gr2.no
set_option maxHeartbeats 4000000 in
theorem gr_ctl {w : WC} {C : Nat → List TV → AH → Rs} {cs0 : List CE} {rt pc : Nat} {i : Instr} {x : XI} {cs : List CE} {ls : LV} {st : List TV} {S : AH} (hC : ∀ m as S r, C m as S = some r → LE2 S r.2) : Gr2 S (ctl w C cs0 rt pc i x cs ls st S) := by
  unfold ctl
  split
  · exact Gr2.ap _ _ _ (by first | exact LE2.rf | exact ⟨Nat.le_succ _, Nat.le_add_right _ _⟩)
  · split
    · exact Gr2.bf (Gr2.ap _ _ _ (by first | exact LE2.rf | exact ⟨Nat.le_succ _, Nat.le_add_right _ _⟩)) (Gr2.ap _ _ _ (by first | exact LE2.rf | exact ⟨Nat.le_succ _, Nat.le_add_right _ _⟩))
    · exact Gr2.no
  · split
    · exact Gr2.bf (Gr2.ap _ _ _ (by first | exact LE2.rf | exact ⟨Nat.le_succ _, Nat.le_add_right _ _⟩)) (Gr2.ap _ _ _ (by first | exact LE2.rf | exact ⟨Nat.le_succ _, Nat.le_add_right _ _⟩))
    · exact Gr2.no
  · split
    · exact Gr2.it (Gr2.ap _ _ _ (by first | exact LE2.rf | exact ⟨Nat.le_succ _, Nat.le_add_right _ _⟩)) (Gr2.gd (Gr2.ap _ _ _ (by first | exact LE2.rf | exact ⟨Nat.le_succ _, Nat.le_add_right _ _⟩)))
    · exact Gr2.no
  · split
    · exact Gr2.it (Gr2.ap _ _ _ (by first | exact LE2.rf | exact ⟨Nat.le_succ _, Nat.le_add_right _ _⟩)) (Gr2.gd (Gr2.ap _ _ _ (by first | exact LE2.rf | exact ⟨Nat.le_succ _, Nat.le_add_right _ _⟩)))
    · exact Gr2.no
  · split
    · exact Gr2.sw (Gr2.ap _ _ _ (by first | exact LE2.rf | exact ⟨Nat.le_succ _, Nat.le_add_right _ _⟩)) (fun o => Gr2.ap _ _ _ (by first | exact LE2.rf | exact ⟨Nat.le_succ _, Nat.le_add_right _ _⟩)) _ _
    · exact Gr2.no
  · split
    · exact Gr2.sl (Gr2.ap _ _ _ (by first | exact LE2.rf | exact ⟨Nat.le_succ _, Nat.le_add_right _ _⟩)) (fun o => Gr2.ap _ _ _ (by first | exact LE2.rf | exact ⟨Nat.le_succ _, Nat.le_add_right _ _⟩)) _
    · exact Gr2.no
  · split
    · exact Gr2.cn (fun r h => by first | exact ret_le h (Or.inl rfl) | exact ret_le (c := 0) h (Or.inr rfl))
    · exact Gr2.no
  · split
    · exact Gr2.cn (fun r h => by first | exact ret_le h (Or.inl rfl) | exact ret_le (c := 0) h (Or.inr rfl))
    · exact Gr2.no
  · split
    · exact Gr2.cn (fun r h => by first | exact ret_le h (Or.inl rfl) | exact ret_le (c := 0) h (Or.inr rfl))
    · exact Gr2.no
  · split
    · exact Gr2.cn (fun r h => by first | exact ret_le h (Or.inl rfl) | exact ret_le (c := 0) h (Or.inr rfl))
    · exact Gr2.no
  · split
    · exact Gr2.gd Gr2.ir
    · split
      · exact Gr2.gd (Gr2.bd (fun r h => hC _ _ _ _ h) (fun v T hT => Gr2.ap _ _ _ hT))
      · exact Gr2.no
  · split
    · split
      · exact Gr2.gd (Gr2.ap _ _ _ (by first | exact LE2.rf | exact ⟨Nat.le_succ _, Nat.le_add_right _ _⟩))
      · exact Gr2.no
    · split
      · exact Gr2.gd (Gr2.bd (fun r h => hC _ _ _ _ h) (fun v T hT => Gr2.ap _ _ _ hT))
      · exact Gr2.no
  · split
    · split
      · exact Gr2.gd (Gr2.ap _ _ _ (by first | exact LE2.rf | exact ⟨Nat.le_succ _, Nat.le_add_right _ _⟩))
      · exact Gr2.no
    · split
      · exact Gr2.gd (Gr2.bd (fun r h => hC _ _ _ _ h) (fun v T hT => Gr2.ap _ _ _ hT))
      · exact Gr2.no
  · exact Gr2.of gr_step _
theorem go_gr {w : WC} {C : CT} {cs0 : List CE} {rt : Nat} (hC : ∀ m as S r, C m as S = some r → LE2 S r.2) : ∀ (n : Nat) (first : Bool) (cs : List CE) (ls : LV) (st : List TV) (S : AH) (K : KP) (r : Int × AH), (∀ pc a b c, K pc a b c = some r → LE2 c r.2) → go w C K cs0 rt n first cs ls st S = some r → LE2 S r.2 := by
  intro n
  induction n with
  | zero => intro first cs ls st S K r _ h; cases h
  | succ n ih =>
    intro first cs ls st S K r hK h
    match cs, h with
    | [], h => cases h
    | (pc, ck, i, x) :: cs, h =>
      unfold go at h
      dsimp only at h
      cases hc : (Nat.blt 0 ck && !first) with
      | true =>
        rw [hc] at h
        exact hK _ _ _ _ h
      | false =>
        rw [hc] at h
        dsimp only at h
        rcases gr_ctl hC _ _ h with h1 | ⟨z, a, b, c, h1, h2⟩
        · exact h1
        · exact h2.tr (ih false z a b c K r hK h1)
theorem lpn_gr {w : WC} {C : CT} {m : Nat} (hC : ∀ m as S r, C m as S = some r → LE2 S r.2) : ∀ (n : Nat) (pc : Nat) (ls : LV) (st : List TV) (S : AH) (r : Int × AH), lpn w C m n pc ls st S = some r → LE2 S r.2 := by
  intro n
  induction n with
  | zero => intro pc ls st S r h; cases h
  | succ n ih => intro pc ls st S r h; exact go_gr hC _ _ _ _ _ _ _ _ (fun pc a b c q => ih pc a b c r q) h
theorem ev_gr {w : WC} : ∀ (d m : Nat) (as : List TV) (S : AH) (r : Int × AH), ev w d m as S = some r → LE2 S r.2 := by
  intro d
  induction d with
  | zero => intro m as S r h; cases h
  | succ d ih =>
    intro m as S r h
    obtain ⟨-, h⟩ := gd_some h
    obtain ⟨n, h⟩ := LQ_iff.mp h
    exact lpn_gr (fun m as S r q => ih m as S r q) _ _ _ _ _ _ h
end
section
-- 09m.snd
/-! the whole of a method's run -/
noncomputable def rst (rt : Nat) (v : Int) : List TV := match rt with
  | 9 => []
  | t => [mkv t v]
noncomputable def CTok (l : Launch) (G : GE) (w : WC) (d : Nat) (C : CT) : Prop := (∀ m' as S v S', 1 ≤ m' → m' < 338 → C m' as S = some (v, S') → MTok l G w d m' as S v S') ∧ ∀ m' as S, 338 ≤ m' → C m' as S = none
section SND
variable {p : Program} {l : Launch} {e : Env} {R : Room} {s : State} {m : MethodId} {args : Array Value} {below : List Frame} {meth : Method} {c : Code} {G : GE} {w : WC} {mi : Nat} {Q : State → Prop} {n0 s0 : Nat} {SF : AH} {F : Int × AH} {pc len : Nat} {ls : LV} {st : List TV} {S : AH} {k : KT}
theorem ok_app {a b : List TV} (h : ∀ u ∈ a ++ b, okv u) : (∀ u ∈ a, okv u) ∧ ∀ u ∈ b, okv u := ⟨fun u hu => h u (List.mem_append_left _ hu), fun u hu => h u (List.mem_append_right _ hu)⟩
theorem s_obj (hc : CX G p s m meth c mi) (hw : OKW G w) (hroom : 1 ≤ R.frames ∧ 64 ≤ R.locals) {q b : Nat} {r : List TV} (hd : decode (byo mi) pc = .ok (.invokespecial q, 3)) (he : (obl.any fun e => mtc e.1 e.2.1 (ow mi) q) = true) (hown : ow mi < 13) (hb : (shp w S b).1 = 10 + ow mi) (hcat : cats r ≤ 8) (h1 : PP p l e R s m args below meth c G w mi Q n0 s0 SF (pc + 3) ls r S) : PP p l e R s m args below meth c G w mi Q n0 s0 SF pc ls (vr b :: r) S := by
  have hE := hc.2.2.2.2.2.1
  obtain ⟨en, hen, hm⟩ := List.any_eq_true.mp he
  obtain ⟨m1, m2⟩ := mtc_eq hm
  have hl := hE.word (List.all_eq_true.mp obl_ok en hen)
  rw [m1, m2] at hl
  refine ⟨h1.1, fun H locs lsC hR hS hL hv hn hs => ?_⟩
  have h15 := obj_ge hw hown hb
  have e : rep G (vr b) = .ref (gad G b) := rf_own h15
  rw [List.map_cons, e]
  refine W.objInit hc.1 hc.2.1 hc.2.2.2.1 (onT rfl hl) (onT rfl (hE.word ob_inst)) (onT rfl (hE.word ob_code)) rfl (by rw [hc.2.2.1]; exact hL.2.1) rfl hd hroom.1 ?_ (h1.2 H locs lsC hR hS hL (ok_cons hv).2 hn hs)
  rw [cat_sum hE.2.2.2.2.2.2.2.1]
  show 2 * 0 + _ + 12 ≤ _
  omega
/-- who is called: its cell -/
theorem recv_cell (hc : CX G p s m meth c mi) (hw : OKW G w) {H : Heap} {locs : List Loc} (hR : Rel G w S H) (hS : va_S (AA G) s.heap H locs) {b m' : Nat} (hb : (shp w S b).1 = 10 + ow m') (ho : ow m' ≤ 13) : rf G b = .ref (gad G b) ∧ ∃ cellB : Cell, H[gad G b]? = some cellB ∧ cellB.vm.isStatics = false ∧ s.vm.findClass (ynm m').cls = some cellB.cls := by
  have hE := hc.2.2.2.2.2.1
  rcases Nat.lt_or_ge (ow m') 13 with h13 | h13
  · obtain ⟨a15, ⟨cell, q1, q2, q3, q4⟩, hok⟩ := obj_at hw hR h13 hb
    refine ⟨rf_own a15, cell, q1, by rw [q3]; rfl, ?_⟩
    rw [q2]
    exact (hE.2.1 _ h13).2.1
  · have e13 : ow m' = 13 := by omega
    rw [e13] at hb
    obtain ⟨j, hj, rfl⟩ := str_at hw hR hb
    obtain ⟨-, ⟨cell, g1, g2, g3, g4⟩, -⟩ := hE.2.2.2.2.2.1 j hj
    have ead : gad G (4 + j) = gE G (4 + j) := by unfold gad; rw [if_pos (by first | decide | omega)]
    refine ⟨rf_ref (by first | decide | omega) (by first | decide | omega), cell, ?_, g2, ?_⟩
    · rw [ead, hS.2.1 _ (Array.getElem?_eq_some_iff.mp g1).1 g4]
      exact g1
    · show s.vm.findClass (cnm (ow m')) = _
      rw [e13]
      exact g3
/-- behind a call -/
theorem s_behind {d m' : Nat} {as r : List TV} {v : Int} {S' : AH} {code : Nat} (hcode : (code : Int) = rcc m') (hM : MTok l G w d m' as S v S') (h1 : PP p l e R s m args below meth c G w mi Q n0 s0 SF (pc + 3) ls (psh code v r) S') {H : Heap} {locs : List Loc} {lsC : Array Slot} {st0 : List Value} {az : Array Value} (hS : va_S (AA G) s.heap H locs) (hL : LR G ls lsC (mlOf mi)) (hv : ∀ u ∈ r, okv u) (hn : n0 ≤ S.1.1) (hs : s0 ≤ S.1.2.1)
    (hrun : va_Run p l e R s m args below meth c H locs (S.1.1 - n0) (S.1.2.1 - s0) (S'.1.1 - S.1.1) (S'.1.2.1 - S.1.2.1) (F0 m pc lsC st0) (r.map (rep G)) (QCc G w S' (rtOf m') v az) (AA G)) : W p l e R s m args below meth c H locs (S.1.1 - n0) (S.1.2.1 - s0) Q (F0 m pc lsC st0) := by
  obtain ⟨l1, l2⟩ := hM.1
  refine call_end hrun hS (fun hok H' locs' hR' hS' => ?_)
  obtain ⟨p1, p2⟩ := psh_rep (G := G) (rt := rtOf m') (code := code) (v := v) (r := r) hcode hok
  have := h1.2 H' locs' lsC hR' hS' hL (p2 hv) (by first | decide | omega) (by first | decide | omega)
  rw [p1] at this
  refine W.cs ?_ ?_ this
  · omega
  · omega
set_option maxHeartbeats 4000000 in
theorem ctl_sound (hc : CX G p s m meth c mi) (hw : OKW G w) (hrm : SF.1.1 - n0 ≤ R.cells ∧ SF.1.2.1 - s0 ≤ R.slots) {d : Nat} {C : CT} (hC : CTok l G w d C) (hfr : d + 1 ≤ R.frames ∧ 64 * (d + 1) ≤ R.locals) {i : Instr} {x : XI} {cs cs0 : List CE} {rec : RT} (hd : decode (byo mi) pc = .ok (i, len)) (hlen : len = lenI i len) (hI : okI (ow mi) (iniM mi) pc i x = true)
    (hend : ∀ (pc : Nat) (ls : LV) (v : Int) (S : AH), F = (v, S) → decode (byo mi) pc = .ok (retI (rtOf mi), 1) → ((∀ u ∈ rst (rtOf mi) v, okv u) → okc (rtOf mi) v) → PP p l e R s m args below meth c G w mi Q n0 s0 SF pc ls (rst (rtOf mi) v) S)
    (h : ctl w C cs0 (rtOf mi) pc i x cs ls st S rec = some F) (hkn : ∀ ls' st' S', rec cs ls' st' S' = some F → PP p l e R s m args below meth c G w mi Q n0 s0 SF (pc + len) ls' st' S') (hkt : ∀ t ls' st' S', rec (cde cs0 t) ls' st' S' = some F → PP p l e R s m args below meth c G w mi Q n0 s0 SF t ls' st' S') : PP p l e R s m args below meth c G w mi Q n0 s0 SF pc ls st S := by
  have hE := hc.2.2.2.2.2.1
  have hG := hE.2.2.2.2.2.2.2.1
  have hroom : 1 ≤ R.frames ∧ 64 ≤ R.locals := by omega
  unfold ctl at h
  split at h
  · rename_i off
    obtain rfl : len = 3 := hlen
    have h0 : 0 ≤ (pc : Int) + off := of_decide_eq_true hI
    have h1 := hkt _ _ _ _ h
    exact ⟨h1.1, fun H locs lsC hR hS hL hv hn hs => lv_goto hc.1 hc.2.1 hd (tgt_eq h0) (h1.2 H locs lsC hR hS hL hv hn hs)⟩
  · rename_i cd off
    obtain rfl : len = 3 := hlen
    have h0 : 0 ≤ (pc : Int) + off := of_decide_eq_true hI
    split at h
    · exact s_if0 hc hd h0 h (fun z => hkt _ _ _ _ z) (fun z => hkn _ _ _ z)
    · cases h
  · rename_i cd off
    obtain rfl : len = 3 := hlen
    have h0 : 0 ≤ (pc : Int) + off := of_decide_eq_true hI
    split at h
    · exact s_ifc hc hd h0 h (fun z => hkt _ _ _ _ z) (fun z => hkn _ _ _ z)
    · cases h
  · rename_i off
    obtain rfl : len = 3 := hlen
    have h0 : 0 ≤ (pc : Int) + off := of_decide_eq_true hI
    split at h
    · exact s_null hc hd h0 h (fun z => hkt _ _ _ _ z) (fun z => hkn _ _ _ z)
    · cases h
  · rename_i off
    obtain rfl : len = 3 := hlen
    have h0 : 0 ≤ (pc : Int) + off := of_decide_eq_true hI
    split at h
    · exact s_nonnull hc hd h0 h (fun z => hkt _ _ _ _ z) (fun z => hkn _ _ _ z)
    · cases h
  · split at h
    · exact s_table hc hd hI h (fun z => hkt _ _ _ _ z) (fun o z => hkt _ _ _ _ z)
    · cases h
  · split at h
    · exact s_lookup hc hd hI h (fun z => hkt _ _ _ _ z) (fun o z => hkt _ _ _ _ z)
    · cases h
  · obtain rfl : len = 1 := hlen
    split at h
    · rename_i a
      obtain ⟨hb, h⟩ := gd_some h
      obtain ⟨h, hck⟩ := ck_some h
      cases h
      have hrt : rtOf mi = 0 ∨ (3 ≤ rtOf mi ∧ rtOf mi ≤ 5) := by
        rw [Bool.or_eq_true, Bool.and_eq_true] at hb
        rcases hb with z | z
        · exact Or.inl (Nat.eq_of_beq_eq_true z)
        · exact Or.inr ⟨Nat.le_of_ble_eq_true z.1, Nat.le_of_ble_eq_true z.2⟩
      have hr : rst (rtOf mi) a = [vi a] ∧ retI (rtOf mi) = .ireturn := by
        rcases (show rtOf mi = 0 ∨ rtOf mi = 3 ∨ rtOf mi = 4 ∨ rtOf mi = 5 by omega) with z | z | z | z <;> rw [z] <;> exact ⟨rfl, rfl⟩
      have := hend pc ls a S rfl (by rw [hr.2]; exact hd) (fun z => hck (by rw [hr.1] at z; exact z (vi a) List.mem_cons_self) (by first | decide | omega) (by first | decide | omega))
      rw [hr.1] at this
      exact this
    · cases h
  · obtain rfl : len = 1 := hlen
    split at h
    · rename_i a
      obtain ⟨hb, h⟩ := gd_some h
      have hb := Nat.eq_of_beq_eq_true hb
      cases h
      have := hend pc ls a S rfl (by rw [hb]; exact hd) (fun z => by rw [hb] at z ⊢; exact z (vl a) List.mem_cons_self)
      rw [hb] at this
      exact this
    · cases h
  · obtain rfl : len = 1 := hlen
    split at h
    · rename_i a
      obtain ⟨hb, h⟩ := gd_some h
      have hb := Nat.eq_of_beq_eq_true hb
      cases h
      have := hend pc ls (a : Int) S rfl (by rw [hb]; exact hd) (fun z => by rw [hb]; show (0 : Int) ≤ _; omega)
      rw [hb] at this
      exact this
    · cases h
  · obtain rfl : len = 1 := hlen
    split at h
    · obtain ⟨hb, h⟩ := gd_some h
      have hb := Nat.eq_of_beq_eq_true hb
      cases h
      have := hend pc ls 0 S rfl (by rw [hb]; exact hd) (fun z => by rw [hb]; show r32 0; unfold r32; omega)
      rw [hb] at this
      exact this
    · cases h
  · rename_i q
    obtain rfl : len = 3 := hlen
    unfold okI at hI
    dsimp only at hI
    cases hx : Nat.ble 9990 x.1 with
    | true =>
      rw [hx] at h hI
      dsimp only at h hI
      obtain ⟨hb, h⟩ := gd_some h
      exact s_intr hc hw hrm hroom hd hI (Nat.le_of_ble_eq_true hb) h (fun r S' z => hkn _ _ _ z)
    | false =>
      rw [hx] at h hI
      dsimp only at h hI
      split at h
      · rename_i as r hta
        obtain ⟨hb, h⟩ := gd_some h
        have hb := Nat.le_of_ble_eq_true hb
        obtain ⟨v, S', hcl, h⟩ := bind_some h
        rw [Bool.or_eq_true] at hI
        rcases hI with hI | hI
        · have := hC.2 x.1 as S (Nat.le_trans (by decide) (Nat.le_of_ble_eq_true hI))
          rw [this] at hcl
          cases hcl
        · simp only [Bool.and_eq_true, decide_eq_true_eq] at hI
          obtain ⟨⟨⟨⟨⟨i1, i2⟩, i3⟩, i4⟩, i5⟩, i6⟩ := hI
          have i2 := Nat.eq_of_beq_eq_true i2
          have i3 := Nat.eq_of_beq_eq_true i3
          have i4 := Nat.le_of_ble_eq_true i4
          have i5 := Nat.blt_eq.mp i5
          have hM := hC.1 _ _ _ _ _ i4 i5 hcl
          have h1 := hkn _ _ _ h
          have hcode : ((x.2.2.1.toNat : Nat) : Int) = rcc x.1 := by
            rw [i6]
            unfold rcc
            split <;> rfl
          refine ⟨hM.1.tr h1.1, fun H locs lsC hR hS hL hv hn hs => ?_⟩
          obtain ⟨la, g1, g2, g3⟩ := takeA_spec _ _ _ _ _ hta
          rw [List.append_nil] at g3
          subst g2
          subst g3
          obtain ⟨hv1, hv2⟩ := ok_app hv
          have hle1 := hM.1
          have hle2 := h1.1
          unfold LE2 at hle1 hle2
          refine s_behind hcode hM h1 hS hL hv2 hn hs (az := (la.reverse.map (rep G)).toArray) ?_
          have hrun := (run_call (below := below) (e := e) (R := R) (pc := pc) (rest := r.map (rep G)) (lsC := lsC) (cells := S.1.1 - n0) (slots := S.1.2.1 - s0) hc i4 i5 hM (fun u hu => hv1 u (List.mem_reverse.mp hu)) hfr (mk_link (args := args) hE i1) hR hS hL.2.1 (by rw [cat_sum hG]; exact hb) (by first | decide | omega)).1 i2 (by rw [List.length_reverse, g1]; exact i3) hd
          rw [List.map_reverse, List.reverse_reverse, ← List.map_append] at hrun
          rw [List.map_reverse]
          exact hrun
      · cases h
  · rename_i q
    obtain rfl : len = 3 := hlen
    unfold okI at hI
    dsimp only at hI
    cases hx : Nat.beq x.1 mClone with
    | true =>
      have hx2 : Nat.beq x.1 9998 = true := hx
      rw [hx] at h
      rw [hx2] at hI
      dsimp only at h hI
      split at h
      · rename_i a r
        obtain ⟨hb, h⟩ := gd_some h
        simp only [Bool.and_eq_true, Bool.or_eq_true] at hb
        obtain ⟨⟨⟨b1, b2⟩, b3⟩, b4⟩ := hb
        exact s_clone hc hw hrm hroom hd hI (Nat.eq_of_beq_eq_true b1) (b2.elim (fun z => Or.inl (Nat.eq_of_beq_eq_true z)) (fun z => Or.inr (Nat.eq_of_beq_eq_true z))) (Nat.le_of_ble_eq_true b4) (Nat.le_of_ble_eq_true b3) (hkn _ _ _ h)
      · cases h
    | false =>
      have hx2 : Nat.beq x.1 9998 = false := hx
      rw [hx] at h
      rw [hx2] at hI
      dsimp only at h hI
      split at h
      · rename_i b bs r hta
        obtain ⟨hb, h⟩ := gd_some h
        rw [Bool.and_eq_true] at hb
        have hb1 := Nat.eq_of_beq_eq_true hb.1
        have hb2 := Nat.le_of_ble_eq_true hb.2
        obtain ⟨v, S', hcl, h⟩ := bind_some h
        rw [Bool.or_eq_true] at hI
        rcases hI with hI | hI
        · have := hC.2 x.1 (vr b :: bs) S (Nat.le_trans (by decide) (Nat.le_of_ble_eq_true hI))
          rw [this] at hcl
          cases hcl
        · simp only [Bool.and_eq_true, decide_eq_true_eq] at hI
          obtain ⟨⟨⟨⟨⟨⟨⟨i1, i2⟩, i3⟩, i4⟩, i5⟩, i6⟩, i7⟩, i8⟩ := hI
          have i2 := Nat.eq_of_beq_eq_true i2
          have i3 := Nat.eq_of_beq_eq_true i3
          have i4 := Nat.le_of_ble_eq_true i4
          have i5 := Nat.blt_eq.mp i5
          have i7 := Nat.eq_of_beq_eq_true i7
          have i8 := Nat.le_of_ble_eq_true i8
          have hM := hC.1 _ _ _ _ _ i4 i5 hcl
          have h1 := hkn _ _ _ h
          have hcode : ((x.2.2.1.toNat : Nat) : Int) = rcc x.1 := by
            rw [i6]
            unfold rcc
            split <;> rfl
          refine ⟨hM.1.tr h1.1, fun H locs lsC hR hS hL hv hn hs => ?_⟩
          obtain ⟨la, g1, g2, g3⟩ := takeA_spec _ _ _ _ _ hta
          rw [List.append_nil] at g3
          subst g2
          obtain ⟨hv1, hv2⟩ := ok_app hv
          have hla : la = (vr b :: bs).reverse := by rw [g3, List.reverse_reverse]
          have hle1 := hM.1
          have hle2 := h1.1
          unfold LE2 at hle1 hle2
          refine s_behind hcode hM h1 hS hL hv2 hn hs (az := ((vr b :: bs).map (rep G)).toArray) ?_
          obtain ⟨rc1, rc2⟩ := recv_cell hc hw hR hS (m' := x.1) (b := b) (by rw [hb1, i7]) i8
          have hrun := ((run_call (below := below) (e := e) (R := R) (pc := pc) (rest := r.map (rep G)) (lsC := lsC) (cells := S.1.1 - n0) (slots := S.1.2.1 - s0) hc i4 i5 hM (fun u hu => hv1 u (by rw [hla]; exact List.mem_reverse.mpr hu)) hfr (mk_link (args := args) hE i1) hR hS hL.2.1 (by rw [cat_sum hG]; exact hb2) (by first | decide | omega)).2 b bs rfl rc1 rc2 (by
            have := g1
            rw [hla, List.length_reverse, List.length_cons] at this
            omega)).1 i2 hd
          have hst : (la ++ r).map (rep G) = ((vr b :: bs).map (rep G)).reverse ++ r.map (rep G) := by rw [hla, List.map_append, List.map_reverse]
          rw [hst]
          exact hrun
      · cases h
  · rename_i q
    obtain rfl : len = 3 := hlen
    unfold okI at hI
    dsimp only at hI
    cases hx : Nat.beq x.1 mObj with
    | true =>
      have hx2 : Nat.beq x.1 9999 = true := hx
      rw [hx] at h
      rw [hx2] at hI
      dsimp only at h hI
      split at h
      · rename_i b r
        obtain ⟨hb, h⟩ := gd_some h
        rw [Bool.and_eq_true] at hb
        simp only [Bool.and_eq_true] at hI
        obtain ⟨⟨i1, i2⟩, i3⟩ := hI
        exact s_obj hc hw hroom hd i1 (Nat.blt_eq.mp i3) ((Nat.eq_of_beq_eq_true hb.1).trans (Nat.eq_of_beq_eq_true i2)) (Nat.le_of_ble_eq_true hb.2) (hkn _ _ _ h)
      · cases h
    | false =>
      have hx2 : Nat.beq x.1 9999 = false := hx
      rw [hx] at h
      rw [hx2] at hI
      dsimp only at h hI
      split at h
      · rename_i b bs r hta
        obtain ⟨hb, h⟩ := gd_some h
        rw [Bool.and_eq_true] at hb
        have hb1 := Nat.eq_of_beq_eq_true hb.1
        have hb2 := Nat.le_of_ble_eq_true hb.2
        obtain ⟨v, S', hcl, h⟩ := bind_some h
        rw [Bool.or_eq_true] at hI
        rcases hI with hI | hI
        · have := hC.2 x.1 (vr b :: bs) S (Nat.le_trans (by decide) (Nat.le_of_ble_eq_true hI))
          rw [this] at hcl
          cases hcl
        · simp only [Bool.and_eq_true] at hI
          obtain ⟨⟨⟨⟨⟨⟨⟨i1, i2⟩, i3⟩, i4⟩, i5⟩, i6⟩, i7⟩, i8⟩ := hI
          have i2 := Nat.eq_of_beq_eq_true i2
          have i3 := Nat.eq_of_beq_eq_true i3
          have i4 := Nat.le_of_ble_eq_true i4
          have i5 := Nat.blt_eq.mp i5
          have i6 := Nat.eq_of_beq_eq_true i6
          have i7 := Nat.eq_of_beq_eq_true i7
          have i8 := Nat.le_of_ble_eq_true i8
          have hM := hC.1 _ _ _ _ _ i4 i5 hcl
          have h1 := hkn _ _ _ h
          refine ⟨hM.1.tr h1.1, fun H locs lsC hR hS hL hv hn hs => ?_⟩
          obtain ⟨la, g1, g2, g3⟩ := takeA_spec _ _ _ _ _ hta
          rw [List.append_nil] at g3
          subst g2
          obtain ⟨hv1, hv2⟩ := ok_app hv
          have hla : la = (vr b :: bs).reverse := by rw [g3, List.reverse_reverse]
          have hle1 := hM.1
          have hle2 := h1.1
          unfold LE2 at hle1 hle2
          refine s_behind (code := 9) (r := r) (v := v) (by unfold rcc; rw [i6]; rfl) hM h1 hS hL hv2 hn hs (az := ((vr b :: bs).map (rep G)).toArray) ?_
          obtain ⟨rc1, rc2⟩ := recv_cell hc hw hR hS (m' := x.1) (b := b) (by rw [hb1, i7]) (by first | decide | omega)
          have hrun := ((run_call (below := below) (e := e) (R := R) (pc := pc) (rest := r.map (rep G)) (lsC := lsC) (cells := S.1.1 - n0) (slots := S.1.2.1 - s0) hc i4 i5 hM (fun u hu => hv1 u (by rw [hla]; exact List.mem_reverse.mpr hu)) hfr (mk_link (args := args) hE i1) hR hS hL.2.1 (by rw [cat_sum hG]; exact hb2) (by first | decide | omega)).2 b bs rfl rc1 rc2 (by
            have := g1
            rw [hla, List.length_reverse, List.length_cons] at this
            omega)).2 i2 i6 hd
          have hst : (la ++ r).map (rep G) = ((vr b :: bs).map (rep G)).reverse ++ r.map (rep G) := by rw [hla, List.map_append, List.map_reverse]
          rw [hst]
          exact hrun
      · cases h
  · exact step_sound hc hw hrm hd hlen hI h (fun ls' st' S' z => hkn _ _ _ z)
theorem PP.msk {b : Nat} (h : PP p l e R s m args below meth c G w mi Q n0 s0 SF pc (mskL b ls) st S) : PP p l e R s m args below meth c G w mi Q n0 s0 SF pc ls st S := ⟨h.1, fun H locs lsC hR hS hL hv hn hs => h.2 H locs lsC hR hS (hL.msk b) hv hn hs⟩
theorem go_sound (hc : CX G p s m meth c mi) (hw : OKW G w) (hrm : SF.1.1 - n0 ≤ R.cells ∧ SF.1.2.1 - s0 ≤ R.slots) {d : Nat} {C : CT} (hC : CTok l G w d C) (hfr : d + 1 ≤ R.frames ∧ 64 * (d + 1) ≤ R.locals)
    (hend : ∀ (pc : Nat) (ls : LV) (v : Int) (S : AH), F = (v, S) → decode (byo mi) pc = .ok (retI (rtOf mi), 1) → ((∀ u ∈ rst (rtOf mi) v, okv u) → okc (rtOf mi) v) → PP p l e R s m args below meth c G w mi Q n0 s0 SF pc ls (rst (rtOf mi) v) S)
    {cs0 : List CE} (hcs0 : okC (byo mi) (ow mi) (iniM mi) cs0 = true) {K : KP} (hK : ∀ pc ls st S, K pc ls st S = some F → PP p l e R s m args below meth c G w mi Q n0 s0 SF pc ls st S) : ∀ (n : Nat) (first : Bool) (cs : List CE) (ls : LV) (st : List TV) (S : AH), okC (byo mi) (ow mi) (iniM mi) cs = true → go w C K cs0 (rtOf mi) n first cs ls st S = some F → ∀ (e1 : CE) (r1 : List CE), cs = e1 :: r1 → PP p l e R s m args below meth c G w mi Q n0 s0 SF e1.1 ls st S := by
  intro n
  induction n with
  | zero => intro first cs ls st S _ h; cases h
  | succ n ih =>
    intro first cs ls st S hok h e1 r hcs
    subst hcs
    obtain ⟨pc, ck, i, x⟩ := e1
    unfold go at h
    dsimp only at h
    cases hq : (Nat.blt 0 ck && !first) with
    | true =>
      rw [hq] at h
      exact PP.msk (hK _ _ _ _ h)
    | false =>
      rw [hq] at h
      dsimp only at h
      obtain ⟨len, hd, hlen, hnx, hI, hr⟩ := okC_inv hok
      refine ctl_sound hc hw hrm hC hfr hd hlen hI hend h (fun ls' st' S' z => ?_) (fun t ls' st' S' z => ?_)
      · match r, z, hnx, hr with
        | [], z, _, _ =>
          cases n <;> cases z
        | e' :: r', z, hnx, hr =>
          have := ih false (e' :: r') ls' st' S' hr z e' r' rfl
          rw [hnx e' r' rfl] at this
          exact this
      · obtain ⟨h1, h2⟩ := cde_spec (t := t) cs0 hcs0
        match hz : cde cs0 t, z, h1, h2 with
        | [], z, _, _ =>
          cases n <;> cases z
        | e' :: r', z, h1, h2 =>
          have := ih false (e' :: r') ls' st' S' h1 z e' r' rfl
          rw [h2 e' r' rfl] at this
          exact this
theorem lpn_sound (hc : CX G p s m meth c mi) (hw : OKW G w) (hrm : SF.1.1 - n0 ≤ R.cells ∧ SF.1.2.1 - s0 ≤ R.slots) {d : Nat} {C : CT} (hC : CTok l G w d C) (hfr : d + 1 ≤ R.frames ∧ 64 * (d + 1) ≤ R.locals)
    (hend : ∀ (pc : Nat) (ls : LV) (v : Int) (S : AH), F = (v, S) → decode (byo mi) pc = .ok (retI (rtOf mi), 1) → ((∀ u ∈ rst (rtOf mi) v, okv u) → okc (rtOf mi) v) → PP p l e R s m args below meth c G w mi Q n0 s0 SF pc ls (rst (rtOf mi) v) S) : ∀ (n : Nat) (pc : Nat) (ls : LV) (st : List TV) (S : AH), lpn w C mi n pc ls st S = some F → PP p l e R s m args below meth c G w mi Q n0 s0 SF pc ls st S := by
  have hok : okC (byo mi) (ow mi) (iniM mi) (csOf mi) = true := om_all hc.2.2.2.2.2.2
  intro n
  induction n with
  | zero => intro pc ls st S h; cases h
  | succ n ih =>
    intro pc ls st S h
    have h : go w C (lpn w C mi n) (csOf mi) (rtOf mi) 4000 true (cde (csOf mi) pc) ls st S = some F := h
    obtain ⟨h1, h2⟩ := cde_spec (t := pc) (csOf mi) hok
    have h3 := go_sound hc hw hrm hC hfr hend hok (K := lpn w C mi n) ih 4000 true (cde (csOf mi) pc) ls st S h1 h
    match hz : cde (csOf mi) pc, h with
    | [], h => cases h
    | e' :: r', h =>
      have := h3 e' r' hz
      rw [h2 e' r' hz] at this
      exact this
end SND
end
section
-- 09n.ev
/-! every method's run is the machine's -/
theorem ev_none {w : WC} (d m : Nat) (as : List TV) (S : AH) (h : 338 ≤ m) : ev w d m as S = none := by
  cases d with
  | zero => rfl
  | succ d =>
    have e : csOf m = [] := csOf_none h
    rw [ev_eq, e]
    cases Nat.ble (spr as).length (mlOf m) <;> rfl
theorem rty_at {m : Nat} (h : m < 338) : (rty m = none ∧ rtOf m = 9) ∨ ∃ t, rty m = some t ∧ rtOf m = fk t ∧ fk t ≠ 7 := by
  have := List.all_eq_true.mp rt_ok m (List.mem_range.mpr h)
  cases hr : rty m with
  | none =>
    rw [hr] at this
    exact Or.inl ⟨rfl, Nat.eq_of_beq_eq_true this⟩
  | some t =>
    rw [hr] at this
    dsimp only at this
    rw [Bool.and_eq_true] at this
    refine Or.inr ⟨t, rfl, Nat.eq_of_beq_eq_true this.1, fun z => ?_⟩
    rw [z] at this
    cases this.2
theorem narrow_ok {G : GE} (hG : gVok G) {t : FieldType} {v : Int} (h1 : fk t ≠ 1) (h2 : fk t ≠ 2) (h7 : fk t ≠ 7) (hv : okc (fk t) v) : narrow t (.int (Int32.ofInt v)) = .int (Int32.ofInt v) := by
  cases t with
  | int => rfl
  | byte => exact (store_ok (ty := .byte) hG (by decide) hv).1
  | boolean => exact (store_ok (ty := .boolean) hG (by decide) hv).1
  | char =>
    have hv : 0 ≤ v ∧ v ≤ 65535 := hv
    have hr : r32 v := by unfold r32; omega
    have hw : w16u v = v := by unfold w16u; omega
    have e := ofi_i2c hr
    rw [hw] at e
    show Value.int _ = Value.int _
    congr 1
  | long => exact absurd rfl h1
  | object n => exact absurd rfl h2
  | array n => exact absurd rfl h2
  | _ => exact absurd rfl h7
section SND
variable {p : Program} {l : Launch} {e : Env} {R : Room} {s : State} {m : MethodId} {args : Array Value} {below : List Frame} {meth : Method} {c : Code} {G : GE} {w : WC} {mi : Nat} {S : AH}
/-- a method's end -/
theorem end_ok {v : Int} {S' : AH} {n0 s0 : Nat} (hc : CX G p s m meth c mi) (hr : meth.sig.returnType = rty mi) (hlocks : meth.locks = false) {pc : Nat} {ls : LV} (hd : decode (byo mi) pc = .ok (retI (rtOf mi), 1)) (hok : (∀ u ∈ rst (rtOf mi) v, okv u) → okc (rtOf mi) v) :
    PP p l e R s m args below meth c G w mi (MQ below (QCc G w S' (rtOf mi) v) args s (S'.1.1 - n0) (S'.1.2.1 - s0) (AA G)) n0 s0 S' pc ls (rst (rtOf mi) v) S' := by
  have hG := hc.2.2.2.2.2.1.2.2.2.2.2.2.2.1
  refine ⟨LE2.rf, fun H locs lsC hR hS hL hv hn hs => ?_⟩
  have hokc := hok hv
  have hq : ∀ t : State, t.heap = H → s.WarmedH t.vm → QCc G w S' (rtOf mi) v args s (.returned (rvo G (rtOf mi) v)) t := fun t ht _ => ⟨rfl, hokc, by rw [ht]; exact hR, hS.F ht⟩
  rcases rty_at hc.2.2.2.2.2.2 with ⟨h1, h2⟩ | ⟨t, h1, h2, h7⟩
  · rw [h2] at hd hq ⊢
    exact W.vret hc.1 hc.2.1 (by rw [hr, h1]) hq hS.2.2 hd (hlocks := hlocks)
  · rw [h2] at hd hq hokc ⊢
    rw [h1] at hr
    cases t with
    | long => exact W.lret hc.1 hc.2.1 hr hq hS.2.2 hd (hlocks := hlocks)
    | object n => exact W.aret hc.1 hc.2.1 hr (Or.inl ⟨n, rfl⟩) (rf_cases hG _) hq hS.2.2 hd (hlocks := hlocks)
    | array n => exact W.aret hc.1 hc.2.1 hr (Or.inr ⟨n, rfl⟩) (rf_cases hG _) hq hS.2.2 hd (hlocks := hlocks)
    | int => exact W.zret hc.1 hc.2.1 hr rfl hq hS.2.2 hd (hlocks := hlocks)
    | byte => exact W.zret hc.1 hc.2.1 hr (narrow_ok hG (by decide) (by decide) (by decide) hokc) hq hS.2.2 hd (hlocks := hlocks)
    | boolean => exact W.zret hc.1 hc.2.1 hr (narrow_ok hG (by decide) (by decide) (by decide) hokc) hq hS.2.2 hd (hlocks := hlocks)
    | char => exact W.zret hc.1 hc.2.1 hr (narrow_ok hG (by decide) (by decide) (by decide) hokc) hq hS.2.2 hd (hlocks := hlocks)
    | _ => exact absurd rfl h7
theorem ev_ok (hG : gVok G) (hw : OKW G w) : ∀ d, CTok l G w d (ev w d) := by
  intro d
  induction d with
  | zero => exact ⟨fun m' as S v S' _ _ h => (by cases h), fun m' as S _ => rfl⟩
  | succ d ih =>
    refine ⟨fun m' as S v S' h1 h2 h => ⟨ev_gr _ _ _ _ _ h, fun hok => ?_⟩, fun m' as S h => ev_none _ _ _ _ h⟩
    have hle : LE2 S S' := ev_gr _ _ _ _ _ h
    obtain ⟨hsp, hL⟩ := gd_some h
    have hsp := Nat.le_of_ble_eq_true hsp
    obtain ⟨n, hn⟩ := LQ_iff.mp hL
    have hmw := mw_at h1 h2
    unfold mwOk2 at hmw
    simp only [Bool.and_eq_true, decide_eq_true_eq] at hmw
    obtain ⟨⟨⟨⟨w1, w2⟩, w3⟩, w4⟩, w5⟩ := hmw
    refine va_MetF (cc := byo m') (maxL := mlOf m') (ret := rty m') w2 rfl ?_
    intro p e s m args below meth c s₁ B hml hP
    obtain ⟨hargs, hR, hE⟩ := hP
    have hc : CX G p s m meth c m' := ⟨B.exec, B.bytes, hml, findClass_of_methodNamed B.named, fun hi => by
      have h3 := (name_of_methodNamed B.named B.method).1
      rw [h3]
      unfold iniM at hi
      rw [Nat.eq_of_beq_eq_true hi] at w5
      simp only [Bool.and_eq_true, decide_eq_true_eq] at w5
      exact w5.2, hE, h2⟩
    have hpp := lpn_sound (F := (v, S')) (SF := S') (n0 := S.1.1) (s0 := S.1.2.1) (args := args) (below := below) (e := e) (R := (headSpec [Cond.code (ynm m') (byo m') (mlOf m') (rty m')] (rmd (d + 1) S S')).room) (Q := MQ below (QCc G w S' (rtOf m') v) args s (S'.1.1 - S.1.1) (S'.1.2.1 - S.1.2.1) (AA G)) hc hw ⟨Nat.le_refl _, Nat.le_refl _⟩ ih ⟨Nat.le_refl _, Nat.le_refl _⟩ (fun pc ls v' S2 hF hd hok2 => by
      cases hF
      exact end_ok hc B.returns B.notSynchronized hd hok2) n 0 (ent (mlOf m') as) [] S hn
    have hfin := hpp.2 s.heap [] _ hR va_S.rf (LR.entry hG hsp hok) (fun u hu => by cases hu) (Nat.le_refl _) (Nat.le_refl _)
    rw [hargs, lg_entry_eq]
    rw [hargs] at hfin
    refine W.cs ?_ ?_ hfin
    · omega
    · omega
end SND
end
section
-- 09o.start
/-! what holds at the law's entry -/
noncomputable def R_law : String := "SupplyBookLaw"
noncomputable def lw_P (b : Addr) (xs : List Int32) (args : Array Value) (s : State) : Prop := args = #[.ref b] ∧ s.IntsAt b xs ∧ xs.length ≤ 3584 ∧ (Jvm.Cond.and given_1 narrow_1).before args s = true
noncomputable def lw_Q (_ : Array Value) (s : State) (o : Outcome) (t : State) : Prop := o = .returned (some (.int 1)) ∧ Framed s o t [] 600000 7302250
noncomputable def lw_Z (below : List Frame) (a : Array Value) (s : State) : State → Prop := fun t => ∃ o, t.status = .running ∧ Ended t below o ∧ lw_Q a s o t
noncomputable def lw_At (p : Program) (s : State) (m : MethodId) (meth : Method) (c : Code) (b L : Nat) (xs : Nat → Int32) : Prop :=
  p.tables.exec = Jvm.exec ∧ c.code = code ∧ meth.sig.returnType = ret ∧ c.maxLocals = 4 ∧ s.vm.findClass R_law = some m.cls ∧ (∀ w ∈ lw_tbl, w.before #[Value.ref b] s = true) ∧ va_X b L xs s s.heap ∧ b < s.heap.size ∧ meth.locks = false ∧ (Jvm.Cond.and given_1 narrow_1).before #[Value.ref b] s = true
theorem kw_any {c : Cond} (hk : kw c = true) {A A' : Array Value} {U : State} (h : c.before A U = true) : c.before A' U = true := by
  unfold kw at hk
  split at hk
  · exact va_any rfl h
  · exact va_any rfl h
  · exact va_any rfl h
  · exact h
  · rcases good_of_word hk with q | ⟨ty, rfl⟩
    · rw [Bool.and_eq_true] at q
      exact va_any q.1 h
    · exact h
noncomputable def stm (i : Nat) : Term := .string (cnm (stl.getD i (0, 0, "")).1) (stl.getD i (0, 0, "")).2.1
noncomputable def sln : List Nat := [7, 6, 3, 3, 5]
noncomputable def sbt : List (List Int32) := [[97, 121, 104, 107, 114, 113, 108], [109, 99, 98, 101, 100, 120], [60, 62, 61], [42, 47, 37], [109, 99, 98, 101, 100]]
noncomputable def inN (c : Cond) : Bool := decide (c ∈ flatC (Jvm.Cond.and given_1 narrow_1))
theorem st_ex : ((List.range 5).all fun i => inN (.exactly (stm i) "java/lang/String") && inN (.eq (.field (stm i) "java/lang/String" "coder" "B") (.int 0)) && inN (.arrayOf (.field (stm i) "java/lang/String" "value" "[B") .byte) && inN (.eq (.length (.field (stm i) "java/lang/String" "value" "[B")) (.int (Int32.ofNat (sln.getD i 0))))) = true := by decide +kernel
theorem st_el : ((List.range 5).all fun i => (List.range (sln.getD i 0)).all fun j => inN (.eq (.elem (.field (stm i) "java/lang/String" "value" "[B") (.int (Int32.ofNat j))) (.int ((sbt.getD i []).getD j 0)))) = true := by decide +kernel
theorem st_ne : ((List.range 5).all fun i => (List.range 5).all fun j => Nat.beq i j || inN (.not (.eq (stm i) (stm j))) || inN (.not (.eq (stm j) (stm i)))) = true := by decide +kernel
theorem st_by : ((List.range 5).all fun i => (List.range (sln.getD i 0)).all fun j => decide ((sbt.getD i []).getD j 0 = Int32.ofInt (xvv (9 + i) j))) = true := by decide +kernel
noncomputable def tbv : List (List Int32) := [[], [], [0, 2, 3, 4], [10, 0, 0, 0, 30]]
noncomputable def tbn (a : Nat) : String := if a = 2 then "ASKED_KINDS" else "USUAL_NUMBERS"
theorem tb_ok : ([2, 3].all fun a => inN (.arrayOf (.static "SupplyBook" (tbn a) "[I") .int) && inN (.eq (.length (.static "SupplyBook" (tbn a) "[I")) (.int (Int32.ofNat (xsh 0 a).2))) && (List.range (xsh 0 a).2).all fun j => inN (.eq (.elem (.static "SupplyBook" (tbn a) "[I") (.int (Int32.ofNat j))) (.int ((tbv.getD a []).getD j 0))) && decide ((tbv.getD a []).getD j 0 = Int32.ofInt (xvv a j))) = true := by decide +kernel
theorem cs_in : inN (.eq (.static "java/lang/String" "COMPACT_STRINGS" "Z") (.int 1)) = true := by decide +kernel
theorem fm_in : inN (.isRef (.static "jdk/internal/util/Preconditions" "SIOOBE_FORMATTER" "Ljava/util/function/BiFunction;")) = true := by decide +kernel
noncomputable def gEf (b t2 t3 : Nat) (aK aV : Nat → Nat) : Nat → Nat := fun a => if a = 1 then b else if a = 2 then t2 else if a = 3 then t3 else if a < 9 then aK (a - 4) else aV (a - 9)
theorem EN_start {p : Program} {s : State} {m : MethodId} {meth : Method} {c : Code} {b L : Nat} {xs : Nat → Int32} (hL : L ≤ 3584) (C0 : lw_At p s m meth c b L xs) : ∃ G : GE, EN G s s.heap ∧ gb G = s.heap.size ∧ gE G 1 = b ∧ gL G = L ∧ gX G = xs ∧ ∀ a, gp G a = a := by
  obtain ⟨-, -, -, -, -, hts, hX, hbl, -, hgv⟩ := C0
  have hs := flat_of_before _ hgv
  have hin : ∀ {c : Cond}, inN c = true → c.before #[Value.ref b] s = true := fun h => hs _ (of_decide_eq_true h)
  have hw : ∀ c ∈ lw_tbl, kw c = true → c.before #[] s = true := fun c hc hk => kw_any hk (hts c hc)
  have hw1 : ∀ {i : Nat} {c : Cond} {A : Array Value}, wok1 i c = true → c.before A s = true := fun h => kw_any (wok1_mem h).2 (hts _ (wok1_mem h).1)
  have hA : ∀ a : Nat, a < s.heap.size → ¬ (fun q => s.heap.size ≤ q) a := fun a ha q => by dsimp only at q; omega
  -- classes
  have h0 : ∀ ci : Nat, ∃ q : ClassId × (Nat → Nat), ci < 13 → u_Kn s (cnm ci) (TT ci) (NN ci) q.1 q.2 := by
    intro ci
    by_cases hci : ci < 13
    · obtain ⟨cC, iS, h⟩ := u_known (C := cnm ci) (T := TT ci) (N := NN ci) (n := NN ci) hts (fun w hw => by
        obtain ⟨k, hk, rfl⟩ := List.mem_map.mp hw
        exact (lay_at hci (List.mem_range.mp hk)).1) (hw1 (inst_ok hci).1)
      exact ⟨(cC, iS), fun _ => h⟩
    · exact ⟨(0, fun _ => 0), fun h => absurd h hci⟩
  obtain ⟨fC, hfC⟩ := Classical.axiomOfChoice h0
  have hap : ∀ {ty : FieldType}, (Cond.arrayClass ty).before #[Value.ref b] s = true → ∃ cA : ClassId, ArrOfT s cA ty ∧ s.vm.findClass ("[" ++ ty.toString) = some cA := by
    intro ty h
    obtain ⟨cA, kA, comp, f1, f2, f3⟩ := Cond.arrayClass_spec h
    exact ⟨cA, fun N z => ⟨(fun k h => by cases h), kA, f2, comp, f3⟩, f1⟩
  have hao : ∀ {C : String}, va_AO C s → ∃ cA : ClassId, ArrOfT s cA (.object C) ∧ va_RA s cA (.object C) := by
    intro C h
    obtain ⟨comp, cA, kA, f1, -, f2, f3, f4⟩ := Cond.arrayOver_spec (args := #[]) (first := s) (o := none) (idx := []) h
    exact ⟨cA, fun N z => ⟨(fun k h => by cases h), kA, f2, comp, f3⟩, kA, comp, f2, f3, f1, f4⟩
  have h1 : ∀ t : Nat, ∃ q : ClassId, t < 7 → ArrOfT s q (ety t) ∧ va_RA s q (ety t) := by
    intro t
    by_cases ht : t < 7
    · rcases (show t = 0 ∨ t = 1 ∨ t = 2 ∨ t = 3 ∨ t = 4 ∨ t = 5 ∨ t = 6 by omega) with rfl | rfl | rfl | rfl | rfl | rfl | rfl
      · obtain ⟨cA, a1, a2⟩ := hap (hw1 aw_byte); exact ⟨cA, fun _ => ⟨a1, a2⟩⟩
      · obtain ⟨cA, a1, a2⟩ := hap (hw1 aw_bool); exact ⟨cA, fun _ => ⟨a1, a2⟩⟩
      · obtain ⟨cA, a1, a2⟩ := hap (hw1 aw_int); exact ⟨cA, fun _ => ⟨a1, a2⟩⟩
      · obtain ⟨cA, a1, a2⟩ := hap (hw1 aw_long); exact ⟨cA, fun _ => ⟨a1, a2⟩⟩
      · obtain ⟨cA, a1, a2⟩ := hao (C := cnm 9) (hw1 ao_text); exact ⟨cA, fun _ => ⟨a1, a2⟩⟩
      · obtain ⟨cA, a1, a2⟩ := hao (C := cnm 1) (hw1 ao_auth); exact ⟨cA, fun _ => ⟨a1, a2⟩⟩
      · obtain ⟨cA, a1, a2⟩ := hao (C := cnm 2) (hw1 ao_claim); exact ⟨cA, fun _ => ⟨a1, a2⟩⟩
    · exact ⟨0, fun h => absurd h ht⟩
  obtain ⟨fA, hfA⟩ := Classical.axiomOfChoice h1
  -- texts
  have hex := fun i (hi : i < 5) => List.all_eq_true.mp st_ex i (List.mem_range.mpr hi)
  simp only [Bool.and_eq_true] at hex
  obtain ⟨aK, aV, hSS, hSe⟩ := vk_Sof (args := #[Value.ref b]) (s := s) (N := 5) (tm := stm) (len := sln) (byt := sbt) (A := fun q => s.heap.size ≤ q)
    (fun i hi => by rcases (show i = 0 ∨ i = 1 ∨ i = 2 ∨ i = 3 ∨ i = 4 by omega) with rfl | rfl | rfl | rfl | rfl <;> decide)
    (fun i hi => hin (hex i hi).1.1.1) (fun i hi => hin (hex i hi).1.1.2) (fun i hi => hin (hex i hi).1.2) (fun i hi => hin (hex i hi).2)
    (fun i hi j hj => hin (List.all_eq_true.mp (List.all_eq_true.mp st_el i (List.mem_range.mpr hi)) j (List.mem_range.mpr hj)))
    (fun i j hi hj hij => by
      have h := List.all_eq_true.mp (List.all_eq_true.mp st_ne i (List.mem_range.mpr hi)) j (List.mem_range.mpr hj)
      rw [Bool.or_eq_true, Bool.or_eq_true] at h
      rcases h with (h | h) | h
      · exact absurd (Nat.eq_of_beq_eq_true h) hij
      · exact Or.inl (hin h)
      · exact Or.inr (hin h)) hA
  -- tables
  have htb : ∀ a : Nat, a = 2 ∨ a = 3 → ∃ t : Nat, (Term.static "SupplyBook" (tbn a) "[I").eval #[Value.ref b] s none [] s = some (.ref t) ∧ va_T .int t (xsh L a).2 (fun j => .int (Int32.ofInt (xvv a j))) (fun q => s.heap.size ≤ q) s s.heap := by
    intro a ha
    have hx : (xsh L a).2 = (xsh 0 a).2 := by rcases ha with rfl | rfl <;> rfl
    have h := List.all_eq_true.mp tb_ok a (by simp; exact ha)
    rw [Bool.and_eq_true, Bool.and_eq_true] at h
    obtain ⟨⟨g1, g2⟩, g3⟩ := h
    rw [hx]
    refine va_Tof ?_ (hin g1) (va_eqt (hin g2)) (fun j hj => ?_) hA
    · rcases ha with rfl | rfl <;> decide
    · have g := List.all_eq_true.mp g3 j (List.mem_range.mpr hj)
      rw [Bool.and_eq_true, decide_eq_true_eq] at g
      rw [va_eqt (hin g.1), g.2]
  obtain ⟨t2, e2, T2⟩ := htb 2 (Or.inl rfl)
  obtain ⟨t3, e3, T3⟩ := htb 3 (Or.inr rfl)
  have lS : ∀ {c : Cond}, decide (c ∈ tables_1) = true → c.before #[Value.ref b] s = true := fun h => hts _ (List.mem_append_right _ (of_decide_eq_true h))
  have z2 := va_Zref (A := fun q => s.heap.size ≤ q) (C := "SupplyBook") (n := "ASKED_KINDS") (d := "[I") (lS (by decide +kernel)) (lS (by decide +kernel)) e2 hA
  have z3 := va_Zref (A := fun q => s.heap.size ≤ q) (C := "SupplyBook") (n := "USUAL_NUMBERS") (d := "[I") (lS (by decide +kernel)) (lS (by decide +kernel)) e3 hA
  have z4 := va_Zof (A := fun q => s.heap.size ≤ q) (C := "java/lang/String") (n := "COMPACT_STRINGS") (d := "Z") (lS (by decide +kernel)) (lS (by decide +kernel)) (va_eqi (hin cs_in)) hA
  have z5 := va_Zqof (A := fun q => s.heap.size ≤ q) (C := "jdk/internal/util/Preconditions") (n := "SIOOBE_FORMATTER") (d := "Ljava/util/function/BiFunction;") (lS (by decide +kernel)) (lS (by decide +kernel)) (hin fm_in) hA
  have hV : ∃ v : Value, (v = .null ∨ ∃ t, v = .ref t) ∧ va_Z "jdk/internal/util/Preconditions" "SIOOBE_FORMATTER" "Ljava/util/function/BiFunction;" v (fun q => s.heap.size ≤ q) s s.heap := by
    rcases z5 with z | ⟨t, z⟩
    · exact ⟨_, Or.inl rfl, z⟩
    · exact ⟨_, Or.inr ⟨t, rfl⟩, z⟩
  obtain ⟨v, hv, z5⟩ := hV
  refine ⟨(s.heap.size, gEf b t2 t3 aK aV, v, fun ci => (fC ci).1, fun ci => (fC ci).2, fA, L, xs, ⟨fun a => a, fun _ h => h, fun _ _ h => h⟩), ⟨hw, hfC, hfA, ⟨hX, hbl, hL⟩, fun a ha => ?_, fun j hj => ?_, ⟨z2, z3, z4, z5⟩, hv, Nat.le_refl _⟩, rfl, rfl, rfl, rfl, fun _ => rfl⟩
  · rcases ha with rfl | rfl
    · exact T2
    · exact T3
  · obtain ⟨g1, g2, g3, g4⟩ := hSS.1 j hj
    have k1 : gEf b t2 t3 aK aV (4 + j) = aK j := by
      unfold gEf
      rw [if_neg (by first | decide | omega), if_neg (by first | decide | omega), if_neg (by first | decide | omega), if_pos (by first | decide | omega)]
      congr 1
      omega
    have k2 : gEf b t2 t3 aK aV (9 + j) = aV j := by
      unfold gEf
      rw [if_neg (by first | decide | omega), if_neg (by first | decide | omega), if_neg (by first | decide | omega), if_neg (by first | decide | omega)]
      congr 1
      omega
    show vk_R _ _ _ (gEf b t2 t3 aK aV (4 + j)) s ∧ va_O _ (gEf b t2 t3 aK aV (4 + j)) _ s s.heap ∧ va_OF _ _ _ _ (gEf b t2 t3 aK aV (4 + j)) _ s s.heap ∧ va_OF _ _ _ (.ref (gEf b t2 t3 aK aV (9 + j))) (gEf b t2 t3 aK aV (4 + j)) _ s s.heap ∧ va_T .byte (gEf b t2 t3 aK aV (9 + j)) (xsh L (9 + j)).2 _ _ s s.heap
    rw [k1, k2]
    refine ⟨?_, g1, g2, g3, ?_⟩
    · refine vk_R.of (A := #[Value.ref b]) ?_ (hSe j hj)
      rcases (show j = 0 ∨ j = 1 ∨ j = 2 ∨ j = 3 ∨ j = 4 by omega) with rfl | rfl | rfl | rfl | rfl <;> exact lS (by decide +kernel)
    · have hl : (xsh L (9 + j)).2 = sln.getD j 0 := by rcases (show j = 0 ∨ j = 1 ∨ j = 2 ∨ j = 3 ∨ j = 4 by omega) with rfl | rfl | rfl | rfl | rfl <;> rfl
      rw [hl]
      obtain ⟨cell, c1, c2, c3, c4, c5, c6, c7⟩ := g4
      refine ⟨cell, c1, c2, c3, c4, c5, fun k hk => ?_, c7⟩
      rw [c6 k hk]
      have := List.all_eq_true.mp (List.all_eq_true.mp st_by j (List.mem_range.mpr hj)) k (List.mem_range.mpr hk)
      dsimp only
      rw [of_decide_eq_true this]
end
section
-- 09p.mono
/-! deeper runs give no other answer -/
noncomputable def Cle (C C' : CT) : Prop := ∀ m as S r, C m as S = some r → C' m as S = some r
theorem bind_C {o o' : Rs} {k : Int → AH → Rs} {r : Int × AH} (ho : ∀ r, o = some r → o' = some r) (h : bindR o k = some r) : bindR o' k = some r := by
  obtain ⟨v, S', h1, h2⟩ := bind_some h
  rw [ho _ h1]
  exact h2
theorem gd_mk {b : Bool} {o : Rs} {r : Int × AH} (hb : b = true) (h : o = some r) : gd b o = some r := by
  rw [hb]
  exact h
set_option maxHeartbeats 4000000 in
theorem ctl_C {w : WC} {C C' : CT} (hC : Cle C C') {cs0 : List CE} {rt pc : Nat} {i : Instr} {x : XI} {cs : List CE} {ls : LV} {st : List TV} {S : AH} {rec : RT} {r : Int × AH} (h : ctl w C cs0 rt pc i x cs ls st S rec = some r) : ctl w C' cs0 rt pc i x cs ls st S rec = some r := by
  unfold ctl at h ⊢
  cases i
  all_goals try exact h
  case invokestatic =>
    dsimp only at h ⊢
    cases hx : Nat.ble 9990 x.1 with
    | true =>
      rw [hx] at h
      exact h
    | false =>
      rw [hx] at h
      dsimp only at h ⊢
      cases hq : takeA x.2.1 st [] with
      | none => rw [hq] at h; cases h
      | some q =>
        obtain ⟨as, rr⟩ := q
        rw [hq] at h
        dsimp only at h ⊢
        obtain ⟨hb, h⟩ := gd_some h
        exact gd_mk hb (bind_C (fun r q => hC _ _ _ r q) h)
  case invokevirtual =>
    dsimp only at h ⊢
    cases hx : Nat.beq x.1 mClone with
    | true =>
      rw [hx] at h
      exact h
    | false =>
      rw [hx] at h
      dsimp only at h ⊢
      cases hq : takeA x.2.1 st [] with
      | none => rw [hq] at h; cases h
      | some q =>
        obtain ⟨as, rr⟩ := q
        rw [hq] at h
        match as, h with
        | .inr (.inr b) :: as, h =>
          dsimp only at h ⊢
          obtain ⟨hb, h⟩ := gd_some h
          exact gd_mk hb (bind_C (fun r q => hC _ _ _ r q) h)
        | [], h => cases h
        | .inl _ :: _, h => cases h
        | .inr (.inl _) :: _, h => cases h
  case invokespecial =>
    dsimp only at h ⊢
    cases hx : Nat.beq x.1 mObj with
    | true =>
      rw [hx] at h
      exact h
    | false =>
      rw [hx] at h
      dsimp only at h ⊢
      cases hq : takeA x.2.1 st [] with
      | none => rw [hq] at h; cases h
      | some q =>
        obtain ⟨as, rr⟩ := q
        rw [hq] at h
        match as, h with
        | .inr (.inr b) :: as, h =>
          dsimp only at h ⊢
          obtain ⟨hb, h⟩ := gd_some h
          exact gd_mk hb (bind_C (fun r q => hC _ _ _ r q) h)
        | [], h => cases h
        | .inl _ :: _, h => cases h
        | .inr (.inl _) :: _, h => cases h
theorem go_C {w : WC} {C C' : CT} (hC : Cle C C') {cs0 : List CE} {rt : Nat} {K : KP} : ∀ (n : Nat) (first : Bool) (cs : List CE) (ls : LV) (st : List TV) (S : AH) (r : Int × AH), go w C K cs0 rt n first cs ls st S = some r → go w C' K cs0 rt n first cs ls st S = some r := by
  intro n
  induction n with
  | zero => intro first cs ls st S r h; cases h
  | succ n ih =>
    intro first cs ls st S r h
    match cs, h with
    | [], h => cases h
    | (pc, ck, i, x) :: cs, h =>
      unfold go at h ⊢
      dsimp only at h ⊢
      cases hc : (Nat.blt 0 ck && !first) with
      | true =>
        rw [hc] at h
        exact h
      | false =>
        rw [hc] at h
        dsimp only at h ⊢
        refine ctl_C hC ?_
        rcases lin_ctl _ _ h with h1 | ⟨z, a, b, c, h1, h2⟩
        · exact h1 _
        · exact h2 _ (ih false z a b c r h1)
theorem lpn_C {w : WC} {C C' : CT} (hC : Cle C C') {m : Nat} : ∀ (n : Nat) (pc : Nat) (ls : LV) (st : List TV) (S : AH) (r : Int × AH), lpn w C m n pc ls st S = some r → lpn w C' m n pc ls st S = some r := by
  intro n
  induction n with
  | zero => intro pc ls st S r h; cases h
  | succ n ih =>
    intro pc ls st S r h
    have h : go w C (lpn w C m n) (csOf m) (rtOf m) 4000 true (cde (csOf m) pc) ls st S = some r := h
    show go w C' (lpn w C' m n) (csOf m) (rtOf m) 4000 true (cde (csOf m) pc) ls st S = some r
    exact go_mono (fun pc a b c q => ih pc a b c r q) (go_C hC _ _ _ _ _ _ _ h)
theorem LQ_C {w : WC} {C C' : CT} (hC : Cle C C') {m pc : Nat} {ls : LV} {st : List TV} {S : AH} {r : Int × AH} (h : LQ w C m pc ls st S = some r) : LQ w C' m pc ls st S = some r := by
  obtain ⟨n, h⟩ := LQ_iff.mp h
  exact LQ_iff.mpr ⟨n, lpn_C hC _ _ _ _ _ _ h⟩
theorem ev_up {w : WC} : ∀ d, Cle (ev w d) (ev w (d + 1)) := by
  intro d
  induction d with
  | zero => intro m as S r h; cases h
  | succ d ih =>
    intro m as S r h
    obtain ⟨hb, h⟩ := gd_some h
    exact gd_mk hb (LQ_C ih h)
theorem ev_le {w : WC} {d d' : Nat} (hd : d ≤ d') : Cle (ev w d) (ev w d') := by
  induction hd with
  | refl => exact fun m as S r h => h
  | step _ ih => exact fun m as S r h => ev_up _ m as S r (ih m as S r h)
theorem LQ_le {w : WC} {d d' m pc : Nat} (hd : d ≤ d') {ls : LV} {st : List TV} {S : AH} {r : Int × AH} (h : LQ w (ev w d) m pc ls st S = some r) : LQ w (ev w d') m pc ls st S = some r := LQ_C (ev_le hd) h
/-- runs of few cuts, to be reckoned -/
noncomputable def evc (w : WC) : Nat → CT
  | 0 => fun _ _ _ => none
  | d + 1 => fun m as S => gd (Nat.ble (spr as).length (mlOf m)) (lpn w (evc w d) m 4 0 (ent (mlOf m) as) [] S)
theorem evc_ev {w : WC} : ∀ d, Cle (evc w d) (ev w d) := by
  intro d
  induction d with
  | zero => intro m as S r h; cases h
  | succ d ih =>
    intro m as S r h
    obtain ⟨hb, h⟩ := gd_some h
    exact gd_mk hb (LQ_iff.mpr ⟨4, lpn_C ih _ _ _ _ _ _ h⟩)
end
