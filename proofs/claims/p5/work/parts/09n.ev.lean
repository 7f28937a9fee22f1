/-! every method's run is the machine's -/
theorem ev_none {w : WC} (d m : Nat) (as : List TV) (S : AH) (h : 338 ≤ m) : ev w d m as S = none := by
  cases d with
  | zero => rfl
  | succ d =>
    have e : csOf m = [] := csOf_none h
    rw [ev_eq, e]
    cases Nat.ble (spr as).length (mlOf m) <;> rfl
theorem rty_at {m : Nat} (h : m < 338) : (rty m = none ∧ rtOf m = 9) ∨ ∃ t, rty m = some t ∧ rtOf m = fk t ∧ fk t ≠ 7 := by
  have := List.all_eq_true.mp rt_ok m (List.mem_range.mpr h)
  cases hr : rty m with
  | none =>
    rw [hr] at this
    exact Or.inl ⟨rfl, Nat.eq_of_beq_eq_true this⟩
  | some t =>
    rw [hr] at this
    dsimp only at this
    rw [Bool.and_eq_true] at this
    refine Or.inr ⟨t, rfl, Nat.eq_of_beq_eq_true this.1, fun z => ?_⟩
    rw [z] at this
    cases this.2
theorem narrow_ok {G : GE} (hG : gVok G) {t : FieldType} {v : Int} (h1 : fk t ≠ 1) (h2 : fk t ≠ 2) (h7 : fk t ≠ 7) (hv : okc (fk t) v) : narrow t (.int (Int32.ofInt v)) = .int (Int32.ofInt v) := by
  cases t with
  | int => rfl
  | byte => exact (store_ok (ty := .byte) hG (by decide) hv).1
  | boolean => exact (store_ok (ty := .boolean) hG (by decide) hv).1
  | char =>
    have hv : 0 ≤ v ∧ v ≤ 65535 := hv
    have hr : r32 v := by unfold r32; omega
    have hw : w16u v = v := by unfold w16u; omega
    have e := ofi_i2c hr
    rw [hw] at e
    show Value.int _ = Value.int _
    congr 1
  | long => exact absurd rfl h1
  | object n => exact absurd rfl h2
  | array n => exact absurd rfl h2
  | _ => exact absurd rfl h7
section SND
variable {p : Program} {l : Launch} {e : Env} {R : Room} {s : State} {m : MethodId} {args : Array Value} {below : List Frame} {meth : Method} {c : Code} {G : GE} {w : WC} {mi : Nat} {S : AH}
/-- a method's end -/
theorem end_ok {v : Int} {S' : AH} {n0 s0 : Nat} (hc : CX G p s m meth c mi) (hr : meth.sig.returnType = rty mi) (hlocks : meth.locks = false) {pc : Nat} {ls : LV} (hd : decode (byo mi) pc = .ok (retI (rtOf mi), 1)) (hok : (∀ u ∈ rst (rtOf mi) v, okv u) → okc (rtOf mi) v) :
    PP p l e R s m args below meth c G w mi (MQ below (QCc G w S' (rtOf mi) v) args s (S'.1.1 - n0) (S'.1.2.1 - s0) (AA G)) n0 s0 S' pc ls (rst (rtOf mi) v) S' := by
  have hG := hc.2.2.2.2.2.1.2.2.2.2.2.2.2.1
  refine ⟨LE2.rf, fun H locs lsC hR hS hL hv hn hs => ?_⟩
  have hokc := hok hv
  have hq : ∀ t : State, t.heap = H → s.WarmedH t.vm → QCc G w S' (rtOf mi) v args s (.returned (rvo G (rtOf mi) v)) t := fun t ht _ => ⟨rfl, hokc, by rw [ht]; exact hR, hS.F ht⟩
  rcases rty_at hc.2.2.2.2.2.2 with ⟨h1, h2⟩ | ⟨t, h1, h2, h7⟩
  · rw [h2] at hd hq ⊢
    exact W.vret hc.1 hc.2.1 (by rw [hr, h1]) hq hS.2.2 hd (hlocks := hlocks)
  · rw [h2] at hd hq hokc ⊢
    rw [h1] at hr
    cases t with
    | long => exact W.lret hc.1 hc.2.1 hr hq hS.2.2 hd (hlocks := hlocks)
    | object n => exact W.aret hc.1 hc.2.1 hr (Or.inl ⟨n, rfl⟩) (rf_cases hG _) hq hS.2.2 hd (hlocks := hlocks)
    | array n => exact W.aret hc.1 hc.2.1 hr (Or.inr ⟨n, rfl⟩) (rf_cases hG _) hq hS.2.2 hd (hlocks := hlocks)
    | int => exact W.zret hc.1 hc.2.1 hr rfl hq hS.2.2 hd (hlocks := hlocks)
    | byte => exact W.zret hc.1 hc.2.1 hr (narrow_ok hG (by decide) (by decide) (by decide) hokc) hq hS.2.2 hd (hlocks := hlocks)
    | boolean => exact W.zret hc.1 hc.2.1 hr (narrow_ok hG (by decide) (by decide) (by decide) hokc) hq hS.2.2 hd (hlocks := hlocks)
    | char => exact W.zret hc.1 hc.2.1 hr (narrow_ok hG (by decide) (by decide) (by decide) hokc) hq hS.2.2 hd (hlocks := hlocks)
    | _ => exact absurd rfl h7
theorem ev_ok (hG : gVok G) (hw : OKW G w) : ∀ d, CTok l G w d (ev w d) := by
  intro d
  induction d with
  | zero => exact ⟨fun m' as S v S' _ _ h => (by cases h), fun m' as S _ => rfl⟩
  | succ d ih =>
    refine ⟨fun m' as S v S' h1 h2 h => ⟨ev_gr _ _ _ _ _ h, fun hok => ?_⟩, fun m' as S h => ev_none _ _ _ _ h⟩
    have hle : LE2 S S' := ev_gr _ _ _ _ _ h
    obtain ⟨hsp, hL⟩ := gd_some h
    have hsp := Nat.le_of_ble_eq_true hsp
    obtain ⟨n, hn⟩ := LQ_iff.mp hL
    have hmw := mw_at h1 h2
    unfold mwOk2 at hmw
    simp only [Bool.and_eq_true, decide_eq_true_eq] at hmw
    obtain ⟨⟨⟨⟨w1, w2⟩, w3⟩, w4⟩, w5⟩ := hmw
    refine va_MetF (cc := byo m') (maxL := mlOf m') (ret := rty m') w2 rfl ?_
    intro p e s m args below meth c s₁ B hml hP
    obtain ⟨hargs, hR, hE⟩ := hP
    have hc : CX G p s m meth c m' := ⟨B.exec, B.bytes, hml, findClass_of_methodNamed B.named, fun hi => by
      have h3 := (name_of_methodNamed B.named B.method).1
      rw [h3]
      unfold iniM at hi
      rw [Nat.eq_of_beq_eq_true hi] at w5
      simp only [Bool.and_eq_true, decide_eq_true_eq] at w5
      exact w5.2, hE, h2⟩
    have hpp := lpn_sound (F := (v, S')) (SF := S') (n0 := S.1.1) (s0 := S.1.2.1) (args := args) (below := below) (e := e) (R := (headSpec [Cond.code (ynm m') (byo m') (mlOf m') (rty m')] (rmd (d + 1) S S')).room) (Q := MQ below (QCc G w S' (rtOf m') v) args s (S'.1.1 - S.1.1) (S'.1.2.1 - S.1.2.1) (AA G)) hc hw ⟨Nat.le_refl _, Nat.le_refl _⟩ ih ⟨Nat.le_refl _, Nat.le_refl _⟩ (fun pc ls v' S2 hF hd hok2 => by
      cases hF
      exact end_ok hc B.returns B.notSynchronized hd hok2) n 0 (ent (mlOf m') as) [] S hn
    have hfin := hpp.2 s.heap [] _ hR va_S.rf (LR.entry hG hsp hok) (fun u hu => by cases hu) (Nat.le_refl _) (Nat.le_refl _)
    rw [hargs, lg_entry_eq]
    rw [hargs] at hfin
    refine W.cs ?_ ?_ hfin
    · omega
    · omega
end SND
