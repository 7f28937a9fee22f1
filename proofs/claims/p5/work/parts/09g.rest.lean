/-! words of arrays, of Object, of Math -/
theorem aw_byte : wok1 1058 (.arrayClass .byte) = true := by decide +kernel
theorem aw_bool : wok1 8123 (.arrayClass .boolean) = true := by decide +kernel
theorem aw_int : wok1 1060 (.arrayClass .int) = true := by decide +kernel
theorem aw_long : wok1 1059 (.arrayClass .long) = true := by decide +kernel
theorem ao_text : wok1 1142 (.arrayOver (.object (cnm 9))) = true := by decide +kernel
theorem ao_auth : wok1 1167 (.arrayOver (.object (cnm 1))) = true := by decide +kernel
theorem ao_claim : wok1 1202 (.arrayOver (.object (cnm 2))) = true := by decide +kernel
theorem ob_inst : wok1 1029 (.instanceMethod objectInit) = true := by decide +kernel
theorem ob_code : wok1 1030 (.code objectInit ⟨#[0xb1]⟩ 1 none) = true := by decide +kernel
theorem cl_same0 : wok1 3147 (.sameMethod "[B" "java/lang/Object" "clone" "()Ljava/lang/Object;") = true := by decide +kernel
theorem cl_same2 : wok1 3161 (.sameMethod "[I" "java/lang/Object" "clone" "()Ljava/lang/Object;") = true := by decide +kernel
theorem cl_nat : wok1 3148 (.native ⟨"java/lang/Object", "clone", "()Ljava/lang/Object;"⟩) = true := by decide +kernel
theorem cl_inst : wok1 3149 (.instanceMethod ⟨"java/lang/Object", "clone", "()Ljava/lang/Object;"⟩) = true := by decide +kernel
theorem cl_sel0 : wok1 3150 (.selects "[B" ⟨"[B", "clone", "()Ljava/lang/Object;"⟩ ⟨"java/lang/Object", "clone", "()Ljava/lang/Object;"⟩) = true := by decide +kernel
theorem cl_sel2 : wok1 3162 (.selects "[I" ⟨"[I", "clone", "()Ljava/lang/Object;"⟩ ⟨"java/lang/Object", "clone", "()Ljava/lang/Object;"⟩) = true := by decide +kernel
theorem cl_cast0 : wok1 3151 (.castable "[B" "java/lang/Cloneable") = true := by decide +kernel
theorem cl_cast2 : wok1 3163 (.castable "[I" "java/lang/Cloneable") = true := by decide +kernel
theorem cp_stat : wok1 3155 (.static arraycopyName) = true := by decide +kernel
theorem cp_nat : wok1 3156 (.native arraycopyName) = true := by decide +kernel
theorem cp_ini : wok1 1019 (.initialized "java/lang/System") = true := by decide +kernel
theorem mt_ini : wok1 1014 (.initialized "java/lang/Math") = true := by decide +kernel
theorem mx_stat : wok1 3021 (.static Lib.Math.max.name) = true := by decide +kernel
theorem mn_stat : wok1 3024 (.static Lib.Math.min.name) = true := by decide +kernel
theorem mn_code : wok1 3025 (.code Lib.Math.min.name Lib.Math.min.code 2 (some .int)) = true := by decide +kernel
theorem mx_code : wok1 3022 (.code Lib.Math.max.name Lib.Math.max.code 2 (some .int)) = true := by decide +kernel
theorem ml_stat : wok1 5237 (.static Lib.MathLoose.min_long.x) = true := by decide +kernel
theorem ml_code : wok1 5238 (.code Lib.MathLoose.min_long.x Lib.MathLoose.min_long.code 4 (some .long)) = true := by decide +kernel
theorem mL_stat : wok1 6000 (.static Lib.MathLoose.max_long.x) = true := by decide +kernel
theorem mL_code : wok1 6001 (.code Lib.MathLoose.max_long.x Lib.MathLoose.max_long.code 4 (some .long)) = true := by decide +kernel
section SND
variable {p : Program} {l : Launch} {e : Env} {R : Room} {s : State} {m : MethodId} {args : Array Value} {below : List Frame} {meth : Method} {c : Code} {G : GE} {w : WC} {mi : Nat} {Q : State → Prop} {n0 s0 : Nat} {SF : AH} {F : Int × AH} {pc len : Nat} {ls : LV} {st : List TV} {S : AH} {k : KT}
theorem S_push {H : Heap} {locs : List Loc} {x : Cell} (hS : va_S (AA G) s.heap H locs) : va_S (AA G) s.heap (H.push x) locs :=
  ⟨by rw [Array.size_push]; exact Nat.le_succ_of_le hS.1, fun y h1 h2 => by rw [Array.getElem?_push, if_neg (Nat.ne_of_lt (Nat.lt_of_lt_of_le h1 hS.1))]; exact hS.2.1 y h1 h2, hS.2.2⟩
/-- behind a new array -/
theorem s_newEnd (hw : OKW G w) {t n : Nat} {r : List TV} {f : Nat → Int} (ht : t < 7) (hn20 : n ≤ 20000) (hf : ∀ j, j < n → okc (arC t) (f j)) (h1 : PP p l e R s m args below meth c G w mi Q n0 s0 SF pc ls (vr S.1.1 :: r) (nwc S t n f)) {H : Heap} {locs : List Loc} {lsC : Array Slot} (hR : Rel G w S H) (hS : va_S (AA G) s.heap H locs) (hL : LR G ls lsC (mlOf mi)) (hv : ∀ v ∈ r, okv v) (hn : n0 ≤ S.1.1) (hs : s0 ≤ S.1.2.1) :
    W p l e R s m args below meth c (H.push (arrV (gA G t) n (fun j => rep G (mkv (arC t) (f j))))) locs (S.1.1 - n0 + 1) (S.1.2.1 - s0 + n) Q (F0 m pc lsC (.ref H.size :: r.map (rep G))) := by
  have := h1.2 _ _ lsC (Rel.newA hw hR ht hn20 hf) (S_push hS) hL (cons_ok trivial hv) (show n0 ≤ S.1.1 + 1 by omega) (show s0 ≤ S.1.2.1 + n by omega)
  rw [List.map_cons] at this
  have e : rep G (vr S.1.1) = .ref H.size := by
    show rf G S.1.1 = _
    rw [rf_own hR.1, gad_new hw hR]
  rw [e] at this
  refine W.cs ?_ ?_ this
  · show S.1.1 - n0 + 1 = S.1.1 + 1 - n0
    omega
  · show S.1.2.1 - s0 + n = S.1.2.1 + n - s0
    omega
theorem s_newarr (hc : CX G p s m meth c mi) (hw : OKW G w) (hrm : SF.1.1 - n0 ≤ R.cells ∧ SF.1.2.1 - s0 ≤ R.slots) {ty : ArrayType} (hd : decode (byo mi) pc = .ok (.newarray ty, 2)) (hh : gd (Nat.ble (aty ty) 3) (newA (aty ty) ls st S k) = some F) (hk : ∀ ls' st' S', k ls' st' S' = some F → PP p l e R s m args below meth c G w mi Q n0 s0 SF (pc + 2) ls' st' S') : PP p l e R s m args below meth c G w mi Q n0 s0 SF pc ls st S := by
  have hE := hc.2.2.2.2.2.1
  obtain ⟨hb0, h⟩ := gd_some hh
  have hb := Nat.le_of_ble_eq_true hb0
  unfold newA at h
  split at h
  · rename_i n r
    split at h
    · rename_i hn1
      have h1 := hk _ _ _ h
      have hles : S.1.1 + 1 ≤ SF.1.1 ∧ S.1.2.1 + n.toNat ≤ SF.1.2.1 := h1.1
      refine ⟨⟨by omega, by omega⟩, fun H locs lsC hR hS hL hv hn hs => ?_⟩
      obtain ⟨v0, hv⟩ := ok_cons hv
      have hcl := clampI v0 hn1.1
      have hneg : ¬ Int32.ofInt n < 0 := fun q => by
        have := (lt32 v0 (y := 0) (by unfold r32; omega)).mp q
        omega
      have main : ∀ t : Nat, aty ty = t → t < 4 → newarray.typeOf ty = ety t → (Cond.arrayClass (ety t)).before args s = true → componentBytes (ety t) ≤ 8 → (∀ cX : ClassId, s.vm.findClass ("[" ++ (ety t).toString) = some cX → cX = gA G t) → W p l e R s m args below meth c H locs (S.1.1 - n0) (S.1.2.1 - s0) Q (F0 m pc lsC (.int (Int32.ofInt n) :: r.map (rep G))) := by
        intro t ht ht4 hty hac hcb hcl2
        rw [ht] at h1
        refine W.newa hc.1 hc.2.1 (by rw [hty]; exact hac) rfl hd rfl hneg (by rw [hcl, hty]; exact Nat.le_trans (Nat.mul_le_mul (show n.toNat ≤ 20000 by omega) hcb) (by decide)) (by first | decide | omega) (by rw [hcl]; omega) (fun cX kA comp f1 f2 f3 => ?_)
        rw [hty] at f1 ⊢
        have e := hcl2 cX f1
        subst e
        rw [hcl, arrV_new, dfl_a (G := G) (by first | decide | omega)]
        exact s_newEnd hw (f := fun _ => 0) (by first | decide | omega) (by first | decide | omega) (fun _ _ => okc_0 _) h1 hR hS hL hv hn hs
      have hRA : ∀ t, t < 4 → ∀ cX : ClassId, s.vm.findClass ("[" ++ (ety t).toString) = some cX → cX = gA G t := by
        intro t ht cX hX
        have := (hE.2.2.1 t (by first | decide | omega)).2
        rcases (show t = 0 ∨ t = 1 ∨ t = 2 ∨ t = 3 by omega) with rfl | rfl | rfl | rfl <;> exact Option.some.inj (hX.symm.trans this)
      cases ty with
      | byte => exact main 0 rfl (by decide) rfl (hE.word aw_byte) (by decide) (hRA 0 (by decide))
      | boolean => exact main 1 rfl (by decide) rfl (hE.word aw_bool) (by decide) (hRA 1 (by decide))
      | int => exact main 2 rfl (by decide) rfl (hE.word aw_int) (by decide) (hRA 2 (by decide))
      | long => exact main 3 rfl (by decide) rfl (hE.word aw_long) (by decide) (hRA 3 (by decide))
      | _ => exact absurd hb (by decide)
    · cases h
  · cases h
theorem s_anew (hc : CX G p s m meth c mi) (hw : OKW G w) (hrm : SF.1.1 - n0 ≤ R.cells ∧ SF.1.2.1 - s0 ≤ R.slots) {q : Nat} {x : XI} (hd : decode (byo mi) pc = .ok (.anewarray q, 3)) (hI : okI (ow mi) (iniM mi) pc (.anewarray q) x = true) (h : newA x.1 ls st S k = some F) (hk : ∀ ls' st' S', k ls' st' S' = some F → PP p l e R s m args below meth c G w mi Q n0 s0 SF (pc + 3) ls' st' S') : PP p l e R s m args below meth c G w mi Q n0 s0 SF pc ls st S := by
  have hE := hc.2.2.2.2.2.1
  unfold okI at hI
  obtain ⟨en, hen, hm⟩ := List.any_eq_true.mp hI
  rw [Bool.and_eq_true] at hm
  obtain ⟨hm, hm3⟩ := hm
  obtain ⟨m1, m2⟩ := mtc_eq hm
  have hl := hE.word (List.all_eq_true.mp akl_ok en hen)
  rw [m1, m2] at hl
  unfold newA at h
  split at h
  · rename_i n r
    split at h
    · rename_i hn1
      have h1 := hk _ _ _ h
      have hles : S.1.1 + 1 ≤ SF.1.1 ∧ S.1.2.1 + n.toNat ≤ SF.1.2.1 := h1.1
      refine ⟨⟨by omega, by omega⟩, fun H locs lsC hR hS hL hv hn hs => ?_⟩
      obtain ⟨v0, hv⟩ := ok_cons hv
      have hcl := clampI v0 hn1.1
      have hneg : ¬ Int32.ofInt n < 0 := fun q => by
        have := (lt32 v0 (y := 0) (by unfold r32; omega)).mp q
        omega
      have main : ∀ t ci : Nat, x.1 = t → t < 7 → en.2.2.1 = ci → ety t = .object (cnm ci) → arC t = 2 → va_AO (cnm ci) s → W p l e R s m args below meth c H locs (S.1.1 - n0) (S.1.2.1 - s0) Q (F0 m pc lsC (.int (Int32.ofInt n) :: r.map (rep G))) := by
        intro t ci ht ht7 hci hty harc hao
        rw [ht] at h1
        rw [hci] at hl
        have hRA := (hE.2.2.1 t ht7).2
        rw [hty] at hRA
        obtain ⟨kA', comp', g1, g2, g3, g4⟩ := hRA
        refine W.anew hc.1 hc.2.1 hc.2.2.2.1 (onT rfl hl) hao.use rfl hd rfl hneg (by rw [hcl]; omega) (by first | decide | omega) (by rw [hcl]; omega) (fun cX kA comp f1 f2 f3 f4 => ?_)
        have e : cX = gA G t := Option.some.inj (f1.symm.trans g4)
        subst e
        have := s_newEnd hw (f := fun _ => 0) (by first | decide | omega) (by first | decide | omega) (fun _ _ => okc_0 _) h1 hR hS hL hv hn hs
        rw [harc] at this
        rw [hcl, arrV_new]
        exact this
      match hz : en.2.2.1, hm3 with
      | 9, hm3 => exact main 4 9 (Nat.eq_of_beq_eq_true hm3) (by decide) hz (by decide +kernel) rfl (hE.word ao_text)
      | 1, hm3 => exact main 5 1 (Nat.eq_of_beq_eq_true hm3) (by decide) hz (by decide +kernel) rfl (hE.word ao_auth)
      | 2, hm3 => exact main 6 2 (Nat.eq_of_beq_eq_true hm3) (by decide) hz (by decide +kernel) rfl (hE.word ao_claim)
      | 0, hm3 => cases hm3
      | 3, hm3 => cases hm3
      | 4, hm3 => cases hm3
      | 5, hm3 => cases hm3
      | 6, hm3 => cases hm3
      | 7, hm3 => cases hm3
      | 8, hm3 => cases hm3
      | n + 10, hm3 => cases hm3
    · cases h
  · cases h
theorem W_cast {H : Heap} {locs : List Loc} {cells slots : Nat} {cc : ByteArray} {lsC : Array Slot} {rest : List Value} (hexec : p.tables.exec = Jvm.exec) (hb : c.code = cc) {own nm : String} {index : Nat} (hown : s.vm.findClass own = some m.cls) (hlink : (Cond.classLink own index nm).before args s = true) {a : Nat} {cell : Cell} (hcell : H[a]? = some cell) (hst : cell.vm.isStatics = false) (hnm : s.vm.findClass nm = some cell.cls) (hdg : decode cc pc = .ok (.checkcast index, 3))
    (k : W p l e R s m args below meth c H locs cells slots Q (F0 m (pc + 3) lsC (.ref a :: rest))) : W p l e R s m args below meth c H locs cells slots Q (F0 m pc lsC (.ref a :: rest)) := by
  intro T hT X
  obtain ⟨vm', X', st⟩ := X.checkcastYes hexec hown hlink (by rw [hT]; exact hcell) hst hnm (va_asg _ _) (g := F0 m pc lsC (.ref a :: rest)) rfl rfl (by rw [hb]; exact hdg)
  obtain ⟨t, a1, b1⟩ := k (T.setVm vm') hT X'
  exact ⟨t, st t a1, b1⟩
theorem adn_cls (hE : EN G s s.heap) {t : Nat} (ht : t = 0 ∨ t = 2) : s.vm.findClass (adn t) = some (gA G t) := by
  rcases ht with rfl | rfl
  · exact (hE.2.2.1 0 (by decide)).2
  · exact (hE.2.2.1 2 (by decide)).2
theorem own_ge (hw : OKW G w) {a t : Nat} (h : (shp w S a).1 = t) (ht : t = 0 ∨ t = 2) (hn : ∀ b, 9 ≤ b → b < 14 → a ≠ b) (h1 : a ≠ 1) (h2 : a ≠ 2) (h3 : a ≠ 3) : 15 ≤ a := by
  rcases Nat.lt_or_ge a 15 with q | q
  · rw [shp_ext hw q (by first | decide | omega)] at h
    rcases (show a = 0 ∨ a = 1 ∨ a = 2 ∨ a = 3 ∨ (4 ≤ a ∧ a < 9) ∨ (9 ≤ a ∧ a < 14) ∨ a = 14 by omega) with rfl | z | z | z | z | z | rfl
    · simp [xsh] at h; omega
    · exact absurd z h1
    · exact absurd z h2
    · exact absurd z h3
    · rcases (show a = 4 ∨ a = 5 ∨ a = 6 ∨ a = 7 ∨ a = 8 by omega) with rfl | rfl | rfl | rfl | rfl <;> simp [xsh] at h <;> omega
    · exact absurd rfl (hn a z.1 z.2)
    · simp [xsh] at h; omega
  · exact q
theorem s_cast (hc : CX G p s m meth c mi) (hw : OKW G w) {q : Nat} {x : XI} (hd : decode (byo mi) pc = .ok (.checkcast q, 3)) (hI : okI (ow mi) (iniM mi) pc (.checkcast q) x = true) {a : Nat} {r : List TV} (hb : (shp w S a).1 = x.1) (h15 : 15 ≤ a) (h1 : PP p l e R s m args below meth c G w mi Q n0 s0 SF (pc + 3) ls (vr a :: r) S) : PP p l e R s m args below meth c G w mi Q n0 s0 SF pc ls (vr a :: r) S := by
  have hE := hc.2.2.2.2.2.1
  unfold okI at hI
  obtain ⟨en, hen, hm⟩ := List.any_eq_true.mp hI
  rw [Bool.and_eq_true, Bool.and_eq_true] at hm
  obtain ⟨⟨hm, hm3⟩, hm4⟩ := hm
  obtain ⟨m1, m2⟩ := mtc_eq hm
  have m3 := Nat.eq_of_beq_eq_true hm3
  have hl := hE.word (List.all_eq_true.mp kkl_ok en hen)
  rw [m1, m2, m3] at hl
  have ht : x.1 = 0 ∨ x.1 = 2 := by
    rw [Bool.or_eq_true] at hm4
    exact hm4.elim (fun z => Or.inl (Nat.eq_of_beq_eq_true z)) (fun z => Or.inr (Nat.eq_of_beq_eq_true z))
  refine ⟨h1.1, fun H locs lsC hR hS hL hv hn hs => ?_⟩
  have hcell := ((hR.2.2.2.2 a h15 (hR.lt (by first | decide | omega))).1 (by first | decide | omega)).1
  rw [hb] at hcell
  have := h1.2 H locs lsC hR hS hL hv hn hs
  have e : rep G (vr a) = .ref (gad G a) := rf_own h15
  rw [List.map_cons, e] at this ⊢
  exact W_cast hc.1 hc.2.1 hc.2.2.2.1 (onT rfl hl) hcell rfl (adn_cls hE ht) hd this
/-- clone of an array of ours -/
theorem s_clone (hc : CX G p s m meth c mi) (hw : OKW G w) (hrm : SF.1.1 - n0 ≤ R.cells ∧ SF.1.2.1 - s0 ≤ R.slots) (hroom : 1 ≤ R.frames ∧ 64 ≤ R.locals) {q : Nat} {x : XI} (hd : decode (byo mi) pc = .ok (.invokevirtual q, 3)) (he : (cln.any fun e => mtc e.1 e.2.1 (ow mi) q && Nat.beq e.2.2.1 x.2.2.2) = true) {a : Nat} {r : List TV} (hb : (shp w S a).1 = x.2.2.2) (ht : x.2.2.2 = 0 ∨ x.2.2.2 = 2) (h15 : 15 ≤ a) (hcat : cats r ≤ 8)
    (h1 : PP p l e R s m args below meth c G w mi Q n0 s0 SF (pc + 3) ls (vr S.1.1 :: r) (nwc S (shp w S a).1 (shp w S a).2 (rdv w S a))) : PP p l e R s m args below meth c G w mi Q n0 s0 SF pc ls (vr a :: r) S := by
  have hE := hc.2.2.2.2.2.1
  obtain ⟨en, hen, hm⟩ := List.any_eq_true.mp he
  rw [Bool.and_eq_true] at hm
  obtain ⟨m1, m2⟩ := mtc_eq hm.1
  have m3 := Nat.eq_of_beq_eq_true hm.2
  have hl := hE.word (List.all_eq_true.mp cln_ok en hen)
  rw [m1, m2, m3] at hl
  have hles : S.1.1 + 1 ≤ SF.1.1 ∧ S.1.2.1 + (shp w S a).2 ≤ SF.1.2.1 := h1.1
  refine ⟨⟨by omega, by omega⟩, fun H locs lsC hR hS hL hv hn hs => ?_⟩
  obtain ⟨-, hv⟩ := ok_cons hv
  obtain ⟨hcell, hn20, hokc⟩ := (hR.2.2.2.2 a h15 (hR.lt (by first | decide | omega))).1 (by first | decide | omega)
  have hend := s_newEnd hw (by first | decide | omega) hn20 hokc h1 hR hS hL hv hn hs
  have e : rep G (vr a) = .ref (gad G a) := rf_own h15
  rw [List.map_cons, e]
  rw [hb] at hcell hend
  have hA := hE.2.2.1 x.2.2.2 (by first | decide | omega)
  have hnm := adn_cls hE ht
  have hfit : ∀ (i : Nat) (v : Value), (arrV (gA G x.2.2.2) (shp w S a).2 (fun j => rep G (mkv (arC x.2.2.2) (rdv w S a j)))).slots[i]? = some v → fits (ety x.2.2.2) v = true := by
    intro i v hi
    have hlt : i < (shp w S a).2 := by
      have := (Array.getElem?_eq_some_iff.mp hi).1
      rwa [arrV_size] at this
    rw [arrV_read _ _ hlt] at hi
    cases hi
    have hokc := hokc i hlt
    rw [hb] at hokc
    rcases ht with z | z
    · rw [z] at hokc ⊢
      exact (store_ok (ty := .byte) hE.2.2.2.2.2.2.2.1 (by decide) hokc).2
    · rw [z]
      rfl
  have hrest : ((r.map (rep G)).map fun v => v.category).sum ≤ 8 := by
    have : ∀ r : List TV, ((r.map (rep G)).map fun v => v.category).sum = cats r := by
      intro r
      induction r with
      | nil => rfl
      | cons v r ih => rw [List.map_cons, List.map_cons, List.sum_cons, ih, rep_cat hE.2.2.2.2.2.2.2.1]; rfl
    rw [this]
    exact hcat
  generalize hcx : arrV (gA G x.2.2.2) (shp w S a).2 (fun j => rep G (mkv (arC x.2.2.2) (rdv w S a j))) = cx at hcell hend hfit
  have c1 : cx.vm = .none := by rw [← hcx]; rfl
  have c2 : cx.cls = gA G x.2.2.2 := by rw [← hcx]; rfl
  have c3 : cx.slots.size = (shp w S a).2 := by rw [← hcx]; exact arrV_size _ _ _
  have c4 : ({ cls := cx.cls, slots := cx.slots } : Cell) = cx := by rw [← hcx]; rfl
  have hwords : (Cond.sameMethod (adn x.2.2.2) "java/lang/Object" "clone" "()Ljava/lang/Object;").before args s = true ∧ (Cond.selects (adn x.2.2.2) ⟨adn x.2.2.2, "clone", "()Ljava/lang/Object;"⟩ ⟨"java/lang/Object", "clone", "()Ljava/lang/Object;"⟩).before args s = true ∧ (Cond.castable (adn x.2.2.2) "java/lang/Cloneable").before args s = true := by
    rcases ht with z | z
    · rw [z]
      exact ⟨onT rfl (hE.word cl_same0), onT rfl (hE.word cl_sel0), onT rfl (hE.word cl_cast0)⟩
    · rw [z]
      exact ⟨onT rfl (hE.word cl_same2), onT rfl (hE.word cl_sel2), onT rfl (hE.word cl_cast2)⟩
  obtain ⟨c0, t0', f1, f2, f3⟩ := Cond.castable_spec hwords.2.2
  cases hnm.symm.trans f1
  intro T hT X
  have hcellT : T.heap[gad G a]? = some cx := by rw [hT]; exact hcell
  obtain ⟨-, kA, hkA, comp, hkind⟩ := State.isArrayOf_alike X.warmed.alike (hA.1 0 (fun _ => .null))
  obtain ⟨-, kS, hkS, compS, hkindS⟩ := hA.1 0 (fun _ => .null)
  obtain ⟨vm', X', stp⟩ := X.cloneArray hc.1 hc.2.2.2.1 (onT rfl hl) hwords.1 (onT rfl (hE.word cl_nat)) (onT rfl (hE.word cl_inst)) hwords.2.1 (a := gad G a) (cell := cx) hcellT (fun k h => by rw [c1] at h; cases h) (by rw [c1]; exact fun h => by cases h) (by rw [c2]; exact hnm) f2 (by rw [c2]; exact f3)
    (fun i v hv => by
      rw [c2]
      have hk' : T.vm.classes[gA G x.2.2.2]? = some kA := hkA
      simpa [State.fitsSlot, State.slotType?, hk', hkind] using hfit i v hv)
    (g := F0 m pc lsC (.ref (gad G a) :: r.map (rep G))) rfl (by rw [hc.2.2.1]; exact hL.2.1) rfl (by rw [hc.2.1]; exact hd) hroom.1 (by show 2 * 0 + _ + 14 ≤ _; omega) (by first | decide | omega) (by rw [c3]; omega) (hloader := by rw [c2]; exact Vm.clonesLoader_of_array hkS hkindS)
  rw [c4, c3] at X'
  obtain ⟨t, b1, b2⟩ := hend ((T.setVm vm').pushCell cx) (by rw [← hT]; rfl) X'
  refine ⟨t, stp t ?_, b2⟩
  rw [c4, hT]
  exact b1
end SND
