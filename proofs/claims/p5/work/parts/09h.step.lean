section SND
variable {p : Program} {l : Launch} {e : Env} {R : Room} {s : State} {m : MethodId} {args : Array Value} {below : List Frame} {meth : Method} {c : Code} {G : GE} {w : WC} {mi : Nat} {Q : State → Prop} {n0 s0 : Nat} {SF : AH} {F : Int × AH} {pc len : Nat} {ls : LV} {st : List TV} {S : AH} {k : KT}
theorem cat_sum (hG : gVok G) : ∀ r : List TV, ((r.map (rep G)).map fun v => v.category).sum = cats r := by
  intro r
  induction r with
  | nil => rfl
  | cons v r ih => rw [List.map_cons, List.map_cons, List.sum_cons, ih, rep_cat hG]; rfl
theorem nnI {z : Int} (h : r32 z) (h0 : 0 ≤ z) : ¬ Int32.ofInt z < 0 := fun q => by
  have := (lt32 h (y := 0) (by unfold r32; omega)).mp q
  omega
theorem s_copy (hc : CX G p s m meth c mi) (hw : OKW G w) (hroom : 1 ≤ R.frames ∧ 64 ≤ R.locals) {q : Nat} {k2 : List TV → AH → Rs} (hd : decode (byo mi) pc = .ok (.invokestatic q, 3)) (he : (xkl.any fun e => mtc e.1 e.2.1 (ow mi) q && Nat.beq e.2.2.1 9997) = true) (hcat : cats st ≤ 20) (h : copyA w st S k2 = some F) (hk : ∀ r S', k2 r S' = some F → PP p l e R s m args below meth c G w mi Q n0 s0 SF (pc + 3) ls r S') : PP p l e R s m args below meth c G w mi Q n0 s0 SF pc ls st S := by
  have hE := hc.2.2.2.2.2.1
  obtain ⟨en, hen, hm⟩ := List.any_eq_true.mp he
  rw [Bool.and_eq_true] at hm
  obtain ⟨m1, m2⟩ := mtc_eq hm.1
  have m3 := Nat.eq_of_beq_eq_true hm.2
  have hl := List.all_eq_true.mp xkl_ok en hen
  rw [m1, m2, m3] at hl
  have hl := hE.word (show wok1 en.2.2.2 (.methodLink (cnm (ow mi)) q (mnm 9997)) = true from hl)
  unfold copyA at h
  split at h
  · rename_i n dp b sp a r
    obtain ⟨hb, h⟩ := gd_some h
    simp only [Bool.and_eq_true, Bool.or_eq_true, Bool.not_eq_true'] at hb
    obtain ⟨⟨⟨b1, b2⟩, b3⟩, b4⟩ := hb
    have b1 := Nat.eq_of_beq_eq_true b1
    have ht : (shp w S a).1 = 0 ∨ (shp w S a).1 = 2 := b2.elim (fun z => Or.inl (Nat.eq_of_beq_eq_true z)) (fun z => Or.inr (Nat.eq_of_beq_eq_true z))
    split at h
    · rename_i hi
      have h1 := hk _ _ h
      refine ⟨h1.1, fun H locs lsC hR hS hL hv hn hs => ?_⟩
      obtain ⟨v0, hv⟩ := ok_cons hv
      obtain ⟨v1, hv⟩ := ok_cons hv
      obtain ⟨-, hv⟩ := ok_cons hv
      obtain ⟨v2, hv⟩ := ok_cons hv
      obtain ⟨-, hv⟩ := ok_cons hv
      obtain ⟨e1, e2, cs, c1, c2, c3, c4, c5, c6⟩ := arr_at hw hE hS hR (a := a) (t := (shp w S a).1) (n := (shp w S a).2) rfl (by first | decide | omega)
      obtain ⟨h15, hcell⟩ := own_arr hw hR b3 (by first | decide | omega)
      have hokB : ∀ j, j < (shp w S b).2 → okc (arC (shp w S b).1) (rdv w S b j) := ((hR.2.2.2.2 b h15 (hR.lt (by first | decide | omega))).1 (by first | decide | omega)).2.2
      rw [← b1] at hcell hokB
      have hsz : (arrV (gA G (shp w S a).1) (shp w S b).2 (fun j => rep G (mkv (arC (shp w S a).1) (rdv w S b j)))).slots.size = (shp w S b).2 := arrV_size _ _ _
      obtain ⟨hs6, k0, hk0, cm0, hkk0⟩ := c2
      obtain ⟨-, k1, hk1, cm1, hkk1⟩ := (hE.2.2.1 (shp w S a).1 (by first | decide | omega)).1 (shp w S b).2 (fun j => rep G (mkv (arC (shp w S a).1) (rdv w S b j)))
      have hmk : ∀ z, ∃ y : Int32, rep G (mkv (arC (shp w S a).1) z) = .int y := by
        intro z
        rcases ht with q | q <;> rw [q] <;> exact ⟨_, rfl⟩
      show W p l e R s m args below meth c _ _ _ _ _ (F0 m pc lsC (.int (Int32.ofInt n) :: .int (Int32.ofInt dp) :: rf G b :: .int (Int32.ofInt sp) :: rf G a :: r.map (rep G)))
      rw [e1, rf_own h15]
      have hca : cats r ≤ 20 := by
        have : cats r ≤ cats (Sum.inl n :: Sum.inl dp :: Sum.inr (Sum.inr b) :: Sum.inl sp :: Sum.inr (Sum.inr a) :: r) := by
          simp only [cats]
          omega
        omega
      intro T hT X
      obtain ⟨vm', X', step⟩ := X.arraycopy hc.1 hc.2.2.2.1 (onT rfl hl) (onT rfl (hE.word cp_nat)) (onT rfl (hE.word cp_stat)) (onT rfl (hE.word cp_ini)) (src := gad G a) (dst := gad G b) (cs := cs) (cd := arrV (gA G (shp w S a).1) (shp w S b).2 (fun j => rep G (mkv (arC (shp w S a).1) (rdv w S b j)))) (srcPos := Int32.ofInt sp) (destPos := Int32.ofInt dp) (n := Int32.ofInt n) (by rw [hT]; exact c1) (by rw [hT]; exact hcell)
        hs6 (fun _ h => by cases h) c3 (fun h => by cases h) hk0 hk1 hkk0 hkk1 (by rcases ht with q | q <;> rw [q] <;> rfl) (nnI v2 hi.2.1) (nnI v1 hi.2.2.1) (nnI v0 hi.1)
        (by rw [of32 v2, of32 v0]; omega)
        (by rw [of32 v1, of32 v0, hsz]; omega)
        (fun vm₁ _ i hi2 => by
          rw [clampI v0 hi.1] at hi2
          rw [clampI v2 hi.2.1]
          have hj := c6 (sp.toNat + i) (by first | decide | omega)
          have e : cs.slots.getD (sp.toNat + i) .null = rep G (mkv (arC (shp w S a).1) (rdv w S a (sp.toNat + i))) := by
            rw [Array.getD_eq_getD_getElem?, hj.1]
            rfl
          rw [e]
          refine ⟨?_, ?_⟩
          · have hj2 := hj.2
            rcases ht with q | q
            · rw [q] at hj2 ⊢
              exact (store_ok (ty := .byte) hE.2.2.2.2.2.2.2.1 (by decide) hj2).2
            · rw [q]
              rfl
          · obtain ⟨y, hy⟩ := hmk (rdv w S a (sp.toNat + i))
            rw [hy]
            exact trivial)
        (g := F0 m pc lsC (.int (Int32.ofInt n) :: .int (Int32.ofInt dp) :: .ref (gad G b) :: .int (Int32.ofInt sp) :: .ref (gad G a) :: r.map (rep G))) rfl (by rw [hc.2.2.1]; exact hL.2.1) (rest := r.map (rep G)) rfl (by rw [hc.2.1]; exact hd) hroom.1 (by rw [cat_sum hE.2.2.2.2.2.2.2.1]; show 2 * 0 + _ + (5 + 2 + 11) ≤ _; omega)
      have ec : copied cs (arrV (gA G (shp w S a).1) (shp w S b).2 (fun j => rep G (mkv (arC (shp w S a).1) (rdv w S b j)))) (Int32.ofInt sp) (Int32.ofInt dp) (Int32.ofInt n) = arrV (gA G (shp w S a).1) (shp w S b).2 (fun j => rep G (mkv (arC (shp w S a).1) (cpyF (rdv w S a) (rdv w S b) sp.toNat dp.toNat n.toNat j))) := by
        have := va_copiedX (fun z => rep G (mkv (arC (shp w S a).1) z)) cs (gA G (shp w S a).1) (n1 := (shp w S b).2) (n0 := (shp w S a).2) (dp := dp.toNat) (sp := sp.toNat) (n := n.toNat) (rdv w S a) (rdv w S b) (fun j hj => (c6 j hj).1) (by first | decide | omega)
        unfold copied
        rw [clampI v0 hi.1, clampI v1 hi.2.2.1, clampI v2 hi.2.1]
        exact this
      rw [ec] at X' step
      have hlb : gad G b < H.size := (Array.getElem?_eq_some_iff.mp hcell).1
      have hheap : ((T.setVm vm').setCell (gad G b) (arrV (gA G (shp w S a).1) (shp w S b).2 (fun j => rep G (mkv (arC (shp w S a).1) (cpyF (rdv w S a) (rdv w S b) sp.toNat dp.toNat n.toNat j))))).heap = H.setIfInBounds (gad G b) (arrV (gA G (shp w S a).1) (shp w S b).2 (fun j => rep G (mkv (arC (shp w S a).1) (cpyF (rdv w S a) (rdv w S b) sp.toNat dp.toNat n.toNat j)))) := by rw [← hT]; rfl
      generalize hcx : arrV (gA G (shp w S a).1) (shp w S b).2 (fun j => rep G (mkv (arC (shp w S a).1) (cpyF (rdv w S a) (rdv w S b) sp.toNat dp.toNat n.toNat j))) = cx at X' step hheap
      have oq : ∀ q : Nat, q ≠ gad G b → (H.setIfInBounds (gad G b) cx)[q]? = H[q]? := fun q hq => by simp [Array.getElem?_setIfInBounds, Ne.symm hq]
      have hR' : Rel G w (_root_.Jvm.Pilot.@@N@@.wrA S b (cpyF (rdv w S a) (rdv w S b) sp.toNat dp.toNat n.toNat)) (H.setIfInBounds (gad G b) cx) := by
        refine Rel.wrA hw hR (t := (shp w S a).1) (n := (shp w S b).2) (by rw [b1]) (by first | decide | omega) b3 (fun j hj => ?_) (by simp) oq (by rw [hcx]; simp [Array.getElem?_setIfInBounds, hlb])
        unfold cpyF
        split
        · rename_i hq
          exact (c6 (sp.toNat + (j - dp.toNat)) (by first | decide | omega)).2
        · exact hokB j hj
      obtain ⟨t, a1, b1'⟩ := h1.2 _ (locs ++ (cs.stretch (Int32.ofInt sp).toNatClampNeg (Int32.ofInt n).toNatClampNeg).zipIdx.map fun q => ⟨gad G b, (Int32.ofInt dp).toNatClampNeg + q.2⟩) lsC hR' ⟨by simp; exact hS.1, fun q g1 g2 => by
          rw [oq q (fun e => g2 (by rw [e]; exact gad_A h15))]
          exact hS.2.1 q g1 g2, fun q hq => by
          rcases List.mem_append.mp hq with h | h
          · exact hS.2.2 q h
          · obtain ⟨z, -, hz⟩ := List.mem_map.mp h
            rw [← hz]
            exact gad_A h15⟩ hL hv hn hs _ hheap X'
      exact ⟨t, step t a1, b1'⟩
    · cases h
  · cases h
theorem mx32 {x y : Int} (hx : r32 x) (hy : r32 y) : (if Int32.ofInt x < Int32.ofInt y then Int32.ofInt y else Int32.ofInt x) = Int32.ofInt (max x y) := by
  simp only [lt32 hx hy]
  split
  · rw [Int.max_eq_right (by first | decide | omega)]
  · rw [Int.max_eq_left (by first | decide | omega)]
theorem xk_link (hE : EN G s s.heap) {q n : Nat} (hn : n ≠ 9998) (he : (xkl.any fun e => mtc e.1 e.2.1 (ow mi) q && Nat.beq e.2.2.1 n) = true) : (Cond.methodLink (cnm (ow mi)) q (mnm n)).before args s = true := by
  obtain ⟨en, hen, hm⟩ := List.any_eq_true.mp he
  rw [Bool.and_eq_true] at hm
  obtain ⟨m1, m2⟩ := mtc_eq hm.1
  have m3 := Nat.eq_of_beq_eq_true hm.2
  have hl := List.all_eq_true.mp xkl_ok en hen
  rw [m1, m2, m3, Bool.or_eq_true] at hl
  rcases hl with z | z
  · exact absurd (Nat.eq_of_beq_eq_true z) hn
  · exact onT rfl (hE.word z)
theorem cats_tl {v : TV} {r : List TV} {n : Nat} (h : cats (v :: r) ≤ n) : cats r ≤ n := by
  unfold cats at h
  omega
theorem s_intr (hc : CX G p s m meth c mi) (hw : OKW G w) (hrm : SF.1.1 - n0 ≤ R.cells ∧ SF.1.2.1 - s0 ≤ R.slots) (hroom : 1 ≤ R.frames ∧ 64 ≤ R.locals) {q n : Nat} {k2 : List TV → AH → Rs} (hd : decode (byo mi) pc = .ok (.invokestatic q, 3)) (he : (xkl.any fun e => mtc e.1 e.2.1 (ow mi) q && Nat.beq e.2.2.1 n) = true) (hcat : cats st ≤ 20) (h : intr w n st S k2 = some F) (hk : ∀ r S', k2 r S' = some F → PP p l e R s m args below meth c G w mi Q n0 s0 SF (pc + 3) ls r S') : PP p l e R s m args below meth c G w mi Q n0 s0 SF pc ls st S := by
  have hE := hc.2.2.2.2.2.1
  have hG := hE.2.2.2.2.2.2.2.1
  unfold intr at h
  split at h
  · exact s_copy hc hw hroom hd he hcat h hk
  · split at h
    · rename_i y x r
      have h1 := hk _ _ h
      refine ⟨h1.1, fun H locs lsC hR hS hL hv hn hs => ?_⟩
      obtain ⟨v0, hv⟩ := ok_cons hv
      obtain ⟨v1, hv⟩ := ok_cons hv
      have hl := xk_link (args := args) hE (by decide) he
      have hles := h1.1
      unfold LE2 at hles
      refine va_mmax hc.1 hc.2.1 (by rw [hc.2.2.1]; exact hL.2.1.symm) hc.2.2.2.1 hl (onT rfl (hE.word mx_stat)) (onT rfl (hE.word mt_ini)) (onT rfl (hE.word mx_code)) hroom.1 (by rw [cat_sum hG]; have := cats_tl (cats_tl hcat); omega) (by first | decide | omega) (by first | decide | omega) hd ?_
      have e : (if Int32.ofInt x < Int32.ofInt y then Int32.ofInt y else Int32.ofInt x) = Int32.ofInt (max x y) := mx32 v1 v0
      rw [e]
      exact h1.2 H locs lsC hR hS hL (cons_ok (show r32 (max x y) by have v0 : r32 y := v0; have v1 : r32 x := v1; unfold r32 at *; omega) hv) hn hs
    · cases h
  · split at h
    · rename_i y x r
      have h1 := hk _ _ h
      refine ⟨h1.1, fun H locs lsC hR hS hL hv hn hs => ?_⟩
      obtain ⟨v0, hv⟩ := ok_cons hv
      obtain ⟨v1, hv⟩ := ok_cons hv
      have v0 : r32 y := v0
      have v1 : r32 x := v1
      have hl := xk_link (args := args) hE (by decide) he
      have hles := h1.1
      unfold LE2 at hles
      refine va_mmin hc.1 hc.2.1 (by rw [hc.2.2.1]; exact hL.2.1.symm) hc.2.2.2.1 hl (onT rfl (hE.word mn_stat)) (onT rfl (hE.word mt_ini)) (onT rfl (hE.word mn_code)) hroom.1 (by rw [cat_sum hG]; have := cats_tl (cats_tl hcat); omega) (by first | decide | omega) (by first | decide | omega) hd ?_
      have hgo := h1.2 H locs lsC hR hS hL (cons_ok (show r32 (min x y) by unfold r32 at *; omega) hv) hn hs
      rw [List.map_cons] at hgo
      have e : rep G (vi (min x y)) = .int (Int32.ofInt (min x y)) := rfl
      rw [e] at hgo
      simp only [lt32 v0 v1, lt32 v1 v0, le32 v0 v1, le32 v1 v0]
      rcases (show y < x ∨ x ≤ y by omega) with z | z
      · rw [Int.min_eq_right (by first | decide | omega)] at hgo
        first
          | rw [if_pos z]; exact hgo
          | rw [if_neg (by first | decide | omega)]; exact hgo
      · rw [Int.min_eq_left (by first | decide | omega)] at hgo
        first
          | (rw [if_neg (by first | decide | omega)]; exact hgo)
          | (rw [if_pos (by first | decide | omega)]; exact hgo)
          | (split
             · rename_i z2
               have : x = y := by omega
               subst this
               exact hgo
             · exact hgo)
    · cases h
  · split at h
    · rename_i y x r
      have h1 := hk _ _ h
      refine ⟨h1.1, fun H locs lsC hR hS hL hv hn hs => ?_⟩
      obtain ⟨v0, hv⟩ := ok_cons hv
      obtain ⟨v1, hv⟩ := ok_cons hv
      have v0 : r64 y := v0
      have v1 : r64 x := v1
      have hl := xk_link (args := args) hE (by decide) he
      have hles := h1.1
      unfold LE2 at hles
      refine va_mmax_long hc.1 hc.2.1 (by rw [hc.2.2.1]; exact hL.2.1.symm) hc.2.2.2.1 hl (onT rfl (hE.word mL_stat)) (onT rfl (hE.word mt_ini)) (onT rfl (hE.word mL_code)) hroom.1 (by rw [cat_sum hG]; have := cats_tl (cats_tl hcat); omega) (by first | decide | omega) (by first | decide | omega) hd ?_
      have hgo := h1.2 H locs lsC hR hS hL (cons_ok (show r64 (max x y) by unfold r64 at *; omega) hv) hn hs
      rw [List.map_cons] at hgo
      have e : rep G (vl (max x y)) = .long (Int64.ofInt (max x y)) := rfl
      rw [e] at hgo
      simp only [lt64 v0 v1, lt64 v1 v0]
      rcases (show y < x ∨ x ≤ y by omega) with z | z
      · rw [Int.max_eq_left (by first | decide | omega)] at hgo
        rw [if_pos z]; exact hgo
      · rw [Int.max_eq_right (by first | decide | omega)] at hgo
        rw [if_neg (by first | decide | omega)]; exact hgo
    · cases h
  · split at h
    · rename_i y x r
      have h1 := hk _ _ h
      refine ⟨h1.1, fun H locs lsC hR hS hL hv hn hs => ?_⟩
      obtain ⟨v0, hv⟩ := ok_cons hv
      obtain ⟨v1, hv⟩ := ok_cons hv
      have v0 : r64 y := v0
      have v1 : r64 x := v1
      have hl := xk_link (args := args) hE (by decide) he
      have hles := h1.1
      unfold LE2 at hles
      refine va_mmin_long hc.1 hc.2.1 (by rw [hc.2.2.1]; exact hL.2.1.symm) hc.2.2.2.1 hl (onT rfl (hE.word ml_stat)) (onT rfl (hE.word mt_ini)) (onT rfl (hE.word ml_code)) hroom.1 (by rw [cat_sum hG]; have := cats_tl (cats_tl hcat); omega) (by first | decide | omega) (by first | decide | omega) hd ?_
      have hgo := h1.2 H locs lsC hR hS hL (cons_ok (show r64 (min x y) by unfold r64 at *; omega) hv) hn hs
      rw [List.map_cons] at hgo
      have e : rep G (vl (min x y)) = .long (Int64.ofInt (min x y)) := rfl
      rw [e] at hgo
      simp only [lt64 v0 v1, lt64 v1 v0]
      rcases (show x < y ∨ y ≤ x by omega) with z | z
      · rw [Int.min_eq_left (by first | decide | omega)] at hgo
        first
          | (rw [if_pos z]; exact hgo)
          | (rw [if_neg (by first | decide | omega)]; exact hgo)
      · rw [Int.min_eq_right (by first | decide | omega)] at hgo
        first
          | (rw [if_neg (by first | decide | omega)]; exact hgo)
          | (rw [if_pos (by first | decide | omega)]; exact hgo)
          | (split
             · exact hgo
             · rename_i z2
               have : x = y := by omega
               subst this
               exact hgo)
    · cases h
  · cases h
theorem push8 {n : Int} (h : -128 ≤ n ∧ n ≤ 127) : (Int8.ofInt n).toInt32 = Int32.ofInt n := by
  apply Int32.toInt_inj.mp
  rw [Int8.toInt_toInt32, of32 (by unfold r32; omega), Int8.toInt_ofInt]
  show n.bmod 256 = n
  unfold Int.bmod
  dsimp only
  split <;> omega
theorem push16 {n : Int} (h : -32768 ≤ n ∧ n ≤ 32767) : (Int16.ofInt n).toInt32 = Int32.ofInt n := by
  apply Int32.toInt_inj.mp
  rw [Int16.toInt_toInt32, of32 (by unfold r32; omega), Int16.toInt_ofInt]
  show n.bmod 65536 = n
  unfold Int.bmod
  dsimp only
  split <;> omega
theorem lcn (n : Nat) : Int64.ofNat n = Int64.ofInt (n : Int) := (Int64.ofInt_eq_ofNat).symm
theorem getst_ok (hc : CX G p s m meth c mi) {q : Nat} {x : XI} (hI : okI (ow mi) (iniM mi) pc (.getstatic q) x = true) (hd : decode (byo mi) pc = .ok (.getstatic q, 3)) {v : TV} (hv : (match x.1 with
    | 0 => vi x.2.2.1
    | _ => vr x.2.1) = v) : okv v ∧ ∀ (H : Heap) (locs : List Loc) (cells slots : Nat) (lsC : Array Slot) (rest : List Value), va_S (AA G) s.heap H locs → W p l e R s m args below meth c H locs cells slots Q (F0 m (pc + 3) lsC (rep G v :: rest)) → W p l e R s m args below meth c H locs cells slots Q (F0 m pc lsC rest) := by
  have hE := hc.2.2.2.2.2.1
  obtain ⟨z1, z2, z3, z4⟩ := hE.2.2.2.2.2.2.1
  unfold okI at hI
  obtain ⟨en, hen, hm⟩ := List.any_eq_true.mp hI
  rw [Bool.and_eq_true] at hm
  obtain ⟨m1, m2⟩ := mtc_eq hm.1
  have hm2 := hm.2
  have hl := List.all_eq_true.mp gkl_ok en hen
  rw [m1, m2] at hl
  have row : ∀ (C n d : String) (u : Value), va_Z C n d u (AA G) s s.heap → ((en.2.2.2.2 = true → (Cond.fieldLinkNest (cnm (ow mi)) q C n d "SupplyBook").before args s = true) ∧ (en.2.2.2.2 = false → (Cond.fieldLink (cnm (ow mi)) q C n d).before args s = true)) → ∀ (H : Heap) (locs : List Loc) (cells slots : Nat) (lsC : Array Slot) (rest : List Value), va_S (AA G) s.heap H locs → W p l e R s m args below meth c H locs cells slots Q (F0 m (pc + 3) lsC (u :: rest)) → W p l e R s m args below meth c H locs cells slots Q (F0 m pc lsC rest) := by
    intro C n d u hZ hlk H locs cells slots lsC rest hS hk
    cases hn : en.2.2.2.2 with
    | true => exact va_getsN hc.1 hc.2.1 hZ hS hc.2.2.2.1 (hlk.1 hn) (fun _ z => z) hd hk
    | false => exact va_gets hc.1 hc.2.1 hZ hS hc.2.2.2.1 (hlk.2 hn) (fun _ z => z) hd hk
  have lk : ∀ C n d : String, svl.getD en.2.2.1 ("", "", "") = (C, n, d) → ((en.2.2.2.2 = true → (Cond.fieldLinkNest (cnm (ow mi)) q C n d "SupplyBook").before args s = true) ∧ (en.2.2.2.2 = false → (Cond.fieldLink (cnm (ow mi)) q C n d).before args s = true)) := by
    intro C n d hsv
    rw [hsv] at hl
    refine ⟨fun z => ?_, fun z => ?_⟩
    · rw [z] at hl
      exact onT rfl (hE.word hl)
    · rw [z] at hl
      exact onT rfl (hE.word hl)
  match hz : en.2.2.1, hm2 with
  | 0, hm2 =>
    have e := of_decide_eq_true hm2
    subst e
    obtain rfl : v = vr 2 := hv.symm
    refine ⟨trivial, ?_⟩
    have e2 : rep G (vr 2) = .ref (gE G 2) := by
      show rf G 2 = _
      rw [rf_ref (by decide) (by decide)]
      rfl
    rw [e2]
    exact row _ _ _ _ z1 (lk _ _ _ (by rw [hz]; rfl))
  | 1, hm2 =>
    have e := of_decide_eq_true hm2
    subst e
    obtain rfl : v = vr 3 := hv.symm
    refine ⟨trivial, ?_⟩
    have e2 : rep G (vr 3) = .ref (gE G 3) := by
      show rf G 3 = _
      rw [rf_ref (by decide) (by decide)]
      rfl
    rw [e2]
    exact row _ _ _ _ z2 (lk _ _ _ (by rw [hz]; rfl))
  | 2, hm2 =>
    have e := of_decide_eq_true hm2
    subst e
    obtain rfl : v = vi 1 := hv.symm
    refine ⟨by show r32 1; unfold r32; omega, ?_⟩
    exact row _ _ _ _ z3 (lk _ _ _ (by rw [hz]; rfl))
  | 3, hm2 =>
    have e := of_decide_eq_true hm2
    subst e
    obtain rfl : v = vr 14 := hv.symm
    refine ⟨trivial, ?_⟩
    have e2 : rep G (vr 14) = gV G := by
      show rf G 14 = _
      unfold rf
      rw [if_neg (by decide), if_pos rfl]
    rw [e2]
    exact row _ _ _ _ z4 (lk _ _ _ (by rw [hz]; rfl))
  | n + 4, hm2 => cases hm2
end SND
