/-! writes and new cells -/
theorem all13 {P : Nat → Nat → Bool} (h : ((List.range 13).all fun ci => (List.range (NN ci)).all fun k => P ci k) = true) {ci k : Nat} (hci : ci < 13) (hk : k < NN ci) : P ci k = true := by
  rw [List.all_eq_true] at h
  have h1 := h ci (List.mem_range.mpr hci)
  rw [List.all_eq_true] at h1
  exact h1 k (List.mem_range.mpr hk)
theorem lay_at {ci k : Nat} (hci : ci < 13) (hk : k < NN ci) : u_lay (cnm ci) (TT ci) k ∈ lw_tbl ∧ kw (u_lay (cnm ci) (TT ci) k) = true := wok1_mem (all13 (P := layOk) lay_ok hci hk)
theorem ty_at {ci k : Nat} (hci : ci < 13) (hk : k < NN ci) : parseFieldDescriptor (TT ci k).2.2.1 = some (fty ci k) := of_decide_eq_true (all13 (P := fun ci k => decide (parseFieldDescriptor (TT ci k).2.2.1 = some (fty ci k))) ty_ok hci hk)
theorem fc_at {ci k : Nat} (hci : ci < 13) (hk : k < NN ci) : fcd ci k = fk (fty ci k) := by
  have := all13 (P := fun ci k => fcd ci k == fk (fty ci k)) fc_ok hci hk
  simpa using this
theorem fc5_ok : ((List.range 13).all fun ci => (List.range (NN ci)).all fun k => Nat.blt (fcd ci k) 5) = true := by decide +kernel
theorem fc5_at {ci k : Nat} (hci : ci < 13) (hk : k < NN ci) : fcd ci k < 5 := Nat.blt_eq.mp (all13 (P := fun ci k => Nat.blt (fcd ci k) 5) fc5_ok hci hk)
theorem nm_at {ci : Nat} (hci : ci < 13) : ∀ a, a < NN ci → ∀ b, b < NN ci → a ≠ b → (TT ci a).2.1 ≠ (TT ci b).2.1 := by
  intro a ha b hb hne
  have h := all13 (P := fun ci a => (List.range (NN ci)).all fun b => a == b || decide ((TT ci a).2.1 ≠ (TT ci b).2.1)) nm_ok hci ha
  rw [List.all_eq_true] at h
  have h1 := h b (List.mem_range.mpr hb)
  simp only [Bool.or_eq_true, beq_iff_eq, decide_eq_true_eq] at h1
  rcases h1 with q | q
  · exact absurd q hne
  · exact q
/-- the words of the fields, for any arguments -/
theorem lays_w {G : GE} {s : State} {H : Heap} {args : Array Value} (hE : EN G s H) {ci : Nat} (hci : ci < 13) : ∀ w ∈ u_ws (cnm ci) (TT ci) (NN ci), w.before args s = true := by
  intro w hw
  obtain ⟨k, hk, rfl⟩ := List.mem_map.mp hw
  have hk := List.mem_range.mp hk
  have h := hE.1 _ (lay_at hci hk).1 (lay_at hci hk).2
  refine onT ?_ h
  unfold u_lay
  split <;> rfl
theorem dfl_a {G : GE} {t : Nat} (ht : t < 7) : defaultValue (ety t) = rep G (mkv (arC t) 0) := by
  rcases (show t = 0 ∨ t = 1 ∨ t = 2 ∨ t = 3 ∨ t = 4 ∨ t = 5 ∨ t = 6 by omega) with rfl | rfl | rfl | rfl | rfl | rfl | rfl <;> rfl
theorem dfl_f {G : GE} {ty : FieldType} (h : fk ty < 5) : defaultValue ty = rep G (mkv (fk ty) 0) := by
  cases ty <;> first | rfl | (simp [fk] at h)
theorem okc_0 (c : Nat) : okc c 0 := by
  unfold okc
  split <;> first | (unfold r32; omega) | (unfold r64; omega) | omega
theorem isC.kept {G : GE} {w : WC} {S S' : AH} {H H' : Heap} {b : Nat} (h : isC G w S H b) (h1 : ∀ j, rdv w S' b j = rdv w S b j) (h2 : shp w S' b = shp w S b) (h3 : H'[gad G b]? = H[gad G b]?) : isC G w S' H' b := by
  have e : rdv w S' b = rdv w S b := funext h1
  unfold isC at h ⊢
  rw [h2, e, h3]
  exact ⟨h.1, fun ci hci hq => ⟨(h.2 ci hci hq).1, (h.2 ci hci hq).2.1.kept h3, (h.2 ci hci hq).2.2⟩⟩
theorem Rel.upd {G : GE} {w : WC} {S S' : AH} {H H' : Heap} (hR : Rel G w S H) {a : Nat} (ha : 15 ≤ a) (hS : S'.1 = S.1) (hr : ∀ b, b ≠ a → ∀ j, rdv w S' b j = rdv w S b j) (hz : H'.size = H.size) (ho : ∀ q, q ≠ gad G a → H'[q]? = H[q]?) (hc : isC G w S' H' a) : Rel G w S' H' := by
  obtain ⟨h1, h2, h3, h4, h5⟩ := hR
  refine ⟨by rw [hS]; exact h1, by rw [hz, hS]; exact h2, by rw [hS]; exact h3, by rw [hS]; exact h4, fun b hb hlt => ?_⟩
  by_cases e : b = a
  · rw [e]; exact hc
  · rw [hS] at hlt
    exact (h5 b hb hlt).kept (hr b e) (by unfold shp; rw [hS]) (ho _ (gad_ne ha hb e))
theorem rdv_wr {w : WC} {S : AH} {a k : Nat} {v : Int} (h : w.2.2 a k = none) (b j : Nat) : rdv w (wr S a k v) b j = if b = a ∧ j = k then v else rdv w S b j := by
  unfold rdv wr upd2
  by_cases e : b = a ∧ j = k
  · rw [if_pos e, e.1, e.2, h]
    dsimp only
    rw [if_pos ⟨rfl, rfl⟩]
  · rw [if_neg e]
    cases w.2.2 b j with
    | some c => rfl
    | none =>
      dsimp only
      rw [if_neg e]
theorem wokF_none {G : GE} {w : WC} (hw : OKW G w) {a : Nat} (h : wokF w a = true) : 15 ≤ a ∧ ∀ k, w.2.2 a k = none := by
  unfold wokF at h
  cases hb : Nat.blt a w.1 with
  | true =>
    rw [hb] at h
    dsimp only at h
    rw [Bool.and_eq_true] at h
    have h1 := Nat.le_of_ble_eq_true h.1
    exact ⟨h1, fun k => hw.2.2.2.1 a k h1 (Nat.blt_eq.mp hb) (Nat.blt_eq.mp h.2)⟩
  | false =>
    rw [hb] at h
    dsimp only at h
    refine ⟨Nat.le_of_ble_eq_true h, fun k => hw.2.2.1 a k ?_⟩
    rcases Nat.lt_or_ge a w.1 with q | q
    · rw [Nat.blt_eq.mpr q] at hb; cases hb
    · exact q
theorem wok_none {w : WC} {a k : Nat} (h : wok w a k = true) : 15 ≤ a ∧ w.2.2 a k = none := by
  unfold wok at h
  rw [Bool.and_eq_true] at h
  refine ⟨Nat.le_of_ble_eq_true h.1, ?_⟩
  cases hq : w.2.2 a k with
  | none => rfl
  | some c => rw [hq] at h; cases h.2
/-- an array's place anew -/
theorem Rel.ast {G : GE} {w : WC} {S : AH} {H H' : Heap} (hw : OKW G w) (hR : Rel G w S H) {a t n i : Nat} {v : Int} (h : shp w S a = (t, n)) (ht : t < 7) (hf : wokF w a = true) (hv : okc (arC t) v) (hz : H'.size = H.size) (ho : ∀ q, q ≠ gad G a → H'[q]? = H[q]?)
    (h1 : H'[gad G a]? = some ((arrV (gA G t) n (fun j => rep G (mkv (arC t) (rdv w S a j)))).setSlot i (rep G (mkv (arC t) v)))) : Rel G w (wr S a i v) H' := by
  obtain ⟨h15, hn⟩ := wokF_none hw hf
  have h' := (hR.2.2.2.2 a h15 (hR.lt (by rw [h]; show t ≠ 99; omega))).1
  rw [h] at h'
  dsimp only at h'
  obtain ⟨c1, c2, c3⟩ := h' ht
  refine hR.upd h15 rfl (fun b hb j => by rw [rdv_wr (hn i), if_neg (fun q => hb q.1)]) hz ho ?_
  have hsh : shp w (wr S a i v) a = (t, n) := h
  unfold isC
  rw [hsh]
  refine ⟨fun _ => ⟨?_, c2, fun j hj => ?_⟩, fun ci hci q => ?_⟩
  · rw [h1, arrV_store]
    congr 2
    funext j
    unfold updV
    rw [rdv_wr (hn i)]
    by_cases e : j = i
    · rw [if_pos e, if_pos ⟨rfl, e⟩]
    · rw [if_neg e, if_neg (fun q => e q.2)]
  · rw [rdv_wr (hn i)]
    split
    · exact hv
    · exact c3 j hj
  · dsimp only at q; omega
/-- an object's field anew -/
theorem Rel.putf {G : GE} {w : WC} {S : AH} {H H' : Heap} (hw : OKW G w) (hR : Rel G w S H) {a ci k : Nat} {v : Int} (hci : ci < 13) (hk : k < NN ci) (h : (shp w S a).1 = 10 + ci) (hf : wok w a k = true) (hv : okc (fcd ci k) v) (hz : H'.size = H.size) (ho : ∀ q, q ≠ gad G a → H'[q]? = H[q]?)
    (h1 : t_OB (gad G a) (gC G ci) (NN ci) (gS G ci) H' (updV (fun k => rep G (mkv (fcd ci k) (rdv w S a k))) k (rep G (mkv (fcd ci k) v)))) : Rel G w (wr S a k v) H' := by
  obtain ⟨h15, hn⟩ := wok_none hf
  obtain ⟨-, -, c3⟩ := obj_at hw hR hci h
  refine hR.upd h15 rfl (fun b hb j => by rw [rdv_wr hn, if_neg (fun q => hb q.1)]) hz ho ?_
  have hsh : (shp w (wr S a k v) a).1 = 10 + ci := h
  refine ⟨fun q => by omega, fun cj hcj q => ?_⟩
  have e : cj = ci := by omega
  subst e
  refine ⟨hci, h1.to (fun j hj => ?_), fun j hj => ?_⟩
  · unfold updV
    rw [rdv_wr hn]
    by_cases e : j = k
    · rw [if_pos e, if_pos ⟨rfl, e⟩, e]
    · rw [if_neg e, if_neg (fun q => e q.2)]
  · rw [rdv_wr hn]
    split
    · rename_i e
      rw [e.2]; exact hv
    · exact c3 j hj
/-- a new cell -/
theorem gad_new {G : GE} {w : WC} {S : AH} {H : Heap} (hw : OKW G w) (hR : Rel G w S H) : gad G S.1.1 = H.size := by rw [gad_own hR.1, hw.2.2.2.2 _ hR.2.2.1, hR.2.1]
theorem Rel.push {G : GE} {w : WC} {S : AH} {H : Heap} (hw : OKW G w) (hR : Rel G w S H) {t n : Nat} {f : Nat → Int} {c : Cell} (hc : isC G w (nwc S t n f) (H.push c) S.1.1) : Rel G w (nwc S t n f) (H.push c) := by
  have hN := gad_new hw hR
  obtain ⟨h1, h2, h3, h4, h5⟩ := hR
  refine ⟨show 15 ≤ S.1.1 + 1 by omega, ?_, show w.1 ≤ S.1.1 + 1 by omega, fun a ha => ?_, fun b hb hlt => ?_⟩
  · show (H.push c).size = gb G + (S.1.1 + 1 - 15)
    rw [Array.size_push, h2]
    omega
  · have ha : S.1.1 + 1 ≤ a := ha
    show ((if a = S.1.1 then (t, n) else S.1.2.2 a)).1 = 99
    rw [if_neg (by first | decide | omega)]
    exact h4 a (by first | decide | omega)
  · by_cases e : b = S.1.1
    · rw [e]; exact hc
    · have hlt : b < S.1.1 + 1 := hlt
      have hb2 : b < S.1.1 := by omega
      refine (h5 b hb hb2).kept (fun j => ?_) ?_ ?_
      · unfold rdv nwc
        dsimp only
        rw [if_neg e]
      · unfold shp nwc
        dsimp only
        rw [if_neg e]
      · rw [Array.getElem?_push, if_neg]
        rw [← hN]
        exact gad_ne h1 hb e
theorem shp_new {G : GE} {w : WC} {S : AH} {H : Heap} (hR : Rel G w S H) {t n : Nat} {f : Nat → Int} : shp w (nwc S t n f) S.1.1 = (t, n) := by
  rw [shp_dyn hR.2.2.1]
  show (if S.1.1 = S.1.1 then (t, n) else S.1.2.2 S.1.1) = (t, n)
  rw [if_pos rfl]
theorem rdv_new {G : GE} {w : WC} {S : AH} {H : Heap} (hw : OKW G w) (hR : Rel G w S H) {t n j : Nat} {f : Nat → Int} : rdv w (nwc S t n f) S.1.1 j = f j := by
  rw [rdv_none (hw.2.2.1 _ _ hR.2.2.1)]
  show (if S.1.1 = S.1.1 then f else S.2 S.1.1) j = f j
  rw [if_pos rfl]
theorem Rel.newA {G : GE} {w : WC} {S : AH} {H : Heap} (hw : OKW G w) (hR : Rel G w S H) {t n : Nat} {f : Nat → Int} (ht : t < 7) (hn : n ≤ 20000) (hf : ∀ j, j < n → okc (arC t) (f j)) : Rel G w (nwc S t n f) (H.push (arrV (gA G t) n (fun j => rep G (mkv (arC t) (f j))))) := by
  refine hR.push hw ?_
  unfold isC
  rw [shp_new hR]
  refine ⟨fun _ => ⟨?_, hn, fun j hj => by rw [rdv_new hw hR]; exact hf j hj⟩, fun ci _ q => by dsimp only at q; omega⟩
  rw [gad_new hw hR, Array.getElem?_push_size]
  congr 2
  funext j
  rw [rdv_new hw hR]
theorem Rel.newO {G : GE} {w : WC} {S : AH} {H : Heap} (hw : OKW G w) (hR : Rel G w S H) {ci n : Nat} {c : Cell} (hci : ci < 13) (hob : t_OB H.size (gC G ci) (NN ci) (gS G ci) (H.push c) (fun k => rep G (mkv (fcd ci k) 0))) : Rel G w (nw S (10 + ci) n) (H.push c) := by
  unfold nw
  refine hR.push hw ?_
  unfold isC
  rw [shp_new hR]
  refine ⟨fun q => by dsimp only at q; omega, fun cj hcj q => ?_⟩
  have e : cj = ci := by dsimp only at q; omega
  subst e
  rw [gad_new hw hR]
  exact ⟨hci, hob.to (fun k _ => by rw [rdv_new hw hR]), fun k _ => by rw [rdv_new hw hR]; exact okc_0 _⟩
/-- an array's contents anew -/
theorem Rel.wrA {G : GE} {w : WC} {S : AH} {H H' : Heap} (hw : OKW G w) (hR : Rel G w S H) {a t n : Nat} {f : Nat → Int} (h : shp w S a = (t, n)) (ht : t < 7) (hf : wokF w a = true) (hv : ∀ j, j < n → okc (arC t) (f j)) (hz : H'.size = H.size) (ho : ∀ q, q ≠ gad G a → H'[q]? = H[q]?)
    (h1 : H'[gad G a]? = some (arrV (gA G t) n (fun j => rep G (mkv (arC t) (f j))))) : Rel G w (wrA S a f) H' := by
  obtain ⟨h15, hn⟩ := wokF_none hw hf
  have h' := (hR.2.2.2.2 a h15 (hR.lt (by rw [h]; show t ≠ 99; omega))).1
  rw [h] at h'
  dsimp only at h'
  obtain ⟨c1, c2, c3⟩ := h' ht
  have hrd : ∀ j, rdv w (_root_.Jvm.Pilot.@@N@@.wrA S a f) a j = f j := fun j => by
    rw [rdv_none (hn j)]
    show (if a = a then f else S.2 a) j = f j
    rw [if_pos rfl]
  refine hR.upd h15 rfl (fun b hb j => ?_) hz ho ?_
  · unfold rdv _root_.Jvm.Pilot.@@N@@.wrA
    dsimp only
    rw [if_neg hb]
  · have hsh : shp w (_root_.Jvm.Pilot.@@N@@.wrA S a f) a = (t, n) := h
    unfold isC
    rw [hsh]
    refine ⟨fun _ => ⟨?_, c2, fun j hj => by rw [hrd]; exact hv j hj⟩, fun ci hci q => by dsimp only at q; omega⟩
    rw [h1]
    congr 2
    funext j
    rw [hrd]
