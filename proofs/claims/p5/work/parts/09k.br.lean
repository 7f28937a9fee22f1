section SND
variable {p : Program} {l : Launch} {e : Env} {R : Room} {s : State} {m : MethodId} {args : Array Value} {below : List Frame} {meth : Method} {c : Code} {G : GE} {w : WC} {mi : Nat} {Q : State → Prop} {n0 s0 : Nat} {SF : AH} {F : Int × AH} {pc len : Nat} {ls : LV} {st : List TV} {S : AH} {k : KT}
theorem ite_some {P : Prop} [Decidable P] {X Y : Rs} (h : (if P then X else Y) = some F) : (P ∧ X = some F) ∨ (¬ P ∧ Y = some F) := by
  by_cases hp : P
  · rw [if_pos hp] at h; exact Or.inl ⟨hp, h⟩
  · rw [if_neg hp] at h; exact Or.inr ⟨hp, h⟩
theorem tgt_eq {off : Int} (h0 : 0 ≤ (pc : Int) + off) : (pc : Int) + off = ((tgt pc off : Nat) : Int) := (Int.toNat_of_nonneg h0).symm
theorem r0 : r32 0 := by unfold r32; omega
theorem s_if0 (hc : CX G p s m meth c mi) {cd : Jvm.ClassFile.Cond} {off : Int} {a : Int} {r : List TV} {A B : Rs} (hd : decode (byo mi) pc = .ok (.ifCond cd off, 3)) (h0 : 0 ≤ (pc : Int) + off) (h : bIf cd a 0 A B = some F) (hA : A = some F → PP p l e R s m args below meth c G w mi Q n0 s0 SF (tgt pc off) ls r S) (hB : B = some F → PP p l e R s m args below meth c G w mi Q n0 s0 SF (pc + 3) ls r S) : PP p l e R s m args below meth c G w mi Q n0 s0 SF pc ls (vi a :: r) S := by
  have ht := tgt_eq h0
  unfold bIf at h
  cases cd with
  | eq =>
    dsimp only at h
    rcases ite_some h with ⟨hp, h⟩ | ⟨hp, h⟩
    · have h1 := hA h
      refine ⟨h1.1, fun H locs lsC hR hS hL hv hn hs => ?_⟩
      have ha : r32 a := (ok_cons hv).1
      have hg := h1.2 H locs lsC hR hS hL (ok_cons hv).2 hn hs
      exact lv_if_eq hc.1 hc.2.1 hd ht (fun _ => hg) (fun z => absurd ((zero32 ha).mpr hp) z)
    · have h1 := hB h
      refine ⟨h1.1, fun H locs lsC hR hS hL hv hn hs => ?_⟩
      have ha : r32 a := (ok_cons hv).1
      have hg := h1.2 H locs lsC hR hS hL (ok_cons hv).2 hn hs
      exact lv_if_eq hc.1 hc.2.1 hd ht (fun z => absurd ((zero32 ha).mp z) hp) (fun _ => hg)
  | ne =>
    dsimp only at h
    rcases ite_some h with ⟨hp, h⟩ | ⟨hp, h⟩
    · have h1 := hB h
      refine ⟨h1.1, fun H locs lsC hR hS hL hv hn hs => ?_⟩
      have ha : r32 a := (ok_cons hv).1
      have hg := h1.2 H locs lsC hR hS hL (ok_cons hv).2 hn hs
      exact lv_if_ne hc.1 hc.2.1 hd ht (fun z => absurd ((zero32 ha).mpr hp) z) (fun _ => hg)
    · have h1 := hA h
      refine ⟨h1.1, fun H locs lsC hR hS hL hv hn hs => ?_⟩
      have ha : r32 a := (ok_cons hv).1
      have hg := h1.2 H locs lsC hR hS hL (ok_cons hv).2 hn hs
      exact lv_if_ne hc.1 hc.2.1 hd ht (fun _ => hg) (fun z => absurd ((zero32 ha).mp z) hp)
  | lt =>
    dsimp only at h
    rcases ite_some h with ⟨hp, h⟩ | ⟨hp, h⟩
    · have h1 := hA h
      refine ⟨h1.1, fun H locs lsC hR hS hL hv hn hs => ?_⟩
      have ha : r32 a := (ok_cons hv).1
      have hg := h1.2 H locs lsC hR hS hL (ok_cons hv).2 hn hs
      exact lv_if_lt hc.1 hc.2.1 hd ht (fun _ => hg) (fun z => absurd ((lt32 ha r0).mpr hp) z)
    · have h1 := hB h
      refine ⟨h1.1, fun H locs lsC hR hS hL hv hn hs => ?_⟩
      have ha : r32 a := (ok_cons hv).1
      have hg := h1.2 H locs lsC hR hS hL (ok_cons hv).2 hn hs
      exact lv_if_lt hc.1 hc.2.1 hd ht (fun z => absurd ((lt32 ha r0).mp z) hp) (fun _ => hg)
  | ge =>
    dsimp only at h
    rcases ite_some h with ⟨hp, h⟩ | ⟨hp, h⟩
    · have h1 := hB h
      refine ⟨h1.1, fun H locs lsC hR hS hL hv hn hs => ?_⟩
      have ha : r32 a := (ok_cons hv).1
      have hg := h1.2 H locs lsC hR hS hL (ok_cons hv).2 hn hs
      exact lv_if_ge hc.1 hc.2.1 hd ht (fun z => absurd ((le32 r0 ha).mp z) (by first | decide | omega)) (fun _ => hg)
    · have h1 := hA h
      refine ⟨h1.1, fun H locs lsC hR hS hL hv hn hs => ?_⟩
      have ha : r32 a := (ok_cons hv).1
      have hg := h1.2 H locs lsC hR hS hL (ok_cons hv).2 hn hs
      exact lv_if_ge hc.1 hc.2.1 hd ht (fun _ => hg) (fun z => absurd ((le32 r0 ha).mpr (by first | decide | omega)) z)
  | gt =>
    dsimp only at h
    rcases ite_some h with ⟨hp, h⟩ | ⟨hp, h⟩
    · have h1 := hA h
      refine ⟨h1.1, fun H locs lsC hR hS hL hv hn hs => ?_⟩
      have ha : r32 a := (ok_cons hv).1
      have hg := h1.2 H locs lsC hR hS hL (ok_cons hv).2 hn hs
      exact lv_if_gt hc.1 hc.2.1 hd ht (fun _ => hg) (fun z => absurd ((lt32 r0 ha).mpr hp) z)
    · have h1 := hB h
      refine ⟨h1.1, fun H locs lsC hR hS hL hv hn hs => ?_⟩
      have ha : r32 a := (ok_cons hv).1
      have hg := h1.2 H locs lsC hR hS hL (ok_cons hv).2 hn hs
      exact lv_if_gt hc.1 hc.2.1 hd ht (fun z => absurd ((lt32 r0 ha).mp z) hp) (fun _ => hg)
  | le =>
    dsimp only at h
    rcases ite_some h with ⟨hp, h⟩ | ⟨hp, h⟩
    · have h1 := hB h
      refine ⟨h1.1, fun H locs lsC hR hS hL hv hn hs => ?_⟩
      have ha : r32 a := (ok_cons hv).1
      have hg := h1.2 H locs lsC hR hS hL (ok_cons hv).2 hn hs
      exact lv_if_le hc.1 hc.2.1 hd ht (fun z => absurd ((le32 ha r0).mp z) (by first | decide | omega)) (fun _ => hg)
    · have h1 := hA h
      refine ⟨h1.1, fun H locs lsC hR hS hL hv hn hs => ?_⟩
      have ha : r32 a := (ok_cons hv).1
      have hg := h1.2 H locs lsC hR hS hL (ok_cons hv).2 hn hs
      exact lv_if_le hc.1 hc.2.1 hd ht (fun _ => hg) (fun z => absurd ((le32 ha r0).mpr (by first | decide | omega)) z)
theorem s_ifc (hc : CX G p s m meth c mi) {cd : Jvm.ClassFile.Cond} {off : Int} {a b : Int} {r : List TV} {A B : Rs} (hd : decode (byo mi) pc = .ok (.if_icmp cd off, 3)) (h0 : 0 ≤ (pc : Int) + off) (h : bIf cd a b A B = some F) (hA : A = some F → PP p l e R s m args below meth c G w mi Q n0 s0 SF (tgt pc off) ls r S) (hB : B = some F → PP p l e R s m args below meth c G w mi Q n0 s0 SF (pc + 3) ls r S) : PP p l e R s m args below meth c G w mi Q n0 s0 SF pc ls (vi b :: vi a :: r) S := by
  have ht := tgt_eq h0
  unfold bIf at h
  cases cd with
  | eq =>
    dsimp only at h
    rcases ite_some h with ⟨hp, h⟩ | ⟨hp, h⟩
    · have h1 := hA h
      refine ⟨h1.1, fun H locs lsC hR hS hL hv hn hs => ?_⟩
      have hb : r32 b := (ok_cons hv).1
      have ha : r32 a := (ok_cons (ok_cons hv).2).1
      have hg := h1.2 H locs lsC hR hS hL (ok_cons (ok_cons hv).2).2 hn hs
      exact lv_icmp_eq hc.1 hc.2.1 hd ht (fun _ => hg) (fun z => absurd ((eq32 ha hb).mpr hp) z)
    · have h1 := hB h
      refine ⟨h1.1, fun H locs lsC hR hS hL hv hn hs => ?_⟩
      have hb : r32 b := (ok_cons hv).1
      have ha : r32 a := (ok_cons (ok_cons hv).2).1
      have hg := h1.2 H locs lsC hR hS hL (ok_cons (ok_cons hv).2).2 hn hs
      exact lv_icmp_eq hc.1 hc.2.1 hd ht (fun z => absurd ((eq32 ha hb).mp z) hp) (fun _ => hg)
  | ne =>
    dsimp only at h
    rcases ite_some h with ⟨hp, h⟩ | ⟨hp, h⟩
    · have h1 := hB h
      refine ⟨h1.1, fun H locs lsC hR hS hL hv hn hs => ?_⟩
      have hb : r32 b := (ok_cons hv).1
      have ha : r32 a := (ok_cons (ok_cons hv).2).1
      have hg := h1.2 H locs lsC hR hS hL (ok_cons (ok_cons hv).2).2 hn hs
      exact lv_icmp_ne hc.1 hc.2.1 hd ht (fun z => absurd ((eq32 ha hb).mpr hp) z) (fun _ => hg)
    · have h1 := hA h
      refine ⟨h1.1, fun H locs lsC hR hS hL hv hn hs => ?_⟩
      have hb : r32 b := (ok_cons hv).1
      have ha : r32 a := (ok_cons (ok_cons hv).2).1
      have hg := h1.2 H locs lsC hR hS hL (ok_cons (ok_cons hv).2).2 hn hs
      exact lv_icmp_ne hc.1 hc.2.1 hd ht (fun _ => hg) (fun z => absurd ((eq32 ha hb).mp z) hp)
  | lt =>
    dsimp only at h
    rcases ite_some h with ⟨hp, h⟩ | ⟨hp, h⟩
    · have h1 := hA h
      refine ⟨h1.1, fun H locs lsC hR hS hL hv hn hs => ?_⟩
      have hb : r32 b := (ok_cons hv).1
      have ha : r32 a := (ok_cons (ok_cons hv).2).1
      have hg := h1.2 H locs lsC hR hS hL (ok_cons (ok_cons hv).2).2 hn hs
      exact lv_icmp_lt hc.1 hc.2.1 hd ht (fun _ => hg) (fun z => absurd ((lt32 ha hb).mpr hp) z)
    · have h1 := hB h
      refine ⟨h1.1, fun H locs lsC hR hS hL hv hn hs => ?_⟩
      have hb : r32 b := (ok_cons hv).1
      have ha : r32 a := (ok_cons (ok_cons hv).2).1
      have hg := h1.2 H locs lsC hR hS hL (ok_cons (ok_cons hv).2).2 hn hs
      exact lv_icmp_lt hc.1 hc.2.1 hd ht (fun z => absurd ((lt32 ha hb).mp z) hp) (fun _ => hg)
  | ge =>
    dsimp only at h
    rcases ite_some h with ⟨hp, h⟩ | ⟨hp, h⟩
    · have h1 := hB h
      refine ⟨h1.1, fun H locs lsC hR hS hL hv hn hs => ?_⟩
      have hb : r32 b := (ok_cons hv).1
      have ha : r32 a := (ok_cons (ok_cons hv).2).1
      have hg := h1.2 H locs lsC hR hS hL (ok_cons (ok_cons hv).2).2 hn hs
      exact lv_icmp_ge hc.1 hc.2.1 hd ht (fun z => absurd ((le32 hb ha).mp z) (by first | decide | omega)) (fun _ => hg)
    · have h1 := hA h
      refine ⟨h1.1, fun H locs lsC hR hS hL hv hn hs => ?_⟩
      have hb : r32 b := (ok_cons hv).1
      have ha : r32 a := (ok_cons (ok_cons hv).2).1
      have hg := h1.2 H locs lsC hR hS hL (ok_cons (ok_cons hv).2).2 hn hs
      exact lv_icmp_ge hc.1 hc.2.1 hd ht (fun _ => hg) (fun z => absurd ((le32 hb ha).mpr (by first | decide | omega)) z)
  | gt =>
    dsimp only at h
    rcases ite_some h with ⟨hp, h⟩ | ⟨hp, h⟩
    · have h1 := hA h
      refine ⟨h1.1, fun H locs lsC hR hS hL hv hn hs => ?_⟩
      have hb : r32 b := (ok_cons hv).1
      have ha : r32 a := (ok_cons (ok_cons hv).2).1
      have hg := h1.2 H locs lsC hR hS hL (ok_cons (ok_cons hv).2).2 hn hs
      exact lv_icmp_gt hc.1 hc.2.1 hd ht (fun _ => hg) (fun z => absurd ((lt32 hb ha).mpr hp) z)
    · have h1 := hB h
      refine ⟨h1.1, fun H locs lsC hR hS hL hv hn hs => ?_⟩
      have hb : r32 b := (ok_cons hv).1
      have ha : r32 a := (ok_cons (ok_cons hv).2).1
      have hg := h1.2 H locs lsC hR hS hL (ok_cons (ok_cons hv).2).2 hn hs
      exact lv_icmp_gt hc.1 hc.2.1 hd ht (fun z => absurd ((lt32 hb ha).mp z) hp) (fun _ => hg)
  | le =>
    dsimp only at h
    rcases ite_some h with ⟨hp, h⟩ | ⟨hp, h⟩
    · have h1 := hB h
      refine ⟨h1.1, fun H locs lsC hR hS hL hv hn hs => ?_⟩
      have hb : r32 b := (ok_cons hv).1
      have ha : r32 a := (ok_cons (ok_cons hv).2).1
      have hg := h1.2 H locs lsC hR hS hL (ok_cons (ok_cons hv).2).2 hn hs
      exact lv_icmp_le hc.1 hc.2.1 hd ht (fun z => absurd ((le32 ha hb).mp z) (by first | decide | omega)) (fun _ => hg)
    · have h1 := hA h
      refine ⟨h1.1, fun H locs lsC hR hS hL hv hn hs => ?_⟩
      have hb : r32 b := (ok_cons hv).1
      have ha : r32 a := (ok_cons (ok_cons hv).2).1
      have hg := h1.2 H locs lsC hR hS hL (ok_cons (ok_cons hv).2).2 hn hs
      exact lv_icmp_le hc.1 hc.2.1 hd ht (fun _ => hg) (fun z => absurd ((le32 ha hb).mpr (by first | decide | omega)) z)
theorem s_null (hc : CX G p s m meth c mi) {off : Int} {a : Nat} {r : List TV} {A B : Rs} (hd : decode (byo mi) pc = .ok (.ifnull off, 3)) (h0 : 0 ≤ (pc : Int) + off) (h : (if a = 0 then A else gd (!(Nat.beq a 14)) B) = some F) (hA : A = some F → PP p l e R s m args below meth c G w mi Q n0 s0 SF (tgt pc off) ls r S) (hB : B = some F → PP p l e R s m args below meth c G w mi Q n0 s0 SF (pc + 3) ls r S) : PP p l e R s m args below meth c G w mi Q n0 s0 SF pc ls (vr a :: r) S := by
  have ht := tgt_eq h0
  rcases ite_some h with ⟨hp, h⟩ | ⟨hp, h⟩
  · have h1 := hA h
    subst hp
    exact ⟨h1.1, fun H locs lsC hR hS hL hv hn hs => lv_ifnullN hc.1 hc.2.1 hd ht (h1.2 H locs lsC hR hS hL (ok_cons hv).2 hn hs)⟩
  · obtain ⟨hb, h⟩ := gd_some h
    have h14 : a ≠ 14 := fun z => by rw [z] at hb; cases hb
    have h1 := hB h
    refine ⟨h1.1, fun H locs lsC hR hS hL hv hn hs => ?_⟩
    have e : rep G (vr a) = .ref (gad G a) := rf_ref hp h14
    rw [List.map_cons, e]
    exact lv_ifnull hc.1 hc.2.1 hd (h1.2 H locs lsC hR hS hL (ok_cons hv).2 hn hs)
theorem s_nonnull (hc : CX G p s m meth c mi) {off : Int} {a : Nat} {r : List TV} {A B : Rs} (hd : decode (byo mi) pc = .ok (.ifnonnull off, 3)) (h0 : 0 ≤ (pc : Int) + off) (h : (if a = 0 then B else gd (!(Nat.beq a 14)) A) = some F) (hA : A = some F → PP p l e R s m args below meth c G w mi Q n0 s0 SF (tgt pc off) ls r S) (hB : B = some F → PP p l e R s m args below meth c G w mi Q n0 s0 SF (pc + 3) ls r S) : PP p l e R s m args below meth c G w mi Q n0 s0 SF pc ls (vr a :: r) S := by
  have ht := tgt_eq h0
  rcases ite_some h with ⟨hp, h⟩ | ⟨hp, h⟩
  · have h1 := hB h
    subst hp
    exact ⟨h1.1, fun H locs lsC hR hS hL hv hn hs => lv_ifnonnullN hc.1 hc.2.1 hd (h1.2 H locs lsC hR hS hL (ok_cons hv).2 hn hs)⟩
  · obtain ⟨hb, h⟩ := gd_some h
    have h14 : a ≠ 14 := fun z => by rw [z] at hb; cases hb
    have h1 := hA h
    refine ⟨h1.1, fun H locs lsC hR hS hL hv hn hs => ?_⟩
    have e : rep G (vr a) = .ref (gad G a) := rf_ref hp h14
    rw [List.map_cons, e]
    exact lv_ifnonnull hc.1 hc.2.1 hd ht (h1.2 H locs lsC hR hS hL (ok_cons hv).2 hn hs)
theorem swt_spec {x : Int} {d : Rs} {f : Int → Rs} : ∀ (offs : List Int) (k : Int), swt x k offs d f = some F → (∃ o, 0 ≤ x - k ∧ offs[(x - k).toNat]? = some o ∧ f o = some F) ∨ ((x < k ∨ k + offs.length ≤ x) ∧ d = some F) := by
  intro offs
  induction offs with
  | nil => intro k h; refine Or.inr ⟨?_, h⟩; simp; omega
  | cons o r ih =>
    intro k h
    unfold swt at h
    rcases ite_some h with ⟨hp, h2⟩ | ⟨hp, h2⟩
    · subst hp
      exact Or.inl ⟨o, by omega, by simp, h2⟩
    · rcases ih (k + 1) h2 with ⟨o', h1, h2, h3⟩ | ⟨h1, h2⟩
      · refine Or.inl ⟨o', by omega, ?_, h3⟩
        rw [show (x - k).toNat = (x - (k + 1)).toNat + 1 by omega, List.getElem?_cons_succ]
        exact h2
      · refine Or.inr ⟨?_, h2⟩
        simp only [List.length_cons]
        omega
theorem s_table (hc : CX G p s m meth c mi) {d lo hi : Int} {offs : Array Int} {x : XI} {a : Int} {r : List TV} {D : Rs} {f : Int → Rs} (hd : decode (byo mi) pc = .ok (.tableswitch d lo hi offs, len)) (hI : okI (ow mi) (iniM mi) pc (.tableswitch d lo hi offs) x = true) (h : swt a lo offs.toList D f = some F) (hD : D = some F → PP p l e R s m args below meth c G w mi Q n0 s0 SF (tgt pc d) ls r S) (hf : ∀ o, f o = some F → PP p l e R s m args below meth c G w mi Q n0 s0 SF (tgt pc o) ls r S) : PP p l e R s m args below meth c G w mi Q n0 s0 SF pc ls (vi a :: r) S := by
  unfold okI at hI
  simp only [Bool.and_eq_true, decide_eq_true_eq] at hI
  obtain ⟨⟨i1, i2⟩, i3⟩ := hI
  rcases swt_spec _ _ h with ⟨o, h1, h2, h3⟩ | ⟨h1, h2⟩
  · have hp := hf o h3
    have i2 := of_decide_eq_true (List.all_eq_true.mp i2 o (List.mem_of_getElem? h2))
    refine ⟨hp.1, fun H locs lsC hR hS hL hv hn hs => ?_⟩
    have ha : r32 a := (ok_cons hv).1
    have hlt : (a - lo).toNat < offs.toList.length := (List.getElem?_eq_some_iff.mp h2).1
    exact lv_tableIn hc.1 hc.2.1 hd (by rw [of32 ha]; omega) (by rw [of32 ha, i3]; omega) (by rw [of32 ha, ← Array.getElem?_toList]; exact h2) (tgt_eq i2) (hp.2 H locs lsC hR hS hL (ok_cons hv).2 hn hs)
  · have hp := hD h2
    refine ⟨hp.1, fun H locs lsC hR hS hL hv hn hs => ?_⟩
    have ha : r32 a := (ok_cons hv).1
    exact lv_tableOut hc.1 hc.2.1 hd (by rw [of32 ha, i3]; omega) (tgt_eq i1) (hp.2 H locs lsC hR hS hL (ok_cons hv).2 hn hs)
theorem swl_spec {x : Int} {D : Rs} {f : Int → Rs} {d : Int} : ∀ (ps : List (Int × Int)), swl x ps D f = some F → (∃ q ∈ ps, Op.lookupswitch.offset ps d x = q.2 ∧ f q.2 = some F) ∨ (Op.lookupswitch.offset ps d x = d ∧ D = some F) := by
  intro ps
  induction ps with
  | nil => intro h; exact Or.inr ⟨rfl, h⟩
  | cons q r ih =>
    intro h
    unfold swl at h
    rcases ite_some h with ⟨hp, h⟩ | ⟨hp, h⟩
    · refine Or.inl ⟨q, List.mem_cons_self, ?_, h⟩
      rw [hp]
      simp [Op.lookupswitch.offset]
    · have e : Op.lookupswitch.offset (q :: r) d x = Op.lookupswitch.offset r d x := by
        obtain ⟨q1, q2⟩ := q
        have hp : ¬ x = q1 := hp
        simp [Op.lookupswitch.offset, Ne.symm hp, hp]
      rw [e]
      rcases ih h with ⟨q', h1, h2, h3⟩ | h1
      · exact Or.inl ⟨q', List.mem_cons_of_mem _ h1, h2, h3⟩
      · exact Or.inr h1
theorem s_lookup (hc : CX G p s m meth c mi) {d : Int} {ps : Array (Int × Int)} {x : XI} {a : Int} {r : List TV} {D : Rs} {f : Int → Rs} (hd : decode (byo mi) pc = .ok (.lookupswitch d ps, len)) (hI : okI (ow mi) (iniM mi) pc (.lookupswitch d ps) x = true) (h : swl a ps.toList D f = some F) (hD : D = some F → PP p l e R s m args below meth c G w mi Q n0 s0 SF (tgt pc d) ls r S) (hf : ∀ o, f o = some F → PP p l e R s m args below meth c G w mi Q n0 s0 SF (tgt pc o) ls r S) : PP p l e R s m args below meth c G w mi Q n0 s0 SF pc ls (vi a :: r) S := by
  unfold okI at hI
  rw [Bool.and_eq_true, Bool.and_eq_true, decide_eq_true_eq] at hI
  obtain ⟨⟨i1, i2⟩, i3⟩ := hI
  rcases swl_spec (d := d) _ h with ⟨q, h1, h2, h3⟩ | ⟨h1, h2⟩
  · have hp := hf _ h3
    have i2 := of_decide_eq_true (List.all_eq_true.mp i2 q h1)
    refine ⟨hp.1, fun H locs lsC hR hS hL hv hn hs => ?_⟩
    have ha : r32 a := (ok_cons hv).1
    exact lv_lookup hc.1 hc.2.1 hd i3 (by rw [of32 ha]; exact h2) (tgt_eq i2) (hp.2 H locs lsC hR hS hL (ok_cons hv).2 hn hs)
  · have hp := hD h2
    refine ⟨hp.1, fun H locs lsC hR hS hL hv hn hs => ?_⟩
    have ha : r32 a := (ok_cons hv).1
    exact lv_lookup hc.1 hc.2.1 hd i3 (by rw [of32 ha]; exact h1) (tgt_eq i1) (hp.2 H locs lsC hR hS hL (ok_cons hv).2 hn hs)
end SND
