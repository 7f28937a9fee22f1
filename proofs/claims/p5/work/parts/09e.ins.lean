/-! one instruction of the plain machine is one of the machine -/
noncomputable def CX (G : GE) (p : Program) (s : State) (m : MethodId) (meth : Method) (c : Code) (mi : Nat) : Prop := p.tables.exec = Jvm.exec ∧ c.code = byo mi ∧ c.maxLocals = mlOf mi ∧ s.vm.findClass (cnm (ow mi)) = some m.cls ∧ (iniM mi = true → meth.name = "<init>") ∧ EN G s s.heap ∧ mi < 338
noncomputable def LE2 (S S' : AH) : Prop := S.1.1 ≤ S'.1.1 ∧ S.1.2.1 ≤ S'.1.2.1
noncomputable def PP (p : Program) (l : Launch) (e : Env) (R : Room) (s : State) (m : MethodId) (args : Array Value) (below : List Frame) (meth : Method) (c : Code) (G : GE) (w : WC) (mi : Nat) (Q : State → Prop) (n0 s0 : Nat) (SF : AH) (pc : Nat) (ls : LV) (st : List TV) (S : AH) : Prop :=
  LE2 S SF ∧ ∀ (H : Heap) (locs : List Loc) (lsC : Array Slot), Rel G w S H → va_S (AA G) s.heap H locs → LR G ls lsC (mlOf mi) → (∀ v ∈ st, okv v) → n0 ≤ S.1.1 → s0 ≤ S.1.2.1 → W p l e R s m args below meth c H locs (S.1.1 - n0) (S.1.2.1 - s0) Q (F0 m pc lsC (st.map (rep G)))
theorem gd_some {b : Bool} {r : Rs} {F : Int × AH} (h : gd b r = some F) : b = true ∧ r = some F := by
  cases b
  · cases h
  · exact ⟨rfl, h⟩
theorem ok_cons {v : TV} {st : List TV} (h : ∀ u ∈ v :: st, okv u) : okv v ∧ ∀ u ∈ st, okv u := ⟨h v List.mem_cons_self, fun u hu => h u (List.mem_cons_of_mem _ hu)⟩
theorem cons_ok {v : TV} {st : List TV} (hv : okv v) (h : ∀ u ∈ st, okv u) : ∀ u ∈ v :: st, okv u := fun u hu => by
  rcases List.mem_cons.mp hu with rfl | q
  · exact hv
  · exact h u q
theorem clampI {i : Int} (h : r32 i) (h0 : 0 ≤ i) : (Int32.ofInt i).toNatClampNeg = i.toNat := by
  show (Int32.ofInt i).toInt.toNat = _
  rw [of32 h]
theorem inI {i : Int} {n : Nat} {c : Nat} (h : r32 i) (h0 : 0 ≤ i) (h1 : i < n) (hc : n ≤ c) : ¬ (Int32.ofInt i < 0 ∨ c ≤ (Int32.ofInt i).toNatClampNeg) := by
  rw [clampI h h0]
  rintro (q | q)
  · have := (lt32 h (y := 0) (by unfold r32; omega)).mp q
    omega
  · omega
section SND
variable {p : Program} {l : Launch} {e : Env} {R : Room} {s : State} {m : MethodId} {args : Array Value} {below : List Frame} {meth : Method} {c : Code} {G : GE} {w : WC} {mi : Nat} {Q : State → Prop} {n0 s0 : Nat} {SF : AH} {F : Int × AH} {pc len : Nat} {ls : LV} {st : List TV} {S : AH} {k : KT}
theorem PP.stk {pc' : Nat} {st' : List TV} (h : PP p l e R s m args below meth c G w mi Q n0 s0 SF pc' ls st' S) (hok : (∀ v ∈ st, okv v) → ∀ v ∈ st', okv v) (hrow : ∀ (H : Heap) (locs : List Loc) (cells slots : Nat) (lsC : Array Slot), (∀ v ∈ st, okv v) → W p l e R s m args below meth c H locs cells slots Q (F0 m pc' lsC (st'.map (rep G))) → W p l e R s m args below meth c H locs cells slots Q (F0 m pc lsC (st.map (rep G)))) : PP p l e R s m args below meth c G w mi Q n0 s0 SF pc ls st S :=
  ⟨h.1, fun H locs lsC hR hS hL hv hn hs => hrow _ _ _ _ _ hv (h.2 H locs lsC hR hS hL (hok hv) hn hs)⟩
theorem s_bin {f : Int → Int → Int} {g : Int32 → Int32 → Int32} (hfg : ∀ x y, r32 x → r32 y → Int32.ofInt (f x y) = g (Int32.ofInt x) (Int32.ofInt y)) (hr : ∀ x y, r32 x → r32 y → r32 (f x y))
    (row : ∀ (H : Heap) (locs : List Loc) (cells slots : Nat) (lsC : Array Slot) (x y : Int32) (rest : List Value), W p l e R s m args below meth c H locs cells slots Q (F0 m (pc + len) lsC (.int (g x y) :: rest)) → W p l e R s m args below meth c H locs cells slots Q (F0 m pc lsC (.int y :: .int x :: rest)))
    (h : bin f ls st S k = some F) (hk : ∀ ls' st' S', k ls' st' S' = some F → PP p l e R s m args below meth c G w mi Q n0 s0 SF (pc + len) ls' st' S') : PP p l e R s m args below meth c G w mi Q n0 s0 SF pc ls st S := by
  unfold bin at h
  split at h
  · rename_i y x r
    refine (hk _ _ _ h).stk (fun hv => ?_) (fun H locs cells slots lsC hv q => ?_)
    · obtain ⟨h1, hv⟩ := ok_cons hv
      obtain ⟨h2, hv⟩ := ok_cons hv
      exact cons_ok (hr _ _ h2 h1) hv
    · obtain ⟨h1, hv⟩ := ok_cons hv
      obtain ⟨h2, hv⟩ := ok_cons hv
      refine row _ _ _ _ _ _ _ _ ?_
      rw [← hfg _ _ h2 h1]
      exact q
  · cases h
theorem s_binL {f : Int → Int → Int} {g : Int64 → Int64 → Int64} (hfg : ∀ x y, r64 x → r64 y → Int64.ofInt (f x y) = g (Int64.ofInt x) (Int64.ofInt y)) (hr : ∀ x y, r64 x → r64 y → r64 (f x y))
    (row : ∀ (H : Heap) (locs : List Loc) (cells slots : Nat) (lsC : Array Slot) (x y : Int64) (rest : List Value), W p l e R s m args below meth c H locs cells slots Q (F0 m (pc + len) lsC (.long (g x y) :: rest)) → W p l e R s m args below meth c H locs cells slots Q (F0 m pc lsC (.long y :: .long x :: rest)))
    (h : binL f ls st S k = some F) (hk : ∀ ls' st' S', k ls' st' S' = some F → PP p l e R s m args below meth c G w mi Q n0 s0 SF (pc + len) ls' st' S') : PP p l e R s m args below meth c G w mi Q n0 s0 SF pc ls st S := by
  unfold binL at h
  split at h
  · rename_i y x r
    refine (hk _ _ _ h).stk (fun hv => ?_) (fun H locs cells slots lsC hv q => ?_)
    · obtain ⟨h1, hv⟩ := ok_cons hv
      obtain ⟨h2, hv⟩ := ok_cons hv
      exact cons_ok (hr _ _ h2 h1) hv
    · obtain ⟨h1, hv⟩ := ok_cons hv
      obtain ⟨h2, hv⟩ := ok_cons hv
      refine row _ _ _ _ _ _ _ _ ?_
      rw [← hfg _ _ h2 h1]
      exact q
  · cases h
theorem s_shL {f : Int → Int → Int} {g : Int64 → Int32 → Int64} (hfg : ∀ x y, r64 x → r32 y → Int64.ofInt (f x y) = g (Int64.ofInt x) (Int32.ofInt y)) (hr : ∀ x y, r64 x → r32 y → r64 (f x y))
    (row : ∀ (H : Heap) (locs : List Loc) (cells slots : Nat) (lsC : Array Slot) (x : Int64) (y : Int32) (rest : List Value), W p l e R s m args below meth c H locs cells slots Q (F0 m (pc + len) lsC (.long (g x y) :: rest)) → W p l e R s m args below meth c H locs cells slots Q (F0 m pc lsC (.int y :: .long x :: rest)))
    (h : shL f ls st S k = some F) (hk : ∀ ls' st' S', k ls' st' S' = some F → PP p l e R s m args below meth c G w mi Q n0 s0 SF (pc + len) ls' st' S') : PP p l e R s m args below meth c G w mi Q n0 s0 SF pc ls st S := by
  unfold shL at h
  split at h
  · rename_i y x r
    refine (hk _ _ _ h).stk (fun hv => ?_) (fun H locs cells slots lsC hv q => ?_)
    · obtain ⟨h1, hv⟩ := ok_cons hv
      obtain ⟨h2, hv⟩ := ok_cons hv
      exact cons_ok (hr _ _ h2 h1) hv
    · obtain ⟨h1, hv⟩ := ok_cons hv
      obtain ⟨h2, hv⟩ := ok_cons hv
      refine row _ _ _ _ _ _ _ _ ?_
      rw [← hfg _ _ h2 h1]
      exact q
  · cases h
theorem s_dvI {f : Int → Int → Int} {g : Int32 → Int32 → Int32} (hfg : ∀ x y, r32 x → r32 y → y ≠ 0 → Int32.ofInt (f x y) = g (Int32.ofInt x) (Int32.ofInt y)) (hr : ∀ x y, r32 x → r32 y → y ≠ 0 → r32 (f x y))
    (row : ∀ (H : Heap) (locs : List Loc) (cells slots : Nat) (lsC : Array Slot) (x y : Int32) (rest : List Value), ¬ y = 0 → W p l e R s m args below meth c H locs cells slots Q (F0 m (pc + len) lsC (.int (g x y) :: rest)) → W p l e R s m args below meth c H locs cells slots Q (F0 m pc lsC (.int y :: .int x :: rest)))
    (h : dvI f ls st S k = some F) (hk : ∀ ls' st' S', k ls' st' S' = some F → PP p l e R s m args below meth c G w mi Q n0 s0 SF (pc + len) ls' st' S') : PP p l e R s m args below meth c G w mi Q n0 s0 SF pc ls st S := by
  unfold dvI at h
  split at h
  · rename_i y x r
    split at h
    · cases h
    · rename_i h0
      refine (hk _ _ _ h).stk (fun hv => ?_) (fun H locs cells slots lsC hv q => ?_)
      · obtain ⟨h1, hv⟩ := ok_cons hv
        obtain ⟨h2, hv⟩ := ok_cons hv
        exact cons_ok (hr _ _ h2 h1 h0) hv
      · obtain ⟨h1, hv⟩ := ok_cons hv
        obtain ⟨h2, hv⟩ := ok_cons hv
        refine row _ _ _ _ _ _ _ _ (fun q => h0 ((zero32 h1).mp q)) ?_
        rw [← hfg _ _ h2 h1 h0]
        exact q
  · cases h
theorem s_dvL {f : Int → Int → Int} {g : Int64 → Int64 → Int64} (hfg : ∀ x y, r64 x → r64 y → y ≠ 0 → Int64.ofInt (f x y) = g (Int64.ofInt x) (Int64.ofInt y)) (hr : ∀ x y, r64 x → r64 y → y ≠ 0 → r64 (f x y))
    (row : ∀ (H : Heap) (locs : List Loc) (cells slots : Nat) (lsC : Array Slot) (x y : Int64) (rest : List Value), ¬ y = 0 → W p l e R s m args below meth c H locs cells slots Q (F0 m (pc + len) lsC (.long (g x y) :: rest)) → W p l e R s m args below meth c H locs cells slots Q (F0 m pc lsC (.long y :: .long x :: rest)))
    (h : dvL f ls st S k = some F) (hk : ∀ ls' st' S', k ls' st' S' = some F → PP p l e R s m args below meth c G w mi Q n0 s0 SF (pc + len) ls' st' S') : PP p l e R s m args below meth c G w mi Q n0 s0 SF pc ls st S := by
  unfold dvL at h
  split at h
  · rename_i y x r
    split at h
    · cases h
    · rename_i h0
      refine (hk _ _ _ h).stk (fun hv => ?_) (fun H locs cells slots lsC hv q => ?_)
      · obtain ⟨h1, hv⟩ := ok_cons hv
        obtain ⟨h2, hv⟩ := ok_cons hv
        exact cons_ok (hr _ _ h2 h1 h0) hv
      · obtain ⟨h1, hv⟩ := ok_cons hv
        obtain ⟨h2, hv⟩ := ok_cons hv
        refine row _ _ _ _ _ _ _ _ (fun q => h0 ((zero64 h1).mp q)) ?_
        rw [← hfg _ _ h2 h1 h0]
        exact q
  · cases h
theorem s_una {f : Int → Int} {g : Int32 → Int32} (hfg : ∀ x, r32 x → Int32.ofInt (f x) = g (Int32.ofInt x)) (hr : ∀ x, r32 x → r32 (f x))
    (row : ∀ (H : Heap) (locs : List Loc) (cells slots : Nat) (lsC : Array Slot) (x : Int32) (rest : List Value), W p l e R s m args below meth c H locs cells slots Q (F0 m (pc + len) lsC (.int (g x) :: rest)) → W p l e R s m args below meth c H locs cells slots Q (F0 m pc lsC (.int x :: rest)))
    (h : una f ls st S k = some F) (hk : ∀ ls' st' S', k ls' st' S' = some F → PP p l e R s m args below meth c G w mi Q n0 s0 SF (pc + len) ls' st' S') : PP p l e R s m args below meth c G w mi Q n0 s0 SF pc ls st S := by
  unfold una at h
  split at h
  · rename_i x r
    refine (hk _ _ _ h).stk (fun hv => ?_) (fun H locs cells slots lsC hv q => ?_)
    · obtain ⟨h1, hv⟩ := ok_cons hv
      exact cons_ok (hr _ h1) hv
    · obtain ⟨h1, hv⟩ := ok_cons hv
      refine row _ _ _ _ _ _ _ ?_
      rw [← hfg _ h1]
      exact q
  · cases h
theorem s_push {v : TV} (hv : okv v) (row : ∀ (H : Heap) (locs : List Loc) (cells slots : Nat) (lsC : Array Slot) (rest : List Value), W p l e R s m args below meth c H locs cells slots Q (F0 m (pc + len) lsC (rep G v :: rest)) → W p l e R s m args below meth c H locs cells slots Q (F0 m pc lsC rest)) (h : PP p l e R s m args below meth c G w mi Q n0 s0 SF (pc + len) ls (v :: st) S) : PP p l e R s m args below meth c G w mi Q n0 s0 SF pc ls st S :=
  h.stk (fun q => cons_ok hv q) (fun H locs cells slots lsC _ q => row _ _ _ _ _ _ q)
theorem s_loadI {j : Nat} (row : ∀ (H : Heap) (locs : List Loc) (cells slots : Nat) (lsC : Array Slot) (rest : List Value) (x : Int32), lsC[j]? = some (.val (.int x)) → W p l e R s m args below meth c H locs cells slots Q (F0 m (pc + len) lsC (.int x :: rest)) → W p l e R s m args below meth c H locs cells slots Q (F0 m pc lsC rest))
    (h : loadI ls j st S k = some F) (hk : ∀ ls' st' S', k ls' st' S' = some F → PP p l e R s m args below meth c G w mi Q n0 s0 SF (pc + len) ls' st' S') : PP p l e R s m args below meth c G w mi Q n0 s0 SF pc ls st S := by
  unfold loadI at h
  split at h
  · rename_i x hq
    have h1 := hk _ _ _ h
    exact ⟨h1.1, fun H locs lsC hR hS hL hv hn hs => row _ _ _ _ _ _ _ (hL.at hq) (h1.2 H locs lsC hR hS hL (cons_ok (hL.2.2.2 _ _ hq).2 hv) hn hs)⟩
  · cases h
theorem s_loadL {j : Nat} (row : ∀ (H : Heap) (locs : List Loc) (cells slots : Nat) (lsC : Array Slot) (rest : List Value) (x : Int64), lsC[j]? = some (.val (.long x)) → W p l e R s m args below meth c H locs cells slots Q (F0 m (pc + len) lsC (.long x :: rest)) → W p l e R s m args below meth c H locs cells slots Q (F0 m pc lsC rest))
    (h : loadL ls j st S k = some F) (hk : ∀ ls' st' S', k ls' st' S' = some F → PP p l e R s m args below meth c G w mi Q n0 s0 SF (pc + len) ls' st' S') : PP p l e R s m args below meth c G w mi Q n0 s0 SF pc ls st S := by
  unfold loadL at h
  split at h
  · rename_i x hq
    have h1 := hk _ _ _ h
    exact ⟨h1.1, fun H locs lsC hR hS hL hv hn hs => row _ _ _ _ _ _ _ (hL.at hq) (h1.2 H locs lsC hR hS hL (cons_ok (hL.2.2.2 _ _ hq).2 hv) hn hs)⟩
  · cases h
theorem s_loadA {j : Nat} (hG : gVok G) (rowR : ∀ (H : Heap) (locs : List Loc) (cells slots : Nat) (lsC : Array Slot) (rest : List Value) (x : Nat), lsC[j]? = some (.val (.ref x)) → W p l e R s m args below meth c H locs cells slots Q (F0 m (pc + len) lsC (.ref x :: rest)) → W p l e R s m args below meth c H locs cells slots Q (F0 m pc lsC rest))
    (rowN : ∀ (H : Heap) (locs : List Loc) (cells slots : Nat) (lsC : Array Slot) (rest : List Value), lsC[j]? = some (.val .null) → W p l e R s m args below meth c H locs cells slots Q (F0 m (pc + len) lsC (.null :: rest)) → W p l e R s m args below meth c H locs cells slots Q (F0 m pc lsC rest))
    (h : loadA ls j st S k = some F) (hk : ∀ ls' st' S', k ls' st' S' = some F → PP p l e R s m args below meth c G w mi Q n0 s0 SF (pc + len) ls' st' S') : PP p l e R s m args below meth c G w mi Q n0 s0 SF pc ls st S := by
  unfold loadA at h
  split at h
  · rename_i x hq
    have h1 := hk _ _ _ h
    refine ⟨h1.1, fun H locs lsC hR hS hL hv hn hs => ?_⟩
    have h2 := h1.2 H locs lsC hR hS hL (cons_ok (hL.2.2.2 _ _ hq).2 hv) hn hs
    have h3 := hL.at hq
    rw [List.map_cons] at h2
    rcases rf_cases hG x with z | ⟨t, z⟩
    · have z' : rep G (.inr (.inr x)) = .null := z
      rw [z'] at h2 h3
      exact rowN _ _ _ _ _ _ h3 h2
    · have z' : rep G (.inr (.inr x)) = .ref t := z
      rw [z'] at h2 h3
      exact rowR _ _ _ _ _ _ _ h3 h2
  · cases h
theorem s_stoI {j : Nat} (hG : gVok G) (row : ∀ (H : Heap) (locs : List Loc) (cells slots : Nat) (lsC : Array Slot) (lv : List (Nat × Value)) (x : Int32) (rest : List Value), lv_has lsC (mlOf mi) lv → j < mlOf mi → (∀ ls' : Array Slot, lv_has ls' (mlOf mi) ((j, .int x) :: lv.filter (fun q => !(q.1 == j) && !(q.1 + 1 == j && q.2.category == 2))) → W p l e R s m args below meth c H locs cells slots Q (F0 m (pc + len) ls' rest)) → W p l e R s m args below meth c H locs cells slots Q (F0 m pc lsC (.int x :: rest)))
    (h : stoI ls j st S k = some F) (hk : ∀ ls' st' S', k ls' st' S' = some F → PP p l e R s m args below meth c G w mi Q n0 s0 SF (pc + len) ls' st' S') : PP p l e R s m args below meth c G w mi Q n0 s0 SF pc ls st S := by
  unfold stoI at h
  split at h
  · rename_i x r
    obtain ⟨hj, ls', h1, hl, hs1⟩ := st1_spec h
    have h2 := hk _ _ _ h1
    refine ⟨h2.1, fun H locs lsC hR hS hL hv hn hs => ?_⟩
    obtain ⟨hx, hv⟩ := ok_cons hv
    exact row _ _ _ _ _ _ _ _ hL.has (by rw [← hL.1]; exact hj) (fun lsC' h' => h2.2 H locs lsC' hR hS (LR.st1 hG hL hx hl hs1 h') hv hn hs)
  · cases h
theorem s_stoL {j : Nat} (hG : gVok G) (row : ∀ (H : Heap) (locs : List Loc) (cells slots : Nat) (lsC : Array Slot) (lv : List (Nat × Value)) (x : Int64) (rest : List Value), lv_has lsC (mlOf mi) lv → j + 1 < mlOf mi → (∀ ls' : Array Slot, lv_has ls' (mlOf mi) ((j, .long x) :: lv.filter (fun q => !(q.1 == j) && (!(q.1 == j + 1) && !(q.1 + 1 == j && q.2.category == 2)))) → W p l e R s m args below meth c H locs cells slots Q (F0 m (pc + len) ls' rest)) → W p l e R s m args below meth c H locs cells slots Q (F0 m pc lsC (.long x :: rest)))
    (h : stoL ls j st S k = some F) (hk : ∀ ls' st' S', k ls' st' S' = some F → PP p l e R s m args below meth c G w mi Q n0 s0 SF (pc + len) ls' st' S') : PP p l e R s m args below meth c G w mi Q n0 s0 SF pc ls st S := by
  unfold stoL at h
  split at h
  · rename_i x r
    obtain ⟨hj, ls', h1, hl, hs1⟩ := st2_spec h
    have h2 := hk _ _ _ h1
    refine ⟨h2.1, fun H locs lsC hR hS hL hv hn hs => ?_⟩
    obtain ⟨hx, hv⟩ := ok_cons hv
    exact row _ _ _ _ _ _ _ _ hL.has (by rw [← hL.1]; exact hj) (fun lsC' h' => h2.2 H locs lsC' hR hS (LR.st2 hG hL hx hl hs1 h') hv hn hs)
  · cases h
theorem s_stoA {j : Nat} (hG : gVok G) (rowR : ∀ (H : Heap) (locs : List Loc) (cells slots : Nat) (lsC : Array Slot) (lv : List (Nat × Value)) (x : Nat) (rest : List Value), lv_has lsC (mlOf mi) lv → j < mlOf mi → (∀ ls' : Array Slot, lv_has ls' (mlOf mi) ((j, .ref x) :: lv.filter (fun q => !(q.1 == j) && !(q.1 + 1 == j && q.2.category == 2))) → W p l e R s m args below meth c H locs cells slots Q (F0 m (pc + len) ls' rest)) → W p l e R s m args below meth c H locs cells slots Q (F0 m pc lsC (.ref x :: rest)))
    (rowN : ∀ (H : Heap) (locs : List Loc) (cells slots : Nat) (lsC : Array Slot) (lv : List (Nat × Value)) (rest : List Value), lv_has lsC (mlOf mi) lv → j < mlOf mi → (∀ ls' : Array Slot, lv_has ls' (mlOf mi) ((j, .null) :: lv.filter (fun q => !(q.1 == j) && !(q.1 + 1 == j && q.2.category == 2))) → W p l e R s m args below meth c H locs cells slots Q (F0 m (pc + len) ls' rest)) → W p l e R s m args below meth c H locs cells slots Q (F0 m pc lsC (.null :: rest)))
    (h : stoA ls j st S k = some F) (hk : ∀ ls' st' S', k ls' st' S' = some F → PP p l e R s m args below meth c G w mi Q n0 s0 SF (pc + len) ls' st' S') : PP p l e R s m args below meth c G w mi Q n0 s0 SF pc ls st S := by
  unfold stoA at h
  split at h
  · rename_i x r
    obtain ⟨hj, ls', h1, hl, hs1⟩ := st1_spec h
    have h2 := hk _ _ _ h1
    refine ⟨h2.1, fun H locs lsC hR hS hL hv hn hs => ?_⟩
    obtain ⟨hx, hv⟩ := ok_cons hv
    have key : ∀ lsC', lv_has lsC' (mlOf mi) ((j, rep G (vr x)) :: (lvp G ls).filter (fun q => !(q.1 == j) && !(q.1 + 1 == j && q.2.category == 2))) → W p l e R s m args below meth c H locs (S.1.1 - n0) (S.1.2.1 - s0) Q (F0 m (pc + len) lsC' (r.map (rep G))) := fun lsC' h' => h2.2 H locs lsC' hR hS (LR.st1 hG hL hx hl hs1 h') hv hn hs
    rw [List.map_cons]
    rcases rf_cases hG x with z | ⟨t, z⟩
    · have z' : rep G (.inr (.inr x)) = .null := z
      have z2 : rep G (vr x) = .null := z
      rw [z2] at key
      rw [z']
      exact rowN _ _ _ _ _ _ _ hL.has (by rw [← hL.1]; exact hj) key
    · have z' : rep G (.inr (.inr x)) = .ref t := z
      have z2 : rep G (vr x) = .ref t := z
      rw [z2] at key
      rw [z']
      exact rowR _ _ _ _ _ _ _ _ hL.has (by rw [← hL.1]; exact hj) key
  · cases h
/-! arrays -/
theorem s_aldI (hc : CX G p s m meth c mi) (hw : OKW G w) (hd : decode (byo mi) pc = .ok (.iaload, 1)) (h : ald w 2 ls st S k = some F) (hk : ∀ ls' st' S', k ls' st' S' = some F → PP p l e R s m args below meth c G w mi Q n0 s0 SF (pc + 1) ls' st' S') : PP p l e R s m args below meth c G w mi Q n0 s0 SF pc ls st S := by
  unfold ald at h
  split at h
  · rename_i i a r
    obtain ⟨hb, h⟩ := gd_some h
    have hb := Nat.eq_of_beq_eq_true hb
    split at h
    · rename_i hi
      have h1 := hk _ _ _ h
      refine ⟨h1.1, fun H locs lsC hR hS hL hv hn hs => ?_⟩
      obtain ⟨v1, hv⟩ := ok_cons hv
      obtain ⟨-, hv⟩ := ok_cons hv
      obtain ⟨e1, e2, cell, c1, c2, c3, c4, c5, c6⟩ := arr_at hw hc.2.2.2.2.2.1 hS hR (a := a) (t := 2) (n := (shp w S a).2) (by rw [← hb]) (by decide)
      have hx := c6 i.toNat (by first | decide | omega)
      show W p l e R s m args below meth c _ _ _ _ _ (F0 m pc lsC (.int (Int32.ofInt i) :: rf G a :: r.map (rep G)))
      rw [e1]
      exact W.iald hc.1 hc.2.1 c1 c2 c3 (inI v1 hi.1 hi.2 c4) (by rw [clampI v1 hi.1]; exact hx.1) rfl rfl hd (h1.2 H locs lsC hR hS hL (cons_ok (okv_mkv hx.2) hv) hn hs)
    · cases h
  · cases h
theorem s_aldL (hc : CX G p s m meth c mi) (hw : OKW G w) (hd : decode (byo mi) pc = .ok (.laload, 1)) (h : ald w 3 ls st S k = some F) (hk : ∀ ls' st' S', k ls' st' S' = some F → PP p l e R s m args below meth c G w mi Q n0 s0 SF (pc + 1) ls' st' S') : PP p l e R s m args below meth c G w mi Q n0 s0 SF pc ls st S := by
  unfold ald at h
  split at h
  · rename_i i a r
    obtain ⟨hb, h⟩ := gd_some h
    have hb := Nat.eq_of_beq_eq_true hb
    split at h
    · rename_i hi
      have h1 := hk _ _ _ h
      refine ⟨h1.1, fun H locs lsC hR hS hL hv hn hs => ?_⟩
      obtain ⟨v1, hv⟩ := ok_cons hv
      obtain ⟨-, hv⟩ := ok_cons hv
      obtain ⟨e1, e2, cell, c1, c2, c3, c4, c5, c6⟩ := arr_at hw hc.2.2.2.2.2.1 hS hR (a := a) (t := 3) (n := (shp w S a).2) (by rw [← hb]) (by decide)
      have hx := c6 i.toNat (by first | decide | omega)
      show W p l e R s m args below meth c _ _ _ _ _ (F0 m pc lsC (.int (Int32.ofInt i) :: rf G a :: r.map (rep G)))
      rw [e1]
      exact W.lald hc.1 hc.2.1 c1 c2 c3 (inI v1 hi.1 hi.2 c4) (by rw [clampI v1 hi.1]; exact hx.1) rfl rfl hd (h1.2 H locs lsC hR hS hL (cons_ok (okv_mkv hx.2) hv) hn hs)
    · cases h
  · cases h
theorem s_aldB (hc : CX G p s m meth c mi) (hw : OKW G w) (hd : decode (byo mi) pc = .ok (.baload, 1)) (h : aldB w ls st S k = some F) (hk : ∀ ls' st' S', k ls' st' S' = some F → PP p l e R s m args below meth c G w mi Q n0 s0 SF (pc + 1) ls' st' S') : PP p l e R s m args below meth c G w mi Q n0 s0 SF pc ls st S := by
  unfold aldB at h
  split at h
  · rename_i i a r
    obtain ⟨hb, h⟩ := gd_some h
    have hb := Nat.le_of_ble_eq_true hb
    split at h
    · rename_i hi
      have h1 := hk _ _ _ h
      refine ⟨h1.1, fun H locs lsC hR hS hL hv hn hs => ?_⟩
      obtain ⟨v1, hv⟩ := ok_cons hv
      obtain ⟨-, hv⟩ := ok_cons hv
      obtain ⟨e1, e2, cell, c1, c2, c3, c4, c5, c6⟩ := arr_at hw hc.2.2.2.2.2.1 hS hR (a := a) (t := (shp w S a).1) (n := (shp w S a).2) rfl (by first | decide | omega)
      have hx := c6 i.toNat (by first | decide | omega)
      show W p l e R s m args below meth c _ _ _ _ _ (F0 m pc lsC (.int (Int32.ofInt i) :: rf G a :: r.map (rep G)))
      rw [e1]
      rcases (show (shp w S a).1 = 0 ∨ (shp w S a).1 = 1 by omega) with q | q
      · rw [q] at c2 hx
        exact W.bald hc.1 hc.2.1 c1 c2 c3 (inI v1 hi.1 hi.2 c4) (by rw [clampI v1 hi.1]; exact hx.1) rfl rfl hd (h1.2 H locs lsC hR hS hL (cons_ok (okv_mkv hx.2) hv) hn hs)
      · rw [q] at c2 hx
        exact W.zald hc.1 hc.2.1 c1 c2 c3 (inI v1 hi.1 hi.2 c4) (by rw [clampI v1 hi.1]; exact hx.1) rfl rfl hd (h1.2 H locs lsC hR hS hL (cons_ok (okv_mkv hx.2) hv) hn hs)
    · cases h
  · cases h
theorem s_aldA (hc : CX G p s m meth c mi) (hw : OKW G w) (hd : decode (byo mi) pc = .ok (.aaload, 1)) (h : aldA w ls st S k = some F) (hk : ∀ ls' st' S', k ls' st' S' = some F → PP p l e R s m args below meth c G w mi Q n0 s0 SF (pc + 1) ls' st' S') : PP p l e R s m args below meth c G w mi Q n0 s0 SF pc ls st S := by
  unfold aldA at h
  split at h
  · rename_i i a r
    obtain ⟨hb, h⟩ := gd_some h
    rw [Bool.and_eq_true] at hb
    have hb1 := Nat.le_of_ble_eq_true hb.1
    have hb2 := Nat.le_of_ble_eq_true hb.2
    split at h
    · rename_i hi
      have h1 := hk _ _ _ h
      refine ⟨h1.1, fun H locs lsC hR hS hL hv hn hs => ?_⟩
      obtain ⟨v1, hv⟩ := ok_cons hv
      obtain ⟨-, hv⟩ := ok_cons hv
      obtain ⟨e1, e2, cell, c1, c2, c3, c4, c5, c6⟩ := arr_at hw hc.2.2.2.2.2.1 hS hR (a := a) (t := (shp w S a).1) (n := (shp w S a).2) rfl (by first | decide | omega)
      have hx := c6 i.toNat (by first | decide | omega)
      have ha : arC (shp w S a).1 = 2 := by
        rcases (show (shp w S a).1 = 4 ∨ (shp w S a).1 = 5 ∨ (shp w S a).1 = 6 by omega) with q | q | q <;> rw [q] <;> rfl
      have ht : (ety (shp w S a).1).isReference = true := by
        rcases (show (shp w S a).1 = 4 ∨ (shp w S a).1 = 5 ∨ (shp w S a).1 = 6 by omega) with q | q | q <;> rw [q] <;> rfl
      rw [ha] at hx
      show W p l e R s m args below meth c _ _ _ _ _ (F0 m pc lsC (.int (Int32.ofInt i) :: rf G a :: r.map (rep G)))
      rw [e1]
      exact W.aald hc.1 hc.2.1 c1 c2 ht c3 (inI v1 hi.1 hi.2 c4) (by rw [clampI v1 hi.1]; exact hx.1) rfl rfl hd (h1.2 H locs lsC hR hS hL (cons_ok (okv_mkv hx.2) hv) hn hs)
    · cases h
  · cases h
theorem s_alen (hc : CX G p s m meth c mi) (hw : OKW G w) (hd : decode (byo mi) pc = .ok (.arraylength, 1)) (h : alen w ls st S k = some F) (hk : ∀ ls' st' S', k ls' st' S' = some F → PP p l e R s m args below meth c G w mi Q n0 s0 SF (pc + 1) ls' st' S') : PP p l e R s m args below meth c G w mi Q n0 s0 SF pc ls st S := by
  unfold alen at h
  split at h
  · rename_i a r
    obtain ⟨hb, h⟩ := gd_some h
    have hb := Nat.le_of_ble_eq_true hb
    have h1 := hk _ _ _ h
    refine ⟨h1.1, fun H locs lsC hR hS hL hv hn hs => ?_⟩
    obtain ⟨-, hv⟩ := ok_cons hv
    obtain ⟨e1, e2, cell, c1, c2, c3, c4, c5, c6⟩ := arr_at hw hc.2.2.2.2.2.1 hS hR (a := a) (t := (shp w S a).1) (n := (shp w S a).2) rfl (by first | decide | omega)
    show W p l e R s m args below meth c _ _ _ _ _ (F0 m pc lsC (rf G a :: r.map (rep G)))
    rw [e1]
    refine W.alen (n := Int32.ofInt ((shp w S a).2 : Int)) hc.1 hc.2.1 c1 c2 ?_ rfl rfl hd (h1.2 H locs lsC hR hS hL (cons_ok ?_ hv) hn hs)
    · rw [c5]
      exact (Int32.ofInt_eq_ofNat).symm
    · show r32 _
      unfold r32
      omega
  · cases h
/-- the cell of an array of ours -/
theorem own_arr (hw : OKW G w) {H : Heap} (hR : Rel G w S H) {a : Nat} (hf : wokF w a = true) (ht : (shp w S a).1 < 7) : 15 ≤ a ∧ H[gad G a]? = some (arrV (gA G (shp w S a).1) (shp w S a).2 (fun j => rep G (mkv (arC (shp w S a).1) (rdv w S a j)))) := by
  obtain ⟨h15, -⟩ := wokF_none hw hf
  exact ⟨h15, ((hR.2.2.2.2 a h15 (hR.lt (by first | decide | omega))).1 ht).1⟩
theorem s_astI (hc : CX G p s m meth c mi) (hw : OKW G w) (hd : decode (byo mi) pc = .ok (.iastore, 1)) (h : astI w ls st S k = some F) (hk : ∀ ls' st' S', k ls' st' S' = some F → PP p l e R s m args below meth c G w mi Q n0 s0 SF (pc + 1) ls' st' S') : PP p l e R s m args below meth c G w mi Q n0 s0 SF pc ls st S := by
  unfold astI at h
  split at h
  · rename_i x i a r
    obtain ⟨hb, h⟩ := gd_some h
    rw [Bool.and_eq_true] at hb
    have hb1 := Nat.eq_of_beq_eq_true hb.1
    split at h
    · rename_i hi
      have h1 := hk _ _ _ h
      refine ⟨h1.1, fun H locs lsC hR hS hL hv hn hs => ?_⟩
      obtain ⟨v0, hv⟩ := ok_cons hv
      obtain ⟨v1, hv⟩ := ok_cons hv
      obtain ⟨-, hv⟩ := ok_cons hv
      obtain ⟨h15, hcell⟩ := own_arr hw hR hb.2 (by first | decide | omega)
      rw [hb1] at hcell
      have hsz : (arrV (gA G 2) (shp w S a).2 (fun j => rep G (mkv (arC 2) (rdv w S a j)))).slots.size = (shp w S a).2 := arrV_size _ _ _
      show W p l e R s m args below meth c _ _ _ _ _ (F0 m pc lsC (.int (Int32.ofInt x) :: .int (Int32.ofInt i) :: rf G a :: r.map (rep G)))
      rw [rf_own h15]
      refine W.iast hc.1 hc.2.1 hcell ((hc.2.2.2.2.2.1.2.2.1 2 (by decide)).1 _ _) (fun q => by cases q) (inI v1 hi.1 hi.2 (by rw [hsz]; exact Nat.le_refl _)) rfl rfl hd (fun H' e1 e2 e3 => ?_)
      rw [clampI v1 hi.1] at e1 ⊢
      exact h1.2 H' _ lsC (Rel.ast hw hR (t := 2) (n := (shp w S a).2) (by rw [← hb1]) (by decide) hb.2 v0 e2 e3 e1) (hS.put e2 e3 (gad_A h15)) hL hv hn hs
    · cases h
  · cases h
theorem s_astL (hc : CX G p s m meth c mi) (hw : OKW G w) (hd : decode (byo mi) pc = .ok (.lastore, 1)) (h : astL w ls st S k = some F) (hk : ∀ ls' st' S', k ls' st' S' = some F → PP p l e R s m args below meth c G w mi Q n0 s0 SF (pc + 1) ls' st' S') : PP p l e R s m args below meth c G w mi Q n0 s0 SF pc ls st S := by
  unfold astL at h
  split at h
  · rename_i x i a r
    obtain ⟨hb, h⟩ := gd_some h
    rw [Bool.and_eq_true] at hb
    have hb1 := Nat.eq_of_beq_eq_true hb.1
    split at h
    · rename_i hi
      have h1 := hk _ _ _ h
      refine ⟨h1.1, fun H locs lsC hR hS hL hv hn hs => ?_⟩
      obtain ⟨v0, hv⟩ := ok_cons hv
      obtain ⟨v1, hv⟩ := ok_cons hv
      obtain ⟨-, hv⟩ := ok_cons hv
      obtain ⟨h15, hcell⟩ := own_arr hw hR hb.2 (by first | decide | omega)
      rw [hb1] at hcell
      have hsz : (arrV (gA G 3) (shp w S a).2 (fun j => rep G (mkv (arC 3) (rdv w S a j)))).slots.size = (shp w S a).2 := arrV_size _ _ _
      show W p l e R s m args below meth c _ _ _ _ _ (F0 m pc lsC (.long (Int64.ofInt x) :: .int (Int32.ofInt i) :: rf G a :: r.map (rep G)))
      rw [rf_own h15]
      refine W.last hc.1 hc.2.1 hcell ((hc.2.2.2.2.2.1.2.2.1 3 (by decide)).1 _ _) (fun q => by cases q) (inI v1 hi.1 hi.2 (by rw [hsz]; exact Nat.le_refl _)) rfl rfl hd (fun H' e1 e2 e3 => ?_)
      rw [clampI v1 hi.1] at e1 ⊢
      exact h1.2 H' _ lsC (Rel.ast hw hR (t := 3) (n := (shp w S a).2) (by rw [← hb1]) (by decide) hb.2 v0 e2 e3 e1) (hS.put e2 e3 (gad_A h15)) hL hv hn hs
    · cases h
  · cases h
theorem s_astB (hc : CX G p s m meth c mi) (hw : OKW G w) (hd : decode (byo mi) pc = .ok (.bastore, 1)) (h : astB w ls st S k = some F) (hk : ∀ ls' st' S', k ls' st' S' = some F → PP p l e R s m args below meth c G w mi Q n0 s0 SF (pc + 1) ls' st' S') : PP p l e R s m args below meth c G w mi Q n0 s0 SF pc ls st S := by
  unfold astB at h
  split at h
  · rename_i x i a r
    obtain ⟨hb, h⟩ := gd_some h
    rw [Bool.and_eq_true] at hb
    have hb1 := Nat.le_of_ble_eq_true hb.1
    split at h
    · rename_i hi
      split at h
      · rename_i q0
        have h1 := hk _ _ _ h
        refine ⟨h1.1, fun H locs lsC hR hS hL hv hn hs => ?_⟩
        obtain ⟨v0, hv⟩ := ok_cons hv
        obtain ⟨v1, hv⟩ := ok_cons hv
        obtain ⟨-, hv⟩ := ok_cons hv
        obtain ⟨h15, hcell⟩ := own_arr hw hR hb.2 (by first | decide | omega)
        rw [q0] at hcell
        have hsz : (arrV (gA G 0) (shp w S a).2 (fun j => rep G (mkv (arC 0) (rdv w S a j)))).slots.size = (shp w S a).2 := arrV_size _ _ _
        show W p l e R s m args below meth c _ _ _ _ _ (F0 m pc lsC (.int (Int32.ofInt x) :: .int (Int32.ofInt i) :: rf G a :: r.map (rep G)))
        rw [rf_own h15]
        refine W.bast hc.1 hc.2.1 hcell ((hc.2.2.2.2.2.1.2.2.1 0 (by decide)).1 _ _) (fun q => by cases q) (inI v1 hi.1 hi.2 (by rw [hsz]; exact Nat.le_refl _)) rfl rfl hd (fun H' e1 e2 e3 => ?_)
        rw [clampI v1 hi.1, narrow_byte, ofi_i2b v0] at e1
        rw [clampI v1 hi.1]
        exact h1.2 H' _ lsC (Rel.ast hw hR (t := 0) (n := (shp w S a).2) (by rw [← q0]) (by decide) hb.2 (w8_r x) e2 e3 e1) (hS.put e2 e3 (gad_A h15)) hL hv hn hs
      · rename_i q0
        split at h
        · rename_i hz
          have q2 : (shp w S a).1 ≠ 0 := fun z => q0 z
          have q1 : (shp w S a).1 = 1 := by omega
          have h1 := hk _ _ _ h
          refine ⟨h1.1, fun H locs lsC hR hS hL hv hn hs => ?_⟩
          obtain ⟨v0, hv⟩ := ok_cons hv
          obtain ⟨v1, hv⟩ := ok_cons hv
          obtain ⟨-, hv⟩ := ok_cons hv
          obtain ⟨h15, hcell⟩ := own_arr hw hR hb.2 (by first | decide | omega)
          rw [q1] at hcell
          have hsz : (arrV (gA G 1) (shp w S a).2 (fun j => rep G (mkv (arC 1) (rdv w S a j)))).slots.size = (shp w S a).2 := arrV_size _ _ _
          show W p l e R s m args below meth c _ _ _ _ _ (F0 m pc lsC (.int (Int32.ofInt x) :: .int (Int32.ofInt i) :: rf G a :: r.map (rep G)))
          rw [rf_own h15]
          refine W.zast hc.1 hc.2.1 hcell ((hc.2.2.2.2.2.1.2.2.1 1 (by decide)).1 _ _) (fun q => by cases q) (inI v1 hi.1 hi.2 (by rw [hsz]; exact Nat.le_refl _)) rfl rfl hd (fun H' e1 e2 e3 => ?_)
          have hnar : narrow .boolean (.int (Int32.ofInt x)) = .int (Int32.ofInt x) := by
            rcases hz with rfl | rfl
            · exact narrow_b0
            · exact narrow_b1
          rw [clampI v1 hi.1, hnar] at e1
          rw [clampI v1 hi.1]
          exact h1.2 H' _ lsC (Rel.ast hw hR (t := 1) (n := (shp w S a).2) (by rw [← q1]) (by decide) hb.2 hz e2 e3 e1) (hS.put e2 e3 (gad_A h15)) hL hv hn hs
        · cases h
    · cases h
  · cases h
theorem s_astA (hc : CX G p s m meth c mi) (hw : OKW G w) (hd : decode (byo mi) pc = .ok (.aastore, 1)) (h : astA w ls st S k = some F) (hk : ∀ ls' st' S', k ls' st' S' = some F → PP p l e R s m args below meth c G w mi Q n0 s0 SF (pc + 1) ls' st' S') : PP p l e R s m args below meth c G w mi Q n0 s0 SF pc ls st S := by
  unfold astA at h
  split at h
  · rename_i x i a r
    obtain ⟨hb, h⟩ := gd_some h
    simp only [Bool.and_eq_true] at hb
    obtain ⟨⟨⟨b1, b2⟩, b3⟩, b4⟩ := hb
    have b1 := Nat.le_of_ble_eq_true b1
    have b2 := Nat.le_of_ble_eq_true b2
    have b4 := Nat.eq_of_beq_eq_true b4
    split at h
    · rename_i hi
      have h1 := hk _ _ _ h
      refine ⟨h1.1, fun H locs lsC hR hS hL hv hn hs => ?_⟩
      obtain ⟨v0, hv⟩ := ok_cons hv
      obtain ⟨v1, hv⟩ := ok_cons hv
      obtain ⟨-, hv⟩ := ok_cons hv
      obtain ⟨h15, hcell⟩ := own_arr hw hR b3 (by first | decide | omega)
      have main : ∀ t ci : Nat, (shp w S a).1 = t → t < 7 → ci < 13 → ety t = .object (cnm ci) → elC t = 10 + ci → arC t = 2 → W p l e R s m args below meth c H locs (S.1.1 - n0) (S.1.2.1 - s0) Q (F0 m pc lsC (rf G x :: .int (Int32.ofInt i) :: rf G a :: r.map (rep G))) := by
        intro t ci ht ht7 hci hety hel harc
        rw [ht] at hcell b4
        rw [hel] at b4
        obtain ⟨x15, hob, -⟩ := obj_at hw hR hci b4
        obtain ⟨cv, g1, g2, g3, -⟩ := hob
        have hcls := (hc.2.2.2.2.2.1.2.1 ci hci).2
        have hRA := (hc.2.2.2.2.2.1.2.2.1 t ht7).2
        rw [hety] at hRA
        obtain ⟨kA, comp, k1, k2, k3, -⟩ := hRA
        have hcomp : comp = gC G ci := Option.some.inj (k3.symm.trans hcls.1)
        subst hcomp
        obtain ⟨kC, hkC, -⟩ := hcls.2
        have hsz : (arrV (gA G t) (shp w S a).2 (fun j => rep G (mkv (arC t) (rdv w S a j)))).slots.size = (shp w S a).2 := arrV_size _ _ _
        have hin := inI v1 hi.1 hi.2 (Nat.le_refl (shp w S a).2)
        rw [rf_own h15, rf_own x15]
        refine W.aast hc.1 hc.2.1 hcell (fun q h => by cases h) (fun h => by cases h) k1 k2 rfl hkC ⟨fun q => hin (Or.inl q), by rw [hsz, clampI v1 hi.1]; omega⟩ g1 (fun q h => by rw [g3] at h; cases h) (by rw [g2]; exact hkC) (by rw [g2]; exact va_assign hcls) rfl rfl hd (fun H' e1 e2 e3 => ?_)
        rw [clampI v1 hi.1] at e1 ⊢
        refine h1.2 H' _ lsC (Rel.ast hw hR (t := t) (n := (shp w S a).2) (by rw [← ht]) ht7 b3 (v := (x : Int)) (by rw [harc]; show (0 : Int) ≤ _; omega) e2 e3 ?_) (hS.put e2 e3 (gad_A h15)) hL hv hn hs
        rw [e1, harc]
        congr 2
        show _ = rf G (Int.toNat (x : Int))
        rw [Int.toNat_natCast, rf_own x15]
      rcases (show (shp w S a).1 = 4 ∨ (shp w S a).1 = 5 ∨ (shp w S a).1 = 6 by omega) with q | q | q
      · exact main 4 9 q (by decide) (by decide) (by decide +kernel) rfl rfl
      · exact main 5 1 q (by decide) (by decide) (by decide +kernel) rfl rfl
      · exact main 6 2 q (by decide) (by decide) (by decide +kernel) rfl rfl
    · cases h
  · cases h
end SND
