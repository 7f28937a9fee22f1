/-! close: one step of each loop -/
section
variable {L : Nat} {xs : Nat → Int} {d : Nat} {S J T U W A : AH}
theorem min_pos {q : Int} : 0 < min q 1000000000 ↔ 0 < q := by omega
theorem i32_min {q : Int} (h : 0 < q) : i32 (min q 1000000000) = min q 1000000000 := by
  unfold i32
  exact w32e (by first | decide | omega) (by first | decide | omega)
theorem i32_c1 {q : Int} (h : 0 < q) (h2 : q < 1000000000) : i32 q = min q 1000000000 := by
  unfold i32
  rw [w32e (by first | decide | omega) (by first | decide | omega)]
  omega
theorem i32_c2 {q : Int} (h2 : ¬ q < 1000000000) : i32 1000000000 = min q 1000000000 := by
  rw [show i32 1000000000 = 1000000000 by decide]
  omega
/-- the class's step -/
theorem x_clS (H : Inv J) (p : XR J T) {v n0 k : Nat} (hv : v < n0) (hn0 : (n0 : Int) ≤ J.2 72 40) (hk : k ≤ v) {y pt : Int} (hy : 0 ≤ y ∧ y < 9) :
    (¬ (cyP J.2 v y pt ∧ J.2 72 40 < 80) → LQ (WK L xs) (ev (WK L xs) 199) 62 65 [some (vr 15), some (vi y), some (vi pt), some (vi (n0 : Int)), some (vi (k : Int)), some (vi (v : Int)), none, none, none] [] T = LQ (WK L xs) (ev (WK L xs) 199) 62 65 [some (vr 15), some (vi y), some (vi pt), some (vi (n0 : Int)), some (vi (k : Int)), some (vi ((v + 1 : Nat) : Int)), none, none, none] [] T) ∧
    (∀ n : Nat, J.2 72 40 = n → n < 80 → cyP J.2 v y pt → ∃ T', LQ (WK L xs) (ev (WK L xs) 199) 62 65 [some (vr 15), some (vi y), some (vi pt), some (vi (n0 : Int)), some (vi (k : Int)), some (vi (v : Int)), none, none, none] [] T = LQ (WK L xs) (ev (WK L xs) 199) 62 65 [some (vr 15), some (vi y), some (vi pt), some (vi (n0 : Int)), some (vi ((k + 1 : Nat) : Int)), some (vi ((v + 1 : Nat) : Int)), none, none, none] [] T' ∧ XR (cyJ J n v y pt) T' ∧ T'.2 15 = T.2 15 ∧ ∀ a, (72 ≤ a ∧ a < 151) ∨ a = 35 → T'.2 a = T.2 a) := by
  have gv := H.gv
  have h80 := gv.1.1
  have hvl : (v : Int) < J.2 72 40 := by omega
  obtain ⟨a1, a2, a3, a4, a5, a6, a7, a8, a9, a10, -⟩ := gv.2.2.2.1 v hvl
  have b1 : isO T (auA J v) 11 14 := a1.eq p.1
  have h5 := a1.1
  have n0' : ¬ auA J v = 0 := by omega
  have T36 := p.lo (a := 36) (by decide) (by decide) (by decide)
  have hau : ev (WK L xs) 199 168 [vr 36, vi (v : Int)] T = some ((auA J v : Int), T) := by
    rw [q_168, T36, gv.2.1, if_neg (by first | decide | omega), if_pos hvl, if_pos (by first | decide | omega), Int.toNat_natCast, p.lo (a := 37) (by decide) (by decide) (by decide)]
    rfl
  have r0 : ∀ k, rdv (WK L xs) T (auA J v) k = J.2 (auA J v) k := fun k => by rw [rdvD h5, p.hi h5]
  have go := q_62_65 L xs 199 T y pt (n0 : Int) (k : Int) (v : Int)
  rw [if_pos (show (v : Int) < (n0 : Int) by omega), hau, bR, Int.toNat_natCast, if_neg n0', g14a b1, wj (j := v) (by first | decide | omega), wj (j := k) (by first | decide | omega)] at go
  simp only [k11 b1, r0, a3, a6, a10] at go
  by_cases c1 : J.2 97 v = 2
  rotate_left
  · rw [if_neg c1] at go
    exact ⟨fun _ => go, fun n _ _ z => absurd z.1 c1⟩
  rw [if_pos c1] at go
  by_cases c2 : J.2 100 v = y
  rotate_left
  · rw [if_neg c2] at go
    exact ⟨fun _ => go, fun n _ _ z => absurd z.2.1 c2⟩
  rw [if_pos c2] at go
  by_cases c3 : J.2 101 v = -1
  rotate_left
  · rw [if_neg c3] at go
    exact ⟨fun _ => go, fun n _ _ z => absurd z.2.2.1 c3⟩
  rw [if_pos c3, show ev (WK L xs) 199 19 [vr 15, vi (v : Int), vr (auA J v), vi y] T = _ from x_leftT (L := L) (xs := xs) (d := 194) H p hvl c1 ⟨hy.1, by omega⟩, bR, show ldiv (w64 (lft J.2 v y * pt)) 100 = cyV J.2 v y pt from rfl] at go
  simp only [lc_gt, min_pos] at go
  by_cases c4 : 0 < cyV J.2 v y pt
  rotate_left
  · rw [if_neg c4] at go
    exact ⟨fun _ => go, fun n _ _ z => absurd z.2.2.2 c4⟩
  rw [if_pos c4, q_166, T36, gv.2.1] at go
  by_cases c5 : J.2 72 40 < 80
  rotate_left
  · rw [if_neg c5, bR, if_neg (by decide)] at go
    exact ⟨fun _ => go, fun n e h _ => absurd (show J.2 72 40 < 80 by omega) c5⟩
  refine ⟨fun z => absurd ⟨⟨c1, c2, c3, c4⟩, c5⟩ z, fun n hn hn80 _ => ?_⟩
  obtain ⟨T', t1, t2, t3, t4⟩ := x_cyJ (L := L) (xs := xs) (d := 197) H p hn hn80 (show v < n by omega) (y := y) (pt := pt) hy
  rw [if_pos c5, bR, if_pos rfl, i32_min c4] at go
  exact ⟨T', go.trans (t1 _), t2, t3, t4⟩
/-- the reference's step -/
theorem m_clS (H : Inv J) (p : MR J W) {v n0 k : Nat} (hv : v < n0) (hn0 : (n0 : Int) ≤ J.2 72 40) (hk : k ≤ v) {y pt : Int} (hy : 0 ≤ y ∧ y < 9) :
    (J.2 72 40 < 80 → ¬ cyP J.2 v y pt → LQ (WK L xs) (ev (WK L xs) 199) 311 47 [some (vr 72), some (vi y), some (vi pt), some (vi (n0 : Int)), some (vi (k : Int)), some (vi (v : Int)), none, none, none] [] W = LQ (WK L xs) (ev (WK L xs) 199) 311 47 [some (vr 72), some (vi y), some (vi pt), some (vi (n0 : Int)), some (vi (k : Int)), some (vi ((v + 1 : Nat) : Int)), none, none, none] [] W) ∧
    (∀ n : Nat, J.2 72 40 = n → n < 80 → cyP J.2 v y pt → ∃ W', LQ (WK L xs) (ev (WK L xs) 199) 311 47 [some (vr 72), some (vi y), some (vi pt), some (vi (n0 : Int)), some (vi (k : Int)), some (vi (v : Int)), none, none, none] [] W = LQ (WK L xs) (ev (WK L xs) 199) 311 47 [some (vr 72), some (vi y), some (vi pt), some (vi (n0 : Int)), some (vi ((k + 1 : Nat) : Int)), some (vi ((v + 1 : Nat) : Int)), none, none, none] [] W' ∧ MR (cyJ J n v y pt) W' ∧ W'.1 = W.1 ∧ ∀ a, a < 72 ∨ 151 ≤ a ∨ a = 96 → W'.2 a = W.2 a) ∧
    (¬ J.2 72 40 < 80 → LQ (WK L xs) (ev (WK L xs) 199) 311 47 [some (vr 72), some (vi y), some (vi pt), some (vi (n0 : Int)), some (vi (k : Int)), some (vi (v : Int)), none, none, none] [] W = some ((k : Int), wr W 72 106 (w32 (J.2 72 106 + 1)))) := by
  have gv := H.gv
  have h80 := gv.1.1
  have hvl : (v : Int) < J.2 72 40 := by omega
  have qv : (0 : Int) ≤ (v : Int) ∧ (v : Int) < 80 := by omega
  have W72 := p 72 (by decide) (by decide) (by decide)
  obtain ⟨rk, rv, rp⟩ := p.ref H
  have go := q_311_47 L xs 199 W y pt (n0 : Int) (k : Int) (v : Int)
  rw [if_pos (show (v : Int) < (n0 : Int) by omega), W72] at go
  by_cases c0 : J.2 72 40 < 80
  rotate_left
  · rw [if_neg c0] at go
    exact ⟨fun z => absurd z c0, fun n e h _ => absurd (show J.2 72 40 < 80 by omega) c0, fun _ => go⟩
  rw [if_pos c0, wj (j := v) (by first | decide | omega)] at go
  simp only [if_pos qv, Int.toNat_natCast, p 97 (by decide) (by decide) (by decide), p 100 (by decide) (by decide) (by decide), p 101 (by decide) (by decide) (by decide)] at go
  by_cases c1 : J.2 97 v = 2
  rotate_left
  · rw [if_neg c1] at go
    exact ⟨fun _ _ => go, fun n _ _ z => absurd z.1 c1, fun z => absurd c0 z⟩
  rw [if_pos c1] at go
  by_cases c2 : J.2 100 v = y
  rotate_left
  · rw [if_neg c2] at go
    exact ⟨fun _ _ => go, fun n _ _ z => absurd z.2.1 c2, fun z => absurd c0 z⟩
  rw [if_pos c2] at go
  by_cases c3 : J.2 101 v = -1
  rotate_left
  · rw [if_neg c3] at go
    exact ⟨fun _ _ => go, fun n _ _ z => absurd z.2.2.1 c3, fun z => absurd c0 z⟩
  have hl := m_leftOf (L := L) (xs := xs) (d := 195) rk rv rp (v := v) (by rw [W72]; exact hvl) y
  rw [p.lf] at hl
  rw [if_pos c3, show ev (WK L xs) 199 246 [vr 72, vi (v : Int), vi y] W = _ from hl, bR, show ldiv (w64 (lft J.2 v y * pt)) 100 = cyV J.2 v y pt from rfl] at go
  simp only [lc_gt, lc_lt, p 98 (by decide) (by decide) (by decide)] at go
  by_cases c4 : 0 < cyV J.2 v y pt
  rotate_left
  · rw [if_neg c4] at go
    exact ⟨fun _ _ => go, fun n _ _ z => absurd z.2.2.2 c4, fun z => absurd c0 z⟩
  rw [if_pos c4] at go
  refine ⟨fun _ z => absurd ⟨c1, c2, c3, c4⟩ z, fun n hn hn80 _ => ?_, fun z => absurd c0 z⟩
  have hvn : v < n := by omega
  obtain ⟨U, u1, u2, u3⟩ := m_mkC (L := L) (xs := xs) (d := 198) (W := W) (n := n) (v := v) (by rw [W72]; exact hn) hn80 hvn (J.2 98 v) (min (cyV J.2 v y pt) 1000000000) (y + 1)
  have hU : MR (cyJ J n v y pt) U := fun a q1 q2 q3 => by
    funext j
    rw [u3, cyJ_r ⟨q1, q2, q3⟩, adH_cg (p a q1 q2 q3), W72]
  have hUc : ∀ a, a < 72 ∨ 151 ≤ a ∨ a = 96 → U.2 a = W.2 a := fun a q => by
    funext j
    rw [u3, adH_o (by first | decide | omega) (by first | decide | omega) (by first | decide | omega)]
  have fin : ∀ t0 : Int, i32 t0 = min (cyV J.2 v y pt) 1000000000 → LQ (WK L xs) (ev (WK L xs) 199) 311 150 [some (vr 72), some (vi y), some (vi pt), some (vi (n0 : Int)), some (vi (k : Int)), some (vi (v : Int)), none, none, none] [vl t0, vi (J.2 98 v), vi 2, vr 72] W = LQ (WK L xs) (ev (WK L xs) 199) 311 47 [some (vr 72), some (vi y), some (vi pt), some (vi (n0 : Int)), some (vi ((k + 1 : Nat) : Int)), some (vi ((v + 1 : Nat) : Int)), none, none, none] [] U := fun t0 ht => by
    rw [q_311_150, ht, w32e (x := y + 1) (by first | decide | omega) (by first | decide | omega), wj (j := k) (by first | decide | omega), wj (j := v) (by first | decide | omega)]
    exact u1 _
  refine ⟨U, ?_, hU, u2, hUc⟩
  by_cases c6 : cyV J.2 v y pt < 1000000000
  · rw [if_pos c6] at go
    exact go.trans (fin _ (i32_c1 c4 c6))
  · rw [if_neg c6] at go
    exact go.trans (fin _ (i32_c2 c6))
/-- the class's loop, once it is full -/
theorem x_clF (H : Inv J) (p : XR J T) (h80 : ¬ J.2 72 40 < 80) {n0 k : Nat} (hn0 : (n0 : Int) ≤ J.2 72 40) {y pt : Int} (hy : 0 ≤ y ∧ y < 9) : ∀ (m v : Nat), v + m = n0 → k ≤ v → LQ (WK L xs) (ev (WK L xs) 199) 62 65 [some (vr 15), some (vi y), some (vi pt), some (vi (n0 : Int)), some (vi (k : Int)), some (vi (v : Int)), none, none, none] [] T = some ((k : Int), T) := by
  intro m
  induction m with
  | zero =>
    intro v hv _
    rw [q_62_65, if_neg (by first | decide | omega)]
  | succ m ih =>
    intro v hv hk
    exact ((x_clS (L := L) (xs := xs) H p (v := v) (n0 := n0) (k := k) (by first | decide | omega) hn0 hk hy (pt := pt)).1 (fun z => h80 z.2)).trans (ih (v + 1) (by first | decide | omega) (by first | decide | omega))
end
