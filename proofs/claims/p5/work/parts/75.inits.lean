/-! the constructors of what is made between calls -/
theorem zc_70 : csOf 70 = cs_70 := rfl
theorem zr_70 : rtOf 70 = 9 := rfl
theorem zm_70 : mlOf 70 = 8 := rfl
set_option maxRecDepth 100000 in
set_option maxHeartbeats 4000000 in
/-- SupplyBook$Authority.<init>(IIIIILSupplyBook$Text;I)V -/
theorem q_70 (L : Nat) (xs : Nat → Int) (d : Nat) (S : AH) (o : Nat) (p1 : Int) (p2 : Int) (p3 : Int) (p4 : Int) (p5 : Int) (p6 : Nat) (p7 : Int) : ev (WK L xs) (d + 1) 70 [vr o, vi p1, vi p2, vi p3, vi p4, vi p5, vr p6, vi p7] S = (gd (Nat.beq (shp (WK L xs) S o).1 11 && Nat.ble 0 8) (gd (Nat.beq (shp (WK L xs) S o).1 11 && wok (WK L xs) o 7) (gd (Nat.beq (shp (WK L xs) (wr S o 7 (-1 : Int)) o).1 11 && wok (WK L xs) o 8) (gd (Nat.beq (shp (WK L xs) (wr (wr S o 7 (-1 : Int)) o 8 (-1 : Int)) o).1 11 && wok (WK L xs) o 9) (gd (Nat.beq (shp (WK L xs) (wr (wr (wr S o 7 (-1 : Int)) o 8 (-1 : Int)) o 9 (-1 : Int)) o).1 11 && wok (WK L xs) o 10) (gd (Nat.beq (shp (WK L xs) (wr (wr (wr (wr S o 7 (-1 : Int)) o 8 (-1 : Int)) o 9 (-1 : Int)) o 10 (0 : Int)) o).1 11 && wok (WK L xs) o 11) (gd (Nat.beq (shp (WK L xs) (wr (wr (wr (wr (wr S o 7 (-1 : Int)) o 8 (-1 : Int)) o 9 (-1 : Int)) o 10 (0 : Int)) o 11 (0 : Int)) o).1 11 && wok (WK L xs) o 12) (gd (Nat.beq (shp (WK L xs) (nw (wr (wr (wr (wr (wr (wr S o 7 (-1 : Int)) o 8 (-1 : Int)) o 9 (-1 : Int)) o 10 (0 : Int)) o 11 (0 : Int)) o 12 (0 : Int)) 3 10) o).1 11 && wok (WK L xs) o 13) (gd (Nat.beq (shp (WK L xs) (wr (nw (wr (wr (wr (wr (wr (wr S o 7 (-1 : Int)) o 8 (-1 : Int)) o 9 (-1 : Int)) o 10 (0 : Int)) o 11 (0 : Int)) o 12 (0 : Int)) 3 10) o 13 ((wr (wr (wr (wr (wr (wr S o 7 (-1 : Int)) o 8 (-1 : Int)) o 9 (-1 : Int)) o 10 (0 : Int)) o 11 (0 : Int)) o 12 (0 : Int)).1.1 : Int)) o).1 11 && wok (WK L xs) o 0) (gd (Nat.beq (shp (WK L xs) (wr (wr (nw (wr (wr (wr (wr (wr (wr S o 7 (-1 : Int)) o 8 (-1 : Int)) o 9 (-1 : Int)) o 10 (0 : Int)) o 11 (0 : Int)) o 12 (0 : Int)) 3 10) o 13 ((wr (wr (wr (wr (wr (wr S o 7 (-1 : Int)) o 8 (-1 : Int)) o 9 (-1 : Int)) o 10 (0 : Int)) o 11 (0 : Int)) o 12 (0 : Int)).1.1 : Int)) o 0 p1) o).1 11 && wok (WK L xs) o 1) (gd (Nat.beq (shp (WK L xs) (wr (wr (wr (nw (wr (wr (wr (wr (wr (wr S o 7 (-1 : Int)) o 8 (-1 : Int)) o 9 (-1 : Int)) o 10 (0 : Int)) o 11 (0 : Int)) o 12 (0 : Int)) 3 10) o 13 ((wr (wr (wr (wr (wr (wr S o 7 (-1 : Int)) o 8 (-1 : Int)) o 9 (-1 : Int)) o 10 (0 : Int)) o 11 (0 : Int)) o 12 (0 : Int)).1.1 : Int)) o 0 p1) o 1 p2) o).1 11 && wok (WK L xs) o 2) (gd (Nat.beq (shp (WK L xs) (wr (wr (wr (wr (nw (wr (wr (wr (wr (wr (wr S o 7 (-1 : Int)) o 8 (-1 : Int)) o 9 (-1 : Int)) o 10 (0 : Int)) o 11 (0 : Int)) o 12 (0 : Int)) 3 10) o 13 ((wr (wr (wr (wr (wr (wr S o 7 (-1 : Int)) o 8 (-1 : Int)) o 9 (-1 : Int)) o 10 (0 : Int)) o 11 (0 : Int)) o 12 (0 : Int)).1.1 : Int)) o 0 p1) o 1 p2) o 2 p3) o).1 11 && wok (WK L xs) o 3) (gd (Nat.beq (shp (WK L xs) (wr (wr (wr (wr (wr (nw (wr (wr (wr (wr (wr (wr S o 7 (-1 : Int)) o 8 (-1 : Int)) o 9 (-1 : Int)) o 10 (0 : Int)) o 11 (0 : Int)) o 12 (0 : Int)) 3 10) o 13 ((wr (wr (wr (wr (wr (wr S o 7 (-1 : Int)) o 8 (-1 : Int)) o 9 (-1 : Int)) o 10 (0 : Int)) o 11 (0 : Int)) o 12 (0 : Int)).1.1 : Int)) o 0 p1) o 1 p2) o 2 p3) o 3 p4) o).1 11 && wok (WK L xs) o 4) (gd (Nat.beq (shp (WK L xs) (wr (wr (wr (wr (wr (wr (nw (wr (wr (wr (wr (wr (wr S o 7 (-1 : Int)) o 8 (-1 : Int)) o 9 (-1 : Int)) o 10 (0 : Int)) o 11 (0 : Int)) o 12 (0 : Int)) 3 10) o 13 ((wr (wr (wr (wr (wr (wr S o 7 (-1 : Int)) o 8 (-1 : Int)) o 9 (-1 : Int)) o 10 (0 : Int)) o 11 (0 : Int)) o 12 (0 : Int)).1.1 : Int)) o 0 p1) o 1 p2) o 2 p3) o 3 p4) o 4 p5) o).1 11 && wok (WK L xs) o 5) (gd (Nat.beq (shp (WK L xs) (wr (wr (wr (wr (wr (wr (wr (nw (wr (wr (wr (wr (wr (wr S o 7 (-1 : Int)) o 8 (-1 : Int)) o 9 (-1 : Int)) o 10 (0 : Int)) o 11 (0 : Int)) o 12 (0 : Int)) 3 10) o 13 ((wr (wr (wr (wr (wr (wr S o 7 (-1 : Int)) o 8 (-1 : Int)) o 9 (-1 : Int)) o 10 (0 : Int)) o 11 (0 : Int)) o 12 (0 : Int)).1.1 : Int)) o 0 p1) o 1 p2) o 2 p3) o 3 p4) o 4 p5) o 5 (p6 : Int)) o).1 11 && wok (WK L xs) o 6) (some (0, (wr (wr (wr (wr (wr (wr (wr (wr (nw (wr (wr (wr (wr (wr (wr S o 7 (-1 : Int)) o 8 (-1 : Int)) o 9 (-1 : Int)) o 10 (0 : Int)) o 11 (0 : Int)) o 12 (0 : Int)) 3 10) o 13 ((wr (wr (wr (wr (wr (wr S o 7 (-1 : Int)) o 8 (-1 : Int)) o 9 (-1 : Int)) o 10 (0 : Int)) o 11 (0 : Int)) o 12 (0 : Int)).1.1 : Int)) o 0 p1) o 1 p2) o 2 p3) o 3 p4) o 4 p5) o 5 (p6 : Int)) o 6 p7)))))))))))))))))) := by rw [ev_eq, zc_70, zr_70, zm_70]; rfl
theorem zc_77 : csOf 77 = cs_77 := rfl
theorem zr_77 : rtOf 77 = 9 := rfl
theorem zm_77 : mlOf 77 = 7 := rfl
set_option maxRecDepth 100000 in
set_option maxHeartbeats 4000000 in
/-- SupplyBook$Claim.<init>(IIIIIZ)V -/
theorem q_77 (L : Nat) (xs : Nat → Int) (d : Nat) (S : AH) (o : Nat) (p1 : Int) (p2 : Int) (p3 : Int) (p4 : Int) (p5 : Int) (p6 : Int) : ev (WK L xs) (d + 1) 77 [vr o, vi p1, vi p2, vi p3, vi p4, vi p5, vi p6] S = (gd (Nat.beq (shp (WK L xs) S o).1 12 && Nat.ble 0 8) (gd (Nat.beq (shp (WK L xs) S o).1 12 && wok (WK L xs) o 6) (gd (Nat.beq (shp (WK L xs) (wr S o 6 (0 : Int)) o).1 12 && wok (WK L xs) o 7) (gd (Nat.beq (shp (WK L xs) (wr (wr S o 6 (0 : Int)) o 7 (-1 : Int)) o).1 12 && wok (WK L xs) o 8) (gd (Nat.beq (shp (WK L xs) (wr (wr (wr S o 6 (0 : Int)) o 7 (-1 : Int)) o 8 (-1 : Int)) o).1 12 && wok (WK L xs) o 9) (gd (Nat.beq (shp (WK L xs) (wr (wr (wr (wr S o 6 (0 : Int)) o 7 (-1 : Int)) o 8 (-1 : Int)) o 9 (-1 : Int)) o).1 12 && wok (WK L xs) o 10) (gd (Nat.beq (shp (WK L xs) (wr (wr (wr (wr (wr S o 6 (0 : Int)) o 7 (-1 : Int)) o 8 (-1 : Int)) o 9 (-1 : Int)) o 10 (0 : Int)) o).1 12 && wok (WK L xs) o 11) (gd (Nat.beq (shp (WK L xs) (wr (wr (wr (wr (wr (wr S o 6 (0 : Int)) o 7 (-1 : Int)) o 8 (-1 : Int)) o 9 (-1 : Int)) o 10 (0 : Int)) o 11 (0 : Int)) o).1 12 && wok (WK L xs) o 12) (gd (Nat.beq (shp (WK L xs) (wr (wr (wr (wr (wr (wr (wr S o 6 (0 : Int)) o 7 (-1 : Int)) o 8 (-1 : Int)) o 9 (-1 : Int)) o 10 (0 : Int)) o 11 (0 : Int)) o 12 (0 : Int)) o).1 12 && wok (WK L xs) o 13) (gd (Nat.beq (shp (WK L xs) (wr (wr (wr (wr (wr (wr (wr (wr S o 6 (0 : Int)) o 7 (-1 : Int)) o 8 (-1 : Int)) o 9 (-1 : Int)) o 10 (0 : Int)) o 11 (0 : Int)) o 12 (0 : Int)) o 13 (-1 : Int)) o).1 12 && wok (WK L xs) o 14) (gd (Nat.beq (shp (WK L xs) (wr (wr (wr (wr (wr (wr (wr (wr (wr S o 6 (0 : Int)) o 7 (-1 : Int)) o 8 (-1 : Int)) o 9 (-1 : Int)) o 10 (0 : Int)) o 11 (0 : Int)) o 12 (0 : Int)) o 13 (-1 : Int)) o 14 (0 : Int)) o).1 12 && wok (WK L xs) o 0) (gd (Nat.beq (shp (WK L xs) (wr (wr (wr (wr (wr (wr (wr (wr (wr (wr S o 6 (0 : Int)) o 7 (-1 : Int)) o 8 (-1 : Int)) o 9 (-1 : Int)) o 10 (0 : Int)) o 11 (0 : Int)) o 12 (0 : Int)) o 13 (-1 : Int)) o 14 (0 : Int)) o 0 p1) o).1 12 && wok (WK L xs) o 1) (gd (Nat.beq (shp (WK L xs) (wr (wr (wr (wr (wr (wr (wr (wr (wr (wr (wr S o 6 (0 : Int)) o 7 (-1 : Int)) o 8 (-1 : Int)) o 9 (-1 : Int)) o 10 (0 : Int)) o 11 (0 : Int)) o 12 (0 : Int)) o 13 (-1 : Int)) o 14 (0 : Int)) o 0 p1) o 1 p2) o).1 12 && wok (WK L xs) o 2) (gd (Nat.beq (shp (WK L xs) (wr (wr (wr (wr (wr (wr (wr (wr (wr (wr (wr (wr S o 6 (0 : Int)) o 7 (-1 : Int)) o 8 (-1 : Int)) o 9 (-1 : Int)) o 10 (0 : Int)) o 11 (0 : Int)) o 12 (0 : Int)) o 13 (-1 : Int)) o 14 (0 : Int)) o 0 p1) o 1 p2) o 2 p3) o).1 12 && wok (WK L xs) o 3) (gd (Nat.beq (shp (WK L xs) (wr (wr (wr (wr (wr (wr (wr (wr (wr (wr (wr (wr (wr S o 6 (0 : Int)) o 7 (-1 : Int)) o 8 (-1 : Int)) o 9 (-1 : Int)) o 10 (0 : Int)) o 11 (0 : Int)) o 12 (0 : Int)) o 13 (-1 : Int)) o 14 (0 : Int)) o 0 p1) o 1 p2) o 2 p3) o 3 p4) o).1 12 && wok (WK L xs) o 4) (gd (Nat.beq (shp (WK L xs) (wr (wr (wr (wr (wr (wr (wr (wr (wr (wr (wr (wr (wr (wr S o 6 (0 : Int)) o 7 (-1 : Int)) o 8 (-1 : Int)) o 9 (-1 : Int)) o 10 (0 : Int)) o 11 (0 : Int)) o 12 (0 : Int)) o 13 (-1 : Int)) o 14 (0 : Int)) o 0 p1) o 1 p2) o 2 p3) o 3 p4) o 4 p5) o).1 12 && wok (WK L xs) o 5) (if p6 = 0 ∨ p6 = 1 then (some (0, (wr (wr (wr (wr (wr (wr (wr (wr (wr (wr (wr (wr (wr (wr (wr S o 6 (0 : Int)) o 7 (-1 : Int)) o 8 (-1 : Int)) o 9 (-1 : Int)) o 10 (0 : Int)) o 11 (0 : Int)) o 12 (0 : Int)) o 13 (-1 : Int)) o 14 (0 : Int)) o 0 p1) o 1 p2) o 2 p3) o 3 p4) o 4 p5) o 5 p6))) else none))))))))))))))))) := by rw [ev_eq, zc_77, zr_77, zm_77]; rfl
theorem zc_160 : csOf 160 = cs_160 := rfl
theorem zr_160 : rtOf 160 = 9 := rfl
theorem zm_160 : mlOf 160 = 4 := rfl
set_option maxRecDepth 100000 in
set_option maxHeartbeats 4000000 in
/-- SupplyBook$Text.<init>([B[I[I)V -/
theorem q_160 (L : Nat) (xs : Nat → Int) (d : Nat) (S : AH) (o : Nat) (p1 : Nat) (p2 : Nat) (p3 : Nat) : ev (WK L xs) (d + 1) 160 [vr o, vr p1, vr p2, vr p3] S = (gd (Nat.beq (shp (WK L xs) S o).1 19 && Nat.ble 0 8) (gd (Nat.beq (shp (WK L xs) S o).1 19 && wok (WK L xs) o 0) (gd (Nat.beq (shp (WK L xs) (wr S o 0 (p1 : Int)) o).1 19 && wok (WK L xs) o 1) (gd (Nat.beq (shp (WK L xs) (wr (wr S o 0 (p1 : Int)) o 1 (p2 : Int)) o).1 19 && wok (WK L xs) o 2) (some (0, (wr (wr (wr S o 0 (p1 : Int)) o 1 (p2 : Int)) o 2 (p3 : Int)))))))) := by rw [ev_eq, zc_160, zr_160, zm_160]; rfl
section
variable {L : Nat} {xs : Nat → Int} {d : Nat} {S : AH}
theorem gd_go {b : Bool} {r z : Rs} (h : b = true) (h2 : r = z) : gd b r = z := by
  rw [h]
  exact h2
theorem gt_w {X : AH} {o t n k : Nat} (h : 151 ≤ o) (hs : X.1.2.2 o = (t, n)) : (Nat.beq (shp (WK L xs) X o).1 t && wok (WK L xs) o k) = true := by
  rw [shpD h, hs, wokD h]
  simp
theorem gt_0 {X : AH} {o t n : Nat} (h : 151 ≤ o) (hs : X.1.2.2 o = (t, n)) : (Nat.beq (shp (WK L xs) X o).1 t && Nat.ble 0 8) = true := by
  rw [shpD h, hs]
  simp
theorem nw_s {t n b : Nat} : (nw S t n).1.2.2 b = if b = S.1.1 then (t, n) else S.1.2.2 b := rfl
theorem nw_2 {t n b k : Nat} : (nw S t n).2 b k = if b = S.1.1 then 0 else S.2 b k := by
  show (if b = S.1.1 then (fun _ => 0) else S.2 b) k = _
  by_cases e : b = S.1.1
  · rw [if_pos e, if_pos e]
  · rw [if_neg e, if_neg e]
/-- a new authority's fields -/
noncomputable def auF (k hd s y td : Int) (tx : Nat) (bs : Int) (sp : Nat) : Nat → Int := fun j => match j with
  | 0 => k
  | 1 => hd
  | 2 => s
  | 3 => y
  | 4 => td
  | 5 => tx
  | 6 => bs
  | 7 => -1
  | 8 => -1
  | 9 => -1
  | 13 => sp
  | _ => 0
/-- the state with a new authority behind it, not yet in the list -/
noncomputable def auS (S : AH) (k hd s y td : Int) (tx : Nat) (bs : Int) : AH := ((S.1.1 + 1 + 1, S.1.2.1 + 14 + 10, fun b => if b = S.1.1 + 1 then (3, 10) else if b = S.1.1 then (11, 14) else S.1.2.2 b), fun b => if b = S.1.1 then auF k hd s y td tx bs (S.1.1 + 1) else if b = S.1.1 + 1 then fun _ => 0 else S.2 b)
theorem x_newAu (h : 151 ≤ S.1.1) (k hd s y td : Int) (tx : Nat) (bs : Int) : ev (WK L xs) (d + 1) 70 [vr S.1.1, vi k, vi hd, vi s, vi y, vi td, vr tx, vi bs] (nw S 11 14) = some (0, auS S k hd s y td tx bs) := by
  have hs : (nw S 11 14).1.2.2 S.1.1 = (11, 14) := by rw [nw_s, if_pos rfl]
  have hs2 : (nw (nw S 11 14) 3 10).1.2.2 S.1.1 = (11, 14) := by
    rw [nw_s, if_neg (show ¬ S.1.1 = (nw S 11 14).1.1 from fun z => absurd (show S.1.1 = S.1.1 + 1 from z) (by first | decide | omega)), hs]
  rw [q_70]
  refine gd_go (gt_0 h hs) ?_
  refine gd_go (gt_w h hs) ?_
  refine gd_go (gt_w h hs) ?_
  refine gd_go (gt_w h hs) ?_
  refine gd_go (gt_w h hs) ?_
  refine gd_go (gt_w h hs) ?_
  refine gd_go (gt_w h hs) ?_
  refine gd_go (gt_w h hs2) ?_
  refine gd_go (gt_w h hs2) ?_
  refine gd_go (gt_w h hs2) ?_
  refine gd_go (gt_w h hs2) ?_
  refine gd_go (gt_w h hs2) ?_
  refine gd_go (gt_w h hs2) ?_
  refine gd_go (gt_w h hs2) ?_
  refine gd_go (gt_w h hs2) ?_
  congr 2
  refine Prod.ext rfl ?_
  funext b j
  have e1 : (nw (wr (wr (wr (wr (wr (wr (nw S 11 14) S.1.1 7 (-1)) S.1.1 8 (-1)) S.1.1 9 (-1)) S.1.1 10 0) S.1.1 11 0) S.1.1 12 0) 3 10).2 b j = if b = S.1.1 + 1 then 0 else (wr (wr (wr (wr (wr (wr (nw S 11 14) S.1.1 7 (-1)) S.1.1 8 (-1)) S.1.1 9 (-1)) S.1.1 10 0) S.1.1 11 0) S.1.1 12 0).2 b j := nw_2
  simp only [wr_2]
  rw [e1]
  simp only [wr_2, nw_2]
  show _ = (if b = S.1.1 then auF k hd s y td tx bs (S.1.1 + 1) else if b = S.1.1 + 1 then fun _ => 0 else S.2 b) j
  by_cases e : b = S.1.1
  · subst e
    rw [if_pos rfl]
    simp only [true_and, if_true, show ¬ S.1.1 = S.1.1 + 1 by omega, if_false]
    unfold auF
    match j with
    | 0 => rfl
    | 1 => rfl
    | 2 => rfl
    | 3 => rfl
    | 4 => rfl
    | 5 => rfl
    | 6 => rfl
    | 7 => rfl
    | 8 => rfl
    | 9 => rfl
    | 10 => rfl
    | 11 => rfl
    | 12 => rfl
    | 13 => rfl
    | j + 14 => simp
  · rw [if_neg e]
    simp only [e, false_and, if_false]
    by_cases e2 : b = S.1.1 + 1
    · rw [if_pos e2, if_pos e2]
    · rw [if_neg e2, if_neg e2]
end
