theorem zc_2 : csOf 2 = cs_2 := rfl
theorem zr_2 : rtOf 2 = 4 := rfl
theorem zm_2 : mlOf 2 = 2 := rfl
set_option maxRecDepth 100000 in
set_option maxHeartbeats 4000000 in
/-- SupplyBook.now(I)Z -/
theorem q_2 (L : Nat) (xs : Nat → Int) (d : Nat) (S : AH) (p1 : Int) : ev (WK L xs) (d + 1) 2 [vr 15, vi p1] S = (bindR ((ev (WK L xs) d) 3 [vi p1] S) (fun r1 S2 => (if r1 = 0 then (some ((0 : Int), S2)) else (if p1 < (S2.2 15 0) then (some ((0 : Int), S2)) else (some ((1 : Int), (wr S2 15 0 p1))))))) := by rw [ev_eq, zc_2, zr_2, zm_2]; rfl
theorem zc_3 : csOf 3 = cs_3 := rfl
theorem zr_3 : rtOf 3 = 4 := rfl
theorem zm_3 : mlOf 3 = 1 := rfl
set_option maxRecDepth 100000 in
set_option maxHeartbeats 4000000 in
/-- SupplyBook.isDay(I)Z -/
theorem q_3 (L : Nat) (xs : Nat → Int) (d : Nat) (S : AH) (p1 : Int) : ev (WK L xs) (d + 1) 3 [vi p1] S = (if p1 < 0 then (some ((0 : Int), S)) else (if p1 < (3600 : Int) then (some ((1 : Int), S)) else (some ((0 : Int), S)))) := by rw [ev_eq, zc_3, zr_3, zm_3]; rfl
theorem zc_4 : csOf 4 = cs_4 := rfl
theorem zr_4 : rtOf 4 = 0 := rfl
theorem zm_4 : mlOf 4 = 2 := rfl
set_option maxRecDepth 100000 in
set_option maxHeartbeats 4000000 in
/-- SupplyBook.head(I)I -/
theorem q_4 (L : Nat) (xs : Nat → Int) (d : Nat) (S : AH) (p1 : Int) : ev (WK L xs) (d + 1) 4 [vr 15, vi p1] S = (bindR ((ev (WK L xs) d) 124 [vr 17, vi p1] S) (fun r1 S2 => (some (r1, S2)))) := by rw [ev_eq, zc_4, zr_4, zm_4]; rfl
theorem zc_5 : csOf 5 = cs_5 := rfl
theorem zr_5 : rtOf 5 = 0 := rfl
theorem zm_5 : mlOf 5 = 3 := rfl
set_option maxRecDepth 100000 in
set_option maxHeartbeats 4000000 in
/-- SupplyBook.under(II)I -/
theorem q_5 (L : Nat) (xs : Nat → Int) (d : Nat) (S : AH) (p1 : Int) (p2 : Int) : ev (WK L xs) (d + 1) 5 [vr 15, vi p1, vi p2] S = (bindR ((ev (WK L xs) d) 125 [vr 17, vi p1] S) (fun r1 S2 => (if r1 = 0 then (some ((-1 : Int), S2)) else (bindR ((ev (WK L xs) d) 125 [vr 17, vi p2] S2) (fun r3 S4 => (if r3 = 0 then (some ((-1 : Int), S4)) else (bindR ((ev (WK L xs) d) 127 [vr 17, vi p1, vi p2] S4) (fun r5 S6 => (if r5 = 0 then (some ((0 : Int), S6)) else (some ((1 : Int), S6))))))))))) := by rw [ev_eq, zc_5, zr_5, zm_5]; rfl
theorem zc_6 : csOf 6 = cs_6 := rfl
theorem zr_6 : rtOf 6 = 0 := rfl
theorem zm_6 : mlOf 6 = 3 := rfl
set_option maxRecDepth 100000 in
set_option maxHeartbeats 4000000 in
/-- SupplyBook.hand(II)I -/
theorem q_6 (L : Nat) (xs : Nat → Int) (d : Nat) (S : AH) (p1 : Int) (p2 : Int) : ev (WK L xs) (d + 1) 6 [vr 15, vi p1, vi p2] S = (bindR ((ev (WK L xs) d) 128 [vr 17, vi p1, vi p2] S) (fun r1 S2 => (some (r1, S2)))) := by rw [ev_eq, zc_6, zr_6, zm_6]; rfl
theorem zc_7 : csOf 7 = cs_7 := rfl
theorem zr_7 : rtOf 7 = 0 := rfl
theorem zm_7 : mlOf 7 = 6 := rfl
set_option maxRecDepth 100000 in
set_option maxHeartbeats 4000000 in
/-- SupplyBook.feed(IIIII)I -/
theorem q_7 (L : Nat) (xs : Nat → Int) (d : Nat) (S : AH) (p1 : Int) (p2 : Int) (p3 : Int) (p4 : Int) (p5 : Int) : ev (WK L xs) (d + 1) 7 [vr 15, vi p1, vi p2, vi p3, vi p4, vi p5] S = (if (400 : Int) < (w32 ((S.2 15 4) + (20 : Int))) then (some ((-1 : Int), S)) else (bindR ((ev (WK L xs) d) 8 [vr 15, vi p1] S) (fun r1 S2 => (bindR ((ev (WK L xs) d) 8 [vr 15, vi p2] S2) (fun r3 S4 => (bindR ((ev (WK L xs) d) 8 [vr 15, vi p3] S4) (fun r5 S6 => (bindR ((ev (WK L xs) d) 8 [vr 15, vi p4] S6) (fun r7 S8 => (bindR ((ev (WK L xs) d) 8 [vr 15, vi p5] S8) (fun r9 S10 => (some ((S10.2 15 4), S10))))))))))))) := by rw [ev_eq, zc_7, zr_7, zm_7]; rfl
theorem zc_8 : csOf 8 = cs_8 := rfl
theorem zr_8 : rtOf 8 = 9 := rfl
theorem zm_8 : mlOf 8 = 3 := rfl
set_option maxRecDepth 100000 in
set_option maxHeartbeats 4000000 in
/-- SupplyBook.feedInt(I)V -/
theorem q_8 (L : Nat) (xs : Nat → Int) (d : Nat) (S : AH) (p1 : Int) : ev (WK L xs) (d + 1) 8 [vr 15, vi p1] S = (LQ (WK L xs) (ev (WK L xs) d) 8 2 [some (vr 15), some (vi p1), some (vi (3 : Int))] [] S) := by rw [ev_eq, zc_8, zr_8, zm_8]; rfl
set_option maxRecDepth 100000 in
set_option maxHeartbeats 4000000 in
theorem q_8_2 (L : Nat) (xs : Nat → Int) (d : Nat) (S : AH) (x1 : Int) (x2 : Int) : LQ (WK L xs) (ev (WK L xs) d) 8 2 [some (vr 15), some (vi x1), some (vi x2)] [] S = (if x2 < 0 then (some (0, S)) else (if (S.2 15 4) < (400 : Int) then (if 0 ≤ (S.2 15 4) ∧ (S.2 15 4) < (400 : Int) then (LQ (WK L xs) (ev (WK L xs) d) 8 2 [some (vr 15), some (vi x1), some (vi (w32 (x2 + (-1 : Int))))] [] (wr (wr S 16 (S.2 15 4).toNat (w8 (w8 (ishr x1 (w32 ((8 : Int) * x2)))))) 15 4 (w32 ((S.2 15 4) + (1 : Int))))) else none) else (some (0, S)))) := by rw [LQ_eq, zc_8, zr_8]; rfl
theorem zc_9 : csOf 9 = cs_9 := rfl
theorem zr_9 : rtOf 9 = 0 := rfl
theorem zm_9 : mlOf 9 = 5 := rfl
set_option maxRecDepth 100000 in
set_option maxHeartbeats 4000000 in
/-- SupplyBook.law(III)I -/
theorem q_9 (L : Nat) (xs : Nat → Int) (d : Nat) (S : AH) (p1 : Int) (p2 : Int) (p3 : Int) : ev (WK L xs) (d + 1) 9 [vr 15, vi p1, vi p2, vi p3] S = (bindR ((ev (WK L xs) d) 3 [vi p1] S) (fun r1 S2 => (if r1 = 0 then (some ((-1 : Int), S2)) else (bindR ((ev (WK L xs) d) 3 [vi p2] S2) (fun r3 S4 => (if r3 = 0 then (some ((-1 : Int), S4)) else (if p2 < p1 then (some ((-1 : Int), S4)) else (bindR ((ev (WK L xs) d) 101 [vr 31] S4) (fun r5 S6 => (if r5 = 0 then (if p3 < (1 : Int) then (some ((-1 : Int), S6)) else (if (200 : Int) < p3 then (some ((-1 : Int), S6)) else (if (S6.2 15 4) < p3 then (some ((-1 : Int), S6)) else (bindR ((ev (WK L xs) d) 135 [vr 22, vr 16, vi p3, vi (1 : Int)] S6) (fun r7 S8 => (if r7 = 0 then (bindR ((ev (WK L xs) d) 154 [vr 22] (wr S8 15 4 (0 : Int))) (fun r9 S10 => (bindR ((ev (WK L xs) d) 102 [vr 31, vr r9.toNat, vi p1, vi p2] S10) (fun r11 S12 => (some (r11, S12)))))) else (some (r7, (wr S8 15 4 (0 : Int)))))))))) else (some ((-1 : Int), S6)))))))))))) := by rw [ev_eq, zc_9, zr_9, zm_9]; rfl
theorem zc_10 : csOf 10 = cs_10 := rfl
theorem zr_10 : rtOf 10 = 0 := rfl
theorem zm_10 : mlOf 10 = 3 := rfl
set_option maxRecDepth 100000 in
set_option maxHeartbeats 4000000 in
/-- SupplyBook.counts(II)I -/
theorem q_10 (L : Nat) (xs : Nat → Int) (d : Nat) (S : AH) (p1 : Int) (p2 : Int) : ev (WK L xs) (d + 1) 10 [vr 15, vi p1, vi p2] S = (bindR ((ev (WK L xs) d) 103 [vr 31, vi p1] S) (fun r1 S2 => (if r1 = 0 then (some ((-1 : Int), S2)) else (bindR ((ev (WK L xs) d) 3 [vi p2] S2) (fun r3 S4 => (if r3 = 0 then (some ((-1 : Int), S4)) else (bindR ((ev (WK L xs) d) 104 [vr 31, vi p2] S4) (fun r5 S6 => (bindR ((ev (WK L xs) d) 107 [vr 31, vi p1] S6) (fun r7 S8 => (bindR ((ev (WK L xs) d) 320 [vi r7] S8) (fun r9 S10 => (some (r9, S10)))))))))))))) := by rw [ev_eq, zc_10, zr_10, zm_10]; rfl
theorem zc_11 : csOf 11 = cs_11 := rfl
theorem zr_11 : rtOf 11 = 0 := rfl
theorem zm_11 : mlOf 11 = 3 := rfl
set_option maxRecDepth 100000 in
set_option maxHeartbeats 4000000 in
/-- SupplyBook.number(II)I -/
theorem q_11 (L : Nat) (xs : Nat → Int) (d : Nat) (S : AH) (p1 : Int) (p2 : Int) : ev (WK L xs) (d + 1) 11 [vr 15, vi p1, vi p2] S = (if p1 < 0 then (some ((-1 : Int), S)) else (if p1 < (5 : Int) then (bindR ((ev (WK L xs) d) 3 [vi p2] S) (fun r1 S2 => (if r1 = 0 then (some ((-1 : Int), S2)) else (bindR ((ev (WK L xs) d) 108 [vr 31, vi p1, vi p2] S2) (fun r3 S4 => (some (r3, S4))))))) else (some ((-1 : Int), S)))) := by rw [ev_eq, zc_11, zr_11, zm_11]; rfl
theorem zc_12 : csOf 12 = cs_12 := rfl
theorem zr_12 : rtOf 12 = 0 := rfl
theorem zm_12 : mlOf 12 = 8 := rfl
set_option maxRecDepth 100000 in
set_option maxHeartbeats 4000000 in
/-- SupplyBook.vote(IIIII)I -/
theorem q_12 (L : Nat) (xs : Nat → Int) (d : Nat) (S : AH) (p1 : Int) (p2 : Int) (p3 : Int) (p4 : Int) (p5 : Int) : ev (WK L xs) (d + 1) 12 [vr 15, vi p1, vi p2, vi p3, vi p4, vi p5] S = (if p1 = 0 then (LQ (WK L xs) (ev (WK L xs) d) 12 16 [some (vr 15), some (vi p1), some (vi p2), some (vi p3), some (vi p4), some (vi p5), none, none] [] S) else (if p1 = (2 : Int) then (LQ (WK L xs) (ev (WK L xs) d) 12 16 [some (vr 15), some (vi p1), some (vi p2), some (vi p3), some (vi p4), some (vi p5), none, none] [] S) else (if p1 = (3 : Int) then (LQ (WK L xs) (ev (WK L xs) d) 12 16 [some (vr 15), some (vi p1), some (vi p2), some (vi p3), some (vi p4), some (vi p5), none, none] [] S) else (some ((-1 : Int), S))))) := by rw [ev_eq, zc_12, zr_12, zm_12]; rfl
set_option maxRecDepth 100000 in
set_option maxHeartbeats 4000000 in
theorem q_12_16 (L : Nat) (xs : Nat → Int) (d : Nat) (S : AH) (x1 : Int) (x2 : Int) (x3 : Int) (x4 : Int) (x5 : Int) : LQ (WK L xs) (ev (WK L xs) d) 12 16 [some (vr 15), some (vi x1), some (vi x2), some (vi x3), some (vi x4), some (vi x5), none, none] [] S = (bindR ((ev (WK L xs) d) 125 [vr 17, vi x2] S) (fun r1 S2 => (if r1 = 0 then (some ((-1 : Int), S2)) else (bindR ((ev (WK L xs) d) 13 [vi x3] S2) (fun r3 S4 => (if r3 = 0 then (some ((-1 : Int), S4)) else (bindR ((ev (WK L xs) d) 14 [vi x4] S4) (fun r5 S6 => (if r5 = 0 then (some ((-1 : Int), S6)) else (bindR ((ev (WK L xs) d) 166 [vr 36] S6) (fun r7 S8 => (if r7 = 0 then (if x5 < 0 then (some ((-1 : Int), S8)) else (if (200 : Int) < x5 then (some ((-1 : Int), S8)) else (if (S8.2 15 4) < x5 then (some ((-1 : Int), S8)) else (if x5 = 0 then (LQ (WK L xs) (ev (WK L xs) d) 12 101 [some (vr 15), some (vi x1), some (vi x2), some (vi x3), some (vi x4), some (vi x5), none, none] [vi (0 : Int)] S8) else (bindR ((ev (WK L xs) d) 135 [vr 22, vr 16, vi x5, vi (0 : Int)] S8) (fun r9 S10 => (LQ (WK L xs) (ev (WK L xs) d) 12 101 [some (vr 15), some (vi x1), some (vi x2), some (vi x3), some (vi x4), some (vi x5), none, none] [vi r9] S10))))))) else (some ((-1 : Int), S8)))))))))))))) := by rw [LQ_eq, zc_12, zr_12]; rfl
set_option maxRecDepth 100000 in
set_option maxHeartbeats 4000000 in
theorem q_12_101 (L : Nat) (xs : Nat → Int) (d : Nat) (S : AH) (x1 : Int) (x2 : Int) (x3 : Int) (x4 : Int) (x5 : Int) (t0 : Int) : LQ (WK L xs) (ev (WK L xs) d) 12 101 [some (vr 15), some (vi x1), some (vi x2), some (vi x3), some (vi x4), some (vi x5), none, none] [vi t0] S = (if t0 = 0 then (if x5 = 0 then (LQ (WK L xs) (ev (WK L xs) d) 12 135 [some (vr 15), some (vi x1), some (vi x2), some (vi x3), some (vi x4), none, none, none] [vr 27] (wr S 15 4 (0 : Int))) else (bindR ((ev (WK L xs) d) 154 [vr 22] (wr S 15 4 (0 : Int))) (fun r1 S2 => (LQ (WK L xs) (ev (WK L xs) d) 12 135 [some (vr 15), some (vi x1), some (vi x2), some (vi x3), some (vi x4), none, none, none] [vr r1.toNat] S2)))) else (some (t0, (wr S 15 4 (0 : Int))))) := by rw [LQ_eq, zc_12, zr_12]; rfl
set_option maxRecDepth 100000 in
set_option maxHeartbeats 4000000 in
theorem q_12_135 (L : Nat) (xs : Nat → Int) (d : Nat) (S : AH) (x1 : Int) (x2 : Int) (x3 : Int) (x4 : Int) (t0 : Nat) : LQ (WK L xs) (ev (WK L xs) d) 12 135 [some (vr 15), some (vi x1), some (vi x2), some (vi x3), some (vi x4), none, none, none] [vr t0] S = (gd (Nat.beq (shp (WK L xs) (nw S 11 14) S.1.1).1 11 && Nat.ble 2 8) (bindR ((ev (WK L xs) d) 70 [vr S.1.1, vi x1, vi x2, vi x3, vi x4, vi ((nw S 11 14).2 15 0), vr t0, vi (-1 : Int)] (nw S 11 14)) (fun r1 S2 => (bindR ((ev (WK L xs) d) 167 [vr 36, vr S.1.1] S2) (fun r3 S4 => (some (r3, S4))))))) := by rw [LQ_eq, zc_12, zr_12]; rfl
theorem zc_13 : csOf 13 = cs_13 := rfl
theorem zr_13 : rtOf 13 = 4 := rfl
theorem zm_13 : mlOf 13 = 1 := rfl
set_option maxRecDepth 100000 in
set_option maxHeartbeats 4000000 in
/-- SupplyBook.isSum(I)Z -/
theorem q_13 (L : Nat) (xs : Nat → Int) (d : Nat) (S : AH) (p1 : Int) : ev (WK L xs) (d + 1) 13 [vi p1] S = (if p1 < 0 then (some ((0 : Int), S)) else (if (1000000000 : Int) < p1 then (some ((0 : Int), S)) else (some ((1 : Int), S)))) := by rw [ev_eq, zc_13, zr_13, zm_13]; rfl
theorem zc_14 : csOf 14 = cs_14 := rfl
theorem zr_14 : rtOf 14 = 4 := rfl
theorem zm_14 : mlOf 14 = 1 := rfl
set_option maxRecDepth 100000 in
set_option maxHeartbeats 4000000 in
/-- SupplyBook.isYear(I)Z -/
theorem q_14 (L : Nat) (xs : Nat → Int) (d : Nat) (S : AH) (p1 : Int) : ev (WK L xs) (d + 1) 14 [vi p1] S = (if p1 < 0 then (some ((0 : Int), S)) else (if p1 < (10 : Int) then (some ((1 : Int), S)) else (some ((0 : Int), S)))) := by rw [ev_eq, zc_14, zr_14, zm_14]; rfl
theorem zc_15 : csOf 15 = cs_15 := rfl
theorem zr_15 : rtOf 15 = 0 := rfl
theorem zm_15 : mlOf 15 = 5 := rfl
set_option maxRecDepth 100000 in
set_option maxHeartbeats 4000000 in
/-- SupplyBook.ceiling(III)I -/
theorem q_15 (L : Nat) (xs : Nat → Int) (d : Nat) (S : AH) (p1 : Int) (p2 : Int) (p3 : Int) : ev (WK L xs) (d + 1) 15 [vr 15, vi p1, vi p2, vi p3] S = (bindR ((ev (WK L xs) d) 168 [vr 36, vi p1] S) (fun r1 S2 => (if r1.toNat = 0 then (some ((-1 : Int), S2)) else (gd (!(Nat.beq r1.toNat 14)) (gd (Nat.beq (shp (WK L xs) S2 r1.toNat).1 11) (if (rdv (WK L xs) S2 r1.toNat 0) = (1 : Int) then (some ((-1 : Int), S2)) else (bindR ((ev (WK L xs) d) 13 [vi p3] S2) (fun r3 S4 => (if r3 = 0 then (some ((-1 : Int), S4)) else (bindR ((ev (WK L xs) d) 166 [vr 36] S4) (fun r5 S6 => (if r5 = 0 then (gd (Nat.beq (shp (WK L xs) S6 r1.toNat).1 11) (bindR ((ev (WK L xs) d) 127 [vr 17, vi p2, vi (rdv (WK L xs) S6 r1.toNat 1)] S6) (fun r7 S8 => (if r7 = 0 then (some ((-1 : Int), S8)) else (gd (Nat.beq (shp (WK L xs) (nw S8 11 14) r1.toNat).1 11) (gd (Nat.beq (shp (WK L xs) (nw S8 11 14) S8.1.1).1 11 && Nat.ble 2 8) (bindR ((ev (WK L xs) d) 70 [vr S8.1.1, vi (1 : Int), vi p2, vi p3, vi (rdv (WK L xs) (nw S8 11 14) r1.toNat 3), vi ((nw S8 11 14).2 15 0), vr 27, vi p1] (nw S8 11 14)) (fun r9 S10 => (bindR ((ev (WK L xs) d) 167 [vr 36, vr S8.1.1] S10) (fun r11 S12 => (some (r11, S12)))))))))))) else (some ((-1 : Int), S6)))))))))))))) := by rw [ev_eq, zc_15, zr_15, zm_15]; rfl
theorem zc_16 : csOf 16 = cs_16 := rfl
theorem zr_16 : rtOf 16 = 0 := rfl
theorem zm_16 : mlOf 16 = 6 := rfl
set_option maxRecDepth 100000 in
set_option maxHeartbeats 4000000 in
/-- SupplyBook.advance(II)I -/
theorem q_16 (L : Nat) (xs : Nat → Int) (d : Nat) (S : AH) (p1 : Int) (p2 : Int) : ev (WK L xs) (d + 1) 16 [vr 15, vi p1, vi p2] S = (bindR ((ev (WK L xs) d) 125 [vr 17, vi p1] S) (fun r1 S2 => (if r1 = 0 then (some ((-1 : Int), S2)) else (bindR ((ev (WK L xs) d) 13 [vi p2] S2) (fun r3 S4 => (if r3 = 0 then (some ((-1 : Int), S4)) else (bindR ((ev (WK L xs) d) 166 [vr 36] S4) (fun r5 S6 => (if r5 = 0 then (bindR ((ev (WK L xs) d) 17 [vi (S6.2 15 0)] S6) (fun r7 S8 => (bindR ((ev (WK L xs) d) 108 [vr 31, vi (3 : Int), vi (S8.2 15 0)] S8) (fun r9 S10 => (bindR ((ev (WK L xs) d) 169 [vr 36, vi r7] S10) (fun r11 S12 => (if 0 < (lcmp (w64 (r11 + p2)) (w64 (r9 * (1000 : Int)))) then (some ((-1 : Int), S12)) else (gd (Nat.beq (shp (WK L xs) (nw S12 11 14) S12.1.1).1 11 && Nat.ble 2 8) (bindR ((ev (WK L xs) d) 70 [vr S12.1.1, vi (4 : Int), vi p1, vi p2, vi r7, vi ((nw S12 11 14).2 15 0), vr 27, vi (-1 : Int)] (nw S12 11 14)) (fun r13 S14 => (bindR ((ev (WK L xs) d) 167 [vr 36, vr S12.1.1] S14) (fun r15 S16 => (some (r15, S16)))))))))))))) else (some ((-1 : Int), S6))))))))))) := by rw [ev_eq, zc_16, zr_16, zm_16]; rfl
theorem zc_17 : csOf 17 = cs_17 := rfl
theorem zr_17 : rtOf 17 = 0 := rfl
theorem zm_17 : mlOf 17 = 1 := rfl
set_option maxRecDepth 100000 in
set_option maxHeartbeats 4000000 in
/-- SupplyBook.yearOf(I)I -/
theorem q_17 (L : Nat) (xs : Nat → Int) (d : Nat) (S : AH) (p1 : Int) : ev (WK L xs) (d + 1) 17 [vi p1] S = (some ((idiv p1 (360 : Int)), S)) := by rw [ev_eq, zc_17, zr_17, zm_17]; rfl
theorem zc_18 : csOf 18 = cs_18 := rfl
theorem zr_18 : rtOf 18 = 4 := rfl
theorem zm_18 : mlOf 18 = 6 := rfl
set_option maxRecDepth 100000 in
set_option maxHeartbeats 4000000 in
/-- SupplyBook.cover(II)Z -/
theorem q_18 (L : Nat) (xs : Nat → Int) (d : Nat) (S : AH) (p1 : Int) (p2 : Int) : ev (WK L xs) (d + 1) 18 [vr 15, vi p1, vi p2] S = (bindR ((ev (WK L xs) d) 168 [vr 36, vi p1] S) (fun r1 S2 => (bindR ((ev (WK L xs) d) 168 [vr 36, vi p2] S2) (fun r3 S4 => (if r1.toNat = 0 then (some ((0 : Int), S4)) else (gd (!(Nat.beq r1.toNat 14)) (if r3.toNat = 0 then (some ((0 : Int), S4)) else (gd (!(Nat.beq r3.toNat 14)) (gd (Nat.beq (shp (WK L xs) S4 r1.toNat).1 11) (if (rdv (WK L xs) S4 r1.toNat 0) = (4 : Int) then (gd (Nat.beq (shp (WK L xs) S4 r3.toNat).1 11) (if (rdv (WK L xs) S4 r3.toNat 0) = 0 then (gd (Nat.beq (shp (WK L xs) S4 r1.toNat).1 11) (if (rdv (WK L xs) S4 r1.toNat 8) = (-1 : Int) then (gd (Nat.beq (shp (WK L xs) S4 r3.toNat).1 11) (if (rdv (WK L xs) S4 r3.toNat 7) = (-1 : Int) then (gd (Nat.beq (shp (WK L xs) S4 r3.toNat).1 11) (gd (Nat.beq (shp (WK L xs) S4 r1.toNat).1 11) (if (rdv (WK L xs) S4 r3.toNat 3) = (rdv (WK L xs) S4 r1.toNat 3) then (gd (Nat.beq (shp (WK L xs) S4 r1.toNat).1 11) (gd (Nat.beq (shp (WK L xs) S4 r1.toNat).1 11) (gd (Nat.beq (shp (WK L xs) S4 r3.toNat).1 11) (bindR ((ev (WK L xs) d) 127 [vr 17, vi (rdv (WK L xs) S4 r1.toNat 1), vi (rdv (WK L xs) S4 r3.toNat 1)] S4) (fun r5 S6 => (if r5 = 0 then (some ((0 : Int), S6)) else (bindR ((ev (WK L xs) d) 19 [vr 15, vi p2, vr r3.toNat, vi (rdv (WK L xs) S4 r1.toNat 3)] S6) (fun r7 S8 => (gd (Nat.beq (shp (WK L xs) S8 r1.toNat).1 11 && Nat.ble 2 8) (bindR ((ev (WK L xs) d) 71 [vr r1.toNat, vi (rdv (WK L xs) S4 r1.toNat 3)] S8) (fun r9 S10 => (if (lcmp r7 r9) < 0 then (some ((0 : Int), S10)) else (gd (Nat.beq (shp (WK L xs) S10 r1.toNat).1 11 && Nat.ble 2 8) (bindR ((ev (WK L xs) d) 71 [vr r1.toNat, vi (rdv (WK L xs) S4 r1.toNat 3)] S10) (fun r11 S12 => (gd (Nat.beq (shp (WK L xs) S12 r3.toNat).1 11 && Nat.ble 0 8) (bindR ((ev (WK L xs) d) 72 [vr r3.toNat, vi (rdv (WK L xs) S4 r1.toNat 3), vl r11] S12) (fun r13 S14 => (gd (Nat.beq (shp (WK L xs) S14 r1.toNat).1 11 && Nat.ble 2 8) (bindR ((ev (WK L xs) d) 71 [vr r1.toNat, vi (rdv (WK L xs) S4 r1.toNat 3)] S14) (fun r15 S16 => (gd (Nat.beq (shp (WK L xs) S16 r1.toNat).1 11 && Nat.ble 0 8) (bindR ((ev (WK L xs) d) 72 [vr r1.toNat, vi (rdv (WK L xs) S4 r1.toNat 3), vl (w64 (-r15))] S16) (fun r17 S18 => (gd (Nat.beq (shp (WK L xs) S18 r1.toNat).1 11 && wok (WK L xs) r1.toNat 8) (gd (Nat.beq (shp (WK L xs) (wr S18 r1.toNat 8 p2) r1.toNat).1 11 && wok (WK L xs) r1.toNat 9) (bindR ((ev (WK L xs) d) 81 [vr 43, vi p1, vi p2] (wr (wr S18 r1.toNat 8 p2) r1.toNat 9 ((wr S18 r1.toNat 8 p2).2 15 0))) (fun r19 S20 => (some ((1 : Int), S20)))))))))))))))))))))))))))))) else (some ((0 : Int), S4))))) else (some ((0 : Int), S4)))) else (some ((0 : Int), S4)))) else (some ((0 : Int), S4)))) else (some ((0 : Int), S4)))))))))))) := by rw [ev_eq, zc_18, zr_18, zm_18]; rfl
theorem zc_19 : csOf 19 = cs_19 := rfl
theorem zr_19 : rtOf 19 = 1 := rfl
theorem zm_19 : mlOf 19 = 6 := rfl
set_option maxRecDepth 100000 in
set_option maxHeartbeats 4000000 in
/-- SupplyBook.leftOf(ILSupplyBook$Authority;I)J -/
theorem q_19 (L : Nat) (xs : Nat → Int) (d : Nat) (S : AH) (p1 : Int) (p2 : Nat) (p3 : Int) : ev (WK L xs) (d + 1) 19 [vr 15, vi p1, vr p2, vi p3] S = (gd (Nat.beq (shp (WK L xs) S p2).1 11) (if (rdv (WK L xs) S p2 0) = (1 : Int) then (gd (Nat.beq (shp (WK L xs) S p2).1 11) (bindR ((ev (WK L xs) d) 20 [vr 15, vr p2, vi p3] S) (fun r5 S6 => (some ((w64 ((rdv (WK L xs) S p2 2) - r5)), S6))))) else (gd (Nat.beq (shp (WK L xs) S p2).1 11) (if (rdv (WK L xs) S p2 8) = (-1 : Int) then (gd (Nat.beq (shp (WK L xs) S p2).1 11) (gd (Nat.beq (shp (WK L xs) S p2).1 11) (gd (Nat.beq (shp (WK L xs) S p2).1 11) (gd (Nat.beq (shp (WK L xs) S p2).1 11 && Nat.ble 2 8) (bindR ((ev (WK L xs) d) 71 [vr p2, vi p3] S) (fun r1 S2 => (bindR ((ev (WK L xs) d) 170 [vr 36, vi p1, vi p3] S2) (fun r3 S4 => (some ((w64 ((w64 ((w64 ((rdv (WK L xs) S p2 2) + (w64 ((rdv (WK L xs) S p2 11) - (rdv (WK L xs) S p2 12))))) - r1)) - r3)), S4)))))))))) else (some ((0 : Int), S)))))) := by rw [ev_eq, zc_19, zr_19, zm_19]; rfl
theorem zc_20 : csOf 20 = cs_20 := rfl
theorem zr_20 : rtOf 20 = 1 := rfl
theorem zm_20 : mlOf 20 = 7 := rfl
set_option maxRecDepth 100000 in
set_option maxHeartbeats 4000000 in
/-- SupplyBook.paidUnderCeiling(LSupplyBook$Authority;I)J -/
theorem q_20 (L : Nat) (xs : Nat → Int) (d : Nat) (S : AH) (p1 : Nat) (p2 : Int) : ev (WK L xs) (d + 1) 20 [vr 15, vr p1, vi p2] S = (LQ (WK L xs) (ev (WK L xs) d) 20 5 [some (vr 15), some (vr p1), some (vi p2), some (vl (0 : Int)), none, some (vi (0 : Int)), none] [] S) := by rw [ev_eq, zc_20, zr_20, zm_20]; rfl
set_option maxRecDepth 100000 in
set_option maxHeartbeats 4000000 in
theorem q_20_5 (L : Nat) (xs : Nat → Int) (d : Nat) (S : AH) (x1 : Nat) (x2 : Int) (x3 : Int) (x5 : Int) : LQ (WK L xs) (ev (WK L xs) d) 20 5 [some (vr 15), some (vr x1), some (vi x2), some (vl x3), none, some (vi x5), none] [] S = (if x5 < (S.2 43 1) then (bindR ((ev (WK L xs) d) 80 [vr 43, vi x5] S) (fun r1 S2 => (if r1.toNat = 0 then (LQ (WK L xs) (ev (WK L xs) d) 20 5 [some (vr 15), some (vr x1), some (vi x2), some (vl x3), none, some (vi (w32 (x5 + (1 : Int)))), none] [] S2) else (gd (!(Nat.beq r1.toNat 14)) (gd (Nat.beq (shp (WK L xs) S2 r1.toNat).1 12) (gd (Nat.beq (shp (WK L xs) S2 x1).1 11) (if (rdv (WK L xs) S2 r1.toNat 9) = (rdv (WK L xs) S2 x1 6) then (gd (Nat.beq (shp (WK L xs) S2 r1.toNat).1 12 && Nat.ble 0 8) (bindR ((ev (WK L xs) d) 75 [vr r1.toNat, vi x2] S2) (fun r3 S4 => (if r3 = 0 then (LQ (WK L xs) (ev (WK L xs) d) 20 5 [some (vr 15), some (vr x1), some (vi x2), some (vl x3), none, some (vi (w32 (x5 + (1 : Int)))), none] [] S4) else (gd (Nat.beq (shp (WK L xs) S4 r1.toNat).1 12) (gd (Nat.beq (shp (WK L xs) S4 x1).1 11) (bindR ((ev (WK L xs) d) 127 [vr 17, vi (rdv (WK L xs) S4 r1.toNat 1), vi (rdv (WK L xs) S4 x1 1)] S4) (fun r5 S6 => (if r5 = 0 then (LQ (WK L xs) (ev (WK L xs) d) 20 5 [some (vr 15), some (vr x1), some (vi x2), some (vl x3), none, some (vi (w32 (x5 + (1 : Int)))), none] [] S6) else (gd (Nat.beq (shp (WK L xs) S6 r1.toNat).1 12) (LQ (WK L xs) (ev (WK L xs) d) 20 5 [some (vr 15), some (vr x1), some (vi x2), some (vl (w64 (x3 + (rdv (WK L xs) S6 r1.toNat 3)))), none, some (vi (w32 (x5 + (1 : Int)))), none] [] S6))))))))))) else (LQ (WK L xs) (ev (WK L xs) d) 20 5 [some (vr 15), some (vr x1), some (vi x2), some (vl x3), none, some (vi (w32 (x5 + (1 : Int)))), none] [] S2)))))))) else (some (x3, S))) := by rw [LQ_eq, zc_20, zr_20]; rfl
theorem zc_21 : csOf 21 = cs_21 := rfl
theorem zr_21 : rtOf 21 = 4 := rfl
theorem zm_21 : mlOf 21 = 3 := rfl
set_option maxRecDepth 100000 in
set_option maxHeartbeats 4000000 in
/-- SupplyBook.strike(I)Z -/
theorem q_21 (L : Nat) (xs : Nat → Int) (d : Nat) (S : AH) (p1 : Int) : ev (WK L xs) (d + 1) 21 [vr 15, vi p1] S = (bindR ((ev (WK L xs) d) 168 [vr 36, vi p1] S) (fun r1 S2 => (if r1.toNat = 0 then (some ((0 : Int), S2)) else (gd (!(Nat.beq r1.toNat 14)) (gd (Nat.beq (shp (WK L xs) S2 r1.toNat).1 11) (if (rdv (WK L xs) S2 r1.toNat 7) = (-1 : Int) then (gd (Nat.beq (shp (WK L xs) S2 r1.toNat).1 11 && wok (WK L xs) r1.toNat 7) (some ((1 : Int), (wr S2 r1.toNat 7 (S2.2 15 0))))) else (some ((0 : Int), S2)))))))) := by rw [ev_eq, zc_21, zr_21, zm_21]; rfl
theorem zc_22 : csOf 22 = cs_22 := rfl
theorem zr_22 : rtOf 22 = 4 := rfl
theorem zm_22 : mlOf 22 = 9 := rfl
set_option maxRecDepth 100000 in
set_option maxHeartbeats 4000000 in
/-- SupplyBook.move(III)Z -/
theorem q_22 (L : Nat) (xs : Nat → Int) (d : Nat) (S : AH) (p1 : Int) (p2 : Int) (p3 : Int) : ev (WK L xs) (d + 1) 22 [vr 15, vi p1, vi p2, vi p3] S = (bindR ((ev (WK L xs) d) 168 [vr 36, vi p1] S) (fun r1 S2 => (bindR ((ev (WK L xs) d) 168 [vr 36, vi p2] S2) (fun r3 S4 => (if r1.toNat = 0 then (some ((0 : Int), S4)) else (gd (!(Nat.beq r1.toNat 14)) (if r3.toNat = 0 then (some ((0 : Int), S4)) else (gd (!(Nat.beq r3.toNat 14)) (if p1 = p2 then (some ((0 : Int), S4)) else (bindR ((ev (WK L xs) d) 13 [vi p3] S4) (fun r5 S6 => (if r5 = 0 then (some ((0 : Int), S6)) else (bindR ((ev (WK L xs) d) 17 [vi (S6.2 15 0)] S6) (fun r7 S8 => (gd (Nat.beq (shp (WK L xs) S8 r1.toNat).1 11 && Nat.ble 0 8) (bindR ((ev (WK L xs) d) 73 [vr r1.toNat, vi r7] S8) (fun r9 S10 => (if r9 = 0 then (some ((0 : Int), S10)) else (gd (Nat.beq (shp (WK L xs) S10 r3.toNat).1 11 && Nat.ble 0 8) (bindR ((ev (WK L xs) d) 73 [vr r3.toNat, vi r7] S10) (fun r11 S12 => (if r11 = 0 then (some ((0 : Int), S12)) else (bindR ((ev (WK L xs) d) 19 [vr 15, vi p1, vr r1.toNat, vi r7] S12) (fun r13 S14 => (if (lcmp r13 p3) < 0 then (some ((0 : Int), S14)) else (gd (Nat.beq (shp (WK L xs) S14 r1.toNat).1 11) (bindR ((ev (WK L xs) d) 108 [vr 31, vi (0 : Int), vi (S14.2 15 0)] S14) (fun r15 S16 => (gd (Nat.beq (shp (WK L xs) S16 r1.toNat).1 11) (if 0 < (lcmp (w64 ((rdv (WK L xs) S16 r1.toNat 12) + p3)) (ldiv (w64 ((rdv (WK L xs) S14 r1.toNat 2) * r15)) (100 : Int))) then (some ((0 : Int), S16)) else (gd (Nat.beq (shp (WK L xs) S16 r1.toNat).1 11) (gd (Nat.beq (shp (WK L xs) S16 r1.toNat).1 11 && wok (WK L xs) r1.toNat 12) (gd (Nat.beq (shp (WK L xs) (wr S16 r1.toNat 12 (w64 ((rdv (WK L xs) S16 r1.toNat 12) + p3))) r3.toNat).1 11) (gd (Nat.beq (shp (WK L xs) (wr S16 r1.toNat 12 (w64 ((rdv (WK L xs) S16 r1.toNat 12) + p3))) r3.toNat).1 11 && wok (WK L xs) r3.toNat 11) (some ((1 : Int), (wr (wr S16 r1.toNat 12 (w64 ((rdv (WK L xs) S16 r1.toNat 12) + p3))) r3.toNat 11 (w64 ((rdv (WK L xs) (wr S16 r1.toNat 12 (w64 ((rdv (WK L xs) S16 r1.toNat 12) + p3))) r3.toNat 11) + p3))))))))))))))))))))))))))))))))))))))) := by rw [ev_eq, zc_22, zr_22, zm_22]; rfl
theorem zc_23 : csOf 23 = cs_23 := rfl
theorem zr_23 : rtOf 23 = 0 := rfl
theorem zm_23 : mlOf 23 = 7 := rfl
set_option maxRecDepth 100000 in
set_option maxHeartbeats 4000000 in
/-- SupplyBook.commit(IIII)I -/
theorem q_23 (L : Nat) (xs : Nat → Int) (d : Nat) (S : AH) (p1 : Int) (p2 : Int) (p3 : Int) (p4 : Int) : ev (WK L xs) (d + 1) 23 [vr 15, vi p1, vi p2, vi p3, vi p4] S = (bindR ((ev (WK L xs) d) 168 [vr 36, vi p1] S) (fun r1 S2 => (if r1.toNat = 0 then (some ((-1 : Int), S2)) else (gd (!(Nat.beq r1.toNat 14)) (gd (Nat.beq (shp (WK L xs) S2 r1.toNat).1 11 && Nat.ble 0 8) (bindR ((ev (WK L xs) d) 74 [vr r1.toNat] S2) (fun r3 S4 => (if r3 = 0 then (some ((-1 : Int), S4)) else (bindR ((ev (WK L xs) d) 173 [vr 36] S4) (fun r5 S6 => (if r5 = 0 then (bindR ((ev (WK L xs) d) 13 [vi p2] S6) (fun r7 S8 => (if r7 = 0 then (some ((-1 : Int), S8)) else (bindR ((ev (WK L xs) d) 14 [vi p3] S8) (fun r9 S10 => (if r9 = 0 then (some ((-1 : Int), S10)) else (bindR ((ev (WK L xs) d) 14 [vi p4] S10) (fun r11 S12 => (if r11 = 0 then (some ((-1 : Int), S12)) else (if p4 < p3 then (some ((-1 : Int), S12)) else (LQ (WK L xs) (ev (WK L xs) d) 23 68 [some (vr 15), some (vi p1), some (vi p2), some (vi p3), some (vi p4), some (vr r1.toNat), some (vi p3)] [] S12))))))))))) else (some ((-1 : Int), S6))))))))))))) := by rw [ev_eq, zc_23, zr_23, zm_23]; rfl
set_option maxRecDepth 100000 in
set_option maxHeartbeats 4000000 in
theorem q_23_68 (L : Nat) (xs : Nat → Int) (d : Nat) (S : AH) (x1 : Int) (x2 : Int) (x3 : Int) (x4 : Int) (x5 : Nat) (x6 : Int) : LQ (WK L xs) (ev (WK L xs) d) 23 68 [some (vr 15), some (vi x1), some (vi x2), some (vi x3), some (vi x4), some (vr x5), some (vi x6)] [] S = (if x4 < x6 then (bindR ((ev (WK L xs) d) 175 [vr 36, vi x1, vi x2, vi x3, vi x4] S) (fun r1 S2 => (some (r1, S2)))) else (bindR ((ev (WK L xs) d) 174 [vr 36, vr x5, vi x6] S) (fun r3 S4 => (if r3 = 0 then (some ((-1 : Int), S4)) else (bindR ((ev (WK L xs) d) 19 [vr 15, vi x1, vr x5, vi x6] S4) (fun r5 S6 => (if (lcmp r5 x2) < 0 then (some ((-1 : Int), S6)) else (LQ (WK L xs) (ev (WK L xs) d) 23 68 [some (vr 15), some (vi x1), some (vi x2), some (vi x3), some (vi x4), some (vr x5), some (vi (w32 (x6 + (1 : Int))))] [] S6)))))))) := by rw [LQ_eq, zc_23, zr_23]; rfl
theorem zc_24 : csOf 24 = cs_24 := rfl
theorem zr_24 : rtOf 24 = 1 := rfl
theorem zm_24 : mlOf 24 = 4 := rfl
set_option maxRecDepth 100000 in
set_option maxHeartbeats 4000000 in
/-- SupplyBook.left(II)J -/
theorem q_24 (L : Nat) (xs : Nat → Int) (d : Nat) (S : AH) (p1 : Int) (p2 : Int) : ev (WK L xs) (d + 1) 24 [vr 15, vi p1, vi p2] S = (bindR ((ev (WK L xs) d) 168 [vr 36, vi p1] S) (fun r1 S2 => (if r1.toNat = 0 then (some ((-1000000000000 : Int), S2)) else (gd (!(Nat.beq r1.toNat 14)) (bindR ((ev (WK L xs) d) 14 [vi p2] S2) (fun r3 S4 => (if r3 = 0 then (some ((-1000000000000 : Int), S4)) else (bindR ((ev (WK L xs) d) 174 [vr 36, vr r1.toNat, vi p2] S4) (fun r5 S6 => (if r5 = 0 then (some ((-1000000000000 : Int), S6)) else (bindR ((ev (WK L xs) d) 19 [vr 15, vi p1, vr r1.toNat, vi p2] S6) (fun r7 S8 => (some (r7, S8)))))))))))))) := by rw [ev_eq, zc_24, zr_24, zm_24]; rfl
theorem zc_25 : csOf 25 = cs_25 := rfl
theorem zr_25 : rtOf 25 = 0 := rfl
theorem zm_25 : mlOf 25 = 7 := rfl
set_option maxRecDepth 100000 in
set_option maxHeartbeats 4000000 in
/-- SupplyBook.claim(IIIIIZ)I -/
theorem q_25 (L : Nat) (xs : Nat → Int) (d : Nat) (S : AH) (p1 : Int) (p2 : Int) (p3 : Int) (p4 : Int) (p5 : Int) (p6 : Int) : ev (WK L xs) (d + 1) 25 [vr 15, vi p1, vi p2, vi p3, vi p4, vi p5, vi p6] S = (bindR ((ev (WK L xs) d) 129 [vr 17, vi p1] S) (fun r1 S2 => (if r1 = 0 then (some ((-1 : Int), S2)) else (bindR ((ev (WK L xs) d) 130 [vr 17, vi p1] S2) (fun r3 S4 => (bindR ((ev (WK L xs) d) 127 [vr 17, vi p2, vi r3] S4) (fun r5 S6 => (if r5 = 0 then (some ((-1 : Int), S6)) else (if p3 < 0 then (some ((-1 : Int), S6)) else (if (9 : Int) < p3 then (some ((-1 : Int), S6)) else (bindR ((ev (WK L xs) d) 13 [vi p4] S6) (fun r7 S8 => (if r7 = 0 then (some ((-1 : Int), S8)) else (if p4 < (1 : Int) then (some ((-1 : Int), S8)) else (if p5 = (-1 : Int) then (gd (Nat.beq (shp (WK L xs) (nw S8 12 15) S8.1.1).1 12 && Nat.ble 2 8) (bindR ((ev (WK L xs) d) 77 [vr S8.1.1, vi p1, vi p2, vi p3, vi p4, vi p5, vi p6] (nw S8 12 15)) (fun r9 S10 => (bindR ((ev (WK L xs) d) 82 [vr 43, vr S8.1.1] S10) (fun r11 S12 => (some (r11, S12))))))) else (bindR ((ev (WK L xs) d) 172 [vr 36, vi p5] S8) (fun r13 S14 => (if r13 = 0 then (some ((-1 : Int), S14)) else (gd (Nat.beq (shp (WK L xs) (nw S14 12 15) S14.1.1).1 12 && Nat.ble 2 8) (bindR ((ev (WK L xs) d) 77 [vr S14.1.1, vi p1, vi p2, vi p3, vi p4, vi p5, vi p6] (nw S14 12 15)) (fun r15 S16 => (bindR ((ev (WK L xs) d) 82 [vr 43, vr S14.1.1] S16) (fun r17 S18 => (some (r17, S18))))))))))))))))))))))))) := by rw [ev_eq, zc_25, zr_25, zm_25]; rfl
theorem zc_26 : csOf 26 = cs_26 := rfl
theorem zr_26 : rtOf 26 = 4 := rfl
theorem zm_26 : mlOf 26 = 4 := rfl
set_option maxRecDepth 100000 in
set_option maxHeartbeats 4000000 in
/-- SupplyBook.sign(II)Z -/
theorem q_26 (L : Nat) (xs : Nat → Int) (d : Nat) (S : AH) (p1 : Int) (p2 : Int) : ev (WK L xs) (d + 1) 26 [vr 15, vi p1, vi p2] S = (bindR ((ev (WK L xs) d) 80 [vr 43, vi p1] S) (fun r1 S2 => (if r1.toNat = 0 then (some ((0 : Int), S2)) else (gd (!(Nat.beq r1.toNat 14)) (gd (Nat.beq (shp (WK L xs) S2 r1.toNat).1 12 && Nat.ble 0 8) (bindR ((ev (WK L xs) d) 76 [vr r1.toNat] S2) (fun r3 S4 => (if r3 = 0 then (bindR ((ev (WK L xs) d) 129 [vr 17, vi p2] S4) (fun r5 S6 => (if r5 = 0 then (some ((0 : Int), S6)) else (gd (Nat.beq (shp (WK L xs) S6 r1.toNat).1 12) (if (rdv (WK L xs) S6 r1.toNat 0) = p2 then (some ((0 : Int), S6)) else (gd (Nat.beq (shp (WK L xs) S6 r1.toNat).1 12) (if (iand (ishr (rdv (WK L xs) S6 r1.toNat 6) p2) (1 : Int)) = 0 then (gd (Nat.beq (shp (WK L xs) S6 r1.toNat).1 12) (bindR ((ev (WK L xs) d) 130 [vr 17, vi p2] S6) (fun r7 S8 => (bindR ((ev (WK L xs) d) 127 [vr 17, vi (rdv (WK L xs) S6 r1.toNat 1), vi r7] S8) (fun r9 S10 => (if r9 = 0 then (some ((0 : Int), S10)) else (gd (Nat.beq (shp (WK L xs) S10 r1.toNat).1 12) (gd (Nat.beq (shp (WK L xs) S10 r1.toNat).1 12 && wok (WK L xs) r1.toNat 6) (some ((1 : Int), (wr S10 r1.toNat 6 (ior (rdv (WK L xs) S10 r1.toNat 6) (ishl (1 : Int) p2))))))))))))) else (some ((0 : Int), S6))))))))) else (some ((0 : Int), S4)))))))))) := by rw [ev_eq, zc_26, zr_26, zm_26]; rfl
theorem zc_27 : csOf 27 = cs_27 := rfl
theorem zr_27 : rtOf 27 = 0 := rfl
theorem zm_27 : mlOf 27 = 3 := rfl
set_option maxRecDepth 100000 in
set_option maxHeartbeats 4000000 in
/-- SupplyBook.may(I)I -/
theorem q_27 (L : Nat) (xs : Nat → Int) (d : Nat) (S : AH) (p1 : Int) : ev (WK L xs) (d + 1) 27 [vr 15, vi p1] S = (bindR ((ev (WK L xs) d) 80 [vr 43, vi p1] S) (fun r1 S2 => (if r1.toNat = 0 then (some ((-1 : Int), S2)) else (gd (!(Nat.beq r1.toNat 14)) (gd (Nat.beq (shp (WK L xs) S2 r1.toNat).1 12 && Nat.ble 0 8) (bindR ((ev (WK L xs) d) 76 [vr r1.toNat] S2) (fun r3 S4 => (if r3 = 0 then (bindR ((ev (WK L xs) d) 28 [vr 15, vr r1.toNat] S4) (fun r5 S6 => (some (r5, S6)))) else (some ((-1 : Int), S4)))))))))) := by rw [ev_eq, zc_27, zr_27, zm_27]; rfl
theorem zc_28 : csOf 28 = cs_28 := rfl
theorem zr_28 : rtOf 28 = 0 := rfl
theorem zm_28 : mlOf 28 = 7 := rfl
set_option maxRecDepth 100000 in
set_option maxHeartbeats 4000000 in
/-- SupplyBook.whoLets(LSupplyBook$Claim;)I -/
theorem q_28 (L : Nat) (xs : Nat → Int) (d : Nat) (S : AH) (p1 : Nat) : ev (WK L xs) (d + 1) 28 [vr 15, vr p1] S = (bindR ((ev (WK L xs) d) 104 [vr 31, vi (S.2 15 0)] S) (fun r1 S2 => (bindR ((ev (WK L xs) d) 29 [vr 15, vr p1] S2) (fun r3 S4 => (gd (Nat.beq (shp (WK L xs) S4 p1).1 12) (if (rdv (WK L xs) S4 p1 4) = (-1 : Int) then (LQ (WK L xs) (ev (WK L xs) d) 28 68 [some (vr 15), some (vr p1), some (vi (1 : Int)), some (vi (0 : Int)), none, none, none] [] S4) else (gd (Nat.beq (shp (WK L xs) S4 p1).1 12) (bindR ((ev (WK L xs) d) 176 [vr 36, vi (rdv (WK L xs) S4 p1 4)] S4) (fun r5 S6 => (bindR ((ev (WK L xs) d) 168 [vr 36, vi r5] S6) (fun r7 S8 => (bindR ((ev (WK L xs) d) 30 [vr 15, vr p1, vi r5, vr r7.toNat] S8) (fun r9 S10 => (if r9 = 0 then (some (r5, S10)) else (some ((w32 ((-10 : Int) - r9)), S10)))))))))))))))) := by rw [ev_eq, zc_28, zr_28, zm_28]; rfl
set_option maxRecDepth 100000 in
set_option maxHeartbeats 4000000 in
theorem q_28_68 (L : Nat) (xs : Nat → Int) (d : Nat) (S : AH) (x1 : Nat) (x2 : Int) (x3 : Int) : LQ (WK L xs) (ev (WK L xs) d) 28 68 [some (vr 15), some (vr x1), some (vi x2), some (vi x3), none, none, none] [] S = (if x3 < (4 : Int) then (LQ (WK L xs) (ev (WK L xs) d) 28 79 [some (vr 15), some (vr x1), some (vi x2), some (vi x3), some (vi (0 : Int)), none, none] [] S) else (some ((w32 ((-10 : Int) - x2)), S))) := by rw [LQ_eq, zc_28, zr_28]; rfl
set_option maxRecDepth 100000 in
set_option maxHeartbeats 4000000 in
theorem q_28_79 (L : Nat) (xs : Nat → Int) (d : Nat) (S : AH) (x1 : Nat) (x2 : Int) (x3 : Int) (x4 : Int) : LQ (WK L xs) (ev (WK L xs) d) 28 79 [some (vr 15), some (vr x1), some (vi x2), some (vi x3), some (vi x4), none, none] [] S = (if x4 < (S.2 36 1) then (bindR ((ev (WK L xs) d) 168 [vr 36, vi x4] S) (fun r1 S2 => (if r1.toNat = 0 then (LQ (WK L xs) (ev (WK L xs) d) 28 79 [some (vr 15), some (vr x1), some (vi x2), some (vi x3), some (vi (w32 (x4 + (1 : Int)))), none, none] [] S2) else (gd (!(Nat.beq r1.toNat 14)) (gd (Nat.beq (shp (WK L xs) S2 r1.toNat).1 11) (if 0 ≤ x3 ∧ x3 < (4 : Int) then (if (rdv (WK L xs) S2 r1.toNat 0) = (rdv (WK L xs) S2 2 x3.toNat) then (bindR ((ev (WK L xs) d) 30 [vr 15, vr x1, vi x4, vr r1.toNat] S2) (fun r3 S4 => (if r3 = 0 then (some (x4, S4)) else (LQ (WK L xs) (ev (WK L xs) d) 28 79 [some (vr 15), some (vr x1), some (vi (max x2 r3)), some (vi x3), some (vi (w32 (x4 + (1 : Int)))), none, none] [] S4)))) else (LQ (WK L xs) (ev (WK L xs) d) 28 79 [some (vr 15), some (vr x1), some (vi x2), some (vi x3), some (vi (w32 (x4 + (1 : Int)))), none, none] [] S2)) else none)))))) else (LQ (WK L xs) (ev (WK L xs) d) 28 68 [some (vr 15), some (vr x1), some (vi x2), some (vi (w32 (x3 + (1 : Int)))), none, none, none] [] S)) := by rw [LQ_eq, zc_28, zr_28]; rfl
theorem zc_29 : csOf 29 = cs_29 := rfl
theorem zr_29 : rtOf 29 = 9 := rfl
theorem zm_29 : mlOf 29 = 2 := rfl
set_option maxRecDepth 100000 in
set_option maxHeartbeats 4000000 in
/-- SupplyBook.tellReader(LSupplyBook$Claim;)V -/
theorem q_29 (L : Nat) (xs : Nat → Int) (d : Nat) (S : AH) (p1 : Nat) : ev (WK L xs) (d + 1) 29 [vr 15, vr p1] S = (gd (Nat.beq (shp (WK L xs) S p1).1 12) (bindR ((ev (WK L xs) d) 126 [vr 17, vi (rdv (WK L xs) S p1 1)] S) (fun r1 S2 => (gd (Nat.beq (shp (WK L xs) S2 p1).1 12) (bindR ((ev (WK L xs) d) 131 [vr 17, vi (rdv (WK L xs) S2 p1 6)] S2) (fun r3 S4 => (bindR ((ev (WK L xs) d) 155 [vr 22, vr p1, vl r1, vi r3] S4) (fun r5 S6 => (gd (Nat.beq (shp (WK L xs) S6 p1).1 12) (bindR ((ev (WK L xs) d) 17 [vi (S6.2 15 0)] S6) (fun r7 S8 => (bindR ((ev (WK L xs) d) 83 [vr 43, vi (rdv (WK L xs) S6 p1 0), vi r7] S8) (fun r9 S10 => (bindR ((ev (WK L xs) d) 156 [vr 22, vi (Int.tmod (S6.2 15 0) (360 : Int)), vi r9] S10) (fun r11 S12 => (some (0, S12))))))))))))))))) := by rw [ev_eq, zc_29, zr_29, zm_29]; rfl
theorem zc_30 : csOf 30 = cs_30 := rfl
theorem zr_30 : rtOf 30 = 0 := rfl
theorem zm_30 : mlOf 30 = 11 := rfl
set_option maxRecDepth 100000 in
set_option maxHeartbeats 4000000 in
/-- SupplyBook.barOf(LSupplyBook$Claim;ILSupplyBook$Authority;)I -/
theorem q_30 (L : Nat) (xs : Nat → Int) (d : Nat) (S : AH) (p1 : Nat) (p2 : Int) (p3 : Nat) : ev (WK L xs) (d + 1) 30 [vr 15, vr p1, vi p2, vr p3] S = (bindR ((ev (WK L xs) d) 17 [vi (S.2 15 0)] S) (fun r1 S2 => (if p3 = 0 then (some ((1 : Int), S2)) else (gd (!(Nat.beq p3 14)) (gd (Nat.beq (shp (WK L xs) S2 p1).1 12) (gd (Nat.beq (shp (WK L xs) S2 p3).1 11) (bindR ((ev (WK L xs) d) 127 [vr 17, vi (rdv (WK L xs) S2 p1 1), vi (rdv (WK L xs) S2 p3 1)] S2) (fun r3 S4 => (if r3 = 0 then (some ((1 : Int), S4)) else (bindR ((ev (WK L xs) d) 174 [vr 36, vr p3, vi r1] S4) (fun r5 S6 => (if r5 = 0 then (some ((1 : Int), S6)) else (gd (Nat.beq (shp (WK L xs) S6 p3).1 11) (if (rdv (WK L xs) S6 p3 7) = (-1 : Int) then (gd (Nat.beq (shp (WK L xs) S6 p3).1 11) (if (rdv (WK L xs) S6 p3 8) = (-1 : Int) then (bindR ((ev (WK L xs) d) 19 [vr 15, vi p2, vr p3, vi r1] S6) (fun r7 S8 => (gd (Nat.beq (shp (WK L xs) S8 p1).1 12) (if (rdv (WK L xs) S8 p1 4) = (-1 : Int) then (LQ (WK L xs) (ev (WK L xs) d) 30 100 [some (vr 15), some (vr p1), some (vi p2), some (vr p3), some (vi r1), some (vl r7), none, none, none, none, none] [vl r7] S8) else (gd (Nat.beq (shp (WK L xs) S8 p1).1 12) (bindR ((ev (WK L xs) d) 171 [vr 36, vi (rdv (WK L xs) S8 p1 4), vi r1] S8) (fun r9 S10 => (LQ (WK L xs) (ev (WK L xs) d) 30 100 [some (vr 15), some (vr p1), some (vi p2), some (vr p3), some (vi r1), some (vl r7), none, none, none, none, none] [vl r9] S10)))))))) else (some ((2 : Int), S6)))) else (some ((2 : Int), S6)))))))))))))))) := by rw [ev_eq, zc_30, zr_30, zm_30]; rfl
set_option maxRecDepth 100000 in
set_option maxHeartbeats 4000000 in
theorem q_30_100 (L : Nat) (xs : Nat → Int) (d : Nat) (S : AH) (x1 : Nat) (x2 : Int) (x3 : Nat) (x4 : Int) (x5 : Int) (t0 : Int) : LQ (WK L xs) (ev (WK L xs) d) 30 100 [some (vr 15), some (vr x1), some (vi x2), some (vr x3), some (vi x4), some (vl x5), none, none, none, none, none] [vl t0] S = (gd (Nat.beq (shp (WK L xs) S x1).1 12) (if (lcmp t0 (rdv (WK L xs) S x1 3)) < 0 then (some ((3 : Int), S)) else (bindR ((ev (WK L xs) d) 31 [vr 15, vr x1, vi x2, vi x4] S) (fun r1 S2 => (if r1 = 0 then (bindR ((ev (WK L xs) d) 157 [vr 22, vl x5] S2) (fun r3 S4 => (gd (Nat.beq (shp (WK L xs) S4 x3).1 11) (bindR ((ev (WK L xs) d) 158 [vr 22, vr (rdv (WK L xs) S4 x3 5).toNat, vi (-1 : Int)] S4) (fun r5 S6 => (LQ (WK L xs) (ev (WK L xs) d) 30 154 [some (vr 15), none, none, none, none, none, none, none, none, some (vi r5), some (vi (0 : Int))] [] S6)))))) else (some ((4 : Int), S2))))))) := by rw [LQ_eq, zc_30, zr_30]; rfl
set_option maxRecDepth 100000 in
set_option maxHeartbeats 4000000 in
theorem q_30_154 (L : Nat) (xs : Nat → Int) (d : Nat) (S : AH) (x9 : Int) (x10 : Int) : LQ (WK L xs) (ev (WK L xs) d) 30 154 [some (vr 15), none, none, none, none, none, none, none, none, some (vi x9), some (vi x10)] [] S = (if x10 < (S.2 31 4) then (if x9 = 0 then (bindR ((ev (WK L xs) d) 106 [vr 31, vi x10] S) (fun r1 S2 => (bindR ((ev (WK L xs) d) 107 [vr 31, vi x10] S2) (fun r3 S4 => (bindR ((ev (WK L xs) d) 158 [vr 22, vr r1.toNat, vi r3] S4) (fun r5 S6 => (LQ (WK L xs) (ev (WK L xs) d) 30 154 [some (vr 15), none, none, none, none, none, none, none, none, some (vi r5), some (vi (w32 (x10 + (1 : Int))))] [] S6))))))) else (some (x9, S))) else (some (x9, S))) := by rw [LQ_eq, zc_30, zr_30]; rfl
theorem zc_31 : csOf 31 = cs_31 := rfl
theorem zr_31 : rtOf 31 = 4 := rfl
theorem zm_31 : mlOf 31 = 6 := rfl
set_option maxRecDepth 100000 in
set_option maxHeartbeats 4000000 in
/-- SupplyBook.isOverCeiling(LSupplyBook$Claim;II)Z -/
theorem q_31 (L : Nat) (xs : Nat → Int) (d : Nat) (S : AH) (p1 : Nat) (p2 : Int) (p3 : Int) : ev (WK L xs) (d + 1) 31 [vr 15, vr p1, vi p2, vi p3] S = (LQ (WK L xs) (ev (WK L xs) d) 31 3 [some (vr 15), some (vr p1), some (vi p2), some (vi p3), some (vi (0 : Int)), none] [] S) := by rw [ev_eq, zc_31, zr_31, zm_31]; rfl
set_option maxRecDepth 100000 in
set_option maxHeartbeats 4000000 in
theorem q_31_3 (L : Nat) (xs : Nat → Int) (d : Nat) (S : AH) (x1 : Nat) (x2 : Int) (x3 : Int) (x4 : Int) : LQ (WK L xs) (ev (WK L xs) d) 31 3 [some (vr 15), some (vr x1), some (vi x2), some (vi x3), some (vi x4), none] [] S = (if x4 < (S.2 36 1) then (bindR ((ev (WK L xs) d) 168 [vr 36, vi x4] S) (fun r1 S2 => (if r1.toNat = 0 then (LQ (WK L xs) (ev (WK L xs) d) 31 3 [some (vr 15), some (vr x1), some (vi x2), some (vi x3), some (vi (w32 (x4 + (1 : Int)))), none] [] S2) else (gd (!(Nat.beq r1.toNat 14)) (gd (Nat.beq (shp (WK L xs) S2 r1.toNat).1 11) (if (rdv (WK L xs) S2 r1.toNat 0) = (1 : Int) then (gd (Nat.beq (shp (WK L xs) S2 r1.toNat).1 11) (if (rdv (WK L xs) S2 r1.toNat 6) = x2 then (gd (Nat.beq (shp (WK L xs) S2 r1.toNat).1 11) (if (rdv (WK L xs) S2 r1.toNat 7) = (-1 : Int) then (gd (Nat.beq (shp (WK L xs) S2 x1).1 12) (gd (Nat.beq (shp (WK L xs) S2 r1.toNat).1 11) (bindR ((ev (WK L xs) d) 127 [vr 17, vi (rdv (WK L xs) S2 x1 1), vi (rdv (WK L xs) S2 r1.toNat 1)] S2) (fun r3 S4 => (if r3 = 0 then (LQ (WK L xs) (ev (WK L xs) d) 31 3 [some (vr 15), some (vr x1), some (vi x2), some (vi x3), some (vi (w32 (x4 + (1 : Int)))), none] [] S4) else (bindR ((ev (WK L xs) d) 19 [vr 15, vi x4, vr r1.toNat, vi x3] S4) (fun r5 S6 => (gd (Nat.beq (shp (WK L xs) S6 x1).1 12) (if (lcmp r5 (rdv (WK L xs) S6 x1 3)) < 0 then (some ((1 : Int), S6)) else (LQ (WK L xs) (ev (WK L xs) d) 31 3 [some (vr 15), some (vr x1), some (vi x2), some (vi x3), some (vi (w32 (x4 + (1 : Int)))), none] [] S6)))))))))) else (LQ (WK L xs) (ev (WK L xs) d) 31 3 [some (vr 15), some (vr x1), some (vi x2), some (vi x3), some (vi (w32 (x4 + (1 : Int)))), none] [] S2))) else (LQ (WK L xs) (ev (WK L xs) d) 31 3 [some (vr 15), some (vr x1), some (vi x2), some (vi x3), some (vi (w32 (x4 + (1 : Int)))), none] [] S2))) else (LQ (WK L xs) (ev (WK L xs) d) 31 3 [some (vr 15), some (vr x1), some (vi x2), some (vi x3), some (vi (w32 (x4 + (1 : Int)))), none] [] S2))))))) else (some ((0 : Int), S))) := by rw [LQ_eq, zc_31, zr_31]; rfl
theorem zc_32 : csOf 32 = cs_32 := rfl
theorem zr_32 : rtOf 32 = 0 := rfl
theorem zm_32 : mlOf 32 = 5 := rfl
set_option maxRecDepth 100000 in
set_option maxHeartbeats 4000000 in
/-- SupplyBook.pay(I)I -/
theorem q_32 (L : Nat) (xs : Nat → Int) (d : Nat) (S : AH) (p1 : Int) : ev (WK L xs) (d + 1) 32 [vr 15, vi p1] S = (bindR ((ev (WK L xs) d) 80 [vr 43, vi p1] S) (fun r1 S2 => (if r1.toNat = 0 then (some ((-1 : Int), S2)) else (gd (!(Nat.beq r1.toNat 14)) (gd (Nat.beq (shp (WK L xs) S2 r1.toNat).1 12 && Nat.ble 0 8) (bindR ((ev (WK L xs) d) 76 [vr r1.toNat] S2) (fun r3 S4 => (if r3 = 0 then (bindR ((ev (WK L xs) d) 28 [vr 15, vr r1.toNat] S4) (fun r5 S6 => (bindR ((ev (WK L xs) d) 168 [vr 36, vi r5] S6) (fun r7 S8 => (if r7.toNat = 0 then (some (r5, S8)) else (gd (!(Nat.beq r7.toNat 14)) (gd (Nat.beq (shp (WK L xs) S8 r1.toNat).1 12) (if (lcmp (S8.2 15 1) (rdv (WK L xs) S8 r1.toNat 3)) < 0 then (some ((-9 : Int), S8)) else (gd (Nat.beq (shp (WK L xs) S8 r1.toNat).1 12) (bindR ((ev (WK L xs) d) 17 [vi (S8.2 15 0)] (wr S8 15 1 (w64 ((S8.2 15 1) - (rdv (WK L xs) S8 r1.toNat 3))))) (fun r9 S10 => (gd (Nat.beq (shp (WK L xs) S10 r1.toNat).1 12) (gd (Nat.beq (shp (WK L xs) S10 r7.toNat).1 11 && Nat.ble 0 8) (bindR ((ev (WK L xs) d) 72 [vr r7.toNat, vi r9, vl (rdv (WK L xs) S10 r1.toNat 3)] S10) (fun r11 S12 => (gd (Nat.beq (shp (WK L xs) S12 r1.toNat).1 12) (bindR ((ev (WK L xs) d) 17 [vi (S12.2 15 0)] S12) (fun r13 S14 => (gd (Nat.beq (shp (WK L xs) S14 r1.toNat).1 12) (bindR ((ev (WK L xs) d) 177 [vr 36, vi (rdv (WK L xs) S12 r1.toNat 4), vi r13, vi (rdv (WK L xs) S14 r1.toNat 3)] S14) (fun r15 S16 => (bindR ((ev (WK L xs) d) 84 [vr 43, vi p1, vi r5, vi (S16.2 15 0)] S16) (fun r17 S18 => (some (r5, S18))))))))))))))))))))))))) else (some ((-1 : Int), S4)))))))))) := by rw [ev_eq, zc_32, zr_32, zm_32]; rfl
theorem zc_33 : csOf 33 = cs_33 := rfl
theorem zr_33 : rtOf 33 = 0 := rfl
theorem zm_33 : mlOf 33 = 5 := rfl
set_option maxRecDepth 100000 in
set_option maxHeartbeats 4000000 in
/-- SupplyBook.ask(IIIZ)I -/
theorem q_33 (L : Nat) (xs : Nat → Int) (d : Nat) (S : AH) (p1 : Int) (p2 : Int) (p3 : Int) (p4 : Int) : ev (WK L xs) (d + 1) 33 [vr 15, vi p1, vi p2, vi p3, vi p4] S = (bindR ((ev (WK L xs) d) 125 [vr 17, vi p1] S) (fun r1 S2 => (if r1 = 0 then (some ((-1 : Int), S2)) else (bindR ((ev (WK L xs) d) 13 [vi p2] S2) (fun r3 S4 => (if r3 = 0 then (some ((-1 : Int), S4)) else (if p3 < 0 then (some ((-1 : Int), S4)) else (if (1000000 : Int) < p3 then (some ((-1 : Int), S4)) else (bindR ((ev (WK L xs) d) 94 [vr 50, vi p2, vi p3, vi p4] S4) (fun r5 S6 => (some (r5, S6)))))))))))) := by rw [ev_eq, zc_33, zr_33, zm_33]; rfl
theorem zc_34 : csOf 34 = cs_34 := rfl
theorem zr_34 : rtOf 34 = 0 := rfl
theorem zm_34 : mlOf 34 = 2 := rfl
set_option maxRecDepth 100000 in
set_option maxHeartbeats 4000000 in
/-- SupplyBook.cut(I)I -/
theorem q_34 (L : Nat) (xs : Nat → Int) (d : Nat) (S : AH) (p1 : Int) : ev (WK L xs) (d + 1) 34 [vr 15, vi p1] S = (bindR ((ev (WK L xs) d) 13 [vi p1] S) (fun r1 S2 => (if r1 = 0 then (some ((-1 : Int), S2)) else (bindR ((ev (WK L xs) d) 95 [vr 50, vi p1] S2) (fun r3 S4 => (some (r3, S4))))))) := by rw [ev_eq, zc_34, zr_34, zm_34]; rfl
theorem zc_35 : csOf 35 = cs_35 := rfl
theorem zr_35 : rtOf 35 = 1 := rfl
theorem zm_35 : mlOf 35 = 2 := rfl
set_option maxRecDepth 100000 in
set_option maxHeartbeats 4000000 in
/-- SupplyBook.more(I)J -/
theorem q_35 (L : Nat) (xs : Nat → Int) (d : Nat) (S : AH) (p1 : Int) : ev (WK L xs) (d + 1) 35 [vr 15, vi p1] S = (bindR ((ev (WK L xs) d) 13 [vi p1] S) (fun r1 S2 => (if r1 = 0 then (some ((-1 : Int), S2)) else (bindR ((ev (WK L xs) d) 98 [vr 50, vi p1] S2) (fun r3 S4 => (some (r3, S4))))))) := by rw [ev_eq, zc_35, zr_35, zm_35]; rfl
theorem zc_36 : csOf 36 = cs_36 := rfl
theorem zr_36 : rtOf 36 = 4 := rfl
theorem zm_36 : mlOf 36 = 3 := rfl
set_option maxRecDepth 100000 in
set_option maxHeartbeats 4000000 in
/-- SupplyBook.comes(II)Z -/
theorem q_36 (L : Nat) (xs : Nat → Int) (d : Nat) (S : AH) (p1 : Int) (p2 : Int) : ev (WK L xs) (d + 1) 36 [vr 15, vi p1, vi p2] S = (bindR ((ev (WK L xs) d) 37 [vi p1] S) (fun r1 S2 => (if r1 = 0 then (some ((0 : Int), S2)) else (bindR ((ev (WK L xs) d) 13 [vi p2] S2) (fun r3 S4 => (if r3 = 0 then (some ((0 : Int), S4)) else (bindR ((ev (WK L xs) d) 179 [vr 54, vi p1, vi (S4.2 15 0), vi p2] S4) (fun r5 S6 => (if r5 = 0 then (some ((0 : Int), S6)) else (some ((1 : Int), (wr S6 15 1 (w64 ((S6.2 15 1) + p2)))))))))))))) := by rw [ev_eq, zc_36, zr_36, zm_36]; rfl
theorem zc_37 : csOf 37 = cs_37 := rfl
theorem zr_37 : rtOf 37 = 4 := rfl
theorem zm_37 : mlOf 37 = 1 := rfl
set_option maxRecDepth 100000 in
set_option maxHeartbeats 4000000 in
/-- SupplyBook.isTax(I)Z -/
theorem q_37 (L : Nat) (xs : Nat → Int) (d : Nat) (S : AH) (p1 : Int) : ev (WK L xs) (d + 1) 37 [vi p1] S = (if p1 < 0 then (some ((0 : Int), S)) else (if p1 < (6 : Int) then (some ((1 : Int), S)) else (some ((0 : Int), S)))) := by rw [ev_eq, zc_37, zr_37, zm_37]; rfl
theorem zc_38 : csOf 38 = cs_38 := rfl
theorem zr_38 : rtOf 38 = 0 := rfl
theorem zm_38 : mlOf 38 = 1 := rfl
set_option maxRecDepth 100000 in
set_option maxHeartbeats 4000000 in
/-- SupplyBook.weekOf(I)I -/
theorem q_38 (L : Nat) (xs : Nat → Int) (d : Nat) (S : AH) (p1 : Int) : ev (WK L xs) (d + 1) 38 [vi p1] S = (some ((idiv (Int.tmod p1 (360 : Int)) (7 : Int)), S)) := by rw [ev_eq, zc_38, zr_38, zm_38]; rfl
theorem zc_39 : csOf 39 = cs_39 := rfl
theorem zr_39 : rtOf 39 = 1 := rfl
theorem zm_39 : mlOf 39 = 4 := rfl
set_option maxRecDepth 100000 in
set_option maxHeartbeats 4000000 in
/-- SupplyBook.came(III)J -/
theorem q_39 (L : Nat) (xs : Nat → Int) (d : Nat) (S : AH) (p1 : Int) (p2 : Int) (p3 : Int) : ev (WK L xs) (d + 1) 39 [vr 15, vi p1, vi p2, vi p3] S = (bindR ((ev (WK L xs) d) 37 [vi p1] S) (fun r1 S2 => (if r1 = 0 then (some ((-1 : Int), S2)) else (bindR ((ev (WK L xs) d) 14 [vi p2] S2) (fun r3 S4 => (if r3 = 0 then (some ((-1 : Int), S4)) else (bindR ((ev (WK L xs) d) 40 [vi p3] S4) (fun r5 S6 => (if r5 = 0 then (some ((-1 : Int), S6)) else (bindR ((ev (WK L xs) d) 181 [vr 54, vi p1, vi p2, vi p3] S6) (fun r7 S8 => (some (r7, S8))))))))))))) := by rw [ev_eq, zc_39, zr_39, zm_39]; rfl
theorem zc_40 : csOf 40 = cs_40 := rfl
theorem zr_40 : rtOf 40 = 4 := rfl
theorem zm_40 : mlOf 40 = 1 := rfl
set_option maxRecDepth 100000 in
set_option maxHeartbeats 4000000 in
/-- SupplyBook.isWeek(I)Z -/
theorem q_40 (L : Nat) (xs : Nat → Int) (d : Nat) (S : AH) (p1 : Int) : ev (WK L xs) (d + 1) 40 [vi p1] S = (if p1 < 0 then (some ((0 : Int), S)) else (if p1 < (52 : Int) then (some ((1 : Int), S)) else (some ((0 : Int), S)))) := by rw [ev_eq, zc_40, zr_40, zm_40]; rfl
theorem zc_41 : csOf 41 = cs_41 := rfl
theorem zr_41 : rtOf 41 = 1 := rfl
theorem zm_41 : mlOf 41 = 4 := rfl
set_option maxRecDepth 100000 in
set_option maxHeartbeats 4000000 in
/-- SupplyBook.foretold(III)J -/
theorem q_41 (L : Nat) (xs : Nat → Int) (d : Nat) (S : AH) (p1 : Int) (p2 : Int) (p3 : Int) : ev (WK L xs) (d + 1) 41 [vr 15, vi p1, vi p2, vi p3] S = (bindR ((ev (WK L xs) d) 37 [vi p1] S) (fun r1 S2 => (if r1 = 0 then (some ((-1 : Int), S2)) else (bindR ((ev (WK L xs) d) 40 [vi p2] S2) (fun r3 S4 => (if r3 = 0 then (some ((-1 : Int), S4)) else (if p3 < 0 then (some ((-1 : Int), S4)) else (if (2 : Int) < p3 then (some ((-1 : Int), S4)) else (bindR ((ev (WK L xs) d) 38 [vi (S4.2 15 0)] S4) (fun r5 S6 => (if r5 < p2 then (bindR ((ev (WK L xs) d) 182 [vr 54, vi p1, vi p2, vi p3, vi (S6.2 15 0)] S6) (fun r7 S8 => (some (r7, S8)))) else (some ((-1 : Int), S6))))))))))))) := by rw [ev_eq, zc_41, zr_41, zm_41]; rfl
theorem zc_42 : csOf 42 = cs_42 := rfl
theorem zr_42 : rtOf 42 = 4 := rfl
theorem zm_42 : mlOf 42 = 3 := rfl
set_option maxRecDepth 100000 in
set_option maxHeartbeats 4000000 in
/-- SupplyBook.due(II)Z -/
theorem q_42 (L : Nat) (xs : Nat → Int) (d : Nat) (S : AH) (p1 : Int) (p2 : Int) : ev (WK L xs) (d + 1) 42 [vr 15, vi p1, vi p2] S = (bindR ((ev (WK L xs) d) 40 [vi p1] S) (fun r1 S2 => (if r1 = 0 then (some ((0 : Int), S2)) else (bindR ((ev (WK L xs) d) 13 [vi p2] S2) (fun r3 S4 => (if r3 = 0 then (some ((0 : Int), S4)) else (bindR ((ev (WK L xs) d) 17 [vi (S4.2 15 0)] S4) (fun r5 S6 => (bindR ((ev (WK L xs) d) 183 [vr 54, vi r5, vi p1, vi p2] S6) (fun r7 S8 => (some ((1 : Int), S8)))))))))))) := by rw [ev_eq, zc_42, zr_42, zm_42]; rfl
theorem zc_43 : csOf 43 = cs_43 := rfl
theorem zr_43 : rtOf 43 = 0 := rfl
theorem zm_43 : mlOf 43 = 1 := rfl
set_option maxRecDepth 100000 in
set_option maxHeartbeats 4000000 in
/-- SupplyBook.shortWeek()I -/
theorem q_43 (L : Nat) (xs : Nat → Int) (d : Nat) (S : AH)  : ev (WK L xs) (d + 1) 43 [vr 15] S = (bindR ((ev (WK L xs) d) 184 [vr 54, vl (S.2 15 1), vi (S.2 15 0)] S) (fun r1 S2 => (bindR ((ev (WK L xs) d) 186 [vr 54, vi (0 : Int), vi (S2.2 15 0)] S2) (fun r3 S4 => (some (r3, S4)))))) := by rw [ev_eq, zc_43, zr_43, zm_43]; rfl
theorem zc_44 : csOf 44 = cs_44 := rfl
theorem zr_44 : rtOf 44 = 0 := rfl
theorem zm_44 : mlOf 44 = 5 := rfl
set_option maxRecDepth 100000 in
set_option maxHeartbeats 4000000 in
/-- SupplyBook.offer(IIII)I -/
theorem q_44 (L : Nat) (xs : Nat → Int) (d : Nat) (S : AH) (p1 : Int) (p2 : Int) (p3 : Int) (p4 : Int) : ev (WK L xs) (d + 1) 44 [vr 15, vi p1, vi p2, vi p3, vi p4] S = (bindR ((ev (WK L xs) d) 13 [vi p1] S) (fun r1 S2 => (if r1 = 0 then (some ((-1 : Int), S2)) else (bindR ((ev (WK L xs) d) 40 [vi p2] S2) (fun r3 S4 => (if r3 = 0 then (some ((-1 : Int), S4)) else (if p3 < (1 : Int) then (some ((-1 : Int), S4)) else (if p3 < (52 : Int) then (bindR ((ev (WK L xs) d) 13 [vi p4] S4) (fun r5 S6 => (if r5 = 0 then (some ((-1 : Int), S6)) else (bindR ((ev (WK L xs) d) 188 [vr 54, vi p1, vi p2, vi p3, vi p4] S6) (fun r7 S8 => (some (r7, S8))))))) else (some ((-1 : Int), S4)))))))))) := by rw [ev_eq, zc_44, zr_44, zm_44]; rfl
theorem zc_45 : csOf 45 = cs_45 := rfl
theorem zr_45 : rtOf 45 = 0 := rfl
theorem zm_45 : mlOf 45 = 1 := rfl
set_option maxRecDepth 100000 in
set_option maxHeartbeats 4000000 in
/-- SupplyBook.plan()I -/
theorem q_45 (L : Nat) (xs : Nat → Int) (d : Nat) (S : AH)  : ev (WK L xs) (d + 1) 45 [vr 15] S = (bindR ((ev (WK L xs) d) 184 [vr 54, vl (S.2 15 1), vi (S.2 15 0)] S) (fun r1 S2 => (bindR ((ev (WK L xs) d) 189 [vr 54, vi (S2.2 15 0)] S2) (fun r3 S4 => (some (r3, S4)))))) := by rw [ev_eq, zc_45, zr_45, zm_45]; rfl
theorem zc_46 : csOf 46 = cs_46 := rfl
theorem zr_46 : rtOf 46 = 1 := rfl
theorem zm_46 : mlOf 46 = 3 := rfl
set_option maxRecDepth 100000 in
set_option maxHeartbeats 4000000 in
/-- SupplyBook.judge(I)J -/
theorem q_46 (L : Nat) (xs : Nat → Int) (d : Nat) (S : AH) (p1 : Int) : ev (WK L xs) (d + 1) 46 [vr 15, vi p1] S = (bindR ((ev (WK L xs) d) 191 [vr 54, vi p1] S) (fun r1 S2 => (if r1 = 0 then (some ((-1 : Int), S2)) else (bindR ((ev (WK L xs) d) 184 [vr 54, vl (S2.2 15 1), vi (S2.2 15 0)] S2) (fun r3 S4 => (bindR ((ev (WK L xs) d) 186 [vr 54, vi p1, vi (S4.2 15 0)] S4) (fun r5 S6 => (if r5 = (-1 : Int) then (bindR ((ev (WK L xs) d) 190 [vr 54, vi p1] S6) (fun r7 S8 => (some (r7, S8)))) else (some ((w64 ((-2 : Int) - r5)), S6)))))))))) := by rw [ev_eq, zc_46, zr_46, zm_46]; rfl
theorem zc_47 : csOf 47 = cs_47 := rfl
theorem zr_47 : rtOf 47 = 0 := rfl
theorem zm_47 : mlOf 47 = 3 := rfl
set_option maxRecDepth 100000 in
set_option maxHeartbeats 4000000 in
/-- SupplyBook.bid(II)I -/
theorem q_47 (L : Nat) (xs : Nat → Int) (d : Nat) (S : AH) (p1 : Int) (p2 : Int) : ev (WK L xs) (d + 1) 47 [vr 15, vi p1, vi p2] S = (bindR ((ev (WK L xs) d) 13 [vi p1] S) (fun r1 S2 => (if r1 = 0 then (some ((-1 : Int), S2)) else (if p1 < (1 : Int) then (some ((-1 : Int), S2)) else (if p2 < 0 then (some ((-1 : Int), S2)) else (if (9999 : Int) < p2 then (some ((-1 : Int), S2)) else (bindR ((ev (WK L xs) d) 110 [vr 63, vi p1, vi p2] S2) (fun r3 S4 => (some (r3, S4)))))))))) := by rw [ev_eq, zc_47, zr_47, zm_47]; rfl
theorem zc_48 : csOf 48 = cs_48 := rfl
theorem zr_48 : rtOf 48 = 0 := rfl
theorem zm_48 : mlOf 48 = 7 := rfl
set_option maxRecDepth 100000 in
set_option maxHeartbeats 4000000 in
/-- SupplyBook.tender(IZ)I -/
theorem q_48 (L : Nat) (xs : Nat → Int) (d : Nat) (S : AH) (p1 : Int) (p2 : Int) : ev (WK L xs) (d + 1) 48 [vr 15, vi p1, vi p2] S = (bindR ((ev (WK L xs) d) 13 [vi p1] S) (fun r1 S2 => (if r1 = 0 then (some ((-1 : Int), S2)) else (if p1 < (1 : Int) then (some ((-1 : Int), S2)) else (bindR ((ev (WK L xs) d) 111 [vr 63, vi p1] S2) (fun r3 S4 => (bindR ((ev (WK L xs) d) 108 [vr 31, vi (2 : Int), vi (S4.2 15 0)] S4) (fun r5 S6 => (bindR ((ev (WK L xs) d) 113 [vr 63] S6) (fun r7 S8 => (if 0 < (lcmp (w64 (r7 + r3)) (w64 (r5 * (1000 : Int)))) then (some ((-1 : Int), S8)) else (bindR ((ev (WK L xs) d) 114 [vr 63] S8) (fun r9 S10 => (if r9 = 0 then (bindR ((ev (WK L xs) d) 115 [vr 63, vi (S10.2 15 0), vi p2] (wr S10 15 1 (w64 ((S10.2 15 1) + r3)))) (fun r11 S12 => (some (r11, S12)))) else (some ((-1 : Int), S10)))))))))))))))) := by rw [ev_eq, zc_48, zr_48, zm_48]; rfl
theorem zc_49 : csOf 49 = cs_49 := rfl
theorem zr_49 : rtOf 49 = 4 := rfl
theorem zm_49 : mlOf 49 = 6 := rfl
set_option maxRecDepth 100000 in
set_option maxHeartbeats 4000000 in
/-- SupplyBook.repay(I)Z -/
theorem q_49 (L : Nat) (xs : Nat → Int) (d : Nat) (S : AH) (p1 : Int) : ev (WK L xs) (d + 1) 49 [vr 15, vi p1] S = (bindR ((ev (WK L xs) d) 116 [vr 63, vi p1] S) (fun r1 S2 => (if r1 = 0 then (some ((0 : Int), S2)) else (bindR ((ev (WK L xs) d) 117 [vr 63, vi p1] S2) (fun r3 S4 => (if r3 = (-1 : Int) then (bindR ((ev (WK L xs) d) 118 [vr 63, vi p1, vi (S4.2 15 0)] S4) (fun r5 S6 => (bindR ((ev (WK L xs) d) 119 [vr 63, vi p1] S6) (fun r7 S8 => (if (lcmp (S8.2 15 1) (w64 (r7 + r5))) < 0 then (some ((0 : Int), S8)) else (bindR ((ev (WK L xs) d) 120 [vr 63, vi p1, vi (S8.2 15 0), vl r5] (wr S8 15 1 (w64 ((S8.2 15 1) - (w64 (r7 + r5)))))) (fun r9 S10 => (some ((1 : Int), S10))))))))) else (some ((0 : Int), S4)))))))) := by rw [ev_eq, zc_49, zr_49, zm_49]; rfl
theorem zc_50 : csOf 50 = cs_50 := rfl
theorem zr_50 : rtOf 50 = 1 := rfl
theorem zm_50 : mlOf 50 = 3 := rfl
set_option maxRecDepth 100000 in
set_option maxHeartbeats 4000000 in
/-- SupplyBook.loan(II)J -/
theorem q_50 (L : Nat) (xs : Nat → Int) (d : Nat) (S : AH) (p1 : Int) (p2 : Int) : ev (WK L xs) (d + 1) 50 [vr 15, vi p1, vi p2] S = (bindR ((ev (WK L xs) d) 116 [vr 63, vi p1] S) (fun r1 S2 => (if r1 = 0 then (some ((-1 : Int), S2)) else (if p2 = (0 : Int) then (bindR ((ev (WK L xs) d) 119 [vr 63, vi p1] S2) (fun r11 S12 => (some (r11, S12)))) else (if p2 = (1 : Int) then (bindR ((ev (WK L xs) d) 121 [vr 63, vi p1] S2) (fun r9 S10 => (some (r9, S10)))) else (if p2 = (2 : Int) then (bindR ((ev (WK L xs) d) 122 [vr 63, vi p1] S2) (fun r7 S8 => (some (r7, S8)))) else (if p2 = (3 : Int) then (bindR ((ev (WK L xs) d) 117 [vr 63, vi p1] S2) (fun r5 S6 => (some (r5, S6)))) else (if p2 = (4 : Int) then (bindR ((ev (WK L xs) d) 118 [vr 63, vi p1, vi (S2.2 15 0)] S2) (fun r3 S4 => (some (r3, S4)))) else (some ((-1 : Int), S2)))))))))) := by rw [ev_eq, zc_50, zr_50, zm_50]; rfl
theorem zc_51 : csOf 51 = cs_51 := rfl
theorem zr_51 : rtOf 51 = 0 := rfl
theorem zm_51 : mlOf 51 = 4 := rfl
set_option maxRecDepth 100000 in
set_option maxHeartbeats 4000000 in
/-- SupplyBook.draw(III)I -/
theorem q_51 (L : Nat) (xs : Nat → Int) (d : Nat) (S : AH) (p1 : Int) (p2 : Int) (p3 : Int) : ev (WK L xs) (d + 1) 51 [vr 15, vi p1, vi p2, vi p3] S = (bindR ((ev (WK L xs) d) 14 [vi p1] S) (fun r1 S2 => (if r1 = 0 then (some ((-1 : Int), S2)) else (bindR ((ev (WK L xs) d) 13 [vi p2] S2) (fun r3 S4 => (if r3 = 0 then (some ((-1 : Int), S4)) else (bindR ((ev (WK L xs) d) 13 [vi p3] S4) (fun r5 S6 => (if r5 = 0 then (some ((-1 : Int), S6)) else (if p3 < (1 : Int) then (some ((-1 : Int), S6)) else (if p2 < p3 then (bindR ((ev (WK L xs) d) 85 [vr 43, vi p1, vi p2, vi p3] S6) (fun r7 S8 => (some (r7, S8)))) else (some ((-1 : Int), S6))))))))))))) := by rw [ev_eq, zc_51, zr_51, zm_51]; rfl
theorem zc_52 : csOf 52 = cs_52 := rfl
theorem zr_52 : rtOf 52 = 0 := rfl
theorem zm_52 : mlOf 52 = 3 := rfl
set_option maxRecDepth 100000 in
set_option maxHeartbeats 4000000 in
/-- SupplyBook.drawn(II)I -/
theorem q_52 (L : Nat) (xs : Nat → Int) (d : Nat) (S : AH) (p1 : Int) (p2 : Int) : ev (WK L xs) (d + 1) 52 [vr 15, vi p1, vi p2] S = (bindR ((ev (WK L xs) d) 14 [vi p1] S) (fun r1 S2 => (if r1 = 0 then (some ((-1 : Int), S2)) else (if p2 < 0 then (some ((-1 : Int), S2)) else (bindR ((ev (WK L xs) d) 86 [vr 43, vi p1, vi p2] S2) (fun r3 S4 => (some (r3, S4)))))))) := by rw [ev_eq, zc_52, zr_52, zm_52]; rfl
theorem zc_53 : csOf 53 = cs_53 := rfl
theorem zr_53 : rtOf 53 = 4 := rfl
theorem zm_53 : mlOf 53 = 4 := rfl
set_option maxRecDepth 100000 in
set_option maxHeartbeats 4000000 in
/-- SupplyBook.test(II)Z -/
theorem q_53 (L : Nat) (xs : Nat → Int) (d : Nat) (S : AH) (p1 : Int) (p2 : Int) : ev (WK L xs) (d + 1) 53 [vr 15, vi p1, vi p2] S = (bindR ((ev (WK L xs) d) 80 [vr 43, vi p1] S) (fun r1 S2 => (if r1.toNat = 0 then (some ((0 : Int), S2)) else (gd (!(Nat.beq r1.toNat 14)) (gd (Nat.beq (shp (WK L xs) S2 r1.toNat).1 12) (if (rdv (WK L xs) S2 r1.toNat 12) = 0 then (some ((0 : Int), S2)) else (if p2 < 0 then (some ((0 : Int), S2)) else (gd (Nat.beq (shp (WK L xs) S2 r1.toNat).1 12) (if (rdv (WK L xs) S2 r1.toNat 3) < p2 then (some ((0 : Int), S2)) else (gd (Nat.beq (shp (WK L xs) S2 r1.toNat).1 12 && wok (WK L xs) r1.toNat 13) (some ((1 : Int), (wr S2 r1.toNat 13 p2))))))))))))) := by rw [ev_eq, zc_53, zr_53, zm_53]; rfl
theorem zc_54 : csOf 54 = cs_54 := rfl
theorem zr_54 : rtOf 54 = 1 := rfl
theorem zm_54 : mlOf 54 = 3 := rfl
set_option maxRecDepth 100000 in
set_option maxHeartbeats 4000000 in
/-- SupplyBook.found(II)J -/
theorem q_54 (L : Nat) (xs : Nat → Int) (d : Nat) (S : AH) (p1 : Int) (p2 : Int) : ev (WK L xs) (d + 1) 54 [vr 15, vi p1, vi p2] S = (bindR ((ev (WK L xs) d) 14 [vi p1] S) (fun r1 S2 => (if r1 = 0 then (some ((-1 : Int), S2)) else (if p2 = (0 : Int) then (bindR ((ev (WK L xs) d) 87 [vr 43, vi p1] S2) (fun r7 S8 => (some (r7, S8)))) else (if p2 = (1 : Int) then (bindR ((ev (WK L xs) d) 88 [vr 43, vi p1] S2) (fun r5 S6 => (some (r5, S6)))) else (if p2 = (2 : Int) then (bindR ((ev (WK L xs) d) 89 [vr 43, vi p1] S2) (fun r3 S4 => (some (r3, S4)))) else (some ((-1 : Int), S2)))))))) := by rw [ev_eq, zc_54, zr_54, zm_54]; rfl
theorem zc_55 : csOf 55 = cs_55 := rfl
theorem zr_55 : rtOf 55 = 4 := rfl
theorem zm_55 : mlOf 55 = 3 := rfl
set_option maxRecDepth 100000 in
set_option maxHeartbeats 4000000 in
/-- SupplyBook.question(I)Z -/
theorem q_55 (L : Nat) (xs : Nat → Int) (d : Nat) (S : AH) (p1 : Int) : ev (WK L xs) (d + 1) 55 [vr 15, vi p1] S = (bindR ((ev (WK L xs) d) 80 [vr 43, vi p1] S) (fun r1 S2 => (if r1.toNat = 0 then (some ((0 : Int), S2)) else (gd (!(Nat.beq r1.toNat 14)) (gd (Nat.beq (shp (WK L xs) S2 r1.toNat).1 12 && Nat.ble 0 8) (bindR ((ev (WK L xs) d) 76 [vr r1.toNat] S2) (fun r3 S4 => (if r3 = 0 then (some ((0 : Int), S4)) else (gd (Nat.beq (shp (WK L xs) S4 r1.toNat).1 12) (if (rdv (WK L xs) S4 r1.toNat 10) = 0 then (gd (Nat.beq (shp (WK L xs) S4 r1.toNat).1 12 && wok (WK L xs) r1.toNat 10) (some ((1 : Int), (wr S4 r1.toNat 10 (1 : Int))))) else (some ((0 : Int), S4)))))))))))) := by rw [ev_eq, zc_55, zr_55, zm_55]; rfl
theorem zc_56 : csOf 56 = cs_56 := rfl
theorem zr_56 : rtOf 56 = 4 := rfl
theorem zm_56 : mlOf 56 = 4 := rfl
set_option maxRecDepth 100000 in
set_option maxHeartbeats 4000000 in
/-- SupplyBook.answer(IZ)Z -/
theorem q_56 (L : Nat) (xs : Nat → Int) (d : Nat) (S : AH) (p1 : Int) (p2 : Int) : ev (WK L xs) (d + 1) 56 [vr 15, vi p1, vi p2] S = (bindR ((ev (WK L xs) d) 80 [vr 43, vi p1] S) (fun r1 S2 => (if r1.toNat = 0 then (some ((0 : Int), S2)) else (gd (!(Nat.beq r1.toNat 14)) (gd (Nat.beq (shp (WK L xs) S2 r1.toNat).1 12) (if (rdv (WK L xs) S2 r1.toNat 10) = (1 : Int) then (if p2 = 0 then (gd (Nat.beq (shp (WK L xs) S2 r1.toNat).1 12 && wok (WK L xs) r1.toNat 10) (if p2 = 0 then (bindR ((ev (WK L xs) d) 132 [vr 17, vr r1.toNat] (wr S2 r1.toNat 10 (3 : Int))) (fun r3 S4 => (some ((1 : Int), S4)))) else (some ((1 : Int), (wr S2 r1.toNat 10 (3 : Int)))))) else (gd (Nat.beq (shp (WK L xs) S2 r1.toNat).1 12 && wok (WK L xs) r1.toNat 10) (if p2 = 0 then (bindR ((ev (WK L xs) d) 132 [vr 17, vr r1.toNat] (wr S2 r1.toNat 10 (2 : Int))) (fun r5 S6 => (some ((1 : Int), S6)))) else (some ((1 : Int), (wr S2 r1.toNat 10 (2 : Int))))))) else (some ((0 : Int), S2)))))))) := by rw [ev_eq, zc_56, zr_56, zm_56]; rfl
theorem zc_57 : csOf 57 = cs_57 := rfl
theorem zr_57 : rtOf 57 = 1 := rfl
theorem zm_57 : mlOf 57 = 7 := rfl
set_option maxRecDepth 100000 in
set_option maxHeartbeats 4000000 in
/-- SupplyBook.falls(I)J -/
theorem q_57 (L : Nat) (xs : Nat → Int) (d : Nat) (S : AH) (p1 : Int) : ev (WK L xs) (d + 1) 57 [vr 15, vi p1] S = (bindR ((ev (WK L xs) d) 168 [vr 36, vi p1] S) (fun r1 S2 => (if r1.toNat = 0 then (some ((-1 : Int), S2)) else (gd (!(Nat.beq r1.toNat 14)) (gd (Nat.beq (shp (WK L xs) S2 r1.toNat).1 11) (if (rdv (WK L xs) S2 r1.toNat 0) = (4 : Int) then (gd (Nat.beq (shp (WK L xs) S2 r1.toNat).1 11) (if (rdv (WK L xs) S2 r1.toNat 10) = 0 then (bindR ((ev (WK L xs) d) 58 [vr 15, vr r1.toNat] S2) (fun r3 S4 => (if r3 = 0 then (some ((-1 : Int), S4)) else (gd (Nat.beq (shp (WK L xs) S4 r1.toNat).1 11 && wok (WK L xs) r1.toNat 10) (LQ (WK L xs) (ev (WK L xs) d) 57 50 [some (vr 15), some (vi p1), none, some (vl (0 : Int)), none, some (vi (0 : Int)), none] [] (wr S4 r1.toNat 10 (1 : Int))))))) else (some ((-1 : Int), S2)))) else (some ((-1 : Int), S2)))))))) := by rw [ev_eq, zc_57, zr_57, zm_57]; rfl
set_option maxRecDepth 100000 in
set_option maxHeartbeats 4000000 in
theorem q_57_50 (L : Nat) (xs : Nat → Int) (d : Nat) (S : AH) (x1 : Int) (x3 : Int) (x5 : Int) : LQ (WK L xs) (ev (WK L xs) d) 57 50 [some (vr 15), some (vi x1), none, some (vl x3), none, some (vi x5), none] [] S = (if x5 < (S.2 43 1) then (bindR ((ev (WK L xs) d) 80 [vr 43, vi x5] S) (fun r1 S2 => (if r1.toNat = 0 then (LQ (WK L xs) (ev (WK L xs) d) 57 50 [some (vr 15), some (vi x1), none, some (vl x3), none, some (vi (w32 (x5 + (1 : Int)))), none] [] S2) else (gd (!(Nat.beq r1.toNat 14)) (gd (Nat.beq (shp (WK L xs) S2 r1.toNat).1 12) (if (rdv (WK L xs) S2 r1.toNat 8) = x1 then (bindR ((ev (WK L xs) d) 132 [vr 17, vr r1.toNat] S2) (fun r3 S4 => (LQ (WK L xs) (ev (WK L xs) d) 57 50 [some (vr 15), some (vi x1), none, some (vl (w64 (x3 + r3))), none, some (vi (w32 (x5 + (1 : Int)))), none] [] S4))) else (LQ (WK L xs) (ev (WK L xs) d) 57 50 [some (vr 15), some (vi x1), none, some (vl x3), none, some (vi (w32 (x5 + (1 : Int)))), none] [] S2))))))) else (some (x3, S))) := by rw [LQ_eq, zc_57, zr_57]; rfl
theorem zc_58 : csOf 58 = cs_58 := rfl
theorem zr_58 : rtOf 58 = 4 := rfl
theorem zm_58 : mlOf 58 = 4 := rfl
set_option maxRecDepth 100000 in
set_option maxHeartbeats 4000000 in
/-- SupplyBook.fallsByNow(LSupplyBook$Authority;)Z -/
theorem q_58 (L : Nat) (xs : Nat → Int) (d : Nat) (S : AH) (p1 : Nat) : ev (WK L xs) (d + 1) 58 [vr 15, vr p1] S = (gd (Nat.beq (shp (WK L xs) S p1).1 11) (gd (Nat.beq (shp (WK L xs) S p1).1 11) (bindR ((ev (WK L xs) d) 108 [vr 31, vi (4 : Int), vi (rdv (WK L xs) S p1 4)] S) (fun r1 S2 => (gd (Nat.beq (shp (WK L xs) S2 p1).1 11) (if (rdv (WK L xs) S2 p1 8) = (-1 : Int) then (LQ (WK L xs) (ev (WK L xs) d) 58 40 [some (vr 15), none, some (vi (w32 ((w32 ((rdv (WK L xs) S p1 4) + r1)) + (1 : Int)))), none] [] S2) else (gd (Nat.beq (shp (WK L xs) S2 p1).1 11) (if (rdv (WK L xs) S2 p1 9) < (w32 ((w32 ((rdv (WK L xs) S p1 4) + r1)) + (1 : Int))) then (if (S2.2 15 0) < (w32 ((w32 ((rdv (WK L xs) S p1 4) + r1)) + (1 : Int))) then (some ((0 : Int), S2)) else (some ((0 : Int), S2))) else (LQ (WK L xs) (ev (WK L xs) d) 58 40 [some (vr 15), none, some (vi (w32 ((w32 ((rdv (WK L xs) S p1 4) + r1)) + (1 : Int)))), none] [] S2))))))))) := by rw [ev_eq, zc_58, zr_58, zm_58]; rfl
set_option maxRecDepth 100000 in
set_option maxHeartbeats 4000000 in
theorem q_58_40 (L : Nat) (xs : Nat → Int) (d : Nat) (S : AH) (x2 : Int) : LQ (WK L xs) (ev (WK L xs) d) 58 40 [some (vr 15), none, some (vi x2), none] [] S = (if (S.2 15 0) < x2 then (some ((0 : Int), S)) else (some ((1 : Int), S))) := by rw [LQ_eq, zc_58, zr_58]; rfl
theorem zc_59 : csOf 59 = cs_59 := rfl
theorem zr_59 : rtOf 59 = 1 := rfl
theorem zm_59 : mlOf 59 = 2 := rfl
set_option maxRecDepth 100000 in
set_option maxHeartbeats 4000000 in
/-- SupplyBook.surcharged(I)J -/
theorem q_59 (L : Nat) (xs : Nat → Int) (d : Nat) (S : AH) (p1 : Int) : ev (WK L xs) (d + 1) 59 [vr 15, vi p1] S = (bindR ((ev (WK L xs) d) 129 [vr 17, vi p1] S) (fun r1 S2 => (if r1 = 0 then (some ((-1 : Int), S2)) else (bindR ((ev (WK L xs) d) 133 [vr 17, vi p1] S2) (fun r3 S4 => (some (r3, S4))))))) := by rw [ev_eq, zc_59, zr_59, zm_59]; rfl
theorem zc_60 : csOf 60 = cs_60 := rfl
theorem zr_60 : rtOf 60 = 4 := rfl
theorem zm_60 : mlOf 60 = 4 := rfl
set_option maxRecDepth 100000 in
set_option maxHeartbeats 4000000 in
/-- SupplyBook.find(II)Z -/
theorem q_60 (L : Nat) (xs : Nat → Int) (d : Nat) (S : AH) (p1 : Int) (p2 : Int) : ev (WK L xs) (d + 1) 60 [vr 15, vi p1, vi p2] S = (bindR ((ev (WK L xs) d) 80 [vr 43, vi p1] S) (fun r1 S2 => (if r1.toNat = 0 then (some ((0 : Int), S2)) else (gd (!(Nat.beq r1.toNat 14)) (gd (Nat.beq (shp (WK L xs) S2 r1.toNat).1 12 && Nat.ble 0 8) (bindR ((ev (WK L xs) d) 76 [vr r1.toNat] S2) (fun r3 S4 => (if r3 = 0 then (some ((0 : Int), S4)) else (if p2 < (1 : Int) then (some ((0 : Int), S4)) else (gd (Nat.beq (shp (WK L xs) S4 r1.toNat).1 12) (gd (Nat.beq (shp (WK L xs) S4 r1.toNat).1 12) (if 0 < (lcmp p2 (w64 ((rdv (WK L xs) S4 r1.toNat 3) - (rdv (WK L xs) S4 r1.toNat 14)))) then (some ((0 : Int), S4)) else (bindR ((ev (WK L xs) d) 90 [vr 43, vi p1, vi p2, vi (S4.2 15 0)] S4) (fun r5 S6 => (if r5 = 0 ∨ r5 = 1 then (some (r5, S6)) else none))))))))))))))) := by rw [ev_eq, zc_60, zr_60, zm_60]; rfl
theorem zc_61 : csOf 61 = cs_61 := rfl
theorem zr_61 : rtOf 61 = 1 := rfl
theorem zm_61 : mlOf 61 = 8 := rfl
set_option maxRecDepth 100000 in
set_option maxHeartbeats 4000000 in
/-- SupplyBook.paid(III)J -/
theorem q_61 (L : Nat) (xs : Nat → Int) (d : Nat) (S : AH) (p1 : Int) (p2 : Int) (p3 : Int) : ev (WK L xs) (d + 1) 61 [vr 15, vi p1, vi p2, vi p3] S = (bindR ((ev (WK L xs) d) 14 [vi p1] S) (fun r1 S2 => (if r1 = 0 then (some ((-1 : Int), S2)) else (bindR ((ev (WK L xs) d) 125 [vr 17, vi p2] S2) (fun r3 S4 => (if r3 = 0 then (some ((-1 : Int), S4)) else (bindR ((ev (WK L xs) d) 3 [vi p3] S4) (fun r5 S6 => (if r5 = 0 then (some ((-1 : Int), S6)) else (LQ (WK L xs) (ev (WK L xs) d) 61 35 [some (vr 15), some (vi p1), some (vi p2), some (vi p3), some (vl (0 : Int)), none, some (vi (0 : Int)), none] [] S6)))))))))) := by rw [ev_eq, zc_61, zr_61, zm_61]; rfl
set_option maxRecDepth 100000 in
set_option maxHeartbeats 4000000 in
theorem q_61_35 (L : Nat) (xs : Nat → Int) (d : Nat) (S : AH) (x1 : Int) (x2 : Int) (x3 : Int) (x4 : Int) (x6 : Int) : LQ (WK L xs) (ev (WK L xs) d) 61 35 [some (vr 15), some (vi x1), some (vi x2), some (vi x3), some (vl x4), none, some (vi x6), none] [] S = (if x6 < (S.2 43 1) then (bindR ((ev (WK L xs) d) 80 [vr 43, vi x6] S) (fun r1 S2 => (if r1.toNat = 0 then (LQ (WK L xs) (ev (WK L xs) d) 61 35 [some (vr 15), some (vi x1), some (vi x2), some (vi x3), some (vl x4), none, some (vi (w32 (x6 + (1 : Int)))), none] [] S2) else (gd (!(Nat.beq r1.toNat 14)) (gd (Nat.beq (shp (WK L xs) S2 r1.toNat).1 12 && Nat.ble 0 8) (bindR ((ev (WK L xs) d) 75 [vr r1.toNat, vi x1] S2) (fun r3 S4 => (if r3 = 0 then (LQ (WK L xs) (ev (WK L xs) d) 61 35 [some (vr 15), some (vi x1), some (vi x2), some (vi x3), some (vl x4), none, some (vi (w32 (x6 + (1 : Int)))), none] [] S4) else (gd (Nat.beq (shp (WK L xs) S4 r1.toNat).1 12) (if x3 < (rdv (WK L xs) S4 r1.toNat 7) then (LQ (WK L xs) (ev (WK L xs) d) 61 35 [some (vr 15), some (vi x1), some (vi x2), some (vi x3), some (vl x4), none, some (vi (w32 (x6 + (1 : Int)))), none] [] S4) else (gd (Nat.beq (shp (WK L xs) S4 r1.toNat).1 12) (bindR ((ev (WK L xs) d) 127 [vr 17, vi (rdv (WK L xs) S4 r1.toNat 1), vi x2] S4) (fun r5 S6 => (if r5 = 0 then (LQ (WK L xs) (ev (WK L xs) d) 61 35 [some (vr 15), some (vi x1), some (vi x2), some (vi x3), some (vl x4), none, some (vi (w32 (x6 + (1 : Int)))), none] [] S6) else (gd (Nat.beq (shp (WK L xs) S6 r1.toNat).1 12) (bindR ((ev (WK L xs) d) 91 [vr 43, vi x6, vi x3] S6) (fun r7 S8 => (LQ (WK L xs) (ev (WK L xs) d) 61 35 [some (vr 15), some (vi x1), some (vi x2), some (vi x3), some (vl (w64 (x4 + (w64 ((rdv (WK L xs) S6 r1.toNat 3) - r7))))), none, some (vi (w32 (x6 + (1 : Int)))), none] [] S8)))))))))))))))))) else (some (x4, S))) := by rw [LQ_eq, zc_61, zr_61]; rfl
theorem zc_62 : csOf 62 = cs_62 := rfl
theorem zr_62 : rtOf 62 = 0 := rfl
theorem zm_62 : mlOf 62 = 9 := rfl
set_option maxRecDepth 100000 in
set_option maxHeartbeats 4000000 in
/-- SupplyBook.close(I)I -/
theorem q_62 (L : Nat) (xs : Nat → Int) (d : Nat) (S : AH) (p1 : Int) : ev (WK L xs) (d + 1) 62 [vr 15, vi p1] S = (if p1 = (S.2 15 2) then (bindR ((ev (WK L xs) d) 17 [vi (S.2 15 0)] S) (fun r1 S2 => (if p1 < r1 then (bindR ((ev (WK L xs) d) 108 [vr 31, vi (1 : Int), vi (w32 ((w32 ((w32 (p1 * (360 : Int))) + (360 : Int))) - (1 : Int)))] (wr S2 15 2 (w32 ((S2.2 15 2) + (1 : Int))))) (fun r3 S4 => (LQ (WK L xs) (ev (WK L xs) d) 62 65 [some (vr 15), some (vi p1), some (vi r3), some (vi (S4.2 36 1)), some (vi (0 : Int)), some (vi (0 : Int)), none, none, none] [] S4))) else (some ((-1 : Int), S2))))) else (some ((-1 : Int), S))) := by rw [ev_eq, zc_62, zr_62, zm_62]; rfl
set_option maxRecDepth 100000 in
set_option maxHeartbeats 4000000 in
theorem q_62_65 (L : Nat) (xs : Nat → Int) (d : Nat) (S : AH) (x1 : Int) (x2 : Int) (x3 : Int) (x4 : Int) (x5 : Int) : LQ (WK L xs) (ev (WK L xs) d) 62 65 [some (vr 15), some (vi x1), some (vi x2), some (vi x3), some (vi x4), some (vi x5), none, none, none] [] S = (if x5 < x3 then (bindR ((ev (WK L xs) d) 168 [vr 36, vi x5] S) (fun r1 S2 => (if r1.toNat = 0 then (LQ (WK L xs) (ev (WK L xs) d) 62 65 [some (vr 15), some (vi x1), some (vi x2), some (vi x3), some (vi x4), some (vi (w32 (x5 + (1 : Int)))), none, none, none] [] S2) else (gd (!(Nat.beq r1.toNat 14)) (gd (Nat.beq (shp (WK L xs) S2 r1.toNat).1 11) (if (rdv (WK L xs) S2 r1.toNat 0) = (2 : Int) then (gd (Nat.beq (shp (WK L xs) S2 r1.toNat).1 11) (if (rdv (WK L xs) S2 r1.toNat 3) = x1 then (gd (Nat.beq (shp (WK L xs) S2 r1.toNat).1 11) (if (rdv (WK L xs) S2 r1.toNat 7) = (-1 : Int) then (bindR ((ev (WK L xs) d) 19 [vr 15, vi x5, vr r1.toNat, vi x1] S2) (fun r3 S4 => (if 0 < (lcmp (min (ldiv (w64 (r3 * x2)) (100 : Int)) (1000000000 : Int)) (0 : Int)) then (bindR ((ev (WK L xs) d) 166 [vr 36] S4) (fun r5 S6 => (if r5 = 0 then (gd (Nat.beq (shp (WK L xs) (nw S6 11 14) r1.toNat).1 11) (gd (Nat.beq (shp (WK L xs) (nw S6 11 14) r1.toNat).1 11) (gd (Nat.beq (shp (WK L xs) (nw S6 11 14) S6.1.1).1 11 && Nat.ble 2 8) (bindR ((ev (WK L xs) d) 70 [vr S6.1.1, vi (2 : Int), vi (rdv (WK L xs) (nw S6 11 14) r1.toNat 1), vi (i32 (min (ldiv (w64 (r3 * x2)) (100 : Int)) (1000000000 : Int))), vi (w32 (x1 + (1 : Int))), vi ((nw S6 11 14).2 15 0), vr (rdv (WK L xs) (nw S6 11 14) r1.toNat 5).toNat, vi (-1 : Int)] (nw S6 11 14)) (fun r7 S8 => (bindR ((ev (WK L xs) d) 167 [vr 36, vr S6.1.1] S8) (fun r9 S10 => (LQ (WK L xs) (ev (WK L xs) d) 62 65 [some (vr 15), some (vi x1), some (vi x2), some (vi x3), some (vi (w32 (x4 + (1 : Int)))), some (vi (w32 (x5 + (1 : Int)))), none, none, none] [] S10)))))))) else (LQ (WK L xs) (ev (WK L xs) d) 62 65 [some (vr 15), some (vi x1), some (vi x2), some (vi x3), some (vi x4), some (vi (w32 (x5 + (1 : Int)))), none, none, none] [] S6)))) else (LQ (WK L xs) (ev (WK L xs) d) 62 65 [some (vr 15), some (vi x1), some (vi x2), some (vi x3), some (vi x4), some (vi (w32 (x5 + (1 : Int)))), none, none, none] [] S4)))) else (LQ (WK L xs) (ev (WK L xs) d) 62 65 [some (vr 15), some (vi x1), some (vi x2), some (vi x3), some (vi x4), some (vi (w32 (x5 + (1 : Int)))), none, none, none] [] S2))) else (LQ (WK L xs) (ev (WK L xs) d) 62 65 [some (vr 15), some (vi x1), some (vi x2), some (vi x3), some (vi x4), some (vi (w32 (x5 + (1 : Int)))), none, none, none] [] S2))) else (LQ (WK L xs) (ev (WK L xs) d) 62 65 [some (vr 15), some (vi x1), some (vi x2), some (vi x3), some (vi x4), some (vi (w32 (x5 + (1 : Int)))), none, none, none] [] S2))))))) else (some (x4, S))) := by rw [LQ_eq, zc_62, zr_62]; rfl
theorem zc_63 : csOf 63 = cs_63 := rfl
theorem zr_63 : rtOf 63 = 0 := rfl
theorem zm_63 : mlOf 63 = 8 := rfl
set_option maxRecDepth 100000 in
set_option maxHeartbeats 4000000 in
/-- SupplyBook.check(II)I -/
theorem q_63 (L : Nat) (xs : Nat → Int) (d : Nat) (S : AH) (p1 : Int) (p2 : Int) : ev (WK L xs) (d + 1) 63 [vr 15, vi p1, vi p2] S = (bindR ((ev (WK L xs) d) 14 [vi p1] S) (fun r1 S2 => (if r1 = 0 then (some ((-2 : Int), S2)) else (if p2 < 0 then (some ((-2 : Int), S2)) else (if 0 < (lcmp (w64 ((w64 (p2 * (3 : Int))) * (4 : Int))) (S2.2 15 4)) then (some ((-2 : Int), S2)) else (LQ (WK L xs) (ev (WK L xs) d) 63 43 [some (vr 15), some (vi p1), some (vi p2), some (vi (0 : Int)), some (vi (0 : Int)), none, none, none] [] (wr S2 15 4 (0 : Int)))))))) := by rw [ev_eq, zc_63, zr_63, zm_63]; rfl
set_option maxRecDepth 100000 in
set_option maxHeartbeats 4000000 in
theorem q_63_43 (L : Nat) (xs : Nat → Int) (d : Nat) (S : AH) (x1 : Int) (x2 : Int) (x3 : Int) (x4 : Int) : LQ (WK L xs) (ev (WK L xs) d) 63 43 [some (vr 15), some (vi x1), some (vi x2), some (vi x3), some (vi x4), none, none, none] [] S = (if x4 < (S.2 43 3) then (bindR ((ev (WK L xs) d) 92 [vr 43, vi x4] S) (fun r1 S2 => (bindR ((ev (WK L xs) d) 80 [vr 43, vi r1] S2) (fun r3 S4 => (if r3.toNat = 0 then (LQ (WK L xs) (ev (WK L xs) d) 63 43 [some (vr 15), some (vi x1), some (vi x2), some (vi x3), some (vi (w32 (x4 + (1 : Int)))), none, none, none] [] S4) else (gd (!(Nat.beq r3.toNat 14)) (gd (Nat.beq (shp (WK L xs) S4 r3.toNat).1 12 && Nat.ble 0 8) (bindR ((ev (WK L xs) d) 75 [vr r3.toNat, vi x1] S4) (fun r5 S6 => (if r5 = 0 then (LQ (WK L xs) (ev (WK L xs) d) 63 43 [some (vr 15), some (vi x1), some (vi x2), some (vi x3), some (vi (w32 (x4 + (1 : Int)))), none, none, none] [] S6) else (if x3 < (w32 ((3 : Int) * x2)) then (bindR ((ev (WK L xs) d) 64 [vr 15, vi x3, vi r1, vr r3.toNat] S6) (fun r7 S8 => (if r7 = (-1 : Int) then (LQ (WK L xs) (ev (WK L xs) d) 63 43 [some (vr 15), some (vi x1), some (vi x2), some (vi (w32 (x3 + (3 : Int)))), some (vi (w32 (x4 + (1 : Int)))), none, none, none] [] S8) else (some (r7, S8))))) else (some ((w32 ((3 : Int) * x2)), S6))))))))))))) else (if x3 = (w32 ((3 : Int) * x2)) then (some ((-1 : Int), S)) else (some (x3, S)))) := by rw [LQ_eq, zc_63, zr_63]; rfl
theorem zc_64 : csOf 64 = cs_64 := rfl
theorem zr_64 : rtOf 64 = 0 := rfl
theorem zm_64 : mlOf 64 = 4 := rfl
set_option maxRecDepth 100000 in
set_option maxHeartbeats 4000000 in
/-- SupplyBook.firstWrong(IILSupplyBook$Claim;)I -/
theorem q_64 (L : Nat) (xs : Nat → Int) (d : Nat) (S : AH) (p1 : Int) (p2 : Int) (p3 : Nat) : ev (WK L xs) (d + 1) 64 [vr 15, vi p1, vi p2, vr p3] S = (bindR ((ev (WK L xs) d) 65 [vr 15, vi p1] S) (fun r1 S2 => (if r1 = p2 then (bindR ((ev (WK L xs) d) 65 [vr 15, vi (w32 (p1 + (1 : Int)))] S2) (fun r3 S4 => (gd (Nat.beq (shp (WK L xs) S4 p3).1 12) (if r3 = (rdv (WK L xs) S4 p3 8) then (bindR ((ev (WK L xs) d) 65 [vr 15, vi (w32 (p1 + (2 : Int)))] S4) (fun r5 S6 => (gd (Nat.beq (shp (WK L xs) S6 p3).1 12) (if r5 = (rdv (WK L xs) S6 p3 7) then (some ((-1 : Int), S6)) else (some ((w32 (p1 + (2 : Int))), S6)))))) else (some ((w32 (p1 + (1 : Int))), S4)))))) else (some (p1, S2))))) := by rw [ev_eq, zc_64, zr_64, zm_64]; rfl
theorem zc_65 : csOf 65 = cs_65 := rfl
theorem zr_65 : rtOf 65 = 0 := rfl
theorem zm_65 : mlOf 65 = 6 := rfl
set_option maxRecDepth 100000 in
set_option maxHeartbeats 4000000 in
/-- SupplyBook.tapeInt(I)I -/
theorem q_65 (L : Nat) (xs : Nat → Int) (d : Nat) (S : AH) (p1 : Int) : ev (WK L xs) (d + 1) 65 [vr 15, vi p1] S = (LQ (WK L xs) (ev (WK L xs) d) 65 4 [some (vr 15), some (vi p1), some (vi (0 : Int)), some (vi (0 : Int)), none, none] [] S) := by rw [ev_eq, zc_65, zr_65, zm_65]; rfl
set_option maxRecDepth 100000 in
set_option maxHeartbeats 4000000 in
theorem q_65_4 (L : Nat) (xs : Nat → Int) (d : Nat) (S : AH) (x1 : Int) (x2 : Int) (x3 : Int) : LQ (WK L xs) (ev (WK L xs) d) 65 4 [some (vr 15), some (vi x1), some (vi x2), some (vi x3), none, none] [] S = (if x3 < (4 : Int) then (if (w32 ((w32 (x1 * (4 : Int))) + x3)) < 0 then (LQ (WK L xs) (ev (WK L xs) d) 65 4 [some (vr 15), some (vi x1), some (vi (ior (ishl x2 (8 : Int)) (0 : Int))), some (vi (w32 (x3 + (1 : Int)))), none, none] [] S) else (if (w32 ((w32 (x1 * (4 : Int))) + x3)) < (400 : Int) then (if 0 ≤ (w32 ((w32 (x1 * (4 : Int))) + x3)) ∧ (w32 ((w32 (x1 * (4 : Int))) + x3)) < (400 : Int) then (LQ (WK L xs) (ev (WK L xs) d) 65 4 [some (vr 15), some (vi x1), some (vi (ior (ishl x2 (8 : Int)) (iand (S.2 16 (w32 ((w32 (x1 * (4 : Int))) + x3)).toNat) (255 : Int)))), some (vi (w32 (x3 + (1 : Int)))), none, none] [] S) else none) else (LQ (WK L xs) (ev (WK L xs) d) 65 4 [some (vr 15), some (vi x1), some (vi (ior (ishl x2 (8 : Int)) (0 : Int))), some (vi (w32 (x3 + (1 : Int)))), none, none] [] S))) else (some (x2, S))) := by rw [LQ_eq, zc_65, zr_65]; rfl
theorem zc_66 : csOf 66 = cs_66 := rfl
theorem zr_66 : rtOf 66 = 0 := rfl
theorem zm_66 : mlOf 66 = 4 := rfl
set_option maxRecDepth 100000 in
set_option maxHeartbeats 4000000 in
/-- SupplyBook.look(II)I -/
theorem q_66 (L : Nat) (xs : Nat → Int) (d : Nat) (S : AH) (p1 : Int) (p2 : Int) : ev (WK L xs) (d + 1) 66 [vr 15, vi p1, vi p2] S = (bindR ((ev (WK L xs) d) 80 [vr 43, vi p1] S) (fun r1 S2 => (if r1.toNat = 0 then (some ((-1 : Int), S2)) else (gd (!(Nat.beq r1.toNat 14)) (if p2 = (0 : Int) then (gd (Nat.beq (shp (WK L xs) S2 r1.toNat).1 12) (some ((rdv (WK L xs) S2 r1.toNat 0), S2))) else (if p2 = (1 : Int) then (gd (Nat.beq (shp (WK L xs) S2 r1.toNat).1 12) (some ((rdv (WK L xs) S2 r1.toNat 1), S2))) else (if p2 = (2 : Int) then (gd (Nat.beq (shp (WK L xs) S2 r1.toNat).1 12) (some ((rdv (WK L xs) S2 r1.toNat 2), S2))) else (if p2 = (3 : Int) then (gd (Nat.beq (shp (WK L xs) S2 r1.toNat).1 12) (some ((rdv (WK L xs) S2 r1.toNat 3), S2))) else (if p2 = (4 : Int) then (gd (Nat.beq (shp (WK L xs) S2 r1.toNat).1 12) (some ((rdv (WK L xs) S2 r1.toNat 4), S2))) else (if p2 = (5 : Int) then (gd (Nat.beq (shp (WK L xs) S2 r1.toNat).1 12) (if (rdv (WK L xs) S2 r1.toNat 5) = 0 then (some ((0 : Int), S2)) else (some ((1 : Int), S2)))) else (if p2 = (6 : Int) then (gd (Nat.beq (shp (WK L xs) S2 r1.toNat).1 12) (some ((rdv (WK L xs) S2 r1.toNat 6), S2))) else (if p2 = (7 : Int) then (gd (Nat.beq (shp (WK L xs) S2 r1.toNat).1 12) (some ((rdv (WK L xs) S2 r1.toNat 7), S2))) else (if p2 = (8 : Int) then (gd (Nat.beq (shp (WK L xs) S2 r1.toNat).1 12) (some ((rdv (WK L xs) S2 r1.toNat 9), S2))) else (if p2 = (9 : Int) then (gd (Nat.beq (shp (WK L xs) S2 r1.toNat).1 12) (some ((rdv (WK L xs) S2 r1.toNat 10), S2))) else (some ((-1 : Int), S2)))))))))))))))) := by rw [ev_eq, zc_66, zr_66, zm_66]; rfl
theorem zc_67 : csOf 67 = cs_67 := rfl
theorem zr_67 : rtOf 67 = 0 := rfl
theorem zm_67 : mlOf 67 = 4 := rfl
set_option maxRecDepth 100000 in
set_option maxHeartbeats 4000000 in
/-- SupplyBook.about(II)I -/
theorem q_67 (L : Nat) (xs : Nat → Int) (d : Nat) (S : AH) (p1 : Int) (p2 : Int) : ev (WK L xs) (d + 1) 67 [vr 15, vi p1, vi p2] S = (bindR ((ev (WK L xs) d) 168 [vr 36, vi p1] S) (fun r1 S2 => (if r1.toNat = 0 then (some ((-1 : Int), S2)) else (gd (!(Nat.beq r1.toNat 14)) (if p2 = (0 : Int) then (gd (Nat.beq (shp (WK L xs) S2 r1.toNat).1 11) (some ((rdv (WK L xs) S2 r1.toNat 0), S2))) else (if p2 = (1 : Int) then (gd (Nat.beq (shp (WK L xs) S2 r1.toNat).1 11) (some ((rdv (WK L xs) S2 r1.toNat 1), S2))) else (if p2 = (2 : Int) then (gd (Nat.beq (shp (WK L xs) S2 r1.toNat).1 11) (some ((rdv (WK L xs) S2 r1.toNat 2), S2))) else (if p2 = (3 : Int) then (gd (Nat.beq (shp (WK L xs) S2 r1.toNat).1 11) (some ((rdv (WK L xs) S2 r1.toNat 3), S2))) else (if p2 = (4 : Int) then (gd (Nat.beq (shp (WK L xs) S2 r1.toNat).1 11) (gd (Nat.beq (shp (WK L xs) S2 (rdv (WK L xs) S2 r1.toNat 5).toNat).1 19 && Nat.ble 0 8) (bindR ((ev (WK L xs) d) 161 [vr (rdv (WK L xs) S2 r1.toNat 5).toNat] S2) (fun r3 S4 => (some (r3, S4)))))) else (if p2 = (5 : Int) then (gd (Nat.beq (shp (WK L xs) S2 r1.toNat).1 11) (some ((rdv (WK L xs) S2 r1.toNat 7), S2))) else (if p2 = (6 : Int) then (gd (Nat.beq (shp (WK L xs) S2 r1.toNat).1 11) (if (rdv (WK L xs) S2 r1.toNat 0) = (1 : Int) then (gd (Nat.beq (shp (WK L xs) S2 r1.toNat).1 11) (some ((rdv (WK L xs) S2 r1.toNat 6), S2))) else (gd (Nat.beq (shp (WK L xs) S2 r1.toNat).1 11) (some ((rdv (WK L xs) S2 r1.toNat 8), S2))))) else (if p2 = (7 : Int) then (gd (Nat.beq (shp (WK L xs) S2 r1.toNat).1 11) (some ((rdv (WK L xs) S2 r1.toNat 4), S2))) else (some ((-1 : Int), S2)))))))))))))) := by rw [ev_eq, zc_67, zr_67, zm_67]; rfl
theorem zc_68 : csOf 68 = cs_68 := rfl
theorem zr_68 : rtOf 68 = 0 := rfl
theorem zm_68 : mlOf 68 = 2 := rfl
set_option maxRecDepth 100000 in
set_option maxHeartbeats 4000000 in
/-- SupplyBook.count(I)I -/
theorem q_68 (L : Nat) (xs : Nat → Int) (d : Nat) (S : AH) (p1 : Int) : ev (WK L xs) (d + 1) 68 [vr 15, vi p1] S = (if p1 = (0 : Int) then (some ((S.2 15 0), S)) else (if p1 = (1 : Int) then (some ((S.2 17 1), S)) else (if p1 = (2 : Int) then (some ((S.2 17 5), S)) else (if p1 = (3 : Int) then (some ((S.2 31 4), S)) else (if p1 = (4 : Int) then (some ((S.2 36 1), S)) else (if p1 = (5 : Int) then (some ((S.2 36 7), S)) else (if p1 = (6 : Int) then (some ((S.2 43 1), S)) else (if p1 = (7 : Int) then (some ((S.2 43 3), S)) else (if p1 = (8 : Int) then (some ((S.2 50 4), S)) else (if p1 = (9 : Int) then (some ((S.2 54 7), S)) else (if p1 = (10 : Int) then (some ((S.2 63 2), S)) else (if p1 = (11 : Int) then (some ((S.2 63 10), S)) else (if p1 = (12 : Int) then (some ((S.2 15 4), S)) else (if p1 = (13 : Int) then (some ((S.2 15 2), S)) else (some ((-1 : Int), S)))))))))))))))) := by rw [ev_eq, zc_68, zr_68, zm_68]; rfl
theorem zc_69 : csOf 69 = cs_69 := rfl
theorem zr_69 : rtOf 69 = 1 := rfl
theorem zm_69 : mlOf 69 = 2 := rfl
set_option maxRecDepth 100000 in
set_option maxHeartbeats 4000000 in
/-- SupplyBook.sum(I)J -/
theorem q_69 (L : Nat) (xs : Nat → Int) (d : Nat) (S : AH) (p1 : Int) : ev (WK L xs) (d + 1) 69 [vr 15, vi p1] S = (if p1 = (0 : Int) then (some ((S.2 15 1), S)) else (if p1 = (1 : Int) then (some ((S.2 54 1), S)) else (if p1 = (2 : Int) then (some ((S.2 43 4), S)) else (if p1 = (3 : Int) then (bindR ((ev (WK L xs) d) 113 [vr 63] S) (fun r5 S6 => (some (r5, S6)))) else (if p1 = (4 : Int) then (some ((S.2 63 11), S)) else (if p1 = (5 : Int) then (bindR ((ev (WK L xs) d) 17 [vi (S.2 15 0)] S) (fun r1 S2 => (bindR ((ev (WK L xs) d) 192 [vr 54, vi r1] S2) (fun r3 S4 => (some (r3, S4)))))) else (some ((-1 : Int), S)))))))) := by rw [ev_eq, zc_69, zr_69, zm_69]; rfl
theorem zc_71 : csOf 71 = cs_71 := rfl
theorem zr_71 : rtOf 71 = 1 := rfl
theorem zm_71 : mlOf 71 = 2 := rfl
set_option maxRecDepth 100000 in
set_option maxHeartbeats 4000000 in
/-- SupplyBook$Authority.spentIn(I)J -/
theorem q_71 (L : Nat) (xs : Nat → Int) (d : Nat) (S : AH) (o : Nat) (p1 : Int) : ev (WK L xs) (d + 1) 71 [vr o, vi p1] S = (bindR ((ev (WK L xs) d) 14 [vi p1] S) (fun r1 S2 => (if r1 = 0 then (some ((0 : Int), S2)) else (gd (Nat.beq (shp (WK L xs) S2 o).1 11) (gd (Nat.beq (shp (WK L xs) S2 (rdv (WK L xs) S2 o 13).toNat).1 3) (if 0 ≤ p1 ∧ p1 < ((shp (WK L xs) S2 (rdv (WK L xs) S2 o 13).toNat).2 : Int) then (some ((rdv (WK L xs) S2 (rdv (WK L xs) S2 o 13).toNat p1.toNat), S2)) else none)))))) := by rw [ev_eq, zc_71, zr_71, zm_71]; rfl
theorem zc_72 : csOf 72 = cs_72 := rfl
theorem zr_72 : rtOf 72 = 9 := rfl
theorem zm_72 : mlOf 72 = 4 := rfl
set_option maxRecDepth 100000 in
set_option maxHeartbeats 4000000 in
/-- SupplyBook$Authority.spend(IJ)V -/
theorem q_72 (L : Nat) (xs : Nat → Int) (d : Nat) (S : AH) (o : Nat) (p1 : Int) (p2 : Int) : ev (WK L xs) (d + 1) 72 [vr o, vi p1, vl p2] S = (bindR ((ev (WK L xs) d) 14 [vi p1] S) (fun r1 S2 => (if r1 = 0 then (some (0, S2)) else (gd (Nat.beq (shp (WK L xs) S2 o).1 11) (gd (Nat.beq (shp (WK L xs) S2 (rdv (WK L xs) S2 o 13).toNat).1 3) (if 0 ≤ p1 ∧ p1 < ((shp (WK L xs) S2 (rdv (WK L xs) S2 o 13).toNat).2 : Int) then (gd (Nat.beq (shp (WK L xs) S2 (rdv (WK L xs) S2 o 13).toNat).1 3 && wokF (WK L xs) (rdv (WK L xs) S2 o 13).toNat) (if 0 ≤ p1 ∧ p1 < ((shp (WK L xs) S2 (rdv (WK L xs) S2 o 13).toNat).2 : Int) then (some (0, (wr S2 (rdv (WK L xs) S2 o 13).toNat p1.toNat (w64 ((rdv (WK L xs) S2 (rdv (WK L xs) S2 o 13).toNat p1.toNat) + p2))))) else none)) else none)))))) := by rw [ev_eq, zc_72, zr_72, zm_72]; rfl
theorem zc_73 : csOf 73 = cs_73 := rfl
theorem zr_73 : rtOf 73 = 4 := rfl
theorem zm_73 : mlOf 73 = 2 := rfl
set_option maxRecDepth 100000 in
set_option maxHeartbeats 4000000 in
/-- SupplyBook$Authority.canMove(I)Z -/
theorem q_73 (L : Nat) (xs : Nat → Int) (d : Nat) (S : AH) (o : Nat) (p1 : Int) : ev (WK L xs) (d + 1) 73 [vr o, vi p1] S = (gd (Nat.beq (shp (WK L xs) S o).1 11) (if (rdv (WK L xs) S o 0) = 0 then (LQ (WK L xs) (ev (WK L xs) d) 73 15 [some (vr o), some (vi p1)] [] S) else (gd (Nat.beq (shp (WK L xs) S o).1 11) (if (rdv (WK L xs) S o 0) = (2 : Int) then (LQ (WK L xs) (ev (WK L xs) d) 73 15 [some (vr o), some (vi p1)] [] S) else (some ((0 : Int), S)))))) := by rw [ev_eq, zc_73, zr_73, zm_73]; rfl
set_option maxRecDepth 100000 in
set_option maxHeartbeats 4000000 in
theorem q_73_15 (L : Nat) (xs : Nat → Int) (d : Nat) (S : AH) (x0 : Nat) (x1 : Int) : LQ (WK L xs) (ev (WK L xs) d) 73 15 [some (vr x0), some (vi x1)] [] S = (gd (Nat.beq (shp (WK L xs) S x0).1 11) (if (rdv (WK L xs) S x0 3) = x1 then (gd (Nat.beq (shp (WK L xs) S x0).1 11) (if (rdv (WK L xs) S x0 7) = (-1 : Int) then (some ((1 : Int), S)) else (some ((0 : Int), S)))) else (some ((0 : Int), S)))) := by rw [LQ_eq, zc_73, zr_73]; rfl
theorem zc_74 : csOf 74 = cs_74 := rfl
theorem zr_74 : rtOf 74 = 4 := rfl
theorem zm_74 : mlOf 74 = 1 := rfl
set_option maxRecDepth 100000 in
set_option maxHeartbeats 4000000 in
/-- SupplyBook$Authority.canBind()Z -/
theorem q_74 (L : Nat) (xs : Nat → Int) (d : Nat) (S : AH) (o : Nat) : ev (WK L xs) (d + 1) 74 [vr o] S = (gd (Nat.beq (shp (WK L xs) S o).1 11) (if (rdv (WK L xs) S o 0) = 0 then (gd (Nat.beq (shp (WK L xs) S o).1 11) (if (rdv (WK L xs) S o 7) = (-1 : Int) then (some ((1 : Int), S)) else (some ((0 : Int), S)))) else (gd (Nat.beq (shp (WK L xs) S o).1 11) (if (rdv (WK L xs) S o 0) = (2 : Int) then (gd (Nat.beq (shp (WK L xs) S o).1 11) (if (rdv (WK L xs) S o 7) = (-1 : Int) then (some ((1 : Int), S)) else (some ((0 : Int), S)))) else (gd (Nat.beq (shp (WK L xs) S o).1 11) (if (rdv (WK L xs) S o 0) = (3 : Int) then (gd (Nat.beq (shp (WK L xs) S o).1 11) (if (rdv (WK L xs) S o 7) = (-1 : Int) then (some ((1 : Int), S)) else (some ((0 : Int), S)))) else (some ((0 : Int), S)))))))) := by rw [ev_eq, zc_74, zr_74, zm_74]; rfl
theorem zc_75 : csOf 75 = cs_75 := rfl
theorem zr_75 : rtOf 75 = 4 := rfl
theorem zm_75 : mlOf 75 = 2 := rfl
set_option maxRecDepth 100000 in
set_option maxHeartbeats 4000000 in
/-- SupplyBook$Claim.wasPaidIn(I)Z -/
theorem q_75 (L : Nat) (xs : Nat → Int) (d : Nat) (S : AH) (o : Nat) (p1 : Int) : ev (WK L xs) (d + 1) 75 [vr o, vi p1] S = (gd (Nat.beq (shp (WK L xs) S o).1 12 && Nat.ble 0 8) (bindR ((ev (WK L xs) d) 76 [vr o] S) (fun r1 S2 => (if r1 = 0 then (some ((0 : Int), S2)) else (gd (Nat.beq (shp (WK L xs) S2 o).1 12) (bindR ((ev (WK L xs) d) 17 [vi (rdv (WK L xs) S2 o 7)] S2) (fun r3 S4 => (if r3 = p1 then (some ((1 : Int), S4)) else (some ((0 : Int), S4)))))))))) := by rw [ev_eq, zc_75, zr_75, zm_75]; rfl
theorem zc_76 : csOf 76 = cs_76 := rfl
theorem zr_76 : rtOf 76 = 4 := rfl
theorem zm_76 : mlOf 76 = 1 := rfl
set_option maxRecDepth 100000 in
set_option maxHeartbeats 4000000 in
/-- SupplyBook$Claim.isPaid()Z -/
theorem q_76 (L : Nat) (xs : Nat → Int) (d : Nat) (S : AH) (o : Nat) : ev (WK L xs) (d + 1) 76 [vr o] S = (gd (Nat.beq (shp (WK L xs) S o).1 12) (if (rdv (WK L xs) S o 7) = (-1 : Int) then (some ((0 : Int), S)) else (some ((1 : Int), S)))) := by rw [ev_eq, zc_76, zr_76, zm_76]; rfl
theorem zc_78 : csOf 78 = cs_78 := rfl
theorem zr_78 : rtOf 78 = 4 := rfl
theorem zm_78 : mlOf 78 = 2 := rfl
set_option maxRecDepth 100000 in
set_option maxHeartbeats 4000000 in
/-- SupplyBook$Claim.isFoundOf(I)Z -/
theorem q_78 (L : Nat) (xs : Nat → Int) (d : Nat) (S : AH) (o : Nat) (p1 : Int) : ev (WK L xs) (d + 1) 78 [vr o, vi p1] S = (gd (Nat.beq (shp (WK L xs) S o).1 12) (if (rdv (WK L xs) S o 12) = 0 then (some ((0 : Int), S)) else (gd (Nat.beq (shp (WK L xs) S o).1 12) (if (rdv (WK L xs) S o 13) = (-1 : Int) then (some ((0 : Int), S)) else (gd (Nat.beq (shp (WK L xs) S o).1 12 && Nat.ble 0 8) (bindR ((ev (WK L xs) d) 75 [vr o, vi p1] S) (fun r1 S2 => (if r1 = 0 then (some ((0 : Int), S2)) else (some ((1 : Int), S2)))))))))) := by rw [ev_eq, zc_78, zr_78, zm_78]; rfl
theorem zc_80 : csOf 80 = cs_80 := rfl
theorem zr_80 : rtOf 80 = 2 := rfl
theorem zm_80 : mlOf 80 = 2 := rfl
set_option maxRecDepth 100000 in
set_option maxHeartbeats 4000000 in
/-- SupplyBook$Claims.at(I)LSupplyBook$Claim; -/
theorem q_80 (L : Nat) (xs : Nat → Int) (d : Nat) (S : AH) (p1 : Int) : ev (WK L xs) (d + 1) 80 [vr 43, vi p1] S = (if p1 < 0 then (some ((0 : Int), S)) else (if p1 < (S.2 43 1) then (if 0 ≤ p1 ∧ p1 < (300 : Int) then (some (((S.2 44 p1.toNat).toNat : Int), S)) else none) else (some ((0 : Int), S)))) := by rw [ev_eq, zc_80, zr_80, zm_80]; rfl
theorem zc_81 : csOf 81 = cs_81 := rfl
theorem zr_81 : rtOf 81 = 9 := rfl
theorem zm_81 : mlOf 81 = 5 := rfl
set_option maxRecDepth 100000 in
set_option maxHeartbeats 4000000 in
/-- SupplyBook$Claims.recount(II)V -/
theorem q_81 (L : Nat) (xs : Nat → Int) (d : Nat) (S : AH) (p1 : Int) (p2 : Int) : ev (WK L xs) (d + 1) 81 [vr 43, vi p1, vi p2] S = (LQ (WK L xs) (ev (WK L xs) d) 81 2 [some (vr 43), some (vi p1), some (vi p2), some (vi (0 : Int)), none] [] S) := by rw [ev_eq, zc_81, zr_81, zm_81]; rfl
set_option maxRecDepth 100000 in
set_option maxHeartbeats 4000000 in
theorem q_81_2 (L : Nat) (xs : Nat → Int) (d : Nat) (S : AH) (x1 : Int) (x2 : Int) (x3 : Int) : LQ (WK L xs) (ev (WK L xs) d) 81 2 [some (vr 43), some (vi x1), some (vi x2), some (vi x3), none] [] S = (if x3 < (S.2 43 1) then (bindR ((ev (WK L xs) d) 80 [vr 43, vi x3] S) (fun r1 S2 => (if r1.toNat = 0 then (LQ (WK L xs) (ev (WK L xs) d) 81 2 [some (vr 43), some (vi x1), some (vi x2), some (vi (w32 (x3 + (1 : Int)))), none] [] S2) else (gd (!(Nat.beq r1.toNat 14)) (gd (Nat.beq (shp (WK L xs) S2 r1.toNat).1 12) (if (rdv (WK L xs) S2 r1.toNat 9) = x1 then (gd (Nat.beq (shp (WK L xs) S2 r1.toNat).1 12 && wok (WK L xs) r1.toNat 9) (LQ (WK L xs) (ev (WK L xs) d) 81 2 [some (vr 43), some (vi x1), some (vi x2), some (vi (w32 (x3 + (1 : Int)))), none] [] (wr S2 r1.toNat 9 x2))) else (LQ (WK L xs) (ev (WK L xs) d) 81 2 [some (vr 43), some (vi x1), some (vi x2), some (vi (w32 (x3 + (1 : Int)))), none] [] S2))))))) else (some (0, S))) := by rw [LQ_eq, zc_81, zr_81]; rfl
theorem zc_82 : csOf 82 = cs_82 := rfl
theorem zr_82 : rtOf 82 = 0 := rfl
theorem zm_82 : mlOf 82 = 2 := rfl
set_option maxRecDepth 100000 in
set_option maxHeartbeats 4000000 in
/-- SupplyBook$Claims.addClaim(LSupplyBook$Claim;)I -/
theorem q_82 (L : Nat) (xs : Nat → Int) (d : Nat) (S : AH) (p1 : Nat) : ev (WK L xs) (d + 1) 82 [vr 43, vr p1] S = (if (S.2 43 1) < (300 : Int) then (gd (Nat.beq (shp (WK L xs) S p1).1 12) (if 0 ≤ (S.2 43 1) ∧ (S.2 43 1) < (300 : Int) then (some ((w32 ((w32 ((S.2 43 1) + (1 : Int))) - (1 : Int))), (wr (wr S 44 (S.2 43 1).toNat (p1 : Int)) 43 1 (w32 ((S.2 43 1) + (1 : Int)))))) else none)) else (some ((-1 : Int), S))) := by rw [ev_eq, zc_82, zr_82, zm_82]; rfl
theorem zc_83 : csOf 83 = cs_83 := rfl
theorem zr_83 : rtOf 83 = 0 := rfl
theorem zm_83 : mlOf 83 = 6 := rfl
set_option maxRecDepth 100000 in
set_option maxHeartbeats 4000000 in
/-- SupplyBook$Claims.paidOfHand(II)I -/
theorem q_83 (L : Nat) (xs : Nat → Int) (d : Nat) (S : AH) (p1 : Int) (p2 : Int) : ev (WK L xs) (d + 1) 83 [vr 43, vi p1, vi p2] S = (LQ (WK L xs) (ev (WK L xs) d) 83 5 [some (vr 43), some (vi p1), some (vi p2), some (vi (0 : Int)), some (vi (0 : Int)), none] [] S) := by rw [ev_eq, zc_83, zr_83, zm_83]; rfl
set_option maxRecDepth 100000 in
set_option maxHeartbeats 4000000 in
theorem q_83_5 (L : Nat) (xs : Nat → Int) (d : Nat) (S : AH) (x1 : Int) (x2 : Int) (x3 : Int) (x4 : Int) : LQ (WK L xs) (ev (WK L xs) d) 83 5 [some (vr 43), some (vi x1), some (vi x2), some (vi x3), some (vi x4), none] [] S = (if x4 < (S.2 43 1) then (bindR ((ev (WK L xs) d) 80 [vr 43, vi x4] S) (fun r1 S2 => (if r1.toNat = 0 then (LQ (WK L xs) (ev (WK L xs) d) 83 5 [some (vr 43), some (vi x1), some (vi x2), some (vi x3), some (vi (w32 (x4 + (1 : Int)))), none] [] S2) else (gd (!(Nat.beq r1.toNat 14)) (gd (Nat.beq (shp (WK L xs) S2 r1.toNat).1 12) (if (rdv (WK L xs) S2 r1.toNat 0) = x1 then (gd (Nat.beq (shp (WK L xs) S2 r1.toNat).1 12 && Nat.ble 0 8) (bindR ((ev (WK L xs) d) 75 [vr r1.toNat, vi x2] S2) (fun r3 S4 => (if r3 = 0 then (LQ (WK L xs) (ev (WK L xs) d) 83 5 [some (vr 43), some (vi x1), some (vi x2), some (vi x3), some (vi (w32 (x4 + (1 : Int)))), none] [] S4) else (LQ (WK L xs) (ev (WK L xs) d) 83 5 [some (vr 43), some (vi x1), some (vi x2), some (vi (w32 (x3 + (1 : Int)))), some (vi (w32 (x4 + (1 : Int)))), none] [] S4))))) else (LQ (WK L xs) (ev (WK L xs) d) 83 5 [some (vr 43), some (vi x1), some (vi x2), some (vi x3), some (vi (w32 (x4 + (1 : Int)))), none] [] S2))))))) else (some (x3, S))) := by rw [LQ_eq, zc_83, zr_83]; rfl
theorem zc_84 : csOf 84 = cs_84 := rfl
theorem zr_84 : rtOf 84 = 9 := rfl
theorem zm_84 : mlOf 84 = 5 := rfl
set_option maxRecDepth 100000 in
set_option maxHeartbeats 4000000 in
/-- SupplyBook$Claims.markPaid(III)V -/
theorem q_84 (L : Nat) (xs : Nat → Int) (d : Nat) (S : AH) (p1 : Int) (p2 : Int) (p3 : Int) : ev (WK L xs) (d + 1) 84 [vr 43, vi p1, vi p2, vi p3] S = (bindR ((ev (WK L xs) d) 80 [vr 43, vi p1] S) (fun r1 S2 => (if r1.toNat = 0 then (some (0, S2)) else (gd (!(Nat.beq r1.toNat 14)) (if (S2.2 43 3) < (300 : Int) then (gd (Nat.beq (shp (WK L xs) S2 r1.toNat).1 12 && wok (WK L xs) r1.toNat 7) (gd (Nat.beq (shp (WK L xs) (wr S2 r1.toNat 7 p3) r1.toNat).1 12 && wok (WK L xs) r1.toNat 8) (gd (Nat.beq (shp (WK L xs) (wr (wr S2 r1.toNat 7 p3) r1.toNat 8 p2) r1.toNat).1 12 && wok (WK L xs) r1.toNat 9) (if 0 ≤ ((wr (wr (wr S2 r1.toNat 7 p3) r1.toNat 8 p2) r1.toNat 9 p2).2 43 3) ∧ ((wr (wr (wr S2 r1.toNat 7 p3) r1.toNat 8 p2) r1.toNat 9 p2).2 43 3) < (300 : Int) then (gd (Nat.beq (shp (WK L xs) (wr (wr (wr (wr (wr S2 r1.toNat 7 p3) r1.toNat 8 p2) r1.toNat 9 p2) 45 ((wr (wr (wr S2 r1.toNat 7 p3) r1.toNat 8 p2) r1.toNat 9 p2).2 43 3).toNat p1) 43 3 (w32 (((wr (wr (wr S2 r1.toNat 7 p3) r1.toNat 8 p2) r1.toNat 9 p2).2 43 3) + (1 : Int)))) r1.toNat).1 12) (some (0, (wr (wr (wr (wr (wr (wr S2 r1.toNat 7 p3) r1.toNat 8 p2) r1.toNat 9 p2) 45 ((wr (wr (wr S2 r1.toNat 7 p3) r1.toNat 8 p2) r1.toNat 9 p2).2 43 3).toNat p1) 43 3 (w32 (((wr (wr (wr S2 r1.toNat 7 p3) r1.toNat 8 p2) r1.toNat 9 p2).2 43 3) + (1 : Int)))) 43 4 (w64 (((wr (wr (wr S2 r1.toNat 7 p3) r1.toNat 8 p2) r1.toNat 9 p2).2 43 4) + (rdv (WK L xs) (wr (wr (wr (wr (wr S2 r1.toNat 7 p3) r1.toNat 8 p2) r1.toNat 9 p2) 45 ((wr (wr (wr S2 r1.toNat 7 p3) r1.toNat 8 p2) r1.toNat 9 p2).2 43 3).toNat p1) 43 3 (w32 (((wr (wr (wr S2 r1.toNat 7 p3) r1.toNat 8 p2) r1.toNat 9 p2).2 43 3) + (1 : Int)))) r1.toNat 3))))))) else none)))) else (some (0, S2))))))) := by rw [ev_eq, zc_84, zr_84, zm_84]; rfl
theorem zc_85 : csOf 85 = cs_85 := rfl
theorem zr_85 : rtOf 85 = 0 := rfl
theorem zm_85 : mlOf 85 = 13 := rfl
set_option maxRecDepth 100000 in
set_option maxHeartbeats 4000000 in
/-- SupplyBook$Claims.drawSome(III)I -/
theorem q_85 (L : Nat) (xs : Nat → Int) (d : Nat) (S : AH) (p1 : Int) (p2 : Int) (p3 : Int) : ev (WK L xs) (d + 1) 85 [vr 43, vi p1, vi p2, vi p3] S = (bindR ((ev (WK L xs) d) 14 [vi p1] S) (fun r1 S2 => (if r1 = 0 then (some ((-1 : Int), S2)) else (if p3 < (1 : Int) then (some ((-1 : Int), S2)) else (if 0 ≤ p1 ∧ p1 < (10 : Int) then (LQ (WK L xs) (ev (WK L xs) d) 85 34 [some (vr 43), some (vi p1), none, some (vi p3), some (vl p2), none, some (vl (0 : Int)), none, some (vi (0 : Int)), some (vi (0 : Int)), none, none, none] [] (wr S2 46 p1.toNat p3)) else none))))) := by rw [ev_eq, zc_85, zr_85, zm_85]; rfl
set_option maxRecDepth 100000 in
set_option maxHeartbeats 4000000 in
theorem q_85_34 (L : Nat) (xs : Nat → Int) (d : Nat) (S : AH) (x1 : Int) (x3 : Int) (x4 : Int) (x6 : Int) (x8 : Int) (x9 : Int) : LQ (WK L xs) (ev (WK L xs) d) 85 34 [some (vr 43), some (vi x1), none, some (vi x3), some (vl x4), none, some (vl x6), none, some (vi x8), some (vi x9), none, none, none] [] S = (if x9 < (S.2 43 1) then (bindR ((ev (WK L xs) d) 80 [vr 43, vi x9] S) (fun r1 S2 => (if r1.toNat = 0 then (LQ (WK L xs) (ev (WK L xs) d) 85 34 [some (vr 43), some (vi x1), none, some (vi x3), some (vl x4), none, some (vl x6), none, some (vi x8), some (vi (w32 (x9 + (1 : Int)))), none, none, none] [] S2) else (gd (!(Nat.beq r1.toNat 14)) (gd (Nat.beq (shp (WK L xs) S2 r1.toNat).1 12 && Nat.ble 0 8) (bindR ((ev (WK L xs) d) 75 [vr r1.toNat, vi x1] S2) (fun r3 S4 => (if r3 = 0 then (LQ (WK L xs) (ev (WK L xs) d) 85 34 [some (vr 43), some (vi x1), none, some (vi x3), some (vl x4), none, some (vl x6), none, some (vi x8), some (vi (w32 (x9 + (1 : Int)))), none, none, none] [] S4) else (gd (Nat.beq (shp (WK L xs) S4 r1.toNat).1 12) (if (lcmp x4 (w64 (x6 + (rdv (WK L xs) S4 r1.toNat 3)))) < 0 then (LQ (WK L xs) (ev (WK L xs) d) 85 94 [some (vr 43), some (vi x1), none, some (vi x3), some (vl x4), none, none, none, some (vi x8), some (vi x9), some (vr r1.toNat), some (vl (w64 (x6 + (rdv (WK L xs) S4 r1.toNat 3)))), none] [vi (1 : Int), vr r1.toNat] S4) else (LQ (WK L xs) (ev (WK L xs) d) 85 94 [some (vr 43), some (vi x1), none, some (vi x3), some (vl x4), none, none, none, some (vi x8), some (vi x9), some (vr r1.toNat), some (vl (w64 (x6 + (rdv (WK L xs) S4 r1.toNat 3)))), none] [vi (0 : Int), vr r1.toNat] S4))))))))))) else (some (x8, S))) := by rw [LQ_eq, zc_85, zr_85]; rfl
set_option maxRecDepth 100000 in
set_option maxHeartbeats 4000000 in
theorem q_85_94 (L : Nat) (xs : Nat → Int) (d : Nat) (S : AH) (x1 : Int) (x3 : Int) (x4 : Int) (x8 : Int) (x9 : Int) (x10 : Nat) (x11 : Int) (t0 : Int) (t1 : Nat) : LQ (WK L xs) (ev (WK L xs) d) 85 94 [some (vr 43), some (vi x1), none, some (vi x3), some (vl x4), none, none, none, some (vi x8), some (vi x9), some (vr x10), some (vl x11), none] [vi t0, vr t1] S = (gd (Nat.beq (shp (WK L xs) S t1).1 12 && wok (WK L xs) t1 12) (if t0 = 0 ∨ t0 = 1 then (gd (Nat.beq (shp (WK L xs) (wr S t1 12 t0) x10).1 12) (if (rdv (WK L xs) (wr S t1 12 t0) x10 12) = 0 then (LQ (WK L xs) (ev (WK L xs) d) 85 34 [some (vr 43), some (vi x1), none, some (vi x3), some (vl x4), none, some (vl x11), none, some (vi x8), some (vi (w32 (x9 + (1 : Int)))), none, none, none] [] (wr S t1 12 t0)) else (if x3 = 0 then none else (LQ (WK L xs) (ev (WK L xs) d) 85 34 [some (vr 43), some (vi x1), none, some (vi x3), some (vl (w64 (x4 + (w64 ((ldiv (w64 ((w64 ((w64 (x11 - x4)) + x3)) - (1 : Int))) x3) * x3))))), none, some (vl x11), none, some (vi (w32 (x8 + (1 : Int)))), some (vi (w32 (x9 + (1 : Int)))), none, none, none] [] (wr S t1 12 t0))))) else none)) := by rw [LQ_eq, zc_85, zr_85]; rfl
theorem zc_86 : csOf 86 = cs_86 := rfl
theorem zr_86 : rtOf 86 = 0 := rfl
theorem zm_86 : mlOf 86 = 6 := rfl
set_option maxRecDepth 100000 in
set_option maxHeartbeats 4000000 in
/-- SupplyBook$Claims.drawnAt(II)I -/
theorem q_86 (L : Nat) (xs : Nat → Int) (d : Nat) (S : AH) (p1 : Int) (p2 : Int) : ev (WK L xs) (d + 1) 86 [vr 43, vi p1, vi p2] S = (LQ (WK L xs) (ev (WK L xs) d) 86 5 [some (vr 43), some (vi p1), some (vi p2), some (vi (0 : Int)), some (vi (0 : Int)), none] [] S) := by rw [ev_eq, zc_86, zr_86, zm_86]; rfl
set_option maxRecDepth 100000 in
set_option maxHeartbeats 4000000 in
theorem q_86_5 (L : Nat) (xs : Nat → Int) (d : Nat) (S : AH) (x1 : Int) (x2 : Int) (x3 : Int) (x4 : Int) : LQ (WK L xs) (ev (WK L xs) d) 86 5 [some (vr 43), some (vi x1), some (vi x2), some (vi x3), some (vi x4), none] [] S = (if x4 < (S.2 43 1) then (bindR ((ev (WK L xs) d) 80 [vr 43, vi x4] S) (fun r1 S2 => (if r1.toNat = 0 then (LQ (WK L xs) (ev (WK L xs) d) 86 5 [some (vr 43), some (vi x1), some (vi x2), some (vi x3), some (vi (w32 (x4 + (1 : Int)))), none] [] S2) else (gd (!(Nat.beq r1.toNat 14)) (gd (Nat.beq (shp (WK L xs) S2 r1.toNat).1 12) (if (rdv (WK L xs) S2 r1.toNat 12) = 0 then (LQ (WK L xs) (ev (WK L xs) d) 86 5 [some (vr 43), some (vi x1), some (vi x2), some (vi x3), some (vi (w32 (x4 + (1 : Int)))), none] [] S2) else (gd (Nat.beq (shp (WK L xs) S2 r1.toNat).1 12 && Nat.ble 0 8) (bindR ((ev (WK L xs) d) 75 [vr r1.toNat, vi x1] S2) (fun r3 S4 => (if r3 = 0 then (LQ (WK L xs) (ev (WK L xs) d) 86 5 [some (vr 43), some (vi x1), some (vi x2), some (vi x3), some (vi (w32 (x4 + (1 : Int)))), none] [] S4) else (if x3 = x2 then (some (x4, S4)) else (LQ (WK L xs) (ev (WK L xs) d) 86 5 [some (vr 43), some (vi x1), some (vi x2), some (vi (w32 (x3 + (1 : Int)))), some (vi (w32 (x4 + (1 : Int)))), none] [] S4)))))))))))) else (some ((-1 : Int), S))) := by rw [LQ_eq, zc_86, zr_86]; rfl
theorem zc_87 : csOf 87 = cs_87 := rfl
theorem zr_87 : rtOf 87 = 1 := rfl
theorem zm_87 : mlOf 87 = 6 := rfl
set_option maxRecDepth 100000 in
set_option maxHeartbeats 4000000 in
/-- SupplyBook$Claims.faultsOf(I)J -/
theorem q_87 (L : Nat) (xs : Nat → Int) (d : Nat) (S : AH) (p1 : Int) : ev (WK L xs) (d + 1) 87 [vr 43, vi p1] S = (LQ (WK L xs) (ev (WK L xs) d) 87 5 [some (vr 43), some (vi p1), some (vl (0 : Int)), none, some (vi (0 : Int)), none] [] S) := by rw [ev_eq, zc_87, zr_87, zm_87]; rfl
set_option maxRecDepth 100000 in
set_option maxHeartbeats 4000000 in
theorem q_87_5 (L : Nat) (xs : Nat → Int) (d : Nat) (S : AH) (x1 : Int) (x2 : Int) (x4 : Int) : LQ (WK L xs) (ev (WK L xs) d) 87 5 [some (vr 43), some (vi x1), some (vl x2), none, some (vi x4), none] [] S = (if x4 < (S.2 43 1) then (bindR ((ev (WK L xs) d) 80 [vr 43, vi x4] S) (fun r1 S2 => (if r1.toNat = 0 then (LQ (WK L xs) (ev (WK L xs) d) 87 5 [some (vr 43), some (vi x1), some (vl x2), none, some (vi (w32 (x4 + (1 : Int)))), none] [] S2) else (gd (!(Nat.beq r1.toNat 14)) (gd (Nat.beq (shp (WK L xs) S2 r1.toNat).1 12 && Nat.ble 0 8) (bindR ((ev (WK L xs) d) 78 [vr r1.toNat, vi x1] S2) (fun r3 S4 => (if r3 = 0 then (LQ (WK L xs) (ev (WK L xs) d) 87 5 [some (vr 43), some (vi x1), some (vl x2), none, some (vi (w32 (x4 + (1 : Int)))), none] [] S4) else (gd (Nat.beq (shp (WK L xs) S4 r1.toNat).1 12) (LQ (WK L xs) (ev (WK L xs) d) 87 5 [some (vr 43), some (vi x1), some (vl (w64 (x2 + (rdv (WK L xs) S4 r1.toNat 13)))), none, some (vi (w32 (x4 + (1 : Int)))), none] [] S4)))))))))) else (some (x2, S))) := by rw [LQ_eq, zc_87, zr_87]; rfl
theorem zc_88 : csOf 88 = cs_88 := rfl
theorem zr_88 : rtOf 88 = 1 := rfl
theorem zm_88 : mlOf 88 = 9 := rfl
set_option maxRecDepth 100000 in
set_option maxHeartbeats 4000000 in
/-- SupplyBook$Claims.spreadFaultsOf(I)J -/
theorem q_88 (L : Nat) (xs : Nat → Int) (d : Nat) (S : AH) (p1 : Int) : ev (WK L xs) (d + 1) 88 [vr 43, vi p1] S = (bindR ((ev (WK L xs) d) 14 [vi p1] S) (fun r1 S2 => (if r1 = 0 then (some ((-1 : Int), S2)) else (if 0 ≤ p1 ∧ p1 < (10 : Int) then (LQ (WK L xs) (ev (WK L xs) d) 88 25 [some (vr 43), some (vi p1), some (vl (S2.2 46 p1.toNat)), none, some (vl (0 : Int)), none, some (vi (0 : Int)), none, none] [] S2) else none)))) := by rw [ev_eq, zc_88, zr_88, zm_88]; rfl
set_option maxRecDepth 100000 in
set_option maxHeartbeats 4000000 in
theorem q_88_25 (L : Nat) (xs : Nat → Int) (d : Nat) (S : AH) (x1 : Int) (x2 : Int) (x4 : Int) (x6 : Int) : LQ (WK L xs) (ev (WK L xs) d) 88 25 [some (vr 43), some (vi x1), some (vl x2), none, some (vl x4), none, some (vi x6), none, none] [] S = (if x6 < (S.2 43 1) then (bindR ((ev (WK L xs) d) 80 [vr 43, vi x6] S) (fun r1 S2 => (if r1.toNat = 0 then (LQ (WK L xs) (ev (WK L xs) d) 88 25 [some (vr 43), some (vi x1), some (vl x2), none, some (vl x4), none, some (vi (w32 (x6 + (1 : Int)))), none, none] [] S2) else (gd (!(Nat.beq r1.toNat 14)) (gd (Nat.beq (shp (WK L xs) S2 r1.toNat).1 12 && Nat.ble 0 8) (bindR ((ev (WK L xs) d) 78 [vr r1.toNat, vi x1] S2) (fun r3 S4 => (if r3 = 0 then (LQ (WK L xs) (ev (WK L xs) d) 88 25 [some (vr 43), some (vi x1), some (vl x2), none, some (vl x4), none, some (vi (w32 (x6 + (1 : Int)))), none, none] [] S4) else (gd (Nat.beq (shp (WK L xs) S4 r1.toNat).1 12) (if (lcmp (rdv (WK L xs) S4 r1.toNat 3) x2) < 0 then (gd (Nat.beq (shp (WK L xs) S4 r1.toNat).1 12) (if (rdv (WK L xs) S4 r1.toNat 3) < (1 : Int) then (LQ (WK L xs) (ev (WK L xs) d) 88 84 [some (vr 43), some (vi x1), some (vl x2), none, some (vl x4), none, some (vi x6), some (vr r1.toNat), none] [vi (1 : Int)] S4) else (LQ (WK L xs) (ev (WK L xs) d) 88 84 [some (vr 43), some (vi x1), some (vl x2), none, some (vl x4), none, some (vi x6), some (vr r1.toNat), none] [vi (0 : Int)] S4))) else (LQ (WK L xs) (ev (WK L xs) d) 88 84 [some (vr 43), some (vi x1), some (vl x2), none, some (vl x4), none, some (vi x6), some (vr r1.toNat), none] [vi (1 : Int)] S4))))))))))) else (some (x4, S))) := by rw [LQ_eq, zc_88, zr_88]; rfl
set_option maxRecDepth 100000 in
set_option maxHeartbeats 4000000 in
theorem q_88_84 (L : Nat) (xs : Nat → Int) (d : Nat) (S : AH) (x1 : Int) (x2 : Int) (x4 : Int) (x6 : Int) (x7 : Nat) (t0 : Int) : LQ (WK L xs) (ev (WK L xs) d) 88 84 [some (vr 43), some (vi x1), some (vl x2), none, some (vl x4), none, some (vi x6), some (vr x7), none] [vi t0] S = (if t0 = 0 then (gd (Nat.beq (shp (WK L xs) S x7).1 12) (gd (Nat.beq (shp (WK L xs) S x7).1 12) (if (rdv (WK L xs) S x7 3) = 0 then none else (LQ (WK L xs) (ev (WK L xs) d) 88 25 [some (vr 43), some (vi x1), some (vl x2), none, some (vl (w64 (x4 + (ldiv (w64 ((rdv (WK L xs) S x7 13) * x2)) (rdv (WK L xs) S x7 3))))), none, some (vi (w32 (x6 + (1 : Int)))), none, none] [] S)))) else (gd (Nat.beq (shp (WK L xs) S x7).1 12) (LQ (WK L xs) (ev (WK L xs) d) 88 25 [some (vr 43), some (vi x1), some (vl x2), none, some (vl (w64 (x4 + (rdv (WK L xs) S x7 13)))), none, some (vi (w32 (x6 + (1 : Int)))), none, none] [] S))) := by rw [LQ_eq, zc_88, zr_88]; rfl
theorem zc_89 : csOf 89 = cs_89 := rfl
theorem zr_89 : rtOf 89 = 1 := rfl
theorem zm_89 : mlOf 89 = 6 := rfl
set_option maxRecDepth 100000 in
set_option maxHeartbeats 4000000 in
/-- SupplyBook$Claims.notRightOf(I)J -/
theorem q_89 (L : Nat) (xs : Nat → Int) (d : Nat) (S : AH) (p1 : Int) : ev (WK L xs) (d + 1) 89 [vr 43, vi p1] S = (LQ (WK L xs) (ev (WK L xs) d) 89 5 [some (vr 43), some (vi p1), some (vl (0 : Int)), none, some (vi (0 : Int)), none] [] S) := by rw [ev_eq, zc_89, zr_89, zm_89]; rfl
set_option maxRecDepth 100000 in
set_option maxHeartbeats 4000000 in
theorem q_89_5 (L : Nat) (xs : Nat → Int) (d : Nat) (S : AH) (x1 : Int) (x2 : Int) (x4 : Int) : LQ (WK L xs) (ev (WK L xs) d) 89 5 [some (vr 43), some (vi x1), some (vl x2), none, some (vi x4), none] [] S = (if x4 < (S.2 43 1) then (bindR ((ev (WK L xs) d) 80 [vr 43, vi x4] S) (fun r1 S2 => (if r1.toNat = 0 then (LQ (WK L xs) (ev (WK L xs) d) 89 5 [some (vr 43), some (vi x1), some (vl x2), none, some (vi (w32 (x4 + (1 : Int)))), none] [] S2) else (gd (!(Nat.beq r1.toNat 14)) (gd (Nat.beq (shp (WK L xs) S2 r1.toNat).1 12 && Nat.ble 0 8) (bindR ((ev (WK L xs) d) 75 [vr r1.toNat, vi x1] S2) (fun r3 S4 => (if r3 = 0 then (LQ (WK L xs) (ev (WK L xs) d) 89 5 [some (vr 43), some (vi x1), some (vl x2), none, some (vi (w32 (x4 + (1 : Int)))), none] [] S4) else (gd (Nat.beq (shp (WK L xs) S4 r1.toNat).1 12 && Nat.ble 2 8) (bindR ((ev (WK L xs) d) 78 [vr r1.toNat, vi x1] S4) (fun r5 S6 => (if r5 = 0 then (gd (Nat.beq (shp (WK L xs) S6 r1.toNat).1 12) (LQ (WK L xs) (ev (WK L xs) d) 89 5 [some (vr 43), some (vi x1), some (vl (w64 (x2 + (rdv (WK L xs) S6 r1.toNat 3)))), none, some (vi (w32 (x4 + (1 : Int)))), none] [] S6)) else (gd (Nat.beq (shp (WK L xs) S6 r1.toNat).1 12) (LQ (WK L xs) (ev (WK L xs) d) 89 5 [some (vr 43), some (vi x1), some (vl (w64 (x2 + (rdv (WK L xs) S6 r1.toNat 13)))), none, some (vi (w32 (x4 + (1 : Int)))), none] [] S6)))))))))))))) else (some (x2, S))) := by rw [LQ_eq, zc_89, zr_89]; rfl
theorem zc_90 : csOf 90 = cs_90 := rfl
theorem zr_90 : rtOf 90 = 4 := rfl
theorem zm_90 : mlOf 90 = 5 := rfl
set_option maxRecDepth 100000 in
set_option maxHeartbeats 4000000 in
/-- SupplyBook$Claims.addFind(III)Z -/
theorem q_90 (L : Nat) (xs : Nat → Int) (d : Nat) (S : AH) (p1 : Int) (p2 : Int) (p3 : Int) : ev (WK L xs) (d + 1) 90 [vr 43, vi p1, vi p2, vi p3] S = (bindR ((ev (WK L xs) d) 80 [vr 43, vi p1] S) (fun r1 S2 => (if r1.toNat = 0 then (some ((0 : Int), S2)) else (gd (!(Nat.beq r1.toNat 14)) (if (S2.2 43 9) < (100 : Int) then (gd (Nat.beq (shp (WK L xs) S2 r1.toNat).1 12) (gd (Nat.beq (shp (WK L xs) S2 r1.toNat).1 12 && wok (WK L xs) r1.toNat 14) (if 0 ≤ ((wr S2 r1.toNat 14 (w64 ((rdv (WK L xs) S2 r1.toNat 14) + p2))).2 43 9) ∧ ((wr S2 r1.toNat 14 (w64 ((rdv (WK L xs) S2 r1.toNat 14) + p2))).2 43 9) < (100 : Int) then (if 0 ≤ ((wr S2 r1.toNat 14 (w64 ((rdv (WK L xs) S2 r1.toNat 14) + p2))).2 43 9) ∧ ((wr S2 r1.toNat 14 (w64 ((rdv (WK L xs) S2 r1.toNat 14) + p2))).2 43 9) < (100 : Int) then (if 0 ≤ ((wr S2 r1.toNat 14 (w64 ((rdv (WK L xs) S2 r1.toNat 14) + p2))).2 43 9) ∧ ((wr S2 r1.toNat 14 (w64 ((rdv (WK L xs) S2 r1.toNat 14) + p2))).2 43 9) < (100 : Int) then (some ((1 : Int), (wr (wr (wr (wr (wr S2 r1.toNat 14 (w64 ((rdv (WK L xs) S2 r1.toNat 14) + p2))) 47 ((wr S2 r1.toNat 14 (w64 ((rdv (WK L xs) S2 r1.toNat 14) + p2))).2 43 9).toNat p1) 48 ((wr S2 r1.toNat 14 (w64 ((rdv (WK L xs) S2 r1.toNat 14) + p2))).2 43 9).toNat p2) 49 ((wr S2 r1.toNat 14 (w64 ((rdv (WK L xs) S2 r1.toNat 14) + p2))).2 43 9).toNat p3) 43 9 (w32 (((wr S2 r1.toNat 14 (w64 ((rdv (WK L xs) S2 r1.toNat 14) + p2))).2 43 9) + (1 : Int)))))) else none) else none) else none))) else (some ((0 : Int), S2))))))) := by rw [ev_eq, zc_90, zr_90, zm_90]; rfl
theorem zc_91 : csOf 91 = cs_91 := rfl
theorem zr_91 : rtOf 91 = 1 := rfl
theorem zm_91 : mlOf 91 = 6 := rfl
set_option maxRecDepth 100000 in
set_option maxHeartbeats 4000000 in
/-- SupplyBook$Claims.knownWrong(II)J -/
theorem q_91 (L : Nat) (xs : Nat → Int) (d : Nat) (S : AH) (p1 : Int) (p2 : Int) : ev (WK L xs) (d + 1) 91 [vr 43, vi p1, vi p2] S = (LQ (WK L xs) (ev (WK L xs) d) 91 5 [some (vr 43), some (vi p1), some (vi p2), some (vl (0 : Int)), none, some (vi (0 : Int))] [] S) := by rw [ev_eq, zc_91, zr_91, zm_91]; rfl
set_option maxRecDepth 100000 in
set_option maxHeartbeats 4000000 in
theorem q_91_5 (L : Nat) (xs : Nat → Int) (d : Nat) (S : AH) (x1 : Int) (x2 : Int) (x3 : Int) (x5 : Int) : LQ (WK L xs) (ev (WK L xs) d) 91 5 [some (vr 43), some (vi x1), some (vi x2), some (vl x3), none, some (vi x5)] [] S = (if x5 < (S.2 43 9) then (if 0 ≤ x5 ∧ x5 < (100 : Int) then (if (S.2 47 x5.toNat) = x1 then (if 0 ≤ x5 ∧ x5 < (100 : Int) then (if x2 < (S.2 49 x5.toNat) then (LQ (WK L xs) (ev (WK L xs) d) 91 5 [some (vr 43), some (vi x1), some (vi x2), some (vl x3), none, some (vi (w32 (x5 + (1 : Int))))] [] S) else (if 0 ≤ x5 ∧ x5 < (100 : Int) then (LQ (WK L xs) (ev (WK L xs) d) 91 5 [some (vr 43), some (vi x1), some (vi x2), some (vl (w64 (x3 + (S.2 48 x5.toNat)))), none, some (vi (w32 (x5 + (1 : Int))))] [] S) else none)) else none) else (LQ (WK L xs) (ev (WK L xs) d) 91 5 [some (vr 43), some (vi x1), some (vi x2), some (vl x3), none, some (vi (w32 (x5 + (1 : Int))))] [] S)) else none) else (some (x3, S))) := by rw [LQ_eq, zc_91, zr_91]; rfl
theorem zc_92 : csOf 92 = cs_92 := rfl
theorem zr_92 : rtOf 92 = 0 := rfl
theorem zm_92 : mlOf 92 = 2 := rfl
set_option maxRecDepth 100000 in
set_option maxHeartbeats 4000000 in
/-- SupplyBook$Claims.paidAt(I)I -/
theorem q_92 (L : Nat) (xs : Nat → Int) (d : Nat) (S : AH) (p1 : Int) : ev (WK L xs) (d + 1) 92 [vr 43, vi p1] S = (if p1 < 0 then (some ((-1 : Int), S)) else (if p1 < (S.2 43 3) then (if 0 ≤ p1 ∧ p1 < (300 : Int) then (some ((S.2 45 p1.toNat), S)) else none) else (some ((-1 : Int), S)))) := by rw [ev_eq, zc_92, zr_92, zm_92]; rfl
theorem zc_94 : csOf 94 = cs_94 := rfl
theorem zr_94 : rtOf 94 = 0 := rfl
theorem zm_94 : mlOf 94 = 4 := rfl
set_option maxRecDepth 100000 in
set_option maxHeartbeats 4000000 in
/-- SupplyBook$Cuts.addItem(IIZ)I -/
theorem q_94 (L : Nat) (xs : Nat → Int) (d : Nat) (S : AH) (p1 : Int) (p2 : Int) (p3 : Int) : ev (WK L xs) (d + 1) 94 [vr 50, vi p1, vi p2, vi p3] S = (if (S.2 50 4) < (14 : Int) then (if 0 ≤ (S.2 50 4) ∧ (S.2 50 4) < (14 : Int) then (if 0 ≤ (S.2 50 4) ∧ (S.2 50 4) < (14 : Int) then (if 0 ≤ (S.2 50 4) ∧ (S.2 50 4) < (15 : Int) then (if 0 ≤ (w32 ((S.2 50 4) + (1 : Int))) ∧ (w32 ((S.2 50 4) + (1 : Int))) < (15 : Int) then (if p3 = 0 then (some ((w32 ((w32 ((S.2 50 4) + (1 : Int))) - (1 : Int))), (wr (wr (wr (wr (wr S 51 (S.2 50 4).toNat p1) 52 (S.2 50 4).toNat p2) 53 (w32 ((S.2 50 4) + (1 : Int))).toNat (w64 ((S.2 53 (S.2 50 4).toNat) + p2))) 50 3 (ior (S.2 50 3) (0 : Int))) 50 4 (w32 ((S.2 50 4) + (1 : Int)))))) else (some ((w32 ((w32 ((S.2 50 4) + (1 : Int))) - (1 : Int))), (wr (wr (wr (wr (wr S 51 (S.2 50 4).toNat p1) 52 (S.2 50 4).toNat p2) 53 (w32 ((S.2 50 4) + (1 : Int))).toNat (w64 ((S.2 53 (S.2 50 4).toNat) + p2))) 50 3 (ior (S.2 50 3) (ishl (1 : Int) (S.2 50 4)))) 50 4 (w32 ((S.2 50 4) + (1 : Int))))))) else none) else none) else none) else none) else (some ((-1 : Int), S))) := by rw [ev_eq, zc_94, zr_94, zm_94]; rfl
theorem zc_95 : csOf 95 = cs_95 := rfl
theorem zr_95 : rtOf 95 = 0 := rfl
theorem zm_95 : mlOf 95 = 2 := rfl
set_option maxRecDepth 100000 in
set_option maxHeartbeats 4000000 in
/-- SupplyBook$Cuts.bestOf(I)I -/
theorem q_95 (L : Nat) (xs : Nat → Int) (d : Nat) (S : AH) (p1 : Int) : ev (WK L xs) (d + 1) 95 [vr 50, vi p1] S = (bindR ((ev (WK L xs) d) 96 [vr 50, vi (w32 ((S.2 50 4) - (1 : Int))), vl p1, vl (0 : Int), vl (0 : Int), vi (0 : Int)] (wr S 50 5 (-1 : Int))) (fun r1 S2 => (some ((S2.2 50 5), S2)))) := by rw [ev_eq, zc_95, zr_95, zm_95]; rfl
theorem zc_96 : csOf 96 = cs_96 := rfl
theorem zr_96 : rtOf 96 = 9 := rfl
theorem zm_96 : mlOf 96 = 9 := rfl
set_option maxRecDepth 100000 in
set_option maxHeartbeats 4000000 in
/-- SupplyBook$Cuts.chooseFrom(IJJJI)V -/
theorem q_96 (L : Nat) (xs : Nat → Int) (d : Nat) (S : AH) (p1 : Int) (p2 : Int) (p3 : Int) (p4 : Int) (p5 : Int) : ev (WK L xs) (d + 1) 96 [vr 50, vi p1, vl p2, vl p3, vl p4, vi p5] S = (if 0 < (lcmp p3 p2) then (some (0, S)) else (if p1 < (14 : Int) then (if (S.2 50 5) = (-1 : Int) then (LQ (WK L xs) (ev (WK L xs) d) 96 45 [some (vr 50), some (vi p1), some (vl p2), none, some (vl p3), none, some (vl p4), none, some (vi p5)] [] S) else (if 0 ≤ (w32 (p1 + (1 : Int))) ∧ (w32 (p1 + (1 : Int))) < (15 : Int) then (bindR ((ev (WK L xs) d) 97 [vr 50, vl p3, vl (w64 (p4 + (S.2 53 (w32 (p1 + (1 : Int))).toNat)))] S) (fun r1 S2 => (if r1 = 0 then (LQ (WK L xs) (ev (WK L xs) d) 96 45 [some (vr 50), some (vi p1), some (vl p2), none, some (vl p3), none, some (vl p4), none, some (vi p5)] [] S2) else (some (0, S2))))) else none)) else (some (0, S)))) := by rw [ev_eq, zc_96, zr_96, zm_96]; rfl
set_option maxRecDepth 100000 in
set_option maxHeartbeats 4000000 in
theorem q_96_45 (L : Nat) (xs : Nat → Int) (d : Nat) (S : AH) (x1 : Int) (x2 : Int) (x4 : Int) (x6 : Int) (x8 : Int) : LQ (WK L xs) (ev (WK L xs) d) 96 45 [some (vr 50), some (vi x1), some (vl x2), none, some (vl x4), none, some (vl x6), none, some (vi x8)] [] S = (if x1 < 0 then (some (0, (wr (wr (wr S 50 5 x8) 50 6 x4) 50 7 x6))) else (if 0 ≤ x1 ∧ x1 < (14 : Int) then (if 0 ≤ x1 ∧ x1 < (14 : Int) then (bindR ((ev (WK L xs) d) 96 [vr 50, vi (w32 (x1 - (1 : Int))), vl x2, vl (w64 (x4 + (S.2 51 x1.toNat))), vl (w64 (x6 + (S.2 52 x1.toNat))), vi (ior x8 (ishl (1 : Int) x1))] S) (fun r1 S2 => (if (iand (ishr (S2.2 50 3) x1) (1 : Int)) = 0 then (bindR ((ev (WK L xs) d) 96 [vr 50, vi (w32 (x1 - (1 : Int))), vl x2, vl x4, vl x6, vi x8] S2) (fun r3 S4 => (some (0, S4)))) else (some (0, S2))))) else none) else none)) := by rw [LQ_eq, zc_96, zr_96]; rfl
theorem zc_97 : csOf 97 = cs_97 := rfl
theorem zr_97 : rtOf 97 = 4 := rfl
theorem zm_97 : mlOf 97 = 5 := rfl
set_option maxRecDepth 100000 in
set_option maxHeartbeats 4000000 in
/-- SupplyBook$Cuts.isWorse(JJ)Z -/
theorem q_97 (L : Nat) (xs : Nat → Int) (d : Nat) (S : AH) (p1 : Int) (p2 : Int) : ev (WK L xs) (d + 1) 97 [vr 50, vl p1, vl p2] S = (if (lcmp p2 (S.2 50 7)) < 0 then (some ((1 : Int), S)) else (if (lcmp p2 (S.2 50 7)) = 0 then (if 0 < (lcmp p1 (S.2 50 6)) then (some ((1 : Int), S)) else (some ((0 : Int), S))) else (some ((0 : Int), S)))) := by rw [ev_eq, zc_97, zr_97, zm_97]; rfl
theorem zc_98 : csOf 98 = cs_98 := rfl
theorem zr_98 : rtOf 98 = 1 := rfl
theorem zm_98 : mlOf 98 = 2 := rfl
set_option maxRecDepth 100000 in
set_option maxHeartbeats 4000000 in
/-- SupplyBook$Cuts.moreThan(I)J -/
theorem q_98 (L : Nat) (xs : Nat → Int) (d : Nat) (S : AH) (p1 : Int) : ev (WK L xs) (d + 1) 98 [vr 50, vi p1] S = (bindR ((ev (WK L xs) d) 95 [vr 50, vi p1] S) (fun r1 S2 => (if r1 = (-1 : Int) then (some ((-1 : Int), S2)) else (bindR ((ev (WK L xs) d) 99 [vr 50, vi (w32 ((S2.2 50 4) - (1 : Int))), vl (0 : Int), vl (0 : Int)] (wr S2 50 8 (-1 : Int))) (fun r3 S4 => (if (lcmp (S4.2 50 8) (-1 : Int)) = 0 then (some ((0 : Int), S4)) else (some ((w64 ((S4.2 50 8) - p1)), S4)))))))) := by rw [ev_eq, zc_98, zr_98, zm_98]; rfl
theorem zc_99 : csOf 99 = cs_99 := rfl
theorem zr_99 : rtOf 99 = 9 := rfl
theorem zm_99 : mlOf 99 = 6 := rfl
set_option maxRecDepth 100000 in
set_option maxHeartbeats 4000000 in
/-- SupplyBook$Cuts.searchMore(IJJ)V -/
theorem q_99 (L : Nat) (xs : Nat → Int) (d : Nat) (S : AH) (p1 : Int) (p2 : Int) (p3 : Int) : ev (WK L xs) (d + 1) 99 [vr 50, vi p1, vl p2, vl p3] S = (if p1 < (14 : Int) then (if 0 ≤ (w32 (p1 + (1 : Int))) ∧ (w32 (p1 + (1 : Int))) < (15 : Int) then (if 0 < (lcmp (w64 (p3 + (S.2 53 (w32 (p1 + (1 : Int))).toNat))) (S.2 50 7)) then (if (lcmp (S.2 50 8) (-1 : Int)) = 0 then (LQ (WK L xs) (ev (WK L xs) d) 99 49 [some (vr 50), some (vi p1), some (vl p2), none, some (vl p3), none] [] S) else (if (lcmp p2 (S.2 50 8)) < 0 then (LQ (WK L xs) (ev (WK L xs) d) 99 49 [some (vr 50), some (vi p1), some (vl p2), none, some (vl p3), none] [] S) else (some (0, S)))) else (some (0, S))) else none) else (some (0, S))) := by rw [ev_eq, zc_99, zr_99, zm_99]; rfl
set_option maxRecDepth 100000 in
set_option maxHeartbeats 4000000 in
theorem q_99_49 (L : Nat) (xs : Nat → Int) (d : Nat) (S : AH) (x1 : Int) (x2 : Int) (x4 : Int) : LQ (WK L xs) (ev (WK L xs) d) 99 49 [some (vr 50), some (vi x1), some (vl x2), none, some (vl x4), none] [] S = (if x1 < 0 then (some (0, (wr S 50 8 x2))) else (if (iand (ishr (S.2 50 3) x1) (1 : Int)) = 0 then (bindR ((ev (WK L xs) d) 99 [vr 50, vi (w32 (x1 - (1 : Int))), vl x2, vl x4] S) (fun r1 S2 => (LQ (WK L xs) (ev (WK L xs) d) 99 80 [some (vr 50), some (vi x1), some (vl x2), none, some (vl x4), none] [] S2))) else (LQ (WK L xs) (ev (WK L xs) d) 99 80 [some (vr 50), some (vi x1), some (vl x2), none, some (vl x4), none] [] S))) := by rw [LQ_eq, zc_99, zr_99]; rfl
set_option maxRecDepth 100000 in
set_option maxHeartbeats 4000000 in
theorem q_99_80 (L : Nat) (xs : Nat → Int) (d : Nat) (S : AH) (x1 : Int) (x2 : Int) (x4 : Int) : LQ (WK L xs) (ev (WK L xs) d) 99 80 [some (vr 50), some (vi x1), some (vl x2), none, some (vl x4), none] [] S = (if 0 ≤ x1 ∧ x1 < (14 : Int) then (if 0 ≤ x1 ∧ x1 < (14 : Int) then (bindR ((ev (WK L xs) d) 99 [vr 50, vi (w32 (x1 - (1 : Int))), vl (w64 (x2 + (S.2 51 x1.toNat))), vl (w64 (x4 + (S.2 52 x1.toNat)))] S) (fun r1 S2 => (some (0, S2)))) else none) else none) := by rw [LQ_eq, zc_99, zr_99]; rfl
theorem zc_101 : csOf 101 = cs_101 := rfl
theorem zr_101 : rtOf 101 = 4 := rfl
theorem zm_101 : mlOf 101 = 1 := rfl
set_option maxRecDepth 100000 in
set_option maxHeartbeats 4000000 in
/-- SupplyBook$Laws.isFull()Z -/
theorem q_101 (L : Nat) (xs : Nat → Int) (d : Nat) (S : AH)  : ev (WK L xs) (d + 1) 101 [vr 31] S = (if (S.2 31 4) < (20 : Int) then (some ((0 : Int), S)) else (some ((1 : Int), S))) := by rw [ev_eq, zc_101, zr_101, zm_101]; rfl
theorem zc_102 : csOf 102 = cs_102 := rfl
theorem zr_102 : rtOf 102 = 0 := rfl
theorem zm_102 : mlOf 102 = 4 := rfl
set_option maxRecDepth 100000 in
set_option maxHeartbeats 4000000 in
/-- SupplyBook$Laws.addLaw(LSupplyBook$Text;II)I -/
theorem q_102 (L : Nat) (xs : Nat → Int) (d : Nat) (S : AH) (p1 : Nat) (p2 : Int) (p3 : Int) : ev (WK L xs) (d + 1) 102 [vr 31, vr p1, vi p2, vi p3] S = (bindR ((ev (WK L xs) d) 101 [vr 31] S) (fun r1 S2 => (if r1 = 0 then (gd (Nat.beq (shp (WK L xs) S2 p1).1 19) (if 0 ≤ (S2.2 31 4) ∧ (S2.2 31 4) < (20 : Int) then (if 0 ≤ (S2.2 31 4) ∧ (S2.2 31 4) < (20 : Int) then (if 0 ≤ (S2.2 31 4) ∧ (S2.2 31 4) < (20 : Int) then (some ((w32 ((w32 ((S2.2 31 4) + (1 : Int))) - (1 : Int))), (wr (wr (wr (wr S2 32 (S2.2 31 4).toNat (p1 : Int)) 33 (S2.2 31 4).toNat p2) 34 (S2.2 31 4).toNat p3) 31 4 (w32 ((S2.2 31 4) + (1 : Int)))))) else none) else none) else none)) else (some ((-1 : Int), S2))))) := by rw [ev_eq, zc_102, zr_102, zm_102]; rfl
theorem zc_103 : csOf 103 = cs_103 := rfl
theorem zr_103 : rtOf 103 = 4 := rfl
theorem zm_103 : mlOf 103 = 2 := rfl
set_option maxRecDepth 100000 in
set_option maxHeartbeats 4000000 in
/-- SupplyBook$Laws.isLaw(I)Z -/
theorem q_103 (L : Nat) (xs : Nat → Int) (d : Nat) (S : AH) (p1 : Int) : ev (WK L xs) (d + 1) 103 [vr 31, vi p1] S = (if p1 < 0 then (some ((0 : Int), S)) else (if p1 < (S.2 31 4) then (some ((1 : Int), S)) else (some ((0 : Int), S)))) := by rw [ev_eq, zc_103, zr_103, zm_103]; rfl
theorem zc_104 : csOf 104 = cs_104 := rfl
theorem zr_104 : rtOf 104 = 9 := rfl
theorem zm_104 : mlOf 104 = 5 := rfl
set_option maxRecDepth 100000 in
set_option maxHeartbeats 4000000 in
/-- SupplyBook$Laws.weigh(I)V -/
theorem q_104 (L : Nat) (xs : Nat → Int) (d : Nat) (S : AH) (p1 : Int) : ev (WK L xs) (d + 1) 104 [vr 31, vi p1] S = (LQ (WK L xs) (ev (WK L xs) d) 104 2 [some (vr 31), some (vi p1), some (vi (0 : Int)), none, none] [] S) := by rw [ev_eq, zc_104, zr_104, zm_104]; rfl
set_option maxRecDepth 100000 in
set_option maxHeartbeats 4000000 in
theorem q_104_2 (L : Nat) (xs : Nat → Int) (d : Nat) (S : AH) (x1 : Int) (x2 : Int) : LQ (WK L xs) (ev (WK L xs) d) 104 2 [some (vr 31), some (vi x1), some (vi x2), none, none] [] S = (if x2 < (S.2 31 4) then (if 0 ≤ x2 ∧ x2 < (20 : Int) then (if (S.2 32 x2.toNat).toNat = 0 then (LQ (WK L xs) (ev (WK L xs) d) 104 46 [some (vr 31), some (vi x1), some (vi x2), some (vr (S.2 32 x2.toNat).toNat), none] [vi (0 : Int)] S) else (gd (!(Nat.beq (S.2 32 x2.toNat).toNat 14)) (if 0 ≤ x2 ∧ x2 < (20 : Int) then (if x1 < (S.2 33 x2.toNat) then (LQ (WK L xs) (ev (WK L xs) d) 104 46 [some (vr 31), some (vi x1), some (vi x2), some (vr (S.2 32 x2.toNat).toNat), none] [vi (0 : Int)] S) else (if 0 ≤ x2 ∧ x2 < (20 : Int) then (if (S.2 34 x2.toNat) < x1 then (LQ (WK L xs) (ev (WK L xs) d) 104 46 [some (vr 31), some (vi x1), some (vi x2), some (vr (S.2 32 x2.toNat).toNat), none] [vi (0 : Int)] S) else (LQ (WK L xs) (ev (WK L xs) d) 104 46 [some (vr 31), some (vi x1), some (vi x2), some (vr (S.2 32 x2.toNat).toNat), none] [vi (1 : Int)] S)) else none)) else none))) else none) else (LQ (WK L xs) (ev (WK L xs) d) 104 84 [some (vr 31), none, some (vi (w32 ((S.2 31 4) - (1 : Int)))), none, none] [] S)) := by rw [LQ_eq, zc_104, zr_104]; rfl
set_option maxRecDepth 100000 in
set_option maxHeartbeats 4000000 in
theorem q_104_46 (L : Nat) (xs : Nat → Int) (d : Nat) (S : AH) (x1 : Int) (x2 : Int) (x3 : Nat) (t0 : Int) : LQ (WK L xs) (ev (WK L xs) d) 104 46 [some (vr 31), some (vi x1), some (vi x2), some (vr x3), none] [vi t0] S = (if t0 = 0 then (if 0 ≤ x2 ∧ x2 < (20 : Int) then (LQ (WK L xs) (ev (WK L xs) d) 104 2 [some (vr 31), some (vi x1), some (vi (w32 (x2 + (1 : Int)))), none, none] [] (wr S 35 x2.toNat (0 : Int))) else none) else (gd (Nat.beq (shp (WK L xs) S x3).1 19 && Nat.ble 3 8) (bindR ((ev (WK L xs) d) 161 [vr x3] S) (fun r1 S2 => (if 0 ≤ x2 ∧ x2 < (20 : Int) then (LQ (WK L xs) (ev (WK L xs) d) 104 2 [some (vr 31), some (vi x1), some (vi (w32 (x2 + (1 : Int)))), none, none] [] (wr S2 35 x2.toNat (w32 ((ishl (1 : Int) r1) - (1 : Int))))) else none))))) := by rw [LQ_eq, zc_104, zr_104]; rfl
set_option maxRecDepth 100000 in
set_option maxHeartbeats 4000000 in
theorem q_104_84 (L : Nat) (xs : Nat → Int) (d : Nat) (S : AH) (x2 : Int) : LQ (WK L xs) (ev (WK L xs) d) 104 84 [some (vr 31), none, some (vi x2), none, none] [] S = (if x2 < 0 then (some (0, S)) else (bindR ((ev (WK L xs) d) 105 [vr 31, vi x2] S) (fun r1 S2 => (LQ (WK L xs) (ev (WK L xs) d) 104 84 [some (vr 31), none, some (vi (w32 (x2 + (-1 : Int)))), none, none] [] S2)))) := by rw [LQ_eq, zc_104, zr_104]; rfl
theorem zc_105 : csOf 105 = cs_105 := rfl
theorem zr_105 : rtOf 105 = 9 := rfl
theorem zm_105 : mlOf 105 = 5 := rfl
set_option maxRecDepth 100000 in
set_option maxHeartbeats 4000000 in
/-- SupplyBook$Laws.strikeLower(I)V -/
theorem q_105 (L : Nat) (xs : Nat → Int) (d : Nat) (S : AH) (p1 : Int) : ev (WK L xs) (d + 1) 105 [vr 31, vi p1] S = (bindR ((ev (WK L xs) d) 106 [vr 31, vi p1] S) (fun r1 S2 => (if r1.toNat = 0 then (some (0, S2)) else (gd (!(Nat.beq r1.toNat 14)) (if 0 ≤ p1 ∧ p1 < (20 : Int) then (if (S2.2 35 p1.toNat) = 0 then (some (0, S2)) else (LQ (WK L xs) (ev (WK L xs) d) 105 22 [some (vr 31), some (vi p1), some (vr r1.toNat), some (vi (0 : Int)), none] [] S2)) else none))))) := by rw [ev_eq, zc_105, zr_105, zm_105]; rfl
set_option maxRecDepth 100000 in
set_option maxHeartbeats 4000000 in
theorem q_105_22 (L : Nat) (xs : Nat → Int) (d : Nat) (S : AH) (x1 : Int) (x2 : Nat) (x3 : Int) : LQ (WK L xs) (ev (WK L xs) d) 105 22 [some (vr 31), some (vi x1), some (vr x2), some (vi x3), none] [] S = (gd (Nat.beq (shp (WK L xs) S x2).1 19 && Nat.ble 1 8) (bindR ((ev (WK L xs) d) 161 [vr x2] S) (fun r1 S2 => (if x3 < r1 then (gd (Nat.beq (shp (WK L xs) S2 x2).1 19 && Nat.ble 0 8) (bindR ((ev (WK L xs) d) 162 [vr x2, vi x3] S2) (fun r3 S4 => (if r3 = (120 : Int) then (if 0 ≤ x1 ∧ x1 < (20 : Int) then (if (iand (ishr (S4.2 35 x1.toNat) x3) (1 : Int)) = 0 then (LQ (WK L xs) (ev (WK L xs) d) 105 22 [some (vr 31), some (vi x1), some (vr x2), some (vi (w32 (x3 + (1 : Int)))), none] [] S4) else (gd (Nat.beq (shp (WK L xs) S4 x2).1 19 && Nat.ble 0 8) (bindR ((ev (WK L xs) d) 164 [vr x2, vi x3] S4) (fun r5 S6 => (if (idiv r5 (16 : Int)) < x1 then (bindR ((ev (WK L xs) d) 103 [vr 31, vi (idiv r5 (16 : Int))] S6) (fun r7 S8 => (if r7 = 0 then (LQ (WK L xs) (ev (WK L xs) d) 105 22 [some (vr 31), some (vi x1), some (vr x2), some (vi (w32 (x3 + (1 : Int)))), none] [] S8) else (if 0 ≤ (idiv r5 (16 : Int)) ∧ (idiv r5 (16 : Int)) < (20 : Int) then (gd (Nat.beq (shp (WK L xs) S8 x2).1 19 && Nat.ble 4 8) (bindR ((ev (WK L xs) d) 164 [vr x2, vi x3] S8) (fun r9 S10 => (if 0 ≤ (idiv r5 (16 : Int)) ∧ (idiv r5 (16 : Int)) < (20 : Int) then (LQ (WK L xs) (ev (WK L xs) d) 105 22 [some (vr 31), some (vi x1), some (vr x2), some (vi (w32 (x3 + (1 : Int)))), none] [] (wr S10 35 (idiv r5 (16 : Int)).toNat (iand (S8.2 35 (idiv r5 (16 : Int)).toNat) (ixor (ishl (1 : Int) (Int.tmod r9 (16 : Int))) (-1 : Int))))) else none)))) else none)))) else (LQ (WK L xs) (ev (WK L xs) d) 105 22 [some (vr 31), some (vi x1), some (vr x2), some (vi (w32 (x3 + (1 : Int)))), none] [] S6)))))) else none) else (LQ (WK L xs) (ev (WK L xs) d) 105 22 [some (vr 31), some (vi x1), some (vr x2), some (vi (w32 (x3 + (1 : Int)))), none] [] S4))))) else (some (0, S2)))))) := by rw [LQ_eq, zc_105, zr_105]; rfl
theorem zc_106 : csOf 106 = cs_106 := rfl
theorem zr_106 : rtOf 106 = 2 := rfl
theorem zm_106 : mlOf 106 = 2 := rfl
set_option maxRecDepth 100000 in
set_option maxHeartbeats 4000000 in
/-- SupplyBook$Laws.textOf(I)LSupplyBook$Text; -/
theorem q_106 (L : Nat) (xs : Nat → Int) (d : Nat) (S : AH) (p1 : Int) : ev (WK L xs) (d + 1) 106 [vr 31, vi p1] S = (bindR ((ev (WK L xs) d) 103 [vr 31, vi p1] S) (fun r1 S2 => (if r1 = 0 then (some ((0 : Int), S2)) else (if 0 ≤ p1 ∧ p1 < (20 : Int) then (some (((S2.2 32 p1.toNat).toNat : Int), S2)) else none)))) := by rw [ev_eq, zc_106, zr_106, zm_106]; rfl
theorem zc_107 : csOf 107 = cs_107 := rfl
theorem zr_107 : rtOf 107 = 0 := rfl
theorem zm_107 : mlOf 107 = 2 := rfl
set_option maxRecDepth 100000 in
set_option maxHeartbeats 4000000 in
/-- SupplyBook$Laws.countingOf(I)I -/
theorem q_107 (L : Nat) (xs : Nat → Int) (d : Nat) (S : AH) (p1 : Int) : ev (WK L xs) (d + 1) 107 [vr 31, vi p1] S = (bindR ((ev (WK L xs) d) 103 [vr 31, vi p1] S) (fun r1 S2 => (if r1 = 0 then (some ((0 : Int), S2)) else (if 0 ≤ p1 ∧ p1 < (20 : Int) then (some ((S2.2 35 p1.toNat), S2)) else none)))) := by rw [ev_eq, zc_107, zr_107, zm_107]; rfl
theorem zc_108 : csOf 108 = cs_108 := rfl
theorem zr_108 : rtOf 108 = 0 := rfl
theorem zm_108 : mlOf 108 = 7 := rfl
set_option maxRecDepth 100000 in
set_option maxHeartbeats 4000000 in
/-- SupplyBook$Laws.numberOn(II)I -/
theorem q_108 (L : Nat) (xs : Nat → Int) (d : Nat) (S : AH) (p1 : Int) (p2 : Int) : ev (WK L xs) (d + 1) 108 [vr 31, vi p1, vi p2] S = (if p1 < 0 then (some ((-1 : Int), S)) else (if p1 < (5 : Int) then (bindR ((ev (WK L xs) d) 321 [vr 8] S) (fun r1 S2 => (if p1 < r1 then (bindR ((ev (WK L xs) d) 104 [vr 31, vi p2] S2) (fun r3 S4 => (bindR ((ev (WK L xs) d) 326 [vr 8, vi p1] S4) (fun r5 S6 => (LQ (WK L xs) (ev (WK L xs) d) 108 43 [some (vr 31), some (vi p1), none, some (vi r5), some (vi (w32 ((S6.2 31 4) - (1 : Int)))), none, none] [] S6))))) else (some ((-1 : Int), S2))))) else (some ((-1 : Int), S)))) := by rw [ev_eq, zc_108, zr_108, zm_108]; rfl
set_option maxRecDepth 100000 in
set_option maxHeartbeats 4000000 in
theorem q_108_43 (L : Nat) (xs : Nat → Int) (d : Nat) (S : AH) (x1 : Int) (x3 : Int) (x4 : Int) : LQ (WK L xs) (ev (WK L xs) d) 108 43 [some (vr 31), some (vi x1), none, some (vi x3), some (vi x4), none, none] [] S = (if x4 < 0 then (if 0 ≤ x1 ∧ x1 < (5 : Int) then (some ((rdv (WK L xs) S 3 x1.toNat), S)) else none) else (bindR ((ev (WK L xs) d) 106 [vr 31, vi x4] S) (fun r1 S2 => (if r1.toNat = 0 then (LQ (WK L xs) (ev (WK L xs) d) 108 74 [some (vr 31), some (vi x1), none, some (vi x3), some (vi x4), some (vr r1.toNat), some (vi (-1 : Int))] [] S2) else (gd (!(Nat.beq r1.toNat 14)) (gd (Nat.beq (shp (WK L xs) S2 r1.toNat).1 19 && Nat.ble 0 8) (bindR ((ev (WK L xs) d) 161 [vr r1.toNat] S2) (fun r3 S4 => (LQ (WK L xs) (ev (WK L xs) d) 108 74 [some (vr 31), some (vi x1), none, some (vi x3), some (vi x4), some (vr r1.toNat), some (vi (w32 (r3 - (1 : Int))))] [] S4))))))))) := by rw [LQ_eq, zc_108, zr_108]; rfl
set_option maxRecDepth 100000 in
set_option maxHeartbeats 4000000 in
theorem q_108_74 (L : Nat) (xs : Nat → Int) (d : Nat) (S : AH) (x1 : Int) (x3 : Int) (x4 : Int) (x5 : Nat) (x6 : Int) : LQ (WK L xs) (ev (WK L xs) d) 108 74 [some (vr 31), some (vi x1), none, some (vi x3), some (vi x4), some (vr x5), some (vi x6)] [] S = (if x6 < 0 then (LQ (WK L xs) (ev (WK L xs) d) 108 43 [some (vr 31), some (vi x1), none, some (vi x3), some (vi (w32 (x4 + (-1 : Int)))), none, none] [] S) else (if 0 ≤ x4 ∧ x4 < (20 : Int) then (if (iand (ishr (S.2 35 x4.toNat) x6) (1 : Int)) = 0 then (LQ (WK L xs) (ev (WK L xs) d) 108 74 [some (vr 31), some (vi x1), none, some (vi x3), some (vi x4), some (vr x5), some (vi (w32 (x6 + (-1 : Int))))] [] S) else (gd (Nat.beq (shp (WK L xs) S x5).1 19 && Nat.ble 0 8) (bindR ((ev (WK L xs) d) 162 [vr x5, vi x6] S) (fun r1 S2 => (if r1 = x3 then (gd (Nat.beq (shp (WK L xs) S2 x5).1 19 && Nat.ble 0 8) (bindR ((ev (WK L xs) d) 164 [vr x5, vi x6] S2) (fun r3 S4 => (some (r3, S4))))) else (LQ (WK L xs) (ev (WK L xs) d) 108 74 [some (vr 31), some (vi x1), none, some (vi x3), some (vi x4), some (vr x5), some (vi (w32 (x6 + (-1 : Int))))] [] S2)))))) else none)) := by rw [LQ_eq, zc_108, zr_108]; rfl
theorem zc_110 : csOf 110 = cs_110 := rfl
theorem zr_110 : rtOf 110 = 0 := rfl
theorem zm_110 : mlOf 110 = 3 := rfl
set_option maxRecDepth 100000 in
set_option maxHeartbeats 4000000 in
/-- SupplyBook$Loans.addBid(II)I -/
theorem q_110 (L : Nat) (xs : Nat → Int) (d : Nat) (S : AH) (p1 : Int) (p2 : Int) : ev (WK L xs) (d + 1) 110 [vr 63, vi p1, vi p2] S = (if (S.2 63 2) < (12 : Int) then (if 0 ≤ (S.2 63 2) ∧ (S.2 63 2) < (12 : Int) then (if 0 ≤ (S.2 63 2) ∧ (S.2 63 2) < (12 : Int) then (some ((w32 ((w32 ((S.2 63 2) + (1 : Int))) - (1 : Int))), (wr (wr (wr S 64 (S.2 63 2).toNat p1) 65 (S.2 63 2).toNat p2) 63 2 (w32 ((S.2 63 2) + (1 : Int)))))) else none) else none) else (some ((-1 : Int), S))) := by rw [ev_eq, zc_110, zr_110, zm_110]; rfl
theorem zc_111 : csOf 111 = cs_111 := rfl
theorem zr_111 : rtOf 111 = 1 := rfl
theorem zm_111 : mlOf 111 = 6 := rfl
set_option maxRecDepth 100000 in
set_option maxHeartbeats 4000000 in
/-- SupplyBook$Loans.takeBids(I)J -/
theorem q_111 (L : Nat) (xs : Nat → Int) (d : Nat) (S : AH) (p1 : Int) : ev (WK L xs) (d + 1) 111 [vr 63, vi p1] S = (LQ (WK L xs) (ev (WK L xs) d) 111 12 [some (vr 63), some (vi p1), some (vi p1), some (vi (0 : Int)), some (vi (0 : Int)), none] [] (wr S 63 5 (0 : Int))) := by rw [ev_eq, zc_111, zr_111, zm_111]; rfl
set_option maxRecDepth 100000 in
set_option maxHeartbeats 4000000 in
theorem q_111_12 (L : Nat) (xs : Nat → Int) (d : Nat) (S : AH) (x1 : Int) (x2 : Int) (x3 : Int) (x4 : Int) : LQ (WK L xs) (ev (WK L xs) d) 111 12 [some (vr 63), some (vi x1), some (vi x2), some (vi x3), some (vi x4), none] [] S = (if x4 < (S.2 63 2) then (if 0 < x2 then (bindR ((ev (WK L xs) d) 112 [vr 63, vi x3] S) (fun r1 S2 => (if r1 = (-1 : Int) then (some ((w64 (x1 - x2)), S2)) else (if (S2.2 63 5) < (12 : Int) then (if 0 ≤ (S2.2 63 5) ∧ (S2.2 63 5) < (12 : Int) then (if 0 ≤ r1 ∧ r1 < (12 : Int) then (if 0 ≤ (S2.2 63 5) ∧ (S2.2 63 5) < (12 : Int) then (if 0 ≤ (S2.2 63 5) ∧ (S2.2 63 5) < (12 : Int) then (LQ (WK L xs) (ev (WK L xs) d) 111 12 [some (vr 63), some (vi x1), some (vi (w32 (x2 - ((wr (wr S2 66 (S2.2 63 5).toNat r1) 67 (S2.2 63 5).toNat (min x2 (S2.2 64 r1.toNat))).2 67 (S2.2 63 5).toNat)))), some (vi (ior x3 (ishl (1 : Int) r1))), some (vi (w32 (x4 + (1 : Int)))), none] [] (wr (wr (wr S2 66 (S2.2 63 5).toNat r1) 67 (S2.2 63 5).toNat (min x2 (S2.2 64 r1.toNat))) 63 5 (w32 ((S2.2 63 5) + (1 : Int))))) else none) else none) else none) else none) else (some ((w64 (x1 - x2)), S2)))))) else (some ((w64 (x1 - x2)), S))) else (some ((w64 (x1 - x2)), S))) := by rw [LQ_eq, zc_111, zr_111]; rfl
theorem zc_112 : csOf 112 = cs_112 := rfl
theorem zr_112 : rtOf 112 = 0 := rfl
theorem zm_112 : mlOf 112 = 4 := rfl
set_option maxRecDepth 100000 in
set_option maxHeartbeats 4000000 in
/-- SupplyBook$Loans.lowestBid(I)I -/
theorem q_112 (L : Nat) (xs : Nat → Int) (d : Nat) (S : AH) (p1 : Int) : ev (WK L xs) (d + 1) 112 [vr 63, vi p1] S = (LQ (WK L xs) (ev (WK L xs) d) 112 4 [some (vr 63), some (vi p1), some (vi (-1 : Int)), some (vi (0 : Int))] [] S) := by rw [ev_eq, zc_112, zr_112, zm_112]; rfl
set_option maxRecDepth 100000 in
set_option maxHeartbeats 4000000 in
theorem q_112_4 (L : Nat) (xs : Nat → Int) (d : Nat) (S : AH) (x1 : Int) (x2 : Int) (x3 : Int) : LQ (WK L xs) (ev (WK L xs) d) 112 4 [some (vr 63), some (vi x1), some (vi x2), some (vi x3)] [] S = (if x3 < (S.2 63 2) then (if (iand (ishr x1 x3) (1 : Int)) = 0 then (if x2 = (-1 : Int) then (LQ (WK L xs) (ev (WK L xs) d) 112 4 [some (vr 63), some (vi x1), some (vi x3), some (vi (w32 (x3 + (1 : Int))))] [] S) else (if 0 ≤ x3 ∧ x3 < (12 : Int) then (if 0 ≤ x2 ∧ x2 < (12 : Int) then (if (S.2 65 x3.toNat) < (S.2 65 x2.toNat) then (LQ (WK L xs) (ev (WK L xs) d) 112 4 [some (vr 63), some (vi x1), some (vi x3), some (vi (w32 (x3 + (1 : Int))))] [] S) else (LQ (WK L xs) (ev (WK L xs) d) 112 4 [some (vr 63), some (vi x1), some (vi x2), some (vi (w32 (x3 + (1 : Int))))] [] S)) else none) else none)) else (LQ (WK L xs) (ev (WK L xs) d) 112 4 [some (vr 63), some (vi x1), some (vi x2), some (vi (w32 (x3 + (1 : Int))))] [] S)) else (some (x2, S))) := by rw [LQ_eq, zc_112, zr_112]; rfl
theorem zc_113 : csOf 113 = cs_113 := rfl
theorem zr_113 : rtOf 113 = 1 := rfl
theorem zm_113 : mlOf 113 = 4 := rfl
set_option maxRecDepth 100000 in
set_option maxHeartbeats 4000000 in
/-- SupplyBook$Loans.owed()J -/
theorem q_113 (L : Nat) (xs : Nat → Int) (d : Nat) (S : AH)  : ev (WK L xs) (d + 1) 113 [vr 63] S = (LQ (WK L xs) (ev (WK L xs) d) 113 4 [some (vr 63), some (vl (0 : Int)), none, some (vi (0 : Int))] [] S) := by rw [ev_eq, zc_113, zr_113, zm_113]; rfl
set_option maxRecDepth 100000 in
set_option maxHeartbeats 4000000 in
theorem q_113_4 (L : Nat) (xs : Nat → Int) (d : Nat) (S : AH) (x1 : Int) (x3 : Int) : LQ (WK L xs) (ev (WK L xs) d) 113 4 [some (vr 63), some (vl x1), none, some (vi x3)] [] S = (if x3 < (S.2 63 10) then (if 0 ≤ x3 ∧ x3 < (30 : Int) then (if (S.2 71 x3.toNat) = (-1 : Int) then (if 0 ≤ x3 ∧ x3 < (30 : Int) then (LQ (WK L xs) (ev (WK L xs) d) 113 4 [some (vr 63), some (vl (w64 (x1 + (S.2 68 x3.toNat)))), none, some (vi (w32 (x3 + (1 : Int))))] [] S) else none) else (LQ (WK L xs) (ev (WK L xs) d) 113 4 [some (vr 63), some (vl (w64 (x1 + (0 : Int)))), none, some (vi (w32 (x3 + (1 : Int))))] [] S)) else none) else (some (x1, S))) := by rw [LQ_eq, zc_113, zr_113]; rfl
theorem zc_114 : csOf 114 = cs_114 := rfl
theorem zr_114 : rtOf 114 = 4 := rfl
theorem zm_114 : mlOf 114 = 1 := rfl
set_option maxRecDepth 100000 in
set_option maxHeartbeats 4000000 in
/-- SupplyBook$Loans.areTooMany()Z -/
theorem q_114 (L : Nat) (xs : Nat → Int) (d : Nat) (S : AH)  : ev (WK L xs) (d + 1) 114 [vr 63] S = (if (30 : Int) < (w32 ((S.2 63 10) + (S.2 63 5))) then (some ((1 : Int), S)) else (some ((0 : Int), S))) := by rw [ev_eq, zc_114, zr_114, zm_114]; rfl
theorem zc_115 : csOf 115 = cs_115 := rfl
theorem zr_115 : rtOf 115 = 0 := rfl
theorem zm_115 : mlOf 115 = 5 := rfl
set_option maxRecDepth 100000 in
set_option maxHeartbeats 4000000 in
/-- SupplyBook$Loans.lendTaken(IZ)I -/
theorem q_115 (L : Nat) (xs : Nat → Int) (d : Nat) (S : AH) (p1 : Int) (p2 : Int) : ev (WK L xs) (d + 1) 115 [vr 63, vi p1, vi p2] S = (LQ (WK L xs) (ev (WK L xs) d) 115 2 [some (vr 63), some (vi p1), some (vi p2), some (vi (0 : Int)), none] [] S) := by rw [ev_eq, zc_115, zr_115, zm_115]; rfl
set_option maxRecDepth 100000 in
set_option maxHeartbeats 4000000 in
theorem q_115_2 (L : Nat) (xs : Nat → Int) (d : Nat) (S : AH) (x1 : Int) (x2 : Int) (x3 : Int) : LQ (WK L xs) (ev (WK L xs) d) 115 2 [some (vr 63), some (vi x1), some (vi x2), some (vi x3), none] [] S = (if x3 < (S.2 63 5) then (if (S.2 63 10) < (30 : Int) then (if x2 = 0 then (LQ (WK L xs) (ev (WK L xs) d) 115 40 [some (vr 63), some (vi x1), some (vi x2), some (vi x3), none] [vi x3, vr 66] S) else (LQ (WK L xs) (ev (WK L xs) d) 115 40 [some (vr 63), some (vi x1), some (vi x2), some (vi x3), none] [vi (w32 ((S.2 63 5) - (1 : Int))), vr 66] S)) else (some ((S.2 63 5), (wr S 63 2 (0 : Int))))) else (some ((S.2 63 5), (wr S 63 2 (0 : Int))))) := by rw [LQ_eq, zc_115, zr_115]; rfl
set_option maxRecDepth 100000 in
set_option maxHeartbeats 4000000 in
theorem q_115_40 (L : Nat) (xs : Nat → Int) (d : Nat) (S : AH) (x1 : Int) (x2 : Int) (x3 : Int) (t0 : Int) : LQ (WK L xs) (ev (WK L xs) d) 115 40 [some (vr 63), some (vi x1), some (vi x2), some (vi x3), none] [vi t0, vr 66] S = (if 0 ≤ t0 ∧ t0 < (12 : Int) then (if 0 ≤ x3 ∧ x3 < (12 : Int) then (if 0 ≤ (S.2 63 10) ∧ (S.2 63 10) < (30 : Int) then (if (S.2 66 t0.toNat) < 0 then (LQ (WK L xs) (ev (WK L xs) d) 115 91 [some (vr 63), some (vi x1), some (vi x2), some (vi x3), none] [vi (0 : Int), vi (S.2 63 10), vr 69] (wr S 68 (S.2 63 10).toNat (S.2 67 x3.toNat))) else (if (S.2 66 t0.toNat) < (S.2 63 2) then (if 0 ≤ (S.2 66 t0.toNat) ∧ (S.2 66 t0.toNat) < (12 : Int) then (LQ (WK L xs) (ev (WK L xs) d) 115 91 [some (vr 63), some (vi x1), some (vi x2), some (vi x3), none] [vi (S.2 65 (S.2 66 t0.toNat).toNat), vi (S.2 63 10), vr 69] (wr S 68 (S.2 63 10).toNat (S.2 67 x3.toNat))) else none) else (LQ (WK L xs) (ev (WK L xs) d) 115 91 [some (vr 63), some (vi x1), some (vi x2), some (vi x3), none] [vi (0 : Int), vi (S.2 63 10), vr 69] (wr S 68 (S.2 63 10).toNat (S.2 67 x3.toNat))))) else none) else none) else none) := by rw [LQ_eq, zc_115, zr_115]; rfl
set_option maxRecDepth 100000 in
set_option maxHeartbeats 4000000 in
theorem q_115_91 (L : Nat) (xs : Nat → Int) (d : Nat) (S : AH) (x1 : Int) (x2 : Int) (x3 : Int) (t0 : Int) (t1 : Int) : LQ (WK L xs) (ev (WK L xs) d) 115 91 [some (vr 63), some (vi x1), some (vi x2), some (vi x3), none] [vi t0, vi t1, vr 69] S = (if 0 ≤ t1 ∧ t1 < (30 : Int) then (if 0 ≤ (S.2 63 10) ∧ (S.2 63 10) < (30 : Int) then (if 0 ≤ (S.2 63 10) ∧ (S.2 63 10) < (30 : Int) then (LQ (WK L xs) (ev (WK L xs) d) 115 2 [some (vr 63), some (vi x1), some (vi x2), some (vi (w32 (x3 + (1 : Int)))), none] [] (wr (wr (wr (wr S 69 t1.toNat t0) 70 (S.2 63 10).toNat x1) 71 (S.2 63 10).toNat (-1 : Int)) 63 10 (w32 ((S.2 63 10) + (1 : Int))))) else none) else none) else none) := by rw [LQ_eq, zc_115, zr_115]; rfl
theorem zc_116 : csOf 116 = cs_116 := rfl
theorem zr_116 : rtOf 116 = 4 := rfl
theorem zm_116 : mlOf 116 = 2 := rfl
set_option maxRecDepth 100000 in
set_option maxHeartbeats 4000000 in
/-- SupplyBook$Loans.isLoan(I)Z -/
theorem q_116 (L : Nat) (xs : Nat → Int) (d : Nat) (S : AH) (p1 : Int) : ev (WK L xs) (d + 1) 116 [vr 63, vi p1] S = (if p1 < 0 then (some ((0 : Int), S)) else (if p1 < (S.2 63 10) then (some ((1 : Int), S)) else (some ((0 : Int), S)))) := by rw [ev_eq, zc_116, zr_116, zm_116]; rfl
theorem zc_117 : csOf 117 = cs_117 := rfl
theorem zr_117 : rtOf 117 = 0 := rfl
theorem zm_117 : mlOf 117 = 2 := rfl
set_option maxRecDepth 100000 in
set_option maxHeartbeats 4000000 in
/-- SupplyBook$Loans.backOn(I)I -/
theorem q_117 (L : Nat) (xs : Nat → Int) (d : Nat) (S : AH) (p1 : Int) : ev (WK L xs) (d + 1) 117 [vr 63, vi p1] S = (bindR ((ev (WK L xs) d) 116 [vr 63, vi p1] S) (fun r1 S2 => (if r1 = 0 then (some ((-1 : Int), S2)) else (if 0 ≤ p1 ∧ p1 < (30 : Int) then (some ((S2.2 71 p1.toNat), S2)) else none)))) := by rw [ev_eq, zc_117, zr_117, zm_117]; rfl
theorem zc_118 : csOf 118 = cs_118 := rfl
theorem zr_118 : rtOf 118 = 1 := rfl
theorem zm_118 : mlOf 118 = 4 := rfl
set_option maxRecDepth 100000 in
set_option maxHeartbeats 4000000 in
/-- SupplyBook$Loans.interestOn(II)J -/
theorem q_118 (L : Nat) (xs : Nat → Int) (d : Nat) (S : AH) (p1 : Int) (p2 : Int) : ev (WK L xs) (d + 1) 118 [vr 63, vi p1, vi p2] S = (bindR ((ev (WK L xs) d) 116 [vr 63, vi p1] S) (fun r1 S2 => (if r1 = 0 then (some ((-1 : Int), S2)) else (if 0 ≤ p1 ∧ p1 < (30 : Int) then (if (S2.2 71 p1.toNat) = (-1 : Int) then (LQ (WK L xs) (ev (WK L xs) d) 118 32 [some (vr 63), some (vi p1), none, none] [vi p2] S2) else (if 0 ≤ p1 ∧ p1 < (30 : Int) then (LQ (WK L xs) (ev (WK L xs) d) 118 32 [some (vr 63), some (vi p1), none, none] [vi (S2.2 71 p1.toNat)] S2) else none)) else none)))) := by rw [ev_eq, zc_118, zr_118, zm_118]; rfl
set_option maxRecDepth 100000 in
set_option maxHeartbeats 4000000 in
theorem q_118_32 (L : Nat) (xs : Nat → Int) (d : Nat) (S : AH) (x1 : Int) (t0 : Int) : LQ (WK L xs) (ev (WK L xs) d) 118 32 [some (vr 63), some (vi x1), none, none] [vi t0] S = (if 0 ≤ x1 ∧ x1 < (30 : Int) then (if 0 ≤ x1 ∧ x1 < (30 : Int) then (if 0 ≤ x1 ∧ x1 < (30 : Int) then (some ((ldiv (w64 ((w64 ((S.2 68 x1.toNat) * (S.2 69 x1.toNat))) * (w32 (t0 - (S.2 70 x1.toNat))))) (3600000 : Int)), S)) else none) else none) else none) := by rw [LQ_eq, zc_118, zr_118]; rfl
theorem zc_119 : csOf 119 = cs_119 := rfl
theorem zr_119 : rtOf 119 = 0 := rfl
theorem zm_119 : mlOf 119 = 2 := rfl
set_option maxRecDepth 100000 in
set_option maxHeartbeats 4000000 in
/-- SupplyBook$Loans.sumOf(I)I -/
theorem q_119 (L : Nat) (xs : Nat → Int) (d : Nat) (S : AH) (p1 : Int) : ev (WK L xs) (d + 1) 119 [vr 63, vi p1] S = (bindR ((ev (WK L xs) d) 116 [vr 63, vi p1] S) (fun r1 S2 => (if r1 = 0 then (some ((-1 : Int), S2)) else (if 0 ≤ p1 ∧ p1 < (30 : Int) then (some ((S2.2 68 p1.toNat), S2)) else none)))) := by rw [ev_eq, zc_119, zr_119, zm_119]; rfl
theorem zc_120 : csOf 120 = cs_120 := rfl
theorem zr_120 : rtOf 120 = 9 := rfl
theorem zm_120 : mlOf 120 = 5 := rfl
set_option maxRecDepth 100000 in
set_option maxHeartbeats 4000000 in
/-- SupplyBook$Loans.markBack(IIJ)V -/
theorem q_120 (L : Nat) (xs : Nat → Int) (d : Nat) (S : AH) (p1 : Int) (p2 : Int) (p3 : Int) : ev (WK L xs) (d + 1) 120 [vr 63, vi p1, vi p2, vl p3] S = (bindR ((ev (WK L xs) d) 116 [vr 63, vi p1] S) (fun r1 S2 => (if r1 = 0 then (some (0, S2)) else (if 0 ≤ p1 ∧ p1 < (30 : Int) then (some (0, (wr (wr S2 71 p1.toNat p2) 63 11 (w64 ((S2.2 63 11) + p3))))) else none)))) := by rw [ev_eq, zc_120, zr_120, zm_120]; rfl
theorem zc_121 : csOf 121 = cs_121 := rfl
theorem zr_121 : rtOf 121 = 0 := rfl
theorem zm_121 : mlOf 121 = 2 := rfl
set_option maxRecDepth 100000 in
set_option maxHeartbeats 4000000 in
/-- SupplyBook$Loans.rateOf(I)I -/
theorem q_121 (L : Nat) (xs : Nat → Int) (d : Nat) (S : AH) (p1 : Int) : ev (WK L xs) (d + 1) 121 [vr 63, vi p1] S = (bindR ((ev (WK L xs) d) 116 [vr 63, vi p1] S) (fun r1 S2 => (if r1 = 0 then (some ((-1 : Int), S2)) else (if 0 ≤ p1 ∧ p1 < (30 : Int) then (some ((S2.2 69 p1.toNat), S2)) else none)))) := by rw [ev_eq, zc_121, zr_121, zm_121]; rfl
theorem zc_122 : csOf 122 = cs_122 := rfl
theorem zr_122 : rtOf 122 = 0 := rfl
theorem zm_122 : mlOf 122 = 2 := rfl
set_option maxRecDepth 100000 in
set_option maxHeartbeats 4000000 in
/-- SupplyBook$Loans.madeOn(I)I -/
theorem q_122 (L : Nat) (xs : Nat → Int) (d : Nat) (S : AH) (p1 : Int) : ev (WK L xs) (d + 1) 122 [vr 63, vi p1] S = (bindR ((ev (WK L xs) d) 116 [vr 63, vi p1] S) (fun r1 S2 => (if r1 = 0 then (some ((-1 : Int), S2)) else (if 0 ≤ p1 ∧ p1 < (30 : Int) then (some ((S2.2 70 p1.toNat), S2)) else none)))) := by rw [ev_eq, zc_122, zr_122, zm_122]; rfl
theorem zc_124 : csOf 124 = cs_124 := rfl
theorem zr_124 : rtOf 124 = 0 := rfl
theorem zm_124 : mlOf 124 = 2 := rfl
set_option maxRecDepth 100000 in
set_option maxHeartbeats 4000000 in
/-- SupplyBook$People.addHead(I)I -/
theorem q_124 (L : Nat) (xs : Nat → Int) (d : Nat) (S : AH) (p1 : Int) : ev (WK L xs) (d + 1) 124 [vr 17, vi p1] S = (if (S.2 17 1) < (40 : Int) then (if p1 = (-1 : Int) then (LQ (WK L xs) (ev (WK L xs) d) 124 27 [some (vr 17), some (vi p1)] [] S) else (bindR ((ev (WK L xs) d) 125 [vr 17, vi p1] S) (fun r1 S2 => (if r1 = 0 then (some ((-1 : Int), S2)) else (LQ (WK L xs) (ev (WK L xs) d) 124 27 [some (vr 17), some (vi p1)] [] S2))))) else (some ((-1 : Int), S))) := by rw [ev_eq, zc_124, zr_124, zm_124]; rfl
set_option maxRecDepth 100000 in
set_option maxHeartbeats 4000000 in
theorem q_124_27 (L : Nat) (xs : Nat → Int) (d : Nat) (S : AH) (x1 : Int) : LQ (WK L xs) (ev (WK L xs) d) 124 27 [some (vr 17), some (vi x1)] [] S = (bindR ((ev (WK L xs) d) 126 [vr 17, vi x1] S) (fun r1 S2 => (if 0 ≤ (S.2 17 1) ∧ (S.2 17 1) < (40 : Int) then (some ((w32 ((w32 ((S2.2 17 1) + (1 : Int))) - (1 : Int))), (wr (wr S2 18 (S.2 17 1).toNat (lor r1 (lshl (1 : Int) (S2.2 17 1)))) 17 1 (w32 ((S2.2 17 1) + (1 : Int)))))) else none))) := by rw [LQ_eq, zc_124, zr_124]; rfl
theorem zc_125 : csOf 125 = cs_125 := rfl
theorem zr_125 : rtOf 125 = 4 := rfl
theorem zm_125 : mlOf 125 = 2 := rfl
set_option maxRecDepth 100000 in
set_option maxHeartbeats 4000000 in
/-- SupplyBook$People.isHead(I)Z -/
theorem q_125 (L : Nat) (xs : Nat → Int) (d : Nat) (S : AH) (p1 : Int) : ev (WK L xs) (d + 1) 125 [vr 17, vi p1] S = (if p1 < 0 then (some ((0 : Int), S)) else (if p1 < (S.2 17 1) then (some ((1 : Int), S)) else (some ((0 : Int), S)))) := by rw [ev_eq, zc_125, zr_125, zm_125]; rfl
theorem zc_126 : csOf 126 = cs_126 := rfl
theorem zr_126 : rtOf 126 = 1 := rfl
theorem zm_126 : mlOf 126 = 2 := rfl
set_option maxRecDepth 100000 in
set_option maxHeartbeats 4000000 in
/-- SupplyBook$People.headsAbove(I)J -/
theorem q_126 (L : Nat) (xs : Nat → Int) (d : Nat) (S : AH) (p1 : Int) : ev (WK L xs) (d + 1) 126 [vr 17, vi p1] S = (bindR ((ev (WK L xs) d) 125 [vr 17, vi p1] S) (fun r1 S2 => (if r1 = 0 then (some ((0 : Int), S2)) else (if 0 ≤ p1 ∧ p1 < (40 : Int) then (some ((S2.2 18 p1.toNat), S2)) else none)))) := by rw [ev_eq, zc_126, zr_126, zm_126]; rfl
theorem zc_127 : csOf 127 = cs_127 := rfl
theorem zr_127 : rtOf 127 = 4 := rfl
theorem zm_127 : mlOf 127 = 3 := rfl
set_option maxRecDepth 100000 in
set_option maxHeartbeats 4000000 in
/-- SupplyBook$People.isUnder(II)Z -/
theorem q_127 (L : Nat) (xs : Nat → Int) (d : Nat) (S : AH) (p1 : Int) (p2 : Int) : ev (WK L xs) (d + 1) 127 [vr 17, vi p1, vi p2] S = (bindR ((ev (WK L xs) d) 125 [vr 17, vi p1] S) (fun r1 S2 => (if r1 = 0 then (some ((0 : Int), S2)) else (bindR ((ev (WK L xs) d) 125 [vr 17, vi p2] S2) (fun r3 S4 => (if r3 = 0 then (some ((0 : Int), S4)) else (if 0 ≤ p1 ∧ p1 < (40 : Int) then (if (lcmp (land (lushr (S4.2 18 p1.toNat) p2) (1 : Int)) (0 : Int)) = 0 then (some ((0 : Int), S4)) else (some ((1 : Int), S4))) else none))))))) := by rw [ev_eq, zc_127, zr_127, zm_127]; rfl
theorem zc_128 : csOf 128 = cs_128 := rfl
theorem zr_128 : rtOf 128 = 0 := rfl
theorem zm_128 : mlOf 128 = 3 := rfl
set_option maxRecDepth 100000 in
set_option maxHeartbeats 4000000 in
/-- SupplyBook$People.addHand(II)I -/
theorem q_128 (L : Nat) (xs : Nat → Int) (d : Nat) (S : AH) (p1 : Int) (p2 : Int) : ev (WK L xs) (d + 1) 128 [vr 17, vi p1, vi p2] S = (bindR ((ev (WK L xs) d) 125 [vr 17, vi p1] S) (fun r1 S2 => (if r1 = 0 then (some ((-1 : Int), S2)) else (if p2 < (1 : Int) then (some ((-1 : Int), S2)) else (if (9 : Int) < p2 then (some ((-1 : Int), S2)) else (if (S2.2 17 5) < (16 : Int) then (if 0 ≤ (S2.2 17 5) ∧ (S2.2 17 5) < (16 : Int) then (if 0 ≤ (S2.2 17 5) ∧ (S2.2 17 5) < (16 : Int) then (some ((w32 ((w32 ((S2.2 17 5) + (1 : Int))) - (1 : Int))), (wr (wr (wr S2 19 (S2.2 17 5).toNat p1) 20 (S2.2 17 5).toNat p2) 17 5 (w32 ((S2.2 17 5) + (1 : Int)))))) else none) else none) else (some ((-1 : Int), S2)))))))) := by rw [ev_eq, zc_128, zr_128, zm_128]; rfl
theorem zc_129 : csOf 129 = cs_129 := rfl
theorem zr_129 : rtOf 129 = 4 := rfl
theorem zm_129 : mlOf 129 = 2 := rfl
set_option maxRecDepth 100000 in
set_option maxHeartbeats 4000000 in
/-- SupplyBook$People.isHand(I)Z -/
theorem q_129 (L : Nat) (xs : Nat → Int) (d : Nat) (S : AH) (p1 : Int) : ev (WK L xs) (d + 1) 129 [vr 17, vi p1] S = (if p1 < 0 then (some ((0 : Int), S)) else (if p1 < (S.2 17 5) then (some ((1 : Int), S)) else (some ((0 : Int), S)))) := by rw [ev_eq, zc_129, zr_129, zm_129]; rfl
theorem zc_130 : csOf 130 = cs_130 := rfl
theorem zr_130 : rtOf 130 = 0 := rfl
theorem zm_130 : mlOf 130 = 2 := rfl
set_option maxRecDepth 100000 in
set_option maxHeartbeats 4000000 in
/-- SupplyBook$People.headOfHand(I)I -/
theorem q_130 (L : Nat) (xs : Nat → Int) (d : Nat) (S : AH) (p1 : Int) : ev (WK L xs) (d + 1) 130 [vr 17, vi p1] S = (bindR ((ev (WK L xs) d) 129 [vr 17, vi p1] S) (fun r1 S2 => (if r1 = 0 then (some ((-1 : Int), S2)) else (if 0 ≤ p1 ∧ p1 < (16 : Int) then (some ((S2.2 19 p1.toNat), S2)) else none)))) := by rw [ev_eq, zc_130, zr_130, zm_130]; rfl
theorem zc_131 : csOf 131 = cs_131 := rfl
theorem zr_131 : rtOf 131 = 0 := rfl
theorem zm_131 : mlOf 131 = 4 := rfl
set_option maxRecDepth 100000 in
set_option maxHeartbeats 4000000 in
/-- SupplyBook$People.greatestRank(I)I -/
theorem q_131 (L : Nat) (xs : Nat → Int) (d : Nat) (S : AH) (p1 : Int) : ev (WK L xs) (d + 1) 131 [vr 17, vi p1] S = (LQ (WK L xs) (ev (WK L xs) d) 131 4 [some (vr 17), some (vi p1), some (vi (0 : Int)), some (vi (0 : Int))] [] S) := by rw [ev_eq, zc_131, zr_131, zm_131]; rfl
set_option maxRecDepth 100000 in
set_option maxHeartbeats 4000000 in
theorem q_131_4 (L : Nat) (xs : Nat → Int) (d : Nat) (S : AH) (x1 : Int) (x2 : Int) (x3 : Int) : LQ (WK L xs) (ev (WK L xs) d) 131 4 [some (vr 17), some (vi x1), some (vi x2), some (vi x3)] [] S = (if x3 < (S.2 17 5) then (if (iand (ishr x1 x3) (1 : Int)) = 0 then (LQ (WK L xs) (ev (WK L xs) d) 131 4 [some (vr 17), some (vi x1), some (vi x2), some (vi (w32 (x3 + (1 : Int))))] [] S) else (if 0 ≤ x3 ∧ x3 < (16 : Int) then (LQ (WK L xs) (ev (WK L xs) d) 131 4 [some (vr 17), some (vi x1), some (vi (max x2 (S.2 20 x3.toNat))), some (vi (w32 (x3 + (1 : Int))))] [] S) else none)) else (some (x2, S))) := by rw [LQ_eq, zc_131, zr_131]; rfl
theorem zc_132 : csOf 132 = cs_132 := rfl
theorem zr_132 : rtOf 132 = 1 := rfl
theorem zm_132 : mlOf 132 = 6 := rfl
set_option maxRecDepth 100000 in
set_option maxHeartbeats 4000000 in
/-- SupplyBook$People.surcharge(LSupplyBook$Claim;)J -/
theorem q_132 (L : Nat) (xs : Nat → Int) (d : Nat) (S : AH) (p1 : Nat) : ev (WK L xs) (d + 1) 132 [vr 17, vr p1] S = (gd (Nat.beq (shp (WK L xs) S p1).1 12) (gd (Nat.beq (shp (WK L xs) S p1).1 12) (bindR ((ev (WK L xs) d) 320 [vi (ior (rdv (WK L xs) S p1 6) (ishl (1 : Int) (rdv (WK L xs) S p1 0)))] S) (fun r1 S2 => (gd (Nat.beq (shp (WK L xs) S2 p1).1 12) (if (rdv (WK L xs) S2 p1 11) = 0 then (if r1 = 0 then (some ((0 : Int), S2)) else (gd (Nat.beq (shp (WK L xs) S2 p1).1 12 && wok (WK L xs) p1 11) (gd (Nat.beq (shp (WK L xs) (wr S2 p1 11 (1 : Int)) p1).1 12) (if r1 = 0 then none else (LQ (WK L xs) (ev (WK L xs) d) 132 46 [some (vr 17), some (vr p1), some (vi (ior (rdv (WK L xs) S p1 6) (ishl (1 : Int) (rdv (WK L xs) S p1 0)))), some (vi r1), some (vi (Int.tmod (rdv (WK L xs) (wr S2 p1 11 (1 : Int)) p1 3) r1)), some (vi (0 : Int))] [] (wr S2 p1 11 (1 : Int))))))) else (some ((0 : Int), S2)))))))) := by rw [ev_eq, zc_132, zr_132, zm_132]; rfl
set_option maxRecDepth 100000 in
set_option maxHeartbeats 4000000 in
theorem q_132_46 (L : Nat) (xs : Nat → Int) (d : Nat) (S : AH) (x1 : Nat) (x2 : Int) (x3 : Int) (x4 : Int) (x5 : Int) : LQ (WK L xs) (ev (WK L xs) d) 132 46 [some (vr 17), some (vr x1), some (vi x2), some (vi x3), some (vi x4), some (vi x5)] [] S = (if x5 < (S.2 17 5) then (if (iand (ishr x2 x5) (1 : Int)) = 0 then (LQ (WK L xs) (ev (WK L xs) d) 132 46 [some (vr 17), some (vr x1), some (vi x2), some (vi x3), some (vi x4), some (vi (w32 (x5 + (1 : Int))))] [] S) else (if 0 ≤ x5 ∧ x5 < (16 : Int) then (gd (Nat.beq (shp (WK L xs) S x1).1 12) (if x3 = 0 then none else (if 0 < x4 then (if 0 ≤ x5 ∧ x5 < (16 : Int) then (LQ (WK L xs) (ev (WK L xs) d) 132 46 [some (vr 17), some (vr x1), some (vi x2), some (vi x3), some (vi (w32 (x4 + (-1 : Int)))), some (vi (w32 (x5 + (1 : Int))))] [] (wr S 21 x5.toNat (w64 ((S.2 21 x5.toNat) + (w32 ((idiv (rdv (WK L xs) S x1 3) x3) + (1 : Int))))))) else none) else (if 0 ≤ x5 ∧ x5 < (16 : Int) then (LQ (WK L xs) (ev (WK L xs) d) 132 46 [some (vr 17), some (vr x1), some (vi x2), some (vi x3), some (vi (w32 (x4 + (-1 : Int)))), some (vi (w32 (x5 + (1 : Int))))] [] (wr S 21 x5.toNat (w64 ((S.2 21 x5.toNat) + (w32 ((idiv (rdv (WK L xs) S x1 3) x3) + (0 : Int))))))) else none)))) else none)) else (gd (Nat.beq (shp (WK L xs) S x1).1 12) (some ((rdv (WK L xs) S x1 3), S)))) := by rw [LQ_eq, zc_132, zr_132]; rfl
theorem zc_133 : csOf 133 = cs_133 := rfl
theorem zr_133 : rtOf 133 = 1 := rfl
theorem zm_133 : mlOf 133 = 2 := rfl
set_option maxRecDepth 100000 in
set_option maxHeartbeats 4000000 in
/-- SupplyBook$People.chargeOf(I)J -/
theorem q_133 (L : Nat) (xs : Nat → Int) (d : Nat) (S : AH) (p1 : Int) : ev (WK L xs) (d + 1) 133 [vr 17, vi p1] S = (bindR ((ev (WK L xs) d) 129 [vr 17, vi p1] S) (fun r1 S2 => (if r1 = 0 then (some ((-1 : Int), S2)) else (if 0 ≤ p1 ∧ p1 < (16 : Int) then (some ((S2.2 21 p1.toNat), S2)) else none)))) := by rw [ev_eq, zc_133, zr_133, zm_133]; rfl
theorem zc_135 : csOf 135 = cs_135 := rfl
theorem zr_135 : rtOf 135 = 0 := rfl
theorem zm_135 : mlOf 135 = 5 := rfl
set_option maxRecDepth 100000 in
set_option maxHeartbeats 4000000 in
/-- SupplyBook$Reader.readAll([BIZ)I -/
theorem q_135 (L : Nat) (xs : Nat → Int) (d : Nat) (S : AH) (p1 : Nat) (p2 : Int) (p3 : Int) : ev (WK L xs) (d + 1) 135 [vr 22, vr p1, vi p2, vi p3] S = (bindR ((ev (WK L xs) d) 136 [vr 22, vr p1, vi (0 : Int), vi p2] S) (fun r1 S2 => (LQ (WK L xs) (ev (WK L xs) d) 135 15 [some (vr 22), none, none, some (vi p3), some (vi (0 : Int))] [] (wr S2 22 2 (0 : Int))))) := by rw [ev_eq, zc_135, zr_135, zm_135]; rfl
set_option maxRecDepth 100000 in
set_option maxHeartbeats 4000000 in
theorem q_135_15 (L : Nat) (xs : Nat → Int) (d : Nat) (S : AH) (x3 : Int) (x4 : Int) : LQ (WK L xs) (ev (WK L xs) d) 135 15 [some (vr 22), none, none, some (vi x3), some (vi x4)] [] S = (if (16 : Int) < x4 then (if (S.2 22 7) = 0 then (some ((0 : Int), S)) else (some ((w32 ((w32 ((-1000 : Int) * (S.2 22 7))) - (S.2 22 8))), S))) else (if (S.2 22 7) = 0 then (bindR ((ev (WK L xs) d) 138 [vr 22, vi x3] S) (fun r1 S2 => (if (S2.2 22 4) < (S2.2 22 5) then (bindR ((ev (WK L xs) d) 145 [vr 22, vi (59 : Int)] S2) (fun r3 S4 => (LQ (WK L xs) (ev (WK L xs) d) 135 15 [some (vr 22), none, none, some (vi x3), some (vi (w32 (x4 + (1 : Int))))] [] S4))) else (if (S2.2 22 7) = 0 then (some ((0 : Int), S2)) else (some ((w32 ((w32 ((-1000 : Int) * (S2.2 22 7))) - (S2.2 22 8))), S2)))))) else (if (S.2 22 7) = 0 then (some ((0 : Int), S)) else (some ((w32 ((w32 ((-1000 : Int) * (S.2 22 7))) - (S.2 22 8))), S))))) := by rw [LQ_eq, zc_135, zr_135]; rfl
theorem zc_136 : csOf 136 = cs_136 := rfl
theorem zr_136 : rtOf 136 = 9 := rfl
theorem zm_136 : mlOf 136 = 4 := rfl
set_option maxRecDepth 100000 in
set_option maxHeartbeats 4000000 in
/-- SupplyBook$Reader.begin([BII)V -/
theorem q_136 (L : Nat) (xs : Nat → Int) (d : Nat) (S : AH) (p1 : Nat) (p2 : Int) (p3 : Int) : ev (WK L xs) (d + 1) 136 [vr 22, vr p1, vi p2, vi p3] S = (bindR ((ev (WK L xs) d) 137 [vr 22] (wr (wr (wr (wr (wr (wr S 22 3 (p1 : Int)) 22 4 (w32 (p2 - (1 : Int)))) 22 5 p3) 22 7 (0 : Int)) 22 8 (0 : Int)) 22 9 (0 : Int))) (fun r1 S2 => (some (0, S2)))) := by rw [ev_eq, zc_136, zr_136, zm_136]; rfl
theorem zc_137 : csOf 137 = cs_137 := rfl
theorem zr_137 : rtOf 137 = 9 := rfl
theorem zm_137 : mlOf 137 = 1 := rfl
set_option maxRecDepth 100000 in
set_option maxHeartbeats 4000000 in
/-- SupplyBook$Reader.step()V -/
theorem q_137 (L : Nat) (xs : Nat → Int) (d : Nat) (S : AH)  : ev (WK L xs) (d + 1) 137 [vr 22] S = (if (w32 ((S.2 22 4) + (1 : Int))) < 0 then (some (0, (wr (wr S 22 4 (w32 ((S.2 22 4) + (1 : Int)))) 22 6 (-1 : Int)))) else (if (w32 ((S.2 22 4) + (1 : Int))) < (S.2 22 5) then (gd (Nat.ble (shp (WK L xs) (wr S 22 4 (w32 ((S.2 22 4) + (1 : Int)))) (S.2 22 3).toNat).1 6) (if (w32 ((S.2 22 4) + (1 : Int))) < ((shp (WK L xs) (wr S 22 4 (w32 ((S.2 22 4) + (1 : Int)))) (S.2 22 3).toNat).2 : Int) then (gd (Nat.ble (shp (WK L xs) (wr S 22 4 (w32 ((S.2 22 4) + (1 : Int)))) (S.2 22 3).toNat).1 1) (if 0 ≤ (w32 ((S.2 22 4) + (1 : Int))) ∧ (w32 ((S.2 22 4) + (1 : Int))) < ((shp (WK L xs) (wr S 22 4 (w32 ((S.2 22 4) + (1 : Int)))) (S.2 22 3).toNat).2 : Int) then (some (0, (wr (wr S 22 4 (w32 ((S.2 22 4) + (1 : Int)))) 22 6 (iand (rdv (WK L xs) (wr S 22 4 (w32 ((S.2 22 4) + (1 : Int)))) (S.2 22 3).toNat (w32 ((S.2 22 4) + (1 : Int))).toNat) (255 : Int))))) else none)) else (some (0, (wr (wr S 22 4 (w32 ((S.2 22 4) + (1 : Int)))) 22 6 (-1 : Int)))))) else (some (0, (wr (wr S 22 4 (w32 ((S.2 22 4) + (1 : Int)))) 22 6 (-1 : Int)))))) := by rw [ev_eq, zc_137, zr_137, zm_137]; rfl
theorem zc_138 : csOf 138 = cs_138 := rfl
theorem zr_138 : rtOf 138 = 9 := rfl
theorem zm_138 : mlOf 138 = 4 := rfl
set_option maxRecDepth 100000 in
set_option maxHeartbeats 4000000 in
/-- SupplyBook$Reader.readClause(Z)V -/
theorem q_138 (L : Nat) (xs : Nat → Int) (d : Nat) (S : AH) (p1 : Int) : ev (WK L xs) (d + 1) 138 [vr 22, vi p1] S = (bindR ((ev (WK L xs) d) 139 [vr 22, vr 5] S) (fun r1 S2 => (if r1 = 0 then (bindR ((ev (WK L xs) d) 140 [vi (S2.2 22 6)] S2) (fun r5 S6 => (if r5 = 0 then (bindR ((ev (WK L xs) d) 141 [vr 22, vi (1 : Int), vi (S6.2 22 4)] S6) (fun r9 S10 => (some (0, S10)))) else (if r1 = 0 then (LQ (WK L xs) (ev (WK L xs) d) 138 54 [some (vr 22), none, some (vi r1), none] [] S6) else (if p1 = 0 then (bindR ((ev (WK L xs) d) 141 [vr 22, vi (6 : Int), vi (S6.2 22 4)] S6) (fun r7 S8 => (some (0, S8)))) else (LQ (WK L xs) (ev (WK L xs) d) 138 54 [some (vr 22), none, some (vi r1), none] [] S6)))))) else (if r1 = 0 then (LQ (WK L xs) (ev (WK L xs) d) 138 54 [some (vr 22), none, some (vi r1), none] [] S2) else (if p1 = 0 then (bindR ((ev (WK L xs) d) 141 [vr 22, vi (6 : Int), vi (S2.2 22 4)] S2) (fun r3 S4 => (some (0, S4)))) else (LQ (WK L xs) (ev (WK L xs) d) 138 54 [some (vr 22), none, some (vi r1), none] [] S2)))))) := by rw [ev_eq, zc_138, zr_138, zm_138]; rfl
set_option maxRecDepth 100000 in
set_option maxHeartbeats 4000000 in
theorem q_138_54 (L : Nat) (xs : Nat → Int) (d : Nat) (S : AH) (x2 : Int) : LQ (WK L xs) (ev (WK L xs) d) 138 54 [some (vr 22), none, some (vi x2), none] [] S = (if (S.2 22 2) < (16 : Int) then (if 0 ≤ (S.2 22 2) ∧ (S.2 22 2) < (16 : Int) then (bindR ((ev (WK L xs) d) 137 [vr 22] (wr S 23 (S.2 22 2).toNat (S.2 22 4))) (fun r1 S2 => (if x2 = 0 then (bindR ((ev (WK L xs) d) 146 [vr 22, vi (S.2 22 6)] S2) (fun r3 S4 => (if 0 ≤ (S2.2 22 2) ∧ (S2.2 22 2) < (16 : Int) then (some (0, (wr (wr S4 24 (S2.2 22 2).toNat r3) 22 2 (w32 ((S4.2 22 2) + (1 : Int)))))) else none))) else (bindR ((ev (WK L xs) d) 142 [vr 22, vi (S.2 22 6)] S2) (fun r5 S6 => (if 0 ≤ (S2.2 22 2) ∧ (S2.2 22 2) < (16 : Int) then (some (0, (wr (wr S6 24 (S2.2 22 2).toNat r5) 22 2 (w32 ((S6.2 22 2) + (1 : Int)))))) else none)))))) else none) else (bindR ((ev (WK L xs) d) 141 [vr 22, vi (4 : Int), vi (S.2 22 4)] S) (fun r7 S8 => (some (0, S8))))) := by rw [LQ_eq, zc_138, zr_138]; rfl
theorem zc_139 : csOf 139 = cs_139 := rfl
theorem zr_139 : rtOf 139 = 4 := rfl
theorem zm_139 : mlOf 139 = 2 := rfl
set_option maxRecDepth 100000 in
set_option maxHeartbeats 4000000 in
/-- SupplyBook$Reader.isNextOf(Ljava/lang/String;)Z -/
theorem q_139 (L : Nat) (xs : Nat → Int) (d : Nat) (S : AH) (p1 : Nat) : ev (WK L xs) (d + 1) 139 [vr 22, vr p1] S = (if (S.2 22 6) = (-1 : Int) then (some ((0 : Int), S)) else (gd (Nat.beq (shp (WK L xs) S p1).1 23 && Nat.ble 0 8) (bindR ((ev (WK L xs) d) 323 [vr p1, vi (w16u (S.2 22 6))] S) (fun r1 S2 => (if r1 < 0 then (some ((0 : Int), S2)) else (some ((1 : Int), S2))))))) := by rw [ev_eq, zc_139, zr_139, zm_139]; rfl
theorem zc_140 : csOf 140 = cs_140 := rfl
theorem zr_140 : rtOf 140 = 4 := rfl
theorem zm_140 : mlOf 140 = 1 := rfl
set_option maxRecDepth 100000 in
set_option maxHeartbeats 4000000 in
/-- SupplyBook$Reader.isRule(I)Z -/
theorem q_140 (L : Nat) (xs : Nat → Int) (d : Nat) (S : AH) (p1 : Int) : ev (WK L xs) (d + 1) 140 [vi p1] S = (if p1 = (111 : Int) then (some ((1 : Int), S)) else (if p1 = (110 : Int) then (some ((1 : Int), S)) else (if p1 = (115 : Int) then (some ((1 : Int), S)) else (if p1 = (116 : Int) then (some ((1 : Int), S)) else (some ((0 : Int), S)))))) := by rw [ev_eq, zc_140, zr_140, zm_140]; rfl
theorem zc_141 : csOf 141 = cs_141 := rfl
theorem zr_141 : rtOf 141 = 9 := rfl
theorem zm_141 : mlOf 141 = 3 := rfl
set_option maxRecDepth 100000 in
set_option maxHeartbeats 4000000 in
/-- SupplyBook$Reader.fail(II)V -/
theorem q_141 (L : Nat) (xs : Nat → Int) (d : Nat) (S : AH) (p1 : Int) (p2 : Int) : ev (WK L xs) (d + 1) 141 [vr 22, vi p1, vi p2] S = (if (S.2 22 7) = 0 then (if (S.2 22 9) = 0 then (some (0, (wr (wr (wr S 22 7 p1) 22 8 p2) 22 6 (-1 : Int)))) else (some (0, S))) else (some (0, S))) := by rw [ev_eq, zc_141, zr_141, zm_141]; rfl
theorem zc_142 : csOf 142 = cs_142 := rfl
theorem zr_142 : rtOf 142 = 0 := rfl
theorem zm_142 : mlOf 142 = 3 := rfl
set_option maxRecDepth 100000 in
set_option maxHeartbeats 4000000 in
/-- SupplyBook$Reader.readMoney(I)I -/
theorem q_142 (L : Nat) (xs : Nat → Int) (d : Nat) (S : AH) (p1 : Int) : ev (WK L xs) (d + 1) 142 [vr 22, vi p1] S = (if p1 = (120 : Int) then (bindR ((ev (WK L xs) d) 143 [vr 22, vi (19 : Int)] S) (fun r7 S8 => (bindR ((ev (WK L xs) d) 145 [vr 22, vi (46 : Int)] S8) (fun r9 S10 => (bindR ((ev (WK L xs) d) 143 [vr 22, vi (15 : Int)] S10) (fun r11 S12 => (some ((w32 ((w32 (r7 * (16 : Int))) + r11)), S12)))))))) else (if p1 = (109 : Int) then (bindR ((ev (WK L xs) d) 143 [vr 22, vi (100 : Int)] S) (fun r1 S2 => (some (r1, S2)))) else (if p1 = (99 : Int) then (bindR ((ev (WK L xs) d) 143 [vr 22, vi (100 : Int)] S) (fun r5 S6 => (some (r5, S6)))) else (bindR ((ev (WK L xs) d) 143 [vr 22, vi (999999 : Int)] S) (fun r3 S4 => (some (r3, S4))))))) := by rw [ev_eq, zc_142, zr_142, zm_142]; rfl
theorem zc_143 : csOf 143 = cs_143 := rfl
theorem zr_143 : rtOf 143 = 0 := rfl
theorem zm_143 : mlOf 143 = 6 := rfl
set_option maxRecDepth 100000 in
set_option maxHeartbeats 4000000 in
/-- SupplyBook$Reader.readNumber(I)I -/
theorem q_143 (L : Nat) (xs : Nat → Int) (d : Nat) (S : AH) (p1 : Int) : ev (WK L xs) (d + 1) 143 [vr 22, vi p1] S = (LQ (WK L xs) (ev (WK L xs) d) 143 13 [some (vr 22), some (vi p1), some (vi (S.2 22 4)), some (vi (0 : Int)), some (vi (0 : Int)), some (vi (0 : Int))] [] S) := by rw [ev_eq, zc_143, zr_143, zm_143]; rfl
set_option maxRecDepth 100000 in
set_option maxHeartbeats 4000000 in
theorem q_143_13 (L : Nat) (xs : Nat → Int) (d : Nat) (S : AH) (x1 : Int) (x2 : Int) (x3 : Int) (x4 : Int) (x5 : Int) : LQ (WK L xs) (ev (WK L xs) d) 143 13 [some (vr 22), some (vi x1), some (vi x2), some (vi x3), some (vi x4), some (vi x5)] [] S = (if x5 < (6 : Int) then (bindR ((ev (WK L xs) d) 144 [vr 22] S) (fun r1 S2 => (if r1 = 0 then (LQ (WK L xs) (ev (WK L xs) d) 143 53 [some (vr 22), some (vi x1), some (vi x2), some (vi x3), some (vi x4), none] [] S2) else (bindR ((ev (WK L xs) d) 137 [vr 22] S2) (fun r3 S4 => (LQ (WK L xs) (ev (WK L xs) d) 143 13 [some (vr 22), some (vi x1), some (vi x2), some (vi (w32 ((w32 (x3 * (10 : Int))) + (w32 ((S2.2 22 6) - (48 : Int)))))), some (vi (w32 (x4 + (1 : Int)))), some (vi (w32 (x5 + (1 : Int))))] [] S4)))))) else (LQ (WK L xs) (ev (WK L xs) d) 143 53 [some (vr 22), some (vi x1), some (vi x2), some (vi x3), some (vi x4), none] [] S)) := by rw [LQ_eq, zc_143, zr_143]; rfl
set_option maxRecDepth 100000 in
set_option maxHeartbeats 4000000 in
theorem q_143_53 (L : Nat) (xs : Nat → Int) (d : Nat) (S : AH) (x1 : Int) (x2 : Int) (x3 : Int) (x4 : Int) : LQ (WK L xs) (ev (WK L xs) d) 143 53 [some (vr 22), some (vi x1), some (vi x2), some (vi x3), some (vi x4), none] [] S = (if x4 = 0 then (bindR ((ev (WK L xs) d) 141 [vr 22, vi (1 : Int), vi (S.2 22 4)] S) (fun r7 S8 => (some (x3, S8)))) else (bindR ((ev (WK L xs) d) 144 [vr 22] S) (fun r1 S2 => (if r1 = 0 then (if x1 < x3 then (bindR ((ev (WK L xs) d) 141 [vr 22, vi (3 : Int), vi x2] S2) (fun r3 S4 => (some (x3, S4)))) else (some (x3, S2))) else (bindR ((ev (WK L xs) d) 141 [vr 22, vi (2 : Int), vi (S2.2 22 4)] S2) (fun r5 S6 => (some (x3, S6)))))))) := by rw [LQ_eq, zc_143, zr_143]; rfl
theorem zc_144 : csOf 144 = cs_144 := rfl
theorem zr_144 : rtOf 144 = 4 := rfl
theorem zm_144 : mlOf 144 = 1 := rfl
set_option maxRecDepth 100000 in
set_option maxHeartbeats 4000000 in
/-- SupplyBook$Reader.isNextDigit()Z -/
theorem q_144 (L : Nat) (xs : Nat → Int) (d : Nat) (S : AH)  : ev (WK L xs) (d + 1) 144 [vr 22] S = (if (S.2 22 6) < (48 : Int) then (some ((0 : Int), S)) else (if (57 : Int) < (S.2 22 6) then (some ((0 : Int), S)) else (some ((1 : Int), S)))) := by rw [ev_eq, zc_144, zr_144, zm_144]; rfl
theorem zc_145 : csOf 145 = cs_145 := rfl
theorem zr_145 : rtOf 145 = 9 := rfl
theorem zm_145 : mlOf 145 = 2 := rfl
set_option maxRecDepth 100000 in
set_option maxHeartbeats 4000000 in
/-- SupplyBook$Reader.expect(C)V -/
theorem q_145 (L : Nat) (xs : Nat → Int) (d : Nat) (S : AH) (p1 : Int) : ev (WK L xs) (d + 1) 145 [vr 22, vi p1] S = (if (S.2 22 6) = p1 then (bindR ((ev (WK L xs) d) 137 [vr 22] S) (fun r3 S4 => (some (0, S4)))) else (bindR ((ev (WK L xs) d) 141 [vr 22, vi (1 : Int), vi (S.2 22 4)] S) (fun r1 S2 => (some (0, S2))))) := by rw [ev_eq, zc_145, zr_145, zm_145]; rfl
theorem zc_146 : csOf 146 = cs_146 := rfl
theorem zr_146 : rtOf 146 = 0 := rfl
theorem zm_146 : mlOf 146 = 3 := rfl
set_option maxRecDepth 100000 in
set_option maxHeartbeats 4000000 in
/-- SupplyBook$Reader.readRule(I)I -/
theorem q_146 (L : Nat) (xs : Nat → Int) (d : Nat) (S : AH) (p1 : Int) : ev (WK L xs) (d + 1) 146 [vr 22, vi p1] S = (bindR ((ev (WK L xs) d) 145 [vr 22, vi (40 : Int)] S) (fun r1 S2 => (bindR ((ev (WK L xs) d) 147 [vr 22, vi (1 : Int), vi (0 : Int)] S2) (fun r3 S4 => (bindR ((ev (WK L xs) d) 145 [vr 22, vi (41 : Int)] S4) (fun r5 S6 => (if p1 = (115 : Int) then (bindR ((ev (WK L xs) d) 144 [vr 22] S6) (fun r7 S8 => (if r7 = 0 then (LQ (WK L xs) (ev (WK L xs) d) 146 45 [some (vr 22), none, none] [vi (0 : Int)] S8) else (LQ (WK L xs) (ev (WK L xs) d) 146 45 [some (vr 22), none, none] [vi (w32 ((S8.2 22 6) - (48 : Int)))] S8)))) else (some ((0 : Int), S6))))))))) := by rw [ev_eq, zc_146, zr_146, zm_146]; rfl
set_option maxRecDepth 100000 in
set_option maxHeartbeats 4000000 in
theorem q_146_45 (L : Nat) (xs : Nat → Int) (d : Nat) (S : AH) (t0 : Int) : LQ (WK L xs) (ev (WK L xs) d) 146 45 [some (vr 22), none, none] [vi t0] S = (if t0 = 0 then (bindR ((ev (WK L xs) d) 141 [vr 22, vi (1 : Int), vi (S.2 22 4)] S) (fun r3 S4 => (some (t0, S4)))) else (bindR ((ev (WK L xs) d) 137 [vr 22] S) (fun r1 S2 => (some (t0, S2))))) := by rw [LQ_eq, zc_146, zr_146]; rfl
theorem zc_147 : csOf 147 = cs_147 := rfl
theorem zr_147 : rtOf 147 = 4 := rfl
theorem zm_147 : mlOf 147 = 7 := rfl
set_option maxRecDepth 100000 in
set_option maxHeartbeats 4000000 in
/-- SupplyBook$Reader.readCondition(IZ)Z -/
theorem q_147 (L : Nat) (xs : Nat → Int) (d : Nat) (S : AH) (p1 : Int) (p2 : Int) : ev (WK L xs) (d + 1) 147 [vr 22, vi p1, vi p2] S = (bindR ((ev (WK L xs) d) 148 [vr 22, vi p1, vi p2] S) (fun r1 S2 => (LQ (WK L xs) (ev (WK L xs) d) 147 10 [some (vr 22), some (vi p1), some (vi p2), some (vi r1), some (vi (0 : Int)), none, none] [] S2))) := by rw [ev_eq, zc_147, zr_147, zm_147]; rfl
set_option maxRecDepth 100000 in
set_option maxHeartbeats 4000000 in
theorem q_147_10 (L : Nat) (xs : Nat → Int) (d : Nat) (S : AH) (x1 : Int) (x2 : Int) (x3 : Int) (x4 : Int) : LQ (WK L xs) (ev (WK L xs) d) 147 10 [some (vr 22), some (vi x1), some (vi x2), some (vi x3), some (vi x4), none, none] [] S = (if x4 < (200 : Int) then (if (S.2 22 6) = (124 : Int) then (bindR ((ev (WK L xs) d) 137 [vr 22] S) (fun r1 S2 => (if x2 = 0 then (LQ (WK L xs) (ev (WK L xs) d) 147 44 [some (vr 22), some (vi x1), some (vi x2), some (vi x3), some (vi x4), none, none] [vi (0 : Int)] S2) else (if x3 = 0 then (LQ (WK L xs) (ev (WK L xs) d) 147 44 [some (vr 22), some (vi x1), some (vi x2), some (vi x3), some (vi x4), none, none] [vi (1 : Int)] S2) else (LQ (WK L xs) (ev (WK L xs) d) 147 44 [some (vr 22), some (vi x1), some (vi x2), some (vi x3), some (vi x4), none, none] [vi (0 : Int)] S2))))) else (if x3 = 0 ∨ x3 = 1 then (some (x3, S)) else none)) else (if x3 = 0 ∨ x3 = 1 then (some (x3, S)) else none)) := by rw [LQ_eq, zc_147, zr_147]; rfl
set_option maxRecDepth 100000 in
set_option maxHeartbeats 4000000 in
theorem q_147_44 (L : Nat) (xs : Nat → Int) (d : Nat) (S : AH) (x1 : Int) (x2 : Int) (x3 : Int) (x4 : Int) (t0 : Int) : LQ (WK L xs) (ev (WK L xs) d) 147 44 [some (vr 22), some (vi x1), some (vi x2), some (vi x3), some (vi x4), none, none] [vi t0] S = (bindR ((ev (WK L xs) d) 148 [vr 22, vi x1, vi t0] S) (fun r1 S2 => (if t0 = 0 then (LQ (WK L xs) (ev (WK L xs) d) 147 10 [some (vr 22), some (vi x1), some (vi x2), some (vi x3), some (vi (w32 (x4 + (1 : Int)))), none, none] [] S2) else (LQ (WK L xs) (ev (WK L xs) d) 147 10 [some (vr 22), some (vi x1), some (vi x2), some (vi r1), some (vi (w32 (x4 + (1 : Int)))), none, none] [] S2)))) := by rw [LQ_eq, zc_147, zr_147]; rfl
theorem zc_148 : csOf 148 = cs_148 := rfl
theorem zr_148 : rtOf 148 = 4 := rfl
theorem zm_148 : mlOf 148 = 7 := rfl
set_option maxRecDepth 100000 in
set_option maxHeartbeats 4000000 in
/-- SupplyBook$Reader.readPart(IZ)Z -/
theorem q_148 (L : Nat) (xs : Nat → Int) (d : Nat) (S : AH) (p1 : Int) (p2 : Int) : ev (WK L xs) (d + 1) 148 [vr 22, vi p1, vi p2] S = (bindR ((ev (WK L xs) d) 149 [vr 22, vi p1, vi p2] S) (fun r1 S2 => (LQ (WK L xs) (ev (WK L xs) d) 148 10 [some (vr 22), some (vi p1), some (vi p2), some (vi r1), some (vi (0 : Int)), none, none] [] S2))) := by rw [ev_eq, zc_148, zr_148, zm_148]; rfl
set_option maxRecDepth 100000 in
set_option maxHeartbeats 4000000 in
theorem q_148_10 (L : Nat) (xs : Nat → Int) (d : Nat) (S : AH) (x1 : Int) (x2 : Int) (x3 : Int) (x4 : Int) : LQ (WK L xs) (ev (WK L xs) d) 148 10 [some (vr 22), some (vi x1), some (vi x2), some (vi x3), some (vi x4), none, none] [] S = (if x4 < (200 : Int) then (if (S.2 22 6) = (38 : Int) then (bindR ((ev (WK L xs) d) 137 [vr 22] S) (fun r1 S2 => (if x2 = 0 then (LQ (WK L xs) (ev (WK L xs) d) 148 44 [some (vr 22), some (vi x1), some (vi x2), some (vi x3), some (vi x4), none, none] [vi (0 : Int)] S2) else (if x3 = 0 then (LQ (WK L xs) (ev (WK L xs) d) 148 44 [some (vr 22), some (vi x1), some (vi x2), some (vi x3), some (vi x4), none, none] [vi (0 : Int)] S2) else (LQ (WK L xs) (ev (WK L xs) d) 148 44 [some (vr 22), some (vi x1), some (vi x2), some (vi x3), some (vi x4), none, none] [vi (1 : Int)] S2))))) else (if x3 = 0 ∨ x3 = 1 then (some (x3, S)) else none)) else (if x3 = 0 ∨ x3 = 1 then (some (x3, S)) else none)) := by rw [LQ_eq, zc_148, zr_148]; rfl
set_option maxRecDepth 100000 in
set_option maxHeartbeats 4000000 in
theorem q_148_44 (L : Nat) (xs : Nat → Int) (d : Nat) (S : AH) (x1 : Int) (x2 : Int) (x3 : Int) (x4 : Int) (t0 : Int) : LQ (WK L xs) (ev (WK L xs) d) 148 44 [some (vr 22), some (vi x1), some (vi x2), some (vi x3), some (vi x4), none, none] [vi t0] S = (bindR ((ev (WK L xs) d) 149 [vr 22, vi x1, vi t0] S) (fun r1 S2 => (if t0 = 0 then (LQ (WK L xs) (ev (WK L xs) d) 148 10 [some (vr 22), some (vi x1), some (vi x2), some (vi x3), some (vi (w32 (x4 + (1 : Int)))), none, none] [] S2) else (LQ (WK L xs) (ev (WK L xs) d) 148 10 [some (vr 22), some (vi x1), some (vi x2), some (vi r1), some (vi (w32 (x4 + (1 : Int)))), none, none] [] S2)))) := by rw [LQ_eq, zc_148, zr_148]; rfl
theorem zc_149 : csOf 149 = cs_149 := rfl
theorem zr_149 : rtOf 149 = 4 := rfl
theorem zm_149 : mlOf 149 = 8 := rfl
set_option maxRecDepth 100000 in
set_option maxHeartbeats 4000000 in
/-- SupplyBook$Reader.readPiece(IZ)Z -/
theorem q_149 (L : Nat) (xs : Nat → Int) (d : Nat) (S : AH) (p1 : Int) (p2 : Int) : ev (WK L xs) (d + 1) 149 [vr 22, vi p1, vi p2] S = (if (S.2 22 6) = (33 : Int) then (bindR ((ev (WK L xs) d) 150 [vr 22, vi p1] S) (fun r25 S26 => (if r25 = 0 then (some ((0 : Int), S26)) else (bindR ((ev (WK L xs) d) 149 [vr 22, vi (w32 (p1 + (1 : Int))), vi p2] S26) (fun r27 S28 => (if r27 = 0 then (some ((1 : Int), S28)) else (some ((0 : Int), S28)))))))) else (if (S.2 22 6) = (40 : Int) then (bindR ((ev (WK L xs) d) 150 [vr 22, vi p1] S) (fun r15 S16 => (if r15 = 0 then (bindR ((ev (WK L xs) d) 145 [vr 22, vi (41 : Int)] S16) (fun r17 S18 => (some ((0 : Int), S18)))) else (bindR ((ev (WK L xs) d) 147 [vr 22, vi (w32 (p1 + (1 : Int))), vi p2] S16) (fun r19 S20 => (if r19 = 0 then (bindR ((ev (WK L xs) d) 145 [vr 22, vi (41 : Int)] S20) (fun r21 S22 => (some ((0 : Int), S22)))) else (bindR ((ev (WK L xs) d) 145 [vr 22, vi (41 : Int)] S20) (fun r23 S24 => (some ((1 : Int), S24)))))))))) else (if (S.2 22 6) = (117 : Int) then (bindR ((ev (WK L xs) d) 137 [vr 22] S) (fun r11 S12 => (bindR ((ev (WK L xs) d) 143 [vr 22, vi (39 : Int)] S12) (fun r13 S14 => (if (lcmp (land (lushr (S12.2 22 11) r13) (1 : Int)) (0 : Int)) = 0 then (some ((0 : Int), S14)) else (some ((1 : Int), S14))))))) else (bindR ((ev (WK L xs) d) 151 [vr 22, vi p1, vi p2] S) (fun r1 S2 => (bindR ((ev (WK L xs) d) 139 [vr 22, vr 6] S2) (fun r3 S4 => (if r3 = 0 then (bindR ((ev (WK L xs) d) 141 [vr 22, vi (1 : Int), vi (S4.2 22 4)] S4) (fun r9 S10 => (some ((0 : Int), S10)))) else (bindR ((ev (WK L xs) d) 137 [vr 22] S4) (fun r5 S6 => (bindR ((ev (WK L xs) d) 151 [vr 22, vi p1, vi p2] S6) (fun r7 S8 => (if (S2.2 22 6) = (60 : Int) then (if (lcmp r1 r7) < 0 then (some ((1 : Int), S8)) else (some ((0 : Int), S8))) else (if (S2.2 22 6) = (62 : Int) then (if 0 < (lcmp r1 r7) then (some ((1 : Int), S8)) else (some ((0 : Int), S8))) else (if (lcmp r1 r7) = 0 then (some ((1 : Int), S8)) else (some ((0 : Int), S8))))))))))))))))) := by rw [ev_eq, zc_149, zr_149, zm_149]; rfl
theorem zc_150 : csOf 150 = cs_150 := rfl
theorem zr_150 : rtOf 150 = 4 := rfl
theorem zm_150 : mlOf 150 = 2 := rfl
set_option maxRecDepth 100000 in
set_option maxHeartbeats 4000000 in
/-- SupplyBook$Reader.opensOneMore(I)Z -/
theorem q_150 (L : Nat) (xs : Nat → Int) (d : Nat) (S : AH) (p1 : Int) : ev (WK L xs) (d + 1) 150 [vr 22, vi p1] S = (if p1 < (8 : Int) then (bindR ((ev (WK L xs) d) 137 [vr 22] S) (fun r1 S2 => (some ((1 : Int), S2)))) else (bindR ((ev (WK L xs) d) 141 [vr 22, vi (5 : Int), vi (S.2 22 4)] S) (fun r3 S4 => (some ((0 : Int), S4))))) := by rw [ev_eq, zc_150, zr_150, zm_150]; rfl
theorem zc_151 : csOf 151 = cs_151 := rfl
theorem zr_151 : rtOf 151 = 1 := rfl
theorem zm_151 : mlOf 151 = 9 := rfl
set_option maxRecDepth 100000 in
set_option maxHeartbeats 4000000 in
/-- SupplyBook$Reader.readExpression(IZ)J -/
theorem q_151 (L : Nat) (xs : Nat → Int) (d : Nat) (S : AH) (p1 : Int) (p2 : Int) : ev (WK L xs) (d + 1) 151 [vr 22, vi p1, vi p2] S = (bindR ((ev (WK L xs) d) 152 [vr 22, vi p1, vi p2] S) (fun r1 S2 => (LQ (WK L xs) (ev (WK L xs) d) 151 10 [some (vr 22), some (vi p1), some (vi p2), some (vl r1), none, some (vi (0 : Int)), none, none, none] [] S2))) := by rw [ev_eq, zc_151, zr_151, zm_151]; rfl
set_option maxRecDepth 100000 in
set_option maxHeartbeats 4000000 in
theorem q_151_10 (L : Nat) (xs : Nat → Int) (d : Nat) (S : AH) (x1 : Int) (x2 : Int) (x3 : Int) (x5 : Int) : LQ (WK L xs) (ev (WK L xs) d) 151 10 [some (vr 22), some (vi x1), some (vi x2), some (vl x3), none, some (vi x5), none, none, none] [] S = (if x5 < (200 : Int) then (if (S.2 22 6) = (43 : Int) then (if (S.2 22 6) = (43 : Int) then (LQ (WK L xs) (ev (WK L xs) d) 151 50 [some (vr 22), some (vi x1), some (vi x2), some (vl x3), none, some (vi x5), none, none, none] [vi (1 : Int)] S) else (LQ (WK L xs) (ev (WK L xs) d) 151 50 [some (vr 22), some (vi x1), some (vi x2), some (vl x3), none, some (vi x5), none, none, none] [vi (0 : Int)] S)) else (if (S.2 22 6) = (45 : Int) then (if (S.2 22 6) = (43 : Int) then (LQ (WK L xs) (ev (WK L xs) d) 151 50 [some (vr 22), some (vi x1), some (vi x2), some (vl x3), none, some (vi x5), none, none, none] [vi (1 : Int)] S) else (LQ (WK L xs) (ev (WK L xs) d) 151 50 [some (vr 22), some (vi x1), some (vi x2), some (vl x3), none, some (vi x5), none, none, none] [vi (0 : Int)] S)) else (some (x3, S)))) else (some (x3, S))) := by rw [LQ_eq, zc_151, zr_151]; rfl
set_option maxRecDepth 100000 in
set_option maxHeartbeats 4000000 in
theorem q_151_50 (L : Nat) (xs : Nat → Int) (d : Nat) (S : AH) (x1 : Int) (x2 : Int) (x3 : Int) (x5 : Int) (t0 : Int) : LQ (WK L xs) (ev (WK L xs) d) 151 50 [some (vr 22), some (vi x1), some (vi x2), some (vl x3), none, some (vi x5), none, none, none] [vi t0] S = (bindR ((ev (WK L xs) d) 137 [vr 22] S) (fun r1 S2 => (bindR ((ev (WK L xs) d) 152 [vr 22, vi x1, vi x2] S2) (fun r3 S4 => (if t0 = 0 then (LQ (WK L xs) (ev (WK L xs) d) 151 10 [some (vr 22), some (vi x1), some (vi x2), some (vl (w64 (x3 - r3))), none, some (vi (w32 (x5 + (1 : Int)))), none, none, none] [] S4) else (LQ (WK L xs) (ev (WK L xs) d) 151 10 [some (vr 22), some (vi x1), some (vi x2), some (vl (w64 (x3 + r3))), none, some (vi (w32 (x5 + (1 : Int)))), none, none, none] [] S4)))))) := by rw [LQ_eq, zc_151, zr_151]; rfl
theorem zc_152 : csOf 152 = cs_152 := rfl
theorem zr_152 : rtOf 152 = 1 := rfl
theorem zm_152 : mlOf 152 = 9 := rfl
set_option maxRecDepth 100000 in
set_option maxHeartbeats 4000000 in
/-- SupplyBook$Reader.readTerm(IZ)J -/
theorem q_152 (L : Nat) (xs : Nat → Int) (d : Nat) (S : AH) (p1 : Int) (p2 : Int) : ev (WK L xs) (d + 1) 152 [vr 22, vi p1, vi p2] S = (bindR ((ev (WK L xs) d) 153 [vr 22, vi p1, vi p2] S) (fun r1 S2 => (LQ (WK L xs) (ev (WK L xs) d) 152 10 [some (vr 22), some (vi p1), some (vi p2), some (vl r1), none, some (vi (0 : Int)), none, none, none] [] S2))) := by rw [ev_eq, zc_152, zr_152, zm_152]; rfl
set_option maxRecDepth 100000 in
set_option maxHeartbeats 4000000 in
theorem q_152_10 (L : Nat) (xs : Nat → Int) (d : Nat) (S : AH) (x1 : Int) (x2 : Int) (x3 : Int) (x5 : Int) : LQ (WK L xs) (ev (WK L xs) d) 152 10 [some (vr 22), some (vi x1), some (vi x2), some (vl x3), none, some (vi x5), none, none, none] [] S = (if x5 < (200 : Int) then (bindR ((ev (WK L xs) d) 139 [vr 22, vr 7] S) (fun r1 S2 => (if r1 = 0 then (some (x3, S2)) else (bindR ((ev (WK L xs) d) 137 [vr 22] S2) (fun r3 S4 => (bindR ((ev (WK L xs) d) 153 [vr 22, vi x1, vi x2] S4) (fun r5 S6 => (if (S2.2 22 6) = (42 : Int) then (LQ (WK L xs) (ev (WK L xs) d) 152 10 [some (vr 22), some (vi x1), some (vi x2), some (vl (w64 (x3 * r5))), none, some (vi (w32 (x5 + (1 : Int)))), none, none, none] [] S6) else (if (lcmp r5 (0 : Int)) = 0 then (if x2 = 0 then (LQ (WK L xs) (ev (WK L xs) d) 152 10 [some (vr 22), some (vi x1), some (vi x2), some (vl x3), none, some (vi (w32 (x5 + (1 : Int)))), none, none, none] [] S6) else (LQ (WK L xs) (ev (WK L xs) d) 152 10 [some (vr 22), some (vi x1), some (vi x2), some (vl x3), none, some (vi (w32 (x5 + (1 : Int)))), none, none, none] [] (wr (wr S6 22 9 (1 : Int)) 22 6 (-1 : Int)))) else (if (S2.2 22 6) = (47 : Int) then (if r5 = 0 then none else (LQ (WK L xs) (ev (WK L xs) d) 152 10 [some (vr 22), some (vi x1), some (vi x2), some (vl (ldiv x3 r5)), none, some (vi (w32 (x5 + (1 : Int)))), none, none, none] [] S6)) else (if r5 = 0 then none else (LQ (WK L xs) (ev (WK L xs) d) 152 10 [some (vr 22), some (vi x1), some (vi x2), some (vl (Int.tmod x3 r5)), none, some (vi (w32 (x5 + (1 : Int)))), none, none, none] [] S6)))))))))))) else (some (x3, S))) := by rw [LQ_eq, zc_152, zr_152]; rfl
theorem zc_153 : csOf 153 = cs_153 := rfl
theorem zr_153 : rtOf 153 = 1 := rfl
theorem zm_153 : mlOf 153 = 5 := rfl
set_option maxRecDepth 100000 in
set_option maxHeartbeats 4000000 in
/-- SupplyBook$Reader.readFactor(IZ)J -/
theorem q_153 (L : Nat) (xs : Nat → Int) (d : Nat) (S : AH) (p1 : Int) (p2 : Int) : ev (WK L xs) (d + 1) 153 [vr 22, vi p1, vi p2] S = (if (S.2 22 6) = (91 : Int) then (bindR ((ev (WK L xs) d) 150 [vr 22, vi p1] S) (fun r7 S8 => (if r7 = 0 then (bindR ((ev (WK L xs) d) 145 [vr 22, vi (93 : Int)] S8) (fun r9 S10 => (some ((0 : Int), S10)))) else (bindR ((ev (WK L xs) d) 151 [vr 22, vi (w32 (p1 + (1 : Int))), vi p2] S8) (fun r11 S12 => (bindR ((ev (WK L xs) d) 145 [vr 22, vi (93 : Int)] S12) (fun r13 S14 => (some (r11, S14))))))))) else (bindR ((ev (WK L xs) d) 144 [vr 22] S) (fun r1 S2 => (if r1 = 0 then (if (S2.2 22 6) = (-1 : Int) then (LQ (WK L xs) (ev (WK L xs) d) 153 75 [some (vr 22), none, none, none, none] [vi (-1 : Int)] S2) else (bindR ((ev (WK L xs) d) 323 [vr 4, vi (w16u (S2.2 22 6))] S2) (fun r3 S4 => (LQ (WK L xs) (ev (WK L xs) d) 153 75 [some (vr 22), none, none, none, none] [vi r3] S4)))) else (bindR ((ev (WK L xs) d) 143 [vr 22, vi (999999 : Int)] S2) (fun r5 S6 => (some (r5, S6)))))))) := by rw [ev_eq, zc_153, zr_153, zm_153]; rfl
set_option maxRecDepth 100000 in
set_option maxHeartbeats 4000000 in
theorem q_153_75 (L : Nat) (xs : Nat → Int) (d : Nat) (S : AH) (t0 : Int) : LQ (WK L xs) (ev (WK L xs) d) 153 75 [some (vr 22), none, none, none, none] [vi t0] S = (if t0 < 0 then (bindR ((ev (WK L xs) d) 141 [vr 22, vi (1 : Int), vi (S.2 22 4)] S) (fun r1 S2 => (some ((0 : Int), S2)))) else (if t0 < (7 : Int) then (bindR ((ev (WK L xs) d) 137 [vr 22] S) (fun r3 S4 => (if 0 ≤ t0 ∧ t0 < (7 : Int) then (some ((S4.2 26 t0.toNat), S4)) else none))) else (bindR ((ev (WK L xs) d) 141 [vr 22, vi (1 : Int), vi (S.2 22 4)] S) (fun r5 S6 => (some ((0 : Int), S6)))))) := by rw [LQ_eq, zc_153, zr_153]; rfl
theorem zc_154 : csOf 154 = cs_154 := rfl
theorem zr_154 : rtOf 154 = 2 := rfl
theorem zm_154 : mlOf 154 = 2 := rfl
set_option maxRecDepth 100000 in
set_option maxHeartbeats 4000000 in
/-- SupplyBook$Reader.textRead()LSupplyBook$Text; -/
theorem q_154 (L : Nat) (xs : Nat → Int) (d : Nat) (S : AH)  : ev (WK L xs) (d + 1) 154 [vr 22] S = (gd (Nat.ble (shp (WK L xs) S (S.2 22 3).toNat).1 6) (bindR ((ev (WK L xs) d) 332 [vr ((nw S 19 3).2 22 3).toNat, vi (max (0 : Int) (min (S.2 22 5) ((shp (WK L xs) S (S.2 22 3).toNat).2 : Int)))] (nw S 19 3)) (fun r1 S2 => (bindR ((ev (WK L xs) d) 333 [vr 23, vi (S2.2 22 2)] S2) (fun r3 S4 => (bindR ((ev (WK L xs) d) 333 [vr 24, vi (S4.2 22 2)] S4) (fun r5 S6 => (gd (Nat.beq (shp (WK L xs) S6 S.1.1).1 19 && Nat.ble 1 8) (bindR ((ev (WK L xs) d) 160 [vr S.1.1, vr r1.toNat, vr r3.toNat, vr r5.toNat] S6) (fun r7 S8 => (some ((S.1.1 : Int), S8)))))))))))) := by rw [ev_eq, zc_154, zr_154, zm_154]; rfl
theorem zc_155 : csOf 155 = cs_155 := rfl
theorem zr_155 : rtOf 155 = 9 := rfl
theorem zm_155 : mlOf 155 = 5 := rfl
set_option maxRecDepth 100000 in
set_option maxHeartbeats 4000000 in
/-- SupplyBook$Reader.tellClaim(LSupplyBook$Claim;JI)V -/
theorem q_155 (L : Nat) (xs : Nat → Int) (d : Nat) (S : AH) (p1 : Nat) (p2 : Int) (p3 : Int) : ev (WK L xs) (d + 1) 155 [vr 22, vr p1, vl p2, vi p3] S = (gd (Nat.beq (shp (WK L xs) (wr S 22 11 p2) p1).1 12) (if (rdv (WK L xs) (wr S 22 11 p2) p1 5) = 0 ∨ (rdv (WK L xs) (wr S 22 11 p2) p1 5) = 1 then (gd (Nat.beq (shp (WK L xs) (wr (wr S 22 11 p2) 22 12 (rdv (WK L xs) (wr S 22 11 p2) p1 5)) p1).1 12) (if 0 ≤ (0 : Int) ∧ (0 : Int) < (7 : Int) then (gd (Nat.beq (shp (WK L xs) (wr (wr (wr S 22 11 p2) 22 12 (rdv (WK L xs) (wr S 22 11 p2) p1 5)) 26 0 (rdv (WK L xs) (wr (wr S 22 11 p2) 22 12 (rdv (WK L xs) (wr S 22 11 p2) p1 5)) p1 3)) p1).1 12) (if 0 ≤ (2 : Int) ∧ (2 : Int) < (7 : Int) then (gd (Nat.beq (shp (WK L xs) (wr (wr (wr (wr S 22 11 p2) 22 12 (rdv (WK L xs) (wr S 22 11 p2) p1 5)) 26 0 (rdv (WK L xs) (wr (wr S 22 11 p2) 22 12 (rdv (WK L xs) (wr S 22 11 p2) p1 5)) p1 3)) 26 2 (rdv (WK L xs) (wr (wr (wr S 22 11 p2) 22 12 (rdv (WK L xs) (wr S 22 11 p2) p1 5)) 26 0 (rdv (WK L xs) (wr (wr S 22 11 p2) 22 12 (rdv (WK L xs) (wr S 22 11 p2) p1 5)) p1 3)) p1 1)) p1).1 12) (if 0 ≤ (3 : Int) ∧ (3 : Int) < (7 : Int) then (if 0 ≤ (4 : Int) ∧ (4 : Int) < (7 : Int) then (some (0, (wr (wr (wr (wr (wr (wr S 22 11 p2) 22 12 (rdv (WK L xs) (wr S 22 11 p2) p1 5)) 26 0 (rdv (WK L xs) (wr (wr S 22 11 p2) 22 12 (rdv (WK L xs) (wr S 22 11 p2) p1 5)) p1 3)) 26 2 (rdv (WK L xs) (wr (wr (wr S 22 11 p2) 22 12 (rdv (WK L xs) (wr S 22 11 p2) p1 5)) 26 0 (rdv (WK L xs) (wr (wr S 22 11 p2) 22 12 (rdv (WK L xs) (wr S 22 11 p2) p1 5)) p1 3)) p1 1)) 26 3 (rdv (WK L xs) (wr (wr (wr (wr S 22 11 p2) 22 12 (rdv (WK L xs) (wr S 22 11 p2) p1 5)) 26 0 (rdv (WK L xs) (wr (wr S 22 11 p2) 22 12 (rdv (WK L xs) (wr S 22 11 p2) p1 5)) p1 3)) 26 2 (rdv (WK L xs) (wr (wr (wr S 22 11 p2) 22 12 (rdv (WK L xs) (wr S 22 11 p2) p1 5)) 26 0 (rdv (WK L xs) (wr (wr S 22 11 p2) 22 12 (rdv (WK L xs) (wr S 22 11 p2) p1 5)) p1 3)) p1 1)) p1 2)) 26 4 p3))) else none) else none)) else none)) else none)) else none)) := by rw [ev_eq, zc_155, zr_155, zm_155]; rfl
theorem zc_156 : csOf 156 = cs_156 := rfl
theorem zr_156 : rtOf 156 = 9 := rfl
theorem zm_156 : mlOf 156 = 3 := rfl
set_option maxRecDepth 100000 in
set_option maxHeartbeats 4000000 in
/-- SupplyBook$Reader.tellTime(II)V -/
theorem q_156 (L : Nat) (xs : Nat → Int) (d : Nat) (S : AH) (p1 : Int) (p2 : Int) : ev (WK L xs) (d + 1) 156 [vr 22, vi p1, vi p2] S = (if 0 ≤ (1 : Int) ∧ (1 : Int) < (7 : Int) then (if 0 ≤ (5 : Int) ∧ (5 : Int) < (7 : Int) then (some (0, (wr (wr S 26 1 p1) 26 5 p2))) else none) else none) := by rw [ev_eq, zc_156, zr_156, zm_156]; rfl
theorem zc_157 : csOf 157 = cs_157 := rfl
theorem zr_157 : rtOf 157 = 9 := rfl
theorem zm_157 : mlOf 157 = 3 := rfl
set_option maxRecDepth 100000 in
set_option maxHeartbeats 4000000 in
/-- SupplyBook$Reader.tellLeft(J)V -/
theorem q_157 (L : Nat) (xs : Nat → Int) (d : Nat) (S : AH) (p1 : Int) : ev (WK L xs) (d + 1) 157 [vr 22, vl p1] S = (if 0 ≤ (6 : Int) ∧ (6 : Int) < (7 : Int) then (some (0, (wr S 26 6 p1))) else none) := by rw [ev_eq, zc_157, zr_157, zm_157]; rfl
theorem zc_158 : csOf 158 = cs_158 := rfl
theorem zr_158 : rtOf 158 = 0 := rfl
theorem zm_158 : mlOf 158 = 7 := rfl
set_option maxRecDepth 100000 in
set_option maxHeartbeats 4000000 in
/-- SupplyBook$Reader.barOfText(LSupplyBook$Text;I)I -/
theorem q_158 (L : Nat) (xs : Nat → Int) (d : Nat) (S : AH) (p1 : Nat) (p2 : Int) : ev (WK L xs) (d + 1) 158 [vr 22, vr p1, vi p2] S = (LQ (WK L xs) (ev (WK L xs) d) 158 5 [some (vr 22), some (vr p1), some (vi p2), some (vi (0 : Int)), some (vi (0 : Int)), none, none] [] S) := by rw [ev_eq, zc_158, zr_158, zm_158]; rfl
set_option maxRecDepth 100000 in
set_option maxHeartbeats 4000000 in
theorem q_158_5 (L : Nat) (xs : Nat → Int) (d : Nat) (S : AH) (x1 : Nat) (x2 : Int) (x3 : Int) (x4 : Int) : LQ (WK L xs) (ev (WK L xs) d) 158 5 [some (vr 22), some (vr x1), some (vi x2), some (vi x3), some (vi x4), none, none] [] S = (if x1 = 0 then (some (x3, S)) else (gd (!(Nat.beq x1 14)) (gd (Nat.beq (shp (WK L xs) S x1).1 19 && Nat.ble 1 8) (bindR ((ev (WK L xs) d) 161 [vr x1] S) (fun r1 S2 => (if x4 < r1 then (if x3 = 0 then (gd (Nat.beq (shp (WK L xs) S2 x1).1 19 && Nat.ble 0 8) (bindR ((ev (WK L xs) d) 162 [vr x1, vi x4] S2) (fun r3 S4 => (if (iand (ishr x2 x4) (1 : Int)) = 0 then (LQ (WK L xs) (ev (WK L xs) d) 158 5 [some (vr 22), some (vr x1), some (vi x2), some (vi x3), some (vi (w32 (x4 + (1 : Int)))), none, none] [] S4) else (bindR ((ev (WK L xs) d) 140 [vi r3] S4) (fun r5 S6 => (if r5 = 0 then (LQ (WK L xs) (ev (WK L xs) d) 158 5 [some (vr 22), some (vr x1), some (vi x2), some (vi x3), some (vi (w32 (x4 + (1 : Int)))), none, none] [] S6) else (gd (Nat.beq (shp (WK L xs) S6 x1).1 19) (gd (Nat.beq (shp (WK L xs) S6 x1).1 19 && Nat.ble 2 8) (bindR ((ev (WK L xs) d) 163 [vr x1, vi x4] S6) (fun r7 S8 => (gd (Nat.beq (shp (WK L xs) S8 x1).1 19) (gd (Nat.ble (shp (WK L xs) S8 (rdv (WK L xs) S8 x1 0).toNat).1 6) (bindR ((ev (WK L xs) d) 136 [vr 22, vr (rdv (WK L xs) S6 x1 0).toNat, vi (w32 (r7 + (1 : Int))), vi ((shp (WK L xs) S8 (rdv (WK L xs) S8 x1 0).toNat).2 : Int)] S8) (fun r9 S10 => (bindR ((ev (WK L xs) d) 145 [vr 22, vi (40 : Int)] S10) (fun r11 S12 => (bindR ((ev (WK L xs) d) 147 [vr 22, vi (1 : Int), vi (1 : Int)] S12) (fun r13 S14 => (if (S14.2 22 9) = 0 then (gd (Nat.beq (shp (WK L xs) S14 x1).1 19 && Nat.ble 3 8) (bindR ((ev (WK L xs) d) 164 [vr x1, vi x4] S14) (fun r15 S16 => (bindR ((ev (WK L xs) d) 159 [vr 22, vi r3, vi r13, vi r15] S16) (fun r17 S18 => (LQ (WK L xs) (ev (WK L xs) d) 158 5 [some (vr 22), some (vr x1), some (vi x2), some (vi r17), some (vi (w32 (x4 + (1 : Int)))), none, none] [] S18)))))) else (LQ (WK L xs) (ev (WK L xs) d) 158 5 [some (vr 22), some (vr x1), some (vi x2), some (vi (8 : Int)), some (vi (w32 (x4 + (1 : Int)))), none, none] [] S14))))))))))))))))))))) else (some (x3, S2))) else (some (x3, S2)))))))) := by rw [LQ_eq, zc_158, zr_158]; rfl
theorem zc_159 : csOf 159 = cs_159 := rfl
theorem zr_159 : rtOf 159 = 0 := rfl
theorem zm_159 : mlOf 159 = 4 := rfl
set_option maxRecDepth 100000 in
set_option maxHeartbeats 4000000 in
/-- SupplyBook$Reader.barOfRule(IZI)I -/
theorem q_159 (L : Nat) (xs : Nat → Int) (d : Nat) (S : AH) (p1 : Int) (p2 : Int) (p3 : Int) : ev (WK L xs) (d + 1) 159 [vr 22, vi p1, vi p2, vi p3] S = (if p1 = (110 : Int) then (if p2 = 0 then (some ((0 : Int), S)) else (some ((5 : Int), S))) else (if p1 = (111 : Int) then (if p2 = 0 then (some ((5 : Int), S)) else (some ((0 : Int), S))) else (if p1 = (112 : Int) then (some ((0 : Int), S)) else (if p1 = (113 : Int) then (some ((0 : Int), S)) else (if p1 = (114 : Int) then (some ((0 : Int), S)) else (if p1 = (115 : Int) then (if p2 = 0 then (some ((0 : Int), S)) else (if 0 ≤ (4 : Int) ∧ (4 : Int) < (7 : Int) then (if (lcmp (S.2 26 4) p3) < 0 then (some ((6 : Int), S)) else (some ((0 : Int), S))) else none)) else (if p1 = (116 : Int) then (if p2 = 0 then (some ((0 : Int), S)) else (if (S.2 22 12) = 0 then (some ((7 : Int), S)) else (some ((0 : Int), S)))) else (some ((0 : Int), S))))))))) := by rw [ev_eq, zc_159, zr_159, zm_159]; rfl
theorem zc_161 : csOf 161 = cs_161 := rfl
theorem zr_161 : rtOf 161 = 0 := rfl
theorem zm_161 : mlOf 161 = 1 := rfl
set_option maxRecDepth 100000 in
set_option maxHeartbeats 4000000 in
/-- SupplyBook$Text.clauses()I -/
theorem q_161 (L : Nat) (xs : Nat → Int) (d : Nat) (S : AH) (o : Nat) : ev (WK L xs) (d + 1) 161 [vr o] S = (gd (Nat.beq (shp (WK L xs) S o).1 19) (gd (Nat.ble (shp (WK L xs) S (rdv (WK L xs) S o 1).toNat).1 6) (some (((shp (WK L xs) S (rdv (WK L xs) S o 1).toNat).2 : Int), S)))) := by rw [ev_eq, zc_161, zr_161, zm_161]; rfl
theorem zc_162 : csOf 162 = cs_162 := rfl
theorem zr_162 : rtOf 162 = 0 := rfl
theorem zm_162 : mlOf 162 = 3 := rfl
set_option maxRecDepth 100000 in
set_option maxHeartbeats 4000000 in
/-- SupplyBook$Text.letterOf(I)I -/
theorem q_162 (L : Nat) (xs : Nat → Int) (d : Nat) (S : AH) (o : Nat) (p1 : Int) : ev (WK L xs) (d + 1) 162 [vr o, vi p1] S = (gd (Nat.beq (shp (WK L xs) S o).1 19 && Nat.ble 0 8) (bindR ((ev (WK L xs) d) 163 [vr o, vi p1] S) (fun r1 S2 => (if r1 < 0 then (some ((-1 : Int), S2)) else (gd (Nat.beq (shp (WK L xs) S2 o).1 19) (gd (Nat.ble (shp (WK L xs) S2 (rdv (WK L xs) S2 o 0).toNat).1 6) (if r1 < ((shp (WK L xs) S2 (rdv (WK L xs) S2 o 0).toNat).2 : Int) then (gd (Nat.beq (shp (WK L xs) S2 o).1 19) (gd (Nat.ble (shp (WK L xs) S2 (rdv (WK L xs) S2 o 0).toNat).1 1) (if 0 ≤ r1 ∧ r1 < ((shp (WK L xs) S2 (rdv (WK L xs) S2 o 0).toNat).2 : Int) then (some ((iand (rdv (WK L xs) S2 (rdv (WK L xs) S2 o 0).toNat r1.toNat) (255 : Int)), S2)) else none))) else (some ((-1 : Int), S2))))))))) := by rw [ev_eq, zc_162, zr_162, zm_162]; rfl
theorem zc_163 : csOf 163 = cs_163 := rfl
theorem zr_163 : rtOf 163 = 0 := rfl
theorem zm_163 : mlOf 163 = 2 := rfl
set_option maxRecDepth 100000 in
set_option maxHeartbeats 4000000 in
/-- SupplyBook$Text.startOf(I)I -/
theorem q_163 (L : Nat) (xs : Nat → Int) (d : Nat) (S : AH) (o : Nat) (p1 : Int) : ev (WK L xs) (d + 1) 163 [vr o, vi p1] S = (if p1 < 0 then (gd (Nat.beq (shp (WK L xs) S o).1 19) (gd (Nat.ble (shp (WK L xs) S (rdv (WK L xs) S o 0).toNat).1 6) (some (((shp (WK L xs) S (rdv (WK L xs) S o 0).toNat).2 : Int), S)))) else (gd (Nat.beq (shp (WK L xs) S o).1 19) (gd (Nat.ble (shp (WK L xs) S (rdv (WK L xs) S o 1).toNat).1 6) (if p1 < ((shp (WK L xs) S (rdv (WK L xs) S o 1).toNat).2 : Int) then (gd (Nat.beq (shp (WK L xs) S o).1 19) (gd (Nat.beq (shp (WK L xs) S (rdv (WK L xs) S o 1).toNat).1 2) (if 0 ≤ p1 ∧ p1 < ((shp (WK L xs) S (rdv (WK L xs) S o 1).toNat).2 : Int) then (some ((rdv (WK L xs) S (rdv (WK L xs) S o 1).toNat p1.toNat), S)) else none))) else (gd (Nat.beq (shp (WK L xs) S o).1 19) (gd (Nat.ble (shp (WK L xs) S (rdv (WK L xs) S o 0).toNat).1 6) (some (((shp (WK L xs) S (rdv (WK L xs) S o 0).toNat).2 : Int), S)))))))) := by rw [ev_eq, zc_163, zr_163, zm_163]; rfl
theorem zc_164 : csOf 164 = cs_164 := rfl
theorem zr_164 : rtOf 164 = 0 := rfl
theorem zm_164 : mlOf 164 = 2 := rfl
set_option maxRecDepth 100000 in
set_option maxHeartbeats 4000000 in
/-- SupplyBook$Text.valueOf(I)I -/
theorem q_164 (L : Nat) (xs : Nat → Int) (d : Nat) (S : AH) (o : Nat) (p1 : Int) : ev (WK L xs) (d + 1) 164 [vr o, vi p1] S = (if p1 < 0 then (some ((0 : Int), S)) else (gd (Nat.beq (shp (WK L xs) S o).1 19) (gd (Nat.ble (shp (WK L xs) S (rdv (WK L xs) S o 2).toNat).1 6) (if p1 < ((shp (WK L xs) S (rdv (WK L xs) S o 2).toNat).2 : Int) then (gd (Nat.beq (shp (WK L xs) S o).1 19) (gd (Nat.beq (shp (WK L xs) S (rdv (WK L xs) S o 2).toNat).1 2) (if 0 ≤ p1 ∧ p1 < ((shp (WK L xs) S (rdv (WK L xs) S o 2).toNat).2 : Int) then (some ((rdv (WK L xs) S (rdv (WK L xs) S o 2).toNat p1.toNat), S)) else none))) else (some ((0 : Int), S)))))) := by rw [ev_eq, zc_164, zr_164, zm_164]; rfl
theorem zc_166 : csOf 166 = cs_166 := rfl
theorem zr_166 : rtOf 166 = 4 := rfl
theorem zm_166 : mlOf 166 = 1 := rfl
set_option maxRecDepth 100000 in
set_option maxHeartbeats 4000000 in
/-- SupplyBook$Votes.isFull()Z -/
theorem q_166 (L : Nat) (xs : Nat → Int) (d : Nat) (S : AH)  : ev (WK L xs) (d + 1) 166 [vr 36] S = (if (S.2 36 1) < (80 : Int) then (some ((0 : Int), S)) else (some ((1 : Int), S))) := by rw [ev_eq, zc_166, zr_166, zm_166]; rfl
theorem zc_167 : csOf 167 = cs_167 := rfl
theorem zr_167 : rtOf 167 = 0 := rfl
theorem zm_167 : mlOf 167 = 2 := rfl
set_option maxRecDepth 100000 in
set_option maxHeartbeats 4000000 in
/-- SupplyBook$Votes.addAuthority(LSupplyBook$Authority;)I -/
theorem q_167 (L : Nat) (xs : Nat → Int) (d : Nat) (S : AH) (p1 : Nat) : ev (WK L xs) (d + 1) 167 [vr 36, vr p1] S = (bindR ((ev (WK L xs) d) 166 [vr 36] S) (fun r1 S2 => (if r1 = 0 then (gd (Nat.beq (shp (WK L xs) S2 p1).1 11) (if 0 ≤ (S2.2 36 1) ∧ (S2.2 36 1) < (80 : Int) then (some ((w32 ((w32 ((S2.2 36 1) + (1 : Int))) - (1 : Int))), (wr (wr S2 37 (S2.2 36 1).toNat (p1 : Int)) 36 1 (w32 ((S2.2 36 1) + (1 : Int)))))) else none)) else (some ((-1 : Int), S2))))) := by rw [ev_eq, zc_167, zr_167, zm_167]; rfl
theorem zc_168 : csOf 168 = cs_168 := rfl
theorem zr_168 : rtOf 168 = 2 := rfl
theorem zm_168 : mlOf 168 = 2 := rfl
set_option maxRecDepth 100000 in
set_option maxHeartbeats 4000000 in
/-- SupplyBook$Votes.at(I)LSupplyBook$Authority; -/
theorem q_168 (L : Nat) (xs : Nat → Int) (d : Nat) (S : AH) (p1 : Int) : ev (WK L xs) (d + 1) 168 [vr 36, vi p1] S = (if p1 < 0 then (some ((0 : Int), S)) else (if p1 < (S.2 36 1) then (if 0 ≤ p1 ∧ p1 < (80 : Int) then (some (((S.2 37 p1.toNat).toNat : Int), S)) else none) else (some ((0 : Int), S)))) := by rw [ev_eq, zc_168, zr_168, zm_168]; rfl
theorem zc_169 : csOf 169 = cs_169 := rfl
theorem zr_169 : rtOf 169 = 1 := rfl
theorem zm_169 : mlOf 169 = 6 := rfl
set_option maxRecDepth 100000 in
set_option maxHeartbeats 4000000 in
/-- SupplyBook$Votes.advancesOf(I)J -/
theorem q_169 (L : Nat) (xs : Nat → Int) (d : Nat) (S : AH) (p1 : Int) : ev (WK L xs) (d + 1) 169 [vr 36, vi p1] S = (LQ (WK L xs) (ev (WK L xs) d) 169 5 [some (vr 36), some (vi p1), some (vl (0 : Int)), none, some (vi (0 : Int)), none] [] S) := by rw [ev_eq, zc_169, zr_169, zm_169]; rfl
set_option maxRecDepth 100000 in
set_option maxHeartbeats 4000000 in
theorem q_169_5 (L : Nat) (xs : Nat → Int) (d : Nat) (S : AH) (x1 : Int) (x2 : Int) (x4 : Int) : LQ (WK L xs) (ev (WK L xs) d) 169 5 [some (vr 36), some (vi x1), some (vl x2), none, some (vi x4), none] [] S = (if x4 < (S.2 36 1) then (bindR ((ev (WK L xs) d) 168 [vr 36, vi x4] S) (fun r1 S2 => (if r1.toNat = 0 then (LQ (WK L xs) (ev (WK L xs) d) 169 5 [some (vr 36), some (vi x1), some (vl x2), none, some (vi (w32 (x4 + (1 : Int)))), none] [] S2) else (gd (!(Nat.beq r1.toNat 14)) (gd (Nat.beq (shp (WK L xs) S2 r1.toNat).1 11) (if (rdv (WK L xs) S2 r1.toNat 0) = (4 : Int) then (gd (Nat.beq (shp (WK L xs) S2 r1.toNat).1 11) (if (rdv (WK L xs) S2 r1.toNat 3) = x1 then (gd (Nat.beq (shp (WK L xs) S2 r1.toNat).1 11) (LQ (WK L xs) (ev (WK L xs) d) 169 5 [some (vr 36), some (vi x1), some (vl (w64 (x2 + (rdv (WK L xs) S2 r1.toNat 2)))), none, some (vi (w32 (x4 + (1 : Int)))), none] [] S2)) else (LQ (WK L xs) (ev (WK L xs) d) 169 5 [some (vr 36), some (vi x1), some (vl x2), none, some (vi (w32 (x4 + (1 : Int)))), none] [] S2))) else (LQ (WK L xs) (ev (WK L xs) d) 169 5 [some (vr 36), some (vi x1), some (vl x2), none, some (vi (w32 (x4 + (1 : Int)))), none] [] S2))))))) else (some (x2, S))) := by rw [LQ_eq, zc_169, zr_169]; rfl
theorem zc_170 : csOf 170 = cs_170 := rfl
theorem zr_170 : rtOf 170 = 1 := rfl
theorem zm_170 : mlOf 170 = 6 := rfl
set_option maxRecDepth 100000 in
set_option maxHeartbeats 4000000 in
/-- SupplyBook$Votes.boundOf(II)J -/
theorem q_170 (L : Nat) (xs : Nat → Int) (d : Nat) (S : AH) (p1 : Int) (p2 : Int) : ev (WK L xs) (d + 1) 170 [vr 36, vi p1, vi p2] S = (LQ (WK L xs) (ev (WK L xs) d) 170 5 [some (vr 36), some (vi p1), some (vi p2), some (vl (0 : Int)), none, some (vi (0 : Int))] [] S) := by rw [ev_eq, zc_170, zr_170, zm_170]; rfl
set_option maxRecDepth 100000 in
set_option maxHeartbeats 4000000 in
theorem q_170_5 (L : Nat) (xs : Nat → Int) (d : Nat) (S : AH) (x1 : Int) (x2 : Int) (x3 : Int) (x5 : Int) : LQ (WK L xs) (ev (WK L xs) d) 170 5 [some (vr 36), some (vi x1), some (vi x2), some (vl x3), none, some (vi x5)] [] S = (if x5 < (S.2 36 7) then (if 0 ≤ x5 ∧ x5 < (20 : Int) then (if (S.2 38 x5.toNat) = x1 then (bindR ((ev (WK L xs) d) 171 [vr 36, vi x5, vi x2] S) (fun r1 S2 => (LQ (WK L xs) (ev (WK L xs) d) 170 5 [some (vr 36), some (vi x1), some (vi x2), some (vl (w64 (x3 + r1))), none, some (vi (w32 (x5 + (1 : Int))))] [] S2))) else (LQ (WK L xs) (ev (WK L xs) d) 170 5 [some (vr 36), some (vi x1), some (vi x2), some (vl x3), none, some (vi (w32 (x5 + (1 : Int))))] [] S)) else none) else (some (x3, S))) := by rw [LQ_eq, zc_170, zr_170]; rfl
theorem zc_171 : csOf 171 = cs_171 := rfl
theorem zr_171 : rtOf 171 = 1 := rfl
theorem zm_171 : mlOf 171 = 3 := rfl
set_option maxRecDepth 100000 in
set_option maxHeartbeats 4000000 in
/-- SupplyBook$Votes.boundBy(II)J -/
theorem q_171 (L : Nat) (xs : Nat → Int) (d : Nat) (S : AH) (p1 : Int) (p2 : Int) : ev (WK L xs) (d + 1) 171 [vr 36, vi p1, vi p2] S = (bindR ((ev (WK L xs) d) 172 [vr 36, vi p1] S) (fun r1 S2 => (if r1 = 0 then (some ((0 : Int), S2)) else (bindR ((ev (WK L xs) d) 14 [vi p2] S2) (fun r3 S4 => (if r3 = 0 then (some ((0 : Int), S4)) else (if 0 ≤ p1 ∧ p1 < (20 : Int) then (if p2 < (S4.2 40 p1.toNat) then (some ((0 : Int), S4)) else (if 0 ≤ p1 ∧ p1 < (20 : Int) then (if (S4.2 41 p1.toNat) < p2 then (some ((0 : Int), S4)) else (if 0 ≤ p1 ∧ p1 < (20 : Int) then (if 0 ≤ (w32 ((w32 (p1 * (10 : Int))) + p2)) ∧ (w32 ((w32 (p1 * (10 : Int))) + p2)) < (200 : Int) then (some ((w64 ((S4.2 39 p1.toNat) - (S4.2 42 (w32 ((w32 (p1 * (10 : Int))) + p2)).toNat))), S4)) else none) else none)) else none)) else none))))))) := by rw [ev_eq, zc_171, zr_171, zm_171]; rfl
theorem zc_172 : csOf 172 = cs_172 := rfl
theorem zr_172 : rtOf 172 = 4 := rfl
theorem zm_172 : mlOf 172 = 2 := rfl
set_option maxRecDepth 100000 in
set_option maxHeartbeats 4000000 in
/-- SupplyBook$Votes.isContract(I)Z -/
theorem q_172 (L : Nat) (xs : Nat → Int) (d : Nat) (S : AH) (p1 : Int) : ev (WK L xs) (d + 1) 172 [vr 36, vi p1] S = (if p1 < 0 then (some ((0 : Int), S)) else (if p1 < (S.2 36 7) then (some ((1 : Int), S)) else (some ((0 : Int), S)))) := by rw [ev_eq, zc_172, zr_172, zm_172]; rfl
theorem zc_173 : csOf 173 = cs_173 := rfl
theorem zr_173 : rtOf 173 = 4 := rfl
theorem zm_173 : mlOf 173 = 1 := rfl
set_option maxRecDepth 100000 in
set_option maxHeartbeats 4000000 in
/-- SupplyBook$Votes.contractsAreFull()Z -/
theorem q_173 (L : Nat) (xs : Nat → Int) (d : Nat) (S : AH)  : ev (WK L xs) (d + 1) 173 [vr 36] S = (if (S.2 36 7) < (20 : Int) then (some ((0 : Int), S)) else (some ((1 : Int), S))) := by rw [ev_eq, zc_173, zr_173, zm_173]; rfl
theorem zc_174 : csOf 174 = cs_174 := rfl
theorem zr_174 : rtOf 174 = 4 := rfl
theorem zm_174 : mlOf 174 = 5 := rfl
set_option maxRecDepth 100000 in
set_option maxHeartbeats 4000000 in
/-- SupplyBook$Votes.isOf(LSupplyBook$Authority;I)Z -/
theorem q_174 (L : Nat) (xs : Nat → Int) (d : Nat) (S : AH) (p1 : Nat) (p2 : Int) : ev (WK L xs) (d + 1) 174 [vr 36, vr p1, vi p2] S = (gd (Nat.beq (shp (WK L xs) S p1).1 11) (if (rdv (WK L xs) S p1 0) = (1 : Int) then (gd (Nat.beq (shp (WK L xs) S p1).1 11) (bindR ((ev (WK L xs) d) 168 [vr 36, vi (rdv (WK L xs) S p1 6)] S) (fun r1 S2 => (if r1.toNat = 0 then (LQ (WK L xs) (ev (WK L xs) d) 174 38 [none, some (vr p1), some (vi p2), none, none] [vi (0 : Int)] S2) else (gd (!(Nat.beq r1.toNat 14)) (gd (Nat.beq (shp (WK L xs) S2 r1.toNat).1 11) (if (rdv (WK L xs) S2 r1.toNat 0) = (3 : Int) then (LQ (WK L xs) (ev (WK L xs) d) 174 38 [none, some (vr p1), some (vi p2), none, none] [vi (1 : Int)] S2) else (LQ (WK L xs) (ev (WK L xs) d) 174 38 [none, some (vr p1), some (vi p2), none, none] [vi (0 : Int)] S2)))))))) else (if p1 = 0 then (LQ (WK L xs) (ev (WK L xs) d) 174 38 [none, some (vr p1), some (vi p2), none, none] [vi (0 : Int)] S) else (gd (!(Nat.beq p1 14)) (gd (Nat.beq (shp (WK L xs) S p1).1 11) (if (rdv (WK L xs) S p1 0) = (3 : Int) then (LQ (WK L xs) (ev (WK L xs) d) 174 38 [none, some (vr p1), some (vi p2), none, none] [vi (1 : Int)] S) else (LQ (WK L xs) (ev (WK L xs) d) 174 38 [none, some (vr p1), some (vi p2), none, none] [vi (0 : Int)] S))))))) := by rw [ev_eq, zc_174, zr_174, zm_174]; rfl
set_option maxRecDepth 100000 in
set_option maxHeartbeats 4000000 in
theorem q_174_38 (L : Nat) (xs : Nat → Int) (d : Nat) (S : AH) (x1 : Nat) (x2 : Int) (t0 : Int) : LQ (WK L xs) (ev (WK L xs) d) 174 38 [none, some (vr x1), some (vi x2), none, none] [vi t0] S = (if t0 = 0 then (gd (Nat.beq (shp (WK L xs) S x1).1 11) (if x2 = (rdv (WK L xs) S x1 3) then (some ((1 : Int), S)) else (some ((0 : Int), S)))) else (gd (Nat.beq (shp (WK L xs) S x1).1 11) (if x2 < (rdv (WK L xs) S x1 3) then (some ((0 : Int), S)) else (some ((1 : Int), S))))) := by rw [LQ_eq, zc_174, zr_174]; rfl
theorem zc_175 : csOf 175 = cs_175 := rfl
theorem zr_175 : rtOf 175 = 0 := rfl
theorem zm_175 : mlOf 175 = 5 := rfl
set_option maxRecDepth 100000 in
set_option maxHeartbeats 4000000 in
/-- SupplyBook$Votes.addContract(IIII)I -/
theorem q_175 (L : Nat) (xs : Nat → Int) (d : Nat) (S : AH) (p1 : Int) (p2 : Int) (p3 : Int) (p4 : Int) : ev (WK L xs) (d + 1) 175 [vr 36, vi p1, vi p2, vi p3, vi p4] S = (bindR ((ev (WK L xs) d) 173 [vr 36] S) (fun r1 S2 => (if r1 = 0 then (if 0 ≤ (S2.2 36 7) ∧ (S2.2 36 7) < (20 : Int) then (if 0 ≤ (S2.2 36 7) ∧ (S2.2 36 7) < (20 : Int) then (if 0 ≤ (S2.2 36 7) ∧ (S2.2 36 7) < (20 : Int) then (if 0 ≤ (S2.2 36 7) ∧ (S2.2 36 7) < (20 : Int) then (some ((w32 ((w32 ((S2.2 36 7) + (1 : Int))) - (1 : Int))), (wr (wr (wr (wr (wr S2 38 (S2.2 36 7).toNat p1) 39 (S2.2 36 7).toNat p2) 40 (S2.2 36 7).toNat p3) 41 (S2.2 36 7).toNat p4) 36 7 (w32 ((S2.2 36 7) + (1 : Int)))))) else none) else none) else none) else none) else (some ((-1 : Int), S2))))) := by rw [ev_eq, zc_175, zr_175, zm_175]; rfl
theorem zc_176 : csOf 176 = cs_176 := rfl
theorem zr_176 : rtOf 176 = 0 := rfl
theorem zm_176 : mlOf 176 = 2 := rfl
set_option maxRecDepth 100000 in
set_option maxHeartbeats 4000000 in
/-- SupplyBook$Votes.authorityOfContract(I)I -/
theorem q_176 (L : Nat) (xs : Nat → Int) (d : Nat) (S : AH) (p1 : Int) : ev (WK L xs) (d + 1) 176 [vr 36, vi p1] S = (bindR ((ev (WK L xs) d) 172 [vr 36, vi p1] S) (fun r1 S2 => (if r1 = 0 then (some ((-1 : Int), S2)) else (if 0 ≤ p1 ∧ p1 < (20 : Int) then (some ((S2.2 38 p1.toNat), S2)) else none)))) := by rw [ev_eq, zc_176, zr_176, zm_176]; rfl
theorem zc_177 : csOf 177 = cs_177 := rfl
theorem zr_177 : rtOf 177 = 9 := rfl
theorem zm_177 : mlOf 177 = 4 := rfl
set_option maxRecDepth 100000 in
set_option maxHeartbeats 4000000 in
/-- SupplyBook$Votes.payOfContract(III)V -/
theorem q_177 (L : Nat) (xs : Nat → Int) (d : Nat) (S : AH) (p1 : Int) (p2 : Int) (p3 : Int) : ev (WK L xs) (d + 1) 177 [vr 36, vi p1, vi p2, vi p3] S = (bindR ((ev (WK L xs) d) 172 [vr 36, vi p1] S) (fun r1 S2 => (if r1 = 0 then (some (0, S2)) else (bindR ((ev (WK L xs) d) 14 [vi p2] S2) (fun r3 S4 => (if r3 = 0 then (some (0, S4)) else (if 0 ≤ (w32 ((w32 (p1 * (10 : Int))) + p2)) ∧ (w32 ((w32 (p1 * (10 : Int))) + p2)) < (200 : Int) then (if 0 ≤ (w32 ((w32 (p1 * (10 : Int))) + p2)) ∧ (w32 ((w32 (p1 * (10 : Int))) + p2)) < (200 : Int) then (some (0, (wr S4 42 (w32 ((w32 (p1 * (10 : Int))) + p2)).toNat (w64 ((S4.2 42 (w32 ((w32 (p1 * (10 : Int))) + p2)).toNat) + p3))))) else none) else none))))))) := by rw [ev_eq, zc_177, zr_177, zm_177]; rfl
theorem zc_179 : csOf 179 = cs_179 := rfl
theorem zr_179 : rtOf 179 = 4 := rfl
theorem zm_179 : mlOf 179 = 5 := rfl
set_option maxRecDepth 100000 in
set_option maxHeartbeats 4000000 in
/-- SupplyBook$Weeks.addTax(III)Z -/
theorem q_179 (L : Nat) (xs : Nat → Int) (d : Nat) (S : AH) (p1 : Int) (p2 : Int) (p3 : Int) : ev (WK L xs) (d + 1) 179 [vr 54, vi p1, vi p2, vi p3] S = (bindR ((ev (WK L xs) d) 37 [vi p1] S) (fun r1 S2 => (if r1 = 0 then (some ((0 : Int), S2)) else (bindR ((ev (WK L xs) d) 3 [vi p2] S2) (fun r3 S4 => (if r3 = 0 then (some ((0 : Int), S4)) else (bindR ((ev (WK L xs) d) 17 [vi p2] S4) (fun r5 S6 => (bindR ((ev (WK L xs) d) 38 [vi p2] S6) (fun r7 S8 => (bindR ((ev (WK L xs) d) 180 [vr 54, vi p1, vi r5, vi r7] S8) (fun r9 S10 => (if 0 ≤ r9 ∧ r9 < (3120 : Int) then (if 0 < (lcmp (w64 ((S10.2 55 r9.toNat) + p3)) (1000000000 : Int)) then (some ((0 : Int), S10)) else (if 0 ≤ r9 ∧ r9 < (3120 : Int) then (if 0 ≤ r9 ∧ r9 < (3120 : Int) then (some ((1 : Int), (wr (wr S10 55 r9.toNat (w32 ((S10.2 55 r9.toNat) + p3))) 54 1 (w64 ((S10.2 54 1) + p3))))) else none) else none)) else none))))))))))))) := by rw [ev_eq, zc_179, zr_179, zm_179]; rfl
theorem zc_180 : csOf 180 = cs_180 := rfl
theorem zr_180 : rtOf 180 = 0 := rfl
theorem zm_180 : mlOf 180 = 4 := rfl
set_option maxRecDepth 100000 in
set_option maxHeartbeats 4000000 in
/-- SupplyBook$Weeks.placeOf(III)I -/
theorem q_180 (L : Nat) (xs : Nat → Int) (d : Nat) (S : AH) (p1 : Int) (p2 : Int) (p3 : Int) : ev (WK L xs) (d + 1) 180 [vr 54, vi p1, vi p2, vi p3] S = (some ((w32 ((w32 ((w32 ((w32 (p1 * (10 : Int))) + p2)) * (52 : Int))) + p3)), S)) := by rw [ev_eq, zc_180, zr_180, zm_180]; rfl
theorem zc_181 : csOf 181 = cs_181 := rfl
theorem zr_181 : rtOf 181 = 1 := rfl
theorem zm_181 : mlOf 181 = 4 := rfl
set_option maxRecDepth 100000 in
set_option maxHeartbeats 4000000 in
/-- SupplyBook$Weeks.arrivedIn(III)J -/
theorem q_181 (L : Nat) (xs : Nat → Int) (d : Nat) (S : AH) (p1 : Int) (p2 : Int) (p3 : Int) : ev (WK L xs) (d + 1) 181 [vr 54, vi p1, vi p2, vi p3] S = (bindR ((ev (WK L xs) d) 37 [vi p1] S) (fun r1 S2 => (if r1 = 0 then (some ((0 : Int), S2)) else (bindR ((ev (WK L xs) d) 14 [vi p2] S2) (fun r3 S4 => (if r3 = 0 then (some ((0 : Int), S4)) else (bindR ((ev (WK L xs) d) 40 [vi p3] S4) (fun r5 S6 => (if r5 = 0 then (some ((0 : Int), S6)) else (bindR ((ev (WK L xs) d) 180 [vr 54, vi p1, vi p2, vi p3] S6) (fun r7 S8 => (if 0 ≤ r7 ∧ r7 < (3120 : Int) then (some ((S8.2 55 r7.toNat), S8)) else none)))))))))))) := by rw [ev_eq, zc_181, zr_181, zm_181]; rfl
theorem zc_182 : csOf 182 = cs_182 := rfl
theorem zr_182 : rtOf 182 = 1 := rfl
theorem zm_182 : mlOf 182 = 21 := rfl
set_option maxRecDepth 100000 in
set_option maxHeartbeats 4000000 in
/-- SupplyBook$Weeks.foreseen(IIII)J -/
theorem q_182 (L : Nat) (xs : Nat → Int) (d : Nat) (S : AH) (p1 : Int) (p2 : Int) (p3 : Int) (p4 : Int) : ev (WK L xs) (d + 1) 182 [vr 54, vi p1, vi p2, vi p3, vi p4] S = (bindR ((ev (WK L xs) d) 17 [vi p4] S) (fun r1 S2 => (bindR ((ev (WK L xs) d) 181 [vr 54, vi p1, vi (w32 (r1 - (1 : Int))), vi p2] S2) (fun r3 S4 => (bindR ((ev (WK L xs) d) 38 [vi p4] S4) (fun r5 S6 => (LQ (WK L xs) (ev (WK L xs) d) 182 44 [some (vr 54), some (vi p1), none, some (vi p3), some (vi p4), some (vi r1), some (vl r3), none, some (vl (0 : Int)), none, some (vl (0 : Int)), none, some (vl (0 : Int)), none, some (vl (0 : Int)), none, some (vi (max (0 : Int) (w32 (r5 - (4 : Int))))), none, none, none, none] [] S6))))))) := by rw [ev_eq, zc_182, zr_182, zm_182]; rfl
set_option maxRecDepth 100000 in
set_option maxHeartbeats 4000000 in
theorem q_182_44 (L : Nat) (xs : Nat → Int) (d : Nat) (S : AH) (x1 : Int) (x3 : Int) (x4 : Int) (x5 : Int) (x6 : Int) (x8 : Int) (x10 : Int) (x12 : Int) (x14 : Int) (x16 : Int) : LQ (WK L xs) (ev (WK L xs) d) 182 44 [some (vr 54), some (vi x1), none, some (vi x3), some (vi x4), some (vi x5), some (vl x6), none, some (vl x8), none, some (vl x10), none, some (vl x12), none, some (vl x14), none, some (vi x16), none, none, none, none] [] S = (bindR ((ev (WK L xs) d) 38 [vi x4] S) (fun r1 S2 => (if x16 < r1 then (bindR ((ev (WK L xs) d) 181 [vr 54, vi x1, vi (w32 (x5 - (1 : Int))), vi x16] S2) (fun r3 S4 => (if 0 < (lcmp r3 (0 : Int)) then (bindR ((ev (WK L xs) d) 181 [vr 54, vi x1, vi x5, vi x16] S4) (fun r5 S6 => (if r3 = 0 then none else (if (lcmp x8 (0 : Int)) = 0 then (LQ (WK L xs) (ev (WK L xs) d) 182 110 [some (vr 54), some (vi x1), none, some (vi x3), some (vi x4), some (vi x5), some (vl x6), none, some (vl x8), none, some (vl x10), none, none, none, some (vl x14), none, some (vi x16), some (vl r3), none, some (vl (ldiv (w64 (x6 * r5)) r3)), none] [vl (ldiv (w64 (x6 * r5)) r3)] S6) else (LQ (WK L xs) (ev (WK L xs) d) 182 110 [some (vr 54), some (vi x1), none, some (vi x3), some (vi x4), some (vi x5), some (vl x6), none, some (vl x8), none, some (vl x10), none, none, none, some (vl x14), none, some (vi x16), some (vl r3), none, some (vl (ldiv (w64 (x6 * r5)) r3)), none] [vl (min x12 (ldiv (w64 (x6 * r5)) r3))] S6))))) else (LQ (WK L xs) (ev (WK L xs) d) 182 44 [some (vr 54), some (vi x1), none, some (vi x3), some (vi x4), some (vi x5), some (vl x6), none, some (vl x8), none, some (vl x10), none, some (vl x12), none, some (vl x14), none, some (vi (w32 (x16 + (1 : Int)))), none, none, none, none] [] S4)))) else (if (lcmp x8 (0 : Int)) = 0 then (some (x6, S2)) else (if x3 = 0 then (if x8 = 0 then none else (some ((ldiv (w64 (x6 * x10)) x8), S2))) else (if x3 = (1 : Int) then (some (x12, S2)) else (some (x14, S2)))))))) := by rw [LQ_eq, zc_182, zr_182]; rfl
set_option maxRecDepth 100000 in
set_option maxHeartbeats 4000000 in
theorem q_182_110 (L : Nat) (xs : Nat → Int) (d : Nat) (S : AH) (x1 : Int) (x3 : Int) (x4 : Int) (x5 : Int) (x6 : Int) (x8 : Int) (x10 : Int) (x14 : Int) (x16 : Int) (x17 : Int) (x19 : Int) (t0 : Int) : LQ (WK L xs) (ev (WK L xs) d) 182 110 [some (vr 54), some (vi x1), none, some (vi x3), some (vi x4), some (vi x5), some (vl x6), none, some (vl x8), none, some (vl x10), none, none, none, some (vl x14), none, some (vi x16), some (vl x17), none, some (vl x19), none] [vl t0] S = (bindR ((ev (WK L xs) d) 181 [vr 54, vi x1, vi x5, vi x16] S) (fun r1 S2 => (LQ (WK L xs) (ev (WK L xs) d) 182 44 [some (vr 54), some (vi x1), none, some (vi x3), some (vi x4), some (vi x5), some (vl x6), none, some (vl (w64 (x8 + x17))), none, some (vl (w64 (x10 + r1))), none, some (vl t0), none, some (vl (max x14 x19)), none, some (vi (w32 (x16 + (1 : Int)))), none, none, none, none] [] S2))) := by rw [LQ_eq, zc_182, zr_182]; rfl
theorem zc_183 : csOf 183 = cs_183 := rfl
theorem zr_183 : rtOf 183 = 9 := rfl
theorem zm_183 : mlOf 183 = 4 := rfl
set_option maxRecDepth 100000 in
set_option maxHeartbeats 4000000 in
/-- SupplyBook$Weeks.addDue(III)V -/
theorem q_183 (L : Nat) (xs : Nat → Int) (d : Nat) (S : AH) (p1 : Int) (p2 : Int) (p3 : Int) : ev (WK L xs) (d + 1) 183 [vr 54, vi p1, vi p2, vi p3] S = (bindR ((ev (WK L xs) d) 14 [vi p1] S) (fun r1 S2 => (if r1 = 0 then (some (0, S2)) else (bindR ((ev (WK L xs) d) 40 [vi p2] S2) (fun r3 S4 => (if r3 = 0 then (some (0, S4)) else (if 0 ≤ (w32 ((w32 (p1 * (52 : Int))) + p2)) ∧ (w32 ((w32 (p1 * (52 : Int))) + p2)) < (520 : Int) then (if 0 ≤ (w32 ((w32 (p1 * (52 : Int))) + p2)) ∧ (w32 ((w32 (p1 * (52 : Int))) + p2)) < (520 : Int) then (some (0, (wr S4 56 (w32 ((w32 (p1 * (52 : Int))) + p2)).toNat (w64 ((S4.2 56 (w32 ((w32 (p1 * (52 : Int))) + p2)).toNat) + p3))))) else none) else none))))))) := by rw [ev_eq, zc_183, zr_183, zm_183]; rfl
theorem zc_184 : csOf 184 = cs_184 := rfl
theorem zr_184 : rtOf 184 = 9 := rfl
theorem zm_184 : mlOf 184 = 12 := rfl
set_option maxRecDepth 100000 in
set_option maxHeartbeats 4000000 in
/-- SupplyBook$Weeks.reckonWorst(JI)V -/
theorem q_184 (L : Nat) (xs : Nat → Int) (d : Nat) (S : AH) (p1 : Int) (p2 : Int) : ev (WK L xs) (d + 1) 184 [vr 54, vl p1, vi p2] S = (bindR ((ev (WK L xs) d) 38 [vi p2] S) (fun r1 S2 => (LQ (WK L xs) (ev (WK L xs) d) 184 14 [some (vr 54), none, none, some (vi p2), some (vl (0 : Int)), none, some (vl p1), none, some (vi (w32 (r1 + (1 : Int)))), none, none, none] [] S2))) := by rw [ev_eq, zc_184, zr_184, zm_184]; rfl
set_option maxRecDepth 100000 in
set_option maxHeartbeats 4000000 in
theorem q_184_14 (L : Nat) (xs : Nat → Int) (d : Nat) (S : AH) (x3 : Int) (x4 : Int) (x6 : Int) (x8 : Int) : LQ (WK L xs) (ev (WK L xs) d) 184 14 [some (vr 54), none, none, some (vi x3), some (vl x4), none, some (vl x6), none, some (vi x8), none, none, none] [] S = (if x8 < (52 : Int) then (LQ (WK L xs) (ev (WK L xs) d) 184 24 [some (vr 54), none, none, some (vi x3), some (vl x4), none, some (vl x6), none, some (vi x8), some (vi (0 : Int)), none, none] [] S) else (some (0, S))) := by rw [LQ_eq, zc_184, zr_184]; rfl
set_option maxRecDepth 100000 in
set_option maxHeartbeats 4000000 in
theorem q_184_24 (L : Nat) (xs : Nat → Int) (d : Nat) (S : AH) (x3 : Int) (x4 : Int) (x6 : Int) (x8 : Int) (x9 : Int) : LQ (WK L xs) (ev (WK L xs) d) 184 24 [some (vr 54), none, none, some (vi x3), some (vl x4), none, some (vl x6), none, some (vi x8), some (vi x9), none, none] [] S = (if x9 < (6 : Int) then (bindR ((ev (WK L xs) d) 182 [vr 54, vi x9, vi x8, vi (1 : Int), vi x3] S) (fun r5 S6 => (LQ (WK L xs) (ev (WK L xs) d) 184 24 [some (vr 54), none, none, some (vi x3), some (vl (w64 (x4 + (ldiv r5 (1000000000 : Int))))), none, some (vl (w64 (x6 + (Int.tmod r5 (1000000000 : Int))))), none, some (vi x8), some (vi (w32 (x9 + (1 : Int)))), none, none] [] S6))) else (bindR ((ev (WK L xs) d) 17 [vi x3] S) (fun r1 S2 => (bindR ((ev (WK L xs) d) 185 [vr 54, vi r1, vi x8] S2) (fun r3 S4 => (if 0 ≤ x8 ∧ x8 < (52 : Int) then (if 0 ≤ x8 ∧ x8 < (52 : Int) then (LQ (WK L xs) (ev (WK L xs) d) 184 14 [some (vr 54), none, none, some (vi x3), some (vl x4), none, some (vl (w64 (x6 - r3))), none, some (vi (w32 (x8 + (1 : Int)))), none, none, none] [] (wr (wr S4 61 x8.toNat x4) 150 x8.toNat (w64 (x6 - r3)))) else none) else none)))))) := by rw [LQ_eq, zc_184, zr_184]; rfl
theorem zc_185 : csOf 185 = cs_185 := rfl
theorem zr_185 : rtOf 185 = 1 := rfl
theorem zm_185 : mlOf 185 = 3 := rfl
set_option maxRecDepth 100000 in
set_option maxHeartbeats 4000000 in
/-- SupplyBook$Weeks.dueIn(II)J -/
theorem q_185 (L : Nat) (xs : Nat → Int) (d : Nat) (S : AH) (p1 : Int) (p2 : Int) : ev (WK L xs) (d + 1) 185 [vr 54, vi p1, vi p2] S = (bindR ((ev (WK L xs) d) 14 [vi p1] S) (fun r1 S2 => (if r1 = 0 then (some ((0 : Int), S2)) else (bindR ((ev (WK L xs) d) 40 [vi p2] S2) (fun r3 S4 => (if r3 = 0 then (some ((0 : Int), S4)) else (if 0 ≤ (w32 ((w32 (p1 * (52 : Int))) + p2)) ∧ (w32 ((w32 (p1 * (52 : Int))) + p2)) < (520 : Int) then (some ((S4.2 56 (w32 ((w32 (p1 * (52 : Int))) + p2)).toNat), S4)) else none))))))) := by rw [ev_eq, zc_185, zr_185, zm_185]; rfl
theorem zc_186 : csOf 186 = cs_186 := rfl
theorem zr_186 : rtOf 186 = 0 := rfl
theorem zm_186 : mlOf 186 = 6 := rfl
set_option maxRecDepth 100000 in
set_option maxHeartbeats 4000000 in
/-- SupplyBook$Weeks.firstShort(II)I -/
theorem q_186 (L : Nat) (xs : Nat → Int) (d : Nat) (S : AH) (p1 : Int) (p2 : Int) : ev (WK L xs) (d + 1) 186 [vr 54, vi p1, vi p2] S = (bindR ((ev (WK L xs) d) 38 [vi p2] S) (fun r1 S2 => (bindR ((ev (WK L xs) d) 187 [vr 54, vi p1, vi r1] S2) (fun r3 S4 => (bindR ((ev (WK L xs) d) 38 [vi p2] S4) (fun r5 S6 => (LQ (WK L xs) (ev (WK L xs) d) 186 19 [some (vr 54), none, none, some (vl (0 : Int)), none, some (vi (w32 (r5 + (1 : Int))))] [] S6))))))) := by rw [ev_eq, zc_186, zr_186, zm_186]; rfl
set_option maxRecDepth 100000 in
set_option maxHeartbeats 4000000 in
theorem q_186_19 (L : Nat) (xs : Nat → Int) (d : Nat) (S : AH) (x3 : Int) (x5 : Int) : LQ (WK L xs) (ev (WK L xs) d) 186 19 [some (vr 54), none, none, some (vl x3), none, some (vi x5)] [] S = (if x5 < (52 : Int) then (if 0 ≤ x5 ∧ x5 < (52 : Int) then (if 0 ≤ x5 ∧ x5 < (52 : Int) then (if 0 ≤ x5 ∧ x5 < (52 : Int) then (bindR ((ev (WK L xs) d) 337 [vl (w64 ((S.2 150 x5.toNat) + (w64 (x3 + (S.2 62 x5.toNat))))), vl (1000000000 : Int)] S) (fun r1 S2 => (if (lcmp (w64 ((S.2 61 x5.toNat) + r1)) (0 : Int)) < 0 then (some (x5, S2)) else (LQ (WK L xs) (ev (WK L xs) d) 186 19 [some (vr 54), none, none, some (vl (w64 (x3 + (S.2 62 x5.toNat)))), none, some (vi (w32 (x5 + (1 : Int))))] [] S2)))) else none) else none) else none) else (some ((-1 : Int), S))) := by rw [LQ_eq, zc_186, zr_186]; rfl
theorem zc_187 : csOf 187 = cs_187 := rfl
theorem zr_187 : rtOf 187 = 9 := rfl
theorem zm_187 : mlOf 187 = 6 := rfl
set_option maxRecDepth 100000 in
set_option maxHeartbeats 4000000 in
/-- SupplyBook$Weeks.reckonFlow(II)V -/
theorem q_187 (L : Nat) (xs : Nat → Int) (d : Nat) (S : AH) (p1 : Int) (p2 : Int) : ev (WK L xs) (d + 1) 187 [vr 54, vi p1, vi p2] S = (bindR ((ev (WK L xs) d) 334 [vr 62, vl (0 : Int)] S) (fun r1 S2 => (LQ (WK L xs) (ev (WK L xs) d) 187 10 [some (vr 54), some (vi p1), some (vi p2), some (vi (0 : Int)), none, none] [] S2))) := by rw [ev_eq, zc_187, zr_187, zm_187]; rfl
set_option maxRecDepth 100000 in
set_option maxHeartbeats 4000000 in
theorem q_187_10 (L : Nat) (xs : Nat → Int) (d : Nat) (S : AH) (x1 : Int) (x2 : Int) (x3 : Int) : LQ (WK L xs) (ev (WK L xs) d) 187 10 [some (vr 54), some (vi x1), some (vi x2), some (vi x3), none, none] [] S = (if x3 < (S.2 54 7) then (if 0 ≤ x3 ∧ x3 < (9 : Int) then (if (iand (ishr x1 x3) (1 : Int)) = 0 then (LQ (WK L xs) (ev (WK L xs) d) 187 10 [some (vr 54), some (vi x1), some (vi x2), some (vi (w32 (x3 + (1 : Int)))), none, none] [] S) else (if x2 < (S.2 58 x3.toNat) then (bindR ((ev (WK L xs) d) 40 [vi (S.2 58 x3.toNat)] S) (fun r1 S2 => (if r1 = 0 then (LQ (WK L xs) (ev (WK L xs) d) 187 10 [some (vr 54), some (vi x1), some (vi x2), some (vi (w32 (x3 + (1 : Int)))), none, none] [] S2) else (if 0 ≤ (S.2 58 x3.toNat) ∧ (S.2 58 x3.toNat) < (52 : Int) then (if 0 ≤ x3 ∧ x3 < (9 : Int) then (if 0 ≤ (S.2 58 x3.toNat) ∧ (S.2 58 x3.toNat) < (52 : Int) then (if 0 ≤ x3 ∧ x3 < (9 : Int) then (bindR ((ev (WK L xs) d) 40 [vi (w32 ((S.2 58 x3.toNat) + (S2.2 59 x3.toNat)))] (wr S2 62 (S.2 58 x3.toNat).toNat (w64 ((S2.2 62 (S.2 58 x3.toNat).toNat) + (S2.2 57 x3.toNat))))) (fun r3 S4 => (if r3 = 0 then (LQ (WK L xs) (ev (WK L xs) d) 187 10 [some (vr 54), some (vi x1), some (vi x2), some (vi (w32 (x3 + (1 : Int)))), none, none] [] S4) else (if 0 ≤ (w32 ((S.2 58 x3.toNat) + (S2.2 59 x3.toNat))) ∧ (w32 ((S.2 58 x3.toNat) + (S2.2 59 x3.toNat))) < (52 : Int) then (if 0 ≤ x3 ∧ x3 < (9 : Int) then (if 0 ≤ x3 ∧ x3 < (9 : Int) then (if 0 ≤ (w32 ((S.2 58 x3.toNat) + (S2.2 59 x3.toNat))) ∧ (w32 ((S.2 58 x3.toNat) + (S2.2 59 x3.toNat))) < (52 : Int) then (LQ (WK L xs) (ev (WK L xs) d) 187 10 [some (vr 54), some (vi x1), some (vi x2), some (vi (w32 (x3 + (1 : Int)))), none, none] [] (wr S4 62 (w32 ((S.2 58 x3.toNat) + (S2.2 59 x3.toNat))).toNat (w64 ((S4.2 62 (w32 ((S.2 58 x3.toNat) + (S2.2 59 x3.toNat))).toNat) - (w64 ((S4.2 57 x3.toNat) + (S4.2 60 x3.toNat))))))) else none) else none) else none) else none)))) else none) else none) else none) else none)))) else (LQ (WK L xs) (ev (WK L xs) d) 187 10 [some (vr 54), some (vi x1), some (vi x2), some (vi (w32 (x3 + (1 : Int)))), none, none] [] S))) else none) else (some (0, S))) := by rw [LQ_eq, zc_187, zr_187]; rfl
theorem zc_188 : csOf 188 = cs_188 := rfl
theorem zr_188 : rtOf 188 = 0 := rfl
theorem zm_188 : mlOf 188 = 5 := rfl
set_option maxRecDepth 100000 in
set_option maxHeartbeats 4000000 in
/-- SupplyBook$Weeks.addOffer(IIII)I -/
theorem q_188 (L : Nat) (xs : Nat → Int) (d : Nat) (S : AH) (p1 : Int) (p2 : Int) (p3 : Int) (p4 : Int) : ev (WK L xs) (d + 1) 188 [vr 54, vi p1, vi p2, vi p3, vi p4] S = (if (S.2 54 7) < (9 : Int) then (if 0 ≤ (S.2 54 7) ∧ (S.2 54 7) < (9 : Int) then (if 0 ≤ (S.2 54 7) ∧ (S.2 54 7) < (9 : Int) then (if 0 ≤ (S.2 54 7) ∧ (S.2 54 7) < (9 : Int) then (if 0 ≤ (S.2 54 7) ∧ (S.2 54 7) < (9 : Int) then (some ((w32 ((w32 ((S.2 54 7) + (1 : Int))) - (1 : Int))), (wr (wr (wr (wr (wr S 57 (S.2 54 7).toNat p1) 58 (S.2 54 7).toNat p2) 59 (S.2 54 7).toNat p3) 60 (S.2 54 7).toNat p4) 54 7 (w32 ((S.2 54 7) + (1 : Int)))))) else none) else none) else none) else none) else (some ((-1 : Int), S))) := by rw [ev_eq, zc_188, zr_188, zm_188]; rfl
theorem zc_189 : csOf 189 = cs_189 := rfl
theorem zr_189 : rtOf 189 = 0 := rfl
theorem zm_189 : mlOf 189 = 9 := rfl
set_option maxRecDepth 100000 in
set_option maxHeartbeats 4000000 in
/-- SupplyBook$Weeks.cheapestPlan(I)I -/
theorem q_189 (L : Nat) (xs : Nat → Int) (d : Nat) (S : AH) (p1 : Int) : ev (WK L xs) (d + 1) 189 [vr 54, vi p1] S = (LQ (WK L xs) (ev (WK L xs) d) 189 7 [some (vr 54), some (vi p1), some (vi (-1 : Int)), some (vl (0 : Int)), none, some (vi (0 : Int)), none, none, none] [] S) := by rw [ev_eq, zc_189, zr_189, zm_189]; rfl
set_option maxRecDepth 100000 in
set_option maxHeartbeats 4000000 in
theorem q_189_7 (L : Nat) (xs : Nat → Int) (d : Nat) (S : AH) (x1 : Int) (x2 : Int) (x3 : Int) (x5 : Int) : LQ (WK L xs) (ev (WK L xs) d) 189 7 [some (vr 54), some (vi x1), some (vi x2), some (vl x3), none, some (vi x5), none, none, none] [] S = (if x5 < (ishl (1 : Int) (S.2 54 7)) then (bindR ((ev (WK L xs) d) 190 [vr 54, vi x5] S) (fun r1 S2 => (if x2 = (-1 : Int) then (LQ (WK L xs) (ev (WK L xs) d) 189 62 [some (vr 54), some (vi x1), some (vi x2), some (vl x3), none, some (vi x5), some (vl r1), none, none] [vi (1 : Int)] S2) else (if (lcmp r1 x3) < 0 then (LQ (WK L xs) (ev (WK L xs) d) 189 62 [some (vr 54), some (vi x1), some (vi x2), some (vl x3), none, some (vi x5), some (vl r1), none, none] [vi (1 : Int)] S2) else (if (lcmp r1 x3) = 0 then (bindR ((ev (WK L xs) d) 320 [vi x5] S2) (fun r3 S4 => (bindR ((ev (WK L xs) d) 320 [vi x2] S4) (fun r5 S6 => (if r3 < r5 then (LQ (WK L xs) (ev (WK L xs) d) 189 62 [some (vr 54), some (vi x1), some (vi x2), some (vl x3), none, some (vi x5), some (vl r1), none, none] [vi (1 : Int)] S6) else (LQ (WK L xs) (ev (WK L xs) d) 189 62 [some (vr 54), some (vi x1), some (vi x2), some (vl x3), none, some (vi x5), some (vl r1), none, none] [vi (0 : Int)] S6)))))) else (LQ (WK L xs) (ev (WK L xs) d) 189 62 [some (vr 54), some (vi x1), some (vi x2), some (vl x3), none, some (vi x5), some (vl r1), none, none] [vi (0 : Int)] S2)))))) else (some (x2, S))) := by rw [LQ_eq, zc_189, zr_189]; rfl
set_option maxRecDepth 100000 in
set_option maxHeartbeats 4000000 in
theorem q_189_62 (L : Nat) (xs : Nat → Int) (d : Nat) (S : AH) (x1 : Int) (x2 : Int) (x3 : Int) (x5 : Int) (x6 : Int) (t0 : Int) : LQ (WK L xs) (ev (WK L xs) d) 189 62 [some (vr 54), some (vi x1), some (vi x2), some (vl x3), none, some (vi x5), some (vl x6), none, none] [vi t0] S = (if t0 = 0 then (LQ (WK L xs) (ev (WK L xs) d) 189 7 [some (vr 54), some (vi x1), some (vi x2), some (vl x3), none, some (vi (w32 (x5 + (1 : Int)))), none, none, none] [] S) else (bindR ((ev (WK L xs) d) 186 [vr 54, vi x5, vi x1] S) (fun r1 S2 => (if r1 = (-1 : Int) then (LQ (WK L xs) (ev (WK L xs) d) 189 7 [some (vr 54), some (vi x1), some (vi x5), some (vl x6), none, some (vi (w32 (x5 + (1 : Int)))), none, none, none] [] S2) else (LQ (WK L xs) (ev (WK L xs) d) 189 7 [some (vr 54), some (vi x1), some (vi x2), some (vl x3), none, some (vi (w32 (x5 + (1 : Int)))), none, none, none] [] S2))))) := by rw [LQ_eq, zc_189, zr_189]; rfl
theorem zc_190 : csOf 190 = cs_190 := rfl
theorem zr_190 : rtOf 190 = 1 := rfl
theorem zm_190 : mlOf 190 = 5 := rfl
set_option maxRecDepth 100000 in
set_option maxHeartbeats 4000000 in
/-- SupplyBook$Weeks.costOf(I)J -/
theorem q_190 (L : Nat) (xs : Nat → Int) (d : Nat) (S : AH) (p1 : Int) : ev (WK L xs) (d + 1) 190 [vr 54, vi p1] S = (LQ (WK L xs) (ev (WK L xs) d) 190 5 [some (vr 54), some (vi p1), some (vl (0 : Int)), none, some (vi (0 : Int))] [] S) := by rw [ev_eq, zc_190, zr_190, zm_190]; rfl
set_option maxRecDepth 100000 in
set_option maxHeartbeats 4000000 in
theorem q_190_5 (L : Nat) (xs : Nat → Int) (d : Nat) (S : AH) (x1 : Int) (x2 : Int) (x4 : Int) : LQ (WK L xs) (ev (WK L xs) d) 190 5 [some (vr 54), some (vi x1), some (vl x2), none, some (vi x4)] [] S = (if x4 < (S.2 54 7) then (if (iand (ishr x1 x4) (1 : Int)) = 0 then (LQ (WK L xs) (ev (WK L xs) d) 190 5 [some (vr 54), some (vi x1), some (vl (w64 (x2 + (0 : Int)))), none, some (vi (w32 (x4 + (1 : Int))))] [] S) else (if 0 ≤ x4 ∧ x4 < (9 : Int) then (LQ (WK L xs) (ev (WK L xs) d) 190 5 [some (vr 54), some (vi x1), some (vl (w64 (x2 + (S.2 60 x4.toNat)))), none, some (vi (w32 (x4 + (1 : Int))))] [] S) else none)) else (some (x2, S))) := by rw [LQ_eq, zc_190, zr_190]; rfl
theorem zc_191 : csOf 191 = cs_191 := rfl
theorem zr_191 : rtOf 191 = 4 := rfl
theorem zm_191 : mlOf 191 = 2 := rfl
set_option maxRecDepth 100000 in
set_option maxHeartbeats 4000000 in
/-- SupplyBook$Weeks.isOfferSet(I)Z -/
theorem q_191 (L : Nat) (xs : Nat → Int) (d : Nat) (S : AH) (p1 : Int) : ev (WK L xs) (d + 1) 191 [vr 54, vi p1] S = (if p1 < 0 then (some ((0 : Int), S)) else (if p1 < (ishl (1 : Int) (S.2 54 7)) then (some ((1 : Int), S)) else (some ((0 : Int), S)))) := by rw [ev_eq, zc_191, zr_191, zm_191]; rfl
theorem zc_192 : csOf 192 = cs_192 := rfl
theorem zr_192 : rtOf 192 = 1 := rfl
theorem zm_192 : mlOf 192 = 5 := rfl
set_option maxRecDepth 100000 in
set_option maxHeartbeats 4000000 in
/-- SupplyBook$Weeks.duesOf(I)J -/
theorem q_192 (L : Nat) (xs : Nat → Int) (d : Nat) (S : AH) (p1 : Int) : ev (WK L xs) (d + 1) 192 [vr 54, vi p1] S = (LQ (WK L xs) (ev (WK L xs) d) 192 5 [some (vr 54), some (vi p1), some (vl (0 : Int)), none, some (vi (0 : Int))] [] S) := by rw [ev_eq, zc_192, zr_192, zm_192]; rfl
set_option maxRecDepth 100000 in
set_option maxHeartbeats 4000000 in
theorem q_192_5 (L : Nat) (xs : Nat → Int) (d : Nat) (S : AH) (x1 : Int) (x2 : Int) (x4 : Int) : LQ (WK L xs) (ev (WK L xs) d) 192 5 [some (vr 54), some (vi x1), some (vl x2), none, some (vi x4)] [] S = (if x4 < (52 : Int) then (bindR ((ev (WK L xs) d) 185 [vr 54, vi x1, vi x4] S) (fun r1 S2 => (LQ (WK L xs) (ev (WK L xs) d) 192 5 [some (vr 54), some (vi x1), some (vl (w64 (x2 + r1))), none, some (vi (w32 (x4 + (1 : Int))))] [] S2))) else (some (x2, S))) := by rw [LQ_eq, zc_192, zr_192]; rfl
theorem zc_320 : csOf 320 = cs_320 := rfl
theorem zr_320 : rtOf 320 = 0 := rfl
theorem zm_320 : mlOf 320 = 1 := rfl
set_option maxRecDepth 100000 in
set_option maxHeartbeats 4000000 in
/-- java/lang/Integer.bitCount(I)I -/
theorem q_320 (L : Nat) (xs : Nat → Int) (d : Nat) (S : AH) (p1 : Int) : ev (WK L xs) (d + 1) 320 [vi p1] S = (some ((iand (w32 ((w32 ((iand (w32 ((w32 ((iand (w32 (p1 - (iand (iushr p1 (1 : Int)) (1431655765 : Int)))) (858993459 : Int)) + (iand (iushr (w32 (p1 - (iand (iushr p1 (1 : Int)) (1431655765 : Int)))) (2 : Int)) (858993459 : Int)))) + (iushr (w32 ((iand (w32 (p1 - (iand (iushr p1 (1 : Int)) (1431655765 : Int)))) (858993459 : Int)) + (iand (iushr (w32 (p1 - (iand (iushr p1 (1 : Int)) (1431655765 : Int)))) (2 : Int)) (858993459 : Int)))) (4 : Int)))) (252645135 : Int)) + (iushr (iand (w32 ((w32 ((iand (w32 (p1 - (iand (iushr p1 (1 : Int)) (1431655765 : Int)))) (858993459 : Int)) + (iand (iushr (w32 (p1 - (iand (iushr p1 (1 : Int)) (1431655765 : Int)))) (2 : Int)) (858993459 : Int)))) + (iushr (w32 ((iand (w32 (p1 - (iand (iushr p1 (1 : Int)) (1431655765 : Int)))) (858993459 : Int)) + (iand (iushr (w32 (p1 - (iand (iushr p1 (1 : Int)) (1431655765 : Int)))) (2 : Int)) (858993459 : Int)))) (4 : Int)))) (252645135 : Int)) (8 : Int)))) + (iushr (w32 ((iand (w32 ((w32 ((iand (w32 (p1 - (iand (iushr p1 (1 : Int)) (1431655765 : Int)))) (858993459 : Int)) + (iand (iushr (w32 (p1 - (iand (iushr p1 (1 : Int)) (1431655765 : Int)))) (2 : Int)) (858993459 : Int)))) + (iushr (w32 ((iand (w32 (p1 - (iand (iushr p1 (1 : Int)) (1431655765 : Int)))) (858993459 : Int)) + (iand (iushr (w32 (p1 - (iand (iushr p1 (1 : Int)) (1431655765 : Int)))) (2 : Int)) (858993459 : Int)))) (4 : Int)))) (252645135 : Int)) + (iushr (iand (w32 ((w32 ((iand (w32 (p1 - (iand (iushr p1 (1 : Int)) (1431655765 : Int)))) (858993459 : Int)) + (iand (iushr (w32 (p1 - (iand (iushr p1 (1 : Int)) (1431655765 : Int)))) (2 : Int)) (858993459 : Int)))) + (iushr (w32 ((iand (w32 (p1 - (iand (iushr p1 (1 : Int)) (1431655765 : Int)))) (858993459 : Int)) + (iand (iushr (w32 (p1 - (iand (iushr p1 (1 : Int)) (1431655765 : Int)))) (2 : Int)) (858993459 : Int)))) (4 : Int)))) (252645135 : Int)) (8 : Int)))) (16 : Int)))) (63 : Int)), S)) := by rw [ev_eq, zc_320, zr_320, zm_320]; rfl
theorem zc_321 : csOf 321 = cs_321 := rfl
theorem zr_321 : rtOf 321 = 0 := rfl
theorem zm_321 : mlOf 321 = 1 := rfl
set_option maxRecDepth 100000 in
set_option maxHeartbeats 4000000 in
/-- java/lang/String.length()I -/
theorem q_321 (L : Nat) (xs : Nat → Int) (d : Nat) (S : AH) (o : Nat) : ev (WK L xs) (d + 1) 321 [vr o] S = (gd (Nat.beq (shp (WK L xs) S o).1 23) (gd (Nat.ble (shp (WK L xs) S (rdv (WK L xs) S o 0).toNat).1 6) (gd (Nat.beq (shp (WK L xs) S o).1 23 && Nat.ble 1 8) (bindR ((ev (WK L xs) d) 322 [vr o] S) (fun r1 S2 => (some ((ishr ((shp (WK L xs) S (rdv (WK L xs) S o 0).toNat).2 : Int) r1), S2))))))) := by rw [ev_eq, zc_321, zr_321, zm_321]; rfl
theorem zc_322 : csOf 322 = cs_322 := rfl
theorem zr_322 : rtOf 322 = 3 := rfl
theorem zm_322 : mlOf 322 = 1 := rfl
set_option maxRecDepth 100000 in
set_option maxHeartbeats 4000000 in
/-- java/lang/String.coder()B -/
theorem q_322 (L : Nat) (xs : Nat → Int) (d : Nat) (S : AH) (o : Nat) : ev (WK L xs) (d + 1) 322 [vr o] S = (gd (Nat.beq (shp (WK L xs) S o).1 23) (if -128 ≤ (rdv (WK L xs) S o 1) ∧ (rdv (WK L xs) S o 1) ≤ 127 then (some ((rdv (WK L xs) S o 1), S)) else none)) := by rw [ev_eq, zc_322, zr_322, zm_322]; rfl
theorem zc_323 : csOf 323 = cs_323 := rfl
theorem zr_323 : rtOf 323 = 0 := rfl
theorem zm_323 : mlOf 323 = 2 := rfl
set_option maxRecDepth 100000 in
set_option maxHeartbeats 4000000 in
/-- java/lang/String.indexOf(I)I -/
theorem q_323 (L : Nat) (xs : Nat → Int) (d : Nat) (S : AH) (o : Nat) (p1 : Int) : ev (WK L xs) (d + 1) 323 [vr o, vi p1] S = (gd (Nat.beq (shp (WK L xs) S o).1 23 && Nat.ble 0 8) (bindR ((ev (WK L xs) d) 324 [vr o, vi p1, vi (0 : Int)] S) (fun r1 S2 => (some (r1, S2))))) := by rw [ev_eq, zc_323, zr_323, zm_323]; rfl
theorem zc_324 : csOf 324 = cs_324 := rfl
theorem zr_324 : rtOf 324 = 0 := rfl
theorem zm_324 : mlOf 324 = 3 := rfl
set_option maxRecDepth 100000 in
set_option maxHeartbeats 4000000 in
/-- java/lang/String.indexOf(II)I -/
theorem q_324 (L : Nat) (xs : Nat → Int) (d : Nat) (S : AH) (o : Nat) (p1 : Int) (p2 : Int) : ev (WK L xs) (d + 1) 324 [vr o, vi p1, vi p2] S = (gd (Nat.beq (shp (WK L xs) S o).1 23 && Nat.ble 0 8) (bindR ((ev (WK L xs) d) 325 [vr o] S) (fun r1 S2 => (if r1 = 0 then (gd (Nat.beq (shp (WK L xs) S2 o).1 23) (gd (Nat.beq (shp (WK L xs) S2 o).1 23 && Nat.ble 3 8) (bindR ((ev (WK L xs) d) 321 [vr o] S2) (fun r3 S4 => (bindR ((ev (WK L xs) d) 9000 [vr (rdv (WK L xs) S2 o 0).toNat, vi p1, vi p2, vi r3] S4) (fun r5 S6 => (some (r5, S6)))))))) else (gd (Nat.beq (shp (WK L xs) S2 o).1 23) (gd (Nat.beq (shp (WK L xs) S2 o).1 23 && Nat.ble 3 8) (bindR ((ev (WK L xs) d) 321 [vr o] S2) (fun r7 S8 => (bindR ((ev (WK L xs) d) 327 [vr (rdv (WK L xs) S2 o 0).toNat, vi p1, vi p2, vi r7] S8) (fun r9 S10 => (some (r9, S10)))))))))))) := by rw [ev_eq, zc_324, zr_324, zm_324]; rfl
theorem zc_325 : csOf 325 = cs_325 := rfl
theorem zr_325 : rtOf 325 = 4 := rfl
theorem zm_325 : mlOf 325 = 1 := rfl
set_option maxRecDepth 100000 in
set_option maxHeartbeats 4000000 in
/-- java/lang/String.isLatin1()Z -/
theorem q_325 (L : Nat) (xs : Nat → Int) (d : Nat) (S : AH) (o : Nat) : ev (WK L xs) (d + 1) 325 [vr o] S = (gd (Nat.beq (shp (WK L xs) S o).1 23) (if (rdv (WK L xs) S o 1) = 0 then (some ((1 : Int), S)) else (some ((0 : Int), S)))) := by rw [ev_eq, zc_325, zr_325, zm_325]; rfl
theorem zc_326 : csOf 326 = cs_326 := rfl
theorem zr_326 : rtOf 326 = 5 := rfl
theorem zm_326 : mlOf 326 = 2 := rfl
set_option maxRecDepth 100000 in
set_option maxHeartbeats 4000000 in
/-- java/lang/String.charAt(I)C -/
theorem q_326 (L : Nat) (xs : Nat → Int) (d : Nat) (S : AH) (o : Nat) (p1 : Int) : ev (WK L xs) (d + 1) 326 [vr o, vi p1] S = (gd (Nat.beq (shp (WK L xs) S o).1 23 && Nat.ble 0 8) (bindR ((ev (WK L xs) d) 325 [vr o] S) (fun r1 S2 => (if r1 = 0 then (gd (Nat.beq (shp (WK L xs) S2 o).1 23) (bindR ((ev (WK L xs) d) 9000 [vr (rdv (WK L xs) S2 o 0).toNat, vi p1] S2) (fun r3 S4 => (if 0 ≤ r3 ∧ r3 ≤ 65535 then (some (r3, S4)) else none)))) else (gd (Nat.beq (shp (WK L xs) S2 o).1 23) (bindR ((ev (WK L xs) d) 330 [vr (rdv (WK L xs) S2 o 0).toNat, vi p1] S2) (fun r5 S6 => (if 0 ≤ r5 ∧ r5 ≤ 65535 then (some (r5, S6)) else none)))))))) := by rw [ev_eq, zc_326, zr_326, zm_326]; rfl
theorem zc_327 : csOf 327 = cs_327 := rfl
theorem zr_327 : rtOf 327 = 0 := rfl
theorem zm_327 : mlOf 327 = 4 := rfl
set_option maxRecDepth 100000 in
set_option maxHeartbeats 4000000 in
/-- java/lang/StringLatin1.indexOf([BIII)I -/
theorem q_327 (L : Nat) (xs : Nat → Int) (d : Nat) (S : AH) (p1 : Nat) (p2 : Int) (p3 : Int) (p4 : Int) : ev (WK L xs) (d + 1) 327 [vr p1, vi p2, vi p3, vi p4] S = (bindR ((ev (WK L xs) d) 328 [vi p2] S) (fun r1 S2 => (if r1 = 0 then (some ((-1 : Int), S2)) else (gd (Nat.ble (shp (WK L xs) S2 p1).1 6) (if (max p3 (0 : Int)) < (min p4 ((shp (WK L xs) S2 p1).2 : Int)) then (bindR ((ev (WK L xs) d) 329 [vr p1, vi p2, vi (max p3 (0 : Int)), vi (min p4 ((shp (WK L xs) S2 p1).2 : Int))] S2) (fun r3 S4 => (some (r3, S4)))) else (some ((-1 : Int), S2))))))) := by rw [ev_eq, zc_327, zr_327, zm_327]; rfl
theorem zc_328 : csOf 328 = cs_328 := rfl
theorem zr_328 : rtOf 328 = 4 := rfl
theorem zm_328 : mlOf 328 = 1 := rfl
set_option maxRecDepth 100000 in
set_option maxHeartbeats 4000000 in
/-- java/lang/StringLatin1.canEncode(I)Z -/
theorem q_328 (L : Nat) (xs : Nat → Int) (d : Nat) (S : AH) (p1 : Int) : ev (WK L xs) (d + 1) 328 [vi p1] S = (if p1 < 0 then (some ((0 : Int), S)) else (if (255 : Int) < p1 then (some ((0 : Int), S)) else (some ((1 : Int), S)))) := by rw [ev_eq, zc_328, zr_328, zm_328]; rfl
theorem zc_329 : csOf 329 = cs_329 := rfl
theorem zr_329 : rtOf 329 = 0 := rfl
theorem zm_329 : mlOf 329 = 6 := rfl
set_option maxRecDepth 100000 in
set_option maxHeartbeats 4000000 in
/-- java/lang/StringLatin1.indexOfChar([BIII)I -/
theorem q_329 (L : Nat) (xs : Nat → Int) (d : Nat) (S : AH) (p1 : Nat) (p2 : Int) (p3 : Int) (p4 : Int) : ev (WK L xs) (d + 1) 329 [vr p1, vi p2, vi p3, vi p4] S = (LQ (WK L xs) (ev (WK L xs) d) 329 7 [some (vr p1), none, none, some (vi p4), some (vi (w8 p2)), some (vi p3)] [] S) := by rw [ev_eq, zc_329, zr_329, zm_329]; rfl
set_option maxRecDepth 100000 in
set_option maxHeartbeats 4000000 in
theorem q_329_7 (L : Nat) (xs : Nat → Int) (d : Nat) (S : AH) (x0 : Nat) (x3 : Int) (x4 : Int) (x5 : Int) : LQ (WK L xs) (ev (WK L xs) d) 329 7 [some (vr x0), none, none, some (vi x3), some (vi x4), some (vi x5)] [] S = (if x5 < x3 then (gd (Nat.ble (shp (WK L xs) S x0).1 1) (if 0 ≤ x5 ∧ x5 < ((shp (WK L xs) S x0).2 : Int) then (if (rdv (WK L xs) S x0 x5.toNat) = x4 then (some (x5, S)) else (LQ (WK L xs) (ev (WK L xs) d) 329 7 [some (vr x0), none, none, some (vi x3), some (vi x4), some (vi (w32 (x5 + (1 : Int))))] [] S)) else none)) else (some ((-1 : Int), S))) := by rw [LQ_eq, zc_329, zr_329]; rfl
theorem zc_330 : csOf 330 = cs_330 := rfl
theorem zr_330 : rtOf 330 = 5 := rfl
theorem zm_330 : mlOf 330 = 2 := rfl
set_option maxRecDepth 100000 in
set_option maxHeartbeats 4000000 in
/-- java/lang/StringLatin1.charAt([BI)C -/
theorem q_330 (L : Nat) (xs : Nat → Int) (d : Nat) (S : AH) (p1 : Nat) (p2 : Int) : ev (WK L xs) (d + 1) 330 [vr p1, vi p2] S = (gd (Nat.ble (shp (WK L xs) S p1).1 6) (bindR ((ev (WK L xs) d) 331 [vi p2, vi ((shp (WK L xs) S p1).2 : Int)] S) (fun r1 S2 => (gd (Nat.ble (shp (WK L xs) S2 p1).1 1) (if 0 ≤ p2 ∧ p2 < ((shp (WK L xs) S2 p1).2 : Int) then (if 0 ≤ (w16u (iand (rdv (WK L xs) S2 p1 p2.toNat) (255 : Int))) ∧ (w16u (iand (rdv (WK L xs) S2 p1 p2.toNat) (255 : Int))) ≤ 65535 then (some ((w16u (iand (rdv (WK L xs) S2 p1 p2.toNat) (255 : Int))), S2)) else none) else none))))) := by rw [ev_eq, zc_330, zr_330, zm_330]; rfl
theorem zc_331 : csOf 331 = cs_331 := rfl
theorem zr_331 : rtOf 331 = 9 := rfl
theorem zm_331 : mlOf 331 = 2 := rfl
set_option maxRecDepth 100000 in
set_option maxHeartbeats 4000000 in
/-- java/lang/String.checkIndex(II)V -/
theorem q_331 (L : Nat) (xs : Nat → Int) (d : Nat) (S : AH) (p1 : Int) (p2 : Int) : ev (WK L xs) (d + 1) 331 [vi p1, vi p2] S = (bindR ((ev (WK L xs) d) 336 [vi p1, vi p2, vr 14] S) (fun r1 S2 => (some (0, S2)))) := by rw [ev_eq, zc_331, zr_331, zm_331]; rfl
theorem zc_332 : csOf 332 = cs_332 := rfl
theorem zr_332 : rtOf 332 = 2 := rfl
theorem zm_332 : mlOf 332 = 3 := rfl
set_option maxRecDepth 100000 in
set_option maxHeartbeats 4000000 in
/-- java/util/Arrays.copyOf([BI)[B -/
theorem q_332 (L : Nat) (xs : Nat → Int) (d : Nat) (S : AH) (p1 : Nat) (p2 : Int) : ev (WK L xs) (d + 1) 332 [vr p1, vi p2] S = (gd (Nat.ble (shp (WK L xs) S p1).1 6) (if p2 = ((shp (WK L xs) S p1).2 : Int) then (gd (Nat.beq (shp (WK L xs) S p1).1 0 && (Nat.beq 0 0 || Nat.beq 0 2) && Nat.ble 0 8 && Nat.ble 15 p1) (gd (Nat.beq (shp (WK L xs) (nwc S (shp (WK L xs) S p1).1 (shp (WK L xs) S p1).2 (rdv (WK L xs) S p1)) S.1.1).1 0 && Nat.ble 15 S.1.1) (some ((S.1.1 : Int), (nwc S (shp (WK L xs) S p1).1 (shp (WK L xs) S p1).2 (rdv (WK L xs) S p1)))))) else (if 0 ≤ p2 ∧ p2 ≤ 20000 then (gd (Nat.ble (shp (WK L xs) (nw S 0 p2.toNat) p1).1 6) (gd (Nat.beq (shp (WK L xs) (nw S 0 p2.toNat) p1).1 (shp (WK L xs) (nw S 0 p2.toNat) S.1.1).1 && (Nat.beq (shp (WK L xs) (nw S 0 p2.toNat) p1).1 0 || Nat.beq (shp (WK L xs) (nw S 0 p2.toNat) p1).1 2) && wokF (WK L xs) S.1.1 && !(Nat.beq p1 S.1.1)) (if 0 ≤ (min ((shp (WK L xs) (nw S 0 p2.toNat) p1).2 : Int) p2) ∧ 0 ≤ (0 : Int) ∧ 0 ≤ (0 : Int) ∧ (0 : Int) + (min ((shp (WK L xs) (nw S 0 p2.toNat) p1).2 : Int) p2) ≤ ((shp (WK L xs) (nw S 0 p2.toNat) p1).2 : Int) ∧ (0 : Int) + (min ((shp (WK L xs) (nw S 0 p2.toNat) p1).2 : Int) p2) ≤ ((shp (WK L xs) (nw S 0 p2.toNat) S.1.1).2 : Int) then (some ((S.1.1 : Int), (wrA (nw S 0 p2.toNat) S.1.1 (cpyF (rdv (WK L xs) (nw S 0 p2.toNat) p1) (rdv (WK L xs) (nw S 0 p2.toNat) S.1.1) 0 0 (min ((shp (WK L xs) (nw S 0 p2.toNat) p1).2 : Int) p2).toNat)))) else none))) else none))) := by rw [ev_eq, zc_332, zr_332, zm_332]; rfl
theorem zc_333 : csOf 333 = cs_333 := rfl
theorem zr_333 : rtOf 333 = 2 := rfl
theorem zm_333 : mlOf 333 = 3 := rfl
set_option maxRecDepth 100000 in
set_option maxHeartbeats 4000000 in
/-- java/util/Arrays.copyOf([II)[I -/
theorem q_333 (L : Nat) (xs : Nat → Int) (d : Nat) (S : AH) (p1 : Nat) (p2 : Int) : ev (WK L xs) (d + 1) 333 [vr p1, vi p2] S = (gd (Nat.ble (shp (WK L xs) S p1).1 6) (if p2 = ((shp (WK L xs) S p1).2 : Int) then (gd (Nat.beq (shp (WK L xs) S p1).1 2 && (Nat.beq 2 0 || Nat.beq 2 2) && Nat.ble 0 8 && Nat.ble 15 p1) (gd (Nat.beq (shp (WK L xs) (nwc S (shp (WK L xs) S p1).1 (shp (WK L xs) S p1).2 (rdv (WK L xs) S p1)) S.1.1).1 2 && Nat.ble 15 S.1.1) (some ((S.1.1 : Int), (nwc S (shp (WK L xs) S p1).1 (shp (WK L xs) S p1).2 (rdv (WK L xs) S p1)))))) else (if 0 ≤ p2 ∧ p2 ≤ 20000 then (gd (Nat.ble (shp (WK L xs) (nw S 2 p2.toNat) p1).1 6) (gd (Nat.beq (shp (WK L xs) (nw S 2 p2.toNat) p1).1 (shp (WK L xs) (nw S 2 p2.toNat) S.1.1).1 && (Nat.beq (shp (WK L xs) (nw S 2 p2.toNat) p1).1 0 || Nat.beq (shp (WK L xs) (nw S 2 p2.toNat) p1).1 2) && wokF (WK L xs) S.1.1 && !(Nat.beq p1 S.1.1)) (if 0 ≤ (min ((shp (WK L xs) (nw S 2 p2.toNat) p1).2 : Int) p2) ∧ 0 ≤ (0 : Int) ∧ 0 ≤ (0 : Int) ∧ (0 : Int) + (min ((shp (WK L xs) (nw S 2 p2.toNat) p1).2 : Int) p2) ≤ ((shp (WK L xs) (nw S 2 p2.toNat) p1).2 : Int) ∧ (0 : Int) + (min ((shp (WK L xs) (nw S 2 p2.toNat) p1).2 : Int) p2) ≤ ((shp (WK L xs) (nw S 2 p2.toNat) S.1.1).2 : Int) then (some ((S.1.1 : Int), (wrA (nw S 2 p2.toNat) S.1.1 (cpyF (rdv (WK L xs) (nw S 2 p2.toNat) p1) (rdv (WK L xs) (nw S 2 p2.toNat) S.1.1) 0 0 (min ((shp (WK L xs) (nw S 2 p2.toNat) p1).2 : Int) p2).toNat)))) else none))) else none))) := by rw [ev_eq, zc_333, zr_333, zm_333]; rfl
theorem zc_334 : csOf 334 = cs_334 := rfl
theorem zr_334 : rtOf 334 = 9 := rfl
theorem zm_334 : mlOf 334 = 5 := rfl
set_option maxRecDepth 100000 in
set_option maxHeartbeats 4000000 in
/-- java/util/Arrays.fill([JJ)V -/
theorem q_334 (L : Nat) (xs : Nat → Int) (d : Nat) (S : AH) (p1 : Nat) (p2 : Int) : ev (WK L xs) (d + 1) 334 [vr p1, vl p2] S = (gd (Nat.ble (shp (WK L xs) S p1).1 6) (LQ (WK L xs) (ev (WK L xs) d) 334 6 [some (vr p1), some (vl p2), none, some (vi (0 : Int)), some (vi ((shp (WK L xs) S p1).2 : Int))] [] S)) := by rw [ev_eq, zc_334, zr_334, zm_334]; rfl
set_option maxRecDepth 100000 in
set_option maxHeartbeats 4000000 in
theorem q_334_6 (L : Nat) (xs : Nat → Int) (d : Nat) (S : AH) (x0 : Nat) (x1 : Int) (x3 : Int) (x4 : Int) : LQ (WK L xs) (ev (WK L xs) d) 334 6 [some (vr x0), some (vl x1), none, some (vi x3), some (vi x4)] [] S = (if x3 < x4 then (gd (Nat.beq (shp (WK L xs) S x0).1 3 && wokF (WK L xs) x0) (if 0 ≤ x3 ∧ x3 < ((shp (WK L xs) S x0).2 : Int) then (LQ (WK L xs) (ev (WK L xs) d) 334 6 [some (vr x0), some (vl x1), none, some (vi (w32 (x3 + (1 : Int)))), some (vi x4)] [] (wr S x0 x3.toNat x1)) else none)) else (some (0, S))) := by rw [LQ_eq, zc_334, zr_334]; rfl
theorem zc_335 : csOf 335 = cs_335 := rfl
theorem zr_335 : rtOf 335 = 0 := rfl
theorem zm_335 : mlOf 335 = 4 := rfl
set_option maxRecDepth 100000 in
set_option maxHeartbeats 4000000 in
/-- jdk/internal/util/Preconditions.checkFromToIndex(IIILjava/util/function/BiFunction;)I -/
theorem q_335 (L : Nat) (xs : Nat → Int) (d : Nat) (S : AH) (p1 : Int) (p2 : Int) (p3 : Int) (p4 : Nat) : ev (WK L xs) (d + 1) 335 [vi p1, vi p2, vi p3, vr p4] S = (if p1 < 0 then (bindR ((ev (WK L xs) d) 9000 [] S) (fun r1 S2 => none)) else (if p2 < p1 then (bindR ((ev (WK L xs) d) 9000 [] S) (fun r3 S4 => none)) else (if p3 < p2 then (bindR ((ev (WK L xs) d) 9000 [] S) (fun r5 S6 => none)) else (some (p1, S))))) := by rw [ev_eq, zc_335, zr_335, zm_335]; rfl
theorem zc_336 : csOf 336 = cs_336 := rfl
theorem zr_336 : rtOf 336 = 0 := rfl
theorem zm_336 : mlOf 336 = 3 := rfl
set_option maxRecDepth 100000 in
set_option maxHeartbeats 4000000 in
/-- jdk/internal/util/Preconditions.checkIndex(IILjava/util/function/BiFunction;)I -/
theorem q_336 (L : Nat) (xs : Nat → Int) (d : Nat) (S : AH) (p1 : Int) (p2 : Int) (p3 : Nat) : ev (WK L xs) (d + 1) 336 [vi p1, vi p2, vr p3] S = (if p1 < 0 then (bindR ((ev (WK L xs) d) 9000 [] S) (fun r1 S2 => none)) else (if p1 < p2 then (some (p1, S)) else (bindR ((ev (WK L xs) d) 9000 [] S) (fun r3 S4 => none)))) := by rw [ev_eq, zc_336, zr_336, zm_336]; rfl
theorem zc_337 : csOf 337 = cs_337 := rfl
theorem zr_337 : rtOf 337 = 1 := rfl
theorem zm_337 : mlOf 337 = 6 := rfl
set_option maxRecDepth 100000 in
set_option maxHeartbeats 4000000 in
/-- java/lang/Math.floorDiv(JJ)J -/
theorem q_337 (L : Nat) (xs : Nat → Int) (d : Nat) (S : AH) (p1 : Int) (p2 : Int) : ev (WK L xs) (d + 1) 337 [vl p1, vl p2] S = (if p2 = 0 then none else (if (lcmp (lxor p1 p2) (0 : Int)) < 0 then (if (lcmp (w64 ((ldiv p1 p2) * p2)) p1) = 0 then (some ((ldiv p1 p2), S)) else (some ((w64 ((ldiv p1 p2) - (1 : Int))), S))) else (some ((ldiv p1 p2), S)))) := by rw [ev_eq, zc_337, zr_337, zm_337]; rfl
