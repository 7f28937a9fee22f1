theorem zc_194 : csOf 194 = cs_194 := rfl
theorem zr_194 : rtOf 194 = 4 := rfl
theorem zm_194 : mlOf 194 = 2 := rfl
set_option maxRecDepth 100000 in
set_option maxHeartbeats 4000000 in
/-- SupplyBookModel.now(I)Z -/
theorem q_194 (L : Nat) (xs : Nat → Int) (d : Nat) (S : AH) (p1 : Int) : ev (WK L xs) (d + 1) 194 [vr 72, vi p1] S = (bindR ((ev (WK L xs) d) 195 [vl p1, vl (S.2 72 2), vl (3599 : Int)] S) (fun r1 S2 => (if r1 = 0 then (some ((0 : Int), S2)) else (some ((1 : Int), (wr S2 72 2 p1)))))) := by rw [ev_eq, zc_194, zr_194, zm_194]; rfl
theorem zc_195 : csOf 195 = cs_195 := rfl
theorem zr_195 : rtOf 195 = 4 := rfl
theorem zm_195 : mlOf 195 = 6 := rfl
set_option maxRecDepth 100000 in
set_option maxHeartbeats 4000000 in
/-- SupplyBookModel.lies(JJJ)Z -/
theorem q_195 (L : Nat) (xs : Nat → Int) (d : Nat) (S : AH) (p1 : Int) (p2 : Int) (p3 : Int) : ev (WK L xs) (d + 1) 195 [vl p1, vl p2, vl p3] S = (if (lcmp p1 p2) < 0 then (some ((0 : Int), S)) else (if 0 < (lcmp p1 p3) then (some ((0 : Int), S)) else (some ((1 : Int), S)))) := by rw [ev_eq, zc_195, zr_195, zm_195]; rfl
theorem zc_196 : csOf 196 = cs_196 := rfl
theorem zr_196 : rtOf 196 = 0 := rfl
theorem zm_196 : mlOf 196 = 2 := rfl
set_option maxRecDepth 100000 in
set_option maxHeartbeats 4000000 in
/-- SupplyBookModel.head(I)I -/
theorem q_196 (L : Nat) (xs : Nat → Int) (d : Nat) (S : AH) (p1 : Int) : ev (WK L xs) (d + 1) 196 [vr 72, vi p1] S = (if (S.2 72 4) = (40 : Int) then (some ((-1 : Int), S)) else (if p1 = (-1 : Int) then (LQ (WK L xs) (ev (WK L xs) d) 196 24 [some (vr 72), some (vi p1)] [] S) else (bindR ((ev (WK L xs) d) 197 [vr 72, vi p1] S) (fun r1 S2 => (if r1 = 0 then (some ((-1 : Int), S2)) else (LQ (WK L xs) (ev (WK L xs) d) 196 24 [some (vr 72), some (vi p1)] [] S2)))))) := by rw [ev_eq, zc_196, zr_196, zm_196]; rfl
set_option maxRecDepth 100000 in
set_option maxHeartbeats 4000000 in
theorem q_196_24 (L : Nat) (xs : Nat → Int) (d : Nat) (S : AH) (x1 : Int) : LQ (WK L xs) (ev (WK L xs) d) 196 24 [some (vr 72), some (vi x1)] [] S = (if 0 ≤ (S.2 72 4) ∧ (S.2 72 4) < (40 : Int) then (some ((w32 ((w32 ((S.2 72 4) + (1 : Int))) - (1 : Int))), (wr (wr S 74 (S.2 72 4).toNat x1) 72 4 (w32 ((S.2 72 4) + (1 : Int)))))) else none) := by rw [LQ_eq, zc_196, zr_196]; rfl
theorem zc_197 : csOf 197 = cs_197 := rfl
theorem zr_197 : rtOf 197 = 4 := rfl
theorem zm_197 : mlOf 197 = 2 := rfl
set_option maxRecDepth 100000 in
set_option maxHeartbeats 4000000 in
/-- SupplyBookModel.isHead(I)Z -/
theorem q_197 (L : Nat) (xs : Nat → Int) (d : Nat) (S : AH) (p1 : Int) : ev (WK L xs) (d + 1) 197 [vr 72, vi p1] S = (bindR ((ev (WK L xs) d) 195 [vl p1, vl (0 : Int), vl (w32 ((S.2 72 4) - (1 : Int)))] S) (fun r1 S2 => (if r1 = 0 ∨ r1 = 1 then (some (r1, S2)) else none))) := by rw [ev_eq, zc_197, zr_197, zm_197]; rfl
theorem zc_198 : csOf 198 = cs_198 := rfl
theorem zr_198 : rtOf 198 = 0 := rfl
theorem zm_198 : mlOf 198 = 3 := rfl
set_option maxRecDepth 100000 in
set_option maxHeartbeats 4000000 in
/-- SupplyBookModel.under(II)I -/
theorem q_198 (L : Nat) (xs : Nat → Int) (d : Nat) (S : AH) (p1 : Int) (p2 : Int) : ev (WK L xs) (d + 1) 198 [vr 72, vi p1, vi p2] S = (bindR ((ev (WK L xs) d) 197 [vr 72, vi p1] S) (fun r1 S2 => (if r1 = 0 then (some ((-1 : Int), S2)) else (bindR ((ev (WK L xs) d) 197 [vr 72, vi p2] S2) (fun r3 S4 => (if r3 = 0 then (some ((-1 : Int), S4)) else (bindR ((ev (WK L xs) d) 199 [vr 72, vi p1, vi p2] S4) (fun r5 S6 => (if r5 = 0 then (some ((0 : Int), S6)) else (some ((1 : Int), S6))))))))))) := by rw [ev_eq, zc_198, zr_198, zm_198]; rfl
theorem zc_199 : csOf 199 = cs_199 := rfl
theorem zr_199 : rtOf 199 = 4 := rfl
theorem zm_199 : mlOf 199 = 4 := rfl
set_option maxRecDepth 100000 in
set_option maxHeartbeats 4000000 in
/-- SupplyBookModel.isUnder(II)Z -/
theorem q_199 (L : Nat) (xs : Nat → Int) (d : Nat) (S : AH) (p1 : Int) (p2 : Int) : ev (WK L xs) (d + 1) 199 [vr 72, vi p1, vi p2] S = (LQ (WK L xs) (ev (WK L xs) d) 199 2 [some (vr 72), none, some (vi p2), some (vi p1)] [] S) := by rw [ev_eq, zc_199, zr_199, zm_199]; rfl
set_option maxRecDepth 100000 in
set_option maxHeartbeats 4000000 in
theorem q_199_2 (L : Nat) (xs : Nat → Int) (d : Nat) (S : AH) (x2 : Int) (x3 : Int) : LQ (WK L xs) (ev (WK L xs) d) 199 2 [some (vr 72), none, some (vi x2), some (vi x3)] [] S = (if x3 = (-1 : Int) then (if x3 = x2 then (some ((1 : Int), S)) else (some ((0 : Int), S))) else (if x3 = x2 then (if x3 = x2 then (some ((1 : Int), S)) else (some ((0 : Int), S))) else (if 0 ≤ x3 ∧ x3 < (40 : Int) then (LQ (WK L xs) (ev (WK L xs) d) 199 2 [some (vr 72), none, some (vi x2), some (vi (S.2 74 x3.toNat))] [] S) else none))) := by rw [LQ_eq, zc_199, zr_199]; rfl
theorem zc_200 : csOf 200 = cs_200 := rfl
theorem zr_200 : rtOf 200 = 0 := rfl
theorem zm_200 : mlOf 200 = 3 := rfl
set_option maxRecDepth 100000 in
set_option maxHeartbeats 4000000 in
/-- SupplyBookModel.hand(II)I -/
theorem q_200 (L : Nat) (xs : Nat → Int) (d : Nat) (S : AH) (p1 : Int) (p2 : Int) : ev (WK L xs) (d + 1) 200 [vr 72, vi p1, vi p2] S = (if (S.2 72 5) = (16 : Int) then (some ((-1 : Int), S)) else (bindR ((ev (WK L xs) d) 197 [vr 72, vi p1] S) (fun r1 S2 => (if r1 = 0 then (some ((-1 : Int), S2)) else (bindR ((ev (WK L xs) d) 195 [vl p2, vl (1 : Int), vl (9 : Int)] S2) (fun r3 S4 => (if r3 = 0 then (some ((-1 : Int), S4)) else (if 0 ≤ (S4.2 72 5) ∧ (S4.2 72 5) < (16 : Int) then (if 0 ≤ (S4.2 72 5) ∧ (S4.2 72 5) < (16 : Int) then (some ((w32 ((w32 ((S4.2 72 5) + (1 : Int))) - (1 : Int))), (wr (wr (wr S4 75 (S4.2 72 5).toNat p1) 76 (S4.2 72 5).toNat p2) 72 5 (w32 ((S4.2 72 5) + (1 : Int)))))) else none) else none)))))))) := by rw [ev_eq, zc_200, zr_200, zm_200]; rfl
theorem zc_201 : csOf 201 = cs_201 := rfl
theorem zr_201 : rtOf 201 = 0 := rfl
theorem zm_201 : mlOf 201 = 6 := rfl
set_option maxRecDepth 100000 in
set_option maxHeartbeats 4000000 in
/-- SupplyBookModel.feed(IIIII)I -/
theorem q_201 (L : Nat) (xs : Nat → Int) (d : Nat) (S : AH) (p1 : Int) (p2 : Int) (p3 : Int) (p4 : Int) (p5 : Int) : ev (WK L xs) (d + 1) 201 [vr 72, vi p1, vi p2, vi p3, vi p4, vi p5] S = (if (400 : Int) < (w32 ((S.2 72 1) + (20 : Int))) then (some ((-1 : Int), S)) else (bindR ((ev (WK L xs) d) 202 [vr 72, vi p1] S) (fun r1 S2 => (bindR ((ev (WK L xs) d) 202 [vr 72, vi p2] S2) (fun r3 S4 => (bindR ((ev (WK L xs) d) 202 [vr 72, vi p3] S4) (fun r5 S6 => (bindR ((ev (WK L xs) d) 202 [vr 72, vi p4] S6) (fun r7 S8 => (bindR ((ev (WK L xs) d) 202 [vr 72, vi p5] S8) (fun r9 S10 => (some ((S10.2 72 1), S10))))))))))))) := by rw [ev_eq, zc_201, zr_201, zm_201]; rfl
theorem zc_202 : csOf 202 = cs_202 := rfl
theorem zr_202 : rtOf 202 = 9 := rfl
theorem zm_202 : mlOf 202 = 3 := rfl
set_option maxRecDepth 100000 in
set_option maxHeartbeats 4000000 in
/-- SupplyBookModel.push(I)V -/
theorem q_202 (L : Nat) (xs : Nat → Int) (d : Nat) (S : AH) (p1 : Int) : ev (WK L xs) (d + 1) 202 [vr 72, vi p1] S = (LQ (WK L xs) (ev (WK L xs) d) 202 3 [some (vr 72), some (vi p1), some (vi (24 : Int))] [] S) := by rw [ev_eq, zc_202, zr_202, zm_202]; rfl
set_option maxRecDepth 100000 in
set_option maxHeartbeats 4000000 in
theorem q_202_3 (L : Nat) (xs : Nat → Int) (d : Nat) (S : AH) (x1 : Int) (x2 : Int) : LQ (WK L xs) (ev (WK L xs) d) 202 3 [some (vr 72), some (vi x1), some (vi x2)] [] S = (if x2 < 0 then (some (0, S)) else (if 0 ≤ (S.2 72 1) ∧ (S.2 72 1) < (400 : Int) then (LQ (WK L xs) (ev (WK L xs) d) 202 3 [some (vr 72), some (vi x1), some (vi (w32 (x2 + (-8 : Int))))] [] (wr (wr S 73 (S.2 72 1).toNat (w8 (w8 (ishr x1 x2)))) 72 1 (w32 ((S.2 72 1) + (1 : Int))))) else none)) := by rw [LQ_eq, zc_202, zr_202]; rfl
theorem zc_203 : csOf 203 = cs_203 := rfl
theorem zr_203 : rtOf 203 = 0 := rfl
theorem zm_203 : mlOf 203 = 5 := rfl
set_option maxRecDepth 100000 in
set_option maxHeartbeats 4000000 in
/-- SupplyBookModel.law(III)I -/
theorem q_203 (L : Nat) (xs : Nat → Int) (d : Nat) (S : AH) (p1 : Int) (p2 : Int) (p3 : Int) : ev (WK L xs) (d + 1) 203 [vr 72, vi p1, vi p2, vi p3] S = (if (S.2 72 36) = (20 : Int) then (some ((-1 : Int), S)) else (bindR ((ev (WK L xs) d) 195 [vl p1, vl (0 : Int), vl (3599 : Int)] S) (fun r1 S2 => (if r1 = 0 then (some ((-1 : Int), S2)) else (bindR ((ev (WK L xs) d) 195 [vl p2, vl p1, vl (3599 : Int)] S2) (fun r3 S4 => (if r3 = 0 then (some ((-1 : Int), S4)) else (bindR ((ev (WK L xs) d) 195 [vl p3, vl (1 : Int), vl (200 : Int)] S4) (fun r5 S6 => (if r5 = 0 then (some ((-1 : Int), S6)) else (if (S6.2 72 1) < p3 then (some ((-1 : Int), S6)) else (bindR ((ev (WK L xs) d) 204 [vr 72, vi p3, vi (1 : Int)] S6) (fun r7 S8 => (if r7 < 0 then (some (r7, S8)) else (if 0 ≤ (S8.2 72 36) ∧ (S8.2 72 36) < (20 : Int) then (if 0 ≤ (S8.2 72 36) ∧ (S8.2 72 36) < (20 : Int) then (bindR ((ev (WK L xs) d) 230 [vr 72, vi (S8.2 72 36)] (wr (wr S8 94 (S8.2 72 36).toNat p1) 95 (S8.2 72 36).toNat p2)) (fun r9 S10 => (some ((w32 ((w32 ((S10.2 72 36) + (1 : Int))) - (1 : Int))), (wr S10 72 36 (w32 ((S10.2 72 36) + (1 : Int)))))))) else none) else none))))))))))))))) := by rw [ev_eq, zc_203, zr_203, zm_203]; rfl
theorem zc_204 : csOf 204 = cs_204 := rfl
theorem zr_204 : rtOf 204 = 0 := rfl
theorem zm_204 : mlOf 204 = 4 := rfl
set_option maxRecDepth 100000 in
set_option maxHeartbeats 4000000 in
/-- SupplyBookModel.readText(IZ)I -/
theorem q_204 (L : Nat) (xs : Nat → Int) (d : Nat) (S : AH) (p1 : Int) (p2 : Int) : ev (WK L xs) (d + 1) 204 [vr 72, vi p1, vi p2] S = (if p2 = 0 ∨ p2 = 1 then (if 0 < p1 then (LQ (WK L xs) (ev (WK L xs) d) 204 45 [some (vr 72), none, none, some (vi (1 : Int))] [] (wr (wr (wr (wr (wr (wr (wr S 72 1 (0 : Int)) 72 18 (0 : Int)) 72 19 p1) 72 20 (0 : Int)) 72 21 (0 : Int)) 72 22 (0 : Int)) 72 25 p2)) else (LQ (WK L xs) (ev (WK L xs) d) 204 45 [some (vr 72), none, none, some (vi (0 : Int))] [] (wr (wr (wr (wr (wr (wr (wr S 72 1 (0 : Int)) 72 18 (0 : Int)) 72 19 p1) 72 20 (0 : Int)) 72 21 (0 : Int)) 72 22 (0 : Int)) 72 25 p2))) else none) := by rw [ev_eq, zc_204, zr_204, zm_204]; rfl
set_option maxRecDepth 100000 in
set_option maxHeartbeats 4000000 in
theorem q_204_45 (L : Nat) (xs : Nat → Int) (d : Nat) (S : AH) (x3 : Int) : LQ (WK L xs) (ev (WK L xs) d) 204 45 [some (vr 72), none, none, some (vi x3)] [] S = (if x3 = 0 then (some ((S.2 72 20), S)) else (bindR ((ev (WK L xs) d) 205 [vr 72] S) (fun r1 S2 => (if r1 = 0 then (some ((S2.2 72 20), S2)) else (bindR ((ev (WK L xs) d) 206 [vr 72] S2) (fun r3 S4 => (bindR ((ev (WK L xs) d) 205 [vr 72] S4) (fun r5 S6 => (if r5 = 0 then (LQ (WK L xs) (ev (WK L xs) d) 204 83 [some (vr 72), none, none, none] [vi (0 : Int)] S6) else (if (S6.2 72 18) < (S6.2 72 19) then (LQ (WK L xs) (ev (WK L xs) d) 204 83 [some (vr 72), none, none, none] [vi (1 : Int)] S6) else (LQ (WK L xs) (ev (WK L xs) d) 204 83 [some (vr 72), none, none, none] [vi (0 : Int)] S6))))))))))) := by rw [LQ_eq, zc_204, zr_204]; rfl
set_option maxRecDepth 100000 in
set_option maxHeartbeats 4000000 in
theorem q_204_83 (L : Nat) (xs : Nat → Int) (d : Nat) (S : AH) (t0 : Int) : LQ (WK L xs) (ev (WK L xs) d) 204 83 [some (vr 72), none, none, none] [vi t0] S = (if t0 = 0 then (LQ (WK L xs) (ev (WK L xs) d) 204 45 [some (vr 72), none, none, some (vi t0)] [] (wr S 72 18 (w32 ((S.2 72 18) + (1 : Int))))) else (bindR ((ev (WK L xs) d) 207 [vr 72] S) (fun r1 S2 => (if r1 = (59 : Int) then (LQ (WK L xs) (ev (WK L xs) d) 204 45 [some (vr 72), none, none, some (vi t0)] [] (wr S2 72 18 (w32 ((S2.2 72 18) + (1 : Int))))) else (bindR ((ev (WK L xs) d) 210 [vr 72, vi (1 : Int), vi (S2.2 72 18)] S2) (fun r3 S4 => (LQ (WK L xs) (ev (WK L xs) d) 204 45 [some (vr 72), none, none, some (vi t0)] [] (wr S4 72 18 (w32 ((S4.2 72 18) + (1 : Int))))))))))) := by rw [LQ_eq, zc_204, zr_204]; rfl
theorem zc_205 : csOf 205 = cs_205 := rfl
theorem zr_205 : rtOf 205 = 4 := rfl
theorem zm_205 : mlOf 205 = 1 := rfl
set_option maxRecDepth 100000 in
set_option maxHeartbeats 4000000 in
/-- SupplyBookModel.isGood()Z -/
theorem q_205 (L : Nat) (xs : Nat → Int) (d : Nat) (S : AH)  : ev (WK L xs) (d + 1) 205 [vr 72] S = (if (S.2 72 20) = 0 then (some ((1 : Int), S)) else (some ((0 : Int), S))) := by rw [ev_eq, zc_205, zr_205, zm_205]; rfl
theorem zc_206 : csOf 206 = cs_206 := rfl
theorem zr_206 : rtOf 206 = 9 := rfl
theorem zm_206 : mlOf 206 = 2 := rfl
set_option maxRecDepth 100000 in
set_option maxHeartbeats 4000000 in
/-- SupplyBookModel.clause()V -/
theorem q_206 (L : Nat) (xs : Nat → Int) (d : Nat) (S : AH)  : ev (WK L xs) (d + 1) 206 [vr 72] S = (bindR ((ev (WK L xs) d) 207 [vr 72] S) (fun r1 S2 => (bindR ((ev (WK L xs) d) 208 [vi r1] S2) (fun r3 S4 => (if r3 = 0 then (bindR ((ev (WK L xs) d) 209 [vi r1] S4) (fun r5 S6 => (if r5 = 0 then (bindR ((ev (WK L xs) d) 210 [vr 72, vi (1 : Int), vi (S6.2 72 18)] S6) (fun r7 S8 => (LQ (WK L xs) (ev (WK L xs) d) 206 76 [some (vr 72), some (vi r1)] [] S8))) else (LQ (WK L xs) (ev (WK L xs) d) 206 31 [some (vr 72), some (vi r1)] [] S6)))) else (LQ (WK L xs) (ev (WK L xs) d) 206 31 [some (vr 72), some (vi r1)] [] S4)))))) := by rw [ev_eq, zc_206, zr_206, zm_206]; rfl
set_option maxRecDepth 100000 in
set_option maxHeartbeats 4000000 in
theorem q_206_31 (L : Nat) (xs : Nat → Int) (d : Nat) (S : AH) (x1 : Int) : LQ (WK L xs) (ev (WK L xs) d) 206 31 [some (vr 72), some (vi x1)] [] S = (if (S.2 72 25) = 0 then (bindR ((ev (WK L xs) d) 209 [vi x1] S) (fun r3 S4 => (if r3 = 0 then (if (S4.2 72 21) = (16 : Int) then (bindR ((ev (WK L xs) d) 210 [vr 72, vi (4 : Int), vi (S4.2 72 18)] S4) (fun r5 S6 => (LQ (WK L xs) (ev (WK L xs) d) 206 76 [some (vr 72), some (vi x1)] [] S6))) else (LQ (WK L xs) (ev (WK L xs) d) 206 76 [some (vr 72), some (vi x1)] [] S4)) else (bindR ((ev (WK L xs) d) 210 [vr 72, vi (6 : Int), vi (S4.2 72 18)] S4) (fun r7 S8 => (LQ (WK L xs) (ev (WK L xs) d) 206 76 [some (vr 72), some (vi x1)] [] S8)))))) else (if (S.2 72 21) = (16 : Int) then (bindR ((ev (WK L xs) d) 210 [vr 72, vi (4 : Int), vi (S.2 72 18)] S) (fun r1 S2 => (LQ (WK L xs) (ev (WK L xs) d) 206 76 [some (vr 72), some (vi x1)] [] S2))) else (LQ (WK L xs) (ev (WK L xs) d) 206 76 [some (vr 72), some (vi x1)] [] S))) := by rw [LQ_eq, zc_206, zr_206]; rfl
set_option maxRecDepth 100000 in
set_option maxHeartbeats 4000000 in
theorem q_206_76 (L : Nat) (xs : Nat → Int) (d : Nat) (S : AH) (x1 : Int) : LQ (WK L xs) (ev (WK L xs) d) 206 76 [some (vr 72), some (vi x1)] [] S = (bindR ((ev (WK L xs) d) 205 [vr 72] S) (fun r1 S2 => (if r1 = 0 then (some (0, S2)) else (if 0 ≤ (S2.2 72 21) ∧ (S2.2 72 21) < (16 : Int) then (if 0 ≤ (S2.2 72 21) ∧ (S2.2 72 21) < (16 : Int) then (if 0 ≤ (S2.2 72 21) ∧ (S2.2 72 21) < (16 : Int) then (if 0 ≤ (S2.2 72 21) ∧ (S2.2 72 21) < (16 : Int) then (bindR ((ev (WK L xs) d) 208 [vi x1] (wr (wr (wr (wr (wr S2 86 (S2.2 72 21).toNat x1) 87 (S2.2 72 21).toNat (0 : Int)) 88 (S2.2 72 21).toNat (0 : Int)) 89 (S2.2 72 21).toNat (S2.2 72 22)) 72 18 (w32 ((S2.2 72 18) + (1 : Int))))) (fun r3 S4 => (if r3 = 0 then (if x1 = (120 : Int) then (bindR ((ev (WK L xs) d) 214 [vr 72, vi (19 : Int)] S4) (fun r5 S6 => (if 0 ≤ (S4.2 72 21) ∧ (S4.2 72 21) < (16 : Int) then (bindR ((ev (WK L xs) d) 205 [vr 72] (wr S6 87 (S4.2 72 21).toNat r5)) (fun r7 S8 => (if r7 = 0 then (LQ (WK L xs) (ev (WK L xs) d) 206 262 [some (vr 72), none] [] S8) else (bindR ((ev (WK L xs) d) 207 [vr 72] S8) (fun r9 S10 => (if r9 = (46 : Int) then (LQ (WK L xs) (ev (WK L xs) d) 206 262 [some (vr 72), none] [] S10) else (bindR ((ev (WK L xs) d) 210 [vr 72, vi (1 : Int), vi (S10.2 72 18)] S10) (fun r11 S12 => (LQ (WK L xs) (ev (WK L xs) d) 206 262 [some (vr 72), none] [] S12))))))))) else none))) else (if x1 = (109 : Int) then (LQ (WK L xs) (ev (WK L xs) d) 206 326 [some (vr 72), none] [vi (100 : Int), vr 72, vi (S4.2 72 21), vr 87] S4) else (if x1 = (99 : Int) then (LQ (WK L xs) (ev (WK L xs) d) 206 326 [some (vr 72), none] [vi (100 : Int), vr 72, vi (S4.2 72 21), vr 87] S4) else (LQ (WK L xs) (ev (WK L xs) d) 206 326 [some (vr 72), none] [vi (999999 : Int), vr 72, vi (S4.2 72 21), vr 87] S4)))) else (bindR ((ev (WK L xs) d) 211 [vr 72] S4) (fun r13 S14 => (bindR ((ev (WK L xs) d) 205 [vr 72] S14) (fun r15 S16 => (if r15 = 0 then (if 0 ≤ (S16.2 72 21) ∧ (S16.2 72 21) < (16 : Int) then (some (0, (wr (wr S16 90 (S16.2 72 21).toNat (S16.2 72 22)) 72 21 (w32 ((S16.2 72 21) + (1 : Int)))))) else none) else (if x1 = (115 : Int) then (bindR ((ev (WK L xs) d) 207 [vr 72] S16) (fun r17 S18 => (bindR ((ev (WK L xs) d) 195 [vl r17, vl (49 : Int), vl (57 : Int)] S18) (fun r19 S20 => (if r19 = 0 then (bindR ((ev (WK L xs) d) 210 [vr 72, vi (1 : Int), vi (S20.2 72 18)] S20) (fun r21 S22 => (LQ (WK L xs) (ev (WK L xs) d) 206 187 [some (vr 72), none] [] S22))) else (LQ (WK L xs) (ev (WK L xs) d) 206 187 [some (vr 72), none] [] S20)))))) else (if 0 ≤ (S16.2 72 21) ∧ (S16.2 72 21) < (16 : Int) then (some (0, (wr (wr S16 90 (S16.2 72 21).toNat (S16.2 72 22)) 72 21 (w32 ((S16.2 72 21) + (1 : Int)))))) else none)))))))))) else none) else none) else none) else none)))) := by rw [LQ_eq, zc_206, zr_206]; rfl
set_option maxRecDepth 100000 in
set_option maxHeartbeats 4000000 in
theorem q_206_187 (L : Nat) (xs : Nat → Int) (d : Nat) (S : AH)  : LQ (WK L xs) (ev (WK L xs) d) 206 187 [some (vr 72), none] [] S = (bindR ((ev (WK L xs) d) 207 [vr 72] S) (fun r1 S2 => (if 0 ≤ (S.2 72 21) ∧ (S.2 72 21) < (16 : Int) then (if 0 ≤ (S2.2 72 21) ∧ (S2.2 72 21) < (16 : Int) then (some (0, (wr (wr (wr (wr S2 87 (S.2 72 21).toNat (w32 (r1 - (48 : Int)))) 72 18 (w32 ((S2.2 72 18) + (1 : Int)))) 90 (S2.2 72 21).toNat (S2.2 72 22)) 72 21 (w32 ((S2.2 72 21) + (1 : Int)))))) else none) else none))) := by rw [LQ_eq, zc_206, zr_206]; rfl
set_option maxRecDepth 100000 in
set_option maxHeartbeats 4000000 in
theorem q_206_262 (L : Nat) (xs : Nat → Int) (d : Nat) (S : AH)  : LQ (WK L xs) (ev (WK L xs) d) 206 262 [some (vr 72), none] [] S = (bindR ((ev (WK L xs) d) 205 [vr 72] (wr S 72 18 (w32 ((S.2 72 18) + (1 : Int))))) (fun r1 S2 => (if r1 = 0 then (if 0 ≤ (S2.2 72 21) ∧ (S2.2 72 21) < (16 : Int) then (some (0, (wr (wr S2 90 (S2.2 72 21).toNat (S2.2 72 22)) 72 21 (w32 ((S2.2 72 21) + (1 : Int)))))) else none) else (bindR ((ev (WK L xs) d) 214 [vr 72, vi (15 : Int)] S2) (fun r3 S4 => (if 0 ≤ (S2.2 72 21) ∧ (S2.2 72 21) < (16 : Int) then (if 0 ≤ (S4.2 72 21) ∧ (S4.2 72 21) < (16 : Int) then (some (0, (wr (wr (wr S4 88 (S2.2 72 21).toNat r3) 90 (S4.2 72 21).toNat (S4.2 72 22)) 72 21 (w32 ((S4.2 72 21) + (1 : Int)))))) else none) else none)))))) := by rw [LQ_eq, zc_206, zr_206]; rfl
set_option maxRecDepth 100000 in
set_option maxHeartbeats 4000000 in
theorem q_206_326 (L : Nat) (xs : Nat → Int) (d : Nat) (S : AH) (t0 : Int) (t2 : Int) : LQ (WK L xs) (ev (WK L xs) d) 206 326 [some (vr 72), none] [vi t0, vr 72, vi t2, vr 87] S = (bindR ((ev (WK L xs) d) 214 [vr 72, vi t0] S) (fun r1 S2 => (if 0 ≤ t2 ∧ t2 < (16 : Int) then (if 0 ≤ (S2.2 72 21) ∧ (S2.2 72 21) < (16 : Int) then (some (0, (wr (wr (wr S2 87 t2.toNat r1) 90 (S2.2 72 21).toNat (S2.2 72 22)) 72 21 (w32 ((S2.2 72 21) + (1 : Int)))))) else none) else none))) := by rw [LQ_eq, zc_206, zr_206]; rfl
theorem zc_207 : csOf 207 = cs_207 := rfl
theorem zr_207 : rtOf 207 = 0 := rfl
theorem zm_207 : mlOf 207 = 1 := rfl
set_option maxRecDepth 100000 in
set_option maxHeartbeats 4000000 in
/-- SupplyBookModel.here()I -/
theorem q_207 (L : Nat) (xs : Nat → Int) (d : Nat) (S : AH)  : ev (WK L xs) (d + 1) 207 [vr 72] S = (if (S.2 72 18) < (S.2 72 19) then (if 0 ≤ (S.2 72 18) ∧ (S.2 72 18) < (400 : Int) then (some ((iand (S.2 73 (S.2 72 18).toNat) (255 : Int)), S)) else none) else (some ((0 : Int), S))) := by rw [ev_eq, zc_207, zr_207, zm_207]; rfl
theorem zc_208 : csOf 208 = cs_208 := rfl
theorem zr_208 : rtOf 208 = 4 := rfl
theorem zm_208 : mlOf 208 = 1 := rfl
set_option maxRecDepth 100000 in
set_option maxHeartbeats 4000000 in
/-- SupplyBookModel.isOfWords(I)Z -/
theorem q_208 (L : Nat) (xs : Nat → Int) (d : Nat) (S : AH) (p1 : Int) : ev (WK L xs) (d + 1) 208 [vi p1] S = (if p1 = (111 : Int) then (some ((1 : Int), S)) else (if p1 = (110 : Int) then (some ((1 : Int), S)) else (if p1 = (115 : Int) then (some ((1 : Int), S)) else (if p1 = (116 : Int) then (some ((1 : Int), S)) else (some ((0 : Int), S)))))) := by rw [ev_eq, zc_208, zr_208, zm_208]; rfl
theorem zc_209 : csOf 209 = cs_209 := rfl
theorem zr_209 : rtOf 209 = 4 := rfl
theorem zm_209 : mlOf 209 = 1 := rfl
set_option maxRecDepth 100000 in
set_option maxHeartbeats 4000000 in
/-- SupplyBookModel.isOfLaws(I)Z -/
theorem q_209 (L : Nat) (xs : Nat → Int) (d : Nat) (S : AH) (p1 : Int) : ev (WK L xs) (d + 1) 209 [vi p1] S = (if p1 = (109 : Int) then (some ((1 : Int), S)) else (if p1 = (99 : Int) then (some ((1 : Int), S)) else (if p1 = (98 : Int) then (some ((1 : Int), S)) else (if p1 = (101 : Int) then (some ((1 : Int), S)) else (if p1 = (100 : Int) then (some ((1 : Int), S)) else (if p1 = (120 : Int) then (some ((1 : Int), S)) else (some ((0 : Int), S)))))))) := by rw [ev_eq, zc_209, zr_209, zm_209]; rfl
theorem zc_210 : csOf 210 = cs_210 := rfl
theorem zr_210 : rtOf 210 = 9 := rfl
theorem zm_210 : mlOf 210 = 3 := rfl
set_option maxRecDepth 100000 in
set_option maxHeartbeats 4000000 in
/-- SupplyBookModel.fails(II)V -/
theorem q_210 (L : Nat) (xs : Nat → Int) (d : Nat) (S : AH) (p1 : Int) (p2 : Int) : ev (WK L xs) (d + 1) 210 [vr 72, vi p1, vi p2] S = (if (S.2 72 20) < 0 then (some (0, (wr S 72 20 (S.2 72 20)))) else (some (0, (wr S 72 20 (w32 ((w32 ((-1000 : Int) * p1)) - p2)))))) := by rw [ev_eq, zc_210, zr_210, zm_210]; rfl
theorem zc_211 : csOf 211 = cs_211 := rfl
theorem zr_211 : rtOf 211 = 9 := rfl
theorem zm_211 : mlOf 211 = 2 := rfl
set_option maxRecDepth 100000 in
set_option maxHeartbeats 4000000 in
/-- SupplyBookModel.condition()V -/
theorem q_211 (L : Nat) (xs : Nat → Int) (d : Nat) (S : AH)  : ev (WK L xs) (d + 1) 211 [vr 72] S = (bindR ((ev (WK L xs) d) 207 [vr 72] (wr (wr (wr S 72 24 (0 : Int)) 72 23 (0 : Int)) 72 26 (0 : Int))) (fun r1 S2 => (if r1 = (40 : Int) then (bindR ((ev (WK L xs) d) 205 [vr 72] S2) (fun r3 S4 => (if r3 = 0 then (some (0, S4)) else (bindR ((ev (WK L xs) d) 212 [vr 72] S4) (fun r5 S6 => (LQ (WK L xs) (ev (WK L xs) d) 211 47 [some (vr 72), some (vi (1 : Int))] [] S6)))))) else (bindR ((ev (WK L xs) d) 210 [vr 72, vi (1 : Int), vi (S2.2 72 18)] S2) (fun r7 S8 => (bindR ((ev (WK L xs) d) 205 [vr 72] S8) (fun r9 S10 => (if r9 = 0 then (some (0, S10)) else (bindR ((ev (WK L xs) d) 212 [vr 72] S10) (fun r11 S12 => (LQ (WK L xs) (ev (WK L xs) d) 211 47 [some (vr 72), some (vi (1 : Int))] [] S12))))))))))) := by rw [ev_eq, zc_211, zr_211, zm_211]; rfl
set_option maxRecDepth 100000 in
set_option maxHeartbeats 4000000 in
theorem q_211_47 (L : Nat) (xs : Nat → Int) (d : Nat) (S : AH) (x1 : Int) : LQ (WK L xs) (ev (WK L xs) d) 211 47 [some (vr 72), some (vi x1)] [] S = (bindR ((ev (WK L xs) d) 205 [vr 72] S) (fun r1 S2 => (if r1 = 0 then (some (0, S2)) else (if (S2.2 72 26) = 0 then (if x1 = 0 then (bindR ((ev (WK L xs) d) 205 [vr 72] S2) (fun r3 S4 => (if r3 = 0 then (LQ (WK L xs) (ev (WK L xs) d) 211 47 [some (vr 72), some (vi x1)] [] S4) else (bindR ((ev (WK L xs) d) 228 [vr 72] S4) (fun r5 S6 => (LQ (WK L xs) (ev (WK L xs) d) 211 47 [some (vr 72), some (vi r5)] [] S6)))))) else (bindR ((ev (WK L xs) d) 213 [vr 72] S2) (fun r7 S8 => (bindR ((ev (WK L xs) d) 205 [vr 72] S8) (fun r9 S10 => (if r9 = 0 then (LQ (WK L xs) (ev (WK L xs) d) 211 47 [some (vr 72), some (vi x1)] [] S10) else (bindR ((ev (WK L xs) d) 228 [vr 72] S10) (fun r11 S12 => (LQ (WK L xs) (ev (WK L xs) d) 211 47 [some (vr 72), some (vi r11)] [] S12))))))))) else (some (0, S2)))))) := by rw [LQ_eq, zc_211, zr_211]; rfl
theorem zc_212 : csOf 212 = cs_212 := rfl
theorem zr_212 : rtOf 212 = 9 := rfl
theorem zm_212 : mlOf 212 = 1 := rfl
set_option maxRecDepth 100000 in
set_option maxHeartbeats 4000000 in
/-- SupplyBookModel.opens()V -/
theorem q_212 (L : Nat) (xs : Nat → Int) (d : Nat) (S : AH)  : ev (WK L xs) (d + 1) 212 [vr 72] S = (if (S.2 72 23) = (8 : Int) then (bindR ((ev (WK L xs) d) 210 [vr 72, vi (5 : Int), vi (S.2 72 18)] S) (fun r1 S2 => (LQ (WK L xs) (ev (WK L xs) d) 212 18 [some (vr 72)] [] S2))) else (LQ (WK L xs) (ev (WK L xs) d) 212 18 [some (vr 72)] [] S)) := by rw [ev_eq, zc_212, zr_212, zm_212]; rfl
set_option maxRecDepth 100000 in
set_option maxHeartbeats 4000000 in
theorem q_212_18 (L : Nat) (xs : Nat → Int) (d : Nat) (S : AH)  : LQ (WK L xs) (ev (WK L xs) d) 212 18 [some (vr 72)] [] S = (bindR ((ev (WK L xs) d) 207 [vr 72] S) (fun r1 S2 => (if 0 ≤ (S.2 72 24) ∧ (S.2 72 24) < (220 : Int) then (some (0, (wr (wr (wr (wr S2 93 (S.2 72 24).toNat r1) 72 24 (w32 ((S2.2 72 24) + (1 : Int)))) 72 23 (w32 ((S2.2 72 23) + (1 : Int)))) 72 18 (w32 ((S2.2 72 18) + (1 : Int)))))) else none))) := by rw [LQ_eq, zc_212, zr_212]; rfl
theorem zc_213 : csOf 213 = cs_213 := rfl
theorem zr_213 : rtOf 213 = 9 := rfl
theorem zm_213 : mlOf 213 = 1 := rfl
set_option maxRecDepth 100000 in
set_option maxHeartbeats 4000000 in
/-- SupplyBookModel.piece()V -/
theorem q_213 (L : Nat) (xs : Nat → Int) (d : Nat) (S : AH)  : ev (WK L xs) (d + 1) 213 [vr 72] S = (bindR ((ev (WK L xs) d) 205 [vr 72] S) (fun r1 S2 => (if r1 = 0 then (LQ (WK L xs) (ev (WK L xs) d) 213 32 [some (vr 72)] [] S2) else (bindR ((ev (WK L xs) d) 207 [vr 72] S2) (fun r3 S4 => (if r3 = (33 : Int) then (bindR ((ev (WK L xs) d) 212 [vr 72] S4) (fun r5 S6 => (LQ (WK L xs) (ev (WK L xs) d) 213 0 [some (vr 72)] [] S6))) else (bindR ((ev (WK L xs) d) 207 [vr 72] S4) (fun r7 S8 => (if r7 = (40 : Int) then (bindR ((ev (WK L xs) d) 212 [vr 72] S8) (fun r9 S10 => (LQ (WK L xs) (ev (WK L xs) d) 213 0 [some (vr 72)] [] S10))) else (LQ (WK L xs) (ev (WK L xs) d) 213 32 [some (vr 72)] [] S8)))))))))) := by rw [ev_eq, zc_213, zr_213, zm_213]; rfl
set_option maxRecDepth 100000 in
set_option maxHeartbeats 4000000 in
theorem q_213_0 (L : Nat) (xs : Nat → Int) (d : Nat) (S : AH)  : LQ (WK L xs) (ev (WK L xs) d) 213 0 [some (vr 72)] [] S = (bindR ((ev (WK L xs) d) 205 [vr 72] S) (fun r1 S2 => (if r1 = 0 then (LQ (WK L xs) (ev (WK L xs) d) 213 32 [some (vr 72)] [] S2) else (bindR ((ev (WK L xs) d) 207 [vr 72] S2) (fun r3 S4 => (if r3 = (33 : Int) then (bindR ((ev (WK L xs) d) 212 [vr 72] S4) (fun r5 S6 => (LQ (WK L xs) (ev (WK L xs) d) 213 0 [some (vr 72)] [] S6))) else (bindR ((ev (WK L xs) d) 207 [vr 72] S4) (fun r7 S8 => (if r7 = (40 : Int) then (bindR ((ev (WK L xs) d) 212 [vr 72] S8) (fun r9 S10 => (LQ (WK L xs) (ev (WK L xs) d) 213 0 [some (vr 72)] [] S10))) else (LQ (WK L xs) (ev (WK L xs) d) 213 32 [some (vr 72)] [] S8)))))))))) := by rw [LQ_eq, zc_213, zr_213]; rfl
set_option maxRecDepth 100000 in
set_option maxHeartbeats 4000000 in
theorem q_213_32 (L : Nat) (xs : Nat → Int) (d : Nat) (S : AH)  : LQ (WK L xs) (ev (WK L xs) d) 213 32 [some (vr 72)] [] S = (bindR ((ev (WK L xs) d) 205 [vr 72] S) (fun r1 S2 => (if r1 = 0 then (some (0, S2)) else (bindR ((ev (WK L xs) d) 207 [vr 72] S2) (fun r3 S4 => (if r3 = (117 : Int) then (bindR ((ev (WK L xs) d) 214 [vr 72, vi (39 : Int)] (wr S4 72 18 (w32 ((S4.2 72 18) + (1 : Int))))) (fun r11 S12 => (bindR ((ev (WK L xs) d) 216 [vr 72, vi (2 : Int), vi r11] S12) (fun r13 S14 => (bindR ((ev (WK L xs) d) 205 [vr 72] S14) (fun r15 S16 => (if r15 = 0 then (some (0, S16)) else (bindR ((ev (WK L xs) d) 227 [vr 72] S16) (fun r17 S18 => (some (0, S18))))))))))) else (bindR ((ev (WK L xs) d) 217 [vr 72] S4) (fun r5 S6 => (bindR ((ev (WK L xs) d) 205 [vr 72] S6) (fun r7 S8 => (if r7 = 0 then (some (0, S8)) else (bindR ((ev (WK L xs) d) 227 [vr 72] S8) (fun r9 S10 => (some (0, S10))))))))))))))) := by rw [LQ_eq, zc_213, zr_213]; rfl
theorem zc_214 : csOf 214 = cs_214 := rfl
theorem zr_214 : rtOf 214 = 0 := rfl
theorem zm_214 : mlOf 214 = 4 := rfl
set_option maxRecDepth 100000 in
set_option maxHeartbeats 4000000 in
/-- SupplyBookModel.reads(I)I -/
theorem q_214 (L : Nat) (xs : Nat → Int) (d : Nat) (S : AH) (p1 : Int) : ev (WK L xs) (d + 1) 214 [vr 72, vi p1] S = (bindR ((ev (WK L xs) d) 215 [vr 72] S) (fun r1 S2 => (if r1 = 0 then (bindR ((ev (WK L xs) d) 210 [vr 72, vi (1 : Int), vi (S2.2 72 18)] S2) (fun r3 S4 => (LQ (WK L xs) (ev (WK L xs) d) 214 23 [some (vr 72), some (vi p1), some (vi (S.2 72 18)), some (vi (0 : Int))] [] S4))) else (LQ (WK L xs) (ev (WK L xs) d) 214 23 [some (vr 72), some (vi p1), some (vi (S.2 72 18)), some (vi (0 : Int))] [] S2)))) := by rw [ev_eq, zc_214, zr_214, zm_214]; rfl
set_option maxRecDepth 100000 in
set_option maxHeartbeats 4000000 in
theorem q_214_23 (L : Nat) (xs : Nat → Int) (d : Nat) (S : AH) (x1 : Int) (x2 : Int) (x3 : Int) : LQ (WK L xs) (ev (WK L xs) d) 214 23 [some (vr 72), some (vi x1), some (vi x2), some (vi x3)] [] S = (bindR ((ev (WK L xs) d) 205 [vr 72] S) (fun r1 S2 => (if r1 = 0 then (if x1 < x3 then (bindR ((ev (WK L xs) d) 210 [vr 72, vi (3 : Int), vi x2] S2) (fun r3 S4 => (some (x3, S4)))) else (some (x3, S2))) else (bindR ((ev (WK L xs) d) 215 [vr 72] S2) (fun r5 S6 => (if r5 = 0 then (if x1 < x3 then (bindR ((ev (WK L xs) d) 210 [vr 72, vi (3 : Int), vi x2] S6) (fun r7 S8 => (some (x3, S8)))) else (some (x3, S6))) else (if (S6.2 72 18) = (w32 (x2 + (6 : Int))) then (bindR ((ev (WK L xs) d) 210 [vr 72, vi (2 : Int), vi (S6.2 72 18)] S6) (fun r9 S10 => (LQ (WK L xs) (ev (WK L xs) d) 214 57 [some (vr 72), some (vi x1), some (vi x2), some (vi x3)] [] S10))) else (LQ (WK L xs) (ev (WK L xs) d) 214 57 [some (vr 72), some (vi x1), some (vi x2), some (vi x3)] [] S6)))))))) := by rw [LQ_eq, zc_214, zr_214]; rfl
set_option maxRecDepth 100000 in
set_option maxHeartbeats 4000000 in
theorem q_214_57 (L : Nat) (xs : Nat → Int) (d : Nat) (S : AH) (x1 : Int) (x2 : Int) (x3 : Int) : LQ (WK L xs) (ev (WK L xs) d) 214 57 [some (vr 72), some (vi x1), some (vi x2), some (vi x3)] [] S = (bindR ((ev (WK L xs) d) 207 [vr 72] S) (fun r1 S2 => (LQ (WK L xs) (ev (WK L xs) d) 214 23 [some (vr 72), some (vi x1), some (vi x2), some (vi (w32 ((w32 ((w32 ((10 : Int) * x3)) + r1)) - (48 : Int))))] [] (wr S2 72 18 (w32 ((S2.2 72 18) + (1 : Int))))))) := by rw [LQ_eq, zc_214, zr_214]; rfl
theorem zc_215 : csOf 215 = cs_215 := rfl
theorem zr_215 : rtOf 215 = 4 := rfl
theorem zm_215 : mlOf 215 = 1 := rfl
set_option maxRecDepth 100000 in
set_option maxHeartbeats 4000000 in
/-- SupplyBookModel.seesDigit()Z -/
theorem q_215 (L : Nat) (xs : Nat → Int) (d : Nat) (S : AH)  : ev (WK L xs) (d + 1) 215 [vr 72] S = (bindR ((ev (WK L xs) d) 207 [vr 72] S) (fun r1 S2 => (bindR ((ev (WK L xs) d) 195 [vl r1, vl (48 : Int), vl (57 : Int)] S2) (fun r3 S4 => (if r3 = 0 ∨ r3 = 1 then (some (r3, S4)) else none))))) := by rw [ev_eq, zc_215, zr_215, zm_215]; rfl
theorem zc_216 : csOf 216 = cs_216 := rfl
theorem zr_216 : rtOf 216 = 9 := rfl
theorem zm_216 : mlOf 216 = 3 := rfl
set_option maxRecDepth 100000 in
set_option maxHeartbeats 4000000 in
/-- SupplyBookModel.emit(II)V -/
theorem q_216 (L : Nat) (xs : Nat → Int) (d : Nat) (S : AH) (p1 : Int) (p2 : Int) : ev (WK L xs) (d + 1) 216 [vr 72, vi p1, vi p2] S = (bindR ((ev (WK L xs) d) 205 [vr 72] S) (fun r1 S2 => (if r1 = 0 then (some (0, S2)) else (if 0 ≤ (S2.2 72 22) ∧ (S2.2 72 22) < (220 : Int) then (if 0 ≤ (S2.2 72 22) ∧ (S2.2 72 22) < (220 : Int) then (some (0, (wr (wr (wr S2 91 (S2.2 72 22).toNat p1) 92 (S2.2 72 22).toNat p2) 72 22 (w32 ((S2.2 72 22) + (1 : Int)))))) else none) else none)))) := by rw [ev_eq, zc_216, zr_216, zm_216]; rfl
theorem zc_217 : csOf 217 = cs_217 := rfl
theorem zr_217 : rtOf 217 = 9 := rfl
theorem zm_217 : mlOf 217 = 2 := rfl
set_option maxRecDepth 100000 in
set_option maxHeartbeats 4000000 in
/-- SupplyBookModel.expression()V -/
theorem q_217 (L : Nat) (xs : Nat → Int) (d : Nat) (S : AH)  : ev (WK L xs) (d + 1) 217 [vr 72] S = (LQ (WK L xs) (ev (WK L xs) d) 217 7 [some (vr 72), some (vi (1 : Int))] [] (wr S 72 35 (0 : Int))) := by rw [ev_eq, zc_217, zr_217, zm_217]; rfl
set_option maxRecDepth 100000 in
set_option maxHeartbeats 4000000 in
theorem q_217_7 (L : Nat) (xs : Nat → Int) (d : Nat) (S : AH) (x1 : Int) : LQ (WK L xs) (ev (WK L xs) d) 217 7 [some (vr 72), some (vi x1)] [] S = (if x1 = 0 then (some (0, S)) else (bindR ((ev (WK L xs) d) 205 [vr 72] S) (fun r1 S2 => (if r1 = 0 then (some (0, S2)) else (if (S2.2 72 35) = 0 then (bindR ((ev (WK L xs) d) 218 [vr 72] S2) (fun r3 S4 => (LQ (WK L xs) (ev (WK L xs) d) 217 29 [some (vr 72), none] [] S4))) else (LQ (WK L xs) (ev (WK L xs) d) 217 29 [some (vr 72), none] [] S2)))))) := by rw [LQ_eq, zc_217, zr_217]; rfl
set_option maxRecDepth 100000 in
set_option maxHeartbeats 4000000 in
theorem q_217_29 (L : Nat) (xs : Nat → Int) (d : Nat) (S : AH)  : LQ (WK L xs) (ev (WK L xs) d) 217 29 [some (vr 72), none] [] S = (bindR ((ev (WK L xs) d) 205 [vr 72] (wr S 72 35 (0 : Int))) (fun r1 S2 => (if r1 = 0 then (LQ (WK L xs) (ev (WK L xs) d) 217 7 [some (vr 72), some (vi (0 : Int))] [] S2) else (bindR ((ev (WK L xs) d) 220 [vr 72] S2) (fun r3 S4 => (if r3 = 0 then (LQ (WK L xs) (ev (WK L xs) d) 217 7 [some (vr 72), some (vi (0 : Int))] [] S4) else (LQ (WK L xs) (ev (WK L xs) d) 217 7 [some (vr 72), some (vi (1 : Int))] [] S4))))))) := by rw [LQ_eq, zc_217, zr_217]; rfl
theorem zc_218 : csOf 218 = cs_218 := rfl
theorem zr_218 : rtOf 218 = 9 := rfl
theorem zm_218 : mlOf 218 = 1 := rfl
set_option maxRecDepth 100000 in
set_option maxHeartbeats 4000000 in
/-- SupplyBookModel.factor()V -/
theorem q_218 (L : Nat) (xs : Nat → Int) (d : Nat) (S : AH)  : ev (WK L xs) (d + 1) 218 [vr 72] S = (bindR ((ev (WK L xs) d) 205 [vr 72] S) (fun r1 S2 => (if r1 = 0 then (LQ (WK L xs) (ev (WK L xs) d) 218 23 [some (vr 72)] [] S2) else (bindR ((ev (WK L xs) d) 207 [vr 72] S2) (fun r3 S4 => (if r3 = (91 : Int) then (bindR ((ev (WK L xs) d) 212 [vr 72] S4) (fun r5 S6 => (LQ (WK L xs) (ev (WK L xs) d) 218 0 [some (vr 72)] [] S6))) else (LQ (WK L xs) (ev (WK L xs) d) 218 23 [some (vr 72)] [] S4))))))) := by rw [ev_eq, zc_218, zr_218, zm_218]; rfl
set_option maxRecDepth 100000 in
set_option maxHeartbeats 4000000 in
theorem q_218_0 (L : Nat) (xs : Nat → Int) (d : Nat) (S : AH)  : LQ (WK L xs) (ev (WK L xs) d) 218 0 [some (vr 72)] [] S = (bindR ((ev (WK L xs) d) 205 [vr 72] S) (fun r1 S2 => (if r1 = 0 then (LQ (WK L xs) (ev (WK L xs) d) 218 23 [some (vr 72)] [] S2) else (bindR ((ev (WK L xs) d) 207 [vr 72] S2) (fun r3 S4 => (if r3 = (91 : Int) then (bindR ((ev (WK L xs) d) 212 [vr 72] S4) (fun r5 S6 => (LQ (WK L xs) (ev (WK L xs) d) 218 0 [some (vr 72)] [] S6))) else (LQ (WK L xs) (ev (WK L xs) d) 218 23 [some (vr 72)] [] S4))))))) := by rw [LQ_eq, zc_218, zr_218]; rfl
set_option maxRecDepth 100000 in
set_option maxHeartbeats 4000000 in
theorem q_218_23 (L : Nat) (xs : Nat → Int) (d : Nat) (S : AH)  : LQ (WK L xs) (ev (WK L xs) d) 218 23 [some (vr 72)] [] S = (bindR ((ev (WK L xs) d) 205 [vr 72] S) (fun r1 S2 => (if r1 = 0 then (some (0, S2)) else (bindR ((ev (WK L xs) d) 215 [vr 72] S2) (fun r3 S4 => (if r3 = 0 then (bindR ((ev (WK L xs) d) 207 [vr 72] S4) (fun r5 S6 => (bindR ((ev (WK L xs) d) 219 [vi r5] S6) (fun r7 S8 => (if r7 = 0 then (bindR ((ev (WK L xs) d) 210 [vr 72, vi (1 : Int), vi (S8.2 72 18)] S8) (fun r9 S10 => (some (0, S10)))) else (bindR ((ev (WK L xs) d) 207 [vr 72] S8) (fun r11 S12 => (bindR ((ev (WK L xs) d) 216 [vr 72, vi (1 : Int), vi r11] S12) (fun r13 S14 => (some (0, (wr S14 72 18 (w32 ((S14.2 72 18) + (1 : Int))))))))))))))) else (bindR ((ev (WK L xs) d) 214 [vr 72, vi (999999 : Int)] S4) (fun r15 S16 => (bindR ((ev (WK L xs) d) 216 [vr 72, vi (0 : Int), vi r15] S16) (fun r17 S18 => (some (0, S18)))))))))))) := by rw [LQ_eq, zc_218, zr_218]; rfl
theorem zc_219 : csOf 219 = cs_219 := rfl
theorem zr_219 : rtOf 219 = 4 := rfl
theorem zm_219 : mlOf 219 = 1 := rfl
set_option maxRecDepth 100000 in
set_option maxHeartbeats 4000000 in
/-- SupplyBookModel.isValue(I)Z -/
theorem q_219 (L : Nat) (xs : Nat → Int) (d : Nat) (S : AH) (p1 : Int) : ev (WK L xs) (d + 1) 219 [vi p1] S = (if p1 = (97 : Int) then (some ((1 : Int), S)) else (if p1 = (121 : Int) then (some ((1 : Int), S)) else (if p1 = (104 : Int) then (some ((1 : Int), S)) else (if p1 = (107 : Int) then (some ((1 : Int), S)) else (if p1 = (114 : Int) then (some ((1 : Int), S)) else (if p1 = (113 : Int) then (some ((1 : Int), S)) else (if p1 = (108 : Int) then (some ((1 : Int), S)) else (some ((0 : Int), S))))))))) := by rw [ev_eq, zc_219, zr_219, zm_219]; rfl
theorem zc_220 : csOf 220 = cs_220 := rfl
theorem zr_220 : rtOf 220 = 4 := rfl
theorem zm_220 : mlOf 220 = 2 := rfl
set_option maxRecDepth 100000 in
set_option maxHeartbeats 4000000 in
/-- SupplyBookModel.goesOn()Z -/
theorem q_220 (L : Nat) (xs : Nat → Int) (d : Nat) (S : AH)  : ev (WK L xs) (d + 1) 220 [vr 72] S = (bindR ((ev (WK L xs) d) 207 [vr 72] S) (fun r1 S2 => (bindR ((ev (WK L xs) d) 221 [vi r1] S2) (fun r3 S4 => (if r3 = 0 then (bindR ((ev (WK L xs) d) 222 [vi r1] S4) (fun r5 S6 => (if r5 = 0 then (if r1 = (93 : Int) then (bindR ((ev (WK L xs) d) 223 [vr 72, vi (1 : Int)] S6) (fun r31 S32 => (bindR ((ev (WK L xs) d) 224 [vr 72] S32) (fun r33 S34 => (if r33 = (91 : Int) then (bindR ((ev (WK L xs) d) 205 [vr 72] (wr (wr (wr S34 72 24 (w32 ((S34.2 72 24) - (1 : Int)))) 72 23 (w32 ((S34.2 72 23) - (1 : Int)))) 72 18 (w32 ((S34.2 72 18) + (1 : Int))))) (fun r35 S36 => (if r35 = 0 then (some ((0 : Int), S36)) else (bindR ((ev (WK L xs) d) 225 [vr 72] S36) (fun r37 S38 => (if r37 = 0 then (some ((0 : Int), S38)) else (some ((1 : Int), S38)))))))) else (bindR ((ev (WK L xs) d) 210 [vr 72, vi (1 : Int), vi (S34.2 72 18)] S34) (fun r39 S40 => (some ((0 : Int), S40))))))))) else (bindR ((ev (WK L xs) d) 223 [vr 72, vi (1 : Int)] S6) (fun r7 S8 => (bindR ((ev (WK L xs) d) 226 [vi r1] S8) (fun r9 S10 => (if r9 = 0 then (bindR ((ev (WK L xs) d) 224 [vr 72] S10) (fun r11 S12 => (bindR ((ev (WK L xs) d) 226 [vi r11] S12) (fun r13 S14 => (if r13 = 0 then (bindR ((ev (WK L xs) d) 210 [vr 72, vi (1 : Int), vi (S14.2 72 18)] S14) (fun r15 S16 => (some ((0 : Int), S16)))) else (bindR ((ev (WK L xs) d) 224 [vr 72] S14) (fun r17 S18 => (bindR ((ev (WK L xs) d) 216 [vr 72, vi r17, vi (0 : Int)] S18) (fun r19 S20 => (some ((0 : Int), (wr S20 72 24 (w32 ((S20.2 72 24) - (1 : Int))))))))))))))) else (bindR ((ev (WK L xs) d) 224 [vr 72] S10) (fun r21 S22 => (if r21 = (91 : Int) then (bindR ((ev (WK L xs) d) 210 [vr 72, vi (1 : Int), vi (S22.2 72 18)] S22) (fun r23 S24 => (LQ (WK L xs) (ev (WK L xs) d) 220 180 [some (vr 72), some (vi r1)] [] S24))) else (bindR ((ev (WK L xs) d) 224 [vr 72] S22) (fun r25 S26 => (bindR ((ev (WK L xs) d) 226 [vi r25] S26) (fun r27 S28 => (if r27 = 0 then (LQ (WK L xs) (ev (WK L xs) d) 220 180 [some (vr 72), some (vi r1)] [] S28) else (bindR ((ev (WK L xs) d) 210 [vr 72, vi (1 : Int), vi (S28.2 72 18)] S28) (fun r29 S30 => (LQ (WK L xs) (ev (WK L xs) d) 220 180 [some (vr 72), some (vi r1)] [] S30))))))))))))))))) else (LQ (WK L xs) (ev (WK L xs) d) 220 19 [some (vr 72), some (vi r1)] [] S6)))) else (LQ (WK L xs) (ev (WK L xs) d) 220 19 [some (vr 72), some (vi r1)] [] S4)))))) := by rw [ev_eq, zc_220, zr_220, zm_220]; rfl
set_option maxRecDepth 100000 in
set_option maxHeartbeats 4000000 in
theorem q_220_19 (L : Nat) (xs : Nat → Int) (d : Nat) (S : AH) (x1 : Int) : LQ (WK L xs) (ev (WK L xs) d) 220 19 [some (vr 72), some (vi x1)] [] S = (bindR ((ev (WK L xs) d) 222 [vi x1] S) (fun r1 S2 => (bindR ((ev (WK L xs) d) 223 [vr 72, vi r1] S2) (fun r3 S4 => (if 0 ≤ (S4.2 72 24) ∧ (S4.2 72 24) < (220 : Int) then (some ((1 : Int), (wr (wr (wr S4 93 (S4.2 72 24).toNat x1) 72 24 (w32 ((S4.2 72 24) + (1 : Int)))) 72 18 (w32 ((S4.2 72 18) + (1 : Int)))))) else none))))) := by rw [LQ_eq, zc_220, zr_220]; rfl
set_option maxRecDepth 100000 in
set_option maxHeartbeats 4000000 in
theorem q_220_180 (L : Nat) (xs : Nat → Int) (d : Nat) (S : AH) (x1 : Int) : LQ (WK L xs) (ev (WK L xs) d) 220 180 [some (vr 72), some (vi x1)] [] S = (if 0 ≤ (S.2 72 24) ∧ (S.2 72 24) < (220 : Int) then (some ((1 : Int), (wr (wr (wr S 93 (S.2 72 24).toNat x1) 72 24 (w32 ((S.2 72 24) + (1 : Int)))) 72 18 (w32 ((S.2 72 18) + (1 : Int)))))) else none) := by rw [LQ_eq, zc_220, zr_220]; rfl
theorem zc_221 : csOf 221 = cs_221 := rfl
theorem zr_221 : rtOf 221 = 4 := rfl
theorem zm_221 : mlOf 221 = 1 := rfl
set_option maxRecDepth 100000 in
set_option maxHeartbeats 4000000 in
/-- SupplyBookModel.isTimes(I)Z -/
theorem q_221 (L : Nat) (xs : Nat → Int) (d : Nat) (S : AH) (p1 : Int) : ev (WK L xs) (d + 1) 221 [vi p1] S = (if p1 = (42 : Int) then (some ((1 : Int), S)) else (if p1 = (47 : Int) then (some ((1 : Int), S)) else (if p1 = (37 : Int) then (some ((1 : Int), S)) else (some ((0 : Int), S))))) := by rw [ev_eq, zc_221, zr_221, zm_221]; rfl
theorem zc_222 : csOf 222 = cs_222 := rfl
theorem zr_222 : rtOf 222 = 4 := rfl
theorem zm_222 : mlOf 222 = 1 := rfl
set_option maxRecDepth 100000 in
set_option maxHeartbeats 4000000 in
/-- SupplyBookModel.isPlus(I)Z -/
theorem q_222 (L : Nat) (xs : Nat → Int) (d : Nat) (S : AH) (p1 : Int) : ev (WK L xs) (d + 1) 222 [vi p1] S = (if p1 = (43 : Int) then (some ((1 : Int), S)) else (if p1 = (45 : Int) then (some ((1 : Int), S)) else (some ((0 : Int), S)))) := by rw [ev_eq, zc_222, zr_222, zm_222]; rfl
theorem zc_223 : csOf 223 = cs_223 := rfl
theorem zr_223 : rtOf 223 = 9 := rfl
theorem zm_223 : mlOf 223 = 2 := rfl
set_option maxRecDepth 100000 in
set_option maxHeartbeats 4000000 in
/-- SupplyBookModel.sums(Z)V -/
theorem q_223 (L : Nat) (xs : Nat → Int) (d : Nat) (S : AH) (p1 : Int) : ev (WK L xs) (d + 1) 223 [vr 72, vi p1] S = (bindR ((ev (WK L xs) d) 224 [vr 72] S) (fun r1 S2 => (bindR ((ev (WK L xs) d) 221 [vi r1] S2) (fun r3 S4 => (if r3 = 0 then (if p1 = 0 then (some (0, S4)) else (bindR ((ev (WK L xs) d) 224 [vr 72] S4) (fun r9 S10 => (bindR ((ev (WK L xs) d) 222 [vi r9] S10) (fun r11 S12 => (if r11 = 0 then (some (0, S12)) else (bindR ((ev (WK L xs) d) 224 [vr 72] S12) (fun r13 S14 => (bindR ((ev (WK L xs) d) 216 [vr 72, vi r13, vi (0 : Int)] S14) (fun r15 S16 => (LQ (WK L xs) (ev (WK L xs) d) 223 0 [some (vr 72), some (vi p1)] [] (wr S16 72 24 (w32 ((S16.2 72 24) - (1 : Int))))))))))))))) else (bindR ((ev (WK L xs) d) 224 [vr 72] S4) (fun r5 S6 => (bindR ((ev (WK L xs) d) 216 [vr 72, vi r5, vi (0 : Int)] S6) (fun r7 S8 => (LQ (WK L xs) (ev (WK L xs) d) 223 0 [some (vr 72), some (vi p1)] [] (wr S8 72 24 (w32 ((S8.2 72 24) - (1 : Int)))))))))))))) := by rw [ev_eq, zc_223, zr_223, zm_223]; rfl
set_option maxRecDepth 100000 in
set_option maxHeartbeats 4000000 in
theorem q_223_0 (L : Nat) (xs : Nat → Int) (d : Nat) (S : AH) (x1 : Int) : LQ (WK L xs) (ev (WK L xs) d) 223 0 [some (vr 72), some (vi x1)] [] S = (bindR ((ev (WK L xs) d) 224 [vr 72] S) (fun r1 S2 => (bindR ((ev (WK L xs) d) 221 [vi r1] S2) (fun r3 S4 => (if r3 = 0 then (if x1 = 0 then (some (0, S4)) else (bindR ((ev (WK L xs) d) 224 [vr 72] S4) (fun r9 S10 => (bindR ((ev (WK L xs) d) 222 [vi r9] S10) (fun r11 S12 => (if r11 = 0 then (some (0, S12)) else (bindR ((ev (WK L xs) d) 224 [vr 72] S12) (fun r13 S14 => (bindR ((ev (WK L xs) d) 216 [vr 72, vi r13, vi (0 : Int)] S14) (fun r15 S16 => (LQ (WK L xs) (ev (WK L xs) d) 223 0 [some (vr 72), some (vi x1)] [] (wr S16 72 24 (w32 ((S16.2 72 24) - (1 : Int))))))))))))))) else (bindR ((ev (WK L xs) d) 224 [vr 72] S4) (fun r5 S6 => (bindR ((ev (WK L xs) d) 216 [vr 72, vi r5, vi (0 : Int)] S6) (fun r7 S8 => (LQ (WK L xs) (ev (WK L xs) d) 223 0 [some (vr 72), some (vi x1)] [] (wr S8 72 24 (w32 ((S8.2 72 24) - (1 : Int)))))))))))))) := by rw [LQ_eq, zc_223, zr_223]; rfl
theorem zc_224 : csOf 224 = cs_224 := rfl
theorem zr_224 : rtOf 224 = 0 := rfl
theorem zm_224 : mlOf 224 = 1 := rfl
set_option maxRecDepth 100000 in
set_option maxHeartbeats 4000000 in
/-- SupplyBookModel.top()I -/
theorem q_224 (L : Nat) (xs : Nat → Int) (d : Nat) (S : AH)  : ev (WK L xs) (d + 1) 224 [vr 72] S = (if 0 < (S.2 72 24) then (if 0 ≤ (w32 ((S.2 72 24) - (1 : Int))) ∧ (w32 ((S.2 72 24) - (1 : Int))) < (220 : Int) then (some ((S.2 93 (w32 ((S.2 72 24) - (1 : Int))).toNat), S)) else none) else (some ((0 : Int), S))) := by rw [ev_eq, zc_224, zr_224, zm_224]; rfl
theorem zc_225 : csOf 225 = cs_225 := rfl
theorem zr_225 : rtOf 225 = 4 := rfl
theorem zm_225 : mlOf 225 = 1 := rfl
set_option maxRecDepth 100000 in
set_option maxHeartbeats 4000000 in
/-- SupplyBookModel.goesOnBehind()Z -/
theorem q_225 (L : Nat) (xs : Nat → Int) (d : Nat) (S : AH)  : ev (WK L xs) (d + 1) 225 [vr 72] S = (some ((1 : Int), (wr S 72 35 (1 : Int)))) := by rw [ev_eq, zc_225, zr_225, zm_225]; rfl
theorem zc_226 : csOf 226 = cs_226 := rfl
theorem zr_226 : rtOf 226 = 4 := rfl
theorem zm_226 : mlOf 226 = 1 := rfl
set_option maxRecDepth 100000 in
set_option maxHeartbeats 4000000 in
/-- SupplyBookModel.isSign(I)Z -/
theorem q_226 (L : Nat) (xs : Nat → Int) (d : Nat) (S : AH) (p1 : Int) : ev (WK L xs) (d + 1) 226 [vi p1] S = (if p1 = (60 : Int) then (some ((1 : Int), S)) else (if p1 = (62 : Int) then (some ((1 : Int), S)) else (if p1 = (61 : Int) then (some ((1 : Int), S)) else (some ((0 : Int), S))))) := by rw [ev_eq, zc_226, zr_226, zm_226]; rfl
theorem zc_227 : csOf 227 = cs_227 := rfl
theorem zr_227 : rtOf 227 = 9 := rfl
theorem zm_227 : mlOf 227 = 1 := rfl
set_option maxRecDepth 100000 in
set_option maxHeartbeats 4000000 in
/-- SupplyBookModel.ends()V -/
theorem q_227 (L : Nat) (xs : Nat → Int) (d : Nat) (S : AH)  : ev (WK L xs) (d + 1) 227 [vr 72] S = (bindR ((ev (WK L xs) d) 224 [vr 72] S) (fun r1 S2 => (if r1 = (33 : Int) then (bindR ((ev (WK L xs) d) 216 [vr 72, vi (3 : Int), vi (0 : Int)] S2) (fun r3 S4 => (LQ (WK L xs) (ev (WK L xs) d) 227 0 [some (vr 72)] [] (wr (wr S4 72 24 (w32 ((S4.2 72 24) - (1 : Int)))) 72 23 (w32 ((S4.2 72 23) - (1 : Int))))))) else (some (0, S2))))) := by rw [ev_eq, zc_227, zr_227, zm_227]; rfl
set_option maxRecDepth 100000 in
set_option maxHeartbeats 4000000 in
theorem q_227_0 (L : Nat) (xs : Nat → Int) (d : Nat) (S : AH)  : LQ (WK L xs) (ev (WK L xs) d) 227 0 [some (vr 72)] [] S = (bindR ((ev (WK L xs) d) 224 [vr 72] S) (fun r1 S2 => (if r1 = (33 : Int) then (bindR ((ev (WK L xs) d) 216 [vr 72, vi (3 : Int), vi (0 : Int)] S2) (fun r3 S4 => (LQ (WK L xs) (ev (WK L xs) d) 227 0 [some (vr 72)] [] (wr (wr S4 72 24 (w32 ((S4.2 72 24) - (1 : Int)))) 72 23 (w32 ((S4.2 72 23) - (1 : Int))))))) else (some (0, S2))))) := by rw [LQ_eq, zc_227, zr_227]; rfl
theorem zc_228 : csOf 228 = cs_228 := rfl
theorem zr_228 : rtOf 228 = 4 := rfl
theorem zm_228 : mlOf 228 = 2 := rfl
set_option maxRecDepth 100000 in
set_option maxHeartbeats 4000000 in
/-- SupplyBookModel.goesBehind()Z -/
theorem q_228 (L : Nat) (xs : Nat → Int) (d : Nat) (S : AH)  : ev (WK L xs) (d + 1) 228 [vr 72] S = (bindR ((ev (WK L xs) d) 207 [vr 72] S) (fun r1 S2 => (if r1 = (38 : Int) then (if r1 = (124 : Int) then (LQ (WK L xs) (ev (WK L xs) d) 228 29 [some (vr 72), some (vi r1)] [vi (1 : Int), vr 72] S2) else (LQ (WK L xs) (ev (WK L xs) d) 228 29 [some (vr 72), some (vi r1)] [vi (0 : Int), vr 72] S2)) else (if r1 = (124 : Int) then (if r1 = (124 : Int) then (LQ (WK L xs) (ev (WK L xs) d) 228 29 [some (vr 72), some (vi r1)] [vi (1 : Int), vr 72] S2) else (LQ (WK L xs) (ev (WK L xs) d) 228 29 [some (vr 72), some (vi r1)] [vi (0 : Int), vr 72] S2)) else (if r1 = (41 : Int) then (bindR ((ev (WK L xs) d) 229 [vr 72, vi (1 : Int)] S2) (fun r3 S4 => (if (w32 ((S4.2 72 24) - (1 : Int))) = 0 then (if (1 : Int) = 0 then (bindR ((ev (WK L xs) d) 227 [vr 72] (wr (wr (wr (wr S4 72 24 (w32 ((S4.2 72 24) - (1 : Int)))) 72 23 (w32 ((S4.2 72 23) - (1 : Int)))) 72 18 (w32 ((S4.2 72 18) + (1 : Int)))) 72 26 (1 : Int))) (fun r7 S8 => (some ((0 : Int), S8)))) else (some ((0 : Int), (wr (wr (wr (wr S4 72 24 (w32 ((S4.2 72 24) - (1 : Int)))) 72 23 (w32 ((S4.2 72 23) - (1 : Int)))) 72 18 (w32 ((S4.2 72 18) + (1 : Int)))) 72 26 (1 : Int))))) else (if (0 : Int) = 0 then (bindR ((ev (WK L xs) d) 227 [vr 72] (wr (wr (wr (wr S4 72 24 (w32 ((S4.2 72 24) - (1 : Int)))) 72 23 (w32 ((S4.2 72 23) - (1 : Int)))) 72 18 (w32 ((S4.2 72 18) + (1 : Int)))) 72 26 (0 : Int))) (fun r5 S6 => (some ((0 : Int), S6)))) else (some ((0 : Int), (wr (wr (wr (wr S4 72 24 (w32 ((S4.2 72 24) - (1 : Int)))) 72 23 (w32 ((S4.2 72 23) - (1 : Int)))) 72 18 (w32 ((S4.2 72 18) + (1 : Int)))) 72 26 (0 : Int)))))))) else (bindR ((ev (WK L xs) d) 210 [vr 72, vi (1 : Int), vi (S2.2 72 18)] S2) (fun r9 S10 => (some ((0 : Int), S10))))))))) := by rw [ev_eq, zc_228, zr_228, zm_228]; rfl
set_option maxRecDepth 100000 in
set_option maxHeartbeats 4000000 in
theorem q_228_29 (L : Nat) (xs : Nat → Int) (d : Nat) (S : AH) (x1 : Int) (t0 : Int) : LQ (WK L xs) (ev (WK L xs) d) 228 29 [some (vr 72), some (vi x1)] [vi t0, vr 72] S = (bindR ((ev (WK L xs) d) 229 [vr 72, vi t0] S) (fun r1 S2 => (if 0 ≤ (S2.2 72 24) ∧ (S2.2 72 24) < (220 : Int) then (some ((1 : Int), (wr (wr (wr S2 93 (S2.2 72 24).toNat x1) 72 24 (w32 ((S2.2 72 24) + (1 : Int)))) 72 18 (w32 ((S2.2 72 18) + (1 : Int)))))) else none))) := by rw [LQ_eq, zc_228, zr_228]; rfl
theorem zc_229 : csOf 229 = cs_229 := rfl
theorem zr_229 : rtOf 229 = 9 := rfl
theorem zm_229 : mlOf 229 = 2 := rfl
set_option maxRecDepth 100000 in
set_option maxHeartbeats 4000000 in
/-- SupplyBookModel.joins(Z)V -/
theorem q_229 (L : Nat) (xs : Nat → Int) (d : Nat) (S : AH) (p1 : Int) : ev (WK L xs) (d + 1) 229 [vr 72, vi p1] S = (bindR ((ev (WK L xs) d) 224 [vr 72] S) (fun r1 S2 => (if r1 = (38 : Int) then (bindR ((ev (WK L xs) d) 224 [vr 72] S2) (fun r3 S4 => (bindR ((ev (WK L xs) d) 216 [vr 72, vi r3, vi (0 : Int)] S4) (fun r5 S6 => (LQ (WK L xs) (ev (WK L xs) d) 229 0 [some (vr 72), some (vi p1)] [] (wr S6 72 24 (w32 ((S6.2 72 24) - (1 : Int))))))))) else (if p1 = 0 then (some (0, S2)) else (bindR ((ev (WK L xs) d) 224 [vr 72] S2) (fun r7 S8 => (if r7 = (124 : Int) then (bindR ((ev (WK L xs) d) 224 [vr 72] S8) (fun r9 S10 => (bindR ((ev (WK L xs) d) 216 [vr 72, vi r9, vi (0 : Int)] S10) (fun r11 S12 => (LQ (WK L xs) (ev (WK L xs) d) 229 0 [some (vr 72), some (vi p1)] [] (wr S12 72 24 (w32 ((S12.2 72 24) - (1 : Int))))))))) else (some (0, S8))))))))) := by rw [ev_eq, zc_229, zr_229, zm_229]; rfl
set_option maxRecDepth 100000 in
set_option maxHeartbeats 4000000 in
theorem q_229_0 (L : Nat) (xs : Nat → Int) (d : Nat) (S : AH) (x1 : Int) : LQ (WK L xs) (ev (WK L xs) d) 229 0 [some (vr 72), some (vi x1)] [] S = (bindR ((ev (WK L xs) d) 224 [vr 72] S) (fun r1 S2 => (if r1 = (38 : Int) then (bindR ((ev (WK L xs) d) 224 [vr 72] S2) (fun r3 S4 => (bindR ((ev (WK L xs) d) 216 [vr 72, vi r3, vi (0 : Int)] S4) (fun r5 S6 => (LQ (WK L xs) (ev (WK L xs) d) 229 0 [some (vr 72), some (vi x1)] [] (wr S6 72 24 (w32 ((S6.2 72 24) - (1 : Int))))))))) else (if x1 = 0 then (some (0, S2)) else (bindR ((ev (WK L xs) d) 224 [vr 72] S2) (fun r7 S8 => (if r7 = (124 : Int) then (bindR ((ev (WK L xs) d) 224 [vr 72] S8) (fun r9 S10 => (bindR ((ev (WK L xs) d) 216 [vr 72, vi r9, vi (0 : Int)] S10) (fun r11 S12 => (LQ (WK L xs) (ev (WK L xs) d) 229 0 [some (vr 72), some (vi x1)] [] (wr S12 72 24 (w32 ((S12.2 72 24) - (1 : Int))))))))) else (some (0, S8))))))))) := by rw [LQ_eq, zc_229, zr_229]; rfl
theorem zc_230 : csOf 230 = cs_230 := rfl
theorem zr_230 : rtOf 230 = 9 := rfl
theorem zm_230 : mlOf 230 = 3 := rfl
set_option maxRecDepth 100000 in
set_option maxHeartbeats 4000000 in
/-- SupplyBookModel.keepsText(I)V -/
theorem q_230 (L : Nat) (xs : Nat → Int) (d : Nat) (S : AH) (p1 : Int) : ev (WK L xs) (d + 1) 230 [vr 72, vi p1] S = (if 0 ≤ p1 ∧ p1 < (100 : Int) then (LQ (WK L xs) (ev (WK L xs) d) 230 12 [some (vr 72), some (vi p1), some (vi (0 : Int))] [] (wr S 78 p1.toNat (S.2 72 21))) else none) := by rw [ev_eq, zc_230, zr_230, zm_230]; rfl
set_option maxRecDepth 100000 in
set_option maxHeartbeats 4000000 in
theorem q_230_12 (L : Nat) (xs : Nat → Int) (d : Nat) (S : AH) (x1 : Int) (x2 : Int) : LQ (WK L xs) (ev (WK L xs) d) 230 12 [some (vr 72), some (vi x1), some (vi x2)] [] S = (if x2 < (S.2 72 21) then (if 0 ≤ x2 ∧ x2 < (16 : Int) then (if 0 ≤ (w32 ((w32 ((16 : Int) * x1)) + x2)) ∧ (w32 ((w32 ((16 : Int) * x1)) + x2)) < (1600 : Int) then (if 0 ≤ x2 ∧ x2 < (16 : Int) then (if 0 ≤ (w32 ((w32 ((16 : Int) * x1)) + x2)) ∧ (w32 ((w32 ((16 : Int) * x1)) + x2)) < (1600 : Int) then (if 0 ≤ x2 ∧ x2 < (16 : Int) then (if 0 ≤ (w32 ((w32 ((16 : Int) * x1)) + x2)) ∧ (w32 ((w32 ((16 : Int) * x1)) + x2)) < (1600 : Int) then (if 0 ≤ x2 ∧ x2 < (16 : Int) then (if 0 ≤ (w32 ((w32 ((16 : Int) * x1)) + x2)) ∧ (w32 ((w32 ((16 : Int) * x1)) + x2)) < (1600 : Int) then (if 0 ≤ x2 ∧ x2 < (16 : Int) then (if 0 ≤ (w32 ((w32 ((16 : Int) * x1)) + x2)) ∧ (w32 ((w32 ((16 : Int) * x1)) + x2)) < (1600 : Int) then (LQ (WK L xs) (ev (WK L xs) d) 230 12 [some (vr 72), some (vi x1), some (vi (w32 (x2 + (1 : Int))))] [] (wr (wr (wr (wr (wr S 79 (w32 ((w32 ((16 : Int) * x1)) + x2)).toNat (S.2 86 x2.toNat)) 80 (w32 ((w32 ((16 : Int) * x1)) + x2)).toNat (S.2 87 x2.toNat)) 81 (w32 ((w32 ((16 : Int) * x1)) + x2)).toNat (S.2 88 x2.toNat)) 82 (w32 ((w32 ((16 : Int) * x1)) + x2)).toNat (S.2 89 x2.toNat)) 83 (w32 ((w32 ((16 : Int) * x1)) + x2)).toNat (S.2 90 x2.toNat))) else none) else none) else none) else none) else none) else none) else none) else none) else none) else none) else (LQ (WK L xs) (ev (WK L xs) d) 230 113 [some (vr 72), some (vi x1), some (vi (0 : Int))] [] S)) := by rw [LQ_eq, zc_230, zr_230]; rfl
set_option maxRecDepth 100000 in
set_option maxHeartbeats 4000000 in
theorem q_230_113 (L : Nat) (xs : Nat → Int) (d : Nat) (S : AH) (x1 : Int) (x2 : Int) : LQ (WK L xs) (ev (WK L xs) d) 230 113 [some (vr 72), some (vi x1), some (vi x2)] [] S = (if x2 < (S.2 72 22) then (if 0 ≤ x2 ∧ x2 < (220 : Int) then (if 0 ≤ (w32 ((w32 ((200 : Int) * x1)) + x2)) ∧ (w32 ((w32 ((200 : Int) * x1)) + x2)) < (20000 : Int) then (if 0 ≤ x2 ∧ x2 < (220 : Int) then (if 0 ≤ (w32 ((w32 ((200 : Int) * x1)) + x2)) ∧ (w32 ((w32 ((200 : Int) * x1)) + x2)) < (20000 : Int) then (LQ (WK L xs) (ev (WK L xs) d) 230 113 [some (vr 72), some (vi x1), some (vi (w32 (x2 + (1 : Int))))] [] (wr (wr S 84 (w32 ((w32 ((200 : Int) * x1)) + x2)).toNat (S.2 91 x2.toNat)) 85 (w32 ((w32 ((200 : Int) * x1)) + x2)).toNat (S.2 92 x2.toNat))) else none) else none) else none) else none) else (some (0, S))) := by rw [LQ_eq, zc_230, zr_230]; rfl
theorem zc_231 : csOf 231 = cs_231 := rfl
theorem zr_231 : rtOf 231 = 0 := rfl
theorem zm_231 : mlOf 231 = 5 := rfl
set_option maxRecDepth 100000 in
set_option maxHeartbeats 4000000 in
/-- SupplyBookModel.counts(II)I -/
theorem q_231 (L : Nat) (xs : Nat → Int) (d : Nat) (S : AH) (p1 : Int) (p2 : Int) : ev (WK L xs) (d + 1) 231 [vr 72, vi p1, vi p2] S = (bindR ((ev (WK L xs) d) 195 [vl p1, vl (0 : Int), vl (w32 ((S.2 72 36) - (1 : Int)))] S) (fun r1 S2 => (if r1 = 0 then (some ((-1 : Int), S2)) else (bindR ((ev (WK L xs) d) 195 [vl p2, vl (0 : Int), vl (3599 : Int)] S2) (fun r3 S4 => (if r3 = 0 then (some ((-1 : Int), S4)) else (bindR ((ev (WK L xs) d) 232 [vr 72, vi p2] S4) (fun r5 S6 => (LQ (WK L xs) (ev (WK L xs) d) 231 40 [some (vr 72), some (vi p1), some (vi p2), some (vi (0 : Int)), some (vi (0 : Int))] [] S6))))))))) := by rw [ev_eq, zc_231, zr_231, zm_231]; rfl
set_option maxRecDepth 100000 in
set_option maxHeartbeats 4000000 in
theorem q_231_40 (L : Nat) (xs : Nat → Int) (d : Nat) (S : AH) (x1 : Int) (x2 : Int) (x3 : Int) (x4 : Int) : LQ (WK L xs) (ev (WK L xs) d) 231 40 [some (vr 72), some (vi x1), some (vi x2), some (vi x3), some (vi x4)] [] S = (if 0 ≤ x1 ∧ x1 < (100 : Int) then (if x4 < (S.2 78 x1.toNat) then (bindR ((ev (WK L xs) d) 234 [vr 72, vi x1, vi x4, vi x2] S) (fun r1 S2 => (if r1 = 0 then (LQ (WK L xs) (ev (WK L xs) d) 231 40 [some (vr 72), some (vi x1), some (vi x2), some (vi (w32 (x3 + (0 : Int)))), some (vi (w32 (x4 + (1 : Int))))] [] S2) else (LQ (WK L xs) (ev (WK L xs) d) 231 40 [some (vr 72), some (vi x1), some (vi x2), some (vi (w32 (x3 + (1 : Int)))), some (vi (w32 (x4 + (1 : Int))))] [] S2)))) else (some (x3, S))) else none) := by rw [LQ_eq, zc_231, zr_231]; rfl
theorem zc_232 : csOf 232 = cs_232 := rfl
theorem zr_232 : rtOf 232 = 9 := rfl
theorem zm_232 : mlOf 232 = 4 := rfl
set_option maxRecDepth 100000 in
set_option maxHeartbeats 4000000 in
/-- SupplyBookModel.strikes(I)V -/
theorem q_232 (L : Nat) (xs : Nat → Int) (d : Nat) (S : AH) (p1 : Int) : ev (WK L xs) (d + 1) 232 [vr 72, vi p1] S = (LQ (WK L xs) (ev (WK L xs) d) 232 2 [some (vr 72), some (vi p1), some (vi (0 : Int)), none] [] S) := by rw [ev_eq, zc_232, zr_232, zm_232]; rfl
set_option maxRecDepth 100000 in
set_option maxHeartbeats 4000000 in
theorem q_232_2 (L : Nat) (xs : Nat → Int) (d : Nat) (S : AH) (x1 : Int) (x2 : Int) : LQ (WK L xs) (ev (WK L xs) d) 232 2 [some (vr 72), some (vi x1), some (vi x2), none] [] S = (if x2 < (320 : Int) then (if 0 ≤ x2 ∧ x2 < (320 : Int) then (LQ (WK L xs) (ev (WK L xs) d) 232 2 [some (vr 72), some (vi x1), some (vi (w32 (x2 + (1 : Int)))), none] [] (wr S 96 x2.toNat (0 : Int))) else none) else (LQ (WK L xs) (ev (WK L xs) d) 232 29 [some (vr 72), some (vi x1), some (vi (w32 ((S.2 72 36) - (1 : Int)))), none] [] S)) := by rw [LQ_eq, zc_232, zr_232]; rfl
set_option maxRecDepth 100000 in
set_option maxHeartbeats 4000000 in
theorem q_232_29 (L : Nat) (xs : Nat → Int) (d : Nat) (S : AH) (x1 : Int) (x2 : Int) : LQ (WK L xs) (ev (WK L xs) d) 232 29 [some (vr 72), some (vi x1), some (vi x2), none] [] S = (if x2 < 0 then (some (0, S)) else (LQ (WK L xs) (ev (WK L xs) d) 232 38 [some (vr 72), some (vi x1), some (vi x2), some (vi (w32 ((16 : Int) * x2)))] [] S)) := by rw [LQ_eq, zc_232, zr_232]; rfl
set_option maxRecDepth 100000 in
set_option maxHeartbeats 4000000 in
theorem q_232_38 (L : Nat) (xs : Nat → Int) (d : Nat) (S : AH) (x1 : Int) (x2 : Int) (x3 : Int) : LQ (WK L xs) (ev (WK L xs) d) 232 38 [some (vr 72), some (vi x1), some (vi x2), some (vi x3)] [] S = (if 0 ≤ x2 ∧ x2 < (100 : Int) then (if x3 < (w32 ((w32 ((16 : Int) * x2)) + (S.2 78 x2.toNat))) then (bindR ((ev (WK L xs) d) 233 [vr 72, vi x2, vi x1] S) (fun r1 S2 => (if r1 = 0 then (LQ (WK L xs) (ev (WK L xs) d) 232 29 [some (vr 72), some (vi x1), some (vi (w32 (x2 + (-1 : Int)))), none] [] S2) else (if 0 ≤ x3 ∧ x3 < (320 : Int) then (if (S2.2 96 x3.toNat) = 0 then (if 0 ≤ x3 ∧ x3 < (1600 : Int) then (if (S2.2 79 x3.toNat) = (120 : Int) then (if 0 ≤ x3 ∧ x3 < (1600 : Int) then (if (S2.2 80 x3.toNat) < x2 then (if 0 ≤ x3 ∧ x3 < (1600 : Int) then (if 0 ≤ x3 ∧ x3 < (1600 : Int) then (if 0 ≤ (w32 ((w32 ((16 : Int) * (S2.2 80 x3.toNat))) + (S2.2 81 x3.toNat))) ∧ (w32 ((w32 ((16 : Int) * (S2.2 80 x3.toNat))) + (S2.2 81 x3.toNat))) < (320 : Int) then (LQ (WK L xs) (ev (WK L xs) d) 232 38 [some (vr 72), some (vi x1), some (vi x2), some (vi (w32 (x3 + (1 : Int))))] [] (wr S2 96 (w32 ((w32 ((16 : Int) * (S2.2 80 x3.toNat))) + (S2.2 81 x3.toNat))).toNat (1 : Int))) else none) else none) else none) else (LQ (WK L xs) (ev (WK L xs) d) 232 38 [some (vr 72), some (vi x1), some (vi x2), some (vi (w32 (x3 + (1 : Int))))] [] S2)) else none) else (LQ (WK L xs) (ev (WK L xs) d) 232 38 [some (vr 72), some (vi x1), some (vi x2), some (vi (w32 (x3 + (1 : Int))))] [] S2)) else none) else (LQ (WK L xs) (ev (WK L xs) d) 232 38 [some (vr 72), some (vi x1), some (vi x2), some (vi (w32 (x3 + (1 : Int))))] [] S2)) else none)))) else (LQ (WK L xs) (ev (WK L xs) d) 232 29 [some (vr 72), some (vi x1), some (vi (w32 (x2 + (-1 : Int)))), none] [] S)) else none) := by rw [LQ_eq, zc_232, zr_232]; rfl
theorem zc_233 : csOf 233 = cs_233 := rfl
theorem zr_233 : rtOf 233 = 4 := rfl
theorem zm_233 : mlOf 233 = 3 := rfl
set_option maxRecDepth 100000 in
set_option maxHeartbeats 4000000 in
/-- SupplyBookModel.isInForce(II)Z -/
theorem q_233 (L : Nat) (xs : Nat → Int) (d : Nat) (S : AH) (p1 : Int) (p2 : Int) : ev (WK L xs) (d + 1) 233 [vr 72, vi p1, vi p2] S = (if 0 ≤ p1 ∧ p1 < (20 : Int) then (if 0 ≤ p1 ∧ p1 < (20 : Int) then (bindR ((ev (WK L xs) d) 195 [vl p2, vl (S.2 94 p1.toNat), vl (S.2 95 p1.toNat)] S) (fun r1 S2 => (if r1 = 0 ∨ r1 = 1 then (some (r1, S2)) else none))) else none) else none) := by rw [ev_eq, zc_233, zr_233, zm_233]; rfl
theorem zc_234 : csOf 234 = cs_234 := rfl
theorem zr_234 : rtOf 234 = 4 := rfl
theorem zm_234 : mlOf 234 = 4 := rfl
set_option maxRecDepth 100000 in
set_option maxHeartbeats 4000000 in
/-- SupplyBookModel.isCounted(III)Z -/
theorem q_234 (L : Nat) (xs : Nat → Int) (d : Nat) (S : AH) (p1 : Int) (p2 : Int) (p3 : Int) : ev (WK L xs) (d + 1) 234 [vr 72, vi p1, vi p2, vi p3] S = (bindR ((ev (WK L xs) d) 233 [vr 72, vi p1, vi p3] S) (fun r1 S2 => (if r1 = 0 then (some ((0 : Int), S2)) else (if 0 ≤ (w32 ((w32 ((16 : Int) * p1)) + p2)) ∧ (w32 ((w32 ((16 : Int) * p1)) + p2)) < (320 : Int) then (if (S2.2 96 (w32 ((w32 ((16 : Int) * p1)) + p2)).toNat) = 0 then (some ((1 : Int), S2)) else (some ((0 : Int), S2))) else none)))) := by rw [ev_eq, zc_234, zr_234, zm_234]; rfl
theorem zc_235 : csOf 235 = cs_235 := rfl
theorem zr_235 : rtOf 235 = 0 := rfl
theorem zm_235 : mlOf 235 = 3 := rfl
set_option maxRecDepth 100000 in
set_option maxHeartbeats 4000000 in
/-- SupplyBookModel.number(II)I -/
theorem q_235 (L : Nat) (xs : Nat → Int) (d : Nat) (S : AH) (p1 : Int) (p2 : Int) : ev (WK L xs) (d + 1) 235 [vr 72, vi p1, vi p2] S = (bindR ((ev (WK L xs) d) 195 [vl p2, vl (0 : Int), vl (3599 : Int)] S) (fun r1 S2 => (if r1 = 0 then (some ((-1 : Int), S2)) else (if p1 = (0 : Int) then (bindR ((ev (WK L xs) d) 236 [vr 72, vi (109 : Int), vi p2] S2) (fun r11 S12 => (some (r11, S12)))) else (if p1 = (1 : Int) then (bindR ((ev (WK L xs) d) 236 [vr 72, vi (99 : Int), vi p2] S2) (fun r9 S10 => (some (r9, S10)))) else (if p1 = (2 : Int) then (bindR ((ev (WK L xs) d) 236 [vr 72, vi (98 : Int), vi p2] S2) (fun r7 S8 => (some (r7, S8)))) else (if p1 = (3 : Int) then (bindR ((ev (WK L xs) d) 236 [vr 72, vi (101 : Int), vi p2] S2) (fun r5 S6 => (some (r5, S6)))) else (if p1 = (4 : Int) then (bindR ((ev (WK L xs) d) 236 [vr 72, vi (100 : Int), vi p2] S2) (fun r3 S4 => (some (r3, S4)))) else (some ((-1 : Int), S2)))))))))) := by rw [ev_eq, zc_235, zr_235, zm_235]; rfl
theorem zc_236 : csOf 236 = cs_236 := rfl
theorem zr_236 : rtOf 236 = 0 := rfl
theorem zm_236 : mlOf 236 = 5 := rfl
set_option maxRecDepth 100000 in
set_option maxHeartbeats 4000000 in
/-- SupplyBookModel.numberOf(II)I -/
theorem q_236 (L : Nat) (xs : Nat → Int) (d : Nat) (S : AH) (p1 : Int) (p2 : Int) : ev (WK L xs) (d + 1) 236 [vr 72, vi p1, vi p2] S = (bindR ((ev (WK L xs) d) 232 [vr 72, vi p2] S) (fun r1 S2 => (LQ (WK L xs) (ev (WK L xs) d) 236 12 [some (vr 72), some (vi p1), some (vi p2), some (vi (w32 ((S2.2 72 36) - (1 : Int)))), none] [] S2))) := by rw [ev_eq, zc_236, zr_236, zm_236]; rfl
set_option maxRecDepth 100000 in
set_option maxHeartbeats 4000000 in
theorem q_236_12 (L : Nat) (xs : Nat → Int) (d : Nat) (S : AH) (x1 : Int) (x2 : Int) (x3 : Int) : LQ (WK L xs) (ev (WK L xs) d) 236 12 [some (vr 72), some (vi x1), some (vi x2), some (vi x3), none] [] S = (if x3 < 0 then (if x1 = (109 : Int) then (some ((10 : Int), S)) else (if x1 = (100 : Int) then (some ((30 : Int), S)) else (some ((0 : Int), S)))) else (if 0 ≤ x3 ∧ x3 < (100 : Int) then (LQ (WK L xs) (ev (WK L xs) d) 236 26 [some (vr 72), some (vi x1), some (vi x2), some (vi x3), some (vi (w32 ((S.2 78 x3.toNat) - (1 : Int))))] [] S) else none)) := by rw [LQ_eq, zc_236, zr_236]; rfl
set_option maxRecDepth 100000 in
set_option maxHeartbeats 4000000 in
theorem q_236_26 (L : Nat) (xs : Nat → Int) (d : Nat) (S : AH) (x1 : Int) (x2 : Int) (x3 : Int) (x4 : Int) : LQ (WK L xs) (ev (WK L xs) d) 236 26 [some (vr 72), some (vi x1), some (vi x2), some (vi x3), some (vi x4)] [] S = (if x4 < 0 then (LQ (WK L xs) (ev (WK L xs) d) 236 12 [some (vr 72), some (vi x1), some (vi x2), some (vi (w32 (x3 + (-1 : Int)))), none] [] S) else (if 0 ≤ (w32 ((w32 ((16 : Int) * x3)) + x4)) ∧ (w32 ((w32 ((16 : Int) * x3)) + x4)) < (1600 : Int) then (if (S.2 79 (w32 ((w32 ((16 : Int) * x3)) + x4)).toNat) = x1 then (bindR ((ev (WK L xs) d) 234 [vr 72, vi x3, vi x4, vi x2] S) (fun r1 S2 => (if r1 = 0 then (LQ (WK L xs) (ev (WK L xs) d) 236 26 [some (vr 72), some (vi x1), some (vi x2), some (vi x3), some (vi (w32 (x4 + (-1 : Int))))] [] S2) else (if 0 ≤ (w32 ((w32 ((16 : Int) * x3)) + x4)) ∧ (w32 ((w32 ((16 : Int) * x3)) + x4)) < (1600 : Int) then (some ((S2.2 80 (w32 ((w32 ((16 : Int) * x3)) + x4)).toNat), S2)) else none)))) else (LQ (WK L xs) (ev (WK L xs) d) 236 26 [some (vr 72), some (vi x1), some (vi x2), some (vi x3), some (vi (w32 (x4 + (-1 : Int))))] [] S)) else none)) := by rw [LQ_eq, zc_236, zr_236]; rfl
theorem zc_237 : csOf 237 = cs_237 := rfl
theorem zr_237 : rtOf 237 = 0 := rfl
theorem zm_237 : mlOf 237 = 8 := rfl
set_option maxRecDepth 100000 in
set_option maxHeartbeats 4000000 in
/-- SupplyBookModel.vote(IIIII)I -/
theorem q_237 (L : Nat) (xs : Nat → Int) (d : Nat) (S : AH) (p1 : Int) (p2 : Int) (p3 : Int) (p4 : Int) (p5 : Int) : ev (WK L xs) (d + 1) 237 [vr 72, vi p1, vi p2, vi p3, vi p4, vi p5] S = (if (S.2 72 40) = (80 : Int) then (some ((-1 : Int), S)) else (if p1 = 0 then (LQ (WK L xs) (ev (WK L xs) d) 237 23 [some (vr 72), some (vi p1), some (vi p2), some (vi p3), some (vi p4), some (vi p5), none, none] [] S) else (if p1 = (2 : Int) then (LQ (WK L xs) (ev (WK L xs) d) 237 23 [some (vr 72), some (vi p1), some (vi p2), some (vi p3), some (vi p4), some (vi p5), none, none] [] S) else (if p1 = (3 : Int) then (LQ (WK L xs) (ev (WK L xs) d) 237 23 [some (vr 72), some (vi p1), some (vi p2), some (vi p3), some (vi p4), some (vi p5), none, none] [] S) else (some ((-1 : Int), S)))))) := by rw [ev_eq, zc_237, zr_237, zm_237]; rfl
set_option maxRecDepth 100000 in
set_option maxHeartbeats 4000000 in
theorem q_237_23 (L : Nat) (xs : Nat → Int) (d : Nat) (S : AH) (x1 : Int) (x2 : Int) (x3 : Int) (x4 : Int) (x5 : Int) : LQ (WK L xs) (ev (WK L xs) d) 237 23 [some (vr 72), some (vi x1), some (vi x2), some (vi x3), some (vi x4), some (vi x5), none, none] [] S = (bindR ((ev (WK L xs) d) 197 [vr 72, vi x2] S) (fun r1 S2 => (if r1 = 0 then (some ((-1 : Int), S2)) else (bindR ((ev (WK L xs) d) 238 [vi x3] S2) (fun r3 S4 => (if r3 = 0 then (some ((-1 : Int), S4)) else (bindR ((ev (WK L xs) d) 195 [vl x4, vl (0 : Int), vl (9 : Int)] S4) (fun r5 S6 => (if r5 = 0 then (some ((-1 : Int), S6)) else (bindR ((ev (WK L xs) d) 195 [vl x5, vl (0 : Int), vl (200 : Int)] S6) (fun r7 S8 => (if r7 = 0 then (some ((-1 : Int), S8)) else (if (S8.2 72 1) < x5 then (some ((-1 : Int), S8)) else (bindR ((ev (WK L xs) d) 204 [vr 72, vi x5, vi (0 : Int)] S8) (fun r9 S10 => (if r9 < 0 then (some (r9, S10)) else (bindR ((ev (WK L xs) d) 239 [vr 72, vi x1, vi x2, vi x3, vi x4] S10) (fun r11 S12 => (bindR ((ev (WK L xs) d) 230 [vr 72, vi (w32 ((20 : Int) + r11))] S12) (fun r13 S14 => (some (r11, S14)))))))))))))))))))))) := by rw [LQ_eq, zc_237, zr_237]; rfl
theorem zc_238 : csOf 238 = cs_238 := rfl
theorem zr_238 : rtOf 238 = 4 := rfl
theorem zm_238 : mlOf 238 = 1 := rfl
set_option maxRecDepth 100000 in
set_option maxHeartbeats 4000000 in
/-- SupplyBookModel.isSum(I)Z -/
theorem q_238 (L : Nat) (xs : Nat → Int) (d : Nat) (S : AH) (p1 : Int) : ev (WK L xs) (d + 1) 238 [vi p1] S = (bindR ((ev (WK L xs) d) 195 [vl p1, vl (0 : Int), vl (1000000000 : Int)] S) (fun r1 S2 => (if r1 = 0 ∨ r1 = 1 then (some (r1, S2)) else none))) := by rw [ev_eq, zc_238, zr_238, zm_238]; rfl
theorem zc_239 : csOf 239 = cs_239 := rfl
theorem zr_239 : rtOf 239 = 0 := rfl
theorem zm_239 : mlOf 239 = 6 := rfl
set_option maxRecDepth 100000 in
set_option maxHeartbeats 4000000 in
/-- SupplyBookModel.makes(IIII)I -/
theorem q_239 (L : Nat) (xs : Nat → Int) (d : Nat) (S : AH) (p1 : Int) (p2 : Int) (p3 : Int) (p4 : Int) : ev (WK L xs) (d + 1) 239 [vr 72, vi p1, vi p2, vi p3, vi p4] S = (if 0 ≤ (S.2 72 40) ∧ (S.2 72 40) < (80 : Int) then (if 0 ≤ (S.2 72 40) ∧ (S.2 72 40) < (80 : Int) then (if 0 ≤ (S.2 72 40) ∧ (S.2 72 40) < (80 : Int) then (if 0 ≤ (S.2 72 40) ∧ (S.2 72 40) < (80 : Int) then (if 0 ≤ (S.2 72 40) ∧ (S.2 72 40) < (80 : Int) then (if 0 ≤ (S.2 72 40) ∧ (S.2 72 40) < (80 : Int) then (if 0 ≤ (S.2 72 40) ∧ (S.2 72 40) < (80 : Int) then (if 0 ≤ (S.2 72 40) ∧ (S.2 72 40) < (80 : Int) then (if 0 ≤ (w32 ((20 : Int) + (S.2 72 40))) ∧ (w32 ((20 : Int) + (S.2 72 40))) < (100 : Int) then (some ((S.2 72 40), (wr (wr (wr (wr (wr (wr (wr (wr (wr (wr S 97 (S.2 72 40).toNat p1) 98 (S.2 72 40).toNat p2) 99 (S.2 72 40).toNat p3) 100 (S.2 72 40).toNat p4) 101 (S.2 72 40).toNat (-1 : Int)) 102 (S.2 72 40).toNat (-1 : Int)) 103 (S.2 72 40).toNat (-1 : Int)) 104 (S.2 72 40).toNat (S.2 72 2)) 78 (w32 ((20 : Int) + (S.2 72 40))).toNat (0 : Int)) 72 40 (w32 ((S.2 72 40) + (1 : Int)))))) else none) else none) else none) else none) else none) else none) else none) else none) else none) := by rw [ev_eq, zc_239, zr_239, zm_239]; rfl
theorem zc_240 : csOf 240 = cs_240 := rfl
theorem zr_240 : rtOf 240 = 0 := rfl
theorem zm_240 : mlOf 240 = 5 := rfl
set_option maxRecDepth 100000 in
set_option maxHeartbeats 4000000 in
/-- SupplyBookModel.ceiling(III)I -/
theorem q_240 (L : Nat) (xs : Nat → Int) (d : Nat) (S : AH) (p1 : Int) (p2 : Int) (p3 : Int) : ev (WK L xs) (d + 1) 240 [vr 72, vi p1, vi p2, vi p3] S = (if (S.2 72 40) = (80 : Int) then (some ((-1 : Int), S)) else (bindR ((ev (WK L xs) d) 241 [vr 72, vi p1] S) (fun r1 S2 => (if r1 = 0 then (some ((-1 : Int), S2)) else (if 0 ≤ p1 ∧ p1 < (80 : Int) then (if (S2.2 97 p1.toNat) = (1 : Int) then (some ((-1 : Int), S2)) else (bindR ((ev (WK L xs) d) 197 [vr 72, vi p2] S2) (fun r3 S4 => (if r3 = 0 then (some ((-1 : Int), S4)) else (if 0 ≤ p1 ∧ p1 < (80 : Int) then (bindR ((ev (WK L xs) d) 199 [vr 72, vi p2, vi (S4.2 98 p1.toNat)] S4) (fun r5 S6 => (if r5 = 0 then (some ((-1 : Int), S6)) else (bindR ((ev (WK L xs) d) 238 [vi p3] S6) (fun r7 S8 => (if r7 = 0 then (some ((-1 : Int), S8)) else (if 0 ≤ p1 ∧ p1 < (80 : Int) then (bindR ((ev (WK L xs) d) 239 [vr 72, vi (1 : Int), vi p2, vi p3, vi (S8.2 100 p1.toNat)] S8) (fun r9 S10 => (if 0 ≤ r9 ∧ r9 < (80 : Int) then (some (r9, (wr S10 102 r9.toNat p1))) else none))) else none))))))) else none))))) else none))))) := by rw [ev_eq, zc_240, zr_240, zm_240]; rfl
theorem zc_241 : csOf 241 = cs_241 := rfl
theorem zr_241 : rtOf 241 = 4 := rfl
theorem zm_241 : mlOf 241 = 2 := rfl
set_option maxRecDepth 100000 in
set_option maxHeartbeats 4000000 in
/-- SupplyBookModel.isAuthority(I)Z -/
theorem q_241 (L : Nat) (xs : Nat → Int) (d : Nat) (S : AH) (p1 : Int) : ev (WK L xs) (d + 1) 241 [vr 72, vi p1] S = (bindR ((ev (WK L xs) d) 195 [vl p1, vl (0 : Int), vl (w32 ((S.2 72 40) - (1 : Int)))] S) (fun r1 S2 => (if r1 = 0 ∨ r1 = 1 then (some (r1, S2)) else none))) := by rw [ev_eq, zc_241, zr_241, zm_241]; rfl
theorem zc_242 : csOf 242 = cs_242 := rfl
theorem zr_242 : rtOf 242 = 0 := rfl
theorem zm_242 : mlOf 242 = 6 := rfl
set_option maxRecDepth 100000 in
set_option maxHeartbeats 4000000 in
/-- SupplyBookModel.advance(II)I -/
theorem q_242 (L : Nat) (xs : Nat → Int) (d : Nat) (S : AH) (p1 : Int) (p2 : Int) : ev (WK L xs) (d + 1) 242 [vr 72, vi p1, vi p2] S = (if (S.2 72 40) = (80 : Int) then (some ((-1 : Int), S)) else (bindR ((ev (WK L xs) d) 197 [vr 72, vi p1] S) (fun r1 S2 => (if r1 = 0 then (some ((-1 : Int), S2)) else (bindR ((ev (WK L xs) d) 238 [vi p2] S2) (fun r3 S4 => (if r3 = 0 then (some ((-1 : Int), S4)) else (LQ (WK L xs) (ev (WK L xs) d) 242 32 [some (vr 72), some (vi p1), some (vi p2), some (vl p2), none, some (vi (0 : Int))] [] S4)))))))) := by rw [ev_eq, zc_242, zr_242, zm_242]; rfl
set_option maxRecDepth 100000 in
set_option maxHeartbeats 4000000 in
theorem q_242_32 (L : Nat) (xs : Nat → Int) (d : Nat) (S : AH) (x1 : Int) (x2 : Int) (x3 : Int) (x5 : Int) : LQ (WK L xs) (ev (WK L xs) d) 242 32 [some (vr 72), some (vi x1), some (vi x2), some (vl x3), none, some (vi x5)] [] S = (if x5 < (S.2 72 40) then (if 0 ≤ x5 ∧ x5 < (80 : Int) then (if (S.2 97 x5.toNat) = (4 : Int) then (if 0 ≤ x5 ∧ x5 < (80 : Int) then (bindR ((ev (WK L xs) d) 243 [vr 72] S) (fun r7 S8 => (if (S.2 100 x5.toNat) = r7 then (if 0 ≤ x5 ∧ x5 < (80 : Int) then (LQ (WK L xs) (ev (WK L xs) d) 242 32 [some (vr 72), some (vi x1), some (vi x2), some (vl (w64 (x3 + (S8.2 99 x5.toNat)))), none, some (vi (w32 (x5 + (1 : Int))))] [] S8) else none) else (LQ (WK L xs) (ev (WK L xs) d) 242 32 [some (vr 72), some (vi x1), some (vi x2), some (vl (w64 (x3 + (0 : Int)))), none, some (vi (w32 (x5 + (1 : Int))))] [] S8)))) else none) else (LQ (WK L xs) (ev (WK L xs) d) 242 32 [some (vr 72), some (vi x1), some (vi x2), some (vl (w64 (x3 + (0 : Int)))), none, some (vi (w32 (x5 + (1 : Int))))] [] S)) else none) else (bindR ((ev (WK L xs) d) 236 [vr 72, vi (101 : Int), vi (S.2 72 2)] S) (fun r1 S2 => (if 0 < (lcmp x3 (w64 ((1000 : Int) * r1))) then (some ((-1 : Int), S2)) else (bindR ((ev (WK L xs) d) 243 [vr 72] S2) (fun r3 S4 => (bindR ((ev (WK L xs) d) 239 [vr 72, vi (4 : Int), vi x1, vi x2, vi r3] S4) (fun r5 S6 => (some (r5, S6)))))))))) := by rw [LQ_eq, zc_242, zr_242]; rfl
theorem zc_243 : csOf 243 = cs_243 := rfl
theorem zr_243 : rtOf 243 = 0 := rfl
theorem zm_243 : mlOf 243 = 1 := rfl
set_option maxRecDepth 100000 in
set_option maxHeartbeats 4000000 in
/-- SupplyBookModel.year()I -/
theorem q_243 (L : Nat) (xs : Nat → Int) (d : Nat) (S : AH)  : ev (WK L xs) (d + 1) 243 [vr 72] S = (some ((idiv (S.2 72 2) (360 : Int)), S)) := by rw [ev_eq, zc_243, zr_243, zm_243]; rfl
theorem zc_244 : csOf 244 = cs_244 := rfl
theorem zr_244 : rtOf 244 = 1 := rfl
theorem zm_244 : mlOf 244 = 3 := rfl
set_option maxRecDepth 100000 in
set_option maxHeartbeats 4000000 in
/-- SupplyBookModel.left(II)J -/
theorem q_244 (L : Nat) (xs : Nat → Int) (d : Nat) (S : AH) (p1 : Int) (p2 : Int) : ev (WK L xs) (d + 1) 244 [vr 72, vi p1, vi p2] S = (bindR ((ev (WK L xs) d) 241 [vr 72, vi p1] S) (fun r1 S2 => (if r1 = 0 then (some ((-1000000000000 : Int), S2)) else (bindR ((ev (WK L xs) d) 195 [vl p2, vl (0 : Int), vl (9 : Int)] S2) (fun r3 S4 => (if r3 = 0 then (some ((-1000000000000 : Int), S4)) else (bindR ((ev (WK L xs) d) 245 [vr 72, vi p1, vi p2] S4) (fun r5 S6 => (if r5 = 0 then (some ((-1000000000000 : Int), S6)) else (bindR ((ev (WK L xs) d) 246 [vr 72, vi p1, vi p2] S6) (fun r7 S8 => (some (r7, S8))))))))))))) := by rw [ev_eq, zc_244, zr_244, zm_244]; rfl
theorem zc_245 : csOf 245 = cs_245 := rfl
theorem zr_245 : rtOf 245 = 4 := rfl
theorem zm_245 : mlOf 245 = 4 := rfl
set_option maxRecDepth 100000 in
set_option maxHeartbeats 4000000 in
/-- SupplyBookModel.isOf(II)Z -/
theorem q_245 (L : Nat) (xs : Nat → Int) (d : Nat) (S : AH) (p1 : Int) (p2 : Int) : ev (WK L xs) (d + 1) 245 [vr 72, vi p1, vi p2] S = (if 0 ≤ p1 ∧ p1 < (80 : Int) then (if (S.2 97 p1.toNat) = (1 : Int) then (if 0 ≤ p1 ∧ p1 < (80 : Int) then (LQ (WK L xs) (ev (WK L xs) d) 245 20 [some (vr 72), none, some (vi p2), none] [vi (S.2 102 p1.toNat)] S) else none) else (LQ (WK L xs) (ev (WK L xs) d) 245 20 [some (vr 72), none, some (vi p2), none] [vi p1] S)) else none) := by rw [ev_eq, zc_245, zr_245, zm_245]; rfl
set_option maxRecDepth 100000 in
set_option maxHeartbeats 4000000 in
theorem q_245_20 (L : Nat) (xs : Nat → Int) (d : Nat) (S : AH) (x2 : Int) (t0 : Int) : LQ (WK L xs) (ev (WK L xs) d) 245 20 [some (vr 72), none, some (vi x2), none] [vi t0] S = (if 0 ≤ t0 ∧ t0 < (80 : Int) then (if (S.2 97 t0.toNat) = (3 : Int) then (if 0 ≤ t0 ∧ t0 < (80 : Int) then (if x2 < (S.2 100 t0.toNat) then (some ((0 : Int), S)) else (some ((1 : Int), S))) else none) else (if 0 ≤ t0 ∧ t0 < (80 : Int) then (if x2 = (S.2 100 t0.toNat) then (some ((1 : Int), S)) else (some ((0 : Int), S))) else none)) else none) := by rw [LQ_eq, zc_245, zr_245]; rfl
theorem zc_246 : csOf 246 = cs_246 := rfl
theorem zr_246 : rtOf 246 = 1 := rfl
theorem zm_246 : mlOf 246 = 6 := rfl
set_option maxRecDepth 100000 in
set_option maxHeartbeats 4000000 in
/-- SupplyBookModel.leftOf(II)J -/
theorem q_246 (L : Nat) (xs : Nat → Int) (d : Nat) (S : AH) (p1 : Int) (p2 : Int) : ev (WK L xs) (d + 1) 246 [vr 72, vi p1, vi p2] S = (if 0 ≤ p1 ∧ p1 < (80 : Int) then (if (S.2 97 p1.toNat) = (1 : Int) then (if 0 ≤ p1 ∧ p1 < (80 : Int) then (if 0 ≤ p1 ∧ p1 < (80 : Int) then (if 0 ≤ p1 ∧ p1 < (80 : Int) then (bindR ((ev (WK L xs) d) 247 [vr 72, vi (S.2 102 p1.toNat), vi p2, vi (S.2 98 p1.toNat)] S) (fun r1 S2 => (some ((w64 ((S.2 99 p1.toNat) - r1)), S2)))) else none) else none) else none) else (if 0 ≤ p1 ∧ p1 < (80 : Int) then (if (S.2 97 p1.toNat) = (4 : Int) then (if 0 ≤ p1 ∧ p1 < (80 : Int) then (if (S.2 102 p1.toNat) = (-1 : Int) then (LQ (WK L xs) (ev (WK L xs) d) 246 58 [some (vr 72), some (vi p1), some (vi p2), none, none, none] [] S) else (some ((0 : Int), S))) else none) else (LQ (WK L xs) (ev (WK L xs) d) 246 58 [some (vr 72), some (vi p1), some (vi p2), none, none, none] [] S)) else none)) else none) := by rw [ev_eq, zc_246, zr_246, zm_246]; rfl
set_option maxRecDepth 100000 in
set_option maxHeartbeats 4000000 in
theorem q_246_58 (L : Nat) (xs : Nat → Int) (d : Nat) (S : AH) (x1 : Int) (x2 : Int) : LQ (WK L xs) (ev (WK L xs) d) 246 58 [some (vr 72), some (vi x1), some (vi x2), none, none, none] [] S = (if 0 ≤ x1 ∧ x1 < (80 : Int) then (if 0 ≤ x1 ∧ x1 < (80 : Int) then (if 0 ≤ x1 ∧ x1 < (80 : Int) then (bindR ((ev (WK L xs) d) 247 [vr 72, vi x1, vi x2, vi (-1 : Int)] S) (fun r1 S2 => (LQ (WK L xs) (ev (WK L xs) d) 246 91 [some (vr 72), some (vi x1), some (vi x2), some (vl (w64 ((w64 ((w64 ((S.2 99 x1.toNat) + (S.2 106 x1.toNat))) - (S.2 107 x1.toNat))) - r1))), none, some (vi (0 : Int))] [] S2))) else none) else none) else none) := by rw [LQ_eq, zc_246, zr_246]; rfl
set_option maxRecDepth 100000 in
set_option maxHeartbeats 4000000 in
theorem q_246_91 (L : Nat) (xs : Nat → Int) (d : Nat) (S : AH) (x1 : Int) (x2 : Int) (x3 : Int) (x5 : Int) : LQ (WK L xs) (ev (WK L xs) d) 246 91 [some (vr 72), some (vi x1), some (vi x2), some (vl x3), none, some (vi x5)] [] S = (if x5 < (S.2 72 70) then (if 0 ≤ x5 ∧ x5 < (20 : Int) then (if (S.2 124 x5.toNat) = x1 then (bindR ((ev (WK L xs) d) 250 [vr 72, vi x5, vi x2] S) (fun r1 S2 => (LQ (WK L xs) (ev (WK L xs) d) 246 91 [some (vr 72), some (vi x1), some (vi x2), some (vl (w64 (x3 - r1))), none, some (vi (w32 (x5 + (1 : Int))))] [] S2))) else (LQ (WK L xs) (ev (WK L xs) d) 246 91 [some (vr 72), some (vi x1), some (vi x2), some (vl (w64 (x3 - (0 : Int)))), none, some (vi (w32 (x5 + (1 : Int))))] [] S)) else none) else (some (x3, S))) := by rw [LQ_eq, zc_246, zr_246]; rfl
theorem zc_247 : csOf 247 = cs_247 := rfl
theorem zr_247 : rtOf 247 = 1 := rfl
theorem zm_247 : mlOf 247 = 7 := rfl
set_option maxRecDepth 100000 in
set_option maxHeartbeats 4000000 in
/-- SupplyBookModel.paidBy(III)J -/
theorem q_247 (L : Nat) (xs : Nat → Int) (d : Nat) (S : AH) (p1 : Int) (p2 : Int) (p3 : Int) : ev (WK L xs) (d + 1) 247 [vr 72, vi p1, vi p2, vi p3] S = (LQ (WK L xs) (ev (WK L xs) d) 247 6 [some (vr 72), some (vi p1), some (vi p2), some (vi p3), some (vl (0 : Int)), none, some (vi (0 : Int))] [] S) := by rw [ev_eq, zc_247, zr_247, zm_247]; rfl
set_option maxRecDepth 100000 in
set_option maxHeartbeats 4000000 in
theorem q_247_6 (L : Nat) (xs : Nat → Int) (d : Nat) (S : AH) (x1 : Int) (x2 : Int) (x3 : Int) (x4 : Int) (x6 : Int) : LQ (WK L xs) (ev (WK L xs) d) 247 6 [some (vr 72), some (vi x1), some (vi x2), some (vi x3), some (vl x4), none, some (vi x6)] [] S = (if x6 < (S.2 72 52) then (bindR ((ev (WK L xs) d) 248 [vr 72, vi x6, vi x2] S) (fun r1 S2 => (if r1 = 0 then (LQ (WK L xs) (ev (WK L xs) d) 247 6 [some (vr 72), some (vi x1), some (vi x2), some (vi x3), some (vl x4), none, some (vi (w32 (x6 + (1 : Int))))] [] S2) else (bindR ((ev (WK L xs) d) 249 [vr 72, vi x6] S2) (fun r3 S4 => (if r3 = x1 then (if x3 = (-1 : Int) then (if 0 ≤ x6 ∧ x6 < (300 : Int) then (LQ (WK L xs) (ev (WK L xs) d) 247 6 [some (vr 72), some (vi x1), some (vi x2), some (vi x3), some (vl (w64 (x4 + (S4.2 111 x6.toNat)))), none, some (vi (w32 (x6 + (1 : Int))))] [] S4) else none) else (if 0 ≤ x6 ∧ x6 < (300 : Int) then (bindR ((ev (WK L xs) d) 199 [vr 72, vi (S4.2 109 x6.toNat), vi x3] S4) (fun r5 S6 => (if r5 = 0 then (LQ (WK L xs) (ev (WK L xs) d) 247 6 [some (vr 72), some (vi x1), some (vi x2), some (vi x3), some (vl x4), none, some (vi (w32 (x6 + (1 : Int))))] [] S6) else (if 0 ≤ x6 ∧ x6 < (300 : Int) then (LQ (WK L xs) (ev (WK L xs) d) 247 6 [some (vr 72), some (vi x1), some (vi x2), some (vi x3), some (vl (w64 (x4 + (S6.2 111 x6.toNat)))), none, some (vi (w32 (x6 + (1 : Int))))] [] S6) else none)))) else none)) else (LQ (WK L xs) (ev (WK L xs) d) 247 6 [some (vr 72), some (vi x1), some (vi x2), some (vi x3), some (vl x4), none, some (vi (w32 (x6 + (1 : Int))))] [] S4))))))) else (some (x4, S))) := by rw [LQ_eq, zc_247, zr_247]; rfl
theorem zc_248 : csOf 248 = cs_248 := rfl
theorem zr_248 : rtOf 248 = 4 := rfl
theorem zm_248 : mlOf 248 = 3 := rfl
set_option maxRecDepth 100000 in
set_option maxHeartbeats 4000000 in
/-- SupplyBookModel.isPaidIn(II)Z -/
theorem q_248 (L : Nat) (xs : Nat → Int) (d : Nat) (S : AH) (p1 : Int) (p2 : Int) : ev (WK L xs) (d + 1) 248 [vr 72, vi p1, vi p2] S = (if 0 ≤ p1 ∧ p1 < (300 : Int) then (if (S.2 115 p1.toNat) = (-1 : Int) then (some ((0 : Int), S)) else (if 0 ≤ p1 ∧ p1 < (300 : Int) then (if (idiv (S.2 115 p1.toNat) (360 : Int)) = p2 then (some ((1 : Int), S)) else (some ((0 : Int), S))) else none)) else none) := by rw [ev_eq, zc_248, zr_248, zm_248]; rfl
theorem zc_249 : csOf 249 = cs_249 := rfl
theorem zr_249 : rtOf 249 = 0 := rfl
theorem zm_249 : mlOf 249 = 2 := rfl
set_option maxRecDepth 100000 in
set_option maxHeartbeats 4000000 in
/-- SupplyBookModel.countsBy(I)I -/
theorem q_249 (L : Nat) (xs : Nat → Int) (d : Nat) (S : AH) (p1 : Int) : ev (WK L xs) (d + 1) 249 [vr 72, vi p1] S = (if 0 ≤ p1 ∧ p1 < (300 : Int) then (if (S.2 116 p1.toNat) = (-1 : Int) then (if 0 ≤ p1 ∧ p1 < (300 : Int) then (some ((S.2 116 p1.toNat), S)) else none) else (if 0 ≤ p1 ∧ p1 < (300 : Int) then (if 0 ≤ (S.2 116 p1.toNat) ∧ (S.2 116 p1.toNat) < (80 : Int) then (if (S.2 97 (S.2 116 p1.toNat).toNat) = (4 : Int) then (if 0 ≤ p1 ∧ p1 < (300 : Int) then (if 0 ≤ (S.2 116 p1.toNat) ∧ (S.2 116 p1.toNat) < (80 : Int) then (if (S.2 102 (S.2 116 p1.toNat).toNat) = (-1 : Int) then (if 0 ≤ p1 ∧ p1 < (300 : Int) then (some ((S.2 116 p1.toNat), S)) else none) else (if 0 ≤ p1 ∧ p1 < (300 : Int) then (if 0 ≤ (S.2 116 p1.toNat) ∧ (S.2 116 p1.toNat) < (80 : Int) then (some ((S.2 102 (S.2 116 p1.toNat).toNat), S)) else none) else none)) else none) else none) else (if 0 ≤ p1 ∧ p1 < (300 : Int) then (some ((S.2 116 p1.toNat), S)) else none)) else none) else none)) else none) := by rw [ev_eq, zc_249, zr_249, zm_249]; rfl
theorem zc_250 : csOf 250 = cs_250 := rfl
theorem zr_250 : rtOf 250 = 1 := rfl
theorem zm_250 : mlOf 250 = 6 := rfl
set_option maxRecDepth 100000 in
set_option maxHeartbeats 4000000 in
/-- SupplyBookModel.boundBy(II)J -/
theorem q_250 (L : Nat) (xs : Nat → Int) (d : Nat) (S : AH) (p1 : Int) (p2 : Int) : ev (WK L xs) (d + 1) 250 [vr 72, vi p1, vi p2] S = (if 0 ≤ p1 ∧ p1 < (20 : Int) then (if 0 ≤ p1 ∧ p1 < (20 : Int) then (bindR ((ev (WK L xs) d) 195 [vl p2, vl (S.2 126 p1.toNat), vl (S.2 127 p1.toNat)] S) (fun r1 S2 => (if r1 = 0 then (some ((0 : Int), S2)) else (if 0 ≤ p1 ∧ p1 < (20 : Int) then (LQ (WK L xs) (ev (WK L xs) d) 250 35 [some (vr 72), some (vi p1), some (vi p2), some (vl (S2.2 125 p1.toNat)), none, some (vi (0 : Int))] [] S2) else none)))) else none) else none) := by rw [ev_eq, zc_250, zr_250, zm_250]; rfl
set_option maxRecDepth 100000 in
set_option maxHeartbeats 4000000 in
theorem q_250_35 (L : Nat) (xs : Nat → Int) (d : Nat) (S : AH) (x1 : Int) (x2 : Int) (x3 : Int) (x5 : Int) : LQ (WK L xs) (ev (WK L xs) d) 250 35 [some (vr 72), some (vi x1), some (vi x2), some (vl x3), none, some (vi x5)] [] S = (if x5 < (S.2 72 52) then (if 0 ≤ x5 ∧ x5 < (300 : Int) then (if (S.2 112 x5.toNat) = x1 then (bindR ((ev (WK L xs) d) 248 [vr 72, vi x5, vi x2] S) (fun r1 S2 => (if r1 = 0 then (LQ (WK L xs) (ev (WK L xs) d) 250 35 [some (vr 72), some (vi x1), some (vi x2), some (vl (w64 (x3 - (0 : Int)))), none, some (vi (w32 (x5 + (1 : Int))))] [] S2) else (if 0 ≤ x5 ∧ x5 < (300 : Int) then (LQ (WK L xs) (ev (WK L xs) d) 250 35 [some (vr 72), some (vi x1), some (vi x2), some (vl (w64 (x3 - (S2.2 111 x5.toNat)))), none, some (vi (w32 (x5 + (1 : Int))))] [] S2) else none)))) else (LQ (WK L xs) (ev (WK L xs) d) 250 35 [some (vr 72), some (vi x1), some (vi x2), some (vl (w64 (x3 - (0 : Int)))), none, some (vi (w32 (x5 + (1 : Int))))] [] S)) else none) else (some (x3, S))) := by rw [LQ_eq, zc_250, zr_250]; rfl
theorem zc_251 : csOf 251 = cs_251 := rfl
theorem zr_251 : rtOf 251 = 0 := rfl
theorem zm_251 : mlOf 251 = 6 := rfl
set_option maxRecDepth 100000 in
set_option maxHeartbeats 4000000 in
/-- SupplyBookModel.commit(IIII)I -/
theorem q_251 (L : Nat) (xs : Nat → Int) (d : Nat) (S : AH) (p1 : Int) (p2 : Int) (p3 : Int) (p4 : Int) : ev (WK L xs) (d + 1) 251 [vr 72, vi p1, vi p2, vi p3, vi p4] S = (if (S.2 72 70) = (20 : Int) then (some ((-1 : Int), S)) else (bindR ((ev (WK L xs) d) 241 [vr 72, vi p1] S) (fun r1 S2 => (if r1 = 0 then (some ((-1 : Int), S2)) else (if 0 ≤ p1 ∧ p1 < (80 : Int) then (if (S2.2 97 p1.toNat) = (1 : Int) then (some ((-1 : Int), S2)) else (if 0 ≤ p1 ∧ p1 < (80 : Int) then (if (S2.2 97 p1.toNat) = (4 : Int) then (some ((-1 : Int), S2)) else (if 0 ≤ p1 ∧ p1 < (80 : Int) then (if (S2.2 101 p1.toNat) = (-1 : Int) then (bindR ((ev (WK L xs) d) 238 [vi p2] S2) (fun r3 S4 => (if r3 = 0 then (some ((-1 : Int), S4)) else (bindR ((ev (WK L xs) d) 195 [vl p3, vl (0 : Int), vl (9 : Int)] S4) (fun r5 S6 => (if r5 = 0 then (some ((-1 : Int), S6)) else (bindR ((ev (WK L xs) d) 195 [vl p4, vl p3, vl (9 : Int)] S6) (fun r7 S8 => (if r7 = 0 then (some ((-1 : Int), S8)) else (LQ (WK L xs) (ev (WK L xs) d) 251 85 [some (vr 72), some (vi p1), some (vi p2), some (vi p3), some (vi p4), some (vi p3)] [] S8)))))))))) else (some ((-1 : Int), S2))) else none)) else none)) else none))))) := by rw [ev_eq, zc_251, zr_251, zm_251]; rfl
set_option maxRecDepth 100000 in
set_option maxHeartbeats 4000000 in
theorem q_251_85 (L : Nat) (xs : Nat → Int) (d : Nat) (S : AH) (x1 : Int) (x2 : Int) (x3 : Int) (x4 : Int) (x5 : Int) : LQ (WK L xs) (ev (WK L xs) d) 251 85 [some (vr 72), some (vi x1), some (vi x2), some (vi x3), some (vi x4), some (vi x5)] [] S = (if x4 < x5 then (if 0 ≤ (S.2 72 70) ∧ (S.2 72 70) < (20 : Int) then (if 0 ≤ (S.2 72 70) ∧ (S.2 72 70) < (20 : Int) then (if 0 ≤ (S.2 72 70) ∧ (S.2 72 70) < (20 : Int) then (if 0 ≤ (S.2 72 70) ∧ (S.2 72 70) < (20 : Int) then (some ((w32 ((w32 ((S.2 72 70) + (1 : Int))) - (1 : Int))), (wr (wr (wr (wr (wr S 124 (S.2 72 70).toNat x1) 125 (S.2 72 70).toNat x2) 126 (S.2 72 70).toNat x3) 127 (S.2 72 70).toNat x4) 72 70 (w32 ((S.2 72 70) + (1 : Int)))))) else none) else none) else none) else none) else (bindR ((ev (WK L xs) d) 245 [vr 72, vi x1, vi x5] S) (fun r1 S2 => (if r1 = 0 then (some ((-1 : Int), S2)) else (bindR ((ev (WK L xs) d) 246 [vr 72, vi x1, vi x5] S2) (fun r3 S4 => (if (lcmp r3 x2) < 0 then (some ((-1 : Int), S4)) else (LQ (WK L xs) (ev (WK L xs) d) 251 85 [some (vr 72), some (vi x1), some (vi x2), some (vi x3), some (vi x4), some (vi (w32 (x5 + (1 : Int))))] [] S4)))))))) := by rw [LQ_eq, zc_251, zr_251]; rfl
theorem zc_252 : csOf 252 = cs_252 := rfl
theorem zr_252 : rtOf 252 = 4 := rfl
theorem zm_252 : mlOf 252 = 4 := rfl
set_option maxRecDepth 100000 in
set_option maxHeartbeats 4000000 in
/-- SupplyBookModel.move(III)Z -/
theorem q_252 (L : Nat) (xs : Nat → Int) (d : Nat) (S : AH) (p1 : Int) (p2 : Int) (p3 : Int) : ev (WK L xs) (d + 1) 252 [vr 72, vi p1, vi p2, vi p3] S = (bindR ((ev (WK L xs) d) 253 [vr 72, vi p1] S) (fun r1 S2 => (if r1 = 0 then (some ((0 : Int), S2)) else (bindR ((ev (WK L xs) d) 253 [vr 72, vi p2] S2) (fun r3 S4 => (if r3 = 0 then (some ((0 : Int), S4)) else (if p1 = p2 then (some ((0 : Int), S4)) else (bindR ((ev (WK L xs) d) 238 [vi p3] S4) (fun r5 S6 => (if r5 = 0 then (some ((0 : Int), S6)) else (bindR ((ev (WK L xs) d) 243 [vr 72] S6) (fun r7 S8 => (bindR ((ev (WK L xs) d) 246 [vr 72, vi p1, vi r7] S8) (fun r9 S10 => (if 0 < (lcmp p3 r9) then (some ((0 : Int), S10)) else (if 0 ≤ p1 ∧ p1 < (80 : Int) then (if 0 ≤ p1 ∧ p1 < (80 : Int) then (bindR ((ev (WK L xs) d) 236 [vr 72, vi (109 : Int), vi (S10.2 72 2)] S10) (fun r11 S12 => (if 0 < (lcmp (w64 ((S10.2 107 p1.toNat) + p3)) (ldiv (w64 ((S10.2 99 p1.toNat) * r11)) (100 : Int))) then (some ((0 : Int), S12)) else (if 0 ≤ p1 ∧ p1 < (80 : Int) then (if 0 ≤ p1 ∧ p1 < (80 : Int) then (if 0 ≤ p2 ∧ p2 < (80 : Int) then (if 0 ≤ p2 ∧ p2 < (80 : Int) then (some ((1 : Int), (wr (wr S12 107 p1.toNat (w64 ((S12.2 107 p1.toNat) + p3))) 106 p2.toNat (w64 ((S12.2 106 p2.toNat) + p3))))) else none) else none) else none) else none)))) else none) else none)))))))))))))))) := by rw [ev_eq, zc_252, zr_252, zm_252]; rfl
theorem zc_253 : csOf 253 = cs_253 := rfl
theorem zr_253 : rtOf 253 = 4 := rfl
theorem zm_253 : mlOf 253 = 2 := rfl
set_option maxRecDepth 100000 in
set_option maxHeartbeats 4000000 in
/-- SupplyBookModel.canMove(I)Z -/
theorem q_253 (L : Nat) (xs : Nat → Int) (d : Nat) (S : AH) (p1 : Int) : ev (WK L xs) (d + 1) 253 [vr 72, vi p1] S = (bindR ((ev (WK L xs) d) 241 [vr 72, vi p1] S) (fun r1 S2 => (if r1 = 0 then (some ((0 : Int), S2)) else (if 0 ≤ p1 ∧ p1 < (80 : Int) then (if (S2.2 97 p1.toNat) = 0 then (LQ (WK L xs) (ev (WK L xs) d) 253 27 [some (vr 72), some (vi p1)] [] S2) else (if 0 ≤ p1 ∧ p1 < (80 : Int) then (if (S2.2 97 p1.toNat) = (2 : Int) then (LQ (WK L xs) (ev (WK L xs) d) 253 27 [some (vr 72), some (vi p1)] [] S2) else (some ((0 : Int), S2))) else none)) else none)))) := by rw [ev_eq, zc_253, zr_253, zm_253]; rfl
set_option maxRecDepth 100000 in
set_option maxHeartbeats 4000000 in
theorem q_253_27 (L : Nat) (xs : Nat → Int) (d : Nat) (S : AH) (x1 : Int) : LQ (WK L xs) (ev (WK L xs) d) 253 27 [some (vr 72), some (vi x1)] [] S = (if 0 ≤ x1 ∧ x1 < (80 : Int) then (bindR ((ev (WK L xs) d) 243 [vr 72] S) (fun r1 S2 => (if (S.2 100 x1.toNat) = r1 then (if 0 ≤ x1 ∧ x1 < (80 : Int) then (if (S2.2 101 x1.toNat) = (-1 : Int) then (some ((1 : Int), S2)) else (some ((0 : Int), S2))) else none) else (some ((0 : Int), S2))))) else none) := by rw [LQ_eq, zc_253, zr_253]; rfl
theorem zc_254 : csOf 254 = cs_254 := rfl
theorem zr_254 : rtOf 254 = 4 := rfl
theorem zm_254 : mlOf 254 = 3 := rfl
set_option maxRecDepth 100000 in
set_option maxHeartbeats 4000000 in
/-- SupplyBookModel.cover(II)Z -/
theorem q_254 (L : Nat) (xs : Nat → Int) (d : Nat) (S : AH) (p1 : Int) (p2 : Int) : ev (WK L xs) (d + 1) 254 [vr 72, vi p1, vi p2] S = (bindR ((ev (WK L xs) d) 241 [vr 72, vi p1] S) (fun r1 S2 => (if r1 = 0 then (some ((0 : Int), S2)) else (bindR ((ev (WK L xs) d) 241 [vr 72, vi p2] S2) (fun r3 S4 => (if r3 = 0 then (some ((0 : Int), S4)) else (if 0 ≤ p1 ∧ p1 < (80 : Int) then (if (S4.2 97 p1.toNat) = (4 : Int) then (if 0 ≤ p1 ∧ p1 < (80 : Int) then (if (S4.2 102 p1.toNat) = (-1 : Int) then (if 0 ≤ p2 ∧ p2 < (80 : Int) then (if (S4.2 97 p2.toNat) = 0 then (if 0 ≤ p2 ∧ p2 < (80 : Int) then (if (S4.2 101 p2.toNat) = (-1 : Int) then (if 0 ≤ p2 ∧ p2 < (80 : Int) then (if 0 ≤ p1 ∧ p1 < (80 : Int) then (if (S4.2 100 p2.toNat) = (S4.2 100 p1.toNat) then (if 0 ≤ p1 ∧ p1 < (80 : Int) then (if 0 ≤ p2 ∧ p2 < (80 : Int) then (bindR ((ev (WK L xs) d) 199 [vr 72, vi (S4.2 98 p1.toNat), vi (S4.2 98 p2.toNat)] S4) (fun r5 S6 => (if r5 = 0 then (some ((0 : Int), S6)) else (if 0 ≤ p1 ∧ p1 < (80 : Int) then (bindR ((ev (WK L xs) d) 246 [vr 72, vi p2, vi (S6.2 100 p1.toNat)] S6) (fun r7 S8 => (if 0 ≤ p1 ∧ p1 < (80 : Int) then (bindR ((ev (WK L xs) d) 247 [vr 72, vi p1, vi (S8.2 100 p1.toNat), vi (-1 : Int)] S8) (fun r9 S10 => (if (lcmp r7 r9) < 0 then (some ((0 : Int), S10)) else (if 0 ≤ p1 ∧ p1 < (80 : Int) then (if 0 ≤ p1 ∧ p1 < (80 : Int) then (some ((1 : Int), (wr (wr S10 102 p1.toNat p2) 103 p1.toNat (S10.2 72 2)))) else none) else none)))) else none))) else none)))) else none) else none) else (some ((0 : Int), S4))) else none) else none) else (some ((0 : Int), S4))) else none) else (some ((0 : Int), S4))) else none) else (some ((0 : Int), S4))) else none) else (some ((0 : Int), S4))) else none))))))) := by rw [ev_eq, zc_254, zr_254, zm_254]; rfl
theorem zc_255 : csOf 255 = cs_255 := rfl
theorem zr_255 : rtOf 255 = 4 := rfl
theorem zm_255 : mlOf 255 = 2 := rfl
set_option maxRecDepth 100000 in
set_option maxHeartbeats 4000000 in
/-- SupplyBookModel.strike(I)Z -/
theorem q_255 (L : Nat) (xs : Nat → Int) (d : Nat) (S : AH) (p1 : Int) : ev (WK L xs) (d + 1) 255 [vr 72, vi p1] S = (bindR ((ev (WK L xs) d) 241 [vr 72, vi p1] S) (fun r1 S2 => (if r1 = 0 then (some ((0 : Int), S2)) else (if 0 ≤ p1 ∧ p1 < (80 : Int) then (if (S2.2 101 p1.toNat) = (-1 : Int) then (if 0 ≤ p1 ∧ p1 < (80 : Int) then (some ((1 : Int), (wr S2 101 p1.toNat (S2.2 72 2)))) else none) else (some ((0 : Int), S2))) else none)))) := by rw [ev_eq, zc_255, zr_255, zm_255]; rfl
theorem zc_256 : csOf 256 = cs_256 := rfl
theorem zr_256 : rtOf 256 = 0 := rfl
theorem zm_256 : mlOf 256 = 7 := rfl
set_option maxRecDepth 100000 in
set_option maxHeartbeats 4000000 in
/-- SupplyBookModel.claim(IIIIIZ)I -/
theorem q_256 (L : Nat) (xs : Nat → Int) (d : Nat) (S : AH) (p1 : Int) (p2 : Int) (p3 : Int) (p4 : Int) (p5 : Int) (p6 : Int) : ev (WK L xs) (d + 1) 256 [vr 72, vi p1, vi p2, vi p3, vi p4, vi p5, vi p6] S = (if (S.2 72 52) = (300 : Int) then (some ((-1 : Int), S)) else (bindR ((ev (WK L xs) d) 257 [vr 72, vi p1] S) (fun r1 S2 => (if r1 = 0 then (some ((-1 : Int), S2)) else (bindR ((ev (WK L xs) d) 197 [vr 72, vi p2] S2) (fun r3 S4 => (if r3 = 0 then (some ((-1 : Int), S4)) else (if 0 ≤ p1 ∧ p1 < (16 : Int) then (bindR ((ev (WK L xs) d) 199 [vr 72, vi p2, vi (S4.2 75 p1.toNat)] S4) (fun r5 S6 => (if r5 = 0 then (some ((-1 : Int), S6)) else (bindR ((ev (WK L xs) d) 195 [vl p3, vl (0 : Int), vl (9 : Int)] S6) (fun r7 S8 => (if r7 = 0 then (some ((-1 : Int), S8)) else (bindR ((ev (WK L xs) d) 195 [vl p4, vl (1 : Int), vl (1000000000 : Int)] S8) (fun r9 S10 => (if r9 = 0 then (some ((-1 : Int), S10)) else (bindR ((ev (WK L xs) d) 195 [vl p5, vl (-1 : Int), vl (w32 ((S10.2 72 70) - (1 : Int)))] S10) (fun r11 S12 => (if r11 = 0 then (some ((-1 : Int), S12)) else (if 0 ≤ (S12.2 72 52) ∧ (S12.2 72 52) < (300 : Int) then (if 0 ≤ (S12.2 72 52) ∧ (S12.2 72 52) < (300 : Int) then (if 0 ≤ (S12.2 72 52) ∧ (S12.2 72 52) < (300 : Int) then (if 0 ≤ (S12.2 72 52) ∧ (S12.2 72 52) < (300 : Int) then (if 0 ≤ (S12.2 72 52) ∧ (S12.2 72 52) < (300 : Int) then (if 0 ≤ (S12.2 72 52) ∧ (S12.2 72 52) < (300 : Int) then (if p6 = 0 ∨ p6 = 1 then (if 0 ≤ (S12.2 72 52) ∧ (S12.2 72 52) < (300 : Int) then (if 0 ≤ (S12.2 72 52) ∧ (S12.2 72 52) < (300 : Int) then (some ((w32 ((w32 ((S12.2 72 52) + (1 : Int))) - (1 : Int))), (wr (wr (wr (wr (wr (wr (wr (wr (wr S12 108 (S12.2 72 52).toNat p1) 109 (S12.2 72 52).toNat p2) 110 (S12.2 72 52).toNat p3) 111 (S12.2 72 52).toNat p4) 112 (S12.2 72 52).toNat p5) 113 (S12.2 72 52).toNat p6) 115 (S12.2 72 52).toNat (-1 : Int)) 116 (S12.2 72 52).toNat (-1 : Int)) 72 52 (w32 ((S12.2 72 52) + (1 : Int)))))) else none) else none) else none) else none) else none) else none) else none) else none) else none))))))))))))) else none)))))))) := by rw [ev_eq, zc_256, zr_256, zm_256]; rfl
theorem zc_257 : csOf 257 = cs_257 := rfl
theorem zr_257 : rtOf 257 = 4 := rfl
theorem zm_257 : mlOf 257 = 2 := rfl
set_option maxRecDepth 100000 in
set_option maxHeartbeats 4000000 in
/-- SupplyBookModel.isHand(I)Z -/
theorem q_257 (L : Nat) (xs : Nat → Int) (d : Nat) (S : AH) (p1 : Int) : ev (WK L xs) (d + 1) 257 [vr 72, vi p1] S = (bindR ((ev (WK L xs) d) 195 [vl p1, vl (0 : Int), vl (w32 ((S.2 72 5) - (1 : Int)))] S) (fun r1 S2 => (if r1 = 0 ∨ r1 = 1 then (some (r1, S2)) else none))) := by rw [ev_eq, zc_257, zr_257, zm_257]; rfl
theorem zc_258 : csOf 258 = cs_258 := rfl
theorem zr_258 : rtOf 258 = 4 := rfl
theorem zm_258 : mlOf 258 = 3 := rfl
set_option maxRecDepth 100000 in
set_option maxHeartbeats 4000000 in
/-- SupplyBookModel.sign(II)Z -/
theorem q_258 (L : Nat) (xs : Nat → Int) (d : Nat) (S : AH) (p1 : Int) (p2 : Int) : ev (WK L xs) (d + 1) 258 [vr 72, vi p1, vi p2] S = (bindR ((ev (WK L xs) d) 259 [vr 72, vi p1] S) (fun r1 S2 => (if r1 = 0 then (some ((0 : Int), S2)) else (bindR ((ev (WK L xs) d) 257 [vr 72, vi p2] S2) (fun r3 S4 => (if r3 = 0 then (some ((0 : Int), S4)) else (if 0 ≤ p1 ∧ p1 < (300 : Int) then (if (S4.2 108 p1.toNat) = p2 then (some ((0 : Int), S4)) else (if 0 ≤ p1 ∧ p1 < (300 : Int) then (if (iand (ishr (S4.2 114 p1.toNat) p2) (1 : Int)) = (1 : Int) then (some ((0 : Int), S4)) else (if 0 ≤ p1 ∧ p1 < (300 : Int) then (if 0 ≤ p2 ∧ p2 < (16 : Int) then (bindR ((ev (WK L xs) d) 199 [vr 72, vi (S4.2 109 p1.toNat), vi (S4.2 75 p2.toNat)] S4) (fun r5 S6 => (if r5 = 0 then (some ((0 : Int), S6)) else (if 0 ≤ p1 ∧ p1 < (300 : Int) then (if (S6.2 115 p1.toNat) = (-1 : Int) then (if 0 ≤ p1 ∧ p1 < (300 : Int) then (if 0 ≤ p1 ∧ p1 < (300 : Int) then (some ((1 : Int), (wr S6 114 p1.toNat (ior (S6.2 114 p1.toNat) (ishl (1 : Int) p2))))) else none) else none) else (some ((0 : Int), S6))) else none)))) else none) else none)) else none)) else none))))))) := by rw [ev_eq, zc_258, zr_258, zm_258]; rfl
theorem zc_259 : csOf 259 = cs_259 := rfl
theorem zr_259 : rtOf 259 = 4 := rfl
theorem zm_259 : mlOf 259 = 2 := rfl
set_option maxRecDepth 100000 in
set_option maxHeartbeats 4000000 in
/-- SupplyBookModel.isClaim(I)Z -/
theorem q_259 (L : Nat) (xs : Nat → Int) (d : Nat) (S : AH) (p1 : Int) : ev (WK L xs) (d + 1) 259 [vr 72, vi p1] S = (bindR ((ev (WK L xs) d) 195 [vl p1, vl (0 : Int), vl (w32 ((S.2 72 52) - (1 : Int)))] S) (fun r1 S2 => (if r1 = 0 ∨ r1 = 1 then (some (r1, S2)) else none))) := by rw [ev_eq, zc_259, zr_259, zm_259]; rfl
theorem zc_260 : csOf 260 = cs_260 := rfl
theorem zr_260 : rtOf 260 = 0 := rfl
theorem zm_260 : mlOf 260 = 2 := rfl
set_option maxRecDepth 100000 in
set_option maxHeartbeats 4000000 in
/-- SupplyBookModel.may(I)I -/
theorem q_260 (L : Nat) (xs : Nat → Int) (d : Nat) (S : AH) (p1 : Int) : ev (WK L xs) (d + 1) 260 [vr 72, vi p1] S = (bindR ((ev (WK L xs) d) 259 [vr 72, vi p1] S) (fun r1 S2 => (if r1 = 0 then (some ((-1 : Int), S2)) else (if 0 ≤ p1 ∧ p1 < (300 : Int) then (if (S2.2 115 p1.toNat) = (-1 : Int) then (bindR ((ev (WK L xs) d) 261 [vr 72, vi p1] S2) (fun r3 S4 => (some (r3, S4)))) else (some ((-1 : Int), S2))) else none)))) := by rw [ev_eq, zc_260, zr_260, zm_260]; rfl
theorem zc_261 : csOf 261 = cs_261 := rfl
theorem zr_261 : rtOf 261 = 0 := rfl
theorem zm_261 : mlOf 261 = 6 := rfl
set_option maxRecDepth 100000 in
set_option maxHeartbeats 4000000 in
/-- SupplyBookModel.lets(I)I -/
theorem q_261 (L : Nat) (xs : Nat → Int) (d : Nat) (S : AH) (p1 : Int) : ev (WK L xs) (d + 1) 261 [vr 72, vi p1] S = (LQ (WK L xs) (ev (WK L xs) d) 261 4 [some (vr 72), some (vi p1), some (vi (1 : Int)), some (vi (0 : Int)), none, none] [] S) := by rw [ev_eq, zc_261, zr_261, zm_261]; rfl
set_option maxRecDepth 100000 in
set_option maxHeartbeats 4000000 in
theorem q_261_4 (L : Nat) (xs : Nat → Int) (d : Nat) (S : AH) (x1 : Int) (x2 : Int) (x3 : Int) : LQ (WK L xs) (ev (WK L xs) d) 261 4 [some (vr 72), some (vi x1), some (vi x2), some (vi x3), none, none] [] S = (if (4 : Int) < x3 then (some ((w32 ((-10 : Int) - x2)), S)) else (LQ (WK L xs) (ev (WK L xs) d) 261 12 [some (vr 72), some (vi x1), some (vi x2), some (vi x3), some (vi (0 : Int)), none] [] S)) := by rw [LQ_eq, zc_261, zr_261]; rfl
set_option maxRecDepth 100000 in
set_option maxHeartbeats 4000000 in
theorem q_261_12 (L : Nat) (xs : Nat → Int) (d : Nat) (S : AH) (x1 : Int) (x2 : Int) (x3 : Int) (x4 : Int) : LQ (WK L xs) (ev (WK L xs) d) 261 12 [some (vr 72), some (vi x1), some (vi x2), some (vi x3), some (vi x4), none] [] S = (if x4 < (S.2 72 40) then (if 0 ≤ x4 ∧ x4 < (80 : Int) then (if (S.2 97 x4.toNat) = x3 then (if x3 = (1 : Int) then (LQ (WK L xs) (ev (WK L xs) d) 261 12 [some (vr 72), some (vi x1), some (vi x2), some (vi x3), some (vi (w32 (x4 + (1 : Int)))), none] [] S) else (if 0 ≤ x1 ∧ x1 < (300 : Int) then (if (S.2 112 x1.toNat) = (-1 : Int) then (LQ (WK L xs) (ev (WK L xs) d) 261 66 [some (vr 72), some (vi x1), some (vi x2), some (vi x3), some (vi x4), none] [] S) else (if 0 ≤ x1 ∧ x1 < (300 : Int) then (if 0 ≤ (S.2 112 x1.toNat) ∧ (S.2 112 x1.toNat) < (20 : Int) then (if (S.2 124 (S.2 112 x1.toNat).toNat) = x4 then (LQ (WK L xs) (ev (WK L xs) d) 261 66 [some (vr 72), some (vi x1), some (vi x2), some (vi x3), some (vi x4), none] [] S) else (LQ (WK L xs) (ev (WK L xs) d) 261 12 [some (vr 72), some (vi x1), some (vi x2), some (vi x3), some (vi (w32 (x4 + (1 : Int)))), none] [] S)) else none) else none)) else none)) else (LQ (WK L xs) (ev (WK L xs) d) 261 12 [some (vr 72), some (vi x1), some (vi x2), some (vi x3), some (vi (w32 (x4 + (1 : Int)))), none] [] S)) else none) else (LQ (WK L xs) (ev (WK L xs) d) 261 4 [some (vr 72), some (vi x1), some (vi x2), some (vi (w32 (x3 + (1 : Int)))), none, none] [] S)) := by rw [LQ_eq, zc_261, zr_261]; rfl
set_option maxRecDepth 100000 in
set_option maxHeartbeats 4000000 in
theorem q_261_66 (L : Nat) (xs : Nat → Int) (d : Nat) (S : AH) (x1 : Int) (x2 : Int) (x3 : Int) (x4 : Int) : LQ (WK L xs) (ev (WK L xs) d) 261 66 [some (vr 72), some (vi x1), some (vi x2), some (vi x3), some (vi x4), none] [] S = (bindR ((ev (WK L xs) d) 262 [vr 72, vi x1, vi x4] S) (fun r1 S2 => (if r1 = 0 then (some (x4, S2)) else (if x2 < r1 then (LQ (WK L xs) (ev (WK L xs) d) 261 12 [some (vr 72), some (vi x1), some (vi r1), some (vi x3), some (vi (w32 (x4 + (1 : Int)))), none] [] S2) else (LQ (WK L xs) (ev (WK L xs) d) 261 12 [some (vr 72), some (vi x1), some (vi x2), some (vi x3), some (vi (w32 (x4 + (1 : Int)))), none] [] S2))))) := by rw [LQ_eq, zc_261, zr_261]; rfl
theorem zc_262 : csOf 262 = cs_262 := rfl
theorem zr_262 : rtOf 262 = 0 := rfl
theorem zm_262 : mlOf 262 = 5 := rfl
set_option maxRecDepth 100000 in
set_option maxHeartbeats 4000000 in
/-- SupplyBookModel.bar(II)I -/
theorem q_262 (L : Nat) (xs : Nat → Int) (d : Nat) (S : AH) (p1 : Int) (p2 : Int) : ev (WK L xs) (d + 1) 262 [vr 72, vi p1, vi p2] S = (if 0 ≤ p1 ∧ p1 < (300 : Int) then (if 0 ≤ p2 ∧ p2 < (80 : Int) then (bindR ((ev (WK L xs) d) 199 [vr 72, vi (S.2 109 p1.toNat), vi (S.2 98 p2.toNat)] S) (fun r1 S2 => (if r1 = 0 then (some ((1 : Int), S2)) else (bindR ((ev (WK L xs) d) 243 [vr 72] S2) (fun r3 S4 => (bindR ((ev (WK L xs) d) 245 [vr 72, vi p2, vi r3] S4) (fun r5 S6 => (if r5 = 0 then (some ((1 : Int), S6)) else (if 0 ≤ p2 ∧ p2 < (80 : Int) then (if (S6.2 101 p2.toNat) = (-1 : Int) then (if 0 ≤ p2 ∧ p2 < (80 : Int) then (if (S6.2 97 p2.toNat) = (4 : Int) then (if 0 ≤ p2 ∧ p2 < (80 : Int) then (if (S6.2 102 p2.toNat) = (-1 : Int) then (LQ (WK L xs) (ev (WK L xs) d) 262 65 [some (vr 72), some (vi p1), some (vi p2), none, none] [] S6) else (some ((2 : Int), S6))) else none) else (LQ (WK L xs) (ev (WK L xs) d) 262 65 [some (vr 72), some (vi p1), some (vi p2), none, none] [] S6)) else none) else (some ((2 : Int), S6))) else none))))))))) else none) else none) := by rw [ev_eq, zc_262, zr_262, zm_262]; rfl
set_option maxRecDepth 100000 in
set_option maxHeartbeats 4000000 in
theorem q_262_65 (L : Nat) (xs : Nat → Int) (d : Nat) (S : AH) (x1 : Int) (x2 : Int) : LQ (WK L xs) (ev (WK L xs) d) 262 65 [some (vr 72), some (vi x1), some (vi x2), none, none] [] S = (if 0 ≤ x1 ∧ x1 < (300 : Int) then (if (S.2 112 x1.toNat) = (-1 : Int) then (bindR ((ev (WK L xs) d) 243 [vr 72] S) (fun r5 S6 => (bindR ((ev (WK L xs) d) 246 [vr 72, vi x2, vi r5] S6) (fun r7 S8 => (LQ (WK L xs) (ev (WK L xs) d) 262 101 [some (vr 72), some (vi x1), some (vi x2), none, none] [vl r7] S8))))) else (if 0 ≤ x1 ∧ x1 < (300 : Int) then (bindR ((ev (WK L xs) d) 243 [vr 72] S) (fun r1 S2 => (bindR ((ev (WK L xs) d) 250 [vr 72, vi (S.2 112 x1.toNat), vi r1] S2) (fun r3 S4 => (LQ (WK L xs) (ev (WK L xs) d) 262 101 [some (vr 72), some (vi x1), some (vi x2), none, none] [vl r3] S4))))) else none)) else none) := by rw [LQ_eq, zc_262, zr_262]; rfl
set_option maxRecDepth 100000 in
set_option maxHeartbeats 4000000 in
theorem q_262_101 (L : Nat) (xs : Nat → Int) (d : Nat) (S : AH) (x1 : Int) (x2 : Int) (t0 : Int) : LQ (WK L xs) (ev (WK L xs) d) 262 101 [some (vr 72), some (vi x1), some (vi x2), none, none] [vl t0] S = (if 0 ≤ x1 ∧ x1 < (300 : Int) then (if (lcmp t0 (S.2 111 x1.toNat)) < 0 then (some ((3 : Int), S)) else (bindR ((ev (WK L xs) d) 263 [vr 72, vi x1, vi x2] S) (fun r1 S2 => (if r1 = 0 then (some ((4 : Int), S2)) else (bindR ((ev (WK L xs) d) 243 [vr 72] (wr S2 72 75 x1)) (fun r3 S4 => (bindR ((ev (WK L xs) d) 246 [vr 72, vi x2, vi r3] S4) (fun r5 S6 => (bindR ((ev (WK L xs) d) 264 [vr 72, vi x2] (wr S6 72 76 r5)) (fun r7 S8 => (some (r7, S8)))))))))))) else none) := by rw [LQ_eq, zc_262, zr_262]; rfl
theorem zc_263 : csOf 263 = cs_263 := rfl
theorem zr_263 : rtOf 263 = 4 := rfl
theorem zm_263 : mlOf 263 = 4 := rfl
set_option maxRecDepth 100000 in
set_option maxHeartbeats 4000000 in
/-- SupplyBookModel.isBelowCeilings(II)Z -/
theorem q_263 (L : Nat) (xs : Nat → Int) (d : Nat) (S : AH) (p1 : Int) (p2 : Int) : ev (WK L xs) (d + 1) 263 [vr 72, vi p1, vi p2] S = (LQ (WK L xs) (ev (WK L xs) d) 263 2 [some (vr 72), some (vi p1), some (vi p2), some (vi (0 : Int))] [] S) := by rw [ev_eq, zc_263, zr_263, zm_263]; rfl
set_option maxRecDepth 100000 in
set_option maxHeartbeats 4000000 in
theorem q_263_2 (L : Nat) (xs : Nat → Int) (d : Nat) (S : AH) (x1 : Int) (x2 : Int) (x3 : Int) : LQ (WK L xs) (ev (WK L xs) d) 263 2 [some (vr 72), some (vi x1), some (vi x2), some (vi x3)] [] S = (if x3 < (S.2 72 40) then (if 0 ≤ x3 ∧ x3 < (80 : Int) then (if (S.2 97 x3.toNat) = (1 : Int) then (if 0 ≤ x3 ∧ x3 < (80 : Int) then (if (S.2 102 x3.toNat) = x2 then (if 0 ≤ x3 ∧ x3 < (80 : Int) then (if (S.2 101 x3.toNat) = (-1 : Int) then (if 0 ≤ x1 ∧ x1 < (300 : Int) then (if 0 ≤ x3 ∧ x3 < (80 : Int) then (bindR ((ev (WK L xs) d) 199 [vr 72, vi (S.2 109 x1.toNat), vi (S.2 98 x3.toNat)] S) (fun r1 S2 => (if r1 = 0 then (LQ (WK L xs) (ev (WK L xs) d) 263 2 [some (vr 72), some (vi x1), some (vi x2), some (vi (w32 (x3 + (1 : Int))))] [] S2) else (bindR ((ev (WK L xs) d) 243 [vr 72] S2) (fun r3 S4 => (bindR ((ev (WK L xs) d) 246 [vr 72, vi x3, vi r3] S4) (fun r5 S6 => (if 0 ≤ x1 ∧ x1 < (300 : Int) then (if (lcmp r5 (S6.2 111 x1.toNat)) < 0 then (some ((0 : Int), S6)) else (LQ (WK L xs) (ev (WK L xs) d) 263 2 [some (vr 72), some (vi x1), some (vi x2), some (vi (w32 (x3 + (1 : Int))))] [] S6)) else none)))))))) else none) else none) else (LQ (WK L xs) (ev (WK L xs) d) 263 2 [some (vr 72), some (vi x1), some (vi x2), some (vi (w32 (x3 + (1 : Int))))] [] S)) else none) else (LQ (WK L xs) (ev (WK L xs) d) 263 2 [some (vr 72), some (vi x1), some (vi x2), some (vi (w32 (x3 + (1 : Int))))] [] S)) else none) else (LQ (WK L xs) (ev (WK L xs) d) 263 2 [some (vr 72), some (vi x1), some (vi x2), some (vi (w32 (x3 + (1 : Int))))] [] S)) else none) else (some ((1 : Int), S))) := by rw [LQ_eq, zc_263, zr_263]; rfl
theorem zc_264 : csOf 264 = cs_264 := rfl
theorem zr_264 : rtOf 264 = 0 := rfl
theorem zm_264 : mlOf 264 = 5 := rfl
set_option maxRecDepth 100000 in
set_option maxHeartbeats 4000000 in
/-- SupplyBookModel.barsOfTexts(I)I -/
theorem q_264 (L : Nat) (xs : Nat → Int) (d : Nat) (S : AH) (p1 : Int) : ev (WK L xs) (d + 1) 264 [vr 72, vi p1] S = (LQ (WK L xs) (ev (WK L xs) d) 264 2 [some (vr 72), some (vi p1), some (vi (0 : Int)), none, none] [] S) := by rw [ev_eq, zc_264, zr_264, zm_264]; rfl
set_option maxRecDepth 100000 in
set_option maxHeartbeats 4000000 in
theorem q_264_2 (L : Nat) (xs : Nat → Int) (d : Nat) (S : AH) (x1 : Int) (x2 : Int) : LQ (WK L xs) (ev (WK L xs) d) 264 2 [some (vr 72), some (vi x1), some (vi x2), none, none] [] S = (if 0 ≤ (w32 ((20 : Int) + x1)) ∧ (w32 ((20 : Int) + x1)) < (100 : Int) then (if x2 < (S.2 78 (w32 ((20 : Int) + x1)).toNat) then (bindR ((ev (WK L xs) d) 265 [vr 72, vi (w32 ((w32 ((16 : Int) * (w32 ((20 : Int) + x1)))) + x2))] S) (fun r3 S4 => (if 0 < r3 then (some (r3, S4)) else (LQ (WK L xs) (ev (WK L xs) d) 264 2 [some (vr 72), some (vi x1), some (vi (w32 (x2 + (1 : Int)))), none, none] [] S4)))) else (bindR ((ev (WK L xs) d) 232 [vr 72, vi (S.2 72 2)] S) (fun r1 S2 => (LQ (WK L xs) (ev (WK L xs) d) 264 51 [some (vr 72), none, some (vi (0 : Int)), none, none] [] S2)))) else none) := by rw [LQ_eq, zc_264, zr_264]; rfl
set_option maxRecDepth 100000 in
set_option maxHeartbeats 4000000 in
theorem q_264_51 (L : Nat) (xs : Nat → Int) (d : Nat) (S : AH) (x2 : Int) : LQ (WK L xs) (ev (WK L xs) d) 264 51 [some (vr 72), none, some (vi x2), none, none] [] S = (if x2 < (S.2 72 36) then (LQ (WK L xs) (ev (WK L xs) d) 264 61 [some (vr 72), none, some (vi x2), some (vi (0 : Int)), none] [] S) else (some ((0 : Int), S))) := by rw [LQ_eq, zc_264, zr_264]; rfl
set_option maxRecDepth 100000 in
set_option maxHeartbeats 4000000 in
theorem q_264_61 (L : Nat) (xs : Nat → Int) (d : Nat) (S : AH) (x2 : Int) (x3 : Int) : LQ (WK L xs) (ev (WK L xs) d) 264 61 [some (vr 72), none, some (vi x2), some (vi x3), none] [] S = (if 0 ≤ x2 ∧ x2 < (100 : Int) then (if x3 < (S.2 78 x2.toNat) then (bindR ((ev (WK L xs) d) 234 [vr 72, vi x2, vi x3, vi (S.2 72 2)] S) (fun r1 S2 => (if r1 = 0 then (LQ (WK L xs) (ev (WK L xs) d) 264 61 [some (vr 72), none, some (vi x2), some (vi (w32 (x3 + (1 : Int)))), none] [] S2) else (bindR ((ev (WK L xs) d) 265 [vr 72, vi (w32 ((w32 ((16 : Int) * x2)) + x3))] S2) (fun r3 S4 => (if 0 < r3 then (some (r3, S4)) else (LQ (WK L xs) (ev (WK L xs) d) 264 61 [some (vr 72), none, some (vi x2), some (vi (w32 (x3 + (1 : Int)))), none] [] S4))))))) else (LQ (WK L xs) (ev (WK L xs) d) 264 51 [some (vr 72), none, some (vi (w32 (x2 + (1 : Int)))), none, none] [] S)) else none) := by rw [LQ_eq, zc_264, zr_264]; rfl
theorem zc_265 : csOf 265 = cs_265 := rfl
theorem zr_265 : rtOf 265 = 0 := rfl
theorem zm_265 : mlOf 265 = 4 := rfl
set_option maxRecDepth 100000 in
set_option maxHeartbeats 4000000 in
/-- SupplyBookModel.barOf(I)I -/
theorem q_265 (L : Nat) (xs : Nat → Int) (d : Nat) (S : AH) (p1 : Int) : ev (WK L xs) (d + 1) 265 [vr 72, vi p1] S = (if 0 ≤ p1 ∧ p1 < (1600 : Int) then (bindR ((ev (WK L xs) d) 208 [vi (S.2 79 p1.toNat)] S) (fun r1 S2 => (if r1 = 0 then (some ((0 : Int), S2)) else (bindR ((ev (WK L xs) d) 266 [vr 72, vi p1] S2) (fun r3 S4 => (if r3 = (2 : Int) then (some ((8 : Int), S4)) else (if (S.2 79 p1.toNat) = (111 : Int) then (if r3 = (1 : Int) then (some ((0 : Int), S4)) else (some ((5 : Int), S4))) else (if r3 = 0 then (some ((0 : Int), S4)) else (if (S.2 79 p1.toNat) = (110 : Int) then (some ((5 : Int), S4)) else (if (S.2 79 p1.toNat) = (115 : Int) then (bindR ((ev (WK L xs) d) 270 [vr 72, vi (S4.2 72 75)] S4) (fun r5 S6 => (if 0 ≤ p1 ∧ p1 < (1600 : Int) then (if r5 < (S6.2 80 p1.toNat) then (some ((6 : Int), S6)) else (some ((0 : Int), S6))) else none))) else (if 0 ≤ (S4.2 72 75) ∧ (S4.2 72 75) < (300 : Int) then (if (S4.2 113 (S4.2 72 75).toNat) = 0 then (some ((7 : Int), S4)) else (some ((0 : Int), S4))) else none))))))))))) else none) := by rw [ev_eq, zc_265, zr_265, zm_265]; rfl
theorem zc_266 : csOf 266 = cs_266 := rfl
theorem zr_266 : rtOf 266 = 0 := rfl
theorem zm_266 : mlOf 266 = 5 := rfl
set_option maxRecDepth 100000 in
set_option maxHeartbeats 4000000 in
/-- SupplyBookModel.holds(I)I -/
theorem q_266 (L : Nat) (xs : Nat → Int) (d : Nat) (S : AH) (p1 : Int) : ev (WK L xs) (d + 1) 266 [vr 72, vi p1] S = (if 0 ≤ p1 ∧ p1 < (1600 : Int) then (LQ (WK L xs) (ev (WK L xs) d) 266 21 [some (vr 72), some (vi p1), some (vi (0 : Int)), some (vi (w32 ((idiv p1 (16 : Int)) * (200 : Int)))), some (vi (w32 ((w32 ((idiv p1 (16 : Int)) * (200 : Int))) + (S.2 82 p1.toNat))))] [] S) else none) := by rw [ev_eq, zc_266, zr_266, zm_266]; rfl
set_option maxRecDepth 100000 in
set_option maxHeartbeats 4000000 in
theorem q_266_21 (L : Nat) (xs : Nat → Int) (d : Nat) (S : AH) (x1 : Int) (x2 : Int) (x3 : Int) (x4 : Int) : LQ (WK L xs) (ev (WK L xs) d) 266 21 [some (vr 72), some (vi x1), some (vi x2), some (vi x3), some (vi x4)] [] S = (if 0 ≤ x1 ∧ x1 < (1600 : Int) then (if x4 < (w32 (x3 + (S.2 83 x1.toNat))) then (if 0 ≤ x4 ∧ x4 < (20000 : Int) then (if (3 : Int) < (S.2 84 x4.toNat) then (if 0 ≤ x4 ∧ x4 < (20000 : Int) then (bindR ((ev (WK L xs) d) 267 [vr 72, vi (S.2 84 x4.toNat), vi x2] S) (fun r5 S6 => (LQ (WK L xs) (ev (WK L xs) d) 266 21 [some (vr 72), some (vi x1), some (vi (w32 (x2 + (-1 : Int)))), some (vi x3), some (vi (w32 (x4 + (1 : Int))))] [] S6))) else none) else (if 0 ≤ x4 ∧ x4 < (20000 : Int) then (if (S.2 84 x4.toNat) = (3 : Int) then (if 0 ≤ (w32 (x2 - (1 : Int))) ∧ (w32 (x2 - (1 : Int))) < (220 : Int) then (if 0 ≤ (w32 (x2 - (1 : Int))) ∧ (w32 (x2 - (1 : Int))) < (220 : Int) then (LQ (WK L xs) (ev (WK L xs) d) 266 21 [some (vr 72), some (vi x1), some (vi x2), some (vi x3), some (vi (w32 (x4 + (1 : Int))))] [] (wr S 128 (w32 (x2 - (1 : Int))).toNat (w64 ((1 : Int) - (S.2 128 (w32 (x2 - (1 : Int))).toNat))))) else none) else none) else (if 0 ≤ x2 ∧ x2 < (220 : Int) then (if 0 ≤ x4 ∧ x4 < (20000 : Int) then (if (S.2 84 x4.toNat) = 0 then (if 0 ≤ x4 ∧ x4 < (20000 : Int) then (if 0 ≤ x2 ∧ x2 < (220 : Int) then (LQ (WK L xs) (ev (WK L xs) d) 266 21 [some (vr 72), some (vi x1), some (vi (w32 (x2 + (1 : Int)))), some (vi x3), some (vi (w32 (x4 + (1 : Int))))] [] (wr (wr S 129 x2.toNat (0 : Int)) 128 x2.toNat (S.2 85 x4.toNat))) else none) else none) else (if 0 ≤ x4 ∧ x4 < (20000 : Int) then (if (S.2 84 x4.toNat) = (1 : Int) then (if 0 ≤ x4 ∧ x4 < (20000 : Int) then (bindR ((ev (WK L xs) d) 269 [vr 72, vi (S.2 85 x4.toNat)] (wr S 129 x2.toNat (0 : Int))) (fun r3 S4 => (if 0 ≤ x2 ∧ x2 < (220 : Int) then (LQ (WK L xs) (ev (WK L xs) d) 266 21 [some (vr 72), some (vi x1), some (vi (w32 (x2 + (1 : Int)))), some (vi x3), some (vi (w32 (x4 + (1 : Int))))] [] (wr S4 128 x2.toNat r3)) else none))) else none) else (if 0 ≤ x4 ∧ x4 < (20000 : Int) then (if (S.2 85 x4.toNat) < (S.2 72 4) then (if 0 ≤ (S.2 72 75) ∧ (S.2 72 75) < (300 : Int) then (if 0 ≤ x4 ∧ x4 < (20000 : Int) then (bindR ((ev (WK L xs) d) 199 [vr 72, vi (S.2 109 (S.2 72 75).toNat), vi (S.2 85 x4.toNat)] (wr S 129 x2.toNat (0 : Int))) (fun r1 S2 => (if r1 = 0 then (if 0 ≤ x2 ∧ x2 < (220 : Int) then (LQ (WK L xs) (ev (WK L xs) d) 266 21 [some (vr 72), some (vi x1), some (vi (w32 (x2 + (1 : Int)))), some (vi x3), some (vi (w32 (x4 + (1 : Int))))] [] (wr S2 128 x2.toNat (0 : Int))) else none) else (if 0 ≤ x2 ∧ x2 < (220 : Int) then (LQ (WK L xs) (ev (WK L xs) d) 266 21 [some (vr 72), some (vi x1), some (vi (w32 (x2 + (1 : Int)))), some (vi x3), some (vi (w32 (x4 + (1 : Int))))] [] (wr S2 128 x2.toNat (1 : Int))) else none)))) else none) else none) else (if 0 ≤ x2 ∧ x2 < (220 : Int) then (LQ (WK L xs) (ev (WK L xs) d) 266 21 [some (vr 72), some (vi x1), some (vi (w32 (x2 + (1 : Int)))), some (vi x3), some (vi (w32 (x4 + (1 : Int))))] [] (wr (wr S 129 x2.toNat (0 : Int)) 128 x2.toNat (0 : Int))) else none)) else none)) else none)) else none) else none)) else none)) else none) else (if 0 ≤ (0 : Int) ∧ (0 : Int) < (220 : Int) then (if (S.2 129 0) = 0 then (if 0 ≤ (0 : Int) ∧ (0 : Int) < (220 : Int) then (some ((i32 (S.2 128 0)), S)) else none) else (some ((2 : Int), S))) else none)) else none) := by rw [LQ_eq, zc_266, zr_266]; rfl
theorem zc_267 : csOf 267 = cs_267 := rfl
theorem zr_267 : rtOf 267 = 9 := rfl
theorem zm_267 : mlOf 267 = 6 := rfl
set_option maxRecDepth 100000 in
set_option maxHeartbeats 4000000 in
/-- SupplyBookModel.does(II)V -/
theorem q_267 (L : Nat) (xs : Nat → Int) (d : Nat) (S : AH) (p1 : Int) (p2 : Int) : ev (WK L xs) (d + 1) 267 [vr 72, vi p1, vi p2] S = (if p1 = (38 : Int) then (LQ (WK L xs) (ev (WK L xs) d) 267 21 [some (vr 72), some (vi p1), none, some (vi (w32 (p2 - (2 : Int)))), some (vi (w32 (p2 - (1 : Int)))), none] [] S) else (if p1 = (124 : Int) then (LQ (WK L xs) (ev (WK L xs) d) 267 21 [some (vr 72), some (vi p1), none, some (vi (w32 (p2 - (2 : Int)))), some (vi (w32 (p2 - (1 : Int)))), none] [] S) else (if 0 ≤ (w32 (p2 - (2 : Int))) ∧ (w32 (p2 - (2 : Int))) < (220 : Int) then (if (S.2 129 (w32 (p2 - (2 : Int))).toNat) = 0 then (if 0 ≤ (w32 (p2 - (1 : Int))) ∧ (w32 (p2 - (1 : Int))) < (220 : Int) then (if (S.2 129 (w32 (p2 - (1 : Int))).toNat) = 0 then (if p1 = (47 : Int) then (if 0 ≤ (w32 (p2 - (1 : Int))) ∧ (w32 (p2 - (1 : Int))) < (220 : Int) then (if (lcmp (S.2 128 (w32 (p2 - (1 : Int))).toNat) (0 : Int)) = 0 then (LQ (WK L xs) (ev (WK L xs) d) 267 144 [some (vr 72), some (vi p1), none, some (vi (w32 (p2 - (2 : Int)))), some (vi (w32 (p2 - (1 : Int)))), none] [vi (1 : Int), vi (w32 (p2 - (2 : Int))), vr 129] S) else (LQ (WK L xs) (ev (WK L xs) d) 267 144 [some (vr 72), some (vi p1), none, some (vi (w32 (p2 - (2 : Int)))), some (vi (w32 (p2 - (1 : Int)))), none] [vi (0 : Int), vi (w32 (p2 - (2 : Int))), vr 129] S)) else none) else (if p1 = (37 : Int) then (if 0 ≤ (w32 (p2 - (1 : Int))) ∧ (w32 (p2 - (1 : Int))) < (220 : Int) then (if (lcmp (S.2 128 (w32 (p2 - (1 : Int))).toNat) (0 : Int)) = 0 then (LQ (WK L xs) (ev (WK L xs) d) 267 144 [some (vr 72), some (vi p1), none, some (vi (w32 (p2 - (2 : Int)))), some (vi (w32 (p2 - (1 : Int)))), none] [vi (1 : Int), vi (w32 (p2 - (2 : Int))), vr 129] S) else (LQ (WK L xs) (ev (WK L xs) d) 267 144 [some (vr 72), some (vi p1), none, some (vi (w32 (p2 - (2 : Int)))), some (vi (w32 (p2 - (1 : Int)))), none] [vi (0 : Int), vi (w32 (p2 - (2 : Int))), vr 129] S)) else none) else (LQ (WK L xs) (ev (WK L xs) d) 267 144 [some (vr 72), some (vi p1), none, some (vi (w32 (p2 - (2 : Int)))), some (vi (w32 (p2 - (1 : Int)))), none] [vi (0 : Int), vi (w32 (p2 - (2 : Int))), vr 129] S))) else (LQ (WK L xs) (ev (WK L xs) d) 267 144 [some (vr 72), some (vi p1), none, some (vi (w32 (p2 - (2 : Int)))), some (vi (w32 (p2 - (1 : Int)))), none] [vi (1 : Int), vi (w32 (p2 - (2 : Int))), vr 129] S)) else none) else (LQ (WK L xs) (ev (WK L xs) d) 267 144 [some (vr 72), some (vi p1), none, some (vi (w32 (p2 - (2 : Int)))), some (vi (w32 (p2 - (1 : Int)))), none] [vi (1 : Int), vi (w32 (p2 - (2 : Int))), vr 129] S)) else none))) := by rw [ev_eq, zc_267, zr_267, zm_267]; rfl
set_option maxRecDepth 100000 in
set_option maxHeartbeats 4000000 in
theorem q_267_21 (L : Nat) (xs : Nat → Int) (d : Nat) (S : AH) (x1 : Int) (x3 : Int) (x4 : Int) : LQ (WK L xs) (ev (WK L xs) d) 267 21 [some (vr 72), some (vi x1), none, some (vi x3), some (vi x4), none] [] S = (if 0 ≤ x3 ∧ x3 < (220 : Int) then (if (S.2 129 x3.toNat) = 0 then (if 0 ≤ x3 ∧ x3 < (220 : Int) then (if x1 = (38 : Int) then (if (lcmp (S.2 128 x3.toNat) (1 : Int)) = 0 then (LQ (WK L xs) (ev (WK L xs) d) 267 56 [some (vr 72), none, none, some (vi x3), some (vi x4), none] [vi (1 : Int)] S) else (LQ (WK L xs) (ev (WK L xs) d) 267 56 [some (vr 72), none, none, some (vi x3), some (vi x4), none] [vi (0 : Int)] S)) else (if (lcmp (S.2 128 x3.toNat) (0 : Int)) = 0 then (LQ (WK L xs) (ev (WK L xs) d) 267 56 [some (vr 72), none, none, some (vi x3), some (vi x4), none] [vi (1 : Int)] S) else (LQ (WK L xs) (ev (WK L xs) d) 267 56 [some (vr 72), none, none, some (vi x3), some (vi x4), none] [vi (0 : Int)] S))) else none) else (LQ (WK L xs) (ev (WK L xs) d) 267 56 [some (vr 72), none, none, some (vi x3), some (vi x4), none] [vi (0 : Int)] S)) else none) := by rw [LQ_eq, zc_267, zr_267]; rfl
set_option maxRecDepth 100000 in
set_option maxHeartbeats 4000000 in
theorem q_267_56 (L : Nat) (xs : Nat → Int) (d : Nat) (S : AH) (x3 : Int) (x4 : Int) (t0 : Int) : LQ (WK L xs) (ev (WK L xs) d) 267 56 [some (vr 72), none, none, some (vi x3), some (vi x4), none] [vi t0] S = (if t0 = 0 then (some (0, S)) else (if 0 ≤ x4 ∧ x4 < (220 : Int) then (if 0 ≤ x3 ∧ x3 < (220 : Int) then (if 0 ≤ x4 ∧ x4 < (220 : Int) then (if 0 ≤ x3 ∧ x3 < (220 : Int) then (if (S.2 129 x4.toNat) = 0 ∨ (S.2 129 x4.toNat) = 1 then (some (0, (wr (wr S 128 x3.toNat (S.2 128 x4.toNat)) 129 x3.toNat (S.2 129 x4.toNat)))) else none) else none) else none) else none) else none)) := by rw [LQ_eq, zc_267, zr_267]; rfl
set_option maxRecDepth 100000 in
set_option maxHeartbeats 4000000 in
theorem q_267_144 (L : Nat) (xs : Nat → Int) (d : Nat) (S : AH) (x1 : Int) (x3 : Int) (x4 : Int) (t0 : Int) (t1 : Int) : LQ (WK L xs) (ev (WK L xs) d) 267 144 [some (vr 72), some (vi x1), none, some (vi x3), some (vi x4), none] [vi t0, vi t1, vr 129] S = (if 0 ≤ t1 ∧ t1 < (220 : Int) then (if t0 = 0 ∨ t0 = 1 then (if 0 ≤ x3 ∧ x3 < (220 : Int) then (if 0 ≤ x4 ∧ x4 < (220 : Int) then (bindR ((ev (WK L xs) d) 268 [vi x1, vl (S.2 128 x3.toNat), vl (S.2 128 x4.toNat)] (wr S 129 t1.toNat t0)) (fun r1 S2 => (if 0 ≤ x3 ∧ x3 < (220 : Int) then (some (0, (wr S2 128 x3.toNat r1))) else none))) else none) else none) else none) else none) := by rw [LQ_eq, zc_267, zr_267]; rfl
theorem zc_268 : csOf 268 = cs_268 := rfl
theorem zr_268 : rtOf 268 = 1 := rfl
theorem zm_268 : mlOf 268 = 5 := rfl
set_option maxRecDepth 100000 in
set_option maxHeartbeats 4000000 in
/-- SupplyBookModel.worked(IJJ)J -/
theorem q_268 (L : Nat) (xs : Nat → Int) (d : Nat) (S : AH) (p1 : Int) (p2 : Int) (p3 : Int) : ev (WK L xs) (d + 1) 268 [vi p1, vl p2, vl p3] S = (if p1 = (37 : Int) then (if (lcmp p3 (0 : Int)) = 0 then (some ((0 : Int), S)) else (if p3 = 0 then none else (some ((Int.tmod p2 p3), S)))) else (if p1 = (42 : Int) then (some ((w64 (p2 * p3)), S)) else (if p1 = (43 : Int) then (some ((w64 (p2 + p3)), S)) else (if p1 = (45 : Int) then (some ((w64 (p2 - p3)), S)) else (if p1 = (47 : Int) then (if (lcmp p3 (0 : Int)) = 0 then (some ((0 : Int), S)) else (if p3 = 0 then none else (some ((ldiv p2 p3), S)))) else (if p1 = (60 : Int) then (if (lcmp p2 p3) < 0 then (some ((1 : Int), S)) else (some ((0 : Int), S))) else (if p1 = (62 : Int) then (if 0 < (lcmp p2 p3) then (some ((1 : Int), S)) else (some ((0 : Int), S))) else (if (lcmp p2 p3) = 0 then (some ((1 : Int), S)) else (some ((0 : Int), S)))))))))) := by rw [ev_eq, zc_268, zr_268, zm_268]; rfl
theorem zc_269 : csOf 269 = cs_269 := rfl
theorem zr_269 : rtOf 269 = 1 := rfl
theorem zm_269 : mlOf 269 = 5 := rfl
set_option maxRecDepth 100000 in
set_option maxHeartbeats 4000000 in
/-- SupplyBookModel.letterOf(I)J -/
theorem q_269 (L : Nat) (xs : Nat → Int) (d : Nat) (S : AH) (p1 : Int) : ev (WK L xs) (d + 1) 269 [vr 72, vi p1] S = (if p1 = (97 : Int) then (if 0 ≤ (S.2 72 75) ∧ (S.2 72 75) < (300 : Int) then (some ((S.2 111 (S.2 72 75).toNat), S)) else none) else (if p1 = (104 : Int) then (if 0 ≤ (S.2 72 75) ∧ (S.2 72 75) < (300 : Int) then (some ((S.2 109 (S.2 72 75).toNat), S)) else none) else (if p1 = (107 : Int) then (if 0 ≤ (S.2 72 75) ∧ (S.2 72 75) < (300 : Int) then (some ((S.2 110 (S.2 72 75).toNat), S)) else none) else (if p1 = (113 : Int) then (LQ (WK L xs) (ev (WK L xs) d) 269 110 [some (vr 72), none, some (vi (S.2 72 75)), some (vi (0 : Int)), some (vi (0 : Int))] [] S) else (if p1 = (114 : Int) then (bindR ((ev (WK L xs) d) 270 [vr 72, vi (S.2 72 75)] S) (fun r1 S2 => (some (r1, S2)))) else (if p1 = (121 : Int) then (some ((Int.tmod (S.2 72 2) (360 : Int)), S)) else (some ((S.2 72 76), S)))))))) := by rw [ev_eq, zc_269, zr_269, zm_269]; rfl
set_option maxRecDepth 100000 in
set_option maxHeartbeats 4000000 in
theorem q_269_110 (L : Nat) (xs : Nat → Int) (d : Nat) (S : AH) (x2 : Int) (x3 : Int) (x4 : Int) : LQ (WK L xs) (ev (WK L xs) d) 269 110 [some (vr 72), none, some (vi x2), some (vi x3), some (vi x4)] [] S = (if x4 < (S.2 72 52) then (if 0 ≤ x4 ∧ x4 < (300 : Int) then (if 0 ≤ x2 ∧ x2 < (300 : Int) then (if (S.2 108 x4.toNat) = (S.2 108 x2.toNat) then (bindR ((ev (WK L xs) d) 243 [vr 72] S) (fun r1 S2 => (bindR ((ev (WK L xs) d) 248 [vr 72, vi x4, vi r1] S2) (fun r3 S4 => (if r3 = 0 then (LQ (WK L xs) (ev (WK L xs) d) 269 110 [some (vr 72), none, some (vi x2), some (vi (w32 (x3 + (0 : Int)))), some (vi (w32 (x4 + (1 : Int))))] [] S4) else (LQ (WK L xs) (ev (WK L xs) d) 269 110 [some (vr 72), none, some (vi x2), some (vi (w32 (x3 + (1 : Int)))), some (vi (w32 (x4 + (1 : Int))))] [] S4)))))) else (LQ (WK L xs) (ev (WK L xs) d) 269 110 [some (vr 72), none, some (vi x2), some (vi (w32 (x3 + (0 : Int)))), some (vi (w32 (x4 + (1 : Int))))] [] S)) else none) else none) else (some (x3, S))) := by rw [LQ_eq, zc_269, zr_269]; rfl
theorem zc_270 : csOf 270 = cs_270 := rfl
theorem zr_270 : rtOf 270 = 0 := rfl
theorem zm_270 : mlOf 270 = 4 := rfl
set_option maxRecDepth 100000 in
set_option maxHeartbeats 4000000 in
/-- SupplyBookModel.rankOf(I)I -/
theorem q_270 (L : Nat) (xs : Nat → Int) (d : Nat) (S : AH) (p1 : Int) : ev (WK L xs) (d + 1) 270 [vr 72, vi p1] S = (LQ (WK L xs) (ev (WK L xs) d) 270 4 [some (vr 72), some (vi p1), some (vi (0 : Int)), some (vi (0 : Int))] [] S) := by rw [ev_eq, zc_270, zr_270, zm_270]; rfl
set_option maxRecDepth 100000 in
set_option maxHeartbeats 4000000 in
theorem q_270_4 (L : Nat) (xs : Nat → Int) (d : Nat) (S : AH) (x1 : Int) (x2 : Int) (x3 : Int) : LQ (WK L xs) (ev (WK L xs) d) 270 4 [some (vr 72), some (vi x1), some (vi x2), some (vi x3)] [] S = (if x3 < (S.2 72 5) then (if 0 ≤ x1 ∧ x1 < (300 : Int) then (if (iand (ishr (S.2 114 x1.toNat) x3) (1 : Int)) = (1 : Int) then (if 0 ≤ x3 ∧ x3 < (16 : Int) then (if x2 < (S.2 76 x3.toNat) then (if 0 ≤ x3 ∧ x3 < (16 : Int) then (LQ (WK L xs) (ev (WK L xs) d) 270 4 [some (vr 72), some (vi x1), some (vi (S.2 76 x3.toNat)), some (vi (w32 (x3 + (1 : Int))))] [] S) else none) else (LQ (WK L xs) (ev (WK L xs) d) 270 4 [some (vr 72), some (vi x1), some (vi x2), some (vi (w32 (x3 + (1 : Int))))] [] S)) else none) else (LQ (WK L xs) (ev (WK L xs) d) 270 4 [some (vr 72), some (vi x1), some (vi x2), some (vi (w32 (x3 + (1 : Int))))] [] S)) else none) else (some (x2, S))) := by rw [LQ_eq, zc_270, zr_270]; rfl
theorem zc_271 : csOf 271 = cs_271 := rfl
theorem zr_271 : rtOf 271 = 0 := rfl
theorem zm_271 : mlOf 271 = 3 := rfl
set_option maxRecDepth 100000 in
set_option maxHeartbeats 4000000 in
/-- SupplyBookModel.pay(I)I -/
theorem q_271 (L : Nat) (xs : Nat → Int) (d : Nat) (S : AH) (p1 : Int) : ev (WK L xs) (d + 1) 271 [vr 72, vi p1] S = (bindR ((ev (WK L xs) d) 259 [vr 72, vi p1] S) (fun r1 S2 => (if r1 = 0 then (some ((-1 : Int), S2)) else (if 0 ≤ p1 ∧ p1 < (300 : Int) then (if (S2.2 115 p1.toNat) = (-1 : Int) then (bindR ((ev (WK L xs) d) 261 [vr 72, vi p1] S2) (fun r3 S4 => (if r3 < 0 then (some (r3, S4)) else (if 0 ≤ p1 ∧ p1 < (300 : Int) then (if (lcmp (S4.2 72 3) (S4.2 111 p1.toNat)) < 0 then (some ((-9 : Int), S4)) else (if 0 ≤ p1 ∧ p1 < (300 : Int) then (if 0 ≤ p1 ∧ p1 < (300 : Int) then (if 0 ≤ p1 ∧ p1 < (300 : Int) then (if 0 ≤ p1 ∧ p1 < (300 : Int) then (some (r3, (wr (wr (wr (wr (wr S4 72 3 (w64 ((S4.2 72 3) - (S4.2 111 p1.toNat)))) 115 p1.toNat (S4.2 72 2)) 116 p1.toNat r3) 117 p1.toNat (S4.2 72 53)) 72 53 (w32 ((S4.2 72 53) + (1 : Int)))))) else none) else none) else none) else none)) else none)))) else (some ((-1 : Int), S2))) else none)))) := by rw [ev_eq, zc_271, zr_271, zm_271]; rfl
theorem zc_272 : csOf 272 = cs_272 := rfl
theorem zr_272 : rtOf 272 = 0 := rfl
theorem zm_272 : mlOf 272 = 5 := rfl
set_option maxRecDepth 100000 in
set_option maxHeartbeats 4000000 in
/-- SupplyBookModel.ask(IIIZ)I -/
theorem q_272 (L : Nat) (xs : Nat → Int) (d : Nat) (S : AH) (p1 : Int) (p2 : Int) (p3 : Int) (p4 : Int) : ev (WK L xs) (d + 1) 272 [vr 72, vi p1, vi p2, vi p3, vi p4] S = (if (S.2 72 79) = (14 : Int) then (some ((-1 : Int), S)) else (bindR ((ev (WK L xs) d) 197 [vr 72, vi p1] S) (fun r1 S2 => (if r1 = 0 then (some ((-1 : Int), S2)) else (bindR ((ev (WK L xs) d) 238 [vi p2] S2) (fun r3 S4 => (if r3 = 0 then (some ((-1 : Int), S4)) else (bindR ((ev (WK L xs) d) 195 [vl p3, vl (0 : Int), vl (1000000 : Int)] S4) (fun r5 S6 => (if r5 = 0 then (some ((-1 : Int), S6)) else (if 0 ≤ (S6.2 72 79) ∧ (S6.2 72 79) < (14 : Int) then (if 0 ≤ (S6.2 72 79) ∧ (S6.2 72 79) < (14 : Int) then (if 0 ≤ (S6.2 72 79) ∧ (S6.2 72 79) < (14 : Int) then (if p4 = 0 ∨ p4 = 1 then (some ((w32 ((w32 ((S6.2 72 79) + (1 : Int))) - (1 : Int))), (wr (wr (wr (wr S6 130 (S6.2 72 79).toNat p2) 131 (S6.2 72 79).toNat p3) 132 (S6.2 72 79).toNat p4) 72 79 (w32 ((S6.2 72 79) + (1 : Int)))))) else none) else none) else none) else none))))))))))) := by rw [ev_eq, zc_272, zr_272, zm_272]; rfl
theorem zc_273 : csOf 273 = cs_273 := rfl
theorem zr_273 : rtOf 273 = 0 := rfl
theorem zm_273 : mlOf 273 = 4 := rfl
set_option maxRecDepth 100000 in
set_option maxHeartbeats 4000000 in
/-- SupplyBookModel.cut(I)I -/
theorem q_273 (L : Nat) (xs : Nat → Int) (d : Nat) (S : AH) (p1 : Int) : ev (WK L xs) (d + 1) 273 [vr 72, vi p1] S = (bindR ((ev (WK L xs) d) 238 [vi p1] S) (fun r1 S2 => (if r1 = 0 then (some ((-1 : Int), S2)) else (LQ (WK L xs) (ev (WK L xs) d) 273 13 [some (vr 72), some (vi p1), some (vi (-1 : Int)), some (vi (0 : Int))] [] S2)))) := by rw [ev_eq, zc_273, zr_273, zm_273]; rfl
set_option maxRecDepth 100000 in
set_option maxHeartbeats 4000000 in
theorem q_273_13 (L : Nat) (xs : Nat → Int) (d : Nat) (S : AH) (x1 : Int) (x2 : Int) (x3 : Int) : LQ (WK L xs) (ev (WK L xs) d) 273 13 [some (vr 72), some (vi x1), some (vi x2), some (vi x3)] [] S = (if x3 < (ishl (1 : Int) (S.2 72 79)) then (bindR ((ev (WK L xs) d) 274 [vr 72, vi x3] S) (fun r1 S2 => (if r1 = 0 then (LQ (WK L xs) (ev (WK L xs) d) 273 13 [some (vr 72), some (vi x1), some (vi x2), some (vi (w32 (x3 + (1 : Int))))] [] S2) else (bindR ((ev (WK L xs) d) 275 [vr 72, vi x3] S2) (fun r3 S4 => (if 0 < (lcmp r3 x1) then (LQ (WK L xs) (ev (WK L xs) d) 273 13 [some (vr 72), some (vi x1), some (vi x2), some (vi (w32 (x3 + (1 : Int))))] [] S4) else (if x2 = (-1 : Int) then (LQ (WK L xs) (ev (WK L xs) d) 273 13 [some (vr 72), some (vi x1), some (vi x3), some (vi (w32 (x3 + (1 : Int))))] [] S4) else (bindR ((ev (WK L xs) d) 276 [vr 72, vi x3] S4) (fun r5 S6 => (bindR ((ev (WK L xs) d) 276 [vr 72, vi x2] S6) (fun r7 S8 => (if r7 < r5 then (LQ (WK L xs) (ev (WK L xs) d) 273 13 [some (vr 72), some (vi x1), some (vi x3), some (vi (w32 (x3 + (1 : Int))))] [] S8) else (bindR ((ev (WK L xs) d) 276 [vr 72, vi x3] S8) (fun r9 S10 => (bindR ((ev (WK L xs) d) 276 [vr 72, vi x2] S10) (fun r11 S12 => (if r9 = r11 then (bindR ((ev (WK L xs) d) 275 [vr 72, vi x3] S12) (fun r13 S14 => (bindR ((ev (WK L xs) d) 275 [vr 72, vi x2] S14) (fun r15 S16 => (if (lcmp r13 r15) < 0 then (LQ (WK L xs) (ev (WK L xs) d) 273 13 [some (vr 72), some (vi x1), some (vi x3), some (vi (w32 (x3 + (1 : Int))))] [] S16) else (LQ (WK L xs) (ev (WK L xs) d) 273 13 [some (vr 72), some (vi x1), some (vi x2), some (vi (w32 (x3 + (1 : Int))))] [] S16)))))) else (LQ (WK L xs) (ev (WK L xs) d) 273 13 [some (vr 72), some (vi x1), some (vi x2), some (vi (w32 (x3 + (1 : Int))))] [] S12)))))))))))))))))) else (some (x2, S))) := by rw [LQ_eq, zc_273, zr_273]; rfl
theorem zc_274 : csOf 274 = cs_274 := rfl
theorem zr_274 : rtOf 274 = 4 := rfl
theorem zm_274 : mlOf 274 = 3 := rfl
set_option maxRecDepth 100000 in
set_option maxHeartbeats 4000000 in
/-- SupplyBookModel.hasFloors(I)Z -/
theorem q_274 (L : Nat) (xs : Nat → Int) (d : Nat) (S : AH) (p1 : Int) : ev (WK L xs) (d + 1) 274 [vr 72, vi p1] S = (LQ (WK L xs) (ev (WK L xs) d) 274 2 [some (vr 72), some (vi p1), some (vi (0 : Int))] [] S) := by rw [ev_eq, zc_274, zr_274, zm_274]; rfl
set_option maxRecDepth 100000 in
set_option maxHeartbeats 4000000 in
theorem q_274_2 (L : Nat) (xs : Nat → Int) (d : Nat) (S : AH) (x1 : Int) (x2 : Int) : LQ (WK L xs) (ev (WK L xs) d) 274 2 [some (vr 72), some (vi x1), some (vi x2)] [] S = (if x2 < (S.2 72 79) then (if 0 ≤ x2 ∧ x2 < (14 : Int) then (if (S.2 132 x2.toNat) = 0 then (LQ (WK L xs) (ev (WK L xs) d) 274 2 [some (vr 72), some (vi x1), some (vi (w32 (x2 + (1 : Int))))] [] S) else (if (iand (ishr x1 x2) (1 : Int)) = 0 then (some ((0 : Int), S)) else (LQ (WK L xs) (ev (WK L xs) d) 274 2 [some (vr 72), some (vi x1), some (vi (w32 (x2 + (1 : Int))))] [] S))) else none) else (some ((1 : Int), S))) := by rw [LQ_eq, zc_274, zr_274]; rfl
theorem zc_275 : csOf 275 = cs_275 := rfl
theorem zr_275 : rtOf 275 = 1 := rfl
theorem zm_275 : mlOf 275 = 5 := rfl
set_option maxRecDepth 100000 in
set_option maxHeartbeats 4000000 in
/-- SupplyBookModel.sumOf(I)J -/
theorem q_275 (L : Nat) (xs : Nat → Int) (d : Nat) (S : AH) (p1 : Int) : ev (WK L xs) (d + 1) 275 [vr 72, vi p1] S = (LQ (WK L xs) (ev (WK L xs) d) 275 5 [some (vr 72), some (vi p1), some (vl (0 : Int)), none, some (vi (0 : Int))] [] S) := by rw [ev_eq, zc_275, zr_275, zm_275]; rfl
set_option maxRecDepth 100000 in
set_option maxHeartbeats 4000000 in
theorem q_275_5 (L : Nat) (xs : Nat → Int) (d : Nat) (S : AH) (x1 : Int) (x2 : Int) (x4 : Int) : LQ (WK L xs) (ev (WK L xs) d) 275 5 [some (vr 72), some (vi x1), some (vl x2), none, some (vi x4)] [] S = (if x4 < (S.2 72 79) then (if (iand (ishr x1 x4) (1 : Int)) = (1 : Int) then (if 0 ≤ x4 ∧ x4 < (14 : Int) then (LQ (WK L xs) (ev (WK L xs) d) 275 5 [some (vr 72), some (vi x1), some (vl (w64 (x2 + (S.2 130 x4.toNat)))), none, some (vi (w32 (x4 + (1 : Int))))] [] S) else none) else (LQ (WK L xs) (ev (WK L xs) d) 275 5 [some (vr 72), some (vi x1), some (vl (w64 (x2 + (0 : Int)))), none, some (vi (w32 (x4 + (1 : Int))))] [] S)) else (some (x2, S))) := by rw [LQ_eq, zc_275, zr_275]; rfl
theorem zc_276 : csOf 276 = cs_276 := rfl
theorem zr_276 : rtOf 276 = 0 := rfl
theorem zm_276 : mlOf 276 = 4 := rfl
set_option maxRecDepth 100000 in
set_option maxHeartbeats 4000000 in
/-- SupplyBookModel.worthOf(I)I -/
theorem q_276 (L : Nat) (xs : Nat → Int) (d : Nat) (S : AH) (p1 : Int) : ev (WK L xs) (d + 1) 276 [vr 72, vi p1] S = (LQ (WK L xs) (ev (WK L xs) d) 276 4 [some (vr 72), some (vi p1), some (vi (0 : Int)), some (vi (0 : Int))] [] S) := by rw [ev_eq, zc_276, zr_276, zm_276]; rfl
set_option maxRecDepth 100000 in
set_option maxHeartbeats 4000000 in
theorem q_276_4 (L : Nat) (xs : Nat → Int) (d : Nat) (S : AH) (x1 : Int) (x2 : Int) (x3 : Int) : LQ (WK L xs) (ev (WK L xs) d) 276 4 [some (vr 72), some (vi x1), some (vi x2), some (vi x3)] [] S = (if x3 < (S.2 72 79) then (if (iand (ishr x1 x3) (1 : Int)) = (1 : Int) then (if 0 ≤ x3 ∧ x3 < (14 : Int) then (LQ (WK L xs) (ev (WK L xs) d) 276 4 [some (vr 72), some (vi x1), some (vi (w32 (x2 + (S.2 131 x3.toNat)))), some (vi (w32 (x3 + (1 : Int))))] [] S) else none) else (LQ (WK L xs) (ev (WK L xs) d) 276 4 [some (vr 72), some (vi x1), some (vi (w32 (x2 + (0 : Int)))), some (vi (w32 (x3 + (1 : Int))))] [] S)) else (some (x2, S))) := by rw [LQ_eq, zc_276, zr_276]; rfl
theorem zc_277 : csOf 277 = cs_277 := rfl
theorem zr_277 : rtOf 277 = 1 := rfl
theorem zm_277 : mlOf 277 = 8 := rfl
set_option maxRecDepth 100000 in
set_option maxHeartbeats 4000000 in
/-- SupplyBookModel.more(I)J -/
theorem q_277 (L : Nat) (xs : Nat → Int) (d : Nat) (S : AH) (p1 : Int) : ev (WK L xs) (d + 1) 277 [vr 72, vi p1] S = (bindR ((ev (WK L xs) d) 273 [vr 72, vi p1] S) (fun r1 S2 => (if r1 = (-1 : Int) then (some ((-1 : Int), S2)) else (LQ (WK L xs) (ev (WK L xs) d) 277 20 [some (vr 72), some (vi p1), some (vi r1), some (vl (0 : Int)), none, some (vi (0 : Int)), none, none] [] S2)))) := by rw [ev_eq, zc_277, zr_277, zm_277]; rfl
set_option maxRecDepth 100000 in
set_option maxHeartbeats 4000000 in
theorem q_277_20 (L : Nat) (xs : Nat → Int) (d : Nat) (S : AH) (x1 : Int) (x2 : Int) (x3 : Int) (x5 : Int) : LQ (WK L xs) (ev (WK L xs) d) 277 20 [some (vr 72), some (vi x1), some (vi x2), some (vl x3), none, some (vi x5), none, none] [] S = (if x5 < (ishl (1 : Int) (S.2 72 79)) then (bindR ((ev (WK L xs) d) 274 [vr 72, vi x5] S) (fun r1 S2 => (if r1 = 0 then (LQ (WK L xs) (ev (WK L xs) d) 277 20 [some (vr 72), some (vi x1), some (vi x2), some (vl x3), none, some (vi (w32 (x5 + (1 : Int)))), none, none] [] S2) else (bindR ((ev (WK L xs) d) 276 [vr 72, vi x5] S2) (fun r3 S4 => (bindR ((ev (WK L xs) d) 276 [vr 72, vi x2] S4) (fun r5 S6 => (if r5 < r3 then (bindR ((ev (WK L xs) d) 275 [vr 72, vi x5] S6) (fun r7 S8 => (if (lcmp x3 (0 : Int)) = 0 then (LQ (WK L xs) (ev (WK L xs) d) 277 20 [some (vr 72), some (vi x1), some (vi x2), some (vl (w64 (r7 - x1))), none, some (vi (w32 (x5 + (1 : Int)))), none, none] [] S8) else (if (lcmp (w64 (r7 - x1)) x3) < 0 then (LQ (WK L xs) (ev (WK L xs) d) 277 20 [some (vr 72), some (vi x1), some (vi x2), some (vl (w64 (r7 - x1))), none, some (vi (w32 (x5 + (1 : Int)))), none, none] [] S8) else (LQ (WK L xs) (ev (WK L xs) d) 277 20 [some (vr 72), some (vi x1), some (vi x2), some (vl x3), none, some (vi (w32 (x5 + (1 : Int)))), none, none] [] S8))))) else (LQ (WK L xs) (ev (WK L xs) d) 277 20 [some (vr 72), some (vi x1), some (vi x2), some (vl x3), none, some (vi (w32 (x5 + (1 : Int)))), none, none] [] S6))))))))) else (some (x3, S))) := by rw [LQ_eq, zc_277, zr_277]; rfl
theorem zc_278 : csOf 278 = cs_278 := rfl
theorem zr_278 : rtOf 278 = 4 := rfl
theorem zm_278 : mlOf 278 = 3 := rfl
set_option maxRecDepth 100000 in
set_option maxHeartbeats 4000000 in
/-- SupplyBookModel.comes(II)Z -/
theorem q_278 (L : Nat) (xs : Nat → Int) (d : Nat) (S : AH) (p1 : Int) (p2 : Int) : ev (WK L xs) (d + 1) 278 [vr 72, vi p1, vi p2] S = (bindR ((ev (WK L xs) d) 195 [vl p1, vl (0 : Int), vl (5 : Int)] S) (fun r1 S2 => (if r1 = 0 then (some ((0 : Int), S2)) else (bindR ((ev (WK L xs) d) 238 [vi p2] S2) (fun r3 S4 => (if r3 = 0 then (some ((0 : Int), S4)) else (bindR ((ev (WK L xs) d) 243 [vr 72] S4) (fun r5 S6 => (bindR ((ev (WK L xs) d) 279 [vr 72] S6) (fun r7 S8 => (bindR ((ev (WK L xs) d) 280 [vr 72, vi p1, vi r5, vi r7] S8) (fun r9 S10 => (if 0 < (lcmp (w64 (r9 + p2)) (1000000000 : Int)) then (some ((0 : Int), S10)) else (bindR ((ev (WK L xs) d) 243 [vr 72] S10) (fun r11 S12 => (bindR ((ev (WK L xs) d) 279 [vr 72] S12) (fun r13 S14 => (if 0 ≤ (w32 ((w32 ((w32 ((520 : Int) * p1)) + (w32 ((52 : Int) * r11)))) + r13)) ∧ (w32 ((w32 ((w32 ((520 : Int) * p1)) + (w32 ((52 : Int) * r11)))) + r13)) < (3120 : Int) then (if 0 ≤ (w32 ((w32 ((w32 ((520 : Int) * p1)) + (w32 ((52 : Int) * r11)))) + r13)) ∧ (w32 ((w32 ((w32 ((520 : Int) * p1)) + (w32 ((52 : Int) * r11)))) + r13)) < (3120 : Int) then (some ((1 : Int), (wr (wr (wr S14 133 (w32 ((w32 ((w32 ((520 : Int) * p1)) + (w32 ((52 : Int) * r11)))) + r13)).toNat (w64 ((S14.2 133 (w32 ((w32 ((w32 ((520 : Int) * p1)) + (w32 ((52 : Int) * r11)))) + r13)).toNat) + p2))) 72 85 (w64 ((S14.2 72 85) + p2))) 72 3 (w64 ((S14.2 72 3) + p2))))) else none) else none)))))))))))))))))) := by rw [ev_eq, zc_278, zr_278, zm_278]; rfl
theorem zc_279 : csOf 279 = cs_279 := rfl
theorem zr_279 : rtOf 279 = 0 := rfl
theorem zm_279 : mlOf 279 = 1 := rfl
set_option maxRecDepth 100000 in
set_option maxHeartbeats 4000000 in
/-- SupplyBookModel.week()I -/
theorem q_279 (L : Nat) (xs : Nat → Int) (d : Nat) (S : AH)  : ev (WK L xs) (d + 1) 279 [vr 72] S = (some ((idiv (Int.tmod (S.2 72 2) (360 : Int)) (7 : Int)), S)) := by rw [ev_eq, zc_279, zr_279, zm_279]; rfl
theorem zc_280 : csOf 280 = cs_280 := rfl
theorem zr_280 : rtOf 280 = 1 := rfl
theorem zm_280 : mlOf 280 = 4 := rfl
set_option maxRecDepth 100000 in
set_option maxHeartbeats 4000000 in
/-- SupplyBookModel.cameIn(III)J -/
theorem q_280 (L : Nat) (xs : Nat → Int) (d : Nat) (S : AH) (p1 : Int) (p2 : Int) (p3 : Int) : ev (WK L xs) (d + 1) 280 [vr 72, vi p1, vi p2, vi p3] S = (if p2 < 0 then (some ((0 : Int), S)) else (if 0 ≤ (w32 ((w32 ((w32 ((520 : Int) * p1)) + (w32 ((52 : Int) * p2)))) + p3)) ∧ (w32 ((w32 ((w32 ((520 : Int) * p1)) + (w32 ((52 : Int) * p2)))) + p3)) < (3120 : Int) then (some ((S.2 133 (w32 ((w32 ((w32 ((520 : Int) * p1)) + (w32 ((52 : Int) * p2)))) + p3)).toNat), S)) else none)) := by rw [ev_eq, zc_280, zr_280, zm_280]; rfl
theorem zc_281 : csOf 281 = cs_281 := rfl
theorem zr_281 : rtOf 281 = 1 := rfl
theorem zm_281 : mlOf 281 = 4 := rfl
set_option maxRecDepth 100000 in
set_option maxHeartbeats 4000000 in
/-- SupplyBookModel.came(III)J -/
theorem q_281 (L : Nat) (xs : Nat → Int) (d : Nat) (S : AH) (p1 : Int) (p2 : Int) (p3 : Int) : ev (WK L xs) (d + 1) 281 [vr 72, vi p1, vi p2, vi p3] S = (bindR ((ev (WK L xs) d) 195 [vl p1, vl (0 : Int), vl (5 : Int)] S) (fun r1 S2 => (if r1 = 0 then (some ((-1 : Int), S2)) else (bindR ((ev (WK L xs) d) 195 [vl p2, vl (0 : Int), vl (9 : Int)] S2) (fun r3 S4 => (if r3 = 0 then (some ((-1 : Int), S4)) else (bindR ((ev (WK L xs) d) 195 [vl p3, vl (0 : Int), vl (51 : Int)] S4) (fun r5 S6 => (if r5 = 0 then (some ((-1 : Int), S6)) else (bindR ((ev (WK L xs) d) 280 [vr 72, vi p1, vi p2, vi p3] S6) (fun r7 S8 => (some (r7, S8))))))))))))) := by rw [ev_eq, zc_281, zr_281, zm_281]; rfl
theorem zc_282 : csOf 282 = cs_282 := rfl
theorem zr_282 : rtOf 282 = 1 := rfl
theorem zm_282 : mlOf 282 = 4 := rfl
set_option maxRecDepth 100000 in
set_option maxHeartbeats 4000000 in
/-- SupplyBookModel.foretold(III)J -/
theorem q_282 (L : Nat) (xs : Nat → Int) (d : Nat) (S : AH) (p1 : Int) (p2 : Int) (p3 : Int) : ev (WK L xs) (d + 1) 282 [vr 72, vi p1, vi p2, vi p3] S = (bindR ((ev (WK L xs) d) 195 [vl p1, vl (0 : Int), vl (5 : Int)] S) (fun r1 S2 => (if r1 = 0 then (some ((-1 : Int), S2)) else (bindR ((ev (WK L xs) d) 279 [vr 72] S2) (fun r3 S4 => (bindR ((ev (WK L xs) d) 195 [vl p2, vl (w32 (r3 + (1 : Int))), vl (51 : Int)] S4) (fun r5 S6 => (if r5 = 0 then (some ((-1 : Int), S6)) else (bindR ((ev (WK L xs) d) 195 [vl p3, vl (0 : Int), vl (2 : Int)] S6) (fun r7 S8 => (if r7 = 0 then (some ((-1 : Int), S8)) else (bindR ((ev (WK L xs) d) 283 [vr 72, vi p1, vi p2, vi p3] S8) (fun r9 S10 => (some (r9, S10))))))))))))))) := by rw [ev_eq, zc_282, zr_282, zm_282]; rfl
theorem zc_283 : csOf 283 = cs_283 := rfl
theorem zr_283 : rtOf 283 = 1 := rfl
theorem zm_283 : mlOf 283 = 16 := rfl
set_option maxRecDepth 100000 in
set_option maxHeartbeats 4000000 in
/-- SupplyBookModel.foretells(III)J -/
theorem q_283 (L : Nat) (xs : Nat → Int) (d : Nat) (S : AH) (p1 : Int) (p2 : Int) (p3 : Int) : ev (WK L xs) (d + 1) 283 [vr 72, vi p1, vi p2, vi p3] S = (bindR ((ev (WK L xs) d) 243 [vr 72] S) (fun r1 S2 => (bindR ((ev (WK L xs) d) 280 [vr 72, vi p1, vi (w32 (r1 - (1 : Int))), vi p2] S2) (fun r3 S4 => (bindR ((ev (WK L xs) d) 279 [vr 72] S4) (fun r5 S6 => (LQ (WK L xs) (ev (WK L xs) d) 283 37 [some (vr 72), some (vi p1), none, some (vi p3), some (vi r1), some (vl r3), none, some (vl (0 : Int)), none, some (vl (0 : Int)), none, some (vl (-1 : Int)), none, some (vi (w32 (r5 - (4 : Int)))), none, none] [] S6))))))) := by rw [ev_eq, zc_283, zr_283, zm_283]; rfl
set_option maxRecDepth 100000 in
set_option maxHeartbeats 4000000 in
theorem q_283_37 (L : Nat) (xs : Nat → Int) (d : Nat) (S : AH) (x1 : Int) (x3 : Int) (x4 : Int) (x5 : Int) (x7 : Int) (x9 : Int) (x11 : Int) (x13 : Int) : LQ (WK L xs) (ev (WK L xs) d) 283 37 [some (vr 72), some (vi x1), none, some (vi x3), some (vi x4), some (vl x5), none, some (vl x7), none, some (vl x9), none, some (vl x11), none, some (vi x13), none, none] [] S = (bindR ((ev (WK L xs) d) 279 [vr 72] S) (fun r1 S2 => (if x13 < r1 then (if x13 < 0 then (LQ (WK L xs) (ev (WK L xs) d) 283 37 [some (vr 72), some (vi x1), none, some (vi x3), some (vi x4), some (vl x5), none, some (vl x7), none, some (vl x9), none, some (vl x11), none, some (vi (w32 (x13 + (1 : Int)))), none, none] [] S2) else (bindR ((ev (WK L xs) d) 280 [vr 72, vi x1, vi (w32 (x4 - (1 : Int))), vi x13] S2) (fun r3 S4 => (if (lcmp r3 (0 : Int)) = 0 then (LQ (WK L xs) (ev (WK L xs) d) 283 37 [some (vr 72), some (vi x1), none, some (vi x3), some (vi x4), some (vl x5), none, some (vl x7), none, some (vl x9), none, some (vl x11), none, some (vi (w32 (x13 + (1 : Int)))), none, none] [] S4) else (bindR ((ev (WK L xs) d) 280 [vr 72, vi x1, vi x4, vi x13] S4) (fun r5 S6 => (bindR ((ev (WK L xs) d) 280 [vr 72, vi x1, vi (w32 (x4 - (1 : Int))), vi x13] S6) (fun r7 S8 => (bindR ((ev (WK L xs) d) 280 [vr 72, vi x1, vi x4, vi x13] S8) (fun r9 S10 => (bindR ((ev (WK L xs) d) 280 [vr 72, vi x1, vi (w32 (x4 - (1 : Int))), vi x13] S10) (fun r11 S12 => (if r11 = 0 then none else (if (lcmp x11 (-1 : Int)) = 0 then (LQ (WK L xs) (ev (WK L xs) d) 283 37 [some (vr 72), some (vi x1), none, some (vi x3), some (vi x4), some (vl x5), none, some (vl (w64 (x7 + r5))), none, some (vl (w64 (x9 + r7))), none, some (vl (ldiv (w64 (x5 * r9)) r11)), none, some (vi (w32 (x13 + (1 : Int)))), none, none] [] S12) else (if x3 = (1 : Int) then (if (lcmp (ldiv (w64 (x5 * r9)) r11) x11) < 0 then (LQ (WK L xs) (ev (WK L xs) d) 283 37 [some (vr 72), some (vi x1), none, some (vi x3), some (vi x4), some (vl x5), none, some (vl (w64 (x7 + r5))), none, some (vl (w64 (x9 + r7))), none, some (vl (ldiv (w64 (x5 * r9)) r11)), none, some (vi (w32 (x13 + (1 : Int)))), none, none] [] S12) else (LQ (WK L xs) (ev (WK L xs) d) 283 37 [some (vr 72), some (vi x1), none, some (vi x3), some (vi x4), some (vl x5), none, some (vl (w64 (x7 + r5))), none, some (vl (w64 (x9 + r7))), none, some (vl x11), none, some (vi (w32 (x13 + (1 : Int)))), none, none] [] S12)) else (if 0 < (lcmp (ldiv (w64 (x5 * r9)) r11) x11) then (LQ (WK L xs) (ev (WK L xs) d) 283 37 [some (vr 72), some (vi x1), none, some (vi x3), some (vi x4), some (vl x5), none, some (vl (w64 (x7 + r5))), none, some (vl (w64 (x9 + r7))), none, some (vl (ldiv (w64 (x5 * r9)) r11)), none, some (vi (w32 (x13 + (1 : Int)))), none, none] [] S12) else (LQ (WK L xs) (ev (WK L xs) d) 283 37 [some (vr 72), some (vi x1), none, some (vi x3), some (vi x4), some (vl x5), none, some (vl (w64 (x7 + r5))), none, some (vl (w64 (x9 + r7))), none, some (vl x11), none, some (vi (w32 (x13 + (1 : Int)))), none, none] [] S12))))))))))))))))) else (if (lcmp x9 (0 : Int)) = 0 then (some (x5, S2)) else (if x3 = 0 then (if x9 = 0 then none else (some ((ldiv (w64 (x5 * x7)) x9), S2))) else (some (x11, S2))))))) := by rw [LQ_eq, zc_283, zr_283]; rfl
theorem zc_284 : csOf 284 = cs_284 := rfl
theorem zr_284 : rtOf 284 = 4 := rfl
theorem zm_284 : mlOf 284 = 3 := rfl
set_option maxRecDepth 100000 in
set_option maxHeartbeats 4000000 in
/-- SupplyBookModel.due(II)Z -/
theorem q_284 (L : Nat) (xs : Nat → Int) (d : Nat) (S : AH) (p1 : Int) (p2 : Int) : ev (WK L xs) (d + 1) 284 [vr 72, vi p1, vi p2] S = (bindR ((ev (WK L xs) d) 195 [vl p1, vl (0 : Int), vl (51 : Int)] S) (fun r1 S2 => (if r1 = 0 then (some ((0 : Int), S2)) else (bindR ((ev (WK L xs) d) 238 [vi p2] S2) (fun r3 S4 => (if r3 = 0 then (some ((0 : Int), S4)) else (bindR ((ev (WK L xs) d) 243 [vr 72] S4) (fun r5 S6 => (if 0 ≤ (w32 ((w32 ((52 : Int) * r5)) + p1)) ∧ (w32 ((w32 ((52 : Int) * r5)) + p1)) < (520 : Int) then (if 0 ≤ (w32 ((w32 ((52 : Int) * r5)) + p1)) ∧ (w32 ((w32 ((52 : Int) * r5)) + p1)) < (520 : Int) then (some ((1 : Int), (wr S6 134 (w32 ((w32 ((52 : Int) * r5)) + p1)).toNat (w64 ((S6.2 134 (w32 ((w32 ((52 : Int) * r5)) + p1)).toNat) + p2))))) else none) else none))))))))) := by rw [ev_eq, zc_284, zr_284, zm_284]; rfl
theorem zc_285 : csOf 285 = cs_285 := rfl
theorem zr_285 : rtOf 285 = 0 := rfl
theorem zm_285 : mlOf 285 = 1 := rfl
set_option maxRecDepth 100000 in
set_option maxHeartbeats 4000000 in
/-- SupplyBookModel.shortWeek()I -/
theorem q_285 (L : Nat) (xs : Nat → Int) (d : Nat) (S : AH)  : ev (WK L xs) (d + 1) 285 [vr 72] S = (bindR ((ev (WK L xs) d) 286 [vr 72, vi (0 : Int)] S) (fun r1 S2 => (some (r1, S2)))) := by rw [ev_eq, zc_285, zr_285, zm_285]; rfl
theorem zc_286 : csOf 286 = cs_286 := rfl
theorem zr_286 : rtOf 286 = 0 := rfl
theorem zm_286 : mlOf 286 = 6 := rfl
set_option maxRecDepth 100000 in
set_option maxHeartbeats 4000000 in
/-- SupplyBookModel.shortBy(I)I -/
theorem q_286 (L : Nat) (xs : Nat → Int) (d : Nat) (S : AH) (p1 : Int) : ev (WK L xs) (d + 1) 286 [vr 72, vi p1] S = (bindR ((ev (WK L xs) d) 279 [vr 72] S) (fun r1 S2 => (LQ (WK L xs) (ev (WK L xs) d) 286 13 [some (vr 72), some (vi p1), some (vl (S.2 72 3)), none, some (vi (w32 (r1 + (1 : Int)))), none] [] S2))) := by rw [ev_eq, zc_286, zr_286, zm_286]; rfl
set_option maxRecDepth 100000 in
set_option maxHeartbeats 4000000 in
theorem q_286_13 (L : Nat) (xs : Nat → Int) (d : Nat) (S : AH) (x1 : Int) (x2 : Int) (x4 : Int) : LQ (WK L xs) (ev (WK L xs) d) 286 13 [some (vr 72), some (vi x1), some (vl x2), none, some (vi x4), none] [] S = (if x4 < (52 : Int) then (LQ (WK L xs) (ev (WK L xs) d) 286 23 [some (vr 72), some (vi x1), some (vl x2), none, some (vi x4), some (vi (0 : Int))] [] S) else (some ((-1 : Int), S))) := by rw [LQ_eq, zc_286, zr_286]; rfl
set_option maxRecDepth 100000 in
set_option maxHeartbeats 4000000 in
theorem q_286_23 (L : Nat) (xs : Nat → Int) (d : Nat) (S : AH) (x1 : Int) (x2 : Int) (x4 : Int) (x5 : Int) : LQ (WK L xs) (ev (WK L xs) d) 286 23 [some (vr 72), some (vi x1), some (vl x2), none, some (vi x4), some (vi x5)] [] S = (if x5 < (6 : Int) then (bindR ((ev (WK L xs) d) 283 [vr 72, vi x5, vi x4, vi (1 : Int)] S) (fun r3 S4 => (LQ (WK L xs) (ev (WK L xs) d) 286 23 [some (vr 72), some (vi x1), some (vl (w64 (x2 + r3))), none, some (vi x4), some (vi (w32 (x5 + (1 : Int))))] [] S4))) else (bindR ((ev (WK L xs) d) 243 [vr 72] S) (fun r1 S2 => (if 0 ≤ (w32 ((w32 ((52 : Int) * r1)) + x4)) ∧ (w32 ((w32 ((52 : Int) * r1)) + x4)) < (520 : Int) then (LQ (WK L xs) (ev (WK L xs) d) 286 69 [some (vr 72), some (vi x1), some (vl (w64 (x2 - (S2.2 134 (w32 ((w32 ((52 : Int) * r1)) + x4)).toNat)))), none, some (vi x4), some (vi (0 : Int))] [] S2) else none)))) := by rw [LQ_eq, zc_286, zr_286]; rfl
set_option maxRecDepth 100000 in
set_option maxHeartbeats 4000000 in
theorem q_286_69 (L : Nat) (xs : Nat → Int) (d : Nat) (S : AH) (x1 : Int) (x2 : Int) (x4 : Int) (x5 : Int) : LQ (WK L xs) (ev (WK L xs) d) 286 69 [some (vr 72), some (vi x1), some (vl x2), none, some (vi x4), some (vi x5)] [] S = (if x5 < (S.2 72 87) then (if (iand (ishr x1 x5) (1 : Int)) = 0 then (LQ (WK L xs) (ev (WK L xs) d) 286 69 [some (vr 72), some (vi x1), some (vl x2), none, some (vi x4), some (vi (w32 (x5 + (1 : Int))))] [] S) else (if 0 ≤ x5 ∧ x5 < (9 : Int) then (bindR ((ev (WK L xs) d) 279 [vr 72] S) (fun r1 S2 => (if r1 < (S.2 136 x5.toNat) then (if 0 ≤ x5 ∧ x5 < (9 : Int) then (if (S2.2 136 x5.toNat) = x4 then (if 0 ≤ x5 ∧ x5 < (9 : Int) then (LQ (WK L xs) (ev (WK L xs) d) 286 127 [some (vr 72), some (vi x1), some (vl (w64 (x2 + (S2.2 135 x5.toNat)))), none, some (vi x4), some (vi x5)] [] S2) else none) else (LQ (WK L xs) (ev (WK L xs) d) 286 127 [some (vr 72), some (vi x1), some (vl x2), none, some (vi x4), some (vi x5)] [] S2)) else none) else (LQ (WK L xs) (ev (WK L xs) d) 286 69 [some (vr 72), some (vi x1), some (vl x2), none, some (vi x4), some (vi (w32 (x5 + (1 : Int))))] [] S2)))) else none)) else (if (lcmp x2 (0 : Int)) < 0 then (some (x4, S)) else (LQ (WK L xs) (ev (WK L xs) d) 286 13 [some (vr 72), some (vi x1), some (vl x2), none, some (vi (w32 (x4 + (1 : Int)))), none] [] S))) := by rw [LQ_eq, zc_286, zr_286]; rfl
set_option maxRecDepth 100000 in
set_option maxHeartbeats 4000000 in
theorem q_286_127 (L : Nat) (xs : Nat → Int) (d : Nat) (S : AH) (x1 : Int) (x2 : Int) (x4 : Int) (x5 : Int) : LQ (WK L xs) (ev (WK L xs) d) 286 127 [some (vr 72), some (vi x1), some (vl x2), none, some (vi x4), some (vi x5)] [] S = (if 0 ≤ x5 ∧ x5 < (9 : Int) then (if 0 ≤ x5 ∧ x5 < (9 : Int) then (if (w32 ((S.2 136 x5.toNat) + (S.2 137 x5.toNat))) = x4 then (if 0 ≤ x5 ∧ x5 < (9 : Int) then (if 0 ≤ x5 ∧ x5 < (9 : Int) then (LQ (WK L xs) (ev (WK L xs) d) 286 69 [some (vr 72), some (vi x1), some (vl (w64 (x2 - (w64 ((S.2 135 x5.toNat) + (S.2 138 x5.toNat)))))), none, some (vi x4), some (vi (w32 (x5 + (1 : Int))))] [] S) else none) else none) else (LQ (WK L xs) (ev (WK L xs) d) 286 69 [some (vr 72), some (vi x1), some (vl x2), none, some (vi x4), some (vi (w32 (x5 + (1 : Int))))] [] S)) else none) else none) := by rw [LQ_eq, zc_286, zr_286]; rfl
theorem zc_287 : csOf 287 = cs_287 := rfl
theorem zr_287 : rtOf 287 = 0 := rfl
theorem zm_287 : mlOf 287 = 5 := rfl
set_option maxRecDepth 100000 in
set_option maxHeartbeats 4000000 in
/-- SupplyBookModel.offer(IIII)I -/
theorem q_287 (L : Nat) (xs : Nat → Int) (d : Nat) (S : AH) (p1 : Int) (p2 : Int) (p3 : Int) (p4 : Int) : ev (WK L xs) (d + 1) 287 [vr 72, vi p1, vi p2, vi p3, vi p4] S = (if (S.2 72 87) = (9 : Int) then (some ((-1 : Int), S)) else (bindR ((ev (WK L xs) d) 238 [vi p1] S) (fun r1 S2 => (if r1 = 0 then (some ((-1 : Int), S2)) else (bindR ((ev (WK L xs) d) 195 [vl p2, vl (0 : Int), vl (51 : Int)] S2) (fun r3 S4 => (if r3 = 0 then (some ((-1 : Int), S4)) else (bindR ((ev (WK L xs) d) 195 [vl p3, vl (1 : Int), vl (51 : Int)] S4) (fun r5 S6 => (if r5 = 0 then (some ((-1 : Int), S6)) else (bindR ((ev (WK L xs) d) 238 [vi p4] S6) (fun r7 S8 => (if r7 = 0 then (some ((-1 : Int), S8)) else (if 0 ≤ (S8.2 72 87) ∧ (S8.2 72 87) < (9 : Int) then (if 0 ≤ (S8.2 72 87) ∧ (S8.2 72 87) < (9 : Int) then (if 0 ≤ (S8.2 72 87) ∧ (S8.2 72 87) < (9 : Int) then (if 0 ≤ (S8.2 72 87) ∧ (S8.2 72 87) < (9 : Int) then (some ((w32 ((w32 ((S8.2 72 87) + (1 : Int))) - (1 : Int))), (wr (wr (wr (wr (wr S8 135 (S8.2 72 87).toNat p1) 136 (S8.2 72 87).toNat p2) 137 (S8.2 72 87).toNat p3) 138 (S8.2 72 87).toNat p4) 72 87 (w32 ((S8.2 72 87) + (1 : Int)))))) else none) else none) else none) else none)))))))))))))) := by rw [ev_eq, zc_287, zr_287, zm_287]; rfl
theorem zc_288 : csOf 288 = cs_288 := rfl
theorem zr_288 : rtOf 288 = 0 := rfl
theorem zm_288 : mlOf 288 = 3 := rfl
set_option maxRecDepth 100000 in
set_option maxHeartbeats 4000000 in
/-- SupplyBookModel.plan()I -/
theorem q_288 (L : Nat) (xs : Nat → Int) (d : Nat) (S : AH)  : ev (WK L xs) (d + 1) 288 [vr 72] S = (LQ (WK L xs) (ev (WK L xs) d) 288 4 [some (vr 72), some (vi (-1 : Int)), some (vi (0 : Int))] [] S) := by rw [ev_eq, zc_288, zr_288, zm_288]; rfl
set_option maxRecDepth 100000 in
set_option maxHeartbeats 4000000 in
theorem q_288_4 (L : Nat) (xs : Nat → Int) (d : Nat) (S : AH) (x1 : Int) (x2 : Int) : LQ (WK L xs) (ev (WK L xs) d) 288 4 [some (vr 72), some (vi x1), some (vi x2)] [] S = (if x2 < (ishl (1 : Int) (S.2 72 87)) then (if x1 = (-1 : Int) then (bindR ((ev (WK L xs) d) 286 [vr 72, vi x2] S) (fun r1 S2 => (if r1 = (-1 : Int) then (LQ (WK L xs) (ev (WK L xs) d) 288 4 [some (vr 72), some (vi x2), some (vi (w32 (x2 + (1 : Int))))] [] S2) else (LQ (WK L xs) (ev (WK L xs) d) 288 4 [some (vr 72), some (vi x1), some (vi (w32 (x2 + (1 : Int))))] [] S2)))) else (bindR ((ev (WK L xs) d) 289 [vr 72, vi x2] S) (fun r3 S4 => (bindR ((ev (WK L xs) d) 289 [vr 72, vi x1] S4) (fun r5 S6 => (if 0 < (lcmp r3 r5) then (LQ (WK L xs) (ev (WK L xs) d) 288 4 [some (vr 72), some (vi x1), some (vi (w32 (x2 + (1 : Int))))] [] S6) else (bindR ((ev (WK L xs) d) 289 [vr 72, vi x2] S6) (fun r7 S8 => (bindR ((ev (WK L xs) d) 289 [vr 72, vi x1] S8) (fun r9 S10 => (if (lcmp r7 r9) = 0 then (bindR ((ev (WK L xs) d) 290 [vi x2] S10) (fun r13 S14 => (bindR ((ev (WK L xs) d) 290 [vi x1] S14) (fun r15 S16 => (if r13 < r15 then (bindR ((ev (WK L xs) d) 286 [vr 72, vi x2] S16) (fun r17 S18 => (if r17 = (-1 : Int) then (LQ (WK L xs) (ev (WK L xs) d) 288 4 [some (vr 72), some (vi x2), some (vi (w32 (x2 + (1 : Int))))] [] S18) else (LQ (WK L xs) (ev (WK L xs) d) 288 4 [some (vr 72), some (vi x1), some (vi (w32 (x2 + (1 : Int))))] [] S18)))) else (LQ (WK L xs) (ev (WK L xs) d) 288 4 [some (vr 72), some (vi x1), some (vi (w32 (x2 + (1 : Int))))] [] S16)))))) else (bindR ((ev (WK L xs) d) 286 [vr 72, vi x2] S10) (fun r11 S12 => (if r11 = (-1 : Int) then (LQ (WK L xs) (ev (WK L xs) d) 288 4 [some (vr 72), some (vi x2), some (vi (w32 (x2 + (1 : Int))))] [] S12) else (LQ (WK L xs) (ev (WK L xs) d) 288 4 [some (vr 72), some (vi x1), some (vi (w32 (x2 + (1 : Int))))] [] S12))))))))))))))) else (some (x1, S))) := by rw [LQ_eq, zc_288, zr_288]; rfl
theorem zc_289 : csOf 289 = cs_289 := rfl
theorem zr_289 : rtOf 289 = 1 := rfl
theorem zm_289 : mlOf 289 = 5 := rfl
set_option maxRecDepth 100000 in
set_option maxHeartbeats 4000000 in
/-- SupplyBookModel.costOf(I)J -/
theorem q_289 (L : Nat) (xs : Nat → Int) (d : Nat) (S : AH) (p1 : Int) : ev (WK L xs) (d + 1) 289 [vr 72, vi p1] S = (LQ (WK L xs) (ev (WK L xs) d) 289 5 [some (vr 72), some (vi p1), some (vl (0 : Int)), none, some (vi (0 : Int))] [] S) := by rw [ev_eq, zc_289, zr_289, zm_289]; rfl
set_option maxRecDepth 100000 in
set_option maxHeartbeats 4000000 in
theorem q_289_5 (L : Nat) (xs : Nat → Int) (d : Nat) (S : AH) (x1 : Int) (x2 : Int) (x4 : Int) : LQ (WK L xs) (ev (WK L xs) d) 289 5 [some (vr 72), some (vi x1), some (vl x2), none, some (vi x4)] [] S = (if x4 < (S.2 72 87) then (if (iand (ishr x1 x4) (1 : Int)) = (1 : Int) then (if 0 ≤ x4 ∧ x4 < (9 : Int) then (LQ (WK L xs) (ev (WK L xs) d) 289 5 [some (vr 72), some (vi x1), some (vl (w64 (x2 + (S.2 138 x4.toNat)))), none, some (vi (w32 (x4 + (1 : Int))))] [] S) else none) else (LQ (WK L xs) (ev (WK L xs) d) 289 5 [some (vr 72), some (vi x1), some (vl (w64 (x2 + (0 : Int)))), none, some (vi (w32 (x4 + (1 : Int))))] [] S)) else (some (x2, S))) := by rw [LQ_eq, zc_289, zr_289]; rfl
theorem zc_290 : csOf 290 = cs_290 := rfl
theorem zr_290 : rtOf 290 = 0 := rfl
theorem zm_290 : mlOf 290 = 3 := rfl
set_option maxRecDepth 100000 in
set_option maxHeartbeats 4000000 in
/-- SupplyBookModel.sizeOf(I)I -/
theorem q_290 (L : Nat) (xs : Nat → Int) (d : Nat) (S : AH) (p1 : Int) : ev (WK L xs) (d + 1) 290 [vi p1] S = (LQ (WK L xs) (ev (WK L xs) d) 290 4 [none, some (vi (0 : Int)), some (vi p1)] [] S) := by rw [ev_eq, zc_290, zr_290, zm_290]; rfl
set_option maxRecDepth 100000 in
set_option maxHeartbeats 4000000 in
theorem q_290_4 (L : Nat) (xs : Nat → Int) (d : Nat) (S : AH) (x1 : Int) (x2 : Int) : LQ (WK L xs) (ev (WK L xs) d) 290 4 [none, some (vi x1), some (vi x2)] [] S = (if x2 = 0 then (some (x1, S)) else (LQ (WK L xs) (ev (WK L xs) d) 290 4 [none, some (vi (w32 (x1 + (1 : Int)))), some (vi (iand x2 (w32 (x2 - (1 : Int)))))] [] S)) := by rw [LQ_eq, zc_290, zr_290]; rfl
theorem zc_291 : csOf 291 = cs_291 := rfl
theorem zr_291 : rtOf 291 = 1 := rfl
theorem zm_291 : mlOf 291 = 3 := rfl
set_option maxRecDepth 100000 in
set_option maxHeartbeats 4000000 in
/-- SupplyBookModel.judge(I)J -/
theorem q_291 (L : Nat) (xs : Nat → Int) (d : Nat) (S : AH) (p1 : Int) : ev (WK L xs) (d + 1) 291 [vr 72, vi p1] S = (bindR ((ev (WK L xs) d) 195 [vl p1, vl (0 : Int), vl (w32 ((ishl (1 : Int) (S.2 72 87)) - (1 : Int)))] S) (fun r1 S2 => (if r1 = 0 then (some ((-1 : Int), S2)) else (bindR ((ev (WK L xs) d) 286 [vr 72, vi p1] S2) (fun r3 S4 => (if r3 = (-1 : Int) then (bindR ((ev (WK L xs) d) 289 [vr 72, vi p1] S4) (fun r5 S6 => (some (r5, S6)))) else (some ((w32 ((-2 : Int) - r3)), S4)))))))) := by rw [ev_eq, zc_291, zr_291, zm_291]; rfl
theorem zc_292 : csOf 292 = cs_292 := rfl
theorem zr_292 : rtOf 292 = 0 := rfl
theorem zm_292 : mlOf 292 = 3 := rfl
set_option maxRecDepth 100000 in
set_option maxHeartbeats 4000000 in
/-- SupplyBookModel.bid(II)I -/
theorem q_292 (L : Nat) (xs : Nat → Int) (d : Nat) (S : AH) (p1 : Int) (p2 : Int) : ev (WK L xs) (d + 1) 292 [vr 72, vi p1, vi p2] S = (if (S.2 72 92) = (12 : Int) then (some ((-1 : Int), S)) else (bindR ((ev (WK L xs) d) 195 [vl p1, vl (1 : Int), vl (1000000000 : Int)] S) (fun r1 S2 => (if r1 = 0 then (some ((-1 : Int), S2)) else (bindR ((ev (WK L xs) d) 195 [vl p2, vl (0 : Int), vl (9999 : Int)] S2) (fun r3 S4 => (if r3 = 0 then (some ((-1 : Int), S4)) else (if 0 ≤ (S4.2 72 92) ∧ (S4.2 72 92) < (12 : Int) then (if 0 ≤ (S4.2 72 92) ∧ (S4.2 72 92) < (12 : Int) then (some ((w32 ((w32 ((S4.2 72 92) + (1 : Int))) - (1 : Int))), (wr (wr (wr S4 139 (S4.2 72 92).toNat p1) 140 (S4.2 72 92).toNat p2) 72 92 (w32 ((S4.2 72 92) + (1 : Int)))))) else none) else none)))))))) := by rw [ev_eq, zc_292, zr_292, zm_292]; rfl
theorem zc_293 : csOf 293 = cs_293 := rfl
theorem zr_293 : rtOf 293 = 0 := rfl
theorem zm_293 : mlOf 293 = 8 := rfl
set_option maxRecDepth 100000 in
set_option maxHeartbeats 4000000 in
/-- SupplyBookModel.tender(IZ)I -/
theorem q_293 (L : Nat) (xs : Nat → Int) (d : Nat) (S : AH) (p1 : Int) (p2 : Int) : ev (WK L xs) (d + 1) 293 [vr 72, vi p1, vi p2] S = (bindR ((ev (WK L xs) d) 195 [vl p1, vl (1 : Int), vl (1000000000 : Int)] S) (fun r1 S2 => (if r1 = 0 then (some ((-1 : Int), S2)) else (LQ (WK L xs) (ev (WK L xs) d) 293 16 [some (vr 72), some (vi p1), some (vi p2), some (vi (0 : Int)), none, none, none, none] [] S2)))) := by rw [ev_eq, zc_293, zr_293, zm_293]; rfl
set_option maxRecDepth 100000 in
set_option maxHeartbeats 4000000 in
theorem q_293_16 (L : Nat) (xs : Nat → Int) (d : Nat) (S : AH) (x1 : Int) (x2 : Int) (x3 : Int) : LQ (WK L xs) (ev (WK L xs) d) 293 16 [some (vr 72), some (vi x1), some (vi x2), some (vi x3), none, none, none, none] [] S = (if x3 < (S.2 72 92) then (if 0 ≤ x3 ∧ x3 < (12 : Int) then (LQ (WK L xs) (ev (WK L xs) d) 293 16 [some (vr 72), some (vi x1), some (vi x2), some (vi (w32 (x3 + (1 : Int)))), none, none, none, none] [] (wr S 141 x3.toNat (0 : Int))) else none) else (bindR ((ev (WK L xs) d) 294 [vr 72] S) (fun r1 S2 => (LQ (WK L xs) (ev (WK L xs) d) 293 51 [some (vr 72), some (vi x1), some (vi x2), some (vi x1), some (vi (0 : Int)), some (vi (0 : Int)), some (vi r1), none] [] S2)))) := by rw [LQ_eq, zc_293, zr_293]; rfl
set_option maxRecDepth 100000 in
set_option maxHeartbeats 4000000 in
theorem q_293_51 (L : Nat) (xs : Nat → Int) (d : Nat) (S : AH) (x1 : Int) (x2 : Int) (x3 : Int) (x4 : Int) (x5 : Int) (x6 : Int) : LQ (WK L xs) (ev (WK L xs) d) 293 51 [some (vr 72), some (vi x1), some (vi x2), some (vi x3), some (vi x4), some (vi x5), some (vi x6), none] [] S = (if 0 < x3 then (if x6 = (-1 : Int) then (LQ (WK L xs) (ev (WK L xs) d) 293 115 [some (vr 72), some (vi x1), some (vi x2), some (vi x3), some (vi x4), some (vi x5), none, none] [] S) else (if 0 ≤ x6 ∧ x6 < (12 : Int) then (if (S.2 139 x6.toNat) < x3 then (if 0 ≤ x6 ∧ x6 < (12 : Int) then (LQ (WK L xs) (ev (WK L xs) d) 293 84 [some (vr 72), some (vi x1), some (vi x2), none, some (vi x4), none, some (vi x6), none] [vi (S.2 139 x6.toNat), vi x3] S) else none) else (LQ (WK L xs) (ev (WK L xs) d) 293 84 [some (vr 72), some (vi x1), some (vi x2), none, some (vi x4), none, some (vi x6), none] [vi x3, vi x3] S)) else none)) else (LQ (WK L xs) (ev (WK L xs) d) 293 115 [some (vr 72), some (vi x1), some (vi x2), some (vi x3), some (vi x4), some (vi x5), none, none] [] S)) := by rw [LQ_eq, zc_293, zr_293]; rfl
set_option maxRecDepth 100000 in
set_option maxHeartbeats 4000000 in
theorem q_293_84 (L : Nat) (xs : Nat → Int) (d : Nat) (S : AH) (x1 : Int) (x2 : Int) (x4 : Int) (x6 : Int) (t0 : Int) (t1 : Int) : LQ (WK L xs) (ev (WK L xs) d) 293 84 [some (vr 72), some (vi x1), some (vi x2), none, some (vi x4), none, some (vi x6), none] [vi t0, vi t1] S = (if 0 ≤ x6 ∧ x6 < (12 : Int) then (if 0 ≤ x6 ∧ x6 < (12 : Int) then (bindR ((ev (WK L xs) d) 294 [vr 72] (wr S 141 x6.toNat (1 : Int))) (fun r1 S2 => (LQ (WK L xs) (ev (WK L xs) d) 293 51 [some (vr 72), some (vi x1), some (vi x2), some (vi (w32 (t1 - t0))), some (vi (w32 (x4 + (1 : Int)))), some (vi (S.2 140 x6.toNat)), some (vi r1), none] [] S2))) else none) else none) := by rw [LQ_eq, zc_293, zr_293]; rfl
set_option maxRecDepth 100000 in
set_option maxHeartbeats 4000000 in
theorem q_293_115 (L : Nat) (xs : Nat → Int) (d : Nat) (S : AH) (x1 : Int) (x2 : Int) (x3 : Int) (x4 : Int) (x5 : Int) : LQ (WK L xs) (ev (WK L xs) d) 293 115 [some (vr 72), some (vi x1), some (vi x2), some (vi x3), some (vi x4), some (vi x5), none, none] [] S = (bindR ((ev (WK L xs) d) 295 [vr 72] S) (fun r1 S2 => (bindR ((ev (WK L xs) d) 236 [vr 72, vi (98 : Int), vi (S2.2 72 2)] S2) (fun r3 S4 => (if 0 < (lcmp (w64 ((w64 (r1 + x1)) - x3)) (w64 ((1000 : Int) * r3))) then (some ((-1 : Int), S4)) else (if (30 : Int) < (w32 ((S4.2 72 93) + x4)) then (some ((-1 : Int), S4)) else (LQ (WK L xs) (ev (WK L xs) d) 293 163 [some (vr 72), none, some (vi x2), some (vi x1), some (vi x4), some (vi x5), none, some (vi (0 : Int))] [] S4))))))) := by rw [LQ_eq, zc_293, zr_293]; rfl
set_option maxRecDepth 100000 in
set_option maxHeartbeats 4000000 in
theorem q_293_163 (L : Nat) (xs : Nat → Int) (d : Nat) (S : AH) (x2 : Int) (x3 : Int) (x4 : Int) (x5 : Int) (x7 : Int) : LQ (WK L xs) (ev (WK L xs) d) 293 163 [some (vr 72), none, some (vi x2), some (vi x3), some (vi x4), some (vi x5), none, some (vi x7)] [] S = (if x7 < (S.2 72 92) then (if 0 ≤ x7 ∧ x7 < (12 : Int) then (LQ (WK L xs) (ev (WK L xs) d) 293 163 [some (vr 72), none, some (vi x2), some (vi x3), some (vi x4), some (vi x5), none, some (vi (w32 (x7 + (1 : Int))))] [] (wr S 141 x7.toNat (0 : Int))) else none) else (LQ (WK L xs) (ev (WK L xs) d) 293 189 [some (vr 72), none, some (vi x2), some (vi x3), some (vi x4), some (vi x5), none, some (vi (0 : Int))] [] S)) := by rw [LQ_eq, zc_293, zr_293]; rfl
set_option maxRecDepth 100000 in
set_option maxHeartbeats 4000000 in
theorem q_293_189 (L : Nat) (xs : Nat → Int) (d : Nat) (S : AH) (x2 : Int) (x3 : Int) (x4 : Int) (x5 : Int) (x7 : Int) : LQ (WK L xs) (ev (WK L xs) d) 293 189 [some (vr 72), none, some (vi x2), some (vi x3), some (vi x4), some (vi x5), none, some (vi x7)] [] S = (if x7 < x4 then (bindR ((ev (WK L xs) d) 294 [vr 72] S) (fun r1 S2 => (if 0 ≤ r1 ∧ r1 < (12 : Int) then (if 0 ≤ r1 ∧ r1 < (12 : Int) then (if (S2.2 139 r1.toNat) < x3 then (if 0 ≤ r1 ∧ r1 < (12 : Int) then (if 0 ≤ (S2.2 72 93) ∧ (S2.2 72 93) < (30 : Int) then (if x2 = 0 then (if 0 ≤ r1 ∧ r1 < (12 : Int) then (LQ (WK L xs) (ev (WK L xs) d) 293 265 [some (vr 72), none, some (vi x2), some (vi x3), some (vi x4), some (vi x5), none, some (vi x7)] [vi (S2.2 140 r1.toNat), vi (S2.2 72 93), vr 143] (wr (wr S2 141 r1.toNat (1 : Int)) 142 (S2.2 72 93).toNat (S2.2 139 r1.toNat))) else none) else (LQ (WK L xs) (ev (WK L xs) d) 293 265 [some (vr 72), none, some (vi x2), some (vi x3), some (vi x4), some (vi x5), none, some (vi x7)] [vi x5, vi (S2.2 72 93), vr 143] (wr (wr S2 141 r1.toNat (1 : Int)) 142 (S2.2 72 93).toNat (S2.2 139 r1.toNat)))) else none) else none) else (if 0 ≤ (S2.2 72 93) ∧ (S2.2 72 93) < (30 : Int) then (if x2 = 0 then (if 0 ≤ r1 ∧ r1 < (12 : Int) then (LQ (WK L xs) (ev (WK L xs) d) 293 265 [some (vr 72), none, some (vi x2), some (vi x3), some (vi x4), some (vi x5), none, some (vi x7)] [vi (S2.2 140 r1.toNat), vi (S2.2 72 93), vr 143] (wr (wr S2 141 r1.toNat (1 : Int)) 142 (S2.2 72 93).toNat x3)) else none) else (LQ (WK L xs) (ev (WK L xs) d) 293 265 [some (vr 72), none, some (vi x2), some (vi x3), some (vi x4), some (vi x5), none, some (vi x7)] [vi x5, vi (S2.2 72 93), vr 143] (wr (wr S2 141 r1.toNat (1 : Int)) 142 (S2.2 72 93).toNat x3))) else none)) else none) else none))) else (some (x4, (wr S 72 92 (0 : Int))))) := by rw [LQ_eq, zc_293, zr_293]; rfl
set_option maxRecDepth 100000 in
set_option maxHeartbeats 4000000 in
theorem q_293_265 (L : Nat) (xs : Nat → Int) (d : Nat) (S : AH) (x2 : Int) (x3 : Int) (x4 : Int) (x5 : Int) (x7 : Int) (t0 : Int) (t1 : Int) : LQ (WK L xs) (ev (WK L xs) d) 293 265 [some (vr 72), none, some (vi x2), some (vi x3), some (vi x4), some (vi x5), none, some (vi x7)] [vi t0, vi t1, vr 143] S = (if 0 ≤ t1 ∧ t1 < (30 : Int) then (if 0 ≤ (S.2 72 93) ∧ (S.2 72 93) < (30 : Int) then (if 0 ≤ (S.2 72 93) ∧ (S.2 72 93) < (30 : Int) then (if 0 ≤ (S.2 72 93) ∧ (S.2 72 93) < (30 : Int) then (if 0 ≤ (S.2 72 93) ∧ (S.2 72 93) < (30 : Int) then (LQ (WK L xs) (ev (WK L xs) d) 293 189 [some (vr 72), none, some (vi x2), some (vi (w32 (x3 - (S.2 142 (S.2 72 93).toNat)))), some (vi x4), some (vi x5), none, some (vi (w32 (x7 + (1 : Int))))] [] (wr (wr (wr (wr (wr S 143 t1.toNat t0) 144 (S.2 72 93).toNat (S.2 72 2)) 145 (S.2 72 93).toNat (-1 : Int)) 72 3 (w64 ((S.2 72 3) + (S.2 142 (S.2 72 93).toNat)))) 72 93 (w32 ((S.2 72 93) + (1 : Int))))) else none) else none) else none) else none) else none) := by rw [LQ_eq, zc_293, zr_293]; rfl
theorem zc_294 : csOf 294 = cs_294 := rfl
theorem zr_294 : rtOf 294 = 0 := rfl
theorem zm_294 : mlOf 294 = 3 := rfl
set_option maxRecDepth 100000 in
set_option maxHeartbeats 4000000 in
/-- SupplyBookModel.nextBid()I -/
theorem q_294 (L : Nat) (xs : Nat → Int) (d : Nat) (S : AH)  : ev (WK L xs) (d + 1) 294 [vr 72] S = (LQ (WK L xs) (ev (WK L xs) d) 294 4 [some (vr 72), some (vi (-1 : Int)), some (vi (0 : Int))] [] S) := by rw [ev_eq, zc_294, zr_294, zm_294]; rfl
set_option maxRecDepth 100000 in
set_option maxHeartbeats 4000000 in
theorem q_294_4 (L : Nat) (xs : Nat → Int) (d : Nat) (S : AH) (x1 : Int) (x2 : Int) : LQ (WK L xs) (ev (WK L xs) d) 294 4 [some (vr 72), some (vi x1), some (vi x2)] [] S = (if x2 < (S.2 72 92) then (if 0 ≤ x2 ∧ x2 < (12 : Int) then (if (S.2 141 x2.toNat) = 0 then (if x1 = (-1 : Int) then (LQ (WK L xs) (ev (WK L xs) d) 294 4 [some (vr 72), some (vi x2), some (vi (w32 (x2 + (1 : Int))))] [] S) else (if 0 ≤ x2 ∧ x2 < (12 : Int) then (if 0 ≤ x1 ∧ x1 < (12 : Int) then (if (S.2 140 x2.toNat) < (S.2 140 x1.toNat) then (LQ (WK L xs) (ev (WK L xs) d) 294 4 [some (vr 72), some (vi x2), some (vi (w32 (x2 + (1 : Int))))] [] S) else (LQ (WK L xs) (ev (WK L xs) d) 294 4 [some (vr 72), some (vi x1), some (vi (w32 (x2 + (1 : Int))))] [] S)) else none) else none)) else (LQ (WK L xs) (ev (WK L xs) d) 294 4 [some (vr 72), some (vi x1), some (vi (w32 (x2 + (1 : Int))))] [] S)) else none) else (some (x1, S))) := by rw [LQ_eq, zc_294, zr_294]; rfl
theorem zc_295 : csOf 295 = cs_295 := rfl
theorem zr_295 : rtOf 295 = 1 := rfl
theorem zm_295 : mlOf 295 = 4 := rfl
set_option maxRecDepth 100000 in
set_option maxHeartbeats 4000000 in
/-- SupplyBookModel.owed()J -/
theorem q_295 (L : Nat) (xs : Nat → Int) (d : Nat) (S : AH)  : ev (WK L xs) (d + 1) 295 [vr 72] S = (LQ (WK L xs) (ev (WK L xs) d) 295 4 [some (vr 72), some (vl (0 : Int)), none, some (vi (0 : Int))] [] S) := by rw [ev_eq, zc_295, zr_295, zm_295]; rfl
set_option maxRecDepth 100000 in
set_option maxHeartbeats 4000000 in
theorem q_295_4 (L : Nat) (xs : Nat → Int) (d : Nat) (S : AH) (x1 : Int) (x3 : Int) : LQ (WK L xs) (ev (WK L xs) d) 295 4 [some (vr 72), some (vl x1), none, some (vi x3)] [] S = (if x3 < (S.2 72 93) then (if 0 ≤ x3 ∧ x3 < (30 : Int) then (if (S.2 145 x3.toNat) = (-1 : Int) then (if 0 ≤ x3 ∧ x3 < (30 : Int) then (LQ (WK L xs) (ev (WK L xs) d) 295 4 [some (vr 72), some (vl (w64 (x1 + (S.2 142 x3.toNat)))), none, some (vi (w32 (x3 + (1 : Int))))] [] S) else none) else (LQ (WK L xs) (ev (WK L xs) d) 295 4 [some (vr 72), some (vl (w64 (x1 + (0 : Int)))), none, some (vi (w32 (x3 + (1 : Int))))] [] S)) else none) else (some (x1, S))) := by rw [LQ_eq, zc_295, zr_295]; rfl
theorem zc_296 : csOf 296 = cs_296 := rfl
theorem zr_296 : rtOf 296 = 4 := rfl
theorem zm_296 : mlOf 296 = 2 := rfl
set_option maxRecDepth 100000 in
set_option maxHeartbeats 4000000 in
/-- SupplyBookModel.repay(I)Z -/
theorem q_296 (L : Nat) (xs : Nat → Int) (d : Nat) (S : AH) (p1 : Int) : ev (WK L xs) (d + 1) 296 [vr 72, vi p1] S = (bindR ((ev (WK L xs) d) 195 [vl p1, vl (0 : Int), vl (w32 ((S.2 72 93) - (1 : Int)))] S) (fun r1 S2 => (if r1 = 0 then (some ((0 : Int), S2)) else (if 0 ≤ p1 ∧ p1 < (30 : Int) then (if (S2.2 145 p1.toNat) = (-1 : Int) then (if 0 ≤ p1 ∧ p1 < (30 : Int) then (bindR ((ev (WK L xs) d) 297 [vr 72, vi p1, vi (S2.2 72 2)] S2) (fun r3 S4 => (if (lcmp (S2.2 72 3) (w64 ((S2.2 142 p1.toNat) + r3))) < 0 then (some ((0 : Int), S4)) else (if 0 ≤ p1 ∧ p1 < (30 : Int) then (bindR ((ev (WK L xs) d) 297 [vr 72, vi p1, vi (S4.2 72 2)] S4) (fun r5 S6 => (bindR ((ev (WK L xs) d) 297 [vr 72, vi p1, vi (S6.2 72 2)] (wr S6 72 3 (w64 ((S4.2 72 3) - (w64 ((S4.2 142 p1.toNat) + r5)))))) (fun r7 S8 => (if 0 ≤ p1 ∧ p1 < (30 : Int) then (some ((1 : Int), (wr (wr S8 72 86 (w64 ((S6.2 72 86) + r7))) 145 p1.toNat (S8.2 72 2)))) else none))))) else none)))) else none) else (some ((0 : Int), S2))) else none)))) := by rw [ev_eq, zc_296, zr_296, zm_296]; rfl
theorem zc_297 : csOf 297 = cs_297 := rfl
theorem zr_297 : rtOf 297 = 1 := rfl
theorem zm_297 : mlOf 297 = 3 := rfl
set_option maxRecDepth 100000 in
set_option maxHeartbeats 4000000 in
/-- SupplyBookModel.interest(II)J -/
theorem q_297 (L : Nat) (xs : Nat → Int) (d : Nat) (S : AH) (p1 : Int) (p2 : Int) : ev (WK L xs) (d + 1) 297 [vr 72, vi p1, vi p2] S = (if 0 ≤ p1 ∧ p1 < (30 : Int) then (if 0 ≤ p1 ∧ p1 < (30 : Int) then (if 0 ≤ p1 ∧ p1 < (30 : Int) then (some ((ldiv (w64 ((w64 ((S.2 142 p1.toNat) * (S.2 143 p1.toNat))) * (w32 (p2 - (S.2 144 p1.toNat))))) (3600000 : Int)), S)) else none) else none) else none) := by rw [ev_eq, zc_297, zr_297, zm_297]; rfl
theorem zc_298 : csOf 298 = cs_298 := rfl
theorem zr_298 : rtOf 298 = 1 := rfl
theorem zm_298 : mlOf 298 = 3 := rfl
set_option maxRecDepth 100000 in
set_option maxHeartbeats 4000000 in
/-- SupplyBookModel.loan(II)J -/
theorem q_298 (L : Nat) (xs : Nat → Int) (d : Nat) (S : AH) (p1 : Int) (p2 : Int) : ev (WK L xs) (d + 1) 298 [vr 72, vi p1, vi p2] S = (bindR ((ev (WK L xs) d) 195 [vl p1, vl (0 : Int), vl (w32 ((S.2 72 93) - (1 : Int)))] S) (fun r1 S2 => (if r1 = 0 then (some ((-1 : Int), S2)) else (if p2 = (0 : Int) then (if 0 ≤ p1 ∧ p1 < (30 : Int) then (some ((S2.2 142 p1.toNat), S2)) else none) else (if p2 = (1 : Int) then (if 0 ≤ p1 ∧ p1 < (30 : Int) then (some ((S2.2 143 p1.toNat), S2)) else none) else (if p2 = (2 : Int) then (if 0 ≤ p1 ∧ p1 < (30 : Int) then (some ((S2.2 144 p1.toNat), S2)) else none) else (if p2 = (3 : Int) then (if 0 ≤ p1 ∧ p1 < (30 : Int) then (some ((S2.2 145 p1.toNat), S2)) else none) else (if p2 = (4 : Int) then (if 0 ≤ p1 ∧ p1 < (30 : Int) then (if (S2.2 145 p1.toNat) = (-1 : Int) then (bindR ((ev (WK L xs) d) 297 [vr 72, vi p1, vi (S2.2 72 2)] S2) (fun r5 S6 => (some (r5, S6)))) else (if 0 ≤ p1 ∧ p1 < (30 : Int) then (bindR ((ev (WK L xs) d) 297 [vr 72, vi p1, vi (S2.2 145 p1.toNat)] S2) (fun r3 S4 => (some (r3, S4)))) else none)) else none) else (some ((-1 : Int), S2)))))))))) := by rw [ev_eq, zc_298, zr_298, zm_298]; rfl
theorem zc_299 : csOf 299 = cs_299 := rfl
theorem zr_299 : rtOf 299 = 0 := rfl
theorem zm_299 : mlOf 299 = 10 := rfl
set_option maxRecDepth 100000 in
set_option maxHeartbeats 4000000 in
/-- SupplyBookModel.draw(III)I -/
theorem q_299 (L : Nat) (xs : Nat → Int) (d : Nat) (S : AH) (p1 : Int) (p2 : Int) (p3 : Int) : ev (WK L xs) (d + 1) 299 [vr 72, vi p1, vi p2, vi p3] S = (bindR ((ev (WK L xs) d) 195 [vl p1, vl (0 : Int), vl (9 : Int)] S) (fun r1 S2 => (if r1 = 0 then (some ((-1 : Int), S2)) else (bindR ((ev (WK L xs) d) 195 [vl p3, vl (1 : Int), vl (1000000000 : Int)] S2) (fun r3 S4 => (if r3 = 0 then (some ((-1 : Int), S4)) else (bindR ((ev (WK L xs) d) 195 [vl p2, vl (0 : Int), vl (w32 (p3 - (1 : Int)))] S4) (fun r5 S6 => (if r5 = 0 then (some ((-1 : Int), S6)) else (if 0 ≤ p1 ∧ p1 < (10 : Int) then (LQ (WK L xs) (ev (WK L xs) d) 299 55 [some (vr 72), some (vi p1), some (vi p2), some (vi p3), some (vl (0 : Int)), none, some (vi (0 : Int)), some (vi (0 : Int)), none, none] [] (wr S6 146 p1.toNat p3)) else none)))))))))) := by rw [ev_eq, zc_299, zr_299, zm_299]; rfl
set_option maxRecDepth 100000 in
set_option maxHeartbeats 4000000 in
theorem q_299_55 (L : Nat) (xs : Nat → Int) (d : Nat) (S : AH) (x1 : Int) (x2 : Int) (x3 : Int) (x4 : Int) (x6 : Int) (x7 : Int) : LQ (WK L xs) (ev (WK L xs) d) 299 55 [some (vr 72), some (vi x1), some (vi x2), some (vi x3), some (vl x4), none, some (vi x6), some (vi x7), none, none] [] S = (if x7 < (S.2 72 52) then (bindR ((ev (WK L xs) d) 248 [vr 72, vi x7, vi x1] S) (fun r1 S2 => (if r1 = 0 then (LQ (WK L xs) (ev (WK L xs) d) 299 55 [some (vr 72), some (vi x1), some (vi x2), some (vi x3), some (vl x4), none, some (vi x6), some (vi (w32 (x7 + (1 : Int)))), none, none] [] S2) else (if 0 < (lcmp x4 x2) then (if x3 = 0 then none else (LQ (WK L xs) (ev (WK L xs) d) 299 109 [some (vr 72), some (vi x1), some (vi x2), some (vi x3), some (vl x4), none, some (vi x6), some (vi x7), none, none] [vl (w64 (x2 + (w64 ((ldiv (w64 ((w64 ((w64 (x4 - x2)) + x3)) - (1 : Int))) x3) * x3))))] S2)) else (LQ (WK L xs) (ev (WK L xs) d) 299 109 [some (vr 72), some (vi x1), some (vi x2), some (vi x3), some (vl x4), none, some (vi x6), some (vi x7), none, none] [vl x2] S2))))) else (some (x6, S))) := by rw [LQ_eq, zc_299, zr_299]; rfl
set_option maxRecDepth 100000 in
set_option maxHeartbeats 4000000 in
theorem q_299_109 (L : Nat) (xs : Nat → Int) (d : Nat) (S : AH) (x1 : Int) (x2 : Int) (x3 : Int) (x4 : Int) (x6 : Int) (x7 : Int) (t0 : Int) : LQ (WK L xs) (ev (WK L xs) d) 299 109 [some (vr 72), some (vi x1), some (vi x2), some (vi x3), some (vl x4), none, some (vi x6), some (vi x7), none, none] [vl t0] S = (if 0 ≤ x7 ∧ x7 < (300 : Int) then (if (lcmp t0 (w64 (x4 + (S.2 111 x7.toNat)))) < 0 then (LQ (WK L xs) (ev (WK L xs) d) 299 139 [some (vr 72), some (vi x1), some (vi x2), some (vi x3), some (vl x4), none, some (vi x6), some (vi x7), none, none] [vi (1 : Int), vi x7, vr 120] S) else (LQ (WK L xs) (ev (WK L xs) d) 299 139 [some (vr 72), some (vi x1), some (vi x2), some (vi x3), some (vl x4), none, some (vi x6), some (vi x7), none, none] [vi (0 : Int), vi x7, vr 120] S)) else none) := by rw [LQ_eq, zc_299, zr_299]; rfl
set_option maxRecDepth 100000 in
set_option maxHeartbeats 4000000 in
theorem q_299_139 (L : Nat) (xs : Nat → Int) (d : Nat) (S : AH) (x1 : Int) (x2 : Int) (x3 : Int) (x4 : Int) (x6 : Int) (x7 : Int) (t0 : Int) (t1 : Int) : LQ (WK L xs) (ev (WK L xs) d) 299 139 [some (vr 72), some (vi x1), some (vi x2), some (vi x3), some (vl x4), none, some (vi x6), some (vi x7), none, none] [vi t0, vi t1, vr 120] S = (if 0 ≤ t1 ∧ t1 < (300 : Int) then (if t0 = 0 ∨ t0 = 1 then (if 0 ≤ x7 ∧ x7 < (300 : Int) then (if ((wr S 120 t1.toNat t0).2 120 x7.toNat) = 0 then (if 0 ≤ x7 ∧ x7 < (300 : Int) then (LQ (WK L xs) (ev (WK L xs) d) 299 55 [some (vr 72), some (vi x1), some (vi x2), some (vi x3), some (vl (w64 (x4 + (S.2 111 x7.toNat)))), none, some (vi (w32 (x6 + (0 : Int)))), some (vi (w32 (x7 + (1 : Int)))), none, none] [] (wr S 120 t1.toNat t0)) else none) else (if 0 ≤ x7 ∧ x7 < (300 : Int) then (LQ (WK L xs) (ev (WK L xs) d) 299 55 [some (vr 72), some (vi x1), some (vi x2), some (vi x3), some (vl (w64 (x4 + (S.2 111 x7.toNat)))), none, some (vi (w32 (x6 + (1 : Int)))), some (vi (w32 (x7 + (1 : Int)))), none, none] [] (wr S 120 t1.toNat t0)) else none)) else none) else none) else none) := by rw [LQ_eq, zc_299, zr_299]; rfl
theorem zc_300 : csOf 300 = cs_300 := rfl
theorem zr_300 : rtOf 300 = 0 := rfl
theorem zm_300 : mlOf 300 = 5 := rfl
set_option maxRecDepth 100000 in
set_option maxHeartbeats 4000000 in
/-- SupplyBookModel.drawn(II)I -/
theorem q_300 (L : Nat) (xs : Nat → Int) (d : Nat) (S : AH) (p1 : Int) (p2 : Int) : ev (WK L xs) (d + 1) 300 [vr 72, vi p1, vi p2] S = (bindR ((ev (WK L xs) d) 195 [vl p1, vl (0 : Int), vl (9 : Int)] S) (fun r1 S2 => (if r1 = 0 then (some ((-1 : Int), S2)) else (if p2 < 0 then (some ((-1 : Int), S2)) else (LQ (WK L xs) (ev (WK L xs) d) 300 23 [some (vr 72), some (vi p1), some (vi p2), some (vi (0 : Int)), some (vi (0 : Int))] [] S2))))) := by rw [ev_eq, zc_300, zr_300, zm_300]; rfl
set_option maxRecDepth 100000 in
set_option maxHeartbeats 4000000 in
theorem q_300_23 (L : Nat) (xs : Nat → Int) (d : Nat) (S : AH) (x1 : Int) (x2 : Int) (x3 : Int) (x4 : Int) : LQ (WK L xs) (ev (WK L xs) d) 300 23 [some (vr 72), some (vi x1), some (vi x2), some (vi x3), some (vi x4)] [] S = (if x4 < (S.2 72 52) then (bindR ((ev (WK L xs) d) 248 [vr 72, vi x4, vi x1] S) (fun r1 S2 => (if r1 = 0 then (LQ (WK L xs) (ev (WK L xs) d) 300 23 [some (vr 72), some (vi x1), some (vi x2), some (vi x3), some (vi (w32 (x4 + (1 : Int))))] [] S2) else (if 0 ≤ x4 ∧ x4 < (300 : Int) then (if (S2.2 120 x4.toNat) = 0 then (LQ (WK L xs) (ev (WK L xs) d) 300 23 [some (vr 72), some (vi x1), some (vi x2), some (vi x3), some (vi (w32 (x4 + (1 : Int))))] [] S2) else (if x3 = x2 then (some (x4, S2)) else (LQ (WK L xs) (ev (WK L xs) d) 300 23 [some (vr 72), some (vi x1), some (vi x2), some (vi (w32 (x3 + (1 : Int)))), some (vi (w32 (x4 + (1 : Int))))] [] S2))) else none)))) else (some ((-1 : Int), S))) := by rw [LQ_eq, zc_300, zr_300]; rfl
theorem zc_301 : csOf 301 = cs_301 := rfl
theorem zr_301 : rtOf 301 = 4 := rfl
theorem zm_301 : mlOf 301 = 3 := rfl
set_option maxRecDepth 100000 in
set_option maxHeartbeats 4000000 in
/-- SupplyBookModel.test(II)Z -/
theorem q_301 (L : Nat) (xs : Nat → Int) (d : Nat) (S : AH) (p1 : Int) (p2 : Int) : ev (WK L xs) (d + 1) 301 [vr 72, vi p1, vi p2] S = (bindR ((ev (WK L xs) d) 259 [vr 72, vi p1] S) (fun r1 S2 => (if r1 = 0 then (some ((0 : Int), S2)) else (if 0 ≤ p1 ∧ p1 < (300 : Int) then (if (S2.2 120 p1.toNat) = 0 then (some ((0 : Int), S2)) else (if 0 ≤ p1 ∧ p1 < (300 : Int) then (bindR ((ev (WK L xs) d) 195 [vl p2, vl (0 : Int), vl (S2.2 111 p1.toNat)] S2) (fun r3 S4 => (if r3 = 0 then (some ((0 : Int), S4)) else (if 0 ≤ p1 ∧ p1 < (300 : Int) then (if 0 ≤ p1 ∧ p1 < (300 : Int) then (some ((1 : Int), (wr (wr S4 121 p1.toNat (1 : Int)) 122 p1.toNat p2))) else none) else none)))) else none)) else none)))) := by rw [ev_eq, zc_301, zr_301, zm_301]; rfl
theorem zc_302 : csOf 302 = cs_302 := rfl
theorem zr_302 : rtOf 302 = 1 := rfl
theorem zm_302 : mlOf 302 = 7 := rfl
set_option maxRecDepth 100000 in
set_option maxHeartbeats 4000000 in
/-- SupplyBookModel.found(II)J -/
theorem q_302 (L : Nat) (xs : Nat → Int) (d : Nat) (S : AH) (p1 : Int) (p2 : Int) : ev (WK L xs) (d + 1) 302 [vr 72, vi p1, vi p2] S = (bindR ((ev (WK L xs) d) 195 [vl p1, vl (0 : Int), vl (9 : Int)] S) (fun r1 S2 => (if r1 = 0 then (some ((-1 : Int), S2)) else (bindR ((ev (WK L xs) d) 195 [vl p2, vl (0 : Int), vl (2 : Int)] S2) (fun r3 S4 => (if r3 = 0 then (some ((-1 : Int), S4)) else (LQ (WK L xs) (ev (WK L xs) d) 302 33 [some (vr 72), some (vi p1), some (vi p2), some (vl (0 : Int)), none, some (vi (0 : Int)), none] [] S4))))))) := by rw [ev_eq, zc_302, zr_302, zm_302]; rfl
set_option maxRecDepth 100000 in
set_option maxHeartbeats 4000000 in
theorem q_302_33 (L : Nat) (xs : Nat → Int) (d : Nat) (S : AH) (x1 : Int) (x2 : Int) (x3 : Int) (x5 : Int) : LQ (WK L xs) (ev (WK L xs) d) 302 33 [some (vr 72), some (vi x1), some (vi x2), some (vl x3), none, some (vi x5), none] [] S = (if x5 < (S.2 72 52) then (bindR ((ev (WK L xs) d) 248 [vr 72, vi x5, vi x1] S) (fun r1 S2 => (if r1 = 0 then (LQ (WK L xs) (ev (WK L xs) d) 302 33 [some (vr 72), some (vi x1), some (vi x2), some (vl x3), none, some (vi (w32 (x5 + (1 : Int)))), none] [] S2) else (if 0 ≤ x5 ∧ x5 < (300 : Int) then (if (S2.2 120 x5.toNat) = 0 then (LQ (WK L xs) (ev (WK L xs) d) 302 80 [some (vr 72), some (vi x1), some (vi x2), some (vl x3), none, some (vi x5), none] [vi (0 : Int)] S2) else (if 0 ≤ x5 ∧ x5 < (300 : Int) then (if (S2.2 121 x5.toNat) = 0 then (LQ (WK L xs) (ev (WK L xs) d) 302 80 [some (vr 72), some (vi x1), some (vi x2), some (vl x3), none, some (vi x5), none] [vi (0 : Int)] S2) else (LQ (WK L xs) (ev (WK L xs) d) 302 80 [some (vr 72), some (vi x1), some (vi x2), some (vl x3), none, some (vi x5), none] [vi (1 : Int)] S2)) else none)) else none)))) else (some (x3, S))) := by rw [LQ_eq, zc_302, zr_302]; rfl
set_option maxRecDepth 100000 in
set_option maxHeartbeats 4000000 in
theorem q_302_80 (L : Nat) (xs : Nat → Int) (d : Nat) (S : AH) (x1 : Int) (x2 : Int) (x3 : Int) (x5 : Int) (t0 : Int) : LQ (WK L xs) (ev (WK L xs) d) 302 80 [some (vr 72), some (vi x1), some (vi x2), some (vl x3), none, some (vi x5), none] [vi t0] S = (if x2 = (2 : Int) then (if t0 = 0 then (if 0 ≤ x5 ∧ x5 < (300 : Int) then (LQ (WK L xs) (ev (WK L xs) d) 302 33 [some (vr 72), some (vi x1), some (vi x2), some (vl (w64 (x3 + (S.2 111 x5.toNat)))), none, some (vi (w32 (x5 + (1 : Int)))), none] [] S) else none) else (if 0 ≤ x5 ∧ x5 < (300 : Int) then (LQ (WK L xs) (ev (WK L xs) d) 302 33 [some (vr 72), some (vi x1), some (vi x2), some (vl (w64 (x3 + (S.2 122 x5.toNat)))), none, some (vi (w32 (x5 + (1 : Int)))), none] [] S) else none)) else (if t0 = 0 then (LQ (WK L xs) (ev (WK L xs) d) 302 140 [some (vr 72), some (vi x1), some (vi x2), some (vl x3), none, some (vi x5), some (vi t0)] [] S) else (if x2 = 0 then (if 0 ≤ x5 ∧ x5 < (300 : Int) then (LQ (WK L xs) (ev (WK L xs) d) 302 33 [some (vr 72), some (vi x1), some (vi x2), some (vl (w64 (x3 + (S.2 122 x5.toNat)))), none, some (vi (w32 (x5 + (1 : Int)))), none] [] S) else none) else (LQ (WK L xs) (ev (WK L xs) d) 302 140 [some (vr 72), some (vi x1), some (vi x2), some (vl x3), none, some (vi x5), some (vi t0)] [] S)))) := by rw [LQ_eq, zc_302, zr_302]; rfl
set_option maxRecDepth 100000 in
set_option maxHeartbeats 4000000 in
theorem q_302_140 (L : Nat) (xs : Nat → Int) (d : Nat) (S : AH) (x1 : Int) (x2 : Int) (x3 : Int) (x5 : Int) (x6 : Int) : LQ (WK L xs) (ev (WK L xs) d) 302 140 [some (vr 72), some (vi x1), some (vi x2), some (vl x3), none, some (vi x5), some (vi x6)] [] S = (if x6 = 0 then (LQ (WK L xs) (ev (WK L xs) d) 302 33 [some (vr 72), some (vi x1), some (vi x2), some (vl x3), none, some (vi (w32 (x5 + (1 : Int)))), none] [] S) else (if 0 ≤ x5 ∧ x5 < (300 : Int) then (if 0 ≤ x1 ∧ x1 < (10 : Int) then (if (S.2 111 x5.toNat) < (S.2 146 x1.toNat) then (if 0 ≤ x5 ∧ x5 < (300 : Int) then (if 0 ≤ x1 ∧ x1 < (10 : Int) then (if 0 ≤ x5 ∧ x5 < (300 : Int) then (if (S.2 111 x5.toNat) = 0 then none else (LQ (WK L xs) (ev (WK L xs) d) 302 33 [some (vr 72), some (vi x1), some (vi x2), some (vl (w64 (x3 + (ldiv (w64 ((S.2 122 x5.toNat) * (S.2 146 x1.toNat))) (S.2 111 x5.toNat))))), none, some (vi (w32 (x5 + (1 : Int)))), none] [] S)) else none) else none) else none) else (if 0 ≤ x5 ∧ x5 < (300 : Int) then (LQ (WK L xs) (ev (WK L xs) d) 302 33 [some (vr 72), some (vi x1), some (vi x2), some (vl (w64 (x3 + (S.2 122 x5.toNat)))), none, some (vi (w32 (x5 + (1 : Int)))), none] [] S) else none)) else none) else none)) := by rw [LQ_eq, zc_302, zr_302]; rfl
theorem zc_303 : csOf 303 = cs_303 := rfl
theorem zr_303 : rtOf 303 = 4 := rfl
theorem zm_303 : mlOf 303 = 2 := rfl
set_option maxRecDepth 100000 in
set_option maxHeartbeats 4000000 in
/-- SupplyBookModel.question(I)Z -/
theorem q_303 (L : Nat) (xs : Nat → Int) (d : Nat) (S : AH) (p1 : Int) : ev (WK L xs) (d + 1) 303 [vr 72, vi p1] S = (bindR ((ev (WK L xs) d) 259 [vr 72, vi p1] S) (fun r1 S2 => (if r1 = 0 then (some ((0 : Int), S2)) else (if 0 ≤ p1 ∧ p1 < (300 : Int) then (if (S2.2 115 p1.toNat) = (-1 : Int) then (some ((0 : Int), S2)) else (if 0 ≤ p1 ∧ p1 < (300 : Int) then (if (S2.2 118 p1.toNat) = 0 then (if 0 ≤ p1 ∧ p1 < (300 : Int) then (some ((1 : Int), (wr S2 118 p1.toNat (1 : Int)))) else none) else (some ((0 : Int), S2))) else none)) else none)))) := by rw [ev_eq, zc_303, zr_303, zm_303]; rfl
theorem zc_304 : csOf 304 = cs_304 := rfl
theorem zr_304 : rtOf 304 = 4 := rfl
theorem zm_304 : mlOf 304 = 5 := rfl
set_option maxRecDepth 100000 in
set_option maxHeartbeats 4000000 in
/-- SupplyBookModel.answer(IZ)Z -/
theorem q_304 (L : Nat) (xs : Nat → Int) (d : Nat) (S : AH) (p1 : Int) (p2 : Int) : ev (WK L xs) (d + 1) 304 [vr 72, vi p1, vi p2] S = (bindR ((ev (WK L xs) d) 259 [vr 72, vi p1] S) (fun r1 S2 => (if r1 = 0 then (some ((0 : Int), S2)) else (if 0 ≤ p1 ∧ p1 < (300 : Int) then (if (S2.2 118 p1.toNat) = (1 : Int) then (if p2 = 0 then (if 0 ≤ p1 ∧ p1 < (300 : Int) then (if p2 = 0 then (bindR ((ev (WK L xs) d) 305 [vr 72, vi p1] (wr S2 118 p1.toNat (3 : Int))) (fun r3 S4 => (some ((1 : Int), S4)))) else (some ((1 : Int), (wr S2 118 p1.toNat (3 : Int))))) else none) else (if 0 ≤ p1 ∧ p1 < (300 : Int) then (if p2 = 0 then (bindR ((ev (WK L xs) d) 305 [vr 72, vi p1] (wr S2 118 p1.toNat (2 : Int))) (fun r5 S6 => (some ((1 : Int), S6)))) else (some ((1 : Int), (wr S2 118 p1.toNat (2 : Int))))) else none)) else (some ((0 : Int), S2))) else none)))) := by rw [ev_eq, zc_304, zr_304, zm_304]; rfl
theorem zc_305 : csOf 305 = cs_305 := rfl
theorem zr_305 : rtOf 305 = 1 := rfl
theorem zm_305 : mlOf 305 = 6 := rfl
set_option maxRecDepth 100000 in
set_option maxHeartbeats 4000000 in
/-- SupplyBookModel.surcharges(I)J -/
theorem q_305 (L : Nat) (xs : Nat → Int) (d : Nat) (S : AH) (p1 : Int) : ev (WK L xs) (d + 1) 305 [vr 72, vi p1] S = (if 0 ≤ p1 ∧ p1 < (300 : Int) then (if (S.2 119 p1.toNat) = 0 then (if 0 ≤ p1 ∧ p1 < (300 : Int) then (if 0 ≤ p1 ∧ p1 < (300 : Int) then (if 0 ≤ p1 ∧ p1 < (300 : Int) then (bindR ((ev (WK L xs) d) 290 [vi (ior (S.2 114 p1.toNat) (ishl (1 : Int) (S.2 108 p1.toNat)))] (wr S 119 p1.toNat (1 : Int))) (fun r1 S2 => (if 0 ≤ p1 ∧ p1 < (300 : Int) then (if r1 = 0 then none else (LQ (WK L xs) (ev (WK L xs) d) 305 52 [some (vr 72), some (vi p1), some (vi (ior (S.2 114 p1.toNat) (ishl (1 : Int) (S.2 108 p1.toNat)))), some (vi r1), some (vi (Int.tmod (S2.2 111 p1.toNat) r1)), some (vi (0 : Int))] [] S2)) else none))) else none) else none) else none) else (some ((0 : Int), S))) else none) := by rw [ev_eq, zc_305, zr_305, zm_305]; rfl
set_option maxRecDepth 100000 in
set_option maxHeartbeats 4000000 in
theorem q_305_52 (L : Nat) (xs : Nat → Int) (d : Nat) (S : AH) (x1 : Int) (x2 : Int) (x3 : Int) (x4 : Int) (x5 : Int) : LQ (WK L xs) (ev (WK L xs) d) 305 52 [some (vr 72), some (vi x1), some (vi x2), some (vi x3), some (vi x4), some (vi x5)] [] S = (if x5 < (S.2 72 5) then (if (iand (ishr x2 x5) (1 : Int)) = 0 then (LQ (WK L xs) (ev (WK L xs) d) 305 52 [some (vr 72), some (vi x1), some (vi x2), some (vi x3), some (vi x4), some (vi (w32 (x5 + (1 : Int))))] [] S) else (if 0 ≤ x5 ∧ x5 < (16 : Int) then (if 0 ≤ x1 ∧ x1 < (300 : Int) then (if x3 = 0 then none else (if 0 < x4 then (if 0 ≤ x5 ∧ x5 < (16 : Int) then (LQ (WK L xs) (ev (WK L xs) d) 305 52 [some (vr 72), some (vi x1), some (vi x2), some (vi x3), some (vi (w32 (x4 + (-1 : Int)))), some (vi (w32 (x5 + (1 : Int))))] [] (wr S 77 x5.toNat (w64 ((S.2 77 x5.toNat) + (w32 ((idiv (S.2 111 x1.toNat) x3) + (1 : Int))))))) else none) else (if 0 ≤ x5 ∧ x5 < (16 : Int) then (LQ (WK L xs) (ev (WK L xs) d) 305 52 [some (vr 72), some (vi x1), some (vi x2), some (vi x3), some (vi (w32 (x4 + (-1 : Int)))), some (vi (w32 (x5 + (1 : Int))))] [] (wr S 77 x5.toNat (w64 ((S.2 77 x5.toNat) + (w32 ((idiv (S.2 111 x1.toNat) x3) + (0 : Int))))))) else none))) else none) else none)) else (if 0 ≤ x1 ∧ x1 < (300 : Int) then (some ((S.2 111 x1.toNat), S)) else none)) := by rw [LQ_eq, zc_305, zr_305]; rfl
theorem zc_306 : csOf 306 = cs_306 := rfl
theorem zr_306 : rtOf 306 = 1 := rfl
theorem zm_306 : mlOf 306 = 6 := rfl
set_option maxRecDepth 100000 in
set_option maxHeartbeats 4000000 in
/-- SupplyBookModel.falls(I)J -/
theorem q_306 (L : Nat) (xs : Nat → Int) (d : Nat) (S : AH) (p1 : Int) : ev (WK L xs) (d + 1) 306 [vr 72, vi p1] S = (bindR ((ev (WK L xs) d) 241 [vr 72, vi p1] S) (fun r1 S2 => (if r1 = 0 then (some ((-1 : Int), S2)) else (if 0 ≤ p1 ∧ p1 < (80 : Int) then (if (S2.2 97 p1.toNat) = (4 : Int) then (if 0 ≤ p1 ∧ p1 < (80 : Int) then (if (S2.2 105 p1.toNat) = 0 then (if 0 ≤ p1 ∧ p1 < (80 : Int) then (if 0 ≤ p1 ∧ p1 < (80 : Int) then (bindR ((ev (WK L xs) d) 236 [vr 72, vi (100 : Int), vi (S2.2 104 p1.toNat)] S2) (fun r3 S4 => (if (w32 ((S2.2 104 p1.toNat) + r3)) < (S4.2 72 2) then (if 0 ≤ p1 ∧ p1 < (80 : Int) then (if (S4.2 102 p1.toNat) = (-1 : Int) then (if 0 ≤ p1 ∧ p1 < (80 : Int) then (LQ (WK L xs) (ev (WK L xs) d) 306 95 [some (vr 72), some (vi p1), none, some (vl (0 : Int)), none, some (vi (0 : Int))] [] (wr S4 105 p1.toNat (1 : Int))) else none) else (if 0 ≤ p1 ∧ p1 < (80 : Int) then (if (w32 ((S2.2 104 p1.toNat) + r3)) < (S4.2 103 p1.toNat) then (if 0 ≤ p1 ∧ p1 < (80 : Int) then (LQ (WK L xs) (ev (WK L xs) d) 306 95 [some (vr 72), some (vi p1), none, some (vl (0 : Int)), none, some (vi (0 : Int))] [] (wr S4 105 p1.toNat (1 : Int))) else none) else (some ((-1 : Int), S4))) else none)) else none) else (some ((-1 : Int), S4))))) else none) else none) else (some ((-1 : Int), S2))) else none) else (some ((-1 : Int), S2))) else none)))) := by rw [ev_eq, zc_306, zr_306, zm_306]; rfl
set_option maxRecDepth 100000 in
set_option maxHeartbeats 4000000 in
theorem q_306_95 (L : Nat) (xs : Nat → Int) (d : Nat) (S : AH) (x1 : Int) (x3 : Int) (x5 : Int) : LQ (WK L xs) (ev (WK L xs) d) 306 95 [some (vr 72), some (vi x1), none, some (vl x3), none, some (vi x5)] [] S = (if x5 < (S.2 72 52) then (if 0 ≤ x5 ∧ x5 < (300 : Int) then (if (S.2 116 x5.toNat) = x1 then (bindR ((ev (WK L xs) d) 305 [vr 72, vi x5] S) (fun r1 S2 => (LQ (WK L xs) (ev (WK L xs) d) 306 95 [some (vr 72), some (vi x1), none, some (vl (w64 (x3 + r1))), none, some (vi (w32 (x5 + (1 : Int))))] [] S2))) else (LQ (WK L xs) (ev (WK L xs) d) 306 95 [some (vr 72), some (vi x1), none, some (vl x3), none, some (vi (w32 (x5 + (1 : Int))))] [] S)) else none) else (some (x3, S))) := by rw [LQ_eq, zc_306, zr_306]; rfl
theorem zc_307 : csOf 307 = cs_307 := rfl
theorem zr_307 : rtOf 307 = 1 := rfl
theorem zm_307 : mlOf 307 = 2 := rfl
set_option maxRecDepth 100000 in
set_option maxHeartbeats 4000000 in
/-- SupplyBookModel.surcharged(I)J -/
theorem q_307 (L : Nat) (xs : Nat → Int) (d : Nat) (S : AH) (p1 : Int) : ev (WK L xs) (d + 1) 307 [vr 72, vi p1] S = (bindR ((ev (WK L xs) d) 257 [vr 72, vi p1] S) (fun r1 S2 => (if r1 = 0 then (some ((-1 : Int), S2)) else (if 0 ≤ p1 ∧ p1 < (16 : Int) then (some ((S2.2 77 p1.toNat), S2)) else none)))) := by rw [ev_eq, zc_307, zr_307, zm_307]; rfl
theorem zc_308 : csOf 308 = cs_308 := rfl
theorem zr_308 : rtOf 308 = 4 := rfl
theorem zm_308 : mlOf 308 = 3 := rfl
set_option maxRecDepth 100000 in
set_option maxHeartbeats 4000000 in
/-- SupplyBookModel.find(II)Z -/
theorem q_308 (L : Nat) (xs : Nat → Int) (d : Nat) (S : AH) (p1 : Int) (p2 : Int) : ev (WK L xs) (d + 1) 308 [vr 72, vi p1, vi p2] S = (if (S.2 72 102) = (100 : Int) then (some ((0 : Int), S)) else (bindR ((ev (WK L xs) d) 259 [vr 72, vi p1] S) (fun r1 S2 => (if r1 = 0 then (some ((0 : Int), S2)) else (if 0 ≤ p1 ∧ p1 < (300 : Int) then (if (S2.2 115 p1.toNat) = (-1 : Int) then (some ((0 : Int), S2)) else (bindR ((ev (WK L xs) d) 195 [vl p2, vl (1 : Int), vl (1000000000 : Int)] S2) (fun r3 S4 => (if r3 = 0 then (some ((0 : Int), S4)) else (if 0 ≤ p1 ∧ p1 < (300 : Int) then (if 0 ≤ p1 ∧ p1 < (300 : Int) then (if 0 < (lcmp (w64 ((S4.2 123 p1.toNat) + p2)) (S4.2 111 p1.toNat)) then (some ((0 : Int), S4)) else (if 0 ≤ p1 ∧ p1 < (300 : Int) then (if 0 ≤ p1 ∧ p1 < (300 : Int) then (if 0 ≤ (S4.2 72 102) ∧ (S4.2 72 102) < (100 : Int) then (if 0 ≤ (S4.2 72 102) ∧ (S4.2 72 102) < (100 : Int) then (if 0 ≤ (S4.2 72 102) ∧ (S4.2 72 102) < (100 : Int) then (some ((1 : Int), (wr (wr (wr (wr (wr S4 123 p1.toNat (w64 ((S4.2 123 p1.toNat) + p2))) 147 (S4.2 72 102).toNat p1) 148 (S4.2 72 102).toNat p2) 149 (S4.2 72 102).toNat (S4.2 72 2)) 72 102 (w32 ((S4.2 72 102) + (1 : Int)))))) else none) else none) else none) else none) else none)) else none) else none))))) else none))))) := by rw [ev_eq, zc_308, zr_308, zm_308]; rfl
theorem zc_309 : csOf 309 = cs_309 := rfl
theorem zr_309 : rtOf 309 = 1 := rfl
theorem zm_309 : mlOf 309 = 7 := rfl
set_option maxRecDepth 100000 in
set_option maxHeartbeats 4000000 in
/-- SupplyBookModel.paid(III)J -/
theorem q_309 (L : Nat) (xs : Nat → Int) (d : Nat) (S : AH) (p1 : Int) (p2 : Int) (p3 : Int) : ev (WK L xs) (d + 1) 309 [vr 72, vi p1, vi p2, vi p3] S = (bindR ((ev (WK L xs) d) 195 [vl p1, vl (0 : Int), vl (9 : Int)] S) (fun r1 S2 => (if r1 = 0 then (some ((-1 : Int), S2)) else (bindR ((ev (WK L xs) d) 197 [vr 72, vi p2] S2) (fun r3 S4 => (if r3 = 0 then (some ((-1 : Int), S4)) else (bindR ((ev (WK L xs) d) 195 [vl p3, vl (0 : Int), vl (3599 : Int)] S4) (fun r5 S6 => (if r5 = 0 then (some ((-1 : Int), S6)) else (LQ (WK L xs) (ev (WK L xs) d) 309 42 [some (vr 72), some (vi p1), some (vi p2), some (vi p3), some (vl (0 : Int)), none, some (vi (0 : Int))] [] S6)))))))))) := by rw [ev_eq, zc_309, zr_309, zm_309]; rfl
set_option maxRecDepth 100000 in
set_option maxHeartbeats 4000000 in
theorem q_309_42 (L : Nat) (xs : Nat → Int) (d : Nat) (S : AH) (x1 : Int) (x2 : Int) (x3 : Int) (x4 : Int) (x6 : Int) : LQ (WK L xs) (ev (WK L xs) d) 309 42 [some (vr 72), some (vi x1), some (vi x2), some (vi x3), some (vl x4), none, some (vi x6)] [] S = (if x6 < (S.2 72 52) then (bindR ((ev (WK L xs) d) 310 [vr 72, vi x6, vi x1, vi x2, vi x3] S) (fun r1 S2 => (if r1 = 0 then (LQ (WK L xs) (ev (WK L xs) d) 309 42 [some (vr 72), some (vi x1), some (vi x2), some (vi x3), some (vl (w64 (x4 + (0 : Int)))), none, some (vi (w32 (x6 + (1 : Int))))] [] S2) else (if 0 ≤ x6 ∧ x6 < (300 : Int) then (LQ (WK L xs) (ev (WK L xs) d) 309 42 [some (vr 72), some (vi x1), some (vi x2), some (vi x3), some (vl (w64 (x4 + (S2.2 111 x6.toNat)))), none, some (vi (w32 (x6 + (1 : Int))))] [] S2) else none)))) else (LQ (WK L xs) (ev (WK L xs) d) 309 89 [some (vr 72), some (vi x1), some (vi x2), some (vi x3), some (vl x4), none, some (vi (0 : Int))] [] S)) := by rw [LQ_eq, zc_309, zr_309]; rfl
set_option maxRecDepth 100000 in
set_option maxHeartbeats 4000000 in
theorem q_309_89 (L : Nat) (xs : Nat → Int) (d : Nat) (S : AH) (x1 : Int) (x2 : Int) (x3 : Int) (x4 : Int) (x6 : Int) : LQ (WK L xs) (ev (WK L xs) d) 309 89 [some (vr 72), some (vi x1), some (vi x2), some (vi x3), some (vl x4), none, some (vi x6)] [] S = (if x6 < (S.2 72 102) then (if 0 ≤ x6 ∧ x6 < (100 : Int) then (if x3 < (S.2 149 x6.toNat) then (LQ (WK L xs) (ev (WK L xs) d) 309 89 [some (vr 72), some (vi x1), some (vi x2), some (vi x3), some (vl (w64 (x4 - (0 : Int)))), none, some (vi (w32 (x6 + (1 : Int))))] [] S) else (if 0 ≤ x6 ∧ x6 < (100 : Int) then (bindR ((ev (WK L xs) d) 310 [vr 72, vi (S.2 147 x6.toNat), vi x1, vi x2, vi x3] S) (fun r1 S2 => (if r1 = 0 then (LQ (WK L xs) (ev (WK L xs) d) 309 89 [some (vr 72), some (vi x1), some (vi x2), some (vi x3), some (vl (w64 (x4 - (0 : Int)))), none, some (vi (w32 (x6 + (1 : Int))))] [] S2) else (if 0 ≤ x6 ∧ x6 < (100 : Int) then (LQ (WK L xs) (ev (WK L xs) d) 309 89 [some (vr 72), some (vi x1), some (vi x2), some (vi x3), some (vl (w64 (x4 - (S2.2 148 x6.toNat)))), none, some (vi (w32 (x6 + (1 : Int))))] [] S2) else none)))) else none)) else none) else (some (x4, S))) := by rw [LQ_eq, zc_309, zr_309]; rfl
theorem zc_310 : csOf 310 = cs_310 := rfl
theorem zr_310 : rtOf 310 = 4 := rfl
theorem zm_310 : mlOf 310 = 5 := rfl
set_option maxRecDepth 100000 in
set_option maxHeartbeats 4000000 in
/-- SupplyBookModel.isMeant(IIII)Z -/
theorem q_310 (L : Nat) (xs : Nat → Int) (d : Nat) (S : AH) (p1 : Int) (p2 : Int) (p3 : Int) (p4 : Int) : ev (WK L xs) (d + 1) 310 [vr 72, vi p1, vi p2, vi p3, vi p4] S = (bindR ((ev (WK L xs) d) 248 [vr 72, vi p1, vi p2] S) (fun r1 S2 => (if r1 = 0 then (some ((0 : Int), S2)) else (if 0 ≤ p1 ∧ p1 < (300 : Int) then (if p4 < (S2.2 115 p1.toNat) then (some ((0 : Int), S2)) else (if 0 ≤ p1 ∧ p1 < (300 : Int) then (bindR ((ev (WK L xs) d) 199 [vr 72, vi (S2.2 109 p1.toNat), vi p3] S2) (fun r3 S4 => (if r3 = 0 then (some ((0 : Int), S4)) else (some ((1 : Int), S4))))) else none)) else none)))) := by rw [ev_eq, zc_310, zr_310, zm_310]; rfl
theorem zc_311 : csOf 311 = cs_311 := rfl
theorem zr_311 : rtOf 311 = 0 := rfl
theorem zm_311 : mlOf 311 = 9 := rfl
set_option maxRecDepth 100000 in
set_option maxHeartbeats 4000000 in
/-- SupplyBookModel.close(I)I -/
theorem q_311 (L : Nat) (xs : Nat → Int) (d : Nat) (S : AH) (p1 : Int) : ev (WK L xs) (d + 1) 311 [vr 72, vi p1] S = (if p1 = (S.2 72 106) then (bindR ((ev (WK L xs) d) 243 [vr 72] S) (fun r1 S2 => (if p1 < r1 then (bindR ((ev (WK L xs) d) 236 [vr 72, vi (99 : Int), vi (w32 ((w32 ((w32 ((360 : Int) * p1)) + (360 : Int))) - (1 : Int)))] S2) (fun r3 S4 => (LQ (WK L xs) (ev (WK L xs) d) 311 47 [some (vr 72), some (vi p1), some (vi r3), some (vi (S4.2 72 40)), some (vi (0 : Int)), some (vi (0 : Int)), none, none, none] [] S4))) else (some ((-1 : Int), S2))))) else (some ((-1 : Int), S))) := by rw [ev_eq, zc_311, zr_311, zm_311]; rfl
set_option maxRecDepth 100000 in
set_option maxHeartbeats 4000000 in
theorem q_311_47 (L : Nat) (xs : Nat → Int) (d : Nat) (S : AH) (x1 : Int) (x2 : Int) (x3 : Int) (x4 : Int) (x5 : Int) : LQ (WK L xs) (ev (WK L xs) d) 311 47 [some (vr 72), some (vi x1), some (vi x2), some (vi x3), some (vi x4), some (vi x5), none, none, none] [] S = (if x5 < x3 then (if (S.2 72 40) < (80 : Int) then (if 0 ≤ x5 ∧ x5 < (80 : Int) then (if (S.2 97 x5.toNat) = (2 : Int) then (if 0 ≤ x5 ∧ x5 < (80 : Int) then (if (S.2 100 x5.toNat) = x1 then (if 0 ≤ x5 ∧ x5 < (80 : Int) then (if (S.2 101 x5.toNat) = (-1 : Int) then (bindR ((ev (WK L xs) d) 246 [vr 72, vi x5, vi x1] S) (fun r1 S2 => (if 0 < (lcmp (ldiv (w64 (r1 * x2)) (100 : Int)) (0 : Int)) then (if 0 ≤ x5 ∧ x5 < (80 : Int) then (if (lcmp (ldiv (w64 (r1 * x2)) (100 : Int)) (1000000000 : Int)) < 0 then (LQ (WK L xs) (ev (WK L xs) d) 311 150 [some (vr 72), some (vi x1), some (vi x2), some (vi x3), some (vi x4), some (vi x5), none, none, none] [vl (ldiv (w64 (r1 * x2)) (100 : Int)), vi (S2.2 98 x5.toNat), vi (2 : Int), vr 72] S2) else (LQ (WK L xs) (ev (WK L xs) d) 311 150 [some (vr 72), some (vi x1), some (vi x2), some (vi x3), some (vi x4), some (vi x5), none, none, none] [vl (1000000000 : Int), vi (S2.2 98 x5.toNat), vi (2 : Int), vr 72] S2)) else none) else (LQ (WK L xs) (ev (WK L xs) d) 311 47 [some (vr 72), some (vi x1), some (vi x2), some (vi x3), some (vi x4), some (vi (w32 (x5 + (1 : Int)))), none, none, none] [] S2)))) else (LQ (WK L xs) (ev (WK L xs) d) 311 47 [some (vr 72), some (vi x1), some (vi x2), some (vi x3), some (vi x4), some (vi (w32 (x5 + (1 : Int)))), none, none, none] [] S)) else none) else (LQ (WK L xs) (ev (WK L xs) d) 311 47 [some (vr 72), some (vi x1), some (vi x2), some (vi x3), some (vi x4), some (vi (w32 (x5 + (1 : Int)))), none, none, none] [] S)) else none) else (LQ (WK L xs) (ev (WK L xs) d) 311 47 [some (vr 72), some (vi x1), some (vi x2), some (vi x3), some (vi x4), some (vi (w32 (x5 + (1 : Int)))), none, none, none] [] S)) else none) else (some (x4, (wr S 72 106 (w32 ((S.2 72 106) + (1 : Int))))))) else (some (x4, (wr S 72 106 (w32 ((S.2 72 106) + (1 : Int))))))) := by rw [LQ_eq, zc_311, zr_311]; rfl
set_option maxRecDepth 100000 in
set_option maxHeartbeats 4000000 in
theorem q_311_150 (L : Nat) (xs : Nat → Int) (d : Nat) (S : AH) (x1 : Int) (x2 : Int) (x3 : Int) (x4 : Int) (x5 : Int) (t0 : Int) (t1 : Int) (t2 : Int) : LQ (WK L xs) (ev (WK L xs) d) 311 150 [some (vr 72), some (vi x1), some (vi x2), some (vi x3), some (vi x4), some (vi x5), none, none, none] [vl t0, vi t1, vi t2, vr 72] S = (bindR ((ev (WK L xs) d) 239 [vr 72, vi t2, vi t1, vi (i32 t0), vi (w32 (x1 + (1 : Int)))] S) (fun r1 S2 => (bindR ((ev (WK L xs) d) 312 [vr 72, vi (w32 ((20 : Int) + x5)), vi (w32 ((20 : Int) + r1))] S2) (fun r3 S4 => (LQ (WK L xs) (ev (WK L xs) d) 311 47 [some (vr 72), some (vi x1), some (vi x2), some (vi x3), some (vi (w32 (x4 + (1 : Int)))), some (vi (w32 (x5 + (1 : Int)))), none, none, none] [] S4))))) := by rw [LQ_eq, zc_311, zr_311]; rfl
theorem zc_312 : csOf 312 = cs_312 := rfl
theorem zr_312 : rtOf 312 = 9 := rfl
theorem zm_312 : mlOf 312 = 4 := rfl
set_option maxRecDepth 100000 in
set_option maxHeartbeats 4000000 in
/-- SupplyBookModel.copiesText(II)V -/
theorem q_312 (L : Nat) (xs : Nat → Int) (d : Nat) (S : AH) (p1 : Int) (p2 : Int) : ev (WK L xs) (d + 1) 312 [vr 72, vi p1, vi p2] S = (if 0 ≤ p1 ∧ p1 < (100 : Int) then (if 0 ≤ p2 ∧ p2 < (100 : Int) then (LQ (WK L xs) (ev (WK L xs) d) 312 14 [some (vr 72), some (vi p1), some (vi p2), some (vi (0 : Int))] [] (wr S 78 p2.toNat (S.2 78 p1.toNat))) else none) else none) := by rw [ev_eq, zc_312, zr_312, zm_312]; rfl
set_option maxRecDepth 100000 in
set_option maxHeartbeats 4000000 in
theorem q_312_14 (L : Nat) (xs : Nat → Int) (d : Nat) (S : AH) (x1 : Int) (x2 : Int) (x3 : Int) : LQ (WK L xs) (ev (WK L xs) d) 312 14 [some (vr 72), some (vi x1), some (vi x2), some (vi x3)] [] S = (if x3 < (16 : Int) then (if 0 ≤ (w32 ((w32 ((16 : Int) * x1)) + x3)) ∧ (w32 ((w32 ((16 : Int) * x1)) + x3)) < (1600 : Int) then (if 0 ≤ (w32 ((w32 ((16 : Int) * x2)) + x3)) ∧ (w32 ((w32 ((16 : Int) * x2)) + x3)) < (1600 : Int) then (if 0 ≤ (w32 ((w32 ((16 : Int) * x1)) + x3)) ∧ (w32 ((w32 ((16 : Int) * x1)) + x3)) < (1600 : Int) then (if 0 ≤ (w32 ((w32 ((16 : Int) * x2)) + x3)) ∧ (w32 ((w32 ((16 : Int) * x2)) + x3)) < (1600 : Int) then (if 0 ≤ (w32 ((w32 ((16 : Int) * x1)) + x3)) ∧ (w32 ((w32 ((16 : Int) * x1)) + x3)) < (1600 : Int) then (if 0 ≤ (w32 ((w32 ((16 : Int) * x2)) + x3)) ∧ (w32 ((w32 ((16 : Int) * x2)) + x3)) < (1600 : Int) then (if 0 ≤ (w32 ((w32 ((16 : Int) * x1)) + x3)) ∧ (w32 ((w32 ((16 : Int) * x1)) + x3)) < (1600 : Int) then (if 0 ≤ (w32 ((w32 ((16 : Int) * x2)) + x3)) ∧ (w32 ((w32 ((16 : Int) * x2)) + x3)) < (1600 : Int) then (if 0 ≤ (w32 ((w32 ((16 : Int) * x1)) + x3)) ∧ (w32 ((w32 ((16 : Int) * x1)) + x3)) < (1600 : Int) then (if 0 ≤ (w32 ((w32 ((16 : Int) * x2)) + x3)) ∧ (w32 ((w32 ((16 : Int) * x2)) + x3)) < (1600 : Int) then (LQ (WK L xs) (ev (WK L xs) d) 312 14 [some (vr 72), some (vi x1), some (vi x2), some (vi (w32 (x3 + (1 : Int))))] [] (wr (wr (wr (wr (wr S 79 (w32 ((w32 ((16 : Int) * x2)) + x3)).toNat (S.2 79 (w32 ((w32 ((16 : Int) * x1)) + x3)).toNat)) 80 (w32 ((w32 ((16 : Int) * x2)) + x3)).toNat (S.2 80 (w32 ((w32 ((16 : Int) * x1)) + x3)).toNat)) 81 (w32 ((w32 ((16 : Int) * x2)) + x3)).toNat (S.2 81 (w32 ((w32 ((16 : Int) * x1)) + x3)).toNat)) 82 (w32 ((w32 ((16 : Int) * x2)) + x3)).toNat (S.2 82 (w32 ((w32 ((16 : Int) * x1)) + x3)).toNat)) 83 (w32 ((w32 ((16 : Int) * x2)) + x3)).toNat (S.2 83 (w32 ((w32 ((16 : Int) * x1)) + x3)).toNat))) else none) else none) else none) else none) else none) else none) else none) else none) else none) else none) else (LQ (WK L xs) (ev (WK L xs) d) 312 138 [some (vr 72), some (vi x1), some (vi x2), some (vi (0 : Int))] [] S)) := by rw [LQ_eq, zc_312, zr_312]; rfl
set_option maxRecDepth 100000 in
set_option maxHeartbeats 4000000 in
theorem q_312_138 (L : Nat) (xs : Nat → Int) (d : Nat) (S : AH) (x1 : Int) (x2 : Int) (x3 : Int) : LQ (WK L xs) (ev (WK L xs) d) 312 138 [some (vr 72), some (vi x1), some (vi x2), some (vi x3)] [] S = (if x3 < (200 : Int) then (if 0 ≤ (w32 ((w32 ((200 : Int) * x1)) + x3)) ∧ (w32 ((w32 ((200 : Int) * x1)) + x3)) < (20000 : Int) then (if 0 ≤ (w32 ((w32 ((200 : Int) * x2)) + x3)) ∧ (w32 ((w32 ((200 : Int) * x2)) + x3)) < (20000 : Int) then (if 0 ≤ (w32 ((w32 ((200 : Int) * x1)) + x3)) ∧ (w32 ((w32 ((200 : Int) * x1)) + x3)) < (20000 : Int) then (if 0 ≤ (w32 ((w32 ((200 : Int) * x2)) + x3)) ∧ (w32 ((w32 ((200 : Int) * x2)) + x3)) < (20000 : Int) then (LQ (WK L xs) (ev (WK L xs) d) 312 138 [some (vr 72), some (vi x1), some (vi x2), some (vi (w32 (x3 + (1 : Int))))] [] (wr (wr S 84 (w32 ((w32 ((200 : Int) * x2)) + x3)).toNat (S.2 84 (w32 ((w32 ((200 : Int) * x1)) + x3)).toNat)) 85 (w32 ((w32 ((200 : Int) * x2)) + x3)).toNat (S.2 85 (w32 ((w32 ((200 : Int) * x1)) + x3)).toNat))) else none) else none) else none) else none) else (some (0, S))) := by rw [LQ_eq, zc_312, zr_312]; rfl
theorem zc_313 : csOf 313 = cs_313 := rfl
theorem zr_313 : rtOf 313 = 0 := rfl
theorem zm_313 : mlOf 313 = 5 := rfl
set_option maxRecDepth 100000 in
set_option maxHeartbeats 4000000 in
/-- SupplyBookModel.check(II)I -/
theorem q_313 (L : Nat) (xs : Nat → Int) (d : Nat) (S : AH) (p1 : Int) (p2 : Int) : ev (WK L xs) (d + 1) 313 [vr 72, vi p1, vi p2] S = (bindR ((ev (WK L xs) d) 195 [vl p1, vl (0 : Int), vl (9 : Int)] S) (fun r1 S2 => (if r1 = 0 then (some ((-2 : Int), S2)) else (if p2 < 0 then (some ((-2 : Int), S2)) else (if (idiv (S2.2 72 1) (12 : Int)) < p2 then (some ((-2 : Int), S2)) else (LQ (WK L xs) (ev (WK L xs) d) 313 37 [some (vr 72), some (vi p1), some (vi p2), some (vi (0 : Int)), none] [] (wr S2 72 1 (0 : Int)))))))) := by rw [ev_eq, zc_313, zr_313, zm_313]; rfl
set_option maxRecDepth 100000 in
set_option maxHeartbeats 4000000 in
theorem q_313_37 (L : Nat) (xs : Nat → Int) (d : Nat) (S : AH) (x1 : Int) (x2 : Int) (x3 : Int) : LQ (WK L xs) (ev (WK L xs) d) 313 37 [some (vr 72), some (vi x1), some (vi x2), some (vi x3), none] [] S = (if x3 < x2 then (bindR ((ev (WK L xs) d) 314 [vr 72, vi x1, vi x3] S) (fun r3 S4 => (if r3 = (-1 : Int) then (some ((w32 ((3 : Int) * x3)), S4)) else (bindR ((ev (WK L xs) d) 315 [vr 72, vi (w32 ((3 : Int) * x3))] S4) (fun r5 S6 => (if r5 = r3 then (bindR ((ev (WK L xs) d) 315 [vr 72, vi (w32 ((w32 ((3 : Int) * x3)) + (1 : Int)))] S6) (fun r7 S8 => (if 0 ≤ r3 ∧ r3 < (300 : Int) then (if r7 = (S8.2 116 r3.toNat) then (bindR ((ev (WK L xs) d) 315 [vr 72, vi (w32 ((w32 ((3 : Int) * x3)) + (2 : Int)))] S8) (fun r9 S10 => (if 0 ≤ r3 ∧ r3 < (300 : Int) then (if r9 = (S10.2 115 r3.toNat) then (LQ (WK L xs) (ev (WK L xs) d) 313 37 [some (vr 72), some (vi x1), some (vi x2), some (vi (w32 (x3 + (1 : Int)))), none] [] S10) else (some ((w32 ((w32 ((3 : Int) * x3)) + (2 : Int))), S10))) else none))) else (some ((w32 ((w32 ((3 : Int) * x3)) + (1 : Int))), S8))) else none))) else (some ((w32 ((3 : Int) * x3)), S6)))))))) else (bindR ((ev (WK L xs) d) 314 [vr 72, vi x1, vi x2] S) (fun r1 S2 => (if r1 = (-1 : Int) then (some ((-1 : Int), S2)) else (some ((w32 ((3 : Int) * x2)), S2)))))) := by rw [LQ_eq, zc_313, zr_313]; rfl
theorem zc_314 : csOf 314 = cs_314 := rfl
theorem zr_314 : rtOf 314 = 0 := rfl
theorem zm_314 : mlOf 314 = 6 := rfl
set_option maxRecDepth 100000 in
set_option maxHeartbeats 4000000 in
/-- SupplyBookModel.paidAfter(II)I -/
theorem q_314 (L : Nat) (xs : Nat → Int) (d : Nat) (S : AH) (p1 : Int) (p2 : Int) : ev (WK L xs) (d + 1) 314 [vr 72, vi p1, vi p2] S = (LQ (WK L xs) (ev (WK L xs) d) 314 2 [some (vr 72), some (vi p1), some (vi p2), some (vi (0 : Int)), none, none] [] S) := by rw [ev_eq, zc_314, zr_314, zm_314]; rfl
set_option maxRecDepth 100000 in
set_option maxHeartbeats 4000000 in
theorem q_314_2 (L : Nat) (xs : Nat → Int) (d : Nat) (S : AH) (x1 : Int) (x2 : Int) (x3 : Int) : LQ (WK L xs) (ev (WK L xs) d) 314 2 [some (vr 72), some (vi x1), some (vi x2), some (vi x3), none, none] [] S = (if x3 < (S.2 72 52) then (bindR ((ev (WK L xs) d) 248 [vr 72, vi x3, vi x1] S) (fun r1 S2 => (if r1 = 0 then (LQ (WK L xs) (ev (WK L xs) d) 314 2 [some (vr 72), some (vi x1), some (vi x2), some (vi (w32 (x3 + (1 : Int)))), none, none] [] S2) else (LQ (WK L xs) (ev (WK L xs) d) 314 28 [some (vr 72), some (vi x1), some (vi x2), some (vi x3), some (vi (0 : Int)), some (vi (0 : Int))] [] S2)))) else (some ((-1 : Int), S))) := by rw [LQ_eq, zc_314, zr_314]; rfl
set_option maxRecDepth 100000 in
set_option maxHeartbeats 4000000 in
theorem q_314_28 (L : Nat) (xs : Nat → Int) (d : Nat) (S : AH) (x1 : Int) (x2 : Int) (x3 : Int) (x4 : Int) (x5 : Int) : LQ (WK L xs) (ev (WK L xs) d) 314 28 [some (vr 72), some (vi x1), some (vi x2), some (vi x3), some (vi x4), some (vi x5)] [] S = (if x5 < (S.2 72 52) then (bindR ((ev (WK L xs) d) 248 [vr 72, vi x5, vi x1] S) (fun r1 S2 => (if r1 = 0 then (LQ (WK L xs) (ev (WK L xs) d) 314 28 [some (vr 72), some (vi x1), some (vi x2), some (vi x3), some (vi (w32 (x4 + (0 : Int)))), some (vi (w32 (x5 + (1 : Int))))] [] S2) else (if 0 ≤ x5 ∧ x5 < (300 : Int) then (if 0 ≤ x3 ∧ x3 < (300 : Int) then (if (S2.2 117 x5.toNat) < (S2.2 117 x3.toNat) then (LQ (WK L xs) (ev (WK L xs) d) 314 28 [some (vr 72), some (vi x1), some (vi x2), some (vi x3), some (vi (w32 (x4 + (1 : Int)))), some (vi (w32 (x5 + (1 : Int))))] [] S2) else (LQ (WK L xs) (ev (WK L xs) d) 314 28 [some (vr 72), some (vi x1), some (vi x2), some (vi x3), some (vi (w32 (x4 + (0 : Int)))), some (vi (w32 (x5 + (1 : Int))))] [] S2)) else none) else none)))) else (if x4 = x2 then (some (x3, S)) else (LQ (WK L xs) (ev (WK L xs) d) 314 2 [some (vr 72), some (vi x1), some (vi x2), some (vi (w32 (x3 + (1 : Int)))), none, none] [] S))) := by rw [LQ_eq, zc_314, zr_314]; rfl
theorem zc_315 : csOf 315 = cs_315 := rfl
theorem zr_315 : rtOf 315 = 0 := rfl
theorem zm_315 : mlOf 315 = 4 := rfl
set_option maxRecDepth 100000 in
set_option maxHeartbeats 4000000 in
/-- SupplyBookModel.numberAt(I)I -/
theorem q_315 (L : Nat) (xs : Nat → Int) (d : Nat) (S : AH) (p1 : Int) : ev (WK L xs) (d + 1) 315 [vr 72, vi p1] S = (LQ (WK L xs) (ev (WK L xs) d) 315 4 [some (vr 72), some (vi p1), some (vi (0 : Int)), some (vi (0 : Int))] [] S) := by rw [ev_eq, zc_315, zr_315, zm_315]; rfl
set_option maxRecDepth 100000 in
set_option maxHeartbeats 4000000 in
theorem q_315_4 (L : Nat) (xs : Nat → Int) (d : Nat) (S : AH) (x1 : Int) (x2 : Int) (x3 : Int) : LQ (WK L xs) (ev (WK L xs) d) 315 4 [some (vr 72), some (vi x1), some (vi x2), some (vi x3)] [] S = (if x3 < (4 : Int) then (if 0 ≤ (w32 ((w32 ((4 : Int) * x1)) + x3)) ∧ (w32 ((w32 ((4 : Int) * x1)) + x3)) < (400 : Int) then (LQ (WK L xs) (ev (WK L xs) d) 315 4 [some (vr 72), some (vi x1), some (vi (ior (ishl x2 (8 : Int)) (iand (S.2 73 (w32 ((w32 ((4 : Int) * x1)) + x3)).toNat) (255 : Int)))), some (vi (w32 (x3 + (1 : Int))))] [] S) else none) else (some (x2, S))) := by rw [LQ_eq, zc_315, zr_315]; rfl
theorem zc_316 : csOf 316 = cs_316 := rfl
theorem zr_316 : rtOf 316 = 0 := rfl
theorem zm_316 : mlOf 316 = 3 := rfl
set_option maxRecDepth 100000 in
set_option maxHeartbeats 4000000 in
/-- SupplyBookModel.look(II)I -/
theorem q_316 (L : Nat) (xs : Nat → Int) (d : Nat) (S : AH) (p1 : Int) (p2 : Int) : ev (WK L xs) (d + 1) 316 [vr 72, vi p1, vi p2] S = (bindR ((ev (WK L xs) d) 259 [vr 72, vi p1] S) (fun r1 S2 => (if r1 = 0 then (some ((-1 : Int), S2)) else (if p2 = (0 : Int) then (if 0 ≤ p1 ∧ p1 < (300 : Int) then (some ((S2.2 108 p1.toNat), S2)) else none) else (if p2 = (1 : Int) then (if 0 ≤ p1 ∧ p1 < (300 : Int) then (some ((S2.2 109 p1.toNat), S2)) else none) else (if p2 = (2 : Int) then (if 0 ≤ p1 ∧ p1 < (300 : Int) then (some ((S2.2 110 p1.toNat), S2)) else none) else (if p2 = (3 : Int) then (if 0 ≤ p1 ∧ p1 < (300 : Int) then (some ((S2.2 111 p1.toNat), S2)) else none) else (if p2 = (4 : Int) then (if 0 ≤ p1 ∧ p1 < (300 : Int) then (some ((S2.2 112 p1.toNat), S2)) else none) else (if p2 = (5 : Int) then (if 0 ≤ p1 ∧ p1 < (300 : Int) then (if (S2.2 113 p1.toNat) = 0 then (some ((0 : Int), S2)) else (some ((1 : Int), S2))) else none) else (if p2 = (6 : Int) then (if 0 ≤ p1 ∧ p1 < (300 : Int) then (some ((S2.2 114 p1.toNat), S2)) else none) else (if p2 = (7 : Int) then (if 0 ≤ p1 ∧ p1 < (300 : Int) then (some ((S2.2 115 p1.toNat), S2)) else none) else (if p2 = (8 : Int) then (bindR ((ev (WK L xs) d) 249 [vr 72, vi p1] S2) (fun r3 S4 => (some (r3, S4)))) else (if p2 = (9 : Int) then (if 0 ≤ p1 ∧ p1 < (300 : Int) then (some ((S2.2 118 p1.toNat), S2)) else none) else (some ((-1 : Int), S2))))))))))))))) := by rw [ev_eq, zc_316, zr_316, zm_316]; rfl
theorem zc_317 : csOf 317 = cs_317 := rfl
theorem zr_317 : rtOf 317 = 0 := rfl
theorem zm_317 : mlOf 317 = 3 := rfl
set_option maxRecDepth 100000 in
set_option maxHeartbeats 4000000 in
/-- SupplyBookModel.about(II)I -/
theorem q_317 (L : Nat) (xs : Nat → Int) (d : Nat) (S : AH) (p1 : Int) (p2 : Int) : ev (WK L xs) (d + 1) 317 [vr 72, vi p1, vi p2] S = (bindR ((ev (WK L xs) d) 241 [vr 72, vi p1] S) (fun r1 S2 => (if r1 = 0 then (some ((-1 : Int), S2)) else (if p2 = (0 : Int) then (if 0 ≤ p1 ∧ p1 < (80 : Int) then (some ((S2.2 97 p1.toNat), S2)) else none) else (if p2 = (1 : Int) then (if 0 ≤ p1 ∧ p1 < (80 : Int) then (some ((S2.2 98 p1.toNat), S2)) else none) else (if p2 = (2 : Int) then (if 0 ≤ p1 ∧ p1 < (80 : Int) then (some ((S2.2 99 p1.toNat), S2)) else none) else (if p2 = (3 : Int) then (if 0 ≤ p1 ∧ p1 < (80 : Int) then (some ((S2.2 100 p1.toNat), S2)) else none) else (if p2 = (4 : Int) then (if 0 ≤ (w32 ((20 : Int) + p1)) ∧ (w32 ((20 : Int) + p1)) < (100 : Int) then (some ((S2.2 78 (w32 ((20 : Int) + p1)).toNat), S2)) else none) else (if p2 = (5 : Int) then (if 0 ≤ p1 ∧ p1 < (80 : Int) then (some ((S2.2 101 p1.toNat), S2)) else none) else (if p2 = (6 : Int) then (if 0 ≤ p1 ∧ p1 < (80 : Int) then (some ((S2.2 102 p1.toNat), S2)) else none) else (if p2 = (7 : Int) then (if 0 ≤ p1 ∧ p1 < (80 : Int) then (some ((S2.2 104 p1.toNat), S2)) else none) else (some ((-1 : Int), S2))))))))))))) := by rw [ev_eq, zc_317, zr_317, zm_317]; rfl
theorem zc_318 : csOf 318 = cs_318 := rfl
theorem zr_318 : rtOf 318 = 0 := rfl
theorem zm_318 : mlOf 318 = 2 := rfl
set_option maxRecDepth 100000 in
set_option maxHeartbeats 4000000 in
/-- SupplyBookModel.count(I)I -/
theorem q_318 (L : Nat) (xs : Nat → Int) (d : Nat) (S : AH) (p1 : Int) : ev (WK L xs) (d + 1) 318 [vr 72, vi p1] S = (if p1 = (0 : Int) then (some ((S.2 72 2), S)) else (if p1 = (1 : Int) then (some ((S.2 72 4), S)) else (if p1 = (2 : Int) then (some ((S.2 72 5), S)) else (if p1 = (3 : Int) then (some ((S.2 72 36), S)) else (if p1 = (4 : Int) then (some ((S.2 72 40), S)) else (if p1 = (5 : Int) then (some ((S.2 72 70), S)) else (if p1 = (6 : Int) then (some ((S.2 72 52), S)) else (if p1 = (7 : Int) then (some ((S.2 72 53), S)) else (if p1 = (8 : Int) then (some ((S.2 72 79), S)) else (if p1 = (9 : Int) then (some ((S.2 72 87), S)) else (if p1 = (10 : Int) then (some ((S.2 72 92), S)) else (if p1 = (11 : Int) then (some ((S.2 72 93), S)) else (if p1 = (12 : Int) then (some ((S.2 72 1), S)) else (if p1 = (13 : Int) then (some ((S.2 72 106), S)) else (some ((-1 : Int), S)))))))))))))))) := by rw [ev_eq, zc_318, zr_318, zm_318]; rfl
theorem zc_319 : csOf 319 = cs_319 := rfl
theorem zr_319 : rtOf 319 = 1 := rfl
theorem zm_319 : mlOf 319 = 5 := rfl
set_option maxRecDepth 100000 in
set_option maxHeartbeats 4000000 in
/-- SupplyBookModel.sum(I)J -/
theorem q_319 (L : Nat) (xs : Nat → Int) (d : Nat) (S : AH) (p1 : Int) : ev (WK L xs) (d + 1) 319 [vr 72, vi p1] S = (if p1 = (0 : Int) then (some ((S.2 72 3), S)) else (if p1 = (1 : Int) then (some ((S.2 72 85), S)) else (if p1 = (2 : Int) then (LQ (WK L xs) (ev (WK L xs) d) 319 53 [some (vr 72), none, some (vl (0 : Int)), none, some (vi (0 : Int))] [] S) else (if p1 = (3 : Int) then (bindR ((ev (WK L xs) d) 295 [vr 72] S) (fun r1 S2 => (some (r1, S2)))) else (if p1 = (4 : Int) then (some ((S.2 72 86), S)) else (if p1 = (5 : Int) then (LQ (WK L xs) (ev (WK L xs) d) 319 109 [some (vr 72), none, some (vl (0 : Int)), none, some (vi (0 : Int))] [] S) else (some ((-1 : Int), S)))))))) := by rw [ev_eq, zc_319, zr_319, zm_319]; rfl
set_option maxRecDepth 100000 in
set_option maxHeartbeats 4000000 in
theorem q_319_53 (L : Nat) (xs : Nat → Int) (d : Nat) (S : AH) (x2 : Int) (x4 : Int) : LQ (WK L xs) (ev (WK L xs) d) 319 53 [some (vr 72), none, some (vl x2), none, some (vi x4)] [] S = (if x4 < (S.2 72 52) then (if 0 ≤ x4 ∧ x4 < (300 : Int) then (if (S.2 115 x4.toNat) = (-1 : Int) then (LQ (WK L xs) (ev (WK L xs) d) 319 53 [some (vr 72), none, some (vl (w64 (x2 + (0 : Int)))), none, some (vi (w32 (x4 + (1 : Int))))] [] S) else (if 0 ≤ x4 ∧ x4 < (300 : Int) then (LQ (WK L xs) (ev (WK L xs) d) 319 53 [some (vr 72), none, some (vl (w64 (x2 + (S.2 111 x4.toNat)))), none, some (vi (w32 (x4 + (1 : Int))))] [] S) else none)) else none) else (some (x2, S))) := by rw [LQ_eq, zc_319, zr_319]; rfl
set_option maxRecDepth 100000 in
set_option maxHeartbeats 4000000 in
theorem q_319_109 (L : Nat) (xs : Nat → Int) (d : Nat) (S : AH) (x2 : Int) (x4 : Int) : LQ (WK L xs) (ev (WK L xs) d) 319 109 [some (vr 72), none, some (vl x2), none, some (vi x4)] [] S = (if x4 < (52 : Int) then (bindR ((ev (WK L xs) d) 243 [vr 72] S) (fun r1 S2 => (if 0 ≤ (w32 ((w32 ((52 : Int) * r1)) + x4)) ∧ (w32 ((w32 ((52 : Int) * r1)) + x4)) < (520 : Int) then (LQ (WK L xs) (ev (WK L xs) d) 319 109 [some (vr 72), none, some (vl (w64 (x2 + (S2.2 134 (w32 ((w32 ((52 : Int) * r1)) + x4)).toNat)))), none, some (vi (w32 (x4 + (1 : Int))))] [] S2) else none))) else (some (x2, S))) := by rw [LQ_eq, zc_319, zr_319]; rfl
