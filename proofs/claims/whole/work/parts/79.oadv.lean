/-! advance: the call -/
section
variable {L : Nat} {xs : Nat → Int} {d : Nat} {S T U S' W : AH}
theorem m_advL (rv : RV S.2) {s : Int} (hs : 0 ≤ s ∧ s ≤ 1000000000) (hd : Int) : ∀ (m v : Nat), v + m = (S.2 72 40).toNat → LQ (WK L xs) (ev (WK L xs) (d + 1)) 242 32 [some (vr 72), some (vi hd), some (vi s), some (vl (s + sm (adF S.2 (yr (S.2 72 2))) v)), none, some (vi (v : Int))] [] S = LQ (WK L xs) (ev (WK L xs) (d + 1)) 242 32 [some (vr 72), some (vi hd), some (vi s), some (vl (s + sm (adF S.2 (yr (S.2 72 2))) (S.2 72 40).toNat)), none, some (vi ((S.2 72 40).toNat : Int))] [] S := by
  have hn := rv.1
  intro m
  induction m with
  | zero =>
    intro v hv
    rw [show v = (S.2 72 40).toNat by omega]
  | succ m ih =>
    intro v hv
    have hvn : (v : Int) < S.2 72 40 := by omega
    have hq : (0 : Int) ≤ (v : Int) ∧ (v : Int) < 80 := by omega
    have e1 : (v : Int) + 1 = ((v + 1 : Nat) : Int) := by omega
    have hi := ih (v + 1) (by omega)
    have hb := adF_bd rv (yr (S.2 72 2)) (n := v + 1) (by omega)
    have hb0 := adF_bd rv (yr (S.2 72 2)) (n := v) (by omega)
    rw [sm_su (adF S.2 (yr (S.2 72 2))) v] at hi hb
    rw [← hi, q_242_32, if_pos hvn, w32e (x := (v : Int) + 1) (by omega) (by omega), e1]
    simp only [if_pos hq, Int.toNat_natCast]
    rw [m_year, bR]
    by_cases c1 : S.2 97 v = 4
    · rw [if_pos c1]
      by_cases c2 : S.2 100 v = yr (S.2 72 2)
      · have : adF S.2 (yr (S.2 72 2)) v = S.2 99 v := by unfold adF; rw [if_pos ⟨c1, c2⟩]
        rw [this] at hb ⊢
        rw [if_pos c2, w64e (by omega) (by omega), Int.add_assoc]
      · have : adF S.2 (yr (S.2 72 2)) v = 0 := by unfold adF; rw [if_neg (fun z => c2 z.2)]
        rw [this, if_neg c2, w64e (by omega) (by omega), Int.add_zero, Int.add_zero]
    · have : adF S.2 (yr (S.2 72 2)) v = 0 := by unfold adF; rw [if_neg (fun z => c1 z.1)]
      rw [this, if_neg c1, w64e (by omega) (by omega), Int.add_zero, Int.add_zero]
end
