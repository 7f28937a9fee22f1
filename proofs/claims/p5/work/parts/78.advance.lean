/-! advance -/
noncomputable def adF (h : Nat → Nat → Int) (y : Int) (v : Nat) : Int := if h 97 v = 4 ∧ h 100 v = y then h 99 v else 0
section
variable {L : Nat} {xs : Nat → Int} {d : Nat} {S T U S' W : AH}
theorem adF_bd (rv : RV S.2) (y : Int) {n : Nat} (hn : (n : Int) ≤ S.2 72 40) : 0 ≤ sm (adF S.2 y) n ∧ sm (adF S.2 y) n ≤ 80000000000 := by
  have h := rv.1
  have := sm_bd (f := adF S.2 y) (M := 1000000000) (n := n) (fun j hj => by
    have := (rv.2.1 j (by first | decide | omega)).2.2.1
    unfold adF
    split <;> omega)
  omega
theorem x_advs (gv : GV S) (y : Int) : ev (WK L xs) (d + 2) 169 [vr 36, vi y] S = some (sm (adF S.2 y) (S.2 72 40).toNat, S) := by
  have hn := gv.1.1
  have key : ∀ (m v : Nat), v + m = (S.2 72 40).toNat → LQ (WK L xs) (ev (WK L xs) (d + 1)) 169 5 [some (vr 36), some (vi y), some (vl (sm (adF S.2 y) v)), none, some (vi (v : Int)), none] [] S = some (sm (adF S.2 y) (S.2 72 40).toNat, S) := by
    intro m
    induction m with
    | zero =>
      intro v hv
      rw [q_169_5, gv.2.1, if_neg (by first | decide | omega), show v = (S.2 72 40).toNat by omega]
    | succ m ih =>
      intro v hv
      have hvn : (v : Int) < S.2 72 40 := by omega
      obtain ⟨a1, a2, a3, a4, a5, a6, -⟩ := gv.2.2.2.1 v hvn
      have h5 := a1.1
      have e1 : (v : Int) + 1 = ((v + 1 : Nat) : Int) := by omega
      have hi := ih (v + 1) (by first | decide | omega)
      have hb := adF_bd gv.1 y (n := v + 1) (by first | decide | omega)
      rw [sm_su (adF S.2 y) v] at hi hb
      rw [q_169_5, gv.2.1, if_pos (by first | decide | omega), x_au gv hvn, bR, Int.toNat_natCast, if_neg (by first | decide | omega), g14a a1, w32e (by first | decide | omega) (by first | decide | omega), e1]
      simp only [k11 a1, rdvD h5, a3, a5, a6]
      by_cases c1 : S.2 97 v = 4
      · rw [if_pos c1]
        by_cases c2 : S.2 100 v = y
        · have : adF S.2 y v = S.2 99 v := by unfold adF; rw [if_pos ⟨c1, c2⟩]
          rw [this] at hi hb
          rw [if_pos c2, w64e (by first | decide | omega) (by first | decide | omega)]
          exact hi
        · have : adF S.2 y v = 0 := by unfold adF; rw [if_neg (fun z => c2 z.2)]
          rw [this, Int.add_zero] at hi
          rw [if_neg c2]
          exact hi
      · have : adF S.2 y v = 0 := by unfold adF; rw [if_neg (fun z => c1 z.1)]
        rw [this, Int.add_zero] at hi
        rw [if_neg c1]
        exact hi
  rw [q_169]
  exact key (S.2 72 40).toNat 0 (by first | decide | omega)
end
