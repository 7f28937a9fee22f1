/-! each group's frame -/
section
variable {h h' : Nat → Nat → Int}
theorem GT.fr (H : GT h) (e1 : h' 15 0 = h 15 0) (e2 : h' 72 2 = h 72 2) : GT h' := by
  unfold GT
  rw [e1, e2]
  exact H
theorem GC.fr (H : GC h) (e1 : h' 15 1 = h 15 1) (e2 : h' 72 3 = h 72 3) : GC h' := by
  unfold GC
  rw [e1, e2]
  exact H
theorem GX.fr (H : GX h) (e1 : h' 15 2 = h 15 2) (e2 : h' 72 106 = h 72 106) : GX h' := by
  unfold GX
  rw [e1, e2]
  exact H
theorem GB.fr (H : GB h) (e1 : h' 15 4 = h 15 4) (e2 : h' 72 1 = h 72 1) (e3 : h' 16 = h 16) (e4 : h' 73 = h 73) : GB h' := by
  unfold GB
  rw [e1, e2, e3, e4]
  exact H
theorem GP.fr (H : GP h) (e4 : h' 72 4 = h 72 4) (e5 : h' 72 5 = h 72 5) (hc : ∀ a, (17 ≤ a ∧ a ≤ 21) ∨ (74 ≤ a ∧ a ≤ 77) → h' a = h a) : GP h' := by
  unfold GP RP
  rw [e4, e5, hc 17 (by first | decide | omega), hc 18 (by first | decide | omega), hc 19 (by first | decide | omega), hc 20 (by first | decide | omega), hc 21 (by first | decide | omega), hc 74 (by first | decide | omega), hc 75 (by first | decide | omega), hc 76 (by first | decide | omega), hc 77 (by first | decide | omega)]
  exact H
theorem GU.fr (H : GU h) (e1 : h' 72 79 = h 72 79) (e2 : h' 50 4 = h 50 4) (e3 : h' 50 3 = h 50 3) (hc : ∀ a, (51 ≤ a ∧ a ≤ 53) ∨ (130 ≤ a ∧ a ≤ 132) → h' a = h a) : GU h' := by
  unfold GU
  rw [e1, e2, e3, hc 51 (by first | decide | omega), hc 52 (by first | decide | omega), hc 53 (by first | decide | omega), hc 130 (by first | decide | omega), hc 131 (by first | decide | omega), hc 132 (by first | decide | omega)]
  exact H
theorem GW.fr (H : GW h) (e1 : h' 72 85 = h 72 85) (e2 : h' 72 87 = h 72 87) (e3 : h' 54 1 = h 54 1) (e4 : h' 54 7 = h 54 7) (hc : ∀ a, (55 ≤ a ∧ a ≤ 60) ∨ (133 ≤ a ∧ a ≤ 138) → h' a = h a) : GW h' := by
  unfold GW
  rw [e1, e2, e3, e4, hc 55 (by first | decide | omega), hc 56 (by first | decide | omega), hc 57 (by first | decide | omega), hc 58 (by first | decide | omega), hc 59 (by first | decide | omega), hc 60 (by first | decide | omega), hc 133 (by first | decide | omega), hc 134 (by first | decide | omega), hc 135 (by first | decide | omega), hc 136 (by first | decide | omega), hc 137 (by first | decide | omega), hc 138 (by first | decide | omega)]
  exact H
theorem GN.fr (H : GN h) (e1 : h' 72 92 = h 72 92) (e2 : h' 72 93 = h 72 93) (e3 : h' 72 86 = h 72 86) (e4 : h' 63 2 = h 63 2) (e5 : h' 63 10 = h 63 10) (e6 : h' 63 11 = h 63 11) (hc : ∀ a, (64 ≤ a ∧ a ≤ 65) ∨ (68 ≤ a ∧ a ≤ 71) ∨ (139 ≤ a ∧ a ≤ 140) ∨ (142 ≤ a ∧ a ≤ 145) → h' a = h a) : GN h' := by
  unfold GN
  rw [e1, e2, e3, e4, e5, e6, hc 64 (by first | decide | omega), hc 65 (by first | decide | omega), hc 68 (by first | decide | omega), hc 69 (by first | decide | omega), hc 70 (by first | decide | omega), hc 71 (by first | decide | omega), hc 139 (by first | decide | omega), hc 140 (by first | decide | omega), hc 142 (by first | decide | omega), hc 143 (by first | decide | omega), hc 144 (by first | decide | omega), hc 145 (by first | decide | omega)]
  exact H
end
/-- the places that nobody reads between two calls -/
noncomputable def scr (a k : Nat) : Prop := (22 ≤ a ∧ a ≤ 26) ∨ a = 35 ∨ (a = 50 ∧ 5 ≤ k) ∨ a = 61 ∨ a = 62 ∨ a = 66 ∨ a = 67 ∨ (a = 63 ∧ k = 5) ∨ (a = 72 ∧ ((18 ≤ k ∧ k ≤ 35) ∨ k = 75 ∨ k = 76)) ∨ (86 ≤ a ∧ a ≤ 93) ∨ a = 96 ∨ a = 128 ∨ a = 129 ∨ a = 141 ∨ a = 150
theorem scr_cell {S S' : AH} (h : ∀ a k, a < 151 → ¬ scr a k → S'.2 a k = S.2 a k) {a : Nat} (h1 : a < 151) (h2 : ∀ k, ¬ scr a k) : S'.2 a = S.2 a := funext fun k => h a k h1 (h2 k)
theorem Inv.scr {S S' : AH} (H : Inv S) (hF : Fr S S') (h : ∀ a k, a < 151 → ¬ _root_.Jvm.Pilot.@@N@@.scr a k → S'.2 a k = S.2 a k) : Inv S' := by
  have q : ∀ a, a < 151 → (∀ k, ¬ _root_.Jvm.Pilot.@@N@@.scr a k) → S'.2 a = S.2 a := fun a h1 h2 => funext fun k => h a k h1 (h2 k)
  have c : ∀ a, a < 151 → ¬ ((22 ≤ a ∧ a ≤ 26) ∨ a = 35 ∨ a = 50 ∨ a = 61 ∨ a = 62 ∨ a = 63 ∨ a = 66 ∨ a = 67 ∨ a = 72 ∨ (86 ≤ a ∧ a ≤ 93) ∨ a = 96 ∨ a = 128 ∨ a = 129 ∨ a = 141 ∨ a = 150) → S'.2 a = S.2 a := fun a h1 h2 => q a h1 (fun k z => h2 (by unfold _root_.Jvm.Pilot.@@N@@.scr at z; omega))
  have e72 : ∀ k, ¬ ((18 ≤ k ∧ k ≤ 35) ∨ k = 75 ∨ k = 76) → S'.2 72 k = S.2 72 k := fun k hk => h 72 k (by decide) (fun z => hk (by unfold _root_.Jvm.Pilot.@@N@@.scr at z; omega))
  have c15 : S'.2 15 = S.2 15 := c 15 (by decide) (by decide)
  refine H.upd hF (fun a ha => c a (by unfold lvk at ha; omega) (by unfold lvk at ha; omega)) (fun k hk => e72 k (by unfold lvf at hk; omega)) ⟨Int.le_of_eq (e72 4 (by decide)).symm, Int.le_of_eq (e72 5 (by decide)).symm⟩ (GT.fr H.2.1 (by rw [c15]) (e72 2 (by decide))) (GC.fr H.2.2.1 (by rw [c15]) (e72 3 (by decide))) (GX.fr H.2.2.2.1 (by rw [c15]) (e72 106 (by decide))) (GB.fr H.2.2.2.2.1 (by rw [c15]) (e72 1 (by decide)) (c 16 (by decide) (by decide)) (c 73 (by decide) (by decide)))
    (GP.fr H.2.2.2.2.2.1 (e72 4 (by decide)) (e72 5 (by decide)) (fun a ha => c a (by first | decide | omega) (by first | decide | omega))) (GU.fr H.2.2.2.2.2.2.2.2.2.1 (e72 79 (by decide)) (h 50 4 (by decide) (by unfold _root_.Jvm.Pilot.@@N@@.scr; omega)) (h 50 3 (by decide) (by unfold _root_.Jvm.Pilot.@@N@@.scr; omega)) (fun a ha => c a (by first | decide | omega) (by first | decide | omega)))
    (GW.fr H.2.2.2.2.2.2.2.2.2.2.1 (e72 85 (by decide)) (e72 87 (by decide)) (by rw [c 54 (by decide) (by decide)]) (by rw [c 54 (by decide) (by decide)]) (fun a ha => c a (by first | decide | omega) (by first | decide | omega)))
    (GN.fr H.2.2.2.2.2.2.2.2.2.2.2 (e72 92 (by decide)) (e72 93 (by decide)) (e72 86 (by decide)) (h 63 2 (by decide) (by unfold _root_.Jvm.Pilot.@@N@@.scr; omega)) (h 63 10 (by decide) (by unfold _root_.Jvm.Pilot.@@N@@.scr; omega)) (h 63 11 (by decide) (by unfold _root_.Jvm.Pilot.@@N@@.scr; omega)) (fun a ha => c a (by first | decide | omega) (by first | decide | omega)))
