section
-- 13.base
/-! MATHEMATICS: words for answers -/
theorem bR {r : Int} {S : AH} {k : Int → AH → Rs} : bindR (some (r, S)) k = k r S := rfl
theorem gdT {r : Rs} : gd true r = r := rfl
theorem wr_1 {S : AH} {a k : Nat} {v : Int} : (wr S a k v).1 = S.1 := rfl
theorem wr_2 {S : AH} {a k b j : Nat} {v : Int} : (wr S a k v).2 b j = if b = a ∧ j = k then v else S.2 b j := rfl
theorem wr_c {S : AH} {a k b : Nat} {v : Int} (h : b ≠ a) : (wr S a k v).2 b = S.2 b := by
  funext j
  rw [wr_2, if_neg (fun q => h q.1)]
theorem wr_f {S : AH} {a k j : Nat} {v : Int} : (wr S a k v).2 a j = if j = k then v else S.2 a j := by
  rw [wr_2]
  by_cases h : j = k
  · rw [if_pos ⟨rfl, h⟩, if_pos h]
  · rw [if_neg (fun q => h q.2), if_neg h]
theorem wr_g {S : AH} {a k : Nat} {v : Int} : (wr S a k v).2 a = fun j => if j = k then v else S.2 a j := funext fun _ => wr_f
theorem lc_lt {x y : Int} : lcmp x y < 0 ↔ x < y := by
  unfold lcmp
  repeat' split
  all_goals omega
theorem lc_gt {x y : Int} : 0 < lcmp x y ↔ y < x := by
  unfold lcmp
  repeat' split
  all_goals omega
theorem lc_eq {x y : Int} : lcmp x y = 0 ↔ x = y := by
  unfold lcmp
  repeat' split
  all_goals omega
/-- 1 for what holds -/
noncomputable def bi (P : Prop) [Decidable P] : Int := if P then 1 else 0
theorem bi_0 {P : Prop} [Decidable P] : bi P = 0 ↔ ¬ P := by
  unfold bi
  by_cases h : P <;> simp [h]
theorem bi_1 {P : Prop} [Decidable P] : bi P = 1 ↔ P := by
  unfold bi
  by_cases h : P <;> simp [h]
theorem bi_01 {P : Prop} [Decidable P] : (bi P = 0 ∨ bi P = 1) = True := by
  unfold bi
  by_cases h : P <;> simp [h]
theorem bi_iff {P R : Prop} [Decidable P] [Decidable R] (h : P ↔ R) : bi P = bi R := by
  unfold bi
  by_cases q : P
  · rw [if_pos q, if_pos (h.mp q)]
  · rw [if_neg q, if_neg (fun z => q (h.mpr z))]
theorem bi_T {P : Prop} [Decidable P] (h : P) : bi P = 1 := bi_1.mpr h
theorem bi_F {P : Prop} [Decidable P] (h : ¬ P) : bi P = 0 := bi_0.mpr h
theorem w32e {x : Int} (h1 : -2147483648 ≤ x) (h2 : x ≤ 2147483647) : w32 x = x := w32_id ⟨h1, h2⟩
theorem w64e {x : Int} (h1 : -9223372036854775808 ≤ x) (h2 : x ≤ 9223372036854775807) : w64 x = x := w64_id ⟨h1, h2⟩
theorem wi {x : Int} (h1 : 0 ≤ x) (h2 : x < 2147483647) : w32 (w32 (x + 1) - 1) = x := by
  rw [w32e (x := x + 1) (by first | decide | omega) (by first | decide | omega), w32e (by first | decide | omega) (by first | decide | omega)]
  omega
/-- w64 forgets what is inside -/
theorem w64_al (a b : Int) : w64 (w64 a + b) = w64 (a + b) := by unfold w64; exact Int.bmod_add_bmod
theorem w64_ar (a b : Int) : w64 (a + w64 b) = w64 (a + b) := by unfold w64; exact Int.add_bmod_bmod
theorem w64_sl (a b : Int) : w64 (w64 a - b) = w64 (a - b) := by unfold w64; exact Int.bmod_sub_bmod
theorem w64_sr (a b : Int) : w64 (a - w64 b) = w64 (a - b) := by unfold w64; exact Int.sub_bmod_bmod
theorem w64_i (a : Int) : w64 (w64 a) = w64 a := by unfold w64; exact Int.bmod_bmod
/-- sums -/
noncomputable def sm (f : Nat → Int) : Nat → Int
  | 0 => 0
  | n + 1 => sm f n + f n
theorem sm_congr {f g : Nat → Int} : ∀ {n : Nat}, (∀ k, k < n → f k = g k) → sm f n = sm g n := by
  intro n
  induction n with
  | zero => intro _; rfl
  | succ n ih => intro h; unfold sm; rw [ih (fun k hk => h k (by first | decide | omega)), h n (by first | decide | omega)]
theorem sm_bd {f : Nat → Int} {M : Int} : ∀ {n : Nat}, (∀ k, k < n → 0 ≤ f k ∧ f k ≤ M) → 0 ≤ sm f n ∧ sm f n ≤ n * M := by
  intro n
  induction n with
  | zero => intro _; simp [sm]
  | succ n ih =>
    intro h
    have h1 := ih (fun k hk => h k (by first | decide | omega))
    have h2 := h n (by first | decide | omega)
    have h3 : ((n + 1 : Nat) : Int) * M = (n : Int) * M + M := by rw [Int.natCast_succ, Int.add_mul, Int.one_mul]
    unfold sm
    rw [h3]
    omega
theorem sm_add {f g : Nat → Int} (n : Nat) : sm (fun k => f k + g k) n = sm f n + sm g n := by
  induction n with
  | zero => rfl
  | succ n ih => simp only [sm, ih]; omega
theorem sm_zero (n : Nat) : sm (fun _ => 0) n = 0 := by
  induction n with
  | zero => rfl
  | succ n ih => simp only [sm, ih]; omega
/-- one place anew -/
theorem sm_one {f g : Nat → Int} {c : Nat} : ∀ {n : Nat}, c < n → (∀ k, k < n → k ≠ c → g k = f k) → sm g n = sm f n - f c + g c := by
  intro n
  induction n with
  | zero => intro h; omega
  | succ n ih =>
    intro h hk
    unfold sm
    by_cases e : c = n
    · subst e
      rw [sm_congr (fun k q => hk k (by first | decide | omega) (by first | decide | omega))]
      omega
    · rw [ih (by first | decide | omega) (fun k q => hk k (by first | decide | omega)), hk n (by first | decide | omega) (fun q => e q.symm)]
      omega
section
variable {L : Nat} {xs : Nat → Int} {d : Nat} {S : AH}
theorem rdvD {a k : Nat} (h : 151 ≤ a) : rdv (WK L xs) S a k = S.2 a k := by
  have e : (WK L xs).2.2 a k = none := by
    rw [WK_fin (by first | decide | omega), show fnl.getD a [] = [] by rw [List.getD_eq_getElem?_getD, List.getElem?_eq_none (by rw [fnl_len2]; exact h)]; rfl]
    rfl
  exact rdv_none e
theorem shpD {a : Nat} (h : 151 ≤ a) : shp (WK L xs) S a = S.1.2.2 a := shp_dyn h
theorem m_lies (a b c : Int) : ev (WK L xs) (d + 1) 195 [vl a, vl b, vl c] S = some (bi (b ≤ a ∧ a ≤ c), S) := by
  rw [q_195]
  simp only [lc_lt, lc_gt]
  by_cases h1 : a < b
  · rw [if_pos h1, bi_F (by first | decide | omega)]
  · rw [if_neg h1]
    by_cases h2 : c < a
    · rw [if_pos h2, bi_F (by first | decide | omega)]
    · rw [if_neg h2, bi_T (by first | decide | omega)]
theorem m_isSum (v : Int) : ev (WK L xs) (d + 2) 238 [vi v] S = some (bi (0 ≤ v ∧ v ≤ 1000000000), S) := by
  rw [q_238]
  simp only [m_lies, bR, bi_01, if_true]
theorem m_year : ev (WK L xs) (d + 1) 243 [vr 72] S = some (idiv (S.2 72 2) 360, S) := by rw [q_243]
theorem m_week : ev (WK L xs) (d + 1) 279 [vr 72] S = some (idiv (Int.tmod (S.2 72 2) 360) 7, S) := by rw [q_279]
end
end
section
-- 14.spec
/-! what a text says: a reader by descent; an answer is a fault's number, or the place behind and the code in the order of reckoning -/
abbrev CD : Type := List (Int × Int)
abbrev PR : Type := Int ⊕ (Nat × CD)
abbrev TB : Type := Nat → Int
/-- the byte at a place; 0 behind the end -/
noncomputable def cu (t : TB) (n p : Nat) : Int := if p < n then t p else 0
noncomputable def dgt (c : Int) : Bool := decide (48 ≤ c ∧ c ≤ 57)
noncomputable def isTm (c : Int) : Bool := decide (c = 42 ∨ c = 47 ∨ c = 37)
noncomputable def isPm (c : Int) : Bool := decide (c = 43 ∨ c = 45)
noncomputable def isSg (c : Int) : Bool := decide (c = 60 ∨ c = 62 ∨ c = 61)
noncomputable def isVl (c : Int) : Bool := decide (c = 97 ∨ c = 121 ∨ c = 104 ∨ c = 107 ∨ c = 114 ∨ c = 113 ∨ c = 108)
noncomputable def isWd (c : Int) : Bool := decide (c = 111 ∨ c = 110 ∨ c = 115 ∨ c = 116)
noncomputable def isLw (c : Int) : Bool := decide (c = 109 ∨ c = 99 ∨ c = 98 ∨ c = 101 ∨ c = 100 ∨ c = 120)
noncomputable def flt (f : Int) (p : Nat) : Int := -1000 * f - p
/-- digits, k at most -/
noncomputable def nds (t : TB) (n : Nat) : Nat → Nat → Int → Nat × Int
  | 0, p, v => (p, v)
  | k + 1, p, v => if dgt (cu t n p) then nds t n k (p + 1) (10 * v + cu t n p - 48) else (p, v)
noncomputable def rdN (t : TB) (n : Nat) (most : Int) (p : Nat) : Int ⊕ (Nat × Int) :=
  if dgt (cu t n p) = false then .inl (flt 1 p)
  else if dgt (cu t n (nds t n 6 p 0).1) then .inl (flt 2 (nds t n 6 p 0).1)
  else if most < (nds t n 6 p 0).2 then .inl (flt 3 p)
  else .inr (nds t n 6 p 0)
noncomputable def facG (t : TB) (n : Nat) (rec : Nat → Nat → PR) (o p : Nat) : PR :=
  if cu t n p = 91 then
    (if 8 ≤ o then .inl (flt 5 p) else match rec (o + 1) (p + 1) with
      | .inl e => .inl e
      | .inr (q, g) => if cu t n q = 93 then .inr (q + 1, g) else .inl (flt 1 q))
  else if dgt (cu t n p) then (match rdN t n 999999 p with
    | .inl e => .inl e
    | .inr (q, v) => .inr (q, [(0, v)]))
  else if isVl (cu t n p) then .inr (p + 1, [(1, cu t n p)])
  else .inl (flt 1 p)
/-- a row of parts joined by signs of one rank, each sign's code behind its two parts -/
noncomputable def rowL (t : TB) (n : Nat) (is : Int → Bool) (part : Nat → PR) : Nat → Nat → CD → PR
  | 0, p, g => .inr (p, g)
  | k + 1, p, g => if is (cu t n p) then (match part (p + 1) with
      | .inl e => .inl e
      | .inr (q, g2) => rowL t n is part k q (g ++ g2 ++ [(cu t n p, 0)]))
    else .inr (p, g)
noncomputable def rowG (t : TB) (n : Nat) (is : Int → Bool) (part : Nat → PR) (p : Nat) : PR := match part p with
  | .inl e => .inl e
  | .inr (q, g) => rowL t n is part 200 q g
noncomputable def terG (t : TB) (n : Nat) (rec : Nat → Nat → PR) (o p : Nat) : PR := rowG t n isTm (facG t n rec o) p
noncomputable def rdE (t : TB) (n : Nat) : Nat → Nat → Nat → PR
  | 0 => fun _ p => .inl (flt 1 p)
  | f + 1 => fun o p => rowG t n isPm (terG t n (rdE t n f) o) p
noncomputable def isAnd (c : Int) : Bool := decide (c = 38)
noncomputable def isOr (c : Int) : Bool := decide (c = 124)
noncomputable def cmpG (t : TB) (n o p : Nat) : PR := match rdE t n 9 o p with
  | .inl e => .inl e
  | .inr (q, g) => if isSg (cu t n q) then (match rdE t n 9 o (q + 1) with
      | .inl e => .inl e
      | .inr (r, g2) => .inr (r, g ++ g2 ++ [(cu t n q, 0)]))
    else .inl (flt 1 q)
noncomputable def pieG (t : TB) (n : Nat) (recP recC : Nat → Nat → PR) (o p : Nat) : PR :=
  if cu t n p = 33 then
    (if 8 ≤ o then .inl (flt 5 p) else match recP (o + 1) (p + 1) with
      | .inl e => .inl e
      | .inr (q, g) => .inr (q, g ++ [(3, 0)]))
  else if cu t n p = 40 then
    (if 8 ≤ o then .inl (flt 5 p) else match recC (o + 1) (p + 1) with
      | .inl e => .inl e
      | .inr (q, g) => if cu t n q = 41 then .inr (q + 1, g) else .inl (flt 1 q))
  else if cu t n p = 117 then (match rdN t n 39 (p + 1) with
    | .inl e => .inl e
    | .inr (q, v) => .inr (q, [(2, v)]))
  else cmpG t n o p
noncomputable def cndG (t : TB) (n : Nat) (pie : Nat → PR) (p : Nat) : PR := rowG t n isOr (rowG t n isAnd pie) p
noncomputable def rdP (t : TB) (n : Nat) : Nat → Nat → Nat → PR
  | 0 => fun _ p => .inl (flt 1 p)
  | f + 1 => fun o p => pieG t n (rdP t n f) (fun o p => cndG t n (rdP t n f o) p) o p
/-- a condition behind its first bracket -/
noncomputable def rdC (t : TB) (n p : Nat) : PR := cndG t n (rdP t n 9 1) p
/-- a clause: letter, number, the other number, code -/
abbrev CL : Type := Int × Int × Int × CD
noncomputable def rdK (t : TB) (n : Nat) (law : Bool) (many : Nat) (p : Nat) : Int ⊕ (Nat × CL) :=
  if isWd (cu t n p) = false ∧ isLw (cu t n p) = false then .inl (flt 1 p)
  else if law = false ∧ isLw (cu t n p) = true then .inl (flt 6 p)
  else if many = 16 then .inl (flt 4 p)
  else if isWd (cu t n p) then
    (if cu t n (p + 1) = 40 then (match rdC t n (p + 2) with
      | .inl e => .inl e
      | .inr (q, g) => if cu t n q = 41 then
          (if cu t n p = 115 then (if 49 ≤ cu t n (q + 1) ∧ cu t n (q + 1) ≤ 57 then .inr (q + 2, (115, cu t n (q + 1) - 48, 0, g)) else .inl (flt 1 (q + 1)))
           else .inr (q + 1, (cu t n p, 0, 0, g)))
        else .inl (flt 1 q))
     else .inl (flt 1 (p + 1)))
  else if cu t n p = 120 then (match rdN t n 19 (p + 1) with
    | .inl e => .inl e
    | .inr (q, v) => if cu t n q = 46 then (match rdN t n 15 (q + 1) with
        | .inl e => .inl e
        | .inr (r, u) => .inr (r, (120, v, u, [])))
      else .inl (flt 1 q))
  else (match rdN t n (if cu t n p = 109 ∨ cu t n p = 99 then 100 else 999999) (p + 1) with
    | .inl e => .inl e
    | .inr (q, v) => .inr (q, (cu t n p, v, 0, [])))
/-- a text: its clauses with their places -/
abbrev TXT : Type := List (Nat × CL)
noncomputable def rdTL (t : TB) (n : Nat) (law : Bool) : Nat → Nat → TXT → Int ⊕ TXT
  | 0, p, _ => .inl (flt 4 p)
  | k + 1, p, acc => match rdK t n law acc.length p with
    | .inl e => .inl e
    | .inr (q, c) => if q < n then (if cu t n q = 59 then rdTL t n law k (q + 1) (acc ++ [(p, c)]) else .inl (flt 1 q)) else .inr (acc ++ [(p, c)])
noncomputable def rdT (t : TB) (n : Nat) (law : Bool) : Int ⊕ TXT := rdTL t n law 17 0 []
/-- the codes of the clauses ahead of the j-th -/
noncomputable def cds (x : TXT) (j : Nat) : CD := ((x.take j).map fun q => q.2.2.2.2).flatten
/-- what the class keeps of a clause's numbers -/
noncomputable def vlu (c : CL) : Int := if c.1 = 120 then c.2.1 * 16 + c.2.2.1 else c.2.1
/-! the state -/
/-- is head a under b? -/
noncomputable def und (p : Nat → Int) : Nat → Nat → Nat → Bool
  | 0, a, b => a == b
  | n + 1, a, b => a == b || (decide (0 ≤ p a) && und p n (p a).toNat b)
noncomputable def yr (x : Int) : Int := idiv x 360
/-- the claim c was paid in the year y (of the reference's state) -/
noncomputable def pin (h : Nat → Nat → Int) (c : Nat) (y : Int) : Bool := decide (h 115 c ≠ -1 ∧ yr (h 115 c) = y)
/-- by what it counts -/
noncomputable def cby (h : Nat → Nat → Int) (c : Nat) : Int := if h 116 c ≠ -1 ∧ h 97 (h 116 c).toNat = 4 ∧ h 102 (h 116 c).toNat ≠ -1 then h 102 (h 116 c).toNat else h 116 c
noncomputable def nClaims (h : Nat → Nat → Int) : Nat := (h 72 52).toNat
/-- paid by v in y -/
noncomputable def pby (h : Nat → Nat → Int) (v y : Int) : Int := sm (fun c => if pin h c y = true ∧ cby h c = v then h 111 c else 0) (nClaims h)
/-- paid of the contract k in y -/
noncomputable def pct (h : Nat → Nat → Int) (k y : Int) : Int := sm (fun c => if pin h c y = true ∧ h 112 c = k then h 111 c else 0) (nClaims h)
noncomputable def GT (h : Nat → Nat → Int) : Prop := h 15 0 = h 72 2 ∧ 0 ≤ h 72 2 ∧ h 72 2 < 3600
noncomputable def GC (h : Nat → Nat → Int) : Prop := h 15 1 = h 72 3 ∧ w64 (h 72 3) = h 72 3
noncomputable def GX (h : Nat → Nat → Int) : Prop := h 15 2 = h 72 106 ∧ 0 ≤ h 72 106 ∧ h 72 106 ≤ 9
noncomputable def GB (h : Nat → Nat → Int) : Prop := h 15 4 = h 72 1 ∧ 0 ≤ h 72 1 ∧ h 72 1 ≤ 400 ∧ ∀ k, k < 400 → h 16 k = h 73 k
/-- heads of the reference -/
noncomputable def RP (h : Nat → Nat → Int) : Prop := (0 ≤ h 72 4 ∧ h 72 4 ≤ 40) ∧ (0 ≤ h 72 5 ∧ h 72 5 ≤ 16) ∧ (∀ i : Nat, (i : Int) < h 72 4 → -1 ≤ h 74 i ∧ h 74 i < i) ∧
  ∀ i : Nat, (i : Int) < h 72 5 → 0 ≤ h 75 i ∧ h 75 i < h 72 4 ∧ 1 ≤ h 76 i ∧ h 76 i ≤ 9
noncomputable def GP (h : Nat → Nat → Int) : Prop := RP h ∧ h 17 1 = h 72 4 ∧ h 17 5 = h 72 5 ∧
  (∀ i : Nat, (i : Int) < h 72 4 → 0 ≤ h 18 i ∧ h 18 i < 1099511627776 ∧ ∀ b : Nat, (h 18 i).toNat.testBit b = und (h 74) i i b) ∧
  (∀ i : Nat, (i : Int) < h 72 5 → h 19 i = h 75 i ∧ h 20 i = h 76 i) ∧
  ∀ i : Nat, i < 16 → h 21 i = h 77 i
/-- a cell of a shape, apart from the fixed ones -/
noncomputable def isO (S : AH) (a : Nat) (t n : Nat) : Prop := 151 ≤ a ∧ a < S.1.1 ∧ S.1.2.2 a = (t, n)
/-- the bytes of a cell -/
noncomputable def byt (h : Nat → Nat → Int) (a : Nat) : TB := fun k => iand (h a k) 255
/-- the reference's text t is x -/
noncomputable def RX (h : Nat → Nat → Int) (t : Nat) (x : TXT) : Prop := h 78 t = x.length ∧ x.length ≤ 16 ∧ (∀ (j : Nat) (q : Nat × CL), x[j]? = some q → h 79 (16 * t + j) = q.2.1 ∧ h 80 (16 * t + j) = q.2.2.1 ∧ h 81 (16 * t + j) = q.2.2.2.1 ∧ h 82 (16 * t + j) = (cds x j).length ∧ h 83 (16 * t + j) = (cds x (j + 1)).length) ∧
  (cds x x.length).length ≤ 200 ∧ ∀ (i : Nat) (q : Int × Int), (cds x x.length)[i]? = some q → h 84 (200 * t + i) = q.1 ∧ h 85 (200 * t + i) = q.2
/-- the Text at a is x, read as a law's or as a vote's -/
noncomputable def CX2 (S : AH) (a : Nat) (law : Bool) (x : TXT) : Prop := (a = 27 ∧ x = []) ∨ (isO S a 19 3 ∧ ∃ b s v n : Nat, S.2 a 0 = b ∧ S.2 a 1 = s ∧ S.2 a 2 = v ∧ isO S b 0 n ∧ isO S s 2 x.length ∧ isO S v 2 x.length ∧ n ≤ 200 ∧ rdT (byt S.2 b) n law = .inr x ∧ ∀ (j : Nat) (q : Nat × CL), x[j]? = some q → S.2 s j = q.1 ∧ S.2 v j = vlu q.2)
noncomputable def TX (S : AH) (a t : Nat) : Prop := ∃ x : TXT, RX S.2 t x ∧ CX2 S a (decide (t < 20)) x
noncomputable def GL (S : AH) : Prop := S.2 31 4 = S.2 72 36 ∧ 0 ≤ S.2 72 36 ∧ S.2 72 36 ≤ 20 ∧ ∀ i : Nat, (i : Int) < S.2 72 36 → S.2 33 i = S.2 94 i ∧ S.2 34 i = S.2 95 i ∧ TX S (S.2 32 i).toNat i
noncomputable def auA (S : AH) (v : Nat) : Nat := (S.2 37 v).toNat
noncomputable def spA (S : AH) (v : Nat) : Nat := (S.2 (auA S v) 13).toNat
/-- the reference's authorities -/
noncomputable def RV (h : Nat → Nat → Int) : Prop := (0 ≤ h 72 40 ∧ h 72 40 ≤ 80) ∧
  (∀ v : Nat, (v : Int) < h 72 40 → (0 ≤ h 97 v ∧ h 97 v ≤ 4) ∧ (0 ≤ h 98 v ∧ h 98 v < h 72 4) ∧ (0 ≤ h 99 v ∧ h 99 v ≤ 1000000000) ∧ (0 ≤ h 100 v ∧ h 100 v ≤ 9) ∧ (0 ≤ h 104 v ∧ h 104 v < 3600) ∧
    (h 97 v = 1 → 0 ≤ h 102 v ∧ h 102 v < v ∧ h 97 (h 102 v).toNat ≠ 1 ∧ h 100 v = h 100 (h 102 v).toNat) ∧ (h 97 v = 4 → h 102 v = -1 ∨ (0 ≤ h 102 v ∧ h 102 v < h 72 40 ∧ h 97 (h 102 v).toNat = 0)) ∧ (h 97 v ≠ 1 → h 97 v ≠ 4 → h 102 v = -1)) ∧
  (∀ v : Nat, h 72 40 ≤ v → v < 80 → h 105 v = 0 ∧ h 106 v = 0 ∧ h 107 v = 0) ∧
  (0 ≤ h 72 70 ∧ h 72 70 ≤ 20) ∧ ∀ k : Nat, (k : Int) < h 72 70 → (0 ≤ h 124 k ∧ h 124 k < h 72 40 ∧ h 97 (h 124 k).toNat ≠ 1 ∧ h 97 (h 124 k).toNat ≠ 4) ∧ (0 ≤ h 125 k ∧ h 125 k ≤ 1000000000) ∧ 0 ≤ h 126 k ∧ h 126 k ≤ h 127 k ∧ h 127 k ≤ 9
/-- one authority of the class -/
noncomputable def AV (S : AH) (v : Nat) : Prop := isO S (auA S v) 11 14 ∧ isO S (spA S v) 3 10 ∧ S.2 (auA S v) 0 = S.2 97 v ∧ S.2 (auA S v) 1 = S.2 98 v ∧ S.2 (auA S v) 2 = S.2 99 v ∧ S.2 (auA S v) 3 = S.2 100 v ∧ S.2 (auA S v) 4 = S.2 104 v ∧
  S.2 (auA S v) 6 = (if S.2 97 v = 1 then S.2 102 v else -1) ∧ S.2 (auA S v) 8 = (if S.2 97 v = 1 then -1 else S.2 102 v) ∧ S.2 (auA S v) 7 = S.2 101 v ∧ S.2 (auA S v) 9 = S.2 103 v ∧ S.2 (auA S v) 10 = S.2 105 v ∧
  S.2 (auA S v) 11 = S.2 106 v ∧ S.2 (auA S v) 12 = S.2 107 v ∧ TX S (S.2 (auA S v) 5).toNat (20 + v) ∧ (S.2 97 v ≠ 1 → ∀ y : Nat, y < 10 → S.2 (spA S v) y = pby S.2 v y ∧ (S.2 97 v = 4 → (y : Int) ≠ S.2 100 v → pby S.2 v y = 0))
noncomputable def GV (S : AH) : Prop := RV S.2 ∧ S.2 36 1 = S.2 72 40 ∧ S.2 36 7 = S.2 72 70 ∧ (∀ v : Nat, (v : Int) < S.2 72 40 → AV S v) ∧
  (∀ v w : Nat, (v : Int) < S.2 72 40 → (w : Int) < S.2 72 40 → (auA S v = auA S w ∨ spA S v = spA S w) → v = w) ∧
  (∀ k : Nat, (k : Int) < S.2 72 70 → S.2 38 k = S.2 124 k ∧ S.2 39 k = S.2 125 k ∧ S.2 40 k = S.2 126 k ∧ S.2 41 k = S.2 127 k) ∧
  ∀ k y : Nat, k < 20 → y < 10 → S.2 42 (k * 10 + y) = pct S.2 k y
/-- the reference's claims -/
noncomputable def RK (h : Nat → Nat → Int) : Prop := (0 ≤ h 72 52 ∧ h 72 52 ≤ 300) ∧ (0 ≤ h 72 53 ∧ h 72 53 ≤ h 72 52) ∧ (0 ≤ h 72 102 ∧ h 72 102 ≤ 100) ∧
  (∀ c : Nat, (c : Int) < h 72 52 → (0 ≤ h 108 c ∧ h 108 c < h 72 5) ∧ (0 ≤ h 109 c ∧ h 109 c < h 72 4) ∧ (0 ≤ h 110 c ∧ h 110 c ≤ 9) ∧ (1 ≤ h 111 c ∧ h 111 c ≤ 1000000000) ∧ (-1 ≤ h 112 c ∧ h 112 c < h 72 70) ∧ (0 ≤ h 114 c ∧ h 114 c < 65536) ∧
    (h 115 c = -1 ∧ h 116 c = -1 ∨ (0 ≤ h 115 c ∧ h 115 c < 3600) ∧ (0 ≤ h 116 c ∧ h 116 c < h 72 40 ∧ h 97 (h 116 c).toNat ≠ 1) ∧ 0 ≤ h 117 c ∧ h 117 c < h 72 53) ∧ (h 113 c = 0 ∨ h 113 c = 1) ∧ (h 119 c = 0 ∨ h 119 c = 1) ∧ (h 120 c = 0 ∨ h 120 c = 1) ∧ (h 121 c = 0 ∨ h 121 c = 1) ∧ (0 ≤ h 122 c ∧ h 122 c ≤ h 111 c) ∧ 0 ≤ h 123 c ∧ h 123 c ≤ h 111 c) ∧
  (∀ c : Nat, h 72 52 ≤ c → c < 300 → h 114 c = 0 ∧ h 118 c = 0 ∧ h 119 c = 0 ∧ h 120 c = 0 ∧ h 121 c = 0 ∧ h 122 c = 0 ∧ h 123 c = 0) ∧
  ∀ f : Nat, (f : Int) < h 72 102 → (0 ≤ h 147 f ∧ h 147 f < h 72 52 ∧ h 115 (h 147 f).toNat ≠ -1) ∧ 1 ≤ h 148 f ∧ h 148 f ≤ 1000000000
noncomputable def clA (S : AH) (c : Nat) : Nat := (S.2 44 c).toNat
/-- one claim of the class -/
noncomputable def AK (S : AH) (c : Nat) : Prop := isO S (clA S c) 12 15 ∧ S.2 (clA S c) 0 = S.2 108 c ∧ S.2 (clA S c) 1 = S.2 109 c ∧ S.2 (clA S c) 2 = S.2 110 c ∧ S.2 (clA S c) 3 = S.2 111 c ∧ S.2 (clA S c) 4 = S.2 112 c ∧ S.2 (clA S c) 5 = S.2 113 c ∧ S.2 (clA S c) 6 = S.2 114 c ∧
  S.2 (clA S c) 7 = S.2 115 c ∧ S.2 (clA S c) 8 = S.2 116 c ∧ S.2 (clA S c) 9 = cby S.2 c ∧ S.2 (clA S c) 10 = S.2 118 c ∧ S.2 (clA S c) 11 = S.2 119 c ∧ S.2 (clA S c) 12 = S.2 120 c ∧ S.2 (clA S c) 13 = (if S.2 121 c = 1 then S.2 122 c else -1) ∧ S.2 (clA S c) 14 = S.2 123 c
noncomputable def GK (S : AH) : Prop := RK S.2 ∧ S.2 43 1 = S.2 72 52 ∧ S.2 43 3 = S.2 72 53 ∧ S.2 43 9 = S.2 72 102 ∧ (∀ c : Nat, (c : Int) < S.2 72 52 → AK S c) ∧
  (∀ c e : Nat, (c : Int) < S.2 72 52 → (e : Int) < S.2 72 52 → clA S c = clA S e → c = e) ∧
  (∀ i : Nat, (i : Int) < S.2 72 53 → 0 ≤ S.2 45 i ∧ S.2 45 i < S.2 72 52 ∧ S.2 115 (S.2 45 i).toNat ≠ -1 ∧ S.2 117 (S.2 45 i).toNat = i) ∧
  (∀ c : Nat, (c : Int) < S.2 72 52 → S.2 115 c ≠ -1 → S.2 45 (S.2 117 c).toNat = c) ∧
  S.2 43 4 = sm (fun c => if S.2 115 c ≠ -1 then S.2 111 c else 0) (nClaims S.2) ∧ (∀ y : Nat, y < 10 → S.2 46 y = S.2 146 y ∧ 0 ≤ S.2 146 y ∧ S.2 146 y ≤ 1000000000) ∧
  ∀ f : Nat, (f : Int) < S.2 72 102 → S.2 47 f = S.2 147 f ∧ S.2 48 f = S.2 148 f ∧ S.2 49 f = S.2 149 f
noncomputable def GU (h : Nat → Nat → Int) : Prop := (0 ≤ h 72 79 ∧ h 72 79 ≤ 14) ∧ h 50 4 = h 72 79 ∧ (∀ k : Nat, (k : Int) < h 72 79 → h 51 k = h 130 k ∧ h 52 k = h 131 k ∧ (0 ≤ h 130 k ∧ h 130 k ≤ 1000000000) ∧ (0 ≤ h 131 k ∧ h 131 k ≤ 1000000) ∧ (h 132 k = 0 ∨ h 132 k = 1)) ∧
  (∀ k : Nat, (k : Int) ≤ h 72 79 → h 53 k = sm (h 131) k) ∧ (0 ≤ h 50 3 ∧ h 50 3 < 2 ^ (h 72 79).toNat) ∧ ∀ k : Nat, (k : Int) < h 72 79 → ((h 50 3).toNat.testBit k = decide (h 132 k = 1))
noncomputable def GW (h : Nat → Nat → Int) : Prop := (∀ i : Nat, i < 3120 → h 55 i = h 133 i ∧ 0 ≤ h 133 i ∧ h 133 i ≤ 1000000000) ∧ h 54 1 = h 72 85 ∧ (∀ i : Nat, i < 520 → h 56 i = h 134 i) ∧ (0 ≤ h 72 87 ∧ h 72 87 ≤ 9) ∧ h 54 7 = h 72 87 ∧
  ∀ o : Nat, (o : Int) < h 72 87 → (h 57 o = h 135 o ∧ h 58 o = h 136 o ∧ h 59 o = h 137 o ∧ h 60 o = h 138 o) ∧ (0 ≤ h 135 o ∧ h 135 o ≤ 1000000000) ∧ (0 ≤ h 136 o ∧ h 136 o ≤ 51) ∧ (1 ≤ h 137 o ∧ h 137 o ≤ 51) ∧ 0 ≤ h 138 o ∧ h 138 o ≤ 1000000000
noncomputable def GN (h : Nat → Nat → Int) : Prop := (0 ≤ h 72 92 ∧ h 72 92 ≤ 12) ∧ h 63 2 = h 72 92 ∧ (∀ b : Nat, (b : Int) < h 72 92 → h 64 b = h 139 b ∧ h 65 b = h 140 b ∧ (1 ≤ h 139 b ∧ h 139 b ≤ 1000000000) ∧ 0 ≤ h 140 b ∧ h 140 b ≤ 9999) ∧ (0 ≤ h 72 93 ∧ h 72 93 ≤ 30) ∧ h 63 10 = h 72 93 ∧ h 63 11 = h 72 86 ∧
  ∀ i : Nat, (i : Int) < h 72 93 → (h 68 i = h 142 i ∧ h 69 i = h 143 i ∧ h 70 i = h 144 i ∧ h 71 i = h 145 i) ∧ (1 ≤ h 142 i ∧ h 142 i ≤ 1000000000) ∧ (0 ≤ h 143 i ∧ h 143 i ≤ 9999) ∧ (0 ≤ h 144 i ∧ h 144 i < 3600)
/-- what holds between two calls -/
noncomputable def Inv (S : AH) : Prop := 151 ≤ S.1.1 ∧ GT S.2 ∧ GC S.2 ∧ GX S.2 ∧ GB S.2 ∧ GP S.2 ∧ GL S ∧ GV S ∧ GK S ∧ GU S.2 ∧ GW S.2 ∧ GN S.2
/-- how much a call makes at most -/
noncomputable def Gw (S S' : AH) : Prop := S'.1.1 ≤ S.1.1 + 1000 ∧ S'.1.2.1 ≤ S.1.2.1 + 10000
/-- class and reference answer alike, and it goes on -/
noncomputable def Ok (L : Nat) (xs : Nat → Int) (mx mm : Nat) (as : List TV) (S : AH) : Prop := ∃ (r : Int) (S1 S2 : AH), ev (WK L xs) 200 mx (vr 15 :: as) S = some (r, S1) ∧ ev (WK L xs) 200 mm (vr 72 :: as) S1 = some (r, S2) ∧ Inv S2 ∧ Gw S S2
end
section
-- 15.frame
/-! what a group does not read may change -/
noncomputable def Fr (S S' : AH) : Prop := S.1.1 ≤ S'.1.1 ∧ ∀ a, 151 ≤ a → a < S.1.1 → S'.1.2.2 a = S.1.2.2 a ∧ S'.2 a = S.2 a
theorem Fr.rf {S : AH} : Fr S S := ⟨Nat.le_refl _, fun _ _ _ => ⟨rfl, rfl⟩⟩
theorem Fr.tr {S T U : AH} (h : Fr S T) (k : Fr T U) : Fr S U := ⟨Nat.le_trans h.1 k.1, fun a h1 h2 => ⟨(k.2 a h1 (Nat.lt_of_lt_of_le h2 h.1)).1.trans (h.2 a h1 h2).1, (k.2 a h1 (Nat.lt_of_lt_of_le h2 h.1)).2.trans (h.2 a h1 h2).2⟩⟩
theorem Fr.wr {S : AH} {a k : Nat} {v : Int} (h : a < 151) : Fr S (wr S a k v) := ⟨Nat.le_refl _, fun b h1 _ => ⟨rfl, wr_c (by first | decide | omega)⟩⟩
theorem Fr.nw {S : AH} {t n : Nat} {f : Nat → Int} : Fr S (nwc S t n f) := by
  refine ⟨Nat.le_succ _, fun b h1 h2 => ⟨?_, ?_⟩⟩
  · show (if b = S.1.1 then (t, n) else S.1.2.2 b) = S.1.2.2 b
    rw [if_neg (by first | decide | omega)]
  · show (if b = S.1.1 then f else S.2 b) = S.2 b
    rw [if_neg (by first | decide | omega)]
theorem isO.fr {S S' : AH} {a t n : Nat} (h : isO S a t n) (hF : Fr S S') : isO S' a t n := ⟨h.1, Nat.lt_of_lt_of_le h.2.1 hF.1, by rw [(hF.2 a h.1 h.2.1).1]; exact h.2.2⟩
theorem isO.ct {S S' : AH} {a t n : Nat} (h : isO S a t n) (hF : Fr S S') : S'.2 a = S.2 a := (hF.2 a h.1 h.2.1).2
theorem RX.fr {h h' : Nat → Nat → Int} {t : Nat} {x : TXT} (H : RX h t x) (h1 : h' 78 t = h 78 t) (h2 : ∀ j, j < 16 → h' 79 (16 * t + j) = h 79 (16 * t + j) ∧ h' 80 (16 * t + j) = h 80 (16 * t + j) ∧ h' 81 (16 * t + j) = h 81 (16 * t + j) ∧ h' 82 (16 * t + j) = h 82 (16 * t + j) ∧ h' 83 (16 * t + j) = h 83 (16 * t + j)) (h3 : ∀ i, i < 200 → h' 84 (200 * t + i) = h 84 (200 * t + i) ∧ h' 85 (200 * t + i) = h 85 (200 * t + i)) : RX h' t x := by
  obtain ⟨a1, a2, a3, a4, a5⟩ := H
  refine ⟨by rw [h1]; exact a1, a2, fun j q hq => ?_, a4, fun i q hq => ?_⟩
  · have hj : j < 16 := Nat.lt_of_lt_of_le (List.getElem?_eq_some_iff.mp hq).1 a2
    obtain ⟨b1, b2, b3, b4, b5⟩ := h2 j hj
    rw [b1, b2, b3, b4, b5]
    exact a3 j q hq
  · have hi : i < 200 := Nat.lt_of_lt_of_le (List.getElem?_eq_some_iff.mp hq).1 a4
    rw [(h3 i hi).1, (h3 i hi).2]
    exact a5 i q hq
theorem RX.cells {h h' : Nat → Nat → Int} {t : Nat} {x : TXT} (H : RX h t x) (hc : ∀ a, 78 ≤ a → a ≤ 85 → h' a = h a) : RX h' t x := by
  refine H.fr (by rw [hc 78 (by first | decide | omega) (by first | decide | omega)]) (fun j _ => ?_) (fun i _ => ?_)
  · rw [hc 79 (by first | decide | omega) (by first | decide | omega), hc 80 (by first | decide | omega) (by first | decide | omega), hc 81 (by first | decide | omega) (by first | decide | omega), hc 82 (by first | decide | omega) (by first | decide | omega), hc 83 (by first | decide | omega) (by first | decide | omega)]
    exact ⟨rfl, rfl, rfl, rfl, rfl⟩
  · rw [hc 84 (by first | decide | omega) (by first | decide | omega), hc 85 (by first | decide | omega) (by first | decide | omega)]
    exact ⟨rfl, rfl⟩
theorem CX2.fr {S S' : AH} {a : Nat} {law : Bool} {x : TXT} (H : CX2 S a law x) (hF : Fr S S') : CX2 S' a law x := by
  rcases H with H | ⟨h1, b, s, v, n, h2, h3, h4, h5, h6, h7, h8, h9, h10⟩
  · exact Or.inl H
  · refine Or.inr ⟨h1.fr hF, b, s, v, n, ?_, ?_, ?_, h5.fr hF, h6.fr hF, h7.fr hF, h8, ?_, fun j q hq => ?_⟩
    · rw [h1.ct hF]; exact h2
    · rw [h1.ct hF]; exact h3
    · rw [h1.ct hF]; exact h4
    · have e : byt S'.2 b = byt S.2 b := by unfold byt; rw [h5.ct hF]
      rw [e]; exact h9
    · rw [h6.ct hF, h7.ct hF]
      exact h10 j q hq
theorem TX.fr {S S' : AH} {a t : Nat} (H : TX S a t) (hF : Fr S S') (hc : ∀ a, 78 ≤ a → a ≤ 85 → S'.2 a = S.2 a) : TX S' a t := by
  obtain ⟨x, h1, h2⟩ := H
  exact ⟨x, h1.cells hc, h2.fr hF⟩
theorem pin_fr {h h' : Nat → Nat → Int} (e1 : h' 115 = h 115) : pin h' = pin h := by
  funext c y
  unfold pin
  rw [e1]
theorem cby_fr {h h' : Nat → Nat → Int} (e1 : h' 116 = h 116) (e2 : h' 97 = h 97) (e3 : h' 102 = h 102) : cby h' = cby h := by
  funext c
  unfold cby
  rw [e1, e2, e3]
/-- the fixed cells that laws, votes and claims are read from -/
noncomputable def lvk (a : Nat) : Prop := (31 ≤ a ∧ a ≤ 34) ∨ (36 ≤ a ∧ a ≤ 49) ∨ (78 ≤ a ∧ a ≤ 85) ∨ (94 ≤ a ∧ a ≤ 95) ∨ (97 ≤ a ∧ a ≤ 127) ∨ (146 ≤ a ∧ a ≤ 149)
/-- heads and hands only grow -/
noncomputable def HM (h h' : Nat → Nat → Int) : Prop := h 72 4 ≤ h' 72 4 ∧ h 72 5 ≤ h' 72 5
noncomputable def lvf (k : Nat) : Prop := k = 36 ∨ k = 40 ∨ k = 52 ∨ k = 53 ∨ k = 70 ∨ k = 102
section
variable {S S' : AH}
theorem GL.fr (H : GL S) (hF : Fr S S') (hc : ∀ a, lvk a → S'.2 a = S.2 a) (hk : ∀ k, lvf k → S'.2 72 k = S.2 72 k) : GL S' := by
  obtain ⟨h1, h2, h3, h4⟩ := H
  unfold GL
  rw [hc 31 (by unfold lvk; omega), hc 32 (by unfold lvk; omega), hc 33 (by unfold lvk; omega), hc 34 (by unfold lvk; omega), hc 94 (by unfold lvk; omega), hc 95 (by unfold lvk; omega), hk 36 (by unfold lvf; omega)]
  exact ⟨h1, h2, h3, fun i hi => ⟨(h4 i hi).1, (h4 i hi).2.1, (h4 i hi).2.2.fr hF (fun a q1 q2 => hc a (by unfold lvk; omega))⟩⟩
theorem RV.fr {h h' : Nat → Nat → Int} (H : RV h) (hc : ∀ a, (97 ≤ a ∧ a ≤ 107) ∨ (124 ≤ a ∧ a ≤ 127) → h' a = h a) (hk : ∀ k, k = 40 ∨ k = 70 → h' 72 k = h 72 k) (hm : HM h h') : RV h' := by
  unfold RV at H ⊢
  rw [hk 40 (by first | decide | omega), hk 70 (by first | decide | omega), hc 97 (by first | decide | omega), hc 98 (by first | decide | omega), hc 99 (by first | decide | omega), hc 100 (by first | decide | omega), hc 102 (by first | decide | omega), hc 104 (by first | decide | omega), hc 105 (by first | decide | omega), hc 106 (by first | decide | omega), hc 107 (by first | decide | omega), hc 124 (by first | decide | omega), hc 125 (by first | decide | omega), hc 126 (by first | decide | omega), hc 127 (by first | decide | omega)]
  obtain ⟨H1, H2, H3⟩ := H
  have hm1 := hm.1
  exact ⟨H1, fun v hv => (by obtain ⟨a1, ⟨a2, a3⟩, a4⟩ := H2 v hv; exact ⟨a1, ⟨a2, by omega⟩, a4⟩), H3⟩
theorem RK.fr {h h' : Nat → Nat → Int} (H : RK h) (hc : ∀ a, a = 97 ∨ (108 ≤ a ∧ a ≤ 123) ∨ (147 ≤ a ∧ a ≤ 149) → h' a = h a) (hk : ∀ k, lvf k → h' 72 k = h 72 k) (hm : HM h h') : RK h' := by
  unfold RK at H ⊢
  unfold lvf at hk
  rw [hk 40 (by first | decide | omega), hk 52 (by first | decide | omega), hk 53 (by first | decide | omega), hk 70 (by first | decide | omega), hk 102 (by first | decide | omega), hc 97 (by first | decide | omega), hc 108 (by first | decide | omega), hc 109 (by first | decide | omega), hc 110 (by first | decide | omega), hc 111 (by first | decide | omega), hc 112 (by first | decide | omega), hc 113 (by first | decide | omega), hc 114 (by first | decide | omega), hc 115 (by first | decide | omega), hc 116 (by first | decide | omega), hc 117 (by first | decide | omega), hc 118 (by first | decide | omega), hc 119 (by first | decide | omega), hc 120 (by first | decide | omega), hc 121 (by first | decide | omega), hc 122 (by first | decide | omega), hc 123 (by first | decide | omega), hc 147 (by first | decide | omega), hc 148 (by first | decide | omega)]
  obtain ⟨r1, r2, r3, r4, r5, r6⟩ := H
  have hm1 := hm.1
  have hm2 := hm.2
  exact ⟨r1, r2, r3, fun c q => (by obtain ⟨⟨a1, a2⟩, ⟨b1, b2⟩, z⟩ := r4 c q; exact ⟨⟨a1, by omega⟩, ⟨b1, by omega⟩, z⟩), r5, r6⟩
theorem pby_fr {h h' : Nat → Nat → Int} (e1 : h' 115 = h 115) (e2 : h' 116 = h 116) (e3 : h' 97 = h 97) (e4 : h' 102 = h 102) (e5 : h' 111 = h 111) (e6 : h' 72 52 = h 72 52) : pby h' = pby h := by
  funext v y
  unfold pby nClaims
  rw [pin_fr e1, cby_fr e2 e3 e4, e5, e6]
theorem pct_fr {h h' : Nat → Nat → Int} (e1 : h' 115 = h 115) (e2 : h' 112 = h 112) (e5 : h' 111 = h 111) (e6 : h' 72 52 = h 72 52) : pct h' = pct h := by
  funext v y
  unfold pct nClaims
  rw [pin_fr e1, e2, e5, e6]
theorem AV.fr {v : Nat} (H : AV S v) (hF : Fr S S') (hc : ∀ a, lvk a → S'.2 a = S.2 a) (hk : ∀ k, lvf k → S'.2 72 k = S.2 72 k) : AV S' v ∧ auA S' v = auA S v ∧ spA S' v = spA S v := by
  have e1 : auA S' v = auA S v := by unfold auA; rw [hc 37 (by unfold lvk; omega)]
  have e2 : S'.2 (auA S v) = S.2 (auA S v) := H.1.ct hF
  have e3 : spA S' v = spA S v := by
    unfold spA
    rw [e1, e2]
  refine ⟨?_, e1, e3⟩
  have e4 : S'.2 (spA S v) = S.2 (spA S v) := H.2.1.ct hF
  have e5 : pby S'.2 = pby S.2 := pby_fr (hc 115 (by unfold lvk; omega)) (hc 116 (by unfold lvk; omega)) (hc 97 (by unfold lvk; omega)) (hc 102 (by unfold lvk; omega)) (hc 111 (by unfold lvk; omega)) (hk 52 (by unfold lvf; omega))
  unfold AV at H ⊢
  rw [e1, e3, e2, e4, e5, hc 97 (by unfold lvk; omega), hc 98 (by unfold lvk; omega), hc 99 (by unfold lvk; omega), hc 100 (by unfold lvk; omega), hc 101 (by unfold lvk; omega), hc 102 (by unfold lvk; omega), hc 103 (by unfold lvk; omega), hc 104 (by unfold lvk; omega), hc 105 (by unfold lvk; omega), hc 106 (by unfold lvk; omega), hc 107 (by unfold lvk; omega)]
  obtain ⟨a1, a2, a3, a4, a5, a6, a7, a8, a9, a10, a11, a12, a13, a14, a15, a16⟩ := H
  exact ⟨a1.fr hF, a2.fr hF, a3, a4, a5, a6, a7, a8, a9, a10, a11, a12, a13, a14, a15.fr hF (fun a q1 q2 => hc a (by unfold lvk; omega)), a16⟩
theorem GV.fr (H : GV S) (hF : Fr S S') (hc : ∀ a, lvk a → S'.2 a = S.2 a) (hk : ∀ k, lvf k → S'.2 72 k = S.2 72 k) (hm : HM S.2 S'.2) : GV S' := by
  obtain ⟨h1, h2, h3, h4, h5, h6, h7⟩ := H
  have e5 : pct S'.2 = pct S.2 := pct_fr (hc 115 (by unfold lvk; omega)) (hc 112 (by unfold lvk; omega)) (hc 111 (by unfold lvk; omega)) (hk 52 (by unfold lvf; omega))
  have k40 := hk 40 (by unfold lvf; omega)
  unfold GV
  rw [e5, hc 36 (by unfold lvk; omega), k40, hk 70 (by unfold lvf; omega), hc 38 (by unfold lvk; omega), hc 39 (by unfold lvk; omega), hc 40 (by unfold lvk; omega), hc 41 (by unfold lvk; omega), hc 42 (by unfold lvk; omega), hc 124 (by unfold lvk; omega), hc 125 (by unfold lvk; omega), hc 126 (by unfold lvk; omega), hc 127 (by unfold lvk; omega)]
  refine ⟨h1.fr (fun a q => hc a (by unfold lvk; omega)) (fun k q => hk k (by unfold lvf; omega)) hm, h2, h3, fun v hv => ((h4 v hv).fr hF hc hk).1, fun v w hv hw q => ?_, h6, h7⟩
  obtain ⟨-, a1, a2⟩ := (h4 v hv).fr hF hc hk
  obtain ⟨-, b1, b2⟩ := (h4 w hw).fr hF hc hk
  rw [a1, a2, b1, b2] at q
  exact h5 v w hv hw q
theorem AK.fr {c : Nat} (H : AK S c) (hF : Fr S S') (hc : ∀ a, lvk a → S'.2 a = S.2 a) : AK S' c ∧ clA S' c = clA S c := by
  have e1 : clA S' c = clA S c := by unfold clA; rw [hc 44 (by unfold lvk; omega)]
  refine ⟨?_, e1⟩
  have e2 : S'.2 (clA S c) = S.2 (clA S c) := H.1.ct hF
  have e3 : cby S'.2 = cby S.2 := cby_fr (hc 116 (by unfold lvk; omega)) (hc 97 (by unfold lvk; omega)) (hc 102 (by unfold lvk; omega))
  unfold AK at H ⊢
  rw [e1, e2, e3, hc 108 (by unfold lvk; omega), hc 109 (by unfold lvk; omega), hc 110 (by unfold lvk; omega), hc 111 (by unfold lvk; omega), hc 112 (by unfold lvk; omega), hc 113 (by unfold lvk; omega), hc 114 (by unfold lvk; omega), hc 115 (by unfold lvk; omega), hc 116 (by unfold lvk; omega), hc 118 (by unfold lvk; omega), hc 119 (by unfold lvk; omega), hc 120 (by unfold lvk; omega), hc 121 (by unfold lvk; omega), hc 122 (by unfold lvk; omega), hc 123 (by unfold lvk; omega)]
  exact ⟨H.1.fr hF, H.2⟩
theorem GK.fr (H : GK S) (hF : Fr S S') (hc : ∀ a, lvk a → S'.2 a = S.2 a) (hk : ∀ k, lvf k → S'.2 72 k = S.2 72 k) (hm : HM S.2 S'.2) : GK S' := by
  obtain ⟨h1, h2, h3, h4, h5, h6, h7, h8, h9, h10, h11⟩ := H
  unfold GK nClaims
  rw [hc 43 (by unfold lvk; omega), hk 52 (by unfold lvf; omega), hk 53 (by unfold lvf; omega), hk 102 (by unfold lvf; omega), hc 45 (by unfold lvk; omega), hc 46 (by unfold lvk; omega), hc 47 (by unfold lvk; omega), hc 48 (by unfold lvk; omega), hc 49 (by unfold lvk; omega), hc 111 (by unfold lvk; omega), hc 115 (by unfold lvk; omega), hc 117 (by unfold lvk; omega), hc 146 (by unfold lvk; omega), hc 147 (by unfold lvk; omega), hc 148 (by unfold lvk; omega), hc 149 (by unfold lvk; omega)]
  refine ⟨h1.fr (fun a q => hc a (by unfold lvk; omega)) hk hm, h2, h3, h4, fun c q => ((h5 c q).fr hF hc).1, fun c e q1 q2 q => ?_, h7, h8, h9, h10, h11⟩
  obtain ⟨-, a1⟩ := (h5 c q1).fr hF hc
  obtain ⟨-, b1⟩ := (h5 e q2).fr hF hc
  rw [a1, b1] at q
  exact h6 c e q1 q2 q
end
end
section
-- 16.easy
/-! time, heads, hands -/
theorem Inv.upd {S S' : AH} (H : Inv S) (hF : Fr S S') (hc : ∀ a, lvk a → S'.2 a = S.2 a) (hk : ∀ k, lvf k → S'.2 72 k = S.2 72 k) (hm : HM S.2 S'.2) (gt : GT S'.2) (gc : GC S'.2) (gx : GX S'.2) (gb : GB S'.2) (gp : GP S'.2) (gu : GU S'.2) (gw : GW S'.2) (gn : GN S'.2) : Inv S' :=
  ⟨Nat.le_trans H.1 hF.1, gt, gc, gx, gb, gp, H.2.2.2.2.2.2.1.fr hF hc hk, H.2.2.2.2.2.2.2.1.fr hF hc hk hm, H.2.2.2.2.2.2.2.2.1.fr hF hc hk hm, gu, gw, gn⟩
theorem Gw.rf {S : AH} : Gw S S := ⟨by omega, by omega⟩
theorem Gw.of {S S' : AH} (h : S'.1 = S.1) : Gw S S' := by unfold Gw; rw [h]; omega
theorem ite_bi {P : Prop} [Decidable P] {S : AH} : (if P then (some ((1 : Int), S) : Rs) else some (0, S)) = some (bi P, S) := by
  unfold bi
  by_cases h : P
  · rw [if_pos h, if_pos h]
  · rw [if_neg h, if_neg h]
theorem ite_bin {P : Prop} [Decidable P] {S : AH} : (if P then (some ((0 : Int), S) : Rs) else some (1, S)) = some (bi (¬ P), S) := by
  unfold bi
  by_cases h : P
  · rw [if_pos h, if_neg (fun q => q h)]
  · rw [if_neg h, if_pos h]
theorem rng {p lo hi : Int} {S : AH} : (if p < lo then (some ((0 : Int), S) : Rs) else if p < hi then some (1, S) else some (0, S)) = some (bi (lo ≤ p ∧ p < hi), S) := by
  by_cases h1 : p < lo
  · rw [if_pos h1, bi_F (by first | decide | omega)]
  · rw [if_neg h1, ite_bi]
    congr 2
    exact bi_iff (by first | decide | omega)
section
variable {L : Nat} {xs : Nat → Int} {d : Nat} {S : AH}
theorem x_isDay (p : Int) : ev (WK L xs) (d + 1) 3 [vi p] S = some (bi (0 ≤ p ∧ p < 3600), S) := by rw [q_3, rng]
theorem x_isYear (p : Int) : ev (WK L xs) (d + 1) 14 [vi p] S = some (bi (0 ≤ p ∧ p < 10), S) := by rw [q_14, rng]
theorem x_isWeek (p : Int) : ev (WK L xs) (d + 1) 40 [vi p] S = some (bi (0 ≤ p ∧ p < 52), S) := by rw [q_40, rng]
theorem x_isTax (p : Int) : ev (WK L xs) (d + 1) 37 [vi p] S = some (bi (0 ≤ p ∧ p < 6), S) := by rw [q_37, rng]
theorem x_isSum (p : Int) : ev (WK L xs) (d + 1) 13 [vi p] S = some (bi (0 ≤ p ∧ p ≤ 1000000000), S) := by
  rw [q_13]
  by_cases h1 : p < 0
  · rw [if_pos h1, bi_F (by first | decide | omega)]
  · rw [if_neg h1, ite_bin]
    congr 2
    exact bi_iff (by first | decide | omega)
theorem x_yearOf (p : Int) : ev (WK L xs) (d + 1) 17 [vi p] S = some (yr p, S) := by rw [q_17]; rfl
theorem x_weekOf (p : Int) : ev (WK L xs) (d + 1) 38 [vi p] S = some (idiv (Int.tmod p 360) 7, S) := by rw [q_38]
theorem x_isHead (p : Int) : ev (WK L xs) (d + 1) 125 [vr 17, vi p] S = some (bi (0 ≤ p ∧ p < S.2 17 1), S) := by rw [q_125, rng]
theorem x_isHand (p : Int) : ev (WK L xs) (d + 1) 129 [vr 17, vi p] S = some (bi (0 ≤ p ∧ p < S.2 17 5), S) := by rw [q_129, rng]
theorem m_isHead (hR : RP S.2) (p : Int) : ev (WK L xs) (d + 2) 197 [vr 72, vi p] S = some (bi (0 ≤ p ∧ p < S.2 72 4), S) := by
  obtain ⟨⟨h1, h2⟩, -⟩ := hR
  rw [q_197, w32e (by first | decide | omega) (by first | decide | omega)]
  simp only [m_lies, bR, bi_01, if_true]
  congr 2
  exact bi_iff (by first | decide | omega)
theorem m_isHand (hR : RP S.2) (p : Int) : ev (WK L xs) (d + 2) 257 [vr 72, vi p] S = some (bi (0 ≤ p ∧ p < S.2 72 5), S) := by
  obtain ⟨-, ⟨h1, h2⟩, -⟩ := hR
  rw [q_257, w32e (by first | decide | omega) (by first | decide | omega)]
  simp only [m_lies, bR, bi_01, if_true]
  congr 2
  exact bi_iff (by first | decide | omega)
/-- climbing the tree -/
theorem und_self (p : Nat → Int) (n a : Nat) : und p n a a = true := by
  cases n <;> simp [und]
end
end
section
-- 16f.fr
/-! each group's frame -/
section
variable {h h' : Nat → Nat → Int}
theorem GT.fr (H : GT h) (e1 : h' 15 0 = h 15 0) (e2 : h' 72 2 = h 72 2) : GT h' := by
  unfold GT
  rw [e1, e2]
  exact H
theorem GC.fr (H : GC h) (e1 : h' 15 1 = h 15 1) (e2 : h' 72 3 = h 72 3) : GC h' := by
  unfold GC
  rw [e1, e2]
  exact H
theorem GX.fr (H : GX h) (e1 : h' 15 2 = h 15 2) (e2 : h' 72 106 = h 72 106) : GX h' := by
  unfold GX
  rw [e1, e2]
  exact H
theorem GB.fr (H : GB h) (e1 : h' 15 4 = h 15 4) (e2 : h' 72 1 = h 72 1) (e3 : h' 16 = h 16) (e4 : h' 73 = h 73) : GB h' := by
  unfold GB
  rw [e1, e2, e3, e4]
  exact H
theorem GP.fr (H : GP h) (e4 : h' 72 4 = h 72 4) (e5 : h' 72 5 = h 72 5) (hc : ∀ a, (17 ≤ a ∧ a ≤ 21) ∨ (74 ≤ a ∧ a ≤ 77) → h' a = h a) : GP h' := by
  unfold GP RP
  rw [e4, e5, hc 17 (by first | decide | omega), hc 18 (by first | decide | omega), hc 19 (by first | decide | omega), hc 20 (by first | decide | omega), hc 21 (by first | decide | omega), hc 74 (by first | decide | omega), hc 75 (by first | decide | omega), hc 76 (by first | decide | omega), hc 77 (by first | decide | omega)]
  exact H
theorem GU.fr (H : GU h) (e1 : h' 72 79 = h 72 79) (e2 : h' 50 4 = h 50 4) (e3 : h' 50 3 = h 50 3) (hc : ∀ a, (51 ≤ a ∧ a ≤ 53) ∨ (130 ≤ a ∧ a ≤ 132) → h' a = h a) : GU h' := by
  unfold GU
  rw [e1, e2, e3, hc 51 (by first | decide | omega), hc 52 (by first | decide | omega), hc 53 (by first | decide | omega), hc 130 (by first | decide | omega), hc 131 (by first | decide | omega), hc 132 (by first | decide | omega)]
  exact H
theorem GW.fr (H : GW h) (e1 : h' 72 85 = h 72 85) (e2 : h' 72 87 = h 72 87) (e3 : h' 54 1 = h 54 1) (e4 : h' 54 7 = h 54 7) (hc : ∀ a, (55 ≤ a ∧ a ≤ 60) ∨ (133 ≤ a ∧ a ≤ 138) → h' a = h a) : GW h' := by
  unfold GW
  rw [e1, e2, e3, e4, hc 55 (by first | decide | omega), hc 56 (by first | decide | omega), hc 57 (by first | decide | omega), hc 58 (by first | decide | omega), hc 59 (by first | decide | omega), hc 60 (by first | decide | omega), hc 133 (by first | decide | omega), hc 134 (by first | decide | omega), hc 135 (by first | decide | omega), hc 136 (by first | decide | omega), hc 137 (by first | decide | omega), hc 138 (by first | decide | omega)]
  exact H
theorem GN.fr (H : GN h) (e1 : h' 72 92 = h 72 92) (e2 : h' 72 93 = h 72 93) (e3 : h' 72 86 = h 72 86) (e4 : h' 63 2 = h 63 2) (e5 : h' 63 10 = h 63 10) (e6 : h' 63 11 = h 63 11) (hc : ∀ a, (64 ≤ a ∧ a ≤ 65) ∨ (68 ≤ a ∧ a ≤ 71) ∨ (139 ≤ a ∧ a ≤ 140) ∨ (142 ≤ a ∧ a ≤ 145) → h' a = h a) : GN h' := by
  unfold GN
  rw [e1, e2, e3, e4, e5, e6, hc 64 (by first | decide | omega), hc 65 (by first | decide | omega), hc 68 (by first | decide | omega), hc 69 (by first | decide | omega), hc 70 (by first | decide | omega), hc 71 (by first | decide | omega), hc 139 (by first | decide | omega), hc 140 (by first | decide | omega), hc 142 (by first | decide | omega), hc 143 (by first | decide | omega), hc 144 (by first | decide | omega), hc 145 (by first | decide | omega)]
  exact H
end
/-- the places that nobody reads between two calls -/
noncomputable def scr (a k : Nat) : Prop := (22 ≤ a ∧ a ≤ 26) ∨ a = 35 ∨ (a = 50 ∧ 5 ≤ k) ∨ a = 61 ∨ a = 62 ∨ a = 66 ∨ a = 67 ∨ (a = 63 ∧ k = 5) ∨ (a = 72 ∧ ((18 ≤ k ∧ k ≤ 35) ∨ k = 75 ∨ k = 76)) ∨ (86 ≤ a ∧ a ≤ 93) ∨ a = 96 ∨ a = 128 ∨ a = 129 ∨ a = 141 ∨ a = 150
theorem scr_cell {S S' : AH} (h : ∀ a k, a < 151 → ¬ scr a k → S'.2 a k = S.2 a k) {a : Nat} (h1 : a < 151) (h2 : ∀ k, ¬ scr a k) : S'.2 a = S.2 a := funext fun k => h a k h1 (h2 k)
theorem Inv.scr {S S' : AH} (H : Inv S) (hF : Fr S S') (h : ∀ a k, a < 151 → ¬ _root_.Jvm.Pilot.@@N@@.scr a k → S'.2 a k = S.2 a k) : Inv S' := by
  have q : ∀ a, a < 151 → (∀ k, ¬ _root_.Jvm.Pilot.@@N@@.scr a k) → S'.2 a = S.2 a := fun a h1 h2 => funext fun k => h a k h1 (h2 k)
  have c : ∀ a, a < 151 → ¬ ((22 ≤ a ∧ a ≤ 26) ∨ a = 35 ∨ a = 50 ∨ a = 61 ∨ a = 62 ∨ a = 63 ∨ a = 66 ∨ a = 67 ∨ a = 72 ∨ (86 ≤ a ∧ a ≤ 93) ∨ a = 96 ∨ a = 128 ∨ a = 129 ∨ a = 141 ∨ a = 150) → S'.2 a = S.2 a := fun a h1 h2 => q a h1 (fun k z => h2 (by unfold _root_.Jvm.Pilot.@@N@@.scr at z; omega))
  have e72 : ∀ k, ¬ ((18 ≤ k ∧ k ≤ 35) ∨ k = 75 ∨ k = 76) → S'.2 72 k = S.2 72 k := fun k hk => h 72 k (by decide) (fun z => hk (by unfold _root_.Jvm.Pilot.@@N@@.scr at z; omega))
  have c15 : S'.2 15 = S.2 15 := c 15 (by decide) (by decide)
  refine H.upd hF (fun a ha => c a (by unfold lvk at ha; omega) (by unfold lvk at ha; omega)) (fun k hk => e72 k (by unfold lvf at hk; omega)) ⟨Int.le_of_eq (e72 4 (by decide)).symm, Int.le_of_eq (e72 5 (by decide)).symm⟩ (GT.fr H.2.1 (by rw [c15]) (e72 2 (by decide))) (GC.fr H.2.2.1 (by rw [c15]) (e72 3 (by decide))) (GX.fr H.2.2.2.1 (by rw [c15]) (e72 106 (by decide))) (GB.fr H.2.2.2.2.1 (by rw [c15]) (e72 1 (by decide)) (c 16 (by decide) (by decide)) (c 73 (by decide) (by decide)))
    (GP.fr H.2.2.2.2.2.1 (e72 4 (by decide)) (e72 5 (by decide)) (fun a ha => c a (by first | decide | omega) (by first | decide | omega))) (GU.fr H.2.2.2.2.2.2.2.2.2.1 (e72 79 (by decide)) (h 50 4 (by decide) (by unfold _root_.Jvm.Pilot.@@N@@.scr; omega)) (h 50 3 (by decide) (by unfold _root_.Jvm.Pilot.@@N@@.scr; omega)) (fun a ha => c a (by first | decide | omega) (by first | decide | omega)))
    (GW.fr H.2.2.2.2.2.2.2.2.2.2.1 (e72 85 (by decide)) (e72 87 (by decide)) (by rw [c 54 (by decide) (by decide)]) (by rw [c 54 (by decide) (by decide)]) (fun a ha => c a (by first | decide | omega) (by first | decide | omega)))
    (GN.fr H.2.2.2.2.2.2.2.2.2.2.2 (e72 92 (by decide)) (e72 93 (by decide)) (e72 86 (by decide)) (h 63 2 (by decide) (by unfold _root_.Jvm.Pilot.@@N@@.scr; omega)) (h 63 10 (by decide) (by unfold _root_.Jvm.Pilot.@@N@@.scr; omega)) (h 63 11 (by decide) (by unfold _root_.Jvm.Pilot.@@N@@.scr; omega)) (fun a ha => c a (by first | decide | omega) (by first | decide | omega)))
end
section
-- 17.bits
/-! bits of whole numbers that are not below 0 -/
theorem bv32 (x : Nat) (h : x < 2147483648) : (BitVec.ofInt 32 (x : Int)).toNat = x := by
  rw [BitVec.toNat_ofInt]
  omega
theorem bv64 (x : Nat) (h : x < 9223372036854775808) : (BitVec.ofInt 64 (x : Int)).toNat = x := by
  rw [BitVec.toNat_ofInt]
  omega
theorem ti32 {b : BitVec 32} (h : b.toNat < 2147483648) : b.toInt = b.toNat := BitVec.toInt_eq_toNat_of_lt (by first | decide | omega)
theorem ti64 {b : BitVec 64} (h : b.toNat < 9223372036854775808) : b.toInt = b.toNat := BitVec.toInt_eq_toNat_of_lt (by first | decide | omega)
theorem iand_n (x y : Nat) (hx : x < 2147483648) (hy : y < 2147483648) : iand x y = ((x &&& y : Nat) : Int) := by
  have e : (Int32.ofInt (x : Int) &&& Int32.ofInt (y : Int)).toBitVec = BitVec.ofInt 32 x &&& BitVec.ofInt 32 y := rfl
  have h2 : (BitVec.ofInt 32 (x : Int) &&& BitVec.ofInt 32 (y : Int)).toNat = x &&& y := by rw [BitVec.toNat_and, bv32 x hx, bv32 y hy]
  show (Int32.ofInt (x : Int) &&& Int32.ofInt (y : Int)).toBitVec.toInt = _
  rw [e, ti32 (by rw [h2]; exact Nat.lt_of_le_of_lt Nat.and_le_left hx), h2]
theorem ior_n (x y : Nat) (hx : x < 2147483648) (hy : y < 2147483648) : ior x y = ((x ||| y : Nat) : Int) := by
  have e : (Int32.ofInt (x : Int) ||| Int32.ofInt (y : Int)).toBitVec = BitVec.ofInt 32 x ||| BitVec.ofInt 32 y := rfl
  have h2 : (BitVec.ofInt 32 (x : Int) ||| BitVec.ofInt 32 (y : Int)).toNat = x ||| y := by rw [BitVec.toNat_or, bv32 x hx, bv32 y hy]
  show (Int32.ofInt (x : Int) ||| Int32.ofInt (y : Int)).toBitVec.toInt = _
  rw [e, ti32 (by rw [h2]; exact Nat.or_lt_two_pow (n := 31) hx hy), h2]
theorem sh31 (y : Nat) (h : y < 32) : (Int32.ofInt (y : Int) &&& 31).toBitVec.toNat = y := by
  show (BitVec.ofInt 32 (y : Int) &&& 31#32).toNat = y
  rw [BitVec.toNat_and, bv32 y (by first | decide | omega)]
  show y &&& 31 = y
  rw [show (31 : Nat) = 2 ^ 5 - 1 from rfl, Nat.and_two_pow_sub_one_eq_mod]
  omega
theorem ishr_n (x y : Nat) (hx : x < 2147483648) (hy : y < 32) : ishr x y = ((x >>> y : Nat) : Int) := by
  have h0 : (Int32.ofInt (x : Int) >>> (Int32.ofInt (y : Int) &&& 31)).toBitVec = (BitVec.ofInt 32 (x : Int)).sshiftRight' ((Int32.ofInt (y : Int) &&& 31).toBitVec.smod 32) := rfl
  have hm : ((Int32.ofInt (y : Int) &&& 31).toBitVec.smod 32).toNat = y := by
    have e1 : (Int32.ofInt (y : Int) &&& 31).toBitVec = BitVec.ofNat 32 y := by
      apply BitVec.eq_of_toNat_eq
      rw [sh31 y hy, BitVec.toNat_ofNat]
      omega
    rw [e1]
    rcases (show y = 0 ∨ y = 1 ∨ y = 2 ∨ y = 3 ∨ y = 4 ∨ y = 5 ∨ y = 6 ∨ y = 7 ∨ y = 8 ∨ y = 9 ∨ y = 10 ∨ y = 11 ∨ y = 12 ∨ y = 13 ∨ y = 14 ∨ y = 15 ∨ y = 16 ∨ y = 17 ∨ y = 18 ∨ y = 19 ∨ y = 20 ∨ y = 21 ∨ y = 22 ∨ y = 23 ∨ y = 24 ∨ y = 25 ∨ y = 26 ∨ y = 27 ∨ y = 28 ∨ y = 29 ∨ y = 30 ∨ y = 31 by omega) with h | h | h | h | h | h | h | h | h | h | h | h | h | h | h | h | h | h | h | h | h | h | h | h | h | h | h | h | h | h | h | h <;> subst h <;> rfl
  have h2 : ((BitVec.ofInt 32 (x : Int)).sshiftRight' ((Int32.ofInt (y : Int) &&& 31).toBitVec.smod 32)).toNat = x >>> y := by
    rw [BitVec.sshiftRight_eq', hm, BitVec.sshiftRight_eq_of_msb_false, BitVec.toNat_ushiftRight, bv32 x hx]
    rw [BitVec.msb_eq_false_iff_two_mul_lt, bv32 x hx]
    omega
  show (Int32.ofInt (x : Int) >>> (Int32.ofInt (y : Int) &&& 31)).toBitVec.toInt = _
  rw [h0, ti32 (by rw [h2]; exact Nat.lt_of_le_of_lt (Nat.shiftRight_le _ _) hx), h2]
theorem land_n (x y : Nat) (hx : x < 9223372036854775808) (hy : y < 9223372036854775808) : land x y = ((x &&& y : Nat) : Int) := by
  have e : (Int64.ofInt (x : Int) &&& Int64.ofInt (y : Int)).toBitVec = BitVec.ofInt 64 x &&& BitVec.ofInt 64 y := rfl
  have h2 : (BitVec.ofInt 64 (x : Int) &&& BitVec.ofInt 64 (y : Int)).toNat = x &&& y := by rw [BitVec.toNat_and, bv64 x hx, bv64 y hy]
  show (Int64.ofInt (x : Int) &&& Int64.ofInt (y : Int)).toBitVec.toInt = _
  rw [e, ti64 (by rw [h2]; exact Nat.lt_of_le_of_lt Nat.and_le_left hx), h2]
theorem lor_n (x y : Nat) (hx : x < 9223372036854775808) (hy : y < 9223372036854775808) : lor x y = ((x ||| y : Nat) : Int) := by
  have e : (Int64.ofInt (x : Int) ||| Int64.ofInt (y : Int)).toBitVec = BitVec.ofInt 64 x ||| BitVec.ofInt 64 y := rfl
  have h2 : (BitVec.ofInt 64 (x : Int) ||| BitVec.ofInt 64 (y : Int)).toNat = x ||| y := by rw [BitVec.toNat_or, bv64 x hx, bv64 y hy]
  show (Int64.ofInt (x : Int) ||| Int64.ofInt (y : Int)).toBitVec.toInt = _
  rw [e, ti64 (by rw [h2]; exact Nat.or_lt_two_pow (n := 63) hx hy), h2]
theorem ishl_ok : ((List.range 31).all fun y => decide (ishl 1 (y : Int) = ((2 ^ y : Nat) : Int))) = true := by decide +kernel
theorem ishl_n (y : Nat) (h : y < 31) : ishl 1 y = ((2 ^ y : Nat) : Int) := of_decide_eq_true (List.all_eq_true.mp ishl_ok y (List.mem_range.mpr h))
theorem lshl_ok : ((List.range 63).all fun y => decide (lshl 1 (y : Int) = ((2 ^ y : Nat) : Int))) = true := by decide +kernel
theorem lshl_n (y : Nat) (h : y < 63) : lshl 1 y = ((2 ^ y : Nat) : Int) := of_decide_eq_true (List.all_eq_true.mp lshl_ok y (List.mem_range.mpr h))
theorem lushr_n (x y : Nat) (hx : x < 9223372036854775808) (hy : y < 64) : lushr x y = ((x >>> y : Nat) : Int) := by
  have h0 : (((Int64.ofInt (x : Int)).toUInt64 >>> ((Int32.ofInt (y : Int)).toInt64.toUInt64 &&& Int64.toUInt64 63)).toInt64).toBitVec = (BitVec.ofInt 64 (x : Int)) >>> (((Int32.ofInt (y : Int)).toInt64.toUInt64 &&& Int64.toUInt64 63) % 64).toBitVec := rfl
  have hm : ((((Int32.ofInt (y : Int)).toInt64.toUInt64 &&& Int64.toUInt64 63) % 64).toBitVec).toNat = y := by
    have e1 : (Int32.ofInt (y : Int)).toInt64 = Int64.ofInt y := ofl_i2l (by unfold r32; omega)
    rw [e1]
    show ((BitVec.ofInt 64 (y : Int) &&& 63#64) % 64#64).toNat = y
    rw [BitVec.toNat_umod, BitVec.toNat_and, bv64 y (by first | decide | omega)]
    show (y &&& 63) % 64 = y
    rw [show (63 : Nat) = 2 ^ 6 - 1 from rfl, Nat.and_two_pow_sub_one_eq_mod]
    omega
  have h2 : ((BitVec.ofInt 64 (x : Int)) >>> (((Int32.ofInt (y : Int)).toInt64.toUInt64 &&& Int64.toUInt64 63) % 64).toBitVec).toNat = x >>> y := by
    rw [BitVec.ushiftRight_eq', BitVec.toNat_ushiftRight, hm, bv64 x hx]
  show (((Int64.ofInt (x : Int)).toUInt64 >>> ((Int32.ofInt (y : Int)).toInt64.toUInt64 &&& Int64.toUInt64 63)).toInt64).toBitVec.toInt = _
  rw [h0, ti64 (by rw [h2]; exact Nat.lt_of_le_of_lt (Nat.shiftRight_le _ _) hx), h2]
theorem tb_iff (x y : Nat) : (x >>> y) &&& 1 = if x.testBit y then 1 else 0 := by
  rw [Nat.and_one_is_mod, Nat.testBit_eq_decide_div_mod_eq, Nat.shiftRight_eq_div_pow]
  by_cases h : x / 2 ^ y % 2 = 1
  · simp [h]
  · have : x / 2 ^ y % 2 = 0 := by omega
    simp [this]
/-- a bit of an int, of a long -/
theorem ibit (x y : Int) (hx : 0 ≤ x) (hx2 : x < 2147483648) (hy : 0 ≤ y) (hy2 : y < 32) : iand (ishr x y) 1 = if x.toNat.testBit y.toNat then 1 else 0 := by
  obtain ⟨m, rfl⟩ := Int.eq_ofNat_of_zero_le hx
  obtain ⟨k, rfl⟩ := Int.eq_ofNat_of_zero_le hy
  rw [ishr_n m k (by first | decide | omega) (by first | decide | omega)]
  have := iand_n (m >>> k) 1 (Nat.lt_of_le_of_lt (Nat.shiftRight_le _ _) (by first | decide | omega)) (by first | decide | omega)
  rw [show ((1 : Nat) : Int) = 1 from rfl] at this
  rw [this, tb_iff]
  simp only [Int.toNat_natCast]
  split <;> rfl
theorem lbit (x y : Int) (hx : 0 ≤ x) (hx2 : x < 9223372036854775808) (hy : 0 ≤ y) (hy2 : y < 64) : land (lushr x y) 1 = if x.toNat.testBit y.toNat then 1 else 0 := by
  obtain ⟨m, rfl⟩ := Int.eq_ofNat_of_zero_le hx
  obtain ⟨k, rfl⟩ := Int.eq_ofNat_of_zero_le hy
  rw [lushr_n m k (by first | decide | omega) (by first | decide | omega)]
  have := land_n (m >>> k) 1 (Nat.lt_of_le_of_lt (Nat.shiftRight_le _ _) (by first | decide | omega)) (by first | decide | omega)
  rw [show ((1 : Nat) : Int) = 1 from rfl] at this
  rw [this, tb_iff]
  simp only [Int.toNat_natCast]
  split <;> rfl
end
section
-- 18.people
/-! climbing, below a bound -/
theorem und_fu {p : Nat → Int} {N : Nat} (hp : ∀ i : Nat, i < N → p i < i) : ∀ (n m a b : Nat), a < N → a ≤ n → a ≤ m → und p n a b = und p m a b := by
  intro n
  induction n with
  | zero =>
    intro m a b h0 h1 h2
    have e : a = 0 := by omega
    subst e
    cases m with
    | zero => rfl
    | succ m =>
      have := hp 0 h0
      simp only [und]
      rw [decide_eq_false (by first | decide | omega)]
      simp
  | succ n ih =>
    intro m a b h0 h1 h2
    cases m with
    | zero =>
      have e : a = 0 := by omega
      subst e
      have := hp 0 h0
      simp only [und]
      rw [decide_eq_false (by first | decide | omega)]
      simp
    | succ m =>
      simp only [und]
      have := hp a h0
      by_cases hq : 0 ≤ p a
      · rw [ih m (p a).toNat b (by first | decide | omega) (by first | decide | omega) (by first | decide | omega)]
      · rw [decide_eq_false hq]
        simp
theorem und_step {p : Nat → Int} {N : Nat} (hp : ∀ i : Nat, i < N → p i < i) {a : Nat} (ha : a < N) (b : Nat) : und p a a b = (a == b || (decide (0 ≤ p a) && und p (p a).toNat (p a).toNat b)) := by
  cases a with
  | zero =>
    have := hp 0 ha
    simp only [und]
    rw [decide_eq_false (by first | decide | omega)]
    simp
  | succ a =>
    have h := hp (a + 1) ha
    simp only [und]
    by_cases hq : 0 ≤ p (a + 1)
    · rw [und_fu hp a (p (a + 1)).toNat (p (a + 1)).toNat b (by first | decide | omega) (by first | decide | omega) (by first | decide | omega)]
    · rw [decide_eq_false hq]
      simp
theorem und_congr {p p' : Nat → Int} {N : Nat} (hp : ∀ i : Nat, i < N → p i < i) (he : ∀ i : Nat, i < N → p' i = p i) : ∀ (n a b : Nat), a < N → und p' n a b = und p n a b := by
  intro n
  induction n with
  | zero => intro a b h; rfl
  | succ n ih =>
    intro a b h
    have h1 := hp a h
    simp only [und]
    rw [he a h]
    by_cases hq : 0 ≤ p a
    · rw [ih (p a).toNat b (by first | decide | omega)]
    · rw [decide_eq_false hq]
      simp
/-- a is no further up than itself -/
theorem und_le {p : Nat → Int} {N : Nat} (hp : ∀ i : Nat, i < N → p i < i) : ∀ (n a b : Nat), a < N → und p n a b = true → b ≤ a := by
  intro n
  induction n with
  | zero => intro a b h hu; simp [und] at hu; omega
  | succ n ih =>
    intro a b h hu
    have h1 := hp a h
    simp only [und, Bool.or_eq_true, Bool.and_eq_true, decide_eq_true_eq, beq_iff_eq] at hu
    rcases hu with q | ⟨q1, q2⟩
    · omega
    · have := ih (p a).toNat b (by first | decide | omega) q2
      omega
theorem RP.up {h : Nat → Nat → Int} (H : RP h) : ∀ i : Nat, i < (h 72 4).toNat → h 74 i < i := fun i hi => (H.2.2.1 i (by have := H.1; omega)).2
section
variable {L : Nat} {xs : Nat → Int} {d : Nat} {S : AH}
theorem m_undL (hR : RP S.2) (b : Nat) : ∀ (n a : Nat), a ≤ n → (a : Int) < S.2 72 4 → LQ (WK L xs) (ev (WK L xs) d) 199 2 [some (vr 72), none, some (vi b), some (vi a)] [] S = some (bi (und (S.2 74) a a b = true), S) := by
  intro n
  induction n with
  | zero =>
    intro a h1 h2
    have e : a = 0 := by omega
    subst e
    have hp := hR.2.2.1 0 h2
    rw [q_199_2, if_neg (by first | decide | omega)]
    by_cases hb : b = 0
    · subst hb
      rw [if_pos rfl, if_pos rfl, bi_T (und_self _ _ _)]
    · rw [if_neg (by first | decide | omega), if_pos (by first | decide | omega)]
      have hq : S.2 74 (((0 : Nat) : Int).toNat) = -1 := by
        show S.2 74 0 = -1
        omega
      rw [hq, q_199_2, if_pos rfl, if_neg (by first | decide | omega), bi_F]
      rw [und_step hR.up (by first | decide | omega)]
      have hq : S.2 74 0 = -1 := hq
      rw [hq]
      simp
      omega
  | succ n ih =>
    intro a h1 h2
    have hp := hR.2.2.1 a h2
    have h40 := hR.1
    rw [q_199_2, if_neg (by first | decide | omega)]
    by_cases hb : b = a
    · subst hb
      rw [if_pos rfl, if_pos rfl, bi_T (und_self _ _ _)]
    · rw [if_neg (by first | decide | omega), if_pos (by first | decide | omega), Int.toNat_natCast]
      have us := und_step (p := S.2 74) hR.up (a := a) (by first | decide | omega) b
      by_cases hq : 0 ≤ S.2 74 a
      · have e1 : S.2 74 a = (((S.2 74 a).toNat : Nat) : Int) := by omega
        rw [e1, ih (S.2 74 a).toNat (by first | decide | omega) (by first | decide | omega)]
        congr 2
        apply bi_iff
        rw [us, decide_eq_true hq]
        simp
        omega
      · have e1 : S.2 74 a = -1 := by omega
        rw [e1, q_199_2, if_pos rfl, if_neg (by first | decide | omega), bi_F]
        rw [us, decide_eq_false hq]
        simp
        omega
/-- is a under b? -/
noncomputable def uN (h : Nat → Nat → Int) (a b : Int) : Bool := und (h 74) a.toNat a.toNat b.toNat
theorem m_isUnder (hR : RP S.2) (a b : Int) (ha : 0 ≤ a) (ha2 : a < S.2 72 4) (hb : 0 ≤ b) : ev (WK L xs) (d + 1) 199 [vr 72, vi a, vi b] S = some (bi (uN S.2 a b = true), S) := by
  rw [q_199]
  obtain ⟨m, rfl⟩ := Int.eq_ofNat_of_zero_le ha
  obtain ⟨k, rfl⟩ := Int.eq_ofNat_of_zero_le hb
  exact m_undL hR k m m (Nat.le_refl _) ha2
theorem x_isUnder (hP : GP S.2) (a b : Int) : ev (WK L xs) (d + 2) 127 [vr 17, vi a, vi b] S = some (bi ((0 ≤ a ∧ a < S.2 72 4) ∧ (0 ≤ b ∧ b < S.2 72 4) ∧ uN S.2 a b = true), S) := by
  obtain ⟨hR, e1, -, hA, -⟩ := hP
  have h40 := hR.1
  rw [q_127]
  simp only [x_isHead, bR, bi_0, e1]
  by_cases ha : 0 ≤ a ∧ a < S.2 72 4
  · rw [if_neg (fun q => q ha)]
    by_cases hb : 0 ≤ b ∧ b < S.2 72 4
    · rw [if_neg (fun q => q hb), if_pos (by first | decide | omega)]
      have hq := hA a.toNat (by first | decide | omega)
      rw [lbit _ _ hq.1 (by first | decide | omega) (by first | decide | omega) (by first | decide | omega), hq.2.2]
      simp only [lc_eq]
      rw [ite_bin]
      congr 2
      apply bi_iff
      unfold uN
      cases und (S.2 74) a.toNat a.toNat b.toNat
      · simp
      · simp [ha, hb]
    · rw [if_pos hb, bi_F (fun q => hb q.2.1)]
  · rw [if_pos ha, bi_F (fun q => ha q.1)]
theorem x_headsAbove (hP : GP S.2) (a : Int) : ev (WK L xs) (d + 2) 126 [vr 17, vi a] S = some (if 0 ≤ a ∧ a < S.2 72 4 then S.2 18 a.toNat else 0, S) := by
  obtain ⟨hR, e1, -⟩ := hP
  have h40 := hR.1
  rw [q_126]
  simp only [x_isHead, bR, bi_0, e1]
  by_cases ha : 0 ≤ a ∧ a < S.2 72 4
  · rw [if_neg (fun q => q ha), if_pos (by first | decide | omega), if_pos ha]
  · rw [if_pos ha, if_neg ha]
end
end
section
-- 19.ops1
/-! calls: now, head, under, hand, count -/
section
variable {L : Nat} {xs : Nat → Int} {d : Nat} {S : AH}
theorem Inv.gt (H : Inv S) : GT S.2 := H.2.1
theorem Inv.gc (H : Inv S) : GC S.2 := H.2.2.1
theorem Inv.gx (H : Inv S) : GX S.2 := H.2.2.2.1
theorem Inv.gb (H : Inv S) : GB S.2 := H.2.2.2.2.1
theorem Inv.gp (H : Inv S) : GP S.2 := H.2.2.2.2.2.1
theorem Inv.gl (H : Inv S) : GL S := H.2.2.2.2.2.2.1
theorem Inv.gv (H : Inv S) : GV S := H.2.2.2.2.2.2.2.1
theorem Inv.gk (H : Inv S) : GK S := H.2.2.2.2.2.2.2.2.1
theorem Inv.gu (H : Inv S) : GU S.2 := H.2.2.2.2.2.2.2.2.2.1
theorem Inv.gw (H : Inv S) : GW S.2 := H.2.2.2.2.2.2.2.2.2.2.1
theorem Inv.gn (H : Inv S) : GN S.2 := H.2.2.2.2.2.2.2.2.2.2.2
theorem Ok.same {mx mm : Nat} {as : List TV} {r : Int} (H : Inv S) (h1 : ev (WK L xs) 200 mx (vr 15 :: as) S = some (r, S)) (h2 : ev (WK L xs) 200 mm (vr 72 :: as) S = some (r, S)) : Ok L xs mx mm as S := ⟨r, S, S, h1, h2, H, Gw.rf⟩
theorem some_ite {P : Prop} [Decidable P] {a b : Rs} (h1 : ∃ r, a = some (r, S)) (h2 : ∃ r, b = some (r, S)) : ∃ r, (if P then a else b) = some (r, S) := by
  by_cases h : P
  · rw [if_pos h]; exact h1
  · rw [if_neg h]; exact h2
theorem o_now (H : Inv S) (p : Int) : Ok L xs 2 194 [vi p] S := by
  obtain ⟨t1, t2, t3⟩ := H.gt
  by_cases hc : S.2 72 2 ≤ p ∧ p ≤ 3599
  · refine ⟨1, wr S 15 0 p, wr (wr S 15 0 p) 72 2 p, ?_, ?_, ?_, Gw.of rfl⟩
    · rw [q_2, x_isDay]
      simp only [bR, bi_0]
      rw [if_neg (by first | decide | omega), if_neg (by first | decide | omega)]
    · rw [q_194, m_lies]
      simp only [bR, bi_0]
      rw [if_neg]
      simp [wr_c]
      omega
    · refine Inv.upd H ?_ (fun a ha => ?_) (fun k hk => ?_) ?_ ?_ ?_ ?_ ?_ ?_ ?_ ?_ ?_
      · repeat' first | refine Fr.tr ?_ (Fr.wr (by decide)) | exact Fr.rf
      · unfold lvk at ha
        repeat rw [wr_c (by first | decide | omega)]
      · unfold lvf at hk
        rcases hk with rfl | rfl | rfl | rfl | rfl | rfl <;> simp [wr_c, wr_f]
      · simp [HM, wr_c, wr_f]
      · simp [GT, wr_c, wr_f]
        omega
      · exact H.gc.fr (by simp [wr_c, wr_f]) (by simp [wr_c, wr_f])
      · exact H.gx.fr (by simp [wr_c, wr_f]) (by simp [wr_c, wr_f])
      · exact H.gb.fr (by simp [wr_c, wr_f]) (by simp [wr_c, wr_f]) (by simp [wr_c, wr_f]) (by simp [wr_c, wr_f])
      · exact H.gp.fr (by simp [wr_c, wr_f]) (by simp [wr_c, wr_f]) (fun a ha => by repeat rw [wr_c (by first | decide | omega)])
      · exact H.gu.fr (by simp [wr_c, wr_f]) (by simp [wr_c, wr_f]) (by simp [wr_c, wr_f]) (fun a ha => by repeat rw [wr_c (by first | decide | omega)])
      · exact H.gw.fr (by simp [wr_c, wr_f]) (by simp [wr_c, wr_f]) (by simp [wr_c, wr_f]) (by simp [wr_c, wr_f]) (fun a ha => by repeat rw [wr_c (by first | decide | omega)])
      · exact H.gn.fr (by simp [wr_c, wr_f]) (by simp [wr_c, wr_f]) (by simp [wr_c, wr_f]) (by simp [wr_c, wr_f]) (by simp [wr_c, wr_f]) (by simp [wr_c, wr_f]) (fun a ha => by repeat rw [wr_c (by first | decide | omega)])
  · refine Ok.same (r := 0) H ?_ ?_
    · rw [q_2, x_isDay]
      simp only [bR, bi_0]
      by_cases h2 : ¬ (0 ≤ p ∧ p < 3600)
      · rw [if_pos h2]
      · rw [if_neg h2, if_pos (by first | decide | omega)]
    · rw [q_194, m_lies]
      simp only [bR, bi_0]
      rw [if_pos hc]
theorem o_under (H : Inv S) (a b : Int) : Ok L xs 5 198 [vi a, vi b] S := by
  have hP := H.gp
  have hR := hP.1
  have e1 := hP.2.1
  by_cases ha : 0 ≤ a ∧ a < S.2 72 4
  · by_cases hb : 0 ≤ b ∧ b < S.2 72 4
    · refine Ok.same (r := bi (uN S.2 a b = true)) H ?_ ?_
      · rw [q_5]
        simp only [x_isHead, x_isUnder hP, bR, bi_0, e1]
        rw [if_neg (fun q => q ha), if_neg (fun q => q hb), ite_bin]
        congr 2
        apply bi_iff
        simp [ha, hb]
      · rw [q_198]
        simp only [m_isHead hR, m_isUnder hR a b ha.1 ha.2 hb.1, bR, bi_0]
        rw [if_neg (fun q => q ha), if_neg (fun q => q hb), ite_bin]
        congr 2
        apply bi_iff
        simp
    · refine Ok.same (r := -1) H ?_ ?_
      · rw [q_5]
        simp only [x_isHead, bR, bi_0, e1]
        rw [if_neg (fun q => q ha), if_pos hb]
      · rw [q_198]
        simp only [m_isHead hR, bR, bi_0]
        rw [if_neg (fun q => q ha), if_pos hb]
  · refine Ok.same (r := -1) H ?_ ?_
    · rw [q_5]
      simp only [x_isHead, bR, bi_0, e1]
      rw [if_pos ha]
    · rw [q_198]
      simp only [m_isHead hR, bR, bi_0]
      rw [if_pos ha]
theorem o_count (H : Inv S) (p : Int) : Ok L xs 68 318 [vi p] S := by
  have e0 := H.gt.1
  have e1 := H.gp.2.1
  have e2 := H.gp.2.2.1
  have e3 := H.gl.1
  have e4 := H.gv.2.1
  have e5 := H.gv.2.2.1
  have e6 := H.gk.2.1
  have e7 := H.gk.2.2.1
  have e8 := H.gu.2.1
  have e9 := H.gw.2.2.2.2.1
  have e10 := H.gn.2.1
  have e11 := H.gn.2.2.2.2.1
  have e12 := H.gb.1
  have e13 := H.gx.1
  have key : ev (WK L xs) 200 68 [vr 15, vi p] S = ev (WK L xs) 200 318 [vr 72, vi p] S := by
    rw [q_68, q_318, e0, e1, e2, e3, e4, e5, e6, e7, e8, e9, e10, e11, e12, e13]
  have h : ∃ r, ev (WK L xs) 200 318 [vr 72, vi p] S = some (r, S) := by
    rw [q_318]
    repeat' first
      | exact ⟨_, rfl⟩
      | refine some_ite ?_ ?_
  obtain ⟨r, h⟩ := h
  exact Ok.same H (key.trans h) h
end
end
section
-- 20.ops2
/-! calls: head, hand -/
theorem deq (n b : Nat) : decide (n = b) = (n == b) := by
  by_cases h : n = b <;> simp [h]
section
variable {L : Nat} {xs : Nat → Int} {d : Nat} {S : AH}
theorem o_head (H : Inv S) (p : Int) : Ok L xs 4 196 [vi p] S := by
  have hP := H.gp
  obtain ⟨hR, e1, e2, hA, hB, hC⟩ := H.gp
  obtain ⟨⟨r1, r2⟩, ⟨r3, r4⟩, r5, r6⟩ := hR
  by_cases hc : S.2 72 4 < 40 ∧ (p = -1 ∨ (0 ≤ p ∧ p < S.2 72 4))
  · obtain ⟨n, hn⟩ := Int.eq_ofNat_of_zero_le r1
    have hx : ev (WK L xs) 199 124 [vr 17, vi p] S = some (S.2 72 4, wr (wr S 18 n (lor (if 0 ≤ p ∧ p < S.2 72 4 then S.2 18 p.toNat else 0) (lshl 1 (S.2 72 4)))) 17 1 (S.2 72 4 + 1)) := by
      have hl : LQ (WK L xs) (ev (WK L xs) 198) 124 27 [some (vr 17), some (vi p)] [] S = some (S.2 72 4, wr (wr S 18 n (lor (if 0 ≤ p ∧ p < S.2 72 4 then S.2 18 p.toNat else 0) (lshl 1 (S.2 72 4)))) 17 1 (S.2 72 4 + 1)) := by
        rw [q_124_27, x_headsAbove hP]
        simp only [bR, e1]
        rw [if_pos (by first | decide | omega), wi (by first | decide | omega) (by first | decide | omega), w32e (by first | decide | omega) (by first | decide | omega), hn]
        rfl
      rw [q_124, e1, if_pos (by first | decide | omega)]
      by_cases hp : p = -1
      · rw [if_pos hp]
        exact hl
      · rw [if_neg hp, x_isHead]
        simp only [bR, bi_0, e1]
        rw [if_neg (by first | decide | omega)]
        exact hl
    generalize hS1 : wr (wr S 18 n (lor (if 0 ≤ p ∧ p < S.2 72 4 then S.2 18 p.toNat else 0) (lshl 1 (S.2 72 4)))) 17 1 (S.2 72 4 + 1) = S1 at hx
    have hRP1 : RP S1.2 := by
      rw [← hS1]
      simpa [RP, wr_c, wr_f] using H.gp.1
    have k1 : S1.2 72 4 = S.2 72 4 := by rw [← hS1]; simp [wr_c]
    refine ⟨S.2 72 4, S1, wr (wr S1 74 n p) 72 4 (S.2 72 4 + 1), ?_, ?_, ?_, Gw.of (by rw [← hS1]; rfl)⟩
    · rw [q_4, hx]
      rfl
    · have hl : LQ (WK L xs) (ev (WK L xs) 199) 196 24 [some (vr 72), some (vi p)] [] S1 = some (S.2 72 4, wr (wr S1 74 n p) 72 4 (S.2 72 4 + 1)) := by
        rw [q_196_24, k1, if_pos (by first | decide | omega), wi (by first | decide | omega) (by first | decide | omega), w32e (by first | decide | omega) (by first | decide | omega), hn]
        rfl
      rw [q_196, k1, if_neg (by first | decide | omega)]
      by_cases hp : p = -1
      · rw [if_pos hp]
        exact hl
      · rw [if_neg hp, m_isHead hRP1]
        simp only [bR, bi_0, k1]
        rw [if_neg (by first | decide | omega)]
        exact hl
    · subst hS1
      have hup := H.gp.1.up
      rw [hn] at hup
      rw [Int.toNat_natCast] at hup
      have hap : ∃ A : Nat, (if 0 ≤ p ∧ p < S.2 72 4 then S.2 18 p.toNat else 0) = (A : Int) ∧ A < 1099511627776 ∧ ∀ b : Nat, A.testBit b = (decide (0 ≤ p) && und (S.2 74) p.toNat p.toNat b) := by
        by_cases hp : 0 ≤ p ∧ p < S.2 72 4
        · obtain ⟨q1, q2, q3⟩ := hA p.toNat (by first | decide | omega)
          refine ⟨(S.2 18 p.toNat).toNat, by rw [if_pos hp]; omega, by omega, fun b => ?_⟩
          rw [q3, decide_eq_true hp.1]
          simp
        · refine ⟨0, by rw [if_neg hp]; rfl, by decide, fun b => ?_⟩
          rw [decide_eq_false (by first | decide | omega)]
          simp
      obtain ⟨A, hA1, hA2, hA3⟩ := hap
      have hval : lor (if 0 ≤ p ∧ p < S.2 72 4 then S.2 18 p.toNat else 0) (lshl 1 (S.2 72 4)) = ((A ||| 2 ^ n : Nat) : Int) := by
        have hp2 : 2 ^ n < 1099511627776 := Nat.pow_lt_pow_right (n := 40) (by decide) (by first | decide | omega)
        rw [hA1, hn, lshl_n n (by first | decide | omega), lor_n A (2 ^ n) (by first | decide | omega) (by first | decide | omega)]
      rw [hval]
      refine Inv.upd H ?_ (fun a ha => ?_) (fun k hk => ?_) ?_ ?_ ?_ ?_ ?_ ?_ ?_ ?_ ?_
      · repeat' first | refine Fr.tr ?_ (Fr.wr (by decide)) | exact Fr.rf
      · unfold lvk at ha
        repeat rw [wr_c (by first | decide | omega)]
      · unfold lvf at hk
        rcases hk with rfl | rfl | rfl | rfl | rfl | rfl <;> simp [wr_c, wr_f]
      · simp [HM, wr_c, wr_f]
        omega
      · exact H.gt.fr (by simp [wr_c, wr_f]) (by simp [wr_c, wr_f])
      · exact H.gc.fr (by simp [wr_c, wr_f]) (by simp [wr_c, wr_f])
      · exact H.gx.fr (by simp [wr_c, wr_f]) (by simp [wr_c, wr_f])
      · exact H.gb.fr (by simp [wr_c, wr_f]) (by simp [wr_c, wr_f]) (by simp [wr_c, wr_f]) (by simp [wr_c, wr_f])
      · have hgr : ∀ i : Nat, i < n + 1 → (if i = n then p else S.2 74 i) < i := by
          intro i hi
          split
          · omega
          · exact hup i (by first | decide | omega)
        have hu1 : ∀ (i b : Nat), i < n → und (fun j => if j = n then p else S.2 74 j) i i b = und (S.2 74) i i b := fun i b hi => und_congr hup (fun j hj => if_neg (by first | decide | omega)) i i b hi
        have hfun : (wr (wr (wr (wr S 18 n ((A ||| 2 ^ n : Nat) : Int)) 17 1 (S.2 72 4 + 1)) 74 n p) 72 4 (S.2 72 4 + 1)).2 74 = fun j => if j = n then p else S.2 74 j := by
          funext j
          simp [wr_c, wr_f]
        unfold GP RP
        rw [hfun]
        simp [wr_c, wr_f]
        refine ⟨⟨by omega, by omega, fun i hi => ?_, fun i hi => ?_⟩, e2, fun i hi => ?_, fun i hi => hB i hi, fun i hi => hC i hi⟩
        · by_cases e : i = n
          · simp [e]; omega
          · simp [e]; exact r5 i (by first | decide | omega)
        · have := r6 i hi
          omega
        · by_cases e : i = n
          · simp only [e, if_true]
            have hp2 : 2 ^ n < 2 ^ 40 := Nat.pow_lt_pow_right (by decide) (by first | decide | omega)
            have hor : A ||| 2 ^ n < 2 ^ 40 := Nat.or_lt_two_pow (by first | decide | omega) hp2
            refine ⟨by omega, by omega, fun b => ?_⟩
            rw [Int.toNat_natCast, Nat.testBit_or, Nat.testBit_two_pow, hA3 b, und_step hgr (by first | decide | omega)]
            simp only [if_true]
            by_cases hp0 : 0 ≤ p
            · rw [hu1 p.toNat b (by first | decide | omega), decide_eq_true hp0]
              simp only [Bool.true_and, deq, Bool.or_comm]
            · rw [decide_eq_false hp0]
              simp only [Bool.false_and, Bool.false_or, Bool.or_false, deq]
          · simp only [e, if_false]
            obtain ⟨q1, q2, q3⟩ := hA i (by first | decide | omega)
            refine ⟨q1, q2, fun b => ?_⟩
            rw [q3, hu1 i b (by first | decide | omega)]
      · exact H.gu.fr (by simp [wr_c, wr_f]) (by simp [wr_c, wr_f]) (by simp [wr_c, wr_f]) (fun a ha => by repeat rw [wr_c (by first | decide | omega)])
      · exact H.gw.fr (by simp [wr_c, wr_f]) (by simp [wr_c, wr_f]) (by simp [wr_c, wr_f]) (by simp [wr_c, wr_f]) (fun a ha => by repeat rw [wr_c (by first | decide | omega)])
      · exact H.gn.fr (by simp [wr_c, wr_f]) (by simp [wr_c, wr_f]) (by simp [wr_c, wr_f]) (by simp [wr_c, wr_f]) (by simp [wr_c, wr_f]) (by simp [wr_c, wr_f]) (fun a ha => by repeat rw [wr_c (by first | decide | omega)])
  · refine Ok.same (r := -1) H ?_ ?_
    · rw [q_4, q_124, e1]
      by_cases h4 : S.2 72 4 < 40
      · rw [if_pos h4, if_neg (by first | decide | omega), x_isHead]
        simp only [bR, bi_0, e1]
        rw [if_pos (by first | decide | omega)]
        rfl
      · rw [if_neg h4]
        rfl
    · rw [q_196]
      by_cases h4 : S.2 72 4 < 40
      · rw [if_neg (by first | decide | omega), if_neg (by first | decide | omega), m_isHead H.gp.1]
        simp only [bR, bi_0]
        rw [if_pos (by first | decide | omega)]
      · rw [if_pos (by first | decide | omega)]
theorem o_hand (H : Inv S) (p q : Int) : Ok L xs 6 200 [vi p, vi q] S := by
  obtain ⟨hR, e1, e2, hA, hB, hC⟩ := H.gp
  obtain ⟨⟨r1, r2⟩, ⟨r3, r4⟩, r5, r6⟩ := hR
  by_cases hc : S.2 72 5 < 16 ∧ (0 ≤ p ∧ p < S.2 72 4) ∧ (1 ≤ q ∧ q ≤ 9)
  · obtain ⟨n, hn⟩ := Int.eq_ofNat_of_zero_le r3
    have hx : ev (WK L xs) 199 128 [vr 17, vi p, vi q] S = some (S.2 72 5, wr (wr (wr S 19 n p) 20 n q) 17 5 (S.2 72 5 + 1)) := by
      rw [q_128, x_isHead]
      simp only [bR, bi_0, e1, e2]
      rw [if_neg (by first | decide | omega), if_neg (by first | decide | omega), if_neg (by first | decide | omega), if_pos (by first | decide | omega), if_pos (by first | decide | omega), if_pos (by first | decide | omega), wi (by first | decide | omega) (by first | decide | omega), w32e (by first | decide | omega) (by first | decide | omega), hn]
      rfl
    generalize hS1 : wr (wr (wr S 19 n p) 20 n q) 17 5 (S.2 72 5 + 1) = S1 at hx
    have hRP1 : RP S1.2 := by
      rw [← hS1]
      simpa [RP, wr_c, wr_f] using H.gp.1
    have k1 : S1.2 72 4 = S.2 72 4 := by rw [← hS1]; simp [wr_c]
    have k2 : S1.2 72 5 = S.2 72 5 := by rw [← hS1]; simp [wr_c]
    refine ⟨S.2 72 5, S1, wr (wr (wr S1 75 n p) 76 n q) 72 5 (S.2 72 5 + 1), ?_, ?_, ?_, Gw.of (by rw [← hS1]; rfl)⟩
    · rw [q_6, hx]
      rfl
    · rw [q_200, k2, if_neg (by first | decide | omega), m_isHead hRP1]
      simp only [bR, bi_0, k1, m_lies]
      rw [if_neg (by first | decide | omega), if_neg (by first | decide | omega), k2, if_pos (by first | decide | omega), if_pos (by first | decide | omega), wi (by first | decide | omega) (by first | decide | omega), w32e (by first | decide | omega) (by first | decide | omega), hn]
      rfl
    · subst hS1
      refine Inv.upd H ?_ (fun a ha => ?_) (fun k hk => ?_) ?_ ?_ ?_ ?_ ?_ ?_ ?_ ?_ ?_
      · repeat' first | refine Fr.tr ?_ (Fr.wr (by decide)) | exact Fr.rf
      · unfold lvk at ha
        repeat rw [wr_c (by first | decide | omega)]
      · unfold lvf at hk
        rcases hk with rfl | rfl | rfl | rfl | rfl | rfl <;> simp [wr_c, wr_f]
      · simp [HM, wr_c, wr_f]
        omega
      · exact H.gt.fr (by simp [wr_c, wr_f]) (by simp [wr_c, wr_f])
      · exact H.gc.fr (by simp [wr_c, wr_f]) (by simp [wr_c, wr_f])
      · exact H.gx.fr (by simp [wr_c, wr_f]) (by simp [wr_c, wr_f])
      · exact H.gb.fr (by simp [wr_c, wr_f]) (by simp [wr_c, wr_f]) (by simp [wr_c, wr_f]) (by simp [wr_c, wr_f])
      · unfold GP RP
        simp [wr_c, wr_f]
        refine ⟨⟨⟨r1, r2⟩, by omega, r5, fun i hi => ?_⟩, e1, hA, fun i hi => ?_, hC⟩
        · by_cases e : i = n
          · simp [e]; omega
          · simp [e]; exact r6 i (by first | decide | omega)
        · by_cases e : i = n
          · simp [e]
          · simp [e]; exact hB i (by first | decide | omega)
      · exact H.gu.fr (by simp [wr_c, wr_f]) (by simp [wr_c, wr_f]) (by simp [wr_c, wr_f]) (fun a ha => by repeat rw [wr_c (by first | decide | omega)])
      · exact H.gw.fr (by simp [wr_c, wr_f]) (by simp [wr_c, wr_f]) (by simp [wr_c, wr_f]) (by simp [wr_c, wr_f]) (fun a ha => by repeat rw [wr_c (by first | decide | omega)])
      · exact H.gn.fr (by simp [wr_c, wr_f]) (by simp [wr_c, wr_f]) (by simp [wr_c, wr_f]) (by simp [wr_c, wr_f]) (by simp [wr_c, wr_f]) (by simp [wr_c, wr_f]) (fun a ha => by repeat rw [wr_c (by first | decide | omega)])
  · refine Ok.same (r := -1) H ?_ ?_
    · rw [q_6, q_128, x_isHead]
      simp only [bR, bi_0, e1, e2]
      by_cases h1 : 0 ≤ p ∧ p < S.2 72 4
      · rw [if_neg (fun z => z h1)]
        by_cases h2 : q < 1
        · rw [if_pos h2]; rfl
        · rw [if_neg h2]
          by_cases h3 : 9 < q
          · rw [if_pos h3]; rfl
          · rw [if_neg h3, if_neg (by first | decide | omega)]; rfl
      · rw [if_pos h1]; rfl
    · rw [q_200]
      by_cases h4 : S.2 72 5 = 16
      · rw [if_pos h4]
      · rw [if_neg h4, m_isHead H.gp.1]
        simp only [bR, bi_0, m_lies]
        by_cases h1 : 0 ≤ p ∧ p < S.2 72 4
        · rw [if_neg (fun z => z h1), if_pos (by first | decide | omega)]
        · rw [if_pos h1]
end
end
section
-- 21.feed
/-! feed -/
noncomputable def bts (p : Int) (i : Nat) : Int := w8 (w8 (ishr p (24 - 8 * i)))
noncomputable def pt (S : AH) (A l1 l2 m : Nat) (b : Int) : AH := wr (wr S A m b) l1 l2 (m + 1)
noncomputable def ap (f : Nat → Int) (n : Nat) (p : Int) : Nat → Int := fun k => if n ≤ k ∧ k < n + 4 then bts p (k - n) else f k
/-- one int behind the tape's end -/
noncomputable def Tw (S S' : AH) (A l1 l2 n : Nat) (p : Int) : Prop := S'.1 = S.1 ∧ S'.2 l1 l2 = n + 4 ∧ S'.2 A = ap (S.2 A) n p ∧ ∀ a k, a ≠ A → ¬ (a = l1 ∧ k = l2) → S'.2 a k = S.2 a k
theorem Tw.of {S : AH} {A l1 l2 n : Nat} (h : A ≠ l1) (p : Int) : Tw S (pt (pt (pt (pt S A l1 l2 n (bts p 0)) A l1 l2 (n + 1) (bts p 1)) A l1 l2 (n + 2) (bts p 2)) A l1 l2 (n + 3) (bts p 3)) A l1 l2 n p := by
  refine ⟨rfl, ?_, ?_, fun a k h1 h2 => ?_⟩
  · unfold pt
    rw [wr_f, if_pos rfl]
    omega
  · funext k
    unfold pt
    simp only [wr_c h, wr_f, ap]
    by_cases e0 : k = n + 3
    · subst e0
      rw [if_pos rfl, if_pos (by first | decide | omega), show n + 3 - n = 3 by omega]
    · rw [if_neg e0]
      by_cases e1 : k = n + 2
      · subst e1
        rw [if_pos rfl, if_pos (by first | decide | omega), show n + 2 - n = 2 by omega]
      · rw [if_neg e1]
        by_cases e2 : k = n + 1
        · subst e2
          rw [if_pos rfl, if_pos (by first | decide | omega), show n + 1 - n = 1 by omega]
        · rw [if_neg e2]
          by_cases e3 : k = n
          · subst e3
            rw [if_pos rfl, if_pos (by first | decide | omega), show k - k = 0 by omega]
          · rw [if_neg e3, if_neg (by first | decide | omega)]
  · unfold pt
    simp only [wr_2]
    simp only [h1, h2, false_and, if_false]
section
variable {L : Nat} {xs : Nat → Int} {d : Nat} {S : AH}
theorem x_fd1 {p x : Int} {m : Nat} (h : S.2 15 4 = m) (hm : m < 400) (hx : 0 ≤ x) (hx2 : x ≤ 3) : LQ (WK L xs) (ev (WK L xs) d) 8 2 [some (vr 15), some (vi p), some (vi x)] [] S = LQ (WK L xs) (ev (WK L xs) d) 8 2 [some (vr 15), some (vi p), some (vi (x - 1))] [] (pt S 16 15 4 m (w8 (w8 (ishr p (8 * x))))) := by
  rw [q_8_2, h, if_neg (by first | decide | omega), if_pos (by first | decide | omega), if_pos (by first | decide | omega), w32e (x := x + -1) (by first | decide | omega) (by first | decide | omega), w32e (x := 8 * x) (by first | decide | omega) (by first | decide | omega), w32e (x := (m : Int) + 1) (by first | decide | omega) (by first | decide | omega), Int.toNat_natCast]
  rfl
theorem pt_sz {A l1 l2 m : Nat} {b : Int} : (pt S A l1 l2 m b).2 l1 l2 = ((m + 1 : Nat) : Int) := by
  unfold pt
  rw [wr_f, if_pos rfl]
  omega
theorem x_feedInt (p : Int) {n : Nat} (h : S.2 15 4 = n) (hn : n ≤ 396) : ∃ S', ev (WK L xs) (d + 1) 8 [vr 15, vi p] S = some (0, S') ∧ Tw S S' 16 15 4 n p := by
  refine ⟨_, ?_, Tw.of (by decide) p⟩
  rw [q_8, x_fd1 h (by first | decide | omega) (by first | decide | omega) (by first | decide | omega), x_fd1 pt_sz (by first | decide | omega) (by first | decide | omega) (by first | decide | omega), x_fd1 pt_sz (by first | decide | omega) (by first | decide | omega) (by first | decide | omega), x_fd1 pt_sz (by first | decide | omega) (by first | decide | omega) (by first | decide | omega), q_8_2, if_pos (by first | decide | omega)]
  rfl
theorem m_fd1 {p x : Int} {m : Nat} (h : S.2 72 1 = m) (hm : m < 400) (hx : 0 ≤ x) (hx2 : x ≤ 24) : LQ (WK L xs) (ev (WK L xs) d) 202 3 [some (vr 72), some (vi p), some (vi x)] [] S = LQ (WK L xs) (ev (WK L xs) d) 202 3 [some (vr 72), some (vi p), some (vi (x - 8))] [] (pt S 73 72 1 m (w8 (w8 (ishr p x)))) := by
  rw [q_202_3, h, if_neg (by first | decide | omega), if_pos (by first | decide | omega), w32e (x := x + -8) (by first | decide | omega) (by first | decide | omega), w32e (x := (m : Int) + 1) (by first | decide | omega) (by first | decide | omega), Int.toNat_natCast]
  rfl
theorem m_push (p : Int) {n : Nat} (h : S.2 72 1 = n) (hn : n ≤ 396) : ∃ S', ev (WK L xs) (d + 1) 202 [vr 72, vi p] S = some (0, S') ∧ Tw S S' 73 72 1 n p := by
  refine ⟨_, ?_, Tw.of (by decide) p⟩
  rw [q_202, m_fd1 h (by first | decide | omega) (by first | decide | omega) (by first | decide | omega), m_fd1 pt_sz (by first | decide | omega) (by first | decide | omega) (by first | decide | omega), m_fd1 pt_sz (by first | decide | omega) (by first | decide | omega) (by first | decide | omega), m_fd1 pt_sz (by first | decide | omega) (by first | decide | omega) (by first | decide | omega), q_202_3, if_pos (by first | decide | omega)]
  rfl
noncomputable def ap5 (f : Nat → Int) (n : Nat) (a b c e g : Int) : Nat → Int := ap (ap (ap (ap (ap f n a) (n + 4) b) (n + 8) c) (n + 12) e) (n + 16) g
noncomputable def Tw5 (S S' : AH) (A l1 l2 n : Nat) (a b c e g : Int) : Prop := S'.1 = S.1 ∧ S'.2 l1 l2 = n + 20 ∧ S'.2 A = ap5 (S.2 A) n a b c e g ∧ ∀ a k, a ≠ A → ¬ (a = l1 ∧ k = l2) → S'.2 a k = S.2 a k
theorem Tw5.of {S0 S1 S2 S3 S4 S5 : AH} {A l1 l2 n : Nat} {a b c e g : Int} (h1 : Tw S0 S1 A l1 l2 n a) (h2 : Tw S1 S2 A l1 l2 (n + 4) b) (h3 : Tw S2 S3 A l1 l2 (n + 8) c) (h4 : Tw S3 S4 A l1 l2 (n + 12) e) (h5 : Tw S4 S5 A l1 l2 (n + 16) g) : Tw5 S0 S5 A l1 l2 n a b c e g := by
  refine ⟨by rw [h5.1, h4.1, h3.1, h2.1, h1.1], by rw [h5.2.1]; omega, by rw [h5.2.2.1, h4.2.2.1, h3.2.2.1, h2.2.2.1, h1.2.2.1]; rfl, fun x k q1 q2 => ?_⟩
  rw [h5.2.2.2 x k q1 q2, h4.2.2.2 x k q1 q2, h3.2.2.2 x k q1 q2, h2.2.2.2 x k q1 q2, h1.2.2.2 x k q1 q2]
theorem x_feed {n : Nat} (a b c e g : Int) (h : S.2 15 4 = n) (hn : n ≤ 380) : ∃ S', ev (WK L xs) (d + 2) 7 [vr 15, vi a, vi b, vi c, vi e, vi g] S = some ((n : Int) + 20, S') ∧ Tw5 S S' 16 15 4 n a b c e g := by
  obtain ⟨S1, e1, f1⟩ := x_feedInt (L := L) (xs := xs) (d := d) a h (by first | decide | omega)
  obtain ⟨S2, e2, f2⟩ := x_feedInt (L := L) (xs := xs) (d := d) (n := n + 4) b f1.2.1 (by first | decide | omega)
  obtain ⟨S3, e3, f3⟩ := x_feedInt (L := L) (xs := xs) (d := d) (n := n + 8) c (by rw [f2.2.1]; omega) (by first | decide | omega)
  obtain ⟨S4, e4, f4⟩ := x_feedInt (L := L) (xs := xs) (d := d) (n := n + 12) e (by rw [f3.2.1]; omega) (by first | decide | omega)
  obtain ⟨S5, e5, f5⟩ := x_feedInt (L := L) (xs := xs) (d := d) (n := n + 16) g (by rw [f4.2.1]; omega) (by first | decide | omega)
  have F := Tw5.of f1 f2 f3 f4 f5
  refine ⟨S5, ?_, F⟩
  rw [q_7, h, w32e (by first | decide | omega) (by first | decide | omega), if_neg (by first | decide | omega), e1]
  simp only [bR, e2, e3, e4, e5, F.2.1]
theorem m_feed {n : Nat} (a b c e g : Int) (h : S.2 72 1 = n) (hn : n ≤ 380) : ∃ S', ev (WK L xs) (d + 2) 201 [vr 72, vi a, vi b, vi c, vi e, vi g] S = some ((n : Int) + 20, S') ∧ Tw5 S S' 73 72 1 n a b c e g := by
  obtain ⟨S1, e1, f1⟩ := m_push (L := L) (xs := xs) (d := d) a h (by first | decide | omega)
  obtain ⟨S2, e2, f2⟩ := m_push (L := L) (xs := xs) (d := d) (n := n + 4) b f1.2.1 (by first | decide | omega)
  obtain ⟨S3, e3, f3⟩ := m_push (L := L) (xs := xs) (d := d) (n := n + 8) c (by rw [f2.2.1]; omega) (by first | decide | omega)
  obtain ⟨S4, e4, f4⟩ := m_push (L := L) (xs := xs) (d := d) (n := n + 12) e (by rw [f3.2.1]; omega) (by first | decide | omega)
  obtain ⟨S5, e5, f5⟩ := m_push (L := L) (xs := xs) (d := d) (n := n + 16) g (by rw [f4.2.1]; omega) (by first | decide | omega)
  have F := Tw5.of f1 f2 f3 f4 f5
  refine ⟨S5, ?_, F⟩
  rw [q_201, h, w32e (by first | decide | omega) (by first | decide | omega), if_neg (by first | decide | omega), e1]
  simp only [bR, e2, e3, e4, e5, F.2.1]
theorem ap_eq {f g : Nat → Int} {N : Nat} (h : ∀ k, k < N → f k = g k) (n : Nat) (p : Int) : ∀ k, k < N → ap f n p k = ap g n p k := by
  intro k hk
  unfold ap
  split
  · rfl
  · exact h k hk
theorem o_feed (H : Inv S) (a b c e g : Int) : Ok L xs 7 201 [vi a, vi b, vi c, vi e, vi g] S := by
  obtain ⟨b1, b2, b3, b4⟩ := H.gb
  obtain ⟨n, hn⟩ := Int.eq_ofNat_of_zero_le b2
  by_cases hc : n ≤ 380
  · obtain ⟨S1, x1, F1⟩ := x_feed (L := L) (xs := xs) (d := 198) (n := n) a b c e g (by rw [b1, hn]) hc
    have k1 : S1.2 72 1 = n := by rw [F1.2.2.2 _ _ (by decide) (by decide), hn]
    obtain ⟨S2, m1, F2⟩ := m_feed (L := L) (xs := xs) (d := 198) a b c e g k1 hc
    have hoth : ∀ a k, a ≠ 16 → a ≠ 73 → ¬ (a = 15 ∧ k = 4) → ¬ (a = 72 ∧ k = 1) → S2.2 a k = S.2 a k := fun a k q1 q2 q3 q4 => by rw [F2.2.2.2 a k q2 q4, F1.2.2.2 a k q1 q3]
    have hc' : ∀ a, a ≠ 15 → a ≠ 16 → a ≠ 72 → a ≠ 73 → S2.2 a = S.2 a := fun a q1 q2 q3 q4 => by
      funext k
      exact hoth a k q2 q4 (fun z => q1 z.1) (fun z => q3 z.1)
    have e15 : ∀ k, k ≠ 4 → S2.2 15 k = S.2 15 k := fun k hk => hoth 15 k (by decide) (by decide) (fun z => hk z.2) (by first | decide | omega)
    have e72 : ∀ k, k ≠ 1 → S2.2 72 k = S.2 72 k := fun k hk => hoth 72 k (by decide) (by decide) (by first | decide | omega) (fun z => hk z.2)
    refine ⟨(n : Int) + 20, S1, S2, x1, m1, ?_, Gw.of (by rw [F2.1, F1.1])⟩
    have hF : Fr S S2 := ⟨by rw [F2.1, F1.1]; exact Nat.le_refl _, fun q h1 h2 => ⟨by rw [F2.1, F1.1], hc' q (by first | decide | omega) (by first | decide | omega) (by first | decide | omega) (by first | decide | omega)⟩⟩
    refine H.upd hF (fun q hq => hc' q (by unfold lvk at hq; omega) (by unfold lvk at hq; omega) (by unfold lvk at hq; omega) (by unfold lvk at hq; omega)) (fun k hk => e72 k (by unfold lvf at hk; omega)) ⟨Int.le_of_eq (e72 4 (by decide)).symm, Int.le_of_eq (e72 5 (by decide)).symm⟩ (H.gt.fr (e15 0 (by decide)) (e72 2 (by decide))) (H.gc.fr (e15 1 (by decide)) (e72 3 (by decide))) (H.gx.fr (e15 2 (by decide)) (e72 106 (by decide))) ?_
      (H.gp.fr (e72 4 (by decide)) (e72 5 (by decide)) (fun a ha => hc' a (by first | decide | omega) (by first | decide | omega) (by first | decide | omega) (by first | decide | omega))) (H.gu.fr (e72 79 (by decide)) (by rw [hc' 50 (by decide) (by decide) (by decide) (by decide)]) (by rw [hc' 50 (by decide) (by decide) (by decide) (by decide)]) (fun a ha => hc' a (by first | decide | omega) (by first | decide | omega) (by first | decide | omega) (by first | decide | omega)))
      (H.gw.fr (e72 85 (by decide)) (e72 87 (by decide)) (by rw [hc' 54 (by decide) (by decide) (by decide) (by decide)]) (by rw [hc' 54 (by decide) (by decide) (by decide) (by decide)]) (fun a ha => hc' a (by first | decide | omega) (by first | decide | omega) (by first | decide | omega) (by first | decide | omega)))
      (H.gn.fr (e72 92 (by decide)) (e72 93 (by decide)) (e72 86 (by decide)) (by rw [hc' 63 (by decide) (by decide) (by decide) (by decide)]) (by rw [hc' 63 (by decide) (by decide) (by decide) (by decide)]) (by rw [hc' 63 (by decide) (by decide) (by decide) (by decide)]) (fun a ha => hc' a (by first | decide | omega) (by first | decide | omega) (by first | decide | omega) (by first | decide | omega)))
    have z1 : S2.2 15 4 = (n : Int) + 20 := by rw [F2.2.2.2 _ _ (by decide) (by decide), F1.2.1]
    have z2 : S2.2 72 1 = (n : Int) + 20 := F2.2.1
    have z3 : S2.2 16 = ap5 (S.2 16) n a b c e g := by
      rw [← F1.2.2.1]
      funext k
      exact F2.2.2.2 _ _ (by decide) (by first | decide | omega)
    have z4 : S2.2 73 = ap5 (S.2 73) n a b c e g := by
      have : S1.2 73 = S.2 73 := by funext k; exact F1.2.2.2 _ _ (by decide) (by first | decide | omega)
      rw [F2.2.2.1, this]
    unfold GB
    rw [z1, z2, z3, z4]
    refine ⟨rfl, by omega, by omega, ?_⟩
    exact ap_eq (ap_eq (ap_eq (ap_eq (ap_eq b4 _ _) _ _) _ _) _ _) _ _
  · refine Ok.same (r := -1) H ?_ ?_
    · rw [q_7, b1, w32e (by first | decide | omega) (by first | decide | omega), if_pos (by first | decide | omega)]
    · rw [q_201, w32e (by first | decide | omega) (by first | decide | omega), if_pos (by first | decide | omega)]
end
end
section
-- 22.weeks
/-! calls: surcharged, bid, offer, ask, came, comes, due -/
section
variable {L : Nat} {xs : Nat → Int} {d : Nat} {S : AH}
theorem o_surcharged (H : Inv S) (p : Int) : Ok L xs 59 307 [vi p] S := by
  obtain ⟨hR, e1, e2, hA, hB, hC⟩ := H.gp
  have h16 := hR.2.1
  refine Ok.same (r := if 0 ≤ p ∧ p < S.2 72 5 then S.2 77 p.toNat else -1) H ?_ ?_
  · rw [q_59]
    simp only [q_133, x_isHand, bR, bi_0, e2]
    by_cases hc : 0 ≤ p ∧ p < S.2 72 5
    · rw [if_neg (fun z => z hc), if_neg (fun z => z hc), if_pos (by first | decide | omega), if_pos hc, hC p.toNat (by first | decide | omega)]
      rfl
    · rw [if_pos hc, if_neg hc]
  · rw [q_307]
    simp only [m_isHand hR, bR, bi_0]
    by_cases hc : 0 ≤ p ∧ p < S.2 72 5
    · rw [if_neg (fun z => z hc), if_pos (by first | decide | omega), if_pos hc]
    · rw [if_pos hc, if_neg hc]
end
end
section
-- 22a.bid
/-! 22a.bid -/
section
variable {L : Nat} {xs : Nat → Int} {d : Nat} {S : AH}
theorem o_bid (H : Inv S) (p q : Int) : Ok L xs 47 292 [vi p, vi q] S := by
  obtain ⟨⟨b1, b2⟩, b3, b4, b5⟩ := H.gn
  by_cases hc : S.2 72 92 < 12 ∧ (1 ≤ p ∧ p ≤ 1000000000) ∧ (0 ≤ q ∧ q ≤ 9999)
  · obtain ⟨n, hn⟩ := Int.eq_ofNat_of_zero_le b1
    refine ⟨S.2 72 92, wr (wr (wr S 64 n p) 65 n q) 63 2 (S.2 72 92 + 1), wr (wr (wr (wr (wr (wr S 64 n p) 65 n q) 63 2 (S.2 72 92 + 1)) 139 n p) 140 n q) 72 92 (S.2 72 92 + 1), ?_, ?_, ?_, Gw.of rfl⟩
    · rw [q_47]
      simp only [x_isSum, q_110, bR, bi_0, b3]
      rw [wi (by first | decide | omega) (by first | decide | omega), w32e (by first | decide | omega) (by first | decide | omega), hn]
      ((repeat' split) <;> first | rfl | (exfalso; omega))
    · rw [q_292]
      simp only [m_lies, bR, bi_0]
      simp only [wr_c (show (72 : Nat) ≠ 63 by decide), wr_c (show (72 : Nat) ≠ 64 by decide), wr_c (show (72 : Nat) ≠ 65 by decide)]
      rw [wi (by first | decide | omega) (by first | decide | omega), w32e (by first | decide | omega) (by first | decide | omega), hn]
      ((repeat' split) <;> first | rfl | (exfalso; omega))
    · refine Inv.upd H ?_ (fun a ha => ?_) (fun k hk => ?_) ?_ ?_ ?_ ?_ ?_ ?_ ?_ ?_ ?_
      · repeat' first | refine Fr.tr ?_ (Fr.wr (by decide)) | exact Fr.rf
      · unfold lvk at ha
        repeat rw [wr_c (by first | decide | omega)]
      · unfold lvf at hk
        rcases hk with rfl | rfl | rfl | rfl | rfl | rfl <;> simp [wr_c, wr_f]
      · simp [HM, wr_c, wr_f]
      · exact H.gt.fr (by simp [wr_c, wr_f]) (by simp [wr_c, wr_f])
      · exact H.gc.fr (by simp [wr_c, wr_f]) (by simp [wr_c, wr_f])
      · exact H.gx.fr (by simp [wr_c, wr_f]) (by simp [wr_c, wr_f])
      · exact H.gb.fr (by simp [wr_c, wr_f]) (by simp [wr_c, wr_f]) (by simp [wr_c, wr_f]) (by simp [wr_c, wr_f])
      · exact H.gp.fr (by simp [wr_c, wr_f]) (by simp [wr_c, wr_f]) (fun a ha => by repeat rw [wr_c (by first | decide | omega)])
      · exact H.gu.fr (by simp [wr_c, wr_f]) (by simp [wr_c, wr_f]) (by simp [wr_c, wr_f]) (fun a ha => by repeat rw [wr_c (by first | decide | omega)])
      · exact H.gw.fr (by simp [wr_c, wr_f]) (by simp [wr_c, wr_f]) (by simp [wr_c, wr_f]) (by simp [wr_c, wr_f]) (fun a ha => by repeat rw [wr_c (by first | decide | omega)])
      · unfold GN
        simp [wr_c, wr_f]
        refine ⟨by omega, fun i hi => ?_, b5⟩
        by_cases e : i = n
        · simp [e]; omega
        · simp [e]; exact b4 i (by first | decide | omega)
  · refine Ok.same (r := -1) H ?_ ?_
    · rw [q_47]
      simp only [x_isSum, q_110, bR, bi_0, b3]
      ((repeat' split) <;> first | rfl | (exfalso; omega))
    · rw [q_292]
      simp only [m_lies, bR, bi_0]
      ((repeat' split) <;> first | rfl | (exfalso; omega))
end
end
section
-- 22b.offer
/-! 22b.offer -/
section
variable {L : Nat} {xs : Nat → Int} {d : Nat} {S : AH}
theorem o_offer (H : Inv S) (p q r s : Int) : Ok L xs 44 287 [vi p, vi q, vi r, vi s] S := by
  obtain ⟨w1, w2, w3, ⟨w4, w5⟩, w6, w7⟩ := H.gw
  by_cases hc : S.2 72 87 < 9 ∧ (0 ≤ p ∧ p ≤ 1000000000) ∧ (0 ≤ q ∧ q ≤ 51) ∧ (1 ≤ r ∧ r ≤ 51) ∧ (0 ≤ s ∧ s ≤ 1000000000)
  · obtain ⟨n, hn⟩ := Int.eq_ofNat_of_zero_le w4
    refine ⟨S.2 72 87, wr (wr (wr (wr (wr S 57 n p) 58 n q) 59 n r) 60 n s) 54 7 (S.2 72 87 + 1), wr (wr (wr (wr (wr (wr (wr (wr (wr (wr S 57 n p) 58 n q) 59 n r) 60 n s) 54 7 (S.2 72 87 + 1)) 135 n p) 136 n q) 137 n r) 138 n s) 72 87 (S.2 72 87 + 1), ?_, ?_, ?_, Gw.of rfl⟩
    · rw [q_44]
      simp only [x_isSum, x_isWeek, q_188, bR, bi_0, w6]
      rw [wi (by first | decide | omega) (by first | decide | omega), w32e (by first | decide | omega) (by first | decide | omega), hn]
      repeat (first | rw [if_pos (by (omega))] | rw [if_neg (by (omega))])
      first | done | rfl
    · rw [q_287]
      simp only [m_lies, m_isSum, bR, bi_0]
      simp only [wr_c (show (72 : Nat) ≠ 54 by decide), wr_c (show (72 : Nat) ≠ 57 by decide), wr_c (show (72 : Nat) ≠ 58 by decide), wr_c (show (72 : Nat) ≠ 59 by decide), wr_c (show (72 : Nat) ≠ 60 by decide)]
      rw [wi (by first | decide | omega) (by first | decide | omega), w32e (by first | decide | omega) (by first | decide | omega), hn]
      repeat (first | rw [if_pos (by (omega))] | rw [if_neg (by (omega))])
      first | done | rfl
    · refine Inv.upd H ?_ (fun a ha => ?_) (fun k hk => ?_) ?_ ?_ ?_ ?_ ?_ ?_ ?_ ?_ ?_
      · repeat' first | refine Fr.tr ?_ (Fr.wr (by decide)) | exact Fr.rf
      · unfold lvk at ha
        repeat rw [wr_c (by first | decide | omega)]
      · unfold lvf at hk
        rcases hk with rfl | rfl | rfl | rfl | rfl | rfl <;> simp [wr_c, wr_f]
      · simp [HM, wr_c, wr_f]
      · exact H.gt.fr (by simp [wr_c, wr_f]) (by simp [wr_c, wr_f])
      · exact H.gc.fr (by simp [wr_c, wr_f]) (by simp [wr_c, wr_f])
      · exact H.gx.fr (by simp [wr_c, wr_f]) (by simp [wr_c, wr_f])
      · exact H.gb.fr (by simp [wr_c, wr_f]) (by simp [wr_c, wr_f]) (by simp [wr_c, wr_f]) (by simp [wr_c, wr_f])
      · exact H.gp.fr (by simp [wr_c, wr_f]) (by simp [wr_c, wr_f]) (fun a ha => by repeat rw [wr_c (by first | decide | omega)])
      · exact H.gu.fr (by simp [wr_c, wr_f]) (by simp [wr_c, wr_f]) (by simp [wr_c, wr_f]) (fun a ha => by repeat rw [wr_c (by first | decide | omega)])
      · unfold GW
        simp [wr_c, wr_f]
        refine ⟨w1, w2, w3, by omega, fun i hi => ?_⟩
        by_cases e : i = n
        · simp [e]; omega
        · simp [e]; exact w7 i (by first | decide | omega)
      · exact H.gn.fr (by simp [wr_c, wr_f]) (by simp [wr_c, wr_f]) (by simp [wr_c, wr_f]) (by simp [wr_c, wr_f]) (by simp [wr_c, wr_f]) (by simp [wr_c, wr_f]) (fun a ha => by repeat rw [wr_c (by first | decide | omega)])
  · refine Ok.same (r := -1) H ?_ ?_
    · rw [q_44]
      simp only [x_isSum, x_isWeek, q_188, bR, bi_0, w6]
      rcases (show ¬ (0 ≤ p ∧ p ≤ 1000000000) ∨ (0 ≤ p ∧ p ≤ 1000000000) ∧ (¬ (0 ≤ q ∧ q ≤ 51) ∨ (0 ≤ q ∧ q ≤ 51) ∧ (¬ 1 ≤ r ∨ 1 ≤ r ∧ (¬ r ≤ 51 ∨ r ≤ 51 ∧ (¬ (0 ≤ s ∧ s ≤ 1000000000) ∨ (0 ≤ s ∧ s ≤ 1000000000) ∧ (¬ S.2 72 87 < 9))))) by omega) with h | ⟨h1, h | ⟨h2, h | ⟨h3, h | ⟨h4, h | ⟨h5, h⟩⟩⟩⟩⟩ <;> (repeat (first | rw [if_pos (by (omega))] | rw [if_neg (by (omega))])) <;> rfl
    · rw [q_287]
      simp only [m_lies, m_isSum, bR, bi_0]
      rcases (show ¬ S.2 72 87 < 9 ∨ S.2 72 87 < 9 ∧ (¬ (0 ≤ p ∧ p ≤ 1000000000) ∨ (0 ≤ p ∧ p ≤ 1000000000) ∧ (¬ (0 ≤ q ∧ q ≤ 51) ∨ (0 ≤ q ∧ q ≤ 51) ∧ (¬ (1 ≤ r ∧ r ≤ 51) ∨ (1 ≤ r ∧ r ≤ 51) ∧ (¬ (0 ≤ s ∧ s ≤ 1000000000))))) by omega) with h | ⟨h1, h | ⟨h2, h | ⟨h3, h | ⟨h4, h⟩⟩⟩⟩ <;> (repeat (first | rw [if_pos (by (omega))] | rw [if_neg (by (omega))])) <;> rfl
end
end
section
-- 22c.taxes
/-! 22c.taxes -/
section
variable {L : Nat} {xs : Nat → Int} {d : Nat} {S : AH}
/-! taxes -/
theorem yr_v {x : Int} (h : 0 ≤ x) (h2 : x < 3600) : idiv x 360 = x / 360 := by
  unfold idiv
  rw [Int.tdiv_eq_ediv_of_nonneg h, w32e (by first | decide | omega) (by first | decide | omega)]
theorem wk_v {x : Int} (h : 0 ≤ x) (h2 : x < 3600) : idiv (Int.tmod x 360) 7 = x % 360 / 7 := by
  rw [Int.tmod_eq_emod_of_nonneg h]
  unfold idiv
  rw [Int.tdiv_eq_ediv_of_nonneg (by first | decide | omega), w32e (by first | decide | omega) (by first | decide | omega)]
/-- a tax's place -/
noncomputable def tpl (k y w : Int) : Nat := (520 * k + 52 * y + w).toNat
theorem x_placeOf (k y w : Int) (hk : 0 ≤ k ∧ k < 6) (hy : 0 ≤ y ∧ y < 10) (hw : 0 ≤ w ∧ w < 52) : ev (WK L xs) (d + 1) 180 [vr 54, vi k, vi y, vi w] S = some (520 * k + 52 * y + w, S) := by
  rw [q_180, w32e (x := k * 10) (by first | decide | omega) (by first | decide | omega), w32e (x := k * 10 + y) (by first | decide | omega) (by first | decide | omega), w32e (x := (k * 10 + y) * 52) (by first | decide | omega) (by first | decide | omega), w32e (by first | decide | omega) (by first | decide | omega)]
  congr 2
  omega
/-- what came: 0 in a year that never was -/
noncomputable def cme (h : Nat → Nat → Int) (k y w : Int) : Int := if 0 ≤ y then h 133 (tpl k y w) else 0
theorem m_cameIn (k y w : Int) (hk : 0 ≤ k ∧ k < 6) (hy : y < 10) (hw : 0 ≤ w ∧ w < 52) : ev (WK L xs) (d + 1) 280 [vr 72, vi k, vi y, vi w] S = some (cme S.2 k y w, S) := by
  rw [q_280]
  unfold cme
  by_cases h : y < 0
  · rw [if_pos h, if_neg (by first | decide | omega)]
  · rw [if_neg h, w32e (x := 520 * k) (by first | decide | omega) (by first | decide | omega), w32e (x := 52 * y) (by first | decide | omega) (by first | decide | omega), w32e (x := 520 * k + 52 * y) (by first | decide | omega) (by first | decide | omega), w32e (by first | decide | omega) (by first | decide | omega), if_pos (by first | decide | omega), if_pos (by first | decide | omega)]
    rfl
theorem x_arrivedIn (hW : GW S.2) (k y w : Int) (hk : 0 ≤ k ∧ k < 6) (hy : y < 10) (hw : 0 ≤ w ∧ w < 52) : ev (WK L xs) (d + 2) 181 [vr 54, vi k, vi y, vi w] S = some (cme S.2 k y w, S) := by
  rw [q_181]
  simp only [x_isTax, x_isYear, x_isWeek, bR, bi_0]
  unfold cme
  rw [if_neg (fun z => z hk)]
  by_cases h : 0 ≤ y
  · rw [if_neg (by first | decide | omega), if_neg (fun z => z hw), x_placeOf k y w hk ⟨h, hy⟩ hw, bR, if_pos (by first | decide | omega), if_pos h, (hW.1 (520 * k + 52 * y + w).toNat (by first | decide | omega)).1]
    rfl
  · rw [if_pos (by first | decide | omega), if_neg h]
theorem o_came (H : Inv S) (k y w : Int) : Ok L xs 39 281 [vi k, vi y, vi w] S := by
  by_cases hc : (0 ≤ k ∧ k < 6) ∧ (0 ≤ y ∧ y < 10) ∧ (0 ≤ w ∧ w < 52)
  · refine Ok.same (r := cme S.2 k y w) H ?_ ?_
    · rw [q_39]
      simp only [x_isTax, x_isYear, x_isWeek, x_arrivedIn H.gw k y w hc.1 hc.2.1.2 hc.2.2, bR, bi_0]
      ((repeat' split) <;> first | rfl | (exfalso; omega))
    · rw [q_281]
      simp only [m_lies, m_cameIn k y w hc.1 hc.2.1.2 hc.2.2, bR, bi_0]
      ((repeat' split) <;> first | rfl | (exfalso; omega))
  · refine Ok.same (r := -1) H ?_ ?_
    · rw [q_39]
      simp only [x_isTax, x_isYear, x_isWeek, bR, bi_0]
      by_cases h1 : 0 ≤ k ∧ k < 6
      · rw [if_neg (fun z => z h1)]
        by_cases h2 : 0 ≤ y ∧ y < 10
        · rw [if_neg (fun z => z h2), if_pos (fun z => hc ⟨h1, h2, z⟩)]
        · rw [if_pos h2]
      · rw [if_pos h1]
    · rw [q_281]
      simp only [m_lies, bR, bi_0]
      by_cases h1 : 0 ≤ k ∧ k < 6
      · rw [if_neg (by first | decide | omega)]
        by_cases h2 : 0 ≤ y ∧ y < 10
        · rw [if_neg (by first | decide | omega), if_pos (by first | decide | omega)]
        · rw [if_pos (by first | decide | omega)]
      · rw [if_pos (by first | decide | omega)]
end
end
section
-- 23.taxes
/-! calls: comes, due, ask -/
section
variable {L : Nat} {xs : Nat → Int} {d : Nat} {S : AH}
theorem m_yr (hT : GT S.2) : ev (WK L xs) (d + 1) 243 [vr 72] S = some (S.2 72 2 / 360, S) := by rw [m_year, yr_v hT.2.1 hT.2.2]
theorem m_wk (hT : GT S.2) : ev (WK L xs) (d + 1) 279 [vr 72] S = some (S.2 72 2 % 360 / 7, S) := by rw [m_week, wk_v hT.2.1 hT.2.2]
theorem x_yr {p : Int} (h1 : 0 ≤ p) (h2 : p < 3600) : ev (WK L xs) (d + 1) 17 [vi p] S = some (p / 360, S) := by
  rw [x_yearOf]
  unfold yr
  rw [yr_v h1 h2]
theorem x_wk {p : Int} (h1 : 0 ≤ p) (h2 : p < 3600) : ev (WK L xs) (d + 1) 38 [vi p] S = some (p % 360 / 7, S) := by rw [x_weekOf, wk_v h1 h2]
theorem o_comes (H : Inv S) (k p : Int) : Ok L xs 36 278 [vi k, vi p] S := by
  obtain ⟨t1, t2, t3⟩ := H.gt
  obtain ⟨w1, w2, w3, w4⟩ := H.gw
  by_cases hk : 0 ≤ k ∧ k < 6
  · by_cases hp : 0 ≤ p ∧ p ≤ 1000000000
    · have hN : (520 * k + 52 * (S.2 72 2 / 360) + S.2 72 2 % 360 / 7).toNat < 3120 := by omega
      obtain ⟨n, hn⟩ := Int.eq_ofNat_of_zero_le (show 0 ≤ 520 * k + 52 * (S.2 72 2 / 360) + S.2 72 2 % 360 / 7 by omega)
      have hn2 : tpl k (S.2 72 2 / 360) (S.2 72 2 % 360 / 7) = n := by
        unfold tpl
        rw [hn]
        rfl
      obtain ⟨v1, v2, v3⟩ := w1 n (by first | decide | omega)
      have hcm : cme S.2 k (S.2 72 2 / 360) (S.2 72 2 % 360 / 7) = S.2 133 n := by
        unfold cme
        rw [if_pos (by first | decide | omega), hn2]
      by_cases hs : S.2 133 n + p ≤ 1000000000
      · have hx : ev (WK L xs) 199 179 [vr 54, vi k, vi (S.2 15 0), vi p] S = some (1, wr (wr S 55 n (S.2 133 n + p)) 54 1 (w64 (S.2 72 85 + p))) := by
          rw [q_179, t1]
          simp only [x_isTax, x_isDay, x_yr t2 t3, x_wk t2 t3, x_placeOf k _ _ hk (show 0 ≤ S.2 72 2 / 360 ∧ S.2 72 2 / 360 < 10 by omega) (show 0 ≤ S.2 72 2 % 360 / 7 ∧ S.2 72 2 % 360 / 7 < 52 by omega), bR, bi_0, lc_gt]
          rw [hn, Int.toNat_natCast, v1, w2, w64e (x := S.2 133 n + p) (by first | decide | omega) (by first | decide | omega), w32e (x := S.2 133 n + p) (by first | decide | omega) (by first | decide | omega), if_neg (by first | decide | omega), if_neg (by first | decide | omega), if_pos (by first | decide | omega), if_neg (by first | decide | omega), if_pos (by first | decide | omega), if_pos (by first | decide | omega)]
        generalize hS1 : wr (wr S 55 n (S.2 133 n + p)) 54 1 (w64 (S.2 72 85 + p)) = S1 at hx
        have c1 : S1.2 15 1 = S.2 72 3 := by rw [← hS1]; simp [wr_c]; exact H.gc.1
        refine ⟨1, wr S1 15 1 (w64 (S.2 72 3 + p)), wr (wr (wr (wr S1 15 1 (w64 (S.2 72 3 + p))) 133 n (S.2 133 n + p)) 72 85 (w64 (S.2 72 85 + p))) 72 3 (w64 (S.2 72 3 + p)), ?_, ?_, ?_, Gw.of (by rw [← hS1]; rfl)⟩
        · rw [q_36]
          simp only [x_isTax, x_isSum, bR, bi_0]
          rw [if_neg (by first | decide | omega), if_neg (by first | decide | omega), hx]
          simp only [bR, c1]
          rfl
        · have hT2 : GT (wr S1 15 1 (w64 (S.2 72 3 + p))).2 := by rw [← hS1]; exact H.gt.fr (by simp [wr_c, wr_f]) (by simp [wr_c, wr_f])
          have g1 : (wr S1 15 1 (w64 (S.2 72 3 + p))).2 72 = S.2 72 := by rw [← hS1]; simp [wr_c]
          have g2 : (wr S1 15 1 (w64 (S.2 72 3 + p))).2 133 = S.2 133 := by rw [← hS1]; simp [wr_c]
          have g3 : cme (wr S1 15 1 (w64 (S.2 72 3 + p))).2 k (S.2 72 2 / 360) (S.2 72 2 % 360 / 7) = S.2 133 n := by
            rw [← hcm]
            unfold cme
            rw [g2]
          rw [q_278]
          simp only [m_lies, m_isSum, m_yr hT2, m_wk hT2, bR, bi_0]
          rw [g1, m_cameIn k _ _ hk (by first | decide | omega) (by first | decide | omega)]
          simp only [bR, lc_gt, g3, m_yr hT2, m_wk hT2, g1, g2]
          rw [w32e (x := 520 * k) (by first | decide | omega) (by first | decide | omega), w32e (x := 52 * (S.2 72 2 / 360)) (by first | decide | omega) (by first | decide | omega), w32e (x := 520 * k + 52 * (S.2 72 2 / 360)) (by first | decide | omega) (by first | decide | omega), w32e (x := 520 * k + 52 * (S.2 72 2 / 360) + S.2 72 2 % 360 / 7) (by first | decide | omega) (by first | decide | omega), hn, Int.toNat_natCast, w64e (x := S.2 133 n + p) (by first | decide | omega) (by first | decide | omega), if_neg (by first | decide | omega), if_neg (by first | decide | omega), if_neg (by first | decide | omega), if_pos (by first | decide | omega), if_pos (by first | decide | omega)]
        · subst hS1
          refine Inv.upd H ?_ (fun a ha => ?_) (fun k hk => ?_) ?_ ?_ ?_ ?_ ?_ ?_ ?_ ?_ ?_
          · repeat' first | refine Fr.tr ?_ (Fr.wr (by decide)) | exact Fr.rf
          · unfold lvk at ha
            repeat rw [wr_c (by first | decide | omega)]
          · unfold lvf at hk
            rcases hk with rfl | rfl | rfl | rfl | rfl | rfl <;> simp [wr_c, wr_f]
          · simp [HM, wr_c, wr_f]
          · exact H.gt.fr (by simp [wr_c, wr_f]) (by simp [wr_c, wr_f])
          · simp [GC, wr_c, wr_f, w64_i]
          · exact H.gx.fr (by simp [wr_c, wr_f]) (by simp [wr_c, wr_f])
          · exact H.gb.fr (by simp [wr_c, wr_f]) (by simp [wr_c, wr_f]) (by simp [wr_c, wr_f]) (by simp [wr_c, wr_f])
          · exact H.gp.fr (by simp [wr_c, wr_f]) (by simp [wr_c, wr_f]) (fun a ha => by repeat rw [wr_c (by first | decide | omega)])
          · exact H.gu.fr (by simp [wr_c, wr_f]) (by simp [wr_c, wr_f]) (by simp [wr_c, wr_f]) (fun a ha => by repeat rw [wr_c (by first | decide | omega)])
          · unfold GW
            simp [wr_c, wr_f]
            refine ⟨fun i hi => ?_, w3, w4⟩
            by_cases e : i = n
            · simp [e]; omega
            · simp [e]; exact w1 i hi
          · exact H.gn.fr (by simp [wr_c, wr_f]) (by simp [wr_c, wr_f]) (by simp [wr_c, wr_f]) (by simp [wr_c, wr_f]) (by simp [wr_c, wr_f]) (by simp [wr_c, wr_f]) (fun a ha => by repeat rw [wr_c (by first | decide | omega)])
      · refine Ok.same (r := 0) H ?_ ?_
        · have hx : ev (WK L xs) 199 179 [vr 54, vi k, vi (S.2 15 0), vi p] S = some (0, S) := by
            rw [q_179, t1]
            simp only [x_isTax, x_isDay, x_yr t2 t3, x_wk t2 t3, x_placeOf k _ _ hk (show 0 ≤ S.2 72 2 / 360 ∧ S.2 72 2 / 360 < 10 by omega) (show 0 ≤ S.2 72 2 % 360 / 7 ∧ S.2 72 2 % 360 / 7 < 52 by omega), bR, bi_0, lc_gt]
            rw [hn, Int.toNat_natCast, v1, w64e (x := S.2 133 n + p) (by first | decide | omega) (by first | decide | omega), if_neg (by first | decide | omega), if_neg (by first | decide | omega), if_pos (by first | decide | omega), if_pos (by first | decide | omega)]
          rw [q_36]
          simp only [x_isTax, x_isSum, bR, bi_0]
          rw [if_neg (by first | decide | omega), if_neg (by first | decide | omega), hx]
          rfl
        · rw [q_278]
          simp only [m_lies, m_isSum, m_yr H.gt, m_wk H.gt, bR, bi_0]
          rw [m_cameIn k _ _ hk (by first | decide | omega) (by first | decide | omega)]
          simp only [bR, lc_gt, hcm]
          rw [w64e (x := S.2 133 n + p) (by first | decide | omega) (by first | decide | omega), if_neg (by first | decide | omega), if_neg (by first | decide | omega), if_pos (by first | decide | omega)]
    · refine Ok.same (r := 0) H ?_ ?_
      · rw [q_36]
        simp only [x_isTax, x_isSum, bR, bi_0]
        rw [if_neg (by first | decide | omega), if_pos hp]
      · rw [q_278]
        simp only [m_lies, m_isSum, bR, bi_0]
        rw [if_neg (by first | decide | omega), if_pos hp]
  · refine Ok.same (r := 0) H ?_ ?_
    · rw [q_36]
      simp only [x_isTax, bR, bi_0]
      rw [if_pos hk]
    · rw [q_278]
      simp only [m_lies, bR, bi_0]
      rw [if_pos (by first | decide | omega)]
theorem o_due (H : Inv S) (w p : Int) : Ok L xs 42 284 [vi w, vi p] S := by
  obtain ⟨t1, t2, t3⟩ := H.gt
  obtain ⟨w1, w2, w3, w4⟩ := H.gw
  by_cases hc : (0 ≤ w ∧ w < 52) ∧ (0 ≤ p ∧ p ≤ 1000000000)
  · obtain ⟨n, hn⟩ := Int.eq_ofNat_of_zero_le (show 0 ≤ 52 * (S.2 72 2 / 360) + w by omega)
    have v1 := w3 n (by first | decide | omega)
    have hx : ev (WK L xs) 199 183 [vr 54, vi (S.2 72 2 / 360), vi w, vi p] S = some (0, wr S 56 n (w64 (S.2 134 n + p))) := by
      rw [q_183]
      simp only [x_isYear, x_isWeek, bR, bi_0]
      rw [w32e (x := S.2 72 2 / 360 * 52) (by first | decide | omega) (by first | decide | omega), w32e (x := S.2 72 2 / 360 * 52 + w) (by first | decide | omega) (by first | decide | omega), show S.2 72 2 / 360 * 52 + w = (n : Int) by omega, Int.toNat_natCast, v1, if_neg (by first | decide | omega), if_neg (by first | decide | omega), if_pos (by first | decide | omega), if_pos (by first | decide | omega)]
    refine ⟨1, wr S 56 n (w64 (S.2 134 n + p)), wr (wr S 56 n (w64 (S.2 134 n + p))) 134 n (w64 (S.2 134 n + p)), ?_, ?_, ?_, Gw.of rfl⟩
    · rw [q_42]
      simp only [x_isWeek, x_isSum, bR, bi_0, t1, x_yr t2 t3]
      rw [if_neg (by first | decide | omega), if_neg (by first | decide | omega), hx]
      rfl
    · have hT2 : GT (wr S 56 n (w64 (S.2 134 n + p))).2 := H.gt.fr (by simp [wr_c]) (by simp [wr_c])
      rw [q_284]
      simp only [m_lies, m_isSum, m_yr hT2, bR, bi_0, wr_c (show (72 : Nat) ≠ 56 by decide), wr_c (show (134 : Nat) ≠ 56 by decide)]
      rw [w32e (x := 52 * (S.2 72 2 / 360)) (by first | decide | omega) (by first | decide | omega), w32e (x := 52 * (S.2 72 2 / 360) + w) (by first | decide | omega) (by first | decide | omega), hn, Int.toNat_natCast, if_neg (by first | decide | omega), if_neg (by first | decide | omega), if_pos (by first | decide | omega), if_pos (by first | decide | omega)]
    · refine Inv.upd H ?_ (fun a ha => ?_) (fun k hk => ?_) ?_ ?_ ?_ ?_ ?_ ?_ ?_ ?_ ?_
      · repeat' first | refine Fr.tr ?_ (Fr.wr (by decide)) | exact Fr.rf
      · unfold lvk at ha
        repeat rw [wr_c (by first | decide | omega)]
      · unfold lvf at hk
        rcases hk with rfl | rfl | rfl | rfl | rfl | rfl <;> simp [wr_c, wr_f]
      · simp [HM, wr_c, wr_f]
      · exact H.gt.fr (by simp [wr_c, wr_f]) (by simp [wr_c, wr_f])
      · exact H.gc.fr (by simp [wr_c, wr_f]) (by simp [wr_c, wr_f])
      · exact H.gx.fr (by simp [wr_c, wr_f]) (by simp [wr_c, wr_f])
      · exact H.gb.fr (by simp [wr_c, wr_f]) (by simp [wr_c, wr_f]) (by simp [wr_c, wr_f]) (by simp [wr_c, wr_f])
      · exact H.gp.fr (by simp [wr_c, wr_f]) (by simp [wr_c, wr_f]) (fun a ha => by repeat rw [wr_c (by first | decide | omega)])
      · exact H.gu.fr (by simp [wr_c, wr_f]) (by simp [wr_c, wr_f]) (by simp [wr_c, wr_f]) (fun a ha => by repeat rw [wr_c (by first | decide | omega)])
      · unfold GW
        simp [wr_c, wr_f]
        refine ⟨w1, w2, fun i hi => ?_, w4⟩
        by_cases e : i = n
        · simp [e]
        · simp [e]; exact w3 i hi
      · exact H.gn.fr (by simp [wr_c, wr_f]) (by simp [wr_c, wr_f]) (by simp [wr_c, wr_f]) (by simp [wr_c, wr_f]) (by simp [wr_c, wr_f]) (by simp [wr_c, wr_f]) (fun a ha => by repeat rw [wr_c (by first | decide | omega)])
  · refine Ok.same (r := 0) H ?_ ?_
    · rw [q_42]
      simp only [x_isWeek, x_isSum, bR, bi_0]
      by_cases h1 : 0 ≤ w ∧ w < 52
      · rw [if_neg (fun z => z h1), if_pos (fun z => hc ⟨h1, z⟩)]
      · rw [if_pos h1]
    · rw [q_284]
      simp only [m_lies, m_isSum, bR, bi_0]
      by_cases h1 : 0 ≤ w ∧ w < 52
      · rw [if_neg (by first | decide | omega), if_pos (fun z => hc ⟨h1, z⟩)]
      · rw [if_pos (by first | decide | omega)]
end
end
section
-- 24.ask
/-! call: ask -/
section
variable {L : Nat} {xs : Nat → Int} {d : Nat} {S : AH}
theorem o_ask (H : Inv S) (p q r f : Int) (hf : f = 0 ∨ f = 1) : Ok L xs 33 272 [vi p, vi q, vi r, vi f] S := by
  obtain ⟨hR, e1, -⟩ := H.gp
  obtain ⟨⟨u1, u2⟩, u3, u4, u5, ⟨u6, u7⟩, u8⟩ := H.gu
  by_cases hc : S.2 72 79 < 14 ∧ (0 ≤ p ∧ p < S.2 72 4) ∧ (0 ≤ q ∧ q ≤ 1000000000) ∧ (0 ≤ r ∧ r ≤ 1000000)
  · obtain ⟨n, hn⟩ := Int.eq_ofNat_of_zero_le u1
    have hn' : (S.2 72 79).toNat = n := by omega
    have hfl : ∃ F : Nat, (if f = 0 then ior (S.2 50 3) 0 else ior (S.2 50 3) (ishl 1 (S.2 50 4))) = (F : Int) ∧ F < 2 ^ (n + 1) ∧ (∀ k, k < n → F.testBit k = (S.2 50 3).toNat.testBit k) ∧ F.testBit n = decide (f = 1) := by
      obtain ⟨m, hm⟩ := Int.eq_ofNat_of_zero_le u6
      rw [hm, hn'] at u7
      have hm2 : m < 2 ^ n := by
        have : (2 : Int) ^ n = ((2 ^ n : Nat) : Int) := by simp
        omega
      have hlt : 2 ^ n < 16384 := Nat.pow_lt_pow_right (n := 14) (by decide) (by first | decide | omega)
      have hnb : m.testBit n = false := Nat.testBit_lt_two_pow hm2
      rw [hm, u3, hn]
      rcases hf with rfl | rfl
      · refine ⟨m, ?_, by rw [Nat.pow_succ]; omega, fun k _ => rfl, by rw [hnb]; rfl⟩
        rw [if_pos rfl]
        have := ior_n m 0 (by first | decide | omega) (by first | decide | omega)
        simpa using this
      · refine ⟨m ||| 2 ^ n, ?_, ?_, fun k hk => ?_, ?_⟩
        · rw [if_neg (by decide), ishl_n n (by first | decide | omega), ior_n m (2 ^ n) (by first | decide | omega) (by first | decide | omega)]
        · rw [Nat.pow_succ]
          exact Nat.or_lt_two_pow (n := n + 1) (by rw [Nat.pow_succ]; omega) (by rw [Nat.pow_succ]; omega)
        · rw [Nat.testBit_or, Nat.testBit_two_pow, decide_eq_false (by first | decide | omega), Bool.or_false]
          rfl
        · rw [Nat.testBit_or, Nat.testBit_two_pow, hnb]
          simp
    obtain ⟨F, hF1, hF2, hF3, hF4⟩ := hfl
    have hx : ev (WK L xs) 199 94 [vr 50, vi q, vi r, vi f] S = some (S.2 72 79, wr (wr (wr (wr (wr S 51 n q) 52 n r) 53 (n + 1) (sm (S.2 131) n + r)) 50 3 F) 50 4 (S.2 72 79 + 1)) := by
      have v1 := u5 n (by first | decide | omega)
      have v2 : 0 ≤ sm (S.2 131) n ∧ sm (S.2 131) n ≤ n * 1000000 := sm_bd (fun k hk => (u4 k (by first | decide | omega)).2.2.2.1)
      have e2 : w32 (S.2 72 79 + 1) = ((n + 1 : Nat) : Int) := by
        rw [w32e (by first | decide | omega) (by first | decide | omega), hn]
        rfl
      rw [q_94]
      rw [u3] at hF1 ⊢
      rw [wi (by first | decide | omega) (by first | decide | omega), e2, Int.toNat_natCast, hn', v1, w64e (by first | decide | omega) (by first | decide | omega), if_pos (by first | decide | omega), if_pos (by first | decide | omega), if_pos (by first | decide | omega), if_pos (by first | decide | omega), if_pos (by first | decide | omega)]
      rcases hf with rfl | rfl
      · rw [if_pos rfl] at hF1 ⊢
        rw [hF1, hn]
        rfl
      · rw [if_neg (by decide)] at hF1 ⊢
        rw [hF1, hn]
        rfl
    generalize hS1 : wr (wr (wr (wr (wr S 51 n q) 52 n r) 53 (n + 1) (sm (S.2 131) n + r)) 50 3 F) 50 4 (S.2 72 79 + 1) = S1 at hx
    have g1 : S1.2 72 = S.2 72 := by rw [← hS1]; simp [wr_c]
    have hR1 : RP S1.2 := by
      have : GP S1.2 := by
        rw [← hS1]
        exact H.gp.fr (by simp [wr_c]) (by simp [wr_c]) (fun a ha => by repeat rw [wr_c (by first | decide | omega)])
      exact this.1
    refine ⟨S.2 72 79, S1, wr (wr (wr (wr S1 130 n q) 131 n r) 132 n f) 72 79 (S.2 72 79 + 1), ?_, ?_, ?_, Gw.of (by rw [← hS1]; rfl)⟩
    · rw [q_33]
      simp only [x_isHead, x_isSum, bR, bi_0, e1]
      rw [if_neg (by first | decide | omega), if_neg (by first | decide | omega), if_neg (by first | decide | omega), if_neg (by first | decide | omega), hx]
      rfl
    · rw [q_272]
      simp only [m_isHead hR1, m_isSum, m_lies, bR, bi_0, g1]
      rw [wi (by first | decide | omega) (by first | decide | omega), w32e (by first | decide | omega) (by first | decide | omega), hn', if_neg (by first | decide | omega), if_neg (by first | decide | omega), if_neg (by first | decide | omega), if_neg (by first | decide | omega), if_pos (by first | decide | omega), if_pos (by first | decide | omega), if_pos (by first | decide | omega), if_pos hf]
    · subst hS1
      refine Inv.upd H ?_ (fun a ha => ?_) (fun k hk => ?_) ?_ ?_ ?_ ?_ ?_ ?_ ?_ ?_ ?_
      · repeat' first | refine Fr.tr ?_ (Fr.wr (by decide)) | exact Fr.rf
      · unfold lvk at ha
        repeat rw [wr_c (by first | decide | omega)]
      · unfold lvf at hk
        rcases hk with rfl | rfl | rfl | rfl | rfl | rfl <;> simp [wr_c, wr_f]
      · simp [HM, wr_c, wr_f]
      · exact H.gt.fr (by simp [wr_c, wr_f]) (by simp [wr_c, wr_f])
      · exact H.gc.fr (by simp [wr_c, wr_f]) (by simp [wr_c, wr_f])
      · exact H.gx.fr (by simp [wr_c, wr_f]) (by simp [wr_c, wr_f])
      · exact H.gb.fr (by simp [wr_c, wr_f]) (by simp [wr_c, wr_f]) (by simp [wr_c, wr_f]) (by simp [wr_c, wr_f])
      · exact H.gp.fr (by simp [wr_c, wr_f]) (by simp [wr_c, wr_f]) (fun a ha => by repeat rw [wr_c (by first | decide | omega)])
      · have hw : ∀ k, k ≤ n → sm (fun j => if j = n then r else S.2 131 j) k = sm (S.2 131) k := by
          intro k hk
          apply sm_congr
          intro j hj
          rw [if_neg (by first | decide | omega)]
        have e3 : (S.2 72 79 + 1).toNat = n + 1 := by omega
        unfold GU
        simp only [wr_c (show (50 : Nat) ≠ 72 by decide), wr_c (show (50 : Nat) ≠ 132 by decide), wr_c (show (50 : Nat) ≠ 131 by decide), wr_c (show (50 : Nat) ≠ 130 by decide)]
        simp [wr_c, wr_g, e3]
        refine ⟨by omega, fun k hk => ?_, fun k hk => ?_, ?_, fun k hk => ?_⟩
        · by_cases e : k = n
          · simp [e]; omega
          · simp [e]; exact u4 k (by first | decide | omega)
        · by_cases e : k = n + 1
          · subst e
            rw [if_pos rfl]
            show _ = sm _ n + (if n = n then r else _)
            rw [hw n (Nat.le_refl _), if_pos rfl]
          · rw [if_neg e, hw k (by first | decide | omega)]
            exact u5 k (by first | decide | omega)
        · have : (2 : Int) ^ (n + 1) = ((2 ^ (n + 1) : Nat) : Int) := by simp
          omega
        · by_cases e : k = n
          · simp [e, hF4]
          · simp [e]
            rw [hF3 k (by first | decide | omega), u8 k (by first | decide | omega)]
      · exact H.gw.fr (by simp [wr_c, wr_f]) (by simp [wr_c, wr_f]) (by simp [wr_c, wr_f]) (by simp [wr_c, wr_f]) (fun a ha => by repeat rw [wr_c (by first | decide | omega)])
      · exact H.gn.fr (by simp [wr_c, wr_f]) (by simp [wr_c, wr_f]) (by simp [wr_c, wr_f]) (by simp [wr_c, wr_f]) (by simp [wr_c, wr_f]) (by simp [wr_c, wr_f]) (fun a ha => by repeat rw [wr_c (by first | decide | omega)])
  · refine Ok.same (r := -1) H ?_ ?_
    · rw [q_33]
      simp only [x_isHead, x_isSum, bR, bi_0, e1]
      by_cases h1 : 0 ≤ p ∧ p < S.2 72 4
      · rw [if_neg (fun z => z h1)]
        by_cases h2 : 0 ≤ q ∧ q ≤ 1000000000
        · rw [if_neg (fun z => z h2)]
          by_cases h3 : r < 0
          · rw [if_pos h3]
          · rw [if_neg h3]
            by_cases h4 : 1000000 < r
            · rw [if_pos h4]
            · rw [if_neg h4, q_94, u3, if_neg (by first | decide | omega)]
              rfl
        · rw [if_pos h2]
      · rw [if_pos h1]
    · rw [q_272]
      simp only [m_isHead hR, m_isSum, m_lies, bR, bi_0]
      by_cases h0 : S.2 72 79 = 14
      · rw [if_pos h0]
      · rw [if_neg h0]
        by_cases h1 : 0 ≤ p ∧ p < S.2 72 4
        · rw [if_neg (fun z => z h1)]
          by_cases h2 : 0 ≤ q ∧ q ≤ 1000000000
          · rw [if_neg (fun z => z h2), if_pos (by first | decide | omega)]
          · rw [if_pos h2]
        · rw [if_pos h1]
end
end
