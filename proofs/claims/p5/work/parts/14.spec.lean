/-! what a text says: a reader by descent; an answer is a fault's number, or the place behind and the code in the order of reckoning -/
abbrev CD : Type := List (Int × Int)
abbrev PR : Type := Int ⊕ (Nat × CD)
abbrev TB : Type := Nat → Int
/-- the byte at a place; 0 behind the end -/
noncomputable def cu (t : TB) (n p : Nat) : Int := if p < n then t p else 0
noncomputable def dgt (c : Int) : Bool := decide (48 ≤ c ∧ c ≤ 57)
noncomputable def isTm (c : Int) : Bool := decide (c = 42 ∨ c = 47 ∨ c = 37)
noncomputable def isPm (c : Int) : Bool := decide (c = 43 ∨ c = 45)
noncomputable def isSg (c : Int) : Bool := decide (c = 60 ∨ c = 62 ∨ c = 61)
noncomputable def isVl (c : Int) : Bool := decide (c = 97 ∨ c = 121 ∨ c = 104 ∨ c = 107 ∨ c = 114 ∨ c = 113 ∨ c = 108)
noncomputable def isWd (c : Int) : Bool := decide (c = 111 ∨ c = 110 ∨ c = 115 ∨ c = 116)
noncomputable def isLw (c : Int) : Bool := decide (c = 109 ∨ c = 99 ∨ c = 98 ∨ c = 101 ∨ c = 100 ∨ c = 120)
noncomputable def flt (f : Int) (p : Nat) : Int := -1000 * f - p
/-- digits, k at most -/
noncomputable def nds (t : TB) (n : Nat) : Nat → Nat → Int → Nat × Int
  | 0, p, v => (p, v)
  | k + 1, p, v => if dgt (cu t n p) then nds t n k (p + 1) (10 * v + cu t n p - 48) else (p, v)
noncomputable def rdN (t : TB) (n : Nat) (most : Int) (p : Nat) : Int ⊕ (Nat × Int) :=
  if dgt (cu t n p) = false then .inl (flt 1 p)
  else if dgt (cu t n (nds t n 6 p 0).1) then .inl (flt 2 (nds t n 6 p 0).1)
  else if most < (nds t n 6 p 0).2 then .inl (flt 3 p)
  else .inr (nds t n 6 p 0)
noncomputable def facG (t : TB) (n : Nat) (rec : Nat → Nat → PR) (o p : Nat) : PR :=
  if cu t n p = 91 then
    (if 8 ≤ o then .inl (flt 5 p) else match rec (o + 1) (p + 1) with
      | .inl e => .inl e
      | .inr (q, g) => if cu t n q = 93 then .inr (q + 1, g) else .inl (flt 1 q))
  else if dgt (cu t n p) then (match rdN t n 999999 p with
    | .inl e => .inl e
    | .inr (q, v) => .inr (q, [(0, v)]))
  else if isVl (cu t n p) then .inr (p + 1, [(1, cu t n p)])
  else .inl (flt 1 p)
/-- a row of parts joined by signs of one rank, each sign's code behind its two parts -/
noncomputable def rowL (t : TB) (n : Nat) (is : Int → Bool) (part : Nat → PR) : Nat → Nat → CD → PR
  | 0, p, g => .inr (p, g)
  | k + 1, p, g => if is (cu t n p) then (match part (p + 1) with
      | .inl e => .inl e
      | .inr (q, g2) => rowL t n is part k q (g ++ g2 ++ [(cu t n p, 0)]))
    else .inr (p, g)
noncomputable def rowG (t : TB) (n : Nat) (is : Int → Bool) (part : Nat → PR) (p : Nat) : PR := match part p with
  | .inl e => .inl e
  | .inr (q, g) => rowL t n is part 200 q g
noncomputable def terG (t : TB) (n : Nat) (rec : Nat → Nat → PR) (o p : Nat) : PR := rowG t n isTm (facG t n rec o) p
noncomputable def rdE (t : TB) (n : Nat) : Nat → Nat → Nat → PR
  | 0 => fun _ p => .inl (flt 1 p)
  | f + 1 => fun o p => rowG t n isPm (terG t n (rdE t n f) o) p
noncomputable def isAnd (c : Int) : Bool := decide (c = 38)
noncomputable def isOr (c : Int) : Bool := decide (c = 124)
noncomputable def cmpG (t : TB) (n o p : Nat) : PR := match rdE t n 9 o p with
  | .inl e => .inl e
  | .inr (q, g) => if isSg (cu t n q) then (match rdE t n 9 o (q + 1) with
      | .inl e => .inl e
      | .inr (r, g2) => .inr (r, g ++ g2 ++ [(cu t n q, 0)]))
    else .inl (flt 1 q)
noncomputable def pieG (t : TB) (n : Nat) (recP recC : Nat → Nat → PR) (o p : Nat) : PR :=
  if cu t n p = 33 then
    (if 8 ≤ o then .inl (flt 5 p) else match recP (o + 1) (p + 1) with
      | .inl e => .inl e
      | .inr (q, g) => .inr (q, g ++ [(3, 0)]))
  else if cu t n p = 40 then
    (if 8 ≤ o then .inl (flt 5 p) else match recC (o + 1) (p + 1) with
      | .inl e => .inl e
      | .inr (q, g) => if cu t n q = 41 then .inr (q + 1, g) else .inl (flt 1 q))
  else if cu t n p = 117 then (match rdN t n 39 (p + 1) with
    | .inl e => .inl e
    | .inr (q, v) => .inr (q, [(2, v)]))
  else cmpG t n o p
noncomputable def cndG (t : TB) (n : Nat) (pie : Nat → PR) (p : Nat) : PR := rowG t n isOr (rowG t n isAnd pie) p
noncomputable def rdP (t : TB) (n : Nat) : Nat → Nat → Nat → PR
  | 0 => fun _ p => .inl (flt 1 p)
  | f + 1 => fun o p => pieG t n (rdP t n f) (fun o p => cndG t n (rdP t n f o) p) o p
/-- a condition behind its first bracket -/
noncomputable def rdC (t : TB) (n p : Nat) : PR := cndG t n (rdP t n 9 1) p
/-- a clause: letter, number, the other number, code -/
abbrev CL : Type := Int × Int × Int × CD
noncomputable def rdK (t : TB) (n : Nat) (law : Bool) (many : Nat) (p : Nat) : Int ⊕ (Nat × CL) :=
  if isWd (cu t n p) = false ∧ isLw (cu t n p) = false then .inl (flt 1 p)
  else if law = false ∧ isLw (cu t n p) = true then .inl (flt 6 p)
  else if many = 16 then .inl (flt 4 p)
  else if isWd (cu t n p) then
    (if cu t n (p + 1) = 40 then (match rdC t n (p + 2) with
      | .inl e => .inl e
      | .inr (q, g) => if cu t n q = 41 then
          (if cu t n p = 115 then (if 49 ≤ cu t n (q + 1) ∧ cu t n (q + 1) ≤ 57 then .inr (q + 2, (115, cu t n (q + 1) - 48, 0, g)) else .inl (flt 1 (q + 1)))
           else .inr (q + 1, (cu t n p, 0, 0, g)))
        else .inl (flt 1 q))
     else .inl (flt 1 (p + 1)))
  else if cu t n p = 120 then (match rdN t n 19 (p + 1) with
    | .inl e => .inl e
    | .inr (q, v) => if cu t n q = 46 then (match rdN t n 15 (q + 1) with
        | .inl e => .inl e
        | .inr (r, u) => .inr (r, (120, v, u, [])))
      else .inl (flt 1 q))
  else (match rdN t n (if cu t n p = 109 ∨ cu t n p = 99 then 100 else 999999) (p + 1) with
    | .inl e => .inl e
    | .inr (q, v) => .inr (q, (cu t n p, v, 0, [])))
/-- a text: its clauses with their places -/
abbrev TXT : Type := List (Nat × CL)
noncomputable def rdTL (t : TB) (n : Nat) (law : Bool) : Nat → Nat → TXT → Int ⊕ TXT
  | 0, p, _ => .inl (flt 4 p)
  | k + 1, p, acc => match rdK t n law acc.length p with
    | .inl e => .inl e
    | .inr (q, c) => if q < n then (if cu t n q = 59 then rdTL t n law k (q + 1) (acc ++ [(p, c)]) else .inl (flt 1 q)) else .inr (acc ++ [(p, c)])
noncomputable def rdT (t : TB) (n : Nat) (law : Bool) : Int ⊕ TXT := rdTL t n law 17 0 []
/-- the codes of the clauses ahead of the j-th -/
noncomputable def cds (x : TXT) (j : Nat) : CD := ((x.take j).map fun q => q.2.2.2.2).flatten
/-- what the class keeps of a clause's numbers -/
noncomputable def vlu (c : CL) : Int := if c.1 = 120 then c.2.1 * 16 + c.2.2.1 else c.2.1
/-! the state -/
/-- is head a under b? -/
noncomputable def und (p : Nat → Int) : Nat → Nat → Nat → Bool
  | 0, a, b => a == b
  | n + 1, a, b => a == b || (decide (0 ≤ p a) && und p n (p a).toNat b)
noncomputable def yr (x : Int) : Int := idiv x 360
/-- the claim c was paid in the year y (of the reference's state) -/
noncomputable def pin (h : Nat → Nat → Int) (c : Nat) (y : Int) : Bool := decide (h 115 c ≠ -1 ∧ yr (h 115 c) = y)
/-- by what it counts -/
noncomputable def cby (h : Nat → Nat → Int) (c : Nat) : Int := if h 116 c ≠ -1 ∧ h 97 (h 116 c).toNat = 4 ∧ h 102 (h 116 c).toNat ≠ -1 then h 102 (h 116 c).toNat else h 116 c
noncomputable def nClaims (h : Nat → Nat → Int) : Nat := (h 72 52).toNat
/-- paid by v in y -/
noncomputable def pby (h : Nat → Nat → Int) (v y : Int) : Int := sm (fun c => if pin h c y = true ∧ cby h c = v then h 111 c else 0) (nClaims h)
/-- paid of the contract k in y -/
noncomputable def pct (h : Nat → Nat → Int) (k y : Int) : Int := sm (fun c => if pin h c y = true ∧ h 112 c = k then h 111 c else 0) (nClaims h)
noncomputable def GT (h : Nat → Nat → Int) : Prop := h 15 0 = h 72 2 ∧ 0 ≤ h 72 2 ∧ h 72 2 < 3600
noncomputable def GC (h : Nat → Nat → Int) : Prop := h 15 1 = h 72 3 ∧ w64 (h 72 3) = h 72 3
noncomputable def GX (h : Nat → Nat → Int) : Prop := h 15 2 = h 72 106 ∧ 0 ≤ h 72 106 ∧ h 72 106 ≤ 9
noncomputable def GB (h : Nat → Nat → Int) : Prop := h 15 4 = h 72 1 ∧ 0 ≤ h 72 1 ∧ h 72 1 ≤ 400 ∧ ∀ k, k < 400 → h 16 k = h 73 k
/-- heads of the reference -/
noncomputable def RP (h : Nat → Nat → Int) : Prop := (0 ≤ h 72 4 ∧ h 72 4 ≤ 40) ∧ (0 ≤ h 72 5 ∧ h 72 5 ≤ 16) ∧ (∀ i : Nat, (i : Int) < h 72 4 → -1 ≤ h 74 i ∧ h 74 i < i) ∧
  ∀ i : Nat, (i : Int) < h 72 5 → 0 ≤ h 75 i ∧ h 75 i < h 72 4 ∧ 1 ≤ h 76 i ∧ h 76 i ≤ 9
noncomputable def GP (h : Nat → Nat → Int) : Prop := RP h ∧ h 17 1 = h 72 4 ∧ h 17 5 = h 72 5 ∧
  (∀ i : Nat, (i : Int) < h 72 4 → 0 ≤ h 18 i ∧ h 18 i < 1099511627776 ∧ ∀ b : Nat, (h 18 i).toNat.testBit b = und (h 74) i i b) ∧
  (∀ i : Nat, (i : Int) < h 72 5 → h 19 i = h 75 i ∧ h 20 i = h 76 i) ∧
  ∀ i : Nat, i < 16 → h 21 i = h 77 i
/-- a cell of a shape, apart from the fixed ones -/
noncomputable def isO (S : AH) (a : Nat) (t n : Nat) : Prop := 151 ≤ a ∧ a < S.1.1 ∧ S.1.2.2 a = (t, n)
/-- the bytes of a cell -/
noncomputable def byt (h : Nat → Nat → Int) (a : Nat) : TB := fun k => iand (h a k) 255
/-- the reference's text t is x -/
noncomputable def RX (h : Nat → Nat → Int) (t : Nat) (x : TXT) : Prop := h 78 t = x.length ∧ x.length ≤ 16 ∧ (∀ (j : Nat) (q : Nat × CL), x[j]? = some q → h 79 (16 * t + j) = q.2.1 ∧ h 80 (16 * t + j) = q.2.2.1 ∧ h 81 (16 * t + j) = q.2.2.2.1 ∧ h 82 (16 * t + j) = (cds x j).length ∧ h 83 (16 * t + j) = (cds x (j + 1)).length) ∧
  (cds x x.length).length ≤ 200 ∧ ∀ (i : Nat) (q : Int × Int), (cds x x.length)[i]? = some q → h 84 (200 * t + i) = q.1 ∧ h 85 (200 * t + i) = q.2
/-- the Text at a is x, read as a law's or as a vote's -/
noncomputable def CX2 (S : AH) (a : Nat) (law : Bool) (x : TXT) : Prop := (a = 27 ∧ x = []) ∨ (isO S a 19 3 ∧ ∃ b s v n : Nat, S.2 a 0 = b ∧ S.2 a 1 = s ∧ S.2 a 2 = v ∧ isO S b 0 n ∧ isO S s 2 x.length ∧ isO S v 2 x.length ∧ n ≤ 200 ∧ rdT (byt S.2 b) n law = .inr x ∧ ∀ (j : Nat) (q : Nat × CL), x[j]? = some q → S.2 s j = q.1 ∧ S.2 v j = vlu q.2)
noncomputable def TX (S : AH) (a t : Nat) : Prop := ∃ x : TXT, RX S.2 t x ∧ CX2 S a (decide (t < 20)) x
noncomputable def GL (S : AH) : Prop := S.2 31 4 = S.2 72 36 ∧ 0 ≤ S.2 72 36 ∧ S.2 72 36 ≤ 20 ∧ ∀ i : Nat, (i : Int) < S.2 72 36 → S.2 33 i = S.2 94 i ∧ S.2 34 i = S.2 95 i ∧ TX S (S.2 32 i).toNat i
noncomputable def auA (S : AH) (v : Nat) : Nat := (S.2 37 v).toNat
noncomputable def spA (S : AH) (v : Nat) : Nat := (S.2 (auA S v) 13).toNat
/-- the reference's authorities -/
noncomputable def RV (h : Nat → Nat → Int) : Prop := (0 ≤ h 72 40 ∧ h 72 40 ≤ 80) ∧
  (∀ v : Nat, (v : Int) < h 72 40 → (0 ≤ h 97 v ∧ h 97 v ≤ 4) ∧ (0 ≤ h 98 v ∧ h 98 v < h 72 4) ∧ (0 ≤ h 99 v ∧ h 99 v ≤ 1000000000) ∧ (0 ≤ h 100 v ∧ h 100 v ≤ 9) ∧ (0 ≤ h 104 v ∧ h 104 v < 3600) ∧
    (h 97 v = 1 → 0 ≤ h 102 v ∧ h 102 v < v ∧ h 97 (h 102 v).toNat ≠ 1 ∧ h 100 v = h 100 (h 102 v).toNat) ∧ (h 97 v = 4 → h 102 v = -1 ∨ (0 ≤ h 102 v ∧ h 102 v < h 72 40 ∧ h 97 (h 102 v).toNat = 0)) ∧ (h 97 v ≠ 1 → h 97 v ≠ 4 → h 102 v = -1)) ∧
  (∀ v : Nat, h 72 40 ≤ v → v < 80 → h 105 v = 0 ∧ h 106 v = 0 ∧ h 107 v = 0) ∧
  (0 ≤ h 72 70 ∧ h 72 70 ≤ 20) ∧ ∀ k : Nat, (k : Int) < h 72 70 → (0 ≤ h 124 k ∧ h 124 k < h 72 40 ∧ h 97 (h 124 k).toNat ≠ 1 ∧ h 97 (h 124 k).toNat ≠ 4) ∧ (0 ≤ h 125 k ∧ h 125 k ≤ 1000000000) ∧ 0 ≤ h 126 k ∧ h 126 k ≤ h 127 k ∧ h 127 k ≤ 9
/-- one authority of the class -/
noncomputable def AV (S : AH) (v : Nat) : Prop := isO S (auA S v) 11 14 ∧ isO S (spA S v) 3 10 ∧ S.2 (auA S v) 0 = S.2 97 v ∧ S.2 (auA S v) 1 = S.2 98 v ∧ S.2 (auA S v) 2 = S.2 99 v ∧ S.2 (auA S v) 3 = S.2 100 v ∧ S.2 (auA S v) 4 = S.2 104 v ∧
  S.2 (auA S v) 6 = (if S.2 97 v = 1 then S.2 102 v else -1) ∧ S.2 (auA S v) 8 = (if S.2 97 v = 1 then -1 else S.2 102 v) ∧ S.2 (auA S v) 7 = S.2 101 v ∧ S.2 (auA S v) 9 = S.2 103 v ∧ S.2 (auA S v) 10 = S.2 105 v ∧
  S.2 (auA S v) 11 = S.2 106 v ∧ S.2 (auA S v) 12 = S.2 107 v ∧ TX S (S.2 (auA S v) 5).toNat (20 + v) ∧ (S.2 97 v ≠ 1 → ∀ y : Nat, y < 10 → S.2 (spA S v) y = pby S.2 v y ∧ (S.2 97 v = 4 → (y : Int) ≠ S.2 100 v → pby S.2 v y = 0))
noncomputable def GV (S : AH) : Prop := RV S.2 ∧ S.2 36 1 = S.2 72 40 ∧ S.2 36 7 = S.2 72 70 ∧ (∀ v : Nat, (v : Int) < S.2 72 40 → AV S v) ∧
  (∀ v w : Nat, (v : Int) < S.2 72 40 → (w : Int) < S.2 72 40 → (auA S v = auA S w ∨ spA S v = spA S w) → v = w) ∧
  (∀ k : Nat, (k : Int) < S.2 72 70 → S.2 38 k = S.2 124 k ∧ S.2 39 k = S.2 125 k ∧ S.2 40 k = S.2 126 k ∧ S.2 41 k = S.2 127 k) ∧
  ∀ k y : Nat, k < 20 → y < 10 → S.2 42 (k * 10 + y) = pct S.2 k y
/-- the reference's claims -/
noncomputable def RK (h : Nat → Nat → Int) : Prop := (0 ≤ h 72 52 ∧ h 72 52 ≤ 300) ∧ (0 ≤ h 72 53 ∧ h 72 53 ≤ h 72 52) ∧ (0 ≤ h 72 102 ∧ h 72 102 ≤ 100) ∧
  (∀ c : Nat, (c : Int) < h 72 52 → (0 ≤ h 108 c ∧ h 108 c < h 72 5) ∧ (0 ≤ h 109 c ∧ h 109 c < h 72 4) ∧ (0 ≤ h 110 c ∧ h 110 c ≤ 9) ∧ (1 ≤ h 111 c ∧ h 111 c ≤ 1000000000) ∧ (-1 ≤ h 112 c ∧ h 112 c < h 72 70) ∧ (0 ≤ h 114 c ∧ h 114 c < 65536) ∧
    (h 115 c = -1 ∧ h 116 c = -1 ∨ (0 ≤ h 115 c ∧ h 115 c < 3600) ∧ (0 ≤ h 116 c ∧ h 116 c < h 72 40 ∧ h 97 (h 116 c).toNat ≠ 1) ∧ 0 ≤ h 117 c ∧ h 117 c < h 72 53) ∧ (h 113 c = 0 ∨ h 113 c = 1) ∧ (h 119 c = 0 ∨ h 119 c = 1) ∧ (h 120 c = 0 ∨ h 120 c = 1) ∧ (h 121 c = 0 ∨ h 121 c = 1) ∧ (0 ≤ h 122 c ∧ h 122 c ≤ h 111 c) ∧ 0 ≤ h 123 c ∧ h 123 c ≤ h 111 c) ∧
  (∀ c : Nat, h 72 52 ≤ c → c < 300 → h 114 c = 0 ∧ h 118 c = 0 ∧ h 119 c = 0 ∧ h 120 c = 0 ∧ h 121 c = 0 ∧ h 122 c = 0 ∧ h 123 c = 0) ∧
  ∀ f : Nat, (f : Int) < h 72 102 → (0 ≤ h 147 f ∧ h 147 f < h 72 52 ∧ h 115 (h 147 f).toNat ≠ -1) ∧ 1 ≤ h 148 f ∧ h 148 f ≤ 1000000000
noncomputable def clA (S : AH) (c : Nat) : Nat := (S.2 44 c).toNat
/-- one claim of the class -/
noncomputable def AK (S : AH) (c : Nat) : Prop := isO S (clA S c) 12 15 ∧ S.2 (clA S c) 0 = S.2 108 c ∧ S.2 (clA S c) 1 = S.2 109 c ∧ S.2 (clA S c) 2 = S.2 110 c ∧ S.2 (clA S c) 3 = S.2 111 c ∧ S.2 (clA S c) 4 = S.2 112 c ∧ S.2 (clA S c) 5 = S.2 113 c ∧ S.2 (clA S c) 6 = S.2 114 c ∧
  S.2 (clA S c) 7 = S.2 115 c ∧ S.2 (clA S c) 8 = S.2 116 c ∧ S.2 (clA S c) 9 = cby S.2 c ∧ S.2 (clA S c) 10 = S.2 118 c ∧ S.2 (clA S c) 11 = S.2 119 c ∧ S.2 (clA S c) 12 = S.2 120 c ∧ S.2 (clA S c) 13 = (if S.2 121 c = 1 then S.2 122 c else -1) ∧ S.2 (clA S c) 14 = S.2 123 c
noncomputable def GK (S : AH) : Prop := RK S.2 ∧ S.2 43 1 = S.2 72 52 ∧ S.2 43 3 = S.2 72 53 ∧ S.2 43 9 = S.2 72 102 ∧ (∀ c : Nat, (c : Int) < S.2 72 52 → AK S c) ∧
  (∀ c e : Nat, (c : Int) < S.2 72 52 → (e : Int) < S.2 72 52 → clA S c = clA S e → c = e) ∧
  (∀ i : Nat, (i : Int) < S.2 72 53 → 0 ≤ S.2 45 i ∧ S.2 45 i < S.2 72 52 ∧ S.2 115 (S.2 45 i).toNat ≠ -1 ∧ S.2 117 (S.2 45 i).toNat = i) ∧
  (∀ c : Nat, (c : Int) < S.2 72 52 → S.2 115 c ≠ -1 → S.2 45 (S.2 117 c).toNat = c) ∧
  S.2 43 4 = sm (fun c => if S.2 115 c ≠ -1 then S.2 111 c else 0) (nClaims S.2) ∧ (∀ y : Nat, y < 10 → S.2 46 y = S.2 146 y ∧ 0 ≤ S.2 146 y ∧ S.2 146 y ≤ 1000000000) ∧
  ∀ f : Nat, (f : Int) < S.2 72 102 → S.2 47 f = S.2 147 f ∧ S.2 48 f = S.2 148 f ∧ S.2 49 f = S.2 149 f
noncomputable def GU (h : Nat → Nat → Int) : Prop := (0 ≤ h 72 79 ∧ h 72 79 ≤ 14) ∧ h 50 4 = h 72 79 ∧ (∀ k : Nat, (k : Int) < h 72 79 → h 51 k = h 130 k ∧ h 52 k = h 131 k ∧ (0 ≤ h 130 k ∧ h 130 k ≤ 1000000000) ∧ (0 ≤ h 131 k ∧ h 131 k ≤ 1000000) ∧ (h 132 k = 0 ∨ h 132 k = 1)) ∧
  (∀ k : Nat, (k : Int) ≤ h 72 79 → h 53 k = sm (h 131) k) ∧ (0 ≤ h 50 3 ∧ h 50 3 < 2 ^ (h 72 79).toNat) ∧ ∀ k : Nat, (k : Int) < h 72 79 → ((h 50 3).toNat.testBit k = decide (h 132 k = 1))
noncomputable def GW (h : Nat → Nat → Int) : Prop := (∀ i : Nat, i < 3120 → h 55 i = h 133 i ∧ 0 ≤ h 133 i ∧ h 133 i ≤ 1000000000) ∧ h 54 1 = h 72 85 ∧ (∀ i : Nat, i < 520 → h 56 i = h 134 i) ∧ (0 ≤ h 72 87 ∧ h 72 87 ≤ 9) ∧ h 54 7 = h 72 87 ∧
  ∀ o : Nat, (o : Int) < h 72 87 → (h 57 o = h 135 o ∧ h 58 o = h 136 o ∧ h 59 o = h 137 o ∧ h 60 o = h 138 o) ∧ (0 ≤ h 135 o ∧ h 135 o ≤ 1000000000) ∧ (0 ≤ h 136 o ∧ h 136 o ≤ 51) ∧ (1 ≤ h 137 o ∧ h 137 o ≤ 51) ∧ 0 ≤ h 138 o ∧ h 138 o ≤ 1000000000
noncomputable def GN (h : Nat → Nat → Int) : Prop := (0 ≤ h 72 92 ∧ h 72 92 ≤ 12) ∧ h 63 2 = h 72 92 ∧ (∀ b : Nat, (b : Int) < h 72 92 → h 64 b = h 139 b ∧ h 65 b = h 140 b ∧ (1 ≤ h 139 b ∧ h 139 b ≤ 1000000000) ∧ 0 ≤ h 140 b ∧ h 140 b ≤ 9999) ∧ (0 ≤ h 72 93 ∧ h 72 93 ≤ 30) ∧ h 63 10 = h 72 93 ∧ h 63 11 = h 72 86 ∧
  ∀ i : Nat, (i : Int) < h 72 93 → (h 68 i = h 142 i ∧ h 69 i = h 143 i ∧ h 70 i = h 144 i ∧ h 71 i = h 145 i) ∧ (1 ≤ h 142 i ∧ h 142 i ≤ 1000000000) ∧ (0 ≤ h 143 i ∧ h 143 i ≤ 9999) ∧ (0 ≤ h 144 i ∧ h 144 i < 3600)
/-- what holds between two calls -/
noncomputable def Inv (S : AH) : Prop := 151 ≤ S.1.1 ∧ GT S.2 ∧ GC S.2 ∧ GX S.2 ∧ GB S.2 ∧ GP S.2 ∧ GL S ∧ GV S ∧ GK S ∧ GU S.2 ∧ GW S.2 ∧ GN S.2
/-- how much a call makes at most -/
noncomputable def Gw (S S' : AH) : Prop := S'.1.1 ≤ S.1.1 + 1000 ∧ S'.1.2.1 ≤ S.1.2.1 + 10000
/-- class and reference answer alike, and it goes on -/
noncomputable def Ok (L : Nat) (xs : Nat → Int) (mx mm : Nat) (as : List TV) (S : AH) : Prop := ∃ (r : Int) (S1 S2 : AH), ev (WK L xs) 200 mx (vr 15 :: as) S = some (r, S1) ∧ ev (WK L xs) 200 mm (vr 72 :: as) S1 = some (r, S2) ∧ Inv S2 ∧ Gw S S2
