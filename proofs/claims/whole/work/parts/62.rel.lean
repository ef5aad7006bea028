/-! THE COUPLING of class and model: both are tied to one pure picture -/
/-- a rule: KIND, DO (0 free, 1 dear, 2 slow, 3 stop), figure, the condition by the facts (0 LEVEL, 1 CRANK, 2 PHASE, 3 PRICE, 4 number) -/
abbrev aR : Type := Int32 × Int32 × Int32 × ((Nat → Int32) → Bool)
/-- what keep() keeps. Row 0: how many animals, LEVEL, TURN, how many children, how many photographs; rows 1 to 4: KIND, CRANK, PHASE, PRICE; 5 to 7: WISH, COINS, RIDES (-9: none); 8 to 10: a photograph's animal, turn, height. Then the rules. -/
abbrev aK : Type := (Nat → Nat → Int32) × List aR
def aN (a : aK) : Nat := (a.1 0 0).toNatClampNeg
def aM (a : aK) : Nat := (a.1 0 3).toNatClampNeg
def aP (a : aK) : Nat := (a.1 0 4).toNatClampNeg
def bt (x : Int32) (lo hi : Int) : Prop := lo ≤ x.toInt ∧ x.toInt ≤ hi
/-- what can be -/
def vS (a : aK) : Prop := (a.1 0 0 = nI (aN a) ∧ aN a ≤ 9) ∧ (a.1 0 3 = nI (aM a) ∧ aM a ≤ 8) ∧ (a.1 0 4 = nI (aP a) ∧ aP a ≤ 6) ∧ bt (a.1 0 1) 0 7 ∧ bt (a.1 0 2) 0 9999
def vA (a : aK) : Prop := ∀ i, i < aN a → bt (a.1 1 i) 1 5 ∧ bt (a.1 2 i) 2 12 ∧ bt (a.1 3 i) 0 11 ∧ bt (a.1 4 i) 0 99
def vC (a : aK) : Prop := ∀ c, c < aM a → bt (a.1 5 c) 0 (2 ^ aN a - 1) ∧ bt (a.1 6 c) 0 999 ∧ (a.1 7 c = -9 ∨ ∃ i, i < aN a ∧ a.1 7 c = nI i)
def vP (a : aK) : Prop := ∀ k, k < aP a → (∃ i, i < aN a ∧ a.1 8 k = nI i) ∧ bt (a.1 9 k) 0 9999 ∧ bt (a.1 10 k) 0 9
def vR (a : aK) : Prop := a.2.length ≤ 8 ∧ ∀ r ∈ a.2, bt r.1 0 5 ∧ bt r.2.1 0 3 ∧ bt r.2.2.1 0 99
def vK (a : aK) : Prop := vS a ∧ vA a ∧ vC a ∧ vP a ∧ vR a
/-! the class's rules: a comparison is one int, operands stand ahead of operators -/
def cVal (v : Int32) (f : Nat → Int32) : Int32 := if ¬ v < 10000 ∧ v < 10005 then f (v - 10000).toNatClampNeg else v
def cCmp (c : Int32) (f : Nat → Int32) : Bool :=
  let x := cVal ((c >>> (14 &&& 31)) &&& 16383) f
  let y := cVal (c &&& 16383) f
  if c >>> (28 &&& 31) = 1 then decide (x < y) else if c >>> (28 &&& 31) = 2 then decide (x = y) else decide (y < x)
def cStep (f : Nat → Int32) (an c : Int32) : Int32 :=
  if c = 0 then an ^^^ 1 else if c = 1 then (if an &&& 1 = 1 then an >>> (1 &&& 31) else (an >>> (1 &&& 31)) &&& (-2)) else if c = 2 then (an >>> (1 &&& 31)) ||| (an &&& 1) else (an <<< (1 &&& 31)) ||| (if cCmp c f then 1 else 0)
def cRun (co : Nat → Int32) (f : Nat → Int32) (i : Nat) : Nat → Int32 → Int32
  | 0, an => an
  | n + 1, an => cRun co f (i + 1) n (cStep f an (co i))
def cRu (cnt : Int32) (kd de mo st co : Nat → Int32) (rs : List aR) : Prop := cnt = nI rs.length ∧ ∃ ss : Nat → Nat, ss 0 = 0 ∧ (∀ r, r ≤ rs.length → st r = nI (ss r) ∧ ss r ≤ 100) ∧ (∀ r, r < rs.length → ss r ≤ ss (r + 1)) ∧ ∀ (r : Nat) (x : aR), rs[r]? = some x → kd r = x.1 ∧ de r = x.2.1 ∧ mo r = x.2.2.1 ∧ ∀ f, (cRun co f (ss r) (ss (r + 1) - ss r) 1 &&& 1 = 1 ↔ x.2.2.2 f = true)
/-! the model's rules: values ahead of what is done with them, on a stack -/
def mFact (c : Int32) (f : Nat → Int32) : Int32 := if c = -1 then f 0 else if c = -2 then f 1 else if c = -3 then f 2 else if c = -4 then f 3 else if c = -5 then f 4 else c
def mHold (c x y : Int32) : Bool := if c = -11 then decide (x < y) else if c = -12 then decide (x = y) else if c = -13 then decide (y < x) else if c = -21 then decide (x = 1 ∧ y = 1) else decide (x = 1 ∨ y = 1)
def mStep (f : Nat → Int32) (st : List Int32) (c : Int32) : Option (List Int32) :=
  if -10 < c then some (mFact c f :: st) else if c = -20 then (match st with | x :: l => some ((1 - x) :: l) | [] => none) else (match st with | y :: x :: l => some ((if mHold c x y then 1 else 0) :: l) | _ => none)
def mRun (co : Nat → Int32) (f : Nat → Int32) (i : Nat) : Nat → List Int32 → Option (List Int32)
  | 0, st => some st
  | n + 1, st => (mStep f st (co i)).bind (mRun co f (i + 1) n)
def mRu (s : Nat → Int32) (rs : List aR) : Prop := s 1 = nI rs.length ∧ ∃ ss : Nat → Nat, ss 0 = 0 ∧ (∀ r, r < rs.length → s (87 + 4 * r) = nI (ss (r + 1)) ∧ ss r ≤ ss (r + 1)) ∧ (∀ r, r ≤ rs.length → ss r ≤ 200) ∧ ∀ (r : Nat) (x : aR), rs[r]? = some x → s (84 + 4 * r) = x.1 ∧ s (85 + 4 * r) = x.2.1 ∧ s (86 + 4 * r) = x.2.2.1 ∧ ∀ f, mRun (fun k => s (116 + k)) f (ss r) (ss (r + 1) - ss r) [] = some (if ss r = ss (r + 1) then [] else [if x.2.2.2 f then 1 else 0]) ∧ (ss r = ss (r + 1) → x.2.2.2 f = true)
/-! the class's and the model's part, each against the picture -/
def cKr (rg kd ck ph pr ch wi co ri po of tu he rb rk rd rm rs rc : Nat → Int32) (a : aK) : Prop :=
  (rg 4 = a.1 0 0 ∧ rg 5 = a.1 0 1 ∧ rg 6 = a.1 0 2 ∧ ch 3 = a.1 0 3 ∧ po 3 = a.1 0 4) ∧
  (∀ i, i < aN a → kd i = a.1 1 i ∧ ck i = a.1 2 i ∧ ph i = a.1 3 i ∧ pr i = a.1 4 i) ∧
  (∀ c, c < aM a → wi c = a.1 5 c ∧ co c = a.1 6 c ∧ ri c = a.1 7 c) ∧
  (∀ k, k < aP a → of k = a.1 8 k ∧ tu k = a.1 9 k ∧ he k = a.1 10 k) ∧
  cRu (rb 5) rk rd rm rs rc a.2
def cK (σ : sS) (a : aK) : Prop := cKr (σ.1 1) (σ.1 2) (σ.1 3) (σ.1 4) (σ.1 5) (σ.1 15) (σ.1 16) (σ.1 17) (σ.1 18) (σ.1 19) (σ.1 20) (σ.1 21) (σ.1 22) (σ.1 6) (σ.1 7) (σ.1 8) (σ.1 9) (σ.1 10) (σ.1 11) a
def cK2 (σ : sS) (a : aK) : Prop := cKr (σ.1 23) (σ.1 24) (σ.1 25) (σ.1 26) (σ.1 27) (σ.1 37) (σ.1 38) (σ.1 39) (σ.1 40) (σ.1 41) (σ.1 42) (σ.1 43) (σ.1 44) (σ.1 28) (σ.1 29) (σ.1 30) (σ.1 31) (σ.1 32) (σ.1 33) a
def rid (x : Int32) : Int32 := if x = -9 then 0 else x + 1
def mK (s : Nat → Int32) (a : aK) : Prop :=
  (s 0 = a.1 0 0 ∧ s 4 = a.1 0 1 ∧ s 5 = a.1 0 2 ∧ s 2 = a.1 0 3 ∧ s 3 = a.1 0 4) ∧
  (∀ i, i < aN a → s (6 + 4 * i) = a.1 1 i ∧ s (7 + 4 * i) = a.1 2 i ∧ s (8 + 4 * i) = a.1 3 i ∧ s (9 + 4 * i) = a.1 4 i) ∧
  (∀ c, c < aM a → s (42 + 3 * c) = a.1 5 c ∧ s (43 + 3 * c) = a.1 6 c ∧ s (44 + 3 * c) = rid (a.1 7 c)) ∧
  (∀ k, k < aP a → s (66 + 3 * k) = a.1 8 k ∧ s (67 + 3 * k) = a.1 9 k ∧ s (68 + 3 * k) = a.1 10 k) ∧
  mRu s a.2
/-- what is kept -/
def rKept (σ : sS) : Prop := (σ.1 0 6 = 0 ∧ σ.1 83 3 = 0) ∨ (σ.1 0 6 = 1 ∧ σ.1 83 3 = 1 ∧ ∃ b : aK, vK b ∧ cK2 σ b ∧ mK (σ.1 85) b)
def rTape (σ : sS) : Prop := ∃ n : Nat, (n ≤ 200 ∧ σ.1 50 0 = 0) ∧ σ.1 45 1 = nI n ∧ σ.1 83 18 = nI n ∧ ∀ k, k < n → σ.1 52 k = σ.1 97 k ∧ bt (σ.1 52 k) 0 255
def rRows (σ : sS) : Prop := ∃ n : Nat, n ≤ 20 ∧ σ.1 67 1 = nI n ∧ σ.1 83 16 = nI n ∧ ∀ k, k < 3 * n → σ.1 68 k = σ.1 96 k
def rSheets (σ : sS) : Prop := ∀ j, j < 4 → σ.1 70 j = σ.1 98 j ∧ bt (σ.1 70 j) (-1) 4 ∧ σ.1 71 j = σ.1 99 j ∧ bt (σ.1 71 j) 0 40 ∧ (σ.1 70 j = -1 → σ.1 71 j = 0) ∧ ∀ k, k < 40 → σ.1 (73 + j) k = σ.1 100 (40 * j + k)
def rShelf (σ : sS) (j : Nat) : Prop :=
  (σ.1 101 j = 0 ∧ σ.1 78 j = -3 ∧ σ.1 79 j = -1) ∨ (σ.1 101 j = 1 ∧ σ.1 79 j = -1 ∧ σ.1 78 j = σ.1 102 j ∧ bt (σ.1 78 j) 0 8) ∨ (σ.1 101 j = 2 ∧ σ.1 78 j = -3 ∧ σ.1 79 j = σ.1 103 j ∧ bt (σ.1 79 j) 0 4 ∧ σ.1 80 j = σ.1 102 j ∧ bt (σ.1 80 j) 0 40)
def rShelves (σ : sS) : Prop := ∀ j, j < 4 → rShelf σ j
def rTrace (σ : sS) : Prop := ∃ m : Nat, m ≤ 100000 ∧ σ.1 81 1 = nI (min m 30) ∧ σ.1 83 32 = nI m ∧ ∀ k, k < min m 30 → σ.1 82 k = σ.1 104 k
def Rel (σ : sS) : Prop := (∃ a : aK, vK a ∧ cK σ a ∧ mK (σ.1 84) a) ∧ rKept σ ∧ rTape σ ∧ rRows σ ∧ rSheets σ ∧ rShelves σ ∧ rTrace σ
/-- one call of both: the same answer, and coupled again -/
def Op (f g : sS → Option (Int32 × sS)) : Prop := ∀ σ, Rel σ → ∃ (r : Int32) (σ1 σ2 : sS), f σ = some (r, σ1) ∧ g σ1 = some (r, σ2) ∧ Rel σ2
