/-! an int by its bits (begun with the kit's starting text on bits) -/
def tb (x : Int32) (i : Nat) : Bool := x.toBitVec.getLsbD i
theorem tb_ext {x y : Int32} (h : ∀ i, i < 32 → tb x i = tb y i) : x = y := Int32.toBitVec_inj.mp (BitVec.eq_of_getLsbD_eq (fun i hi => h i hi))
theorem tb_or (x y : Int32) (i : Nat) : tb (x ||| y) i = (tb x i || tb y i) := by unfold tb; rw [Int32.toBitVec_or, BitVec.getLsbD_or]
theorem tb_and (x y : Int32) (i : Nat) : tb (x &&& y) i = (tb x i && tb y i) := by unfold tb; rw [Int32.toBitVec_and, BitVec.getLsbD_and]
theorem tb_xor (x y : Int32) (i : Nat) : tb (x ^^^ y) i = (tb x i ^^ tb y i) := by unfold tb; rw [Int32.toBitVec_xor, BitVec.getLsbD_xor]
theorem tb_m1 : ∀ i, i < 32 → tb (-1) i = true := by decide +kernel
theorem tb_0 (i : Nat) : tb 0 i = false := BitVec.getLsbD_zero
theorem tb_1 : ∀ i, i < 32 → tb 1 i = decide (i = 0) := by decide +kernel
theorem tb_sl : ∀ n, n < 32 → ((nI n &&& 31).toBitVec.smod 32).toNat = n := by decide +kernel
theorem tb_shl (n : Nat) (hn : n < 32) (x : Int32) {i : Nat} (hi : i < 32) : tb (x <<< (nI n &&& 31)) i = (decide (n ≤ i) && tb x (i - n)) := by
  unfold tb
  rw [Int32.toBitVec_shiftLeft]
  show (x.toBitVec <<< ((nI n &&& 31).toBitVec.smod 32).toNat).getLsbD i = _
  rw [tb_sl n hn, BitVec.getLsbD_shiftLeft]
  rcases Nat.lt_or_ge i n with h | h
  · simp [h, Nat.not_le.mpr h]
  · simp [hi, h, Nat.not_lt.mpr h]
theorem tb_shr (n : Nat) (hn : n < 32) (x : Int32) {i : Nat} (hi : i < 32) : tb (x >>> (nI n &&& 31)) i = if n + i < 32 then tb x (n + i) else tb x 31 := by
  unfold tb
  rw [Int32.toBitVec_shiftRight]
  show (x.toBitVec.sshiftRight ((nI n &&& 31).toBitVec.smod 32).toNat).getLsbD i = _
  rw [tb_sl n hn, BitVec.getLsbD_sshiftRight, BitVec.msb_eq_getLsbD_last]
  simp [hi]
/-- one bit -/
theorem tb_one (n : Nat) (hn : n < 32) {i : Nat} (hi : i < 32) : tb ((1 : Int32) <<< (nI n &&& 31)) i = decide (i = n) := by
  rw [tb_shl n hn 1 hi, tb_1 _ (by omega)]
  by_cases h : i = n
  · subst h; simp
  · by_cases h2 : n ≤ i
    · have : ¬ i - n = 0 := by omega
      simp [h, h2, this]
    · simp [h, h2]
theorem tb_get (w : Int32) (n : Nat) (hn : n < 32) : ((w >>> (nI n &&& 31)) &&& 1 = 1) ↔ tb w n = true := by
  have e0 : tb ((w >>> (nI n &&& 31)) &&& 1) 0 = tb w n := by
    rw [tb_and, tb_shr n hn w (by omega), tb_1 0 (by omega), if_pos (by omega)]
    simp
  constructor
  · intro h
    rw [h] at e0
    rw [← e0]
    exact tb_1 0 (by omega)
  · intro h
    refine tb_ext fun i hi => ?_
    by_cases c : i = 0
    · rw [c, e0, h, tb_1 0 (by omega)]
      rfl
    · rw [tb_and, tb_1 i hi, decide_eq_false c, Bool.and_false]
theorem or_0 (x : Int32) : x ||| 0 = x := tb_ext fun i _ => by rw [tb_or, tb_0, Bool.or_false]
/-- a set, told by bits -/
def oS (p : Nat → Bool) : Nat → Int32
  | 0 => 0
  | n + 1 => if p n = true then oS p n ||| ((1 : Int32) <<< (nI n &&& 31)) else oS p n
theorem tb_oS {p : Nat → Bool} : ∀ {n i : Nat}, n ≤ 32 → i < 32 → tb (oS p n) i = (decide (i < n) && p i)
  | 0, i, _, _ => by
    show tb 0 i = _
    rw [tb_0]
    simp
  | n + 1, i, hn, hi => by
    have ih := tb_oS (p := p) (n := n) (i := i) (by omega) hi
    show tb (if p n = true then oS p n ||| ((1 : Int32) <<< (nI n &&& 31)) else oS p n) i = _
    by_cases e : i = n
    · subst e
      have h1 : decide (i < i) = false := decide_eq_false (by omega)
      have h2 : decide (i < i + 1) = true := decide_eq_true (by omega)
      rw [h1] at ih
      rw [h2]
      cases hp : p i with
      | true => rw [if_pos rfl, tb_or, ih, tb_one i hi hi]; simp
      | false => rw [if_neg (by decide), ih]; simp
    · have h1 : decide (i < n + 1) = decide (i < n) := by
        by_cases c : i < n
        · rw [decide_eq_true c, decide_eq_true (by omega)]
        · rw [decide_eq_false c, decide_eq_false (by omega)]
      rw [h1, ← ih]
      cases hp : p n with
      | true => rw [if_pos rfl, tb_or, tb_one n (by omega) hi, decide_eq_false e, Bool.or_false]
      | false => rw [if_neg (by decide)]
theorem oS_cg {p q : Nat → Bool} : ∀ {n : Nat}, (∀ i, i < n → p i = q i) → oS p n = oS q n
  | 0, _ => rfl
  | n + 1, h => by
    show (if p n = true then oS p n ||| _ else oS p n) = (if q n = true then oS q n ||| _ else oS q n)
    rw [h n (by omega), oS_cg (n := n) (fun i hi => h i (by omega))]
theorem oS_z {p : Nat → Bool} {n : Nat} (hn : n ≤ 32) : oS p n = 0 ↔ ∀ i, i < n → p i = false := by
  constructor
  · intro h i hi
    have := tb_oS (p := p) hn (i := i) (by omega)
    rw [h, tb_0, decide_eq_true hi, Bool.true_and] at this
    exact this.symm
  · intro h
    refine tb_ext fun i hi => ?_
    rw [tb_oS hn hi, tb_0]
    by_cases c : i < n
    · rw [h i c, Bool.and_false]
    · rw [decide_eq_false c, Bool.false_and]
/-- the model's way to add a bit -/
theorem oS_or (p : Nat → Bool) (n : Nat) : oS p n ||| (if p n = true then ((1 : Int32) <<< (nI n &&& 31)) else 0) = oS p (n + 1) := by
  show _ = (if p n = true then oS p n ||| ((1 : Int32) <<< (nI n &&& 31)) else oS p n)
  cases p n with
  | true => rw [if_pos rfl, if_pos rfl]
  | false => rw [if_neg (by decide), if_neg (by decide), or_0]
/-- how many -/
def cS (p : Nat → Bool) : Nat → Int32
  | 0 => 0
  | n + 1 => if p n = true then cS p n + 1 else cS p n
