/-! pieces of rule code: what each pushes -/
theorem nI_shl (a : Nat) {s : Nat} (hs : s < 32) : nI a <<< (nI s &&& 31) = nI (a <<< s) := tb_ext fun i hi => by
  rw [tb_shl s hs _ hi, tb_nI _ hi, Nat.testBit_shiftLeft]
  by_cases c : s ≤ i
  · rw [tb_nI _ (by omega)]
  · rw [decide_eq_false c]
    rfl
theorem nI_shr {a s : Nat} (ha : a < 2 ^ 31) (hs : s < 32) : nI a >>> (nI s &&& 31) = nI (a >>> s) := tb_ext fun i hi => by
  rw [tb_shr s hs _ hi, tb_nI _ hi, Nat.testBit_shiftRight]
  by_cases c : s + i < 32
  · rw [if_pos c, tb_nI _ c]
  · rw [if_neg c, tb_nI _ (by omega), Nat.testBit_lt_two_pow ha, Nat.testBit_lt_two_pow (Nat.lt_of_lt_of_le ha (Nat.pow_le_pow_right (by omega) (by omega)))]
theorem nI_and (a b : Nat) : nI a &&& nI b = nI (a &&& b) := tb_ext fun i hi => by
  rw [tb_and, tb_nI _ hi, tb_nI _ hi, tb_nI _ hi, Nat.testBit_and]
theorem nI_xor (a b : Nat) : nI a ^^^ nI b = nI (a ^^^ b) := tb_ext fun i hi => by
  rw [tb_xor, tb_nI _ hi, tb_nI _ hi, tb_nI _ hi, Nat.testBit_xor]
theorem tb_m2 : ∀ i, i < 32 → tb (-2) i = decide (i ≠ 0) := by decide +kernel
theorem nI_m2 (m : Nat) : nI m &&& (-2) = nI (2 * (m / 2)) := tb_ext fun i hi => by
  rw [tb_and, tb_nI _ hi, tb_m2 i hi, tb_nI _ hi]
  cases i with
  | zero => simp [Nat.testBit_zero]
  | succ k => rw [Nat.testBit_succ, Nat.testBit_succ, show 2 * (m / 2) / 2 = m / 2 by omega]; simp
def b1 (x : Bool) : Nat := if x = true then 1 else 0
theorem b1_le (x : Bool) : b1 x ≤ 1 := by cases x <;> decide
theorem st_push (n : Nat) (x : Bool) : (nI n <<< (1 &&& 31)) ||| (if x = true then (1 : Int32) else 0) = nI (2 * n + b1 x) := by
  have e : (if x = true then (1 : Int32) else 0) = nI (b1 x) := by cases x <;> rfl
  have := b1_le x
  rw [e, show (1 : Int32) = nI 1 from rfl, nI_shl n (s := 1) (by omega), nI_or, ← Nat.shiftLeft_add_eq_or_of_lt (by omega), Nat.shiftLeft_eq]
  congr 1
  omega
theorem st_and {n : Nat} (hn : n < 2 ^ 29) (x y : Bool) : (if nI (2 * (2 * n + b1 x) + b1 y) &&& 1 = 1 then nI (2 * (2 * n + b1 x) + b1 y) >>> (1 &&& 31) else (nI (2 * (2 * n + b1 x) + b1 y) >>> (1 &&& 31)) &&& (-2)) = nI (2 * n + b1 (x && y)) := by
  have hx := b1_le x
  have hy := b1_le y
  have e1 : nI (2 * (2 * n + b1 x) + b1 y) &&& 1 = nI (b1 y) := by
    rw [show (1 : Int32) = nI 1 from rfl, nI_and, Nat.and_one_is_mod]
    congr 1
    omega
  have e2 : nI (2 * (2 * n + b1 x) + b1 y) >>> (1 &&& 31) = nI (2 * n + b1 x) := by
    rw [show (1 : Int32) = nI 1 from rfl, nI_shr (by omega) (by omega), Nat.shiftRight_eq_div_pow]
    congr 1
    omega
  rw [e1, e2, nI_m2]
  cases y with
  | true => rw [if_pos (show nI (b1 true) = 1 from rfl), Bool.and_true]
  | false =>
    rw [if_neg (by decide), Bool.and_false]
    congr 1
    show 2 * ((2 * n + b1 x) / 2) = 2 * n + 0
    omega
theorem or_one (n : Nat) (x y : Bool) : (2 * n + b1 x) ||| b1 y = 2 * n + b1 (x || y) := by
  have h : ∀ z : Bool, 2 * n + b1 z = n <<< 1 ||| b1 z := fun z => by
    have := b1_le z
    rw [← Nat.shiftLeft_add_eq_or_of_lt (by omega), Nat.shiftLeft_eq]
    omega
  rw [h, h, Nat.or_assoc]
  congr 1
  cases x <;> cases y <;> decide
theorem st_or {n : Nat} (hn : n < 2 ^ 29) (x y : Bool) : (nI (2 * (2 * n + b1 x) + b1 y) >>> (1 &&& 31)) ||| (nI (2 * (2 * n + b1 x) + b1 y) &&& 1) = nI (2 * n + b1 (x || y)) := by
  have hx := b1_le x
  have hy := b1_le y
  have e1 : nI (2 * (2 * n + b1 x) + b1 y) &&& 1 = nI (b1 y) := by
    rw [show (1 : Int32) = nI 1 from rfl, nI_and, Nat.and_one_is_mod]
    congr 1
    omega
  have e2 : nI (2 * (2 * n + b1 x) + b1 y) >>> (1 &&& 31) = nI (2 * n + b1 x) := by
    rw [show (1 : Int32) = nI 1 from rfl, nI_shr (by omega) (by omega), Nat.shiftRight_eq_div_pow]
    congr 1
    omega
  rw [e1, e2, nI_or, or_one]
theorem st_not (n : Nat) (x : Bool) : nI (2 * n + b1 x) ^^^ 1 = nI (2 * n + b1 (!x)) := by
  have hx := b1_le x
  have hx' := b1_le (!x)
  rw [show (1 : Int32) = nI 1 from rfl, nI_xor]
  congr 1
  refine Nat.eq_of_testBit_eq fun i => ?_
  rw [Nat.testBit_xor]
  cases i with
  | zero =>
    rw [Nat.testBit_zero, Nat.testBit_zero, Nat.testBit_zero]
    cases x
    · simp [b1]
    · simp [b1]
  | succ k => rw [Nat.testBit_succ, Nat.testBit_succ, Nat.testBit_succ, show (2 * n + b1 x) / 2 = n by omega, show (2 * n + b1 (!x)) / 2 = n by omega]; simp
theorem cRun_add (co f : Nat → Int32) : ∀ (n i k : Nat) (an : Int32), cRun co f i (n + k) an = cRun co f (i + n) k (cRun co f i n an)
  | 0, i, k, an => by rw [Nat.zero_add]; rfl
  | n + 1, i, k, an => by
    rw [show n + 1 + k = (n + k) + 1 by omega]
    show cRun co f (i + 1) (n + k) (cStep f an (co i)) = _
    rw [cRun_add co f n (i + 1) k, show i + 1 + n = i + (n + 1) by omega]
    rfl
theorem mRun_add (co f : Nat → Int32) : ∀ (n i k : Nat) (st : List Int32), mRun co f i (n + k) st = (mRun co f i n st).bind (mRun co f (i + n) k)
  | 0, i, k, st => by rw [Nat.zero_add]; rfl
  | n + 1, i, k, st => by
    rw [show n + 1 + k = (n + k) + 1 by omega]
    show (mStep f st (co i)).bind (mRun co f (i + 1) (n + k)) = ((mStep f st (co i)).bind (mRun co f (i + 1) n)).bind _
    cases mStep f st (co i) with
    | none => rfl
    | some s =>
      show mRun co f (i + 1) (n + k) s = (mRun co f (i + 1) n s).bind _
      rw [mRun_add co f n (i + 1) k s, show i + 1 + n = i + (n + 1) by omega]
/-- the piece from c to e pushes B, over K places at most below -/
def sgC (co : Nat → Int32) (K c e : Nat) (B : (Nat → Int32) → Bool) : Prop := c ≤ e ∧ ∀ f n, n < 2 ^ K → cRun co f c (e - c) (nI n) = nI (2 * n + b1 (B f))
def sgM (co : Nat → Int32) (c e : Nat) (B : (Nat → Int32) → Bool) : Prop := c ≤ e ∧ ∀ f st, mRun co f c (e - c) st = some ((if B f = true then (1 : Int32) else 0) :: st)
theorem sgC_cg {co co' : Nat → Int32} {K c e : Nat} {B : (Nat → Int32) → Bool} (h : ∀ k, c ≤ k → k < e → co' k = co k) (hs : sgC co K c e B) : sgC co' K c e B := ⟨hs.1, fun f n hn => by rw [cRun_cg _ _ _ (fun j h1 h2 => h j h1 (by have := hs.1; omega))]; exact hs.2 f n hn⟩
theorem sgM_cg {co co' : Nat → Int32} {c e : Nat} {B : (Nat → Int32) → Bool} (h : ∀ k, c ≤ k → k < e → co' k = co k) (hs : sgM co c e B) : sgM co' c e B := ⟨hs.1, fun f n => by rw [mRun_cg _ _ _ (fun j h1 h2 => h j h1 (by have := hs.1; omega))]; exact hs.2 f n⟩
theorem sgC_le {co : Nat → Int32} {K K' c e : Nat} {B : (Nat → Int32) → Bool} (h : K' ≤ K) (hs : sgC co K c e B) : sgC co K' c e B := ⟨hs.1, fun f n hn => hs.2 f n (Nat.lt_of_lt_of_le hn (Nat.pow_le_pow_right (by omega) h))⟩
theorem sgC_not {co : Nat → Int32} {K c e : Nat} {B : (Nat → Int32) → Bool} (hs : sgC co K c e B) (h : co e = 0) : sgC co K c (e + 1) (fun f => !B f) := ⟨by have := hs.1; omega, fun f n hn => by
  have := hs.1
  rw [show e + 1 - c = (e - c) + 1 by omega, cRun_succ, hs.2 f n hn, show c + (e - c) = e by omega, h]
  unfold cStep
  rw [if_pos rfl, st_not]⟩
theorem mS_not (f : Nat → Int32) (st : List Int32) (x : Bool) : mStep f ((if x = true then (1 : Int32) else 0) :: st) (-20) = some ((if (!x) = true then (1 : Int32) else 0) :: st) := by cases x <;> rfl
theorem mS_and (f : Nat → Int32) (st : List Int32) (x y : Bool) : mStep f ((if y = true then (1 : Int32) else 0) :: (if x = true then (1 : Int32) else 0) :: st) (-21) = some ((if (x && y) = true then (1 : Int32) else 0) :: st) := by cases x <;> cases y <;> rfl
theorem mS_or (f : Nat → Int32) (st : List Int32) (x y : Bool) : mStep f ((if y = true then (1 : Int32) else 0) :: (if x = true then (1 : Int32) else 0) :: st) (-22) = some ((if (x || y) = true then (1 : Int32) else 0) :: st) := by cases x <;> cases y <;> rfl
theorem sgM_not {co : Nat → Int32} {c e : Nat} {B : (Nat → Int32) → Bool} (hs : sgM co c e B) (h : co e = -20) : sgM co c (e + 1) (fun f => !B f) := ⟨by have := hs.1; omega, fun f st => by
  have := hs.1
  rw [show e + 1 - c = (e - c) + 1 by omega, mRun_snoc, hs.2 f st, show c + (e - c) = e by omega, h]
  exact mS_not f st (B f)⟩
theorem sgC_two {co : Nat → Int32} {K c d e : Nat} {A B : (Nat → Int32) → Bool} (hA : sgC co K c d A) (hB : sgC co (K + 1) d e B) : c ≤ e ∧ ∀ f n, n < 2 ^ K → cRun co f c (e - c) (nI n) = nI (2 * (2 * n + b1 (A f)) + b1 (B f)) := ⟨Nat.le_trans hA.1 hB.1, fun f n hn => by
  have h1 := hA.1
  have h2 := hB.1
  have h3 : 2 ^ (K + 1) = 2 * 2 ^ K := by rw [Nat.pow_succ, Nat.mul_comm]
  have h4 := b1_le (A f)
  rw [show e - c = (d - c) + (e - d) by omega, cRun_add, hA.2 f n (by omega), show c + (d - c) = d by omega, hB.2 f _ (by omega)]⟩
theorem sgC_and {co : Nat → Int32} {K c d e : Nat} {A B : (Nat → Int32) → Bool} (hK : K ≤ 29) (hA : sgC co K c d A) (hB : sgC co (K + 1) d e B) (h : co e = 1) : sgC co K c (e + 1) (fun f => A f && B f) := ⟨by have := (sgC_two hA hB).1; omega, fun f n hn => by
  obtain ⟨h1, h2⟩ := sgC_two hA hB
  have h29 : n < 2 ^ 29 := Nat.lt_of_lt_of_le hn (Nat.pow_le_pow_right (by omega) hK)
  rw [show e + 1 - c = (e - c) + 1 by omega, cRun_succ, h2 f n hn, show c + (e - c) = e by omega, h]
  unfold cStep
  rw [if_neg (by decide), if_pos rfl, st_and h29]⟩
theorem sgC_or {co : Nat → Int32} {K c d e : Nat} {A B : (Nat → Int32) → Bool} (hK : K ≤ 29) (hA : sgC co K c d A) (hB : sgC co (K + 1) d e B) (h : co e = 2) : sgC co K c (e + 1) (fun f => A f || B f) := ⟨by have := (sgC_two hA hB).1; omega, fun f n hn => by
  obtain ⟨h1, h2⟩ := sgC_two hA hB
  have h29 : n < 2 ^ 29 := Nat.lt_of_lt_of_le hn (Nat.pow_le_pow_right (by omega) hK)
  rw [show e + 1 - c = (e - c) + 1 by omega, cRun_succ, h2 f n hn, show c + (e - c) = e by omega, h]
  unfold cStep
  rw [if_neg (by decide), if_neg (by decide), if_pos rfl, st_or h29]⟩
theorem sgM_two {co : Nat → Int32} {c d e : Nat} {A B : (Nat → Int32) → Bool} (hA : sgM co c d A) (hB : sgM co d e B) : c ≤ e ∧ ∀ f st, mRun co f c (e - c) st = some ((if B f = true then (1 : Int32) else 0) :: (if A f = true then (1 : Int32) else 0) :: st) := ⟨Nat.le_trans hA.1 hB.1, fun f st => by
  have h1 := hA.1
  have h2 := hB.1
  rw [show e - c = (d - c) + (e - d) by omega, mRun_add, hA.2 f st, show c + (d - c) = d by omega]
  exact hB.2 f _⟩
theorem sgM_and {co : Nat → Int32} {c d e : Nat} {A B : (Nat → Int32) → Bool} (hA : sgM co c d A) (hB : sgM co d e B) (h : co e = -21) : sgM co c (e + 1) (fun f => A f && B f) := ⟨by have := (sgM_two hA hB).1; omega, fun f st => by
  obtain ⟨h1, h2⟩ := sgM_two hA hB
  rw [show e + 1 - c = (e - c) + 1 by omega, mRun_snoc, h2 f st, show c + (e - c) = e by omega, h]
  exact mS_and f st (A f) (B f)⟩
theorem sgM_or {co : Nat → Int32} {c d e : Nat} {A B : (Nat → Int32) → Bool} (hA : sgM co c d A) (hB : sgM co d e B) (h : co e = -22) : sgM co c (e + 1) (fun f => A f || B f) := ⟨by have := (sgM_two hA hB).1; omega, fun f st => by
  obtain ⟨h1, h2⟩ := sgM_two hA hB
  rw [show e + 1 - c = (e - c) + 1 by omega, mRun_snoc, h2 f st, show c + (e - c) = e by omega, h]
  exact mS_or f st (A f) (B f)⟩
/-- one comparison -/
def sg3 (s : Nat) (x y : Int32) : Bool := if s = 1 then decide (x < y) else if s = 2 then decide (x = y) else decide (y < x)
def cw (s l r : Nat) : Nat := s * 2 ^ 28 + (l * 2 ^ 14 + r)
theorem cw_is {s l r : Nat} (hs : s < 4) (hl : l < 16384) (hr : r < 16384) : ((nI s <<< (28 &&& 31)) ||| (nI l <<< (14 &&& 31))) ||| nI r = nI (cw s l r) := by
  rw [show (28 : Int32) = nI 28 from rfl, show (14 : Int32) = nI 14 from rfl, nI_shl _ (by omega), nI_shl _ (by omega), nI_or, nI_or, Nat.or_assoc, ← Nat.shiftLeft_add_eq_or_of_lt (b := r) (i := 14) (by omega), Nat.shiftLeft_eq l, ← Nat.shiftLeft_add_eq_or_of_lt (by omega), Nat.shiftLeft_eq]
  rfl
theorem cw_cmp {s l r : Nat} (h1 : 1 ≤ s) (hs : s < 4) (hl : l < 16384) (hr : r < 16384) (f : Nat → Int32) : cCmp (nI (cw s l r)) f = sg3 s (cVal (nI l) f) (cVal (nI r) f) := by
  have hw : cw s l r < 2 ^ 31 := by unfold cw; omega
  have e1 : (nI (cw s l r) >>> (14 &&& 31)) &&& 16383 = nI l := by
    rw [show (14 : Int32) = nI 14 from rfl, nI_shr hw (by omega), show (16383 : Int32) = nI (2 ^ 14 - 1) from rfl, nI_and, Nat.and_two_pow_sub_one_eq_mod, Nat.shiftRight_eq_div_pow]
    congr 1
    unfold cw
    omega
  have e2 : nI (cw s l r) &&& 16383 = nI r := by
    rw [show (16383 : Int32) = nI (2 ^ 14 - 1) from rfl, nI_and, Nat.and_two_pow_sub_one_eq_mod]
    congr 1
    unfold cw
    omega
  have e3 : nI (cw s l r) >>> (28 &&& 31) = nI s := by
    rw [show (28 : Int32) = nI 28 from rfl, nI_shr hw (by omega), Nat.shiftRight_eq_div_pow]
    congr 1
    unfold cw
    omega
  unfold cCmp sg3
  simp only [e1, e2, e3]
  have : s = 1 ∨ s = 2 ∨ s = 3 := by omega
  rcases this with e | e | e <;> subst e <;> rfl
theorem sgC_cmp {co : Nat → Int32} {c s l r : Nat} (h1 : 1 ≤ s) (hs : s < 4) (hl : l < 16384) (hr : r < 16384) (h : co c = nI (cw s l r)) (K : Nat) : sgC co K c (c + 1) (fun f => sg3 s (cVal (nI l) f) (cVal (nI r) f)) := ⟨by omega, fun f n hn => by
  have hw : cw s l r < 2 ^ 31 := by unfold cw; omega
  have hw2 : 2 ^ 28 ≤ cw s l r := by unfold cw; omega
  have n0 : ¬ nI (cw s l r) = 0 := fun e => by have := nI_inj (b := 0) hw (by omega) e; omega
  have n1 : ¬ nI (cw s l r) = 1 := fun e => by have := nI_inj (b := 1) hw (by omega) e; omega
  have n2 : ¬ nI (cw s l r) = 2 := fun e => by have := nI_inj (b := 2) hw (by omega) e; omega
  rw [show c + 1 - c = 1 by omega]
  show cStep f (nI n) (co c) = _
  rw [h]
  unfold cStep
  rw [if_neg n0, if_neg n1, if_neg n2, cw_cmp h1 hs hl hr, st_push]⟩
def mOp (s : Nat) : Int32 := if s = 1 then -11 else if s = 2 then -12 else -13
theorem sgM_cmp {co : Nat → Int32} {c s : Nat} {l r : Int32} (h1 : 1 ≤ s) (hs : s < 4) (hl : -10 < l) (hr : -10 < r) (e0 : co c = l) (e1 : co (c + 1) = r) (e2 : co (c + 2) = mOp s) : sgM co c (c + 3) (fun f => sg3 s (mFact l f) (mFact r f)) := ⟨by omega, fun f st => by
  rw [show c + 3 - c = 3 by omega]
  show (mStep f st (co c)).bind (mRun co f (c + 1) 2) = _
  have a0 : mStep f st (co c) = some (mFact l f :: st) := by rw [e0]; unfold mStep; rw [if_pos hl]
  rw [a0]
  show (mStep f (mFact l f :: st) (co (c + 1))).bind (mRun co f (c + 1 + 1) 1) = _
  have a1 : mStep f (mFact l f :: st) (co (c + 1)) = some (mFact r f :: mFact l f :: st) := by rw [e1]; unfold mStep; rw [if_pos hr]
  rw [a1]
  show (mStep f (mFact r f :: mFact l f :: st) (co (c + 2))).bind (fun z => some z) = _
  rw [e2]
  have : s = 1 ∨ s = 2 ∨ s = 3 := by omega
  rcases this with e | e | e <;> subst e <;> rfl⟩
