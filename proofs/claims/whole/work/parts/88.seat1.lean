/-! seats: sets of animals as numbers, the best sum -/
theorem nI_or (a b : Nat) : nI a ||| nI b = nI (a ||| b) := by
  apply Int32.toBitVec_inj.1
  show BitVec.ofNat 32 a ||| BitVec.ofNat 32 b = BitVec.ofNat 32 (a ||| b)
  apply BitVec.eq_of_getLsbD_eq
  intro i hi
  simp [hi]
theorem tb_nI (n : Nat) {i : Nat} (hi : i < 32) : tb (nI n) i = n.testBit i := by
  show (BitVec.ofNat 32 n).getLsbD i = _
  rw [BitVec.getLsbD_ofNat, decide_eq_true hi, Bool.true_and]
theorem or_bit {T i : Nat} (hi : i ≤ 9) : nI T ||| ((1 : Int32) <<< (nI i &&& 31)) = nI (T ||| 2 ^ i) := by rw [shl_nI hi, nI_or]
theorem bit_or (T i k : Nat) : (T ||| 2 ^ i).testBit k = (T.testBit k || decide (k = i)) := by
  rw [Nat.testBit_or]
  by_cases h : i = k
  · subst h; simp
  · have h2 : ¬ k = i := fun e => h e.symm
    simp [Nat.testBit_two_pow, h, h2]
theorem or_lt {T i n : Nat} (hT : T < 2 ^ n) (hi : i < n) : T ||| 2 ^ i < 2 ^ n := Nat.or_lt_two_pow hT (Nat.pow_lt_pow_right (by omega) hi)
theorem lt_or {T i : Nat} (h : T.testBit i = false) : T < T ||| 2 ^ i := by
  have h1 : T ≤ T ||| 2 ^ i := Nat.left_le_or
  have h2 : T ≠ T ||| 2 ^ i := fun e => by
    have := bit_or T i i
    rw [← e, h] at this
    simp at this
  omega
def pop (T : Nat) : Nat := T % 2 + T / 2 % 2 + T / 4 % 2 + T / 8 % 2 + T / 16 % 2 + T / 32 % 2 + T / 64 % 2 + T / 128 % 2 + T / 256 % 2
theorem pop_or0 : ∀ T : Fin 512, ∀ i : Fin 9, T.val.testBit i.val = false → pop (T.val ||| 2 ^ i.val) = pop T.val + 1 := by decide +kernel
theorem pop_or {T i : Nat} (hT : T < 512) (hi : i < 9) (h : T.testBit i = false) : pop (T ||| 2 ^ i) = pop T + 1 := pop_or0 ⟨T, hT⟩ ⟨i, hi⟩ h
def bcF (x0 : Int32) : Int32 :=
  let v1 := ((x0.toUInt32 >>> ((1 : Int32).toUInt32 &&& Int32.toUInt32 31)).toInt32) &&& 1431655765
  let v4 := (x0 - v1) &&& 858993459
  let v7 := (((x0 - v1).toUInt32 >>> ((2 : Int32).toUInt32 &&& Int32.toUInt32 31)).toInt32) &&& 858993459
  let v10 := ((v4 + v7) + (((v4 + v7).toUInt32 >>> ((4 : Int32).toUInt32 &&& Int32.toUInt32 31)).toInt32)) &&& 252645135
  let v13 := v10 + ((v10.toUInt32 >>> ((8 : Int32).toUInt32 &&& Int32.toUInt32 31)).toInt32)
  let v16 := v13 + ((v13.toUInt32 >>> ((16 : Int32).toUInt32 &&& Int32.toUInt32 31)).toInt32)
  v16 &&& 63
theorem bcF_pop : ∀ T : Fin 512, bcF (nI T.val) = nI (pop T.val) := by decide +kernel
theorem x_pop (σ : sS) {T : Nat} (hT : T < 512) : f_J6_bitCount_0f7a4 σ (nI T) = some (nI (pop T)) := by
  have e : f_J6_bitCount_0f7a4 σ (nI T) = some (bcF (nI T)) := by
    unfold f_J6_bitCount_0f7a4
    simp only [pt_eq]
    rfl
  rw [e, bcF_pop ⟨T, hT⟩]
theorem pop_0 : pop 0 = 0 := rfl
/-- the greatest of some values -/
def bst (p : Nat → Bool) (v : Nat → Nat) (b0 : Nat) : Nat → Nat
  | 0 => b0
  | i + 1 => if p i = true then (if bst p v b0 i < v i then v i else bst p v b0 i) else bst p v b0 i
theorem bst_ge (p : Nat → Bool) (v : Nat → Nat) (b0 : Nat) : ∀ n, b0 ≤ bst p v b0 n ∧ ∀ i, i < n → p i = true → v i ≤ bst p v b0 n
  | 0 => ⟨Nat.le_refl _, fun _ h _ => absurd h (Nat.not_lt_zero _)⟩
  | n + 1 => by
    obtain ⟨h1, h2⟩ := bst_ge p v b0 n
    have h3 : bst p v b0 n ≤ bst p v b0 (n + 1) := by
      show _ ≤ (if p n = true then (if bst p v b0 n < v n then v n else bst p v b0 n) else bst p v b0 n)
      split
      · split <;> omega
      · omega
    refine ⟨by omega, fun i hi hp => ?_⟩
    by_cases e : i = n
    · subst e
      show _ ≤ (if p i = true then (if bst p v b0 i < v i then v i else bst p v b0 i) else bst p v b0 i)
      rw [if_pos hp]
      split <;> omega
    · have := h2 i (by omega) hp
      omega
theorem bst_is (p : Nat → Bool) (v : Nat → Nat) (b0 : Nat) : ∀ n, bst p v b0 n = b0 ∨ ∃ i, i < n ∧ p i = true ∧ v i = bst p v b0 n
  | 0 => Or.inl rfl
  | n + 1 => by
    have ih := bst_is p v b0 n
    show (if p n = true then (if bst p v b0 n < v n then v n else bst p v b0 n) else bst p v b0 n) = b0 ∨ ∃ i, i < n + 1 ∧ p i = true ∧ v i = (if p n = true then (if bst p v b0 n < v n then v n else bst p v b0 n) else bst p v b0 n)
    by_cases hp : p n = true
    · rw [if_pos hp]
      by_cases hl : bst p v b0 n < v n
      · rw [if_pos hl]
        exact Or.inr ⟨n, by omega, hp, rfl⟩
      · rw [if_neg hl]
        rcases ih with h | ⟨i, h1, h2, h3⟩
        · exact Or.inl h
        · exact Or.inr ⟨i, by omega, h2, h3⟩
    · rw [if_neg hp]
      rcases ih with h | ⟨i, h1, h2, h3⟩
      · exact Or.inl h
      · exact Or.inr ⟨i, by omega, h2, h3⟩
/-- the first at the greatest value, none if what stood there is greater -/
theorem bst_first {p : Nat → Bool} {v : Nat → Nat} {b0 n s : Nat} (hs : s < n) (hp : p s = true) (h1 : ∀ i, i < n → p i = true → v i ≤ v s) (h2 : ∀ i, i < s → p i = true → v i < v s) : (b0 ≤ v s → bst p v b0 n = v s ∧ fst (fun i => p i && decide (v i = bst p v b0 n)) n 0 = some s) ∧ (v s < b0 → bst p v b0 n = b0 ∧ fst (fun i => p i && decide (v i = bst p v b0 n)) n 0 = none) := by
  obtain ⟨g1, g2⟩ := bst_ge p v b0 n
  have g3 := bst_is p v b0 n
  constructor
  · intro hb
    have e : bst p v b0 n = v s := by
      have := g2 s hs hp
      rcases g3 with h | ⟨i, i1, i2, i3⟩
      · omega
      · have := h1 i i1 i2
        omega
    refine ⟨e, fst_is (by omega) (by omega) (by rw [hp, e, decide_eq_true rfl]; rfl) (fun i _ hi => ?_)⟩
    cases hpi : p i with
    | false => rfl
    | true =>
      have := h2 i hi hpi
      rw [e, decide_eq_false (by omega)]
      rfl
  · intro hb
    have e : bst p v b0 n = b0 := by
      rcases g3 with h | ⟨i, i1, i2, i3⟩
      · exact h
      · have := h1 i i1 i2
        omega
    refine ⟨e, fst_non fun i _ hi => ?_⟩
    cases hpi : p i with
    | false => rfl
    | true =>
      have := h1 i (by omega) hpi
      rw [e, decide_eq_false (by omega)]
      rfl
theorem bst_none {p : Nat → Bool} {v : Nat → Nat} {b0 n : Nat} (h : ∀ i, i < n → p i = false) : bst p v b0 n = b0 ∧ ∀ q : Nat → Bool, fst (fun i => p i && q i) n 0 = none := by
  constructor
  · rcases bst_is p v b0 n with g | ⟨i, i1, i2, _⟩
    · exact g
    · rw [h i i1] at i2
      cases i2
  · intro q
    exact fst_non fun i _ hi => by rw [h i (by omega)]; rfl
/-! prices -/
def pr (a : aK) (i : Nat) : Nat := (aPr a i).toNatClampNeg
theorem gOf_bt {a : aK} (hv : vK a) (o : Option Nat) : bt (gOf a.2 o) 0 99 := by
  unfold gOf
  cases o with
  | none => exact (⟨by decide, by decide⟩ : bt (0 : Int32) 0 99)
  | some r =>
    show bt (match a.2[r]? with | some x => x.2.2.1 | none => 0) 0 99
    cases h : a.2[r]? with
    | none => exact ⟨by decide, by decide⟩
    | some x => exact (hv.2.2.2.2.2 x (List.mem_of_getElem? h)).2.2
theorem pr_nI {a : aK} (hv : vK a) {i : Nat} (hi : i < aN a) : aPr a i = nI (pr a i) ∧ pr a i ≤ 396 := by
  have h4 := (hv.2.1 i hi).2.2.2
  have hg := gOf_bt hv (aRi a i)
  unfold bt at h4 hg
  obtain ⟨p, hp, ep⟩ := nI_of_bt (x := a.1 4 i) (n := 99) h4.1 h4.2 (by omega)
  obtain ⟨g, hg9, eg⟩ := nI_of_bt (x := gOf a.2 (aRi a i)) (n := 99) hg.1 hg.2 (by omega)
  have key : ∃ P, P ≤ 396 ∧ aPr a i = nI P := by
    have h1 : ∃ Q, Q ≤ 198 ∧ gPr (dOf a.2 (aRi a i)) (a.1 4 i) (gOf a.2 (aRi a i)) = nI Q := by
      unfold gPr
      rw [ep, eg, nI_add]
      split
      · exact ⟨0, by omega, rfl⟩
      · split
        · exact ⟨p + g, by omega, rfl⟩
        · exact ⟨p, by omega, rfl⟩
    obtain ⟨Q, hQ, eQ⟩ := h1
    unfold aPr gTw
    rw [eQ]
    split
    · exact ⟨2 * Q, by omega, by rw [show (2 : Int32) = nI 2 from rfl, pk_mul]⟩
    · exact ⟨Q, by omega, rfl⟩
  obtain ⟨P, hP, eP⟩ := key
  have : pr a i = P := by unfold pr; rw [eP, nI_clamp (by omega)]
  rw [this]
  exact ⟨eP, hP⟩
/-- child c may ride on i -/
def may (a : aK) (c i : Nat) : Bool := tb (a.1 5 c) i && !decide (a.1 6 c < aPr a i)
/-- .. of those not taken -/
def mp (a : aK) (c T i : Nat) : Bool := !(T.testBit i) && may a c i
/-- the greatest sum of the last d children, by the set taken -/
def Bd (a : aK) : Nat → Nat → Nat
  | 0, _ => 0
  | d + 1, T => bst (mp a (aM a - 1 - d) T) (fun i => pr a i + Bd a d (T ||| 2 ^ i)) (Bd a d T) (aN a)
theorem Bd_le {a : aK} (hv : vK a) : ∀ (d T : Nat), Bd a d T ≤ 396 * d
  | 0, T => Nat.zero_le _
  | d + 1, T => by
    have h0 := Bd_le hv d T
    show bst (mp a (aM a - 1 - d) T) (fun i => pr a i + Bd a d (T ||| 2 ^ i)) (Bd a d T) (aN a) ≤ _
    rcases bst_is (mp a (aM a - 1 - d) T) (fun i => pr a i + Bd a d (T ||| 2 ^ i)) (Bd a d T) (aN a) with h | ⟨i, h1, h2, h3⟩
    · omega
    · have h4 := Bd_le hv d (T ||| 2 ^ i)
      have h5 := (pr_nI hv h1).2
      have h6 : pr a i + Bd a d (T ||| 2 ^ i) = bst (mp a (aM a - 1 - d) T) (fun i => pr a i + Bd a d (T ||| 2 ^ i)) (Bd a d T) (aN a) := h3
      omega
/-- on which animal, of a set taken: d children are behind the one asked for -/
def sc (a : aK) (d T : Nat) : Option Nat := fst (fun i => mp a (aM a - 1 - d) T i && decide (pr a i + Bd a d (T ||| 2 ^ i) = Bd a (d + 1) T)) (aN a) 0
theorem sc_lt {a : aK} {d T i : Nat} (h : sc a d T = some i) : i < aN a ∧ mp a (aM a - 1 - d) T i = true := by
  have h2 := fst_some h
  rw [Bool.and_eq_true] at h2
  exact ⟨by omega, h2.2.2.1.1⟩
