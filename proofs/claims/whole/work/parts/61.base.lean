/-! reading and writing the state -/
theorem sI_r (σ : sS) (q j : Nat) (v : Int32) (a b : Nat) : (sI σ q j v).1 a b = if a = q then (if b = j then v else σ.1 q b) else σ.1 a b := by
  unfold sI upd
  by_cases h : a = q
  · simp [h]
  · simp [h]
theorem sI_same (σ : sS) (q j : Nat) (v : Int32) : (sI σ q j v).1 q j = v := by rw [sI_r, if_pos rfl, if_pos rfl]
theorem sI_row (σ : sS) (q j : Nat) (v : Int32) : (sI σ q j v).1 q = upd (σ.1 q) j v := by
  unfold sI
  simp
theorem sI_off (σ : sS) (q j : Nat) (v : Int32) {a : Nat} (h : a ≠ q) : (sI σ q j v).1 a = σ.1 a := by
  unfold sI
  simp [h]
theorem sI_l (σ : sS) (q j : Nat) (v : Int32) : (sI σ q j v).2 = σ.2 := rfl
theorem sJ_i (σ : sS) (q j : Nat) (v : Int64) : (sJ σ q j v).1 = σ.1 := rfl
theorem sCp_row (σ : sS) (q0 q1 n : Nat) : (sCp σ q0 q1 n).1 q1 = fun j => if j < n then σ.1 q0 j else σ.1 q1 j := by
  unfold sCp
  simp
theorem sCp_off (σ : sS) (q0 q1 n : Nat) {a : Nat} (h : a ≠ q1) : (sCp σ q0 q1 n).1 a = σ.1 a := by
  unfold sCp
  simp [h]
theorem upd_r (f : Nat → Int32) (k : Nat) (x : Int32) (b : Nat) : upd f k x b = if b = k then x else f b := rfl
/-! guards at names -/
theorem sIn_nI {j n : Nat} (h : j < n) (hn : n < 2 ^ 31) : sIn (nI j) n = true := by
  unfold sIn
  rw [decide_eq_true_eq]
  exact vp_in_nI h hn
theorem sIn_of {i : Int32} {n j : Nat} (hi : i = nI j) (h : j < n) (hn : n < 2 ^ 31) : sIn i n = true := by
  rw [hi]
  exact sIn_nI h hn
/-! ranges, told in integers -/
theorem i32_lt {a b : Int32} : a < b ↔ a.toInt < b.toInt := Int32.lt_iff_toInt_lt
theorem i32_nI {i : Int32} {n : Nat} (h0 : 0 ≤ i.toInt) (h : i.toInt < n) (hn : n < 2 ^ 31) : ∃ j : Nat, j < n ∧ i = nI j := vp_in_of (vp_in_iff.mpr ⟨h0, h⟩) hn
theorem x_within (σ : sS) (v a b : Int32) : f_X11_isWithin σ v a b = some (if a.toInt ≤ v.toInt ∧ v.toInt ≤ b.toInt then 1 else 0) := by
  unfold f_X11_isWithin
  by_cases h1 : v < a
  · have h2 := i32_lt.mp h1
    rw [if_pos h1, if_neg (by omega)]
  · have h2 := mt i32_lt.mpr h1
    rw [if_neg h1]
    by_cases h3 : b < v
    · have h4 := i32_lt.mp h3
      rw [if_pos h3, if_neg (by omega)]
    · have h4 := mt i32_lt.mpr h3
      rw [if_neg h3, if_pos (by omega)]
theorem m_in (σ : sS) (v a b : Int64) : f_X12_in σ v a b = some (if a.toInt ≤ v.toInt ∧ v.toInt ≤ b.toInt then 1 else 0) := by
  unfold f_X12_in
  by_cases h1 : v.toInt < a.toInt
  · rw [if_pos ((lg_cmp_lt v a).mpr (Int64.lt_iff_toInt_lt.mpr h1)), if_neg (by omega)]
  · rw [if_neg (fun h => h1 (Int64.lt_iff_toInt_lt.mp ((lg_cmp_lt v a).mp h)))]
    by_cases h2 : b.toInt < v.toInt
    · rw [if_pos ((lg_cmp_gt v b).mpr (Int64.lt_iff_toInt_lt.mpr h2)), if_neg (by omega)]
    · rw [if_neg (fun h => h2 (Int64.lt_iff_toInt_lt.mp ((lg_cmp_gt v b).mp h))), if_pos (by omega)]
theorem i64_of (v : Int32) : v.toInt64.toInt = v.toInt := by simp
theorem m_inI (σ : sS) (v : Int32) (a b : Int64) : f_X12_in σ v.toInt64 a b = some (if a.toInt ≤ v.toInt ∧ v.toInt ≤ b.toInt then 1 else 0) := by rw [m_in, i64_of]
theorem z10 : ((1 : Int32) = 0) = False := by simp
theorem z00 : ((0 : Int32) = 0) = True := by simp
/-! loops -/
theorem lp_for {α ρ : Type} {body : (α → Option ρ) → α → Option ρ} (st : Nat → α) (e : Nat) (X : Option ρ) (hs : ∀ i, i < e → ∀ back, body back (st i) = back (st (i + 1))) (hx : ∀ back, body back (st e) = X) : ∀ (k i : Nat), i ≤ e → e - i < k → lp body k (st i) = X
  | 0, i, _, h => absurd h (Nat.not_lt_zero _)
  | k + 1, i, hi, h => by
    rw [lp_s]
    by_cases he : i = e
    · rw [he]
      exact hx _
    · rw [hs i (by omega)]
      exact lp_for st e X hs hx k (i + 1) (by omega) (by omega)
/-- the first place below e of which p holds -/
def fst (p : Nat → Bool) : Nat → Nat → Option Nat
  | 0, _ => none
  | n + 1, i => if p i then some i else fst p n (i + 1)
theorem lp_find {α ρ : Type} {body : (α → Option ρ) → α → Option ρ} (st : Nat → α) (e : Nat) (p : Nat → Bool) (F : Nat → Option ρ) (X : Option ρ) (hs : ∀ i, i < e → p i = false → ∀ back, body back (st i) = back (st (i + 1))) (hf : ∀ i, i < e → p i = true → ∀ back, body back (st i) = F i) (hx : ∀ back, body back (st e) = X) : ∀ (k i : Nat), i ≤ e → e - i < k → lp body k (st i) = (match fst p (e - i) i with | some j => F j | none => X)
  | 0, i, _, h => absurd h (Nat.not_lt_zero _)
  | k + 1, i, hi, h => by
    rw [lp_s]
    by_cases he : i = e
    · subst he
      rw [Nat.sub_self]
      exact hx _
    · rw [show e - i = (e - (i + 1)) + 1 by omega]
      unfold fst
      cases hp : p i with
      | true => simp only [if_true]; exact hf i (by omega) hp _
      | false =>
        rw [hs i (by omega) hp, lp_find st e p F X hs hf hx k (i + 1) (by omega) (by omega)]
        simp
theorem lp_inv {α ρ : Type} {body : (α → Option ρ) → α → Option ρ} (I : Nat → α → Prop) (e : Nat) (P : Option ρ → Prop) (hs : ∀ i, i < e → ∀ a, I i a → ∀ back : α → Option ρ, ∃ a', I (i + 1) a' ∧ body back a = back a') (hx : ∀ a, I e a → ∀ back : α → Option ρ, P (body back a)) : ∀ (k i : Nat) (a : α), i ≤ e → e - i < k → I i a → P (lp body k a)
  | 0, i, _, _, h, _ => absurd h (Nat.not_lt_zero _)
  | k + 1, i, a, hi, h, ha => by
    rw [lp_s]
    by_cases he : i = e
    · subst he
      exact hx a ha _
    · obtain ⟨a', h1, h2⟩ := hs i (by omega) a ha (lp body k)
      rw [h2]
      exact lp_inv I e P hs hx k (i + 1) a' (by omega) (by omega) h1
theorem nF_big {n : Nat} (h : n < 4000) : n < nF := by rw [nF_eq]; exact h
