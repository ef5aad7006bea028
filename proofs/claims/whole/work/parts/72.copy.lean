/-! keep() and again(): copies -/
theorem sCp_r (σ : sS) (q0 q1 n a b : Nat) : (sCp σ q0 q1 n).1 a b = if a = q1 then (if b < n then σ.1 q0 b else σ.1 q1 b) else σ.1 a b := by
  unfold sCp
  by_cases h : a = q1
  · simp [h]
  · simp [h]
theorem agr_C {P : Nat → Nat → Bool} {σ τ : sS} {q0 q1 n : Nat} (h : agr P σ τ) (hp : ∀ j, P q1 j = false) : agr P σ (sCp τ q0 q1 n) := fun a b hab => by
  rw [sCp_r]
  by_cases h1 : a = q1
  · rw [h1, hp] at hab
    cases hab
  · rw [if_neg h1]
    exact h a b hab
theorem k5a (σ : sS) : ∃ τ, f_X5_copyFrom_b σ = some τ ∧ (∀ q, q < 28 ∨ 33 < q → τ.1 q = σ.1 q) ∧ (∀ j, j < 8 → τ.1 29 j = σ.1 7 j) ∧ (∀ j, j < 8 → τ.1 30 j = σ.1 8 j) ∧ (∀ j, j < 8 → τ.1 31 j = σ.1 9 j) ∧ (∀ j, j < 9 → τ.1 32 j = σ.1 10 j) ∧ (∀ j, j < 100 → τ.1 33 j = σ.1 11 j) ∧ τ.1 28 5 = σ.1 6 5 := by
  unfold f_X5_copyFrom_b
  simp only [pt_eq]
  refine ⟨_, rfl, fun q hq => ?_, fun j hj => ?_, fun j hj => ?_, fun j hj => ?_, fun j hj => ?_, fun j hj => ?_, ?_⟩
  · simp only [sI_off _ _ _ _ (show q ≠ 28 by omega), sCp_off _ _ _ _ (show q ≠ 29 by omega), sCp_off _ _ _ _ (show q ≠ 30 by omega), sCp_off _ _ _ _ (show q ≠ 31 by omega), sCp_off _ _ _ _ (show q ≠ 32 by omega), sCp_off _ _ _ _ (show q ≠ 33 by omega)]
  · simp [sI_r, sCp_r, hj]
  · simp [sI_r, sCp_r, hj]
  · simp [sI_r, sCp_r, hj]
  · simp [sI_r, sCp_r, hj]
  · simp [sI_r, sCp_r, hj]
  · simp [sI_r, sCp_r]
theorem k3a (σ : sS) : ∃ τ, f_X3_copyFrom_a σ = some τ ∧ (∀ q, q < 23 ∨ 33 < q → τ.1 q = σ.1 q) ∧ (∀ j, j < 9 → τ.1 24 j = σ.1 2 j) ∧ (∀ j, j < 9 → τ.1 25 j = σ.1 3 j) ∧ (∀ j, j < 9 → τ.1 26 j = σ.1 4 j) ∧ (∀ j, j < 9 → τ.1 27 j = σ.1 5 j) ∧ τ.1 23 4 = σ.1 1 4 ∧ τ.1 23 5 = σ.1 1 5 ∧ τ.1 23 6 = σ.1 1 6 ∧ (∀ j, j < 8 → τ.1 29 j = σ.1 7 j) ∧ (∀ j, j < 8 → τ.1 30 j = σ.1 8 j) ∧ (∀ j, j < 8 → τ.1 31 j = σ.1 9 j) ∧ (∀ j, j < 9 → τ.1 32 j = σ.1 10 j) ∧ (∀ j, j < 100 → τ.1 33 j = σ.1 11 j) ∧ τ.1 28 5 = σ.1 6 5 := by
  obtain ⟨τ0, hτ0⟩ : ∃ τ0, τ0 = (sCp (sCp (sCp (sCp σ 2 24 9) 3 25 9) 4 26 9) 5 27 9) := ⟨_, rfl⟩
  obtain ⟨τ1, hτ1⟩ : ∃ τ1, τ1 = (sI (sI (sI τ0 23 4 (σ.1 1 4)) 23 5 (σ.1 1 5)) 23 6 (σ.1 1 6)) := ⟨_, rfl⟩
  obtain ⟨τ, e, s0, s1, s2, s3, s4, s5, s6⟩ := k5a τ1
  have e0 : ∀ (υ : sS) (j k : Nat) (v : Int32), k ≠ j → (sI υ 23 k v).1 1 j = υ.1 1 j := fun υ j k v h => by rw [sI_off _ _ _ _ (by omega)]
  have t4 : τ0.1 1 4 = σ.1 1 4 := by rw [hτ0]; simp [sCp_r]
  have t5 : τ0.1 1 5 = σ.1 1 5 := by rw [hτ0]; simp [sCp_r]
  have t6 : τ0.1 1 6 = σ.1 1 6 := by rw [hτ0]; simp [sCp_r]
  have hf : f_X3_copyFrom_a σ = some τ := by
    unfold f_X3_copyFrom_a
    simp only [pt_eq, ← hτ0, sI_off _ _ _ _ (show (1 : Nat) ≠ 23 by omega), t4, t5, t6, ← hτ1, e, bd_some]
  refine ⟨τ, hf, fun q hq => ?_, fun j hj => ?_, fun j hj => ?_, fun j hj => ?_, fun j hj => ?_, ?_, ?_, ?_, fun j hj => ?_, fun j hj => ?_, fun j hj => ?_, fun j hj => ?_, fun j hj => ?_, ?_⟩
  · rw [s0 q (by omega), hτ1]
    simp only [sI_off _ _ _ _ (show q ≠ 23 by omega)]
    rw [hτ0]
    simp only [sCp_off _ _ _ _ (show q ≠ 24 by omega), sCp_off _ _ _ _ (show q ≠ 25 by omega), sCp_off _ _ _ _ (show q ≠ 26 by omega), sCp_off _ _ _ _ (show q ≠ 27 by omega)]
  · rw [s0 24 (by omega), hτ1, hτ0]
    simp [sI_r, sCp_r, hj]
  · rw [s0 25 (by omega), hτ1, hτ0]
    simp [sI_r, sCp_r, hj]
  · rw [s0 26 (by omega), hτ1, hτ0]
    simp [sI_r, sCp_r, hj]
  · rw [s0 27 (by omega), hτ1, hτ0]
    simp [sI_r, sCp_r, hj]
  · rw [s0 23 (by omega), hτ1, hτ0]
    simp [sI_r, sCp_r]
  · rw [s0 23 (by omega), hτ1, hτ0]
    simp [sI_r, sCp_r]
  · rw [s0 23 (by omega), hτ1, hτ0]
    simp [sI_r, sCp_r]
  · rw [s1 j hj, hτ1, hτ0]
    simp [sI_r, sCp_r]
  · rw [s2 j hj, hτ1, hτ0]
    simp [sI_r, sCp_r]
  · rw [s3 j hj, hτ1, hτ0]
    simp [sI_r, sCp_r]
  · rw [s4 j hj, hτ1, hτ0]
    simp [sI_r, sCp_r]
  · rw [s5 j hj, hτ1, hτ0]
    simp [sI_r, sCp_r]
  · rw [s6, hτ1, hτ0]
    simp [sI_r, sCp_r]
theorem k1a (σ : sS) : ∃ τ, f_X1_copyFrom_a σ = some τ ∧ (∀ q, q < 37 ∨ 40 < q → τ.1 q = σ.1 q) ∧ (∀ j, j < 8 → τ.1 38 j = σ.1 16 j) ∧ (∀ j, j < 8 → τ.1 39 j = σ.1 17 j) ∧ (∀ j, j < 8 → τ.1 40 j = σ.1 18 j) ∧ τ.1 37 3 = σ.1 15 3 := by
  unfold f_X1_copyFrom_a
  simp only [pt_eq]
  refine ⟨_, rfl, fun q hq => ?_, fun j hj => ?_, fun j hj => ?_, fun j hj => ?_, ?_⟩
  · simp only [sI_off _ _ _ _ (show q ≠ 37 by omega), sCp_off _ _ _ _ (show q ≠ 38 by omega), sCp_off _ _ _ _ (show q ≠ 39 by omega), sCp_off _ _ _ _ (show q ≠ 40 by omega)]
  · simp [sI_r, sCp_r, hj]
  · simp [sI_r, sCp_r, hj]
  · simp [sI_r, sCp_r, hj]
  · simp [sI_r, sCp_r]
theorem k2a (σ : sS) : ∃ τ, f_X2_copyFrom_a σ = some τ ∧ (∀ q, q < 41 ∨ 44 < q → τ.1 q = σ.1 q) ∧ (∀ j, j < 6 → τ.1 42 j = σ.1 20 j) ∧ (∀ j, j < 6 → τ.1 43 j = σ.1 21 j) ∧ (∀ j, j < 6 → τ.1 44 j = σ.1 22 j) ∧ τ.1 41 3 = σ.1 19 3 := by
  unfold f_X2_copyFrom_a
  simp only [pt_eq]
  refine ⟨_, rfl, fun q hq => ?_, fun j hj => ?_, fun j hj => ?_, fun j hj => ?_, ?_⟩
  · simp only [sI_off _ _ _ _ (show q ≠ 41 by omega), sCp_off _ _ _ _ (show q ≠ 42 by omega), sCp_off _ _ _ _ (show q ≠ 43 by omega), sCp_off _ _ _ _ (show q ≠ 44 by omega)]
  · simp [sI_r, sCp_r, hj]
  · simp [sI_r, sCp_r, hj]
  · simp [sI_r, sCp_r, hj]
  · simp [sI_r, sCp_r]
theorem k5b (σ : sS) : ∃ τ, f_X5_copyFrom_c σ = some τ ∧ (∀ q, q < 6 ∨ 11 < q → τ.1 q = σ.1 q) ∧ (∀ j, j < 8 → τ.1 7 j = σ.1 29 j) ∧ (∀ j, j < 8 → τ.1 8 j = σ.1 30 j) ∧ (∀ j, j < 8 → τ.1 9 j = σ.1 31 j) ∧ (∀ j, j < 9 → τ.1 10 j = σ.1 32 j) ∧ (∀ j, j < 100 → τ.1 11 j = σ.1 33 j) ∧ τ.1 6 5 = σ.1 28 5 := by
  unfold f_X5_copyFrom_c
  simp only [pt_eq]
  refine ⟨_, rfl, fun q hq => ?_, fun j hj => ?_, fun j hj => ?_, fun j hj => ?_, fun j hj => ?_, fun j hj => ?_, ?_⟩
  · simp only [sI_off _ _ _ _ (show q ≠ 6 by omega), sCp_off _ _ _ _ (show q ≠ 7 by omega), sCp_off _ _ _ _ (show q ≠ 8 by omega), sCp_off _ _ _ _ (show q ≠ 9 by omega), sCp_off _ _ _ _ (show q ≠ 10 by omega), sCp_off _ _ _ _ (show q ≠ 11 by omega)]
  · simp [sI_r, sCp_r, hj]
  · simp [sI_r, sCp_r, hj]
  · simp [sI_r, sCp_r, hj]
  · simp [sI_r, sCp_r, hj]
  · simp [sI_r, sCp_r, hj]
  · simp [sI_r, sCp_r]
theorem k3b (σ : sS) : ∃ τ, f_X3_copyFrom_b σ = some τ ∧ (∀ q, q < 1 ∨ 11 < q → τ.1 q = σ.1 q) ∧ (∀ j, j < 9 → τ.1 2 j = σ.1 24 j) ∧ (∀ j, j < 9 → τ.1 3 j = σ.1 25 j) ∧ (∀ j, j < 9 → τ.1 4 j = σ.1 26 j) ∧ (∀ j, j < 9 → τ.1 5 j = σ.1 27 j) ∧ τ.1 1 4 = σ.1 23 4 ∧ τ.1 1 5 = σ.1 23 5 ∧ τ.1 1 6 = σ.1 23 6 ∧ (∀ j, j < 8 → τ.1 7 j = σ.1 29 j) ∧ (∀ j, j < 8 → τ.1 8 j = σ.1 30 j) ∧ (∀ j, j < 8 → τ.1 9 j = σ.1 31 j) ∧ (∀ j, j < 9 → τ.1 10 j = σ.1 32 j) ∧ (∀ j, j < 100 → τ.1 11 j = σ.1 33 j) ∧ τ.1 6 5 = σ.1 28 5 := by
  obtain ⟨τ0, hτ0⟩ : ∃ τ0, τ0 = (sCp (sCp (sCp (sCp σ 24 2 9) 25 3 9) 26 4 9) 27 5 9) := ⟨_, rfl⟩
  obtain ⟨τ1, hτ1⟩ : ∃ τ1, τ1 = (sI (sI (sI τ0 1 4 (σ.1 23 4)) 1 5 (σ.1 23 5)) 1 6 (σ.1 23 6)) := ⟨_, rfl⟩
  obtain ⟨τ, e, s0, s1, s2, s3, s4, s5, s6⟩ := k5b τ1
  have e0 : ∀ (υ : sS) (j k : Nat) (v : Int32), k ≠ j → (sI υ 1 k v).1 23 j = υ.1 23 j := fun υ j k v h => by rw [sI_off _ _ _ _ (by omega)]
  have t4 : τ0.1 23 4 = σ.1 23 4 := by rw [hτ0]; simp [sCp_r]
  have t5 : τ0.1 23 5 = σ.1 23 5 := by rw [hτ0]; simp [sCp_r]
  have t6 : τ0.1 23 6 = σ.1 23 6 := by rw [hτ0]; simp [sCp_r]
  have hf : f_X3_copyFrom_b σ = some τ := by
    unfold f_X3_copyFrom_b
    simp only [pt_eq, ← hτ0, sI_off _ _ _ _ (show (23 : Nat) ≠ 1 by omega), t4, t5, t6, ← hτ1, e, bd_some]
  refine ⟨τ, hf, fun q hq => ?_, fun j hj => ?_, fun j hj => ?_, fun j hj => ?_, fun j hj => ?_, ?_, ?_, ?_, fun j hj => ?_, fun j hj => ?_, fun j hj => ?_, fun j hj => ?_, fun j hj => ?_, ?_⟩
  · rw [s0 q (by omega), hτ1]
    simp only [sI_off _ _ _ _ (show q ≠ 1 by omega)]
    rw [hτ0]
    simp only [sCp_off _ _ _ _ (show q ≠ 2 by omega), sCp_off _ _ _ _ (show q ≠ 3 by omega), sCp_off _ _ _ _ (show q ≠ 4 by omega), sCp_off _ _ _ _ (show q ≠ 5 by omega)]
  · rw [s0 2 (by omega), hτ1, hτ0]
    simp [sI_r, sCp_r, hj]
  · rw [s0 3 (by omega), hτ1, hτ0]
    simp [sI_r, sCp_r, hj]
  · rw [s0 4 (by omega), hτ1, hτ0]
    simp [sI_r, sCp_r, hj]
  · rw [s0 5 (by omega), hτ1, hτ0]
    simp [sI_r, sCp_r, hj]
  · rw [s0 1 (by omega), hτ1, hτ0]
    simp [sI_r, sCp_r]
  · rw [s0 1 (by omega), hτ1, hτ0]
    simp [sI_r, sCp_r]
  · rw [s0 1 (by omega), hτ1, hτ0]
    simp [sI_r, sCp_r]
  · rw [s1 j hj, hτ1, hτ0]
    simp [sI_r, sCp_r]
  · rw [s2 j hj, hτ1, hτ0]
    simp [sI_r, sCp_r]
  · rw [s3 j hj, hτ1, hτ0]
    simp [sI_r, sCp_r]
  · rw [s4 j hj, hτ1, hτ0]
    simp [sI_r, sCp_r]
  · rw [s5 j hj, hτ1, hτ0]
    simp [sI_r, sCp_r]
  · rw [s6, hτ1, hτ0]
    simp [sI_r, sCp_r]
theorem k1b (σ : sS) : ∃ τ, f_X1_copyFrom_b σ = some τ ∧ (∀ q, q < 15 ∨ 18 < q → τ.1 q = σ.1 q) ∧ (∀ j, j < 8 → τ.1 16 j = σ.1 38 j) ∧ (∀ j, j < 8 → τ.1 17 j = σ.1 39 j) ∧ (∀ j, j < 8 → τ.1 18 j = σ.1 40 j) ∧ τ.1 15 3 = σ.1 37 3 := by
  unfold f_X1_copyFrom_b
  simp only [pt_eq]
  refine ⟨_, rfl, fun q hq => ?_, fun j hj => ?_, fun j hj => ?_, fun j hj => ?_, ?_⟩
  · simp only [sI_off _ _ _ _ (show q ≠ 15 by omega), sCp_off _ _ _ _ (show q ≠ 16 by omega), sCp_off _ _ _ _ (show q ≠ 17 by omega), sCp_off _ _ _ _ (show q ≠ 18 by omega)]
  · simp [sI_r, sCp_r, hj]
  · simp [sI_r, sCp_r, hj]
  · simp [sI_r, sCp_r, hj]
  · simp [sI_r, sCp_r]
theorem k2b (σ : sS) : ∃ τ, f_X2_copyFrom_b σ = some τ ∧ (∀ q, q < 19 ∨ 22 < q → τ.1 q = σ.1 q) ∧ (∀ j, j < 6 → τ.1 20 j = σ.1 42 j) ∧ (∀ j, j < 6 → τ.1 21 j = σ.1 43 j) ∧ (∀ j, j < 6 → τ.1 22 j = σ.1 44 j) ∧ τ.1 19 3 = σ.1 41 3 := by
  unfold f_X2_copyFrom_b
  simp only [pt_eq]
  refine ⟨_, rfl, fun q hq => ?_, fun j hj => ?_, fun j hj => ?_, fun j hj => ?_, ?_⟩
  · simp only [sI_off _ _ _ _ (show q ≠ 19 by omega), sCp_off _ _ _ _ (show q ≠ 20 by omega), sCp_off _ _ _ _ (show q ≠ 21 by omega), sCp_off _ _ _ _ (show q ≠ 22 by omega)]
  · simp [sI_r, sCp_r, hj]
  · simp [sI_r, sCp_r, hj]
  · simp [sI_r, sCp_r, hj]
  · simp [sI_r, sCp_r]
