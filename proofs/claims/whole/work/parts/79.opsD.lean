/-! shelf() -/
theorem Rel_shf {σ τ : sS} (h : ∀ q, (q < 78 ∨ 80 < q) → (q < 101 ∨ 103 < q) → τ.1 q = σ.1 q) (hs : rShelves τ) (hR : Rel σ) : Rel τ := by
  obtain ⟨⟨a, hv, hc, hm⟩, o1, o2, o3, o4, o5, o6⟩ := hR
  refine ⟨⟨a, hv, cK_of (fun q j g => ?_) hc, mK_of (fun q j g => ?_) hm⟩, rKept_of (fun q j g => ?_) o1, rTape_of (fun q j g => ?_) o2, rRows_of (fun q j g => ?_) o3, rSheets_of (fun q j g => ?_) o4, hs, rTrace_of (fun q j g => ?_) o6⟩
  · have := pCur_q g
    rw [h q (by omega) (by omega)]
  · have : q = 84 := by unfold pMod at g; simpa using g
    rw [h q (by omega) (by omega)]
  · have := pKep_q g
    rw [h q (by omega) (by omega)]
  · have : q = 45 ∨ q = 52 ∨ q = 97 ∨ q = 83 := by unfold pTap at g; simp at g; omega
    rw [h q (by omega) (by omega)]
  · have : q = 67 ∨ q = 68 ∨ q = 96 ∨ q = 83 := by unfold pRow at g; simp at g; omega
    rw [h q (by omega) (by omega)]
  · have := pShe_q g
    rw [h q (by omega) (by omega)]
  · have : q = 81 ∨ q = 82 ∨ q = 104 ∨ q = 83 := by unfold pTra at g; simp at g; omega
    rw [h q (by omega) (by omega)]
/-- the shelf s, written on both sides -/
def shC (σ : sS) (s : Nat) (x y z : Int32) : sS := sI (sI (sI σ 78 s x) 79 s y) 80 s z
def shC2 (σ : sS) (s : Nat) (x y : Int32) : sS := sI (sI σ 78 s x) 79 s y
def shM (σ : sS) (s : Nat) (x y z : Int32) : sS := sI (sI (sI σ 101 s x) 102 s y) 103 s z
theorem shf_new {σ τ : sS} (hR : Rel σ) {s : Nat} {x y z : Int32} (h1 : ∀ q, (q < 78 ∨ 80 < q) → τ.1 q = σ.1 q) (h2 : ∀ j, j ≠ s → τ.1 78 j = σ.1 78 j ∧ τ.1 79 j = σ.1 79 j ∧ τ.1 80 j = σ.1 80 j) (hs : rShelf (shM τ s x y z) s) : Rel (shM τ s x y z) := by
  refine Rel_shf (σ := σ) (fun q g1 g2 => ?_) (fun j hj => ?_) hR
  · unfold shM
    rw [sI_off _ _ _ _ (by omega), sI_off _ _ _ _ (by omega), sI_off _ _ _ _ (by omega), h1 q g1]
  · by_cases e : j = s
    · rw [e]
      exact hs
    · have o5 := hR.2.2.2.2.2.1 j hj
      have k1 : (shM τ s x y z).1 101 j = σ.1 101 j := by unfold shM; simp only [sI_r]; simp [e, h1]
      have k2 : (shM τ s x y z).1 102 j = σ.1 102 j := by unfold shM; simp only [sI_r]; simp [e, h1]
      have k3 : (shM τ s x y z).1 103 j = σ.1 103 j := by unfold shM; simp only [sI_r]; simp [e, h1]
      have k4 : ∀ q, q < 101 → (shM τ s x y z).1 q = τ.1 q := fun q hq => by unfold shM; rw [sI_off _ _ _ _ (by omega), sI_off _ _ _ _ (by omega), sI_off _ _ _ _ (by omega)]
      unfold rShelf at o5 ⊢
      rw [k1, k2, k3, k4 78 (by omega), k4 79 (by omega), k4 80 (by omega), (h2 j e).1, (h2 j e).2.1, (h2 j e).2.2]
      exact o5
