/-! taken() -/
theorem isUnder_eq (σ τ : sS) (x y : Int32) : f_X11_isUnder σ x y = f_X12_isUnder τ x y := rfl
theorem isUnder_some (σ : sS) (x y : Int32) : ∃ r, f_X12_isUnder σ x y = some r ∧ (r = 0 ∨ r = 1) := by
  unfold f_X12_isUnder fj_X12_isUnder_19 fj_X12_isUnder_29
  repeat' split
  all_goals first | exact ⟨1, rfl, Or.inr rfl⟩ | exact ⟨0, rfl, Or.inl rfl⟩
/-- whom a shelf holds: the class's view -/
theorem shelf_an {σ : sS} {a : aK} (hv : vK a) (hm : mK (σ.1 84) a) {s : Nat} (hs : s < 4) (h : rShelf σ s) : ∃ r, f_X12_onShelf σ (nI s) = some r ∧ ((r = -1 ∧ ¬ (0 ≤ (σ.1 78 s).toInt ∧ (σ.1 78 s).toInt < aN a)) ∨ (σ.1 101 s = 1 ∧ r = σ.1 78 s ∧ (0 ≤ (σ.1 78 s).toInt ∧ (σ.1 78 s).toInt < aN a))) := by
  have h9 : aN a ≤ 9 := hv.1.1.2
  have a2 : σ.1 84 0 = nI (aN a) := hm.1.1.trans hv.1.1.1
  have hin := sIn_nI hs (show 4 < 2 ^ 31 by omega)
  have hcl := nI_clamp (show s < 2 ^ 31 by omega)
  have hr : 0 ≤ (nI s).toInt ∧ (nI s).toInt ≤ 3 := by rw [nI_toInt (by omega)]; omega
  have m3 : (-3 : Int32).toInt = -3 := rfl
  unfold f_X12_onShelf
  simp only [m_oneR, if_pos hr, bd_some, z10, if_false, grd_of hin, hcl]
  rcases h with ⟨h1, h2, h3⟩ | ⟨h1, h2, h3, h4⟩ | ⟨h1, h2, h3⟩
  · refine ⟨-1, ?_, Or.inl ⟨rfl, ?_⟩⟩
    · rw [if_neg (by rw [h1]; decide)]
    · rw [h2]; omega
  · by_cases c : 0 ≤ (σ.1 78 s).toInt ∧ (σ.1 78 s).toInt < aN a
    · refine ⟨σ.1 78 s, ?_, Or.inr ⟨h1, rfl, c⟩⟩
      rw [if_pos h1, m_isAn a2 h9, bd_some, ← h3, if_pos c, if_neg (by decide)]
    · refine ⟨-1, ?_, Or.inl ⟨rfl, c⟩⟩
      rw [if_pos h1, m_isAn a2 h9, bd_some, ← h3, if_neg c, if_pos rfl]
  · refine ⟨-1, ?_, Or.inl ⟨rfl, ?_⟩⟩
    · rw [if_neg (by rw [h1]; decide)]
    · rw [h2]; omega
theorem sub10 {x y : Int32} : (x - 10 = y) = (x = y + 10) := by
  apply propext
  constructor
  · intro h; rw [← h]; exact (Int32.sub_add_cancel x 10).symm
  · intro h; rw [h]; exact Int32.add_sub_cancel y 10
