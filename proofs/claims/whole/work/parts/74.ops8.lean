/-! keep() and again(), both sides -/
theorem pCur_q {q j : Nat} (h : pCur q j = true) : 1 ≤ q ∧ q ≤ 22 := by
  unfold pCur at h
  simp at h
  omega
theorem pKep_q {q j : Nat} (h : pKep q j = true) : (q = 0 ∧ j = 6) ∨ (23 ≤ q ∧ q ≤ 44) ∨ (q = 83 ∧ j = 3) ∨ q = 85 := by
  unfold pKep at h
  simp at h
  omega
def pRest (q j : Nat) : Bool := pTap q j || (pRow q j || (pShe q j || (pShf q j || pTra q j)))
theorem pRest_q {q j : Nat} (h : pRest q j = true) : (45 ≤ q ∧ q ≠ 83 ∧ q ≠ 84 ∧ q ≠ 85) ∨ (q = 83 ∧ (j = 16 ∨ j = 18 ∨ j = 32)) := by
  unfold pRest pTap pRow pShe pShf pTra at h
  simp at h
  omega
def rRest (σ : sS) : Prop := rTape σ ∧ rRows σ ∧ rSheets σ ∧ rShelves σ ∧ rTrace σ
theorem rRest_of {σ τ : sS} (h : agr pRest σ τ) (hc : rRest σ) : rRest τ := by
  obtain ⟨h2, h3, h4, h5, h6⟩ := hc
  refine ⟨rTape_of (agr_sub h fun q j hq => ?_) h2, rRows_of (agr_sub h fun q j hq => ?_) h3, rSheets_of (agr_sub h fun q j hq => ?_) h4, rShelves_of (agr_sub h fun q j hq => ?_) h5, rTrace_of (agr_sub h fun q j hq => ?_) h6⟩ <;> (unfold pRest; simp [hq])
theorem op_keep : Op (fun σ => f_X11_keep σ) (fun σ => f_X12_keep σ) := by
  intro σ hR
  obtain ⟨⟨a, hv, hc, hm⟩, ho1, hoR⟩ := hR
  obtain ⟨τ3, e3, x0, x1, x2, x3, x4, x5, x6, x7, x8, x9, x10, x11, x12, x13⟩ := k3a σ
  obtain ⟨τ4, e4, y0, y1, y2, y3, y4⟩ := k1a τ3
  obtain ⟨τ5, e5, z0, z1, z2, z3, z4⟩ := k2a τ4
  obtain ⟨τ6, h6⟩ : ∃ τ6, τ6 = sI τ5 0 6 1 := ⟨_, rfl⟩
  obtain ⟨τ7, e7, w0, w1⟩ := m_copy (q0 := 84) (q1 := 85) (by omega) (body := fb_X12_keep_2) (F := fj_X12_keep_27) (fun _ _ _ => rfl) τ6
  obtain ⟨τ8, h8⟩ : ∃ τ8, τ8 = sI τ7 83 3 1 := ⟨_, rfl⟩
  have A5 : ∀ q, q < 23 ∨ 44 < q → τ5.1 q = σ.1 q := fun q hq => by rw [z0 q (by omega), y0 q (by omega), x0 q (by omega)]
  have A6 : ∀ q, q ≠ 0 → τ6.1 q = τ5.1 q := fun q hq => by rw [h6, sI_off _ _ _ _ hq]
  have A8 : ∀ q, q ≠ 83 → q ≠ 85 → τ8.1 q = τ6.1 q := fun q hq hq2 => by rw [h8, sI_off _ _ _ _ hq, w0 q hq2]
  have A : ∀ q, (q < 23 ∨ 44 < q) → q ≠ 0 → q ≠ 83 → q ≠ 85 → τ8.1 q = σ.1 q := fun q h1 h2 h3 h4 => by rw [A8 q h3 h4, A6 q h2, A5 q h1]
  have B83 : ∀ j, j ≠ 3 → τ8.1 83 j = σ.1 83 j := fun j hj => by rw [h8, sI_r, if_pos rfl, if_neg hj, w0 83 (by omega), A6 83 (by omega), A5 83 (by omega)]
  have agC : agr pCur σ τ8 := fun q j h => by
    have := pCur_q h
    rw [A q (by omega) (by omega) (by omega) (by omega)]
  have agM : agr pMod σ τ8 := fun q j h => by
    have : q = 84 := by unfold pMod at h; simpa using h
    rw [A q (by omega) (by omega) (by omega) (by omega)]
  have agR : agr pRest σ τ8 := fun q j h => by
    rcases pRest_q h with h2 | ⟨h2, h3⟩
    · rw [A q (by omega) (by omega) (by omega) (by omega)]
    · rw [h2, B83 j (by omega)]
  have V : ∀ q, 23 ≤ q → q ≤ 44 → τ8.1 q = τ5.1 q := fun q h1 h2 => by rw [A8 q (by omega) (by omega), A6 q (by omega)]
  have V3 : ∀ q, 23 ≤ q → q ≤ 36 → τ8.1 q = τ3.1 q := fun q h1 h2 => by rw [V q (by omega) (by omega), z0 q (by omega), y0 q (by omega)]
  have V4 : ∀ q, 37 ≤ q → q ≤ 40 → τ8.1 q = τ4.1 q := fun q h1 h2 => by rw [V q (by omega) (by omega), z0 q (by omega)]
  have S3 : ∀ q, 15 ≤ q → q ≤ 18 → τ3.1 q = σ.1 q := fun q h1 h2 => x0 q (by omega)
  have S4 : ∀ q, 19 ≤ q → q ≤ 22 → τ4.1 q = σ.1 q := fun q h1 h2 => by rw [y0 q (by omega), x0 q (by omega)]
  refine ⟨1, τ6, τ8, ?_, ?_, ⟨⟨a, hv, cK_of agC hc, mK_of agM hm⟩, Or.inr ⟨?_, ?_, a, hv, ?_, ?_⟩, rRest_of agR hoR⟩⟩
  · simp only [f_X11_keep, e3, e4, e5, bd_some, grd_of sbo_1, pt_eq, h6]
  · show f_X12_keep τ6 = _
    unfold f_X12_keep fl_X12_keep_2
    rw [e7]
    unfold fj_X12_keep_27
    rw [grd_of sbo_1, pt_eq, h8]
  · rw [A8 0 (by omega) (by omega), h6, sI_same]
  · rw [h8, sI_same]
  · refine cKr_cg hv ?_ ?_ ?_ ?_ ?_ ?_ ?_ ?_ ?_ ?_ ?_ ?_ ?_ ?_ ?_ ?_ ?_ ?_ ?_ ?_ ?_ hc
    · rw [V3 23 (by omega) (by omega), x5]
    · rw [V3 23 (by omega) (by omega), x6]
    · rw [V3 23 (by omega) (by omega), x7]
    · rw [V4 37 (by omega) (by omega), y4, S3 15 (by omega) (by omega)]
    · rw [V 41 (by omega) (by omega), z4, S4 19 (by omega) (by omega)]
    · rw [V3 28 (by omega) (by omega), x13]
    · intro j hj; rw [V3 24 (by omega) (by omega), x1 j hj]
    · intro j hj; rw [V3 25 (by omega) (by omega), x2 j hj]
    · intro j hj; rw [V3 26 (by omega) (by omega), x3 j hj]
    · intro j hj; rw [V3 27 (by omega) (by omega), x4 j hj]
    · intro j hj; rw [V4 38 (by omega) (by omega), y1 j hj, S3 16 (by omega) (by omega)]
    · intro j hj; rw [V4 39 (by omega) (by omega), y2 j hj, S3 17 (by omega) (by omega)]
    · intro j hj; rw [V4 40 (by omega) (by omega), y3 j hj, S3 18 (by omega) (by omega)]
    · intro j hj; rw [V 42 (by omega) (by omega), z1 j hj, S4 20 (by omega) (by omega)]
    · intro j hj; rw [V 43 (by omega) (by omega), z2 j hj, S4 21 (by omega) (by omega)]
    · intro j hj; rw [V 44 (by omega) (by omega), z3 j hj, S4 22 (by omega) (by omega)]
    · intro j hj; rw [V3 29 (by omega) (by omega), x8 j hj]
    · intro j hj; rw [V3 30 (by omega) (by omega), x9 j hj]
    · intro j hj; rw [V3 31 (by omega) (by omega), x10 j hj]
    · intro j hj; rw [V3 32 (by omega) (by omega), x11 j hj]
    · intro j hj; rw [V3 33 (by omega) (by omega), x12 j hj]
  · refine mK_cg hv (fun j hj => ?_) hm
    rw [h8, sI_off _ _ _ _ (by omega), w1 j hj, A6 84 (by omega), A5 84 (by omega)]
theorem op_again : Op (fun σ => f_X11_again σ) (fun σ => f_X12_again σ) := by
  intro σ hR
  have hR0 := hR
  obtain ⟨⟨a, hv, hc, hm⟩, ho1, hoR⟩ := hR
  rcases ho1 with ⟨k1, k2⟩ | ⟨k1, k2, b, hvb, hcb, hmb⟩
  · exact ⟨-3, σ, σ, by simp only [f_X11_again, k1, if_true], by simp only [f_X12_again, k2, if_true], hR0⟩
  obtain ⟨τ3, e3, x0, x1, x2, x3, x4, x5, x6, x7, x8, x9, x10, x11, x12, x13⟩ := k3b σ
  obtain ⟨τ4, e4, y0, y1, y2, y3, y4⟩ := k1b τ3
  obtain ⟨τ5, e5, z0, z1, z2, z3, z4⟩ := k2b τ4
  obtain ⟨τ7, e7, w0, w1⟩ := m_copy (q0 := 85) (q1 := 84) (by omega) (body := fb_X12_again_12) (F := fj_X12_again_37) (fun _ _ _ => rfl) τ5
  have A5 : ∀ q, q < 1 ∨ 22 < q → τ5.1 q = σ.1 q := fun q hq => by rw [z0 q (by omega), y0 q (by omega), x0 q (by omega)]
  have A : ∀ q, (q < 1 ∨ 22 < q) → q ≠ 84 → τ7.1 q = σ.1 q := fun q h1 h2 => by rw [w0 q h2, A5 q h1]
  have agK : agr pKep σ τ7 := fun q j h => by
    have := pKep_q h
    rw [A q (by omega) (by omega)]
  have agR : agr pRest σ τ7 := fun q j h => by
    rcases pRest_q h with h2 | ⟨h2, h3⟩
    · rw [A q (by omega) (by omega)]
    · rw [h2, A 83 (by omega) (by omega)]
  have V : ∀ q, 1 ≤ q → q ≤ 22 → τ7.1 q = τ5.1 q := fun q h1 h2 => w0 q (by omega)
  have V3 : ∀ q, 1 ≤ q → q ≤ 14 → τ7.1 q = τ3.1 q := fun q h1 h2 => by rw [V q (by omega) (by omega), z0 q (by omega), y0 q (by omega)]
  have V4 : ∀ q, 15 ≤ q → q ≤ 18 → τ7.1 q = τ4.1 q := fun q h1 h2 => by rw [V q (by omega) (by omega), z0 q (by omega)]
  have S3 : ∀ q, 37 ≤ q → q ≤ 40 → τ3.1 q = σ.1 q := fun q h1 h2 => x0 q (by omega)
  have S4 : ∀ q, 41 ≤ q → q ≤ 44 → τ4.1 q = σ.1 q := fun q h1 h2 => by rw [y0 q (by omega), x0 q (by omega)]
  have hmb2 : mK (τ7.1 84) b := mK_cg hvb (fun j hj => by rw [w1 j hj, A5 85 (by omega)]) hmb
  have hcb2 : cK τ7 b := by
    refine cKr_cg hvb ?_ ?_ ?_ ?_ ?_ ?_ ?_ ?_ ?_ ?_ ?_ ?_ ?_ ?_ ?_ ?_ ?_ ?_ ?_ ?_ ?_ hcb
    · rw [V3 1 (by omega) (by omega), x5]
    · rw [V3 1 (by omega) (by omega), x6]
    · rw [V3 1 (by omega) (by omega), x7]
    · rw [V4 15 (by omega) (by omega), y4, S3 37 (by omega) (by omega)]
    · rw [V 19 (by omega) (by omega), z4, S4 41 (by omega) (by omega)]
    · rw [V3 6 (by omega) (by omega), x13]
    · intro j hj; rw [V3 2 (by omega) (by omega), x1 j hj]
    · intro j hj; rw [V3 3 (by omega) (by omega), x2 j hj]
    · intro j hj; rw [V3 4 (by omega) (by omega), x3 j hj]
    · intro j hj; rw [V3 5 (by omega) (by omega), x4 j hj]
    · intro j hj; rw [V4 16 (by omega) (by omega), y1 j hj, S3 38 (by omega) (by omega)]
    · intro j hj; rw [V4 17 (by omega) (by omega), y2 j hj, S3 39 (by omega) (by omega)]
    · intro j hj; rw [V4 18 (by omega) (by omega), y3 j hj, S3 40 (by omega) (by omega)]
    · intro j hj; rw [V 20 (by omega) (by omega), z1 j hj, S4 42 (by omega) (by omega)]
    · intro j hj; rw [V 21 (by omega) (by omega), z2 j hj, S4 43 (by omega) (by omega)]
    · intro j hj; rw [V 22 (by omega) (by omega), z3 j hj, S4 44 (by omega) (by omega)]
    · intro j hj; rw [V3 7 (by omega) (by omega), x8 j hj]
    · intro j hj; rw [V3 8 (by omega) (by omega), x9 j hj]
    · intro j hj; rw [V3 9 (by omega) (by omega), x10 j hj]
    · intro j hj; rw [V3 10 (by omega) (by omega), x11 j hj]
    · intro j hj; rw [V3 11 (by omega) (by omega), x12 j hj]
  have n1 : τ5.1 1 4 = b.1 0 0 := by rw [← V 1 (by omega) (by omega)]; exact hcb2.1.1
  have n2 : τ7.1 84 0 = b.1 0 0 := hmb2.1.1
  have z06 : ¬ σ.1 0 6 = 0 := by rw [k1]; decide
  have z83 : ¬ τ5.1 83 3 = 0 := by rw [A5 83 (by omega), k2]; decide
  refine ⟨b.1 0 0, τ5, τ7, ?_, ?_, ⟨⟨b, hvb, hcb2, hmb2⟩, rKept_of agK (Or.inr ⟨k1, k2, b, hvb, hcb, hmb⟩), rRest_of agR hoR⟩⟩
  · simp only [f_X11_again, if_neg z06, e3, e4, e5, bd_some, n1]
  · show f_X12_again τ5 = _
    unfold f_X12_again fl_X12_again_12
    rw [if_neg z83, e7]
    unfold fj_X12_again_37
    rw [grd_of sin_0_316, tn_0, n2]
