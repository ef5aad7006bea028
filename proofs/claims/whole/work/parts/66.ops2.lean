/-! paint, change, slip -/
theorem Rel_an {σ : sS} {a : aK} (hv : vK a) (hc : cK σ a) (hm : mK (σ.1 84) a) (ho : rOth σ) {r i : Nat} (h1 : 1 ≤ r) (h4 : r ≤ 4) (hi : i < aN a) {v : Int32} (hr : rng r v) (j : Nat) (hj : j = 6 + 4 * i + (r - 1)) : Rel (sI (sI σ (r + 1) i v) 84 j v) := by
  subst hj
  have h9 : aN a ≤ 9 := hv.1.1.2
  have hp : pOth (r + 1) i = false := by
    rcases (show r = 1 ∨ r = 2 ∨ r = 3 ∨ r = 4 by omega) with rfl | rfl | rfl | rfl <;> rfl
  refine ⟨⟨aSet a r i v, v_an h1 h4 i hr hv, cK_of (agr_I agr_rf rfl) (c_an h1 h4 i v hc), ?_⟩, rOth_of (agr_I (agr_I agr_rf hp) rfl) ho⟩
  rw [sI_row, sI_off _ _ _ _ (show (84 : Nat) ≠ r + 1 by omega)]
  exact m_an h1 h4 (by omega) v h9 hm
theorem op_paint (i v : Int32) : Op (fun σ => f_X11_paint σ i v) (fun σ => f_X12_paint σ i v) := by
  intro σ hR
  have hR0 := hR
  obtain ⟨⟨a, hv, hc, hm⟩, ho⟩ := hR
  have h9 : aN a ≤ 9 := hv.1.1.2
  have n1 : σ.1 1 4 = nI (aN a) := hc.1.1.trans hv.1.1.1
  have n2 : σ.1 84 0 = nI (aN a) := hm.1.1.trans hv.1.1.1
  by_cases ci : 0 ≤ i.toInt ∧ i.toInt < aN a
  · by_cases cv : 1 ≤ v.toInt ∧ v.toInt ≤ 5
    · obtain ⟨j, hj, rfl⟩ := i32_nI ci.1 ci.2 (by omega)
      have e1 := (hc.2.1 j hj).1
      have e2 := (hm.2.1 j hj).1
      have cv2 : (1 : Int64).toInt ≤ v.toInt ∧ v.toInt ≤ (5 : Int64).toInt := cv
      refine ⟨a.1 1 j, sI σ 2 j v, sI (sI σ 2 j v) 84 (6 + 4 * j) v, ?_, ?_, Rel_an hv hc hm ho (r := 1) (by omega) (by omega) hj cv _ (by omega)⟩
      · simp only [f_X11_paint, x_has n1 h9, bd_some, if_pos ci, z10, if_false, x_kind, if_pos cv, f_X11_replaced_d, grd_of (sIn_nI (show j < 9 by omega) (by omega)), pt_eq, nI_clamp (show j < 2 ^ 31 by omega), e1]
      · have g1 : (sI σ 2 j v).1 84 = σ.1 84 := sI_off _ _ _ _ (by omega)
        have m1 := m_its (sI σ 2 j v) (i := j) (k := 0) (by omega) (by omega)
        have m2 := m_at (sI σ 2 j v) j 0
        rw [nI_0] at m1 m2
        simp only [f_X12_paint, m_isAn (σ := sI σ 2 j v) (by rw [g1]; exact n2) h9, bd_some, if_pos ci, z10, if_false, m_inI, if_pos cv2, m1, m2, Nat.add_zero, grd_of (sIn_nI (show 6 + 4 * j < 316 by omega) (by omega)), pt_eq, nI_clamp (show 6 + 4 * j < 2 ^ 31 by omega), g1, e2]
    · have cv2 : ¬ ((1 : Int64).toInt ≤ v.toInt ∧ v.toInt ≤ (5 : Int64).toInt) := cv
      exact ⟨-1, σ, σ, by simp only [f_X11_paint, x_has n1 h9, bd_some, if_pos ci, z10, if_false, x_kind, if_neg cv, if_true], by simp only [f_X12_paint, m_isAn n2 h9, bd_some, if_pos ci, z10, if_false, m_inI, if_neg cv2, if_true], hR0⟩
  · exact ⟨-1, σ, σ, by simp only [f_X11_paint, x_has n1 h9, bd_some, if_neg ci, if_true], by simp only [f_X12_paint, m_isAn n2 h9, bd_some, if_neg ci, if_true], hR0⟩
/-- one arm of change: row r, in the class's row r + 1 -/
theorem arm_change {σ : sS} {a : aK} (hv : vK a) (hc : cK σ a) (hm : mK (σ.1 84) a) (ho : rOth σ) {j r : Nat} (h2 : 2 ≤ r) (h4 : r ≤ 4) (hj : j < aN a) (v : Int32) :
    (fun σ' : sS => bd (f_X12_its σ' (nI j) (nI (r - 1))) fun r9 => bd (f_X12_at σ' (nI j) (nI (r - 1))) fun r11 => grd (sIn r11 316) (pt (sI σ' 84 r11.toNatClampNeg v) fun σ13 => some (r9, σ13))) (sI σ (r + 1) j v) = some (a.1 r j, sI (sI σ (r + 1) j v) 84 (6 + 4 * j + (r - 1)) v) := by
  have h9 : aN a ≤ 9 := hv.1.1.2
  have g1 : (sI σ (r + 1) j v).1 84 = σ.1 84 := sI_off _ _ _ _ (by omega)
  have e2 : σ.1 84 (6 + 4 * j + (r - 1)) = a.1 r j := by
    have h := hm.2.1 j hj
    rcases (show r = 2 ∨ r = 3 ∨ r = 4 by omega) with rfl | rfl | rfl
    · rw [show 6 + 4 * j + (2 - 1) = 7 + 4 * j by omega]; exact h.2.1
    · rw [show 6 + 4 * j + (3 - 1) = 8 + 4 * j by omega]; exact h.2.2.1
    · rw [show 6 + 4 * j + (4 - 1) = 9 + 4 * j by omega]; exact h.2.2.2
  simp only [m_its _ (show j < 9 by omega) (show r - 1 < 4 by omega), m_at, bd_some, grd_of (sIn_nI (show 6 + 4 * j + (r - 1) < 316 by omega) (by omega)), pt_eq, nI_clamp (show 6 + 4 * j + (r - 1) < 2 ^ 31 by omega), g1, e2]
theorem op_change (i w v : Int32) : Op (fun σ => f_X11_change σ i w v) (fun σ => f_X12_change σ i w v) := by
  intro σ hR
  have hR0 := hR
  obtain ⟨⟨a, hv, hc, hm⟩, ho⟩ := hR
  have h9 : aN a ≤ 9 := hv.1.1.2
  have n1 : σ.1 1 4 = nI (aN a) := hc.1.1.trans hv.1.1.1
  have n2 : σ.1 84 0 = nI (aN a) := hm.1.1.trans hv.1.1.1
  by_cases ci : 0 ≤ i.toInt ∧ i.toInt < aN a
  · obtain ⟨j, hj, rfl⟩ := i32_nI ci.1 ci.2 (by omega)
    have hin := sIn_nI (show j < 9 by omega) (show 9 < 2 ^ 31 by omega)
    have hcl := nI_clamp (show j < 2 ^ 31 by omega)
    have e := hc.2.1 j hj
    have g : ∀ (q : Nat), q ≠ 84 → ∀ x : Int32, (sI σ q j x).1 84 0 = nI (aN a) := fun q hq x => by rw [sI_off _ _ _ _ (Ne.symm hq)]; exact n2
    by_cases w1 : w = 1
    · subst w1
      by_cases cv : 2 ≤ v.toInt ∧ v.toInt ≤ 12
      · refine ⟨a.1 2 j, sI σ 3 j v, sI (sI σ 3 j v) 84 (7 + 4 * j) v, ?_, ?_, Rel_an hv hc hm ho (r := 2) (by omega) (by omega) hj cv _ (by omega)⟩
        · simp only [f_X11_change, x_has n1 h9, bd_some, if_pos ci, z10, if_false, if_true, x_crank, if_pos cv, f_X11_replaced_c, grd_of hin, pt_eq, hcl, e.2.1]
        · have m1 := arm_change hv hc hm ho (j := j) (r := 2) (by omega) (by omega) hj v
          rw [show 6 + 4 * j + (2 - 1) = 7 + 4 * j by omega] at m1
          simp only [f_X12_change, m_isAn (σ := sI σ 3 j v) (g 3 (by omega) v) h9, bd_some, if_pos ci, z10, if_false, m_part1, if_pos cv]
          exact m1
      · exact ⟨-1, σ, σ, by simp only [f_X11_change, x_has n1 h9, bd_some, if_pos ci, z10, if_false, if_true, x_crank, if_neg cv], by simp only [f_X12_change, m_isAn n2 h9, bd_some, if_pos ci, z10, if_false, m_part1, if_neg cv, if_true], hR0⟩
    · by_cases w2 : w = 2
      · subst w2
        by_cases cv : 0 ≤ v.toInt ∧ v.toInt ≤ 11
        · refine ⟨a.1 3 j, sI σ 4 j v, sI (sI σ 4 j v) 84 (8 + 4 * j) v, ?_, ?_, Rel_an hv hc hm ho (r := 3) (by omega) (by omega) hj cv _ (by omega)⟩
          · simp only [f_X11_change, x_has n1 h9, bd_some, if_pos ci, z10, if_false, if_true, if_neg w1, x_phase, if_pos cv, f_X11_replaced_b, grd_of hin, pt_eq, hcl, e.2.2.1]
          · have m1 := arm_change hv hc hm ho (j := j) (r := 3) (by omega) (by omega) hj v
            rw [show 6 + 4 * j + (3 - 1) = 8 + 4 * j by omega] at m1
            simp only [f_X12_change, m_isAn (σ := sI σ 4 j v) (g 4 (by omega) v) h9, bd_some, if_pos ci, z10, if_false, m_part2, if_pos cv]
            exact m1
        · exact ⟨-1, σ, σ, by simp only [f_X11_change, x_has n1 h9, bd_some, if_pos ci, z10, if_false, if_true, if_neg w1, x_phase, if_neg cv], by simp only [f_X12_change, m_isAn n2 h9, bd_some, if_pos ci, z10, if_false, m_part2, if_neg cv, if_true], hR0⟩
      · by_cases w3 : w = 3
        · subst w3
          by_cases cv : 0 ≤ v.toInt ∧ v.toInt ≤ 99
          · refine ⟨a.1 4 j, sI σ 5 j v, sI (sI σ 5 j v) 84 (9 + 4 * j) v, ?_, ?_, Rel_an hv hc hm ho (r := 4) (by omega) (by omega) hj cv _ (by omega)⟩
            · simp only [f_X11_change, x_has n1 h9, bd_some, if_pos ci, z10, if_false, if_true, if_neg w1, if_neg w2, x_price, if_pos cv, f_X11_replaced_a, grd_of hin, pt_eq, hcl, e.2.2.2]
            · have m1 := arm_change hv hc hm ho (j := j) (r := 4) (by omega) (by omega) hj v
              rw [show 6 + 4 * j + (4 - 1) = 9 + 4 * j by omega] at m1
              simp only [f_X12_change, m_isAn (σ := sI σ 5 j v) (g 5 (by omega) v) h9, bd_some, if_pos ci, z10, if_false, m_part3, if_pos cv]
              exact m1
          · exact ⟨-1, σ, σ, by simp only [f_X11_change, x_has n1 h9, bd_some, if_pos ci, z10, if_false, if_true, if_neg w1, if_neg w2, x_price, if_neg cv], by simp only [f_X12_change, m_isAn n2 h9, bd_some, if_pos ci, z10, if_false, m_part3, if_neg cv, if_true], hR0⟩
        · exact ⟨-1, σ, σ, by simp only [f_X11_change, x_has n1 h9, bd_some, if_pos ci, z10, if_false, if_neg w1, if_neg w2, if_neg w3], by simp only [f_X12_change, m_isAn n2 h9, bd_some, if_pos ci, z10, if_false, m_part0 σ v w1 w2 w3, if_true], hR0⟩
  · exact ⟨-1, σ, σ, by simp only [f_X11_change, x_has n1 h9, bd_some, if_neg ci, if_true], by simp only [f_X12_change, m_isAn n2 h9, bd_some, if_neg ci, if_true], hR0⟩
