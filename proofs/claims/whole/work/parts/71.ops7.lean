/-! how many; the trace; rows -/
theorem nn_lt {a b : Nat} (ha : a < 2 ^ 31) (hb : b < 2 ^ 31) : (nI a < nI b) ↔ a < b := by
  rw [i32_lt, nI_toInt ha, nI_toInt hb]
  omega
theorem m_traced {σ : sS} {m : Nat} (hm : m ≤ 100000) (h : σ.1 83 32 = nI m) : f_X12_traced σ = some (nI (min m 30)) := by
  unfold f_X12_traced
  rw [h]
  have e : (nI m < 30) ↔ m < 30 := nn_lt (a := m) (b := 30) (by omega) (by omega)
  by_cases c : m < 30
  · rw [if_pos (e.mpr c), show min m 30 = m by omega]
  · rw [if_neg (mt e.mp c), show min m 30 = 30 by omega]
    rfl
theorem op_many (w : Int32) : OpP (fun σ => f_X11_many σ w) (fun σ => f_X12_many σ w) := by
  intro σ hR
  obtain ⟨⟨a, hv, hc, hm⟩, hK, ⟨tn, _, ht1, ht2, _⟩, ⟨rn, _, hr1, hr2, _⟩, _, _, ⟨bn, hb, hb1, hb2, _⟩⟩ := hR
  have k0 : σ.1 1 4 = σ.1 84 0 := hc.1.1.trans hm.1.1.symm
  have k1 : σ.1 6 5 = σ.1 84 1 := hc.2.2.2.2.1.trans hm.2.2.2.2.1.symm
  have k2 : σ.1 15 3 = σ.1 84 2 := hc.1.2.2.2.1.trans hm.1.2.2.2.1.symm
  have k3 : σ.1 19 3 = σ.1 84 3 := hc.1.2.2.2.2.trans hm.1.2.2.2.2.symm
  refine ⟨(if w = 0 then σ.1 84 0 else if w = 1 then σ.1 84 1 else if w = 2 then σ.1 84 2 else if w = 3 then σ.1 84 3 else if w = 4 then σ.1 83 16 else if w = 5 then σ.1 83 18 else if w = 6 then nI (min bn 30) else -1), ?_, ?_⟩
  · simp only [f_X11_many, k0, k1, k2, k3, hr1, hr2, ht1, ht2, hb1]
    repeat' split
    all_goals rfl
  · simp only [f_X12_many, sin_0_316, sin_1_316, sin_2_316, sin_3_316, grd_true, tn_0, tn_1, tn_2, tn_3, m_traced hb hb2, bd_some]
    repeat' split
    all_goals rfl
theorem op_trace (w : Int32) : OpP (fun σ => f_X11_trace σ w) (fun σ => f_X12_trace σ w) := by
  intro σ hR
  obtain ⟨_, _, _, _, _, _, ⟨bn, hb, hb1, hb2, hb3⟩⟩ := hR
  obtain ⟨n, hn⟩ : ∃ n, n = min bn 30 := ⟨_, rfl⟩
  rw [← hn] at hb1 hb3
  have t0 : (0 : Int32).toInt = 0 := rfl
  have t1 : (0 : Int64).toInt = 0 := rfl
  have hs : (nI n - 1).toInt = (n : Int) - 1 := nI_m1 (by omega)
  have e1 : f_X11_trace σ w = if 0 ≤ w.toInt ∧ w.toInt ≤ (n : Int) - 1 then grd (sIn w 30) (some (σ.1 82 w.toNatClampNeg)) else some (-3) := by
    simp only [f_X11_trace, x_within, hb1, hs, bd_some, t0]
    split <;> simp
  have e2 : f_X12_trace σ w = if 0 ≤ w.toInt ∧ w.toInt ≤ (n : Int) - 1 then grd (sIn w 30) (some (σ.1 104 w.toNatClampNeg)) else some (-3) := by
    simp only [f_X12_trace, m_traced hb hb2, ← hn, m_inI, i64_of, hs, bd_some, t1]
    split <;> simp
  by_cases c : 0 ≤ w.toInt ∧ w.toInt ≤ (n : Int) - 1
  · obtain ⟨j, hj, ej⟩ := i32_nI (i := w) (n := n) (by omega) (by omega) (by omega)
    have hin := sIn_nI (show j < 30 by omega) (show 30 < 2 ^ 31 by omega)
    refine ⟨σ.1 104 j, ?_, ?_⟩
    · show f_X11_trace σ w = _
      rw [e1, if_pos c, ej, grd_of hin, nI_clamp (by omega), hb3 j hj]
    · show f_X12_trace σ w = _
      rw [e2, if_pos c, ej, grd_of hin, nI_clamp (by omega)]
  · refine ⟨-3, ?_, ?_⟩
    · show f_X11_trace σ w = _
      rw [e1, if_neg c]
    · show f_X12_trace σ w = _
      rw [e2, if_neg c]
theorem x_isRow {σ : sS} {n : Nat} (hn : σ.1 67 1 = nI n) (h : n ≤ 20) (i w : Int32) : f_X4_has σ i w = some (if (0 ≤ i.toInt ∧ i.toInt < n) ∧ 0 ≤ w.toInt ∧ w.toInt ≤ 2 then 1 else 0) := by
  have e : (nI n).toInt = n := nI_toInt (by omega)
  have e0 : (0 : Int32).toInt = 0 := rfl
  have e2 : (2 : Int32).toInt = 2 := rfl
  unfold f_X4_has
  rw [hn]
  by_cases h1 : i < 0
  · have h2 := i32_lt.mp h1
    rw [if_pos h1, if_neg (by omega)]
  · have h2 := mt i32_lt.mpr h1
    rw [if_neg h1]
    by_cases h3 : i < nI n
    · have h4 := i32_lt.mp h3
      rw [if_pos h3, x_within, bd_some, e0, e2]
      by_cases h5 : 0 ≤ w.toInt ∧ w.toInt ≤ 2
      · rw [if_pos h5, if_neg (by decide), if_pos ⟨by omega, h5⟩]
      · rw [if_neg h5, if_pos rfl, if_neg (fun q => h5 q.2)]
    · have h4 := mt i32_lt.mpr h3
      rw [if_neg h3, if_neg (by omega)]
theorem m_isRow {σ : sS} {n : Nat} (hn : σ.1 83 16 = nI n) (h : n ≤ 20) (i w : Int32) : f_X12_isRow σ i w = some (if (0 ≤ i.toInt ∧ i.toInt < n) ∧ 0 ≤ w.toInt ∧ w.toInt ≤ 2 then 1 else 0) := by
  have e0 : (0 : Int64).toInt = 0 := rfl
  have e2 : (2 : Int64).toInt = 2 := rfl
  unfold f_X12_isRow
  simp only [hn, m_inI, i64_of, nI_m1 (show n < 1000000 by omega), bd_some, e0, e2]
  by_cases h1 : 0 ≤ i.toInt ∧ i.toInt < n
  · rw [if_pos (show 0 ≤ i.toInt ∧ i.toInt ≤ (n : Int) - 1 by omega), if_neg (by decide)]
    by_cases h5 : 0 ≤ w.toInt ∧ w.toInt ≤ 2
    · rw [if_pos h5, if_neg (by decide), if_pos ⟨h1, h5⟩]
    · rw [if_neg h5, if_pos rfl, if_neg (fun q => h5 q.2)]
  · rw [if_neg (show ¬ (0 ≤ i.toInt ∧ i.toInt ≤ (n : Int) - 1) by omega), if_pos rfl, if_neg (fun q => h1 q.1)]
theorem op_row (i w : Int32) : OpP (fun σ => f_X11_row σ i w) (fun σ => f_X12_row σ i w) := by
  intro σ hR
  obtain ⟨_, _, _, ⟨n, hn, hr1, hr2, hr3⟩, _⟩ := hR
  by_cases c : (0 ≤ i.toInt ∧ i.toInt < n) ∧ 0 ≤ w.toInt ∧ w.toInt ≤ 2
  · obtain ⟨j, hj, ej⟩ := i32_nI (i := i) (n := n) (by omega) (by omega) (by omega)
    obtain ⟨k, hk, ek⟩ := i32_nI (i := w) (n := 3) (by omega) (by omega) (by omega)
    have hin := sIn_nI (show 3 * j + k < 60 by omega) (show 60 < 2 ^ 31 by omega)
    have e1 : (nI j * 3) + nI k = nI (3 * j + k) := by rw [show (3 : Int32) = nI 3 from rfl, pk_mul, nI_add, Nat.mul_comm]
    have e2 : ((3 : Int32) * nI j) + nI k = nI (3 * j + k) := by rw [show (3 : Int32) = nI 3 from rfl, pk_mul, nI_add]
    refine ⟨σ.1 96 (3 * j + k), ?_, ?_⟩
    · simp only [f_X11_row, x_isRow hr1 hn, bd_some, if_pos c, z10, if_false, f_X4_cellAt]
      rw [ej, ek, e1, grd_of hin, nI_clamp (by omega), hr3 _ (by omega)]
    · simp only [f_X12_row, m_isRow hr2 hn, bd_some, if_pos c, z10, if_false]
      rw [ej, ek, e2, grd_of hin, nI_clamp (by omega)]
  · exact ⟨-9, by simp only [f_X11_row, x_isRow hr1 hn, bd_some, if_neg c, if_true], by simp only [f_X12_row, m_isRow hr2 hn, bd_some, if_neg c, if_true]⟩
theorem op_alterRow (i w v : Int32) : Op (fun σ => f_X11_alterRow σ i w v) (fun σ => f_X12_alterRow σ i w v) := by
  intro σ hR
  have hR0 := hR
  obtain ⟨⟨a, hv, hc, hm⟩, o1, o2, ⟨n, hn, hr1, hr2, hr3⟩, o4, o5, o6⟩ := hR
  by_cases c : (0 ≤ i.toInt ∧ i.toInt < n) ∧ 0 ≤ w.toInt ∧ w.toInt ≤ 2
  · obtain ⟨j, hj, ej⟩ := i32_nI (i := i) (n := n) (by omega) (by omega) (by omega)
    obtain ⟨k, hk, ek⟩ := i32_nI (i := w) (n := 3) (by omega) (by omega) (by omega)
    obtain ⟨x, hx⟩ : ∃ x, x = 3 * j + k := ⟨_, rfl⟩
    have hx60 : x < 60 := by omega
    have hin := sIn_nI hx60 (show 60 < 2 ^ 31 by omega)
    have hcl := nI_clamp (show x < 2 ^ 31 by omega)
    have e1 : (nI j * 3) + nI k = nI x := by rw [hx, show (3 : Int32) = nI 3 from rfl, pk_mul, nI_add, Nat.mul_comm]
    have e2 : ((3 : Int32) * nI j) + nI k = nI x := by rw [hx, show (3 : Int32) = nI 3 from rfl, pk_mul, nI_add]
    have g1 : ∀ q, q ≠ 68 → (sI σ 68 x v).1 q = σ.1 q := fun q h => sI_off _ _ _ _ h
    have hr2' : (sI σ 68 x v).1 83 16 = nI n := by rw [g1 83 (by omega)]; exact hr2
    refine ⟨σ.1 96 x, sI σ 68 x v, sI (sI σ 68 x v) 96 x v, ?_, ?_, ?_⟩
    · simp only [f_X11_alterRow, x_isRow hr1 hn, bd_some, if_pos c, z10, if_false, f_X4_cellAt, f_X11_replaced_f]
      rw [ej, ek, e1]
      simp only [grd_of hin, hcl, pt_eq, bd_some, hr3 _ (show x < 3 * n by omega)]
    · simp only [f_X12_alterRow, m_isRow hr2' hn, bd_some, if_pos c, z10, if_false]
      rw [ej, ek, e2]
      simp only [grd_of hin, hcl, pt_eq, g1 96 (by omega)]
    · refine ⟨⟨a, hv, cK_of (agr_I (agr_I agr_rf rfl) rfl) hc, mK_of (agr_I (agr_I agr_rf rfl) rfl) hm⟩, rKept_of (agr_I (agr_I agr_rf rfl) rfl) o1, rTape_of (agr_I (agr_I agr_rf rfl) rfl) o2, ⟨n, hn, ?_, ?_, fun y hy => ?_⟩, rSheets_of (agr_I (agr_I agr_rf rfl) rfl) o4, rShelves_of (agr_I (agr_I agr_rf rfl) rfl) o5, rTrace_of (agr_I (agr_I agr_rf rfl) rfl) o6⟩
      · rw [sI_off _ _ _ _ (by omega), g1 67 (by omega)]; exact hr1
      · rw [sI_off _ _ _ _ (by omega)]; exact hr2'
      · rw [sI_off _ _ _ _ (show (68 : Nat) ≠ 96 by omega), sI_row, sI_row, g1 96 (by omega), upd_r, upd_r, hr3 y hy]
  · exact ⟨-9, σ, σ, by simp only [f_X11_alterRow, x_isRow hr1 hn, bd_some, if_neg c, if_true], by simp only [f_X12_alterRow, m_isRow hr2 hn, bd_some, if_neg c, if_true], hR0⟩
