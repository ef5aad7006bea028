/-! shelf() -/
theorem Rel_shf {σ τ : sS} (h : ∀ q, (q < 78 ∨ 80 < q) → (q < 101 ∨ 103 < q) → τ.1 q = σ.1 q) (hs : rShelves τ) (hR : Rel σ) : Rel τ := by
  obtain ⟨⟨a, hv, hc, hm⟩, o1, o2, o3, o4, o5, o6⟩ := hR
  refine ⟨⟨a, hv, cK_of (fun q j g => ?_) hc, mK_of (fun q j g => ?_) hm⟩, rKept_of (fun q j g => ?_) o1, rTape_of (fun q j g => ?_) o2, rRows_of (fun q j g => ?_) o3, rSheets_of (fun q j g => ?_) o4, hs, rTrace_of (fun q j g => ?_) o6⟩
  · have := pCur_q g
    rw [h q (by omega) (by omega)]
  · have : q = 84 := by unfold pMod at g; simpa using g
    rw [h q (by omega) (by omega)]
  · have := pKep_q g
    rw [h q (by omega) (by omega)]
  · have : q = 45 ∨ q = 50 ∨ q = 52 ∨ q = 97 ∨ q = 83 := by unfold pTap at g; simp at g; omega
    rw [h q (by omega) (by omega)]
  · have : q = 67 ∨ q = 68 ∨ q = 96 ∨ q = 83 := by unfold pRow at g; simp at g; omega
    rw [h q (by omega) (by omega)]
  · have := pShe_q g
    rw [h q (by omega) (by omega)]
  · have : q = 81 ∨ q = 82 ∨ q = 104 ∨ q = 83 := by unfold pTra at g; simp at g; omega
    rw [h q (by omega) (by omega)]
/-- the shelf s, written on both sides -/
def shC (σ : sS) (s : Nat) (x y z : Int32) : sS := sI (sI (sI σ 78 s x) 79 s y) 80 s z
def shC2 (σ : sS) (s : Nat) (x y : Int32) : sS := sI (sI σ 78 s x) 79 s y
def shM (σ : sS) (s : Nat) (x y z : Int32) : sS := sI (sI (sI σ 101 s x) 102 s y) 103 s z
theorem shf_new {σ τ : sS} (hR : Rel σ) {s : Nat} {x y z : Int32} (h1 : ∀ q, (q < 78 ∨ 80 < q) → τ.1 q = σ.1 q) (h2 : ∀ j, j ≠ s → τ.1 78 j = σ.1 78 j ∧ τ.1 79 j = σ.1 79 j ∧ τ.1 80 j = σ.1 80 j) (hs : rShelf (shM τ s x y z) s) : Rel (shM τ s x y z) := by
  refine Rel_shf (σ := σ) (fun q g1 g2 => ?_) (fun j hj => ?_) hR
  · unfold shM
    rw [sI_off _ _ _ _ (by omega), sI_off _ _ _ _ (by omega), sI_off _ _ _ _ (by omega), h1 q g1]
  · by_cases e : j = s
    · rw [e]
      exact hs
    · have o5 := hR.2.2.2.2.2.1 j hj
      have k1 : (shM τ s x y z).1 101 j = σ.1 101 j := by unfold shM; simp only [sI_r]; simp [e, h1]
      have k2 : (shM τ s x y z).1 102 j = σ.1 102 j := by unfold shM; simp only [sI_r]; simp [e, h1]
      have k3 : (shM τ s x y z).1 103 j = σ.1 103 j := by unfold shM; simp only [sI_r]; simp [e, h1]
      have k4 : ∀ q, q < 101 → (shM τ s x y z).1 q = τ.1 q := fun q hq => by unfold shM; rw [sI_off _ _ _ _ (by omega), sI_off _ _ _ _ (by omega), sI_off _ _ _ _ (by omega)]
      unfold rShelf at o5 ⊢
      rw [k1, k2, k3, k4 78 (by omega), k4 79 (by omega), k4 80 (by omega), (h2 j e).1, (h2 j e).2.1, (h2 j e).2.2]
      exact o5
theorem op_shelf (x w v : Int32) : Op (fun σ => f_X11_shelf σ x w v) (fun σ => f_X12_shelf σ x w v) := by
  intro σ hR
  obtain ⟨⟨a, hv, hc, hm⟩, o1, o2, o3, o4, o5, o6⟩ := id hR
  have h9 : aN a ≤ 9 := hv.1.1.2
  have a1 : σ.1 1 4 = nI (aN a) := hc.1.1.trans hv.1.1.1
  have a2 : σ.1 84 0 = nI (aN a) := hm.1.1.trans hv.1.1.1
  by_cases cx : 0 ≤ x.toInt ∧ x.toInt ≤ 3
  rotate_left
  · exact ⟨-1, σ, σ, by simp only [f_X11_shelf, x_shelfR, bd_some, if_neg cx, if_true], by simp only [f_X12_shelf, m_oneR, bd_some, if_neg cx, if_true], hR⟩
  obtain ⟨s, hs3, es⟩ := nI_of_bt (x := x) (n := 3) (by omega) (by omega) (by omega)
  have hin := sIn_nI (show s < 4 by omega) (show 4 < 2 ^ 31 by omega)
  have hcl := nI_clamp (show s < 2 ^ 31 by omega)
  by_cases w0 : w = 0
  · have hp : (0 : Int64).toInt ≤ w.toInt ∧ w.toInt ≤ (2 : Int64).toInt := by rw [w0]; decide
    by_cases cv : 0 ≤ v.toInt ∧ v.toInt < aN a
    rotate_left
    · exact ⟨-1, σ, σ, by simp only [f_X11_shelf, x_shelfR, bd_some, if_pos cx, z10, if_false, if_pos w0, x_has a1 h9, if_neg cv, if_true], by simp only [f_X12_shelf, m_oneR, m_inI, bd_some, if_pos cx, z10, if_false, if_pos hp, if_pos w0, m_isAn a2 h9, if_neg cv, if_true], hR⟩
    obtain ⟨τ, hτ⟩ : ∃ τ, τ = shC2 σ s v (-1) := ⟨_, rfl⟩
    have n84 : τ.1 84 0 = nI (aN a) := by rw [hτ]; unfold shC2; rw [sI_off _ _ _ _ (by omega), sI_off _ _ _ _ (by omega)]; exact a2
    refine ⟨1, τ, shM τ s 1 v 0, ?_, ?_, shf_new hR (fun q hq => ?_) (fun j hj => ?_) ?_⟩
    · simp only [f_X11_shelf, x_shelfR, bd_some, if_pos cx, z10, if_false, if_pos w0, x_has a1 h9, if_pos cv, f_X9_holdAnimal]
      rw [es]
      simp only [grd_of hin, hcl, pt_eq, bd_some]
      rw [hτ]
      rfl
    · have w1 : ¬ w = 1 := by rw [w0]; decide
      simp only [f_X12_shelf, m_oneR, m_inI, bd_some, if_pos cx, z10, if_false, if_pos hp, if_pos w0, m_isAn n84 h9, if_pos cv, fj_X12_shelf_31, if_neg w1, fj_X12_shelf_45, fj_X12_shelf_77, fj_X12_shelf_106, fj_X12_shelf_127]
      rw [es]
      simp only [grd_of hin, hcl, pt_eq]
      rfl
    · rw [hτ]; unfold shC2; rw [sI_off _ _ _ _ (by omega), sI_off _ _ _ _ (by omega)]
    · rw [hτ]; unfold shC2; simp [sI_r, hj]
    · refine Or.inr (Or.inl ⟨?_, ?_, ?_, ?_⟩)
      · unfold shM; simp [sI_r]
      · rw [hτ]; unfold shM shC2; simp [sI_r]
      · rw [hτ]; unfold shM shC2; simp [sI_r]
      · rw [hτ]; unfold shM shC2; simp [sI_r]; exact ⟨cv.1, by omega⟩
  by_cases w1 : w = 1
  · have hp : (0 : Int64).toInt ≤ w.toInt ∧ w.toInt ≤ (2 : Int64).toInt := by rw [w1]; decide
    by_cases cv : 0 ≤ v.toInt ∧ v.toInt ≤ 3
    rotate_left
    · exact ⟨-1, σ, σ, by simp only [f_X11_shelf, x_shelfR, x_sheetR, bd_some, if_pos cx, z10, if_false, if_neg w0, if_pos w1, if_neg cv, if_true], by simp only [f_X12_shelf, m_oneR, m_inI, bd_some, if_pos cx, z10, if_false, if_pos hp, if_neg w0, if_pos w1, if_neg cv, if_true, fj_X12_shelf_31], hR⟩
    obtain ⟨t, ht3, et⟩ := nI_of_bt (x := v) (n := 3) (by omega) (by omega) (by omega)
    have hin2 := sIn_nI (show t < 4 by omega) (show 4 < 2 ^ 31 by omega)
    have hcl2 := nI_clamp (show t < 2 ^ 31 by omega)
    obtain ⟨b1, b2, b3, b4, b5, b6⟩ := o4 t (by omega)
    obtain ⟨τ, hτ⟩ : ∃ τ, τ = shC σ s (-3) (σ.1 70 t) (σ.1 71 t) := ⟨_, rfl⟩
    have A : ∀ q, (q < 78 ∨ 80 < q) → τ.1 q = σ.1 q := fun q hq => by rw [hτ]; unfold shC; rw [sI_off _ _ _ _ (by omega), sI_off _ _ _ _ (by omega), sI_off _ _ _ _ (by omega)]
    obtain ⟨m, hm2⟩ : ∃ m : Int32, m = if σ.1 70 t = -1 then 0 else 2 := ⟨_, rfl⟩
    refine ⟨1, τ, shM τ s m (σ.1 71 t) (σ.1 70 t), ?_, ?_, shf_new hR A (fun j hj => ?_) ?_⟩
    · simp only [f_X11_shelf, x_shelfR, x_sheetR, bd_some, if_pos cx, z10, if_false, if_neg w0, if_pos w1, if_pos cv, f_X9_holdRow]
      rw [es, et]
      simp only [grd_of hin, grd_of hin2, hcl, hcl2, pt_eq, bd_some]
      rw [hτ]
      rfl
    · have d1 : τ.1 98 t = σ.1 70 t := by rw [A 98 (by omega), b1]
      have d2 : τ.1 99 t = σ.1 71 t := by rw [A 99 (by omega), b3]
      have r1 : ∀ (υ : sS) (j : Nat) (y : Int32), (sI υ 101 j y).1 99 t = υ.1 99 t := fun υ j y => by rw [sI_off _ _ _ _ (by omega)]
      have r2 : ∀ (υ : sS) (j : Nat) (y : Int32), (sI υ 101 j y).1 98 t = υ.1 98 t := fun υ j y => by rw [sI_off _ _ _ _ (by omega)]
      have r3 : ∀ (υ : sS) (j : Nat) (y : Int32), (sI υ 102 j y).1 98 t = υ.1 98 t := fun υ j y => by rw [sI_off _ _ _ _ (by omega)]
      simp only [f_X12_shelf, m_oneR, m_inI, bd_some, if_pos cx, z10, if_false, if_pos hp, if_neg w0, if_pos w1, if_pos cv, fj_X12_shelf_31, fj_X12_shelf_45, fj_X12_shelf_76, fj_X12_shelf_77, fj_X12_shelf_106, fj_X12_shelf_127]
      rw [es, et]
      simp only [grd_of hin, grd_of hin2, hcl, hcl2, pt_eq, r1, r2, r3, d1, d2]
      by_cases e : σ.1 70 t = -1
      · rw [if_pos (show σ.1 70 t < 0 by rw [e]; decide), hm2, if_pos e]
        rfl
      · rw [if_neg (show ¬ σ.1 70 t < 0 by rw [neg_m1 b2]; exact e), hm2, if_neg e]
        rfl
    · rw [hτ]; unfold shC; simp [sI_r, hj]
    · by_cases e : σ.1 70 t = -1
      · refine Or.inl ⟨?_, ?_, ?_⟩
        · unfold shM; simp [sI_r, hm2, e]
        · rw [hτ]; unfold shM shC; simp [sI_r]
        · rw [hτ]; unfold shM shC; simp [sI_r, e]
      · have b7 : bt (σ.1 70 t) 0 4 := by
          refine ⟨?_, b2.2⟩
          have : ¬ σ.1 70 t < 0 := by rw [neg_m1 b2]; exact e
          have := mt i32_lt.mpr this
          have t0 : (0 : Int32).toInt = 0 := rfl
          omega
        refine Or.inr (Or.inr ⟨?_, ?_, ?_, ?_, ?_, ?_⟩)
        · unfold shM; simp [sI_r, hm2, e]
        · rw [hτ]; unfold shM shC; simp [sI_r]
        · rw [hτ]; unfold shM shC; simp [sI_r]
        · rw [hτ]; unfold shM shC; simp [sI_r]; exact b7
        · rw [hτ]; unfold shM shC; simp [sI_r]
        · rw [hτ]; unfold shM shC; simp [sI_r]; exact b4
  by_cases w2 : w = 2
  · have hp : (0 : Int64).toInt ≤ w.toInt ∧ w.toInt ≤ (2 : Int64).toInt := by rw [w2]; decide
    obtain ⟨τ, hτ⟩ : ∃ τ, τ = shC2 σ s (-3) (-1) := ⟨_, rfl⟩
    refine ⟨1, τ, shM τ s 0 0 0, ?_, ?_, shf_new hR (fun q hq => ?_) (fun j hj => ?_) ?_⟩
    · simp only [f_X11_shelf, x_shelfR, bd_some, if_pos cx, z10, if_false, if_neg w0, if_neg w1, if_pos w2, f_X9_clear]
      rw [es]
      simp only [grd_of hin, hcl, pt_eq, bd_some]
      rw [hτ]
      rfl
    · simp only [f_X12_shelf, m_oneR, m_inI, bd_some, if_pos cx, z10, if_false, if_pos hp, if_neg w0, if_neg w1, fj_X12_shelf_31, fj_X12_shelf_45, fj_X12_shelf_76, fj_X12_shelf_77, fj_X12_shelf_106, fj_X12_shelf_127]
      rw [es]
      simp only [grd_of hin, hcl, pt_eq]
      rfl
    · rw [hτ]; unfold shC2; rw [sI_off _ _ _ _ (by omega), sI_off _ _ _ _ (by omega)]
    · rw [hτ]; unfold shC2; simp [sI_r, hj]
    · refine Or.inl ⟨?_, ?_, ?_⟩
      · unfold shM; simp [sI_r]
      · rw [hτ]; unfold shM shC2; simp [sI_r]
      · rw [hτ]; unfold shM shC2; simp [sI_r]
  · have hn : ¬ ((0 : Int64).toInt ≤ w.toInt ∧ w.toInt ≤ (2 : Int64).toInt) := fun h => by
      have t0 : (0 : Int64).toInt = 0 := rfl
      have t2 : (2 : Int64).toInt = 2 := rfl
      obtain ⟨k, hk, e⟩ := i32_nI (i := w) (n := 3) (by omega) (by omega) (by omega)
      rcases (by omega : k = 0 ∨ k = 1 ∨ k = 2) with e2 | e2 | e2 <;> rw [e2] at e
      · exact w0 e
      · exact w1 e
      · exact w2 e
    exact ⟨-1, σ, σ, by simp only [f_X11_shelf, x_shelfR, bd_some, if_pos cx, z10, if_false, if_neg w0, if_neg w1, if_neg w2], by simp only [f_X12_shelf, m_oneR, m_inI, bd_some, if_pos cx, z10, if_false, if_neg hn, if_true], hR⟩
