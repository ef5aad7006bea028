/-! sheet(), item(), write() -/
theorem x_sheetR (σ : sS) (v : Int32) : f_X11_isSheet σ v = some (if 0 ≤ v.toInt ∧ v.toInt ≤ 3 then 1 else 0) := by
  unfold f_X11_isSheet
  rw [x_within, bd_some]
  exact grd_of (sBo_if _ _) _
theorem x_shelfR (σ : sS) (v : Int32) : f_X11_isShelf σ v = some (if 0 ≤ v.toInt ∧ v.toInt ≤ 3 then 1 else 0) := by
  unfold f_X11_isShelf
  rw [x_within, bd_some]
  exact grd_of (sBo_if _ _) _
theorem x_sortR (σ : sS) (v : Int32) : f_X11_isSort σ v = some (if 0 ≤ v.toInt ∧ v.toInt ≤ 4 then 1 else 0) := by
  unfold f_X11_isSort
  rw [x_within, bd_some]
  exact grd_of (sBo_if _ _) _
theorem m_oneR (σ : sS) (v : Int32) : f_X12_isOne σ v = some (if 0 ≤ v.toInt ∧ v.toInt ≤ 3 then 1 else 0) := by
  unfold f_X12_isOne
  rw [m_inI, bd_some]
  exact grd_of (sBo_if _ _) _
theorem pShe_q {q j : Nat} (h : pShe q j = true) : (70 ≤ q ∧ q ≤ 76) ∨ (98 ≤ q ∧ q ≤ 100) := by
  unfold pShe at h
  simpa using h
theorem pShf_q {q j : Nat} (h : pShf q j = true) : (78 ≤ q ∧ q ≤ 80) ∨ (101 ≤ q ∧ q ≤ 103) := by
  unfold pShf at h
  simpa using h
/-- all but sheets -/
def pNs (q : Nat) : Bool := !((Nat.ble 70 q && Nat.ble q 76) || (Nat.ble 98 q && Nat.ble q 100))
theorem Rel_she {σ τ : sS} (h : ∀ q, (q < 70 ∨ 76 < q) → (q < 98 ∨ 100 < q) → τ.1 q = σ.1 q) (hs : rSheets τ) (hR : Rel σ) : Rel τ := by
  obtain ⟨⟨a, hv, hc, hm⟩, o1, o2, o3, o4, o5, o6⟩ := hR
  refine ⟨⟨a, hv, cK_of (fun q j g => ?_) hc, mK_of (fun q j g => ?_) hm⟩, rKept_of (fun q j g => ?_) o1, rTape_of (fun q j g => ?_) o2, rRows_of (fun q j g => ?_) o3, hs, rShelves_of (fun q j g => ?_) o5, rTrace_of (fun q j g => ?_) o6⟩
  · have := pCur_q g
    rw [h q (by omega) (by omega)]
  · have : q = 84 := by unfold pMod at g; simpa using g
    rw [h q (by omega) (by omega)]
  · have := pKep_q g
    rw [h q (by omega) (by omega)]
  · have : q = 45 ∨ q = 50 ∨ q = 52 ∨ q = 97 ∨ q = 83 := by unfold pTap at g; simp at g; omega
    rw [h q (by omega) (by omega)]
  · have : q = 67 ∨ q = 68 ∨ q = 96 ∨ q = 83 := by unfold pRow at g; simp at g; omega
    rw [h q (by omega) (by omega)]
  · have := pShf_q g
    rw [h q (by omega) (by omega)]
  · have : q = 81 ∨ q = 82 ∨ q = 104 ∨ q = 83 := by unfold pTra at g; simp at g; omega
    rw [h q (by omega) (by omega)]
theorem she_new {σ : sS} (hR : Rel σ) {s : Nat} (hs : s < 4) {v w : Int32} (hv : bt v (-1) 4) (hw : bt w 0 40) (h0 : v = -1 → w = 0) : ∃ τ υ, f_X8_renew σ (nI s) v w = some τ ∧ fj_X12_sheet_65 (sI τ 98 s v) (nI s) (nI s) w = some (1, υ) ∧ Rel υ := by
  obtain ⟨τ, e1, p1, p2, p3, p4, p5⟩ := x_renew σ hs v w
  obtain ⟨υ, e2, q1, q2, q3, q4, q5, q6⟩ := m_renew τ hs v w
  refine ⟨τ, υ, e1, e2, Rel_she (σ := σ) (fun q g1 g2 => by rw [q1 q (by omega) (by omega) (by omega), p1 q (by omega) (by omega) (by omega)]) (fun j hj => ?_) hR⟩
  obtain ⟨b1, b2, b3, b4, b5, b6⟩ := hR.2.2.2.2.1 j hj
  by_cases e : j = s
  · subst e
    rw [q1 70 (by omega) (by omega) (by omega), q1 71 (by omega) (by omega) (by omega), q1 (73 + j) (by omega) (by omega) (by omega), q3, q4, p3, p4]
    refine ⟨rfl, hv, rfl, hw, h0, fun k hk => ?_⟩
    rw [p5 k hk, q6 k hk]
  · rw [q1 70 (by omega) (by omega) (by omega), q1 71 (by omega) (by omega) (by omega), q1 (73 + j) (by omega) (by omega) (by omega), (q2 j e).1, (q2 j e).2, (p2 j e).1, (p2 j e).2, p1 (73 + j) (by omega) (by omega) (by omega), p1 98 (by omega) (by omega) (by omega), p1 99 (by omega) (by omega) (by omega)]
    refine ⟨b1, b2, b3, b4, b5, fun k hk => ?_⟩
    rw [q5 (40 * j + k) (by omega), p1 100 (by omega) (by omega) (by omega)]
    exact b6 k hk
theorem op_sheet (x v w : Int32) : Op (fun σ => f_X11_sheet σ x v w) (fun σ => f_X12_sheet σ x v w) := by
  intro σ hR
  have tm : (-1 : Int32).toInt = -1 := rfl
  have t0 : (0 : Int32).toInt = 0 := rfl
  have t40 : (40 : Int32).toInt = 40 := rfl
  have sm : (-1 : Int64).toInt = -1 := rfl
  have s4 : (4 : Int64).toInt = 4 := rfl
  by_cases cx : 0 ≤ x.toInt ∧ x.toInt ≤ 3
  rotate_left
  · exact ⟨-1, σ, σ, by simp only [f_X11_sheet, x_sheetR, bd_some, if_neg cx, if_true], by simp only [f_X12_sheet, m_oneR, bd_some, if_neg cx, if_true], hR⟩
  obtain ⟨s, hs3, es⟩ := nI_of_bt (x := x) (n := 3) (by omega) (by omega) (by omega)
  have hin := sIn_nI (show s < 4 by omega) (show 4 < 2 ^ 31 by omega)
  have hcl := nI_clamp (show s < 2 ^ 31 by omega)
  by_cases c1 : v = -1
  · have hv1 : v < 0 := by rw [c1]; decide
    have hp : (-1 : Int64).toInt ≤ v.toInt ∧ v.toInt ≤ (4 : Int64).toInt := by rw [c1]; decide
    obtain ⟨τ, υ, e1, e2, hr⟩ := she_new hR (s := s) (by omega) (v := v) (w := 0) (by rw [c1]; exact ⟨by decide, by decide⟩) ⟨by decide, by decide⟩ (fun _ => rfl)
    refine ⟨1, τ, υ, ?_, ?_, hr⟩
    · simp only [f_X11_sheet, x_sheetR, bd_some, if_pos cx, z10, if_false, if_pos c1, fj_X11_sheet_27, fj_X11_sheet_39, fj_X11_sheet_55]
      rw [es, e1, bd_some]
    · simp only [f_X12_sheet, m_oneR, bd_some, if_pos cx, z10, if_false, m_inI, if_pos hp, if_pos hv1, fj_X12_sheet_33, fj_X12_sheet_44]
      rw [es, grd_of hin, pt_eq, hcl]
      exact e2
  by_cases c2 : 0 ≤ v.toInt ∧ v.toInt ≤ 4
  rotate_left
  · have hp : ¬ ((-1 : Int64).toInt ≤ v.toInt ∧ v.toInt ≤ (4 : Int64).toInt) := fun h => by
      rw [sm, s4] at h
      have : v.toInt = -1 := by omega
      exact c1 (Int32.toInt_inj.mp (this.trans tm.symm))
    exact ⟨-1, σ, σ, by simp only [f_X11_sheet, x_sheetR, bd_some, if_pos cx, z10, if_false, if_neg c1, x_sortR, if_neg c2, if_true], by simp only [f_X12_sheet, m_oneR, bd_some, if_pos cx, z10, if_false, m_inI, if_neg hp, if_true], hR⟩
  have hp : (-1 : Int64).toInt ≤ v.toInt ∧ v.toInt ≤ (4 : Int64).toInt := by rw [sm, s4]; omega
  have hv1 : ¬ v < 0 := fun h => by have := i32_lt.mp h; omega
  by_cases c3 : 40 < w
  · exact ⟨-1, σ, σ, by simp only [f_X11_sheet, x_sheetR, bd_some, if_pos cx, z10, if_false, if_neg c1, x_sortR, if_pos c2, if_pos c3], by simp only [f_X12_sheet, m_oneR, bd_some, if_pos cx, z10, if_false, m_inI, if_pos hp, if_neg hv1, if_pos c3], hR⟩
  by_cases c4 : w < 0
  · exact ⟨-14, σ, σ, by simp only [f_X11_sheet, x_sheetR, bd_some, if_pos cx, z10, if_false, if_neg c1, x_sortR, if_pos c2, if_neg c3, fj_X11_sheet_27, if_pos c4], by simp only [f_X12_sheet, m_oneR, bd_some, if_pos cx, z10, if_false, m_inI, if_pos hp, if_neg hv1, if_neg c3, fj_X12_sheet_33, if_pos c4], hR⟩
  have h3 := mt i32_lt.mpr c3
  have h4 := mt i32_lt.mpr c4
  obtain ⟨τ, υ, e1, e2, hr⟩ := she_new hR (s := s) (by omega) (v := v) (w := w) ⟨by omega, c2.2⟩ ⟨by omega, by omega⟩ (fun h => absurd h c1)
  refine ⟨1, τ, υ, ?_, ?_, hr⟩
  · simp only [f_X11_sheet, x_sheetR, bd_some, if_pos cx, z10, if_false, if_neg c1, x_sortR, if_pos c2, if_neg c3, fj_X11_sheet_27, if_neg c4, fj_X11_sheet_39, fj_X11_sheet_55]
    rw [es, e1, bd_some]
  · simp only [f_X12_sheet, m_oneR, bd_some, if_pos cx, z10, if_false, m_inI, if_pos hp, if_neg hv1, if_neg c3, fj_X12_sheet_33, if_neg c4, fj_X12_sheet_44]
    rw [es, grd_of hin, pt_eq, hcl]
    exact e2
theorem x_hasItem {σ : sS} {s n : Nat} (hs : s < 4) (hn : σ.1 71 s = nI n) (h : n ≤ 40) (i : Int32) : f_X8_hasItem σ (nI s) i = some (if 0 ≤ i.toInt ∧ i.toInt < n then 1 else 0) := by
  have e : (nI n).toInt = n := nI_toInt (by omega)
  have e0 : (0 : Int32).toInt = 0 := rfl
  unfold f_X8_hasItem
  rw [grd_of (sIn_nI hs (by omega)), nI_clamp (by omega), hn]
  by_cases h1 : i < 0
  · have h2 := i32_lt.mp h1
    rw [if_pos h1, if_neg (by omega)]
  · have h2 := mt i32_lt.mpr h1
    rw [if_neg h1]
    by_cases h3 : i < nI n
    · have h4 := i32_lt.mp h3
      rw [if_pos h3, if_pos (by omega)]
    · have h4 := mt i32_lt.mpr h3
      rw [if_neg h3, if_neg (by omega)]
theorem neg_m1 {v : Int32} (h : bt v (-1) 4) : (v < 0) = (v = -1) := by
  have tm : (-1 : Int32).toInt = -1 := rfl
  have t0 : (0 : Int32).toInt = 0 := rfl
  unfold bt at h
  apply propext
  constructor
  · intro h2
    have := i32_lt.mp h2
    exact Int32.toInt_inj.mp (by omega)
  · intro h2
    rw [h2]
    decide
theorem op_item (x v i : Int32) : OpP (fun σ => f_X11_item σ x v i) (fun σ => f_X12_item σ x v i) := by
  intro σ hR
  have s0 : (0 : Int64).toInt = 0 := rfl
  have s4 : (4 : Int64).toInt = 4 := rfl
  by_cases cx : 0 ≤ x.toInt ∧ x.toInt ≤ 3
  rotate_left
  · exact ⟨-1, by simp only [f_X11_item, x_sheetR, bd_some, if_neg cx, if_true], by simp only [f_X12_item, m_oneR, bd_some, if_neg cx, if_true]⟩
  obtain ⟨s, hs3, es⟩ := nI_of_bt (x := x) (n := 3) (by omega) (by omega) (by omega)
  have hin := sIn_nI (show s < 4 by omega) (show 4 < 2 ^ 31 by omega)
  have hcl := nI_clamp (show s < 2 ^ 31 by omega)
  obtain ⟨b1, b2, b3, b4, b5, b6⟩ := hR.2.2.2.2.1 s (by omega)
  by_cases cv : 0 ≤ v.toInt ∧ v.toInt ≤ 4
  rotate_left
  · exact ⟨-1, by simp only [f_X11_item, x_sheetR, x_sortR, bd_some, if_pos cx, z10, if_false, if_neg cv, if_true], by simp only [f_X12_item, m_oneR, m_inI, s0, s4, bd_some, if_pos cx, z10, if_false, if_neg cv, if_true]⟩
  obtain ⟨n, hn40, en⟩ := nI_of_bt (x := σ.1 71 s) (n := 40) (by exact b4.1) (by exact b4.2) (by omega)
  have en2 : σ.1 99 s = nI n := b3.symm.trans en
  by_cases c1 : σ.1 70 s = -1
  · refine ⟨-11, ?_, ?_⟩
    · simp only [f_X11_item, x_sheetR, x_sortR, bd_some, if_pos cx, z10, if_false, if_pos cv]
      rw [es, grd_of hin, hcl, if_pos c1]
    · have c2 : σ.1 98 s < 0 := by rw [← b1, c1]; decide
      simp only [f_X12_item, m_oneR, m_inI, s0, s4, bd_some, if_pos cx, z10, if_false, if_pos cv, f_X12_wrong]
      rw [es, grd_of hin, hcl, if_pos c2, bd_some, if_neg (by decide)]
  have c2 : ¬ σ.1 98 s < 0 := by rw [← b1, neg_m1 b2]; exact c1
  by_cases c3 : σ.1 70 s = v
  rotate_left
  · have c4 : ¬ σ.1 98 s = v := by rw [← b1]; exact c3
    refine ⟨-13, ?_, ?_⟩
    · simp only [f_X11_item, x_sheetR, x_sortR, bd_some, if_pos cx, z10, if_false, if_pos cv]
      rw [es, grd_of hin, hcl, if_neg c1, grd_of hin, if_neg c3]
    · simp only [f_X12_item, m_oneR, m_inI, s0, s4, bd_some, if_pos cx, z10, if_false, if_pos cv, f_X12_wrong]
      rw [es, grd_of hin, hcl, if_neg c2, grd_of hin, if_neg c4, bd_some, if_neg (by decide)]
  have c4 : σ.1 98 s = v := by rw [← b1]; exact c3
  by_cases ci : 0 ≤ i.toInt ∧ i.toInt < n
  rotate_left
  · have ci2 : ¬ (0 ≤ i.toInt ∧ i.toInt ≤ (n : Int) - 1) := by omega
    refine ⟨-12, ?_, ?_⟩
    · simp only [f_X11_item, x_sheetR, x_sortR, bd_some, if_pos cx, z10, if_false, if_pos cv]
      rw [es, grd_of hin, hcl, if_neg c1, grd_of hin, if_pos c3, x_hasItem (by omega) en hn40, bd_some, if_neg ci, if_pos rfl]
    · simp only [f_X12_item, m_oneR, m_inI, s0, s4, bd_some, if_pos cx, z10, if_false, if_pos cv, f_X12_wrong]
      rw [es, grd_of hin, hcl, if_neg c2, grd_of hin, if_pos c4, bd_some, if_pos rfl, grd_of hin, en2, i64_of, nI_m1 (by omega), if_neg ci2, if_pos rfl]
  have ci2 : 0 ≤ i.toInt ∧ i.toInt ≤ (n : Int) - 1 := by omega
  obtain ⟨k, hk, ek⟩ := i32_nI (i := i) (n := n) ci.1 ci.2 (by omega)
  have hink := sIn_nI (show k < 40 by omega) (show 40 < 2 ^ 31 by omega)
  have hclk := nI_clamp (show k < 2 ^ 31 by omega)
  refine ⟨σ.1 (73 + s) k, ?_, ?_⟩
  · simp only [f_X11_item, x_sheetR, x_sortR, bd_some, if_pos cx, z10, if_false, if_pos cv]
    rw [es, grd_of hin, hcl, if_neg c1, grd_of hin, if_pos c3, x_hasItem (by omega) en hn40, bd_some, if_pos ci, if_neg (by decide), ek, grd_of hink, grd_of hink, grd_of hink, grd_of hink, hclk]
    rcases (by omega : s = 0 ∨ s = 1 ∨ s = 2 ∨ s = 3) with e | e | e | e <;> subst e
    · rw [if_pos (by decide)]
    · rw [if_neg (by decide), if_pos (by decide)]
    · rw [if_neg (by decide), if_neg (by decide), if_pos (by decide)]
    · rw [if_neg (by decide), if_neg (by decide), if_neg (by decide), if_pos (by decide)]
  · simp only [f_X12_item, m_oneR, m_inI, s0, s4, bd_some, if_pos cx, z10, if_false, if_pos cv, f_X12_wrong]
    rw [es, grd_of hin, hcl, if_neg c2, grd_of hin, if_pos c4, bd_some, if_pos rfl, grd_of hin, en2, i64_of, nI_m1 (by omega), if_pos ci2, if_neg (by decide), ek, at40, grd_of (sIn_nI (show 40 * s + k < 160 by omega) (by omega)), nI_clamp (by omega), b6 k (by omega)]
