theorem sort10 {x : Int32} : (0 ≤ (x - 10).toInt ∧ (x - 10).toInt ≤ 4) ↔ (10 ≤ x.toInt ∧ x.toInt ≤ 14) := by
  have t10 : (10 : Int32).toInt = 10 := rfl
  constructor
  · intro h
    have e : x = (x - 10) + 10 := (Int32.sub_add_cancel x 10).symm
    have : ((x - 10) + 10).toInt = (x - 10).toInt + (10 : Int32).toInt := add_toInt (by omega) (by omega) (by omega) (by omega)
    rw [← e] at this
    omega
  · intro h
    have : (x - 10).toInt = x.toInt - 10 := by
      rw [Int32.toInt_sub]
      exact Int.bmod_eq_of_le (by omega) (by omega)
    omega
/-- the two second halves agree -/
theorem taken_eq {σ : sS} {a : aK} (hv : vK a) (hc : cK σ a) (hm : mK (σ.1 84) a) {s : Nat} (hs : s < 4) (h : rShelf σ s) (w : Int32) (hw : (0 ≤ w.toInt ∧ w.toInt ≤ 5) ∨ (10 ≤ w.toInt ∧ w.toInt ≤ 14)) : ∃ r, fj_X11_taken_28 σ (nI s) w = some r ∧ fj_X12_taken_35 σ (nI s) w = some r := by
  have h9 : aN a ≤ 9 := hv.1.1.2
  have a1 : σ.1 1 4 = nI (aN a) := hc.1.1.trans hv.1.1.1
  have hin := sIn_nI hs (show 4 < 2 ^ 31 by omega)
  have hcl := nI_clamp (show s < 2 ^ 31 by omega)
  have t0 : (0 : Int32).toInt = 0 := rfl
  obtain ⟨r, e1, hr⟩ := shelf_an hv hm hs h
  have eM : fj_X12_taken_35 σ (nI s) w = (if r < 0 then (if (σ.1 101 s) < 2 then some (-11) else fj_X12_taken_58 σ (nI s) w r) else fj_X12_taken_58 σ (nI s) w r) := by
    unfold fj_X12_taken_35
    rw [e1, bd_some, grd_of hin, hcl]
  rw [eM]
  rcases hr with ⟨hr1, hr2⟩ | ⟨hr1, hr2, hr3⟩
  · have hneg : r < 0 := by rw [hr1]; decide
    rw [if_pos hneg]
    have none_case : σ.1 79 s = -1 → σ.1 101 s < 2 → ∃ r', fj_X11_taken_28 σ (nI s) w = some r' ∧ (if (σ.1 101 s) < 2 then some (-11) else fj_X12_taken_58 σ (nI s) w r) = some r' := fun g1 g2 => by
      refine ⟨-11, ?_, by rw [if_pos g2]⟩
      unfold fj_X11_taken_28 f_X9_holdsRow
      simp only [grd_of hin, hcl]
      rw [if_pos g1, bd_some, if_pos rfl, pt_eq, x_has a1 h9, bd_some, if_neg hr2, if_pos rfl]
    rcases h with ⟨h1, h2, h3⟩ | ⟨h1, h2, h3, h4⟩ | ⟨h1, h2, h3, h4, h5, h6⟩
    · exact none_case h3 (by rw [h1]; decide)
    · exact none_case h2 (by rw [h1]; decide)
    · have g1 : ¬ σ.1 79 s = -1 := fun g => by
        rw [g] at h4
        exact absurd h4.1 (by decide)
      rw [if_neg (show ¬ σ.1 101 s < 2 by rw [h1]; decide)]
      unfold fj_X11_taken_28 f_X9_holdsRow fj_X12_taken_58 fj_X12_taken_107
      simp only [grd_of hin, hcl]
      rw [if_neg g1, bd_some, if_neg (by decide), if_pos hneg, ← h3, ← h5]
      by_cases c : σ.1 79 s = w - 10
      · rw [if_pos c, if_pos c.symm, if_neg (by decide)]
        exact ⟨_, rfl, rfl⟩
      · rw [if_neg c, if_neg (fun g => c g.symm)]
        exact ⟨-13, rfl, by simp⟩
  · obtain ⟨k, hk, ek⟩ := i32_nI (i := σ.1 78 s) (n := aN a) hr3.1 hr3.2 (by omega)
    have hnn : ¬ r < 0 := fun g => by
      have := i32_lt.mp g
      rw [hr2] at this
      omega
    rw [if_neg hnn]
    have h79 : σ.1 79 s = -1 ∧ σ.1 78 s = σ.1 102 s := by
      rcases h with ⟨h1, _⟩ | ⟨h1, h2, h3, h4⟩ | ⟨h1, _⟩
      · rw [h1] at hr1; exact absurd hr1 (by decide)
      · exact ⟨h2, h3⟩
      · rw [h1] at hr1; exact absurd hr1 (by decide)
    have kd : σ.1 2 k = a.1 1 k := (hc.2.1 k hk).1
    have kd2 : σ.1 84 (6 + 4 * k) = a.1 1 k := (hm.2.1 k hk).1
    obtain ⟨u, hu, hu2⟩ := isUnder_some σ (a.1 1 k) w
    have hits : f_X12_its σ (nI k) 0 = some (a.1 1 k) := by
      have := m_its σ (i := k) (k := 0) (by omega) (by omega)
      rw [nI_0] at this
      rw [this, show 6 + 4 * k + 0 = 6 + 4 * k by omega, kd2]
    have hk9 := sIn_nI (show k < 9 by omega) (show 9 < 2 ^ 31 by omega)
    have hclk := nI_clamp (show k < 2 ^ 31 by omega)
    have eC : fj_X11_taken_28 σ (nI s) w = (if u = 0 then some (-13) else some (nI k)) := by
      unfold fj_X11_taken_28 f_X9_holdsRow
      simp only [grd_of hin, hcl]
      rw [if_pos h79.1, bd_some, if_pos rfl, pt_eq, x_has a1 h9, bd_some, if_pos hr3, if_neg (by decide), ek, grd_of hk9, hclk, kd, isUnder_eq σ σ, hu, bd_some]
    have e102 : σ.1 102 s = nI k := by rw [← h79.2, ek]
    rw [eC]
    unfold fj_X12_taken_58 fj_X12_taken_85 fj_X12_taken_107
    simp only [grd_of hin, hcl, e102]
    rw [if_neg hnn, hr2, ek]
    simp only [hits, bd_some, hu]
    rcases hw with hw | hw
    · have c6 : w < 6 := by
        rw [i32_lt]
        have : (6 : Int32).toInt = 6 := rfl
        omega
      rw [if_pos c6]
      rcases hu2 with e | e
      · rw [e, if_pos rfl, if_pos rfl]
        exact ⟨_, rfl, by simp⟩
      · rw [e, if_neg (by decide), if_neg (by decide)]
        exact ⟨_, rfl, by simp⟩
    · have c6 : ¬ w < 6 := fun g => by
        have := i32_lt.mp g
        have : (6 : Int32).toInt = 6 := rfl
        omega
      have hu0 : u = 0 := by
        have kb := (hv.2.1 k hk).1
        unfold bt at kb
        have w0 : ¬ w = 0 := fun g => by rw [g] at hw; exact absurd hw.1 (by decide)
        have w1 : ¬ w = 1 := fun g => by rw [g] at hw; exact absurd hw.1 (by decide)
        have w2 : ¬ w = 2 := fun g => by rw [g] at hw; exact absurd hw.1 (by decide)
        have w3 : ¬ a.1 1 k = w := fun g => by rw [← g] at hw; omega
        unfold f_X12_isUnder fj_X12_isUnder_19 at hu
        rw [if_neg w0, if_neg w3, if_neg w1, if_neg w2] at hu
        injection hu with hu
        exact hu.symm
      rw [if_neg c6, hu0, if_pos rfl]
      exact ⟨_, rfl, by simp⟩
theorem op_taken (x w : Int32) : OpP (fun σ => f_X11_taken σ x w) (fun σ => f_X12_taken σ x w) := by
  intro σ hR
  obtain ⟨⟨a, hv, hc, hm⟩, o1, o2, o3, o4, o5, o6⟩ := hR
  have t0 : (0 : Int32).toInt = 0 := rfl
  have t5 : (5 : Int32).toInt = 5 := rfl
  have s0 : (0 : Int64).toInt = 0 := rfl
  have s5 : (5 : Int64).toInt = 5 := rfl
  have s10 : (10 : Int64).toInt = 10 := rfl
  have s14 : (14 : Int64).toInt = 14 := rfl
  by_cases cx : 0 ≤ x.toInt ∧ x.toInt ≤ 3
  rotate_left
  · exact ⟨-1, by simp only [f_X11_taken, x_shelfR, bd_some, if_neg cx, if_true], by simp only [f_X12_taken, m_oneR, bd_some, if_neg cx, if_true]⟩
  obtain ⟨s, hs3, es⟩ := nI_of_bt (x := x) (n := 3) (by omega) (by omega) (by omega)
  by_cases c1 : 0 ≤ w.toInt ∧ w.toInt ≤ 5
  · obtain ⟨r, e1, e2⟩ := taken_eq hv hc hm (s := s) (by omega) (o5 s (by omega)) w (Or.inl c1)
    rw [← es] at e1 e2
    refine ⟨r, ?_, ?_⟩
    · simp only [f_X11_taken, x_shelfR, x_within, t0, t5, bd_some, if_pos cx, z10, if_false, if_pos c1]
      exact e1
    · simp only [f_X12_taken, m_oneR, m_inI, s0, s5, bd_some, if_pos cx, z10, if_false, if_pos c1]
      exact e2
  by_cases c2 : 10 ≤ w.toInt ∧ w.toInt ≤ 14
  · obtain ⟨r, e1, e2⟩ := taken_eq hv hc hm (s := s) (by omega) (o5 s (by omega)) w (Or.inr c2)
    rw [← es] at e1 e2
    refine ⟨r, ?_, ?_⟩
    · simp only [f_X11_taken, x_shelfR, x_sortR, x_within, t0, t5, bd_some, if_pos cx, z10, if_false, if_neg c1, if_true, if_pos (sort10.mpr c2)]
      exact e1
    · simp only [f_X12_taken, m_oneR, m_inI, s0, s5, s10, s14, bd_some, if_pos cx, z10, if_false, if_neg c1, if_true, if_pos c2]
      exact e2
  · exact ⟨-1, by simp only [f_X11_taken, x_shelfR, x_sortR, x_within, t0, t5, bd_some, if_pos cx, z10, if_false, if_neg c1, if_true, if_neg (mt sort10.mp c2)], by simp only [f_X12_taken, m_oneR, m_inI, s0, s5, s10, s14, bd_some, if_pos cx, z10, if_false, if_neg c1, if_true, if_neg c2]⟩
