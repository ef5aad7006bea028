/-! act: the model, and the op -/
def mAv (σ : sS) (K N C : Int32) (L : List Int32) : Prop := σ.1 83 35 = K ∧ σ.1 83 33 = N ∧ σ.1 83 34 = C ∧ σ.1 83 32 = nI L.length ∧ stk (σ.1 104) L
def fM (σ τ : sS) : Prop := ∀ q j, q ≠ 104 → ¬ (q = 83 ∧ (j = 32 ∨ j = 36)) → τ.1 q j = σ.1 q j
theorem fM_tr {σ τ υ : sS} (h1 : fM σ τ) (h2 : fM τ υ) : fM σ υ := fun q j a b => (h2 q j a b).trans (h1 q j a b)
theorem m_runs {σ : sS} {K N C : Int32} {L : List Int32} (h : mAv σ K N C L) (hl : L.length < 30) (b : Int32) : ∃ τ, f_X12_runs σ b = some τ ∧ mAv τ K N C (b :: L) ∧ fM σ τ ∧ τ.1 83 36 = σ.1 83 36 := by
  obtain ⟨h1, h2, h3, h4, h5⟩ := h
  have hlt : nI L.length < (30 : Int32) := (nn_lt (a := L.length) (b := 30) (by omega) (by omega)).mpr hl
  refine ⟨sI (sI σ 104 L.length b) 83 32 (nI (L.length + 1)), ?_, ⟨?_, ?_, ?_, ?_, ?_⟩, fun q j g1 g2 => ?_, ?_⟩
  · simp only [f_X12_runs, fj_X12_runs_19, h4, if_pos hlt, grd_of (sIn_nI (show L.length < 30 by omega) (by omega)), nI_clamp (show L.length < 2 ^ 31 by omega), pt_eq, sI_off _ 104 L.length b (show (83 : Nat) ≠ 104 by omega), nI_1]
  · rw [sI_r, if_pos rfl, if_neg (by omega), sI_off _ _ _ _ (by omega)]; exact h1
  · rw [sI_r, if_pos rfl, if_neg (by omega), sI_off _ _ _ _ (by omega)]; exact h2
  · rw [sI_r, if_pos rfl, if_neg (by omega), sI_off _ _ _ _ (by omega)]; exact h3
  · rw [sI_same]; rfl
  · rw [sI_off _ _ _ _ (by omega), sI_row]
    exact ⟨by rw [upd_r, if_pos rfl], stk_upd (Nat.le_refl _) h5⟩
  · rw [sI_r]
    by_cases e : q = 83
    · rw [if_pos e, if_neg (fun g => g2 ⟨e, Or.inl g⟩), sI_off _ _ _ _ (by omega), e]
    · rw [if_neg e, sI_off _ _ _ _ g1]
  · rw [sI_r, if_pos rfl, if_neg (by omega), sI_off _ _ _ _ (by omega)]
theorem m_lifts {σ : sS} {K N C : Int32} {L : List Int32} (h : mAv σ K N C L) (hl : L.length < 25) (x : Int32) : ∃ τ, f_X12_lifts σ x = some (pLi K N x, τ) ∧ mAv τ K N C (tLi K L) ∧ fM σ τ ∧ τ.1 83 36 = σ.1 83 36 := by
  unfold f_X12_lifts pLi tLi
  rw [h.1]
  by_cases k3 : K = 3
  · obtain ⟨τ1, e1, c1, f1, p1⟩ := m_runs h (by omega) 50
    obtain ⟨τ2, e2, c2, f2, p2⟩ := m_runs c1 (by simp; omega) 20
    obtain ⟨τ3, e3, c3, f3, p3⟩ := m_runs c2 (by simp; omega) 10
    have k1 : ¬ K = 1 := by rw [k3]; decide
    refine ⟨τ3, ?_, by rw [if_neg k1, if_pos k3]; exact c3, fM_tr f1 (fM_tr f2 f3), by rw [p3, p2, p1]⟩
    rw [if_pos k3, e1, bd_some]
    unfold fj_X12_lifts_14 fj_X12_lifts_30 fj_X12_lifts_36
    rw [c1.1, if_neg k1, if_pos k3, e2, bd_some, e3, bd_some, pt_eq, c3.1, c3.2.1, if_neg k1, if_pos k3, if_neg k1, if_pos k3]
  · by_cases k1 : K = 1
    · obtain ⟨τ2, e2, c2, f2, p2⟩ := m_runs h (by omega) 20
      obtain ⟨τ3, e3, c3, f3, p3⟩ := m_runs c2 (by simp; omega) 10
      refine ⟨τ3, ?_, by rw [if_pos k1]; exact c3, fM_tr f2 f3, by rw [p3, p2]⟩
      rw [if_neg k3]
      unfold fj_X12_lifts_14 fj_X12_lifts_30 fj_X12_lifts_36
      rw [h.1, if_pos k1, e2, bd_some, e3, bd_some, pt_eq, c3.1, c3.2.1, if_pos k1, if_pos k1]
    · obtain ⟨τ3, e3, c3, f3, p3⟩ := m_runs h (by omega) 10
      refine ⟨τ3, ?_, by rw [if_neg k1, if_neg k3]; exact c3, f3, p3⟩
      rw [if_neg k3]
      unfold fj_X12_lifts_14 fj_X12_lifts_30 fj_X12_lifts_36
      rw [h.1, if_neg k1, if_neg k3, e3, bd_some, pt_eq, c3.1, c3.2.1, if_neg k1, if_neg k3, if_neg k1, if_neg k3]
theorem m_turns {σ : sS} {K N C : Int32} {L : List Int32} (h : mAv σ K N C L) (hl : L.length < 20) (x : Int32) : ∃ τ, f_X12_turns σ x = some (pTu K N C x, τ) ∧ mAv τ K N C (tTu K L) ∧ fM σ τ ∧ τ.1 83 36 = σ.1 83 36 := by
  unfold f_X12_turns pTu tTu
  rw [h.1]
  by_cases k5 : K = 5
  · obtain ⟨τ1, e1, c1, f1, p1⟩ := m_runs h (by omega) 60
    obtain ⟨τ2, e2, c2, f2, p2⟩ := m_runs c1 (by simp; omega) 30
    obtain ⟨τ3, e3, c3, f3, p3⟩ := m_runs c2 (by simp; omega) 11
    obtain ⟨τ4, e4, c4, f4, p4⟩ := m_lifts c3 (by simp; omega) x
    have k2 : ¬ K = 2 := by rw [k5]; decide
    refine ⟨τ4, ?_, by rw [if_neg k2, if_pos k5]; exact c4, fM_tr f1 (fM_tr f2 (fM_tr f3 f4)), by rw [p4, p3, p2, p1]⟩
    rw [if_pos k5, e1, bd_some]
    unfold fj_X12_turns_14 fj_X12_turns_30 fj_X12_turns_36
    rw [c1.1, if_neg k2, if_pos k5, e2, bd_some, e3, bd_some, e4, bd_some]
    show (if τ4.1 83 35 = 2 then some ((pLi K N x * 2) - τ4.1 83 34, τ4) else if τ4.1 83 35 = 5 then some (0 - ((pLi K N x * 2) - τ4.1 83 34), τ4) else some (pLi K N x * 2, τ4)) = _
    rw [c4.1, if_neg k2, if_pos k5, c4.2.2.1, if_neg k2, if_pos k5]
  · by_cases k2 : K = 2
    · obtain ⟨τ2, e2, c2, f2, p2⟩ := m_runs h (by omega) 30
      obtain ⟨τ3, e3, c3, f3, p3⟩ := m_runs c2 (by simp; omega) 11
      obtain ⟨τ4, e4, c4, f4, p4⟩ := m_lifts c3 (by simp; omega) x
      refine ⟨τ4, ?_, by rw [if_pos k2]; exact c4, fM_tr f2 (fM_tr f3 f4), by rw [p4, p3, p2]⟩
      rw [if_neg k5]
      unfold fj_X12_turns_14 fj_X12_turns_30 fj_X12_turns_36
      rw [h.1, if_pos k2, e2, bd_some, e3, bd_some, e4, bd_some]
      show (if τ4.1 83 35 = 2 then some ((pLi K N x * 2) - τ4.1 83 34, τ4) else if τ4.1 83 35 = 5 then some (0 - ((pLi K N x * 2) - τ4.1 83 34), τ4) else some (pLi K N x * 2, τ4)) = _
      rw [c4.1, if_pos k2, c4.2.2.1, if_pos k2]
    · obtain ⟨τ3, e3, c3, f3, p3⟩ := m_runs h (by omega) 11
      obtain ⟨τ4, e4, c4, f4, p4⟩ := m_lifts c3 (by simp; omega) x
      refine ⟨τ4, ?_, by rw [if_neg k2, if_neg k5]; exact c4, fM_tr f3 f4, by rw [p4, p3]⟩
      rw [if_neg k5]
      unfold fj_X12_turns_14 fj_X12_turns_30 fj_X12_turns_36
      rw [h.1, if_neg k2, if_neg k5, e3, bd_some, e4, bd_some]
      show (if τ4.1 83 35 = 2 then some ((pLi K N x * 2) - τ4.1 83 34, τ4) else if τ4.1 83 35 = 5 then some (0 - ((pLi K N x * 2) - τ4.1 83 34), τ4) else some (pLi K N x * 2, τ4)) = _
      rw [c4.1, if_neg k2, if_neg k5, if_neg k2, if_neg k5]
theorem m_parts {σ : sS} {K N C : Int32} {L : List Int32} (h : mAv σ K N C L) (hl : L.length < 25) (x : Int32) : ∃ τ, f_X12_parts σ x = some (if C = N then 0 else x / (C - N), τ) ∧ mAv τ K N C (12 :: L) ∧ fM σ τ ∧ τ.1 83 36 = (if C = N then 1 else 0) := by
  obtain ⟨τ2, e2, c2, f2, p2⟩ := m_runs h (by omega) 12
  have st : ∀ v : Int32, mAv (sI τ2 83 36 v) K N C (12 :: L) ∧ fM σ (sI τ2 83 36 v) := fun v => by
    refine ⟨⟨?_, ?_, ?_, ?_, ?_⟩, fun q j g1 g2 => ?_⟩
    · rw [sI_r, if_pos rfl, if_neg (by omega)]; exact c2.1
    · rw [sI_r, if_pos rfl, if_neg (by omega)]; exact c2.2.1
    · rw [sI_r, if_pos rfl, if_neg (by omega)]; exact c2.2.2.1
    · rw [sI_r, if_pos rfl, if_neg (by omega)]; exact c2.2.2.2.1
    · rw [sI_off _ _ _ _ (by omega)]; exact c2.2.2.2.2
    · rw [sI_r]
      by_cases e : q = 83
      · rw [if_pos e, if_neg (fun g => g2 ⟨e, Or.inr g⟩), ← e, f2 q j g1 g2]
      · rw [if_neg e, f2 q j g1 g2]
  unfold f_X12_parts fj_X12_parts_23
  rw [e2, bd_some, c2.2.2.1, c2.2.1]
  by_cases d : C = N
  · refine ⟨sI τ2 83 36 1, ?_, (st 1).1, (st 1).2, by rw [sI_same, if_pos d]⟩
    rw [if_pos d, grd_of (by rfl), pt_eq, sI_same, if_neg (by decide), if_pos d]
  · refine ⟨sI τ2 83 36 0, ?_, (st 0).1, (st 0).2, by rw [sI_same, if_neg d]⟩
    rw [if_neg d, grd_of (by rfl), pt_eq, sI_same, if_pos rfl, (st 0).1.2.2.1, (st 0).1.2.1, grd_of (decide_eq_true (sub_ne d)), if_neg d]
theorem m_shares {σ : sS} {K N C : Int32} {L : List Int32} (h : mAv σ K N C L) (hl : L.length < 20) (x : Int32) : ∃ τ, f_X12_shares σ x = some (pSh K N C x, τ) ∧ mAv τ K N C (tSh K N C L) ∧ fM σ τ ∧ τ.1 83 36 = (if C = N then 1 else 0) := by
  unfold f_X12_shares pSh tSh
  rw [h.1]
  by_cases k4 : K = 4
  · obtain ⟨τ1, e1, c1, f1, p1⟩ := m_runs h (by omega) 40
    obtain ⟨τ2, e2, c2, f2, p2⟩ := m_parts c1 (by simp; omega) (x + 1)
    exact ⟨τ2, by rw [if_pos k4, e1, bd_some, e2, bd_some, if_pos k4], by rw [if_pos k4]; exact c2, fM_tr f1 f2, p2⟩
  · by_cases k5 : K = 5
    · obtain ⟨τ1, e1, c1, f1, p1⟩ := m_runs h (by omega) 61
      obtain ⟨τ2, e2, c2, f2, p2⟩ := m_parts c1 (by simp; omega) x
      rw [if_neg k4, if_pos k5, e1, bd_some, e2, bd_some, if_neg k4, if_pos k5]
      show ∃ τ, (if τ2.1 83 36 = 0 then bd (f_X12_lifts τ2 (τ2.1 83 34)) (fun r13 => some ((if C = N then 0 else x / (C - N)) + r13.1, r13.2)) else some (0, τ2)) = _ ∧ _
      rw [p2]
      by_cases d : C = N
      · rw [if_pos d, if_neg (by decide)]
        exact ⟨τ2, by rw [if_pos d], by rw [if_neg k4, if_pos k5, if_pos d]; exact c2, fM_tr f1 f2, by rw [p2, if_pos d]⟩
      · obtain ⟨τ3, e3, c3, f3, p3⟩ := m_lifts c2 (by simp; omega) C
        rw [if_neg d, if_pos rfl, c2.2.2.1, e3, bd_some]
        exact ⟨τ3, by rw [if_neg d, if_neg d], by rw [if_neg k4, if_pos k5, if_neg d]; exact c3, fM_tr f1 (fM_tr f2 f3), by rw [p3, p2, if_neg d]⟩
    · obtain ⟨τ2, e2, c2, f2, p2⟩ := m_parts h (by omega) x
      exact ⟨τ2, by rw [if_neg k4, if_neg k5, e2, bd_some, if_neg k4, if_neg k5], by rw [if_neg k4, if_neg k5]; exact c2, f2, p2⟩
theorem m_tells {σ : sS} {K N C : Int32} {L : List Int32} (h : mAv σ K N C L) (hl : L.length < 10) (h0 : σ.1 83 36 = 0) (x : Int32) : ∃ τ, f_X12_tells σ x = some (pTl K N C x, τ) ∧ mAv τ K N C (tTl K N C L) ∧ fM σ τ ∧ τ.1 83 36 = (if K = 3 ∧ C = N then 1 else 0) := by
  unfold f_X12_tells fj_X12_tells_14 pTl tTl
  rw [h.1]
  by_cases k3 : K = 3
  · obtain ⟨τ1, e1, c1, f1, p1⟩ := m_runs h (by omega) 51
    obtain ⟨τ2, e2, c2, f2, p2⟩ := m_runs c1 (by simp; omega) 13
    obtain ⟨τ3, e3, c3, f3, p3⟩ := m_turns c2 (by simp; omega) x
    obtain ⟨τ4, e4, c4, f4, p4⟩ := m_shares c3 (by have := tTu_len K (13 :: 51 :: L); simp at this; omega) N
    refine ⟨τ4, ?_, by rw [if_pos k3]; exact c4, fM_tr f1 (fM_tr f2 (fM_tr f3 f4)), ?_⟩
    · rw [if_pos k3, e1, bd_some, e2, bd_some, e3, bd_some, pt_eq]
      show (if τ3.1 83 35 = 3 then bd (f_X12_shares τ3 (τ3.1 83 33)) (fun r10 => some ((pTu K N C x ^^^ τ3.1 83 34) + r10.1, r10.2)) else some (pTu K N C x ^^^ τ3.1 83 34, τ3)) = _
      rw [c3.1, if_pos k3, c3.2.1, e4, bd_some, c3.2.2.1, if_pos k3]
    · rw [p4]
      by_cases d : C = N
      · rw [if_pos d, if_pos ⟨k3, d⟩]
      · rw [if_neg d, if_neg (fun q => d q.2)]
  · obtain ⟨τ2, e2, c2, f2, p2⟩ := m_runs h (by omega) 13
    obtain ⟨τ3, e3, c3, f3, p3⟩ := m_turns c2 (by simp; omega) x
    refine ⟨τ3, ?_, by rw [if_neg k3]; exact c3, fM_tr f2 f3, by rw [p3, p2, h0, if_neg (fun q => k3 q.1)]⟩
    rw [if_neg k3, e2, bd_some, e3, bd_some, pt_eq]
    show (if τ3.1 83 35 = 3 then bd (f_X12_shares τ3 (τ3.1 83 33)) (fun r10 => some ((pTu K N C x ^^^ τ3.1 83 34) + r10.1, r10.2)) else some (pTu K N C x ^^^ τ3.1 83 34, τ3)) = _
    rw [c3.1, if_neg k3, c3.2.2.1, if_neg k3]
theorem m_answer {σ : sS} {K N C : Int32} (h : mAv σ K N C []) (h5 : σ.1 83 36 = 0) (w x : Int32) : ∃ τ, (if w = 0 then bd (f_X12_lifts σ x) (fun r40 => fj_X12_act_109 r40.2 r40.1) else (if w = 1 then bd (f_X12_turns σ x) (fun r38 => fj_X12_act_109 r38.2 r38.1) else (if w = 2 then bd (f_X12_shares σ x) (fun r36 => fj_X12_act_109 r36.2 r36.1) else bd (f_X12_tells σ x) (fun r34 => fj_X12_act_109 r34.2 r34.1)))) = some (@ite _ (zAc w K N C) (Classical.propDecidable _) (-15) (pAc w K N C x), τ) ∧ mAv τ K N C (tAc w K N C) ∧ fM σ τ := by
  unfold pAc tAc
  have fin : ∀ (τ : sS) (v : Int32), (τ.1 83 36 = 0 ↔ ¬ zAc w K N C) → fj_X12_act_109 τ v = some (@ite _ (zAc w K N C) (Classical.propDecidable _) (-15) v, τ) := fun τ v hZ => by
    unfold fj_X12_act_109
    by_cases z : zAc w K N C
    · rw [if_neg (fun q => hZ.mp q z), if_pos z]
    · rw [if_pos (hZ.mpr z), if_neg z]
  by_cases w0 : w = 0
  · obtain ⟨τ, e, c, f, p⟩ := m_lifts h (by simp) x
    refine ⟨τ, ?_, by rw [if_pos w0]; exact c, f⟩
    rw [if_pos w0, e, bd_some, fin τ _ (by rw [p, h5]; unfold zAc; simp [w0]), if_pos w0]
  by_cases w1 : w = 1
  · obtain ⟨τ, e, c, f, p⟩ := m_turns h (by simp) x
    refine ⟨τ, ?_, by rw [if_neg w0, if_pos w1]; exact c, f⟩
    rw [if_neg w0, if_pos w1, e, bd_some, fin τ _ (by rw [p, h5]; unfold zAc; simp [w1]), if_neg w0, if_pos w1]
  by_cases w2 : w = 2
  · obtain ⟨τ, e, c, f, p⟩ := m_shares h (by simp) x
    refine ⟨τ, ?_, by rw [if_neg w0, if_neg w1, if_pos w2]; exact c, f⟩
    rw [if_neg w0, if_neg w1, if_pos w2, e, bd_some, fin τ _ (by
      rw [p]
      unfold zAc
      by_cases d : C = N
      · simp [w2, d]
      · simp [w2, d]), if_neg w0, if_neg w1, if_pos w2]
  · obtain ⟨τ, e, c, f, p⟩ := m_tells h (by simp) h5 x
    refine ⟨τ, ?_, by rw [if_neg w0, if_neg w1, if_neg w2]; exact c, f⟩
    rw [if_neg w0, if_neg w1, if_neg w2, e, bd_some, fin τ _ (by
      rw [p]
      unfold zAc
      by_cases d : K = 3 ∧ C = N
      · simp [w0, w1, w2, d]
      · rw [if_neg d]
        simp only [w0, w1, w2, not_false_eq_true, true_and, false_and, false_or, true_iff]
        exact d), if_neg w0, if_neg w1, if_neg w2]
theorem tAc_len (w K N C : Int32) : (tAc w K N C).length ≤ 30 := by
  have h1 := tLi_len K []
  have h2 := tTu_len K []
  have h3 : ∀ L : List Int32, (tSh K N C L).length ≤ L.length + 5 := fun L => by
    unfold tSh
    split
    · simp
    · split
      · split
        · simp
        · have := tLi_len K (12 :: 61 :: L)
          simp at this
          omega
      · simp
  have h4 := h3 []
  have h5 := tTu_len K (13 :: 51 :: [])
  have h6 := h3 (tTu K (13 :: 51 :: []))
  have h7 := tTu_len K (13 :: [])
  simp at h1 h2 h4 h5 h7
  unfold tAc tTl
  split
  · omega
  · split
    · omega
    · split
      · omega
      · split <;> omega
theorem Rel_tra {σ τ : sS} (h : ∀ q j, q ≠ 81 → q ≠ 82 → q ≠ 104 → ¬ (q = 83 ∧ 32 ≤ j) → τ.1 q j = σ.1 q j) (ht : rTrace τ) (hR : Rel σ) : Rel τ := by
  obtain ⟨⟨a, hv, hc, hm⟩, o1, o2, o3, o4, o5, o6⟩ := hR
  refine ⟨⟨a, hv, cK_of (fun q j g => ?_) hc, mK_of (fun q j g => ?_) hm⟩, rKept_of (fun q j g => ?_) o1, rTape_of (fun q j g => ?_) o2, rRows_of (fun q j g => ?_) o3, rSheets_of (fun q j g => ?_) o4, rShelves_of (fun q j g => ?_) o5, ht⟩
  · have := pCur_r g
    exact h q j (by omega) (by omega) (by omega) (by omega)
  · have : q = 84 := by unfold pMod at g; simpa using g
    exact h q j (by omega) (by omega) (by omega) (by omega)
  · have := pKep_q g
    exact h q j (by omega) (by omega) (by omega) (by omega)
  · have : q = 45 ∨ q = 50 ∨ q = 52 ∨ q = 97 ∨ (q = 83 ∧ j = 18) := by unfold pTap at g; simp at g; omega
    exact h q j (by omega) (by omega) (by omega) (by omega)
  · have : q = 67 ∨ q = 68 ∨ q = 96 ∨ (q = 83 ∧ j = 16) := by unfold pRow at g; simp at g; omega
    exact h q j (by omega) (by omega) (by omega) (by omega)
  · have := pShe_q g
    exact h q j (by omega) (by omega) (by omega) (by omega)
  · have := pShf_q g
    exact h q j (by omega) (by omega) (by omega) (by omega)
theorem op_act (s w x : Int32) : Op (fun σ => f_X11_act σ s w x) (fun σ => f_X12_act σ s w x) := by
  intro σ hR
  have hR0 := hR
  obtain ⟨⟨a, hv, hc, hm⟩, o1, o2, o3, o4, o5, o6⟩ := hR
  have h9 : aN a ≤ 9 := hv.1.1.2
  have n1 : σ.1 1 4 = nI (aN a) := hc.1.1.trans hv.1.1.1
  have s0 : (0 : Int64).toInt = 0 := rfl
  have s3 : (3 : Int64).toInt = 3 := rfl
  have t0 : (0 : Int32).toInt = 0 := rfl
  have t3 : (3 : Int32).toInt = 3 := rfl
  obtain ⟨σ1, h1⟩ : ∃ σ1, σ1 = sI σ 81 1 0 := ⟨_, rfl⟩
  have off1 : ∀ q, q ≠ 81 → σ1.1 q = σ.1 q := fun q hq => by rw [h1, sI_off _ _ _ _ hq]
  -- the model's start, from any state that the class left
  have mstart : ∀ τ : sS, (∀ q j, q ≠ 81 → q ≠ 82 → τ.1 q j = σ.1 q j) → ∃ υ4, υ4 = sI (sI τ 83 32 0) 83 36 0 ∧ (∀ q, q ≠ 83 → υ4.1 q = τ.1 q) ∧ mK (υ4.1 84) a ∧ (∀ j, j < 32 → υ4.1 83 j = σ.1 83 j) ∧ ∀ r, f_X12_onShelf υ4 s = some r → f_X12_act τ s w x = (if r < 0 then some (0, sI υ4 83 33 r) else bd (f_X12_in (sI υ4 83 33 r) w.toInt64 0 3) fun r14 => (if r14 = 0 then some (0, sI υ4 83 33 r) else bd (f_X12_its (sI υ4 83 33 r) r 1) fun r18 => pt (sI (sI υ4 83 33 r) 83 34 r18) fun σ20 => bd (f_X12_its σ20 (σ20.1 83 33) 0) fun r23 => pt (sI σ20 83 35 r23) fun σ25 => (if w = 0 then bd (f_X12_lifts σ25 x) (fun r40 => fj_X12_act_109 r40.2 r40.1) else (if w = 1 then bd (f_X12_turns σ25 x) (fun r38 => fj_X12_act_109 r38.2 r38.1) else (if w = 2 then bd (f_X12_shares σ25 x) (fun r36 => fj_X12_act_109 r36.2 r36.1) else bd (f_X12_tells σ25 x) (fun r34 => fj_X12_act_109 r34.2 r34.1)))))) := fun τ hτ => by
    refine ⟨_, rfl, fun q hq => by rw [sI_off _ _ _ _ hq, sI_off _ _ _ _ hq], ?_, fun j hj => ?_, fun r hr => ?_⟩
    · rw [sI_off _ _ _ _ (by omega), sI_off _ _ _ _ (by omega), funext fun j => hτ 84 j (by omega) (by omega)]
      exact hm
    · rw [sI_r, if_pos rfl, if_neg (by omega), sI_r, if_pos rfl, if_neg (by omega), hτ 83 j (by omega) (by omega)]
    · unfold f_X12_act
      rw [pt_eq, grd_of (by rfl), pt_eq, hr, bd_some, pt_eq, sI_same]
  have trace0 : ∀ υ : sS, υ.1 81 1 = 0 → υ.1 83 32 = 0 → rTrace υ := fun υ e1 e2 => ⟨0, by omega, e1, e2, fun k hk => absurd hk (by omega)⟩
  have miss : ∀ r, (r : Int32) < 0 → (∀ τ : sS, (∀ q j, q ≠ 81 → q ≠ 82 → τ.1 q j = σ.1 q j) → f_X12_onShelf (sI (sI τ 83 32 0) 83 36 0) s = some r) → f_X11_act σ s w x = some (0, σ1) → ∃ r' σ1' σ2, f_X11_act σ s w x = some (r', σ1') ∧ f_X12_act σ1' s w x = some (r', σ2) ∧ Rel σ2 := fun r hr hos hX => by
    obtain ⟨υ, e1, e2, e3, e3b, e4⟩ := mstart σ1 (fun q j q1 _ => by rw [off1 q q1])
    have hos1 := hos σ1 (fun q j q1 _ => by rw [off1 q q1])
    rw [← e1] at hos1
    refine ⟨0, σ1, sI υ 83 33 r, hX, by rw [e4 r hos1, if_pos hr], Rel_tra (σ := σ) (fun q j g1 g2 g3 g4 => ?_) (trace0 _ ?_ ?_) hR0⟩
    · rw [sI_r]
      by_cases e : q = 83
      · rw [if_pos e, if_neg (by omega), e]
        exact e3b j (by omega)
      · rw [if_neg e, e2 q e, off1 q g1]
    · rw [sI_off _ _ _ _ (by omega), e2 81 (by omega), h1, sI_same]
    · rw [sI_r, if_pos rfl, if_neg (by omega), e1, sI_r, if_pos rfl, if_neg (by omega), sI_same]
  by_cases cs : 0 ≤ s.toInt ∧ s.toInt ≤ 3
  rotate_left
  · refine miss (-1) (by decide) (fun τ _ => ?_) ?_
    · unfold f_X12_onShelf
      rw [m_oneR, bd_some, if_neg cs, if_pos rfl]
    · simp only [f_X11_act, f_X0_forget, pt_eq, bd_some, ← h1, x_shelfR, if_neg cs, if_true]
  obtain ⟨k, hk3, ek⟩ := nI_of_bt (x := s) (n := 3) (by omega) (by omega) (by omega)
  have hin4 := sIn_nI (show k < 4 by omega) (show 4 < 2 ^ 31 by omega)
  have hcl4 := nI_clamp (show k < 2 ^ 31 by omega)
  have hshelf : ∀ τ : sS, (∀ q j, q ≠ 81 → q ≠ 82 → τ.1 q j = σ.1 q j) → ∃ r, f_X12_onShelf (sI (sI τ 83 32 0) 83 36 0) s = some r ∧ ((r = -1 ∧ ¬ (0 ≤ (σ.1 78 k).toInt ∧ (σ.1 78 k).toInt < aN a)) ∨ (r = σ.1 78 k ∧ (0 ≤ (σ.1 78 k).toInt ∧ (σ.1 78 k).toInt < aN a))) := fun τ hτ => by
    obtain ⟨υ, e1, e2, e3, e3b, e4⟩ := mstart τ hτ
    have hc8 : ∀ q, q ≠ 83 → q ≠ 81 → q ≠ 82 → υ.1 q = σ.1 q := fun q q1 q2 q3 => by rw [e2 q q1, funext fun j => hτ q j q2 q3]
    have hsh : rShelf υ k := by
      unfold rShelf
      rw [hc8 101 (by omega) (by omega) (by omega), hc8 102 (by omega) (by omega) (by omega), hc8 103 (by omega) (by omega) (by omega), hc8 78 (by omega) (by omega) (by omega), hc8 79 (by omega) (by omega) (by omega), hc8 80 (by omega) (by omega) (by omega)]
      exact o5 k (by omega)
    obtain ⟨r, g1, g2⟩ := shelf_an hv e3 (show k < 4 by omega) hsh
    rw [hc8 78 (by omega) (by omega) (by omega)] at g2
    rw [← e1, ek]
    refine ⟨r, g1, ?_⟩
    rcases g2 with g | ⟨_, g3, g4⟩
    · exact Or.inl g
    · exact Or.inr ⟨g3, g4⟩
  have eX0 : f_X11_act σ s w x = (if 0 ≤ w.toInt ∧ w.toInt ≤ 3 then (if 0 ≤ (σ.1 78 k).toInt ∧ (σ.1 78 k).toInt < aN a then grd (sIn (σ.1 78 k) 9) (bd (f_X0_perform σ1 (σ.1 2 (σ.1 78 k).toNatClampNeg) (σ.1 78 k) (σ.1 3 (σ.1 78 k).toNatClampNeg) w x) fun r22 => some (r22.1, r22.2)) else some (0, σ1)) else some (0, σ1)) := by
    simp only [f_X11_act, f_X0_forget, pt_eq, bd_some, ← h1, x_shelfR, if_pos cs, z10, if_false, x_within, t0, t3]
    rw [ek]
    by_cases cw : 0 ≤ w.toInt ∧ w.toInt ≤ 3
    · simp only [if_pos cw, z10, if_false, grd_of hin4, hcl4, off1 78 (by omega), off1 2 (by omega), off1 3 (by omega), x_has (σ := σ1) (n := aN a) (by rw [off1 1 (by omega)]; exact n1) h9, bd_some, pt_eq]
      by_cases cr : 0 ≤ (σ.1 78 k).toInt ∧ (σ.1 78 k).toInt < aN a
      · rw [if_pos cr, if_neg (by decide), if_pos cr]
        by_cases g : sIn (σ.1 78 k) 9 = true
        · rw [grd_of g, grd_of g]
        · rw [grd_eq, if_neg g, grd_eq, if_neg g]
      · rw [if_neg cr, if_pos rfl, if_neg cr]
    · simp only [if_neg cw, if_true]
  by_cases cr : 0 ≤ (σ.1 78 k).toInt ∧ (σ.1 78 k).toInt < aN a
  rotate_left
  · refine miss (-1) (by decide) (fun τ hτ => ?_) ?_
    · obtain ⟨r, g1, g2⟩ := hshelf τ hτ
      rcases g2 with g | g
      · rw [g1, g.1]
      · exact absurd g.2 cr
    · rw [eX0, if_neg cr]
      split <;> rfl
  obtain ⟨i, hi, ei⟩ := i32_nI cr.1 cr.2 (by omega)
  have hon : ∀ τ : sS, (∀ q j, q ≠ 81 → q ≠ 82 → τ.1 q j = σ.1 q j) → f_X12_onShelf (sI (sI τ 83 32 0) 83 36 0) s = some (nI i) := fun τ hτ => by
    obtain ⟨r, g1, g2⟩ := hshelf τ hτ
    rcases g2 with g | g
    · exact absurd cr g.2
    · rw [g1, g.1, ei]
  have hnn : ¬ nI i < 0 := nI_pos (by omega)
  by_cases cw : 0 ≤ w.toInt ∧ w.toInt ≤ 3
  rotate_left
  · obtain ⟨υ, e1, e2, e3, e3b, e4⟩ := mstart σ1 (fun q j q1 _ => by rw [off1 q q1])
    have hos1 := hon σ1 (fun q j q1 _ => by rw [off1 q q1])
    rw [← e1] at hos1
    refine ⟨0, σ1, sI υ 83 33 (nI i), by show f_X11_act σ s w x = _; rw [eX0, if_neg cw], by show f_X12_act σ1 s w x = _; rw [e4 _ hos1, if_neg hnn, m_inI, bd_some, s0, s3, if_neg cw, if_pos rfl], Rel_tra (σ := σ) (fun q j g1 g2 g3 g4 => ?_) (trace0 _ ?_ ?_) hR0⟩
    · rw [sI_r]
      by_cases e : q = 83
      · rw [if_pos e, if_neg (by omega), e]
        exact e3b j (by omega)
      · rw [if_neg e, e2 q e, off1 q g1]
    · rw [sI_off _ _ _ _ (by omega), e2 81 (by omega), h1, sI_same]
    · rw [sI_r, if_pos rfl, if_neg (by omega), e1, sI_r, if_pos rfl, if_neg (by omega), sI_same]
  have kd := (hc.2.1 i hi).1
  have ck := (hc.2.1 i hi).2.1
  obtain ⟨ψ, hψ⟩ : ∃ ψ, ψ = sI (sI (sI (sI σ1 81 2 (a.1 1 i)) 81 3 (nI i)) 81 4 (a.1 2 i)) 81 5 0 := ⟨_, rfl⟩
  have hcA : cA ψ (a.1 1 i) (nI i) (a.1 2 i) [] := by
    rw [hψ, h1]
    refine ⟨?_, ?_, ?_, ?_, trivial⟩
    · simp [sI_r]
    · simp [sI_r]
    · simp [sI_r]
    · simp [sI_r]; rfl
  have hψ5 : ψ.1 81 5 = 0 := by rw [hψ, sI_same]
  have offψ : ∀ q, q ≠ 81 → ψ.1 q = σ.1 q := fun q hq => by rw [hψ, sI_off _ _ _ _ hq, sI_off _ _ _ _ hq, sI_off _ _ _ _ hq, sI_off _ _ _ _ hq, off1 q hq]
  obtain ⟨χ, r1, r2, r3, r4⟩ := x_answer hcA hψ5 w x
  have hX : f_X11_act σ s w x = some (@ite _ (zAc w (a.1 1 i) (nI i) (a.1 2 i)) (Classical.propDecidable _) (-15) (pAc w (a.1 1 i) (nI i) (a.1 2 i) x), χ) := by
    rw [eX0, if_pos cw, if_pos cr, ei, grd_of (sIn_nI (show i < 9 by omega) (by omega)), nI_clamp (by omega), kd, ck]
    unfold f_X0_perform
    rw [pt_eq, pt_eq, pt_eq, grd_of (by rfl), pt_eq, ← hψ, r1, bd_some]
    show bd (if χ.1 81 5 = 0 then some (pAc w (a.1 1 i) (nI i) (a.1 2 i) x, χ) else some (-15, χ)) _ = _
    by_cases z : zAc w (a.1 1 i) (nI i) (a.1 2 i)
    · rw [if_neg (fun q => r4.mp q z), bd_some, if_pos z]
    · rw [if_pos (r4.mpr z), bd_some, if_neg z]
  have hχ : ∀ q j, q ≠ 81 → q ≠ 82 → χ.1 q j = σ.1 q j := fun q j q1 q2 => by rw [r3 q j q2 (fun g => q1 g.1), offψ q q1]
  obtain ⟨υ, e1, e2, e3, e3b, e4⟩ := mstart χ hχ
  have hos1 := hon χ hχ
  rw [← e1] at hos1
  obtain ⟨ω, hω⟩ : ∃ ω, ω = sI (sI (sI υ 83 33 (nI i)) 83 34 (a.1 2 i)) 83 35 (a.1 1 i) := ⟨_, rfl⟩
  have hmA : mAv ω (a.1 1 i) (nI i) (a.1 2 i) [] := by
    rw [hω, e1]
    refine ⟨?_, ?_, ?_, ?_, trivial⟩
    · simp [sI_r]
    · simp [sI_r]
    · simp [sI_r]
    · simp [sI_r]; rfl
  have hω36 : ω.1 83 36 = 0 := by
    rw [hω, e1]
    simp [sI_r]
  obtain ⟨φ, p1, p2, p3⟩ := m_answer hmA hω36 w x
  have i1 : f_X12_its (sI υ 83 33 (nI i)) (nI i) 1 = some (a.1 2 i) := m_its1 hv (by rw [sI_off _ _ _ _ (by omega)]; exact e3) hi
  have i0 : f_X12_its (sI (sI υ 83 33 (nI i)) 83 34 (a.1 2 i)) (nI i) 0 = some (a.1 1 i) := m_its0 hv (by rw [sI_off _ _ _ _ (by omega), sI_off _ _ _ _ (by omega)]; exact e3) hi
  have i33 : (sI (sI υ 83 33 (nI i)) 83 34 (a.1 2 i)).1 83 33 = nI i := by rw [sI_r, if_pos rfl, if_neg (by omega), sI_same]
  refine ⟨_, χ, φ, hX, ?_, Rel_tra (σ := σ) (fun q j g1 g2 g3 g4 => ?_) ?_ hR0⟩
  · show f_X12_act χ s w x = _
    rw [e4 _ hos1, if_neg hnn, m_inI, bd_some, s0, s3, if_pos cw, if_neg (by decide), i1, bd_some, pt_eq, i33, i0, bd_some, pt_eq, ← hω]
    exact p1
  · rw [p3 q j g3 (fun g => g4 ⟨g.1, by omega⟩), hω]
    by_cases e : q = 83
    · have hj : j < 32 := by omega
      rw [e, sI_r, if_pos rfl, if_neg (by omega), sI_r, if_pos rfl, if_neg (by omega), sI_r, if_pos rfl, if_neg (by omega)]
      exact e3b j hj
    · rw [sI_off _ _ _ _ e, sI_off _ _ _ _ e, sI_off _ _ _ _ e, e2 q e, hχ q j g1 g2]
  · have hlen := tAc_len w (a.1 1 i) (nI i) (a.1 2 i)
    have hφ : ∀ q j, q ≠ 83 → q ≠ 104 → φ.1 q j = χ.1 q j := fun q j q1 q2 => by rw [p3 q j q2 (fun g => q1 g.1), hω, sI_off _ _ _ _ q1, sI_off _ _ _ _ q1, sI_off _ _ _ _ q1, e2 q q1]
    refine ⟨(tAc w (a.1 1 i) (nI i) (a.1 2 i)).length, by omega, ?_, p2.2.2.2.1, fun k hk => ?_⟩
    · rw [hφ 81 1 (by omega) (by omega), r2.2.2.2.1, show min (tAc w (a.1 1 i) (nI i) (a.1 2 i)).length 30 = (tAc w (a.1 1 i) (nI i) (a.1 2 i)).length by omega]
    · rw [hφ 82 k (by omega) (by omega)]
      exact stk_eq r2.2.2.2.2 p2.2.2.2.2 k (by omega)
