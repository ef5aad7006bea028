/-! height, high, clash, rings, animalOf -/
theorem op_height (i t : Int32) : Op (fun σ => f_X11_height σ i t) (fun σ => f_X12_height σ i t) := by
  refine Op_an fun σ a hv hc => ?_
  have h9 : aN a ≤ 9 := hv.1.1.2
  have n1 : σ.1 1 4 = nI (aN a) := hc.1.1.trans hv.1.1.1
  have n2 : ∀ {υ : sS}, mK (υ.1 84) a → υ.1 84 0 = nI (aN a) := fun h => h.1.1.trans hv.1.1.1
  by_cases ci : 0 ≤ i.toInt ∧ i.toInt < aN a
  rotate_left
  · exact ⟨-1, σ, by simp only [f_X11_height, x_has n1 h9, bd_some, if_neg ci, if_true], frm_rf, fun υ hm => ⟨υ, by simp only [f_X12_height, m_isAn (n2 hm) h9, bd_some, if_neg ci, if_true], frm_rf⟩⟩
  by_cases ct : 0 ≤ t.toInt ∧ t.toInt ≤ 9999
  rotate_left
  · exact ⟨-1, σ, by simp only [f_X11_height, x_has n1 h9, x_isTurn, bd_some, if_pos ci, z10, if_false, if_neg ct, if_true], frm_rf, fun υ hm => ⟨υ, by simp only [f_X12_height, m_isAn (n2 hm) h9, m_isTurn, bd_some, if_pos ci, z10, if_false, if_neg ct, if_true], frm_rf⟩⟩
  obtain ⟨j, hj, ej⟩ := i32_nI ci.1 ci.2 (by omega)
  obtain ⟨τ, e1, e2, e3, e4⟩ := x_askE hv hc
  refine ⟨aHn a j t, τ, ?_, e4, fun υ hm => ?_⟩
  · simp only [f_X11_height, x_has n1 h9, x_isTurn, bd_some, if_pos ci, z10, if_false, if_pos ct, e1]
    rw [ej, x_heightNow hv e2 hj, bd_some]
  · obtain ⟨ω, g1, g2, g3, g4⟩ := m_goesE hv hm
    refine ⟨ω, ?_, g4⟩
    simp only [f_X12_height, m_isAn (n2 hm) h9, m_isTurn, bd_some, if_pos ci, z10, if_false, if_pos ct, g1]
    rw [ej, m_heightOf hv g2 hj, bd_some]
theorem op_high (t : Int32) : Op (fun σ => f_X11_high σ t) (fun σ => f_X12_high σ t) := by
  refine Op_an fun σ a hv hc => ?_
  by_cases ct : 0 ≤ t.toInt ∧ t.toInt ≤ 9999
  rotate_left
  · exact ⟨-1, σ, by simp only [f_X11_high, x_isTurn, bd_some, if_neg ct, if_true], frm_rf, fun υ hm => ⟨υ, by simp only [f_X12_high, m_isTurn, bd_some, if_neg ct, if_true], frm_rf⟩⟩
  obtain ⟨τ, e1, e2, e3, e4⟩ := x_askE hv hc
  refine ⟨aSt a t, τ, ?_, e4, fun υ hm => ?_⟩
  · simp only [f_X11_high, x_isTurn, bd_some, z10, if_false, if_pos ct, e1, x_setHigh hv e2]
  · obtain ⟨ω, g1, g2, g3, g4⟩ := m_goesE hv hm
    refine ⟨ω, ?_, g4⟩
    simp only [f_X12_high, m_isTurn, bd_some, z10, if_false, if_pos ct, g1, m_setHigh hv g2]
theorem op_clash (t : Int32) : Op (fun σ => f_X11_clash σ t) (fun σ => f_X12_clash σ t) := by
  refine Op_an fun σ a hv hc => ?_
  by_cases ct : 0 ≤ t.toInt ∧ t.toInt ≤ 9999
  rotate_left
  · exact ⟨-1, σ, by simp only [f_X11_clash, x_isTurn, bd_some, if_neg ct, if_true], frm_rf, fun υ hm => ⟨υ, by simp only [f_X12_clash, m_isTurn, bd_some, if_neg ct, if_true], frm_rf⟩⟩
  obtain ⟨τ, e1, e2, e3, e4⟩ := x_askE hv hc
  refine ⟨rI (aCl a t), τ, ?_, e4, fun υ hm => ?_⟩
  · simp only [f_X11_clash, x_isTurn, bd_some, z10, if_false, if_pos ct, e1, x_clash1 hv e2]
  · obtain ⟨ω, g1, g2, g3, g4⟩ := m_goesE hv hm
    refine ⟨ω, ?_, g4⟩
    simp only [f_X12_clash, m_isTurn, bd_some, z10, if_false, if_pos ct, g1, m_clash1 hv g2, rM_neg hv]
    cases aCl a t <;> simp [rI, rM]
/-! turns asked one behind the other -/
def pC (a : aK) (u k : Nat) : Bool := (aCl a (nI (u + k))).isSome
def rT (u : Nat) (o : Option Nat) : Int32 := match o with | some k => nI (u + k) | none => -3
theorem pC_f {a : aK} {u k : Nat} : pC a u k = false ↔ aCl a (nI (u + k)) = none := by
  unfold pC
  cases aCl a (nI (u + k)) <;> simp
theorem x_toc {σ : sS} {a : aK} (hv : vK a) (hE : cE σ a) (u : Nat) {n : Nat} (hn : n ≤ 200) : f_X3_turnOfClash σ (nI u) (nI n) = some (rT u (fst (pC a u) n 0)) := by
  unfold f_X3_turnOfClash fl_X3_turnOfClash_2
  have key : ∀ i, i < n → ∀ back, fb_X3_turnOfClash_2 σ back (nI u, nI n, nI i) = (if pC a u i = true then some (nI (u + i)) else back (nI u, nI n, nI (i + 1))) := by
    intro i hi back
    have hlt : nI i < nI n := (nn_lt (by omega) (by omega)).mpr hi
    simp only [fb_X3_turnOfClash_2, if_pos hlt, nI_add, x_clash1 hv hE, bd_some, rI_m3 hv, fj_X3_turnOfClash_19, nI_1]
    unfold pC
    cases aCl a (nI (u + i)) <;> simp
  have h := lp_find (body := fb_X3_turnOfClash_2 σ) (fun k => (nI u, nI n, nI k)) n (pC a u) (fun j => some (nI (u + j))) (some (-3)) (fun i hi hpi back => by rw [key i hi, if_neg (by rw [hpi]; decide)]) (fun i hi hpi back => by rw [key i hi, if_pos hpi]) (fun back => by simp only [fb_X3_turnOfClash_2, Int32.lt_irrefl, if_false]) nF 0 (by omega) (nF_big (by omega))
  refine h.trans ?_
  show (match fst (pC a u) n 0 with | some j => some (nI (u + j)) | none => some (-3)) = _
  cases fst (pC a u) n 0 <;> rfl
theorem op_nextClash (t : Int32) : Op (fun σ => f_X11_nextClash σ t) (fun σ => f_X12_nextClash σ t) := by
  refine Op_an fun σ a hv hc => ?_
  by_cases ct : 0 ≤ t.toInt ∧ t.toInt ≤ 9999
  rotate_left
  · exact ⟨-1, σ, by simp only [f_X11_nextClash, x_isTurn, bd_some, if_neg ct, if_true], frm_rf, fun υ hm => ⟨υ, by simp only [f_X12_nextClash, m_isTurn, bd_some, if_neg ct, if_true], frm_rf⟩⟩
  obtain ⟨u, hu, eu⟩ := nI_of_bt (x := t) (n := 9999) ct.1 ct.2 (by omega)
  obtain ⟨τ, e1, e2, e3, e4⟩ := x_askE hv hc
  have e200 : (200 : Int32) = nI 200 := rfl
  refine ⟨rT u (fst (pC a u) 200 0), τ, ?_, e4, fun υ hm => ?_⟩
  · simp only [f_X11_nextClash, x_isTurn, bd_some, z10, if_false, if_pos ct, e1]
    rw [eu, e200, x_toc hv e2 u (by omega), bd_some]
  · obtain ⟨ω, g1, g2, g3, g4⟩ := m_goesE hv hm
    refine ⟨ω, ?_, g4⟩
    simp only [f_X12_nextClash, m_isTurn, bd_some, z10, if_false, if_pos ct, g1]
    rw [eu]
    have key : ∀ i, i < 200 → ∀ back, fb_X12_nextClash_15 back (ω, nI u, nI (u + i)) = (if pC a u i = true then some (nI (u + i), ω) else back (ω, nI u, nI (u + (i + 1)))) := by
      intro i hi back
      have hlt : nI (u + i) < nI (u + 200) := (nn_lt (by omega) (by omega)).mpr (by omega)
      simp only [fb_X12_nextClash_15, e200, nI_add, if_pos hlt, m_clash1 hv g2, bd_some, rM_neg hv, nI_1]
      unfold pC
      cases aCl a (nI (u + i)) <;> simp [Nat.add_assoc]
    have h := lp_find (body := fb_X12_nextClash_15) (fun k => (ω, nI u, nI (u + k))) 200 (pC a u) (fun j => some (nI (u + j), ω)) (some (-3, ω)) (fun i hi hpi back => by rw [key i hi, if_neg (by rw [hpi]; decide)]) (fun i hi hpi back => by rw [key i hi, if_pos hpi]) (fun back => by simp only [fb_X12_nextClash_15, e200, nI_add, Int32.lt_irrefl, if_false]) nF 0 (by omega) (nF_big (by omega))
    refine h.trans ?_
    show (match fst (pC a u) 200 0 with | some j => some (nI (u + j), ω) | none => some (-3, ω)) = _
    cases fst (pC a u) 200 0 <;> rfl
/-- the longest run, the run now -/
def qN (p : Nat → Bool) : Nat → Nat × Nat
  | 0 => (0, 0)
  | k + 1 => if p k = true then (if (qN p k).1 < (qN p k).2 + 1 then (qN p k).2 + 1 else (qN p k).1, (qN p k).2 + 1) else ((qN p k).1, 0)
theorem qN_le (p : Nat → Bool) : ∀ k, (qN p k).1 ≤ k ∧ (qN p k).2 ≤ k
  | 0 => ⟨Nat.le_refl _, Nat.le_refl _⟩
  | k + 1 => by
    have ih := qN_le p k
    unfold qN
    split
    · refine ⟨?_, by show (qN p k).2 + 1 ≤ k + 1; omega⟩
      show (if (qN p k).1 < (qN p k).2 + 1 then (qN p k).2 + 1 else (qN p k).1) ≤ k + 1
      split <;> omega
    · exact ⟨by show (qN p k).1 ≤ k + 1; omega, Nat.zero_le _⟩
theorem qN_all (p : Nat → Bool) : ∀ k, (∀ j, j < k → p j = true) → (qN p k).1 = k ∧ (qN p k).2 = k
  | 0, _ => ⟨rfl, rfl⟩
  | k + 1, h => by
    obtain ⟨i1, i2⟩ := qN_all p k (fun j hj => h j (by omega))
    unfold qN
    rw [if_pos (h k (by omega)), i1, i2]
    exact ⟨if_pos (by omega), rfl⟩
theorem qN_not (p : Nat → Bool) : ∀ k, (∃ j, j < k ∧ p j = false) → (qN p k).1 < k ∧ (qN p k).2 < k
  | 0, ⟨j, hj, _⟩ => absurd hj (Nat.not_lt_zero _)
  | k + 1, ⟨j, hj, hp⟩ => by
    have hle := qN_le p k
    unfold qN
    by_cases c : p k = true
    · have hjk : j ≠ k := fun e => by rw [e, c] at hp; cases hp
      have ih := qN_not p k ⟨j, by omega, hp⟩
      rw [if_pos c]
      refine ⟨?_, by show (qN p k).2 + 1 < k + 1; omega⟩
      show (if (qN p k).1 < (qN p k).2 + 1 then (qN p k).2 + 1 else (qN p k).1) < k + 1
      split <;> omega
    · rw [if_neg c]
      exact ⟨by show (qN p k).1 < k + 1; omega, by show 0 < k + 1; omega⟩
def pQ (a : aK) (u k : Nat) : Bool := !pC a u k
theorem m_calm {σ : sS} {a : aK} (hv : vK a) (hm : mK (σ.1 84) a) {u n : Nat} (hu : u ≤ 9999) (hn : n ≤ 200) : ∃ ω, f_X12_calm σ (nI u) (nI n) = some (nI (qN (pQ a u) n).1, ω) ∧ mEv ω a ∧ (∀ q, q ≠ 83 → q ≠ 87 → q ≠ 88 → ω.1 q = σ.1 q) ∧ frm σ ω := by
  obtain ⟨ω, g1, g2, g3, g4⟩ := m_goesE hv hm
  refine ⟨ω, ?_, g2, g3, g4⟩
  unfold f_X12_calm fl_X12_calm_12
  rw [g1, bd_some]
  refine lp_for (body := fb_X12_calm_12) (fun k => (ω, nI u, nI n, nI (qN (pQ a u) k).1, nI (qN (pQ a u) k).2, nI (u + k))) n _ ?_ ?_ nF 0 (by omega) (nF_big (by omega))
  · intro k hk back
    have hq := qN_le (pQ a u) k
    have hlt : nI (u + k) < nI (u + n) := (nn_lt (by omega) (by omega)).mpr (by omega)
    have hp : (pQ a u k = true) ↔ aCl a (nI (u + k)) = none := by
      unfold pQ
      rw [← pC_f]
      cases pC a u k <;> simp
    have e0 : (nI (qN (pQ a u) k).1 < (0 : Int32)) = False := eq_false (nI_pos (by omega))
    simp only [fb_X12_calm_12, nI_add, if_pos hlt, m_clash1 hv g2, bd_some, rM_neg hv, fj_X12_calm_37, fj_X12_calm_51, nI_1, nn_lt (show (qN (pQ a u) k).1 < 2 ^ 31 by omega) (show (qN (pQ a u) k).2 + 1 < 2 ^ 31 by omega), e0, if_false]
    show _ = back (ω, nI u, nI n, nI (if pQ a u k = true then (if (qN (pQ a u) k).1 < (qN (pQ a u) k).2 + 1 then (qN (pQ a u) k).2 + 1 else (qN (pQ a u) k).1, (qN (pQ a u) k).2 + 1) else ((qN (pQ a u) k).1, 0)).1, nI (if pQ a u k = true then (if (qN (pQ a u) k).1 < (qN (pQ a u) k).2 + 1 then (qN (pQ a u) k).2 + 1 else (qN (pQ a u) k).1, (qN (pQ a u) k).2 + 1) else ((qN (pQ a u) k).1, 0)).2, nI (u + k + 1))
    by_cases c : aCl a (nI (u + k)) = none
    · rw [if_pos c, if_pos (hp.mpr c)]
      by_cases d : (qN (pQ a u) k).1 < (qN (pQ a u) k).2 + 1
      · rw [if_pos d]; simp only [if_pos d]
      · rw [if_neg d]; simp only [if_neg d]
    · rw [if_neg c, if_neg (mt hp.mp c)]
      rfl
  · intro back
    simp only [fb_X12_calm_12, nI_add, Int32.lt_irrefl, if_false]
theorem op_quiet (t n : Int32) : Op (fun σ => f_X11_quiet σ t n) (fun σ => f_X12_quiet σ t n) := by
  refine Op_an fun σ a hv hc => ?_
  by_cases ct : 0 ≤ t.toInt ∧ t.toInt ≤ 9999
  rotate_left
  · exact ⟨-1, σ, by simp only [f_X11_quiet, x_isTurn, bd_some, if_neg ct, if_true], frm_rf, fun υ hm => ⟨υ, by simp only [f_X12_quiet, m_isSpan, bd_some, if_neg (fun q : (0 ≤ t.toInt ∧ t.toInt ≤ 9999) ∧ _ => ct q.1), if_true], frm_rf⟩⟩
  by_cases cn : 1 ≤ n.toInt ∧ n.toInt ≤ 200
  rotate_left
  · exact ⟨-1, σ, by simp only [f_X11_quiet, x_isTurn, x_isSpan, bd_some, if_pos ct, z10, if_false, if_neg cn, if_true], frm_rf, fun υ hm => ⟨υ, by simp only [f_X12_quiet, m_isSpan, bd_some, if_neg (fun q : (0 ≤ t.toInt ∧ t.toInt ≤ 9999) ∧ 1 ≤ n.toInt ∧ n.toInt ≤ 200 => cn q.2), if_true], frm_rf⟩⟩
  obtain ⟨u, hu, eu⟩ := nI_of_bt (x := t) (n := 9999) ct.1 ct.2 (by omega)
  obtain ⟨m, hm200, em⟩ := nI_of_bt (x := n) (n := 200) (by omega) cn.2 (by omega)
  obtain ⟨τ, e1, e2, e3, e4⟩ := x_askE hv hc
  refine ⟨nI (qN (pQ a u) m).1, τ, ?_, e4, fun υ hm => ?_⟩
  · simp only [f_X11_quiet, x_isTurn, x_isSpan, bd_some, z10, if_false, if_pos ct, if_pos cn, e1]
    rw [eu, em]
    refine lp_for (body := fb_X11_quiet_31) (fun k => (τ, nI u, nI m, nI (qN (pQ a u) k).1, nI (qN (pQ a u) k).2, nI k)) m _ ?_ ?_ nF 0 (by omega) (nF_big (by omega))
    · intro k hk back
      have hq := qN_le (pQ a u) k
      have hlt : nI k < nI m := (nn_lt (by omega) (by omega)).mpr (by omega)
      have hp : (pQ a u k = true) ↔ aCl a (nI (u + k)) = none := by
        unfold pQ
        rw [← pC_f]
        cases pC a u k <;> simp
      have e0 : (nI (qN (pQ a u) k).1 < (0 : Int32)) = False := eq_false (nI_pos (by omega))
      simp only [fb_X11_quiet_31, nI_add, if_pos hlt, x_clash1 hv e2, bd_some, rI_m3 hv, fj_X11_quiet_61, pt_eq, nI_1, nn_lt (show (qN (pQ a u) k).1 < 2 ^ 31 by omega) (show (qN (pQ a u) k).2 + 1 < 2 ^ 31 by omega), e0, if_false]
      show _ = back (τ, nI u, nI m, nI (if pQ a u k = true then (if (qN (pQ a u) k).1 < (qN (pQ a u) k).2 + 1 then (qN (pQ a u) k).2 + 1 else (qN (pQ a u) k).1, (qN (pQ a u) k).2 + 1) else ((qN (pQ a u) k).1, 0)).1, nI (if pQ a u k = true then (if (qN (pQ a u) k).1 < (qN (pQ a u) k).2 + 1 then (qN (pQ a u) k).2 + 1 else (qN (pQ a u) k).1, (qN (pQ a u) k).2 + 1) else ((qN (pQ a u) k).1, 0)).2, nI (k + 1))
      by_cases c : aCl a (nI (u + k)) = none
      · rw [if_pos c, if_pos (hp.mpr c)]
        by_cases d : (qN (pQ a u) k).1 < (qN (pQ a u) k).2 + 1
        · simp only [if_pos d]
        · simp only [if_neg d]
      · rw [if_neg c, if_neg (mt hp.mp c)]
        rfl
    · intro back
      simp only [fb_X11_quiet_31, Int32.lt_irrefl, if_false]
  · obtain ⟨ω, g1, g2, g3, g4⟩ := m_calm hv hm (u := u) (n := m) hu hm200
    refine ⟨ω, ?_, g4⟩
    rw [← eu, ← em] at g1
    simp only [f_X12_quiet, m_isSpan, bd_some, z10, if_false, if_pos (show (0 ≤ t.toInt ∧ t.toInt ≤ 9999) ∧ 1 ≤ n.toInt ∧ n.toInt ≤ 200 from ⟨ct, cn⟩), g1]
theorem op_rings (i t n : Int32) : Op (fun σ => f_X11_rings σ i t n) (fun σ => f_X12_rings σ i t n) := by
  refine Op_an fun σ a hv hc => ?_
  have h9 : aN a ≤ 9 := hv.1.1.2
  have n1 : σ.1 1 4 = nI (aN a) := hc.1.1.trans hv.1.1.1
  have n2 : ∀ {υ : sS}, mK (υ.1 84) a → υ.1 84 0 = nI (aN a) := fun h => h.1.1.trans hv.1.1.1
  by_cases ci : 0 ≤ i.toInt ∧ i.toInt < aN a
  rotate_left
  · exact ⟨-1, σ, by simp only [f_X11_rings, x_has n1 h9, bd_some, if_neg ci, if_true], frm_rf, fun υ hm => ⟨υ, by simp only [f_X12_rings, m_isAn (n2 hm) h9, bd_some, if_neg ci, if_true], frm_rf⟩⟩
  by_cases ct : 0 ≤ t.toInt ∧ t.toInt ≤ 9999
  rotate_left
  · exact ⟨-1, σ, by simp only [f_X11_rings, x_has n1 h9, x_isTurn, bd_some, if_pos ci, z10, if_false, if_neg ct, if_true], frm_rf, fun υ hm => ⟨υ, by simp only [f_X12_rings, m_isAn (n2 hm) h9, m_isSpan, bd_some, if_pos ci, z10, if_false, if_neg (fun q : (0 ≤ t.toInt ∧ t.toInt ≤ 9999) ∧ _ => ct q.1), if_true], frm_rf⟩⟩
  by_cases cn : 1 ≤ n.toInt ∧ n.toInt ≤ 200
  rotate_left
  · exact ⟨-1, σ, by simp only [f_X11_rings, x_has n1 h9, x_isTurn, x_isSpan, bd_some, if_pos ci, if_pos ct, z10, if_false, if_neg cn, if_true], frm_rf, fun υ hm => ⟨υ, by simp only [f_X12_rings, m_isAn (n2 hm) h9, m_isSpan, bd_some, if_pos ci, z10, if_false, if_neg (fun q : (0 ≤ t.toInt ∧ t.toInt ≤ 9999) ∧ 1 ≤ n.toInt ∧ n.toInt ≤ 200 => cn q.2), if_true], frm_rf⟩⟩
  obtain ⟨j, hj, ej⟩ := i32_nI ci.1 ci.2 (by omega)
  obtain ⟨u, hu, eu⟩ := nI_of_bt (x := t) (n := 9999) ct.1 ct.2 (by omega)
  obtain ⟨m, hm200, em⟩ := nI_of_bt (x := n) (n := 200) (by omega) cn.2 (by omega)
  obtain ⟨τ, e1, e2, e3, e4⟩ := x_askE hv hc
  refine ⟨cS (fun k => rg a j (nI (u + k))) m, τ, ?_, e4, fun υ hm => ?_⟩
  · simp only [f_X11_rings, x_has n1 h9, x_isTurn, x_isSpan, bd_some, if_pos ci, z10, if_false, if_pos ct, if_pos cn, e1]
    rw [ej, eu, em, x_rings hv e2 hj u hm200, bd_some]
  · obtain ⟨ω, g1, g2, g3, g4⟩ := m_goesE hv hm
    refine ⟨ω, ?_, g4⟩
    simp only [f_X12_rings, m_isAn (n2 hm) h9, m_isSpan, bd_some, if_pos ci, z10, if_false, if_pos (show (0 ≤ t.toInt ∧ t.toInt ≤ 9999) ∧ 1 ≤ n.toInt ∧ n.toInt ≤ 200 from ⟨ct, cn⟩), g1]
    rw [ej, eu, em, m_rings hv g2 hj hu hm200, bd_some]
theorem op_firstRing (i t : Int32) : Op (fun σ => f_X11_firstRing σ i t) (fun σ => f_X12_firstRing σ i t) := by
  refine Op_an fun σ a hv hc => ?_
  have h9 : aN a ≤ 9 := hv.1.1.2
  have n1 : σ.1 1 4 = nI (aN a) := hc.1.1.trans hv.1.1.1
  have n2 : ∀ {υ : sS}, mK (υ.1 84) a → υ.1 84 0 = nI (aN a) := fun h => h.1.1.trans hv.1.1.1
  by_cases ci : 0 ≤ i.toInt ∧ i.toInt < aN a
  rotate_left
  · exact ⟨-1, σ, by simp only [f_X11_firstRing, x_has n1 h9, bd_some, if_neg ci, if_true], frm_rf, fun υ hm => ⟨υ, by simp only [f_X12_firstRing, m_isAn (n2 hm) h9, bd_some, if_neg ci, if_true], frm_rf⟩⟩
  by_cases ct : 0 ≤ t.toInt ∧ t.toInt ≤ 9999
  rotate_left
  · exact ⟨-1, σ, by simp only [f_X11_firstRing, x_has n1 h9, x_isTurn, bd_some, if_pos ci, z10, if_false, if_neg ct, if_true], frm_rf, fun υ hm => ⟨υ, by simp only [f_X12_firstRing, m_isAn (n2 hm) h9, m_isTurn, bd_some, if_pos ci, z10, if_false, if_neg ct, if_true], frm_rf⟩⟩
  obtain ⟨j, hj, ej⟩ := i32_nI ci.1 ci.2 (by omega)
  obtain ⟨u, hu, eu⟩ := nI_of_bt (x := t) (n := 9999) ct.1 ct.2 (by omega)
  obtain ⟨τ, e1, e2, e3, e4⟩ := x_askE hv hc
  have e200 : (200 : Int32) = nI 200 := rfl
  refine ⟨rT u (fst (fun k => rg a j (nI (u + k))) 200 0), τ, ?_, e4, fun υ hm => ?_⟩
  · simp only [f_X11_firstRing, x_has n1 h9, x_isTurn, bd_some, if_pos ci, z10, if_false, if_pos ct, e1]
    rw [ej, eu]
    have key : ∀ i, i < 200 → ∀ back, fb_X11_firstRing_29 back (τ, nI j, nI u, nI i) = (if rg a j (nI (u + i)) = true then some (nI (u + i), τ) else back (τ, nI j, nI u, nI (i + 1))) := by
      intro i hi back
      have hlt : nI i < nI 200 := (nn_lt (by omega) (by omega)).mpr (by omega)
      simp only [fb_X11_firstRing_29, e200, nI_add, if_pos hlt, x_ring hv e2 hj, bd_some, fj_X11_firstRing_50, nI_1]
      cases rg a j (nI (u + i)) <;> simp
    have h := lp_find (body := fb_X11_firstRing_29) (fun k => (τ, nI j, nI u, nI k)) 200 (fun k => rg a j (nI (u + k))) (fun j => some (nI (u + j), τ)) (some (-3, τ)) (fun i hi hpi back => by rw [key i hi, if_neg (by rw [hpi]; decide)]) (fun i hi hpi back => by rw [key i hi, if_pos hpi]) (fun back => by simp only [fb_X11_firstRing_29, e200, Int32.lt_irrefl, if_false]) nF 0 (by omega) (nF_big (by omega))
    refine h.trans ?_
    show (match fst (fun k => rg a j (nI (u + k))) 200 0 with | some j => some (nI (u + j), τ) | none => some (-3, τ)) = _
    cases fst (fun k => rg a j (nI (u + k))) 200 0 <;> rfl
  · obtain ⟨ω, g1, g2, g3, g4⟩ := m_goesE hv hm
    refine ⟨ω, ?_, g4⟩
    simp only [f_X12_firstRing, m_isAn (n2 hm) h9, m_isTurn, bd_some, if_pos ci, z10, if_false, if_pos ct, g1]
    rw [ej, eu]
    have key : ∀ i, i < 200 → ∀ back, fb_X12_firstRing_23 back (ω, nI j, nI u, nI (u + i)) = (if rg a j (nI (u + i)) = true then some (nI (u + i), ω) else back (ω, nI j, nI u, nI (u + (i + 1)))) := by
      intro i hi back
      have hlt : nI (u + i) < nI (u + 200) := (nn_lt (by omega) (by omega)).mpr (by omega)
      simp only [fb_X12_firstRing_23, e200, nI_add, if_pos hlt, m_ring hv g2 hj, bd_some, nI_1]
      cases rg a j (nI (u + i)) <;> simp [Nat.add_assoc]
    have h := lp_find (body := fb_X12_firstRing_23) (fun k => (ω, nI j, nI u, nI (u + k))) 200 (fun k => rg a j (nI (u + k))) (fun j => some (nI (u + j), ω)) (some (-3, ω)) (fun i hi hpi back => by rw [key i hi, if_neg (by rw [hpi]; decide)]) (fun i hi hpi back => by rw [key i hi, if_pos hpi]) (fun back => by simp only [fb_X12_firstRing_23, e200, nI_add, Int32.lt_irrefl, if_false]) nF 0 (by omega) (nF_big (by omega))
    refine h.trans ?_
    show (match fst (fun k => rg a j (nI (u + k))) 200 0 with | some j => some (nI (u + j), ω) | none => some (-3, ω)) = _
    cases fst (fun k => rg a j (nI (u + k))) 200 0 <;> rfl
/-- the best so far, and how many -/
def mRv (c : Nat → Int32) : Nat → Int32 × Int32
  | 0 => (-3, -1)
  | k + 1 => if (mRv c k).2 < c k then (nI k, c k) else mRv c k
theorem op_mostRings (t n : Int32) : Op (fun σ => f_X11_mostRings σ t n) (fun σ => f_X12_mostRings σ t n) := by
  refine Op_an fun σ a hv hc => ?_
  have h9 : aN a ≤ 9 := hv.1.1.2
  by_cases ct : 0 ≤ t.toInt ∧ t.toInt ≤ 9999
  rotate_left
  · exact ⟨-1, σ, by simp only [f_X11_mostRings, x_isTurn, bd_some, if_neg ct, if_true], frm_rf, fun υ hm => ⟨υ, by simp only [f_X12_mostRings, m_isSpan, bd_some, if_neg (fun q : (0 ≤ t.toInt ∧ t.toInt ≤ 9999) ∧ _ => ct q.1), if_true], frm_rf⟩⟩
  by_cases cn : 1 ≤ n.toInt ∧ n.toInt ≤ 200
  rotate_left
  · exact ⟨-1, σ, by simp only [f_X11_mostRings, x_isTurn, x_isSpan, bd_some, if_pos ct, z10, if_false, if_neg cn, if_true], frm_rf, fun υ hm => ⟨υ, by simp only [f_X12_mostRings, m_isSpan, bd_some, if_neg (fun q : (0 ≤ t.toInt ∧ t.toInt ≤ 9999) ∧ 1 ≤ n.toInt ∧ n.toInt ≤ 200 => cn q.2), if_true], frm_rf⟩⟩
  obtain ⟨u, hu, eu⟩ := nI_of_bt (x := t) (n := 9999) ct.1 ct.2 (by omega)
  obtain ⟨m, hm200, em⟩ := nI_of_bt (x := n) (n := 200) (by omega) cn.2 (by omega)
  obtain ⟨τ, e1, e2, e3, e4⟩ := x_askE hv hc
  obtain ⟨c, hcc⟩ : ∃ c : Nat → Int32, c = fun i => cS (fun k => rg a i (nI (u + k))) m := ⟨_, rfl⟩
  have hci : ∀ i, cS (fun k => rg a i (nI (u + k))) m = c i := fun i => by rw [hcc]
  refine ⟨(mRv c (aN a)).1, τ, ?_, e4, fun υ hm => ?_⟩
  · have n1 : τ.1 1 4 = nI (aN a) := e2.1.1.1.trans hv.1.1.1
    simp only [f_X11_mostRings, x_isTurn, x_isSpan, bd_some, z10, if_false, if_pos ct, if_pos cn, e1]
    rw [eu, em]
    refine lp_for (body := fb_X11_mostRings_32) (fun k => (τ, nI u, nI m, (mRv c k).1, (mRv c k).2, nI k)) (aN a) _ ?_ ?_ nF 0 (by omega) (nF_big (by omega))
    · intro k hk back
      have hlt : nI k < nI (aN a) := (nn_lt (by omega) (by omega)).mpr (by omega)
      simp only [fb_X11_mostRings_32, n1, if_pos hlt, x_rings hv e2 hk u hm200, hci, bd_some, nI_1]
      show _ = back (τ, nI u, nI m, (if (mRv c k).2 < c k then (nI k, c k) else mRv c k).1, (if (mRv c k).2 < c k then (nI k, c k) else mRv c k).2, nI (k + 1))
      split <;> rfl
    · intro back
      simp only [fb_X11_mostRings_32, n1, Int32.lt_irrefl, if_false]
  · obtain ⟨ω, g1, g2, g3, g4⟩ := m_goesE hv hm
    have n2 : ω.1 84 0 = nI (aN a) := g2.1.1.1.trans hv.1.1.1
    refine ⟨ω, ?_, g4⟩
    simp only [f_X12_mostRings, m_isSpan, bd_some, z10, if_false, if_pos (show (0 ≤ t.toInt ∧ t.toInt ≤ 9999) ∧ 1 ≤ n.toInt ∧ n.toInt ≤ 200 from ⟨ct, cn⟩), g1]
    rw [eu, em]
    refine lp_for (body := fb_X12_mostRings_23) (fun k => (ω, nI u, nI m, (mRv c k).1, (mRv c k).2, nI k)) (aN a) _ ?_ ?_ nF 0 (by omega) (nF_big (by omega))
    · intro k hk back
      have hlt : nI k < nI (aN a) := (nn_lt (by omega) (by omega)).mpr (by omega)
      simp only [fb_X12_mostRings_23, sin_0_316, grd_true, tn_0, n2, if_pos hlt, m_rings hv g2 hk hu hm200, hci, bd_some, fj_X12_mostRings_57, fj_X12_mostRings_72, nI_1]
      show _ = back (ω, nI u, nI m, (if (mRv c k).2 < c k then (nI k, c k) else mRv c k).1, (if (mRv c k).2 < c k then (nI k, c k) else mRv c k).2, nI (k + 1))
      by_cases d : (mRv c k).2 < c k
      · simp only [if_pos d]
      · simp only [if_neg d]
    · intro back
      simp only [fb_X12_mostRings_23, sin_0_316, grd_true, tn_0, n2, Int32.lt_irrefl, if_false]
theorem op_animalOf (i w : Int32) : Op (fun σ => f_X11_animalOf σ i w) (fun σ => f_X12_animalOf σ i w) := by
  refine Op_an fun σ a hv hc => ?_
  have h9 : aN a ≤ 9 := hv.1.1.2
  have n1 : σ.1 1 4 = nI (aN a) := hc.1.1.trans hv.1.1.1
  have n2 : ∀ {υ : sS}, mK (υ.1 84) a → υ.1 84 0 = nI (aN a) := fun h => h.1.1.trans hv.1.1.1
  have s0 : (0 : Int64).toInt = 0 := rfl
  have s6 : (6 : Int64).toInt = 6 := rfl
  by_cases ci : 0 ≤ i.toInt ∧ i.toInt < aN a
  rotate_left
  · exact ⟨-1, σ, by simp only [f_X11_animalOf, x_has n1 h9, bd_some, if_neg ci, if_true], frm_rf, fun υ hm => ⟨υ, by simp only [f_X12_animalOf, m_isAn (n2 hm) h9, bd_some, if_neg ci, if_true], frm_rf⟩⟩
  obtain ⟨j, hj, ej⟩ := i32_nI ci.1 ci.2 (by omega)
  have hin := sIn_nI (show j < 9 by omega) (show 9 < 2 ^ 31 by omega)
  have hcl := nI_clamp (show j < 2 ^ 31 by omega)
  obtain ⟨τ, e1, e2, e3, e4⟩ := x_askE hv hc
  obtain ⟨k1, k2, k3, k4⟩ := e2.1.2.1 j hj
  obtain ⟨p1, p2⟩ := e2.2 j hj
  have t6 : τ.1 1 6 = a.1 0 2 := e2.1.1.2.2.1
  have eX : f_X11_animalOf σ i w = (if w = 0 then some (a.1 1 j, τ) else if w = 1 then some (a.1 2 j, τ) else if w = 2 then some (a.1 3 j, τ) else if w = 3 then some (a.1 4 j, τ) else if w = 4 then some (aPr a j, τ) else if w = 5 then some (aGo a j, τ) else if w = 6 then some (aHn a j (a.1 0 2), τ) else some (-1, τ)) := by
    simp only [f_X11_animalOf, x_has n1 h9, bd_some, if_pos ci, z10, if_false, e1]
    rw [ej]
    simp only [grd_of hin, hcl, k1, k2, k3, k4, p1, p2, t6, x_heightNow hv e2 hj, bd_some]
  by_cases cw : 0 ≤ w.toInt ∧ w.toInt ≤ 6
  rotate_left
  · have w0 : ∀ n : Nat, n ≤ 6 → ¬ w = nI n := fun n hn e => by
      rw [e, nI_toInt (by omega)] at cw
      omega
    refine ⟨-1, τ, ?_, e4, fun υ hm => ⟨υ, by simp only [f_X12_animalOf, m_isAn (n2 hm) h9, m_inI, s0, s6, bd_some, if_pos ci, z10, if_false, if_neg cw, if_true], frm_rf⟩⟩
    show f_X11_animalOf σ i w = _
    rw [eX, if_neg (show ¬ w = 0 from w0 0 (by omega)), if_neg (show ¬ w = 1 from w0 1 (by omega)), if_neg (show ¬ w = 2 from w0 2 (by omega)), if_neg (show ¬ w = 3 from w0 3 (by omega)), if_neg (show ¬ w = 4 from w0 4 (by omega)), if_neg (show ¬ w = 5 from w0 5 (by omega)), if_neg (show ¬ w = 6 from w0 6 (by omega))]
  have hM : ∀ υ : sS, mK (υ.1 84) a → ∃ ω, frm υ ω ∧ f_X12_animalOf υ i w = (if w < 4 then bd (f_X12_its ω (nI j) w) fun r22 => some (r22, ω) else (if w = 4 then some (aPr a j, ω) else (if w = 5 then some (aGo a j, ω) else some (aHn a j (a.1 0 2), ω)))) ∧ mK (ω.1 84) a := by
    intro υ hm
    obtain ⟨ω, g1, g2, g3, g4⟩ := m_goesE hv hm
    obtain ⟨ψ, b1, b2, b3, b4, b5⟩ := m_asks hv g2.1 hj
    have hE : mEv ψ a := ⟨by rw [b4 84 (by omega) (by omega)]; exact g2.1, fun i hi => by rw [b4 88 (by omega) (by omega)]; exact g2.2 i hi⟩
    have hf : frm ω ψ := fun q x h => by
      by_cases c : q = 83
      · subst c
        exact b5 x (fun e => h (by unfold scr; omega)) (fun e => h (by unfold scr; omega))
      · rw [b4 q c (fun e => h (by unfold scr; omega))]
    have e5 : ψ.1 84 5 = a.1 0 2 := hE.1.1.2.2.1
    refine ⟨ψ, frm_tr g4 hf, ?_, hE.1⟩
    simp only [f_X12_animalOf, m_isAn (n2 hm) h9, m_inI, s0, s6, bd_some, if_pos ci, if_pos cw, z10, if_false, g1]
    rw [ej]
    simp only [b1, bd_some, b2, b3, sin_5_316, grd_true, tn_5, e5, m_heightOf hv hE hj]
  obtain ⟨n, hn, en⟩ := nI_of_bt (x := w) (n := 6) cw.1 cw.2 (by omega)
  have fin : ∀ r, (f_X11_animalOf σ i w = some (r, τ)) → (∀ ω : sS, mK (ω.1 84) a → (if w < 4 then bd (f_X12_its ω (nI j) w) fun r22 => some (r22, ω) else (if w = 4 then some (aPr a j, ω) else (if w = 5 then some (aGo a j, ω) else some (aHn a j (a.1 0 2), ω)))) = some (r, ω)) → ∃ r τ, f_X11_animalOf σ i w = some (r, τ) ∧ frm σ τ ∧ ∀ υ, mK (υ.1 84) a → ∃ ω, f_X12_animalOf υ i w = some (r, ω) ∧ frm υ ω := fun r h1 h2 => by
    refine ⟨r, τ, h1, e4, fun υ hm => ?_⟩
    obtain ⟨ω, f1, f2, f3⟩ := hM υ hm
    exact ⟨ω, by rw [f2, h2 ω f3], f1⟩
  have its : ∀ (ω : sS) (k : Nat), mK (ω.1 84) a → k < 4 → f_X12_its ω (nI j) (nI k) = some (a.1 (k + 1) j) := fun ω k hm hk => by
    have h := hm.2.1 j hj
    rw [m_its ω (by omega) hk]
    rcases (by omega : k = 0 ∨ k = 1 ∨ k = 2 ∨ k = 3) with e | e | e | e <;> subst e
    · rw [show 6 + 4 * j + 0 = 6 + 4 * j by omega, h.1]
    · rw [show 6 + 4 * j + 1 = 7 + 4 * j by omega, h.2.1]
    · rw [show 6 + 4 * j + 2 = 8 + 4 * j by omega, h.2.2.1]
    · rw [show 6 + 4 * j + 3 = 9 + 4 * j by omega, h.2.2.2]
  rcases (by omega : n = 0 ∨ n = 1 ∨ n = 2 ∨ n = 3 ∨ n = 4 ∨ n = 5 ∨ n = 6) with e | e | e | e | e | e | e <;> subst e
  · exact fin (a.1 1 j) (by rw [eX, en]; rfl) (fun ω hm => by rw [en, if_pos (by decide), its ω 0 hm (by omega), bd_some])
  · exact fin (a.1 2 j) (by rw [eX, en]; rfl) (fun ω hm => by rw [en, if_pos (by decide), its ω 1 hm (by omega), bd_some])
  · exact fin (a.1 3 j) (by rw [eX, en]; rfl) (fun ω hm => by rw [en, if_pos (by decide), its ω 2 hm (by omega), bd_some])
  · exact fin (a.1 4 j) (by rw [eX, en]; rfl) (fun ω hm => by rw [en, if_pos (by decide), its ω 3 hm (by omega), bd_some])
  · exact fin (aPr a j) (by rw [eX, en]; rfl) (fun ω hm => by rw [en, if_neg (by decide), if_pos (by decide)])
  · exact fin (aGo a j) (by rw [eX, en]; rfl) (fun ω hm => by rw [en, if_neg (by decide), if_neg (by decide), if_pos (by decide)])
  · exact fin (aHn a j (a.1 0 2)) (by rw [eX, en]; rfl) (fun ω hm => by rw [en, if_neg (by decide), if_neg (by decide), if_neg (by decide)])
