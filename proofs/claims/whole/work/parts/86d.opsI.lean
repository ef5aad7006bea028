/-! organ, together -/
def oP (a : aK) (i b r k : Nat) : Bool := decide (aPn a i (nI (b + k * r)) = 0)
theorem og_step (b k r : Nat) : nI (b + k * r) + nI r = nI (b + (k + 1) * r) := by
  rw [nI_add, Nat.add_assoc, Nat.succ_mul]
def oE (b r : Nat) : Nat := (999 - b) / r + 1
theorem oE_lt {b r k : Nat} (hb : b < 60) (hr : 2 ≤ r) : k < oE b r ↔ b + k * r < 1000 := by
  unfold oE
  have h : k ≤ (999 - b) / r ↔ k * r ≤ 999 - b := Nat.le_div_iff_mul_le (by omega)
  constructor
  · intro g
    have := h.mp (by omega)
    omega
  · intro g
    have := h.mpr (by omega)
    omega
theorem oE_le {b r : Nat} (hr : 2 ≤ r) : oE b r ≤ 501 := by
  unfold oE
  have h1 : (999 - b) / r ≤ (999 - b) / 2 := Nat.div_le_div_left hr (by omega)
  omega
theorem oE_sm {b r : Nat} (hb : b < 60) (hr : 2 ≤ r) (hr2 : r ≤ 60) : b + oE b r * r < 2000 := by
  unfold oE
  have h1 : (999 - b) / r * r ≤ 999 - b := Nat.div_mul_le_self _ _
  rw [Nat.succ_mul]
  omega
theorem op_organ (i r b : Int32) : Op (fun σ => f_X11_organ σ i r b) (fun σ => f_X12_organ σ i r b) := by
  refine Op_an fun σ a hv hc => ?_
  have h9 : aN a ≤ 9 := hv.1.1.2
  have n1 : σ.1 1 4 = nI (aN a) := hc.1.1.trans hv.1.1.1
  have n2 : ∀ {υ : sS}, mK (υ.1 84) a → υ.1 84 0 = nI (aN a) := fun h => h.1.1.trans hv.1.1.1
  have s0 : (0 : Int64).toInt = 0 := rfl
  have s2 : (2 : Int64).toInt = 2 := rfl
  have s60 : (60 : Int64).toInt = 60 := rfl
  have t0 : (0 : Int32).toInt = 0 := rfl
  have t2 : (2 : Int32).toInt = 2 := rfl
  have t60 : (60 : Int32).toInt = 60 := rfl
  by_cases ci : 0 ≤ i.toInt ∧ i.toInt < aN a
  rotate_left
  · exact ⟨-1, σ, by simp only [f_X11_organ, x_has n1 h9, bd_some, if_neg ci, if_true], frm_rf, fun υ hm => ⟨υ, by simp only [f_X12_organ, m_isAn (n2 hm) h9, bd_some, if_neg ci, if_true], frm_rf⟩⟩
  by_cases cr : 2 ≤ r.toInt ∧ r.toInt ≤ 60
  rotate_left
  · exact ⟨-1, σ, by simp only [f_X11_organ, x_has n1 h9, x_within, t2, t60, bd_some, if_pos ci, z10, if_false, if_neg cr, if_true], frm_rf, fun υ hm => ⟨υ, by simp only [f_X12_organ, m_isAn (n2 hm) h9, m_inI, s2, s60, bd_some, if_pos ci, z10, if_false, if_neg cr, if_true], frm_rf⟩⟩
  obtain ⟨rr, hr60, er⟩ := nI_of_bt (x := r) (n := 60) (by omega) cr.2 (by omega)
  have hr2 : 2 ≤ rr := by
    have := cr.1
    rw [er, nI_toInt (by omega)] at this
    omega
  have hsub : (r - 1).toInt = (rr : Int) - 1 := by rw [er]; exact nI_m1 (by omega)
  by_cases cb : 0 ≤ b.toInt ∧ b.toInt ≤ (rr : Int) - 1
  rotate_left
  · exact ⟨-1, σ, by simp only [f_X11_organ, x_has n1 h9, x_within, t2, t60, t0, hsub, bd_some, if_pos ci, if_pos cr, z10, if_false, if_neg cb, if_true], frm_rf, fun υ hm => ⟨υ, by simp only [f_X12_organ, m_isAn (n2 hm) h9, m_inI, i64_of, s0, s2, s60, hsub, bd_some, if_pos ci, if_pos cr, z10, if_false, if_neg cb, if_true], frm_rf⟩⟩
  obtain ⟨bb, hb60, eb⟩ := nI_of_bt (x := b) (n := 59) cb.1 (by omega) (by omega)
  obtain ⟨j, hj, ej⟩ := i32_nI ci.1 ci.2 (by omega)
  obtain ⟨τ, e1, e2, e3, e4⟩ := x_askE hv hc
  have e1000 : (1000 : Int32) = nI 1000 := rfl
  have hsm := oE_sm (b := bb) (r := rr) (by omega) hr2 hr60
  have hmono : ∀ k, k ≤ oE bb rr → bb + k * rr < 2000 := fun k hk => by
    have := Nat.mul_le_mul_right rr hk
    omega
  have hcond : ∀ k, k ≤ oE bb rr → (nI (bb + k * rr) < (1000 : Int32) ↔ k < oE bb rr) := fun k hk => by
    have := hmono k hk
    rw [e1000, nn_lt (by omega) (by omega)]
    exact (oE_lt (by omega) hr2).symm
  refine ⟨(match fst (oP a j bb rr) (oE bb rr) 0 with | some k => nI (bb + k * rr) | none => -3), τ, ?_, e4, fun υ hm => ?_⟩
  · simp only [f_X11_organ, x_has n1 h9, x_within, t2, t60, t0, hsub, bd_some, if_pos ci, if_pos cr, if_pos cb, z10, if_false, e1]
    rw [ej, er, eb]
    have key : ∀ k, k < oE bb rr → ∀ back, fb_X11_organ_44 back (τ, nI j, nI rr, nI (bb + k * rr)) = (if oP a j bb rr k = true then some (nI (bb + k * rr), τ) else back (τ, nI j, nI rr, nI (bb + (k + 1) * rr))) := by
      intro k hk back
      simp only [fb_X11_organ_44, if_pos ((hcond k (by omega)).mpr hk), x_placeNow hv e2 hj, bd_some, og_step, oP, decide_eq_true_eq]
    have h := lp_find (body := fb_X11_organ_44) (fun k => (τ, nI j, nI rr, nI (bb + k * rr))) (oE bb rr) (oP a j bb rr) (fun k => some (nI (bb + k * rr), τ)) (some (-3, τ)) (fun k hk hpk back => by rw [key k hk, if_neg (by rw [hpk]; decide)]) (fun k hk hpk back => by rw [key k hk, if_pos hpk]) (fun back => by simp only [fb_X11_organ_44, if_neg (mt (hcond _ (Nat.le_refl _)).mp (Nat.lt_irrefl _))]) nF 0 (by omega) (nF_big (by have := oE_le (b := bb) hr2; omega))
    rw [show bb + 0 * rr = bb by omega] at h
    refine h.trans ?_
    show (match fst (oP a j bb rr) (oE bb rr) 0 with | some k => some (nI (bb + k * rr), τ) | none => some (-3, τ)) = _
    cases fst (oP a j bb rr) (oE bb rr) 0 <;> rfl
  · obtain ⟨ω, g1, g2, g3, g4⟩ := m_goesE hv hm
    refine ⟨ω, ?_, g4⟩
    simp only [f_X12_organ, m_isAn (n2 hm) h9, m_inI, i64_of, s0, s2, s60, hsub, bd_some, if_pos ci, if_pos cr, if_pos cb, z10, if_false, g1]
    rw [ej, er, eb]
    have key : ∀ k, k < oE bb rr → ∀ back, fb_X12_organ_44 back (ω, nI j, nI rr, nI (bb + k * rr)) = (if oP a j bb rr k = true then some (nI (bb + k * rr), ω) else back (ω, nI j, nI rr, nI (bb + (k + 1) * rr))) := by
      intro k hk back
      simp only [fb_X12_organ_44, if_pos ((hcond k (by omega)).mpr hk), m_isDown hv g2 hj, bd_some, og_step, oP, decide_eq_true_eq]
      by_cases d : aPn a j (nI (bb + k * rr)) = 0
      · rw [if_pos d, if_neg (by decide), if_pos d]
      · rw [if_neg d, if_pos rfl, if_neg d]
    have h := lp_find (body := fb_X12_organ_44) (fun k => (ω, nI j, nI rr, nI (bb + k * rr))) (oE bb rr) (oP a j bb rr) (fun k => some (nI (bb + k * rr), ω)) (some (-3, ω)) (fun k hk hpk back => by rw [key k hk, if_neg (by rw [hpk]; decide)]) (fun k hk hpk back => by rw [key k hk, if_pos hpk]) (fun back => by simp only [fb_X12_organ_44, if_neg (mt (hcond _ (Nat.le_refl _)).mp (Nat.lt_irrefl _))]) nF 0 (by omega) (nF_big (by have := oE_le (b := bb) hr2; omega))
    rw [show bb + 0 * rr = bb by omega] at h
    refine h.trans ?_
    show (match fst (oP a j bb rr) (oE bb rr) 0 with | some k => some (nI (bb + k * rr), ω) | none => some (-3, ω)) = _
    cases fst (oP a j bb rr) (oE bb rr) 0 <;> rfl
/-! sets asked for -/
def bd1 (a : aK) (w : Int32) (t : Int32) (i : Nat) : Bool := tb w i && !decide (aPn a i t = 0)
def alB (p : Nat → Bool) : Nat → Bool
  | 0 => true
  | n + 1 => alB p n && !p n
theorem alB_iff {p : Nat → Bool} : ∀ {n : Nat}, alB p n = true ↔ ∀ i, i < n → p i = false
  | 0 => ⟨fun _ i h => absurd h (Nat.not_lt_zero _), fun _ => rfl⟩
  | n + 1 => by
    have ih := alB_iff (p := p) (n := n)
    unfold alB
    constructor
    · intro h i hi
      have h2 : alB p n = true ∧ p n = false := by
        cases h3 : alB p n <;> cases h4 : p n <;> simp_all
      by_cases e : i = n
      · rw [e]; exact h2.2
      · exact ih.mp h2.1 i (by omega)
    · intro h
      rw [ih.mpr (fun i hi => h i (by omega)), h n (by omega)]
      rfl
theorem fst_alB {p : Nat → Bool} {n : Nat} : fst p n 0 = none ↔ alB p n = true := by
  rw [alB_iff]
  constructor
  · intro h i hi
    exact fst_none h i (by omega) (by omega)
  · intro h
    exact fst_non fun k _ hk => h k (by omega)
theorem x_down {σ : sS} {a : aK} (hv : vK a) (hE : cE σ a) (w t : Int32) : f_X3_areDown σ w t = some (if alB (bd1 a w t) (aN a) = true then 1 else 0) := by
  have h9 : aN a ≤ 9 := hv.1.1.2
  have n1 : σ.1 1 4 = nI (aN a) := hE.1.1.1.trans hv.1.1.1
  unfold f_X3_areDown fl_X3_areDown_2
  have key : ∀ i, i < aN a → ∀ back, fb_X3_areDown_2 σ back (w, t, nI i) = (if bd1 a w t i = true then some 0 else back (w, t, nI (i + 1))) := by
    intro i hi back
    have hlt : nI i < nI (aN a) := (nn_lt (by omega) (by omega)).mpr hi
    simp only [fb_X3_areDown_2, n1, if_pos hlt, x_placeNow hv hE hi, bd_some, tb_get w i (show i < 32 by omega), nI_1]
    unfold bd1
    by_cases c1 : tb w i = true
    · by_cases c2 : aPn a i t = 0
      · simp [c1, c2]
      · simp [c1, c2]
    · simp [c1]
  have h := lp_find (body := fb_X3_areDown_2 σ) (fun k => (w, t, nI k)) (aN a) (bd1 a w t) (fun j => some 0) (some 1) (fun i hi hpi back => by rw [key i hi, if_neg (by rw [hpi]; decide)]) (fun i hi hpi back => by rw [key i hi, if_pos hpi]) (fun back => by simp only [fb_X3_areDown_2, n1, Int32.lt_irrefl, if_false]) nF 0 (by omega) (nF_big (by omega))
  refine h.trans ?_
  rw [Nat.sub_zero]
  cases hf : fst (bd1 a w t) (aN a) 0 with
  | none => rw [if_pos (fst_alB.mp hf)]
  | some j => rw [if_neg (fun q => by rw [fst_alB.mpr q] at hf; cases hf)]
theorem op_together (w t : Int32) : Op (fun σ => f_X11_together σ w t) (fun σ => f_X12_together σ w t) := by
  refine Op_an fun σ a hv hc => ?_
  have h9 : aN a ≤ 9 := hv.1.1.2
  have n1 : σ.1 1 4 = nI (aN a) := hc.1.1.trans hv.1.1.1
  have n2 : ∀ {υ : sS}, mK (υ.1 84) a → υ.1 84 0 = nI (aN a) := fun h => h.1.1.trans hv.1.1.1
  by_cases cw : 0 ≤ w.toInt ∧ w.toInt ≤ 2 ^ aN a - 1
  rotate_left
  · exact ⟨-1, σ, by simp only [f_X11_together, x_hasAll n1 h9, bd_some, if_neg cw, if_true], frm_rf, fun υ hm => ⟨υ, by simp only [f_X12_together, m_isSet (n2 hm) h9, bd_some, if_neg cw, if_true], frm_rf⟩⟩
  by_cases ct : 0 ≤ t.toInt ∧ t.toInt ≤ 9999
  rotate_left
  · exact ⟨-1, σ, by simp only [f_X11_together, x_hasAll n1 h9, x_isTurn, bd_some, if_pos cw, z10, if_false, if_neg ct, if_true], frm_rf, fun υ hm => ⟨υ, by simp only [f_X12_together, m_isSet (n2 hm) h9, m_isTurn, bd_some, if_pos cw, z10, if_false, if_neg ct, if_true], frm_rf⟩⟩
  obtain ⟨u, hu, eu⟩ := nI_of_bt (x := t) (n := 9999) ct.1 ct.2 (by omega)
  obtain ⟨τ, e1, e2, e3, e4⟩ := x_askE hv hc
  have e1000 : (1000 : Int32) = nI 1000 := rfl
  obtain ⟨P, hP⟩ : ∃ P : Nat → Bool, P = fun k => alB (bd1 a w (nI (u + k))) (aN a) := ⟨_, rfl⟩
  have hPk : ∀ k, alB (bd1 a w (nI (u + k))) (aN a) = P k := fun k => by rw [hP]
  refine ⟨rT u (fst P 1000 0), τ, ?_, e4, fun υ hm => ?_⟩
  · simp only [f_X11_together, x_hasAll n1 h9, x_isTurn, bd_some, if_pos cw, z10, if_false, if_pos ct, e1]
    rw [eu]
    have key : ∀ i, i < 1000 → ∀ back, fb_X11_together_29 back (τ, w, nI u, nI i) = (if P i = true then some (nI (u + i), τ) else back (τ, w, nI u, nI (i + 1))) := by
      intro i hi back
      have hlt : nI i < nI 1000 := (nn_lt (by omega) (by omega)).mpr (by omega)
      simp only [fb_X11_together_29, e1000, nI_add, if_pos hlt, x_down hv e2, hPk, bd_some, fj_X11_together_50, nI_1]
      cases P i <;> simp
    have h := lp_find (body := fb_X11_together_29) (fun k => (τ, w, nI u, nI k)) 1000 P (fun j => some (nI (u + j), τ)) (some (-3, τ)) (fun i hi hpi back => by rw [key i hi, if_neg (by rw [hpi]; decide)]) (fun i hi hpi back => by rw [key i hi, if_pos hpi]) (fun back => by simp only [fb_X11_together_29, e1000, Int32.lt_irrefl, if_false]) nF 0 (by omega) (nF_big (by omega))
    refine h.trans ?_
    show (match fst P 1000 0 with | some j => some (nI (u + j), τ) | none => some (-3, τ)) = _
    cases fst P 1000 0 <;> rfl
  · obtain ⟨ω, g1, g2, g3, g4⟩ := m_goesE hv hm
    have m2 : ω.1 84 0 = nI (aN a) := n2 g2.1
    refine ⟨ω, ?_, g4⟩
    simp only [f_X12_together, m_isSet (n2 hm) h9, m_isTurn, bd_some, if_pos cw, z10, if_false, if_pos ct, g1]
    rw [eu]
    have inner : ∀ (k : Nat) (back : sS × Int32 × Int32 × Int32 → Option (Int32 × sS)), fl_X12_together_38 back (ω, w, nI u, nI (u + k), 1, 0) = (if P k = true then some (nI (u + k), ω) else back (ω, w, nI u, nI (u + k + 1))) := by
      intro k back
      unfold fl_X12_together_38
      refine lp_for (body := fb_X12_together_38 back) (fun i => (ω, w, nI u, nI (u + k), (if alB (bd1 a w (nI (u + k))) i = true then 1 else 0), nI i)) (aN a) _ ?_ ?_ nF 0 (by omega) (nF_big (by omega))
      · intro i hi bk
        have hlt : nI i < nI (aN a) := (nn_lt (by omega) (by omega)).mpr hi
        have hal : alB (bd1 a w (nI (u + k))) (i + 1) = (alB (bd1 a w (nI (u + k))) i && !(bd1 a w (nI (u + k)) i)) := rfl
        rw [hal]
        simp only [fb_X12_together_38, sin_0_316, grd_true, tn_0, m2, if_pos hlt, m_has, tb_get w i (show i < 32 by omega), m_isDown hv g2 hi, bd_some, fj_X12_together_77, fj_X12_together_73, fj_X12_together_78, nI_1]
        have hbd : bd1 a w (nI (u + k)) i = (tb w i && !decide (aPn a i (nI (u + k)) = 0)) := rfl
        rw [hbd]
        by_cases c0 : alB (bd1 a w (nI (u + k))) i = true
        · by_cases c1 : tb w i = true
          · by_cases c2 : aPn a i (nI (u + k)) = 0
            · simp [c0, c1, c2]
            · simp [c0, c1, c2]
          · simp [c0, c1]
        · simp [c0]
      · intro bk
        simp only [fb_X12_together_38, sin_0_316, grd_true, tn_0, m2, Int32.lt_irrefl, if_false, fj_X12_together_86, hPk, nI_1]
        cases P k <;> simp
    have key : ∀ i, i < 1000 → ∀ back, fb_X12_together_23 back (ω, w, nI u, nI (u + i)) = (if P i = true then some (nI (u + i), ω) else back (ω, w, nI u, nI (u + (i + 1)))) := by
      intro i hi back
      have hlt : nI (u + i) < nI (u + 1000) := (nn_lt (by omega) (by omega)).mpr (by omega)
      simp only [fb_X12_together_23, e1000, nI_add, pt_eq, if_pos hlt, inner i back, Nat.add_assoc]
    have h := lp_find (body := fb_X12_together_23) (fun k => (ω, w, nI u, nI (u + k))) 1000 P (fun j => some (nI (u + j), ω)) (some (-3, ω)) (fun i hi hpi back => by rw [key i hi, if_neg (by rw [hpi]; decide)]) (fun i hi hpi back => by rw [key i hi, if_pos hpi]) (fun back => by simp only [fb_X12_together_23, e1000, nI_add, pt_eq, Int32.lt_irrefl, if_false]) nF 0 (by omega) (nF_big (by omega))
    refine h.trans ?_
    show (match fst P 1000 0 with | some j => some (nI (u + j), ω) | none => some (-3, ω)) = _
    cases fst P 1000 0 <;> rfl
