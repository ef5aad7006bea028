/-! levelFor -/
theorem nI_nm3 {m : Nat} (h : m < 2 ^ 31) : ¬ nI m = -3 := fun e => by
  have e1 : (nI m).toInt = (-3 : Int32).toInt := congrArg Int32.toInt e
  rw [nI_toInt h] at e1
  exact absurd e1 (by have : (-3 : Int32).toInt = -3 := rfl; omega)
theorem rT_m3 {u : Nat} (hu : u ≤ 9999) {p : Nat → Bool} {n : Nat} (hn : n ≤ 200) : (rT u (fst p n 0) = -3) ↔ fst p n 0 = none := by
  cases h : fst p n 0 with
  | none => exact ⟨fun _ => rfl, fun _ => rfl⟩
  | some j =>
    have hj := fst_some h
    refine ⟨fun e => ?_, fun e => by cases e⟩
    exact absurd (show nI (u + j) = -3 from e) (nI_nm3 (by omega))
def pL (a : aK) (u n v : Nat) : Bool := (fst (pC (aSet a 0 1 (nI v)) u) n 0).isNone
theorem q_all (a : aK) (u n : Nat) : ((qN (pQ a u) n).1 = n) ↔ fst (pC a u) n 0 = none := by
  constructor
  · intro h
    refine fst_non fun k _ hk => ?_
    cases hp : pC a u k with
    | false => rfl
    | true =>
      have := qN_not (pQ a u) n ⟨k, by omega, by unfold pQ; rw [hp]; rfl⟩
      omega
  · intro h
    exact (qN_all (pQ a u) n fun j hj => by unfold pQ; rw [fst_none h j (by omega) (by omega)]; rfl).1
theorem x_levelFor {σ : sS} {a : aK} (hv : vK a) (hc : cK σ a) {u n : Nat} (hu : u ≤ 9999) (hn : n ≤ 200) : ∃ τ, fl_X11_levelFor_31 (σ, nI u, nI n, σ.1 1 5, -3, 0) = some (rI (fst (pL a u n) 8 0), τ) ∧ frm σ τ := by
  unfold fl_X11_levelFor_31
  have ex : ∀ (τ : sS) (r : Int32), (∀ q j, ¬ scr q j → ¬ (q = 1 ∧ j = 5) → τ.1 q j = σ.1 q j) → frm σ (sI τ 1 5 (σ.1 1 5)) := fun τ r h q j hs => by
    rw [sI_r]
    by_cases e1 : q = 1
    · by_cases e2 : j = 5
      · rw [if_pos e1, if_pos e2, e1, e2]
      · rw [if_pos e1, if_neg e2, ← e1]
        exact h q j hs (fun e => e2 e.2)
    · rw [if_neg e1]
      exact h q j hs (fun e => e1 e.1)
  refine lp_wf (body := fb_X11_levelFor_31) (I := fun p => (∀ q j, ¬ scr q j → ¬ (q = 1 ∧ j = 5) → p.1.1 q j = σ.1 q j) ∧ ((∃ k, k ≤ 8 ∧ p.2 = (nI u, nI n, σ.1 1 5, -3, nI k) ∧ ∀ j, j < k → pL a u n j = false) ∨ (∃ k, fst (pL a u n) 8 0 = some k ∧ p.2 = (nI u, nI n, σ.1 1 5, nI k, nI (k + 1))))) (m := fun p => 9 - p.2.2.2.2.2.toNatClampNeg) (P := fun X => ∃ τ, X = some (rI (fst (pL a u n) 8 0), τ) ∧ frm σ τ) ?_ nF (σ, nI u, nI n, σ.1 1 5, -3, 0) (nF_big (by show 9 - (0 : Int32).toNatClampNeg < 4000; omega)) ⟨fun _ _ _ _ => rfl, Or.inl ⟨0, by omega, rfl, fun j hj => absurd hj (Nat.not_lt_zero _)⟩⟩
  rintro ⟨τ, y⟩ ⟨a1, h⟩
  have a1' : ∀ q j, ¬ scr q j → ¬ (q = 1 ∧ j = 5) → τ.1 q j = σ.1 q j := a1
  have e7 : (7 : Int32) = nI 7 := rfl
  rcases h with ⟨k, hk, hy, hno⟩ | ⟨k, hk, hy⟩
  · have hy2 : y = (nI u, nI n, σ.1 1 5, -3, nI k) := hy
    subst hy2
    by_cases c : k < 8
    · left
      have hvb : vK (aSet a 0 1 (nI k)) := v_level (nI k) (by unfold bt; rw [nI_toInt (by omega)]; omega) hv
      have hcb : cK (sI τ 1 5 (nI k)) (aSet a 0 1 (nI k)) := cK_of (fun q j g => by
        have hq := pCur_r g
        have hs : ¬ scr q j := by unfold scr; omega
        rw [sI_r, sI_r]
        by_cases e1 : q = 1
        · by_cases e2 : j = 5
          · rw [if_pos e1, if_pos e2, if_pos e1, if_pos e2]
          · rw [if_pos e1, if_neg e2, if_pos e1, if_neg e2, ← e1]
            exact a1' q j hs (fun e => e2 e.2)
        · rw [if_neg e1, if_neg e1]
          exact a1' q j hs (fun e => e1 e.1)) (c_level (nI k) hc)
      obtain ⟨ω, g1, g2, g3, g4⟩ := x_askE hvb hcb
      have a2 : ∀ q j, ¬ scr q j → ¬ (q = 1 ∧ j = 5) → ω.1 q j = σ.1 q j := fun q j hs he => by
        rw [g4 q j hs, sI_r]
        by_cases e1 : q = 1
        · have e2 : j ≠ 5 := fun e2 => he ⟨e1, e2⟩
          rw [if_pos e1, if_neg e2, ← e1]
          exact a1' q j hs he
        · rw [if_neg e1]
          exact a1' q j hs he
      have h7 : ¬ (7 : Int32) < nI k := by rw [e7]; exact mt (nn_lt (by omega) (by omega)).mp (by omega)
      have hb : ∀ back, fb_X11_levelFor_31 back (τ, nI u, nI n, σ.1 1 5, -3, nI k) = (if fst (pC (aSet a 0 1 (nI k)) u) n 0 = none then back (ω, nI u, nI n, σ.1 1 5, nI k, nI (k + 1)) else back (ω, nI u, nI n, σ.1 1 5, -3, nI (k + 1))) := fun back => by
        simp only [fb_X11_levelFor_31, if_neg h7, if_true, pt_eq, g1, bd_some, x_toc hvb g2 u hn, rT_m3 hu hn, nI_1]
      have hms : ∀ f : Int32, 9 - (ω, nI u, nI n, σ.1 1 5, f, nI (k + 1)).2.2.2.2.2.toNatClampNeg < 9 - (τ, nI u, nI n, σ.1 1 5, (-3 : Int32), nI k).2.2.2.2.2.toNatClampNeg := fun f => by
        show 9 - (nI (k + 1)).toNatClampNeg < 9 - (nI k).toNatClampNeg
        rw [nI_clamp (by omega), nI_clamp (by omega)]
        omega
      cases hp : fst (pC (aSet a 0 1 (nI k)) u) n 0 with
      | none =>
        refine ⟨(ω, nI u, nI n, σ.1 1 5, nI k, nI (k + 1)), ⟨a2, Or.inr ⟨k, fst_is (by omega) (by omega) (by unfold pL; rw [hp]; rfl) (fun j _ hj => hno j hj), rfl⟩⟩, hms _, fun back => by rw [hb, if_pos hp]⟩
      | some z =>
        refine ⟨(ω, nI u, nI n, σ.1 1 5, -3, nI (k + 1)), ⟨a2, Or.inl ⟨k + 1, by omega, rfl, fun j hj => ?_⟩⟩, hms _, fun back => by rw [hb, if_neg (by rw [hp]; exact fun e => by cases e)]⟩
        by_cases e : j = k
        · rw [e]; unfold pL; rw [hp]; rfl
        · exact hno j (by omega)
    · right
      have ek : k = 8 := by omega
      subst ek
      refine ⟨some (-3, sI τ 1 5 (σ.1 1 5)), ⟨_, ?_, ex τ 0 a1'⟩, fun back => ?_⟩
      · rw [fst_non fun j _ hj => hno j (by omega)]
        rfl
      · simp only [fb_X11_levelFor_31, if_pos (show (7 : Int32) < nI 8 by decide), fj_X11_levelFor_85, pt_eq]
  · have hy2 : y = (nI u, nI n, σ.1 1 5, nI k, nI (k + 1)) := hy
    subst hy2
    have hkl := fst_some hk
    right
    refine ⟨some (nI k, sI τ 1 5 (σ.1 1 5)), ⟨_, by rw [hk]; rfl, ex τ 0 a1'⟩, fun back => ?_⟩
    simp only [fb_X11_levelFor_31, if_neg (nI_nm3 (show k < 2 ^ 31 by omega)), fj_X11_levelFor_85, pt_eq]
    split <;> rfl
theorem m_levelFor {σ : sS} {a : aK} (hv : vK a) (hm : mK (σ.1 84) a) {u n : Nat} (hu : u ≤ 9999) (hn : n ≤ 200) : ∃ τ, fl_X12_levelFor_24 (σ, nI u, nI n, σ.1 84 4, -3, 0) = some (rI (fst (pL a u n) 8 0), τ) ∧ frm σ τ := by
  unfold fl_X12_levelFor_24
  have ex : ∀ (τ : sS) (r : Int32), (∀ q j, ¬ scr q j → ¬ (q = 84 ∧ j = 4) → τ.1 q j = σ.1 q j) → frm σ (sI τ 84 4 (σ.1 84 4)) := fun τ r h q j hs => by
    rw [sI_r]
    by_cases e1 : q = 84
    · by_cases e2 : j = 4
      · rw [if_pos e1, if_pos e2, e1, e2]
      · rw [if_pos e1, if_neg e2, ← e1]
        exact h q j hs (fun e => e2 e.2)
    · rw [if_neg e1]
      exact h q j hs (fun e => e1 e.1)
  refine lp_wf (body := fb_X12_levelFor_24) (I := fun p => (∀ q j, ¬ scr q j → ¬ (q = 84 ∧ j = 4) → p.1.1 q j = σ.1 q j) ∧ ((∃ k, k ≤ 8 ∧ p.2 = (nI u, nI n, σ.1 84 4, -3, nI k) ∧ ∀ j, j < k → pL a u n j = false) ∨ (∃ k, fst (pL a u n) 8 0 = some k ∧ p.2 = (nI u, nI n, σ.1 84 4, nI k, nI (k + 1))))) (m := fun p => 9 - p.2.2.2.2.2.toNatClampNeg) (P := fun X => ∃ τ, X = some (rI (fst (pL a u n) 8 0), τ) ∧ frm σ τ) ?_ nF (σ, nI u, nI n, σ.1 84 4, -3, 0) (nF_big (by show 9 - (0 : Int32).toNatClampNeg < 4000; omega)) ⟨fun _ _ _ _ => rfl, Or.inl ⟨0, by omega, rfl, fun j hj => absurd hj (Nat.not_lt_zero _)⟩⟩
  rintro ⟨τ, y⟩ ⟨a1, h⟩
  have a1' : ∀ q j, ¬ scr q j → ¬ (q = 84 ∧ j = 4) → τ.1 q j = σ.1 q j := a1
  have e8 : (8 : Int32) = nI 8 := rfl
  rcases h with ⟨k, hk, hy, hno⟩ | ⟨k, hk, hy⟩
  · have hy2 : y = (nI u, nI n, σ.1 84 4, -3, nI k) := hy
    subst hy2
    by_cases c : k < 8
    · left
      have hvb : vK (aSet a 0 1 (nI k)) := v_level (nI k) (by unfold bt; rw [nI_toInt (by omega)]; omega) hv
      have hrow : (sI τ 84 4 (nI k)).1 84 = upd (σ.1 84) 4 (nI k) := by
        rw [sI_row]
        funext j
        rw [upd_r, upd_r]
        by_cases e : j = 4
        · rw [if_pos e, if_pos e]
        · rw [if_neg e, if_neg e]
          exact a1' 84 j (by unfold scr; omega) (fun x => e x.2)
      have hmb : mK ((sI τ 84 4 (nI k)).1 84) (aSet a 0 1 (nI k)) := by rw [hrow]; exact m_level (nI k) hm
      obtain ⟨ω, g1, g2, g3, g4⟩ := m_calm hvb hmb hu hn
      have a2 : ∀ q j, ¬ scr q j → ¬ (q = 84 ∧ j = 4) → ω.1 q j = σ.1 q j := fun q j hs he => by
        rw [g4 q j hs, sI_r]
        by_cases e1 : q = 84
        · have e2 : j ≠ 4 := fun e2 => he ⟨e1, e2⟩
          rw [if_pos e1, if_neg e2, ← e1]
          exact a1' q j hs he
        · rw [if_neg e1]
          exact a1' q j hs he
      have h8 : nI k < (8 : Int32) := by rw [e8]; exact (nn_lt (by omega) (by omega)).mpr (by omega)
      have hq := qN_le (pQ (aSet a 0 1 (nI k)) u) n
      have heq : (nI (qN (pQ (aSet a 0 1 (nI k)) u) n).1 = nI n) ↔ fst (pC (aSet a 0 1 (nI k)) u) n 0 = none := by
        rw [nI_eq (by omega) (by omega)]
        exact q_all _ u n
      have hb : ∀ back, fb_X12_levelFor_24 back (τ, nI u, nI n, σ.1 84 4, -3, nI k) = (if fst (pC (aSet a 0 1 (nI k)) u) n 0 = none then back (ω, nI u, nI n, σ.1 84 4, nI k, nI (k + 1)) else back (ω, nI u, nI n, σ.1 84 4, -3, nI (k + 1))) := fun back => by
        simp only [fb_X12_levelFor_24, if_pos h8, if_pos (show (-3 : Int32) < 0 by decide), sin_4_316, grd_true, tn_4, pt_eq, g1, bd_some, heq, nI_1, fj_X12_levelFor_61]
      have hms : ∀ f : Int32, 9 - (ω, nI u, nI n, σ.1 84 4, f, nI (k + 1)).2.2.2.2.2.toNatClampNeg < 9 - (τ, nI u, nI n, σ.1 84 4, (-3 : Int32), nI k).2.2.2.2.2.toNatClampNeg := fun f => by
        show 9 - (nI (k + 1)).toNatClampNeg < 9 - (nI k).toNatClampNeg
        rw [nI_clamp (by omega), nI_clamp (by omega)]
        omega
      cases hp : fst (pC (aSet a 0 1 (nI k)) u) n 0 with
      | none =>
        refine ⟨(ω, nI u, nI n, σ.1 84 4, nI k, nI (k + 1)), ⟨a2, Or.inr ⟨k, fst_is (by omega) (by omega) (by unfold pL; rw [hp]; rfl) (fun j _ hj => hno j hj), rfl⟩⟩, hms _, fun back => by rw [hb, if_pos hp]⟩
      | some z =>
        refine ⟨(ω, nI u, nI n, σ.1 84 4, -3, nI (k + 1)), ⟨a2, Or.inl ⟨k + 1, by omega, rfl, fun j hj => ?_⟩⟩, hms _, fun back => by rw [hb, if_neg (by rw [hp]; exact fun e => by cases e)]⟩
        by_cases e : j = k
        · rw [e]; unfold pL; rw [hp]; rfl
        · exact hno j (by omega)
    · right
      have ek : k = 8 := by omega
      subst ek
      refine ⟨some (-3, sI τ 84 4 (σ.1 84 4)), ⟨_, ?_, ex τ 0 a1'⟩, fun back => ?_⟩
      · rw [fst_non fun j _ hj => hno j (by omega)]
        rfl
      · simp only [fb_X12_levelFor_24, if_neg (show ¬ nI 8 < (8 : Int32) by decide), fj_X12_levelFor_69, pt_eq, sin_4_316, grd_true, tn_4]
  · have hy2 : y = (nI u, nI n, σ.1 84 4, nI k, nI (k + 1)) := hy
    subst hy2
    have hkl := fst_some hk
    right
    refine ⟨some (nI k, sI τ 84 4 (σ.1 84 4)), ⟨_, by rw [hk]; rfl, ex τ 0 a1'⟩, fun back => ?_⟩
    simp only [fb_X12_levelFor_24, if_neg (nI_pos (show k < 2 ^ 31 by omega)), fj_X12_levelFor_69, pt_eq, sin_4_316, grd_true, tn_4]
    split <;> rfl
theorem op_levelFor (t n : Int32) : Op (fun σ => f_X11_levelFor σ t n) (fun σ => f_X12_levelFor σ t n) := by
  refine Op_an fun σ a hv hc => ?_
  by_cases ct : 0 ≤ t.toInt ∧ t.toInt ≤ 9999
  rotate_left
  · exact ⟨-1, σ, by simp only [f_X11_levelFor, x_isTurn, bd_some, if_neg ct, if_true], frm_rf, fun υ hm => ⟨υ, by simp only [f_X12_levelFor, m_isSpan, bd_some, if_neg (fun q : (0 ≤ t.toInt ∧ t.toInt ≤ 9999) ∧ _ => ct q.1), if_true], frm_rf⟩⟩
  by_cases cn : 1 ≤ n.toInt ∧ n.toInt ≤ 200
  rotate_left
  · exact ⟨-1, σ, by simp only [f_X11_levelFor, x_isTurn, x_isSpan, bd_some, if_pos ct, z10, if_false, if_neg cn, if_true], frm_rf, fun υ hm => ⟨υ, by simp only [f_X12_levelFor, m_isSpan, bd_some, if_neg (fun q : (0 ≤ t.toInt ∧ t.toInt ≤ 9999) ∧ 1 ≤ n.toInt ∧ n.toInt ≤ 200 => cn q.2), if_true], frm_rf⟩⟩
  obtain ⟨u, hu, eu⟩ := nI_of_bt (x := t) (n := 9999) ct.1 ct.2 (by omega)
  obtain ⟨m, hm200, em⟩ := nI_of_bt (x := n) (n := 200) (by omega) cn.2 (by omega)
  obtain ⟨τ, e1, e2⟩ := x_levelFor hv hc hu hm200
  refine ⟨rI (fst (pL a u m) 8 0), τ, ?_, e2, fun υ hm => ?_⟩
  · simp only [f_X11_levelFor, x_isTurn, x_isSpan, bd_some, z10, if_false, if_pos ct, if_pos cn]
    rw [eu, em]
    exact e1
  · obtain ⟨ω, g1, g2⟩ := m_levelFor hv hm hu hm200
    refine ⟨ω, ?_, g2⟩
    simp only [f_X12_levelFor, m_isSpan, bd_some, z10, if_false, if_pos (show (0 ≤ t.toInt ∧ t.toInt ≤ 9999) ∧ 1 ≤ n.toInt ∧ n.toInt ≤ 200 from ⟨ct, cn⟩), sin_4_316, grd_true, tn_4, pt_eq]
    rw [eu, em]
    exact g1
