/-! seats(), seat(), ride() -/
theorem seF {σ τ : sS} (h : ∀ q, q ≠ 64 → q ≠ 65 → q ≠ 66 → τ.1 q = σ.1 q) : frm σ τ := fun q j hs => by rw [h q (fun e => hs (by unfold scr; omega)) (fun e => hs (by unfold scr; omega)) (fun e => hs (by unfold scr; omega))]
theorem op_seats : Op (fun σ => f_X11_seats σ) (fun σ => f_X12_seats σ) := by
  refine Op_an fun σ a hv hc => ?_
  obtain ⟨τ, e1, e2, e3, e4⟩ := x_askE hv hc
  obtain ⟨ψ, r1, r2, r3⟩ := x_seatsFill hv e2
  refine ⟨nI (Bd a (aM a) 0), ψ, by simp only [f_X11_seats, e1, bd_some, r1], frm_tr e4 (seF r2), fun υ hm => ?_⟩
  obtain ⟨ω, g1, g2, g3, g4⟩ := m_seatsFind hv hm
  exact ⟨ω, by simp only [f_X12_seats, g1, bd_some], g3⟩
theorem op_seat (c : Int32) : Op (fun σ => f_X11_seat σ c) (fun σ => f_X12_seat σ c) := by
  refine Op_an fun σ a hv hc => ?_
  have h9 : aN a ≤ 9 := hv.1.1.2
  have h8 : aM a ≤ 8 := hv.1.2.1.2
  have n1 : σ.1 15 3 = nI (aM a) := hc.1.2.2.2.1.trans hv.1.2.1.1
  have n2 : ∀ {υ : sS}, mK (υ.1 84) a → υ.1 84 2 = nI (aM a) := fun h => h.1.2.2.2.1.trans hv.1.2.1.1
  by_cases ci : 0 ≤ c.toInt ∧ c.toInt < aM a
  rotate_left
  · exact ⟨-1, σ, by simp only [f_X11_seat, x_hasC n1 (show aM a ≤ 9 by omega), bd_some, if_neg ci, if_true], frm_rf, fun υ hm => ⟨υ, by simp only [f_X12_seat, m_isC (n2 hm) (show aM a ≤ 9 by omega), bd_some, if_neg ci, if_true], frm_rf⟩⟩
  obtain ⟨j, hj, ej⟩ := i32_nI ci.1 ci.2 (by omega)
  have hin := sIn_nI (show j < 8 by omega) (show 8 < 2 ^ 31 by omega)
  have hcl := nI_clamp (show j < 2 ^ 31 by omega)
  obtain ⟨τ, e1, e2, e3, e4⟩ := x_askE hv hc
  obtain ⟨ψ, r1, r2, r3⟩ := x_seatsFill hv e2
  refine ⟨rI (stt a j), ψ, ?_, frm_tr e4 (seF r2), fun υ hm => ?_⟩
  · simp only [f_X11_seat, x_hasC n1 (show aM a ≤ 9 by omega), bd_some, if_pos ci, z10, if_false, e1, r1]
    rw [ej, grd_of hin, hcl, r3 j hj]
  · obtain ⟨ω, g1, g2, g3, g4⟩ := m_seatsFind hv hm
    refine ⟨ω, ?_, g3⟩
    simp only [f_X12_seat, m_isC (n2 hm) (show aM a ≤ 9 by omega), bd_some, if_pos ci, z10, if_false, g1]
    rw [ej, grd_of hin, grd_of hin, hcl, g4 j hj]
    cases hs : stt a j with
    | none => rw [if_pos (show rM none < 0 by decide)]; rfl
    | some i =>
      have hi := (sc_lt (show sc a (aM a - 1 - j) (tk a j) = some i from hs)).1
      rw [if_neg (show ¬ rM (some i) < 0 from nI_pos (by omega))]
      rfl
/-- they have ridden, the first c of them -/
def rdA (a : aK) : Nat → aK
  | 0 => a
  | c + 1 => (match stt a c with | some i => aSet (aSet (rdA a c) 6 c (a.1 6 c - aPr a i)) 7 c (nI i) | none => rdA a c)
theorem rdA_ns (a : aK) : ∀ c, aN (rdA a c) = aN a ∧ aM (rdA a c) = aM a
  | 0 => ⟨rfl, rfl⟩
  | c + 1 => by
    obtain ⟨h1, h2⟩ := rdA_ns a c
    show aN (match stt a c with | some i => aSet (aSet (rdA a c) 6 c (a.1 6 c - aPr a i)) 7 c (nI i) | none => rdA a c) = _ ∧ aM (match stt a c with | some i => aSet (aSet (rdA a c) 6 c (a.1 6 c - aPr a i)) 7 c (nI i) | none => rdA a c) = _
    cases stt a c with
    | none => exact ⟨h1, h2⟩
    | some i => exact ⟨by rw [aSet_n _ _ (by omega), aSet_n _ _ (by omega), h1], by rw [aSet_m _ _ (by omega), aSet_m _ _ (by omega), h2]⟩
theorem rdA_6 (a : aK) : ∀ c x, c ≤ x → (rdA a c).1 6 x = a.1 6 x
  | 0, _, _ => rfl
  | c + 1, x, h => by
    have ih := rdA_6 a c x (by omega)
    show (match stt a c with | some i => aSet (aSet (rdA a c) 6 c (a.1 6 c - aPr a i)) 7 c (nI i) | none => rdA a c).1 6 x = _
    cases stt a c with
    | none => exact ih
    | some i =>
      show (aSet (aSet (rdA a c) 6 c (a.1 6 c - aPr a i)) 7 c (nI i)).1 6 x = _
      rw [aS_ne _ _ (by omega), aS_ne _ _ (by omega), ih]
theorem stt_ok {a : aK} {c i : Nat} (hc : c < aM a) (h : stt a c = some i) : i < aN a ∧ ¬ a.1 6 c < aPr a i := by
  obtain ⟨h1, h2⟩ := sc_lt (show sc a (aM a - 1 - c) (tk a c) = some i from h)
  refine ⟨h1, ?_⟩
  rw [show aM a - 1 - (aM a - 1 - c) = c by omega] at h2
  unfold mp may at h2
  rw [Bool.and_eq_true, Bool.and_eq_true] at h2
  simpa using h2.2.2
theorem rdA_v {a : aK} (hv : vK a) : ∀ c, c ≤ aM a → vK (rdA a c)
  | 0, _ => hv
  | c + 1, hc => by
    have ih := rdA_v hv c (by omega)
    show vK (match stt a c with | some i => aSet (aSet (rdA a c) 6 c (a.1 6 c - aPr a i)) 7 c (nI i) | none => rdA a c)
    cases hs : stt a c with
    | none => exact ih
    | some i =>
      obtain ⟨h1, h2⟩ := stt_ok (by omega) hs
      have hco := (hv.2.2.1 c (by omega)).2.1
      have hpr := pr_nI hv h1
      unfold bt at hco
      have h3 := mt i32_lt.mpr h2
      rw [hpr.1, nI_toInt (by omega)] at h3
      have hsub : (a.1 6 c - aPr a i).toInt = (a.1 6 c).toInt - pr a i := by
        rw [hpr.1, Int32.toInt_sub, nI_toInt (by omega)]
        exact Int.bmod_eq_of_le (by omega) (by omega)
      have v1 : vK (aSet (rdA a c) 6 c (a.1 6 c - aPr a i)) := v_ki (r := 6) (by omega) (by omega) c (show bt _ 0 999 by unfold bt; rw [hsub]; omega) ih
      exact v_ki (r := 7) (by omega) (by omega) c (show _ ∨ _ from Or.inr ⟨i, by rw [aSet_n _ _ (by omega), (rdA_ns a c).1]; exact h1, rfl⟩) v1
def rdP (a : aK) (c : Nat) : Bool := (stt a c).isSome
theorem op_ride : Op (fun σ => f_X11_ride σ) (fun σ => f_X12_ride σ) := by
  intro σ hR
  have hR0 := hR
  obtain ⟨⟨a, hv, hc, hm⟩, o1, oR⟩ := hR
  have h9 : aN a ≤ 9 := hv.1.1.2
  have h8 : aM a ≤ 8 := hv.1.2.1.2
  obtain ⟨τ, e1, e2, e3, e4⟩ := x_askE hv hc
  obtain ⟨ψ, r1, r2, r3⟩ := x_seatsFill hv e2
  have fψ : frm σ ψ := frm_tr e4 (seF r2)
  have hEψ : cE ψ a := cE_lo (fun q hq => r2 q (by omega) (by omega) (by omega)) e2
  have hle := cN_le (rdP a)
  have hX : ∃ χ, fl_X11_ride_27 (ψ, 0, 0) = some (nI (cN (rdP a) (aM a)), χ) ∧ cK χ (rdA a (aM a)) ∧ ∀ q, q ≠ 17 → q ≠ 18 → χ.1 q = ψ.1 q := by
    unfold fl_X11_ride_27
    refine lp_inv (body := fb_X11_ride_27) (I := fun k p => p.2 = (nI (cN (rdP a) k), nI k) ∧ cK p.1 (rdA a k) ∧ ∀ q, q ≠ 17 → q ≠ 18 → p.1.1 q = ψ.1 q) (e := aM a) (P := fun X => ∃ χ, X = some (nI (cN (rdP a) (aM a)), χ) ∧ cK χ (rdA a (aM a)) ∧ ∀ q, q ≠ 17 → q ≠ 18 → χ.1 q = ψ.1 q) ?_ ?_ nF 0 (ψ, 0, 0) (by omega) (nF_big (by omega)) ⟨rfl, hEψ.1, fun _ _ _ => rfl⟩
    · rintro k hk ⟨χ, y⟩ ⟨hy, b1, b2⟩ back
      have hy2 : y = (nI (cN (rdP a) k), nI k) := hy
      subst hy2
      have b1' : cK χ (rdA a k) := b1
      have b2' : ∀ q, q ≠ 17 → q ≠ 18 → χ.1 q = ψ.1 q := b2
      have m1 : χ.1 1 4 = nI (aN a) := by rw [b2' 1 (by omega) (by omega)]; exact hEψ.1.1.1.trans hv.1.1.1
      have m15 : χ.1 15 3 = nI (aM a) := by rw [b2' 15 (by omega) (by omega)]; exact hEψ.1.1.2.2.2.1.trans hv.1.2.1.1
      have hlt : nI k < nI (aM a) := (nn_lt (by omega) (by omega)).mpr hk
      have hin := sIn_nI (show k < 8 by omega) (show 8 < 2 ^ 31 by omega)
      have hcl := nI_clamp (show k < 2 ^ 31 by omega)
      have s64 : χ.1 64 k = rI (stt a k) := by rw [b2' 64 (by omega) (by omega)]; exact r3 k hk
      have co : χ.1 17 k = a.1 6 k := by rw [(b1'.2.2.1 k (by rw [(rdA_ns a k).2]; exact hk)).2.1, rdA_6 a k k (Nat.le_refl _)]
      have hcs : cN (rdP a) (k + 1) = (if rdP a k = true then cN (rdP a) k + 1 else cN (rdP a) k) := rfl
      cases hs : stt a k with
      | none =>
        rw [hs] at s64
        have hno : ¬ (0 ≤ (rI none).toInt ∧ (rI none).toInt < (aN a : Int)) := fun g => by
          have : (rI none).toInt = -3 := rfl
          omega
        have hrd : rdA a (k + 1) = rdA a k := by
          show (match stt a k with | some i => aSet (aSet (rdA a k) 6 k (a.1 6 k - aPr a i)) 7 k (nI i) | none => rdA a k) = _
          rw [hs]
        refine ⟨(χ, nI (cN (rdP a) (k + 1)), nI (k + 1)), ⟨rfl, by rw [hrd]; exact b1', b2'⟩, ?_⟩
        rw [hcs]
        unfold rdP
        rw [hs]
        simp only [fb_X11_ride_27, m15, if_pos hlt, grd_of hin, hcl, s64, pt_eq, x_has m1 h9, bd_some, if_neg hno, if_true, nI_1]
        rfl
      | some i =>
        rw [hs] at s64
        obtain ⟨hi, hle2⟩ := stt_ok hk hs
        have hyes : 0 ≤ (rI (some i)).toInt ∧ (rI (some i)).toInt < (aN a : Int) := by
          show 0 ≤ (nI i).toInt ∧ (nI i).toInt < (aN a : Int)
          rw [nI_toInt (by omega)]
          omega
        have s64' : χ.1 64 k = nI i := s64
        have pr13 : χ.1 13 i = aPr a i := by rw [b2' 13 (by omega) (by omega)]; exact (hEψ.2 i hi).2
        have hrd : rdA a (k + 1) = aSet (aSet (rdA a k) 6 k (a.1 6 k - aPr a i)) 7 k (nI i) := by
          show (match stt a k with | some i => aSet (aSet (rdA a k) 6 k (a.1 6 k - aPr a i)) 7 k (nI i) | none => rdA a k) = _
          rw [hs]
        have hyes' : 0 ≤ (nI i).toInt ∧ (nI i).toInt < (aN a : Int) := hyes
        refine ⟨(sI (sI χ 17 k (a.1 6 k - aPr a i)) 18 k (nI i), nI (cN (rdP a) (k + 1)), nI (k + 1)), ⟨rfl, ?_, fun q q1 q2 => ?_⟩, ?_⟩
        · show cK (sI (sI χ 17 k (a.1 6 k - aPr a i)) 18 k (nI i)) _
          rw [hrd]
          exact c_ki (r := 7) (by omega) (by omega) k (nI i) (c_ki (r := 6) (by omega) (by omega) k (a.1 6 k - aPr a i) b1')
        · show (sI (sI χ 17 k _) 18 k _).1 q = _
          rw [sI_off _ _ _ _ q2, sI_off _ _ _ _ q1]
          exact b2' q q1 q2
        · rw [hcs]
          unfold rdP
          rw [hs]
          simp only [fb_X11_ride_27, m15, if_pos hlt, grd_of hin, hcl, s64', pt_eq, x_has m1 h9, bd_some, if_pos hyes', z10, if_false, grd_of (sIn_nI (show i < 9 by omega) (show 9 < 2 ^ 31 by omega)), nI_clamp (show i < 2 ^ 31 by omega), co, pr13, nI_1]
          rfl
    · rintro ⟨χ, y⟩ ⟨hy, b1, b2⟩ back
      have hy2 : y = (nI (cN (rdP a) (aM a)), nI (aM a)) := hy
      subst hy2
      have b2' : ∀ q, q ≠ 17 → q ≠ 18 → χ.1 q = ψ.1 q := b2
      have m15 : χ.1 15 3 = nI (aM a) := by rw [b2' 15 (by omega) (by omega)]; exact hEψ.1.1.2.2.2.1.trans hv.1.2.1.1
      exact ⟨χ, by simp only [fb_X11_ride_27, m15, Int32.lt_irrefl, if_false], b1, b2⟩
  obtain ⟨χ, x1, x2, x3⟩ := hX
  have hmχ : mK (χ.1 84) a := by rw [x3 84 (by omega) (by omega), frm_84 fψ]; exact hm
  obtain ⟨ω, g1, g2, g3, g4⟩ := m_seatsFind hv hmχ
  have hMd : ∃ φ, fl_X12_ride_9 (ω, 0, 0) = some (nI (cN (rdP a) (aM a)), φ) ∧ mK (φ.1 84) (rdA a (aM a)) ∧ ∀ q, q ≠ 84 → φ.1 q = ω.1 q := by
    unfold fl_X12_ride_9
    refine lp_inv (body := fb_X12_ride_9) (I := fun k p => p.2 = (nI (cN (rdP a) k), nI k) ∧ mK (p.1.1 84) (rdA a k) ∧ ∀ q, q ≠ 84 → p.1.1 q = ω.1 q) (e := aM a) (P := fun X => ∃ φ, X = some (nI (cN (rdP a) (aM a)), φ) ∧ mK (φ.1 84) (rdA a (aM a)) ∧ ∀ q, q ≠ 84 → φ.1 q = ω.1 q) ?_ ?_ nF 0 (ω, 0, 0) (by omega) (nF_big (by omega)) ⟨rfl, g2.1, fun _ _ => rfl⟩
    · rintro k hk ⟨φ, y⟩ ⟨hy, b1, b2⟩ back
      have hy2 : y = (nI (cN (rdP a) k), nI k) := hy
      subst hy2
      have b1' : mK (φ.1 84) (rdA a k) := b1
      have b2' : ∀ q, q ≠ 84 → φ.1 q = ω.1 q := b2
      have hvk := rdA_v hv k (by omega)
      have m2 : φ.1 84 2 = nI (aM a) := by rw [b1'.1.2.2.2.1, hvk.1.2.1.1, (rdA_ns a k).2]
      have hlt : nI k < nI (aM a) := (nn_lt (by omega) (by omega)).mpr hk
      have hin := sIn_nI (show k < 8 by omega) (show 8 < 2 ^ 31 by omega)
      have hcl := nI_clamp (show k < 2 ^ 31 by omega)
      have s95 : φ.1 95 k = rM (stt a k) := by rw [b2' 95 (by omega)]; exact g4 k hk
      have co : φ.1 84 (43 + 3 * k) = a.1 6 k := by rw [(b1'.2.2.1 k (by rw [(rdA_ns a k).2]; exact hk)).2.1, rdA_6 a k k (Nat.le_refl _)]
      have hcs : cN (rdP a) (k + 1) = (if rdP a k = true then cN (rdP a) k + 1 else cN (rdP a) k) := rfl
      have w1 : ∀ υ : sS, f_X12_where υ (nI k) 1 = some (nI (43 + 3 * k)) := fun υ => by
        have := m_where υ k 1
        rwa [show 42 + 3 * k + 1 = 43 + 3 * k by omega] at this
      have w2 : ∀ υ : sS, f_X12_where υ (nI k) 2 = some (nI (44 + 3 * k)) := fun υ => by
        have := m_where υ k 2
        rwa [show 42 + 3 * k + 2 = 44 + 3 * k by omega] at this
      cases hs : stt a k with
      | none =>
        rw [hs] at s95
        have hrd : rdA a (k + 1) = rdA a k := by
          show (match stt a k with | some i => aSet (aSet (rdA a k) 6 k (a.1 6 k - aPr a i)) 7 k (nI i) | none => rdA a k) = _
          rw [hs]
        refine ⟨(φ, nI (cN (rdP a) (k + 1)), nI (k + 1)), ⟨rfl, by rw [hrd]; exact b1', b2'⟩, ?_⟩
        rw [hcs]
        unfold rdP
        rw [hs]
        simp only [fb_X12_ride_9, sin_2_316, grd_true, tn_2, m2, if_pos hlt, grd_of hin, hcl, s95, if_pos (show rM none < 0 by decide), nI_1]
        rfl
      | some i =>
        rw [hs] at s95
        obtain ⟨hi, hle2⟩ := stt_ok hk hs
        have s95' : φ.1 95 k = nI i := s95
        have p93 : φ.1 93 i = aPr a i := by rw [b2' 93 (by omega)]; exact g2.2 i hi
        have hrd : rdA a (k + 1) = aSet (aSet (rdA a k) 6 k (a.1 6 k - aPr a i)) 7 k (nI i) := by
          show (match stt a k with | some i => aSet (aSet (rdA a k) 6 k (a.1 6 k - aPr a i)) 7 k (nI i) | none => rdA a k) = _
          rw [hs]
        have s95'' : (sI φ 84 (43 + 3 * k) (a.1 6 k - aPr a i)).1 95 k = nI i := by rw [sI_off _ _ _ _ (by omega)]; exact s95'
        have h9k : aN (rdA a k) ≤ 9 := hvk.1.1.2
        have h8k : aM (rdA a k) ≤ 8 := hvk.1.2.1.2
        refine ⟨(sI (sI φ 84 (43 + 3 * k) (a.1 6 k - aPr a i)) 84 (44 + 3 * k) (nI i + 1), nI (cN (rdP a) (k + 1)), nI (k + 1)), ⟨rfl, ?_, fun q q1 => ?_⟩, ?_⟩
        · show mK ((sI (sI φ 84 (43 + 3 * k) (a.1 6 k - aPr a i)) 84 (44 + 3 * k) (nI i + 1)).1 84) _
          rw [hrd, sI_row, sI_row]
          have t1 := m_ki (r := 6) (by omega) (by omega) (i := k) (by omega) (a.1 6 k - aPr a i) h9k h8k b1'
          have t2 := m_ki (r := 7) (by omega) (by omega) (i := k) (by omega) (nI i) (by rw [aSet_n _ _ (by omega)]; exact h9k) (by rw [aSet_m _ _ (by omega)]; exact h8k) t1
          have e7 : mrd 7 (nI i) = nI i + 1 := by
            have hne : ¬ nI i = -9 := fun e => by
              have e1 : (nI i).toInt = (-9 : Int32).toInt := congrArg Int32.toInt e
              rw [nI_toInt (by omega)] at e1
              exact absurd e1 (by have : (-9 : Int32).toInt = -9 := rfl; omega)
            unfold mrd rid
            rw [if_pos rfl, if_neg hne]
          have e6 : mrd 6 (a.1 6 k - aPr a i) = a.1 6 k - aPr a i := by
            unfold mrd
            rw [if_neg (by omega)]
          rw [e7, e6, show 42 + 3 * k + (6 - 5) = 43 + 3 * k by omega, show 42 + 3 * k + (7 - 5) = 44 + 3 * k by omega] at t2
          exact t2
        · show (sI (sI φ 84 _ _) 84 _ _).1 q = _
          rw [sI_off _ _ _ _ q1, sI_off _ _ _ _ q1]
          exact b2' q q1
        · rw [hcs]
          unfold rdP
          rw [hs]
          simp only [fb_X12_ride_9, sin_2_316, grd_true, tn_2, m2, if_pos hlt, grd_of hin, hcl, s95', if_neg (nI_pos (show i < 2 ^ 31 by omega)), w1, w2, bd_some, grd_of (sIn_nI (show 43 + 3 * k < 316 by omega) (show 316 < 2 ^ 31 by omega)), nI_clamp (show 43 + 3 * k < 2 ^ 31 by omega), grd_of (sIn_nI (show 44 + 3 * k < 316 by omega) (show 316 < 2 ^ 31 by omega)), nI_clamp (show 44 + 3 * k < 2 ^ 31 by omega), grd_of (sIn_nI (show i < 9 by omega) (show 9 < 2 ^ 31 by omega)), nI_clamp (show i < 2 ^ 31 by omega), co, p93, pt_eq, s95'', nI_1]
          rfl
    · rintro ⟨φ, y⟩ ⟨hy, b1, b2⟩ back
      have hy2 : y = (nI (cN (rdP a) (aM a)), nI (aM a)) := hy
      subst hy2
      have b1' : mK (φ.1 84) (rdA a (aM a)) := b1
      have hvk := rdA_v hv (aM a) (Nat.le_refl _)
      have m2 : φ.1 84 2 = nI (aM a) := by rw [b1'.1.2.2.2.1, hvk.1.2.1.1, (rdA_ns a (aM a)).2]
      exact ⟨φ, by simp only [fb_X12_ride_9, sin_2_316, grd_true, tn_2, m2, Int32.lt_irrefl, if_false], b1, b2⟩
  obtain ⟨φ, y1, y2, y3⟩ := hMd
  have hall : ∀ q j, ¬ scr q j → q ≠ 17 → q ≠ 18 → q ≠ 84 → φ.1 q j = σ.1 q j := fun q j hs h17 h18 h84 => by
    rw [y3 q h84, g3 q j hs, x3 q h17 h18, fψ q j hs]
  refine ⟨nI (cN (rdP a) (aM a)), χ, φ, ?_, ?_, ⟨rdA a (aM a), rdA_v hv _ (Nat.le_refl _), cK_of (fun q j g => ?_) x2, y2⟩, rKept_of (fun q j g => ?_) o1, rRest_of (fun q j g => ?_) oR⟩
  · simp only [f_X11_ride, e1, bd_some, r1]
    exact x1
  · show f_X12_ride χ = _
    simp only [f_X12_ride, g1, bd_some]
    exact y1
  · have := pCur_r g
    rw [y3 q (by omega), g3 q j (by unfold scr; omega)]
  · have := pKep_q g
    exact hall q j (by unfold scr; omega) (by omega) (by omega) (by omega)
  · unfold pRest at g
    have g2 : pTap q j = true ∨ pRow q j = true ∨ pShe q j = true ∨ pShf q j = true ∨ pTra q j = true := by simpa using g
    rcases g2 with g | g | g | g | g
    · have : q = 45 ∨ q = 50 ∨ q = 52 ∨ q = 97 ∨ (q = 83 ∧ j = 18) := by unfold pTap at g; simp at g; omega
      exact hall q j (by unfold scr; omega) (by omega) (by omega) (by omega)
    · have : q = 67 ∨ q = 68 ∨ q = 96 ∨ (q = 83 ∧ j = 16) := by unfold pRow at g; simp at g; omega
      exact hall q j (by unfold scr; omega) (by omega) (by omega) (by omega)
    · have := pShe_q g
      exact hall q j (by unfold scr; omega) (by omega) (by omega) (by omega)
    · have := pShf_q g
      exact hall q j (by unfold scr; omega) (by omega) (by omega) (by omega)
    · have : q = 81 ∨ q = 82 ∨ q = 104 ∨ (q = 83 ∧ j = 32) := by unfold pTra at g; simp at g; omega
      exact hall q j (by unfold scr; omega) (by omega) (by omega) (by omega)
