/-! the class's marks: in which turns high -/
def HM (x y : Int64) (a : aK) (i p : Nat) : Prop := (∀ b, b < 64 → tL x b = hp a i p b) ∧ ∀ b, b < 64 → tL y b = (decide (b < 36) && hp a i p (64 + b))
/-- apart: never high together -/
def AP (a : aK) (i p k q : Nat) : Bool := alB (fun t => hp a i p t && hp a k q t) 100
theorem HM_apart {x y x' y' : Int64} {a : aK} {i p k q : Nat} (h : HM x y a i p) (h' : HM x' y' a k q) : (x &&& x' = 0 ∧ y &&& y' = 0) ↔ AP a i p k q = true := by
  unfold AP
  rw [tL_z, tL_z, alB_iff]
  constructor
  · rintro ⟨h1, h2⟩ t ht
    by_cases c : t < 64
    · have := h1 t c
      rw [tL_and, h.1 t c, h'.1 t c] at this
      exact this
    · have := h2 (t - 64) (by omega)
      rw [tL_and, h.2 _ (by omega), h'.2 _ (by omega), decide_eq_true (show t - 64 < 36 by omega), Bool.true_and, Bool.true_and, show 64 + (t - 64) = t by omega] at this
      exact this
  · intro hh
    refine ⟨fun b hb => ?_, fun b hb => ?_⟩
    · rw [tL_and, h.1 b hb, h'.1 b hb]
      exact hh b (by omega)
    · rw [tL_and, h.2 b hb, h'.2 b hb]
      by_cases c : b < 36
      · rw [decide_eq_true c, Bool.true_and, Bool.true_and]
        exact hh (64 + b) (by omega)
      · rw [decide_eq_false c, Bool.false_and, Bool.false_and]
theorem ix12 (i p : Nat) : (nI i * 12) + nI p = nI (12 * i + p) := by rw [show (12 : Int32) = nI 12 from rfl, pk_mul, nI_add, Nat.mul_comm]
theorem hp_gn {a : aK} (hv : vK a) {i : Nat} (hi : i < aN a) {p : Nat} (hp12 : p < 12) {t : Nat} (ht : t < 200) : hp a i p t = !decide (aHt a i (irm (nI p + nI (gn a i t)) (a.1 2 i)) < a.1 0 1) := by
  unfold hp
  rw [(gn_spec hv hi ht).2.2 p hp12]
theorem x_markHigh {σ : sS} {a : aK} (hv : vK a) (hE : cE σ a) {i : Nat} (hi : i < aN a) : ∃ τ, f_X10_markHighTurns σ (nI i) = some τ ∧ τ.1 = σ.1 ∧ (∀ p, p < ac a i → HM (τ.2 57 (12 * i + p)) (τ.2 58 (12 * i + p)) a i p) ∧ ∀ e, ¬ (12 * i ≤ e ∧ e < 12 * i + 12) → τ.2 57 e = σ.2 57 e ∧ τ.2 58 e = σ.2 58 e := by
  have h9 : aN a ≤ 9 := hv.1.1.2
  obtain ⟨hc, hc2, hc12⟩ := ac_nI hv hi
  obtain ⟨τ1, e1, f1, f2, f3⟩ := x_sort hv hE hi
  have hin := sIn_nI (show i < 9 by omega) (show 9 < 2 ^ 31 by omega)
  have hcl := nI_clamp (show i < 2 ^ 31 by omega)
  unfold f_X10_markHighTurns fl_X10_markHighTurns_8
  rw [e1, bd_some]
  refine lp_inv (body := fb_X10_markHighTurns_8) (I := fun k p => p.2 = (nI i, nI k) ∧ p.1.1 = σ.1 ∧ (∀ q, q ≠ 57 → q ≠ 58 → p.1.2 q = τ1.2 q) ∧ (∀ x, x < k → HM (p.1.2 57 (12 * i + x)) (p.1.2 58 (12 * i + x)) a i x) ∧ ∀ e, ¬ (12 * i ≤ e ∧ e < 12 * i + 12) → p.1.2 57 e = σ.2 57 e ∧ p.1.2 58 e = σ.2 58 e) (e := ac a i) (P := fun r => ∃ τ, r = some τ ∧ τ.1 = σ.1 ∧ (∀ p, p < ac a i → HM (τ.2 57 (12 * i + p)) (τ.2 58 (12 * i + p)) a i p) ∧ ∀ e, ¬ (12 * i ≤ e ∧ e < 12 * i + 12) → τ.2 57 e = σ.2 57 e ∧ τ.2 58 e = σ.2 58 e) ?_ ?_ nF 0 (τ1, nI i, 0) (by omega) (nF_big (by omega)) ⟨rfl, f1, fun _ _ _ => rfl, fun _ h => absurd h (Nat.not_lt_zero _), fun e _ => ⟨by show τ1.2 57 e = _; rw [f2 57 (by omega) (by omega)], by show τ1.2 58 e = _; rw [f2 58 (by omega) (by omega)]⟩⟩
  · rintro k hk ⟨τ, y⟩ ⟨hy, a1, a2, a3, a4⟩ back
    have hy2 : y = (nI i, nI k) := hy
    subst hy2
    have a1' : τ.1 = σ.1 := a1
    have a2' : ∀ q, q ≠ 57 → q ≠ 58 → τ.2 q = τ1.2 q := a2
    have a3' : ∀ x, x < k → HM (τ.2 57 (12 * i + x)) (τ.2 58 (12 * i + x)) a i x := a3
    have a4' : ∀ e, ¬ (12 * i ≤ e ∧ e < 12 * i + 12) → τ.2 57 e = σ.2 57 e ∧ τ.2 58 e = σ.2 58 e := a4
    have hEτ : cE τ a := cE_same a1' hE
    have ec : τ.1 3 i = nI (ac a i) := by rw [(hEτ.1.2.1 i hi).2.1, hc]
    have hlt : nI k < nI (ac a i) := (nn_lt (by omega) (by omega)).mpr hk
    have i108 := sIn_nI (show 12 * i + k < 108 by omega) (show 108 < 2 ^ 31 by omega)
    have c108 := nI_clamp (show 12 * i + k < 2 ^ 31 by omega)
    obtain ⟨E, hEe⟩ : ∃ E, E = 12 * i + k := ⟨_, rfl⟩
    rw [← hEe] at i108 c108
    -- the inner loop
    have inner : ∃ υ : sS, fl_X10_markHighTurns_45 back (sJ (sJ τ 57 E 0) 58 E 0, nI i, nI k, nI E, 0) = back (υ, nI i, nI (k + 1)) ∧ υ.1 = σ.1 ∧ (∀ q, q ≠ 57 → q ≠ 58 → υ.2 q = τ.2 q) ∧ (∀ e, e ≠ E → υ.2 57 e = τ.2 57 e ∧ υ.2 58 e = τ.2 58 e) ∧ HM (υ.2 57 E) (υ.2 58 E) a i k := by
      unfold fl_X10_markHighTurns_45
      refine lp_inv (body := fb_X10_markHighTurns_45 back) (I := fun g p => p.2 = (nI i, nI k, nI E, nI g) ∧ p.1.1 = σ.1 ∧ (∀ q, q ≠ 57 → q ≠ 58 → p.1.2 q = τ.2 q) ∧ (∀ e, e ≠ E → p.1.2 57 e = τ.2 57 e ∧ p.1.2 58 e = τ.2 58 e) ∧ ∀ b, b < 64 → tL (p.1.2 57 E) b = (decide (gn a i b < g) && hp a i k b) ∧ tL (p.1.2 58 E) b = (decide (b < 36) && (decide (gn a i (64 + b) < g) && hp a i k (64 + b)))) (e := ac a i) (P := fun r => ∃ υ : sS, r = back (υ, nI i, nI (k + 1)) ∧ υ.1 = σ.1 ∧ (∀ q, q ≠ 57 → q ≠ 58 → υ.2 q = τ.2 q) ∧ (∀ e, e ≠ E → υ.2 57 e = τ.2 57 e ∧ υ.2 58 e = τ.2 58 e) ∧ HM (υ.2 57 E) (υ.2 58 E) a i k) ?_ ?_ nF 0 (sJ (sJ τ 57 E 0) 58 E 0, nI i, nI k, nI E, 0) (by omega) (nF_big (by omega)) ⟨rfl, a1', fun q q1 q2 => by rw [sJ_off _ _ _ _ q2, sJ_off _ _ _ _ q1], fun e he => ⟨by rw [sJ_off _ _ _ _ (by omega), sJ_r, if_pos rfl, if_neg he], by rw [sJ_r, if_pos rfl, if_neg he, sJ_off _ _ _ _ (by omega)]⟩, fun b hb => ⟨by rw [sJ_off _ _ _ _ (by omega), sJ_same, tL_0]; simp, by rw [sJ_same, tL_0]; simp⟩⟩
      · rintro g hg ⟨ψ, z⟩ ⟨hz, b1, b2, b3, b4⟩ bk
        have hz2 : z = (nI i, nI k, nI E, nI g) := hz
        subst hz2
        have b1' : ψ.1 = σ.1 := b1
        have b2' : ∀ q, q ≠ 57 → q ≠ 58 → ψ.2 q = τ.2 q := b2
        have b3' : ∀ e, e ≠ E → ψ.2 57 e = τ.2 57 e ∧ ψ.2 58 e = τ.2 58 e := b3
        have b4' : ∀ b, b < 64 → tL (ψ.2 57 E) b = (decide (gn a i b < g) && hp a i k b) ∧ tL (ψ.2 58 E) b = (decide (b < 36) && (decide (gn a i (64 + b) < g) && hp a i k (64 + b))) := b4
        have hEψ : cE ψ a := cE_same b1' hE
        have ecψ : ψ.1 3 i = nI (ac a i) := by rw [(hEψ.1.2.1 i hi).2.1, hc]
        have lv : ψ.1 1 5 = a.1 0 1 := hEψ.1.1.2.1
        have hltg : nI g < nI (ac a i) := (nn_lt (by omega) (by omega)).mpr hg
        have cne : ¬ nI (ac a i) = 0 := nI_ne0 (by omega) (by omega)
        have i12 := sIn_nI (show g < 12 by omega) (show 12 < 2 ^ 31 by omega)
        have c12 := nI_clamp (show g < 2 ^ 31 by omega)
        have hval : ∀ b, b < 64 → tL (ψ.2 59 g) b = decide (gn a i b = g) ∧ tL (ψ.2 60 g) b = (decide (b < 36) && decide (gn a i (64 + b) = g)) := fun b hb => by
          rw [b2' 59 (by omega) (by omega), b2' 60 (by omega) (by omega), a2' 59 (by omega) (by omega), a2' 60 (by omega) (by omega)]
          exact f3 g (by omega) b hb
        have hsplit : ∀ n : Nat, (decide (n < g + 1)) = (decide (n < g) || decide (n = g)) := fun n => by
          by_cases e : n = g
          · subst e; simp
          · by_cases h : n < g
            · rw [decide_eq_true h, decide_eq_true (by omega), Bool.true_or]
            · rw [decide_eq_false h, decide_eq_false (by omega), decide_eq_false e, Bool.or_false]
        by_cases c : aHt a i (irm (nI k + nI g) (a.1 2 i)) < a.1 0 1
        · refine ⟨(ψ, nI i, nI k, nI E, nI (g + 1)), ⟨rfl, b1', b2', b3', fun b hb => ?_⟩, ?_⟩
          · have no : ∀ t, t < 200 → gn a i t = g → hp a i k t = false := fun t ht e => by
              rw [hp_gn hv hi (by omega) ht, e, decide_eq_true c]
              rfl
            show tL (ψ.2 57 E) b = _ ∧ tL (ψ.2 58 E) b = _
            rw [(b4' b hb).1, (b4' b hb).2, hsplit, hsplit]
            constructor
            · by_cases e : gn a i b = g
              · rw [no b (by omega) e]; simp
              · rw [decide_eq_false e, Bool.or_false]
            · by_cases e : gn a i (64 + b) = g
              · rw [no (64 + b) (by omega) e]; simp
              · rw [decide_eq_false e, Bool.or_false]
          · rw [hc] at c
            simp only [fb_X10_markHighTurns_45, grd_of hin, hcl, ecψ, if_pos hltg, x_rem _ cne, bd_some, x_ht hv hEψ.1 hi, lv, if_pos c, nI_1]
        · have yes : ∀ t, t < 200 → gn a i t = g → hp a i k t = true := fun t ht e => by
            rw [hp_gn hv hi (by omega) ht, e, decide_eq_false c]
            rfl
          refine ⟨(sJ (sJ ψ 57 E (ψ.2 57 E ||| ψ.2 59 g)) 58 E (ψ.2 58 E ||| ψ.2 60 g), nI i, nI k, nI E, nI (g + 1)), ⟨rfl, b1', fun q q1 q2 => ?_, fun e he => ⟨?_, ?_⟩, fun b hb => ⟨?_, ?_⟩⟩, ?_⟩
          · show (sJ (sJ ψ 57 E _) 58 E _).2 q = _
            rw [sJ_off _ _ _ _ q2, sJ_off _ _ _ _ q1]
            exact b2' q q1 q2
          · show (sJ (sJ ψ 57 E _) 58 E _).2 57 e = _
            rw [sJ_off _ _ _ _ (by omega), sJ_r, if_pos rfl, if_neg he]
            exact (b3' e he).1
          · show (sJ (sJ ψ 57 E _) 58 E _).2 58 e = _
            rw [sJ_r, if_pos rfl, if_neg he, sJ_off _ _ _ _ (by omega)]
            exact (b3' e he).2
          · show tL ((sJ (sJ ψ 57 E _) 58 E _).2 57 E) b = _
            rw [sJ_off _ _ _ _ (by omega), sJ_same, tL_or, (b4' b hb).1, (hval b hb).1, hsplit]
            by_cases e : gn a i b = g
            · rw [yes b (by omega) e]; simp
            · rw [decide_eq_false e, Bool.or_false, Bool.or_false]
          · show tL ((sJ (sJ ψ 57 E _) 58 E _).2 58 E) b = _
            rw [sJ_same, tL_or, (b4' b hb).2, (hval b hb).2, hsplit]
            by_cases e : gn a i (64 + b) = g
            · rw [yes (64 + b) (by omega) e]
              cases decide (b < 36) <;> simp
            · rw [decide_eq_false e, Bool.or_false, Bool.and_false, Bool.or_false]
          · rw [hc] at c
            have o58 : (sJ ψ 57 E (ψ.2 57 E ||| ψ.2 59 g)).2 58 = ψ.2 58 := sJ_off _ _ _ _ (by omega)
            have o60 : (sJ ψ 57 E (ψ.2 57 E ||| ψ.2 59 g)).2 60 = ψ.2 60 := sJ_off _ _ _ _ (by omega)
            simp only [fb_X10_markHighTurns_45, grd_of hin, hcl, ecψ, if_pos hltg, x_rem _ cne, bd_some, x_ht hv hEψ.1 hi, lv, if_neg c, grd_of i108, c108, grd_of i12, c12, pt_eq, o58, o60, nI_1]
      · rintro ⟨ψ, z⟩ ⟨hz, b1, b2, b3, b4⟩ bk
        have hz2 : z = (nI i, nI k, nI E, nI (ac a i)) := hz
        subst hz2
        have b1' : ψ.1 = σ.1 := b1
        have b4' : ∀ b, b < 64 → tL (ψ.2 57 E) b = (decide (gn a i b < ac a i) && hp a i k b) ∧ tL (ψ.2 58 E) b = (decide (b < 36) && (decide (gn a i (64 + b) < ac a i) && hp a i k (64 + b))) := b4
        have hEψ : cE ψ a := cE_same b1' hE
        have ecψ : ψ.1 3 i = nI (ac a i) := by rw [(hEψ.1.2.1 i hi).2.1, hc]
        refine ⟨ψ, ?_, b1', b2, b3, fun b hb => ?_, fun b hb => ?_⟩
        · simp only [fb_X10_markHighTurns_45, grd_of hin, hcl, ecψ, Int32.lt_irrefl, if_false, nI_1]
        · rw [(b4' b hb).1, decide_eq_true (gn_spec hv hi (show b < 200 by omega)).2.1, Bool.true_and]
        · rw [(b4' b hb).2, decide_eq_true (gn_spec hv hi (show 64 + b < 200 by omega)).2.1, Bool.true_and]
    obtain ⟨υ, r1, r2, r3, r4, r5⟩ := inner
    refine ⟨(υ, nI i, nI (k + 1)), ⟨rfl, r2, fun q q1 q2 => ?_, fun x hx => ?_, fun e he => ?_⟩, ?_⟩
    · show υ.2 q = _
      rw [r3 q q1 q2]
      exact a2' q q1 q2
    · show HM (υ.2 57 (12 * i + x)) (υ.2 58 (12 * i + x)) a i x
      by_cases ex : x = k
      · rw [ex, ← hEe]
        exact r5
      · rw [(r4 (12 * i + x) (by omega)).1, (r4 (12 * i + x) (by omega)).2]
        exact a3' x (by omega)
    · show υ.2 57 e = _ ∧ υ.2 58 e = _
      rw [(r4 e (by omega)).1, (r4 e (by omega)).2]
      exact a4' e he
    · simp only [fb_X10_markHighTurns_8, grd_of hin, hcl, ec, if_pos hlt, ix12, ← hEe, pt_eq, grd_of i108, c108]
      exact r1
  · rintro ⟨τ, y⟩ ⟨hy, a1, a2, a3, a4⟩ back
    have hy2 : y = (nI i, nI (ac a i)) := hy
    subst hy2
    have a1' : τ.1 = σ.1 := a1
    have hEτ : cE τ a := cE_same a1' hE
    have ec : τ.1 3 i = nI (ac a i) := by rw [(hEτ.1.2.1 i hi).2.1, hc]
    refine ⟨τ, ?_, a1', a3, a4⟩
    simp only [fb_X10_markHighTurns_8, grd_of hin, hcl, ec, Int32.lt_irrefl, if_false]
