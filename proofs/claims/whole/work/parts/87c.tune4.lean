/-! the class's tuner: the first tuned row -/
def rC (a : aK) (f i r q : Nat) : Bool := AP a i r (i + 1) q && gO a f (aN a - 1 - (i + 1)) q
def rN (a : aK) (f i r : Nat) : Option Nat := fst (rC a f i r) (ac a (i + 1)) 0
def rW (a : aK) (f : Nat) : Nat → Nat
  | 0 => f
  | i + 1 => (match rN a f i (rW a f i) with | some q => q | none => 0)
theorem rW_lt {a : aK} (hv : vK a) {f : Nat} (hf : f < ac a 0) : ∀ {i : Nat}, i < aN a → rW a f i < ac a i
  | 0, _ => hf
  | i + 1, hi => by
    obtain ⟨_, h2, _⟩ := ac_nI hv hi
    show (match rN a f i (rW a f i) with | some q => q | none => 0) < ac a (i + 1)
    cases h : rN a f i (rW a f i) with
    | none => show 0 < _; omega
    | some q =>
      have := fst_some h
      show q < _
      omega
def okF (a : aK) (f : Nat) : Bool := (rN a f 0 f).isSome
/-- from a first phase that is all right, the row goes on to its end -/
theorem rW_go {a : aK} {f : Nat} (hok : okF a f = true) : ∀ {i : Nat}, i + 1 < aN a → ∃ q, rN a f i (rW a f i) = some q ∧ rW a f (i + 1) = q
  | 0, _ => by
    unfold okF at hok
    cases h : rN a f 0 f with
    | none => rw [h] at hok; cases hok
    | some q => exact ⟨q, h, by show (match rN a f 0 f with | some q => q | none => 0) = q; rw [h]⟩
  | i + 1, hi => by
    obtain ⟨q, h1, h2⟩ := rW_go hok (i := i) (by omega)
    have h3 := (fst_some h1).2.2.1
    unfold rC at h3
    rw [Bool.and_eq_true, show aN a - 1 - (i + 1) = (aN a - 1 - (i + 2)) + 1 by omega] at h3
    have h4 := h3.2
    have h5 : (!(alB (fun z => AP a (aN a - 2 - (aN a - 1 - (i + 2))) q (aN a - 1 - (aN a - 1 - (i + 2))) z && gO a f (aN a - 1 - (i + 2)) z) (ac a (aN a - 1 - (aN a - 1 - (i + 2)))))) = true := h4
    rw [show aN a - 2 - (aN a - 1 - (i + 2)) = i + 1 by omega, show aN a - 1 - (aN a - 1 - (i + 2)) = i + 2 by omega] at h5
    rw [h2]
    cases h : rN a f (i + 1) q with
    | some z => exact ⟨z, rfl, by show (match rN a f (i + 1) (rW a f (i + 1)) with | some q => q | none => 0) = z; rw [h2, h]⟩
    | none =>
      have h6 := fst_none h
      have : alB (fun z => AP a (i + 1) q (i + 2) z && gO a f (aN a - 1 - (i + 2)) z) (ac a (i + 2)) = true := alB_iff.mpr fun z hz => h6 z (by omega) (by show z < 0 + ac a (i + 2); omega)
      rw [this] at h5
      cases h5
/-- the first tuned row -/
def TR (a : aK) : Option (Nat → Nat) := if aN a < 2 then some (fun _ => 0) else (match fst (okF a) (ac a 0) 0 with | some f => some (rW a f) | none => none)
theorem x_least (σ : sS) (w : Int32) : f_X10_leastOf σ w = some (match fst (tb w) 12 0 with | some k => nI k | none => 0) := by
  unfold f_X10_leastOf fl_X10_leastOf_2
  have key : ∀ i, i < 12 → ∀ back, fb_X10_leastOf_2 σ back (w, nI i) = (if tb w i = true then some (nI i) else back (w, nI (i + 1))) := by
    intro i hi back
    have hlt : nI i < (12 : Int32) := (nn_lt (a := i) (b := 12) (by omega) (by omega)).mpr hi
    simp only [fb_X10_leastOf_2, if_pos hlt, tb_get w i (show i < 32 by omega), nI_1]
  have h := lp_find (body := fb_X10_leastOf_2 σ) (fun k => (w, nI k)) 12 (tb w) (fun j => some (nI j)) (some 0) (fun i hi hpi back => by rw [key i hi, if_neg (by rw [hpi]; decide)]) (fun i hi hpi back => by rw [key i hi, if_pos hpi]) (fun back => by simp only [fb_X10_leastOf_2, if_neg (show ¬ nI 12 < (12 : Int32) by decide)]) nF 0 (by omega) (nF_big (by omega))
  refine h.trans ?_
  rw [Nat.sub_zero]
  cases fst (tb w) 12 0 <;> rfl
theorem x_writeRow {σ : sS} {a : aK} (hv : vK a) (hE : cE σ a) (hS : SU σ a) (h2 : 2 ≤ aN a) {f : Nat} (hf : f < ac a 0) (hG : GN σ a f 1) : ∃ τ, f_X10_writeRow σ (nI f) = some τ ∧ (∀ q, q ≠ 56 → τ.1 q = σ.1 q) ∧ ∀ i, i < aN a → τ.1 56 i = nI (rW a f i) := by
  have h9 : aN a ≤ 9 := hv.1.1.2
  have n1 : σ.1 1 4 = nI (aN a) := hE.1.1.1.trans hv.1.1.1
  unfold f_X10_writeRow fl_X10_writeRow_9
  rw [sin_0_9, grd_true, pt_eq, tn_0]
  refine lp_inv (body := fb_X10_writeRow_9) (I := fun k p => p.2 = nI (k + 1) ∧ (∀ q, q ≠ 56 → p.1.1 q = σ.1 q) ∧ ∀ i, i < k + 1 → p.1.1 56 i = nI (rW a f i)) (e := aN a - 1) (P := fun r => ∃ τ, r = some τ ∧ (∀ q, q ≠ 56 → τ.1 q = σ.1 q) ∧ ∀ i, i < aN a → τ.1 56 i = nI (rW a f i)) ?_ ?_ nF 0 (sI σ 56 0 (nI f), 1) (by omega) (nF_big (by omega)) ⟨rfl, fun q hq => sI_off _ _ _ _ hq, fun i hi => by rw [show i = 0 by omega, sI_same]; rfl⟩
  · rintro k hk ⟨τ, y⟩ ⟨hy, a1, a2⟩ back
    have hy2 : y = nI (k + 1) := hy
    subst hy2
    have a1' : ∀ q, q ≠ 56 → τ.1 q = σ.1 q := a1
    have a2' : ∀ i, i < k + 1 → τ.1 56 i = nI (rW a f i) := a2
    have m1 : τ.1 1 4 = nI (aN a) := by rw [a1' 1 (by omega)]; exact n1
    have hlt : nI (k + 1) < nI (aN a) := (nn_lt (by omega) (by omega)).mpr (by omega)
    have hm1 : nI (k + 1) - 1 = nI k := nI_pred k
    have hr := rW_lt hv hf (show k < aN a by omega)
    obtain ⟨_, _, hc12⟩ := ac_nI hv (show k < aN a by omega)
    obtain ⟨_, hd2, hd12⟩ := ac_nI hv (show k + 1 < aN a by omega)
    have hnx : nx (aN a) k = k + 1 := by unfold nx; rw [if_pos (by omega)]
    have hsu : τ.1 61 (12 * k + rW a f k) = suP a k (rW a f k) := by rw [a1' 61 (by omega)]; exact hS k (by unfold aPa; split <;> omega) _ hr
    have hgo : τ.1 62 (k + 1) = oS (gO a f (aN a - 1 - (k + 1))) (ac a (k + 1)) := by rw [a1' 62 (by omega)]; exact hG (k + 1) (by omega) (by omega)
    have hl : (match fst (tb (suP a k (rW a f k) &&& oS (gO a f (aN a - 1 - (k + 1))) (ac a (k + 1)))) 12 0 with | some k => nI k | none => 0) = nI (rW a f (k + 1)) := by
      have htb : ∀ q, q < 12 → tb (suP a k (rW a f k) &&& oS (gO a f (aN a - 1 - (k + 1))) (ac a (k + 1))) q = (decide (q < ac a (k + 1)) && rC a f k (rW a f k) q) := fun q hq => by
        unfold suP rC
        rw [hnx, tb_and, tb_oS (by omega) (by omega), tb_oS (by omega) (by omega)]
        cases decide (q < ac a (k + 1)) <;> simp
      have hfe : fst (tb (suP a k (rW a f k) &&& oS (gO a f (aN a - 1 - (k + 1))) (ac a (k + 1)))) 12 0 = rN a f k (rW a f k) := by
        unfold rN
        cases hN : fst (rC a f k (rW a f k)) (ac a (k + 1)) 0 with
        | some z =>
          obtain ⟨z1, z2, z3, z4⟩ := fst_some hN
          exact fst_is (by omega) (by omega) (by rw [htb z (by omega), z3, decide_eq_true (by omega)]; rfl) (fun x x1 x2 => by rw [htb x (by omega), z4 x x1 x2, Bool.and_false])
        | none =>
          have z := fst_none hN
          refine fst_non fun x x1 x2 => ?_
          rw [htb x (by omega)]
          by_cases c : x < ac a (k + 1)
          · rw [z x x1 (by omega), Bool.and_false]
          · rw [decide_eq_false c, Bool.false_and]
      rw [hfe]
      show _ = nI (match rN a f k (rW a f k) with | some q => q | none => 0)
      cases rN a f k (rW a f k) <;> rfl
    refine ⟨(sI τ 56 (k + 1) (nI (rW a f (k + 1))), nI (k + 1 + 1)), ⟨rfl, fun q hq => ?_, fun i hi => ?_⟩, ?_⟩
    · show (sI τ 56 (k + 1) _).1 q = _
      rw [sI_off _ _ _ _ hq]
      exact a1' q hq
    · show (sI τ 56 (k + 1) _).1 56 i = _
      rw [sI_r, if_pos rfl]
      by_cases c : i = k + 1
      · rw [if_pos c, c]
      · rw [if_neg c]
        exact a2' i (by omega)
    · have ix : (nI k * 12) + nI (rW a f k) = nI (12 * k + rW a f k) := ix12 k (rW a f k)
      simp only [fb_X10_writeRow_9, m1, if_pos hlt, hm1, grd_of (sIn_nI (show k < 9 by omega) (show 9 < 2 ^ 31 by omega)), nI_clamp (show k < 2 ^ 31 by omega), a2' k (by omega), ix, grd_of (sIn_nI (show 12 * k + rW a f k < 108 by omega) (show 108 < 2 ^ 31 by omega)), nI_clamp (show 12 * k + rW a f k < 2 ^ 31 by omega), hsu, grd_of (sIn_nI (show k + 1 < 9 by omega) (show 9 < 2 ^ 31 by omega)), nI_clamp (show k + 1 < 2 ^ 31 by omega), hgo, x_least, hl, bd_some, pt_eq, nI_1]
  · rintro ⟨τ, y⟩ ⟨hy, a1, a2⟩ back
    have hy2 : y = nI (aN a - 1 + 1) := hy
    rw [show aN a - 1 + 1 = aN a by omega] at hy2
    subst hy2
    have a1' : ∀ q, q ≠ 56 → τ.1 q = σ.1 q := a1
    have a2' : ∀ i, i < aN a - 1 + 1 → τ.1 56 i = nI (rW a f i) := a2
    have m1 : τ.1 1 4 = nI (aN a) := by rw [a1' 1 (by omega)]; exact n1
    refine ⟨τ, ?_, a1, fun i hi => a2' i (by omega)⟩
    simp only [fb_X10_writeRow_9, m1, Int32.lt_irrefl, if_false]
def tuF (σ τ : sS) : Prop := ∀ q, (q < 56 ∨ 62 < q) → τ.1 q = σ.1 q
theorem x_findRow {σ : sS} {a : aK} (hv : vK a) (hE : cE σ a) : ∃ τ, f_X10_findRow σ = some (if (TR a).isSome = true then 1 else 0, τ) ∧ tuF σ τ ∧ ∀ r, TR a = some r → ∀ i, i < aN a → τ.1 56 i = nI (r i) := by
  have h9 : aN a ≤ 9 := hv.1.1.2
  have n1 : σ.1 1 4 = nI (aN a) := hE.1.1.1.trans hv.1.1.1
  have hp := aPa_le (aN a)
  -- the marks
  have A : ∃ τ1 : sS, f_X10_findRow σ = fj_X10_findRow_22 τ1 ∧ τ1.1 = σ.1 ∧ MK τ1 a := by
    unfold f_X10_findRow fl_X10_findRow_2
    refine lp_inv (body := fb_X10_findRow_2) (I := fun k p => p.2 = nI k ∧ p.1.1 = σ.1 ∧ ∀ i, i < k → ∀ p', p' < ac a i → HM (p.1.2 57 (12 * i + p')) (p.1.2 58 (12 * i + p')) a i p') (e := aN a) (P := fun r => ∃ τ1 : sS, r = fj_X10_findRow_22 τ1 ∧ τ1.1 = σ.1 ∧ MK τ1 a) ?_ ?_ nF 0 (σ, 0) (by omega) (nF_big (by omega)) ⟨rfl, rfl, fun _ h => absurd h (Nat.not_lt_zero _)⟩
    · rintro k hk ⟨τ, y⟩ ⟨hy, a1, a2⟩ back
      have hy2 : y = nI k := hy
      subst hy2
      have a1' : τ.1 = σ.1 := a1
      have a2' : ∀ i, i < k → ∀ p', p' < ac a i → HM (τ.2 57 (12 * i + p')) (τ.2 58 (12 * i + p')) a i p' := a2
      have hEτ : cE τ a := cE_same a1' hE
      have hlt : nI k < nI (aN a) := (nn_lt (by omega) (by omega)).mpr hk
      obtain ⟨υ, r1, r2, r3, r4⟩ := x_markHigh hv hEτ hk
      refine ⟨(υ, nI (k + 1)), ⟨rfl, r2.trans a1', fun i hi p' hp' => ?_⟩, ?_⟩
      · show HM (υ.2 57 (12 * i + p')) (υ.2 58 (12 * i + p')) a i p'
        by_cases c : i = k
        · subst c
          exact r3 p' hp'
        · obtain ⟨_, _, hc12⟩ := ac_nI hv (show i < aN a by omega)
          rw [(r4 (12 * i + p') (by omega)).1, (r4 (12 * i + p') (by omega)).2]
          exact a2' i (by omega) p' hp'
      · simp only [fb_X10_findRow_2, a1', n1, if_pos hlt, r1, bd_some, nI_1]
    · rintro ⟨τ, y⟩ ⟨hy, a1, a2⟩ back
      have hy2 : y = nI (aN a) := hy
      subst hy2
      have a1' : τ.1 = σ.1 := a1
      exact ⟨τ, by simp only [fb_X10_findRow_2, a1', n1, Int32.lt_irrefl, if_false], a1', a2⟩
  obtain ⟨τ1, eA, f1, f2⟩ := A
  have hE1 : cE τ1 a := cE_same f1 hE
  -- which suit
  have B : ∃ τ2 : sS, fj_X10_findRow_22 τ1 = fj_X10_findRow_44 τ2 ∧ (∀ q, q ≠ 61 → τ2.1 q = σ.1 q) ∧ SU τ2 a := by
    unfold fj_X10_findRow_22 fl_X10_findRow_24
    refine lp_inv (body := fb_X10_findRow_24) (I := fun k p => p.2 = nI k ∧ p.1.2 = τ1.2 ∧ (∀ q, q ≠ 61 → p.1.1 q = σ.1 q) ∧ ∀ i, i < k → ∀ p', p' < ac a i → p.1.1 61 (12 * i + p') = suP a i p') (e := aPa (aN a)) (P := fun r => ∃ τ2 : sS, r = fj_X10_findRow_44 τ2 ∧ (∀ q, q ≠ 61 → τ2.1 q = σ.1 q) ∧ SU τ2 a) ?_ ?_ nF 0 (τ1, 0) (by omega) (nF_big (by omega)) ⟨rfl, rfl, fun q _ => by rw [show (τ1, (0 : Int32)).1.1 = τ1.1 from rfl, f1], fun _ h => absurd h (Nat.not_lt_zero _)⟩
    · rintro k hk ⟨τ, y⟩ ⟨hy, a0, a1, a2⟩ back
      have hy2 : y = nI k := hy
      subst hy2
      have a0' : τ.2 = τ1.2 := a0
      have a1' : ∀ q, q ≠ 61 → τ.1 q = σ.1 q := a1
      have a2' : ∀ i, i < k → ∀ p', p' < ac a i → τ.1 61 (12 * i + p') = suP a i p' := a2
      have hEτ : cE τ a := cE_lo (fun q hq => a1' q (by omega)) hE
      have hMτ : MK τ a := fun i hi p' hp' => by rw [a0']; exact f2 i hi p' hp'
      have m1 : τ.1 1 4 = nI (aN a) := by rw [a1' 1 (by omega)]; exact n1
      have hlt : nI k < nI (aPa (aN a)) := (nn_lt (by omega) (by omega)).mpr hk
      obtain ⟨υ, r1, r2, r3, r4, r5⟩ := x_suit hv hEτ hMτ (show k < aN a by omega)
      refine ⟨(υ, nI (k + 1)), ⟨rfl, r2.trans a0', fun q hq => ?_, fun i hi p' hp' => ?_⟩, ?_⟩
      · show υ.1 q = _
        rw [r3 q hq]
        exact a1' q hq
      · show υ.1 61 (12 * i + p') = _
        by_cases c : i = k
        · subst c
          exact r4 p' hp'
        · obtain ⟨_, _, hc12⟩ := ac_nI hv (show i < aN a by omega)
          rw [r5 (12 * i + p') (by omega)]
          exact a2' i (by omega) p' hp'
      · simp only [fb_X10_findRow_24, x_pairs m1 h9, bd_some, if_pos hlt, r1, nI_1]
    · rintro ⟨τ, y⟩ ⟨hy, a0, a1, a2⟩ back
      have hy2 : y = nI (aPa (aN a)) := hy
      subst hy2
      have a1' : ∀ q, q ≠ 61 → τ.1 q = σ.1 q := a1
      have m1 : τ.1 1 4 = nI (aN a) := by rw [a1' 1 (by omega)]; exact n1
      exact ⟨τ, by simp only [fb_X10_findRow_24, x_pairs m1 h9, bd_some, Int32.lt_irrefl, if_false], a1', a2⟩
  obtain ⟨τ2, eB, g1, g2⟩ := B
  have hE2 : cE τ2 a := cE_lo (fun q hq => g1 q (by omega)) hE
  have m2 : τ2.1 1 4 = nI (aN a) := by rw [g1 1 (by omega)]; exact n1
  rw [eA, eB]
  unfold fj_X10_findRow_44
  have e2 : (nI (aN a) < 2) ↔ aN a < 2 := nn_lt (a := aN a) (b := 2) (by omega) (by omega)
  rw [m2]
  by_cases c2 : aN a < 2
  · rw [if_pos (e2.mpr c2), sin_0_9, grd_true, pt_eq, tn_0]
    have hT : TR a = some (fun _ => 0) := by unfold TR; rw [if_pos c2]
    refine ⟨sI τ2 56 0 0, by rw [hT]; rfl, fun q hq => ?_, fun r hr i hi => ?_⟩
    · rw [sI_off _ _ _ _ (by omega), g1 q (by omega)]
    · rw [hT] at hr
      injection hr with hr
      subst hr
      rw [show i = 0 by omega, sI_same]
      rfl
  · rw [if_neg (mt e2.mp c2)]
    obtain ⟨hc, hc2, hc12⟩ := ac_nI hv (show 0 < aN a by omega)
    have hT : TR a = (match fst (okF a) (ac a 0) 0 with | some f => some (rW a f) | none => none) := by unfold TR; rw [if_neg c2]
    unfold fl_X10_findRow_63
    refine lp_wf (body := fb_X10_findRow_63) (I := fun p => ∃ k, k ≤ ac a 0 ∧ p.2 = nI k ∧ (∀ q, q ≠ 62 → p.1.1 q = τ2.1 q) ∧ ∀ x, x < k → okF a x = false) (m := fun p => 12 - p.2.toNatClampNeg) (P := fun X => ∃ τ, X = some (if (TR a).isSome = true then 1 else 0, τ) ∧ tuF σ τ ∧ ∀ r, TR a = some r → ∀ i, i < aN a → τ.1 56 i = nI (r i)) ?_ nF (τ2, 0) (nF_big (by show 12 - _ < 4000; omega)) ⟨0, by omega, rfl, fun _ _ => rfl, fun _ h => absurd h (Nat.not_lt_zero _)⟩
    rintro ⟨τ, y⟩ ⟨k, hk, hy, a1, hno⟩
    have hy2 : y = nI k := hy
    subst hy2
    have a1' : ∀ q, q ≠ 62 → τ.1 q = τ2.1 q := a1
    have hEτ : cE τ a := cE_lo (fun q hq => a1' q (by omega)) hE2
    have hSτ : SU τ a := fun i hi p' hp' => by rw [a1' 61 (by omega)]; exact g2 i hi p' hp'
    have ec : τ.1 3 0 = nI (ac a 0) := by rw [(hEτ.1.2.1 0 (by omega)).2.1, hc]
    by_cases ck : k < ac a 0
    · have hlt : nI k < nI (ac a 0) := (nn_lt (by omega) (by omega)).mpr ck
      obtain ⟨υ, r1, r2, r3⟩ := x_goesOn hv hEτ hSτ (by omega) ck
      have hu61 : υ.1 61 k = suP a 0 k := by
        rw [r2 61 (by omega)]
        have := hSτ 0 (by unfold aPa; split <;> omega) k ck
        rwa [show 12 * 0 + k = k by omega] at this
      have hu62 : υ.1 62 1 = oS (gO a k (aN a - 1 - 1)) (ac a 1) := r3 1 (by omega) (by omega)
      obtain ⟨_, _, hd12⟩ := ac_nI hv (show 1 < aN a by omega)
      have hz : (suP a 0 k &&& oS (gO a k (aN a - 1 - 1)) (ac a 1) = 0) ↔ okF a k = false := by
        have hnx : nx (aN a) 0 = 1 := by unfold nx; rw [if_pos (by omega)]
        unfold suP
        rw [hnx, oS_and (by omega)]
        show alB (rC a k 0 k) (ac a 1) = true ↔ (fst (rC a k 0 k) (ac a (0 + 1)) 0).isSome = false
        rw [← fst_alB]
        cases fst (rC a k 0 k) (ac a 1) 0 <;> simp
      have hb : ∀ back, fb_X10_findRow_63 back (τ, nI k) = (if okF a k = false then back (υ, nI (k + 1)) else fj_X10_findRow_95 υ (nI k)) := fun back => by
        simp only [fb_X10_findRow_63, sin_0_9, grd_true, tn_0, ec, if_pos hlt, r1, bd_some, grd_of (sIn_nI (show k < 108 by omega) (show 108 < 2 ^ 31 by omega)), sin_1_9, tn_1, nI_clamp (show k < 2 ^ 31 by omega), hu61, hu62, hz, nI_1]
      cases hok : okF a k with
      | false =>
        left
        refine ⟨(υ, nI (k + 1)), ⟨k + 1, by omega, rfl, fun q hq => ?_, fun x hx => ?_⟩, ?_, fun back => by rw [hb, if_pos hok]⟩
        · show υ.1 q = _
          rw [r2 q hq]
          exact a1' q hq
        · by_cases e : x = k
          · rw [e]; exact hok
          · exact hno x (by omega)
        · show 12 - (nI (k + 1)).toNatClampNeg < 12 - (nI k).toNatClampNeg
          rw [nI_clamp (by omega), nI_clamp (by omega)]
          omega
      | true =>
        right
        have hEυ : cE υ a := cE_lo (fun q hq => r2 q (by omega)) hEτ
        have hSυ : SU υ a := fun i hi p' hp' => by rw [r2 61 (by omega)]; exact hSτ i hi p' hp'
        obtain ⟨ψ, w1, w2, w3⟩ := x_writeRow hv hEυ hSυ (by omega) ck r3
        have hfs : fst (okF a) (ac a 0) 0 = some k := fst_is (by omega) (by omega) hok (fun x _ hx => hno x hx)
        rw [hfs] at hT
        have hT' : TR a = some (rW a k) := hT
        refine ⟨some (1, ψ), ⟨ψ, by rw [hT']; rfl, fun q hq => ?_, fun r hr i hi => ?_⟩, fun back => ?_⟩
        · rw [w2 q (by omega), r2 q (by omega), a1' q (by omega), g1 q (by omega)]
        · rw [hT'] at hr
          injection hr with hr
          subst hr
          exact w3 i hi
        · rw [hb, if_neg (by rw [hok]; decide)]
          unfold fj_X10_findRow_95
          rw [w1, bd_some]
    · right
      have ek : k = ac a 0 := by omega
      subst ek
      have hfs : fst (okF a) (ac a 0) 0 = none := fst_non fun x _ hx => hno x (by omega)
      rw [hfs] at hT
      have hT' : TR a = none := hT
      refine ⟨some (0, τ), ⟨τ, by rw [hT']; rfl, fun q hq => by rw [a1' q (by omega), g1 q (by omega)], fun r hr => by rw [hT'] at hr; cases hr⟩, fun back => ?_⟩
      simp only [fb_X10_findRow_63, sin_0_9, grd_true, tn_0, ec, Int32.lt_irrefl, if_false]
