/-! THE RULES: taken over, or not -/
theorem m_cpy {q0 q1 : Nat} (hq : q0 ≠ q1) {body : (sS × Int32 → Option sS) → sS × Int32 → Option sS} (hb : ∀ back τ x, body back (τ, x) = (if x < 316 then grd (sIn x 316) (grd (sIn x 316) (pt (sI τ q1 x.toNatClampNeg (τ.1 q0 x.toNatClampNeg)) fun σ4 => back (σ4, (x + 1)))) else some τ)) (σ : sS) : ∃ τ, lp body nF (σ, 0) = some τ ∧ (∀ q, q ≠ q1 → τ.1 q = σ.1 q) ∧ ∀ j, j < 316 → τ.1 q1 j = σ.1 q0 j := by
  refine lp_inv (body := body) (I := fun i p => p.2 = nI i ∧ (∀ q, q ≠ q1 → p.1.1 q = σ.1 q) ∧ ∀ j, j < i → p.1.1 q1 j = σ.1 q0 j) (e := 316) (P := fun r => ∃ τ, r = some τ ∧ (∀ q, q ≠ q1 → τ.1 q = σ.1 q) ∧ ∀ j, j < 316 → τ.1 q1 j = σ.1 q0 j) ?_ ?_ nF 0 (σ, 0) (by omega) (nF_big (by omega)) ⟨rfl, fun _ _ => rfl, fun _ h => absurd h (Nat.not_lt_zero _)⟩
  · rintro i hi ⟨τ, x⟩ ⟨hx, h1, h2⟩ back
    have hx2 : x = nI i := hx
    have hlt : nI i < 316 := by
      have : (nI i < 316) ↔ i < 316 := nn_lt (a := i) (b := 316) (by omega) (by omega)
      exact this.mpr hi
    refine ⟨(sI τ q1 i (τ.1 q0 i), nI (i + 1)), ⟨rfl, fun q hq2 => ?_, fun j hj => ?_⟩, ?_⟩
    · show (sI τ q1 i (τ.1 q0 i)).1 q = _
      rw [sI_off _ _ _ _ hq2]
      exact h1 q hq2
    · show (sI τ q1 i (τ.1 q0 i)).1 q1 j = _
      rw [sI_r, if_pos rfl]
      by_cases e : j = i
      · rw [if_pos e, e]
        exact congrFun (h1 q0 hq) i
      · rw [if_neg e]
        exact h2 j (by omega)
    · rw [hb, hx2, if_pos hlt, grd_of (sIn_nI hi (by omega)), grd_of (sIn_nI hi (by omega)), pt_eq, nI_clamp (by omega), nI_1]
  · rintro ⟨τ, x⟩ ⟨hx, h1, h2⟩ back
    have hx2 : x = nI 316 := hx
    refine ⟨τ, ?_, h1, h2⟩
    rw [hb, hx2, if_neg (by decide)]
theorem x_copyA (σ : sS) : ∃ τ, f_X5_copyFrom_a σ = some τ ∧ (∀ q, q < 6 ∨ 11 < q → τ.1 q = σ.1 q) ∧ τ.1 6 5 = σ.1 46 5 ∧ (∀ j, j < 8 → τ.1 7 j = σ.1 47 j) ∧ (∀ j, j < 8 → τ.1 8 j = σ.1 48 j) ∧ (∀ j, j < 8 → τ.1 9 j = σ.1 49 j) ∧ (∀ j, j < 9 → τ.1 10 j = σ.1 50 j) ∧ (∀ j, j < 100 → τ.1 11 j = σ.1 51 j) := by
  obtain ⟨τ0, h0⟩ : ∃ τ0, τ0 = sCp (sCp (sCp (sCp (sCp σ 47 7 8) 48 8 8) 49 9 8) 50 10 9) 51 11 100 := ⟨_, rfl⟩
  have e46 : τ0.1 46 5 = σ.1 46 5 := by rw [h0]; simp [sCp_r]
  refine ⟨sI τ0 6 5 (σ.1 46 5), ?_, fun q hq => ?_, sI_same _ _ _ _, fun j hj => ?_, fun j hj => ?_, fun j hj => ?_, fun j hj => ?_, fun j hj => ?_⟩
  · unfold f_X5_copyFrom_a
    simp only [pt_eq, ← h0, e46]
  · rw [sI_off _ _ _ _ (by omega), h0, sCp_off _ _ _ _ (by omega), sCp_off _ _ _ _ (by omega), sCp_off _ _ _ _ (by omega), sCp_off _ _ _ _ (by omega), sCp_off _ _ _ _ (by omega)]
  · rw [sI_off _ _ _ _ (by omega), h0]; simp [sCp_r, hj]
  · rw [sI_off _ _ _ _ (by omega), h0]; simp [sCp_r, hj]
  · rw [sI_off _ _ _ _ (by omega), h0]; simp [sCp_r, hj]
  · rw [sI_off _ _ _ _ (by omega), h0]; simp [sCp_r, hj]
  · rw [sI_off _ _ _ _ (by omega), h0]; simp [sCp_r, hj]
/-- the model, up to its loop -/
theorem m_pre {b : Nat → Int32} {L : Nat} {υ0 : sS} (hM : MT υ0 b L) (hL : L ≤ 200) : ∃ υ, f_X12_rules υ0 = fl_X12_rules_35 υ ∧ υ.1 84 1 = 0 ∧ MS b L υ υ 0 0 0 ∧ (∀ j, j < 316 → υ.1 86 j = υ0.1 84 j) ∧ ∀ q j, q ≠ 86 → ¬ (q = 84 ∧ j = 1) → ¬ (q = 83 ∧ 19 ≤ j ∧ j ≤ 24) → υ.1 q j = υ0.1 q j := by
  obtain ⟨τ, e1, e2, e3⟩ := m_cpy (q0 := 84) (q1 := 86) (by omega) (body := fb_X12_puts_2) (fun _ _ _ => rfl) υ0
  obtain ⟨τ1, h1⟩ : ∃ τ1, τ1 = sI (sI (sI (sI (sI τ 84 1 0) 83 23 0) 83 22 0) 83 20 0) 83 24 0 := ⟨_, rfl⟩
  have f1 : ∀ q j, ¬ (q = 84 ∧ j = 1) → ¬ (q = 83 ∧ 19 ≤ j ∧ j ≤ 24) → τ1.1 q j = τ.1 q j := fun q j a1 a2 => by
    by_cases e : q = 83
    · subst e
      rw [h1, sI_r, if_pos rfl, if_neg (by omega), sI_r, if_pos rfl, if_neg (by omega), sI_r, if_pos rfl, if_neg (by omega), sI_r, if_pos rfl, if_neg (by omega), sI_off _ _ _ _ (by omega)]
    · rw [h1, sI_off _ _ _ _ e, sI_off _ _ _ _ e, sI_off _ _ _ _ e, sI_off _ _ _ _ e, sI_r]
      by_cases e4 : q = 84
      · rw [if_pos e4, if_neg (fun e5 => a1 ⟨e4, e5⟩), e4]
      · rw [if_neg e4]
  have hM1 : MT τ1 b L := ⟨by rw [f1 83 18 (by omega) (by omega), e2 83 (by omega)]; exact hM.1, fun k hk => by rw [f1 97 k (by omega) (by omega), e2 97 (by omega)]; exact hM.2 k hk⟩
  obtain ⟨υ, t1, t2, t3, t4⟩ := m_token hM1 hL (Nat.zero_le L) (show τ1.1 83 20 = nI 0 by rw [h1, sI_r, if_pos rfl, if_neg (by omega), sI_same]; rfl)
  have ft : ∀ q j, ¬ (q = 84 ∧ j = 1) → ¬ (q = 83 ∧ 19 ≤ j ∧ j ≤ 24) → υ.1 q j = τ.1 q j := fun q j a1 a2 => by rw [t4 q j (by omega), f1 q j a1 a2]
  refine ⟨υ, ?_, ?_, ⟨t2, t3, ?_, ?_, ?_, fun _ _ _ _ => rfl⟩, fun j hj => ?_, fun q j a0 a1 a2 => ?_⟩
  · have g1 : sIn 1 316 = true := sIn_nI (show 1 < 316 by omega) (by omega)
    have n1 : (1 : Int32).toNatClampNeg = 1 := rfl
    unfold f_X12_rules f_X12_puts fl_X12_puts_2
    rw [e1, bd_some, grd_of g1, n1]
    simp only [pt_eq]
    rw [grd_of (by rfl), ← h1, t1, bd_some]
  · rw [t4 84 1 (by omega), h1, sI_off _ _ _ _ (by omega), sI_off _ _ _ _ (by omega), sI_off _ _ _ _ (by omega), sI_off _ _ _ _ (by omega), sI_same]
  · rw [t4 83 24 (by omega), h1, sI_same]
  · rw [t4 83 23 (by omega), h1, sI_r, if_pos rfl, if_neg (by omega), sI_r, if_pos rfl, if_neg (by omega), sI_r, if_pos rfl, if_neg (by omega), sI_same]; rfl
  · rw [t4 83 22 (by omega), h1, sI_r, if_pos rfl, if_neg (by omega), sI_r, if_pos rfl, if_neg (by omega), sI_same]; rfl
  · rw [ft 86 j (by omega) (by omega)]
    exact e3 j hj
  · rw [ft q j a1 a2, e2 q a0]
/-- the class, up to its loop -/
theorem x_pre {σ : sS} {L : Nat} (h45 : σ.1 45 1 = nI L) (hL : L ≤ 200) (hb : ∀ k, k < L → bt (σ.1 52 k) 0 255) : ∃ σB N, f_X6_read σ = fl_X6_read_18 (σB, 0) ∧ (σB.1 45 5 = nI N ∧ N ≤ L ∧ (∀ t, t < N → plc (σ.1 52) L t < L) ∧ plc (σ.1 52) L N = L ∧ ∀ t, t ≤ N → σB.1 53 t = tkn (σ.1 52) L (plc (σ.1 52) L t)) ∧ (∀ t, t ≤ N → σB.1 54 t = nI (plc (σ.1 52) L t)) ∧ σB.1 45 6 = 0 ∧ σB.1 46 5 = 0 ∧ ∀ q j, ¬ (q = 45 ∧ (j = 5 ∨ j = 6)) → ¬ (q = 46 ∧ j = 5) → q ≠ 53 → q ≠ 54 → σB.1 q j = σ.1 q j := by
  obtain ⟨τ, N, e1, e2, e3, e4, e5, e6, e7, e8, e9, e10⟩ := x_split h45 hL
  have o : ∀ q j, ¬ (q = 45 ∧ j = 6) → ¬ (q = 46 ∧ j = 5) → (sI (sI τ 45 6 0) 46 5 0).1 q j = τ.1 q j := fun q j a1 a2 => by
    rw [sI_r]
    by_cases e : q = 46
    · rw [if_pos e, if_neg (fun e2 => a2 ⟨e, e2⟩), e, sI_off _ _ _ _ (by omega)]
    · rw [if_neg e, sI_r]
      by_cases e : q = 45
      · rw [if_pos e, if_neg (fun e2 => a1 ⟨e, e2⟩), e]
      · rw [if_neg e]
  refine ⟨sI (sI τ 45 6 0) 46 5 0, N, ?_, ⟨by rw [o 45 5 (by omega) (by omega)]; exact e4, e5, e6, e7, fun t ht => ?_⟩, fun t ht => by rw [o 54 t (by omega) (by omega)]; exact e10 t ht, ?_, sI_same _ _ _ _, fun q j a1 a2 a3 a4 => ?_⟩
  · unfold f_X6_read f_X5_clear
    rw [e1, bd_some, pt_eq, pt_eq, bd_some]
  · rw [o 53 t (by omega) (by omega)]
    by_cases c : t < N
    · rw [e8 t c]
      unfold tkn
      rw [if_pos (e6 t c)]
    · rw [show t = N by omega, e9]
      unfold tkn
      rw [if_neg (by omega)]
  · rw [sI_off _ _ _ _ (by omega), sI_same]
  · rw [o q j (by omega) a2]
    by_cases e : q = 45
    · rw [e]; exact e3 j (by omega)
    · rw [e2 q e a3 a4]
theorem BD_0 {b : Nat → Int32} {L N : Nat} {σB υB : sS} (h45 : σB.1 45 6 = 0) (h46 : σB.1 46 5 = 0) (h50 : σB.1 50 0 = 0) (h84 : υB.1 84 1 = 0) (hm : MS b L υB υB 0 0 0) : BD b L N σB υB σB υB 0 0 0 [] := by
  refine ⟨⟨Nat.zero_le _, h45, h46, Nat.zero_le _, Nat.zero_le _, Nat.zero_le _, fun x hx => ?_⟩, ⟨fun _ => 0, rfl, rfl, fun r hr => ?_, fun r hr => ?_, fun r x hx => ?_⟩, ⟨fun _ => 0, rfl, rfl, fun r hr => ?_, fun r x hx => ?_⟩, ⟨h84, hm⟩, fun _ _ _ _ _ _ _ => rfl, fun _ _ _ _ => rfl⟩
  · cases hx
  · have : r = 0 := by
      have : r ≤ 0 := hr
      omega
    rw [this]; exact h50
  · exact absurd hr (Nat.not_lt_zero _)
  · cases hx
  · exact absurd hr (Nat.not_lt_zero _)
  · cases hx
