/-! sheets -/
theorem fillloop {qr : Nat} {body : (sS × Int32 × Int32 × Int32 → Option sS) → sS × Int32 × Int32 × Int32 → Option sS} (hb : ∀ back τ x1 x2 x3, body back (τ, x1, x2, x3) = (if x2 < x3 then grd (sIn x2 40) (pt (sI τ qr x2.toNatClampNeg x1) fun σ3 => back (σ3, x1, (x2 + 1), x3)) else some τ)) (σ : sS) : ∃ τ, lp body nF (σ, 0, 0, 40) = some τ ∧ (∀ q, q ≠ qr → τ.1 q = σ.1 q) ∧ ∀ j, j < 40 → τ.1 qr j = 0 := by
  refine lp_inv (body := body) (I := fun i p => p.2 = ((0 : Int32), nI i, (40 : Int32)) ∧ (∀ q, q ≠ qr → p.1.1 q = σ.1 q) ∧ ∀ j, j < i → p.1.1 qr j = 0) (e := 40) (P := fun r => ∃ τ, r = some τ ∧ (∀ q, q ≠ qr → τ.1 q = σ.1 q) ∧ ∀ j, j < 40 → τ.1 qr j = 0) ?_ ?_ nF 0 (σ, 0, 0, 40) (by omega) (nF_big (by omega)) ⟨rfl, fun _ _ => rfl, fun _ h => absurd h (Nat.not_lt_zero _)⟩
  · rintro i hi ⟨τ, y1, y3, y4⟩ ⟨hx, a1, a2⟩ back
    have hx2 : (y1, y3, y4) = ((0 : Int32), nI i, (40 : Int32)) := hx
    injection hx2 with hy1 hy2
    injection hy2 with hy3 hy4
    subst hy1 hy3 hy4
    have hlt : nI i < 40 := by
      have e : (nI i < 40) ↔ i < 40 := nn_lt (a := i) (b := 40) (by omega) (by omega)
      exact e.mpr hi
    refine ⟨(sI τ qr i 0, 0, nI (i + 1), 40), ⟨rfl, fun q hq => ?_, fun j hj => ?_⟩, ?_⟩
    · show (sI τ qr i 0).1 q = _
      rw [sI_off _ _ _ _ hq]
      exact a1 q hq
    · show (sI τ qr i 0).1 qr j = _
      rw [sI_r, if_pos rfl]
      by_cases e : j = i
      · rw [if_pos e]
      · rw [if_neg e]
        exact a2 j (by omega)
    · rw [hb, if_pos hlt, grd_of (sIn_nI hi (by omega)), pt_eq, nI_clamp (by omega), nI_1]
  · rintro ⟨τ, y1, y3, y4⟩ ⟨hx, a1, a2⟩ back
    have hx2 : (y1, y3, y4) = ((0 : Int32), nI 40, (40 : Int32)) := hx
    injection hx2 with hy1 hy2
    injection hy2 with hy3 hy4
    subst hy1 hy3 hy4
    refine ⟨τ, ?_, a1, a2⟩
    rw [hb, if_neg (by decide)]
theorem x_renew (σ : sS) {s : Nat} (hs : s < 4) (v w : Int32) : ∃ τ, f_X8_renew σ (nI s) v w = some τ ∧ (∀ q, q ≠ 70 → q ≠ 71 → q ≠ 73 + s → τ.1 q = σ.1 q) ∧ (∀ j, j ≠ s → τ.1 70 j = σ.1 70 j ∧ τ.1 71 j = σ.1 71 j) ∧ τ.1 70 s = v ∧ τ.1 71 s = w ∧ ∀ j, j < 40 → τ.1 (73 + s) j = 0 := by
  obtain ⟨σ1, h1⟩ : ∃ σ1, σ1 = sI (sI σ 70 s v) 71 s w := ⟨_, rfl⟩
  have key : ∀ τ : sS, (∀ q, q ≠ 73 + s → τ.1 q = σ1.1 q) → (∀ q, q ≠ 70 → q ≠ 71 → q ≠ 73 + s → τ.1 q = σ.1 q) ∧ (∀ j, j ≠ s → τ.1 70 j = σ.1 70 j ∧ τ.1 71 j = σ.1 71 j) ∧ τ.1 70 s = v ∧ τ.1 71 s = w := fun τ h => by
    refine ⟨fun q q1 q2 q3 => ?_, fun j hj => ⟨?_, ?_⟩, ?_, ?_⟩
    · rw [h q q3, h1, sI_off _ _ _ _ q2, sI_off _ _ _ _ q1]
    · rw [h 70 (by omega), h1, sI_off _ _ _ _ (by omega), sI_r, if_pos rfl, if_neg hj]
    · rw [h 71 (by omega), h1, sI_r, if_pos rfl, if_neg hj, sI_off _ _ _ _ (by omega)]
    · rw [h 70 (by omega), h1, sI_off _ _ _ _ (by omega), sI_same]
    · rw [h 71 (by omega), h1, sI_same]
  have e0 : f_X8_renew σ (nI s) v w = (if nI s = 0 then bd (f_J7_fillI_c σ1 0) fun r11 => some r11 else if nI s = 1 then bd (f_J7_fillI_d σ1 0) fun r13 => some r13 else if nI s = 2 then bd (f_J7_fillI_e σ1 0) fun r15 => some r15 else if nI s = 3 then bd (f_J7_fillI_f σ1 0) fun r17 => some r17 else none) := by
    unfold f_X8_renew
    rw [grd_of (sIn_nI hs (by omega)), pt_eq, grd_of (sIn_nI hs (by omega)), pt_eq, nI_clamp (by omega), ← h1]
  rw [e0]
  rcases (by omega : s = 0 ∨ s = 1 ∨ s = 2 ∨ s = 3) with e | e | e | e
  · obtain ⟨τ, t1, t2, t3⟩ := fillloop (qr := 73) (body := fb_J7_fillI_c_5) (fun _ _ _ _ _ => rfl) σ1
    subst e
    obtain ⟨k1, k2, k3, k4⟩ := key τ t2
    refine ⟨τ, ?_, k1, k2, k3, k4, t3⟩
    rw [if_pos (by decide)]
    unfold f_J7_fillI_c fl_J7_fillI_c_5
    rw [t1, bd_some]
  · obtain ⟨τ, t1, t2, t3⟩ := fillloop (qr := 74) (body := fb_J7_fillI_d_5) (fun _ _ _ _ _ => rfl) σ1
    subst e
    obtain ⟨k1, k2, k3, k4⟩ := key τ t2
    refine ⟨τ, ?_, k1, k2, k3, k4, t3⟩
    rw [if_neg (by decide), if_pos (by decide)]
    unfold f_J7_fillI_d fl_J7_fillI_d_5
    rw [t1, bd_some]
  · obtain ⟨τ, t1, t2, t3⟩ := fillloop (qr := 75) (body := fb_J7_fillI_e_5) (fun _ _ _ _ _ => rfl) σ1
    subst e
    obtain ⟨k1, k2, k3, k4⟩ := key τ t2
    refine ⟨τ, ?_, k1, k2, k3, k4, t3⟩
    rw [if_neg (by decide), if_neg (by decide), if_pos (by decide)]
    unfold f_J7_fillI_e fl_J7_fillI_e_5
    rw [t1, bd_some]
  · obtain ⟨τ, t1, t2, t3⟩ := fillloop (qr := 76) (body := fb_J7_fillI_f_5) (fun _ _ _ _ _ => rfl) σ1
    subst e
    obtain ⟨k1, k2, k3, k4⟩ := key τ t2
    refine ⟨τ, ?_, k1, k2, k3, k4, t3⟩
    rw [if_neg (by decide), if_neg (by decide), if_neg (by decide), if_pos (by decide)]
    unfold f_J7_fillI_f fl_J7_fillI_f_5
    rw [t1, bd_some]
theorem at40 (s k : Nat) : ((40 : Int32) * nI s) + nI k = nI (40 * s + k) := by rw [show (40 : Int32) = nI 40 from rfl, pk_mul, nI_add]
theorem m_renew (σ : sS) {s : Nat} (hs : s < 4) (v w : Int32) : ∃ τ, fj_X12_sheet_65 (sI σ 98 s v) (nI s) (nI s) w = some (1, τ) ∧ (∀ q, q ≠ 98 → q ≠ 99 → q ≠ 100 → τ.1 q = σ.1 q) ∧ (∀ j, j ≠ s → τ.1 98 j = σ.1 98 j ∧ τ.1 99 j = σ.1 99 j) ∧ τ.1 98 s = v ∧ τ.1 99 s = w ∧ (∀ k, ¬ (40 * s ≤ k ∧ k < 40 * s + 40) → τ.1 100 k = σ.1 100 k) ∧ ∀ j, j < 40 → τ.1 100 (40 * s + j) = 0 := by
  obtain ⟨σ1, h1⟩ : ∃ σ1, σ1 = sI (sI σ 98 s v) 99 s w := ⟨_, rfl⟩
  have e0 : fj_X12_sheet_65 (sI σ 98 s v) (nI s) (nI s) w = lp fb_X12_sheet_69 nF (σ1, nI s, 0) := by
    unfold fj_X12_sheet_65 fl_X12_sheet_69
    rw [grd_of (sIn_nI hs (by omega)), pt_eq, nI_clamp (by omega), ← h1]
  rw [e0]
  have key : ∃ τ : sS, lp fb_X12_sheet_69 nF (σ1, nI s, 0) = some (1, τ) ∧ (∀ q, q ≠ 100 → τ.1 q = σ1.1 q) ∧ (∀ k, ¬ (40 * s ≤ k ∧ k < 40 * s + 40) → τ.1 100 k = σ1.1 100 k) ∧ ∀ j, j < 40 → τ.1 100 (40 * s + j) = 0 := by
    refine lp_inv (body := fb_X12_sheet_69) (I := fun i p => p.2 = (nI s, nI i) ∧ (∀ q, q ≠ 100 → p.1.1 q = σ1.1 q) ∧ (∀ k, ¬ (40 * s ≤ k ∧ k < 40 * s + 40) → p.1.1 100 k = σ1.1 100 k) ∧ ∀ j, j < i → p.1.1 100 (40 * s + j) = 0) (e := 40) (P := fun r => ∃ τ, r = some ((1 : Int32), τ) ∧ (∀ q, q ≠ 100 → τ.1 q = σ1.1 q) ∧ (∀ k, ¬ (40 * s ≤ k ∧ k < 40 * s + 40) → τ.1 100 k = σ1.1 100 k) ∧ ∀ j, j < 40 → τ.1 100 (40 * s + j) = 0) ?_ ?_ nF 0 (σ1, nI s, 0) (by omega) (nF_big (by omega)) ⟨rfl, fun _ _ => rfl, fun _ _ => rfl, fun _ h => absurd h (Nat.not_lt_zero _)⟩
    · rintro i hi ⟨τ, y1, y3⟩ ⟨hx, a1, a3, a2⟩ back
      have hx2 : (y1, y3) = (nI s, nI i) := hx
      injection hx2 with hy1 hy3
      subst hy1 hy3
      have hlt : nI i < 40 := by
        have e : (nI i < 40) ↔ i < 40 := nn_lt (a := i) (b := 40) (by omega) (by omega)
        exact e.mpr hi
      refine ⟨(sI τ 100 (40 * s + i) 0, nI s, nI (i + 1)), ⟨rfl, fun q hq => ?_, fun k hk => ?_, fun j hj => ?_⟩, ?_⟩
      · show (sI τ 100 (40 * s + i) 0).1 q = _
        rw [sI_off _ _ _ _ hq]
        exact a1 q hq
      · show (sI τ 100 (40 * s + i) 0).1 100 k = _
        rw [sI_r, if_pos rfl, if_neg (by omega)]
        exact a3 k hk
      · show (sI τ 100 (40 * s + i) 0).1 100 (40 * s + j) = _
        rw [sI_r, if_pos rfl]
        by_cases e : j = i
        · rw [if_pos (by omega)]
        · rw [if_neg (by omega)]
          exact a2 j (by omega)
      · show (if nI i < 40 then _ else _) = _
        rw [if_pos hlt, at40, grd_of (sIn_nI (show 40 * s + i < 160 by omega) (by omega)), pt_eq, nI_clamp (by omega), nI_1]
    · rintro ⟨τ, y1, y3⟩ ⟨hx, a1, a3, a2⟩ back
      have hx2 : (y1, y3) = (nI s, nI 40) := hx
      injection hx2 with hy1 hy3
      subst hy1 hy3
      refine ⟨τ, ?_, a1, a3, a2⟩
      unfold fb_X12_sheet_69
      show (if nI 40 < 40 then _ else some ((1 : Int32), τ)) = _
      exact if_neg (by decide)
  obtain ⟨τ, t1, t2, t3, t4⟩ := key
  refine ⟨τ, t1, fun q q1 q2 q3 => ?_, fun j hj => ⟨?_, ?_⟩, ?_, ?_, fun k hk => ?_, t4⟩
  · rw [t2 q q3, h1, sI_off _ _ _ _ q2, sI_off _ _ _ _ q1]
  · rw [t2 98 (by omega), h1, sI_off _ _ _ _ (by omega), sI_r, if_pos rfl, if_neg hj]
  · rw [t2 99 (by omega), h1, sI_r, if_pos rfl, if_neg hj, sI_off _ _ _ _ (by omega)]
  · rw [t2 98 (by omega), h1, sI_off _ _ _ _ (by omega), sI_same]
  · rw [t2 99 (by omega), h1, sI_same]
  · rw [t3 k hk, h1, sI_off _ _ _ _ (by omega), sI_off _ _ _ _ (by omega)]
