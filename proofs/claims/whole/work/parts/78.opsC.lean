/-! write() -/
theorem narrow_eq (σ τ : sS) (x v : Int32) : f_X8_narrowed σ x v = f_X12_narrowed τ x v := by
  unfold f_X8_narrowed f_X12_narrowed
  by_cases h0 : x = 0
  · rw [if_pos h0, if_pos h0]
  rw [if_neg h0, if_neg h0]
  by_cases h1 : x = 1
  · rw [if_pos h1, if_pos h1]
  rw [if_neg h1, if_neg h1]
  by_cases h4 : x = 4
  · rw [if_pos h4, if_neg (by rw [h4]; decide), if_neg (by rw [h4]; decide)]
  rw [if_neg h4]
  by_cases h2 : x = 2
  · rw [if_pos h2]
  rw [if_neg h2]
  by_cases h3 : x = 3
  · rw [if_pos h3]
  rw [if_neg h3]
theorem narrow_some (σ : sS) (x v : Int32) : ∃ r, f_X12_narrowed σ x v = some r := by
  unfold f_X12_narrowed
  repeat' split
  all_goals exact ⟨_, rfl⟩
theorem op_write (x i v : Int32) : Op (fun σ => f_X11_write σ x i v) (fun σ => f_X12_write σ x i v) := by
  intro σ hR
  have s0 : (0 : Int64).toInt = 0 := rfl
  by_cases cx : 0 ≤ x.toInt ∧ x.toInt ≤ 3
  rotate_left
  · exact ⟨-1, σ, σ, by simp only [f_X11_write, x_sheetR, bd_some, if_neg cx, if_true], by simp only [f_X12_write, m_oneR, bd_some, if_neg cx, if_true], hR⟩
  obtain ⟨s, hs3, es⟩ := nI_of_bt (x := x) (n := 3) (by omega) (by omega) (by omega)
  have hin := sIn_nI (show s < 4 by omega) (show 4 < 2 ^ 31 by omega)
  have hcl := nI_clamp (show s < 2 ^ 31 by omega)
  obtain ⟨b1, b2, b3, b4, b5, b6⟩ := hR.2.2.2.2.1 s (by omega)
  obtain ⟨n, hn40, en⟩ := nI_of_bt (x := σ.1 71 s) (n := 40) (by exact b4.1) (by exact b4.2) (by omega)
  have en2 : σ.1 99 s = nI n := b3.symm.trans en
  by_cases c1 : σ.1 70 s = -1
  · refine ⟨-11, σ, σ, ?_, ?_, hR⟩
    · simp only [f_X11_write, x_sheetR, bd_some, if_pos cx, z10, if_false]
      rw [es, grd_of hin, hcl, if_pos c1]
    · have c2 : σ.1 98 s < 0 := by rw [← b1, c1]; decide
      simp only [f_X12_write, m_oneR, bd_some, if_pos cx, z10, if_false]
      rw [es, grd_of hin, hcl, if_pos c2]
  have c2 : ¬ σ.1 98 s < 0 := by rw [← b1, neg_m1 b2]; exact c1
  by_cases ci : 0 ≤ i.toInt ∧ i.toInt < n
  rotate_left
  · have ci2 : ¬ (0 ≤ i.toInt ∧ i.toInt ≤ (n : Int) - 1) := by omega
    refine ⟨-12, σ, σ, ?_, ?_, hR⟩
    · simp only [f_X11_write, x_sheetR, bd_some, if_pos cx, z10, if_false]
      rw [es, grd_of hin, hcl, if_neg c1, x_hasItem (by omega) en hn40, bd_some, if_neg ci, if_pos rfl]
    · simp only [f_X12_write, m_oneR, m_inI, s0, bd_some, if_pos cx, z10, if_false]
      rw [es, grd_of hin, hcl, if_neg c2, grd_of hin, en2, i64_of, nI_m1 (by omega), if_neg ci2, if_pos rfl]
  have ci2 : 0 ≤ i.toInt ∧ i.toInt ≤ (n : Int) - 1 := by omega
  obtain ⟨k, hk, ek⟩ := i32_nI (i := i) (n := n) ci.1 ci.2 (by omega)
  have hink := sIn_nI (show k < 40 by omega) (show 40 < 2 ^ 31 by omega)
  have hclk := nI_clamp (show k < 2 ^ 31 by omega)
  obtain ⟨r, hr⟩ := narrow_some σ (σ.1 70 s) v
  have hr1 : f_X8_narrowed σ (σ.1 70 s) v = some r := (narrow_eq σ σ _ _).trans hr
  obtain ⟨τ, hτ⟩ : ∃ τ, τ = sI σ (73 + s) k r := ⟨_, rfl⟩
  have A : ∀ q, q ≠ 73 + s → τ.1 q = σ.1 q := fun q hq => by rw [hτ, sI_off _ _ _ _ hq]
  have hr2 : f_X12_narrowed τ (σ.1 70 s) v = some r := ((narrow_eq σ τ _ _).symm.trans (narrow_eq σ σ _ _)).trans hr
  refine ⟨1, τ, sI τ 100 (40 * s + k) r, ?_, ?_, Rel_she (σ := σ) (fun q g1 g2 => by rw [sI_off _ _ _ _ (by omega), A q (by omega)]) (fun j hj => ?_) hR⟩
  · simp only [f_X11_write, x_sheetR, bd_some, if_pos cx, z10, if_false]
    rw [es, grd_of hin, hcl, if_neg c1, x_hasItem (by omega) en hn40, bd_some, if_pos ci, if_neg (by decide), ek]
    simp only [grd_of hin, grd_of hink, hclk, hr1, bd_some, pt_eq]
    rcases (by omega : s = 0 ∨ s = 1 ∨ s = 2 ∨ s = 3) with e | e | e | e <;> subst e <;> rw [hτ]
    · rw [if_pos (by decide)]
    · rw [if_neg (by decide), if_pos (by decide)]
    · rw [if_neg (by decide), if_neg (by decide), if_pos (by decide)]
    · rw [if_neg (by decide), if_neg (by decide), if_neg (by decide), if_pos (by decide)]
  · have d1 : τ.1 98 = σ.1 98 := A 98 (by omega)
    have d2 : τ.1 99 = σ.1 99 := A 99 (by omega)
    simp only [f_X12_write, m_oneR, m_inI, s0, bd_some, if_pos cx, z10, if_false]
    rw [es, grd_of hin, hcl, d1, d2, if_neg c2, grd_of hin, en2, i64_of, nI_m1 (by omega), if_pos ci2, if_neg (by decide), grd_of hin, ← b1, hr2, bd_some, ek, at40, grd_of (sIn_nI (show 40 * s + k < 160 by omega) (by omega)), pt_eq, nI_clamp (by omega)]
  · obtain ⟨a1, a2, a3, a4, a5, a6⟩ := hR.2.2.2.2.1 j hj
    have B : ∀ q, q ≠ 100 → (sI τ 100 (40 * s + k) r).1 q = τ.1 q := fun q hq => sI_off _ _ _ _ hq
    rw [B 70 (by omega), B 98 (by omega), B 71 (by omega), B 99 (by omega), B (73 + j) (by omega), A 70 (by omega), A 98 (by omega), A 71 (by omega), A 99 (by omega)]
    refine ⟨a1, a2, a3, a4, a5, fun m hm => ?_⟩
    rw [sI_r, if_pos rfl, A 100 (by omega), hτ]
    by_cases e : j = s
    · rw [e, sI_r, if_pos rfl]
      by_cases e2 : m = k
      · rw [if_pos e2, if_pos (by omega)]
      · rw [if_neg e2, if_neg (by omega), ← e]
        exact a6 m hm
    · rw [sI_off _ _ _ _ (by omega), if_neg (by omega)]
      exact a6 m hm
