/-! THE START is coupled; so the law answers 1 -/
def a0 : aK := (fun i j => if i = 0 ∧ j = 1 then 3 else 0, [])
theorem z_reg : s0.1 1 4 = 0 ∧ s0.1 1 5 = 3 ∧ s0.1 1 6 = 0 ∧ s0.1 15 3 = 0 ∧ s0.1 19 3 = 0 ∧ s0.1 6 5 = 0 ∧ s0.1 10 0 = 0 := by decide +kernel
theorem z_mod : s0.1 84 0 = 0 ∧ s0.1 84 4 = 3 ∧ s0.1 84 5 = 0 ∧ s0.1 84 2 = 0 ∧ s0.1 84 3 = 0 ∧ s0.1 84 1 = 0 := by decide +kernel
theorem z_rest : (s0.1 0 6 = 0 ∧ s0.1 83 3 = 0) ∧ (s0.1 45 1 = 0 ∧ s0.1 83 18 = 0 ∧ s0.1 50 0 = 0) ∧ (s0.1 67 1 = 0 ∧ s0.1 83 16 = 0) ∧ s0.1 81 1 = 0 ∧ s0.1 83 32 = 0 := by decide +kernel
theorem z_she : ∀ j, j < 4 → s0.1 70 j = -1 ∧ s0.1 98 j = -1 ∧ s0.1 71 j = 0 ∧ s0.1 99 j = 0 ∧ s0.1 101 j = 0 ∧ s0.1 78 j = -3 ∧ s0.1 79 j = -1 := by decide +kernel
theorem z_sh2 : ∀ j, j < 4 → ∀ k, k < 40 → s0.1 (73 + j) k = s0.1 100 (40 * j + k) := by decide +kernel
theorem Rel_0 : Rel s0 := by
  obtain ⟨r1, r2, r3, r4, r5, r6, r7⟩ := z_reg
  obtain ⟨m1, m2, m3, m4, m5, m6⟩ := z_mod
  obtain ⟨⟨k1, k2⟩, ⟨t1, t2, t3⟩, ⟨w1, w2⟩, y1, y2⟩ := z_rest
  have hN : aN a0 = 0 := rfl
  have hM : aM a0 = 0 := rfl
  have hP : aP a0 = 0 := rfl
  refine ⟨⟨a0, ⟨⟨⟨rfl, by rw [hN]; omega⟩, ⟨rfl, by rw [hM]; omega⟩, ⟨rfl, by rw [hP]; omega⟩, by unfold bt; decide, by unfold bt; decide⟩, fun i hi => ?_, fun c hc => ?_, fun k hk => ?_, Nat.zero_le _, fun x hx => ?_⟩, ⟨⟨r1, r2, r3, r4, r5⟩, fun i hi => ?_, fun c hc => ?_, fun k hk => ?_, r6, fun _ => 0, rfl, fun r hr => ⟨?_, Nat.zero_le _⟩, fun r hr => Nat.le_refl _, fun r x hx => ?_⟩, ⟨⟨m1, m2, m3, m4, m5⟩, fun i hi => ?_, fun c hc => ?_, fun k hk => ?_, m6, fun _ => 0, rfl, fun r hr => ?_, fun r hr => Nat.zero_le _, fun r x hx => ?_⟩⟩, Or.inl ⟨k1, k2⟩, ⟨0, ⟨Nat.zero_le _, t3⟩, t1, t2, fun k hk => absurd hk (Nat.not_lt_zero _)⟩, ⟨0, Nat.zero_le _, w1, w2, fun k hk => absurd hk (Nat.not_lt_zero _)⟩, fun j hj => ?_, fun j hj => ?_, ⟨0, Nat.zero_le _, y1, y2, fun k hk => absurd hk (Nat.not_lt_zero _)⟩⟩
  · rw [hN] at hi; exact absurd hi (Nat.not_lt_zero _)
  · rw [hM] at hc; exact absurd hc (Nat.not_lt_zero _)
  · rw [hP] at hk; exact absurd hk (Nat.not_lt_zero _)
  · cases hx
  · rw [hN] at hi; exact absurd hi (Nat.not_lt_zero _)
  · rw [hM] at hc; exact absurd hc (Nat.not_lt_zero _)
  · rw [hP] at hk; exact absurd hk (Nat.not_lt_zero _)
  · have h0 : r = 0 := by
      have : r ≤ 0 := hr
      omega
    rw [h0]; exact r7
  · cases hx
  · rw [hN] at hi; exact absurd hi (Nat.not_lt_zero _)
  · rw [hM] at hc; exact absurd hc (Nat.not_lt_zero _)
  · rw [hP] at hk; exact absurd hk (Nat.not_lt_zero _)
  · exact absurd hr (Nat.not_lt_zero _)
  · cases hx
  · obtain ⟨p1, p2, p3, p4, _⟩ := z_she j hj
    exact ⟨by rw [p1, p2], by rw [p1]; unfold bt; decide, by rw [p3, p4], by rw [p3]; unfold bt; decide, fun _ => p3, fun k hk => z_sh2 j hj k hk⟩
  · obtain ⟨_, _, _, _, p5, p6, p7⟩ := z_she j hj
    exact Or.inl ⟨p5, p6, p7⟩
/-- the law's loop answers 1 on every script -/
theorem law_true (xs : Nat → Int32) (L : Nat) (hL : L ≤ 2560) : fl_L_law_18 xs L (s0, 0) = some 1 := by
  unfold fl_L_law_18
  refine lp_inv (body := fb_L_law_18 xs L) (I := fun i a => Rel a.1 ∧ a.2 = nI (5 * i)) (e := L / 5) (P := fun X => X = some 1) ?_ ?_ nF 0 (s0, 0) (by omega) (nF_big (by omega)) ⟨Rel_0, rfl⟩
  · rintro i hi ⟨σ, x⟩ ⟨hR, hx⟩ back
    have hx2 : x = nI (5 * i) := hx
    subst hx2
    obtain ⟨τ, h1, h2⟩ := law_step xs hL (show 5 * i + 5 ≤ L by omega) σ hR back
    exact ⟨(τ, nI (5 * (i + 1))), ⟨h1, rfl⟩, by rw [show 5 * (i + 1) = 5 * i + 5 by omega]; exact h2⟩
  · rintro ⟨σ, x⟩ ⟨hR, hx⟩ back
    have hx2 : x = nI (5 * (L / 5)) := hx
    subst hx2
    have hn : Int32.ofNat L - 5 < nI (5 * (L / 5)) := i32_lt.mpr (by
      have e1 : (Int32.ofNat L - 5).toInt = (L : Int) - 5 := sub_int (x := L) (k := 5) (by omega) (by omega)
      have e2 : (nI (5 * (L / 5))).toInt = ((5 * (L / 5) : Nat) : Int) := nI_toInt (by omega)
      rw [e1, e2]
      omega)
    show fb_L_law_18 xs L back (σ, nI (5 * (L / 5))) = some 1
    unfold fb_L_law_18
    dsimp only
    rw [if_pos hn]
