/-! seats: the model -/
theorem m_may {σ : sS} {a : aK} (hv : vK a) (hm : mK (σ.1 84) a) (h93 : ∀ i, i < aN a → σ.1 93 i = aPr a i) {c i T : Nat} (hc : c < aM a) (hi : i < aN a) : f_X12_mayRide σ (nI c) (nI i) (nI T) = some (if mp a c T i = true then 1 else 0) := by
  have h9 : aN a ≤ 9 := hv.1.1.2
  have h8 : aM a ≤ 8 := hv.1.2.1.2
  obtain ⟨w1, w2, w3⟩ := hm.2.2.1 c hc
  have e0 : f_X12_where σ (nI c) 0 = some (nI (42 + 3 * c)) := by
    have := m_where σ c 0
    rwa [nI_0] at this
  have e1 : f_X12_where σ (nI c) 1 = some (nI (43 + 3 * c)) := by
    have := m_where σ c 1
    rwa [show 42 + 3 * c + 1 = 43 + 3 * c by omega] at this
  unfold f_X12_mayRide mp may
  simp only [m_has, tb_get (nI T) i (show i < 32 by omega), tb_nI T (show i < 32 by omega), bd_some, e0, e1, grd_of (sIn_nI (show 42 + 3 * c < 316 by omega) (show 316 < 2 ^ 31 by omega)), nI_clamp (show 42 + 3 * c < 2 ^ 31 by omega), grd_of (sIn_nI (show 43 + 3 * c < 316 by omega) (show 316 < 2 ^ 31 by omega)), nI_clamp (show 43 + 3 * c < 2 ^ 31 by omega), w1, w2, tb_get (a.1 5 c) i (show i < 32 by omega), grd_of (sIn_nI (show i < 9 by omega) (show 9 < 2 ^ 31 by omega)), nI_clamp (show i < 2 ^ 31 by omega), h93 i hi]
  cases T.testBit i <;> cases tb (a.1 5 c) i
  · simp
  · by_cases d : a.1 6 c < aPr a i
    · simp [d]
    · simp [d]
  · simp
  · simp
def mP (σ : sS) (a : aK) : Prop := mK (σ.1 84) a ∧ ∀ i, i < aN a → σ.1 93 i = aPr a i
theorem mP_off {σ τ : sS} {a : aK} (h1 : τ.1 84 = σ.1 84) (h2 : τ.1 93 = σ.1 93) (h : mP σ a) : mP τ a := ⟨by rw [h1]; exact h.1, fun i hi => by rw [h2]; exact h.2 i hi⟩
theorem m_prices {σ : sS} {a : aK} (hv : vK a) (hm : mK (σ.1 84) a) : ∃ τ, f_X12_findSeats σ = fj_X12_findSeats_35 τ (nI (aN a)) ∧ mP τ a ∧ frm σ τ := by
  have h9 : aN a ≤ 9 := hv.1.1.2
  have n2 : σ.1 84 0 = nI (aN a) := hm.1.1.trans hv.1.1.1
  unfold f_X12_findSeats fl_X12_findSeats_9
  rw [sin_0_316, grd_true, tn_0, n2, pt_eq]
  refine lp_inv (body := fb_X12_findSeats_9) (I := fun k p => p.2 = (nI (aN a), nI k) ∧ frm σ p.1 ∧ ∀ j, j < k → p.1.1 93 j = aPr a j) (e := aN a) (P := fun r => ∃ τ, r = fj_X12_findSeats_35 τ (nI (aN a)) ∧ mP τ a ∧ frm σ τ) ?_ ?_ nF 0 (σ, nI (aN a), 0) (by omega) (nF_big (by omega)) ⟨rfl, frm_rf, fun _ h => absurd h (Nat.not_lt_zero _)⟩
  · rintro i hi ⟨τ, y⟩ ⟨hy, a1, a2⟩ back
    have hy2 : y = (nI (aN a), nI i) := hy
    subst hy2
    have a1' : frm σ τ := a1
    have a2' : ∀ j, j < i → τ.1 93 j = aPr a j := a2
    have hmτ : mK (τ.1 84) a := by rw [frm_84 a1']; exact hm
    have hlt : nI i < nI (aN a) := (nn_lt (by omega) (by omega)).mpr hi
    obtain ⟨υ, r1, r2, r3, r4, r5⟩ := m_asks hv hmτ hi
    refine ⟨(sI υ 93 i (aPr a i), nI (aN a), nI (i + 1)), ⟨rfl, fun q j hs => ?_, fun j hj => ?_⟩, ?_⟩
    · show (sI υ 93 i (aPr a i)).1 q j = _
      rw [sI_off _ _ _ _ (fun e => hs (by unfold scr; omega)), ← a1' q j hs]
      by_cases c : q = 83
      · subst c
        exact r5 j (fun e => hs (by unfold scr; omega)) (fun e => hs (by unfold scr; omega))
      · rw [r4 q c (fun e => hs (by unfold scr; omega))]
    · show (sI υ 93 i (aPr a i)).1 93 j = _
      rw [sI_r, if_pos rfl]
      by_cases e : j = i
      · rw [if_pos e, e]
      · rw [if_neg e, r4 93 (by omega) (by omega)]
        exact a2' j (by omega)
    · simp only [fb_X12_findSeats_9, if_pos hlt, r1, bd_some, r2, grd_of (sIn_nI (show i < 9 by omega) (show 9 < 2 ^ 31 by omega)), nI_clamp (show i < 2 ^ 31 by omega), pt_eq, nI_1]
  · rintro ⟨τ, y⟩ ⟨hy, a1, a2⟩ back
    have hy2 : y = (nI (aN a), nI (aN a)) := hy
    subst hy2
    have a1' : frm σ τ := a1
    exact ⟨τ, by simp only [fb_X12_findSeats_9, Int32.lt_irrefl, if_false], ⟨by rw [frm_84 a1']; exact hm, a2⟩, a1'⟩
theorem e512 (c T : Nat) : ((512 : Int32) * nI c) + nI T = nI (512 * c + T) := by rw [show (512 : Int32) = nI 512 from rfl, pk_mul, nI_add]
/-- one place of the table -/
theorem m_best {σ : sS} {a : aK} (hv : vK a) (hP : mP σ a) {c T : Nat} (hc : c ≤ aM a) (hT : T < 2 ^ aN a) (c42 : sS × Int32 × Int32 → Option (Int32 × sS)) (back : sS × Int32 × Int32 × Int32 → Option (Int32 × sS)) (hB : c < aM a → ∀ U, U < 2 ^ aN a → σ.1 94 (512 * (c + 1) + U) = nI (Bd a (aM a - (c + 1)) U)) : fb_X12_findSeats_48 c42 back (σ, nI (aN a), nI c, nI T) = back (sI σ 94 (512 * c + T) (nI (Bd a (aM a - c) T)), nI (aN a), nI c, nI (T + 1)) := by
  have h9 : aN a ≤ 9 := hv.1.1.2
  have h8 : aM a ≤ 8 := hv.1.2.1.2
  have hTl := two_le h9
  have k2 : σ.1 84 2 = nI (aM a) := hP.1.1.2.2.2.1.trans hv.1.2.1.1
  have hlt : nI T < nI (2 ^ aN a) := (nn_lt (by omega) (by omega)).mpr hT
  have hce : (nI c = nI (aM a)) ↔ c = aM a := nI_eq (by omega) (by omega)
  have hcl : (nI c < nI (aM a)) ↔ c < aM a := nn_lt (by omega) (by omega)
  have i1 := sIn_nI (show 512 * c + T < 4608 by omega) (show 4608 < 2 ^ 31 by omega)
  have c1 := nI_clamp (show 512 * c + T < 2 ^ 31 by omega)
  have e170 : ∀ x, fj_X12_findSeats_170 c42 back σ (nI (aN a)) (nI c) (nI T) x = back (sI σ 94 (512 * c + T) x, nI (aN a), nI c, nI (T + 1)) := fun x => by
    unfold fj_X12_findSeats_170
    rw [pt_eq, e512, grd_of i1, pt_eq, c1, nI_1]
  by_cases cm : c = aM a
  · have hB0 : Bd a (aM a - c) T = 0 := by rw [cm, Nat.sub_self]; rfl
    rw [hB0]
    simp only [fb_X12_findSeats_48, shl_nI h9, if_pos hlt, sin_2_316, grd_true, tn_2, k2, if_pos (hce.mpr cm), fj_X12_findSeats_83]
    unfold fl_X12_findSeats_88
    refine lp_wf (body := fb_X12_findSeats_88 c42 back) (I := fun s => s = (σ, nI (aN a), nI c, nI T, 0, 0)) (m := fun _ => 0) (P := fun X => X = back (sI σ 94 (512 * c + T) (nI 0), nI (aN a), nI c, nI (T + 1))) ?_ nF _ (nF_big (by omega)) rfl
    intro s hs
    subst hs
    right
    refine ⟨_, rfl, fun bk => ?_⟩
    simp only [fb_X12_findSeats_88, sin_2_316, grd_true, tn_2, k2, if_neg (mt hcl.mp (show ¬ c < aM a by omega)), e170]
    rw [nI_0]
    split <;> rfl
  · have hc' : c < aM a := by omega
    obtain ⟨d, hd⟩ : ∃ d, d = aM a - (c + 1) := ⟨_, rfl⟩
    have hdc : aM a - 1 - d = c := by omega
    rw [show aM a - c = d + 1 by omega]
    have hBT := hB hc' T hT
    rw [← hd] at hBT
    have i2 := sIn_nI (show 512 * (c + 1) + T < 4608 by omega) (show 4608 < 2 ^ 31 by omega)
    have c2 := nI_clamp (show 512 * (c + 1) + T < 2 ^ 31 by omega)
    simp only [fb_X12_findSeats_48, shl_nI h9, if_pos hlt, sin_2_316, grd_true, tn_2, k2, if_neg (mt hce.mp cm), nI_1, pt_eq, e512, grd_of i2, c2, hBT, fj_X12_findSeats_83]
    obtain ⟨v, hvd⟩ : ∃ v : Nat → Nat, v = fun i => pr a i + Bd a d (T ||| 2 ^ i) := ⟨_, rfl⟩
    have hvi : ∀ i, pr a i + Bd a d (T ||| 2 ^ i) = v i := fun i => by rw [hvd]
    have hBd : Bd a (d + 1) T = bst (mp a c T) v (Bd a d T) (aN a) := by rw [hvd, ← hdc]; rfl
    have hbb : ∀ k, k ≤ aN a → bst (mp a c T) v (Bd a d T) k ≤ 4000 := fun k hk => by
      rcases bst_is (mp a c T) v (Bd a d T) k with h | ⟨i, h1, h2, h3⟩
      · have := Bd_le hv d T
        omega
      · have g1 := Bd_le hv d (T ||| 2 ^ i)
        have g2 := (pr_nI hv (show i < aN a by omega)).2
        rw [← hvi i] at h3
        omega
    have hvb : ∀ i, i < aN a → v i ≤ 4000 := fun i hi => by
      have g1 := Bd_le hv d (T ||| 2 ^ i)
      have g2 := (pr_nI hv hi).2
      rw [← hvi i]
      omega
    rw [hBd]
    unfold fl_X12_findSeats_88
    refine lp_for (body := fb_X12_findSeats_88 c42 back) (fun k => (σ, nI (aN a), nI c, nI T, nI (bst (mp a c T) v (Bd a d T) k), nI k)) (aN a) _ ?_ ?_ nF 0 (by omega) (nF_big (by omega))
    · intro k hk bk
      have hltk : nI k < nI (aN a) := (nn_lt (by omega) (by omega)).mpr hk
      have hbk := hbb k (by omega)
      have hvk := hvb k hk
      have hor := or_bit (T := T) (i := k) (by omega)
      have hTk := or_lt hT hk
      have i3 := sIn_nI (show 512 * (c + 1) + (T ||| 2 ^ k) < 4608 by omega) (show 4608 < 2 ^ 31 by omega)
      have c3 := nI_clamp (show 512 * (c + 1) + (T ||| 2 ^ k) < 2 ^ 31 by omega)
      have hBk := hB hc' _ hTk
      rw [← hd] at hBk
      have hst : bst (mp a c T) v (Bd a d T) (k + 1) = (if mp a c T k = true then (if bst (mp a c T) v (Bd a d T) k < v k then v k else bst (mp a c T) v (Bd a d T) k) else bst (mp a c T) v (Bd a d T) k) := rfl
      rw [hst]
      have hc1 : (nI (bst (mp a c T) v (Bd a d T) k) < nI (v k)) ↔ bst (mp a c T) v (Bd a d T) k < v k := nn_lt (by omega) (by omega)
      have hsum : aPr a k + nI (Bd a d (T ||| 2 ^ k)) = nI (v k) := by rw [(pr_nI hv hk).1, nI_add, hvi]
      simp only [fb_X12_findSeats_88, if_pos hltk, sin_2_316, grd_true, tn_2, k2, if_pos (hcl.mpr hc'), m_may hv hP.1 hP.2 hc' hk, bd_some, grd_of (sIn_nI (show k < 9 by omega) (show 9 < 2 ^ 31 by omega)), nI_clamp (show k < 2 ^ 31 by omega), nI_1, pt_eq, hor, e512, grd_of i3, c3, hP.2 k hk, hBk, hsum, fj_X12_findSeats_146, fj_X12_findSeats_162, hc1, if_neg (nI_pos (show bst (mp a c T) v (Bd a d T) k < 2 ^ 31 by omega))]
      cases mp a c T k with
      | true =>
        by_cases e : bst (mp a c T) v (Bd a d T) k < v k
        · simp [e]
        · simp [e]
      | false => simp
    · intro bk
      simp only [fb_X12_findSeats_88, Int32.lt_irrefl, if_false, e170]
theorem m_table {σ : sS} {a : aK} (hv : vK a) (hP : mP σ a) : ∃ τ, fj_X12_findSeats_35 σ (nI (aN a)) = fj_X12_findSeats_196 τ (nI (aN a)) ∧ (∀ q, q ≠ 94 → τ.1 q = σ.1 q) ∧ ∀ c, c ≤ aM a → ∀ T, T < 2 ^ aN a → τ.1 94 (512 * c + T) = nI (Bd a (aM a - c) T) := by
  have h9 : aN a ≤ 9 := hv.1.1.2
  have h8 : aM a ≤ 8 := hv.1.2.1.2
  have hTl := two_le h9
  have k2 : σ.1 84 2 = nI (aM a) := hP.1.1.2.2.2.1.trans hv.1.2.1.1
  unfold fj_X12_findSeats_35 fl_X12_findSeats_42
  rw [sin_2_316, grd_true, tn_2, k2, pt_eq]
  refine lp_inv (body := fb_X12_findSeats_42) (I := fun D s => s.2 = (nI (aN a), nI (aM a + 1 - D) - 1) ∧ (∀ q, q ≠ 94 → s.1.1 q = σ.1 q) ∧ ∀ c, aM a + 1 - D ≤ c → c ≤ aM a → ∀ T, T < 2 ^ aN a → s.1.1 94 (512 * c + T) = nI (Bd a (aM a - c) T)) (e := aM a + 1) (P := fun X => ∃ τ, X = fj_X12_findSeats_196 τ (nI (aN a)) ∧ (∀ q, q ≠ 94 → τ.1 q = σ.1 q) ∧ ∀ c, c ≤ aM a → ∀ T, T < 2 ^ aN a → τ.1 94 (512 * c + T) = nI (Bd a (aM a - c) T)) ?_ ?_ nF 0 (σ, nI (aN a), nI (aM a)) (by omega) (nF_big (by omega)) ⟨by rw [Nat.sub_zero, nI_pred], fun _ _ => rfl, fun c h1 h2 => absurd h1 (by omega)⟩
  · rintro D hD ⟨τ, y⟩ ⟨hy, a1, a2⟩ back
    have hy2 : y = (nI (aN a), nI (aM a + 1 - D) - 1) := hy
    subst hy2
    have a1' : ∀ q, q ≠ 94 → τ.1 q = σ.1 q := a1
    have a2' : ∀ c, aM a + 1 - D ≤ c → c ≤ aM a → ∀ T, T < 2 ^ aN a → τ.1 94 (512 * c + T) = nI (Bd a (aM a - c) T) := a2
    obtain ⟨c, hcD⟩ : ∃ c, c = aM a - D := ⟨_, rfl⟩
    have hy3 : nI (aM a + 1 - D) - 1 = nI c := by
      have := nI_pred c
      rwa [show c + 1 = aM a + 1 - D by omega] at this
    have inner : ∃ υ : sS, fl_X12_findSeats_48 back (τ, nI (aN a), nI c, 0) = back (υ, nI (aN a), nI c + (-1)) ∧ (∀ q, q ≠ 94 → υ.1 q = σ.1 q) ∧ (∀ T, T < 2 ^ aN a → υ.1 94 (512 * c + T) = nI (Bd a (aM a - c) T)) ∧ ∀ e, 512 * (c + 1) ≤ e → υ.1 94 e = τ.1 94 e := by
      unfold fl_X12_findSeats_48
      refine lp_inv (body := fb_X12_findSeats_48 back) (I := fun K s => s.2 = (nI (aN a), nI c, nI K) ∧ (∀ q, q ≠ 94 → s.1.1 q = σ.1 q) ∧ (∀ T, T < K → s.1.1 94 (512 * c + T) = nI (Bd a (aM a - c) T)) ∧ ∀ e, 512 * (c + 1) ≤ e → s.1.1 94 e = τ.1 94 e) (e := 2 ^ aN a) (P := fun X => ∃ υ : sS, X = back (υ, nI (aN a), nI c + (-1)) ∧ (∀ q, q ≠ 94 → υ.1 q = σ.1 q) ∧ (∀ T, T < 2 ^ aN a → υ.1 94 (512 * c + T) = nI (Bd a (aM a - c) T)) ∧ ∀ e, 512 * (c + 1) ≤ e → υ.1 94 e = τ.1 94 e) ?_ ?_ nF 0 (τ, nI (aN a), nI c, 0) (by omega) (nF_big (by omega)) ⟨rfl, a1', fun _ h => absurd h (Nat.not_lt_zero _), fun _ _ => rfl⟩
      · rintro K hK ⟨ψ, z⟩ ⟨hz, b1, b2, b3⟩ bk
        have hz2 : z = (nI (aN a), nI c, nI K) := hz
        subst hz2
        have b1' : ∀ q, q ≠ 94 → ψ.1 q = σ.1 q := b1
        have b2' : ∀ T, T < K → ψ.1 94 (512 * c + T) = nI (Bd a (aM a - c) T) := b2
        have b3' : ∀ e, 512 * (c + 1) ≤ e → ψ.1 94 e = τ.1 94 e := b3
        have hPψ : mP ψ a := mP_off (b1' 84 (by omega)) (b1' 93 (by omega)) hP
        refine ⟨(sI ψ 94 (512 * c + K) (nI (Bd a (aM a - c) K)), nI (aN a), nI c, nI (K + 1)), ⟨rfl, fun q hq => ?_, fun T hT => ?_, fun e he => ?_⟩, ?_⟩
        · show (sI ψ 94 _ _).1 q = _
          rw [sI_off _ _ _ _ hq]
          exact b1' q hq
        · show (sI ψ 94 _ _).1 94 (512 * c + T) = _
          rw [sI_r, if_pos rfl]
          by_cases e : T = K
          · rw [e, if_pos rfl]
          · rw [if_neg (by omega)]
            exact b2' T (by omega)
        · show (sI ψ 94 _ _).1 94 e = _
          rw [sI_r, if_pos rfl, if_neg (by omega)]
          exact b3' e he
        · exact m_best hv hPψ (show c ≤ aM a by omega) hK back bk (fun hcm U hU => by rw [b3' _ (by omega)]; exact a2' (c + 1) (by omega) (by omega) U hU)
      · rintro ⟨ψ, z⟩ ⟨hz, b1, b2, b3⟩ bk
        have hz2 : z = (nI (aN a), nI c, nI (2 ^ aN a)) := hz
        subst hz2
        exact ⟨ψ, by simp only [fb_X12_findSeats_48, shl_nI h9, Int32.lt_irrefl, if_false], b1, b2, b3⟩
    obtain ⟨υ, r1, r2, r3, r4⟩ := inner
    refine ⟨(υ, nI (aN a), nI c + (-1)), ⟨?_, r2, fun c' h1 h2 T hT => ?_⟩, ?_⟩
    · show (nI (aN a), nI c + (-1)) = _
      rw [show aM a + 1 - (D + 1) = c by omega, Int32.sub_eq_add_neg]
    · show υ.1 94 (512 * c' + T) = _
      by_cases e : c' = c
      · rw [e]; exact r3 T hT
      · rw [r4 _ (by omega)]
        exact a2' c' (by omega) h2 T hT
    · rw [hy3]
      simp only [fb_X12_findSeats_42, if_neg (nI_pos (show c < 2 ^ 31 by omega))]
      exact r1
  · rintro ⟨τ, y⟩ ⟨hy, a1, a2⟩ back
    have hy2 : y = (nI (aN a), nI (aM a + 1 - (aM a + 1)) - 1) := hy
    rw [Nat.sub_self] at hy2
    subst hy2
    exact ⟨τ, by simp only [fb_X12_findSeats_42, if_pos (show nI 0 - 1 < (0 : Int32) by decide)], a1, fun c hc T hT => a2 c (by omega) hc T hT⟩
theorem m_sits {σ : sS} {a : aK} (hv : vK a) (hP : mP σ a) (hB : ∀ c, c ≤ aM a → ∀ T, T < 2 ^ aN a → σ.1 94 (512 * c + T) = nI (Bd a (aM a - c) T)) : ∃ τ, fj_X12_findSeats_196 σ (nI (aN a)) = some (nI (Bd a (aM a) 0), τ) ∧ (∀ q, q ≠ 95 → τ.1 q = σ.1 q) ∧ ∀ c, c < aM a → τ.1 95 c = rM (stt a c) := by
  have h9 : aN a ≤ 9 := hv.1.1.2
  have h8 : aM a ≤ 8 := hv.1.2.1.2
  have hTl := two_le h9
  have k2 : σ.1 84 2 = nI (aM a) := hP.1.1.2.2.2.1.trans hv.1.2.1.1
  unfold fj_X12_findSeats_196 fl_X12_findSeats_200
  refine lp_inv (body := fb_X12_findSeats_200) (I := fun c s => s.2 = (nI (aN a), nI (tk a c), nI c) ∧ (∀ q, q ≠ 95 → s.1.1 q = σ.1 q) ∧ ∀ x, x < c → s.1.1 95 x = rM (stt a x)) (e := aM a) (P := fun X => ∃ τ, X = some (nI (Bd a (aM a) 0), τ) ∧ (∀ q, q ≠ 95 → τ.1 q = σ.1 q) ∧ ∀ c, c < aM a → τ.1 95 c = rM (stt a c)) ?_ ?_ nF 0 (σ, nI (aN a), 0, 0) (by omega) (nF_big (by omega)) ⟨rfl, fun _ _ => rfl, fun _ h => absurd h (Nat.not_lt_zero _)⟩
  · rintro c hc ⟨τ, y⟩ ⟨hy, a1, a2⟩ back
    have hy2 : y = (nI (aN a), nI (tk a c), nI c) := hy
    subst hy2
    have a1' : ∀ q, q ≠ 95 → τ.1 q = σ.1 q := a1
    have a2' : ∀ x, x < c → τ.1 95 x = rM (stt a x) := a2
    obtain ⟨T, hT⟩ : ∃ T, T = tk a c := ⟨_, rfl⟩
    obtain ⟨t1, t2⟩ := tk_ok hv c
    rw [← hT] at t1 t2
    obtain ⟨d, hd⟩ : ∃ d, d = aM a - 1 - c := ⟨_, rfl⟩
    have hdc : aM a - 1 - d = c := by omega
    have hlt : nI c < nI (aM a) := (nn_lt (by omega) (by omega)).mpr hc
    have m2 : τ.1 84 2 = nI (aM a) := by rw [a1' 84 (by omega)]; exact k2
    have hin8 := sIn_nI (show c < 8 by omega) (show 8 < 2 ^ 31 by omega)
    have hcl8 := nI_clamp (show c < 2 ^ 31 by omega)
    obtain ⟨Q, hQ⟩ : ∃ Q : Nat → Bool, Q = fun i => mp a c T i && decide (pr a i + Bd a d (T ||| 2 ^ i) = Bd a (d + 1) T) := ⟨_, rfl⟩
    have hst : stt a c = fst Q (aN a) 0 := by
      unfold stt sc
      rw [hQ, ← hd, ← hT, hdc]
    have inner : ∃ υ : sS, fl_X12_findSeats_222 back (sI τ 95 c (-1), nI (aN a), nI T, nI c, nI (aN a) - 1) = fj_X12_findSeats_303 back υ (nI (aN a)) (nI T) (nI c) ∧ (∀ q, q ≠ 95 → υ.1 q = σ.1 q) ∧ (∀ x, x ≠ c → υ.1 95 x = τ.1 95 x) ∧ υ.1 95 c = rM (fst Q (aN a) 0) := by
      unfold fl_X12_findSeats_222
      refine lp_inv (body := fb_X12_findSeats_222 back) (I := fun k s => s.2 = (nI (aN a), nI T, nI c, nI (aN a - k) - 1) ∧ (∀ q, q ≠ 95 → s.1.1 q = σ.1 q) ∧ (∀ x, x ≠ c → s.1.1 95 x = τ.1 95 x) ∧ s.1.1 95 c = rM (fst Q k (aN a - k))) (e := aN a) (P := fun X => ∃ υ : sS, X = fj_X12_findSeats_303 back υ (nI (aN a)) (nI T) (nI c) ∧ (∀ q, q ≠ 95 → υ.1 q = σ.1 q) ∧ (∀ x, x ≠ c → υ.1 95 x = τ.1 95 x) ∧ υ.1 95 c = rM (fst Q (aN a) 0)) ?_ ?_ nF 0 (sI τ 95 c (-1), nI (aN a), nI T, nI c, nI (aN a) - 1) (by omega) (nF_big (by omega)) ⟨rfl, fun q hq => by rw [sI_off _ _ _ _ hq]; exact a1' q hq, fun x hx => by rw [sI_r, if_pos rfl, if_neg hx], by rw [sI_same]; rfl⟩
      · rintro k hk ⟨ψ, z⟩ ⟨hz, b1, b2, b3⟩ bk
        have hz2 : z = (nI (aN a), nI T, nI c, nI (aN a - k) - 1) := hz
        subst hz2
        have b1' : ∀ q, q ≠ 95 → ψ.1 q = σ.1 q := b1
        have b2' : ∀ x, x ≠ c → ψ.1 95 x = τ.1 95 x := b2
        have b3' : ψ.1 95 c = rM (fst Q k (aN a - k)) := b3
        obtain ⟨i, hi⟩ : ∃ i, i = aN a - 1 - k := ⟨_, rfl⟩
        have hin : i < aN a := by omega
        have hy3 : nI (aN a - k) - 1 = nI i := by
          have := nI_pred i
          rwa [show i + 1 = aN a - k by omega] at this
        have hPψ : mP ψ a := mP_off (b1' 84 (by omega)) (b1' 93 (by omega)) hP
        have hfs : fst Q (k + 1) (aN a - (k + 1)) = (if Q i = true then some i else fst Q k (aN a - k)) := by
          rw [show aN a - (k + 1) = i by omega, show aN a - k = i + 1 by omega]
          rfl
        have hm1 : nI i + (-1) = nI (aN a - (k + 1)) - 1 := by rw [show aN a - (k + 1) = i by omega, Int32.sub_eq_add_neg]
        have hor := or_bit (T := T) (i := i) (by omega)
        have hTk := or_lt t1 hin
        have i3 := sIn_nI (show 512 * (c + 1) + (T ||| 2 ^ i) < 4608 by omega) (show 4608 < 2 ^ 31 by omega)
        have c3 := nI_clamp (show 512 * (c + 1) + (T ||| 2 ^ i) < 2 ^ 31 by omega)
        have i4 := sIn_nI (show 512 * c + T < 4608 by omega) (show 4608 < 2 ^ 31 by omega)
        have c4 := nI_clamp (show 512 * c + T < 2 ^ 31 by omega)
        have q1 : ψ.1 94 (512 * (c + 1) + (T ||| 2 ^ i)) = nI (Bd a d (T ||| 2 ^ i)) := by
          rw [b1' 94 (by omega), hB (c + 1) (by omega) _ hTk, show aM a - (c + 1) = d by omega]
        have q2 : ψ.1 94 (512 * c + T) = nI (Bd a (d + 1) T) := by
          rw [b1' 94 (by omega), hB c (by omega) _ t1, show aM a - c = d + 1 by omega]
        have hB1 := Bd_le hv d (T ||| 2 ^ i)
        have hB2 := Bd_le hv (d + 1) T
        have hpr := pr_nI hv hin
        have hsum : aPr a i + nI (Bd a d (T ||| 2 ^ i)) = nI (pr a i + Bd a d (T ||| 2 ^ i)) := by rw [hpr.1, nI_add]
        have hcmp : (nI (pr a i + Bd a d (T ||| 2 ^ i)) = nI (Bd a (d + 1) T)) ↔ pr a i + Bd a d (T ||| 2 ^ i) = Bd a (d + 1) T := nI_eq (by omega) (by omega)
        have hbody : fb_X12_findSeats_222 back bk (ψ, nI (aN a), nI T, nI c, nI (aN a - k) - 1) = (if Q i = true then bk (sI ψ 95 c (nI i), nI (aN a), nI T, nI c, nI (aN a - (k + 1)) - 1) else bk (sI ψ 95 c (ψ.1 95 c), nI (aN a), nI T, nI c, nI (aN a - (k + 1)) - 1)) := by
          rw [hy3]
          have hQi : Q i = (mp a c T i && decide (pr a i + Bd a d (T ||| 2 ^ i) = Bd a (d + 1) T)) := by rw [hQ]
          rw [hQi]
          simp only [fb_X12_findSeats_222, if_neg (nI_pos (show i < 2 ^ 31 by omega)), m_may hv hPψ.1 hPψ.2 hc hin, bd_some, grd_of (sIn_nI (show i < 9 by omega) (show 9 < 2 ^ 31 by omega)), nI_clamp (show i < 2 ^ 31 by omega), nI_1, pt_eq, hor, e512, grd_of i3, c3, grd_of i4, c4, hPψ.2 i hin, q1, q2, hsum, hcmp, fj_X12_findSeats_290, fj_X12_findSeats_296, grd_of hin8, hcl8, hm1]
          cases mp a c T i with
          | true =>
            by_cases e : pr a i + Bd a d (T ||| 2 ^ i) = Bd a (d + 1) T
            · simp [e]
            · simp [e]
          | false => simp
        have wr : ∀ v : Int32, (∀ q, q ≠ 95 → (sI ψ 95 c v).1 q = σ.1 q) ∧ (∀ x, x ≠ c → (sI ψ 95 c v).1 95 x = τ.1 95 x) ∧ (sI ψ 95 c v).1 95 c = v := fun v => ⟨fun q hq => by rw [sI_off _ _ _ _ hq]; exact b1' q hq, fun x hx => by rw [sI_r, if_pos rfl, if_neg hx]; exact b2' x hx, sI_same _ _ _ _⟩
        rw [hbody]
        by_cases cq : Q i = true
        · obtain ⟨v1, v2, v3⟩ := wr (nI i)
          exact ⟨(sI ψ 95 c (nI i), nI (aN a), nI T, nI c, nI (aN a - (k + 1)) - 1), ⟨rfl, v1, v2, by rw [hfs, if_pos cq]; exact v3⟩, by rw [if_pos cq]⟩
        · obtain ⟨v1, v2, v3⟩ := wr (ψ.1 95 c)
          exact ⟨(sI ψ 95 c (ψ.1 95 c), nI (aN a), nI T, nI c, nI (aN a - (k + 1)) - 1), ⟨rfl, v1, v2, by rw [hfs, if_neg cq]; exact v3.trans b3'⟩, by rw [if_neg cq]⟩
      · rintro ⟨ψ, z⟩ ⟨hz, b1, b2, b3⟩ bk
        have hz2 : z = (nI (aN a), nI T, nI c, nI (aN a - aN a) - 1) := hz
        rw [Nat.sub_self] at hz2
        subst hz2
        have b3' : ψ.1 95 c = rM (fst Q (aN a) (aN a - aN a)) := b3
        rw [Nat.sub_self] at b3'
        exact ⟨ψ, by simp only [fb_X12_findSeats_222, if_pos (show nI 0 - 1 < (0 : Int32) by decide)], b1, b2, b3'⟩
    obtain ⟨υ, r1, r2, r3, r4⟩ := inner
    rw [← hst] at r4
    have htk : tk a (c + 1) = (match stt a c with | some i => T ||| 2 ^ i | none => T) := by rw [hT]; rfl
    refine ⟨(υ, nI (aN a), nI (tk a (c + 1)), nI (c + 1)), ⟨rfl, r2, fun x hx => ?_⟩, ?_⟩
    · show υ.1 95 x = _
      by_cases e : x = c
      · rw [e]; exact r4
      · rw [r3 x e]
        exact a2' x (by omega)
    · rw [← hT]
      simp only [fb_X12_findSeats_200, sin_2_316, grd_true, tn_2, m2, if_pos hlt, grd_of hin8, hcl8, pt_eq]
      rw [r1]
      unfold fj_X12_findSeats_303 fj_X12_findSeats_325
      rw [grd_of hin8, grd_of hin8, hcl8, r4, htk, nI_1]
      cases hs : stt a c with
      | none => rw [if_pos (show rM none < 0 by decide), or_0]
      | some i =>
        have hi := (sc_lt (show sc a (aM a - 1 - c) (tk a c) = some i from hs)).1
        rw [if_neg (show ¬ rM (some i) < 0 from nI_pos (by omega))]
        show back (υ, nI (aN a), nI T ||| ((1 : Int32) <<< (nI i &&& 31)), nI (c + 1)) = _
        rw [or_bit (by omega)]
  · rintro ⟨τ, y⟩ ⟨hy, a1, a2⟩ back
    have hy2 : y = (nI (aN a), nI (tk a (aM a)), nI (aM a)) := hy
    subst hy2
    have a1' : ∀ q, q ≠ 95 → τ.1 q = σ.1 q := a1
    have m2 : τ.1 84 2 = nI (aM a) := by rw [a1' 84 (by omega)]; exact k2
    have h0 : τ.1 94 0 = nI (Bd a (aM a) 0) := by
      rw [a1' 94 (by omega)]
      have := hB 0 (by omega) 0 (by omega)
      rwa [show 512 * 0 + 0 = 0 by omega, Nat.sub_zero] at this
    exact ⟨τ, by simp only [fb_X12_findSeats_200, sin_2_316, grd_true, tn_2, m2, Int32.lt_irrefl, if_false, fj_X12_findSeats_333, sin_0_4608, tn_0, h0], a1, a2⟩
theorem m_seatsFind {σ : sS} {a : aK} (hv : vK a) (hm : mK (σ.1 84) a) : ∃ ω, f_X12_findSeats σ = some (nI (Bd a (aM a) 0), ω) ∧ mP ω a ∧ frm σ ω ∧ ∀ c, c < aM a → ω.1 95 c = rM (stt a c) := by
  obtain ⟨τ, e1, e2, e3⟩ := m_prices hv hm
  obtain ⟨υ, g1, g2, g3⟩ := m_table hv e2
  have hPυ : mP υ a := mP_off (g2 84 (by omega)) (g2 93 (by omega)) e2
  obtain ⟨ω, k1, k2, k3⟩ := m_sits hv hPυ g3
  refine ⟨ω, by rw [e1, g1, k1], mP_off (k2 84 (by omega)) (k2 93 (by omega)) hPυ, fun q j hs => ?_, k3⟩
  rw [k2 q (fun e => hs (by unfold scr; omega)), g2 q (fun e => hs (by unfold scr; omega)), e3 q j hs]
