/-! tune, tuneAll -/
theorem m_tunes {σ : sS} {a : aK} (hv : vK a) (hE : mEv σ a) (hM : MB σ a) (h1 : 1 ≤ aN a) {f : Nat} (hf : f < ac a 0) : ∃ τ, f_X12_tunes σ (nI f) = some (b01 (decide (aN a < 2) || okF a f), τ) ∧ τ.2 = σ.2 ∧ (∀ q, q ≠ 91 → q ≠ 92 → τ.1 q = σ.1 q) ∧ ((decide (aN a < 2) || okF a f) = true → ∀ i, i < aN a → τ.1 92 i = nI (rW a f i)) := by
  have h9 : aN a ≤ 9 := hv.1.1.2
  obtain ⟨τ1, e1, k0, k1, k2⟩ := m_leads hv hE hM h1 hf
  unfold f_X12_tunes fl_X12_tunes_16
  rw [e1, bd_some, sin_0_9, grd_true, pt_eq, tn_0]
  refine lp_wf (body := fb_X12_tunes_16) (I := fun s => s.1.2 = σ.2 ∧ (∀ q, q ≠ 91 → q ≠ 92 → s.1.1 q = σ.1 q) ∧ GL s.1 a f 1 ∧ ((∃ k, k < aN a ∧ s.2 = (1, nI (k + 1)) ∧ (0 < k → okF a f = true) ∧ ∀ i, i ≤ k → s.1.1 92 i = nI (rW a f i)) ∨ (2 ≤ aN a ∧ okF a f = false ∧ s.2 = (0, 2)))) (m := fun s => 12 - s.2.2.toNatClampNeg) (P := fun X => ∃ τ, X = some (b01 (decide (aN a < 2) || okF a f), τ) ∧ τ.2 = σ.2 ∧ (∀ q, q ≠ 91 → q ≠ 92 → τ.1 q = σ.1 q) ∧ ((decide (aN a < 2) || okF a f) = true → ∀ i, i < aN a → τ.1 92 i = nI (rW a f i))) ?_ nF _ (nF_big (by show 12 - _ < 4000; omega)) ⟨k0, fun q q1 q2 => by rw [sI_off _ _ _ _ q2]; exact k1 q q1, fun i i1 i2 p hp => by rw [sI_off _ _ _ _ (by omega)]; exact k2 i i1 i2 p hp, Or.inl ⟨0, by omega, rfl, fun h => absurd h (by omega), fun i hi => by rw [show i = 0 by omega, sI_same]; rfl⟩⟩
  rintro ⟨τ, y⟩ ⟨a0, a1, a2, h⟩
  have a0' : τ.2 = σ.2 := a0
  have a1' : ∀ q, q ≠ 91 → q ≠ 92 → τ.1 q = σ.1 q := a1
  have a2' : GL τ a f 1 := a2
  have hEτ : mEv τ a := mE_f a1' hE
  have hMτ : MB τ a := fun x hx y hy => by rw [a0']; exact hM x hx y hy
  have n2 : τ.1 84 0 = nI (aN a) := hEτ.1.1.1.trans hv.1.1.1
  rcases h with ⟨k, hk, hy, hok, hrow⟩ | ⟨h2, hok, hy⟩
  · have hy2 : y = (1, nI (k + 1)) := hy
    subst hy2
    have hrow' : ∀ i, i ≤ k → τ.1 92 i = nI (rW a f i) := hrow
    by_cases c : k + 1 < aN a
    · left
      have hlt : nI (k + 1) < nI (aN a) := (nn_lt (by omega) (by omega)).mpr c
      have hm1 : nI (k + 1) - 1 = nI k := nI_pred k
      have hr := rW_lt hv hf hk
      obtain ⟨_, _, hc12⟩ := ac_nI hv hk
      obtain ⟨_, hd2, hd12⟩ := ac_nI hv c
      have hck := m_ck hv hEτ c
      have inner : ∀ back : sS × Int32 × Int32 → Option (Int32 × sS), fl_X12_tunes_33 back (τ, nI (k + 1), 0) = (match rN a f k (rW a f k) with | some q => back (sI τ 92 (k + 1) (nI q), 1, nI (k + 2)) | none => back (sI τ 92 (k + 1) (nI (ac a (k + 1))), 0, nI (k + 2))) := fun back => by
        unfold fl_X12_tunes_33 rN
        have e86 : ∀ p, fj_X12_tunes_86 back τ (nI (k + 1)) (nI p) = (if nI p < nI (ac a (k + 1)) then back (sI τ 92 (k + 1) (nI p), 1, nI (k + 2)) else back (sI τ 92 (k + 1) (nI p), 0, nI (k + 2))) := fun p => by
          unfold fj_X12_tunes_86 fj_X12_tunes_102
          rw [hck, bd_some, grd_of (sIn_nI (show k + 1 < 9 by omega) (by omega)), grd_of (sIn_nI (show k + 1 < 9 by omega) (by omega)), pt_eq, pt_eq, nI_clamp (by omega), nI_1]
        have key : ∀ p, p < ac a (k + 1) → ∀ bk, fb_X12_tunes_33 back bk (τ, nI (k + 1), nI p) = (if rC a f k (rW a f k) p = true then back (sI τ 92 (k + 1) (nI p), 1, nI (k + 2)) else bk (τ, nI (k + 1), nI (p + 1))) := by
          intro p hp bk
          have hltp : nI p < nI (ac a (k + 1)) := (nn_lt (by omega) (by omega)).mpr hp
          have i108 := sIn_nI (show 12 * (k + 1) + p < 108 by omega) (show 108 < 2 ^ 31 by omega)
          have c108 := nI_clamp (show 12 * (k + 1) + p < 2 ^ 31 by omega)
          have hld := a2' (k + 1) (by omega) c p hp
          have hap := m_apart hMτ h9 hk hr (by omega) c hp (by omega)
          simp only [fb_X12_tunes_33, hck, bd_some, if_pos hltp, mx12, grd_of i108, c108, hld, b01_z, hm1, grd_of (sIn_nI (show k < 9 by omega) (show 9 < 2 ^ 31 by omega)), nI_clamp (show k < 2 ^ 31 by omega), hrow' k (Nat.le_refl _), hap, e86, nI_1]
          unfold rC
          cases gO a f (aN a - 1 - (k + 1)) p <;> cases AP a k (rW a f k) (k + 1) p <;> simp
        have h := lp_find (body := fb_X12_tunes_33 back) (fun p => (τ, nI (k + 1), nI p)) (ac a (k + 1)) (rC a f k (rW a f k)) (fun p => back (sI τ 92 (k + 1) (nI p), 1, nI (k + 2))) (back (sI τ 92 (k + 1) (nI (ac a (k + 1))), 0, nI (k + 2))) (fun p hp hpi bk => by rw [key p hp, if_neg (by rw [hpi]; decide)]) (fun p hp hpi bk => by rw [key p hp, if_pos hpi]) (fun bk => by simp only [fb_X12_tunes_33, hck, bd_some, Int32.lt_irrefl, if_false, e86]) nF 0 (by omega) (nF_big (by omega))
        refine h.trans ?_
        rw [Nat.sub_zero]
        cases fst (rC a f k (rW a f k)) (ac a (k + 1)) 0 <;> rfl
      have hb : ∀ back, fb_X12_tunes_16 back (τ, 1, nI (k + 1)) = (match rN a f k (rW a f k) with | some q => back (sI τ 92 (k + 1) (nI q), 1, nI (k + 2)) | none => back (sI τ 92 (k + 1) (nI (ac a (k + 1))), 0, nI (k + 2))) := fun back => by
        simp only [fb_X12_tunes_16, sin_0_316, grd_true, tn_0, n2, if_pos hlt, z10, if_false, inner]
      have hms : ∀ (τ' : sS) (v : Int32), 12 - (τ', v, nI (k + 2)).2.2.toNatClampNeg < 12 - (τ, (1 : Int32), nI (k + 1)).2.2.toNatClampNeg := fun τ' v => by
        show 12 - (nI (k + 2)).toNatClampNeg < 12 - (nI (k + 1)).toNatClampNeg
        rw [nI_clamp (by omega), nI_clamp (by omega)]
        omega
      have fr : ∀ v : Int32, (∀ q, q ≠ 91 → q ≠ 92 → (sI τ 92 (k + 1) v).1 q = σ.1 q) ∧ GL (sI τ 92 (k + 1) v) a f 1 := fun v => ⟨fun q q1 q2 => by rw [sI_off _ _ _ _ q2]; exact a1' q q1 q2, fun i i1 i2 p hp => by rw [sI_off _ _ _ _ (by omega)]; exact a2' i i1 i2 p hp⟩
      cases hN : rN a f k (rW a f k) with
      | some q =>
        have hok' : okF a f = true := by
          by_cases ck : 0 < k
          · exact hok ck
          · have e0 : k = 0 := by omega
            subst e0
            unfold okF
            rw [show rN a f 0 f = some q from hN]
            rfl
        have hrk : rW a f (k + 1) = q := by
          show (match rN a f k (rW a f k) with | some q => q | none => 0) = q
          rw [hN]
        refine ⟨(sI τ 92 (k + 1) (nI q), 1, nI (k + 2)), ⟨a0', (fr _).1, (fr _).2, Or.inl ⟨k + 1, c, rfl, fun _ => hok', fun i hi => ?_⟩⟩, hms _ _, fun back => by rw [hb, hN]⟩
        show (sI τ 92 (k + 1) (nI q)).1 92 i = _
        rw [sI_r, if_pos rfl]
        by_cases e : i = k + 1
        · rw [if_pos e, e, hrk]
        · rw [if_neg e]
          exact hrow' i (by omega)
      | none =>
        have e0 : k = 0 := Classical.byContradiction fun hne => by
          obtain ⟨q, q1, _⟩ := rW_go (hok (by omega)) c
          rw [q1] at hN
          cases hN
        subst e0
        have hok' : okF a f = false := by
          unfold okF
          rw [show rN a f 0 f = none from hN]
          rfl
        exact ⟨(sI τ 92 (0 + 1) (nI (ac a (0 + 1))), 0, nI (0 + 2)), ⟨a0', (fr _).1, (fr _).2, Or.inr ⟨by omega, hok', rfl⟩⟩, hms _ _, fun back => by rw [hb, hN]⟩
    · right
      have ek : k + 1 = aN a := by omega
      have hT : (decide (aN a < 2) || okF a f) = true := by
        by_cases c2 : aN a < 2
        · rw [decide_eq_true c2]; rfl
        · rw [hok (by omega)]; simp
      refine ⟨some (1, τ), ⟨τ, by rw [hT]; rfl, a0', a1', fun _ i hi => hrow' i (by omega)⟩, fun back => ?_⟩
      rw [ek]
      simp only [fb_X12_tunes_16, sin_0_316, grd_true, tn_0, n2, Int32.lt_irrefl, if_false]
      rw [sbo_1, grd_true]
  · have hy2 : y = (0, 2) := hy
    subst hy2
    right
    have hT : (decide (aN a < 2) || okF a f) = false := by rw [decide_eq_false (by omega), hok]; rfl
    refine ⟨some (0, τ), ⟨τ, by rw [hT]; rfl, a0', a1', fun h => by rw [hT] at h; cases h⟩, fun back => ?_⟩
    simp only [fb_X12_tunes_16, sin_0_316, grd_true, tn_0, n2, if_true]
    rw [sbo_0, grd_true]
    split <;> rfl
theorem m_findTuned {σ : sS} {a : aK} (hv : vK a) (hm : mK (σ.1 84) a) : ∃ ω, f_X12_findTuned σ = some (if (TR a).isSome = true then 1 else 0, ω) ∧ mEv ω a ∧ frm σ ω ∧ ∀ r, TR a = some r → ∀ i, i < aN a → ω.1 92 i = nI (r i) := by
  have h9 : aN a ≤ 9 := hv.1.1.2
  obtain ⟨σ1, g1, hE, g3, g4⟩ := m_goesE hv hm
  have n2 : σ1.1 84 0 = nI (aN a) := hE.1.1.1.trans hv.1.1.1
  have fr : ∀ τ : sS, (∀ q, q ≠ 91 → q ≠ 92 → τ.1 q = σ1.1 q) → frm σ τ := fun τ h q j hs => by
    rw [h q (fun e => hs (by unfold scr; omega)) (fun e => hs (by unfold scr; omega))]
    exact g4 q j hs
  have A : ∃ τ1 : sS, f_X12_findTuned σ = fj_X12_findTuned_46 τ1 ∧ τ1.1 = σ1.1 ∧ MB τ1 a := by
    unfold f_X12_findTuned fl_X12_findTuned_6
    rw [g1, bd_some]
    refine lp_inv (body := fb_X12_findTuned_6) (I := fun k p => p.2 = nI k ∧ p.1.1 = σ1.1 ∧ ∀ i, i < k → ∀ p', p' < ac a i → HB (p.1.2 89 (12 * i + p')) (p.1.2 90 (12 * i + p')) a i p') (e := aN a) (P := fun r => ∃ τ1 : sS, r = fj_X12_findTuned_46 τ1 ∧ τ1.1 = σ1.1 ∧ MB τ1 a) ?_ ?_ nF 0 (σ1, 0) (by omega) (nF_big (by omega)) ⟨rfl, rfl, fun _ h => absurd h (Nat.not_lt_zero _)⟩
    · rintro k hk ⟨τ, y⟩ ⟨hy, a1, a2⟩ back
      have hy2 : y = nI k := hy
      subst hy2
      have a1' : τ.1 = σ1.1 := a1
      have a2' : ∀ i, i < k → ∀ p', p' < ac a i → HB (τ.2 89 (12 * i + p')) (τ.2 90 (12 * i + p')) a i p' := a2
      have hlt : nI k < nI (aN a) := (nn_lt (by omega) (by omega)).mpr hk
      obtain ⟨_, _, hc12⟩ := ac_nI hv hk
      have inner : ∃ υ : sS, fl_X12_findTuned_18 back (τ, nI k, 0) = back (υ, nI (k + 1)) ∧ υ.1 = σ1.1 ∧ ∀ i, i < k + 1 → ∀ p', p' < ac a i → HB (υ.2 89 (12 * i + p')) (υ.2 90 (12 * i + p')) a i p' := by
        unfold fl_X12_findTuned_18
        refine lp_inv (body := fb_X12_findTuned_18 back) (I := fun x p => p.2 = (nI k, nI x) ∧ p.1.1 = σ1.1 ∧ (∀ i, i < k → ∀ p', p' < ac a i → HB (p.1.2 89 (12 * i + p')) (p.1.2 90 (12 * i + p')) a i p') ∧ ∀ p', p' < x → HB (p.1.2 89 (12 * k + p')) (p.1.2 90 (12 * k + p')) a k p') (e := ac a k) (P := fun r => ∃ υ : sS, r = back (υ, nI (k + 1)) ∧ υ.1 = σ1.1 ∧ ∀ i, i < k + 1 → ∀ p', p' < ac a i → HB (υ.2 89 (12 * i + p')) (υ.2 90 (12 * i + p')) a i p') ?_ ?_ nF 0 (τ, nI k, 0) (by omega) (nF_big (by omega)) ⟨rfl, a1', a2', fun _ h => absurd h (Nat.not_lt_zero _)⟩
        · rintro x hx ⟨ψ, z⟩ ⟨hz, b1, b2, b3⟩ bk
          have hz2 : z = (nI k, nI x) := hz
          subst hz2
          have b1' : ψ.1 = σ1.1 := b1
          have b2' : ∀ i, i < k → ∀ p', p' < ac a i → HB (ψ.2 89 (12 * i + p')) (ψ.2 90 (12 * i + p')) a i p' := b2
          have b3' : ∀ p', p' < x → HB (ψ.2 89 (12 * k + p')) (ψ.2 90 (12 * k + p')) a k p' := b3
          have hEψ : mEv ψ a := mE_lo (by rw [b1']) (by rw [b1']) hE
          have hltx : nI x < nI (ac a k) := (nn_lt (by omega) (by omega)).mpr hx
          obtain ⟨υ, r1, r2, r3, r4⟩ := m_findHigh hv hEψ hk (show x < 12 by omega)
          refine ⟨(υ, nI k, nI (x + 1)), ⟨rfl, r2.trans b1', fun i hi p' hp' => ?_, fun p' hp' => ?_⟩, ?_⟩
          · show HB (υ.2 89 (12 * i + p')) (υ.2 90 (12 * i + p')) a i p'
            obtain ⟨_, _, hi12⟩ := ac_nI hv (show i < aN a by omega)
            rw [(r4 (12 * i + p') (by omega)).1, (r4 (12 * i + p') (by omega)).2]
            exact b2' i hi p' hp'
          · show HB (υ.2 89 (12 * k + p')) (υ.2 90 (12 * k + p')) a k p'
            by_cases c : p' = x
            · subst c
              exact r3
            · rw [(r4 (12 * k + p') (by omega)).1, (r4 (12 * k + p') (by omega)).2]
              exact b3' p' (by omega)
          · simp only [fb_X12_findTuned_18, m_ck hv hEψ hk, bd_some, if_pos hltx, r1, nI_1]
        · rintro ⟨ψ, z⟩ ⟨hz, b1, b2, b3⟩ bk
          have hz2 : z = (nI k, nI (ac a k)) := hz
          subst hz2
          have b1' : ψ.1 = σ1.1 := b1
          have hEψ : mEv ψ a := mE_lo (by rw [b1']) (by rw [b1']) hE
          refine ⟨ψ, ?_, b1', fun i hi p' hp' => ?_⟩
          · simp only [fb_X12_findTuned_18, m_ck hv hEψ hk, bd_some, Int32.lt_irrefl, if_false, nI_1]
          · by_cases c : i = k
            · subst c
              exact b3 p' hp'
            · exact b2 i (by omega) p' hp'
      obtain ⟨υ, r1, r2, r3⟩ := inner
      refine ⟨(υ, nI (k + 1)), ⟨rfl, r2, r3⟩, ?_⟩
      simp only [fb_X12_findTuned_6, sin_0_316, grd_true, tn_0, a1', n2, if_pos hlt]
      exact r1
    · rintro ⟨τ, y⟩ ⟨hy, a1, a2⟩ back
      have hy2 : y = nI (aN a) := hy
      subst hy2
      have a1' : τ.1 = σ1.1 := a1
      exact ⟨τ, by simp only [fb_X12_findTuned_6, sin_0_316, grd_true, tn_0, a1', n2, Int32.lt_irrefl, if_false], a1', a2⟩
  obtain ⟨τ1, eA, f1, hM1⟩ := A
  have hE1 : mEv τ1 a := mE_lo (by rw [f1]) (by rw [f1]) hE
  have m2 : τ1.1 84 0 = nI (aN a) := by rw [f1]; exact n2
  rw [eA]
  unfold fj_X12_findTuned_46 fj_X12_findTuned_60 fl_X12_findTuned_63
  rw [sin_0_316, grd_true, tn_0, m2]
  have e0 : (nI (aN a) = 0) ↔ aN a = 0 := nI_eq (b := 0) (by omega) (by omega)
  by_cases c0 : aN a = 0
  · rw [if_pos (e0.mpr c0)]
    have hT : TR a = some (fun _ => 0) := by unfold TR; rw [if_pos (by omega)]
    refine lp_wf (body := fb_X12_findTuned_63) (I := fun s => s = (τ1, 1, 0)) (m := fun _ => 0) (P := fun X => ∃ ω, X = some (if (TR a).isSome = true then 1 else 0, ω) ∧ mEv ω a ∧ frm σ ω ∧ ∀ r, TR a = some r → ∀ i, i < aN a → ω.1 92 i = nI (r i)) ?_ nF _ (nF_big (by omega)) rfl
    intro s hs
    subst hs
    right
    refine ⟨some (1, τ1), ⟨τ1, by rw [hT]; rfl, hE1, fr τ1 (fun q _ _ => by rw [f1]), fun r _ i hi => absurd hi (by omega)⟩, fun back => ?_⟩
    simp only [fb_X12_findTuned_63, sin_0_316, grd_true, tn_0, m2, c0]
    rw [if_neg (show ¬ (0 : Int32) < nI 0 by decide), sbo_1, grd_true]
  · rw [if_neg (mt e0.mp c0)]
    obtain ⟨hc, hc2, hc12⟩ := ac_nI hv (show 0 < aN a by omega)
    have hpos : (0 : Int32) < nI (aN a) := (nn_lt (a := 0) (b := aN a) (by omega) (by omega)).mpr (by omega)
    obtain ⟨ok, hokd⟩ : ∃ ok : Nat → Bool, ok = fun f => decide (aN a < 2) || okF a f := ⟨_, rfl⟩
    have hokk : ∀ f, (decide (aN a < 2) || okF a f) = ok f := fun f => by rw [hokd]
    have hTs : ∀ k, fst ok (ac a 0) 0 = some k → ∃ r, TR a = some r ∧ ∀ i, i < aN a → r i = rW a k i := fun k hk => by
      unfold TR
      by_cases c2 : aN a < 2
      · rw [if_pos c2]
        have hk0 : k = 0 := by
          have h0 : fst ok (ac a 0) 0 = some 0 := fst_is (by omega) (by omega) (by rw [← hokk, decide_eq_true c2]; rfl) (fun x _ hx => absurd hx (by omega))
          rw [h0] at hk
          injection hk with hk
          exact hk.symm
        subst hk0
        exact ⟨_, rfl, fun i hi => by rw [show i = 0 by omega]; rfl⟩
      · rw [if_neg c2]
        have : fst (okF a) (ac a 0) 0 = some k := by
          rw [← hk]
          exact fst_cg fun x _ _ => by rw [← hokk, decide_eq_false c2]; rfl
        rw [this]
        exact ⟨_, rfl, fun _ _ => rfl⟩
    have hTn : fst ok (ac a 0) 0 = none → TR a = none := fun hn => by
      unfold TR
      by_cases c2 : aN a < 2
      · have := fst_none hn 0 (by omega) (by omega)
        rw [← hokk, decide_eq_true c2] at this
        cases this
      · rw [if_neg c2]
        have : fst (okF a) (ac a 0) 0 = none := by
          rw [← hn]
          exact fst_cg fun x _ _ => by rw [← hokk, decide_eq_false c2]; rfl
        rw [this]
    refine lp_wf (body := fb_X12_findTuned_63) (I := fun s => s.1.2 = τ1.2 ∧ (∀ q, q ≠ 91 → q ≠ 92 → s.1.1 q = τ1.1 q) ∧ ((∃ k, k ≤ ac a 0 ∧ s.2 = (0, nI k) ∧ ∀ x, x < k → ok x = false) ∨ (∃ k, fst ok (ac a 0) 0 = some k ∧ s.2 = (1, nI (k + 1)) ∧ ∀ i, i < aN a → s.1.1 92 i = nI (rW a k i)))) (m := fun s => 13 - s.2.2.toNatClampNeg) (P := fun X => ∃ ω, X = some (if (TR a).isSome = true then 1 else 0, ω) ∧ mEv ω a ∧ frm σ ω ∧ ∀ r, TR a = some r → ∀ i, i < aN a → ω.1 92 i = nI (r i)) ?_ nF _ (nF_big (by show 13 - _ < 4000; omega)) ⟨rfl, fun _ _ _ => rfl, Or.inl ⟨0, by omega, rfl, fun _ h => absurd h (Nat.not_lt_zero _)⟩⟩
    rintro ⟨τ, y⟩ ⟨b0, b1, h⟩
    have b0' : τ.2 = τ1.2 := b0
    have b1' : ∀ q, q ≠ 91 → q ≠ 92 → τ.1 q = τ1.1 q := b1
    have hEτ : mEv τ a := mE_f b1' hE1
    have hMτ : MB τ a := fun x hx y hy => by rw [b0']; exact hM1 x hx y hy
    have p2 : τ.1 84 0 = nI (aN a) := hEτ.1.1.1.trans hv.1.1.1
    have hck : f_X12_its τ 0 1 = some (nI (ac a 0)) := m_ck hv hEτ (show 0 < aN a by omega)
    have frτ : frm σ τ := fr τ (fun q q1 q2 => by rw [b1' q q1 q2, f1])
    rcases h with ⟨k, hk, hy, hno⟩ | ⟨k, hk, hy, hrow⟩
    · have hy2 : y = (0, nI k) := hy
      subst hy2
      by_cases c : k < ac a 0
      · left
        have hlt : nI k < nI (ac a 0) := (nn_lt (by omega) (by omega)).mpr c
        obtain ⟨υ, r1, r2, r3, r4⟩ := m_tunes hv hEτ hMτ (by omega) c
        rw [hokk] at r1 r4
        have hb : ∀ back, fb_X12_findTuned_63 back (τ, 0, nI k) = back (υ, b01 (ok k), nI (k + 1)) := fun back => by
          simp only [fb_X12_findTuned_63, sin_0_316, grd_true, tn_0, p2, if_pos hpos, hck, bd_some, if_pos hlt, if_true, r1, nI_1]
        refine ⟨(υ, b01 (ok k), nI (k + 1)), ⟨r2.trans b0', fun q q1 q2 => ?_, ?_⟩, ?_, hb⟩
        · show υ.1 q = _
          rw [r3 q q1 q2]
          exact b1' q q1 q2
        · cases hok : ok k with
          | false =>
            refine Or.inl ⟨k + 1, by omega, rfl, fun x hx => ?_⟩
            by_cases e : x = k
            · rw [e]; exact hok
            · exact hno x (by omega)
          | true => exact Or.inr ⟨k, fst_is (by omega) (by omega) hok (fun x _ hx => hno x hx), rfl, r4 hok⟩
        · show 13 - (nI (k + 1)).toNatClampNeg < 13 - (nI k).toNatClampNeg
          rw [nI_clamp (by omega), nI_clamp (by omega)]
          omega
      · right
        have ek : k = ac a 0 := by omega
        subst ek
        have hT := hTn (fst_non fun x _ hx => hno x (by omega))
        refine ⟨some (0, τ), ⟨τ, by rw [hT]; rfl, hEτ, frτ, fun r hr => by rw [hT] at hr; cases hr⟩, fun back => ?_⟩
        simp only [fb_X12_findTuned_63, sin_0_316, grd_true, tn_0, p2, if_pos hpos, hck, bd_some, Int32.lt_irrefl, if_false]
        rw [sbo_0, grd_true]
    · have hy2 : y = (1, nI (k + 1)) := hy
      subst hy2
      right
      obtain ⟨r, hr, hri⟩ := hTs k hk
      refine ⟨some (1, τ), ⟨τ, by rw [hr]; rfl, hEτ, frτ, fun r' hr' i hi => ?_⟩, fun back => ?_⟩
      · rw [hr] at hr'
        injection hr' with hr'
        subst hr'
        rw [hri i hi]
        exact hrow i hi
      · simp only [fb_X12_findTuned_63, sin_0_316, grd_true, tn_0, p2, if_pos hpos, hck, bd_some, z10, if_false]
        rw [sbo_1, grd_true]
        split <;> rfl
theorem tuF_frm {σ τ : sS} (h : tuF σ τ) : frm σ τ := fun q j hs => by rw [h q (by unfold scr at hs; omega)]
theorem op_tune (i : Int32) : Op (fun σ => f_X11_tune σ i) (fun σ => f_X12_tune σ i) := by
  refine Op_an fun σ a hv hc => ?_
  have h9 : aN a ≤ 9 := hv.1.1.2
  have n1 : σ.1 1 4 = nI (aN a) := hc.1.1.trans hv.1.1.1
  have n2 : ∀ {υ : sS}, mK (υ.1 84) a → υ.1 84 0 = nI (aN a) := fun h => h.1.1.trans hv.1.1.1
  by_cases ci : 0 ≤ i.toInt ∧ i.toInt < aN a
  rotate_left
  · exact ⟨-1, σ, by simp only [f_X11_tune, x_has n1 h9, bd_some, if_neg ci, if_true], frm_rf, fun υ hm => ⟨υ, by simp only [f_X12_tune, m_isAn (n2 hm) h9, bd_some, if_neg ci, if_true], frm_rf⟩⟩
  obtain ⟨j, hj, ej⟩ := i32_nI ci.1 ci.2 (by omega)
  have hin := sIn_nI (show j < 9 by omega) (show 9 < 2 ^ 31 by omega)
  have hcl := nI_clamp (show j < 2 ^ 31 by omega)
  obtain ⟨τ, e1, e2, e3, e4⟩ := x_askE hv hc
  obtain ⟨ψ, r1, r2, r3⟩ := x_findRow hv e2
  refine ⟨(match TR a with | some r => nI (r j) | none => -3), ψ, ?_, frm_tr e4 (tuF_frm r2), fun υ hm => ?_⟩
  · simp only [f_X11_tune, x_has n1 h9, bd_some, if_pos ci, z10, if_false, e1, r1]
    rw [ej]
    cases hT : TR a with
    | none => simp
    | some r =>
      have := r3 r hT j hj
      simp [grd_of hin, hcl, this]
  · obtain ⟨ω, g1, g2, g3, g4⟩ := m_findTuned hv hm
    refine ⟨ω, ?_, g3⟩
    simp only [f_X12_tune, m_isAn (n2 hm) h9, bd_some, if_pos ci, z10, if_false, g1]
    rw [ej]
    cases hT : TR a with
    | none => simp
    | some r =>
      have := g4 r hT j hj
      simp [grd_of hin, hcl, this]
def tA (a : aK) (r : Nat → Nat) : Nat → aK
  | 0 => a
  | k + 1 => aSet (tA a r k) 3 k (nI (r k))
theorem TR_lt {a : aK} (hv : vK a) {r : Nat → Nat} (h : TR a = some r) {i : Nat} (hi : i < aN a) : r i < 12 := by
  obtain ⟨_, h2, h12⟩ := ac_nI hv hi
  unfold TR at h
  split at h
  · injection h with h
    rw [← h]
    show 0 < 12
    omega
  · cases hf : fst (okF a) (ac a 0) 0 with
    | none => rw [hf] at h; cases h
    | some f =>
      rw [hf] at h
      injection h with h
      rw [← h]
      have hfl := fst_some hf
      have := rW_lt hv (show f < ac a 0 by omega) hi
      omega
theorem tA_n (a : aK) (r : Nat → Nat) : ∀ k, aN (tA a r k) = aN a
  | 0 => rfl
  | k + 1 => by
    show aN (aSet (tA a r k) 3 k (nI (r k))) = _
    rw [aN_ph, tA_n a r k]
theorem tA_v {a : aK} (hv : vK a) {r : Nat → Nat} (hr : ∀ i, i < aN a → r i < 12) : ∀ k, k ≤ aN a → vK (tA a r k)
  | 0, _ => hv
  | k + 1, hk => v_pha (tA_v hv hr k (by omega)) (ph_bt (hr k (by omega)))
theorem tA_p (a : aK) (r : Nat → Nat) : ∀ k i, k ≤ i → (tA a r k).1 3 i = a.1 3 i
  | 0, _, _ => rfl
  | k + 1, i, h => by
    show (aSet (tA a r k) 3 k (nI (r k))).1 3 i = _
    rw [aS_ne _ _ (by omega), tA_p a r k i (by omega)]
def oT (a : aK) (r : Nat → Nat) (i : Nat) : Bool := !decide (a.1 3 i = nI (r i))
theorem op_tuneAll : Op (fun σ => f_X11_tuneAll σ) (fun σ => f_X12_tuneAll σ) := by
  intro σ hR
  have hR0 := hR
  obtain ⟨⟨a, hv, hc, hm⟩, o1, oR⟩ := hR
  have h9 : aN a ≤ 9 := hv.1.1.2
  obtain ⟨τ, e1, e2, e3, e4⟩ := x_askE hv hc
  obtain ⟨ψ, r1, r2, r3⟩ := x_findRow hv e2
  have fψ : frm σ ψ := frm_tr e4 (tuF_frm r2)
  cases hT : TR a with
  | none =>
    obtain ⟨ω, g1, g2, g3, g4⟩ := m_findTuned (σ := ψ) hv (by rw [frm_84 fψ]; exact hm)
    rw [hT] at r1 g1
    refine ⟨-3, ψ, ω, ?_, ?_, Rel_frm (frm_tr fψ g3) hR0⟩
    · simp only [f_X11_tuneAll, e1, bd_some, r1]
      simp
    · simp only [f_X12_tuneAll, g1, bd_some]
      simp
  | some r =>
    have hr := fun i (hi : i < aN a) => TR_lt hv hT hi
    have hrow := r3 r hT
    have hcψ : cK ψ a := cE_lo (fun q hq => r2 q (by omega)) e2 |>.1
    have hcn := cN_le (oT a r)
    -- the class
    have hX : ∃ χ, fl_X11_tuneAll_28 (ψ, 0, 0) = some (nI (cN (oT a r) (aN a)), χ) ∧ cK χ (tA a r (aN a)) ∧ ∀ q, q ≠ 4 → χ.1 q = ψ.1 q := by
      unfold fl_X11_tuneAll_28
      refine lp_inv (body := fb_X11_tuneAll_28) (I := fun k p => p.2 = (nI (cN (oT a r) k), nI k) ∧ cK p.1 (tA a r k) ∧ ∀ q, q ≠ 4 → p.1.1 q = ψ.1 q) (e := aN a) (P := fun X => ∃ χ, X = some (nI (cN (oT a r) (aN a)), χ) ∧ cK χ (tA a r (aN a)) ∧ ∀ q, q ≠ 4 → χ.1 q = ψ.1 q) ?_ ?_ nF 0 (ψ, 0, 0) (by omega) (nF_big (by omega)) ⟨rfl, hcψ, fun _ _ => rfl⟩
      · rintro k hk ⟨χ, y⟩ ⟨hy, b1, b2⟩ back
        have hy2 : y = (nI (cN (oT a r) k), nI k) := hy
        subst hy2
        have b1' : cK χ (tA a r k) := b1
        have b2' : ∀ q, q ≠ 4 → χ.1 q = ψ.1 q := b2
        have m1 : χ.1 1 4 = nI (aN a) := by rw [b2' 1 (by omega)]; exact hcψ.1.1.trans hv.1.1.1
        have hlt : nI k < nI (aN a) := (nn_lt (by omega) (by omega)).mpr hk
        have hin := sIn_nI (show k < 9 by omega) (show 9 < 2 ^ 31 by omega)
        have hcl := nI_clamp (show k < 2 ^ 31 by omega)
        have ph : χ.1 4 k = a.1 3 k := by rw [(b1'.2.1 k (by rw [tA_n]; exact hk)).2.2.1, tA_p a r k k (Nat.le_refl _)]
        have rk : χ.1 56 k = nI (r k) := by rw [b2' 56 (by omega)]; exact hrow k hk
        have rk2 : (sI χ 4 k (nI (r k))).1 56 k = nI (r k) := by rw [sI_off _ _ _ _ (by omega)]; exact rk
        refine ⟨(sI χ 4 k (nI (r k)), nI (cN (oT a r) (k + 1)), nI (k + 1)), ⟨rfl, c_an (r := 3) (by omega) (by omega) k (nI (r k)) b1', fun q hq => ?_⟩, ?_⟩
        · show (sI χ 4 k _).1 q = _
          rw [sI_off _ _ _ _ hq]
          exact b2' q hq
        · have hcs : cN (oT a r) (k + 1) = (if oT a r k = true then cN (oT a r) k + 1 else cN (oT a r) k) := rfl
          rw [hcs]
          simp only [fb_X11_tuneAll_28, m1, if_pos hlt, grd_of hin, hcl, rk, f_X11_replaced_b, pt_eq, bd_some, ph, rk2, nI_1]
          unfold oT
          by_cases c : a.1 3 k = nI (r k)
          · simp [c]
          · simp [c]
      · rintro ⟨χ, y⟩ ⟨hy, b1, b2⟩ back
        have hy2 : y = (nI (cN (oT a r) (aN a)), nI (aN a)) := hy
        subst hy2
        have b2' : ∀ q, q ≠ 4 → χ.1 q = ψ.1 q := b2
        have m1 : χ.1 1 4 = nI (aN a) := by rw [b2' 1 (by omega)]; exact hcψ.1.1.trans hv.1.1.1
        exact ⟨χ, by simp only [fb_X11_tuneAll_28, m1, Int32.lt_irrefl, if_false], b1, b2⟩
    obtain ⟨χ, x1, x2, x3⟩ := hX
    have hmχ : mK (χ.1 84) a := by rw [x3 84 (by omega), frm_84 fψ]; exact hm
    obtain ⟨ω, g1, g2, g3, g4⟩ := m_findTuned hv hmχ
    have hrow2 := g4 r hT
    have hMod : ∃ φ, fl_X12_tuneAll_14 (ω, 0, 0) = some (nI (cN (oT a r) (aN a)), φ) ∧ mK (φ.1 84) (tA a r (aN a)) ∧ ∀ q, q ≠ 84 → φ.1 q = ω.1 q := by
      unfold fl_X12_tuneAll_14
      refine lp_inv (body := fb_X12_tuneAll_14) (I := fun k p => p.2 = (nI (cN (oT a r) k), nI k) ∧ mK (p.1.1 84) (tA a r k) ∧ ∀ q, q ≠ 84 → p.1.1 q = ω.1 q) (e := aN a) (P := fun X => ∃ φ, X = some (nI (cN (oT a r) (aN a)), φ) ∧ mK (φ.1 84) (tA a r (aN a)) ∧ ∀ q, q ≠ 84 → φ.1 q = ω.1 q) ?_ ?_ nF 0 (ω, 0, 0) (by omega) (nF_big (by omega)) ⟨rfl, g2.1, fun _ _ => rfl⟩
      · rintro k hk ⟨φ, y⟩ ⟨hy, b1, b2⟩ back
        have hy2 : y = (nI (cN (oT a r) k), nI k) := hy
        subst hy2
        have b1' : mK (φ.1 84) (tA a r k) := b1
        have b2' : ∀ q, q ≠ 84 → φ.1 q = ω.1 q := b2
        have hvk := tA_v hv hr k (by omega)
        have hkk : k < aN (tA a r k) := by rw [tA_n]; exact hk
        have m2 : φ.1 84 0 = nI (aN a) := by rw [b1'.1.1, hvk.1.1.1, tA_n]
        have hlt : nI k < nI (aN a) := (nn_lt (by omega) (by omega)).mpr hk
        have hin := sIn_nI (show k < 9 by omega) (show 9 < 2 ^ 31 by omega)
        have hcl := nI_clamp (show k < 2 ^ 31 by omega)
        have ph : f_X12_its φ (nI k) 2 = some (a.1 3 k) := by rw [m_its2 hvk b1' hkk, tA_p a r k k (Nat.le_refl _)]
        have rk : φ.1 92 k = nI (r k) := by rw [b2' 92 (by omega)]; exact hrow2 k hk
        refine ⟨(sI φ 84 (8 + 4 * k) (nI (r k)), nI (cN (oT a r) (k + 1)), nI (k + 1)), ⟨rfl, m_pha hvk hkk (nI (r k)) b1', fun q hq => ?_⟩, ?_⟩
        · show (sI φ 84 (8 + 4 * k) _).1 q = _
          rw [sI_off _ _ _ _ hq]
          exact b2' q hq
        · have hcs : cN (oT a r) (k + 1) = (if oT a r k = true then cN (oT a r) k + 1 else cN (oT a r) k) := rfl
          rw [hcs]
          simp only [fb_X12_tuneAll_14, sin_0_316, grd_true, tn_0, m2, if_pos hlt, ph, bd_some, grd_of hin, hcl, rk, fj_X12_tuneAll_45, m_at2, grd_of (sIn_nI (show 8 + 4 * k < 316 by omega) (show 316 < 2 ^ 31 by omega)), nI_clamp (show 8 + 4 * k < 2 ^ 31 by omega), pt_eq, nI_1]
          unfold oT
          by_cases c : a.1 3 k = nI (r k)
          · simp [c]
          · simp [c]
      · rintro ⟨φ, y⟩ ⟨hy, b1, b2⟩ back
        have hy2 : y = (nI (cN (oT a r) (aN a)), nI (aN a)) := hy
        subst hy2
        have b1' : mK (φ.1 84) (tA a r (aN a)) := b1
        have hvk := tA_v hv hr (aN a) (Nat.le_refl _)
        have m2 : φ.1 84 0 = nI (aN a) := by rw [b1'.1.1, hvk.1.1.1, tA_n]
        exact ⟨φ, by simp only [fb_X12_tuneAll_14, sin_0_316, grd_true, tn_0, m2, Int32.lt_irrefl, if_false], b1, b2⟩
    obtain ⟨φ, y1, y2, y3⟩ := hMod
    have hall : ∀ q j, ¬ scr q j → q ≠ 4 → q ≠ 84 → φ.1 q j = σ.1 q j := fun q j hs h4 h84 => by
      rw [y3 q h84, g3 q j hs, x3 q h4, fψ q j hs]
    refine ⟨nI (cN (oT a r) (aN a)), χ, φ, ?_, ?_, ⟨tA a r (aN a), tA_v hv hr _ (Nat.le_refl _), cK_of (fun q j g => ?_) x2, y2⟩, rKept_of (fun q j g => ?_) o1, rRest_of (fun q j g => ?_) oR⟩
    · rw [hT] at r1
      simp only [f_X11_tuneAll, e1, bd_some, r1]
      exact x1
    · rw [hT] at g1
      show f_X12_tuneAll χ = _
      simp only [f_X12_tuneAll, g1, bd_some]
      exact y1
    · have := pCur_r g
      rw [y3 q (by omega), g3 q j (by unfold scr; omega)]
    · have := pKep_q g
      exact hall q j (by unfold scr; omega) (by omega) (by omega)
    · unfold pRest at g
      have g2 : pTap q j = true ∨ pRow q j = true ∨ pShe q j = true ∨ pShf q j = true ∨ pTra q j = true := by simpa using g
      rcases g2 with g | g | g | g | g
      · have : q = 45 ∨ q = 50 ∨ q = 52 ∨ q = 97 ∨ (q = 83 ∧ j = 18) := by unfold pTap at g; simp at g; omega
        exact hall q j (by unfold scr; omega) (by omega) (by omega)
      · have : q = 67 ∨ q = 68 ∨ q = 96 ∨ (q = 83 ∧ j = 16) := by unfold pRow at g; simp at g; omega
        exact hall q j (by unfold scr; omega) (by omega) (by omega)
      · have := pShe_q g
        exact hall q j (by unfold scr; omega) (by omega) (by omega)
      · have := pShf_q g
        exact hall q j (by unfold scr; omega) (by omega) (by omega)
      · have : q = 81 ∨ q = 82 ∨ q = 104 ∨ (q = 83 ∧ j = 32) := by unfold pTra at g; simp at g; omega
        exact hall q j (by unfold scr; omega) (by omega) (by omega)
