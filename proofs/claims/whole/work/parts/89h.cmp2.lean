/-! THE RULES: one comparison, in both -/
theorem nI_ne3 {v : Nat} (h : v < 2 ^ 31) : ¬ nI v = -3 := nI_nm3 h
theorem x_sign {b : Nat → Int32} {L N r : Nat} {σ0 σ : sS} {t c : Nat} (hB : CB b L N r σ0) (hs : CS N r σ0 σ t c) {x : Nat} (hx : x < 11000) (ht : tkn b L (plc b L t) = nI x) : f_X6_signHere σ = some (if 160 ≤ x ∧ x ≤ 162 then nI (x - 159) else -3) := by
  obtain ⟨k1, k2, k3, k4⟩ := cb_tk hB hs
  have s1 := hs.1
  have a1 : nI x = (160 : Int32) ↔ x = 160 := nI_eq (a := x) (b := 160) (by omega) (by omega)
  have a2 : nI x = (161 : Int32) ↔ x = 161 := nI_eq (a := x) (b := 161) (by omega) (by omega)
  have a3 : nI x = (162 : Int32) ↔ x = 162 := nI_eq (a := x) (b := 162) (by omega) (by omega)
  unfold f_X6_signHere
  simp only [hs.2.1, grd_of (sIn_nI (show t < 201 by omega) (show 201 < 2 ^ 31 by omega)), nI_clamp (show t < 2 ^ 31 by omega), k1, ht]
  by_cases c1 : x = 160
  · rw [if_pos (a1.mpr c1), if_pos (by omega), c1]; rfl
  · rw [if_neg (mt a1.mp c1)]
    by_cases c2 : x = 161
    · rw [if_pos (a2.mpr c2), if_pos (by omega), c2]; rfl
    · rw [if_neg (mt a2.mp c2)]
      by_cases c3 : x = 162
      · rw [if_pos (a3.mpr c3), if_pos (by omega), c3]; rfl
      · rw [if_neg (mt a3.mp c3), if_neg (by omega)]
theorem d_cmpT {b : Nat → Int32} {L : Nat} {υ0 υ : sS} {t : Nat} (hs : MD b L υ0 υ t) (w : Int32) : (if w = 60 then fj_X12_comparison_80 υ (-11) else (if w = 61 then fj_X12_comparison_80 υ (-12) else fj_X12_comparison_80 υ (-13))) = some υ := by
  unfold fj_X12_comparison_80
  rw [d_writes hs, d_writes hs, d_writes hs, bd_some]
  simp only [ite_self]
theorem d_cmp48 {b : Nat → Int32} {L : Nat} {υ0 υ τ : sS} {t : Nat} (hM : MT υ0 b L) (hL : L ≤ 200) (hb : ∀ k, k < L → bt (b k) 0 255) {y : Int32} (h1 : f_X12_needs υ y = some τ) (h2 : MD b L υ0 τ t) (w : Int32) : fj_X12_comparison_48 υ w y = some τ := by
  unfold fj_X12_comparison_48
  rw [h1, bd_some, d_value hM hL hb h2, bd_some, d_cmpT h2]
theorem d_cmp {b : Nat → Int32} {L : Nat} {υ0 υ : sS} {t : Nat} (hM : MT υ0 b L) (hL : L ≤ 200) (hb : ∀ k, k < L → bt (b k) 0 255) (hs : MD b L υ0 υ t) : ∃ τ, f_X12_comparison υ = some τ ∧ MD b L υ0 τ t := by
  obtain ⟨τ, h1, h2⟩ := d_needs hs 0
  refine ⟨τ, ?_, h2⟩
  unfold f_X12_comparison fj_X12_comparison_23
  rw [d_value hM hL hb hs, bd_some, if_neg (MD_ne hs), if_neg (by decide), if_neg (by decide), if_neg (by decide), d_cmp48 hM hL hb h1 h2]
theorem cmp_sim {b : Nat → Int32} {L N r : Nat} {σ0 υ0 σ υ : sS} {t c m o : Nat} (hB : CB b L N r σ0) (hM : MT υ0 b L) (hs : CS N r σ0 σ t c) (hm : MS b L υ0 υ t m o) (hc : 2 * c ≤ plc b L t) (hle : m ≤ plc b L t) (K : Nat) : RS b L N r σ0 υ0 K o 0 t c m σ υ (f_X6_readComparison σ) (f_X12_comparison υ) := by
  have hb := hB.2.2.2.2.2.2.2
  have hL := hB.2.2.1
  obtain ⟨h46, hr⟩ := hB.2.2.2.2.2.2.1
  unfold f_X6_readComparison f_X12_comparison
  rcases val_sim hB hM hs hm hle with ⟨vc, vm, υ1, e1, e2, e3, e4, e5, e6, e7, e8, e9⟩ | ⟨e1, υ1, e4, e5⟩
  · have hp0 : plc b L t < L := (cb_lt hB hs.1).mpr e3
    have hup0 := plc_up hp0
    obtain ⟨q1, q2, q3⟩ := CS_next hB hs e3
    rw [e1, bd_some, if_neg (nI_ne3 (by omega)), q1, pt_eq, e4, bd_some, if_pos e5.2.2.1, m_by hM hL e5, bd_some]
    obtain ⟨x, hx, ht⟩ := tkn_val (b := b) (L := L) (p := plc b L (t + 1)) hb
    have hby : ∀ s, 1 ≤ s → s < 4 → (byV b L (plc b L (t + 1)) = nI (59 + s) ↔ x = 159 + s) := fun s h1 h2 => by
      have : s = 1 ∨ s = 2 ∨ s = 3 := by omega
      rw [by_tk hb (by rcases this with e | e | e <;> subst e <;> decide) (by rcases this with e | e | e <;> subst e <;> decide) (by omega), ht, nI_eq (by omega) (by omega)]
      omega
    rw [x_sign hB q2 hx ht, bd_some]
    by_cases cs : 160 ≤ x ∧ x ≤ 162
    · obtain ⟨s, hs1⟩ : ∃ s, s = x - 159 := ⟨_, rfl⟩
      have hp1 : plc b L (t + 1) < L := by
        by_cases g : plc b L (t + 1) < L
        · exact g
        · have := tkn_end (b := b) g
          rw [ht] at this
          have := nI_inj (by omega) (by omega) this
          omega
      have ht1 : t + 1 < N := (cb_lt hB q2.1).mp hp1
      have hup1 := plc_up hp1
      obtain ⟨p1, p2, p3⟩ := CS_next hB q2 ht1
      rw [if_pos cs, ← hs1, if_neg (nI_ne3 (by omega)), p1, pt_eq]
      have hw : byV b L (plc b L (t + 1)) = nI (59 + s) := (hby s (by omega) (by omega)).mpr (by omega)
      obtain ⟨υ2, a1, a2, a3⟩ := ms_next hM hL e5 hp1
      have e23 : fj_X12_comparison_23 υ1 (byV b L (plc b L (t + 1))) = bd (f_X12_valueHere υ2) fun r3 => fj_X12_comparison_80 r3 (mOp s) := by
        rw [hw]
        have h3 : s = 1 ∨ s = 2 ∨ s = 3 := by omega
        rcases h3 with e | e | e
        · subst e
          unfold fj_X12_comparison_23 fj_X12_comparison_43 fj_X12_comparison_48
          rw [if_pos (show nI (59 + 1) = 60 from rfl), a1, bd_some]
          simp only [if_pos (show nI (59 + 1) = 60 from rfl)]
          rfl
        · subst e
          unfold fj_X12_comparison_23 fj_X12_comparison_43 fj_X12_comparison_48
          rw [if_neg (show ¬ nI (59 + 2) = 60 by decide), if_pos (show nI (59 + 2) = 61 from rfl), a1, bd_some]
          simp only [if_neg (show ¬ nI (59 + 2) = 60 by decide), if_pos (show nI (59 + 2) = 61 from rfl)]
          rfl
        · subst e
          unfold fj_X12_comparison_23 fj_X12_comparison_43 fj_X12_comparison_48
          rw [if_neg (show ¬ nI (59 + 3) = 60 by decide), if_neg (show ¬ nI (59 + 3) = 61 by decide), if_pos (show nI (59 + 3) = 62 from rfl), a1, bd_some]
          simp only [if_neg (show ¬ nI (59 + 3) = 60 by decide), if_neg (show ¬ nI (59 + 3) = 61 by decide)]
          rfl
      rw [e23]
      rcases val_sim hB hM p2 a2 (by omega) with ⟨wc, wm, υ3, f1, f2, f3, f4, f5, f6, f7, f8, f9⟩ | ⟨f1, υ3, f4, f5⟩
      · have hp2 : plc b L (t + 1 + 1) < L := (cb_lt hB p2.1).mpr f3
        have hup2 := plc_up hp2
        have hle3 := plc_le b L (t + 1 + 1 + 1)
        obtain ⟨r1, r2, r3⟩ := CS_next hB p2 f3
        obtain ⟨k1, k2, k3, k4⟩ := cb_tk hB r2
        obtain ⟨τ, g1, g2, g3, g4⟩ := x_emit k3 hr r2 (show c < 100 by omega) (nI (cw s vc wc))
        obtain ⟨υ4, w1, w2, w3, w4⟩ := m_writes f5 (show m + 1 + 1 < 200 by omega) (mOp s)
        refine Or.inl ⟨τ, υ4, t + 1 + 1 + 1, c + 1, m + 1 + 1 + 1, fun f => sg3 s (cVal (nI vc) f) (cVal (nI wc) f), ?_, ?_, g2, w2, fun k hk => ?_, fun k hk => ?_, sgC_cmp (by omega) (by omega) e2 f2 g3 K, ?_, by omega, by omega, by omega⟩
        · rw [f1, bd_some, if_neg (nI_ne3 (by omega)), r1, pt_eq]
          unfold f_X5_comparison
          rw [bd_some, cw_is (by omega) e2 f2, g1, bd_some]
        · rw [f4, bd_some]
          unfold fj_X12_comparison_80
          rw [w1, bd_some]
        · rw [g4 k (by omega), r3, p3, q3]
        · rw [w4 k (by omega), f7 k (by omega), a3 84 k (by omega), e7 k (by omega)]
        · have := sgM_cmp (co := fun k => υ4.1 84 (116 + k)) (c := m) (s := s) (l := vm) (r := wm) (by omega) (by omega) e8 f8 (by
            show υ4.1 84 (116 + m) = vm
            rw [w4 _ (by omega), f7 _ (by omega), a3 84 _ (by omega), e6]) (by
            show υ4.1 84 (116 + (m + 1)) = wm
            rw [w4 _ (by omega), f6]) (by
            show υ4.1 84 (116 + (m + 2)) = mOp s
            rw [← w3])
          refine ⟨this.1, fun f st => ?_⟩
          have h := this.2 f st
          show _ = some ((if sg3 s (cVal (nI vc) f) (cVal (nI wc) f) = true then (1 : Int32) else 0) :: st)
          rw [show m + 1 + 1 + 1 = m + 3 by omega, e9 f, f9 f]
          exact h
      · obtain ⟨υ4, d1, d2⟩ := d_needs f5 0
        refine Or.inr ⟨_, υ3, t + 1 + 1, c, ?_, ?_, p2, f5⟩
        · rw [f1, bd_some, if_pos rfl]
        · rw [f4, bd_some]
          unfold fj_X12_comparison_80
          rw [d_writes f5, bd_some]
    · obtain ⟨υ2, a1, a2⟩ := m_fail0 e5
      refine Or.inr ⟨_, υ2, t + 1, c, by rw [if_neg cs, if_pos rfl], ?_, q2, a2⟩
      have n1 : ¬ byV b L (plc b L (t + 1)) = 60 := fun g => by have := (hby 1 (by omega) (by omega)).mp g; omega
      have n2 : ¬ byV b L (plc b L (t + 1)) = 61 := fun g => by have := (hby 2 (by omega) (by omega)).mp g; omega
      have n3 : ¬ byV b L (plc b L (t + 1)) = 62 := fun g => by have := (hby 3 (by omega) (by omega)).mp g; omega
      unfold fj_X12_comparison_23
      rw [if_neg n1, if_neg n2, if_neg n3, d_cmp48 hM hL hb a1 a2]
  · obtain ⟨υ2, a1, a2⟩ := d_needs e5 0
    refine Or.inr ⟨σ, υ2, t, c, by rw [e1, bd_some, if_pos rfl], ?_, hs, a2⟩
    unfold fj_X12_comparison_23
    rw [e4, bd_some, if_neg (MD_ne e5), if_neg (by decide), if_neg (by decide), if_neg (by decide), d_cmp48 hM hL hb a1 a2]
