/-! THE RULES: both answer alike -/
theorem rest_of {σ τ : sS} (hRo : rRows σ) (hSh : rSheets σ) (hSf : rShelves σ) (hTr : rTrace σ) (hK : rKept σ) (h : ∀ q j, (q = 0 ∨ (23 ≤ q ∧ q ≤ 44) ∨ (67 ≤ q ∧ q ≤ 82) ∨ (q = 83 ∧ (j < 18 ∨ 24 < j)) ∨ q = 85 ∨ (96 ≤ q ∧ q ≤ 104)) → τ.1 q j = σ.1 q j) : rRows τ ∧ rSheets τ ∧ rShelves τ ∧ rTrace τ ∧ rKept τ := by
  refine ⟨rRows_of (fun q j g => h q j ?_) hRo, rSheets_of (fun q j g => h q j ?_) hSh, rShelves_of (fun q j g => h q j ?_) hSf, rTrace_of (fun q j g => h q j ?_) hTr, rKept_of (fun q j g => h q j ?_) hK⟩
  · have : q = 67 ∨ q = 68 ∨ q = 96 ∨ (q = 83 ∧ j = 16) := by unfold pRow at g; simp at g; omega
    omega
  · have : (70 ≤ q ∧ q ≤ 76) ∨ (98 ≤ q ∧ q ≤ 100) := by unfold pShe at g; simp at g; omega
    omega
  · have : (78 ≤ q ∧ q ≤ 80) ∨ (101 ≤ q ∧ q ≤ 103) := by unfold pShf at g; simp at g; omega
    omega
  · have : q = 81 ∨ q = 82 ∨ q = 104 ∨ (q = 83 ∧ j = 32) := by unfold pTra at g; simp at g; omega
    omega
  · have := pKep_q g
    omega
theorem tape_0 {τ : sS} (h45 : τ.1 45 1 = 0) (h83 : τ.1 83 18 = 0) (h50 : τ.1 50 0 = 0) : rTape τ := ⟨0, ⟨Nat.zero_le _, h50⟩, h45, h83, fun k hk => absurd hk (Nat.not_lt_zero _)⟩
theorem op_rules : Op (fun σ => f_X11_rules σ) (fun σ => f_X12_rules σ) := by
  intro σ hR
  obtain ⟨⟨a, hv, hc, hm⟩, hK, ⟨L, ⟨hL, h50⟩, h45, h83, htp⟩, hRo, hSh, hSf, hTr⟩ := hR
  obtain ⟨b, hb⟩ : ∃ b, b = σ.1 52 := ⟨_, rfl⟩
  obtain ⟨σB, N, xe, ⟨p1, p2, p3, p4, p5⟩, p54, q45, q46, qF⟩ := x_pre h45 hL (fun k hk => (htp k hk).2)
  rw [← hb] at p3 p4 p5 p54
  have hbt : ∀ k, k < L → bt (b k) 0 255 := fun k hk => by rw [hb]; exact (htp k hk).2
  have hMσ : MT σ b L := ⟨h83, fun k hk => by rw [hb]; exact (htp k hk).1.symm⟩
  have hB50 : σB.1 50 0 = 0 := by rw [qF 50 0 (by omega) (by omega) (by omega) (by omega)]; exact h50
  have run : ∀ υB, MT υB b L → υB.1 84 1 = 0 → MS b L υB υB 0 0 0 → LR b L N σB υB (fl_X6_read_18 (σB, 0)) (fl_X12_rules_35 υB) := fun υB h1 h2 h3 =>
    read_sim (rs := []) ⟨p1, p2, hL, p3, p4, p5, hbt, h1⟩ 200 (by omega) (nF_big (by omega)) (nF_big (by omega)) (BD_0 q45 q46 hB50 h2 h3)
  have pre : ∀ υ0, MT υ0 b L → ∃ υ, f_X12_rules υ0 = fl_X12_rules_35 υ ∧ LR b L N σB υ (fl_X6_read_18 (σB, 0)) (fl_X12_rules_35 υ) ∧ (∀ j, j < 316 → υ.1 86 j = υ0.1 84 j) ∧ ∀ q j, q ≠ 86 → ¬ (q = 84 ∧ j = 1) → ¬ (q = 83 ∧ 19 ≤ j ∧ j ≤ 24) → υ.1 q j = υ0.1 q j := fun υ0 h0 => by
    obtain ⟨υ, e1, e2, e3, e4, e5⟩ := m_pre h0 hL
    exact ⟨υ, e1, run υ ⟨by rw [e5 83 18 (by omega) (by omega) (by omega)]; exact h0.1, fun k hk => by rw [e5 97 k (by omega) (by omega) (by omega)]; exact h0.2 k hk⟩ e2 e3, e4, e5⟩
  obtain ⟨υd, _, hd, _, _⟩ := pre σ hMσ
  rcases hd with ⟨τ, ψd, td, cd, md, rd, hX, _, hDd⟩ | ⟨τ, ψd, t, hX, _, ht, h456, hFC, _, _, _⟩
  · -- taken over
    have hFC := hDd.2.2.2.2.1
    obtain ⟨σ1, k0, k1, k2, k3, k4, k5, k6, k7⟩ := x_copyA (sI τ 45 1 0)
    have A : ∀ q j, (q < 6 ∨ 11 < q) → (q < 45 ∨ 54 < q ∨ q = 52 ∨ (q = 50 ∧ j = 0)) → σ1.1 q j = σ.1 q j := fun q j a1 a2 => by
      rw [k1 q a1, sI_off _ _ _ _ (by omega), hFC q j (by omega) (by omega) (by omega) (by omega) (by omega), qF q j (by omega) (by omega) (by omega) (by omega)]
    have hM1 : MT σ1 b L := ⟨by rw [A 83 18 (by omega) (by omega)]; exact h83, fun k hk => by rw [A 97 k (by omega) (by omega)]; exact hMσ.2 k hk⟩
    obtain ⟨υ, u1, hLR, u3, u4⟩ := pre σ1 hM1
    rcases hLR with ⟨τ', ψ, t, c, m, rs, hX', hY, hD⟩ | ⟨τ', ψ, t, hX', _⟩
    · have eτ : τ' = τ := by
        rw [hX] at hX'
        exact (congrArg Prod.snd (Option.some.inj hX')).symm
      subst eτ
      obtain ⟨⟨d1, d2, d3, d4, d5, d6, d7⟩, ⟨ss, s1, s2, s3, s4, s5⟩, ⟨zz, z1, z2, z3, z4⟩, ⟨n1, n2⟩, _, hFB⟩ := hD
      have hple := plc_le b L t
      have G : ∀ q j, q < 83 → (sI ψ 83 18 0).1 q j = σ1.1 q j := fun q j hq => by
        rw [sI_off _ _ _ _ (by omega), hFB q j (by omega) (by omega), u4 q j (by omega) (by omega) (by omega)]
      have F : ∀ q j, (q < 6 ∨ 11 < q) → (q < 45 ∨ 54 < q ∨ q = 52 ∨ (q = 50 ∧ j = 0)) → q ≠ 86 → ¬ (q = 84 ∧ (j = 1 ∨ 84 ≤ j)) → ¬ (q = 83 ∧ 18 ≤ j ∧ j ≤ 24) → (sI ψ 83 18 0).1 q j = σ.1 q j := fun q j a1 a2 a3 a4 a5 => by
        have e : (sI ψ 83 18 0).1 q j = ψ.1 q j := by
          rw [sI_r]
          by_cases e : q = 83
          · rw [if_pos e, if_neg (by omega), e]
          · rw [if_neg e]
        rw [e, hFB q j (by omega) a4, u4 q j a3 (by omega) (by omega), A q j a1 a2]
      have R : ∀ q, (q < 6 ∨ 11 < q) → (q < 45 ∨ 54 < q ∨ q = 52) → q < 83 → (sI ψ 83 18 0).1 q = σ.1 q := fun q a1 a2 a3 => funext fun j => F q j a1 (by omega) (by omega) (by omega) (by omega)
      obtain ⟨r1, r2, r3, r4, r5⟩ := rest_of (τ := sI ψ 83 18 0) hRo hSh hSf hTr hK (fun q j g => F q j (by omega) (by omega) (by omega) (by omega) (by omega))
      have hss : ∀ r, r ≤ rs.length → ss r ≤ 100 := fun r hr => by
        have := ss_le s4 r hr
        omega
      have hzz : ∀ r, r ≤ rs.length → zz r ≤ 200 := fun r hr => by
        have := ss_le (fun r hr => (z3 r hr).2) r hr
        omega
      refine ⟨nI rs.length, σ1, sI ψ 83 18 0, ?_, ?_, ⟨⟨(a.1, rs), ⟨hv.1, hv.2.1, hv.2.2.1, hv.2.2.2.1, d4, d7⟩, ?_, ?_⟩, r5, tape_0 ?_ (sI_same _ _ _ _) ?_, r1, r2, r3, r4⟩⟩
      · show f_X11_rules σ = _
        unfold f_X11_rules
        rw [xe, hX, bd_some, pt_eq, if_neg one_n0, k0, bd_some, k2, sI_off _ _ _ _ (by omega), d3]
      · show f_X12_rules σ1 = _
        rw [u1, hY]
        unfold fj_X12_rules_60
        have g1 : sIn 1 316 = true := sIn_nI (show 1 < 316 by omega) (by omega)
        have e1 : (1 : Int32).toNatClampNeg = 1 := rfl
        have h24 : (sI ψ 83 18 0).1 83 24 = 0 := by rw [sI_r, if_pos rfl, if_neg (by omega)]; exact n2.2.2.1
        have h841 : (sI ψ 83 18 0).1 84 1 = nI rs.length := by rw [sI_off _ _ _ _ (by omega)]; exact n1
        rw [pt_eq, if_pos h24, grd_of g1, e1, h841]
      · obtain ⟨g1, g2, g3, g4, g5⟩ := hc
        have e6 : (sI ψ 83 18 0).1 6 5 = nI rs.length := by rw [G 6 5 (by omega), k2, sI_off _ _ _ _ (by omega), d3]
        refine ⟨by rw [R 1 (by omega) (by omega) (by omega), R 15 (by omega) (by omega) (by omega), R 19 (by omega) (by omega) (by omega)]; exact g1, fun i hi => by rw [R 2 (by omega) (by omega) (by omega), R 3 (by omega) (by omega) (by omega), R 4 (by omega) (by omega) (by omega), R 5 (by omega) (by omega) (by omega)]; exact g2 i hi, fun i hi => by rw [R 16 (by omega) (by omega) (by omega), R 17 (by omega) (by omega) (by omega), R 18 (by omega) (by omega) (by omega)]; exact g3 i hi, fun i hi => by rw [R 20 (by omega) (by omega) (by omega), R 21 (by omega) (by omega) (by omega), R 22 (by omega) (by omega) (by omega)]; exact g4 i hi, e6, ss, s1, fun r hr => ⟨?_, hss r hr⟩, s4, fun r x hx => ?_⟩
        · rw [G 10 r (by omega), k6 r (by have : r ≤ rs.length := hr; omega), sI_off _ _ _ _ (by omega)]
          exact s3 r hr
        · have hr : r < rs.length := rs_lt hx
          obtain ⟨y1, y2, y3, y4⟩ := s5 r x hx
          refine ⟨by rw [G 7 r (by omega), k3 r (by omega), sI_off _ _ _ _ (by omega)]; exact y1, by rw [G 8 r (by omega), k4 r (by omega), sI_off _ _ _ _ (by omega)]; exact y2, by rw [G 9 r (by omega), k5 r (by omega), sI_off _ _ _ _ (by omega)]; exact y3, fun f => ?_⟩
          have h100 := hss (r + 1) (by omega)
          have hmo := s4 r hr
          rw [cRun_cg (co := τ'.1 51) _ _ _ (fun j _ hj => by rw [G 11 j (by omega), k7 j (by omega), sI_off _ _ _ _ (by omega)])]
          exact y4 f
      · obtain ⟨g1, g2, g3, g4, g5⟩ := hm
        have h9 : aN a ≤ 9 := hv.1.1.2
        have h8 : aM a ≤ 8 := hv.1.2.1.2
        have h6 : aP a ≤ 6 := hv.1.2.2.1.2
        have M : ∀ j, j < 84 → j ≠ 1 → (sI ψ 83 18 0).1 84 j = σ.1 84 j := fun j a1 a2 => F 84 j (by omega) (by omega) (by omega) (by omega) (by omega)
        have P : (sI ψ 83 18 0).1 84 = ψ.1 84 := sI_off _ _ _ _ (by omega)
        refine ⟨by rw [M 0 (by omega) (by omega), M 4 (by omega) (by omega), M 5 (by omega) (by omega), M 2 (by omega) (by omega), M 3 (by omega) (by omega)]; exact g1, fun i hi => ?_, fun i hi => ?_, fun i hi => ?_, ?_⟩
        · have hi2 : i < aN a := hi
          rw [M _ (by omega) (by omega), M _ (by omega) (by omega), M _ (by omega) (by omega), M _ (by omega) (by omega)]; exact g2 i hi
        · have hi2 : i < aM a := hi
          rw [M _ (by omega) (by omega), M _ (by omega) (by omega), M _ (by omega) (by omega)]; exact g3 i hi
        · have hi2 : i < aP a := hi
          rw [M _ (by omega) (by omega), M _ (by omega) (by omega), M _ (by omega) (by omega)]; exact g4 i hi
        · rw [P]
          exact ⟨n1, zz, z1, z3, hzz, z4⟩
      · rw [G 45 1 (by omega), k1 45 (by omega), sI_same]
      · rw [F 50 0 (by omega) (by omega) (by omega) (by omega) (by omega)]; exact h50
    · rw [hX] at hX'
      have := congrArg Prod.fst (Option.some.inj hX')
      exact absurd this one_n0
  · -- refused
    have A : ∀ q j, (q < 45 ∨ 54 < q ∨ q = 52 ∨ (q = 50 ∧ j = 0)) → (sI τ 45 1 0).1 q j = σ.1 q j := fun q j a2 => by
      rw [sI_off _ _ _ _ (by omega), hFC q j (by omega) (by omega) (by omega) (by omega) (by omega), qF q j (by omega) (by omega) (by omega) (by omega)]
    have hM1 : MT (sI τ 45 1 0) b L := ⟨by rw [A 83 18 (by omega)]; exact h83, fun k hk => by rw [A 97 k (by omega)]; exact hMσ.2 k hk⟩
    obtain ⟨υ, u1, hLR, u3, u4⟩ := pre (sI τ 45 1 0) hM1
    rcases hLR with ⟨τ', ψ, t', c, m, rs, hX', _⟩ | ⟨τ', ψ, t', hX', hY, ht', h456', hFC', g19, g24, hFB⟩
    · rw [hX] at hX'
      have := congrArg Prod.fst (Option.some.inj hX')
      exact absurd this.symm one_n0
    · have eτ : τ' = τ := by
        rw [hX] at hX'
        exact (congrArg Prod.snd (Option.some.inj hX')).symm
      subst eτ
      obtain ⟨ω, w1, w2, w3⟩ := m_cpy (q0 := 86) (q1 := 84) (by omega) (body := fb_X12_putsBack_2) (fun _ _ _ => rfl) (sI ψ 83 18 0)
      have F : ∀ q j, (q < 45 ∨ 54 < q ∨ q = 52 ∨ (q = 50 ∧ j = 0)) → q ≠ 84 → q ≠ 86 → ¬ (q = 83 ∧ 18 ≤ j ∧ j ≤ 24) → ω.1 q j = σ.1 q j := fun q j a2 a3 a4 a5 => by
        have e : (sI ψ 83 18 0).1 q j = ψ.1 q j := by
          rw [sI_r]
          by_cases e : q = 83
          · rw [if_pos e, if_neg (by omega), e]
          · rw [if_neg e]
        rw [w2 q a3, e, hFB q j (by omega) (by omega), u4 q j a4 (by omega) (by omega), A q j a2]
      obtain ⟨r1, r2, r3, r4, r5⟩ := rest_of (τ := ω) hRo hSh hSf hTr hK (fun q j g => F q j (by omega) (by omega) (by omega) (by omega))
      have hple := plc_le b L t'
      refine ⟨(-100) - nI (plc b L t'), sI τ' 45 1 0, ω, ?_, ?_, ⟨⟨a, hv, cK_of (fun q j g => ?_) hc, mK_cg hv (fun j hj => ?_) hm⟩, r5, tape_0 ?_ ?_ ?_, r1, r2, r3, r4⟩⟩
      · show f_X11_rules σ = _
        unfold f_X11_rules f_X6_fault
        have e6 : (sI τ' 45 1 0).1 45 6 = nI t' := by rw [sI_r, if_pos rfl, if_neg (by omega)]; exact h456'
        have e54 : (sI τ' 45 1 0).1 54 t' = nI (plc b L t') := by rw [sI_off _ _ _ _ (by omega), hFC' 54 t' (by omega) (by omega) (by omega) (by omega) (by omega)]; exact p54 t' ht'
        rw [xe, hX, bd_some, pt_eq, if_pos rfl, e6, grd_of (sIn_nI (show t' < 201 by omega) (by omega)), nI_clamp (by omega), e54, bd_some]
      · show f_X12_rules (sI τ' 45 1 0) = _
        rw [u1, hY]
        unfold fj_X12_rules_60 f_X12_putsBack fl_X12_putsBack_2
        have h24 : ¬ (sI ψ 83 18 0).1 83 24 = 0 := by rw [sI_r, if_pos rfl, if_neg (by omega), g24]; decide
        have h19 : ω.1 83 19 = nI (plc b L t') := by rw [w2 83 (by omega), sI_r, if_pos rfl, if_neg (by omega)]; exact g19
        rw [pt_eq, if_neg h24, w1, bd_some, h19]
      · have := pCur_r g
        exact F q j (by omega) (by omega) (by omega) (by omega)
      · rw [w3 j hj, sI_off _ _ _ _ (by omega), hFB 86 j (by omega) (by omega), u3 j hj, A 84 j (by omega)]
      · rw [w2 45 (by omega), sI_off _ _ _ _ (by omega), hFB 45 1 (by omega) (by omega), u4 45 1 (by omega) (by omega) (by omega), sI_same]
      · rw [w2 83 (by omega), sI_same]
      · rw [F 50 0 (by omega) (by omega) (by omega) (by omega)]; exact h50
