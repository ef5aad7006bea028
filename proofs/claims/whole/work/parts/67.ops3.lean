/-! slip; a new animal -/
theorem nI_of_bt {x : Int32} {n : Nat} (h0 : 0 ≤ x.toInt) (h : x.toInt ≤ n) (hn : n < 2 ^ 30) : ∃ j : Nat, j ≤ n ∧ x = nI j := by
  obtain ⟨j, h1, h2⟩ := i32_nI (n := n + 1) h0 (by omega) (by omega)
  exact ⟨j, by omega, h2⟩
theorem irm_nI {A d : Nat} (hA : A < 2 ^ 31) (h0 : 0 < d) (hd : d < 2 ^ 31) : irm (nI A) (nI d) = nI (A % d) := pk_rem hA h0 hd
/-- the slipped phase -/
theorem slip_v {p c n : Int32} (hp : bt p 0 11) (hc : bt c 2 12) (hn : -11 ≤ n.toInt ∧ n.toInt ≤ 11) : ¬ c = 0 ∧ bt (irm ((p + n) + ((12 : Int32) * c)) c) 0 11 := by
  unfold bt at *
  obtain ⟨d, hd, rfl⟩ := nI_of_bt (x := c) (n := 12) (by omega) (by omega) (by omega)
  have hd2 : (nI d).toInt = d := nI_toInt (by omega)
  rw [hd2] at hc
  have e12 : (12 : Int32) * nI d = nI (12 * d) := by rw [show (12 : Int32) = nI 12 from rfl, pk_mul]
  have t12 : (nI (12 * d)).toInt = ((12 * d : Nat) : Int) := nI_toInt (by omega)
  have e1 : (p + n).toInt = p.toInt + n.toInt := add_toInt (by omega) (by omega) (by omega) (by omega)
  have e2 : ((p + n) + nI (12 * d)).toInt = p.toInt + n.toInt + 12 * d := by
    rw [add_toInt (by omega) (by omega) (by omega) (by omega), e1, t12]
    omega
  rw [e12]
  obtain ⟨A, hA, eA⟩ := nI_of_bt (x := (p + n) + nI (12 * d)) (n := 200) (by omega) (by omega) (by omega)
  rw [eA, irm_nI (by omega) (by omega) (by omega), nI_toInt (by have := Nat.mod_lt A (show d > 0 by omega); omega)]
  refine ⟨nI_ne0 (by omega) (by omega), ?_⟩
  have := Nat.mod_lt A (show d > 0 by omega)
  omega
theorem op_slip (i v : Int32) : Op (fun σ => f_X11_slip σ i v) (fun σ => f_X12_slip σ i v) := by
  intro σ hR
  have hR0 := hR
  obtain ⟨⟨a, hv, hc, hm⟩, ho⟩ := hR
  have h9 : aN a ≤ 9 := hv.1.1.2
  have n1 : σ.1 1 4 = nI (aN a) := hc.1.1.trans hv.1.1.1
  have n2 : σ.1 84 0 = nI (aN a) := hm.1.1.trans hv.1.1.1
  by_cases ci : 0 ≤ i.toInt ∧ i.toInt < aN a
  · by_cases cv : (-11 : Int32).toInt ≤ v.toInt ∧ v.toInt ≤ (11 : Int32).toInt
    · obtain ⟨j, hj, rfl⟩ := i32_nI ci.1 ci.2 (by omega)
      have e := hc.2.1 j hj
      have f := hm.2.1 j hj
      have hva := hv.2.1 j hj
      have cv2 : (-11 : Int64).toInt ≤ v.toInt ∧ v.toInt ≤ (11 : Int64).toInt := cv
      obtain ⟨z, hz⟩ : ∃ z : Int32, z = irm ((a.1 3 j + v) + ((12 : Int32) * a.1 2 j)) (a.1 2 j) := ⟨_, rfl⟩
      obtain ⟨c0, hb⟩ := slip_v hva.2.2.1 hva.2.1 cv
      have hin := sIn_nI (show j < 9 by omega) (show 9 < 2 ^ 31 by omega)
      have hcl := nI_clamp (show j < 2 ^ 31 by omega)
      refine ⟨a.1 3 j, sI σ 4 j z, sI (sI σ 4 j z) 84 (8 + 4 * j) z, ?_, ?_, Rel_an hv hc hm ho (r := 3) (by omega) (by omega) hj (hz ▸ hb) _ (by omega)⟩
      · simp only [f_X11_slip, x_has n1 h9, bd_some, if_pos ci, z10, if_false, x_within, if_pos cv, f_X3_phaseSlipped, grd_of hin, hcl, e.2.2.1, e.2.1, f_X11_remainder, if_neg c0, grd_of (decide_eq_true c0), ← hz, f_X11_replaced_b, pt_eq]
      · have g1 : (sI σ 4 j z).1 84 = σ.1 84 := sI_off _ _ _ _ (by omega)
        have k2 := m_its (sI σ 4 j z) (i := j) (k := 2) (by omega) (by omega)
        have k1 := m_its (sI σ 4 j z) (i := j) (k := 1) (by omega) (by omega)
        have kA := m_at (sI σ 4 j z) j 2
        rw [g1, show 6 + 4 * j + 2 = 8 + 4 * j by omega, f.2.2.1] at k2
        rw [g1, show 6 + 4 * j + 1 = 7 + 4 * j by omega, f.2.1] at k1
        rw [show 6 + 4 * j + 2 = 8 + 4 * j by omega] at kA
        rw [show (nI 2) = 2 from rfl] at k2 kA
        rw [show (nI 1) = 1 from rfl] at k1
        simp only [f_X12_slip, m_isAn (σ := sI σ 4 j z) (by rw [g1]; exact n2) h9, bd_some, if_pos ci, z10, if_false, m_inI, if_pos cv2, k2, k1, kA, f_X12_slips, grd_of (decide_eq_true c0), grd_of (sIn_nI (show 8 + 4 * j < 316 by omega) (by omega)), pt_eq, nI_clamp (show 8 + 4 * j < 2 ^ 31 by omega), ← hz]
    · have cv2 : ¬ ((-11 : Int64).toInt ≤ v.toInt ∧ v.toInt ≤ (11 : Int64).toInt) := cv
      exact ⟨-1, σ, σ, by simp only [f_X11_slip, x_has n1 h9, bd_some, if_pos ci, z10, if_false, x_within, if_neg cv, if_true], by simp only [f_X12_slip, m_isAn n2 h9, bd_some, if_pos ci, z10, if_false, m_inI, if_neg cv2, if_true], hR0⟩
  · exact ⟨-1, σ, σ, by simp only [f_X11_slip, x_has n1 h9, bd_some, if_neg ci, if_true], by simp only [f_X12_slip, m_isAn n2 h9, bd_some, if_neg ci, if_true], hR0⟩
theorem aSet_n1 (a : aK) {k : Nat} (h : k < 2 ^ 31) : aN (aSet a 0 0 (nI k)) = k := by
  show ((aSet a 0 0 (nI k)).1 0 0).toNatClampNeg = k
  rw [aSet_r, if_pos ⟨rfl, rfl⟩]
  exact nI_clamp h
/-- one animal more: its places hold already what the picture tells -/
theorem c_cnt {σ : sS} {a : aK} (h9 : aN a < 9) (hx : σ.1 2 (aN a) = a.1 1 (aN a) ∧ σ.1 3 (aN a) = a.1 2 (aN a) ∧ σ.1 4 (aN a) = a.1 3 (aN a) ∧ σ.1 5 (aN a) = a.1 4 (aN a)) (h : cK σ a) : cK (sI σ 1 4 (nI (aN a + 1))) (aSet a 0 0 (nI (aN a + 1))) := by
  have hn : aN (aSet a 0 0 (nI (aN a + 1))) = aN a + 1 := aSet_n1 a (by omega)
  have hr : ∀ (q : Nat), q ≠ 1 → (sI σ 1 4 (nI (aN a + 1))).1 q = σ.1 q := fun q hq => sI_off _ _ _ _ hq
  have hs : ∀ x y, x ≠ 0 → (aSet a 0 0 (nI (aN a + 1))).1 x y = a.1 x y := fun x y hx => by rw [aSet_r, if_neg (fun q => hx q.1)]
  have hs0 : ∀ y, y ≠ 0 → (aSet a 0 0 (nI (aN a + 1))).1 0 y = a.1 0 y := fun y hy => by rw [aSet_r, if_neg (fun q => hy q.2)]
  unfold cK cKr at h ⊢
  rw [hn, aSet_m a _ (by omega), aSet_p a _ (by omega), hr 2 (by omega), hr 3 (by omega), hr 4 (by omega), hr 5 (by omega), hr 6 (by omega), hr 7 (by omega), hr 8 (by omega), hr 9 (by omega), hr 10 (by omega), hr 11 (by omega), hr 15 (by omega), hr 16 (by omega), hr 17 (by omega), hr 18 (by omega), hr 19 (by omega), hr 20 (by omega), hr 21 (by omega), hr 22 (by omega), aSet_2, hs0 1 (by omega), hs0 2 (by omega), hs0 3 (by omega), hs0 4 (by omega)]
  refine ⟨⟨?_, ?_, ?_, h.1.2.2.2⟩, fun i hi => ?_, fun c hc => ?_, fun k hk => ?_, h.2.2.2.2⟩
  · rw [sI_same, aSet_r, if_pos ⟨rfl, rfl⟩]
  · rw [sI_r, if_pos rfl, if_neg (by omega)]; exact h.1.2.1
  · rw [sI_r, if_pos rfl, if_neg (by omega)]; exact h.1.2.2.1
  · rw [hs 1 i (by omega), hs 2 i (by omega), hs 3 i (by omega), hs 4 i (by omega)]
    by_cases e : i = aN a
    · rw [e]; exact hx
    · exact h.2.1 i (by omega)
  · rw [hs 5 c (by omega), hs 6 c (by omega), hs 7 c (by omega)]
    exact h.2.2.1 c hc
  · rw [hs 8 k (by omega), hs 9 k (by omega), hs 10 k (by omega)]
    exact h.2.2.2.1 k hk
theorem m_cnt {s : Nat → Int32} {a : aK} (h9 : aN a < 9) (hx : s (6 + 4 * aN a) = a.1 1 (aN a) ∧ s (7 + 4 * aN a) = a.1 2 (aN a) ∧ s (8 + 4 * aN a) = a.1 3 (aN a) ∧ s (9 + 4 * aN a) = a.1 4 (aN a)) (h : mK s a) : mK (upd s 0 (nI (aN a + 1))) (aSet a 0 0 (nI (aN a + 1))) := by
  have hn : aN (aSet a 0 0 (nI (aN a + 1))) = aN a + 1 := aSet_n1 a (by omega)
  have hb : ∀ j, j ≠ 0 → upd s 0 (nI (aN a + 1)) j = s j := fun j hj => by rw [upd_r, if_neg hj]
  have hs : ∀ x y, x ≠ 0 → (aSet a 0 0 (nI (aN a + 1))).1 x y = a.1 x y := fun x y hx => by rw [aSet_r, if_neg (fun q => hx q.1)]
  have hs0 : ∀ y, y ≠ 0 → (aSet a 0 0 (nI (aN a + 1))).1 0 y = a.1 0 y := fun y hy => by rw [aSet_r, if_neg (fun q => hy q.2)]
  obtain ⟨g1, g2, g3, g4, g5⟩ := h
  unfold mK
  rw [hn, aSet_m a _ (by omega), aSet_p a _ (by omega), hb 4 (by omega), hb 5 (by omega), hb 2 (by omega), hb 3 (by omega), hs0 1 (by omega), hs0 2 (by omega), hs0 3 (by omega), hs0 4 (by omega)]
  refine ⟨⟨by rw [upd_r, if_pos rfl, aSet_r, if_pos ⟨rfl, rfl⟩], g1.2⟩, fun i hi => ?_, fun c hc => ?_, fun k hk => ?_, mRu_upd 0 _ (by omega) (by omega) g5⟩
  · rw [hs 1 i (by omega), hs 2 i (by omega), hs 3 i (by omega), hs 4 i (by omega), hb _ (by omega), hb _ (by omega), hb _ (by omega), hb _ (by omega)]
    by_cases e : i = aN a
    · rw [e]; exact hx
    · exact g2 i (by omega)
  · rw [hs 5 c (by omega), hs 6 c (by omega), hs 7 c (by omega), hb _ (by omega), hb _ (by omega), hb _ (by omega)]
    exact g3 c hc
  · rw [hs 8 k (by omega), hs 9 k (by omega), hs 10 k (by omega), hb _ (by omega), hb _ (by omega), hb _ (by omega)]
    exact g4 k hk
theorem v_cnt {a : aK} (h9 : aN a < 9) (hx : bt (a.1 1 (aN a)) 1 5 ∧ bt (a.1 2 (aN a)) 2 12 ∧ bt (a.1 3 (aN a)) 0 11 ∧ bt (a.1 4 (aN a)) 0 99) (h : vK a) : vK (aSet a 0 0 (nI (aN a + 1))) := by
  have hn : aN (aSet a 0 0 (nI (aN a + 1))) = aN a + 1 := aSet_n1 a (by omega)
  have hs : ∀ x y, x ≠ 0 → (aSet a 0 0 (nI (aN a + 1))).1 x y = a.1 x y := fun x y hx => by rw [aSet_r, if_neg (fun q => hx q.1)]
  have hs0 : ∀ y, y ≠ 0 → (aSet a 0 0 (nI (aN a + 1))).1 0 y = a.1 0 y := fun y hy => by rw [aSet_r, if_neg (fun q => hy q.2)]
  obtain ⟨g1, g2, g3, g4, g5⟩ := h
  unfold vK vS vA vC vP vR at *
  rw [hn, aSet_m a _ (by omega), aSet_p a _ (by omega), hs0 1 (by omega), hs0 2 (by omega), hs0 3 (by omega), hs0 4 (by omega)]
  refine ⟨⟨⟨by rw [aSet_r, if_pos ⟨rfl, rfl⟩], by omega⟩, g1.2⟩, fun i hi => ?_, fun c hc => ?_, fun k hk => ?_, g5⟩
  · rw [hs 1 i (by omega), hs 2 i (by omega), hs 3 i (by omega), hs 4 i (by omega)]
    by_cases e : i = aN a
    · rw [e]; exact hx
    · exact g2 i (by omega)
  · rw [hs 5 c (by omega), hs 6 c (by omega), hs 7 c (by omega)]
    obtain ⟨b1, b2, b3⟩ := g3 c hc
    refine ⟨⟨b1.1, ?_⟩, b2, ?_⟩
    · have h2 : (2 : Int) ^ (aN a + 1) = 2 * 2 ^ aN a := by rw [Int.pow_succ]; omega
      have h3 := b1.2
      have h4 : (0 : Int) < 2 ^ aN a := Int.pow_pos (by omega)
      omega
    · rcases b3 with b3 | ⟨i, hi, b3⟩
      · exact Or.inl b3
      · exact Or.inr ⟨i, by omega, b3⟩
  · rw [hs 8 k (by omega), hs 9 k (by omega), hs 10 k (by omega)]
    obtain ⟨⟨i, hi, b1⟩, b2⟩ := g4 k hk
    exact ⟨⟨i, by omega, b1⟩, b2⟩
theorem nI_inj {a b : Nat} (ha : a < 2 ^ 31) (hb : b < 2 ^ 31) (h : nI a = nI b) : a = b := (nI_eq ha hb).mp h
theorem op_animal (k c p q : Int32) : Op (fun σ => f_X11_animal σ k c p q) (fun σ => f_X12_animal σ k c p q) := by
  intro σ hR
  have hR0 := hR
  obtain ⟨⟨a, hv, hc, hm⟩, ho⟩ := hR
  have h9 : aN a ≤ 9 := hv.1.1.2
  have n1 : σ.1 1 4 = nI (aN a) := hc.1.1.trans hv.1.1.1
  have n2 : σ.1 84 0 = nI (aN a) := hm.1.1.trans hv.1.1.1
  by_cases ck : 1 ≤ k.toInt ∧ k.toInt ≤ 5
  rotate_left
  · have ck2 : ¬ ((1 : Int64).toInt ≤ k.toInt ∧ k.toInt ≤ (5 : Int64).toInt) := ck
    exact ⟨-1, σ, σ, by simp only [f_X11_animal, x_kind, bd_some, if_neg ck, if_true], by simp only [f_X12_animal, m_inI, bd_some, if_neg ck2, if_true], hR0⟩
  have ck2 : (1 : Int64).toInt ≤ k.toInt ∧ k.toInt ≤ (5 : Int64).toInt := ck
  by_cases cc : 2 ≤ c.toInt ∧ c.toInt ≤ 12
  rotate_left
  · exact ⟨-1, σ, σ, by simp only [f_X11_animal, x_kind, x_crank, bd_some, if_pos ck, z10, if_false, if_neg cc, if_true], by simp only [f_X12_animal, m_inI, bd_some, if_pos ck2, z10, if_false, m_part1, if_neg cc, if_true], hR0⟩
  by_cases cp : 0 ≤ p.toInt ∧ p.toInt ≤ 11
  rotate_left
  · exact ⟨-1, σ, σ, by simp only [f_X11_animal, x_kind, x_crank, x_phase, bd_some, if_pos ck, z10, if_false, if_pos cc, if_neg cp, if_true], by simp only [f_X12_animal, m_inI, bd_some, if_pos ck2, z10, if_false, m_part1, m_part2, if_pos cc, if_neg cp, if_true], hR0⟩
  by_cases cq : 0 ≤ q.toInt ∧ q.toInt ≤ 99
  rotate_left
  · exact ⟨-1, σ, σ, by simp only [f_X11_animal, x_kind, x_crank, x_phase, x_price, bd_some, if_pos ck, z10, if_false, if_pos cc, if_pos cp, if_neg cq, if_true], by simp only [f_X12_animal, m_inI, bd_some, if_pos ck2, z10, if_false, m_part1, m_part2, m_part3, if_pos cc, if_pos cp, if_neg cq, if_true], hR0⟩
  by_cases hn : aN a = 9
  · have e9 : (nI (aN a) = 9) = True := by rw [hn]; simp [nI]
    exact ⟨-2, σ, σ, by simp only [f_X11_animal, x_kind, x_crank, x_phase, x_price, bd_some, if_pos ck, z10, if_false, if_pos cc, if_pos cp, if_pos cq, n1, e9, if_true], by simp only [f_X12_animal, m_inI, bd_some, if_pos ck2, z10, if_false, m_part1, m_part2, m_part3, if_pos cc, if_pos cp, if_pos cq, sin_0_316, grd_true, tn_0, n2, e9, if_true], hR0⟩
  · have hlt : aN a < 9 := by omega
    have e9 : ¬ nI (aN a) = 9 := fun h => hn (nI_inj (by omega) (by omega) h)
    obtain ⟨n, hN⟩ : ∃ n, n = aN a := ⟨_, rfl⟩
    have hin := sIn_nI (show n < 9 by omega) (show 9 < 2 ^ 31 by omega)
    have hcl := nI_clamp (show n < 2 ^ 31 by omega)
    obtain ⟨τ, hτ⟩ : ∃ τ, τ = sI (sI (sI (sI σ 2 n k) 3 n c) 4 n p) 5 n q := ⟨_, rfl⟩
    obtain ⟨τ1, hτ1⟩ : ∃ τ1, τ1 = sI τ 1 4 (nI (n + 1)) := ⟨_, rfl⟩
    have hsub : nI n + 1 = nI (n + 1) := nI_1 n
    have hsb : nI (n + 1) - 1 = nI n := nI_pred n
    have g1 : τ1.1 84 = σ.1 84 := by rw [hτ1, hτ, sI_off _ _ _ _ (by omega), sI_off _ _ _ _ (by omega), sI_off _ _ _ _ (by omega), sI_off _ _ _ _ (by omega), sI_off _ _ _ _ (by omega)]
    refine ⟨nI n, τ1, sI (sI (sI (sI (sI τ1 84 (6 + 4 * n) k) 84 (7 + 4 * n) c) 84 (8 + 4 * n) p) 84 (9 + 4 * n) q) 84 0 (nI (n + 1)), ?_, ?_, ?_⟩
    · have r4 : ∀ (τ : sS) (q' j : Nat) (v : Int32), q' ≠ 1 → (sI τ q' j v).1 1 4 = τ.1 1 4 := fun τ q' j v h => by rw [sI_off _ _ _ _ (Ne.symm h)]
      rw [← hN] at n1 e9
      simp only [f_X11_animal, x_kind, x_crank, x_phase, x_price, bd_some, if_pos ck, z10, if_false, if_pos cc, if_pos cp, if_pos cq, n1, if_neg e9, f_X3_add, r4 _ 2 _ _ (by omega), r4 _ 3 _ _ (by omega), r4 _ 4 _ _ (by omega), r4 _ 5 _ _ (by omega), grd_of hin, pt_eq, hcl, sI_same, hsub, hsb, hτ1, hτ]
    · rw [← hN] at n2 e9
      have m0 : ∀ τ : sS, f_X12_at τ (nI n) 0 = some (nI (6 + 4 * n)) := fun τ => by have := m_at τ n 0; rwa [nI_0] at this
      have m1 : ∀ τ : sS, f_X12_at τ (nI n) 1 = some (nI (7 + 4 * n)) := fun τ => by have := m_at τ n 1; rwa [show 6 + 4 * n + 1 = 7 + 4 * n by omega] at this
      have m2 : ∀ τ : sS, f_X12_at τ (nI n) 2 = some (nI (8 + 4 * n)) := fun τ => by have := m_at τ n 2; rwa [show 6 + 4 * n + 2 = 8 + 4 * n by omega] at this
      have m3 : ∀ τ : sS, f_X12_at τ (nI n) 3 = some (nI (9 + 4 * n)) := fun τ => by have := m_at τ n 3; rwa [show 6 + 4 * n + 3 = 9 + 4 * n by omega] at this
      have s0' : ∀ (τ : sS) (j : Nat) (v : Int32), j ≠ 0 → (sI τ 84 j v).1 84 0 = τ.1 84 0 := fun τ j v h => by rw [sI_r, if_pos rfl, if_neg (Ne.symm h)]
      simp only [f_X12_animal, m_inI, bd_some, if_pos ck2, z10, if_false, m_part1, m_part2, m_part3, if_pos cc, if_pos cp, if_pos cq, sin_0_316, grd_true, tn_0, g1, n2, if_neg e9, pt_eq, m0, m1, m2, m3, grd_of (sIn_nI (show 6 + 4 * n < 316 by omega) (by omega)), grd_of (sIn_nI (show 7 + 4 * n < 316 by omega) (by omega)), grd_of (sIn_nI (show 8 + 4 * n < 316 by omega) (by omega)), grd_of (sIn_nI (show 9 + 4 * n < 316 by omega) (by omega)), nI_clamp (show 6 + 4 * n < 2 ^ 31 by omega), nI_clamp (show 7 + 4 * n < 2 ^ 31 by omega), nI_clamp (show 8 + 4 * n < 2 ^ 31 by omega), nI_clamp (show 9 + 4 * n < 2 ^ 31 by omega), s0' _ (6 + 4 * n) _ (by omega), s0' _ (7 + 4 * n) _ (by omega), s0' _ (8 + 4 * n) _ (by omega), s0' _ (9 + 4 * n) _ (by omega), hsub]
    · obtain ⟨b, hb⟩ : ∃ b : aK, b = aSet (aSet (aSet (aSet a 1 n k) 2 n c) 3 n p) 4 n q := ⟨_, rfl⟩
      have hbn : aN b = n := by rw [hb, aSet_n _ _ (by omega), aSet_n _ _ (by omega), aSet_n _ _ (by omega), aSet_n _ _ (by omega), hN]
      have b1 : b.1 1 n = k := by simp [hb, aSet_r]
      have b2 : b.1 2 n = c := by simp [hb, aSet_r]
      have b3 : b.1 3 n = p := by simp [hb, aSet_r]
      have b4 : b.1 4 n = q := by simp [hb, aSet_r]
      have hcb : cK τ b := by
        rw [hb, hτ]
        exact c_an (r := 4) (by omega) (by omega) n q (c_an (r := 3) (by omega) (by omega) n p (c_an (r := 2) (by omega) (by omega) n c (c_an (r := 1) (by omega) (by omega) n k hc)))
      have hvb : vK b := by
        rw [hb]
        exact v_an (r := 4) (by omega) (by omega) n cq (v_an (r := 3) (by omega) (by omega) n cp (v_an (r := 2) (by omega) (by omega) n cc (v_an (r := 1) (by omega) (by omega) n ck hv)))
      have hmb : mK (upd (upd (upd (upd (σ.1 84) (6 + 4 * n) k) (7 + 4 * n) c) (8 + 4 * n) p) (9 + 4 * n) q) b := by
        rw [hb]
        have t1 := m_an (r := 1) (by omega) (by omega) (i := n) (by omega) k h9 hm
        have t2 := m_an (r := 2) (by omega) (by omega) (i := n) (by omega) c (by rw [aSet_n _ _ (by omega)]; exact h9) t1
        have t3 := m_an (r := 3) (by omega) (by omega) (i := n) (by omega) p (by rw [aSet_n _ _ (by omega), aSet_n _ _ (by omega)]; exact h9) t2
        have t4 := m_an (r := 4) (by omega) (by omega) (i := n) (by omega) q (by rw [aSet_n _ _ (by omega), aSet_n _ _ (by omega), aSet_n _ _ (by omega)]; exact h9) t3
        rw [show 6 + 4 * n + (1 - 1) = 6 + 4 * n by omega, show 6 + 4 * n + (2 - 1) = 7 + 4 * n by omega, show 6 + 4 * n + (3 - 1) = 8 + 4 * n by omega, show 6 + 4 * n + (4 - 1) = 9 + 4 * n by omega] at t4
        exact t4
      have x1 : τ.1 2 n = k := by rw [hτ]; simp [sI_r]
      have x2 : τ.1 3 n = c := by rw [hτ]; simp [sI_r]
      have x3 : τ.1 4 n = p := by rw [hτ]; simp [sI_r]
      have x4 : τ.1 5 n = q := by rw [hτ]; simp [sI_r]
      have hc1 : cK τ1 (aSet b 0 0 (nI (n + 1))) := by
        have := c_cnt (σ := τ) (a := b) (by omega) (by rw [hbn, x1, x2, x3, x4, b1, b2, b3, b4]; exact ⟨rfl, rfl, rfl, rfl⟩) hcb
        rw [hbn] at this
        rw [hτ1]
        exact this
      refine ⟨⟨aSet b 0 0 (nI (n + 1)), ?_, cK_of (agr_I (agr_I (agr_I (agr_I (agr_I agr_rf rfl) rfl) rfl) rfl) rfl) hc1, ?_⟩, rOth_of (σ := σ) ?_ ho⟩
      · have := v_cnt (a := b) (by omega) (by rw [hbn, b1, b2, b3, b4]; exact ⟨ck, cc, cp, cq⟩) hvb
        rwa [hbn] at this
      · rw [sI_row, sI_row, sI_row, sI_row, sI_row, g1]
        have := m_cnt (a := b) (s := upd (upd (upd (upd (σ.1 84) (6 + 4 * n) k) (7 + 4 * n) c) (8 + 4 * n) p) (9 + 4 * n) q) (by omega) (by
          rw [hbn, b1, b2, b3, b4]
          refine ⟨?_, ?_, ?_, ?_⟩
          · rw [upd_r, if_neg (by omega), upd_r, if_neg (by omega), upd_r, if_neg (by omega), upd_r, if_pos rfl]
          · rw [upd_r, if_neg (by omega), upd_r, if_neg (by omega), upd_r, if_pos rfl]
          · rw [upd_r, if_neg (by omega), upd_r, if_pos rfl]
          · rw [upd_r, if_pos rfl]) hmb
        rwa [hbn] at this
      · rw [hτ1, hτ]
        exact agr_I (agr_I (agr_I (agr_I (agr_I (agr_I (agr_I (agr_I (agr_I (agr_I agr_rf rfl) rfl) rfl) rfl) rfl) rfl) rfl) rfl) rfl) rfl
