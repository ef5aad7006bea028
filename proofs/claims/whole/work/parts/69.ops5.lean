/-! children come and go -/
theorem aSet_m1 (a : aK) {n : Nat} (h : n < 2 ^ 31) : aM (aSet a 0 3 (nI n)) = n := by
  unfold aM
  rw [aSet_r, if_pos ⟨rfl, rfl⟩, nI_clamp h]
theorem aSet_p1 (a : aK) {n : Nat} (h : n < 2 ^ 31) : aP (aSet a 0 4 (nI n)) = n := by
  unfold aP
  rw [aSet_r, if_pos ⟨rfl, rfl⟩, nI_clamp h]
theorem c_kids {σ : sS} {a : aK} {m : Nat} (h8 : m ≤ 8) (hx : ∀ c, c < m → σ.1 16 c = a.1 5 c ∧ σ.1 17 c = a.1 6 c ∧ σ.1 18 c = a.1 7 c) (h : cK σ a) : cK (sI σ 15 3 (nI m)) (aSet a 0 3 (nI m)) := by
  have hn : aM (aSet a 0 3 (nI m)) = m := aSet_m1 a (by omega)
  have hr : ∀ (q : Nat), q ≠ 15 → (sI σ 15 3 (nI m)).1 q = σ.1 q := fun q hq => sI_off _ _ _ _ hq
  have hs : ∀ x y, x ≠ 0 → (aSet a 0 3 (nI m)).1 x y = a.1 x y := fun x y hx => by rw [aSet_r, if_neg (fun q => hx q.1)]
  have hs0 : ∀ y, y ≠ 3 → (aSet a 0 3 (nI m)).1 0 y = a.1 0 y := fun y hy => by rw [aSet_r, if_neg (fun q => hy q.2)]
  unfold cK cKr at h ⊢
  rw [hn, aSet_n a _ (by omega), aSet_p a _ (by omega), hr 1 (by omega), hr 2 (by omega), hr 3 (by omega), hr 4 (by omega), hr 5 (by omega), hr 6 (by omega), hr 7 (by omega), hr 8 (by omega), hr 9 (by omega), hr 10 (by omega), hr 11 (by omega), hr 16 (by omega), hr 17 (by omega), hr 18 (by omega), hr 19 (by omega), hr 20 (by omega), hr 21 (by omega), hr 22 (by omega), aSet_2, hs0 0 (by omega), hs0 1 (by omega), hs0 2 (by omega), hs0 4 (by omega)]
  refine ⟨⟨h.1.1, h.1.2.1, h.1.2.2.1, ?_, h.1.2.2.2.2⟩, fun i hi => ?_, fun c hc => ?_, fun k hk => ?_, h.2.2.2.2⟩
  · rw [sI_same, aSet_r, if_pos ⟨rfl, rfl⟩]
  · rw [hs 1 i (by omega), hs 2 i (by omega), hs 3 i (by omega), hs 4 i (by omega)]
    exact h.2.1 i hi
  · rw [hs 5 c (by omega), hs 6 c (by omega), hs 7 c (by omega)]
    exact hx c hc
  · rw [hs 8 k (by omega), hs 9 k (by omega), hs 10 k (by omega)]
    exact h.2.2.2.1 k hk
theorem m_kids {s : Nat → Int32} {a : aK} {m : Nat} (h8 : m ≤ 8) (hx : ∀ c, c < m → s (42 + 3 * c) = a.1 5 c ∧ s (43 + 3 * c) = a.1 6 c ∧ s (44 + 3 * c) = rid (a.1 7 c)) (h : mK s a) : mK (upd s 2 (nI m)) (aSet a 0 3 (nI m)) := by
  have hn : aM (aSet a 0 3 (nI m)) = m := aSet_m1 a (by omega)
  have hb : ∀ j, j ≠ 2 → upd s 2 (nI m) j = s j := fun j hj => by rw [upd_r, if_neg hj]
  have hs : ∀ x y, x ≠ 0 → (aSet a 0 3 (nI m)).1 x y = a.1 x y := fun x y hx => by rw [aSet_r, if_neg (fun q => hx q.1)]
  have hs0 : ∀ y, y ≠ 3 → (aSet a 0 3 (nI m)).1 0 y = a.1 0 y := fun y hy => by rw [aSet_r, if_neg (fun q => hy q.2)]
  obtain ⟨g1, g2, g3, g4, g5⟩ := h
  unfold mK
  rw [hn, aSet_n a _ (by omega), aSet_p a _ (by omega), hb 0 (by omega), hb 4 (by omega), hb 5 (by omega), hb 3 (by omega), hs0 0 (by omega), hs0 1 (by omega), hs0 2 (by omega), hs0 4 (by omega)]
  refine ⟨⟨g1.1, g1.2.1, g1.2.2.1, by rw [upd_r, if_pos rfl, aSet_r, if_pos ⟨rfl, rfl⟩], g1.2.2.2.2⟩, fun i hi => ?_, fun c hc => ?_, fun k hk => ?_, mRu_upd 2 _ (by omega) (by omega) g5⟩
  · rw [hs 1 i (by omega), hs 2 i (by omega), hs 3 i (by omega), hs 4 i (by omega), hb _ (by omega), hb _ (by omega), hb _ (by omega), hb _ (by omega)]
    exact g2 i hi
  · rw [hs 5 c (by omega), hs 6 c (by omega), hs 7 c (by omega), hb _ (by omega), hb _ (by omega), hb _ (by omega)]
    exact hx c hc
  · rw [hs 8 k (by omega), hs 9 k (by omega), hs 10 k (by omega), hb _ (by omega), hb _ (by omega), hb _ (by omega)]
    exact g4 k hk
theorem v_kids {a : aK} {m : Nat} (h8 : m ≤ 8) (hx : ∀ c, c < m → rngC a 5 (a.1 5 c) ∧ rngC a 6 (a.1 6 c) ∧ rngC a 7 (a.1 7 c)) (h : vK a) : vK (aSet a 0 3 (nI m)) := by
  have hn : aM (aSet a 0 3 (nI m)) = m := aSet_m1 a (by omega)
  have hs : ∀ x y, x ≠ 0 → (aSet a 0 3 (nI m)).1 x y = a.1 x y := fun x y hx => by rw [aSet_r, if_neg (fun q => hx q.1)]
  have hs0 : ∀ y, y ≠ 3 → (aSet a 0 3 (nI m)).1 0 y = a.1 0 y := fun y hy => by rw [aSet_r, if_neg (fun q => hy q.2)]
  obtain ⟨g1, g2, g3, g4, g5⟩ := h
  unfold vK vS vA vC vP vR at *
  rw [hn, aSet_n a _ (by omega), aSet_p a _ (by omega), hs0 0 (by omega), hs0 1 (by omega), hs0 2 (by omega), hs0 4 (by omega)]
  refine ⟨⟨g1.1, ⟨by rw [aSet_r, if_pos ⟨rfl, rfl⟩], h8⟩, g1.2.2⟩, fun i hi => ?_, fun c hc => ?_, fun k hk => ?_, g5⟩
  · rw [hs 1 i (by omega), hs 2 i (by omega), hs 3 i (by omega), hs 4 i (by omega)]
    exact g2 i hi
  · rw [hs 5 c (by omega), hs 6 c (by omega), hs 7 c (by omega)]
    exact hx c hc
  · rw [hs 8 k (by omega), hs 9 k (by omega), hs 10 k (by omega)]
    exact g4 k hk
theorem op_away : Op (fun σ => f_X11_away σ) (fun σ => f_X12_away σ) := by
  intro σ hR
  obtain ⟨⟨a, hv, hc, hm⟩, ho⟩ := hR
  have g1 : (sI σ 15 3 0).1 84 = σ.1 84 := sI_off _ _ _ _ (by omega)
  have n1 : σ.1 15 3 = a.1 0 3 := hc.1.2.2.2.1
  have n2 : σ.1 84 2 = a.1 0 3 := hm.1.2.2.2.1
  refine ⟨a.1 0 3, sI σ 15 3 0, sI (sI σ 15 3 0) 84 2 0, ?_, ?_, ?_⟩
  · simp only [f_X11_away, pt_eq, n1]
  · simp only [f_X12_away, sin_2_316, grd_true, tn_2, g1, n2, pt_eq]
  · refine ⟨⟨aSet a 0 3 (nI 0), v_kids (by omega) (fun c hc => absurd hc (Nat.not_lt_zero _)) hv, cK_of (agr_I agr_rf rfl) (c_kids (m := 0) (by omega) (fun c hc => absurd hc (Nat.not_lt_zero _)) hc), ?_⟩, rOth_of (agr_I (agr_I agr_rf rfl) rfl) ho⟩
    rw [sI_row, g1]
    exact m_kids (m := 0) (by omega) (fun c hc => absurd hc (Nat.not_lt_zero _)) hm
/-- sets of animals, as a number -/
theorem shl_nI {n : Nat} (h : n ≤ 9) : (1 : Int32) <<< (nI n &&& 31) = nI (2 ^ n) := by
  have : ∀ n : Fin 10, (1 : Int32) <<< (nI n.val &&& 31) = nI (2 ^ n.val) := by decide
  exact this ⟨n, by omega⟩
theorem two_le {n : Nat} (h : n ≤ 9) : 2 ^ n ≤ 512 ∧ 1 ≤ 2 ^ n := ⟨Nat.pow_le_pow_right (by omega) h, Nat.one_le_two_pow⟩
theorem x_hasAll {σ : sS} {n : Nat} (hn : σ.1 1 4 = nI n) (h9 : n ≤ 9) (w : Int32) : f_X3_hasAll σ w = some (if 0 ≤ w.toInt ∧ w.toInt ≤ 2 ^ n - 1 then 1 else 0) := by
  have ht := two_le h9
  have hc : ((2 ^ n : Nat) : Int) = (2 : Int) ^ n := by simp
  have e : (nI (2 ^ n)).toInt = ((2 ^ n : Nat) : Int) := nI_toInt (by omega)
  have e0 : (0 : Int32).toInt = 0 := rfl
  unfold f_X3_hasAll
  rw [hn, shl_nI h9]
  by_cases h1 : w < 0
  · have h2 := i32_lt.mp h1
    rw [if_pos h1, if_neg (by omega)]
  · have h2 := mt i32_lt.mpr h1
    rw [if_neg h1]
    by_cases h3 : w < nI (2 ^ n)
    · have h4 := i32_lt.mp h3
      rw [if_pos h3, if_pos (by omega)]
    · have h4 := mt i32_lt.mpr h3
      rw [if_neg h3, if_neg (by omega)]
theorem m_isSet {σ : sS} {n : Nat} (hn : σ.1 84 0 = nI n) (h9 : n ≤ 9) (w : Int32) : f_X12_isSet σ w = some (if 0 ≤ w.toInt ∧ w.toInt ≤ 2 ^ n - 1 then 1 else 0) := by
  have ht := two_le h9
  have hc : ((2 ^ n : Nat) : Int) = (2 : Int) ^ n := by simp
  have e0 : (0 : Int64).toInt = 0 := rfl
  unfold f_X12_isSet
  simp only [sin_0_316, grd_true, tn_0, hn, shl_nI h9, m_inI, bd_some, grd_of (sBo_if _ _), i64_of, nI_m1 (show 2 ^ n < 1000000 by omega), e0, hc]
theorem op_child (w v : Int32) : Op (fun σ => f_X11_child σ w v) (fun σ => f_X12_child σ w v) := by
  intro σ hR
  have hR0 := hR
  obtain ⟨⟨a, hv, hc, hm⟩, ho⟩ := hR
  have h9 : aN a ≤ 9 := hv.1.1.2
  have h8 : aM a ≤ 8 := hv.1.2.1.2
  have a1 : σ.1 1 4 = nI (aN a) := hc.1.1.trans hv.1.1.1
  have a2 : σ.1 84 0 = nI (aN a) := hm.1.1.trans hv.1.1.1
  have n1 : σ.1 15 3 = nI (aM a) := hc.1.2.2.2.1.trans hv.1.2.1.1
  have n2 : σ.1 84 2 = nI (aM a) := hm.1.2.2.2.1.trans hv.1.2.1.1
  by_cases cw : 0 ≤ w.toInt ∧ w.toInt ≤ 2 ^ aN a - 1
  rotate_left
  · exact ⟨-1, σ, σ, by simp only [f_X11_child, x_hasAll a1 h9, bd_some, if_neg cw, if_true], by simp only [f_X12_child, m_isSet a2 h9, bd_some, if_neg cw, if_true], hR0⟩
  by_cases cv : 0 ≤ v.toInt ∧ v.toInt ≤ 999
  rotate_left
  · exact ⟨-1, σ, σ, by simp only [f_X11_child, x_hasAll a1 h9, x_coinsR, bd_some, if_pos cw, z10, if_false, if_neg cv, if_true], by simp only [f_X12_child, m_isSet a2 h9, m_coinsR, bd_some, if_pos cw, z10, if_false, if_neg cv, if_true], hR0⟩
  by_cases hn : aM a = 8
  · have e8 : (nI (aM a) = 8) = True := by rw [hn]; simp [nI]
    exact ⟨-2, σ, σ, by simp only [f_X11_child, x_hasAll a1 h9, x_coinsR, bd_some, if_pos cw, z10, if_false, if_pos cv, n1, e8, if_true], by simp only [f_X12_child, m_isSet a2 h9, m_coinsR, bd_some, if_pos cw, z10, if_false, if_pos cv, sin_2_316, grd_true, tn_2, n2, e8, if_true], hR0⟩
  have hlt : aM a < 8 := by omega
  have e8 : ¬ nI (aM a) = 8 := fun h => hn (nI_inj (by omega) (by omega) h)
  obtain ⟨n, hN⟩ : ∃ n, n = aM a := ⟨_, rfl⟩
  rw [← hN] at n1 n2 e8
  have hin := sIn_nI (show n < 8 by omega) (show 8 < 2 ^ 31 by omega)
  have hcl := nI_clamp (show n < 2 ^ 31 by omega)
  have hsub : nI n + 1 = nI (n + 1) := nI_1 n
  have hsb : nI (n + 1) - 1 = nI n := nI_pred n
  obtain ⟨τ, hτ⟩ : ∃ τ, τ = sI (sI (sI σ 16 n w) 17 n v) 18 n (-9) := ⟨_, rfl⟩
  obtain ⟨τ1, hτ1⟩ : ∃ τ1, τ1 = sI τ 15 3 (nI (n + 1)) := ⟨_, rfl⟩
  have g1 : τ1.1 84 = σ.1 84 := by rw [hτ1, hτ, sI_off _ _ _ _ (by omega), sI_off _ _ _ _ (by omega), sI_off _ _ _ _ (by omega), sI_off _ _ _ _ (by omega)]
  refine ⟨nI n, τ1, sI (sI (sI (sI τ1 84 (42 + 3 * n) w) 84 (43 + 3 * n) v) 84 (44 + 3 * n) 0) 84 2 (nI (n + 1)), ?_, ?_, ?_⟩
  · have r4 : ∀ (τ : sS) (q' j : Nat) (v : Int32), q' ≠ 15 → (sI τ q' j v).1 15 3 = τ.1 15 3 := fun τ q' j v h => by rw [sI_off _ _ _ _ (Ne.symm h)]
    simp only [f_X11_child, x_hasAll a1 h9, x_coinsR, bd_some, if_pos cw, z10, if_false, if_pos cv, n1, if_neg e8, f_X1_add, r4 _ 16 _ _ (by omega), r4 _ 17 _ _ (by omega), r4 _ 18 _ _ (by omega), grd_of hin, pt_eq, hcl, sI_same, hsub, hsb, hτ1, hτ]
  · have m0 : ∀ τ : sS, f_X12_where τ (nI n) 0 = some (nI (42 + 3 * n)) := fun τ => by have := m_where τ n 0; rwa [nI_0] at this
    have m1 : ∀ τ : sS, f_X12_where τ (nI n) 1 = some (nI (43 + 3 * n)) := fun τ => by have := m_where τ n 1; rwa [show 42 + 3 * n + 1 = 43 + 3 * n by omega] at this
    have m2 : ∀ τ : sS, f_X12_where τ (nI n) 2 = some (nI (44 + 3 * n)) := fun τ => by have := m_where τ n 2; rwa [show 42 + 3 * n + 2 = 44 + 3 * n by omega] at this
    have s0' : ∀ (τ : sS) (j : Nat) (v : Int32), j ≠ 2 → (sI τ 84 j v).1 84 2 = τ.1 84 2 := fun τ j v h => by rw [sI_r, if_pos rfl, if_neg (Ne.symm h)]
    have a3 : τ1.1 84 0 = nI (aN a) := by rw [g1]; exact a2
    simp only [f_X12_child, m_isSet a3 h9, m_coinsR, bd_some, if_pos cw, z10, if_false, if_pos cv, sin_2_316, grd_true, tn_2, g1, n2, if_neg e8, pt_eq, m0, m1, m2, grd_of (sIn_nI (show 42 + 3 * n < 316 by omega) (by omega)), grd_of (sIn_nI (show 43 + 3 * n < 316 by omega) (by omega)), grd_of (sIn_nI (show 44 + 3 * n < 316 by omega) (by omega)), nI_clamp (show 42 + 3 * n < 2 ^ 31 by omega), nI_clamp (show 43 + 3 * n < 2 ^ 31 by omega), nI_clamp (show 44 + 3 * n < 2 ^ 31 by omega), s0' _ (42 + 3 * n) _ (by omega), s0' _ (43 + 3 * n) _ (by omega), s0' _ (44 + 3 * n) _ (by omega), hsub]
  · obtain ⟨b, hb⟩ : ∃ b : aK, b = aSet (aSet (aSet a 5 n w) 6 n v) 7 n (-9) := ⟨_, rfl⟩
    have b1 : b.1 5 n = w := by simp [hb, aSet_r]
    have b2 : b.1 6 n = v := by simp [hb, aSet_r]
    have b3 : b.1 7 n = -9 := by simp [hb, aSet_r]
    have bn : aN b = aN a := by rw [hb, aSet_n _ _ (by omega), aSet_n _ _ (by omega), aSet_n _ _ (by omega)]
    have bm : aM b = n := by rw [hb, aSet_m _ _ (by omega), aSet_m _ _ (by omega), aSet_m _ _ (by omega), hN]
    have hcb : cK τ b := by
      rw [hb, hτ]
      exact c_ki (r := 7) (by omega) (by omega) n (-9) (c_ki (r := 6) (by omega) (by omega) n v (c_ki (r := 5) (by omega) (by omega) n w hc))
    have hvb : vK b := by
      rw [hb]
      exact v_ki (r := 7) (by omega) (by omega) n (Or.inl rfl) (v_ki (r := 6) (by omega) (by omega) n cv (v_ki (r := 5) (by omega) (by omega) n cw hv))
    have hmb : mK (upd (upd (upd (σ.1 84) (42 + 3 * n) w) (43 + 3 * n) v) (44 + 3 * n) 0) b := by
      rw [hb]
      have t1 := m_ki (r := 5) (by omega) (by omega) (i := n) (by omega) w h9 h8 hm
      have t2 := m_ki (r := 6) (by omega) (by omega) (i := n) (by omega) v (by rw [aSet_n _ _ (by omega)]; exact h9) (by rw [aSet_m _ _ (by omega)]; exact h8) t1
      have t3 := m_ki (r := 7) (by omega) (by omega) (i := n) (by omega) (-9) (by rw [aSet_n _ _ (by omega), aSet_n _ _ (by omega)]; exact h9) (by rw [aSet_m _ _ (by omega), aSet_m _ _ (by omega)]; exact h8) t2
      rw [show 42 + 3 * n + (5 - 5) = 42 + 3 * n by omega, show 42 + 3 * n + (6 - 5) = 43 + 3 * n by omega, show 42 + 3 * n + (7 - 5) = 44 + 3 * n by omega] at t3
      exact t3
    have kc : ∀ c, c < n + 1 → τ.1 16 c = b.1 5 c ∧ τ.1 17 c = b.1 6 c ∧ τ.1 18 c = b.1 7 c := fun c hc2 => by
      by_cases e : c = n
      · rw [e, b1, b2, b3, hτ]
        exact ⟨by simp [sI_r], by simp [sI_r], by simp [sI_r]⟩
      · exact hcb.2.2.1 c (by omega)
    have kv : ∀ c, c < n + 1 → rngC b 5 (b.1 5 c) ∧ rngC b 6 (b.1 6 c) ∧ rngC b 7 (b.1 7 c) := fun c hc2 => by
      by_cases e : c = n
      · rw [e, b1, b2, b3]
        refine ⟨?_, cv, Or.inl rfl⟩
        unfold rngC
        rw [bn]
        exact cw
      · exact hvb.2.2.1 c (by omega)
    refine ⟨⟨aSet b 0 3 (nI (n + 1)), v_kids (by omega) kv hvb, cK_of (σ := τ1) (agr_I (agr_I (agr_I (agr_I agr_rf rfl) rfl) rfl) rfl) ?_, ?_⟩, rOth_of (σ := σ) ?_ ho⟩
    · rw [hτ1]
      exact c_kids (by omega) kc hcb
    · rw [sI_row, sI_row, sI_row, sI_row, g1]
      refine m_kids (by omega) (fun c hc2 => ?_) hmb
      by_cases e : c = n
      · rw [e, b1, b2, b3]
        refine ⟨?_, ?_, ?_⟩
        · rw [upd_r, if_neg (by omega), upd_r, if_neg (by omega), upd_r, if_pos rfl]
        · rw [upd_r, if_neg (by omega), upd_r, if_pos rfl]
        · rw [upd_r, if_pos rfl]; rfl
      · exact hmb.2.2.1 c (by omega)
    · rw [hτ1, hτ]
      exact agr_I (agr_I (agr_I (agr_I (agr_I (agr_I (agr_I (agr_I agr_rf rfl) rfl) rfl) rfl) rfl) rfl) rfl) rfl
