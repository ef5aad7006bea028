/-! children and photographs: kept in lines -/
/-- one pure call of both -/
def OpP (f g : sS → Option Int32) : Prop := ∀ σ, Rel σ → ∃ r : Int32, f σ = some r ∧ g σ = some r
theorem x_hasC {σ : sS} {n : Nat} (hn : σ.1 15 3 = nI n) (h9 : n ≤ 9) (i : Int32) : f_X1_has σ i = some (if 0 ≤ i.toInt ∧ i.toInt < n then 1 else 0) := by
  have e : (nI n).toInt = n := nI_toInt (by omega)
  have e0 : (0 : Int32).toInt = 0 := rfl
  unfold f_X1_has
  rw [hn]
  by_cases h1 : i < 0
  · have h2 := i32_lt.mp h1
    rw [if_pos h1, if_neg (by omega)]
  · have h2 := mt i32_lt.mpr h1
    rw [if_neg h1]
    by_cases h3 : i < nI n
    · have h4 := i32_lt.mp h3
      rw [if_pos h3, if_pos (by omega)]
    · have h4 := mt i32_lt.mpr h3
      rw [if_neg h3, if_neg (by omega)]
theorem m_isC {σ : sS} {n : Nat} (hn : σ.1 84 2 = nI n) (h9 : n ≤ 9) (i : Int32) : f_X12_isChild σ i = some (if 0 ≤ i.toInt ∧ i.toInt < n then 1 else 0) := by
  unfold f_X12_isChild
  simp only [sin_2_316, grd_true, tn_2, hn, m_inI, bd_some, grd_of (sBo_if _ _), i64_of, nI_m1 (show n < 1000000 by omega)]
  have e0 : (0 : Int64).toInt = 0 := rfl
  rw [e0]
  by_cases h : 0 ≤ i.toInt ∧ i.toInt < n
  · rw [if_pos h, if_pos (by omega)]
  · rw [if_neg h, if_neg (by omega)]
theorem m_where (σ : sS) (i k : Nat) : f_X12_where σ (nI i) (nI k) = some (nI (42 + 3 * i + k)) := by
  unfold f_X12_where
  rw [show (42 : Int32) = nI 42 from rfl, show (3 : Int32) = nI 3 from rfl, pk_mul, nI_add, nI_add]
theorem x_coinsR (σ : sS) (v : Int32) : f_X11_isCoins σ v = some (if 0 ≤ v.toInt ∧ v.toInt ≤ 999 then 1 else 0) := by
  unfold f_X11_isCoins
  rw [x_within, bd_some]
  exact grd_of (sBo_if _ _) _
theorem m_coinsR (σ : sS) (v : Int32) : f_X12_isCoins σ v = some (if 0 ≤ v.toInt ∧ v.toInt ≤ 999 then 1 else 0) := by
  unfold f_X12_isCoins
  rw [m_inI, bd_some]
  exact grd_of (sBo_if _ _) _
/-- a child's place becomes v: row r (5 WISH, 6 COINS, 7 RIDES) -/
theorem c_ki {σ : sS} {a : aK} {r : Nat} (h1 : 5 ≤ r) (h4 : r ≤ 7) (i : Nat) (v : Int32) (h : cK σ a) : cK (sI σ (r + 11) i v) (aSet a r i v) := by
  have hr : ∀ (q : Nat), q ≠ r + 11 → (sI σ (r + 11) i v).1 q = σ.1 q := fun q hq => sI_off _ _ _ _ hq
  unfold cK cKr at h ⊢
  rw [aSet_n a v (by omega), aSet_m a v (by omega), aSet_p a v (by omega), hr 1 (by omega), hr 2 (by omega), hr 3 (by omega), hr 4 (by omega), hr 5 (by omega), hr 6 (by omega), hr 7 (by omega), hr 8 (by omega), hr 9 (by omega), hr 10 (by omega), hr 11 (by omega), hr 15 (by omega), hr 19 (by omega), hr 20 (by omega), hr 21 (by omega), hr 22 (by omega), aSet_2]
  have hs : ∀ x y, x ≠ r → (aSet a r i v).1 x y = a.1 x y := fun x y hx => by rw [aSet_r, if_neg (fun q => hx q.1)]
  rw [hs 0 0 (by omega), hs 0 1 (by omega), hs 0 2 (by omega), hs 0 3 (by omega), hs 0 4 (by omega)]
  refine ⟨h.1, fun j hj => ?_, fun c hc => ?_, fun k hk => ?_, h.2.2.2.2⟩
  · rw [hs 1 j (by omega), hs 2 j (by omega), hs 3 j (by omega), hs 4 j (by omega)]
    exact h.2.1 j hj
  · have h2 := h.2.2.1 c hc
    have key : ∀ x, 5 ≤ x → x ≤ 7 → σ.1 (x + 11) c = a.1 x c → (sI σ (r + 11) i v).1 (x + 11) c = (aSet a r i v).1 x c := fun x _ _ hx => by
      rw [sI_r, aSet_r]
      by_cases e : x = r
      · subst e
        by_cases e2 : c = i
        · simp [e2]
        · simp [e2, hx]
      · rw [if_neg (by omega), if_neg (fun q => e q.1)]
        exact hx
    exact ⟨key 5 (by omega) (by omega) h2.1, key 6 (by omega) (by omega) h2.2.1, key 7 (by omega) (by omega) h2.2.2⟩
  · rw [hs 8 k (by omega), hs 9 k (by omega), hs 10 k (by omega)]
    exact h.2.2.2.1 k hk
def mrd (r : Nat) (v : Int32) : Int32 := if r = 7 then rid v else v
theorem m_ki {s : Nat → Int32} {a : aK} {r : Nat} (h1 : 5 ≤ r) (h4 : r ≤ 7) {i : Nat} (hi9 : i < 8) (v : Int32) (hn9 : aN a ≤ 9) (hm8 : aM a ≤ 8) (h : mK s a) : mK (upd s (42 + 3 * i + (r - 5)) (mrd r v)) (aSet a r i v) := by
  have hb : ∀ j, j ≠ 42 + 3 * i + (r - 5) → upd s (42 + 3 * i + (r - 5)) (mrd r v) j = s j := fun j hj => by rw [upd_r, if_neg hj]
  obtain ⟨g1, g2, g3, g4, g5⟩ := h
  have hs : ∀ x y, x ≠ r → (aSet a r i v).1 x y = a.1 x y := fun x y hx => by rw [aSet_r, if_neg (fun q => hx q.1)]
  unfold mK
  rw [aSet_n a v (by omega), aSet_m a v (by omega), aSet_p a v (by omega), hb 0 (by omega), hb 4 (by omega), hb 5 (by omega), hb 2 (by omega), hb 3 (by omega), hs 0 0 (by omega), hs 0 1 (by omega), hs 0 2 (by omega), hs 0 3 (by omega), hs 0 4 (by omega)]
  refine ⟨g1, fun j hj => ?_, fun c hc => ?_, fun k hk => ?_, mRu_upd _ _ (by omega) (by omega) g5⟩
  · rw [hs 1 j (by omega), hs 2 j (by omega), hs 3 j (by omega), hs 4 j (by omega), hb _ (by omega), hb _ (by omega), hb _ (by omega), hb _ (by omega)]
    exact g2 j hj
  · have h2 := g3 c hc
    have key : ∀ x, 5 ≤ x → x ≤ 7 → s (42 + 3 * c + (x - 5)) = mrd x (a.1 x c) → upd s (42 + 3 * i + (r - 5)) (mrd r v) (42 + 3 * c + (x - 5)) = mrd x ((aSet a r i v).1 x c) := fun x hx1 hx4 hx => by
      rw [upd_r, aSet_r]
      by_cases e : x = r ∧ c = i
      · rw [if_pos e, if_pos (by omega), e.1]
      · rw [if_neg e, if_neg (by omega)]
        exact hx
    have k1 := key 5 (by omega) (by omega) h2.1
    have k2 := key 6 (by omega) (by omega) (by rw [show 42 + 3 * c + (6 - 5) = 43 + 3 * c by omega]; exact h2.2.1)
    have k3 := key 7 (by omega) (by omega) (by rw [show 42 + 3 * c + (7 - 5) = 44 + 3 * c by omega]; exact h2.2.2)
    rw [show 42 + 3 * c + (6 - 5) = 43 + 3 * c by omega] at k2
    rw [show 42 + 3 * c + (7 - 5) = 44 + 3 * c by omega] at k3
    exact ⟨k1, k2, k3⟩
  · rw [hs 8 k (by omega), hs 9 k (by omega), hs 10 k (by omega), hb _ (by omega), hb _ (by omega), hb _ (by omega)]
    exact g4 k hk
def rngC (a : aK) (r : Nat) (v : Int32) : Prop := match r with | 5 => bt v 0 (2 ^ aN a - 1) | 6 => bt v 0 999 | _ => (v = -9 ∨ ∃ i, i < aN a ∧ v = nI i)
theorem v_ki {a : aK} {r : Nat} (h1 : 5 ≤ r) (h4 : r ≤ 7) (i : Nat) {v : Int32} (hv : rngC a r v) (h : vK a) : vK (aSet a r i v) := by
  obtain ⟨g1, g2, g3, g4, g5⟩ := h
  have hs : ∀ x y, x ≠ r → (aSet a r i v).1 x y = a.1 x y := fun x y hx => by rw [aSet_r, if_neg (fun q => hx q.1)]
  unfold vK vS vA vC vP vR at *
  rw [aSet_n a v (by omega), aSet_m a v (by omega), aSet_p a v (by omega), hs 0 0 (by omega), hs 0 1 (by omega), hs 0 2 (by omega), hs 0 3 (by omega), hs 0 4 (by omega)]
  refine ⟨g1, fun j hj => ?_, fun c hc => ?_, fun k hk => ?_, g5⟩
  · rw [hs 1 j (by omega), hs 2 j (by omega), hs 3 j (by omega), hs 4 j (by omega)]
    exact g2 j hj
  · have h2 := g3 c hc
    have key : ∀ x, 5 ≤ x → x ≤ 7 → rngC a x (a.1 x c) → rngC a x ((aSet a r i v).1 x c) := fun x hx1 hx4 hx => by
      rw [aSet_r]
      by_cases e : x = r ∧ c = i
      · rw [if_pos e, e.1]
        exact hv
      · rw [if_neg e]
        exact hx
    exact ⟨key 5 (by omega) (by omega) h2.1, key 6 (by omega) (by omega) h2.2.1, key 7 (by omega) (by omega) h2.2.2⟩
  · rw [hs 8 k (by omega), hs 9 k (by omega), hs 10 k (by omega)]
    exact g4 k hk
theorem op_childOf (c w : Int32) : OpP (fun σ => f_X11_childOf σ c w) (fun σ => f_X12_childOf σ c w) := by
  intro σ hR
  obtain ⟨⟨a, hv, hc, hm⟩, ho⟩ := hR
  have h8 : aM a ≤ 8 := hv.1.2.1.2
  have n1 : σ.1 15 3 = nI (aM a) := hc.1.2.2.2.1.trans hv.1.2.1.1
  have n2 : σ.1 84 2 = nI (aM a) := hm.1.2.2.2.1.trans hv.1.2.1.1
  by_cases cc : 0 ≤ c.toInt ∧ c.toInt < aM a
  rotate_left
  · exact ⟨-1, by simp only [f_X11_childOf, x_hasC n1 (by omega), bd_some, if_neg cc, if_true], by simp only [f_X12_childOf, m_isC n2 (by omega), bd_some, if_neg cc, if_true]⟩
  obtain ⟨j, hj, ej⟩ := i32_nI cc.1 cc.2 (by omega)
  have hin := sIn_nI (show j < 8 by omega) (show 8 < 2 ^ 31 by omega)
  have hcl := nI_clamp (show j < 2 ^ 31 by omega)
  have q1 := hc.2.2.1 j hj
  have q2 := hm.2.2.1 j hj
  have hw : ∀ k, k < 3 → w = nI k → f_X12_where σ c w = some (nI (42 + 3 * j + k)) := fun k hk e => by rw [ej, e, m_where]
  have t0 : (0 : Int64).toInt = 0 := rfl
  have t2 : (2 : Int64).toInt = 2 := rfl
  by_cases w0 : w = 0
  · have hp : (0 : Int64).toInt ≤ w.toInt ∧ w.toInt ≤ (2 : Int64).toInt := by rw [w0]; decide
    refine ⟨a.1 5 j, ?_, ?_⟩
    · simp only [f_X11_childOf, x_hasC n1 (show aM a ≤ 9 by omega), bd_some, if_pos cc, z10, if_false, if_pos w0]
      rw [ej, grd_of hin, hcl, q1.1]
    · simp only [f_X12_childOf, m_isC n2 (show aM a ≤ 9 by omega), bd_some, if_pos cc, z10, if_false, m_inI, if_pos hp, hw 0 (by omega) w0, grd_of (sIn_nI (show 42 + 3 * j + 0 < 316 by omega) (by omega)), pt_eq, nI_clamp (show 42 + 3 * j + 0 < 2 ^ 31 by omega)]
      rw [if_pos (by rw [w0]; decide), show 42 + 3 * j + 0 = 42 + 3 * j by omega, q2.1]
  by_cases w1 : w = 1
  · have hp : (0 : Int64).toInt ≤ w.toInt ∧ w.toInt ≤ (2 : Int64).toInt := by rw [w1]; decide
    refine ⟨a.1 6 j, ?_, ?_⟩
    · simp only [f_X11_childOf, x_hasC n1 (show aM a ≤ 9 by omega), bd_some, if_pos cc, z10, if_false, if_neg w0, if_pos w1]
      rw [ej, grd_of hin, hcl, q1.2.1]
    · simp only [f_X12_childOf, m_isC n2 (show aM a ≤ 9 by omega), bd_some, if_pos cc, z10, if_false, m_inI, if_pos hp, hw 1 (by omega) w1, grd_of (sIn_nI (show 42 + 3 * j + 1 < 316 by omega) (by omega)), pt_eq, nI_clamp (show 42 + 3 * j + 1 < 2 ^ 31 by omega)]
      rw [if_pos (by rw [w1]; decide), show 42 + 3 * j + 1 = 43 + 3 * j by omega, q2.2.1]
  by_cases w2 : w = 2
  · have hp : (0 : Int64).toInt ≤ w.toInt ∧ w.toInt ≤ (2 : Int64).toInt := by rw [w2]; decide
    refine ⟨a.1 7 j, ?_, ?_⟩
    · simp only [f_X11_childOf, x_hasC n1 (show aM a ≤ 9 by omega), bd_some, if_pos cc, z10, if_false, if_neg w0, if_neg w1, if_pos w2]
      rw [ej, grd_of hin, hcl, q1.2.2]
    · simp only [f_X12_childOf, m_isC n2 (show aM a ≤ 9 by omega), bd_some, if_pos cc, z10, if_false, m_inI, if_pos hp, hw 2 (by omega) w2, grd_of (sIn_nI (show 42 + 3 * j + 2 < 316 by omega) (by omega)), pt_eq, nI_clamp (show 42 + 3 * j + 2 < 2 ^ 31 by omega)]
      rw [if_neg (by rw [w2]; decide), show 42 + 3 * j + 2 = 44 + 3 * j by omega, q2.2.2]
      rcases (hv.2.2.1 j hj).2.2 with e | ⟨i, hi, e⟩
      · rw [e]; rfl
      · have hi9 : i < 9 := Nat.lt_of_lt_of_le hi hv.1.1.2
        have e9 : ¬ nI i = -9 := fun h => by
          have := congrArg Int32.toInt h
          rw [nI_toInt (by omega)] at this
          exact absurd this (by have : (-9 : Int32).toInt = -9 := rfl; omega)
        have e0 : ¬ nI i + 1 = 0 := fun h => by
          rw [nI_1, show (0 : Int32) = nI 0 from rfl] at h
          have := nI_inj (by omega) (by omega) h
          omega
        unfold rid
        rw [e, if_neg e9, if_neg e0, nI_1, nI_pred]
  · have hn : ¬ ((0 : Int64).toInt ≤ w.toInt ∧ w.toInt ≤ (2 : Int64).toInt) := fun h => by
      obtain ⟨k, hk, e⟩ := i32_nI (i := w) (n := 3) (by omega) (by omega) (by omega)
      rcases (by omega : k = 0 ∨ k = 1 ∨ k = 2) with e2 | e2 | e2 <;> rw [e2] at e
      · exact w0 e
      · exact w1 e
      · exact w2 e
    exact ⟨-1, by simp only [f_X11_childOf, x_hasC n1 (show aM a ≤ 9 by omega), bd_some, if_pos cc, z10, if_false, if_neg w0, if_neg w1, if_neg w2], by simp only [f_X12_childOf, m_isC n2 (show aM a ≤ 9 by omega), bd_some, if_pos cc, z10, if_false, m_inI, if_neg hn, if_true]⟩
theorem op_coins (c v : Int32) : Op (fun σ => f_X11_coins σ c v) (fun σ => f_X12_coins σ c v) := by
  intro σ hR
  have hR0 := hR
  obtain ⟨⟨a, hv, hc, hm⟩, ho⟩ := hR
  have h8 : aM a ≤ 8 := hv.1.2.1.2
  have n1 : σ.1 15 3 = nI (aM a) := hc.1.2.2.2.1.trans hv.1.2.1.1
  have n2 : σ.1 84 2 = nI (aM a) := hm.1.2.2.2.1.trans hv.1.2.1.1
  by_cases cc : 0 ≤ c.toInt ∧ c.toInt < aM a
  rotate_left
  · exact ⟨-1, σ, σ, by simp only [f_X11_coins, x_hasC n1 (show aM a ≤ 9 by omega), bd_some, if_neg cc, if_true], by simp only [f_X12_coins, m_isC n2 (show aM a ≤ 9 by omega), bd_some, if_neg cc, if_true], hR0⟩
  by_cases cv : 0 ≤ v.toInt ∧ v.toInt ≤ 999
  rotate_left
  · exact ⟨-1, σ, σ, by simp only [f_X11_coins, x_hasC n1 (show aM a ≤ 9 by omega), x_coinsR, bd_some, if_pos cc, z10, if_false, if_neg cv, if_true], by simp only [f_X12_coins, m_isC n2 (show aM a ≤ 9 by omega), m_coinsR, bd_some, if_pos cc, z10, if_false, if_neg cv, if_true], hR0⟩
  obtain ⟨j, hj, ej⟩ := i32_nI cc.1 cc.2 (by omega)
  have hin := sIn_nI (show j < 8 by omega) (show 8 < 2 ^ 31 by omega)
  have hcl := nI_clamp (show j < 2 ^ 31 by omega)
  have q1 := (hc.2.2.1 j hj).2.1
  have q2 := (hm.2.2.1 j hj).2.1
  have hw : ∀ τ : sS, f_X12_where τ (nI j) 1 = some (nI (43 + 3 * j)) := fun τ => by have := m_where τ j 1; rwa [show 42 + 3 * j + 1 = 43 + 3 * j by omega] at this
  have g1 : (sI σ 17 j v).1 84 = σ.1 84 := sI_off _ _ _ _ (by omega)
  refine ⟨a.1 6 j, sI σ 17 j v, sI (sI σ 17 j v) 84 (43 + 3 * j) v, ?_, ?_, ?_⟩
  · simp only [f_X11_coins, x_hasC n1 (show aM a ≤ 9 by omega), x_coinsR, bd_some, if_pos cc, z10, if_false, if_pos cv, f_X11_replaced_e, pt_eq]
    rw [ej, grd_of hin, grd_of hin, hcl, bd_some, q1]
  · have n3 : (sI σ 17 j v).1 84 2 = nI (aM a) := by rw [g1]; exact n2
    simp only [f_X12_coins, m_isC n3 (show aM a ≤ 9 by omega), m_coinsR, bd_some, if_pos cc, z10, if_false, if_pos cv]
    rw [ej]
    simp only [hw, bd_some, grd_of (sIn_nI (show 43 + 3 * j < 316 by omega) (by omega)), pt_eq, nI_clamp (show 43 + 3 * j < 2 ^ 31 by omega), g1, q2]
  · refine ⟨⟨aSet a 6 j v, v_ki (by omega) (by omega) j cv hv, cK_of (agr_I agr_rf rfl) (c_ki (r := 6) (by omega) (by omega) j v hc), ?_⟩, rOth_of (agr_I (agr_I agr_rf rfl) rfl) ho⟩
    rw [sI_row, g1]
    have t := m_ki (r := 6) (by omega) (by omega) (i := j) (by omega) v hv.1.1.2 h8 hm
    rw [show 42 + 3 * j + (6 - 5) = 43 + 3 * j by omega] at t
    exact t
