/-! photographs -/
/-- a photograph's place becomes v: row r (8 animal, 9 turn, 10 height) -/
theorem c_ph {σ : sS} {a : aK} {r : Nat} (h1 : 8 ≤ r) (h4 : r ≤ 10) (i : Nat) (v : Int32) (h : cK σ a) : cK (sI σ (r + 12) i v) (aSet a r i v) := by
  have hr : ∀ (q : Nat), q ≠ r + 12 → (sI σ (r + 12) i v).1 q = σ.1 q := fun q hq => sI_off _ _ _ _ hq
  unfold cK cKr at h ⊢
  rw [aSet_n a v (by omega), aSet_m a v (by omega), aSet_p a v (by omega), hr 1 (by omega), hr 2 (by omega), hr 3 (by omega), hr 4 (by omega), hr 5 (by omega), hr 6 (by omega), hr 7 (by omega), hr 8 (by omega), hr 9 (by omega), hr 10 (by omega), hr 11 (by omega), hr 15 (by omega), hr 19 (by omega), hr 16 (by omega), hr 17 (by omega), hr 18 (by omega), aSet_2]
  have hs : ∀ x y, x ≠ r → (aSet a r i v).1 x y = a.1 x y := fun x y hx => by rw [aSet_r, if_neg (fun q => hx q.1)]
  rw [hs 0 0 (by omega), hs 0 1 (by omega), hs 0 2 (by omega), hs 0 3 (by omega), hs 0 4 (by omega)]
  refine ⟨h.1, fun j hj => ?_, fun c hc => ?_, fun k hk => ?_, h.2.2.2.2⟩
  · rw [hs 1 j (by omega), hs 2 j (by omega), hs 3 j (by omega), hs 4 j (by omega)]
    exact h.2.1 j hj
  · rw [hs 5 c (by omega), hs 6 c (by omega), hs 7 c (by omega)]
    exact h.2.2.1 c hc
  · have h2 := h.2.2.2.1 k hk
    have key : ∀ x, 8 ≤ x → x ≤ 10 → σ.1 (x + 12) k = a.1 x k → (sI σ (r + 12) i v).1 (x + 12) k = (aSet a r i v).1 x k := fun x _ _ hx => by
      rw [sI_r, aSet_r]
      by_cases e : x = r
      · subst e
        by_cases e2 : k = i
        · simp [e2]
        · simp [e2, hx]
      · rw [if_neg (by omega), if_neg (fun q => e q.1)]
        exact hx
    exact ⟨key 8 (by omega) (by omega) h2.1, key 9 (by omega) (by omega) h2.2.1, key 10 (by omega) (by omega) h2.2.2⟩
theorem m_ph {s : Nat → Int32} {a : aK} {r : Nat} (h1 : 8 ≤ r) (h4 : r ≤ 10) {i : Nat} (hi9 : i < 6) (v : Int32) (hn9 : aN a ≤ 9) (hm8 : aM a ≤ 8) (h : mK s a) : mK (upd s (66 + 3 * i + (r - 8)) v) (aSet a r i v) := by
  have hb : ∀ j, j ≠ 66 + 3 * i + (r - 8) → upd s (66 + 3 * i + (r - 8)) v j = s j := fun j hj => by rw [upd_r, if_neg hj]
  obtain ⟨g1, g2, g3, g4, g5⟩ := h
  have hs : ∀ x y, x ≠ r → (aSet a r i v).1 x y = a.1 x y := fun x y hx => by rw [aSet_r, if_neg (fun q => hx q.1)]
  unfold mK
  rw [aSet_n a v (by omega), aSet_m a v (by omega), aSet_p a v (by omega), hb 0 (by omega), hb 4 (by omega), hb 5 (by omega), hb 2 (by omega), hb 3 (by omega), hs 0 0 (by omega), hs 0 1 (by omega), hs 0 2 (by omega), hs 0 3 (by omega), hs 0 4 (by omega)]
  refine ⟨g1, fun j hj => ?_, fun c hc => ?_, fun k hk => ?_, mRu_upd _ _ (by omega) (by omega) g5⟩
  · rw [hs 1 j (by omega), hs 2 j (by omega), hs 3 j (by omega), hs 4 j (by omega), hb _ (by omega), hb _ (by omega), hb _ (by omega), hb _ (by omega)]
    exact g2 j hj
  · rw [hs 5 c (by omega), hs 6 c (by omega), hs 7 c (by omega), hb _ (by omega), hb _ (by omega), hb _ (by omega)]
    exact g3 c hc
  · have h2 := g4 k hk
    have key : ∀ x, 8 ≤ x → x ≤ 10 → s (66 + 3 * k + (x - 8)) = a.1 x k → upd s (66 + 3 * i + (r - 8)) v (66 + 3 * k + (x - 8)) = (aSet a r i v).1 x k := fun x hx1 hx4 hx => by
      rw [upd_r, aSet_r]
      by_cases e : x = r ∧ k = i
      · rw [if_pos e, if_pos (by omega)]
      · rw [if_neg e, if_neg (by omega)]
        exact hx
    have k1 := key 8 (by omega) (by omega) h2.1
    have k2 := key 9 (by omega) (by omega) (by rw [show 66 + 3 * k + (9 - 8) = 67 + 3 * k by omega]; exact h2.2.1)
    have k3 := key 10 (by omega) (by omega) (by rw [show 66 + 3 * k + (10 - 8) = 68 + 3 * k by omega]; exact h2.2.2)
    rw [show 66 + 3 * k + (9 - 8) = 67 + 3 * k by omega] at k2
    rw [show 66 + 3 * k + (10 - 8) = 68 + 3 * k by omega] at k3
    exact ⟨k1, k2, k3⟩
def rngP (a : aK) (r : Nat) (v : Int32) : Prop := match r with | 8 => (∃ i, i < aN a ∧ v = nI i) | 9 => bt v 0 9999 | _ => bt v 0 9
theorem v_ph {a : aK} {r : Nat} (h1 : 8 ≤ r) (h4 : r ≤ 10) (i : Nat) {v : Int32} (hv : rngP a r v) (h : vK a) : vK (aSet a r i v) := by
  obtain ⟨g1, g2, g3, g4, g5⟩ := h
  have hs : ∀ x y, x ≠ r → (aSet a r i v).1 x y = a.1 x y := fun x y hx => by rw [aSet_r, if_neg (fun q => hx q.1)]
  unfold vK vS vA vC vP vR at *
  rw [aSet_n a v (by omega), aSet_m a v (by omega), aSet_p a v (by omega), hs 0 0 (by omega), hs 0 1 (by omega), hs 0 2 (by omega), hs 0 3 (by omega), hs 0 4 (by omega)]
  refine ⟨g1, fun j hj => ?_, fun c hc => ?_, fun k hk => ?_, g5⟩
  · rw [hs 1 j (by omega), hs 2 j (by omega), hs 3 j (by omega), hs 4 j (by omega)]
    exact g2 j hj
  · rw [hs 5 c (by omega), hs 6 c (by omega), hs 7 c (by omega)]
    exact g3 c hc
  · have h2 := g4 k hk
    have key : ∀ x, 8 ≤ x → x ≤ 10 → rngP a x (a.1 x k) → rngP a x ((aSet a r i v).1 x k) := fun x hx1 hx4 hx => by
      rw [aSet_r]
      by_cases e : x = r ∧ k = i
      · rw [if_pos e, e.1]
        exact hv
      · rw [if_neg e]
        exact hx
    exact ⟨key 8 (by omega) (by omega) h2.1, key 9 (by omega) (by omega) h2.2.1, key 10 (by omega) (by omega) h2.2.2⟩
theorem c_phs {σ : sS} {a : aK} {m : Nat} (h8 : m ≤ 6) (hx : ∀ c, c < m → σ.1 20 c = a.1 8 c ∧ σ.1 21 c = a.1 9 c ∧ σ.1 22 c = a.1 10 c) (h : cK σ a) : cK (sI σ 19 3 (nI m)) (aSet a 0 4 (nI m)) := by
  have hn : aP (aSet a 0 4 (nI m)) = m := aSet_p1 a (by omega)
  have hr : ∀ (q : Nat), q ≠ 19 → (sI σ 19 3 (nI m)).1 q = σ.1 q := fun q hq => sI_off _ _ _ _ hq
  have hs : ∀ x y, x ≠ 0 → (aSet a 0 4 (nI m)).1 x y = a.1 x y := fun x y hx => by rw [aSet_r, if_neg (fun q => hx q.1)]
  have hs0 : ∀ y, y ≠ 4 → (aSet a 0 4 (nI m)).1 0 y = a.1 0 y := fun y hy => by rw [aSet_r, if_neg (fun q => hy q.2)]
  unfold cK cKr at h ⊢
  rw [hn, aSet_n a _ (by omega), aSet_m a _ (by omega), hr 1 (by omega), hr 2 (by omega), hr 3 (by omega), hr 4 (by omega), hr 5 (by omega), hr 6 (by omega), hr 7 (by omega), hr 8 (by omega), hr 9 (by omega), hr 10 (by omega), hr 11 (by omega), hr 15 (by omega), hr 16 (by omega), hr 17 (by omega), hr 18 (by omega), hr 20 (by omega), hr 21 (by omega), hr 22 (by omega), aSet_2, hs0 0 (by omega), hs0 1 (by omega), hs0 2 (by omega), hs0 3 (by omega)]
  refine ⟨⟨h.1.1, h.1.2.1, h.1.2.2.1, h.1.2.2.2.1, ?_⟩, fun i hi => ?_, fun c hc => ?_, fun k hk => ?_, h.2.2.2.2⟩
  · rw [sI_same, aSet_r, if_pos ⟨rfl, rfl⟩]
  · rw [hs 1 i (by omega), hs 2 i (by omega), hs 3 i (by omega), hs 4 i (by omega)]
    exact h.2.1 i hi
  · rw [hs 5 c (by omega), hs 6 c (by omega), hs 7 c (by omega)]
    exact h.2.2.1 c hc
  · rw [hs 8 k (by omega), hs 9 k (by omega), hs 10 k (by omega)]
    exact hx k hk
theorem m_phs {s : Nat → Int32} {a : aK} {m : Nat} (h8 : m ≤ 6) (hx : ∀ c, c < m → s (66 + 3 * c) = a.1 8 c ∧ s (67 + 3 * c) = a.1 9 c ∧ s (68 + 3 * c) = a.1 10 c) (h : mK s a) : mK (upd s 3 (nI m)) (aSet a 0 4 (nI m)) := by
  have hn : aP (aSet a 0 4 (nI m)) = m := aSet_p1 a (by omega)
  have hb : ∀ j, j ≠ 3 → upd s 3 (nI m) j = s j := fun j hj => by rw [upd_r, if_neg hj]
  have hs : ∀ x y, x ≠ 0 → (aSet a 0 4 (nI m)).1 x y = a.1 x y := fun x y hx => by rw [aSet_r, if_neg (fun q => hx q.1)]
  have hs0 : ∀ y, y ≠ 4 → (aSet a 0 4 (nI m)).1 0 y = a.1 0 y := fun y hy => by rw [aSet_r, if_neg (fun q => hy q.2)]
  obtain ⟨g1, g2, g3, g4, g5⟩ := h
  unfold mK
  rw [hn, aSet_n a _ (by omega), aSet_m a _ (by omega), hb 0 (by omega), hb 4 (by omega), hb 5 (by omega), hb 2 (by omega), hs0 0 (by omega), hs0 1 (by omega), hs0 2 (by omega), hs0 3 (by omega)]
  refine ⟨⟨g1.1, g1.2.1, g1.2.2.1, g1.2.2.2.1, by rw [upd_r, if_pos rfl, aSet_r, if_pos ⟨rfl, rfl⟩]⟩, fun i hi => ?_, fun c hc => ?_, fun k hk => ?_, mRu_upd 3 _ (by omega) (by omega) g5⟩
  · rw [hs 1 i (by omega), hs 2 i (by omega), hs 3 i (by omega), hs 4 i (by omega), hb _ (by omega), hb _ (by omega), hb _ (by omega), hb _ (by omega)]
    exact g2 i hi
  · rw [hs 5 c (by omega), hs 6 c (by omega), hs 7 c (by omega), hb _ (by omega), hb _ (by omega), hb _ (by omega)]
    exact g3 c hc
  · rw [hs 8 k (by omega), hs 9 k (by omega), hs 10 k (by omega), hb _ (by omega), hb _ (by omega), hb _ (by omega)]
    exact hx k hk
theorem v_phs {a : aK} {m : Nat} (h8 : m ≤ 6) (hx : ∀ c, c < m → rngP a 8 (a.1 8 c) ∧ rngP a 9 (a.1 9 c) ∧ rngP a 10 (a.1 10 c)) (h : vK a) : vK (aSet a 0 4 (nI m)) := by
  have hn : aP (aSet a 0 4 (nI m)) = m := aSet_p1 a (by omega)
  have hs : ∀ x y, x ≠ 0 → (aSet a 0 4 (nI m)).1 x y = a.1 x y := fun x y hx => by rw [aSet_r, if_neg (fun q => hx q.1)]
  have hs0 : ∀ y, y ≠ 4 → (aSet a 0 4 (nI m)).1 0 y = a.1 0 y := fun y hy => by rw [aSet_r, if_neg (fun q => hy q.2)]
  obtain ⟨g1, g2, g3, g4, g5⟩ := h
  unfold vK vS vA vC vP vR at *
  rw [hn, aSet_n a _ (by omega), aSet_m a _ (by omega), hs0 0 (by omega), hs0 1 (by omega), hs0 2 (by omega), hs0 3 (by omega)]
  refine ⟨⟨g1.1, g1.2.1, ⟨by rw [aSet_r, if_pos ⟨rfl, rfl⟩], h8⟩, g1.2.2.2⟩, fun i hi => ?_, fun c hc => ?_, fun k hk => ?_, g5⟩
  · rw [hs 1 i (by omega), hs 2 i (by omega), hs 3 i (by omega), hs 4 i (by omega)]
    exact g2 i hi
  · rw [hs 5 c (by omega), hs 6 c (by omega), hs 7 c (by omega)]
    exact g3 c hc
  · rw [hs 8 k (by omega), hs 9 k (by omega), hs 10 k (by omega)]
    exact hx k hk
theorem op_burn : Op (fun σ => f_X11_burn σ) (fun σ => f_X12_burn σ) := by
  intro σ hR
  obtain ⟨⟨a, hv, hc, hm⟩, ho⟩ := hR
  have g1 : (sI σ 19 3 0).1 84 = σ.1 84 := sI_off _ _ _ _ (by omega)
  have n1 : σ.1 19 3 = a.1 0 4 := hc.1.2.2.2.2
  have n2 : σ.1 84 3 = a.1 0 4 := hm.1.2.2.2.2
  refine ⟨a.1 0 4, sI σ 19 3 0, sI (sI σ 19 3 0) 84 3 0, ?_, ?_, ?_⟩
  · simp only [f_X11_burn, pt_eq, n1]
  · simp only [f_X12_burn, sin_3_316, grd_true, tn_3, g1, n2, pt_eq]
  · refine ⟨⟨aSet a 0 4 (nI 0), v_phs (by omega) (fun c hc => absurd hc (Nat.not_lt_zero _)) hv, cK_of (agr_I agr_rf rfl) (c_phs (m := 0) (by omega) (fun c hc => absurd hc (Nat.not_lt_zero _)) hc), ?_⟩, rOth_of (agr_I (agr_I agr_rf rfl) rfl) ho⟩
    rw [sI_row, g1]
    exact m_phs (m := 0) (by omega) (fun c hc => absurd hc (Nat.not_lt_zero _)) hm
theorem x_turnR (σ : sS) (v : Int32) : f_X11_isTurn σ v = some (if 0 ≤ v.toInt ∧ v.toInt ≤ 9999 then 1 else 0) := by
  unfold f_X11_isTurn
  rw [x_within, bd_some]
  exact grd_of (sBo_if _ _) _
theorem m_turnR (σ : sS) (v : Int32) : f_X12_isTurn σ v = some (if 0 ≤ v.toInt ∧ v.toInt ≤ 9999 then 1 else 0) := by
  unfold f_X12_isTurn
  rw [m_inI, bd_some]
  exact grd_of (sBo_if _ _) _
theorem op_photo (i t y : Int32) : Op (fun σ => f_X11_photo σ i t y) (fun σ => f_X12_photo σ i t y) := by
  intro σ hR
  have hR0 := hR
  obtain ⟨⟨a, hv, hc, hm⟩, ho⟩ := hR
  have h9 : aN a ≤ 9 := hv.1.1.2
  have h8 : aM a ≤ 8 := hv.1.2.1.2
  have h6 : aP a ≤ 6 := hv.1.2.2.1.2
  have a1 : σ.1 1 4 = nI (aN a) := hc.1.1.trans hv.1.1.1
  have a2 : σ.1 84 0 = nI (aN a) := hm.1.1.trans hv.1.1.1
  have n1 : σ.1 19 3 = nI (aP a) := hc.1.2.2.2.2.trans hv.1.2.2.1.1
  have n2 : σ.1 84 3 = nI (aP a) := hm.1.2.2.2.2.trans hv.1.2.2.1.1
  by_cases ci : 0 ≤ i.toInt ∧ i.toInt < aN a
  rotate_left
  · exact ⟨-1, σ, σ, by simp only [f_X11_photo, x_has a1 h9, bd_some, if_neg ci, if_true], by simp only [f_X12_photo, m_isAn a2 h9, bd_some, if_neg ci, if_true], hR0⟩
  by_cases ct : 0 ≤ t.toInt ∧ t.toInt ≤ 9999
  rotate_left
  · exact ⟨-1, σ, σ, by simp only [f_X11_photo, x_has a1 h9, x_turnR, bd_some, if_pos ci, z10, if_false, if_neg ct, if_true], by simp only [f_X12_photo, m_isAn a2 h9, m_turnR, bd_some, if_pos ci, z10, if_false, if_neg ct, if_true], hR0⟩
  by_cases cy : (0 : Int32).toInt ≤ y.toInt ∧ y.toInt ≤ (9 : Int32).toInt
  rotate_left
  · have cy2 : ¬ ((0 : Int64).toInt ≤ y.toInt ∧ y.toInt ≤ (9 : Int64).toInt) := cy
    exact ⟨-1, σ, σ, by simp only [f_X11_photo, x_has a1 h9, x_turnR, x_within, bd_some, if_pos ci, z10, if_false, if_pos ct, if_neg cy, if_true], by simp only [f_X12_photo, m_isAn a2 h9, m_turnR, m_inI, bd_some, if_pos ci, z10, if_false, if_pos ct, if_neg cy2, if_true], hR0⟩
  have cy2 : (0 : Int64).toInt ≤ y.toInt ∧ y.toInt ≤ (9 : Int64).toInt := cy
  by_cases hn : aP a = 6
  · have e8 : (nI (aP a) = 6) = True := by rw [hn]; simp [nI]
    exact ⟨-2, σ, σ, by simp only [f_X11_photo, x_has a1 h9, x_turnR, x_within, bd_some, if_pos ci, z10, if_false, if_pos ct, if_pos cy, n1, e8, if_true], by simp only [f_X12_photo, m_isAn a2 h9, m_turnR, m_inI, bd_some, if_pos ci, z10, if_false, if_pos ct, if_pos cy2, sin_3_316, grd_true, tn_3, n2, e8, if_true], hR0⟩
  have hlt : aP a < 6 := by omega
  have e8 : ¬ nI (aP a) = 6 := fun h => hn (nI_inj (by omega) (by omega) h)
  obtain ⟨n, hN⟩ : ∃ n, n = aP a := ⟨_, rfl⟩
  rw [← hN] at n1 n2 e8
  have hin := sIn_nI (show n < 6 by omega) (show 6 < 2 ^ 31 by omega)
  have hcl := nI_clamp (show n < 2 ^ 31 by omega)
  have hsub : nI n + 1 = nI (n + 1) := nI_1 n
  have hsb : nI (n + 1) - 1 = nI n := nI_pred n
  have e66 : (66 : Int32) + (3 : Int32) * nI n = nI (66 + 3 * n) := by rw [show (66 : Int32) = nI 66 from rfl, show (3 : Int32) = nI 3 from rfl, pk_mul, nI_add]
  have e67 : nI (66 + 3 * n) + 1 = nI (67 + 3 * n) := by rw [nI_1, show 66 + 3 * n + 1 = 67 + 3 * n by omega]
  have e68 : nI (66 + 3 * n) + 2 = nI (68 + 3 * n) := by rw [show (2 : Int32) = nI 2 from rfl, nI_add, show 66 + 3 * n + 2 = 68 + 3 * n by omega]
  obtain ⟨τ, hτ⟩ : ∃ τ, τ = sI (sI (sI σ 20 n i) 21 n t) 22 n y := ⟨_, rfl⟩
  obtain ⟨τ1, hτ1⟩ : ∃ τ1, τ1 = sI τ 19 3 (nI (n + 1)) := ⟨_, rfl⟩
  have g1 : τ1.1 84 = σ.1 84 := by rw [hτ1, hτ, sI_off _ _ _ _ (by omega), sI_off _ _ _ _ (by omega), sI_off _ _ _ _ (by omega), sI_off _ _ _ _ (by omega)]
  refine ⟨nI n, τ1, sI (sI (sI (sI τ1 84 (66 + 3 * n) i) 84 (67 + 3 * n) t) 84 (68 + 3 * n) y) 84 3 (nI (n + 1)), ?_, ?_, ?_⟩
  · have r4 : ∀ (τ : sS) (q' j : Nat) (v : Int32), q' ≠ 19 → (sI τ q' j v).1 19 3 = τ.1 19 3 := fun τ q' j v h => by rw [sI_off _ _ _ _ (Ne.symm h)]
    simp only [f_X11_photo, x_has a1 h9, x_turnR, x_within, bd_some, if_pos ci, z10, if_false, if_pos ct, if_pos cy, n1, if_neg e8, f_X2_add, r4 _ 20 _ _ (by omega), r4 _ 21 _ _ (by omega), r4 _ 22 _ _ (by omega), grd_of hin, pt_eq, hcl, sI_same, hsub, hsb, hτ1, hτ]
  · have s0' : ∀ (τ : sS) (j : Nat) (v : Int32), j ≠ 3 → (sI τ 84 j v).1 84 3 = τ.1 84 3 := fun τ j v h => by rw [sI_r, if_pos rfl, if_neg (Ne.symm h)]
    have a3 : τ1.1 84 0 = nI (aN a) := by rw [g1]; exact a2
    simp only [f_X12_photo, m_isAn a3 h9, m_turnR, m_inI, bd_some, if_pos ci, z10, if_false, if_pos ct, if_pos cy2, sin_3_316, grd_true, tn_3, g1, n2, if_neg e8, pt_eq, e66, e67, e68, grd_of (sIn_nI (show 66 + 3 * n < 316 by omega) (by omega)), grd_of (sIn_nI (show 67 + 3 * n < 316 by omega) (by omega)), grd_of (sIn_nI (show 68 + 3 * n < 316 by omega) (by omega)), nI_clamp (show 66 + 3 * n < 2 ^ 31 by omega), nI_clamp (show 67 + 3 * n < 2 ^ 31 by omega), nI_clamp (show 68 + 3 * n < 2 ^ 31 by omega), s0' _ (66 + 3 * n) _ (by omega), s0' _ (67 + 3 * n) _ (by omega), s0' _ (68 + 3 * n) _ (by omega), hsub, sI_same, hsb]
  · obtain ⟨b, hb⟩ : ∃ b : aK, b = aSet (aSet (aSet a 8 n i) 9 n t) 10 n y := ⟨_, rfl⟩
    have b1 : b.1 8 n = i := by simp [hb, aSet_r]
    have b2 : b.1 9 n = t := by simp [hb, aSet_r]
    have b3 : b.1 10 n = y := by simp [hb, aSet_r]
    have bn : aN b = aN a := by rw [hb, aSet_n _ _ (by omega), aSet_n _ _ (by omega), aSet_n _ _ (by omega)]
    have bm : aP b = n := by rw [hb, aSet_p _ _ (by omega), aSet_p _ _ (by omega), aSet_p _ _ (by omega), hN]
    have vi : ∃ j, j < aN a ∧ i = nI j := i32_nI ci.1 ci.2 (by omega)
    have hcb : cK τ b := by
      rw [hb, hτ]
      exact c_ph (r := 10) (by omega) (by omega) n y (c_ph (r := 9) (by omega) (by omega) n t (c_ph (r := 8) (by omega) (by omega) n i hc))
    have hvb : vK b := by
      rw [hb]
      exact v_ph (r := 10) (by omega) (by omega) n cy (v_ph (r := 9) (by omega) (by omega) n ct (v_ph (r := 8) (by omega) (by omega) n vi hv))
    have hmb : mK (upd (upd (upd (σ.1 84) (66 + 3 * n) i) (67 + 3 * n) t) (68 + 3 * n) y) b := by
      rw [hb]
      have t1 := m_ph (r := 8) (by omega) (by omega) (i := n) (by omega) i h9 h8 hm
      have t2 := m_ph (r := 9) (by omega) (by omega) (i := n) (by omega) t (by rw [aSet_n _ _ (by omega)]; exact h9) (by rw [aSet_m _ _ (by omega)]; exact h8) t1
      have t3 := m_ph (r := 10) (by omega) (by omega) (i := n) (by omega) y (by rw [aSet_n _ _ (by omega), aSet_n _ _ (by omega)]; exact h9) (by rw [aSet_m _ _ (by omega), aSet_m _ _ (by omega)]; exact h8) t2
      rw [show 66 + 3 * n + (8 - 8) = 66 + 3 * n by omega, show 66 + 3 * n + (9 - 8) = 67 + 3 * n by omega, show 66 + 3 * n + (10 - 8) = 68 + 3 * n by omega] at t3
      exact t3
    have kc : ∀ c, c < n + 1 → τ.1 20 c = b.1 8 c ∧ τ.1 21 c = b.1 9 c ∧ τ.1 22 c = b.1 10 c := fun c hc2 => by
      by_cases e : c = n
      · rw [e, b1, b2, b3, hτ]
        exact ⟨by simp [sI_r], by simp [sI_r], by simp [sI_r]⟩
      · exact hcb.2.2.2.1 c (by omega)
    have kv : ∀ c, c < n + 1 → rngP b 8 (b.1 8 c) ∧ rngP b 9 (b.1 9 c) ∧ rngP b 10 (b.1 10 c) := fun c hc2 => by
      by_cases e : c = n
      · rw [e, b1, b2, b3]
        refine ⟨?_, ct, cy⟩
        unfold rngP
        rw [bn]
        exact vi
      · exact hvb.2.2.2.1 c (by omega)
    refine ⟨⟨aSet b 0 4 (nI (n + 1)), v_phs (by omega) kv hvb, cK_of (σ := τ1) (agr_I (agr_I (agr_I (agr_I agr_rf rfl) rfl) rfl) rfl) ?_, ?_⟩, rOth_of (σ := σ) ?_ ho⟩
    · rw [hτ1]
      exact c_phs (by omega) kc hcb
    · rw [sI_row, sI_row, sI_row, sI_row, g1]
      refine m_phs (by omega) (fun c hc2 => ?_) hmb
      by_cases e : c = n
      · rw [e, b1, b2, b3]
        refine ⟨?_, ?_, ?_⟩
        · rw [upd_r, if_neg (by omega), upd_r, if_neg (by omega), upd_r, if_pos rfl]
        · rw [upd_r, if_neg (by omega), upd_r, if_pos rfl]
        · rw [upd_r, if_pos rfl]
      · exact hmb.2.2.2.1 c (by omega)
    · rw [hτ1, hτ]
      exact agr_I (agr_I (agr_I (agr_I (agr_I (agr_I (agr_I (agr_I agr_rf rfl) rfl) rfl) rfl) rfl) rfl) rfl) rfl
