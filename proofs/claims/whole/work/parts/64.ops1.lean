/-! LEVEL and TURN -/
def aSet (a : aK) (r k : Nat) (v : Int32) : aK := (fun i j => if i = r ∧ j = k then v else a.1 i j, a.2)
theorem aSet_r (a : aK) (r k : Nat) (v : Int32) (i j : Nat) : (aSet a r k v).1 i j = if i = r ∧ j = k then v else a.1 i j := rfl
theorem aSet_2 (a : aK) (r k : Nat) (v : Int32) : (aSet a r k v).2 = a.2 := rfl
theorem aSet_n (a : aK) {r k : Nat} (v : Int32) (h : ¬ (r = 0 ∧ k = 0)) : aN (aSet a r k v) = aN a := by
  unfold aN
  rw [aSet_r, if_neg (fun q => h ⟨q.1.symm, q.2.symm⟩)]
theorem aSet_m (a : aK) {r k : Nat} (v : Int32) (h : ¬ (r = 0 ∧ k = 3)) : aM (aSet a r k v) = aM a := by
  unfold aM
  rw [aSet_r, if_neg (fun q => h ⟨q.1.symm, q.2.symm⟩)]
theorem aSet_p (a : aK) {r k : Nat} (v : Int32) (h : ¬ (r = 0 ∧ k = 4)) : aP (aSet a r k v) = aP a := by
  unfold aP
  rw [aSet_r, if_neg (fun q => h ⟨q.1.symm, q.2.symm⟩)]
/-- the model's rules stand apart from what is written below 84 (but the number at 1) -/
theorem mRu_upd {s : Nat → Int32} {rs : List aR} (k : Nat) (v : Int32) (hk : k < 84) (h1 : k ≠ 1) (h : mRu s rs) : mRu (upd s k v) rs := by
  have hb : ∀ j, 84 ≤ j → upd s k v j = s j := fun j hj => by rw [upd_r, if_neg (by omega)]
  unfold mRu at h ⊢
  rw [show upd s k v 1 = s 1 by rw [upd_r, if_neg (Ne.symm h1)]]
  obtain ⟨hl, ss, h2, h3, h4, h5⟩ := h
  refine ⟨hl, ss, h2, fun r hr => ?_, h4, fun r x hx => ?_⟩
  · rw [hb _ (by omega)]
    exact h3 r hr
  · rw [hb (84 + 4 * r) (by omega), hb (85 + 4 * r) (by omega), hb (86 + 4 * r) (by omega), show (fun k_1 => upd s k v (116 + k_1)) = (fun k => s (116 + k)) from funext fun j => hb _ (by omega)]
    exact h5 r x hx
theorem c_level {σ : sS} {a : aK} (v : Int32) (h : cK σ a) : cK (sI σ 1 5 v) (aSet a 0 1 v) := by
  unfold cK cKr at h ⊢
  rw [aSet_n a v (by omega), aSet_m a v (by omega), aSet_p a v (by omega)]
  simp only [sI_r, aSet_r, aSet_2, sI_off _ _ _ _ (show (2 : Nat) ≠ 1 by omega)]
  simpa [sI_r, sI_off, aSet_r] using (⟨⟨h.1.1, h.1.2.2⟩, h.2⟩ : (σ.1 1 4 = a.1 0 0 ∧ σ.1 1 6 = a.1 0 2 ∧ σ.1 15 3 = a.1 0 3 ∧ σ.1 19 3 = a.1 0 4) ∧ _)
theorem m_level {s : Nat → Int32} {a : aK} (v : Int32) (h : mK s a) : mK (upd s 4 v) (aSet a 0 1 v) := by
  obtain ⟨h1, h2, h3, h4, h5⟩ := h
  refine ⟨by simpa [upd_r, aSet_r] using ⟨h1.1, h1.2.2⟩, fun i hi => ?_, fun c hc => ?_, fun k hk => ?_, mRu_upd 4 v (by omega) (by omega) h5⟩
  · rw [aSet_n a v (by omega)] at hi
    simpa [upd_r, aSet_r, show ∀ x : Nat, 6 + x ≠ 4 by omega, show ∀ x : Nat, 7 + x ≠ 4 by omega, show ∀ x : Nat, 8 + x ≠ 4 by omega, show ∀ x : Nat, 9 + x ≠ 4 by omega] using h2 i hi
  · rw [aSet_m a v (by omega)] at hc
    simpa [upd_r, aSet_r, show ∀ x : Nat, 42 + x ≠ 4 by omega, show ∀ x : Nat, 43 + x ≠ 4 by omega, show ∀ x : Nat, 44 + x ≠ 4 by omega] using h3 c hc
  · rw [aSet_p a v (by omega)] at hk
    simpa [upd_r, aSet_r, show ∀ x : Nat, 66 + x ≠ 4 by omega, show ∀ x : Nat, 67 + x ≠ 4 by omega, show ∀ x : Nat, 68 + x ≠ 4 by omega] using h4 k hk
theorem v_level {a : aK} (v : Int32) (hv : bt v 0 7) (h : vK a) : vK (aSet a 0 1 v) := by
  obtain ⟨h1, h2, h3, h4, h5⟩ := h
  unfold vK vS vA vC vP vR at *
  rw [aSet_n a v (by omega), aSet_m a v (by omega), aSet_p a v (by omega)]
  refine ⟨?_, ?_, ?_, ?_, h5⟩
  · simpa [aSet_r] using (⟨h1.1, h1.2.1, h1.2.2.1, hv, h1.2.2.2.2⟩ : _ ∧ _ ∧ _ ∧ _ ∧ _)
  · simpa [aSet_r] using h2
  · simpa [aSet_r] using h3
  · simpa [aSet_r] using h4
theorem op_level (v : Int32) : Op (fun σ => f_X11_level σ v) (fun σ => f_X12_level σ v) := by
  intro σ hR
  have hR0 := hR
  obtain ⟨⟨a, hv, hc, hm⟩, ho⟩ := hR
  by_cases c : (0 : Int32).toInt ≤ v.toInt ∧ v.toInt ≤ (7 : Int32).toInt
  · have c2 : (0 : Int64).toInt ≤ v.toInt ∧ v.toInt ≤ (7 : Int64).toInt := c
    refine ⟨a.1 0 1, sI σ 1 5 v, sI (sI σ 1 5 v) 84 4 v, ?_, ?_, ?_⟩
    · simp only [f_X11_level, x_within, bd_some, pt_eq, if_pos c, z10, if_false, hc.1.2.1]
    · simp only [f_X12_level, m_inI, bd_some, pt_eq, if_pos c2, z10, if_false, sin_4_316, grd_true, tn_4, sI_off _ 1 5 v (show (84 : Nat) ≠ 1 by omega), hm.1.2.1]
    · refine ⟨⟨aSet a 0 1 v, v_level v c hv, cK_of (agr_I agr_rf rfl) (c_level v hc), ?_⟩, rOth_of (agr_I (agr_I agr_rf rfl) rfl) ho⟩
      rw [sI_row, sI_off _ 1 5 v (show (84 : Nat) ≠ 1 by omega)]
      exact m_level v hm
  · have c2 : ¬ ((0 : Int64).toInt ≤ v.toInt ∧ v.toInt ≤ (7 : Int64).toInt) := c
    exact ⟨-1, σ, σ, by simp only [f_X11_level, x_within, bd_some, if_neg c, if_true], by simp only [f_X12_level, m_inI, bd_some, if_neg c2, if_true], hR0⟩
theorem c_turn {σ : sS} {a : aK} (v : Int32) (h : cK σ a) : cK (sI σ 1 6 v) (aSet a 0 2 v) := by
  unfold cK cKr at h ⊢
  rw [aSet_n a v (by omega), aSet_m a v (by omega), aSet_p a v (by omega)]
  simpa [sI_r, sI_off, aSet_r, aSet_2] using (⟨⟨h.1.1, h.1.2.1, h.1.2.2.2⟩, h.2⟩ : (σ.1 1 4 = a.1 0 0 ∧ σ.1 1 5 = a.1 0 1 ∧ σ.1 15 3 = a.1 0 3 ∧ σ.1 19 3 = a.1 0 4) ∧ _)
theorem m_turn {s : Nat → Int32} {a : aK} (v : Int32) (h : mK s a) : mK (upd s 5 v) (aSet a 0 2 v) := by
  obtain ⟨h1, h2, h3, h4, h5⟩ := h
  refine ⟨by simpa [upd_r, aSet_r] using ⟨h1.1, h1.2.1, h1.2.2.2⟩, fun i hi => ?_, fun c hc => ?_, fun k hk => ?_, mRu_upd 5 v (by omega) (by omega) h5⟩
  · rw [aSet_n a v (by omega)] at hi
    simpa [upd_r, aSet_r, show ∀ x : Nat, 6 + x ≠ 5 by omega, show ∀ x : Nat, 7 + x ≠ 5 by omega, show ∀ x : Nat, 8 + x ≠ 5 by omega, show ∀ x : Nat, 9 + x ≠ 5 by omega] using h2 i hi
  · rw [aSet_m a v (by omega)] at hc
    simpa [upd_r, aSet_r, show ∀ x : Nat, 42 + x ≠ 5 by omega, show ∀ x : Nat, 43 + x ≠ 5 by omega, show ∀ x : Nat, 44 + x ≠ 5 by omega] using h3 c hc
  · rw [aSet_p a v (by omega)] at hk
    simpa [upd_r, aSet_r, show ∀ x : Nat, 66 + x ≠ 5 by omega, show ∀ x : Nat, 67 + x ≠ 5 by omega, show ∀ x : Nat, 68 + x ≠ 5 by omega] using h4 k hk
theorem v_turn {a : aK} (v : Int32) (hv : bt v 0 9999) (h : vK a) : vK (aSet a 0 2 v) := by
  obtain ⟨h1, h2, h3, h4, h5⟩ := h
  unfold vK vS vA vC vP vR at *
  rw [aSet_n a v (by omega), aSet_m a v (by omega), aSet_p a v (by omega)]
  refine ⟨?_, ?_, ?_, ?_, h5⟩
  · simpa [aSet_r] using (⟨h1.1, h1.2.1, h1.2.2.1, h1.2.2.2.1, hv⟩ : _ ∧ _ ∧ _ ∧ _ ∧ _)
  · simpa [aSet_r] using h2
  · simpa [aSet_r] using h3
  · simpa [aSet_r] using h4
theorem add_toInt {x y : Int32} (h1 : -1000000 ≤ x.toInt) (h2 : x.toInt ≤ 1000000) (h3 : -1000000 ≤ y.toInt) (h4 : y.toInt ≤ 1000000) : (x + y).toInt = x.toInt + y.toInt := by
  rw [Int32.toInt_add]
  exact Int.bmod_eq_of_le (by omega) (by omega)
theorem op_turn (v : Int32) : Op (fun σ => f_X11_turn σ v) (fun σ => f_X12_turn σ v) := by
  intro σ hR
  have hR0 := hR
  obtain ⟨⟨a, hv, hc, hm⟩, ho⟩ := hR
  have e1 : σ.1 1 6 = a.1 0 2 := hc.1.2.2.1
  have e2 : σ.1 84 5 = a.1 0 2 := hm.1.2.2.1
  by_cases c : (1 : Int32).toInt ≤ v.toInt ∧ v.toInt ≤ (500 : Int32).toInt
  · have c2 : (1 : Int64).toInt ≤ v.toInt ∧ v.toInt ≤ (500 : Int64).toInt := c
    by_cases d : 9999 < a.1 0 2 + v
    · exact ⟨-4, σ, σ, by simp only [f_X11_turn, x_within, bd_some, if_pos c, z10, if_false, e1, if_pos d], by simp only [f_X12_turn, m_inI, bd_some, if_pos c2, z10, if_false, sin_5_316, grd_true, tn_5, e2, if_pos d], hR0⟩
    · refine ⟨a.1 0 2 + v, sI σ 1 6 (a.1 0 2 + v), sI (sI σ 1 6 (a.1 0 2 + v)) 84 5 (a.1 0 2 + v), ?_, ?_, ?_⟩
      · simp only [f_X11_turn, x_within, bd_some, pt_eq, if_pos c, z10, if_false, e1, if_neg d, sI_r, if_true]
      · have g1 : (sI σ 1 6 (a.1 0 2 + v)).1 84 5 = a.1 0 2 := by rw [sI_off _ _ _ _ (by omega)]; exact e2
        simp only [f_X12_turn, m_inI, bd_some, pt_eq, if_pos c2, z10, if_false, sin_5_316, grd_true, tn_5, g1, if_neg d, sI_same]
      · have hb : bt (a.1 0 2 + v) 0 9999 := by
          have h1 := hv.1.2.2.2.2
          have h2 : (1 : Int32).toInt = 1 := rfl
          have h3 : (500 : Int32).toInt = 500 := rfl
          have h4 : (9999 : Int32).toInt = 9999 := rfl
          have h5 := mt i32_lt.mpr d
          unfold bt at h1 ⊢
          rw [add_toInt (by omega) (by omega) (by omega) (by omega)] at h5 ⊢
          omega
        refine ⟨⟨aSet a 0 2 (a.1 0 2 + v), v_turn _ hb hv, cK_of (agr_I agr_rf rfl) (c_turn _ hc), ?_⟩, rOth_of (agr_I (agr_I agr_rf rfl) rfl) ho⟩
        rw [sI_row, sI_off _ 1 6 (a.1 0 2 + v) (show (84 : Nat) ≠ 1 by omega)]
        exact m_turn _ hm
  · have c2 : ¬ ((1 : Int64).toInt ≤ v.toInt ∧ v.toInt ≤ (500 : Int64).toInt) := c
    exact ⟨-1, σ, σ, by simp only [f_X11_turn, x_within, bd_some, if_neg c, if_true], by simp only [f_X12_turn, m_inI, bd_some, if_neg c2, if_true], hR0⟩
