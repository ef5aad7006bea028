/-! leaves: what numbers may be, an animal's places -/
theorem sBo_if (c : Prop) (d : Decidable c) : sBo (@ite Int32 c d 1 0) = true := by
  by_cases h : c
  · rw [if_pos h]; rfl
  · rw [if_neg h]; rfl
theorem if01 {c : Prop} (d : Decidable c) : ((@ite Int32 c d 1 0) = 0) = ¬ c := by
  by_cases h : c
  · simp [h]
  · simp [h]
theorem x_kind (σ : sS) (v : Int32) : f_X11_isKind σ v = some (if 1 ≤ v.toInt ∧ v.toInt ≤ 5 then 1 else 0) := by
  unfold f_X11_isKind
  rw [x_within, bd_some]
  exact grd_of (sBo_if _ _) _
theorem x_crank (σ : sS) (v : Int32) : f_X11_isCrank σ v = some (if 2 ≤ v.toInt ∧ v.toInt ≤ 12 then 1 else 0) := by
  unfold f_X11_isCrank
  rw [x_within, bd_some]
  exact grd_of (sBo_if _ _) _
theorem x_phase (σ : sS) (v : Int32) : f_X11_isPhase σ v = some (if 0 ≤ v.toInt ∧ v.toInt ≤ 11 then 1 else 0) := by
  unfold f_X11_isPhase
  rw [x_within, bd_some]
  exact grd_of (sBo_if _ _) _
theorem x_price (σ : sS) (v : Int32) : f_X11_isPrice σ v = some (if 0 ≤ v.toInt ∧ v.toInt ≤ 99 then 1 else 0) := by
  unfold f_X11_isPrice
  rw [x_within, bd_some]
  exact grd_of (sBo_if _ _) _
theorem m_part1 (σ : sS) (v : Int32) : f_X12_isPart σ 1 v = some (if 2 ≤ v.toInt ∧ v.toInt ≤ 12 then 1 else 0) := by
  unfold f_X12_isPart
  rw [if_pos rfl, m_inI, bd_some]
  exact grd_of (sBo_if _ _) _
theorem m_part2 (σ : sS) (v : Int32) : f_X12_isPart σ 2 v = some (if 0 ≤ v.toInt ∧ v.toInt ≤ 11 then 1 else 0) := by
  unfold f_X12_isPart
  rw [if_neg (by decide), if_pos rfl, m_inI, bd_some]
  exact grd_of (sBo_if _ _) _
theorem m_part3 (σ : sS) (v : Int32) : f_X12_isPart σ 3 v = some (if 0 ≤ v.toInt ∧ v.toInt ≤ 99 then 1 else 0) := by
  unfold f_X12_isPart
  rw [if_neg (by decide), if_neg (by decide), if_pos rfl, m_inI, bd_some]
  have e : ((0 : Int64).toInt ≤ v.toInt ∧ v.toInt ≤ (99 : Int64).toInt) = (0 ≤ v.toInt ∧ v.toInt ≤ 99) := rfl
  by_cases h : 0 ≤ v.toInt ∧ v.toInt ≤ 99
  · simp only [e, if_pos h, z10, if_false]
  · simp only [e, if_neg h, z00, if_true]
theorem m_part0 (σ : sS) {w : Int32} (v : Int32) (h1 : w ≠ 1) (h2 : w ≠ 2) (h3 : w ≠ 3) : f_X12_isPart σ w v = some 0 := by
  unfold f_X12_isPart
  rw [if_neg h1, if_neg h2, if_neg h3]
theorem x_has {σ : sS} {n : Nat} (hn : σ.1 1 4 = nI n) (h9 : n ≤ 9) (i : Int32) : f_X3_has σ i = some (if 0 ≤ i.toInt ∧ i.toInt < n then 1 else 0) := by
  have e : (nI n).toInt = n := nI_toInt (by omega)
  have e0 : (0 : Int32).toInt = 0 := rfl
  unfold f_X3_has
  rw [hn]
  by_cases h1 : i < 0
  · have h2 := i32_lt.mp h1
    rw [if_pos h1, if_neg (by omega)]
  · have h2 := mt i32_lt.mpr h1
    rw [if_neg h1]
    by_cases h3 : i < nI n
    · have h4 := i32_lt.mp h3
      rw [if_pos h3, if_pos (by omega)]
    · have h4 := mt i32_lt.mpr h3
      rw [if_neg h3, if_neg (by omega)]
theorem nI_m1 {n : Nat} (h : n < 1000000) : (nI n - 1).toInt = (n : Int) - 1 := by
  have h1 := pk_sub_toInt (a := n) (b := 1) (by omega) (by omega)
  exact h1
theorem m_isAn {σ : sS} {n : Nat} (hn : σ.1 84 0 = nI n) (h9 : n ≤ 9) (i : Int32) : f_X12_isAnimal σ i = some (if 0 ≤ i.toInt ∧ i.toInt < n then 1 else 0) := by
  unfold f_X12_isAnimal
  simp only [sin_0_316, grd_true, tn_0, hn, m_inI, bd_some, grd_of (sBo_if _ _), i64_of, nI_m1 (show n < 1000000 by omega)]
  have e0 : (0 : Int64).toInt = 0 := rfl
  rw [e0]
  by_cases h : 0 ≤ i.toInt ∧ i.toInt < n
  · rw [if_pos h, if_pos (by omega)]
  · rw [if_neg h, if_neg (by omega)]
theorem m_at (σ : sS) (i k : Nat) : f_X12_at σ (nI i) (nI k) = some (nI (6 + 4 * i + k)) := by
  unfold f_X12_at
  rw [show (6 : Int32) = nI 6 from rfl, show (4 : Int32) = nI 4 from rfl, pk_mul, nI_add, nI_add]
theorem m_its (σ : sS) {i k : Nat} (hi : i < 9) (hk : k < 4) : f_X12_its σ (nI i) (nI k) = some (σ.1 84 (6 + 4 * i + k)) := by
  unfold f_X12_its
  rw [m_at, bd_some, grd_of (sIn_nI (by omega) (by omega)), nI_clamp (by omega)]
/-- an animal's place becomes v: row r (1 KIND, 2 CRANK, 3 PHASE, 4 PRICE) -/
theorem c_an {σ : sS} {a : aK} {r : Nat} (h1 : 1 ≤ r) (h4 : r ≤ 4) (i : Nat) (v : Int32) (h : cK σ a) : cK (sI σ (r + 1) i v) (aSet a r i v) := by
  have hr : ∀ (q : Nat), q ≠ r + 1 → (sI σ (r + 1) i v).1 q = σ.1 q := fun q hq => sI_off _ _ _ _ hq
  unfold cK cKr at h ⊢
  rw [aSet_n a v (by omega), aSet_m a v (by omega), aSet_p a v (by omega), hr 1 (by omega), hr 6 (by omega), hr 7 (by omega), hr 8 (by omega), hr 9 (by omega), hr 10 (by omega), hr 11 (by omega), hr 15 (by omega), hr 16 (by omega), hr 17 (by omega), hr 18 (by omega), hr 19 (by omega), hr 20 (by omega), hr 21 (by omega), hr 22 (by omega), aSet_2]
  have hs : ∀ x y, x ≠ r → (aSet a r i v).1 x y = a.1 x y := fun x y hx => by rw [aSet_r, if_neg (fun q => hx q.1)]
  rw [hs 0 0 (by omega), hs 0 1 (by omega), hs 0 2 (by omega), hs 0 3 (by omega), hs 0 4 (by omega)]
  refine ⟨h.1, fun j hj => ?_, fun c hc => ?_, fun k hk => ?_, h.2.2.2.2⟩
  · have h2 := h.2.1 j hj
    have key : ∀ x, 1 ≤ x → x ≤ 4 → σ.1 (x + 1) j = a.1 x j → (sI σ (r + 1) i v).1 (x + 1) j = (aSet a r i v).1 x j := fun x _ _ hx => by
      rw [sI_r, aSet_r]
      by_cases e : x = r
      · subst e
        by_cases e2 : j = i
        · simp [e2]
        · simp [e2, hx]
      · rw [if_neg (by omega), if_neg (fun q => e q.1)]
        exact hx
    exact ⟨key 1 (by omega) (by omega) h2.1, key 2 (by omega) (by omega) h2.2.1, key 3 (by omega) (by omega) h2.2.2.1, key 4 (by omega) (by omega) h2.2.2.2⟩
  · rw [hs 5 c (by omega), hs 6 c (by omega), hs 7 c (by omega)]
    exact h.2.2.1 c hc
  · rw [hs 8 k (by omega), hs 9 k (by omega), hs 10 k (by omega)]
    exact h.2.2.2.1 k hk
theorem m_an {s : Nat → Int32} {a : aK} {r : Nat} (h1 : 1 ≤ r) (h4 : r ≤ 4) {i : Nat} (hi9 : i < 9) (v : Int32) (hn9 : aN a ≤ 9) (h : mK s a) : mK (upd s (6 + 4 * i + (r - 1)) v) (aSet a r i v) := by
  have hb : ∀ j, j ≠ 6 + 4 * i + (r - 1) → upd s (6 + 4 * i + (r - 1)) v j = s j := fun j hj => by rw [upd_r, if_neg hj]
  obtain ⟨g1, g2, g3, g4, g5⟩ := h
  have hs : ∀ x y, x ≠ r → (aSet a r i v).1 x y = a.1 x y := fun x y hx => by rw [aSet_r, if_neg (fun q => hx q.1)]
  unfold mK
  rw [aSet_n a v (by omega), aSet_m a v (by omega), aSet_p a v (by omega), hb 0 (by omega), hb 4 (by omega), hb 5 (by omega), hb 2 (by omega), hb 3 (by omega), hs 0 0 (by omega), hs 0 1 (by omega), hs 0 2 (by omega), hs 0 3 (by omega), hs 0 4 (by omega)]
  refine ⟨g1, fun j hj => ?_, fun c hc => ?_, fun k hk => ?_, mRu_upd _ v (by omega) (by omega) g5⟩
  · have h2 := g2 j hj
    have key : ∀ x, 1 ≤ x → x ≤ 4 → s (6 + 4 * j + (x - 1)) = a.1 x j → upd s (6 + 4 * i + (r - 1)) v (6 + 4 * j + (x - 1)) = (aSet a r i v).1 x j := fun x hx1 hx4 hx => by
      rw [upd_r, aSet_r]
      by_cases e : x = r ∧ j = i
      · rw [if_pos e, if_pos (by omega)]
      · rw [if_neg e, if_neg (by omega)]
        exact hx
    have k1 := key 1 (by omega) (by omega) h2.1
    have k2 := key 2 (by omega) (by omega) (by rw [show 6 + 4 * j + (2 - 1) = 7 + 4 * j by omega]; exact h2.2.1)
    have k3 := key 3 (by omega) (by omega) (by rw [show 6 + 4 * j + (3 - 1) = 8 + 4 * j by omega]; exact h2.2.2.1)
    have k4 := key 4 (by omega) (by omega) (by rw [show 6 + 4 * j + (4 - 1) = 9 + 4 * j by omega]; exact h2.2.2.2)
    rw [show 6 + 4 * j + (2 - 1) = 7 + 4 * j by omega] at k2
    rw [show 6 + 4 * j + (3 - 1) = 8 + 4 * j by omega] at k3
    rw [show 6 + 4 * j + (4 - 1) = 9 + 4 * j by omega] at k4
    exact ⟨k1, k2, k3, k4⟩
  · rw [hs 5 c (by omega), hs 6 c (by omega), hs 7 c (by omega), hb _ (by omega), hb _ (by omega), hb _ (by omega)]
    exact g3 c hc
  · rw [hs 8 k (by omega), hs 9 k (by omega), hs 10 k (by omega), hb _ (by omega), hb _ (by omega), hb _ (by omega)]
    exact g4 k hk
def rng (r : Nat) (v : Int32) : Prop := match r with | 1 => bt v 1 5 | 2 => bt v 2 12 | 3 => bt v 0 11 | _ => bt v 0 99
theorem v_an {a : aK} {r : Nat} (h1 : 1 ≤ r) (h4 : r ≤ 4) (i : Nat) {v : Int32} (hv : rng r v) (h : vK a) : vK (aSet a r i v) := by
  obtain ⟨g1, g2, g3, g4, g5⟩ := h
  have hs : ∀ x y, x ≠ r → (aSet a r i v).1 x y = a.1 x y := fun x y hx => by rw [aSet_r, if_neg (fun q => hx q.1)]
  unfold vK vS vA vC vP vR at *
  rw [aSet_n a v (by omega), aSet_m a v (by omega), aSet_p a v (by omega), hs 0 0 (by omega), hs 0 1 (by omega), hs 0 2 (by omega), hs 0 3 (by omega), hs 0 4 (by omega)]
  refine ⟨g1, fun j hj => ?_, fun c hc => ?_, fun k hk => ?_, g5⟩
  · have h2 := g2 j hj
    have key : ∀ x, 1 ≤ x → x ≤ 4 → rng x (a.1 x j) → rng x ((aSet a r i v).1 x j) := fun x hx1 hx4 hx => by
      rw [aSet_r]
      by_cases e : x = r ∧ j = i
      · rw [if_pos e, e.1]
        exact hv
      · rw [if_neg e]
        exact hx
    exact ⟨key 1 (by omega) (by omega) h2.1, key 2 (by omega) (by omega) h2.2.1, key 3 (by omega) (by omega) h2.2.2.1, key 4 (by omega) (by omega) h2.2.2.2⟩
  · rw [hs 5 c (by omega), hs 6 c (by omega), hs 7 c (by omega)]
    exact g3 c hc
  · rw [hs 8 k (by omega), hs 9 k (by omega), hs 10 k (by omega)]
    exact g4 k hk
