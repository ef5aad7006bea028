/-! THE RULES: what a rule does, in both -/
theorem sub_int {x k : Nat} (hx : x < 11000) (hk : k ≤ 1000) : (nI x - nI k).toInt = (x : Int) - k := by
  have e1 : (nI x).toInt = x := nI_toInt (by omega)
  have e2 : (nI k).toInt = k := nI_toInt (by omega)
  rw [Int32.toInt_sub, e1, e2]
  exact Int.bmod_eq_of_le (by omega) (by omega)
theorem x_with {x k h : Nat} (σ : sS) (hx : x < 11000) (hk : k ≤ 1000) (hh : h < 1000) : f_X11_isWithin σ (nI x - nI k) 0 (nI h) = some (if k ≤ x ∧ x ≤ k + h then 1 else 0) := by
  have e := sub_int hx hk
  have e0 : (0 : Int32).toInt = 0 := rfl
  have eh : (nI h).toInt = h := nI_toInt (by omega)
  unfold f_X11_isWithin
  by_cases c1 : k ≤ x
  · rw [if_neg (mt i32_lt.mp (by omega))]
    by_cases c2 : x ≤ k + h
    · rw [if_neg (mt i32_lt.mp (by omega)), if_pos ⟨c1, c2⟩]
    · rw [if_pos (i32_lt.mpr (by omega)), if_neg (fun g => c2 g.2)]
  · rw [if_pos (i32_lt.mpr (by omega)), if_neg (fun g => c1 g.1)]
theorem x_with0 {x h : Nat} (σ : sS) (hx : x < 11000) (hh : h < 1000) : f_X11_isWithin σ (nI x) 0 (nI h) = some (if x ≤ h then 1 else 0) := by
  have e : (nI x).toInt = x := nI_toInt (by omega)
  have e0 : (0 : Int32).toInt = 0 := rfl
  have eh : (nI h).toInt = h := nI_toInt (by omega)
  unfold f_X11_isWithin
  rw [if_neg (mt i32_lt.mp (by omega))]
  by_cases c2 : x ≤ h
  · rw [if_neg (mt i32_lt.mp (by omega)), if_pos c2]
  · rw [if_pos (i32_lt.mpr (by omega)), if_neg c2]
theorem off21 (υ : sS) (x : Int32) : ∀ q j, ¬ (q = 83 ∧ j = 21) → (sI υ 83 21 x).1 q j = υ.1 q j := fun q j g => by
  rw [sI_r]
  by_cases e : q = 83
  · rw [if_pos e, if_neg (fun e2 => g ⟨e, e2⟩), e]
  · rw [if_neg e]
theorem MD_21 {b : Nat → Int32} {L : Nat} {υ0 υ : sS} {t : Nat} (hs : MD b L υ0 υ t) (x : Int32) : MD b L υ0 (sI υ 83 21 x) t := by
  obtain ⟨h1, h2, h3, h6⟩ := hs
  exact ⟨by rw [off21 υ x 83 19 (by omega)]; exact h1, by rw [off21 υ x 83 20 (by omega)]; exact h2, by rw [off21 υ x 83 24 (by omega)]; exact h3, FM_sI h6 (Or.inl (by omega))⟩
theorem d_175 {b : Nat → Int32} {L : Nat} {υ0 υ τ : sS} {t : Nat} {y : Int32} (h1 : f_X12_needs υ y = some τ) (h2 : MD b L υ0 τ t) (x1 x4 x5 : Int32) : fj_X12_rule_175 υ x1 x4 x5 y = some τ := by
  unfold fj_X12_rule_175
  rw [h1, bd_some, if_neg (MD_ne h2)]
theorem d_143 {b : Nat → Int32} {L : Nat} {υ0 υ : sS} {t : Nat} (h : MD b L υ0 υ t) (x1 x4 : Int32) : ∃ τ, fj_X12_rule_143 υ x1 x4 = some τ ∧ MD b L υ0 τ t := by
  obtain ⟨τ, h1, h2⟩ := d_needs h 0
  refine ⟨τ, ?_, h2⟩
  unfold fj_X12_rule_143 fj_X12_rule_174
  rw [if_neg (MD_ne h), d_175 h1 h2]
theorem d_116 {b : Nat → Int32} {L : Nat} {υ0 υ ω : sS} {t : Nat} {y : Int32} (h1 : f_X12_needs υ y = some ω) (h2 : MD b L υ0 ω t) (x1 x4 : Int32) : ∃ τ, fj_X12_rule_116 υ x1 x4 y = some τ ∧ MD b L υ0 τ t := by
  have h3 := MD_21 h2 0
  obtain ⟨τ, g1, g2⟩ := d_143 h3 x1 x4
  refine ⟨τ, ?_, g2⟩
  unfold fj_X12_rule_116
  rw [h1, bd_some, pt_eq, if_neg (MD_ne h3), g1]
  simp only [ite_self]
theorem d_103 {b : Nat → Int32} {L : Nat} {υ0 υ ω : sS} {t : Nat} (h1 : f_X12_needs υ 0 = some ω) (h2 : MD b L υ0 ω t) (x1 : Int32) : ∃ τ, fj_X12_rule_103 υ x1 (-1) = some τ ∧ MD b L υ0 τ t := by
  obtain ⟨τ, g1, g2⟩ := d_116 h1 h2 x1 (-1)
  refine ⟨τ, ?_, g2⟩
  unfold fj_X12_rule_103
  rw [if_pos (by decide), g1]
theorem d_49 {b : Nat → Int32} {L : Nat} {υ0 υ : sS} {t : Nat} (hM : MT υ0 b L) (hL : L ≤ 200) (hb : ∀ k, k < L → bt (b k) 0 255) (h : MD b L υ0 υ t) (x1 : Int32) : ∃ τ, fj_X12_rule_49 υ x1 = some τ ∧ MD b L υ0 τ t := by
  obtain ⟨w, h1, k⟩ := d_wd hM hL hb h
  have k7 : ¬ lg_cmp w 215205 = 0 := k 7 (by omega)
  have k8 : ¬ lg_cmp w 136242 = 0 := k 8 (by omega)
  have k9 : ¬ lg_cmp w 635383 = 0 := k 9 (by omega)
  have k10 : ¬ lg_cmp w 643568 = 0 := k 10 (by omega)
  obtain ⟨ω, g1, g2⟩ := d_needs h 0
  obtain ⟨τ, e1, e2⟩ := d_103 g1 g2 x1
  refine ⟨τ, ?_, e2⟩
  unfold fj_X12_rule_49
  rw [h1, bd_some, if_neg k7, if_neg k8, if_neg k9, if_neg k10, e1]
/-- the class, one rule on -/
def CD (N r : Nat) (σ0 σ τ : sS) (t c k v g : Nat) : Prop := t ≤ N ∧ τ.1 45 6 = nI t ∧ τ.1 46 5 = nI (r + 1) ∧ τ.1 50 (r + 1) = nI c ∧ τ.1 51 = σ.1 51 ∧ τ.1 47 r = nI k ∧ τ.1 48 r = nI v ∧ τ.1 49 r = nI g ∧ ∀ q j, ¬ (q = 45 ∧ j = 6) → ¬ (q = 46 ∧ j = 5) → ¬ (q = 50 ∧ j = r + 1) → ¬ ((q = 47 ∨ q = 48 ∨ q = 49) ∧ j = r) → q ≠ 51 → τ.1 q j = σ0.1 q j
theorem x_finish {N r : Nat} {σ0 σ : sS} {t c : Nat} (h46 : σ.1 46 5 = nI r) (hr : r < 8) (hs : CS N r σ0 σ t c) (k v g : Nat) : ∃ τ, f_X5_finish σ (nI k) (nI v) (nI g) = some τ ∧ CD N r σ0 σ τ t c k v g := by
  obtain ⟨s1, s2, s3, s4⟩ := hs
  have hin := sIn_nI hr (show 8 < 2 ^ 31 by omega)
  have hcl := nI_clamp (show r < 2 ^ 31 by omega)
  have o1 : (sI σ 47 r (nI k)).1 46 5 = nI r := by rw [sI_off _ _ _ _ (by omega)]; exact h46
  have o2 : (sI (sI σ 47 r (nI k)) 48 r (nI v)).1 46 5 = nI r := by rw [sI_off _ _ _ _ (by omega)]; exact o1
  have o3 : (sI (sI (sI σ 47 r (nI k)) 48 r (nI v)) 49 r (nI g)).1 46 5 = nI r := by rw [sI_off _ _ _ _ (by omega)]; exact o2
  have off : ∀ q, q ≠ 46 → q ≠ 47 → q ≠ 48 → q ≠ 49 → (sI (sI (sI (sI σ 47 r (nI k)) 48 r (nI v)) 49 r (nI g)) 46 5 (nI (r + 1))).1 q = σ.1 q := fun q h1 h2 h3 h4 => by
    rw [sI_off _ _ _ _ h1, sI_off _ _ _ _ h4, sI_off _ _ _ _ h3, sI_off _ _ _ _ h2]
  refine ⟨sI (sI (sI (sI σ 47 r (nI k)) 48 r (nI v)) 49 r (nI g)) 46 5 (nI (r + 1)), ?_, s1, ?_, sI_same _ _ _ _, ?_, off 51 (by omega) (by omega) (by omega) (by omega), ?_, ?_, ?_, fun q j h1 h2 h3 h4 h5 => ?_⟩
  · unfold f_X5_finish
    rw [h46, grd_of hin, hcl, pt_eq, o1, grd_of hin, hcl, pt_eq, o2, grd_of hin, hcl, pt_eq, o3, nI_1, pt_eq]
  · rw [off 45 (by omega) (by omega) (by omega) (by omega)]; exact s2
  · rw [off 50 (by omega) (by omega) (by omega) (by omega)]; exact s3
  · rw [sI_off _ _ _ _ (by omega), sI_off _ _ _ _ (by omega), sI_off _ _ _ _ (by omega), sI_same]
  · rw [sI_off _ _ _ _ (by omega), sI_off _ _ _ _ (by omega), sI_same]
  · rw [sI_off _ _ _ _ (by omega), sI_same]
  · rw [← s4 q j h1 h3 h5, sI_r]
    by_cases e : q = 46
    · subst e
      rw [if_pos rfl, if_neg (fun e2 => h2 ⟨rfl, e2⟩), sI_off _ _ _ _ (by omega), sI_off _ _ _ _ (by omega), sI_off _ _ _ _ (by omega)]
    · rw [if_neg e, sI_r]
      by_cases e : q = 49
      · subst e
        rw [if_pos rfl, if_neg (fun e2 => h4 ⟨by omega, e2⟩), sI_off _ _ _ _ (by omega), sI_off _ _ _ _ (by omega)]
      · rw [if_neg e, sI_r]
        by_cases e : q = 48
        · subst e
          rw [if_pos rfl, if_neg (fun e2 => h4 ⟨by omega, e2⟩), sI_off _ _ _ _ (by omega)]
        · rw [if_neg e, sI_r]
          by_cases e : q = 47
          · subst e
            rw [if_pos rfl, if_neg (fun e2 => h4 ⟨by omega, e2⟩)]
          · rw [if_neg e]
/-- the model, one rule on -/
def FR (r : Nat) (υ0 υ : sS) : Prop := ∀ q j, ¬ (q = 83 ∧ 19 ≤ j ∧ j ≤ 24) → ¬ (q = 84 ∧ (j = 1 ∨ (84 + 4 * r ≤ j ∧ j < 88 + 4 * r) ∨ 116 ≤ j)) → υ.1 q j = υ0.1 q j
def ME (b : Nat → Int32) (L r : Nat) (υ0 υ ψ : sS) (t m k v g : Nat) : Prop := ψ.1 83 19 = nI (plc b L t) ∧ ψ.1 83 20 = nI (rr b L (plc b L t)) ∧ ψ.1 83 24 = 0 ∧ ψ.1 83 23 = nI m ∧ ψ.1 83 22 = nI 0 ∧ ψ.1 84 1 = nI (r + 1) ∧ ψ.1 84 (84 + 4 * r) = nI k ∧ ψ.1 84 (85 + 4 * r) = nI v ∧ ψ.1 84 (86 + 4 * r) = nI g ∧ ψ.1 84 (87 + 4 * r) = nI m ∧ (∀ j, 116 ≤ j → ψ.1 84 j = υ.1 84 j) ∧ FR r υ0 ψ
theorem m_175 {b : Nat → Int32} {L r : Nat} {υ0 υ : sS} {t m : Nat} (hM : MT υ0 b L) (hL : L ≤ 200) (hr : r < 8) (h1 : υ.1 84 1 = nI r) (hs : MS b L υ0 υ t m 0) (hp : plc b L t < L) (k v g : Nat) : ∃ ψ, fj_X12_rule_175 υ (nI k) (nI v) (nI g) 1 = some ψ ∧ ME b L r υ0 υ ψ (t + 1) m k v g := by
  obtain ⟨τ, a1, ⟨b1, b2, b3, b4, b5, b6⟩, a3⟩ := ms_next hM hL hs hp
  have h1' : τ.1 84 1 = nI r := by rw [a3 84 1 (by omega)]; exact h1
  have hv : (84 : Int32) + (4 : Int32) * nI r = nI (84 + 4 * r) := by rw [show (4 : Int32) = nI 4 from rfl, pk_mul, show (84 : Int32) = nI 84 from rfl, nI_add]
  have a0 : nI (84 + 4 * r) + 0 = nI (84 + 4 * r) := by rw [show (0 : Int32) = nI 0 from rfl, nI_add, Nat.add_zero]
  have a2 : nI (84 + 4 * r) + 2 = nI (86 + 4 * r) := by rw [show (2 : Int32) = nI 2 from rfl, nI_add]; congr 1; omega
  have a4 : nI (84 + 4 * r) + 3 = nI (87 + 4 * r) := by rw [show (3 : Int32) = nI 3 from rfl, nI_add]; congr 1; omega
  have a5 : nI (84 + 4 * r) + 1 = nI (85 + 4 * r) := by rw [nI_1]; congr 1; omega
  have e1 : (1 : Int32).toNatClampNeg = 1 := rfl
  have g1 : sIn 1 316 = true := sIn_nI (show 1 < 316 by omega) (by omega)
  refine ⟨sI (sI (sI (sI (sI τ 84 (84 + 4 * r) (nI k)) 84 (85 + 4 * r) (nI v)) 84 (86 + 4 * r) (nI g)) 84 (87 + 4 * r) (nI m)) 84 1 (nI (r + 1)), ?_, ?_⟩
  · unfold fj_X12_rule_175
    rw [a1, bd_some, if_pos b3, grd_of g1, e1, h1', hv, pt_eq, a0, grd_of (sIn_nI (show 84 + 4 * r < 316 by omega) (by omega)), nI_clamp (by omega), pt_eq, a5, grd_of (sIn_nI (show 85 + 4 * r < 316 by omega) (by omega)), nI_clamp (by omega), pt_eq, a2, grd_of (sIn_nI (show 86 + 4 * r < 316 by omega) (by omega)), nI_clamp (by omega), pt_eq, a4, grd_of (sIn_nI (show 87 + 4 * r < 316 by omega) (by omega)), nI_clamp (by omega)]
    have h23 : (sI (sI (sI τ 84 (84 + 4 * r) (nI k)) 84 (85 + 4 * r) (nI v)) 84 (86 + 4 * r) (nI g)).1 83 23 = nI m := by
      rw [sI_off _ _ _ _ (by omega), sI_off _ _ _ _ (by omega), sI_off _ _ _ _ (by omega)]; exact b4
    have h84 : (sI (sI (sI (sI τ 84 (84 + 4 * r) (nI k)) 84 (85 + 4 * r) (nI v)) 84 (86 + 4 * r) (nI g)) 84 (87 + 4 * r) (nI m)).1 84 1 = nI r := by
      rw [sI_r, if_pos rfl, if_neg (by omega), sI_r, if_pos rfl, if_neg (by omega), sI_r, if_pos rfl, if_neg (by omega), sI_r, if_pos rfl, if_neg (by omega)]; exact h1'
    rw [h23, pt_eq, grd_of g1, grd_of g1, h84, nI_1, pt_eq]
  · have o83 : ∀ j, (sI (sI (sI (sI (sI τ 84 (84 + 4 * r) (nI k)) 84 (85 + 4 * r) (nI v)) 84 (86 + 4 * r) (nI g)) 84 (87 + 4 * r) (nI m)) 84 1 (nI (r + 1))).1 83 j = τ.1 83 j := fun j => by
      rw [sI_off _ _ _ _ (by omega), sI_off _ _ _ _ (by omega), sI_off _ _ _ _ (by omega), sI_off _ _ _ _ (by omega), sI_off _ _ _ _ (by omega)]
    have o84 : ∀ j, j ≠ 1 → ¬ (84 + 4 * r ≤ j ∧ j < 88 + 4 * r) → (sI (sI (sI (sI (sI τ 84 (84 + 4 * r) (nI k)) 84 (85 + 4 * r) (nI v)) 84 (86 + 4 * r) (nI g)) 84 (87 + 4 * r) (nI m)) 84 1 (nI (r + 1))).1 84 j = τ.1 84 j := fun j h1 h2 => by
      rw [sI_r, if_pos rfl, if_neg h1, sI_r, if_pos rfl, if_neg (by omega), sI_r, if_pos rfl, if_neg (by omega), sI_r, if_pos rfl, if_neg (by omega), sI_r, if_pos rfl, if_neg (by omega)]
    refine ⟨by rw [o83]; exact b1, by rw [o83]; exact b2, by rw [o83]; exact b3, by rw [o83]; exact b4, by rw [o83]; exact b5, sI_same _ _ _ _, ?_, ?_, ?_, ?_, fun j hj => ?_, fun q j h1 h2 => ?_⟩
    · rw [sI_r, if_pos rfl, if_neg (by omega), sI_r, if_pos rfl, if_neg (by omega), sI_r, if_pos rfl, if_neg (by omega), sI_r, if_pos rfl, if_neg (by omega), sI_same]
    · rw [sI_r, if_pos rfl, if_neg (by omega), sI_r, if_pos rfl, if_neg (by omega), sI_r, if_pos rfl, if_neg (by omega), sI_same]
    · rw [sI_r, if_pos rfl, if_neg (by omega), sI_r, if_pos rfl, if_neg (by omega), sI_same]
    · rw [sI_r, if_pos rfl, if_neg (by omega), sI_same]
    · rw [o84 j (by omega) (by omega), a3 84 j (by omega)]
    · by_cases e : q = 84
      · subst e
        rw [o84 j (by omega) (by omega)]
        exact b6 84 j h1 (by omega)
      · rw [sI_off _ _ _ _ e, sI_off _ _ _ _ e, sI_off _ _ _ _ e, sI_off _ _ _ _ e, sI_off _ _ _ _ e]
        exact b6 q j h1 (by omega)
def DS (b : Nat → Int32) (L N r : Nat) (σ0 υ0 σ υ : sS) (t c m k : Nat) (X : Option (Int32 × sS)) (Y : Option sS) : Prop := (∃ τ ψ t' v g, X = some (1, τ) ∧ Y = some ψ ∧ t < t' ∧ v ≤ 3 ∧ g ≤ 99 ∧ CD N r σ0 σ τ t' c k v g ∧ ME b L r υ0 υ ψ t' m k v g) ∨ (∃ τ ψ t' c', X = some (0, τ) ∧ Y = some ψ ∧ CS N r σ0 τ t' c' ∧ MD b L υ0 ψ t')
