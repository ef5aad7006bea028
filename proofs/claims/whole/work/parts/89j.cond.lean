/-! THE RULES: a whole condition, in both -/
theorem one_at {b : Nat → Int32} {L N r : Nat} {σ0 υ0 : sS} {o : Nat} {rC : sS × Int32 → Option (Int32 × sS)} {rM : sS → Option sS} (hB : CB b L N r σ0) (hM : MT υ0 b L) (hR : RC b L N r σ0 υ0 o rC rM) (ho : o ≤ 3) {t c m : Nat} {σ υ : sS} (hs : CS N r σ0 σ t c) (hm : MS b L υ0 υ t m o) (h1 : 2 * c ≤ plc b L t) (h2 : m ≤ plc b L t) : RS b L N r σ0 υ0 (22 + 2 * o) o 0 t c m σ υ (f_X6_readOne σ rC (nI o)) (f_X12_one υ rM) := by
  have hN : N ≤ 200 := (cb_tk hB hs).2.2.2
  exact one_sim hB hM hR ho 200 (e := 0) (by omega) (nF_big (by omega)) (nF_big (by omega)) (by omega) hs hm (by omega) (by omega)
theorem two_tail {b : Nat → Int32} {L N r : Nat} {σ0 υ0 σb υb σ υ σ1 υ1 σ2 υ2 : sS} {K o t0 c0 m0 t c m t1 t2 c2 m2 : Nat} {A B : (Nat → Int32) → Bool} {opC opM : Int32} {cb : Bool → Bool → Bool} (hC : ∀ {co : Nat → Int32} {c d e : Nat}, sgC co K c d A → sgC co (K + 1) d e B → co e = opC → sgC co K c (e + 1) (fun f => cb (A f) (B f))) (hMo : ∀ {co : Nat → Int32} {c d e : Nat}, sgM co c d A → sgM co d e B → co e = opM → sgM co c (e + 1) (fun f => cb (A f) (B f))) (hB : CB b L N r σ0) (h1 : 2 * c0 ≤ plc b L t0) (h2 : m0 ≤ plc b L t0) (hA : AC b L N r σ0 υ0 K o 0 t0 c0 m0 σb υb σ υ t c m A) (hA2 : AC b L N r σ0 υ0 (K + 1) o 0 t1 c m σ1 υ1 σ2 υ2 t2 c2 m2 B) (h51 : σ1.1 51 = σ.1 51) (h84 : υ1.1 84 = υ.1 84) (ht : t < t1) (hp : plc b L t + 2 ≤ plc b L t1) : ∃ σ3 υ3, f_X5_emit σ2 opC = some σ3 ∧ f_X12_writes υ2 opM = some υ3 ∧ AC b L N r σ0 υ0 K o 0 t0 c0 m0 σb υb σ3 υ3 t2 (c2 + 1) (m2 + 1) (fun f => cb (A f) (B f)) := by
  obtain ⟨a1, a2, a3, a4, a5, a6, a7, a8, a9⟩ := hA
  obtain ⟨z1, z2, z3, z4, z5, z6, z7, z8, z9⟩ := hA2
  obtain ⟨h46, hr⟩ := hB.2.2.2.2.2.2.1
  have hL := hB.2.2.1
  have hple := plc_le b L t2
  have hc1 := a5.1
  have hc2 := z5.1
  have hm1 := a6.1
  have hm2 := z6.1
  obtain ⟨k1, k2, k3, k4⟩ := cb_tk hB z1
  obtain ⟨τ, g1, g2, g3, g4⟩ := x_emit k3 hr z1 (show c2 < 100 by omega) opC
  obtain ⟨ψ, w1, w2, w3, w4⟩ := m_writes z2 (show m2 < 200 by omega) opM
  refine ⟨τ, ψ, g1, w1, g2, w2, fun k hk => ?_, fun k hk => ?_, ?_, ?_, by omega, by omega, by omega⟩
  · rw [g4 k (by omega), z3 k (by omega), h51]; exact a3 k hk
  · rw [w4 k (by omega), z4 k (by omega), h84]; exact a4 k hk
  · exact hC (d := c) (sgC_cg (fun k p1 p2 => by rw [g4 k (by omega), z3 k (by omega), h51]) a5) (sgC_cg (fun k p1 p2 => g4 k (by omega)) z5) g3
  · exact hMo (d := m) (sgM_cg (fun k p1 p2 => by
      show ψ.1 84 (116 + k) = υ.1 84 (116 + k)
      rw [w4 _ (by omega), z4 _ (by omega), h84]) a6) (sgM_cg (fun k p1 p2 => w4 _ (by omega)) z6) w3
theorem d_allL {b : Nat → Int32} {L : Nat} {υ0 υ : sS} {t : Nat} (hM : MT υ0 b L) (hL : L ≤ 200) (hb : ∀ k, k < L → bt (b k) 0 255) (rc : sS → Option sS) (hs : MD b L υ0 υ t) {k : Nat} (hk : 0 < k) : lp (fb_X12_all_4 rc) k υ = some υ := by
  obtain ⟨k', rfl⟩ : ∃ k', k = k' + 1 := ⟨k - 1, by omega⟩
  obtain ⟨w, h1, q⟩ := d_wd hM hL hb hs
  have q12 : ¬ lg_cmp w 1476 = 0 := q 12 (by omega)
  rw [lp_s]
  simp only [fb_X12_all_4, h1, bd_some, if_neg q12]
theorem d_condL {b : Nat → Int32} {L : Nat} {υ0 υ : sS} {t : Nat} (hM : MT υ0 b L) (hL : L ≤ 200) (hb : ∀ k, k < L → bt (b k) 0 255) (rc : sS → Option sS) (hs : MD b L υ0 υ t) {k : Nat} (hk : 0 < k) : lp (fb_X12_condition_12 rc) k υ = some υ := by
  obtain ⟨k', rfl⟩ : ∃ k', k = k' + 1 := ⟨k - 1, by omega⟩
  obtain ⟨w, h1, q⟩ := d_wd hM hL hb hs
  have q11 : ¬ lg_cmp w 498 = 0 := q 11 (by omega)
  rw [lp_s]
  simp only [fb_X12_condition_12, h1, bd_some, if_neg q11]
theorem all_loop {b : Nat → Int32} {L N r : Nat} {σ0 υ0 σb υb : sS} {o t0 c0 m0 : Nat} {rC : sS × Int32 → Option (Int32 × sS)} {rM : sS → Option sS} (hB : CB b L N r σ0) (hM : MT υ0 b L) (hR : RC b L N r σ0 υ0 o rC rM) (ho : o ≤ 3) (h1 : 2 * c0 ≤ plc b L t0) (h2 : m0 ≤ plc b L t0) : ∀ (d : Nat) {t c m kC kM : Nat} {σ υ : sS} {A : (Nat → Int32) → Bool}, N - t ≤ d → d < kC → d + 1 < kM → AC b L N r σ0 υ0 (21 + 2 * o) o 0 t0 c0 m0 σb υb σ υ t c m A → RS b L N r σ0 υ0 (21 + 2 * o) o 0 t0 c0 m0 σb υb (lp (fb_X6_readAll_10 rC) kC (σ, nI o)) (lp (fb_X12_all_4 rM) kM υ) := by
  intro d
  induction d with
  | zero =>
    intro t c m kC kM σ υ A hd hkC hkM hA
    obtain ⟨kC', rfl⟩ : ∃ k, kC = k + 1 := ⟨kC - 1, by omega⟩
    obtain ⟨kM', rfl⟩ : ∃ k, kM = k + 1 := ⟨kM - 1, by omega⟩
    have hs := hA.1
    have hm := hA.2.1
    have hs1 := hs.1
    obtain ⟨k1, k2, k3, k4⟩ := cb_tk hB hs
    obtain ⟨w, hw, hk⟩ := m_wd hM hB.2.2.1 hB.2.2.2.2.2.2.2 hm
    have hnp : ¬ plc b L t < L := fun g => by have := (cb_lt hB hs1).mp g; omega
    have n12 : ¬ lg_cmp w 1476 = 0 := fun g => by
      have := (hk 12 (by omega)).mp g
      rw [tkn_end hnp] at this
      have := nI_inj (a := 51) (b := 12) (by omega) (by omega) this
      omega
    have hlt : ¬ nI t < nI N := mt (nn_lt (by omega) (by omega)).mp (by omega)
    refine Or.inl ⟨σ, υ, t, c, m, A, ?_, ?_, hA⟩
    · rw [lp_s]
      simp only [fb_X6_readAll_10, hs.2.1, k2, if_neg hlt]
    · rw [lp_s]
      simp only [fb_X12_all_4, hw, bd_some, if_neg n12]
  | succ d ih =>
    intro t c m kC kM σ υ A hd hkC hkM hA
    obtain ⟨kC', rfl⟩ : ∃ k, kC = k + 1 := ⟨kC - 1, by omega⟩
    obtain ⟨kM', rfl⟩ : ∃ k, kM = k + 1 := ⟨kM - 1, by omega⟩
    have hs := hA.1
    have hm := hA.2.1
    have hs1 := hs.1
    have hb := hB.2.2.2.2.2.2.2
    have hL := hB.2.2.1
    obtain ⟨k1, k2, k3, k4⟩ := cb_tk hB hs
    obtain ⟨w, hw, hk⟩ := m_wd hM hL hb hm
    have k12 : lg_cmp w 1476 = 0 ↔ tkn b L (plc b L t) = 12 := hk 12 (by omega)
    have hlt : nI t < nI N ↔ t < N := nn_lt (by omega) (by omega)
    rw [lp_s, lp_s]
    by_cases cn : tkn b L (plc b L t) = 12
    · obtain ⟨hpl, hp2⟩ := tk_two (i := 12) hb (by omega) (by decide) cn
      have ht : t < N := (cb_lt hB hs1).mp hpl
      obtain ⟨q1, q2, q3⟩ := CS_next hB hs ht
      obtain ⟨υ1, a1, a2, a3⟩ := ms_next hM hL hm hpl
      have h84 : υ1.1 84 = υ.1 84 := funext fun k => a3 84 k (by omega)
      have hbd := hA.2.2.2.2.2.2
      have hone := one_at hB hM hR ho q2 a2 (by omega) (by omega)
      rw [hs.2.1] at q1
      simp only [fb_X6_readAll_10, hs.2.1, k2, if_pos (hlt.mpr ht), grd_of (sIn_nI (show t < 201 by omega) (show 201 < 2 ^ 31 by omega)), nI_clamp (show t < 2 ^ 31 by omega), k1, if_pos cn, q1, pt_eq]
      simp only [fb_X12_all_4, hw, bd_some, if_pos (k12.mpr cn), a1]
      rcases hone with ⟨σ2, υ2, t2, c2, m2, B, hX, hY, hA2⟩ | ⟨σ2, υ2, t2, c2, hX, hY, z1, z2⟩
      · obtain ⟨σ3, υ3, e1, e2, e3⟩ := two_tail (opC := 1) (opM := -21) (cb := fun x y => x && y) (fun g1 g2 g3 => sgC_and (by omega) g1 g2 g3) (fun g1 g2 g3 => sgM_and g1 g2 g3) hB h1 h2 hA (by rw [show 21 + 2 * o + 1 = 22 + 2 * o by omega]; exact hA2) q3 h84 (by omega) hp2
        rw [hX, bd_some, if_neg one_n0, e1, bd_some, hY, bd_some, e2, bd_some]
        have ht2 := hA2.2.2.2.2.2.2.1
        exact ih (by omega) (by omega) (by omega) e3
      · rw [hX, bd_some, if_pos rfl, hY, bd_some, d_writes z2, bd_some, d_allL hM hL hb rM z2 (by omega)]
        exact Or.inr ⟨σ2, υ2, t2, c2, rfl, rfl, z1, z2⟩
    · refine Or.inl ⟨σ, υ, t, c, m, A, ?_, ?_, hA⟩
      · by_cases ht : t < N
        · simp only [fb_X6_readAll_10, hs.2.1, k2, if_pos (hlt.mpr ht), grd_of (sIn_nI (show t < 201 by omega) (show 201 < 2 ^ 31 by omega)), nI_clamp (show t < 2 ^ 31 by omega), k1, if_neg cn]
        · simp only [fb_X6_readAll_10, hs.2.1, k2, if_neg (mt hlt.mp ht)]
      · simp only [fb_X12_all_4, hw, bd_some, if_neg (mt k12.mp cn)]
theorem AC_le {b : Nat → Int32} {L N r : Nat} {σ0 υ0 σb υb σ υ : sS} {K K' o e t0 c0 m0 t c m : Nat} {A : (Nat → Int32) → Bool} (h : K' ≤ K) (hA : AC b L N r σ0 υ0 K o e t0 c0 m0 σb υb σ υ t c m A) : AC b L N r σ0 υ0 K' o e t0 c0 m0 σb υb σ υ t c m A := by
  obtain ⟨a1, a2, a3, a4, a5, a6, a7⟩ := hA
  exact ⟨a1, a2, a3, a4, sgC_le h a5, a6, a7⟩
theorem all_at {b : Nat → Int32} {L N r : Nat} {σ0 υ0 : sS} {o : Nat} {rC : sS × Int32 → Option (Int32 × sS)} {rM : sS → Option sS} (hB : CB b L N r σ0) (hM : MT υ0 b L) (hR : RC b L N r σ0 υ0 o rC rM) (ho : o ≤ 3) {t c m : Nat} {σ υ : sS} (hs : CS N r σ0 σ t c) (hm : MS b L υ0 υ t m o) (h1 : 2 * c ≤ plc b L t) (h2 : m ≤ plc b L t) : RS b L N r σ0 υ0 (21 + 2 * o) o 0 t c m σ υ (f_X6_readAll σ rC (nI o)) (f_X12_all υ rM) := by
  have hN : N ≤ 200 := (cb_tk hB hs).2.2.2
  have hb := hB.2.2.2.2.2.2.2
  have hL := hB.2.2.1
  unfold f_X6_readAll f_X12_all
  rcases one_at hB hM hR ho hs hm h1 h2 with ⟨σ2, υ2, t2, c2, m2, B, hX, hY, hA2⟩ | ⟨σ2, υ2, t2, c2, hX, hY, z1, z2⟩
  · rw [hX, bd_some, if_neg one_n0, hY, bd_some]
    exact all_loop hB hM hR ho h1 h2 200 (by omega) (nF_big (by omega)) (nF_big (by omega)) (AC_le (by omega) hA2)
  · rw [hX, bd_some, if_pos rfl, hY, bd_some]
    exact Or.inr ⟨σ2, υ2, t2, c2, rfl, d_allL hM hL hb rM z2 (nF_big (by omega)), z1, z2⟩
theorem cond_loop {b : Nat → Int32} {L N r : Nat} {σ0 υ0 σb υb : sS} {o t0 c0 m0 : Nat} {rC : sS × Int32 → Option (Int32 × sS)} {rM : sS → Option sS} (hB : CB b L N r σ0) (hM : MT υ0 b L) (hR : RC b L N r σ0 υ0 o rC rM) (ho : o ≤ 3) (h1 : 2 * c0 ≤ plc b L t0) (h2 : m0 ≤ plc b L t0) : ∀ (d : Nat) {t c m kC kM : Nat} {σ υ : sS} {A : (Nat → Int32) → Bool}, N - t ≤ d → d < kC → d + 1 < kM → AC b L N r σ0 υ0 (20 + 2 * o) o 0 t0 c0 m0 σb υb σ υ t c m A → RS b L N r σ0 υ0 (20 + 2 * o) o 0 t0 c0 m0 σb υb (lp (fb_X6_readCondition_10 rC) kC (σ, nI o)) (lp (fb_X12_condition_12 rM) kM υ) := by
  intro d
  induction d with
  | zero =>
    intro t c m kC kM σ υ A hd hkC hkM hA
    obtain ⟨kC', rfl⟩ : ∃ k, kC = k + 1 := ⟨kC - 1, by omega⟩
    obtain ⟨kM', rfl⟩ : ∃ k, kM = k + 1 := ⟨kM - 1, by omega⟩
    have hs := hA.1
    have hm := hA.2.1
    have hs1 := hs.1
    obtain ⟨k1, k2, k3, k4⟩ := cb_tk hB hs
    obtain ⟨w, hw, hk⟩ := m_wd hM hB.2.2.1 hB.2.2.2.2.2.2.2 hm
    have hnp : ¬ plc b L t < L := fun g => by have := (cb_lt hB hs1).mp g; omega
    have n11 : ¬ lg_cmp w 498 = 0 := fun g => by
      have := (hk 11 (by omega)).mp g
      rw [tkn_end hnp] at this
      have := nI_inj (a := 51) (b := 11) (by omega) (by omega) this
      omega
    have hlt : ¬ nI t < nI N := mt (nn_lt (by omega) (by omega)).mp (by omega)
    refine Or.inl ⟨σ, υ, t, c, m, A, ?_, ?_, hA⟩
    · rw [lp_s]
      simp only [fb_X6_readCondition_10, hs.2.1, k2, if_neg hlt]
    · rw [lp_s]
      simp only [fb_X12_condition_12, hw, bd_some, if_neg n11]
  | succ d ih =>
    intro t c m kC kM σ υ A hd hkC hkM hA
    obtain ⟨kC', rfl⟩ : ∃ k, kC = k + 1 := ⟨kC - 1, by omega⟩
    obtain ⟨kM', rfl⟩ : ∃ k, kM = k + 1 := ⟨kM - 1, by omega⟩
    have hs := hA.1
    have hm := hA.2.1
    have hs1 := hs.1
    have hb := hB.2.2.2.2.2.2.2
    have hL := hB.2.2.1
    obtain ⟨k1, k2, k3, k4⟩ := cb_tk hB hs
    obtain ⟨w, hw, hk⟩ := m_wd hM hL hb hm
    have k11 : lg_cmp w 498 = 0 ↔ tkn b L (plc b L t) = 11 := hk 11 (by omega)
    have hlt : nI t < nI N ↔ t < N := nn_lt (by omega) (by omega)
    rw [lp_s, lp_s]
    by_cases cn : tkn b L (plc b L t) = 11
    · obtain ⟨hpl, hp2⟩ := tk_two (i := 11) hb (by omega) (by decide) cn
      have ht : t < N := (cb_lt hB hs1).mp hpl
      obtain ⟨q1, q2, q3⟩ := CS_next hB hs ht
      obtain ⟨υ1, a1, a2, a3⟩ := ms_next hM hL hm hpl
      have h84 : υ1.1 84 = υ.1 84 := funext fun k => a3 84 k (by omega)
      have hbd := hA.2.2.2.2.2.2
      have hone := all_at hB hM hR ho q2 a2 (by omega) (by omega)
      rw [hs.2.1] at q1
      simp only [fb_X6_readCondition_10, hs.2.1, k2, if_pos (hlt.mpr ht), grd_of (sIn_nI (show t < 201 by omega) (show 201 < 2 ^ 31 by omega)), nI_clamp (show t < 2 ^ 31 by omega), k1, if_pos cn, q1, pt_eq]
      simp only [fb_X12_condition_12, hw, bd_some, if_pos (k11.mpr cn), a1]
      rcases hone with ⟨σ2, υ2, t2, c2, m2, B, hX, hY, hA2⟩ | ⟨σ2, υ2, t2, c2, hX, hY, z1, z2⟩
      · obtain ⟨σ3, υ3, e1, e2, e3⟩ := two_tail (opC := 2) (opM := -22) (cb := fun x y => x || y) (fun g1 g2 g3 => sgC_or (by omega) g1 g2 g3) (fun g1 g2 g3 => sgM_or g1 g2 g3) hB h1 h2 hA (by rw [show 20 + 2 * o + 1 = 21 + 2 * o by omega]; exact hA2) q3 h84 (by omega) hp2
        rw [hX, bd_some, if_neg one_n0, e1, bd_some, hY, bd_some, e2, bd_some]
        have ht2 := hA2.2.2.2.2.2.2.1
        exact ih (by omega) (by omega) (by omega) e3
      · rw [hX, bd_some, if_pos rfl, hY, bd_some, d_writes z2, bd_some, d_condL hM hL hb rM z2 (by omega)]
        exact Or.inr ⟨σ2, υ2, t2, c2, rfl, rfl, z1, z2⟩
    · refine Or.inl ⟨σ, υ, t, c, m, A, ?_, ?_, hA⟩
      · by_cases ht : t < N
        · simp only [fb_X6_readCondition_10, hs.2.1, k2, if_pos (hlt.mpr ht), grd_of (sIn_nI (show t < 201 by omega) (show 201 < 2 ^ 31 by omega)), nI_clamp (show t < 2 ^ 31 by omega), k1, if_neg cn]
        · simp only [fb_X6_readCondition_10, hs.2.1, k2, if_neg (mt hlt.mp ht)]
      · simp only [fb_X12_condition_12, hw, bd_some, if_neg (mt k11.mp cn)]
theorem cond_at {b : Nat → Int32} {L N r : Nat} {σ0 υ0 : sS} {o : Nat} {rC : sS × Int32 → Option (Int32 × sS)} {rM : sS → Option sS} (hB : CB b L N r σ0) (hM : MT υ0 b L) (hR : RC b L N r σ0 υ0 o rC rM) (ho : o ≤ 3) {t c m : Nat} {σ υ : sS} (hs : CS N r σ0 σ t c) (hm : MS b L υ0 υ t m o) (h1 : 2 * c ≤ plc b L t) (h2 : m ≤ plc b L t) : RS b L N r σ0 υ0 (20 + 2 * o) o 0 t c m σ υ (f_X6_readCondition σ rC (nI o)) (f_X12_condition υ rM) := by
  have hN : N ≤ 200 := (cb_tk hB hs).2.2.2
  have hb := hB.2.2.2.2.2.2.2
  have hL := hB.2.2.1
  unfold f_X6_readCondition f_X12_condition
  rw [if_pos hm.2.2.1]
  rcases all_at hB hM hR ho hs hm h1 h2 with ⟨σ2, υ2, t2, c2, m2, B, hX, hY, hA2⟩ | ⟨σ2, υ2, t2, c2, hX, hY, z1, z2⟩
  · rw [hX, bd_some, if_neg one_n0, hY, bd_some]
    exact cond_loop hB hM hR ho h1 h2 200 (by omega) (nF_big (by omega)) (nF_big (by omega)) (AC_le (by omega) hA2)
  · rw [hX, bd_some, if_pos rfl, hY, bd_some]
    exact Or.inr ⟨σ2, υ2, t2, c2, rfl, d_condL hM hL hb rM z2 (nF_big (by omega)), z1, z2⟩
theorem cond_sim {b : Nat → Int32} {L N r : Nat} {σ0 υ0 : sS} (hB : CB b L N r σ0) (hM : MT υ0 b L) : ∀ (j o kC kM : Nat), o + j = 3 → j < kC → j + 1 < kM → ∀ {σ υ : sS} {t c m : Nat}, CS N r σ0 σ t c → MS b L υ0 υ t m o → 2 * c ≤ plc b L t → m ≤ plc b L t → RS b L N r σ0 υ0 (20 + 2 * o) o 0 t c m σ υ (lp (fun rc (a : sS × Int32) => match a with | (σ, x1) => f_X6_readCondition σ rc x1) kC (σ, nI o)) (lp (fun rc (a : sS) => match a with | σ => f_X12_condition σ rc) kM υ)
  | j, o, 0, kM, _, h2, _ => absurd h2 (by omega)
  | j, o, kC + 1, 0, _, _, h3 => absurd h3 (by omega)
  | j, o, kC + 1, kM + 1, h1, h2, h3 => fun hs hm hc hmm => by
    rw [lp_s, lp_s]
    refine cond_at hB hM ⟨fun ho σ υ t c m q1 q2 q3 q4 => ?_, fun υ t q => ?_⟩ (by omega) hs hm hc hmm
    · have := cond_sim hB hM (j - 1) (o + 1) kC kM (by omega) (by omega) (by omega) q1 q2 q3 q4
      rw [show 20 + 2 * (o + 1) = 22 + 2 * o by omega] at this
      exact this
    · obtain ⟨k, rfl⟩ : ∃ k, kM = k + 1 := ⟨kM - 1, by omega⟩
      rw [lp_s]
      show f_X12_condition υ _ = _
      unfold f_X12_condition
      rw [if_neg (MD_ne q)]
theorem cond_top {b : Nat → Int32} {L N r : Nat} {σ0 υ0 : sS} (hB : CB b L N r σ0) (hM : MT υ0 b L) {σ υ : sS} {t c m : Nat} (hs : CS N r σ0 σ t c) (hm : MS b L υ0 υ t m 0) (hc : 2 * c ≤ plc b L t) (hmm : m ≤ plc b L t) : RS b L N r σ0 υ0 20 0 0 t c m σ υ (fr_X6_readCondition (σ, 0)) (fr_X12_condition υ) := cond_sim hB hM 3 0 6 6 (by omega) (by omega) (by omega) hs hm hc hmm
theorem d_cond {b : Nat → Int32} {L : Nat} {υ0 υ : sS} {t : Nat} (hs : MD b L υ0 υ t) : fr_X12_condition υ = some υ := by
  unfold fr_X12_condition
  rw [show (6 : Nat) = 5 + 1 from rfl, lp_s]
  show f_X12_condition υ _ = _
  unfold f_X12_condition
  rw [if_neg (MD_ne hs)]
