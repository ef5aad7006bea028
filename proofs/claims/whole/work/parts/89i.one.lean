/-! THE RULES: one term, in both -/
theorem one_n0 : ¬ (1 : Int32) = 0 := by decide
theorem RS_base {b : Nat → Int32} {L N r : Nat} {σ0 υ0 : sS} {K o e e1 t t1 c m : Nat} {σb υb σc υc : sS} {X : Option (Int32 × sS)} {Y : Option sS} (h : RS b L N r σ0 υ0 K o e1 t1 c m σc υc X Y) (h51 : ∀ k, k < c → σc.1 51 k = σb.1 51 k) (h84 : ∀ k, k < 116 + m → υc.1 84 k = υb.1 84 k) (ht : t ≤ t1) (hb : 2 * e1 + plc b L t ≤ 2 * e + plc b L t1 ∧ e1 + plc b L t ≤ e + plc b L t1) : RS b L N r σ0 υ0 K o e t c m σb υb X Y := by
  rcases h with ⟨σ, υ, t', c', m', B, hX, hY, a1, a2, a3, a4, a5, a6, a7, a8, a9⟩ | h
  · exact Or.inl ⟨σ, υ, t', c', m', B, hX, hY, a1, a2, fun k hk => (a3 k hk).trans (h51 k hk), fun k hk => (a4 k hk).trans (h84 k hk), a5, a6, by omega, by omega, by omega⟩
  · exact Or.inr h
theorem MD_ch {b : Nat → Int32} {L : Nat} {υ0 υ ψ : sS} {t : Nat} (h : ∀ q j, ¬ (q = 83 ∧ j = 22) → ψ.1 q j = υ.1 q j) (hs : MD b L υ0 υ t) : MD b L υ0 ψ t := by
  obtain ⟨h1, h2, h3, h6⟩ := hs
  exact ⟨by rw [h 83 19 (by omega)]; exact h1, by rw [h 83 20 (by omega)]; exact h2, by rw [h 83 24 (by omega)]; exact h3, FM_tr h6 fun q j a1 a2 => h q j (by omega)⟩
theorem MS_op {b : Nat → Int32} {L : Nat} {υ0 υ : sS} {t m o : Nat} (hs : MS b L υ0 υ t m o) (p : Nat) : MS b L υ0 (sI υ 83 22 (nI p)) t m p ∧ (sI υ 83 22 (nI p)).1 84 = υ.1 84 := by
  obtain ⟨h1, h2, h3, h4, h5, h6⟩ := hs
  have g : ∀ j, j ≠ 22 → (sI υ 83 22 (nI p)).1 83 j = υ.1 83 j := fun j hj => by rw [sI_r, if_pos rfl, if_neg hj]
  exact ⟨⟨by rw [g 19 (by omega)]; exact h1, by rw [g 20 (by omega)]; exact h2, by rw [g 24 (by omega)]; exact h3, by rw [g 23 (by omega)]; exact h4, sI_same _ _ _ _, FM_sI h6 (Or.inl (by omega))⟩, sI_off _ _ _ _ (by omega)⟩
theorem MD_op {b : Nat → Int32} {L : Nat} {υ0 υ : sS} {t : Nat} (hs : MD b L υ0 υ t) (x : Int32) : MD b L υ0 (sI υ 83 22 x) t := MD_ch (fun q j h => by
  rw [sI_r]
  by_cases e : q = 83
  · rw [if_pos e, if_neg (fun e2 => h ⟨e, e2⟩), e]
  · rw [if_neg e]) hs
theorem d_128 {b : Nat → Int32} {L : Nat} {υ0 υ : sS} {t : Nat} (rc : sS → Option sS) (hs : MD b L υ0 υ t) (x : Int32) : fj_X12_one_128 rc υ x = some υ := by
  unfold fj_X12_one_128
  rw [d_writes hs, bd_some]
  simp only [ite_self]
theorem d_117 {b : Nat → Int32} {L : Nat} {υ0 υ τ : sS} {t : Nat} (rc : sS → Option sS) (h1 : f_X12_needs υ 0 = some τ) (h2 : MD b L υ0 τ t) (x : Int32) : fj_X12_one_117 rc υ x = some τ := by
  unfold fj_X12_one_117 fj_X12_one_118
  rw [h1, bd_some, d_128 rc h2]
theorem d_31 {b : Nat → Int32} {L : Nat} {υ0 υ : sS} {t : Nat} (hM : MT υ0 b L) (hL : L ≤ 200) (hb : ∀ k, k < L → bt (b k) 0 255) (rc : sS → Option sS) (hs : MD b L υ0 υ t) (x : Int32) : ∃ τ, fj_X12_one_31 rc υ x = some τ ∧ MD b L υ0 τ t := by
  obtain ⟨τ, h1, h2⟩ := d_cmp hM hL hb hs
  refine ⟨τ, ?_, h2⟩
  unfold fj_X12_one_31 fj_X12_one_124
  rw [if_neg (MD_ne hs), h1, bd_some, d_128 rc h2]
theorem d_one {b : Nat → Int32} {L : Nat} {υ0 υ : sS} {t : Nat} (hM : MT υ0 b L) (hL : L ≤ 200) (hb : ∀ k, k < L → bt (b k) 0 255) (rc : sS → Option sS) (hs : MD b L υ0 υ t) : ∃ τ, f_X12_one υ rc = some τ ∧ MD b L υ0 τ t := by
  obtain ⟨w, h1, k⟩ := d_wd hM hL hb hs
  have k13 : ¬ lg_cmp w 14836 = 0 := k 13 (by omega)
  obtain ⟨τ, h2, h3⟩ := d_31 hM hL hb rc hs 0
  refine ⟨τ, ?_, h3⟩
  unfold f_X12_one fl_X12_one_2
  rw [nF_eq, show (4000 : Nat) = 3999 + 1 from rfl, lp_s]
  simp only [fb_X12_one_2, h1, bd_some, if_neg k13, h2]
theorem one_tail {b : Nat → Int32} {L N r : Nat} {σ0 υ0 σb υb σ υ : sS} {K o e t0 c0 m0 t c m : Nat} {B : (Nat → Int32) → Bool} (hB : CB b L N r σ0) (he : e ≤ 1) (h1 : 2 * c0 + 2 * e ≤ plc b L t0) (h2 : m0 + e ≤ plc b L t0) (hA : AC b L N r σ0 υ0 K o 0 t0 c0 m0 σb υb σ υ t c m B) (rC : sS × Int32 → Option (Int32 × sS)) (rM : sS → Option sS) : RS b L N r σ0 υ0 K o e t0 c0 m0 σb υb (fj_X6_readOne_85 rC σ (nI e)) (fj_X12_one_128 rM υ (nI e)) := by
  obtain ⟨a1, a2, a3, a4, a5, a6, a7, a8, a9⟩ := hA
  obtain ⟨h46, hr⟩ := hB.2.2.2.2.2.2.1
  have hL := hB.2.2.1
  have hp := plc_le b L t
  unfold fj_X6_readOne_85 fj_X12_one_128
  have : e = 0 ∨ e = 1 := by omega
  rcases this with g | g
  · subst g
    rw [if_pos (show nI 0 = 0 from rfl), if_pos (show nI 0 = 0 from rfl)]
    exact Or.inl ⟨σ, υ, t, c, m, B, rfl, rfl, a1, a2, a3, a4, a5, a6, a7, a8, a9⟩
  · subst g
    rw [if_neg (by decide), if_neg (by decide)]
    obtain ⟨k1, k2, k3, k4⟩ := cb_tk hB a1
    obtain ⟨τ, g1, g2, g3, g4⟩ := x_emit k3 hr a1 (show c < 100 by omega) 0
    obtain ⟨ψ, w1, w2, w3, w4⟩ := m_writes a2 (show m < 200 by omega) (-20)
    refine Or.inl ⟨τ, ψ, t, c + 1, m + 1, fun f => !B f, by rw [g1, bd_some], by rw [w1, bd_some], g2, w2, fun k hk => ?_, fun k hk => ?_, ?_, ?_, a7, by omega, by omega⟩
    · rw [g4 k (by have := a5.1; omega)]; exact a3 k hk
    · rw [w4 k (by have := a6.1; omega)]; exact a4 k hk
    · exact sgC_not (sgC_cg (fun k h1 h2 => g4 k (by omega)) a5) g3
    · exact sgM_not (sgM_cg (fun k h1 h2 => w4 _ (by omega)) a6) w3
def RC (b : Nat → Int32) (L N r : Nat) (σ0 υ0 : sS) (o : Nat) (rC : sS × Int32 → Option (Int32 × sS)) (rM : sS → Option sS) : Prop := (o < 3 → ∀ σ υ t c m, CS N r σ0 σ t c → MS b L υ0 υ t m (o + 1) → 2 * c ≤ plc b L t → m ≤ plc b L t → RS b L N r σ0 υ0 (22 + 2 * o) (o + 1) 0 t c m σ υ (rC (σ, nI (o + 1))) (rM υ)) ∧ ∀ υ t, MD b L υ0 υ t → rM υ = some υ
theorem one_body {b : Nat → Int32} {L N r : Nat} {σ0 υ0 σ υ : sS} {o e t c m : Nat} {rC : sS × Int32 → Option (Int32 × sS)} {rM : sS → Option sS} (hB : CB b L N r σ0) (hM : MT υ0 b L) (hR : RC b L N r σ0 υ0 o rC rM) (ho : o ≤ 3) (he : e ≤ 1) (hs : CS N r σ0 σ t c) (hm : MS b L υ0 υ t m o) (h1 : 2 * c + 2 * e ≤ plc b L t) (h2 : m + e ≤ plc b L t) : RS b L N r σ0 υ0 (22 + 2 * o) o e t c m σ υ (fj_X6_readOne_50 rC σ (nI o) (nI e)) (fj_X12_one_31 rM υ (nI e)) := by
  have hb := hB.2.2.2.2.2.2.2
  have hL := hB.2.2.1
  obtain ⟨k1, k2, k3, k4⟩ := cb_tk hB hs
  have hs1 := hs.1
  have h40 : byV b L (plc b L t) = 40 ↔ tkn b L (plc b L t) = 140 := by_tk (c := 40) hb (by decide) (by decide) (by omega)
  unfold fj_X6_readOne_50 fj_X12_one_31
  rw [hs.2.1, grd_of (sIn_nI (show t < 201 by omega) (by omega)), nI_clamp (by omega), k1, if_pos hm.2.2.1, m_by hM hL hm, bd_some]
  by_cases cp : tkn b L (plc b L t) = 140
  · rw [if_pos cp, if_pos (h40.mpr cp)]
    have hpl : plc b L t < L := ((tkn_byte (c := 40) hb (by decide) (by decide) (by omega)).mp cp).1
    have ht : t < N := (cb_lt hB hs1).mp hpl
    have hup := plc_up hpl
    have ho3 : nI o < (3 : Int32) ↔ o < 3 := nn_lt (a := o) (b := 3) (by omega) (by omega)
    have hm22 : υ.1 83 22 = nI o := hm.2.2.2.2.1
    unfold f_X6_readGroup
    rw [hm22]
    by_cases co : o < 3
    · rw [if_pos (ho3.mpr co), if_pos (ho3.mpr co)]
      have p1 : f_X6_passes σ 140 = some (1, sI σ 45 6 (nI (t + 1))) := by
        rcases x_passes hB hs (x := 140) (by omega) (by omega) with ⟨_, _, g⟩ | ⟨g, _⟩
        · exact g
        · exact absurd cp g
      obtain ⟨_, q2, q3⟩ := CS_next hB hs ht
      obtain ⟨υ1, a1, a2, a3⟩ := ms_next hM hL hm hpl
      have h84 : υ1.1 84 = υ.1 84 := funext fun k => a3 84 k (by omega)
      have h22 : υ1.1 83 22 = nI o := a2.2.2.2.2.1
      obtain ⟨b1', b2'⟩ := MS_op a2 (o + 1)
      rw [p1, bd_some, if_neg one_n0]
      unfold fj_X12_one_65
      rw [a1, bd_some, pt_eq, h22, nI_1]
      have hr := hR.1 co _ _ _ _ _ q2 b1' (by omega) (by omega)
      rcases hr with ⟨σ2, υ2, t2, c2, m2, B, hX, hY, z1, z2, z3, z4, z5, z6, z7, z8, z9⟩ | ⟨σ2, υ2, t2, c2, hX, hY, z1, z2⟩
      · have h22b : υ2.1 83 22 = nI (o + 1) := z2.2.2.2.2.1
        obtain ⟨b3', b4'⟩ := MS_op z2 o
        have hd1 : nI (o + 1) - 1 = nI o := nI_pred o
        have h41 : byV b L (plc b L t2) = 41 ↔ tkn b L (plc b L t2) = 141 := by_tk (c := 41) hb (by decide) (by decide) (by omega)
        rw [hX, bd_some, if_neg one_n0, hY, bd_some, pt_eq, h22b, hd1, if_pos b3'.2.2.1, m_by hM hL b3', bd_some]
        rcases x_passes hB z1 (x := 141) (by omega) (by omega) with ⟨g1, g2, g3⟩ | ⟨g1, g3⟩
        · have hpl2 : plc b L t2 < L := (cb_lt hB z1.1).mpr g2
          have hup2 := plc_up hpl2
          obtain ⟨_, y2, y3⟩ := CS_next hB z1 g2
          obtain ⟨υ3, d1, d2, d3⟩ := ms_next hM hL b3' hpl2
          rw [show f_X6_passes σ2 141 = _ from g3, bd_some, if_neg one_n0, bd_some, if_neg one_n0, if_pos (h41.mpr g1)]
          unfold fj_X12_one_118
          rw [d1, bd_some]
          have e84 : υ3.1 84 = υ2.1 84 := (funext fun k => d3 84 k (by omega)).trans b4'
          exact one_tail (B := B) hB he h1 h2 ⟨y2, d2, fun k hk => by rw [y3, z3 k hk, q3], fun k hk => by rw [e84, z4 k hk, b2', h84], by rw [y3]; exact z5, by rw [e84]; exact z6, by omega, by omega, by omega⟩ rC rM
        · obtain ⟨υ3, d1, d2⟩ := m_fail0 b3'
          rw [show f_X6_passes σ2 141 = _ from g3, bd_some, if_pos rfl, bd_some, if_pos rfl, if_neg (mt h41.mp g1), d_117 rM d1 d2]
          exact Or.inr ⟨σ2, υ3, t2, c2, rfl, rfl, z1, d2⟩
      · have b3' := MD_op z2 (υ2.1 83 22 - 1)
        obtain ⟨υ3, d1, d2⟩ := d_needs b3' 0
        rw [hX, bd_some, if_pos rfl, bd_some, if_pos rfl, hY, bd_some, pt_eq, if_neg (MD_ne b3'), d_117 rM d1 d2]
        exact Or.inr ⟨σ2, υ3, t2, c2, rfl, rfl, z1, d2⟩
    · rw [if_neg (mt ho3.mp co), if_neg (mt ho3.mp co), bd_some, if_pos rfl]
      obtain ⟨υ1, a1, a2⟩ := m_fail0 hm
      have b1' := MD_op a2 (υ1.1 83 22 + 1)
      have b2' := MD_op b1' ((sI υ1 83 22 (υ1.1 83 22 + 1)).1 83 22 - 1)
      obtain ⟨υ3, d1, d2⟩ := d_needs b2' 0
      unfold fj_X12_one_65
      rw [a1, bd_some, pt_eq, hR.2 _ _ b1', bd_some, pt_eq, if_neg (MD_ne b2'), d_117 rM d1 d2]
      exact Or.inr ⟨σ, υ3, t, c, rfl, rfl, hs, d2⟩
  · rw [if_neg cp, if_neg (mt h40.mp cp)]
    unfold fj_X12_one_124
    rcases cmp_sim hB hM hs hm (by omega) (by omega) (22 + 2 * o) with ⟨σ2, υ2, t2, c2, m2, B, hX, hY, hA⟩ | ⟨σ2, υ2, t2, c2, hX, hY, z1, z2⟩
    · rw [hX, bd_some, if_neg one_n0, hY, bd_some]
      exact one_tail hB he h1 h2 hA rC rM
    · rw [hX, bd_some, if_pos rfl, hY, bd_some, d_128 rM z2]
      exact Or.inr ⟨σ2, υ2, t2, c2, rfl, rfl, z1, z2⟩
theorem one_sim {b : Nat → Int32} {L N r : Nat} {σ0 υ0 : sS} {o : Nat} {rC : sS × Int32 → Option (Int32 × sS)} {rM : sS → Option sS} (hB : CB b L N r σ0) (hM : MT υ0 b L) (hR : RC b L N r σ0 υ0 o rC rM) (ho : o ≤ 3) : ∀ (d : Nat) {e t c m kC kM : Nat} {σ υ : sS}, N - t ≤ d → d < kC → d < kM → e ≤ 1 → CS N r σ0 σ t c → MS b L υ0 υ t m o → 2 * c + 2 * e ≤ plc b L t → m + e ≤ plc b L t → RS b L N r σ0 υ0 (22 + 2 * o) o e t c m σ υ (lp (fb_X6_readOne_2 rC) kC (σ, nI o, nI e)) (lp (fb_X12_one_2 rM) kM (υ, nI e)) := by
  intro d
  induction d with
  | zero =>
    intro e t c m kC kM σ υ hd hkC hkM he hs hm h1 h2
    obtain ⟨kC', rfl⟩ : ∃ k, kC = k + 1 := ⟨kC - 1, by omega⟩
    obtain ⟨kM', rfl⟩ : ∃ k, kM = k + 1 := ⟨kM - 1, by omega⟩
    have hs1 := hs.1
    obtain ⟨k1, k2, k3, k4⟩ := cb_tk hB hs
    obtain ⟨w, hw, hk⟩ := m_wd hM hB.2.2.1 hB.2.2.2.2.2.2.2 hm
    have hnp : ¬ plc b L t < L := fun g => by have := (cb_lt hB hs1).mp g; omega
    have n13 : ¬ lg_cmp w 14836 = 0 := fun g => by
      have := (hk 13 (by omega)).mp g
      rw [tkn_end hnp] at this
      have := nI_inj (a := 51) (b := 13) (by omega) (by omega) this
      omega
    have hlt : ¬ nI t < nI N := mt (nn_lt (by omega) (by omega)).mp (by omega)
    rw [lp_s, lp_s]
    have := one_body hB hM hR ho he hs hm h1 h2
    simp only [fb_X6_readOne_2, fb_X12_one_2, hs.2.1, k2, if_neg hlt, hw, bd_some, if_neg n13]
    exact this
  | succ d ih =>
    intro e t c m kC kM σ υ hd hkC hkM he hs hm h1 h2
    obtain ⟨kC', rfl⟩ : ∃ k, kC = k + 1 := ⟨kC - 1, by omega⟩
    obtain ⟨kM', rfl⟩ : ∃ k, kM = k + 1 := ⟨kM - 1, by omega⟩
    have hs1 := hs.1
    have hb := hB.2.2.2.2.2.2.2
    have hL := hB.2.2.1
    obtain ⟨k1, k2, k3, k4⟩ := cb_tk hB hs
    obtain ⟨w, hw, hk⟩ := m_wd hM hL hb hm
    have k13 : lg_cmp w 14836 = 0 ↔ tkn b L (plc b L t) = 13 := hk 13 (by omega)
    have hlt : nI t < nI N ↔ t < N := nn_lt (by omega) (by omega)
    have hbd := one_body hB hM hR ho he hs hm h1 h2
    rw [lp_s, lp_s]
    by_cases cn : tkn b L (plc b L t) = 13
    · obtain ⟨hpl, hp2⟩ := tk_two (i := 13) hb (by omega) (by decide) cn
      have ht : t < N := (cb_lt hB hs1).mp hpl
      obtain ⟨q1, q2, q3⟩ := CS_next hB hs ht
      obtain ⟨υ1, a1, a2, a3⟩ := ms_next hM hL hm hpl
      have h84 : υ1.1 84 = υ.1 84 := funext fun k => a3 84 k (by omega)
      have hrec := ih (e := 1 - e) (kC := kC') (kM := kM') (by omega) (by omega) (by omega) (by omega) q2 a2 (by omega) (by omega)
      have hX : fb_X6_readOne_2 rC (lp (fb_X6_readOne_2 rC) kC') (σ, nI o, nI e) = lp (fb_X6_readOne_2 rC) kC' (sI σ 45 6 (nI (t + 1)), nI o, nI (1 - e)) := by
        rw [hs.2.1] at q1
        have : e = 0 ∨ e = 1 := by omega
        rcases this with g | g
        · subst g
          simp only [fb_X6_readOne_2, fj_X6_readOne_46, hs.2.1, k2, if_pos (hlt.mpr ht), grd_of (sIn_nI (show t < 201 by omega) (show 201 < 2 ^ 31 by omega)), nI_clamp (show t < 2 ^ 31 by omega), k1, if_pos cn, q1, pt_eq, if_pos (show nI 0 = 0 from rfl)]
          rfl
        · subst g
          simp only [fb_X6_readOne_2, fj_X6_readOne_46, hs.2.1, k2, if_pos (hlt.mpr ht), grd_of (sIn_nI (show t < 201 by omega) (show 201 < 2 ^ 31 by omega)), nI_clamp (show t < 2 ^ 31 by omega), k1, if_pos cn, q1, pt_eq, if_neg (show ¬ nI 1 = 0 by decide)]
          rfl
      have hY : fb_X12_one_2 rM (lp (fb_X12_one_2 rM) kM') (υ, nI e) = lp (fb_X12_one_2 rM) kM' (υ1, nI (1 - e)) := by
        have : e = 0 ∨ e = 1 := by omega
        rcases this with g | g
        · subst g
          simp only [fb_X12_one_2, fj_X12_one_22, hw, bd_some, if_pos (k13.mpr cn), a1, if_pos (show nI 0 = 0 from rfl)]
          rfl
        · subst g
          simp only [fb_X12_one_2, fj_X12_one_22, hw, bd_some, if_pos (k13.mpr cn), a1, if_neg (show ¬ nI 1 = 0 by decide)]
          rfl
      rw [hX, hY]
      exact RS_base hrec (fun k _ => by rw [q3]) (fun k _ => by rw [h84]) (by omega) (by omega)
    · have hY : fb_X12_one_2 rM (lp (fb_X12_one_2 rM) kM') (υ, nI e) = fj_X12_one_31 rM υ (nI e) := by
        simp only [fb_X12_one_2, hw, bd_some, if_neg (mt k13.mp cn)]
      have hX : fb_X6_readOne_2 rC (lp (fb_X6_readOne_2 rC) kC') (σ, nI o, nI e) = fj_X6_readOne_50 rC σ (nI o) (nI e) := by
        by_cases ht : t < N
        · simp only [fb_X6_readOne_2, hs.2.1, k2, if_pos (hlt.mpr ht), grd_of (sIn_nI (show t < 201 by omega) (show 201 < 2 ^ 31 by omega)), nI_clamp (show t < 2 ^ 31 by omega), k1, if_neg cn]
        · simp only [fb_X6_readOne_2, hs.2.1, k2, if_neg (mt hlt.mp ht)]
      rw [hX, hY]
      exact hbd
