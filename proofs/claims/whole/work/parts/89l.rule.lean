/-! THE RULES: one rule, in both -/
theorem tail_sim {b : Nat → Int32} {L N r : Nat} {σ0 υ0 σ υ : sS} {t c m : Nat} (hB : CB b L N r σ0) (hM : MT υ0 b L) (hs : CS N r σ0 σ t c) (hm : MS b L υ0 υ t m 0) (h1 : υ.1 84 1 = nI r) {k v g : Nat} (h21 : υ.1 83 21 = nI g) (hv : v ≤ 3) (hg : g ≤ 99) : DS b L N r σ0 υ0 σ υ t c m k (fj_X6_readDeed_77 σ (nI k) (nI v) (nI g)) (fj_X12_rule_143 υ (nI k) (nI v)) := by
  have hb := hB.2.2.2.2.2.2.2
  have hL := hB.2.2.1
  obtain ⟨h46, hr⟩ := hB.2.2.2.2.2.2.1
  have h59 : byV b L (plc b L t) = 59 ↔ tkn b L (plc b L t) = 159 := by_tk (c := 59) hb (by decide) (by decide) (by omega)
  unfold fj_X6_readDeed_77 fj_X12_rule_143
  rw [if_pos hm.2.2.1, m_by hM hL hm, bd_some, h21]
  rcases x_passes hB hs (x := 159) (by omega) (by omega) with ⟨g1, g2, g3⟩ | ⟨g1, g3⟩
  · have hpl : plc b L t < L := (cb_lt hB hs.1).mpr g2
    obtain ⟨q1, q2, q3⟩ := CS_next hB hs g2
    obtain ⟨k1, k2, k3, k4⟩ := cb_tk hB q2
    obtain ⟨τ, e1, e2⟩ := x_finish k3 hr q2 k v g
    obtain ⟨ψ, e3, e4⟩ := m_175 hM hL hr h1 hm hpl k v g
    refine Or.inl ⟨τ, ψ, t + 1, v, g, ?_, ?_, by omega, hv, hg, ?_, e4⟩
    · rw [show f_X6_passes σ 159 = _ from g3, bd_some, if_neg one_n0, e1, bd_some]
    · rw [if_pos (h59.mpr g1), e3]
    · obtain ⟨c1, c2, c3, c4, c5, c6⟩ := e2
      exact ⟨c1, c2, c3, c4, by rw [c5, q3], c6⟩
  · obtain ⟨ψ, d1, d2⟩ := m_fail0 hm
    refine Or.inr ⟨σ, ψ, t, c, ?_, ?_, hs, d2⟩
    · rw [show f_X6_passes σ 159 = _ from g3, bd_some, if_pos rfl]
    · unfold fj_X12_rule_174
      rw [if_neg (mt h59.mp g1), d_175 d1 d2]
theorem DS_base {b : Nat → Int32} {L N r : Nat} {σ0 υ0 σ υ σ1 υ1 : sS} {t t1 c m k : Nat} {X : Option (Int32 × sS)} {Y : Option sS} (h : DS b L N r σ0 υ0 σ1 υ1 t1 c m k X Y) (ht : t ≤ t1) (h51 : σ1.1 51 = σ.1 51) (h84 : ∀ j, 116 ≤ j → υ1.1 84 j = υ.1 84 j) : DS b L N r σ0 υ0 σ υ t c m k X Y := by
  rcases h with ⟨τ, ψ, t', v, g, e1, e2, e3, e4, e5, ⟨c1, c2, c3, c4, c5, c6⟩, m1, m2, m3, m4, m5, m6, m7, m8, m9, m10, m11, m12⟩ | h
  · exact Or.inl ⟨τ, ψ, t', v, g, e1, e2, by omega, e4, e5, ⟨c1, c2, c3, c4, by rw [c5, h51], c6⟩, m1, m2, m3, m4, m5, m6, m7, m8, m9, m10, fun j hj => by rw [m11 j hj, h84 j hj], m12⟩
  · exact Or.inr h
theorem deed_sim {b : Nat → Int32} {L N r : Nat} {σ0 υ0 σ υ : sS} {t c m : Nat} (hB : CB b L N r σ0) (hM : MT υ0 b L) (hs : CS N r σ0 σ t c) (hm : MS b L υ0 υ t m 0) (h1 : υ0.1 84 1 = nI r) (k : Nat) : DS b L N r σ0 υ0 σ υ t c m k (f_X6_readDeed σ (nI k)) (fj_X12_rule_49 υ (nI k)) := by
  have hb := hB.2.2.2.2.2.2.2
  have hL := hB.2.2.1
  have hs1 := hs.1
  obtain ⟨z1, z2, z3, z4⟩ := cb_tk hB hs
  obtain ⟨x, hx, ht⟩ := tkn_val (b := b) (L := L) (p := plc b L t) hb
  obtain ⟨w, hw, hk⟩ := m_wd hM hL hb hm
  have kk : ∀ i, i < 19 → (lg_cmp w (lN (WC i)) = 0 ↔ x = i) := fun i hi => by
    rw [hk i hi, ht]
    exact nI_eq (by omega) (by omega)
  have k7 : lg_cmp w 215205 = 0 ↔ x = 7 := kk 7 (by omega)
  have k8 : lg_cmp w 136242 = 0 ↔ x = 8 := kk 8 (by omega)
  have k9 : lg_cmp w 635383 = 0 ↔ x = 9 := kk 9 (by omega)
  have k10 : lg_cmp w 643568 = 0 ↔ x = 10 := kk 10 (by omega)
  have hw7 : f_X11_isWithin σ (nI x - 7) 0 3 = some (if 7 ≤ x ∧ x ≤ 7 + 3 then 1 else 0) := x_with σ hx (k := 7) (h := 3) (by omega) (by omega)
  unfold f_X6_readDeed fj_X12_rule_49
  rw [hs.2.1, grd_of (sIn_nI (show t < 201 by omega) (by omega)), nI_clamp (by omega), z1, ht, pt_eq, hw7, bd_some, hw, bd_some]
  by_cases cx : 7 ≤ x ∧ x ≤ 7 + 3
  · obtain ⟨v, hv⟩ : ∃ v, v = x - 7 := ⟨_, rfl⟩
    have hpl : plc b L t < L := ((tkn_name hb (show x < 19 by omega)).mp ht).1
    have htN : t < N := (cb_lt hB hs1).mp hpl
    obtain ⟨q1, q2, q3⟩ := CS_next hB hs htN
    rw [hs.2.1] at q1
    have hxv : nI x - 7 = nI v := by rw [show (7 : Int32) = nI 7 from rfl, pk_sub (by omega), hv]
    rw [if_pos cx, if_neg one_n0, q1, pt_eq, hxv]
    obtain ⟨υ1, a1, a2, a3⟩ := ms_next hM hL hm hpl
    have b2 := MS_ch (off21 υ1 0) a2
    have o84 : (sI υ1 83 21 0).1 84 = υ.1 84 := funext fun j => by rw [off21 υ1 0 84 j (by omega), a3 84 j (by omega)]
    have h841 : (sI υ1 83 21 0).1 84 1 = nI r := by rw [b2.2.2.2.2.2 84 1 (by omega) (by omega)]; exact h1
    have e49 : (if lg_cmp w 215205 = 0 then fj_X12_rule_103 υ (nI k) 0 else (if lg_cmp w 136242 = 0 then fj_X12_rule_103 υ (nI k) 1 else (if lg_cmp w 635383 = 0 then fj_X12_rule_103 υ (nI k) 2 else (if lg_cmp w 643568 = 0 then fj_X12_rule_103 υ (nI k) 3 else fj_X12_rule_103 υ (nI k) (-1))))) = fj_X12_rule_116 υ (nI k) (nI v) 1 := by
      have h103 : ∀ y, y < 4 → fj_X12_rule_103 υ (nI k) (nI y) = fj_X12_rule_116 υ (nI k) (nI y) 1 := fun y hy => by
        unfold fj_X12_rule_103
        rw [if_neg (nI_pos (by omega))]
      have : x = 7 ∨ x = 8 ∨ x = 9 ∨ x = 10 := by omega
      rcases this with e | e | e | e
      · rw [if_pos (k7.mpr e), show v = 0 by omega]; exact h103 0 (by omega)
      · rw [if_neg (mt k7.mp (by omega)), if_pos (k8.mpr e), show v = 1 by omega]; exact h103 1 (by omega)
      · rw [if_neg (mt k7.mp (by omega)), if_neg (mt k8.mp (by omega)), if_pos (k9.mpr e), show v = 2 by omega]; exact h103 2 (by omega)
      · rw [if_neg (mt k7.mp (by omega)), if_neg (mt k8.mp (by omega)), if_neg (mt k9.mp (by omega)), if_pos (k10.mpr e), show v = 3 by omega]; exact h103 3 (by omega)
    rw [e49]
    unfold fj_X12_rule_116
    rw [a1, bd_some, pt_eq (sI υ1 83 21 0)]
    simp only [if_pos b2.2.2.1]
    have hv1 : nI v = 1 ↔ v = 1 := nI_eq (a := v) (b := 1) (by omega) (by omega)
    by_cases c1 : v = 1
    · rw [if_pos (hv1.mpr c1), if_pos (hv1.mpr c1)]
      obtain ⟨y1, y2, y3, y4⟩ := cb_tk hB q2
      obtain ⟨y, hy, hty⟩ := tkn_val (b := b) (L := L) (p := plc b L (t + 1)) hb
      have hw9 : f_X11_isWithin (sI σ 45 6 (nI (t + 1))) (nI y - 1000) 0 99 = some (if 1000 ≤ y ∧ y ≤ 1000 + 99 then 1 else 0) := x_with _ hy (k := 1000) (h := 99) (by omega) (by omega)
      rw [q2.2.1, grd_of (sIn_nI (show t + 1 < 201 by have := q2.1; omega) (by omega)), nI_clamp (by omega), y1, hty, pt_eq (nI y - 1000), hw9, bd_some]
      obtain ⟨n1, n2⟩ := tkn_num (b := b) (L := L) (p := plc b L (t + 1)) hb
      obtain ⟨N1, N2⟩ := m_number hM hL b2 (hi := 99) (by omega)
      have fail : (∃ υ3, f_X12_number (sI υ1 83 21 0) 99 = some υ3 ∧ MD b L υ0 υ3 (t + 1)) → ¬ (1000 ≤ y ∧ y ≤ 1000 + 99) → DS b L N r σ0 υ0 σ υ t c m k (if (if 1000 ≤ y ∧ y ≤ 1000 + 99 then (1 : Int32) else 0) = 0 then some (0, sI σ 45 6 (nI (t + 1))) else pt (sI (sI σ 45 6 (nI (t + 1))) 45 6 ((nI (t + 1)) + 1)) fun σ22 => fj_X6_readDeed_77 σ22 (nI k) (nI v) (nI y - 1000)) (bd (f_X12_number (sI υ1 83 21 0) 99) fun r10 => fj_X12_rule_143 r10 (nI k) (nI v)) := by
        rintro ⟨υ3, d1, d2⟩ hny
        obtain ⟨ψ, d3, d4⟩ := d_143 d2 (nI k) (nI v)
        refine Or.inr ⟨_, ψ, t + 1, c, ?_, ?_, q2, d4⟩
        · rw [if_neg hny, if_pos rfl]
        · rw [d1, bd_some, d3]
      by_cases cn : isN b L (plc b L (t + 1))
      · obtain ⟨u, hu1, hu2, hu3⟩ := n1 cn
        have ey : y = 1000 + u := nI_inj (by omega) (by omega) (hty.symm.trans hu3)
        by_cases cu : u ≤ 99
        · obtain ⟨υ3, d1, d2, d3, d4⟩ := N1 u cn hu2 hu1 cu
          have ht1 : t + 1 < N := (cb_lt hB q2.1).mp cn.1
          obtain ⟨p1, p2, p3⟩ := CS_next hB q2 ht1
          rw [q2.2.1] at p1
          rw [if_pos (show 1000 ≤ y ∧ y ≤ 1000 + 99 by omega), if_neg one_n0, p1, pt_eq, show f_X12_number (sI υ1 83 21 0) 99 = _ from d1, bd_some, show (1000 : Int32) = nI 1000 from rfl, pk_sub (by omega), show y - 1000 = u by omega]
          exact DS_base (tail_sim hB hM p2 d2 (by rw [d4]; exact h841) d3 (by omega) cu) (by omega) (by rw [p3, q3]) (fun j _ => by rw [d4, o84])
        · exact fail (N2 (Or.inr ⟨u, cn, hu2, hu1, by omega⟩)) (by omega)
      · obtain ⟨y', hy', ey'⟩ := n2 cn
        have : y = y' := nI_inj (by omega) (by omega) (hty.symm.trans ey')
        exact fail (N2 (Or.inl cn)) (by omega)
    · rw [if_neg (mt hv1.mp c1), if_neg (mt hv1.mp c1)]
      exact DS_base (tail_sim hB hM q2 b2 h841 (g := 0) (sI_same _ _ _ _) (by omega) (by omega)) (by omega) q3 (fun j _ => by rw [o84])
  · rw [if_neg cx, if_pos rfl, if_neg (mt k7.mp (by omega)), if_neg (mt k8.mp (by omega)), if_neg (mt k9.mp (by omega)), if_neg (mt k10.mp (by omega))]
    obtain ⟨ω, g1, g2⟩ := m_fail0 hm
    obtain ⟨ψ, e1, e2⟩ := d_103 g1 g2 (nI k)
    exact Or.inr ⟨σ, ψ, t, c, rfl, e1, hs, e2⟩
