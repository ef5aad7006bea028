/-! THE RULES: a whole rule, in both -/
theorem plc_mono {b : Nat → Int32} {L : Nat} {t : Nat} : ∀ {t' : Nat}, t ≤ t' → plc b L t ≤ plc b L t'
  | 0, h => by
    have : t = 0 := by omega
    subst this
    exact Nat.le_refl _
  | t' + 1, h => by
    by_cases e : t = t' + 1
    · rw [e]; exact Nat.le_refl _
    · have ih := plc_mono (b := b) (L := L) (t := t) (t' := t') (by omega)
      by_cases c : plc b L t' < L
      · have := plc_up c
        omega
      · have e2 : plc b L (t' + 1) = L := by
          show (if plc b L t' < L then sk b L (ru b L (plc b L t')) else L) = L
          rw [if_neg c]
        have := plc_le b L t
        omega
def CF (N r : Nat) (σ τ : sS) (t : Nat) : Prop := t ≤ N ∧ τ.1 45 6 = nI t ∧ ∀ q j, ¬ (q = 45 ∧ j = 6) → ¬ (q = 50 ∧ j = r + 1) → q ≠ 51 → τ.1 q j = σ.1 q j
def RU (b : Nat → Int32) (L N r : Nat) (σ υ : sS) (t c m : Nat) (X : Option (Int32 × sS)) (Y : Option sS) : Prop := (∃ (τ ψ : sS) (t' c' m' k v g : Nat) (B : (Nat → Int32) → Bool), X = some (1, τ) ∧ Y = some ψ ∧ (t < t' ∧ t' ≤ N ∧ k ≤ 5 ∧ v ≤ 3 ∧ g ≤ 99) ∧ (τ.1 45 6 = nI t' ∧ τ.1 46 5 = nI (r + 1) ∧ τ.1 50 (r + 1) = nI c' ∧ τ.1 47 r = nI k ∧ τ.1 48 r = nI v ∧ τ.1 49 r = nI g ∧ (∀ j, j < c → τ.1 51 j = σ.1 51 j) ∧ (∀ q j, ¬ (q = 45 ∧ j = 6) → ¬ (q = 46 ∧ j = 5) → ¬ (q = 50 ∧ j = r + 1) → ¬ ((q = 47 ∨ q = 48 ∨ q = 49) ∧ j = r) → q ≠ 51 → τ.1 q j = σ.1 q j) ∧ c ≤ c' ∧ 2 * c' ≤ plc b L t' ∧ ∀ f, (cRun (τ.1 51) f c (c' - c) 1 &&& 1 = 1 ↔ B f = true)) ∧ (ψ.1 83 19 = nI (plc b L t') ∧ ψ.1 83 20 = nI (rr b L (plc b L t')) ∧ ψ.1 83 24 = 0 ∧ ψ.1 83 23 = nI m' ∧ ψ.1 83 22 = nI 0 ∧ ψ.1 84 1 = nI (r + 1) ∧ ψ.1 84 (84 + 4 * r) = nI k ∧ ψ.1 84 (85 + 4 * r) = nI v ∧ ψ.1 84 (86 + 4 * r) = nI g ∧ ψ.1 84 (87 + 4 * r) = nI m' ∧ (∀ j, 116 ≤ j → j < 116 + m → ψ.1 84 j = υ.1 84 j) ∧ FR r υ ψ ∧ m ≤ m' ∧ m' ≤ plc b L t' ∧ ∀ f, mRun (fun k => ψ.1 84 (116 + k)) f m (m' - m) [] = some (if m = m' then [] else [if B f = true then (1 : Int32) else 0]) ∧ (m = m' → B f = true))) ∨ (∃ (τ ψ : sS) (t' : Nat), X = some (0, τ) ∧ Y = some ψ ∧ CF N r σ τ t' ∧ MD b L υ ψ t')
theorem rule_fin {b : Nat → Int32} {L N r : Nat} {σ υ σ3 υ3 : sS} {t c m t3 c3 m3 k : Nat} {B : (Nat → Int32) → Bool} {X : Option (Int32 × sS)} {Y : Option sS} (hk : k ≤ 5) (ht : t < t3) (h1 : c ≤ c3) (h2 : 2 * c3 ≤ plc b L t3) (h3 : ∀ j, j < c → σ3.1 51 j = σ.1 51 j) (h4 : ∀ f, (cRun (σ3.1 51) f c (c3 - c) 1 &&& 1 = 1 ↔ B f = true)) (h5 : m ≤ m3) (h6 : m3 ≤ plc b L t3) (h7 : ∀ j, 116 ≤ j → j < 116 + m → υ3.1 84 j = υ.1 84 j) (h8 : ∀ f, mRun (fun k => υ3.1 84 (116 + k)) f m (m3 - m) [] = some (if m = m3 then [] else [if B f = true then (1 : Int32) else 0]) ∧ (m = m3 → B f = true)) (h : DS b L N r σ υ σ3 υ3 t3 c3 m3 k X Y) : RU b L N r σ υ t c m (bd X fun r1 => grd (sBo r1.1) (some (r1.1, r1.2))) Y := by
  rcases h with ⟨τ, ψ, t', v, g, e1, e2, e3, e4, e5, ⟨c1, c2, c3', c4, c5, c6, c7, c8, c9⟩, m1, m2, m3', m4, m5, m6, m7, m8, m9, m10, m11, m12⟩ | ⟨τ, ψ, t', c', e1, e2, e3, e4⟩
  · have hp := plc_mono (b := b) (L := L) (show t3 ≤ t' by omega)
    refine Or.inl ⟨τ, ψ, t', c3, m3, k, v, g, B, ?_, e2, ⟨by omega, c1, hk, e4, e5⟩, ⟨c2, c3', c4, c6, c7, c8, fun j hj => by rw [c5]; exact h3 j hj, c9, h1, by omega, fun f => by rw [c5]; exact h4 f⟩, m1, m2, m3', m4, m5, m6, m7, m8, m9, m10, fun j q1 q2 => by rw [m11 j q1]; exact h7 j q1 q2, m12, h5, by omega, fun f => ⟨?_, (h8 f).2⟩⟩
    · rw [e1, bd_some, grd_of (by rfl)]
    · rw [mRun_cg (co' := fun k => ψ.1 84 (116 + k)) (co := fun k => υ3.1 84 (116 + k)) _ _ _ (fun j _ _ => m11 (116 + j) (by omega))]
      exact (h8 f).1
  · refine Or.inr ⟨τ, ψ, t', ?_, e2, ⟨e3.1, e3.2.1, e3.2.2.2⟩, e4⟩
    rw [e1, bd_some, grd_of (by rfl)]
theorem m_kindH {b : Nat → Int32} {L : Nat} {υ0 υ : sS} {t m o : Nat} (hM : MT υ0 b L) (hL : L ≤ 200) (hb : ∀ k, k < L → bt (b k) 0 255) (hs : MS b L υ0 υ t m o) {x : Nat} (hx : x < 11000) (ht : tkn b L (plc b L t) = nI x) : f_X12_kindHere υ = some (if x ≤ 5 then nI x else -1) := by
  obtain ⟨w, h1, h2⟩ := m_wd hM hL hb hs
  have k : ∀ i, i < 19 → (lg_cmp w (lN (WC i)) = 0 ↔ x = i) := fun i hi => by
    rw [h2 i hi, ht]
    exact nI_eq (by omega) (by omega)
  have k0 : lg_cmp w 48542764 = 0 ↔ x = 0 := k 0 (by omega)
  have k1 : lg_cmp w 8899173 = 0 ↔ x = 1 := k 1 (by omega)
  have k2 : lg_cmp w 646190 = 0 ↔ x = 2 := k 2 (by omega)
  have k3 : lg_cmp w 24389253 = 0 ↔ x = 3 := k 3 (by omega)
  have k4 : lg_cmp w 394661 = 0 ↔ x = 4 := k 4 (by omega)
  have k5 : lg_cmp w 16765232232 = 0 ↔ x = 5 := k 5 (by omega)
  unfold f_X12_kindHere
  rw [h1, bd_some]
  by_cases c0 : x = 0
  · rw [if_pos (k0.mpr c0), if_pos (by omega), c0]; rfl
  rw [if_neg (mt k0.mp c0)]
  by_cases c1 : x = 1
  · rw [if_pos (k1.mpr c1), if_pos (by omega), c1]; rfl
  rw [if_neg (mt k1.mp c1)]
  by_cases c2 : x = 2
  · rw [if_pos (k2.mpr c2), if_pos (by omega), c2]; rfl
  rw [if_neg (mt k2.mp c2)]
  by_cases c3 : x = 3
  · rw [if_pos (k3.mpr c3), if_pos (by omega), c3]; rfl
  rw [if_neg (mt k3.mp c3)]
  by_cases c4 : x = 4
  · rw [if_pos (k4.mpr c4), if_pos (by omega), c4]; rfl
  rw [if_neg (mt k4.mp c4)]
  by_cases c5 : x = 5
  · rw [if_pos (k5.mpr c5), if_pos (by omega), c5]; rfl
  rw [if_neg (mt k5.mp c5), if_neg (by omega)]
theorem d_25 {b : Nat → Int32} {L : Nat} {υ0 υ ω : sS} {t : Nat} (hM : MT υ0 b L) (hL : L ≤ 200) (hb : ∀ k, k < L → bt (b k) 0 255) (h1 : f_X12_needs υ 0 = some ω) (h2 : MD b L υ0 ω t) (x1 : Int32) : ∃ τ, fj_X12_rule_25 υ x1 = some τ ∧ MD b L υ0 τ t := by
  obtain ⟨w, hw, k⟩ := d_wd hM hL hb h2
  have k6 : ¬ lg_cmp w 294 = 0 := k 6 (by omega)
  obtain ⟨τ, e1, e2⟩ := d_49 hM hL hb h2 x1
  refine ⟨τ, ?_, e2⟩
  unfold fj_X12_rule_25 fj_X12_rule_26
  rw [h1, bd_some, hw, bd_some, if_neg k6, e1]
theorem b1_and (n : Nat) (x : Bool) : nI (2 * n + b1 x) &&& 1 = 1 ↔ x = true := by
  have hx := b1_le x
  have e1 : nI (2 * n + b1 x) &&& 1 = nI (b1 x) := by
    rw [show (1 : Int32) = nI 1 from rfl, nI_and, Nat.and_one_is_mod]
    congr 1
    omega
  rw [e1]
  cases x <;> decide
theorem rule_sim {b : Nat → Int32} {L N r : Nat} {σ υ : sS} {t c m : Nat} (hB : CB b L N r σ) (hM : MT υ b L) (ht : t < N) (h45 : σ.1 45 6 = nI t) (h50 : σ.1 50 r = nI c) (hm : MS b L υ υ t m 0) (h1 : υ.1 84 1 = nI r) (hc : 2 * c ≤ plc b L t) (hmm : m ≤ plc b L t) : RU b L N r σ υ t c m (f_X6_readRule σ) (f_X12_rule υ) := by
  have hb := hB.2.2.2.2.2.2.2
  have hL := hB.2.2.1
  obtain ⟨h46, hr⟩ := hB.2.2.2.2.2.2.1
  have htk : σ.1 53 t = tkn b L (plc b L t) := hB.2.2.2.2.2.1 t (by omega)
  obtain ⟨x, hx, hxt⟩ := tkn_val (b := b) (L := L) (p := plc b L t) hb
  have hw5 : f_X11_isWithin σ (nI x) 0 5 = some (if x ≤ 5 then 1 else 0) := x_with0 σ hx (h := 5) (by omega)
  have hN : N ≤ 200 := by have := hB.2.1; omega
  unfold f_X6_readRule f_X12_rule
  rw [h45, grd_of (sIn_nI (show t < 201 by omega) (by omega)), nI_clamp (by omega), htk, hxt, pt_eq, hw5, bd_some, m_kindH hM hL hb hm hx hxt, bd_some]
  by_cases cx : x ≤ 5
  · have hpl : plc b L t < L := ((tkn_name hb (show x < 19 by omega)).mp hxt).1
    have hup := plc_up hpl
    have g1 : sIn 1 316 = true := sIn_nI (show 1 < 316 by omega) (by omega)
    have e1 : (1 : Int32).toNatClampNeg = 1 := rfl
    have hlt8 : nI r < (8 : Int32) := (nn_lt (a := r) (b := 8) (by omega) (by omega)).mpr hr
    rw [if_pos cx, if_neg one_n0, if_pos cx, if_neg (nI_pos (by omega)), grd_of g1, e1, h1, if_pos hlt8, nI_1, pt_eq]
    -- begin
    have s46 : (sI σ 45 6 (nI (t + 1))).1 46 5 = nI r := by rw [sI_off _ _ _ _ (by omega)]; exact h46
    have s50 : (sI σ 45 6 (nI (t + 1))).1 50 r = nI c := by rw [sI_off _ _ _ _ (by omega)]; exact h50
    have hbeg : f_X5_begin (sI σ 45 6 (nI (t + 1))) = some (sI (sI σ 45 6 (nI (t + 1))) 50 (r + 1) (nI c)) := by
      unfold f_X5_begin
      rw [s46, grd_of (sIn_nI (show r < 9 by omega) (by omega)), nI_1, grd_of (sIn_nI (show r + 1 < 9 by omega) (by omega)), nI_clamp (by omega), nI_clamp (by omega), s50, pt_eq]
    obtain ⟨σ2, hσ2⟩ : ∃ σ2, σ2 = sI (sI σ 45 6 (nI (t + 1))) 50 (r + 1) (nI c) := ⟨_, rfl⟩
    have q2 : CS N r σ σ2 (t + 1) c := by
      rw [hσ2]
      refine ⟨by omega, by rw [sI_off _ _ _ _ (by omega), sI_same], sI_same _ _ _ _, fun q j z1 z2 z3 => ?_⟩
      rw [sI_r]
      by_cases e : q = 50
      · rw [if_pos e, if_neg (fun e2 => z2 ⟨e, e2⟩), ← e, sI_off _ _ _ _ (by omega)]
      · rw [if_neg e, sI_r]
        by_cases e : q = 45
        · rw [if_pos e, if_neg (fun e2 => z1 ⟨e, e2⟩), e]
        · rw [if_neg e]
    have q51 : σ2.1 51 = σ.1 51 := by rw [hσ2, sI_off _ _ _ _ (by omega), sI_off _ _ _ _ (by omega)]
    rw [hbeg, bd_some, ← hσ2]
    obtain ⟨υ1, a1, a2, a3⟩ := ms_next hM hL hm hpl
    have h84 : υ1.1 84 = υ.1 84 := funext fun k => a3 84 k (by omega)
    obtain ⟨w, hw, hk⟩ := m_wd hM hL hb a2
    have k6 : lg_cmp w 294 = 0 ↔ tkn b L (plc b L (t + 1)) = 6 := hk 6 (by omega)
    unfold fj_X12_rule_26
    rw [a1, bd_some, hw, bd_some]
    rcases x_passes hB q2 (x := 6) (by omega) (by omega) with ⟨p1, p2, p3⟩ | ⟨p1, p3⟩
    · have hpl1 : plc b L (t + 1) < L := (cb_lt hB q2.1).mpr p2
      have hup1 := plc_up hpl1
      obtain ⟨_, y2, y3⟩ := CS_next hB q2 p2
      obtain ⟨υ2, b1', b2', b3'⟩ := ms_next hM hL a2 hpl1
      have h84b : υ2.1 84 = υ.1 84 := (funext fun k => b3' 84 k (by omega)).trans h84
      rw [show f_X6_passes σ2 6 = _ from p3, bd_some, if_neg one_n0, if_pos (k6.mpr p1), b1', bd_some]
      rcases cond_top hB hM y2 b2' (by omega) (by omega) with ⟨σ3, υ3, t3, c3, m3, B, hX, hY, z1, z2, z3, z4, z5, z6, z7, z8, z9⟩ | ⟨σ3, υ3, t3, c3, hX, hY, z1, z2⟩
      · rw [hX, bd_some, if_neg one_n0, hY, bd_some]
        unfold fj_X6_readRule_57
        have hmne : ¬ m = m3 := fun e => by
          have := z6.2 (fun _ => 0) []
          rw [← e, Nat.sub_self] at this
          cases this
        refine rule_fin (B := B) cx (by omega) z5.1 (by omega) (fun j hj => by rw [z3 j hj, y3, q51]) (fun f => ?_) z6.1 (by omega) (fun j j1 j2 => by rw [z4 j j2, h84b]) (fun f => ⟨?_, fun e => absurd e hmne⟩) (deed_sim hB hM z1 z2 h1 x)
        · have := z5.2 f 1 (by omega)
          rw [show (1 : Int32) = nI 1 from rfl, this, ← show (1 : Int32) = nI 1 from rfl]
          exact b1_and 1 (B f)
        · rw [if_neg hmne]
          exact z6.2 f []
      · obtain ⟨ψ, d1, d2⟩ := d_49 hM hL hb z2 (nI x)
        rw [hX, bd_some, if_pos rfl, hY, bd_some, d1]
        exact Or.inr ⟨σ3, ψ, t3, rfl, rfl, ⟨z1.1, z1.2.1, z1.2.2.2⟩, d2⟩
    · rw [show f_X6_passes σ2 6 = _ from p3, bd_some, if_pos rfl, if_neg (mt k6.mp p1)]
      unfold fj_X6_readRule_57
      refine rule_fin (B := fun _ => true) (c3 := c) (m3 := m) cx (by omega) (Nat.le_refl _) (by omega) (fun j hj => by rw [q51]) (fun f => ?_) (Nat.le_refl _) (by omega) (fun j j1 j2 => by rw [h84]) (fun f => ⟨?_, fun _ => rfl⟩) (deed_sim hB hM q2 a2 h1 x)
      · rw [Nat.sub_self]
        show ((1 : Int32) &&& 1 = 1) ↔ _
        exact ⟨fun _ => rfl, fun _ => by decide⟩
      · rw [Nat.sub_self, if_pos rfl]
        rfl
  · rw [if_neg cx, if_pos rfl, if_neg cx, if_pos (by decide)]
    obtain ⟨ω, g1, g2⟩ := m_fail0 hm
    obtain ⟨ψ, d1, d2⟩ := d_25 hM hL hb g1 g2 (-1)
    exact Or.inr ⟨σ, ψ, t, rfl, d1, ⟨by omega, h45, fun _ _ _ _ _ => rfl⟩, d2⟩
