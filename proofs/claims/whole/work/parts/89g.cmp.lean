/-! THE RULES: values and comparisons -/
def AC (b : Nat → Int32) (L N r : Nat) (σ0 υ0 : sS) (K o e t0 c0 m0 : Nat) (σb υb σ υ : sS) (t c m : Nat) (B : (Nat → Int32) → Bool) : Prop := CS N r σ0 σ t c ∧ MS b L υ0 υ t m o ∧ (∀ k, k < c0 → σ.1 51 k = σb.1 51 k) ∧ (∀ k, k < 116 + m0 → υ.1 84 k = υb.1 84 k) ∧ sgC (σ.1 51) K c0 c B ∧ sgM (fun k => υ.1 84 (116 + k)) m0 m B ∧ (t0 < t ∧ 2 * c + plc b L t0 ≤ 2 * c0 + 2 * e + plc b L t ∧ m + plc b L t0 ≤ m0 + e + plc b L t)
def RS (b : Nat → Int32) (L N r : Nat) (σ0 υ0 : sS) (K o e t0 c0 m0 : Nat) (σb υb : sS) (X : Option (Int32 × sS)) (Y : Option sS) : Prop := (∃ σ υ t c m B, X = some (1, σ) ∧ Y = some υ ∧ AC b L N r σ0 υ0 K o e t0 c0 m0 σb υb σ υ t c m B) ∨ (∃ σ υ t c, X = some (0, σ) ∧ Y = some υ ∧ CS N r σ0 σ t c ∧ MD b L υ0 υ t)
theorem MS_ch {b : Nat → Int32} {L : Nat} {υ0 υ ψ : sS} {t m o : Nat} (h : ∀ q j, ¬ (q = 83 ∧ j = 21) → ψ.1 q j = υ.1 q j) (hs : MS b L υ0 υ t m o) : MS b L υ0 ψ t m o := by
  obtain ⟨h1, h2, h3, h4, h5, h6⟩ := hs
  exact ⟨by rw [h 83 19 (by omega)]; exact h1, by rw [h 83 20 (by omega)]; exact h2, by rw [h 83 24 (by omega)]; exact h3, by rw [h 83 23 (by omega)]; exact h4, by rw [h 83 22 (by omega)]; exact h5, FM_tr h6 fun q j a1 a2 => h q j (by omega)⟩
theorem m_numR {b : Nat → Int32} {L : Nat} {υ0 υ : sS} {t m o : Nat} (hM : MT υ0 b L) (hL : L ≤ 200) (hs : MS b L υ0 υ t m o) (x : Int32) (h : plc b L t < L) : ∃ ψ, fl_X12_number_43 (sI υ 83 21 0, x, 1, nI (plc b L t)) = fj_X12_number_82 ψ x 1 ∧ ψ.1 83 21 = nvF b (plc b L t) (ru b L (plc b L t) - plc b L t) ∧ ∀ q j, ¬ (q = 83 ∧ j = 21) → ψ.1 q j = υ.1 q j := by
  obtain ⟨p, hp⟩ : ∃ p, p = plc b L t := ⟨_, rfl⟩
  have h20 := hs.2.1
  have hMT := MT_FM hM hs.2.2.2.2.2
  rw [← hp] at h h20 ⊢
  have hru := ru_spec (b := b) h
  have hrr : rr b L p = ru b L p := by unfold rr; rw [if_pos h]
  rw [hrr] at h20
  obtain ⟨e, he⟩ : ∃ e, e = ru b L p := ⟨_, rfl⟩
  rw [← he] at hru h20 ⊢
  unfold fl_X12_number_43
  refine lp_inv (body := fb_X12_number_43) (I := fun k s => s.2 = (x, 1, nI (p + k)) ∧ s.1.1 83 21 = nvF b p k ∧ ∀ q j, ¬ (q = 83 ∧ j = 21) → s.1.1 q j = υ.1 q j) (e := e - p) (P := fun X => ∃ ψ, X = fj_X12_number_82 ψ x 1 ∧ ψ.1 83 21 = nvF b p (e - p) ∧ ∀ q j, ¬ (q = 83 ∧ j = 21) → ψ.1 q j = υ.1 q j) ?_ ?_ nF 0 _ (by omega) (nF_big (by omega)) ⟨rfl, sI_same _ _ _ _, fun q j g => by
    rw [sI_r]
    by_cases e : q = 83
    · rw [if_pos e, if_neg (fun e2 => g ⟨e, e2⟩), e]
    · rw [if_neg e]⟩
  · rintro k hk ⟨ψ, y⟩ ⟨hy, a1, a2⟩ back
    have hy2 : y = (x, 1, nI (p + k)) := hy
    subst hy2
    have a1' : ψ.1 83 21 = nvF b p k := a1
    have a2' : ∀ q j, ¬ (q = 83 ∧ j = 21) → ψ.1 q j = υ.1 q j := a2
    have hlt : nI (p + k) < nI e := (nn_lt (by omega) (by omega)).mpr (by omega)
    have h97 : ψ.1 97 (p + k) = b (p + k) := by rw [a2' 97 _ (by omega)]; exact hMT.2 (p + k) (by omega)
    have h20' : ψ.1 83 20 = nI e := by rw [a2' 83 20 (by omega)]; exact h20
    refine ⟨(sI ψ 83 21 (nvF b p (k + 1)), x, 1, nI (p + (k + 1))), ⟨rfl, sI_same _ _ _ _, fun q j g => ?_⟩, ?_⟩
    · show (sI ψ 83 21 _).1 q j = _
      rw [sI_r]
      by_cases e : q = 83
      · rw [if_pos e, if_neg (fun e2 => g ⟨e, e2⟩), ← e]
        exact a2' q j g
      · rw [if_neg e]
        exact a2' q j g
    · simp only [fb_X12_number_43, h20', if_pos hlt, if_neg (show ¬ (1 : Int32) = 0 by decide), grd_of (sIn_nI (show p + k < 200 by omega) (show 200 < 2 ^ 31 by omega)), nI_clamp (show p + k < 2 ^ 31 by omega), h97, a1', pt_eq, nI_1, Nat.add_assoc]
      rfl
  · rintro ⟨ψ, y⟩ ⟨hy, a1, a2⟩ back
    have hy2 : y = (x, 1, nI (p + (e - p))) := hy
    rw [show p + (e - p) = e by omega] at hy2
    subst hy2
    have a2' : ∀ q j, ¬ (q = 83 ∧ j = 21) → ψ.1 q j = υ.1 q j := a2
    have h20' : ψ.1 83 20 = nI e := by rw [a2' 83 20 (by omega)]; exact h20
    refine ⟨ψ, ?_, a1, a2⟩
    simp only [fb_X12_number_43, h20', Int32.lt_irrefl, if_false]
def isN (b : Nat → Int32) (L p : Nat) : Prop := p < L ∧ iD (b p) = true ∧ ru b L p - p < 5
theorem m_number {b : Nat → Int32} {L : Nat} {υ0 υ : sS} {t m o : Nat} (hM : MT υ0 b L) (hL : L ≤ 200) (hs : MS b L υ0 υ t m o) {hi : Nat} (hhi : hi < 20000) : (∀ v, isN b L (plc b L t) → nvF b (plc b L t) (ru b L (plc b L t) - plc b L t) = nI v → v < 10000 → v ≤ hi → ∃ τ, f_X12_number υ (nI hi) = some τ ∧ MS b L υ0 τ (t + 1) m o ∧ τ.1 83 21 = nI v ∧ τ.1 84 = υ.1 84) ∧ ((¬ isN b L (plc b L t) ∨ ∃ v, isN b L (plc b L t) ∧ nvF b (plc b L t) (ru b L (plc b L t) - plc b L t) = nI v ∧ v < 10000 ∧ hi < v) → ∃ τ, f_X12_number υ (nI hi) = some τ ∧ MD b L υ0 τ t) := by
  have hple := plc_le b L t
  have hrr : plc b L t ≤ rr b L (plc b L t) ∧ rr b L (plc b L t) ≤ L := by
    unfold rr
    by_cases c : plc b L t < L
    · rw [if_pos c]
      have := ru_spec (b := b) c
      omega
    · rw [if_neg c]
      omega
  have hby := m_by hM hL hs
  have h5 : (nI (rr b L (plc b L t)) - nI (plc b L t) < 5) ↔ rr b L (plc b L t) - plc b L t < 5 := by
    rw [pk_sub hrr.1]
    exact nn_lt (b := 5) (by omega) (by omega)
  have hN : isN b L (plc b L t) ↔ (iD (byV b L (plc b L t)) = true ∧ rr b L (plc b L t) - plc b L t < 5) := by
    unfold isN rr
    by_cases c : plc b L t < L
    · rw [if_pos c, byV_b c]
      exact ⟨fun g => g.2, fun g => ⟨c, g⟩⟩
    · rw [(byV_L (b := b) c).2.1]
      exact ⟨fun g => absurd g.1 c, fun g => absurd g.1 (by decide)⟩
  have o21 : ∀ x : Int32, ∀ q j, ¬ (q = 83 ∧ j = 21) → (sI υ 83 21 x).1 q j = υ.1 q j := fun x q j g => by
    rw [sI_r]
    by_cases e : q = 83
    · rw [if_pos e, if_neg (fun e2 => g ⟨e, e2⟩), e]
    · rw [if_neg e]
  -- a number
  have yes : isN b L (plc b L t) → ∃ ψ, f_X12_number υ (nI hi) = fj_X12_number_82 ψ (nI hi) 1 ∧ ψ.1 83 21 = nvF b (plc b L t) (ru b L (plc b L t) - plc b L t) ∧ ∀ q j, ¬ (q = 83 ∧ j = 21) → ψ.1 q j = υ.1 q j := fun hn => by
    obtain ⟨g1, g2⟩ := hN.mp hn
    obtain ⟨ψ, e1, e2, e3⟩ := m_numR hM hL hs (nI hi) hn.1
    refine ⟨ψ, ?_, e2, e3⟩
    unfold f_X12_number fj_X12_number_32
    rw [hby, bd_some, m_isD, bd_some, if_pos g1, if_neg (by decide), hs.2.1, hs.1, if_pos (h5.mpr g2), pt_eq, o21 0 83 19 (by omega), hs.1]
    exact e1
  have no : ¬ isN b L (plc b L t) → ∃ τ, f_X12_number υ (nI hi) = some τ ∧ MD b L υ0 τ t := fun hn => by
    have hs2 := MS_ch (o21 0) hs
    obtain ⟨τ, d1, d2⟩ := m_fail0 hs2
    have e99 : fj_X12_number_99 (sI υ 83 21 0) = some τ := by
      unfold fj_X12_number_99 fj_X12_number_100
      rw [d1, bd_some]
    have e31 : fj_X12_number_31 υ (nI hi) = some τ := by
      unfold fj_X12_number_31 fj_X12_number_32 fl_X12_number_43
      rw [pt_eq, nF_eq, show (4000 : Nat) = 3999 + 1 from rfl, lp_s]
      simp only [fb_X12_number_43, fj_X12_number_82, if_true, e99, ite_self]
    refine ⟨τ, ?_, d2⟩
    unfold f_X12_number
    rw [hby, bd_some, m_isD, bd_some]
    by_cases c : iD (byV b L (plc b L t)) = true
    · rw [if_pos c, if_neg (by decide), hs.2.1, hs.1, if_neg (mt h5.mp (fun g => hn (hN.mpr ⟨c, g⟩))), e31]
    · rw [if_neg c, if_pos rfl, e31]
  refine ⟨fun v hn hv hv1 hv2 => ?_, fun h => ?_⟩
  · obtain ⟨ψ, e1, e2, e3⟩ := yes hn
    obtain ⟨τ, d1, d2, d3⟩ := ms_next hM hL (MS_ch e3 hs) hn.1
    refine ⟨τ, ?_, d2, by rw [d3 83 21 (by omega), e2, hv], funext fun k => by rw [d3 84 k (by omega), e3 84 k (by omega)]⟩
    rw [e1]
    unfold fj_X12_number_82 fj_X12_number_100
    rw [if_neg (by decide), e2, hv, if_neg (mt (nn_lt (by omega) (by omega)).mp (by omega)), d1, bd_some]
  · rcases h with h | ⟨v, hn, hv, hv1, hv2⟩
    · exact no h
    · obtain ⟨ψ, e1, e2, e3⟩ := yes hn
      obtain ⟨τ, d1, d2⟩ := m_fail0 (MS_ch e3 hs)
      refine ⟨τ, ?_, d2⟩
      rw [e1]
      unfold fj_X12_number_82 fj_X12_number_99 fj_X12_number_100
      rw [if_neg (by decide), e2, hv, if_pos ((nn_lt (by omega) (by omega)).mpr hv2), d1, bd_some]
def fcv (x : Nat) : Int32 := if x = 14 then -1 else if x = 15 then -2 else if x = 16 then -3 else if x = 17 then -4 else if x = 18 then -5 else 0
theorem m_factH {b : Nat → Int32} {L : Nat} {υ0 υ : sS} {t m o : Nat} (hM : MT υ0 b L) (hL : L ≤ 200) (hb : ∀ k, k < L → bt (b k) 0 255) (hs : MS b L υ0 υ t m o) {x : Nat} (hx : x < 11000) (ht : tkn b L (plc b L t) = nI x) : f_X12_factHere υ = some (fcv x) := by
  obtain ⟨w, h1, h2⟩ := m_wd hM hL hb hs
  have k : ∀ i, i < 19 → (lg_cmp w (lN (WC i)) = 0 ↔ x = i) := fun i hi => by
    rw [h2 i hi, ht]
    exact nI_eq (by omega) (by omega)
  have k14 : lg_cmp w 12769452 = 0 ↔ x = 14 := k 14 (by omega)
  have k15 : lg_cmp w 3737035 = 0 ↔ x = 15 := k 15 (by omega)
  have k16 : lg_cmp w 17040997 = 0 ↔ x = 16 := k 16 (by omega)
  have k17 : lg_cmp w 17376357 = 0 ↔ x = 17 := k 17 (by omega)
  have k18 : lg_cmp w 492210354 = 0 ↔ x = 18 := k 18 (by omega)
  unfold f_X12_factHere fcv
  rw [h1, bd_some]
  simp only [k14, k15, k16, k17, k18]
  split
  · rfl
  split
  · rfl
  split
  · rfl
  split
  · rfl
  split
  · rfl
  rfl
theorem d_factH {b : Nat → Int32} {L : Nat} {υ0 υ : sS} {t : Nat} (hM : MT υ0 b L) (hL : L ≤ 200) (hb : ∀ k, k < L → bt (b k) 0 255) (hs : MD b L υ0 υ t) : f_X12_factHere υ = some 0 := by
  obtain ⟨w, h1, k⟩ := d_wd hM hL hb hs
  have k14 : ¬ lg_cmp w 12769452 = 0 := k 14 (by omega)
  have k15 : ¬ lg_cmp w 3737035 = 0 := k 15 (by omega)
  have k16 : ¬ lg_cmp w 17040997 = 0 := k 16 (by omega)
  have k17 : ¬ lg_cmp w 17376357 = 0 := k 17 (by omega)
  have k18 : ¬ lg_cmp w 492210354 = 0 := k 18 (by omega)
  unfold f_X12_factHere
  rw [h1, bd_some, if_neg k14, if_neg k15, if_neg k16, if_neg k17, if_neg k18]
theorem d_value {b : Nat → Int32} {L : Nat} {υ0 υ : sS} {t : Nat} (hM : MT υ0 b L) (hL : L ≤ 200) (hb : ∀ k, k < L → bt (b k) 0 255) (hs : MD b L υ0 υ t) : f_X12_valueHere υ = some υ := by
  unfold f_X12_valueHere
  rw [d_factH hM hL hb hs, bd_some, if_neg (by decide), if_neg (MD_ne hs)]
theorem nI_neg {v : Nat} (h : v < 10000) : ¬ nI v = -1 ∧ ¬ nI v = -2 ∧ ¬ nI v = -3 ∧ ¬ nI v = -4 ∧ ¬ nI v = -5 ∧ -10 < nI v := by
  have e : (nI v).toInt = v := nI_toInt (by omega)
  refine ⟨fun g => ?_, fun g => ?_, fun g => ?_, fun g => ?_, fun g => ?_, i32_lt.mpr ?_⟩
  · rw [g] at e; have : (-1 : Int32).toInt = -1 := rfl; omega
  · rw [g] at e; have : (-2 : Int32).toInt = -2 := rfl; omega
  · rw [g] at e; have : (-3 : Int32).toInt = -3 := rfl; omega
  · rw [g] at e; have : (-4 : Int32).toInt = -4 := rfl; omega
  · rw [g] at e; have : (-5 : Int32).toInt = -5 := rfl; omega
  · rw [e]; have : (-10 : Int32).toInt = -10 := rfl; omega
theorem val_num {v : Nat} (h : v < 10000) (f : Nat → Int32) : cVal (nI v) f = mFact (nI v) f := by
  obtain ⟨h1, h2, h3, h4, h5, _⟩ := nI_neg h
  have : nI v < 10000 := (nn_lt (a := v) (b := 10000) (by omega) (by omega)).mpr h
  unfold cVal mFact
  rw [if_neg (fun g => g.1 this), if_neg h1, if_neg h2, if_neg h3, if_neg h4, if_neg h5]
theorem val_fact {x : Nat} (h1 : 14 ≤ x) (h2 : x ≤ 18) : (∀ f : Nat → Int32, cVal (nI (9986 + x)) f = mFact (fcv x) f) ∧ -10 < fcv x ∧ fcv x < 0 := by
  have : x = 14 ∨ x = 15 ∨ x = 16 ∨ x = 17 ∨ x = 18 := by omega
  rcases this with e | e | e | e | e <;> subst e <;> exact ⟨fun f => rfl, by decide, by decide⟩
theorem x_value {b : Nat → Int32} {L N r : Nat} {σ0 σ : sS} {t c : Nat} (hB : CB b L N r σ0) (hs : CS N r σ0 σ t c) {x : Nat} (hx : x < 11000) (ht : tkn b L (plc b L t) = nI x) : f_X6_valueHere σ = some (if x < 1000 then (if x < 14 ∨ 18 < x then -3 else nI (9986 + x)) else nI (x - 1000)) := by
  obtain ⟨k1, k2, k3, k4⟩ := cb_tk hB hs
  have s1 := hs.1
  have a1 : nI x < (1000 : Int32) ↔ x < 1000 := nn_lt (a := x) (b := 1000) (by omega) (by omega)
  have a2 : nI x < (14 : Int32) ↔ x < 14 := nn_lt (a := x) (b := 14) (by omega) (by omega)
  have a3 : (18 : Int32) < nI x ↔ 18 < x := nn_lt (a := 18) (b := x) (by omega) (by omega)
  unfold f_X6_valueHere
  simp only [hs.2.1, grd_of (sIn_nI (show t < 201 by omega) (show 201 < 2 ^ 31 by omega)), nI_clamp (show t < 2 ^ 31 by omega), k1, ht, pt_eq]
  by_cases c1 : x < 1000
  · rw [if_pos (a1.mpr c1), if_pos c1]
    by_cases c2 : x < 14
    · rw [if_pos (a2.mpr c2), if_pos (Or.inl c2)]
    · rw [if_neg (mt a2.mp c2)]
      by_cases c3 : 18 < x
      · rw [if_pos (a3.mpr c3), if_pos (Or.inr c3)]
      · rw [if_neg (mt a3.mp c3), if_neg (by omega), show (10000 : Int32) = nI 10000 from rfl, nI_add, show (14 : Int32) = nI 14 from rfl, pk_sub (by omega), show 10000 + x - 14 = 9986 + x by omega]
  · rw [if_neg (mt a1.mp c1), if_neg c1, show (1000 : Int32) = nI 1000 from rfl, pk_sub (by omega)]
theorem val_sim {b : Nat → Int32} {L N r : Nat} {σ0 υ0 σ υ : sS} {t c m o : Nat} (hB : CB b L N r σ0) (hM : MT υ0 b L) (hs : CS N r σ0 σ t c) (hm : MS b L υ0 υ t m o) (hle : m ≤ plc b L t) : (∃ vc vm τ, f_X6_valueHere σ = some (nI vc) ∧ vc < 16384 ∧ t < N ∧ f_X12_valueHere υ = some τ ∧ MS b L υ0 τ (t + 1) (m + 1) o ∧ τ.1 84 (116 + m) = vm ∧ (∀ k, k ≠ 116 + m → τ.1 84 k = υ.1 84 k) ∧ -10 < vm ∧ ∀ f, cVal (nI vc) f = mFact vm f) ∨ (f_X6_valueHere σ = some (-3) ∧ ∃ τ, f_X12_valueHere υ = some τ ∧ MD b L υ0 τ t) := by
  have hb := hB.2.2.2.2.2.2.2
  have hL := hB.2.2.1
  obtain ⟨x, hx, ht⟩ := tkn_val (b := b) (L := L) (p := plc b L t) hb
  have hxv := x_value hB hs hx ht
  have hf := m_factH hM hL hb hm hx ht
  obtain ⟨n1, n2⟩ := tkn_num (b := b) (L := L) (p := plc b L t) hb
  obtain ⟨N1, N2⟩ := m_number hM hL hm (hi := 9999) (by omega)
  by_cases cn : isN b L (plc b L t)
  · obtain ⟨v, hv1, hv2, hv3⟩ := n1 cn
    have ex : x = 1000 + v := nI_inj (by omega) (by omega) (ht.symm.trans hv3)
    obtain ⟨τ, d1, d2, d3, d4⟩ := N1 v cn hv2 hv1 (by omega)
    obtain ⟨τ2, w1, w2, w3, w4⟩ := m_writes d2 (by have := cn.1; omega) (nI v)
    refine Or.inl ⟨v, nI v, τ2, by rw [hxv, if_neg (by omega), show x - 1000 = v by omega], by omega, (cb_lt hB hs.1).mp cn.1, ?_, w2, w3, fun k hk => by rw [w4 k hk, d4], (nI_neg hv1).2.2.2.2.2, val_num hv1⟩
    unfold f_X12_valueHere
    rw [hf, bd_some, show fcv x = 0 by unfold fcv; rw [if_neg (by omega), if_neg (by omega), if_neg (by omega), if_neg (by omega), if_neg (by omega)], if_neg (by decide), if_pos hm.2.2.1, show (9999 : Int32) = nI 9999 from rfl, d1, bd_some, d3, w1, bd_some]
  · obtain ⟨y, hy, ey⟩ := n2 cn
    have exy : x = y := nI_inj (by omega) (by omega) (ht.symm.trans ey)
    by_cases c : x < 14 ∨ 18 < x
    · obtain ⟨τ, d1, d2⟩ := N2 (Or.inl cn)
      refine Or.inr ⟨by rw [hxv, if_pos (by omega), if_pos c], τ, ?_, d2⟩
      unfold f_X12_valueHere
      rw [hf, bd_some, show fcv x = 0 by unfold fcv; rw [if_neg (by omega), if_neg (by omega), if_neg (by omega), if_neg (by omega), if_neg (by omega)], if_neg (by decide), if_pos hm.2.2.1, show (9999 : Int32) = nI 9999 from rfl, d1, bd_some, d_writes d2, bd_some]
    · obtain ⟨g1, g2, g3⟩ := val_fact (x := x) (by omega) (by omega)
      have hpl : plc b L t < L := ((tkn_name hb (show x < 19 by omega)).mp ht).1
      obtain ⟨τ, d1, d2, d3⟩ := ms_next hM hL hm hpl
      obtain ⟨τ2, w1, w2, w3, w4⟩ := m_writes d2 (by omega) (fcv x)
      refine Or.inl ⟨9986 + x, fcv x, τ2, by rw [hxv, if_pos (by omega), if_neg c], by omega, (cb_lt hB hs.1).mp hpl, ?_, w2, w3, fun k hk => by rw [w4 k hk, d3 84 k (by omega)], g2, g1⟩
      unfold f_X12_valueHere
      rw [hf, bd_some, if_pos g3, d1, bd_some, w1, bd_some]
