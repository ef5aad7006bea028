/-! THE RULES: both parsers step by step -/
def CB (b : Nat → Int32) (L N r : Nat) (σ0 : sS) : Prop := σ0.1 45 5 = nI N ∧ N ≤ L ∧ L ≤ 200 ∧ (∀ t, t < N → plc b L t < L) ∧ plc b L N = L ∧ (∀ t, t ≤ N → σ0.1 53 t = tkn b L (plc b L t)) ∧ (σ0.1 46 5 = nI r ∧ r < 8) ∧ (∀ k, k < L → bt (b k) 0 255)
def CS (N r : Nat) (σ0 σ : sS) (t c : Nat) : Prop := t ≤ N ∧ σ.1 45 6 = nI t ∧ σ.1 50 (r + 1) = nI c ∧ ∀ q j, ¬ (q = 45 ∧ j = 6) → ¬ (q = 50 ∧ j = r + 1) → q ≠ 51 → σ.1 q j = σ0.1 q j
def FM (υ0 υ : sS) : Prop := ∀ q j, ¬ (q = 83 ∧ 19 ≤ j ∧ j ≤ 24) → ¬ (q = 84 ∧ 116 ≤ j) → υ.1 q j = υ0.1 q j
def MS (b : Nat → Int32) (L : Nat) (υ0 υ : sS) (t m o : Nat) : Prop := υ.1 83 19 = nI (plc b L t) ∧ υ.1 83 20 = nI (rr b L (plc b L t)) ∧ υ.1 83 24 = 0 ∧ υ.1 83 23 = nI m ∧ υ.1 83 22 = nI o ∧ FM υ0 υ
def MD (b : Nat → Int32) (L : Nat) (υ0 υ : sS) (t : Nat) : Prop := υ.1 83 19 = nI (plc b L t) ∧ υ.1 83 20 = nI (rr b L (plc b L t)) ∧ υ.1 83 24 = 1 ∧ FM υ0 υ
theorem MT_FM {υ0 υ : sS} {b : Nat → Int32} {L : Nat} (h : MT υ0 b L) (hF : FM υ0 υ) : MT υ b L := ⟨by rw [hF 83 18 (by omega) (by omega)]; exact h.1, fun k hk => by rw [hF 97 k (by omega) (by omega)]; exact h.2 k hk⟩
theorem FM_sI {υ0 υ : sS} {q j : Nat} {v : Int32} (h : FM υ0 υ) (hq : (q = 83 ∧ 19 ≤ j ∧ j ≤ 24) ∨ (q = 84 ∧ 116 ≤ j)) : FM υ0 (sI υ q j v) := fun x y h1 h2 => by
  rw [sI_r]
  by_cases e : x = q
  · rw [if_pos e, if_neg (fun e2 => by omega), ← e]
    exact h x y h1 h2
  · rw [if_neg e]
    exact h x y h1 h2
theorem FM_tr {υ0 υ υ1 : sS} (h : FM υ0 υ) (h1 : ∀ q j, ¬ (q = 83 ∧ 19 ≤ j ∧ j ≤ 24) → ¬ (q = 84 ∧ 116 ≤ j) → υ1.1 q j = υ.1 q j) : FM υ0 υ1 := fun q j a c => (h1 q j a c).trans (h q j a c)
theorem cb_lt {b : Nat → Int32} {L N r : Nat} {σ0 : sS} (h : CB b L N r σ0) {t : Nat} (ht : t ≤ N) : plc b L t < L ↔ t < N := by
  obtain ⟨_, _, _, h4, h5, _⟩ := h
  constructor
  · intro g
    by_cases e : t = N
    · rw [e, h5] at g
      exact absurd g (Nat.lt_irrefl _)
    · omega
  · exact h4 t
theorem cb_tk {b : Nat → Int32} {L N r : Nat} {σ0 σ : sS} {t c : Nat} (h : CB b L N r σ0) (hs : CS N r σ0 σ t c) : σ.1 53 t = tkn b L (plc b L t) ∧ σ.1 45 5 = nI N ∧ σ.1 46 5 = nI r ∧ N ≤ 200 := by
  obtain ⟨h1, h2, h3, h4, h5, h6, h7, h8⟩ := h
  obtain ⟨s1, s2, s3, s4⟩ := hs
  exact ⟨by rw [s4 53 t (by omega) (by omega) (by omega)]; exact h6 t s1, by rw [s4 45 5 (by omega) (by omega) (by omega)]; exact h1, by rw [s4 46 5 (by omega) (by omega) (by omega)]; exact h7.1, by omega⟩
theorem tkn_val {b : Nat → Int32} {L p : Nat} (hb : ∀ k, k < L → bt (b k) 0 255) : ∃ x, x < 11000 ∧ tkn b L p = nI x := by
  obtain ⟨g1, g2⟩ := tkn_num (b := b) (L := L) (p := p) hb
  by_cases c : p < L ∧ iD (b p) = true ∧ ru b L p - p < 5
  · obtain ⟨v, hv, _, e⟩ := g1 c
    exact ⟨1000 + v, by omega, e⟩
  · obtain ⟨x, hx, e⟩ := g2 c
    exact ⟨x, by omega, e⟩
theorem tkn_end {b : Nat → Int32} {L p : Nat} (h : ¬ p < L) : tkn b L p = nI 51 := by unfold tkn; rw [if_neg h]; rfl
/-- the class goes on by one token -/
theorem CS_next {b : Nat → Int32} {L N r : Nat} {σ0 σ : sS} {t c : Nat} (hB : CB b L N r σ0) (hs : CS N r σ0 σ t c) (ht : t < N) : sI σ 45 6 ((σ.1 45 6) + 1) = sI σ 45 6 (nI (t + 1)) ∧ CS N r σ0 (sI σ 45 6 (nI (t + 1))) (t + 1) c ∧ (sI σ 45 6 (nI (t + 1))).1 51 = σ.1 51 := by
  obtain ⟨s1, s2, s3, s4⟩ := hs
  refine ⟨by rw [s2, nI_1], ⟨by omega, sI_same _ _ _ _, by rw [sI_off _ _ _ _ (by omega)]; exact s3, fun q j h1 h2 h3 => ?_⟩, sI_off _ _ _ _ (by omega)⟩
  rw [sI_r]
  by_cases e : q = 45
  · rw [if_pos e, if_neg (fun e2 => h1 ⟨e, e2⟩), ← e]
    exact s4 q j h1 h2 h3
  · rw [if_neg e]
    exact s4 q j h1 h2 h3
theorem x_passes {b : Nat → Int32} {L N r : Nat} {σ0 σ : sS} {t c : Nat} (hB : CB b L N r σ0) (hs : CS N r σ0 σ t c) {x : Nat} (hx : x < 11000) (hx51 : x ≠ 51) : (tkn b L (plc b L t) = nI x ∧ t < N ∧ f_X6_passes σ (nI x) = some (1, sI σ 45 6 (nI (t + 1)))) ∨ (¬ tkn b L (plc b L t) = nI x ∧ f_X6_passes σ (nI x) = some (0, σ)) := by
  obtain ⟨k1, k2, k3, k4⟩ := cb_tk hB hs
  have s1 := hs.1
  have s2 := hs.2.1
  have hlt : nI t < nI N ↔ t < N := nn_lt (by omega) (by omega)
  unfold f_X6_passes
  rw [s2, k2]
  by_cases ht : t < N
  · rw [if_pos (hlt.mpr ht), grd_of (sIn_nI (show t < 201 by omega) (by omega)), nI_clamp (by omega), k1]
    by_cases e : tkn b L (plc b L t) = nI x
    · rw [if_pos e, pt_eq, nI_1]
      exact Or.inl ⟨e, ht, rfl⟩
    · rw [if_neg e]
      exact Or.inr ⟨e, rfl⟩
  · rw [if_neg (mt hlt.mp ht)]
    refine Or.inr ⟨fun e => ?_, rfl⟩
    rw [tkn_end (mt (cb_lt hB s1).mp ht)] at e
    exact hx51 (nI_inj (by omega) (by omega) e).symm
theorem x_emit {N r : Nat} {σ0 σ : sS} {t c : Nat} (h46 : σ.1 46 5 = nI r) (hr : r < 8) (hs : CS N r σ0 σ t c) (hc : c < 100) (x : Int32) : ∃ τ, f_X5_emit σ x = some τ ∧ CS N r σ0 τ t (c + 1) ∧ τ.1 51 c = x ∧ ∀ k, k ≠ c → τ.1 51 k = σ.1 51 k := by
  obtain ⟨s1, s2, s3, s4⟩ := hs
  have hin := sIn_nI (show r + 1 < 9 by omega) (show 9 < 2 ^ 31 by omega)
  have hlt : nI c < (100 : Int32) := (nn_lt (a := c) (b := 100) (by omega) (by omega)).mpr hc
  refine ⟨sI (sI σ 51 c x) 50 (r + 1) (nI (c + 1)), ?_, ⟨s1, ?_, sI_same _ _ _ _, fun q j h1 h2 h3 => ?_⟩, ?_, fun k hk => ?_⟩
  · unfold f_X5_emit
    have o1 : (sI σ 51 c x).1 46 5 = nI r := by rw [sI_off _ _ _ _ (by omega)]; exact h46
    rw [h46, nI_1, grd_of hin, nI_clamp (by omega), s3, pt_eq, if_pos hlt, grd_of (sIn_nI hc (by omega)), nI_clamp (by omega), pt_eq, o1, nI_1, grd_of hin, nI_clamp (by omega), pt_eq, nI_1]
  · rw [sI_off _ _ _ _ (by omega), sI_off _ _ _ _ (by omega)]
    exact s2
  · rw [sI_r]
    by_cases e : q = 50
    · rw [if_pos e, if_neg (fun e2 => h2 ⟨e, e2⟩), ← e, sI_off _ _ _ _ h3]
      exact s4 q j h1 h2 h3
    · rw [if_neg e, sI_off _ _ _ _ h3]
      exact s4 q j h1 h2 h3
  · rw [sI_off _ _ _ _ (by omega), sI_same]
  · rw [sI_off _ _ _ _ (by omega), sI_r, if_pos rfl, if_neg hk]
/-! the model's steps -/
theorem ms_next {b : Nat → Int32} {L : Nat} {υ0 υ : sS} {t m o : Nat} (hM : MT υ0 b L) (hL : L ≤ 200) (hs : MS b L υ0 υ t m o) (hp : plc b L t < L) : ∃ τ, f_X12_needs υ 1 = some τ ∧ MS b L υ0 τ (t + 1) m o ∧ ∀ q j, ¬ (q = 83 ∧ (j = 19 ∨ j = 20 ∨ j = 24)) → τ.1 q j = υ.1 q j := by
  obtain ⟨h1, h2, h3, h4, h5, h6⟩ := hs
  have hF1 : FM υ0 (sI υ 83 24 0) := FM_sI h6 (Or.inl (by omega))
  have hrr : rr b L (plc b L t) = ru b L (plc b L t) := by unfold rr; rw [if_pos hp]
  have hru := ru_spec (b := b) hp
  obtain ⟨τ, e1, e2, e3, e4⟩ := m_token (υ := sI υ 83 24 0) (b := b) (L := L) (T := ru b L (plc b L t)) (MT_FM hM hF1) hL hru.2.1 (by rw [sI_r, if_pos rfl, if_neg (by omega), h2, hrr])
  have ep : plc b L (t + 1) = sk b L (ru b L (plc b L t)) := (plc_next hp).1
  rw [← ep] at e2 e3
  have hall : ∀ q j, ¬ (q = 83 ∧ (j = 19 ∨ j = 20 ∨ j = 24)) → τ.1 q j = υ.1 q j := fun q j h => by
    rw [e4 q j (by omega), sI_r]
    by_cases e : q = 83
    · rw [if_pos e, if_neg (by omega), e]
    · rw [if_neg e]
  refine ⟨τ, ?_, ⟨e2, e3, ?_, ?_, ?_, FM_tr h6 fun q j a1 a2 => hall q j (by omega)⟩, hall⟩
  · unfold f_X12_needs fj_X12_needs_17
    rw [if_pos h3, if_neg (by decide), grd_of (by rfl), pt_eq, if_pos (sI_same _ _ _ _), e1, bd_some]
  · rw [e4 83 24 (by omega), sI_same]
  · rw [hall 83 23 (by omega)]; exact h4
  · rw [hall 83 22 (by omega)]; exact h5
theorem m_fail {b : Nat → Int32} {L : Nat} {υ0 υ : sS} {t : Nat} (h1 : υ.1 83 19 = nI (plc b L t)) (h2 : υ.1 83 20 = nI (rr b L (plc b L t))) (h6 : FM υ0 υ) {x : Int32} (hx : x = 0 ∨ ¬ υ.1 83 24 = 0) : ∃ τ, f_X12_needs υ x = some τ ∧ MD b L υ0 τ t := by
  refine ⟨sI υ 83 24 1, ?_, ⟨?_, ?_, sI_same _ _ _ _, FM_sI h6 (Or.inl (by omega))⟩⟩
  · have e12 : fj_X12_needs_12 υ = some (sI υ 83 24 1) := by
      unfold fj_X12_needs_12 fj_X12_needs_17
      rw [grd_of (by rfl), pt_eq, if_neg (by rw [sI_same]; decide)]
    unfold f_X12_needs
    by_cases c : υ.1 83 24 = 0
    · rcases hx with e | e
      · rw [if_pos c, if_pos e, e12]
      · exact absurd c e
    · rw [if_neg c, e12]
  · rw [sI_r, if_pos rfl, if_neg (by omega)]; exact h1
  · rw [sI_r, if_pos rfl, if_neg (by omega)]; exact h2
theorem m_fail0 {b : Nat → Int32} {L : Nat} {υ0 υ : sS} {t m o : Nat} (hs : MS b L υ0 υ t m o) : ∃ τ, f_X12_needs υ 0 = some τ ∧ MD b L υ0 τ t := m_fail hs.1 hs.2.1 hs.2.2.2.2.2 (Or.inl rfl)
theorem MD_ne {b : Nat → Int32} {L : Nat} {υ0 υ : sS} {t : Nat} (h : MD b L υ0 υ t) : ¬ υ.1 83 24 = 0 := by rw [h.2.2.1]; decide
theorem d_needs {b : Nat → Int32} {L : Nat} {υ0 υ : sS} {t : Nat} (h : MD b L υ0 υ t) (x : Int32) : ∃ τ, f_X12_needs υ x = some τ ∧ MD b L υ0 τ t := m_fail h.1 h.2.1 h.2.2.2 (Or.inr (MD_ne h))
theorem m_writes {b : Nat → Int32} {L : Nat} {υ0 υ : sS} {t m o : Nat} (hs : MS b L υ0 υ t m o) (hm : m < 200) (x : Int32) : ∃ τ, f_X12_writes υ x = some τ ∧ MS b L υ0 τ t (m + 1) o ∧ τ.1 84 (116 + m) = x ∧ (∀ k, k ≠ 116 + m → τ.1 84 k = υ.1 84 k) := by
  obtain ⟨h1, h2, h3, h4, h5, h6⟩ := hs
  have hadd : (116 : Int32) + nI m = nI (116 + m) := by rw [show (116 : Int32) = nI 116 from rfl, nI_add]
  have g : ∀ j, j ≠ 23 → (sI (sI υ 84 (116 + m) x) 83 23 (nI (m + 1))).1 83 j = υ.1 83 j := fun j hj => by
    rw [sI_r, if_pos rfl, if_neg hj, sI_off _ _ _ _ (by omega)]
  refine ⟨sI (sI υ 84 (116 + m) x) 83 23 (nI (m + 1)), ?_, ⟨?_, ?_, ?_, sI_same _ _ _ _, ?_, FM_sI (FM_sI h6 (Or.inr (by omega))) (Or.inl (by omega))⟩, ?_, fun k hk => ?_⟩
  · unfold f_X12_writes
    rw [if_pos h3, h4, hadd, grd_of (sIn_nI (show 116 + m < 316 by omega) (by omega)), nI_clamp (by omega), pt_eq, sI_off _ _ _ _ (show 83 ≠ 84 by omega), h4, nI_1, pt_eq]
  · rw [g 19 (by omega)]; exact h1
  · rw [g 20 (by omega)]; exact h2
  · rw [g 24 (by omega)]; exact h3
  · rw [g 22 (by omega)]; exact h5
  · rw [sI_off _ _ _ _ (by omega), sI_same]
  · rw [sI_off _ _ _ _ (by omega), sI_r, if_pos rfl, if_neg hk]
theorem d_writes {b : Nat → Int32} {L : Nat} {υ0 υ : sS} {t : Nat} (h : MD b L υ0 υ t) (x : Int32) : f_X12_writes υ x = some υ := by
  unfold f_X12_writes
  rw [if_neg (MD_ne h)]
theorem m_wd {b : Nat → Int32} {L : Nat} {υ0 υ : sS} {t m o : Nat} (hM : MT υ0 b L) (hL : L ≤ 200) (hb : ∀ k, k < L → bt (b k) 0 255) (hs : MS b L υ0 υ t m o) : ∃ w, f_X12_word υ = some w ∧ ∀ i, i < 19 → (lg_cmp w (lN (WC i)) = 0 ↔ tkn b L (plc b L t) = nI i) := by
  obtain ⟨w, h1, h2⟩ := m_word (MT_FM hM hs.2.2.2.2.2) hL hb (plc_le b L t) hs.1 hs.2.1
  exact ⟨w, h1, fun i hi => by rw [h2 i hi]; exact ⟨fun g => g.2, fun g => ⟨hs.2.2.1, g⟩⟩⟩
theorem d_wd {b : Nat → Int32} {L : Nat} {υ0 υ : sS} {t : Nat} (hM : MT υ0 b L) (hL : L ≤ 200) (hb : ∀ k, k < L → bt (b k) 0 255) (hs : MD b L υ0 υ t) : ∃ w, f_X12_word υ = some w ∧ ∀ i, i < 19 → ¬ lg_cmp w (lN (WC i)) = 0 := by
  obtain ⟨w, h1, h2⟩ := m_word (MT_FM hM hs.2.2.2) hL hb (plc_le b L t) hs.1 hs.2.1
  exact ⟨w, h1, fun i hi g => MD_ne hs ((h2 i hi).mp g).1⟩
theorem m_by {b : Nat → Int32} {L : Nat} {υ0 υ : sS} {t m o : Nat} (hM : MT υ0 b L) (hL : L ≤ 200) (hs : MS b L υ0 υ t m o) : f_X12_byteAt υ (υ.1 83 19) = some (byV b L (plc b L t)) := by
  have := plc_le b L t
  rw [hs.1]
  exact m_byteAt (MT_FM hM hs.2.2.2.2.2) hL (by omega)
theorem by_tk {b : Nat → Int32} {L p c : Nat} (hb : ∀ k, k < L → bt (b k) 0 255) (hc1 : iL (nI c) = false) (hc2 : iD (nI c) = false) (hc : c < 256) : byV b L p = nI c ↔ tkn b L p = nI (100 + c) := by
  rw [tkn_byte hb hc1 hc2 hc]
  unfold byV
  by_cases h : p < L
  · rw [if_pos h]
    exact ⟨fun e => ⟨h, e⟩, fun e => e.2⟩
  · rw [if_neg h]
    refine ⟨fun e => ?_, fun e => absurd e.1 h⟩
    have : (nI c).toInt = c := nI_toInt (by omega)
    rw [← e] at this
    have h1 : (-1 : Int32).toInt = -1 := rfl
    omega
/-- two bytes at the least -/
theorem tk_two {b : Nat → Int32} {L t i : Nat} (hb : ∀ k, k < L → bt (b k) 0 255) (hi : i < 19) (hw : 26 < WC i) (h : tkn b L (plc b L t) = nI i) : plc b L t < L ∧ plc b L t + 2 ≤ plc b L (t + 1) := by
  obtain ⟨h1, h2, h3⟩ := (tkn_name hb hi).mp h
  have hn := plc_next h1
  refine ⟨h1, ?_⟩
  by_cases c : ru b L (plc b L t) - plc b L t = 1
  · rw [c] at h3
    have hl := iL_lv h2
    have e1 : wF b (plc b L t) 1 = lv b (plc b L t) := by
      show (if wM < 0 then 0 else 32 * 0 + lv b (plc b L t + 0)) = _
      rw [if_neg (by omega)]
      show 32 * 0 + lv b (plc b L t) = _
      omega
    omega
  · omega
theorem plc_up {b : Nat → Int32} {L t : Nat} (h : plc b L t < L) : plc b L t + 1 ≤ plc b L (t + 1) := by
  have := plc_next h
  omega
