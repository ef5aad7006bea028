/-! feed() -/
theorem feedloop {qc jc qr : Nat} (hne : qc ≠ qr) {val : Int64 → Int32 → Int32} {body : (sS × Int64 × Int32 × Int32 → Option (Int32 × sS)) → sS × Int64 × Int32 × Int32 → Option (Int32 × sS)} {F : sS → Option (Int32 × sS)} (hb : ∀ back τ x1 x3 x4, body back (τ, x1, x3, x4) = (if x4 < x3 then grd (sIn (τ.1 qc jc) 200) (pt (sI τ qr (τ.1 qc jc).toNatClampNeg (val x1 x4)) fun σ3 => pt (sI σ3 qc jc ((σ3.1 qc jc) + 1)) fun σ6 => back (σ6, x1, x3, (x4 + 1))) else F τ)) (σ : sS) (x1 : Int64) {m n : Nat} (hm : m ≤ 8) (hn : n + m ≤ 200) (h0 : σ.1 qc jc = nI n) : ∃ τ, lp body nF (σ, x1, nI m, 0) = F τ ∧ (∀ q, q ≠ qc → q ≠ qr → τ.1 q = σ.1 q) ∧ (∀ j, j ≠ jc → τ.1 qc j = σ.1 qc j) ∧ τ.1 qc jc = nI (n + m) ∧ (∀ k, k < n → τ.1 qr k = σ.1 qr k) ∧ ∀ j, j < m → τ.1 qr (n + j) = val x1 (nI j) := by
  refine lp_inv (body := body) (I := fun i p => p.2 = (x1, nI m, nI i) ∧ (∀ q, q ≠ qc → q ≠ qr → p.1.1 q = σ.1 q) ∧ (∀ j, j ≠ jc → p.1.1 qc j = σ.1 qc j) ∧ p.1.1 qc jc = nI (n + i) ∧ (∀ k, k < n → p.1.1 qr k = σ.1 qr k) ∧ ∀ j, j < i → p.1.1 qr (n + j) = val x1 (nI j)) (e := m) (P := fun r => ∃ τ, r = F τ ∧ (∀ q, q ≠ qc → q ≠ qr → τ.1 q = σ.1 q) ∧ (∀ j, j ≠ jc → τ.1 qc j = σ.1 qc j) ∧ τ.1 qc jc = nI (n + m) ∧ (∀ k, k < n → τ.1 qr k = σ.1 qr k) ∧ ∀ j, j < m → τ.1 qr (n + j) = val x1 (nI j)) ?_ ?_ nF 0 (σ, x1, nI m, 0) (by omega) (nF_big (by omega)) ⟨rfl, fun _ _ _ => rfl, fun _ _ => rfl, h0, fun _ _ => rfl, fun _ h => absurd h (Nat.not_lt_zero _)⟩
  · rintro i hi ⟨τ, y1, y3, y4⟩ ⟨hx, a1, a2, a3, a4, a5⟩ back
    have hx2 : (y1, y3, y4) = (x1, nI m, nI i) := hx
    injection hx2 with hy1 hy2
    injection hy2 with hy3 hy4
    subst hy1 hy3 hy4
    have a3' : τ.1 qc jc = nI (n + i) := a3
    have hlt : nI i < nI m := (nn_lt (by omega) (by omega)).mpr hi
    obtain ⟨τ1, h1⟩ : ∃ τ1, τ1 = sI τ qr (n + i) (val y1 (nI i)) := ⟨_, rfl⟩
    obtain ⟨τ2, h2⟩ : ∃ τ2, τ2 = sI τ1 qc jc (nI (n + (i + 1))) := ⟨_, rfl⟩
    have c1 : τ1.1 qc jc = nI (n + i) := by rw [h1, sI_off _ _ _ _ hne]; exact a3
    refine ⟨(τ2, y1, nI m, nI (i + 1)), ⟨rfl, fun q hq hq2 => ?_, fun j hj => ?_, ?_, fun k hk => ?_, fun j hj => ?_⟩, ?_⟩
    · show τ2.1 q = _
      rw [h2, sI_off _ _ _ _ hq, h1, sI_off _ _ _ _ hq2]
      exact a1 q hq hq2
    · show τ2.1 qc j = _
      rw [h2, sI_r, if_pos rfl, if_neg hj, h1, sI_off _ _ _ _ hne]
      exact a2 j hj
    · show τ2.1 qc jc = _
      rw [h2, sI_same]
    · show τ2.1 qr k = _
      rw [h2, sI_off _ _ _ _ (Ne.symm hne), h1, sI_r, if_pos rfl, if_neg (by omega)]
      exact a4 k hk
    · show τ2.1 qr (n + j) = _
      rw [h2, sI_off _ _ _ _ (Ne.symm hne), h1, sI_r, if_pos rfl]
      by_cases e : j = i
      · rw [if_pos (by omega), e]
      · rw [if_neg (by omega)]
        exact a5 j (by omega)
    · rw [hb, if_pos hlt, a3', grd_of (sIn_nI (show n + i < 200 by omega) (by omega)), pt_eq, nI_clamp (by omega), ← h1, pt_eq, c1, nI_1, show n + i + 1 = n + (i + 1) by omega, ← h2, nI_1]
  · rintro ⟨τ, y1, y3, y4⟩ ⟨hx, a1, a2, a3, a4, a5⟩ back
    have hx2 : (y1, y3, y4) = (x1, nI m, nI m) := hx
    injection hx2 with hy1 hy2
    injection hy2 with hy3 hy4
    subst hy1 hy3 hy4
    refine ⟨τ, ?_, a1, a2, a3, a4, a5⟩
    rw [hb, if_neg (fun h => Nat.lt_irrefl m ((nn_lt (by omega) (by omega)).mp h))]
/-- one byte of a code -/
def byt (x : Int64) (j : Int32) : Int32 := (x >>> (((8 : Int32) * j).toInt64 &&& 63)).toInt32 &&& 255
theorem byt_m (x : Int64) (j : Int32) : ((x >>> (((8 : Int32) * j).toInt64 &&& 63)) &&& 255).toInt32 = byt x j := by
  unfold byt
  rw [Int64.toInt32_and]
  rfl
theorem byt_bt (x : Int64) (j : Int32) : bt (byt x j) 0 255 := by
  unfold byt
  obtain ⟨y, hy⟩ : ∃ y : Int32, y = (x >>> (((8 : Int32) * j).toInt64 &&& 63)).toInt32 := ⟨_, rfl⟩
  rw [← hy]
  have h1 : (y &&& 255).toBitVec.toNat ≤ 255 := by
    rw [Int32.toBitVec_and, BitVec.toNat_and]
    exact Nat.and_le_right
  have h2 : (y &&& 255).toInt = ((y &&& 255).toBitVec.toNat : Int) := by
    show (y &&& 255).toBitVec.toInt = _
    rw [BitVec.toInt_eq_toNat_of_lt (by omega)]
  unfold bt
  rw [h2]
  omega
theorem op_feed (x : Int64) (k : Int32) : Op (fun σ => f_X11_feed σ x k) (fun σ => f_X12_feed σ x k) := by
  intro σ hR
  have hR0 := hR
  obtain ⟨⟨a, hv, hc, hm⟩, o1, ⟨n, ⟨hn, h50⟩, ht1, ht2, ht3⟩, o3, o4, o5, o6⟩ := hR
  have t1 : (1 : Int32).toInt = 1 := rfl
  have t8 : (8 : Int32).toInt = 8 := rfl
  have s1 : (1 : Int64).toInt = 1 := rfl
  have s8 : (8 : Int64).toInt = 8 := rfl
  by_cases ck : 1 ≤ k.toInt ∧ k.toInt ≤ 8
  rotate_left
  · exact ⟨-1, σ, σ, by simp only [f_X11_feed, x_within, t1, t8, bd_some, if_neg ck, if_true], by simp only [f_X12_feed, m_inI, s1, s8, bd_some, if_neg ck, if_true], hR0⟩
  obtain ⟨m, hm8, em⟩ := nI_of_bt (x := k) (n := 8) (by omega) (by omega) (by omega)
  have hadd : nI n + nI m = nI (n + m) := nI_add n m
  by_cases c2 : (200 : Int32) < nI (n + m)
  · refine ⟨-2, σ, σ, ?_, ?_, hR0⟩
    · simp only [f_X11_feed, x_within, t1, t8, bd_some, if_pos ck, z10, if_false]
      rw [em, ht1, hadd, if_pos c2]
    · simp only [f_X12_feed, m_inI, s1, s8, bd_some, if_pos ck, z10, if_false]
      rw [em, ht2, hadd, if_pos c2]
  have hle : n + m ≤ 200 := by
    have e : ((200 : Int32) < nI (n + m)) ↔ 200 < n + m := nn_lt (a := 200) (b := n + m) (by omega) (by omega)
    have := mt e.mpr c2
    omega
  obtain ⟨τ, e1, p1, p2, p3, p4, p5⟩ := feedloop (qc := 45) (jc := 1) (qr := 52) (by omega) (val := byt) (body := fb_X6_take_3) (F := fj_X6_take_46) (fun _ _ _ _ _ => rfl) σ x hm8 hle ht1
  have ht2' : τ.1 83 18 = nI n := by rw [p1 83 (by omega) (by omega)]; exact ht2
  obtain ⟨υ, e2, q1, q2, q3, q4, q5⟩ := feedloop (qc := 83) (jc := 18) (qr := 97) (by omega) (val := byt) (body := fb_X12_feed_32) (F := fj_X12_feed_75) (fun back τ x1 x3 x4 => by rw [← byt_m]; rfl) τ x hm8 hle ht2'
  have A : ∀ q, q ≠ 45 → q ≠ 52 → q ≠ 83 → q ≠ 97 → υ.1 q = σ.1 q := fun q h1 h2 h3 h4 => by rw [q1 q h3 h4, p1 q h1 h2]
  have A45 : ∀ j, j ≠ 1 → υ.1 45 j = σ.1 45 j := fun j hj => by rw [q1 45 (by omega) (by omega), p2 j hj]
  have A83 : ∀ j, j ≠ 18 → υ.1 83 j = σ.1 83 j := fun j hj => by rw [q2 j hj, p1 83 (by omega) (by omega)]
  refine ⟨nI (n + m), τ, υ, ?_, ?_, ⟨a, hv, cK_of (fun q j h => ?_) hc, mK_of (fun q j h => ?_) hm⟩, rKept_of (fun q j h => ?_) o1, ⟨n + m, ⟨hle, by rw [A 50 (by omega) (by omega) (by omega) (by omega)]; exact h50⟩, ?_, q3, fun i hi => ?_⟩, rRows_of (fun q j h => ?_) o3, rSheets_of (fun q j h => ?_) o4, rShelves_of (fun q j h => ?_) o5, rTrace_of (fun q j h => ?_) o6⟩
  · simp only [f_X11_feed, x_within, t1, t8, bd_some, if_pos ck, z10, if_false]
    rw [em, ht1, hadd, if_neg c2]
    unfold f_X6_take fl_X6_take_3
    rw [e1]
    unfold fj_X6_take_46
    rw [bd_some, p3]
  · simp only [f_X12_feed, m_inI, s1, s8, bd_some, if_pos ck, z10, if_false]
    rw [em, ht2', hadd, if_neg c2]
    unfold fl_X12_feed_32
    rw [e2]
    unfold fj_X12_feed_75
    rw [q3]
  · have := pCur_q h
    rw [A q (by omega) (by omega) (by omega) (by omega)]
  · have : q = 84 := by unfold pMod at h; simpa using h
    rw [A q (by omega) (by omega) (by omega) (by omega)]
  · rcases pKep_q h with ⟨h1, _⟩ | h1 | ⟨h1, h2⟩ | h1
    · rw [A q (by omega) (by omega) (by omega) (by omega)]
    · rcases Nat.lt_or_ge q 45 with h3 | h3
      · rw [A q (by omega) (by omega) (by omega) (by omega)]
      · omega
    · rw [h1, A83 j (by omega)]
    · rw [A q (by omega) (by omega) (by omega) (by omega)]
  · rw [q1 45 (by omega) (by omega)]
    exact p3
  · rw [q1 52 (by omega) (by omega)]
    by_cases h : i < n
    · rw [p4 i h, q4 i h, p1 97 (by omega) (by omega)]
      exact ht3 i h
    · obtain ⟨j, hj⟩ : ∃ j, i = n + j := ⟨i - n, by omega⟩
      rw [hj, p5 j (by omega), q5 j (by omega)]
      exact ⟨rfl, byt_bt _ _⟩
  · have : (q = 67 ∨ q = 68 ∨ q = 96) ∨ (q = 83 ∧ j = 16) := by unfold pRow at h; simp at h; omega
    rcases this with h1 | ⟨h1, h2⟩
    · rw [A q (by omega) (by omega) (by omega) (by omega)]
    · rw [h1, A83 j (by omega)]
  · have : (70 ≤ q ∧ q ≤ 76) ∨ (98 ≤ q ∧ q ≤ 100) := by unfold pShe at h; simpa using h
    rw [A q (by omega) (by omega) (by omega) (by omega)]
  · have : (78 ≤ q ∧ q ≤ 80) ∨ (101 ≤ q ∧ q ≤ 103) := by unfold pShf at h; simpa using h
    rw [A q (by omega) (by omega) (by omega) (by omega)]
  · have : (q = 81 ∨ q = 82 ∨ q = 104) ∨ (q = 83 ∧ j = 32) := by unfold pTra at h; simp at h; omega
    rcases this with h1 | ⟨h1, h2⟩
    · rw [A q (by omega) (by omega) (by omega) (by omega)]
    · rw [h1, A83 j (by omega)]
