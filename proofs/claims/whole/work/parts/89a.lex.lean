/-! THE TEXT: where tokens begin and end -/
def iL (x : Int32) : Bool := decide (97 ≤ x.toInt ∧ x.toInt ≤ 122)
def iD (x : Int32) : Bool := decide (48 ≤ x.toInt ∧ x.toInt ≤ 57)
theorem iL_n {x : Int32} (h : iL x = true) : iD x = false ∧ ¬ x = 32 := by
  unfold iL at h
  rw [decide_eq_true_eq] at h
  refine ⟨by unfold iD; rw [decide_eq_false (by omega)], fun e => ?_⟩
  rw [e] at h
  exact absurd h.1 (by decide)
theorem iD_n {x : Int32} (h : iD x = true) : iL x = false ∧ ¬ x = 32 := by
  unfold iD at h
  rw [decide_eq_true_eq] at h
  refine ⟨by unfold iL; rw [decide_eq_false (by omega)], fun e => ?_⟩
  rw [e] at h
  exact absurd h.1 (by decide)
/-- the first of which p doesn't hold, from T on; L if none -/
def stp1 (p : Nat → Bool) (L T : Nat) : Nat := match fst (fun k => !p k) (L - T) T with | some k => k | none => L
theorem stp1_spec {p : Nat → Bool} {L T : Nat} (h : T ≤ L) : T ≤ stp1 p L T ∧ stp1 p L T ≤ L ∧ (∀ k, T ≤ k → k < stp1 p L T → p k = true) ∧ (stp1 p L T < L → p (stp1 p L T) = false) := by
  unfold stp1
  cases hf : fst (fun k => !p k) (L - T) T with
  | none =>
    refine ⟨h, Nat.le_refl _, fun k h1 h2 => ?_, fun h2 => absurd h2 (Nat.lt_irrefl _)⟩
    have := fst_none hf k h1 (by show k < T + (L - T); have h3 : k < L := h2; omega)
    simpa using this
  | some j =>
    obtain ⟨g1, g2, g3, g4⟩ := fst_some hf
    refine ⟨g1, by show j ≤ L; omega, fun k h1 h2 => ?_, fun _ => ?_⟩
    · have := g4 k h1 h2
      simpa using this
    · simpa using g3
theorem stp1_is {p : Nat → Bool} {L T e : Nat} (h1 : T ≤ e) (h2 : e ≤ L) (h3 : ∀ k, T ≤ k → k < e → p k = true) (h4 : e < L → p e = false) : stp1 p L T = e := by
  obtain ⟨g1, g2, g3, g4⟩ := stp1_spec (p := p) (show T ≤ L by omega)
  by_cases c : stp1 p L T < e
  · have a := h3 _ g1 c
    rw [g4 (by omega)] at a
    cases a
  · by_cases c2 : e < stp1 p L T
    · have a := g3 e h1 c2
      rw [h4 (by omega)] at a
      cases a
    · omega
/-- blanks skipped; the end of what begins at p -/
def sk (b : Nat → Int32) (L T : Nat) : Nat := stp1 (fun k => decide (b k = 32)) L T
def ru (b : Nat → Int32) (L p : Nat) : Nat := if iL (b p) = true then stp1 (fun k => iL (b k)) L (p + 1) else if iD (b p) = true then stp1 (fun k => iD (b k)) L (p + 1) else p + 1
def bgn (b : Nat → Int32) (k : Nat) : Bool := !decide (b k = 32) && (!(decide (0 < k) && (iL (b (k - 1)) && iL (b k))) && !(decide (0 < k) && (iD (b (k - 1)) && iD (b k))))
theorem ru_spec {b : Nat → Int32} {L p : Nat} (hp : p < L) : p < ru b L p ∧ ru b L p ≤ L ∧ (∀ x, p < x → x < ru b L p → bgn b x = false ∧ ¬ b x = 32) ∧ (ru b L p < L → bgn b (ru b L p) = !decide (b (ru b L p) = 32)) := by
  unfold ru
  by_cases c1 : iL (b p) = true
  · rw [if_pos c1]
    obtain ⟨g1, g2, g3, g4⟩ := stp1_spec (p := fun k => iL (b k)) (show p + 1 ≤ L by omega)
    have hall : ∀ x, p ≤ x → x < stp1 (fun k => iL (b k)) L (p + 1) → iL (b x) = true := fun x h1 h2 => by
      by_cases e : x = p
      · rw [e]; exact c1
      · exact g3 x (by omega) h2
    refine ⟨by omega, g2, fun x h1 h2 => ?_, fun h => ?_⟩
    · have a1 := hall x (by omega) h2
      have a0 := hall (x - 1) (by omega) (by omega)
      refine ⟨?_, (iL_n a1).2⟩
      unfold bgn
      rw [decide_eq_true (show 0 < x by omega), a1, a0]
      simp
    · have a0 := hall (stp1 (fun k => iL (b k)) L (p + 1) - 1) (by omega) (by omega)
      have a1 : iL (b (stp1 (fun k => iL (b k)) L (p + 1))) = false := g4 h
      unfold bgn
      rw [a1, (iL_n a0).1]
      simp
  · rw [if_neg c1]
    by_cases c2 : iD (b p) = true
    · rw [if_pos c2]
      obtain ⟨g1, g2, g3, g4⟩ := stp1_spec (p := fun k => iD (b k)) (show p + 1 ≤ L by omega)
      have hall : ∀ x, p ≤ x → x < stp1 (fun k => iD (b k)) L (p + 1) → iD (b x) = true := fun x h1 h2 => by
        by_cases e : x = p
        · rw [e]; exact c2
        · exact g3 x (by omega) h2
      refine ⟨by omega, g2, fun x h1 h2 => ?_, fun h => ?_⟩
      · have a1 := hall x (by omega) h2
        have a0 := hall (x - 1) (by omega) (by omega)
        refine ⟨?_, (iD_n a1).2⟩
        unfold bgn
        rw [decide_eq_true (show 0 < x by omega), a1, a0]
        simp
      · have a0 := hall (stp1 (fun k => iD (b k)) L (p + 1) - 1) (by omega) (by omega)
        have a1 : iD (b (stp1 (fun k => iD (b k)) L (p + 1))) = false := g4 h
        unfold bgn
        rw [a1, (iD_n a0).1]
        simp
    · rw [if_neg c2]
      refine ⟨by omega, by omega, fun x h1 h2 => by omega, fun h => ?_⟩
      have e1 : iL (b p) = false := by cases h : iL (b p) with | true => exact absurd h c1 | false => rfl
      have e2 : iD (b p) = false := by cases h : iD (b p) with | true => exact absurd h c2 | false => rfl
      unfold bgn
      rw [show p + 1 - 1 = p by omega, e1, e2]
      simp
/-- behind a token (or at the start) the next one begins where the blanks end -/
theorem sk_bgn {b : Nat → Int32} {L T : Nat} (hT : T ≤ L) (h : T = 0 ∨ (T < L → bgn b T = !decide (b T = 32))) : T ≤ sk b L T ∧ sk b L T ≤ L ∧ (∀ x, T ≤ x → x < sk b L T → bgn b x = false) ∧ (sk b L T < L → bgn b (sk b L T) = true) := by
  obtain ⟨g1, g2, g3, g4⟩ := stp1_spec (p := fun k => decide (b k = 32)) hT
  refine ⟨g1, g2, fun x h1 h2 => ?_, fun hl => ?_⟩
  · have := g3 x h1 h2
    unfold bgn
    rw [this]
    rfl
  · have n32 : decide (b (sk b L T) = 32) = false := g4 hl
    by_cases e : sk b L T = T
    · rcases h with h0 | h0
      · unfold bgn
        rw [n32, e, h0]
        rfl
      · have := h0 (by rw [← e]; exact hl)
        rw [e] at n32 ⊢
        rw [this, n32]
        rfl
    · have hprev : b (sk b L T - 1) = 32 := of_decide_eq_true (g3 (sk b L T - 1) (by unfold sk at e ⊢; omega) (by unfold sk at e ⊢; omega))
      have p1 : iL (32 : Int32) = false := by decide
      have p2 : iD (32 : Int32) = false := by decide
      unfold bgn
      rw [n32, hprev, p1, p2]
      simp
/-- where the t-th token begins; L behind the last -/
def plc (b : Nat → Int32) (L : Nat) : Nat → Nat
  | 0 => sk b L 0
  | t + 1 => if plc b L t < L then sk b L (ru b L (plc b L t)) else L
theorem plc_le (b : Nat → Int32) (L : Nat) : ∀ t, plc b L t ≤ L
  | 0 => (stp1_spec (p := fun k => decide (b k = 32)) (Nat.zero_le L)).2.1
  | t + 1 => by
    show (if plc b L t < L then sk b L (ru b L (plc b L t)) else L) ≤ L
    split
    · rename_i h
      exact (stp1_spec (p := fun k => decide (b k = 32)) (ru_spec h).2.1).2.1
    · exact Nat.le_refl _
theorem plc_next {b : Nat → Int32} {L t : Nat} (h : plc b L t < L) : plc b L (t + 1) = sk b L (ru b L (plc b L t)) ∧ plc b L t < ru b L (plc b L t) ∧ ru b L (plc b L t) ≤ plc b L (t + 1) := by
  have e : plc b L (t + 1) = sk b L (ru b L (plc b L t)) := by
    show (if plc b L t < L then sk b L (ru b L (plc b L t)) else L) = _
    rw [if_pos h]
  have hr := ru_spec (b := b) h
  refine ⟨e, hr.1, ?_⟩
  rw [e]
  exact (stp1_spec (p := fun k => decide (b k = 32)) hr.2.1).1
theorem plc_bgn {b : Nat → Int32} {L : Nat} : ∀ {t : Nat}, plc b L t < L → bgn b (plc b L t) = true
  | 0, h => (sk_bgn (Nat.zero_le L) (Or.inl rfl)).2.2.2 h
  | t + 1, h => by
    have h0 : plc b L t < L := by
      by_cases c : plc b L t < L
      · exact c
      · have : plc b L (t + 1) = L := by
          show (if plc b L t < L then sk b L (ru b L (plc b L t)) else L) = _
          rw [if_neg c]
        omega
    have hr := ru_spec (b := b) h0
    rw [(plc_next h0).1] at h ⊢
    exact (sk_bgn hr.2.1 (Or.inr hr.2.2.2)).2.2.2 h
/-- no token begins between one and the next -/
theorem plc_gap {b : Nat → Int32} {L t x : Nat} (h : plc b L t < L) (h1 : plc b L t < x) (h2 : x < plc b L (t + 1)) : bgn b x = false := by
  have hr := ru_spec (b := b) h
  rw [(plc_next h).1] at h2
  by_cases c : x < ru b L (plc b L t)
  · exact (hr.2.2.1 x h1 c).1
  · exact (sk_bgn hr.2.1 (Or.inr hr.2.2.2)).2.2.1 x (by omega) h2
theorem plc_gap0 {b : Nat → Int32} {L x : Nat} (h2 : x < plc b L 0) : bgn b x = false := (sk_bgn (Nat.zero_le L) (Or.inl rfl)).2.2.1 x (Nat.zero_le _) h2
theorem plc_n32 {b : Nat → Int32} {L t : Nat} (h : plc b L t < L) : ¬ b (plc b L t) = 32 := fun e => by
  have := plc_bgn h
  unfold bgn at this
  rw [decide_eq_true e] at this
  cases this
