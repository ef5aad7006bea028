/-! longs by bits; the turns of an animal, both ways -/
def tL (x : Int64) (i : Nat) : Bool := x.toBitVec.getLsbD i
theorem tL_or (x y : Int64) (i : Nat) : tL (x ||| y) i = (tL x i || tL y i) := by unfold tL; rw [Int64.toBitVec_or, BitVec.getLsbD_or]
theorem tL_and (x y : Int64) (i : Nat) : tL (x &&& y) i = (tL x i && tL y i) := by unfold tL; rw [Int64.toBitVec_and, BitVec.getLsbD_and]
theorem tL_0 (i : Nat) : tL 0 i = false := BitVec.getLsbD_zero
theorem tL_sh : ∀ l, l < 64 → ((1 : Int64) <<< ((nI l).toInt64 &&& 63)).toBitVec = BitVec.twoPow 64 l := by decide +kernel
theorem tL_one (n : Nat) (hn : n < 64) {i : Nat} (hi : i < 64) : tL ((1 : Int64) <<< ((nI n).toInt64 &&& 63)) i = decide (i = n) := by
  unfold tL
  rw [tL_sh n hn, BitVec.getLsbD_twoPow, decide_eq_true hn, Bool.true_and]
  by_cases h : i = n
  · rw [decide_eq_true h, decide_eq_true h.symm]
  · rw [decide_eq_false h, decide_eq_false (fun e => h e.symm)]
theorem tL_z (x : Int64) : x = 0 ↔ ∀ i, i < 64 → tL x i = false := by
  constructor
  · intro h i _
    rw [h, tL_0]
  · intro h
    exact Int64.toBitVec_inj.mp (BitVec.eq_of_getLsbD_eq (fun i hi => by
      have := h i hi
      unfold tL at this
      rw [this]
      exact BitVec.getLsbD_zero.symm))
theorem sJ_r (σ : sS) (q j : Nat) (v : Int64) (a b : Nat) : (sJ σ q j v).2 a b = if a = q then (if b = j then v else σ.2 q b) else σ.2 a b := by
  unfold sJ
  by_cases h : a = q
  · subst h
    by_cases e : b = j
    · subst e
      simp [vp_updL]
    · simp [vp_updL, e]
  · simp [h]
theorem sJ_off (σ : sS) (q j : Nat) (v : Int64) {a : Nat} (h : a ≠ q) : (sJ σ q j v).2 a = σ.2 a := funext fun b => by rw [sJ_r, if_neg h]
theorem sJ_same (σ : sS) (q j : Nat) (v : Int64) : (sJ σ q j v).2 q j = v := by rw [sJ_r, if_pos rfl, if_pos rfl]
def ac (a : aK) (i : Nat) : Nat := (a.1 2 i).toNatClampNeg
theorem ac_nI {a : aK} (hv : vK a) {i : Nat} (hi : i < aN a) : a.1 2 i = nI (ac a i) ∧ 2 ≤ ac a i ∧ ac a i ≤ 12 := by
  obtain ⟨c, h1, h2, h3⟩ := ck_nI hv hi
  have e : ac a i = c := by unfold ac; rw [h3, nI_clamp (by omega)]
  rw [e]
  exact ⟨h3, h1, h2⟩
theorem te_nat (k g : Int32) {t : Nat} (ht : t < 200) : ∃ T, T ≤ 400 ∧ pTe k g (nI t) = nI T := by
  have h : ∃ T, T ≤ 400 ∧ pTn k (nI t) = nI T := by
    unfold pTn
    have d2 : nI t / 2 = nI (t / 2) := pk_div (a := t) (d := 2) (by omega) (by omega) (by omega)
    have d7 : nI t / 7 = nI (t / 7) := pk_div (a := t) (d := 7) (by omega) (by omega) (by omega)
    have r2 : irm (nI t) 2 = nI (t % 2) := irm_nI (A := t) (d := 2) (by omega) (by omega) (by omega)
    rw [d2, d7, r2, nI_add, nI_add]
    split
    · exact ⟨t / 2, by omega, rfl⟩
    · split
      · exact ⟨t / 2 + t % 2, by omega, rfl⟩
      · split
        · exact ⟨t + t / 7, by omega, rfl⟩
        · exact ⟨t, by omega, rfl⟩
  obtain ⟨T, h1, h2⟩ := h
  unfold pTe
  rw [h2]
  split
  · exact ⟨T, h1, rfl⟩
  · split
    · exact ⟨T / 2, by omega, pk_div (a := T) (d := 2) (by omega) (by omega) (by omega)⟩
    · exact ⟨0, by omega, rfl⟩
def gn (a : aK) (i t : Nat) : Nat := (aPl a i 0 (aGo a i) (nI t)).toNatClampNeg
theorem gn_spec {a : aK} (hv : vK a) {i : Nat} (hi : i < aN a) {t : Nat} (ht : t < 200) : aPl a i 0 (aGo a i) (nI t) = nI (gn a i t) ∧ gn a i t < ac a i ∧ ∀ p, p < 12 → aPl a i (nI p) (aGo a i) (nI t) = irm (nI p + nI (gn a i t)) (a.1 2 i) := by
  obtain ⟨e, h2, h12⟩ := ac_nI hv hi
  obtain ⟨T, hT, eT⟩ := te_nat (a.1 1 i) (aGo a i) ht
  have e0 : aPl a i 0 (aGo a i) (nI t) = nI (T % ac a i) := by
    unfold aPl
    rw [eT, e, Int32.zero_add, irm_nI (by omega) (by omega) (by omega)]
  have hlt := Nat.mod_lt T (show ac a i > 0 by omega)
  have eg : gn a i t = T % ac a i := by
    unfold gn
    rw [e0, nI_clamp (by omega)]
  rw [eg]
  refine ⟨e0, hlt, fun p hp => ?_⟩
  unfold aPl
  rw [eT, e, nI_add, nI_add, irm_nI (by omega) (by omega) (by omega), irm_nI (by omega) (by omega) (by omega)]
  congr 1
  rw [Nat.add_mod p (T % ac a i), Nat.mod_mod, ← Nat.add_mod]
/-- high with a phase, as the animal goes now -/
def hp (a : aK) (i p t : Nat) : Bool := !decide (aHt a i (aPl a i (nI p) (aGo a i) (nI t)) < a.1 0 1)
theorem x_fill59 (σ : sS) : ∃ τ, f_J7_fill_a σ 0 = some τ ∧ τ.1 = σ.1 ∧ (∀ q, q ≠ 59 → τ.2 q = σ.2 q) ∧ ∀ j, j < 12 → τ.2 59 j = 0 := by
  unfold f_J7_fill_a fl_J7_fill_a_6
  refine lp_inv (body := fb_J7_fill_a_6) (I := fun i p => p.2 = ((0 : Int64), nI i, (12 : Int32)) ∧ p.1.1 = σ.1 ∧ (∀ q, q ≠ 59 → p.1.2 q = σ.2 q) ∧ ∀ j, j < i → p.1.2 59 j = 0) (e := 12) (P := fun r => ∃ τ, r = some τ ∧ τ.1 = σ.1 ∧ (∀ q, q ≠ 59 → τ.2 q = σ.2 q) ∧ ∀ j, j < 12 → τ.2 59 j = 0) ?_ ?_ nF 0 (σ, 0, 0, 12) (by omega) (nF_big (by omega)) ⟨rfl, rfl, fun _ _ => rfl, fun _ h => absurd h (Nat.not_lt_zero _)⟩
  · rintro i hi ⟨τ, y⟩ ⟨hy, a1, a2, a3⟩ back
    have hy2 : y = ((0 : Int64), nI i, (12 : Int32)) := hy
    subst hy2
    have a3' : ∀ j, j < i → τ.2 59 j = 0 := a3
    have hlt : nI i < (12 : Int32) := (nn_lt (a := i) (b := 12) (by omega) (by omega)).mpr hi
    refine ⟨(sJ τ 59 i 0, 0, nI (i + 1), 12), ⟨rfl, a1, fun q hq => ?_, fun j hj => ?_⟩, ?_⟩
    · show (sJ τ 59 i 0).2 q = _
      rw [sJ_off _ _ _ _ hq]
      exact a2 q hq
    · show (sJ τ 59 i 0).2 59 j = _
      rw [sJ_r, if_pos rfl]
      by_cases e : j = i
      · rw [if_pos e]
      · rw [if_neg e]
        exact a3' j (by omega)
    · simp only [fb_J7_fill_a_6, if_pos hlt, grd_of (sIn_nI hi (show 12 < 2 ^ 31 by omega)), pt_eq, nI_clamp (show i < 2 ^ 31 by omega), nI_1]
  · rintro ⟨τ, y⟩ ⟨hy, a1, a2, a3⟩ back
    have hy2 : y = ((0 : Int64), nI 12, (12 : Int32)) := hy
    subst hy2
    refine ⟨τ, ?_, a1, a2, a3⟩
    simp only [fb_J7_fill_a_6, if_neg (show ¬ nI 12 < (12 : Int32) by decide)]
theorem x_fill60 (σ : sS) : ∃ τ, f_J7_fill_b σ 0 = some τ ∧ τ.1 = σ.1 ∧ (∀ q, q ≠ 60 → τ.2 q = σ.2 q) ∧ ∀ j, j < 12 → τ.2 60 j = 0 := by
  unfold f_J7_fill_b fl_J7_fill_b_6
  refine lp_inv (body := fb_J7_fill_b_6) (I := fun i p => p.2 = ((0 : Int64), nI i, (12 : Int32)) ∧ p.1.1 = σ.1 ∧ (∀ q, q ≠ 60 → p.1.2 q = σ.2 q) ∧ ∀ j, j < i → p.1.2 60 j = 0) (e := 12) (P := fun r => ∃ τ, r = some τ ∧ τ.1 = σ.1 ∧ (∀ q, q ≠ 60 → τ.2 q = σ.2 q) ∧ ∀ j, j < 12 → τ.2 60 j = 0) ?_ ?_ nF 0 (σ, 0, 0, 12) (by omega) (nF_big (by omega)) ⟨rfl, rfl, fun _ _ => rfl, fun _ h => absurd h (Nat.not_lt_zero _)⟩
  · rintro i hi ⟨τ, y⟩ ⟨hy, a1, a2, a3⟩ back
    have hy2 : y = ((0 : Int64), nI i, (12 : Int32)) := hy
    subst hy2
    have a3' : ∀ j, j < i → τ.2 60 j = 0 := a3
    have hlt : nI i < (12 : Int32) := (nn_lt (a := i) (b := 12) (by omega) (by omega)).mpr hi
    refine ⟨(sJ τ 60 i 0, 0, nI (i + 1), 12), ⟨rfl, a1, fun q hq => ?_, fun j hj => ?_⟩, ?_⟩
    · show (sJ τ 60 i 0).2 q = _
      rw [sJ_off _ _ _ _ hq]
      exact a2 q hq
    · show (sJ τ 60 i 0).2 60 j = _
      rw [sJ_r, if_pos rfl]
      by_cases e : j = i
      · rw [if_pos e]
      · rw [if_neg e]
        exact a3' j (by omega)
    · simp only [fb_J7_fill_b_6, if_pos hlt, grd_of (sIn_nI hi (show 12 < 2 ^ 31 by omega)), pt_eq, nI_clamp (show i < 2 ^ 31 by omega), nI_1]
  · rintro ⟨τ, y⟩ ⟨hy, a1, a2, a3⟩ back
    have hy2 : y = ((0 : Int64), nI 12, (12 : Int32)) := hy
    subst hy2
    refine ⟨τ, ?_, a1, a2, a3⟩
    simp only [fb_J7_fill_b_6, if_neg (show ¬ nI 12 < (12 : Int32) by decide)]
theorem cE_same {σ τ : sS} {a : aK} (h : τ.1 = σ.1) (hE : cE σ a) : cE τ a := cE_lo (fun q _ => by rw [h]) hE
/-- the turns sorted by the teeth gone -/
theorem x_sort {σ : sS} {a : aK} (hv : vK a) (hE : cE σ a) {i : Nat} (hi : i < aN a) : ∃ τ, f_X10_sortTurns σ (nI i) = some τ ∧ τ.1 = σ.1 ∧ (∀ q, q ≠ 59 → q ≠ 60 → τ.2 q = σ.2 q) ∧ ∀ g, g < 12 → ∀ b, b < 64 → tL (τ.2 59 g) b = decide (gn a i b = g) ∧ tL (τ.2 60 g) b = (decide (b < 36) && decide (gn a i (64 + b) = g)) := by
  have h9 : aN a ≤ 9 := hv.1.1.2
  obtain ⟨τ1, e1, f1, f2, f3⟩ := x_fill59 σ
  obtain ⟨τ2, e2, k1, k2, k3⟩ := x_fill60 τ1
  unfold f_X10_sortTurns fl_X10_sortTurns_18
  rw [e1, bd_some, e2, bd_some]
  have z59 : ∀ g, g < 12 → τ2.2 59 g = 0 := fun g hg => by rw [k2 59 (by omega)]; exact f3 g hg
  have hin := sIn_nI (show i < 9 by omega) (show 9 < 2 ^ 31 by omega)
  have hcl := nI_clamp (show i < 2 ^ 31 by omega)
  refine lp_inv (body := fb_X10_sortTurns_18) (I := fun k p => p.2 = (nI i, nI k) ∧ p.1.1 = σ.1 ∧ (∀ q, q ≠ 59 → q ≠ 60 → p.1.2 q = σ.2 q) ∧ ∀ g, g < 12 → ∀ b, b < 64 → tL (p.1.2 59 g) b = (decide (b < k) && decide (gn a i b = g)) ∧ tL (p.1.2 60 g) b = (decide (64 + b < k) && decide (gn a i (64 + b) = g))) (e := 100) (P := fun r => ∃ τ, r = some τ ∧ τ.1 = σ.1 ∧ (∀ q, q ≠ 59 → q ≠ 60 → τ.2 q = σ.2 q) ∧ ∀ g, g < 12 → ∀ b, b < 64 → tL (τ.2 59 g) b = decide (gn a i b = g) ∧ tL (τ.2 60 g) b = (decide (b < 36) && decide (gn a i (64 + b) = g))) ?_ ?_ nF 0 (τ2, nI i, 0) (by omega) (nF_big (by omega)) ⟨rfl, by rw [show (τ2, nI i, (0 : Int32)).1.1 = τ2.1 from rfl, k1, f1], fun q q1 q2 => by rw [show (τ2, nI i, (0 : Int32)).1.2 q = τ2.2 q from rfl, k2 q q2, f2 q q1], fun g hg b hb => ⟨by show tL (τ2.2 59 g) b = _; rw [z59 g hg, tL_0]; simp, by show tL (τ2.2 60 g) b = _; rw [k3 g hg, tL_0]; simp⟩⟩
  · rintro k hk ⟨τ, y⟩ ⟨hy, a1, a2, a3⟩ back
    have hy2 : y = (nI i, nI k) := hy
    subst hy2
    have a1' : τ.1 = σ.1 := a1
    have a3' : ∀ g, g < 12 → ∀ b, b < 64 → tL (τ.2 59 g) b = (decide (b < k) && decide (gn a i b = g)) ∧ tL (τ.2 60 g) b = (decide (64 + b < k) && decide (gn a i (64 + b) = g)) := a3
    have hEτ : cE τ a := cE_same a1' hE
    have hlt : nI k < (100 : Int32) := (nn_lt (a := k) (b := 100) (by omega) (by omega)).mpr hk
    have e64 : (nI k < (64 : Int32)) ↔ k < 64 := nn_lt (a := k) (b := 64) (by omega) (by omega)
    obtain ⟨g1, g2, g3⟩ := gn_spec hv hi (show k < 200 by omega)
    obtain ⟨_, _, hc12⟩ := ac_nI hv hi
    have hpl : f_X3_placeWith τ (nI i) 0 (aGo a i) (nI k) = some (nI (gn a i k)) := by rw [x_place hv hEτ.1 hi, g1]
    have hgi := sIn_nI (show gn a i k < 12 by omega) (show 12 < 2 ^ 31 by omega)
    have hgc := nI_clamp (show gn a i k < 2 ^ 31 by omega)
    by_cases c : k < 64
    · refine ⟨(sJ τ 59 (gn a i k) (τ.2 59 (gn a i k) ||| ((1 : Int64) <<< ((nI k).toInt64 &&& 63))), nI i, nI (k + 1)), ⟨rfl, a1', fun q q1 q2 => ?_, fun g hg b hb => ⟨?_, ?_⟩⟩, ?_⟩
      · show (sJ τ 59 _ _).2 q = _
        rw [sJ_off _ _ _ _ q1]
        exact a2 q q1 q2
      · show tL ((sJ τ 59 (gn a i k) _).2 59 g) b = _
        rw [sJ_r, if_pos rfl]
        by_cases eg : g = gn a i k
        · rw [if_pos eg, tL_or, tL_one k c hb, (a3' _ (by omega) b hb).1, eg]
          by_cases eb : b = k
          · rw [eb]; simp
          · have : decide (b < k + 1) = decide (b < k) := by
              by_cases h : b < k
              · rw [decide_eq_true h, decide_eq_true (by omega)]
              · rw [decide_eq_false h, decide_eq_false (by omega)]
            rw [this, decide_eq_false eb, Bool.or_false]
        · rw [if_neg eg, (a3' g hg b hb).1]
          by_cases eb : b = k
          · rw [eb, decide_eq_false (show ¬ gn a i k = g from fun h => eg h.symm), Bool.and_false, Bool.and_false]
          · have : decide (b < k + 1) = decide (b < k) := by
              by_cases h : b < k
              · rw [decide_eq_true h, decide_eq_true (by omega)]
              · rw [decide_eq_false h, decide_eq_false (by omega)]
            rw [this]
      · show tL ((sJ τ 59 (gn a i k) _).2 60 g) b = _
        rw [sJ_off _ _ _ _ (by omega), (a3' g hg b hb).2, decide_eq_false (show ¬ 64 + b < k by omega), decide_eq_false (show ¬ 64 + b < k + 1 by omega)]
      · simp only [fb_X10_sortTurns_18, if_pos hlt, grd_of hin, hcl, (hEτ.2 i hi).1, hpl, bd_some, if_pos (e64.mpr c), grd_of hgi, hgc, pt_eq, nI_1]
    · have es : nI k - 64 = nI (k - 64) := by rw [show (64 : Int32) = nI 64 from rfl, pk_sub (by omega)]
      refine ⟨(sJ τ 60 (gn a i k) (τ.2 60 (gn a i k) ||| ((1 : Int64) <<< ((nI (k - 64)).toInt64 &&& 63))), nI i, nI (k + 1)), ⟨rfl, a1', fun q q1 q2 => ?_, fun g hg b hb => ⟨?_, ?_⟩⟩, ?_⟩
      · show (sJ τ 60 _ _).2 q = _
        rw [sJ_off _ _ _ _ q2]
        exact a2 q q1 q2
      · show tL ((sJ τ 60 (gn a i k) _).2 59 g) b = _
        rw [sJ_off _ _ _ _ (by omega), (a3' g hg b hb).1, decide_eq_true (show b < k by omega), decide_eq_true (show b < k + 1 by omega)]
      · show tL ((sJ τ 60 (gn a i k) _).2 60 g) b = _
        rw [sJ_r, if_pos rfl]
        by_cases eg : g = gn a i k
        · rw [if_pos eg, tL_or, tL_one (k - 64) (by omega) hb, (a3' _ (by omega) b hb).2, eg]
          by_cases eb : b = k - 64
          · have e1 : 64 + b = k := by omega
            rw [decide_eq_true eb, e1]; simp
          · have : decide (64 + b < k + 1) = decide (64 + b < k) := by
              by_cases h : 64 + b < k
              · rw [decide_eq_true h, decide_eq_true (by omega)]
              · rw [decide_eq_false h, decide_eq_false (by omega)]
            rw [this, decide_eq_false eb, Bool.or_false]
        · rw [if_neg eg, (a3' g hg b hb).2]
          by_cases eb : b = k - 64
          · have e1 : 64 + b = k := by omega
            rw [e1, decide_eq_false (show ¬ gn a i k = g from fun h => eg h.symm), Bool.and_false, Bool.and_false]
          · have : decide (64 + b < k + 1) = decide (64 + b < k) := by
              by_cases h : 64 + b < k
              · rw [decide_eq_true h, decide_eq_true (by omega)]
              · rw [decide_eq_false h, decide_eq_false (by omega)]
            rw [this]
      · simp only [fb_X10_sortTurns_18, if_pos hlt, grd_of hin, hcl, (hEτ.2 i hi).1, hpl, bd_some, if_neg (mt e64.mp c), es, grd_of hgi, hgc, pt_eq, nI_1]
  · rintro ⟨τ, y⟩ ⟨hy, a1, a2, a3⟩ back
    have hy2 : y = (nI i, nI 100) := hy
    subst hy2
    have a3' : ∀ g, g < 12 → ∀ b, b < 64 → tL (τ.2 59 g) b = (decide (b < 100) && decide (gn a i b = g)) ∧ tL (τ.2 60 g) b = (decide (64 + b < 100) && decide (gn a i (64 + b) = g)) := a3
    refine ⟨τ, ?_, a1, a2, fun g hg b hb => ⟨?_, ?_⟩⟩
    · simp only [fb_X10_sortTurns_18, if_neg (show ¬ nI 100 < (100 : Int32) by decide)]
    · rw [(a3' g hg b hb).1, decide_eq_true (by omega), Bool.true_and]
    · rw [(a3' g hg b hb).2]
      congr 1
      by_cases h : b < 36
      · rw [decide_eq_true h, decide_eq_true (by omega)]
      · rw [decide_eq_false h, decide_eq_false (by omega)]
