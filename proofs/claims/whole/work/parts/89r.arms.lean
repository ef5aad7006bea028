/-! THE LAW: every arm of its loop, from coupled to coupled -/
theorem ix_in {L k j : Nat} (hL : L ≤ 2560) (h : k + 5 ≤ L) (hj : j < 5) : sIn (nI k + nI j) L = true := by rw [nI_add]; exact sIn_nI (by omega) (by omega)
def Arm (F : (sS × Int32 → Option Int32) → sS → Int32 → Option Int32) (k : Nat) : Prop := ∀ σ, Rel σ → ∀ back : sS × Int32 → Option Int32, ∃ τ, Rel τ ∧ F back σ (nI k) = back (τ, nI (k + 5))
theorem arm_248 (xs : Nat → Int32) {L k : Nat} (hL : L ≤ 2560) (h : k + 5 ≤ L) : Arm (fj_L_law_248 xs L) k := by
  intro σ hR back
  have s1 : sIn (nI k + 1) L = true := ix_in hL h (j := 1) (by omega)
  have s2 : sIn (nI k + 2) L = true := ix_in hL h (j := 2) (by omega)
  have s3 : sIn (nI k + 3) L = true := ix_in hL h (j := 3) (by omega)
  have s4 : sIn (nI k + 4) L = true := ix_in hL h (j := 4) (by omega)
  have s5 : nI k + 5 = nI (k + 5) := by rw [show (5 : Int32) = nI 5 from rfl, nI_add]
  obtain ⟨r, σ1, σ2, e1, e2, e3⟩ := op_animal (xs (nI k + 1).toNatClampNeg) (xs (nI k + 2).toNatClampNeg) (xs (nI k + 3).toNatClampNeg) (xs (nI k + 4).toNatClampNeg) σ hR
  dsimp only at e1 e2
  refine ⟨σ2, e3, ?_⟩
  simp only [fj_L_law_248, s1, s2, s3, s4, grd_true, pt_eq, e1, e2, bd_some, eq_self, if_true, s5]
theorem arm_301 (xs : Nat → Int32) {L k : Nat} (hL : L ≤ 2560) (h : k + 5 ≤ L) : Arm (fj_L_law_301 xs L) k := by
  intro σ hR back
  have s1 : sIn (nI k + 1) L = true := ix_in hL h (j := 1) (by omega)
  have s2 : sIn (nI k + 2) L = true := ix_in hL h (j := 2) (by omega)
  have s3 : sIn (nI k + 3) L = true := ix_in hL h (j := 3) (by omega)
  have s4 : sIn (nI k + 4) L = true := ix_in hL h (j := 4) (by omega)
  have s5 : nI k + 5 = nI (k + 5) := by rw [show (5 : Int32) = nI 5 from rfl, nI_add]
  obtain ⟨r, σ1, σ2, e1, e2, e3⟩ := op_animalOf (xs (nI k + 1).toNatClampNeg) (xs (nI k + 2).toNatClampNeg) σ hR
  dsimp only at e1 e2
  refine ⟨σ2, e3, ?_⟩
  simp only [fj_L_law_301, s1, s2, s3, s4, grd_true, pt_eq, e1, e2, bd_some, eq_self, if_true, s5]
theorem arm_334 (xs : Nat → Int32) {L k : Nat} (hL : L ≤ 2560) (h : k + 5 ≤ L) : Arm (fj_L_law_334 xs L) k := by
  intro σ hR back
  have s1 : sIn (nI k + 1) L = true := ix_in hL h (j := 1) (by omega)
  have s2 : sIn (nI k + 2) L = true := ix_in hL h (j := 2) (by omega)
  have s3 : sIn (nI k + 3) L = true := ix_in hL h (j := 3) (by omega)
  have s4 : sIn (nI k + 4) L = true := ix_in hL h (j := 4) (by omega)
  have s5 : nI k + 5 = nI (k + 5) := by rw [show (5 : Int32) = nI 5 from rfl, nI_add]
  obtain ⟨r, σ1, σ2, e1, e2, e3⟩ := op_change (xs (nI k + 1).toNatClampNeg) (xs (nI k + 2).toNatClampNeg) (xs (nI k + 3).toNatClampNeg) σ hR
  dsimp only at e1 e2
  refine ⟨σ2, e3, ?_⟩
  simp only [fj_L_law_334, s1, s2, s3, s4, grd_true, pt_eq, e1, e2, bd_some, eq_self, if_true, s5]
theorem arm_377 (xs : Nat → Int32) {L k : Nat} (hL : L ≤ 2560) (h : k + 5 ≤ L) : Arm (fj_L_law_377 xs L) k := by
  intro σ hR back
  have s1 : sIn (nI k + 1) L = true := ix_in hL h (j := 1) (by omega)
  have s2 : sIn (nI k + 2) L = true := ix_in hL h (j := 2) (by omega)
  have s3 : sIn (nI k + 3) L = true := ix_in hL h (j := 3) (by omega)
  have s4 : sIn (nI k + 4) L = true := ix_in hL h (j := 4) (by omega)
  have s5 : nI k + 5 = nI (k + 5) := by rw [show (5 : Int32) = nI 5 from rfl, nI_add]
  obtain ⟨r, σ1, σ2, e1, e2, e3⟩ := op_paint (xs (nI k + 1).toNatClampNeg) (xs (nI k + 2).toNatClampNeg) σ hR
  dsimp only at e1 e2
  refine ⟨σ2, e3, ?_⟩
  simp only [fj_L_law_377, s1, s2, s3, s4, grd_true, pt_eq, e1, e2, bd_some, eq_self, if_true, s5]
theorem arm_410 (xs : Nat → Int32) {L k : Nat} (hL : L ≤ 2560) (h : k + 5 ≤ L) : Arm (fj_L_law_410 xs L) k := by
  intro σ hR back
  have s1 : sIn (nI k + 1) L = true := ix_in hL h (j := 1) (by omega)
  have s2 : sIn (nI k + 2) L = true := ix_in hL h (j := 2) (by omega)
  have s3 : sIn (nI k + 3) L = true := ix_in hL h (j := 3) (by omega)
  have s4 : sIn (nI k + 4) L = true := ix_in hL h (j := 4) (by omega)
  have s5 : nI k + 5 = nI (k + 5) := by rw [show (5 : Int32) = nI 5 from rfl, nI_add]
  obtain ⟨r, σ1, σ2, e1, e2, e3⟩ := op_level (xs (nI k + 1).toNatClampNeg) σ hR
  dsimp only at e1 e2
  refine ⟨σ2, e3, ?_⟩
  simp only [fj_L_law_410, s1, s2, s3, s4, grd_true, pt_eq, e1, e2, bd_some, eq_self, if_true, s5]
theorem arm_433 (xs : Nat → Int32) {L k : Nat} (hL : L ≤ 2560) (h : k + 5 ≤ L) : Arm (fj_L_law_433 xs L) k := by
  intro σ hR back
  have s1 : sIn (nI k + 1) L = true := ix_in hL h (j := 1) (by omega)
  have s2 : sIn (nI k + 2) L = true := ix_in hL h (j := 2) (by omega)
  have s3 : sIn (nI k + 3) L = true := ix_in hL h (j := 3) (by omega)
  have s4 : sIn (nI k + 4) L = true := ix_in hL h (j := 4) (by omega)
  have s5 : nI k + 5 = nI (k + 5) := by rw [show (5 : Int32) = nI 5 from rfl, nI_add]
  obtain ⟨r, σ1, σ2, e1, e2, e3⟩ := op_turn (xs (nI k + 1).toNatClampNeg) σ hR
  dsimp only at e1 e2
  refine ⟨σ2, e3, ?_⟩
  simp only [fj_L_law_433, s1, s2, s3, s4, grd_true, pt_eq, e1, e2, bd_some, eq_self, if_true, s5]
theorem arm_456 (xs : Nat → Int32) {L k : Nat} (hL : L ≤ 2560) (h : k + 5 ≤ L) : Arm (fj_L_law_456 xs L) k := by
  intro σ hR back
  have s1 : sIn (nI k + 1) L = true := ix_in hL h (j := 1) (by omega)
  have s2 : sIn (nI k + 2) L = true := ix_in hL h (j := 2) (by omega)
  have s3 : sIn (nI k + 3) L = true := ix_in hL h (j := 3) (by omega)
  have s4 : sIn (nI k + 4) L = true := ix_in hL h (j := 4) (by omega)
  have s5 : nI k + 5 = nI (k + 5) := by rw [show (5 : Int32) = nI 5 from rfl, nI_add]
  obtain ⟨r, σ1, σ2, e1, e2, e3⟩ := op_slip (xs (nI k + 1).toNatClampNeg) (xs (nI k + 2).toNatClampNeg) σ hR
  dsimp only at e1 e2
  refine ⟨σ2, e3, ?_⟩
  simp only [fj_L_law_456, s1, s2, s3, s4, grd_true, pt_eq, e1, e2, bd_some, eq_self, if_true, s5]
theorem arm_489 (xs : Nat → Int32) {L k : Nat} (hL : L ≤ 2560) (h : k + 5 ≤ L) : Arm (fj_L_law_489 xs L) k := by
  intro σ hR back
  have s1 : sIn (nI k + 1) L = true := ix_in hL h (j := 1) (by omega)
  have s2 : sIn (nI k + 2) L = true := ix_in hL h (j := 2) (by omega)
  have s3 : sIn (nI k + 3) L = true := ix_in hL h (j := 3) (by omega)
  have s4 : sIn (nI k + 4) L = true := ix_in hL h (j := 4) (by omega)
  have s5 : nI k + 5 = nI (k + 5) := by rw [show (5 : Int32) = nI 5 from rfl, nI_add]
  obtain ⟨r, σ1, σ2, e1, e2, e3⟩ := op_feed ((((xs (nI k + 1).toNatClampNeg).toInt64) <<< ((32 : Int32).toInt64 &&& 63)) ||| (((xs (nI k + 2).toNatClampNeg).toInt64) &&& 4294967295)) (xs (nI k + 3).toNatClampNeg) σ hR
  dsimp only at e1 e2
  refine ⟨σ2, e3, ?_⟩
  unfold fj_L_law_489
  rw [grd_of s1, grd_of s2, pt_eq, grd_of s3, e1, bd_some, grd_of s1, grd_of s2, pt_eq, grd_of s3, e2, bd_some, if_pos rfl, s5]
theorem arm_552 (xs : Nat → Int32) {L k : Nat} (hL : L ≤ 2560) (h : k + 5 ≤ L) : Arm (fj_L_law_552 xs L) k := by
  intro σ hR back
  have s1 : sIn (nI k + 1) L = true := ix_in hL h (j := 1) (by omega)
  have s2 : sIn (nI k + 2) L = true := ix_in hL h (j := 2) (by omega)
  have s3 : sIn (nI k + 3) L = true := ix_in hL h (j := 3) (by omega)
  have s4 : sIn (nI k + 4) L = true := ix_in hL h (j := 4) (by omega)
  have s5 : nI k + 5 = nI (k + 5) := by rw [show (5 : Int32) = nI 5 from rfl, nI_add]
  obtain ⟨r, σ1, σ2, e1, e2, e3⟩ := op_rules σ hR
  dsimp only at e1 e2
  refine ⟨σ2, e3, ?_⟩
  simp only [fj_L_law_552, s1, s2, s3, s4, grd_true, pt_eq, e1, e2, bd_some, eq_self, if_true, s5]
theorem arm_565 (xs : Nat → Int32) {L k : Nat} (hL : L ≤ 2560) (h : k + 5 ≤ L) : Arm (fj_L_law_565 xs L) k := by
  intro σ hR back
  have s1 : sIn (nI k + 1) L = true := ix_in hL h (j := 1) (by omega)
  have s2 : sIn (nI k + 2) L = true := ix_in hL h (j := 2) (by omega)
  have s3 : sIn (nI k + 3) L = true := ix_in hL h (j := 3) (by omega)
  have s4 : sIn (nI k + 4) L = true := ix_in hL h (j := 4) (by omega)
  have s5 : nI k + 5 = nI (k + 5) := by rw [show (5 : Int32) = nI 5 from rfl, nI_add]
  obtain ⟨r, σ1, σ2, e1, e2, e3⟩ := op_height (xs (nI k + 1).toNatClampNeg) (xs (nI k + 2).toNatClampNeg) σ hR
  dsimp only at e1 e2
  refine ⟨σ2, e3, ?_⟩
  simp only [fj_L_law_565, s1, s2, s3, s4, grd_true, pt_eq, e1, e2, bd_some, eq_self, if_true, s5]
theorem arm_598 (xs : Nat → Int32) {L k : Nat} (hL : L ≤ 2560) (h : k + 5 ≤ L) : Arm (fj_L_law_598 xs L) k := by
  intro σ hR back
  have s1 : sIn (nI k + 1) L = true := ix_in hL h (j := 1) (by omega)
  have s2 : sIn (nI k + 2) L = true := ix_in hL h (j := 2) (by omega)
  have s3 : sIn (nI k + 3) L = true := ix_in hL h (j := 3) (by omega)
  have s4 : sIn (nI k + 4) L = true := ix_in hL h (j := 4) (by omega)
  have s5 : nI k + 5 = nI (k + 5) := by rw [show (5 : Int32) = nI 5 from rfl, nI_add]
  obtain ⟨r, σ1, σ2, e1, e2, e3⟩ := op_high (xs (nI k + 1).toNatClampNeg) σ hR
  dsimp only at e1 e2
  refine ⟨σ2, e3, ?_⟩
  simp only [fj_L_law_598, s1, s2, s3, s4, grd_true, pt_eq, e1, e2, bd_some, eq_self, if_true, s5]
theorem arm_621 (xs : Nat → Int32) {L k : Nat} (hL : L ≤ 2560) (h : k + 5 ≤ L) : Arm (fj_L_law_621 xs L) k := by
  intro σ hR back
  have s1 : sIn (nI k + 1) L = true := ix_in hL h (j := 1) (by omega)
  have s2 : sIn (nI k + 2) L = true := ix_in hL h (j := 2) (by omega)
  have s3 : sIn (nI k + 3) L = true := ix_in hL h (j := 3) (by omega)
  have s4 : sIn (nI k + 4) L = true := ix_in hL h (j := 4) (by omega)
  have s5 : nI k + 5 = nI (k + 5) := by rw [show (5 : Int32) = nI 5 from rfl, nI_add]
  obtain ⟨r, σ1, σ2, e1, e2, e3⟩ := op_clash (xs (nI k + 1).toNatClampNeg) σ hR
  dsimp only at e1 e2
  refine ⟨σ2, e3, ?_⟩
  simp only [fj_L_law_621, s1, s2, s3, s4, grd_true, pt_eq, e1, e2, bd_some, eq_self, if_true, s5]
theorem arm_644 (xs : Nat → Int32) {L k : Nat} (hL : L ≤ 2560) (h : k + 5 ≤ L) : Arm (fj_L_law_644 xs L) k := by
  intro σ hR back
  have s1 : sIn (nI k + 1) L = true := ix_in hL h (j := 1) (by omega)
  have s2 : sIn (nI k + 2) L = true := ix_in hL h (j := 2) (by omega)
  have s3 : sIn (nI k + 3) L = true := ix_in hL h (j := 3) (by omega)
  have s4 : sIn (nI k + 4) L = true := ix_in hL h (j := 4) (by omega)
  have s5 : nI k + 5 = nI (k + 5) := by rw [show (5 : Int32) = nI 5 from rfl, nI_add]
  obtain ⟨r, σ1, σ2, e1, e2, e3⟩ := op_nextClash (xs (nI k + 1).toNatClampNeg) σ hR
  dsimp only at e1 e2
  refine ⟨σ2, e3, ?_⟩
  simp only [fj_L_law_644, s1, s2, s3, s4, grd_true, pt_eq, e1, e2, bd_some, eq_self, if_true, s5]
theorem arm_667 (xs : Nat → Int32) {L k : Nat} (hL : L ≤ 2560) (h : k + 5 ≤ L) : Arm (fj_L_law_667 xs L) k := by
  intro σ hR back
  have s1 : sIn (nI k + 1) L = true := ix_in hL h (j := 1) (by omega)
  have s2 : sIn (nI k + 2) L = true := ix_in hL h (j := 2) (by omega)
  have s3 : sIn (nI k + 3) L = true := ix_in hL h (j := 3) (by omega)
  have s4 : sIn (nI k + 4) L = true := ix_in hL h (j := 4) (by omega)
  have s5 : nI k + 5 = nI (k + 5) := by rw [show (5 : Int32) = nI 5 from rfl, nI_add]
  obtain ⟨r, σ1, σ2, e1, e2, e3⟩ := op_quiet (xs (nI k + 1).toNatClampNeg) (xs (nI k + 2).toNatClampNeg) σ hR
  dsimp only at e1 e2
  refine ⟨σ2, e3, ?_⟩
  simp only [fj_L_law_667, s1, s2, s3, s4, grd_true, pt_eq, e1, e2, bd_some, eq_self, if_true, s5]
theorem arm_700 (xs : Nat → Int32) {L k : Nat} (hL : L ≤ 2560) (h : k + 5 ≤ L) : Arm (fj_L_law_700 xs L) k := by
  intro σ hR back
  have s1 : sIn (nI k + 1) L = true := ix_in hL h (j := 1) (by omega)
  have s2 : sIn (nI k + 2) L = true := ix_in hL h (j := 2) (by omega)
  have s3 : sIn (nI k + 3) L = true := ix_in hL h (j := 3) (by omega)
  have s4 : sIn (nI k + 4) L = true := ix_in hL h (j := 4) (by omega)
  have s5 : nI k + 5 = nI (k + 5) := by rw [show (5 : Int32) = nI 5 from rfl, nI_add]
  obtain ⟨r, σ1, σ2, e1, e2, e3⟩ := op_rings (xs (nI k + 1).toNatClampNeg) (xs (nI k + 2).toNatClampNeg) (xs (nI k + 3).toNatClampNeg) σ hR
  dsimp only at e1 e2
  refine ⟨σ2, e3, ?_⟩
  simp only [fj_L_law_700, s1, s2, s3, s4, grd_true, pt_eq, e1, e2, bd_some, eq_self, if_true, s5]
theorem arm_743 (xs : Nat → Int32) {L k : Nat} (hL : L ≤ 2560) (h : k + 5 ≤ L) : Arm (fj_L_law_743 xs L) k := by
  intro σ hR back
  have s1 : sIn (nI k + 1) L = true := ix_in hL h (j := 1) (by omega)
  have s2 : sIn (nI k + 2) L = true := ix_in hL h (j := 2) (by omega)
  have s3 : sIn (nI k + 3) L = true := ix_in hL h (j := 3) (by omega)
  have s4 : sIn (nI k + 4) L = true := ix_in hL h (j := 4) (by omega)
  have s5 : nI k + 5 = nI (k + 5) := by rw [show (5 : Int32) = nI 5 from rfl, nI_add]
  obtain ⟨r, σ1, σ2, e1, e2, e3⟩ := op_firstRing (xs (nI k + 1).toNatClampNeg) (xs (nI k + 2).toNatClampNeg) σ hR
  dsimp only at e1 e2
  refine ⟨σ2, e3, ?_⟩
  simp only [fj_L_law_743, s1, s2, s3, s4, grd_true, pt_eq, e1, e2, bd_some, eq_self, if_true, s5]
theorem arm_776 (xs : Nat → Int32) {L k : Nat} (hL : L ≤ 2560) (h : k + 5 ≤ L) : Arm (fj_L_law_776 xs L) k := by
  intro σ hR back
  have s1 : sIn (nI k + 1) L = true := ix_in hL h (j := 1) (by omega)
  have s2 : sIn (nI k + 2) L = true := ix_in hL h (j := 2) (by omega)
  have s3 : sIn (nI k + 3) L = true := ix_in hL h (j := 3) (by omega)
  have s4 : sIn (nI k + 4) L = true := ix_in hL h (j := 4) (by omega)
  have s5 : nI k + 5 = nI (k + 5) := by rw [show (5 : Int32) = nI 5 from rfl, nI_add]
  obtain ⟨r, σ1, σ2, e1, e2, e3⟩ := op_mostRings (xs (nI k + 1).toNatClampNeg) (xs (nI k + 2).toNatClampNeg) σ hR
  dsimp only at e1 e2
  refine ⟨σ2, e3, ?_⟩
  simp only [fj_L_law_776, s1, s2, s3, s4, grd_true, pt_eq, e1, e2, bd_some, eq_self, if_true, s5]
theorem arm_809 (xs : Nat → Int32) {L k : Nat} (hL : L ≤ 2560) (h : k + 5 ≤ L) : Arm (fj_L_law_809 xs L) k := by
  intro σ hR back
  have s1 : sIn (nI k + 1) L = true := ix_in hL h (j := 1) (by omega)
  have s2 : sIn (nI k + 2) L = true := ix_in hL h (j := 2) (by omega)
  have s3 : sIn (nI k + 3) L = true := ix_in hL h (j := 3) (by omega)
  have s4 : sIn (nI k + 4) L = true := ix_in hL h (j := 4) (by omega)
  have s5 : nI k + 5 = nI (k + 5) := by rw [show (5 : Int32) = nI 5 from rfl, nI_add]
  obtain ⟨r, σ1, σ2, e1, e2, e3⟩ := op_levelFor (xs (nI k + 1).toNatClampNeg) (xs (nI k + 2).toNatClampNeg) σ hR
  dsimp only at e1 e2
  refine ⟨σ2, e3, ?_⟩
  simp only [fj_L_law_809, s1, s2, s3, s4, grd_true, pt_eq, e1, e2, bd_some, eq_self, if_true, s5]
theorem arm_842 (xs : Nat → Int32) {L k : Nat} (hL : L ≤ 2560) (h : k + 5 ≤ L) : Arm (fj_L_law_842 xs L) k := by
  intro σ hR back
  have s1 : sIn (nI k + 1) L = true := ix_in hL h (j := 1) (by omega)
  have s2 : sIn (nI k + 2) L = true := ix_in hL h (j := 2) (by omega)
  have s3 : sIn (nI k + 3) L = true := ix_in hL h (j := 3) (by omega)
  have s4 : sIn (nI k + 4) L = true := ix_in hL h (j := 4) (by omega)
  have s5 : nI k + 5 = nI (k + 5) := by rw [show (5 : Int32) = nI 5 from rfl, nI_add]
  obtain ⟨r, σ1, σ2, e1, e2, e3⟩ := op_phases (xs (nI k + 1).toNatClampNeg) σ hR
  dsimp only at e1 e2
  refine ⟨σ2, e3, ?_⟩
  simp only [fj_L_law_842, s1, s2, s3, s4, grd_true, pt_eq, e1, e2, bd_some, eq_self, if_true, s5]
theorem arm_865 (xs : Nat → Int32) {L k : Nat} (hL : L ≤ 2560) (h : k + 5 ≤ L) : Arm (fj_L_law_865 xs L) k := by
  intro σ hR back
  have s1 : sIn (nI k + 1) L = true := ix_in hL h (j := 1) (by omega)
  have s2 : sIn (nI k + 2) L = true := ix_in hL h (j := 2) (by omega)
  have s3 : sIn (nI k + 3) L = true := ix_in hL h (j := 3) (by omega)
  have s4 : sIn (nI k + 4) L = true := ix_in hL h (j := 4) (by omega)
  have s5 : nI k + 5 = nI (k + 5) := by rw [show (5 : Int32) = nI 5 from rfl, nI_add]
  obtain ⟨r, σ1, σ2, e1, e2, e3⟩ := op_tune (xs (nI k + 1).toNatClampNeg) σ hR
  dsimp only at e1 e2
  refine ⟨σ2, e3, ?_⟩
  simp only [fj_L_law_865, s1, s2, s3, s4, grd_true, pt_eq, e1, e2, bd_some, eq_self, if_true, s5]
theorem arm_888 (xs : Nat → Int32) {L k : Nat} (hL : L ≤ 2560) (h : k + 5 ≤ L) : Arm (fj_L_law_888 xs L) k := by
  intro σ hR back
  have s1 : sIn (nI k + 1) L = true := ix_in hL h (j := 1) (by omega)
  have s2 : sIn (nI k + 2) L = true := ix_in hL h (j := 2) (by omega)
  have s3 : sIn (nI k + 3) L = true := ix_in hL h (j := 3) (by omega)
  have s4 : sIn (nI k + 4) L = true := ix_in hL h (j := 4) (by omega)
  have s5 : nI k + 5 = nI (k + 5) := by rw [show (5 : Int32) = nI 5 from rfl, nI_add]
  obtain ⟨r, σ1, σ2, e1, e2, e3⟩ := op_tuneAll σ hR
  dsimp only at e1 e2
  refine ⟨σ2, e3, ?_⟩
  simp only [fj_L_law_888, s1, s2, s3, s4, grd_true, pt_eq, e1, e2, bd_some, eq_self, if_true, s5]
theorem arm_901 (xs : Nat → Int32) {L k : Nat} (hL : L ≤ 2560) (h : k + 5 ≤ L) : Arm (fj_L_law_901 xs L) k := by
  intro σ hR back
  have s1 : sIn (nI k + 1) L = true := ix_in hL h (j := 1) (by omega)
  have s2 : sIn (nI k + 2) L = true := ix_in hL h (j := 2) (by omega)
  have s3 : sIn (nI k + 3) L = true := ix_in hL h (j := 3) (by omega)
  have s4 : sIn (nI k + 4) L = true := ix_in hL h (j := 4) (by omega)
  have s5 : nI k + 5 = nI (k + 5) := by rw [show (5 : Int32) = nI 5 from rfl, nI_add]
  obtain ⟨r, σ1, σ2, e1, e2, e3⟩ := op_organ (xs (nI k + 1).toNatClampNeg) (xs (nI k + 2).toNatClampNeg) (xs (nI k + 3).toNatClampNeg) σ hR
  dsimp only at e1 e2
  refine ⟨σ2, e3, ?_⟩
  simp only [fj_L_law_901, s1, s2, s3, s4, grd_true, pt_eq, e1, e2, bd_some, eq_self, if_true, s5]
theorem arm_944 (xs : Nat → Int32) {L k : Nat} (hL : L ≤ 2560) (h : k + 5 ≤ L) : Arm (fj_L_law_944 xs L) k := by
  intro σ hR back
  have s1 : sIn (nI k + 1) L = true := ix_in hL h (j := 1) (by omega)
  have s2 : sIn (nI k + 2) L = true := ix_in hL h (j := 2) (by omega)
  have s3 : sIn (nI k + 3) L = true := ix_in hL h (j := 3) (by omega)
  have s4 : sIn (nI k + 4) L = true := ix_in hL h (j := 4) (by omega)
  have s5 : nI k + 5 = nI (k + 5) := by rw [show (5 : Int32) = nI 5 from rfl, nI_add]
  obtain ⟨r, σ1, σ2, e1, e2, e3⟩ := op_together (xs (nI k + 1).toNatClampNeg) (xs (nI k + 2).toNatClampNeg) σ hR
  dsimp only at e1 e2
  refine ⟨σ2, e3, ?_⟩
  simp only [fj_L_law_944, s1, s2, s3, s4, grd_true, pt_eq, e1, e2, bd_some, eq_self, if_true, s5]
theorem arm_977 (xs : Nat → Int32) {L k : Nat} (hL : L ≤ 2560) (h : k + 5 ≤ L) : Arm (fj_L_law_977 xs L) k := by
  intro σ hR back
  have s1 : sIn (nI k + 1) L = true := ix_in hL h (j := 1) (by omega)
  have s2 : sIn (nI k + 2) L = true := ix_in hL h (j := 2) (by omega)
  have s3 : sIn (nI k + 3) L = true := ix_in hL h (j := 3) (by omega)
  have s4 : sIn (nI k + 4) L = true := ix_in hL h (j := 4) (by omega)
  have s5 : nI k + 5 = nI (k + 5) := by rw [show (5 : Int32) = nI 5 from rfl, nI_add]
  obtain ⟨r, σ1, σ2, e1, e2, e3⟩ := op_slipped (xs (nI k + 1).toNatClampNeg) (xs (nI k + 2).toNatClampNeg) σ hR
  dsimp only at e1 e2
  refine ⟨σ2, e3, ?_⟩
  simp only [fj_L_law_977, s1, s2, s3, s4, grd_true, pt_eq, e1, e2, bd_some, eq_self, if_true, s5]
theorem arm_1010 (xs : Nat → Int32) {L k : Nat} (hL : L ≤ 2560) (h : k + 5 ≤ L) : Arm (fj_L_law_1010 xs L) k := by
  intro σ hR back
  have s1 : sIn (nI k + 1) L = true := ix_in hL h (j := 1) (by omega)
  have s2 : sIn (nI k + 2) L = true := ix_in hL h (j := 2) (by omega)
  have s3 : sIn (nI k + 3) L = true := ix_in hL h (j := 3) (by omega)
  have s4 : sIn (nI k + 4) L = true := ix_in hL h (j := 4) (by omega)
  have s5 : nI k + 5 = nI (k + 5) := by rw [show (5 : Int32) = nI 5 from rfl, nI_add]
  obtain ⟨r, σ1, σ2, e1, e2, e3⟩ := op_child (xs (nI k + 1).toNatClampNeg) (xs (nI k + 2).toNatClampNeg) σ hR
  dsimp only at e1 e2
  refine ⟨σ2, e3, ?_⟩
  simp only [fj_L_law_1010, s1, s2, s3, s4, grd_true, pt_eq, e1, e2, bd_some, eq_self, if_true, s5]
theorem arm_1043 (xs : Nat → Int32) {L k : Nat} (hL : L ≤ 2560) (h : k + 5 ≤ L) : Arm (fj_L_law_1043 xs L) k := by
  intro σ hR back
  have s1 : sIn (nI k + 1) L = true := ix_in hL h (j := 1) (by omega)
  have s2 : sIn (nI k + 2) L = true := ix_in hL h (j := 2) (by omega)
  have s3 : sIn (nI k + 3) L = true := ix_in hL h (j := 3) (by omega)
  have s4 : sIn (nI k + 4) L = true := ix_in hL h (j := 4) (by omega)
  have s5 : nI k + 5 = nI (k + 5) := by rw [show (5 : Int32) = nI 5 from rfl, nI_add]
  obtain ⟨r, e1, e2⟩ := op_childOf (xs (nI k + 1).toNatClampNeg) (xs (nI k + 2).toNatClampNeg) σ hR
  dsimp only at e1 e2
  refine ⟨σ, hR, ?_⟩
  simp only [fj_L_law_1043, s1, s2, s3, s4, grd_true, pt_eq, e1, e2, bd_some, eq_self, if_true, s5]
theorem arm_1076 (xs : Nat → Int32) {L k : Nat} (hL : L ≤ 2560) (h : k + 5 ≤ L) : Arm (fj_L_law_1076 xs L) k := by
  intro σ hR back
  have s1 : sIn (nI k + 1) L = true := ix_in hL h (j := 1) (by omega)
  have s2 : sIn (nI k + 2) L = true := ix_in hL h (j := 2) (by omega)
  have s3 : sIn (nI k + 3) L = true := ix_in hL h (j := 3) (by omega)
  have s4 : sIn (nI k + 4) L = true := ix_in hL h (j := 4) (by omega)
  have s5 : nI k + 5 = nI (k + 5) := by rw [show (5 : Int32) = nI 5 from rfl, nI_add]
  obtain ⟨r, σ1, σ2, e1, e2, e3⟩ := op_coins (xs (nI k + 1).toNatClampNeg) (xs (nI k + 2).toNatClampNeg) σ hR
  dsimp only at e1 e2
  refine ⟨σ2, e3, ?_⟩
  simp only [fj_L_law_1076, s1, s2, s3, s4, grd_true, pt_eq, e1, e2, bd_some, eq_self, if_true, s5]
theorem arm_1109 (xs : Nat → Int32) {L k : Nat} (hL : L ≤ 2560) (h : k + 5 ≤ L) : Arm (fj_L_law_1109 xs L) k := by
  intro σ hR back
  have s1 : sIn (nI k + 1) L = true := ix_in hL h (j := 1) (by omega)
  have s2 : sIn (nI k + 2) L = true := ix_in hL h (j := 2) (by omega)
  have s3 : sIn (nI k + 3) L = true := ix_in hL h (j := 3) (by omega)
  have s4 : sIn (nI k + 4) L = true := ix_in hL h (j := 4) (by omega)
  have s5 : nI k + 5 = nI (k + 5) := by rw [show (5 : Int32) = nI 5 from rfl, nI_add]
  obtain ⟨r, σ1, σ2, e1, e2, e3⟩ := op_seats σ hR
  dsimp only at e1 e2
  refine ⟨σ2, e3, ?_⟩
  simp only [fj_L_law_1109, s1, s2, s3, s4, grd_true, pt_eq, e1, e2, bd_some, eq_self, if_true, s5]
theorem arm_1122 (xs : Nat → Int32) {L k : Nat} (hL : L ≤ 2560) (h : k + 5 ≤ L) : Arm (fj_L_law_1122 xs L) k := by
  intro σ hR back
  have s1 : sIn (nI k + 1) L = true := ix_in hL h (j := 1) (by omega)
  have s2 : sIn (nI k + 2) L = true := ix_in hL h (j := 2) (by omega)
  have s3 : sIn (nI k + 3) L = true := ix_in hL h (j := 3) (by omega)
  have s4 : sIn (nI k + 4) L = true := ix_in hL h (j := 4) (by omega)
  have s5 : nI k + 5 = nI (k + 5) := by rw [show (5 : Int32) = nI 5 from rfl, nI_add]
  obtain ⟨r, σ1, σ2, e1, e2, e3⟩ := op_seat (xs (nI k + 1).toNatClampNeg) σ hR
  dsimp only at e1 e2
  refine ⟨σ2, e3, ?_⟩
  simp only [fj_L_law_1122, s1, s2, s3, s4, grd_true, pt_eq, e1, e2, bd_some, eq_self, if_true, s5]
theorem arm_1145 (xs : Nat → Int32) {L k : Nat} (hL : L ≤ 2560) (h : k + 5 ≤ L) : Arm (fj_L_law_1145 xs L) k := by
  intro σ hR back
  have s1 : sIn (nI k + 1) L = true := ix_in hL h (j := 1) (by omega)
  have s2 : sIn (nI k + 2) L = true := ix_in hL h (j := 2) (by omega)
  have s3 : sIn (nI k + 3) L = true := ix_in hL h (j := 3) (by omega)
  have s4 : sIn (nI k + 4) L = true := ix_in hL h (j := 4) (by omega)
  have s5 : nI k + 5 = nI (k + 5) := by rw [show (5 : Int32) = nI 5 from rfl, nI_add]
  obtain ⟨r, σ1, σ2, e1, e2, e3⟩ := op_ride σ hR
  dsimp only at e1 e2
  refine ⟨σ2, e3, ?_⟩
  simp only [fj_L_law_1145, s1, s2, s3, s4, grd_true, pt_eq, e1, e2, bd_some, eq_self, if_true, s5]
theorem arm_1158 (xs : Nat → Int32) {L k : Nat} (hL : L ≤ 2560) (h : k + 5 ≤ L) : Arm (fj_L_law_1158 xs L) k := by
  intro σ hR back
  have s1 : sIn (nI k + 1) L = true := ix_in hL h (j := 1) (by omega)
  have s2 : sIn (nI k + 2) L = true := ix_in hL h (j := 2) (by omega)
  have s3 : sIn (nI k + 3) L = true := ix_in hL h (j := 3) (by omega)
  have s4 : sIn (nI k + 4) L = true := ix_in hL h (j := 4) (by omega)
  have s5 : nI k + 5 = nI (k + 5) := by rw [show (5 : Int32) = nI 5 from rfl, nI_add]
  obtain ⟨r, σ1, σ2, e1, e2, e3⟩ := op_away σ hR
  dsimp only at e1 e2
  refine ⟨σ2, e3, ?_⟩
  simp only [fj_L_law_1158, s1, s2, s3, s4, grd_true, pt_eq, e1, e2, bd_some, eq_self, if_true, s5]
theorem arm_1171 (xs : Nat → Int32) {L k : Nat} (hL : L ≤ 2560) (h : k + 5 ≤ L) : Arm (fj_L_law_1171 xs L) k := by
  intro σ hR back
  have s1 : sIn (nI k + 1) L = true := ix_in hL h (j := 1) (by omega)
  have s2 : sIn (nI k + 2) L = true := ix_in hL h (j := 2) (by omega)
  have s3 : sIn (nI k + 3) L = true := ix_in hL h (j := 3) (by omega)
  have s4 : sIn (nI k + 4) L = true := ix_in hL h (j := 4) (by omega)
  have s5 : nI k + 5 = nI (k + 5) := by rw [show (5 : Int32) = nI 5 from rfl, nI_add]
  obtain ⟨r, σ1, σ2, e1, e2, e3⟩ := op_photo (xs (nI k + 1).toNatClampNeg) (xs (nI k + 2).toNatClampNeg) (xs (nI k + 3).toNatClampNeg) σ hR
  dsimp only at e1 e2
  refine ⟨σ2, e3, ?_⟩
  simp only [fj_L_law_1171, s1, s2, s3, s4, grd_true, pt_eq, e1, e2, bd_some, eq_self, if_true, s5]
theorem arm_1214 (xs : Nat → Int32) {L k : Nat} (hL : L ≤ 2560) (h : k + 5 ≤ L) : Arm (fj_L_law_1214 xs L) k := by
  intro σ hR back
  have s1 : sIn (nI k + 1) L = true := ix_in hL h (j := 1) (by omega)
  have s2 : sIn (nI k + 2) L = true := ix_in hL h (j := 2) (by omega)
  have s3 : sIn (nI k + 3) L = true := ix_in hL h (j := 3) (by omega)
  have s4 : sIn (nI k + 4) L = true := ix_in hL h (j := 4) (by omega)
  have s5 : nI k + 5 = nI (k + 5) := by rw [show (5 : Int32) = nI 5 from rfl, nI_add]
  obtain ⟨r, σ1, σ2, e1, e2, e3⟩ := op_burn σ hR
  dsimp only at e1 e2
  refine ⟨σ2, e3, ?_⟩
  simp only [fj_L_law_1214, s1, s2, s3, s4, grd_true, pt_eq, e1, e2, bd_some, eq_self, if_true, s5]
theorem arm_1227 (xs : Nat → Int32) {L k : Nat} (hL : L ≤ 2560) (h : k + 5 ≤ L) : Arm (fj_L_law_1227 xs L) k := by
  intro σ hR back
  have s1 : sIn (nI k + 1) L = true := ix_in hL h (j := 1) (by omega)
  have s2 : sIn (nI k + 2) L = true := ix_in hL h (j := 2) (by omega)
  have s3 : sIn (nI k + 3) L = true := ix_in hL h (j := 3) (by omega)
  have s4 : sIn (nI k + 4) L = true := ix_in hL h (j := 4) (by omega)
  have s5 : nI k + 5 = nI (k + 5) := by rw [show (5 : Int32) = nI 5 from rfl, nI_add]
  obtain ⟨r, σ1, σ2, e1, e2, e3⟩ := op_fits (xs (nI k + 1).toNatClampNeg) σ hR
  dsimp only at e1 e2
  refine ⟨σ2, e3, ?_⟩
  simp only [fj_L_law_1227, s1, s2, s3, s4, grd_true, pt_eq, e1, e2, bd_some, eq_self, if_true, s5]
theorem arm_1250 (xs : Nat → Int32) {L k : Nat} (hL : L ≤ 2560) (h : k + 5 ≤ L) : Arm (fj_L_law_1250 xs L) k := by
  intro σ hR back
  have s1 : sIn (nI k + 1) L = true := ix_in hL h (j := 1) (by omega)
  have s2 : sIn (nI k + 2) L = true := ix_in hL h (j := 2) (by omega)
  have s3 : sIn (nI k + 3) L = true := ix_in hL h (j := 3) (by omega)
  have s4 : sIn (nI k + 4) L = true := ix_in hL h (j := 4) (by omega)
  have s5 : nI k + 5 = nI (k + 5) := by rw [show (5 : Int32) = nI 5 from rfl, nI_add]
  obtain ⟨r, σ1, σ2, e1, e2, e3⟩ := op_liar (xs (nI k + 1).toNatClampNeg) σ hR
  dsimp only at e1 e2
  refine ⟨σ2, e3, ?_⟩
  simp only [fj_L_law_1250, s1, s2, s3, s4, grd_true, pt_eq, e1, e2, bd_some, eq_self, if_true, s5]
theorem arm_1273 (xs : Nat → Int32) {L k : Nat} (hL : L ≤ 2560) (h : k + 5 ≤ L) : Arm (fj_L_law_1273 xs L) k := by
  intro σ hR back
  have s1 : sIn (nI k + 1) L = true := ix_in hL h (j := 1) (by omega)
  have s2 : sIn (nI k + 2) L = true := ix_in hL h (j := 2) (by omega)
  have s3 : sIn (nI k + 3) L = true := ix_in hL h (j := 3) (by omega)
  have s4 : sIn (nI k + 4) L = true := ix_in hL h (j := 4) (by omega)
  have s5 : nI k + 5 = nI (k + 5) := by rw [show (5 : Int32) = nI 5 from rfl, nI_add]
  obtain ⟨r, σ1, σ2, e1, e2, e3⟩ := op_prove (xs (nI k + 1).toNatClampNeg) (xs (nI k + 2).toNatClampNeg) (xs (nI k + 3).toNatClampNeg) σ hR
  dsimp only at e1 e2
  refine ⟨σ2, e3, ?_⟩
  simp only [fj_L_law_1273, s1, s2, s3, s4, grd_true, pt_eq, e1, e2, bd_some, eq_self, if_true, s5]
theorem arm_1316 (xs : Nat → Int32) {L k : Nat} (hL : L ≤ 2560) (h : k + 5 ≤ L) : Arm (fj_L_law_1316 xs L) k := by
  intro σ hR back
  have s1 : sIn (nI k + 1) L = true := ix_in hL h (j := 1) (by omega)
  have s2 : sIn (nI k + 2) L = true := ix_in hL h (j := 2) (by omega)
  have s3 : sIn (nI k + 3) L = true := ix_in hL h (j := 3) (by omega)
  have s4 : sIn (nI k + 4) L = true := ix_in hL h (j := 4) (by omega)
  have s5 : nI k + 5 = nI (k + 5) := by rw [show (5 : Int32) = nI 5 from rfl, nI_add]
  obtain ⟨r, e1, e2⟩ := op_row (xs (nI k + 1).toNatClampNeg) (xs (nI k + 2).toNatClampNeg) σ hR
  dsimp only at e1 e2
  refine ⟨σ, hR, ?_⟩
  simp only [fj_L_law_1316, s1, s2, s3, s4, grd_true, pt_eq, e1, e2, bd_some, eq_self, if_true, s5]
theorem arm_1349 (xs : Nat → Int32) {L k : Nat} (hL : L ≤ 2560) (h : k + 5 ≤ L) : Arm (fj_L_law_1349 xs L) k := by
  intro σ hR back
  have s1 : sIn (nI k + 1) L = true := ix_in hL h (j := 1) (by omega)
  have s2 : sIn (nI k + 2) L = true := ix_in hL h (j := 2) (by omega)
  have s3 : sIn (nI k + 3) L = true := ix_in hL h (j := 3) (by omega)
  have s4 : sIn (nI k + 4) L = true := ix_in hL h (j := 4) (by omega)
  have s5 : nI k + 5 = nI (k + 5) := by rw [show (5 : Int32) = nI 5 from rfl, nI_add]
  obtain ⟨r, σ1, σ2, e1, e2, e3⟩ := op_alterRow (xs (nI k + 1).toNatClampNeg) (xs (nI k + 2).toNatClampNeg) (xs (nI k + 3).toNatClampNeg) σ hR
  dsimp only at e1 e2
  refine ⟨σ2, e3, ?_⟩
  simp only [fj_L_law_1349, s1, s2, s3, s4, grd_true, pt_eq, e1, e2, bd_some, eq_self, if_true, s5]
theorem arm_1392 (xs : Nat → Int32) {L k : Nat} (hL : L ≤ 2560) (h : k + 5 ≤ L) : Arm (fj_L_law_1392 xs L) k := by
  intro σ hR back
  have s1 : sIn (nI k + 1) L = true := ix_in hL h (j := 1) (by omega)
  have s2 : sIn (nI k + 2) L = true := ix_in hL h (j := 2) (by omega)
  have s3 : sIn (nI k + 3) L = true := ix_in hL h (j := 3) (by omega)
  have s4 : sIn (nI k + 4) L = true := ix_in hL h (j := 4) (by omega)
  have s5 : nI k + 5 = nI (k + 5) := by rw [show (5 : Int32) = nI 5 from rfl, nI_add]
  obtain ⟨r, σ1, σ2, e1, e2, e3⟩ := op_judge (xs (nI k + 1).toNatClampNeg) σ hR
  dsimp only at e1 e2
  refine ⟨σ2, e3, ?_⟩
  simp only [fj_L_law_1392, s1, s2, s3, s4, grd_true, pt_eq, e1, e2, bd_some, eq_self, if_true, s5]
theorem arm_1415 (xs : Nat → Int32) {L k : Nat} (hL : L ≤ 2560) (h : k + 5 ≤ L) : Arm (fj_L_law_1415 xs L) k := by
  intro σ hR back
  have s1 : sIn (nI k + 1) L = true := ix_in hL h (j := 1) (by omega)
  have s2 : sIn (nI k + 2) L = true := ix_in hL h (j := 2) (by omega)
  have s3 : sIn (nI k + 3) L = true := ix_in hL h (j := 3) (by omega)
  have s4 : sIn (nI k + 4) L = true := ix_in hL h (j := 4) (by omega)
  have s5 : nI k + 5 = nI (k + 5) := by rw [show (5 : Int32) = nI 5 from rfl, nI_add]
  obtain ⟨r, σ1, σ2, e1, e2, e3⟩ := op_sheet (xs (nI k + 1).toNatClampNeg) (xs (nI k + 2).toNatClampNeg) (xs (nI k + 3).toNatClampNeg) σ hR
  dsimp only at e1 e2
  refine ⟨σ2, e3, ?_⟩
  simp only [fj_L_law_1415, s1, s2, s3, s4, grd_true, pt_eq, e1, e2, bd_some, eq_self, if_true, s5]
theorem arm_1458 (xs : Nat → Int32) {L k : Nat} (hL : L ≤ 2560) (h : k + 5 ≤ L) : Arm (fj_L_law_1458 xs L) k := by
  intro σ hR back
  have s1 : sIn (nI k + 1) L = true := ix_in hL h (j := 1) (by omega)
  have s2 : sIn (nI k + 2) L = true := ix_in hL h (j := 2) (by omega)
  have s3 : sIn (nI k + 3) L = true := ix_in hL h (j := 3) (by omega)
  have s4 : sIn (nI k + 4) L = true := ix_in hL h (j := 4) (by omega)
  have s5 : nI k + 5 = nI (k + 5) := by rw [show (5 : Int32) = nI 5 from rfl, nI_add]
  obtain ⟨r, σ1, σ2, e1, e2, e3⟩ := op_write (xs (nI k + 1).toNatClampNeg) (xs (nI k + 2).toNatClampNeg) (xs (nI k + 3).toNatClampNeg) σ hR
  dsimp only at e1 e2
  refine ⟨σ2, e3, ?_⟩
  simp only [fj_L_law_1458, s1, s2, s3, s4, grd_true, pt_eq, e1, e2, bd_some, eq_self, if_true, s5]
theorem arm_1501 (xs : Nat → Int32) {L k : Nat} (hL : L ≤ 2560) (h : k + 5 ≤ L) : Arm (fj_L_law_1501 xs L) k := by
  intro σ hR back
  have s1 : sIn (nI k + 1) L = true := ix_in hL h (j := 1) (by omega)
  have s2 : sIn (nI k + 2) L = true := ix_in hL h (j := 2) (by omega)
  have s3 : sIn (nI k + 3) L = true := ix_in hL h (j := 3) (by omega)
  have s4 : sIn (nI k + 4) L = true := ix_in hL h (j := 4) (by omega)
  have s5 : nI k + 5 = nI (k + 5) := by rw [show (5 : Int32) = nI 5 from rfl, nI_add]
  obtain ⟨r, e1, e2⟩ := op_item (xs (nI k + 1).toNatClampNeg) (xs (nI k + 2).toNatClampNeg) (xs (nI k + 3).toNatClampNeg) σ hR
  dsimp only at e1 e2
  refine ⟨σ, hR, ?_⟩
  simp only [fj_L_law_1501, s1, s2, s3, s4, grd_true, pt_eq, e1, e2, bd_some, eq_self, if_true, s5]
theorem arm_1544 (xs : Nat → Int32) {L k : Nat} (hL : L ≤ 2560) (h : k + 5 ≤ L) : Arm (fj_L_law_1544 xs L) k := by
  intro σ hR back
  have s1 : sIn (nI k + 1) L = true := ix_in hL h (j := 1) (by omega)
  have s2 : sIn (nI k + 2) L = true := ix_in hL h (j := 2) (by omega)
  have s3 : sIn (nI k + 3) L = true := ix_in hL h (j := 3) (by omega)
  have s4 : sIn (nI k + 4) L = true := ix_in hL h (j := 4) (by omega)
  have s5 : nI k + 5 = nI (k + 5) := by rw [show (5 : Int32) = nI 5 from rfl, nI_add]
  obtain ⟨r, σ1, σ2, e1, e2, e3⟩ := op_sets (xs (nI k + 1).toNatClampNeg) (xs (nI k + 2).toNatClampNeg) (xs (nI k + 3).toNatClampNeg) σ hR
  dsimp only at e1 e2
  refine ⟨σ2, e3, ?_⟩
  simp only [fj_L_law_1544, s1, s2, s3, s4, grd_true, pt_eq, e1, e2, bd_some, eq_self, if_true, s5]
theorem arm_1587 (xs : Nat → Int32) {L k : Nat} (hL : L ≤ 2560) (h : k + 5 ≤ L) : Arm (fj_L_law_1587 xs L) k := by
  intro σ hR back
  have s1 : sIn (nI k + 1) L = true := ix_in hL h (j := 1) (by omega)
  have s2 : sIn (nI k + 2) L = true := ix_in hL h (j := 2) (by omega)
  have s3 : sIn (nI k + 3) L = true := ix_in hL h (j := 3) (by omega)
  have s4 : sIn (nI k + 4) L = true := ix_in hL h (j := 4) (by omega)
  have s5 : nI k + 5 = nI (k + 5) := by rw [show (5 : Int32) = nI 5 from rfl, nI_add]
  obtain ⟨r, σ1, σ2, e1, e2, e3⟩ := op_shelf (xs (nI k + 1).toNatClampNeg) (xs (nI k + 2).toNatClampNeg) (xs (nI k + 3).toNatClampNeg) σ hR
  dsimp only at e1 e2
  refine ⟨σ2, e3, ?_⟩
  simp only [fj_L_law_1587, s1, s2, s3, s4, grd_true, pt_eq, e1, e2, bd_some, eq_self, if_true, s5]
theorem arm_1630 (xs : Nat → Int32) {L k : Nat} (hL : L ≤ 2560) (h : k + 5 ≤ L) : Arm (fj_L_law_1630 xs L) k := by
  intro σ hR back
  have s1 : sIn (nI k + 1) L = true := ix_in hL h (j := 1) (by omega)
  have s2 : sIn (nI k + 2) L = true := ix_in hL h (j := 2) (by omega)
  have s3 : sIn (nI k + 3) L = true := ix_in hL h (j := 3) (by omega)
  have s4 : sIn (nI k + 4) L = true := ix_in hL h (j := 4) (by omega)
  have s5 : nI k + 5 = nI (k + 5) := by rw [show (5 : Int32) = nI 5 from rfl, nI_add]
  obtain ⟨r, e1, e2⟩ := op_taken (xs (nI k + 1).toNatClampNeg) (xs (nI k + 2).toNatClampNeg) σ hR
  dsimp only at e1 e2
  refine ⟨σ, hR, ?_⟩
  simp only [fj_L_law_1630, s1, s2, s3, s4, grd_true, pt_eq, e1, e2, bd_some, eq_self, if_true, s5]
theorem arm_1663 (xs : Nat → Int32) {L k : Nat} (hL : L ≤ 2560) (h : k + 5 ≤ L) : Arm (fj_L_law_1663 xs L) k := by
  intro σ hR back
  have s1 : sIn (nI k + 1) L = true := ix_in hL h (j := 1) (by omega)
  have s2 : sIn (nI k + 2) L = true := ix_in hL h (j := 2) (by omega)
  have s3 : sIn (nI k + 3) L = true := ix_in hL h (j := 3) (by omega)
  have s4 : sIn (nI k + 4) L = true := ix_in hL h (j := 4) (by omega)
  have s5 : nI k + 5 = nI (k + 5) := by rw [show (5 : Int32) = nI 5 from rfl, nI_add]
  obtain ⟨r, σ1, σ2, e1, e2, e3⟩ := op_act (xs (nI k + 1).toNatClampNeg) (xs (nI k + 2).toNatClampNeg) (xs (nI k + 3).toNatClampNeg) σ hR
  dsimp only at e1 e2
  refine ⟨σ2, e3, ?_⟩
  simp only [fj_L_law_1663, s1, s2, s3, s4, grd_true, pt_eq, e1, e2, bd_some, eq_self, if_true, s5]
theorem arm_1706 (xs : Nat → Int32) {L k : Nat} (hL : L ≤ 2560) (h : k + 5 ≤ L) : Arm (fj_L_law_1706 xs L) k := by
  intro σ hR back
  have s1 : sIn (nI k + 1) L = true := ix_in hL h (j := 1) (by omega)
  have s2 : sIn (nI k + 2) L = true := ix_in hL h (j := 2) (by omega)
  have s3 : sIn (nI k + 3) L = true := ix_in hL h (j := 3) (by omega)
  have s4 : sIn (nI k + 4) L = true := ix_in hL h (j := 4) (by omega)
  have s5 : nI k + 5 = nI (k + 5) := by rw [show (5 : Int32) = nI 5 from rfl, nI_add]
  obtain ⟨r, e1, e2⟩ := op_trace (xs (nI k + 1).toNatClampNeg) σ hR
  dsimp only at e1 e2
  refine ⟨σ, hR, ?_⟩
  simp only [fj_L_law_1706, s1, s2, s3, s4, grd_true, pt_eq, e1, e2, bd_some, eq_self, if_true, s5]
theorem arm_1729 (xs : Nat → Int32) {L k : Nat} (hL : L ≤ 2560) (h : k + 5 ≤ L) : Arm (fj_L_law_1729 xs L) k := by
  intro σ hR back
  have s1 : sIn (nI k + 1) L = true := ix_in hL h (j := 1) (by omega)
  have s2 : sIn (nI k + 2) L = true := ix_in hL h (j := 2) (by omega)
  have s3 : sIn (nI k + 3) L = true := ix_in hL h (j := 3) (by omega)
  have s4 : sIn (nI k + 4) L = true := ix_in hL h (j := 4) (by omega)
  have s5 : nI k + 5 = nI (k + 5) := by rw [show (5 : Int32) = nI 5 from rfl, nI_add]
  obtain ⟨r, e1, e2⟩ := op_many (xs (nI k + 1).toNatClampNeg) σ hR
  dsimp only at e1 e2
  refine ⟨σ, hR, ?_⟩
  simp only [fj_L_law_1729, s1, s2, s3, s4, grd_true, pt_eq, e1, e2, bd_some, eq_self, if_true, s5]
theorem arm_1752 (xs : Nat → Int32) {L k : Nat} (hL : L ≤ 2560) (h : k + 5 ≤ L) : Arm (fj_L_law_1752 xs L) k := by
  intro σ hR back
  have s1 : sIn (nI k + 1) L = true := ix_in hL h (j := 1) (by omega)
  have s2 : sIn (nI k + 2) L = true := ix_in hL h (j := 2) (by omega)
  have s3 : sIn (nI k + 3) L = true := ix_in hL h (j := 3) (by omega)
  have s4 : sIn (nI k + 4) L = true := ix_in hL h (j := 4) (by omega)
  have s5 : nI k + 5 = nI (k + 5) := by rw [show (5 : Int32) = nI 5 from rfl, nI_add]
  obtain ⟨r, σ1, σ2, e1, e2, e3⟩ := op_keep σ hR
  dsimp only at e1 e2
  refine ⟨σ2, e3, ?_⟩
  simp only [fj_L_law_1752, s1, s2, s3, s4, grd_true, pt_eq, e1, e2, bd_some, eq_self, if_true, s5]
theorem arm_1765 (xs : Nat → Int32) {L k : Nat} (hL : L ≤ 2560) (h : k + 5 ≤ L) : Arm (fj_L_law_1765 xs L) k := by
  intro σ hR back
  have s1 : sIn (nI k + 1) L = true := ix_in hL h (j := 1) (by omega)
  have s2 : sIn (nI k + 2) L = true := ix_in hL h (j := 2) (by omega)
  have s3 : sIn (nI k + 3) L = true := ix_in hL h (j := 3) (by omega)
  have s4 : sIn (nI k + 4) L = true := ix_in hL h (j := 4) (by omega)
  have s5 : nI k + 5 = nI (k + 5) := by rw [show (5 : Int32) = nI 5 from rfl, nI_add]
  obtain ⟨r, σ1, σ2, e1, e2, e3⟩ := op_again σ hR
  dsimp only at e1 e2
  refine ⟨σ2, e3, ?_⟩
  simp only [fj_L_law_1765, s1, s2, s3, s4, grd_true, pt_eq, e1, e2, bd_some, eq_self, if_true, s5]
theorem law_step (xs : Nat → Int32) {L k : Nat} (hL : L ≤ 2560) (h : k + 5 ≤ L) : Arm (fun back σ x3 => fb_L_law_18 xs L back (σ, x3)) k := by
  intro σ hR back
  have s5 : nI k + 5 = nI (k + 5) := by rw [show (5 : Int32) = nI 5 from rfl, nI_add]
  have hn : ¬ Int32.ofNat L - 5 < nI k := fun g => by
    have e1 : (Int32.ofNat L - 5).toInt = (L : Int) - 5 := sub_int (x := L) (k := 5) (by omega) (by omega)
    have e2 : (nI k).toInt = k := nI_toInt (by omega)
    have := i32_lt.mp g
    omega
  show ∃ τ, Rel τ ∧ fb_L_law_18 xs L back (σ, nI k) = back (τ, nI (k + 5))
  unfold fb_L_law_18
  dsimp only
  rw [if_neg hn, grd_of (sIn_nI (show k < L by omega) (by omega))]
  obtain ⟨v, hv⟩ : ∃ v, v = (xs (nI k).toNatClampNeg) &&& 63 := ⟨_, rfl⟩
  rw [← hv]
  by_cases c0 : v = 0
  · rw [if_pos c0]; exact arm_248 xs hL h σ hR back
  rw [if_neg c0]
  by_cases c1 : v = 1
  · rw [if_pos c1]; exact arm_301 xs hL h σ hR back
  rw [if_neg c1]
  by_cases c2 : v = 2
  · rw [if_pos c2]; exact arm_334 xs hL h σ hR back
  rw [if_neg c2]
  by_cases c3 : v = 3
  · rw [if_pos c3]; exact arm_377 xs hL h σ hR back
  rw [if_neg c3]
  by_cases c4 : v = 4
  · rw [if_pos c4]; exact arm_410 xs hL h σ hR back
  rw [if_neg c4]
  by_cases c5 : v = 5
  · rw [if_pos c5]; exact arm_433 xs hL h σ hR back
  rw [if_neg c5]
  by_cases c6 : v = 6
  · rw [if_pos c6]; exact arm_456 xs hL h σ hR back
  rw [if_neg c6]
  by_cases c7 : v = 7
  · rw [if_pos c7]; exact arm_489 xs hL h σ hR back
  rw [if_neg c7]
  by_cases c8 : v = 8
  · rw [if_pos c8]; exact arm_552 xs hL h σ hR back
  rw [if_neg c8]
  by_cases c9 : v = 9
  · rw [if_pos c9]; exact arm_565 xs hL h σ hR back
  rw [if_neg c9]
  by_cases c10 : v = 10
  · rw [if_pos c10]; exact arm_598 xs hL h σ hR back
  rw [if_neg c10]
  by_cases c11 : v = 11
  · rw [if_pos c11]; exact arm_621 xs hL h σ hR back
  rw [if_neg c11]
  by_cases c12 : v = 12
  · rw [if_pos c12]; exact arm_644 xs hL h σ hR back
  rw [if_neg c12]
  by_cases c13 : v = 13
  · rw [if_pos c13]; exact arm_667 xs hL h σ hR back
  rw [if_neg c13]
  by_cases c14 : v = 14
  · rw [if_pos c14]; exact arm_700 xs hL h σ hR back
  rw [if_neg c14]
  by_cases c15 : v = 15
  · rw [if_pos c15]; exact arm_743 xs hL h σ hR back
  rw [if_neg c15]
  by_cases c16 : v = 16
  · rw [if_pos c16]; exact arm_776 xs hL h σ hR back
  rw [if_neg c16]
  by_cases c17 : v = 17
  · rw [if_pos c17]; exact arm_809 xs hL h σ hR back
  rw [if_neg c17]
  by_cases c18 : v = 18
  · rw [if_pos c18]; exact arm_842 xs hL h σ hR back
  rw [if_neg c18]
  by_cases c19 : v = 19
  · rw [if_pos c19]; exact arm_865 xs hL h σ hR back
  rw [if_neg c19]
  by_cases c20 : v = 20
  · rw [if_pos c20]; exact arm_888 xs hL h σ hR back
  rw [if_neg c20]
  by_cases c21 : v = 21
  · rw [if_pos c21]; exact arm_901 xs hL h σ hR back
  rw [if_neg c21]
  by_cases c22 : v = 22
  · rw [if_pos c22]; exact arm_944 xs hL h σ hR back
  rw [if_neg c22]
  by_cases c23 : v = 23
  · rw [if_pos c23]; exact arm_977 xs hL h σ hR back
  rw [if_neg c23]
  by_cases c24 : v = 24
  · rw [if_pos c24]; exact arm_1010 xs hL h σ hR back
  rw [if_neg c24]
  by_cases c25 : v = 25
  · rw [if_pos c25]; exact arm_1043 xs hL h σ hR back
  rw [if_neg c25]
  by_cases c26 : v = 26
  · rw [if_pos c26]; exact arm_1076 xs hL h σ hR back
  rw [if_neg c26]
  by_cases c27 : v = 27
  · rw [if_pos c27]; exact arm_1109 xs hL h σ hR back
  rw [if_neg c27]
  by_cases c28 : v = 28
  · rw [if_pos c28]; exact arm_1122 xs hL h σ hR back
  rw [if_neg c28]
  by_cases c29 : v = 29
  · rw [if_pos c29]; exact arm_1145 xs hL h σ hR back
  rw [if_neg c29]
  by_cases c30 : v = 30
  · rw [if_pos c30]; exact arm_1158 xs hL h σ hR back
  rw [if_neg c30]
  by_cases c31 : v = 31
  · rw [if_pos c31]; exact arm_1171 xs hL h σ hR back
  rw [if_neg c31]
  by_cases c32 : v = 32
  · rw [if_pos c32]; exact arm_1214 xs hL h σ hR back
  rw [if_neg c32]
  by_cases c33 : v = 33
  · rw [if_pos c33]; exact arm_1227 xs hL h σ hR back
  rw [if_neg c33]
  by_cases c34 : v = 34
  · rw [if_pos c34]; exact arm_1250 xs hL h σ hR back
  rw [if_neg c34]
  by_cases c35 : v = 35
  · rw [if_pos c35]; exact arm_1273 xs hL h σ hR back
  rw [if_neg c35]
  by_cases c36 : v = 36
  · rw [if_pos c36]; exact arm_1316 xs hL h σ hR back
  rw [if_neg c36]
  by_cases c37 : v = 37
  · rw [if_pos c37]; exact arm_1349 xs hL h σ hR back
  rw [if_neg c37]
  by_cases c38 : v = 38
  · rw [if_pos c38]; exact arm_1392 xs hL h σ hR back
  rw [if_neg c38]
  by_cases c39 : v = 39
  · rw [if_pos c39]; exact arm_1415 xs hL h σ hR back
  rw [if_neg c39]
  by_cases c40 : v = 40
  · rw [if_pos c40]; exact arm_1458 xs hL h σ hR back
  rw [if_neg c40]
  by_cases c41 : v = 41
  · rw [if_pos c41]; exact arm_1501 xs hL h σ hR back
  rw [if_neg c41]
  by_cases c42 : v = 42
  · rw [if_pos c42]; exact arm_1544 xs hL h σ hR back
  rw [if_neg c42]
  by_cases c43 : v = 43
  · rw [if_pos c43]; exact arm_1587 xs hL h σ hR back
  rw [if_neg c43]
  by_cases c44 : v = 44
  · rw [if_pos c44]; exact arm_1630 xs hL h σ hR back
  rw [if_neg c44]
  by_cases c45 : v = 45
  · rw [if_pos c45]; exact arm_1663 xs hL h σ hR back
  rw [if_neg c45]
  by_cases c46 : v = 46
  · rw [if_pos c46]; exact arm_1706 xs hL h σ hR back
  rw [if_neg c46]
  by_cases c47 : v = 47
  · rw [if_pos c47]; exact arm_1729 xs hL h σ hR back
  rw [if_neg c47]
  by_cases c48 : v = 48
  · rw [if_pos c48]; exact arm_1752 xs hL h σ hR back
  rw [if_neg c48]
  by_cases c49 : v = 49
  · rw [if_pos c49]; exact arm_1765 xs hL h σ hR back
  rw [if_neg c49]
  exact ⟨σ, hR, by rw [s5]⟩
