/-! an animal in a turn: class and model -/
def pTn (k t : Int32) : Int32 := if k = 2 then t / 2 else if k = 5 then t / 2 + irm t 2 else if k = 4 then t + t / 7 else t
def pTe (k g t : Int32) : Int32 := if g = 0 then pTn k t else if g = 1 then pTn k t / 2 else 0
def aPl (a : aK) (i : Nat) (ph g t : Int32) : Int32 := irm (ph + pTe (a.1 1 i) g t) (a.1 2 i)
def aHt (a : aK) (i : Nat) (pl : Int32) : Int32 := (if pl < a.1 2 i - pl then pl else a.1 2 i - pl) + (if a.1 1 i = 3 then 1 else 0)
def aPn (a : aK) (i : Nat) (t : Int32) : Int32 := aPl a i (a.1 3 i) (aGo a i) t
def aHn (a : aK) (i : Nat) (t : Int32) : Int32 := aHt a i (aPn a i t)
def aHg (a : aK) (i : Nat) (t : Int32) : Bool := !decide (aHn a i t < a.1 0 1)
def aSt (a : aK) (t : Int32) : Int32 := oS (fun i => aHg a i t) (aN a)
theorem d2_true : decide (¬ (2 : Int32) = 0) = true := by decide
theorem d7_true : decide (¬ (7 : Int32) = 0) = true := by decide
/-- the class has asked; the model has asked -/
def cE (σ : sS) (a : aK) : Prop := cK σ a ∧ ∀ i, i < aN a → σ.1 12 i = aGo a i ∧ σ.1 13 i = aPr a i
def mEv (σ : sS) (a : aK) : Prop := mK (σ.1 84) a ∧ ∀ i, i < aN a → σ.1 88 i = aGo a i
def scr (q j : Nat) : Prop := q = 12 ∨ q = 13 ∨ q = 14 ∨ (q = 19 ∧ j = 4) ∨ (53 ≤ q ∧ q ≤ 66) ∨ (87 ≤ q ∧ q ≤ 95) ∨ (q = 83 ∧ (j = 5 ∨ j = 6))
def frm (σ τ : sS) : Prop := ∀ q j, ¬ scr q j → τ.1 q j = σ.1 q j
theorem frm_rf {σ : sS} : frm σ σ := fun _ _ _ => rfl
theorem frm_tr {σ τ υ : sS} (h1 : frm σ τ) (h2 : frm τ υ) : frm σ υ := fun q j h => (h2 q j h).trans (h1 q j h)
theorem frm_agr {P : Nat → Nat → Bool} {σ τ : sS} (h : frm σ τ) (hp : ∀ q j, P q j = true → ¬ scr q j) : agr P σ τ := fun q j g => h q j (hp q j g)
theorem frm_84 {σ τ : sS} (h : frm σ τ) : τ.1 84 = σ.1 84 := funext fun j => h 84 j (by unfold scr; omega)
theorem Rel_frm {σ τ : sS} (h : frm σ τ) (hR : Rel σ) : Rel τ := by
  refine Rel_of (frm_agr h fun q j g => ?_) (frm_agr h fun q j g => ?_) (fun q j g => ?_) hR
  · have := pCur_r g
    unfold scr
    omega
  · have : q = 84 := by unfold pMod at g; simpa using g
    unfold scr
    omega
  · have : pKep q j = true ∨ pRest q j = true := by
      unfold pOth at g
      unfold pRest
      cases hk : pKep q j with
      | true => exact Or.inl rfl
      | false => rw [hk] at g; exact Or.inr g
    rcases this with k | k
    · have := pKep_q k
      exact h q j (by unfold scr; omega)
    · unfold pRest at k
      have k2 : pTap q j = true ∨ pRow q j = true ∨ pShe q j = true ∨ pShf q j = true ∨ pTra q j = true := by
        simpa using k
      rcases k2 with k | k | k | k | k
      · have : q = 45 ∨ q = 50 ∨ q = 52 ∨ q = 97 ∨ (q = 83 ∧ j = 18) := by unfold pTap at k; simp at k; omega
        exact h q j (by unfold scr; omega)
      · have : q = 67 ∨ q = 68 ∨ q = 96 ∨ (q = 83 ∧ j = 16) := by unfold pRow at k; simp at k; omega
        exact h q j (by unfold scr; omega)
      · have := pShe_q k
        exact h q j (by unfold scr; omega)
      · have := pShf_q k
        exact h q j (by unfold scr; omega)
      · have : q = 81 ∨ q = 82 ∨ q = 104 ∨ (q = 83 ∧ j = 32) := by unfold pTra at k; simp at k; omega
        exact h q j (by unfold scr; omega)
/-- an answer, with nothing but scratch changed -/
theorem Op_an {f g : sS → Option (Int32 × sS)} (h : ∀ σ a, vK a → cK σ a → ∃ r τ, f σ = some (r, τ) ∧ frm σ τ ∧ ∀ υ, mK (υ.1 84) a → ∃ ω, g υ = some (r, ω) ∧ frm υ ω) : Op f g := by
  intro σ hR
  obtain ⟨⟨a, hv, hc, hm⟩, ho⟩ := hR
  obtain ⟨r, τ, e1, e2, e3⟩ := h σ a hv hc
  obtain ⟨ω, e4, e5⟩ := e3 τ (by rw [frm_84 e2]; exact hm)
  exact ⟨r, τ, ω, e1, e4, Rel_frm (frm_tr e2 e5) ⟨⟨a, hv, hc, hm⟩, ho⟩⟩
theorem x_askE {σ : sS} {a : aK} (hv : vK a) (hc : cK σ a) : ∃ τ, f_X3_askRules σ = some τ ∧ cE τ a ∧ (∀ q, q ≠ 12 → q ≠ 13 → q ≠ 14 → τ.1 q = σ.1 q) ∧ frm σ τ := by
  obtain ⟨τ, e1, e2, e3⟩ := x_ask hv hc
  exact ⟨τ, e1, ⟨cK_scr e2 hc, e3⟩, e2, fun q j h => by rw [e2 q (fun e => h (by unfold scr; omega)) (fun e => h (by unfold scr; omega)) (fun e => h (by unfold scr; omega))]⟩
theorem m_goesE {σ : sS} {a : aK} (hv : vK a) (hm : mK (σ.1 84) a) : ∃ τ, f_X12_findGoes σ = some τ ∧ mEv τ a ∧ (∀ q, q ≠ 83 → q ≠ 87 → q ≠ 88 → τ.1 q = σ.1 q) ∧ frm σ τ := by
  obtain ⟨τ, e1, e2, e3, e4⟩ := m_goes hv hm
  refine ⟨τ, e1, ⟨by rw [e2 84 (by omega) (by omega) (by omega)]; exact hm, e4⟩, e2, fun q j h => ?_⟩
  by_cases c : q = 83
  · subst c
    exact e3 j (fun e => h (by unfold scr; omega)) (fun e => h (by unfold scr; omega))
  · rw [e2 q c (fun e => h (by unfold scr; omega)) (fun e => h (by unfold scr; omega))]
theorem ck_ne {a : aK} (hv : vK a) {i : Nat} (hi : i < aN a) : ¬ a.1 2 i = 0 := fun e => by
  have h := (hv.2.1 i hi).2.1
  unfold bt at h
  rw [e] at h
  exact absurd h.1 (by decide)
theorem x_rem (σ : sS) {v w : Int32} (h : ¬ w = 0) : f_X11_remainder σ v w = some (irm v w) := by
  unfold f_X11_remainder
  rw [if_neg h, grd_of (decide_eq_true h)]
theorem x_teeth (σ : sS) (k t : Int32) : f_X3_teethAsItGoes σ k t = some (pTn k t) := by
  unfold f_X3_teethAsItGoes pTn
  by_cases k2 : k = 2
  · rw [if_pos k2, if_pos k2, grd_of d2_true]
  by_cases k3 : k = 3
  · subst k3
    simp
  by_cases k4 : k = 4
  · subst k4
    rw [if_neg (by decide), if_neg (by decide), if_pos rfl, grd_of d7_true, if_neg (by decide), if_neg (by decide), if_pos rfl]
  by_cases k5 : k = 5
  · subst k5
    rw [if_neg (by decide), if_neg (by decide), if_neg (by decide), if_pos rfl, grd_of d2_true, grd_of d2_true, if_neg (by decide), if_pos rfl]
  · rw [if_neg k2, if_neg k3, if_neg k4, if_neg k5, if_neg k2, if_neg k5, if_neg k4]
theorem x_place {σ : sS} {a : aK} (hv : vK a) (hc : cK σ a) {i : Nat} (hi : i < aN a) (ph g t : Int32) : f_X3_placeWith σ (nI i) ph g t = some (aPl a i ph g t) := by
  have h9 : aN a ≤ 9 := hv.1.1.2
  have hin := sIn_nI (show i < 9 by omega) (show 9 < 2 ^ 31 by omega)
  have hcl := nI_clamp (show i < 2 ^ 31 by omega)
  obtain ⟨e1, e2, e3, e4⟩ := hc.2.1 i hi
  unfold f_X3_placeWith aPl pTe
  simp only [grd_of hin, hcl, e1, e2, x_teeth, bd_some, x_rem _ (ck_ne hv hi), grd_of d2_true]
  by_cases g0 : g = 0
  · rw [if_pos g0, if_pos g0]
  · by_cases g1 : g = 1
    · rw [if_neg g0, if_pos g1, if_neg g0, if_pos g1]
    · rw [if_neg g0, if_neg g1, if_neg g0, if_neg g1, Int32.add_zero]
theorem x_placeNow {σ : sS} {a : aK} (hv : vK a) (hE : cE σ a) {i : Nat} (hi : i < aN a) (t : Int32) : f_X3_placeNow σ (nI i) t = some (aPn a i t) := by
  have h9 : aN a ≤ 9 := hv.1.1.2
  have hin := sIn_nI (show i < 9 by omega) (show 9 < 2 ^ 31 by omega)
  have hcl := nI_clamp (show i < 2 ^ 31 by omega)
  obtain ⟨e1, e2, e3, e4⟩ := hE.1.2.1 i hi
  unfold f_X3_placeNow
  simp only [grd_of hin, hcl, e3, (hE.2 i hi).1, x_place hv hE.1 hi, bd_some]
  rfl
theorem lt_not {x y : Int32} (h : x < y) : ¬ y < x := fun g => by
  have h1 := i32_lt.mp h
  have h2 := i32_lt.mp g
  omega
theorem lt_eq {x y : Int32} (h1 : ¬ x < y) (h2 : ¬ y < x) : x = y := by
  have g1 := mt i32_lt.mpr h1
  have g2 := mt i32_lt.mpr h2
  exact Int32.toInt_inj.mp (by omega)
theorem x_ht {σ : sS} {a : aK} (hv : vK a) (hc : cK σ a) {i : Nat} (hi : i < aN a) (pl : Int32) : f_X3_heightAt σ (nI i) pl = some (aHt a i pl) := by
  have h9 : aN a ≤ 9 := hv.1.1.2
  have hin := sIn_nI (show i < 9 by omega) (show 9 < 2 ^ 31 by omega)
  have hcl := nI_clamp (show i < 2 ^ 31 by omega)
  obtain ⟨e1, e2, e3, e4⟩ := hc.2.1 i hi
  have e : (if a.1 2 i - pl < pl then a.1 2 i - pl else pl) = (if pl < a.1 2 i - pl then pl else a.1 2 i - pl) := by
    by_cases h1 : a.1 2 i - pl < pl
    · rw [if_pos h1, if_neg (lt_not h1)]
    · by_cases h2 : pl < a.1 2 i - pl
      · rw [if_neg h1, if_pos h2]
      · rw [if_neg h1, if_neg h2]
        exact lt_eq h2 h1
  unfold f_X3_heightAt aHt
  simp only [grd_of hin, hcl, e1, e2, pt_eq, e]
  by_cases k3 : a.1 1 i = 3
  · rw [if_pos k3, if_pos k3]
  · rw [if_neg k3, if_neg k3, Int32.add_zero]
theorem x_heightNow {σ : sS} {a : aK} (hv : vK a) (hE : cE σ a) {i : Nat} (hi : i < aN a) (t : Int32) : f_X3_heightNow σ (nI i) t = some (aHn a i t) := by
  unfold f_X3_heightNow
  rw [x_placeNow hv hE hi, bd_some, x_ht hv hE.1 hi, bd_some]
  rfl
theorem x_highNow {σ : sS} {a : aK} (hv : vK a) (hE : cE σ a) {i : Nat} (hi : i < aN a) (t : Int32) : f_X3_isHighNow σ (nI i) t = some (if aHg a i t = true then 1 else 0) := by
  have e5 : σ.1 1 5 = a.1 0 1 := hE.1.1.2.1
  unfold f_X3_isHighNow aHg
  rw [x_placeNow hv hE hi, bd_some, x_ht hv hE.1 hi, bd_some, e5]
  show (if aHn a i t < a.1 0 1 then some 0 else some 1) = _
  by_cases c : aHn a i t < a.1 0 1
  · rw [if_pos c, decide_eq_true c]; rfl
  · rw [if_neg c, decide_eq_false c]; rfl
/-! the model -/
theorem m_teeth (σ : sS) (k g t : Int32) : f_X12_teeth σ k g t = some (pTe k g t) := by
  have e : ∀ n, fj_X12_teeth_41 σ g n = some (if g = 0 then n else if g = 1 then n / 2 else 0) := fun n => by
    unfold fj_X12_teeth_41
    by_cases g0 : g = 0
    · rw [if_pos g0, if_pos g0]
    · by_cases g1 : g = 1
      · rw [if_neg g0, if_pos g1, grd_of d2_true, if_neg g0, if_pos g1]
      · rw [if_neg g0, if_neg g1, if_neg g0, if_neg g1]
  unfold f_X12_teeth pTe pTn
  simp only [e, grd_of d2_true, grd_of d7_true]
  by_cases k2 : k = 2
  · simp only [if_pos k2]
  by_cases k5 : k = 5
  · simp only [if_neg k2, if_pos k5]
  by_cases k4 : k = 4
  · simp only [if_neg k2, if_neg k5, if_pos k4]
  · simp only [if_neg k2, if_neg k5, if_neg k4]
theorem m_its0 {σ : sS} {a : aK} (hv : vK a) (hm : mK (σ.1 84) a) {i : Nat} (hi : i < aN a) : f_X12_its σ (nI i) 0 = some (a.1 1 i) := by
  have h9 : aN a ≤ 9 := hv.1.1.2
  have k := m_its σ (i := i) (k := 0) (by omega) (by omega)
  rw [show 6 + 4 * i + 0 = 6 + 4 * i by omega, (hm.2.1 i hi).1, nI_0] at k
  exact k
theorem m_its1 {σ : sS} {a : aK} (hv : vK a) (hm : mK (σ.1 84) a) {i : Nat} (hi : i < aN a) : f_X12_its σ (nI i) 1 = some (a.1 2 i) := by
  have h9 : aN a ≤ 9 := hv.1.1.2
  have k := m_its σ (i := i) (k := 1) (by omega) (by omega)
  rw [show 6 + 4 * i + 1 = 7 + 4 * i by omega, (hm.2.1 i hi).2.1] at k
  exact k
theorem m_its2 {σ : sS} {a : aK} (hv : vK a) (hm : mK (σ.1 84) a) {i : Nat} (hi : i < aN a) : f_X12_its σ (nI i) 2 = some (a.1 3 i) := by
  have h9 : aN a ≤ 9 := hv.1.1.2
  have k := m_its σ (i := i) (k := 2) (by omega) (by omega)
  rw [show 6 + 4 * i + 2 = 8 + 4 * i by omega, (hm.2.1 i hi).2.2.1] at k
  exact k
theorem m_place {σ : sS} {a : aK} (hv : vK a) (hE : mEv σ a) {i : Nat} (hi : i < aN a) (ph t : Int32) : f_X12_placeBy σ (nI i) ph t = some (aPl a i ph (aGo a i) t) := by
  have h9 : aN a ≤ 9 := hv.1.1.2
  have hin := sIn_nI (show i < 9 by omega) (show 9 < 2 ^ 31 by omega)
  have hcl := nI_clamp (show i < 2 ^ 31 by omega)
  unfold f_X12_placeBy aPl
  rw [m_its0 hv hE.1 hi, bd_some, grd_of hin, hcl, hE.2 i hi, m_teeth, bd_some, m_its1 hv hE.1 hi, bd_some, grd_of (decide_eq_true (ck_ne hv hi))]
theorem m_heightBy {σ : sS} {a : aK} (hv : vK a) (hE : mEv σ a) {i : Nat} (hi : i < aN a) (ph t : Int32) : f_X12_heightBy σ (nI i) ph t = some (aHt a i (aPl a i ph (aGo a i) t)) := by
  have e : ∀ y, fj_X12_heightBy_34 σ (nI i) y = some (y + if a.1 1 i = 3 then 1 else 0) := fun y => by
    unfold fj_X12_heightBy_34 fj_X12_heightBy_49
    rw [m_its0 hv hE.1 hi, bd_some]
    by_cases k3 : a.1 1 i = 3
    · rw [if_pos k3, if_pos k3]
    · rw [if_neg k3, if_neg k3]
  unfold f_X12_heightBy aHt
  rw [m_place hv hE hi, bd_some, m_its1 hv hE.1 hi, bd_some, e, e]
  split <;> rfl
theorem m_heightOf {σ : sS} {a : aK} (hv : vK a) (hE : mEv σ a) {i : Nat} (hi : i < aN a) (t : Int32) : f_X12_heightOf σ (nI i) t = some (aHn a i t) := by
  unfold f_X12_heightOf
  rw [m_its2 hv hE.1 hi, bd_some, m_heightBy hv hE hi, bd_some]
  rfl
theorem m_isHigh {σ : sS} {a : aK} (hv : vK a) (hE : mEv σ a) {i : Nat} (hi : i < aN a) (t : Int32) : f_X12_isHigh σ (nI i) t = some (if aHg a i t = true then 1 else 0) := by
  have e5 : σ.1 84 4 = a.1 0 1 := hE.1.1.2.1
  unfold f_X12_isHigh aHg
  rw [m_heightOf hv hE hi, bd_some, sin_4_316, grd_true, tn_4, e5]
  by_cases c : aHn a i t < a.1 0 1
  · rw [if_pos c, decide_eq_true c]; rfl
  · rw [if_neg c, decide_eq_false c]; rfl
theorem m_isDown {σ : sS} {a : aK} (hv : vK a) (hE : mEv σ a) {i : Nat} (hi : i < aN a) (t : Int32) : f_X12_isDown σ (nI i) t = some (if aPn a i t = 0 then 1 else 0) := by
  unfold f_X12_isDown
  rw [m_its2 hv hE.1 hi, bd_some, m_place hv hE hi, bd_some]
  show (if aPn a i t = 0 then some 1 else some 0) = _
  split <;> rfl
/-! the set of those that are high -/
theorem x_setHigh {σ : sS} {a : aK} (hv : vK a) (hE : cE σ a) (t : Int32) : f_X3_setOfHigh σ t = some (aSt a t) := by
  have h9 : aN a ≤ 9 := hv.1.1.2
  have n1 : σ.1 1 4 = nI (aN a) := hE.1.1.1.trans hv.1.1.1
  unfold f_X3_setOfHigh fl_X3_setOfHigh_4
  refine lp_for (body := fb_X3_setOfHigh_4 σ) (fun k => (t, oS (fun i => aHg a i t) k, nI k)) (aN a) _ ?_ ?_ nF 0 (by omega) (nF_big (by omega))
  · intro k hk back
    have hlt : nI k < nI (aN a) := (nn_lt (by omega) (by omega)).mpr hk
    simp only [fb_X3_setOfHigh_4, n1, if_pos hlt, x_highNow hv hE hk, bd_some, pt_eq, nI_1]
    show _ = back (t, (if aHg a k t = true then oS (fun i => aHg a i t) k ||| _ else oS (fun i => aHg a i t) k), nI (k + 1))
    cases aHg a k t <;> simp
  · intro back
    simp only [fb_X3_setOfHigh_4, n1, Int32.lt_irrefl, if_false]
    rfl
theorem m_setHigh {σ : sS} {a : aK} (hv : vK a) (hE : mEv σ a) (t : Int32) : f_X12_highSet σ t = some (aSt a t) := by
  have h9 : aN a ≤ 9 := hv.1.1.2
  have n2 : σ.1 84 0 = nI (aN a) := hE.1.1.1.trans hv.1.1.1
  unfold f_X12_highSet fl_X12_highSet_4
  refine lp_for (body := fb_X12_highSet_4 σ) (fun k => (t, oS (fun i => aHg a i t) k, nI k)) (aN a) _ ?_ ?_ nF 0 (by omega) (nF_big (by omega))
  · intro k hk back
    have hlt : nI k < nI (aN a) := (nn_lt (by omega) (by omega)).mpr hk
    rw [← oS_or (fun i => aHg a i t) k]
    simp only [fb_X12_highSet_4, sin_0_316, grd_true, tn_0, n2, if_pos hlt, m_isHigh hv hE hk, bd_some, fj_X12_highSet_31, nI_1]
    cases aHg a k t <;> simp
  · intro back
    simp only [fb_X12_highSet_4, sin_0_316, grd_true, tn_0, n2, Int32.lt_irrefl, if_false]
    rfl
