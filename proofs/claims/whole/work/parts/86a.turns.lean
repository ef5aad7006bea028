/-! clashes, rings -/
def nx (n i : Nat) : Nat := if i + 1 < n then i + 1 else 0
def aPa (n : Nat) : Nat := if n < 3 then n - 1 else n
def cl (a : aK) (t : Int32) (i : Nat) : Bool := aHg a i t && aHg a (nx (aN a) i) t
def aCl (a : aK) (t : Int32) : Option Nat := fst (cl a t) (aPa (aN a)) 0
def rM (o : Option Nat) : Int32 := match o with | some j => nI j | none => -1
theorem aPa_le (n : Nat) : aPa n ≤ n := by unfold aPa; split <;> omega
theorem nx_lt {n i : Nat} (h : i < n) : nx n i < n := by unfold nx; split <;> omega
theorem st_bit {a : aK} (hv : vK a) (t : Int32) {i : Nat} (hi : i < aN a) : ((aSt a t >>> (nI i &&& 31)) &&& 1 = 1) ↔ aHg a i t = true := by
  have h9 : aN a ≤ 9 := hv.1.1.2
  rw [tb_get _ _ (by omega)]
  unfold aSt
  rw [tb_oS (by omega) (by omega), decide_eq_true hi, Bool.true_and]
theorem x_next {σ : sS} {n : Nat} (hn : σ.1 1 4 = nI n) (h9 : n ≤ 9) {i : Nat} (hi : i < n) : f_X3_nextOf σ (nI i) = some (nI (nx n i)) := by
  unfold f_X3_nextOf nx
  rw [nI_1, hn]
  by_cases c : i + 1 < n
  · rw [if_pos ((nn_lt (by omega) (by omega)).mpr c), if_pos c]
  · rw [if_neg (mt (nn_lt (by omega) (by omega)).mp c), if_neg c, nI_0]
theorem m_next {σ : sS} {n : Nat} (hn : σ.1 84 0 = nI n) (h9 : n ≤ 9) {i : Nat} (hi : i < n) : f_X12_nextOf σ (nI i) = some (nI (nx n i)) := by
  unfold f_X12_nextOf nx
  rw [sin_0_316, grd_true, tn_0, nI_1, hn]
  by_cases c : i + 1 < n
  · rw [if_pos ((nn_lt (by omega) (by omega)).mpr c), if_pos c]
  · rw [if_neg (mt (nn_lt (by omega) (by omega)).mp c), if_neg c, nI_0]
theorem x_pairs {σ : sS} {n : Nat} (hn : σ.1 1 4 = nI n) (h9 : n ≤ 9) : f_X3_pairs σ = some (nI (aPa n)) := by
  unfold f_X3_pairs aPa
  rw [hn]
  have e3 : (nI n < 3) ↔ n < 3 := nn_lt (a := n) (b := 3) (by omega) (by omega)
  by_cases c : n < 3
  · rw [if_pos (e3.mpr c), if_pos c]
    rcases (by omega : n = 0 ∨ n = 1 ∨ n = 2) with e | e | e <;> subst e <;> decide
  · rw [if_neg (mt e3.mp c), if_neg c]
theorem m_pairs {σ : sS} {n : Nat} (hn : σ.1 84 0 = nI n) (h9 : n ≤ 9) : ∃ r, f_X12_pairs σ = some r ∧ ∀ i, i < 100 → (nI i < r ↔ i < aPa n) := by
  unfold f_X12_pairs aPa
  simp only [sin_0_316, grd_true, tn_0, hn]
  have e3 : (2 < nI n) ↔ 2 < n := nn_lt (a := 2) (b := n) (by omega) (by omega)
  by_cases c : 2 < n
  · refine ⟨nI n, by rw [if_pos (e3.mpr c)], fun i hi => ?_⟩
    rw [if_neg (by omega)]
    exact nn_lt (by omega) (by omega)
  · refine ⟨nI n - 1, by rw [if_neg (mt e3.mp c)], fun i hi => ?_⟩
    rw [if_pos (by omega)]
    rw [i32_lt, nI_m1 (by omega), nI_toInt (by omega)]
    omega
theorem x_clash1 {σ : sS} {a : aK} (hv : vK a) (hE : cE σ a) (t : Int32) : f_X3_firstOfClash σ t = some (rI (aCl a t)) := by
  have h9 : aN a ≤ 9 := hv.1.1.2
  have n1 : σ.1 1 4 = nI (aN a) := hE.1.1.1.trans hv.1.1.1
  have hp := aPa_le (aN a)
  unfold f_X3_firstOfClash fl_X3_firstOfClash_8
  rw [x_setHigh hv hE, bd_some]
  have key : ∀ i, i < aPa (aN a) → ∀ back, fb_X3_firstOfClash_8 σ back (aSt a t, nI i) = (if cl a t i = true then some (nI i) else back (aSt a t, nI (i + 1))) := by
    intro i hi back
    have hlt : nI i < nI (aPa (aN a)) := (nn_lt (by omega) (by omega)).mpr hi
    simp only [fb_X3_firstOfClash_8, x_pairs n1 h9, bd_some, if_pos hlt, x_next n1 h9 (show i < aN a by omega), st_bit hv t (show i < aN a by omega), st_bit hv t (nx_lt (show i < aN a by omega)), nI_1]
    unfold cl
    cases aHg a i t <;> cases aHg a (nx (aN a) i) t <;> simp
  have h := lp_find (body := fb_X3_firstOfClash_8 σ) (fun k => (aSt a t, nI k)) (aPa (aN a)) (cl a t) (fun j => some (nI j)) (some (-3)) (fun i hi hpi back => by rw [key i hi, if_neg (by rw [hpi]; decide)]) (fun i hi hpi back => by rw [key i hi, if_pos hpi]) (fun back => by simp only [fb_X3_firstOfClash_8, x_pairs n1 h9, bd_some, Int32.lt_irrefl, if_false]) nF 0 (by omega) (nF_big (by omega))
  refine h.trans ?_
  show (match aCl a t with | some j => some (nI j) | none => some (-3)) = _
  cases aCl a t <;> rfl
theorem m_has (σ : sS) (x y : Int32) : f_X12_has σ x y = some (if (x >>> (y &&& 31)) &&& 1 = 1 then 1 else 0) := by
  unfold f_X12_has
  split <;> rfl
theorem m_clash1 {σ : sS} {a : aK} (hv : vK a) (hE : mEv σ a) (t : Int32) : f_X12_clashIn σ t = some (rM (aCl a t)) := by
  have h9 : aN a ≤ 9 := hv.1.1.2
  have n2 : σ.1 84 0 = nI (aN a) := hE.1.1.1.trans hv.1.1.1
  have hp := aPa_le (aN a)
  obtain ⟨r, er, hr⟩ := m_pairs n2 h9
  unfold f_X12_clashIn fl_X12_clashIn_8
  rw [m_setHigh hv hE, bd_some]
  have key : ∀ i, i < aPa (aN a) → ∀ back, fb_X12_clashIn_8 σ back (aSt a t, nI i) = (if cl a t i = true then some (nI i) else back (aSt a t, nI (i + 1))) := by
    intro i hi back
    have hlt : nI i < r := (hr i (by omega)).mpr hi
    simp only [fb_X12_clashIn_8, er, bd_some, if_pos hlt, m_has, m_next n2 h9 (show i < aN a by omega), st_bit hv t (show i < aN a by omega), st_bit hv t (nx_lt (show i < aN a by omega)), nI_1]
    unfold cl
    cases aHg a i t <;> cases aHg a (nx (aN a) i) t <;> simp
  have h := lp_find (body := fb_X12_clashIn_8 σ) (fun k => (aSt a t, nI k)) (aPa (aN a)) (cl a t) (fun j => some (nI j)) (some (-1)) (fun i hi hpi back => by rw [key i hi, if_neg (by rw [hpi]; decide)]) (fun i hi hpi back => by rw [key i hi, if_pos hpi]) (fun back => by simp only [fb_X12_clashIn_8, er, bd_some, if_neg (mt (hr _ (show aPa (aN a) < 100 by omega)).mp (Nat.lt_irrefl _))]) nF 0 (by omega) (nF_big (by omega))
  refine h.trans ?_
  show (match aCl a t with | some j => some (nI j) | none => some (-1)) = _
  cases aCl a t <;> rfl
theorem aCl_lt {a : aK} (hv : vK a) {t : Int32} {j : Nat} (h : aCl a t = some j) : j < 9 := by
  have h9 : aN a ≤ 9 := hv.1.1.2
  have hp := aPa_le (aN a)
  have := fst_some h
  omega
theorem rI_m3 {a : aK} (hv : vK a) (t : Int32) : (rI (aCl a t) = -3) ↔ aCl a t = none := by
  cases h : aCl a t with
  | none => exact ⟨fun _ => rfl, fun _ => rfl⟩
  | some j =>
    refine ⟨fun e => ?_, fun e => by cases e⟩
    have hj := aCl_lt hv h
    have e1 : (nI j).toInt = (-3 : Int32).toInt := congrArg Int32.toInt e
    rw [nI_toInt (by omega)] at e1
    exact absurd e1 (by have : (-3 : Int32).toInt = -3 := rfl; omega)
theorem rM_neg {a : aK} (hv : vK a) (t : Int32) : (rM (aCl a t) < 0) ↔ aCl a t = none := by
  cases h : aCl a t with
  | none => exact ⟨fun _ => rfl, fun _ => by decide⟩
  | some j =>
    refine ⟨fun e => ?_, fun e => by cases e⟩
    have hj := aCl_lt hv h
    exact absurd e (nI_pos (by omega))
def rg (a : aK) (i : Nat) (t : Int32) : Bool := decide (irm (nI i + t) (nI (aN a)) = 0) && aHg a i t
theorem nn_ne {a : aK} (hv : vK a) {i : Nat} (hi : i < aN a) : ¬ nI (aN a) = 0 := nI_ne0 (by omega) (by have : aN a ≤ 9 := hv.1.1.2; omega)
theorem x_ring {σ : sS} {a : aK} (hv : vK a) (hE : cE σ a) {i : Nat} (hi : i < aN a) (t : Int32) : f_X3_catchesRing σ (nI i) t = some (if rg a i t = true then 1 else 0) := by
  have n1 : σ.1 1 4 = nI (aN a) := hE.1.1.1.trans hv.1.1.1
  unfold f_X3_catchesRing rg
  rw [n1, x_rem _ (nn_ne hv hi), bd_some, x_highNow hv hE hi, bd_some]
  by_cases c : irm (nI i + t) (nI (aN a)) = 0
  · rw [if_pos c, decide_eq_true c]
    cases aHg a i t <;> simp
  · rw [if_neg c, decide_eq_false c]
    simp
theorem m_ring {σ : sS} {a : aK} (hv : vK a) (hE : mEv σ a) {i : Nat} (hi : i < aN a) (t : Int32) : f_X12_hasRing σ (nI i) t = some (if rg a i t = true then 1 else 0) := by
  have n2 : σ.1 84 0 = nI (aN a) := hE.1.1.1.trans hv.1.1.1
  unfold f_X12_hasRing rg
  rw [sin_0_316, grd_true, tn_0, n2, grd_of (decide_eq_true (nn_ne hv hi)), m_isHigh hv hE hi, bd_some]
  by_cases c : irm (nI i + t) (nI (aN a)) = 0
  · rw [if_pos c, decide_eq_true c]
    cases aHg a i t <;> simp
  · rw [if_neg c, decide_eq_false c]
    simp
theorem x_rings {σ : sS} {a : aK} (hv : vK a) (hE : cE σ a) {i : Nat} (hi : i < aN a) (u : Nat) {n : Nat} (hn : n ≤ 200) : f_X3_ringsCaught σ (nI i) (nI u) (nI n) = some (cS (fun k => rg a i (nI (u + k))) n) := by
  unfold f_X3_ringsCaught fl_X3_ringsCaught_6
  refine lp_for (body := fb_X3_ringsCaught_6 σ) (fun k => (nI i, nI u, nI n, cS (fun k => rg a i (nI (u + k))) k, nI k)) n _ ?_ ?_ nF 0 (by omega) (nF_big (by omega))
  · intro k hk back
    have hlt : nI k < nI n := (nn_lt (by omega) (by omega)).mpr hk
    simp only [fb_X3_ringsCaught_6, if_pos hlt, nI_add, x_ring hv hE hi, bd_some, nI_1]
    show _ = back (nI i, nI u, nI n, (if rg a i (nI (u + k)) = true then cS (fun k => rg a i (nI (u + k))) k + 1 else cS (fun k => rg a i (nI (u + k))) k), nI (k + 1))
    cases rg a i (nI (u + k)) <;> simp
  · intro back
    simp only [fb_X3_ringsCaught_6, Int32.lt_irrefl, if_false]
theorem m_rings {σ : sS} {a : aK} (hv : vK a) (hE : mEv σ a) {i : Nat} (hi : i < aN a) {u n : Nat} (hu : u ≤ 9999) (hn : n ≤ 200) : f_X12_ringsOf σ (nI i) (nI u) (nI n) = some (cS (fun k => rg a i (nI (u + k))) n) := by
  unfold f_X12_ringsOf fl_X12_ringsOf_6
  refine lp_for (body := fb_X12_ringsOf_6 σ) (fun k => (nI i, nI u, nI n, cS (fun k => rg a i (nI (u + k))) k, nI (u + k))) n _ ?_ ?_ nF 0 (by omega) (nF_big (by omega))
  · intro k hk back
    have hlt : nI (u + k) < nI (u + n) := (nn_lt (by omega) (by omega)).mpr (by omega)
    simp only [fb_X12_ringsOf_6, nI_add, if_pos hlt, m_ring hv hE hi, bd_some, nI_1, fj_X12_ringsOf_31]
    show _ = back (nI i, nI u, nI n, (if rg a i (nI (u + k)) = true then cS (fun k => rg a i (nI (u + k))) k + 1 else cS (fun k => rg a i (nI (u + k))) k), nI (u + k + 1))
    cases rg a i (nI (u + k)) <;> simp
  · intro back
    simp only [fb_X12_ringsOf_6, nI_add, Int32.lt_irrefl, if_false]
/-! what is asked for -/
theorem x_isTurn (σ : sS) (t : Int32) : f_X11_isTurn σ t = some (if 0 ≤ t.toInt ∧ t.toInt ≤ 9999 then 1 else 0) := by
  unfold f_X11_isTurn
  rw [x_within, bd_some]
  exact grd_of (sBo_if _ _) _
theorem m_isTurn (σ : sS) (t : Int32) : f_X12_isTurn σ t = some (if 0 ≤ t.toInt ∧ t.toInt ≤ 9999 then 1 else 0) := by
  unfold f_X12_isTurn
  rw [m_inI, bd_some]
  exact grd_of (sBo_if _ _) _
theorem x_isSpan (σ : sS) (n : Int32) : f_X11_isSpan σ n = some (if 1 ≤ n.toInt ∧ n.toInt ≤ 200 then 1 else 0) := by
  unfold f_X11_isSpan
  rw [x_within, bd_some]
  exact grd_of (sBo_if _ _) _
theorem m_isSpan (σ : sS) (t n : Int32) : f_X12_isSpan σ t n = some (if (0 ≤ t.toInt ∧ t.toInt ≤ 9999) ∧ 1 ≤ n.toInt ∧ n.toInt ≤ 200 then 1 else 0) := by
  have e1 : (1 : Int64).toInt = 1 := rfl
  have e2 : (200 : Int64).toInt = 200 := rfl
  unfold f_X12_isSpan
  rw [m_isTurn, bd_some, m_inI, bd_some, e1, e2]
  by_cases c1 : 0 ≤ t.toInt ∧ t.toInt ≤ 9999
  · by_cases c2 : 1 ≤ n.toInt ∧ n.toInt ≤ 200
    · rw [if_pos c1, if_neg (by decide), if_pos c2, if_neg (by decide), if_pos ⟨c1, c2⟩]
    · rw [if_pos c1, if_neg (by decide), if_neg c2, if_pos rfl, if_neg (fun q => c2 q.2)]
  · rw [if_neg c1, if_pos rfl, if_neg (fun q => c1 q.1)]
