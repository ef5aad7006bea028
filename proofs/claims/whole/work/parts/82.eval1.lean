/-! THE RULES asked: the picture, and the class -/
def und (k w : Int32) : Bool := decide (w = 0) || (decide (k = w) || ((decide (w = 1) && decide (k = 3)) || (decide (w = 2) && decide (k = 5))))
theorem und_m (σ : sS) (k w : Int32) : f_X12_isUnder σ k w = some (if und k w = true then 1 else 0) := by
  unfold f_X12_isUnder fj_X12_isUnder_19 fj_X12_isUnder_29 und
  by_cases h1 : w = 0
  · simp [h1]
  by_cases h2 : k = w
  · simp [h1, h2]
  by_cases h3 : w = 1
  · subst h3
    by_cases h4 : k = 3 <;> simp [h2, h4]
  by_cases h4 : w = 2
  · subst h4
    by_cases h5 : k = 5 <;> simp [h2, h5]
  · simp [h1, h2, h3, h4]
theorem und_x (σ : sS) (k w : Int32) : f_X11_isUnder σ k w = some (if und k w = true then 1 else 0) := und_m σ k w
def aFa (a : aK) (i k : Nat) : Int32 := if k = 0 then a.1 0 1 else if k = 1 then a.1 2 i else if k = 2 then a.1 3 i else if k = 3 then a.1 4 i else nI i
def qRu (rs : List aR) (k : Int32) (f : Nat → Int32) (r : Nat) : Bool := match rs[r]? with | some x => und k x.1 && x.2.2.2 f | none => false
def aRi (a : aK) (i : Nat) : Option Nat := fst (qRu a.2 (a.1 1 i) (aFa a i)) a.2.length 0
def dOf (rs : List aR) (o : Option Nat) : Int32 := match o with | none => -1 | some r => (match rs[r]? with | some x => x.2.1 | none => -1)
def gOf (rs : List aR) (o : Option Nat) : Int32 := match o with | none => 0 | some r => (match rs[r]? with | some x => x.2.2.1 | none => 0)
def rI (o : Option Nat) : Int32 := match o with | some j => nI j | none => -3
def gGo (d : Int32) : Int32 := if d = 2 then 1 else if d = 3 then 2 else 0
def gPr (d p g : Int32) : Int32 := if d = 0 then 0 else if d = 1 then p + g else p
def gTw (k y : Int32) : Int32 := if k = 2 ∨ k = 5 then (2 : Int32) * y else y
def aGo (a : aK) (i : Nat) : Int32 := gGo (dOf a.2 (aRi a i))
def aPr (a : aK) (i : Nat) : Int32 := gTw (a.1 1 i) (gPr (dOf a.2 (aRi a i)) (a.1 4 i) (gOf a.2 (aRi a i)))
theorem fst_some {p : Nat → Bool} : ∀ {n i j : Nat}, fst p n i = some j → i ≤ j ∧ j < i + n ∧ p j = true ∧ ∀ k, i ≤ k → k < j → p k = false
  | 0, i, j, h => by unfold fst at h; cases h
  | n + 1, i, j, h => by
    unfold fst at h
    cases hp : p i with
    | true =>
      rw [hp] at h
      simp at h
      subst h
      exact ⟨by omega, by omega, hp, fun k h1 h2 => by omega⟩
    | false =>
      rw [hp] at h
      simp at h
      obtain ⟨h1, h2, h3, h4⟩ := fst_some h
      refine ⟨by omega, by omega, h3, fun k k1 k2 => ?_⟩
      by_cases e : k = i
      · rw [e]; exact hp
      · exact h4 k (by omega) k2
theorem fst_none {p : Nat → Bool} : ∀ {n i : Nat}, fst p n i = none → ∀ k, i ≤ k → k < i + n → p k = false
  | 0, i, h, k, k1, k2 => by omega
  | n + 1, i, h, k, k1, k2 => by
    unfold fst at h
    cases hp : p i with
    | true => rw [hp] at h; simp at h
    | false =>
      rw [hp] at h
      simp at h
      by_cases e : k = i
      · rw [e]; exact hp
      · exact fst_none h k (by omega) (by omega)
theorem fst_is {p : Nat → Bool} {n i j : Nat} (h1 : i ≤ j) (h2 : j < i + n) (h3 : p j = true) (h4 : ∀ k, i ≤ k → k < j → p k = false) : fst p n i = some j := by
  cases h : fst p n i with
  | none => rw [fst_none h j h1 h2] at h3; cases h3
  | some k =>
    obtain ⟨g1, g2, g3, g4⟩ := fst_some h
    by_cases e1 : k < j
    · rw [h4 k g1 e1] at g3; cases g3
    by_cases e2 : j < k
    · rw [g4 j h1 e2] at h3; cases h3
    rw [show k = j by omega]
theorem fst_non {p : Nat → Bool} {n i : Nat} (h4 : ∀ k, i ≤ k → k < i + n → p k = false) : fst p n i = none := by
  cases h : fst p n i with
  | none => rfl
  | some k =>
    obtain ⟨g1, g2, g3, g4⟩ := fst_some h
    rw [h4 k g1 g2] at g3; cases g3
theorem fst_cg {p q : Nat → Bool} {n i : Nat} (h : ∀ k, i ≤ k → k < i + n → p k = q k) : fst p n i = fst q n i := by
  cases hq : fst q n i with
  | none => exact fst_non fun k h1 h2 => by rw [h k h1 h2]; exact fst_none hq k h1 h2
  | some j =>
    obtain ⟨g1, g2, g3, g4⟩ := fst_some hq
    exact fst_is g1 g2 (by rw [h j g1 g2]; exact g3) fun k h1 h2 => by rw [h k h1 (by omega)]; exact g4 k h1 h2
/-! a condition of the class -/
theorem cRun_succ (co f : Nat → Int32) : ∀ (n i : Nat) (an : Int32), cRun co f i (n + 1) an = cStep f (cRun co f i n an) (co (i + n))
  | 0, i, an => rfl
  | n + 1, i, an => by
    show cRun co f (i + 1) (n + 1) (cStep f an (co i)) = _
    rw [cRun_succ co f n (i + 1), show i + 1 + n = i + (n + 1) by omega]
    rfl
theorem cv_ix {v : Int32} (h1 : ¬ v < 10000) (h2 : v < 10005) : ∃ j : Nat, j < 5 ∧ v - 10000 = nI j := by
  have e1 := mt i32_lt.mpr h1
  have e2 := i32_lt.mp h2
  have t1 : (10000 : Int32).toInt = 10000 := rfl
  have t2 : (10005 : Int32).toInt = 10005 := rfl
  have e : (v - 10000).toInt = v.toInt - 10000 := by
    rw [Int32.toInt_sub]
    exact Int.bmod_eq_of_le (by omega) (by omega)
  exact i32_nI (i := v - 10000) (n := 5) (by omega) (by omega) (by omega)
theorem cVal_cg {f g : Nat → Int32} (h : ∀ k, k < 5 → f k = g k) (v : Int32) : cVal v f = cVal v g := by
  unfold cVal
  by_cases c : ¬ v < 10000 ∧ v < 10005
  · obtain ⟨j, hj, e⟩ := cv_ix c.1 c.2
    rw [if_pos c, if_pos c, e, nI_clamp (by omega), h j hj]
  · rw [if_neg c, if_neg c]
theorem cCmp_cg {f g : Nat → Int32} (h : ∀ k, k < 5 → f k = g k) (c : Int32) : cCmp c f = cCmp c g := by
  unfold cCmp
  rw [cVal_cg h, cVal_cg h]
theorem cStep_cg {f g : Nat → Int32} (h : ∀ k, k < 5 → f k = g k) (an c : Int32) : cStep f an c = cStep g an c := by
  unfold cStep
  rw [cCmp_cg h]
theorem cRunF_cg {co f g : Nat → Int32} (h : ∀ k, k < 5 → f k = g k) : ∀ (n i : Nat) (an : Int32), cRun co f i n an = cRun co g i n an
  | 0, _, _ => rfl
  | n + 1, i, an => by
    show cRun co f (i + 1) n (cStep f an (co i)) = cRun co g (i + 1) n (cStep g an (co i))
    rw [cStep_cg h, cRunF_cg h n]
/-- a rule's condition looks at the five facts alone -/
theorem cRuF_cg {cnt : Int32} {kd de mo st co : Nat → Int32} {rs : List aR} (h : cRu cnt kd de mo st co rs) {r : Nat} {x : aR} (hx : rs[r]? = some x) {f g : Nat → Int32} (hf : ∀ k, k < 5 → f k = g k) : x.2.2.2 f = x.2.2.2 g := by
  obtain ⟨_, ss, _, _, _, h4⟩ := h
  obtain ⟨_, _, _, h5⟩ := h4 r x hx
  have e1 := h5 f
  rw [cRunF_cg hf] at e1
  have e2 := e1.symm.trans (h5 g)
  cases hp : x.2.2.2 f with
  | true => exact (e2.mp hp).symm
  | false =>
    cases hq : x.2.2.2 g with
    | true => rw [e2.mpr hq] at hp; cases hp
    | false => rfl
theorem x_valueOf (σ : sS) (v : Int32) : f_X5_valueOf σ v = some (cVal v (σ.1 14)) := by
  unfold f_X5_valueOf cVal
  by_cases h1 : v < 10000
  · rw [if_pos h1, if_neg (fun q => q.1 h1)]
  · by_cases h2 : v < 10005
    · obtain ⟨j, hj, e⟩ := cv_ix h1 h2
      rw [if_neg h1, if_pos h2, if_pos ⟨h1, h2⟩, pt_eq, e, grd_of (sIn_nI hj (by omega))]
    · rw [if_neg h1, if_neg h2, if_neg (fun q => h2 q.2)]
theorem x_compares (σ : sS) (c : Int32) : f_X5_compares σ c = some (if cCmp c (σ.1 14) = true then 1 else 0) := by
  unfold f_X5_compares cCmp
  simp only [pt_eq, x_valueOf, bd_some]
  by_cases h1 : c >>> (28 &&& 31) = 1
  · simp only [if_pos h1, decide_eq_true_eq]
    split <;> simp_all
  · by_cases h2 : c >>> (28 &&& 31) = 2
    · simp only [if_neg h1, if_pos h2, decide_eq_true_eq]
      split <;> simp_all
    · simp only [if_neg h1, if_neg h2, decide_eq_true_eq]
      split <;> simp_all
theorem x_holds {σ : sS} {r s e : Nat} (hr : r < 8) (h1 : σ.1 10 r = nI s) (h2 : σ.1 10 (r + 1) = nI e) (hse : s ≤ e) (he : e ≤ 100) : f_X5_holds σ (nI r) = some (if cRun (σ.1 11) (σ.1 14) s (e - s) 1 &&& 1 = 1 then 1 else 0) := by
  unfold f_X5_holds fl_X5_holds_10
  rw [grd_of (sIn_nI (show r < 9 by omega) (by omega)), pt_eq, nI_clamp (by omega), h1]
  refine lp_for (body := fb_X5_holds_10 σ) (fun k => (nI r, cRun (σ.1 11) (σ.1 14) s k 1, nI (s + k))) (e - s) _ ?_ ?_ nF 0 (by omega) (nF_big (by omega))
  · intro k hk back
    have hlt : nI (s + k) < nI e := (nn_lt (by omega) (by omega)).mpr (by omega)
    have hin := sIn_nI (show s + k < 100 by omega) (show 100 < 2 ^ 31 by omega)
    have hi9 := sIn_nI (show r + 1 < 9 by omega) (show 9 < 2 ^ 31 by omega)
    rw [cRun_succ]
    show fb_X5_holds_10 σ back (nI r, cRun (σ.1 11) (σ.1 14) s k 1, nI (s + k)) = back (nI r, cStep (σ.1 14) (cRun (σ.1 11) (σ.1 14) s k 1) (σ.1 11 (s + k)), nI (s + k + 1))
    obtain ⟨an, han⟩ : ∃ an, an = cRun (σ.1 11) (σ.1 14) s k 1 := ⟨_, rfl⟩
    obtain ⟨c, hc⟩ : ∃ c, c = σ.1 11 (s + k) := ⟨_, rfl⟩
    rw [← han, ← hc]
    simp only [fb_X5_holds_10, nI_1, grd_of hi9, nI_clamp (show r + 1 < 2 ^ 31 by omega), h2, if_pos hlt, pt_eq, grd_of hin, nI_clamp (show s + k < 2 ^ 31 by omega), ← hc, x_compares, bd_some, fj_X5_holds_84, fj_X5_holds_120]
    unfold cStep
    by_cases c0 : c = 0
    · rw [if_pos c0, if_pos c0]
    by_cases c1 : c = 1
    · rw [if_neg c0, if_pos c1, if_neg c0, if_pos c1]
      by_cases d : an &&& 1 = 1
      · rw [if_pos d, if_pos d]
      · rw [if_neg d, if_neg d]
    by_cases c2 : c = 2
    · rw [if_neg c0, if_neg c1, if_pos c2, if_neg c0, if_neg c1, if_pos c2]
    · rw [if_neg c0, if_neg c1, if_neg c2, if_neg c0, if_neg c1, if_neg c2]
      by_cases d : cCmp c (σ.1 14) = true
      · rw [if_pos d, if_neg (by decide)]
      · rw [if_neg d, if_pos rfl]
  · intro back
    have hi9 := sIn_nI (show r + 1 < 9 by omega) (show 9 < 2 ^ 31 by omega)
    simp only [fb_X5_holds_10, nI_1, grd_of hi9, nI_clamp (show r + 1 < 2 ^ 31 by omega), h2, show s + (e - s) = e by omega, Int32.lt_irrefl, if_false, fj_X5_holds_128]
    split <;> rfl
theorem x_firstFor {σ : sS} {rs : List aR} (hl : rs.length ≤ 8) (h : cRu (σ.1 6 5) (σ.1 7) (σ.1 8) (σ.1 9) (σ.1 10) (σ.1 11) rs) (k : Int32) : f_X5_firstFor σ k = (match fst (qRu rs k (σ.1 14)) rs.length 0 with | some j => some (nI j) | none => some (-3)) := by
  obtain ⟨hn, ss, hs0, hs1, hs2, hs3⟩ := h
  unfold f_X5_firstFor fl_X5_firstFor_2
  have key : ∀ i, i < rs.length → ∀ back, fb_X5_firstFor_2 σ back (k, nI i) = (if qRu rs k (σ.1 14) i = true then some (nI i) else back (k, nI (i + 1))) := by
    intro i hi back
    have hlt : nI i < nI rs.length := (nn_lt (by omega) (by omega)).mpr hi
    have hin := sIn_nI (show i < 8 by omega) (show 8 < 2 ^ 31 by omega)
    obtain ⟨x, hx⟩ : ∃ x, rs[i]? = some x := ⟨_, List.getElem?_eq_getElem hi⟩
    obtain ⟨g1, g2, g3, g4⟩ := hs3 i x hx
    have hh := x_holds (σ := σ) (r := i) (by omega) (hs1 i (by omega)).1 (hs1 (i + 1) (by omega)).1 (hs2 i hi) (hs1 (i + 1) (by omega)).2
    simp only [fb_X5_firstFor_2, hn, if_pos hlt, grd_of hin, nI_clamp (show i < 2 ^ 31 by omega), g1, und_x, bd_some, hh, nI_1]
    have hq : qRu rs k (σ.1 14) i = (und k x.1 && x.2.2.2 (σ.1 14)) := by unfold qRu; rw [hx]
    rw [hq]
    have g4' := g4 (σ.1 14)
    cases hu : und k x.1 with
    | false => simp
    | true =>
      cases hp : x.2.2.2 (σ.1 14) with
      | true => rw [if_pos (g4'.mpr hp)]; simp
      | false =>
        have hc : ¬ (cRun (σ.1 11) (σ.1 14) (ss i) (ss (i + 1) - ss i) 1 &&& 1 = 1) := fun q => by rw [g4'.mp q] at hp; cases hp
        simp [hc]
  have hlp := lp_find (body := fb_X5_firstFor_2 σ) (fun r => (k, nI r)) rs.length (qRu rs k (σ.1 14)) (fun j => some (nI j)) (some (-3)) (fun i hi hp back => by rw [key i hi, if_neg (by rw [hp]; decide)]) (fun i hi hp back => by rw [key i hi, if_pos hp]) (fun back => by simp only [fb_X5_firstFor_2, hn, Int32.lt_irrefl, if_false]) nF 0 (by omega) (nF_big (by omega))
  exact hlp
