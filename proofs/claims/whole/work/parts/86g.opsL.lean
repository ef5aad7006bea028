/-! phases -/
theorem x_ahead {n i : Nat} (h2 : 2 ≤ n) (hi : i < n) : ∃ h, h < n ∧ h ≠ i ∧ nx n h = i ∧ h = (if i = 0 then n - 1 else i - 1) := by
  refine ⟨if i = 0 then n - 1 else i - 1, ?_⟩
  unfold nx
  by_cases c : i = 0
  · subst c
    rw [if_pos rfl]
    exact ⟨by omega, by omega, by rw [if_neg (by omega)], rfl⟩
  · rw [if_neg c]
    exact ⟨by omega, by omega, by rw [if_pos (by omega)]; omega, rfl⟩
/-- one beside i is high -/
def bsd (a : aK) (i : Nat) (t : Int32) : Bool := decide (2 ≤ aN a) && (aHg a (if i = 0 then aN a - 1 else i - 1) t || aHg a (nx (aN a) i) t)
theorem x_beside {σ : sS} {a : aK} (hv : vK a) (hE : cE σ a) {i : Nat} (hi : i < aN a) (t : Int32) : f_X3_isOneBesideHigh σ (nI i) t = some (if bsd a i t = true then 1 else 0) := by
  have h9 : aN a ≤ 9 := hv.1.1.2
  have n1 : σ.1 1 4 = nI (aN a) := hE.1.1.1.trans hv.1.1.1
  have e2 : (nI (aN a) < 2) ↔ aN a < 2 := nn_lt (a := aN a) (b := 2) (by omega) (by omega)
  unfold f_X3_isOneBesideHigh bsd
  rw [n1]
  by_cases c : aN a < 2
  · rw [if_pos (e2.mpr c), decide_eq_false (by omega), Bool.false_and]
    rfl
  · rw [if_neg (mt e2.mp c), decide_eq_true (by omega), Bool.true_and]
    have h26 : ∀ h, h < aN a → fj_X3_isOneBesideHigh_26 σ (nI i) t (nI h) = some (if (aHg a h t || aHg a (nx (aN a) i) t) = true then 1 else 0) := fun h hh => by
      unfold fj_X3_isOneBesideHigh_26 fj_X3_isOneBesideHigh_49
      rw [x_highNow hv hE hh, bd_some, x_next n1 h9 hi, bd_some, x_highNow hv hE (nx_lt hi), bd_some]
      cases aHg a h t <;> cases aHg a (nx (aN a) i) t <;> simp
    by_cases ci : i = 0
    · subst ci
      have e1 : nI (aN a) - 1 = nI (aN a - 1) := by
        have := nI_pred (aN a - 1)
        rwa [show aN a - 1 + 1 = aN a by omega] at this
      rw [if_pos nI_0, e1, h26 _ (by omega), if_pos rfl]
    · have e1 : nI i - 1 = nI (i - 1) := by
        have := nI_pred (i - 1)
        rwa [show i - 1 + 1 = i by omega] at this
      rw [if_neg (nI_ne0 (by omega) (by omega)), e1, h26 _ (by omega), if_neg ci]
/-- with a phase, high together with one beside it, in the t-th turn -/
def mt1 (a : aK) (i : Nat) (ph : Int32) (t : Nat) : Bool := aHg (aSet a 3 i ph) i (nI t) && bsd a i (nI t)
theorem x_meets {σ : sS} {a : aK} (hv : vK a) (hE : cE σ a) {i : Nat} (hi : i < aN a) (ph : Int32) : ∃ τ, f_X3_meetsOneBeside σ (nI i) ph = some (if alB (mt1 a i ph) 100 = true then 0 else 1, τ) ∧ ∀ q, q ≠ 14 → τ.1 q = σ.1 q := by
  obtain ⟨τ, e, off⟩ := x_paceWith hv hE.1 hi ph
  have hEτ : cE τ a := cE_14 off hE
  have e5 : τ.1 1 5 = a.1 0 1 := hEτ.1.1.2.1
  have e100 : (100 : Int32) = nI 100 := rfl
  refine ⟨τ, ?_, off⟩
  unfold f_X3_meetsOneBeside fl_X3_meetsOneBeside_10
  rw [e, bd_some]
  have key : ∀ k, k < 100 → ∀ back, fb_X3_meetsOneBeside_10 back (τ, nI i, ph, aGo (aSet a 3 i ph) i, nI k) = (if mt1 a i ph k = true then some (1, τ) else back (τ, nI i, ph, aGo (aSet a 3 i ph) i, nI (k + 1))) := by
    intro k hk back
    have hlt : nI k < nI 100 := (nn_lt (by omega) (by omega)).mpr hk
    simp only [fb_X3_meetsOneBeside_10, e100, if_pos hlt, x_place hv hEτ.1 hi, bd_some, x_ht hv hEτ.1 hi, e5, x_beside hv hEτ hi, nI_1]
    unfold mt1
    rw [aHg_own]
    by_cases c : aHt a i (aPl a i ph (aGo (aSet a 3 i ph) i) (nI k)) < a.1 0 1
    · rw [if_pos c, decide_eq_true c]
      rfl
    · rw [if_neg c, decide_eq_false c]
      cases bsd a i (nI k) <;> simp
  have h := lp_find (body := fb_X3_meetsOneBeside_10) (fun k => (τ, nI i, ph, aGo (aSet a 3 i ph) i, nI k)) 100 (mt1 a i ph) (fun _ => some (1, τ)) (some (0, τ)) (fun k hk hp back => by rw [key k hk, if_neg (by rw [hp]; decide)]) (fun k hk hp back => by rw [key k hk, if_pos hp]) (fun back => by simp only [fb_X3_meetsOneBeside_10, e100, Int32.lt_irrefl, if_false]) nF 0 (by omega) (nF_big (by omega))
  refine h.trans ?_
  rw [Nat.sub_zero]
  cases hf : fst (mt1 a i ph) 100 0 with
  | none => rw [if_pos (fst_alB.mp hf)]
  | some j => rw [if_neg (fun q => by rw [fst_alB.mpr q] at hf; cases hf)]
/-- the model's way: a pair in which i is, both high -/
def mt2 (b : aK) (i : Nat) (t : Int32) (k : Nat) : Bool := (decide (k = i) || decide (nx (aN b) k = i)) && (aHg b k t && aHg b (nx (aN b) k) t)
theorem mt_eq {a : aK} {i : Nat} (hi : i < aN a) (ph : Int32) (t : Nat) : mt1 a i ph t = (aHg (aSet a 3 i ph) i (nI t) && !(alB (mt2 (aSet a 3 i ph) i (nI t)) (aPa (aN a)))) := by
  have hn : aN (aSet a 3 i ph) = aN a := aN_ph a i ph
  unfold mt1
  cases hb : aHg (aSet a 3 i ph) i (nI t) with
  | false => rfl
  | true =>
    rw [Bool.true_and, Bool.true_and]
    cases hal : alB (mt2 (aSet a 3 i ph) i (nI t)) (aPa (aN a)) with
    | true =>
      have hall := alB_iff.mp hal
      show bsd a i (nI t) = false
      cases hbs : bsd a i (nI t) with
      | false => rfl
      | true =>
        unfold bsd at hbs
        rw [Bool.and_eq_true, Bool.or_eq_true] at hbs
        obtain ⟨h2, h3⟩ := hbs
        have h2' : 2 ≤ aN a := of_decide_eq_true h2
        obtain ⟨h, hh1, hh2, hh3, hh4⟩ := x_ahead h2' hi
        rw [← hh4] at h3
        have hp3 : 3 ≤ aN a → aPa (aN a) = aN a := fun g => by unfold aPa; rw [if_neg (by omega)]
        have hp2 : aN a = 2 → aPa (aN a) = 1 := fun g => by unfold aPa; rw [g]; rfl
        have key : ∀ k, k < aN a → k ≠ i → aHg a k (nI t) = true → (nx (aN a) k = i ∨ k = nx (aN a) i) → False := fun k hk hki hkh hor => by
          have hk' : aHg (aSet a 3 i ph) k (nI t) = true := by rw [aHg_oth ph _ hki]; exact hkh
          by_cases g3 : 3 ≤ aN a
          · rcases hor with g | g
            · have := hall k (by rw [hp3 g3]; exact hk)
              unfold mt2 at this
              rw [hn, g, hk', hb, decide_eq_true rfl] at this
              simp at this
            · have := hall i (by rw [hp3 g3]; exact hi)
              unfold mt2 at this
              rw [hn, ← g, hk', hb, decide_eq_true rfl] at this
              simp at this
          · have e2 : aN a = 2 := by omega
            have := hall 0 (by rw [hp2 e2]; omega)
            have hx : nx 2 0 = 1 := rfl
            unfold mt2 at this
            rw [hn, e2, hx] at this
            rcases (by omega : i = 0 ∨ i = 1) with e | e
            · have ek : k = 1 := by omega
              subst e ek
              rw [hk', hb] at this
              simp at this
            · have ek : k = 0 := by omega
              subst e ek
              rw [hk', hb] at this
              simp at this
        rcases h3 with h3 | h3
        · exact (key h hh1 hh2 h3 (Or.inl hh3)).elim
        · exact (key (nx (aN a) i) (nx_lt hi) (by unfold nx; split <;> omega) h3 (Or.inr rfl)).elim
    | false =>
      show bsd a i (nI t) = true
      have hex : ∃ k, k < aPa (aN a) ∧ mt2 (aSet a 3 i ph) i (nI t) k = true := Classical.byContradiction fun hne => by
        have : alB (mt2 (aSet a 3 i ph) i (nI t)) (aPa (aN a)) = true := alB_iff.mpr fun k hk => by
          cases hm : mt2 (aSet a 3 i ph) i (nI t) k with
          | false => rfl
          | true => exact (hne ⟨k, hk, hm⟩).elim
        rw [this] at hal
        cases hal
      obtain ⟨k, hk, hm⟩ := hex
      have hpl := aPa_le (aN a)
      have h2' : 2 ≤ aN a := by unfold aPa at hk; split at hk <;> omega
      obtain ⟨h, hh1, hh2, hh3, hh4⟩ := x_ahead h2' hi
      unfold mt2 at hm
      rw [hn, Bool.and_eq_true, Bool.and_eq_true, Bool.or_eq_true] at hm
      obtain ⟨m1, m2, m3⟩ := hm
      unfold bsd
      rw [decide_eq_true h2', Bool.true_and, ← hh4]
      by_cases e : k = i
      · have hne : nx (aN a) k ≠ i := by rw [e]; unfold nx; split <;> omega
        rw [aHg_oth ph _ hne, e] at m3
        rw [m3, Bool.or_true]
      · have hnx : nx (aN a) k = i := by
          rcases m1 with m1 | m1
          · exact absurd (of_decide_eq_true m1) e
          · exact of_decide_eq_true m1
        rw [aHg_oth ph _ e] at m2
        have ekh : k = h := by
          have h3 := hh3
          unfold nx at hnx h3
          split at hnx <;> split at h3 <;> omega
        rw [← ekh, m2, Bool.true_or]
theorem m_alone {σ : sS} {a : aK} (hv : vK a) {i : Nat} (hi : i < aN a) {ph : Int32} (hp : bt ph 0 11) (hE : mEv σ (aSet a 3 i ph)) : f_X12_isAlone σ (nI i) = some (if alB (mt1 a i ph) 100 = true then 1 else 0) := by
  have hvb : vK (aSet a 3 i ph) := v_pha hv hp
  have hn : aN (aSet a 3 i ph) = aN a := aN_ph a i ph
  have h9 : aN a ≤ 9 := hv.1.1.2
  have hib : i < aN (aSet a 3 i ph) := by rw [hn]; exact hi
  have n2 : σ.1 84 0 = nI (aN (aSet a 3 i ph)) := hE.1.1.1.trans hvb.1.1.1
  have e100 : (100 : Int32) = nI 100 := rfl
  have hpl := aPa_le (aN a)
  obtain ⟨b, hb⟩ : ∃ b, b = aSet a 3 i ph := ⟨_, rfl⟩
  rw [← hb] at hvb hn hib n2 hE
  have h9b : aN b ≤ 9 := by omega
  obtain ⟨r, er, hr⟩ := m_pairs n2 h9b
  unfold f_X12_isAlone fl_X12_isAlone_4
  -- the inner loop, told a set
  have inner : ∀ (is : Bool) (k : Nat) (w : Int32) (Q : Nat → Bool), (∀ j, j < aPa (aN b) → (tb w j && tb w (nx (aN b) j)) = Q j) → ∀ back : Int32 × Int32 × Int32 → Option Int32, fl_X12_isAlone_37 σ back (nI i, (if is = true then 1 else 0), nI k, w, 0) = back (nI i, (if (is && alB (fun j => (decide (j = i) || decide (nx (aN b) j = i)) && Q j) (aPa (aN b))) = true then 1 else 0), nI (k + 1)) := by
    intro is k w Q hQ back
    unfold fl_X12_isAlone_37
    have h0 : (if is = true then (1 : Int32) else 0) = (if (is && alB (fun j => (decide (j = i) || decide (nx (aN b) j = i)) && Q j) 0) = true then 1 else 0) := by
      rw [show alB (fun j => (decide (j = i) || decide (nx (aN b) j = i)) && Q j) 0 = true from rfl, Bool.and_true]
    rw [h0]
    refine lp_for (body := fb_X12_isAlone_37 σ back) (fun j => (nI i, (if (is && alB (fun j => (decide (j = i) || decide (nx (aN b) j = i)) && Q j) j) = true then (1 : Int32) else 0), nI k, w, nI j)) (aPa (aN b)) _ ?_ ?_ nF 0 (by omega) (nF_big (by rw [hn]; omega))
    · intro j hj bk
      have hjn : j < aN b := by rw [hn] at hj ⊢; omega
      have hnxl := nx_lt hjn
      have hlt : nI j < r := (hr j (by omega)).mpr hj
      have hq := hQ j hj
      have hji : (nI j = nI i) ↔ j = i := nI_eq (by omega) (by omega)
      have hxi : (nI (nx (aN b) j) = nI i) ↔ nx (aN b) j = i := nI_eq (by omega) (by omega)
      have hal : alB (fun j => (decide (j = i) || decide (nx (aN b) j = i)) && Q j) (j + 1) = (alB (fun j => (decide (j = i) || decide (nx (aN b) j = i)) && Q j) j && !((decide (j = i) || decide (nx (aN b) j = i)) && Q j)) := rfl
      rw [hal, ← hq]
      obtain ⟨A, hA⟩ : ∃ A, A = alB (fun j => (decide (j = i) || decide (nx (aN b) j = i)) && Q j) j := ⟨_, rfl⟩
      rw [← hA]
      simp only [fb_X12_isAlone_37, er, bd_some, if_pos hlt, hji, m_next n2 h9b hjn, hxi, fj_X12_isAlone_62, fj_X12_isAlone_67, fj_X12_isAlone_102, fj_X12_isAlone_106, fj_X12_isAlone_107, m_has, tb_get w j (show j < 32 by omega), tb_get w (nx (aN b) j) (show nx (aN b) j < 32 by omega), nI_1]
      by_cases c1 : j = i
      · cases is <;> cases A <;> cases tb w j <;> cases tb w (nx (aN b) j) <;> simp [c1]
      · by_cases c2 : nx (aN b) j = i
        · cases is <;> cases A <;> cases tb w j <;> cases tb w (nx (aN b) j) <;> simp [c1, c2]
        · cases is <;> cases A <;> simp [c1, c2]
    · intro bk
      simp only [fb_X12_isAlone_37, er, bd_some, if_neg (mt (hr _ (show aPa (aN b) < 100 by rw [hn]; omega)).mp (Nat.lt_irrefl _)), nI_1]
  have stepv : ∀ k, (alB (mt1 a i ph) (k + 1)) = (alB (mt1 a i ph) k && !(mt1 a i ph k)) := fun _ => rfl
  have hmt : ∀ k, mt1 a i ph k = (aHg b i (nI k) && !(alB (mt2 b i (nI k)) (aPa (aN b)))) := fun k => by rw [mt_eq hi ph k, hb, aN_ph]
  have h := lp_wf (body := fb_X12_isAlone_4 σ) (I := fun p => ∃ k, k ≤ 100 ∧ p = (nI i, (if alB (mt1 a i ph) k = true then (1 : Int32) else 0), nI k)) (m := fun p => 100 - p.2.2.toNatClampNeg) (P := fun X => X = some (if alB (mt1 a i ph) 100 = true then 1 else 0)) (fun p hp => by
    obtain ⟨k, hk, hy⟩ := hp
    subst hy
    by_cases c : k < 100
    · have hlt : nI k < nI 100 := (nn_lt (by omega) (by omega)).mpr c
      cases hA : alB (mt1 a i ph) k with
      | false =>
        right
        refine ⟨some 0, ?_, fun back => ?_⟩
        · have hA2 : ¬ alB (mt1 a i ph) 100 = true := fun q => by
            have := alB_iff.mp q
            have h2 : alB (mt1 a i ph) k = true := alB_iff.mpr fun x hx => this x (by omega)
            rw [h2] at hA
            cases hA
          show some 0 = _
          rw [if_neg hA2]
        · simp only [fb_X12_isAlone_4, e100, if_pos hlt]
          simp [show sBo 0 = true from rfl, grd_true]
      | true =>
        left
        refine ⟨(nI i, (if alB (mt1 a i ph) (k + 1) = true then (1 : Int32) else 0), nI (k + 1)), ⟨k + 1, by omega, rfl⟩, ?_, fun back => ?_⟩
        · show 100 - (nI (k + 1)).toNatClampNeg < 100 - (nI k).toNatClampNeg
          rw [nI_clamp (by omega), nI_clamp (by omega)]
          omega
        · rw [stepv, hA, Bool.true_and, hmt]
          simp only [fb_X12_isAlone_4, e100, if_pos hlt, m_isHigh hvb hE hib, bd_some, fj_X12_isAlone_32, m_setHigh hvb hE]
          have i1 := inner true k (aSt b (nI k)) (fun j => aHg b j (nI k) && aHg b (nx (aN b) j) (nI k)) (fun j hj => by
            have hjn : j < aN b := by rw [hn] at hj ⊢; omega
            have hnxl := nx_lt hjn
            unfold aSt
            rw [tb_oS (by omega) (by omega), tb_oS (by omega) (by omega), decide_eq_true hjn, decide_eq_true hnxl, Bool.true_and, Bool.true_and]) back
          have i0 := inner true k 0 (fun j => false) (fun j hj => by rw [tb_0]; rfl) back
          rw [show (if true = true then (1 : Int32) else 0) = 1 from rfl] at i1 i0
          rw [show (if True then (1 : Int32) else 0) = 1 from if_pos trivial]
          have halF : alB (fun j => (decide (j = i) || decide (nx (aN b) j = i)) && false) (aPa (aN b)) = true := alB_iff.mpr fun x _ => by simp
          cases aHg b i (nI k) with
          | false =>
            simp only [show ((1 : Int32) = 0) = False by simp, if_false, show ((if false = true then (1 : Int32) else 0) = 0) = True by simp, if_true]
            rw [i0, halF]
            rfl
          | true =>
            simp only [show ((1 : Int32) = 0) = False by simp, if_false, show ((if true = true then (1 : Int32) else 0) = 0) = False by simp]
            rw [i1]
            show back (nI i, (if (true && alB (mt2 b i (nI k)) (aPa (aN b))) = true then 1 else 0), nI (k + 1)) = _
            cases alB (mt2 b i (nI k)) (aPa (aN b)) <;> simp
    · right
      have ek : k = 100 := by omega
      subst ek
      refine ⟨some (if alB (mt1 a i ph) 100 = true then 1 else 0), rfl, fun back => ?_⟩
      simp only [fb_X12_isAlone_4, e100, Int32.lt_irrefl, if_false]
      exact grd_of (by cases alB (mt1 a i ph) 100 <;> rfl) _) nF (nI i, 1, 0) (nF_big (by show 100 - _ < 4000; omega)) ⟨0, by omega, rfl⟩
  exact h
