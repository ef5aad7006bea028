/-! the model's tuner -/
/-- a set of turns in a long -/
def oL (p : Nat → Bool) : Nat → Int64
  | 0 => 0
  | n + 1 => oL p n ||| (if p n = true then ((1 : Int64) <<< ((nI n).toInt64 &&& 63)) else 0)
theorem tL_oL {p : Nat → Bool} : ∀ {n i : Nat}, n ≤ 64 → i < 64 → tL (oL p n) i = (decide (i < n) && p i)
  | 0, i, _, _ => by
    show tL 0 i = _
    rw [tL_0]
    simp
  | n + 1, i, hn, hi => by
    have ih := tL_oL (p := p) (n := n) (i := i) (by omega) hi
    show tL (oL p n ||| _) i = _
    rw [tL_or, ih]
    by_cases e : i = n
    · subst e
      have h2 : decide (i < i + 1) = true := decide_eq_true (by omega)
      cases hp : p i with
      | true => rw [if_pos rfl, tL_one i hi hi]; simp
      | false => rw [if_neg (by decide), tL_0]; simp
    · have h1 : decide (i < n + 1) = decide (i < n) := by
        by_cases c : i < n
        · rw [decide_eq_true c, decide_eq_true (by omega)]
        · rw [decide_eq_false c, decide_eq_false (by omega)]
      rw [h1]
      cases hp : p n with
      | true => rw [if_pos rfl, tL_one n (by omega) hi, decide_eq_false e, Bool.or_false]
      | false => rw [if_neg (by decide), tL_0, Bool.or_false]
def HB (x y : Int64) (a : aK) (i p : Nat) : Prop := x = oL (fun t => hp a i p t) 50 ∧ y = oL (fun t => hp a i p (50 + t)) 50
theorem HB_apart {x y x' y' : Int64} {a : aK} {i p k q : Nat} (h : HB x y a i p) (h' : HB x' y' a k q) : (x &&& x' = 0 ∧ y &&& y' = 0) ↔ AP a i p k q = true := by
  unfold AP
  rw [tL_z, tL_z, alB_iff, h.1, h.2, h'.1, h'.2]
  constructor
  · rintro ⟨h1, h2⟩ t ht
    by_cases c : t < 50
    · have := h1 t (by omega)
      rw [tL_and, tL_oL (by omega) (by omega), tL_oL (by omega) (by omega), decide_eq_true c, Bool.true_and, Bool.true_and] at this
      exact this
    · have := h2 (t - 50) (by omega)
      rw [tL_and, tL_oL (by omega) (by omega), tL_oL (by omega) (by omega), decide_eq_true (show t - 50 < 50 by omega), Bool.true_and, Bool.true_and, show 50 + (t - 50) = t by omega] at this
      exact this
  · intro hh
    refine ⟨fun b hb => ?_, fun b hb => ?_⟩
    · rw [tL_and, tL_oL (by omega) hb, tL_oL (by omega) hb]
      by_cases c : b < 50
      · rw [decide_eq_true c, Bool.true_and, Bool.true_and]
        exact hh b (by omega)
      · rw [decide_eq_false c, Bool.false_and, Bool.false_and]
    · rw [tL_and, tL_oL (by omega) hb, tL_oL (by omega) hb]
      by_cases c : b < 50
      · rw [decide_eq_true c, Bool.true_and, Bool.true_and]
        exact hh (50 + b) (by omega)
      · rw [decide_eq_false c, Bool.false_and, Bool.false_and]
theorem mx12 (i p : Nat) : ((12 : Int32) * nI i) + nI p = nI (12 * i + p) := by rw [show (12 : Int32) = nI 12 from rfl, pk_mul, nI_add]
theorem m_findHigh {σ : sS} {a : aK} (hv : vK a) (hE : mEv σ a) {i : Nat} (hi : i < aN a) {p : Nat} (hp12 : p < 12) : ∃ τ, f_X12_findHigh σ (nI i) (nI p) = some τ ∧ τ.1 = σ.1 ∧ HB (τ.2 89 (12 * i + p)) (τ.2 90 (12 * i + p)) a i p ∧ ∀ e, e ≠ 12 * i + p → τ.2 89 e = σ.2 89 e ∧ τ.2 90 e = σ.2 90 e := by
  have h9 : aN a ≤ 9 := hv.1.1.2
  have lv : σ.1 84 4 = a.1 0 1 := hE.1.1.2.1
  have i108 := sIn_nI (show 12 * i + p < 108 by omega) (show 108 < 2 ^ 31 by omega)
  have c108 := nI_clamp (show 12 * i + p < 2 ^ 31 by omega)
  obtain ⟨E, hEe⟩ : ∃ E, E = 12 * i + p := ⟨_, rfl⟩
  have hmx : ((12 : Int32) * nI i) + nI p = nI E := by rw [mx12, hEe]
  rw [← hEe] at i108 c108 ⊢
  refine ⟨sJ (sJ σ 89 E (oL (fun t => hp a i p t) 50)) 90 E (oL (fun t => hp a i p (50 + t)) 50), ?_, rfl, ⟨?_, ?_⟩, fun e he => ⟨?_, ?_⟩⟩
  · unfold f_X12_findHigh fl_X12_findHigh_8
    refine lp_for (body := fb_X12_findHigh_8) (fun k => (σ, nI i, nI p, oL (fun t => hp a i p t) k, oL (fun t => hp a i p (50 + t)) k, nI k)) 50 _ ?_ ?_ nF 0 (by omega) (nF_big (by omega))
    · intro k hk back
      have hlt : nI k < (50 : Int32) := (nn_lt (a := k) (b := 50) (by omega) (by omega)).mpr hk
      have e50 : nI k + 50 = nI (50 + k) := by rw [show (50 : Int32) = nI 50 from rfl, nI_add, Nat.add_comm]
      have hs1 : oL (fun t => hp a i p t) (k + 1) = oL (fun t => hp a i p t) k ||| (if hp a i p k = true then ((1 : Int64) <<< ((nI k).toInt64 &&& 63)) else 0) := rfl
      have hs2 : oL (fun t => hp a i p (50 + t)) (k + 1) = oL (fun t => hp a i p (50 + t)) k ||| (if hp a i p (50 + k) = true then ((1 : Int64) <<< ((nI k).toInt64 &&& 63)) else 0) := rfl
      have hd : ∀ t, hp a i p t = !decide (aHt a i (aPl a i (nI p) (aGo a i) (nI t)) < a.1 0 1) := fun _ => rfl
      rw [hs1, hs2, hd, hd]
      simp only [fb_X12_findHigh_8, if_pos hlt, m_heightBy hv hE hi, bd_some, sin_4_316, grd_true, tn_4, lv, fj_X12_findHigh_41, e50, fj_X12_findHigh_73, nI_1]
      by_cases c1 : aHt a i (aPl a i (nI p) (aGo a i) (nI k)) < a.1 0 1
      · by_cases c2 : aHt a i (aPl a i (nI p) (aGo a i) (nI (50 + k))) < a.1 0 1
        · simp [c1, c2]
        · simp [c1, c2]
      · by_cases c2 : aHt a i (aPl a i (nI p) (aGo a i) (nI (50 + k))) < a.1 0 1
        · simp [c1, c2]
        · simp [c1, c2]
    · intro back
      simp only [fb_X12_findHigh_8, if_neg (show ¬ nI 50 < (50 : Int32) by decide), fj_X12_findHigh_82, hmx, grd_of i108, c108, pt_eq]
  · rw [sJ_off _ _ _ _ (by omega), sJ_same]
  · rw [sJ_same]
  · rw [sJ_off _ _ _ _ (by omega), sJ_r, if_pos rfl, if_neg he]
  · rw [sJ_r, if_pos rfl, if_neg he, sJ_off _ _ _ _ (by omega)]
def MB (σ : sS) (a : aK) : Prop := ∀ i, i < aN a → ∀ p, p < ac a i → HB (σ.2 89 (12 * i + p)) (σ.2 90 (12 * i + p)) a i p
theorem m_apart {σ : sS} {a : aK} (hM : MB σ a) (h9 : aN a ≤ 9) {i p k q : Nat} (hi : i < aN a) (hp : p < ac a i) (hp12 : p < 12) (hk : k < aN a) (hq : q < ac a k) (hq12 : q < 12) : f_X12_isApart σ (nI i) (nI p) (nI k) (nI q) = some (if AP a i p k q = true then 1 else 0) := by
  have hap := HB_apart (hM i hi p hp) (hM k hk q hq)
  have i1 := sIn_nI (show 12 * i + p < 108 by omega) (show 108 < 2 ^ 31 by omega)
  have c1 := nI_clamp (show 12 * i + p < 2 ^ 31 by omega)
  have i2 := sIn_nI (show 12 * k + q < 108 by omega) (show 108 < 2 ^ 31 by omega)
  have c2 := nI_clamp (show 12 * k + q < 2 ^ 31 by omega)
  unfold f_X12_isApart
  simp only [mx12, grd_of i1, c1, grd_of i2, c2, lg_cmp_eq]
  by_cases h0 : σ.2 89 (12 * i + p) &&& σ.2 89 (12 * k + q) = 0
  · by_cases h1 : σ.2 90 (12 * i + p) &&& σ.2 90 (12 * k + q) = 0
    · rw [if_pos h0, if_pos h1, if_pos (hap.mp ⟨h0, h1⟩)]
    · rw [if_pos h0, if_neg h1, if_neg (fun g => h1 (hap.mpr g).2)]
  · rw [if_neg h0, if_neg (fun g => h0 (hap.mpr g).1)]
theorem mE_f {σ τ : sS} {a : aK} (h : ∀ q, q ≠ 91 → q ≠ 92 → τ.1 q = σ.1 q) (hE : mEv σ a) : mEv τ a := mE_lo (h 84 (by omega) (by omega)) (h 88 (by omega) (by omega)) hE
def b01 (b : Bool) : Int32 := if b = true then 1 else 0
theorem b01_and (b : Bool) : b01 b &&& 1 = b01 b := by cases b <;> decide
theorem b01_z (b : Bool) : (b01 b = 0) ↔ b = false := by cases b <;> decide
def GL (σ : sS) (a : aK) (f m : Nat) : Prop := ∀ i, m ≤ i → i < aN a → ∀ p, p < ac a i → σ.1 91 (12 * i + p) = b01 (gO a f (aN a - 1 - i) p)
theorem m_ck {σ : sS} {a : aK} (hv : vK a) (hE : mEv σ a) {i : Nat} (hi : i < aN a) : f_X12_its σ (nI i) 1 = some (nI (ac a i)) := by rw [m_its1 hv hE.1 hi, (ac_nI hv hi).1]
theorem m_leads {σ : sS} {a : aK} (hv : vK a) (hE : mEv σ a) (hM : MB σ a) (h1 : 1 ≤ aN a) {f : Nat} (hf : f < ac a 0) : ∃ τ, f_X12_findLeads σ (nI f) = some τ ∧ τ.2 = σ.2 ∧ (∀ q, q ≠ 91 → τ.1 q = σ.1 q) ∧ GL τ a f 1 := by
  have h9 : aN a ≤ 9 := hv.1.1.2
  have n2 : σ.1 84 0 = nI (aN a) := hE.1.1.1.trans hv.1.1.1
  have ee : nI (aN a) - 1 = nI (aN a - 1) := by
    have := nI_pred (aN a - 1)
    rwa [show aN a - 1 + 1 = aN a by omega] at this
  obtain ⟨_, hf2, hf12⟩ := ac_nI hv (show 0 < aN a by omega)
  unfold f_X12_findLeads fl_X12_findLeads_11
  rw [sin_0_316, grd_true, tn_0, n2, pt_eq, ee]
  refine lp_inv (body := fb_X12_findLeads_11) (I := fun d p => p.2 = (nI f, nI (aN a), nI (aN a - 1 - d)) ∧ p.1.2 = σ.2 ∧ (∀ q, q ≠ 91 → p.1.1 q = σ.1 q) ∧ GL p.1 a f (aN a - d)) (e := aN a - 1) (P := fun r => ∃ τ, r = some τ ∧ τ.2 = σ.2 ∧ (∀ q, q ≠ 91 → τ.1 q = σ.1 q) ∧ GL τ a f 1) ?_ ?_ nF 0 (σ, nI f, nI (aN a), nI (aN a - 1)) (by omega) (nF_big (by omega)) ⟨rfl, rfl, fun _ _ => rfl, fun i h1 h2 => absurd h1 (by omega)⟩
  · rintro d hd ⟨τ, y⟩ ⟨hy, a0, a1, a2⟩ back
    have hy2 : y = (nI f, nI (aN a), nI (aN a - 1 - d)) := hy
    subst hy2
    have a0' : τ.2 = σ.2 := a0
    have a1' : ∀ q, q ≠ 91 → τ.1 q = σ.1 q := a1
    have a2' : GL τ a f (aN a - d) := a2
    obtain ⟨i, hi⟩ : ∃ i, i = aN a - 1 - d := ⟨_, rfl⟩
    have hin : i < aN a := by omega
    have hi1 : 1 ≤ i := by omega
    obtain ⟨hc, hc2, hc12⟩ := ac_nI hv hin
    have hpos : (0 : Int32) < nI i := (nn_lt (a := 0) (b := i) (by omega) (by omega)).mpr hi1
    have hm1 : nI i + (-1) = nI (i - 1) := by
      have := pk_m1 (i - 1)
      rwa [show i - 1 + 1 = i by omega] at this
    have hie : (nI i = nI (aN a - 1)) ↔ i = aN a - 1 := nI_eq (by omega) (by omega)
    have hil : (nI i < nI (aN a - 1)) ↔ i < aN a - 1 := nn_lt (by omega) (by omega)
    have hn3 : (nI (aN a) < (3 : Int32)) ↔ aN a < 3 := nn_lt (a := aN a) (b := 3) (by omega) (by omega)
    -- one phase of animal i
    have one : ∀ (ψ : sS) (p : Nat) (bk : sS × Int32 × Int32 × Int32 × Int32 → Option sS), p < ac a i → ψ.2 = σ.2 → (∀ q, q ≠ 91 → ψ.1 q = σ.1 q) → (∀ x, i + 1 ≤ x → x < aN a → ∀ q, q < ac a x → ψ.1 91 (12 * x + q) = b01 (gO a f (aN a - 1 - x) q)) → fb_X12_findLeads_18 back bk (ψ, nI f, nI (aN a), nI i, nI p) = bk (sI ψ 91 (12 * i + p) (b01 (gO a f (aN a - 1 - i) p)), nI f, nI (aN a), nI i, nI (p + 1)) := by
      intro ψ p bk hp b0 b1 b2
      have hEψ : mEv ψ a := mE_f (fun q h _ => b1 q h) hE
      have hMψ : MB ψ a := fun x hx y hy => by rw [b0]; exact hM x hx y hy
      have hlt : nI p < nI (ac a i) := (nn_lt (by omega) (by omega)).mpr hp
      have i108 := sIn_nI (show 12 * i + p < 108 by omega) (show 108 < 2 ^ 31 by omega)
      have c108 := nI_clamp (show 12 * i + p < 2 ^ 31 by omega)
      have e133 : ∀ b : Bool, fj_X12_findLeads_133 back bk ψ (nI f) (nI (aN a)) (nI i) (nI p) (b01 b) = bk (sI ψ 91 (12 * i + p) (b01 b), nI f, nI (aN a), nI i, nI (p + 1)) := fun b => by
        unfold fj_X12_findLeads_133
        rw [mx12, grd_of i108, pt_eq, c108, b01_and, nI_1]
      -- the search in the next animal's phases
      have srch : ∀ b0 : Bool, fl_X12_findLeads_63 back bk (ψ, nI f, nI (aN a), nI i, nI p, b01 b0, 0) = bk (sI ψ 91 (12 * i + p) (b01 (b0 || (decide (i < aN a - 1) && !(alB (fun q => AP a i p (i + 1) q && gO a f (aN a - 1 - (i + 1)) q) (ac a (i + 1)))))), nI f, nI (aN a), nI i, nI (p + 1)) := by
        intro b0
        unfold fl_X12_findLeads_63
        by_cases ci : i < aN a - 1
        rotate_left
        · refine lp_wf (body := fb_X12_findLeads_63 back bk) (I := fun s => s = (ψ, nI f, nI (aN a), nI i, nI p, b01 b0, 0)) (m := fun _ => 0) (P := fun X => X = bk (sI ψ 91 (12 * i + p) (b01 (b0 || (decide (i < aN a - 1) && !(alB (fun q => AP a i p (i + 1) q && gO a f (aN a - 1 - (i + 1)) q) (ac a (i + 1)))))), nI f, nI (aN a), nI i, nI (p + 1))) ?_ nF _ (nF_big (by omega)) rfl
          intro s hs
          subst hs
          right
          refine ⟨_, rfl, fun b2 => ?_⟩
          simp only [fb_X12_findLeads_63, ee, if_neg (mt hil.mp ci), e133]
          rw [decide_eq_false ci, Bool.false_and, Bool.or_false]
        · obtain ⟨hd', hd2, hd12⟩ := ac_nI hv (show i + 1 < aN a by omega)
          rw [decide_eq_true ci, Bool.true_and]
          obtain ⟨Q, hQ⟩ : ∃ Q : Nat → Bool, Q = fun q => AP a i p (i + 1) q && gO a f (aN a - 1 - (i + 1)) q := ⟨_, rfl⟩
          rw [← hQ]
          have mono : ∀ k, k ≤ ac a (i + 1) → (b0 || !(alB Q k)) = true → (b0 || !(alB Q (ac a (i + 1)))) = true := fun k hk h => by
            cases b0 with
            | true => rfl
            | false =>
              rw [Bool.false_or] at h ⊢
              cases hA : alB Q (ac a (i + 1)) with
              | false => rfl
              | true =>
                have : alB Q k = true := alB_iff.mpr fun x hx => alB_iff.mp hA x (by omega)
                rw [this] at h
                cases h
          refine lp_wf (body := fb_X12_findLeads_63 back bk) (I := fun s => ∃ k, k ≤ ac a (i + 1) ∧ s = (ψ, nI f, nI (aN a), nI i, nI p, b01 (b0 || !(alB Q k)), nI k)) (m := fun s => 12 - s.2.2.2.2.2.2.toNatClampNeg) (P := fun X => X = bk (sI ψ 91 (12 * i + p) (b01 (b0 || !(alB Q (ac a (i + 1))))), nI f, nI (aN a), nI i, nI (p + 1))) ?_ nF _ (nF_big (by show 12 - _ < 4000; omega)) ⟨0, by omega, by rw [show alB Q 0 = true from rfl]; simp; rfl⟩
          rintro s ⟨k, hk, hs⟩
          subst hs
          have hlk : nI i < nI (aN a - 1) := hil.mpr ci
          have hck := m_ck hv hEψ (show i + 1 < aN a by omega)
          by_cases c : k < ac a (i + 1)
          · have hltk : nI k < nI (ac a (i + 1)) := (nn_lt (by omega) (by omega)).mpr c
            cases hb : (b0 || !(alB Q k)) with
            | true =>
              right
              refine ⟨_, rfl, fun b2 => ?_⟩
              rw [mono k hk hb]
              have := e133 true
              simp only [fb_X12_findLeads_63, ee, if_pos hlk, nI_1, hck, bd_some, if_pos hltk, show (b01 true = 0) = False by simp [b01], if_false]
              exact this
            | false =>
              left
              rw [Bool.or_eq_false_iff] at hb
              have hal : alB Q k = true := by
                cases h : alB Q k with
                | true => rfl
                | false => rw [h] at hb; exact absurd hb.2 (by decide)
              have hal1 : alB Q (k + 1) = (alB Q k && !(Q k)) := rfl
              have j108 := sIn_nI (show 12 * (i + 1) + k < 108 by omega) (show 108 < 2 ^ 31 by omega)
              have d108 := nI_clamp (show 12 * (i + 1) + k < 2 ^ 31 by omega)
              have hld := b2 (i + 1) (by omega) (by omega) k c
              have hap := m_apart hMψ h9 hin hp (by omega) (show i + 1 < aN a by omega) c (by omega)
              refine ⟨(ψ, nI f, nI (aN a), nI i, nI p, b01 (b0 || !(alB Q (k + 1))), nI (k + 1)), ⟨k + 1, by omega, rfl⟩, ?_, fun b2 => ?_⟩
              · show 12 - (nI (k + 1)).toNatClampNeg < 12 - (nI k).toNatClampNeg
                rw [nI_clamp (by omega), nI_clamp (by omega)]
                omega
              · have hQk : Q k = (AP a i p (i + 1) k && gO a f (aN a - 1 - (i + 1)) k) := by rw [hQ]
                rw [hal1, hal, hb.1, hQk]
                simp only [fb_X12_findLeads_63, ee, if_pos hlk, nI_1, hck, bd_some, if_pos hltk, show (b01 false = 0) = True by simp [b01], if_true, mx12, grd_of j108, d108, hld, b01_z, hap, fj_X12_findLeads_124, fj_X12_findLeads_125]
                cases gO a f (aN a - 1 - (i + 1)) k <;> cases AP a i p (i + 1) k <;> simp [b01]
          · right
            have ek : k = ac a (i + 1) := by omega
            subst ek
            refine ⟨_, rfl, fun b2 => ?_⟩
            simp only [fb_X12_findLeads_63, ee, if_pos hlk, nI_1, hck, bd_some, Int32.lt_irrefl, if_false, e133]
      have hfin : ∀ b : Bool, (b || (decide (i < aN a - 1) && !(alB (fun q => AP a i p (i + 1) q && gO a f (aN a - 1 - (i + 1)) q) (ac a (i + 1))))) = gO a f (aN a - 1 - i) p → fj_X12_findLeads_58 back bk ψ (nI f) (nI (aN a)) (nI i) (nI p) (b01 b) = bk (sI ψ 91 (12 * i + p) (b01 (gO a f (aN a - 1 - i) p)), nI f, nI (aN a), nI i, nI (p + 1)) := fun b hb => by
        unfold fj_X12_findLeads_58
        rw [srch b, hb]
      have h53 := hfin true
      have h57 := hfin false
      simp only [fb_X12_findLeads_18, m_ck hv hEψ hin, bd_some, if_pos hlt, ee]
      by_cases ce : i = aN a - 1
      · have hg0 : gO a f (aN a - 1 - i) p = (decide (aN a < 3) || AP a i p 0 f) := by
          rw [show aN a - 1 - i = 0 by omega, ce]
          rfl
        have hni : ¬ i < aN a - 1 := by omega
        rw [decide_eq_false hni, Bool.false_and, Bool.or_false] at h53 h57
        rw [if_pos (hie.mpr ce)]
        by_cases c3 : aN a < 3
        · rw [if_pos (hn3.mpr c3)]
          unfold fj_X12_findLeads_53
          exact h53 (by rw [hg0, decide_eq_true c3]; rfl)
        · have hap := m_apart hMψ h9 hin hp (by omega) (show 0 < aN a by omega) hf (by omega)
          rw [nI_0] at hap
          rw [if_neg (mt hn3.mp c3), hap, bd_some]
          rw [decide_eq_false c3, Bool.false_or] at hg0
          cases hA : AP a i p 0 f with
          | true =>
            rw [if_pos rfl, if_neg (by decide)]
            unfold fj_X12_findLeads_53
            exact h53 (by rw [hg0, hA])
          | false =>
            rw [if_neg (show ¬ false = true by decide), if_pos rfl]
            unfold fj_X12_findLeads_57
            exact h57 (by rw [hg0, hA])
      · rw [if_neg (mt hie.mp ce)]
        unfold fj_X12_findLeads_57
        refine h57 ?_
        rw [Bool.false_or, decide_eq_true (show i < aN a - 1 by omega), Bool.true_and]
        have e : gO a f ((aN a - 1 - (i + 1)) + 1) p = !(alB (fun q => AP a (aN a - 2 - (aN a - 1 - (i + 1))) p (aN a - 1 - (aN a - 1 - (i + 1))) q && gO a f (aN a - 1 - (i + 1)) q) (ac a (aN a - 1 - (aN a - 1 - (i + 1))))) := rfl
        rw [show aN a - 2 - (aN a - 1 - (i + 1)) = i by omega, show aN a - 1 - (aN a - 1 - (i + 1)) = i + 1 by omega] at e
        rw [show aN a - 1 - i = (aN a - 1 - (i + 1)) + 1 by omega]
        exact e.symm
    have inner : ∃ υ : sS, fl_X12_findLeads_18 back (τ, nI f, nI (aN a), nI i, 0) = back (υ, nI f, nI (aN a), nI (i - 1)) ∧ υ.2 = σ.2 ∧ (∀ q, q ≠ 91 → υ.1 q = σ.1 q) ∧ (∀ p, p < ac a i → υ.1 91 (12 * i + p) = b01 (gO a f (aN a - 1 - i) p)) ∧ ∀ e, 12 * i + 12 ≤ e → υ.1 91 e = τ.1 91 e := by
      unfold fl_X12_findLeads_18
      refine lp_inv (body := fb_X12_findLeads_18 back) (I := fun p s => s.2 = (nI f, nI (aN a), nI i, nI p) ∧ s.1.2 = σ.2 ∧ (∀ q, q ≠ 91 → s.1.1 q = σ.1 q) ∧ (∀ x, x < p → s.1.1 91 (12 * i + x) = b01 (gO a f (aN a - 1 - i) x)) ∧ ∀ e, 12 * i + 12 ≤ e → s.1.1 91 e = τ.1 91 e) (e := ac a i) (P := fun r => ∃ υ : sS, r = back (υ, nI f, nI (aN a), nI (i - 1)) ∧ υ.2 = σ.2 ∧ (∀ q, q ≠ 91 → υ.1 q = σ.1 q) ∧ (∀ p, p < ac a i → υ.1 91 (12 * i + p) = b01 (gO a f (aN a - 1 - i) p)) ∧ ∀ e, 12 * i + 12 ≤ e → υ.1 91 e = τ.1 91 e) ?_ ?_ nF 0 (τ, nI f, nI (aN a), nI i, 0) (by omega) (nF_big (by omega)) ⟨rfl, a0', a1', fun _ h => absurd h (Nat.not_lt_zero _), fun _ _ => rfl⟩
      · rintro p hp ⟨ψ, z⟩ ⟨hz, b0, b1, b2, b3⟩ bk
        have hz2 : z = (nI f, nI (aN a), nI i, nI p) := hz
        subst hz2
        have b0' : ψ.2 = σ.2 := b0
        have b1' : ∀ q, q ≠ 91 → ψ.1 q = σ.1 q := b1
        have b2' : ∀ x, x < p → ψ.1 91 (12 * i + x) = b01 (gO a f (aN a - 1 - i) x) := b2
        have b3' : ∀ e, 12 * i + 12 ≤ e → ψ.1 91 e = τ.1 91 e := b3
        refine ⟨(sI ψ 91 (12 * i + p) (b01 (gO a f (aN a - 1 - i) p)), nI f, nI (aN a), nI i, nI (p + 1)), ⟨rfl, b0', fun q hq => ?_, fun x hx => ?_, fun e he => ?_⟩, ?_⟩
        · show (sI ψ 91 (12 * i + p) _).1 q = _
          rw [sI_off _ _ _ _ hq]
          exact b1' q hq
        · show (sI ψ 91 (12 * i + p) _).1 91 (12 * i + x) = _
          rw [sI_r, if_pos rfl]
          by_cases c : x = p
          · rw [c, if_pos rfl]
          · rw [if_neg (by omega)]
            exact b2' x (by omega)
        · show (sI ψ 91 (12 * i + p) _).1 91 e = _
          rw [sI_r, if_pos rfl, if_neg (by omega)]
          exact b3' e he
        · exact one ψ p bk hp b0' b1' (fun x hx1 hx2 q hq => by rw [b3' _ (by omega)]; exact a2' x (by omega) hx2 q hq)
      · rintro ⟨ψ, z⟩ ⟨hz, b0, b1, b2, b3⟩ bk
        have hz2 : z = (nI f, nI (aN a), nI i, nI (ac a i)) := hz
        subst hz2
        have b1' : ∀ q, q ≠ 91 → ψ.1 q = σ.1 q := b1
        have hEψ : mEv ψ a := mE_f (fun q h _ => b1' q h) hE
        refine ⟨ψ, ?_, b0, b1, b2, b3⟩
        simp only [fb_X12_findLeads_18, m_ck hv hEψ hin, bd_some, Int32.lt_irrefl, if_false, hm1]
    obtain ⟨υ, r1, r2, r3, r4, r5⟩ := inner
    refine ⟨(υ, nI f, nI (aN a), nI (i - 1)), ⟨by rw [show i - 1 = aN a - 1 - (d + 1) by omega], r2, r3, fun e e1 e2 p hp => ?_⟩, ?_⟩
    · show υ.1 91 (12 * e + p) = _
      by_cases c : e = i
      · subst c
        exact r4 p hp
      · rw [r5 _ (by omega)]
        exact a2' e (by omega) e2 p hp
    · rw [← hi]
      simp only [fb_X12_findLeads_11, if_pos hpos]
      exact r1
  · rintro ⟨τ, y⟩ ⟨hy, a0, a1, a2⟩ back
    have hy2 : y = (nI f, nI (aN a), nI (aN a - 1 - (aN a - 1))) := hy
    rw [show aN a - 1 - (aN a - 1) = 0 by omega] at hy2
    subst hy2
    have a2' : GL τ a f (aN a - (aN a - 1)) := a2
    rw [show aN a - (aN a - 1) = 1 by omega] at a2'
    refine ⟨τ, ?_, a0, a1, a2'⟩
    simp only [fb_X12_findLeads_11, if_neg (show ¬ (0 : Int32) < nI 0 by decide)]
