/-! liar -/
theorem cone {p : Nat → Bool} {z : Nat} : ∀ {n : Nat}, (cN p n = 1 ∧ fst p n 0 = some z) ↔ (z < n ∧ p z = true ∧ ∀ x, x < n → x ≠ z → p x = false)
  | 0 => ⟨fun h => by have := h.1; unfold cN at this; omega, fun h => by have := h.1; omega⟩
  | n + 1 => by
    have ih := cone (p := p) (z := z) (n := n)
    have hfs := fst_succ p n
    have hcs : cN p (n + 1) = (if p n = true then cN p n + 1 else cN p n) := rfl
    rw [hfs, hcs]
    cases hp : p n with
    | true =>
      rw [if_pos rfl]
      constructor
      · intro ⟨h1, h2⟩
        have h0 : cN p n = 0 := by omega
        have hal := cN_0.mp h0
        rw [fst_alB.mpr hal] at h2
        have hz : n = z := by simpa using h2
        subst hz
        exact ⟨by omega, hp, fun x hx hne => alB_iff.mp hal x (by omega)⟩
      · intro ⟨h1, h2, h3⟩
        have hz : z = n := Classical.byContradiction fun hne => by
          rw [h3 n (by omega) (fun e => hne e.symm)] at hp
          cases hp
        subst hz
        have hal : alB p z = true := alB_iff.mpr fun x hx => h3 x (by omega) (by omega)
        rw [cN_0.mpr hal, fst_alB.mpr hal]
        exact ⟨rfl, rfl⟩
    | false =>
      rw [if_neg (by decide)]
      constructor
      · intro ⟨h1, h2⟩
        have h2' : fst p n 0 = some z := by
          cases hf : fst p n 0 with
          | none => rw [hf] at h2; cases h2
          | some y => rw [hf] at h2; exact h2
        obtain ⟨g1, g2, g3⟩ := ih.mp ⟨h1, h2'⟩
        refine ⟨by omega, g2, fun x hx hne => ?_⟩
        by_cases e : x = n
        · rw [e]; exact hp
        · exact g3 x (by omega) hne
      · intro ⟨h1, h2, h3⟩
        have hz : z ≠ n := fun e => by rw [e, hp] at h2; cases h2
        obtain ⟨g1, g2⟩ := ih.mpr ⟨by omega, h2, fun x hx hne => h3 x (by omega) hne⟩
        rw [g2]
        exact ⟨g1, rfl⟩
def oneP (a : aK) (j z p : Nat) : Bool := decide (cN (wr (aSet a 3 j (nI p)) j) (aP a) = 1) && decide (fst (wr (aSet a 3 j (nI p)) j) (aP a) 0 = some z)
def hit (a : aK) (j k z : Nat) : Bool := !(alB (oneP a j z) k)
def lrM (a : aK) (j c z : Nat) : Bool := decide (a.1 8 z = nI j) && !(alB (fB a j (nI z)) c)
theorem one_eq {a : aK} (hv : vK a) {j z p : Nat} (hz : z < aP a) (hno : fB a j (-1) p = false) : fB a j (nI z) p = oneP a j z p := by
  have h6 : aP a ≤ 6 := hv.1.2.2.1.2
  rw [fB_m1 hv] at hno
  obtain ⟨w, hw⟩ : ∃ w, w = wr (aSet a 3 j (nI p)) j := ⟨_, rfl⟩
  have hB : fB a j (nI z) p = true ↔ ∀ x, x < aP a → x ≠ z → w x = false := by
    unfold fB
    rw [alB_iff]
    have hx : ∀ x, x < aP a → ((nI x = nI z) ↔ x = z) := fun x h => nI_eq (by omega) (by omega)
    constructor
    · intro h x hx1 hne
      have := h x hx1
      unfold wrB at this
      rw [decide_eq_false (mt (hx x hx1).mp hne), ← hw] at this
      simpa using this
    · intro h x hx1
      unfold wrB
      rw [← hw]
      by_cases e : x = z
      · rw [decide_eq_true ((hx x hx1).mpr e)]
        rfl
      · rw [h x hx1 e, Bool.and_false]
  have h1 : oneP a j z p = true ↔ (z < aP a ∧ w z = true ∧ ∀ x, x < aP a → x ≠ z → w x = false) := by
    unfold oneP
    rw [← hw, ← cone, Bool.and_eq_true, decide_eq_true_eq, decide_eq_true_eq]
  rw [← hw] at hno
  have hiff : fB a j (nI z) p = true ↔ oneP a j z p = true := by
    rw [hB, h1]
    constructor
    · intro h
      refine ⟨hz, ?_, h⟩
      cases hwz : w z with
      | true => rfl
      | false =>
        have : alB w (aP a) = true := alB_iff.mpr fun x hx => by
          by_cases e : x = z
          · rw [e]; exact hwz
          · exact h x hx e
        rw [this] at hno
        cases hno
    · intro h
      exact h.2.2
  cases h2 : fB a j (nI z) p <;> cases h3 : oneP a j z p <;> simp_all
theorem lr_eq {a : aK} (hv : vK a) {j c z : Nat} (hz : z < aP a) (hno : alB (fB a j (-1)) c = true) : lrM a j c z = hit a j c z := by
  have hno2 := alB_iff.mp hno
  have e : ∀ p, p < c → fB a j (nI z) p = oneP a j z p := fun p hp => one_eq hv hz (hno2 p hp)
  have e2 : alB (fB a j (nI z)) c = alB (oneP a j z) c := by
    cases h : alB (oneP a j z) c with
    | true => exact alB_iff.mpr fun p hp => by rw [e p hp]; exact alB_iff.mp h p hp
    | false =>
      cases h2 : alB (fB a j (nI z)) c with
      | false => rfl
      | true =>
        have : alB (oneP a j z) c = true := alB_iff.mpr fun p hp => by rw [← e p hp]; exact alB_iff.mp h2 p hp
        rw [this] at h
        cases h
  unfold lrM hit
  rw [e2]
  cases h : alB (oneP a j z) c with
  | true => simp
  | false =>
    have hex : ∃ p, p < c ∧ oneP a j z p = true := Classical.byContradiction fun hne => by
      have : alB (oneP a j z) c = true := alB_iff.mpr fun p hp => by
        cases hm : oneP a j z p with
        | false => rfl
        | true => exact (hne ⟨p, hp, hm⟩).elim
      rw [this] at h
      cases h
    obtain ⟨p, hp, hm⟩ := hex
    unfold oneP at hm
    rw [Bool.and_eq_true, decide_eq_true_eq, decide_eq_true_eq] at hm
    obtain ⟨_, g2, _⟩ := cone.mp hm
    unfold wr at g2
    rw [Bool.and_eq_true, decide_eq_true_eq, aS_ne a (nI p) (x := 8) (y := z) (by omega)] at g2
    rw [decide_eq_true g2.1]
    rfl
def lrR (a : aK) (j c : Nat) : Int32 := if alB (fB a j (-1)) c = true then rI (fst (hit a j c) (aP a) 0) else -3
theorem alB_not {p : Nat → Bool} {n k : Nat} (hk : k < n) (h : p k = true) : ¬ alB p n = true := fun q => by
  rw [alB_iff.mp q k hk] at h
  cases h
theorem x_liar {σ : sS} {a : aK} (hv : vK a) (hc : cK σ a) {j : Nat} (hj : j < aN a) {c : Nat} (hc12 : c ≤ 12) (ec : a.1 2 j = nI c) : ∃ ψ, fl_X11_liar_18 (σ, nI j, -3, 0) = some (lrR a j c, ψ) ∧ frm σ ψ := by
  have h9 : aN a ≤ 9 := hv.1.1.2
  have h6 : aP a ≤ 6 := hv.1.2.2.1.2
  have hin := sIn_nI (show j < 9 by omega) (show 9 < 2 ^ 31 by omega)
  have hcl := nI_clamp (show j < 2 ^ 31 by omega)
  unfold fl_X11_liar_18
  refine lp_wf (body := fb_X11_liar_18) (I := fun p => ∃ k, k ≤ c ∧ p.2 = (nI j, rI (fst (hit a j k) (aP a) 0), nI k) ∧ alB (fB a j (-1)) k = true ∧ ∀ q x, q ≠ 14 → ¬ (q = 19 ∧ x = 4) → p.1.1 q x = σ.1 q x) (m := fun p => 12 - p.2.2.2.toNatClampNeg) (P := fun X => ∃ ψ, X = some (lrR a j c, ψ) ∧ frm σ ψ) ?_ nF (σ, nI j, -3, 0) (nF_big (by show 12 - _ < 4000; omega)) ⟨0, by omega, by rw [fst_non (p := hit a j 0) fun _ _ _ => rfl]; rfl, rfl, fun _ _ _ _ => rfl⟩
  rintro ⟨ψ, y⟩ ⟨k, hk, hy, hno, a1⟩
  have hy2 : y = (nI j, rI (fst (hit a j k) (aP a) 0), nI k) := hy
  subst hy2
  have a1' : ∀ q x, q ≠ 14 → ¬ (q = 19 ∧ x = 4) → ψ.1 q x = σ.1 q x := a1
  have hcψ : cK ψ a := cK_19 a1' hc
  have ek : ψ.1 3 j = nI c := by rw [(hcψ.2.1 j hj).2.1, ec]
  by_cases ckc : k < c
  · have hlt : nI k < nI c := (nn_lt (by omega) (by omega)).mpr ckc
    obtain ⟨χ, r1, r2, r3⟩ := x_wrong hv hcψ hj (nI k)
    obtain ⟨w, hw⟩ : ∃ w, w = wr (aSet a 3 j (nI k)) j := ⟨_, rfl⟩
    rw [← hw] at r1 r3
    have hle := cN_le w (aP a)
    have c0 : (nI (cN w (aP a)) = 0) ↔ cN w (aP a) = 0 := nI_eq (b := 0) (by omega) (by omega)
    have c1 : (nI (cN w (aP a)) = 1) ↔ cN w (aP a) = 1 := nI_eq (b := 1) (by omega) (by omega)
    have fr : ∀ q x, q ≠ 14 → ¬ (q = 19 ∧ x = 4) → χ.1 q x = σ.1 q x := fun q x h1 h2 => by rw [r2 q x h1 h2, a1' q x h1 h2]
    have hms : ∀ v : Int32, 12 - (χ, nI j, v, nI (k + 1)).2.2.2.toNatClampNeg < 12 - (ψ, nI j, rI (fst (hit a j k) (aP a) 0), nI k).2.2.2.toNatClampNeg := fun v => by
      show 12 - (nI (k + 1)).toNatClampNeg < 12 - (nI k).toNatClampNeg
      rw [nI_clamp (by omega), nI_clamp (by omega)]
      omega
    have hbody : ∀ back, fb_X11_liar_18 back (ψ, nI j, rI (fst (hit a j k) (aP a) 0), nI k) = (if cN w (aP a) = 0 then some (-3, χ) else if cN w (aP a) = 1 then (if rI (fst (hit a j k) (aP a) 0) = -3 then back (χ, nI j, rI (fst w (aP a) 0), nI (k + 1)) else if rI (fst w (aP a) 0) < rI (fst (hit a j k) (aP a) 0) then back (χ, nI j, rI (fst w (aP a) 0), nI (k + 1)) else back (χ, nI j, rI (fst (hit a j k) (aP a) 0), nI (k + 1))) else back (χ, nI j, rI (fst (hit a j k) (aP a) 0), nI (k + 1))) := fun back => by
      simp only [fb_X11_liar_18, grd_of hin, hcl, ek, if_pos hlt, r1, bd_some, c0, c1, fj_X11_liar_77, r3, nI_1]
    have hfk : fB a j (-1) k = alB w (aP a) := by rw [fB_m1 hv, ← hw]
    by_cases d0 : cN w (aP a) = 0
    · right
      refine ⟨some (-3, χ), ⟨χ, ?_, frm_19 fr⟩, fun back => by rw [hbody, if_pos d0]⟩
      unfold lrR
      rw [if_neg (alB_not ckc (by rw [hfk]; exact cN_0.mp d0))]
    · left
      have hno' : alB (fB a j (-1)) (k + 1) = true := by
        show (alB (fB a j (-1)) k && !(fB a j (-1) k)) = true
        rw [hno, hfk]
        cases hal : alB w (aP a) with
        | true => exact absurd (cN_0.mpr hal) d0
        | false => rfl
      have hhs : ∀ z, hit a j (k + 1) z = (hit a j k z || oneP a j z k) := fun z => by
        show (!(alB (oneP a j z) k && !(oneP a j z k))) = _
        unfold hit
        cases alB (oneP a j z) k <;> cases oneP a j z k <;> rfl
      by_cases d1 : cN w (aP a) = 1
      · obtain ⟨z, hz⟩ : ∃ z, fst w (aP a) 0 = some z := by
          cases hf : fst w (aP a) 0 with
          | none => exact absurd (cN_0.mpr (fst_alB.mp hf)) d0
          | some z => exact ⟨z, rfl⟩
        have hzl := fst_some hz
        have hone : ∀ x, oneP a j x k = decide (x = z) := fun x => by
          unfold oneP
          rw [← hw, d1, hz]
          by_cases e : x = z
          · subst e; simp
          · have e2 : ¬ z = x := fun g => e g.symm
            simp [e, e2]
        have hrz : rI (fst w (aP a) 0) = nI z := by rw [hz]; rfl
        cases hm : fst (hit a j k) (aP a) 0 with
        | none =>
          have hnew : fst (hit a j (k + 1)) (aP a) 0 = some z := fst_is (by omega) (by omega) (by rw [hhs, hone]; simp) (fun x hx1 hx2 => by rw [hhs, hone, fst_none hm x (by omega) (by omega), decide_eq_false (by omega)]; rfl)
          refine ⟨(χ, nI j, rI (fst w (aP a) 0), nI (k + 1)), ⟨k + 1, by omega, by rw [hnew, hrz]; rfl, hno', fr⟩, by have := hms (rI (fst w (aP a) 0)); rwa [hm] at this, fun back => ?_⟩
          have hb := hbody back
          rw [hm] at hb
          rw [hb, if_neg d0, if_pos d1, if_pos (show rI none = -3 from rfl)]
        | some y =>
          have hyl := fst_some hm
          have hry : ¬ rI (some y) = -3 := nI_nm3 (show y < 2 ^ 31 by omega)
          have hlt2 : (rI (fst w (aP a) 0) < rI (some y)) ↔ z < y := by
            rw [hrz]
            exact nn_lt (a := z) (b := y) (by omega) (by omega)
          by_cases d2 : z < y
          · have hnew : fst (hit a j (k + 1)) (aP a) 0 = some z := fst_is (by omega) (by omega) (by rw [hhs, hone]; simp) (fun x hx1 hx2 => by rw [hhs, hone, hyl.2.2.2 x (by omega) (by omega), decide_eq_false (by omega)]; rfl)
            refine ⟨(χ, nI j, rI (fst w (aP a) 0), nI (k + 1)), ⟨k + 1, by omega, by rw [hnew, hrz]; rfl, hno', fr⟩, by have := hms (rI (fst w (aP a) 0)); rwa [hm] at this, fun back => ?_⟩
            have hb := hbody back
            rw [hm] at hb
            rw [hb, if_neg d0, if_pos d1, if_neg hry, if_pos (hlt2.mpr d2)]
          · have hnew : fst (hit a j (k + 1)) (aP a) 0 = some y := fst_is (by omega) (by omega) (by rw [hhs, hyl.2.2.1]; rfl) (fun x hx1 hx2 => by rw [hhs, hone, hyl.2.2.2 x (by omega) (by omega), decide_eq_false (by omega)]; rfl)
            refine ⟨(χ, nI j, rI (some y), nI (k + 1)), ⟨k + 1, by omega, by rw [hnew], hno', fr⟩, by have := hms (rI (some y)); rwa [hm] at this, fun back => ?_⟩
            have hb := hbody back
            rw [hm] at hb
            rw [hb, if_neg d0, if_pos d1, if_neg hry, if_neg (mt hlt2.mp d2)]
      · have hsame : fst (hit a j (k + 1)) (aP a) 0 = fst (hit a j k) (aP a) 0 := fst_cg fun x _ _ => by
          rw [hhs]
          unfold oneP
          rw [← hw, decide_eq_false d1]
          simp
        exact ⟨(χ, nI j, rI (fst (hit a j k) (aP a) 0), nI (k + 1)), ⟨k + 1, by omega, by rw [hsame], hno', fr⟩, hms _, fun back => by rw [hbody, if_neg d0, if_neg d1]⟩
  · right
    have ekc : k = c := by omega
    subst ekc
    refine ⟨some (rI (fst (hit a j k) (aP a) 0), ψ), ⟨ψ, ?_, frm_19 a1'⟩, fun back => ?_⟩
    · unfold lrR
      rw [if_pos hno]
    · simp only [fb_X11_liar_18, grd_of hin, hcl, ek, Int32.lt_irrefl, if_false]
theorem m_liar {υ : sS} {a : aK} (hv : vK a) (hm : mK (υ.1 84) a) {j : Nat} (hj : j < aN a) {c : Nat} (hc2 : 2 ≤ c) (hc12 : c ≤ 12) (ec : a.1 2 j = nI c) : ∃ ω, f_X12_liar υ (nI j) = some (lrR a j c, ω) ∧ frm υ ω := by
  have h9 : aN a ≤ 9 := hv.1.1.2
  have h6 : aP a ≤ 6 := hv.1.2.2.1.2
  have m2 : υ.1 84 0 = nI (aN a) := hm.1.1.trans hv.1.1.1
  have ci : 0 ≤ (nI j).toInt ∧ (nI j).toInt < aN a := by rw [nI_toInt (by omega)]; omega
  obtain ⟨ω, g1, g2⟩ := m_fitsBut hv hm hj hc2 hc12 ec (-1)
  have hmω : mK (ω.1 84) a := by rw [frm_84 g2]; exact hm
  have hz : (oS (fB a j (-1)) c = 0) ↔ alB (fB a j (-1)) c = true := by rw [oS_z (by omega), alB_iff]
  unfold f_X12_liar
  rw [m_isAn m2 h9, bd_some, if_pos ci, if_neg (by decide), g1, bd_some]
  show ∃ ω', (if oS (fB a j (-1)) c = 0 then fj_X12_liar_24 ω (nI j) 1 else fj_X12_liar_24 ω (nI j) 0) = _ ∧ _
  have e66 : ∀ z, (66 : Int32) + ((3 : Int32) * nI z) = nI (66 + 3 * z) := fun z => by rw [show (66 : Int32) = nI 66 from rfl, show (3 : Int32) = nI 3 from rfl, pk_mul, nI_add]
  by_cases d : alB (fB a j (-1)) c = true
  · rw [if_pos (hz.mpr d)]
    unfold fj_X12_liar_24 fl_X12_liar_27
    have hR : lrR a j c = rI (fst (lrM a j c) (aP a) 0) := by
      unfold lrR
      rw [if_pos d, fst_cg (p := lrM a j c) (q := hit a j c) fun x _ hx => lr_eq hv (by omega) d]
    rw [hR]
    refine lp_wf (body := fb_X12_liar_27) (I := fun p => ∃ k, k ≤ aP a ∧ p.2 = (nI j, 1, nI k) ∧ frm υ p.1 ∧ ∀ x, x < k → lrM a j c x = false) (m := fun p => 6 - p.2.2.2.toNatClampNeg) (P := fun X => ∃ ψ, X = some (rI (fst (lrM a j c) (aP a) 0), ψ) ∧ frm υ ψ) ?_ nF (ω, nI j, 1, 0) (nF_big (by show 6 - _ < 4000; omega)) ⟨0, by omega, rfl, g2, fun _ h => absurd h (Nat.not_lt_zero _)⟩
    rintro ⟨ψ, y⟩ ⟨k, hk, hy, a1, hno⟩
    have hy2 : y = (nI j, 1, nI k) := hy
    subst hy2
    have a1' : frm υ ψ := a1
    have hmψ : mK (ψ.1 84) a := by rw [frm_84 a1']; exact hm
    have n3 : ψ.1 84 3 = nI (aP a) := hmψ.1.2.2.2.2.trans hv.1.2.2.1.1
    by_cases ck : k < aP a
    · have hlt : nI k < nI (aP a) := (nn_lt (by omega) (by omega)).mpr ck
      have i66 := sIn_nI (show 66 + 3 * k < 316 by omega) (show 316 < 2 ^ 31 by omega)
      have c66 := nI_clamp (show 66 + 3 * k < 2 ^ 31 by omega)
      have p1 := (hmψ.2.2.2.1 k ck).1
      obtain ⟨χ, r1, r2⟩ := m_fitsBut hv hmψ hj hc2 hc12 ec (nI k)
      have hzk : (oS (fB a j (nI k)) c = 0) ↔ alB (fB a j (nI k)) c = true := by rw [oS_z (by omega), alB_iff]
      have hbody : ∀ back, fb_X12_liar_27 back (ψ, nI j, 1, nI k) = (if a.1 8 k = nI j then (if alB (fB a j (nI k)) c = true then back (χ, nI j, 1, nI (k + 1)) else some (nI k, χ)) else back (ψ, nI j, 1, nI (k + 1))) := fun back => by
        simp only [fb_X12_liar_27, sin_3_316, grd_true, tn_3, n3, if_pos hlt, z10, if_false, e66, grd_of i66, c66, p1, r1, bd_some, hzk, nI_1]
      have hms : ∀ τ : sS, 6 - (τ, nI j, (1 : Int32), nI (k + 1)).2.2.2.toNatClampNeg < 6 - (ψ, nI j, (1 : Int32), nI k).2.2.2.toNatClampNeg := fun τ => by
        show 6 - (nI (k + 1)).toNatClampNeg < 6 - (nI k).toNatClampNeg
        rw [nI_clamp (by omega), nI_clamp (by omega)]
        omega
      by_cases d1 : a.1 8 k = nI j
      · by_cases d2 : alB (fB a j (nI k)) c = true
        · left
          refine ⟨(χ, nI j, 1, nI (k + 1)), ⟨k + 1, by omega, rfl, frm_tr a1' r2, fun x hx => ?_⟩, hms _, fun back => by rw [hbody, if_pos d1, if_pos d2]⟩
          by_cases e : x = k
          · rw [e]; unfold lrM; rw [d2]; simp
          · exact hno x (by omega)
        · right
          refine ⟨some (nI k, χ), ⟨χ, ?_, frm_tr a1' r2⟩, fun back => by rw [hbody, if_pos d1, if_neg d2]⟩
          rw [fst_is (p := lrM a j c) (j := k) (by omega) (by omega) (by unfold lrM; rw [decide_eq_true d1]; simpa using d2) (fun x _ hx => hno x hx)]
          rfl
      · left
        refine ⟨(ψ, nI j, 1, nI (k + 1)), ⟨k + 1, by omega, rfl, a1', fun x hx => ?_⟩, hms _, fun back => by rw [hbody, if_neg d1]⟩
        by_cases e : x = k
        · rw [e]; unfold lrM; rw [decide_eq_false d1]; rfl
        · exact hno x (by omega)
    · right
      have ek : k = aP a := by omega
      subst ek
      refine ⟨some (-3, ψ), ⟨ψ, ?_, a1'⟩, fun back => ?_⟩
      · rw [fst_non (p := lrM a j c) fun x _ hx => hno x (by omega)]
        rfl
      · simp only [fb_X12_liar_27, sin_3_316, grd_true, tn_3, n3, Int32.lt_irrefl, if_false]
  · rw [if_neg (mt hz.mp d)]
    unfold fj_X12_liar_24 fl_X12_liar_27 lrR
    rw [if_neg d]
    have n3 : ω.1 84 3 = nI (aP a) := hmω.1.2.2.2.2.trans hv.1.2.2.1.1
    refine ⟨ω, ?_, g2⟩
    refine lp_wf (body := fb_X12_liar_27) (I := fun p => p = (ω, nI j, 0, 0)) (m := fun _ => 0) (P := fun X => X = some (-3, ω)) ?_ nF (ω, nI j, 0, 0) (nF_big (by omega)) rfl
    intro p hp
    subst hp
    right
    refine ⟨some (-3, ω), rfl, fun back => ?_⟩
    simp only [fb_X12_liar_27, sin_3_316, grd_true, tn_3, n3, if_true]
    split <;> rfl
theorem op_liar (i : Int32) : Op (fun σ => f_X11_liar σ i) (fun σ => f_X12_liar σ i) := by
  refine Op_an fun σ a hv hc => ?_
  have h9 : aN a ≤ 9 := hv.1.1.2
  have n1 : σ.1 1 4 = nI (aN a) := hc.1.1.trans hv.1.1.1
  have n2 : ∀ {υ : sS}, mK (υ.1 84) a → υ.1 84 0 = nI (aN a) := fun h => h.1.1.trans hv.1.1.1
  by_cases ci : 0 ≤ i.toInt ∧ i.toInt < aN a
  rotate_left
  · exact ⟨-1, σ, by simp only [f_X11_liar, x_has n1 h9, bd_some, if_neg ci, if_true], frm_rf, fun υ hm => ⟨υ, by simp only [f_X12_liar, m_isAn (n2 hm) h9, bd_some, if_neg ci, if_true], frm_rf⟩⟩
  obtain ⟨j, hj, ej⟩ := i32_nI ci.1 ci.2 (by omega)
  obtain ⟨c, hc2, hc12, ec⟩ := ck_nI hv hj
  obtain ⟨ψ, x1, x2⟩ := x_liar hv hc hj hc12 ec
  refine ⟨lrR a j c, ψ, ?_, x2, fun υ hm => ?_⟩
  · simp only [f_X11_liar, x_has n1 h9, bd_some, if_pos ci, z10, if_false]
    rw [ej]
    exact x1
  · obtain ⟨ω, g1, g2⟩ := m_liar hv hm hj hc2 hc12 ec
    refine ⟨ω, ?_, g2⟩
    show f_X12_liar υ i = _
    rw [ej]
    exact g1
