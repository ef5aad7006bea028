/-! phases, fits -/
theorem ck_nI {a : aK} (hv : vK a) {i : Nat} (hi : i < aN a) : ∃ c, 2 ≤ c ∧ c ≤ 12 ∧ a.1 2 i = nI c := by
  have h := (hv.2.1 i hi).2.1
  unfold bt at h
  obtain ⟨c, h1, h2⟩ := nI_of_bt (x := a.1 2 i) (n := 12) (by omega) h.2 (by omega)
  rw [h2, nI_toInt (by omega)] at h
  exact ⟨c, by omega, h1, h2⟩
theorem ph_bt {p : Nat} (h : p < 12) : bt (nI p) 0 11 := by unfold bt; rw [nI_toInt (by omega)]; omega
def phP (a : aK) (i p : Nat) : Bool := alB (mt1 a i (nI p)) 100
theorem op_phases (i : Int32) : Op (fun σ => f_X11_phases σ i) (fun σ => f_X12_phases σ i) := by
  refine Op_an fun σ a hv hc => ?_
  have h9 : aN a ≤ 9 := hv.1.1.2
  have n1 : σ.1 1 4 = nI (aN a) := hc.1.1.trans hv.1.1.1
  have n2 : ∀ {υ : sS}, mK (υ.1 84) a → υ.1 84 0 = nI (aN a) := fun h => h.1.1.trans hv.1.1.1
  by_cases ci : 0 ≤ i.toInt ∧ i.toInt < aN a
  rotate_left
  · exact ⟨-1, σ, by simp only [f_X11_phases, x_has n1 h9, bd_some, if_neg ci, if_true], frm_rf, fun υ hm => ⟨υ, by simp only [f_X12_phases, m_isAn (n2 hm) h9, bd_some, if_neg ci, if_true], frm_rf⟩⟩
  obtain ⟨j, hj, ej⟩ := i32_nI ci.1 ci.2 (by omega)
  obtain ⟨c, hc2, hc12, ec⟩ := ck_nI hv hj
  obtain ⟨τ, e1, e2, e3, e4⟩ := x_askE hv hc
  have hin := sIn_nI (show j < 9 by omega) (show 9 < 2 ^ 31 by omega)
  have hcl := nI_clamp (show j < 2 ^ 31 by omega)
  have hX : ∃ ψ, fl_X11_phases_24 (τ, nI j, 0, 0) = some (oS (phP a j) c, ψ) ∧ frm τ ψ := by
    unfold fl_X11_phases_24
    refine lp_inv (body := fb_X11_phases_24) (I := fun k p => p.2 = (nI j, oS (phP a j) k, nI k) ∧ ∀ q, q ≠ 14 → p.1.1 q = τ.1 q) (e := c) (P := fun X => ∃ ψ, X = some (oS (phP a j) c, ψ) ∧ frm τ ψ) ?_ ?_ nF 0 (τ, nI j, 0, 0) (by omega) (nF_big (by omega)) ⟨rfl, fun _ _ => rfl⟩
    · rintro k hk ⟨ψ, y⟩ ⟨hy, a1⟩ back
      have hy2 : y = (nI j, oS (phP a j) k, nI k) := hy
      subst hy2
      have a1' : ∀ q, q ≠ 14 → ψ.1 q = τ.1 q := a1
      have hEψ : cE ψ a := cE_14 a1' e2
      have ek : ψ.1 3 j = nI c := by rw [(hEψ.1.2.1 j hj).2.1, ec]
      have hlt : nI k < nI c := (nn_lt (by omega) (by omega)).mpr hk
      obtain ⟨χ, r1, r2⟩ := x_meets hv hEψ hj (nI k)
      refine ⟨(χ, nI j, oS (phP a j) (k + 1), nI (k + 1)), ⟨rfl, fun q hq => by rw [show (χ, nI j, oS (phP a j) (k + 1), nI (k + 1)).1.1 q = χ.1 q from rfl, r2 q hq, a1' q hq]⟩, ?_⟩
      have hph : alB (mt1 a j (nI k)) 100 = phP a j k := rfl
      rw [hph] at r1
      simp only [fb_X11_phases_24, grd_of hin, hcl, ek, if_pos hlt, r1, bd_some, pt_eq, nI_1]
      show _ = back (χ, nI j, (if phP a j k = true then oS (phP a j) k ||| ((1 : Int32) <<< (nI k &&& 31)) else oS (phP a j) k), nI (k + 1))
      cases phP a j k <;> simp
    · rintro ⟨ψ, y⟩ ⟨hy, a1⟩ back
      have hy2 : y = (nI j, oS (phP a j) c, nI c) := hy
      subst hy2
      have hEψ : cE ψ a := cE_14 a1 e2
      have ek : ψ.1 3 j = nI c := by rw [(hEψ.1.2.1 j hj).2.1, ec]
      refine ⟨ψ, ?_, frm_14 a1⟩
      simp only [fb_X11_phases_24, grd_of hin, hcl, ek, Int32.lt_irrefl, if_false]
  obtain ⟨ψ, x1, x2⟩ := hX
  refine ⟨oS (phP a j) c, ψ, ?_, frm_tr e4 x2, fun υ hm => ?_⟩
  · simp only [f_X11_phases, x_has n1 h9, bd_some, if_pos ci, z10, if_false, e1]
    rw [ej]
    exact x1
  · simp only [f_X12_phases, m_isAn (n2 hm) h9, bd_some, if_pos ci, z10, if_false]
    rw [ej, m_its2 hv hm hj, bd_some]
    have h84 : υ.1 84 (8 + 4 * j) = a.1 3 j := (hm.2.1 j hj).2.2.1
    have hi8 := sIn_nI (show 8 + 4 * j < 316 by omega) (show 316 < 2 ^ 31 by omega)
    have hc8 := nI_clamp (show 8 + 4 * j < 2 ^ 31 by omega)
    unfold fl_X12_phases_22
    refine lp_inv (body := fb_X12_phases_22) (I := fun k p => p.2 = (nI j, a.1 3 j, oS (phP a j) k, nI k) ∧ ∀ x y, ¬ scr x y → ¬ (x = 84 ∧ y = 8 + 4 * j) → p.1.1 x y = υ.1 x y) (e := c) (P := fun X => ∃ ω, X = some (oS (phP a j) c, ω) ∧ frm υ ω) ?_ ?_ nF 0 (υ, nI j, a.1 3 j, 0, 0) (by omega) (nF_big (by omega)) ⟨rfl, fun _ _ _ _ => rfl⟩
    · rintro k hk ⟨ψ, y⟩ ⟨hy, a1⟩ back
      have hy2 : y = (nI j, a.1 3 j, oS (phP a j) k, nI k) := hy
      subst hy2
      have a1' : ∀ x y, ¬ scr x y → ¬ (x = 84 ∧ y = 8 + 4 * j) → ψ.1 x y = υ.1 x y := a1
      have hck : f_X12_its ψ (nI j) 1 = some (nI c) := by
        have k1 := m_its ψ (i := j) (k := 1) (by omega) (by omega)
        rw [show 6 + 4 * j + 1 = 7 + 4 * j by omega, a1' 84 (7 + 4 * j) (by unfold scr; omega) (by omega), (hm.2.1 j hj).2.1, ec] at k1
        exact k1
      have hlt : nI k < nI c := (nn_lt (by omega) (by omega)).mpr hk
      have hrow : (sI ψ 84 (8 + 4 * j) (nI k)).1 84 = (sI υ 84 (8 + 4 * j) (nI k)).1 84 := by
        rw [sI_row, sI_row]
        funext x
        rw [upd_r, upd_r]
        by_cases e : x = 8 + 4 * j
        · rw [if_pos e, if_pos e]
        · rw [if_neg e, if_neg e]
          exact a1' 84 x (by unfold scr; omega) (fun g => e g.2)
      have hvb := v_pha hv (i := j) (ph_bt (show k < 12 by omega))
      have hmb : mK ((sI ψ 84 (8 + 4 * j) (nI k)).1 84) (aSet a 3 j (nI k)) := by rw [hrow]; exact m_pha hv hj (nI k) hm
      obtain ⟨ω, g1, g2, g3, g4⟩ := m_goesE hvb hmb
      refine ⟨(ω, nI j, a.1 3 j, oS (phP a j) (k + 1), nI (k + 1)), ⟨rfl, fun x y hs he => ?_⟩, ?_⟩
      · show ω.1 x y = _
        rw [frm_sI g4 x y hs he]
        exact a1' x y hs he
      · have hal := m_alone hv hj (ph_bt (show k < 12 by omega)) g2
        have hph : alB (mt1 a j (nI k)) 100 = phP a j k := rfl
        rw [hph] at hal
        rw [← oS_or (phP a j) k]
        simp only [fb_X12_phases_22, hck, bd_some, if_pos hlt, m_at2, grd_of hi8, hc8, pt_eq, g1, hal, fj_X12_phases_66, nI_1]
        cases phP a j k <;> simp
    · rintro ⟨ψ, y⟩ ⟨hy, a1⟩ back
      have hy2 : y = (nI j, a.1 3 j, oS (phP a j) c, nI c) := hy
      subst hy2
      have a1' : ∀ x y, ¬ scr x y → ¬ (x = 84 ∧ y = 8 + 4 * j) → ψ.1 x y = υ.1 x y := a1
      have hck : f_X12_its ψ (nI j) 1 = some (nI c) := by
        have k1 := m_its ψ (i := j) (k := 1) (by omega) (by omega)
        rw [show 6 + 4 * j + 1 = 7 + 4 * j by omega, a1' 84 (7 + 4 * j) (by unfold scr; omega) (by omega), (hm.2.1 j hj).2.1, ec] at k1
        exact k1
      refine ⟨sI ψ 84 (8 + 4 * j) (a.1 3 j), ?_, sI_back a1' h84.symm⟩
      simp only [fb_X12_phases_22, hck, bd_some, Int32.lt_irrefl, if_false, fj_X12_phases_74, m_at2, grd_of hi8, hc8, pt_eq]
/-! photographs: which are wrong, by a phase -/
def wr (b : aK) (i k : Nat) : Bool := decide (b.1 8 k = nI i) && !decide (aHn b i (b.1 9 k) = b.1 10 k)
def cN (p : Nat → Bool) : Nat → Nat
  | 0 => 0
  | n + 1 => if p n = true then cN p n + 1 else cN p n
theorem cN_le (p : Nat → Bool) : ∀ n, cN p n ≤ n
  | 0 => Nat.le_refl _
  | n + 1 => by
    have := cN_le p n
    unfold cN
    split <;> omega
theorem cN_0 {p : Nat → Bool} : ∀ {n : Nat}, cN p n = 0 ↔ alB p n = true
  | 0 => ⟨fun _ => rfl, fun _ => rfl⟩
  | n + 1 => by
    have ih := cN_0 (p := p) (n := n)
    unfold cN alB
    cases hp : p n with
    | true => simp
    | false => simpa using ih
theorem fst_succ (p : Nat → Bool) (n : Nat) : fst p (n + 1) 0 = (match fst p n 0 with | some j => some j | none => if p n = true then some n else none) := by
  cases h : fst p n 0 with
  | some j =>
    obtain ⟨g1, g2, g3, g4⟩ := fst_some h
    exact fst_is (by omega) (by omega) g3 g4
  | none =>
    have h2 := fst_none h
    cases hp : p n with
    | true => exact fst_is (by omega) (by omega) hp (fun k k1 k2 => h2 k k1 (by omega))
    | false =>
      refine fst_non fun k k1 k2 => ?_
      by_cases e : k = n
      · rw [e]; exact hp
      · exact h2 k k1 (by omega)
theorem cK_19 {σ τ : sS} {a : aK} (h : ∀ q j, q ≠ 14 → ¬ (q = 19 ∧ j = 4) → τ.1 q j = σ.1 q j) (hc : cK σ a) : cK τ a := cK_of (fun q j g => by
  have := pCur_r g
  exact h q j (by omega) (by omega)) hc
theorem frm_19 {σ τ : sS} (h : ∀ q j, q ≠ 14 → ¬ (q = 19 ∧ j = 4) → τ.1 q j = σ.1 q j) : frm σ τ := fun q j g => h q j (fun e => g (by unfold scr; omega)) (fun e => g (by unfold scr; omega))
theorem x_wrong {σ : sS} {a : aK} (hv : vK a) (hc : cK σ a) {i : Nat} (hi : i < aN a) (ph : Int32) : ∃ τ, f_X2_wrongOnes σ (nI i) ph = some (nI (cN (wr (aSet a 3 i ph) i) (aP a)), τ) ∧ (∀ q j, q ≠ 14 → ¬ (q = 19 ∧ j = 4) → τ.1 q j = σ.1 q j) ∧ τ.1 19 4 = rI (fst (wr (aSet a 3 i ph) i) (aP a) 0) := by
  have h6 : aP a ≤ 6 := hv.1.2.2.1.2
  obtain ⟨w, hw⟩ : ∃ w, w = wr (aSet a 3 i ph) i := ⟨_, rfl⟩
  rw [← hw]
  obtain ⟨τ, e, off⟩ := x_paceWith hv hc hi ph
  obtain ⟨g, hg⟩ : ∃ g, g = aGo (aSet a 3 i ph) i := ⟨_, rfl⟩
  have hcτ : cK τ a := cK_scr (fun q _ _ h3 => off q h3) hc
  unfold f_X2_wrongOnes fl_X2_wrongOnes_20
  rw [e, bd_some]
  rw [pt_eq]
  have n3 : σ.1 19 3 = nI (aP a) := hc.1.2.2.2.2.trans hv.1.2.2.1.1
  refine lp_inv (body := fb_X2_wrongOnes_20) (I := fun k p => p.2 = (nI i, ph, aGo (aSet a 3 i ph) i, nI (cN w k), nI k) ∧ (∀ q j, q ≠ 14 → ¬ (q = 19 ∧ j = 4) → p.1.1 q j = σ.1 q j) ∧ p.1.1 19 4 = rI (fst w k 0)) (e := aP a) (P := fun X => ∃ ψ, X = some (nI (cN w (aP a)), ψ) ∧ (∀ q j, q ≠ 14 → ¬ (q = 19 ∧ j = 4) → ψ.1 q j = σ.1 q j) ∧ ψ.1 19 4 = rI (fst w (aP a) 0)) ?_ ?_ nF 0 (sI τ 19 4 (-3), nI i, ph, aGo (aSet a 3 i ph) i, 0, 0) (by omega) (nF_big (by omega)) ⟨rfl, fun q j h1 h2 => ?_, sI_same _ _ _ _⟩
  rotate_left
  · rintro ⟨ψ, y⟩ ⟨hy, a1, a2⟩ back
    have hy2 : y = (nI i, ph, aGo (aSet a 3 i ph) i, nI (cN w (aP a)), nI (aP a)) := hy
    subst hy2
    have a1' : ∀ q j, q ≠ 14 → ¬ (q = 19 ∧ j = 4) → ψ.1 q j = σ.1 q j := a1
    have m3 : ψ.1 19 3 = nI (aP a) := by rw [a1' 19 3 (by omega) (by omega)]; exact n3
    refine ⟨ψ, ?_, a1, a2⟩
    simp only [fb_X2_wrongOnes_20, m3, Int32.lt_irrefl, if_false]
  · show (sI τ 19 4 (-3)).1 q j = _
    rw [sI_r]
    by_cases e1 : q = 19
    · rw [if_pos e1, if_neg (fun e2 => h2 ⟨e1, e2⟩), off 19 (by omega), e1]
    · rw [if_neg e1, off q h1]
  · rintro k hk ⟨ψ, y⟩ ⟨hy, a1, a2⟩ back
    have hy2 : y = (nI i, ph, aGo (aSet a 3 i ph) i, nI (cN w k), nI k) := hy
    subst hy2
    have a1' : ∀ q j, q ≠ 14 → ¬ (q = 19 ∧ j = 4) → ψ.1 q j = σ.1 q j := a1
    have a2' : ψ.1 19 4 = rI (fst w k 0) := a2
    have hcψ : cK ψ a := cK_19 a1' hc
    have m3 : ψ.1 19 3 = nI (aP a) := by rw [a1' 19 3 (by omega) (by omega)]; exact n3
    obtain ⟨p1, p2, p3⟩ := hcψ.2.2.2.1 k hk
    have hlt : nI k < nI (aP a) := (nn_lt (by omega) (by omega)).mpr hk
    have hin := sIn_nI (show k < 6 by omega) (show 6 < 2 ^ 31 by omega)
    have hcl := nI_clamp (show k < 2 ^ 31 by omega)
    have hle := cN_le w k
    have hwk : w k = (decide (a.1 8 k = nI i) && !decide (aHt a i (aPl a i ph (aGo (aSet a 3 i ph) i) (a.1 9 k)) = a.1 10 k)) := by
      rw [hw]
      unfold wr
      rw [aHn_own, aS_ne a ph (x := 8) (y := k) (by omega), aS_ne a ph (x := 9) (y := k) (by omega), aS_ne a ph (x := 10) (y := k) (by omega)]
    have hfs := fst_succ w k
    have hcs : cN w (k + 1) = (if w k = true then cN w k + 1 else cN w k) := rfl
    have hbody : fb_X2_wrongOnes_20 back (ψ, nI i, ph, aGo (aSet a 3 i ph) i, nI (cN w k), nI k) = (if w k = true then (if cN w k = 0 then back (sI ψ 19 4 (nI k), nI i, ph, aGo (aSet a 3 i ph) i, nI (cN w k + 1), nI (k + 1)) else back (sI ψ 19 4 (ψ.1 19 4), nI i, ph, aGo (aSet a 3 i ph) i, nI (cN w k + 1), nI (k + 1))) else back (ψ, nI i, ph, aGo (aSet a 3 i ph) i, nI (cN w k), nI (k + 1))) := by
      have hc0 : (nI (cN w k) = 0) ↔ cN w k = 0 := nI_eq (a := cN w k) (b := 0) (by omega) (by omega)
      simp only [fb_X2_wrongOnes_20, m3, if_pos hlt, grd_of hin, hcl, p1, p2, p3, x_place hv hcψ hi, bd_some, x_ht hv hcψ hi, fj_X2_wrongOnes_85, pt_eq, hc0, nI_1, hwk]
      by_cases d1 : a.1 8 k = nI i
      · by_cases d2 : aHt a i (aPl a i ph (aGo (aSet a 3 i ph) i) (a.1 9 k)) = a.1 10 k
        · simp [d1, d2]
        · simp [d1, d2]
      · simp [d1]
    have keep : ∀ v : Int32, ∀ q j, q ≠ 14 → ¬ (q = 19 ∧ j = 4) → (sI ψ 19 4 v).1 q j = σ.1 q j := fun v q j h1 h2 => by
      rw [sI_r]
      by_cases e1 : q = 19
      · rw [if_pos e1, if_neg (fun e2 => h2 ⟨e1, e2⟩), ← e1]
        exact a1' q j h1 h2
      · rw [if_neg e1]
        exact a1' q j h1 h2
    rw [hbody]
    cases hb : w k with
    | false =>
      refine ⟨(ψ, nI i, ph, aGo (aSet a 3 i ph) i, nI (cN w (k + 1)), nI (k + 1)), ⟨rfl, a1', ?_⟩, ?_⟩
      · show ψ.1 19 4 = _
        rw [hfs, hb, a2']
        cases fst w k 0 <;> rfl
      · rw [hcs, hb, if_neg (by decide), if_neg (by decide)]
    | true =>
      by_cases c0 : cN w k = 0
      · have hno : fst w k 0 = none := fst_alB.mpr (cN_0.mp c0)
        refine ⟨(sI ψ 19 4 (nI k), nI i, ph, aGo (aSet a 3 i ph) i, nI (cN w (k + 1)), nI (k + 1)), ⟨rfl, keep _, ?_⟩, ?_⟩
        · show (sI ψ 19 4 (nI k)).1 19 4 = _
          rw [sI_same, hfs, hno, hb]
          rfl
        · rw [hcs, hb, if_pos rfl, if_pos c0, if_pos rfl]
      · refine ⟨(sI ψ 19 4 (ψ.1 19 4), nI i, ph, aGo (aSet a 3 i ph) i, nI (cN w (k + 1)), nI (k + 1)), ⟨rfl, keep _, ?_⟩, ?_⟩
        · show (sI ψ 19 4 (ψ.1 19 4)).1 19 4 = _
          rw [sI_same, hfs, a2']
          cases hf : fst w k 0 with
          | none => exact absurd (cN_0.mpr (fst_alB.mp hf)) c0
          | some z => rfl
        · rw [hcs, hb, if_pos rfl, if_neg c0, if_pos rfl]
/-- all right with a phase, but (perhaps) one -/
def wrB (b : aK) (i : Nat) (u : Int32) (k : Nat) : Bool := !decide (nI k = u) && wr b i k
def fB (a : aK) (i : Nat) (u : Int32) (p : Nat) : Bool := alB (wrB (aSet a 3 i (nI p)) i u) (aP a)
theorem aP_ph (a : aK) (i : Nat) (ph : Int32) : aP (aSet a 3 i ph) = aP a := aSet_p a ph (by omega)
theorem m_fitsBut {υ : sS} {a : aK} (hv : vK a) (hm : mK (υ.1 84) a) {j : Nat} (hj : j < aN a) {c : Nat} (hc2 : 2 ≤ c) (hc12 : c ≤ 12) (ec : a.1 2 j = nI c) (u : Int32) : ∃ ω, f_X12_fitsBut υ (nI j) u = some (oS (fB a j u) c, ω) ∧ frm υ ω := by
  have h9 : aN a ≤ 9 := hv.1.1.2
  have h6 : aP a ≤ 6 := hv.1.2.2.1.2
  unfold f_X12_fitsBut fl_X12_fitsBut_13
  rw [m_its2 hv hm hj, bd_some]
  have h84 : υ.1 84 (8 + 4 * j) = a.1 3 j := (hm.2.1 j hj).2.2.1
  have hi8 := sIn_nI (show 8 + 4 * j < 316 by omega) (show 316 < 2 ^ 31 by omega)
  have hc8 := nI_clamp (show 8 + 4 * j < 2 ^ 31 by omega)
  refine lp_inv (body := fb_X12_fitsBut_13) (I := fun k p => p.2 = (nI j, u, a.1 3 j, oS (fB a j u) k, nI k) ∧ ∀ x y, ¬ scr x y → ¬ (x = 84 ∧ y = 8 + 4 * j) → p.1.1 x y = υ.1 x y) (e := c) (P := fun X => ∃ ω, X = some (oS (fB a j u) c, ω) ∧ frm υ ω) ?_ ?_ nF 0 (υ, nI j, u, a.1 3 j, 0, 0) (by omega) (nF_big (by omega)) ⟨rfl, fun _ _ _ _ => rfl⟩
  · rintro k hk ⟨ψ, y⟩ ⟨hy, a1⟩ back
    have hy2 : y = (nI j, u, a.1 3 j, oS (fB a j u) k, nI k) := hy
    subst hy2
    have a1' : ∀ x y, ¬ scr x y → ¬ (x = 84 ∧ y = 8 + 4 * j) → ψ.1 x y = υ.1 x y := a1
    have hck : f_X12_its ψ (nI j) 1 = some (nI c) := by
      have k1 := m_its ψ (i := j) (k := 1) (by omega) (by omega)
      rw [show 6 + 4 * j + 1 = 7 + 4 * j by omega, a1' 84 (7 + 4 * j) (by unfold scr; omega) (by omega), (hm.2.1 j hj).2.1, ec] at k1
      exact k1
    have hlt : nI k < nI c := (nn_lt (by omega) (by omega)).mpr hk
    have hrow : (sI ψ 84 (8 + 4 * j) (nI k)).1 84 = (sI υ 84 (8 + 4 * j) (nI k)).1 84 := by
      rw [sI_row, sI_row]
      funext x
      rw [upd_r, upd_r]
      by_cases e : x = 8 + 4 * j
      · rw [if_pos e, if_pos e]
      · rw [if_neg e, if_neg e]
        exact a1' 84 x (by unfold scr; omega) (fun g => e g.2)
    obtain ⟨b, hb⟩ : ∃ b, b = aSet a 3 j (nI k) := ⟨_, rfl⟩
    have hvb : vK b := by rw [hb]; exact v_pha hv (i := j) (ph_bt (show k < 12 by omega))
    have hmb : mK ((sI ψ 84 (8 + 4 * j) (nI k)).1 84) b := by rw [hrow, hb]; exact m_pha hv hj (nI k) hm
    have hnb : aN b = aN a := by rw [hb]; exact aN_ph a j _
    have hpb : aP b = aP a := by rw [hb]; exact aP_ph a j _
    have hjb : j < aN b := by omega
    obtain ⟨ω, g1, g2, g3, g4⟩ := m_goesE hvb hmb
    have n3 : ω.1 84 3 = nI (aP b) := g2.1.1.2.2.2.2.trans hvb.1.2.2.1.1
    refine ⟨(ω, nI j, u, a.1 3 j, oS (fB a j u) (k + 1), nI (k + 1)), ⟨rfl, fun x y hs he => ?_⟩, ?_⟩
    · show ω.1 x y = _
      rw [frm_sI g4 x y hs he]
      exact a1' x y hs he
    · have inner : fl_X12_fitsBut_46 back (ω, nI j, u, a.1 3 j, oS (fB a j u) k, nI k, 1, 0) = back (ω, nI j, u, a.1 3 j, oS (fB a j u) (k + 1), nI (k + 1)) := by
        unfold fl_X12_fitsBut_46
        refine lp_for (body := fb_X12_fitsBut_46 back) (fun z => (ω, nI j, u, a.1 3 j, oS (fB a j u) k, nI k, (if alB (wrB b j u) z = true then (1 : Int32) else 0), nI z)) (aP b) _ ?_ ?_ nF 0 (by omega) (nF_big (by omega))
        · intro z hz bk
          obtain ⟨p1, p2, p3⟩ := g2.1.2.2.2.1 z hz
          have hlz : nI z < nI (aP b) := (nn_lt (by omega) (by omega)).mpr hz
          have v4 : (66 : Int32) + ((3 : Int32) * nI z) = nI (66 + 3 * z) := by rw [show (66 : Int32) = nI 66 from rfl, show (3 : Int32) = nI 3 from rfl, pk_mul, nI_add]
          have v5 : nI (66 + 3 * z) + 1 = nI (67 + 3 * z) := by rw [nI_1]; congr 1; omega
          have v6 : nI (66 + 3 * z) + 2 = nI (68 + 3 * z) := by rw [show (2 : Int32) = nI 2 from rfl, nI_add]; congr 1; omega
          have i66 := sIn_nI (show 66 + 3 * z < 316 by omega) (show 316 < 2 ^ 31 by omega)
          have i67 := sIn_nI (show 67 + 3 * z < 316 by omega) (show 316 < 2 ^ 31 by omega)
          have i68 := sIn_nI (show 68 + 3 * z < 316 by omega) (show 316 < 2 ^ 31 by omega)
          have c66 := nI_clamp (show 66 + 3 * z < 2 ^ 31 by omega)
          have c67 := nI_clamp (show 67 + 3 * z < 2 ^ 31 by omega)
          have c68 := nI_clamp (show 68 + 3 * z < 2 ^ 31 by omega)
          have hal : alB (wrB b j u) (z + 1) = (alB (wrB b j u) z && !(wrB b j u z)) := rfl
          have hwz : wrB b j u z = (!decide (nI z = u) && (decide (b.1 8 z = nI j) && !decide (aHn b j (b.1 9 z) = b.1 10 z))) := rfl
          rw [hal, hwz]
          obtain ⟨A, hA⟩ : ∃ A, A = alB (wrB b j u) z := ⟨_, rfl⟩
          rw [← hA]
          simp only [fb_X12_fitsBut_46, sin_3_316, grd_true, tn_3, n3, if_pos hlz, v4, pt_eq, grd_of i66, c66, p1, v5, v6, grd_of i67, c67, p2, grd_of i68, c68, p3, m_heightOf hvb g2 hjb, bd_some, fj_X12_fitsBut_114, fj_X12_fitsBut_118, fj_X12_fitsBut_119, nI_1]
          by_cases d0 : nI z = u
          · cases A <;> simp [d0]
          · by_cases d1 : b.1 8 z = nI j
            · by_cases d2 : aHn b j (b.1 9 z) = b.1 10 z
              · cases A <;> simp [d0, d1, d2]
              · cases A <;> simp [d0, d1, d2]
            · cases A <;> simp [d0, d1]
        · intro bk
          have hfb : alB (wrB b j u) (aP b) = fB a j u k := by unfold fB; rw [← hb, hpb]
          rw [← oS_or (fB a j u) k, ← hfb]
          simp only [fb_X12_fitsBut_46, sin_3_316, grd_true, tn_3, n3, Int32.lt_irrefl, if_false, fj_X12_fitsBut_127, fj_X12_fitsBut_142, nI_1]
          cases alB (wrB b j u) (aP b) <;> simp
      simp only [fb_X12_fitsBut_13, hck, bd_some, if_pos hlt, m_at2, grd_of hi8, hc8, pt_eq, g1, inner]
  · rintro ⟨ψ, y⟩ ⟨hy, a1⟩ back
    have hy2 : y = (nI j, u, a.1 3 j, oS (fB a j u) c, nI c) := hy
    subst hy2
    have a1' : ∀ x y, ¬ scr x y → ¬ (x = 84 ∧ y = 8 + 4 * j) → ψ.1 x y = υ.1 x y := a1
    have hck : f_X12_its ψ (nI j) 1 = some (nI c) := by
      have k1 := m_its ψ (i := j) (k := 1) (by omega) (by omega)
      rw [show 6 + 4 * j + 1 = 7 + 4 * j by omega, a1' 84 (7 + 4 * j) (by unfold scr; omega) (by omega), (hm.2.1 j hj).2.1, ec] at k1
      exact k1
    refine ⟨sI ψ 84 (8 + 4 * j) (a.1 3 j), ?_, sI_back a1' h84.symm⟩
    simp only [fb_X12_fitsBut_13, hck, bd_some, Int32.lt_irrefl, if_false, fj_X12_fitsBut_151, m_at2, grd_of hi8, hc8, pt_eq]
theorem fB_m1 {a : aK} (hv : vK a) {j p : Nat} : fB a j (-1) p = alB (wr (aSet a 3 j (nI p)) j) (aP a) := by
  have h6 : aP a ≤ 6 := hv.1.2.2.1.2
  have key : ∀ n, n ≤ 6 → alB (wrB (aSet a 3 j (nI p)) j (-1)) n = alB (wr (aSet a 3 j (nI p)) j) n := fun n => by
    induction n with
    | zero => intro _; rfl
    | succ n ih =>
      intro hn
      have hne : ¬ nI n = -1 := fun e => by
        have e1 : (nI n).toInt = (-1 : Int32).toInt := congrArg Int32.toInt e
        rw [nI_toInt (by omega)] at e1
        exact absurd e1 (by have : (-1 : Int32).toInt = -1 := rfl; omega)
      show (alB _ n && !(wrB _ j (-1) n)) = (alB _ n && !(wr _ j n))
      rw [ih (by omega)]
      unfold wrB
      rw [decide_eq_false hne]
      rfl
  exact key (aP a) h6
theorem op_fits (i : Int32) : Op (fun σ => f_X11_fits σ i) (fun σ => f_X12_fits σ i) := by
  refine Op_an fun σ a hv hc => ?_
  have h9 : aN a ≤ 9 := hv.1.1.2
  have n1 : σ.1 1 4 = nI (aN a) := hc.1.1.trans hv.1.1.1
  have n2 : ∀ {υ : sS}, mK (υ.1 84) a → υ.1 84 0 = nI (aN a) := fun h => h.1.1.trans hv.1.1.1
  by_cases ci : 0 ≤ i.toInt ∧ i.toInt < aN a
  rotate_left
  · exact ⟨-1, σ, by simp only [f_X11_fits, x_has n1 h9, bd_some, if_neg ci, if_true], frm_rf, fun υ hm => ⟨υ, by simp only [f_X12_fits, m_isAn (n2 hm) h9, bd_some, if_neg ci, if_true], frm_rf⟩⟩
  obtain ⟨j, hj, ej⟩ := i32_nI ci.1 ci.2 (by omega)
  obtain ⟨c, hc2, hc12, ec⟩ := ck_nI hv hj
  have hin := sIn_nI (show j < 9 by omega) (show 9 < 2 ^ 31 by omega)
  have hcl := nI_clamp (show j < 2 ^ 31 by omega)
  have h6 : aP a ≤ 6 := hv.1.2.2.1.2
  have hX : ∃ ψ, fl_X11_fits_17 (σ, nI j, 0, 0) = some (oS (fB a j (-1)) c, ψ) ∧ frm σ ψ := by
    unfold fl_X11_fits_17
    refine lp_inv (body := fb_X11_fits_17) (I := fun k p => p.2 = (nI j, oS (fB a j (-1)) k, nI k) ∧ ∀ q x, q ≠ 14 → ¬ (q = 19 ∧ x = 4) → p.1.1 q x = σ.1 q x) (e := c) (P := fun X => ∃ ψ, X = some (oS (fB a j (-1)) c, ψ) ∧ frm σ ψ) ?_ ?_ nF 0 (σ, nI j, 0, 0) (by omega) (nF_big (by omega)) ⟨rfl, fun _ _ _ _ => rfl⟩
    · rintro k hk ⟨ψ, y⟩ ⟨hy, a1⟩ back
      have hy2 : y = (nI j, oS (fB a j (-1)) k, nI k) := hy
      subst hy2
      have a1' : ∀ q x, q ≠ 14 → ¬ (q = 19 ∧ x = 4) → ψ.1 q x = σ.1 q x := a1
      have hcψ : cK ψ a := cK_19 a1' hc
      have ek : ψ.1 3 j = nI c := by rw [(hcψ.2.1 j hj).2.1, ec]
      have hlt : nI k < nI c := (nn_lt (by omega) (by omega)).mpr hk
      obtain ⟨χ, r1, r2, r3⟩ := x_wrong hv hcψ hj (nI k)
      have hle := cN_le (wr (aSet a 3 j (nI k)) j) (aP a)
      have hc0 : (nI (cN (wr (aSet a 3 j (nI k)) j) (aP a)) = 0) ↔ fB a j (-1) k = true := by
        rw [fB_m1 hv, ← cN_0]
        exact nI_eq (b := 0) (by omega) (by omega)
      refine ⟨(χ, nI j, oS (fB a j (-1)) (k + 1), nI (k + 1)), ⟨rfl, fun q x h1 h2 => ?_⟩, ?_⟩
      · show χ.1 q x = _
        rw [r2 q x h1 h2]
        exact a1' q x h1 h2
      · simp only [fb_X11_fits_17, grd_of hin, hcl, ek, if_pos hlt, r1, bd_some, hc0, pt_eq, nI_1]
        show _ = back (χ, nI j, (if fB a j (-1) k = true then oS (fB a j (-1)) k ||| ((1 : Int32) <<< (nI k &&& 31)) else oS (fB a j (-1)) k), nI (k + 1))
        cases fB a j (-1) k <;> simp
    · rintro ⟨ψ, y⟩ ⟨hy, a1⟩ back
      have hy2 : y = (nI j, oS (fB a j (-1)) c, nI c) := hy
      subst hy2
      have hcψ : cK ψ a := cK_19 a1 hc
      have ek : ψ.1 3 j = nI c := by rw [(hcψ.2.1 j hj).2.1, ec]
      refine ⟨ψ, ?_, frm_19 a1⟩
      simp only [fb_X11_fits_17, grd_of hin, hcl, ek, Int32.lt_irrefl, if_false]
  obtain ⟨ψ, x1, x2⟩ := hX
  refine ⟨oS (fB a j (-1)) c, ψ, ?_, x2, fun υ hm => ?_⟩
  · simp only [f_X11_fits, x_has n1 h9, bd_some, if_pos ci, z10, if_false]
    rw [ej]
    exact x1
  · obtain ⟨ω, g1, g2⟩ := m_fitsBut hv hm hj hc2 hc12 ec (-1)
    refine ⟨ω, ?_, g2⟩
    simp only [f_X12_fits, m_isAn (n2 hm) h9, bd_some, if_pos ci, z10, if_false]
    rw [ej, g1, bd_some]
