/-! another phase of one animal: slipped, phases -/
theorem aS_ne (a : aK) {r k x y : Nat} (v : Int32) (h : ¬ (x = r ∧ y = k)) : (aSet a r k v).1 x y = a.1 x y := by rw [aSet_r, if_neg h]
theorem aS_eq (a : aK) (r k : Nat) (v : Int32) : (aSet a r k v).1 r k = v := by rw [aSet_r, if_pos ⟨rfl, rfl⟩]
theorem aGo_oth {a : aK} {i k : Nat} (ph : Int32) (h : k ≠ i) : aGo (aSet a 3 i ph) k = aGo a k := by
  have e : aFa (aSet a 3 i ph) k = aFa a k := funext fun x => by
    unfold aFa
    rw [aS_ne a ph (x := 0) (y := 1) (by omega), aS_ne a ph (x := 2) (y := k) (by omega), aS_ne a ph (x := 3) (y := k) (by omega), aS_ne a ph (x := 4) (y := k) (by omega)]
  unfold aGo aRi
  rw [e, aSet_2, aS_ne a ph (x := 1) (y := k) (by omega)]
theorem aHt_ph (a : aK) (i k : Nat) (ph pl : Int32) : aHt (aSet a 3 i ph) k pl = aHt a k pl := by
  unfold aHt
  rw [aS_ne a ph (x := 2) (y := k) (by omega), aS_ne a ph (x := 1) (y := k) (by omega)]
theorem aPl_ph (a : aK) (i k : Nat) (ph q g t : Int32) : aPl (aSet a 3 i ph) k q g t = aPl a k q g t := by
  unfold aPl
  rw [aS_ne a ph (x := 2) (y := k) (by omega), aS_ne a ph (x := 1) (y := k) (by omega)]
theorem aPn_oth {a : aK} {i k : Nat} (ph t : Int32) (h : k ≠ i) : aPn (aSet a 3 i ph) k t = aPn a k t := by
  unfold aPn
  rw [aPl_ph, aGo_oth ph h, aS_ne a ph (x := 3) (y := k) (by omega)]
theorem aPn_own (a : aK) (i : Nat) (ph t : Int32) : aPn (aSet a 3 i ph) i t = aPl a i ph (aGo (aSet a 3 i ph) i) t := by
  unfold aPn
  rw [aPl_ph, aS_eq]
theorem aHn_oth {a : aK} {i k : Nat} (ph t : Int32) (h : k ≠ i) : aHn (aSet a 3 i ph) k t = aHn a k t := by
  unfold aHn
  rw [aHt_ph, aPn_oth ph t h]
theorem aHn_own (a : aK) (i : Nat) (ph t : Int32) : aHn (aSet a 3 i ph) i t = aHt a i (aPl a i ph (aGo (aSet a 3 i ph) i) t) := by
  unfold aHn
  rw [aHt_ph, aPn_own]
theorem aHg_oth {a : aK} {i k : Nat} (ph t : Int32) (h : k ≠ i) : aHg (aSet a 3 i ph) k t = aHg a k t := by
  unfold aHg
  rw [aHn_oth ph t h, aS_ne a ph (x := 0) (y := 1) (by omega)]
theorem aHg_own (a : aK) (i : Nat) (ph t : Int32) : aHg (aSet a 3 i ph) i t = !decide (aHt a i (aPl a i ph (aGo (aSet a 3 i ph) i) t) < a.1 0 1) := by
  unfold aHg
  rw [aHn_own, aS_ne a ph (x := 0) (y := 1) (by omega)]
/-- the class asks, still valid after a call that writes facts alone -/
theorem cE_14 {σ τ : sS} {a : aK} (h : ∀ q, q ≠ 14 → τ.1 q = σ.1 q) (hE : cE σ a) : cE τ a := by
  refine ⟨cK_scr (fun q _ _ h3 => h q h3) hE.1, fun i hi => ?_⟩
  rw [h 12 (by omega), h 13 (by omega)]
  exact hE.2 i hi
theorem frm_14 {σ τ : sS} (h : ∀ q, q ≠ 14 → τ.1 q = σ.1 q) : frm σ τ := fun q j g => by rw [h q (fun e => g (by unfold scr; omega))]
theorem x_highWith {σ : sS} {a : aK} (hv : vK a) (hE : cE σ a) {i : Nat} (hi : i < aN a) (ph t : Int32) : ∃ τ, f_X3_isHighWith σ (nI i) ph t = some (if aHg (aSet a 3 i ph) i t = true then 1 else 0, τ) ∧ ∀ q, q ≠ 14 → τ.1 q = σ.1 q := by
  obtain ⟨τ, e, off⟩ := x_paceWith hv hE.1 hi ph
  have hcτ : cK τ a := cK_scr (fun q _ _ h3 => off q h3) hE.1
  have e5 : τ.1 1 5 = a.1 0 1 := hcτ.1.2.1
  refine ⟨τ, ?_, off⟩
  unfold f_X3_isHighWith
  rw [e, bd_some]
  show bd (f_X3_placeWith τ (nI i) ph (aGo (aSet a 3 i ph) i) t) _ = _
  rw [x_place hv hcτ hi, bd_some]
  show bd (f_X3_heightAt τ (nI i) _) _ = _
  rw [x_ht hv hcτ hi, bd_some, aHg_own]
  show (if _ < τ.1 1 5 then some (0, τ) else some (1, τ)) = _
  rw [e5]
  by_cases c : aHt a i (aPl a i ph (aGo (aSet a 3 i ph) i) t) < a.1 0 1
  · rw [if_pos c, decide_eq_true c]; rfl
  · rw [if_neg c, decide_eq_false c]; rfl
def slp (a : aK) (i : Nat) (n : Int32) : Int32 := irm ((a.1 3 i + n) + ((12 : Int32) * a.1 2 i)) (a.1 2 i)
theorem x_slp {σ : sS} {a : aK} (hv : vK a) (hc : cK σ a) {i : Nat} (hi : i < aN a) (n : Int32) : f_X3_phaseSlipped σ (nI i) n = some (slp a i n) := by
  have h9 : aN a ≤ 9 := hv.1.1.2
  have hin := sIn_nI (show i < 9 by omega) (show 9 < 2 ^ 31 by omega)
  have hcl := nI_clamp (show i < 2 ^ 31 by omega)
  obtain ⟨e1, e2, e3, e4⟩ := hc.2.1 i hi
  unfold f_X3_phaseSlipped slp
  simp only [grd_of hin, hcl, e2, e3, x_rem _ (ck_ne hv hi), bd_some]
theorem v_pha {a : aK} (hv : vK a) {i : Nat} {ph : Int32} (hp : bt ph 0 11) : vK (aSet a 3 i ph) := v_an (r := 3) (by omega) (by omega) i hp hv
theorem aN_ph (a : aK) (i : Nat) (ph : Int32) : aN (aSet a 3 i ph) = aN a := aSet_n a ph (by omega)
/-- the model writes a phase -/
theorem m_pha {υ : sS} {a : aK} (hv : vK a) {i : Nat} (hi : i < aN a) (ph : Int32) (hm : mK (υ.1 84) a) : mK ((sI υ 84 (8 + 4 * i) ph).1 84) (aSet a 3 i ph) := by
  have h9 : aN a ≤ 9 := hv.1.1.2
  rw [sI_row, show 8 + 4 * i = 6 + 4 * i + (3 - 1) by omega]
  exact m_an (r := 3) (by omega) (by omega) (by omega) ph h9 hm
theorem m_at2 (σ : sS) (i : Nat) : f_X12_at σ (nI i) 2 = some (nI (8 + 4 * i)) := by
  have := m_at σ i 2
  rw [show 6 + 4 * i + 2 = 8 + 4 * i by omega] at this
  exact this
theorem sI_back {υ ω : sS} {q j : Nat} {v : Int32} (h : ∀ x y, ¬ scr x y → ¬ (x = q ∧ y = j) → ω.1 x y = υ.1 x y) (hv : v = υ.1 q j) : frm υ (sI ω q j v) := fun x y hs => by
  rw [sI_r]
  by_cases e1 : x = q
  · by_cases e2 : y = j
    · rw [if_pos e1, if_pos e2, e1, e2, hv]
    · rw [if_pos e1, if_neg e2, ← e1]
      exact h x y hs (fun e => e2 e.2)
  · rw [if_neg e1]
    exact h x y hs (fun e => e1 e.1)
theorem frm_sI {υ ω : sS} {q j : Nat} {v : Int32} (h : frm (sI υ q j v) ω) : ∀ x y, ¬ scr x y → ¬ (x = q ∧ y = j) → ω.1 x y = υ.1 x y := fun x y hs he => by
  rw [h x y hs, sI_r]
  by_cases e1 : x = q
  · have e2 : y ≠ j := fun e2 => he ⟨e1, e2⟩
    rw [if_pos e1, if_neg e2, e1]
  · rw [if_neg e1]
/-- the set of those high after one slipped -/
theorem st_slip {a : aK} (hv : vK a) {i : Nat} (hi : i < aN a) (ph t : Int32) : aSt (aSet a 3 i ph) t = (if aHg (aSet a 3 i ph) i t = true then aSt a t ||| ((1 : Int32) <<< (nI i &&& 31)) else aSt a t &&& (((1 : Int32) <<< (nI i &&& 31)) ^^^ (-1))) := by
  have h9 : aN a ≤ 9 := hv.1.1.2
  refine tb_ext fun k hk => ?_
  unfold aSt
  rw [aN_ph, tb_oS (by omega) hk]
  by_cases e : k = i
  · subst e
    rw [decide_eq_true hi, Bool.true_and]
    cases hb : aHg (aSet a 3 k ph) k t with
    | true => rw [if_pos rfl, tb_or, tb_one k hk hk, decide_eq_true rfl, Bool.or_true]
    | false => rw [if_neg (by decide), tb_and, tb_xor, tb_one k hk hk, tb_m1 k hk, decide_eq_true rfl]; simp
  · have ho : aHg (aSet a 3 i ph) k t = aHg a k t := aHg_oth ph t e
    cases hb : aHg (aSet a 3 i ph) i t with
    | true => rw [if_pos rfl, tb_or, tb_one i (by omega) hk, decide_eq_false e, Bool.or_false, tb_oS (by omega) hk, ho]
    | false => rw [if_neg (by decide), tb_and, tb_xor, tb_one i (by omega) hk, tb_m1 k hk, decide_eq_false e, tb_oS (by omega) hk, ho]; simp
def sP (a : aK) (t w : Int32) (i : Nat) : Bool := decide (aSt (aSet a 3 i (slp a i 1)) t = w)
theorem slp_bt {a : aK} (hv : vK a) {i : Nat} (hi : i < aN a) : bt (slp a i 1) 0 11 := (slip_v (n := 1) (hv.2.1 i hi).2.2.1 (hv.2.1 i hi).2.1 (by decide)).2
theorem op_slipped (t w : Int32) : Op (fun σ => f_X11_slipped σ t w) (fun σ => f_X12_slipped σ t w) := by
  refine Op_an fun σ a hv hc => ?_
  have h9 : aN a ≤ 9 := hv.1.1.2
  have n1 : σ.1 1 4 = nI (aN a) := hc.1.1.trans hv.1.1.1
  have n2 : ∀ {υ : sS}, mK (υ.1 84) a → υ.1 84 0 = nI (aN a) := fun h => h.1.1.trans hv.1.1.1
  by_cases ct : 0 ≤ t.toInt ∧ t.toInt ≤ 9999
  rotate_left
  · exact ⟨-1, σ, by simp only [f_X11_slipped, x_isTurn, bd_some, if_neg ct, if_true], frm_rf, fun υ hm => ⟨υ, by simp only [f_X12_slipped, m_isTurn, bd_some, if_neg ct, if_true], frm_rf⟩⟩
  by_cases cw : 0 ≤ w.toInt ∧ w.toInt ≤ 2 ^ aN a - 1
  rotate_left
  · exact ⟨-1, σ, by simp only [f_X11_slipped, x_isTurn, x_hasAll n1 h9, bd_some, if_pos ct, z10, if_false, if_neg cw, if_true], frm_rf, fun υ hm => ⟨υ, by simp only [f_X12_slipped, m_isTurn, m_isSet (n2 hm) h9, bd_some, if_pos ct, z10, if_false, if_neg cw, if_true], frm_rf⟩⟩
  obtain ⟨τ, e1, e2, e3, e4⟩ := x_askE hv hc
  have hX : ∃ ψ, fl_X11_slipped_39 (τ, t, w, aSt a t, 0) = some (rI (fst (sP a t w) (aN a) 0), ψ) ∧ frm τ ψ := by
    unfold fl_X11_slipped_39
    refine lp_wf (body := fb_X11_slipped_39) (I := fun p => ∃ k, k ≤ aN a ∧ p.2 = (t, w, aSt a t, nI k) ∧ (∀ q, q ≠ 14 → p.1.1 q = τ.1 q) ∧ ∀ j, j < k → sP a t w j = false) (m := fun p => aN a - p.2.2.2.2.toNatClampNeg) (P := fun X => ∃ ψ, X = some (rI (fst (sP a t w) (aN a) 0), ψ) ∧ frm τ ψ) ?_ nF (τ, t, w, aSt a t, 0) (nF_big (by show aN a - _ < 4000; omega)) ⟨0, by omega, rfl, fun _ _ => rfl, fun _ h => absurd h (Nat.not_lt_zero _)⟩
    rintro ⟨ψ, y⟩ ⟨k, hk, hy, a1, hno⟩
    have hy2 : y = (t, w, aSt a t, nI k) := hy
    subst hy2
    have a1' : ∀ q, q ≠ 14 → ψ.1 q = τ.1 q := a1
    have hEψ : cE ψ a := cE_14 a1' e2
    have m1 : ψ.1 1 4 = nI (aN a) := hEψ.1.1.1.trans hv.1.1.1
    by_cases c : k < aN a
    · have hlt : nI k < nI (aN a) := (nn_lt (by omega) (by omega)).mpr c
      obtain ⟨χ, r1, r2⟩ := x_highWith hv hEψ c (slp a k 1) t
      have hst := st_slip hv c (slp a k 1) t
      have hb : ∀ back, fb_X11_slipped_39 back (ψ, t, w, aSt a t, nI k) = (if aSt (aSet a 3 k (slp a k 1)) t = w then some (nI k, χ) else back (χ, t, w, aSt a t, nI (k + 1))) := fun back => by
        rw [hst]
        simp only [fb_X11_slipped_39, m1, if_pos hlt, x_slp hv hEψ.1 c, bd_some, r1, fj_X11_slipped_95, nI_1]
        cases aHg (aSet a 3 k (slp a k 1)) k t <;> simp
      by_cases d : aSt (aSet a 3 k (slp a k 1)) t = w
      · right
        refine ⟨some (nI k, χ), ⟨χ, ?_, frm_14 fun q hq => by rw [r2 q hq, a1' q hq]⟩, fun back => by rw [hb, if_pos d]⟩
        rw [fst_is (p := sP a t w) (j := k) (by omega) (by omega) (decide_eq_true d) (fun j _ hj => hno j hj)]
        rfl
      · left
        refine ⟨(χ, t, w, aSt a t, nI (k + 1)), ⟨k + 1, by omega, rfl, fun q hq => by rw [show (χ, t, w, aSt a t, nI (k + 1)).1.1 q = χ.1 q from rfl, r2 q hq, a1' q hq], fun j hj => ?_⟩, ?_, fun back => by rw [hb, if_neg d]⟩
        · by_cases e : j = k
          · rw [e]; exact decide_eq_false d
          · exact hno j (by omega)
        · show aN a - (nI (k + 1)).toNatClampNeg < aN a - (nI k).toNatClampNeg
          rw [nI_clamp (by omega), nI_clamp (by omega)]
          omega
    · right
      have ek : k = aN a := by omega
      subst ek
      refine ⟨some (-3, ψ), ⟨ψ, ?_, frm_14 a1'⟩, fun back => ?_⟩
      · rw [fst_non (p := sP a t w) fun j _ hj => hno j (by omega)]
        rfl
      · simp only [fb_X11_slipped_39, m1, Int32.lt_irrefl, if_false]
  obtain ⟨ψ, x1, x2⟩ := hX
  refine ⟨rI (fst (sP a t w) (aN a) 0), ψ, ?_, frm_tr e4 x2, fun υ hm => ?_⟩
  · simp only [f_X11_slipped, x_isTurn, x_hasAll n1 h9, bd_some, if_pos ct, if_pos cw, z10, if_false, e1, x_setHigh hv e2, x1]
  · simp only [f_X12_slipped, m_isTurn, m_isSet (n2 hm) h9, bd_some, if_pos ct, if_pos cw, z10, if_false]
    unfold fl_X12_slipped_23
    refine lp_wf (body := fb_X12_slipped_23) (I := fun p => frm υ p.1 ∧ ((∃ k, k ≤ aN a ∧ p.2 = (t, w, -3, nI k) ∧ ∀ j, j < k → sP a t w j = false) ∨ (∃ k, fst (sP a t w) (aN a) 0 = some k ∧ p.2 = (t, w, nI k, nI (k + 1))))) (m := fun p => aN a + 1 - p.2.2.2.2.toNatClampNeg) (P := fun X => ∃ ω, X = some (rI (fst (sP a t w) (aN a) 0), ω) ∧ frm υ ω) ?_ nF (υ, t, w, -3, 0) (nF_big (by show aN a + 1 - _ < 4000; omega)) ⟨frm_rf, Or.inl ⟨0, by omega, rfl, fun _ h => absurd h (Nat.not_lt_zero _)⟩⟩
    rintro ⟨ψ, y⟩ ⟨a1, h⟩
    have a1' : frm υ ψ := a1
    have hmψ : mK (ψ.1 84) a := by rw [frm_84 a1']; exact hm
    have m2 : ψ.1 84 0 = nI (aN a) := n2 hmψ
    rcases h with ⟨k, hk, hy, hno⟩ | ⟨k, hk, hy⟩
    · have hy2 : y = (t, w, -3, nI k) := hy
      subst hy2
      by_cases c : k < aN a
      · left
        have hlt : nI k < nI (aN a) := (nn_lt (by omega) (by omega)).mpr c
        have h84 : ψ.1 84 (8 + 4 * k) = a.1 3 k := (hmψ.2.1 k c).2.2.1
        have hin := sIn_nI (show 8 + 4 * k < 316 by omega) (show 316 < 2 ^ 31 by omega)
        have hcl := nI_clamp (show 8 + 4 * k < 2 ^ 31 by omega)
        have hsl : f_X12_slips ψ (nI k) 1 = some (sI ψ 84 (8 + 4 * k) (slp a k 1)) := by
          simp only [f_X12_slips, m_at2, m_its2 hv hmψ c, m_its1 hv hmψ c, bd_some, grd_of (decide_eq_true (ck_ne hv c)), grd_of hin, hcl, pt_eq]
          rfl
        have hvb := v_pha hv (i := k) (slp_bt hv c)
        obtain ⟨ω, g1, g2, g3, g4⟩ := m_goesE hvb (m_pha hv c (slp a k 1) hmψ)
        have fr : frm υ (sI ω 84 (8 + 4 * k) (a.1 3 k)) := frm_tr a1' (sI_back (frm_sI g4) h84.symm)
        have hb : ∀ back, fb_X12_slipped_23 back (ψ, t, w, -3, nI k) = (if aSt (aSet a 3 k (slp a k 1)) t = w then back (sI ω 84 (8 + 4 * k) (a.1 3 k), t, w, nI k, nI (k + 1)) else back (sI ω 84 (8 + 4 * k) (a.1 3 k), t, w, -3, nI (k + 1))) := fun back => by
          simp only [fb_X12_slipped_23, sin_0_316, grd_true, tn_0, m2, if_pos hlt, if_pos (show (-3 : Int32) < 0 by decide), m_its2 hv hmψ c, bd_some, hsl, g1, m_setHigh hvb g2, fj_X12_slipped_74, m_at2, grd_of hin, hcl, pt_eq, nI_1]
        have hms : ∀ f : Int32, aN a + 1 - (sI ω 84 (8 + 4 * k) (a.1 3 k), t, w, f, nI (k + 1)).2.2.2.2.toNatClampNeg < aN a + 1 - (ψ, t, w, (-3 : Int32), nI k).2.2.2.2.toNatClampNeg := fun f => by
          show aN a + 1 - (nI (k + 1)).toNatClampNeg < aN a + 1 - (nI k).toNatClampNeg
          rw [nI_clamp (by omega), nI_clamp (by omega)]
          omega
        by_cases d : aSt (aSet a 3 k (slp a k 1)) t = w
        · exact ⟨(sI ω 84 (8 + 4 * k) (a.1 3 k), t, w, nI k, nI (k + 1)), ⟨fr, Or.inr ⟨k, fst_is (by omega) (by omega) (decide_eq_true d) (fun j _ hj => hno j hj), rfl⟩⟩, hms _, fun back => by rw [hb, if_pos d]⟩
        · refine ⟨(sI ω 84 (8 + 4 * k) (a.1 3 k), t, w, -3, nI (k + 1)), ⟨fr, Or.inl ⟨k + 1, by omega, rfl, fun j hj => ?_⟩⟩, hms _, fun back => by rw [hb, if_neg d]⟩
          by_cases e : j = k
          · rw [e]; exact decide_eq_false d
          · exact hno j (by omega)
      · right
        have ek : k = aN a := by omega
        subst ek
        refine ⟨some (-3, ψ), ⟨ψ, ?_, a1'⟩, fun back => ?_⟩
        · rw [fst_non (p := sP a t w) fun j _ hj => hno j (by omega)]
          rfl
        · simp only [fb_X12_slipped_23, sin_0_316, grd_true, tn_0, m2, Int32.lt_irrefl, if_false]
    · have hy2 : y = (t, w, nI k, nI (k + 1)) := hy
      subst hy2
      have hkl := fst_some hk
      right
      refine ⟨some (nI k, ψ), ⟨ψ, by rw [hk]; rfl, a1'⟩, fun back => ?_⟩
      simp only [fb_X12_slipped_23, sin_0_316, grd_true, tn_0, if_neg (nI_pos (show k < 2 ^ 31 by omega))]
      split <;> rfl
