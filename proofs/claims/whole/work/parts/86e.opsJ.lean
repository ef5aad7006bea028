/-! prove, judge -/
theorem cE_lo {σ τ : sS} {a : aK} (h : ∀ q, q ≤ 22 → τ.1 q = σ.1 q) (hE : cE σ a) : cE τ a := by
  refine ⟨cK_of (fun q j g => ?_) hE.1, fun i hi => ?_⟩
  · have := pCur_r g
    rw [h q (by omega)]
  · rw [h 12 (by omega), h 13 (by omega)]
    exact hE.2 i hi
theorem mE_lo {σ τ : sS} {a : aK} (h1 : τ.1 84 = σ.1 84) (h2 : τ.1 88 = σ.1 88) (hE : mEv σ a) : mEv τ a := by
  refine ⟨by rw [h1]; exact hE.1, fun i hi => ?_⟩
  rw [h2]
  exact hE.2 i hi
/-- only rows and scratch changed -/
theorem Rel_rows {σ τ : sS} (h : ∀ q j, ¬ scr q j → q ≠ 67 → q ≠ 68 → q ≠ 96 → ¬ (q = 83 ∧ j = 16) → τ.1 q j = σ.1 q j) (hr : rRows τ) (hR : Rel σ) : Rel τ := by
  obtain ⟨⟨a, hv, hc, hm⟩, o1, o2, o3, o4, o5, o6⟩ := hR
  refine ⟨⟨a, hv, cK_of (fun q j g => ?_) hc, mK_of (fun q j g => ?_) hm⟩, rKept_of (fun q j g => ?_) o1, rTape_of (fun q j g => ?_) o2, hr, rSheets_of (fun q j g => ?_) o4, rShelves_of (fun q j g => ?_) o5, rTrace_of (fun q j g => ?_) o6⟩
  · have := pCur_r g
    exact h q j (by unfold scr; omega) (by omega) (by omega) (by omega) (by omega)
  · have : q = 84 := by unfold pMod at g; simpa using g
    exact h q j (by unfold scr; omega) (by omega) (by omega) (by omega) (by omega)
  · have := pKep_q g
    exact h q j (by unfold scr; omega) (by omega) (by omega) (by omega) (by omega)
  · have : q = 45 ∨ q = 50 ∨ q = 52 ∨ q = 97 ∨ (q = 83 ∧ j = 18) := by unfold pTap at g; simp at g; omega
    exact h q j (by unfold scr; omega) (by omega) (by omega) (by omega) (by omega)
  · have := pShe_q g
    exact h q j (by unfold scr; omega) (by omega) (by omega) (by omega) (by omega)
  · have := pShf_q g
    exact h q j (by unfold scr; omega) (by omega) (by omega) (by omega) (by omega)
  · have : q = 81 ∨ q = 82 ∨ q = 104 ∨ (q = 83 ∧ j = 32) := by unfold pTra at g; simp at g; omega
    exact h q j (by unfold scr; omega) (by omega) (by omega) (by omega) (by omega)
def rwv (a : aK) (j u x : Nat) : Int32 := if x % 3 = 0 then nI (u + x / 3) else if x % 3 = 1 then aPn a j (nI (u + x / 3)) else aHn a j (nI (u + x / 3))
theorem rwv_0 (a : aK) (j u k : Nat) : rwv a j u (3 * k) = nI (u + k) := by
  unfold rwv
  rw [if_pos (by omega), show 3 * k / 3 = k by omega]
theorem rwv_1 (a : aK) (j u k : Nat) : rwv a j u (3 * k + 1) = aPn a j (nI (u + k)) := by
  unfold rwv
  rw [if_neg (by omega), if_pos (by omega), show (3 * k + 1) / 3 = k by omega]
theorem rwv_2 (a : aK) (j u k : Nat) : rwv a j u (3 * k + 2) = aHn a j (nI (u + k)) := by
  unfold rwv
  rw [if_neg (by omega), if_neg (by omega), show (3 * k + 2) / 3 = k by omega]
/-- three places written -/
theorem w3 {σ : sS} {q n : Nat} {v0 v1 v2 : Int32} {f : Nat → Int32} (h : ∀ x, x < 3 * n → σ.1 q x = f x) (h0 : v0 = f (3 * n)) (h1 : v1 = f (3 * n + 1)) (h2 : v2 = f (3 * n + 2)) : ∀ x, x < 3 * (n + 1) → (sI (sI (sI σ q (3 * n) v0) q (3 * n + 1) v1) q (3 * n + 2) v2).1 q x = f x := by
  intro x hx
  rw [sI_r, if_pos rfl, sI_r, if_pos rfl, sI_r, if_pos rfl]
  by_cases e2 : x = 3 * n + 2
  · rw [if_pos e2, e2, h2]
  by_cases e1 : x = 3 * n + 1
  · rw [if_neg e2, if_pos e1, e1, h1]
  by_cases e0 : x = 3 * n
  · rw [if_neg e2, if_neg e1, if_pos e0, e0, h0]
  · rw [if_neg e2, if_neg e1, if_neg e0]
    exact h x (by omega)
theorem ix3 (k : Nat) : (nI k * 3) + 0 = nI (3 * k) ∧ (nI k * 3) + 1 = nI (3 * k + 1) ∧ (nI k * 3) + 2 = nI (3 * k + 2) := by
  have e : nI k * 3 = nI (3 * k) := by rw [show (3 : Int32) = nI 3 from rfl, pk_mul, Nat.mul_comm]
  refine ⟨?_, ?_, ?_⟩
  · rw [e, Int32.add_zero]
  · rw [e, nI_1]
  · rw [e, show (2 : Int32) = nI 2 from rfl, nI_add]
theorem ix3m (k : Nat) : (3 : Int32) * nI k = nI (3 * k) ∧ nI (3 * k) + 1 = nI (3 * k + 1) ∧ nI (3 * k) + 2 = nI (3 * k + 2) := by
  refine ⟨?_, ?_, ?_⟩
  · rw [show (3 : Int32) = nI 3 from rfl, pk_mul]
  · rw [nI_1]
  · rw [show (2 : Int32) = nI 2 from rfl, nI_add]
theorem x_fill {σ : sS} {a : aK} (hv : vK a) (hE : cE σ a) {j : Nat} (hj : j < aN a) (u : Nat) {n : Nat} (hn : n ≤ 20) : ∃ τ, f_X4_fill σ (nI j) (nI u) (nI n) = some (nI n, τ) ∧ (∀ q, q ≠ 67 → q ≠ 68 → τ.1 q = σ.1 q) ∧ τ.1 67 1 = nI n ∧ ∀ x, x < 3 * n → τ.1 68 x = rwv a j u x := by
  unfold f_X4_fill fl_X4_fill_3
  refine lp_inv (body := fb_X4_fill_3) (I := fun k p => p.2 = (nI j, nI u, nI n, nI k) ∧ (∀ q, q ≠ 67 → q ≠ 68 → p.1.1 q = σ.1 q) ∧ ∀ x, x < 3 * k → p.1.1 68 x = rwv a j u x) (e := n) (P := fun r => ∃ τ, r = some (nI n, τ) ∧ (∀ q, q ≠ 67 → q ≠ 68 → τ.1 q = σ.1 q) ∧ τ.1 67 1 = nI n ∧ ∀ x, x < 3 * n → τ.1 68 x = rwv a j u x) ?_ ?_ nF 0 (σ, nI j, nI u, nI n, 0) (by omega) (nF_big (by omega)) ⟨rfl, fun _ _ _ => rfl, fun x h => absurd h (by omega)⟩
  · rintro k hk ⟨τ, y⟩ ⟨hy, a1, a2⟩ back
    have hy2 : y = (nI j, nI u, nI n, nI k) := hy
    subst hy2
    have a1' : ∀ q, q ≠ 67 → q ≠ 68 → τ.1 q = σ.1 q := a1
    have hEτ : cE τ a := cE_lo (fun q hq => a1' q (by omega) (by omega)) hE
    have hlt : nI k < nI n := (nn_lt (by omega) (by omega)).mpr hk
    obtain ⟨i0, i1, i2⟩ := ix3 k
    have hEω : cE (sI (sI τ 68 (3 * k) (nI (u + k))) 68 (3 * k + 1) (aPn a j (nI (u + k)))) a := cE_lo (fun q hq => by rw [sI_off _ _ _ _ (by omega), sI_off _ _ _ _ (by omega)]) hEτ
    have hh : f_X3_heightAt (sI (sI τ 68 (3 * k) (nI (u + k))) 68 (3 * k + 1) (aPn a j (nI (u + k)))) (nI j) (aPn a j (nI (u + k))) = some (aHn a j (nI (u + k))) := x_ht hv hEω.1 hj _
    refine ⟨(sI (sI (sI τ 68 (3 * k) (nI (u + k))) 68 (3 * k + 1) (aPn a j (nI (u + k)))) 68 (3 * k + 2) (aHn a j (nI (u + k))), nI j, nI u, nI n, nI (k + 1)), ⟨rfl, fun q h1 h2 => ?_, w3 (σ := τ) a2 (rwv_0 a j u k).symm (rwv_1 a j u k).symm (rwv_2 a j u k).symm⟩, ?_⟩
    · show (sI (sI (sI τ 68 (3 * k) (nI (u + k))) 68 (3 * k + 1) (aPn a j (nI (u + k)))) 68 (3 * k + 2) (aHn a j (nI (u + k)))).1 q = _
      rw [sI_off _ _ _ _ h2, sI_off _ _ _ _ h2, sI_off _ _ _ _ h2]
      exact a1' q h1 h2
    · simp only [fb_X4_fill_3, if_pos hlt, nI_add, x_placeNow hv hEτ hj, bd_some, f_X4_cellAt, i0, i1, i2, grd_of (sIn_nI (show 3 * k < 60 by omega) (by omega)), grd_of (sIn_nI (show 3 * k + 1 < 60 by omega) (by omega)), grd_of (sIn_nI (show 3 * k + 2 < 60 by omega) (by omega)), nI_clamp (show 3 * k < 2 ^ 31 by omega), nI_clamp (show 3 * k + 1 < 2 ^ 31 by omega), nI_clamp (show 3 * k + 2 < 2 ^ 31 by omega), pt_eq, hh, nI_1]
  · rintro ⟨τ, y⟩ ⟨hy, a1, a2⟩ back
    have hy2 : y = (nI j, nI u, nI n, nI n) := hy
    subst hy2
    have a2' : ∀ x, x < 3 * n → τ.1 68 x = rwv a j u x := a2
    refine ⟨sI τ 67 1 (nI n), ?_, fun q h1 h2 => ?_, sI_same _ _ _ _, fun x hx => ?_⟩
    · simp only [fb_X4_fill_3, Int32.lt_irrefl, if_false, fj_X4_fill_76, pt_eq]
    · rw [sI_off _ _ _ _ h1]
      exact a1 q h1 h2
    · rw [sI_off _ _ _ _ (by omega)]
      exact a2' x hx
theorem m_fill {σ : sS} {a : aK} (hv : vK a) (hE : mEv σ a) {j : Nat} (hj : j < aN a) (u : Nat) {n : Nat} (hn : n ≤ 20) : ∃ τ, fl_X12_prove_36 (σ, nI j, nI u, nI n, 0) = some (nI n, τ) ∧ (∀ q, q ≠ 83 → q ≠ 96 → τ.1 q = σ.1 q) ∧ τ.1 83 16 = nI n ∧ (∀ x, x ≠ 16 → τ.1 83 x = σ.1 83 x) ∧ ∀ x, x < 3 * n → τ.1 96 x = rwv a j u x := by
  unfold fl_X12_prove_36
  refine lp_inv (body := fb_X12_prove_36) (I := fun k p => p.2 = (nI j, nI u, nI n, nI k) ∧ (∀ q, q ≠ 96 → p.1.1 q = σ.1 q) ∧ ∀ x, x < 3 * k → p.1.1 96 x = rwv a j u x) (e := n) (P := fun r => ∃ τ, r = some (nI n, τ) ∧ (∀ q, q ≠ 83 → q ≠ 96 → τ.1 q = σ.1 q) ∧ τ.1 83 16 = nI n ∧ (∀ x, x ≠ 16 → τ.1 83 x = σ.1 83 x) ∧ ∀ x, x < 3 * n → τ.1 96 x = rwv a j u x) ?_ ?_ nF 0 (σ, nI j, nI u, nI n, 0) (by omega) (nF_big (by omega)) ⟨rfl, fun _ _ => rfl, fun x h => absurd h (by omega)⟩
  · rintro k hk ⟨τ, y⟩ ⟨hy, a1, a2⟩ back
    have hy2 : y = (nI j, nI u, nI n, nI k) := hy
    subst hy2
    have a1' : ∀ q, q ≠ 96 → τ.1 q = σ.1 q := a1
    have hEτ : mEv τ a := mE_lo (a1' 84 (by omega)) (a1' 88 (by omega)) hE
    have hlt : nI k < nI n := (nn_lt (by omega) (by omega)).mpr hk
    obtain ⟨i0, i1, i2⟩ := ix3m k
    have hE1 : mEv (sI τ 96 (3 * k) (nI (u + k))) a := mE_lo (sI_off _ _ _ _ (by omega)) (sI_off _ _ _ _ (by omega)) hEτ
    have hE2 : mEv (sI (sI τ 96 (3 * k) (nI (u + k))) 96 (3 * k + 1) (aPn a j (nI (u + k)))) a := mE_lo (sI_off _ _ _ _ (by omega)) (sI_off _ _ _ _ (by omega)) hE1
    have hp : f_X12_placeBy (sI τ 96 (3 * k) (nI (u + k))) (nI j) (a.1 3 j) (nI (u + k)) = some (aPn a j (nI (u + k))) := m_place hv hE1 hj _ _
    refine ⟨(sI (sI (sI τ 96 (3 * k) (nI (u + k))) 96 (3 * k + 1) (aPn a j (nI (u + k)))) 96 (3 * k + 2) (aHn a j (nI (u + k))), nI j, nI u, nI n, nI (k + 1)), ⟨rfl, fun q h1 => ?_, w3 (σ := τ) a2 (rwv_0 a j u k).symm (rwv_1 a j u k).symm (rwv_2 a j u k).symm⟩, ?_⟩
    · show (sI (sI (sI τ 96 (3 * k) (nI (u + k))) 96 (3 * k + 1) (aPn a j (nI (u + k)))) 96 (3 * k + 2) (aHn a j (nI (u + k)))).1 q = _
      rw [sI_off _ _ _ _ h1, sI_off _ _ _ _ h1, sI_off _ _ _ _ h1]
      exact a1' q h1
    · simp only [fb_X12_prove_36, if_pos hlt, nI_add, i0, i1, i2, grd_of (sIn_nI (show 3 * k < 60 by omega) (by omega)), grd_of (sIn_nI (show 3 * k + 1 < 60 by omega) (by omega)), grd_of (sIn_nI (show 3 * k + 2 < 60 by omega) (by omega)), nI_clamp (show 3 * k < 2 ^ 31 by omega), nI_clamp (show 3 * k + 1 < 2 ^ 31 by omega), nI_clamp (show 3 * k + 2 < 2 ^ 31 by omega), pt_eq, m_its2 hv hE1.1 hj, bd_some, hp, m_heightOf hv hE2 hj, nI_1]
  · rintro ⟨τ, y⟩ ⟨hy, a1, a2⟩ back
    have hy2 : y = (nI j, nI u, nI n, nI n) := hy
    subst hy2
    have a1' : ∀ q, q ≠ 96 → τ.1 q = σ.1 q := a1
    have a2' : ∀ x, x < 3 * n → τ.1 96 x = rwv a j u x := a2
    refine ⟨sI τ 83 16 (nI n), ?_, fun q h1 h2 => ?_, sI_same _ _ _ _, fun x hx => ?_, fun x hx => ?_⟩
    · simp only [fb_X12_prove_36, Int32.lt_irrefl, if_false, fj_X12_prove_107, pt_eq]
    · rw [sI_off _ _ _ _ h1]
      exact a1' q h2
    · rw [sI_r, if_pos rfl, if_neg hx, a1' 83 (by omega)]
    · rw [sI_off _ _ _ _ (by omega)]
      exact a2' x hx
theorem op_prove (i t n : Int32) : Op (fun σ => f_X11_prove σ i t n) (fun σ => f_X12_prove σ i t n) := by
  intro σ hR
  have hR0 := hR
  obtain ⟨⟨a, hv, hc, hm⟩, ho⟩ := hR
  have h9 : aN a ≤ 9 := hv.1.1.2
  have n1 : σ.1 1 4 = nI (aN a) := hc.1.1.trans hv.1.1.1
  have n2 : ∀ {υ : sS}, mK (υ.1 84) a → υ.1 84 0 = nI (aN a) := fun h => h.1.1.trans hv.1.1.1
  have s1 : (1 : Int64).toInt = 1 := rfl
  have s20 : (20 : Int64).toInt = 20 := rfl
  have t1 : (1 : Int32).toInt = 1 := rfl
  have t20 : (20 : Int32).toInt = 20 := rfl
  by_cases ci : 0 ≤ i.toInt ∧ i.toInt < aN a
  rotate_left
  · exact ⟨-1, σ, σ, by simp only [f_X11_prove, x_has n1 h9, bd_some, if_neg ci, if_true], by simp only [f_X12_prove, m_isAn (n2 hm) h9, bd_some, if_neg ci, if_true], hR0⟩
  by_cases ct : 0 ≤ t.toInt ∧ t.toInt ≤ 9999
  rotate_left
  · exact ⟨-1, σ, σ, by simp only [f_X11_prove, x_has n1 h9, x_isTurn, bd_some, if_pos ci, z10, if_false, if_neg ct, if_true], by simp only [f_X12_prove, m_isAn (n2 hm) h9, m_isTurn, bd_some, if_pos ci, z10, if_false, if_neg ct, if_true], hR0⟩
  by_cases cn : 1 ≤ n.toInt ∧ n.toInt ≤ 20
  rotate_left
  · exact ⟨-1, σ, σ, by simp only [f_X11_prove, x_has n1 h9, x_isTurn, x_within, t1, t20, bd_some, if_pos ci, if_pos ct, z10, if_false, if_neg cn, if_true], by simp only [f_X12_prove, m_isAn (n2 hm) h9, m_isTurn, m_inI, s1, s20, bd_some, if_pos ci, if_pos ct, z10, if_false, if_neg cn, if_true], hR0⟩
  obtain ⟨j, hj, ej⟩ := i32_nI ci.1 ci.2 (by omega)
  obtain ⟨u, hu, eu⟩ := nI_of_bt (x := t) (n := 9999) ct.1 ct.2 (by omega)
  obtain ⟨m, hm20, em⟩ := nI_of_bt (x := n) (n := 20) (by omega) cn.2 (by omega)
  obtain ⟨τ, e1, e2, e3, e4⟩ := x_askE hv hc
  obtain ⟨ψ, f1, f2, f3, f4⟩ := x_fill hv e2 hj u hm20
  have hmψ : mK (ψ.1 84) a := by rw [f2 84 (by omega) (by omega), e3 84 (by omega) (by omega) (by omega)]; exact hm
  obtain ⟨ω, g1, g2, g3, g4⟩ := m_goesE hv hmψ
  obtain ⟨χ, k1, k2, k3, k4, k5⟩ := m_fill hv g2 hj u hm20
  refine ⟨n, ψ, χ, ?_, ?_, Rel_rows (σ := σ) (fun q x h1 h2 h3 h4 h5 => ?_) ⟨m, hm20, ?_, ?_, fun x hx => ?_⟩ hR0⟩
  · simp only [f_X11_prove, x_has n1 h9, x_isTurn, x_within, t1, t20, bd_some, if_pos ci, if_pos ct, if_pos cn, z10, if_false, e1]
    rw [ej, eu, em, f1, bd_some]
  · simp only [f_X12_prove, m_isAn (n2 hmψ) h9, m_isTurn, m_inI, s1, s20, bd_some, if_pos ci, if_pos ct, if_pos cn, z10, if_false, g1]
    rw [ej, eu, em, k1]
  · have hψ : ψ.1 q x = σ.1 q x := by rw [f2 q h2 h3, e4 q x h1]
    by_cases c : q = 83
    · subst c
      rw [k4 x (fun e => h5 ⟨rfl, e⟩), g4 83 x h1, hψ]
    · rw [k2 q c h4, g4 q x h1, hψ]
  · rw [k2 67 (by omega) (by omega), g3 67 (by omega) (by omega) (by omega), f3]
  · exact k3
  · rw [k2 68 (by omega) (by omega), g3 68 (by omega) (by omega) (by omega), f4 x hx, k5 x hx]
/-! the reader of rows -/
def rtb (a : aK) (j : Nat) (c : Nat → Int32) (k : Nat) : Bool := decide (0 ≤ (c (3 * k)).toInt ∧ (c (3 * k)).toInt ≤ 99999) && ((decide (k = 0) || decide (c (3 * k) = c (3 * (k - 1)) + 1)) && (decide (c (3 * k + 1) = aPn a j (c (3 * k))) && decide (c (3 * k + 2) = aHn a j (c (3 * k)))))
theorem rtb_cg {a : aK} {j m : Nat} {c d : Nat → Int32} (h : ∀ x, x < 3 * m → c x = d x) {k : Nat} (hk : k < m) : rtb a j c k = rtb a j d k := by
  unfold rtb
  rw [h (3 * k) (by omega), h (3 * (k - 1)) (by omega), h (3 * k + 1) (by omega), h (3 * k + 2) (by omega)]
theorem x_right {σ : sS} {a : aK} (hv : vK a) (hE : cE σ a) {j : Nat} (hj : j < aN a) {k : Nat} (hk : k < 20) : f_X4_isRight σ (nI j) (nI k) = some (if rtb a j (σ.1 68) k = true then 1 else 0) := by
  obtain ⟨i0, i1, i2⟩ := ix3 k
  have hin : ∀ x, x < 60 → sIn (nI x) 60 = true := fun x h => sIn_nI h (by omega)
  have t9 : (99999 : Int32).toInt = 99999 := rfl
  have t0 : (0 : Int32).toInt = 0 := rfl
  have e50 : ∀ t, fj_X4_isRight_50 σ (nI j) (nI k) t = some (if (decide (σ.1 68 (3 * k + 1) = aPn a j t) && decide (σ.1 68 (3 * k + 2) = aHn a j t)) = true then 1 else 0) := fun t => by
    have hh : f_X3_heightAt σ (nI j) (aPn a j t) = some (aHn a j t) := x_ht hv hE.1 hj _
    simp only [fj_X4_isRight_50, x_placeNow hv hE hj, bd_some, f_X4_cellAt, i1, i2, grd_of (hin (3 * k + 1) (by omega)), grd_of (hin (3 * k + 2) (by omega)), nI_clamp (show 3 * k + 1 < 2 ^ 31 by omega), nI_clamp (show 3 * k + 2 < 2 ^ 31 by omega), hh]
    by_cases c1 : σ.1 68 (3 * k + 1) = aPn a j t
    · by_cases c2 : σ.1 68 (3 * k + 2) = aHn a j t
      · simp [c1, c2]
      · simp [c1, c2]
    · simp [c1]
  unfold f_X4_isRight rtb
  simp only [f_X4_cellAt, bd_some, i0, grd_of (hin (3 * k) (by omega)), nI_clamp (show 3 * k < 2 ^ 31 by omega), pt_eq, x_within, t9, t0, e50]
  by_cases c : 0 ≤ (σ.1 68 (3 * k)).toInt ∧ (σ.1 68 (3 * k)).toInt ≤ 99999
  · rw [if_pos c, if_neg (by decide), decide_eq_true c, Bool.true_and]
    by_cases ck : k = 0
    · subst ck
      rw [if_neg (by decide), decide_eq_true rfl, Bool.true_or, Bool.true_and]
    · have hlt : (0 : Int32) < nI k := (nn_lt (a := 0) (b := k) (by omega) (by omega)).mpr (by omega)
      have hs : nI k - 1 = nI (k - 1) := by
        have := nI_pred (k - 1)
        rwa [show k - 1 + 1 = k by omega] at this
      rw [if_pos hlt, hs, (ix3 (k - 1)).1, grd_of (hin (3 * (k - 1)) (by omega)), nI_clamp (by omega), decide_eq_false ck, Bool.false_or]
      by_cases cd : σ.1 68 (3 * k) = σ.1 68 (3 * (k - 1)) + 1
      · rw [if_pos cd, decide_eq_true cd, Bool.true_and]
      · rw [if_neg cd, decide_eq_false cd, Bool.false_and]
        rfl
  · rw [if_neg c, if_pos rfl, decide_eq_false c, Bool.false_and]
    rfl
theorem m_right {σ : sS} {a : aK} (hv : vK a) (hE : mEv σ a) {j : Nat} (hj : j < aN a) {m : Nat} (hm : σ.1 83 16 = nI m) (hm20 : m ≤ 20) {k : Nat} (hk : k < m) (back : sS × Int32 × Int32 → Option (Int32 × sS)) : fb_X12_judge_16 back (σ, nI j, nI k) = (if rtb a j (σ.1 96) k = true then back (σ, nI j, nI (k + 1)) else some (nI (k + 1), σ)) := by
  obtain ⟨i0, i1, i2⟩ := ix3m k
  have hlt : nI k < nI m := (nn_lt (by omega) (by omega)).mpr hk
  have hin : ∀ x, x < 60 → sIn (nI x) 60 = true := fun x h => sIn_nI h (by omega)
  have t9 : (99999 : Int64).toInt = 99999 := rfl
  have t0 : (0 : Int64).toInt = 0 := rfl
  have e70 : ∀ t y, fj_X12_judge_70 back σ (nI j) (nI k) t y = (if y = 0 then some (nI (k + 1), σ) else if (decide (σ.1 96 (3 * k + 1) = aPn a j t) && decide (σ.1 96 (3 * k + 2) = aHn a j t)) = true then back (σ, nI j, nI (k + 1)) else some (nI (k + 1), σ)) := fun t y => by
    have hp : f_X12_placeBy σ (nI j) (a.1 3 j) t = some (aPn a j t) := m_place hv hE hj _ _
    simp only [fj_X12_judge_70, fj_X12_judge_121, i0, i1, i2, grd_of (hin (3 * k + 1) (by omega)), grd_of (hin (3 * k + 2) (by omega)), nI_clamp (show 3 * k + 1 < 2 ^ 31 by omega), nI_clamp (show 3 * k + 2 < 2 ^ 31 by omega), m_its2 hv hE.1 hj, bd_some, hp, m_heightOf hv hE hj, nI_1]
    by_cases c0 : y = 0
    · rw [if_pos c0, if_pos c0]
    · rw [if_neg c0, if_neg c0]
      by_cases c1 : σ.1 96 (3 * k + 1) = aPn a j t
      · by_cases c2 : σ.1 96 (3 * k + 2) = aHn a j t
        · simp [c1, c2]
        · simp [c1, c2]
      · simp [c1]
  unfold rtb
  simp only [fb_X12_judge_16, hm, if_pos hlt, i0, grd_of (hin (3 * k) (by omega)), nI_clamp (show 3 * k < 2 ^ 31 by omega), pt_eq, m_inI, t9, t0, bd_some, fj_X12_judge_69, fj_X12_judge_65, e70]
  by_cases c : 0 ≤ (σ.1 96 (3 * k)).toInt ∧ (σ.1 96 (3 * k)).toInt ≤ 99999
  · rw [if_pos c, if_neg (by decide), decide_eq_true c, Bool.true_and]
    by_cases ck : k = 0
    · subst ck
      rw [if_pos (by decide), if_neg (by decide), decide_eq_true rfl, Bool.true_or, Bool.true_and]
    · have hs : nI (3 * k) - 3 = nI (3 * (k - 1)) := by
        rw [show (3 : Int32) = nI 3 from rfl, pk_sub (by omega), show 3 * k - 3 = 3 * (k - 1) by omega]
      rw [if_neg (nI_ne0 (by omega) (by omega)), hs, grd_of (hin (3 * (k - 1)) (by omega)), nI_clamp (by omega), decide_eq_false ck, Bool.false_or]
      by_cases cd : σ.1 96 (3 * k) = σ.1 96 (3 * (k - 1)) + 1
      · rw [if_pos cd, if_neg (by decide), decide_eq_true cd, Bool.true_and]
      · rw [if_neg cd, if_pos trivial, decide_eq_false cd, Bool.false_and]
        rfl
  · rw [if_neg c, if_pos rfl, if_pos trivial, decide_eq_false c, Bool.false_and]
    rfl
theorem op_judge (i : Int32) : Op (fun σ => f_X11_judge σ i) (fun σ => f_X12_judge σ i) := by
  intro σ hR
  have hR0 := hR
  obtain ⟨⟨a, hv, hc, hm⟩, ho⟩ := hR
  obtain ⟨m, hm20, hr1, hr2, hr3⟩ := ho.2.2.1
  have h9 : aN a ≤ 9 := hv.1.1.2
  have n1 : σ.1 1 4 = nI (aN a) := hc.1.1.trans hv.1.1.1
  have n2 : ∀ {υ : sS}, mK (υ.1 84) a → υ.1 84 0 = nI (aN a) := fun h => h.1.1.trans hv.1.1.1
  by_cases ci : 0 ≤ i.toInt ∧ i.toInt < aN a
  rotate_left
  · exact ⟨-1, σ, σ, by simp only [f_X11_judge, x_has n1 h9, bd_some, if_neg ci, if_true], by simp only [f_X12_judge, m_isAn (n2 hm) h9, bd_some, if_neg ci, if_true], hR0⟩
  obtain ⟨j, hj, ej⟩ := i32_nI ci.1 ci.2 (by omega)
  obtain ⟨τ, e1, e2, e3, e4⟩ := x_askE hv hc
  have hmτ : mK (τ.1 84) a := by rw [frm_84 e4]; exact hm
  obtain ⟨ω, g1, g2, g3, g4⟩ := m_goesE hv hmτ
  have c68 : τ.1 68 = σ.1 68 := e3 68 (by omega) (by omega) (by omega)
  have c96 : ω.1 96 = σ.1 96 := by rw [g3 96 (by omega) (by omega) (by omega), e3 96 (by omega) (by omega) (by omega)]
  have c67 : τ.1 67 1 = nI m := by rw [e3 67 (by omega) (by omega) (by omega)]; exact hr1
  have c83 : ω.1 83 16 = nI m := by rw [g4 83 16 (by unfold scr; omega), e3 83 (by omega) (by omega) (by omega)]; exact hr2
  obtain ⟨p, hp⟩ : ∃ p : Nat → Bool, p = fun k => !(rtb a j (σ.1 68) k) := ⟨_, rfl⟩
  have hpk : ∀ k, rtb a j (σ.1 68) k = !(p k) := fun k => by rw [hp]; simp
  refine ⟨(match fst p m 0 with | some k => nI (k + 1) | none => 0), τ, ω, ?_, ?_, Rel_frm (frm_tr e4 g4) hR0⟩
  · simp only [f_X11_judge, x_has n1 h9, bd_some, if_pos ci, z10, if_false, e1]
    rw [ej]
    have key : ∀ k, k < m → ∀ back, fb_X11_judge_22 back (τ, nI j, nI k) = (if p k = true then some (nI (k + 1), τ) else back (τ, nI j, nI (k + 1))) := by
      intro k hk back
      have hlt : nI k < nI m := (nn_lt (by omega) (by omega)).mpr hk
      simp only [fb_X11_judge_22, c67, if_pos hlt, x_right hv e2 hj (show k < 20 by omega), c68, hpk, bd_some, fj_X11_judge_49, nI_1]
      cases p k <;> simp
    have h := lp_find (body := fb_X11_judge_22) (fun k => (τ, nI j, nI k)) m p (fun k => some (nI (k + 1), τ)) (some (0, τ)) (fun i hi hpi back => by rw [key i hi, if_neg (by rw [hpi]; decide)]) (fun i hi hpi back => by rw [key i hi, if_pos hpi]) (fun back => by simp only [fb_X11_judge_22, c67, Int32.lt_irrefl, if_false]) nF 0 (by omega) (nF_big (by omega))
    refine h.trans ?_
    rw [Nat.sub_zero]
    cases fst p m 0 <;> rfl
  · simp only [f_X12_judge, m_isAn (n2 hmτ) h9, bd_some, if_pos ci, z10, if_false, g1]
    rw [ej]
    have key : ∀ k, k < m → ∀ back, fb_X12_judge_16 back (ω, nI j, nI k) = (if p k = true then some (nI (k + 1), ω) else back (ω, nI j, nI (k + 1))) := by
      intro k hk back
      rw [m_right hv g2 hj c83 hm20 hk, c96, rtb_cg (fun x hx => (hr3 x hx).symm) hk, hpk]
      cases p k <;> simp
    have h := lp_find (body := fb_X12_judge_16) (fun k => (ω, nI j, nI k)) m p (fun k => some (nI (k + 1), ω)) (some (0, ω)) (fun i hi hpi back => by rw [key i hi, if_neg (by rw [hpi]; decide)]) (fun i hi hpi back => by rw [key i hi, if_pos hpi]) (fun back => by simp only [fb_X12_judge_16, c83, Int32.lt_irrefl, if_false]) nF 0 (by omega) (nF_big (by omega))
    refine h.trans ?_
    rw [Nat.sub_zero]
    cases fst p m 0 <;> rfl
