/-! the class's tuner: which suit, which go on, the row -/
theorem oS_and {p q : Nat → Bool} {n : Nat} (hn : n ≤ 32) : (oS p n &&& oS q n = 0) ↔ alB (fun k => p k && q k) n = true := by
  rw [alB_iff]
  constructor
  · intro h k hk
    have := congrArg (fun x => tb x k) h
    simp only [tb_and, tb_0, tb_oS hn (show k < 32 by omega), decide_eq_true hk, Bool.true_and] at this
    exact this
  · intro h
    refine tb_ext fun k hk => ?_
    rw [tb_and, tb_oS hn hk, tb_oS hn hk, tb_0]
    by_cases c : k < n
    · have := h k c
      rw [decide_eq_true c, Bool.true_and, Bool.true_and]
      exact this
    · rw [decide_eq_false c, Bool.false_and, Bool.false_and]
theorem oS_one {p : Nat → Bool} {n f : Nat} (hn : n ≤ 32) (hf : f < n) : (oS p n &&& ((1 : Int32) <<< (nI f &&& 31)) = 0) ↔ p f = false := by
  constructor
  · intro h
    have := congrArg (fun x => tb x f) h
    simp only [tb_and, tb_0, tb_oS hn (show f < 32 by omega), tb_one f (show f < 32 by omega) (show f < 32 by omega), decide_eq_true hf, Bool.true_and] at this
    simpa using this
  · intro h
    refine tb_ext fun k hk => ?_
    rw [tb_and, tb_oS hn hk, tb_one f (by omega) hk, tb_0]
    by_cases c : k = f
    · rw [c, h]; simp
    · rw [decide_eq_false c, Bool.and_false]
def MK (σ : sS) (a : aK) : Prop := ∀ i, i < aN a → ∀ p, p < ac a i → HM (σ.2 57 (12 * i + p)) (σ.2 58 (12 * i + p)) a i p
def suP (a : aK) (i p : Nat) : Int32 := oS (fun q => AP a i p (nx (aN a) i) q) (ac a (nx (aN a) i))
theorem x_suit {σ : sS} {a : aK} (hv : vK a) (hE : cE σ a) (hM : MK σ a) {i : Nat} (hi : i < aN a) : ∃ τ, f_X10_markSuiting σ (nI i) = some τ ∧ τ.2 = σ.2 ∧ (∀ q, q ≠ 61 → τ.1 q = σ.1 q) ∧ (∀ p, p < ac a i → τ.1 61 (12 * i + p) = suP a i p) ∧ ∀ e, ¬ (12 * i ≤ e ∧ e < 12 * i + 12) → τ.1 61 e = σ.1 61 e := by
  have h9 : aN a ≤ 9 := hv.1.1.2
  have n1 : σ.1 1 4 = nI (aN a) := hE.1.1.1.trans hv.1.1.1
  obtain ⟨N, hN⟩ : ∃ N, N = nx (aN a) i := ⟨_, rfl⟩
  have hNn : N < aN a := by rw [hN]; exact nx_lt hi
  obtain ⟨hc, hc2, hc12⟩ := ac_nI hv hi
  obtain ⟨hd, hd2, hd12⟩ := ac_nI hv hNn
  have hin := sIn_nI (show i < 9 by omega) (show 9 < 2 ^ 31 by omega)
  have hcl := nI_clamp (show i < 2 ^ 31 by omega)
  have hinN := sIn_nI (show N < 9 by omega) (show 9 < 2 ^ 31 by omega)
  have hclN := nI_clamp (show N < 2 ^ 31 by omega)
  unfold f_X10_markSuiting fl_X10_markSuiting_9
  rw [x_next n1 h9 hi, bd_some, ← hN]
  refine lp_inv (body := fb_X10_markSuiting_9) (I := fun k p => p.2 = (nI i, nI N, nI k) ∧ p.1.2 = σ.2 ∧ (∀ q, q ≠ 61 → p.1.1 q = σ.1 q) ∧ (∀ x, x < k → p.1.1 61 (12 * i + x) = suP a i x) ∧ ∀ e, ¬ (12 * i ≤ e ∧ e < 12 * i + 12) → p.1.1 61 e = σ.1 61 e) (e := ac a i) (P := fun r => ∃ τ, r = some τ ∧ τ.2 = σ.2 ∧ (∀ q, q ≠ 61 → τ.1 q = σ.1 q) ∧ (∀ p, p < ac a i → τ.1 61 (12 * i + p) = suP a i p) ∧ ∀ e, ¬ (12 * i ≤ e ∧ e < 12 * i + 12) → τ.1 61 e = σ.1 61 e) ?_ ?_ nF 0 (σ, nI i, nI N, 0) (by omega) (nF_big (by omega)) ⟨rfl, rfl, fun _ _ => rfl, fun _ h => absurd h (Nat.not_lt_zero _), fun _ _ => rfl⟩
  · rintro k hk ⟨τ, y⟩ ⟨hy, a1, a2, a3, a4⟩ back
    have hy2 : y = (nI i, nI N, nI k) := hy
    subst hy2
    have a1' : τ.2 = σ.2 := a1
    have a2' : ∀ q, q ≠ 61 → τ.1 q = σ.1 q := a2
    have a3' : ∀ x, x < k → τ.1 61 (12 * i + x) = suP a i x := a3
    have a4' : ∀ e, ¬ (12 * i ≤ e ∧ e < 12 * i + 12) → τ.1 61 e = σ.1 61 e := a4
    have ec : τ.1 3 i = nI (ac a i) := by rw [a2' 3 (by omega), (hE.1.2.1 i hi).2.1, hc]
    have hlt : nI k < nI (ac a i) := (nn_lt (by omega) (by omega)).mpr hk
    have i108 := sIn_nI (show 12 * i + k < 108 by omega) (show 108 < 2 ^ 31 by omega)
    have c108 := nI_clamp (show 12 * i + k < 2 ^ 31 by omega)
    obtain ⟨E, hEe⟩ : ∃ E, E = 12 * i + k := ⟨_, rfl⟩
    rw [← hEe] at i108 c108
    have hme : HM (σ.2 57 E) (σ.2 58 E) a i k := by rw [hEe]; exact hM i hi k hk
    have inner : ∃ υ : sS, fl_X10_markSuiting_40 back (sI τ 61 E 0, nI i, nI N, nI k, nI E, 0) = back (υ, nI i, nI N, nI (k + 1)) ∧ υ.2 = σ.2 ∧ (∀ q, q ≠ 61 → υ.1 q = σ.1 q) ∧ υ.1 61 E = suP a i k ∧ ∀ e, e ≠ E → υ.1 61 e = τ.1 61 e := by
      unfold fl_X10_markSuiting_40
      refine lp_inv (body := fb_X10_markSuiting_40 back) (I := fun q p => p.2 = (nI i, nI N, nI k, nI E, nI q) ∧ p.1.2 = σ.2 ∧ (∀ x, x ≠ 61 → p.1.1 x = σ.1 x) ∧ p.1.1 61 E = oS (fun q => AP a i k N q) q ∧ ∀ e, e ≠ E → p.1.1 61 e = τ.1 61 e) (e := ac a N) (P := fun r => ∃ υ : sS, r = back (υ, nI i, nI N, nI (k + 1)) ∧ υ.2 = σ.2 ∧ (∀ q, q ≠ 61 → υ.1 q = σ.1 q) ∧ υ.1 61 E = suP a i k ∧ ∀ e, e ≠ E → υ.1 61 e = τ.1 61 e) ?_ ?_ nF 0 (sI τ 61 E 0, nI i, nI N, nI k, nI E, 0) (by omega) (nF_big (by omega)) ⟨rfl, a1', fun x hx => by rw [sI_off _ _ _ _ hx]; exact a2' x hx, by rw [sI_same]; rfl, fun e he => by rw [sI_r, if_pos rfl, if_neg he]⟩
      · rintro q hq ⟨ψ, z⟩ ⟨hz, b1, b2, b3, b4⟩ bk
        have hz2 : z = (nI i, nI N, nI k, nI E, nI q) := hz
        subst hz2
        have b1' : ψ.2 = σ.2 := b1
        have b2' : ∀ x, x ≠ 61 → ψ.1 x = σ.1 x := b2
        have b3' : ψ.1 61 E = oS (fun q => AP a i k N q) q := b3
        have b4' : ∀ e, e ≠ E → ψ.1 61 e = τ.1 61 e := b4
        have ed : ψ.1 3 N = nI (ac a N) := by rw [b2' 3 (by omega), (hE.1.2.1 N hNn).2.1, hd]
        have hltq : nI q < nI (ac a N) := (nn_lt (by omega) (by omega)).mpr hq
        have j108 := sIn_nI (show 12 * N + q < 108 by omega) (show 108 < 2 ^ 31 by omega)
        have d108 := nI_clamp (show 12 * N + q < 2 ^ 31 by omega)
        have hap := HM_apart hme (hM N hNn q hq)
        have hst : oS (fun q => AP a i k N q) (q + 1) = (if AP a i k N q = true then oS (fun q => AP a i k N q) q ||| ((1 : Int32) <<< (nI q &&& 31)) else oS (fun q => AP a i k N q) q) := rfl
        by_cases c : AP a i k N q = true
        · refine ⟨(sI ψ 61 E (ψ.1 61 E ||| ((1 : Int32) <<< (nI q &&& 31))), nI i, nI N, nI k, nI E, nI (q + 1)), ⟨rfl, b1', fun x hx => ?_, ?_, fun e he => ?_⟩, ?_⟩
          · show (sI ψ 61 E _).1 x = _
            rw [sI_off _ _ _ _ hx]
            exact b2' x hx
          · show (sI ψ 61 E _).1 61 E = _
            rw [sI_same, hst, if_pos c, b3']
          · show (sI ψ 61 E _).1 61 e = _
            rw [sI_r, if_pos rfl, if_neg he]
            exact b4' e he
          · have h0 := hap.mpr c
            simp only [fb_X10_markSuiting_40, grd_of hinN, hclN, ed, if_pos hltq, ix12, pt_eq, grd_of i108, c108, grd_of j108, d108, lg_cmp_eq, b1', if_pos h0.1, if_pos h0.2, nI_1]
        · refine ⟨(ψ, nI i, nI N, nI k, nI E, nI (q + 1)), ⟨rfl, b1', b2', ?_, b4'⟩, ?_⟩
          · show ψ.1 61 E = _
            rw [hst, if_neg c, b3']
          · simp only [fb_X10_markSuiting_40, grd_of hinN, hclN, ed, if_pos hltq, ix12, pt_eq, grd_of i108, c108, grd_of j108, d108, lg_cmp_eq, b1', nI_1]
            by_cases h0 : σ.2 57 E &&& σ.2 57 (12 * N + q) = 0
            · by_cases h1 : σ.2 58 E &&& σ.2 58 (12 * N + q) = 0
              · exact absurd (hap.mp ⟨h0, h1⟩) c
              · rw [if_pos h0, if_neg h1]
            · rw [if_neg h0]
      · rintro ⟨ψ, z⟩ ⟨hz, b1, b2, b3, b4⟩ bk
        have hz2 : z = (nI i, nI N, nI k, nI E, nI (ac a N)) := hz
        subst hz2
        have b2' : ∀ x, x ≠ 61 → ψ.1 x = σ.1 x := b2
        have b3' : ψ.1 61 E = oS (fun q => AP a i k N q) (ac a N) := b3
        have ed : ψ.1 3 N = nI (ac a N) := by rw [b2' 3 (by omega), (hE.1.2.1 N hNn).2.1, hd]
        refine ⟨ψ, ?_, b1, b2, ?_, b4⟩
        · simp only [fb_X10_markSuiting_40, grd_of hinN, hclN, ed, Int32.lt_irrefl, if_false, nI_1]
        · rw [b3']
          unfold suP
          rw [← hN]
    obtain ⟨υ, r1, r2, r3, r4, r5⟩ := inner
    refine ⟨(υ, nI i, nI N, nI (k + 1)), ⟨rfl, r2, r3, fun x hx => ?_, fun e he => ?_⟩, ?_⟩
    · show υ.1 61 (12 * i + x) = _
      by_cases ex : x = k
      · rw [ex, ← hEe, r4]
      · rw [r5 _ (by omega)]
        exact a3' x (by omega)
    · show υ.1 61 e = _
      rw [r5 e (by omega)]
      exact a4' e he
    · simp only [fb_X10_markSuiting_9, grd_of hin, hcl, ec, if_pos hlt, ix12, ← hEe, pt_eq, grd_of i108, c108]
      exact r1
  · rintro ⟨τ, y⟩ ⟨hy, a1, a2, a3, a4⟩ back
    have hy2 : y = (nI i, nI N, nI (ac a i)) := hy
    subst hy2
    have a2' : ∀ q, q ≠ 61 → τ.1 q = σ.1 q := a2
    have ec : τ.1 3 i = nI (ac a i) := by rw [a2' 3 (by omega), (hE.1.2.1 i hi).2.1, hc]
    refine ⟨τ, ?_, a1, a2, a3, a4⟩
    simp only [fb_X10_markSuiting_9, grd_of hin, hcl, ec, Int32.lt_irrefl, if_false]
/-- with a phase, the animal d places ahead of the last one lets the row go on to its end -/
def gO (a : aK) (f : Nat) : Nat → Nat → Bool
  | 0, p => decide (aN a < 3) || AP a (aN a - 1) p 0 f
  | d + 1, p => !(alB (fun q => AP a (aN a - 2 - d) p (aN a - 1 - d) q && gO a f d q) (ac a (aN a - 1 - d)))
def SU (σ : sS) (a : aK) : Prop := ∀ i, i < aPa (aN a) → ∀ p, p < ac a i → σ.1 61 (12 * i + p) = suP a i p
def GN (σ : sS) (a : aK) (f m : Nat) : Prop := ∀ i, m ≤ i → i < aN a → σ.1 62 i = oS (gO a f (aN a - 1 - i)) (ac a i)
theorem x_goesOn {σ : sS} {a : aK} (hv : vK a) (hE : cE σ a) (hS : SU σ a) (h2 : 2 ≤ aN a) {f : Nat} (hf : f < ac a 0) : ∃ τ, f_X10_markGoingOn σ (nI f) = some τ ∧ (∀ q, q ≠ 62 → τ.1 q = σ.1 q) ∧ GN τ a f 1 := by
  have h9 : aN a ≤ 9 := hv.1.1.2
  have n1 : σ.1 1 4 = nI (aN a) := hE.1.1.1.trans hv.1.1.1
  obtain ⟨_, hf2, hf12⟩ := ac_nI hv (show 0 < aN a by omega)
  have ee : nI (aN a) - 1 = nI (aN a - 1) := by
    have := nI_pred (aN a - 1)
    rwa [show aN a - 1 + 1 = aN a by omega] at this
  unfold f_X10_markGoingOn fl_X10_markGoingOn_10
  rw [pt_eq, n1, ee]
  refine lp_inv (body := fb_X10_markGoingOn_10) (I := fun d p => p.2 = (nI f, nI (aN a - 1), nI (aN a - 1 - d)) ∧ (∀ q, q ≠ 62 → p.1.1 q = σ.1 q) ∧ GN p.1 a f (aN a - d)) (e := aN a - 1) (P := fun r => ∃ τ, r = some τ ∧ (∀ q, q ≠ 62 → τ.1 q = σ.1 q) ∧ GN τ a f 1) ?_ ?_ nF 0 (σ, nI f, nI (aN a - 1), nI (aN a - 1)) (by omega) (nF_big (by omega)) ⟨rfl, fun _ _ => rfl, fun i h1 h2 => absurd h1 (by omega)⟩
  · rintro d hd ⟨τ, y⟩ ⟨hy, a1, a2⟩ back
    have hy2 : y = (nI f, nI (aN a - 1), nI (aN a - 1 - d)) := hy
    subst hy2
    have a1' : ∀ q, q ≠ 62 → τ.1 q = σ.1 q := a1
    have a2' : GN τ a f (aN a - d) := a2
    obtain ⟨i, hi⟩ : ∃ i, i = aN a - 1 - d := ⟨_, rfl⟩
    have hin : i < aN a := by omega
    have hi1 : 1 ≤ i := by omega
    obtain ⟨hc, hc2, hc12⟩ := ac_nI hv hin
    have hpos : (0 : Int32) < nI i := (nn_lt (a := 0) (b := i) (by omega) (by omega)).mpr hi1
    have hi9 := sIn_nI (show i < 9 by omega) (show 9 < 2 ^ 31 by omega)
    have hcl := nI_clamp (show i < 2 ^ 31 by omega)
    have hm1 : nI i + (-1) = nI (i - 1) := by
      have := pk_m1 (i - 1)
      rwa [show i - 1 + 1 = i by omega] at this
    have hGO : ∀ (free : Bool) (w : Int32), (∀ p, p < ac a i → gO a f (aN a - 1 - i) p = (free || !decide ((suP a i p) &&& w = 0))) → (free = false → i < aPa (aN a)) → ∃ υ : sS, fj_X10_markGoingOn_57 back τ (nI f) (nI (aN a - 1)) (nI i) w (if free = true then 1 else 0) = back (υ, nI f, nI (aN a - 1), nI (i - 1)) ∧ (∀ q, q ≠ 62 → υ.1 q = σ.1 q) ∧ (∀ e, e ≠ i → υ.1 62 e = τ.1 62 e) ∧ υ.1 62 i = oS (gO a f (aN a - 1 - i)) (ac a i) := by
      intro free w hw hfr
      unfold fj_X10_markGoingOn_57 fl_X10_markGoingOn_70
      rw [grd_of hi9, pt_eq, hcl]
      refine lp_inv (body := fb_X10_markGoingOn_70 back) (I := fun p s => s.2 = (nI f, nI (aN a - 1), nI i, w, (if free = true then (1 : Int32) else 0), nI p) ∧ (∀ q, q ≠ 62 → s.1.1 q = σ.1 q) ∧ (∀ e, e ≠ i → s.1.1 62 e = τ.1 62 e) ∧ s.1.1 62 i = oS (gO a f (aN a - 1 - i)) p) (e := ac a i) (P := fun r => ∃ υ : sS, r = back (υ, nI f, nI (aN a - 1), nI (i - 1)) ∧ (∀ q, q ≠ 62 → υ.1 q = σ.1 q) ∧ (∀ e, e ≠ i → υ.1 62 e = τ.1 62 e) ∧ υ.1 62 i = oS (gO a f (aN a - 1 - i)) (ac a i)) ?_ ?_ nF 0 (sI τ 62 i 0, nI f, nI (aN a - 1), nI i, w, (if free = true then 1 else 0), 0) (by omega) (nF_big (by omega)) ⟨rfl, fun q hq => by rw [sI_off _ _ _ _ hq]; exact a1' q hq, fun e he => by rw [sI_r, if_pos rfl, if_neg he], by rw [sI_same]; rfl⟩
      · rintro p hp ⟨ψ, z⟩ ⟨hz, b1, b2, b3⟩ bk
        have hz2 : z = (nI f, nI (aN a - 1), nI i, w, (if free = true then (1 : Int32) else 0), nI p) := hz
        subst hz2
        have b1' : ∀ q, q ≠ 62 → ψ.1 q = σ.1 q := b1
        have b2' : ∀ e, e ≠ i → ψ.1 62 e = τ.1 62 e := b2
        have b3' : ψ.1 62 i = oS (gO a f (aN a - 1 - i)) p := b3
        have ec : ψ.1 3 i = nI (ac a i) := by rw [b1' 3 (by omega), (hE.1.2.1 i hin).2.1, hc]
        have hlt : nI p < nI (ac a i) := (nn_lt (by omega) (by omega)).mpr hp
        have i108 := sIn_nI (show 12 * i + p < 108 by omega) (show 108 < 2 ^ 31 by omega)
        have c108 := nI_clamp (show 12 * i + p < 2 ^ 31 by omega)
        have hst : oS (gO a f (aN a - 1 - i)) (p + 1) = (if gO a f (aN a - 1 - i) p = true then oS (gO a f (aN a - 1 - i)) p ||| ((1 : Int32) <<< (nI p &&& 31)) else oS (gO a f (aN a - 1 - i)) p) := rfl
        have e106 : fj_X10_markGoingOn_106 back bk ψ (nI f) (nI (aN a - 1)) (nI i) w (if free = true then 1 else 0) (nI p) = bk (sI ψ 62 i (ψ.1 62 i ||| ((1 : Int32) <<< (nI p &&& 31))), nI f, nI (aN a - 1), nI i, w, (if free = true then 1 else 0), nI (p + 1)) := by
          unfold fj_X10_markGoingOn_106
          rw [grd_of hi9, grd_of hi9, pt_eq, hcl, nI_1]
        have hbody : fb_X10_markGoingOn_70 back bk (ψ, nI f, nI (aN a - 1), nI i, w, (if free = true then (1 : Int32) else 0), nI p) = (if gO a f (aN a - 1 - i) p = true then bk (sI ψ 62 i (ψ.1 62 i ||| ((1 : Int32) <<< (nI p &&& 31))), nI f, nI (aN a - 1), nI i, w, (if free = true then 1 else 0), nI (p + 1)) else bk (ψ, nI f, nI (aN a - 1), nI i, w, (if free = true then 1 else 0), nI (p + 1))) := by
          rw [hw p hp]
          cases free with
          | true =>
            simp only [fb_X10_markGoingOn_70, grd_of hi9, hcl, ec, if_pos hlt]
            rw [if_neg (by decide)]
            exact e106
          | false =>
            have hsu : ψ.1 61 (12 * i + p) = suP a i p := by rw [b1' 61 (by omega)]; exact hS i (hfr rfl) p hp
            simp only [fb_X10_markGoingOn_70, grd_of hi9, hcl, ec, if_pos hlt, ix12, grd_of i108, c108, hsu]
            rw [e106, nI_1]
            by_cases c : suP a i p &&& w = 0
            · simp [c]
            · simp [c]
        rw [hbody]
        by_cases c : gO a f (aN a - 1 - i) p = true
        · refine ⟨(sI ψ 62 i (ψ.1 62 i ||| ((1 : Int32) <<< (nI p &&& 31))), nI f, nI (aN a - 1), nI i, w, (if free = true then 1 else 0), nI (p + 1)), ⟨rfl, fun q hq => ?_, fun e he => ?_, ?_⟩, by rw [if_pos c]⟩
          · show (sI ψ 62 i _).1 q = _
            rw [sI_off _ _ _ _ hq]
            exact b1' q hq
          · show (sI ψ 62 i _).1 62 e = _
            rw [sI_r, if_pos rfl, if_neg he]
            exact b2' e he
          · show (sI ψ 62 i _).1 62 i = _
            rw [sI_same, hst, if_pos c, b3']
        · refine ⟨(ψ, nI f, nI (aN a - 1), nI i, w, (if free = true then 1 else 0), nI (p + 1)), ⟨rfl, b1', b2', ?_⟩, by rw [if_neg c]⟩
          show ψ.1 62 i = _
          rw [hst, if_neg c, b3']
      · rintro ⟨ψ, z⟩ ⟨hz, b1, b2, b3⟩ bk
        have hz2 : z = (nI f, nI (aN a - 1), nI i, w, (if free = true then (1 : Int32) else 0), nI (ac a i)) := hz
        subst hz2
        have b1' : ∀ q, q ≠ 62 → ψ.1 q = σ.1 q := b1
        have ec : ψ.1 3 i = nI (ac a i) := by rw [b1' 3 (by omega), (hE.1.2.1 i hin).2.1, hc]
        refine ⟨ψ, ?_, b1, b2, b3⟩
        simp only [fb_X10_markGoingOn_70, grd_of hi9, hcl, ec, Int32.lt_irrefl, if_false, hm1]
    have fin : ∀ υ : sS, (∀ q, q ≠ 62 → υ.1 q = σ.1 q) → (∀ e, e ≠ i → υ.1 62 e = τ.1 62 e) → υ.1 62 i = oS (gO a f (aN a - 1 - i)) (ac a i) → fb_X10_markGoingOn_10 back (τ, nI f, nI (aN a - 1), nI (aN a - 1 - d)) = back (υ, nI f, nI (aN a - 1), nI (i - 1)) → ∃ a', ((a' : sS × Int32 × Int32 × Int32).2 = (nI f, nI (aN a - 1), nI (aN a - 1 - (d + 1))) ∧ (∀ q, q ≠ 62 → a'.1.1 q = σ.1 q) ∧ GN a'.1 a f (aN a - (d + 1))) ∧ fb_X10_markGoingOn_10 back (τ, nI f, nI (aN a - 1), nI (aN a - 1 - d)) = back a' := fun υ r2 r3 r4 r1 => by
      refine ⟨(υ, nI f, nI (aN a - 1), nI (i - 1)), ⟨by rw [show i - 1 = aN a - 1 - (d + 1) by omega], r2, fun e e1 e2 => ?_⟩, r1⟩
      show υ.1 62 e = _
      by_cases c : e = i
      · rw [c]; exact r4
      · rw [r3 e c]
        exact a2' e (by omega) e2
    have hbody : fb_X10_markGoingOn_10 back (τ, nI f, nI (aN a - 1), nI (aN a - 1 - d)) = (if nI i = nI (aN a - 1) then fj_X10_markGoingOn_36 back τ (nI f) (nI (aN a - 1)) (nI i) ((1 : Int32) <<< (nI f &&& 31)) else grd (sIn (nI i + 1) 9) (fj_X10_markGoingOn_36 back τ (nI f) (nI (aN a - 1)) (nI i) (τ.1 62 (nI i + 1).toNatClampNeg))) := by
      rw [← hi]
      simp only [fb_X10_markGoingOn_10, if_pos hpos]
    have m1 : τ.1 1 4 = nI (aN a) := by rw [a1' 1 (by omega)]; exact n1
    have hie : (nI i = nI (aN a - 1)) ↔ i = aN a - 1 := nI_eq (by omega) (by omega)
    have hpe : (nI (aPa (aN a)) = nI (aN a - 1)) ↔ aPa (aN a) = aN a - 1 := nI_eq (by have := aPa_le (aN a); omega) (by omega)
    have e36 : ∀ w, fj_X10_markGoingOn_36 back τ (nI f) (nI (aN a - 1)) (nI i) w = fj_X10_markGoingOn_57 back τ (nI f) (nI (aN a - 1)) (nI i) w (if (decide (i = aN a - 1) && decide (aN a < 3)) = true then 1 else 0) := fun w => by
      unfold fj_X10_markGoingOn_36 fj_X10_markGoingOn_56
      by_cases c : i = aN a - 1
      · rw [if_pos (hie.mpr c), x_pairs m1 h9, bd_some, decide_eq_true c, Bool.true_and]
        by_cases c3 : aN a < 3
        · rw [if_pos (hpe.mpr (by unfold aPa; rw [if_pos c3])), decide_eq_true c3]
          rfl
        · rw [if_neg (mt hpe.mp (by unfold aPa; rw [if_neg c3]; omega)), decide_eq_false c3]
          rfl
      · rw [if_neg (mt hie.mp c), decide_eq_false c, Bool.false_and]
        rfl
    by_cases c : i = aN a - 1
    · have hd0 : aN a - 1 - i = 0 := by omega
      obtain ⟨υ, r1, r2, r3, r4⟩ := hGO (decide (i = aN a - 1) && decide (aN a < 3)) ((1 : Int32) <<< (nI f &&& 31)) (fun p hp => by
        rw [hd0, decide_eq_true c, Bool.true_and]
        show (decide (aN a < 3) || AP a (aN a - 1) p 0 f) = _
        by_cases c3 : aN a < 3
        · rw [decide_eq_true c3, Bool.true_or, Bool.true_or]
        · rw [decide_eq_false c3, Bool.false_or, Bool.false_or]
          have hnx : nx (aN a) i = 0 := by unfold nx; rw [if_neg (by omega)]
          have h1 := oS_one (p := fun q => AP a i p 0 q) (n := ac a 0) (f := f) (by omega) hf
          unfold suP
          rw [hnx, ← c]
          cases hap : AP a i p 0 f with
          | true => rw [decide_eq_false (fun q => by rw [show AP a i p 0 f = false from h1.mp q] at hap; cases hap)]; rfl
          | false => rw [decide_eq_true (h1.mpr hap)]; rfl) (fun hfr => by
        rw [decide_eq_true c, Bool.true_and] at hfr
        have : ¬ aN a < 3 := fun g => by rw [decide_eq_true g] at hfr; cases hfr
        unfold aPa
        rw [if_neg this]
        omega)
      refine fin υ r2 r3 r4 ?_
      rw [hbody, if_pos (hie.mpr c), e36]
      exact r1
    · have hi2 : i + 1 < aN a := by omega
      have hG1 : τ.1 62 (i + 1) = oS (gO a f (aN a - 1 - (i + 1))) (ac a (i + 1)) := a2' (i + 1) (by omega) hi2
      obtain ⟨_, _, hk12⟩ := ac_nI hv hi2
      obtain ⟨υ, r1, r2, r3, r4⟩ := hGO (decide (i = aN a - 1) && decide (aN a < 3)) (τ.1 62 (i + 1)) (fun p hp => by
        rw [decide_eq_false c, Bool.false_and, Bool.false_or, hG1]
        have hnx : nx (aN a) i = i + 1 := by unfold nx; rw [if_pos hi2]
        unfold suP
        rw [hnx, show aN a - 1 - i = (aN a - 1 - (i + 1)) + 1 by omega]
        show (!(alB (fun q => AP a (aN a - 2 - (aN a - 1 - (i + 1))) p (aN a - 1 - (aN a - 1 - (i + 1))) q && gO a f (aN a - 1 - (i + 1)) q) (ac a (aN a - 1 - (aN a - 1 - (i + 1)))))) = _
        rw [show aN a - 2 - (aN a - 1 - (i + 1)) = i by omega, show aN a - 1 - (aN a - 1 - (i + 1)) = i + 1 by omega]
        have h1 := oS_and (p := fun q => AP a i p (i + 1) q) (q := gO a f (aN a - 1 - (i + 1))) (n := ac a (i + 1)) (by omega)
        cases hal : alB (fun q => AP a i p (i + 1) q && gO a f (aN a - 1 - (i + 1)) q) (ac a (i + 1)) with
        | true => rw [decide_eq_true (h1.mpr hal)]
        | false => rw [decide_eq_false (fun q => by rw [h1.mp q] at hal; cases hal)]) (fun _ => by unfold aPa; split <;> omega)
      refine fin υ r2 r3 r4 ?_
      rw [hbody, if_neg (mt hie.mp c), nI_1, grd_of (sIn_nI (show i + 1 < 9 by omega) (by omega)), nI_clamp (by omega), e36]
      exact r1
  · rintro ⟨τ, y⟩ ⟨hy, a1, a2⟩ back
    have hy2 : y = (nI f, nI (aN a - 1), nI (aN a - 1 - (aN a - 1))) := hy
    rw [show aN a - 1 - (aN a - 1) = 0 by omega] at hy2
    subst hy2
    have a2' : GN τ a f (aN a - (aN a - 1)) := a2
    rw [show aN a - (aN a - 1) = 1 by omega] at a2'
    refine ⟨τ, ?_, a1, a2'⟩
    simp only [fb_X10_markGoingOn_10, if_neg (show ¬ (0 : Int32) < nI 0 by decide)]
