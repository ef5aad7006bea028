/-! seats: the class's rows of choices, who sits where -/
def tk (a : aK) : Nat → Nat
  | 0 => 0
  | c + 1 => (match sc a (aM a - 1 - c) (tk a c) with | some i => tk a c ||| 2 ^ i | none => tk a c)
def stt (a : aK) (c : Nat) : Option Nat := sc a (aM a - 1 - c) (tk a c)
theorem tk_ok {a : aK} (hv : vK a) : ∀ c, tk a c < 2 ^ aN a ∧ pop (tk a c) ≤ c
  | 0 => ⟨Nat.two_pow_pos _, by show pop 0 ≤ 0; rw [pop_0]; exact Nat.le_refl _⟩
  | c + 1 => by
    have h9 : aN a ≤ 9 := hv.1.1.2
    have hTl := two_le h9
    obtain ⟨h1, h2⟩ := tk_ok hv c
    show (match sc a (aM a - 1 - c) (tk a c) with | some i => tk a c ||| 2 ^ i | none => tk a c) < 2 ^ aN a ∧ pop (match sc a (aM a - 1 - c) (tk a c) with | some i => tk a c ||| 2 ^ i | none => tk a c) ≤ c + 1
    cases h : sc a (aM a - 1 - c) (tk a c) with
    | none => exact ⟨h1, by show pop (tk a c) ≤ c + 1; omega⟩
    | some i =>
      obtain ⟨i1, i2⟩ := sc_lt h
      have hbit : (tk a c).testBit i = false := by
        unfold mp at i2
        cases hk : (tk a c).testBit i with
        | false => rfl
        | true => rw [hk] at i2; cases i2
      refine ⟨or_lt h1 i1, ?_⟩
      show pop (tk a c ||| 2 ^ i) ≤ c + 1
      rw [pop_or (by omega) (by omega) hbit]
      omega
def CH (w : Int32) (c : Nat) (s : Int32) : Prop := ∀ j, j < 4 → tb w (4 * c + j) = tb s j
theorem cod_hi {a : aK} (hv : vK a) (d T : Nat) {j : Nat} (h1 : 4 ≤ j) (h2 : j < 32) : tb (cod (sc a d T)) j = false := by
  have h9 : aN a ≤ 9 := hv.1.1.2
  have key : ∀ n, n < 16 → tb (nI n) j = false := fun n hn => by
    rw [tb_nI n h2]
    refine Nat.testBit_lt_two_pow ?_
    have : 2 ^ 4 ≤ 2 ^ j := Nat.pow_le_pow_right (by omega) h1
    omega
  cases h : sc a d T with
  | none => exact key 15 (by omega)
  | some i => exact key i (by have := (sc_lt h).1; omega)
theorem tb_15 {j : Nat} (h : j < 32) : tb 15 j = decide (j < 4) := by
  have : ∀ j, j < 32 → tb 15 j = decide (j < 4) := by decide +kernel
  exact this j h
theorem CH_get {w : Int32} {c : Nat} (hc : c < 8) {a : aK} (hv : vK a) {d T : Nat} (h : CH w c (cod (sc a d T))) : (w >>> (nI (4 * c) &&& 31)) &&& 15 = cod (sc a d T) := by
  refine tb_ext fun j hj => ?_
  rw [tb_and, tb_15 hj]
  by_cases c4 : j < 4
  · rw [tb_shr (4 * c) (by omega) w hj, if_pos (by omega), decide_eq_true c4, Bool.and_true, h j c4]
  · rw [decide_eq_false c4, Bool.and_false, cod_hi hv d T (by omega) hj]
theorem x_writeSeats {σ : sS} {a : aK} (hv : vK a) (hch : ∀ c, c < aM a → ∀ T, T < 2 ^ aN a → pop T ≤ c → CH (σ.1 66 T) c (cod (sc a (aM a - 1 - c) T))) : ∃ τ, f_X7_writeSeats σ (nI (aM a)) = some τ ∧ (∀ q, q ≠ 64 → τ.1 q = σ.1 q) ∧ ∀ c, c < aM a → τ.1 64 c = rI (stt a c) := by
  have h9 : aN a ≤ 9 := hv.1.1.2
  have h8 : aM a ≤ 8 := hv.1.2.1.2
  have hTl := two_le h9
  unfold f_X7_writeSeats fl_X7_writeSeats_4
  refine lp_inv (body := fb_X7_writeSeats_4) (I := fun c s => s.2 = (nI (aM a), nI (tk a c), nI c) ∧ (∀ q, q ≠ 64 → s.1.1 q = σ.1 q) ∧ ∀ x, x < c → s.1.1 64 x = rI (stt a x)) (e := aM a) (P := fun X => ∃ τ, X = some τ ∧ (∀ q, q ≠ 64 → τ.1 q = σ.1 q) ∧ ∀ c, c < aM a → τ.1 64 c = rI (stt a c)) ?_ ?_ nF 0 (σ, nI (aM a), 0, 0) (by omega) (nF_big (by omega)) ⟨rfl, fun _ _ => rfl, fun _ h => absurd h (Nat.not_lt_zero _)⟩
  · rintro c hc ⟨τ, y⟩ ⟨hy, a1, a2⟩ back
    have hy2 : y = (nI (aM a), nI (tk a c), nI c) := hy
    subst hy2
    have a1' : ∀ q, q ≠ 64 → τ.1 q = σ.1 q := a1
    have a2' : ∀ x, x < c → τ.1 64 x = rI (stt a x) := a2
    obtain ⟨t1, t2⟩ := tk_ok hv c
    have hlt : nI c < nI (aM a) := (nn_lt (by omega) (by omega)).mpr hc
    have e4 : (4 : Int32) * nI c = nI (4 * c) := by rw [show (4 : Int32) = nI 4 from rfl, pk_mul]
    have hin := sIn_nI (show tk a c < 512 by omega) (show 512 < 2 ^ 31 by omega)
    have hcl := nI_clamp (show tk a c < 2 ^ 31 by omega)
    have hin8 := sIn_nI (show c < 8 by omega) (show 8 < 2 ^ 31 by omega)
    have hcl8 := nI_clamp (show c < 2 ^ 31 by omega)
    have hg : ((τ.1 66 (tk a c)) >>> (nI (4 * c) &&& 31)) &&& 15 = cod (stt a c) := by
      rw [a1' 66 (by omega)]
      exact CH_get (by omega) hv (hch c hc (tk a c) t1 t2)
    have htk : tk a (c + 1) = (match stt a c with | some i => tk a c ||| 2 ^ i | none => tk a c) := rfl
    have wr : ∀ (v : Int32), v = rI (stt a c) → (∀ q, q ≠ 64 → (sI τ 64 c v).1 q = σ.1 q) ∧ ∀ x, x < c + 1 → (sI τ 64 c v).1 64 x = rI (stt a x) := fun v hv => by
      refine ⟨fun q hq => by rw [sI_off _ _ _ _ hq]; exact a1' q hq, fun x hx => ?_⟩
      rw [sI_r, if_pos rfl]
      by_cases e : x = c
      · rw [if_pos e, e, hv]
      · rw [if_neg e]
        exact a2' x (by omega)
    cases hs : stt a c with
    | none =>
      rw [hs] at hg htk
      obtain ⟨w1, w2⟩ := wr (-3) (by rw [hs]; rfl)
      refine ⟨(sI τ 64 c (-3), nI (aM a), nI (tk a (c + 1)), nI (c + 1)), ⟨rfl, w1, w2⟩, ?_⟩
      rw [htk]
      simp only [fb_X7_writeSeats_4, if_pos hlt, grd_of hin, hcl, e4, hg, pt_eq, if_neg (show ¬ cod none < (9 : Int32) by decide), grd_of hin8, hcl8, nI_1]
    | some i =>
      have hi := (sc_lt (show sc a (aM a - 1 - c) (tk a c) = some i from hs)).1
      rw [hs] at hg htk
      obtain ⟨w1, w2⟩ := wr (nI i) (by rw [hs]; rfl)
      have h9i : cod (some i) < (9 : Int32) := (nn_lt (a := i) (b := 9) (by omega) (by omega)).mpr (by omega)
      refine ⟨(sI τ 64 c (nI i), nI (aM a), nI (tk a (c + 1)), nI (c + 1)), ⟨rfl, w1, w2⟩, ?_⟩
      rw [htk]
      simp only [fb_X7_writeSeats_4, if_pos hlt, grd_of hin, hcl, e4, hg, pt_eq, if_pos h9i, grd_of hin8, hcl8, nI_1]
      show back (sI τ 64 c (nI i), nI (aM a), nI (tk a c) ||| ((1 : Int32) <<< (nI i &&& 31)), nI (c + 1)) = _
      rw [or_bit (by omega)]
  · rintro ⟨τ, y⟩ ⟨hy, a1, a2⟩ back
    have hy2 : y = (nI (aM a), nI (tk a (aM a)), nI (aM a)) := hy
    subst hy2
    exact ⟨τ, by simp only [fb_X7_writeSeats_4, Int32.lt_irrefl, if_false], a1, a2⟩
theorem x_seatsFill {σ : sS} {a : aK} (hv : vK a) (hE : cE σ a) : ∃ τ, f_X7_fill σ = some (nI (Bd a (aM a) 0), τ) ∧ (∀ q, q ≠ 64 → q ≠ 65 → q ≠ 66 → τ.1 q = σ.1 q) ∧ ∀ c, c < aM a → τ.1 64 c = rI (stt a c) := by
  have h9 : aN a ≤ 9 := hv.1.1.2
  have h8 : aM a ≤ 8 := hv.1.2.1.2
  have hTl := two_le h9
  obtain ⟨τ1, e1, f1, f2⟩ := fill512 (qr := 65) (body := fb_J7_fillI_a_5) (fun _ _ _ _ _ => rfl) σ
  obtain ⟨τ2, e2, k1, k2⟩ := fill512 (qr := 66) (body := fb_J7_fillI_b_5) (fun _ _ _ _ _ => rfl) τ1
  have m15 : ∀ τ : sS, (∀ q, q ≠ 65 → q ≠ 66 → τ.1 q = σ.1 q) → τ.1 15 3 = nI (aM a) := fun τ h => by
    rw [h 15 (by omega) (by omega)]
    exact hE.1.1.2.2.2.1.trans hv.1.2.1.1
  have h2σ : ∀ q, q ≠ 65 → q ≠ 66 → τ2.1 q = σ.1 q := fun q q1 q2 => by rw [k1 q q2, f1 q q1]
  unfold f_X7_fill f_J7_fillI_a fl_J7_fillI_a_5 f_J7_fillI_b fl_J7_fillI_b_5
  rw [e1, bd_some, e2, bd_some, pt_eq, m15 τ2 h2σ]
  unfold fl_X7_fill_23
  refine lp_inv (body := fb_X7_fill_23) (I := fun d s => s.2 = nI (aM a - d) - 1 ∧ (∀ q, q ≠ 65 → q ≠ 66 → s.1.1 q = σ.1 q) ∧ (∀ T, T < 2 ^ aN a → pop T ≤ aM a - d → s.1.1 65 T = nI (Bd a d T)) ∧ (∀ T, T < 2 ^ aN a → ∀ b, b < 4 * (aM a - d) → tb (s.1.1 66 T) b = false) ∧ ∀ T, T < 2 ^ aN a → ∀ e, e < d → pop T ≤ aM a - 1 - e → CH (s.1.1 66 T) (aM a - 1 - e) (cod (sc a e T))) (e := aM a) (P := fun X => ∃ τ, X = some (nI (Bd a (aM a) 0), τ) ∧ (∀ q, q ≠ 64 → q ≠ 65 → q ≠ 66 → τ.1 q = σ.1 q) ∧ ∀ c, c < aM a → τ.1 64 c = rI (stt a c)) ?_ ?_ nF 0 (τ2, nI (aM a) - 1) (by omega) (nF_big (by omega)) ⟨rfl, h2σ, fun T hT _ => by rw [show (τ2, nI (aM a) - 1).1.1 65 T = τ2.1 65 T from rfl, k1 65 (by omega), f2 T (by omega)]; rfl, fun T hT b _ => by rw [show (τ2, nI (aM a) - 1).1.1 66 T = τ2.1 66 T from rfl, k2 T (by omega), tb_0], fun _ _ _ h => absurd h (Nat.not_lt_zero _)⟩
  · rintro d hd ⟨τ, y⟩ ⟨hy, a1, a2, a3, a4⟩ back
    have hy2 : y = nI (aM a - d) - 1 := hy
    subst hy2
    obtain ⟨c, hcd⟩ : ∃ c, c = aM a - 1 - d := ⟨_, rfl⟩
    have hy3 : nI (aM a - d) - 1 = nI c := by
      have := nI_pred c
      rwa [show c + 1 = aM a - d by omega] at this
    have a1' : ∀ q, q ≠ 65 → q ≠ 66 → τ.1 q = σ.1 q := a1
    have a2' : ∀ T, T < 2 ^ aN a → pop T ≤ aM a - d → τ.1 65 T = nI (Bd a d T) := a2
    have a3' : ∀ T, T < 2 ^ aN a → ∀ b, b < 4 * (aM a - d) → tb (τ.1 66 T) b = false := a3
    have a4' : ∀ T, T < 2 ^ aN a → ∀ e, e < d → pop T ≤ aM a - 1 - e → CH (τ.1 66 T) (aM a - 1 - e) (cod (sc a e T)) := a4
    have hEτ : cE τ a := cE_lo (fun q hq => a1' q (by omega) (by omega)) hE
    obtain ⟨w1, w2, w3⟩ := hEτ.1.2.2.1 c (by omega)
    obtain ⟨υ, r1, r2, r3, r4⟩ := x_behind hv hEτ (show d < 8 by omega) hcd (fun T hT hp => a2' T hT (by omega))
    have hin8 := sIn_nI (show c < 8 by omega) (show 8 < 2 ^ 31 by omega)
    have hcl8 := nI_clamp (show c < 2 ^ 31 by omega)
    refine ⟨(υ, nI (aM a - (d + 1)) - 1), ⟨rfl, fun q q1 q2 => ?_, fun T hT hp => ?_, fun T hT b hb => ?_, fun T hT e he hp => ?_⟩, ?_⟩
    · show υ.1 q = _
      rw [r2 q q1 q2]
      exact a1' q q1 q2
    · exact (r3 T hT (by omega)).1
    · show tb (υ.1 66 T) b = false
      have h0 := a3' T hT b (by omega)
      by_cases cp : pop T ≤ c
      · rw [(r3 T hT cp).2, tb_or, h0, tb_shl (4 * c) (by omega) _ (by omega), decide_eq_false (by omega)]
        rfl
      · rw [r4 T hT (by omega)]
        exact h0
    · show CH (υ.1 66 T) (aM a - 1 - e) (cod (sc a e T))
      by_cases ed : e = d
      · subst ed
        rw [← hcd] at hp ⊢
        intro j hj
        rw [(r3 T hT hp).2, tb_or, a3' T hT (4 * c + j) (by omega), tb_shl (4 * c) (by omega) _ (by omega), decide_eq_true (by omega), Bool.false_or, Bool.true_and, show 4 * c + j - 4 * c = j by omega]
      · have h0 := a4' T hT e (by omega) hp
        by_cases cp : pop T ≤ c
        · intro j hj
          rw [(r3 T hT cp).2, tb_or, h0 j hj, tb_shl (4 * c) (by omega) _ (by omega), cod_hi hv d T (by omega) (by omega), Bool.and_false, Bool.or_false]
        · rw [r4 T hT (by omega)]
          exact h0
    · rw [hy3]
      have hm1 : nI c + (-1) = nI (aM a - (d + 1)) - 1 := by
        rw [show aM a - (d + 1) = c by omega, Int32.sub_eq_add_neg]
      have hth : oS (fun i => !decide (a.1 6 c < aPr a i)) (aN a) &&& a.1 5 c = seW a c := rfl
      simp only [fb_X7_fill_23, if_neg (nI_pos (show c < 2 ^ 31 by omega)), grd_of hin8, hcl8, w1, w2, x_those hv hEτ, bd_some, pt_eq, hth, r1, hm1]
  · rintro ⟨τ, y⟩ ⟨hy, a1, a2, a3, a4⟩ back
    have hy2 : y = nI (aM a - aM a) - 1 := hy
    rw [Nat.sub_self] at hy2
    subst hy2
    have a1' : ∀ q, q ≠ 65 → q ≠ 66 → τ.1 q = σ.1 q := a1
    have a2' : ∀ T, T < 2 ^ aN a → pop T ≤ aM a - aM a → τ.1 65 T = nI (Bd a (aM a) T) := a2
    have a4' : ∀ T, T < 2 ^ aN a → ∀ e, e < aM a → pop T ≤ aM a - 1 - e → CH (τ.1 66 T) (aM a - 1 - e) (cod (sc a e T)) := a4
    obtain ⟨υ, r1, r2, r3⟩ := x_writeSeats (σ := τ) hv (fun c hc T hT hp => by
      have := a4' T hT (aM a - 1 - c) (by omega) (by omega)
      rwa [show aM a - 1 - (aM a - 1 - c) = c by omega] at this)
    refine ⟨υ, ?_, fun q q1 q2 q3 => by rw [r2 q q1, a1' q q2 q3], r3⟩
    have h0 : υ.1 65 0 = nI (Bd a (aM a) 0) := by
      rw [r2 65 (by omega)]
      exact a2' 0 (by omega) (by rw [pop_0]; omega)
    simp only [fb_X7_fill_23, if_pos (show nI 0 - 1 < (0 : Int32) by decide), fj_X7_fill_60, m15 τ a1', r1, bd_some, sin_0_512, grd_true, tn_0, h0]
