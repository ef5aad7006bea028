/-! seats: the class -/
theorem fill512 {qr : Nat} {body : (sS × Int32 × Int32 × Int32 → Option sS) → sS × Int32 × Int32 × Int32 → Option sS} (hb : ∀ back τ x1 x2 x3, body back (τ, x1, x2, x3) = (if x2 < x3 then grd (sIn x2 512) (pt (sI τ qr x2.toNatClampNeg x1) fun σ3 => back (σ3, x1, (x2 + 1), x3)) else some τ)) (σ : sS) : ∃ τ, lp body nF (σ, 0, 0, 512) = some τ ∧ (∀ q, q ≠ qr → τ.1 q = σ.1 q) ∧ ∀ j, j < 512 → τ.1 qr j = 0 := by
  refine lp_inv (body := body) (I := fun i p => p.2 = ((0 : Int32), nI i, (512 : Int32)) ∧ (∀ q, q ≠ qr → p.1.1 q = σ.1 q) ∧ ∀ j, j < i → p.1.1 qr j = 0) (e := 512) (P := fun r => ∃ τ, r = some τ ∧ (∀ q, q ≠ qr → τ.1 q = σ.1 q) ∧ ∀ j, j < 512 → τ.1 qr j = 0) ?_ ?_ nF 0 (σ, 0, 0, 512) (by omega) (nF_big (by omega)) ⟨rfl, fun _ _ => rfl, fun _ h => absurd h (Nat.not_lt_zero _)⟩
  · rintro i hi ⟨τ, y⟩ ⟨hy, a1, a2⟩ back
    have hy2 : y = ((0 : Int32), nI i, (512 : Int32)) := hy
    subst hy2
    have a2' : ∀ j, j < i → τ.1 qr j = 0 := a2
    have hlt : nI i < (512 : Int32) := (nn_lt (a := i) (b := 512) (by omega) (by omega)).mpr hi
    refine ⟨(sI τ qr i 0, 0, nI (i + 1), 512), ⟨rfl, fun q hq => ?_, fun j hj => ?_⟩, ?_⟩
    · show (sI τ qr i 0).1 q = _
      rw [sI_off _ _ _ _ hq]
      exact a1 q hq
    · show (sI τ qr i 0).1 qr j = _
      rw [sI_r, if_pos rfl]
      by_cases e : j = i
      · rw [if_pos e]
      · rw [if_neg e]
        exact a2' j (by omega)
    · rw [hb, if_pos hlt, grd_of (sIn_nI hi (by omega)), pt_eq, nI_clamp (by omega), nI_1]
  · rintro ⟨τ, y⟩ ⟨hy, a1, a2⟩ back
    have hy2 : y = ((0 : Int32), nI 512, (512 : Int32)) := hy
    subst hy2
    refine ⟨τ, ?_, a1, a2⟩
    rw [hb, if_neg (show ¬ nI 512 < (512 : Int32) by decide)]
theorem x_those {σ : sS} {a : aK} (hv : vK a) (hE : cE σ a) (v : Int32) : f_X3_thoseFor σ v = some (oS (fun i => !decide (v < aPr a i)) (aN a)) := by
  have h9 : aN a ≤ 9 := hv.1.1.2
  have n1 : σ.1 1 4 = nI (aN a) := hE.1.1.1.trans hv.1.1.1
  unfold f_X3_thoseFor fl_X3_thoseFor_4
  refine lp_for (body := fb_X3_thoseFor_4 σ) (fun k => (v, oS (fun i => !decide (v < aPr a i)) k, nI k)) (aN a) _ ?_ ?_ nF 0 (by omega) (nF_big (by omega))
  · intro k hk back
    have hlt : nI k < nI (aN a) := (nn_lt (by omega) (by omega)).mpr hk
    simp only [fb_X3_thoseFor_4, n1, if_pos hlt, grd_of (sIn_nI (show k < 9 by omega) (show 9 < 2 ^ 31 by omega)), nI_clamp (show k < 2 ^ 31 by omega), (hE.2 k hk).2, pt_eq, nI_1]
    show _ = back (v, (if (!decide (v < aPr a k)) = true then oS (fun i => !decide (v < aPr a i)) k ||| ((1 : Int32) <<< (nI k &&& 31)) else oS (fun i => !decide (v < aPr a i)) k), nI (k + 1))
    by_cases c : v < aPr a k
    · rw [if_pos c, decide_eq_true c]; rfl
    · rw [if_neg c, decide_eq_false c]; rfl
  · intro back
    simp only [fb_X3_thoseFor_4, n1, Int32.lt_irrefl, if_false]
def cod (o : Option Nat) : Int32 := match o with | some i => nI i | none => 15
theorem m1_lt (n : Nat) (h : n < 2 ^ 31) : (-1 : Int32) < nI n := by
  rw [i32_lt, nI_toInt h]
  have : (-1 : Int32).toInt = -1 := rfl
  omega
theorem x_seatBest {σ : sS} {a : aK} (hv : vK a) (hE : cE σ a) {d T : Nat} (hd : d < 8) (hT : T < 2 ^ aN a) (x4 : Int32) (hx4 : ∀ i, i < aN a → tb x4 i = mp a (aM a - 1 - d) T i) (h65 : σ.1 65 T = nI (Bd a d T)) (h65' : ∀ i, i < aN a → mp a (aM a - 1 - d) T i = true → σ.1 65 (T ||| 2 ^ i) = nI (Bd a d (T ||| 2 ^ i))) (c : Nat) : f_X7_seatBest σ (nI c) (nI T) x4 = some (sI (sI σ 65 T (nI (Bd a (d + 1) T))) 66 T (σ.1 66 T ||| (cod (sc a d T) <<< (nI (4 * c) &&& 31)))) := by
  have h9 : aN a ≤ 9 := hv.1.1.2
  have hTl := two_le h9
  have n1 : σ.1 1 4 = nI (aN a) := hE.1.1.1.trans hv.1.1.1
  have hB0 := Bd_le hv d T
  obtain ⟨v, hvd⟩ : ∃ v : Nat → Nat, v = fun i => pr a i + Bd a d (T ||| 2 ^ i) := ⟨_, rfl⟩
  have hvi : ∀ i, pr a i + Bd a d (T ||| 2 ^ i) = v i := fun i => by rw [hvd]
  obtain ⟨p, hpd⟩ : ∃ p : Nat → Bool, p = mp a (aM a - 1 - d) T := ⟨_, rfl⟩
  rw [← hpd] at hx4 h65'
  have hvb : ∀ i, i < aN a → v i ≤ 4000 := fun i hi => by
    have h1 := Bd_le hv d (T ||| 2 ^ i)
    have h2 := (pr_nI hv hi).2
    rw [← hvi]
    omega
  have hBd : Bd a (d + 1) T = bst p v (Bd a d T) (aN a) := by rw [hpd, hvd]; rfl
  have hsc : sc a d T = fst (fun i => p i && decide (v i = bst p v (Bd a d T) (aN a))) (aN a) 0 := by
    unfold sc
    rw [hBd, hpd, hvd]
  have e4 : (4 : Int32) * nI c = nI (4 * c) := by rw [show (4 : Int32) = nI 4 from rfl, pk_mul]
  have hinT := sIn_nI (show T < 512 by omega) (show 512 < 2 ^ 31 by omega)
  have hclT := nI_clamp (show T < 2 ^ 31 by omega)
  have e108 : ∀ x s, fj_X7_seatBest_108 σ (nI c) (nI T) x s = some (sI (sI σ 65 T x) 66 T (σ.1 66 T ||| (s <<< (nI (4 * c) &&& 31)))) := fun x s => by
    unfold fj_X7_seatBest_108
    rw [grd_of hinT, pt_eq, grd_of hinT, grd_of hinT, pt_eq, hclT, sI_off _ _ _ _ (show (66 : Nat) ≠ 65 by omega), e4]
  unfold f_X7_seatBest fl_X7_seatBest_10
  refine lp_inv (body := fb_X7_seatBest_10) (I := fun k s => ∃ b t, s = (σ, nI c, nI T, x4, b, t, nI k) ∧ (((∀ i, i < k → p i = false) ∧ b = -1 ∧ t = 15) ∨ ∃ x, x < k ∧ p x = true ∧ b = nI (v x) ∧ t = nI x ∧ (∀ i, i < k → p i = true → v i ≤ v x) ∧ ∀ i, i < x → p i = true → v i < v x)) (e := aN a) (P := fun X => X = some (sI (sI σ 65 T (nI (Bd a (d + 1) T))) 66 T (σ.1 66 T ||| (cod (sc a d T) <<< (nI (4 * c) &&& 31))))) ?_ ?_ nF 0 _ (by omega) (nF_big (by omega)) ⟨-1, 15, rfl, Or.inl ⟨fun _ h => absurd h (Nat.not_lt_zero _), rfl, rfl⟩⟩
  · rintro k hk s ⟨b, t, hs, h⟩ back
    subst hs
    have hlt : nI k < nI (aN a) := (nn_lt (by omega) (by omega)).mpr hk
    have hin9 := sIn_nI (show k < 9 by omega) (show 9 < 2 ^ 31 by omega)
    have hcl9 := nI_clamp (show k < 2 ^ 31 by omega)
    have ht : ((x4 >>> (nI k &&& 31)) &&& 1 = 1) ↔ p k = true := by rw [tb_get x4 k (by omega), hx4 k hk]
    have hTk := or_lt hT hk
    have hio := sIn_nI (show T ||| 2 ^ k < 512 by omega) (show 512 < 2 ^ 31 by omega)
    have hco := nI_clamp (show T ||| 2 ^ k < 2 ^ 31 by omega)
    have hor := or_bit (T := T) (i := k) (by omega)
    have hpk := (pr_nI hv hk).1
    by_cases c1 : p k = true
    · have hval : σ.1 13 k + σ.1 65 (T ||| 2 ^ k) = nI (v k) := by rw [(hE.2 k hk).2, h65' k hk c1, hpk, nI_add, hvi]
      have hbody : fb_X7_seatBest_10 back (σ, nI c, nI T, x4, b, t, nI k) = (if b < nI (v k) then back (σ, nI c, nI T, x4, nI (v k), nI k, nI (k + 1)) else back (σ, nI c, nI T, x4, b, t, nI (k + 1))) := by
        simp only [fb_X7_seatBest_10, n1, if_pos hlt, if_pos (ht.mpr c1), hor, grd_of hin9, hcl9, grd_of hio, hco, hval, pt_eq, nI_1]
      rw [hbody]
      have hvk := hvb k hk
      rcases h with ⟨h1, h2, h3⟩ | ⟨x, x1, x2, x3, x4', x5, x6⟩
      · rw [h2, if_pos (m1_lt _ (by omega))]
        refine ⟨_, ⟨_, _, rfl, Or.inr ⟨k, by omega, c1, rfl, rfl, fun i hi hpi => ?_, fun i hi hpi => ?_⟩⟩, rfl⟩
        · by_cases e : i = k
          · rw [e]; exact Nat.le_refl _
          · have hz := h1 i (by omega)
            rw [hpi] at hz
            cases hz
        · have hz := h1 i hi
          rw [hpi] at hz
          cases hz
      · have hvx := hvb x (by omega)
        have hcmp : (b < nI (v k)) ↔ v x < v k := by rw [x3]; exact nn_lt (by omega) (by omega)
        by_cases c2 : v x < v k
        · rw [if_pos (hcmp.mpr c2)]
          refine ⟨_, ⟨_, _, rfl, Or.inr ⟨k, by omega, c1, rfl, rfl, fun i hi hpi => ?_, fun i hi hpi => ?_⟩⟩, rfl⟩
          · by_cases e : i = k
            · rw [e]; exact Nat.le_refl _
            · have := x5 i (by omega) hpi
              omega
          · have := x5 i hi hpi
            omega
        · rw [if_neg (mt hcmp.mp c2)]
          refine ⟨_, ⟨b, t, rfl, Or.inr ⟨x, by omega, x2, x3, x4', fun i hi hpi => ?_, x6⟩⟩, rfl⟩
          by_cases e : i = k
          · rw [e]; omega
          · exact x5 i (by omega) hpi
    · have hpf : p k = false := by cases hpk2 : p k with | true => exact absurd hpk2 c1 | false => rfl
      refine ⟨(σ, nI c, nI T, x4, b, t, nI (k + 1)), ⟨b, t, rfl, ?_⟩, ?_⟩
      · rcases h with ⟨h1, h2, h3⟩ | ⟨x, x1, x2, x3, x4', x5, x6⟩
        · refine Or.inl ⟨fun i hi => ?_, h2, h3⟩
          by_cases e : i = k
          · rw [e]; exact hpf
          · exact h1 i (by omega)
        · refine Or.inr ⟨x, by omega, x2, x3, x4', fun i hi hpi => ?_, x6⟩
          by_cases e : i = k
          · rw [e, hpf] at hpi; cases hpi
          · exact x5 i (by omega) hpi
      · simp only [fb_X7_seatBest_10, n1, if_pos hlt, if_neg (mt ht.mp c1), nI_1]
  · rintro s ⟨b, t, hs, h⟩ back
    subst hs
    have hbody : fb_X7_seatBest_10 back (σ, nI c, nI T, x4, b, t, nI (aN a)) = (if b < nI (Bd a d T) then fj_X7_seatBest_108 σ (nI c) (nI T) (nI (Bd a d T)) 15 else fj_X7_seatBest_108 σ (nI c) (nI T) b t) := by
      simp only [fb_X7_seatBest_10, n1, Int32.lt_irrefl, if_false, fj_X7_seatBest_85, grd_of hinT, hclT, h65, pt_eq]
    rw [hbody, hBd, hsc]
    rcases h with ⟨h1, h2, h3⟩ | ⟨x, x1, x2, x3, x4', x5, x6⟩
    · obtain ⟨g1, g2⟩ := bst_none (v := v) (b0 := Bd a d T) h1
      rw [h2, if_pos (m1_lt _ (by omega)), e108, g1, g2]
      rfl
    · have hvx := hvb x x1
      obtain ⟨g1, g2⟩ := bst_first (b0 := Bd a d T) x1 x2 x5 x6
      have hcmp : (b < nI (Bd a d T)) ↔ v x < Bd a d T := by rw [x3]; exact nn_lt (by omega) (by omega)
      by_cases c2 : v x < Bd a d T
      · obtain ⟨k1, k2⟩ := g2 c2
        rw [if_pos (hcmp.mpr c2), e108, k1]
        rw [k1] at k2
        rw [k2]
        rfl
      · obtain ⟨k1, k2⟩ := g1 (by omega)
        rw [if_neg (mt hcmp.mp c2), e108, k1]
        rw [k1] at k2
        rw [k2, x3, x4']
        rfl
def seW (a : aK) (c : Nat) : Int32 := oS (fun i => !decide (a.1 6 c < aPr a i)) (aN a) &&& a.1 5 c
theorem seW_mp {a : aK} (hv : vK a) {c T i : Nat} (hi : i < aN a) (hT : T < 512) : tb (seW a c &&& (nI T ^^^ (-1))) i = mp a c T i := by
  have h9 : aN a ≤ 9 := hv.1.1.2
  unfold seW mp may
  rw [tb_and, tb_and, tb_xor, tb_oS (by omega) (by omega), tb_nI T (by omega), tb_m1 i (by omega), decide_eq_true hi, Bool.true_and, Bool.xor_true]
  cases tb (a.1 5 c) i <;> cases T.testBit i <;> cases decide (a.1 6 c < aPr a i) <;> rfl
theorem x_behind {σ : sS} {a : aK} (hv : vK a) (hE : cE σ a) {d c : Nat} (hd : d < 8) (hcd : c = aM a - 1 - d) (h65 : ∀ T, T < 2 ^ aN a → pop T ≤ c + 1 → σ.1 65 T = nI (Bd a d T)) : ∃ τ, f_X7_seatBehind σ (nI c) (seW a c) = some τ ∧ (∀ q, q ≠ 65 → q ≠ 66 → τ.1 q = σ.1 q) ∧ (∀ T, T < 2 ^ aN a → pop T ≤ c → τ.1 65 T = nI (Bd a (d + 1) T) ∧ τ.1 66 T = σ.1 66 T ||| (cod (sc a d T) <<< (nI (4 * c) &&& 31))) ∧ ∀ T, T < 2 ^ aN a → c < pop T → τ.1 66 T = σ.1 66 T := by
  have h9 : aN a ≤ 9 := hv.1.1.2
  have h8 : aM a ≤ 8 := hv.1.2.1.2
  have hTl := two_le h9
  have n1 : σ.1 1 4 = nI (aN a) := hE.1.1.1.trans hv.1.1.1
  unfold f_X7_seatBehind fl_X7_seatBehind_3
  refine lp_inv (body := fb_X7_seatBehind_3) (I := fun K s => s.2 = (nI c, seW a c, nI K) ∧ (∀ q, q ≠ 65 → q ≠ 66 → s.1.1 q = σ.1 q) ∧ (∀ T, T < K → pop T ≤ c → s.1.1 65 T = nI (Bd a (d + 1) T) ∧ s.1.1 66 T = σ.1 66 T ||| (cod (sc a d T) <<< (nI (4 * c) &&& 31))) ∧ (∀ T, (T < K → c < pop T) → s.1.1 65 T = σ.1 65 T ∧ s.1.1 66 T = σ.1 66 T)) (e := 2 ^ aN a) (P := fun X => ∃ τ, X = some τ ∧ (∀ q, q ≠ 65 → q ≠ 66 → τ.1 q = σ.1 q) ∧ (∀ T, T < 2 ^ aN a → pop T ≤ c → τ.1 65 T = nI (Bd a (d + 1) T) ∧ τ.1 66 T = σ.1 66 T ||| (cod (sc a d T) <<< (nI (4 * c) &&& 31))) ∧ ∀ T, T < 2 ^ aN a → c < pop T → τ.1 66 T = σ.1 66 T) ?_ ?_ nF 0 (σ, nI c, seW a c, 0) (by omega) (nF_big (by omega)) ⟨rfl, fun _ _ _ => rfl, fun _ h => absurd h (Nat.not_lt_zero _), fun _ _ => ⟨rfl, rfl⟩⟩
  · rintro K hK ⟨τ, y⟩ ⟨hy, a1, a2, a3⟩ back
    have hy2 : y = (nI c, seW a c, nI K) := hy
    subst hy2
    have a1' : ∀ q, q ≠ 65 → q ≠ 66 → τ.1 q = σ.1 q := a1
    have a2' : ∀ T, T < K → pop T ≤ c → τ.1 65 T = nI (Bd a (d + 1) T) ∧ τ.1 66 T = σ.1 66 T ||| (cod (sc a d T) <<< (nI (4 * c) &&& 31)) := a2
    have a3' : ∀ T, (T < K → c < pop T) → τ.1 65 T = σ.1 65 T ∧ τ.1 66 T = σ.1 66 T := a3
    have hEτ : cE τ a := cE_lo (fun q hq => a1' q (by omega) (by omega)) hE
    have m1 : τ.1 1 4 = nI (aN a) := by rw [a1' 1 (by omega) (by omega)]; exact n1
    have hlt : nI K < nI (2 ^ aN a) := (nn_lt (by omega) (by omega)).mpr hK
    have hpc : (nI c < nI (pop K)) ↔ c < pop K := nn_lt (by omega) (by unfold pop; omega)
    by_cases cp : c < pop K
    · refine ⟨(τ, nI c, seW a c, nI (K + 1)), ⟨rfl, a1', fun T hT hp => ?_, fun T hT => ?_⟩, ?_⟩
      · by_cases e : T = K
        · rw [e] at hp; omega
        · exact a2' T (by omega) hp
      · refine a3' T fun h => hT (by omega)
      · simp only [fb_X7_seatBehind_3, m1, shl_nI h9, if_pos hlt, x_pop τ (show K < 512 by omega), bd_some, if_pos (hpc.mpr cp), nI_1]
    · have hb := x_seatBest hv hEτ hd hK (seW a c &&& (nI K ^^^ (-1))) (fun i hi => by rw [seW_mp hv hi (by omega), hcd]) (by rw [(a3' K (fun h => absurd h (by omega))).1]; exact h65 K hK (by omega)) (fun i hi hpi => by
        have hbit : K.testBit i = false := by
          unfold mp at hpi
          cases hk : K.testBit i with
          | false => rfl
          | true => rw [hk] at hpi; cases hpi
        have hgt := lt_or hbit
        rw [(a3' (K ||| 2 ^ i) (fun h => absurd h (by omega))).1]
        refine h65 _ (or_lt hK hi) ?_
        rw [pop_or (by omega) (by omega) hbit]
        omega) c
      have h66K := (a3' K (fun h => absurd h (by omega))).2
      refine ⟨(sI (sI τ 65 K (nI (Bd a (d + 1) K))) 66 K (τ.1 66 K ||| (cod (sc a d K) <<< (nI (4 * c) &&& 31))), nI c, seW a c, nI (K + 1)), ⟨rfl, fun q q1 q2 => ?_, fun T hT hp => ?_, fun T hT => ?_⟩, ?_⟩
      · show (sI (sI τ 65 K _) 66 K _).1 q = _
        rw [sI_off _ _ _ _ q2, sI_off _ _ _ _ q1]
        exact a1' q q1 q2
      · show (sI (sI τ 65 K _) 66 K _).1 65 T = _ ∧ (sI (sI τ 65 K _) 66 K _).1 66 T = _
        rw [sI_off _ _ _ _ (show (65 : Nat) ≠ 66 by omega), sI_r, if_pos rfl, sI_r, if_pos rfl, sI_off _ _ _ _ (show (66 : Nat) ≠ 65 by omega)]
        by_cases e : T = K
        · rw [if_pos e, if_pos e, e, h66K]
          exact ⟨rfl, rfl⟩
        · rw [if_neg e, if_neg e]
          exact a2' T (by omega) hp
      · show (sI (sI τ 65 K _) 66 K _).1 65 T = _ ∧ (sI (sI τ 65 K _) 66 K _).1 66 T = _
        have e : T ≠ K := fun e => by
          have := hT (by omega)
          rw [e] at this
          exact cp this
        rw [sI_off _ _ _ _ (show (65 : Nat) ≠ 66 by omega), sI_r, if_pos rfl, sI_r, if_pos rfl, sI_off _ _ _ _ (show (66 : Nat) ≠ 65 by omega), if_neg e, if_neg e]
        exact a3' T (fun h => hT (by omega))
      · simp only [fb_X7_seatBehind_3, m1, shl_nI h9, if_pos hlt, x_pop τ (show K < 512 by omega), bd_some, if_neg (mt hpc.mp cp), hb, nI_1]
  · rintro ⟨τ, y⟩ ⟨hy, a1, a2, a3⟩ back
    have hy2 : y = (nI c, seW a c, nI (2 ^ aN a)) := hy
    subst hy2
    have a1' : ∀ q, q ≠ 65 → q ≠ 66 → τ.1 q = σ.1 q := a1
    have m1 : τ.1 1 4 = nI (aN a) := by rw [a1' 1 (by omega) (by omega)]; exact n1
    refine ⟨τ, ?_, a1, a2, fun T hT hp => (a3 T (fun _ => hp)).2⟩
    simp only [fb_X7_seatBehind_3, m1, shl_nI h9, Int32.lt_irrefl, if_false]
