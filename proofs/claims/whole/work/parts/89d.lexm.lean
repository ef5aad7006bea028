/-! the model's lexer -/
def MT (υ : sS) (b : Nat → Int32) (L : Nat) : Prop := υ.1 83 18 = nI L ∧ ∀ k, k < L → υ.1 97 k = b k
theorem m_isL (σ : sS) (x : Int32) : f_X12_isLetter σ x = some (if iL x = true then 1 else 0) := by
  have e1 : (97 : Int64).toInt = 97 := rfl
  have e2 : (122 : Int64).toInt = 122 := rfl
  unfold f_X12_isLetter iL
  rw [m_inI, bd_some, e1, e2]
  by_cases c : 97 ≤ x.toInt ∧ x.toInt ≤ 122
  · rw [if_pos c, decide_eq_true c, grd_of (by rfl)]; rfl
  · rw [if_neg c, decide_eq_false c, grd_of (by rfl)]; rfl
theorem m_isD (σ : sS) (x : Int32) : f_X12_isDigit σ x = some (if iD x = true then 1 else 0) := by
  have e1 : (48 : Int64).toInt = 48 := rfl
  have e2 : (57 : Int64).toInt = 57 := rfl
  unfold f_X12_isDigit iD
  rw [m_inI, bd_some, e1, e2]
  by_cases c : 48 ≤ x.toInt ∧ x.toInt ≤ 57
  · rw [if_pos c, decide_eq_true c, grd_of (by rfl)]; rfl
  · rw [if_neg c, decide_eq_false c, grd_of (by rfl)]; rfl
def byV (b : Nat → Int32) (L k : Nat) : Int32 := if k < L then b k else -1
theorem m_byteAt {υ : sS} {b : Nat → Int32} {L : Nat} (h : MT υ b L) (hL : L ≤ 200) {k : Nat} (hk : k < 1000) : f_X12_byteAt υ (nI k) = some (byV b L k) := by
  unfold f_X12_byteAt byV
  rw [h.1]
  have hc : (nI k < nI L) ↔ k < L := nn_lt (by omega) (by omega)
  by_cases c : k < L
  · rw [if_pos (hc.mpr c), if_pos c, grd_of (sIn_nI (show k < 200 by omega) (by omega)), nI_clamp (by omega), h.2 k c]
  · rw [if_neg (mt hc.mp c), if_neg c]
theorem byV_L {b : Nat → Int32} {L k : Nat} (h : ¬ k < L) : iL (byV b L k) = false ∧ iD (byV b L k) = false ∧ ¬ byV b L k = 32 := by
  unfold byV
  rw [if_neg h]
  exact ⟨by decide, by decide, by decide⟩
theorem byV_b {b : Nat → Int32} {L k : Nat} (h : k < L) : byV b L k = b k := if_pos h
def rr (b : Nat → Int32) (L p : Nat) : Nat := if p < L then ru b L p else L
theorem m_token {υ : sS} {b : Nat → Int32} {L T : Nat} (hM : MT υ b L) (hL : L ≤ 200) (hT : T ≤ L) (h20 : υ.1 83 20 = nI T) : ∃ τ, f_X12_token υ = some τ ∧ τ.1 83 19 = nI (sk b L T) ∧ τ.1 83 20 = nI (rr b L (sk b L T)) ∧ ∀ q j, ¬ (q = 83 ∧ (j = 19 ∨ j = 20)) → τ.1 q j = υ.1 q j := by
  obtain ⟨s1, s2, s3, s4⟩ := stp1_spec (p := fun k => decide (b k = 32)) hT
  obtain ⟨p, hp⟩ : ∃ p, p = sk b L T := ⟨_, rfl⟩
  have s1' : T ≤ p := by rw [hp]; exact s1
  have s2' : p ≤ L := by rw [hp]; exact s2
  rw [← hp]
  have keep : ∀ τ : sS, (∀ q j, ¬ (q = 83 ∧ (j = 19 ∨ j = 20)) → τ.1 q j = υ.1 q j) → MT τ b L := fun τ h => ⟨by rw [h 83 18 (by omega)]; exact hM.1, fun k hk => by rw [h 97 k (by omega)]; exact hM.2 k hk⟩
  unfold f_X12_token fl_X12_token_8
  rw [pt_eq, h20]
  refine lp_inv (body := fb_X12_token_8) (I := fun k s => s.1 83 19 = nI (T + k) ∧ ∀ q j, ¬ (q = 83 ∧ (j = 19 ∨ j = 20)) → s.1 q j = υ.1 q j) (e := p - T) (P := fun X => ∃ τ, X = some τ ∧ τ.1 83 19 = nI p ∧ τ.1 83 20 = nI (rr b L p) ∧ ∀ q j, ¬ (q = 83 ∧ (j = 19 ∨ j = 20)) → τ.1 q j = υ.1 q j) ?_ ?_ nF 0 (sI υ 83 19 (nI T)) (by omega) (nF_big (by omega)) ⟨sI_same _ _ _ _, fun q j h => by
    rw [sI_r]
    by_cases e : q = 83
    · rw [if_pos e, if_neg (fun g => h ⟨e, Or.inl g⟩), e]
    · rw [if_neg e]⟩
  · rintro k hk s ⟨a1, a2⟩ back
    have hMs := keep s a2
    have h32 : byV b L (T + k) = 32 := by
      rw [byV_b (by omega)]
      exact of_decide_eq_true (s3 (T + k) (by omega) (by unfold sk at hp; omega))
    refine ⟨sI s 83 19 (nI (T + (k + 1))), ⟨sI_same _ _ _ _, fun q j h => ?_⟩, ?_⟩
    · rw [sI_r]
      by_cases e : q = 83
      · rw [if_pos e, if_neg (fun g => h ⟨e, Or.inl g⟩), ← e]
        exact a2 q j h
      · rw [if_neg e]
        exact a2 q j h
    · simp only [fb_X12_token_8, a1, m_byteAt hMs hL (show T + k < 1000 by omega), bd_some, h32, if_true, pt_eq, nI_1, Nat.add_assoc]
  · rintro s ⟨a1, a2⟩ back
    rw [show T + (p - T) = p by omega] at a1
    have hMs := keep s a2
    have h32 : ¬ byV b L p = 32 := by
      by_cases c : p < L
      · rw [byV_b c]
        have := s4 (by unfold sk at hp; omega)
        rw [show stp1 (fun k => decide (b k = 32)) L T = p from hp.symm] at this
        exact of_decide_eq_false this
      · exact (byV_L c).2.2
    have hlt : (nI p < nI L) ↔ p < L := nn_lt (by omega) (by omega)
    have e18 : s.1 83 18 = nI L := hMs.1
    have ebody : fb_X12_token_8 back s = fj_X12_token_83 s (if iL (byV b L p) = true then 1 else 0) (if iD (byV b L p) = true then 1 else 0) (nI (if p < L then p + 1 else p)) := by
      simp only [fb_X12_token_8, a1, m_byteAt hMs hL (show p < 1000 by omega), bd_some, if_neg h32, fj_X12_token_34, m_isL, m_isD, e18]
      by_cases c : p < L
      · rw [if_pos (hlt.mpr c), if_pos c, nI_1]
      · rw [if_neg (mt hlt.mp c), if_neg c]
    rw [ebody]
    unfold fj_X12_token_83 fl_X12_token_86
    rw [pt_eq]
    -- the end
    have run : ∀ (T1 : Nat), T1 ≤ rr b L p → (∀ k, T1 ≤ k → k < rr b L p → (iL (byV b L p) = true ∧ iL (byV b L k) = true) ∨ (iD (byV b L p) = true ∧ iD (byV b L k) = true)) → ((iL (byV b L p) && iL (byV b L (rr b L p))) = false ∧ (iD (byV b L p) && iD (byV b L (rr b L p))) = false) → rr b L p ≤ 200 → ∃ τ, lp fb_X12_token_86 nF (sI s 83 20 (nI T1), (if iL (byV b L p) = true then 1 else 0), (if iD (byV b L p) = true then 1 else 0)) = some τ ∧ τ.1 83 19 = nI p ∧ τ.1 83 20 = nI (rr b L p) ∧ ∀ q j, ¬ (q = 83 ∧ (j = 19 ∨ j = 20)) → τ.1 q j = υ.1 q j := by
      intro T1 h1 h2 h3 h4
      obtain ⟨e, he⟩ : ∃ e, e = rr b L p := ⟨_, rfl⟩
      rw [← he] at h1 h2 h3 h4 ⊢
      refine lp_inv (body := fb_X12_token_86) (I := fun k z => z.2 = ((if iL (byV b L p) = true then (1 : Int32) else 0), (if iD (byV b L p) = true then (1 : Int32) else 0)) ∧ z.1.1 83 19 = nI p ∧ z.1.1 83 20 = nI (T1 + k) ∧ ∀ q j, ¬ (q = 83 ∧ (j = 19 ∨ j = 20)) → z.1.1 q j = υ.1 q j) (e := e - T1) (P := fun X => ∃ τ, X = some τ ∧ τ.1 83 19 = nI p ∧ τ.1 83 20 = nI e ∧ ∀ q j, ¬ (q = 83 ∧ (j = 19 ∨ j = 20)) → τ.1 q j = υ.1 q j) ?_ ?_ nF 0 _ (by omega) (nF_big (by omega)) ⟨rfl, by rw [sI_r, if_pos rfl, if_neg (by omega)]; exact a1, sI_same _ _ _ _, fun q j h => by
        rw [sI_r]
        by_cases g : q = 83
        · rw [if_pos g, if_neg (fun g2 => h ⟨g, Or.inr g2⟩), ← g]
          exact a2 q j h
        · rw [if_neg g]
          exact a2 q j h⟩
      · rintro k hk ⟨ψ, y⟩ ⟨hy, b1, b2, b3⟩ bk
        have hy2 : y = ((if iL (byV b L p) = true then (1 : Int32) else 0), (if iD (byV b L p) = true then (1 : Int32) else 0)) := hy
        subst hy2
        have b1' : ψ.1 83 19 = nI p := b1
        have b2' : ψ.1 83 20 = nI (T1 + k) := b2
        have b3' : ∀ q j, ¬ (q = 83 ∧ (j = 19 ∨ j = 20)) → ψ.1 q j = υ.1 q j := b3
        have hMψ := keep ψ b3'
        have h2k := h2 (T1 + k) (by omega) (by omega)
        refine ⟨(sI ψ 83 20 (nI (T1 + (k + 1))), (if iL (byV b L p) = true then (1 : Int32) else 0), (if iD (byV b L p) = true then (1 : Int32) else 0)), ⟨rfl, ?_, sI_same _ _ _ _, fun q j h => ?_⟩, ?_⟩
        · show (sI ψ 83 20 _).1 83 19 = _
          rw [sI_r, if_pos rfl, if_neg (by omega)]
          exact b1'
        · show (sI ψ 83 20 _).1 q j = _
          rw [sI_r]
          by_cases g : q = 83
          · rw [if_pos g, if_neg (fun g2 => h ⟨g, Or.inr g2⟩), ← g]
            exact b3' q j h
          · rw [if_neg g]
            exact b3' q j h
        · simp only [fb_X12_token_86, b2', m_byteAt hMψ hL (show T1 + k < 1000 by omega), bd_some, m_isL, m_isD, fj_X12_token_104, fj_X12_token_122, pt_eq, nI_1, Nat.add_assoc]
          rcases h2k with ⟨g1, g2⟩ | ⟨g1, g2⟩
          · simp [g1, g2]
          · have g3 := (iD_n g1).1
            simp [g1, g2, g3]
      · rintro ⟨ψ, y⟩ ⟨hy, b1, b2, b3⟩ bk
        have hy2 : y = ((if iL (byV b L p) = true then (1 : Int32) else 0), (if iD (byV b L p) = true then (1 : Int32) else 0)) := hy
        subst hy2
        have b2' : ψ.1 83 20 = nI (T1 + (e - T1)) := b2
        rw [show T1 + (e - T1) = e by omega] at b2'
        have b3' : ∀ q j, ¬ (q = 83 ∧ (j = 19 ∨ j = 20)) → ψ.1 q j = υ.1 q j := b3
        have hMψ := keep ψ b3'
        refine ⟨ψ, ?_, b1, b2', b3⟩
        simp only [fb_X12_token_86, b2', m_byteAt hMψ hL (show e < 1000 by omega), bd_some, m_isL, m_isD, fj_X12_token_104]
        obtain ⟨g1, g2⟩ := h3
        cases k1 : iL (byV b L p) with
        | true =>
          rw [k1, Bool.true_and] at g1
          have k2 := (iL_n k1).1
          simp [g1, k2]
        | false =>
          cases k2 : iD (byV b L p) with
          | true =>
            rw [k2, Bool.true_and] at g2
            simp [g2]
          | false => simp
    by_cases c : p < L
    · rw [if_pos c]
      have hrr : rr b L p = ru b L p := by unfold rr; rw [if_pos c]
      obtain ⟨r1, r2, r3, r4⟩ := ru_spec (b := b) c
      refine run (p + 1) (by omega) (fun k k1 k2 => ?_) ?_ (by omega)
      · rw [hrr] at k2
        rw [byV_b c, byV_b (show k < L by omega)]
        by_cases cl : iL (b p) = true
        · exact Or.inl ⟨cl, ru_let c cl k (by omega) k2⟩
        · by_cases cd : iD (b p) = true
          · exact Or.inr ⟨cd, ru_dig c cd k (by omega) k2⟩
          · unfold ru at k2
            rw [if_neg cl, if_neg cd] at k2
            omega
      · rw [hrr, byV_b c]
        by_cases cr : ru b L p < L
        · rw [byV_b cr]
          by_cases cl : iL (b p) = true
          · have hz : iL (b (ru b L p)) = false := by
              have := (stp1_spec (p := fun k => iL (b k)) (show p + 1 ≤ L by omega)).2.2.2
              unfold ru at cr ⊢
              rw [if_pos cl] at cr ⊢
              exact this cr
            rw [hz, (iL_n cl).1]
            simp
          · have cl' : iL (b p) = false := by cases h : iL (b p) with | true => exact absurd h cl | false => rfl
            by_cases cd : iD (b p) = true
            · have hz : iD (b (ru b L p)) = false := by
                have := (stp1_spec (p := fun k => iD (b k)) (show p + 1 ≤ L by omega)).2.2.2
                unfold ru at cr ⊢
                rw [if_neg cl, if_pos cd] at cr ⊢
                exact this cr
              rw [hz, cl']
              simp
            · have cd' : iD (b p) = false := by cases h : iD (b p) with | true => exact absurd h cd | false => rfl
              rw [cl', cd']
              simp
        · have := byV_L (b := b) cr
          rw [this.1, this.2.1]
          simp
    · rw [if_neg c]
      have hpL : p = L := by omega
      have hrr : rr b L p = p := by unfold rr; rw [if_neg c, hpL]
      refine run p (by omega) (fun k k1 k2 => by omega) ?_ (by omega)
      have := byV_L (b := b) c
      rw [this.1, this.2.1]
      simp
/-- the word that stands here -/
theorem m_word {υ : sS} {b : Nat → Int32} {L p : Nat} (hM : MT υ b L) (hL : L ≤ 200) (hb : ∀ k, k < L → bt (b k) 0 255) (hp : p ≤ L) (h19 : υ.1 83 19 = nI p) (h20 : υ.1 83 20 = nI (rr b L p)) : ∃ w, f_X12_word υ = some w ∧ ∀ i, i < 19 → (lg_cmp w (lN (WC i)) = 0 ↔ (υ.1 83 24 = 0 ∧ tkn b L p = nI i)) := by
  have hrr : p ≤ rr b L p ∧ rr b L p ≤ L := by
    unfold rr
    by_cases c : p < L
    · rw [if_pos c]
      have := ru_spec (b := b) c
      omega
    · rw [if_neg c]
      omega
  obtain ⟨e, he⟩ : ∃ e, e = rr b L p := ⟨_, rfl⟩
  rw [← he] at hrr h20
  -- the number, for letters
  have hnum : ∃ v : Int64, f_X12_word υ = fj_X12_word_50 υ v ∧ ((p < L ∧ iL (b p) = true) → v = lN (wF b p (e - p)) ∧ wF b p (e - p) < 2 ^ 62) := by
    unfold f_X12_word fl_X12_word_7
    rw [h19]
    refine lp_inv (body := fb_X12_word_7 υ) (I := fun k s => s.2 = nI (p + k) ∧ ((p < L ∧ iL (b p) = true) → s.1 = lN (wF b p k) ∧ wF b p k < 2 ^ 62)) (e := e - p) (P := fun X => ∃ v : Int64, X = fj_X12_word_50 υ v ∧ ((p < L ∧ iL (b p) = true) → v = lN (wF b p (e - p)) ∧ wF b p (e - p) < 2 ^ 62)) ?_ ?_ nF 0 (0, nI p) (by omega) (nF_big (by omega)) ⟨rfl, fun _ => ⟨rfl, by show 0 < 2 ^ 62; omega⟩⟩
    · rintro k hk ⟨v, y⟩ ⟨hy, hv⟩ back
      have hy2 : y = nI (p + k) := hy
      subst hy2
      have hv' : (p < L ∧ iL (b p) = true) → v = lN (wF b p k) ∧ wF b p k < 2 ^ 62 := hv
      have hlt : nI (p + k) < nI e := (nn_lt (by omega) (by omega)).mpr (by omega)
      have hcmp : (0 < lg_cmp v 36028797018963967) ↔ (36028797018963967 : Int64) < v := lg_cmp_gt _ _
      have hbody : fb_X12_word_7 υ back (v, nI (p + k)) = (if (36028797018963967 : Int64) < v then back (v, nI (p + (k + 1))) else back ((((32 : Int64) * v) + ((b (p + k) - 96).toInt64)), nI (p + (k + 1)))) := by
        simp only [fb_X12_word_7, h20, if_pos hlt, hcmp, fj_X12_word_43, grd_of (sIn_nI (show p + k < 200 by omega) (show 200 < 2 ^ 31 by omega)), nI_clamp (show p + k < 2 ^ 31 by omega), hM.2 (p + k) (by omega), nI_1, Nat.add_assoc]
      rw [hbody]
      by_cases cl : p < L ∧ iL (b p) = true
      · obtain ⟨e1, e2⟩ := hv' cl
        have hlet : iL (b (p + k)) = true := ru_let cl.1 cl.2 (p + k) (by omega) (by
          have : e = ru b L p := by rw [he]; unfold rr; rw [if_pos cl.1]
          omega)
        obtain ⟨l1, l2, l3⟩ := iL_lv hlet
        have hst : wF b p (k + 1) = (if wM < wF b p k then wF b p k else 32 * wF b p k + lv b (p + k)) := rfl
        have hM2 : ((36028797018963967 : Int64) < v) ↔ wM < wF b p k := by
          rw [e1]
          exact pk_lLT (a := 36028797018963967) (by omega) (by omega)
        by_cases c : wM < wF b p k
        · refine ⟨_, ⟨rfl, fun _ => ?_⟩, by rw [if_pos (hM2.mpr c)]⟩
          show v = lN (wF b p (k + 1)) ∧ _
          rw [hst, if_pos c]
          exact ⟨e1, e2⟩
        · refine ⟨_, ⟨rfl, fun _ => ?_⟩, by rw [if_neg (mt hM2.mp c)]⟩
          show ((32 : Int64) * v) + ((b (p + k) - 96).toInt64) = lN (wF b p (k + 1)) ∧ _
          rw [hst, if_neg c, e1, l3, show (96 : Int32) = nI 96 from rfl, pk_sub (by omega), nI_l (by omega), show (32 : Int64) = lN 32 from rfl, lN_mul, lN_add]
          refine ⟨by congr 1, ?_⟩
          have : wM < 2 ^ 56 := by unfold wM; omega
          omega
      · by_cases c : (36028797018963967 : Int64) < v
        · exact ⟨_, ⟨rfl, fun h => absurd h cl⟩, by rw [if_pos c]⟩
        · exact ⟨_, ⟨rfl, fun h => absurd h cl⟩, by rw [if_neg c]⟩
    · rintro ⟨v, y⟩ ⟨hy, hv⟩ back
      have hy2 : y = nI (p + (e - p)) := hy
      rw [show p + (e - p) = e by omega] at hy2
      subst hy2
      refine ⟨v, ?_, hv⟩
      simp only [fb_X12_word_7, h20, Int32.lt_irrefl, if_false]
  obtain ⟨v, ev, hv⟩ := hnum
  have e50 : fj_X12_word_50 υ v = some (if υ.1 83 24 = 0 ∧ iL (byV b L p) = true then v else 0) := by
    unfold fj_X12_word_50 fj_X12_word_71
    rw [h19, m_byteAt hM hL (by omega), bd_some, m_isL, bd_some]
    by_cases c : υ.1 83 24 = 0
    · cases iL (byV b L p) <;> simp [c]
    · simp [c]
  refine ⟨_, by rw [ev, e50], fun i hi => ?_⟩
  obtain ⟨_, _, _, _, h5, h6⟩ := en_all i hi
  rw [lg_cmp_eq, tkn_name hb hi]
  by_cases c : υ.1 83 24 = 0 ∧ iL (byV b L p) = true
  · rw [if_pos c]
    have hpl : p < L := by
      by_cases h : p < L
      · exact h
      · rw [(byV_L (b := b) h).1] at c
        exact absurd c.2 (by decide)
    have hbl : iL (b p) = true := by rw [← byV_b (b := b) hpl]; exact c.2
    obtain ⟨v1, v2⟩ := hv ⟨hpl, hbl⟩
    have her : e = ru b L p := by rw [he]; unfold rr; rw [if_pos hpl]
    rw [v1, pk_lEQ (by omega) (by omega), her]
    exact ⟨fun h => ⟨c.1, hpl, hbl, h⟩, fun h => h.2.2.2⟩
  · rw [if_neg c]
    constructor
    · intro h
      have : (0 : Nat) = WC i := (pk_lEQ (a := 0) (by omega) (by omega)).mp h
      omega
    · rintro ⟨g1, g2, g3, _⟩
      exact absurd ⟨g1, by rw [byV_b g2]; exact g3⟩ c
