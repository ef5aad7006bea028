/-! act -/
theorem stk_eq {g h : Nat → Int32} : ∀ {l : List Int32}, stk g l → stk h l → ∀ k, k < l.length → g k = h k
  | [], _, _, k, hk => absurd hk (Nat.not_lt_zero _)
  | x :: l, h1, h2, k, hk => by
    have hk2 : k < l.length + 1 := hk
    by_cases e : k = l.length
    · rw [e, h1.1, h2.1]
    · exact stk_eq h1.2 h2.2 k (by omega)
def cA (σ : sS) (K N C : Int32) (L : List Int32) : Prop := σ.1 81 2 = K ∧ σ.1 81 3 = N ∧ σ.1 81 4 = C ∧ σ.1 81 1 = nI L.length ∧ stk (σ.1 82) L
def fA (σ τ : sS) : Prop := ∀ q j, q ≠ 82 → ¬ (q = 81 ∧ (j = 1 ∨ j = 5)) → τ.1 q j = σ.1 q j
theorem fA_tr {σ τ υ : sS} (h1 : fA σ τ) (h2 : fA τ υ) : fA σ υ := fun q j a b => (h2 q j a b).trans (h1 q j a b)
theorem x_began {σ : sS} {K N C : Int32} {L : List Int32} (h : cA σ K N C L) (hl : L.length < 30) (b : Int32) : ∃ τ, f_X0_began σ b = some τ ∧ cA τ K N C (b :: L) ∧ fA σ τ ∧ τ.1 81 5 = σ.1 81 5 := by
  obtain ⟨h1, h2, h3, h4, h5⟩ := h
  have hlt : nI L.length < (30 : Int32) := (nn_lt (a := L.length) (b := 30) (by omega) (by omega)).mpr hl
  refine ⟨sI (sI σ 82 L.length b) 81 1 (nI (L.length + 1)), ?_, ⟨?_, ?_, ?_, ?_, ?_⟩, fun q j g1 g2 => ?_, ?_⟩
  · simp only [f_X0_began, h4, if_pos hlt, grd_of (sIn_nI (show L.length < 30 by omega) (by omega)), nI_clamp (show L.length < 2 ^ 31 by omega), pt_eq, sI_off _ 82 L.length b (show (81 : Nat) ≠ 82 by omega), nI_1]
  · rw [sI_r, if_pos rfl, if_neg (by omega), sI_off _ _ _ _ (by omega)]; exact h1
  · rw [sI_r, if_pos rfl, if_neg (by omega), sI_off _ _ _ _ (by omega)]; exact h2
  · rw [sI_r, if_pos rfl, if_neg (by omega), sI_off _ _ _ _ (by omega)]; exact h3
  · rw [sI_same]; rfl
  · rw [sI_off _ _ _ _ (by omega), sI_row]
    exact ⟨by rw [upd_r, if_pos rfl], stk_upd (Nat.le_refl _) h5⟩
  · rw [sI_r]
    by_cases e : q = 81
    · rw [if_pos e, if_neg (fun g => g2 ⟨e, Or.inl g⟩), sI_off _ _ _ _ (by omega), e]
    · rw [if_neg e, sI_off _ _ _ _ g1]
  · rw [sI_r, if_pos rfl, if_neg (by omega), sI_off _ _ _ _ (by omega)]
def pLi (K N x : Int32) : Int32 := if K = 1 then (x + N) * 3 else if K = 3 then ((x + N) * 3) ^^^ N else x + N
def tLi (K : Int32) (L : List Int32) : List Int32 := if K = 1 then 10 :: 20 :: L else if K = 3 then 10 :: 20 :: 50 :: L else 10 :: L
def pTu (K N C x : Int32) : Int32 := if K = 2 then (pLi K N x * 2) - C else if K = 5 then (0 : Int32) - ((pLi K N x * 2) - C) else pLi K N x * 2
def tTu (K : Int32) (L : List Int32) : List Int32 := tLi K (if K = 2 then 11 :: 30 :: L else if K = 5 then 11 :: 30 :: 60 :: L else 11 :: L)
def pSh (K N C x : Int32) : Int32 := if C = N then 0 else if K = 4 then (x + 1) / (C - N) else if K = 5 then x / (C - N) + pLi K N C else x / (C - N)
def tSh (K N C : Int32) (L : List Int32) : List Int32 := if K = 4 then 12 :: 40 :: L else if K = 5 then (if C = N then 12 :: 61 :: L else tLi K (12 :: 61 :: L)) else 12 :: L
def pTl (K N C x : Int32) : Int32 := if K = 3 then (pTu K N C x ^^^ C) + pSh K N C N else pTu K N C x ^^^ C
def tTl (K N C : Int32) (L : List Int32) : List Int32 := if K = 3 then tSh K N C (tTu K (13 :: 51 :: L)) else tTu K (13 :: L)
theorem und1 (k : Int32) : (und k 1 = true) ↔ (k = 1 ∨ k = 3) := by
  unfold und
  simp
theorem x_lifts {σ : sS} {K N C : Int32} {L : List Int32} (h : cA σ K N C L) (hl : L.length < 25) (x : Int32) : ∃ τ, f_X0_lifts σ x = some (pLi K N x, τ) ∧ cA τ K N C (tLi K L) ∧ fA σ τ ∧ τ.1 81 5 = σ.1 81 5 := by
  unfold f_X0_lifts pLi tLi
  rw [h.1, und_x, bd_some]
  by_cases k3 : K = 3
  · obtain ⟨τ1, e1, c1, f1, p1⟩ := x_began h (by omega) 50
    obtain ⟨τ2, e2, c2, f2, p2⟩ := x_began c1 (by simp; omega) 20
    obtain ⟨τ3, e3, c3, f3, p3⟩ := x_began c2 (by simp; omega) 10
    have k1 : ¬ K = 1 := by rw [k3]; decide
    refine ⟨τ3, ?_, by rw [if_neg k1, if_pos k3]; exact c3, fA_tr f1 (fA_tr f2 f3), by rw [p3, p2, p1]⟩
    rw [if_pos k3, if_pos ((und1 K).mpr (Or.inr k3)), e1, bd_some]
    unfold fj_X0_lifts_23 fj_X0_lifts_33 fj_X0_lifts_60
    rw [if_neg (by decide), e2, bd_some, e3, bd_some, if_neg (by decide), c3.1, if_pos k3, c3.2.1, if_neg k1, if_pos k3]
  · by_cases k1 : K = 1
    · obtain ⟨τ2, e2, c2, f2, p2⟩ := x_began h (by omega) 20
      obtain ⟨τ3, e3, c3, f3, p3⟩ := x_began c2 (by simp; omega) 10
      refine ⟨τ3, ?_, by rw [if_pos k1]; exact c3, fA_tr f2 f3, by rw [p3, p2]⟩
      rw [if_neg k3, if_pos ((und1 K).mpr (Or.inl k1))]
      unfold fj_X0_lifts_23 fj_X0_lifts_33 fj_X0_lifts_60
      rw [if_neg (by decide), e2, bd_some, e3, bd_some, if_neg (by decide), c3.1, if_neg k3, c3.2.1, if_pos k1]
    · obtain ⟨τ3, e3, c3, f3, p3⟩ := x_began h (by omega) 10
      refine ⟨τ3, ?_, by rw [if_neg k1, if_neg k3]; exact c3, f3, p3⟩
      rw [if_neg k3, if_neg (mt (und1 K).mp (fun q => q.elim k1 k3))]
      unfold fj_X0_lifts_23 fj_X0_lifts_33 fj_X0_lifts_60
      rw [if_pos rfl, e3, bd_some, if_pos rfl, c3.1, if_neg k3, c3.2.1, if_neg k1, if_neg k3]
theorem tLi_len (K : Int32) (L : List Int32) : (tLi K L).length ≤ L.length + 3 := by
  unfold tLi
  split
  · simp
  · split <;> simp
theorem x_turns {σ : sS} {K N C : Int32} {L : List Int32} (h : cA σ K N C L) (hl : L.length < 20) (x : Int32) : ∃ τ, f_X0_turns σ x = some (pTu K N C x, τ) ∧ cA τ K N C (tTu K L) ∧ fA σ τ ∧ τ.1 81 5 = σ.1 81 5 := by
  unfold f_X0_turns pTu tTu
  rw [h.1, und_x, bd_some]
  by_cases k5 : K = 5
  · obtain ⟨τ1, e1, c1, f1, p1⟩ := x_began h (by omega) 60
    obtain ⟨τ2, e2, c2, f2, p2⟩ := x_began c1 (by simp; omega) 30
    obtain ⟨τ3, e3, c3, f3, p3⟩ := x_began c2 (by simp; omega) 11
    obtain ⟨τ4, e4, c4, f4, p4⟩ := x_lifts c3 (by simp; omega) x
    have k2 : ¬ K = 2 := by rw [k5]; decide
    refine ⟨τ4, ?_, by rw [if_neg k2, if_pos k5]; exact c4, fA_tr f1 (fA_tr f2 (fA_tr f3 f4)), by rw [p4, p3, p2, p1]⟩
    rw [if_pos k5, if_pos ((und2 K).mpr (Or.inr k5)), e1, bd_some]
    unfold fj_X0_turns_23 fj_X0_turns_33 fj_X0_turns_58
    rw [if_neg (by decide), e2, bd_some, e3, bd_some, e4, bd_some, if_neg (by decide), pt_eq]
    show (if τ4.1 81 2 = 5 then some (0 - ((pLi K N x * 2) - τ4.1 81 4), τ4) else some ((pLi K N x * 2) - τ4.1 81 4, τ4)) = _
    rw [c4.1, if_pos k5, c4.2.2.1, if_neg k2, if_pos k5]
  · by_cases k2 : K = 2
    · obtain ⟨τ2, e2, c2, f2, p2⟩ := x_began h (by omega) 30
      obtain ⟨τ3, e3, c3, f3, p3⟩ := x_began c2 (by simp; omega) 11
      obtain ⟨τ4, e4, c4, f4, p4⟩ := x_lifts c3 (by simp; omega) x
      refine ⟨τ4, ?_, by rw [if_pos k2]; exact c4, fA_tr f2 (fA_tr f3 f4), by rw [p4, p3, p2]⟩
      rw [if_neg k5, if_pos ((und2 K).mpr (Or.inl k2))]
      unfold fj_X0_turns_23 fj_X0_turns_33 fj_X0_turns_58
      rw [if_neg (by decide), e2, bd_some, e3, bd_some, e4, bd_some, if_neg (by decide), pt_eq]
      show (if τ4.1 81 2 = 5 then some (0 - ((pLi K N x * 2) - τ4.1 81 4), τ4) else some ((pLi K N x * 2) - τ4.1 81 4, τ4)) = _
      rw [c4.1, if_neg k5, c4.2.2.1, if_pos k2]
    · obtain ⟨τ3, e3, c3, f3, p3⟩ := x_began h (by omega) 11
      obtain ⟨τ4, e4, c4, f4, p4⟩ := x_lifts c3 (by simp; omega) x
      refine ⟨τ4, ?_, by rw [if_neg k2, if_neg k5]; exact c4, fA_tr f3 f4, by rw [p4, p3]⟩
      rw [if_neg k5, if_neg (mt (und2 K).mp (fun q => q.elim k2 k5))]
      unfold fj_X0_turns_23 fj_X0_turns_33 fj_X0_turns_58
      rw [if_pos rfl, e3, bd_some, e4, bd_some, if_pos rfl]
      show (if τ4.1 81 2 = 5 then some (0 - (pLi K N x * 2), τ4) else some ((pLi K N x * 2), τ4)) = _
      rw [c4.1, if_neg k5, if_neg k2, if_neg k5]
theorem tTu_len (K : Int32) (L : List Int32) : (tTu K L).length ≤ L.length + 6 := by
  unfold tTu
  refine Nat.le_trans (tLi_len _ _) ?_
  split
  · simp
  · split <;> simp
theorem sub_ne {C N : Int32} (h : ¬ C = N) : ¬ C - N = 0 := fun e => h (by
  have : (C - N) + N = 0 + N := by rw [e]
  rwa [Int32.sub_add_cancel, Int32.zero_add] at this)
theorem x_shares {σ : sS} {K N C : Int32} {L : List Int32} (h : cA σ K N C L) (hl : L.length < 20) (x : Int32) : ∃ τ, f_X0_shares σ x = some (pSh K N C x, τ) ∧ cA τ K N C (tSh K N C L) ∧ fA σ τ ∧ τ.1 81 5 = (if C = N then 1 else σ.1 81 5) := by
  -- behind the heads: body 12
  have key : ∀ (τ1 : sS) (M : List Int32), cA τ1 K N C M → M.length < 22 → fA σ τ1 → τ1.1 81 5 = σ.1 81 5 → ∃ τ, fj_X0_shares_28 τ1 x = some (pSh K N C x, τ) ∧ cA τ K N C (if C = N then 12 :: M else if K = 5 then tLi K (12 :: M) else 12 :: M) ∧ fA σ τ ∧ τ.1 81 5 = (if C = N then 1 else σ.1 81 5) := by
    intro τ1 M c1 hM f1 p1
    obtain ⟨τ2, e2, c2, f2, p2⟩ := x_began c1 (by omega) 12
    unfold fj_X0_shares_28 pSh
    rw [e2, bd_some, c2.2.2.1, c2.2.1]
    by_cases d : C = N
    · refine ⟨sI τ2 81 5 1, ?_, ?_, fun q j g1 g2 => ?_, ?_⟩
      · rw [if_pos d, grd_of (by rfl), pt_eq, if_pos d]
      · rw [if_pos d]
        refine ⟨?_, ?_, ?_, ?_, ?_⟩
        · rw [sI_r, if_pos rfl, if_neg (by omega)]; exact c2.1
        · rw [sI_r, if_pos rfl, if_neg (by omega)]; exact c2.2.1
        · rw [sI_r, if_pos rfl, if_neg (by omega)]; exact c2.2.2.1
        · rw [sI_r, if_pos rfl, if_neg (by omega)]; exact c2.2.2.2.1
        · rw [sI_off _ _ _ _ (by omega)]; exact c2.2.2.2.2
      · rw [sI_r]
        by_cases e : q = 81
        · rw [if_pos e, if_neg (fun g => g2 ⟨e, Or.inr g⟩), ← e, f2 q j g1 g2, f1 q j g1 g2]
        · rw [if_neg e, f2 q j g1 g2, f1 q j g1 g2]
      · rw [sI_same, if_pos d]
    · have hne := sub_ne d
      have e67 : ∀ y, ∃ τ, fj_X0_shares_67 τ2 y = some (if K = 5 then y / (C - N) + pLi K N C else y / (C - N), τ) ∧ cA τ K N C (if K = 5 then tLi K (12 :: M) else 12 :: M) ∧ fA τ2 τ ∧ τ.1 81 5 = τ2.1 81 5 := fun y => by
        unfold fj_X0_shares_67
        rw [c2.2.2.1, c2.2.1, grd_of (decide_eq_true hne), pt_eq, c2.1]
        by_cases k5 : K = 5
        · obtain ⟨τ3, e3, c3, f3, p3⟩ := x_lifts c2 (by simp; omega) C
          refine ⟨τ3, by rw [if_pos k5, e3, bd_some, if_pos k5], by rw [if_pos k5]; exact c3, f3, p3⟩
        · exact ⟨τ2, by rw [if_neg k5, if_neg k5], by rw [if_neg k5]; exact c2, fun _ _ _ _ => rfl, rfl⟩
      rw [if_neg d, if_neg d]
      rw [if_neg d]
      by_cases k4 : K = 4
      · obtain ⟨τ3, e3, c3, f3, p3⟩ := e67 (x + 1)
        have k5 : ¬ K = 5 := by rw [k4]; decide
        refine ⟨τ3, ?_, ?_, fA_tr f1 (fA_tr f2 f3), by rw [p3, p2, p1, if_neg d]⟩
        · rw [c2.1, if_pos k4, e3, if_neg k5, if_pos k4]
        · exact c3
      · obtain ⟨τ3, e3, c3, f3, p3⟩ := e67 x
        refine ⟨τ3, ?_, ?_, fA_tr f1 (fA_tr f2 f3), by rw [p3, p2, p1, if_neg d]⟩
        · rw [c2.1, if_neg k4, e3, if_neg k4]
        · exact c3
  unfold f_X0_shares fj_X0_shares_14 tSh
  rw [h.1]
  by_cases k4 : K = 4
  · obtain ⟨τ1, e1, c1, f1, p1⟩ := x_began h (by omega) 40
    have k5 : ¬ K = 5 := by rw [k4]; decide
    obtain ⟨τ, r1, r2, r3, r4⟩ := key τ1 (40 :: L) c1 (by simp; omega) f1 p1
    refine ⟨τ, ?_, ?_, r3, r4⟩
    · rw [if_pos k4, e1, bd_some, c1.1, if_neg k5, r1]
    · rw [if_pos k4]
      rw [if_neg k5] at r2
      by_cases d : C = N
      · rw [if_pos d] at r2; exact r2
      · rw [if_neg d] at r2; exact r2
  · by_cases k5 : K = 5
    · obtain ⟨τ1, e1, c1, f1, p1⟩ := x_began h (by omega) 61
      obtain ⟨τ, r1, r2, r3, r4⟩ := key τ1 (61 :: L) c1 (by simp; omega) f1 p1
      refine ⟨τ, ?_, ?_, r3, r4⟩
      · rw [if_neg k4, if_pos k5, e1, bd_some, r1]
      · rw [if_neg k4, if_pos k5]
        rw [if_pos k5] at r2
        exact r2
    · obtain ⟨τ, r1, r2, r3, r4⟩ := key σ L h (by omega) (fun _ _ _ _ => rfl) rfl
      refine ⟨τ, ?_, ?_, r3, r4⟩
      · rw [if_neg k4, if_neg k5, r1]
      · rw [if_neg k4, if_neg k5]
        rw [if_neg k5] at r2
        by_cases d : C = N
        · rw [if_pos d] at r2; exact r2
        · rw [if_neg d] at r2; exact r2
theorem x_tells {σ : sS} {K N C : Int32} {L : List Int32} (h : cA σ K N C L) (hl : L.length < 10) (x : Int32) : ∃ τ, f_X0_tells σ x = some (pTl K N C x, τ) ∧ cA τ K N C (tTl K N C L) ∧ fA σ τ ∧ τ.1 81 5 = (if K = 3 ∧ C = N then 1 else σ.1 81 5) := by
  unfold f_X0_tells fj_X0_tells_14 pTl tTl
  rw [h.1]
  by_cases k3 : K = 3
  · obtain ⟨τ1, e1, c1, f1, p1⟩ := x_began h (by omega) 51
    obtain ⟨τ2, e2, c2, f2, p2⟩ := x_began c1 (by simp; omega) 13
    obtain ⟨τ3, e3, c3, f3, p3⟩ := x_turns c2 (by simp; omega) x
    obtain ⟨τ4, e4, c4, f4, p4⟩ := x_shares c3 (by have := tTu_len K (13 :: 51 :: L); simp at this; omega) N
    refine ⟨τ4, ?_, by rw [if_pos k3]; exact c4, fA_tr f1 (fA_tr f2 (fA_tr f3 f4)), ?_⟩
    · rw [if_pos k3, e1, bd_some, e2, bd_some, e3, bd_some, pt_eq]
      show (if τ3.1 81 2 = 3 then bd (f_X0_shares τ3 (τ3.1 81 3)) (fun r10 => some ((pTu K N C x ^^^ τ3.1 81 4) + r10.1, r10.2)) else some (pTu K N C x ^^^ τ3.1 81 4, τ3)) = _
      rw [c3.1, if_pos k3, c3.2.1, e4, bd_some, c3.2.2.1, if_pos k3]
    · rw [p4]
      by_cases d : C = N
      · rw [if_pos d, if_pos ⟨k3, d⟩]
      · rw [if_neg d, if_neg (fun q => d q.2), p3, p2, p1]
  · obtain ⟨τ2, e2, c2, f2, p2⟩ := x_began h (by omega) 13
    obtain ⟨τ3, e3, c3, f3, p3⟩ := x_turns c2 (by simp; omega) x
    refine ⟨τ3, ?_, by rw [if_neg k3]; exact c3, fA_tr f2 f3, by rw [p3, p2, if_neg (fun q => k3 q.1)]⟩
    rw [if_neg k3, e2, bd_some, e3, bd_some, pt_eq]
    show (if τ3.1 81 2 = 3 then bd (f_X0_shares τ3 (τ3.1 81 3)) (fun r10 => some ((pTu K N C x ^^^ τ3.1 81 4) + r10.1, r10.2)) else some (pTu K N C x ^^^ τ3.1 81 4, τ3)) = _
    rw [c3.1, if_neg k3, c3.2.2.1, if_neg k3]
def pAc (w K N C x : Int32) : Int32 := if w = 0 then pLi K N x else if w = 1 then pTu K N C x else if w = 2 then pSh K N C x else pTl K N C x
def tAc (w K N C : Int32) : List Int32 := if w = 0 then tLi K [] else if w = 1 then tTu K [] else if w = 2 then tSh K N C [] else tTl K N C []
/-- parted by 0 -/
def zAc (w K N C : Int32) : Prop := ¬ w = 0 ∧ ¬ w = 1 ∧ ((w = 2 ∧ C = N) ∨ (¬ w = 2 ∧ K = 3 ∧ C = N))
theorem x_answer {σ : sS} {K N C : Int32} (h : cA σ K N C []) (h5 : σ.1 81 5 = 0) (w x : Int32) : ∃ τ, f_X0_answerOf σ w x = some (pAc w K N C x, τ) ∧ cA τ K N C (tAc w K N C) ∧ fA σ τ ∧ (τ.1 81 5 = 0 ↔ ¬ zAc w K N C) := by
  unfold f_X0_answerOf pAc tAc zAc
  by_cases w0 : w = 0
  · obtain ⟨τ, e, c, f, p⟩ := x_lifts h (by simp) x
    exact ⟨τ, by rw [if_pos w0, e, bd_some, if_pos w0], by rw [if_pos w0]; exact c, f, by rw [p, h5]; simp [w0]⟩
  by_cases w1 : w = 1
  · obtain ⟨τ, e, c, f, p⟩ := x_turns h (by simp) x
    exact ⟨τ, by rw [if_neg w0, if_pos w1, e, bd_some, if_neg w0, if_pos w1], by rw [if_neg w0, if_pos w1]; exact c, f, by rw [p, h5]; simp [w1]⟩
  by_cases w2 : w = 2
  · obtain ⟨τ, e, c, f, p⟩ := x_shares h (by simp) x
    refine ⟨τ, by rw [if_neg w0, if_neg w1, if_pos w2, e, bd_some, if_neg w0, if_neg w1, if_pos w2], by rw [if_neg w0, if_neg w1, if_pos w2]; exact c, f, ?_⟩
    rw [p, h5]
    by_cases d : C = N
    · simp [w2, d]
    · simp [w2, d]
  · obtain ⟨τ, e, c, f, p⟩ := x_tells h (by simp) x
    refine ⟨τ, by rw [if_neg w0, if_neg w1, if_neg w2, e, bd_some, if_neg w0, if_neg w1, if_neg w2], by rw [if_neg w0, if_neg w1, if_neg w2]; exact c, f, ?_⟩
    rw [p, h5]
    by_cases d : K = 3 ∧ C = N
    · simp [w0, w1, w2, d]
    · rw [if_neg d]
      simp only [w0, w1, w2, not_false_eq_true, true_and, false_and, false_or, true_iff]
      exact d
