/-! THE RULES asked: the model -/
theorem lp_wf {α ρ : Type} {body : (α → Option ρ) → α → Option ρ} (I : α → Prop) (m : α → Nat) (P : Option ρ → Prop) (h : ∀ a, I a → (∃ a', I a' ∧ m a' < m a ∧ ∀ back : α → Option ρ, body back a = back a') ∨ (∃ X, P X ∧ ∀ back : α → Option ρ, body back a = X)) : ∀ (k : Nat) (a : α), m a < k → I a → P (lp body k a)
  | 0, a, hk, _ => absurd hk (Nat.not_lt_zero _)
  | k + 1, a, hk, ha => by
    rw [lp_s]
    rcases h a ha with ⟨a', h1, h2, h3⟩ | ⟨X, h1, h2⟩
    · rw [h3]
      exact lp_wf I m P h k a' (by omega) h1
    · rw [h2]
      exact h1
theorem mRun_snoc (co f : Nat → Int32) : ∀ (n i : Nat) (st : List Int32), mRun co f i (n + 1) st = (mRun co f i n st).bind fun s => mStep f s (co (i + n))
  | 0, i, st => by
    show (mStep f st (co i)).bind (fun s => some s) = mStep f st (co (i + 0))
    cases mStep f st (co i) <;> rfl
  | n + 1, i, st => by
    show (mStep f st (co i)).bind (mRun co f (i + 1) (n + 1)) = ((mStep f st (co i)).bind (mRun co f (i + 1) n)).bind _
    cases mStep f st (co i) with
    | none => rfl
    | some s =>
      show mRun co f (i + 1) (n + 1) s = (mRun co f (i + 1) n s).bind _
      rw [mRun_snoc co f n (i + 1) s, show i + 1 + n = i + (n + 1) by omega]
theorem mRun_pre (co f : Nat → Int32) {i n : Nat} {st : List Int32} : ∀ (m : Nat) {r : List Int32}, mRun co f i (n + m) st = some r → ∃ r', mRun co f i n st = some r'
  | 0, r, h => ⟨r, h⟩
  | m + 1, r, h => by
    rw [show n + (m + 1) = (n + m) + 1 by omega, mRun_snoc] at h
    cases h2 : mRun co f i (n + m) st with
    | none => rw [h2] at h; cases h
    | some r2 => exact mRun_pre co f m h2
def stk (g : Nat → Int32) : List Int32 → Prop
  | [] => True
  | x :: l => g l.length = x ∧ stk g l
theorem stk_upd {g : Nat → Int32} {k : Nat} {v : Int32} : ∀ {l : List Int32}, l.length ≤ k → stk g l → stk (upd g k v) l
  | [], _, _ => trivial
  | x :: l, h, hs => by
    have h2 : l.length + 1 ≤ k := h
    refine ⟨?_, stk_upd (by omega) hs.2⟩
    rw [upd_r, if_neg (by omega)]
    exact hs.1
theorem m_fact {σ : sS} {a : aK} (hm : mK (σ.1 84) a) {i : Nat} (hi : i < aN a) (h9 : aN a ≤ 9) (c : Int32) : f_X12_fact σ c (nI i) = some (mFact c (aFa a i)) := by
  obtain ⟨e1, e2, e3, e4⟩ := hm.2.1 i hi
  have e5 : σ.1 84 4 = a.1 0 1 := hm.1.2.1
  have k1 := m_its σ (i := i) (k := 1) (by omega) (by omega)
  have k2 := m_its σ (i := i) (k := 2) (by omega) (by omega)
  have k3 := m_its σ (i := i) (k := 3) (by omega) (by omega)
  rw [show 6 + 4 * i + 1 = 7 + 4 * i by omega, e2, show nI 1 = 1 from rfl] at k1
  rw [show 6 + 4 * i + 2 = 8 + 4 * i by omega, e3, show nI 2 = 2 from rfl] at k2
  rw [show 6 + 4 * i + 3 = 9 + 4 * i by omega, e4, show nI 3 = 3 from rfl] at k3
  unfold f_X12_fact mFact
  by_cases c5 : c = -5
  · subst c5
    simp [aFa]
  by_cases c4 : c = -4
  · subst c4
    rw [if_neg (by decide), if_pos rfl, k3, bd_some]
    simp [aFa]
  by_cases c3 : c = -3
  · subst c3
    rw [if_neg (by decide), if_neg (by decide), if_pos rfl, k2, bd_some]
    simp [aFa]
  by_cases c2 : c = -2
  · subst c2
    rw [if_neg (by decide), if_neg (by decide), if_neg (by decide), if_pos rfl, k1, bd_some]
    simp [aFa]
  by_cases c1 : c = -1
  · subst c1
    rw [if_neg (by decide), if_neg (by decide), if_neg (by decide), if_neg (by decide), if_pos rfl, sin_4_316, grd_true, tn_4, e5]
    simp [aFa]
  · simp only [if_neg c5, if_neg c4, if_neg c3, if_neg c2, if_neg c1]
theorem m_hold (σ : sS) (c x y : Int32) : f_X12_isHolding σ c x y = some (if mHold c x y = true then 1 else 0) := by
  unfold f_X12_isHolding mHold fj_X12_isHolding_103
  by_cases c1 : c = -21
  · subst c1
    by_cases h1 : x = 1 <;> by_cases h2 : y = 1 <;> simp [h1, h2]
  by_cases c2 : c = -13
  · subst c2
    by_cases h : y < x <;> simp [h]
  by_cases c3 : c = -12
  · subst c3
    by_cases h : x = y <;> simp [h]
  by_cases c4 : c = -11
  · subst c4
    by_cases h : x < y <;> simp [h]
  · simp only [if_neg c1, if_neg c2, if_neg c3, if_neg c4]
    by_cases h1 : x = 1 <;> by_cases h2 : y = 1 <;> simp [h1, h2]
theorem m_isSo {σ : sS} {a : aK} (hv : vK a) (hm : mK (σ.1 84) a) {i : Nat} (hi : i < aN a) {s e : Nat} (hse : s ≤ e) (he : e ≤ 200) {b : Bool} (hrun : mRun (fun k => σ.1 84 (116 + k)) (aFa a i) s (e - s) [] = some (if s = e then [] else [if b = true then 1 else 0])) (hb : s = e → b = true) : ∃ τ, f_X12_isSo σ (nI s) (nI e) (nI i) = some (if b = true then 1 else 0, τ) ∧ ∀ q, q ≠ 87 → τ.1 q = σ.1 q := by
  have h9 : aN a ≤ 9 := hv.1.1.2
  unfold f_X12_isSo fl_X12_isSo_6
  refine lp_inv (body := fb_X12_isSo_6) (I := fun j p => ∃ st, mRun (fun k => σ.1 84 (116 + k)) (aFa a i) s j [] = some st ∧ st.length ≤ j ∧ p.2 = (nI e, nI i, nI st.length, nI (s + j)) ∧ (∀ q, q ≠ 87 → p.1.1 q = σ.1 q) ∧ stk (p.1.1 87) st) (e := e - s) (P := fun r => ∃ τ, r = some (if b = true then 1 else 0, τ) ∧ ∀ q, q ≠ 87 → τ.1 q = σ.1 q) ?_ ?_ nF 0 (σ, nI e, nI i, 0, nI s) (by omega) (nF_big (by omega)) ⟨[], rfl, by simp, rfl, fun _ _ => rfl, trivial⟩
  · rintro j hj ⟨τ, y⟩ ⟨st, hst, hlen, hy, a1, a2⟩ back
    have hy2 : y = (nI e, nI i, nI st.length, nI (s + j)) := hy
    subst hy2
    have a1' : ∀ q, q ≠ 87 → τ.1 q = σ.1 q := a1
    have a2' : stk (τ.1 87) st := a2
    have hmτ : mK (τ.1 84) a := by rw [a1' 84 (by omega)]; exact hm
    have hlt : nI (s + j) < nI e := (nn_lt (by omega) (by omega)).mpr (by omega)
    have hadd : (116 : Int32) + nI (s + j) = nI (116 + (s + j)) := by rw [show (116 : Int32) = nI 116 from rfl, nI_add]
    have hin := sIn_nI (show 116 + (s + j) < 316 by omega) (show 316 < 2 ^ 31 by omega)
    have hcl := nI_clamp (show 116 + (s + j) < 2 ^ 31 by omega)
    obtain ⟨st2, hst2⟩ := mRun_pre (fun k => σ.1 84 (116 + k)) (aFa a i) (i := s) (n := j + 1) (st := []) (e - s - (j + 1)) (by rw [show j + 1 + (e - s - (j + 1)) = e - s by omega]; exact hrun)
    have hst2' := hst2
    rw [mRun_snoc, hst] at hst2'
    have hstep : mStep (aFa a i) st (σ.1 84 (116 + (s + j))) = some st2 := hst2'
    obtain ⟨c, hc⟩ : ∃ c, c = σ.1 84 (116 + (s + j)) := ⟨_, rfl⟩
    rw [← hc] at hstep
    have hcτ : τ.1 84 (116 + (s + j)) = c := by rw [a1' 84 (by omega), hc]
    have hbody : fb_X12_isSo_6 back (τ, nI e, nI i, nI st.length, nI (s + j)) = (if (-10) < c then bd (f_X12_fact τ c (nI i)) fun r21 => grd (sIn (nI st.length) 200) (pt (sI τ 87 (nI st.length).toNatClampNeg r21) fun σ23 => back (σ23, nI e, nI i, (nI st.length + 1), (nI (s + j) + 1))) else (if c = (-20) then grd (sIn (nI st.length - 1) 200) (grd (sIn (nI st.length - 1) 200) (pt (sI τ 87 (nI st.length - 1).toNatClampNeg ((1 : Int32) - (τ.1 87 (nI st.length - 1).toNatClampNeg))) fun σ18 => back (σ18, nI e, nI i, nI st.length, (nI (s + j) + 1)))) else grd (sIn ((nI st.length + (-1)) - 1) 200) (grd (sIn (nI st.length + (-1)) 200) (bd (f_X12_isHolding τ c (τ.1 87 ((nI st.length + (-1)) - 1).toNatClampNeg) (τ.1 87 (nI st.length + (-1)).toNatClampNeg)) fun r13 => (if r13 = 0 then fj_X12_isSo_121 back τ (nI e) (nI i) (nI st.length + (-1)) (nI (s + j)) ((nI st.length + (-1)) - 1) 0 else fj_X12_isSo_121 back τ (nI e) (nI i) (nI st.length + (-1)) (nI (s + j)) ((nI st.length + (-1)) - 1) 1))))) := by
      simp only [fb_X12_isSo_6, if_pos hlt, hadd, grd_of hin, pt_eq, hcl, hcτ]
    rw [hbody]
    unfold mStep at hstep
    by_cases c1 : (-10) < c
    · rw [if_pos c1] at hstep
      injection hstep with hstep
      subst hstep
      refine ⟨(sI τ 87 st.length (mFact c (aFa a i)), nI e, nI i, nI (st.length + 1), nI (s + j + 1)), ⟨_, hst2, by simp; omega, rfl, fun q hq => ?_, ?_⟩, ?_⟩
      · show (sI τ 87 st.length (mFact c (aFa a i))).1 q = _
        rw [sI_off _ _ _ _ hq]
        exact a1' q hq
      · show stk ((sI τ 87 st.length (mFact c (aFa a i))).1 87) _
        rw [sI_row]
        exact ⟨by rw [upd_r, if_pos rfl], stk_upd (Nat.le_refl _) a2'⟩
      · rw [if_pos c1, m_fact hmτ hi h9, bd_some, grd_of (sIn_nI (show st.length < 200 by omega) (by omega)), pt_eq, nI_clamp (by omega), nI_1, nI_1]
    · rw [if_neg c1] at hstep
      by_cases c2 : c = -20
      · rw [if_pos c2] at hstep
        cases st with
        | nil => cases hstep
        | cons x l =>
          have hl : l.length + 1 ≤ j := hlen
          injection hstep with hstep
          subst hstep
          have e1 : nI (x :: l).length - 1 = nI l.length := nI_pred l.length
          have gx : τ.1 87 l.length = x := a2'.1
          refine ⟨(sI τ 87 l.length (1 - x), nI e, nI i, nI (l.length + 1), nI (s + j + 1)), ⟨_, hst2, by simp; omega, rfl, fun q hq => ?_, ?_⟩, ?_⟩
          · show (sI τ 87 l.length (1 - x)).1 q = _
            rw [sI_off _ _ _ _ hq]
            exact a1' q hq
          · show stk ((sI τ 87 l.length (1 - x)).1 87) _
            rw [sI_row]
            exact ⟨by rw [upd_r, if_pos rfl], stk_upd (Nat.le_refl _) a2'.2⟩
          · rw [if_neg c1, if_pos c2, e1, grd_of (sIn_nI (show l.length < 200 by omega) (by omega)), grd_of (sIn_nI (show l.length < 200 by omega) (by omega)), pt_eq, nI_clamp (by omega), gx, nI_1]
            rfl
      · rw [if_neg c2] at hstep
        cases st with
        | nil => cases hstep
        | cons y l =>
          cases l with
          | nil => cases hstep
          | cons x l =>
            have hl : l.length + 1 + 1 ≤ j := hlen
            injection hstep with hstep
            subst hstep
            have e1 : nI (y :: x :: l).length + (-1) = nI (l.length + 1) := pk_m1 (l.length + 1)
            have e2 : nI (l.length + 1) - 1 = nI l.length := nI_pred l.length
            have gy : τ.1 87 (l.length + 1) = y := a2'.1
            have gx : τ.1 87 l.length = x := a2'.2.1
            refine ⟨(sI τ 87 l.length (if mHold c x y = true then 1 else 0), nI e, nI i, nI (l.length + 1), nI (s + j + 1)), ⟨_, hst2, by simp; omega, rfl, fun q hq => ?_, ?_⟩, ?_⟩
            · show (sI τ 87 l.length _).1 q = _
              rw [sI_off _ _ _ _ hq]
              exact a1' q hq
            · show stk ((sI τ 87 l.length _).1 87) _
              rw [sI_row]
              exact ⟨by rw [upd_r, if_pos rfl], stk_upd (Nat.le_refl _) a2'.2.2⟩
            · rw [if_neg c1, if_neg c2, e1, e2, grd_of (sIn_nI (show l.length < 200 by omega) (by omega)), grd_of (sIn_nI (show l.length + 1 < 200 by omega) (by omega)), nI_clamp (by omega), nI_clamp (by omega), gx, gy, m_hold, bd_some]
              unfold fj_X12_isSo_121
              by_cases d : mHold c x y = true
              · rw [if_pos d, if_neg (by decide), grd_of (sIn_nI (show l.length < 200 by omega) (by omega)), pt_eq, nI_clamp (by omega), nI_1]
              · rw [if_neg d, if_pos rfl, grd_of (sIn_nI (show l.length < 200 by omega) (by omega)), pt_eq, nI_clamp (by omega), nI_1]
  · rintro ⟨τ, y⟩ ⟨st, hst, hlen, hy, a1, a2⟩ back
    have hy2 : y = (nI e, nI i, nI st.length, nI (s + (e - s))) := hy
    rw [show s + (e - s) = e by omega] at hy2
    subst hy2
    have a2' : stk (τ.1 87) st := a2
    refine ⟨τ, ?_, a1⟩
    rw [hrun] at hst
    injection hst with hst
    simp only [fb_X12_isSo_6, Int32.lt_irrefl, if_false, fj_X12_isSo_128, fj_X12_isSo_143]
    by_cases c : s = e
    · rw [if_pos c] at hst
      subst hst
      rw [if_pos (show nI ([] : List Int32).length = 0 from rfl), hb c]
      rfl
    · rw [if_neg c] at hst
      subst hst
      have g0 : τ.1 87 0 = (if b = true then 1 else 0) := a2'.1
      rw [if_neg (show ¬ nI [(if b = true then (1 : Int32) else 0)].length = 0 from (by decide : ¬ nI 1 = 0)), show sIn 0 200 = true from rfl, grd_true, tn_0, g0]
      cases b
      · rw [if_neg (by decide), if_neg (by decide)]
      · rw [if_pos (by decide), if_pos (by decide)]
