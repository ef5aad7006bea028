/-! keep() and again() -/
theorem cRun_cg {co co' : Nat → Int32} {f : Nat → Int32} : ∀ (n i : Nat) (an : Int32), (∀ j, i ≤ j → j < i + n → co' j = co j) → cRun co' f i n an = cRun co f i n an
  | 0, _, _, _ => rfl
  | n + 1, i, an, h => by
    unfold cRun
    rw [h i (by omega) (by omega)]
    exact cRun_cg n (i + 1) _ (fun j h1 h2 => h j (by omega) (by omega))
theorem ss_le {ss : Nat → Nat} {L : Nat} (h : ∀ r, r < L → ss r ≤ ss (r + 1)) : ∀ r, r ≤ L → ss r ≤ ss L
  | r, hr => by
    obtain ⟨d, hd⟩ : ∃ d, L = r + d := ⟨L - r, by omega⟩
    have : ∀ d, r + d ≤ L → ss r ≤ ss (r + d) := fun d => by
      induction d with
      | zero => intro _; exact Nat.le_refl _
      | succ d ih =>
        intro h2
        exact Nat.le_trans (ih (by omega)) (h (r + d) (by omega))
    rw [hd]
    exact this d (by omega)
theorem rs_lt {rs : List aR} {r : Nat} {x : aR} (h : rs[r]? = some x) : r < rs.length := by
  rcases Nat.lt_or_ge r rs.length with h2 | h2
  · exact h2
  · rw [List.getElem?_eq_none h2] at h
    cases h
theorem cRu_cg {cnt : Int32} {kd de mo st co kd' de' mo' st' co' : Nat → Int32} {rs : List aR} (hl : rs.length ≤ 8) (h1 : ∀ j, j < 8 → kd' j = kd j) (h2 : ∀ j, j < 8 → de' j = de j) (h3 : ∀ j, j < 8 → mo' j = mo j) (h4 : ∀ j, j < 9 → st' j = st j) (h5 : ∀ j, j < 100 → co' j = co j) (h : cRu cnt kd de mo st co rs) : cRu cnt kd' de' mo' st' co' rs := by
  obtain ⟨g1, ss, g2, g3, g4, g5⟩ := h
  refine ⟨g1, ss, g2, fun r hr => ?_, g4, fun r x hx => ?_⟩
  · rw [h4 r (by omega)]
    exact g3 r hr
  · have hr := rs_lt hx
    have g := g5 r x hx
    have q := (g3 (r + 1) (by omega)).2
    have q2 := g4 r hr
    rw [h1 r (by omega), h2 r (by omega), h3 r (by omega)]
    refine ⟨g.1, g.2.1, g.2.2.1, fun f => ?_⟩
    rw [cRun_cg (co := co) (co' := co') _ _ _ (fun j _ hj => h5 j (by omega))]
    exact g.2.2.2 f
theorem mRun_cg {co co' : Nat → Int32} {f : Nat → Int32} : ∀ (n i : Nat) (st : List Int32), (∀ j, i ≤ j → j < i + n → co' j = co j) → mRun co' f i n st = mRun co f i n st
  | 0, _, _, _ => rfl
  | n + 1, i, st, h => by
    unfold mRun
    rw [h i (by omega) (by omega)]
    congr 1
    funext x
    exact mRun_cg n (i + 1) x (fun j h1 h2 => h j (by omega) (by omega))
theorem mRu_cg {s s' : Nat → Int32} {rs : List aR} (hl : rs.length ≤ 8) (he : ∀ j, j < 316 → s' j = s j) (h : mRu s rs) : mRu s' rs := by
  obtain ⟨g1, ss, g2, g3, g4, g5⟩ := h
  refine ⟨by rw [he 1 (by omega)]; exact g1, ss, g2, fun r hr => ?_, g4, fun r x hx => ?_⟩
  · rw [he _ (by omega)]
    exact g3 r hr
  · have hr := rs_lt hx
    have g := g5 r x hx
    have q := g4 (r + 1) (by omega)
    have q2 := (g3 r hr).2
    rw [he _ (by omega), he _ (by omega), he _ (by omega)]
    refine ⟨g.1, g.2.1, g.2.2.1, fun f => ?_⟩
    rw [mRun_cg (co := fun k => s (116 + k)) (co' := fun k => s' (116 + k)) _ _ _ (fun j _ hj => he _ (by omega))]
    exact g.2.2.2 f
theorem mK_cg {s s' : Nat → Int32} {a : aK} (hv : vK a) (he : ∀ j, j < 316 → s' j = s j) (h : mK s a) : mK s' a := by
  have h9 : aN a ≤ 9 := hv.1.1.2
  have h8 : aM a ≤ 8 := hv.1.2.1.2
  have h6 : aP a ≤ 6 := hv.1.2.2.1.2
  obtain ⟨g1, g2, g3, g4, g5⟩ := h
  refine ⟨by rw [he 0 (by omega), he 4 (by omega), he 5 (by omega), he 2 (by omega), he 3 (by omega)]; exact g1, fun i hi => ?_, fun c hc => ?_, fun k hk => ?_, mRu_cg hv.2.2.2.2.1 he g5⟩
  · rw [he _ (by omega), he _ (by omega), he _ (by omega), he _ (by omega)]; exact g2 i hi
  · rw [he _ (by omega), he _ (by omega), he _ (by omega)]; exact g3 c hc
  · rw [he _ (by omega), he _ (by omega), he _ (by omega)]; exact g4 k hk
theorem cKr_cg {rg kd ck ph pr ch wi co ri po of tu he rb rk rd rm rs rc rg' kd' ck' ph' pr' ch' wi' co' ri' po' of' tu' he' rb' rk' rd' rm' rs' rc' : Nat → Int32} {a : aK} (hv : vK a) (a1 : rg' 4 = rg 4) (a2 : rg' 5 = rg 5) (a3 : rg' 6 = rg 6) (a4 : ch' 3 = ch 3) (a5 : po' 3 = po 3) (a6 : rb' 5 = rb 5) (b1 : ∀ j, j < 9 → kd' j = kd j) (b2 : ∀ j, j < 9 → ck' j = ck j) (b3 : ∀ j, j < 9 → ph' j = ph j) (b4 : ∀ j, j < 9 → pr' j = pr j) (c1 : ∀ j, j < 8 → wi' j = wi j) (c2 : ∀ j, j < 8 → co' j = co j) (c3 : ∀ j, j < 8 → ri' j = ri j) (d1 : ∀ j, j < 6 → of' j = of j) (d2 : ∀ j, j < 6 → tu' j = tu j) (d3 : ∀ j, j < 6 → he' j = he j) (e1 : ∀ j, j < 8 → rk' j = rk j) (e2 : ∀ j, j < 8 → rd' j = rd j) (e3 : ∀ j, j < 8 → rm' j = rm j) (e4 : ∀ j, j < 9 → rs' j = rs j) (e5 : ∀ j, j < 100 → rc' j = rc j) (h : cKr rg kd ck ph pr ch wi co ri po of tu he rb rk rd rm rs rc a) : cKr rg' kd' ck' ph' pr' ch' wi' co' ri' po' of' tu' he' rb' rk' rd' rm' rs' rc' a := by
  have h9 : aN a ≤ 9 := hv.1.1.2
  have h8 : aM a ≤ 8 := hv.1.2.1.2
  have h6 : aP a ≤ 6 := hv.1.2.2.1.2
  obtain ⟨g1, g2, g3, g4, g5⟩ := h
  refine ⟨by rw [a1, a2, a3, a4, a5]; exact g1, fun i hi => ?_, fun c hc => ?_, fun k hk => ?_, by rw [a6]; exact cRu_cg hv.2.2.2.2.1 e1 e2 e3 e4 e5 g5⟩
  · rw [b1 i (by omega), b2 i (by omega), b3 i (by omega), b4 i (by omega)]; exact g2 i hi
  · rw [c1 c (by omega), c2 c (by omega), c3 c (by omega)]; exact g3 c hc
  · rw [d1 k (by omega), d2 k (by omega), d3 k (by omega)]; exact g4 k hk
/-- the model's copying loops -/
theorem m_copy {q0 q1 : Nat} (hq : q0 ≠ q1) {body : (sS × Int32 → Option (Int32 × sS)) → sS × Int32 → Option (Int32 × sS)} {F : sS → Option (Int32 × sS)} (hb : ∀ back τ x, body back (τ, x) = (if x < 316 then grd (sIn x 316) (grd (sIn x 316) (pt (sI τ q1 x.toNatClampNeg (τ.1 q0 x.toNatClampNeg)) fun σ4 => back (σ4, (x + 1)))) else F τ)) (σ : sS) : ∃ τ, lp body nF (σ, 0) = F τ ∧ (∀ q, q ≠ q1 → τ.1 q = σ.1 q) ∧ ∀ j, j < 316 → τ.1 q1 j = σ.1 q0 j := by
  refine lp_inv (body := body) (I := fun i p => p.2 = nI i ∧ (∀ q, q ≠ q1 → p.1.1 q = σ.1 q) ∧ ∀ j, j < i → p.1.1 q1 j = σ.1 q0 j) (e := 316) (P := fun r => ∃ τ, r = F τ ∧ (∀ q, q ≠ q1 → τ.1 q = σ.1 q) ∧ ∀ j, j < 316 → τ.1 q1 j = σ.1 q0 j) ?_ ?_ nF 0 (σ, 0) (by omega) (nF_big (by omega)) ⟨rfl, fun _ _ => rfl, fun _ h => absurd h (Nat.not_lt_zero _)⟩
  · rintro i hi ⟨τ, x⟩ ⟨hx, h1, h2⟩ back
    have hx2 : x = nI i := hx
    have hlt : nI i < 316 := by
      have : (nI i < 316) ↔ i < 316 := nn_lt (a := i) (b := 316) (by omega) (by omega)
      exact this.mpr hi
    refine ⟨(sI τ q1 i (τ.1 q0 i), nI (i + 1)), ⟨rfl, fun q hq2 => ?_, fun j hj => ?_⟩, ?_⟩
    · show (sI τ q1 i (τ.1 q0 i)).1 q = _
      rw [sI_off _ _ _ _ hq2]
      exact h1 q hq2
    · show (sI τ q1 i (τ.1 q0 i)).1 q1 j = _
      rw [sI_r, if_pos rfl]
      by_cases e : j = i
      · rw [if_pos e, e]
        exact congrFun (h1 q0 hq) i
      · rw [if_neg e]
        exact h2 j (by omega)
    · rw [hb, hx2, if_pos hlt, grd_of (sIn_nI hi (by omega)), grd_of (sIn_nI hi (by omega)), pt_eq, nI_clamp (by omega), nI_1]
  · rintro ⟨τ, x⟩ ⟨hx, h1, h2⟩ back
    have hx2 : x = nI 316 := hx
    refine ⟨τ, ?_, h1, h2⟩
    rw [hb, hx2, if_neg (by decide)]
