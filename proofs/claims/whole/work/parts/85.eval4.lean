/-! THE RULES asked: the model, on -/
theorem asks_155 (σ : sS) (k d y : Int32) : fj_X12_asks_155 σ k d y = some (sI (sI σ 83 5 (gTw k y)) 83 6 (gGo d)) := by
  have e : ∀ z, fj_X12_asks_177 σ d z = some (sI (sI σ 83 5 z) 83 6 (gGo d)) := fun z => by
    unfold fj_X12_asks_177 fj_X12_asks_202 gGo
    rw [pt_eq]
    by_cases d2 : d = 2
    · rw [if_pos d2, pt_eq, if_pos d2]
    · by_cases d3 : d = 3
      · rw [if_neg d2, if_pos d3, pt_eq, if_neg d2, if_pos d3]
      · rw [if_neg d2, if_neg d3, pt_eq, if_neg d2, if_neg d3]
  unfold fj_X12_asks_155 fj_X12_asks_168 gTw
  by_cases k2 : k = 2
  · rw [if_pos k2, e, if_pos (Or.inl k2)]
  · by_cases k5 : k = 5
    · rw [if_neg k2, if_pos k5, e, if_pos (Or.inr k5)]
    · rw [if_neg k2, if_neg k5, e, if_neg (fun q => q.elim k2 k5)]
theorem asks_114 {σ : sS} {a : aK} (hv : vK a) (hm : mK (σ.1 84) a) {i : Nat} (hi : i < aN a) (k d f g : Int32) (hg : d = 1 → ∃ j, j < 316 ∧ f + 2 = nI j ∧ σ.1 84 j = g) : fj_X12_asks_114 σ (nI i) k f d = some (sI (sI σ 83 5 (gTw k (gPr d (a.1 4 i) g))) 83 6 (gGo d)) := by
  have h9 : aN a ≤ 9 := hv.1.1.2
  obtain ⟨e1, e2, e3, e4⟩ := hm.2.1 i hi
  have k3 := m_its σ (i := i) (k := 3) (by omega) (by omega)
  rw [show 6 + 4 * i + 3 = 9 + 4 * i by omega, e4, show nI 3 = 3 from rfl] at k3
  unfold fj_X12_asks_114 gPr
  by_cases d0 : d = 0
  · rw [if_pos d0, asks_155, if_pos d0]
  · by_cases d1 : d = 1
    · obtain ⟨j, hj, ej, eg⟩ := hg d1
      rw [if_neg d0, if_pos d1, k3, bd_some, ej, grd_of (sIn_nI hj (by omega)), nI_clamp (by omega), eg, asks_155, if_neg d0, if_pos d1]
    · rw [if_neg d0, if_neg d1, k3, bd_some, asks_155, if_neg d0, if_neg d1]
theorem m_asks {σ : sS} {a : aK} (hv : vK a) (hm : mK (σ.1 84) a) {i : Nat} (hi : i < aN a) : ∃ τ, f_X12_asks σ (nI i) = some τ ∧ τ.1 83 5 = aPr a i ∧ τ.1 83 6 = aGo a i ∧ (∀ q, q ≠ 83 → q ≠ 87 → τ.1 q = σ.1 q) ∧ ∀ j, j ≠ 5 → j ≠ 6 → τ.1 83 j = σ.1 83 j := by
  have h9 : aN a ≤ 9 := hv.1.1.2
  have h8 : a.2.length ≤ 8 := hv.2.2.2.2.1
  obtain ⟨e1, e2, e3, e4⟩ := hm.2.1 i hi
  obtain ⟨hn, ss, hs0, hs1, hs2, hs3⟩ := hm.2.2.2.2
  have k0 := m_its σ (i := i) (k := 0) (by omega) (by omega)
  rw [show 6 + 4 * i + 0 = 6 + 4 * i by omega, e1, nI_0] at k0
  unfold f_X12_asks fl_X12_asks_15
  rw [k0, bd_some]
  have fin : ∀ (τ : sS) (o : Option Nat) (f : Int32), (∀ q, q ≠ 87 → τ.1 q = σ.1 q) → aRi a i = o → (match o with | none => f = -1 | some r => f = nI (84 + 4 * r)) → ∃ τ', fj_X12_asks_98 τ (nI i) (a.1 1 i) f = some τ' ∧ τ'.1 83 5 = aPr a i ∧ τ'.1 83 6 = aGo a i ∧ (∀ q, q ≠ 83 → q ≠ 87 → τ'.1 q = σ.1 q) ∧ ∀ j, j ≠ 5 → j ≠ 6 → τ'.1 83 j = σ.1 83 j := by
    intro τ o f a1 ho hf
    have hmτ : mK (τ.1 84) a := by rw [a1 84 (by omega)]; exact hm
    have aft : ∀ x y : Int32, x = aPr a i → y = aGo a i → (sI (sI τ 83 5 x) 83 6 y).1 83 5 = aPr a i ∧ (sI (sI τ 83 5 x) 83 6 y).1 83 6 = aGo a i ∧ (∀ q, q ≠ 83 → q ≠ 87 → (sI (sI τ 83 5 x) 83 6 y).1 q = σ.1 q) ∧ ∀ j, j ≠ 5 → j ≠ 6 → (sI (sI τ 83 5 x) 83 6 y).1 83 j = σ.1 83 j := by
      intro x y hx hy
      refine ⟨?_, ?_, fun q q1 q2 => ?_, fun j j1 j2 => ?_⟩
      · rw [sI_r, if_pos rfl, if_neg (by omega), sI_same, hx]
      · rw [sI_same, hy]
      · rw [sI_off _ _ _ _ q1, sI_off _ _ _ _ q1, a1 q q2]
      · rw [sI_r, if_pos rfl, if_neg j2, sI_r, if_pos rfl, if_neg j1, a1 83 (by omega)]
    unfold fj_X12_asks_98
    cases o with
    | none =>
      have hf' : f = -1 := hf
      rw [hf', if_pos (by decide), asks_114 hv hmτ hi (a.1 1 i) (-1) (-1) 0 (fun q => absurd q (by decide))]
      exact ⟨_, rfl, aft _ _ (by unfold aPr; rw [ho]; rfl) (by unfold aGo; rw [ho]; rfl)⟩
    | some r =>
      have hf' : f = nI (84 + 4 * r) := hf
      have hr := aRi_lt ho
      obtain ⟨x, hx⟩ : ∃ x, a.2[r]? = some x := ⟨_, List.getElem?_eq_getElem hr⟩
      obtain ⟨g1, g2, g3, g4⟩ := hs3 r x hx
      have e85 : τ.1 84 (85 + 4 * r) = x.2.1 := by rw [a1 84 (by omega), g2]
      have e86 : τ.1 84 (86 + 4 * r) = x.2.2.1 := by rw [a1 84 (by omega), g3]
      have f1 : nI (84 + 4 * r) + 1 = nI (85 + 4 * r) := by rw [nI_1]; congr 1; omega
      have f2 : nI (84 + 4 * r) + 2 = nI (86 + 4 * r) := by rw [show (2 : Int32) = nI 2 from rfl, nI_add]; congr 1; omega
      rw [hf', if_neg (nI_pos (by omega)), f1, grd_of (sIn_nI (show 85 + 4 * r < 316 by omega) (by omega)), nI_clamp (by omega), e85, asks_114 hv hmτ hi (a.1 1 i) x.2.1 (nI (84 + 4 * r)) x.2.2.1 (fun _ => ⟨86 + 4 * r, by omega, f2, e86⟩)]
      refine ⟨_, rfl, aft _ _ ?_ ?_⟩
      · unfold aPr
        rw [ho]
        simp only [dOf, gOf, hx]
      · unfold aGo
        rw [ho]
        simp only [dOf, hx]
  refine lp_wf (body := fb_X12_asks_15) (I := fun p => (∀ q, q ≠ 87 → p.1.1 q = σ.1 q) ∧ ((∃ k, k ≤ a.2.length ∧ p.2 = (nI i, a.1 1 i, -1, nI (ss k), nI k) ∧ ∀ j, j < k → qRu a.2 (a.1 1 i) (aFa a i) j = false) ∨ (∃ r, aRi a i = some r ∧ p.2 = (nI i, a.1 1 i, nI (84 + 4 * r), nI (ss (r + 1)), nI (r + 1))))) (m := fun p => a.2.length + 1 - p.2.2.2.2.2.toNatClampNeg) (P := fun X => ∃ τ, X = some τ ∧ τ.1 83 5 = aPr a i ∧ τ.1 83 6 = aGo a i ∧ (∀ q, q ≠ 83 → q ≠ 87 → τ.1 q = σ.1 q) ∧ ∀ j, j ≠ 5 → j ≠ 6 → τ.1 83 j = σ.1 83 j) ?_ nF (σ, nI i, a.1 1 i, -1, 0, 0) (nF_big (by omega)) ⟨fun _ _ => rfl, Or.inl ⟨0, by omega, by rw [hs0]; rfl, fun j hj => absurd hj (Nat.not_lt_zero _)⟩⟩
  rintro ⟨τ, y⟩ ⟨a1, h⟩
  have a1' : ∀ q, q ≠ 87 → τ.1 q = σ.1 q := a1
  have hn' : τ.1 84 1 = nI a.2.length := by rw [a1' 84 (by omega)]; exact hn
  rcases h with ⟨k, hk, hy, hno⟩ | ⟨r, hr, hy⟩
  · have hy2 : y = (nI i, a.1 1 i, -1, nI (ss k), nI k) := hy
    subst hy2
    by_cases c : k < a.2.length
    · obtain ⟨x, hx⟩ : ∃ x, a.2[k]? = some x := ⟨_, List.getElem?_eq_getElem c⟩
      obtain ⟨g1, g2, g3, g4⟩ := hs3 k x hx
      obtain ⟨g4a, g4b⟩ := g4 (aFa a i)
      have h84 : ∀ j, τ.1 84 j = σ.1 84 j := fun j => by rw [a1' 84 (by omega)]
      have hmτ : mK (τ.1 84) a := by rw [a1' 84 (by omega)]; exact hm
      have hlt : nI k < nI a.2.length := (nn_lt (by omega) (by omega)).mpr c
      have v6 : (84 : Int32) + ((4 : Int32) * nI k) = nI (84 + 4 * k) := by rw [show (84 : Int32) = nI 84 from rfl, show (4 : Int32) = nI 4 from rfl, pk_mul, nI_add]
      have v60 : nI (84 + 4 * k) + 0 = nI (84 + 4 * k) := by rw [show (0 : Int32) = nI 0 from rfl, nI_add, Nat.add_zero]
      have v63 : nI (84 + 4 * k) + 3 = nI (87 + 4 * k) := by rw [show (3 : Int32) = nI 3 from rfl, nI_add]; congr 1; omega
      have i84 := sIn_nI (show 84 + 4 * k < 316 by omega) (show 316 < 2 ^ 31 by omega)
      have i87 := sIn_nI (show 87 + 4 * k < 316 by omega) (show 316 < 2 ^ 31 by omega)
      have c84 := nI_clamp (show 84 + 4 * k < 2 ^ 31 by omega)
      have c87 := nI_clamp (show 87 + 4 * k < 2 ^ 31 by omega)
      have hneg : (-1 : Int32) < 0 := by decide
      obtain ⟨υ, r1, off⟩ := m_isSo hv hmτ hi (s := ss k) (e := ss (k + 1)) (b := x.2.2.2 (aFa a i)) (hs1 k c).2 (hs2 (k + 1) (by omega)) (by rw [a1' 84 (by omega)]; exact g4a) g4b
      have hυ : ∀ q, q ≠ 87 → υ.1 q = σ.1 q := fun q hq => by rw [off q hq, a1' q hq]
      have s87 : σ.1 84 (87 + 4 * k) = nI (ss (k + 1)) := (hs1 k c).1
      have u87 : υ.1 84 (87 + 4 * k) = nI (ss (k + 1)) := by rw [hυ 84 (by omega)]; exact s87
      have hq : qRu a.2 (a.1 1 i) (aFa a i) k = (und (a.1 1 i) x.1 && x.2.2.2 (aFa a i)) := by unfold qRu; rw [hx]
      have hmeas : ∀ (τ' : sS) (f : Int32), a.2.length + 1 - (τ', nI i, a.1 1 i, f, nI (ss (k + 1)), nI (k + 1)).2.2.2.2.2.toNatClampNeg < a.2.length + 1 - (τ, nI i, a.1 1 i, (-1 : Int32), nI (ss k), nI k).2.2.2.2.2.toNatClampNeg := fun τ' f => by
        show a.2.length + 1 - (nI (k + 1)).toNatClampNeg < a.2.length + 1 - (nI k).toNatClampNeg
        rw [nI_clamp (by omega), nI_clamp (by omega)]
        omega
      left
      cases hu : und (a.1 1 i) x.1 with
      | false =>
        refine ⟨(τ, nI i, a.1 1 i, -1, nI (ss (k + 1)), nI (k + 1)), ⟨a1', Or.inl ⟨k + 1, by omega, rfl, fun j hj => ?_⟩⟩, hmeas _ _, fun back => ?_⟩
        · by_cases e : j = k
          · rw [e, hq, hu]; rfl
          · exact hno j (by omega)
        · simp only [fb_X12_asks_15, sin_1_316, grd_true, tn_1, hn', if_pos hlt, if_pos hneg, v6, pt_eq, v60, grd_of i84, c84, h84, g1, und_m, hu, bd_some, fj_X12_asks_79, fj_X12_asks_80, v63, grd_of i87, c87, s87, nI_1]
          simp
      | true =>
        cases hb : x.2.2.2 (aFa a i) with
        | false =>
          rw [hb] at r1
          refine ⟨(υ, nI i, a.1 1 i, -1, nI (ss (k + 1)), nI (k + 1)), ⟨hυ, Or.inl ⟨k + 1, by omega, rfl, fun j hj => ?_⟩⟩, hmeas _ _, fun back => ?_⟩
          · by_cases e : j = k
            · rw [e, hq, hu, hb]; rfl
            · exact hno j (by omega)
          · simp only [fb_X12_asks_15, sin_1_316, grd_true, tn_1, hn', if_pos hlt, if_pos hneg, v6, pt_eq, v60, grd_of i84, c84, h84, g1, und_m, hu, bd_some, fj_X12_asks_79, fj_X12_asks_80, v63, grd_of i87, c87, s87, r1, u87, nI_1]
            simp
        | true =>
          rw [hb] at r1
          refine ⟨(υ, nI i, a.1 1 i, nI (84 + 4 * k), nI (ss (k + 1)), nI (k + 1)), ⟨hυ, Or.inr ⟨k, ?_, rfl⟩⟩, hmeas _ _, fun back => ?_⟩
          · exact fst_is (by omega) (by omega) (by rw [hq, hu, hb]; rfl) (fun j _ hj => hno j hj)
          · simp only [fb_X12_asks_15, sin_1_316, grd_true, tn_1, hn', if_pos hlt, if_pos hneg, v6, pt_eq, v60, grd_of i84, c84, h84, g1, und_m, hu, bd_some, fj_X12_asks_79, fj_X12_asks_80, v63, grd_of i87, c87, s87, r1, u87, nI_1]
            simp
    · right
      have ek : k = a.2.length := by omega
      subst ek
      obtain ⟨τ', f1, f2⟩ := fin τ none (-1) a1' (fst_non fun j _ hj => hno j (by omega)) rfl
      refine ⟨some τ', ⟨τ', rfl, f2⟩, fun back => ?_⟩
      simp only [fb_X12_asks_15, sin_1_316, grd_true, tn_1, hn', Int32.lt_irrefl, if_false]
      exact f1
  · have hy2 : y = (nI i, a.1 1 i, nI (84 + 4 * r), nI (ss (r + 1)), nI (r + 1)) := hy
    subst hy2
    have hrl := aRi_lt hr
    right
    obtain ⟨τ', f1, f2⟩ := fin τ (some r) (nI (84 + 4 * r)) a1' hr rfl
    refine ⟨some τ', ⟨τ', rfl, f2⟩, fun back => ?_⟩
    simp only [fb_X12_asks_15, sin_1_316, grd_true, tn_1, if_neg (nI_pos (show 84 + 4 * r < 2 ^ 31 by omega))]
    split <;> exact f1
theorem m_goes {σ : sS} {a : aK} (hv : vK a) (hm : mK (σ.1 84) a) : ∃ τ, f_X12_findGoes σ = some τ ∧ (∀ q, q ≠ 83 → q ≠ 87 → q ≠ 88 → τ.1 q = σ.1 q) ∧ (∀ j, j ≠ 5 → j ≠ 6 → τ.1 83 j = σ.1 83 j) ∧ ∀ j, j < aN a → τ.1 88 j = aGo a j := by
  have h9 : aN a ≤ 9 := hv.1.1.2
  have n2 : σ.1 84 0 = nI (aN a) := hm.1.1.trans hv.1.1.1
  unfold f_X12_findGoes fl_X12_findGoes_2
  refine lp_inv (body := fb_X12_findGoes_2) (I := fun k p => p.2 = nI k ∧ (∀ q, q ≠ 83 → q ≠ 87 → q ≠ 88 → p.1.1 q = σ.1 q) ∧ (∀ j, j ≠ 5 → j ≠ 6 → p.1.1 83 j = σ.1 83 j) ∧ ∀ j, j < k → p.1.1 88 j = aGo a j) (e := aN a) (P := fun r => ∃ τ, r = some τ ∧ (∀ q, q ≠ 83 → q ≠ 87 → q ≠ 88 → τ.1 q = σ.1 q) ∧ (∀ j, j ≠ 5 → j ≠ 6 → τ.1 83 j = σ.1 83 j) ∧ ∀ j, j < aN a → τ.1 88 j = aGo a j) ?_ ?_ nF 0 (σ, 0) (by omega) (nF_big (by omega)) ⟨rfl, fun _ _ _ _ => rfl, fun _ _ _ => rfl, fun _ h => absurd h (Nat.not_lt_zero _)⟩
  · rintro i hi ⟨τ, y⟩ ⟨hy, a1, a3, a2⟩ back
    have hy2 : y = nI i := hy
    subst hy2
    have a1' : ∀ q, q ≠ 83 → q ≠ 87 → q ≠ 88 → τ.1 q = σ.1 q := a1
    have hmτ : mK (τ.1 84) a := by rw [a1' 84 (by omega) (by omega) (by omega)]; exact hm
    have hlt : nI i < nI (aN a) := (nn_lt (by omega) (by omega)).mpr hi
    have hin := sIn_nI (show i < 9 by omega) (show 9 < 2 ^ 31 by omega)
    have hcl := nI_clamp (show i < 2 ^ 31 by omega)
    obtain ⟨υ, r1, r2, r3, r4, r5⟩ := m_asks hv hmτ hi
    refine ⟨(sI υ 88 i (aGo a i), nI (i + 1)), ⟨rfl, fun q q1 q2 q3 => ?_, fun j j1 j2 => ?_, fun j hj => ?_⟩, ?_⟩
    · show (sI υ 88 i (aGo a i)).1 q = _
      rw [sI_off _ _ _ _ q3, r4 q q1 q2]
      exact a1 q q1 q2 q3
    · show (sI υ 88 i (aGo a i)).1 83 j = _
      rw [sI_off _ _ _ _ (by omega), r5 j j1 j2]
      exact a3 j j1 j2
    · show (sI υ 88 i (aGo a i)).1 88 j = _
      rw [sI_r, if_pos rfl]
      by_cases e : j = i
      · rw [if_pos e, e]
      · rw [if_neg e, r4 88 (by omega) (by omega)]
        exact a2 j (by omega)
    · simp only [fb_X12_findGoes_2, sin_0_316, grd_true, tn_0, a1' 84 (by omega) (by omega) (by omega), n2, if_pos hlt, r1, bd_some, r3, grd_of hin, hcl, pt_eq, nI_1]
  · rintro ⟨τ, y⟩ ⟨hy, a1, a3, a2⟩ back
    have hy2 : y = nI (aN a) := hy
    subst hy2
    have a1' : ∀ q, q ≠ 83 → q ≠ 87 → q ≠ 88 → τ.1 q = σ.1 q := a1
    refine ⟨τ, ?_, a1, a3, a2⟩
    simp only [fb_X12_findGoes_2, sin_0_316, grd_true, tn_0, a1' 84 (by omega) (by omega) (by omega), n2, Int32.lt_irrefl, if_false]
