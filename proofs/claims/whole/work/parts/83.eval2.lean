/-! THE RULES asked: the class -/
theorem und2 (k : Int32) : (und k 2 = true) ↔ (k = 2 ∨ k = 5) := by
  unfold und
  simp
theorem aSet_self (a : aK) (r k : Nat) : aSet a r k (a.1 r k) = a := by
  unfold aSet
  refine Prod.ext (funext fun i => funext fun j => ?_) rfl
  show (if i = r ∧ j = k then a.1 r k else a.1 i j) = a.1 i j
  by_cases h : i = r ∧ j = k
  · rw [if_pos h, h.1, h.2]
  · rw [if_neg h]
theorem pCur_r {q j : Nat} (h : pCur q j = true) : (1 ≤ q ∧ q ≤ 11) ∨ (15 ≤ q ∧ q ≤ 18) ∨ (q = 19 ∧ j = 3) ∨ (20 ≤ q ∧ q ≤ 22) := by
  unfold pCur at h
  simp at h
  omega
theorem cK_scr {σ τ : sS} {a : aK} (h : ∀ q, q ≠ 12 → q ≠ 13 → q ≠ 14 → τ.1 q = σ.1 q) (hc : cK σ a) : cK τ a := cK_of (fun q j g => by
  have := pCur_r g
  rw [h q (by omega) (by omega) (by omega)]) hc
theorem cK_ru {σ : sS} {a : aK} (hc : cK σ a) : cRu (σ.1 6 5) (σ.1 7) (σ.1 8) (σ.1 9) (σ.1 10) (σ.1 11) a.2 := hc.2.2.2.2
theorem x_does {σ : sS} {a : aK} (hv : vK a) (hc : cK σ a) (o : Option Nat) (ho : ∀ r, o = some r → r < a.2.length) {d : Int32} (hd : d ≠ -1) : f_X5_does σ (rI o) d = some (if dOf a.2 o = d then 1 else 0) := by
  have h8 : a.2.length ≤ 8 := hv.2.2.2.2.1
  obtain ⟨hn, ss, hs0, hs1, hs2, hs3⟩ := cK_ru hc
  unfold f_X5_does
  cases o with
  | none =>
    rw [if_pos (show rI none < 0 by decide), if_neg (fun q => hd q.symm)]
  | some r =>
    have hr := ho r rfl
    obtain ⟨x, hx⟩ : ∃ x, a.2[r]? = some x := ⟨_, List.getElem?_eq_getElem hr⟩
    obtain ⟨g1, g2, g3, g4⟩ := hs3 r x hx
    rw [show rI (some r) = nI r from rfl]
    rw [if_neg (nI_pos (by omega)), hn, if_pos ((nn_lt (by omega) (by omega)).mpr hr)]
    show grd (sIn (nI r) 8) (if σ.1 8 (nI r).toNatClampNeg = d then some 1 else some 0) = _
    rw [grd_of (sIn_nI (by omega) (by omega)), nI_clamp (by omega), g2]
    unfold dOf
    simp only [hx]
    split <;> rfl
theorem x_paceBy {σ : sS} {a : aK} (hv : vK a) (hc : cK σ a) (o : Option Nat) (ho : ∀ r, o = some r → r < a.2.length) : f_X5_paceBy σ (rI o) = some (gGo (dOf a.2 o)) := by
  unfold f_X5_paceBy gGo
  rw [x_does hv hc o ho (by decide), x_does hv hc o ho (by decide), bd_some]
  by_cases h2 : dOf a.2 o = 2
  · rw [if_pos h2, if_neg (by decide), if_pos h2]
  · rw [if_neg h2, if_pos rfl, bd_some, if_neg h2]
    by_cases h3 : dOf a.2 o = 3
    · rw [if_pos h3, if_neg (by decide), if_pos h3]
    · rw [if_neg h3, if_pos rfl, if_neg h3]
theorem x_priceBy {σ : sS} {a : aK} (hv : vK a) (hc : cK σ a) (o : Option Nat) (ho : ∀ r, o = some r → r < a.2.length) (p : Int32) : f_X5_priceBy σ (rI o) p = some (gPr (dOf a.2 o) p (gOf a.2 o)) := by
  have h8 : a.2.length ≤ 8 := hv.2.2.2.2.1
  obtain ⟨hn, ss, hs0, hs1, hs2, hs3⟩ := cK_ru hc
  unfold f_X5_priceBy gPr
  rw [x_does hv hc o ho (by decide), x_does hv hc o ho (by decide), bd_some]
  by_cases h2 : dOf a.2 o = 0
  · rw [if_pos h2, if_neg (by decide), if_pos h2]
  · rw [if_neg h2, if_pos rfl, bd_some, if_neg h2]
    by_cases h3 : dOf a.2 o = 1
    · rw [if_pos h3, if_neg (by decide), if_pos h3]
      cases o with
      | none => exact absurd (show (-1 : Int32) = 1 from h3) (by decide)
      | some r =>
        have hr := ho r rfl
        obtain ⟨x, hx⟩ : ∃ x, a.2[r]? = some x := ⟨_, List.getElem?_eq_getElem hr⟩
        obtain ⟨g1, g2, g3, g4⟩ := hs3 r x hx
        show grd (sIn (nI r) 8) (some (p + σ.1 9 (nI r).toNatClampNeg)) = _
        rw [grd_of (sIn_nI (by omega) (by omega)), nI_clamp (by omega), g3]
        unfold gOf
        simp only [hx]
    · rw [if_neg h3, if_pos rfl, if_neg h3]
theorem aRi_lt {a : aK} {i r : Nat} (h : aRi a i = some r) : r < a.2.length := by
  have := fst_some h
  omega
theorem x_rule {σ : sS} {a : aK} (hv : vK a) (hc : cK σ a) {i : Nat} (hi : i < aN a) (ph : Int32) : ∃ τ, f_X3_ruleWith σ (nI i) ph = some (rI (aRi (aSet a 3 i ph) i), τ) ∧ ∀ q, q ≠ 14 → τ.1 q = σ.1 q := by
  have h8 : a.2.length ≤ 8 := hv.2.2.2.2.1
  have h9 : aN a ≤ 9 := hv.1.1.2
  have hin := sIn_nI (show i < 9 by omega) (show 9 < 2 ^ 31 by omega)
  have hcl := nI_clamp (show i < 2 ^ 31 by omega)
  obtain ⟨e1, e2, e3, e4⟩ := hc.2.1 i hi
  have e5 : σ.1 1 5 = a.1 0 1 := hc.1.2.1
  obtain ⟨τ, hτ⟩ : ∃ τ, τ = sI (sI (sI (sI (sI σ 14 0 (a.1 0 1)) 14 1 (a.1 2 i)) 14 2 ph) 14 3 (a.1 4 i)) 14 4 (nI i) := ⟨_, rfl⟩
  have off : ∀ q, q ≠ 14 → τ.1 q = σ.1 q := fun q hq => by rw [hτ, sI_off _ _ _ _ hq, sI_off _ _ _ _ hq, sI_off _ _ _ _ hq, sI_off _ _ _ _ hq, sI_off _ _ _ _ hq]
  have hcτ : cK τ a := cK_scr (fun q _ _ h3 => off q h3) hc
  have hff := x_firstFor (σ := τ) (rs := a.2) h8 (cK_ru hcτ) (a.1 1 i)
  have hfa : ∀ k, k < 5 → τ.1 14 k = aFa (aSet a 3 i ph) i k := fun k hk => by
    rw [hτ]
    rcases (by omega : k = 0 ∨ k = 1 ∨ k = 2 ∨ k = 3 ∨ k = 4) with e | e | e | e | e <;> subst e <;> simp [sI_r, aFa, aSet_r]
  have hri : fst (qRu a.2 (a.1 1 i) (τ.1 14)) a.2.length 0 = aRi (aSet a 3 i ph) i := by
    unfold aRi
    rw [aSet_2, show (aSet a 3 i ph).1 1 i = a.1 1 i by rw [aSet_r, if_neg (by omega)]]
    refine fst_cg fun k _ hk => ?_
    unfold qRu
    obtain ⟨x, hx⟩ : ∃ x, a.2[k]? = some x := ⟨_, List.getElem?_eq_getElem (by omega)⟩
    rw [hx]
    show (und _ x.1 && x.2.2.2 (τ.1 14)) = (und _ x.1 && x.2.2.2 _)
    rw [cRuF_cg (cK_ru hc) hx hfa]
  refine ⟨τ, ?_, off⟩
  have o3 : ∀ (υ : sS) (k : Nat) (v : Int32), (sI υ 14 k v).1 3 = υ.1 3 := fun υ k v => sI_off _ _ _ _ (by omega)
  have o5 : ∀ (υ : sS) (k : Nat) (v : Int32), (sI υ 14 k v).1 5 = υ.1 5 := fun υ k v => sI_off _ _ _ _ (by omega)
  have o2 : ∀ (υ : sS) (k : Nat) (v : Int32), (sI υ 14 k v).1 2 = υ.1 2 := fun υ k v => sI_off _ _ _ _ (by omega)
  simp only [f_X3_ruleWith, sin_0_5, sin_1_5, sin_2_5, sin_3_5, sin_4_5, grd_true, tn_0, tn_1, tn_2, tn_3, tn_4, pt_eq, grd_of hin, hcl, o3, o5, o2, e1, e2, e4, e5]
  rw [← hτ, hff, hri]
  cases aRi (aSet a 3 i ph) i with
  | none => rw [bd_some]; rfl
  | some r => rw [bd_some]; rfl
theorem x_paceWith {σ : sS} {a : aK} (hv : vK a) (hc : cK σ a) {i : Nat} (hi : i < aN a) (ph : Int32) : ∃ τ, f_X3_paceWith σ (nI i) ph = some (aGo (aSet a 3 i ph) i, τ) ∧ ∀ q, q ≠ 14 → τ.1 q = σ.1 q := by
  obtain ⟨τ, e, off⟩ := x_rule hv hc hi ph
  refine ⟨τ, ?_, off⟩
  have hcτ : cK τ a := cK_scr (fun q _ _ h3 => off q h3) hc
  have hb := x_paceBy hv hcτ (aRi (aSet a 3 i ph) i) (fun r h => aRi_lt (a := aSet a 3 i ph) h)
  unfold f_X3_paceWith
  rw [e, bd_some]
  show bd (f_X5_paceBy τ (rI (aRi (aSet a 3 i ph) i))) _ = _
  rw [hb, bd_some]
  rfl
theorem x_ask {σ : sS} {a : aK} (hv : vK a) (hc : cK σ a) : ∃ τ, f_X3_askRules σ = some τ ∧ (∀ q, q ≠ 12 → q ≠ 13 → q ≠ 14 → τ.1 q = σ.1 q) ∧ ∀ j, j < aN a → τ.1 12 j = aGo a j ∧ τ.1 13 j = aPr a j := by
  have h9 : aN a ≤ 9 := hv.1.1.2
  have n1 : σ.1 1 4 = nI (aN a) := hc.1.1.trans hv.1.1.1
  unfold f_X3_askRules fl_X3_askRules_2
  refine lp_inv (body := fb_X3_askRules_2) (I := fun k p => p.2 = nI k ∧ (∀ q, q ≠ 12 → q ≠ 13 → q ≠ 14 → p.1.1 q = σ.1 q) ∧ ∀ j, j < k → p.1.1 12 j = aGo a j ∧ p.1.1 13 j = aPr a j) (e := aN a) (P := fun r => ∃ τ, r = some τ ∧ (∀ q, q ≠ 12 → q ≠ 13 → q ≠ 14 → τ.1 q = σ.1 q) ∧ ∀ j, j < aN a → τ.1 12 j = aGo a j ∧ τ.1 13 j = aPr a j) ?_ ?_ nF 0 (σ, 0) (by omega) (nF_big (by omega)) ⟨rfl, fun _ _ _ _ => rfl, fun _ h => absurd h (Nat.not_lt_zero _)⟩
  · rintro i hi ⟨τ, y⟩ ⟨hy, a1, a2⟩ back
    have hy2 : y = nI i := hy
    subst hy2
    have a1' : ∀ q, q ≠ 12 → q ≠ 13 → q ≠ 14 → τ.1 q = σ.1 q := a1
    have hcτ : cK τ a := cK_scr a1' hc
    obtain ⟨e1, e2, e3, e4⟩ := hcτ.2.1 i hi
    have hlt : nI i < nI (aN a) := (nn_lt (by omega) (by omega)).mpr hi
    have hin := sIn_nI (show i < 9 by omega) (show 9 < 2 ^ 31 by omega)
    have hcl := nI_clamp (show i < 2 ^ 31 by omega)
    obtain ⟨υ, r1, off⟩ := x_rule hv hcτ hi (a.1 3 i)
    rw [aSet_self] at r1
    have hcυ : cK υ a := cK_scr (fun q _ _ h3 => off q h3) hcτ
    have hp := x_paceBy hv hcυ (aRi a i) (fun r h => aRi_lt h)
    have hq := x_priceBy hv hcυ (aRi a i) (fun r h => aRi_lt h) (a.1 4 i)
    have u5 : υ.1 5 i = a.1 4 i := (hcυ.2.1 i hi).2.2.2
    have u2 : (sI υ 12 i (gGo (dOf a.2 (aRi a i)))).1 2 i = a.1 1 i := by rw [sI_off _ _ _ _ (by omega)]; exact (hcυ.2.1 i hi).1
    refine ⟨(sI (sI υ 12 i (aGo a i)) 13 i (aPr a i), nI (i + 1)), ⟨rfl, fun q q1 q2 q3 => ?_, fun j hj => ?_⟩, ?_⟩
    · show (sI (sI υ 12 i (aGo a i)) 13 i (aPr a i)).1 q = _
      rw [sI_off _ _ _ _ q2, sI_off _ _ _ _ q1, off q q3]
      exact a1 q q1 q2 q3
    · show (sI (sI υ 12 i (aGo a i)) 13 i (aPr a i)).1 12 j = _ ∧ (sI (sI υ 12 i (aGo a i)) 13 i (aPr a i)).1 13 j = _
      rw [sI_off _ _ _ _ (show (12 : Nat) ≠ 13 by omega), sI_r, if_pos rfl, sI_r, if_pos rfl, sI_off _ _ _ _ (show (13 : Nat) ≠ 12 by omega), off 12 (by omega), off 13 (by omega)]
      by_cases e : j = i
      · rw [if_pos e, if_pos e, e]
        exact ⟨rfl, rfl⟩
      · rw [if_neg e, if_neg e]
        exact a2 j (by omega)
    · simp only [fb_X3_askRules_2, a1' 1 (by omega) (by omega) (by omega), n1, if_pos hlt, grd_of hin, hcl, e3, r1, bd_some, u5, hq, hp, pt_eq, u2, und_x, fj_X3_askRules_76, nI_1]
      show _ = back (sI (sI υ 12 i (gGo (dOf a.2 (aRi a i)))) 13 i (gTw (a.1 1 i) (gPr (dOf a.2 (aRi a i)) (a.1 4 i) (gOf a.2 (aRi a i)))), nI (i + 1))
      unfold gTw
      by_cases c : a.1 1 i = 2 ∨ a.1 1 i = 5
      · rw [if_pos ((und2 _).mpr c), if_neg (by decide), if_pos c]
      · rw [if_neg (mt (und2 _).mp c), if_pos rfl, if_neg c]
  · rintro ⟨τ, y⟩ ⟨hy, a1, a2⟩ back
    have hy2 : y = nI (aN a) := hy
    subst hy2
    refine ⟨τ, ?_, a1, a2⟩
    have : τ.1 1 4 = nI (aN a) := by rw [show τ.1 1 = σ.1 1 from a1 1 (by omega) (by omega) (by omega)]; exact n1
    simp only [fb_X3_askRules_2, this, Int32.lt_irrefl, if_false]
