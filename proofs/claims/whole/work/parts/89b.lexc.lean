/-! the class's lexer -/
theorem x_isL (σ : sS) (x : Int32) : f_X6_isLetter σ x = some (if iL x = true then 1 else 0) := by
  have t1 : (97 : Int32).toInt = 97 := rfl
  have t2 : (122 : Int32).toInt = 122 := rfl
  unfold f_X6_isLetter iL
  by_cases h1 : x < 97
  · have := i32_lt.mp h1
    rw [if_pos h1, decide_eq_false (by omega), if_neg (by decide)]
  · have h1' := mt i32_lt.mpr h1
    rw [if_neg h1]
    by_cases h2 : (122 : Int32) < x
    · have := i32_lt.mp h2
      rw [if_pos h2, decide_eq_false (by omega), if_neg (by decide)]
    · have := mt i32_lt.mpr h2
      rw [if_neg h2, decide_eq_true (by omega), if_pos rfl]
theorem x_isD (σ : sS) (x : Int32) : f_X6_isDigit σ x = some (if iD x = true then 1 else 0) := by
  have t1 : (48 : Int32).toInt = 48 := rfl
  have t2 : (57 : Int32).toInt = 57 := rfl
  unfold f_X6_isDigit iD
  by_cases h1 : x < 48
  · have := i32_lt.mp h1
    rw [if_pos h1, decide_eq_false (by omega), if_neg (by decide)]
  · have h1' := mt i32_lt.mpr h1
    rw [if_neg h1]
    by_cases h2 : (57 : Int32) < x
    · have := i32_lt.mp h2
      rw [if_pos h2, decide_eq_false (by omega), if_neg (by decide)]
    · have := mt i32_lt.mpr h2
      rw [if_neg h2, decide_eq_true (by omega), if_pos rfl]
theorem x_begins {σ : sS} {k : Nat} (hk : k < 200) : f_X6_beginsToken σ (nI k) = some (if bgn (σ.1 52) k = true then 1 else 0) := by
  have hin := sIn_nI hk (show 200 < 2 ^ 31 by omega)
  have hcl := nI_clamp (show k < 2 ^ 31 by omega)
  have hpos : ((0 : Int32) < nI k) ↔ 0 < k := nn_lt (a := 0) (b := k) (by omega) (by omega)
  have hm1 : 0 < k → nI k - 1 = nI (k - 1) := fun h => by
    have := nI_pred (k - 1)
    rwa [show k - 1 + 1 = k by omega] at this
  have e71 : ∀ x y : Int32, (x = 0 ∨ x = 1) → (y = 0 ∨ y = 1) → fj_X6_beginsToken_71 σ (nI k) x y = some (if (!decide (σ.1 52 k = 32) && (decide (x = 0) && decide (y = 0))) = true then 1 else 0) := fun x y hx hy => by
    unfold fj_X6_beginsToken_71
    rw [grd_of hin, hcl]
    by_cases c : σ.1 52 k = 32
    · simp [c]
    · rcases hx with e | e <;> rcases hy with f | f <;> subst e f <;> simp [c]
  have e35 : ∀ x : Int32, (x = 0 ∨ x = 1) → fj_X6_beginsToken_35 σ (nI k) x = some (if (!decide (σ.1 52 k = 32) && (decide (x = 0) && !(decide (0 < k) && (iD (σ.1 52 (k - 1)) && iD (σ.1 52 k))))) = true then 1 else 0) := fun x hx => by
    unfold fj_X6_beginsToken_35 fj_X6_beginsToken_70
    by_cases c : 0 < k
    · have hin1 := sIn_nI (show k - 1 < 200 by omega) (show 200 < 2 ^ 31 by omega)
      rw [if_pos (hpos.mpr c), hm1 c, grd_of hin1, nI_clamp (by omega), x_isD, bd_some, grd_of hin, hcl, x_isD, bd_some, decide_eq_true c, Bool.true_and, e71 x 0 hx (Or.inl rfl), e71 x 1 hx (Or.inr rfl)]
      cases iD (σ.1 52 (k - 1)) <;> cases iD (σ.1 52 k) <;> simp
    · rw [if_neg (mt hpos.mp c), e71 x 0 hx (Or.inl rfl), decide_eq_false c]
      simp
  unfold f_X6_beginsToken fj_X6_beginsToken_34 bgn
  by_cases c : 0 < k
  · have hin1 := sIn_nI (show k - 1 < 200 by omega) (show 200 < 2 ^ 31 by omega)
    rw [if_pos (hpos.mpr c), hm1 c, grd_of hin1, nI_clamp (by omega), x_isL, bd_some, grd_of hin, hcl, x_isL, bd_some, decide_eq_true c, e35 0 (Or.inl rfl), e35 1 (Or.inr rfl), decide_eq_true c]
    cases iL (σ.1 52 (k - 1)) <;> cases iL (σ.1 52 k) <;> simp
  · rw [if_neg (mt hpos.mp c), e35 0 (Or.inl rfl), decide_eq_false c]
    simp
theorem x_endOf {σ : sS} {L p : Nat} (hL : σ.1 45 1 = nI L) (hL2 : L ≤ 200) (hp : p < L) : f_X6_endOfToken σ (nI p) = some (nI (ru (σ.1 52) L p)) := by
  obtain ⟨g1, g2, g3, g4⟩ := ru_spec (b := σ.1 52) hp
  obtain ⟨e, he⟩ : ∃ e, e = ru (σ.1 52) L p := ⟨_, rfl⟩
  rw [← he] at g1 g2 g3 g4 ⊢
  unfold f_X6_endOfToken fl_X6_endOfToken_4
  rw [nI_1]
  have h := lp_for (body := fb_X6_endOfToken_4 σ) (fun k => nI (p + 1 + k)) (e - (p + 1)) (some (nI e)) (fun k hk back => by
    obtain ⟨h1, h2⟩ := g3 (p + 1 + k) (by omega) (by omega)
    have hlt : nI (p + 1 + k) < nI L := (nn_lt (by omega) (by omega)).mpr (by omega)
    simp only [fb_X6_endOfToken_4, hL, if_pos hlt, grd_of (sIn_nI (show p + 1 + k < 200 by omega) (show 200 < 2 ^ 31 by omega)), nI_clamp (show p + 1 + k < 2 ^ 31 by omega), if_neg h2, x_begins (σ := σ) (show p + 1 + k < 200 by omega), h1, bd_some, nI_1]
    rfl) (fun back => by
    rw [show p + 1 + (e - (p + 1)) = e by omega]
    by_cases c : e < L
    · have hlt : nI e < nI L := (nn_lt (by omega) (by omega)).mpr c
      have h4 := g4 c
      simp only [fb_X6_endOfToken_4, hL, if_pos hlt, grd_of (sIn_nI (show e < 200 by omega) (show 200 < 2 ^ 31 by omega)), nI_clamp (show e < 2 ^ 31 by omega), x_begins (σ := σ) (show e < 200 by omega), h4, bd_some]
      by_cases c32 : σ.1 52 e = 32
      · rw [if_pos c32]
      · rw [if_neg c32, decide_eq_false c32]
        rfl
    · have e2 : e = L := by omega
      simp only [fb_X6_endOfToken_4, hL, e2, Int32.lt_irrefl, if_false]) nF 0 (by omega) (nF_big (by omega))
  exact h
/-! the names -/
theorem ch_all : ∀ k, k < 101 → ((((sBy.getD k 0) &&& 255).toUInt32 % 65536).toInt32) = sBy.getD k 0 ∧ sNar .char (sBy.getD k 0) = true := by decide +kernel
theorem x_charAt (σ : sS) {k : Nat} (hk : k < 101) : f_J0_charAt_5068e σ (nI k) = some (sBy.getD k 0) := by
  obtain ⟨h1, h2⟩ := ch_all k hk
  have hlt : nI k < (101 : Int32) := (nn_lt (a := k) (b := 101) (by omega) (by omega)).mpr hk
  have hL1 : f_J0_isLatin1_aae02 σ = some 1 := by
    unfold f_J0_isLatin1_aae02
    rw [if_neg (by decide), if_pos rfl]
  unfold f_J0_charAt_5068e f_J1_charAt_3b067 f_J0_checkIndex_df160 f_J3_checkIndex_8e157
  rw [hL1, bd_some, if_neg (by decide), if_neg (nI_pos (by omega)), if_pos hlt, bd_some, bd_some, grd_of (sIn_nI hk (by omega)), nI_clamp (by omega), h1, grd_of h2, bd_some, grd_of h2]
theorem x_len (σ : sS) : f_J0_length_8abf5 σ = some 101 := by
  unfold f_J0_length_8abf5 f_J0_coder_7d493
  rw [if_neg (by decide), grd_of (by decide), bd_some]
  rfl
def sepP (k : Nat) : Bool := decide (k = 101) || decide (sBy.getD k 0 = 32)
def nIx : Nat → Nat
  | 0 => 0
  | k + 1 => if sepP k = true then nIx k + 1 else nIx k
def nBg : Nat → Nat
  | 0 => 0
  | k + 1 => if sepP k = true then k + 1 else nBg k
theorem nBg_le : ∀ k, nBg k ≤ k
  | 0 => Nat.le_refl _
  | k + 1 => by
    have := nBg_le k
    unfold nBg
    split <;> omega
theorem nIx_le : ∀ k, nIx k ≤ k
  | 0 => Nat.le_refl _
  | k + 1 => by
    have := nIx_le k
    unfold nIx
    split <;> omega
/-- the letters from p to e are those of the name that ends at k -/
def mtc (b : Nat → Int32) (p e k : Nat) : Bool := decide (k - nBg k = e - p) && alB (fun j => !decide (sBy.getD (nBg k + j) 0 = b (p + j))) (k - nBg k)
theorem x_nameAt {σ : sS} {p e L k : Nat} (he : e ≤ L) (hL2 : L ≤ 200) (hk : k ≤ 101) (hlen : k - nBg k = e - p) (hpe : p ≤ e) : f_X6_isNameAt σ (nI (nBg k)) (nI k) (nI p) = some (if alB (fun j => !decide (sBy.getD (nBg k + j) 0 = σ.1 52 (p + j))) (k - nBg k) = true then 1 else 0) := by
  have hle := nBg_le k
  obtain ⟨B, hB⟩ : ∃ B, B = nBg k := ⟨_, rfl⟩
  rw [← hB] at hle hlen ⊢
  unfold f_X6_isNameAt fl_X6_isNameAt_3
  have key : ∀ j, j < k - B → ∀ back, fb_X6_isNameAt_3 σ back (nI B, nI k, nI p, nI (B + j)) = (if (!decide (sBy.getD (B + j) 0 = σ.1 52 (p + j))) = true then some 0 else back (nI B, nI k, nI p, nI (B + (j + 1)))) := by
    intro j hj back
    have hlt : nI (B + j) < nI k := (nn_lt (by omega) (by omega)).mpr (by omega)
    have ix : (nI p + nI (B + j)) - nI B = nI (p + j) := by rw [nI_add, pk_sub (by omega), show p + (B + j) - B = p + j by omega]
    simp only [fb_X6_isNameAt_3, if_pos hlt, x_charAt σ (show B + j < 101 by omega), bd_some, ix, grd_of (sIn_nI (show p + j < 200 by omega) (show 200 < 2 ^ 31 by omega)), nI_clamp (show p + j < 2 ^ 31 by omega), nI_1, Nat.add_assoc]
    by_cases c : sBy.getD (B + j) 0 = σ.1 52 (p + j)
    · rw [if_pos c, decide_eq_true c]; rfl
    · rw [if_neg c, decide_eq_false c]; rfl
  have h := lp_find (body := fb_X6_isNameAt_3 σ) (fun j => (nI B, nI k, nI p, nI (B + j))) (k - B) (fun j => !decide (sBy.getD (B + j) 0 = σ.1 52 (p + j))) (fun _ => some 0) (some 1) (fun j hj hp back => by rw [key j hj, if_neg (by rw [hp]; decide)]) (fun j hj hp back => by rw [key j hj, if_pos hp]) (fun back => by
    rw [show B + (k - B) = k by omega]
    simp only [fb_X6_isNameAt_3, Int32.lt_irrefl, if_false]) nF 0 (by omega) (nF_big (by omega))
  rw [show nI B = nI (B + 0) from rfl] 
  refine h.trans ?_
  rw [Nat.sub_zero]
  cases hf : fst (fun j => !decide (sBy.getD (B + j) 0 = σ.1 52 (p + j))) (k - B) 0 with
  | none => rw [if_pos (fst_alB.mp hf)]
  | some j => rw [if_neg (fun q => by rw [fst_alB.mpr q] at hf; cases hf)]
def nmF (b : Nat → Int32) (p e : Nat) : Int32 := match fst (fun k => sepP k && mtc b p e k) 102 0 with | some k => nI (nIx k) | none => 50
theorem x_nameOf {σ : sS} {p e L : Nat} (hpe : p ≤ e) (he : e ≤ L) (hL2 : L ≤ 200) : f_X6_nameOf σ (nI p) (nI e) = some (nmF (σ.1 52) p e) := by
  unfold f_X6_nameOf fl_X6_nameOf_8
  have key : ∀ k, k < 102 → ∀ back, fb_X6_nameOf_8 σ back (nI p, nI e, nI (nIx k), nI (nBg k), nI k) = (if (sepP k && mtc (σ.1 52) p e k) = true then some (nI (nIx k)) else back (nI p, nI e, nI (nIx (k + 1)), nI (nBg (k + 1)), nI (k + 1))) := by
    intro k hk back
    have hle := nBg_le k
    have h101 : ¬ (101 : Int32) < nI k := fun g => by
      have := (nn_lt (a := 101) (b := k) (by omega) (by omega)).mp g
      omega
    have hk101 : (nI k = (101 : Int32)) ↔ k = 101 := nI_eq (b := 101) (by omega) (by omega)
    have e65 : sepP k = true → fj_X6_nameOf_65 σ back (nI p) (nI e) (nI (nIx k)) (nI k) = back (nI p, nI e, nI (nIx (k + 1)), nI (nBg (k + 1)), nI (k + 1)) := fun hs => by
      have h1 : nIx (k + 1) = nIx k + 1 := by
        show (if sepP k = true then nIx k + 1 else nIx k) = _
        rw [if_pos hs]
      have h2 : nBg (k + 1) = k + 1 := by
        show (if sepP k = true then k + 1 else nBg k) = _
        rw [if_pos hs]
      rw [h1, h2]
      unfold fj_X6_nameOf_65
      rw [nI_1, nI_1]
    have e40 : sepP k = true → fj_X6_nameOf_40 σ back (nI p) (nI e) (nI (nIx k)) (nI (nBg k)) (nI k) = (if mtc (σ.1 52) p e k = true then some (nI (nIx k)) else back (nI p, nI e, nI (nIx (k + 1)), nI (nBg (k + 1)), nI (k + 1))) := fun hs => by
      unfold fj_X6_nameOf_40 mtc
      rw [pk_sub hle, pk_sub hpe]
      have hc : (nI (k - nBg k) = nI (e - p)) ↔ k - nBg k = e - p := nI_eq (by omega) (by omega)
      by_cases c : k - nBg k = e - p
      · rw [if_pos (hc.mpr c), x_nameAt (σ := σ) he hL2 (by omega) c hpe, bd_some, e65 hs, decide_eq_true c, Bool.true_and]
        cases alB (fun j => !decide (sBy.getD (nBg k + j) 0 = σ.1 52 (p + j))) (k - nBg k) <;> simp
      · rw [if_neg (mt hc.mp c), e65 hs, decide_eq_false c, Bool.false_and, if_neg (by decide)]
    simp only [fb_X6_nameOf_8, x_len, bd_some, if_neg h101, hk101]
    by_cases c1 : k = 101
    · have hs : sepP k = true := by rw [c1]; decide
      rw [if_pos c1, e40 hs, hs, Bool.true_and]
    · rw [if_neg c1, x_charAt σ (show k < 101 by omega), bd_some]
      by_cases c2 : sBy.getD k 0 = 32
      · have hs : sepP k = true := by
          unfold sepP
          rw [decide_eq_true c2, Bool.or_true]
        rw [if_pos c2, e40 hs, hs, Bool.true_and]
      · have hs : sepP k = false := by
          unfold sepP
          rw [decide_eq_false c1, decide_eq_false c2]
          rfl
        have h1 : nIx (k + 1) = nIx k := by
          show (if sepP k = true then nIx k + 1 else nIx k) = _
          rw [if_neg (by rw [hs]; decide)]
        have h2 : nBg (k + 1) = nBg k := by
          show (if sepP k = true then k + 1 else nBg k) = _
          rw [if_neg (by rw [hs]; decide)]
        rw [if_neg c2, hs, h1, h2, Bool.false_and, if_neg (by decide), nI_1]
  have h := lp_find (body := fb_X6_nameOf_8 σ) (fun k => (nI p, nI e, nI (nIx k), nI (nBg k), nI k)) 102 (fun k => sepP k && mtc (σ.1 52) p e k) (fun k => some (nI (nIx k))) (some 50) (fun k hk hp back => by rw [key k hk, if_neg (by rw [hp]; decide)]) (fun k hk hp back => by rw [key k hk, if_pos hp]) (fun back => by simp only [fb_X6_nameOf_8, x_len, bd_some, if_pos (show (101 : Int32) < nI 102 by decide)]) nF 0 (by omega) (nF_big (by omega))
  refine h.trans ?_
  rw [Nat.sub_zero]
  unfold nmF
  cases fst (fun k => sepP k && mtc (σ.1 52) p e k) 102 0 <;> rfl
/-- the number that the first k digits from p on tell -/
def nvF (b : Nat → Int32) (p : Nat) : Nat → Int32
  | 0 => 0
  | k + 1 => (((10 : Int32) * nvF b p k) + b (p + k)) - 48
def tcF (b : Nat → Int32) (L p : Nat) : Int32 := if iL (b p) = true then nmF b p (ru b L p) else if iD (b p) = true then (if 4 < ru b L p - p then 50 else (1000 : Int32) + nvF b p (ru b L p - p)) else (100 : Int32) + b p
theorem x_tokenOf {σ : sS} {L p : Nat} (hL2 : L ≤ 200) (hp : p < L) : f_X6_tokenOf σ (nI p) (nI (ru (σ.1 52) L p)) = some (tcF (σ.1 52) L p) := by
  obtain ⟨g1, g2, _, _⟩ := ru_spec (b := σ.1 52) hp
  unfold f_X6_tokenOf tcF
  obtain ⟨e, he⟩ : ∃ e, e = ru (σ.1 52) L p := ⟨_, rfl⟩
  rw [← he] at g1 g2 ⊢
  have hin := sIn_nI (show p < 200 by omega) (show 200 < 2 ^ 31 by omega)
  rw [grd_of hin, nI_clamp (by omega), x_isL, bd_some, grd_of hin, x_isD, bd_some, x_nameOf (σ := σ) (by omega) g2 hL2, bd_some, grd_of hin]
  have hnum : f_X6_numberOf σ (nI p) (nI e) = some (if 4 < e - p then 50 else (1000 : Int32) + nvF (σ.1 52) p (e - p)) := by
    unfold f_X6_numberOf fl_X6_numberOf_15
    rw [pk_sub (by omega)]
    have hc : ((4 : Int32) < nI (e - p)) ↔ 4 < e - p := nn_lt (a := 4) (b := e - p) (by omega) (by omega)
    by_cases c : 4 < e - p
    · rw [if_pos (hc.mpr c), if_pos c]
    · rw [if_neg (mt hc.mp c), if_neg c]
      refine lp_for (body := fb_X6_numberOf_15 σ) (fun k => (nI e, nvF (σ.1 52) p k, nI (p + k))) (e - p) _ ?_ ?_ nF 0 (by omega) (nF_big (by omega))
      · intro k hk back
        have hlt : nI (p + k) < nI e := (nn_lt (by omega) (by omega)).mpr (by omega)
        simp only [fb_X6_numberOf_15, if_pos hlt, grd_of (sIn_nI (show p + k < 200 by omega) (show 200 < 2 ^ 31 by omega)), nI_clamp (show p + k < 2 ^ 31 by omega), pt_eq, nI_1]
        rfl
      · intro back
        rw [show p + (e - p) = e by omega]
        simp only [fb_X6_numberOf_15, Int32.lt_irrefl, if_false, fj_X6_numberOf_43, pt_eq]
  rw [hnum, bd_some]
  cases iL (σ.1 52 p) <;> cases iD (σ.1 52 p) <;> simp
theorem x_split {σ : sS} {L : Nat} (hL : σ.1 45 1 = nI L) (hL2 : L ≤ 200) : ∃ τ N, f_X6_split σ = some τ ∧ (∀ q, q ≠ 45 → q ≠ 53 → q ≠ 54 → τ.1 q = σ.1 q) ∧ (∀ j, j ≠ 5 → τ.1 45 j = σ.1 45 j) ∧ τ.1 45 5 = nI N ∧ N ≤ L ∧ (∀ t, t < N → plc (σ.1 52) L t < L) ∧ plc (σ.1 52) L N = L ∧ (∀ t, t < N → τ.1 53 t = tcF (σ.1 52) L (plc (σ.1 52) L t)) ∧ τ.1 53 N = 51 ∧ ∀ t, t ≤ N → τ.1 54 t = nI (plc (σ.1 52) L t) := by
  obtain ⟨b, hb⟩ : ∃ b, b = σ.1 52 := ⟨_, rfl⟩
  rw [← hb]
  unfold f_X6_split fl_X6_split_7
  rw [pt_eq]
  refine lp_inv (body := fb_X6_split_7) (I := fun k s => s.2 = nI k ∧ (∀ q, q ≠ 45 → q ≠ 53 → q ≠ 54 → s.1.1 q = σ.1 q) ∧ (∀ j, j ≠ 5 → s.1.1 45 j = σ.1 45 j) ∧ ∃ t, t ≤ k ∧ s.1.1 45 5 = nI t ∧ (∀ x, x < t → plc b L x < L ∧ plc b L x < k) ∧ k ≤ plc b L t ∧ (∀ x, x < t → s.1.1 53 x = tcF b L (plc b L x) ∧ s.1.1 54 x = nI (plc b L x))) (e := L) (P := fun X => ∃ τ N, X = some τ ∧ (∀ q, q ≠ 45 → q ≠ 53 → q ≠ 54 → τ.1 q = σ.1 q) ∧ (∀ j, j ≠ 5 → τ.1 45 j = σ.1 45 j) ∧ τ.1 45 5 = nI N ∧ N ≤ L ∧ (∀ t, t < N → plc b L t < L) ∧ plc b L N = L ∧ (∀ t, t < N → τ.1 53 t = tcF b L (plc b L t)) ∧ τ.1 53 N = 51 ∧ ∀ t, t ≤ N → τ.1 54 t = nI (plc b L t)) ?_ ?_ nF 0 (sI σ 45 5 0, 0) (by omega) (nF_big (by omega)) ⟨rfl, fun q h _ _ => sI_off _ _ _ _ h, fun j hj => by rw [sI_r, if_pos rfl, if_neg hj], 0, by omega, sI_same _ _ _ _, fun _ h => absurd h (Nat.not_lt_zero _), Nat.zero_le _, fun _ h => absurd h (Nat.not_lt_zero _)⟩
  · rintro k hk ⟨τ, y⟩ ⟨hy, a1, a2, t, a3, a4, a5, a6, a7⟩ back
    have hy2 : y = nI k := hy
    subst hy2
    have a1' : ∀ q, q ≠ 45 → q ≠ 53 → q ≠ 54 → τ.1 q = σ.1 q := a1
    have a2' : ∀ j, j ≠ 5 → τ.1 45 j = σ.1 45 j := a2
    have a4' : τ.1 45 5 = nI t := a4
    have a7' : ∀ x, x < t → τ.1 53 x = tcF b L (plc b L x) ∧ τ.1 54 x = nI (plc b L x) := a7
    have h52 : τ.1 52 = b := by rw [a1' 52 (by omega) (by omega) (by omega), hb]
    have hLτ : τ.1 45 1 = nI L := by rw [a2' 1 (by omega)]; exact hL
    have hlt : nI k < nI L := (nn_lt (by omega) (by omega)).mpr hk
    by_cases c : plc b L t = k
    · have hbg : bgn b k = true := by
        have := plc_bgn (b := b) (L := L) (t := t) (by omega)
        rwa [c] at this
      have hen := x_endOf (σ := τ) hLτ hL2 hk
      have hto := x_tokenOf (σ := τ) hL2 hk
      rw [h52] at hen hto
      have hin := sIn_nI (show t < 201 by omega) (show 201 < 2 ^ 31 by omega)
      have hcl := nI_clamp (show t < 2 ^ 31 by omega)
      obtain ⟨n1, n2, n3⟩ := plc_next (b := b) (L := L) (t := t) (by omega)
      refine ⟨(sI (sI (sI τ 53 t (tcF b L k)) 54 t (nI k)) 45 5 (nI (t + 1)), nI (k + 1)), ⟨rfl, fun q q1 q2 q3 => ?_, fun j hj => ?_, t + 1, by omega, sI_same _ _ _ _, fun x hx => ?_, by omega, fun x hx => ⟨?_, ?_⟩⟩, ?_⟩
      · show (sI (sI (sI τ 53 t _) 54 t _) 45 5 _).1 q = _
        rw [sI_off _ _ _ _ q1, sI_off _ _ _ _ q3, sI_off _ _ _ _ q2]
        exact a1' q q1 q2 q3
      · show (sI (sI (sI τ 53 t _) 54 t _) 45 5 _).1 45 j = _
        rw [sI_r, if_pos rfl, if_neg hj, sI_off _ _ _ _ (by omega), sI_off _ _ _ _ (by omega)]
        exact a2' j hj
      · by_cases e : x = t
        · rw [e, c]
          omega
        · have := a5 x (by omega)
          omega
      · show (sI (sI (sI τ 53 t _) 54 t _) 45 5 _).1 53 x = _
        rw [sI_off _ _ _ _ (by omega), sI_off _ _ _ _ (by omega), sI_r, if_pos rfl]
        by_cases e : x = t
        · rw [if_pos e, e, c]
        · rw [if_neg e]
          exact (a7' x (by omega)).1
      · show (sI (sI (sI τ 53 t _) 54 t _) 45 5 _).1 54 x = _
        rw [sI_off _ _ _ _ (by omega), sI_r, if_pos rfl]
        by_cases e : x = t
        · rw [if_pos e, e, c]
        · rw [if_neg e, sI_off _ _ _ _ (by omega)]
          exact (a7' x (by omega)).2
      · have o1 : (sI τ 53 t (tcF b L k)).1 45 5 = nI t := by rw [sI_off _ _ _ _ (by omega)]; exact a4'
        have o2 : (sI (sI τ 53 t (tcF b L k)) 54 t (nI k)).1 45 5 = nI t := by rw [sI_off _ _ _ _ (by omega)]; exact o1
        simp only [fb_X6_split_7, hLτ, if_pos hlt, x_begins (σ := τ) (show k < 200 by omega), h52, hbg, bd_some, if_true, z10, if_false, hen, hto, a4', grd_of hin, hcl, pt_eq, o1, o2, nI_1]
    · have hbg : bgn b k = false := by
        by_cases t0 : t = 0
        · subst t0
          exact plc_gap0 (L := L) (by omega)
        · have h1 := a5 (t - 1) (by omega)
          exact plc_gap (t := t - 1) h1.1 h1.2 (by rw [show t - 1 + 1 = t by omega]; omega)
      refine ⟨(τ, nI (k + 1)), ⟨rfl, a1', a2', t, by omega, a4', fun x hx => ?_, by omega, a7'⟩, ?_⟩
      · have := a5 x hx
        omega
      · simp only [fb_X6_split_7, hLτ, if_pos hlt, x_begins (σ := τ) (show k < 200 by omega), h52, hbg, bd_some, nI_1]
        rfl
  · rintro ⟨τ, y⟩ ⟨hy, a1, a2, t, a3, a4, a5, a6, a7⟩ back
    have hy2 : y = nI L := hy
    subst hy2
    have a1' : ∀ q, q ≠ 45 → q ≠ 53 → q ≠ 54 → τ.1 q = σ.1 q := a1
    have a2' : ∀ j, j ≠ 5 → τ.1 45 j = σ.1 45 j := a2
    have a4' : τ.1 45 5 = nI t := a4
    have a7' : ∀ x, x < t → τ.1 53 x = tcF b L (plc b L x) ∧ τ.1 54 x = nI (plc b L x) := a7
    have hLτ : τ.1 45 1 = nI L := by rw [a2' 1 (by omega)]; exact hL
    have hN := plc_le b L t
    have hin := sIn_nI (show t < 201 by omega) (show 201 < 2 ^ 31 by omega)
    have hcl := nI_clamp (show t < 2 ^ 31 by omega)
    have o1 : (sI τ 53 t 51).1 45 5 = nI t := by rw [sI_off _ _ _ _ (by omega)]; exact a4'
    have o2 : (sI τ 53 t 51).1 45 1 = nI L := by rw [sI_off _ _ _ _ (by omega)]; exact hLτ
    refine ⟨sI (sI τ 53 t 51) 54 t (nI L), t, ?_, fun q q1 q2 q3 => ?_, fun j hj => ?_, ?_, a3, fun x hx => (a5 x hx).1, by omega, fun x hx => ?_, ?_, fun x hx => ?_⟩
    · simp only [fb_X6_split_7, hLτ, Int32.lt_irrefl, if_false, fj_X6_split_68, a4', grd_of hin, hcl, pt_eq, o1, o2]
    · rw [sI_off _ _ _ _ q3, sI_off _ _ _ _ q2]
      exact a1' q q1 q2 q3
    · rw [sI_off _ _ _ _ (by omega), sI_off _ _ _ _ (by omega)]
      exact a2' j hj
    · rw [sI_off _ _ _ _ (by omega)]
      exact o1
    · rw [sI_off _ _ _ _ (by omega), sI_r, if_pos rfl, if_neg (by omega)]
      exact (a7' x hx).1
    · rw [sI_off _ _ _ _ (by omega), sI_same]
    · rw [sI_r, if_pos rfl]
      by_cases e : x = t
      · rw [if_pos e, e, show plc b L t = L by omega]
      · rw [if_neg e, sI_off _ _ _ _ (by omega)]
        exact (a7' x (by omega)).2
