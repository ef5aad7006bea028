/-! names, as the model tells them apart: by a number of their letters -/
def lv (b : Nat → Int32) (k : Nat) : Nat := (b k).toNatClampNeg - 96
def wM : Nat := 36028797018963967
def wF (b : Nat → Int32) (p : Nat) : Nat → Nat
  | 0 => 0
  | n + 1 => if wM < wF b p n then wF b p n else 32 * wF b p n + lv b (p + n)
def WC (i : Nat) : Nat := [48542764, 8899173, 646190, 24389253, 394661, 16765232232, 294, 215205, 136242, 635383, 643568, 498, 1476, 14836, 12769452, 3737035, 17040997, 17376357, 492210354].getD i 0
def EN (i : Nat) : Nat := [6, 12, 17, 23, 28, 36, 39, 44, 49, 54, 59, 62, 66, 70, 76, 82, 88, 94, 101].getD i 0
def dv (k j : Nat) : Nat := (sBy.getD (nBg k + j) 0).toNatClampNeg - 96
def nW (k : Nat) : Nat → Nat
  | 0 => 0
  | n + 1 => 32 * nW k n + dv k n
theorem en_all : ∀ i, i < 19 → sepP (EN i) = true ∧ nIx (EN i) = i ∧ EN i < 102 ∧ nW (EN i) (EN i - nBg (EN i)) = WC i ∧ WC i < 20000000000 ∧ 0 < WC i := by decide +kernel
theorem en_dig : ∀ i, i < 19 → ∀ j, j < EN i - nBg (EN i) → 1 ≤ dv (EN i) j ∧ dv (EN i) j ≤ 26 ∧ sBy.getD (nBg (EN i) + j) 0 = nI (dv (EN i) j + 96) := by decide +kernel
theorem en_sep : ∀ k, k < 102 → sepP k = true → nIx k < 19 ∧ EN (nIx k) = k := by decide +kernel
theorem wc_inj : ∀ i, i < 19 → ∀ j, j < 19 → WC i = WC j → i = j := by decide +kernel
theorem iL_lv {b : Nat → Int32} {k : Nat} (h : iL (b k) = true) : 1 ≤ lv b k ∧ lv b k ≤ 26 ∧ b k = nI (lv b k + 96) := by
  unfold iL at h
  rw [decide_eq_true_eq] at h
  obtain ⟨j, h1, h2⟩ := nI_of_bt (x := b k) (n := 122) (by omega) h.2 (by omega)
  have e : lv b k = j - 96 := by unfold lv; rw [h2, nI_clamp (by omega)]
  rw [h2, nI_toInt (by omega)] at h
  rw [e]
  exact ⟨by omega, by omega, by rw [h2]; congr 1; omega⟩
theorem nW_mono (k : Nat) : ∀ n m, nW k n ≤ nW k (n + m)
  | n, 0 => Nat.le_refl _
  | n, m + 1 => by
    have h := nW_mono k n m
    show nW k n ≤ 32 * nW k (n + m) + dv k (n + m)
    omega
theorem wF_fwd {b : Nat → Int32} {p k l : Nat} : ∀ n, n ≤ l → nW k l ≤ wM → (∀ j, j < n → lv b (p + j) = dv k j) → wF b p n = nW k n
  | 0, _, _, _ => rfl
  | n + 1, hn, hM, h => by
    have ih := wF_fwd n (by omega) hM (fun j hj => h j (by omega))
    have hm := nW_mono k n (l - n)
    rw [show n + (l - n) = l by omega] at hm
    show (if wM < wF b p n then wF b p n else 32 * wF b p n + lv b (p + n)) = 32 * nW k n + dv k n
    rw [ih, if_neg (by omega), h n (by omega)]
theorem wF_bwd {b : Nat → Int32} {p k : Nat} : ∀ n l, nW k l ≤ wM → (∀ j, j < n → 1 ≤ lv b (p + j) ∧ lv b (p + j) ≤ 26) → (∀ j, j < l → 1 ≤ dv k j ∧ dv k j ≤ 26) → wF b p n = nW k l → n = l ∧ ∀ j, j < n → lv b (p + j) = dv k j
  | 0, 0, _, _, _, _ => ⟨rfl, fun _ h => absurd h (Nat.not_lt_zero _)⟩
  | 0, l + 1, _, _, hd, he => by
    have := hd l (by omega)
    have he2 : 0 = 32 * nW k l + dv k l := he
    omega
  | n + 1, 0, _, hl, _, he => by
    have := hl n (by omega)
    have he2 : (if wM < wF b p n then wF b p n else 32 * wF b p n + lv b (p + n)) = 0 := he
    split at he2 <;> omega
  | n + 1, l + 1, hM, hl, hd, he => by
    have h1 := hl n (by omega)
    have h2 := hd l (by omega)
    have he2 : (if wM < wF b p n then wF b p n else 32 * wF b p n + lv b (p + n)) = 32 * nW k l + dv k l := he
    have hM2 : 32 * nW k l + dv k l ≤ wM := hM
    by_cases c : wM < wF b p n
    · rw [if_pos c] at he2
      omega
    · rw [if_neg c] at he2
      obtain ⟨g1, g2⟩ := wF_bwd n l (by omega) (fun j hj => hl j (by omega)) (fun j hj => hd j (by omega)) (by omega)
      subst g1
      refine ⟨rfl, fun j hj => ?_⟩
      by_cases e : j = n
      · rw [e]; omega
      · exact g2 j (by omega)
theorem mtc_iff {b : Nat → Int32} {p e i : Nat} (hi : i < 19) (hpe : p ≤ e) (hl : ∀ x, p ≤ x → x < e → iL (b x) = true) : mtc b p e (EN i) = true ↔ wF b p (e - p) = WC i := by
  obtain ⟨h1, h2, h3, h4, h5, h6⟩ := en_all i hi
  have hw : WC i ≤ wM := by unfold wM; omega
  have hlet : ∀ j, j < e - p → 1 ≤ lv b (p + j) ∧ lv b (p + j) ≤ 26 ∧ b (p + j) = nI (lv b (p + j) + 96) := fun j hj => iL_lv (hl (p + j) (by omega) (by omega))
  unfold mtc
  rw [Bool.and_eq_true, decide_eq_true_eq, alB_iff]
  constructor
  · rintro ⟨g1, g2⟩
    rw [g1] at g2 h4
    rw [← h4]
    refine wF_fwd (e - p) (Nat.le_refl _) (by rw [h4]; exact hw) (fun j hj => ?_)
    have a1 := g2 j hj
    have a2 := hlet j hj
    have a3 := en_dig i hi j (by omega)
    have a4 : sBy.getD (nBg (EN i) + j) 0 = b (p + j) := by
      cases hdd : decide (sBy.getD (nBg (EN i) + j) 0 = b (p + j)) with
      | true => exact of_decide_eq_true hdd
      | false => rw [hdd] at a1; cases a1
    rw [a3.2.2, a2.2.2] at a4
    have := nI_inj (by omega) (by omega) a4
    omega
  · intro hwe
    obtain ⟨g1, g2⟩ := wF_bwd (e - p) (EN i - nBg (EN i)) (by rw [h4]; exact hw) (fun j hj => ⟨(hlet j hj).1, (hlet j hj).2.1⟩) (fun j hj => ⟨(en_dig i hi j hj).1, (en_dig i hi j hj).2.1⟩) (by rw [hwe, h4])
    refine ⟨g1.symm, fun j hj => ?_⟩
    have a2 := hlet j (by omega)
    have a3 := en_dig i hi j hj
    rw [a3.2.2, a2.2.2, g2 j (by omega), decide_eq_true rfl]
    rfl
theorem nm_iff {b : Nat → Int32} {p e i : Nat} (hi : i < 19) (hpe : p ≤ e) (hl : ∀ x, p ≤ x → x < e → iL (b x) = true) : nmF b p e = nI i ↔ wF b p (e - p) = WC i := by
  obtain ⟨h1, h2, h3, h4, h5, h6⟩ := en_all i hi
  unfold nmF
  constructor
  · intro h
    cases hf : fst (fun k => sepP k && mtc b p e k) 102 0 with
    | none =>
      rw [hf] at h
      have := nI_inj (a := 50) (b := i) (by omega) (by omega) h
      omega
    | some k =>
      rw [hf] at h
      obtain ⟨g1, g2, g3, g4⟩ := fst_some hf
      rw [Bool.and_eq_true] at g3
      obtain ⟨k1, k2⟩ := en_sep k (by omega) g3.1
      have hk : nIx k = i := nI_inj (by omega) (by omega) h
      rw [hk] at k2
      rw [← k2] at g3
      exact (mtc_iff hi hpe hl).mp g3.2
  · intro h
    have hm := (mtc_iff hi hpe hl).mpr h
    cases hf : fst (fun k => sepP k && mtc b p e k) 102 0 with
    | none =>
      have := fst_none hf (EN i) (by omega) (by omega)
      rw [h1, hm] at this
      cases this
    | some k =>
      obtain ⟨g1, g2, g3, g4⟩ := fst_some hf
      rw [Bool.and_eq_true] at g3
      obtain ⟨k1, k2⟩ := en_sep k (by omega) g3.1
      have hw := (mtc_iff k1 hpe hl).mp (by rw [k2]; exact g3.2)
      show nI (nIx k) = nI i
      rw [wc_inj (nIx k) k1 i hi (by rw [← hw, h])]
theorem nm_val {b : Nat → Int32} {p e : Nat} : ∃ i, nmF b p e = nI i ∧ (i < 19 ∨ i = 50) := by
  unfold nmF
  cases hf : fst (fun k => sepP k && mtc b p e k) 102 0 with
  | none => exact ⟨50, rfl, Or.inr rfl⟩
  | some k =>
    obtain ⟨g1, g2, g3, g4⟩ := fst_some hf
    rw [Bool.and_eq_true] at g3
    obtain ⟨k1, k2⟩ := en_sep k (by omega) g3.1
    exact ⟨nIx k, rfl, Or.inl k1⟩
/-! what kind of token -/
theorem ru_let {b : Nat → Int32} {L p : Nat} (hp : p < L) (h : iL (b p) = true) : ∀ x, p ≤ x → x < ru b L p → iL (b x) = true := fun x h1 h2 => by
  unfold ru at h2
  rw [if_pos h] at h2
  by_cases e : x = p
  · rw [e]; exact h
  · exact (stp1_spec (p := fun k => iL (b k)) (show p + 1 ≤ L by omega)).2.2.1 x (by omega) h2
theorem ru_dig {b : Nat → Int32} {L p : Nat} (hp : p < L) (h : iD (b p) = true) : ∀ x, p ≤ x → x < ru b L p → iD (b x) = true := fun x h1 h2 => by
  unfold ru at h2
  rw [if_neg (by rw [(iD_n h).1]; decide), if_pos h] at h2
  by_cases e : x = p
  · rw [e]; exact h
  · exact (stp1_spec (p := fun k => iD (b k)) (show p + 1 ≤ L by omega)).2.2.1 x (by omega) h2
theorem nv_nI {b : Nat → Int32} {p : Nat} : ∀ n, (∀ j, j < n → iD (b (p + j)) = true) → n ≤ 4 → ∃ v, v < 10 ^ n ∧ nvF b p n = nI v
  | 0, _, _ => ⟨0, by omega, rfl⟩
  | n + 1, h, h4 => by
    obtain ⟨v, hv, e⟩ := nv_nI n (fun j hj => h j (by omega)) (by omega)
    have hd := h n (by omega)
    unfold iD at hd
    rw [decide_eq_true_eq] at hd
    obtain ⟨d, hd1, hd2⟩ := nI_of_bt (x := b (p + n)) (n := 57) (by omega) hd.2 (by omega)
    rw [hd2, nI_toInt (by omega)] at hd
    have h10 : 10 ^ n ≤ 10 ^ 3 := Nat.pow_le_pow_right (by omega) (by omega)
    have e10 : (10 : Nat) ^ (n + 1) = 10 * 10 ^ n := by rw [Nat.pow_succ, Nat.mul_comm]
    refine ⟨10 * v + (d - 48), by omega, ?_⟩
    show (((10 : Int32) * nvF b p n) + b (p + n)) - 48 = _
    rw [e, hd2, show (10 : Int32) = nI 10 from rfl, pk_mul, nI_add, show (48 : Int32) = nI 48 from rfl, pk_sub (by omega)]
    congr 1
    omega
/-- the token that begins at p; the end's -/
def tkn (b : Nat → Int32) (L p : Nat) : Int32 := if p < L then tcF b L p else 51
theorem tkn_name {b : Nat → Int32} {L p i : Nat} (hb : ∀ k, k < L → bt (b k) 0 255) (hi : i < 19) : tkn b L p = nI i ↔ (p < L ∧ iL (b p) = true ∧ wF b p (ru b L p - p) = WC i) := by
  have ei : (nI i).toInt = i := nI_toInt (by omega)
  unfold tkn
  by_cases hp : p < L
  · rw [if_pos hp]
    have hr := ru_spec (b := b) hp
    unfold tcF
    by_cases c1 : iL (b p) = true
    · rw [if_pos c1]
      have := nm_iff (b := b) hi (show p ≤ ru b L p by omega) (ru_let hp c1)
      rw [this]
      exact ⟨fun h => ⟨hp, c1, h⟩, fun h => h.2.2⟩
    · rw [if_neg c1]
      refine ⟨fun h => ?_, fun h => absurd h.2.1 c1⟩
      exfalso
      by_cases c2 : iD (b p) = true
      · rw [if_pos c2] at h
        by_cases c4 : 4 < ru b L p - p
        · rw [if_pos c4] at h
          have := nI_inj (a := 50) (b := i) (by omega) (by omega) h
          omega
        · rw [if_neg c4] at h
          obtain ⟨v, hv, ev⟩ := nv_nI (b := b) (p := p) (ru b L p - p) (fun j hj => ru_dig hp c2 _ (by omega) (by omega)) (by omega)
          have hv2 : v < 10 ^ 4 := Nat.lt_of_lt_of_le hv (Nat.pow_le_pow_right (by omega) (by omega))
          rw [ev, show (1000 : Int32) = nI 1000 from rfl, nI_add] at h
          have := nI_inj (by omega) (by omega) h
          omega
      · rw [if_neg c2] at h
        have hbp := hb p hp
        unfold bt at hbp
        obtain ⟨d, hd1, hd2⟩ := nI_of_bt (x := b p) (n := 255) hbp.1 hbp.2 (by omega)
        rw [hd2, show (100 : Int32) = nI 100 from rfl, nI_add] at h
        have := nI_inj (by omega) (by omega) h
        omega
  · rw [if_neg hp]
    refine ⟨fun h => ?_, fun h => absurd h.1 hp⟩
    have := nI_inj (a := 51) (b := i) (by omega) (by omega) h
    omega
/-- a single byte that is neither a letter nor a digit -/
theorem tkn_byte {b : Nat → Int32} {L p c : Nat} (hb : ∀ k, k < L → bt (b k) 0 255) (hc1 : iL (nI c) = false) (hc2 : iD (nI c) = false) (hc : c < 256) : tkn b L p = nI (100 + c) ↔ (p < L ∧ b p = nI c) := by
  unfold tkn
  by_cases hp : p < L
  · rw [if_pos hp]
    unfold tcF
    by_cases c1 : iL (b p) = true
    · rw [if_pos c1]
      refine ⟨fun h => ?_, fun h => by rw [h.2, hc1] at c1; cases c1⟩
      obtain ⟨i, e, hi⟩ := nm_val (b := b) (p := p) (e := ru b L p)
      rw [e] at h
      have := nI_inj (by omega) (by omega) h
      omega
    · rw [if_neg c1]
      by_cases c2 : iD (b p) = true
      · rw [if_pos c2]
        refine ⟨fun h => ?_, fun h => by rw [h.2, hc2] at c2; cases c2⟩
        exfalso
        by_cases c4 : 4 < ru b L p - p
        · rw [if_pos c4] at h
          have := nI_inj (a := 50) (by omega) (by omega) h
          omega
        · rw [if_neg c4] at h
          obtain ⟨v, hv, ev⟩ := nv_nI (b := b) (p := p) (ru b L p - p) (fun j hj => ru_dig hp c2 _ (by omega) (by omega)) (by omega)
          have hv2 : v < 10 ^ 4 := Nat.lt_of_lt_of_le hv (Nat.pow_le_pow_right (by omega) (by omega))
          rw [ev, show (1000 : Int32) = nI 1000 from rfl, nI_add] at h
          have := nI_inj (by omega) (by omega) h
          omega
      · rw [if_neg c2]
        have hbp := hb p hp
        unfold bt at hbp
        obtain ⟨d, hd1, hd2⟩ := nI_of_bt (x := b p) (n := 255) hbp.1 hbp.2 (by omega)
        rw [hd2, show (100 : Int32) = nI 100 from rfl, nI_add]
        constructor
        · intro h
          have := nI_inj (by omega) (by omega) h
          exact ⟨hp, by congr 1; omega⟩
        · intro h
          have := nI_inj (by omega) (by omega) h.2
          rw [this]
  · rw [if_neg hp]
    refine ⟨fun h => ?_, fun h => absurd h.1 hp⟩
    have := nI_inj (a := 51) (by omega) (by omega) h
    omega
/-- a number of four digits at most -/
theorem tkn_num {b : Nat → Int32} {L p : Nat} (hb : ∀ k, k < L → bt (b k) 0 255) : (p < L ∧ iD (b p) = true ∧ ru b L p - p < 5 → ∃ v, v < 10000 ∧ nvF b p (ru b L p - p) = nI v ∧ tkn b L p = nI (1000 + v)) ∧ (¬ (p < L ∧ iD (b p) = true ∧ ru b L p - p < 5) → ∃ x, x < 1000 ∧ tkn b L p = nI x) := by
  constructor
  · rintro ⟨hp, c2, c5⟩
    obtain ⟨v, hv, ev⟩ := nv_nI (b := b) (p := p) (ru b L p - p) (fun j hj => ru_dig hp c2 _ (by omega) (by omega)) (by omega)
    have hv2 : v < 10 ^ 4 := Nat.lt_of_lt_of_le hv (Nat.pow_le_pow_right (by omega) (by omega))
    refine ⟨v, by omega, ev, ?_⟩
    unfold tkn tcF
    rw [if_pos hp, if_neg (by rw [(iD_n c2).1]; decide), if_pos c2, if_neg (by omega), ev, show (1000 : Int32) = nI 1000 from rfl, nI_add]
  · intro h
    unfold tkn
    by_cases hp : p < L
    · rw [if_pos hp]
      unfold tcF
      by_cases c1 : iL (b p) = true
      · rw [if_pos c1]
        obtain ⟨i, e, hi⟩ := nm_val (b := b) (p := p) (e := ru b L p)
        exact ⟨i, by omega, e⟩
      · rw [if_neg c1]
        by_cases c2 : iD (b p) = true
        · rw [if_pos c2, if_pos (Classical.byContradiction fun g => h ⟨hp, c2, by omega⟩)]
          exact ⟨50, by omega, rfl⟩
        · rw [if_neg c2]
          have hbp := hb p hp
          unfold bt at hbp
          obtain ⟨d, hd1, hd2⟩ := nI_of_bt (x := b p) (n := 255) hbp.1 hbp.2 (by omega)
          exact ⟨100 + d, by omega, by rw [hd2, show (100 : Int32) = nI 100 from rfl, nI_add]⟩
    · rw [if_neg hp]
      exact ⟨51, by omega, rfl⟩
