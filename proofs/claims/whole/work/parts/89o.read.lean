/-! THE RULES: the loop over them -/
def LR (b : Nat → Int32) (L N : Nat) (σB υB : sS) (X : Option (Int32 × sS)) (Y : Option (Int32 × sS)) : Prop := (∃ τ ψ t c m rs, X = some (1, τ) ∧ Y = fj_X12_rules_60 ψ ∧ BD b L N σB υB τ ψ t c m rs) ∨ (∃ τ ψ t, X = some (0, τ) ∧ Y = fj_X12_rules_60 ψ ∧ t ≤ N ∧ τ.1 45 6 = nI t ∧ FC σB τ ∧ ψ.1 83 19 = nI (plc b L t) ∧ ψ.1 83 24 = 1 ∧ FB υB ψ)
theorem dead_loop {υ : sS} (h : υ.1 83 24 = 1) {k : Nat} (hk : 0 < k) : lp fb_X12_rules_35 k υ = fj_X12_rules_60 υ := by
  obtain ⟨k', rfl⟩ : ∃ k', k = k' + 1 := ⟨k - 1, by omega⟩
  have : ¬ υ.1 83 24 = 0 := by rw [h]; decide
  rw [lp_s]
  simp only [fb_X12_rules_35, if_neg this]
/-- what the reader stands on, before the first rule -/
def PB (b : Nat → Int32) (L N : Nat) (σB υB : sS) : Prop := σB.1 45 5 = nI N ∧ N ≤ L ∧ L ≤ 200 ∧ (∀ t, t < N → plc b L t < L) ∧ plc b L N = L ∧ (∀ t, t ≤ N → σB.1 53 t = tkn b L (plc b L t)) ∧ (∀ k, k < L → bt (b k) 0 255) ∧ MT υB b L
theorem PB_CB {b : Nat → Int32} {L N : Nat} {σB υB σ υ : sS} {t c m : Nat} {rs : List aR} (hP : PB b L N σB υB) (hD : BD b L N σB υB σ υ t c m rs) (h8 : rs.length < 8) : CB b L N rs.length σ := by
  obtain ⟨p1, p2, p3, p4, p5, p6, p7, p8⟩ := hP
  obtain ⟨⟨d1, d2, d3, d4, d5, d6, d7⟩, _, _, _, hFC, _⟩ := hD
  exact ⟨by rw [hFC 45 5 (by omega) (by omega) (by omega) (by omega) (by omega)]; exact p1, p2, p3, p4, p5, fun t ht => by rw [hFC 53 t (by omega) (by omega) (by omega) (by omega) (by omega)]; exact p6 t ht, ⟨d3, h8⟩, p7⟩
theorem PB_MT {b : Nat → Int32} {L N : Nat} {σB υB σ υ : sS} {t c m : Nat} {rs : List aR} (hP : PB b L N σB υB) (hD : BD b L N σB υB σ υ t c m rs) : MT υ b L := by
  have hF := hD.2.2.2.2.2
  have h := hP.2.2.2.2.2.2.2
  exact ⟨by rw [hF 83 18 (by omega) (by omega)]; exact h.1, fun k hk => by rw [hF 97 k (by omega) (by omega)]; exact h.2 k hk⟩
theorem read_end {b : Nat → Int32} {L N : Nat} {σB υB σ υ : sS} {t c m : Nat} {rs : List aR} (hP : PB b L N σB υB) (hD : BD b L N σB υB σ υ t c m rs) (ht : ¬ t < N) (kM : Nat) : LR b L N σB υB (fj_X6_read_50 σ) (lp fb_X12_rules_35 (kM + 1) υ) := by
  have hMT := PB_MT hP hD
  have hD2 := hD
  obtain ⟨⟨d1, d2, d3, d4, d5, d6, d7⟩, _, _, ⟨n1, n2⟩, hFC, hFB⟩ := hD
  have etN : t = N := by omega
  have h45 : σ.1 45 5 = nI N := by rw [hFC 45 5 (by omega) (by omega) (by omega) (by omega) (by omega)]; exact hP.1
  refine Or.inl ⟨σ, υ, t, c, m, rs, ?_, ?_, hD2⟩
  · unfold fj_X6_read_50
    rw [d2, h45, etN, if_pos rfl]
  · have h19 : υ.1 83 19 = nI L := by rw [n2.1, etN, hP.2.2.2.2.1]
    rw [lp_s]
    simp only [fb_X12_rules_35, if_pos n2.2.2.1, h19, hMT.1, Int32.lt_irrefl, if_false]
theorem read_sim {b : Nat → Int32} {L N : Nat} {σB υB : sS} (hP : PB b L N σB υB) : ∀ (d : Nat) {kC kM t c m : Nat} {σ υ : sS} {rs : List aR}, N - t ≤ d → d < kC → d + 1 < kM → BD b L N σB υB σ υ t c m rs → LR b L N σB υB (lp fb_X6_read_18 kC (σ, nI rs.length)) (lp fb_X12_rules_35 kM υ) := by
  intro d
  induction d with
  | zero =>
    intro kC kM t c m σ υ rs hd hkC hkM hD
    obtain ⟨kC', rfl⟩ : ∃ k, kC = k + 1 := ⟨kC - 1, by omega⟩
    obtain ⟨kM', rfl⟩ : ∃ k, kM = k + 1 := ⟨kM - 1, by omega⟩
    have he := read_end hP hD (by omega) kM'
    have h45 : σ.1 45 5 = nI N := by rw [hD.2.2.2.2.1 45 5 (by omega) (by omega) (by omega) (by omega) (by omega)]; exact hP.1
    have d2 : σ.1 45 6 = nI t := hD.1.2.1
    have htN : t = N := by have := hD.1.1; omega
    rw [lp_s]
    have : fb_X6_read_18 (lp fb_X6_read_18 kC') (σ, nI rs.length) = fj_X6_read_50 σ := by
      simp only [fb_X6_read_18, d2, h45, htN, Int32.lt_irrefl, if_false, ite_self]
    rw [this]
    exact he
  | succ d ih =>
    intro kC kM t c m σ υ rs hd hkC hkM hD
    obtain ⟨kC', rfl⟩ : ∃ k, kC = k + 1 := ⟨kC - 1, by omega⟩
    obtain ⟨kM', rfl⟩ : ∃ k, kM = k + 1 := ⟨kM - 1, by omega⟩
    have hMT := PB_MT hP hD
    have h45 : σ.1 45 5 = nI N := by rw [hD.2.2.2.2.1 45 5 (by omega) (by omega) (by omega) (by omega) (by omega)]; exact hP.1
    have hN : N ≤ 200 := by have := hP.2.1; have := hP.2.2.1; omega
    obtain ⟨d1, d2, d3, d4, d5, d6, d7⟩ := hD.1
    have hlt : nI t < nI N ↔ t < N := nn_lt (by omega) (by omega)
    have hl8 : nI rs.length < (8 : Int32) ↔ rs.length < 8 := nn_lt (a := rs.length) (b := 8) (by omega) (by omega)
    by_cases ht : t < N
    · have hpl : plc b L t < L := hP.2.2.2.1 t ht
      obtain ⟨n1, n2⟩ := hD.2.2.2.1
      have h1918 : υ.1 83 19 < υ.1 83 18 := by
        rw [n2.1, hMT.1]
        have := hP.2.2.1
        exact (nn_lt (by omega) (by omega)).mpr hpl
      by_cases h8 : rs.length < 8
      · have hB := PB_CB hP hD h8
        obtain ⟨ss, s1, s2, s3, s4, s5⟩ := hD.2.1
        have hru := rule_sim hB hMT ht d2 (show σ.1 50 rs.length = nI c by rw [s3 _ (Nat.le_refl _), s2]) n2 n1 d5 d6
        have hX : lp fb_X6_read_18 (kC' + 1) (σ, nI rs.length) = bd (f_X6_readRule σ) fun r5 => (if r5.1 = 0 then some (0, r5.2) else lp fb_X6_read_18 kC' (r5.2, nI (rs.length + 1))) := by
          rw [lp_s]
          simp only [fb_X6_read_18, if_pos (hl8.mpr h8), d2, h45, if_pos (hlt.mpr ht), nI_1]
        have hY : lp fb_X12_rules_35 (kM' + 1) υ = bd (f_X12_rule υ) fun r5 => lp fb_X12_rules_35 kM' r5 := by
          rw [lp_s]
          simp only [fb_X12_rules_35, if_pos n2.2.2.1, if_pos h1918]
        rw [hX, hY]
        rcases BD_ext hD h8 hru with ⟨τ, ψ, t', c', m', x, e1, e2, e3, e4⟩ | ⟨τ, ψ, t', e1, e2, e3, e4, e5, e6, e7, e8⟩
        · rw [e1, bd_some, if_neg one_n0, e2, bd_some]
          have := ih (kC := kC') (kM := kM') (by omega) (by omega) (by omega) e4
          rwa [show (rs ++ [x]).length = rs.length + 1 by simp] at this
        · rw [e1, bd_some, if_pos rfl, e2, bd_some, dead_loop e7 (by omega)]
          exact Or.inr ⟨τ, ψ, t', rfl, rfl, e3, e4, e5, e6, e7, e8⟩
      · -- the ninth
        have hb := hP.2.2.2.2.2.2.1
        have hL := hP.2.2.1
        obtain ⟨x, hx, hxt⟩ := tkn_val (b := b) (L := L) (p := plc b L t) hb
        have hkd := m_kindH hMT hL hb n2 hx hxt
        obtain ⟨ω, g1, g2⟩ := m_fail0 n2
        have hrl : ∃ ψ, f_X12_rule υ = some ψ ∧ MD b L υ ψ t := by
          obtain ⟨ψ, e1, e2⟩ := d_25 hMT hL hb g1 g2 (if x ≤ 5 then nI x else -1)
          refine ⟨ψ, ?_, e2⟩
          unfold f_X12_rule
          rw [hkd, bd_some]
          have g1' : sIn 1 316 = true := sIn_nI (show 1 < 316 by omega) (by omega)
          have e1' : (1 : Int32).toNatClampNeg = 1 := rfl
          rw [grd_of g1', e1', n1, if_neg (mt hl8.mp h8), e1]
          simp only [ite_self]
        obtain ⟨ψ, e1, e2⟩ := hrl
        have hX : lp fb_X6_read_18 (kC' + 1) (σ, nI rs.length) = some (0, σ) := by
          rw [lp_s]
          have hne : ¬ nI t = nI N := fun e => by have := nI_inj (by omega) (by omega) e; omega
          simp only [fb_X6_read_18, if_neg (mt hl8.mp h8), fj_X6_read_50, d2, h45, if_neg hne]
        have hY : lp fb_X12_rules_35 (kM' + 1) υ = fj_X12_rules_60 ψ := by
          rw [lp_s]
          simp only [fb_X12_rules_35, if_pos n2.2.2.1, if_pos h1918, e1, bd_some]
          exact dead_loop e2.2.2.1 (by omega)
        rw [hX, hY]
        refine Or.inr ⟨σ, ψ, t, rfl, rfl, d1, d2, hD.2.2.2.2.1, e2.1, e2.2.2.1, fun q j y1 y2 => ?_⟩
        rw [e2.2.2.2 q j y1 (by omega)]
        exact hD.2.2.2.2.2 q j y1 y2
    · have he := read_end hP hD ht kM'
      have : lp fb_X6_read_18 (kC' + 1) (σ, nI rs.length) = fj_X6_read_50 σ := by
        rw [lp_s]
        simp only [fb_X6_read_18, d2, h45, if_neg (mt hlt.mp ht), ite_self]
      rw [this]
      exact he
