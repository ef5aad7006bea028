/-! THE RULES: all of them, in both -/
def FC (σB σ : sS) : Prop := ∀ q j, ¬ (q = 45 ∧ j = 6) → ¬ (q = 46 ∧ j = 5) → ¬ (q = 50 ∧ 1 ≤ j) → ¬ (47 ≤ q ∧ q ≤ 49) → q ≠ 51 → σ.1 q j = σB.1 q j
def FB (υB υ : sS) : Prop := ∀ q j, ¬ (q = 83 ∧ 19 ≤ j ∧ j ≤ 24) → ¬ (q = 84 ∧ (j = 1 ∨ 84 ≤ j)) → υ.1 q j = υB.1 q j
def BD (b : Nat → Int32) (L N : Nat) (σB υB σ υ : sS) (t c m : Nat) (rs : List aR) : Prop :=
  (t ≤ N ∧ σ.1 45 6 = nI t ∧ σ.1 46 5 = nI rs.length ∧ rs.length ≤ 8 ∧ 2 * c ≤ plc b L t ∧ m ≤ plc b L t ∧ ∀ x ∈ rs, bt x.1 0 5 ∧ bt x.2.1 0 3 ∧ bt x.2.2.1 0 99) ∧
  (∃ ss : Nat → Nat, ss 0 = 0 ∧ ss rs.length = c ∧ (∀ r, r ≤ rs.length → σ.1 50 r = nI (ss r)) ∧ (∀ r, r < rs.length → ss r ≤ ss (r + 1)) ∧ ∀ (r : Nat) (x : aR), rs[r]? = some x → σ.1 47 r = x.1 ∧ σ.1 48 r = x.2.1 ∧ σ.1 49 r = x.2.2.1 ∧ ∀ f, (cRun (σ.1 51) f (ss r) (ss (r + 1) - ss r) 1 &&& 1 = 1 ↔ x.2.2.2 f = true)) ∧
  (∃ ss : Nat → Nat, ss 0 = 0 ∧ ss rs.length = m ∧ (∀ r, r < rs.length → υ.1 84 (87 + 4 * r) = nI (ss (r + 1)) ∧ ss r ≤ ss (r + 1)) ∧ ∀ (r : Nat) (x : aR), rs[r]? = some x → υ.1 84 (84 + 4 * r) = x.1 ∧ υ.1 84 (85 + 4 * r) = x.2.1 ∧ υ.1 84 (86 + 4 * r) = x.2.2.1 ∧ ∀ f, mRun (fun k => υ.1 84 (116 + k)) f (ss r) (ss (r + 1) - ss r) [] = some (if ss r = ss (r + 1) then [] else [if x.2.2.2 f then 1 else 0]) ∧ (ss r = ss (r + 1) → x.2.2.2 f = true)) ∧
  (υ.1 84 1 = nI rs.length ∧ MS b L υ υ t m 0) ∧ FC σB σ ∧ FB υB υ
theorem app_get {rs : List aR} {x y : aR} {r : Nat} (h : (rs ++ [x])[r]? = some y) : (r < rs.length ∧ rs[r]? = some y) ∨ (r = rs.length ∧ y = x) := by
  rcases Nat.lt_or_ge r rs.length with h2 | h2
  · rw [List.getElem?_append_left h2] at h
    exact Or.inl ⟨h2, h⟩
  · rw [List.getElem?_append_right h2] at h
    obtain ⟨n, hn⟩ : ∃ n, n = r - rs.length := ⟨_, rfl⟩
    rw [← hn] at h
    cases n with
    | zero =>
      have : x = y := Option.some.inj h
      exact Or.inr ⟨by omega, this.symm⟩
    | succ n => cases h
theorem bt_nI {k n : Nat} (h : k ≤ n) (hn : n < 1000) : bt (nI k) 0 (n : Int) := by
  have : (nI k).toInt = k := nI_toInt (by omega)
  unfold bt
  rw [this]
  omega
theorem BD_ext {b : Nat → Int32} {L N : Nat} {σB υB σ υ : sS} {t c m : Nat} {rs : List aR} (hD : BD b L N σB υB σ υ t c m rs) (h8 : rs.length < 8) {X : Option (Int32 × sS)} {Y : Option sS} (h : RU b L N rs.length σ υ t c m X Y) : (∃ τ ψ t' c' m' x, X = some (1, τ) ∧ Y = some ψ ∧ t < t' ∧ BD b L N σB υB τ ψ t' c' m' (rs ++ [x])) ∨ (∃ τ ψ t', X = some (0, τ) ∧ Y = some ψ ∧ t' ≤ N ∧ τ.1 45 6 = nI t' ∧ FC σB τ ∧ ψ.1 83 19 = nI (plc b L t') ∧ ψ.1 83 24 = 1 ∧ FB υB ψ) := by
  obtain ⟨⟨d1, d2, d3, d4, d5, d6, d7⟩, ⟨ss, s1, s2, s3, s4, s5⟩, ⟨zz, z1, z2, z3, z4⟩, ⟨n1, n2⟩, hFC, hFB⟩ := hD
  rcases h with ⟨τ, ψ, t', c', m', k, v, g, B, hX, hY, ⟨e1, e2, e3, e4, e5⟩, ⟨a1, a2, a3, a4, a5, a6, a7, a8, a9, a10, a11⟩, m1, m2, m3, m4, m5, m6, m7, m8, m9, m10, m11, m12, m13, m14, m15⟩ | ⟨τ, ψ, t', hX, hY, ⟨c1, c2, c3⟩, g1, g2, g3, g4⟩
  · have hlen : (rs ++ [((nI k, nI v, nI g, B) : aR)]).length = rs.length + 1 := by simp
    refine Or.inl ⟨τ, ψ, t', c', m', (nI k, nI v, nI g, B), hX, hY, e1, ⟨e2, a1, by rw [hlen]; exact a2, by rw [hlen]; omega, a10, m14, fun x hx => ?_⟩, ⟨fun r => if r ≤ rs.length then ss r else c', ?_, ?_, fun r hr => ?_, fun r hr => ?_, fun r x hx => ?_⟩, ⟨fun r => if r ≤ rs.length then zz r else m', ?_, ?_, fun r hr => ?_, fun r x hx => ?_⟩, ⟨by rw [hlen]; exact m6, m1, m2, m3, m4, m5, fun _ _ _ _ => rfl⟩, fun q j y1 y2 y3 y4 y5 => ?_, fun q j y1 y2 => ?_⟩
    · rcases List.mem_append.mp hx with hx | hx
      · exact d7 x hx
      · have : x = (nI k, nI v, nI g, B) := by simpa using hx
        subst this
        exact ⟨bt_nI (n := 5) e3 (by decide), bt_nI (n := 3) e4 (by decide), bt_nI (n := 99) e5 (by decide)⟩
    · show (if 0 ≤ rs.length then ss 0 else c') = 0
      rw [if_pos (Nat.zero_le _)]; exact s1
    · show (if (rs ++ [((nI k, nI v, nI g, B) : aR)]).length ≤ rs.length then ss _ else c') = c'
      rw [hlen, if_neg (by omega)]
    · show τ.1 50 r = nI (if r ≤ rs.length then ss r else c')
      rw [hlen] at hr
      by_cases e : r ≤ rs.length
      · rw [if_pos e, a8 50 r (by omega) (by omega) (by omega) (by omega) (by omega)]
        exact s3 r e
      · rw [if_neg e, show r = rs.length + 1 by omega]
        exact a3
    · show (if r ≤ rs.length then ss r else c') ≤ (if r + 1 ≤ rs.length then ss (r + 1) else c')
      rw [hlen] at hr
      rw [if_pos (show r ≤ rs.length by omega)]
      by_cases e : r + 1 ≤ rs.length
      · rw [if_pos e]; exact s4 r (by omega)
      · rw [if_neg e, show r = rs.length by omega, s2]; exact a9
    · show τ.1 47 r = x.1 ∧ τ.1 48 r = x.2.1 ∧ τ.1 49 r = x.2.2.1 ∧ ∀ f, (cRun (τ.1 51) f (if r ≤ rs.length then ss r else c') ((if r + 1 ≤ rs.length then ss (r + 1) else c') - (if r ≤ rs.length then ss r else c')) 1 &&& 1 = 1 ↔ x.2.2.2 f = true)
      rcases app_get hx with ⟨hr, hx2⟩ | ⟨hr, hx2⟩
      · obtain ⟨p1, p2, p3, p4⟩ := s5 r x hx2
        have hle := ss_le s4 (r + 1) (by omega)
        have hle2 := s4 r hr
        rw [s2] at hle
        refine ⟨by rw [a8 47 r (by omega) (by omega) (by omega) (by omega) (by omega)]; exact p1, by rw [a8 48 r (by omega) (by omega) (by omega) (by omega) (by omega)]; exact p2, by rw [a8 49 r (by omega) (by omega) (by omega) (by omega) (by omega)]; exact p3, fun f => ?_⟩
        rw [if_pos (show r ≤ rs.length by omega), if_pos (show r + 1 ≤ rs.length by omega), cRun_cg (co := σ.1 51) _ _ _ (fun j _ hj => a7 j (by omega))]
        exact p4 f
      · subst hx2
        subst hr
        refine ⟨a4, a5, a6, fun f => ?_⟩
        rw [if_pos (Nat.le_refl _), if_neg (by omega), s2]
        exact a11 f
    · show (if 0 ≤ rs.length then zz 0 else m') = 0
      rw [if_pos (Nat.zero_le _)]; exact z1
    · show (if (rs ++ [((nI k, nI v, nI g, B) : aR)]).length ≤ rs.length then zz _ else m') = m'
      rw [hlen, if_neg (by omega)]
    · show ψ.1 84 (87 + 4 * r) = nI (if r + 1 ≤ rs.length then zz (r + 1) else m') ∧ (if r ≤ rs.length then zz r else m') ≤ (if r + 1 ≤ rs.length then zz (r + 1) else m')
      rw [hlen] at hr
      rw [if_pos (show r ≤ rs.length by omega)]
      by_cases e : r + 1 ≤ rs.length
      · rw [if_pos e, m12 84 _ (by omega) (by omega)]
        exact z3 r (by omega)
      · have hr2 : r = rs.length := by omega
        rw [if_neg e, hr2, z2]
        exact ⟨m10, m13⟩
    · show ψ.1 84 (84 + 4 * r) = x.1 ∧ ψ.1 84 (85 + 4 * r) = x.2.1 ∧ ψ.1 84 (86 + 4 * r) = x.2.2.1 ∧ ∀ f, mRun (fun k => ψ.1 84 (116 + k)) f (if r ≤ rs.length then zz r else m') ((if r + 1 ≤ rs.length then zz (r + 1) else m') - (if r ≤ rs.length then zz r else m')) [] = some (if (if r ≤ rs.length then zz r else m') = (if r + 1 ≤ rs.length then zz (r + 1) else m') then [] else [if x.2.2.2 f then 1 else 0]) ∧ ((if r ≤ rs.length then zz r else m') = (if r + 1 ≤ rs.length then zz (r + 1) else m') → x.2.2.2 f = true)
      rcases app_get hx with ⟨hr, hx2⟩ | ⟨hr, hx2⟩
      · obtain ⟨p1, p2, p3, p4⟩ := z4 r x hx2
        have hle := ss_le (fun r hr => (z3 r hr).2) (r + 1) (show r + 1 ≤ rs.length by omega)
        have hle2 := (z3 r hr).2
        rw [z2] at hle
        refine ⟨by rw [m12 84 _ (by omega) (by omega)]; exact p1, by rw [m12 84 _ (by omega) (by omega)]; exact p2, by rw [m12 84 _ (by omega) (by omega)]; exact p3, fun f => ?_⟩
        rw [if_pos (show r ≤ rs.length by omega), if_pos (show r + 1 ≤ rs.length by omega), mRun_cg (co := fun k => υ.1 84 (116 + k)) (co' := fun k => ψ.1 84 (116 + k)) _ _ _ (fun j _ hj => m11 (116 + j) (by omega) (by omega))]
        exact p4 f
      · subst hx2
        subst hr
        refine ⟨m7, m8, m9, fun f => ?_⟩
        rw [if_pos (Nat.le_refl _), if_neg (show ¬ rs.length + 1 ≤ rs.length by omega), z2]
        exact m15 f
    · rw [a8 q j y1 y2 (by omega) (by omega) y5]
      exact hFC q j y1 y2 y3 y4 y5
    · rw [m12 q j y1 (by omega)]
      exact hFB q j y1 y2
  · refine Or.inr ⟨τ, ψ, t', hX, hY, c1, c2, fun q j y1 y2 y3 y4 y5 => ?_, g1, g3, fun q j y1 y2 => ?_⟩
    · rw [c3 q j y1 (by omega) y5]
      exact hFC q j y1 y2 y3 y4 y5
    · rw [g4 q j y1 (by omega)]
      exact hFB q j y1 y2
