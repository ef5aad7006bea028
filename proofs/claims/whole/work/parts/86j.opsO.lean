/-! sets -/
theorem x_chg {σ : sS} {a : aK} (hv : vK a) (hc : cK σ a) {j : Nat} (hj9 : j < 1000) (v : Int32) : f_X11_change σ (nI j) 2 v = some (if j < aN a ∧ 0 ≤ v.toInt ∧ v.toInt ≤ 11 then (a.1 3 j, sI σ 4 j v) else (-1, σ)) := by
  have h9 : aN a ≤ 9 := hv.1.1.2
  have n1 : σ.1 1 4 = nI (aN a) := hc.1.1.trans hv.1.1.1
  have ej : (nI j).toInt = j := nI_toInt (by omega)
  by_cases ci : j < aN a
  · have ci2 : 0 ≤ (nI j).toInt ∧ (nI j).toInt < aN a := by omega
    have hin := sIn_nI (show j < 9 by omega) (show 9 < 2 ^ 31 by omega)
    have hcl := nI_clamp (show j < 2 ^ 31 by omega)
    have e := hc.2.1 j ci
    by_cases cv : 0 ≤ v.toInt ∧ v.toInt ≤ 11
    · rw [if_pos ⟨ci, cv⟩]
      simp only [f_X11_change, x_has n1 h9, bd_some, if_pos ci2, z10, if_false, if_true, show ((2 : Int32) = 1) = False by simp, x_phase, if_pos cv, f_X11_replaced_b, grd_of hin, pt_eq, hcl, e.2.2.1]
    · rw [if_neg (fun q => cv q.2)]
      simp only [f_X11_change, x_has n1 h9, bd_some, if_pos ci2, z10, if_false, if_true, show ((2 : Int32) = 1) = False by simp, x_phase, if_neg cv]
  · have ci2 : ¬ (0 ≤ (nI j).toInt ∧ (nI j).toInt < aN a) := by omega
    rw [if_neg (fun q => ci q.1)]
    simp only [f_X11_change, x_has n1 h9, bd_some, if_neg ci2, if_true]
theorem m_chg {σ : sS} {a : aK} (hv : vK a) (hm : mK (σ.1 84) a) {j : Nat} (hj9 : j < 1000) (v : Int32) : f_X12_change σ (nI j) 2 v = some (if j < aN a ∧ 0 ≤ v.toInt ∧ v.toInt ≤ 11 then (a.1 3 j, sI σ 84 (8 + 4 * j) v) else (-1, σ)) := by
  have h9 : aN a ≤ 9 := hv.1.1.2
  have n2 : σ.1 84 0 = nI (aN a) := hm.1.1.trans hv.1.1.1
  have ej : (nI j).toInt = j := nI_toInt (by omega)
  by_cases ci : j < aN a
  · have ci2 : 0 ≤ (nI j).toInt ∧ (nI j).toInt < aN a := by omega
    by_cases cv : 0 ≤ v.toInt ∧ v.toInt ≤ 11
    · rw [if_pos ⟨ci, cv⟩]
      simp only [f_X12_change, m_isAn n2 h9, bd_some, if_pos ci2, z10, if_false, m_part2, if_pos cv, m_its2 hv hm ci, m_at2, grd_of (sIn_nI (show 8 + 4 * j < 316 by omega) (by omega)), pt_eq, nI_clamp (show 8 + 4 * j < 2 ^ 31 by omega)]
    · rw [if_neg (fun q => cv q.2)]
      simp only [f_X12_change, m_isAn n2 h9, bd_some, if_pos ci2, z10, if_false, m_part2, if_neg cv, if_true]
  · have ci2 : ¬ (0 ≤ (nI j).toInt ∧ (nI j).toInt < aN a) := by omega
    rw [if_neg (fun q => ci q.1)]
    simp only [f_X12_change, m_isAn n2 h9, bd_some, if_neg ci2, if_true]
/-- what has come so far -/
def okP (a : aK) (f : Nat → Int32) (j : Nat) : Bool := decide (j < aN a) && decide (0 ≤ (f j).toInt ∧ (f j).toInt ≤ 11)
def stp (a : aK) (f : Nat → Int32) : Nat → aK
  | 0 => a
  | j + 1 => if okP a f j = true then aSet (stp a f j) 3 j (f j) else stp a f j
theorem stp_n (a : aK) (f : Nat → Int32) : ∀ j, aN (stp a f j) = aN a
  | 0 => rfl
  | j + 1 => by
    have ih := stp_n a f j
    show aN (if okP a f j = true then aSet (stp a f j) 3 j (f j) else stp a f j) = _
    split
    · rw [aN_ph, ih]
    · exact ih
theorem stp_v {a : aK} (hv : vK a) (f : Nat → Int32) : ∀ j, vK (stp a f j)
  | 0 => hv
  | j + 1 => by
    have ih := stp_v hv f j
    show vK (if okP a f j = true then aSet (stp a f j) 3 j (f j) else stp a f j)
    cases h : okP a f j with
    | false => rw [if_neg (by decide)]; exact ih
    | true =>
      rw [if_pos rfl]
      unfold okP at h
      rw [Bool.and_eq_true, decide_eq_true_eq, decide_eq_true_eq] at h
      exact v_pha ih h.2
theorem stp_p {a : aK} (hv : vK a) (f : Nat → Int32) {j : Nat} (hj : j < aN a) (k : Nat) : ¬ (stp a f k).1 3 j = -1 ∧ ¬ (stp a f k).1 3 j < 0 := by
  have h := ((stp_v hv f k).2.1 j (by rw [stp_n]; exact hj)).2.2.1
  unfold bt at h
  constructor
  · intro e
    rw [e] at h
    exact absurd h.1 (by decide)
  · intro e
    have := i32_lt.mp e
    have : (0 : Int32).toInt = 0 := rfl
    omega
/-- in range -/
def inR (x : Int32) (z : Int) (j : Nat) : Bool := decide (0 ≤ x.toInt + j ∧ x.toInt + j < z)
theorem x_inR {σ : sS} {s : Nat} (hs : s < 4) {z : Int} (hz : (σ.1 71 s).toInt = z) (hz0 : 0 ≤ z) (hz40 : z ≤ 40) (x : Int32) {j : Nat} (hj : j < 1000) : f_X8_hasItem σ (nI s) (x + nI j) = some (if inR x z j = true then 1 else 0) := by
  have ej : (nI j).toInt = j := nI_toInt (by omega)
  have hx1 := Int32.le_toInt x
  have hx2 := Int32.toInt_lt x
  have e0 : (0 : Int32).toInt = 0 := rfl
  have hadd : (x + nI j).toInt = x.toInt + j ∨ (x + nI j).toInt < 0 ∧ x.toInt + j ≥ 2147483648 := by
    rw [Int32.toInt_add, ej]
    by_cases c : x.toInt + j < 2147483648
    · left
      exact Int.bmod_eq_of_le (by omega) (by omega)
    · right
      refine ⟨?_, by omega⟩
      rw [Int.bmod_def]
      split <;> omega
  unfold f_X8_hasItem inR
  rw [grd_of (sIn_nI (show s < 4 by omega) (by omega)), nI_clamp (by omega)]
  by_cases c : 0 ≤ x.toInt + j ∧ x.toInt + j < z
  · have e : (x + nI j).toInt = x.toInt + j := by omega
    rw [decide_eq_true c, if_neg (fun q => by have := i32_lt.mp q; omega), if_pos (i32_lt.mpr (by omega)), if_pos rfl]
  · rw [decide_eq_false c, if_neg (show ¬ false = true by decide)]
    by_cases d : x + nI j < 0
    · rw [if_pos d]
    · have d2 := mt i32_lt.mpr d
      rw [if_neg d, if_neg (fun q => by have := i32_lt.mp q; omega)]
theorem m_inR (σ : sS) {z : Int} (hz0 : 0 ≤ z) (hz40 : z ≤ 40) {y : Int32} (hy : y.toInt = z) (x : Int32) {j : Nat} (hj : j < 1000) : f_X12_in σ (x.toInt64 + (nI j).toInt64) 0 ((y - 1).toInt64) = some (if inR x z j = true then 1 else 0) := by
  have ej : (nI j).toInt = j := nI_toInt (by omega)
  have hx1 := Int32.le_toInt x
  have hx2 := Int32.toInt_lt x
  have e0 : (0 : Int64).toInt = 0 := rfl
  have hadd : (x.toInt64 + (nI j).toInt64).toInt = x.toInt + j := by
    rw [Int64.toInt_add, i64_of, i64_of, ej]
    exact Int.bmod_eq_of_le (by omega) (by omega)
  have hy1 : ((y - 1).toInt64).toInt = z - 1 := by
    rw [i64_of, Int32.toInt_sub, hy]
    have : (1 : Int32).toInt = 1 := rfl
    rw [this]
    exact Int.bmod_eq_of_le (by omega) (by omega)
  rw [m_in, hadd, hy1, e0]
  unfold inR
  by_cases c : 0 ≤ x.toInt + j ∧ x.toInt + j < z
  · rw [if_pos (by omega), decide_eq_true c, if_pos rfl]
  · rw [if_neg (by omega), decide_eq_false c, if_neg (by decide)]
def oJ (x : Int32) (z : Int) (n : Nat) : Option Nat := fst (fun j => !(inR x z j)) n 0
def stJ (n : Nat) (o : Option Nat) : Nat := match o with | some j => j | none => n
def anJ (a : aK) (f : Nat → Int32) (n : Nat) (o : Option Nat) : Int32 := match o with | some _ => -12 | none => nI (cN (okP a f) n)
theorem inR_0 {x : Int32} {z : Int} (hz40 : z ≤ 40) {j : Nat} (hno : ∀ k, k < j → inR x z k = true) (h : inR x z j = true) : ∃ k, x = nI k ∧ x.toInt = k ∧ k + j < 40 := by
  have h0 : inR x z 0 = true := by
    by_cases e : j = 0
    · rw [← e]; exact h
    · exact hno 0 (by omega)
  unfold inR at h0 h
  rw [decide_eq_true_eq] at h0 h
  obtain ⟨k, h1, h2⟩ := nI_of_bt (x := x) (n := 40) (by omega) (by omega) (by omega)
  have e : x.toInt = k := by rw [h2, nI_toInt (by omega)]
  exact ⟨k, h2, e, by omega⟩
theorem x_sets {σ : sS} {a : aK} (hv : vK a) (hc : cK σ a) {s : Nat} (hs : s < 4) {z : Int} (hz : (σ.1 71 s).toInt = z) (hz0 : 0 ≤ z) (hz40 : z ≤ 40) (x : Int32) {n : Nat} (hn : n ≤ 9) {f : Nat → Int32} (hf : ∀ j, j < 9 → f j = σ.1 (73 + s) (x.toInt.toNat + j)) : ∃ τ, fl_X11_sets_56 (σ, nI s, x, nI n, 0, 0) = some (anJ a f n (oJ x z n), τ) ∧ cK τ (stp a f (stJ n (oJ x z n))) ∧ ∀ q, q ≠ 4 → τ.1 q = σ.1 q := by
  unfold fl_X11_sets_56
  refine lp_wf (body := fb_X11_sets_56) (I := fun p => ∃ j, j ≤ n ∧ p.2 = (nI s, x, nI n, nI (cN (okP a f) j), nI j) ∧ (∀ k, k < j → inR x z k = true) ∧ cK p.1 (stp a f j) ∧ ∀ q, q ≠ 4 → p.1.1 q = σ.1 q) (m := fun p => 9 - p.2.2.2.2.2.toNatClampNeg) (P := fun X => ∃ τ, X = some (anJ a f n (oJ x z n), τ) ∧ cK τ (stp a f (stJ n (oJ x z n))) ∧ ∀ q, q ≠ 4 → τ.1 q = σ.1 q) ?_ nF (σ, nI s, x, nI n, 0, 0) (nF_big (by show 9 - _ < 4000; omega)) ⟨0, by omega, rfl, fun _ h => absurd h (Nat.not_lt_zero _), hc, fun _ _ => rfl⟩
  rintro ⟨τ, y⟩ ⟨j, hj, hy, hno, a2, a1⟩
  have hy2 : y = (nI s, x, nI n, nI (cN (okP a f) j), nI j) := hy
  subst hy2
  have a1' : ∀ q, q ≠ 4 → τ.1 q = σ.1 q := a1
  have a2' : cK τ (stp a f j) := a2
  by_cases c : j < n
  · have hlt : nI j < nI n := (nn_lt (by omega) (by omega)).mpr c
    have hhi := x_inR (σ := τ) hs (z := z) (by rw [a1' 71 (by omega)]; exact hz) hz0 hz40 x (j := j) (by omega)
    cases hr : inR x z j with
    | false =>
      right
      have ho : oJ x z n = some j := fst_is (by omega) (by omega) (by rw [hr]; rfl) (fun k _ hk => by rw [hno k hk]; rfl)
      rw [ho]
      refine ⟨some (-12, τ), ⟨τ, rfl, a2', a1'⟩, fun back => ?_⟩
      rw [hr] at hhi
      simp only [fb_X11_sets_56, if_pos hlt, hhi, bd_some]
      rfl
    | true =>
      left
      obtain ⟨k, k1, k2, k3⟩ := inR_0 hz40 hno hr
      have hfj : σ.1 (73 + s) (k + j) = f j := by rw [hf j (by omega), k2]; rfl
      have hfj' : τ.1 (73 + s) (k + j) = f j := by rw [a1' (73 + s) (by omega), hfj]
      have hidx : x + nI j = nI (k + j) := by rw [k1, nI_add]
      have hin := sIn_nI (show k + j < 40 by omega) (show 40 < 2 ^ 31 by omega)
      have hcl := nI_clamp (show k + j < 2 ^ 31 by omega)
      have hch := x_chg (stp_v hv f j) a2' (j := j) (by omega) (f j)
      rw [stp_n] at hch
      have hb : ∀ back, fb_X11_sets_56 back (τ, nI s, x, nI n, nI (cN (okP a f) j), nI j) = bd (f_X11_change τ (nI j) 2 (f j)) fun r12 => (if r12.1 = (-1) then back (r12.2, nI s, x, nI n, nI (cN (okP a f) j), (nI j + 1)) else back (r12.2, nI s, x, nI n, (nI (cN (okP a f) j) + 1), (nI j + 1))) := fun back => by
        rw [hr] at hhi
        simp only [fb_X11_sets_56, if_pos hlt, hhi, bd_some, if_true, z10, if_false]
        rcases (by omega : s = 0 ∨ s = 1 ∨ s = 2 ∨ s = 3) with e | e | e | e <;> subst e
        · rw [if_pos (by decide), hidx, grd_of hin, hcl, show τ.1 73 (k + j) = f j from hfj']
        · rw [if_neg (by decide), if_pos (by decide), hidx, grd_of hin, hcl, show τ.1 74 (k + j) = f j from hfj']
        · rw [if_neg (by decide), if_neg (by decide), if_pos (by decide), hidx, grd_of hin, hcl, show τ.1 75 (k + j) = f j from hfj']
        · rw [if_neg (by decide), if_neg (by decide), if_neg (by decide), if_pos (by decide), hidx, grd_of hin, hcl, show τ.1 76 (k + j) = f j from hfj']
      have hms : ∀ (τ' : sS) (v : Int32), 9 - (τ', nI s, x, nI n, v, nI (j + 1)).2.2.2.2.2.toNatClampNeg < 9 - (τ, nI s, x, nI n, nI (cN (okP a f) j), nI j).2.2.2.2.2.toNatClampNeg := fun τ' v => by
        show 9 - (nI (j + 1)).toNatClampNeg < 9 - (nI j).toNatClampNeg
        rw [nI_clamp (by omega), nI_clamp (by omega)]
        omega
      have hno' : ∀ k, k < j + 1 → inR x z k = true := fun k hk => by
        by_cases e : k = j
        · rw [e]; exact hr
        · exact hno k (by omega)
      have hcs : cN (okP a f) (j + 1) = (if okP a f j = true then cN (okP a f) j + 1 else cN (okP a f) j) := rfl
      have hst : stp a f (j + 1) = (if okP a f j = true then aSet (stp a f j) 3 j (f j) else stp a f j) := rfl
      by_cases d : j < aN a ∧ 0 ≤ (f j).toInt ∧ (f j).toInt ≤ 11
      · have hok : okP a f j = true := by unfold okP; rw [decide_eq_true d.1, decide_eq_true d.2]; rfl
        rw [if_pos d] at hch
        refine ⟨(sI τ 4 j (f j), nI s, x, nI n, nI (cN (okP a f) (j + 1)), nI (j + 1)), ⟨j + 1, by omega, rfl, hno', ?_, fun q hq => ?_⟩, hms _ _, fun back => ?_⟩
        · show cK (sI τ 4 j (f j)) _
          rw [hst, hok, if_pos rfl]
          exact c_an (r := 3) (by omega) (by omega) j (f j) a2'
        · show (sI τ 4 j (f j)).1 q = _
          rw [sI_off _ _ _ _ hq]
          exact a1' q hq
        · rw [hb, hch, bd_some]
          show (if (stp a f j).1 3 j = -1 then _ else _) = _
          rw [if_neg (stp_p hv f d.1 j).1, hcs, hok, if_pos rfl, nI_1, nI_1]
      · have hok : okP a f j = false := by
          unfold okP
          cases h1 : decide (j < aN a) with
          | false => rfl
          | true => rw [decide_eq_false (fun q => d ⟨of_decide_eq_true h1, q⟩)]; rfl
        rw [if_neg d] at hch
        refine ⟨(τ, nI s, x, nI n, nI (cN (okP a f) (j + 1)), nI (j + 1)), ⟨j + 1, by omega, rfl, hno', ?_, a1'⟩, hms _ _, fun back => ?_⟩
        · show cK τ _
          rw [hst, hok, if_neg (by decide)]
          exact a2'
        · rw [hb, hch, bd_some]
          show (if (-1 : Int32) = -1 then _ else _) = _
          rw [if_pos rfl, hcs, hok, if_neg (by decide), nI_1]
  · right
    have ej : j = n := by omega
    subst ej
    have ho : oJ x z j = none := fst_non fun k _ hk => by rw [hno k (by omega)]; rfl
    rw [ho]
    refine ⟨some (nI (cN (okP a f) j), τ), ⟨τ, rfl, a2', a1'⟩, fun back => ?_⟩
    simp only [fb_X11_sets_56, Int32.lt_irrefl, if_false]
theorem m_sets {σ : sS} {a : aK} (hv : vK a) (hm : mK (σ.1 84) a) {s : Nat} (hs : s < 4) {z : Int} (hz : (σ.1 99 s).toInt = z) (hz0 : 0 ≤ z) (hz40 : z ≤ 40) (x : Int32) {n : Nat} (hn : n ≤ 9) {f : Nat → Int32} (hf : ∀ j, j < 9 → x.toInt.toNat + j < 40 → f j = σ.1 100 (40 * s + (x.toInt.toNat + j))) : ∃ τ, fl_X12_sets_43 (σ, nI s, x, nI n, 0, 0) = some (anJ a f n (oJ x z n), τ) ∧ mK (τ.1 84) (stp a f (stJ n (oJ x z n))) ∧ ∀ q, q ≠ 84 → τ.1 q = σ.1 q := by
  unfold fl_X12_sets_43
  refine lp_wf (body := fb_X12_sets_43) (I := fun p => ∃ j, j ≤ n ∧ p.2 = (nI s, x, nI n, nI (cN (okP a f) j), nI j) ∧ (∀ k, k < j → inR x z k = true) ∧ mK (p.1.1 84) (stp a f j) ∧ ∀ q, q ≠ 84 → p.1.1 q = σ.1 q) (m := fun p => 9 - p.2.2.2.2.2.toNatClampNeg) (P := fun X => ∃ τ, X = some (anJ a f n (oJ x z n), τ) ∧ mK (τ.1 84) (stp a f (stJ n (oJ x z n))) ∧ ∀ q, q ≠ 84 → τ.1 q = σ.1 q) ?_ nF (σ, nI s, x, nI n, 0, 0) (nF_big (by show 9 - _ < 4000; omega)) ⟨0, by omega, rfl, fun _ h => absurd h (Nat.not_lt_zero _), hm, fun _ _ => rfl⟩
  rintro ⟨τ, y⟩ ⟨j, hj, hy, hno, a2, a1⟩
  have hy2 : y = (nI s, x, nI n, nI (cN (okP a f) j), nI j) := hy
  subst hy2
  have a1' : ∀ q, q ≠ 84 → τ.1 q = σ.1 q := a1
  have a2' : mK (τ.1 84) (stp a f j) := a2
  have hin4 := sIn_nI (show s < 4 by omega) (show 4 < 2 ^ 31 by omega)
  have hcl4 := nI_clamp (show s < 2 ^ 31 by omega)
  by_cases c : j < n
  · have hlt : nI j < nI n := (nn_lt (by omega) (by omega)).mpr c
    have hhi := m_inR τ hz0 hz40 (y := τ.1 99 s) (by rw [a1' 99 (by omega)]; exact hz) x (j := j) (by omega)
    cases hr : inR x z j with
    | false =>
      right
      have ho : oJ x z n = some j := fst_is (by omega) (by omega) (by rw [hr]; rfl) (fun k _ hk => by rw [hno k hk]; rfl)
      rw [ho]
      refine ⟨some (-12, τ), ⟨τ, rfl, a2', a1'⟩, fun back => ?_⟩
      rw [hr] at hhi
      simp only [fb_X12_sets_43, if_pos hlt, grd_of hin4, hcl4, hhi, bd_some]
      rfl
    | true =>
      left
      obtain ⟨k, k1, k2, k3⟩ := inR_0 hz40 hno hr
      have hfj : σ.1 100 (40 * s + (k + j)) = f j := by rw [hf j (by omega) (by omega), k2]; rfl
      have hfj' : τ.1 100 (40 * s + (k + j)) = f j := by rw [a1' 100 (by omega), hfj]
      have hidx : (((40 : Int32) * nI s) + x) + nI j = nI (40 * s + (k + j)) := by rw [k1, show (40 : Int32) = nI 40 from rfl, pk_mul, nI_add, nI_add, Nat.add_assoc]
      have hin := sIn_nI (show 40 * s + (k + j) < 160 by omega) (show 160 < 2 ^ 31 by omega)
      have hcl := nI_clamp (show 40 * s + (k + j) < 2 ^ 31 by omega)
      have hch := m_chg (stp_v hv f j) a2' (j := j) (by omega) (f j)
      rw [stp_n] at hch
      have hb : ∀ back, fb_X12_sets_43 back (τ, nI s, x, nI n, nI (cN (okP a f) j), nI j) = bd (f_X12_change τ (nI j) 2 (f j)) fun r9 => (if r9.1 < 0 then fj_X12_sets_105 back r9.2 (nI s) x (nI n) (nI j) (nI (cN (okP a f) j)) 0 else fj_X12_sets_105 back r9.2 (nI s) x (nI n) (nI j) (nI (cN (okP a f) j)) 1) := fun back => by
        rw [hr] at hhi
        simp only [fb_X12_sets_43, if_pos hlt, grd_of hin4, hcl4, hhi, bd_some, if_true, z10, if_false, hidx, grd_of hin, hcl, hfj']
      have hms : ∀ (τ' : sS) (v : Int32), 9 - (τ', nI s, x, nI n, v, nI (j + 1)).2.2.2.2.2.toNatClampNeg < 9 - (τ, nI s, x, nI n, nI (cN (okP a f) j), nI j).2.2.2.2.2.toNatClampNeg := fun τ' v => by
        show 9 - (nI (j + 1)).toNatClampNeg < 9 - (nI j).toNatClampNeg
        rw [nI_clamp (by omega), nI_clamp (by omega)]
        omega
      have hno' : ∀ k, k < j + 1 → inR x z k = true := fun k hk => by
        by_cases e : k = j
        · rw [e]; exact hr
        · exact hno k (by omega)
      have hcs : cN (okP a f) (j + 1) = (if okP a f j = true then cN (okP a f) j + 1 else cN (okP a f) j) := rfl
      have hst : stp a f (j + 1) = (if okP a f j = true then aSet (stp a f j) 3 j (f j) else stp a f j) := rfl
      by_cases d : j < aN a ∧ 0 ≤ (f j).toInt ∧ (f j).toInt ≤ 11
      · have hok : okP a f j = true := by unfold okP; rw [decide_eq_true d.1, decide_eq_true d.2]; rfl
        rw [if_pos d] at hch
        refine ⟨(sI τ 84 (8 + 4 * j) (f j), nI s, x, nI n, nI (cN (okP a f) (j + 1)), nI (j + 1)), ⟨j + 1, by omega, rfl, hno', ?_, fun q hq => ?_⟩, hms _ _, fun back => ?_⟩
        · show mK ((sI τ 84 (8 + 4 * j) (f j)).1 84) _
          rw [hst, hok, if_pos rfl]
          exact m_pha (stp_v hv f j) (by rw [stp_n]; exact d.1) (f j) a2'
        · show (sI τ 84 (8 + 4 * j) (f j)).1 q = _
          rw [sI_off _ _ _ _ hq]
          exact a1' q hq
        · rw [hb, hch, bd_some]
          show (if (stp a f j).1 3 j < 0 then _ else _) = _
          rw [if_neg (stp_p hv f d.1 j).2, hcs, hok, if_pos rfl]
          unfold fj_X12_sets_105
          rw [nI_1, nI_1]
      · have hok : okP a f j = false := by
          unfold okP
          cases h1 : decide (j < aN a) with
          | false => rfl
          | true => rw [decide_eq_false (fun q => d ⟨of_decide_eq_true h1, q⟩)]; rfl
        rw [if_neg d] at hch
        refine ⟨(τ, nI s, x, nI n, nI (cN (okP a f) (j + 1)), nI (j + 1)), ⟨j + 1, by omega, rfl, hno', ?_, a1'⟩, hms _ _, fun back => ?_⟩
        · show mK (τ.1 84) _
          rw [hst, hok, if_neg (by decide)]
          exact a2'
        · rw [hb, hch, bd_some]
          show (if (-1 : Int32) < 0 then _ else _) = _
          rw [if_pos (by decide), hcs, hok, if_neg (by decide)]
          unfold fj_X12_sets_105
          rw [nI_1, Int32.add_zero]
  · right
    have ej : j = n := by omega
    subst ej
    have ho : oJ x z j = none := fst_non fun k _ hk => by rw [hno k (by omega)]; rfl
    rw [ho]
    refine ⟨some (nI (cN (okP a f) j), τ), ⟨τ, rfl, a2', a1'⟩, fun back => ?_⟩
    simp only [fb_X12_sets_43, Int32.lt_irrefl, if_false]
theorem op_sets (x k n : Int32) : Op (fun σ => f_X11_sets σ x k n) (fun σ => f_X12_sets σ x k n) := by
  intro σ hR
  have hR0 := hR
  obtain ⟨⟨a, hv, hc, hm⟩, o1, oR⟩ := hR
  have s0 : (0 : Int64).toInt = 0 := rfl
  have s9 : (9 : Int64).toInt = 9 := rfl
  have t0 : (0 : Int32).toInt = 0 := rfl
  have t9 : (9 : Int32).toInt = 9 := rfl
  by_cases cx : 0 ≤ x.toInt ∧ x.toInt ≤ 3
  rotate_left
  · exact ⟨-1, σ, σ, by simp only [f_X11_sets, x_sheetR, bd_some, if_neg cx, if_true], by simp only [f_X12_sets, m_oneR, bd_some, if_neg cx, if_true], hR0⟩
  by_cases cn : 0 ≤ n.toInt ∧ n.toInt ≤ 9
  rotate_left
  · exact ⟨-1, σ, σ, by simp only [f_X11_sets, x_sheetR, x_within, t0, t9, bd_some, if_pos cx, z10, if_false, if_neg cn, if_true], by simp only [f_X12_sets, m_oneR, m_inI, s0, s9, bd_some, if_pos cx, z10, if_false, if_neg cn, if_true], hR0⟩
  obtain ⟨s, hs3, es⟩ := nI_of_bt (x := x) (n := 3) (by omega) (by omega) (by omega)
  obtain ⟨m, hm9, em⟩ := nI_of_bt (x := n) (n := 9) cn.1 cn.2 (by omega)
  have hin4 := sIn_nI (show s < 4 by omega) (show 4 < 2 ^ 31 by omega)
  have hcl4 := nI_clamp (show s < 2 ^ 31 by omega)
  obtain ⟨b1, b2, b3, b4, b5, b6⟩ := oR.2.2.1 s (by omega)
  have eX : f_X11_sets σ x k n = (if σ.1 70 s = -1 then some (-11, σ) else if σ.1 70 s = 0 then fl_X11_sets_56 (σ, nI s, k, nI m, 0, 0) else some (-13, σ)) := by
    simp only [f_X11_sets, x_sheetR, x_within, t0, t9, bd_some, if_pos cx, if_pos cn, z10, if_false]
    rw [es, em]
    simp only [grd_of hin4, hcl4]
  have eM : ∀ τ : sS, τ.1 98 = σ.1 98 → f_X12_sets τ x k n = (if σ.1 70 s = -1 then some (-11, τ) else if σ.1 70 s = 0 then fl_X12_sets_43 (τ, nI s, k, nI m, 0, 0) else some (-13, τ)) := fun τ hτ => by
    have hlt : (σ.1 70 s < 0) ↔ σ.1 70 s = -1 := by
      unfold bt at b2
      rw [i32_lt]
      constructor
      · intro g
        exact Int32.toInt_inj.mp (by have : (-1 : Int32).toInt = -1 := rfl; omega)
      · intro g
        rw [g]
        decide
    simp only [f_X12_sets, m_oneR, m_inI, s0, s9, bd_some, if_pos cx, if_pos cn, z10, if_false, f_X12_wrong]
    rw [es, em]
    simp only [grd_of hin4, hcl4, hτ, ← b1, hlt]
    by_cases d1 : σ.1 70 s = -1
    · rw [if_pos d1, if_pos d1, bd_some, if_neg (by decide)]
    · rw [if_neg d1, if_neg d1]
      by_cases d2 : σ.1 70 s = 0
      · rw [if_pos d2, if_pos d2, bd_some, if_pos rfl]
      · rw [if_neg d2, if_neg d2, bd_some, if_neg (by decide)]
  by_cases d1 : σ.1 70 s = -1
  · exact ⟨-11, σ, σ, by show f_X11_sets σ x k n = _; rw [eX, if_pos d1], by show f_X12_sets σ x k n = _; rw [eM σ rfl, if_pos d1], hR0⟩
  by_cases d2 : σ.1 70 s = 0
  rotate_left
  · exact ⟨-13, σ, σ, by show f_X11_sets σ x k n = _; rw [eX, if_neg d1, if_neg d2], by show f_X12_sets σ x k n = _; rw [eM σ rfl, if_neg d1, if_neg d2], hR0⟩
  obtain ⟨z, hz⟩ : ∃ z, z = (σ.1 71 s).toInt := ⟨_, rfl⟩
  have hzb : 0 ≤ z ∧ z ≤ 40 := by rw [hz]; exact b4
  obtain ⟨τ, e1, e2, e3⟩ := x_sets hv hc (s := s) (by omega) hz.symm hzb.1 hzb.2 k hm9 (f := fun j => σ.1 (73 + s) (k.toInt.toNat + j)) (fun _ _ => rfl)
  obtain ⟨ω, g1, g2, g3⟩ := m_sets (σ := τ) hv (by rw [e3 84 (by omega)]; exact hm) (s := s) (by omega) (z := z) (by rw [e3 99 (by omega), ← b3]; exact hz.symm) hzb.1 hzb.2 k hm9 (f := fun j => σ.1 (73 + s) (k.toInt.toNat + j)) (fun j _ hj => by rw [e3 100 (by omega), ← b6 _ hj])
  have hq : ∀ q, q ≠ 4 → q ≠ 84 → ω.1 q = σ.1 q := fun q h1 h2 => by rw [g3 q h2, e3 q h1]
  refine ⟨_, τ, ω, by show f_X11_sets σ x k n = _; rw [eX, if_neg d1, if_pos d2, e1], by show f_X12_sets τ x k n = _; rw [eM τ (e3 98 (by omega)), if_neg d1, if_pos d2, g1], ⟨_, stp_v hv _ _, cK_of (fun q j g => ?_) e2, g2⟩, rKept_of (fun q j g => ?_) o1, rRest_of (fun q j g => ?_) oR⟩
  · have := pCur_r g
    rw [g3 q (by omega)]
  · have := pKep_q g
    rw [hq q (by omega) (by omega)]
  · have := pRest_q g
    rw [hq q (by omega) (by omega)]
