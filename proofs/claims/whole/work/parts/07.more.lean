section SMORE
variable {l : Launch} {G : sG} {own : String} {cc : ByteArray} {nL : Nat} {ret : Option FieldType} {d pc : Nat} {L : List (Nat × Value)} {S : List Value} {σ τ : sS} {o : Option Value} {ρ : Type} {A B A0 A1 A2 A3 : Option ρ} {r : ρ}
theorem s_nmI {x : Int32} {K : Int32 → Option ρ} (h : pt x K = some r) (k : ∀ y : Int32, y = x → K y = some r → sSim l G own cc nL ret d pc L (.int y :: S) σ o τ) : sSim l G own cc nL ret d pc L (.int x :: S) σ o τ := k x rfl (pt_inv h)
theorem s_nmL {x : Int64} {K : Int64 → Option ρ} (h : pt x K = some r) (k : ∀ y : Int64, y = x → K y = some r → sSim l G own cc nL ret d pc L (.long y :: S) σ o τ) : sSim l G own cc nL ret d pc L (.long x :: S) σ o τ := k x rfl (pt_inv h)
theorem s_inc {n : Nat} {z : Int} {x : Int32} (c : Int32) (hd : decode cc pc = .ok (.iinc n z, 3)) (j : Nat) (hj : L[j]? = some (n, .int x)) (hc : Int32.ofInt z = c) (hn : n < nL) (L' : List (Nat × Value)) (hL : (n, Value.int (x + c)) :: L.filter (fun q => !(q.1 == n) && !(q.1 + 1 == n && q.2.category == 2)) = L') (k : sSim l G own cc nL ret d (pc + 3) L' S σ o τ) : sSim l G own cc nL ret d pc L S σ o τ :=
  s_iinc (x + c) hd j hj (by rw [hc]) hn L' hL k
theorem s_aaldQ {q : Nat} {i : Int32} (hd : decode cc pc = .ok (.aaload, 1)) (hs : shL[q]? = some (.inr (3, 4))) (h : (if i = 0 then A0 else if i = 1 then A1 else if i = 2 then A2 else if i = 3 then A3 else none) = some r) (k0 : A0 = some r → sSim l G own cc nL ret d (pc + 1) L (.ref (gA G 73) :: S) σ o τ) (k1 : A1 = some r → sSim l G own cc nL ret d (pc + 1) L (.ref (gA G 74) :: S) σ o τ) (k2 : A2 = some r → sSim l G own cc nL ret d (pc + 1) L (.ref (gA G 75) :: S) σ o τ) (k3 : A3 = some r → sSim l G own cc nL ret d (pc + 1) L (.ref (gA G 76) :: S) σ o τ) : sSim l G own cc nL ret d pc L (.int i :: .ref (gA G q) :: S) σ o τ := by
  have go : ∀ (z : Int32) (j : Nat), vp_in z 4 → z.toNatClampNeg = j → sSim l G own cc nL ret d (pc + 1) L (.ref (gA G (73 + j)) :: S) σ o τ → sSim l G own cc nL ret d pc L (.int z :: .ref (gA G q) :: S) σ o τ := by
    intro z j hz hj k p e s m args below meth c X H locs ls hl hP hS
    have hlt : z.toNatClampNeg < 4 := Nat.not_le.mp fun w => hz (Or.inr w)
    have ha := sW_at G σ (s_lt hs) (sE_q G σ hs)
    subst hj
    refine W.aald (v := .ref (gA G (73 + z.toNatClampNeg))) (ty := .array .int) X.1 X.2.1 (hP q _ ha) ((X.2.2.2.2.2.2.2.1.2 3 _ rfl).1 4 (fun j => va_rf (some (gA G (73 + j))))) rfl (fun w => by cases w) (by show ¬ (z < 0 ∨ (arrV _ _ _).slots.size ≤ _); rw [arrV_size]; exact hz) (by show (arrV _ _ _).slots[_]? = _; rw [arrV_read _ _ hlt]; rfl) rfl rfl hd (k p e s m args below meth c X H locs ls hl hP hS)
  by_cases e0 : i = 0
  · subst e0
    exact go 0 0 (show ¬ ((0 : Int32) < 0 ∨ 4 ≤ (0 : Int32).toNatClampNeg) by decide) (by decide) (k0 (by simpa using h))
  · rw [if_neg e0] at h
    by_cases e1 : i = 1
    · subst e1
      exact go 1 1 (show ¬ ((1 : Int32) < 0 ∨ 4 ≤ (1 : Int32).toNatClampNeg) by decide) (by decide) (k1 (by simpa using h))
    · rw [if_neg e1] at h
      by_cases e2 : i = 2
      · subst e2
        exact go 2 2 (show ¬ ((2 : Int32) < 0 ∨ 4 ≤ (2 : Int32).toNatClampNeg) by decide) (by decide) (k2 (by simpa using h))
      · rw [if_neg e2] at h
        by_cases e3 : i = 3
        · subst e3
          exact go 3 3 (show ¬ ((3 : Int32) < 0 ∨ 4 ≤ (3 : Int32).toNatClampNeg) by decide) (by decide) (k3 (by simpa using h))
        · rw [if_neg e3] at h
          cases h
/-- one arm of a switch -/
theorem s_tsw {dflt lo hi : Int} {offs : Array Int} {len : Nat} {x : Int32} {off : Int} (v : Int32) (tgt : Nat) (q : x = v) (hd : decode cc pc = .ok (.tableswitch dflt lo hi offs, len)) (h0 : ¬ v.toInt < lo ∧ ¬ hi < v.toInt ∧ offs[(v.toInt - lo).toNat]? = some off) (ht : (pc : Int) + off = (tgt : Int)) (k : sSim l G own cc nL ret d tgt L S σ o τ) : sSim l G own cc nL ret d pc L (.int x :: S) σ o τ := by
  subst q
  exact s_tableIn tgt hd h0.1 h0.2.1 h0.2.2 ht k
theorem s_lsw {dflt : Int} {ps : Array (Int × Int)} {len : Nat} {x : Int32} {off : Int} (v : Int32) (tgt : Nat) (q : x = v) (hd : decode cc pc = .ok (.lookupswitch dflt ps, len)) (h0 : (ps.toList.zip (ps.toList.drop 1)).all (fun (a, next) => a.1 < next.1) = true ∧ Op.lookupswitch.offset ps.toList dflt v.toInt = off) (ht : (pc : Int) + off = (tgt : Int)) (k : sSim l G own cc nL ret d tgt L S σ o τ) : sSim l G own cc nL ret d pc L (.int x :: S) σ o τ := by
  subst q
  exact s_lookup tgt hd h0.1 h0.2 ht k
def sNar (ty : FieldType) (v : Int32) : Bool := decide (narrow ty (.int v) = .int v)
theorem s_nretP {v r : Int32} {ty : FieldType} (hd : decode cc pc = .ok (.ireturn, 1)) (hr : ret = some ty) (h : grd (sNar ty v) (some v) = some r) : sSim l G own cc nL ret d pc L [.int v] σ (some (.int r)) σ :=
  s_iretP hd hr (of_decide_eq_true (grd_inv h).1) (grd_inv h).2
theorem s_none {P : Prop} (h : (none : Option ρ) = some r) : P := by cases h
theorem nF_ex : ∃ n : Nat, n = 4000 := ⟨_, rfl⟩
/-- how many rounds a loop is given; sealed -/
noncomputable def nF : Nat := Classical.choose nF_ex
theorem nF_eq : nF = 4000 := Classical.choose_spec nF_ex
theorem s_i2c {x : Int32} (hd : decode cc pc = .ok (.i2c, 1)) (k : sSim l G own cc nL ret d (pc + 1) L (.int ((x.toUInt32 % 65536).toInt32) :: S) σ o τ) : sSim l G own cc nL ret d pc L (.int x :: S) σ o τ :=
  fun p e s m args below meth c X H locs ls hl hP hS => lv_i2c X.1 X.2.1 hd rfl (k p e s m args below meth c X H locs ls hl hP hS)
end SMORE
