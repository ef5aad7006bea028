/-! contracts, and calls by contract -/
theorem sT_good : ∀ w ∈ sT, goodWord w = true := fun _ h => (List.mem_filter.mp h).2
theorem sNs_moved {G : sG} {s U : State} (hW : s.WarmedH U.vm) (hq : ∀ a : Nat, a < s.heap.size → ¬ sA G a → U.heap[a]? = s.heap[a]?) (h : sNs G s) : sNs G U := by
  obtain ⟨h1, h2, h3, h4, h5⟩ := h
  exact ⟨fun q hq => va_Nw.warmM hW (h1 q hq), h2.warm hW, (h3.moved hW.alike).kept hq, (h4.moved hW.alike).kept hq, (h5.moved hW.alike).kept hq⟩
theorem sNs_same {G : sG} {s U : State} (e : U.vm = s.vm) (eh : U.heap = s.heap) (h : sNs G s) : sNs G U := by
  obtain ⟨h1, h2, h3, h4, h5⟩ := h
  have ha : s.vm.Alike U.vm := by rw [e]; exact Vm.Alike.refl s.vm
  refine ⟨fun q hq => va_Nw.same rfl e.symm (h1 q hq), h2.same e, ?_, ?_, ?_⟩
  · rw [eh]; exact h3.moved ha
  · rw [eh]; exact h4.moved ha
  · rw [eh]; exact h5.moved ha
theorem sB_blind (G : sG) (σ : sS) (av : List Value) : FrameBlind (va_Pc av (sB G σ)) := by
  intro a U g mk h
  obtain ⟨h1, h2, h3, h4, h5⟩ := h
  exact ⟨h1, h2, va_K.moved (u := U) (U := U.calling g mk a) (Vm.Alike.refl U.vm) h3, h4, sNs_same (s := U) (U := U.calling g mk a) rfl rfl h5⟩
/-- the contract of a method out of its run from the entry -/
theorem s_met {l : Launch} {G : sG} {y : MethodName} {own : String} {cc : ByteArray} {nL : Nat} {ret : Option FieldType} {d : Nat} {av : List Value} {σ τ : sS} {o : Option Value} (L : List (Nat × Value)) (hp : plainName y.cls = true) (hy : y.cls = own) (hlen : (lg_sl av).length ≤ nL) (hL : lv_args 0 av = L) (h : sSim l G own cc nL ret d 0 L [] σ o τ) : sC l G y cc nL ret d av σ o τ := by
  refine Met.ofW (cc := cc) (maxL := nL) (ret := ret) hp rfl ?_
  intro p e s m args below meth c s₁ B hml hv
  obtain ⟨rfl, hP, hK, hI, hN⟩ := hv
  have hts := atoms_spec (ws := .code y cc nL ret :: sT) B.pre
  have hown : s.vm.findClass own = some m.cls := hy ▸ findClass_of_methodNamed B.named
  rw [lg_entry_eq]
  have hl := lv_entry av (n := nL) hlen
  rw [hL] at hl
  exact h p e s m av.toArray below meth c ⟨B.exec, B.bytes, hml, B.returns, hown, fun w hw => hts w (List.mem_cons_of_mem _ hw), B.notSynchronized, hK, hI, hN⟩ s.heap [] _ hl hP va_S.rf
section SCALL
variable {l : Launch} {G : sG} {own : String} {cc : ByteArray} {nL : Nat} {ret : Option FieldType} {d pc : Nat} {L : List (Nat × Value)} {S : List Value} {σ σ1 τ : sS} {o oY : Option Value} {ρ : Type} {A B : Option ρ} {r : ρ}
variable {p : Program} {e : Env} {R : Room} {s : State} {m : MethodId} {args : Array Value} {below : List Frame} {meth : Method} {c : Code} {H : Heap} {locs : List Loc} {Q : State → Prop} {ls : Array Slot} {rest st0 : List Value} {a : Array Value}
theorem s_back (hr : va_Run p l e R s m args below meth c H locs 0 0 0 0 (F0 m pc ls st0) rest (sQ G oY σ1 a) (sA G)) (hS : va_S (sA G) s.heap H locs)
    (kk : ∀ (H1 : Heap) (locs1 : List Loc), va_P G.1 vwCl (sW G σ1) H1 → va_S (sA G) s.heap H1 locs1 → W p l e R s m args below meth c H1 locs1 0 0 Q (F0 m (pc + 3) ls (oY.toList ++ rest))) : W p l e R s m args below meth c H locs 0 0 Q (F0 m pc ls st0) := by
  intro T hT X
  obtain ⟨v, st₀, t, T', L, h0, X', hL, e1, e2, ⟨⟨hv, hp⟩, hz, hk⟩, st⟩ := hr T hT X
  cases hv
  rw [h0] at hz hk
  obtain ⟨t2, a1, b1⟩ := kk T'.heap (locs ++ L) (by rw [e1]; exact hp)
    ⟨Nat.le_trans hS.1 (by rw [e1]; exact hz), fun q h1 h2 => by rw [e1, hk q (Nat.lt_of_lt_of_le h1 hS.1) h2]; exact hS.2.1 q h1 h2, fun q hq => by
      rcases List.mem_append.mp hq with h | h
      · exact hS.2.2 q h
      · exact hL q h⟩ T' rfl X'
  exact ⟨t2, st t2 a1, b1⟩
theorem s_goodIn {y : MethodName} {ccY : ByteArray} {nY : Nat} {retY : Option FieldType} (hco : Cond.code y ccY nY retY ∈ sT) : GoodIn sT (.code y ccY nY retY :: sT) := by
  intro w hw
  have : w ∈ sT := by
    rcases List.mem_cons.mp hw with rfl | h
    · exact hco
    · exact h
  exact ⟨this, good_of_word (sT_good w this)⟩
theorem s_callV {y : MethodName} {C : String} {ccY : ByteArray} {nY : Nat} {retY : Option FieldType} {n dY idx q ci N : Nat} {T : u_T} {fl : List (Option Nat)} (As : List Value) (rest : List Value) (hd : decode cc pc = .ok (.invokevirtual idx, 3)) (hm : sMv y C ccY nY retY n) (hw : Cond.methodLink own idx y ∈ sT) (hc : vwCl[ci]? = some (C, T, N)) (hs : shL[q]? = some (.inl (ci, fl))) (hn : As.length = n) (hst : S = As.reverse ++ .ref (gA G q) :: rest) (hcat : (rest.map fun v => v.category).sum ≤ 8) (hdY : dY + 1 ≤ d)
    (hC : sC l G y ccY nY retY dY (.ref (gA G q) :: As) σ oY σ1) (k : sSim l G own cc nL ret d (pc + 3) L (oY.toList ++ rest) σ1 o τ) : sSim l G own cc nL ret d pc L S σ o τ := by
  intro p e s m args below meth c X H locs ls hl hP hS
  obtain ⟨m1, m2, m3, m4, m5, m6⟩ := hm
  have hts := X.2.2.2.2.2.1
  subst hst
  have hgood : GoodIn sT (wsV own idx C y (.code y ccY nY retY :: sT)) := by
    intro w hw0
    unfold wsV at hw0
    rcases List.mem_append.mp hw0 with h | h
    · have : w ∈ sT := by
        simp only [List.mem_cons, List.not_mem_nil, or_false] at h
        rcases h with rfl | rfl | rfl | rfl
        · exact hw
        · exact m1
        · exact m2
        · exact m3
      exact ⟨this, good_of_word (sT_good w this)⟩
    · exact s_goodIn m4 w h
  refine s_back (va_runV (As := As) (rest := rest) (b := gA G q) ⟨X.1, X.2.1, X.2.2.1, X.2.2.2.2.1, hts⟩ hC (cwV n hts hgood rfl rfl rfl m5 ⟨by show dY + 1 ≤ d; exact hdY, by show 8 + (nY + 11) + 64 * dY ≤ 64 * d; omega⟩) ⟨sB_blind G σ _, va_recv X.2.2.2.2.2.2.2.1 hP (ci := ci) (q0 := q) hc (sW_at G σ (s_lt hs) (sE_o G σ hs)), fun U hU hW => ⟨rfl, by rw [hU]; exact hP, va_K.moved hW.alike X.2.2.2.2.2.2.2.1, X.2.2.2.2.2.2.2.2.1, sNs_moved hW (fun q h1 h2 => by rw [hU]; exact hS.2.1 q h1 h2) X.2.2.2.2.2.2.2.2.2⟩⟩ rfl hn hl.1 rfl (lv_room hcat) hd ⟨Nat.le_refl 0, Nat.le_refl 0⟩) hS ?_
  intro H1 locs1 hP1 hS1
  exact k p e s m args below meth c X H1 locs1 ls hl hP1 hS1
theorem s_callS {y : MethodName} {ccY : ByteArray} {nY : Nat} {retY : Option FieldType} {n dY idx : Nat} (As : List Value) (rest : List Value) (hd : decode cc pc = .ok (.invokestatic idx, 3)) (hm : sMs y ccY nY retY n) (hw : Cond.methodLink own idx y ∈ sT) (hn : As.length = n) (hst : S = As.reverse ++ rest) (hcat : (rest.map fun v => v.category).sum ≤ 8) (hdY : dY + 1 ≤ d)
    (hC : sC l G y ccY nY retY dY As σ oY σ1) (k : sSim l G own cc nL ret d (pc + 3) L (oY.toList ++ rest) σ1 o τ) : sSim l G own cc nL ret d pc L S σ o τ := by
  intro p e s m args below meth c X H locs ls hl hP hS
  obtain ⟨m1, m2, m3, m4, m5⟩ := hm
  have hts := X.2.2.2.2.2.1
  subst hst
  refine s_back (va_runS (As := As) (rest := rest) ⟨X.1, X.2.1, X.2.2.1, X.2.2.2.2.1, hts⟩ hC ⟨callB_of n hts (s_goodIn m3) rfl rfl rfl (hts _ m2) (hts _ hw) m4 ⟨by show dY + 1 ≤ d; exact hdY, by show 8 + (nY + 11) + 64 * dY ≤ 64 * d; omega⟩, hts _ m1⟩ ⟨sB_blind G σ _, fun U hU hW => ⟨rfl, by rw [hU]; exact hP, va_K.moved hW.alike X.2.2.2.2.2.2.2.1, X.2.2.2.2.2.2.2.2.1, sNs_moved hW (fun q h1 h2 => by rw [hU]; exact hS.2.1 q h1 h2) X.2.2.2.2.2.2.2.2.2⟩⟩ rfl hn hl.1 rfl (lv_room hcat) hd ⟨Nat.le_refl 0, Nat.le_refl 0⟩) hS ?_
  intro H1 locs1 hP1 hS1
  exact k p e s m args below meth c X H1 locs1 ls hl hP1 hS1
theorem s_callN {y : MethodName} {host : String} {ccY : ByteArray} {nY : Nat} {retY : Option FieldType} {n dY idx : Nat} (As : List Value) (rest : List Value) (hd : decode cc pc = .ok (.invokestatic idx, 3)) (hm : sMs y ccY nY retY n) (hw : (own, idx, y, host) ∈ sNW) (hn : As.length = n) (hst : S = As.reverse ++ rest) (hcat : (rest.map fun v => v.category).sum ≤ 8) (hdY : dY + 1 ≤ d)
    (hC : sC l G y ccY nY retY dY As σ oY σ1) (k : sSim l G own cc nL ret d (pc + 3) L (oY.toList ++ rest) σ1 o τ) : sSim l G own cc nL ret d pc L S σ o τ := by
  intro p e s m args below meth c X H locs ls hl hP hS
  obtain ⟨m1, m2, m3, m4, m5⟩ := hm
  have hts := X.2.2.2.2.2.1
  subst hst
  refine s_back (va_runSN (As := As) (rest := rest) ⟨X.1, X.2.1, X.2.2.1, X.2.2.2.2.1, hts⟩ hC ⟨va_cnB n hts (s_goodIn m3) rfl rfl rfl (X.2.2.2.2.2.2.2.2.2.1 _ hw) (hts _ m2) m4 ⟨by show dY + 1 ≤ d; exact hdY, by show 8 + (nY + 11) + 64 * dY ≤ 64 * d; omega⟩, hts _ m1, trivial⟩ ⟨sB_blind G σ _, fun U hU hW => ⟨rfl, by rw [hU]; exact hP, va_K.moved hW.alike X.2.2.2.2.2.2.2.1, X.2.2.2.2.2.2.2.2.1, sNs_moved hW (fun q h1 h2 => by rw [hU]; exact hS.2.1 q h1 h2) X.2.2.2.2.2.2.2.2.2⟩⟩ rfl hn hl.1 rfl (lv_room hcat) hd ⟨Nat.le_refl 0, Nat.le_refl 0⟩) hS ?_
  intro H1 locs1 hP1 hS1
  exact k p e s m args below meth c X H1 locs1 ls hl hP1 hS1
theorem s_mmax {idx : Nat} {x y : Int32} (hd : decode cc pc = .ok (.invokestatic idx, 3)) (hw : Cond.methodLink own idx Lib.Math.max.name ∈ sT) (hm : Cond.static Lib.Math.max.name ∈ sT ∧ Cond.initialized "java/lang/Math" ∈ sT ∧ Cond.code Lib.Math.max.name Lib.Math.max.code 2 (some .int) ∈ sT) (hcat : (S.map fun v => v.category).sum ≤ 8) (h1 : 1 ≤ d) (k : sSim l G own cc nL ret d (pc + 3) L (.int (if x < y then y else x) :: S) σ o τ) : sSim l G own cc nL ret d pc L (.int y :: .int x :: S) σ o τ := by
  intro p e s m args below meth c X H locs ls hl hP hS
  have hts := X.2.2.2.2.2.1
  exact va_mmax X.1 X.2.1 (X.2.2.1.trans hl.1.symm) X.2.2.2.2.1 (hts _ hw) (hts _ hm.1) (hts _ hm.2.1) (hts _ hm.2.2) h1 (by show _ ≤ 64 * d; omega) (Nat.le_refl 0) (Nat.le_refl 0) hd (k p e s m args below meth c X H locs ls hl hP hS)
theorem s_mmin {idx : Nat} {x y : Int32} (hd : decode cc pc = .ok (.invokestatic idx, 3)) (hw : Cond.methodLink own idx Lib.Math.min.name ∈ sT) (hm : Cond.static Lib.Math.min.name ∈ sT ∧ Cond.initialized "java/lang/Math" ∈ sT ∧ Cond.code Lib.Math.min.name Lib.Math.min.code 2 (some .int) ∈ sT) (hcat : (S.map fun v => v.category).sum ≤ 8) (h1 : 1 ≤ d) (k : sSim l G own cc nL ret d (pc + 3) L (.int (if y < x then y else x) :: S) σ o τ) : sSim l G own cc nL ret d pc L (.int y :: .int x :: S) σ o τ := by
  intro p e s m args below meth c X H locs ls hl hP hS
  have hts := X.2.2.2.2.2.1
  exact va_mmin X.1 X.2.1 (X.2.2.1.trans hl.1.symm) X.2.2.2.2.1 (hts _ hw) (hts _ hm.1) (hts _ hm.2.1) (hts _ hm.2.2) h1 (by show _ ≤ 64 * d; omega) (Nat.le_refl 0) (Nat.le_refl 0) hd (k p e s m args below meth c X H locs ls hl hP hS)
/-- a row copied from its beginning on -/
def sCp (σ : sS) (q0 q1 n : Nat) : sS := (fun a => if a = q1 then (fun j => if j < n then σ.1 q0 j else σ.1 q1 j) else σ.1 a, σ.2)
theorem s_copy {idx q0 q1 n0 n1 : Nat} {z : Int32} (n : Nat) {K : sS → Option ρ} (hd : decode cc pc = .ok (.invokestatic idx, 3)) (hw : Cond.methodLink own idx arraycopyName ∈ sT) (hm : Cond.native arraycopyName ∈ sT ∧ Cond.static arraycopyName ∈ sT ∧ Cond.initialized "java/lang/System" ∈ sT) (hs0 : shL[q0]? = some (.inr (0, n0))) (hs1 : shL[q1]? = some (.inr (0, n1))) (hz : z = Int32.ofNat n) (hn : ¬ z < 0 ∧ z.toNatClampNeg = n) (h4 : n ≤ n0) (h5 : n ≤ n1) (hcat : S = []) (h1 : 1 ≤ d) (h : pt (sCp σ q0 q1 n) K = some r)
    (k : ∀ σ1, σ1 = sCp σ q0 q1 n → K σ1 = some r → sSim l G own cc nL ret d (pc + 3) L S σ1 o τ) : sSim l G own cc nL ret d pc L (.int z :: .int 0 :: .ref (gA G q1) :: .int 0 :: .ref (gA G q0) :: S) σ o τ := by
  intro p e s m args below meth c X H locs ls hl hP hS
  have hts := X.2.2.2.2.2.1
  have z0 : (0 : Int32).toNatClampNeg = 0 := rfl
  have h9 : nativeFrameWords "java/lang/System" "arraycopy" 5 + 11 ≤ 64 := by decide +kernel
  have hlo : (S.map fun v => v.category).sum + (nativeFrameWords "java/lang/System" "arraycopy" 5 + 11) ≤ (sR d).locals := by
    subst hcat
    show 0 + (nativeFrameWords "java/lang/System" "arraycopy" 5 + 11) ≤ 64 * d
    omega
  refine va_copyi (sp := 0) (dp := 0) (n := z) (rest := S) X.1 X.2.1 (X.2.2.1.trans hl.1.symm) X.2.2.2.2.1 (hts _ hw) (hts _ hm.1) (hts _ hm.2.1) (hts _ hm.2.2) X.2.2.2.2.2.2.2.1 hP (sD X.2.2.2.2.2.2.2.2.1 σ) hS q0 q1 0 0 (sW_at G σ (s_lt hs0) (sE_i G σ hs0)) (sW_at G σ (s_lt hs1) (sE_i G σ hs1)) rfl rfl rfl (by decide) (by decide) hn.1 (by rw [hn.2, z0]; omega) (by rw [hn.2, z0]; omega) (fun i _ => rfl) h1 hlo hd ?_
  intro H1 locs1 hP1 _ hS1
  refine k _ rfl (pt_inv h) p e s m args below meth c X H1 locs1 ls hl ?_ hS1
  have he : sE G (sCp σ q0 q1 n) q1 = .inl (gI G, n1, .inl (va_cpy (σ.1 q0) (σ.1 q1) (0 : Int32).toNatClampNeg (0 : Int32).toNatClampNeg z.toNatClampNeg)) := by
    rw [sE_i G _ hs1, hn.2, z0]
    unfold sCp va_cpy
    simp
  rw [sW_set G σ (sCp σ q0 q1 n) he (fun j hj => by unfold sE sCp; simp only [if_neg hj])] at hP1
  exact hP1
/-- rows of the one text -/
theorem s_ldcS {idx : Nat} (hd : decode cc pc = .ok (.ldc idx, 2)) (ho : own = "RoundAndUp$RuleReader") (hi : idx = 72) (k : sSim l G own cc nL ret d (pc + 2) L (.ref (gS G) :: S) σ o τ) : sSim l G own cc nL ret d pc L S σ o τ := by
  intro p e s m args below meth c X H locs ls hl hP hS
  subst ho
  subst hi
  exact va_ldcS X.1 X.2.1 X.2.2.2.2.1 X.2.2.2.2.2.2.2.2.2.2.1 hd (k p e s m args below meth c X H locs ls hl hP hS)
theorem s_strV {idx : Nat} (hd : decode cc pc = .ok (.getfield idx, 3)) (hw : Cond.fieldLink own idx "java/lang/String" "value" "[B" ∈ sT) (k : sSim l G own cc nL ret d (pc + 3) L (.ref (gV G) :: S) σ o τ) : sSim l G own cc nL ret d pc L (.ref (gS G) :: S) σ o τ := by
  intro p e s m args below meth c X H locs ls hl hP hS
  obtain ⟨-, h1, -⟩ := X.2.2.2.2.2.2.2.2.2.2
  exact vk_getf X.1 X.2.1 (h1.1 0 (by decide)).2.2.1 hS X.2.2.2.2.1 (X.2.2.2.2.2.1 _ hw) (fun _ h => h) hd (k p e s m args below meth c X H locs ls hl hP hS)
theorem s_strC {idx : Nat} (hd : decode cc pc = .ok (.getfield idx, 3)) (hw : Cond.fieldLink own idx "java/lang/String" "coder" "B" ∈ sT) (k : sSim l G own cc nL ret d (pc + 3) L (.int 0 :: S) σ o τ) : sSim l G own cc nL ret d pc L (.ref (gS G) :: S) σ o τ := by
  intro p e s m args below meth c X H locs ls hl hP hS
  obtain ⟨-, h1, -⟩ := X.2.2.2.2.2.2.2.2.2.2
  exact vk_getf X.1 X.2.1 (h1.1 0 (by decide)).2.1 hS X.2.2.2.2.1 (X.2.2.2.2.2.1 _ hw) (fun _ h => h) hd (k p e s m args below meth c X H locs ls hl hP hS)
theorem s_strL (hd : decode cc pc = .ok (.arraylength, 1)) (k : sSim l G own cc nL ret d (pc + 1) L (.int 101 :: S) σ o τ) : sSim l G own cc nL ret d pc L (.ref (gV G) :: S) σ o τ := by
  intro p e s m args below meth c X H locs ls hl hP hS
  obtain ⟨-, h1, -⟩ := X.2.2.2.2.2.2.2.2.2.2
  exact va_tlen X.1 X.2.1 (h1.1 0 (by decide)).2.2.2 hS rfl hd (k p e s m args below meth c X H locs ls hl hP hS)
theorem s_strB {i : Int32} (hd : decode cc pc = .ok (.baload, 1)) (h : grd (sIn i 101) A = some r) (k : A = some r → sSim l G own cc nL ret d (pc + 1) L (.int (sBy.getD i.toNatClampNeg 0) :: S) σ o τ) : sSim l G own cc nL ret d pc L (.int i :: .ref (gV G) :: S) σ o τ := by
  intro p e s m args below meth c X H locs ls hl hP hS
  obtain ⟨-, h1, -⟩ := X.2.2.2.2.2.2.2.2.2.2
  exact va_tb X.1 X.2.1 (h1.1 0 (by decide)).2.2.2 hS (sIn_vp (grd_inv h).1) rfl hd (k (grd_inv h).2 p e s m args below meth c X H locs ls hl hP hS)
theorem s_strK {idx : Nat} (hd : decode cc pc = .ok (.getstatic idx, 3)) (hw : Cond.fieldLink own idx "java/lang/String" "COMPACT_STRINGS" "Z" ∈ sT) (k : sSim l G own cc nL ret d (pc + 3) L (.int 1 :: S) σ o τ) : sSim l G own cc nL ret d pc L S σ o τ := by
  intro p e s m args below meth c X H locs ls hl hP hS
  obtain ⟨-, -, h1, -⟩ := X.2.2.2.2.2.2.2.2.2.2
  exact va_gets X.1 X.2.1 h1 hS X.2.2.2.2.1 (X.2.2.2.2.2.1 _ hw) (fun _ h => h) hd (k p e s m args below meth c X H locs ls hl hP hS)
theorem s_strF {idx : Nat} (hd : decode cc pc = .ok (.getstatic idx, 3)) (hw : Cond.fieldLink own idx "jdk/internal/util/Preconditions" "SIOOBE_FORMATTER" "Ljava/util/function/BiFunction;" ∈ sT) (k : ∀ v : Value, (v = .null ∨ ∃ a, v = .ref a) → sSim l G own cc nL ret d (pc + 3) L (v :: S) σ o τ) : sSim l G own cc nL ret d pc L S σ o τ := by
  intro p e s m args below meth c X H locs ls hl hP hS
  obtain ⟨-, -, -, h1⟩ := X.2.2.2.2.2.2.2.2.2.2
  rcases h1 with h1 | ⟨a, h1⟩
  · exact va_gets X.1 X.2.1 h1 hS X.2.2.2.2.1 (X.2.2.2.2.2.1 _ hw) (fun _ h => h) hd (k _ (Or.inl rfl) p e s m args below meth c X H locs ls hl hP hS)
  · exact va_gets X.1 X.2.1 h1 hS X.2.2.2.2.1 (X.2.2.2.2.2.1 _ hw) (fun _ h => h) hd (k _ (Or.inr ⟨a, rfl⟩) p e s m args below meth c X H locs ls hl hP hS)
/-- a call upon the one text -/
theorem s_callT {y : MethodName} {ccY : ByteArray} {nY : Nat} {retY : Option FieldType} {n dY idx : Nat} (As : List Value) (rest : List Value) (hd : decode cc pc = .ok (.invokevirtual idx, 3)) (hm : sMv y "java/lang/String" ccY nY retY n) (hw : Cond.methodLink own idx y ∈ sT) (hn : As.length = n) (hst : S = As.reverse ++ .ref (gS G) :: rest) (hcat : (rest.map fun v => v.category).sum ≤ 8) (hdY : dY + 1 ≤ d)
    (hC : sC l G y ccY nY retY dY (.ref (gS G) :: As) σ oY σ1) (k : sSim l G own cc nL ret d (pc + 3) L (oY.toList ++ rest) σ1 o τ) : sSim l G own cc nL ret d pc L S σ o τ := by
  intro p e s m args below meth c X H locs ls hl hP hS
  obtain ⟨m1, m2, m3, m4, m5, m6⟩ := hm
  have hts := X.2.2.2.2.2.1
  subst hst
  obtain ⟨-, hz, -⟩ := X.2.2.2.2.2.2.2.2.2.2
  have hgood : GoodIn sT (wsV own idx "java/lang/String" y (.code y ccY nY retY :: sT)) := by
    intro w hw0
    unfold wsV at hw0
    rcases List.mem_append.mp hw0 with h | h
    · have : w ∈ sT := by
        simp only [List.mem_cons, List.not_mem_nil, or_false] at h
        rcases h with rfl | rfl | rfl | rfl
        · exact hw
        · exact m1
        · exact m2
        · exact m3
      exact ⟨this, good_of_word (sT_good w this)⟩
    · exact s_goodIn m4 w h
  refine s_back (va_runV (As := As) (rest := rest) (b := gS G) ⟨X.1, X.2.1, X.2.2.1, X.2.2.2.2.1, hts⟩ hC (cwV n hts hgood rfl rfl rfl m5 ⟨by show dY + 1 ≤ d; exact hdY, by show 8 + (nY + 11) + 64 * dY ≤ 64 * d; omega⟩) ⟨sB_blind G σ _, vk_recv hz (i := 0) (by decide) hS, fun U hU hW => ⟨rfl, by rw [hU]; exact hP, va_K.moved hW.alike X.2.2.2.2.2.2.2.1, X.2.2.2.2.2.2.2.2.1, sNs_moved hW (fun q h1 h2 => by rw [hU]; exact hS.2.1 q h1 h2) X.2.2.2.2.2.2.2.2.2⟩⟩ rfl hn hl.1 rfl (lv_room hcat) hd ⟨Nat.le_refl 0, Nat.le_refl 0⟩) hS ?_
  intro H1 locs1 hP1 hS1
  exact k p e s m args below meth c X H1 locs1 ls hl hP1 hS1
end SCALL
