/-! contracts, and calls by contract -/
theorem sT_good : ∀ w ∈ sT, goodWord w = true := fun _ h => (List.mem_filter.mp h).2
theorem sNs_moved {s U : State} (hW : s.WarmedH U.vm) (h : sNs s) : sNs U := fun q hq => va_Nw.warmM hW (h q hq)
theorem sNs_same {s U : State} (e : s.vm = U.vm) (h : sNs s) : sNs U := fun q hq => va_Nw.same rfl e (h q hq)
theorem sB_blind (G : sG) (σ : sS) (av : List Value) : FrameBlind (va_Pc av (sB G σ)) := by
  intro a U g mk h
  obtain ⟨h1, h2, h3, h4, h5⟩ := h
  exact ⟨h1, h2, va_K.moved (u := U) (U := U.calling g mk a) (Vm.Alike.refl U.vm) h3, h4, sNs_same (s := U) (U := U.calling g mk a) rfl h5⟩
/-- the contract of a method out of its run from the entry -/
theorem s_met {l : Launch} {G : sG} {y : MethodName} {own : String} {cc : ByteArray} {nL : Nat} {ret : Option FieldType} {d : Nat} {av : List Value} {σ τ : sS} {o : Option Value} (L : List (Nat × Value)) (hp : plainName y.cls = true) (hy : y.cls = own) (hlen : (lg_sl av).length ≤ nL) (hL : lv_args 0 av = L) (h : sSim l G own cc nL ret d 0 L [] σ o τ) : sC l G y cc nL ret d av σ o τ := by
  refine Met.ofW (cc := cc) (maxL := nL) (ret := ret) hp rfl ?_
  intro p e s m args below meth c s₁ B hml hv
  obtain ⟨rfl, hP, hK, hI, hN⟩ := hv
  have hts := atoms_spec (ws := .code y cc nL ret :: sT) B.pre
  have hown : s.vm.findClass own = some m.cls := hy ▸ findClass_of_methodNamed B.named
  rw [lg_entry_eq]
  have hl := lv_entry av (n := nL) hlen
  rw [hL] at hl
  exact h p e s m av.toArray below meth c ⟨B.exec, B.bytes, hml, B.returns, hown, fun w hw => hts w (List.mem_cons_of_mem _ hw), B.notSynchronized, hK, hI, hN⟩ s.heap [] _ hl hP va_S.rf
section SCALL
variable {l : Launch} {G : sG} {own : String} {cc : ByteArray} {nL : Nat} {ret : Option FieldType} {d pc : Nat} {L : List (Nat × Value)} {S : List Value} {σ σ1 τ : sS} {o oY : Option Value} {ρ : Type} {A B : Option ρ} {r : ρ}
variable {p : Program} {e : Env} {R : Room} {s : State} {m : MethodId} {args : Array Value} {below : List Frame} {meth : Method} {c : Code} {H : Heap} {locs : List Loc} {Q : State → Prop} {ls : Array Slot} {rest st0 : List Value} {a : Array Value}
theorem s_back (hr : va_Run p l e R s m args below meth c H locs 0 0 0 0 (F0 m pc ls st0) rest (sQ G oY σ1 a) (sA G)) (hS : va_S (sA G) s.heap H locs)
    (kk : ∀ (H1 : Heap) (locs1 : List Loc), va_P G.1 vwCl (sW G σ1) H1 → va_S (sA G) s.heap H1 locs1 → W p l e R s m args below meth c H1 locs1 0 0 Q (F0 m (pc + 3) ls (oY.toList ++ rest))) : W p l e R s m args below meth c H locs 0 0 Q (F0 m pc ls st0) := by
  intro T hT X
  obtain ⟨v, st₀, t, T', L, h0, X', hL, e1, e2, ⟨⟨hv, hp⟩, hz, hk⟩, st⟩ := hr T hT X
  cases hv
  rw [h0] at hz hk
  obtain ⟨t2, a1, b1⟩ := kk T'.heap (locs ++ L) (by rw [e1]; exact hp)
    ⟨Nat.le_trans hS.1 (by rw [e1]; exact hz), fun q h1 h2 => by rw [e1, hk q (Nat.lt_of_lt_of_le h1 hS.1) h2]; exact hS.2.1 q h1 h2, fun q hq => by
      rcases List.mem_append.mp hq with h | h
      · exact hS.2.2 q h
      · exact hL q h⟩ T' rfl X'
  exact ⟨t2, st t2 a1, b1⟩
theorem s_goodIn {y : MethodName} {ccY : ByteArray} {nY : Nat} {retY : Option FieldType} (hco : Cond.code y ccY nY retY ∈ sT) : GoodIn sT (.code y ccY nY retY :: sT) := by
  intro w hw
  have : w ∈ sT := by
    rcases List.mem_cons.mp hw with rfl | h
    · exact hco
    · exact h
  exact ⟨this, good_of_word (sT_good w this)⟩
/-- what the tables say of a method that is called -/
def sMv (y : MethodName) (C : String) (ccY : ByteArray) (nY : Nat) (retY : Option FieldType) (n : Nat) : Prop :=
  Cond.instanceMethod y ∈ sT ∧ Cond.selects C y y ∈ sT ∧ Cond.initialized C ∈ sT ∧ Cond.code y ccY nY retY ∈ sT ∧ (y.cls = C ∧ y.cls ≠ "java/lang/invoke/MethodHandle" ∧ y.cls ≠ "java/lang/invoke/VarHandle" ∧ (parseMethodDescriptor y.desc).map (fun d => d.parameters.length) = some n) ∧ nY ≤ 45
def sMs (y : MethodName) (ccY : ByteArray) (nY : Nat) (retY : Option FieldType) (n : Nat) : Prop :=
  Cond.static y ∈ sT ∧ Cond.initialized y.cls ∈ sT ∧ Cond.code y ccY nY retY ∈ sT ∧ (y.cls ≠ "java/lang/invoke/MethodHandle" ∧ y.cls ≠ "java/lang/invoke/VarHandle" ∧ (parseMethodDescriptor y.desc).map (fun d => d.parameters.length) = some n) ∧ nY ≤ 45
theorem s_callV {y : MethodName} {C : String} {ccY : ByteArray} {nY : Nat} {retY : Option FieldType} {n dY idx q ci N : Nat} {T : u_T} {fl : List (Option Nat)} (As : List Value) (rest : List Value) (hd : decode cc pc = .ok (.invokevirtual idx, 3)) (hm : sMv y C ccY nY retY n) (hw : Cond.methodLink own idx y ∈ sT) (hc : vwCl[ci]? = some (C, T, N)) (hs : shL[q]? = some (.inl (ci, fl))) (hn : As.length = n) (hst : S = As.reverse ++ .ref (gA G q) :: rest) (hcat : (rest.map fun v => v.category).sum ≤ 8) (hdY : dY + 1 ≤ d)
    (hC : sC l G y ccY nY retY dY (.ref (gA G q) :: As) σ oY σ1) (k : sSim l G own cc nL ret d (pc + 3) L (oY.toList ++ rest) σ1 o τ) : sSim l G own cc nL ret d pc L S σ o τ := by
  intro p e s m args below meth c X H locs ls hl hP hS
  obtain ⟨m1, m2, m3, m4, m5, m6⟩ := hm
  have hts := X.2.2.2.2.2.1
  subst hst
  have hgood : GoodIn sT (wsV own idx C y (.code y ccY nY retY :: sT)) := by
    intro w hw0
    unfold wsV at hw0
    rcases List.mem_append.mp hw0 with h | h
    · have : w ∈ sT := by
        simp only [List.mem_cons, List.not_mem_nil, or_false] at h
        rcases h with rfl | rfl | rfl | rfl
        · exact hw
        · exact m1
        · exact m2
        · exact m3
      exact ⟨this, good_of_word (sT_good w this)⟩
    · exact s_goodIn m4 w h
  refine s_back (va_runV (As := As) (rest := rest) (b := gA G q) ⟨X.1, X.2.1, X.2.2.1, X.2.2.2.2.1, hts⟩ hC (cwV n hts hgood rfl rfl rfl m5 ⟨by show dY + 1 ≤ d; exact hdY, by show 8 + (nY + 11) + 64 * dY ≤ 64 * d; omega⟩) ⟨sB_blind G σ _, va_recv X.2.2.2.2.2.2.2.1 hP (ci := ci) (q0 := q) hc (sW_at G σ (s_lt hs) (sE_o G σ hs)), fun U hU hW => ⟨rfl, by rw [hU]; exact hP, va_K.moved hW.alike X.2.2.2.2.2.2.2.1, X.2.2.2.2.2.2.2.2.1, sNs_moved hW X.2.2.2.2.2.2.2.2.2⟩⟩ rfl hn hl.1 rfl (lv_room hcat) hd ⟨Nat.le_refl 0, Nat.le_refl 0⟩) hS ?_
  intro H1 locs1 hP1 hS1
  exact k p e s m args below meth c X H1 locs1 ls hl hP1 hS1
theorem s_callS {y : MethodName} {ccY : ByteArray} {nY : Nat} {retY : Option FieldType} {n dY idx : Nat} (As : List Value) (rest : List Value) (hd : decode cc pc = .ok (.invokestatic idx, 3)) (hm : sMs y ccY nY retY n) (hw : Cond.methodLink own idx y ∈ sT) (hn : As.length = n) (hst : S = As.reverse ++ rest) (hcat : (rest.map fun v => v.category).sum ≤ 8) (hdY : dY + 1 ≤ d)
    (hC : sC l G y ccY nY retY dY As σ oY σ1) (k : sSim l G own cc nL ret d (pc + 3) L (oY.toList ++ rest) σ1 o τ) : sSim l G own cc nL ret d pc L S σ o τ := by
  intro p e s m args below meth c X H locs ls hl hP hS
  obtain ⟨m1, m2, m3, m4, m5⟩ := hm
  have hts := X.2.2.2.2.2.1
  subst hst
  refine s_back (va_runS (As := As) (rest := rest) ⟨X.1, X.2.1, X.2.2.1, X.2.2.2.2.1, hts⟩ hC ⟨callB_of n hts (s_goodIn m3) rfl rfl rfl (hts _ m2) (hts _ hw) m4 ⟨by show dY + 1 ≤ d; exact hdY, by show 8 + (nY + 11) + 64 * dY ≤ 64 * d; omega⟩, hts _ m1⟩ ⟨sB_blind G σ _, fun U hU hW => ⟨rfl, by rw [hU]; exact hP, va_K.moved hW.alike X.2.2.2.2.2.2.2.1, X.2.2.2.2.2.2.2.2.1, sNs_moved hW X.2.2.2.2.2.2.2.2.2⟩⟩ rfl hn hl.1 rfl (lv_room hcat) hd ⟨Nat.le_refl 0, Nat.le_refl 0⟩) hS ?_
  intro H1 locs1 hP1 hS1
  exact k p e s m args below meth c X H1 locs1 ls hl hP1 hS1
theorem s_callN {y : MethodName} {host : String} {ccY : ByteArray} {nY : Nat} {retY : Option FieldType} {n dY idx : Nat} (As : List Value) (rest : List Value) (hd : decode cc pc = .ok (.invokestatic idx, 3)) (hm : sMs y ccY nY retY n) (hw : (own, idx, y, host) ∈ sNW) (hn : As.length = n) (hst : S = As.reverse ++ rest) (hcat : (rest.map fun v => v.category).sum ≤ 8) (hdY : dY + 1 ≤ d)
    (hC : sC l G y ccY nY retY dY As σ oY σ1) (k : sSim l G own cc nL ret d (pc + 3) L (oY.toList ++ rest) σ1 o τ) : sSim l G own cc nL ret d pc L S σ o τ := by
  intro p e s m args below meth c X H locs ls hl hP hS
  obtain ⟨m1, m2, m3, m4, m5⟩ := hm
  have hts := X.2.2.2.2.2.1
  subst hst
  refine s_back (va_runSN (As := As) (rest := rest) ⟨X.1, X.2.1, X.2.2.1, X.2.2.2.2.1, hts⟩ hC ⟨va_cnB n hts (s_goodIn m3) rfl rfl rfl (X.2.2.2.2.2.2.2.2.2 _ hw) (hts _ m2) m4 ⟨by show dY + 1 ≤ d; exact hdY, by show 8 + (nY + 11) + 64 * dY ≤ 64 * d; omega⟩, hts _ m1, trivial⟩ ⟨sB_blind G σ _, fun U hU hW => ⟨rfl, by rw [hU]; exact hP, va_K.moved hW.alike X.2.2.2.2.2.2.2.1, X.2.2.2.2.2.2.2.2.1, sNs_moved hW X.2.2.2.2.2.2.2.2.2⟩⟩ rfl hn hl.1 rfl (lv_room hcat) hd ⟨Nat.le_refl 0, Nat.le_refl 0⟩) hS ?_
  intro H1 locs1 hP1 hS1
  exact k p e s m args below meth c X H1 locs1 ls hl hP1 hS1
end SCALL
