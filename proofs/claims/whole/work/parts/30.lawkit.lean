/-! the law's own rows: its frame, the script beside the world -/
section SLAW
variable {l : Launch} {G : sG} {b Ls : Nat} {xs : Nat → Int32} {pc : Nat} {L : List (Nat × Value)} {S : List Value} {σ σ1 : sS} {oY : Option Value} {ρ : Type} {A B : Option ρ} {r : ρ}
theorem lw_sT {w : Cond} (h : w ∈ sT) : w ∈ lw_tbl := (List.mem_filter.mp h).1
def lX (G : sG) (b Ls : Nat) (xs : Nat → Int32) (p : Program) (s : State) (m : MethodId) (meth : Method) (c : Code) : Prop :=
  lw_At p s m meth c b Ls xs ∧ sK G s ∧ sInj G ∧ sNs G s ∧ ∀ q, sA G q → s.heap.size ≤ q
/-- from this place of the law it comes to its end with 1 -/
def lSim (l : Launch) (G : sG) (b Ls : Nat) (xs : Nat → Int32) (pc : Nat) (L : List (Nat × Value)) (S : List Value) (σ : sS) : Prop :=
  ∀ (p : Program) (e : Env) (s : State) (m : MethodId) (below : List Frame) (meth : Method) (c : Code), lX G b Ls xs p s m meth c →
    ∀ (H : Heap) (locs : List Loc) (ls : Array Slot), lv_has ls 4 L → va_P G.1 vwCl (sW G σ) H → va_S (fun q => s.heap.size ≤ q) s.heap H locs →
      W p l e room_1 s m #[Value.ref b] below meth c H locs 600000 7302249 (lw_Z below #[Value.ref b] s) (F0 m pc ls S)
theorem l_ext {L' : List (Nat × Value)} (is : List Nat) (hL : lv_pick L is = L') (k : lSim l G b Ls xs pc L' S σ) : lSim l G b Ls xs pc L S σ :=
  fun p e s m below meth c X H locs ls hl hP hS => k p e s m below meth c X H locs ls (lv_sub hl is hL) hP hS
theorem l_iconst {n : Int} (v : Int32) (hd : decode code pc = .ok (.iconst n, 1)) (hv : Int32.ofInt n = v) (k : lSim l G b Ls xs (pc + 1) L (.int v :: S) σ) : lSim l G b Ls xs pc L (S) σ :=
  fun p e s m below meth c X H locs ls hl hP hS => lv_iconst X.1.1 X.1.2.1 hd hv (k p e s m below meth c X H locs ls hl hP hS)
theorem l_bipush {n : Int} (v : Int32) (hd : decode code pc = .ok (.bipush n, 2)) (hv : (Int8.ofInt n).toInt32 = v) (k : lSim l G b Ls xs (pc + 2) L (.int v :: S) σ) : lSim l G b Ls xs pc L (S) σ :=
  fun p e s m below meth c X H locs ls hl hP hS => lv_bipush X.1.1 X.1.2.1 hd hv (k p e s m below meth c X H locs ls hl hP hS)
theorem l_iload_n {n : Fin 4} {x : Int32} (hd : decode code pc = .ok (.iload_n n, 1)) (j : Nat) (hj : L[j]? = some ((n : Nat), .int x)) (k : lSim l G b Ls xs (pc + 1) L (.int x :: S) σ) : lSim l G b Ls xs pc L S σ :=
  fun p e s m below meth c X H locs ls hl hP hS => lv_iload_n X.1.1 X.1.2.1 hd rfl (lv_at hl j hj) (k p e s m below meth c X H locs ls hl hP hS)
theorem l_aload_n {n : Fin 4} {x : Nat} (hd : decode code pc = .ok (.aload_n n, 1)) (j : Nat) (hj : L[j]? = some ((n : Nat), .ref x)) (k : lSim l G b Ls xs (pc + 1) L (.ref x :: S) σ) : lSim l G b Ls xs pc L S σ :=
  fun p e s m below meth c X H locs ls hl hP hS => lv_aload_n X.1.1 X.1.2.1 hd rfl (lv_at hl j hj) (k p e s m below meth c X H locs ls hl hP hS)
theorem l_istore_n {n : Fin 4} {x : Int32} (hd : decode code pc = .ok (.istore_n n, 1)) (hn : (n : Nat) < 4) (L' : List (Nat × Value)) (hL : ((n : Nat), Value.int x) :: L.filter (fun q => !(q.1 == (n : Nat)) && !(q.1 + 1 == (n : Nat) && q.2.category == 2)) = L') (k : lSim l G b Ls xs (pc + 1) L' S σ) : lSim l G b Ls xs pc L (.int x :: S) σ :=
  fun p e s m below meth c X H locs ls hl hP hS => lv_istore_n X.1.1 X.1.2.1 hd rfl hl hn hL (fun ls hl => k p e s m below meth c X H locs ls hl hP hS)
theorem l_astore_n {n : Fin 4} {x : Nat} (hd : decode code pc = .ok (.astore_n n, 1)) (hn : (n : Nat) < 4) (L' : List (Nat × Value)) (hL : ((n : Nat), Value.ref x) :: L.filter (fun q => !(q.1 == (n : Nat)) && !(q.1 + 1 == (n : Nat) && q.2.category == 2)) = L') (k : lSim l G b Ls xs (pc + 1) L' S σ) : lSim l G b Ls xs pc L (.ref x :: S) σ :=
  fun p e s m below meth c X H locs ls hl hP hS => lv_astore_n X.1.1 X.1.2.1 hd rfl hl hn hL (fun ls hl => k p e s m below meth c X H locs ls hl hP hS)
theorem l_inc {n : Nat} {z : Int} {x : Int32} (v : Int32) (hd : decode code pc = .ok (.iinc n z, 3)) (j : Nat) (hj : L[j]? = some (n, .int x)) (hv : Int32.ofInt z = v) (hn : n < 4) (L' : List (Nat × Value)) (hL : (n, Value.int (x + v)) :: L.filter (fun q => !(q.1 == n) && !(q.1 + 1 == n && q.2.category == 2)) = L') (k : lSim l G b Ls xs (pc + 3) L' S σ) : lSim l G b Ls xs pc L S σ :=
  fun p e s m below meth c X H locs ls hl hP hS => lv_iinc X.1.1 X.1.2.1 hd hl hj (by rw [hv]) hn hL (fun ls hl => k p e s m below meth c X H locs ls hl hP hS)
theorem l_iadd {x y : Int32} (hd : decode code pc = .ok (.iadd, 1)) (k : lSim l G b Ls xs (pc + 1) L (.int (x + y) :: S) σ) : lSim l G b Ls xs pc L (.int y :: .int x :: S) σ :=
  fun p e s m below meth c X H locs ls hl hP hS => lv_iadd X.1.1 X.1.2.1 hd (k p e s m below meth c X H locs ls hl hP hS)
theorem l_isub {x y : Int32} (hd : decode code pc = .ok (.isub, 1)) (k : lSim l G b Ls xs (pc + 1) L (.int (x - y) :: S) σ) : lSim l G b Ls xs pc L (.int y :: .int x :: S) σ :=
  fun p e s m below meth c X H locs ls hl hP hS => lv_isub X.1.1 X.1.2.1 hd (k p e s m below meth c X H locs ls hl hP hS)
theorem l_iand {x y : Int32} (hd : decode code pc = .ok (.iand, 1)) (k : lSim l G b Ls xs (pc + 1) L (.int (x &&& y) :: S) σ) : lSim l G b Ls xs pc L (.int y :: .int x :: S) σ :=
  fun p e s m below meth c X H locs ls hl hP hS => lv_iand X.1.1 X.1.2.1 hd (k p e s m below meth c X H locs ls hl hP hS)
theorem l_land {x y : Int64} (hd : decode code pc = .ok (.land, 1)) (k : lSim l G b Ls xs (pc + 1) L (.long (x &&& y) :: S) σ) : lSim l G b Ls xs pc L (.long y :: .long x :: S) σ :=
  fun p e s m below meth c X H locs ls hl hP hS => lv_land X.1.1 X.1.2.1 hd (k p e s m below meth c X H locs ls hl hP hS)
theorem l_lor {x y : Int64} (hd : decode code pc = .ok (.lor, 1)) (k : lSim l G b Ls xs (pc + 1) L (.long (x ||| y) :: S) σ) : lSim l G b Ls xs pc L (.long y :: .long x :: S) σ :=
  fun p e s m below meth c X H locs ls hl hP hS => lv_lor X.1.1 X.1.2.1 hd (k p e s m below meth c X H locs ls hl hP hS)
theorem l_lshl {x : Int64} {y : Int32} (hd : decode code pc = .ok (.lshl, 1)) (k : lSim l G b Ls xs (pc + 1) L (.long (x <<< (y.toInt64 &&& 63)) :: S) σ) : lSim l G b Ls xs pc L (.int y :: .long x :: S) σ :=
  fun p e s m below meth c X H locs ls hl hP hS => lv_lshl X.1.1 X.1.2.1 hd rfl (k p e s m below meth c X H locs ls hl hP hS)
theorem l_i2l {x : Int32} (hd : decode code pc = .ok (.i2l, 1)) (k : lSim l G b Ls xs (pc + 1) L (.long x.toInt64 :: S) σ) : lSim l G b Ls xs pc L (.int x :: S) σ :=
  fun p e s m below meth c X H locs ls hl hP hS => lv_i2l X.1.1 X.1.2.1 hd rfl (k p e s m below meth c X H locs ls hl hP hS)
theorem l_icmp_eq {x y : Int32} {off : Int} (tgt : Nat) (hd : decode code pc = .ok (.if_icmp .eq off, 3)) (ht : (pc : Int) + off = (tgt : Int)) (h : (if x = y then A else B) = some r) (kt : A = some r → lSim l G b Ls xs tgt L S σ) (kf : B = some r → lSim l G b Ls xs (pc + 3) L S σ) : lSim l G b Ls xs pc L (.int y :: .int x :: S) σ :=
  fun p e s m below meth c X H locs ls hl hP hS => lv_icmp_eq X.1.1 X.1.2.1 hd ht (fun q => kt ((if_pos q).symm.trans h) p e s m below meth c X H locs ls hl hP hS) (fun q => kf ((if_neg q).symm.trans h) p e s m below meth c X H locs ls hl hP hS)
theorem l_icmp_ne {x y : Int32} {off : Int} (tgt : Nat) (hd : decode code pc = .ok (.if_icmp .ne off, 3)) (ht : (pc : Int) + off = (tgt : Int)) (h : (if x = y then A else B) = some r) (kt : B = some r → lSim l G b Ls xs tgt L S σ) (kf : A = some r → lSim l G b Ls xs (pc + 3) L S σ) : lSim l G b Ls xs pc L (.int y :: .int x :: S) σ :=
  fun p e s m below meth c X H locs ls hl hP hS => lv_icmp_ne X.1.1 X.1.2.1 hd ht (fun q => kt ((if_neg q).symm.trans h) p e s m below meth c X H locs ls hl hP hS) (fun q => kf ((if_pos q).symm.trans h) p e s m below meth c X H locs ls hl hP hS)
theorem l_icmp_gt {x y : Int32} {off : Int} (tgt : Nat) (hd : decode code pc = .ok (.if_icmp .gt off, 3)) (ht : (pc : Int) + off = (tgt : Int)) (h : (if y < x then A else B) = some r) (kt : A = some r → lSim l G b Ls xs tgt L S σ) (kf : B = some r → lSim l G b Ls xs (pc + 3) L S σ) : lSim l G b Ls xs pc L (.int y :: .int x :: S) σ :=
  fun p e s m below meth c X H locs ls hl hP hS => lv_icmp_gt X.1.1 X.1.2.1 hd ht (fun q => kt ((if_pos q).symm.trans h) p e s m below meth c X H locs ls hl hP hS) (fun q => kf ((if_neg q).symm.trans h) p e s m below meth c X H locs ls hl hP hS)
theorem l_goto {off : Int} (tgt : Nat) (hd : decode code pc = .ok (.goto off, 3)) (ht : (pc : Int) + off = (tgt : Int)) (k : lSim l G b Ls xs tgt L S σ) : lSim l G b Ls xs pc L S σ :=
  fun p e s m below meth c X H locs ls hl hP hS => lv_goto X.1.1 X.1.2.1 hd ht (k p e s m below meth c X H locs ls hl hP hS)
theorem l_tsw {dflt lo hi : Int} {offs : Array Int} {len : Nat} {x : Int32} {off : Int} (v : Int32) (tgt : Nat) (q : x = v) (hd : decode code pc = .ok (.tableswitch dflt lo hi offs, len)) (h0 : ¬ v.toInt < lo ∧ ¬ hi < v.toInt ∧ offs[(v.toInt - lo).toNat]? = some off) (ht : (pc : Int) + off = (tgt : Int)) (k : lSim l G b Ls xs tgt L S σ) : lSim l G b Ls xs pc L (.int x :: S) σ := by
  subst q
  exact fun p e s m below meth c X H locs ls hl hP hS => lv_tableIn X.1.1 X.1.2.1 hd h0.1 h0.2.1 h0.2.2 ht (k p e s m below meth c X H locs ls hl hP hS)
theorem l_tableOut {dflt lo hi : Int} {offs : Array Int} {len : Nat} {x : Int32} (tgt : Nat) (hd : decode code pc = .ok (.tableswitch dflt lo hi offs, len)) (h : x.toInt < lo ∨ hi < x.toInt) (ht : (pc : Int) + dflt = (tgt : Int)) (k : lSim l G b Ls xs tgt L S σ) : lSim l G b Ls xs pc L (.int x :: S) σ :=
  fun p e s m below meth c X H locs ls hl hP hS => lv_tableOut X.1.1 X.1.2.1 hd h ht (k p e s m below meth c X H locs ls hl hP hS)
theorem l_ldc2 {index : Nat} (v : Int64) (hd : decode code pc = .ok (.ldc2_w index, 3)) (hw : Cond.constantLong R_law index v ∈ sT) (k : lSim l G b Ls xs (pc + 3) L (.long v :: S) σ) : lSim l G b Ls xs pc L S σ :=
  fun p e s m below meth c X H locs ls hl hP hS => lv_ldc2 X.1.1 X.1.2.1 X.1.2.2.2.2.1 (X.1.2.2.2.2.2.1 _ (lw_sT hw)) hd (k p e s m below meth c X H locs ls hl hP hS)
theorem l_sald {i : Int32} (hd : decode code pc = .ok (.iaload, 1)) (h : grd (sIn i Ls) A = some r) (k : A = some r → lSim l G b Ls xs (pc + 1) L (.int (xs i.toNatClampNeg) :: S) σ) : lSim l G b Ls xs pc L (.int i :: .ref b :: S) σ :=
  fun p e s m below meth c X H locs ls hl hP hS => va_sld X.1.1 X.1.2.1 X.1.2.2.2.2.2.2.1 X.1.2.2.2.2.2.2.2.1 (Nat.not_le.mpr X.1.2.2.2.2.2.2.2.1) hS (sIn_vp (grd_inv h).1) hd (k (grd_inv h).2 p e s m below meth c X H locs ls hl hP hS)
theorem l_slen (hd : decode code pc = .ok (.arraylength, 1)) (k : lSim l G b Ls xs (pc + 1) L (.int (Int32.ofNat Ls) :: S) σ) : lSim l G b Ls xs pc L (.ref b :: S) σ :=
  fun p e s m below meth c X H locs ls hl hP hS => va_slen X.1.1 X.1.2.1 X.1.2.2.2.2.2.2.1 X.1.2.2.2.2.2.2.2.1 (Nat.not_le.mpr X.1.2.2.2.2.2.2.2.1) hS hd (k p e s m below meth c X H locs ls hl hP hS)
theorem l_iret {v r : Int32} (hd : decode code pc = .ok (.ireturn, 1)) (hr : r = 1) (h : some v = some r) : lSim l G b Ls xs pc L [.int v] σ := by
  intro p e s m below meth c X H locs ls hl hP hS
  cases h
  subst hr
  exact va_forget hS.2.2 (lw_ret X.1.1 X.1.2.1 X.1.2.2.1 X.1.2.2.2.2.2.2.2.2.1 hd)
theorem l_nmL {x : Int64} {K : Int64 → Option ρ} (h : pt x K = some r) (k : ∀ y : Int64, y = x → K y = some r → lSim l G b Ls xs pc L (.long y :: S) σ) : lSim l G b Ls xs pc L (.long x :: S) σ := k x rfl (pt_inv h)
theorem l_callV {y : MethodName} {C : String} {ccY : ByteArray} {nY : Nat} {retY : Option FieldType} {n dY idx q ci N : Nat} {T : u_T} {fl : List (Option Nat)} (As : List Value) (rest : List Value) (hd : decode code pc = .ok (.invokevirtual idx, 3)) (hm : sMv y C ccY nY retY n) (hw : Cond.methodLink R_law idx y ∈ sT) (hc : vwCl[ci]? = some (C, T, N)) (hs : shL[q]? = some (.inl (ci, fl))) (hn : As.length = n) (hst : S = As.reverse ++ .ref (gA G q) :: rest) (hcat : (rest.map fun v => v.category).sum ≤ 8) (hdY : dY ≤ 100)
    (hC : sC l G y ccY nY retY dY (.ref (gA G q) :: As) σ oY σ1) (k : lSim l G b Ls xs (pc + 3) L (oY.toList ++ rest) σ1) : lSim l G b Ls xs pc L S σ := by
  intro p e s m below meth c X H locs ls hl hP hS
  obtain ⟨m1, m2, m3, m4, m5, m6⟩ := hm
  have hts := X.1.2.2.2.2.2.1
  subst hst
  have hgood : GoodIn lw_tbl (wsV R_law idx C y (.code y ccY nY retY :: sT)) := by
    intro w hw0
    unfold wsV at hw0
    rcases List.mem_append.mp hw0 with h | h
    · have : w ∈ sT := by
        simp only [List.mem_cons, List.not_mem_nil, or_false] at h
        rcases h with rfl | rfl | rfl | rfl
        · exact hw
        · exact m1
        · exact m2
        · exact m3
      exact ⟨lw_sT this, good_of_word (sT_good w this)⟩
    · obtain ⟨h1, h2⟩ := s_goodIn m4 w h
      exact ⟨lw_sT h1, h2⟩
  have hr := va_runV (R := room_1) (cells := 600000) (slots := 7302249) (meth := meth) (args := #[Value.ref b]) (As := As) (rest := rest) (b := gA G q) ⟨X.1.1, X.1.2.1, X.1.2.2.2.1, X.1.2.2.2.2.1, hts⟩ hC (cwV n hts hgood rfl rfl rfl m5 ⟨by show dY + 1 ≤ 2048; omega, by show 8 + (nY + 11) + 64 * dY ≤ 84000; omega⟩) (H := H) (locs := locs) (below := below) (e := e) ⟨sB_blind G σ _, va_recv X.2.1 hP (ci := ci) (q0 := q) hc (sW_at G σ (s_lt hs) (sE_o G σ hs)), fun U hU hW => ⟨rfl, by rw [hU]; exact hP, va_K.moved hW.alike X.2.1, X.2.2.1, sNs_moved hW (fun q h1 h2 => by rw [hU]; exact hS.2.1 q h1 (by omega)) X.2.2.2.1⟩⟩ (g := F0 m pc ls (As.reverse ++ .ref (gA G q) :: rest)) rfl hn hl.1 rfl (lv_room hcat) hd ⟨Nat.le_refl 600000, Nat.le_refl 7302249⟩
  intro T hT XS
  obtain ⟨v, st₀, t, T', L9, h0, X', hL, e1, e2, ⟨⟨hv, hp⟩, hz, hk⟩, st⟩ := hr T hT XS
  cases hv
  rw [h0] at hz hk
  obtain ⟨t2, a1, b1⟩ := k p e s m below meth c X T'.heap (locs ++ L9) ls hl (by rw [e1]; exact hp)
    ⟨Nat.le_trans hS.1 (by rw [e1]; exact hz), fun q h1 h2 => by rw [e1, hk q (Nat.lt_of_lt_of_le h1 hS.1) (fun z => h2 (X.2.2.2.2 q z))]; exact hS.2.1 q h1 h2, fun q hq => by
      rcases List.mem_append.mp hq with h | h
      · exact hS.2.2 q h
      · exact X.2.2.2.2 _ (hL q h)⟩ T' rfl X'
  exact ⟨t2, st t2 a1, b1⟩
end SLAW
