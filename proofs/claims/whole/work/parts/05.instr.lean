section SI
variable {l : Launch} {G : sG} {own : String} {cc : ByteArray} {nL : Nat} {ret : Option FieldType} {d pc : Nat} {L : List (Nat × Value)} {S : List Value} {σ τ : sS} {o : Option Value} {ρ : Type} {A B : Option ρ} {r : ρ}
def sIn (i : Int32) (n : Nat) : Bool := decide (¬ (i < 0 ∨ n ≤ i.toNatClampNeg))
theorem sIn_vp {i : Int32} {n : Nat} (h : sIn i n = true) : vp_in i n := by
  have h2 : ¬ (i < 0 ∨ n ≤ i.toNatClampNeg) := of_decide_eq_true h
  exact h2
theorem grd_ex {ρ : Type} : ∃ f : Bool → Option ρ → Option ρ, f = fun b x => if b = true then x else none := ⟨_, rfl⟩
/-- a question that must be answered yes; sealed -/
noncomputable def grd {ρ : Type} : Bool → Option ρ → Option ρ := Classical.choose grd_ex
theorem grd_eq {ρ : Type} (b : Bool) (x : Option ρ) : grd b x = if b = true then x else none := congrFun (congrFun (Classical.choose_spec (grd_ex (ρ := ρ))) b) x
theorem grd_true {ρ : Type} (x : Option ρ) : grd true x = x := by rw [grd_eq, if_pos rfl]
theorem grd_of {ρ : Type} {b : Bool} (h : b = true) (x : Option ρ) : grd b x = x := by rw [grd_eq, if_pos h]
theorem grd_inv {ρ : Type} {b : Bool} {x : Option ρ} {r : ρ} (h : grd b x = some r) : b = true ∧ x = some r := by
  rw [grd_eq] at h
  split at h
  · exact ⟨by assumption, h⟩
  · cases h
theorem bd_ex {α ρ : Type} : ∃ f : Option α → (α → Option ρ) → Option ρ, f = fun x k => x.bind k := ⟨_, rfl⟩
/-- one behind the other; sealed, so that nothing unfolds it unasked -/
noncomputable def bd {α ρ : Type} : Option α → (α → Option ρ) → Option ρ := Classical.choose bd_ex
theorem bd_eq {α ρ : Type} (x : Option α) (k : α → Option ρ) : bd x k = x.bind k := congrFun (congrFun (Classical.choose_spec (bd_ex (α := α) (ρ := ρ))) x) k
theorem bd_some {α ρ : Type} (a : α) (k : α → Option ρ) : bd (some a) k = k a := bd_eq _ _
theorem bd_inv {α ρ : Type} {x : Option α} {k : α → Option ρ} {r : ρ} (h : bd x k = some r) : ∃ a, x = some a ∧ k a = some r := by
  rw [bd_eq] at h
  cases x with
  | none => cases h
  | some a => exact ⟨a, rfl, h⟩
def lp {α ρ : Type} (body : (α → Option ρ) → α → Option ρ) : Nat → α → Option ρ
  | 0, _ => none
  | k + 1, a => body (lp body k) a
theorem lp_s {α ρ : Type} (body : (α → Option ρ) → α → Option ρ) (k : Nat) (a : α) : lp body (k + 1) a = body (lp body k) a := rfl
theorem lp_sim {α ρ : Type} {body : (α → Option ρ) → α → Option ρ} {P : α → ρ → Prop} (h : ∀ back : α → Option ρ, (∀ a r, back a = some r → P a r) → ∀ a r, body back a = some r → P a r) : ∀ (k : Nat) (a : α) (r : ρ), lp body k a = some r → P a r
  | 0, _, _, h0 => by cases h0
  | k + 1, a, r, h0 => h (lp body k) (lp_sim h k) a r h0
theorem pt_ex {σ ρ : Type} : ∃ f : σ → (σ → Option ρ) → Option ρ, f = fun x k => k x := ⟨_, rfl⟩
/-- a value under a name; sealed -/
noncomputable def pt {σ ρ : Type} : σ → (σ → Option ρ) → Option ρ := Classical.choose pt_ex
theorem pt_eq {σ ρ : Type} (x : σ) (k : σ → Option ρ) : pt x k = k x := congrFun (congrFun (Classical.choose_spec (pt_ex (σ := σ) (ρ := ρ))) x) k
theorem pt_inv {σ ρ : Type} {x : σ} {k : σ → Option ρ} {r : ρ} (h : pt x k = some r) : k x = some r := by rwa [pt_eq] at h
def irm (x y : Int32) : Int32 := x - x / y * y

theorem s_nlt_of_le {a b : Int32} (h : b ≤ a) : ¬ a < b := fun q => by
  rw [Int32.le_iff_toInt_le] at h
  rw [Int32.lt_iff_toInt_lt] at q
  omega
theorem s_lt_of_nle {a b : Int32} (h : ¬ b ≤ a) : a < b := by
  rw [Int32.le_iff_toInt_le] at h
  rw [Int32.lt_iff_toInt_lt]
  omega
theorem s_iconst {n : Int} (v : Int32) (hd : decode cc pc = .ok (.iconst n, 1)) (hv : Int32.ofInt n = v) (k : sSim l G own cc nL ret d (pc + 1) L (.int v :: S) σ o τ) : sSim l G own cc nL ret d pc L (S) σ o τ :=
  fun p e s m args below meth c X H locs ls hl hP hS => lv_iconst X.1 X.2.1 hd hv (k p e s m args below meth c X H locs ls hl hP hS)
theorem s_bipush {n : Int} (v : Int32) (hd : decode cc pc = .ok (.bipush n, 2)) (hv : (Int8.ofInt n).toInt32 = v) (k : sSim l G own cc nL ret d (pc + 2) L (.int v :: S) σ o τ) : sSim l G own cc nL ret d pc L (S) σ o τ :=
  fun p e s m args below meth c X H locs ls hl hP hS => lv_bipush X.1 X.2.1 hd hv (k p e s m args below meth c X H locs ls hl hP hS)
theorem s_sipush {n : Int} (v : Int32) (hd : decode cc pc = .ok (.sipush n, 3)) (hv : (Int16.ofInt n).toInt32 = v) (k : sSim l G own cc nL ret d (pc + 3) L (.int v :: S) σ o τ) : sSim l G own cc nL ret d pc L (S) σ o τ :=
  fun p e s m args below meth c X H locs ls hl hP hS => lv_sipush X.1 X.2.1 hd hv (k p e s m args below meth c X H locs ls hl hP hS)
theorem s_lconst {n : Fin 2} (v : Int64) (hd : decode cc pc = .ok (.lconst n, 1)) (hv : Int64.ofNat (n : Nat) = v) (k : sSim l G own cc nL ret d (pc + 1) L (.long v :: S) σ o τ) : sSim l G own cc nL ret d pc L (S) σ o τ :=
  fun p e s m args below meth c X H locs ls hl hP hS => lv_lconst X.1 X.2.1 hd hv (k p e s m args below meth c X H locs ls hl hP hS)
theorem s_iload_n {n : Fin 4} {x : Int32} (hd : decode cc pc = .ok (.iload_n n, 1)) (j : Nat) (hj : L[j]? = some ((n : Nat), .int x)) (k : sSim l G own cc nL ret d (pc + 1) L (.int x :: S) σ o τ) : sSim l G own cc nL ret d pc L S σ o τ :=
  fun p e s m args below meth c X H locs ls hl hP hS => lv_iload_n X.1 X.2.1 hd rfl (lv_at hl j hj) (k p e s m args below meth c X H locs ls hl hP hS)
theorem s_iload {n : Nat} {x : Int32} (hd : decode cc pc = .ok (.iload n, 2)) (j : Nat) (hj : L[j]? = some (n, .int x)) (k : sSim l G own cc nL ret d (pc + 2) L (.int x :: S) σ o τ) : sSim l G own cc nL ret d pc L S σ o τ :=
  fun p e s m args below meth c X H locs ls hl hP hS => lv_iload X.1 X.2.1 hd (lv_at hl j hj) (k p e s m args below meth c X H locs ls hl hP hS)
theorem s_lload_n {n : Fin 4} {x : Int64} (hd : decode cc pc = .ok (.lload_n n, 1)) (j : Nat) (hj : L[j]? = some ((n : Nat), .long x)) (k : sSim l G own cc nL ret d (pc + 1) L (.long x :: S) σ o τ) : sSim l G own cc nL ret d pc L S σ o τ :=
  fun p e s m args below meth c X H locs ls hl hP hS => lv_lload_n X.1 X.2.1 hd rfl (lv_at hl j hj) (k p e s m args below meth c X H locs ls hl hP hS)
theorem s_lload {n : Nat} {x : Int64} (hd : decode cc pc = .ok (.lload n, 2)) (j : Nat) (hj : L[j]? = some (n, .long x)) (k : sSim l G own cc nL ret d (pc + 2) L (.long x :: S) σ o τ) : sSim l G own cc nL ret d pc L S σ o τ :=
  fun p e s m args below meth c X H locs ls hl hP hS => lv_lload X.1 X.2.1 hd (lv_at hl j hj) (k p e s m args below meth c X H locs ls hl hP hS)
theorem s_aload_n {n : Fin 4} {x : Nat} (hd : decode cc pc = .ok (.aload_n n, 1)) (j : Nat) (hj : L[j]? = some ((n : Nat), .ref x)) (k : sSim l G own cc nL ret d (pc + 1) L (.ref x :: S) σ o τ) : sSim l G own cc nL ret d pc L S σ o τ :=
  fun p e s m args below meth c X H locs ls hl hP hS => lv_aload_n X.1 X.2.1 hd rfl (lv_at hl j hj) (k p e s m args below meth c X H locs ls hl hP hS)
theorem s_aload {n : Nat} {x : Nat} (hd : decode cc pc = .ok (.aload n, 2)) (j : Nat) (hj : L[j]? = some (n, .ref x)) (k : sSim l G own cc nL ret d (pc + 2) L (.ref x :: S) σ o τ) : sSim l G own cc nL ret d pc L S σ o τ :=
  fun p e s m args below meth c X H locs ls hl hP hS => lv_aload X.1 X.2.1 hd (lv_at hl j hj) (k p e s m args below meth c X H locs ls hl hP hS)
theorem s_istore_n {n : Fin 4} {x : Int32} (hd : decode cc pc = .ok (.istore_n n, 1)) (hn : (n : Nat) < nL) (L' : List (Nat × Value)) (hL : ((n : Nat), Value.int x) :: L.filter (fun q => !(q.1 == (n : Nat)) && !(q.1 + 1 == (n : Nat) && q.2.category == 2)) = L') (k : sSim l G own cc nL ret d (pc + 1) L' S σ o τ) : sSim l G own cc nL ret d pc L (.int x :: S) σ o τ :=
  fun p e s m args below meth c X H locs ls hl hP hS => lv_istore_n X.1 X.2.1 hd rfl hl hn hL (fun ls hl => k p e s m args below meth c X H locs ls hl hP hS)
theorem s_istore {n : Nat} {x : Int32} (hd : decode cc pc = .ok (.istore n, 2)) (hn : n < nL) (L' : List (Nat × Value)) (hL : (n, Value.int x) :: L.filter (fun q => !(q.1 == n) && !(q.1 + 1 == n && q.2.category == 2)) = L') (k : sSim l G own cc nL ret d (pc + 2) L' S σ o τ) : sSim l G own cc nL ret d pc L (.int x :: S) σ o τ :=
  fun p e s m args below meth c X H locs ls hl hP hS => lv_istore X.1 X.2.1 hd hl hn hL (fun ls hl => k p e s m args below meth c X H locs ls hl hP hS)
theorem s_lstore_n {n : Fin 4} {x : Int64} (hd : decode cc pc = .ok (.lstore_n n, 1)) (hn : (n : Nat) + 1 < nL) (L' : List (Nat × Value)) (hL : ((n : Nat), Value.long x) :: L.filter (fun q => !(q.1 == (n : Nat)) && (!(q.1 == (n : Nat) + 1) && !(q.1 + 1 == (n : Nat) && q.2.category == 2))) = L') (k : sSim l G own cc nL ret d (pc + 1) L' S σ o τ) : sSim l G own cc nL ret d pc L (.long x :: S) σ o τ :=
  fun p e s m args below meth c X H locs ls hl hP hS => lv_lstore_n X.1 X.2.1 hd rfl hl hn hL (fun ls hl => k p e s m args below meth c X H locs ls hl hP hS)
theorem s_lstore {n : Nat} {x : Int64} (hd : decode cc pc = .ok (.lstore n, 2)) (hn : n + 1 < nL) (L' : List (Nat × Value)) (hL : (n, Value.long x) :: L.filter (fun q => !(q.1 == n) && (!(q.1 == n + 1) && !(q.1 + 1 == n && q.2.category == 2))) = L') (k : sSim l G own cc nL ret d (pc + 2) L' S σ o τ) : sSim l G own cc nL ret d pc L (.long x :: S) σ o τ :=
  fun p e s m args below meth c X H locs ls hl hP hS => lv_lstore X.1 X.2.1 hd hl hn hL (fun ls hl => k p e s m args below meth c X H locs ls hl hP hS)
theorem s_astore_n {n : Fin 4} {x : Nat} (hd : decode cc pc = .ok (.astore_n n, 1)) (hn : (n : Nat) < nL) (L' : List (Nat × Value)) (hL : ((n : Nat), Value.ref x) :: L.filter (fun q => !(q.1 == (n : Nat)) && !(q.1 + 1 == (n : Nat) && q.2.category == 2)) = L') (k : sSim l G own cc nL ret d (pc + 1) L' S σ o τ) : sSim l G own cc nL ret d pc L (.ref x :: S) σ o τ :=
  fun p e s m args below meth c X H locs ls hl hP hS => lv_astore_n X.1 X.2.1 hd rfl hl hn hL (fun ls hl => k p e s m args below meth c X H locs ls hl hP hS)
theorem s_astore {n : Nat} {x : Nat} (hd : decode cc pc = .ok (.astore n, 2)) (hn : n < nL) (L' : List (Nat × Value)) (hL : (n, Value.ref x) :: L.filter (fun q => !(q.1 == n) && !(q.1 + 1 == n && q.2.category == 2)) = L') (k : sSim l G own cc nL ret d (pc + 2) L' S σ o τ) : sSim l G own cc nL ret d pc L (.ref x :: S) σ o τ :=
  fun p e s m args below meth c X H locs ls hl hP hS => lv_astore X.1 X.2.1 hd hl hn hL (fun ls hl => k p e s m args below meth c X H locs ls hl hP hS)
theorem s_iinc {n : Nat} {z : Int} {x : Int32} (v : Int32) (hd : decode cc pc = .ok (.iinc n z, 3)) (j : Nat) (hj : L[j]? = some (n, .int x)) (hv : x + Int32.ofInt z = v) (hn : n < nL) (L' : List (Nat × Value)) (hL : (n, Value.int v) :: L.filter (fun q => !(q.1 == n) && !(q.1 + 1 == n && q.2.category == 2)) = L') (k : sSim l G own cc nL ret d (pc + 3) L' S σ o τ) : sSim l G own cc nL ret d pc L S σ o τ :=
  fun p e s m args below meth c X H locs ls hl hP hS => lv_iinc X.1 X.2.1 hd hl hj hv hn hL (fun ls hl => k p e s m args below meth c X H locs ls hl hP hS)
theorem s_iadd {x y : Int32} (hd : decode cc pc = .ok (.iadd, 1)) (k : sSim l G own cc nL ret d (pc + 1) L (.int (x + y) :: S) σ o τ) : sSim l G own cc nL ret d pc L (.int y :: .int x :: S) σ o τ :=
  fun p e s m args below meth c X H locs ls hl hP hS => lv_iadd X.1 X.2.1 hd (k p e s m args below meth c X H locs ls hl hP hS)
theorem s_isub {x y : Int32} (hd : decode cc pc = .ok (.isub, 1)) (k : sSim l G own cc nL ret d (pc + 1) L (.int (x - y) :: S) σ o τ) : sSim l G own cc nL ret d pc L (.int y :: .int x :: S) σ o τ :=
  fun p e s m args below meth c X H locs ls hl hP hS => lv_isub X.1 X.2.1 hd (k p e s m args below meth c X H locs ls hl hP hS)
theorem s_imul {x y : Int32} (hd : decode cc pc = .ok (.imul, 1)) (k : sSim l G own cc nL ret d (pc + 1) L (.int (x * y) :: S) σ o τ) : sSim l G own cc nL ret d pc L (.int y :: .int x :: S) σ o τ :=
  fun p e s m args below meth c X H locs ls hl hP hS => lv_imul X.1 X.2.1 hd (k p e s m args below meth c X H locs ls hl hP hS)
theorem s_iand {x y : Int32} (hd : decode cc pc = .ok (.iand, 1)) (k : sSim l G own cc nL ret d (pc + 1) L (.int (x &&& y) :: S) σ o τ) : sSim l G own cc nL ret d pc L (.int y :: .int x :: S) σ o τ :=
  fun p e s m args below meth c X H locs ls hl hP hS => lv_iand X.1 X.2.1 hd (k p e s m args below meth c X H locs ls hl hP hS)
theorem s_ior {x y : Int32} (hd : decode cc pc = .ok (.ior, 1)) (k : sSim l G own cc nL ret d (pc + 1) L (.int (x ||| y) :: S) σ o τ) : sSim l G own cc nL ret d pc L (.int y :: .int x :: S) σ o τ :=
  fun p e s m args below meth c X H locs ls hl hP hS => lv_ior X.1 X.2.1 hd (k p e s m args below meth c X H locs ls hl hP hS)
theorem s_ixor {x y : Int32} (hd : decode cc pc = .ok (.ixor, 1)) (k : sSim l G own cc nL ret d (pc + 1) L (.int (x ^^^ y) :: S) σ o τ) : sSim l G own cc nL ret d pc L (.int y :: .int x :: S) σ o τ :=
  fun p e s m args below meth c X H locs ls hl hP hS => lv_ixor X.1 X.2.1 hd (k p e s m args below meth c X H locs ls hl hP hS)
theorem s_ishl {x y : Int32} (hd : decode cc pc = .ok (.ishl, 1)) (k : sSim l G own cc nL ret d (pc + 1) L (.int (x <<< (y &&& 31)) :: S) σ o τ) : sSim l G own cc nL ret d pc L (.int y :: .int x :: S) σ o τ :=
  fun p e s m args below meth c X H locs ls hl hP hS => lv_ishl X.1 X.2.1 hd (k p e s m args below meth c X H locs ls hl hP hS)
theorem s_ishr {x y : Int32} (hd : decode cc pc = .ok (.ishr, 1)) (k : sSim l G own cc nL ret d (pc + 1) L (.int (x >>> (y &&& 31)) :: S) σ o τ) : sSim l G own cc nL ret d pc L (.int y :: .int x :: S) σ o τ :=
  fun p e s m args below meth c X H locs ls hl hP hS => lv_ishr X.1 X.2.1 hd (k p e s m args below meth c X H locs ls hl hP hS)
theorem s_iushr {x y : Int32} (hd : decode cc pc = .ok (.iushr, 1)) (k : sSim l G own cc nL ret d (pc + 1) L (.int ((x.toUInt32 >>> (y.toUInt32 &&& Int32.toUInt32 31)).toInt32) :: S) σ o τ) : sSim l G own cc nL ret d pc L (.int y :: .int x :: S) σ o τ :=
  fun p e s m args below meth c X H locs ls hl hP hS => lv_iushr X.1 X.2.1 hd rfl (k p e s m args below meth c X H locs ls hl hP hS)
theorem s_ladd {x y : Int64} (hd : decode cc pc = .ok (.ladd, 1)) (k : sSim l G own cc nL ret d (pc + 1) L (.long (x + y) :: S) σ o τ) : sSim l G own cc nL ret d pc L (.long y :: .long x :: S) σ o τ :=
  fun p e s m args below meth c X H locs ls hl hP hS => lv_ladd X.1 X.2.1 hd (k p e s m args below meth c X H locs ls hl hP hS)
theorem s_lsub {x y : Int64} (hd : decode cc pc = .ok (.lsub, 1)) (k : sSim l G own cc nL ret d (pc + 1) L (.long (x - y) :: S) σ o τ) : sSim l G own cc nL ret d pc L (.long y :: .long x :: S) σ o τ :=
  fun p e s m args below meth c X H locs ls hl hP hS => lv_lsub X.1 X.2.1 hd (k p e s m args below meth c X H locs ls hl hP hS)
theorem s_lmul {x y : Int64} (hd : decode cc pc = .ok (.lmul, 1)) (k : sSim l G own cc nL ret d (pc + 1) L (.long (x * y) :: S) σ o τ) : sSim l G own cc nL ret d pc L (.long y :: .long x :: S) σ o τ :=
  fun p e s m args below meth c X H locs ls hl hP hS => lv_lmul X.1 X.2.1 hd (k p e s m args below meth c X H locs ls hl hP hS)
theorem s_land {x y : Int64} (hd : decode cc pc = .ok (.land, 1)) (k : sSim l G own cc nL ret d (pc + 1) L (.long (x &&& y) :: S) σ o τ) : sSim l G own cc nL ret d pc L (.long y :: .long x :: S) σ o τ :=
  fun p e s m args below meth c X H locs ls hl hP hS => lv_land X.1 X.2.1 hd (k p e s m args below meth c X H locs ls hl hP hS)
theorem s_lor {x y : Int64} (hd : decode cc pc = .ok (.lor, 1)) (k : sSim l G own cc nL ret d (pc + 1) L (.long (x ||| y) :: S) σ o τ) : sSim l G own cc nL ret d pc L (.long y :: .long x :: S) σ o τ :=
  fun p e s m args below meth c X H locs ls hl hP hS => lv_lor X.1 X.2.1 hd (k p e s m args below meth c X H locs ls hl hP hS)
theorem s_lshl {x : Int64} {y : Int32} (hd : decode cc pc = .ok (.lshl, 1)) (k : sSim l G own cc nL ret d (pc + 1) L (.long (x <<< (y.toInt64 &&& 63)) :: S) σ o τ) : sSim l G own cc nL ret d pc L (.int y :: .long x :: S) σ o τ :=
  fun p e s m args below meth c X H locs ls hl hP hS => lv_lshl X.1 X.2.1 hd rfl (k p e s m args below meth c X H locs ls hl hP hS)
theorem s_lshr {x : Int64} {y : Int32} (hd : decode cc pc = .ok (.lshr, 1)) (k : sSim l G own cc nL ret d (pc + 1) L (.long (x >>> (y.toInt64 &&& 63)) :: S) σ o τ) : sSim l G own cc nL ret d pc L (.int y :: .long x :: S) σ o τ :=
  fun p e s m args below meth c X H locs ls hl hP hS => lv_lshr X.1 X.2.1 hd rfl (k p e s m args below meth c X H locs ls hl hP hS)
theorem s_i2l {x : Int32} (hd : decode cc pc = .ok (.i2l, 1)) (k : sSim l G own cc nL ret d (pc + 1) L (.long x.toInt64 :: S) σ o τ) : sSim l G own cc nL ret d pc L (.int x :: S) σ o τ :=
  fun p e s m args below meth c X H locs ls hl hP hS => lv_i2l X.1 X.2.1 hd rfl (k p e s m args below meth c X H locs ls hl hP hS)
theorem s_l2i {x : Int64} (hd : decode cc pc = .ok (.l2i, 1)) (k : sSim l G own cc nL ret d (pc + 1) L (.int x.toInt32 :: S) σ o τ) : sSim l G own cc nL ret d pc L (.long x :: S) σ o τ :=
  fun p e s m args below meth c X H locs ls hl hP hS => lv_l2i X.1 X.2.1 hd rfl (k p e s m args below meth c X H locs ls hl hP hS)
theorem s_i2b {x : Int32} (hd : decode cc pc = .ok (.i2b, 1)) (k : sSim l G own cc nL ret d (pc + 1) L (.int x.toInt8.toInt32 :: S) σ o τ) : sSim l G own cc nL ret d pc L (.int x :: S) σ o τ :=
  fun p e s m args below meth c X H locs ls hl hP hS => lv_i2b X.1 X.2.1 hd rfl (k p e s m args below meth c X H locs ls hl hP hS)
theorem s_i2s {x : Int32} (hd : decode cc pc = .ok (.i2s, 1)) (k : sSim l G own cc nL ret d (pc + 1) L (.int x.toInt16.toInt32 :: S) σ o τ) : sSim l G own cc nL ret d pc L (.int x :: S) σ o τ :=
  fun p e s m args below meth c X H locs ls hl hP hS => lv_i2s X.1 X.2.1 hd rfl (k p e s m args below meth c X H locs ls hl hP hS)
theorem s_lcmp {x y : Int64} (hd : decode cc pc = .ok (.lcmp, 1)) (k : sSim l G own cc nL ret d (pc + 1) L (.int (lg_cmp x y) :: S) σ o τ) : sSim l G own cc nL ret d pc L (.long y :: .long x :: S) σ o τ :=
  fun p e s m args below meth c X H locs ls hl hP hS => W.lcmp X.1 X.2.1 hd (k p e s m args below meth c X H locs ls hl hP hS)
theorem s_dup {v : Value} (hd : decode cc pc = .ok (.dup, 1)) (hc : v.category = 1) (k : sSim l G own cc nL ret d (pc + 1) L (v :: v :: S) σ o τ) : sSim l G own cc nL ret d pc L (v :: S) σ o τ :=
  fun p e s m args below meth c X H locs ls hl hP hS => lv_dup X.1 X.2.1 hd hc (k p e s m args below meth c X H locs ls hl hP hS)
theorem s_pop {v : Value} (hd : decode cc pc = .ok (.pop, 1)) (hc : v.category = 1) (k : sSim l G own cc nL ret d (pc + 1) L (S) σ o τ) : sSim l G own cc nL ret d pc L (v :: S) σ o τ :=
  fun p e s m args below meth c X H locs ls hl hP hS => lv_pop X.1 X.2.1 hd hc (k p e s m args below meth c X H locs ls hl hP hS)
theorem s_dup2 {v w : Value} (hd : decode cc pc = .ok (.dup2, 1)) (hv : v.category = 1) (hw : w.category = 1) (k : sSim l G own cc nL ret d (pc + 1) L (v :: w :: v :: w :: S) σ o τ) : sSim l G own cc nL ret d pc L (v :: w :: S) σ o τ :=
  fun p e s m args below meth c X H locs ls hl hP hS => lv_dup2_11 X.1 X.2.1 hd hv hw (k p e s m args below meth c X H locs ls hl hP hS)
theorem s_idiv {x y : Int32} (hd : decode cc pc = .ok (.idiv, 1)) (h : grd (decide (¬ y = 0)) A = some r) (k : A = some r → sSim l G own cc nL ret d (pc + 1) L (.int (x / y) :: S) σ o τ) : sSim l G own cc nL ret d pc L (.int y :: .int x :: S) σ o τ :=
  fun p e s m args below meth c X H locs ls hl hP hS => lv_idiv X.1 X.2.1 hd (of_decide_eq_true (grd_inv h).1) (k (grd_inv h).2 p e s m args below meth c X H locs ls hl hP hS)
theorem s_irem {x y : Int32} (hd : decode cc pc = .ok (.irem, 1)) (h : grd (decide (¬ y = 0)) A = some r) (k : A = some r → sSim l G own cc nL ret d (pc + 1) L (.int (irm x y) :: S) σ o τ) : sSim l G own cc nL ret d pc L (.int y :: .int x :: S) σ o τ :=
  fun p e s m args below meth c X H locs ls hl hP hS => lv_irem X.1 X.2.1 hd (of_decide_eq_true (grd_inv h).1) (k (grd_inv h).2 p e s m args below meth c X H locs ls hl hP hS)
theorem s_if_eq {x : Int32} {off : Int} (tgt : Nat) (hd : decode cc pc = .ok (.ifCond .eq off, 3)) (ht : (pc : Int) + off = (tgt : Int)) (h : (if x = 0 then A else B) = some r) (kt : A = some r → sSim l G own cc nL ret d tgt L S σ o τ) (kf : B = some r → sSim l G own cc nL ret d (pc + 3) L S σ o τ) : sSim l G own cc nL ret d pc L (.int x :: S) σ o τ :=
  fun p e s m args below meth c X H locs ls hl hP hS => lv_if_eq X.1 X.2.1 hd ht (fun q => kt ((if_pos q).symm.trans h) p e s m args below meth c X H locs ls hl hP hS) (fun q => kf ((if_neg q).symm.trans h) p e s m args below meth c X H locs ls hl hP hS)
theorem s_icmp_eq {x y : Int32} {off : Int} (tgt : Nat) (hd : decode cc pc = .ok (.if_icmp .eq off, 3)) (ht : (pc : Int) + off = (tgt : Int)) (h : (if x = y then A else B) = some r) (kt : A = some r → sSim l G own cc nL ret d tgt L S σ o τ) (kf : B = some r → sSim l G own cc nL ret d (pc + 3) L S σ o τ) : sSim l G own cc nL ret d pc L (.int y :: .int x :: S) σ o τ :=
  fun p e s m args below meth c X H locs ls hl hP hS => lv_icmp_eq X.1 X.2.1 hd ht (fun q => kt ((if_pos q).symm.trans h) p e s m args below meth c X H locs ls hl hP hS) (fun q => kf ((if_neg q).symm.trans h) p e s m args below meth c X H locs ls hl hP hS)
theorem s_if_ne {x : Int32} {off : Int} (tgt : Nat) (hd : decode cc pc = .ok (.ifCond .ne off, 3)) (ht : (pc : Int) + off = (tgt : Int)) (h : (if x = 0 then A else B) = some r) (kt : B = some r → sSim l G own cc nL ret d tgt L S σ o τ) (kf : A = some r → sSim l G own cc nL ret d (pc + 3) L S σ o τ) : sSim l G own cc nL ret d pc L (.int x :: S) σ o τ :=
  fun p e s m args below meth c X H locs ls hl hP hS => lv_if_ne X.1 X.2.1 hd ht (fun q => kt ((if_neg q).symm.trans h) p e s m args below meth c X H locs ls hl hP hS) (fun q => kf ((if_pos q).symm.trans h) p e s m args below meth c X H locs ls hl hP hS)
theorem s_icmp_ne {x y : Int32} {off : Int} (tgt : Nat) (hd : decode cc pc = .ok (.if_icmp .ne off, 3)) (ht : (pc : Int) + off = (tgt : Int)) (h : (if x = y then A else B) = some r) (kt : B = some r → sSim l G own cc nL ret d tgt L S σ o τ) (kf : A = some r → sSim l G own cc nL ret d (pc + 3) L S σ o τ) : sSim l G own cc nL ret d pc L (.int y :: .int x :: S) σ o τ :=
  fun p e s m args below meth c X H locs ls hl hP hS => lv_icmp_ne X.1 X.2.1 hd ht (fun q => kt ((if_neg q).symm.trans h) p e s m args below meth c X H locs ls hl hP hS) (fun q => kf ((if_pos q).symm.trans h) p e s m args below meth c X H locs ls hl hP hS)
theorem s_if_lt {x : Int32} {off : Int} (tgt : Nat) (hd : decode cc pc = .ok (.ifCond .lt off, 3)) (ht : (pc : Int) + off = (tgt : Int)) (h : (if x < 0 then A else B) = some r) (kt : A = some r → sSim l G own cc nL ret d tgt L S σ o τ) (kf : B = some r → sSim l G own cc nL ret d (pc + 3) L S σ o τ) : sSim l G own cc nL ret d pc L (.int x :: S) σ o τ :=
  fun p e s m args below meth c X H locs ls hl hP hS => lv_if_lt X.1 X.2.1 hd ht (fun q => kt ((if_pos q).symm.trans h) p e s m args below meth c X H locs ls hl hP hS) (fun q => kf ((if_neg q).symm.trans h) p e s m args below meth c X H locs ls hl hP hS)
theorem s_icmp_lt {x y : Int32} {off : Int} (tgt : Nat) (hd : decode cc pc = .ok (.if_icmp .lt off, 3)) (ht : (pc : Int) + off = (tgt : Int)) (h : (if x < y then A else B) = some r) (kt : A = some r → sSim l G own cc nL ret d tgt L S σ o τ) (kf : B = some r → sSim l G own cc nL ret d (pc + 3) L S σ o τ) : sSim l G own cc nL ret d pc L (.int y :: .int x :: S) σ o τ :=
  fun p e s m args below meth c X H locs ls hl hP hS => lv_icmp_lt X.1 X.2.1 hd ht (fun q => kt ((if_pos q).symm.trans h) p e s m args below meth c X H locs ls hl hP hS) (fun q => kf ((if_neg q).symm.trans h) p e s m args below meth c X H locs ls hl hP hS)
theorem s_if_ge {x : Int32} {off : Int} (tgt : Nat) (hd : decode cc pc = .ok (.ifCond .ge off, 3)) (ht : (pc : Int) + off = (tgt : Int)) (h : (if x < 0 then A else B) = some r) (kt : B = some r → sSim l G own cc nL ret d tgt L S σ o τ) (kf : A = some r → sSim l G own cc nL ret d (pc + 3) L S σ o τ) : sSim l G own cc nL ret d pc L (.int x :: S) σ o τ :=
  fun p e s m args below meth c X H locs ls hl hP hS => lv_if_ge X.1 X.2.1 hd ht (fun q => kt ((if_neg (fun w => absurd w (s_nlt_of_le q))).symm.trans h) p e s m args below meth c X H locs ls hl hP hS) (fun q => kf ((if_pos (s_lt_of_nle q)).symm.trans h) p e s m args below meth c X H locs ls hl hP hS)
theorem s_icmp_ge {x y : Int32} {off : Int} (tgt : Nat) (hd : decode cc pc = .ok (.if_icmp .ge off, 3)) (ht : (pc : Int) + off = (tgt : Int)) (h : (if x < y then A else B) = some r) (kt : B = some r → sSim l G own cc nL ret d tgt L S σ o τ) (kf : A = some r → sSim l G own cc nL ret d (pc + 3) L S σ o τ) : sSim l G own cc nL ret d pc L (.int y :: .int x :: S) σ o τ :=
  fun p e s m args below meth c X H locs ls hl hP hS => lv_icmp_ge X.1 X.2.1 hd ht (fun q => kt ((if_neg (fun w => absurd w (s_nlt_of_le q))).symm.trans h) p e s m args below meth c X H locs ls hl hP hS) (fun q => kf ((if_pos (s_lt_of_nle q)).symm.trans h) p e s m args below meth c X H locs ls hl hP hS)
theorem s_if_gt {x : Int32} {off : Int} (tgt : Nat) (hd : decode cc pc = .ok (.ifCond .gt off, 3)) (ht : (pc : Int) + off = (tgt : Int)) (h : (if 0 < x then A else B) = some r) (kt : A = some r → sSim l G own cc nL ret d tgt L S σ o τ) (kf : B = some r → sSim l G own cc nL ret d (pc + 3) L S σ o τ) : sSim l G own cc nL ret d pc L (.int x :: S) σ o τ :=
  fun p e s m args below meth c X H locs ls hl hP hS => lv_if_gt X.1 X.2.1 hd ht (fun q => kt ((if_pos q).symm.trans h) p e s m args below meth c X H locs ls hl hP hS) (fun q => kf ((if_neg q).symm.trans h) p e s m args below meth c X H locs ls hl hP hS)
theorem s_icmp_gt {x y : Int32} {off : Int} (tgt : Nat) (hd : decode cc pc = .ok (.if_icmp .gt off, 3)) (ht : (pc : Int) + off = (tgt : Int)) (h : (if y < x then A else B) = some r) (kt : A = some r → sSim l G own cc nL ret d tgt L S σ o τ) (kf : B = some r → sSim l G own cc nL ret d (pc + 3) L S σ o τ) : sSim l G own cc nL ret d pc L (.int y :: .int x :: S) σ o τ :=
  fun p e s m args below meth c X H locs ls hl hP hS => lv_icmp_gt X.1 X.2.1 hd ht (fun q => kt ((if_pos q).symm.trans h) p e s m args below meth c X H locs ls hl hP hS) (fun q => kf ((if_neg q).symm.trans h) p e s m args below meth c X H locs ls hl hP hS)
theorem s_if_le {x : Int32} {off : Int} (tgt : Nat) (hd : decode cc pc = .ok (.ifCond .le off, 3)) (ht : (pc : Int) + off = (tgt : Int)) (h : (if 0 < x then A else B) = some r) (kt : B = some r → sSim l G own cc nL ret d tgt L S σ o τ) (kf : A = some r → sSim l G own cc nL ret d (pc + 3) L S σ o τ) : sSim l G own cc nL ret d pc L (.int x :: S) σ o τ :=
  fun p e s m args below meth c X H locs ls hl hP hS => lv_if_le X.1 X.2.1 hd ht (fun q => kt ((if_neg (fun w => absurd w (s_nlt_of_le q))).symm.trans h) p e s m args below meth c X H locs ls hl hP hS) (fun q => kf ((if_pos (s_lt_of_nle q)).symm.trans h) p e s m args below meth c X H locs ls hl hP hS)
theorem s_icmp_le {x y : Int32} {off : Int} (tgt : Nat) (hd : decode cc pc = .ok (.if_icmp .le off, 3)) (ht : (pc : Int) + off = (tgt : Int)) (h : (if y < x then A else B) = some r) (kt : B = some r → sSim l G own cc nL ret d tgt L S σ o τ) (kf : A = some r → sSim l G own cc nL ret d (pc + 3) L S σ o τ) : sSim l G own cc nL ret d pc L (.int y :: .int x :: S) σ o τ :=
  fun p e s m args below meth c X H locs ls hl hP hS => lv_icmp_le X.1 X.2.1 hd ht (fun q => kt ((if_neg (fun w => absurd w (s_nlt_of_le q))).symm.trans h) p e s m args below meth c X H locs ls hl hP hS) (fun q => kf ((if_pos (s_lt_of_nle q)).symm.trans h) p e s m args below meth c X H locs ls hl hP hS)
theorem s_goto {off : Int} (tgt : Nat) (hd : decode cc pc = .ok (.goto off, 3)) (ht : (pc : Int) + off = (tgt : Int)) (k : sSim l G own cc nL ret d tgt L S σ o τ) : sSim l G own cc nL ret d pc L S σ o τ :=
  fun p e s m args below meth c X H locs ls hl hP hS => lv_goto X.1 X.2.1 hd ht (k p e s m args below meth c X H locs ls hl hP hS)
theorem s_sub {L' : List (Nat × Value)} (is : List Nat) (hL : lv_pick L is = L') (k : sSim l G own cc nL ret d pc L' S σ o τ) : sSim l G own cc nL ret d pc L S σ o τ :=
  fun p e s m args below meth c X H locs ls hl hP hS => k p e s m args below meth c X H locs ls (lv_sub hl is hL) hP hS
theorem s_tableIn {dflt lo hi : Int} {offs : Array Int} {len : Nat} {x : Int32} {off : Int} (tgt : Nat) (hd : decode cc pc = .ok (.tableswitch dflt lo hi offs, len)) (h1 : ¬ x.toInt < lo) (h2 : ¬ hi < x.toInt) (ho : offs[(x.toInt - lo).toNat]? = some off) (ht : (pc : Int) + off = (tgt : Int)) (k : sSim l G own cc nL ret d tgt L S σ o τ) : sSim l G own cc nL ret d pc L (.int x :: S) σ o τ :=
  fun p e s m args below meth c X H locs ls hl hP hS => lv_tableIn X.1 X.2.1 hd h1 h2 ho ht (k p e s m args below meth c X H locs ls hl hP hS)
theorem s_tableOut {dflt lo hi : Int} {offs : Array Int} {len : Nat} {x : Int32} (tgt : Nat) (hd : decode cc pc = .ok (.tableswitch dflt lo hi offs, len)) (h : x.toInt < lo ∨ hi < x.toInt) (ht : (pc : Int) + dflt = (tgt : Int)) (k : sSim l G own cc nL ret d tgt L S σ o τ) : sSim l G own cc nL ret d pc L (.int x :: S) σ o τ :=
  fun p e s m args below meth c X H locs ls hl hP hS => lv_tableOut X.1 X.2.1 hd h ht (k p e s m args below meth c X H locs ls hl hP hS)
theorem s_lookup {dflt : Int} {ps : Array (Int × Int)} {len : Nat} {x : Int32} {off : Int} (tgt : Nat) (hd : decode cc pc = .ok (.lookupswitch dflt ps, len)) (hp : (ps.toList.zip (ps.toList.drop 1)).all (fun (a, next) => a.1 < next.1) = true) (ho : Op.lookupswitch.offset ps.toList dflt x.toInt = off) (ht : (pc : Int) + off = (tgt : Int)) (k : sSim l G own cc nL ret d tgt L S σ o τ) : sSim l G own cc nL ret d pc L (.int x :: S) σ o τ :=
  fun p e s m args below meth c X H locs ls hl hP hS => lv_lookup X.1 X.2.1 hd hp ho ht (k p e s m args below meth c X H locs ls hl hP hS)
/-- a switch as a row of questions -/
theorem sw_if {x v : Int32} {A B : Option ρ} (h : (if x = v then A else B) = some r) {P : Prop} (kt : x = v → A = some r → P) (kf : ¬ x = v → B = some r → P) : P := by
  by_cases q : x = v
  · exact kt q ((if_pos q).symm.trans h)
  · exact kf q ((if_neg q).symm.trans h)

theorem s_ldc {index : Nat} (v : Int32) (hd : decode cc pc = .ok (.ldc index, 2)) (hw : Cond.constant own index v ∈ sT) (k : sSim l G own cc nL ret d (pc + 2) L (.int v :: S) σ o τ) : sSim l G own cc nL ret d pc L S σ o τ :=
  fun p e s m args below meth c X H locs ls hl hP hS => lv_ldc X.1 X.2.1 X.2.2.2.2.1 (X.2.2.2.2.2.1 _ hw) hd (k p e s m args below meth c X H locs ls hl hP hS)
theorem s_ldcw {index : Nat} (v : Int32) (hd : decode cc pc = .ok (.ldc_w index, 3)) (hw : Cond.constant own index v ∈ sT) (k : sSim l G own cc nL ret d (pc + 3) L (.int v :: S) σ o τ) : sSim l G own cc nL ret d pc L S σ o τ :=
  fun p e s m args below meth c X H locs ls hl hP hS => lv_ldcw X.1 X.2.1 X.2.2.2.2.1 (X.2.2.2.2.2.1 _ hw) hd (k p e s m args below meth c X H locs ls hl hP hS)
theorem s_ldc2 {index : Nat} (v : Int64) (hd : decode cc pc = .ok (.ldc2_w index, 3)) (hw : Cond.constantLong own index v ∈ sT) (k : sSim l G own cc nL ret d (pc + 3) L (.long v :: S) σ o τ) : sSim l G own cc nL ret d pc L S σ o τ :=
  fun p e s m args below meth c X H locs ls hl hP hS => lv_ldc2 X.1 X.2.1 X.2.2.2.2.1 (X.2.2.2.2.2.1 _ hw) hd (k p e s m args below meth c X H locs ls hl hP hS)

theorem sE_i (G : sG) (σ : sS) {q n : Nat} (h : shL[q]? = some (.inr (0, n))) : sE G σ q = .inl (gI G, n, .inl (σ.1 q)) := by unfold sE; rw [h]; rfl
theorem sE_l (G : sG) (σ : sS) {q n : Nat} (h : shL[q]? = some (.inr (1, n))) : sE G σ q = .inl (gJ G, n, .inr (.inl (σ.2 q))) := by unfold sE; rw [h]; rfl
theorem sE_z (G : sG) (σ : sS) {q n : Nat} (h : shL[q]? = some (.inr (2, n))) : sE G σ q = .inl (gZ G, n, .inl (σ.1 q)) := by unfold sE; rw [h]; rfl
theorem sE_q (G : sG) (σ : sS) {q n : Nat} (h : shL[q]? = some (.inr (3, n))) : sE G σ q = .inl (gQ G, n, .inr (.inr (.inr (.inr (fun j => some (gA G (73 + j))))))) := by unfold sE; rw [h]; rfl
theorem sE_o (G : sG) (σ : sS) {q ci : Nat} {fl : List (Option Nat)} (h : shL[q]? = some (.inl (ci, fl))) : sE G σ q = .inr (ci, sF G (σ.1 q) 0 fl) := by unfold sE; rw [h]; rfl
theorem s_iald {q n : Nat} {i : Int32} (hd : decode cc pc = .ok (.iaload, 1)) (hs : shL[q]? = some (.inr (0, n))) (h : grd (sIn i n) A = some r) (k : A = some r → sSim l G own cc nL ret d (pc + 1) L (.int (σ.1 q i.toNatClampNeg) :: S) σ o τ) : sSim l G own cc nL ret d pc L (.int i :: .ref (gA G q) :: S) σ o τ :=
  fun p e s m args below meth c X H locs ls hl hP hS => va_iald X.1 X.2.1 X.2.2.2.2.2.2.2.1 hP q 0 (sW_at G σ (s_lt hs) (sE_i G σ hs)) rfl (sIn_vp (grd_inv h).1) hd (k (grd_inv h).2 p e s m args below meth c X H locs ls hl hP hS)
theorem s_lald {q n : Nat} {i : Int32} (hd : decode cc pc = .ok (.laload, 1)) (hs : shL[q]? = some (.inr (1, n))) (h : grd (sIn i n) A = some r) (k : A = some r → sSim l G own cc nL ret d (pc + 1) L (.long (σ.2 q i.toNatClampNeg) :: S) σ o τ) : sSim l G own cc nL ret d pc L (.int i :: .ref (gA G q) :: S) σ o τ :=
  fun p e s m args below meth c X H locs ls hl hP hS => va_lald X.1 X.2.1 X.2.2.2.2.2.2.2.1 hP q 1 (sW_at G σ (s_lt hs) (sE_l G σ hs)) rfl (sIn_vp (grd_inv h).1) hd (k (grd_inv h).2 p e s m args below meth c X H locs ls hl hP hS)
theorem s_zald {q n : Nat} {i : Int32} (hd : decode cc pc = .ok (.baload, 1)) (hs : shL[q]? = some (.inr (2, n))) (h : grd (sIn i n) A = some r) (k : A = some r → sSim l G own cc nL ret d (pc + 1) L (.int (σ.1 q i.toNatClampNeg) :: S) σ o τ) : sSim l G own cc nL ret d pc L (.int i :: .ref (gA G q) :: S) σ o τ :=
  fun p e s m args below meth c X H locs ls hl hP hS => va_zald X.1 X.2.1 X.2.2.2.2.2.2.2.1 hP q 2 (sW_at G σ (s_lt hs) (sE_z G σ hs)) rfl (sIn_vp (grd_inv h).1) hd (k (grd_inv h).2 p e s m args below meth c X H locs ls hl hP hS)
theorem s_alen {q k0 n : Nat} (v : Int32) (hd : decode cc pc = .ok (.arraylength, 1)) (hs : shL[q]? = some (.inr (k0, n))) (hk : k0 < 2) (hv : Int32.ofNat n = v) (k : sSim l G own cc nL ret d (pc + 1) L (.int v :: S) σ o τ) : sSim l G own cc nL ret d pc L (.ref (gA G q) :: S) σ o τ := by
  intro p e s m args below meth c X H locs ls hl hP hS
  rcases (show k0 = 0 ∨ k0 = 1 by omega) with rfl | rfl
  · exact va_alen X.1 X.2.1 X.2.2.2.2.2.2.2.1 hP q 0 (sW_at G σ (s_lt hs) (sE_i G σ hs)) rfl hv hd (k p e s m args below meth c X H locs ls hl hP hS)
  · exact va_alen X.1 X.2.1 X.2.2.2.2.2.2.2.1 hP q 1 (sW_at G σ (s_lt hs) (sE_l G σ hs)) rfl hv hd (k p e s m args below meth c X H locs ls hl hP hS)
theorem sE_iset (G : sG) (σ : sS) {q n : Nat} (h : shL[q]? = some (.inr (0, n))) (j : Nat) (v : Int32) : sE G (sI σ q j v) q = .inl (gI G, n, .inl (upd (σ.1 q) j v)) := by
  rw [sE_i G _ h]
  simp [sI]
theorem sE_zset (G : sG) (σ : sS) {q n : Nat} (h : shL[q]? = some (.inr (2, n))) (j : Nat) (v : Int32) : sE G (sI σ q j v) q = .inl (gZ G, n, .inl (upd (σ.1 q) j v)) := by
  rw [sE_z G _ h]
  simp [sI]
theorem sE_lset (G : sG) (σ : sS) {q n : Nat} (h : shL[q]? = some (.inr (1, n))) (j : Nat) (v : Int64) : sE G (sJ σ q j v) q = .inl (gJ G, n, .inr (.inl (vp_updL (σ.2 q) j v))) := by
  rw [sE_l G _ h]
  simp [sJ]
theorem s_iast {q n : Nat} {i x : Int32} {K : sS → Option ρ} (hd : decode cc pc = .ok (.iastore, 1)) (hs : shL[q]? = some (.inr (0, n))) (h : grd (sIn i n) (pt (sI σ q i.toNatClampNeg x) K) = some r) (k : ∀ σ1, σ1 = sI σ q i.toNatClampNeg x → K σ1 = some r → sSim l G own cc nL ret d (pc + 1) L S σ1 o τ) : sSim l G own cc nL ret d pc L (.int x :: .int i :: .ref (gA G q) :: S) σ o τ :=
  fun p e s m args below meth c X H locs ls hl hP hS => va_iast X.1 X.2.1 X.2.2.2.2.2.2.2.1 hP (sD X.2.2.2.2.2.2.2.2.1 σ) hS q 0 (sW_at G σ (s_lt hs) (sE_i G σ hs)) rfl (sIn_vp (grd_inv h).1) hd (fun H1 locs1 hP1 _ hS1 => k _ rfl (pt_inv (grd_inv h).2) p e s m args below meth c X H1 locs1 ls hl (by rw [sW_set G σ (sI σ q i.toNatClampNeg x) (sE_iset G σ hs _ _) (fun j hj => sE_I_ne G σ q _ _ hj)] at hP1; exact hP1) hS1)
theorem s_zast {q n : Nat} {i x : Int32} {K : sS → Option ρ} (hd : decode cc pc = .ok (.bastore, 1)) (hs : shL[q]? = some (.inr (2, n))) (h : grd (sIn i n) (pt (sI σ q i.toNatClampNeg (x &&& 1)) K) = some r) (k : ∀ σ1, σ1 = sI σ q i.toNatClampNeg (x &&& 1) → K σ1 = some r → sSim l G own cc nL ret d (pc + 1) L S σ1 o τ) : sSim l G own cc nL ret d pc L (.int x :: .int i :: .ref (gA G q) :: S) σ o τ :=
  fun p e s m args below meth c X H locs ls hl hP hS => va_zast X.1 X.2.1 X.2.2.2.2.2.2.2.1 hP (sD X.2.2.2.2.2.2.2.2.1 σ) hS q 2 (sW_at G σ (s_lt hs) (sE_z G σ hs)) rfl (sIn_vp (grd_inv h).1) hd (fun H1 locs1 hP1 _ hS1 => k _ rfl (pt_inv (grd_inv h).2) p e s m args below meth c X H1 locs1 ls hl (by rw [show vp_nar .boolean x = x &&& 1 from rfl, sW_set G σ (sI σ q i.toNatClampNeg (x &&& 1)) (sE_zset G σ hs _ _) (fun j hj => sE_I_ne G σ q _ _ hj)] at hP1; exact hP1) hS1)
theorem s_last {q n : Nat} {i : Int32} {x : Int64} {K : sS → Option ρ} (hd : decode cc pc = .ok (.lastore, 1)) (hs : shL[q]? = some (.inr (1, n))) (h : grd (sIn i n) (pt (sJ σ q i.toNatClampNeg x) K) = some r) (k : ∀ σ1, σ1 = sJ σ q i.toNatClampNeg x → K σ1 = some r → sSim l G own cc nL ret d (pc + 1) L S σ1 o τ) : sSim l G own cc nL ret d pc L (.long x :: .int i :: .ref (gA G q) :: S) σ o τ :=
  fun p e s m args below meth c X H locs ls hl hP hS => va_last X.1 X.2.1 X.2.2.2.2.2.2.2.1 hP (sD X.2.2.2.2.2.2.2.2.1 σ) hS q 1 (sW_at G σ (s_lt hs) (sE_l G σ hs)) rfl (sIn_vp (grd_inv h).1) hd (fun H1 locs1 hP1 _ hS1 => k _ rfl (pt_inv (grd_inv h).2) p e s m args below meth c X H1 locs1 ls hl (by rw [sW_set G σ (sJ σ q i.toNatClampNeg x) (sE_lset G σ hs _ _) (fun j hj => sE_J_ne G σ q _ _ hj)] at hP1; exact hP1) hS1)

theorem s_getI {q ci j N idx : Nat} {C : String} {T : u_T} {ty : Nat → FieldType} {fl : List (Option Nat)} (hd : decode cc pc = .ok (.getfield idx, 3)) (hc : sKc ci C T N ty) (hw : Cond.fieldLink own idx (T j).1 (T j).2.1 (T j).2.2.1 ∈ sT) (hj : j < N) (hs : shL[q]? = some (.inl (ci, fl))) (hf : fl[j]? = some none) (k : sSim l G own cc nL ret d (pc + 3) L (.int (σ.1 q j) :: S) σ o τ) : sSim l G own cc nL ret d pc L (.ref (gA G q) :: S) σ o τ :=
  fun p e s m args below meth c X H locs ls hl hP hS => va_get (ref := (T j).1) X.1 X.2.1 X.2.2.2.2.2.1 hc.2.1 X.2.2.2.2.1 X.2.2.2.2.2.2.2.1 hP q (sW_at G σ (s_lt hs) (sE_o G σ hs)) hc.1 j hj (X.2.2.2.2.2.1 _ hw) (fun _ h9 => h9) (by have h8 := sF_int G (σ.1 q) fl 0 j hf; rw [Nat.zero_add] at h8; exact h8) hd (k p e s m args below meth c X H locs ls hl hP hS)
theorem s_getR {q q1 ci j N idx : Nat} {C : String} {T : u_T} {ty : Nat → FieldType} {fl : List (Option Nat)} (hd : decode cc pc = .ok (.getfield idx, 3)) (hc : sKc ci C T N ty) (hw : Cond.fieldLink own idx (T j).1 (T j).2.1 (T j).2.2.1 ∈ sT) (hj : j < N) (hs : shL[q]? = some (.inl (ci, fl))) (hf : fl[j]? = some (some q1)) (k : sSim l G own cc nL ret d (pc + 3) L (.ref (gA G q1) :: S) σ o τ) : sSim l G own cc nL ret d pc L (.ref (gA G q) :: S) σ o τ :=
  fun p e s m args below meth c X H locs ls hl hP hS => va_get (ref := (T j).1) X.1 X.2.1 X.2.2.2.2.2.1 hc.2.1 X.2.2.2.2.1 X.2.2.2.2.2.2.2.1 hP q (sW_at G σ (s_lt hs) (sE_o G σ hs)) hc.1 j hj (X.2.2.2.2.2.1 _ hw) (fun _ h9 => h9) (sF_ref G (σ.1 q) fl 0 j q1 hf) hd (k p e s m args below meth c X H locs ls hl hP hS)
theorem sE_oset (G : sG) (σ : sS) {q ci j : Nat} {fl : List (Option Nat)} (h : shL[q]? = some (.inl (ci, fl))) (hf : fl[j]? = some none) (v : Int32) : sE G (sI σ q j v) q = .inr (ci, (sF G (σ.1 q) 0 fl).set j (.int v)) := by
  rw [sE_o G _ h, sF_set G (σ.1 q) v fl 0 j hf, Nat.zero_add]
  simp [sI]
theorem s_putI {q ci j N idx : Nat} {C : String} {T : u_T} {ty : Nat → FieldType} {fl : List (Option Nat)} {x : Int32} {K : sS → Option ρ} (hd : decode cc pc = .ok (.putfield idx, 3)) (hc : sKc ci C T N ty) (hw : Cond.fieldLink own idx (T j).1 (T j).2.1 (T j).2.2.1 ∈ sT) (hj : j < N) (hfin : (T j).2.2.2 = false) (hty : ty j = .int) (hs : shL[q]? = some (.inl (ci, fl))) (hf : fl[j]? = some none) (h : pt (sI σ q j x) K = some r) (k : ∀ σ1, σ1 = sI σ q j x → K σ1 = some r → sSim l G own cc nL ret d (pc + 3) L S σ1 o τ) : sSim l G own cc nL ret d pc L (.int x :: .ref (gA G q) :: S) σ o τ :=
  fun p e s m args below meth c X H locs ls hl hP hS => va_put (ref := (T j).1) X.1 X.2.1 X.2.2.2.2.2.1 hc.2.1 ty hc.2.2.1 hc.2.2.2 X.2.2.2.2.1 X.2.2.2.2.2.2.2.1 hP (sD X.2.2.2.2.2.2.2.2.1 σ) hS q (sW_at G σ (s_lt hs) (sE_o G σ hs)) hc.1 j hj (X.2.2.2.2.2.1 _ hw) (fun _ h9 => h9) hfin (hc.2.2.1 j hj) (by rw [hty]; rfl) (by rw [hty]; rfl) (by rw [sF_len]; exact (List.getElem?_eq_some_iff.mp hf).1) hd (fun H1 locs1 hP1 _ hS1 => k _ rfl (pt_inv h) p e s m args below meth c X H1 locs1 ls hl (by rw [sW_set G σ (sI σ q j x) (sE_oset G σ hs hf x) (fun i hi => sE_I_ne G σ q _ _ hi)] at hP1; exact hP1) hS1)
def sBo (x : Int32) : Bool := decide (x = 0) || decide (x = 1)
theorem sBo_n {x : Int32} (h : sBo x = true) : narrow .boolean (.int x) = .int x := by
  unfold sBo at h
  rw [Bool.or_eq_true, decide_eq_true_eq, decide_eq_true_eq] at h
  rcases h with rfl | rfl <;> rfl
theorem sBo_f {x : Int32} (h : sBo x = true) : fits .boolean (.int x) = true := by
  unfold sBo at h
  rw [Bool.or_eq_true, decide_eq_true_eq, decide_eq_true_eq] at h
  rcases h with rfl | rfl <;> rfl
theorem s_putZ {q ci j N idx : Nat} {C : String} {T : u_T} {ty : Nat → FieldType} {fl : List (Option Nat)} {x : Int32} {K : sS → Option ρ} (hd : decode cc pc = .ok (.putfield idx, 3)) (hc : sKc ci C T N ty) (hw : Cond.fieldLink own idx (T j).1 (T j).2.1 (T j).2.2.1 ∈ sT) (hj : j < N) (hfin : (T j).2.2.2 = false) (hty : ty j = .boolean) (hs : shL[q]? = some (.inl (ci, fl))) (hf : fl[j]? = some none) (h : grd (sBo x) (pt (sI σ q j x) K) = some r) (k : ∀ σ1, σ1 = sI σ q j x → K σ1 = some r → sSim l G own cc nL ret d (pc + 3) L S σ1 o τ) : sSim l G own cc nL ret d pc L (.int x :: .ref (gA G q) :: S) σ o τ :=
  fun p e s m args below meth c X H locs ls hl hP hS => va_put (ref := (T j).1) X.1 X.2.1 X.2.2.2.2.2.1 hc.2.1 ty hc.2.2.1 hc.2.2.2 X.2.2.2.2.1 X.2.2.2.2.2.2.2.1 hP (sD X.2.2.2.2.2.2.2.2.1 σ) hS q (sW_at G σ (s_lt hs) (sE_o G σ hs)) hc.1 j hj (X.2.2.2.2.2.1 _ hw) (fun _ h9 => h9) hfin (hc.2.2.1 j hj) (by rw [hty]; exact sBo_n (grd_inv h).1) (by rw [hty]; exact sBo_f (grd_inv h).1) (by rw [sF_len]; exact (List.getElem?_eq_some_iff.mp hf).1) hd (fun H1 locs1 hP1 _ hS1 => k _ rfl (pt_inv (grd_inv h).2) p e s m args below meth c X H1 locs1 ls hl (by rw [sW_set G σ (sI σ q j x) (sE_oset G σ hs hf x) (fun i hi => sE_I_ne G σ q _ _ hi)] at hP1; exact hP1) hS1)
/-- the method's end -/
theorem s_iret {v : Int32} {ty : FieldType} (hd : decode cc pc = .ok (.ireturn, 1)) (hr : ret = some ty) (hn : narrow ty (.int v) = .int v) : sSim l G own cc nL ret d pc L [.int v] σ (some (.int v)) σ :=
  fun p e s m args below meth c X H locs ls hl hP hS => W.zret (hlocks := X.2.2.2.2.2.2.1) X.1 X.2.1 (X.2.2.2.1.trans hr) hn (fun t ht hW => ⟨⟨rfl, by rw [ht]; exact hP⟩, hS.F ht⟩) hS.2.2 hd
theorem s_lret {v : Int64} (hd : decode cc pc = .ok (.lreturn, 1)) (hr : ret = some .long) : sSim l G own cc nL ret d pc L [.long v] σ (some (.long v)) σ :=
  fun p e s m args below meth c X H locs ls hl hP hS => W.lret (hlocks := X.2.2.2.2.2.2.1) X.1 X.2.1 (X.2.2.2.1.trans hr) (fun t ht hW => ⟨⟨rfl, by rw [ht]; exact hP⟩, hS.F ht⟩) hS.2.2 hd
theorem s_vret (hd : decode cc pc = .ok (.return_, 1)) (hr : ret = none) : sSim l G own cc nL ret d pc L [] σ none σ :=
  fun p e s m args below meth c X H locs ls hl hP hS => W.vret (hlocks := X.2.2.2.2.2.2.1) X.1 X.2.1 (X.2.2.2.1.trans hr) (fun t ht hW => ⟨⟨rfl, by rw [ht]; exact hP⟩, hS.F ht⟩) hS.2.2 hd
theorem s_iretS {v : Int32} {r : Int32 × sS} {ty : FieldType} (hd : decode cc pc = .ok (.ireturn, 1)) (hr : ret = some ty) (hn : narrow ty (.int v) = .int v) (h : some (v, σ) = some r) : sSim l G own cc nL ret d pc L [.int v] σ (some (.int r.1)) r.2 := by
  cases h
  exact s_iret hd hr hn
theorem s_iretP {v r : Int32} {ty : FieldType} (hd : decode cc pc = .ok (.ireturn, 1)) (hr : ret = some ty) (hn : narrow ty (.int v) = .int v) (h : some v = some r) : sSim l G own cc nL ret d pc L [.int v] σ (some (.int r)) σ := by
  cases h
  exact s_iret hd hr hn
theorem s_zretS {v : Int32} {r : Int32 × sS} (hd : decode cc pc = .ok (.ireturn, 1)) (hr : ret = some .boolean) (h : grd (sBo v) (some (v, σ)) = some r) : sSim l G own cc nL ret d pc L [.int v] σ (some (.int r.1)) r.2 :=
  s_iretS hd hr (sBo_n (grd_inv h).1) (grd_inv h).2
theorem s_zretP {v r : Int32} (hd : decode cc pc = .ok (.ireturn, 1)) (hr : ret = some .boolean) (h : grd (sBo v) (some v) = some r) : sSim l G own cc nL ret d pc L [.int v] σ (some (.int r)) σ :=
  s_iretP hd hr (sBo_n (grd_inv h).1) (grd_inv h).2
theorem s_lretP {v r : Int64} (hd : decode cc pc = .ok (.lreturn, 1)) (hr : ret = some .long) (h : some v = some r) : sSim l G own cc nL ret d pc L [.long v] σ (some (.long r)) σ := by
  cases h
  exact s_lret hd hr
theorem s_lretS {v : Int64} {r : Int64 × sS} (hd : decode cc pc = .ok (.lreturn, 1)) (hr : ret = some .long) (h : some (v, σ) = some r) : sSim l G own cc nL ret d pc L [.long v] σ (some (.long r.1)) r.2 := by
  cases h
  exact s_lret hd hr
theorem s_vretS {r : sS} (hd : decode cc pc = .ok (.return_, 1)) (hr : ret = none) (h : some σ = some r) : sSim l G own cc nL ret d pc L [] σ none r := by
  cases h
  exact s_vret hd hr
end SI
