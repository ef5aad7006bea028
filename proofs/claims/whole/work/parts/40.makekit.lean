/-! the making of the world: cells come one behind the other, a reference field is null until its flag (the field's own int) isn't 0 -/
theorem va_AOA_moved {t : FieldType} {u U : State} (hvm : u.vm.Alike U.vm) (h : (Cond.arrayOver (.array t)).before #[] u = true) : (Cond.arrayOver (.array t)).before #[] U = true := by
  obtain ⟨comp, c, k, h1, h2, h3, h4, h5⟩ := arrayOverA_spec h
  obtain ⟨k', hk', he⟩ := hvm.2.2 _ _ h3
  have hi : (U.vm.classes.findIdx? fun (x : Class) => match x.kind with | .array component _ => component == comp | _ => false) = some c := by
    refine (va_idx_bare U.vm comp).symm.trans ?_
    first | rw [hvm.bare_eq] | rw [← hvm.bare_eq]
    exact (va_idx_bare u.vm comp).trans h2
  have hkind : k'.kind = .array comp (.array t) := by rw [he]; exact h4
  have f1 : U.vm.findClass (FieldType.array t).toString = some comp := by rw [hvm.findClass]; exact h1
  have f2 : U.vm.findClass ("[" ++ (FieldType.array t).toString) = some c := by rw [hvm.findClass]; exact h5
  unfold Cond.before Cond.holds
  simp only [Cond.value]
  rw [f1, Option.bind_some]
  refine (congrArg (fun o : Option Nat => (o.bind (fun c => (U.vm.classes[c]?).map fun (k : Class) => match k.kind with | .array _ ty => decide (ty = FieldType.array t) && decide (U.vm.findClass ("[" ++ (FieldType.array t).toString) = some c) | _ => false) == some true)) hi).trans ?_
  simp [hk', hkind, f2]
theorem arrV_congr (c : ClassId) (N : Nat) {f g : Nat → Value} (h : ∀ j, j < N → f j = g j) : arrV c N f = arrV c N g := by
  unfold arrV
  have h1 : (fun j : Fin N => f j.val) = (fun j => g j.val) := funext fun j => h j.val j.isLt
  rw [h1]
def mF (G : sG) (f : Nat → Int32) : Nat → List (Option Nat) → List Value
  | _, [] => []
  | j, none :: l => .int (f j) :: mF G f (j + 1) l
  | j, some q :: l => (if f j = 0 then .null else .ref (gA G q)) :: mF G f (j + 1) l
theorem mF_len (G : sG) (f : Nat → Int32) : ∀ (l : List (Option Nat)) (j : Nat), (mF G f j l).length = l.length
  | [], _ => rfl
  | none :: l, j => congrArg (· + 1) (mF_len G f l (j + 1))
  | some _ :: l, j => congrArg (· + 1) (mF_len G f l (j + 1))
theorem mF_zero (G : sG) : ∀ (l : List (Option Nat)) (j : Nat), mF G (fun _ => 0) j l = l.map (fun x => match x with | none => .int 0 | some _ => .null)
  | [], _ => rfl
  | none :: l, j => congrArg (Value.int 0 :: ·) (mF_zero G l (j + 1))
  | some _ :: l, j => congrArg (Value.null :: ·) (mF_zero G l (j + 1))
theorem mF_congr (G : sG) (f g : Nat → Int32) : ∀ (l : List (Option Nat)) (j : Nat), (∀ i, j ≤ i → f i = g i) → mF G f j l = mF G g j l
  | [], _, _ => rfl
  | none :: l, j, h => by
    show Value.int (f j) :: mF G f (j + 1) l = Value.int (g j) :: mF G g (j + 1) l
    rw [h j (Nat.le_refl j), mF_congr G f g l (j + 1) (fun i hi => h i (by omega))]
  | some q :: l, j, h => by
    show (if f j = 0 then Value.null else Value.ref (gA G q)) :: mF G f (j + 1) l = (if g j = 0 then Value.null else Value.ref (gA G q)) :: mF G g (j + 1) l
    rw [h j (Nat.le_refl j), mF_congr G f g l (j + 1) (fun i hi => h i (by omega))]
/-- the value that a field has by its int -/
def mV (G : sG) (x : Option Nat) (v : Int32) : Value := match x with
  | none => .int v
  | some q => if v = 0 then .null else .ref (gA G q)
theorem mF_at (G : sG) (f : Nat → Int32) : ∀ (l : List (Option Nat)) (j k : Nat) (x : Option Nat), l[k]? = some x → (mF G f j l)[k]? = some (mV G x (f (j + k)))
  | [], _, _, _, h => by simp at h
  | none :: l, j, 0, x, h => by
    simp at h
    subst h
    rfl
  | some q :: l, j, 0, x, h => by
    simp at h
    subst h
    rfl
  | none :: l, j, k + 1, x, h => by
    have := mF_at G f l (j + 1) k x (by simpa using h)
    rw [show j + 1 + k = j + (k + 1) by omega] at this
    simpa [mF] using this
  | some q :: l, j, k + 1, x, h => by
    have := mF_at G f l (j + 1) k x (by simpa using h)
    rw [show j + 1 + k = j + (k + 1) by omega] at this
    simpa [mF] using this
theorem mF_set (G : sG) (f : Nat → Int32) (v : Int32) : ∀ (l : List (Option Nat)) (j k : Nat) (x : Option Nat), l[k]? = some x → (mF G f j l).set k (mV G x v) = mF G (upd f (j + k) v) j l
  | [], _, _, _, h => by simp at h
  | none :: l, j, 0, x, h => by
    simp at h
    subst h
    show Value.int v :: mF G f (j + 1) l = Value.int (upd f (j + 0) v j) :: mF G (upd f (j + 0) v) (j + 1) l
    rw [show upd f (j + 0) v j = v by simp [upd], mF_congr G (upd f (j + 0) v) f l (j + 1) (fun i hi => by simp [upd, show i ≠ j by omega])]
  | some q :: l, j, 0, x, h => by
    simp at h
    subst h
    show (if v = 0 then Value.null else Value.ref (gA G q)) :: mF G f (j + 1) l = (if upd f (j + 0) v j = 0 then Value.null else Value.ref (gA G q)) :: mF G (upd f (j + 0) v) (j + 1) l
    rw [show upd f (j + 0) v j = v by simp [upd], mF_congr G (upd f (j + 0) v) f l (j + 1) (fun i hi => by simp [upd, show i ≠ j by omega])]
  | none :: l, j, k + 1, x, h => by
    show Value.int (f j) :: (mF G f (j + 1) l).set k (mV G x v) = Value.int (upd f (j + (k + 1)) v j) :: mF G (upd f (j + (k + 1)) v) (j + 1) l
    rw [mF_set G f v l (j + 1) k x (by simpa using h), show j + 1 + k = j + (k + 1) by omega, show upd f (j + (k + 1)) v j = f j by simp [upd, show j ≠ j + (k + 1) by omega]]
  | some q :: l, j, k + 1, x, h => by
    show (if f j = 0 then Value.null else Value.ref (gA G q)) :: (mF G f (j + 1) l).set k (mV G x v) = (if upd f (j + (k + 1)) v j = 0 then Value.null else Value.ref (gA G q)) :: mF G (upd f (j + (k + 1)) v) (j + 1) l
    rw [mF_set G f v l (j + 1) k x (by simpa using h), show j + 1 + k = j + (k + 1) by omega, show upd f (j + (k + 1)) v j = f j by simp [upd, show j ≠ j + (k + 1) by omega]]
def mEs (G : sG) (fi : Nat → Int32) (fl : Nat → Int64) : Option ((Nat × List (Option Nat)) ⊕ (Nat × Nat)) → va_E
  | some (.inl (ci, l)) => .inr (ci, mF G fi 0 l)
  | x => sEs G fi fl x
def mE (G : sG) (σ : sS) (k : Nat) : va_E := mEs G (σ.1 k) (σ.2 k) shL[k]?
def mW (G : sG) (σ : sS) (K : Nat) : va_W := (List.range K).map (fun k => (gA G k, mE G σ k))
theorem mE_o (G : sG) (σ : sS) {q ci : Nat} {fl : List (Option Nat)} (h : shL[q]? = some (.inl (ci, fl))) : mE G σ q = .inr (ci, mF G (σ.1 q) 0 fl) := by unfold mE; rw [h]; rfl
theorem mE_r (G : sG) (σ : sS) {q : Nat} {x : Nat × Nat} (h : shL[q]? = some (.inr x)) : mE G σ q = sE G σ q := by unfold mE sE; rw [h]; rfl
theorem mW_get (G : sG) (σ : sS) {K k : Nat} (h : k < K) : (mW G σ K)[k]? = some (gA G k, mE G σ k) := by
  unfold mW
  rw [List.getElem?_map, List.getElem?_range h]
  rfl
theorem mW_at (G : sG) (σ : sS) {K k : Nat} {e : va_E} (h : k < K) (he : mE G σ k = e) : (mW G σ K)[k]? = some (gA G k, e) := by rw [mW_get G σ h, he]
theorem mW_succ (G : sG) (σ : sS) (K : Nat) : mW G σ (K + 1) = mW G σ K ++ [(gA G K, mE G σ K)] := by
  unfold mW
  rw [List.range_succ, List.map_append]
  rfl
theorem mW_set (G : sG) (σ τ : sS) {K k : Nat} {e : va_E} (he : mE G τ k = e) (h : ∀ j, j ≠ k → mE G τ j = mE G σ j) : (mW G σ K).set k (gA G k, e) = mW G τ K := by
  apply List.ext_getElem?
  intro i
  by_cases hi : i < K
  · rw [mW_get G τ hi]
    by_cases hk : i = k
    · subst hk
      rw [List.getElem?_set_self (by unfold mW; simpa using hi), he]
    · rw [List.getElem?_set_ne (Ne.symm hk), mW_get G σ hi, h i hk]
  · have h1 : K ≤ i := by omega
    rw [List.getElem?_eq_none (by rw [List.length_set]; unfold mW; simpa using h1), List.getElem?_eq_none (by unfold mW; simpa using h1)]
theorem mE_I_ne (G : sG) (σ : sS) (q j : Nat) (v : Int32) {i : Nat} (h : i ≠ q) : mE G (sI σ q j v) i = mE G σ i := by
  unfold mE sI
  simp only [if_neg h]
/-- beyond K all is 0 -/
def zr (σ : sS) (K : Nat) : Prop := ∀ k, K ≤ k → σ.1 k = (fun _ => 0) ∧ σ.2 k = (fun _ => 0)
theorem zr_s {σ : sS} {K K' : Nat} (h : zr σ K) (hk : K ≤ K') : zr σ K' := fun k hk' => h k (by omega)
theorem zr_I {σ : sS} {K q j : Nat} {v : Int32} (h : zr σ K) (hq : q < K) : zr (sI σ q j v) K := fun k hk => by
  unfold sI
  simp only [if_neg (show k ≠ q by omega)]
  exact h k hk
def mA (h0 : Nat) : Nat → Prop := fun q => h0 ≤ q
/-- the words of the links to the private constructors, and of the rows of rows -/
def mNW : List (String × Nat × MethodName × String) := [("RoundAndUp", 9, ({ cls := "RoundAndUp$Ring", name := "<init>", desc := "()V" } : Jvm.MethodName), "RoundAndUp"), ("RoundAndUp$Ring", 30, ({ cls := "RoundAndUp$RuleBook", name := "<init>", desc := "()V" } : Jvm.MethodName), "RoundAndUp"), ("RoundAndUp", 18, ({ cls := "RoundAndUp$Children", name := "<init>", desc := "()V" } : Jvm.MethodName), "RoundAndUp"), ("RoundAndUp", 25, ({ cls := "RoundAndUp$Photos", name := "<init>", desc := "()V" } : Jvm.MethodName), "RoundAndUp"), ("RoundAndUp", 41, ({ cls := "RoundAndUp$RuleReader", name := "<init>", desc := "()V" } : Jvm.MethodName), "RoundAndUp"), ("RoundAndUp$RuleReader", 11, ({ cls := "RoundAndUp$RuleBook", name := "<init>", desc := "()V" } : Jvm.MethodName), "RoundAndUp"), ("RoundAndUp", 48, ({ cls := "RoundAndUp$Tuner", name := "<init>", desc := "()V" } : Jvm.MethodName), "RoundAndUp"), ("RoundAndUp", 55, ({ cls := "RoundAndUp$Seating", name := "<init>", desc := "()V" } : Jvm.MethodName), "RoundAndUp"), ("RoundAndUp", 62, ({ cls := "RoundAndUp$Rows", name := "<init>", desc := "()V" } : Jvm.MethodName), "RoundAndUp"), ("RoundAndUp", 69, ({ cls := "RoundAndUp$Sheets", name := "<init>", desc := "()V" } : Jvm.MethodName), "RoundAndUp"), ("RoundAndUp", 76, ({ cls := "RoundAndUp$Shelves", name := "<init>", desc := "()V" } : Jvm.MethodName), "RoundAndUp"), ("RoundAndUp", 83, ({ cls := "RoundAndUp$Acts", name := "<init>", desc := "()V" } : Jvm.MethodName), "RoundAndUp")]
def mNs (U : State) : Prop := (∀ q ∈ mNW, va_Nw (.methodLinkNest q.1 q.2.1 q.2.2.1 q.2.2.2) U) ∧ (Cond.arrayOver (.array .int)).before #[] U = true
def gAt (G : sG) (h0 : Nat) : Prop := ∀ k, gA G k = h0 + k
section SMAKE
variable {p : Program} {l : Launch} {e : Env} {R : Room} {s : State} {m : MethodId} {args : Array Value} {below : List Frame} {meth : Method} {c : Code} {Q : State → Prop}
variable {G : sG} {h0 : Nat} {own : String} {cc : ByteArray} {nL pc K cells slots : Nat} {L : List (Nat × Value)} {S : List Value} {σ τ : sS}
/-- what holds all along -/
def mX (G : sG) (h0 : Nat) (own : String) (cc : ByteArray) (nL : Nat) (p : Program) (s : State) (m : MethodId) (args : Array Value) (c : Code) : Prop :=
  p.tables.exec = Jvm.exec ∧ c.code = cc ∧ c.maxLocals = nL ∧ s.vm.findClass own = some m.cls ∧ (∀ w ∈ sT, w.before args s = true) ∧ sK G s ∧ gAt G h0 ∧ h0 ≤ s.heap.size ∧ mNs s
def mS (p : Program) (l : Launch) (e : Env) (R : Room) (s : State) (m : MethodId) (args : Array Value) (below : List Frame) (meth : Method) (c : Code) (Q : State → Prop) (G : sG) (h0 nL pc : Nat) (L : List (Nat × Value)) (S : List Value) (σ : sS) (K cells slots : Nat) : Prop :=
  ∀ (H : Heap) (locs : List Loc) (ls : Array Slot), lv_has ls nL L → H.size = h0 + K → zr σ K → va_P G.1 vwCl (mW G σ K) H → va_S (mA h0) s.heap H locs → W p l e R s m args below meth c H locs cells slots Q (F0 m pc ls S)
theorem m_iconst {n : Int} (v : Int32) (X : mX G h0 own cc nL p s m args c) (hd : decode cc pc = .ok (.iconst n, 1)) (hv : Int32.ofInt n = v) (k : mS p l e R s m args below meth c Q G h0 nL (pc + 1) L (.int v :: S) σ K cells slots) : mS p l e R s m args below meth c Q G h0 nL pc L S σ K cells slots :=
  fun H locs ls hl hz hr hP hS => lv_iconst X.1 X.2.1 hd hv (k H locs ls hl hz hr hP hS)
theorem m_bipush {n : Int} (v : Int32) (X : mX G h0 own cc nL p s m args c) (hd : decode cc pc = .ok (.bipush n, 2)) (hv : (Int8.ofInt n).toInt32 = v) (k : mS p l e R s m args below meth c Q G h0 nL (pc + 2) L (.int v :: S) σ K cells slots) : mS p l e R s m args below meth c Q G h0 nL pc L S σ K cells slots :=
  fun H locs ls hl hz hr hP hS => lv_bipush X.1 X.2.1 hd hv (k H locs ls hl hz hr hP hS)
theorem m_sipush {n : Int} (v : Int32) (X : mX G h0 own cc nL p s m args c) (hd : decode cc pc = .ok (.sipush n, 3)) (hv : (Int16.ofInt n).toInt32 = v) (k : mS p l e R s m args below meth c Q G h0 nL (pc + 3) L (.int v :: S) σ K cells slots) : mS p l e R s m args below meth c Q G h0 nL pc L S σ K cells slots :=
  fun H locs ls hl hz hr hP hS => lv_sipush X.1 X.2.1 hd hv (k H locs ls hl hz hr hP hS)
theorem m_aload_n {n : Fin 4} {x : Nat} (X : mX G h0 own cc nL p s m args c) (hd : decode cc pc = .ok (.aload_n n, 1)) (j : Nat) (hj : L[j]? = some ((n : Nat), .ref x)) (k : mS p l e R s m args below meth c Q G h0 nL (pc + 1) L (.ref x :: S) σ K cells slots) : mS p l e R s m args below meth c Q G h0 nL pc L S σ K cells slots :=
  fun H locs ls hl hz hr hP hS => lv_aload_n X.1 X.2.1 hd rfl (lv_at hl j hj) (k H locs ls hl hz hr hP hS)
theorem m_iload_n {n : Fin 4} {x : Int32} (X : mX G h0 own cc nL p s m args c) (hd : decode cc pc = .ok (.iload_n n, 1)) (j : Nat) (hj : L[j]? = some ((n : Nat), .int x)) (k : mS p l e R s m args below meth c Q G h0 nL (pc + 1) L (.int x :: S) σ K cells slots) : mS p l e R s m args below meth c Q G h0 nL pc L S σ K cells slots :=
  fun H locs ls hl hz hr hP hS => lv_iload_n X.1 X.2.1 hd rfl (lv_at hl j hj) (k H locs ls hl hz hr hP hS)
theorem m_istore_n {n : Fin 4} {x : Int32} (X : mX G h0 own cc nL p s m args c) (hd : decode cc pc = .ok (.istore_n n, 1)) (hn : (n : Nat) < nL) (L' : List (Nat × Value)) (hL : ((n : Nat), Value.int x) :: L.filter (fun q => !(q.1 == (n : Nat)) && !(q.1 + 1 == (n : Nat) && q.2.category == 2)) = L') (k : mS p l e R s m args below meth c Q G h0 nL (pc + 1) L' S σ K cells slots) : mS p l e R s m args below meth c Q G h0 nL pc L (.int x :: S) σ K cells slots :=
  fun H locs ls hl hz hr hP hS => lv_istore_n X.1 X.2.1 hd rfl hl hn hL (fun ls hl => k H locs ls hl hz hr hP hS)
theorem m_astore_n {n : Fin 4} {x : Nat} (X : mX G h0 own cc nL p s m args c) (hd : decode cc pc = .ok (.astore_n n, 1)) (hn : (n : Nat) < nL) (L' : List (Nat × Value)) (hL : ((n : Nat), Value.ref x) :: L.filter (fun q => !(q.1 == (n : Nat)) && !(q.1 + 1 == (n : Nat) && q.2.category == 2)) = L') (k : mS p l e R s m args below meth c Q G h0 nL (pc + 1) L' S σ K cells slots) : mS p l e R s m args below meth c Q G h0 nL pc L (.ref x :: S) σ K cells slots :=
  fun H locs ls hl hz hr hP hS => lv_astore_n X.1 X.2.1 hd rfl hl hn hL (fun ls hl => k H locs ls hl hz hr hP hS)
theorem m_inc {n : Nat} {z : Int} {x : Int32} (v : Int32) (X : mX G h0 own cc nL p s m args c) (hd : decode cc pc = .ok (.iinc n z, 3)) (j : Nat) (hj : L[j]? = some (n, .int x)) (hv : x + Int32.ofInt z = v) (hn : n < nL) (L' : List (Nat × Value)) (hL : (n, Value.int v) :: L.filter (fun q => !(q.1 == n) && !(q.1 + 1 == n && q.2.category == 2)) = L') (k : mS p l e R s m args below meth c Q G h0 nL (pc + 3) L' S σ K cells slots) : mS p l e R s m args below meth c Q G h0 nL pc L S σ K cells slots :=
  fun H locs ls hl hz hr hP hS => lv_iinc X.1 X.2.1 hd hl hj hv hn hL (fun ls hl => k H locs ls hl hz hr hP hS)
theorem m_dup {v : Value} (X : mX G h0 own cc nL p s m args c) (hd : decode cc pc = .ok (.dup, 1)) (hc : v.category = 1) (k : mS p l e R s m args below meth c Q G h0 nL (pc + 1) L (v :: v :: S) σ K cells slots) : mS p l e R s m args below meth c Q G h0 nL pc L (v :: S) σ K cells slots :=
  fun H locs ls hl hz hr hP hS => lv_dup X.1 X.2.1 hd hc (k H locs ls hl hz hr hP hS)
theorem m_goto {off : Int} (tgt : Nat) (X : mX G h0 own cc nL p s m args c) (hd : decode cc pc = .ok (.goto off, 3)) (ht : (pc : Int) + off = (tgt : Int)) (k : mS p l e R s m args below meth c Q G h0 nL tgt L S σ K cells slots) : mS p l e R s m args below meth c Q G h0 nL pc L S σ K cells slots :=
  fun H locs ls hl hz hr hP hS => lv_goto X.1 X.2.1 hd ht (k H locs ls hl hz hr hP hS)
theorem m_geT {x y : Int32} {off : Int} (tgt : Nat) (X : mX G h0 own cc nL p s m args c) (hd : decode cc pc = .ok (.if_icmp .ge off, 3)) (ht : (pc : Int) + off = (tgt : Int)) (hc : y ≤ x) (k : mS p l e R s m args below meth c Q G h0 nL tgt L S σ K cells slots) : mS p l e R s m args below meth c Q G h0 nL pc L (.int y :: .int x :: S) σ K cells slots :=
  fun H locs ls hl hz hr hP hS => lv_icmp_ge X.1 X.2.1 hd ht (fun _ => k H locs ls hl hz hr hP hS) (fun q => absurd hc q)
theorem m_geF {x y : Int32} {off : Int} (tgt : Nat) (X : mX G h0 own cc nL p s m args c) (hd : decode cc pc = .ok (.if_icmp .ge off, 3)) (ht : (pc : Int) + off = (tgt : Int)) (hc : ¬ y ≤ x) (k : mS p l e R s m args below meth c Q G h0 nL (pc + 3) L S σ K cells slots) : mS p l e R s m args below meth c Q G h0 nL pc L (.int y :: .int x :: S) σ K cells slots :=
  fun H locs ls hl hz hr hP hS => lv_icmp_ge X.1 X.2.1 hd ht (fun q => absurd q hc) (fun _ => k H locs ls hl hz hr hP hS)
theorem m_objInit {idx a : Nat} (X : mX G h0 own cc nL p s m args c) (hd : decode cc pc = .ok (.invokespecial idx, 3)) (hw : Cond.methodLink own idx Lib.objectInit ∈ sT) (hm : Cond.instanceMethod Lib.objectInit ∈ sT ∧ Cond.code Lib.objectInit ⟨#[0xb1]⟩ 1 none ∈ sT) (hS0 : S = []) (hR : 1 ≤ R.frames ∧ 12 ≤ R.locals) (k : mS p l e R s m args below meth c Q G h0 nL (pc + 3) L S σ K cells slots) : mS p l e R s m args below meth c Q G h0 nL pc L (.ref a :: S) σ K cells slots := by
  intro H locs ls hl hz hr hP hS
  have hts := X.2.2.2.2.1
  subst hS0
  refine W.objInit X.1 X.2.1 X.2.2.2.1 (hts _ hw) (hts _ hm.1) (hts _ hm.2) rfl (hl.1.trans X.2.2.1.symm) rfl hd hR.1 (by show 2 * 0 + 0 + 12 ≤ R.locals; exact hR.2) ?_
  exact k H locs ls hl hz hr hP hS
theorem m_size {K : Nat} {H : Heap} (hg : gAt G h0) (hz : H.size = h0 + K) : H.size = gA G K := by rw [hg K, hz]
theorem m_new {idx ci N : Nat} {C : String} {T : u_T} {ty : Nat → FieldType} {fl : List (Option Nat)} (X : mX G h0 own cc nL p s m args c) (hd : decode cc pc = .ok (.new idx, 3)) (hc : sKc ci C T N ty) (hw : Cond.classLink own idx C ∈ sT) (hi : Cond.instantiable C N ∈ sT) (hini : Cond.initialized C ∈ sT) (hs : shL[K]? = some (.inl (ci, fl))) (hfs : ∀ j, j < N → defaultValue (ty j) = vp_V (fl.map (fun x => match x with | none => .int 0 | some _ => .null)) j) (hcells : cells + 1 ≤ R.cells) (hslots : slots + N ≤ R.slots)
    (k : mS p l e R s m args below meth c Q G h0 nL (pc + 3) L (.ref (gA G K) :: S) σ (K + 1) (cells + 1) (slots + N)) : mS p l e R s m args below meth c Q G h0 nL pc L S σ K cells slots := by
  intro H locs ls hl hz hr hP hS
  have hts := X.2.2.2.2.1
  have hKn := X.2.2.2.2.2.1.1 ci _ hc.1
  refine W.newcK X.1 X.2.1 X.2.2.2.1 (hts _ hw) (hts _ hi) (hts _ hini) rfl hd hcells hslots hKn.2.1 (m_size X.2.2.2.2.2.2.1 hz) fun H1 kC hkC e1 z1 o1 => ?_
  have hk : ∀ (k : Nat) (x : Nat × va_E), (mW G σ K)[k]? = some x → H1[x.1]? = H[x.1]? := fun k x hx => o1 x.1 (by rw [← m_size X.2.2.2.2.2.2.1 hz]; exact (hP k x hx).lt)
  have hsz := m_size X.2.2.2.2.2.2.1 hz
  refine k H1 locs ls hl (by rw [z1, ← hsz, hz]; omega) (zr_s hr (by omega)) ?_ ⟨Nat.le_trans hS.1 (by omega), fun x h1 h2 => (o1 x (by have := hS.1; omega)).trans (hS.2.1 x h1 h2), hS.2.2⟩
  rw [mW_succ]
  refine (hP.kept hk).app (fun k x hx => ?_)
  have h9 : k < 1 := (List.getElem?_eq_some_iff.mp hx).1
  rw [show k = 0 by omega] at hx
  cases hx
  rw [mE_o G σ hs, (hr K (Nat.le_refl K)).1, mF_zero]
  exact ⟨_, hc.1, (u_born ty hts hc.2.1 hKn hkC e1 hc.2.2.1).to hfs⟩
theorem m_newI {N : Nat} {n : Int32} (X : mX G h0 own cc nL p s m args c) (hd : decode cc pc = .ok (.newarray .int, 2)) (hw : Cond.arrayClass .int ∈ sT) (hs : shL[K]? = some (.inr (0, N))) (hn : ¬ n < 0 ∧ n.toNatClampNeg = N ∧ N * componentBytes (newarray.typeOf .int) ≤ 536870912) (hcells : cells + 1 ≤ R.cells) (hslots : slots + N ≤ R.slots)
    (k : mS p l e R s m args below meth c Q G h0 nL (pc + 2) L (.ref (gA G K) :: S) σ (K + 1) (cells + 1) (slots + N)) : mS p l e R s m args below meth c Q G h0 nL pc L (.int n :: S) σ K cells slots := by
  intro H locs ls hl hz hr hP hS
  have hts := X.2.2.2.2.1
  have hsz := m_size X.2.2.2.2.2.2.1 hz
  refine va_newaK (atype := .int) X.1 X.2.1 (hts _ hw) rfl hd rfl hn.1 hn.2.1 hn.2.2 hcells hslots hsz fun H1 cA e1 z1 o1 hAr hNm => ?_
  have hNm : s.vm.findClass ("[" ++ (.int : FieldType).toString) = some cA := hNm
  have hra : s.vm.findClass ("[" ++ (.int : FieldType).toString) = some (gI G) := (X.2.2.2.2.2.1.2 0 _ rfl).2
  have hcA : cA = gI G := Option.some.inj (hNm.symm.trans hra)
  subst hcA
  have hk : ∀ (k : Nat) (x : Nat × va_E), (mW G σ K)[k]? = some x → H1[x.1]? = H[x.1]? := fun k x hx => o1 x.1 (by rw [← hsz]; exact (hP k x hx).lt)
  refine k H1 locs ls hl (by rw [z1, ← hsz, hz]; omega) (zr_s hr (by omega)) ?_ ⟨Nat.le_trans hS.1 (by omega), fun x h1 h2 => (o1 x (by have := hS.1; omega)).trans (hS.2.1 x h1 h2), hS.2.2⟩
  rw [mW_succ]
  refine (hP.kept hk).app (fun k x hx => ?_)
  have h9 : k < 1 := (List.getElem?_eq_some_iff.mp hx).1
  rw [show k = 0 by omega] at hx
  cases hx
  rw [mE_r G σ hs, sE_i G σ hs, (hr K (Nat.le_refl K)).1]
  exact e1
theorem m_newJ {N : Nat} {n : Int32} (X : mX G h0 own cc nL p s m args c) (hd : decode cc pc = .ok (.newarray .long, 2)) (hw : Cond.arrayClass .long ∈ sT) (hs : shL[K]? = some (.inr (1, N))) (hn : ¬ n < 0 ∧ n.toNatClampNeg = N ∧ N * componentBytes (newarray.typeOf .long) ≤ 536870912) (hcells : cells + 1 ≤ R.cells) (hslots : slots + N ≤ R.slots)
    (k : mS p l e R s m args below meth c Q G h0 nL (pc + 2) L (.ref (gA G K) :: S) σ (K + 1) (cells + 1) (slots + N)) : mS p l e R s m args below meth c Q G h0 nL pc L (.int n :: S) σ K cells slots := by
  intro H locs ls hl hz hr hP hS
  have hts := X.2.2.2.2.1
  have hsz := m_size X.2.2.2.2.2.2.1 hz
  refine va_newaK (atype := .long) X.1 X.2.1 (hts _ hw) rfl hd rfl hn.1 hn.2.1 hn.2.2 hcells hslots hsz fun H1 cA e1 z1 o1 hAr hNm => ?_
  have hNm : s.vm.findClass ("[" ++ (.long : FieldType).toString) = some cA := hNm
  have hra : s.vm.findClass ("[" ++ (.long : FieldType).toString) = some (gJ G) := (X.2.2.2.2.2.1.2 1 _ rfl).2
  have hcA : cA = gJ G := Option.some.inj (hNm.symm.trans hra)
  subst hcA
  have hk : ∀ (k : Nat) (x : Nat × va_E), (mW G σ K)[k]? = some x → H1[x.1]? = H[x.1]? := fun k x hx => o1 x.1 (by rw [← hsz]; exact (hP k x hx).lt)
  refine k H1 locs ls hl (by rw [z1, ← hsz, hz]; omega) (zr_s hr (by omega)) ?_ ⟨Nat.le_trans hS.1 (by omega), fun x h1 h2 => (o1 x (by have := hS.1; omega)).trans (hS.2.1 x h1 h2), hS.2.2⟩
  rw [mW_succ]
  refine (hP.kept hk).app (fun k x hx => ?_)
  have h9 : k < 1 := (List.getElem?_eq_some_iff.mp hx).1
  rw [show k = 0 by omega] at hx
  cases hx
  rw [mE_r G σ hs, sE_l G σ hs, (hr K (Nat.le_refl K)).2]
  exact e1
theorem m_newZ {N : Nat} {n : Int32} (X : mX G h0 own cc nL p s m args c) (hd : decode cc pc = .ok (.newarray .boolean, 2)) (hw : Cond.arrayClass .boolean ∈ sT) (hs : shL[K]? = some (.inr (2, N))) (hn : ¬ n < 0 ∧ n.toNatClampNeg = N ∧ N * componentBytes (newarray.typeOf .boolean) ≤ 536870912) (hcells : cells + 1 ≤ R.cells) (hslots : slots + N ≤ R.slots)
    (k : mS p l e R s m args below meth c Q G h0 nL (pc + 2) L (.ref (gA G K) :: S) σ (K + 1) (cells + 1) (slots + N)) : mS p l e R s m args below meth c Q G h0 nL pc L (.int n :: S) σ K cells slots := by
  intro H locs ls hl hz hr hP hS
  have hts := X.2.2.2.2.1
  have hsz := m_size X.2.2.2.2.2.2.1 hz
  refine va_newaK (atype := .boolean) X.1 X.2.1 (hts _ hw) rfl hd rfl hn.1 hn.2.1 hn.2.2 hcells hslots hsz fun H1 cA e1 z1 o1 hAr hNm => ?_
  have hNm : s.vm.findClass ("[" ++ (.boolean : FieldType).toString) = some cA := hNm
  have hra : s.vm.findClass ("[" ++ (.boolean : FieldType).toString) = some (gZ G) := (X.2.2.2.2.2.1.2 2 _ rfl).2
  have hcA : cA = gZ G := Option.some.inj (hNm.symm.trans hra)
  subst hcA
  have hk : ∀ (k : Nat) (x : Nat × va_E), (mW G σ K)[k]? = some x → H1[x.1]? = H[x.1]? := fun k x hx => o1 x.1 (by rw [← hsz]; exact (hP k x hx).lt)
  refine k H1 locs ls hl (by rw [z1, ← hsz, hz]; omega) (zr_s hr (by omega)) ?_ ⟨Nat.le_trans hS.1 (by omega), fun x h1 h2 => (o1 x (by have := hS.1; omega)).trans (hS.2.1 x h1 h2), hS.2.2⟩
  rw [mW_succ]
  refine (hP.kept hk).app (fun k x hx => ?_)
  have h9 : k < 1 := (List.getElem?_eq_some_iff.mp hx).1
  rw [show k = 0 by omega] at hx
  cases hx
  rw [mE_r G σ hs, sE_z G σ hs, (hr K (Nat.le_refl K)).1]
  exact e1
theorem m_outer (c : ClassId) (N h0 : Nat) : ∀ i : Nat, Jvm.Free.Multi.outerC c N h0 i = arrV c N (fun j => va_rf (if j < i then some (h0 + 1 + j) else none))
  | 0 => by
    show ({ cls := c, slots := Array.replicate N .null, vm := .none } : Cell) = _
    rw [arrV_new]
    refine congrArg (arrV c N) (funext fun j => ?_)
    simp [va_rf]
  | i + 1 => by
    show (Jvm.Free.Multi.outerC c N h0 i).setSlot i (.ref (h0 + 1 + i)) = _
    rw [m_outer c N h0 i, arrV_store]
    refine congrArg (arrV c N) (funext fun j => ?_)
    by_cases e : j = i
    · subst e
      simp [updV, va_rf]
    · by_cases h : j < i
      · simp [updV, e, h, Nat.lt_succ_of_lt h]
      · simp [updV, e, h, show ¬ j < i + 1 by omega]
/-- four rows of 40 ints -/
theorem m_mna {idx : Nat} (X : mX G h0 own cc nL p s m args c) (hd : decode cc pc = .ok (.multianewarray idx 2, 4)) (hw : Cond.classLink own idx ("[" ++ (FieldType.array .int).toString) ∈ sT) (hwa : Cond.arrayClass .int ∈ sT) (hK0 : K = 72) (hcells : cells + (1 + 4) ≤ R.cells) (hslots : slots + (4 + 4 * 40) ≤ R.slots)
    (k : mS p l e R s m args below meth c Q G h0 nL (pc + 4) L (.ref (gA G K) :: S) σ (K + 5) (cells + 5) (slots + 164)) : mS p l e R s m args below meth c Q G h0 nL pc L (.int 40 :: .int 4 :: S) σ K cells slots := by
  intro H locs ls hl hz hr hP hS T hT Xs
  have hts := X.2.2.2.2.1
  have hsz := m_size X.2.2.2.2.2.2.1 hz
  have hgA := X.2.2.2.2.2.2.1
  obtain ⟨vm₁, cA, comp, -, fA, fC, hO, -, X', step⟩ := Xs.multianewarray2F X.1 X.2.2.2.1 (hts _ hw) X.2.2.2.2.2.2.2.2.2 (hts _ hwa) (g := F0 m pc ls (.int 40 :: .int 4 :: S)) (n := 4) (k := 40) (rest := S) rfl (by rw [X.2.1]; exact hd) rfl (by decide) (by decide) (by decide) (by decide) (by decide) (by decide) (by decide) hcells hslots
  have hcy : s.vm.findClass (FieldType.array .int).toString = some (gI G) := (X.2.2.2.2.2.1.2 0 _ rfl).2
  have hcq : s.vm.findClass ("[" ++ (FieldType.array .int).toString) = some (gQ G) := (X.2.2.2.2.2.1.2 3 _ rfl).2
  have ec : comp = gI G := Option.some.inj (fC.symm.trans hcy)
  have ea : cA = gQ G := Option.some.inj (fA.symm.trans hcq)
  subst ec
  subst ea
  have n4 : (4 : Int32).toNatClampNeg = 4 := by decide
  have n40 : (40 : Int32).toNatClampNeg = 40 := by decide
  rw [n4, n40] at X' step
  generalize hF : Jvm.Free.Multi.fill (T.setVm vm₁) (gQ G) (gI G) 4 40 (defaultValue .int) 4 = F at X' step
  have hTh : (T.setVm vm₁).heap = H := hT
  obtain ⟨f1, f2, -, -⟩ := Jvm.Free.Multi.fill_facts (T.setVm vm₁) (gQ G) (gI G) 4 40 (defaultValue .int) 4
  rw [hF, hTh] at f1 f2
  have hold : ∀ x : Nat, x < H.size → F.heap[x]? = H[x]? := fun x hx => by
    have := Jvm.Free.Multi.fill_old (T.setVm vm₁) (gQ G) (gI G) 4 40 (defaultValue .int) (a := x) (by rw [hTh]; exact hx) 4
    rw [hF, hTh] at this
    exact this
  have hrow : ∀ j : Nat, j < 4 → F.heap[H.size + 1 + j]? = some (arrV (gI G) 40 (fun _ => .int 0)) := fun j hj => by
    have := Jvm.Free.Multi.fill_inner (T.setVm vm₁) (gQ G) (gI G) 4 40 (defaultValue .int) 4 j hj
    rw [hF, hTh] at this
    rw [this]
    refine congrArg some ?_
    show ({ cls := gI G, slots := Array.replicate 40 (.int 0), vm := .none } : Cell) = _
    rw [arrV_new]
  rw [m_outer (gQ G) 4 H.size 4] at f2
  have hz1 : F.heap.size = h0 + (K + 5) := by rw [f1, hz]; omega
  obtain ⟨t, a1, b1⟩ := k F.heap locs ls hl hz1 (zr_s hr (by omega)) (by
    intro i x hx
    have hlt : i < K + 5 := by
      have := (List.getElem?_eq_some_iff.mp hx).1
      unfold mW at this
      simpa using this
    rw [mW_get G σ hlt] at hx
    cases hx
    by_cases h1 : i < K
    · have h2 := hP i _ (mW_get G σ h1)
      exact h2.kept (hold _ h2.lt)
    · have hz2 := hr i (by omega)
      subst hK0
      by_cases h3 : i = 72
      · subst h3
        rw [mE_r G σ sh_72, sE_q G σ sh_72]
        show F.heap[gA G 72]? = some (vp_cell _ _)
        rw [vp_cell_q, ← hsz, f2]
        refine congrArg some (arrV_congr (gQ G) 4 (fun j hj => ?_))
        rw [if_pos hj, hgA (73 + j), hz, show h0 + 72 + 1 + j = h0 + (73 + j) by omega]
      · have hi : shL[i]? = some (.inr (0, 40)) := by
          rcases (show i = 73 ∨ i = 74 ∨ i = 75 ∨ i = 76 by omega) with rfl | rfl | rfl | rfl
          · exact sh_73
          · exact sh_74
          · exact sh_75
          · exact sh_76
        rw [mE_r G σ hi, sE_i G σ hi, hz2.1]
        show F.heap[gA G i]? = some (vp_cell _ _)
        rw [vp_cell_i]
        have h5 := hrow (i - 73) (by omega)
        rw [hz] at h5
        rw [hgA i]
        rw [show h0 + i = h0 + 72 + 1 + (i - 73) by omega]
        exact h5) ⟨by rw [f1]; have := hS.1; omega, fun x h1 h2 => (hold x (Nat.lt_of_lt_of_le h1 hS.1)).trans (hS.2.1 x h1 h2), hS.2.2⟩ F rfl X'
  refine ⟨t, step t ?_, b1⟩
  have e : T.heap.size = gA G K := by rw [hT]; exact hsz
  rw [e]
  exact a1
theorem mE_set (G : sG) (σ : sS) {q ci j : Nat} {fl : List (Option Nat)} {x : Option Nat} (h : shL[q]? = some (.inl (ci, fl))) (hf : fl[j]? = some x) (v : Int32) : mE G (sI σ q j v) q = .inr (ci, (mF G (σ.1 q) 0 fl).set j (mV G x v)) := by
  rw [mE_o G _ h, mF_set G (σ.1 q) v fl 0 j x hf, Nat.zero_add]
  simp [sI]
/-- a field is put: an int, or (with the flag 1) the reference that its shape tells -/
theorem m_D (hg : gAt G h0) (σ : sS) (K : Nat) : va_D (mA h0) (mW G σ K) := by
  have key : ∀ (k : Nat) (q : Nat × va_E), (mW G σ K)[k]? = some q → k < K ∧ q.1 = gA G k := by
    intro k q hk
    have hl : k < K := by
      have := (List.getElem?_eq_some_iff.mp hk).1
      unfold mW at this
      simpa using this
    rw [mW_get G σ hl] at hk
    cases hk
    exact ⟨hl, rfl⟩
  refine ⟨fun i j p q hi hj hpq => ?_, fun k q hk => ?_⟩
  · obtain ⟨h1, h2⟩ := key i p hi
    obtain ⟨h3, h4⟩ := key j q hj
    rw [h2, h4, hg i, hg j] at hpq
    omega
  · obtain ⟨h1, h2⟩ := key k q hk
    rw [h2, hg k]
    exact Nat.le_add_right h0 k
theorem m_putF {q ci j N idx : Nat} {C : String} {T : u_T} {ty : Nat → FieldType} {fl : List (Option Nat)} {x : Option Nat} (v : Int32) {w : Value} (X : mX G h0 own cc nL p s m args c) (hd : decode cc pc = .ok (.putfield idx, 3)) (hc : sKc ci C T N ty) (hw : Cond.fieldLink own idx (T j).1 (T j).2.1 (T j).2.2.1 ∈ sT) (hj : j < N) (hfin : (T j).2.2.2 = true) (hin : meth.name = "<init>") (hdecl : (T j).1 = own) (hs : shL[q]? = some (.inl (ci, fl))) (hf : fl[j]? = some x) (hq : q < K) (hv : w = mV G x v) (hn : narrow (ty j) w = w) (hfit : fits (ty j) w = true)
    (k : mS p l e R s m args below meth c Q G h0 nL (pc + 3) L S (sI σ q j v) K cells slots) : mS p l e R s m args below meth c Q G h0 nL pc L (w :: .ref (gA G q) :: S) σ K cells slots := by
  intro H locs ls hl hz hr hP hS0
  have hD : va_D (mA h0) (mW G σ K) := m_D X.2.2.2.2.2.2.1 σ K
  have hts := X.2.2.2.2.1
  have he := mW_at G σ hq (mE_o G σ hs)
  subst hv
  have hap := va_apart (own := own) hts hc.2.1 ty hc.2.2.1 hc.2.2.2 X.2.2.2.2.2.1 hc.1
  obtain ⟨r, h1, cell, q1, q2, q3, q4⟩ := hP q _ he
  have hr9 : r = (C, T, N) := Option.some.inj (h1.symm.trans hc.1)
  subst hr9
  obtain ⟨hS, hfc, kC, hkC, hkind⟩ := X.2.2.2.2.2.1.1 ci _ hc.1
  obtain ⟨cf, kf, fi, f, hi, hsl⟩ := hS j hj
  have hlay := hts _ (hc.2.1 _ (u_in_lay hj))
  unfold u_lay at hlay
  rw [if_pos hfin] at hlay
  have hst := (u_facts hfc hkC (u_lays hts hc.2.1 hj) hi).1
  have hcf : m.cls = cf := by
    obtain ⟨_, _, c', _, _, _, -, -, hf', -, -, -, hown2, -⟩ := Cond.laysFinal_spec hlay
    have e1 : c' = cf := by have := hi.symm.trans hf'; simp at this; exact this.1.symm
    rw [hdecl] at hown2
    rw [← e1]; exact Option.some.inj (X.2.2.2.1.symm.trans hown2)
  have h6 := u_fits hfc hkC hkind (Or.inr hlay) hi (hc.2.2.1 j hj) hn hfit
  refine W.putFinK X.1 X.2.1 X.2.2.2.1 (hts _ hw) hi hst hcf hin (by rw [q2]; exact h6) q1 q3 (by rw [hsl]; exact k2_hasslot (q4 j hj)) rfl rfl hd fun H' e1 e2 e3 => ?_
  rw [hsl] at e1 ⊢
  have hP1 : va_P G.1 vwCl ((mW G σ K).set q (gA G q, .inr (ci, (mF G (σ.1 q) 0 fl).set j (mV G x v)))) H' := hP.set hD he ⟨_, hc.1, t_OB.to (V := updV (vp_V (mF G (σ.1 q) 0 fl)) j (mV G x v)) ⟨_, e1, q2, q3, t_set q4 hap hj (mV G x v)⟩ (fun i _ => vp_updV_set (by rw [mF_len]; exact (List.getElem?_eq_some_iff.mp hf).1) (mV G x v) i)⟩ e3
  rw [mW_set G σ (sI σ q j v) (mE_set G σ hs hf v) (fun i hi => mE_I_ne G σ q _ _ hi)] at hP1
  exact k H' _ ls hl (e2.trans hz) (zr_I hr hq) hP1 (hS0.put e2 e3 (hD.2 q _ he))
theorem m_put {q ci j N idx : Nat} {C : String} {T : u_T} {ty : Nat → FieldType} {fl : List (Option Nat)} {v : Int32} (X : mX G h0 own cc nL p s m args c) (hd : decode cc pc = .ok (.putfield idx, 3)) (hc : sKc ci C T N ty) (hw : Cond.fieldLink own idx (T j).1 (T j).2.1 (T j).2.2.1 ∈ sT) (hj : j < N) (hfin : (T j).2.2.2 = false) (hs : shL[q]? = some (.inl (ci, fl))) (hf : fl[j]? = some none) (hq : q < K) (hn : narrow (ty j) (.int v) = .int v) (hfit : fits (ty j) (.int v) = true)
    (k : mS p l e R s m args below meth c Q G h0 nL (pc + 3) L S (sI σ q j v) K cells slots) : mS p l e R s m args below meth c Q G h0 nL pc L (.int v :: .ref (gA G q) :: S) σ K cells slots := by
  intro H locs ls hl hz hr hP hS0
  have hD : va_D (mA h0) (mW G σ K) := m_D X.2.2.2.2.2.2.1 σ K
  have hts := X.2.2.2.2.1
  have he := mW_at G σ hq (mE_o G σ hs)
  have hap := va_apart (own := own) hts hc.2.1 ty hc.2.2.1 hc.2.2.2 X.2.2.2.2.2.1 hc.1
  obtain ⟨r, h1, cell, q1, q2, q3, q4⟩ := hP q _ he
  have hr9 : r = (C, T, N) := Option.some.inj (h1.symm.trans hc.1)
  subst hr9
  obtain ⟨hS, hfc, kC, hkC, hkind⟩ := X.2.2.2.2.2.1.1 ci _ hc.1
  obtain ⟨cf, kf, fi, f, hi, hsl⟩ := hS j hj
  have hlay := hts _ (hc.2.1 _ (u_in_lay hj))
  unfold u_lay at hlay
  rw [if_neg (by rw [hfin]; decide)] at hlay
  have hst := (u_facts hfc hkC (u_lays hts hc.2.1 hj) hi).1
  have h6 := u_store hfc hkC hkind hlay hi (hc.2.2.1 j hj) hn hfit
  refine W.putK X.1 X.2.1 (f := f) ⟨X.2.2.2.1, hts _ hw, ⟨_, _, _, hi⟩, hst⟩ (by rw [q2]; exact h6) q1 q3 (by rw [hsl]; exact k2_hasslot (q4 j hj)) rfl rfl hd fun H' e1 e2 e3 => ?_
  rw [hsl] at e1 ⊢
  have hP1 : va_P G.1 vwCl ((mW G σ K).set q (gA G q, .inr (ci, (mF G (σ.1 q) 0 fl).set j (mV G none v)))) H' := hP.set hD he ⟨_, hc.1, t_OB.to (V := updV (vp_V (mF G (σ.1 q) 0 fl)) j (.int v)) ⟨_, e1, q2, q3, t_set q4 hap hj (.int v)⟩ (fun i _ => vp_updV_set (by rw [mF_len]; exact (List.getElem?_eq_some_iff.mp hf).1) (.int v) i)⟩ e3
  rw [mW_set G σ (sI σ q j v) (mE_set G σ hs hf v) (fun i hi => mE_I_ne G σ q _ _ hi)] at hP1
  exact k H' _ ls hl (e2.trans hz) (zr_I hr hq) hP1 (hS0.put e2 e3 (hD.2 q _ he))
theorem m_iast {q n : Nat} {i x : Int32} (X : mX G h0 own cc nL p s m args c) (hd : decode cc pc = .ok (.iastore, 1)) (hs : shL[q]? = some (.inr (0, n))) (hq : q < K) (hi : sIn i n = true) (k : mS p l e R s m args below meth c Q G h0 nL (pc + 1) L S (sI σ q i.toNatClampNeg x) K cells slots) : mS p l e R s m args below meth c Q G h0 nL pc L (.int x :: .int i :: .ref (gA G q) :: S) σ K cells slots := by
  intro H locs ls hl hz hr hP hS
  have hD : va_D (mA h0) (mW G σ K) := m_D X.2.2.2.2.2.2.1 σ K
  have he := mW_at G σ hq ((mE_r G σ hs).trans (sE_i G σ hs))
  refine W.iast X.1 X.2.1 (hP q _ he) ((X.2.2.2.2.2.1.2 0 _ rfl).1 n (fun j => .int (σ.1 q j))) (fun q => by cases q) (by show ¬ (i < 0 ∨ (arrV _ _ _).slots.size ≤ _); rw [arrV_size]; exact sIn_vp hi) rfl rfl hd fun H1 e z oq => ?_
  have hP1 : va_P G.1 vwCl ((mW G σ K).set q (gA G q, .inl (gI G, n, .inl (upd (σ.1 q) i.toNatClampNeg x)))) H1 := by
    refine hP.set hD he ?_ oq
    show H1[gA G q]? = some (vp_cell _ _)
    rw [e]
    rw [vp_cell_i, vp_cell_i, arrV_store]
    congr 2
    funext w
    by_cases hw : w = i.toNatClampNeg
    · subst hw
      simp [updV, upd]
    · simp [updV, upd, hw]
  rw [mW_set G σ (sI σ q i.toNatClampNeg x) ((mE_r G _ hs).trans (sE_iset G σ hs _ _)) (fun j hj => mE_I_ne G σ q _ _ hj)] at hP1
  exact k H1 _ ls hl (z.trans hz) (zr_I hr hq) hP1 (hS.put z oq (hD.2 q _ he))
theorem m_get {q q1 ci j N idx : Nat} {C : String} {T : u_T} {ty : Nat → FieldType} {fl : List (Option Nat)} (X : mX G h0 own cc nL p s m args c) (hd : decode cc pc = .ok (.getfield idx, 3)) (hc : sKc ci C T N ty) (hw : Cond.fieldLink own idx (T j).1 (T j).2.1 (T j).2.2.1 ∈ sT) (hj : j < N) (hs : shL[q]? = some (.inl (ci, fl))) (hf : fl[j]? = some (some q1)) (hq : q < K) (hv : σ.1 q j ≠ 0) (k : mS p l e R s m args below meth c Q G h0 nL (pc + 3) L (.ref (gA G q1) :: S) σ K cells slots) : mS p l e R s m args below meth c Q G h0 nL pc L (.ref (gA G q) :: S) σ K cells slots := by
  intro H locs ls hl hz hr hP hS
  have hm := mF_at G (σ.1 q) fl 0 j (some q1) hf
  rw [Nat.zero_add] at hm
  have hm2 : mV G (some q1) (σ.1 q j) = .ref (gA G q1) := if_neg hv
  rw [hm2] at hm
  exact va_get (ref := (T j).1) X.1 X.2.1 X.2.2.2.2.1 hc.2.1 X.2.2.2.1 X.2.2.2.2.2.1 hP q (mW_at G σ hq (mE_o G σ hs)) hc.1 j hj (X.2.2.2.2.1 _ hw) (fun _ h9 => h9) hm hd (k H locs ls hl hz hr hP hS)
/-- what a constructor is given, and what it gives -/
def mB (G : sG) (h0 : Nat) (σ : sS) (K : Nat) (U : State) : Prop := U.heap.size = h0 + K ∧ zr σ K ∧ va_P G.1 vwCl (mW G σ K) U.heap ∧ sK G U ∧ gAt G h0 ∧ mNs U
def mQ (G : sG) (h0 : Nat) (τ : sS) (K' : Nat) : Array Value → State → Outcome → State → Prop := fun _ st oc t => (oc = .returned none ∧ t.heap.size = h0 + K' ∧ zr τ K' ∧ va_P G.1 vwCl (mW G τ K') t.heap) ∧ va_F (mA h0) st t
def mR (d mc ms : Nat) : Room := { frames := d, cells := mc, slots := ms, locals := 64 * d }
def mC (l : Launch) (G : sG) (h0 : Nat) (y : MethodName) (cc : ByteArray) (nL d mc ms q : Nat) (σ : sS) (K : Nat) (τ : sS) (K' : Nat) : Prop :=
  Met l y (.code y cc nL none :: sT) (mR d mc ms) (va_Pc [.ref (gA G q)] (mB G h0 σ K)) (mQ G h0 τ K') mc ms (mA h0)
theorem mNs_moved {s U : State} (hW : s.WarmedH U.vm) (h : mNs s) : mNs U := ⟨fun q hq => va_Nw.warmM hW (h.1 q hq), va_AOA_moved hW.alike h.2⟩
theorem mB_blind (G : sG) (h0 : Nat) (σ : sS) (K : Nat) (av : List Value) : FrameBlind (va_Pc av (mB G h0 σ K)) := by
  intro a U g mk h
  obtain ⟨h1, h2, h3, h4, h5, h6, h7, h8⟩ := h
  exact ⟨h1, h2, h3, h4, va_K.moved (u := U) (U := U.calling g mk a) (Vm.Alike.refl U.vm) h5, h6, fun q hq => va_Nw.same (u := U) (U := U.calling g mk a) rfl rfl (h7 q hq), va_AOA_moved (u := U) (U := U.calling g mk a) (Vm.Alike.refl U.vm) h8⟩
theorem m_vret {mc ms : Nat} (X : mX G h0 own cc nL p s m args c) (hlocks : meth.locks = false) (hr : meth.sig.returnType = none) (hd : decode cc pc = .ok (.return_, 1)) : mS p l e R s m args below meth c (MQ below (mQ G h0 σ K) args s mc ms (mA h0)) G h0 nL pc L [] σ K mc ms :=
  fun H locs ls hl hz hr0 hP hS => W.vret (hlocks := hlocks) X.1 X.2.1 hr (fun t ht hW => ⟨⟨rfl, by rw [ht]; exact hz, hr0, by rw [ht]; exact hP⟩, hS.F ht⟩) hS.2.2 hd
theorem m_met {l : Launch} {y : MethodName} {d mc ms q K' : Nat} (hp : plainName y.cls = true) (hy : y.cls = own) (hyn : y.name = "<init>") (hn : 1 ≤ nL)
    (h : ∀ (p : Program) (e : Env) (s : State) (m : MethodId) (below : List Frame) (meth : Method) (c : Code), mX G h0 own cc nL p s m #[.ref (gA G q)] c → meth.name = "<init>" → meth.locks = false → meth.sig.returnType = none → mS p l e (mR d mc ms) s m #[.ref (gA G q)] below meth c (MQ below (mQ G h0 τ K') #[.ref (gA G q)] s mc ms (mA h0)) G h0 nL 0 [(0, .ref (gA G q))] [] σ K 0 0) : mC l G h0 y cc nL d mc ms q σ K τ K' := by
  refine Met.ofW (cc := cc) (maxL := nL) (ret := none) hp rfl ?_
  intro p e s m args below meth c s₁ B hml hv
  obtain ⟨rfl, hz, hr, hP, hK, hg, hN⟩ := hv
  have hts := atoms_spec (ws := .code y cc nL none :: sT) B.pre
  have hown : s.vm.findClass own = some m.cls := hy ▸ findClass_of_methodNamed B.named
  have hin : meth.name = "<init>" := hyn ▸ (name_of_methodNamed B.named B.method).1
  rw [lg_entry_eq]
  have hl := lv_entry [.ref (gA G q)] (n := nL) hn
  exact h p e s m below meth c ⟨B.exec, B.bytes, hml, hown, fun w hw => hts w (List.mem_cons_of_mem _ hw), hK, hg, by omega, hN⟩ hin B.notSynchronized B.returns s.heap [] _ hl hz hr hP va_S.rf
theorem m_back {mc ms K' : Nat} {st0 rest : List Value} {ls : Array Slot} {H : Heap} {locs : List Loc} {a : Array Value} (hr : va_Run p l e R s m args below meth c H locs cells slots mc ms (F0 m pc ls st0) rest (mQ G h0 τ K' a) (mA h0)) (hS : va_S (mA h0) s.heap H locs)
    (kk : ∀ (H1 : Heap) (locs1 : List Loc), H1.size = h0 + K' → zr τ K' → va_P G.1 vwCl (mW G τ K') H1 → va_S (mA h0) s.heap H1 locs1 → W p l e R s m args below meth c H1 locs1 (cells + mc) (slots + ms) Q (F0 m (pc + 3) ls rest)) : W p l e R s m args below meth c H locs cells slots Q (F0 m pc ls st0) := by
  intro T hT X
  obtain ⟨v, st₀, t, T', L, h0', X', hL, e1, e2, ⟨⟨hv, hp1, hp2, hp3⟩, hz, hk⟩, st⟩ := hr T hT X
  cases hv
  rw [h0'] at hz hk
  obtain ⟨t2, a1, b1⟩ := kk T'.heap (locs ++ L) (by rw [e1]; exact hp1) hp2 (by rw [e1]; exact hp3)
    ⟨Nat.le_trans hS.1 (by rw [e1]; exact hz), fun q h1 h2 => by rw [e1, hk q (Nat.lt_of_lt_of_le h1 hS.1) h2]; exact hS.2.1 q h1 h2, fun q hq => by
      rcases List.mem_append.mp hq with h | h
      · exact hS.2.2 q h
      · exact hL q h⟩ T' rfl X'
  exact ⟨t2, st t2 a1, b1⟩
def mMi (y : MethodName) (ccY : ByteArray) (nY : Nat) : Prop := Cond.instanceMethod y ∈ sT ∧ Cond.initialized y.cls ∈ sT ∧ Cond.code y ccY nY none ∈ sT ∧ y.name = "<init>" ∧ (y.cls ≠ "java/lang/invoke/MethodHandle" ∧ y.cls ≠ "java/lang/invoke/VarHandle" ∧ (parseMethodDescriptor y.desc).map (fun d => d.parameters.length) = some 0) ∧ nY ≤ 45
/-- a constructor is called, by a link of the class or of a nest mate -/
theorem m_call {y : MethodName} {ccY : ByteArray} {nY dY mcY msY idx q K' : Nat} (rest : List Value) (X : mX G h0 own cc nL p s m args c) (hd : decode cc pc = .ok (.invokespecial idx, 3)) (hm : mMi y ccY nY) (hw : Cond.methodLink own idx y ∈ sT) (hst : S = .ref (gA G q) :: rest) (hcat : (rest.map fun v => v.category).sum ≤ 8) (hR : dY + 1 ≤ R.frames ∧ 64 + 64 * dY ≤ R.locals ∧ cells + mcY ≤ R.cells ∧ slots + msY ≤ R.slots)
    (hC : mC l G h0 y ccY nY dY mcY msY q σ K τ K') (k : mS p l e R s m args below meth c Q G h0 nL (pc + 3) L rest τ K' (cells + mcY) (slots + msY)) : mS p l e R s m args below meth c Q G h0 nL pc L S σ K cells slots := by
  intro H locs ls hl hz hr hP hS
  obtain ⟨m1, m2, m3, m4, m5, m6⟩ := hm
  have hts := X.2.2.2.2.1
  subst hst
  refine m_back (va_runI (As := []) (rest := rest) (b := gA G q) ⟨X.1, X.2.1, X.2.2.1, X.2.2.2.1, hts⟩ hC (cwI 0 hts (s_goodIn m3) rfl rfl rfl (hts _ m2) (hts _ hw) (hts _ m1) m4 m5 ⟨by show dY + 1 ≤ R.frames; exact hR.1, by show 8 + (nY + 11) + 64 * dY ≤ R.locals; omega⟩) ⟨mB_blind G h0 σ K _, fun U hU hW => ⟨rfl, by rw [hU]; exact hz, hr, by rw [hU]; exact hP, va_K.moved hW.alike X.2.2.2.2.2.1, X.2.2.2.2.2.2.1, mNs_moved hW X.2.2.2.2.2.2.2.2⟩⟩ rfl rfl hl.1 rfl (lv_room hcat) hd hR.2.2) hS ?_
  intro H1 locs1 hz1 hr1 hP1 hS1
  exact k H1 locs1 ls hl hz1 hr1 hP1 hS1
theorem m_callN {y : MethodName} {host : String} {ccY : ByteArray} {nY dY mcY msY idx q K' : Nat} (rest : List Value) (X : mX G h0 own cc nL p s m args c) (hd : decode cc pc = .ok (.invokespecial idx, 3)) (hm : mMi y ccY nY) (hw : (own, idx, y, host) ∈ mNW) (hst : S = .ref (gA G q) :: rest) (hcat : (rest.map fun v => v.category).sum ≤ 8) (hR : dY + 1 ≤ R.frames ∧ 64 + 64 * dY ≤ R.locals ∧ cells + mcY ≤ R.cells ∧ slots + msY ≤ R.slots)
    (hC : mC l G h0 y ccY nY dY mcY msY q σ K τ K') (k : mS p l e R s m args below meth c Q G h0 nL (pc + 3) L rest τ K' (cells + mcY) (slots + msY)) : mS p l e R s m args below meth c Q G h0 nL pc L S σ K cells slots := by
  intro H locs ls hl hz hr hP hS
  obtain ⟨m1, m2, m3, m4, m5, m6⟩ := hm
  have hts := X.2.2.2.2.1
  subst hst
  refine m_back (va_runIN (As := []) (rest := rest) (b := gA G q) ⟨X.1, X.2.1, X.2.2.1, X.2.2.2.1, hts⟩ hC ⟨va_cnB 0 hts (s_goodIn m3) rfl rfl rfl (X.2.2.2.2.2.2.2.2.1 _ hw) (hts _ m2) m5 ⟨by show dY + 1 ≤ R.frames; exact hR.1, by show 8 + (nY + 11) + 64 * dY ≤ R.locals; omega⟩, m4, hts _ m1⟩ ⟨mB_blind G h0 σ K _, fun U hU hW => ⟨rfl, by rw [hU]; exact hz, hr, by rw [hU]; exact hP, va_K.moved hW.alike X.2.2.2.2.2.1, X.2.2.2.2.2.2.1, mNs_moved hW X.2.2.2.2.2.2.2.2⟩⟩ rfl rfl hl.1 rfl (lv_room hcat) hd hR.2.2) hS ?_
  intro H1 locs1 hz1 hr1 hP1 hS1
  exact k H1 locs1 ls hl hz1 hr1 hP1 hS1
end SMAKE
