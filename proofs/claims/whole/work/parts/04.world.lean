/-! a world of cells whose shape stays: numbers of cells for addresses, rows of ints and longs for what they hold -/
abbrev sS : Type := (Nat → Nat → Int32) × (Nat → Nat → Int64)
abbrev sG : Type := va_G × (Nat → Nat) × ClassId × ClassId × ClassId × ClassId × Nat × Nat
def gA (G : sG) (k : Nat) : Nat := G.2.1 k
def gI (G : sG) : ClassId := G.2.2.1
def gJ (G : sG) : ClassId := G.2.2.2.1
def gZ (G : sG) : ClassId := G.2.2.2.2.1
def gQ (G : sG) : ClassId := G.2.2.2.2.2.1
/-- the one text among the class's constants, and its bytes -/
def gS (G : sG) : Nat := G.2.2.2.2.2.2.1
def gV (G : sG) : Nat := G.2.2.2.2.2.2.2
/-- the shape of each cell: an object (its class, its fields: an int, or which cell), or a row (0 ints, 1 longs, 2 booleans, 3 rows of ints; its length) -/
def shL : List ((Nat × List (Option Nat)) ⊕ (Nat × Nat)) := [.inl (11, [some 1, some 15, some 19, some 23, some 37, some 41, none, some 45, some 55, some 63, some 67, some 69, some 77, some 81]), .inl (3, [some 2, some 3, some 4, some 5, none, none, none, some 6, some 12, some 13, some 14]), .inr (0, 9), .inr (0, 9), .inr (0, 9), .inr (0, 9), .inl (5, [some 7, some 8, some 9, some 10, some 11, none]), .inr (0, 8), .inr (0, 8), .inr (0, 8), .inr (0, 9), .inr (0, 100), .inr (0, 9), .inr (0, 9), .inr (0, 5), .inl (1, [some 16, some 17, some 18, none]), .inr (0, 8), .inr (0, 8), .inr (0, 8), .inl (2, [some 20, some 21, some 22, none, none]), .inr (0, 6), .inr (0, 6), .inr (0, 6), .inl (3, [some 24, some 25, some 26, some 27, none, none, none, some 28, some 34, some 35, some 36]), .inr (0, 9), .inr (0, 9), .inr (0, 9), .inr (0, 9), .inl (5, [some 29, some 30, some 31, some 32, some 33, none]), .inr (0, 8), .inr (0, 8), .inr (0, 8), .inr (0, 9), .inr (0, 100), .inr (0, 9), .inr (0, 9), .inr (0, 5), .inl (1, [some 38, some 39, some 40, none]), .inr (0, 8), .inr (0, 8), .inr (0, 8), .inl (2, [some 42, some 43, some 44, none, none]), .inr (0, 6), .inr (0, 6), .inr (0, 6), .inl (6, [some 46, none, some 52, some 53, some 54, none, none]), .inl (5, [some 47, some 48, some 49, some 50, some 51, none]), .inr (0, 8), .inr (0, 8), .inr (0, 8), .inr (0, 9), .inr (0, 100), .inr (0, 200), .inr (0, 201), .inr (0, 201), .inl (10, [some 56, some 57, some 58, some 59, some 60, some 61, some 62]), .inr (0, 9), .inr (1, 108), .inr (1, 108), .inr (1, 12), .inr (1, 12), .inr (0, 108), .inr (0, 9), .inl (7, [some 64, some 65, some 66]), .inr (0, 8), .inr (0, 512), .inr (0, 512), .inl (4, [some 68, none]), .inr (0, 60), .inl (8, [some 70, some 71, some 72]), .inr (0, 4), .inr (0, 4), .inr (3, 4), .inr (0, 40), .inr (0, 40), .inr (0, 40), .inr (0, 40), .inl (9, [some 78, some 79, some 80]), .inr (0, 4), .inr (0, 4), .inr (0, 4), .inl (0, [some 82, none, none, none, none, none]), .inr (0, 30), .inl (12, [some 84, some 85, some 86, none, some 87, none, none, some 88, some 89, some 90, some 91, some 92, some 93, some 94, some 95, some 96, none, some 97, none, none, none, none, none, none, none, some 98, some 99, some 100, some 101, some 102, some 103, some 104, none, none, none, none, none]), .inr (0, 316), .inr (0, 316), .inr (0, 316), .inr (0, 200), .inr (0, 9), .inr (1, 108), .inr (1, 108), .inr (2, 108), .inr (0, 9), .inr (0, 9), .inr (0, 4608), .inr (0, 8), .inr (0, 60), .inr (0, 200), .inr (0, 4), .inr (0, 4), .inr (0, 160), .inr (0, 4), .inr (0, 4), .inr (0, 4), .inr (0, 30)]
def sN : Nat := 105
theorem sN_len : shL.length = sN := by decide +kernel
theorem sh_0 : shL[0]? = some (.inl (11, [some 1, some 15, some 19, some 23, some 37, some 41, none, some 45, some 55, some 63, some 67, some 69, some 77, some 81])) := by decide +kernel
theorem sh_1 : shL[1]? = some (.inl (3, [some 2, some 3, some 4, some 5, none, none, none, some 6, some 12, some 13, some 14])) := by decide +kernel
theorem sh_2 : shL[2]? = some (.inr (0, 9)) := by decide +kernel
theorem sh_3 : shL[3]? = some (.inr (0, 9)) := by decide +kernel
theorem sh_4 : shL[4]? = some (.inr (0, 9)) := by decide +kernel
theorem sh_5 : shL[5]? = some (.inr (0, 9)) := by decide +kernel
theorem sh_6 : shL[6]? = some (.inl (5, [some 7, some 8, some 9, some 10, some 11, none])) := by decide +kernel
theorem sh_7 : shL[7]? = some (.inr (0, 8)) := by decide +kernel
theorem sh_8 : shL[8]? = some (.inr (0, 8)) := by decide +kernel
theorem sh_9 : shL[9]? = some (.inr (0, 8)) := by decide +kernel
theorem sh_10 : shL[10]? = some (.inr (0, 9)) := by decide +kernel
theorem sh_11 : shL[11]? = some (.inr (0, 100)) := by decide +kernel
theorem sh_12 : shL[12]? = some (.inr (0, 9)) := by decide +kernel
theorem sh_13 : shL[13]? = some (.inr (0, 9)) := by decide +kernel
theorem sh_14 : shL[14]? = some (.inr (0, 5)) := by decide +kernel
theorem sh_15 : shL[15]? = some (.inl (1, [some 16, some 17, some 18, none])) := by decide +kernel
theorem sh_16 : shL[16]? = some (.inr (0, 8)) := by decide +kernel
theorem sh_17 : shL[17]? = some (.inr (0, 8)) := by decide +kernel
theorem sh_18 : shL[18]? = some (.inr (0, 8)) := by decide +kernel
theorem sh_19 : shL[19]? = some (.inl (2, [some 20, some 21, some 22, none, none])) := by decide +kernel
theorem sh_20 : shL[20]? = some (.inr (0, 6)) := by decide +kernel
theorem sh_21 : shL[21]? = some (.inr (0, 6)) := by decide +kernel
theorem sh_22 : shL[22]? = some (.inr (0, 6)) := by decide +kernel
theorem sh_23 : shL[23]? = some (.inl (3, [some 24, some 25, some 26, some 27, none, none, none, some 28, some 34, some 35, some 36])) := by decide +kernel
theorem sh_24 : shL[24]? = some (.inr (0, 9)) := by decide +kernel
theorem sh_25 : shL[25]? = some (.inr (0, 9)) := by decide +kernel
theorem sh_26 : shL[26]? = some (.inr (0, 9)) := by decide +kernel
theorem sh_27 : shL[27]? = some (.inr (0, 9)) := by decide +kernel
theorem sh_28 : shL[28]? = some (.inl (5, [some 29, some 30, some 31, some 32, some 33, none])) := by decide +kernel
theorem sh_29 : shL[29]? = some (.inr (0, 8)) := by decide +kernel
theorem sh_30 : shL[30]? = some (.inr (0, 8)) := by decide +kernel
theorem sh_31 : shL[31]? = some (.inr (0, 8)) := by decide +kernel
theorem sh_32 : shL[32]? = some (.inr (0, 9)) := by decide +kernel
theorem sh_33 : shL[33]? = some (.inr (0, 100)) := by decide +kernel
theorem sh_34 : shL[34]? = some (.inr (0, 9)) := by decide +kernel
theorem sh_35 : shL[35]? = some (.inr (0, 9)) := by decide +kernel
theorem sh_36 : shL[36]? = some (.inr (0, 5)) := by decide +kernel
theorem sh_37 : shL[37]? = some (.inl (1, [some 38, some 39, some 40, none])) := by decide +kernel
theorem sh_38 : shL[38]? = some (.inr (0, 8)) := by decide +kernel
theorem sh_39 : shL[39]? = some (.inr (0, 8)) := by decide +kernel
theorem sh_40 : shL[40]? = some (.inr (0, 8)) := by decide +kernel
theorem sh_41 : shL[41]? = some (.inl (2, [some 42, some 43, some 44, none, none])) := by decide +kernel
theorem sh_42 : shL[42]? = some (.inr (0, 6)) := by decide +kernel
theorem sh_43 : shL[43]? = some (.inr (0, 6)) := by decide +kernel
theorem sh_44 : shL[44]? = some (.inr (0, 6)) := by decide +kernel
theorem sh_45 : shL[45]? = some (.inl (6, [some 46, none, some 52, some 53, some 54, none, none])) := by decide +kernel
theorem sh_46 : shL[46]? = some (.inl (5, [some 47, some 48, some 49, some 50, some 51, none])) := by decide +kernel
theorem sh_47 : shL[47]? = some (.inr (0, 8)) := by decide +kernel
theorem sh_48 : shL[48]? = some (.inr (0, 8)) := by decide +kernel
theorem sh_49 : shL[49]? = some (.inr (0, 8)) := by decide +kernel
theorem sh_50 : shL[50]? = some (.inr (0, 9)) := by decide +kernel
theorem sh_51 : shL[51]? = some (.inr (0, 100)) := by decide +kernel
theorem sh_52 : shL[52]? = some (.inr (0, 200)) := by decide +kernel
theorem sh_53 : shL[53]? = some (.inr (0, 201)) := by decide +kernel
theorem sh_54 : shL[54]? = some (.inr (0, 201)) := by decide +kernel
theorem sh_55 : shL[55]? = some (.inl (10, [some 56, some 57, some 58, some 59, some 60, some 61, some 62])) := by decide +kernel
theorem sh_56 : shL[56]? = some (.inr (0, 9)) := by decide +kernel
theorem sh_57 : shL[57]? = some (.inr (1, 108)) := by decide +kernel
theorem sh_58 : shL[58]? = some (.inr (1, 108)) := by decide +kernel
theorem sh_59 : shL[59]? = some (.inr (1, 12)) := by decide +kernel
theorem sh_60 : shL[60]? = some (.inr (1, 12)) := by decide +kernel
theorem sh_61 : shL[61]? = some (.inr (0, 108)) := by decide +kernel
theorem sh_62 : shL[62]? = some (.inr (0, 9)) := by decide +kernel
theorem sh_63 : shL[63]? = some (.inl (7, [some 64, some 65, some 66])) := by decide +kernel
theorem sh_64 : shL[64]? = some (.inr (0, 8)) := by decide +kernel
theorem sh_65 : shL[65]? = some (.inr (0, 512)) := by decide +kernel
theorem sh_66 : shL[66]? = some (.inr (0, 512)) := by decide +kernel
theorem sh_67 : shL[67]? = some (.inl (4, [some 68, none])) := by decide +kernel
theorem sh_68 : shL[68]? = some (.inr (0, 60)) := by decide +kernel
theorem sh_69 : shL[69]? = some (.inl (8, [some 70, some 71, some 72])) := by decide +kernel
theorem sh_70 : shL[70]? = some (.inr (0, 4)) := by decide +kernel
theorem sh_71 : shL[71]? = some (.inr (0, 4)) := by decide +kernel
theorem sh_72 : shL[72]? = some (.inr (3, 4)) := by decide +kernel
theorem sh_73 : shL[73]? = some (.inr (0, 40)) := by decide +kernel
theorem sh_74 : shL[74]? = some (.inr (0, 40)) := by decide +kernel
theorem sh_75 : shL[75]? = some (.inr (0, 40)) := by decide +kernel
theorem sh_76 : shL[76]? = some (.inr (0, 40)) := by decide +kernel
theorem sh_77 : shL[77]? = some (.inl (9, [some 78, some 79, some 80])) := by decide +kernel
theorem sh_78 : shL[78]? = some (.inr (0, 4)) := by decide +kernel
theorem sh_79 : shL[79]? = some (.inr (0, 4)) := by decide +kernel
theorem sh_80 : shL[80]? = some (.inr (0, 4)) := by decide +kernel
theorem sh_81 : shL[81]? = some (.inl (0, [some 82, none, none, none, none, none])) := by decide +kernel
theorem sh_82 : shL[82]? = some (.inr (0, 30)) := by decide +kernel
theorem sh_83 : shL[83]? = some (.inl (12, [some 84, some 85, some 86, none, some 87, none, none, some 88, some 89, some 90, some 91, some 92, some 93, some 94, some 95, some 96, none, some 97, none, none, none, none, none, none, none, some 98, some 99, some 100, some 101, some 102, some 103, some 104, none, none, none, none, none])) := by decide +kernel
theorem sh_84 : shL[84]? = some (.inr (0, 316)) := by decide +kernel
theorem sh_85 : shL[85]? = some (.inr (0, 316)) := by decide +kernel
theorem sh_86 : shL[86]? = some (.inr (0, 316)) := by decide +kernel
theorem sh_87 : shL[87]? = some (.inr (0, 200)) := by decide +kernel
theorem sh_88 : shL[88]? = some (.inr (0, 9)) := by decide +kernel
theorem sh_89 : shL[89]? = some (.inr (1, 108)) := by decide +kernel
theorem sh_90 : shL[90]? = some (.inr (1, 108)) := by decide +kernel
theorem sh_91 : shL[91]? = some (.inr (2, 108)) := by decide +kernel
theorem sh_92 : shL[92]? = some (.inr (0, 9)) := by decide +kernel
theorem sh_93 : shL[93]? = some (.inr (0, 9)) := by decide +kernel
theorem sh_94 : shL[94]? = some (.inr (0, 4608)) := by decide +kernel
theorem sh_95 : shL[95]? = some (.inr (0, 8)) := by decide +kernel
theorem sh_96 : shL[96]? = some (.inr (0, 60)) := by decide +kernel
theorem sh_97 : shL[97]? = some (.inr (0, 200)) := by decide +kernel
theorem sh_98 : shL[98]? = some (.inr (0, 4)) := by decide +kernel
theorem sh_99 : shL[99]? = some (.inr (0, 4)) := by decide +kernel
theorem sh_100 : shL[100]? = some (.inr (0, 160)) := by decide +kernel
theorem sh_101 : shL[101]? = some (.inr (0, 4)) := by decide +kernel
theorem sh_102 : shL[102]? = some (.inr (0, 4)) := by decide +kernel
theorem sh_103 : shL[103]? = some (.inr (0, 4)) := by decide +kernel
theorem sh_104 : shL[104]? = some (.inr (0, 30)) := by decide +kernel
def sF (G : sG) (f : Nat → Int32) : Nat → List (Option Nat) → List Value
  | _, [] => []
  | j, none :: l => .int (f j) :: sF G f (j + 1) l
  | j, some q :: l => .ref (gA G q) :: sF G f (j + 1) l
theorem sF_len (G : sG) (f : Nat → Int32) : ∀ (l : List (Option Nat)) (j : Nat), (sF G f j l).length = l.length
  | [], _ => rfl
  | none :: l, j => congrArg (· + 1) (sF_len G f l (j + 1))
  | some _ :: l, j => congrArg (· + 1) (sF_len G f l (j + 1))
theorem sF_int (G : sG) (f : Nat → Int32) : ∀ (l : List (Option Nat)) (j k : Nat), l[k]? = some none → (sF G f j l)[k]? = some (.int (f (j + k)))
  | [], _, _, h => by simp at h
  | none :: l, j, 0, _ => rfl
  | some _ :: l, j, 0, h => by simp at h
  | none :: l, j, k + 1, h => by
    have := sF_int G f l (j + 1) k (by simpa using h)
    rw [show j + 1 + k = j + (k + 1) by omega] at this
    simpa [sF] using this
  | some _ :: l, j, k + 1, h => by
    have := sF_int G f l (j + 1) k (by simpa using h)
    rw [show j + 1 + k = j + (k + 1) by omega] at this
    simpa [sF] using this
theorem sF_ref (G : sG) (f : Nat → Int32) : ∀ (l : List (Option Nat)) (j k q : Nat), l[k]? = some (some q) → (sF G f j l)[k]? = some (.ref (gA G q))
  | [], _, _, _, h => by simp at h
  | none :: l, j, 0, q, h => by simp at h
  | some _ :: l, j, 0, q, h => by
    simp at h
    subst h
    rfl
  | none :: l, j, k + 1, q, h => by simpa [sF] using sF_ref G f l (j + 1) k q (by simpa using h)
  | some _ :: l, j, k + 1, q, h => by simpa [sF] using sF_ref G f l (j + 1) k q (by simpa using h)
theorem sF_congr (G : sG) (f g : Nat → Int32) : ∀ (l : List (Option Nat)) (j : Nat), (∀ i, j ≤ i → f i = g i) → sF G f j l = sF G g j l
  | [], _, _ => rfl
  | none :: l, j, h => by
    show Value.int (f j) :: sF G f (j + 1) l = Value.int (g j) :: sF G g (j + 1) l
    rw [h j (Nat.le_refl j), sF_congr G f g l (j + 1) (fun i hi => h i (by omega))]
  | some q :: l, j, h => by
    show Value.ref (gA G q) :: sF G f (j + 1) l = Value.ref (gA G q) :: sF G g (j + 1) l
    rw [sF_congr G f g l (j + 1) (fun i hi => h i (by omega))]
theorem sF_set (G : sG) (f : Nat → Int32) (v : Int32) : ∀ (l : List (Option Nat)) (j k : Nat), l[k]? = some none → (sF G f j l).set k (.int v) = sF G (upd f (j + k) v) j l
  | [], _, _, h => by simp at h
  | none :: l, j, 0, _ => by
    show Value.int v :: sF G f (j + 1) l = Value.int (upd f (j + 0) v j) :: sF G (upd f (j + 0) v) (j + 1) l
    rw [show upd f (j + 0) v j = v by simp [upd], sF_congr G (upd f (j + 0) v) f l (j + 1) (fun i hi => by simp [upd, show i ≠ j by omega])]
  | some _ :: l, j, 0, h => by simp at h
  | none :: l, j, k + 1, h => by
    show Value.int (f j) :: (sF G f (j + 1) l).set k (.int v) = Value.int (upd f (j + (k + 1)) v j) :: sF G (upd f (j + (k + 1)) v) (j + 1) l
    rw [sF_set G f v l (j + 1) k (by simpa using h), show j + 1 + k = j + (k + 1) by omega, show upd f (j + (k + 1)) v j = f j by simp [upd, show j ≠ j + (k + 1) by omega]]
  | some q :: l, j, k + 1, h => by
    show Value.ref (gA G q) :: (sF G f (j + 1) l).set k (.int v) = Value.ref (gA G q) :: sF G (upd f (j + (k + 1)) v) (j + 1) l
    rw [sF_set G f v l (j + 1) k (by simpa using h), show j + 1 + k = j + (k + 1) by omega]
def sEs (G : sG) (fi : Nat → Int32) (fl : Nat → Int64) : Option ((Nat × List (Option Nat)) ⊕ (Nat × Nat)) → va_E
  | some (.inl (ci, l)) => .inr (ci, sF G fi 0 l)
  | some (.inr (0, n)) => .inl (gI G, n, .inl fi)
  | some (.inr (1, n)) => .inl (gJ G, n, .inr (.inl fl))
  | some (.inr (2, n)) => .inl (gZ G, n, .inl fi)
  | some (.inr (_ + 3, n)) => .inl (gQ G, n, .inr (.inr (.inr (.inr (fun j => some (gA G (73 + j)))))))
  | none => .inl (gI G, 0, .inl fi)
def sE (G : sG) (σ : sS) (k : Nat) : va_E := sEs G (σ.1 k) (σ.2 k) shL[k]?
def sW (G : sG) (σ : sS) : va_W := (List.range sN).map (fun k => (gA G k, sE G σ k))
def sI (σ : sS) (q j : Nat) (v : Int32) : sS := (fun a => if a = q then upd (σ.1 q) j v else σ.1 a, σ.2)
def sJ (σ : sS) (q j : Nat) (v : Int64) : sS := (σ.1, fun a => if a = q then vp_updL (σ.2 q) j v else σ.2 a)
theorem s_lt {q : Nat} {x : (Nat × List (Option Nat)) ⊕ (Nat × Nat)} (h : shL[q]? = some x) : q < sN := by
  rw [← sN_len]
  exact (List.getElem?_eq_some_iff.mp h).1
theorem sW_get (G : sG) (σ : sS) {k : Nat} (h : k < sN) : (sW G σ)[k]? = some (gA G k, sE G σ k) := by
  unfold sW
  rw [List.getElem?_map, List.getElem?_range h]
  rfl
theorem sW_at (G : sG) (σ : sS) {k : Nat} {e : va_E} (h : k < sN) (he : sE G σ k = e) : (sW G σ)[k]? = some (gA G k, e) := by rw [sW_get G σ h, he]
theorem sW_set (G : sG) (σ τ : sS) {k : Nat} {e : va_E} (he : sE G τ k = e) (h : ∀ j, j ≠ k → sE G τ j = sE G σ j) : (sW G σ).set k (gA G k, e) = sW G τ := by
  apply List.ext_getElem?
  intro i
  by_cases hi : i < sN
  · rw [sW_get G τ hi]
    by_cases hk : i = k
    · subst hk
      rw [List.getElem?_set_self (by unfold sW; simpa using hi), he]
    · rw [List.getElem?_set_ne (Ne.symm hk), sW_get G σ hi, h i hk]
  · have h1 : sN ≤ i := by omega
    rw [List.getElem?_eq_none (by rw [List.length_set]; unfold sW; simpa using h1), List.getElem?_eq_none (by unfold sW; simpa using h1)]
theorem sE_I_ne (G : sG) (σ : sS) (q j : Nat) (v : Int32) {i : Nat} (h : i ≠ q) : sE G (sI σ q j v) i = sE G σ i := by
  unfold sE sI
  simp only [if_neg h]
theorem sE_J_ne (G : sG) (σ : sS) (q j : Nat) (v : Int64) {i : Nat} (h : i ≠ q) : sE G (sJ σ q j v) i = sE G σ i := by
  unfold sE sJ
  simp only [if_neg h]
def sTy (G : sG) : List (ClassId × FieldType) := [(gI G, .int), (gJ G, .long), (gZ G, .boolean), (gQ G, .array .int)]
def sK (G : sG) (U : State) : Prop := va_K G.1 vwCl (sTy G) U
def sA (G : sG) : Nat → Prop := fun a => ∃ k, k < sN ∧ a = gA G k
def sInj (G : sG) : Prop := ∀ i j, i < sN → j < sN → gA G i = gA G j → i = j
theorem sD {G : sG} (h : sInj G) (σ : sS) : va_D (sA G) (sW G σ) := by
  have key : ∀ (k : Nat) (q : Nat × va_E), (sW G σ)[k]? = some q → k < sN ∧ q.1 = gA G k := by
    intro k q hk
    have hl : k < sN := by
      have := (List.getElem?_eq_some_iff.mp hk).1
      unfold sW at this
      simpa using this
    rw [sW_get G σ hl] at hk
    cases hk
    exact ⟨hl, rfl⟩
  refine ⟨fun i j p q hi hj hpq => ?_, fun k q hk => ?_⟩
  · obtain ⟨h1, h2⟩ := key i p hi
    obtain ⟨h3, h4⟩ := key j q hj
    exact h i j h1 h3 (by rw [← h2, ← h4, hpq])
  · obtain ⟨h1, h2⟩ := key k q hk
    exact ⟨k, h1, h2⟩
/-- the words that hold at every state: those of the tables that stay; and the links to nest mates -/
def sT : List Cond := lw_tbl.filter goodWord
theorem sT_of {w : Cond} (i : Nat) (h : lw_tbl[i]? = some w) (hg : goodWord w = true) : w ∈ sT := List.mem_filter.mpr ⟨List.mem_of_getElem? h, hg⟩
def sNW : List (String × Nat × MethodName × String) := [("RoundAndUp$RuleBook", 37, ({ cls := "RoundAndUp", name := "isUnder", desc := "(II)Z" } : Jvm.MethodName), "RoundAndUp"), ("RoundAndUp$Ring", 71, ({ cls := "RoundAndUp", name := "isUnder", desc := "(II)Z" } : Jvm.MethodName), "RoundAndUp"), ("RoundAndUp$Ring", 79, ({ cls := "RoundAndUp", name := "remainder", desc := "(II)I" } : Jvm.MethodName), "RoundAndUp"), ("RoundAndUp$RuleReader", 87, ({ cls := "RoundAndUp", name := "isWithin", desc := "(III)Z" } : Jvm.MethodName), "RoundAndUp"), ("RoundAndUp$Tuner", 63, ({ cls := "RoundAndUp", name := "remainder", desc := "(II)I" } : Jvm.MethodName), "RoundAndUp"), ("RoundAndUp$Rows", 19, ({ cls := "RoundAndUp", name := "isWithin", desc := "(III)Z" } : Jvm.MethodName), "RoundAndUp"), ("RoundAndUp$Acts", 49, ({ cls := "RoundAndUp", name := "isUnder", desc := "(II)Z" } : Jvm.MethodName), "RoundAndUp")]
def sTx : String := "animal horse swan white lame ostrich if free dear slow stop or and not level crank phase price number"
def sBy : List Int32 := [97, 110, 105, 109, 97, 108, 32, 104, 111, 114, 115, 101, 32, 115, 119, 97, 110, 32, 119, 104, 105, 116, 101, 32, 108, 97, 109, 101, 32, 111, 115, 116, 114, 105, 99, 104, 32, 105, 102, 32, 102, 114, 101, 101, 32, 100, 101, 97, 114, 32, 115, 108, 111, 119, 32, 115, 116, 111, 112, 32, 111, 114, 32, 97, 110, 100, 32, 110, 111, 116, 32, 108, 101, 118, 101, 108, 32, 99, 114, 97, 110, 107, 32, 112, 104, 97, 115, 101, 32, 112, 114, 105, 99, 101, 32, 110, 117, 109, 98, 101, 114]
def sStr (G : sG) (U : State) : Prop := vk_R "RoundAndUp$RuleReader" 72 sTx (gS G) U ∧ vk_S 1 [101] [sBy] (fun _ => gS G) (fun _ => gV G) (sA G) U U.heap ∧ va_Z "java/lang/String" "COMPACT_STRINGS" "Z" (.int 1) (sA G) U U.heap ∧ va_Zq "jdk/internal/util/Preconditions" "SIOOBE_FORMATTER" "Ljava/util/function/BiFunction;" (sA G) U U.heap
def sNs (G : sG) (U : State) : Prop := (∀ q ∈ sNW, va_Nw (.methodLinkNest q.1 q.2.1 q.2.2.1 q.2.2.2) U) ∧ sStr G U
def sR (d : Nat) : Room := { frames := d, cells := 0, slots := 0, locals := 64 * d }
def sB (G : sG) (σ : sS) (U : State) : Prop := va_P G.1 vwCl (sW G σ) U.heap ∧ sK G U ∧ sInj G ∧ sNs G U
def sQ (G : sG) (o : Option Value) (τ : sS) : Array Value → State → Outcome → State → Prop := fun _ st oc t => (oc = .returned o ∧ va_P G.1 vwCl (sW G τ) t.heap) ∧ va_F (sA G) st t
/-- a method's contract -/
def sC (l : Launch) (G : sG) (y : MethodName) (cc : ByteArray) (nL : Nat) (ret : Option FieldType) (d : Nat) (av : List Value) (σ : sS) (o : Option Value) (τ : sS) : Prop :=
  Met l y (.code y cc nL ret :: sT) (sR d) (va_Pc av (sB G σ)) (sQ G o τ) 0 0 (sA G)
/-- what holds all along a method -/
def sX (G : sG) (own : String) (cc : ByteArray) (nL : Nat) (ret : Option FieldType) (p : Program) (s : State) (m : MethodId) (args : Array Value) (meth : Method) (c : Code) : Prop :=
  p.tables.exec = Jvm.exec ∧ c.code = cc ∧ c.maxLocals = nL ∧ meth.sig.returnType = ret ∧ s.vm.findClass own = some m.cls ∧ (∀ w ∈ sT, w.before args s = true) ∧ meth.locks = false ∧ sK G s ∧ sInj G ∧ sNs G s
/-- from this place of the method it comes to its end, with this answer and these cells -/
def sSim (l : Launch) (G : sG) (own : String) (cc : ByteArray) (nL : Nat) (ret : Option FieldType) (d : Nat) (pc : Nat) (L : List (Nat × Value)) (S : List Value) (σ : sS) (o : Option Value) (τ : sS) : Prop :=
  ∀ (p : Program) (e : Env) (s : State) (m : MethodId) (args : Array Value) (below : List Frame) (meth : Method) (c : Code), sX G own cc nL ret p s m args meth c →
    ∀ (H : Heap) (locs : List Loc) (ls : Array Slot), lv_has ls nL L → va_P G.1 vwCl (sW G σ) H → va_S (sA G) s.heap H locs →
      W p l e (sR d) s m args below meth c H locs 0 0 (MQ below (sQ G o τ) args s 0 0 (sA G)) (F0 m pc ls S)
