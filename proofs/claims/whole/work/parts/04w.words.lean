/-- what the tables say of a class of the world -/
def sKc (ci : Nat) (C : String) (T : u_T) (N : Nat) (ty : Nat → FieldType) : Prop := vwCl[ci]? = some (C, T, N) ∧ (∀ w ∈ u_ws C T N, w ∈ sT) ∧ (∀ k, k < N → parseFieldDescriptor (T k).2.2.1 = some (ty k)) ∧ (∀ a, a < N → ∀ b, b < N → a ≠ b → (T a).2.1 ≠ (T b).2.1)
/-- what the tables say of a method that is called -/
def sMv (y : MethodName) (C : String) (ccY : ByteArray) (nY : Nat) (retY : Option FieldType) (n : Nat) : Prop :=
  Cond.instanceMethod y ∈ sT ∧ Cond.selects C y y ∈ sT ∧ Cond.initialized C ∈ sT ∧ Cond.code y ccY nY retY ∈ sT ∧ (y.cls = C ∧ y.cls ≠ "java/lang/invoke/MethodHandle" ∧ y.cls ≠ "java/lang/invoke/VarHandle" ∧ (parseMethodDescriptor y.desc).map (fun d => d.parameters.length) = some n) ∧ nY ≤ 45
def sMs (y : MethodName) (ccY : ByteArray) (nY : Nat) (retY : Option FieldType) (n : Nat) : Prop :=
  Cond.static y ∈ sT ∧ Cond.initialized y.cls ∈ sT ∧ Cond.code y ccY nY retY ∈ sT ∧ (y.cls ≠ "java/lang/invoke/MethodHandle" ∧ y.cls ≠ "java/lang/invoke/VarHandle" ∧ (parseMethodDescriptor y.desc).map (fun d => d.parameters.length) = some n) ∧ nY ≤ 45
theorem sT_all (ws : List Cond) (h : ws.all (fun w => decide (w ∈ lw_tbl) && goodWord w) = true) : ∀ w ∈ ws, w ∈ sT := by
  intro w hw
  have h1 := List.all_eq_true.mp h w hw
  simp only [Bool.and_eq_true, decide_eq_true_eq] at h1
  exact List.mem_filter.mpr h1
theorem sT_c0 {w : Cond} (h : w ∈ k2_sels lw_privs) : w ∈ lw_tbl := List.mem_append_left _ h
theorem sT_0 {w : Cond} (i : Nat) (h : (k2_sels lw_privs)[i]? = some w) (hg : goodWord w = true) : w ∈ sT := List.mem_filter.mpr ⟨sT_c0 (List.mem_of_getElem? h), hg⟩
theorem sT_c1 {w : Cond} (h : w ∈ tables_1_1) : w ∈ lw_tbl := List.mem_append_right _ (List.mem_append_left _ (h))
theorem sT_1 {w : Cond} (i : Nat) (h : (tables_1_1)[i]? = some w) (hg : goodWord w = true) : w ∈ sT := List.mem_filter.mpr ⟨sT_c1 (List.mem_of_getElem? h), hg⟩
theorem sT_c2 {w : Cond} (h : w ∈ tables_1_2) : w ∈ lw_tbl := List.mem_append_right _ (List.mem_append_right _ (List.mem_append_left _ (h)))
theorem sT_2 {w : Cond} (i : Nat) (h : (tables_1_2)[i]? = some w) (hg : goodWord w = true) : w ∈ sT := List.mem_filter.mpr ⟨sT_c2 (List.mem_of_getElem? h), hg⟩
theorem sT_c3 {w : Cond} (h : w ∈ tables_1_3) : w ∈ lw_tbl := List.mem_append_right _ (List.mem_append_right _ (List.mem_append_right _ (List.mem_append_left _ (h))))
theorem sT_3 {w : Cond} (i : Nat) (h : (tables_1_3)[i]? = some w) (hg : goodWord w = true) : w ∈ sT := List.mem_filter.mpr ⟨sT_c3 (List.mem_of_getElem? h), hg⟩
theorem sT_c4 {w : Cond} (h : w ∈ tables_1_4) : w ∈ lw_tbl := List.mem_append_right _ (List.mem_append_right _ (List.mem_append_right _ (List.mem_append_right _ (List.mem_append_left _ (h)))))
theorem sT_4 {w : Cond} (i : Nat) (h : (tables_1_4)[i]? = some w) (hg : goodWord w = true) : w ∈ sT := List.mem_filter.mpr ⟨sT_c4 (List.mem_of_getElem? h), hg⟩
theorem sT_c5 {w : Cond} (h : w ∈ tables_1_5) : w ∈ lw_tbl := List.mem_append_right _ (List.mem_append_right _ (List.mem_append_right _ (List.mem_append_right _ (List.mem_append_right _ (List.mem_append_left _ (h))))))
theorem sT_5 {w : Cond} (i : Nat) (h : (tables_1_5)[i]? = some w) (hg : goodWord w = true) : w ∈ sT := List.mem_filter.mpr ⟨sT_c5 (List.mem_of_getElem? h), hg⟩
theorem sT_c6 {w : Cond} (h : w ∈ tables_1_6) : w ∈ lw_tbl := List.mem_append_right _ (List.mem_append_right _ (List.mem_append_right _ (List.mem_append_right _ (List.mem_append_right _ (List.mem_append_right _ (List.mem_append_left _ (h)))))))
theorem sT_6 {w : Cond} (i : Nat) (h : (tables_1_6)[i]? = some w) (hg : goodWord w = true) : w ∈ sT := List.mem_filter.mpr ⟨sT_c6 (List.mem_of_getElem? h), hg⟩
theorem sT_c7 {w : Cond} (h : w ∈ tables_1_7) : w ∈ lw_tbl := List.mem_append_right _ (List.mem_append_right _ (List.mem_append_right _ (List.mem_append_right _ (List.mem_append_right _ (List.mem_append_right _ (List.mem_append_right _ (List.mem_append_left _ (h))))))))
theorem sT_7 {w : Cond} (i : Nat) (h : (tables_1_7)[i]? = some w) (hg : goodWord w = true) : w ∈ sT := List.mem_filter.mpr ⟨sT_c7 (List.mem_of_getElem? h), hg⟩
theorem sT_c8 {w : Cond} (h : w ∈ tables_1_8) : w ∈ lw_tbl := List.mem_append_right _ (List.mem_append_right _ (List.mem_append_right _ (List.mem_append_right _ (List.mem_append_right _ (List.mem_append_right _ (List.mem_append_right _ (List.mem_append_right _ (h))))))))
theorem sT_8 {w : Cond} (i : Nat) (h : (tables_1_8)[i]? = some w) (hg : goodWord w = true) : w ∈ sT := List.mem_filter.mpr ⟨sT_c8 (List.mem_of_getElem? h), hg⟩
theorem nb_0 : narrow .boolean (.int 0) = .int 0 := by decide
theorem ic_0 : Int32.ofInt (0) = (0 : Int32) := by decide
theorem nb_1 : narrow .boolean (.int 1) = .int 1 := by decide
theorem ic_1 : Int32.ofInt (1) = (1 : Int32) := by decide
theorem pn_RX11 : plainName RX11 = true := by decide +kernel
theorem mk_X11_isWithin : sMs yX11_isWithin cX11_isWithin 3 (some .boolean) 3 := ⟨sT_2 135 (by decide +kernel) rfl, sT_1 1 (by decide +kernel) rfl, sT_2 136 (by decide +kernel) rfl, by decide +kernel, Nat.le_of_ble_eq_true rfl⟩
theorem lk_RX11_145 : Cond.methodLink RX11 145 yX11_isWithin ∈ sT := sT_2 134 (by decide +kernel) rfl
theorem ic_5 : Int32.ofInt (5) = (5 : Int32) := by decide
theorem bp_12 : (Int8.ofInt (12)).toInt32 = (12 : Int32) := by decide
theorem ic_2 : Int32.ofInt (2) = (2 : Int32) := by decide
theorem bp_11 : (Int8.ofInt (11)).toInt32 = (11 : Int32) := by decide
theorem bp_99 : (Int8.ofInt (99)).toInt32 = (99 : Int32) := by decide
theorem kc_3 : sKc 3 RX3 TX3 11 tyX3 := ⟨rfl, sT_all _ (by decide +kernel), tyX3_ok, nmX3⟩
theorem fk_RX3_44 : Cond.fieldLink RX3 44 (TX3 4).1 (TX3 4).2.1 (TX3 4).2.2.1 ∈ sT := sT_1 73 (by decide +kernel) rfl
theorem fk_RX3_21 : Cond.fieldLink RX3 21 (TX3 3).1 (TX3 3).2.1 (TX3 3).2.2.1 ∈ sT := sT_1 70 (by decide +kernel) rfl
theorem fk_RX3_18 : Cond.fieldLink RX3 18 (TX3 2).1 (TX3 2).2.1 (TX3 2).2.2.1 ∈ sT := sT_1 68 (by decide +kernel) rfl
theorem fk_RX3_15 : Cond.fieldLink RX3 15 (TX3 1).1 (TX3 1).2.1 (TX3 1).2.2.1 ∈ sT := sT_1 65 (by decide +kernel) rfl
theorem fk_RX3_9 : Cond.fieldLink RX3 9 (TX3 0).1 (TX3 0).2.1 (TX3 0).2.2.1 ∈ sT := sT_1 63 (by decide +kernel) rfl
theorem pn_RX3 : plainName RX3 = true := by decide +kernel
theorem ic_m1 : Int32.ofInt (-1) = (-1 : Int32) := by decide
theorem mk_X3_add : sMv yX3_add RX3 cX3_add 5 (some .int) 4 := ⟨sT_2 147 (by decide +kernel) rfl, sT_2 148 (by decide +kernel) rfl, sT_1 2 (by decide +kernel) rfl, sT_2 149 (by decide +kernel) rfl, by decide +kernel, Nat.le_of_ble_eq_true rfl⟩
theorem lk_RX11_105 : Cond.methodLink RX11 105 yX3_add ∈ sT := sT_2 146 (by decide +kernel) rfl
theorem kc_11 : sKc 11 RX11 TX11 14 tyX11 := ⟨rfl, sT_all _ (by decide +kernel), tyX11_ok, nmX11⟩
theorem fk_RX11_10 : Cond.fieldLink RX11 10 (TX11 0).1 (TX11 0).2.1 (TX11 0).2.2.1 ∈ sT := sT_2 84 (by decide +kernel) rfl
theorem bp_m2 : (Int8.ofInt (-2)).toInt32 = (-2 : Int32) := by decide
theorem bp_9 : (Int8.ofInt (9)).toInt32 = (9 : Int32) := by decide
theorem fk_RX11_101 : Cond.fieldLink RX11 101 (TX3 4).1 (TX3 4).2.1 (TX3 4).2.2.1 ∈ sT := sT_1 74 (by decide +kernel) rfl
theorem mk_X11_isPrice : sMs yX11_isPrice cX11_isPrice 1 (some .boolean) 1 := ⟨sT_2 144 (by decide +kernel) rfl, sT_1 1 (by decide +kernel) rfl, sT_2 145 (by decide +kernel) rfl, by decide +kernel, Nat.le_of_ble_eq_true rfl⟩
theorem lk_RX11_98 : Cond.methodLink RX11 98 yX11_isPrice ∈ sT := sT_2 143 (by decide +kernel) rfl
theorem mk_X11_isPhase : sMs yX11_isPhase cX11_isPhase 1 (some .boolean) 1 := ⟨sT_2 141 (by decide +kernel) rfl, sT_1 1 (by decide +kernel) rfl, sT_2 142 (by decide +kernel) rfl, by decide +kernel, Nat.le_of_ble_eq_true rfl⟩
theorem lk_RX11_95 : Cond.methodLink RX11 95 yX11_isPhase ∈ sT := sT_2 140 (by decide +kernel) rfl
theorem mk_X11_isCrank : sMs yX11_isCrank cX11_isCrank 1 (some .boolean) 1 := ⟨sT_2 138 (by decide +kernel) rfl, sT_1 1 (by decide +kernel) rfl, sT_2 139 (by decide +kernel) rfl, by decide +kernel, Nat.le_of_ble_eq_true rfl⟩
theorem lk_RX11_92 : Cond.methodLink RX11 92 yX11_isCrank ∈ sT := sT_2 137 (by decide +kernel) rfl
theorem mk_X11_isKind : sMs yX11_isKind cX11_isKind 1 (some .boolean) 1 := ⟨sT_2 132 (by decide +kernel) rfl, sT_1 1 (by decide +kernel) rfl, sT_2 133 (by decide +kernel) rfl, by decide +kernel, Nat.le_of_ble_eq_true rfl⟩
theorem lk_RX11_88 : Cond.methodLink RX11 88 yX11_isKind ∈ sT := sT_2 131 (by decide +kernel) rfl
theorem ic_3 : Int32.ofInt (3) = (3 : Int32) := by decide
theorem sp_10000 : (Int16.ofInt (10000)).toInt32 = (10000 : Int32) := by decide
theorem sp_10005 : (Int16.ofInt (10005)).toInt32 = (10005 : Int32) := by decide
theorem pn_RX5 : plainName RX5 = true := by decide +kernel
theorem bp_28 : (Int8.ofInt (28)).toInt32 = (28 : Int32) := by decide
theorem mk_X5_valueOf : sMs yX5_valueOf cX5_valueOf 2 (some .int) 2 := ⟨sT_2 181 (by decide +kernel) rfl, sT_1 3 (by decide +kernel) rfl, sT_2 182 (by decide +kernel) rfl, by decide +kernel, Nat.le_of_ble_eq_true rfl⟩
theorem lk_RX5_48 : Cond.methodLink RX5 48 yX5_valueOf ∈ sT := sT_2 180 (by decide +kernel) rfl
theorem sp_16383 : (Int16.ofInt (16383)).toInt32 = (16383 : Int32) := by decide
theorem bp_14 : (Int8.ofInt (14)).toInt32 = (14 : Int32) := by decide
theorem mk_X5_compares : sMs yX5_compares cX5_compares 4 (some .boolean) 2 := ⟨sT_2 178 (by decide +kernel) rfl, sT_1 3 (by decide +kernel) rfl, sT_2 179 (by decide +kernel) rfl, by decide +kernel, Nat.le_of_ble_eq_true rfl⟩
theorem lk_RX5_45 : Cond.methodLink RX5 45 yX5_compares ∈ sT := sT_2 177 (by decide +kernel) rfl
theorem kc_5 : sKc 5 RX5 TX5 6 tyX5 := ⟨rfl, sT_all _ (by decide +kernel), tyX5_ok, nmX5⟩
theorem fk_RX5_24 : Cond.fieldLink RX5 24 (TX5 4).1 (TX5 4).2.1 (TX5 4).2.2.1 ∈ sT := sT_1 46 (by decide +kernel) rfl
theorem fk_RX5_21 : Cond.fieldLink RX5 21 (TX5 3).1 (TX5 3).2.1 (TX5 3).2.2.1 ∈ sT := sT_1 45 (by decide +kernel) rfl
theorem bp_m3 : (Int8.ofInt (-3)).toInt32 = (-3 : Int32) := by decide
theorem mk_X5_holds : sMv yX5_holds RX5 cX5_holds 6 (some .boolean) 2 := ⟨sT_2 175 (by decide +kernel) rfl, sT_0 1 (by decide +kernel) rfl, sT_1 3 (by decide +kernel) rfl, sT_2 176 (by decide +kernel) rfl, by decide +kernel, Nat.le_of_ble_eq_true rfl⟩
theorem lk_RX5_41 : Cond.methodLink RX5 41 yX5_holds ∈ sT := sT_2 173 (by decide +kernel) rfl
theorem mk_X11_isUnder : sMs yX11_isUnder cX11_isUnder 2 (some .boolean) 2 := ⟨sT_2 171 (by decide +kernel) rfl, sT_1 1 (by decide +kernel) rfl, sT_2 172 (by decide +kernel) rfl, by decide +kernel, Nat.le_of_ble_eq_true rfl⟩
theorem nk_RX5_37 : (RX5, 37, yX11_isUnder, "RoundAndUp") ∈ sNW := by decide +kernel
theorem fk_RX5_11 : Cond.fieldLink RX5 11 (TX5 0).1 (TX5 0).2.1 (TX5 0).2.2.1 ∈ sT := sT_1 42 (by decide +kernel) rfl
theorem fk_RX5_33 : Cond.fieldLink RX5 33 (TX5 5).1 (TX5 5).2.1 (TX5 5).2.2.1 ∈ sT := sT_1 47 (by decide +kernel) rfl
theorem mk_X5_firstFor : sMv yX5_firstFor RX5 cX5_firstFor 4 (some .int) 2 := ⟨sT_2 167 (by decide +kernel) rfl, sT_2 168 (by decide +kernel) rfl, sT_1 3 (by decide +kernel) rfl, sT_2 169 (by decide +kernel) rfl, by decide +kernel, Nat.le_of_ble_eq_true rfl⟩
theorem lk_RX3_75 : Cond.methodLink RX3 75 yX5_firstFor ∈ sT := sT_2 166 (by decide +kernel) rfl
theorem fk_RX3_41 : Cond.fieldLink RX3 41 (TX3 10).1 (TX3 10).2.1 (TX3 10).2.2.1 ∈ sT := sT_1 89 (by decide +kernel) rfl
theorem fk_RX3_31 : Cond.fieldLink RX3 31 (TX3 7).1 (TX3 7).2.1 (TX3 7).2.2.1 ∈ sT := sT_1 81 (by decide +kernel) rfl
theorem ic_4 : Int32.ofInt (4) = (4 : Int32) := by decide
theorem fk_RX3_24 : Cond.fieldLink RX3 24 (TX3 5).1 (TX3 5).2.1 (TX3 5).2.2.1 ∈ sT := sT_1 76 (by decide +kernel) rfl
theorem fk_RX5_15 : Cond.fieldLink RX5 15 (TX5 1).1 (TX5 1).2.1 (TX5 1).2.2.1 ∈ sT := sT_1 43 (by decide +kernel) rfl
theorem fk_RX5_18 : Cond.fieldLink RX5 18 (TX5 2).1 (TX5 2).2.1 (TX5 2).2.2.1 ∈ sT := sT_1 44 (by decide +kernel) rfl
theorem mk_X5_does : sMv yX5_does RX5 cX5_does 3 (some .boolean) 2 := ⟨sT_2 189 (by decide +kernel) rfl, sT_0 2 (by decide +kernel) rfl, sT_1 3 (by decide +kernel) rfl, sT_2 190 (by decide +kernel) rfl, by decide +kernel, Nat.le_of_ble_eq_true rfl⟩
theorem lk_RX5_52 : Cond.methodLink RX5 52 yX5_does ∈ sT := sT_2 187 (by decide +kernel) rfl
theorem nk_RX3_71 : (RX3, 71, yX11_isUnder, "RoundAndUp") ∈ sNW := by decide +kernel
theorem fk_RX3_38 : Cond.fieldLink RX3 38 (TX3 9).1 (TX3 9).2.1 (TX3 9).2.2.1 ∈ sT := sT_1 86 (by decide +kernel) rfl
theorem mk_X5_paceBy : sMv yX5_paceBy RX5 cX5_paceBy 2 (some .int) 1 := ⟨sT_2 192 (by decide +kernel) rfl, sT_2 193 (by decide +kernel) rfl, sT_1 3 (by decide +kernel) rfl, sT_2 194 (by decide +kernel) rfl, by decide +kernel, Nat.le_of_ble_eq_true rfl⟩
theorem lk_RX3_67 : Cond.methodLink RX3 67 yX5_paceBy ∈ sT := sT_2 191 (by decide +kernel) rfl
theorem fk_RX3_35 : Cond.fieldLink RX3 35 (TX3 8).1 (TX3 8).2.1 (TX3 8).2.2.1 ∈ sT := sT_1 83 (by decide +kernel) rfl
theorem mk_X5_priceBy : sMv yX5_priceBy RX5 cX5_priceBy 3 (some .int) 2 := ⟨sT_2 184 (by decide +kernel) rfl, sT_2 185 (by decide +kernel) rfl, sT_1 3 (by decide +kernel) rfl, sT_2 186 (by decide +kernel) rfl, by decide +kernel, Nat.le_of_ble_eq_true rfl⟩
theorem lk_RX3_64 : Cond.methodLink RX3 64 yX5_priceBy ∈ sT := sT_2 183 (by decide +kernel) rfl
theorem mk_X3_ruleWith : sMv yX3_ruleWith RX3 cX3_ruleWith 3 (some .int) 2 := ⟨sT_2 164 (by decide +kernel) rfl, sT_0 0 (by decide +kernel) rfl, sT_1 2 (by decide +kernel) rfl, sT_2 165 (by decide +kernel) rfl, by decide +kernel, Nat.le_of_ble_eq_true rfl⟩
theorem lk_RX3_60 : Cond.methodLink RX3 60 yX3_ruleWith ∈ sT := sT_2 162 (by decide +kernel) rfl
theorem bp_7 : (Int8.ofInt (7)).toInt32 = (7 : Int32) := by decide
theorem mk_X11_remainder : sMs yX11_remainder cX11_remainder 2 (some .int) 2 := ⟨sT_2 212 (by decide +kernel) rfl, sT_1 1 (by decide +kernel) rfl, sT_2 213 (by decide +kernel) rfl, by decide +kernel, Nat.le_of_ble_eq_true rfl⟩
theorem nk_RX3_79 : (RX3, 79, yX11_remainder, "RoundAndUp") ∈ sNW := by decide +kernel
theorem mk_X3_teethAsItGoes : sMs yX3_teethAsItGoes cX3_teethAsItGoes 2 (some .int) 2 := ⟨sT_2 209 (by decide +kernel) rfl, sT_1 2 (by decide +kernel) rfl, sT_2 210 (by decide +kernel) rfl, by decide +kernel, Nat.le_of_ble_eq_true rfl⟩
theorem lk_RX3_82 : Cond.methodLink RX3 82 yX3_teethAsItGoes ∈ sT := sT_2 208 (by decide +kernel) rfl
theorem mk_X3_placeWith : sMv yX3_placeWith RX3 cX3_placeWith 5 (some .int) 4 := ⟨sT_2 205 (by decide +kernel) rfl, sT_2 206 (by decide +kernel) rfl, sT_1 2 (by decide +kernel) rfl, sT_2 207 (by decide +kernel) rfl, by decide +kernel, Nat.le_of_ble_eq_true rfl⟩
theorem lk_RX3_85 : Cond.methodLink RX3 85 yX3_placeWith ∈ sT := sT_2 204 (by decide +kernel) rfl
theorem m_min : Cond.static Lib.Math.min.name ∈ sT ∧ Cond.initialized "java/lang/Math" ∈ sT ∧ Cond.code Lib.Math.min.name Lib.Math.min.code 2 (some .int) ∈ sT := ⟨sT_2 219 (by decide +kernel) rfl, sT_1 14 (by decide +kernel) rfl, sT_2 220 (by decide +kernel) rfl⟩
theorem lk_RX3_89 : Cond.methodLink RX3 89 Lib.Math.min.name ∈ sT := sT_2 218 (by decide +kernel) rfl
theorem mk_X3_heightAt : sMv yX3_heightAt RX3 cX3_heightAt 4 (some .int) 2 := ⟨sT_2 215 (by decide +kernel) rfl, sT_2 216 (by decide +kernel) rfl, sT_1 2 (by decide +kernel) rfl, sT_2 217 (by decide +kernel) rfl, by decide +kernel, Nat.le_of_ble_eq_true rfl⟩
theorem lk_RX3_97 : Cond.methodLink RX3 97 yX3_heightAt ∈ sT := sT_2 214 (by decide +kernel) rfl
theorem mk_X3_placeNow : sMv yX3_placeNow RX3 cX3_placeNow 3 (some .int) 2 := ⟨sT_2 201 (by decide +kernel) rfl, sT_2 202 (by decide +kernel) rfl, sT_1 2 (by decide +kernel) rfl, sT_2 203 (by decide +kernel) rfl, by decide +kernel, Nat.le_of_ble_eq_true rfl⟩
theorem lk_RX3_94 : Cond.methodLink RX3 94 yX3_placeNow ∈ sT := sT_2 200 (by decide +kernel) rfl
theorem fk_RX11_115 : Cond.fieldLink RX11 115 (TX3 0).1 (TX3 0).2.1 (TX3 0).2.2.1 ∈ sT := sT_1 64 (by decide +kernel) rfl
theorem fk_RX11_119 : Cond.fieldLink RX11 119 (TX3 1).1 (TX3 1).2.1 (TX3 1).2.2.1 ∈ sT := sT_1 67 (by decide +kernel) rfl
theorem fk_RX11_122 : Cond.fieldLink RX11 122 (TX3 2).1 (TX3 2).2.1 (TX3 2).2.2.1 ∈ sT := sT_1 69 (by decide +kernel) rfl
theorem fk_RX11_125 : Cond.fieldLink RX11 125 (TX3 3).1 (TX3 3).2.1 (TX3 3).2.2.1 ∈ sT := sT_1 71 (by decide +kernel) rfl
theorem fk_RX11_128 : Cond.fieldLink RX11 128 (TX3 9).1 (TX3 9).2.1 (TX3 9).2.2.1 ∈ sT := sT_1 87 (by decide +kernel) rfl
theorem fk_RX11_131 : Cond.fieldLink RX11 131 (TX3 8).1 (TX3 8).2.1 (TX3 8).2.2.1 ∈ sT := sT_1 84 (by decide +kernel) rfl
theorem mk_X3_heightNow : sMv yX3_heightNow RX3 cX3_heightNow 3 (some .int) 2 := ⟨sT_2 197 (by decide +kernel) rfl, sT_2 198 (by decide +kernel) rfl, sT_1 2 (by decide +kernel) rfl, sT_2 199 (by decide +kernel) rfl, by decide +kernel, Nat.le_of_ble_eq_true rfl⟩
theorem lk_RX11_137 : Cond.methodLink RX11 137 yX3_heightNow ∈ sT := sT_2 196 (by decide +kernel) rfl
theorem fk_RX11_134 : Cond.fieldLink RX11 134 (TX3 6).1 (TX3 6).2.1 (TX3 6).2.2.1 ∈ sT := sT_1 79 (by decide +kernel) rfl
theorem mk_X3_askRules : sMv yX3_askRules RX3 cX3_askRules 4 none 0 := ⟨sT_2 159 (by decide +kernel) rfl, sT_2 160 (by decide +kernel) rfl, sT_1 2 (by decide +kernel) rfl, sT_2 161 (by decide +kernel) rfl, by decide +kernel, Nat.le_of_ble_eq_true rfl⟩
theorem lk_RX11_112 : Cond.methodLink RX11 112 yX3_askRules ∈ sT := sT_2 158 (by decide +kernel) rfl
theorem mk_X3_has : sMv yX3_has RX3 cX3_has 2 (some .boolean) 1 := ⟨sT_2 155 (by decide +kernel) rfl, sT_2 156 (by decide +kernel) rfl, sT_1 2 (by decide +kernel) rfl, sT_2 157 (by decide +kernel) rfl, by decide +kernel, Nat.le_of_ble_eq_true rfl⟩
theorem lk_RX11_109 : Cond.methodLink RX11 109 yX3_has ∈ sT := sT_2 154 (by decide +kernel) rfl
theorem mk_X11_replaced : sMs yX11_replaced cX11_replaced 4 (some .int) 3 := ⟨sT_2 226 (by decide +kernel) rfl, sT_1 1 (by decide +kernel) rfl, sT_2 227 (by decide +kernel) rfl, by decide +kernel, Nat.le_of_ble_eq_true rfl⟩
theorem lk_RX11_141 : Cond.methodLink RX11 141 yX11_replaced ∈ sT := sT_2 225 (by decide +kernel) rfl
theorem fk_RX11_149 : Cond.fieldLink RX11 149 (TX3 5).1 (TX3 5).2.1 (TX3 5).2.2.1 ∈ sT := sT_1 78 (by decide +kernel) rfl
theorem bp_m4 : (Int8.ofInt (-4)).toInt32 = (-4 : Int32) := by decide
theorem sp_9999 : (Int16.ofInt (9999)).toInt32 = (9999 : Int32) := by decide
theorem sp_500 : (Int16.ofInt (500)).toInt32 = (500 : Int32) := by decide
theorem mk_X3_phaseSlipped : sMv yX3_phaseSlipped RX3 cX3_phaseSlipped 3 (some .int) 2 := ⟨sT_3 5 (by decide +kernel) rfl, sT_3 6 (by decide +kernel) rfl, sT_1 2 (by decide +kernel) rfl, sT_3 7 (by decide +kernel) rfl, by decide +kernel, Nat.le_of_ble_eq_true rfl⟩
theorem lk_RX11_152 : Cond.methodLink RX11 152 yX3_phaseSlipped ∈ sT := sT_3 4 (by decide +kernel) rfl
theorem bp_m11 : (Int8.ofInt (-11)).toInt32 = (-11 : Int32) := by decide
theorem kc_6 : sKc 6 RX6 TX6 7 tyX6 := ⟨rfl, sT_all _ (by decide +kernel), tyX6_ok, nmX6⟩
theorem fk_RX6_28 : Cond.fieldLink RX6 28 (TX6 1).1 (TX6 1).2.1 (TX6 1).2.2.1 ∈ sT := sT_1 173 (by decide +kernel) rfl
theorem sp_255 : (Int16.ofInt (255)).toInt32 = (255 : Int32) := by decide
theorem bp_8 : (Int8.ofInt (8)).toInt32 = (8 : Int32) := by decide
theorem fk_RX6_18 : Cond.fieldLink RX6 18 (TX6 2).1 (TX6 2).2.1 (TX6 2).2.2.1 ∈ sT := sT_1 175 (by decide +kernel) rfl
theorem pn_RX6 : plainName RX6 = true := by decide +kernel
theorem mk_X6_take : sMv yX6_take RX6 cX6_take 5 (some .int) 2 := ⟨sT_3 13 (by decide +kernel) rfl, sT_3 14 (by decide +kernel) rfl, sT_1 6 (by decide +kernel) rfl, sT_3 15 (by decide +kernel) rfl, by decide +kernel, Nat.le_of_ble_eq_true rfl⟩
theorem lk_RX11_158 : Cond.methodLink RX11 158 yX6_take ∈ sT := sT_3 12 (by decide +kernel) rfl
theorem fk_RX11_42 : Cond.fieldLink RX11 42 (TX11 7).1 (TX11 7).2.1 (TX11 7).2.2.1 ∈ sT := sT_2 91 (by decide +kernel) rfl
theorem sp_200 : (Int16.ofInt (200)).toInt32 = (200 : Int32) := by decide
theorem fk_RX11_155 : Cond.fieldLink RX11 155 (TX6 1).1 (TX6 1).2.1 (TX6 1).2.2.1 ∈ sT := sT_1 174 (by decide +kernel) rfl
theorem bp_122 : (Int8.ofInt (122)).toInt32 = (122 : Int32) := by decide
theorem bp_97 : (Int8.ofInt (97)).toInt32 = (97 : Int32) := by decide
theorem bp_57 : (Int8.ofInt (57)).toInt32 = (57 : Int32) := by decide
theorem bp_48 : (Int8.ofInt (48)).toInt32 = (48 : Int32) := by decide
theorem bp_32 : (Int8.ofInt (32)).toInt32 = (32 : Int32) := by decide
theorem mk_X6_isDigit : sMs yX6_isDigit cX6_isDigit 1 (some .boolean) 1 := ⟨sT_3 36 (by decide +kernel) rfl, sT_1 6 (by decide +kernel) rfl, sT_3 37 (by decide +kernel) rfl, by decide +kernel, Nat.le_of_ble_eq_true rfl⟩
theorem lk_RX6_63 : Cond.methodLink RX6 63 yX6_isDigit ∈ sT := sT_3 35 (by decide +kernel) rfl
theorem mk_X6_isLetter : sMs yX6_isLetter cX6_isLetter 1 (some .boolean) 1 := ⟨sT_3 33 (by decide +kernel) rfl, sT_1 6 (by decide +kernel) rfl, sT_3 34 (by decide +kernel) rfl, by decide +kernel, Nat.le_of_ble_eq_true rfl⟩
theorem lk_RX6_60 : Cond.methodLink RX6 60 yX6_isLetter ∈ sT := sT_3 32 (by decide +kernel) rfl
theorem mk_X6_beginsToken : sMv yX6_beginsToken RX6 cX6_beginsToken 4 (some .boolean) 1 := ⟨sT_3 30 (by decide +kernel) rfl, sT_0 4 (by decide +kernel) rfl, sT_1 6 (by decide +kernel) rfl, sT_3 31 (by decide +kernel) rfl, by decide +kernel, Nat.le_of_ble_eq_true rfl⟩
theorem lk_RX6_48 : Cond.methodLink RX6 48 yX6_beginsToken ∈ sT := sT_3 28 (by decide +kernel) rfl
theorem fk_RJ0_15 : Cond.fieldLink RJ0 15 "java/lang/String" "coder" "B" ∈ sT := sT_8 47 (by decide +kernel) rfl
theorem fk_RJ0_38 : Cond.fieldLink RJ0 38 "java/lang/String" "COMPACT_STRINGS" "Z" ∈ sT := sT_3 59 (by decide +kernel) rfl
theorem pn_RJ0 : plainName RJ0 = true := by decide +kernel
theorem mk_J0_coder_7d493 : sMv yJ0_coder_7d493 RJ0 cJ0_coder_7d493 1 (some .byte) 0 := ⟨sT_3 56 (by decide +kernel) rfl, sT_3 57 (by decide +kernel) rfl, sT_1 15 (by decide +kernel) rfl, sT_3 58 (by decide +kernel) rfl, by decide +kernel, Nat.le_of_ble_eq_true rfl⟩
theorem lk_RJ0_335 : Cond.methodLink RJ0 335 yJ0_coder_7d493 ∈ sT := sT_3 55 (by decide +kernel) rfl
theorem fk_RJ0_9 : Cond.fieldLink RJ0 9 "java/lang/String" "value" "[B" ∈ sT := sT_8 46 (by decide +kernel) rfl
theorem pn_RJ3 : plainName RJ3 = true := by decide +kernel
theorem mk_J3_checkIndex_8e157 : sMs yJ3_checkIndex_8e157 cJ3_checkIndex_8e157 3 (some .int) 3 := ⟨sT_3 78 (by decide +kernel) rfl, sT_1 17 (by decide +kernel) rfl, sT_3 79 (by decide +kernel) rfl, by decide +kernel, Nat.le_of_ble_eq_true rfl⟩
theorem lk_RJ0_1059 : Cond.methodLink RJ0 1059 yJ3_checkIndex_8e157 ∈ sT := sT_3 77 (by decide +kernel) rfl
theorem fk_RJ0_1053 : Cond.fieldLink RJ0 1053 "jdk/internal/util/Preconditions" "SIOOBE_FORMATTER" "Ljava/util/function/BiFunction;" ∈ sT := sT_3 75 (by decide +kernel) rfl
theorem mk_J0_checkIndex_df160 : sMs yJ0_checkIndex_df160 cJ0_checkIndex_df160 2 none 2 := ⟨sT_3 73 (by decide +kernel) rfl, sT_1 15 (by decide +kernel) rfl, sT_3 74 (by decide +kernel) rfl, by decide +kernel, Nat.le_of_ble_eq_true rfl⟩
theorem lk_RJ1_9 : Cond.methodLink RJ1 9 yJ0_checkIndex_df160 ∈ sT := sT_3 72 (by decide +kernel) rfl
theorem pn_RJ1 : plainName RJ1 = true := by decide +kernel
theorem mk_J1_charAt_3b067 : sMs yJ1_charAt_3b067 cJ1_charAt_3b067 2 (some .char) 2 := ⟨sT_3 70 (by decide +kernel) rfl, sT_1 16 (by decide +kernel) rfl, sT_3 71 (by decide +kernel) rfl, by decide +kernel, Nat.le_of_ble_eq_true rfl⟩
theorem lk_RJ0_495 : Cond.methodLink RJ0 495 yJ1_charAt_3b067 ∈ sT := sT_3 69 (by decide +kernel) rfl
theorem mk_J0_isLatin1_aae02 : sMv yJ0_isLatin1_aae02 RJ0 cJ0_isLatin1_aae02 1 (some .boolean) 0 := ⟨sT_3 66 (by decide +kernel) rfl, sT_3 67 (by decide +kernel) rfl, sT_1 15 (by decide +kernel) rfl, sT_3 68 (by decide +kernel) rfl, by decide +kernel, Nat.le_of_ble_eq_true rfl⟩
theorem lk_RJ0_492 : Cond.methodLink RJ0 492 yJ0_isLatin1_aae02 ∈ sT := sT_3 65 (by decide +kernel) rfl
theorem mk_J0_charAt_5068e : sMv yJ0_charAt_5068e RJ0 cJ0_charAt_5068e 2 (some .char) 1 := ⟨sT_3 62 (by decide +kernel) rfl, sT_3 63 (by decide +kernel) rfl, sT_1 15 (by decide +kernel) rfl, sT_3 64 (by decide +kernel) rfl, by decide +kernel, Nat.le_of_ble_eq_true rfl⟩
theorem lk_RX6_79 : Cond.methodLink RX6 79 yJ0_charAt_5068e ∈ sT := sT_3 61 (by decide +kernel) rfl
theorem mk_X6_isNameAt : sMv yX6_isNameAt RX6 cX6_isNameAt 5 (some .boolean) 3 := ⟨sT_3 101 (by decide +kernel) rfl, sT_0 8 (by decide +kernel) rfl, sT_1 6 (by decide +kernel) rfl, sT_3 102 (by decide +kernel) rfl, by decide +kernel, Nat.le_of_ble_eq_true rfl⟩
theorem lk_RX6_83 : Cond.methodLink RX6 83 yX6_isNameAt ∈ sT := sT_3 99 (by decide +kernel) rfl
theorem bp_50 : (Int8.ofInt (50)).toInt32 = (50 : Int32) := by decide
theorem mk_J0_length_8abf5 : sMv yJ0_length_8abf5 RJ0 cJ0_length_8abf5 1 (some .int) 0 := ⟨sT_3 52 (by decide +kernel) rfl, sT_3 53 (by decide +kernel) rfl, sT_1 15 (by decide +kernel) rfl, sT_3 54 (by decide +kernel) rfl, by decide +kernel, Nat.le_of_ble_eq_true rfl⟩
theorem lk_RX6_74 : Cond.methodLink RX6 74 yJ0_length_8abf5 ∈ sT := sT_3 51 (by decide +kernel) rfl
theorem sp_1000 : (Int16.ofInt (1000)).toInt32 = (1000 : Int32) := by decide
theorem bp_10 : (Int8.ofInt (10)).toInt32 = (10 : Int32) := by decide
theorem bp_100 : (Int8.ofInt (100)).toInt32 = (100 : Int32) := by decide
theorem mk_X6_numberOf : sMv yX6_numberOf RX6 cX6_numberOf 5 (some .int) 2 := ⟨sT_3 105 (by decide +kernel) rfl, sT_0 9 (by decide +kernel) rfl, sT_1 6 (by decide +kernel) rfl, sT_3 106 (by decide +kernel) rfl, by decide +kernel, Nat.le_of_ble_eq_true rfl⟩
theorem lk_RX6_69 : Cond.methodLink RX6 69 yX6_numberOf ∈ sT := sT_3 103 (by decide +kernel) rfl
theorem mk_X6_nameOf : sMv yX6_nameOf RX6 cX6_nameOf 6 (some .int) 2 := ⟨sT_3 48 (by decide +kernel) rfl, sT_0 7 (by decide +kernel) rfl, sT_1 6 (by decide +kernel) rfl, sT_3 49 (by decide +kernel) rfl, by decide +kernel, Nat.le_of_ble_eq_true rfl⟩
theorem lk_RX6_66 : Cond.methodLink RX6 66 yX6_nameOf ∈ sT := sT_3 46 (by decide +kernel) rfl
theorem fk_RX6_41 : Cond.fieldLink RX6 41 (TX6 5).1 (TX6 5).2.1 (TX6 5).2.2.1 ∈ sT := sT_1 178 (by decide +kernel) rfl
theorem fk_RX6_25 : Cond.fieldLink RX6 25 (TX6 4).1 (TX6 4).2.1 (TX6 4).2.2.1 ∈ sT := sT_1 177 (by decide +kernel) rfl
theorem bp_51 : (Int8.ofInt (51)).toInt32 = (51 : Int32) := by decide
theorem fk_RX6_22 : Cond.fieldLink RX6 22 (TX6 3).1 (TX6 3).2.1 (TX6 3).2.2.1 ∈ sT := sT_1 176 (by decide +kernel) rfl
theorem mk_X6_tokenOf : sMv yX6_tokenOf RX6 cX6_tokenOf 3 (some .int) 2 := ⟨sT_3 44 (by decide +kernel) rfl, sT_0 6 (by decide +kernel) rfl, sT_1 6 (by decide +kernel) rfl, sT_3 45 (by decide +kernel) rfl, by decide +kernel, Nat.le_of_ble_eq_true rfl⟩
theorem lk_RX6_56 : Cond.methodLink RX6 56 yX6_tokenOf ∈ sT := sT_3 42 (by decide +kernel) rfl
theorem mk_X6_endOfToken : sMv yX6_endOfToken RX6 cX6_endOfToken 3 (some .int) 1 := ⟨sT_3 40 (by decide +kernel) rfl, sT_0 5 (by decide +kernel) rfl, sT_1 6 (by decide +kernel) rfl, sT_3 41 (by decide +kernel) rfl, by decide +kernel, Nat.le_of_ble_eq_true rfl⟩
theorem lk_RX6_52 : Cond.methodLink RX6 52 yX6_endOfToken ∈ sT := sT_3 38 (by decide +kernel) rfl
theorem fk_RX6_35 : Cond.fieldLink RX6 35 (TX6 6).1 (TX6 6).2.1 (TX6 6).2.2.1 ∈ sT := sT_1 179 (by decide +kernel) rfl
theorem mk_X6_passes : sMv yX6_passes RX6 cX6_passes 2 (some .boolean) 1 := ⟨sT_3 122 (by decide +kernel) rfl, sT_0 11 (by decide +kernel) rfl, sT_1 6 (by decide +kernel) rfl, sT_3 123 (by decide +kernel) rfl, by decide +kernel, Nat.le_of_ble_eq_true rfl⟩
theorem lk_RX6_93 : Cond.methodLink RX6 93 yX6_passes ∈ sT := sT_3 120 (by decide +kernel) rfl
theorem sp_141 : (Int16.ofInt (141)).toInt32 = (141 : Int32) := by decide
theorem mk_X6_readCondition : sMv yX6_readCondition RX6 cX6_readCondition 2 (some .boolean) 1 := ⟨sT_3 126 (by decide +kernel) rfl, sT_0 12 (by decide +kernel) rfl, sT_1 6 (by decide +kernel) rfl, sT_3 127 (by decide +kernel) rfl, by decide +kernel, Nat.le_of_ble_eq_true rfl⟩
theorem lk_RX6_96 : Cond.methodLink RX6 96 yX6_readCondition ∈ sT := sT_3 124 (by decide +kernel) rfl
theorem sp_140 : (Int16.ofInt (140)).toInt32 = (140 : Int32) := by decide
theorem bp_18 : (Int8.ofInt (18)).toInt32 = (18 : Int32) := by decide
theorem mk_X5_emit : sMv yX5_emit RX5 cX5_emit 3 none 1 := ⟨sT_3 156 (by decide +kernel) rfl, sT_3 157 (by decide +kernel) rfl, sT_1 3 (by decide +kernel) rfl, sT_3 158 (by decide +kernel) rfl, by decide +kernel, Nat.le_of_ble_eq_true rfl⟩
theorem lk_RX6_109 : Cond.methodLink RX6 109 yX5_emit ∈ sT := sT_3 155 (by decide +kernel) rfl
theorem mk_X5_comparison : sMs yX5_comparison cX5_comparison 3 (some .int) 3 := ⟨sT_3 153 (by decide +kernel) rfl, sT_1 3 (by decide +kernel) rfl, sT_3 154 (by decide +kernel) rfl, by decide +kernel, Nat.le_of_ble_eq_true rfl⟩
theorem lk_RX6_128 : Cond.methodLink RX6 128 yX5_comparison ∈ sT := sT_3 152 (by decide +kernel) rfl
theorem fk_RX6_12 : Cond.fieldLink RX6 12 (TX6 0).1 (TX6 0).2.1 (TX6 0).2.2.1 ∈ sT := sT_1 171 (by decide +kernel) rfl
theorem mk_X6_valueHere : sMv yX6_valueHere RX6 cX6_valueHere 1 (some .int) 0 := ⟨sT_3 146 (by decide +kernel) rfl, sT_0 17 (by decide +kernel) rfl, sT_1 6 (by decide +kernel) rfl, sT_3 147 (by decide +kernel) rfl, by decide +kernel, Nat.le_of_ble_eq_true rfl⟩
theorem lk_RX6_122 : Cond.methodLink RX6 122 yX6_valueHere ∈ sT := sT_3 144 (by decide +kernel) rfl
theorem mk_X6_signHere : sMv yX6_signHere RX6 cX6_signHere 1 (some .int) 0 := ⟨sT_3 150 (by decide +kernel) rfl, sT_0 18 (by decide +kernel) rfl, sT_1 6 (by decide +kernel) rfl, sT_3 151 (by decide +kernel) rfl, by decide +kernel, Nat.le_of_ble_eq_true rfl⟩
theorem lk_RX6_125 : Cond.methodLink RX6 125 yX6_signHere ∈ sT := sT_3 148 (by decide +kernel) rfl
theorem mk_X6_readComparison : sMv yX6_readComparison RX6 cX6_readComparison 4 (some .boolean) 0 := ⟨sT_3 142 (by decide +kernel) rfl, sT_0 16 (by decide +kernel) rfl, sT_1 6 (by decide +kernel) rfl, sT_3 143 (by decide +kernel) rfl, by decide +kernel, Nat.le_of_ble_eq_true rfl⟩
theorem lk_RX6_119 : Cond.methodLink RX6 119 yX6_readComparison ∈ sT := sT_3 140 (by decide +kernel) rfl
theorem mk_X6_readGroup : sMv yX6_readGroup RX6 cX6_readGroup 2 (some .boolean) 1 := ⟨sT_3 138 (by decide +kernel) rfl, sT_0 15 (by decide +kernel) rfl, sT_1 6 (by decide +kernel) rfl, sT_3 139 (by decide +kernel) rfl, by decide +kernel, Nat.le_of_ble_eq_true rfl⟩
theorem lk_RX6_116 : Cond.methodLink RX6 116 yX6_readGroup ∈ sT := sT_3 136 (by decide +kernel) rfl
theorem bp_13 : (Int8.ofInt (13)).toInt32 = (13 : Int32) := by decide
theorem mk_X6_readOne : sMv yX6_readOne RX6 cX6_readOne 3 (some .boolean) 1 := ⟨sT_3 134 (by decide +kernel) rfl, sT_0 14 (by decide +kernel) rfl, sT_1 6 (by decide +kernel) rfl, sT_3 135 (by decide +kernel) rfl, by decide +kernel, Nat.le_of_ble_eq_true rfl⟩
theorem lk_RX6_113 : Cond.methodLink RX6 113 yX6_readOne ∈ sT := sT_3 132 (by decide +kernel) rfl
theorem mk_X5_finish : sMv yX5_finish RX5 cX5_finish 4 none 3 := ⟨sT_3 164 (by decide +kernel) rfl, sT_3 165 (by decide +kernel) rfl, sT_1 3 (by decide +kernel) rfl, sT_3 166 (by decide +kernel) rfl, by decide +kernel, Nat.le_of_ble_eq_true rfl⟩
theorem lk_RX6_102 : Cond.methodLink RX6 102 yX5_finish ∈ sT := sT_3 163 (by decide +kernel) rfl
theorem sp_159 : (Int16.ofInt (159)).toInt32 = (159 : Int32) := by decide
theorem nk_RX6_87 : (RX6, 87, yX11_isWithin, "RoundAndUp") ∈ sNW := by decide +kernel
theorem mk_X6_readAll : sMv yX6_readAll RX6 cX6_readAll 2 (some .boolean) 1 := ⟨sT_3 130 (by decide +kernel) rfl, sT_0 13 (by decide +kernel) rfl, sT_1 6 (by decide +kernel) rfl, sT_3 131 (by decide +kernel) rfl, by decide +kernel, Nat.le_of_ble_eq_true rfl⟩
theorem lk_RX6_106 : Cond.methodLink RX6 106 yX6_readAll ∈ sT := sT_3 128 (by decide +kernel) rfl
theorem mk_X6_readDeed : sMv yX6_readDeed RX6 cX6_readDeed 4 (some .boolean) 1 := ⟨sT_3 161 (by decide +kernel) rfl, sT_0 19 (by decide +kernel) rfl, sT_1 6 (by decide +kernel) rfl, sT_3 162 (by decide +kernel) rfl, by decide +kernel, Nat.le_of_ble_eq_true rfl⟩
theorem lk_RX6_99 : Cond.methodLink RX6 99 yX6_readDeed ∈ sT := sT_3 159 (by decide +kernel) rfl
theorem bp_6 : (Int8.ofInt (6)).toInt32 = (6 : Int32) := by decide
theorem mk_X5_begin : sMv yX5_begin RX5 cX5_begin 1 none 0 := ⟨sT_3 117 (by decide +kernel) rfl, sT_3 118 (by decide +kernel) rfl, sT_1 3 (by decide +kernel) rfl, sT_3 119 (by decide +kernel) rfl, by decide +kernel, Nat.le_of_ble_eq_true rfl⟩
theorem lk_RX6_90 : Cond.methodLink RX6 90 yX5_begin ∈ sT := sT_3 116 (by decide +kernel) rfl
theorem mk_X6_readRule : sMv yX6_readRule RX6 cX6_readRule 2 (some .boolean) 0 := ⟨sT_3 113 (by decide +kernel) rfl, sT_0 10 (by decide +kernel) rfl, sT_1 6 (by decide +kernel) rfl, sT_3 114 (by decide +kernel) rfl, by decide +kernel, Nat.le_of_ble_eq_true rfl⟩
theorem lk_RX6_44 : Cond.methodLink RX6 44 yX6_readRule ∈ sT := sT_3 111 (by decide +kernel) rfl
theorem mk_X5_clear : sMv yX5_clear RX5 cX5_clear 1 none 0 := ⟨sT_3 108 (by decide +kernel) rfl, sT_3 109 (by decide +kernel) rfl, sT_1 3 (by decide +kernel) rfl, sT_3 110 (by decide +kernel) rfl, by decide +kernel, Nat.le_of_ble_eq_true rfl⟩
theorem lk_RX6_38 : Cond.methodLink RX6 38 yX5_clear ∈ sT := sT_3 107 (by decide +kernel) rfl
theorem mk_X6_split : sMv yX6_split RX6 cX6_split 2 none 0 := ⟨sT_3 26 (by decide +kernel) rfl, sT_0 3 (by decide +kernel) rfl, sT_1 6 (by decide +kernel) rfl, sT_3 27 (by decide +kernel) rfl, by decide +kernel, Nat.le_of_ble_eq_true rfl⟩
theorem lk_RX6_32 : Cond.methodLink RX6 32 yX6_split ∈ sT := sT_3 24 (by decide +kernel) rfl
theorem sysm : Cond.native arraycopyName ∈ sT ∧ Cond.static arraycopyName ∈ sT ∧ Cond.initialized "java/lang/System" ∈ sT := ⟨sT_3 177 (by decide +kernel) rfl, sT_3 176 (by decide +kernel) rfl, sT_1 19 (by decide +kernel) rfl⟩
theorem lk_RX5_27 : Cond.methodLink RX5 27 arraycopyName ∈ sT := sT_3 175 (by decide +kernel) rfl
theorem fk_RX11_183 : Cond.fieldLink RX11 183 (TX5 5).1 (TX5 5).2.1 (TX5 5).2.2.1 ∈ sT := sT_1 48 (by decide +kernel) rfl
theorem fk_RX11_170 : Cond.fieldLink RX11 170 (TX3 7).1 (TX3 7).2.1 (TX3 7).2.2.1 ∈ sT := sT_1 82 (by decide +kernel) rfl
theorem mk_X5_copyFrom : sMv yX5_copyFrom RX5 cX5_copyFrom 2 none 1 := ⟨sT_3 172 (by decide +kernel) rfl, sT_3 173 (by decide +kernel) rfl, sT_1 3 (by decide +kernel) rfl, sT_3 174 (by decide +kernel) rfl, by decide +kernel, Nat.le_of_ble_eq_true rfl⟩
theorem lk_RX11_177 : Cond.methodLink RX11 177 yX5_copyFrom ∈ sT := sT_3 171 (by decide +kernel) rfl
theorem fk_RX11_174 : Cond.fieldLink RX11 174 (TX6 0).1 (TX6 0).2.1 (TX6 0).2.2.1 ∈ sT := sT_1 172 (by decide +kernel) rfl
theorem mk_X6_fault : sMv yX6_fault RX6 cX6_fault 1 (some .int) 0 := ⟨sT_3 168 (by decide +kernel) rfl, sT_3 169 (by decide +kernel) rfl, sT_1 6 (by decide +kernel) rfl, sT_3 170 (by decide +kernel) rfl, by decide +kernel, Nat.le_of_ble_eq_true rfl⟩
theorem lk_RX11_166 : Cond.methodLink RX11 166 yX6_fault ∈ sT := sT_3 167 (by decide +kernel) rfl
theorem bp_m100 : (Int8.ofInt (-100)).toInt32 = (-100 : Int32) := by decide
theorem mk_X6_read : sMv yX6_read RX6 cX6_read 2 (some .boolean) 0 := ⟨sT_3 21 (by decide +kernel) rfl, sT_3 22 (by decide +kernel) rfl, sT_1 6 (by decide +kernel) rfl, sT_3 23 (by decide +kernel) rfl, by decide +kernel, Nat.le_of_ble_eq_true rfl⟩
theorem lk_RX11_162 : Cond.methodLink RX11 162 yX6_read ∈ sT := sT_3 20 (by decide +kernel) rfl
theorem mk_X11_isTurn : sMs yX11_isTurn cX11_isTurn 1 (some .boolean) 1 := ⟨sT_3 184 (by decide +kernel) rfl, sT_1 1 (by decide +kernel) rfl, sT_3 185 (by decide +kernel) rfl, by decide +kernel, Nat.le_of_ble_eq_true rfl⟩
theorem lk_RX11_184 : Cond.methodLink RX11 184 yX11_isTurn ∈ sT := sT_3 183 (by decide +kernel) rfl
theorem mk_X3_isHighNow : sMv yX3_isHighNow RX3 cX3_isHighNow 3 (some .boolean) 2 := ⟨sT_3 195 (by decide +kernel) rfl, sT_3 196 (by decide +kernel) rfl, sT_1 2 (by decide +kernel) rfl, sT_3 197 (by decide +kernel) rfl, by decide +kernel, Nat.le_of_ble_eq_true rfl⟩
theorem lk_RX3_103 : Cond.methodLink RX3 103 yX3_isHighNow ∈ sT := sT_3 194 (by decide +kernel) rfl
theorem mk_X3_setOfHigh : sMv yX3_setOfHigh RX3 cX3_setOfHigh 4 (some .int) 1 := ⟨sT_3 191 (by decide +kernel) rfl, sT_3 192 (by decide +kernel) rfl, sT_1 2 (by decide +kernel) rfl, sT_3 193 (by decide +kernel) rfl, by decide +kernel, Nat.le_of_ble_eq_true rfl⟩
theorem lk_RX11_187 : Cond.methodLink RX11 187 yX3_setOfHigh ∈ sT := sT_3 190 (by decide +kernel) rfl
theorem m_max : Cond.static Lib.Math.max.name ∈ sT ∧ Cond.initialized "java/lang/Math" ∈ sT ∧ Cond.code Lib.Math.max.name Lib.Math.max.code 2 (some .int) ∈ sT := ⟨sT_3 212 (by decide +kernel) rfl, sT_1 14 (by decide +kernel) rfl, sT_3 213 (by decide +kernel) rfl⟩
theorem lk_RX3_106 : Cond.methodLink RX3 106 Lib.Math.max.name ∈ sT := sT_3 211 (by decide +kernel) rfl
theorem mk_X3_nextOf : sMv yX3_nextOf RX3 cX3_nextOf 2 (some .int) 1 := ⟨sT_3 215 (by decide +kernel) rfl, sT_3 216 (by decide +kernel) rfl, sT_1 2 (by decide +kernel) rfl, sT_3 217 (by decide +kernel) rfl, by decide +kernel, Nat.le_of_ble_eq_true rfl⟩
theorem lk_RX3_116 : Cond.methodLink RX3 116 yX3_nextOf ∈ sT := sT_3 214 (by decide +kernel) rfl
theorem mk_X3_pairs : sMv yX3_pairs RX3 cX3_pairs 1 (some .int) 0 := ⟨sT_3 208 (by decide +kernel) rfl, sT_3 209 (by decide +kernel) rfl, sT_1 2 (by decide +kernel) rfl, sT_3 210 (by decide +kernel) rfl, by decide +kernel, Nat.le_of_ble_eq_true rfl⟩
theorem lk_RX3_112 : Cond.methodLink RX3 112 yX3_pairs ∈ sT := sT_3 207 (by decide +kernel) rfl
theorem lk_RX3_109 : Cond.methodLink RX3 109 yX3_setOfHigh ∈ sT := sT_3 206 (by decide +kernel) rfl
theorem mk_X3_firstOfClash : sMv yX3_firstOfClash RX3 cX3_firstOfClash 4 (some .int) 1 := ⟨sT_3 203 (by decide +kernel) rfl, sT_3 204 (by decide +kernel) rfl, sT_1 2 (by decide +kernel) rfl, sT_3 205 (by decide +kernel) rfl, by decide +kernel, Nat.le_of_ble_eq_true rfl⟩
theorem lk_RX11_191 : Cond.methodLink RX11 191 yX3_firstOfClash ∈ sT := sT_3 202 (by decide +kernel) rfl
theorem lk_RX3_119 : Cond.methodLink RX3 119 yX3_firstOfClash ∈ sT := sT_3 226 (by decide +kernel) rfl
theorem mk_X3_turnOfClash : sMv yX3_turnOfClash RX3 cX3_turnOfClash 4 (some .int) 2 := ⟨sT_3 223 (by decide +kernel) rfl, sT_3 224 (by decide +kernel) rfl, sT_1 2 (by decide +kernel) rfl, sT_3 225 (by decide +kernel) rfl, by decide +kernel, Nat.le_of_ble_eq_true rfl⟩
theorem lk_RX11_194 : Cond.methodLink RX11 194 yX3_turnOfClash ∈ sT := sT_3 222 (by decide +kernel) rfl
theorem lk_RX11_200 : Cond.methodLink RX11 200 Lib.Math.max.name ∈ sT := sT_3 234 (by decide +kernel) rfl
theorem mk_X11_isSpan : sMs yX11_isSpan cX11_isSpan 1 (some .boolean) 1 := ⟨sT_3 232 (by decide +kernel) rfl, sT_1 1 (by decide +kernel) rfl, sT_3 233 (by decide +kernel) rfl, by decide +kernel, Nat.le_of_ble_eq_true rfl⟩
theorem lk_RX11_197 : Cond.methodLink RX11 197 yX11_isSpan ∈ sT := sT_3 231 (by decide +kernel) rfl
theorem mk_X3_catchesRing : sMv yX3_catchesRing RX3 cX3_catchesRing 3 (some .boolean) 2 := ⟨sT_4 4 (by decide +kernel) rfl, sT_4 5 (by decide +kernel) rfl, sT_1 2 (by decide +kernel) rfl, sT_4 6 (by decide +kernel) rfl, by decide +kernel, Nat.le_of_ble_eq_true rfl⟩
theorem lk_RX3_122 : Cond.methodLink RX3 122 yX3_catchesRing ∈ sT := sT_4 3 (by decide +kernel) rfl
theorem mk_X3_ringsCaught : sMv yX3_ringsCaught RX3 cX3_ringsCaught 6 (some .int) 3 := ⟨sT_4 0 (by decide +kernel) rfl, sT_4 1 (by decide +kernel) rfl, sT_1 2 (by decide +kernel) rfl, sT_4 2 (by decide +kernel) rfl, by decide +kernel, Nat.le_of_ble_eq_true rfl⟩
theorem lk_RX11_205 : Cond.methodLink RX11 205 yX3_ringsCaught ∈ sT := sT_3 239 (by decide +kernel) rfl
theorem lk_RX11_209 : Cond.methodLink RX11 209 yX3_catchesRing ∈ sT := sT_4 11 (by decide +kernel) rfl
theorem mk_X3_isOneBesideHigh : sMv yX3_isOneBesideHigh RX3 cX3_isOneBesideHigh 4 (some .boolean) 2 := ⟨sT_4 34 (by decide +kernel) rfl, sT_0 20 (by decide +kernel) rfl, sT_1 2 (by decide +kernel) rfl, sT_4 35 (by decide +kernel) rfl, by decide +kernel, Nat.le_of_ble_eq_true rfl⟩
theorem lk_RX3_125 : Cond.methodLink RX3 125 yX3_isOneBesideHigh ∈ sT := sT_4 32 (by decide +kernel) rfl
theorem mk_X3_paceWith : sMv yX3_paceWith RX3 cX3_paceWith 3 (some .int) 2 := ⟨sT_4 29 (by decide +kernel) rfl, sT_4 30 (by decide +kernel) rfl, sT_1 2 (by decide +kernel) rfl, sT_4 31 (by decide +kernel) rfl, by decide +kernel, Nat.le_of_ble_eq_true rfl⟩
theorem lk_RX3_100 : Cond.methodLink RX3 100 yX3_paceWith ∈ sT := sT_4 28 (by decide +kernel) rfl
theorem mk_X3_meetsOneBeside : sMv yX3_meetsOneBeside RX3 cX3_meetsOneBeside 5 (some .boolean) 2 := ⟨sT_4 25 (by decide +kernel) rfl, sT_4 26 (by decide +kernel) rfl, sT_1 2 (by decide +kernel) rfl, sT_4 27 (by decide +kernel) rfl, by decide +kernel, Nat.le_of_ble_eq_true rfl⟩
theorem lk_RX11_213 : Cond.methodLink RX11 213 yX3_meetsOneBeside ∈ sT := sT_4 24 (by decide +kernel) rfl
theorem an_12 : Int32.ofNat 12 = (12 : Int32) := by decide
theorem pn_RJ7 : plainName RJ7 = true := by decide +kernel
theorem bp_64 : (Int8.ofInt (64)).toInt32 = (64 : Int32) := by decide
theorem lc_1 : Int64.ofNat (((1 : Fin 2) : Nat)) = (1 : Int64) := by decide
theorem kc_10 : sKc 10 RX10 TX10 7 tyX10 := ⟨rfl, sT_all _ (by decide +kernel), tyX10_ok, nmX10⟩
theorem fk_RX10_25 : Cond.fieldLink RX10 25 (TX10 4).1 (TX10 4).2.1 (TX10 4).2.2.1 ∈ sT := sT_1 206 (by decide +kernel) rfl
theorem fk_RX10_22 : Cond.fieldLink RX10 22 (TX10 3).1 (TX10 3).2.1 (TX10 3).2.2.1 ∈ sT := sT_1 205 (by decide +kernel) rfl
theorem lk_RX10_82 : Cond.methodLink RX10 82 yX3_placeWith ∈ sT := sT_4 55 (by decide +kernel) rfl
theorem fk_RX10_79 : Cond.fieldLink RX10 79 (TX3 8).1 (TX3 8).2.1 (TX3 8).2.2.1 ∈ sT := sT_1 85 (by decide +kernel) rfl
theorem mk_J7_fill_d0a16 : sMs yJ7_fill_d0a16 cJ7_fill_d0a16 5 none 2 := ⟨sT_4 53 (by decide +kernel) rfl, sT_1 20 (by decide +kernel) rfl, sT_4 54 (by decide +kernel) rfl, by decide +kernel, Nat.le_of_ble_eq_true rfl⟩
theorem lk_RX10_73 : Cond.methodLink RX10 73 yJ7_fill_d0a16 ∈ sT := sT_4 52 (by decide +kernel) rfl
theorem lc_0 : Int64.ofNat (((0 : Fin 2) : Nat)) = (0 : Int64) := by decide
theorem pn_RX10 : plainName RX10 = true := by decide +kernel
theorem fk_RX10_19 : Cond.fieldLink RX10 19 (TX10 2).1 (TX10 2).2.1 (TX10 2).2.2.1 ∈ sT := sT_1 204 (by decide +kernel) rfl
theorem fk_RX10_15 : Cond.fieldLink RX10 15 (TX10 1).1 (TX10 1).2.1 (TX10 1).2.2.1 ∈ sT := sT_1 203 (by decide +kernel) rfl
theorem fk_RX10_70 : Cond.fieldLink RX10 70 (TX3 5).1 (TX3 5).2.1 (TX3 5).2.2.1 ∈ sT := sT_1 77 (by decide +kernel) rfl
theorem lk_RX10_67 : Cond.methodLink RX10 67 yX3_heightAt ∈ sT := sT_4 57 (by decide +kernel) rfl
theorem nk_RX10_63 : (RX10, 63, yX11_remainder, "RoundAndUp") ∈ sNW := by decide +kernel
theorem fk_RX10_51 : Cond.fieldLink RX10 51 (TX3 1).1 (TX3 1).2.1 (TX3 1).2.2.1 ∈ sT := sT_1 66 (by decide +kernel) rfl
theorem mk_X10_sortTurns : sMv yX10_sortTurns RX10 cX10_sortTurns 5 none 2 := ⟨sT_4 50 (by decide +kernel) rfl, sT_0 22 (by decide +kernel) rfl, sT_1 7 (by decide +kernel) rfl, sT_4 51 (by decide +kernel) rfl, by decide +kernel, Nat.le_of_ble_eq_true rfl⟩
theorem lk_RX10_60 : Cond.methodLink RX10 60 yX10_sortTurns ∈ sT := sT_4 48 (by decide +kernel) rfl
theorem fk_RX10_28 : Cond.fieldLink RX10 28 (TX10 5).1 (TX10 5).2.1 (TX10 5).2.2.1 ∈ sT := sT_1 207 (by decide +kernel) rfl
theorem lk_RX10_86 : Cond.methodLink RX10 86 yX3_nextOf ∈ sT := sT_4 63 (by decide +kernel) rfl
theorem fk_RX10_31 : Cond.fieldLink RX10 31 (TX10 6).1 (TX10 6).2.1 (TX10 6).2.2.1 ∈ sT := sT_1 208 (by decide +kernel) rfl
theorem lk_RX10_44 : Cond.methodLink RX10 44 yX3_pairs ∈ sT := sT_4 58 (by decide +kernel) rfl
theorem fk_RX10_34 : Cond.fieldLink RX10 34 (TX3 4).1 (TX3 4).2.1 (TX3 4).2.2.1 ∈ sT := sT_1 72 (by decide +kernel) rfl
theorem mk_X10_leastOf : sMs yX10_leastOf cX10_leastOf 2 (some .int) 1 := ⟨sT_4 73 (by decide +kernel) rfl, sT_1 7 (by decide +kernel) rfl, sT_4 74 (by decide +kernel) rfl, by decide +kernel, Nat.le_of_ble_eq_true rfl⟩
theorem lk_RX10_90 : Cond.methodLink RX10 90 yX10_leastOf ∈ sT := sT_4 72 (by decide +kernel) rfl
theorem fk_RX10_9 : Cond.fieldLink RX10 9 (TX10 0).1 (TX10 0).2.1 (TX10 0).2.2.1 ∈ sT := sT_1 201 (by decide +kernel) rfl
theorem mk_X10_writeRow : sMv yX10_writeRow RX10 cX10_writeRow 4 none 2 := ⟨sT_4 70 (by decide +kernel) rfl, sT_0 25 (by decide +kernel) rfl, sT_1 7 (by decide +kernel) rfl, sT_4 71 (by decide +kernel) rfl, by decide +kernel, Nat.le_of_ble_eq_true rfl⟩
theorem lk_RX10_57 : Cond.methodLink RX10 57 yX10_writeRow ∈ sT := sT_4 68 (by decide +kernel) rfl
theorem mk_X10_markGoingOn : sMv yX10_markGoingOn RX10 cX10_markGoingOn 8 none 2 := ⟨sT_4 66 (by decide +kernel) rfl, sT_0 24 (by decide +kernel) rfl, sT_1 7 (by decide +kernel) rfl, sT_4 67 (by decide +kernel) rfl, by decide +kernel, Nat.le_of_ble_eq_true rfl⟩
theorem lk_RX10_54 : Cond.methodLink RX10 54 yX10_markGoingOn ∈ sT := sT_4 64 (by decide +kernel) rfl
theorem mk_X10_markSuiting : sMv yX10_markSuiting RX10 cX10_markSuiting 8 none 2 := ⟨sT_4 61 (by decide +kernel) rfl, sT_0 23 (by decide +kernel) rfl, sT_1 7 (by decide +kernel) rfl, sT_4 62 (by decide +kernel) rfl, by decide +kernel, Nat.le_of_ble_eq_true rfl⟩
theorem lk_RX10_48 : Cond.methodLink RX10 48 yX10_markSuiting ∈ sT := sT_4 59 (by decide +kernel) rfl
theorem mk_X10_markHighTurns : sMv yX10_markHighTurns RX10 cX10_markHighTurns 6 none 2 := ⟨sT_4 46 (by decide +kernel) rfl, sT_0 21 (by decide +kernel) rfl, sT_1 7 (by decide +kernel) rfl, sT_4 47 (by decide +kernel) rfl, by decide +kernel, Nat.le_of_ble_eq_true rfl⟩
theorem lk_RX10_40 : Cond.methodLink RX10 40 yX10_markHighTurns ∈ sT := sT_4 44 (by decide +kernel) rfl
theorem fk_RX11_220 : Cond.fieldLink RX11 220 (TX10 0).1 (TX10 0).2.1 (TX10 0).2.2.1 ∈ sT := sT_1 202 (by decide +kernel) rfl
theorem fk_RX11_49 : Cond.fieldLink RX11 49 (TX11 8).1 (TX11 8).2.1 (TX11 8).2.2.1 ∈ sT := sT_2 92 (by decide +kernel) rfl
theorem mk_X10_findRow : sMv yX10_findRow RX10 cX10_findRow 3 (some .boolean) 1 := ⟨sT_4 41 (by decide +kernel) rfl, sT_4 42 (by decide +kernel) rfl, sT_1 7 (by decide +kernel) rfl, sT_4 43 (by decide +kernel) rfl, by decide +kernel, Nat.le_of_ble_eq_true rfl⟩
theorem lk_RX11_216 : Cond.methodLink RX11 216 yX10_findRow ∈ sT := sT_4 40 (by decide +kernel) rfl
theorem lk_RX11_223 : Cond.methodLink RX11 223 yX3_placeNow ∈ sT := sT_4 83 (by decide +kernel) rfl
theorem bp_60 : (Int8.ofInt (60)).toInt32 = (60 : Int32) := by decide
theorem mk_X3_areDown : sMv yX3_areDown RX3 cX3_areDown 4 (some .boolean) 2 := ⟨sT_4 93 (by decide +kernel) rfl, sT_4 94 (by decide +kernel) rfl, sT_1 2 (by decide +kernel) rfl, sT_4 95 (by decide +kernel) rfl, by decide +kernel, Nat.le_of_ble_eq_true rfl⟩
theorem lk_RX11_229 : Cond.methodLink RX11 229 yX3_areDown ∈ sT := sT_4 92 (by decide +kernel) rfl
theorem mk_X3_hasAll : sMv yX3_hasAll RX3 cX3_hasAll 2 (some .boolean) 1 := ⟨sT_4 89 (by decide +kernel) rfl, sT_4 90 (by decide +kernel) rfl, sT_1 2 (by decide +kernel) rfl, sT_4 91 (by decide +kernel) rfl, by decide +kernel, Nat.le_of_ble_eq_true rfl⟩
theorem lk_RX11_226 : Cond.methodLink RX11 226 yX3_hasAll ∈ sT := sT_4 88 (by decide +kernel) rfl
theorem mk_X3_isHighWith : sMv yX3_isHighWith RX3 cX3_isHighWith 4 (some .boolean) 3 := ⟨sT_4 101 (by decide +kernel) rfl, sT_4 102 (by decide +kernel) rfl, sT_1 2 (by decide +kernel) rfl, sT_4 103 (by decide +kernel) rfl, by decide +kernel, Nat.le_of_ble_eq_true rfl⟩
theorem lk_RX11_232 : Cond.methodLink RX11 232 yX3_isHighWith ∈ sT := sT_4 100 (by decide +kernel) rfl
theorem sp_999 : (Int16.ofInt (999)).toInt32 = (999 : Int32) := by decide
theorem kc_1 : sKc 1 RX1 TX1 4 tyX1 := ⟨rfl, sT_all _ (by decide +kernel), tyX1_ok, nmX1⟩
theorem fk_RX1_21 : Cond.fieldLink RX1 21 (TX1 3).1 (TX1 3).2.1 (TX1 3).2.2.1 ∈ sT := sT_1 127 (by decide +kernel) rfl
theorem bp_m9 : (Int8.ofInt (-9)).toInt32 = (-9 : Int32) := by decide
theorem fk_RX1_18 : Cond.fieldLink RX1 18 (TX1 2).1 (TX1 2).2.1 (TX1 2).2.2.1 ∈ sT := sT_1 125 (by decide +kernel) rfl
theorem fk_RX1_15 : Cond.fieldLink RX1 15 (TX1 1).1 (TX1 1).2.1 (TX1 1).2.2.1 ∈ sT := sT_1 122 (by decide +kernel) rfl
theorem fk_RX1_9 : Cond.fieldLink RX1 9 (TX1 0).1 (TX1 0).2.1 (TX1 0).2.2.1 ∈ sT := sT_1 119 (by decide +kernel) rfl
theorem pn_RX1 : plainName RX1 = true := by decide +kernel
theorem mk_X1_add : sMv yX1_add RX1 cX1_add 3 (some .int) 2 := ⟨sT_4 112 (by decide +kernel) rfl, sT_4 113 (by decide +kernel) rfl, sT_1 4 (by decide +kernel) rfl, sT_4 114 (by decide +kernel) rfl, by decide +kernel, Nat.le_of_ble_eq_true rfl⟩
theorem lk_RX11_239 : Cond.methodLink RX11 239 yX1_add ∈ sT := sT_4 111 (by decide +kernel) rfl
theorem fk_RX11_19 : Cond.fieldLink RX11 19 (TX11 1).1 (TX11 1).2.1 (TX11 1).2.2.1 ∈ sT := sT_2 85 (by decide +kernel) rfl
theorem fk_RX11_238 : Cond.fieldLink RX11 238 (TX1 3).1 (TX1 3).2.1 (TX1 3).2.2.1 ∈ sT := sT_1 129 (by decide +kernel) rfl
theorem mk_X11_isCoins : sMs yX11_isCoins cX11_isCoins 1 (some .boolean) 1 := ⟨sT_4 109 (by decide +kernel) rfl, sT_1 1 (by decide +kernel) rfl, sT_4 110 (by decide +kernel) rfl, by decide +kernel, Nat.le_of_ble_eq_true rfl⟩
theorem lk_RX11_235 : Cond.methodLink RX11 235 yX11_isCoins ∈ sT := sT_4 108 (by decide +kernel) rfl
theorem fk_RX11_242 : Cond.fieldLink RX11 242 (TX1 0).1 (TX1 0).2.1 (TX1 0).2.2.1 ∈ sT := sT_1 121 (by decide +kernel) rfl
theorem fk_RX11_245 : Cond.fieldLink RX11 245 (TX1 1).1 (TX1 1).2.1 (TX1 1).2.2.1 ∈ sT := sT_1 124 (by decide +kernel) rfl
theorem fk_RX11_248 : Cond.fieldLink RX11 248 (TX1 2).1 (TX1 2).2.1 (TX1 2).2.2.1 ∈ sT := sT_1 126 (by decide +kernel) rfl
theorem mk_X1_has : sMv yX1_has RX1 cX1_has 2 (some .boolean) 1 := ⟨sT_4 120 (by decide +kernel) rfl, sT_4 121 (by decide +kernel) rfl, sT_1 4 (by decide +kernel) rfl, sT_4 122 (by decide +kernel) rfl, by decide +kernel, Nat.le_of_ble_eq_true rfl⟩
theorem lk_RX11_241 : Cond.methodLink RX11 241 yX1_has ∈ sT := sT_4 119 (by decide +kernel) rfl
theorem an_512 : Int32.ofNat 512 = (512 : Int32) := by decide
theorem bp_63 : (Int8.ofInt (63)).toInt32 = (63 : Int32) := by decide
theorem bp_16 : (Int8.ofInt (16)).toInt32 = (16 : Int32) := by decide
theorem ck_RJ6_267 : Cond.constant RJ6 267 (252645135) ∈ sT := sT_4 151 (by decide +kernel) rfl
theorem ck_RJ6_266 : Cond.constant RJ6 266 (858993459) ∈ sT := sT_4 150 (by decide +kernel) rfl
theorem ck_RJ6_265 : Cond.constant RJ6 265 (1431655765) ∈ sT := sT_4 149 (by decide +kernel) rfl
theorem pn_RJ6 : plainName RJ6 = true := by decide +kernel
theorem kc_7 : sKc 7 RX7 TX7 3 tyX7 := ⟨rfl, sT_all _ (by decide +kernel), tyX7_ok, nmX7⟩
theorem fk_RX7_18 : Cond.fieldLink RX7 18 (TX7 2).1 (TX7 2).2.1 (TX7 2).2.2.1 ∈ sT := sT_1 234 (by decide +kernel) rfl
theorem fk_RX7_15 : Cond.fieldLink RX7 15 (TX7 1).1 (TX7 1).2.1 (TX7 1).2.2.1 ∈ sT := sT_1 233 (by decide +kernel) rfl
theorem bp_15 : (Int8.ofInt (15)).toInt32 = (15 : Int32) := by decide
theorem fk_RX7_63 : Cond.fieldLink RX7 63 (TX3 9).1 (TX3 9).2.1 (TX3 9).2.2.1 ∈ sT := sT_1 88 (by decide +kernel) rfl
theorem fk_RX7_53 : Cond.fieldLink RX7 53 (TX3 4).1 (TX3 4).2.1 (TX3 4).2.2.1 ∈ sT := sT_1 75 (by decide +kernel) rfl
theorem pn_RX7 : plainName RX7 = true := by decide +kernel
theorem mk_X7_seatBest : sMv yX7_seatBest RX7 cX7_seatBest 8 none 4 := ⟨sT_4 154 (by decide +kernel) rfl, sT_0 27 (by decide +kernel) rfl, sT_1 8 (by decide +kernel) rfl, sT_4 155 (by decide +kernel) rfl, by decide +kernel, Nat.le_of_ble_eq_true rfl⟩
theorem lk_RX7_59 : Cond.methodLink RX7 59 yX7_seatBest ∈ sT := sT_4 152 (by decide +kernel) rfl
theorem mk_J6_bitCount_0f7a4 : sMs yJ6_bitCount_0f7a4 cJ6_bitCount_0f7a4 1 (some .int) 1 := ⟨sT_4 147 (by decide +kernel) rfl, sT_1 21 (by decide +kernel) rfl, sT_4 148 (by decide +kernel) rfl, by decide +kernel, Nat.le_of_ble_eq_true rfl⟩
theorem lk_RX7_54 : Cond.methodLink RX7 54 yJ6_bitCount_0f7a4 ∈ sT := sT_4 146 (by decide +kernel) rfl
theorem fk_RX7_9 : Cond.fieldLink RX7 9 (TX7 0).1 (TX7 0).2.1 (TX7 0).2.2.1 ∈ sT := sT_1 231 (by decide +kernel) rfl
theorem mk_X7_writeSeats : sMv yX7_writeSeats RX7 cX7_writeSeats 5 none 1 := ⟨sT_4 158 (by decide +kernel) rfl, sT_0 28 (by decide +kernel) rfl, sT_1 8 (by decide +kernel) rfl, sT_4 159 (by decide +kernel) rfl, by decide +kernel, Nat.le_of_ble_eq_true rfl⟩
theorem lk_RX7_49 : Cond.methodLink RX7 49 yX7_writeSeats ∈ sT := sT_4 156 (by decide +kernel) rfl
theorem fk_RX7_27 : Cond.fieldLink RX7 27 (TX1 3).1 (TX1 3).2.1 (TX1 3).2.2.1 ∈ sT := sT_1 128 (by decide +kernel) rfl
theorem mk_X7_seatBehind : sMv yX7_seatBehind RX7 cX7_seatBehind 5 none 3 := ⟨sT_4 144 (by decide +kernel) rfl, sT_0 26 (by decide +kernel) rfl, sT_1 8 (by decide +kernel) rfl, sT_4 145 (by decide +kernel) rfl, by decide +kernel, Nat.le_of_ble_eq_true rfl⟩
theorem lk_RX7_45 : Cond.methodLink RX7 45 yX7_seatBehind ∈ sT := sT_4 142 (by decide +kernel) rfl
theorem fk_RX7_42 : Cond.fieldLink RX7 42 (TX1 0).1 (TX1 0).2.1 (TX1 0).2.2.1 ∈ sT := sT_1 120 (by decide +kernel) rfl
theorem mk_X3_thoseFor : sMv yX3_thoseFor RX3 cX3_thoseFor 4 (some .int) 1 := ⟨sT_4 139 (by decide +kernel) rfl, sT_4 140 (by decide +kernel) rfl, sT_1 2 (by decide +kernel) rfl, sT_4 141 (by decide +kernel) rfl, by decide +kernel, Nat.le_of_ble_eq_true rfl⟩
theorem lk_RX7_36 : Cond.methodLink RX7 36 yX3_thoseFor ∈ sT := sT_4 138 (by decide +kernel) rfl
theorem fk_RX7_33 : Cond.fieldLink RX7 33 (TX1 1).1 (TX1 1).2.1 (TX1 1).2.2.1 ∈ sT := sT_1 123 (by decide +kernel) rfl
theorem mk_J7_fill_53178 : sMs yJ7_fill_53178 cJ7_fill_53178 4 none 2 := ⟨sT_4 136 (by decide +kernel) rfl, sT_1 20 (by decide +kernel) rfl, sT_4 137 (by decide +kernel) rfl, by decide +kernel, Nat.le_of_ble_eq_true rfl⟩
theorem lk_RX7_21 : Cond.methodLink RX7 21 yJ7_fill_53178 ∈ sT := sT_4 135 (by decide +kernel) rfl
theorem mk_X7_fill : sMv yX7_fill RX7 cX7_fill 5 (some .int) 2 := ⟨sT_4 132 (by decide +kernel) rfl, sT_4 133 (by decide +kernel) rfl, sT_1 8 (by decide +kernel) rfl, sT_4 134 (by decide +kernel) rfl, by decide +kernel, Nat.le_of_ble_eq_true rfl⟩
theorem lk_RX11_251 : Cond.methodLink RX11 251 yX7_fill ∈ sT := sT_4 131 (by decide +kernel) rfl
theorem fk_RX11_56 : Cond.fieldLink RX11 56 (TX11 9).1 (TX11 9).2.1 (TX11 9).2.2.1 ∈ sT := sT_2 93 (by decide +kernel) rfl
theorem fk_RX11_255 : Cond.fieldLink RX11 255 (TX7 0).1 (TX7 0).2.1 (TX7 0).2.2.1 ∈ sT := sT_1 232 (by decide +kernel) rfl
theorem kc_2 : sKc 2 RX2 TX2 5 tyX2 := ⟨rfl, sT_all _ (by decide +kernel), tyX2_ok, nmX2⟩
theorem fk_RX2_21 : Cond.fieldLink RX2 21 (TX2 3).1 (TX2 3).2.1 (TX2 3).2.2.1 ∈ sT := sT_1 148 (by decide +kernel) rfl
theorem fk_RX2_18 : Cond.fieldLink RX2 18 (TX2 2).1 (TX2 2).2.1 (TX2 2).2.2.1 ∈ sT := sT_1 147 (by decide +kernel) rfl
theorem fk_RX2_15 : Cond.fieldLink RX2 15 (TX2 1).1 (TX2 1).2.1 (TX2 1).2.2.1 ∈ sT := sT_1 146 (by decide +kernel) rfl
theorem fk_RX2_9 : Cond.fieldLink RX2 9 (TX2 0).1 (TX2 0).2.1 (TX2 0).2.2.1 ∈ sT := sT_1 145 (by decide +kernel) rfl
theorem pn_RX2 : plainName RX2 = true := by decide +kernel
theorem mk_X2_add : sMv yX2_add RX2 cX2_add 4 (some .int) 3 := ⟨sT_4 177 (by decide +kernel) rfl, sT_4 178 (by decide +kernel) rfl, sT_1 5 (by decide +kernel) rfl, sT_4 179 (by decide +kernel) rfl, by decide +kernel, Nat.le_of_ble_eq_true rfl⟩
theorem lk_RX11_259 : Cond.methodLink RX11 259 yX2_add ∈ sT := sT_4 176 (by decide +kernel) rfl
theorem fk_RX11_26 : Cond.fieldLink RX11 26 (TX11 2).1 (TX11 2).2.1 (TX11 2).2.2.1 ∈ sT := sT_2 86 (by decide +kernel) rfl
theorem fk_RX11_258 : Cond.fieldLink RX11 258 (TX2 3).1 (TX2 3).2.1 (TX2 3).2.2.1 ∈ sT := sT_1 149 (by decide +kernel) rfl
theorem fk_RX2_37 : Cond.fieldLink RX2 37 (TX2 4).1 (TX2 4).2.1 (TX2 4).2.2.1 ∈ sT := sT_1 150 (by decide +kernel) rfl
theorem lk_RX2_44 : Cond.methodLink RX2 44 yX3_heightAt ∈ sT := sT_4 194 (by decide +kernel) rfl
theorem lk_RX2_40 : Cond.methodLink RX2 40 yX3_placeWith ∈ sT := sT_4 193 (by decide +kernel) rfl
theorem lk_RX2_31 : Cond.methodLink RX2 31 yX3_paceWith ∈ sT := sT_4 192 (by decide +kernel) rfl
theorem mk_X2_wrongOnes : sMv yX2_wrongOnes RX2 cX2_wrongOnes 7 (some .int) 3 := ⟨sT_4 189 (by decide +kernel) rfl, sT_4 190 (by decide +kernel) rfl, sT_1 5 (by decide +kernel) rfl, sT_4 191 (by decide +kernel) rfl, by decide +kernel, Nat.le_of_ble_eq_true rfl⟩
theorem lk_RX11_261 : Cond.methodLink RX11 261 yX2_wrongOnes ∈ sT := sT_4 188 (by decide +kernel) rfl
theorem fk_RX11_265 : Cond.fieldLink RX11 265 (TX2 4).1 (TX2 4).2.1 (TX2 4).2.2.1 ∈ sT := sT_1 151 (by decide +kernel) rfl
theorem pn_RX4 : plainName RX4 = true := by decide +kernel
theorem kc_4 : sKc 4 RX4 TX4 2 tyX4 := ⟨rfl, sT_all _ (by decide +kernel), tyX4_ok, nmX4⟩
theorem fk_RX4_15 : Cond.fieldLink RX4 15 (TX4 1).1 (TX4 1).2.1 (TX4 1).2.2.1 ∈ sT := sT_2 10 (by decide +kernel) rfl
theorem lk_RX4_32 : Cond.methodLink RX4 32 yX3_heightAt ∈ sT := sT_4 212 (by decide +kernel) rfl
theorem mk_X4_cellAt : sMv yX4_cellAt RX4 cX4_cellAt 3 (some .int) 2 := ⟨sT_4 209 (by decide +kernel) rfl, sT_4 210 (by decide +kernel) rfl, sT_1 9 (by decide +kernel) rfl, sT_4 211 (by decide +kernel) rfl, by decide +kernel, Nat.le_of_ble_eq_true rfl⟩
theorem lk_RX4_29 : Cond.methodLink RX4 29 yX4_cellAt ∈ sT := sT_4 208 (by decide +kernel) rfl
theorem fk_RX4_11 : Cond.fieldLink RX4 11 (TX4 0).1 (TX4 0).2.1 (TX4 0).2.2.1 ∈ sT := sT_2 8 (by decide +kernel) rfl
theorem lk_RX4_23 : Cond.methodLink RX4 23 yX3_placeNow ∈ sT := sT_4 207 (by decide +kernel) rfl
theorem mk_X4_fill : sMv yX4_fill RX4 cX4_fill 7 (some .int) 4 := ⟨sT_4 204 (by decide +kernel) rfl, sT_4 205 (by decide +kernel) rfl, sT_1 9 (by decide +kernel) rfl, sT_4 206 (by decide +kernel) rfl, by decide +kernel, Nat.le_of_ble_eq_true rfl⟩
theorem lk_RX11_268 : Cond.methodLink RX11 268 yX4_fill ∈ sT := sT_4 203 (by decide +kernel) rfl
theorem fk_RX11_63 : Cond.fieldLink RX11 63 (TX11 10).1 (TX11 10).2.1 (TX11 10).2.2.1 ∈ sT := sT_2 94 (by decide +kernel) rfl
theorem bp_20 : (Int8.ofInt (20)).toInt32 = (20 : Int32) := by decide
theorem nk_RX4_19 : (RX4, 19, yX11_isWithin, "RoundAndUp") ∈ sNW := by decide +kernel
theorem lk_RX11_276 : Cond.methodLink RX11 276 yX4_cellAt ∈ sT := sT_4 222 (by decide +kernel) rfl
theorem fk_RX11_273 : Cond.fieldLink RX11 273 (TX4 0).1 (TX4 0).2.1 (TX4 0).2.2.1 ∈ sT := sT_2 9 (by decide +kernel) rfl
theorem mk_X4_has : sMv yX4_has RX4 cX4_has 3 (some .boolean) 2 := ⟨sT_4 218 (by decide +kernel) rfl, sT_4 219 (by decide +kernel) rfl, sT_1 9 (by decide +kernel) rfl, sT_4 220 (by decide +kernel) rfl, by decide +kernel, Nat.le_of_ble_eq_true rfl⟩
theorem lk_RX11_271 : Cond.methodLink RX11 271 yX4_has ∈ sT := sT_4 217 (by decide +kernel) rfl
theorem ck_RX4_35 : Cond.constant RX4 35 (99999) ∈ sT := sT_4 235 (by decide +kernel) rfl
theorem mk_X4_isRight : sMv yX4_isRight RX4 cX4_isRight 6 (some .boolean) 3 := ⟨sT_4 232 (by decide +kernel) rfl, sT_4 233 (by decide +kernel) rfl, sT_1 9 (by decide +kernel) rfl, sT_4 234 (by decide +kernel) rfl, by decide +kernel, Nat.le_of_ble_eq_true rfl⟩
theorem lk_RX11_280 : Cond.methodLink RX11 280 yX4_isRight ∈ sT := sT_4 231 (by decide +kernel) rfl
theorem fk_RX11_279 : Cond.fieldLink RX11 279 (TX4 1).1 (TX4 1).2.1 (TX4 1).2.2.1 ∈ sT := sT_2 11 (by decide +kernel) rfl
theorem an_40 : Int32.ofNat 40 = (40 : Int32) := by decide
theorem lk_RX8_23 : Cond.methodLink RX8 23 yJ7_fill_53178 ∈ sT := sT_5 10 (by decide +kernel) rfl
theorem kc_8 : sKc 8 RX8 TX8 3 tyX8 := ⟨rfl, sT_all _ (by decide +kernel), tyX8_ok, nmX8⟩
theorem fk_RX8_20 : Cond.fieldLink RX8 20 (TX8 2).1 (TX8 2).2.1 (TX8 2).2.2.1 ∈ sT := sT_2 29 (by decide +kernel) rfl
theorem fk_RX8_15 : Cond.fieldLink RX8 15 (TX8 1).1 (TX8 1).2.1 (TX8 1).2.2.1 ∈ sT := sT_2 27 (by decide +kernel) rfl
theorem fk_RX8_9 : Cond.fieldLink RX8 9 (TX8 0).1 (TX8 0).2.1 (TX8 0).2.2.1 ∈ sT := sT_2 25 (by decide +kernel) rfl
theorem pn_RX8 : plainName RX8 = true := by decide +kernel
theorem mk_X8_renew : sMv yX8_renew RX8 cX8_renew 4 none 3 := ⟨sT_5 7 (by decide +kernel) rfl, sT_5 8 (by decide +kernel) rfl, sT_1 10 (by decide +kernel) rfl, sT_5 9 (by decide +kernel) rfl, by decide +kernel, Nat.le_of_ble_eq_true rfl⟩
theorem lk_RX11_290 : Cond.methodLink RX11 290 yX8_renew ∈ sT := sT_5 6 (by decide +kernel) rfl
theorem fk_RX11_70 : Cond.fieldLink RX11 70 (TX11 11).1 (TX11 11).2.1 (TX11 11).2.2.1 ∈ sT := sT_2 95 (by decide +kernel) rfl
theorem bp_m14 : (Int8.ofInt (-14)).toInt32 = (-14 : Int32) := by decide
theorem bp_40 : (Int8.ofInt (40)).toInt32 = (40 : Int32) := by decide
theorem mk_X11_isSort : sMs yX11_isSort cX11_isSort 1 (some .boolean) 1 := ⟨sT_5 4 (by decide +kernel) rfl, sT_1 1 (by decide +kernel) rfl, sT_5 5 (by decide +kernel) rfl, by decide +kernel, Nat.le_of_ble_eq_true rfl⟩
theorem lk_RX11_287 : Cond.methodLink RX11 287 yX11_isSort ∈ sT := sT_5 3 (by decide +kernel) rfl
theorem mk_X11_isSheet : sMs yX11_isSheet cX11_isSheet 1 (some .boolean) 1 := ⟨sT_5 1 (by decide +kernel) rfl, sT_1 1 (by decide +kernel) rfl, sT_5 2 (by decide +kernel) rfl, by decide +kernel, Nat.le_of_ble_eq_true rfl⟩
theorem lk_RX11_284 : Cond.methodLink RX11 284 yX11_isSheet ∈ sT := sT_5 0 (by decide +kernel) rfl
theorem mk_X8_narrowed : sMs yX8_narrowed cX8_narrowed 2 (some .int) 2 := ⟨sT_5 20 (by decide +kernel) rfl, sT_1 10 (by decide +kernel) rfl, sT_5 21 (by decide +kernel) rfl, by decide +kernel, Nat.le_of_ble_eq_true rfl⟩
theorem lk_RX11_304 : Cond.methodLink RX11 304 yX8_narrowed ∈ sT := sT_5 19 (by decide +kernel) rfl
theorem fk_RX11_294 : Cond.fieldLink RX11 294 (TX8 0).1 (TX8 0).2.1 (TX8 0).2.2.1 ∈ sT := sT_2 26 (by decide +kernel) rfl
theorem fk_RX11_300 : Cond.fieldLink RX11 300 (TX8 2).1 (TX8 2).2.1 (TX8 2).2.2.1 ∈ sT := sT_2 30 (by decide +kernel) rfl
theorem bp_m12 : (Int8.ofInt (-12)).toInt32 = (-12 : Int32) := by decide
theorem mk_X8_hasItem : sMv yX8_hasItem RX8 cX8_hasItem 3 (some .boolean) 2 := ⟨sT_5 16 (by decide +kernel) rfl, sT_5 17 (by decide +kernel) rfl, sT_1 10 (by decide +kernel) rfl, sT_5 18 (by decide +kernel) rfl, by decide +kernel, Nat.le_of_ble_eq_true rfl⟩
theorem lk_RX11_297 : Cond.methodLink RX11 297 yX8_hasItem ∈ sT := sT_5 15 (by decide +kernel) rfl
theorem bp_m13 : (Int8.ofInt (-13)).toInt32 = (-13 : Int32) := by decide
theorem mk_X11_change : sMv yX11_change RX11 cX11_change 4 (some .int) 3 := ⟨sT_2 222 (by decide +kernel) rfl, sT_2 223 (by decide +kernel) rfl, sT_1 1 (by decide +kernel) rfl, sT_2 224 (by decide +kernel) rfl, by decide +kernel, Nat.le_of_ble_eq_true rfl⟩
theorem lk_RX11_307 : Cond.methodLink RX11 307 yX11_change ∈ sT := sT_5 30 (by decide +kernel) rfl
theorem kc_9 : sKc 9 RX9 TX9 3 tyX9 := ⟨rfl, sT_all _ (by decide +kernel), tyX9_ok, nmX9⟩
theorem fk_RX9_15 : Cond.fieldLink RX9 15 (TX9 1).1 (TX9 1).2.1 (TX9 1).2.2.1 ∈ sT := sT_2 46 (by decide +kernel) rfl
theorem fk_RX9_9 : Cond.fieldLink RX9 9 (TX9 0).1 (TX9 0).2.1 (TX9 0).2.2.1 ∈ sT := sT_2 44 (by decide +kernel) rfl
theorem pn_RX9 : plainName RX9 = true := by decide +kernel
theorem fk_RX9_18 : Cond.fieldLink RX9 18 (TX9 2).1 (TX9 2).2.1 (TX9 2).2.2.1 ∈ sT := sT_2 48 (by decide +kernel) rfl
theorem mk_X9_holdAnimal : sMv yX9_holdAnimal RX9 cX9_holdAnimal 3 none 2 := ⟨sT_5 39 (by decide +kernel) rfl, sT_5 40 (by decide +kernel) rfl, sT_1 11 (by decide +kernel) rfl, sT_5 41 (by decide +kernel) rfl, by decide +kernel, Nat.le_of_ble_eq_true rfl⟩
theorem lk_RX11_313 : Cond.methodLink RX11 313 yX9_holdAnimal ∈ sT := sT_5 38 (by decide +kernel) rfl
theorem fk_RX11_77 : Cond.fieldLink RX11 77 (TX11 12).1 (TX11 12).2.1 (TX11 12).2.2.1 ∈ sT := sT_2 96 (by decide +kernel) rfl
theorem mk_X9_holdRow : sMv yX9_holdRow RX9 cX9_holdRow 4 none 3 := ⟨sT_5 43 (by decide +kernel) rfl, sT_5 44 (by decide +kernel) rfl, sT_1 11 (by decide +kernel) rfl, sT_5 45 (by decide +kernel) rfl, by decide +kernel, Nat.le_of_ble_eq_true rfl⟩
theorem lk_RX11_320 : Cond.methodLink RX11 320 yX9_holdRow ∈ sT := sT_5 42 (by decide +kernel) rfl
theorem fk_RX11_317 : Cond.fieldLink RX11 317 (TX8 1).1 (TX8 1).2.1 (TX8 1).2.2.1 ∈ sT := sT_2 28 (by decide +kernel) rfl
theorem mk_X9_clear : sMv yX9_clear RX9 cX9_clear 2 none 1 := ⟨sT_5 47 (by decide +kernel) rfl, sT_5 48 (by decide +kernel) rfl, sT_1 11 (by decide +kernel) rfl, sT_5 49 (by decide +kernel) rfl, by decide +kernel, Nat.le_of_ble_eq_true rfl⟩
theorem lk_RX11_323 : Cond.methodLink RX11 323 yX9_clear ∈ sT := sT_5 46 (by decide +kernel) rfl
theorem mk_X11_isShelf : sMs yX11_isShelf cX11_isShelf 1 (some .boolean) 1 := ⟨sT_5 36 (by decide +kernel) rfl, sT_1 1 (by decide +kernel) rfl, sT_5 37 (by decide +kernel) rfl, by decide +kernel, Nat.le_of_ble_eq_true rfl⟩
theorem lk_RX11_310 : Cond.methodLink RX11 310 yX11_isShelf ∈ sT := sT_5 35 (by decide +kernel) rfl
theorem lk_RX11_333 : Cond.methodLink RX11 333 yX11_isUnder ∈ sT := sT_5 58 (by decide +kernel) rfl
theorem fk_RX11_332 : Cond.fieldLink RX11 332 (TX9 0).1 (TX9 0).2.1 (TX9 0).2.2.1 ∈ sT := sT_2 45 (by decide +kernel) rfl
theorem fk_RX11_331 : Cond.fieldLink RX11 331 (TX9 2).1 (TX9 2).2.1 (TX9 2).2.2.1 ∈ sT := sT_2 49 (by decide +kernel) rfl
theorem fk_RX11_330 : Cond.fieldLink RX11 330 (TX9 1).1 (TX9 1).2.1 (TX9 1).2.2.1 ∈ sT := sT_2 47 (by decide +kernel) rfl
theorem mk_X9_holdsRow : sMv yX9_holdsRow RX9 cX9_holdsRow 2 (some .boolean) 1 := ⟨sT_5 55 (by decide +kernel) rfl, sT_5 56 (by decide +kernel) rfl, sT_1 11 (by decide +kernel) rfl, sT_5 57 (by decide +kernel) rfl, by decide +kernel, Nat.le_of_ble_eq_true rfl⟩
theorem lk_RX11_327 : Cond.methodLink RX11 327 yX9_holdsRow ∈ sT := sT_5 54 (by decide +kernel) rfl
theorem kc_0 : sKc 0 RX0 TX0 6 tyX0 := ⟨rfl, sT_all _ (by decide +kernel), tyX0_ok, nmX0⟩
theorem fk_RX0_15 : Cond.fieldLink RX0 15 (TX0 1).1 (TX0 1).2.1 (TX0 1).2.2.1 ∈ sT := sT_2 65 (by decide +kernel) rfl
theorem pn_RX0 : plainName RX0 = true := by decide +kernel
theorem fk_RX0_9 : Cond.fieldLink RX0 9 (TX0 0).1 (TX0 0).2.1 (TX0 0).2.2.1 ∈ sT := sT_2 63 (by decide +kernel) rfl
theorem bp_30 : (Int8.ofInt (30)).toInt32 = (30 : Int32) := by decide
theorem fk_RX0_22 : Cond.fieldLink RX0 22 (TX0 3).1 (TX0 3).2.1 (TX0 3).2.2.1 ∈ sT := sT_2 68 (by decide +kernel) rfl
theorem fk_RX0_19 : Cond.fieldLink RX0 19 (TX0 2).1 (TX0 2).2.1 (TX0 2).2.2.1 ∈ sT := sT_2 67 (by decide +kernel) rfl
theorem mk_X0_began : sMv yX0_began RX0 cX0_began 2 none 1 := ⟨sT_5 82 (by decide +kernel) rfl, sT_0 31 (by decide +kernel) rfl, sT_1 12 (by decide +kernel) rfl, sT_5 83 (by decide +kernel) rfl, by decide +kernel, Nat.le_of_ble_eq_true rfl⟩
theorem lk_RX0_53 : Cond.methodLink RX0 53 yX0_began ∈ sT := sT_5 80 (by decide +kernel) rfl
theorem nk_RX0_49 : (RX0, 49, yX11_isUnder, "RoundAndUp") ∈ sNW := by decide +kernel
theorem fk_RX0_25 : Cond.fieldLink RX0 25 (TX0 4).1 (TX0 4).2.1 (TX0 4).2.2.1 ∈ sT := sT_2 69 (by decide +kernel) rfl
theorem mk_X0_lifts : sMv yX0_lifts RX0 cX0_lifts 4 (some .int) 1 := ⟨sT_5 77 (by decide +kernel) rfl, sT_0 30 (by decide +kernel) rfl, sT_1 12 (by decide +kernel) rfl, sT_5 78 (by decide +kernel) rfl, by decide +kernel, Nat.le_of_ble_eq_true rfl⟩
theorem lk_RX0_36 : Cond.methodLink RX0 36 yX0_lifts ∈ sT := sT_5 75 (by decide +kernel) rfl
theorem fk_RX0_28 : Cond.fieldLink RX0 28 (TX0 5).1 (TX0 5).2.1 (TX0 5).2.2.1 ∈ sT := sT_2 70 (by decide +kernel) rfl
theorem bp_61 : (Int8.ofInt (61)).toInt32 = (61 : Int32) := by decide
theorem mk_X0_shares : sMv yX0_shares RX0 cX0_shares 3 (some .int) 1 := ⟨sT_5 90 (by decide +kernel) rfl, sT_0 33 (by decide +kernel) rfl, sT_1 12 (by decide +kernel) rfl, sT_5 91 (by decide +kernel) rfl, by decide +kernel, Nat.le_of_ble_eq_true rfl⟩
theorem lk_RX0_43 : Cond.methodLink RX0 43 yX0_shares ∈ sT := sT_5 88 (by decide +kernel) rfl
theorem mk_X0_turns : sMv yX0_turns RX0 cX0_turns 4 (some .int) 1 := ⟨sT_5 86 (by decide +kernel) rfl, sT_0 32 (by decide +kernel) rfl, sT_1 12 (by decide +kernel) rfl, sT_5 87 (by decide +kernel) rfl, by decide +kernel, Nat.le_of_ble_eq_true rfl⟩
theorem lk_RX0_40 : Cond.methodLink RX0 40 yX0_turns ∈ sT := sT_5 84 (by decide +kernel) rfl
theorem mk_X0_tells : sMv yX0_tells RX0 cX0_tells 3 (some .int) 1 := ⟨sT_5 94 (by decide +kernel) rfl, sT_0 34 (by decide +kernel) rfl, sT_1 12 (by decide +kernel) rfl, sT_5 95 (by decide +kernel) rfl, by decide +kernel, Nat.le_of_ble_eq_true rfl⟩
theorem lk_RX0_46 : Cond.methodLink RX0 46 yX0_tells ∈ sT := sT_5 92 (by decide +kernel) rfl
theorem bp_m15 : (Int8.ofInt (-15)).toInt32 = (-15 : Int32) := by decide
theorem mk_X0_answerOf : sMv yX0_answerOf RX0 cX0_answerOf 3 (some .int) 2 := ⟨sT_5 73 (by decide +kernel) rfl, sT_0 29 (by decide +kernel) rfl, sT_1 12 (by decide +kernel) rfl, sT_5 74 (by decide +kernel) rfl, by decide +kernel, Nat.le_of_ble_eq_true rfl⟩
theorem lk_RX0_32 : Cond.methodLink RX0 32 yX0_answerOf ∈ sT := sT_5 71 (by decide +kernel) rfl
theorem mk_X0_perform : sMv yX0_perform RX0 cX0_perform 7 (some .int) 5 := ⟨sT_5 68 (by decide +kernel) rfl, sT_5 69 (by decide +kernel) rfl, sT_1 12 (by decide +kernel) rfl, sT_5 70 (by decide +kernel) rfl, by decide +kernel, Nat.le_of_ble_eq_true rfl⟩
theorem lk_RX11_339 : Cond.methodLink RX11 339 yX0_perform ∈ sT := sT_5 67 (by decide +kernel) rfl
theorem fk_RX11_84 : Cond.fieldLink RX11 84 (TX11 13).1 (TX11 13).2.1 (TX11 13).2.2.1 ∈ sT := sT_2 97 (by decide +kernel) rfl
theorem mk_X0_forget : sMv yX0_forget RX0 cX0_forget 1 none 0 := ⟨sT_5 64 (by decide +kernel) rfl, sT_5 65 (by decide +kernel) rfl, sT_1 12 (by decide +kernel) rfl, sT_5 66 (by decide +kernel) rfl, by decide +kernel, Nat.le_of_ble_eq_true rfl⟩
theorem lk_RX11_336 : Cond.methodLink RX11 336 yX0_forget ∈ sT := sT_5 63 (by decide +kernel) rfl
theorem fk_RX11_344 : Cond.fieldLink RX11 344 (TX0 0).1 (TX0 0).2.1 (TX0 0).2.2.1 ∈ sT := sT_2 64 (by decide +kernel) rfl
theorem fk_RX11_343 : Cond.fieldLink RX11 343 (TX0 1).1 (TX0 1).2.1 (TX0 1).2.2.1 ∈ sT := sT_2 66 (by decide +kernel) rfl
theorem lk_RX3_56 : Cond.methodLink RX3 56 yX5_copyFrom ∈ sT := sT_5 113 (by decide +kernel) rfl
theorem fk_RX3_53 : Cond.fieldLink RX3 53 (TX3 6).1 (TX3 6).2.1 (TX3 6).2.2.1 ∈ sT := sT_1 80 (by decide +kernel) rfl
theorem lk_RX3_47 : Cond.methodLink RX3 47 arraycopyName ∈ sT := sT_5 112 (by decide +kernel) rfl
theorem lk_RX1_25 : Cond.methodLink RX1 25 arraycopyName ∈ sT := sT_5 118 (by decide +kernel) rfl
theorem lk_RX2_25 : Cond.methodLink RX2 25 arraycopyName ∈ sT := sT_5 123 (by decide +kernel) rfl
theorem fk_RX11_356 : Cond.fieldLink RX11 356 (TX11 6).1 (TX11 6).2.1 (TX11 6).2.2.1 ∈ sT := sT_2 90 (by decide +kernel) rfl
theorem mk_X2_copyFrom : sMv yX2_copyFrom RX2 cX2_copyFrom 2 none 1 := ⟨sT_5 120 (by decide +kernel) rfl, sT_5 121 (by decide +kernel) rfl, sT_1 5 (by decide +kernel) rfl, sT_5 122 (by decide +kernel) rfl, by decide +kernel, Nat.le_of_ble_eq_true rfl⟩
theorem lk_RX11_353 : Cond.methodLink RX11 353 yX2_copyFrom ∈ sT := sT_5 119 (by decide +kernel) rfl
theorem fk_RX11_36 : Cond.fieldLink RX11 36 (TX11 5).1 (TX11 5).2.1 (TX11 5).2.2.1 ∈ sT := sT_2 89 (by decide +kernel) rfl
theorem mk_X1_copyFrom : sMv yX1_copyFrom RX1 cX1_copyFrom 2 none 1 := ⟨sT_5 115 (by decide +kernel) rfl, sT_5 116 (by decide +kernel) rfl, sT_1 4 (by decide +kernel) rfl, sT_5 117 (by decide +kernel) rfl, by decide +kernel, Nat.le_of_ble_eq_true rfl⟩
theorem lk_RX11_350 : Cond.methodLink RX11 350 yX1_copyFrom ∈ sT := sT_5 114 (by decide +kernel) rfl
theorem fk_RX11_33 : Cond.fieldLink RX11 33 (TX11 4).1 (TX11 4).2.1 (TX11 4).2.2.1 ∈ sT := sT_2 88 (by decide +kernel) rfl
theorem mk_X3_copyFrom : sMv yX3_copyFrom RX3 cX3_copyFrom 2 none 1 := ⟨sT_5 109 (by decide +kernel) rfl, sT_5 110 (by decide +kernel) rfl, sT_1 2 (by decide +kernel) rfl, sT_5 111 (by decide +kernel) rfl, by decide +kernel, Nat.le_of_ble_eq_true rfl⟩
theorem lk_RX11_347 : Cond.methodLink RX11 347 yX3_copyFrom ∈ sT := sT_5 108 (by decide +kernel) rfl
theorem fk_RX11_30 : Cond.fieldLink RX11 30 (TX11 3).1 (TX11 3).2.1 (TX11 3).2.2.1 ∈ sT := sT_2 87 (by decide +kernel) rfl
theorem pn_RX12 : plainName RX12 = true := by decide +kernel
theorem mk_X12_in : sMs yX12_in cX12_in 6 (some .boolean) 3 := ⟨sT_6 13 (by decide +kernel) rfl, sT_1 13 (by decide +kernel) rfl, sT_6 14 (by decide +kernel) rfl, by decide +kernel, Nat.le_of_ble_eq_true rfl⟩
theorem lk_RX12_75 : Cond.methodLink RX12 75 yX12_in ∈ sT := sT_6 12 (by decide +kernel) rfl
theorem ck_RX12_87 : Cond.constantLong RX12 87 (12) ∈ sT := sT_6 19 (by decide +kernel) rfl
theorem ck_RX12_85 : Cond.constantLong RX12 85 (2) ∈ sT := sT_6 18 (by decide +kernel) rfl
theorem ck_RX12_89 : Cond.constantLong RX12 89 (11) ∈ sT := sT_6 20 (by decide +kernel) rfl
theorem ck_RX12_91 : Cond.constantLong RX12 91 (99) ∈ sT := sT_6 21 (by decide +kernel) rfl
theorem kc_12 : sKc 12 RX12 TX12 37 tyX12 := ⟨rfl, sT_all _ (by decide +kernel), tyX12_ok, nmX12⟩
theorem fk_RX12_7 : Cond.fieldLink RX12 7 (TX12 0).1 (TX12 0).2.1 (TX12 0).2.2.1 ∈ sT := sT_5 134 (by decide +kernel) rfl
theorem mk_X12_at : sMs yX12_at cX12_at 2 (some .int) 2 := ⟨sT_6 23 (by decide +kernel) rfl, sT_1 13 (by decide +kernel) rfl, sT_6 24 (by decide +kernel) rfl, by decide +kernel, Nat.le_of_ble_eq_true rfl⟩
theorem lk_RX12_81 : Cond.methodLink RX12 81 yX12_at ∈ sT := sT_6 22 (by decide +kernel) rfl
theorem mk_X12_isPart : sMs yX12_isPart cX12_isPart 2 (some .boolean) 2 := ⟨sT_6 16 (by decide +kernel) rfl, sT_1 13 (by decide +kernel) rfl, sT_6 17 (by decide +kernel) rfl, by decide +kernel, Nat.le_of_ble_eq_true rfl⟩
theorem lk_RX12_95 : Cond.methodLink RX12 95 yX12_isPart ∈ sT := sT_6 15 (by decide +kernel) rfl
theorem ck_RX12_93 : Cond.constantLong RX12 93 (5) ∈ sT := sT_6 11 (by decide +kernel) rfl
theorem mk_X12_its : sMv yX12_its RX12 cX12_its 3 (some .int) 2 := ⟨sT_6 44 (by decide +kernel) rfl, sT_0 38 (by decide +kernel) rfl, sT_1 13 (by decide +kernel) rfl, sT_6 45 (by decide +kernel) rfl, by decide +kernel, Nat.le_of_ble_eq_true rfl⟩
theorem lk_RX12_99 : Cond.methodLink RX12 99 yX12_its ∈ sT := sT_6 42 (by decide +kernel) rfl
theorem fk_RX12_19 : Cond.fieldLink RX12 19 (TX12 4).1 (TX12 4).2.1 (TX12 4).2.2.1 ∈ sT := sT_5 138 (by decide +kernel) rfl
theorem mk_X12_isHolding : sMs yX12_isHolding cX12_isHolding 3 (some .boolean) 3 := ⟨sT_6 58 (by decide +kernel) rfl, sT_1 13 (by decide +kernel) rfl, sT_6 59 (by decide +kernel) rfl, by decide +kernel, Nat.le_of_ble_eq_true rfl⟩
theorem lk_RX12_105 : Cond.methodLink RX12 105 yX12_isHolding ∈ sT := sT_6 57 (by decide +kernel) rfl
theorem bp_m20 : (Int8.ofInt (-20)).toInt32 = (-20 : Int32) := by decide
theorem mk_X12_fact : sMv yX12_fact RX12 cX12_fact 3 (some .int) 2 := ⟨sT_6 55 (by decide +kernel) rfl, sT_0 40 (by decide +kernel) rfl, sT_1 13 (by decide +kernel) rfl, sT_6 56 (by decide +kernel) rfl, by decide +kernel, Nat.le_of_ble_eq_true rfl⟩
theorem lk_RX12_102 : Cond.methodLink RX12 102 yX12_fact ∈ sT := sT_6 53 (by decide +kernel) rfl
theorem bp_m10 : (Int8.ofInt (-10)).toInt32 = (-10 : Int32) := by decide
theorem bp_116 : (Int8.ofInt (116)).toInt32 = (116 : Int32) := by decide
theorem fk_RX12_119 : Cond.fieldLink RX12 119 (TX12 6).1 (TX12 6).2.1 (TX12 6).2.2.1 ∈ sT := sT_5 140 (by decide +kernel) rfl
theorem fk_RX12_115 : Cond.fieldLink RX12 115 (TX12 5).1 (TX12 5).2.1 (TX12 5).2.2.1 ∈ sT := sT_5 139 (by decide +kernel) rfl
theorem mk_X12_isSo : sMv yX12_isSo RX12 cX12_isSo 7 (some .boolean) 3 := ⟨sT_6 51 (by decide +kernel) rfl, sT_0 39 (by decide +kernel) rfl, sT_1 13 (by decide +kernel) rfl, sT_6 52 (by decide +kernel) rfl, by decide +kernel, Nat.le_of_ble_eq_true rfl⟩
theorem lk_RX12_112 : Cond.methodLink RX12 112 yX12_isSo ∈ sT := sT_6 49 (by decide +kernel) rfl
theorem mk_X12_isUnder : sMs yX12_isUnder cX12_isUnder 2 (some .boolean) 2 := ⟨sT_6 47 (by decide +kernel) rfl, sT_1 13 (by decide +kernel) rfl, sT_6 48 (by decide +kernel) rfl, by decide +kernel, Nat.le_of_ble_eq_true rfl⟩
theorem lk_RX12_109 : Cond.methodLink RX12 109 yX12_isUnder ∈ sT := sT_6 46 (by decide +kernel) rfl
theorem bp_84 : (Int8.ofInt (84)).toInt32 = (84 : Int32) := by decide
theorem fk_RX12_22 : Cond.fieldLink RX12 22 (TX12 7).1 (TX12 7).2.1 (TX12 7).2.2.1 ∈ sT := sT_5 141 (by decide +kernel) rfl
theorem mk_X12_asks : sMv yX12_asks RX12 cX12_asks 7 none 1 := ⟨sT_6 40 (by decide +kernel) rfl, sT_0 37 (by decide +kernel) rfl, sT_1 13 (by decide +kernel) rfl, sT_6 41 (by decide +kernel) rfl, by decide +kernel, Nat.le_of_ble_eq_true rfl⟩
theorem lk_RX12_122 : Cond.methodLink RX12 122 yX12_asks ∈ sT := sT_6 38 (by decide +kernel) rfl
theorem mk_X12_teeth : sMs yX12_teeth cX12_teeth 4 (some .int) 3 := ⟨sT_6 73 (by decide +kernel) rfl, sT_1 13 (by decide +kernel) rfl, sT_6 74 (by decide +kernel) rfl, by decide +kernel, Nat.le_of_ble_eq_true rfl⟩
theorem lk_RX12_126 : Cond.methodLink RX12 126 yX12_teeth ∈ sT := sT_6 72 (by decide +kernel) rfl
theorem mk_X12_placeBy : sMv yX12_placeBy RX12 cX12_placeBy 4 (some .int) 3 := ⟨sT_6 70 (by decide +kernel) rfl, sT_0 43 (by decide +kernel) rfl, sT_1 13 (by decide +kernel) rfl, sT_6 71 (by decide +kernel) rfl, by decide +kernel, Nat.le_of_ble_eq_true rfl⟩
theorem lk_RX12_130 : Cond.methodLink RX12 130 yX12_placeBy ∈ sT := sT_6 68 (by decide +kernel) rfl
theorem mk_X12_heightBy : sMv yX12_heightBy RX12 cX12_heightBy 6 (some .int) 3 := ⟨sT_6 66 (by decide +kernel) rfl, sT_0 42 (by decide +kernel) rfl, sT_1 13 (by decide +kernel) rfl, sT_6 67 (by decide +kernel) rfl, by decide +kernel, Nat.le_of_ble_eq_true rfl⟩
theorem lk_RX12_133 : Cond.methodLink RX12 133 yX12_heightBy ∈ sT := sT_6 64 (by decide +kernel) rfl
theorem mk_X12_heightOf : sMv yX12_heightOf RX12 cX12_heightOf 3 (some .int) 2 := ⟨sT_6 62 (by decide +kernel) rfl, sT_0 41 (by decide +kernel) rfl, sT_1 13 (by decide +kernel) rfl, sT_6 63 (by decide +kernel) rfl, by decide +kernel, Nat.le_of_ble_eq_true rfl⟩
theorem lk_RX12_136 : Cond.methodLink RX12 136 yX12_heightOf ∈ sT := sT_6 60 (by decide +kernel) rfl
theorem mk_X12_findGoes : sMv yX12_findGoes RX12 cX12_findGoes 2 none 0 := ⟨sT_6 36 (by decide +kernel) rfl, sT_0 36 (by decide +kernel) rfl, sT_1 13 (by decide +kernel) rfl, sT_6 37 (by decide +kernel) rfl, by decide +kernel, Nat.le_of_ble_eq_true rfl⟩
theorem lk_RX12_145 : Cond.methodLink RX12 145 yX12_findGoes ∈ sT := sT_6 34 (by decide +kernel) rfl
theorem ck_RX12_143 : Cond.constantLong RX12 143 (6) ∈ sT := sT_6 33 (by decide +kernel) rfl
theorem mk_X12_isAnimal : sMv yX12_isAnimal RX12 cX12_isAnimal 2 (some .boolean) 1 := ⟨sT_6 31 (by decide +kernel) rfl, sT_0 35 (by decide +kernel) rfl, sT_1 13 (by decide +kernel) rfl, sT_6 32 (by decide +kernel) rfl, by decide +kernel, Nat.le_of_ble_eq_true rfl⟩
theorem lk_RX12_139 : Cond.methodLink RX12 139 yX12_isAnimal ∈ sT := sT_6 29 (by decide +kernel) rfl
theorem ck_RX12_148 : Cond.constantLong RX12 148 (7) ∈ sT := sT_6 87 (by decide +kernel) rfl
theorem ck_RX12_150 : Cond.constantLong RX12 150 (500) ∈ sT := sT_6 92 (by decide +kernel) rfl
theorem mk_X12_slips : sMv yX12_slips RX12 cX12_slips 3 none 2 := ⟨sT_6 100 (by decide +kernel) rfl, sT_0 44 (by decide +kernel) rfl, sT_1 13 (by decide +kernel) rfl, sT_6 101 (by decide +kernel) rfl, by decide +kernel, Nat.le_of_ble_eq_true rfl⟩
theorem lk_RX12_154 : Cond.methodLink RX12 154 yX12_slips ∈ sT := sT_6 98 (by decide +kernel) rfl
theorem ck_RX12_152 : Cond.constantLong RX12 152 (-11) ∈ sT := sT_6 97 (by decide +kernel) rfl
theorem ck_RX12_79 : Cond.constantLong RX12 79 (9999) ∈ sT := sT_6 109 (by decide +kernel) rfl
theorem mk_X12_isTurn : sMs yX12_isTurn cX12_isTurn 1 (some .boolean) 1 := ⟨sT_6 107 (by decide +kernel) rfl, sT_1 13 (by decide +kernel) rfl, sT_6 108 (by decide +kernel) rfl, by decide +kernel, Nat.le_of_ble_eq_true rfl⟩
theorem lk_RX12_158 : Cond.methodLink RX12 158 yX12_isTurn ∈ sT := sT_6 106 (by decide +kernel) rfl
theorem mk_X12_isHigh : sMv yX12_isHigh RX12 cX12_isHigh 3 (some .boolean) 2 := ⟨sT_6 120 (by decide +kernel) rfl, sT_0 46 (by decide +kernel) rfl, sT_1 13 (by decide +kernel) rfl, sT_6 121 (by decide +kernel) rfl, by decide +kernel, Nat.le_of_ble_eq_true rfl⟩
theorem lk_RX12_161 : Cond.methodLink RX12 161 yX12_isHigh ∈ sT := sT_6 118 (by decide +kernel) rfl
theorem mk_X12_highSet : sMv yX12_highSet RX12 cX12_highSet 4 (some .int) 1 := ⟨sT_6 116 (by decide +kernel) rfl, sT_0 45 (by decide +kernel) rfl, sT_1 13 (by decide +kernel) rfl, sT_6 117 (by decide +kernel) rfl, by decide +kernel, Nat.le_of_ble_eq_true rfl⟩
theorem lk_RX12_164 : Cond.methodLink RX12 164 yX12_highSet ∈ sT := sT_6 114 (by decide +kernel) rfl
theorem mk_X12_has : sMs yX12_has cX12_has 2 (some .boolean) 2 := ⟨sT_6 135 (by decide +kernel) rfl, sT_1 13 (by decide +kernel) rfl, sT_6 136 (by decide +kernel) rfl, by decide +kernel, Nat.le_of_ble_eq_true rfl⟩
theorem lk_RX12_172 : Cond.methodLink RX12 172 yX12_has ∈ sT := sT_6 134 (by decide +kernel) rfl
theorem mk_X12_nextOf : sMv yX12_nextOf RX12 cX12_nextOf 2 (some .int) 1 := ⟨sT_6 139 (by decide +kernel) rfl, sT_0 49 (by decide +kernel) rfl, sT_1 13 (by decide +kernel) rfl, sT_6 140 (by decide +kernel) rfl, by decide +kernel, Nat.le_of_ble_eq_true rfl⟩
theorem lk_RX12_175 : Cond.methodLink RX12 175 yX12_nextOf ∈ sT := sT_6 137 (by decide +kernel) rfl
theorem mk_X12_pairs : sMv yX12_pairs RX12 cX12_pairs 1 (some .int) 0 := ⟨sT_6 132 (by decide +kernel) rfl, sT_0 48 (by decide +kernel) rfl, sT_1 13 (by decide +kernel) rfl, sT_6 133 (by decide +kernel) rfl, by decide +kernel, Nat.le_of_ble_eq_true rfl⟩
theorem lk_RX12_168 : Cond.methodLink RX12 168 yX12_pairs ∈ sT := sT_6 130 (by decide +kernel) rfl
theorem mk_X12_clashIn : sMv yX12_clashIn RX12 cX12_clashIn 4 (some .int) 1 := ⟨sT_6 128 (by decide +kernel) rfl, sT_0 47 (by decide +kernel) rfl, sT_1 13 (by decide +kernel) rfl, sT_6 129 (by decide +kernel) rfl, by decide +kernel, Nat.le_of_ble_eq_true rfl⟩
theorem lk_RX12_178 : Cond.methodLink RX12 178 yX12_clashIn ∈ sT := sT_6 126 (by decide +kernel) rfl
theorem ck_RX12_181 : Cond.constantLong RX12 181 (200) ∈ sT := sT_6 152 (by decide +kernel) rfl
theorem mk_X12_calm : sMv yX12_calm RX12 cX12_calm 6 (some .int) 2 := ⟨sT_6 155 (by decide +kernel) rfl, sT_0 50 (by decide +kernel) rfl, sT_1 13 (by decide +kernel) rfl, sT_6 156 (by decide +kernel) rfl, by decide +kernel, Nat.le_of_ble_eq_true rfl⟩
theorem lk_RX12_186 : Cond.methodLink RX12 186 yX12_calm ∈ sT := sT_6 153 (by decide +kernel) rfl
theorem mk_X12_isSpan : sMs yX12_isSpan cX12_isSpan 2 (some .boolean) 2 := ⟨sT_6 150 (by decide +kernel) rfl, sT_1 13 (by decide +kernel) rfl, sT_6 151 (by decide +kernel) rfl, by decide +kernel, Nat.le_of_ble_eq_true rfl⟩
theorem lk_RX12_183 : Cond.methodLink RX12 183 yX12_isSpan ∈ sT := sT_6 149 (by decide +kernel) rfl
theorem mk_X12_hasRing : sMv yX12_hasRing RX12 cX12_hasRing 3 (some .boolean) 2 := ⟨sT_6 167 (by decide +kernel) rfl, sT_0 52 (by decide +kernel) rfl, sT_1 13 (by decide +kernel) rfl, sT_6 168 (by decide +kernel) rfl, by decide +kernel, Nat.le_of_ble_eq_true rfl⟩
theorem lk_RX12_189 : Cond.methodLink RX12 189 yX12_hasRing ∈ sT := sT_6 165 (by decide +kernel) rfl
theorem mk_X12_ringsOf : sMv yX12_ringsOf RX12 cX12_ringsOf 6 (some .int) 3 := ⟨sT_6 163 (by decide +kernel) rfl, sT_0 51 (by decide +kernel) rfl, sT_1 13 (by decide +kernel) rfl, sT_6 164 (by decide +kernel) rfl, by decide +kernel, Nat.le_of_ble_eq_true rfl⟩
theorem lk_RX12_192 : Cond.methodLink RX12 192 yX12_ringsOf ∈ sT := sT_6 161 (by decide +kernel) rfl
theorem mk_X12_isAlone : sMv yX12_isAlone RX12 cX12_isAlone 7 (some .boolean) 1 := ⟨sT_6 187 (by decide +kernel) rfl, sT_0 53 (by decide +kernel) rfl, sT_1 13 (by decide +kernel) rfl, sT_6 188 (by decide +kernel) rfl, by decide +kernel, Nat.le_of_ble_eq_true rfl⟩
theorem lk_RX12_195 : Cond.methodLink RX12 195 yX12_isAlone ∈ sT := sT_6 185 (by decide +kernel) rfl
theorem fk_RX12_29 : Cond.fieldLink RX12 29 (TX12 9).1 (TX12 9).2.1 (TX12 9).2.2.1 ∈ sT := sT_5 143 (by decide +kernel) rfl
theorem fk_RX12_25 : Cond.fieldLink RX12 25 (TX12 8).1 (TX12 8).2.1 (TX12 8).2.2.1 ∈ sT := sT_5 142 (by decide +kernel) rfl
theorem fk_RX12_32 : Cond.fieldLink RX12 32 (TX12 10).1 (TX12 10).2.1 (TX12 10).2.2.1 ∈ sT := sT_5 144 (by decide +kernel) rfl
theorem mk_X12_isApart : sMv yX12_isApart RX12 cX12_isApart 5 (some .boolean) 4 := ⟨sT_6 211 (by decide +kernel) rfl, sT_0 58 (by decide +kernel) rfl, sT_1 13 (by decide +kernel) rfl, sT_6 212 (by decide +kernel) rfl, by decide +kernel, Nat.le_of_ble_eq_true rfl⟩
theorem lk_RX12_198 : Cond.methodLink RX12 198 yX12_isApart ∈ sT := sT_6 209 (by decide +kernel) rfl
theorem fk_RX12_36 : Cond.fieldLink RX12 36 (TX12 11).1 (TX12 11).2.1 (TX12 11).2.2.1 ∈ sT := sT_5 145 (by decide +kernel) rfl
theorem mk_X12_findLeads : sMv yX12_findLeads RX12 cX12_findLeads 7 none 1 := ⟨sT_6 207 (by decide +kernel) rfl, sT_0 57 (by decide +kernel) rfl, sT_1 13 (by decide +kernel) rfl, sT_6 208 (by decide +kernel) rfl, by decide +kernel, Nat.le_of_ble_eq_true rfl⟩
theorem lk_RX12_202 : Cond.methodLink RX12 202 yX12_findLeads ∈ sT := sT_6 205 (by decide +kernel) rfl
theorem mk_X12_findHigh : sMv yX12_findHigh RX12 cX12_findHigh 8 none 2 := ⟨sT_6 199 (by decide +kernel) rfl, sT_0 55 (by decide +kernel) rfl, sT_1 13 (by decide +kernel) rfl, sT_6 200 (by decide +kernel) rfl, by decide +kernel, Nat.le_of_ble_eq_true rfl⟩
theorem lk_RX12_205 : Cond.methodLink RX12 205 yX12_findHigh ∈ sT := sT_6 197 (by decide +kernel) rfl
theorem mk_X12_tunes : sMv yX12_tunes RX12 cX12_tunes 5 (some .boolean) 1 := ⟨sT_6 203 (by decide +kernel) rfl, sT_0 56 (by decide +kernel) rfl, sT_1 13 (by decide +kernel) rfl, sT_6 204 (by decide +kernel) rfl, by decide +kernel, Nat.le_of_ble_eq_true rfl⟩
theorem lk_RX12_208 : Cond.methodLink RX12 208 yX12_tunes ∈ sT := sT_6 201 (by decide +kernel) rfl
theorem mk_X12_findTuned : sMv yX12_findTuned RX12 cX12_findTuned 3 (some .boolean) 0 := ⟨sT_6 195 (by decide +kernel) rfl, sT_0 54 (by decide +kernel) rfl, sT_1 13 (by decide +kernel) rfl, sT_6 196 (by decide +kernel) rfl, by decide +kernel, Nat.le_of_ble_eq_true rfl⟩
theorem lk_RX12_211 : Cond.methodLink RX12 211 yX12_findTuned ∈ sT := sT_6 193 (by decide +kernel) rfl
theorem mk_X12_isDown : sMv yX12_isDown RX12 cX12_isDown 3 (some .boolean) 2 := ⟨sT_6 224 (by decide +kernel) rfl, sT_0 59 (by decide +kernel) rfl, sT_1 13 (by decide +kernel) rfl, sT_6 225 (by decide +kernel) rfl, by decide +kernel, Nat.le_of_ble_eq_true rfl⟩
theorem lk_RX12_217 : Cond.methodLink RX12 217 yX12_isDown ∈ sT := sT_6 222 (by decide +kernel) rfl
theorem ck_RX12_215 : Cond.constantLong RX12 215 (60) ∈ sT := sT_6 221 (by decide +kernel) rfl
theorem mk_X12_isSet : sMv yX12_isSet RX12 cX12_isSet 2 (some .boolean) 1 := ⟨sT_6 232 (by decide +kernel) rfl, sT_0 60 (by decide +kernel) rfl, sT_1 13 (by decide +kernel) rfl, sT_6 233 (by decide +kernel) rfl, by decide +kernel, Nat.le_of_ble_eq_true rfl⟩
theorem lk_RX12_220 : Cond.methodLink RX12 220 yX12_isSet ∈ sT := sT_6 230 (by decide +kernel) rfl
theorem ck_RX12_223 : Cond.constantLong RX12 223 (999) ∈ sT := sT_7 5 (by decide +kernel) rfl
theorem bp_42 : (Int8.ofInt (42)).toInt32 = (42 : Int32) := by decide
theorem mk_X12_where : sMs yX12_where cX12_where 2 (some .int) 2 := ⟨sT_7 7 (by decide +kernel) rfl, sT_1 13 (by decide +kernel) rfl, sT_7 8 (by decide +kernel) rfl, by decide +kernel, Nat.le_of_ble_eq_true rfl⟩
theorem lk_RX12_228 : Cond.methodLink RX12 228 yX12_where ∈ sT := sT_7 6 (by decide +kernel) rfl
theorem mk_X12_isCoins : sMs yX12_isCoins cX12_isCoins 1 (some .boolean) 1 := ⟨sT_7 3 (by decide +kernel) rfl, sT_1 13 (by decide +kernel) rfl, sT_7 4 (by decide +kernel) rfl, by decide +kernel, Nat.le_of_ble_eq_true rfl⟩
theorem lk_RX12_225 : Cond.methodLink RX12 225 yX12_isCoins ∈ sT := sT_7 2 (by decide +kernel) rfl
theorem mk_X12_isChild : sMv yX12_isChild RX12 cX12_isChild 2 (some .boolean) 1 := ⟨sT_7 15 (by decide +kernel) rfl, sT_0 61 (by decide +kernel) rfl, sT_1 13 (by decide +kernel) rfl, sT_7 16 (by decide +kernel) rfl, by decide +kernel, Nat.le_of_ble_eq_true rfl⟩
theorem lk_RX12_231 : Cond.methodLink RX12 231 yX12_isChild ∈ sT := sT_7 13 (by decide +kernel) rfl
theorem fk_RX12_39 : Cond.fieldLink RX12 39 (TX12 12).1 (TX12 12).2.1 (TX12 12).2.2.1 ∈ sT := sT_5 146 (by decide +kernel) rfl
theorem sp_512 : (Int16.ofInt (512)).toInt32 = (512 : Int32) := by decide
theorem fk_RX12_42 : Cond.fieldLink RX12 42 (TX12 13).1 (TX12 13).2.1 (TX12 13).2.2.1 ∈ sT := sT_5 147 (by decide +kernel) rfl
theorem mk_X12_mayRide : sMv yX12_mayRide RX12 cX12_mayRide 4 (some .boolean) 3 := ⟨sT_7 31 (by decide +kernel) rfl, sT_0 63 (by decide +kernel) rfl, sT_1 13 (by decide +kernel) rfl, sT_7 32 (by decide +kernel) rfl, by decide +kernel, Nat.le_of_ble_eq_true rfl⟩
theorem lk_RX12_234 : Cond.methodLink RX12 234 yX12_mayRide ∈ sT := sT_7 29 (by decide +kernel) rfl
theorem fk_RX12_45 : Cond.fieldLink RX12 45 (TX12 14).1 (TX12 14).2.1 (TX12 14).2.2.1 ∈ sT := sT_5 148 (by decide +kernel) rfl
theorem mk_X12_findSeats : sMv yX12_findSeats RX12 cX12_findSeats 7 (some .int) 0 := ⟨sT_7 27 (by decide +kernel) rfl, sT_0 62 (by decide +kernel) rfl, sT_1 13 (by decide +kernel) rfl, sT_7 28 (by decide +kernel) rfl, by decide +kernel, Nat.le_of_ble_eq_true rfl⟩
theorem lk_RX12_237 : Cond.methodLink RX12 237 yX12_findSeats ∈ sT := sT_7 25 (by decide +kernel) rfl
theorem bp_66 : (Int8.ofInt (66)).toInt32 = (66 : Int32) := by decide
theorem ck_RX12_240 : Cond.constantLong RX12 240 (9) ∈ sT := sT_7 49 (by decide +kernel) rfl
theorem mk_X12_fitsBut : sMv yX12_fitsBut RX12 cX12_fitsBut 9 (some .int) 2 := ⟨sT_7 60 (by decide +kernel) rfl, sT_0 64 (by decide +kernel) rfl, sT_1 13 (by decide +kernel) rfl, sT_7 61 (by decide +kernel) rfl, by decide +kernel, Nat.le_of_ble_eq_true rfl⟩
theorem lk_RX12_242 : Cond.methodLink RX12 242 yX12_fitsBut ∈ sT := sT_7 58 (by decide +kernel) rfl
theorem fk_RX12_247 : Cond.fieldLink RX12 247 (TX12 16).1 (TX12 16).2.1 (TX12 16).2.2.1 ∈ sT := sT_5 150 (by decide +kernel) rfl
theorem fk_RX12_48 : Cond.fieldLink RX12 48 (TX12 15).1 (TX12 15).2.1 (TX12 15).2.2.1 ∈ sT := sT_5 149 (by decide +kernel) rfl
theorem ck_RX12_245 : Cond.constantLong RX12 245 (20) ∈ sT := sT_7 70 (by decide +kernel) rfl
theorem mk_X12_isRow : sMv yX12_isRow RX12 cX12_isRow 3 (some .boolean) 2 := ⟨sT_7 77 (by decide +kernel) rfl, sT_0 65 (by decide +kernel) rfl, sT_1 13 (by decide +kernel) rfl, sT_7 78 (by decide +kernel) rfl, by decide +kernel, Nat.le_of_ble_eq_true rfl⟩
theorem lk_RX12_250 : Cond.methodLink RX12 250 yX12_isRow ∈ sT := sT_7 75 (by decide +kernel) rfl
theorem ck_RX12_253 : Cond.constantLong RX12 253 (99999) ∈ sT := sT_7 87 (by decide +kernel) rfl
theorem fk_RX12_257 : Cond.fieldLink RX12 257 (TX12 18).1 (TX12 18).2.1 (TX12 18).2.2.1 ∈ sT := sT_5 152 (by decide +kernel) rfl
theorem ck_RX12_260 : Cond.constantLong RX12 260 (255) ∈ sT := sT_7 93 (by decide +kernel) rfl
theorem fk_RX12_51 : Cond.fieldLink RX12 51 (TX12 17).1 (TX12 17).2.1 (TX12 17).2.2.1 ∈ sT := sT_5 151 (by decide +kernel) rfl
theorem ck_RX12_255 : Cond.constantLong RX12 255 (8) ∈ sT := sT_7 92 (by decide +kernel) rfl
theorem fk_RX12_16 : Cond.fieldLink RX12 16 (TX12 2).1 (TX12 2).2.1 (TX12 2).2.2.1 ∈ sT := sT_5 136 (by decide +kernel) rfl
theorem sp_316 : (Int16.ofInt (316)).toInt32 = (316 : Int32) := by decide
theorem ck_RX12_264 : Cond.constantLong RX12 264 (122) ∈ sT := sT_7 114 (by decide +kernel) rfl
theorem ck_RX12_262 : Cond.constantLong RX12 262 (97) ∈ sT := sT_7 113 (by decide +kernel) rfl
theorem ck_RX12_268 : Cond.constantLong RX12 268 (57) ∈ sT := sT_7 119 (by decide +kernel) rfl
theorem ck_RX12_266 : Cond.constantLong RX12 266 (48) ∈ sT := sT_7 118 (by decide +kernel) rfl
theorem fk_RX12_270 : Cond.fieldLink RX12 270 (TX12 20).1 (TX12 20).2.1 (TX12 20).2.2.1 ∈ sT := sT_5 154 (by decide +kernel) rfl
theorem mk_X12_isDigit : sMs yX12_isDigit cX12_isDigit 1 (some .boolean) 1 := ⟨sT_7 116 (by decide +kernel) rfl, sT_1 13 (by decide +kernel) rfl, sT_7 117 (by decide +kernel) rfl, by decide +kernel, Nat.le_of_ble_eq_true rfl⟩
theorem lk_RX12_282 : Cond.methodLink RX12 282 yX12_isDigit ∈ sT := sT_7 115 (by decide +kernel) rfl
theorem mk_X12_byteAt : sMv yX12_byteAt RX12 cX12_byteAt 2 (some .int) 1 := ⟨sT_7 108 (by decide +kernel) rfl, sT_0 68 (by decide +kernel) rfl, sT_1 13 (by decide +kernel) rfl, sT_7 109 (by decide +kernel) rfl, by decide +kernel, Nat.le_of_ble_eq_true rfl⟩
theorem lk_RX12_276 : Cond.methodLink RX12 276 yX12_byteAt ∈ sT := sT_7 106 (by decide +kernel) rfl
theorem mk_X12_isLetter : sMs yX12_isLetter cX12_isLetter 1 (some .boolean) 1 := ⟨sT_7 111 (by decide +kernel) rfl, sT_1 13 (by decide +kernel) rfl, sT_7 112 (by decide +kernel) rfl, by decide +kernel, Nat.le_of_ble_eq_true rfl⟩
theorem lk_RX12_279 : Cond.methodLink RX12 279 yX12_isLetter ∈ sT := sT_7 110 (by decide +kernel) rfl
theorem fk_RX12_273 : Cond.fieldLink RX12 273 (TX12 19).1 (TX12 19).2.1 (TX12 19).2.2.1 ∈ sT := sT_5 153 (by decide +kernel) rfl
theorem fk_RX12_285 : Cond.fieldLink RX12 285 (TX12 24).1 (TX12 24).2.1 (TX12 24).2.2.1 ∈ sT := sT_5 158 (by decide +kernel) rfl
theorem bp_96 : (Int8.ofInt (96)).toInt32 = (96 : Int32) := by decide
theorem ck_RX12_294 : Cond.constantLong RX12 294 (32) ∈ sT := sT_7 133 (by decide +kernel) rfl
theorem ck_RX12_292 : Cond.constantLong RX12 292 (36028797018963967) ∈ sT := sT_7 132 (by decide +kernel) rfl
theorem ck_RX12_317 : Cond.constantLong RX12 317 (16765232232) ∈ sT := sT_7 139 (by decide +kernel) rfl
theorem ck_RX12_315 : Cond.constantLong RX12 315 (394661) ∈ sT := sT_7 138 (by decide +kernel) rfl
theorem ck_RX12_313 : Cond.constantLong RX12 313 (24389253) ∈ sT := sT_7 137 (by decide +kernel) rfl
theorem ck_RX12_311 : Cond.constantLong RX12 311 (646190) ∈ sT := sT_7 136 (by decide +kernel) rfl
theorem ck_RX12_309 : Cond.constantLong RX12 309 (8899173) ∈ sT := sT_7 135 (by decide +kernel) rfl
theorem ck_RX12_307 : Cond.constantLong RX12 307 (48542764) ∈ sT := sT_7 134 (by decide +kernel) rfl
theorem mk_X12_word : sMv yX12_word RX12 cX12_word 4 (some .long) 0 := ⟨sT_7 130 (by decide +kernel) rfl, sT_0 71 (by decide +kernel) rfl, sT_1 13 (by decide +kernel) rfl, sT_7 131 (by decide +kernel) rfl, by decide +kernel, Nat.le_of_ble_eq_true rfl⟩
theorem lk_RX12_303 : Cond.methodLink RX12 303 yX12_word ∈ sT := sT_7 128 (by decide +kernel) rfl
theorem mk_X12_token : sMv yX12_token RX12 cX12_token 3 none 0 := ⟨sT_7 104 (by decide +kernel) rfl, sT_0 67 (by decide +kernel) rfl, sT_1 13 (by decide +kernel) rfl, sT_7 105 (by decide +kernel) rfl, by decide +kernel, Nat.le_of_ble_eq_true rfl⟩
theorem lk_RX12_289 : Cond.methodLink RX12 289 yX12_token ∈ sT := sT_7 102 (by decide +kernel) rfl
theorem fk_RX12_329 : Cond.fieldLink RX12 329 (TX12 23).1 (TX12 23).2.1 (TX12 23).2.2.1 ∈ sT := sT_5 157 (by decide +kernel) rfl
theorem bp_m5 : (Int8.ofInt (-5)).toInt32 = (-5 : Int32) := by decide
theorem ck_RX12_327 : Cond.constantLong RX12 327 (492210354) ∈ sT := sT_7 174 (by decide +kernel) rfl
theorem ck_RX12_325 : Cond.constantLong RX12 325 (17376357) ∈ sT := sT_7 173 (by decide +kernel) rfl
theorem ck_RX12_323 : Cond.constantLong RX12 323 (17040997) ∈ sT := sT_7 172 (by decide +kernel) rfl
theorem ck_RX12_321 : Cond.constantLong RX12 321 (3737035) ∈ sT := sT_7 171 (by decide +kernel) rfl
theorem ck_RX12_319 : Cond.constantLong RX12 319 (12769452) ∈ sT := sT_7 170 (by decide +kernel) rfl
theorem mk_X12_needs : sMv yX12_needs RX12 cX12_needs 2 none 1 := ⟨sT_7 142 (by decide +kernel) rfl, sT_0 72 (by decide +kernel) rfl, sT_1 13 (by decide +kernel) rfl, sT_7 143 (by decide +kernel) rfl, by decide +kernel, Nat.le_of_ble_eq_true rfl⟩
theorem lk_RX12_299 : Cond.methodLink RX12 299 yX12_needs ∈ sT := sT_7 140 (by decide +kernel) rfl
theorem fk_RX12_296 : Cond.fieldLink RX12 296 (TX12 21).1 (TX12 21).2.1 (TX12 21).2.2.1 ∈ sT := sT_5 155 (by decide +kernel) rfl
theorem mk_X12_writes : sMv yX12_writes RX12 cX12_writes 2 none 1 := ⟨sT_7 177 (by decide +kernel) rfl, sT_0 79 (by decide +kernel) rfl, sT_1 13 (by decide +kernel) rfl, sT_7 178 (by decide +kernel) rfl, by decide +kernel, Nat.le_of_ble_eq_true rfl⟩
theorem lk_RX12_335 : Cond.methodLink RX12 335 yX12_writes ∈ sT := sT_7 175 (by decide +kernel) rfl
theorem mk_X12_number : sMv yX12_number RX12 cX12_number 4 none 1 := ⟨sT_7 181 (by decide +kernel) rfl, sT_0 80 (by decide +kernel) rfl, sT_1 13 (by decide +kernel) rfl, sT_7 182 (by decide +kernel) rfl, by decide +kernel, Nat.le_of_ble_eq_true rfl⟩
theorem lk_RX12_338 : Cond.methodLink RX12 338 yX12_number ∈ sT := sT_7 179 (by decide +kernel) rfl
theorem mk_X12_factHere : sMv yX12_factHere RX12 cX12_factHere 3 (some .int) 0 := ⟨sT_7 168 (by decide +kernel) rfl, sT_0 78 (by decide +kernel) rfl, sT_1 13 (by decide +kernel) rfl, sT_7 169 (by decide +kernel) rfl, by decide +kernel, Nat.le_of_ble_eq_true rfl⟩
theorem lk_RX12_332 : Cond.methodLink RX12 332 yX12_factHere ∈ sT := sT_7 166 (by decide +kernel) rfl
theorem mk_X12_valueHere : sMv yX12_valueHere RX12 cX12_valueHere 2 none 0 := ⟨sT_7 164 (by decide +kernel) rfl, sT_0 77 (by decide +kernel) rfl, sT_1 13 (by decide +kernel) rfl, sT_7 165 (by decide +kernel) rfl, by decide +kernel, Nat.le_of_ble_eq_true rfl⟩
theorem lk_RX12_341 : Cond.methodLink RX12 341 yX12_valueHere ∈ sT := sT_7 162 (by decide +kernel) rfl
theorem bp_62 : (Int8.ofInt (62)).toInt32 = (62 : Int32) := by decide
theorem bp_41 : (Int8.ofInt (41)).toInt32 = (41 : Int32) := by decide
theorem fk_RX12_346 : Cond.fieldLink RX12 346 (TX12 22).1 (TX12 22).2.1 (TX12 22).2.2.1 ∈ sT := sT_5 156 (by decide +kernel) rfl
theorem mk_X12_condition : sMv yX12_condition RX12 cX12_condition 1 none 0 := ⟨sT_7 147 (by decide +kernel) rfl, sT_0 73 (by decide +kernel) rfl, sT_1 13 (by decide +kernel) rfl, sT_7 148 (by decide +kernel) rfl, by decide +kernel, Nat.le_of_ble_eq_true rfl⟩
theorem lk_RX12_349 : Cond.methodLink RX12 349 yX12_condition ∈ sT := sT_7 145 (by decide +kernel) rfl
theorem mk_X12_comparison : sMv yX12_comparison RX12 cX12_comparison 2 none 0 := ⟨sT_7 160 (by decide +kernel) rfl, sT_0 76 (by decide +kernel) rfl, sT_1 13 (by decide +kernel) rfl, sT_7 161 (by decide +kernel) rfl, by decide +kernel, Nat.le_of_ble_eq_true rfl⟩
theorem lk_RX12_352 : Cond.methodLink RX12 352 yX12_comparison ∈ sT := sT_7 158 (by decide +kernel) rfl
theorem ck_RX12_344 : Cond.constantLong RX12 344 (14836) ∈ sT := sT_7 157 (by decide +kernel) rfl
theorem bp_m21 : (Int8.ofInt (-21)).toInt32 = (-21 : Int32) := by decide
theorem mk_X12_one : sMv yX12_one RX12 cX12_one 2 none 0 := ⟨sT_7 155 (by decide +kernel) rfl, sT_0 75 (by decide +kernel) rfl, sT_1 13 (by decide +kernel) rfl, sT_7 156 (by decide +kernel) rfl, by decide +kernel, Nat.le_of_ble_eq_true rfl⟩
theorem lk_RX12_355 : Cond.methodLink RX12 355 yX12_one ∈ sT := sT_7 153 (by decide +kernel) rfl
theorem ck_RX12_358 : Cond.constantLong RX12 358 (1476) ∈ sT := sT_7 183 (by decide +kernel) rfl
theorem bp_m22 : (Int8.ofInt (-22)).toInt32 = (-22 : Int32) := by decide
theorem mk_X12_all : sMv yX12_all RX12 cX12_all 1 none 0 := ⟨sT_7 151 (by decide +kernel) rfl, sT_0 74 (by decide +kernel) rfl, sT_1 13 (by decide +kernel) rfl, sT_7 152 (by decide +kernel) rfl, by decide +kernel, Nat.le_of_ble_eq_true rfl⟩
theorem lk_RX12_360 : Cond.methodLink RX12 360 yX12_all ∈ sT := sT_7 149 (by decide +kernel) rfl
theorem ck_RX12_363 : Cond.constantLong RX12 363 (498) ∈ sT := sT_7 184 (by decide +kernel) rfl
theorem bp_59 : (Int8.ofInt (59)).toInt32 = (59 : Int32) := by decide
theorem ck_RX12_376 : Cond.constantLong RX12 376 (643568) ∈ sT := sT_7 188 (by decide +kernel) rfl
theorem ck_RX12_374 : Cond.constantLong RX12 374 (635383) ∈ sT := sT_7 187 (by decide +kernel) rfl
theorem ck_RX12_372 : Cond.constantLong RX12 372 (136242) ∈ sT := sT_7 186 (by decide +kernel) rfl
theorem ck_RX12_370 : Cond.constantLong RX12 370 (215205) ∈ sT := sT_7 185 (by decide +kernel) rfl
theorem ck_RX12_368 : Cond.constantLong RX12 368 (294) ∈ sT := sT_7 144 (by decide +kernel) rfl
theorem mk_X12_kindHere : sMv yX12_kindHere RX12 cX12_kindHere 3 (some .int) 0 := ⟨sT_7 126 (by decide +kernel) rfl, sT_0 70 (by decide +kernel) rfl, sT_1 13 (by decide +kernel) rfl, sT_7 127 (by decide +kernel) rfl, by decide +kernel, Nat.le_of_ble_eq_true rfl⟩
theorem lk_RX12_365 : Cond.methodLink RX12 365 yX12_kindHere ∈ sT := sT_7 124 (by decide +kernel) rfl
theorem mk_X12_putsBack : sMv yX12_putsBack RX12 cX12_putsBack 2 none 0 := ⟨sT_7 191 (by decide +kernel) rfl, sT_0 81 (by decide +kernel) rfl, sT_1 13 (by decide +kernel) rfl, sT_7 192 (by decide +kernel) rfl, by decide +kernel, Nat.le_of_ble_eq_true rfl⟩
theorem lk_RX12_384 : Cond.methodLink RX12 384 yX12_putsBack ∈ sT := sT_7 189 (by decide +kernel) rfl
theorem mk_X12_rule : sMv yX12_rule RX12 cX12_rule 7 none 0 := ⟨sT_7 122 (by decide +kernel) rfl, sT_0 69 (by decide +kernel) rfl, sT_1 13 (by decide +kernel) rfl, sT_7 123 (by decide +kernel) rfl, by decide +kernel, Nat.le_of_ble_eq_true rfl⟩
theorem lk_RX12_381 : Cond.methodLink RX12 381 yX12_rule ∈ sT := sT_7 120 (by decide +kernel) rfl
theorem mk_X12_puts : sMv yX12_puts RX12 cX12_puts 2 none 0 := ⟨sT_7 100 (by decide +kernel) rfl, sT_0 66 (by decide +kernel) rfl, sT_1 13 (by decide +kernel) rfl, sT_7 101 (by decide +kernel) rfl, by decide +kernel, Nat.le_of_ble_eq_true rfl⟩
theorem lk_RX12_378 : Cond.methodLink RX12 378 yX12_puts ∈ sT := sT_7 98 (by decide +kernel) rfl
theorem ck_RX12_387 : Cond.constantLong RX12 387 (3) ∈ sT := sT_7 200 (by decide +kernel) rfl
theorem fk_RX12_60 : Cond.fieldLink RX12 60 (TX12 27).1 (TX12 27).2.1 (TX12 27).2.2.1 ∈ sT := sT_5 161 (by decide +kernel) rfl
theorem fk_RX12_57 : Cond.fieldLink RX12 57 (TX12 26).1 (TX12 26).2.1 (TX12 26).2.2.1 ∈ sT := sT_5 160 (by decide +kernel) rfl
theorem fk_RX12_54 : Cond.fieldLink RX12 54 (TX12 25).1 (TX12 25).2.1 (TX12 25).2.2.1 ∈ sT := sT_5 159 (by decide +kernel) rfl
theorem ck_RX12_394 : Cond.constantLong RX12 394 (4) ∈ sT := sT_7 202 (by decide +kernel) rfl
theorem ck_RX12_392 : Cond.constantLong RX12 392 (-1) ∈ sT := sT_7 201 (by decide +kernel) rfl
theorem mk_X12_isOne : sMs yX12_isOne cX12_isOne 1 (some .boolean) 1 := ⟨sT_7 198 (by decide +kernel) rfl, sT_1 13 (by decide +kernel) rfl, sT_7 199 (by decide +kernel) rfl, by decide +kernel, Nat.le_of_ble_eq_true rfl⟩
theorem lk_RX12_389 : Cond.methodLink RX12 389 yX12_isOne ∈ sT := sT_7 197 (by decide +kernel) rfl
theorem mk_X12_narrowed : sMs yX12_narrowed cX12_narrowed 2 (some .int) 2 := ⟨sT_7 208 (by decide +kernel) rfl, sT_1 13 (by decide +kernel) rfl, sT_7 209 (by decide +kernel) rfl, by decide +kernel, Nat.le_of_ble_eq_true rfl⟩
theorem lk_RX12_396 : Cond.methodLink RX12 396 yX12_narrowed ∈ sT := sT_7 207 (by decide +kernel) rfl
theorem mk_X12_wrong : sMv yX12_wrong RX12 cX12_wrong 3 (some .int) 2 := ⟨sT_7 216 (by decide +kernel) rfl, sT_0 82 (by decide +kernel) rfl, sT_1 13 (by decide +kernel) rfl, sT_7 217 (by decide +kernel) rfl, by decide +kernel, Nat.le_of_ble_eq_true rfl⟩
theorem lk_RX12_399 : Cond.methodLink RX12 399 yX12_wrong ∈ sT := sT_7 214 (by decide +kernel) rfl
theorem mk_X12_change : sMv yX12_change RX12 cX12_change 5 (some .int) 3 := ⟨sT_6 76 (by decide +kernel) rfl, sT_6 77 (by decide +kernel) rfl, sT_1 13 (by decide +kernel) rfl, sT_6 78 (by decide +kernel) rfl, by decide +kernel, Nat.le_of_ble_eq_true rfl⟩
theorem lk_RX12_402 : Cond.methodLink RX12 402 yX12_change ∈ sT := sT_7 222 (by decide +kernel) rfl
theorem fk_RX12_69 : Cond.fieldLink RX12 69 (TX12 30).1 (TX12 30).2.1 (TX12 30).2.2.1 ∈ sT := sT_5 164 (by decide +kernel) rfl
theorem fk_RX12_66 : Cond.fieldLink RX12 66 (TX12 29).1 (TX12 29).2.1 (TX12 29).2.2.1 ∈ sT := sT_5 163 (by decide +kernel) rfl
theorem fk_RX12_63 : Cond.fieldLink RX12 63 (TX12 28).1 (TX12 28).2.1 (TX12 28).2.2.1 ∈ sT := sT_5 162 (by decide +kernel) rfl
theorem mk_X12_onShelf : sMv yX12_onShelf RX12 cX12_onShelf 2 (some .int) 1 := ⟨sT_7 235 (by decide +kernel) rfl, sT_0 83 (by decide +kernel) rfl, sT_1 13 (by decide +kernel) rfl, sT_7 236 (by decide +kernel) rfl, by decide +kernel, Nat.le_of_ble_eq_true rfl⟩
theorem lk_RX12_409 : Cond.methodLink RX12 409 yX12_onShelf ∈ sT := sT_7 233 (by decide +kernel) rfl
theorem ck_RX12_407 : Cond.constantLong RX12 407 (14) ∈ sT := sT_7 232 (by decide +kernel) rfl
theorem ck_RX12_405 : Cond.constantLong RX12 405 (10) ∈ sT := sT_7 231 (by decide +kernel) rfl
theorem fk_RX12_412 : Cond.fieldLink RX12 412 (TX12 32).1 (TX12 32).2.1 (TX12 32).2.2.1 ∈ sT := sT_5 166 (by decide +kernel) rfl
theorem fk_RX12_72 : Cond.fieldLink RX12 72 (TX12 31).1 (TX12 31).2.1 (TX12 31).2.2.1 ∈ sT := sT_5 165 (by decide +kernel) rfl
theorem fk_RX12_421 : Cond.fieldLink RX12 421 (TX12 33).1 (TX12 33).2.1 (TX12 33).2.2.1 ∈ sT := sT_5 167 (by decide +kernel) rfl
theorem fk_RX12_415 : Cond.fieldLink RX12 415 (TX12 35).1 (TX12 35).2.1 (TX12 35).2.2.1 ∈ sT := sT_5 169 (by decide +kernel) rfl
theorem mk_X12_runs : sMv yX12_runs RX12 cX12_runs 2 none 1 := ⟨sT_8 7 (by decide +kernel) rfl, sT_0 85 (by decide +kernel) rfl, sT_1 13 (by decide +kernel) rfl, sT_8 8 (by decide +kernel) rfl, by decide +kernel, Nat.le_of_ble_eq_true rfl⟩
theorem lk_RX12_418 : Cond.methodLink RX12 418 yX12_runs ∈ sT := sT_8 5 (by decide +kernel) rfl
theorem fk_RX12_427 : Cond.fieldLink RX12 427 (TX12 34).1 (TX12 34).2.1 (TX12 34).2.2.1 ∈ sT := sT_5 168 (by decide +kernel) rfl
theorem mk_X12_lifts : sMv yX12_lifts RX12 cX12_lifts 3 (some .int) 1 := ⟨sT_8 3 (by decide +kernel) rfl, sT_0 84 (by decide +kernel) rfl, sT_1 13 (by decide +kernel) rfl, sT_8 4 (by decide +kernel) rfl, by decide +kernel, Nat.le_of_ble_eq_true rfl⟩
theorem lk_RX12_424 : Cond.methodLink RX12 424 yX12_lifts ∈ sT := sT_8 1 (by decide +kernel) rfl
theorem fk_RX12_430 : Cond.fieldLink RX12 430 (TX12 36).1 (TX12 36).2.1 (TX12 36).2.2.1 ∈ sT := sT_5 170 (by decide +kernel) rfl
theorem mk_X12_parts : sMv yX12_parts RX12 cX12_parts 2 (some .int) 1 := ⟨sT_8 19 (by decide +kernel) rfl, sT_0 88 (by decide +kernel) rfl, sT_1 13 (by decide +kernel) rfl, sT_8 20 (by decide +kernel) rfl, by decide +kernel, Nat.le_of_ble_eq_true rfl⟩
theorem lk_RX12_433 : Cond.methodLink RX12 433 yX12_parts ∈ sT := sT_8 17 (by decide +kernel) rfl
theorem mk_X12_shares : sMv yX12_shares RX12 cX12_shares 3 (some .int) 1 := ⟨sT_8 15 (by decide +kernel) rfl, sT_0 87 (by decide +kernel) rfl, sT_1 13 (by decide +kernel) rfl, sT_8 16 (by decide +kernel) rfl, by decide +kernel, Nat.le_of_ble_eq_true rfl⟩
theorem lk_RX12_439 : Cond.methodLink RX12 439 yX12_shares ∈ sT := sT_8 13 (by decide +kernel) rfl
theorem mk_X12_turns : sMv yX12_turns RX12 cX12_turns 3 (some .int) 1 := ⟨sT_8 11 (by decide +kernel) rfl, sT_0 86 (by decide +kernel) rfl, sT_1 13 (by decide +kernel) rfl, sT_8 12 (by decide +kernel) rfl, by decide +kernel, Nat.le_of_ble_eq_true rfl⟩
theorem lk_RX12_436 : Cond.methodLink RX12 436 yX12_turns ∈ sT := sT_8 9 (by decide +kernel) rfl
theorem mk_X12_tells : sMv yX12_tells RX12 cX12_tells 3 (some .int) 1 := ⟨sT_8 23 (by decide +kernel) rfl, sT_0 89 (by decide +kernel) rfl, sT_1 13 (by decide +kernel) rfl, sT_8 24 (by decide +kernel) rfl, by decide +kernel, Nat.le_of_ble_eq_true rfl⟩
theorem lk_RX12_442 : Cond.methodLink RX12 442 yX12_tells ∈ sT := sT_8 21 (by decide +kernel) rfl
theorem mk_X12_traced : sMv yX12_traced RX12 cX12_traced 1 (some .int) 0 := ⟨sT_8 31 (by decide +kernel) rfl, sT_0 90 (by decide +kernel) rfl, sT_1 13 (by decide +kernel) rfl, sT_8 32 (by decide +kernel) rfl, by decide +kernel, Nat.le_of_ble_eq_true rfl⟩
theorem lk_RX12_445 : Cond.methodLink RX12 445 yX12_traced ∈ sT := sT_8 29 (by decide +kernel) rfl
theorem fk_RX12_448 : Cond.fieldLink RX12 448 (TX12 3).1 (TX12 3).2.1 (TX12 3).2.2.1 ∈ sT := sT_5 137 (by decide +kernel) rfl
theorem fk_RX12_13 : Cond.fieldLink RX12 13 (TX12 1).1 (TX12 1).2.1 (TX12 1).2.2.1 ∈ sT := sT_5 135 (by decide +kernel) rfl
