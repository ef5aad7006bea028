theorem m_v1 : ∀ (G : sG) (r : Nat), Value.ref (gA G r) = mV G (some r) 1 := fun G r => by
  show Value.ref (gA G r) = if (1 : Int32) = 0 then Value.null else Value.ref (gA G r)
  rw [if_neg (by decide)]
theorem oi_RX11_1 : Cond.methodLink RX11 1 Lib.objectInit ∈ sT := sT_1 27 (by decide +kernel) rfl
theorem oim : Cond.instanceMethod Lib.objectInit ∈ sT ∧ Cond.code Lib.objectInit ⟨#[0xb1]⟩ 1 none ∈ sT := ⟨sT_1 28 (by decide +kernel) rfl, sT_1 29 (by decide +kernel) rfl⟩
theorem cl_RX11_7 : Cond.classLink RX11 7 RX3 ∈ sT := sT_1 30 (by decide +kernel) rfl
theorem in_3 : Cond.instantiable RX3 11 ∈ sT := sT_1 31 (by decide +kernel) rfl
theorem ii_3 : Cond.initialized RX3 ∈ sT := sT_1 2 (by decide +kernel) rfl
theorem df_1 : ∀ j, j < 11 → defaultValue (tyX3 j) = vp_V (([some 2, some 3, some 4, some 5, none, none, none, some 6, some 12, some 13, some 14] : List (Option Nat)).map (fun x => match x with | none => .int 0 | some _ => .null)) j := by decide +kernel
theorem oi_RX3_3 : Cond.methodLink RX3 3 Lib.objectInit ∈ sT := sT_1 35 (by decide +kernel) rfl
theorem ac_int : Cond.arrayClass .int ∈ sT := sT_1 62 (by decide +kernel) rfl
theorem cl_RX3_28 : Cond.classLink RX3 28 RX5 ∈ sT := sT_1 36 (by decide +kernel) rfl
theorem in_5 : Cond.instantiable RX5 6 ∈ sT := sT_1 37 (by decide +kernel) rfl
theorem ii_5 : Cond.initialized RX5 ∈ sT := sT_1 3 (by decide +kernel) rfl
theorem df_6 : ∀ j, j < 6 → defaultValue (tyX5 j) = vp_V (([some 7, some 8, some 9, some 10, some 11, none] : List (Option Nat)).map (fun x => match x with | none => .int 0 | some _ => .null)) j := by decide +kernel
theorem oi_RX5_5 : Cond.methodLink RX5 5 Lib.objectInit ∈ sT := sT_1 41 (by decide +kernel) rfl
theorem mi_X5_init : mMi yX5_init cX5_init 1 := ⟨sT_1 39 (by decide +kernel) rfl, sT_1 3 (by decide +kernel) rfl, sT_1 40 (by decide +kernel) rfl, rfl, by decide +kernel, Nat.le_of_ble_eq_true rfl⟩
theorem nw_RX3_30 : (RX3, 30, yX5_init, "RoundAndUp") ∈ mNW := by decide +kernel
theorem mi_X3_init : mMi yX3_init cX3_init 1 := ⟨sT_1 33 (by decide +kernel) rfl, sT_1 2 (by decide +kernel) rfl, sT_1 34 (by decide +kernel) rfl, rfl, by decide +kernel, Nat.le_of_ble_eq_true rfl⟩
theorem nw_RX11_9 : (RX11, 9, yX3_init, "RoundAndUp") ∈ mNW := by decide +kernel
theorem cl_RX11_16 : Cond.classLink RX11 16 RX1 ∈ sT := sT_1 113 (by decide +kernel) rfl
theorem in_1 : Cond.instantiable RX1 4 ∈ sT := sT_1 114 (by decide +kernel) rfl
theorem ii_1 : Cond.initialized RX1 ∈ sT := sT_1 4 (by decide +kernel) rfl
theorem df_15 : ∀ j, j < 4 → defaultValue (tyX1 j) = vp_V (([some 16, some 17, some 18, none] : List (Option Nat)).map (fun x => match x with | none => .int 0 | some _ => .null)) j := by decide +kernel
theorem oi_RX1_3 : Cond.methodLink RX1 3 Lib.objectInit ∈ sT := sT_1 118 (by decide +kernel) rfl
theorem mi_X1_init : mMi yX1_init cX1_init 1 := ⟨sT_1 116 (by decide +kernel) rfl, sT_1 4 (by decide +kernel) rfl, sT_1 117 (by decide +kernel) rfl, rfl, by decide +kernel, Nat.le_of_ble_eq_true rfl⟩
theorem nw_RX11_18 : (RX11, 18, yX1_init, "RoundAndUp") ∈ mNW := by decide +kernel
theorem cl_RX11_23 : Cond.classLink RX11 23 RX2 ∈ sT := sT_1 139 (by decide +kernel) rfl
theorem in_2 : Cond.instantiable RX2 5 ∈ sT := sT_1 140 (by decide +kernel) rfl
theorem ii_2 : Cond.initialized RX2 ∈ sT := sT_1 5 (by decide +kernel) rfl
theorem df_19 : ∀ j, j < 5 → defaultValue (tyX2 j) = vp_V (([some 20, some 21, some 22, none, none] : List (Option Nat)).map (fun x => match x with | none => .int 0 | some _ => .null)) j := by decide +kernel
theorem oi_RX2_3 : Cond.methodLink RX2 3 Lib.objectInit ∈ sT := sT_1 144 (by decide +kernel) rfl
theorem mi_X2_init : mMi yX2_init cX2_init 1 := ⟨sT_1 142 (by decide +kernel) rfl, sT_1 5 (by decide +kernel) rfl, sT_1 143 (by decide +kernel) rfl, rfl, by decide +kernel, Nat.le_of_ble_eq_true rfl⟩
theorem nw_RX11_25 : (RX11, 25, yX2_init, "RoundAndUp") ∈ mNW := by decide +kernel
theorem df_23 : ∀ j, j < 11 → defaultValue (tyX3 j) = vp_V (([some 24, some 25, some 26, some 27, none, none, none, some 28, some 34, some 35, some 36] : List (Option Nat)).map (fun x => match x with | none => .int 0 | some _ => .null)) j := by decide +kernel
theorem df_28 : ∀ j, j < 6 → defaultValue (tyX5 j) = vp_V (([some 29, some 30, some 31, some 32, some 33, none] : List (Option Nat)).map (fun x => match x with | none => .int 0 | some _ => .null)) j := by decide +kernel
theorem df_37 : ∀ j, j < 4 → defaultValue (tyX1 j) = vp_V (([some 38, some 39, some 40, none] : List (Option Nat)).map (fun x => match x with | none => .int 0 | some _ => .null)) j := by decide +kernel
theorem df_41 : ∀ j, j < 5 → defaultValue (tyX2 j) = vp_V (([some 42, some 43, some 44, none, none] : List (Option Nat)).map (fun x => match x with | none => .int 0 | some _ => .null)) j := by decide +kernel
theorem cl_RX11_39 : Cond.classLink RX11 39 RX6 ∈ sT := sT_1 163 (by decide +kernel) rfl
theorem in_6 : Cond.instantiable RX6 7 ∈ sT := sT_1 164 (by decide +kernel) rfl
theorem ii_6 : Cond.initialized RX6 ∈ sT := sT_1 6 (by decide +kernel) rfl
theorem df_45 : ∀ j, j < 7 → defaultValue (tyX6 j) = vp_V (([some 46, none, some 52, some 53, some 54, none, none] : List (Option Nat)).map (fun x => match x with | none => .int 0 | some _ => .null)) j := by decide +kernel
theorem oi_RX6_3 : Cond.methodLink RX6 3 Lib.objectInit ∈ sT := sT_1 168 (by decide +kernel) rfl
theorem cl_RX6_9 : Cond.classLink RX6 9 RX5 ∈ sT := sT_1 169 (by decide +kernel) rfl
theorem df_46 : ∀ j, j < 6 → defaultValue (tyX5 j) = vp_V (([some 47, some 48, some 49, some 50, some 51, none] : List (Option Nat)).map (fun x => match x with | none => .int 0 | some _ => .null)) j := by decide +kernel
theorem nw_RX6_11 : (RX6, 11, yX5_init, "RoundAndUp") ∈ mNW := by decide +kernel
theorem sp_201 : (Int16.ofInt (201)).toInt32 = (201 : Int32) := by decide
theorem mi_X6_init : mMi yX6_init cX6_init 1 := ⟨sT_1 166 (by decide +kernel) rfl, sT_1 6 (by decide +kernel) rfl, sT_1 167 (by decide +kernel) rfl, rfl, by decide +kernel, Nat.le_of_ble_eq_true rfl⟩
theorem nw_RX11_41 : (RX11, 41, yX6_init, "RoundAndUp") ∈ mNW := by decide +kernel
theorem cl_RX11_46 : Cond.classLink RX11 46 RX10 ∈ sT := sT_1 195 (by decide +kernel) rfl
theorem in_10 : Cond.instantiable RX10 7 ∈ sT := sT_1 196 (by decide +kernel) rfl
theorem ii_10 : Cond.initialized RX10 ∈ sT := sT_1 7 (by decide +kernel) rfl
theorem df_55 : ∀ j, j < 7 → defaultValue (tyX10 j) = vp_V (([some 56, some 57, some 58, some 59, some 60, some 61, some 62] : List (Option Nat)).map (fun x => match x with | none => .int 0 | some _ => .null)) j := by decide +kernel
theorem oi_RX10_3 : Cond.methodLink RX10 3 Lib.objectInit ∈ sT := sT_1 200 (by decide +kernel) rfl
theorem bp_108 : (Int8.ofInt (108)).toInt32 = (108 : Int32) := by decide
theorem ac_long : Cond.arrayClass .long ∈ sT := sT_1 224 (by decide +kernel) rfl
theorem mi_X10_init : mMi yX10_init cX10_init 1 := ⟨sT_1 198 (by decide +kernel) rfl, sT_1 7 (by decide +kernel) rfl, sT_1 199 (by decide +kernel) rfl, rfl, by decide +kernel, Nat.le_of_ble_eq_true rfl⟩
theorem nw_RX11_48 : (RX11, 48, yX10_init, "RoundAndUp") ∈ mNW := by decide +kernel
theorem cl_RX11_53 : Cond.classLink RX11 53 RX7 ∈ sT := sT_1 225 (by decide +kernel) rfl
theorem in_7 : Cond.instantiable RX7 3 ∈ sT := sT_1 226 (by decide +kernel) rfl
theorem ii_7 : Cond.initialized RX7 ∈ sT := sT_1 8 (by decide +kernel) rfl
theorem df_63 : ∀ j, j < 3 → defaultValue (tyX7 j) = vp_V (([some 64, some 65, some 66] : List (Option Nat)).map (fun x => match x with | none => .int 0 | some _ => .null)) j := by decide +kernel
theorem oi_RX7_3 : Cond.methodLink RX7 3 Lib.objectInit ∈ sT := sT_1 230 (by decide +kernel) rfl
theorem mi_X7_init : mMi yX7_init cX7_init 1 := ⟨sT_1 228 (by decide +kernel) rfl, sT_1 8 (by decide +kernel) rfl, sT_1 229 (by decide +kernel) rfl, rfl, by decide +kernel, Nat.le_of_ble_eq_true rfl⟩
theorem nw_RX11_55 : (RX11, 55, yX7_init, "RoundAndUp") ∈ mNW := by decide +kernel
theorem cl_RX11_60 : Cond.classLink RX11 60 RX4 ∈ sT := sT_2 2 (by decide +kernel) rfl
theorem in_4 : Cond.instantiable RX4 2 ∈ sT := sT_2 3 (by decide +kernel) rfl
theorem ii_4 : Cond.initialized RX4 ∈ sT := sT_1 9 (by decide +kernel) rfl
theorem df_67 : ∀ j, j < 2 → defaultValue (tyX4 j) = vp_V (([some 68, none] : List (Option Nat)).map (fun x => match x with | none => .int 0 | some _ => .null)) j := by decide +kernel
theorem oi_RX4_3 : Cond.methodLink RX4 3 Lib.objectInit ∈ sT := sT_2 7 (by decide +kernel) rfl
theorem mi_X4_init : mMi yX4_init cX4_init 1 := ⟨sT_2 5 (by decide +kernel) rfl, sT_1 9 (by decide +kernel) rfl, sT_2 6 (by decide +kernel) rfl, rfl, by decide +kernel, Nat.le_of_ble_eq_true rfl⟩
theorem nw_RX11_62 : (RX11, 62, yX4_init, "RoundAndUp") ∈ mNW := by decide +kernel
theorem cl_RX11_67 : Cond.classLink RX11 67 RX8 ∈ sT := sT_2 17 (by decide +kernel) rfl
theorem in_8 : Cond.instantiable RX8 3 ∈ sT := sT_2 18 (by decide +kernel) rfl
theorem ii_8 : Cond.initialized RX8 ∈ sT := sT_1 10 (by decide +kernel) rfl
theorem df_69 : ∀ j, j < 3 → defaultValue (tyX8 j) = vp_V (([some 70, some 71, some 72] : List (Option Nat)).map (fun x => match x with | none => .int 0 | some _ => .null)) j := by decide +kernel
theorem oi_RX8_3 : Cond.methodLink RX8 3 Lib.objectInit ∈ sT := sT_2 22 (by decide +kernel) rfl
theorem cl_RX8_18 : Cond.classLink RX8 18 ("[" ++ (FieldType.array .int).toString) ∈ sT := sT_2 23 (by decide +kernel) rfl
theorem mi_X8_init : mMi yX8_init cX8_init 1 := ⟨sT_2 20 (by decide +kernel) rfl, sT_1 10 (by decide +kernel) rfl, sT_2 21 (by decide +kernel) rfl, rfl, by decide +kernel, Nat.le_of_ble_eq_true rfl⟩
theorem nw_RX11_69 : (RX11, 69, yX8_init, "RoundAndUp") ∈ mNW := by decide +kernel
theorem cl_RX11_74 : Cond.classLink RX11 74 RX9 ∈ sT := sT_2 38 (by decide +kernel) rfl
theorem in_9 : Cond.instantiable RX9 3 ∈ sT := sT_2 39 (by decide +kernel) rfl
theorem ii_9 : Cond.initialized RX9 ∈ sT := sT_1 11 (by decide +kernel) rfl
theorem df_77 : ∀ j, j < 3 → defaultValue (tyX9 j) = vp_V (([some 78, some 79, some 80] : List (Option Nat)).map (fun x => match x with | none => .int 0 | some _ => .null)) j := by decide +kernel
theorem oi_RX9_3 : Cond.methodLink RX9 3 Lib.objectInit ∈ sT := sT_2 43 (by decide +kernel) rfl
theorem mi_X9_init : mMi yX9_init cX9_init 1 := ⟨sT_2 41 (by decide +kernel) rfl, sT_1 11 (by decide +kernel) rfl, sT_2 42 (by decide +kernel) rfl, rfl, by decide +kernel, Nat.le_of_ble_eq_true rfl⟩
theorem nw_RX11_76 : (RX11, 76, yX9_init, "RoundAndUp") ∈ mNW := by decide +kernel
theorem cl_RX11_81 : Cond.classLink RX11 81 RX0 ∈ sT := sT_2 57 (by decide +kernel) rfl
theorem in_0 : Cond.instantiable RX0 6 ∈ sT := sT_2 58 (by decide +kernel) rfl
theorem ii_0 : Cond.initialized RX0 ∈ sT := sT_1 12 (by decide +kernel) rfl
theorem df_81 : ∀ j, j < 6 → defaultValue (tyX0 j) = vp_V (([some 82, none, none, none, none, none] : List (Option Nat)).map (fun x => match x with | none => .int 0 | some _ => .null)) j := by decide +kernel
theorem oi_RX0_3 : Cond.methodLink RX0 3 Lib.objectInit ∈ sT := sT_2 62 (by decide +kernel) rfl
theorem mi_X0_init : mMi yX0_init cX0_init 1 := ⟨sT_2 60 (by decide +kernel) rfl, sT_1 12 (by decide +kernel) rfl, sT_2 61 (by decide +kernel) rfl, rfl, by decide +kernel, Nat.le_of_ble_eq_true rfl⟩
theorem nw_RX11_83 : (RX11, 83, yX0_init, "RoundAndUp") ∈ mNW := by decide +kernel
theorem oi_RX12_1 : Cond.methodLink RX12 1 Lib.objectInit ∈ sT := sT_5 133 (by decide +kernel) rfl
theorem ac_boolean : Cond.arrayClass .boolean ∈ sT := sT_6 6 (by decide +kernel) rfl
theorem sp_4608 : (Int16.ofInt (4608)).toInt32 = (4608 : Int32) := by decide
theorem sp_160 : (Int16.ofInt (160)).toInt32 = (160 : Int32) := by decide
