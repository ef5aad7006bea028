theorem cl_R_law_7 : Cond.classLink R_law 7 RX11 ∈ sT := sT_1 22 (by decide +kernel) rfl
theorem cl_R_law_10 : Cond.classLink R_law 10 RX12 ∈ sT := sT_5 128 (by decide +kernel) rfl
theorem in_11 : Cond.instantiable RX11 14 ∈ sT := sT_1 23 (by decide +kernel) rfl
theorem in_12 : Cond.instantiable RX12 37 ∈ sT := sT_5 129 (by decide +kernel) rfl
theorem ii_11 : Cond.initialized RX11 ∈ sT := sT_1 1 (by decide +kernel) rfl
theorem ii_12 : Cond.initialized RX12 ∈ sT := sT_1 13 (by decide +kernel) rfl
theorem df_0 : ∀ j, j < 14 → defaultValue (tyX11 j) = vp_V (([some 1, some 15, some 19, some 23, some 37, some 41, none, some 45, some 55, some 63, some 67, some 69, some 77, some 81] : List (Option Nat)).map (fun x => match x with | none => .int 0 | some _ => .null)) j := by decide +kernel
theorem df_83 : ∀ j, j < 37 → defaultValue (tyX12 j) = vp_V (([some 84, some 85, some 86, none, some 87, none, none, some 88, some 89, some 90, some 91, some 92, some 93, some 94, some 95, some 96, none, some 97, none, none, none, none, none, none, none, some 98, some 99, some 100, some 101, some 102, some 103, some 104, none, none, none, none, none] : List (Option Nat)).map (fun x => match x with | none => .int 0 | some _ => .null)) j := by decide +kernel
theorem lk_R_law_9 : Cond.methodLink R_law 9 yX11_init ∈ sT := sT_1 24 (by decide +kernel) rfl
theorem lk_R_law_12 : Cond.methodLink R_law 12 yX12_init ∈ sT := sT_5 130 (by decide +kernel) rfl
theorem mi_X11_init : mMi yX11_init cX11_init 1 := ⟨sT_1 25 (by decide +kernel) rfl, sT_1 1 (by decide +kernel) rfl, sT_1 26 (by decide +kernel) rfl, rfl, by decide +kernel, Nat.le_of_ble_eq_true rfl⟩
theorem mi_X12_init : mMi yX12_init cX12_init 2 := ⟨sT_5 131 (by decide +kernel) rfl, sT_1 13 (by decide +kernel) rfl, sT_5 132 (by decide +kernel) rfl, rfl, by decide +kernel, Nat.le_of_ble_eq_true rfl⟩
