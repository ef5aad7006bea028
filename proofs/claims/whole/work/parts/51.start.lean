/-- all 0 -/
def s00 : sS := (fun _ _ => 0, fun _ _ => 0)
/-- the world when the law's loop begins -/
def s0 : sS := i_X12_init_83 (i_X11_init_0 s00)
theorem mF_sF (G : sG) (f : Nat → Int32) : ∀ (l : List (Option Nat)) (j : Nat), (∀ i q, l[i]? = some (some q) → f (j + i) ≠ 0) → mF G f j l = sF G f j l
  | [], _, _ => rfl
  | none :: l, j, h => by
    show Value.int (f j) :: mF G f (j + 1) l = Value.int (f j) :: sF G f (j + 1) l
    rw [mF_sF G f l (j + 1) (fun i q hi => by have := h (i + 1) q (by simpa using hi); rwa [show j + (i + 1) = j + 1 + i by omega] at this)]
  | some q :: l, j, h => by
    show (if f j = 0 then Value.null else Value.ref (gA G q)) :: mF G f (j + 1) l = Value.ref (gA G q) :: sF G f (j + 1) l
    rw [if_neg (show ¬ f j = 0 from h 0 q (by simp)), mF_sF G f l (j + 1) (fun i q hi => by have := h (i + 1) q (by simpa using hi); rwa [show j + (i + 1) = j + 1 + i by omega] at this)]
def flagsOK : Bool := (List.range 105).all fun k => match shL[k]? with
  | some (.inl (_, fl)) => (List.range fl.length).all (fun j => match fl[j]? with | some (some _) => decide (¬ s0.1 k j = 0) | _ => true)
  | _ => true
set_option maxRecDepth 100000 in
theorem flags_ok : flagsOK = true := by decide +kernel
theorem mW_sW (G : sG) : mW G s0 105 = sW G s0 := by
  have h105 : sN = 105 := by decide +kernel
  unfold mW sW
  rw [h105]
  apply List.map_congr_left
  intro k hk
  have hk1 := List.all_eq_true.mp flags_ok k hk
  congr 1
  unfold mE sE
  cases hs : shL[k]? with
  | none => rfl
  | some x =>
    cases x with
    | inr y => rfl
    | inl y =>
      obtain ⟨ci, fl⟩ := y
      rw [hs] at hk1
      refine congrArg (fun z => (Sum.inr (ci, z) : va_E)) ?_
      refine mF_sF G (s0.1 k) fl 0 (fun i q hi => ?_)
      have hi1 : i < fl.length := (List.getElem?_eq_some_iff.mp hi).1
      have h3 := List.all_eq_true.mp hk1 i (List.mem_range.mpr hi1)
      rw [hi] at h3
      rw [Nat.zero_add]
      exact of_decide_eq_true h3
theorem sBy_all : ∀ j, j < 101 → (Cond.eq (.elem (.field (.string "RoundAndUp$RuleReader" 72) "java/lang/String" "value" "[B") (.int (Int32.ofNat j))) (.int (sBy.getD j 0))) ∈ flatC (Jvm.Cond.and given_1 narrow_1) := by decide +kernel
set_option maxHeartbeats 4000000 in
set_option maxRecDepth 100000 in
/-- the start of the law, over the answer of its loop's function -/
theorem whole_open (hT : ∀ (xs : Nat → Int32) (L : Nat), L ≤ 2560 → fl_L_law_18 xs L (s0, 0) = some 1) {p : Program} {e : Env} {s : State} {m : MethodId} {below : List Frame} {meth : Method} {c : Code} (l : Launch) {b L : Nat} {xs : Nat → Int32} (hL : L ≤ 2560) (C0 : lw_At p s m meth c b L xs) : W p l e room_1 s m #[Value.ref b] below meth c s.heap [] 0 0 (lw_Z below #[Value.ref b] s) (entryFrame m ([Value.ref b] : List Value).toArray 4) := by
  obtain ⟨hx, hb, hr, hml, hown, hts, hX, hbl, hlocks, hgv⟩ := id C0
  have hs := flat_of_before _ hgv
  have hA0 : ∀ a : Nat, a < s.heap.size → ¬ (fun q : Nat => s.heap.size ≤ q) a := fun a h => Nat.not_le.mpr h
  have key : ∀ (C : String) (T : u_T) (N : Nat), (∀ w ∈ u_ws C T N, w ∈ lw_tbl) → (Cond.instantiable C N).before #[Value.ref b] s = true → ∃ q : ClassId × (Nat → Nat), u_Kn s C T N q.1 q.2 := fun C T N h1 h2 => by
    obtain ⟨cC, iS, h⟩ := u_known (C := C) (T := T) (N := N) hts h1 h2
    exact ⟨(cC, iS), h⟩
  have hall : ∀ k : Nat, ∃ q : ClassId × (Nat → Nat), ∀ r, vwCl[k]? = some r → u_Kn s r.1 r.2.1 r.2.2 q.1 q.2 := by
    intro k
    match k with
    | 0 => exact (key RX0 TX0 6 (fun w hw => lw_sT (kc_0.2.1 w hw)) (hts _ (lw_sT in_0))).elim fun q h => ⟨q, fun r hr => by cases hr; exact h⟩
    | 1 => exact (key RX1 TX1 4 (fun w hw => lw_sT (kc_1.2.1 w hw)) (hts _ (lw_sT in_1))).elim fun q h => ⟨q, fun r hr => by cases hr; exact h⟩
    | 2 => exact (key RX2 TX2 5 (fun w hw => lw_sT (kc_2.2.1 w hw)) (hts _ (lw_sT in_2))).elim fun q h => ⟨q, fun r hr => by cases hr; exact h⟩
    | 3 => exact (key RX3 TX3 11 (fun w hw => lw_sT (kc_3.2.1 w hw)) (hts _ (lw_sT in_3))).elim fun q h => ⟨q, fun r hr => by cases hr; exact h⟩
    | 4 => exact (key RX4 TX4 2 (fun w hw => lw_sT (kc_4.2.1 w hw)) (hts _ (lw_sT in_4))).elim fun q h => ⟨q, fun r hr => by cases hr; exact h⟩
    | 5 => exact (key RX5 TX5 6 (fun w hw => lw_sT (kc_5.2.1 w hw)) (hts _ (lw_sT in_5))).elim fun q h => ⟨q, fun r hr => by cases hr; exact h⟩
    | 6 => exact (key RX6 TX6 7 (fun w hw => lw_sT (kc_6.2.1 w hw)) (hts _ (lw_sT in_6))).elim fun q h => ⟨q, fun r hr => by cases hr; exact h⟩
    | 7 => exact (key RX7 TX7 3 (fun w hw => lw_sT (kc_7.2.1 w hw)) (hts _ (lw_sT in_7))).elim fun q h => ⟨q, fun r hr => by cases hr; exact h⟩
    | 8 => exact (key RX8 TX8 3 (fun w hw => lw_sT (kc_8.2.1 w hw)) (hts _ (lw_sT in_8))).elim fun q h => ⟨q, fun r hr => by cases hr; exact h⟩
    | 9 => exact (key RX9 TX9 3 (fun w hw => lw_sT (kc_9.2.1 w hw)) (hts _ (lw_sT in_9))).elim fun q h => ⟨q, fun r hr => by cases hr; exact h⟩
    | 10 => exact (key RX10 TX10 7 (fun w hw => lw_sT (kc_10.2.1 w hw)) (hts _ (lw_sT in_10))).elim fun q h => ⟨q, fun r hr => by cases hr; exact h⟩
    | 11 => exact (key RX11 TX11 14 (fun w hw => lw_sT (kc_11.2.1 w hw)) (hts _ (lw_sT in_11))).elim fun q h => ⟨q, fun r hr => by cases hr; exact h⟩
    | 12 => exact (key RX12 TX12 37 (fun w hw => lw_sT (kc_12.2.1 w hw)) (hts _ (lw_sT in_12))).elim fun q h => ⟨q, fun r hr => by cases hr; exact h⟩
    | k + 13 => exact ⟨(0, fun _ => 0), fun r h => by simp [vwCl] at h⟩
  obtain ⟨cd, hcd⟩ := Classical.axiomOfChoice hall
  have harr : ∀ t : FieldType, (∀ C, t ≠ .object C) → (Cond.arrayClass t).before #[Value.ref b] s = true → ∃ cA : ClassId, ArrOfT s cA t ∧ s.vm.findClass ("[" ++ t.toString) = some cA := fun t _ h => by
    obtain ⟨cA, k, comp, h1, h2, h3⟩ := Cond.arrayClass_spec h
    exact ⟨cA, fun N z => ⟨(fun q hq => by cases hq), k, h2, comp, h3⟩, h1⟩
  obtain ⟨cyI, aI, nI9⟩ := harr .int (fun _ h => by cases h) (hts _ (lw_sT ac_int))
  obtain ⟨cyJ, aJ, nJ9⟩ := harr .long (fun _ h => by cases h) (hts _ (lw_sT ac_long))
  obtain ⟨cyZ, aZ, nZ9⟩ := harr .boolean (fun _ h => by cases h) (hts _ (lw_sT ac_boolean))
  have hao : (Cond.arrayOver (.array .int)).before #[Value.ref b] s = true := hts _ (List.mem_of_getElem? (i := 355) (by decide +kernel))
  have hao0 : (Cond.arrayOver (.array .int)).before #[] s = true := hao
  obtain ⟨comp, cyQ, kQ, q1, q2, q3, q4, q5⟩ := arrayOverA_spec hao
  have aQ : ArrOfT s cyQ (.array .int) := fun N z => ⟨(fun q hq => by cases hq), kQ, q3, comp, q4⟩
  -- the text
  obtain ⟨adK, adV, hStr, hev⟩ := vk_Sof (s := s) (args := #[Value.ref b]) (N := 1) (tm := fun _ => Term.string "RoundAndUp$RuleReader" 72) (len := [101]) (byt := [sBy]) (A := fun q : Nat => s.heap.size ≤ q)
    (fun i hi => by rw [show i = 0 by omega]; decide) (fun i hi => hs _ (by decide +kernel)) (fun i hi => hs _ (by decide +kernel)) (fun i hi => hs _ (by decide +kernel)) (fun i hi => by rw [show i = 0 by omega]; exact hs _ (by decide +kernel)) (fun i hi j hj => by
      rw [show i = 0 by omega] at hj ⊢
      exact hs _ (sBy_all j hj)) (fun i j hi hj hij => absurd (show i = j by omega) hij) hA0
  have hev0 := hev 0 (by decide)
  obtain ⟨G, hG⟩ : ∃ G : sG, G = ((fun k => (cd k).1, fun k => (cd k).2), fun k => s.heap.size + k, cyI, cyJ, cyZ, cyQ, adK 0, adV 0) := ⟨_, rfl⟩
  have hgA : gAt G s.heap.size := fun k => by rw [hG]; rfl
  have hK : sK G s := by
    rw [hG]
    refine ⟨fun k r h => hcd k r h, fun k q h => ?_⟩
    match k, h with
    | 0, h => cases h; exact ⟨aI, nI9⟩
    | 1, h => cases h; exact ⟨aJ, nJ9⟩
    | 2, h => cases h; exact ⟨aZ, nZ9⟩
    | 3, h => cases h; exact ⟨aQ, q5⟩
    | k + 4, h => simp [sTy] at h
  have hI : sInj G := fun i j _ _ h => by rw [hgA i, hgA j] at h; omega
  have hAG : ∀ q, sA G q → s.heap.size ≤ q := fun q h => by
    obtain ⟨k, -, h2⟩ := h
    rw [h2, hgA k]
    exact Nat.le_add_right _ _
  have hM : mNs s := ⟨fun q hq => va_Nw.of rfl (hts _ ((by decide +kernel : ∀ q ∈ mNW, Cond.methodLinkNest q.1 q.2.1 q.2.2.1 q.2.2.2 ∈ lw_tbl) q hq)), hao0⟩
  have gs : gS G = adK 0 := by rw [hG]; rfl
  have gv : gV G = adV 0 := by rw [hG]; rfl
  have hN : sNs G s := by
    refine ⟨fun q hq => va_Nw.of rfl (hts _ ((by decide +kernel : ∀ q ∈ sNW, Cond.methodLinkNest q.1 q.2.1 q.2.2.1 q.2.2.2 ∈ lw_tbl) q hq)), ?_, ?_, ?_, ?_⟩
    · rw [gs]
      exact vk_R.of (hts _ (List.mem_of_getElem? (i := 621) (by decide +kernel))) hev0
    · have h1 := hStr.narrow hAG
      refine ⟨fun i hi => ?_, fun i j hi hj _ => by omega⟩
      have h2 := h1.1 i hi
      rw [show i = 0 by omega] at h2 ⊢
      rw [gs, gv]
      exact h2
    · exact (va_Zof (A := fun q : Nat => s.heap.size ≤ q) (hts _ (List.mem_of_getElem? (i := 631) (by decide +kernel))) (hts _ (List.mem_of_getElem? (i := 106) (by decide +kernel))) (va_eqi (hs _ (by decide +kernel))) hA0).narrow hAG
    · exact (va_Zqof (A := fun q : Nat => s.heap.size ≤ q) (hts _ (List.mem_of_getElem? (i := 647) (by decide +kernel))) (hts _ (List.mem_of_getElem? (i := 108) (by decide +kernel))) (hs _ (by decide +kernel)) hA0).narrow hAG
  have X : mX G s.heap.size R_law code 4 p s m #[Value.ref b] c := ⟨hx, hb, hml, hown, fun w hw => hts w (lw_sT hw), hK, hgA, Nat.le_refl _, hM⟩
  have hl := lv_entry [.ref b] (n := 4) (Nat.le_of_ble_eq_true rfl)
  rw [lg_entry_eq]
  generalize (lg_sl [.ref b] ++ List.replicate (4 - (lg_sl [.ref b]).length) Slot.unset).toArray = ls at hl ⊢
  have hl : lv_has ls 4 [(0, .ref b)] := hl
  have hend : mS p l e room_1 s m #[Value.ref b] below meth c (lw_Z below #[Value.ref b] s) G s.heap.size 4 18 [(3, .int 0), (2, .ref (gA G 83)), (1, .ref (gA G 0)), (0, .ref b)] [] s0 105 105 9600 := by
    intro H locs ls hl hz hr0 hP hS
    rw [mW_sW] at hP
    refine W.widen (k := 600000) (n := 7302249) (Nat.le_of_ble_eq_true rfl) (Nat.le_of_ble_eq_true rfl) ?_
    exact l_ext [3, 2, 1, 0] rfl (b_L_law_18 l G b xs L (s0, 0) 1 (hT xs L hL) rfl) p e s m below meth c ⟨C0, hK, hI, hN, hAG⟩ H locs ls hl hP hS
  have run : mS p l e room_1 s m #[Value.ref b] below meth c (lw_Z below #[Value.ref b] s) G s.heap.size 4 0 [(0, .ref b)] [] s00 0 0 0 :=
    (m_new (pc := 0) (K := 0) (cells := 0) (slots := 0) X qL_law_0.1 kc_11 cl_R_law_7 in_11 ii_11 sh_0 df_0 (Nat.le_of_ble_eq_true rfl) (Nat.le_of_ble_eq_true rfl)
    (m_dup (pc := 3) X qL_law_0.2.1 rfl
    (m_call (pc := 4) (K := 1) (cells := 1) (slots := 14) [.ref (gA G 0)] X qL_law_0.2.2.1 mi_X11_init lk_R_law_9 rfl (Nat.le_of_ble_eq_true rfl) ⟨Nat.le_of_ble_eq_true rfl, Nat.le_of_ble_eq_true rfl, Nat.le_of_ble_eq_true rfl, Nat.le_of_ble_eq_true rfl⟩ (t_X11_init_0 l G s.heap.size s00)
    (m_astore_n (pc := 7) (K := 83) (cells := 83) (slots := 2978) X qL_law_0.2.2.2.1 (Nat.le_of_ble_eq_true rfl) [(1, .ref (gA G 0)), (0, .ref b)] rfl
    (m_new (pc := 8) (K := 83) (cells := 83) (slots := 2978) X qL_law_0.2.2.2.2.1 kc_12 cl_R_law_10 in_12 ii_12 sh_83 df_83 (Nat.le_of_ble_eq_true rfl) (Nat.le_of_ble_eq_true rfl)
    (m_dup (pc := 11) X qL_law_0.2.2.2.2.2.1 rfl
    (m_call (pc := 12) (K := 84) (cells := 84) (slots := 3015) [.ref (gA G 83)] X qL_law_0.2.2.2.2.2.2.1 mi_X12_init lk_R_law_12 rfl (Nat.le_of_ble_eq_true rfl) ⟨Nat.le_of_ble_eq_true rfl, Nat.le_of_ble_eq_true rfl, Nat.le_of_ble_eq_true rfl, Nat.le_of_ble_eq_true rfl⟩ (t_X12_init_83 l G s.heap.size (i_X11_init_0 s00))
    (m_astore_n (pc := 15) (K := 105) (cells := 105) (slots := 9600) X qL_law_0.2.2.2.2.2.2.2.1 (Nat.le_of_ble_eq_true rfl) [(2, .ref (gA G 83)), (1, .ref (gA G 0)), (0, .ref b)] rfl
    (m_iconst (pc := 16) 0 X qL_law_0.2.2.2.2.2.2.2.2.1 ic_0
    (m_istore_n (pc := 17) X qL_law_0.2.2.2.2.2.2.2.2.2.1 (Nat.le_of_ble_eq_true rfl) [(3, .int 0), (2, .ref (gA G 83)), (1, .ref (gA G 0)), (0, .ref b)] rfl
    hend))))))))))
  exact run s.heap [] ls hl rfl (fun k _ => ⟨rfl, rfl⟩) (fun k q h => by simp [mW] at h) va_S.rf
