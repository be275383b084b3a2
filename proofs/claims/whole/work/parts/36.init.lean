abbrev rX0_init : Room := { frames := 1, cells := 3, slots := 78, locals := 20 }
set_option maxHeartbeats 4000000 in
set_option maxRecDepth 100000 in
theorem c_X0_init (l : Launch) (D : va_G) (T : Nat → ClassId) (b : Nat) : kNM l D T yX0_init wsX0_init rX0_init [.ref b] [(b, .inr (0, [.null, .null, .null, .int 0, .int 0, .int 0]))] (fun ad => [oFL b (ad 0) (ad 1) (ad 2) 0 0 0, aI T (ad 0) 26 (fun _ => 0), aI T (ad 1) 26 (fun _ => 0), aI T (ad 2) 26 (fun _ => 0)]) 3 78 := by
  refine kNM.of (cc := cX0_init) (maxL := 1) (by decide) rfl (Nat.le_of_ble_eq_true rfl) ?_
  intro p e s m below meth c A Q ls hx hb hml hown hin hts hC hP hD hS hA hl hret
  have iX0 : ∀ w ∈ wsX00, w ∈ wsX0_init := (fun _ h => List.mem_cons_of_mem _ (List.mem_append_right _ h))
  have hl : lv_has ls 1 [(0, .ref b)] := hl
  refine lv_aload_n hx hb dX0_init_0 rfl (lv_at hl 0 rfl) ?_
  refine W.objInit hx hb hown (hts (.methodLink RX0 3 objectInit) (List.mem_of_getElem? (i := 1) rfl)) (hts (.instanceMethod objectInit) (List.mem_of_getElem? (i := 2) rfl)) (hts (.code objectInit ⟨#[0xb1]⟩ 1 none) (List.mem_of_getElem? (i := 3) rfl)) rfl (by rw [hml]; exact hl.1) rfl dX0_init_1 (Nat.le_of_ble_eq_true rfl) (Nat.le_of_ble_eq_true rfl) ?_
  refine W.eq (g2 := F0 m 4 ls []) rfl ?_
  refine lv_aload_n hx hb dX0_init_4 rfl (lv_at hl 0 rfl) ?_
  refine lv_bipush (v := 26) hx hb dX0_init_5 (by decide) ?_
  refine k_newa (atype := .int) (ty := .int) (a0 := (26, .inl (fun _ => 0))) hx hb (hts (.arrayClass .int) (List.mem_of_getElem? (i := 4) rfl)) rfl hC 0 rfl (fun _ _ h => h) hP hD hS hA (fun _ => rfl) (by decide) (by decide) (by decide) (Nat.le_of_ble_eq_true rfl) (Nat.le_of_ble_eq_true rfl) dX0_init_7 (fun q7 H hP hD hS => ?_)
  have hP : va_P D vwCl [(b, .inr (0, [.null, .null, .null, .int 0, .int 0, .int 0])), aI T q7 26 (fun _ => 0)] H := hP
  have hD : va_D A [(b, .inr (0, [.null, .null, .null, .int 0, .int 0, .int 0])), aI T q7 26 (fun _ => 0)] := hD
  refine va_putF (D := D) (ci := 0) (v := .ref q7) (ty := .array .int) (C := RX0) (T := TX0) (N := 6) hx hb hts iX0 tyX0 tyX0_ok nmX0 hown hC.1 hP hD hS 0 rfl rfl 0 (by decide) (hts (.fieldLink RX0 9 "ParrotCounts$FirstList" "counts" "[I") (List.mem_of_getElem? (i := 5) rfl)) (fun _ h9 => h9) rfl hin rfl (by decide +kernel) rfl rfl (Nat.le_of_ble_eq_true rfl) dX0_init_9 (fun H locs hP hD hS => ?_)
  have hP : va_P D vwCl [(b, .inr (0, [.ref q7, .null, .null, .int 0, .int 0, .int 0])), aI T q7 26 (fun _ => 0)] H := hP
  have hD : va_D A [(b, .inr (0, [.ref q7, .null, .null, .int 0, .int 0, .int 0])), aI T q7 26 (fun _ => 0)] := hD
  refine lv_aload_n hx hb dX0_init_12 rfl (lv_at hl 0 rfl) ?_
  refine lv_bipush (v := 26) hx hb dX0_init_13 (by decide) ?_
  refine k_newa (atype := .int) (ty := .int) (a0 := (26, .inl (fun _ => 0))) hx hb (hts (.arrayClass .int) (List.mem_of_getElem? (i := 4) rfl)) rfl hC 0 rfl (fun _ _ h => h) hP hD hS hA (fun _ => rfl) (by decide) (by decide) (by decide) (Nat.le_of_ble_eq_true rfl) (Nat.le_of_ble_eq_true rfl) dX0_init_15 (fun q15 H hP hD hS => ?_)
  have hP : va_P D vwCl [(b, .inr (0, [.ref q7, .null, .null, .int 0, .int 0, .int 0])), aI T q7 26 (fun _ => 0), aI T q15 26 (fun _ => 0)] H := hP
  have hD : va_D A [(b, .inr (0, [.ref q7, .null, .null, .int 0, .int 0, .int 0])), aI T q7 26 (fun _ => 0), aI T q15 26 (fun _ => 0)] := hD
  refine va_putF (D := D) (ci := 0) (v := .ref q15) (ty := .array .int) (C := RX0) (T := TX0) (N := 6) hx hb hts iX0 tyX0 tyX0_ok nmX0 hown hC.1 hP hD hS 0 rfl rfl 1 (by decide) (hts (.fieldLink RX0 15 "ParrotCounts$FirstList" "surpluses" "[I") (List.mem_of_getElem? (i := 6) rfl)) (fun _ h9 => h9) rfl hin rfl (by decide +kernel) rfl rfl (Nat.le_of_ble_eq_true rfl) dX0_init_17 (fun H locs hP hD hS => ?_)
  have hP : va_P D vwCl [(b, .inr (0, [.ref q7, .ref q15, .null, .int 0, .int 0, .int 0])), aI T q7 26 (fun _ => 0), aI T q15 26 (fun _ => 0)] H := hP
  have hD : va_D A [(b, .inr (0, [.ref q7, .ref q15, .null, .int 0, .int 0, .int 0])), aI T q7 26 (fun _ => 0), aI T q15 26 (fun _ => 0)] := hD
  refine lv_aload_n hx hb dX0_init_20 rfl (lv_at hl 0 rfl) ?_
  refine lv_bipush (v := 26) hx hb dX0_init_21 (by decide) ?_
  refine k_newa (atype := .int) (ty := .int) (a0 := (26, .inl (fun _ => 0))) hx hb (hts (.arrayClass .int) (List.mem_of_getElem? (i := 4) rfl)) rfl hC 0 rfl (fun _ _ h => h) hP hD hS hA (fun _ => rfl) (by decide) (by decide) (by decide) (Nat.le_of_ble_eq_true rfl) (Nat.le_of_ble_eq_true rfl) dX0_init_23 (fun q23 H hP hD hS => ?_)
  have hP : va_P D vwCl [(b, .inr (0, [.ref q7, .ref q15, .null, .int 0, .int 0, .int 0])), aI T q7 26 (fun _ => 0), aI T q15 26 (fun _ => 0), aI T q23 26 (fun _ => 0)] H := hP
  have hD : va_D A [(b, .inr (0, [.ref q7, .ref q15, .null, .int 0, .int 0, .int 0])), aI T q7 26 (fun _ => 0), aI T q15 26 (fun _ => 0), aI T q23 26 (fun _ => 0)] := hD
  refine va_putF (D := D) (ci := 0) (v := .ref q23) (ty := .array .int) (C := RX0) (T := TX0) (N := 6) hx hb hts iX0 tyX0 tyX0_ok nmX0 hown hC.1 hP hD hS 0 rfl rfl 2 (by decide) (hts (.fieldLink RX0 18 "ParrotCounts$FirstList" "changedAt" "[I") (List.mem_of_getElem? (i := 7) rfl)) (fun _ h9 => h9) rfl hin rfl (by decide +kernel) rfl rfl (Nat.le_of_ble_eq_true rfl) dX0_init_25 (fun H locs hP hD hS => ?_)
  have hP : va_P D vwCl [(b, .inr (0, [.ref q7, .ref q15, .ref q23, .int 0, .int 0, .int 0])), aI T q7 26 (fun _ => 0), aI T q15 26 (fun _ => 0), aI T q23 26 (fun _ => 0)] H := hP
  have hD : va_D A [(b, .inr (0, [.ref q7, .ref q15, .ref q23, .int 0, .int 0, .int 0])), aI T q7 26 (fun _ => 0), aI T q15 26 (fun _ => 0), aI T q23 26 (fun _ => 0)] := hD
  exact hret _ _ _ _ _ _ (adL [q7, q15, q23]) dX0_init_28 (Nat.le_of_ble_eq_true rfl) (Nat.le_of_ble_eq_true rfl) hP hD hS
