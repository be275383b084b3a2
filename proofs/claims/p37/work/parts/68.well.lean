section PWELL
abbrev rL_isWell : Room := { frames := 9, cells := 130, slots := 780, locals := 176 }
set_option maxHeartbeats 4000000 in
set_option maxRecDepth 100000 in
theorem L_isWell (l : Launch) (D : va_G) (T : Nat → ClassId) (hst9 : l.stackTraces = false) (po : Nat) (a : Nat → Nat) (k : KS) (x : CT) {M : Int} (hK : KI k M) (hM : M ≤ 99999) : kWN l D T yL_isWell wsL_isWell rL_isWell 130 780 [.ref po] (wO T po a k x) (some (.int 1)) (wO T po a k x) := by
  refine kWN.ofP (cc := cL_isWell) (maxL := 9) (ret := some .boolean) (by decide) rfl (Nat.le_of_ble_eq_true rfl) ?_
  intro p e s m below meth c A Q ls hx hb hml hown hr hlk hts hC hP hD hS hA hl hXX hZ hE hNc hret
  have hl : lv_has ls 9 [(0, .ref po)] := hl
  have hP : va_P D vwCl (wO T po a k x ++ []) s.heap := by rw [wP_nil]; exact hP
  have hD : va_D A (wO T po a k x ++ []) := by rw [wD_nil]; exact hD
  have loop_416 : ∀ (n9 q : Nat), q + n9 = 9 → ∀ (H : Heap) (locs : List Loc) (cells slots : Nat) (ls : Array Slot), va_P D vwCl (wO T po a k x ++ []) H → va_D A (wO T po a k x ++ []) → va_S A s.heap H locs → lv_has ls 9 [(6, .int (nI (125 * q))), (5, .int 1), (4, .int (qGEn k.1 26)), (3, .int (smN (qC k.1) 26)), (2, .int (nI (cntN (qT k.1) 26))), (1, .int (smN (qT k.1) 26)), (0, .ref po)] → cells ≤ 128 → slots ≤ 768 → W p l e rL_isWell s m ([.ref po] : List Value).toArray below meth c H locs cells slots Q (F0 m 416 ls []) := by
    intro n9
    induction n9 with
    | zero =>
      intro q hi H locs cells slots ls hP hD hS hl hce hso
      have hi9 : 9 = q := by omega
      subst hi9
      refine lv_iload hx hb dL_isWell_416 (lv_at hl 0 rfl) ?_
      refine lv_sipush (v := 1001) hx hb dL_isWell_418 (by decide) ?_
      refine lv_icmp_ge (tgt := 478) hx hb dL_isWell_421 (by decide) (fun _ => ?_) (fun c_x => absurd (by decide : ((1001 : Int32) ≤ (nI (125 * 9)))) c_x)
      refine lv_iload hx hb dL_isWell_478 (lv_at hl 1 rfl) ?_
      refine lv_if_eq (tgt := 548) hx hb dL_isWell_480 (by decide) (fun c_x => absurd c_x (by decide : ¬ ((1 : Int32) = 0))) (fun _ => ?_)
      refine lv_iload_n hx hb dL_isWell_483 rfl (lv_at hl 5 rfl) ?_
      refine lv_aload_n hx hb dL_isWell_484 rfl (lv_at hl 6 rfl) ?_
      refine kV (ci := 7) (As := []) (rest := [.int (smN (qT k.1) 26)]) ⟨hx, hb, hml, hown, hts⟩ (o_calls l D T po a k x) (cwV 0 hts gL_isWell_X8_calls rfl rfl rfl (by decide +kernel) ⟨Nat.le_of_ble_eq_true rfl, Nat.le_of_ble_eq_true rfl⟩) hC hP hD hS hA rfl rfl rfl hl.1 rfl (Nat.le_of_ble_eq_true rfl) dL_isWell_485 ⟨(by show cells ≤ 130; omega), (by show slots ≤ 780; omega)⟩ (fun H locs hP hD hS => ?_)
      have hP : va_P D vwCl (wO T po a k x ++ []) H := hP
      have hD : va_D A (wO T po a k x ++ []) := hD
      refine W.eq (g2 := F0 m 488 ls [.int (qSum k.1), .int (smN (qT k.1) 26)]) rfl ?_
      refine lv_icmp_ne (tgt := 548) hx hb dL_isWell_488 (by decide) (fun c_x => absurd rfl c_x) (fun _ => ?_)
      refine lv_iload_n hx hb dL_isWell_491 rfl (lv_at hl 4 rfl) ?_
      refine lv_aload_n hx hb dL_isWell_492 rfl (lv_at hl 6 rfl) ?_
      refine kV (ci := 7) (As := []) (rest := [.int (nI (cntN (qT k.1) 26))]) ⟨hx, hb, hml, hown, hts⟩ (o_parrotsHeard l D T po a k x) (cwV 0 hts gL_isWell_X8_parrotsHeard rfl rfl rfl (by decide +kernel) ⟨Nat.le_of_ble_eq_true rfl, Nat.le_of_ble_eq_true rfl⟩) hC hP hD hS hA rfl rfl rfl hl.1 rfl (Nat.le_of_ble_eq_true rfl) dL_isWell_493 ⟨(by show cells ≤ 130; omega), (by show slots ≤ 780; omega)⟩ (fun H locs hP hD hS => ?_)
      have hP : va_P D vwCl (wO T po a k x ++ []) H := hP
      have hD : va_D A (wO T po a k x ++ []) := hD
      refine W.eq (g2 := F0 m 496 ls [.int (nI (cntN (qT k.1) 26)), .int (nI (cntN (qT k.1) 26))]) rfl ?_
      refine lv_icmp_ne (tgt := 548) hx hb dL_isWell_496 (by decide) (fun c_x => absurd rfl c_x) (fun _ => ?_)
      refine lv_iload_n hx hb dL_isWell_499 rfl (lv_at hl 3 rfl) ?_
      refine lv_aload_n hx hb dL_isWell_500 rfl (lv_at hl 6 rfl) ?_
      refine kV (ci := 7) (As := []) (rest := [.int (smN (qC k.1) 26)]) ⟨hx, hb, hml, hown, hts⟩ (o_callsByCounters l D T po a k x) (cwV 0 hts gL_isWell_X8_callsByCounters rfl rfl rfl (by decide +kernel) ⟨Nat.le_of_ble_eq_true rfl, Nat.le_of_ble_eq_true rfl⟩) hC hP hD hS hA rfl rfl rfl hl.1 rfl (Nat.le_of_ble_eq_true rfl) dL_isWell_501 ⟨(by show cells ≤ 130; omega), (by show slots ≤ 780; omega)⟩ (fun H locs hP hD hS => ?_)
      have hP : va_P D vwCl (wO T po a k x ++ []) H := hP
      have hD : va_D A (wO T po a k x ++ []) := hD
      refine W.eq (g2 := F0 m 504 ls [.int (smN (qC k.1) 26), .int (smN (qC k.1) 26)]) rfl ?_
      refine lv_icmp_ne (tgt := 548) hx hb dL_isWell_504 (by decide) (fun c_x => absurd rfl c_x) (fun _ => ?_)
      refine lv_iload hx hb dL_isWell_507 (lv_at hl 2 rfl) ?_
      refine lv_aload_n hx hb dL_isWell_509 rfl (lv_at hl 6 rfl) ?_
      refine kV (ci := 7) (As := []) (rest := [.int (qGEn k.1 26)]) ⟨hx, hb, hml, hown, hts⟩ (o_greatestError l D T po a k x) (cwV 0 hts gL_isWell_X8_greatestError rfl rfl rfl (by decide +kernel) ⟨Nat.le_of_ble_eq_true rfl, Nat.le_of_ble_eq_true rfl⟩) hC hP hD hS hA rfl rfl rfl hl.1 rfl (Nat.le_of_ble_eq_true rfl) dL_isWell_510 ⟨(by show cells ≤ 130; omega), (by show slots ≤ 780; omega)⟩ (fun H locs hP hD hS => ?_)
      have hP : va_P D vwCl (wO T po a k x ++ []) H := hP
      have hD : va_D A (wO T po a k x ++ []) := hD
      refine W.eq (g2 := F0 m 513 ls [.int (qGE k.1), .int (qGEn k.1 26)]) rfl ?_
      refine lv_icmp_ne (tgt := 548) hx hb dL_isWell_513 (by decide) (fun c_x => absurd rfl c_x) (fun _ => ?_)
      refine lv_aload_n hx hb dL_isWell_516 rfl (lv_at hl 6 rfl) ?_
      refine kV (ci := 7) (As := []) (rest := []) ⟨hx, hb, hml, hown, hts⟩ (o_counters l D T po a k x) (cwV 0 hts gL_isWell_X8_counters rfl rfl rfl (by decide +kernel) ⟨Nat.le_of_ble_eq_true rfl, Nat.le_of_ble_eq_true rfl⟩) hC hP hD hS hA rfl rfl rfl hl.1 rfl (Nat.le_of_ble_eq_true rfl) dL_isWell_517 ⟨(by show cells ≤ 130; omega), (by show slots ≤ 780; omega)⟩ (fun H locs hP hD hS => ?_)
      have hP : va_P D vwCl (wO T po a k x ++ []) H := hP
      have hD : va_D A (wO T po a k x ++ []) := hD
      refine W.eq (g2 := F0 m 520 ls [.int (qSize k.1)]) rfl ?_
      have j544 : ∀ (H : Heap) (locs : List Loc) (cells slots : Nat) (ls : Array Slot), va_P D vwCl (wO T po a k x ++ []) H → va_D A (wO T po a k x ++ []) → va_S A s.heap H locs → lv_has ls 9 [(6, .int (nI (125 * 9))), (5, .int 1), (4, .int (qGEn k.1 26)), (3, .int (smN (qC k.1) 26)), (2, .int (nI (cntN (qT k.1) 26))), (1, .int (smN (qT k.1) 26)), (0, .ref po)] → cells ≤ 129 → slots ≤ 774 → W p l e rL_isWell s m ([.ref po] : List Value).toArray below meth c H locs cells slots Q (F0 m 544 ls []) := by
        intro H locs cells slots ls hP hD hS hl hce hso
        refine lv_iconst (v := 1) hx hb dL_isWell_544 (by decide) ?_
        refine lv_goto (tgt := 549) hx hb dL_isWell_545 (by decide) ?_
        rw [wP_nil] at hP
        rw [wD_nil] at hD
        exact hret _ _ _ _ _ _ _ (by show cells ≤ 130; omega) (by show slots ≤ 780; omega) (fun Qc free hq hf => W.zret hx hb hr rfl hq hf dL_isWell_549 hlk) hP hD hS
      refine lv_if_eq (tgt := 544) hx hb dL_isWell_520 (by decide) (fun c520 => ?_) (fun c520 => ?_)
      · skip
        exact j544 _ _ _ _ _ hP hD hS (lv_sub hl [0, 1, 2, 3, 4, 5, 6] rfl) (by omega) (by omega)
      · skip
        have hc1 := f_pos hK.1 c520
        have hc26 := cntN_le (qC k.1) 26
        obtain ⟨pz, hp_pz, ez, _, _⟩ := pAtN_ex (qC k.1) (m := cntN (qC k.1) 26 - 1) (by have := f_pos hK.1 c520; omega)
        refine lv_aload_n hx hb dL_isWell_523 rfl (lv_at hl 6 rfl) ?_
        refine lv_aload_n hx hb dL_isWell_524 rfl (lv_at hl 6 rfl) ?_
        refine lv_aload_n hx hb dL_isWell_525 rfl (lv_at hl 6 rfl) ?_
        refine kV (ci := 7) (As := []) (rest := [.ref po, .ref po]) ⟨hx, hb, hml, hown, hts⟩ (o_counters l D T po a k x) (cwV 0 hts gL_isWell_X8_counters rfl rfl rfl (by decide +kernel) ⟨Nat.le_of_ble_eq_true rfl, Nat.le_of_ble_eq_true rfl⟩) hC hP hD hS hA rfl rfl rfl hl.1 rfl (Nat.le_of_ble_eq_true rfl) dL_isWell_526 ⟨(by show cells ≤ 130; omega), (by show slots ≤ 780; omega)⟩ (fun H locs hP hD hS => ?_)
        have hP : va_P D vwCl (wO T po a k x ++ []) H := hP
        have hD : va_D A (wO T po a k x ++ []) := hD
        refine W.eq (g2 := F0 m 529 ls [.int (qSize k.1), .ref po, .ref po]) rfl ?_
        refine lv_iconst (v := 1) hx hb dL_isWell_529 (by decide) ?_
        refine lv_isub hx hb dL_isWell_530 ?_
        refine W.eq (g2 := F0 m 531 ls (.int (nI (cntN (qC k.1) 26 - 1)) :: [.ref po, .ref po])) (congrArg (fun z => F0 m 531 ls (.int z :: [.ref po, .ref po])) (f_last hK.1 c520 : ((qSize k.1) - 1 : Int32) = nI (cntN (qC k.1) 26 - 1))) ?_
        refine kWT (As := [.ref po, .int (nI (cntN (qC k.1) 26 - 1))]) (rest := [.ref po]) ⟨hx, hb, hml, hown, hts⟩ (L_loudest l D T po a k x (nI (cntN (qC k.1) 26 - 1)) (nI_pos' (by omega)) (f_in hK.1 (by omega))) (vx_cwSW 2 hts gL_isWell_L_loudest rfl rfl rfl (by decide +kernel) ⟨Nat.le_of_ble_eq_true rfl, Nat.le_of_ble_eq_true rfl⟩) hC hXX hZ hE hNc hP hD hS hA rfl hl.1 rfl (Nat.le_of_ble_eq_true rfl) dL_isWell_531 ⟨(by show cells + 1 ≤ 130; omega), (by show slots + 6 ≤ 780; omega)⟩ (fun H locs hP hD hS => ?_)
        have hP : va_P D vwCl (wO T po a k x ++ []) H := hP
        have hD : va_D A (wO T po a k x ++ []) := hD
        refine W.eq (g2 := F0 m 534 ls [.int (pAtN (qC k.1) (nI (cntN (qC k.1) 26 - 1)) 26 0), .ref po]) rfl ?_
        refine W.eq (g2 := F0 m 534 ls (.int (nI pz) :: [.ref po])) (congrArg (fun z => F0 m 534 ls (.int z :: [.ref po])) (ez : (pAtN (qC k.1) (nI (cntN (qC k.1) 26 - 1)) 26 0 : Int32) = nI pz)) ?_
        refine kWT (As := [.ref po, .int (nI pz)]) (rest := []) ⟨hx, hb, hml, hown, hts⟩ (L_estimate l D T po a k x pz hp_pz) (vx_cwSW 2 hts gL_isWell_L_estimate rfl rfl rfl (by decide +kernel) ⟨Nat.le_of_ble_eq_true rfl, Nat.le_of_ble_eq_true rfl⟩) hC hXX hZ hE hNc hP hD hS hA rfl hl.1 rfl (Nat.le_of_ble_eq_true rfl) dL_isWell_534 ⟨(by show cells + 1 ≤ 130; omega), (by show slots + 6 ≤ 780; omega)⟩ (fun H locs hP hD hS => ?_)
        have hP : va_P D vwCl (wO T po a k x ++ []) H := hP
        have hD : va_D A (wO T po a k x ++ []) := hD
        refine W.eq (g2 := F0 m 537 ls [.int (qEst k.1 pz)]) rfl ?_
        refine lv_aload_n hx hb dL_isWell_537 rfl (lv_at hl 6 rfl) ?_
        refine kV (ci := 7) (As := []) (rest := [.int (qEst k.1 pz)]) ⟨hx, hb, hml, hown, hts⟩ (o_floor l D T po a k x) (cwV 0 hts gL_isWell_X8_floor rfl rfl rfl (by decide +kernel) ⟨Nat.le_of_ble_eq_true rfl, Nat.le_of_ble_eq_true rfl⟩) hC hP hD hS hA rfl rfl rfl hl.1 rfl (Nat.le_of_ble_eq_true rfl) dL_isWell_538 ⟨(by show cells + 1 + 0 ≤ 130; omega), (by show slots + 6 + 0 ≤ 780; omega)⟩ (fun H locs hP hD hS => ?_)
        have hP : va_P D vwCl (wO T po a k x ++ []) H := hP
        have hD : va_D A (wO T po a k x ++ []) := hD
        refine W.eq (g2 := F0 m 541 ls [.int (qLeast k.1), .int (qEst k.1 pz)]) rfl ?_
        refine lv_icmp_lt (tgt := 548) hx hb dL_isWell_541 (by decide) (fun c_x => absurd c_x (f_est3 hK.1 hM hp_pz)) (fun _ => ?_)
        exact j544 _ _ _ _ _ hP hD hS (lv_sub hl [0, 1, 2, 3, 4, 5, 6] rfl) (by omega) (by omega)
    | succ n9 ih =>
      intro q hi H locs cells slots ls hP hD hS hl hce hso
      have hlt : q < 9 := by omega
      have hlo : ¬ nI (125 * q) < 0 := nI_pos (by omega)
      have hhi : nI (125 * q) ≤ 1000 := (nI_leI (b := 1000) (by omega) (by decide)).mpr (by omega)
      refine lv_iload hx hb dL_isWell_416 (lv_at hl 0 rfl) ?_
      refine lv_sipush (v := 1001) hx hb dL_isWell_418 (by decide) ?_
      refine lv_icmp_ge (tgt := 478) hx hb dL_isWell_421 (by decide) (fun c_x => absurd c_x (nI_ge (a := 125 * q) (b := 1001) (by omega) (by decide))) (fun _ => ?_)
      refine lv_iload hx hb dL_isWell_424 (lv_at hl 1 rfl) ?_
      refine lv_if_eq (tgt := 469) hx hb dL_isWell_426 (by decide) (fun c_x => absurd c_x (by decide : ¬ ((1 : Int32) = 0))) (fun _ => ?_)
      refine lv_aload_n hx hb dL_isWell_429 rfl (lv_at hl 6 rfl) ?_
      refine lv_iload hx hb dL_isWell_430 (lv_at hl 0 rfl) ?_
      refine kWT (As := [.ref po, .int (nI (125 * q))]) (rest := []) ⟨hx, hb, hml, hown, hts⟩ (L_surely l D T po a k x (nI (125 * q)) hlo hhi) (vx_cwSW 2 hts gL_isWell_L_surely rfl rfl rfl (by decide +kernel) ⟨Nat.le_of_ble_eq_true rfl, Nat.le_of_ble_eq_true rfl⟩) hC hXX hZ hE hNc hP hD hS hA rfl hl.1 rfl (Nat.le_of_ble_eq_true rfl) dL_isWell_432 ⟨(by show cells ≤ 130; omega), (by show slots ≤ 780; omega)⟩ (fun H locs hP hD hS => ?_)
      have hP : va_P D vwCl (wO T po a k x ++ []) H := hP
      have hD : va_D A (wO T po a k x ++ []) := hD
      refine W.eq (g2 := F0 m 435 ls [.int (abC (qSure k.1) ((nI (125 * q)) * qSum k.1) 26)]) rfl ?_
      refine lv_aload_n hx hb dL_isWell_435 rfl (lv_at hl 6 rfl) ?_
      refine lv_iload hx hb dL_isWell_436 (lv_at hl 0 rfl) ?_
      refine kWT (As := [.ref po, .int (nI (125 * q))]) (rest := [.int (abC (qSure k.1) ((nI (125 * q)) * qSum k.1) 26)]) ⟨hx, hb, hml, hown, hts⟩ (L_truly l D T po a k x (nI (125 * q)) hlo hhi) (vx_cwSW 2 hts gL_isWell_L_truly rfl rfl rfl (by decide +kernel) ⟨Nat.le_of_ble_eq_true rfl, Nat.le_of_ble_eq_true rfl⟩) hC hXX hZ hE hNc hP hD hS hA rfl hl.1 rfl (Nat.le_of_ble_eq_true rfl) dL_isWell_438 ⟨(by show cells + 0 ≤ 130; omega), (by show slots + 0 ≤ 780; omega)⟩ (fun H locs hP hD hS => ?_)
      have hP : va_P D vwCl (wO T po a k x ++ []) H := hP
      have hD : va_D A (wO T po a k x ++ []) := hD
      refine W.eq (g2 := F0 m 441 ls [.int (abC (qT k.1) ((nI (125 * q)) * qSum k.1) 26), .int (abC (qSure k.1) ((nI (125 * q)) * qSum k.1) 26)]) rfl ?_
      refine lv_iconst (v := (-1)) hx hb dL_isWell_441 (by decide) ?_
      refine lv_ixor hx hb dL_isWell_442 ?_
      refine lv_iand hx hb dL_isWell_443 ?_
      refine lv_if_ne (tgt := 469) hx hb dL_isWell_444 (by decide) (fun c_x => absurd (f_abA hK.1 hM) c_x) (fun _ => ?_)
      refine lv_aload_n hx hb dL_isWell_447 rfl (lv_at hl 6 rfl) ?_
      refine lv_iload hx hb dL_isWell_448 (lv_at hl 0 rfl) ?_
      refine kWT (As := [.ref po, .int (nI (125 * q))]) (rest := []) ⟨hx, hb, hml, hown, hts⟩ (L_truly l D T po a k x (nI (125 * q)) hlo hhi) (vx_cwSW 2 hts gL_isWell_L_truly rfl rfl rfl (by decide +kernel) ⟨Nat.le_of_ble_eq_true rfl, Nat.le_of_ble_eq_true rfl⟩) hC hXX hZ hE hNc hP hD hS hA rfl hl.1 rfl (Nat.le_of_ble_eq_true rfl) dL_isWell_450 ⟨(by show cells + 0 + 0 ≤ 130; omega), (by show slots + 0 + 0 ≤ 780; omega)⟩ (fun H locs hP hD hS => ?_)
      have hP : va_P D vwCl (wO T po a k x ++ []) H := hP
      have hD : va_D A (wO T po a k x ++ []) := hD
      refine W.eq (g2 := F0 m 453 ls [.int (abC (qT k.1) ((nI (125 * q)) * qSum k.1) 26)]) rfl ?_
      refine lv_aload_n hx hb dL_isWell_453 rfl (lv_at hl 6 rfl) ?_
      refine lv_iload hx hb dL_isWell_454 (lv_at hl 0 rfl) ?_
      refine kWT (As := [.ref po, .int (nI (125 * q))]) (rest := [.int (abC (qT k.1) ((nI (125 * q)) * qSum k.1) 26)]) ⟨hx, hb, hml, hown, hts⟩ (L_perhaps l D T po a k x (nI (125 * q)) hlo hhi) (vx_cwSW 2 hts gL_isWell_L_perhaps rfl rfl rfl (by decide +kernel) ⟨Nat.le_of_ble_eq_true rfl, Nat.le_of_ble_eq_true rfl⟩) hC hXX hZ hE hNc hP hD hS hA rfl hl.1 rfl (Nat.le_of_ble_eq_true rfl) dL_isWell_456 ⟨(by show cells + 0 + 0 + 0 ≤ 130; omega), (by show slots + 0 + 0 + 0 ≤ 780; omega)⟩ (fun H locs hP hD hS => ?_)
      have hP : va_P D vwCl (wO T po a k x ++ []) H := hP
      have hD : va_D A (wO T po a k x ++ []) := hD
      refine W.eq (g2 := F0 m 459 ls [.int (abC (qEst k.1) ((nI (125 * q)) * qSum k.1) 26), .int (abC (qT k.1) ((nI (125 * q)) * qSum k.1) 26)]) rfl ?_
      refine lv_iconst (v := (-1)) hx hb dL_isWell_459 (by decide) ?_
      refine lv_ixor hx hb dL_isWell_460 ?_
      refine lv_iand hx hb dL_isWell_461 ?_
      refine lv_if_ne (tgt := 469) hx hb dL_isWell_462 (by decide) (fun c_x => absurd (f_abB hK.1 hM) c_x) (fun _ => ?_)
      refine lv_iconst (v := 1) hx hb dL_isWell_465 (by decide) ?_
      refine lv_goto (tgt := 470) hx hb dL_isWell_466 (by decide) ?_
      refine lv_istore (lv' := [(5, .int 1), (6, .int (nI (125 * q))), (4, .int (qGEn k.1 26)), (3, .int (smN (qC k.1) 26)), (2, .int (nI (cntN (qT k.1) 26))), (1, .int (smN (qT k.1) 26)), (0, .ref po)]) hx hb dL_isWell_470 hl (by decide) rfl (fun ls hl => ?_)
      refine lv_iinc (v := nI ((125 * q) + 125)) (lv' := [(6, .int (nI ((125 * q) + 125))), (5, .int 1), (4, .int (qGEn k.1 26)), (3, .int (smN (qC k.1) 26)), (2, .int (nI (cntN (qT k.1) 26))), (1, .int (smN (qT k.1) 26)), (0, .ref po)]) hx hb dL_isWell_472 hl (k := 1) rfl (nI_add (125 * q) 125) (by decide) rfl (fun ls hl => ?_)
      refine lv_goto (tgt := 416) hx hb dL_isWell_475 (by decide) ?_
      exact ih (q + 1) (by omega) _ _ _ _ _ hP hD hS (lv_sub hl [0, 1, 2, 3, 4, 5, 6] rfl) (by omega) (by omega)
  have loop_331 : ∀ (n9 j : Nat), j + n9 = (cntN (qC k.1) 26 - 1) → ∀ (H : Heap) (locs : List Loc) (cells slots : Nat) (ls : Array Slot), va_P D vwCl (wO T po a k x ++ []) H → va_D A (wO T po a k x ++ []) → va_S A s.heap H locs → lv_has ls 9 [(6, .int (nI (j + 1))), (5, .int 1), (4, .int (qGEn k.1 26)), (3, .int (smN (qC k.1) 26)), (2, .int (nI (cntN (qT k.1) 26))), (1, .int (smN (qT k.1) 26)), (0, .ref po)] → cells ≤ 78 + 2 * j → slots ≤ 468 + 12 * j → W p l e rL_isWell s m ([.ref po] : List Value).toArray below meth c H locs cells slots Q (F0 m 331 ls []) := by
    intro n9
    induction n9 with
    | zero =>
      intro j hi H locs cells slots ls hP hD hS hl hce hso
      have hi9 : (cntN (qC k.1) 26 - 1) = j := by omega
      subst hi9
      have hc26 := cntN_le (qC k.1) 26
      refine lv_iload hx hb dL_isWell_331 (lv_at hl 0 rfl) ?_
      refine lv_aload_n hx hb dL_isWell_333 rfl (lv_at hl 6 rfl) ?_
      refine kV (ci := 7) (As := []) (rest := [.int (nI ((cntN (qC k.1) 26 - 1) + 1))]) ⟨hx, hb, hml, hown, hts⟩ (o_counters l D T po a k x) (cwV 0 hts gL_isWell_X8_counters rfl rfl rfl (by decide +kernel) ⟨Nat.le_of_ble_eq_true rfl, Nat.le_of_ble_eq_true rfl⟩) hC hP hD hS hA rfl rfl rfl hl.1 rfl (Nat.le_of_ble_eq_true rfl) dL_isWell_334 ⟨(by show cells ≤ 130; omega), (by show slots ≤ 780; omega)⟩ (fun H locs hP hD hS => ?_)
      have hP : va_P D vwCl (wO T po a k x ++ []) H := hP
      have hD : va_D A (wO T po a k x ++ []) := hD
      refine W.eq (g2 := F0 m 337 ls [.int (qSize k.1), .int (nI ((cntN (qC k.1) 26 - 1) + 1))]) rfl ?_
      refine lv_icmp_ge (tgt := 413) hx hb dL_isWell_337 (by decide) (fun _ => ?_) (fun c_x => absurd (f_exit2 hK.1) c_x)
      refine lv_iconst (v := 0) hx hb dL_isWell_413 (by decide) ?_
      refine lv_istore (lv' := [(6, .int 0), (5, .int 1), (4, .int (qGEn k.1 26)), (3, .int (smN (qC k.1) 26)), (2, .int (nI (cntN (qT k.1) 26))), (1, .int (smN (qT k.1) 26)), (0, .ref po)]) hx hb dL_isWell_414 hl (by decide) rfl (fun ls hl => ?_)
      exact loop_416 9 0 (by omega) _ _ _ _ _ hP hD hS (lv_sub hl [0, 1, 2, 3, 4, 5, 6] rfl) (by omega) (by omega)
    | succ n9 ih =>
      intro j hi H locs cells slots ls hP hD hS hl hce hso
      have hlt : j < (cntN (qC k.1) 26 - 1) := by omega
      have hc26 := cntN_le (qC k.1) 26
      obtain ⟨p1, hp_p1, e1, hn1, ho1⟩ := pAtN_ex (qC k.1) (m := j) (by omega)
      obtain ⟨p2, hp_p2, e2, hn2, ho2⟩ := pAtN_ex (qC k.1) (m := j + 1) (by omega)
      have hah := f_ahd hp_p1 hp_p2 ho1 ho2
      refine lv_iload hx hb dL_isWell_331 (lv_at hl 0 rfl) ?_
      refine lv_aload_n hx hb dL_isWell_333 rfl (lv_at hl 6 rfl) ?_
      refine kV (ci := 7) (As := []) (rest := [.int (nI (j + 1))]) ⟨hx, hb, hml, hown, hts⟩ (o_counters l D T po a k x) (cwV 0 hts gL_isWell_X8_counters rfl rfl rfl (by decide +kernel) ⟨Nat.le_of_ble_eq_true rfl, Nat.le_of_ble_eq_true rfl⟩) hC hP hD hS hA rfl rfl rfl hl.1 rfl (Nat.le_of_ble_eq_true rfl) dL_isWell_334 ⟨(by show cells ≤ 130; omega), (by show slots ≤ 780; omega)⟩ (fun H locs hP hD hS => ?_)
      have hP : va_P D vwCl (wO T po a k x ++ []) H := hP
      have hD : va_D A (wO T po a k x ++ []) := hD
      refine W.eq (g2 := F0 m 337 ls [.int (qSize k.1), .int (nI (j + 1))]) rfl ?_
      refine lv_icmp_ge (tgt := 413) hx hb dL_isWell_337 (by decide) (fun c_x => absurd c_x (f_body2 hK.1 (by omega))) (fun _ => ?_)
      refine lv_aload_n hx hb dL_isWell_340 rfl (lv_at hl 6 rfl) ?_
      refine lv_iload hx hb dL_isWell_341 (lv_at hl 0 rfl) ?_
      refine lv_iconst (v := 1) hx hb dL_isWell_343 (by decide) ?_
      refine lv_isub hx hb dL_isWell_344 ?_
      refine W.eq (g2 := F0 m 345 ls (.int (nI j) :: [.ref po])) (congrArg (fun z => F0 m 345 ls (.int z :: [.ref po])) (nI_pred j : ((nI (j + 1)) - 1 : Int32) = nI j)) ?_
      refine kWT (As := [.ref po, .int (nI j)]) (rest := []) ⟨hx, hb, hml, hown, hts⟩ (L_loudest l D T po a k x (nI j) (nI_pos' (by omega)) (f_in hK.1 (by omega))) (vx_cwSW 2 hts gL_isWell_L_loudest rfl rfl rfl (by decide +kernel) ⟨Nat.le_of_ble_eq_true rfl, Nat.le_of_ble_eq_true rfl⟩) hC hXX hZ hE hNc hP hD hS hA rfl hl.1 rfl (Nat.le_of_ble_eq_true rfl) dL_isWell_345 ⟨(by show cells + 1 ≤ 130; omega), (by show slots + 6 ≤ 780; omega)⟩ (fun H locs hP hD hS => ?_)
      have hP : va_P D vwCl (wO T po a k x ++ []) H := hP
      have hD : va_D A (wO T po a k x ++ []) := hD
      refine W.eq (g2 := F0 m 348 ls [.int (pAtN (qC k.1) (nI j) 26 0)]) rfl ?_
      refine W.eq (g2 := F0 m 348 ls (.int (nI p1) :: [])) (congrArg (fun z => F0 m 348 ls (.int z :: [])) (e1 : (pAtN (qC k.1) (nI j) 26 0 : Int32) = nI p1)) ?_
      refine lv_istore (lv' := [(7, .int (nI p1)), (6, .int (nI (j + 1))), (5, .int 1), (4, .int (qGEn k.1 26)), (3, .int (smN (qC k.1) 26)), (2, .int (nI (cntN (qT k.1) 26))), (1, .int (smN (qT k.1) 26)), (0, .ref po)]) hx hb dL_isWell_348 hl (by decide) rfl (fun ls hl => ?_)
      refine lv_aload_n hx hb dL_isWell_350 rfl (lv_at hl 7 rfl) ?_
      refine lv_iload hx hb dL_isWell_351 (lv_at hl 1 rfl) ?_
      refine kWT (As := [.ref po, .int (nI (j + 1))]) (rest := []) ⟨hx, hb, hml, hown, hts⟩ (L_loudest l D T po a k x (nI (j + 1)) (nI_pos' (by omega)) (f_in hK.1 (by omega))) (vx_cwSW 2 hts gL_isWell_L_loudest rfl rfl rfl (by decide +kernel) ⟨Nat.le_of_ble_eq_true rfl, Nat.le_of_ble_eq_true rfl⟩) hC hXX hZ hE hNc hP hD hS hA rfl hl.1 rfl (Nat.le_of_ble_eq_true rfl) dL_isWell_353 ⟨(by show cells + 1 + 1 ≤ 130; omega), (by show slots + 6 + 6 ≤ 780; omega)⟩ (fun H locs hP hD hS => ?_)
      have hP : va_P D vwCl (wO T po a k x ++ []) H := hP
      have hD : va_D A (wO T po a k x ++ []) := hD
      refine W.eq (g2 := F0 m 356 ls [.int (pAtN (qC k.1) (nI (j + 1)) 26 0)]) rfl ?_
      refine W.eq (g2 := F0 m 356 ls (.int (nI p2) :: [])) (congrArg (fun z => F0 m 356 ls (.int z :: [])) (e2 : (pAtN (qC k.1) (nI (j + 1)) 26 0 : Int32) = nI p2)) ?_
      refine lv_istore (lv' := [(8, .int (nI p2)), (7, .int (nI p1)), (6, .int (nI (j + 1))), (5, .int 1), (4, .int (qGEn k.1 26)), (3, .int (smN (qC k.1) 26)), (2, .int (nI (cntN (qT k.1) 26))), (1, .int (smN (qT k.1) 26)), (0, .ref po)]) hx hb dL_isWell_356 hl (by decide) rfl (fun ls hl => ?_)
      refine lv_iload hx hb dL_isWell_358 (lv_at hl 3 rfl) ?_
      refine lv_if_eq (tgt := 404) hx hb dL_isWell_360 (by decide) (fun c_x => absurd c_x (by decide : ¬ ((1 : Int32) = 0))) (fun _ => ?_)
      refine lv_aload_n hx hb dL_isWell_363 rfl (lv_at hl 8 rfl) ?_
      refine lv_iload hx hb dL_isWell_364 (lv_at hl 1 rfl) ?_
      refine kWT (As := [.ref po, .int (nI p1)]) (rest := []) ⟨hx, hb, hml, hown, hts⟩ (L_estimate l D T po a k x p1 hp_p1) (vx_cwSW 2 hts gL_isWell_L_estimate rfl rfl rfl (by decide +kernel) ⟨Nat.le_of_ble_eq_true rfl, Nat.le_of_ble_eq_true rfl⟩) hC hXX hZ hE hNc hP hD hS hA rfl hl.1 rfl (Nat.le_of_ble_eq_true rfl) dL_isWell_366 ⟨(by show cells + 1 + 1 ≤ 130; omega), (by show slots + 6 + 6 ≤ 780; omega)⟩ (fun H locs hP hD hS => ?_)
      have hP : va_P D vwCl (wO T po a k x ++ []) H := hP
      have hD : va_D A (wO T po a k x ++ []) := hD
      refine W.eq (g2 := F0 m 369 ls [.int (qEst k.1 p1)]) rfl ?_
      refine lv_aload_n hx hb dL_isWell_369 rfl (lv_at hl 8 rfl) ?_
      refine lv_iload hx hb dL_isWell_370 (lv_at hl 0 rfl) ?_
      refine kWT (As := [.ref po, .int (nI p2)]) (rest := [.int (qEst k.1 p1)]) ⟨hx, hb, hml, hown, hts⟩ (L_estimate l D T po a k x p2 hp_p2) (vx_cwSW 2 hts gL_isWell_L_estimate rfl rfl rfl (by decide +kernel) ⟨Nat.le_of_ble_eq_true rfl, Nat.le_of_ble_eq_true rfl⟩) hC hXX hZ hE hNc hP hD hS hA rfl hl.1 rfl (Nat.le_of_ble_eq_true rfl) dL_isWell_372 ⟨(by show cells + 1 + 1 + 0 ≤ 130; omega), (by show slots + 6 + 6 + 0 ≤ 780; omega)⟩ (fun H locs hP hD hS => ?_)
      have hP : va_P D vwCl (wO T po a k x ++ []) H := hP
      have hD : va_D A (wO T po a k x ++ []) := hD
      refine W.eq (g2 := F0 m 375 ls [.int (qEst k.1 p2), .int (qEst k.1 p1)]) rfl ?_
      have j400 : ∀ (H : Heap) (locs : List Loc) (cells slots : Nat) (ls : Array Slot), va_P D vwCl (wO T po a k x ++ []) H → va_D A (wO T po a k x ++ []) → va_S A s.heap H locs → lv_has ls 9 [(8, .int (nI p2)), (7, .int (nI p1)), (6, .int (nI (j + 1))), (5, .int 1), (4, .int (qGEn k.1 26)), (3, .int (smN (qC k.1) 26)), (2, .int (nI (cntN (qT k.1) 26))), (1, .int (smN (qT k.1) 26)), (0, .ref po)] → cells ≤ 78 + 2 * j + 2 → slots ≤ 468 + 12 * j + 12 → W p l e rL_isWell s m ([.ref po] : List Value).toArray below meth c H locs cells slots Q (F0 m 400 ls []) := by
        intro H locs cells slots ls hP hD hS hl hce hso
        refine lv_iconst (v := 1) hx hb dL_isWell_400 (by decide) ?_
        refine lv_goto (tgt := 405) hx hb dL_isWell_401 (by decide) ?_
        refine lv_istore (lv' := [(5, .int 1), (8, .int (nI p2)), (7, .int (nI p1)), (6, .int (nI (j + 1))), (4, .int (qGEn k.1 26)), (3, .int (smN (qC k.1) 26)), (2, .int (nI (cntN (qT k.1) 26))), (1, .int (smN (qT k.1) 26)), (0, .ref po)]) hx hb dL_isWell_405 hl (by decide) rfl (fun ls hl => ?_)
        refine lv_iinc (v := nI ((j + 1) + 1)) (lv' := [(6, .int (nI ((j + 1) + 1))), (5, .int 1), (8, .int (nI p2)), (7, .int (nI p1)), (4, .int (qGEn k.1 26)), (3, .int (smN (qC k.1) 26)), (2, .int (nI (cntN (qT k.1) 26))), (1, .int (smN (qT k.1) 26)), (0, .ref po)]) hx hb dL_isWell_407 hl (k := 3) rfl (nI_1 (j + 1)) (by decide) rfl (fun ls hl => ?_)
        refine lv_goto (tgt := 331) hx hb dL_isWell_410 (by decide) ?_
        exact ih (j + 1) (by omega) _ _ _ _ _ hP hD hS (lv_sub hl [0, 1, 4, 5, 6, 7, 8] rfl) (by omega) (by omega)
      refine lv_icmp_gt (tgt := 400) hx hb dL_isWell_375 (by decide) (fun c375 => ?_) (fun c375 => ?_)
      · skip
        exact j400 _ _ _ _ _ hP hD hS (lv_sub hl [0, 1, 2, 3, 4, 5, 6, 7, 8] rfl) (by omega) (by omega)
      · skip
        refine lv_aload_n hx hb dL_isWell_378 rfl (lv_at hl 8 rfl) ?_
        refine lv_iload hx hb dL_isWell_379 (lv_at hl 1 rfl) ?_
        refine kWT (As := [.ref po, .int (nI p1)]) (rest := []) ⟨hx, hb, hml, hown, hts⟩ (L_estimate l D T po a k x p1 hp_p1) (vx_cwSW 2 hts gL_isWell_L_estimate rfl rfl rfl (by decide +kernel) ⟨Nat.le_of_ble_eq_true rfl, Nat.le_of_ble_eq_true rfl⟩) hC hXX hZ hE hNc hP hD hS hA rfl hl.1 rfl (Nat.le_of_ble_eq_true rfl) dL_isWell_381 ⟨(by show cells + 1 + 1 + 0 + 0 ≤ 130; omega), (by show slots + 6 + 6 + 0 + 0 ≤ 780; omega)⟩ (fun H locs hP hD hS => ?_)
        have hP : va_P D vwCl (wO T po a k x ++ []) H := hP
        have hD : va_D A (wO T po a k x ++ []) := hD
        refine W.eq (g2 := F0 m 384 ls [.int (qEst k.1 p1)]) rfl ?_
        refine lv_aload_n hx hb dL_isWell_384 rfl (lv_at hl 8 rfl) ?_
        refine lv_iload hx hb dL_isWell_385 (lv_at hl 0 rfl) ?_
        refine kWT (As := [.ref po, .int (nI p2)]) (rest := [.int (qEst k.1 p1)]) ⟨hx, hb, hml, hown, hts⟩ (L_estimate l D T po a k x p2 hp_p2) (vx_cwSW 2 hts gL_isWell_L_estimate rfl rfl rfl (by decide +kernel) ⟨Nat.le_of_ble_eq_true rfl, Nat.le_of_ble_eq_true rfl⟩) hC hXX hZ hE hNc hP hD hS hA rfl hl.1 rfl (Nat.le_of_ble_eq_true rfl) dL_isWell_387 ⟨(by show cells + 1 + 1 + 0 + 0 + 0 ≤ 130; omega), (by show slots + 6 + 6 + 0 + 0 + 0 ≤ 780; omega)⟩ (fun H locs hP hD hS => ?_)
        have hP : va_P D vwCl (wO T po a k x ++ []) H := hP
        have hD : va_D A (wO T po a k x ++ []) := hD
        refine W.eq (g2 := F0 m 390 ls [.int (qEst k.1 p2), .int (qEst k.1 p1)]) rfl ?_
        refine lv_icmp_ne (tgt := 404) hx hb dL_isWell_390 (by decide) (fun c_x => absurd (f_loud1 hn1 hn2 hah c375) c_x) (fun _ => ?_)
        refine lv_iload hx hb dL_isWell_393 (lv_at hl 1 rfl) ?_
        refine lv_iload hx hb dL_isWell_395 (lv_at hl 0 rfl) ?_
        refine lv_icmp_ge (tgt := 404) hx hb dL_isWell_397 (by decide) (fun c_x => absurd c_x (f_loud2 hp_p1 hp_p2 hn1 hn2 hah c375)) (fun _ => ?_)
        exact j400 _ _ _ _ _ hP hD hS (lv_sub hl [0, 1, 2, 3, 4, 5, 6, 7, 8] rfl) (by omega) (by omega)
  have loop_74 : ∀ (n9 i : Nat), i + n9 = 26 → ∀ (H : Heap) (locs : List Loc) (cells slots : Nat) (ls : Array Slot), va_P D vwCl (wO T po a k x ++ []) H → va_D A (wO T po a k x ++ []) → va_S A s.heap H locs → lv_has ls 9 [(6, .int (nI i)), (5, .int 1), (4, .int (qGEn k.1 i)), (3, .int (smN (qC k.1) i)), (2, .int (nI (cntN (qT k.1) i))), (1, .int (smN (qT k.1) i)), (0, .ref po)] → cells ≤ 3 * i → slots ≤ 18 * i → W p l e rL_isWell s m ([.ref po] : List Value).toArray below meth c H locs cells slots Q (F0 m 74 ls []) := by
    intro n9
    induction n9 with
    | zero =>
      intro i hi H locs cells slots ls hP hD hS hl hce hso
      have hi9 : 26 = i := by omega
      subst hi9
      refine lv_iload hx hb dL_isWell_74 (lv_at hl 0 rfl) ?_
      refine lv_bipush (v := 26) hx hb dL_isWell_76 (by decide) ?_
      refine lv_icmp_ge (tgt := 328) hx hb dL_isWell_78 (by decide) (fun _ => ?_) (fun c_x => absurd (by decide : ((26 : Int32) ≤ (nI 26))) c_x)
      refine lv_iconst (v := 1) hx hb dL_isWell_328 (by decide) ?_
      refine lv_istore (lv' := [(6, .int 1), (5, .int 1), (4, .int (qGEn k.1 26)), (3, .int (smN (qC k.1) 26)), (2, .int (nI (cntN (qT k.1) 26))), (1, .int (smN (qT k.1) 26)), (0, .ref po)]) hx hb dL_isWell_329 hl (by decide) rfl (fun ls hl => ?_)
      exact loop_331 (cntN (qC k.1) 26 - 1) 0 (by omega) _ _ _ _ _ hP hD hS (lv_sub hl [0, 1, 2, 3, 4, 5, 6] rfl) (by omega) (by omega)
    | succ n9 ih =>
      intro i hi H locs cells slots ls hP hD hS hl hce hso
      have hlt : i < 26 := by omega
      have hp : i < 26 := hlt
      refine lv_iload hx hb dL_isWell_74 (lv_at hl 0 rfl) ?_
      refine lv_bipush (v := 26) hx hb dL_isWell_76 (by decide) ?_
      refine lv_icmp_ge (tgt := 328) hx hb dL_isWell_78 (by decide) (fun c_x => absurd c_x (nI_ge (a := i) (b := 26) (by omega) (by decide))) (fun _ => ?_)
      refine lv_aload_n hx hb dL_isWell_81 rfl (lv_at hl 6 rfl) ?_
      refine lv_iload hx hb dL_isWell_82 (lv_at hl 0 rfl) ?_
      refine kWT (As := [.ref po, .int (nI i)]) (rest := []) ⟨hx, hb, hml, hown, hts⟩ (L_count l D T po a k x i hp) (vx_cwSW 2 hts gL_isWell_L_count rfl rfl rfl (by decide +kernel) ⟨Nat.le_of_ble_eq_true rfl, Nat.le_of_ble_eq_true rfl⟩) hC hXX hZ hE hNc hP hD hS hA rfl hl.1 rfl (Nat.le_of_ble_eq_true rfl) dL_isWell_84 ⟨(by show cells ≤ 130; omega), (by show slots ≤ 780; omega)⟩ (fun H locs hP hD hS => ?_)
      have hP : va_P D vwCl (wO T po a k x ++ []) H := hP
      have hD : va_D A (wO T po a k x ++ []) := hD
      refine W.eq (g2 := F0 m 87 ls [.int (qT k.1 i)]) rfl ?_
      refine lv_istore (lv' := [(7, .int (qT k.1 i)), (6, .int (nI i)), (5, .int 1), (4, .int (qGEn k.1 i)), (3, .int (smN (qC k.1) i)), (2, .int (nI (cntN (qT k.1) i))), (1, .int (smN (qT k.1) i)), (0, .ref po)]) hx hb dL_isWell_87 hl (by decide) rfl (fun ls hl => ?_)
      refine lv_iload_n hx hb dL_isWell_89 rfl (lv_at hl 6 rfl) ?_
      refine lv_iload hx hb dL_isWell_90 (lv_at hl 0 rfl) ?_
      refine lv_iadd hx hb dL_isWell_92 ?_
      refine W.eq (g2 := F0 m 93 ls (.int (smN (qT k.1) (i + 1)) :: [])) (congrArg (fun z => F0 m 93 ls (.int z :: [])) (rfl : ((smN (qT k.1) i) + (qT k.1 i) : Int32) = smN (qT k.1) (i + 1))) ?_
      refine lv_istore_n (lv' := [(1, .int (smN (qT k.1) (i + 1))), (7, .int (qT k.1 i)), (6, .int (nI i)), (5, .int 1), (4, .int (qGEn k.1 i)), (3, .int (smN (qC k.1) i)), (2, .int (nI (cntN (qT k.1) i))), (0, .ref po)]) hx hb dL_isWell_93 rfl hl (by decide) rfl (fun ls hl => ?_)
      refine lv_iload_n hx hb dL_isWell_94 rfl (lv_at hl 6 rfl) ?_
      refine lv_iload hx hb dL_isWell_95 (lv_at hl 1 rfl) ?_
      have j106 : ∀ (H : Heap) (locs : List Loc) (cells slots : Nat) (ls : Array Slot), va_P D vwCl (wO T po a k x ++ []) H → va_D A (wO T po a k x ++ []) → va_S A s.heap H locs → lv_has ls 9 [(1, .int (smN (qT k.1) (i + 1))), (7, .int (qT k.1 i)), (6, .int (nI i)), (5, .int 1), (4, .int (qGEn k.1 i)), (3, .int (smN (qC k.1) i)), (2, .int (nI (cntN (qT k.1) i))), (0, .ref po)] → cells ≤ 3 * i → slots ≤ 18 * i → W p l e rL_isWell s m ([.ref po] : List Value).toArray below meth c H locs cells slots Q (F0 m 106 ls [.int (nI (cntN (qT k.1) (i + 1)))]) := by
        intro H locs cells slots ls hP hD hS hl hce hso
        refine lv_istore_n (lv' := [(2, .int (nI (cntN (qT k.1) (i + 1)))), (1, .int (smN (qT k.1) (i + 1))), (7, .int (qT k.1 i)), (6, .int (nI i)), (5, .int 1), (4, .int (qGEn k.1 i)), (3, .int (smN (qC k.1) i)), (0, .ref po)]) hx hb dL_isWell_106 rfl hl (by decide) rfl (fun ls hl => ?_)
        refine lv_iload_n hx hb dL_isWell_107 rfl (lv_at hl 6 rfl) ?_
        refine lv_aload_n hx hb dL_isWell_108 rfl (lv_at hl 7 rfl) ?_
        refine lv_iload hx hb dL_isWell_109 (lv_at hl 3 rfl) ?_
        refine kWT (As := [.ref po, .int (nI i)]) (rest := [.int (smN (qC k.1) i)]) ⟨hx, hb, hml, hown, hts⟩ (L_surplusA l D T po a k x i hst9 hp) (vx_cwSW 2 hts gL_isWell_L_surplus rfl rfl rfl (by decide +kernel) ⟨Nat.le_of_ble_eq_true rfl, Nat.le_of_ble_eq_true rfl⟩) hC hXX hZ hE hNc hP hD hS hA rfl hl.1 rfl (Nat.le_of_ble_eq_true rfl) dL_isWell_111 ⟨(by show cells + 1 ≤ 130; omega), (by show slots + 6 ≤ 780; omega)⟩ (fun H locs hP hD hS => ?_)
        have hP : va_P D vwCl (wO T po a k x ++ []) H := hP
        have hD : va_D A (wO T po a k x ++ []) := hD
        refine W.eq (g2 := F0 m 114 ls [.int (qSur k.1 i), .int (smN (qC k.1) i)]) rfl ?_
        refine lv_ldc (v := 900002) hx hb hown (hts (.constant RL 20 900002) (List.mem_of_getElem? (i := 1) rfl)) dL_isWell_114 ?_
        have j130 : ∀ (H : Heap) (locs : List Loc) (cells slots : Nat) (ls : Array Slot), va_P D vwCl (wO T po a k x ++ []) H → va_D A (wO T po a k x ++ []) → va_S A s.heap H locs → lv_has ls 9 [(2, .int (nI (cntN (qT k.1) (i + 1)))), (1, .int (smN (qT k.1) (i + 1))), (7, .int (qT k.1 i)), (6, .int (nI i)), (5, .int 1), (4, .int (qGEn k.1 i)), (3, .int (smN (qC k.1) i)), (0, .ref po)] → cells ≤ 3 * i + 1 → slots ≤ 18 * i + 6 → W p l e rL_isWell s m ([.ref po] : List Value).toArray below meth c H locs cells slots Q (F0 m 130 ls [.int (smN (qC k.1) (i + 1))]) := by
          intro H locs cells slots ls hP hD hS hl hce hso
          refine lv_istore_n (lv' := [(3, .int (smN (qC k.1) (i + 1))), (2, .int (nI (cntN (qT k.1) (i + 1)))), (1, .int (smN (qT k.1) (i + 1))), (7, .int (qT k.1 i)), (6, .int (nI i)), (5, .int 1), (4, .int (qGEn k.1 i)), (0, .ref po)]) hx hb dL_isWell_130 rfl hl (by decide) rfl (fun ls hl => ?_)
          refine lv_aload_n hx hb dL_isWell_131 rfl (lv_at hl 7 rfl) ?_
          refine lv_iload hx hb dL_isWell_132 (lv_at hl 4 rfl) ?_
          refine kWT (As := [.ref po, .int (nI i)]) (rest := []) ⟨hx, hb, hml, hown, hts⟩ (L_estimate l D T po a k x i hp) (vx_cwSW 2 hts gL_isWell_L_estimate rfl rfl rfl (by decide +kernel) ⟨Nat.le_of_ble_eq_true rfl, Nat.le_of_ble_eq_true rfl⟩) hC hXX hZ hE hNc hP hD hS hA rfl hl.1 rfl (Nat.le_of_ble_eq_true rfl) dL_isWell_134 ⟨(by show cells ≤ 130; omega), (by show slots ≤ 780; omega)⟩ (fun H locs hP hD hS => ?_)
          have hP : va_P D vwCl (wO T po a k x ++ []) H := hP
          have hD : va_D A (wO T po a k x ++ []) := hD
          refine W.eq (g2 := F0 m 137 ls [.int (qEst k.1 i)]) rfl ?_
          refine lv_iload hx hb dL_isWell_137 (lv_at hl 3 rfl) ?_
          refine lv_isub hx hb dL_isWell_139 ?_
          refine lv_iload hx hb dL_isWell_140 (lv_at hl 6 rfl) ?_
          have j159 : ∀ (H : Heap) (locs : List Loc) (cells slots : Nat) (ls : Array Slot), va_P D vwCl (wO T po a k x ++ []) H → va_D A (wO T po a k x ++ []) → va_S A s.heap H locs → lv_has ls 9 [(3, .int (smN (qC k.1) (i + 1))), (2, .int (nI (cntN (qT k.1) (i + 1)))), (1, .int (smN (qT k.1) (i + 1))), (7, .int (qT k.1 i)), (6, .int (nI i)), (5, .int 1), (4, .int (qGEn k.1 i)), (0, .ref po)] → cells ≤ 3 * i + 1 → slots ≤ 18 * i + 6 → W p l e rL_isWell s m ([.ref po] : List Value).toArray below meth c H locs cells slots Q (F0 m 159 ls [.int (qGEn k.1 (i + 1))]) := by
            intro H locs cells slots ls hP hD hS hl hce hso
            refine lv_istore (lv' := [(4, .int (qGEn k.1 (i + 1))), (3, .int (smN (qC k.1) (i + 1))), (2, .int (nI (cntN (qT k.1) (i + 1)))), (1, .int (smN (qT k.1) (i + 1))), (7, .int (qT k.1 i)), (6, .int (nI i)), (5, .int 1), (0, .ref po)]) hx hb dL_isWell_159 hl (by decide) rfl (fun ls hl => ?_)
            refine lv_iload hx hb dL_isWell_161 (lv_at hl 6 rfl) ?_
            refine lv_if_eq (tgt := 319) hx hb dL_isWell_163 (by decide) (fun c_x => absurd c_x (by decide : ¬ ((1 : Int32) = 0))) (fun _ => ?_)
            refine lv_aload_n hx hb dL_isWell_166 rfl (lv_at hl 7 rfl) ?_
            refine lv_iload hx hb dL_isWell_167 (lv_at hl 5 rfl) ?_
            refine kWT (As := [.ref po, .int (nI i)]) (rest := []) ⟨hx, hb, hml, hown, hts⟩ (L_sure l D T po a k x i hp) (vx_cwSW 2 hts gL_isWell_L_sure rfl rfl rfl (by decide +kernel) ⟨Nat.le_of_ble_eq_true rfl, Nat.le_of_ble_eq_true rfl⟩) hC hXX hZ hE hNc hP hD hS hA rfl hl.1 rfl (Nat.le_of_ble_eq_true rfl) dL_isWell_169 ⟨(by show cells ≤ 130; omega), (by show slots ≤ 780; omega)⟩ (fun H locs hP hD hS => ?_)
            have hP : va_P D vwCl (wO T po a k x ++ []) H := hP
            have hD : va_D A (wO T po a k x ++ []) := hD
            refine W.eq (g2 := F0 m 172 ls [.int (qSure k.1 i)]) rfl ?_
            refine lv_if_lt (tgt := 319) hx hb dL_isWell_172 (by decide) (fun c_x => absurd c_x (f_sure1 hK.1 hM hp)) (fun _ => ?_)
            refine lv_aload_n hx hb dL_isWell_175 rfl (lv_at hl 7 rfl) ?_
            refine lv_iload hx hb dL_isWell_176 (lv_at hl 5 rfl) ?_
            refine kWT (As := [.ref po, .int (nI i)]) (rest := []) ⟨hx, hb, hml, hown, hts⟩ (L_sure l D T po a k x i hp) (vx_cwSW 2 hts gL_isWell_L_sure rfl rfl rfl (by decide +kernel) ⟨Nat.le_of_ble_eq_true rfl, Nat.le_of_ble_eq_true rfl⟩) hC hXX hZ hE hNc hP hD hS hA rfl hl.1 rfl (Nat.le_of_ble_eq_true rfl) dL_isWell_178 ⟨(by show cells + 0 ≤ 130; omega), (by show slots + 0 ≤ 780; omega)⟩ (fun H locs hP hD hS => ?_)
            have hP : va_P D vwCl (wO T po a k x ++ []) H := hP
            have hD : va_D A (wO T po a k x ++ []) := hD
            refine W.eq (g2 := F0 m 181 ls [.int (qSure k.1 i)]) rfl ?_
            refine lv_iload hx hb dL_isWell_181 (lv_at hl 4 rfl) ?_
            refine lv_icmp_gt (tgt := 319) hx hb dL_isWell_183 (by decide) (fun c_x => absurd c_x (f_sure2 hK.1 hM hp)) (fun _ => ?_)
            refine lv_aload_n hx hb dL_isWell_186 rfl (lv_at hl 7 rfl) ?_
            refine lv_iload hx hb dL_isWell_187 (lv_at hl 5 rfl) ?_
            refine kWT (As := [.ref po, .int (nI i)]) (rest := []) ⟨hx, hb, hml, hown, hts⟩ (L_estimate l D T po a k x i hp) (vx_cwSW 2 hts gL_isWell_L_estimate rfl rfl rfl (by decide +kernel) ⟨Nat.le_of_ble_eq_true rfl, Nat.le_of_ble_eq_true rfl⟩) hC hXX hZ hE hNc hP hD hS hA rfl hl.1 rfl (Nat.le_of_ble_eq_true rfl) dL_isWell_189 ⟨(by show cells + 0 + 0 ≤ 130; omega), (by show slots + 0 + 0 ≤ 780; omega)⟩ (fun H locs hP hD hS => ?_)
            have hP : va_P D vwCl (wO T po a k x ++ []) H := hP
            have hD : va_D A (wO T po a k x ++ []) := hD
            refine W.eq (g2 := F0 m 192 ls [.int (qEst k.1 i)]) rfl ?_
            refine lv_iload hx hb dL_isWell_192 (lv_at hl 4 rfl) ?_
            refine lv_icmp_lt (tgt := 319) hx hb dL_isWell_194 (by decide) (fun c_x => absurd c_x (f_est2 hK.1 hM hp)) (fun _ => ?_)
            refine lv_aload_n hx hb dL_isWell_197 rfl (lv_at hl 7 rfl) ?_
            refine lv_iload hx hb dL_isWell_198 (lv_at hl 5 rfl) ?_
            refine kWT (As := [.ref po, .int (nI i)]) (rest := []) ⟨hx, hb, hml, hown, hts⟩ (L_estimate l D T po a k x i hp) (vx_cwSW 2 hts gL_isWell_L_estimate rfl rfl rfl (by decide +kernel) ⟨Nat.le_of_ble_eq_true rfl, Nat.le_of_ble_eq_true rfl⟩) hC hXX hZ hE hNc hP hD hS hA rfl hl.1 rfl (Nat.le_of_ble_eq_true rfl) dL_isWell_200 ⟨(by show cells + 0 + 0 + 0 ≤ 130; omega), (by show slots + 0 + 0 + 0 ≤ 780; omega)⟩ (fun H locs hP hD hS => ?_)
            have hP : va_P D vwCl (wO T po a k x ++ []) H := hP
            have hD : va_D A (wO T po a k x ++ []) := hD
            refine W.eq (g2 := F0 m 203 ls [.int (qEst k.1 i)]) rfl ?_
            refine lv_aload_n hx hb dL_isWell_203 rfl (lv_at hl 7 rfl) ?_
            refine kV (ci := 7) (As := []) (rest := [.int (qEst k.1 i)]) ⟨hx, hb, hml, hown, hts⟩ (o_floor l D T po a k x) (cwV 0 hts gL_isWell_X8_floor rfl rfl rfl (by decide +kernel) ⟨Nat.le_of_ble_eq_true rfl, Nat.le_of_ble_eq_true rfl⟩) hC hP hD hS hA rfl rfl rfl hl.1 rfl (Nat.le_of_ble_eq_true rfl) dL_isWell_204 ⟨(by show cells + 0 + 0 + 0 + 0 ≤ 130; omega), (by show slots + 0 + 0 + 0 + 0 ≤ 780; omega)⟩ (fun H locs hP hD hS => ?_)
            have hP : va_P D vwCl (wO T po a k x ++ []) H := hP
            have hD : va_D A (wO T po a k x ++ []) := hD
            refine W.eq (g2 := F0 m 207 ls [.int (qLeast k.1), .int (qEst k.1 i)]) rfl ?_
            refine lv_icmp_lt (tgt := 319) hx hb dL_isWell_207 (by decide) (fun c_x => absurd c_x (f_est3 hK.1 hM hp)) (fun _ => ?_)
            refine lv_aload_n hx hb dL_isWell_210 rfl (lv_at hl 7 rfl) ?_
            refine lv_iload hx hb dL_isWell_211 (lv_at hl 5 rfl) ?_
            refine kWT (As := [.ref po, .int (nI i)]) (rest := []) ⟨hx, hb, hml, hown, hts⟩ (L_above l D T po a k x i hp) (vx_cwSW 2 hts gL_isWell_L_above rfl rfl rfl (by decide +kernel) ⟨Nat.le_of_ble_eq_true rfl, Nat.le_of_ble_eq_true rfl⟩) hC hXX hZ hE hNc hP hD hS hA rfl hl.1 rfl (Nat.le_of_ble_eq_true rfl) dL_isWell_213 ⟨(by show cells + 0 + 0 + 0 + 0 ≤ 130; omega), (by show slots + 0 + 0 + 0 + 0 ≤ 780; omega)⟩ (fun H locs hP hD hS => ?_)
            have hP : va_P D vwCl (wO T po a k x ++ []) H := hP
            have hD : va_D A (wO T po a k x ++ []) := hD
            refine W.eq (g2 := F0 m 216 ls [.int (qEst k.1 i - qLeast k.1)]) rfl ?_
            refine lv_aload_n hx hb dL_isWell_216 rfl (lv_at hl 7 rfl) ?_
            refine lv_iload hx hb dL_isWell_217 (lv_at hl 5 rfl) ?_
            refine kWT (As := [.ref po, .int (nI i)]) (rest := [.int (qEst k.1 i - qLeast k.1)]) ⟨hx, hb, hml, hown, hts⟩ (L_estimate l D T po a k x i hp) (vx_cwSW 2 hts gL_isWell_L_estimate rfl rfl rfl (by decide +kernel) ⟨Nat.le_of_ble_eq_true rfl, Nat.le_of_ble_eq_true rfl⟩) hC hXX hZ hE hNc hP hD hS hA rfl hl.1 rfl (Nat.le_of_ble_eq_true rfl) dL_isWell_219 ⟨(by show cells + 0 + 0 + 0 + 0 + 0 ≤ 130; omega), (by show slots + 0 + 0 + 0 + 0 + 0 ≤ 780; omega)⟩ (fun H locs hP hD hS => ?_)
            have hP : va_P D vwCl (wO T po a k x ++ []) H := hP
            have hD : va_D A (wO T po a k x ++ []) := hD
            refine W.eq (g2 := F0 m 222 ls [.int (qEst k.1 i), .int (qEst k.1 i - qLeast k.1)]) rfl ?_
            refine lv_aload_n hx hb dL_isWell_222 rfl (lv_at hl 7 rfl) ?_
            refine kV (ci := 7) (As := []) (rest := [.int (qEst k.1 i), .int (qEst k.1 i - qLeast k.1)]) ⟨hx, hb, hml, hown, hts⟩ (o_floor l D T po a k x) (cwV 0 hts gL_isWell_X8_floor rfl rfl rfl (by decide +kernel) ⟨Nat.le_of_ble_eq_true rfl, Nat.le_of_ble_eq_true rfl⟩) hC hP hD hS hA rfl rfl rfl hl.1 rfl (Nat.le_of_ble_eq_true rfl) dL_isWell_223 ⟨(by show cells + 0 + 0 + 0 + 0 + 0 + 0 ≤ 130; omega), (by show slots + 0 + 0 + 0 + 0 + 0 + 0 ≤ 780; omega)⟩ (fun H locs hP hD hS => ?_)
            have hP : va_P D vwCl (wO T po a k x ++ []) H := hP
            have hD : va_D A (wO T po a k x ++ []) := hD
            refine W.eq (g2 := F0 m 226 ls [.int (qLeast k.1), .int (qEst k.1 i), .int (qEst k.1 i - qLeast k.1)]) rfl ?_
            refine lv_isub hx hb dL_isWell_226 ?_
            refine lv_icmp_ne (tgt := 319) hx hb dL_isWell_227 (by decide) (fun c_x => absurd rfl c_x) (fun _ => ?_)
            refine lv_aload_n hx hb dL_isWell_230 rfl (lv_at hl 7 rfl) ?_
            refine lv_iload hx hb dL_isWell_231 (lv_at hl 5 rfl) ?_
            refine kWT (As := [.ref po, .int (nI i)]) (rest := []) ⟨hx, hb, hml, hown, hts⟩ (L_surplusA l D T po a k x i hst9 hp) (vx_cwSW 2 hts gL_isWell_L_surplus rfl rfl rfl (by decide +kernel) ⟨Nat.le_of_ble_eq_true rfl, Nat.le_of_ble_eq_true rfl⟩) hC hXX hZ hE hNc hP hD hS hA rfl hl.1 rfl (Nat.le_of_ble_eq_true rfl) dL_isWell_233 ⟨(by show cells + 0 + 0 + 0 + 0 + 0 + 0 + 1 ≤ 130; omega), (by show slots + 0 + 0 + 0 + 0 + 0 + 0 + 6 ≤ 780; omega)⟩ (fun H locs hP hD hS => ?_)
            have hP : va_P D vwCl (wO T po a k x ++ []) H := hP
            have hD : va_D A (wO T po a k x ++ []) := hD
            refine W.eq (g2 := F0 m 236 ls [.int (qSur k.1 i)]) rfl ?_
            refine lv_ldc (v := 900002) hx hb hown (hts (.constant RL 20 900002) (List.mem_of_getElem? (i := 1) rfl)) dL_isWell_236 ?_
            have j288 : ∀ (H : Heap) (locs : List Loc) (cells slots : Nat) (ls : Array Slot), va_P D vwCl (wO T po a k x ++ []) H → va_D A (wO T po a k x ++ []) → va_S A s.heap H locs → lv_has ls 9 [(4, .int (qGEn k.1 (i + 1))), (3, .int (smN (qC k.1) (i + 1))), (2, .int (nI (cntN (qT k.1) (i + 1)))), (1, .int (smN (qT k.1) (i + 1))), (7, .int (qT k.1 i)), (6, .int (nI i)), (5, .int 1), (0, .ref po)] → cells ≤ 3 * i + 3 → slots ≤ 18 * i + 18 → W p l e rL_isWell s m ([.ref po] : List Value).toArray below meth c H locs cells slots Q (F0 m 288 ls []) := by
              intro H locs cells slots ls hP hD hS hl hce hso
              refine lv_aload_n hx hb dL_isWell_288 rfl (lv_at hl 7 rfl) ?_
              refine lv_iload hx hb dL_isWell_289 (lv_at hl 5 rfl) ?_
              refine kWT (As := [.ref po, .int (nI i)]) (rest := []) ⟨hx, hb, hml, hown, hts⟩ (L_worn l D T po a k x i hp) (vx_cwSW 2 hts gL_isWell_L_worn rfl rfl rfl (by decide +kernel) ⟨Nat.le_of_ble_eq_true rfl, Nat.le_of_ble_eq_true rfl⟩) hC hXX hZ hE hNc hP hD hS hA rfl hl.1 rfl (Nat.le_of_ble_eq_true rfl) dL_isWell_291 ⟨(by show cells ≤ 130; omega), (by show slots ≤ 780; omega)⟩ (fun H locs hP hD hS => ?_)
              have hP : va_P D vwCl (wO T po a k x ++ []) H := hP
              have hD : va_D A (wO T po a k x ++ []) := hD
              refine W.eq (g2 := F0 m 294 ls [.int (qW k.1 i)]) rfl ?_
              refine lv_iload hx hb dL_isWell_294 (lv_at hl 4 rfl) ?_
              refine lv_icmp_gt (tgt := 319) hx hb dL_isWell_296 (by decide) (fun c_x => absurd c_x (f_worn1 hK.1 hp)) (fun _ => ?_)
              refine lv_iload hx hb dL_isWell_299 (lv_at hl 4 rfl) ?_
              refine lv_aload_n hx hb dL_isWell_301 rfl (lv_at hl 7 rfl) ?_
              refine lv_iload hx hb dL_isWell_302 (lv_at hl 5 rfl) ?_
              refine kWT (As := [.ref po, .int (nI i)]) (rest := [.int (qT k.1 i)]) ⟨hx, hb, hml, hown, hts⟩ (L_worn l D T po a k x i hp) (vx_cwSW 2 hts gL_isWell_L_worn rfl rfl rfl (by decide +kernel) ⟨Nat.le_of_ble_eq_true rfl, Nat.le_of_ble_eq_true rfl⟩) hC hXX hZ hE hNc hP hD hS hA rfl hl.1 rfl (Nat.le_of_ble_eq_true rfl) dL_isWell_304 ⟨(by show cells + 0 ≤ 130; omega), (by show slots + 0 ≤ 780; omega)⟩ (fun H locs hP hD hS => ?_)
              have hP : va_P D vwCl (wO T po a k x ++ []) H := hP
              have hD : va_D A (wO T po a k x ++ []) := hD
              refine W.eq (g2 := F0 m 307 ls [.int (qW k.1 i), .int (qT k.1 i)]) rfl ?_
              refine lv_aload_n hx hb dL_isWell_307 rfl (lv_at hl 7 rfl) ?_
              refine kV (ci := 7) (As := []) (rest := [.int (qW k.1 i), .int (qT k.1 i)]) ⟨hx, hb, hml, hown, hts⟩ (o_wear l D T po a k x) (cwV 0 hts gL_isWell_X8_wear rfl rfl rfl (by decide +kernel) ⟨Nat.le_of_ble_eq_true rfl, Nat.le_of_ble_eq_true rfl⟩) hC hP hD hS hA rfl rfl rfl hl.1 rfl (Nat.le_of_ble_eq_true rfl) dL_isWell_308 ⟨(by show cells + 0 + 0 ≤ 130; omega), (by show slots + 0 + 0 ≤ 780; omega)⟩ (fun H locs hP hD hS => ?_)
              have hP : va_P D vwCl (wO T po a k x ++ []) H := hP
              have hD : va_D A (wO T po a k x ++ []) := hD
              refine W.eq (g2 := F0 m 311 ls [.int (qWear k.1), .int (qW k.1 i), .int (qT k.1 i)]) rfl ?_
              refine lv_iadd hx hb dL_isWell_311 ?_
              refine lv_icmp_gt (tgt := 319) hx hb dL_isWell_312 (by decide) (fun c_x => absurd c_x (f_worn2 hK.1 hM hp)) (fun _ => ?_)
              refine lv_iconst (v := 1) hx hb dL_isWell_315 (by decide) ?_
              refine lv_goto (tgt := 320) hx hb dL_isWell_316 (by decide) ?_
              refine lv_istore (lv' := [(5, .int 1), (4, .int (qGEn k.1 (i + 1))), (3, .int (smN (qC k.1) (i + 1))), (2, .int (nI (cntN (qT k.1) (i + 1)))), (1, .int (smN (qT k.1) (i + 1))), (7, .int (qT k.1 i)), (6, .int (nI i)), (0, .ref po)]) hx hb dL_isWell_320 hl (by decide) rfl (fun ls hl => ?_)
              refine lv_iinc (v := nI (i + 1)) (lv' := [(6, .int (nI (i + 1))), (5, .int 1), (4, .int (qGEn k.1 (i + 1))), (3, .int (smN (qC k.1) (i + 1))), (2, .int (nI (cntN (qT k.1) (i + 1)))), (1, .int (smN (qT k.1) (i + 1))), (7, .int (qT k.1 i)), (0, .ref po)]) hx hb dL_isWell_322 hl (k := 6) rfl (nI_1 i) (by decide) rfl (fun ls hl => ?_)
              refine lv_goto (tgt := 74) hx hb dL_isWell_325 (by decide) ?_
              exact ih (i + 1) (by omega) _ _ _ _ _ hP hD hS (lv_sub hl [0, 1, 2, 3, 4, 5, 7] rfl) (by omega) (by omega)
            refine lv_icmp_ne (tgt := 266) hx hb dL_isWell_238 (by decide) (fun c238 => ?_) (fun c238 => ?_)
            · skip
              refine lv_aload_n hx hb dL_isWell_266 rfl (lv_at hl 7 rfl) ?_
              refine lv_iload hx hb dL_isWell_267 (lv_at hl 5 rfl) ?_
              refine kWT (As := [.ref po, .int (nI i)]) (rest := []) ⟨hx, hb, hml, hown, hts⟩ (L_sure l D T po a k x i hp) (vx_cwSW 2 hts gL_isWell_L_sure rfl rfl rfl (by decide +kernel) ⟨Nat.le_of_ble_eq_true rfl, Nat.le_of_ble_eq_true rfl⟩) hC hXX hZ hE hNc hP hD hS hA rfl hl.1 rfl (Nat.le_of_ble_eq_true rfl) dL_isWell_269 ⟨(by show cells + 0 + 0 + 0 + 0 + 0 + 0 + 1 ≤ 130; omega), (by show slots + 0 + 0 + 0 + 0 + 0 + 0 + 6 ≤ 780; omega)⟩ (fun H locs hP hD hS => ?_)
              have hP : va_P D vwCl (wO T po a k x ++ []) H := hP
              have hD : va_D A (wO T po a k x ++ []) := hD
              refine W.eq (g2 := F0 m 272 ls [.int (qSure k.1 i)]) rfl ?_
              refine lv_aload_n hx hb dL_isWell_272 rfl (lv_at hl 7 rfl) ?_
              refine lv_iload hx hb dL_isWell_273 (lv_at hl 5 rfl) ?_
              refine kWT (As := [.ref po, .int (nI i)]) (rest := [.int (qSure k.1 i)]) ⟨hx, hb, hml, hown, hts⟩ (L_estimate l D T po a k x i hp) (vx_cwSW 2 hts gL_isWell_L_estimate rfl rfl rfl (by decide +kernel) ⟨Nat.le_of_ble_eq_true rfl, Nat.le_of_ble_eq_true rfl⟩) hC hXX hZ hE hNc hP hD hS hA rfl hl.1 rfl (Nat.le_of_ble_eq_true rfl) dL_isWell_275 ⟨(by show cells + 0 + 0 + 0 + 0 + 0 + 0 + 1 + 0 ≤ 130; omega), (by show slots + 0 + 0 + 0 + 0 + 0 + 0 + 6 + 0 ≤ 780; omega)⟩ (fun H locs hP hD hS => ?_)
              have hP : va_P D vwCl (wO T po a k x ++ []) H := hP
              have hD : va_D A (wO T po a k x ++ []) := hD
              refine W.eq (g2 := F0 m 278 ls [.int (qEst k.1 i), .int (qSure k.1 i)]) rfl ?_
              refine lv_aload_n hx hb dL_isWell_278 rfl (lv_at hl 7 rfl) ?_
              refine lv_iload hx hb dL_isWell_279 (lv_at hl 5 rfl) ?_
              refine kWT (As := [.ref po, .int (nI i)]) (rest := [.int (qEst k.1 i), .int (qSure k.1 i)]) ⟨hx, hb, hml, hown, hts⟩ (L_surplusA l D T po a k x i hst9 hp) (vx_cwSW 2 hts gL_isWell_L_surplus rfl rfl rfl (by decide +kernel) ⟨Nat.le_of_ble_eq_true rfl, Nat.le_of_ble_eq_true rfl⟩) hC hXX hZ hE hNc hP hD hS hA rfl hl.1 rfl (Nat.le_of_ble_eq_true rfl) dL_isWell_281 ⟨(by show cells + 0 + 0 + 0 + 0 + 0 + 0 + 1 + 0 + 0 + 1 ≤ 130; omega), (by show slots + 0 + 0 + 0 + 0 + 0 + 0 + 6 + 0 + 0 + 6 ≤ 780; omega)⟩ (fun H locs hP hD hS => ?_)
              have hP : va_P D vwCl (wO T po a k x ++ []) H := hP
              have hD : va_D A (wO T po a k x ++ []) := hD
              refine W.eq (g2 := F0 m 284 ls [.int (qSur k.1 i), .int (qEst k.1 i), .int (qSure k.1 i)]) rfl ?_
              refine lv_isub hx hb dL_isWell_284 ?_
              refine lv_icmp_ne (tgt := 319) hx hb dL_isWell_285 (by decide) (fun c_x => absurd (f_sureE hK.1 hp c238) c_x) (fun _ => ?_)
              exact j288 _ _ _ _ _ hP hD hS (lv_sub hl [0, 1, 2, 3, 4, 5, 6, 7] rfl) (by omega) (by omega)
            · skip
              refine lv_aload_n hx hb dL_isWell_241 rfl (lv_at hl 7 rfl) ?_
              refine lv_iload hx hb dL_isWell_242 (lv_at hl 5 rfl) ?_
              refine kWT (As := [.ref po, .int (nI i)]) (rest := []) ⟨hx, hb, hml, hown, hts⟩ (L_sure l D T po a k x i hp) (vx_cwSW 2 hts gL_isWell_L_sure rfl rfl rfl (by decide +kernel) ⟨Nat.le_of_ble_eq_true rfl, Nat.le_of_ble_eq_true rfl⟩) hC hXX hZ hE hNc hP hD hS hA rfl hl.1 rfl (Nat.le_of_ble_eq_true rfl) dL_isWell_244 ⟨(by show cells + 0 + 0 + 0 + 0 + 0 + 0 + 1 ≤ 130; omega), (by show slots + 0 + 0 + 0 + 0 + 0 + 0 + 6 ≤ 780; omega)⟩ (fun H locs hP hD hS => ?_)
              have hP : va_P D vwCl (wO T po a k x ++ []) H := hP
              have hD : va_D A (wO T po a k x ++ []) := hD
              refine W.eq (g2 := F0 m 247 ls [.int (qSure k.1 i)]) rfl ?_
              refine lv_if_ne (tgt := 319) hx hb dL_isWell_247 (by decide) (fun c_x => absurd (f_sure0 (by rw [sur_no hK.1 hM hp c238]; exact Int32.le_refl 0)) c_x) (fun _ => ?_)
              refine lv_aload_n hx hb dL_isWell_250 rfl (lv_at hl 7 rfl) ?_
              refine lv_iload hx hb dL_isWell_251 (lv_at hl 5 rfl) ?_
              refine kWT (As := [.ref po, .int (nI i)]) (rest := []) ⟨hx, hb, hml, hown, hts⟩ (L_estimate l D T po a k x i hp) (vx_cwSW 2 hts gL_isWell_L_estimate rfl rfl rfl (by decide +kernel) ⟨Nat.le_of_ble_eq_true rfl, Nat.le_of_ble_eq_true rfl⟩) hC hXX hZ hE hNc hP hD hS hA rfl hl.1 rfl (Nat.le_of_ble_eq_true rfl) dL_isWell_253 ⟨(by show cells + 0 + 0 + 0 + 0 + 0 + 0 + 1 + 0 ≤ 130; omega), (by show slots + 0 + 0 + 0 + 0 + 0 + 0 + 6 + 0 ≤ 780; omega)⟩ (fun H locs hP hD hS => ?_)
              have hP : va_P D vwCl (wO T po a k x ++ []) H := hP
              have hD : va_D A (wO T po a k x ++ []) := hD
              refine W.eq (g2 := F0 m 256 ls [.int (qEst k.1 i)]) rfl ?_
              refine lv_aload_n hx hb dL_isWell_256 rfl (lv_at hl 7 rfl) ?_
              refine kV (ci := 7) (As := []) (rest := [.int (qEst k.1 i)]) ⟨hx, hb, hml, hown, hts⟩ (o_floor l D T po a k x) (cwV 0 hts gL_isWell_X8_floor rfl rfl rfl (by decide +kernel) ⟨Nat.le_of_ble_eq_true rfl, Nat.le_of_ble_eq_true rfl⟩) hC hP hD hS hA rfl rfl rfl hl.1 rfl (Nat.le_of_ble_eq_true rfl) dL_isWell_257 ⟨(by show cells + 0 + 0 + 0 + 0 + 0 + 0 + 1 + 0 + 0 ≤ 130; omega), (by show slots + 0 + 0 + 0 + 0 + 0 + 0 + 6 + 0 + 0 ≤ 780; omega)⟩ (fun H locs hP hD hS => ?_)
              have hP : va_P D vwCl (wO T po a k x ++ []) H := hP
              have hD : va_D A (wO T po a k x ++ []) := hD
              refine W.eq (g2 := F0 m 260 ls [.int (qLeast k.1), .int (qEst k.1 i)]) rfl ?_
              refine lv_icmp_ne (tgt := 319) hx hb dL_isWell_260 (by decide) (fun c_x => absurd (f_estL (by rw [sur_no hK.1 hM hp c238]; exact Int32.le_refl 0)) c_x) (fun _ => ?_)
              refine lv_goto (tgt := 288) hx hb dL_isWell_263 (by decide) ?_
              exact j288 _ _ _ _ _ hP hD hS (lv_sub hl [0, 1, 2, 3, 4, 5, 6, 7] rfl) (by omega) (by omega)
          refine lv_icmp_le (tgt := 157) hx hb dL_isWell_142 (by decide) (fun c142 => ?_) (fun c142 => ?_)
          · skip
            refine lv_iload hx hb dL_isWell_157 (lv_at hl 6 rfl) ?_
            refine W.eq (g2 := F0 m 159 ls (.int (qGEn k.1 (i + 1)) :: [])) (congrArg (fun z => F0 m 159 ls (.int z :: [])) (ge_no c142 : (qGEn k.1 i : Int32) = qGEn k.1 (i + 1))) ?_
            exact j159 _ _ _ _ _ hP hD hS (lv_sub hl [0, 1, 2, 3, 4, 5, 6, 7] rfl) (by omega) (by omega)
          · skip
            refine lv_aload_n hx hb dL_isWell_145 rfl (lv_at hl 7 rfl) ?_
            refine lv_iload hx hb dL_isWell_146 (lv_at hl 4 rfl) ?_
            refine kWT (As := [.ref po, .int (nI i)]) (rest := []) ⟨hx, hb, hml, hown, hts⟩ (L_estimate l D T po a k x i hp) (vx_cwSW 2 hts gL_isWell_L_estimate rfl rfl rfl (by decide +kernel) ⟨Nat.le_of_ble_eq_true rfl, Nat.le_of_ble_eq_true rfl⟩) hC hXX hZ hE hNc hP hD hS hA rfl hl.1 rfl (Nat.le_of_ble_eq_true rfl) dL_isWell_148 ⟨(by show cells + 0 ≤ 130; omega), (by show slots + 0 ≤ 780; omega)⟩ (fun H locs hP hD hS => ?_)
            have hP : va_P D vwCl (wO T po a k x ++ []) H := hP
            have hD : va_D A (wO T po a k x ++ []) := hD
            refine W.eq (g2 := F0 m 151 ls [.int (qEst k.1 i)]) rfl ?_
            refine lv_iload hx hb dL_isWell_151 (lv_at hl 3 rfl) ?_
            refine lv_isub hx hb dL_isWell_153 ?_
            refine W.eq (g2 := F0 m 154 ls (.int (qGEn k.1 (i + 1)) :: [])) (congrArg (fun z => F0 m 154 ls (.int z :: [])) (ge_yes c142 : ((qEst k.1 i) - (qT k.1 i) : Int32) = qGEn k.1 (i + 1))) ?_
            refine lv_goto (tgt := 159) hx hb dL_isWell_154 (by decide) ?_
            exact j159 _ _ _ _ _ hP hD hS (lv_sub hl [0, 1, 2, 3, 4, 5, 6, 7] rfl) (by omega) (by omega)
        refine lv_icmp_ne (tgt := 123) hx hb dL_isWell_116 (by decide) (fun c116 => ?_) (fun c116 => ?_)
        · skip
          refine lv_aload_n hx hb dL_isWell_123 rfl (lv_at hl 7 rfl) ?_
          refine lv_iload hx hb dL_isWell_124 (lv_at hl 3 rfl) ?_
          refine kWT (As := [.ref po, .int (nI i)]) (rest := [.int (smN (qC k.1) i)]) ⟨hx, hb, hml, hown, hts⟩ (L_estimate l D T po a k x i hp) (vx_cwSW 2 hts gL_isWell_L_estimate rfl rfl rfl (by decide +kernel) ⟨Nat.le_of_ble_eq_true rfl, Nat.le_of_ble_eq_true rfl⟩) hC hXX hZ hE hNc hP hD hS hA rfl hl.1 rfl (Nat.le_of_ble_eq_true rfl) dL_isWell_126 ⟨(by show cells + 1 ≤ 130; omega), (by show slots + 6 ≤ 780; omega)⟩ (fun H locs hP hD hS => ?_)
          have hP : va_P D vwCl (wO T po a k x ++ []) H := hP
          have hD : va_D A (wO T po a k x ++ []) := hD
          refine W.eq (g2 := F0 m 129 ls [.int (qEst k.1 i), .int (smN (qC k.1) i)]) rfl ?_
          refine lv_iadd hx hb dL_isWell_129 ?_
          refine W.eq (g2 := F0 m 130 ls (.int (smN (qC k.1) (i + 1)) :: [])) (congrArg (fun z => F0 m 130 ls (.int z :: [])) (by rw [f_estC (sur_yes hK.1 hp c116).1]; rfl : ((smN (qC k.1) i) + (qEst k.1 i) : Int32) = smN (qC k.1) (i + 1))) ?_
          exact j130 _ _ _ _ _ hP hD hS (lv_sub hl [0, 1, 2, 3, 4, 5, 6, 7] rfl) (by omega) (by omega)
        · skip
          refine lv_iconst (v := 0) hx hb dL_isWell_119 (by decide) ?_
          refine lv_goto (tgt := 129) hx hb dL_isWell_120 (by decide) ?_
          refine lv_iadd hx hb dL_isWell_129 ?_
          refine W.eq (g2 := F0 m 130 ls (.int (smN (qC k.1) (i + 1)) :: [])) (congrArg (fun z => F0 m 130 ls (.int z :: [])) ((show smN (qC k.1) i + 0 = smN (qC k.1) i + qC k.1 i by rw [sur_no hK.1 hM hp c116]) : ((smN (qC k.1) i) + 0 : Int32) = smN (qC k.1) (i + 1))) ?_
          exact j130 _ _ _ _ _ hP hD hS (lv_sub hl [0, 1, 2, 3, 4, 5, 6, 7] rfl) (by omega) (by omega)
      refine lv_if_le (tgt := 104) hx hb dL_isWell_97 (by decide) (fun c97 => ?_) (fun c97 => ?_)
      · skip
        refine lv_iconst (v := 0) hx hb dL_isWell_104 (by decide) ?_
        refine lv_iadd hx hb dL_isWell_105 ?_
        refine W.eq (g2 := F0 m 106 ls (.int (nI (cntN (qT k.1) i)) :: [])) (congrArg (fun z => F0 m 106 ls (.int z :: [])) (Int32.add_zero _)) ?_
        refine W.eq (g2 := F0 m 106 ls (.int (nI (cntN (qT k.1) (i + 1))) :: [])) (congrArg (fun z => F0 m 106 ls (.int z :: [])) (cnt_no c97 : (nI (cntN (qT k.1) i) : Int32) = nI (cntN (qT k.1) (i + 1)))) ?_
        exact j106 _ _ _ _ _ hP hD hS (lv_sub hl [0, 1, 2, 3, 4, 5, 6, 7] rfl) (by omega) (by omega)
      · skip
        refine lv_iconst (v := 1) hx hb dL_isWell_100 (by decide) ?_
        refine lv_goto (tgt := 105) hx hb dL_isWell_101 (by decide) ?_
        refine lv_iadd hx hb dL_isWell_105 ?_
        refine W.eq (g2 := F0 m 106 ls (.int (nI ((cntN (qT k.1) i) + 1)) :: [])) (congrArg (fun z => F0 m 106 ls (.int z :: [])) (nI_1 (cntN (qT k.1) i))) ?_
        refine W.eq (g2 := F0 m 106 ls (.int (nI (cntN (qT k.1) (i + 1))) :: [])) (congrArg (fun z => F0 m 106 ls (.int z :: [])) (cnt_yes c97 : (nI ((cntN (qT k.1) i) + 1) : Int32) = nI (cntN (qT k.1) (i + 1)))) ?_
        exact j106 _ _ _ _ _ hP hD hS (lv_sub hl [0, 1, 2, 3, 4, 5, 6, 7] rfl) (by omega) (by omega)
  refine lv_iconst (v := 0) hx hb dL_isWell_0 (by decide) ?_
  refine lv_istore_n (lv' := [(1, .int 0), (0, .ref po)]) hx hb dL_isWell_1 rfl hl (by decide) rfl (fun ls hl => ?_)
  refine lv_iconst (v := 0) hx hb dL_isWell_2 (by decide) ?_
  refine lv_istore_n (lv' := [(2, .int 0), (1, .int 0), (0, .ref po)]) hx hb dL_isWell_3 rfl hl (by decide) rfl (fun ls hl => ?_)
  refine lv_iconst (v := 0) hx hb dL_isWell_4 (by decide) ?_
  refine lv_istore_n (lv' := [(3, .int 0), (2, .int 0), (1, .int 0), (0, .ref po)]) hx hb dL_isWell_5 rfl hl (by decide) rfl (fun ls hl => ?_)
  refine lv_iconst (v := 0) hx hb dL_isWell_6 (by decide) ?_
  refine lv_istore (lv' := [(4, .int 0), (3, .int 0), (2, .int 0), (1, .int 0), (0, .ref po)]) hx hb dL_isWell_7 hl (by decide) rfl (fun ls hl => ?_)
  refine lv_aload_n hx hb dL_isWell_9 rfl (lv_at hl 4 rfl) ?_
  refine kV (ci := 7) (As := []) (rest := []) ⟨hx, hb, hml, hown, hts⟩ (o_counters l D T po a k x) (cwV 0 hts gL_isWell_X8_counters rfl rfl rfl (by decide +kernel) ⟨Nat.le_of_ble_eq_true rfl, Nat.le_of_ble_eq_true rfl⟩) hC hP hD hS hA rfl rfl rfl hl.1 rfl (Nat.le_of_ble_eq_true rfl) dL_isWell_10 ⟨(Nat.zero_le _), (Nat.zero_le _)⟩ (fun H locs hP hD hS => ?_)
  have hP : va_P D vwCl (wO T po a k x ++ []) H := hP
  have hD : va_D A (wO T po a k x ++ []) := hD
  refine W.eq (g2 := F0 m 13 ls [.int (qSize k.1)]) rfl ?_
  refine lv_aload_n hx hb dL_isWell_13 rfl (lv_at hl 4 rfl) ?_
  refine kV (ci := 7) (As := []) (rest := [.int (qSize k.1)]) ⟨hx, hb, hml, hown, hts⟩ (o_capacity l D T po a k x) (cwV 0 hts gL_isWell_X8_capacity rfl rfl rfl (by decide +kernel) ⟨Nat.le_of_ble_eq_true rfl, Nat.le_of_ble_eq_true rfl⟩) hC hP hD hS hA rfl rfl rfl hl.1 rfl (Nat.le_of_ble_eq_true rfl) dL_isWell_14 ⟨(Nat.zero_le _), (Nat.zero_le _)⟩ (fun H locs hP hD hS => ?_)
  have hP : va_P D vwCl (wO T po a k x ++ []) H := hP
  have hD : va_D A (wO T po a k x ++ []) := hD
  refine W.eq (g2 := F0 m 17 ls [.int (nI (qCap k.1)), .int (qSize k.1)]) rfl ?_
  refine lv_iconst (v := 1) hx hb dL_isWell_17 (by decide) ?_
  refine lv_iadd hx hb dL_isWell_18 ?_
  refine W.eq (g2 := F0 m 19 ls (.int (nI ((qCap k.1) + 1)) :: [.int (qSize k.1)])) (congrArg (fun z => F0 m 19 ls (.int z :: [.int (qSize k.1)])) (nI_1 (qCap k.1))) ?_
  refine lv_icmp_gt (tgt := 68) hx hb dL_isWell_19 (by decide) (fun c_x => absurd c_x (f_sizeA hK.1)) (fun _ => ?_)
  refine lv_aload_n hx hb dL_isWell_22 rfl (lv_at hl 4 rfl) ?_
  refine kV (ci := 7) (As := []) (rest := []) ⟨hx, hb, hml, hown, hts⟩ (o_wornCounters l D T po a k x) (cwV 0 hts gL_isWell_X8_wornCounters rfl rfl rfl (by decide +kernel) ⟨Nat.le_of_ble_eq_true rfl, Nat.le_of_ble_eq_true rfl⟩) hC hP hD hS hA rfl rfl rfl hl.1 rfl (Nat.le_of_ble_eq_true rfl) dL_isWell_23 ⟨(Nat.zero_le _), (Nat.zero_le _)⟩ (fun H locs hP hD hS => ?_)
  have hP : va_P D vwCl (wO T po a k x ++ []) H := hP
  have hD : va_D A (wO T po a k x ++ []) := hD
  refine W.eq (g2 := F0 m 26 ls [.int (qWSize k.1)]) rfl ?_
  refine lv_aload_n hx hb dL_isWell_26 rfl (lv_at hl 4 rfl) ?_
  refine kV (ci := 7) (As := []) (rest := [.int (qWSize k.1)]) ⟨hx, hb, hml, hown, hts⟩ (o_capacity l D T po a k x) (cwV 0 hts gL_isWell_X8_capacity rfl rfl rfl (by decide +kernel) ⟨Nat.le_of_ble_eq_true rfl, Nat.le_of_ble_eq_true rfl⟩) hC hP hD hS hA rfl rfl rfl hl.1 rfl (Nat.le_of_ble_eq_true rfl) dL_isWell_27 ⟨(Nat.zero_le _), (Nat.zero_le _)⟩ (fun H locs hP hD hS => ?_)
  have hP : va_P D vwCl (wO T po a k x ++ []) H := hP
  have hD : va_D A (wO T po a k x ++ []) := hD
  refine W.eq (g2 := F0 m 30 ls [.int (nI (qCap k.1)), .int (qWSize k.1)]) rfl ?_
  refine lv_icmp_gt (tgt := 68) hx hb dL_isWell_30 (by decide) (fun c_x => absurd c_x (f_sizeW hK.1)) (fun _ => ?_)
  refine lv_aload_n hx hb dL_isWell_33 rfl (lv_at hl 4 rfl) ?_
  refine kV (ci := 7) (As := []) (rest := []) ⟨hx, hb, hml, hown, hts⟩ (o_floor l D T po a k x) (cwV 0 hts gL_isWell_X8_floor rfl rfl rfl (by decide +kernel) ⟨Nat.le_of_ble_eq_true rfl, Nat.le_of_ble_eq_true rfl⟩) hC hP hD hS hA rfl rfl rfl hl.1 rfl (Nat.le_of_ble_eq_true rfl) dL_isWell_34 ⟨(Nat.zero_le _), (Nat.zero_le _)⟩ (fun H locs hP hD hS => ?_)
  have hP : va_P D vwCl (wO T po a k x ++ []) H := hP
  have hD : va_D A (wO T po a k x ++ []) := hD
  refine W.eq (g2 := F0 m 37 ls [.int (qLeast k.1)]) rfl ?_
  have j64 : ∀ (H : Heap) (locs : List Loc) (cells slots : Nat) (ls : Array Slot), va_P D vwCl (wO T po a k x ++ []) H → va_D A (wO T po a k x ++ []) → va_S A s.heap H locs → lv_has ls 9 [(4, .int 0), (3, .int 0), (2, .int 0), (1, .int 0), (0, .ref po)] → cells ≤ 0 → slots ≤ 0 → W p l e rL_isWell s m ([.ref po] : List Value).toArray below meth c H locs cells slots Q (F0 m 64 ls []) := by
    intro H locs cells slots ls hP hD hS hl hce hso
    refine lv_iconst (v := 1) hx hb dL_isWell_64 (by decide) ?_
    refine lv_goto (tgt := 69) hx hb dL_isWell_65 (by decide) ?_
    refine lv_istore (lv' := [(5, .int 1), (4, .int 0), (3, .int 0), (2, .int 0), (1, .int 0), (0, .ref po)]) hx hb dL_isWell_69 hl (by decide) rfl (fun ls hl => ?_)
    refine lv_iconst (v := 0) hx hb dL_isWell_71 (by decide) ?_
    refine lv_istore (lv' := [(6, .int 0), (5, .int 1), (4, .int 0), (3, .int 0), (2, .int 0), (1, .int 0), (0, .ref po)]) hx hb dL_isWell_72 hl (by decide) rfl (fun ls hl => ?_)
    exact loop_74 26 0 (by omega) _ _ _ _ _ hP hD hS (lv_sub hl [0, 1, 2, 3, 4, 5, 6] rfl) (by omega) (by omega)
  refine lv_if_le (tgt := 44) hx hb dL_isWell_37 (by decide) (fun c37 => ?_) (fun c37 => ?_)
  · skip
    refine lv_iconst (v := 0) hx hb dL_isWell_44 (by decide) ?_
    refine lv_aload_n hx hb dL_isWell_45 rfl (lv_at hl 4 rfl) ?_
    refine kV (ci := 7) (As := []) (rest := [.int 0]) ⟨hx, hb, hml, hown, hts⟩ (o_counters l D T po a k x) (cwV 0 hts gL_isWell_X8_counters rfl rfl rfl (by decide +kernel) ⟨Nat.le_of_ble_eq_true rfl, Nat.le_of_ble_eq_true rfl⟩) hC hP hD hS hA rfl rfl rfl hl.1 rfl (Nat.le_of_ble_eq_true rfl) dL_isWell_46 ⟨(Nat.zero_le _), (Nat.zero_le _)⟩ (fun H locs hP hD hS => ?_)
    have hP : va_P D vwCl (wO T po a k x ++ []) H := hP
    have hD : va_D A (wO T po a k x ++ []) := hD
    refine W.eq (g2 := F0 m 49 ls [.int (qSize k.1), .int 0]) rfl ?_
    refine lv_aload_n hx hb dL_isWell_49 rfl (lv_at hl 4 rfl) ?_
    refine kV (ci := 7) (As := []) (rest := [.int (qSize k.1), .int 0]) ⟨hx, hb, hml, hown, hts⟩ (o_capacity l D T po a k x) (cwV 0 hts gL_isWell_X8_capacity rfl rfl rfl (by decide +kernel) ⟨Nat.le_of_ble_eq_true rfl, Nat.le_of_ble_eq_true rfl⟩) hC hP hD hS hA rfl rfl rfl hl.1 rfl (Nat.le_of_ble_eq_true rfl) dL_isWell_50 ⟨(Nat.zero_le _), (Nat.zero_le _)⟩ (fun H locs hP hD hS => ?_)
    have hP : va_P D vwCl (wO T po a k x ++ []) H := hP
    have hD : va_D A (wO T po a k x ++ []) := hD
    refine W.eq (g2 := F0 m 53 ls [.int (nI (qCap k.1)), .int (qSize k.1), .int 0]) rfl ?_
    refine lv_icmp_le (tgt := 60) hx hb dL_isWell_53 (by decide) (fun _ => ?_) (fun c_x => absurd (f_fullA hK.1 hM c37) c_x)
    refine lv_iconst (v := 0) hx hb dL_isWell_60 (by decide) ?_
    refine lv_icmp_ne (tgt := 68) hx hb dL_isWell_61 (by decide) (fun c_x => absurd (by decide : ((0 : Int32) = 0)) c_x) (fun _ => ?_)
    exact j64 _ _ _ _ _ hP hD hS (lv_sub hl [0, 1, 2, 3, 4] rfl) (by omega) (by omega)
  · skip
    refine lv_iconst (v := 1) hx hb dL_isWell_40 (by decide) ?_
    refine lv_goto (tgt := 45) hx hb dL_isWell_41 (by decide) ?_
    refine lv_aload_n hx hb dL_isWell_45 rfl (lv_at hl 4 rfl) ?_
    refine kV (ci := 7) (As := []) (rest := [.int 1]) ⟨hx, hb, hml, hown, hts⟩ (o_counters l D T po a k x) (cwV 0 hts gL_isWell_X8_counters rfl rfl rfl (by decide +kernel) ⟨Nat.le_of_ble_eq_true rfl, Nat.le_of_ble_eq_true rfl⟩) hC hP hD hS hA rfl rfl rfl hl.1 rfl (Nat.le_of_ble_eq_true rfl) dL_isWell_46 ⟨(Nat.zero_le _), (Nat.zero_le _)⟩ (fun H locs hP hD hS => ?_)
    have hP : va_P D vwCl (wO T po a k x ++ []) H := hP
    have hD : va_D A (wO T po a k x ++ []) := hD
    refine W.eq (g2 := F0 m 49 ls [.int (qSize k.1), .int 1]) rfl ?_
    refine lv_aload_n hx hb dL_isWell_49 rfl (lv_at hl 4 rfl) ?_
    refine kV (ci := 7) (As := []) (rest := [.int (qSize k.1), .int 1]) ⟨hx, hb, hml, hown, hts⟩ (o_capacity l D T po a k x) (cwV 0 hts gL_isWell_X8_capacity rfl rfl rfl (by decide +kernel) ⟨Nat.le_of_ble_eq_true rfl, Nat.le_of_ble_eq_true rfl⟩) hC hP hD hS hA rfl rfl rfl hl.1 rfl (Nat.le_of_ble_eq_true rfl) dL_isWell_50 ⟨(Nat.zero_le _), (Nat.zero_le _)⟩ (fun H locs hP hD hS => ?_)
    have hP : va_P D vwCl (wO T po a k x ++ []) H := hP
    have hD : va_D A (wO T po a k x ++ []) := hD
    refine W.eq (g2 := F0 m 53 ls [.int (nI (qCap k.1)), .int (qSize k.1), .int 1]) rfl ?_
    refine lv_icmp_le (tgt := 60) hx hb dL_isWell_53 (by decide) (fun c_x => absurd c_x (f_fullB hK.1 hM c37)) (fun _ => ?_)
    refine lv_iconst (v := 1) hx hb dL_isWell_56 (by decide) ?_
    refine lv_goto (tgt := 61) hx hb dL_isWell_57 (by decide) ?_
    refine lv_icmp_ne (tgt := 68) hx hb dL_isWell_61 (by decide) (fun c_x => absurd (by decide : ((1 : Int32) = 1)) c_x) (fun _ => ?_)
    exact j64 _ _ _ _ _ hP hD hS (lv_sub hl [0, 1, 2, 3, 4] rfl) (by omega) (by omega)
end PWELL
