section LAW1
set_option maxHeartbeats 4000000 in
set_option maxRecDepth 100000 in
theorem lc_12 {p : Program} {l : Launch} {e : Env} {s : State} {m : MethodId} {below : List Frame} {meth : Method} {c : Code} {D : va_G} {T : Nat → ClassId} {b L : Nat} {xs : Nat → Int32} {Q : State → Prop} (C : kLC p l s m c D T b L xs) (hL : L ≤ 1024) {po ouA mo : Nat} {a mm : Nat → Nat} {j : Nat} (hj : 2 * j + 1 < L)
    (kk : ∀ (v : ST) (hk hz : Nat) (sl : Nat → ST) (x : CT) (ouF : Nat → Int64) (al hy : Nat → Int32) (hn : Nat) (y : MT) (H : Heap) (locs : List Loc) (cells slots : Nat) (ls : Array Slot), kLS s D T b po ouA mo a mm j (j + 1) v hk hz sl x ouF al hy hn y H locs cells slots ls → W p l e room_1 s m #[Value.ref b] below meth c H locs cells slots Q (F0 m 1405 ls []))
    (v : ST) (hk hz : Nat) (sl : Nat → ST) (x : CT) (ouF : Nat → Int64) (al hy : Nat → Int32) (hn : Nat) (y : MT) (H : Heap) (locs : List Loc) (cells slots : Nat) (ls : Array Slot) (S : kLS s D T b po ouA mo a mm j j v hk hz sl x ouF al hy hn y H locs cells slots ls) : W p l e room_1 s m #[Value.ref b] below meth c H locs cells slots Q (F0 m 630 ls []) := by
  obtain ⟨hx, hb, hml, hown, hts, hX, hbl, hst9, hC, hXX, hZ, hE, hNc⟩ := C
  obtain ⟨hR, hP, hD, hS, hce, hso, hl⟩ := S
  have hA : ∀ q : Nat, s.heap.size ≤ q → (fun q : Nat => s.heap.size ≤ q) q := fun _ h => h
  have hbA : ¬ (fun q : Nat => s.heap.size ≤ q) b := Nat.not_le.mpr hbl
  have hin : vp_in (nI (2 * j + 1)) L := vp_in_nI hj (by omega)
  obtain ⟨v', hk', hz', sl', x', ouF', al', hy', hn', y', k, b', hW, hM, hth, hou, hR'⟩ := op_estimate hst9 D T po ouA a mo mm ouF hR (xs (nI (2 * j + 1)).toNatClampNeg)
  refine lv_aload_n hx hb dL_law_630 rfl (lv_at hl 1 rfl) ?_
  refine lv_aload_n hx hb dL_law_631 rfl (lv_at hl 0 rfl) ?_
  refine lv_iload hx hb dL_law_632 (lv_at hl 4 rfl) ?_
  refine lv_iconst (v := 1) hx hb dL_law_634 (by decide) ?_
  refine lv_iadd hx hb dL_law_635 ?_
  refine W.eq (g2 := F0 m 636 ls [.int (nI (2 * j + 1)), .ref b, .ref po]) (by rw [nI_1]) ?_
  refine va_sld hx hb hX hbl hbA hS hin dL_law_636 ?_
  refine lv_aload_n hx hb dL_law_637 rfl (lv_at hl 3 rfl) ?_
  refine kWS (As := [.ref po, .int (xs (nI (2 * j + 1)).toNatClampNeg), .ref ouA]) (rest := []) ⟨hx, hb, hml, hown, hts⟩ hW (vx_cwSW 3 hts gL_law_L_estimate rfl rfl rfl (by decide +kernel) ⟨Nat.le_of_ble_eq_true rfl, Nat.le_of_ble_eq_true rfl⟩) hC hXX hZ hE hNc hP hD hS hA rfl hl.1 rfl (Nat.le_of_ble_eq_true rfl) dL_law_638 ⟨(by show cells + 1 ≤ 601024; omega), (by show slots + 6 ≤ 7293034; omega)⟩ (fun H locs hP hD hS => ?_)
  refine W.eq (g2 := F0 m 641 ls [.int k]) rfl ?_
  refine lv_istore (lv' := [(5, .int k), (0, .ref b), (1, .ref po), (2, .ref mo), (3, .ref ouA), (4, .int (nI (2 * j)))]) hx hb dL_law_641 hl (by decide) rfl (fun ls hl => ?_)
  refine lv_aload_n hx hb dL_law_643 rfl (lv_at hl 3 rfl) ?_
  refine lv_aload_n hx hb dL_law_644 rfl (lv_at hl 1 rfl) ?_
  refine lv_iload hx hb dL_law_645 (lv_at hl 5 rfl) ?_
  refine lv_iconst (v := 1) hx hb dL_law_647 (by decide) ?_
  refine lv_iadd hx hb dL_law_648 ?_
  refine W.eq (g2 := F0 m 649 ls [.int (nI (2 * j + 1)), .ref b, .ref mo]) (by rw [nI_1]) ?_
  refine va_sld hx hb hX hbl hbA hS hin dL_law_649 ?_
  have hP := va_P_perm List.perm_append_comm hP
  have hD := va_D_perm List.perm_append_comm hD
  refine kV (ci := 8) (As := [.int (xs (nI (2 * j + 1)).toNatClampNeg)]) (rest := []) ⟨hx, hb, hml, hown, hts⟩ hM (cwV 1 hts gL_law_X9_estimate rfl rfl rfl (by decide +kernel) ⟨Nat.le_of_ble_eq_true rfl, Nat.le_of_ble_eq_true rfl⟩) hC hP hD hS hA rfl rfl rfl hl.1 rfl (Nat.le_of_ble_eq_true rfl) dL_law_650 ⟨(by show cells + 1 ≤ 601024; omega), (by show slots + 6 ≤ 7293034; omega)⟩ (fun H locs hP hD hS => ?_)
  refine W.eq (g2 := F0 m 653 ls [.int b']) rfl ?_
  refine lv_istore (lv' := [(6, .int b'), (5, .int k), (0, .ref b), (1, .ref po), (2, .ref mo), (3, .ref ouA), (4, .int (nI (2 * j)))]) hx hb dL_law_653 hl (by decide) rfl (fun ls hl => ?_)
  refine lv_aload_n hx hb dL_law_655 rfl (lv_at hl 4 rfl) ?_
  refine kV (ci := 8) (As := []) (rest := []) ⟨hx, hb, hml, hown, hts⟩ (op_thrown (l := l) D T mo mm al' hy' hn' y') (cwV 0 hts gL_law_X9_thrown rfl rfl rfl (by decide +kernel) ⟨Nat.le_of_ble_eq_true rfl, Nat.le_of_ble_eq_true rfl⟩) hC hP hD hS hA rfl rfl rfl hl.1 rfl (Nat.le_of_ble_eq_true rfl) dL_law_656 ⟨(by show cells + 1 ≤ 601024; omega), (by show slots + 6 ≤ 7293034; omega)⟩ (fun H locs hP hD hS => ?_)
  refine W.eq (g2 := F0 m 659 ls [.int y'.1]) rfl ?_
  refine lv_iload hx hb dL_law_659 (lv_at hl 1 rfl) ?_
  refine lv_icmp_eq (tgt := 666) hx hb dL_law_661 (by decide) (fun _ => ?_) (fun c9 => absurd hth c9)
  refine lv_iload hx hb dL_law_666 (lv_at hl 1 rfl) ?_
  refine lv_if_ne (tgt := 683) hx hb dL_law_668 (by decide) (fun _ => ?_) (fun hk0 => ?_)
  · refine lv_goto (tgt := 1405) hx hb dL_law_683 (by decide) ?_
    exact kk v' hk' hz' sl' x' ouF' al' hy' hn' y' _ _ _ _ ls ⟨hR', va_P_perm List.perm_append_comm hP, va_D_perm List.perm_append_comm hD, hS, by omega, by omega, lv_sub hl [2, 3, 4, 5, 6] rfl⟩
  · refine lv_aload_n hx hb dL_law_671 rfl (lv_at hl 5 rfl) ?_
    refine lv_iconst (v := 0) hx hb dL_law_672 (by decide) ?_
    refine va_lald hx hb hC.1 hP 115 2 rfl rfl (k_nin (i := 0) (by decide) (by decide)) dL_law_673 ?_
    refine lv_iload hx hb dL_law_674 (lv_at hl 0 rfl) ?_
    refine lv_i2l (v := b'.toInt64) hx hb dL_law_676 rfl ?_
    refine W.lcmp hx hb dL_law_677 ?_
    refine lv_if_eq (tgt := 683) hx hb dL_law_678 (by decide) (fun _ => ?_) (fun c9 => absurd (kLc (hou hk0)) c9)
    refine lv_goto (tgt := 1405) hx hb dL_law_683 (by decide) ?_
    exact kk v' hk' hz' sl' x' ouF' al' hy' hn' y' _ _ _ _ ls ⟨hR', va_P_perm List.perm_append_comm hP, va_D_perm List.perm_append_comm hD, hS, by omega, by omega, lv_sub hl [2, 3, 4, 5, 6] rfl⟩
set_option maxHeartbeats 4000000 in
set_option maxRecDepth 100000 in
theorem lc_13 {p : Program} {l : Launch} {e : Env} {s : State} {m : MethodId} {below : List Frame} {meth : Method} {c : Code} {D : va_G} {T : Nat → ClassId} {b L : Nat} {xs : Nat → Int32} {Q : State → Prop} (C : kLC p l s m c D T b L xs) (hL : L ≤ 1024) {po ouA mo : Nat} {a mm : Nat → Nat} {j : Nat} (hj : 2 * j + 1 < L)
    (kk : ∀ (v : ST) (hk hz : Nat) (sl : Nat → ST) (x : CT) (ouF : Nat → Int64) (al hy : Nat → Int32) (hn : Nat) (y : MT) (H : Heap) (locs : List Loc) (cells slots : Nat) (ls : Array Slot), kLS s D T b po ouA mo a mm j (j + 1) v hk hz sl x ouF al hy hn y H locs cells slots ls → W p l e room_1 s m #[Value.ref b] below meth c H locs cells slots Q (F0 m 1405 ls []))
    (v : ST) (hk hz : Nat) (sl : Nat → ST) (x : CT) (ouF : Nat → Int64) (al hy : Nat → Int32) (hn : Nat) (y : MT) (H : Heap) (locs : List Loc) (cells slots : Nat) (ls : Array Slot) (S : kLS s D T b po ouA mo a mm j j v hk hz sl x ouF al hy hn y H locs cells slots ls) : W p l e room_1 s m #[Value.ref b] below meth c H locs cells slots Q (F0 m 686 ls []) := by
  obtain ⟨hx, hb, hml, hown, hts, hX, hbl, hst9, hC, hXX, hZ, hE, hNc⟩ := C
  obtain ⟨hR, hP, hD, hS, hce, hso, hl⟩ := S
  have hA : ∀ q : Nat, s.heap.size ≤ q → (fun q : Nat => s.heap.size ≤ q) q := fun _ h => h
  have hbA : ¬ (fun q : Nat => s.heap.size ≤ q) b := Nat.not_le.mpr hbl
  have hin : vp_in (nI (2 * j + 1)) L := vp_in_nI hj (by omega)
  obtain ⟨v', hk', hz', sl', x', ouF', al', hy', hn', y', k, b', hW, hM, hth, hou, hR'⟩ := op_sureCount hst9 D T po ouA a mo mm ouF hR (xs (nI (2 * j + 1)).toNatClampNeg)
  refine lv_aload_n hx hb dL_law_686 rfl (lv_at hl 1 rfl) ?_
  refine lv_aload_n hx hb dL_law_687 rfl (lv_at hl 0 rfl) ?_
  refine lv_iload hx hb dL_law_688 (lv_at hl 4 rfl) ?_
  refine lv_iconst (v := 1) hx hb dL_law_690 (by decide) ?_
  refine lv_iadd hx hb dL_law_691 ?_
  refine W.eq (g2 := F0 m 692 ls [.int (nI (2 * j + 1)), .ref b, .ref po]) (by rw [nI_1]) ?_
  refine va_sld hx hb hX hbl hbA hS hin dL_law_692 ?_
  refine lv_aload_n hx hb dL_law_693 rfl (lv_at hl 3 rfl) ?_
  refine kWS (As := [.ref po, .int (xs (nI (2 * j + 1)).toNatClampNeg), .ref ouA]) (rest := []) ⟨hx, hb, hml, hown, hts⟩ hW (vx_cwSW 3 hts gL_law_L_sureCount rfl rfl rfl (by decide +kernel) ⟨Nat.le_of_ble_eq_true rfl, Nat.le_of_ble_eq_true rfl⟩) hC hXX hZ hE hNc hP hD hS hA rfl hl.1 rfl (Nat.le_of_ble_eq_true rfl) dL_law_694 ⟨(by show cells + 1 ≤ 601024; omega), (by show slots + 6 ≤ 7293034; omega)⟩ (fun H locs hP hD hS => ?_)
  refine W.eq (g2 := F0 m 697 ls [.int k]) rfl ?_
  refine lv_istore (lv' := [(5, .int k), (0, .ref b), (1, .ref po), (2, .ref mo), (3, .ref ouA), (4, .int (nI (2 * j)))]) hx hb dL_law_697 hl (by decide) rfl (fun ls hl => ?_)
  refine lv_aload_n hx hb dL_law_699 rfl (lv_at hl 3 rfl) ?_
  refine lv_aload_n hx hb dL_law_700 rfl (lv_at hl 1 rfl) ?_
  refine lv_iload hx hb dL_law_701 (lv_at hl 5 rfl) ?_
  refine lv_iconst (v := 1) hx hb dL_law_703 (by decide) ?_
  refine lv_iadd hx hb dL_law_704 ?_
  refine W.eq (g2 := F0 m 705 ls [.int (nI (2 * j + 1)), .ref b, .ref mo]) (by rw [nI_1]) ?_
  refine va_sld hx hb hX hbl hbA hS hin dL_law_705 ?_
  have hP := va_P_perm List.perm_append_comm hP
  have hD := va_D_perm List.perm_append_comm hD
  refine kV (ci := 8) (As := [.int (xs (nI (2 * j + 1)).toNatClampNeg)]) (rest := []) ⟨hx, hb, hml, hown, hts⟩ hM (cwV 1 hts gL_law_X9_sureCount rfl rfl rfl (by decide +kernel) ⟨Nat.le_of_ble_eq_true rfl, Nat.le_of_ble_eq_true rfl⟩) hC hP hD hS hA rfl rfl rfl hl.1 rfl (Nat.le_of_ble_eq_true rfl) dL_law_706 ⟨(by show cells + 1 ≤ 601024; omega), (by show slots + 6 ≤ 7293034; omega)⟩ (fun H locs hP hD hS => ?_)
  refine W.eq (g2 := F0 m 709 ls [.int b']) rfl ?_
  refine lv_istore (lv' := [(6, .int b'), (5, .int k), (0, .ref b), (1, .ref po), (2, .ref mo), (3, .ref ouA), (4, .int (nI (2 * j)))]) hx hb dL_law_709 hl (by decide) rfl (fun ls hl => ?_)
  refine lv_aload_n hx hb dL_law_711 rfl (lv_at hl 4 rfl) ?_
  refine kV (ci := 8) (As := []) (rest := []) ⟨hx, hb, hml, hown, hts⟩ (op_thrown (l := l) D T mo mm al' hy' hn' y') (cwV 0 hts gL_law_X9_thrown rfl rfl rfl (by decide +kernel) ⟨Nat.le_of_ble_eq_true rfl, Nat.le_of_ble_eq_true rfl⟩) hC hP hD hS hA rfl rfl rfl hl.1 rfl (Nat.le_of_ble_eq_true rfl) dL_law_712 ⟨(by show cells + 1 ≤ 601024; omega), (by show slots + 6 ≤ 7293034; omega)⟩ (fun H locs hP hD hS => ?_)
  refine W.eq (g2 := F0 m 715 ls [.int y'.1]) rfl ?_
  refine lv_iload hx hb dL_law_715 (lv_at hl 1 rfl) ?_
  refine lv_icmp_eq (tgt := 722) hx hb dL_law_717 (by decide) (fun _ => ?_) (fun c9 => absurd hth c9)
  refine lv_iload hx hb dL_law_722 (lv_at hl 1 rfl) ?_
  refine lv_if_ne (tgt := 739) hx hb dL_law_724 (by decide) (fun _ => ?_) (fun hk0 => ?_)
  · refine lv_goto (tgt := 1405) hx hb dL_law_739 (by decide) ?_
    exact kk v' hk' hz' sl' x' ouF' al' hy' hn' y' _ _ _ _ ls ⟨hR', va_P_perm List.perm_append_comm hP, va_D_perm List.perm_append_comm hD, hS, by omega, by omega, lv_sub hl [2, 3, 4, 5, 6] rfl⟩
  · refine lv_aload_n hx hb dL_law_727 rfl (lv_at hl 5 rfl) ?_
    refine lv_iconst (v := 0) hx hb dL_law_728 (by decide) ?_
    refine va_lald hx hb hC.1 hP 115 2 rfl rfl (k_nin (i := 0) (by decide) (by decide)) dL_law_729 ?_
    refine lv_iload hx hb dL_law_730 (lv_at hl 0 rfl) ?_
    refine lv_i2l (v := b'.toInt64) hx hb dL_law_732 rfl ?_
    refine W.lcmp hx hb dL_law_733 ?_
    refine lv_if_eq (tgt := 739) hx hb dL_law_734 (by decide) (fun _ => ?_) (fun c9 => absurd (kLc (hou hk0)) c9)
    refine lv_goto (tgt := 1405) hx hb dL_law_739 (by decide) ?_
    exact kk v' hk' hz' sl' x' ouF' al' hy' hn' y' _ _ _ _ ls ⟨hR', va_P_perm List.perm_append_comm hP, va_D_perm List.perm_append_comm hD, hS, by omega, by omega, lv_sub hl [2, 3, 4, 5, 6] rfl⟩
set_option maxHeartbeats 4000000 in
set_option maxRecDepth 100000 in
theorem lc_14 {p : Program} {l : Launch} {e : Env} {s : State} {m : MethodId} {below : List Frame} {meth : Method} {c : Code} {D : va_G} {T : Nat → ClassId} {b L : Nat} {xs : Nat → Int32} {Q : State → Prop} (C : kLC p l s m c D T b L xs) (hL : L ≤ 1024) {po ouA mo : Nat} {a mm : Nat → Nat} {j : Nat} (hj : 2 * j + 1 < L)
    (kk : ∀ (v : ST) (hk hz : Nat) (sl : Nat → ST) (x : CT) (ouF : Nat → Int64) (al hy : Nat → Int32) (hn : Nat) (y : MT) (H : Heap) (locs : List Loc) (cells slots : Nat) (ls : Array Slot), kLS s D T b po ouA mo a mm j (j + 1) v hk hz sl x ouF al hy hn y H locs cells slots ls → W p l e room_1 s m #[Value.ref b] below meth c H locs cells slots Q (F0 m 1405 ls []))
    (v : ST) (hk hz : Nat) (sl : Nat → ST) (x : CT) (ouF : Nat → Int64) (al hy : Nat → Int32) (hn : Nat) (y : MT) (H : Heap) (locs : List Loc) (cells slots : Nat) (ls : Array Slot) (S : kLS s D T b po ouA mo a mm j j v hk hz sl x ouF al hy hn y H locs cells slots ls) : W p l e room_1 s m #[Value.ref b] below meth c H locs cells slots Q (F0 m 742 ls []) := by
  obtain ⟨hx, hb, hml, hown, hts, hX, hbl, hst9, hC, hXX, hZ, hE, hNc⟩ := C
  obtain ⟨hR, hP, hD, hS, hce, hso, hl⟩ := S
  have hA : ∀ q : Nat, s.heap.size ≤ q → (fun q : Nat => s.heap.size ≤ q) q := fun _ h => h
  have hbA : ¬ (fun q : Nat => s.heap.size ≤ q) b := Nat.not_le.mpr hbl
  have hin : vp_in (nI (2 * j + 1)) L := vp_in_nI hj (by omega)
  obtain ⟨v', hk', hz', sl', x', ouF', al', hy', hn', y', k, b', hW, hM, hth, hou, hR'⟩ := op_surplus hst9 D T po ouA a mo mm ouF hR (xs (nI (2 * j + 1)).toNatClampNeg)
  refine lv_aload_n hx hb dL_law_742 rfl (lv_at hl 1 rfl) ?_
  refine lv_aload_n hx hb dL_law_743 rfl (lv_at hl 0 rfl) ?_
  refine lv_iload hx hb dL_law_744 (lv_at hl 4 rfl) ?_
  refine lv_iconst (v := 1) hx hb dL_law_746 (by decide) ?_
  refine lv_iadd hx hb dL_law_747 ?_
  refine W.eq (g2 := F0 m 748 ls [.int (nI (2 * j + 1)), .ref b, .ref po]) (by rw [nI_1]) ?_
  refine va_sld hx hb hX hbl hbA hS hin dL_law_748 ?_
  refine lv_aload_n hx hb dL_law_749 rfl (lv_at hl 3 rfl) ?_
  refine kWS (As := [.ref po, .int (xs (nI (2 * j + 1)).toNatClampNeg), .ref ouA]) (rest := []) ⟨hx, hb, hml, hown, hts⟩ hW (vx_cwSW 3 hts gL_law_L_surplus rfl rfl rfl (by decide +kernel) ⟨Nat.le_of_ble_eq_true rfl, Nat.le_of_ble_eq_true rfl⟩) hC hXX hZ hE hNc hP hD hS hA rfl hl.1 rfl (Nat.le_of_ble_eq_true rfl) dL_law_750 ⟨(by show cells + 1 ≤ 601024; omega), (by show slots + 6 ≤ 7293034; omega)⟩ (fun H locs hP hD hS => ?_)
  refine W.eq (g2 := F0 m 753 ls [.int k]) rfl ?_
  refine lv_istore (lv' := [(5, .int k), (0, .ref b), (1, .ref po), (2, .ref mo), (3, .ref ouA), (4, .int (nI (2 * j)))]) hx hb dL_law_753 hl (by decide) rfl (fun ls hl => ?_)
  refine lv_aload_n hx hb dL_law_755 rfl (lv_at hl 3 rfl) ?_
  refine lv_aload_n hx hb dL_law_756 rfl (lv_at hl 1 rfl) ?_
  refine lv_iload hx hb dL_law_757 (lv_at hl 5 rfl) ?_
  refine lv_iconst (v := 1) hx hb dL_law_759 (by decide) ?_
  refine lv_iadd hx hb dL_law_760 ?_
  refine W.eq (g2 := F0 m 761 ls [.int (nI (2 * j + 1)), .ref b, .ref mo]) (by rw [nI_1]) ?_
  refine va_sld hx hb hX hbl hbA hS hin dL_law_761 ?_
  have hP := va_P_perm List.perm_append_comm hP
  have hD := va_D_perm List.perm_append_comm hD
  refine kV (ci := 8) (As := [.int (xs (nI (2 * j + 1)).toNatClampNeg)]) (rest := []) ⟨hx, hb, hml, hown, hts⟩ hM (cwV 1 hts gL_law_X9_surplus rfl rfl rfl (by decide +kernel) ⟨Nat.le_of_ble_eq_true rfl, Nat.le_of_ble_eq_true rfl⟩) hC hP hD hS hA rfl rfl rfl hl.1 rfl (Nat.le_of_ble_eq_true rfl) dL_law_762 ⟨(by show cells + 1 ≤ 601024; omega), (by show slots + 6 ≤ 7293034; omega)⟩ (fun H locs hP hD hS => ?_)
  refine W.eq (g2 := F0 m 765 ls [.int b']) rfl ?_
  refine lv_istore (lv' := [(6, .int b'), (5, .int k), (0, .ref b), (1, .ref po), (2, .ref mo), (3, .ref ouA), (4, .int (nI (2 * j)))]) hx hb dL_law_765 hl (by decide) rfl (fun ls hl => ?_)
  refine lv_aload_n hx hb dL_law_767 rfl (lv_at hl 4 rfl) ?_
  refine kV (ci := 8) (As := []) (rest := []) ⟨hx, hb, hml, hown, hts⟩ (op_thrown (l := l) D T mo mm al' hy' hn' y') (cwV 0 hts gL_law_X9_thrown rfl rfl rfl (by decide +kernel) ⟨Nat.le_of_ble_eq_true rfl, Nat.le_of_ble_eq_true rfl⟩) hC hP hD hS hA rfl rfl rfl hl.1 rfl (Nat.le_of_ble_eq_true rfl) dL_law_768 ⟨(by show cells + 1 ≤ 601024; omega), (by show slots + 6 ≤ 7293034; omega)⟩ (fun H locs hP hD hS => ?_)
  refine W.eq (g2 := F0 m 771 ls [.int y'.1]) rfl ?_
  refine lv_iload hx hb dL_law_771 (lv_at hl 1 rfl) ?_
  refine lv_icmp_eq (tgt := 778) hx hb dL_law_773 (by decide) (fun _ => ?_) (fun c9 => absurd hth c9)
  refine lv_iload hx hb dL_law_778 (lv_at hl 1 rfl) ?_
  refine lv_if_ne (tgt := 795) hx hb dL_law_780 (by decide) (fun _ => ?_) (fun hk0 => ?_)
  · refine lv_goto (tgt := 1405) hx hb dL_law_795 (by decide) ?_
    exact kk v' hk' hz' sl' x' ouF' al' hy' hn' y' _ _ _ _ ls ⟨hR', va_P_perm List.perm_append_comm hP, va_D_perm List.perm_append_comm hD, hS, by omega, by omega, lv_sub hl [2, 3, 4, 5, 6] rfl⟩
  · refine lv_aload_n hx hb dL_law_783 rfl (lv_at hl 5 rfl) ?_
    refine lv_iconst (v := 0) hx hb dL_law_784 (by decide) ?_
    refine va_lald hx hb hC.1 hP 115 2 rfl rfl (k_nin (i := 0) (by decide) (by decide)) dL_law_785 ?_
    refine lv_iload hx hb dL_law_786 (lv_at hl 0 rfl) ?_
    refine lv_i2l (v := b'.toInt64) hx hb dL_law_788 rfl ?_
    refine W.lcmp hx hb dL_law_789 ?_
    refine lv_if_eq (tgt := 795) hx hb dL_law_790 (by decide) (fun _ => ?_) (fun c9 => absurd (kLc (hou hk0)) c9)
    refine lv_goto (tgt := 1405) hx hb dL_law_795 (by decide) ?_
    exact kk v' hk' hz' sl' x' ouF' al' hy' hn' y' _ _ _ _ ls ⟨hR', va_P_perm List.perm_append_comm hP, va_D_perm List.perm_append_comm hD, hS, by omega, by omega, lv_sub hl [2, 3, 4, 5, 6] rfl⟩
set_option maxHeartbeats 4000000 in
set_option maxRecDepth 100000 in
theorem lc_15 {p : Program} {l : Launch} {e : Env} {s : State} {m : MethodId} {below : List Frame} {meth : Method} {c : Code} {D : va_G} {T : Nat → ClassId} {b L : Nat} {xs : Nat → Int32} {Q : State → Prop} (C : kLC p l s m c D T b L xs) (hL : L ≤ 1024) {po ouA mo : Nat} {a mm : Nat → Nat} {j : Nat} (hj : 2 * j + 1 < L)
    (kk : ∀ (v : ST) (hk hz : Nat) (sl : Nat → ST) (x : CT) (ouF : Nat → Int64) (al hy : Nat → Int32) (hn : Nat) (y : MT) (H : Heap) (locs : List Loc) (cells slots : Nat) (ls : Array Slot), kLS s D T b po ouA mo a mm j (j + 1) v hk hz sl x ouF al hy hn y H locs cells slots ls → W p l e room_1 s m #[Value.ref b] below meth c H locs cells slots Q (F0 m 1405 ls []))
    (v : ST) (hk hz : Nat) (sl : Nat → ST) (x : CT) (ouF : Nat → Int64) (al hy : Nat → Int32) (hn : Nat) (y : MT) (H : Heap) (locs : List Loc) (cells slots : Nat) (ls : Array Slot) (S : kLS s D T b po ouA mo a mm j j v hk hz sl x ouF al hy hn y H locs cells slots ls) : W p l e room_1 s m #[Value.ref b] below meth c H locs cells slots Q (F0 m 798 ls []) := by
  obtain ⟨hx, hb, hml, hown, hts, hX, hbl, hst9, hC, hXX, hZ, hE, hNc⟩ := C
  obtain ⟨hR, hP, hD, hS, hce, hso, hl⟩ := S
  have hA : ∀ q : Nat, s.heap.size ≤ q → (fun q : Nat => s.heap.size ≤ q) q := fun _ h => h
  have hbA : ¬ (fun q : Nat => s.heap.size ≤ q) b := Nat.not_le.mpr hbl
  have hin : vp_in (nI (2 * j + 1)) L := vp_in_nI hj (by omega)
  obtain ⟨v', hk', hz', sl', x', ouF', al', hy', hn', y', b', hW, hM, hR'⟩ := op_floor (l := l) D T po ouA a mo mm ouF hR
  refine lv_aload_n hx hb dL_law_798 rfl (lv_at hl 1 rfl) ?_
  refine kV (ci := 7) (As := []) (rest := []) ⟨hx, hb, hml, hown, hts⟩ hW (cwV 0 hts gL_law_X8_floor rfl rfl rfl (by decide +kernel) ⟨Nat.le_of_ble_eq_true rfl, Nat.le_of_ble_eq_true rfl⟩) hC hP hD hS hA rfl rfl rfl hl.1 rfl (Nat.le_of_ble_eq_true rfl) dL_law_799 ⟨(by show cells ≤ 601024; omega), (by show slots ≤ 7293034; omega)⟩ (fun H locs hP hD hS => ?_)
  refine W.eq (g2 := F0 m 802 ls [.int b']) rfl ?_
  refine lv_aload_n hx hb dL_law_802 rfl (lv_at hl 2 rfl) ?_
  have hP := va_P_perm List.perm_append_comm hP
  have hD := va_D_perm List.perm_append_comm hD
  refine kV (ci := 8) (As := []) (rest := [.int b']) ⟨hx, hb, hml, hown, hts⟩ hM (cwV 0 hts gL_law_X9_floor rfl rfl rfl (by decide +kernel) ⟨Nat.le_of_ble_eq_true rfl, Nat.le_of_ble_eq_true rfl⟩) hC hP hD hS hA rfl rfl rfl hl.1 rfl (Nat.le_of_ble_eq_true rfl) dL_law_803 ⟨(by show cells ≤ 601024; omega), (by show slots ≤ 7293034; omega)⟩ (fun H locs hP hD hS => ?_)
  refine W.eq (g2 := F0 m 806 ls [.int b', .int b']) rfl ?_
  refine lv_icmp_eq (tgt := 1405) hx hb dL_law_806 (by decide) (fun _ => ?_) (fun c9 => absurd rfl c9)
  exact kk v' hk' hz' sl' x' ouF' al' hy' hn' y' _ _ _ _ ls ⟨hR', va_P_perm List.perm_append_comm hP, va_D_perm List.perm_append_comm hD, hS, by omega, by omega, lv_sub hl [0, 1, 2, 3, 4] rfl⟩
set_option maxHeartbeats 4000000 in
set_option maxRecDepth 100000 in
theorem lc_16 {p : Program} {l : Launch} {e : Env} {s : State} {m : MethodId} {below : List Frame} {meth : Method} {c : Code} {D : va_G} {T : Nat → ClassId} {b L : Nat} {xs : Nat → Int32} {Q : State → Prop} (C : kLC p l s m c D T b L xs) (hL : L ≤ 1024) {po ouA mo : Nat} {a mm : Nat → Nat} {j : Nat} (hj : 2 * j + 1 < L)
    (kk : ∀ (v : ST) (hk hz : Nat) (sl : Nat → ST) (x : CT) (ouF : Nat → Int64) (al hy : Nat → Int32) (hn : Nat) (y : MT) (H : Heap) (locs : List Loc) (cells slots : Nat) (ls : Array Slot), kLS s D T b po ouA mo a mm j (j + 1) v hk hz sl x ouF al hy hn y H locs cells slots ls → W p l e room_1 s m #[Value.ref b] below meth c H locs cells slots Q (F0 m 1405 ls []))
    (v : ST) (hk hz : Nat) (sl : Nat → ST) (x : CT) (ouF : Nat → Int64) (al hy : Nat → Int32) (hn : Nat) (y : MT) (H : Heap) (locs : List Loc) (cells slots : Nat) (ls : Array Slot) (S : kLS s D T b po ouA mo a mm j j v hk hz sl x ouF al hy hn y H locs cells slots ls) : W p l e room_1 s m #[Value.ref b] below meth c H locs cells slots Q (F0 m 811 ls []) := by
  obtain ⟨hx, hb, hml, hown, hts, hX, hbl, hst9, hC, hXX, hZ, hE, hNc⟩ := C
  obtain ⟨hR, hP, hD, hS, hce, hso, hl⟩ := S
  have hA : ∀ q : Nat, s.heap.size ≤ q → (fun q : Nat => s.heap.size ≤ q) q := fun _ h => h
  have hbA : ¬ (fun q : Nat => s.heap.size ≤ q) b := Nat.not_le.mpr hbl
  have hin : vp_in (nI (2 * j + 1)) L := vp_in_nI hj (by omega)
  obtain ⟨v', hk', hz', sl', x', ouF', al', hy', hn', y', k, b', hW, hM, hth, hou, hR'⟩ := op_nextTakenOver hst9 D T po ouA a mo mm ouF hR
  refine lv_aload_n hx hb dL_law_811 rfl (lv_at hl 1 rfl) ?_
  refine lv_aload_n hx hb dL_law_812 rfl (lv_at hl 3 rfl) ?_
  refine kWS (As := [.ref po, .ref ouA]) (rest := []) ⟨hx, hb, hml, hown, hts⟩ hW (vx_cwSW 2 hts gL_law_L_nextTakenOver rfl rfl rfl (by decide +kernel) ⟨Nat.le_of_ble_eq_true rfl, Nat.le_of_ble_eq_true rfl⟩) hC hXX hZ hE hNc hP hD hS hA rfl hl.1 rfl (Nat.le_of_ble_eq_true rfl) dL_law_813 ⟨(by show cells + 1 ≤ 601024; omega), (by show slots + 6 ≤ 7293034; omega)⟩ (fun H locs hP hD hS => ?_)
  refine W.eq (g2 := F0 m 816 ls [.int k]) rfl ?_
  refine lv_istore (lv' := [(5, .int k), (0, .ref b), (1, .ref po), (2, .ref mo), (3, .ref ouA), (4, .int (nI (2 * j)))]) hx hb dL_law_816 hl (by decide) rfl (fun ls hl => ?_)
  refine lv_aload_n hx hb dL_law_818 rfl (lv_at hl 3 rfl) ?_
  have hP := va_P_perm List.perm_append_comm hP
  have hD := va_D_perm List.perm_append_comm hD
  refine kV (ci := 8) (As := []) (rest := []) ⟨hx, hb, hml, hown, hts⟩ hM (cwV 0 hts gL_law_X9_nextTakenOver rfl rfl rfl (by decide +kernel) ⟨Nat.le_of_ble_eq_true rfl, Nat.le_of_ble_eq_true rfl⟩) hC hP hD hS hA rfl rfl rfl hl.1 rfl (Nat.le_of_ble_eq_true rfl) dL_law_819 ⟨(by show cells + 1 ≤ 601024; omega), (by show slots + 6 ≤ 7293034; omega)⟩ (fun H locs hP hD hS => ?_)
  refine W.eq (g2 := F0 m 822 ls [.int b']) rfl ?_
  refine lv_istore (lv' := [(6, .int b'), (5, .int k), (0, .ref b), (1, .ref po), (2, .ref mo), (3, .ref ouA), (4, .int (nI (2 * j)))]) hx hb dL_law_822 hl (by decide) rfl (fun ls hl => ?_)
  refine lv_aload_n hx hb dL_law_824 rfl (lv_at hl 4 rfl) ?_
  refine kV (ci := 8) (As := []) (rest := []) ⟨hx, hb, hml, hown, hts⟩ (op_thrown (l := l) D T mo mm al' hy' hn' y') (cwV 0 hts gL_law_X9_thrown rfl rfl rfl (by decide +kernel) ⟨Nat.le_of_ble_eq_true rfl, Nat.le_of_ble_eq_true rfl⟩) hC hP hD hS hA rfl rfl rfl hl.1 rfl (Nat.le_of_ble_eq_true rfl) dL_law_825 ⟨(by show cells + 1 ≤ 601024; omega), (by show slots + 6 ≤ 7293034; omega)⟩ (fun H locs hP hD hS => ?_)
  refine W.eq (g2 := F0 m 828 ls [.int y'.1]) rfl ?_
  refine lv_iload hx hb dL_law_828 (lv_at hl 1 rfl) ?_
  refine lv_icmp_eq (tgt := 835) hx hb dL_law_830 (by decide) (fun _ => ?_) (fun c9 => absurd hth c9)
  refine lv_iload hx hb dL_law_835 (lv_at hl 1 rfl) ?_
  refine lv_if_ne (tgt := 852) hx hb dL_law_837 (by decide) (fun _ => ?_) (fun hk0 => ?_)
  · refine lv_goto (tgt := 1405) hx hb dL_law_852 (by decide) ?_
    exact kk v' hk' hz' sl' x' ouF' al' hy' hn' y' _ _ _ _ ls ⟨hR', va_P_perm List.perm_append_comm hP, va_D_perm List.perm_append_comm hD, hS, by omega, by omega, lv_sub hl [2, 3, 4, 5, 6] rfl⟩
  · refine lv_aload_n hx hb dL_law_840 rfl (lv_at hl 5 rfl) ?_
    refine lv_iconst (v := 0) hx hb dL_law_841 (by decide) ?_
    refine va_lald hx hb hC.1 hP 115 2 rfl rfl (k_nin (i := 0) (by decide) (by decide)) dL_law_842 ?_
    refine lv_iload hx hb dL_law_843 (lv_at hl 0 rfl) ?_
    refine lv_i2l (v := b'.toInt64) hx hb dL_law_845 rfl ?_
    refine W.lcmp hx hb dL_law_846 ?_
    refine lv_if_eq (tgt := 852) hx hb dL_law_847 (by decide) (fun _ => ?_) (fun c9 => absurd (kLc (hou hk0)) c9)
    refine lv_goto (tgt := 1405) hx hb dL_law_852 (by decide) ?_
    exact kk v' hk' hz' sl' x' ouF' al' hy' hn' y' _ _ _ _ ls ⟨hR', va_P_perm List.perm_append_comm hP, va_D_perm List.perm_append_comm hD, hS, by omega, by omega, lv_sub hl [2, 3, 4, 5, 6] rfl⟩
set_option maxHeartbeats 4000000 in
set_option maxRecDepth 100000 in
theorem lc_17 {p : Program} {l : Launch} {e : Env} {s : State} {m : MethodId} {below : List Frame} {meth : Method} {c : Code} {D : va_G} {T : Nat → ClassId} {b L : Nat} {xs : Nat → Int32} {Q : State → Prop} (C : kLC p l s m c D T b L xs) (hL : L ≤ 1024) {po ouA mo : Nat} {a mm : Nat → Nat} {j : Nat} (hj : 2 * j + 1 < L)
    (kk : ∀ (v : ST) (hk hz : Nat) (sl : Nat → ST) (x : CT) (ouF : Nat → Int64) (al hy : Nat → Int32) (hn : Nat) (y : MT) (H : Heap) (locs : List Loc) (cells slots : Nat) (ls : Array Slot), kLS s D T b po ouA mo a mm j (j + 1) v hk hz sl x ouF al hy hn y H locs cells slots ls → W p l e room_1 s m #[Value.ref b] below meth c H locs cells slots Q (F0 m 1405 ls []))
    (v : ST) (hk hz : Nat) (sl : Nat → ST) (x : CT) (ouF : Nat → Int64) (al hy : Nat → Int32) (hn : Nat) (y : MT) (H : Heap) (locs : List Loc) (cells slots : Nat) (ls : Array Slot) (S : kLS s D T b po ouA mo a mm j j v hk hz sl x ouF al hy hn y H locs cells slots ls) : W p l e room_1 s m #[Value.ref b] below meth c H locs cells slots Q (F0 m 855 ls []) := by
  obtain ⟨hx, hb, hml, hown, hts, hX, hbl, hst9, hC, hXX, hZ, hE, hNc⟩ := C
  obtain ⟨hR, hP, hD, hS, hce, hso, hl⟩ := S
  have hA : ∀ q : Nat, s.heap.size ≤ q → (fun q : Nat => s.heap.size ≤ q) q := fun _ h => h
  have hbA : ¬ (fun q : Nat => s.heap.size ≤ q) b := Nat.not_le.mpr hbl
  have hin : vp_in (nI (2 * j + 1)) L := vp_in_nI hj (by omega)
  obtain ⟨v', hk', hz', sl', x', ouF', al', hy', hn', y', k, b', hW, hM, hth, hou, hR'⟩ := op_loudest hst9 D T po ouA a mo mm ouF hR (xs (nI (2 * j + 1)).toNatClampNeg)
  refine lv_aload_n hx hb dL_law_855 rfl (lv_at hl 1 rfl) ?_
  refine lv_aload_n hx hb dL_law_856 rfl (lv_at hl 0 rfl) ?_
  refine lv_iload hx hb dL_law_857 (lv_at hl 4 rfl) ?_
  refine lv_iconst (v := 1) hx hb dL_law_859 (by decide) ?_
  refine lv_iadd hx hb dL_law_860 ?_
  refine W.eq (g2 := F0 m 861 ls [.int (nI (2 * j + 1)), .ref b, .ref po]) (by rw [nI_1]) ?_
  refine va_sld hx hb hX hbl hbA hS hin dL_law_861 ?_
  refine lv_aload_n hx hb dL_law_862 rfl (lv_at hl 3 rfl) ?_
  refine kWS (As := [.ref po, .int (xs (nI (2 * j + 1)).toNatClampNeg), .ref ouA]) (rest := []) ⟨hx, hb, hml, hown, hts⟩ hW (vx_cwSW 3 hts gL_law_L_loudest rfl rfl rfl (by decide +kernel) ⟨Nat.le_of_ble_eq_true rfl, Nat.le_of_ble_eq_true rfl⟩) hC hXX hZ hE hNc hP hD hS hA rfl hl.1 rfl (Nat.le_of_ble_eq_true rfl) dL_law_863 ⟨(by show cells + 1 ≤ 601024; omega), (by show slots + 6 ≤ 7293034; omega)⟩ (fun H locs hP hD hS => ?_)
  refine W.eq (g2 := F0 m 866 ls [.int k]) rfl ?_
  refine lv_istore (lv' := [(5, .int k), (0, .ref b), (1, .ref po), (2, .ref mo), (3, .ref ouA), (4, .int (nI (2 * j)))]) hx hb dL_law_866 hl (by decide) rfl (fun ls hl => ?_)
  refine lv_aload_n hx hb dL_law_868 rfl (lv_at hl 3 rfl) ?_
  refine lv_aload_n hx hb dL_law_869 rfl (lv_at hl 1 rfl) ?_
  refine lv_iload hx hb dL_law_870 (lv_at hl 5 rfl) ?_
  refine lv_iconst (v := 1) hx hb dL_law_872 (by decide) ?_
  refine lv_iadd hx hb dL_law_873 ?_
  refine W.eq (g2 := F0 m 874 ls [.int (nI (2 * j + 1)), .ref b, .ref mo]) (by rw [nI_1]) ?_
  refine va_sld hx hb hX hbl hbA hS hin dL_law_874 ?_
  have hP := va_P_perm List.perm_append_comm hP
  have hD := va_D_perm List.perm_append_comm hD
  refine kV (ci := 8) (As := [.int (xs (nI (2 * j + 1)).toNatClampNeg)]) (rest := []) ⟨hx, hb, hml, hown, hts⟩ hM (cwV 1 hts gL_law_X9_loudest rfl rfl rfl (by decide +kernel) ⟨Nat.le_of_ble_eq_true rfl, Nat.le_of_ble_eq_true rfl⟩) hC hP hD hS hA rfl rfl rfl hl.1 rfl (Nat.le_of_ble_eq_true rfl) dL_law_875 ⟨(by show cells + 1 ≤ 601024; omega), (by show slots + 6 ≤ 7293034; omega)⟩ (fun H locs hP hD hS => ?_)
  refine W.eq (g2 := F0 m 878 ls [.int b']) rfl ?_
  refine lv_istore (lv' := [(6, .int b'), (5, .int k), (0, .ref b), (1, .ref po), (2, .ref mo), (3, .ref ouA), (4, .int (nI (2 * j)))]) hx hb dL_law_878 hl (by decide) rfl (fun ls hl => ?_)
  refine lv_aload_n hx hb dL_law_880 rfl (lv_at hl 4 rfl) ?_
  refine kV (ci := 8) (As := []) (rest := []) ⟨hx, hb, hml, hown, hts⟩ (op_thrown (l := l) D T mo mm al' hy' hn' y') (cwV 0 hts gL_law_X9_thrown rfl rfl rfl (by decide +kernel) ⟨Nat.le_of_ble_eq_true rfl, Nat.le_of_ble_eq_true rfl⟩) hC hP hD hS hA rfl rfl rfl hl.1 rfl (Nat.le_of_ble_eq_true rfl) dL_law_881 ⟨(by show cells + 1 ≤ 601024; omega), (by show slots + 6 ≤ 7293034; omega)⟩ (fun H locs hP hD hS => ?_)
  refine W.eq (g2 := F0 m 884 ls [.int y'.1]) rfl ?_
  refine lv_iload hx hb dL_law_884 (lv_at hl 1 rfl) ?_
  refine lv_icmp_eq (tgt := 891) hx hb dL_law_886 (by decide) (fun _ => ?_) (fun c9 => absurd hth c9)
  refine lv_iload hx hb dL_law_891 (lv_at hl 1 rfl) ?_
  refine lv_if_ne (tgt := 908) hx hb dL_law_893 (by decide) (fun _ => ?_) (fun hk0 => ?_)
  · refine lv_goto (tgt := 1405) hx hb dL_law_908 (by decide) ?_
    exact kk v' hk' hz' sl' x' ouF' al' hy' hn' y' _ _ _ _ ls ⟨hR', va_P_perm List.perm_append_comm hP, va_D_perm List.perm_append_comm hD, hS, by omega, by omega, lv_sub hl [2, 3, 4, 5, 6] rfl⟩
  · refine lv_aload_n hx hb dL_law_896 rfl (lv_at hl 5 rfl) ?_
    refine lv_iconst (v := 0) hx hb dL_law_897 (by decide) ?_
    refine va_lald hx hb hC.1 hP 115 2 rfl rfl (k_nin (i := 0) (by decide) (by decide)) dL_law_898 ?_
    refine lv_iload hx hb dL_law_899 (lv_at hl 0 rfl) ?_
    refine lv_i2l (v := b'.toInt64) hx hb dL_law_901 rfl ?_
    refine W.lcmp hx hb dL_law_902 ?_
    refine lv_if_eq (tgt := 908) hx hb dL_law_903 (by decide) (fun _ => ?_) (fun c9 => absurd (kLc (hou hk0)) c9)
    refine lv_goto (tgt := 1405) hx hb dL_law_908 (by decide) ?_
    exact kk v' hk' hz' sl' x' ouF' al' hy' hn' y' _ _ _ _ ls ⟨hR', va_P_perm List.perm_append_comm hP, va_D_perm List.perm_append_comm hD, hS, by omega, by omega, lv_sub hl [2, 3, 4, 5, 6] rfl⟩
set_option maxHeartbeats 4000000 in
set_option maxRecDepth 100000 in
theorem lc_18 {p : Program} {l : Launch} {e : Env} {s : State} {m : MethodId} {below : List Frame} {meth : Method} {c : Code} {D : va_G} {T : Nat → ClassId} {b L : Nat} {xs : Nat → Int32} {Q : State → Prop} (C : kLC p l s m c D T b L xs) (hL : L ≤ 1024) {po ouA mo : Nat} {a mm : Nat → Nat} {j : Nat} (hj : 2 * j + 1 < L)
    (kk : ∀ (v : ST) (hk hz : Nat) (sl : Nat → ST) (x : CT) (ouF : Nat → Int64) (al hy : Nat → Int32) (hn : Nat) (y : MT) (H : Heap) (locs : List Loc) (cells slots : Nat) (ls : Array Slot), kLS s D T b po ouA mo a mm j (j + 1) v hk hz sl x ouF al hy hn y H locs cells slots ls → W p l e room_1 s m #[Value.ref b] below meth c H locs cells slots Q (F0 m 1405 ls []))
    (v : ST) (hk hz : Nat) (sl : Nat → ST) (x : CT) (ouF : Nat → Int64) (al hy : Nat → Int32) (hn : Nat) (y : MT) (H : Heap) (locs : List Loc) (cells slots : Nat) (ls : Array Slot) (S : kLS s D T b po ouA mo a mm j j v hk hz sl x ouF al hy hn y H locs cells slots ls) : W p l e room_1 s m #[Value.ref b] below meth c H locs cells slots Q (F0 m 911 ls []) := by
  obtain ⟨hx, hb, hml, hown, hts, hX, hbl, hst9, hC, hXX, hZ, hE, hNc⟩ := C
  obtain ⟨hR, hP, hD, hS, hce, hso, hl⟩ := S
  have hA : ∀ q : Nat, s.heap.size ≤ q → (fun q : Nat => s.heap.size ≤ q) q := fun _ h => h
  have hbA : ¬ (fun q : Nat => s.heap.size ≤ q) b := Nat.not_le.mpr hbl
  have hin : vp_in (nI (2 * j + 1)) L := vp_in_nI hj (by omega)
  obtain ⟨v', hk', hz', sl', x', ouF', al', hy', hn', y', k, b', hW, hM, hth, hou, hR'⟩ := op_surelyAbove hst9 D T po ouA a mo mm ouF hR (xs (nI (2 * j + 1)).toNatClampNeg)
  refine lv_aload_n hx hb dL_law_911 rfl (lv_at hl 1 rfl) ?_
  refine lv_aload_n hx hb dL_law_912 rfl (lv_at hl 0 rfl) ?_
  refine lv_iload hx hb dL_law_913 (lv_at hl 4 rfl) ?_
  refine lv_iconst (v := 1) hx hb dL_law_915 (by decide) ?_
  refine lv_iadd hx hb dL_law_916 ?_
  refine W.eq (g2 := F0 m 917 ls [.int (nI (2 * j + 1)), .ref b, .ref po]) (by rw [nI_1]) ?_
  refine va_sld hx hb hX hbl hbA hS hin dL_law_917 ?_
  refine lv_aload_n hx hb dL_law_918 rfl (lv_at hl 3 rfl) ?_
  refine kWS (As := [.ref po, .int (xs (nI (2 * j + 1)).toNatClampNeg), .ref ouA]) (rest := []) ⟨hx, hb, hml, hown, hts⟩ hW (vx_cwSW 3 hts gL_law_L_surelyAbove rfl rfl rfl (by decide +kernel) ⟨Nat.le_of_ble_eq_true rfl, Nat.le_of_ble_eq_true rfl⟩) hC hXX hZ hE hNc hP hD hS hA rfl hl.1 rfl (Nat.le_of_ble_eq_true rfl) dL_law_919 ⟨(by show cells + 1 ≤ 601024; omega), (by show slots + 6 ≤ 7293034; omega)⟩ (fun H locs hP hD hS => ?_)
  refine W.eq (g2 := F0 m 922 ls [.int k]) rfl ?_
  refine lv_istore (lv' := [(5, .int k), (0, .ref b), (1, .ref po), (2, .ref mo), (3, .ref ouA), (4, .int (nI (2 * j)))]) hx hb dL_law_922 hl (by decide) rfl (fun ls hl => ?_)
  refine lv_aload_n hx hb dL_law_924 rfl (lv_at hl 3 rfl) ?_
  refine lv_aload_n hx hb dL_law_925 rfl (lv_at hl 1 rfl) ?_
  refine lv_iload hx hb dL_law_926 (lv_at hl 5 rfl) ?_
  refine lv_iconst (v := 1) hx hb dL_law_928 (by decide) ?_
  refine lv_iadd hx hb dL_law_929 ?_
  refine W.eq (g2 := F0 m 930 ls [.int (nI (2 * j + 1)), .ref b, .ref mo]) (by rw [nI_1]) ?_
  refine va_sld hx hb hX hbl hbA hS hin dL_law_930 ?_
  have hP := va_P_perm List.perm_append_comm hP
  have hD := va_D_perm List.perm_append_comm hD
  refine kV (ci := 8) (As := [.int (xs (nI (2 * j + 1)).toNatClampNeg)]) (rest := []) ⟨hx, hb, hml, hown, hts⟩ hM (cwV 1 hts gL_law_X9_surelyAbove rfl rfl rfl (by decide +kernel) ⟨Nat.le_of_ble_eq_true rfl, Nat.le_of_ble_eq_true rfl⟩) hC hP hD hS hA rfl rfl rfl hl.1 rfl (Nat.le_of_ble_eq_true rfl) dL_law_931 ⟨(by show cells + 1 ≤ 601024; omega), (by show slots + 6 ≤ 7293034; omega)⟩ (fun H locs hP hD hS => ?_)
  refine W.eq (g2 := F0 m 934 ls [.int b']) rfl ?_
  refine lv_istore (lv' := [(6, .int b'), (5, .int k), (0, .ref b), (1, .ref po), (2, .ref mo), (3, .ref ouA), (4, .int (nI (2 * j)))]) hx hb dL_law_934 hl (by decide) rfl (fun ls hl => ?_)
  refine lv_aload_n hx hb dL_law_936 rfl (lv_at hl 4 rfl) ?_
  refine kV (ci := 8) (As := []) (rest := []) ⟨hx, hb, hml, hown, hts⟩ (op_thrown (l := l) D T mo mm al' hy' hn' y') (cwV 0 hts gL_law_X9_thrown rfl rfl rfl (by decide +kernel) ⟨Nat.le_of_ble_eq_true rfl, Nat.le_of_ble_eq_true rfl⟩) hC hP hD hS hA rfl rfl rfl hl.1 rfl (Nat.le_of_ble_eq_true rfl) dL_law_937 ⟨(by show cells + 1 ≤ 601024; omega), (by show slots + 6 ≤ 7293034; omega)⟩ (fun H locs hP hD hS => ?_)
  refine W.eq (g2 := F0 m 940 ls [.int y'.1]) rfl ?_
  refine lv_iload hx hb dL_law_940 (lv_at hl 1 rfl) ?_
  refine lv_icmp_eq (tgt := 947) hx hb dL_law_942 (by decide) (fun _ => ?_) (fun c9 => absurd hth c9)
  refine lv_iload hx hb dL_law_947 (lv_at hl 1 rfl) ?_
  refine lv_if_ne (tgt := 964) hx hb dL_law_949 (by decide) (fun _ => ?_) (fun hk0 => ?_)
  · refine lv_goto (tgt := 1405) hx hb dL_law_964 (by decide) ?_
    exact kk v' hk' hz' sl' x' ouF' al' hy' hn' y' _ _ _ _ ls ⟨hR', va_P_perm List.perm_append_comm hP, va_D_perm List.perm_append_comm hD, hS, by omega, by omega, lv_sub hl [2, 3, 4, 5, 6] rfl⟩
  · refine lv_aload_n hx hb dL_law_952 rfl (lv_at hl 5 rfl) ?_
    refine lv_iconst (v := 0) hx hb dL_law_953 (by decide) ?_
    refine va_lald hx hb hC.1 hP 115 2 rfl rfl (k_nin (i := 0) (by decide) (by decide)) dL_law_954 ?_
    refine lv_iload hx hb dL_law_955 (lv_at hl 0 rfl) ?_
    refine lv_i2l (v := b'.toInt64) hx hb dL_law_957 rfl ?_
    refine W.lcmp hx hb dL_law_958 ?_
    refine lv_if_eq (tgt := 964) hx hb dL_law_959 (by decide) (fun _ => ?_) (fun c9 => absurd (kLc (hou hk0)) c9)
    refine lv_goto (tgt := 1405) hx hb dL_law_964 (by decide) ?_
    exact kk v' hk' hz' sl' x' ouF' al' hy' hn' y' _ _ _ _ ls ⟨hR', va_P_perm List.perm_append_comm hP, va_D_perm List.perm_append_comm hD, hS, by omega, by omega, lv_sub hl [2, 3, 4, 5, 6] rfl⟩
set_option maxHeartbeats 4000000 in
set_option maxRecDepth 100000 in
theorem lc_19 {p : Program} {l : Launch} {e : Env} {s : State} {m : MethodId} {below : List Frame} {meth : Method} {c : Code} {D : va_G} {T : Nat → ClassId} {b L : Nat} {xs : Nat → Int32} {Q : State → Prop} (C : kLC p l s m c D T b L xs) (hL : L ≤ 1024) {po ouA mo : Nat} {a mm : Nat → Nat} {j : Nat} (hj : 2 * j + 1 < L)
    (kk : ∀ (v : ST) (hk hz : Nat) (sl : Nat → ST) (x : CT) (ouF : Nat → Int64) (al hy : Nat → Int32) (hn : Nat) (y : MT) (H : Heap) (locs : List Loc) (cells slots : Nat) (ls : Array Slot), kLS s D T b po ouA mo a mm j (j + 1) v hk hz sl x ouF al hy hn y H locs cells slots ls → W p l e room_1 s m #[Value.ref b] below meth c H locs cells slots Q (F0 m 1405 ls []))
    (v : ST) (hk hz : Nat) (sl : Nat → ST) (x : CT) (ouF : Nat → Int64) (al hy : Nat → Int32) (hn : Nat) (y : MT) (H : Heap) (locs : List Loc) (cells slots : Nat) (ls : Array Slot) (S : kLS s D T b po ouA mo a mm j j v hk hz sl x ouF al hy hn y H locs cells slots ls) : W p l e room_1 s m #[Value.ref b] below meth c H locs cells slots Q (F0 m 967 ls []) := by
  obtain ⟨hx, hb, hml, hown, hts, hX, hbl, hst9, hC, hXX, hZ, hE, hNc⟩ := C
  obtain ⟨hR, hP, hD, hS, hce, hso, hl⟩ := S
  have hA : ∀ q : Nat, s.heap.size ≤ q → (fun q : Nat => s.heap.size ≤ q) q := fun _ h => h
  have hbA : ¬ (fun q : Nat => s.heap.size ≤ q) b := Nat.not_le.mpr hbl
  have hin : vp_in (nI (2 * j + 1)) L := vp_in_nI hj (by omega)
  obtain ⟨v', hk', hz', sl', x', ouF', al', hy', hn', y', k, b', hW, hM, hth, hou, hR'⟩ := op_perhapsAbove hst9 D T po ouA a mo mm ouF hR (xs (nI (2 * j + 1)).toNatClampNeg)
  refine lv_aload_n hx hb dL_law_967 rfl (lv_at hl 1 rfl) ?_
  refine lv_aload_n hx hb dL_law_968 rfl (lv_at hl 0 rfl) ?_
  refine lv_iload hx hb dL_law_969 (lv_at hl 4 rfl) ?_
  refine lv_iconst (v := 1) hx hb dL_law_971 (by decide) ?_
  refine lv_iadd hx hb dL_law_972 ?_
  refine W.eq (g2 := F0 m 973 ls [.int (nI (2 * j + 1)), .ref b, .ref po]) (by rw [nI_1]) ?_
  refine va_sld hx hb hX hbl hbA hS hin dL_law_973 ?_
  refine lv_aload_n hx hb dL_law_974 rfl (lv_at hl 3 rfl) ?_
  refine kWS (As := [.ref po, .int (xs (nI (2 * j + 1)).toNatClampNeg), .ref ouA]) (rest := []) ⟨hx, hb, hml, hown, hts⟩ hW (vx_cwSW 3 hts gL_law_L_perhapsAbove rfl rfl rfl (by decide +kernel) ⟨Nat.le_of_ble_eq_true rfl, Nat.le_of_ble_eq_true rfl⟩) hC hXX hZ hE hNc hP hD hS hA rfl hl.1 rfl (Nat.le_of_ble_eq_true rfl) dL_law_975 ⟨(by show cells + 1 ≤ 601024; omega), (by show slots + 6 ≤ 7293034; omega)⟩ (fun H locs hP hD hS => ?_)
  refine W.eq (g2 := F0 m 978 ls [.int k]) rfl ?_
  refine lv_istore (lv' := [(5, .int k), (0, .ref b), (1, .ref po), (2, .ref mo), (3, .ref ouA), (4, .int (nI (2 * j)))]) hx hb dL_law_978 hl (by decide) rfl (fun ls hl => ?_)
  refine lv_aload_n hx hb dL_law_980 rfl (lv_at hl 3 rfl) ?_
  refine lv_aload_n hx hb dL_law_981 rfl (lv_at hl 1 rfl) ?_
  refine lv_iload hx hb dL_law_982 (lv_at hl 5 rfl) ?_
  refine lv_iconst (v := 1) hx hb dL_law_984 (by decide) ?_
  refine lv_iadd hx hb dL_law_985 ?_
  refine W.eq (g2 := F0 m 986 ls [.int (nI (2 * j + 1)), .ref b, .ref mo]) (by rw [nI_1]) ?_
  refine va_sld hx hb hX hbl hbA hS hin dL_law_986 ?_
  have hP := va_P_perm List.perm_append_comm hP
  have hD := va_D_perm List.perm_append_comm hD
  refine kV (ci := 8) (As := [.int (xs (nI (2 * j + 1)).toNatClampNeg)]) (rest := []) ⟨hx, hb, hml, hown, hts⟩ hM (cwV 1 hts gL_law_X9_perhapsAbove rfl rfl rfl (by decide +kernel) ⟨Nat.le_of_ble_eq_true rfl, Nat.le_of_ble_eq_true rfl⟩) hC hP hD hS hA rfl rfl rfl hl.1 rfl (Nat.le_of_ble_eq_true rfl) dL_law_987 ⟨(by show cells + 1 ≤ 601024; omega), (by show slots + 6 ≤ 7293034; omega)⟩ (fun H locs hP hD hS => ?_)
  refine W.eq (g2 := F0 m 990 ls [.int b']) rfl ?_
  refine lv_istore (lv' := [(6, .int b'), (5, .int k), (0, .ref b), (1, .ref po), (2, .ref mo), (3, .ref ouA), (4, .int (nI (2 * j)))]) hx hb dL_law_990 hl (by decide) rfl (fun ls hl => ?_)
  refine lv_aload_n hx hb dL_law_992 rfl (lv_at hl 4 rfl) ?_
  refine kV (ci := 8) (As := []) (rest := []) ⟨hx, hb, hml, hown, hts⟩ (op_thrown (l := l) D T mo mm al' hy' hn' y') (cwV 0 hts gL_law_X9_thrown rfl rfl rfl (by decide +kernel) ⟨Nat.le_of_ble_eq_true rfl, Nat.le_of_ble_eq_true rfl⟩) hC hP hD hS hA rfl rfl rfl hl.1 rfl (Nat.le_of_ble_eq_true rfl) dL_law_993 ⟨(by show cells + 1 ≤ 601024; omega), (by show slots + 6 ≤ 7293034; omega)⟩ (fun H locs hP hD hS => ?_)
  refine W.eq (g2 := F0 m 996 ls [.int y'.1]) rfl ?_
  refine lv_iload hx hb dL_law_996 (lv_at hl 1 rfl) ?_
  refine lv_icmp_eq (tgt := 1003) hx hb dL_law_998 (by decide) (fun _ => ?_) (fun c9 => absurd hth c9)
  refine lv_iload hx hb dL_law_1003 (lv_at hl 1 rfl) ?_
  refine lv_if_ne (tgt := 1020) hx hb dL_law_1005 (by decide) (fun _ => ?_) (fun hk0 => ?_)
  · refine lv_goto (tgt := 1405) hx hb dL_law_1020 (by decide) ?_
    exact kk v' hk' hz' sl' x' ouF' al' hy' hn' y' _ _ _ _ ls ⟨hR', va_P_perm List.perm_append_comm hP, va_D_perm List.perm_append_comm hD, hS, by omega, by omega, lv_sub hl [2, 3, 4, 5, 6] rfl⟩
  · refine lv_aload_n hx hb dL_law_1008 rfl (lv_at hl 5 rfl) ?_
    refine lv_iconst (v := 0) hx hb dL_law_1009 (by decide) ?_
    refine va_lald hx hb hC.1 hP 115 2 rfl rfl (k_nin (i := 0) (by decide) (by decide)) dL_law_1010 ?_
    refine lv_iload hx hb dL_law_1011 (lv_at hl 0 rfl) ?_
    refine lv_i2l (v := b'.toInt64) hx hb dL_law_1013 rfl ?_
    refine W.lcmp hx hb dL_law_1014 ?_
    refine lv_if_eq (tgt := 1020) hx hb dL_law_1015 (by decide) (fun _ => ?_) (fun c9 => absurd (kLc (hou hk0)) c9)
    refine lv_goto (tgt := 1405) hx hb dL_law_1020 (by decide) ?_
    exact kk v' hk' hz' sl' x' ouF' al' hy' hn' y' _ _ _ _ ls ⟨hR', va_P_perm List.perm_append_comm hP, va_D_perm List.perm_append_comm hD, hS, by omega, by omega, lv_sub hl [2, 3, 4, 5, 6] rfl⟩
set_option maxHeartbeats 4000000 in
set_option maxRecDepth 100000 in
theorem lc_20 {p : Program} {l : Launch} {e : Env} {s : State} {m : MethodId} {below : List Frame} {meth : Method} {c : Code} {D : va_G} {T : Nat → ClassId} {b L : Nat} {xs : Nat → Int32} {Q : State → Prop} (C : kLC p l s m c D T b L xs) (hL : L ≤ 1024) {po ouA mo : Nat} {a mm : Nat → Nat} {j : Nat} (hj : 2 * j + 1 < L)
    (kk : ∀ (v : ST) (hk hz : Nat) (sl : Nat → ST) (x : CT) (ouF : Nat → Int64) (al hy : Nat → Int32) (hn : Nat) (y : MT) (H : Heap) (locs : List Loc) (cells slots : Nat) (ls : Array Slot), kLS s D T b po ouA mo a mm j (j + 1) v hk hz sl x ouF al hy hn y H locs cells slots ls → W p l e room_1 s m #[Value.ref b] below meth c H locs cells slots Q (F0 m 1405 ls []))
    (v : ST) (hk hz : Nat) (sl : Nat → ST) (x : CT) (ouF : Nat → Int64) (al hy : Nat → Int32) (hn : Nat) (y : MT) (H : Heap) (locs : List Loc) (cells slots : Nat) (ls : Array Slot) (S : kLS s D T b po ouA mo a mm j j v hk hz sl x ouF al hy hn y H locs cells slots ls) : W p l e room_1 s m #[Value.ref b] below meth c H locs cells slots Q (F0 m 1023 ls []) := by
  obtain ⟨hx, hb, hml, hown, hts, hX, hbl, hst9, hC, hXX, hZ, hE, hNc⟩ := C
  obtain ⟨hR, hP, hD, hS, hce, hso, hl⟩ := S
  have hA : ∀ q : Nat, s.heap.size ≤ q → (fun q : Nat => s.heap.size ≤ q) q := fun _ h => h
  have hbA : ¬ (fun q : Nat => s.heap.size ≤ q) b := Nat.not_le.mpr hbl
  have hin : vp_in (nI (2 * j + 1)) L := vp_in_nI hj (by omega)
  obtain ⟨v', hk', hz', sl', x', ouF', al', hy', hn', y', k, b', hW, hM, hth, hou, hR'⟩ := op_trulyAbove hst9 D T po ouA a mo mm ouF hR (xs (nI (2 * j + 1)).toNatClampNeg)
  refine lv_aload_n hx hb dL_law_1023 rfl (lv_at hl 1 rfl) ?_
  refine lv_aload_n hx hb dL_law_1024 rfl (lv_at hl 0 rfl) ?_
  refine lv_iload hx hb dL_law_1025 (lv_at hl 4 rfl) ?_
  refine lv_iconst (v := 1) hx hb dL_law_1027 (by decide) ?_
  refine lv_iadd hx hb dL_law_1028 ?_
  refine W.eq (g2 := F0 m 1029 ls [.int (nI (2 * j + 1)), .ref b, .ref po]) (by rw [nI_1]) ?_
  refine va_sld hx hb hX hbl hbA hS hin dL_law_1029 ?_
  refine lv_aload_n hx hb dL_law_1030 rfl (lv_at hl 3 rfl) ?_
  refine kWS (As := [.ref po, .int (xs (nI (2 * j + 1)).toNatClampNeg), .ref ouA]) (rest := []) ⟨hx, hb, hml, hown, hts⟩ hW (vx_cwSW 3 hts gL_law_L_trulyAbove rfl rfl rfl (by decide +kernel) ⟨Nat.le_of_ble_eq_true rfl, Nat.le_of_ble_eq_true rfl⟩) hC hXX hZ hE hNc hP hD hS hA rfl hl.1 rfl (Nat.le_of_ble_eq_true rfl) dL_law_1031 ⟨(by show cells + 1 ≤ 601024; omega), (by show slots + 6 ≤ 7293034; omega)⟩ (fun H locs hP hD hS => ?_)
  refine W.eq (g2 := F0 m 1034 ls [.int k]) rfl ?_
  refine lv_istore (lv' := [(5, .int k), (0, .ref b), (1, .ref po), (2, .ref mo), (3, .ref ouA), (4, .int (nI (2 * j)))]) hx hb dL_law_1034 hl (by decide) rfl (fun ls hl => ?_)
  refine lv_aload_n hx hb dL_law_1036 rfl (lv_at hl 3 rfl) ?_
  refine lv_aload_n hx hb dL_law_1037 rfl (lv_at hl 1 rfl) ?_
  refine lv_iload hx hb dL_law_1038 (lv_at hl 5 rfl) ?_
  refine lv_iconst (v := 1) hx hb dL_law_1040 (by decide) ?_
  refine lv_iadd hx hb dL_law_1041 ?_
  refine W.eq (g2 := F0 m 1042 ls [.int (nI (2 * j + 1)), .ref b, .ref mo]) (by rw [nI_1]) ?_
  refine va_sld hx hb hX hbl hbA hS hin dL_law_1042 ?_
  have hP := va_P_perm List.perm_append_comm hP
  have hD := va_D_perm List.perm_append_comm hD
  refine kV (ci := 8) (As := [.int (xs (nI (2 * j + 1)).toNatClampNeg)]) (rest := []) ⟨hx, hb, hml, hown, hts⟩ hM (cwV 1 hts gL_law_X9_trulyAbove rfl rfl rfl (by decide +kernel) ⟨Nat.le_of_ble_eq_true rfl, Nat.le_of_ble_eq_true rfl⟩) hC hP hD hS hA rfl rfl rfl hl.1 rfl (Nat.le_of_ble_eq_true rfl) dL_law_1043 ⟨(by show cells + 1 ≤ 601024; omega), (by show slots + 6 ≤ 7293034; omega)⟩ (fun H locs hP hD hS => ?_)
  refine W.eq (g2 := F0 m 1046 ls [.int b']) rfl ?_
  refine lv_istore (lv' := [(6, .int b'), (5, .int k), (0, .ref b), (1, .ref po), (2, .ref mo), (3, .ref ouA), (4, .int (nI (2 * j)))]) hx hb dL_law_1046 hl (by decide) rfl (fun ls hl => ?_)
  refine lv_aload_n hx hb dL_law_1048 rfl (lv_at hl 4 rfl) ?_
  refine kV (ci := 8) (As := []) (rest := []) ⟨hx, hb, hml, hown, hts⟩ (op_thrown (l := l) D T mo mm al' hy' hn' y') (cwV 0 hts gL_law_X9_thrown rfl rfl rfl (by decide +kernel) ⟨Nat.le_of_ble_eq_true rfl, Nat.le_of_ble_eq_true rfl⟩) hC hP hD hS hA rfl rfl rfl hl.1 rfl (Nat.le_of_ble_eq_true rfl) dL_law_1049 ⟨(by show cells + 1 ≤ 601024; omega), (by show slots + 6 ≤ 7293034; omega)⟩ (fun H locs hP hD hS => ?_)
  refine W.eq (g2 := F0 m 1052 ls [.int y'.1]) rfl ?_
  refine lv_iload hx hb dL_law_1052 (lv_at hl 1 rfl) ?_
  refine lv_icmp_eq (tgt := 1059) hx hb dL_law_1054 (by decide) (fun _ => ?_) (fun c9 => absurd hth c9)
  refine lv_iload hx hb dL_law_1059 (lv_at hl 1 rfl) ?_
  refine lv_if_ne (tgt := 1076) hx hb dL_law_1061 (by decide) (fun _ => ?_) (fun hk0 => ?_)
  · refine lv_goto (tgt := 1405) hx hb dL_law_1076 (by decide) ?_
    exact kk v' hk' hz' sl' x' ouF' al' hy' hn' y' _ _ _ _ ls ⟨hR', va_P_perm List.perm_append_comm hP, va_D_perm List.perm_append_comm hD, hS, by omega, by omega, lv_sub hl [2, 3, 4, 5, 6] rfl⟩
  · refine lv_aload_n hx hb dL_law_1064 rfl (lv_at hl 5 rfl) ?_
    refine lv_iconst (v := 0) hx hb dL_law_1065 (by decide) ?_
    refine va_lald hx hb hC.1 hP 115 2 rfl rfl (k_nin (i := 0) (by decide) (by decide)) dL_law_1066 ?_
    refine lv_iload hx hb dL_law_1067 (lv_at hl 0 rfl) ?_
    refine lv_i2l (v := b'.toInt64) hx hb dL_law_1069 rfl ?_
    refine W.lcmp hx hb dL_law_1070 ?_
    refine lv_if_eq (tgt := 1076) hx hb dL_law_1071 (by decide) (fun _ => ?_) (fun c9 => absurd (kLc (hou hk0)) c9)
    refine lv_goto (tgt := 1405) hx hb dL_law_1076 (by decide) ?_
    exact kk v' hk' hz' sl' x' ouF' al' hy' hn' y' _ _ _ _ ls ⟨hR', va_P_perm List.perm_append_comm hP, va_D_perm List.perm_append_comm hD, hS, by omega, by omega, lv_sub hl [2, 3, 4, 5, 6] rfl⟩
set_option maxHeartbeats 4000000 in
set_option maxRecDepth 100000 in
theorem lc_21 {p : Program} {l : Launch} {e : Env} {s : State} {m : MethodId} {below : List Frame} {meth : Method} {c : Code} {D : va_G} {T : Nat → ClassId} {b L : Nat} {xs : Nat → Int32} {Q : State → Prop} (C : kLC p l s m c D T b L xs) (hL : L ≤ 1024) {po ouA mo : Nat} {a mm : Nat → Nat} {j : Nat} (hj : 2 * j + 1 < L)
    (kk : ∀ (v : ST) (hk hz : Nat) (sl : Nat → ST) (x : CT) (ouF : Nat → Int64) (al hy : Nat → Int32) (hn : Nat) (y : MT) (H : Heap) (locs : List Loc) (cells slots : Nat) (ls : Array Slot), kLS s D T b po ouA mo a mm j (j + 1) v hk hz sl x ouF al hy hn y H locs cells slots ls → W p l e room_1 s m #[Value.ref b] below meth c H locs cells slots Q (F0 m 1405 ls []))
    (v : ST) (hk hz : Nat) (sl : Nat → ST) (x : CT) (ouF : Nat → Int64) (al hy : Nat → Int32) (hn : Nat) (y : MT) (H : Heap) (locs : List Loc) (cells slots : Nat) (ls : Array Slot) (S : kLS s D T b po ouA mo a mm j j v hk hz sl x ouF al hy hn y H locs cells slots ls) : W p l e room_1 s m #[Value.ref b] below meth c H locs cells slots Q (F0 m 1079 ls []) := by
  obtain ⟨hx, hb, hml, hown, hts, hX, hbl, hst9, hC, hXX, hZ, hE, hNc⟩ := C
  obtain ⟨hR, hP, hD, hS, hce, hso, hl⟩ := S
  have hA : ∀ q : Nat, s.heap.size ≤ q → (fun q : Nat => s.heap.size ≤ q) q := fun _ h => h
  have hbA : ¬ (fun q : Nat => s.heap.size ≤ q) b := Nat.not_le.mpr hbl
  have hin : vp_in (nI (2 * j + 1)) L := vp_in_nI hj (by omega)
  obtain ⟨v', hk', hz', sl', x', ouF', al', hy', hn', y', b', hW, hM, hR'⟩ := op_wornCounters (l := l) D T po ouA a mo mm ouF hR
  refine lv_aload_n hx hb dL_law_1079 rfl (lv_at hl 1 rfl) ?_
  refine kV (ci := 7) (As := []) (rest := []) ⟨hx, hb, hml, hown, hts⟩ hW (cwV 0 hts gL_law_X8_wornCounters rfl rfl rfl (by decide +kernel) ⟨Nat.le_of_ble_eq_true rfl, Nat.le_of_ble_eq_true rfl⟩) hC hP hD hS hA rfl rfl rfl hl.1 rfl (Nat.le_of_ble_eq_true rfl) dL_law_1080 ⟨(by show cells ≤ 601024; omega), (by show slots ≤ 7293034; omega)⟩ (fun H locs hP hD hS => ?_)
  refine W.eq (g2 := F0 m 1083 ls [.int b']) rfl ?_
  refine lv_aload_n hx hb dL_law_1083 rfl (lv_at hl 2 rfl) ?_
  have hP := va_P_perm List.perm_append_comm hP
  have hD := va_D_perm List.perm_append_comm hD
  refine kV (ci := 8) (As := []) (rest := [.int b']) ⟨hx, hb, hml, hown, hts⟩ hM (cwV 0 hts gL_law_X9_wornCounters rfl rfl rfl (by decide +kernel) ⟨Nat.le_of_ble_eq_true rfl, Nat.le_of_ble_eq_true rfl⟩) hC hP hD hS hA rfl rfl rfl hl.1 rfl (Nat.le_of_ble_eq_true rfl) dL_law_1084 ⟨(by show cells ≤ 601024; omega), (by show slots ≤ 7293034; omega)⟩ (fun H locs hP hD hS => ?_)
  refine W.eq (g2 := F0 m 1087 ls [.int b', .int b']) rfl ?_
  refine lv_icmp_eq (tgt := 1405) hx hb dL_law_1087 (by decide) (fun _ => ?_) (fun c9 => absurd rfl c9)
  exact kk v' hk' hz' sl' x' ouF' al' hy' hn' y' _ _ _ _ ls ⟨hR', va_P_perm List.perm_append_comm hP, va_D_perm List.perm_append_comm hD, hS, by omega, by omega, lv_sub hl [0, 1, 2, 3, 4] rfl⟩
set_option maxHeartbeats 4000000 in
set_option maxRecDepth 100000 in
theorem lc_22 {p : Program} {l : Launch} {e : Env} {s : State} {m : MethodId} {below : List Frame} {meth : Method} {c : Code} {D : va_G} {T : Nat → ClassId} {b L : Nat} {xs : Nat → Int32} {Q : State → Prop} (C : kLC p l s m c D T b L xs) (hL : L ≤ 1024) {po ouA mo : Nat} {a mm : Nat → Nat} {j : Nat} (hj : 2 * j + 1 < L)
    (kk : ∀ (v : ST) (hk hz : Nat) (sl : Nat → ST) (x : CT) (ouF : Nat → Int64) (al hy : Nat → Int32) (hn : Nat) (y : MT) (H : Heap) (locs : List Loc) (cells slots : Nat) (ls : Array Slot), kLS s D T b po ouA mo a mm j (j + 1) v hk hz sl x ouF al hy hn y H locs cells slots ls → W p l e room_1 s m #[Value.ref b] below meth c H locs cells slots Q (F0 m 1405 ls []))
    (v : ST) (hk hz : Nat) (sl : Nat → ST) (x : CT) (ouF : Nat → Int64) (al hy : Nat → Int32) (hn : Nat) (y : MT) (H : Heap) (locs : List Loc) (cells slots : Nat) (ls : Array Slot) (S : kLS s D T b po ouA mo a mm j j v hk hz sl x ouF al hy hn y H locs cells slots ls) : W p l e room_1 s m #[Value.ref b] below meth c H locs cells slots Q (F0 m 1092 ls []) := by
  obtain ⟨hx, hb, hml, hown, hts, hX, hbl, hst9, hC, hXX, hZ, hE, hNc⟩ := C
  obtain ⟨hR, hP, hD, hS, hce, hso, hl⟩ := S
  have hA : ∀ q : Nat, s.heap.size ≤ q → (fun q : Nat => s.heap.size ≤ q) q := fun _ h => h
  have hbA : ¬ (fun q : Nat => s.heap.size ≤ q) b := Nat.not_le.mpr hbl
  have hin : vp_in (nI (2 * j + 1)) L := vp_in_nI hj (by omega)
  obtain ⟨v', hk', hz', sl', x', ouF', al', hy', hn', y', k, b', hW, hM, hth, hou, hR'⟩ := op_wornCount hst9 D T po ouA a mo mm ouF hR (xs (nI (2 * j + 1)).toNatClampNeg)
  refine lv_aload_n hx hb dL_law_1092 rfl (lv_at hl 1 rfl) ?_
  refine lv_aload_n hx hb dL_law_1093 rfl (lv_at hl 0 rfl) ?_
  refine lv_iload hx hb dL_law_1094 (lv_at hl 4 rfl) ?_
  refine lv_iconst (v := 1) hx hb dL_law_1096 (by decide) ?_
  refine lv_iadd hx hb dL_law_1097 ?_
  refine W.eq (g2 := F0 m 1098 ls [.int (nI (2 * j + 1)), .ref b, .ref po]) (by rw [nI_1]) ?_
  refine va_sld hx hb hX hbl hbA hS hin dL_law_1098 ?_
  refine lv_aload_n hx hb dL_law_1099 rfl (lv_at hl 3 rfl) ?_
  refine kWS (As := [.ref po, .int (xs (nI (2 * j + 1)).toNatClampNeg), .ref ouA]) (rest := []) ⟨hx, hb, hml, hown, hts⟩ hW (vx_cwSW 3 hts gL_law_L_wornCount rfl rfl rfl (by decide +kernel) ⟨Nat.le_of_ble_eq_true rfl, Nat.le_of_ble_eq_true rfl⟩) hC hXX hZ hE hNc hP hD hS hA rfl hl.1 rfl (Nat.le_of_ble_eq_true rfl) dL_law_1100 ⟨(by show cells + 1 ≤ 601024; omega), (by show slots + 6 ≤ 7293034; omega)⟩ (fun H locs hP hD hS => ?_)
  refine W.eq (g2 := F0 m 1103 ls [.int k]) rfl ?_
  refine lv_istore (lv' := [(5, .int k), (0, .ref b), (1, .ref po), (2, .ref mo), (3, .ref ouA), (4, .int (nI (2 * j)))]) hx hb dL_law_1103 hl (by decide) rfl (fun ls hl => ?_)
  refine lv_aload_n hx hb dL_law_1105 rfl (lv_at hl 3 rfl) ?_
  refine lv_aload_n hx hb dL_law_1106 rfl (lv_at hl 1 rfl) ?_
  refine lv_iload hx hb dL_law_1107 (lv_at hl 5 rfl) ?_
  refine lv_iconst (v := 1) hx hb dL_law_1109 (by decide) ?_
  refine lv_iadd hx hb dL_law_1110 ?_
  refine W.eq (g2 := F0 m 1111 ls [.int (nI (2 * j + 1)), .ref b, .ref mo]) (by rw [nI_1]) ?_
  refine va_sld hx hb hX hbl hbA hS hin dL_law_1111 ?_
  have hP := va_P_perm List.perm_append_comm hP
  have hD := va_D_perm List.perm_append_comm hD
  refine kV (ci := 8) (As := [.int (xs (nI (2 * j + 1)).toNatClampNeg)]) (rest := []) ⟨hx, hb, hml, hown, hts⟩ hM (cwV 1 hts gL_law_X9_wornCount rfl rfl rfl (by decide +kernel) ⟨Nat.le_of_ble_eq_true rfl, Nat.le_of_ble_eq_true rfl⟩) hC hP hD hS hA rfl rfl rfl hl.1 rfl (Nat.le_of_ble_eq_true rfl) dL_law_1112 ⟨(by show cells + 1 ≤ 601024; omega), (by show slots + 6 ≤ 7293034; omega)⟩ (fun H locs hP hD hS => ?_)
  refine W.eq (g2 := F0 m 1115 ls [.int b']) rfl ?_
  refine lv_istore (lv' := [(6, .int b'), (5, .int k), (0, .ref b), (1, .ref po), (2, .ref mo), (3, .ref ouA), (4, .int (nI (2 * j)))]) hx hb dL_law_1115 hl (by decide) rfl (fun ls hl => ?_)
  refine lv_aload_n hx hb dL_law_1117 rfl (lv_at hl 4 rfl) ?_
  refine kV (ci := 8) (As := []) (rest := []) ⟨hx, hb, hml, hown, hts⟩ (op_thrown (l := l) D T mo mm al' hy' hn' y') (cwV 0 hts gL_law_X9_thrown rfl rfl rfl (by decide +kernel) ⟨Nat.le_of_ble_eq_true rfl, Nat.le_of_ble_eq_true rfl⟩) hC hP hD hS hA rfl rfl rfl hl.1 rfl (Nat.le_of_ble_eq_true rfl) dL_law_1118 ⟨(by show cells + 1 ≤ 601024; omega), (by show slots + 6 ≤ 7293034; omega)⟩ (fun H locs hP hD hS => ?_)
  refine W.eq (g2 := F0 m 1121 ls [.int y'.1]) rfl ?_
  refine lv_iload hx hb dL_law_1121 (lv_at hl 1 rfl) ?_
  refine lv_icmp_eq (tgt := 1128) hx hb dL_law_1123 (by decide) (fun _ => ?_) (fun c9 => absurd hth c9)
  refine lv_iload hx hb dL_law_1128 (lv_at hl 1 rfl) ?_
  refine lv_if_ne (tgt := 1145) hx hb dL_law_1130 (by decide) (fun _ => ?_) (fun hk0 => ?_)
  · refine lv_goto (tgt := 1405) hx hb dL_law_1145 (by decide) ?_
    exact kk v' hk' hz' sl' x' ouF' al' hy' hn' y' _ _ _ _ ls ⟨hR', va_P_perm List.perm_append_comm hP, va_D_perm List.perm_append_comm hD, hS, by omega, by omega, lv_sub hl [2, 3, 4, 5, 6] rfl⟩
  · refine lv_aload_n hx hb dL_law_1133 rfl (lv_at hl 5 rfl) ?_
    refine lv_iconst (v := 0) hx hb dL_law_1134 (by decide) ?_
    refine va_lald hx hb hC.1 hP 115 2 rfl rfl (k_nin (i := 0) (by decide) (by decide)) dL_law_1135 ?_
    refine lv_iload hx hb dL_law_1136 (lv_at hl 0 rfl) ?_
    refine lv_i2l (v := b'.toInt64) hx hb dL_law_1138 rfl ?_
    refine W.lcmp hx hb dL_law_1139 ?_
    refine lv_if_eq (tgt := 1145) hx hb dL_law_1140 (by decide) (fun _ => ?_) (fun c9 => absurd (kLc (hou hk0)) c9)
    refine lv_goto (tgt := 1405) hx hb dL_law_1145 (by decide) ?_
    exact kk v' hk' hz' sl' x' ouF' al' hy' hn' y' _ _ _ _ ls ⟨hR', va_P_perm List.perm_append_comm hP, va_D_perm List.perm_append_comm hD, hS, by omega, by omega, lv_sub hl [2, 3, 4, 5, 6] rfl⟩
set_option maxHeartbeats 4000000 in
set_option maxRecDepth 100000 in
theorem lc_23 {p : Program} {l : Launch} {e : Env} {s : State} {m : MethodId} {below : List Frame} {meth : Method} {c : Code} {D : va_G} {T : Nat → ClassId} {b L : Nat} {xs : Nat → Int32} {Q : State → Prop} (C : kLC p l s m c D T b L xs) (hL : L ≤ 1024) {po ouA mo : Nat} {a mm : Nat → Nat} {j : Nat} (hj : 2 * j + 1 < L)
    (kk : ∀ (v : ST) (hk hz : Nat) (sl : Nat → ST) (x : CT) (ouF : Nat → Int64) (al hy : Nat → Int32) (hn : Nat) (y : MT) (H : Heap) (locs : List Loc) (cells slots : Nat) (ls : Array Slot), kLS s D T b po ouA mo a mm j (j + 1) v hk hz sl x ouF al hy hn y H locs cells slots ls → W p l e room_1 s m #[Value.ref b] below meth c H locs cells slots Q (F0 m 1405 ls []))
    (v : ST) (hk hz : Nat) (sl : Nat → ST) (x : CT) (ouF : Nat → Int64) (al hy : Nat → Int32) (hn : Nat) (y : MT) (H : Heap) (locs : List Loc) (cells slots : Nat) (ls : Array Slot) (S : kLS s D T b po ouA mo a mm j j v hk hz sl x ouF al hy hn y H locs cells slots ls) : W p l e room_1 s m #[Value.ref b] below meth c H locs cells slots Q (F0 m 1148 ls []) := by
  obtain ⟨hx, hb, hml, hown, hts, hX, hbl, hst9, hC, hXX, hZ, hE, hNc⟩ := C
  obtain ⟨hR, hP, hD, hS, hce, hso, hl⟩ := S
  have hA : ∀ q : Nat, s.heap.size ≤ q → (fun q : Nat => s.heap.size ≤ q) q := fun _ h => h
  have hbA : ¬ (fun q : Nat => s.heap.size ≤ q) b := Nat.not_le.mpr hbl
  have hin : vp_in (nI (2 * j + 1)) L := vp_in_nI hj (by omega)
  obtain ⟨v', hk', hz', sl', x', ouF', al', hy', hn', y', k, b', hW, hM, hth, hou, hR'⟩ := op_aboveFloor hst9 D T po ouA a mo mm ouF hR (xs (nI (2 * j + 1)).toNatClampNeg)
  refine lv_aload_n hx hb dL_law_1148 rfl (lv_at hl 1 rfl) ?_
  refine lv_aload_n hx hb dL_law_1149 rfl (lv_at hl 0 rfl) ?_
  refine lv_iload hx hb dL_law_1150 (lv_at hl 4 rfl) ?_
  refine lv_iconst (v := 1) hx hb dL_law_1152 (by decide) ?_
  refine lv_iadd hx hb dL_law_1153 ?_
  refine W.eq (g2 := F0 m 1154 ls [.int (nI (2 * j + 1)), .ref b, .ref po]) (by rw [nI_1]) ?_
  refine va_sld hx hb hX hbl hbA hS hin dL_law_1154 ?_
  refine lv_aload_n hx hb dL_law_1155 rfl (lv_at hl 3 rfl) ?_
  refine kWS (As := [.ref po, .int (xs (nI (2 * j + 1)).toNatClampNeg), .ref ouA]) (rest := []) ⟨hx, hb, hml, hown, hts⟩ hW (vx_cwSW 3 hts gL_law_L_aboveFloor rfl rfl rfl (by decide +kernel) ⟨Nat.le_of_ble_eq_true rfl, Nat.le_of_ble_eq_true rfl⟩) hC hXX hZ hE hNc hP hD hS hA rfl hl.1 rfl (Nat.le_of_ble_eq_true rfl) dL_law_1156 ⟨(by show cells + 1 ≤ 601024; omega), (by show slots + 6 ≤ 7293034; omega)⟩ (fun H locs hP hD hS => ?_)
  refine W.eq (g2 := F0 m 1159 ls [.int k]) rfl ?_
  refine lv_istore (lv' := [(5, .int k), (0, .ref b), (1, .ref po), (2, .ref mo), (3, .ref ouA), (4, .int (nI (2 * j)))]) hx hb dL_law_1159 hl (by decide) rfl (fun ls hl => ?_)
  refine lv_aload_n hx hb dL_law_1161 rfl (lv_at hl 3 rfl) ?_
  refine lv_aload_n hx hb dL_law_1162 rfl (lv_at hl 1 rfl) ?_
  refine lv_iload hx hb dL_law_1163 (lv_at hl 5 rfl) ?_
  refine lv_iconst (v := 1) hx hb dL_law_1165 (by decide) ?_
  refine lv_iadd hx hb dL_law_1166 ?_
  refine W.eq (g2 := F0 m 1167 ls [.int (nI (2 * j + 1)), .ref b, .ref mo]) (by rw [nI_1]) ?_
  refine va_sld hx hb hX hbl hbA hS hin dL_law_1167 ?_
  have hP := va_P_perm List.perm_append_comm hP
  have hD := va_D_perm List.perm_append_comm hD
  refine kV (ci := 8) (As := [.int (xs (nI (2 * j + 1)).toNatClampNeg)]) (rest := []) ⟨hx, hb, hml, hown, hts⟩ hM (cwV 1 hts gL_law_X9_aboveFloor rfl rfl rfl (by decide +kernel) ⟨Nat.le_of_ble_eq_true rfl, Nat.le_of_ble_eq_true rfl⟩) hC hP hD hS hA rfl rfl rfl hl.1 rfl (Nat.le_of_ble_eq_true rfl) dL_law_1168 ⟨(by show cells + 1 ≤ 601024; omega), (by show slots + 6 ≤ 7293034; omega)⟩ (fun H locs hP hD hS => ?_)
  refine W.eq (g2 := F0 m 1171 ls [.int b']) rfl ?_
  refine lv_istore (lv' := [(6, .int b'), (5, .int k), (0, .ref b), (1, .ref po), (2, .ref mo), (3, .ref ouA), (4, .int (nI (2 * j)))]) hx hb dL_law_1171 hl (by decide) rfl (fun ls hl => ?_)
  refine lv_aload_n hx hb dL_law_1173 rfl (lv_at hl 4 rfl) ?_
  refine kV (ci := 8) (As := []) (rest := []) ⟨hx, hb, hml, hown, hts⟩ (op_thrown (l := l) D T mo mm al' hy' hn' y') (cwV 0 hts gL_law_X9_thrown rfl rfl rfl (by decide +kernel) ⟨Nat.le_of_ble_eq_true rfl, Nat.le_of_ble_eq_true rfl⟩) hC hP hD hS hA rfl rfl rfl hl.1 rfl (Nat.le_of_ble_eq_true rfl) dL_law_1174 ⟨(by show cells + 1 ≤ 601024; omega), (by show slots + 6 ≤ 7293034; omega)⟩ (fun H locs hP hD hS => ?_)
  refine W.eq (g2 := F0 m 1177 ls [.int y'.1]) rfl ?_
  refine lv_iload hx hb dL_law_1177 (lv_at hl 1 rfl) ?_
  refine lv_icmp_eq (tgt := 1184) hx hb dL_law_1179 (by decide) (fun _ => ?_) (fun c9 => absurd hth c9)
  refine lv_iload hx hb dL_law_1184 (lv_at hl 1 rfl) ?_
  refine lv_if_ne (tgt := 1201) hx hb dL_law_1186 (by decide) (fun _ => ?_) (fun hk0 => ?_)
  · refine lv_goto (tgt := 1405) hx hb dL_law_1201 (by decide) ?_
    exact kk v' hk' hz' sl' x' ouF' al' hy' hn' y' _ _ _ _ ls ⟨hR', va_P_perm List.perm_append_comm hP, va_D_perm List.perm_append_comm hD, hS, by omega, by omega, lv_sub hl [2, 3, 4, 5, 6] rfl⟩
  · refine lv_aload_n hx hb dL_law_1189 rfl (lv_at hl 5 rfl) ?_
    refine lv_iconst (v := 0) hx hb dL_law_1190 (by decide) ?_
    refine va_lald hx hb hC.1 hP 115 2 rfl rfl (k_nin (i := 0) (by decide) (by decide)) dL_law_1191 ?_
    refine lv_iload hx hb dL_law_1192 (lv_at hl 0 rfl) ?_
    refine lv_i2l (v := b'.toInt64) hx hb dL_law_1194 rfl ?_
    refine W.lcmp hx hb dL_law_1195 ?_
    refine lv_if_eq (tgt := 1201) hx hb dL_law_1196 (by decide) (fun _ => ?_) (fun c9 => absurd (kLc (hou hk0)) c9)
    refine lv_goto (tgt := 1405) hx hb dL_law_1201 (by decide) ?_
    exact kk v' hk' hz' sl' x' ouF' al' hy' hn' y' _ _ _ _ ls ⟨hR', va_P_perm List.perm_append_comm hP, va_D_perm List.perm_append_comm hD, hS, by omega, by omega, lv_sub hl [2, 3, 4, 5, 6] rfl⟩
end LAW1
