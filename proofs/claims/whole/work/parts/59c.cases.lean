section LAW2
set_option maxHeartbeats 4000000 in
set_option maxRecDepth 100000 in
theorem lc_24 {p : Program} {l : Launch} {e : Env} {s : State} {m : MethodId} {below : List Frame} {meth : Method} {c : Code} {D : va_G} {T : Nat → ClassId} {b L : Nat} {xs : Nat → Int32} {Q : State → Prop} (C : kLC p l s m c D T b L xs) (hL : L ≤ 1024) {po ouA mo : Nat} {a mm : Nat → Nat} {j : Nat} (hj : 2 * j + 1 < L)
    (kk : ∀ (v : ST) (hk hz : Nat) (sl : Nat → ST) (x : CT) (ouF : Nat → Int64) (al hy : Nat → Int32) (hn : Nat) (y : MT) (H : Heap) (locs : List Loc) (cells slots : Nat) (ls : Array Slot), kLS s D T b po ouA mo a mm j (j + 1) v hk hz sl x ouF al hy hn y H locs cells slots ls → W p l e room_1 s m #[Value.ref b] below meth c H locs cells slots Q (F0 m 1405 ls []))
    (v : ST) (hk hz : Nat) (sl : Nat → ST) (x : CT) (ouF : Nat → Int64) (al hy : Nat → Int32) (hn : Nat) (y : MT) (H : Heap) (locs : List Loc) (cells slots : Nat) (ls : Array Slot) (S : kLS s D T b po ouA mo a mm j j v hk hz sl x ouF al hy hn y H locs cells slots ls) : W p l e room_1 s m #[Value.ref b] below meth c H locs cells slots Q (F0 m 1204 ls []) := by
  obtain ⟨hx, hb, hml, hown, hts, hX, hbl, hst9, hC, hXX, hZ, hE, hNc⟩ := C
  obtain ⟨hR, hP, hD, hS, hce, hso, hl⟩ := S
  have hA : ∀ q : Nat, s.heap.size ≤ q → (fun q : Nat => s.heap.size ≤ q) q := fun _ h => h
  have hbA : ¬ (fun q : Nat => s.heap.size ≤ q) b := Nat.not_le.mpr hbl
  have hin : vp_in (nI (2 * j + 1)) L := vp_in_nI hj (by omega)
  obtain ⟨v', hk', hz', sl', x', ouF', al', hy', hn', y', b', hW, hM, hR'⟩ := op_wear (l := l) D T po ouA a mo mm ouF hR
  refine lv_aload_n hx hb dL_law_1204 rfl (lv_at hl 1 rfl) ?_
  refine kV (ci := 7) (As := []) (rest := []) ⟨hx, hb, hml, hown, hts⟩ hW (cwV 0 hts gL_law_X8_wear rfl rfl rfl (by decide +kernel) ⟨Nat.le_of_ble_eq_true rfl, Nat.le_of_ble_eq_true rfl⟩) hC hP hD hS hA rfl rfl rfl hl.1 rfl (Nat.le_of_ble_eq_true rfl) dL_law_1205 ⟨(by show cells ≤ 601024; omega), (by show slots ≤ 7293034; omega)⟩ (fun H locs hP hD hS => ?_)
  refine W.eq (g2 := F0 m 1208 ls [.int b']) rfl ?_
  refine lv_aload_n hx hb dL_law_1208 rfl (lv_at hl 2 rfl) ?_
  have hP := va_P_perm List.perm_append_comm hP
  have hD := va_D_perm List.perm_append_comm hD
  refine kV (ci := 8) (As := []) (rest := [.int b']) ⟨hx, hb, hml, hown, hts⟩ hM (cwV 0 hts gL_law_X9_wear rfl rfl rfl (by decide +kernel) ⟨Nat.le_of_ble_eq_true rfl, Nat.le_of_ble_eq_true rfl⟩) hC hP hD hS hA rfl rfl rfl hl.1 rfl (Nat.le_of_ble_eq_true rfl) dL_law_1209 ⟨(by show cells ≤ 601024; omega), (by show slots ≤ 7293034; omega)⟩ (fun H locs hP hD hS => ?_)
  refine W.eq (g2 := F0 m 1212 ls [.int b', .int b']) rfl ?_
  refine lv_icmp_eq (tgt := 1405) hx hb dL_law_1212 (by decide) (fun _ => ?_) (fun c9 => absurd rfl c9)
  exact kk v' hk' hz' sl' x' ouF' al' hy' hn' y' _ _ _ _ ls ⟨hR', va_P_perm List.perm_append_comm hP, va_D_perm List.perm_append_comm hD, hS, by omega, by omega, lv_sub hl [0, 1, 2, 3, 4] rfl⟩
set_option maxHeartbeats 4000000 in
set_option maxRecDepth 100000 in
theorem lc_25 {p : Program} {l : Launch} {e : Env} {s : State} {m : MethodId} {below : List Frame} {meth : Method} {c : Code} {D : va_G} {T : Nat → ClassId} {b L : Nat} {xs : Nat → Int32} {Q : State → Prop} (C : kLC p l s m c D T b L xs) (hL : L ≤ 1024) {po ouA mo : Nat} {a mm : Nat → Nat} {j : Nat} (hj : 2 * j + 1 < L)
    (kk : ∀ (v : ST) (hk hz : Nat) (sl : Nat → ST) (x : CT) (ouF : Nat → Int64) (al hy : Nat → Int32) (hn : Nat) (y : MT) (H : Heap) (locs : List Loc) (cells slots : Nat) (ls : Array Slot), kLS s D T b po ouA mo a mm j (j + 1) v hk hz sl x ouF al hy hn y H locs cells slots ls → W p l e room_1 s m #[Value.ref b] below meth c H locs cells slots Q (F0 m 1405 ls []))
    (v : ST) (hk hz : Nat) (sl : Nat → ST) (x : CT) (ouF : Nat → Int64) (al hy : Nat → Int32) (hn : Nat) (y : MT) (H : Heap) (locs : List Loc) (cells slots : Nat) (ls : Array Slot) (S : kLS s D T b po ouA mo a mm j j v hk hz sl x ouF al hy hn y H locs cells slots ls) : W p l e room_1 s m #[Value.ref b] below meth c H locs cells slots Q (F0 m 1217 ls []) := by
  obtain ⟨hx, hb, hml, hown, hts, hX, hbl, hst9, hC, hXX, hZ, hE, hNc⟩ := C
  obtain ⟨hR, hP, hD, hS, hce, hso, hl⟩ := S
  have hA : ∀ q : Nat, s.heap.size ≤ q → (fun q : Nat => s.heap.size ≤ q) q := fun _ h => h
  have hbA : ¬ (fun q : Nat => s.heap.size ≤ q) b := Nat.not_le.mpr hbl
  have hin : vp_in (nI (2 * j + 1)) L := vp_in_nI hj (by omega)
  obtain ⟨v', hk', hz', sl', x', ouF', al', hy', hn', y', b', hW, hM, hR'⟩ := op_capacity (l := l) D T po ouA a mo mm ouF hR
  refine lv_aload_n hx hb dL_law_1217 rfl (lv_at hl 1 rfl) ?_
  refine kV (ci := 7) (As := []) (rest := []) ⟨hx, hb, hml, hown, hts⟩ hW (cwV 0 hts gL_law_X8_capacity rfl rfl rfl (by decide +kernel) ⟨Nat.le_of_ble_eq_true rfl, Nat.le_of_ble_eq_true rfl⟩) hC hP hD hS hA rfl rfl rfl hl.1 rfl (Nat.le_of_ble_eq_true rfl) dL_law_1218 ⟨(by show cells ≤ 601024; omega), (by show slots ≤ 7293034; omega)⟩ (fun H locs hP hD hS => ?_)
  refine W.eq (g2 := F0 m 1221 ls [.int b']) rfl ?_
  refine lv_aload_n hx hb dL_law_1221 rfl (lv_at hl 2 rfl) ?_
  have hP := va_P_perm List.perm_append_comm hP
  have hD := va_D_perm List.perm_append_comm hD
  refine kV (ci := 8) (As := []) (rest := [.int b']) ⟨hx, hb, hml, hown, hts⟩ hM (cwV 0 hts gL_law_X9_capacity rfl rfl rfl (by decide +kernel) ⟨Nat.le_of_ble_eq_true rfl, Nat.le_of_ble_eq_true rfl⟩) hC hP hD hS hA rfl rfl rfl hl.1 rfl (Nat.le_of_ble_eq_true rfl) dL_law_1222 ⟨(by show cells ≤ 601024; omega), (by show slots ≤ 7293034; omega)⟩ (fun H locs hP hD hS => ?_)
  refine W.eq (g2 := F0 m 1225 ls [.int b', .int b']) rfl ?_
  refine lv_icmp_eq (tgt := 1405) hx hb dL_law_1225 (by decide) (fun _ => ?_) (fun c9 => absurd rfl c9)
  exact kk v' hk' hz' sl' x' ouF' al' hy' hn' y' _ _ _ _ ls ⟨hR', va_P_perm List.perm_append_comm hP, va_D_perm List.perm_append_comm hD, hS, by omega, by omega, lv_sub hl [0, 1, 2, 3, 4] rfl⟩
set_option maxHeartbeats 4000000 in
set_option maxRecDepth 100000 in
theorem lc_26 {p : Program} {l : Launch} {e : Env} {s : State} {m : MethodId} {below : List Frame} {meth : Method} {c : Code} {D : va_G} {T : Nat → ClassId} {b L : Nat} {xs : Nat → Int32} {Q : State → Prop} (C : kLC p l s m c D T b L xs) (hL : L ≤ 1024) {po ouA mo : Nat} {a mm : Nat → Nat} {j : Nat} (hj : 2 * j + 1 < L)
    (kk : ∀ (v : ST) (hk hz : Nat) (sl : Nat → ST) (x : CT) (ouF : Nat → Int64) (al hy : Nat → Int32) (hn : Nat) (y : MT) (H : Heap) (locs : List Loc) (cells slots : Nat) (ls : Array Slot), kLS s D T b po ouA mo a mm j (j + 1) v hk hz sl x ouF al hy hn y H locs cells slots ls → W p l e room_1 s m #[Value.ref b] below meth c H locs cells slots Q (F0 m 1405 ls []))
    (v : ST) (hk hz : Nat) (sl : Nat → ST) (x : CT) (ouF : Nat → Int64) (al hy : Nat → Int32) (hn : Nat) (y : MT) (H : Heap) (locs : List Loc) (cells slots : Nat) (ls : Array Slot) (S : kLS s D T b po ouA mo a mm j j v hk hz sl x ouF al hy hn y H locs cells slots ls) : W p l e room_1 s m #[Value.ref b] below meth c H locs cells slots Q (F0 m 1230 ls []) := by
  obtain ⟨hx, hb, hml, hown, hts, hX, hbl, hst9, hC, hXX, hZ, hE, hNc⟩ := C
  obtain ⟨hR, hP, hD, hS, hce, hso, hl⟩ := S
  have hA : ∀ q : Nat, s.heap.size ≤ q → (fun q : Nat => s.heap.size ≤ q) q := fun _ h => h
  have hbA : ¬ (fun q : Nat => s.heap.size ≤ q) b := Nat.not_le.mpr hbl
  have hin : vp_in (nI (2 * j + 1)) L := vp_in_nI hj (by omega)
  obtain ⟨v', hk', hz', sl', x', ouF', al', hy', hn', y', k, b', hW, hM, hth, hou, hR'⟩ := op_trueCount hst9 D T po ouA a mo mm ouF hR (xs (nI (2 * j + 1)).toNatClampNeg)
  refine lv_aload_n hx hb dL_law_1230 rfl (lv_at hl 1 rfl) ?_
  refine lv_aload_n hx hb dL_law_1231 rfl (lv_at hl 0 rfl) ?_
  refine lv_iload hx hb dL_law_1232 (lv_at hl 4 rfl) ?_
  refine lv_iconst (v := 1) hx hb dL_law_1234 (by decide) ?_
  refine lv_iadd hx hb dL_law_1235 ?_
  refine W.eq (g2 := F0 m 1236 ls [.int (nI (2 * j + 1)), .ref b, .ref po]) (by rw [nI_1]) ?_
  refine va_sld hx hb hX hbl hbA hS hin dL_law_1236 ?_
  refine lv_aload_n hx hb dL_law_1237 rfl (lv_at hl 3 rfl) ?_
  refine kWS (As := [.ref po, .int (xs (nI (2 * j + 1)).toNatClampNeg), .ref ouA]) (rest := []) ⟨hx, hb, hml, hown, hts⟩ hW (vx_cwSW 3 hts gL_law_L_trueCount rfl rfl rfl (by decide +kernel) ⟨Nat.le_of_ble_eq_true rfl, Nat.le_of_ble_eq_true rfl⟩) hC hXX hZ hE hNc hP hD hS hA rfl hl.1 rfl (Nat.le_of_ble_eq_true rfl) dL_law_1238 ⟨(by show cells + 1 ≤ 601024; omega), (by show slots + 6 ≤ 7293034; omega)⟩ (fun H locs hP hD hS => ?_)
  refine W.eq (g2 := F0 m 1241 ls [.int k]) rfl ?_
  refine lv_istore (lv' := [(5, .int k), (0, .ref b), (1, .ref po), (2, .ref mo), (3, .ref ouA), (4, .int (nI (2 * j)))]) hx hb dL_law_1241 hl (by decide) rfl (fun ls hl => ?_)
  refine lv_aload_n hx hb dL_law_1243 rfl (lv_at hl 3 rfl) ?_
  refine lv_aload_n hx hb dL_law_1244 rfl (lv_at hl 1 rfl) ?_
  refine lv_iload hx hb dL_law_1245 (lv_at hl 5 rfl) ?_
  refine lv_iconst (v := 1) hx hb dL_law_1247 (by decide) ?_
  refine lv_iadd hx hb dL_law_1248 ?_
  refine W.eq (g2 := F0 m 1249 ls [.int (nI (2 * j + 1)), .ref b, .ref mo]) (by rw [nI_1]) ?_
  refine va_sld hx hb hX hbl hbA hS hin dL_law_1249 ?_
  have hP := va_P_perm List.perm_append_comm hP
  have hD := va_D_perm List.perm_append_comm hD
  refine kV (ci := 8) (As := [.int (xs (nI (2 * j + 1)).toNatClampNeg)]) (rest := []) ⟨hx, hb, hml, hown, hts⟩ hM (cwV 1 hts gL_law_X9_trueCount rfl rfl rfl (by decide +kernel) ⟨Nat.le_of_ble_eq_true rfl, Nat.le_of_ble_eq_true rfl⟩) hC hP hD hS hA rfl rfl rfl hl.1 rfl (Nat.le_of_ble_eq_true rfl) dL_law_1250 ⟨(by show cells + 1 ≤ 601024; omega), (by show slots + 6 ≤ 7293034; omega)⟩ (fun H locs hP hD hS => ?_)
  refine W.eq (g2 := F0 m 1253 ls [.int b']) rfl ?_
  refine lv_istore (lv' := [(6, .int b'), (5, .int k), (0, .ref b), (1, .ref po), (2, .ref mo), (3, .ref ouA), (4, .int (nI (2 * j)))]) hx hb dL_law_1253 hl (by decide) rfl (fun ls hl => ?_)
  refine lv_aload_n hx hb dL_law_1255 rfl (lv_at hl 4 rfl) ?_
  refine kV (ci := 8) (As := []) (rest := []) ⟨hx, hb, hml, hown, hts⟩ (op_thrown (l := l) D T mo mm al' hy' hn' y') (cwV 0 hts gL_law_X9_thrown rfl rfl rfl (by decide +kernel) ⟨Nat.le_of_ble_eq_true rfl, Nat.le_of_ble_eq_true rfl⟩) hC hP hD hS hA rfl rfl rfl hl.1 rfl (Nat.le_of_ble_eq_true rfl) dL_law_1256 ⟨(by show cells + 1 ≤ 601024; omega), (by show slots + 6 ≤ 7293034; omega)⟩ (fun H locs hP hD hS => ?_)
  refine W.eq (g2 := F0 m 1259 ls [.int y'.1]) rfl ?_
  refine lv_iload hx hb dL_law_1259 (lv_at hl 1 rfl) ?_
  refine lv_icmp_eq (tgt := 1266) hx hb dL_law_1261 (by decide) (fun _ => ?_) (fun c9 => absurd hth c9)
  refine lv_iload hx hb dL_law_1266 (lv_at hl 1 rfl) ?_
  refine lv_if_ne (tgt := 1283) hx hb dL_law_1268 (by decide) (fun _ => ?_) (fun hk0 => ?_)
  · refine lv_goto (tgt := 1405) hx hb dL_law_1283 (by decide) ?_
    exact kk v' hk' hz' sl' x' ouF' al' hy' hn' y' _ _ _ _ ls ⟨hR', va_P_perm List.perm_append_comm hP, va_D_perm List.perm_append_comm hD, hS, by omega, by omega, lv_sub hl [2, 3, 4, 5, 6] rfl⟩
  · refine lv_aload_n hx hb dL_law_1271 rfl (lv_at hl 5 rfl) ?_
    refine lv_iconst (v := 0) hx hb dL_law_1272 (by decide) ?_
    refine va_lald hx hb hC.1 hP 115 2 rfl rfl (k_nin (i := 0) (by decide) (by decide)) dL_law_1273 ?_
    refine lv_iload hx hb dL_law_1274 (lv_at hl 0 rfl) ?_
    refine lv_i2l (v := b'.toInt64) hx hb dL_law_1276 rfl ?_
    refine W.lcmp hx hb dL_law_1277 ?_
    refine lv_if_eq (tgt := 1283) hx hb dL_law_1278 (by decide) (fun _ => ?_) (fun c9 => absurd (kLc (hou hk0)) c9)
    refine lv_goto (tgt := 1405) hx hb dL_law_1283 (by decide) ?_
    exact kk v' hk' hz' sl' x' ouF' al' hy' hn' y' _ _ _ _ ls ⟨hR', va_P_perm List.perm_append_comm hP, va_D_perm List.perm_append_comm hD, hS, by omega, by omega, lv_sub hl [2, 3, 4, 5, 6] rfl⟩
set_option maxHeartbeats 4000000 in
set_option maxRecDepth 100000 in
theorem lc_27 {p : Program} {l : Launch} {e : Env} {s : State} {m : MethodId} {below : List Frame} {meth : Method} {c : Code} {D : va_G} {T : Nat → ClassId} {b L : Nat} {xs : Nat → Int32} {Q : State → Prop} (C : kLC p l s m c D T b L xs) (hL : L ≤ 1024) {po ouA mo : Nat} {a mm : Nat → Nat} {j : Nat} (hj : 2 * j + 1 < L)
    (kk : ∀ (v : ST) (hk hz : Nat) (sl : Nat → ST) (x : CT) (ouF : Nat → Int64) (al hy : Nat → Int32) (hn : Nat) (y : MT) (H : Heap) (locs : List Loc) (cells slots : Nat) (ls : Array Slot), kLS s D T b po ouA mo a mm j (j + 1) v hk hz sl x ouF al hy hn y H locs cells slots ls → W p l e room_1 s m #[Value.ref b] below meth c H locs cells slots Q (F0 m 1405 ls []))
    (v : ST) (hk hz : Nat) (sl : Nat → ST) (x : CT) (ouF : Nat → Int64) (al hy : Nat → Int32) (hn : Nat) (y : MT) (H : Heap) (locs : List Loc) (cells slots : Nat) (ls : Array Slot) (S : kLS s D T b po ouA mo a mm j j v hk hz sl x ouF al hy hn y H locs cells slots ls) : W p l e room_1 s m #[Value.ref b] below meth c H locs cells slots Q (F0 m 1286 ls []) := by
  obtain ⟨hx, hb, hml, hown, hts, hX, hbl, hst9, hC, hXX, hZ, hE, hNc⟩ := C
  obtain ⟨hR, hP, hD, hS, hce, hso, hl⟩ := S
  have hA : ∀ q : Nat, s.heap.size ≤ q → (fun q : Nat => s.heap.size ≤ q) q := fun _ h => h
  have hbA : ¬ (fun q : Nat => s.heap.size ≤ q) b := Nat.not_le.mpr hbl
  have hin : vp_in (nI (2 * j + 1)) L := vp_in_nI hj (by omega)
  obtain ⟨v', hk', hz', sl', x', ouF', al', hy', hn', y', b', hW, hM, hR'⟩ := op_calls (l := l) D T po ouA a mo mm ouF hR
  refine lv_aload_n hx hb dL_law_1286 rfl (lv_at hl 1 rfl) ?_
  refine kV (ci := 7) (As := []) (rest := []) ⟨hx, hb, hml, hown, hts⟩ hW (cwV 0 hts gL_law_X8_calls rfl rfl rfl (by decide +kernel) ⟨Nat.le_of_ble_eq_true rfl, Nat.le_of_ble_eq_true rfl⟩) hC hP hD hS hA rfl rfl rfl hl.1 rfl (Nat.le_of_ble_eq_true rfl) dL_law_1287 ⟨(by show cells ≤ 601024; omega), (by show slots ≤ 7293034; omega)⟩ (fun H locs hP hD hS => ?_)
  refine W.eq (g2 := F0 m 1290 ls [.int b']) rfl ?_
  refine lv_aload_n hx hb dL_law_1290 rfl (lv_at hl 2 rfl) ?_
  have hP := va_P_perm List.perm_append_comm hP
  have hD := va_D_perm List.perm_append_comm hD
  refine kV (ci := 8) (As := []) (rest := [.int b']) ⟨hx, hb, hml, hown, hts⟩ hM (cwV 0 hts gL_law_X9_calls rfl rfl rfl (by decide +kernel) ⟨Nat.le_of_ble_eq_true rfl, Nat.le_of_ble_eq_true rfl⟩) hC hP hD hS hA rfl rfl rfl hl.1 rfl (Nat.le_of_ble_eq_true rfl) dL_law_1291 ⟨(by show cells ≤ 601024; omega), (by show slots ≤ 7293034; omega)⟩ (fun H locs hP hD hS => ?_)
  refine W.eq (g2 := F0 m 1294 ls [.int b', .int b']) rfl ?_
  refine lv_icmp_eq (tgt := 1405) hx hb dL_law_1294 (by decide) (fun _ => ?_) (fun c9 => absurd rfl c9)
  exact kk v' hk' hz' sl' x' ouF' al' hy' hn' y' _ _ _ _ ls ⟨hR', va_P_perm List.perm_append_comm hP, va_D_perm List.perm_append_comm hD, hS, by omega, by omega, lv_sub hl [0, 1, 2, 3, 4] rfl⟩
set_option maxHeartbeats 4000000 in
set_option maxRecDepth 100000 in
theorem lc_28 {p : Program} {l : Launch} {e : Env} {s : State} {m : MethodId} {below : List Frame} {meth : Method} {c : Code} {D : va_G} {T : Nat → ClassId} {b L : Nat} {xs : Nat → Int32} {Q : State → Prop} (C : kLC p l s m c D T b L xs) (hL : L ≤ 1024) {po ouA mo : Nat} {a mm : Nat → Nat} {j : Nat} (hj : 2 * j + 1 < L)
    (kk : ∀ (v : ST) (hk hz : Nat) (sl : Nat → ST) (x : CT) (ouF : Nat → Int64) (al hy : Nat → Int32) (hn : Nat) (y : MT) (H : Heap) (locs : List Loc) (cells slots : Nat) (ls : Array Slot), kLS s D T b po ouA mo a mm j (j + 1) v hk hz sl x ouF al hy hn y H locs cells slots ls → W p l e room_1 s m #[Value.ref b] below meth c H locs cells slots Q (F0 m 1405 ls []))
    (v : ST) (hk hz : Nat) (sl : Nat → ST) (x : CT) (ouF : Nat → Int64) (al hy : Nat → Int32) (hn : Nat) (y : MT) (H : Heap) (locs : List Loc) (cells slots : Nat) (ls : Array Slot) (S : kLS s D T b po ouA mo a mm j j v hk hz sl x ouF al hy hn y H locs cells slots ls) : W p l e room_1 s m #[Value.ref b] below meth c H locs cells slots Q (F0 m 1299 ls []) := by
  obtain ⟨hx, hb, hml, hown, hts, hX, hbl, hst9, hC, hXX, hZ, hE, hNc⟩ := C
  obtain ⟨hR, hP, hD, hS, hce, hso, hl⟩ := S
  have hA : ∀ q : Nat, s.heap.size ≤ q → (fun q : Nat => s.heap.size ≤ q) q := fun _ h => h
  have hbA : ¬ (fun q : Nat => s.heap.size ≤ q) b := Nat.not_le.mpr hbl
  have hin : vp_in (nI (2 * j + 1)) L := vp_in_nI hj (by omega)
  obtain ⟨v', hk', hz', sl', x', ouF', al', hy', hn', y', b', hW, hM, hR'⟩ := op_callsByCounters (l := l) D T po ouA a mo mm ouF hR
  refine lv_aload_n hx hb dL_law_1299 rfl (lv_at hl 1 rfl) ?_
  refine kV (ci := 7) (As := []) (rest := []) ⟨hx, hb, hml, hown, hts⟩ hW (cwV 0 hts gL_law_X8_callsByCounters rfl rfl rfl (by decide +kernel) ⟨Nat.le_of_ble_eq_true rfl, Nat.le_of_ble_eq_true rfl⟩) hC hP hD hS hA rfl rfl rfl hl.1 rfl (Nat.le_of_ble_eq_true rfl) dL_law_1300 ⟨(by show cells ≤ 601024; omega), (by show slots ≤ 7293034; omega)⟩ (fun H locs hP hD hS => ?_)
  refine W.eq (g2 := F0 m 1303 ls [.int b']) rfl ?_
  refine lv_aload_n hx hb dL_law_1303 rfl (lv_at hl 2 rfl) ?_
  have hP := va_P_perm List.perm_append_comm hP
  have hD := va_D_perm List.perm_append_comm hD
  refine kV (ci := 8) (As := []) (rest := [.int b']) ⟨hx, hb, hml, hown, hts⟩ hM (cwV 0 hts gL_law_X9_callsByCounters rfl rfl rfl (by decide +kernel) ⟨Nat.le_of_ble_eq_true rfl, Nat.le_of_ble_eq_true rfl⟩) hC hP hD hS hA rfl rfl rfl hl.1 rfl (Nat.le_of_ble_eq_true rfl) dL_law_1304 ⟨(by show cells ≤ 601024; omega), (by show slots ≤ 7293034; omega)⟩ (fun H locs hP hD hS => ?_)
  refine W.eq (g2 := F0 m 1307 ls [.int b', .int b']) rfl ?_
  refine lv_icmp_eq (tgt := 1405) hx hb dL_law_1307 (by decide) (fun _ => ?_) (fun c9 => absurd rfl c9)
  exact kk v' hk' hz' sl' x' ouF' al' hy' hn' y' _ _ _ _ ls ⟨hR', va_P_perm List.perm_append_comm hP, va_D_perm List.perm_append_comm hD, hS, by omega, by omega, lv_sub hl [0, 1, 2, 3, 4] rfl⟩
set_option maxHeartbeats 4000000 in
set_option maxRecDepth 100000 in
theorem lc_29 {p : Program} {l : Launch} {e : Env} {s : State} {m : MethodId} {below : List Frame} {meth : Method} {c : Code} {D : va_G} {T : Nat → ClassId} {b L : Nat} {xs : Nat → Int32} {Q : State → Prop} (C : kLC p l s m c D T b L xs) (hL : L ≤ 1024) {po ouA mo : Nat} {a mm : Nat → Nat} {j : Nat} (hj : 2 * j + 1 < L)
    (kk : ∀ (v : ST) (hk hz : Nat) (sl : Nat → ST) (x : CT) (ouF : Nat → Int64) (al hy : Nat → Int32) (hn : Nat) (y : MT) (H : Heap) (locs : List Loc) (cells slots : Nat) (ls : Array Slot), kLS s D T b po ouA mo a mm j (j + 1) v hk hz sl x ouF al hy hn y H locs cells slots ls → W p l e room_1 s m #[Value.ref b] below meth c H locs cells slots Q (F0 m 1405 ls []))
    (v : ST) (hk hz : Nat) (sl : Nat → ST) (x : CT) (ouF : Nat → Int64) (al hy : Nat → Int32) (hn : Nat) (y : MT) (H : Heap) (locs : List Loc) (cells slots : Nat) (ls : Array Slot) (S : kLS s D T b po ouA mo a mm j j v hk hz sl x ouF al hy hn y H locs cells slots ls) : W p l e room_1 s m #[Value.ref b] below meth c H locs cells slots Q (F0 m 1312 ls []) := by
  obtain ⟨hx, hb, hml, hown, hts, hX, hbl, hst9, hC, hXX, hZ, hE, hNc⟩ := C
  obtain ⟨hR, hP, hD, hS, hce, hso, hl⟩ := S
  have hA : ∀ q : Nat, s.heap.size ≤ q → (fun q : Nat => s.heap.size ≤ q) q := fun _ h => h
  have hbA : ¬ (fun q : Nat => s.heap.size ≤ q) b := Nat.not_le.mpr hbl
  have hin : vp_in (nI (2 * j + 1)) L := vp_in_nI hj (by omega)
  obtain ⟨v', hk', hz', sl', x', ouF', al', hy', hn', y', b', hW, hM, hR'⟩ := op_parrotsHeard (l := l) D T po ouA a mo mm ouF hR
  refine lv_aload_n hx hb dL_law_1312 rfl (lv_at hl 1 rfl) ?_
  refine kV (ci := 7) (As := []) (rest := []) ⟨hx, hb, hml, hown, hts⟩ hW (cwV 0 hts gL_law_X8_parrotsHeard rfl rfl rfl (by decide +kernel) ⟨Nat.le_of_ble_eq_true rfl, Nat.le_of_ble_eq_true rfl⟩) hC hP hD hS hA rfl rfl rfl hl.1 rfl (Nat.le_of_ble_eq_true rfl) dL_law_1313 ⟨(by show cells ≤ 601024; omega), (by show slots ≤ 7293034; omega)⟩ (fun H locs hP hD hS => ?_)
  refine W.eq (g2 := F0 m 1316 ls [.int b']) rfl ?_
  refine lv_aload_n hx hb dL_law_1316 rfl (lv_at hl 2 rfl) ?_
  have hP := va_P_perm List.perm_append_comm hP
  have hD := va_D_perm List.perm_append_comm hD
  refine kV (ci := 8) (As := []) (rest := [.int b']) ⟨hx, hb, hml, hown, hts⟩ hM (cwV 0 hts gL_law_X9_parrotsHeard rfl rfl rfl (by decide +kernel) ⟨Nat.le_of_ble_eq_true rfl, Nat.le_of_ble_eq_true rfl⟩) hC hP hD hS hA rfl rfl rfl hl.1 rfl (Nat.le_of_ble_eq_true rfl) dL_law_1317 ⟨(by show cells ≤ 601024; omega), (by show slots ≤ 7293034; omega)⟩ (fun H locs hP hD hS => ?_)
  refine W.eq (g2 := F0 m 1320 ls [.int b', .int b']) rfl ?_
  refine lv_icmp_eq (tgt := 1405) hx hb dL_law_1320 (by decide) (fun _ => ?_) (fun c9 => absurd rfl c9)
  exact kk v' hk' hz' sl' x' ouF' al' hy' hn' y' _ _ _ _ ls ⟨hR', va_P_perm List.perm_append_comm hP, va_D_perm List.perm_append_comm hD, hS, by omega, by omega, lv_sub hl [0, 1, 2, 3, 4] rfl⟩
set_option maxHeartbeats 4000000 in
set_option maxRecDepth 100000 in
theorem lc_30 {p : Program} {l : Launch} {e : Env} {s : State} {m : MethodId} {below : List Frame} {meth : Method} {c : Code} {D : va_G} {T : Nat → ClassId} {b L : Nat} {xs : Nat → Int32} {Q : State → Prop} (C : kLC p l s m c D T b L xs) (hL : L ≤ 1024) {po ouA mo : Nat} {a mm : Nat → Nat} {j : Nat} (hj : 2 * j + 1 < L)
    (kk : ∀ (v : ST) (hk hz : Nat) (sl : Nat → ST) (x : CT) (ouF : Nat → Int64) (al hy : Nat → Int32) (hn : Nat) (y : MT) (H : Heap) (locs : List Loc) (cells slots : Nat) (ls : Array Slot), kLS s D T b po ouA mo a mm j (j + 1) v hk hz sl x ouF al hy hn y H locs cells slots ls → W p l e room_1 s m #[Value.ref b] below meth c H locs cells slots Q (F0 m 1405 ls []))
    (v : ST) (hk hz : Nat) (sl : Nat → ST) (x : CT) (ouF : Nat → Int64) (al hy : Nat → Int32) (hn : Nat) (y : MT) (H : Heap) (locs : List Loc) (cells slots : Nat) (ls : Array Slot) (S : kLS s D T b po ouA mo a mm j j v hk hz sl x ouF al hy hn y H locs cells slots ls) : W p l e room_1 s m #[Value.ref b] below meth c H locs cells slots Q (F0 m 1325 ls []) := by
  obtain ⟨hx, hb, hml, hown, hts, hX, hbl, hst9, hC, hXX, hZ, hE, hNc⟩ := C
  obtain ⟨hR, hP, hD, hS, hce, hso, hl⟩ := S
  have hA : ∀ q : Nat, s.heap.size ≤ q → (fun q : Nat => s.heap.size ≤ q) q := fun _ h => h
  have hbA : ¬ (fun q : Nat => s.heap.size ≤ q) b := Nat.not_le.mpr hbl
  have hin : vp_in (nI (2 * j + 1)) L := vp_in_nI hj (by omega)
  obtain ⟨v', hk', hz', sl', x', ouF', al', hy', hn', y', b', hW, hM, hR'⟩ := op_greatestError (l := l) D T po ouA a mo mm ouF hR
  refine lv_aload_n hx hb dL_law_1325 rfl (lv_at hl 1 rfl) ?_
  refine kV (ci := 7) (As := []) (rest := []) ⟨hx, hb, hml, hown, hts⟩ hW (cwV 0 hts gL_law_X8_greatestError rfl rfl rfl (by decide +kernel) ⟨Nat.le_of_ble_eq_true rfl, Nat.le_of_ble_eq_true rfl⟩) hC hP hD hS hA rfl rfl rfl hl.1 rfl (Nat.le_of_ble_eq_true rfl) dL_law_1326 ⟨(by show cells ≤ 601024; omega), (by show slots ≤ 7293034; omega)⟩ (fun H locs hP hD hS => ?_)
  refine W.eq (g2 := F0 m 1329 ls [.int b']) rfl ?_
  refine lv_aload_n hx hb dL_law_1329 rfl (lv_at hl 2 rfl) ?_
  have hP := va_P_perm List.perm_append_comm hP
  have hD := va_D_perm List.perm_append_comm hD
  refine kV (ci := 8) (As := []) (rest := [.int b']) ⟨hx, hb, hml, hown, hts⟩ hM (cwV 0 hts gL_law_X9_greatestError rfl rfl rfl (by decide +kernel) ⟨Nat.le_of_ble_eq_true rfl, Nat.le_of_ble_eq_true rfl⟩) hC hP hD hS hA rfl rfl rfl hl.1 rfl (Nat.le_of_ble_eq_true rfl) dL_law_1330 ⟨(by show cells ≤ 601024; omega), (by show slots ≤ 7293034; omega)⟩ (fun H locs hP hD hS => ?_)
  refine W.eq (g2 := F0 m 1333 ls [.int b', .int b']) rfl ?_
  refine lv_icmp_eq (tgt := 1405) hx hb dL_law_1333 (by decide) (fun _ => ?_) (fun c9 => absurd rfl c9)
  exact kk v' hk' hz' sl' x' ouF' al' hy' hn' y' _ _ _ _ ls ⟨hR', va_P_perm List.perm_append_comm hP, va_D_perm List.perm_append_comm hD, hS, by omega, by omega, lv_sub hl [0, 1, 2, 3, 4] rfl⟩
set_option maxHeartbeats 4000000 in
set_option maxRecDepth 100000 in
theorem lc_31 {p : Program} {l : Launch} {e : Env} {s : State} {m : MethodId} {below : List Frame} {meth : Method} {c : Code} {D : va_G} {T : Nat → ClassId} {b L : Nat} {xs : Nat → Int32} {Q : State → Prop} (C : kLC p l s m c D T b L xs) (hL : L ≤ 1024) {po ouA mo : Nat} {a mm : Nat → Nat} {j : Nat} (hj : 2 * j + 1 < L)
    (kk : ∀ (v : ST) (hk hz : Nat) (sl : Nat → ST) (x : CT) (ouF : Nat → Int64) (al hy : Nat → Int32) (hn : Nat) (y : MT) (H : Heap) (locs : List Loc) (cells slots : Nat) (ls : Array Slot), kLS s D T b po ouA mo a mm j (j + 1) v hk hz sl x ouF al hy hn y H locs cells slots ls → W p l e room_1 s m #[Value.ref b] below meth c H locs cells slots Q (F0 m 1405 ls []))
    (v : ST) (hk hz : Nat) (sl : Nat → ST) (x : CT) (ouF : Nat → Int64) (al hy : Nat → Int32) (hn : Nat) (y : MT) (H : Heap) (locs : List Loc) (cells slots : Nat) (ls : Array Slot) (S : kLS s D T b po ouA mo a mm j j v hk hz sl x ouF al hy hn y H locs cells slots ls) : W p l e room_1 s m #[Value.ref b] below meth c H locs cells slots Q (F0 m 1338 ls []) := by
  obtain ⟨hx, hb, hml, hown, hts, hX, hbl, hst9, hC, hXX, hZ, hE, hNc⟩ := C
  obtain ⟨hR, hP, hD, hS, hce, hso, hl⟩ := S
  have hA : ∀ q : Nat, s.heap.size ≤ q → (fun q : Nat => s.heap.size ≤ q) q := fun _ h => h
  have hbA : ¬ (fun q : Nat => s.heap.size ≤ q) b := Nat.not_le.mpr hbl
  have hin : vp_in (nI (2 * j + 1)) L := vp_in_nI hj (by omega)
  obtain ⟨v', hk', hz', sl', x', ouF', al', hy', hn', y', b', hW, hM, hR'⟩ := op_hasAside (l := l) D T po ouA a mo mm ouF hR
  refine lv_aload_n hx hb dL_law_1338 rfl (lv_at hl 1 rfl) ?_
  refine kV (ci := 7) (As := []) (rest := []) ⟨hx, hb, hml, hown, hts⟩ hW (cwV 0 hts gL_law_X8_hasAside rfl rfl rfl (by decide +kernel) ⟨Nat.le_of_ble_eq_true rfl, Nat.le_of_ble_eq_true rfl⟩) hC hP hD hS hA rfl rfl rfl hl.1 rfl (Nat.le_of_ble_eq_true rfl) dL_law_1339 ⟨(by show cells ≤ 601024; omega), (by show slots ≤ 7293034; omega)⟩ (fun H locs hP hD hS => ?_)
  refine W.eq (g2 := F0 m 1342 ls [.int b']) rfl ?_
  refine lv_aload_n hx hb dL_law_1342 rfl (lv_at hl 2 rfl) ?_
  have hP := va_P_perm List.perm_append_comm hP
  have hD := va_D_perm List.perm_append_comm hD
  refine kV (ci := 8) (As := []) (rest := [.int b']) ⟨hx, hb, hml, hown, hts⟩ hM (cwV 0 hts gL_law_X9_hasAside rfl rfl rfl (by decide +kernel) ⟨Nat.le_of_ble_eq_true rfl, Nat.le_of_ble_eq_true rfl⟩) hC hP hD hS hA rfl rfl rfl hl.1 rfl (Nat.le_of_ble_eq_true rfl) dL_law_1343 ⟨(by show cells ≤ 601024; omega), (by show slots ≤ 7293034; omega)⟩ (fun H locs hP hD hS => ?_)
  refine W.eq (g2 := F0 m 1346 ls [.int b', .int b']) rfl ?_
  refine lv_icmp_eq (tgt := 1405) hx hb dL_law_1346 (by decide) (fun _ => ?_) (fun c9 => absurd rfl c9)
  exact kk v' hk' hz' sl' x' ouF' al' hy' hn' y' _ _ _ _ ls ⟨hR', va_P_perm List.perm_append_comm hP, va_D_perm List.perm_append_comm hD, hS, by omega, by omega, lv_sub hl [0, 1, 2, 3, 4] rfl⟩
set_option maxHeartbeats 4000000 in
set_option maxRecDepth 100000 in
theorem lc_32 {p : Program} {l : Launch} {e : Env} {s : State} {m : MethodId} {below : List Frame} {meth : Method} {c : Code} {D : va_G} {T : Nat → ClassId} {b L : Nat} {xs : Nat → Int32} {Q : State → Prop} (C : kLC p l s m c D T b L xs) (hL : L ≤ 1024) {po ouA mo : Nat} {a mm : Nat → Nat} {j : Nat} (hj : 2 * j + 1 < L)
    (kk : ∀ (v : ST) (hk hz : Nat) (sl : Nat → ST) (x : CT) (ouF : Nat → Int64) (al hy : Nat → Int32) (hn : Nat) (y : MT) (H : Heap) (locs : List Loc) (cells slots : Nat) (ls : Array Slot), kLS s D T b po ouA mo a mm j (j + 1) v hk hz sl x ouF al hy hn y H locs cells slots ls → W p l e room_1 s m #[Value.ref b] below meth c H locs cells slots Q (F0 m 1405 ls []))
    (v : ST) (hk hz : Nat) (sl : Nat → ST) (x : CT) (ouF : Nat → Int64) (al hy : Nat → Int32) (hn : Nat) (y : MT) (H : Heap) (locs : List Loc) (cells slots : Nat) (ls : Array Slot) (S : kLS s D T b po ouA mo a mm j j v hk hz sl x ouF al hy hn y H locs cells slots ls) : W p l e room_1 s m #[Value.ref b] below meth c H locs cells slots Q (F0 m 1351 ls []) := by
  obtain ⟨hx, hb, hml, hown, hts, hX, hbl, hst9, hC, hXX, hZ, hE, hNc⟩ := C
  obtain ⟨hR, hP, hD, hS, hce, hso, hl⟩ := S
  have hA : ∀ q : Nat, s.heap.size ≤ q → (fun q : Nat => s.heap.size ≤ q) q := fun _ h => h
  have hbA : ¬ (fun q : Nat => s.heap.size ≤ q) b := Nat.not_le.mpr hbl
  have hin : vp_in (nI (2 * j + 1)) L := vp_in_nI hj (by omega)
  obtain ⟨v', hk', hz', sl', x', ouF', al', hy', hn', y', b', hW, hM, hR'⟩ := op_loudestShare (l := l) D T po ouA a mo mm ouF hR
  refine lv_aload_n hx hb dL_law_1351 rfl (lv_at hl 1 rfl) ?_
  refine kV (ci := 7) (As := []) (rest := []) ⟨hx, hb, hml, hown, hts⟩ hW (cwV 0 hts gL_law_X8_loudestShare rfl rfl rfl (by decide +kernel) ⟨Nat.le_of_ble_eq_true rfl, Nat.le_of_ble_eq_true rfl⟩) hC hP hD hS hA rfl rfl rfl hl.1 rfl (Nat.le_of_ble_eq_true rfl) dL_law_1352 ⟨(by show cells ≤ 601024; omega), (by show slots ≤ 7293034; omega)⟩ (fun H locs hP hD hS => ?_)
  refine W.eq (g2 := F0 m 1355 ls [.double b']) rfl ?_
  refine lv_dstore (lv' := [(5, .double b'), (0, .ref b), (1, .ref po), (2, .ref mo), (3, .ref ouA), (4, .int (nI (2 * j)))]) hx hb dL_law_1355 hl (by decide) rfl (fun ls hl => ?_)
  refine lv_aload_n hx hb dL_law_1357 rfl (lv_at hl 3 rfl) ?_
  have hP := va_P_perm List.perm_append_comm hP
  have hD := va_D_perm List.perm_append_comm hD
  refine kV (ci := 8) (As := []) (rest := []) ⟨hx, hb, hml, hown, hts⟩ hM (cwV 0 hts gL_law_X9_loudestShare rfl rfl rfl (by decide +kernel) ⟨Nat.le_of_ble_eq_true rfl, Nat.le_of_ble_eq_true rfl⟩) hC hP hD hS hA rfl rfl rfl hl.1 rfl (Nat.le_of_ble_eq_true rfl) dL_law_1358 ⟨(by show cells ≤ 601024; omega), (by show slots ≤ 7293034; omega)⟩ (fun H locs hP hD hS => ?_)
  refine W.eq (g2 := F0 m 1361 ls [.double b']) rfl ?_
  refine lv_dstore (lv' := [(7, .double b'), (5, .double b'), (0, .ref b), (1, .ref po), (2, .ref mo), (3, .ref ouA), (4, .int (nI (2 * j)))]) hx hb dL_law_1361 hl (by decide) rfl (fun ls hl => ?_)
  refine lv_dload hx hb dL_law_1363 (lv_at hl 1 rfl) ?_
  refine lv_dload hx hb dL_law_1365 (lv_at hl 0 rfl) ?_
  refine lv_dcmp hx hb dL_law_1367 ?_
  refine lv_if_eq (tgt := 1389) hx hb dL_law_1368 (by decide) (fun _ => ?_) (fun c9 => ?_)
  · refine lv_goto (tgt := 1405) hx hb dL_law_1389 (by decide) ?_
    exact kk v' hk' hz' sl' x' ouF' al' hy' hn' y' _ _ _ _ ls ⟨hR', va_P_perm List.perm_append_comm hP, va_D_perm List.perm_append_comm hD, hS, by omega, by omega, lv_sub hl [2, 3, 4, 5, 6] rfl⟩
  refine lv_dload hx hb dL_law_1371 (lv_at hl 1 rfl) ?_
  refine lv_dload hx hb dL_law_1373 (lv_at hl 1 rfl) ?_
  refine lv_dcmp hx hb dL_law_1375 ?_
  refine lv_if_eq (tgt := 1387) hx hb dL_law_1376 (by decide) (fun c8 => absurd c8 c9) (fun _ => ?_)
  refine lv_dload hx hb dL_law_1379 (lv_at hl 0 rfl) ?_
  refine lv_dload hx hb dL_law_1381 (lv_at hl 0 rfl) ?_
  refine lv_dcmp hx hb dL_law_1383 ?_
  refine lv_if_ne (tgt := 1389) hx hb dL_law_1384 (by decide) (fun _ => ?_) (fun c8 => absurd c8 c9)
  refine lv_goto (tgt := 1405) hx hb dL_law_1389 (by decide) ?_
  exact kk v' hk' hz' sl' x' ouF' al' hy' hn' y' _ _ _ _ ls ⟨hR', va_P_perm List.perm_append_comm hP, va_D_perm List.perm_append_comm hD, hS, by omega, by omega, lv_sub hl [2, 3, 4, 5, 6] rfl⟩
set_option maxHeartbeats 4000000 in
set_option maxRecDepth 100000 in
theorem lc_33 {p : Program} {l : Launch} {e : Env} {s : State} {m : MethodId} {below : List Frame} {meth : Method} {c : Code} {D : va_G} {T : Nat → ClassId} {b L : Nat} {xs : Nat → Int32} {Q : State → Prop} (C : kLC p l s m c D T b L xs) (hL : L ≤ 1024) {po ouA mo : Nat} {a mm : Nat → Nat} {j : Nat} (hj : 2 * j + 1 < L)
    (kk : ∀ (v : ST) (hk hz : Nat) (sl : Nat → ST) (x : CT) (ouF : Nat → Int64) (al hy : Nat → Int32) (hn : Nat) (y : MT) (H : Heap) (locs : List Loc) (cells slots : Nat) (ls : Array Slot), kLS s D T b po ouA mo a mm j (j + 1) v hk hz sl x ouF al hy hn y H locs cells slots ls → W p l e room_1 s m #[Value.ref b] below meth c H locs cells slots Q (F0 m 1405 ls []))
    (v : ST) (hk hz : Nat) (sl : Nat → ST) (x : CT) (ouF : Nat → Int64) (al hy : Nat → Int32) (hn : Nat) (y : MT) (H : Heap) (locs : List Loc) (cells slots : Nat) (ls : Array Slot) (S : kLS s D T b po ouA mo a mm j j v hk hz sl x ouF al hy hn y H locs cells slots ls) : W p l e room_1 s m #[Value.ref b] below meth c H locs cells slots Q (F0 m 1392 ls []) := by
  obtain ⟨hx, hb, hml, hown, hts, hX, hbl, hst9, hC, hXX, hZ, hE, hNc⟩ := C
  obtain ⟨hR, hP, hD, hS, hce, hso, hl⟩ := S
  have hA : ∀ q : Nat, s.heap.size ≤ q → (fun q : Nat => s.heap.size ≤ q) q := fun _ h => h
  have hbA : ¬ (fun q : Nat => s.heap.size ≤ q) b := Nat.not_le.mpr hbl
  have hin : vp_in (nI (2 * j + 1)) L := vp_in_nI hj (by omega)
  obtain ⟨v', hk', hz', sl', x', ouF', al', hy', hn', y', b', hW, hM, hR'⟩ := op_historySize (l := l) D T po ouA a mo mm ouF hR
  refine lv_aload_n hx hb dL_law_1392 rfl (lv_at hl 1 rfl) ?_
  refine kV (ci := 7) (As := []) (rest := []) ⟨hx, hb, hml, hown, hts⟩ hW (cwV 0 hts gL_law_X8_historySize rfl rfl rfl (by decide +kernel) ⟨Nat.le_of_ble_eq_true rfl, Nat.le_of_ble_eq_true rfl⟩) hC hP hD hS hA rfl rfl rfl hl.1 rfl (Nat.le_of_ble_eq_true rfl) dL_law_1393 ⟨(by show cells ≤ 601024; omega), (by show slots ≤ 7293034; omega)⟩ (fun H locs hP hD hS => ?_)
  refine W.eq (g2 := F0 m 1396 ls [.int b']) rfl ?_
  refine lv_aload_n hx hb dL_law_1396 rfl (lv_at hl 2 rfl) ?_
  have hP := va_P_perm List.perm_append_comm hP
  have hD := va_D_perm List.perm_append_comm hD
  refine kV (ci := 8) (As := []) (rest := [.int b']) ⟨hx, hb, hml, hown, hts⟩ hM (cwV 0 hts gL_law_X9_historySize rfl rfl rfl (by decide +kernel) ⟨Nat.le_of_ble_eq_true rfl, Nat.le_of_ble_eq_true rfl⟩) hC hP hD hS hA rfl rfl rfl hl.1 rfl (Nat.le_of_ble_eq_true rfl) dL_law_1397 ⟨(by show cells ≤ 601024; omega), (by show slots ≤ 7293034; omega)⟩ (fun H locs hP hD hS => ?_)
  refine W.eq (g2 := F0 m 1400 ls [.int b', .int b']) rfl ?_
  refine lv_icmp_eq (tgt := 1405) hx hb dL_law_1400 (by decide) (fun _ => ?_) (fun c9 => absurd rfl c9)
  exact kk v' hk' hz' sl' x' ouF' al' hy' hn' y' _ _ _ _ ls ⟨hR', va_P_perm List.perm_append_comm hP, va_D_perm List.perm_append_comm hD, hS, by omega, by omega, lv_sub hl [0, 1, 2, 3, 4] rfl⟩
end LAW2
