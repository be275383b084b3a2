section LAW0
set_option maxHeartbeats 4000000 in
set_option maxRecDepth 100000 in
theorem lc_0 {p : Program} {l : Launch} {e : Env} {s : State} {m : MethodId} {below : List Frame} {meth : Method} {c : Code} {D : va_G} {T : Nat → ClassId} {b L : Nat} {xs : Nat → Int32} {Q : State → Prop} (C : kLC p l s m c D T b L xs) (hL : L ≤ 1024) {po ouA mo : Nat} {a mm : Nat → Nat} {j : Nat} (hj : 2 * j + 1 < L)
    (kk : ∀ (v : ST) (hk hz : Nat) (sl : Nat → ST) (x : CT) (ouF : Nat → Int64) (al hy : Nat → Int32) (hn : Nat) (y : MT) (H : Heap) (locs : List Loc) (cells slots : Nat) (ls : Array Slot), kLS s D T b po ouA mo a mm j (j + 1) v hk hz sl x ouF al hy hn y H locs cells slots ls → W p l e room_1 s m #[Value.ref b] below meth c H locs cells slots Q (F0 m 1405 ls []))
    (v : ST) (hk hz : Nat) (sl : Nat → ST) (x : CT) (ouF : Nat → Int64) (al hy : Nat → Int32) (hn : Nat) (y : MT) (H : Heap) (locs : List Loc) (cells slots : Nat) (ls : Array Slot) (S : kLS s D T b po ouA mo a mm j j v hk hz sl x ouF al hy hn y H locs cells slots ls) : W p l e room_1 s m #[Value.ref b] below meth c H locs cells slots Q (F0 m 188 ls []) := by
  obtain ⟨hx, hb, hml, hown, hts, hX, hbl, hst9, hC, hXX, hZ, hE, hNc⟩ := C
  obtain ⟨hR, hP, hD, hS, hce, hso, hl⟩ := S
  have hA : ∀ q : Nat, s.heap.size ≤ q → (fun q : Nat => s.heap.size ≤ q) q := fun _ h => h
  have hbA : ¬ (fun q : Nat => s.heap.size ≤ q) b := Nat.not_le.mpr hbl
  have hin : vp_in (nI (2 * j + 1)) L := vp_in_nI hj (by omega)
  obtain ⟨v', hk', hz', sl', x', ouF', al', hy', hn', y', k, b', hW, hM, hth, hou, hR'⟩ := op_hear hst9 D T po ouA a mo mm ouF hR (xs (nI (2 * j + 1)).toNatClampNeg)
  refine lv_aload_n hx hb dL_law_188 rfl (lv_at hl 1 rfl) ?_
  refine lv_aload_n hx hb dL_law_189 rfl (lv_at hl 0 rfl) ?_
  refine lv_iload hx hb dL_law_190 (lv_at hl 4 rfl) ?_
  refine lv_iconst (v := 1) hx hb dL_law_192 (by decide) ?_
  refine lv_iadd hx hb dL_law_193 ?_
  refine W.eq (g2 := F0 m 194 ls [.int (nI (2 * j + 1)), .ref b, .ref po]) (by rw [nI_1]) ?_
  refine va_sld hx hb hX hbl hbA hS hin dL_law_194 ?_
  refine lv_aload_n hx hb dL_law_195 rfl (lv_at hl 3 rfl) ?_
  refine kWS (As := [.ref po, .int (xs (nI (2 * j + 1)).toNatClampNeg), .ref ouA]) (rest := []) ⟨hx, hb, hml, hown, hts⟩ hW (vx_cwSW 3 hts gL_law_L_hear rfl rfl rfl (by decide +kernel) ⟨Nat.le_of_ble_eq_true rfl, Nat.le_of_ble_eq_true rfl⟩) hC hXX hZ hE hNc hP hD hS hA rfl hl.1 rfl (Nat.le_of_ble_eq_true rfl) dL_law_196 ⟨(by show cells + 1 ≤ 601024; omega), (by show slots + 6 ≤ 7293034; omega)⟩ (fun H locs hP hD hS => ?_)
  refine W.eq (g2 := F0 m 199 ls [.int k]) rfl ?_
  refine lv_istore (lv' := [(5, .int k), (0, .ref b), (1, .ref po), (2, .ref mo), (3, .ref ouA), (4, .int (nI (2 * j)))]) hx hb dL_law_199 hl (by decide) rfl (fun ls hl => ?_)
  refine lv_aload_n hx hb dL_law_201 rfl (lv_at hl 3 rfl) ?_
  refine lv_aload_n hx hb dL_law_202 rfl (lv_at hl 1 rfl) ?_
  refine lv_iload hx hb dL_law_203 (lv_at hl 5 rfl) ?_
  refine lv_iconst (v := 1) hx hb dL_law_205 (by decide) ?_
  refine lv_iadd hx hb dL_law_206 ?_
  refine W.eq (g2 := F0 m 207 ls [.int (nI (2 * j + 1)), .ref b, .ref mo]) (by rw [nI_1]) ?_
  refine va_sld hx hb hX hbl hbA hS hin dL_law_207 ?_
  have hP := va_P_perm List.perm_append_comm hP
  have hD := va_D_perm List.perm_append_comm hD
  refine kV (ci := 8) (As := [.int (xs (nI (2 * j + 1)).toNatClampNeg)]) (rest := []) ⟨hx, hb, hml, hown, hts⟩ hM (cwV 1 hts gL_law_X9_hear rfl rfl rfl (by decide +kernel) ⟨Nat.le_of_ble_eq_true rfl, Nat.le_of_ble_eq_true rfl⟩) hC hP hD hS hA rfl rfl rfl hl.1 rfl (Nat.le_of_ble_eq_true rfl) dL_law_208 ⟨(by show cells + 1 ≤ 601024; omega), (by show slots + 6 ≤ 7293034; omega)⟩ (fun H locs hP hD hS => ?_)
  refine W.eq (g2 := F0 m 211 ls [.int b']) rfl ?_
  refine lv_istore (lv' := [(6, .int b'), (5, .int k), (0, .ref b), (1, .ref po), (2, .ref mo), (3, .ref ouA), (4, .int (nI (2 * j)))]) hx hb dL_law_211 hl (by decide) rfl (fun ls hl => ?_)
  refine lv_aload_n hx hb dL_law_213 rfl (lv_at hl 4 rfl) ?_
  refine kV (ci := 8) (As := []) (rest := []) ⟨hx, hb, hml, hown, hts⟩ (op_thrown (l := l) D T mo mm al' hy' hn' y') (cwV 0 hts gL_law_X9_thrown rfl rfl rfl (by decide +kernel) ⟨Nat.le_of_ble_eq_true rfl, Nat.le_of_ble_eq_true rfl⟩) hC hP hD hS hA rfl rfl rfl hl.1 rfl (Nat.le_of_ble_eq_true rfl) dL_law_214 ⟨(by show cells + 1 ≤ 601024; omega), (by show slots + 6 ≤ 7293034; omega)⟩ (fun H locs hP hD hS => ?_)
  refine W.eq (g2 := F0 m 217 ls [.int y'.1]) rfl ?_
  refine lv_iload hx hb dL_law_217 (lv_at hl 1 rfl) ?_
  refine lv_icmp_eq (tgt := 224) hx hb dL_law_219 (by decide) (fun _ => ?_) (fun c9 => absurd hth c9)
  refine lv_iload hx hb dL_law_224 (lv_at hl 1 rfl) ?_
  refine lv_if_ne (tgt := 241) hx hb dL_law_226 (by decide) (fun _ => ?_) (fun hk0 => ?_)
  · refine lv_goto (tgt := 1405) hx hb dL_law_241 (by decide) ?_
    exact kk v' hk' hz' sl' x' ouF' al' hy' hn' y' _ _ _ _ ls ⟨hR', va_P_perm List.perm_append_comm hP, va_D_perm List.perm_append_comm hD, hS, by omega, by omega, lv_sub hl [2, 3, 4, 5, 6] rfl⟩
  · refine lv_aload_n hx hb dL_law_229 rfl (lv_at hl 5 rfl) ?_
    refine lv_iconst (v := 0) hx hb dL_law_230 (by decide) ?_
    refine va_lald hx hb hC.1 hP 115 2 rfl rfl (k_nin (i := 0) (by decide) (by decide)) dL_law_231 ?_
    refine lv_iload hx hb dL_law_232 (lv_at hl 0 rfl) ?_
    refine lv_i2l (v := b'.toInt64) hx hb dL_law_234 rfl ?_
    refine W.lcmp hx hb dL_law_235 ?_
    refine lv_if_eq (tgt := 241) hx hb dL_law_236 (by decide) (fun _ => ?_) (fun c9 => absurd (kLc (hou hk0)) c9)
    refine lv_goto (tgt := 1405) hx hb dL_law_241 (by decide) ?_
    exact kk v' hk' hz' sl' x' ouF' al' hy' hn' y' _ _ _ _ ls ⟨hR', va_P_perm List.perm_append_comm hP, va_D_perm List.perm_append_comm hD, hS, by omega, by omega, lv_sub hl [2, 3, 4, 5, 6] rfl⟩
set_option maxHeartbeats 4000000 in
set_option maxRecDepth 100000 in
theorem lc_1 {p : Program} {l : Launch} {e : Env} {s : State} {m : MethodId} {below : List Frame} {meth : Method} {c : Code} {D : va_G} {T : Nat → ClassId} {b L : Nat} {xs : Nat → Int32} {Q : State → Prop} (C : kLC p l s m c D T b L xs) (hL : L ≤ 1024) {po ouA mo : Nat} {a mm : Nat → Nat} {j : Nat} (hj : 2 * j + 1 < L)
    (kk : ∀ (v : ST) (hk hz : Nat) (sl : Nat → ST) (x : CT) (ouF : Nat → Int64) (al hy : Nat → Int32) (hn : Nat) (y : MT) (H : Heap) (locs : List Loc) (cells slots : Nat) (ls : Array Slot), kLS s D T b po ouA mo a mm j (j + 1) v hk hz sl x ouF al hy hn y H locs cells slots ls → W p l e room_1 s m #[Value.ref b] below meth c H locs cells slots Q (F0 m 1405 ls []))
    (v : ST) (hk hz : Nat) (sl : Nat → ST) (x : CT) (ouF : Nat → Int64) (al hy : Nat → Int32) (hn : Nat) (y : MT) (H : Heap) (locs : List Loc) (cells slots : Nat) (ls : Array Slot) (S : kLS s D T b po ouA mo a mm j j v hk hz sl x ouF al hy hn y H locs cells slots ls) : W p l e room_1 s m #[Value.ref b] below meth c H locs cells slots Q (F0 m 244 ls []) := by
  obtain ⟨hx, hb, hml, hown, hts, hX, hbl, hst9, hC, hXX, hZ, hE, hNc⟩ := C
  obtain ⟨hR, hP, hD, hS, hce, hso, hl⟩ := S
  have hA : ∀ q : Nat, s.heap.size ≤ q → (fun q : Nat => s.heap.size ≤ q) q := fun _ h => h
  have hbA : ¬ (fun q : Nat => s.heap.size ≤ q) b := Nat.not_le.mpr hbl
  have hin : vp_in (nI (2 * j + 1)) L := vp_in_nI hj (by omega)
  obtain ⟨v', hk', hz', sl', x', ouF', al', hy', hn', y', k, b', hW, hM, hth, hou, hR'⟩ := op_hearSong hst9 D T po ouA a mo mm ouF hR
  refine lv_aload_n hx hb dL_law_244 rfl (lv_at hl 1 rfl) ?_
  refine lv_aload_n hx hb dL_law_245 rfl (lv_at hl 3 rfl) ?_
  refine kWS (As := [.ref po, .ref ouA]) (rest := []) ⟨hx, hb, hml, hown, hts⟩ hW (vx_cwSW 2 hts gL_law_L_hearSong rfl rfl rfl (by decide +kernel) ⟨Nat.le_of_ble_eq_true rfl, Nat.le_of_ble_eq_true rfl⟩) hC hXX hZ hE hNc hP hD hS hA rfl hl.1 rfl (Nat.le_of_ble_eq_true rfl) dL_law_246 ⟨(by show cells + 1 ≤ 601024; omega), (by show slots + 6 ≤ 7293034; omega)⟩ (fun H locs hP hD hS => ?_)
  refine W.eq (g2 := F0 m 249 ls [.int k]) rfl ?_
  refine lv_istore (lv' := [(5, .int k), (0, .ref b), (1, .ref po), (2, .ref mo), (3, .ref ouA), (4, .int (nI (2 * j)))]) hx hb dL_law_249 hl (by decide) rfl (fun ls hl => ?_)
  refine lv_aload_n hx hb dL_law_251 rfl (lv_at hl 3 rfl) ?_
  have hP := va_P_perm List.perm_append_comm hP
  have hD := va_D_perm List.perm_append_comm hD
  refine kV (ci := 8) (As := []) (rest := []) ⟨hx, hb, hml, hown, hts⟩ hM (cwV 0 hts gL_law_X9_hearSong rfl rfl rfl (by decide +kernel) ⟨Nat.le_of_ble_eq_true rfl, Nat.le_of_ble_eq_true rfl⟩) hC hP hD hS hA rfl rfl rfl hl.1 rfl (Nat.le_of_ble_eq_true rfl) dL_law_252 ⟨(by show cells + 1 ≤ 601024; omega), (by show slots + 6 ≤ 7293034; omega)⟩ (fun H locs hP hD hS => ?_)
  refine W.eq (g2 := F0 m 255 ls [.int b']) rfl ?_
  refine lv_istore (lv' := [(6, .int b'), (5, .int k), (0, .ref b), (1, .ref po), (2, .ref mo), (3, .ref ouA), (4, .int (nI (2 * j)))]) hx hb dL_law_255 hl (by decide) rfl (fun ls hl => ?_)
  refine lv_aload_n hx hb dL_law_257 rfl (lv_at hl 4 rfl) ?_
  refine kV (ci := 8) (As := []) (rest := []) ⟨hx, hb, hml, hown, hts⟩ (op_thrown (l := l) D T mo mm al' hy' hn' y') (cwV 0 hts gL_law_X9_thrown rfl rfl rfl (by decide +kernel) ⟨Nat.le_of_ble_eq_true rfl, Nat.le_of_ble_eq_true rfl⟩) hC hP hD hS hA rfl rfl rfl hl.1 rfl (Nat.le_of_ble_eq_true rfl) dL_law_258 ⟨(by show cells + 1 ≤ 601024; omega), (by show slots + 6 ≤ 7293034; omega)⟩ (fun H locs hP hD hS => ?_)
  refine W.eq (g2 := F0 m 261 ls [.int y'.1]) rfl ?_
  refine lv_iload hx hb dL_law_261 (lv_at hl 1 rfl) ?_
  refine lv_icmp_eq (tgt := 268) hx hb dL_law_263 (by decide) (fun _ => ?_) (fun c9 => absurd hth c9)
  refine lv_iload hx hb dL_law_268 (lv_at hl 1 rfl) ?_
  refine lv_if_ne (tgt := 285) hx hb dL_law_270 (by decide) (fun _ => ?_) (fun hk0 => ?_)
  · refine lv_goto (tgt := 1405) hx hb dL_law_285 (by decide) ?_
    exact kk v' hk' hz' sl' x' ouF' al' hy' hn' y' _ _ _ _ ls ⟨hR', va_P_perm List.perm_append_comm hP, va_D_perm List.perm_append_comm hD, hS, by omega, by omega, lv_sub hl [2, 3, 4, 5, 6] rfl⟩
  · refine lv_aload_n hx hb dL_law_273 rfl (lv_at hl 5 rfl) ?_
    refine lv_iconst (v := 0) hx hb dL_law_274 (by decide) ?_
    refine va_lald hx hb hC.1 hP 115 2 rfl rfl (k_nin (i := 0) (by decide) (by decide)) dL_law_275 ?_
    refine lv_iload hx hb dL_law_276 (lv_at hl 0 rfl) ?_
    refine lv_i2l (v := b'.toInt64) hx hb dL_law_278 rfl ?_
    refine W.lcmp hx hb dL_law_279 ?_
    refine lv_if_eq (tgt := 285) hx hb dL_law_280 (by decide) (fun _ => ?_) (fun c9 => absurd (kLc (hou hk0)) c9)
    refine lv_goto (tgt := 1405) hx hb dL_law_285 (by decide) ?_
    exact kk v' hk' hz' sl' x' ouF' al' hy' hn' y' _ _ _ _ ls ⟨hR', va_P_perm List.perm_append_comm hP, va_D_perm List.perm_append_comm hD, hS, by omega, by omega, lv_sub hl [2, 3, 4, 5, 6] rfl⟩
set_option maxHeartbeats 4000000 in
set_option maxRecDepth 100000 in
theorem lc_2 {p : Program} {l : Launch} {e : Env} {s : State} {m : MethodId} {below : List Frame} {meth : Method} {c : Code} {D : va_G} {T : Nat → ClassId} {b L : Nat} {xs : Nat → Int32} {Q : State → Prop} (C : kLC p l s m c D T b L xs) (hL : L ≤ 1024) {po ouA mo : Nat} {a mm : Nat → Nat} {j : Nat} (hj : 2 * j + 1 < L)
    (kk : ∀ (v : ST) (hk hz : Nat) (sl : Nat → ST) (x : CT) (ouF : Nat → Int64) (al hy : Nat → Int32) (hn : Nat) (y : MT) (H : Heap) (locs : List Loc) (cells slots : Nat) (ls : Array Slot), kLS s D T b po ouA mo a mm j (j + 1) v hk hz sl x ouF al hy hn y H locs cells slots ls → W p l e room_1 s m #[Value.ref b] below meth c H locs cells slots Q (F0 m 1405 ls []))
    (v : ST) (hk hz : Nat) (sl : Nat → ST) (x : CT) (ouF : Nat → Int64) (al hy : Nat → Int32) (hn : Nat) (y : MT) (H : Heap) (locs : List Loc) (cells slots : Nat) (ls : Array Slot) (S : kLS s D T b po ouA mo a mm j j v hk hz sl x ouF al hy hn y H locs cells slots ls) : W p l e room_1 s m #[Value.ref b] below meth c H locs cells slots Q (F0 m 288 ls []) := by
  obtain ⟨hx, hb, hml, hown, hts, hX, hbl, hst9, hC, hXX, hZ, hE, hNc⟩ := C
  obtain ⟨hR, hP, hD, hS, hce, hso, hl⟩ := S
  have hA : ∀ q : Nat, s.heap.size ≤ q → (fun q : Nat => s.heap.size ≤ q) q := fun _ h => h
  have hbA : ¬ (fun q : Nat => s.heap.size ≤ q) b := Nat.not_le.mpr hbl
  have hin : vp_in (nI (2 * j + 1)) L := vp_in_nI hj (by omega)
  obtain ⟨v', hk', hz', sl', x', ouF', al', hy', hn', y', k, b', hW, hM, hth, hou, hR'⟩ := op_empty hst9 D T po ouA a mo mm ouF hR (xs (nI (2 * j + 1)).toNatClampNeg)
  refine lv_aload_n hx hb dL_law_288 rfl (lv_at hl 1 rfl) ?_
  refine lv_aload_n hx hb dL_law_289 rfl (lv_at hl 0 rfl) ?_
  refine lv_iload hx hb dL_law_290 (lv_at hl 4 rfl) ?_
  refine lv_iconst (v := 1) hx hb dL_law_292 (by decide) ?_
  refine lv_iadd hx hb dL_law_293 ?_
  refine W.eq (g2 := F0 m 294 ls [.int (nI (2 * j + 1)), .ref b, .ref po]) (by rw [nI_1]) ?_
  refine va_sld hx hb hX hbl hbA hS hin dL_law_294 ?_
  refine lv_aload_n hx hb dL_law_295 rfl (lv_at hl 3 rfl) ?_
  refine kWS (As := [.ref po, .int (xs (nI (2 * j + 1)).toNatClampNeg), .ref ouA]) (rest := []) ⟨hx, hb, hml, hown, hts⟩ hW (vx_cwSW 3 hts gL_law_L_empty rfl rfl rfl (by decide +kernel) ⟨Nat.le_of_ble_eq_true rfl, Nat.le_of_ble_eq_true rfl⟩) hC hXX hZ hE hNc hP hD hS hA rfl hl.1 rfl (Nat.le_of_ble_eq_true rfl) dL_law_296 ⟨(by show cells + 1 ≤ 601024; omega), (by show slots + 6 ≤ 7293034; omega)⟩ (fun H locs hP hD hS => ?_)
  refine W.eq (g2 := F0 m 299 ls [.int k]) rfl ?_
  refine lv_istore (lv' := [(5, .int k), (0, .ref b), (1, .ref po), (2, .ref mo), (3, .ref ouA), (4, .int (nI (2 * j)))]) hx hb dL_law_299 hl (by decide) rfl (fun ls hl => ?_)
  refine lv_aload_n hx hb dL_law_301 rfl (lv_at hl 3 rfl) ?_
  refine lv_aload_n hx hb dL_law_302 rfl (lv_at hl 1 rfl) ?_
  refine lv_iload hx hb dL_law_303 (lv_at hl 5 rfl) ?_
  refine lv_iconst (v := 1) hx hb dL_law_305 (by decide) ?_
  refine lv_iadd hx hb dL_law_306 ?_
  refine W.eq (g2 := F0 m 307 ls [.int (nI (2 * j + 1)), .ref b, .ref mo]) (by rw [nI_1]) ?_
  refine va_sld hx hb hX hbl hbA hS hin dL_law_307 ?_
  have hP := va_P_perm List.perm_append_comm hP
  have hD := va_D_perm List.perm_append_comm hD
  refine kV (ci := 8) (As := [.int (xs (nI (2 * j + 1)).toNatClampNeg)]) (rest := []) ⟨hx, hb, hml, hown, hts⟩ hM (cwV 1 hts gL_law_X9_empty rfl rfl rfl (by decide +kernel) ⟨Nat.le_of_ble_eq_true rfl, Nat.le_of_ble_eq_true rfl⟩) hC hP hD hS hA rfl rfl rfl hl.1 rfl (Nat.le_of_ble_eq_true rfl) dL_law_308 ⟨(by show cells + 1 ≤ 601024; omega), (by show slots + 6 ≤ 7293034; omega)⟩ (fun H locs hP hD hS => ?_)
  refine W.eq (g2 := F0 m 311 ls [.int b']) rfl ?_
  refine lv_istore (lv' := [(6, .int b'), (5, .int k), (0, .ref b), (1, .ref po), (2, .ref mo), (3, .ref ouA), (4, .int (nI (2 * j)))]) hx hb dL_law_311 hl (by decide) rfl (fun ls hl => ?_)
  refine lv_aload_n hx hb dL_law_313 rfl (lv_at hl 4 rfl) ?_
  refine kV (ci := 8) (As := []) (rest := []) ⟨hx, hb, hml, hown, hts⟩ (op_thrown (l := l) D T mo mm al' hy' hn' y') (cwV 0 hts gL_law_X9_thrown rfl rfl rfl (by decide +kernel) ⟨Nat.le_of_ble_eq_true rfl, Nat.le_of_ble_eq_true rfl⟩) hC hP hD hS hA rfl rfl rfl hl.1 rfl (Nat.le_of_ble_eq_true rfl) dL_law_314 ⟨(by show cells + 1 ≤ 601024; omega), (by show slots + 6 ≤ 7293034; omega)⟩ (fun H locs hP hD hS => ?_)
  refine W.eq (g2 := F0 m 317 ls [.int y'.1]) rfl ?_
  refine lv_iload hx hb dL_law_317 (lv_at hl 1 rfl) ?_
  refine lv_icmp_eq (tgt := 324) hx hb dL_law_319 (by decide) (fun _ => ?_) (fun c9 => absurd hth c9)
  refine lv_iload hx hb dL_law_324 (lv_at hl 1 rfl) ?_
  refine lv_if_ne (tgt := 341) hx hb dL_law_326 (by decide) (fun _ => ?_) (fun hk0 => ?_)
  · refine lv_goto (tgt := 1405) hx hb dL_law_341 (by decide) ?_
    exact kk v' hk' hz' sl' x' ouF' al' hy' hn' y' _ _ _ _ ls ⟨hR', va_P_perm List.perm_append_comm hP, va_D_perm List.perm_append_comm hD, hS, by omega, by omega, lv_sub hl [2, 3, 4, 5, 6] rfl⟩
  · refine lv_aload_n hx hb dL_law_329 rfl (lv_at hl 5 rfl) ?_
    refine lv_iconst (v := 0) hx hb dL_law_330 (by decide) ?_
    refine va_lald hx hb hC.1 hP 115 2 rfl rfl (k_nin (i := 0) (by decide) (by decide)) dL_law_331 ?_
    refine lv_iload hx hb dL_law_332 (lv_at hl 0 rfl) ?_
    refine lv_i2l (v := b'.toInt64) hx hb dL_law_334 rfl ?_
    refine W.lcmp hx hb dL_law_335 ?_
    refine lv_if_eq (tgt := 341) hx hb dL_law_336 (by decide) (fun _ => ?_) (fun c9 => absurd (kLc (hou hk0)) c9)
    refine lv_goto (tgt := 1405) hx hb dL_law_341 (by decide) ?_
    exact kk v' hk' hz' sl' x' ouF' al' hy' hn' y' _ _ _ _ ls ⟨hR', va_P_perm List.perm_append_comm hP, va_D_perm List.perm_append_comm hD, hS, by omega, by omega, lv_sub hl [2, 3, 4, 5, 6] rfl⟩
set_option maxHeartbeats 4000000 in
set_option maxRecDepth 100000 in
theorem lc_3 {p : Program} {l : Launch} {e : Env} {s : State} {m : MethodId} {below : List Frame} {meth : Method} {c : Code} {D : va_G} {T : Nat → ClassId} {b L : Nat} {xs : Nat → Int32} {Q : State → Prop} (C : kLC p l s m c D T b L xs) (hL : L ≤ 1024) {po ouA mo : Nat} {a mm : Nat → Nat} {j : Nat} (hj : 2 * j + 1 < L)
    (kk : ∀ (v : ST) (hk hz : Nat) (sl : Nat → ST) (x : CT) (ouF : Nat → Int64) (al hy : Nat → Int32) (hn : Nat) (y : MT) (H : Heap) (locs : List Loc) (cells slots : Nat) (ls : Array Slot), kLS s D T b po ouA mo a mm j (j + 1) v hk hz sl x ouF al hy hn y H locs cells slots ls → W p l e room_1 s m #[Value.ref b] below meth c H locs cells slots Q (F0 m 1405 ls []))
    (v : ST) (hk hz : Nat) (sl : Nat → ST) (x : CT) (ouF : Nat → Int64) (al hy : Nat → Int32) (hn : Nat) (y : MT) (H : Heap) (locs : List Loc) (cells slots : Nat) (ls : Array Slot) (S : kLS s D T b po ouA mo a mm j j v hk hz sl x ouF al hy hn y H locs cells slots ls) : W p l e room_1 s m #[Value.ref b] below meth c H locs cells slots Q (F0 m 344 ls []) := by
  obtain ⟨hx, hb, hml, hown, hts, hX, hbl, hst9, hC, hXX, hZ, hE, hNc⟩ := C
  obtain ⟨hR, hP, hD, hS, hce, hso, hl⟩ := S
  have hA : ∀ q : Nat, s.heap.size ≤ q → (fun q : Nat => s.heap.size ≤ q) q := fun _ h => h
  have hbA : ¬ (fun q : Nat => s.heap.size ≤ q) b := Nat.not_le.mpr hbl
  have hin : vp_in (nI (2 * j + 1)) L := vp_in_nI hj (by omega)
  obtain ⟨v', hk', hz', sl', x', ouF', al', hy', hn', y', b', hW, hM, hR'⟩ := op_putAside (l := l) D T po ouA a mo mm ouF hR
  refine lv_aload_n hx hb dL_law_344 rfl (lv_at hl 1 rfl) ?_
  refine kV (ci := 7) (As := []) (rest := []) ⟨hx, hb, hml, hown, hts⟩ hW (cwV 0 hts gL_law_X8_putAside rfl rfl rfl (by decide +kernel) ⟨Nat.le_of_ble_eq_true rfl, Nat.le_of_ble_eq_true rfl⟩) hC hP hD hS hA rfl rfl rfl hl.1 rfl (Nat.le_of_ble_eq_true rfl) dL_law_345 ⟨(by show cells ≤ 601024; omega), (by show slots ≤ 7293034; omega)⟩ (fun H locs hP hD hS => ?_)
  refine W.eq (g2 := F0 m 348 ls [.int b']) rfl ?_
  refine lv_aload_n hx hb dL_law_348 rfl (lv_at hl 2 rfl) ?_
  have hP := va_P_perm List.perm_append_comm hP
  have hD := va_D_perm List.perm_append_comm hD
  refine kV (ci := 8) (As := []) (rest := [.int b']) ⟨hx, hb, hml, hown, hts⟩ hM (cwV 0 hts gL_law_X9_putAside rfl rfl rfl (by decide +kernel) ⟨Nat.le_of_ble_eq_true rfl, Nat.le_of_ble_eq_true rfl⟩) hC hP hD hS hA rfl rfl rfl hl.1 rfl (Nat.le_of_ble_eq_true rfl) dL_law_349 ⟨(by show cells ≤ 601024; omega), (by show slots ≤ 7293034; omega)⟩ (fun H locs hP hD hS => ?_)
  refine W.eq (g2 := F0 m 352 ls [.int b', .int b']) rfl ?_
  refine lv_icmp_eq (tgt := 1405) hx hb dL_law_352 (by decide) (fun _ => ?_) (fun c9 => absurd rfl c9)
  exact kk v' hk' hz' sl' x' ouF' al' hy' hn' y' _ _ _ _ ls ⟨hR', va_P_perm List.perm_append_comm hP, va_D_perm List.perm_append_comm hD, hS, by omega, by omega, lv_sub hl [0, 1, 2, 3, 4] rfl⟩
set_option maxHeartbeats 4000000 in
set_option maxRecDepth 100000 in
theorem lc_4 {p : Program} {l : Launch} {e : Env} {s : State} {m : MethodId} {below : List Frame} {meth : Method} {c : Code} {D : va_G} {T : Nat → ClassId} {b L : Nat} {xs : Nat → Int32} {Q : State → Prop} (C : kLC p l s m c D T b L xs) (hL : L ≤ 1024) {po ouA mo : Nat} {a mm : Nat → Nat} {j : Nat} (hj : 2 * j + 1 < L)
    (kk : ∀ (v : ST) (hk hz : Nat) (sl : Nat → ST) (x : CT) (ouF : Nat → Int64) (al hy : Nat → Int32) (hn : Nat) (y : MT) (H : Heap) (locs : List Loc) (cells slots : Nat) (ls : Array Slot), kLS s D T b po ouA mo a mm j (j + 1) v hk hz sl x ouF al hy hn y H locs cells slots ls → W p l e room_1 s m #[Value.ref b] below meth c H locs cells slots Q (F0 m 1405 ls []))
    (v : ST) (hk hz : Nat) (sl : Nat → ST) (x : CT) (ouF : Nat → Int64) (al hy : Nat → Int32) (hn : Nat) (y : MT) (H : Heap) (locs : List Loc) (cells slots : Nat) (ls : Array Slot) (S : kLS s D T b po ouA mo a mm j j v hk hz sl x ouF al hy hn y H locs cells slots ls) : W p l e room_1 s m #[Value.ref b] below meth c H locs cells slots Q (F0 m 357 ls []) := by
  obtain ⟨hx, hb, hml, hown, hts, hX, hbl, hst9, hC, hXX, hZ, hE, hNc⟩ := C
  obtain ⟨hR, hP, hD, hS, hce, hso, hl⟩ := S
  have hA : ∀ q : Nat, s.heap.size ≤ q → (fun q : Nat => s.heap.size ≤ q) q := fun _ h => h
  have hbA : ¬ (fun q : Nat => s.heap.size ≤ q) b := Nat.not_le.mpr hbl
  have hin : vp_in (nI (2 * j + 1)) L := vp_in_nI hj (by omega)
  obtain ⟨v', hk', hz', sl', x', ouF', al', hy', hn', y', k, b', hW, hM, hth, hou, hR'⟩ := op_mergeIn hst9 D T po ouA a mo mm ouF hR
  refine lv_aload_n hx hb dL_law_357 rfl (lv_at hl 1 rfl) ?_
  refine lv_aload_n hx hb dL_law_358 rfl (lv_at hl 3 rfl) ?_
  refine kWS (As := [.ref po, .ref ouA]) (rest := []) ⟨hx, hb, hml, hown, hts⟩ hW (vx_cwSW 2 hts gL_law_L_mergeIn rfl rfl rfl (by decide +kernel) ⟨Nat.le_of_ble_eq_true rfl, Nat.le_of_ble_eq_true rfl⟩) hC hXX hZ hE hNc hP hD hS hA rfl hl.1 rfl (Nat.le_of_ble_eq_true rfl) dL_law_359 ⟨(by show cells + 1 ≤ 601024; omega), (by show slots + 6 ≤ 7293034; omega)⟩ (fun H locs hP hD hS => ?_)
  refine W.eq (g2 := F0 m 362 ls [.int k]) rfl ?_
  refine lv_istore (lv' := [(5, .int k), (0, .ref b), (1, .ref po), (2, .ref mo), (3, .ref ouA), (4, .int (nI (2 * j)))]) hx hb dL_law_362 hl (by decide) rfl (fun ls hl => ?_)
  refine lv_aload_n hx hb dL_law_364 rfl (lv_at hl 3 rfl) ?_
  have hP := va_P_perm List.perm_append_comm hP
  have hD := va_D_perm List.perm_append_comm hD
  refine kV (ci := 8) (As := []) (rest := []) ⟨hx, hb, hml, hown, hts⟩ hM (cwV 0 hts gL_law_X9_mergeIn rfl rfl rfl (by decide +kernel) ⟨Nat.le_of_ble_eq_true rfl, Nat.le_of_ble_eq_true rfl⟩) hC hP hD hS hA rfl rfl rfl hl.1 rfl (Nat.le_of_ble_eq_true rfl) dL_law_365 ⟨(by show cells + 1 ≤ 601024; omega), (by show slots + 6 ≤ 7293034; omega)⟩ (fun H locs hP hD hS => ?_)
  refine W.eq (g2 := F0 m 368 ls [.int b']) rfl ?_
  refine lv_istore (lv' := [(6, .int b'), (5, .int k), (0, .ref b), (1, .ref po), (2, .ref mo), (3, .ref ouA), (4, .int (nI (2 * j)))]) hx hb dL_law_368 hl (by decide) rfl (fun ls hl => ?_)
  refine lv_aload_n hx hb dL_law_370 rfl (lv_at hl 4 rfl) ?_
  refine kV (ci := 8) (As := []) (rest := []) ⟨hx, hb, hml, hown, hts⟩ (op_thrown (l := l) D T mo mm al' hy' hn' y') (cwV 0 hts gL_law_X9_thrown rfl rfl rfl (by decide +kernel) ⟨Nat.le_of_ble_eq_true rfl, Nat.le_of_ble_eq_true rfl⟩) hC hP hD hS hA rfl rfl rfl hl.1 rfl (Nat.le_of_ble_eq_true rfl) dL_law_371 ⟨(by show cells + 1 ≤ 601024; omega), (by show slots + 6 ≤ 7293034; omega)⟩ (fun H locs hP hD hS => ?_)
  refine W.eq (g2 := F0 m 374 ls [.int y'.1]) rfl ?_
  refine lv_iload hx hb dL_law_374 (lv_at hl 1 rfl) ?_
  refine lv_icmp_eq (tgt := 381) hx hb dL_law_376 (by decide) (fun _ => ?_) (fun c9 => absurd hth c9)
  refine lv_iload hx hb dL_law_381 (lv_at hl 1 rfl) ?_
  refine lv_if_ne (tgt := 398) hx hb dL_law_383 (by decide) (fun _ => ?_) (fun hk0 => ?_)
  · refine lv_goto (tgt := 1405) hx hb dL_law_398 (by decide) ?_
    exact kk v' hk' hz' sl' x' ouF' al' hy' hn' y' _ _ _ _ ls ⟨hR', va_P_perm List.perm_append_comm hP, va_D_perm List.perm_append_comm hD, hS, by omega, by omega, lv_sub hl [2, 3, 4, 5, 6] rfl⟩
  · refine lv_aload_n hx hb dL_law_386 rfl (lv_at hl 5 rfl) ?_
    refine lv_iconst (v := 0) hx hb dL_law_387 (by decide) ?_
    refine va_lald hx hb hC.1 hP 115 2 rfl rfl (k_nin (i := 0) (by decide) (by decide)) dL_law_388 ?_
    refine lv_iload hx hb dL_law_389 (lv_at hl 0 rfl) ?_
    refine lv_i2l (v := b'.toInt64) hx hb dL_law_391 rfl ?_
    refine W.lcmp hx hb dL_law_392 ?_
    refine lv_if_eq (tgt := 398) hx hb dL_law_393 (by decide) (fun _ => ?_) (fun c9 => absurd (kLc (hou hk0)) c9)
    refine lv_goto (tgt := 1405) hx hb dL_law_398 (by decide) ?_
    exact kk v' hk' hz' sl' x' ouF' al' hy' hn' y' _ _ _ _ ls ⟨hR', va_P_perm List.perm_append_comm hP, va_D_perm List.perm_append_comm hD, hS, by omega, by omega, lv_sub hl [2, 3, 4, 5, 6] rfl⟩
set_option maxHeartbeats 4000000 in
set_option maxRecDepth 100000 in
theorem lc_5 {p : Program} {l : Launch} {e : Env} {s : State} {m : MethodId} {below : List Frame} {meth : Method} {c : Code} {D : va_G} {T : Nat → ClassId} {b L : Nat} {xs : Nat → Int32} {Q : State → Prop} (C : kLC p l s m c D T b L xs) (hL : L ≤ 1024) {po ouA mo : Nat} {a mm : Nat → Nat} {j : Nat} (hj : 2 * j + 1 < L)
    (kk : ∀ (v : ST) (hk hz : Nat) (sl : Nat → ST) (x : CT) (ouF : Nat → Int64) (al hy : Nat → Int32) (hn : Nat) (y : MT) (H : Heap) (locs : List Loc) (cells slots : Nat) (ls : Array Slot), kLS s D T b po ouA mo a mm j (j + 1) v hk hz sl x ouF al hy hn y H locs cells slots ls → W p l e room_1 s m #[Value.ref b] below meth c H locs cells slots Q (F0 m 1405 ls []))
    (v : ST) (hk hz : Nat) (sl : Nat → ST) (x : CT) (ouF : Nat → Int64) (al hy : Nat → Int32) (hn : Nat) (y : MT) (H : Heap) (locs : List Loc) (cells slots : Nat) (ls : Array Slot) (S : kLS s D T b po ouA mo a mm j j v hk hz sl x ouF al hy hn y H locs cells slots ls) : W p l e room_1 s m #[Value.ref b] below meth c H locs cells slots Q (F0 m 401 ls []) := by
  obtain ⟨hx, hb, hml, hown, hts, hX, hbl, hst9, hC, hXX, hZ, hE, hNc⟩ := C
  obtain ⟨hR, hP, hD, hS, hce, hso, hl⟩ := S
  have hA : ∀ q : Nat, s.heap.size ≤ q → (fun q : Nat => s.heap.size ≤ q) q := fun _ h => h
  have hbA : ¬ (fun q : Nat => s.heap.size ≤ q) b := Nat.not_le.mpr hbl
  have hin : vp_in (nI (2 * j + 1)) L := vp_in_nI hj (by omega)
  obtain ⟨cx, ecx⟩ : ∃ cx : Int32, ((xs (nI (2 * j + 1)).toNatClampNeg).toUInt32 % 65536).toInt32 = cx := ⟨_, rfl⟩
  have hcx : vp_nar .char cx = cx := by
    rw [← ecx, pk_char, vp_nar, (pk_charN (Nat.mod_lt _ (by decide))).1]
  obtain ⟨v', hk', hz', sl', x', ouF', al', hy', hn', y', k, b', hW, hM, hth, hou, hR'⟩ := op_append hst9 D T po ouA a mo mm ouF hR cx hcx
  refine lv_aload_n hx hb dL_law_401 rfl (lv_at hl 1 rfl) ?_
  refine lv_aload_n hx hb dL_law_402 rfl (lv_at hl 0 rfl) ?_
  refine lv_iload hx hb dL_law_403 (lv_at hl 4 rfl) ?_
  refine lv_iconst (v := 1) hx hb dL_law_405 (by decide) ?_
  refine lv_iadd hx hb dL_law_406 ?_
  refine W.eq (g2 := F0 m 407 ls [.int (nI (2 * j + 1)), .ref b, .ref po]) (by rw [nI_1]) ?_
  refine va_sld hx hb hX hbl hbA hS hin dL_law_407 ?_
  refine lv_i2c (v := cx) hx hb dL_law_408 ecx ?_
  refine lv_aload_n hx hb dL_law_409 rfl (lv_at hl 3 rfl) ?_
  refine kWS (As := [.ref po, .int cx, .ref ouA]) (rest := []) ⟨hx, hb, hml, hown, hts⟩ hW (vx_cwSW 3 hts gL_law_L_append rfl rfl rfl (by decide +kernel) ⟨Nat.le_of_ble_eq_true rfl, Nat.le_of_ble_eq_true rfl⟩) hC hXX hZ hE hNc hP hD hS hA rfl hl.1 rfl (Nat.le_of_ble_eq_true rfl) dL_law_410 ⟨(by show cells + 1 ≤ 601024; omega), (by show slots + 6 ≤ 7293034; omega)⟩ (fun H locs hP hD hS => ?_)
  refine W.eq (g2 := F0 m 413 ls [.int k]) rfl ?_
  refine lv_istore (lv' := [(5, .int k), (0, .ref b), (1, .ref po), (2, .ref mo), (3, .ref ouA), (4, .int (nI (2 * j)))]) hx hb dL_law_413 hl (by decide) rfl (fun ls hl => ?_)
  refine lv_aload_n hx hb dL_law_415 rfl (lv_at hl 3 rfl) ?_
  refine lv_aload_n hx hb dL_law_416 rfl (lv_at hl 1 rfl) ?_
  refine lv_iload hx hb dL_law_417 (lv_at hl 5 rfl) ?_
  refine lv_iconst (v := 1) hx hb dL_law_419 (by decide) ?_
  refine lv_iadd hx hb dL_law_420 ?_
  refine W.eq (g2 := F0 m 421 ls [.int (nI (2 * j + 1)), .ref b, .ref mo]) (by rw [nI_1]) ?_
  refine va_sld hx hb hX hbl hbA hS hin dL_law_421 ?_
  refine lv_i2c (v := cx) hx hb dL_law_422 ecx ?_
  have hP := va_P_perm List.perm_append_comm hP
  have hD := va_D_perm List.perm_append_comm hD
  refine kV (ci := 8) (As := [.int cx]) (rest := []) ⟨hx, hb, hml, hown, hts⟩ hM (cwV 1 hts gL_law_X9_append rfl rfl rfl (by decide +kernel) ⟨Nat.le_of_ble_eq_true rfl, Nat.le_of_ble_eq_true rfl⟩) hC hP hD hS hA rfl rfl rfl hl.1 rfl (Nat.le_of_ble_eq_true rfl) dL_law_423 ⟨(by show cells + 1 ≤ 601024; omega), (by show slots + 6 ≤ 7293034; omega)⟩ (fun H locs hP hD hS => ?_)
  refine W.eq (g2 := F0 m 426 ls [.int b']) rfl ?_
  refine lv_istore (lv' := [(6, .int b'), (5, .int k), (0, .ref b), (1, .ref po), (2, .ref mo), (3, .ref ouA), (4, .int (nI (2 * j)))]) hx hb dL_law_426 hl (by decide) rfl (fun ls hl => ?_)
  refine lv_aload_n hx hb dL_law_428 rfl (lv_at hl 4 rfl) ?_
  refine kV (ci := 8) (As := []) (rest := []) ⟨hx, hb, hml, hown, hts⟩ (op_thrown (l := l) D T mo mm al' hy' hn' y') (cwV 0 hts gL_law_X9_thrown rfl rfl rfl (by decide +kernel) ⟨Nat.le_of_ble_eq_true rfl, Nat.le_of_ble_eq_true rfl⟩) hC hP hD hS hA rfl rfl rfl hl.1 rfl (Nat.le_of_ble_eq_true rfl) dL_law_429 ⟨(by show cells + 1 ≤ 601024; omega), (by show slots + 6 ≤ 7293034; omega)⟩ (fun H locs hP hD hS => ?_)
  refine W.eq (g2 := F0 m 432 ls [.int y'.1]) rfl ?_
  refine lv_iload hx hb dL_law_432 (lv_at hl 1 rfl) ?_
  refine lv_icmp_eq (tgt := 439) hx hb dL_law_434 (by decide) (fun _ => ?_) (fun c9 => absurd hth c9)
  refine lv_iload hx hb dL_law_439 (lv_at hl 1 rfl) ?_
  refine lv_if_ne (tgt := 456) hx hb dL_law_441 (by decide) (fun _ => ?_) (fun hk0 => ?_)
  · refine lv_goto (tgt := 1405) hx hb dL_law_456 (by decide) ?_
    exact kk v' hk' hz' sl' x' ouF' al' hy' hn' y' _ _ _ _ ls ⟨hR', va_P_perm List.perm_append_comm hP, va_D_perm List.perm_append_comm hD, hS, by omega, by omega, lv_sub hl [2, 3, 4, 5, 6] rfl⟩
  · refine lv_aload_n hx hb dL_law_444 rfl (lv_at hl 5 rfl) ?_
    refine lv_iconst (v := 0) hx hb dL_law_445 (by decide) ?_
    refine va_lald hx hb hC.1 hP 115 2 rfl rfl (k_nin (i := 0) (by decide) (by decide)) dL_law_446 ?_
    refine lv_iload hx hb dL_law_447 (lv_at hl 0 rfl) ?_
    refine lv_i2l (v := b'.toInt64) hx hb dL_law_449 rfl ?_
    refine W.lcmp hx hb dL_law_450 ?_
    refine lv_if_eq (tgt := 456) hx hb dL_law_451 (by decide) (fun _ => ?_) (fun c9 => absurd (kLc (hou hk0)) c9)
    refine lv_goto (tgt := 1405) hx hb dL_law_456 (by decide) ?_
    exact kk v' hk' hz' sl' x' ouF' al' hy' hn' y' _ _ _ _ ls ⟨hR', va_P_perm List.perm_append_comm hP, va_D_perm List.perm_append_comm hD, hS, by omega, by omega, lv_sub hl [2, 3, 4, 5, 6] rfl⟩
set_option maxHeartbeats 4000000 in
set_option maxRecDepth 100000 in
theorem lc_6 {p : Program} {l : Launch} {e : Env} {s : State} {m : MethodId} {below : List Frame} {meth : Method} {c : Code} {D : va_G} {T : Nat → ClassId} {b L : Nat} {xs : Nat → Int32} {Q : State → Prop} (C : kLC p l s m c D T b L xs) (hL : L ≤ 1024) {po ouA mo : Nat} {a mm : Nat → Nat} {j : Nat} (hj : 2 * j + 1 < L)
    (kk : ∀ (v : ST) (hk hz : Nat) (sl : Nat → ST) (x : CT) (ouF : Nat → Int64) (al hy : Nat → Int32) (hn : Nat) (y : MT) (H : Heap) (locs : List Loc) (cells slots : Nat) (ls : Array Slot), kLS s D T b po ouA mo a mm j (j + 1) v hk hz sl x ouF al hy hn y H locs cells slots ls → W p l e room_1 s m #[Value.ref b] below meth c H locs cells slots Q (F0 m 1405 ls []))
    (v : ST) (hk hz : Nat) (sl : Nat → ST) (x : CT) (ouF : Nat → Int64) (al hy : Nat → Int32) (hn : Nat) (y : MT) (H : Heap) (locs : List Loc) (cells slots : Nat) (ls : Array Slot) (S : kLS s D T b po ouA mo a mm j j v hk hz sl x ouF al hy hn y H locs cells slots ls) : W p l e room_1 s m #[Value.ref b] below meth c H locs cells slots Q (F0 m 459 ls []) := by
  obtain ⟨hx, hb, hml, hown, hts, hX, hbl, hst9, hC, hXX, hZ, hE, hNc⟩ := C
  obtain ⟨hR, hP, hD, hS, hce, hso, hl⟩ := S
  have hA : ∀ q : Nat, s.heap.size ≤ q → (fun q : Nat => s.heap.size ≤ q) q := fun _ h => h
  have hbA : ¬ (fun q : Nat => s.heap.size ≤ q) b := Nat.not_le.mpr hbl
  have hin : vp_in (nI (2 * j + 1)) L := vp_in_nI hj (by omega)
  obtain ⟨v', hk', hz', sl', x', ouF', al', hy', hn', y', b', hW, hM, hR'⟩ := op_clearText (l := l) D T po ouA a mo mm ouF hR
  refine lv_aload_n hx hb dL_law_459 rfl (lv_at hl 1 rfl) ?_
  refine kV (ci := 7) (As := []) (rest := []) ⟨hx, hb, hml, hown, hts⟩ hW (cwV 0 hts gL_law_X8_clearText rfl rfl rfl (by decide +kernel) ⟨Nat.le_of_ble_eq_true rfl, Nat.le_of_ble_eq_true rfl⟩) hC hP hD hS hA rfl rfl rfl hl.1 rfl (Nat.le_of_ble_eq_true rfl) dL_law_460 ⟨(by show cells ≤ 601024; omega), (by show slots ≤ 7293034; omega)⟩ (fun H locs hP hD hS => ?_)
  refine W.eq (g2 := F0 m 463 ls [.int b']) rfl ?_
  refine lv_aload_n hx hb dL_law_463 rfl (lv_at hl 2 rfl) ?_
  have hP := va_P_perm List.perm_append_comm hP
  have hD := va_D_perm List.perm_append_comm hD
  refine kV (ci := 8) (As := []) (rest := [.int b']) ⟨hx, hb, hml, hown, hts⟩ hM (cwV 0 hts gL_law_X9_clearText rfl rfl rfl (by decide +kernel) ⟨Nat.le_of_ble_eq_true rfl, Nat.le_of_ble_eq_true rfl⟩) hC hP hD hS hA rfl rfl rfl hl.1 rfl (Nat.le_of_ble_eq_true rfl) dL_law_464 ⟨(by show cells ≤ 601024; omega), (by show slots ≤ 7293034; omega)⟩ (fun H locs hP hD hS => ?_)
  refine W.eq (g2 := F0 m 467 ls [.int b', .int b']) rfl ?_
  refine lv_icmp_eq (tgt := 1405) hx hb dL_law_467 (by decide) (fun _ => ?_) (fun c9 => absurd rfl c9)
  exact kk v' hk' hz' sl' x' ouF' al' hy' hn' y' _ _ _ _ ls ⟨hR', va_P_perm List.perm_append_comm hP, va_D_perm List.perm_append_comm hD, hS, by omega, by omega, lv_sub hl [0, 1, 2, 3, 4] rfl⟩
set_option maxHeartbeats 4000000 in
set_option maxRecDepth 100000 in
theorem lc_7 {p : Program} {l : Launch} {e : Env} {s : State} {m : MethodId} {below : List Frame} {meth : Method} {c : Code} {D : va_G} {T : Nat → ClassId} {b L : Nat} {xs : Nat → Int32} {Q : State → Prop} (C : kLC p l s m c D T b L xs) (hL : L ≤ 1024) {po ouA mo : Nat} {a mm : Nat → Nat} {j : Nat} (hj : 2 * j + 1 < L)
    (kk : ∀ (v : ST) (hk hz : Nat) (sl : Nat → ST) (x : CT) (ouF : Nat → Int64) (al hy : Nat → Int32) (hn : Nat) (y : MT) (H : Heap) (locs : List Loc) (cells slots : Nat) (ls : Array Slot), kLS s D T b po ouA mo a mm j (j + 1) v hk hz sl x ouF al hy hn y H locs cells slots ls → W p l e room_1 s m #[Value.ref b] below meth c H locs cells slots Q (F0 m 1405 ls []))
    (v : ST) (hk hz : Nat) (sl : Nat → ST) (x : CT) (ouF : Nat → Int64) (al hy : Nat → Int32) (hn : Nat) (y : MT) (H : Heap) (locs : List Loc) (cells slots : Nat) (ls : Array Slot) (S : kLS s D T b po ouA mo a mm j j v hk hz sl x ouF al hy hn y H locs cells slots ls) : W p l e room_1 s m #[Value.ref b] below meth c H locs cells slots Q (F0 m 472 ls []) := by
  obtain ⟨hx, hb, hml, hown, hts, hX, hbl, hst9, hC, hXX, hZ, hE, hNc⟩ := C
  obtain ⟨hR, hP, hD, hS, hce, hso, hl⟩ := S
  have hA : ∀ q : Nat, s.heap.size ≤ q → (fun q : Nat => s.heap.size ≤ q) q := fun _ h => h
  have hbA : ¬ (fun q : Nat => s.heap.size ≤ q) b := Nat.not_le.mpr hbl
  have hin : vp_in (nI (2 * j + 1)) L := vp_in_nI hj (by omega)
  obtain ⟨v', hk', hz', sl', x', ouF', al', hy', hn', y', b', hW, hM, hR'⟩ := op_isValid (l := l) D T po ouA a mo mm ouF hR
  refine lv_aload_n hx hb dL_law_472 rfl (lv_at hl 1 rfl) ?_
  refine kV (ci := 7) (As := []) (rest := []) ⟨hx, hb, hml, hown, hts⟩ hW (cwV 0 hts gL_law_X8_isValid rfl rfl rfl (by decide +kernel) ⟨Nat.le_of_ble_eq_true rfl, Nat.le_of_ble_eq_true rfl⟩) hC hP hD hS hA rfl rfl rfl hl.1 rfl (Nat.le_of_ble_eq_true rfl) dL_law_473 ⟨(by show cells ≤ 601024; omega), (by show slots ≤ 7293034; omega)⟩ (fun H locs hP hD hS => ?_)
  refine W.eq (g2 := F0 m 476 ls [.int b']) rfl ?_
  refine lv_aload_n hx hb dL_law_476 rfl (lv_at hl 2 rfl) ?_
  have hP := va_P_perm List.perm_append_comm hP
  have hD := va_D_perm List.perm_append_comm hD
  refine kV (ci := 8) (As := []) (rest := [.int b']) ⟨hx, hb, hml, hown, hts⟩ hM (cwV 0 hts gL_law_X9_isValid rfl rfl rfl (by decide +kernel) ⟨Nat.le_of_ble_eq_true rfl, Nat.le_of_ble_eq_true rfl⟩) hC hP hD hS hA rfl rfl rfl hl.1 rfl (Nat.le_of_ble_eq_true rfl) dL_law_477 ⟨(by show cells ≤ 601024; omega), (by show slots ≤ 7293034; omega)⟩ (fun H locs hP hD hS => ?_)
  refine W.eq (g2 := F0 m 480 ls [.int b', .int b']) rfl ?_
  refine lv_icmp_eq (tgt := 1405) hx hb dL_law_480 (by decide) (fun _ => ?_) (fun c9 => absurd rfl c9)
  exact kk v' hk' hz' sl' x' ouF' al' hy' hn' y' _ _ _ _ ls ⟨hR', va_P_perm List.perm_append_comm hP, va_D_perm List.perm_append_comm hD, hS, by omega, by omega, lv_sub hl [0, 1, 2, 3, 4] rfl⟩
set_option maxHeartbeats 4000000 in
set_option maxRecDepth 100000 in
theorem lc_8 {p : Program} {l : Launch} {e : Env} {s : State} {m : MethodId} {below : List Frame} {meth : Method} {c : Code} {D : va_G} {T : Nat → ClassId} {b L : Nat} {xs : Nat → Int32} {Q : State → Prop} (C : kLC p l s m c D T b L xs) (hL : L ≤ 1024) {po ouA mo : Nat} {a mm : Nat → Nat} {j : Nat} (hj : 2 * j + 1 < L)
    (kk : ∀ (v : ST) (hk hz : Nat) (sl : Nat → ST) (x : CT) (ouF : Nat → Int64) (al hy : Nat → Int32) (hn : Nat) (y : MT) (H : Heap) (locs : List Loc) (cells slots : Nat) (ls : Array Slot), kLS s D T b po ouA mo a mm j (j + 1) v hk hz sl x ouF al hy hn y H locs cells slots ls → W p l e room_1 s m #[Value.ref b] below meth c H locs cells slots Q (F0 m 1405 ls []))
    (v : ST) (hk hz : Nat) (sl : Nat → ST) (x : CT) (ouF : Nat → Int64) (al hy : Nat → Int32) (hn : Nat) (y : MT) (H : Heap) (locs : List Loc) (cells slots : Nat) (ls : Array Slot) (S : kLS s D T b po ouA mo a mm j j v hk hz sl x ouF al hy hn y H locs cells slots ls) : W p l e room_1 s m #[Value.ref b] below meth c H locs cells slots Q (F0 m 485 ls []) := by
  obtain ⟨hx, hb, hml, hown, hts, hX, hbl, hst9, hC, hXX, hZ, hE, hNc⟩ := C
  obtain ⟨hR, hP, hD, hS, hce, hso, hl⟩ := S
  have hA : ∀ q : Nat, s.heap.size ≤ q → (fun q : Nat => s.heap.size ≤ q) q := fun _ h => h
  have hbA : ¬ (fun q : Nat => s.heap.size ≤ q) b := Nat.not_le.mpr hbl
  have hin : vp_in (nI (2 * j + 1)) L := vp_in_nI hj (by omega)
  obtain ⟨v', hk', hz', sl', x', ouF', al', hy', hn', y', k, b', hW, hM, hth, hou, hR'⟩ := op_firstError hst9 D T po ouA a mo mm ouF hR
  refine lv_aload_n hx hb dL_law_485 rfl (lv_at hl 1 rfl) ?_
  refine lv_aload_n hx hb dL_law_486 rfl (lv_at hl 3 rfl) ?_
  refine kWS (As := [.ref po, .ref ouA]) (rest := []) ⟨hx, hb, hml, hown, hts⟩ hW (vx_cwSW 2 hts gL_law_L_firstError rfl rfl rfl (by decide +kernel) ⟨Nat.le_of_ble_eq_true rfl, Nat.le_of_ble_eq_true rfl⟩) hC hXX hZ hE hNc hP hD hS hA rfl hl.1 rfl (Nat.le_of_ble_eq_true rfl) dL_law_487 ⟨(by show cells + 1 ≤ 601024; omega), (by show slots + 6 ≤ 7293034; omega)⟩ (fun H locs hP hD hS => ?_)
  refine W.eq (g2 := F0 m 490 ls [.int k]) rfl ?_
  refine lv_istore (lv' := [(5, .int k), (0, .ref b), (1, .ref po), (2, .ref mo), (3, .ref ouA), (4, .int (nI (2 * j)))]) hx hb dL_law_490 hl (by decide) rfl (fun ls hl => ?_)
  refine lv_aload_n hx hb dL_law_492 rfl (lv_at hl 3 rfl) ?_
  have hP := va_P_perm List.perm_append_comm hP
  have hD := va_D_perm List.perm_append_comm hD
  refine kV (ci := 8) (As := []) (rest := []) ⟨hx, hb, hml, hown, hts⟩ hM (cwV 0 hts gL_law_X9_firstError rfl rfl rfl (by decide +kernel) ⟨Nat.le_of_ble_eq_true rfl, Nat.le_of_ble_eq_true rfl⟩) hC hP hD hS hA rfl rfl rfl hl.1 rfl (Nat.le_of_ble_eq_true rfl) dL_law_493 ⟨(by show cells + 1 ≤ 601024; omega), (by show slots + 6 ≤ 7293034; omega)⟩ (fun H locs hP hD hS => ?_)
  refine W.eq (g2 := F0 m 496 ls [.int b']) rfl ?_
  refine lv_istore (lv' := [(6, .int b'), (5, .int k), (0, .ref b), (1, .ref po), (2, .ref mo), (3, .ref ouA), (4, .int (nI (2 * j)))]) hx hb dL_law_496 hl (by decide) rfl (fun ls hl => ?_)
  refine lv_aload_n hx hb dL_law_498 rfl (lv_at hl 4 rfl) ?_
  refine kV (ci := 8) (As := []) (rest := []) ⟨hx, hb, hml, hown, hts⟩ (op_thrown (l := l) D T mo mm al' hy' hn' y') (cwV 0 hts gL_law_X9_thrown rfl rfl rfl (by decide +kernel) ⟨Nat.le_of_ble_eq_true rfl, Nat.le_of_ble_eq_true rfl⟩) hC hP hD hS hA rfl rfl rfl hl.1 rfl (Nat.le_of_ble_eq_true rfl) dL_law_499 ⟨(by show cells + 1 ≤ 601024; omega), (by show slots + 6 ≤ 7293034; omega)⟩ (fun H locs hP hD hS => ?_)
  refine W.eq (g2 := F0 m 502 ls [.int y'.1]) rfl ?_
  refine lv_iload hx hb dL_law_502 (lv_at hl 1 rfl) ?_
  refine lv_icmp_eq (tgt := 509) hx hb dL_law_504 (by decide) (fun _ => ?_) (fun c9 => absurd hth c9)
  refine lv_iload hx hb dL_law_509 (lv_at hl 1 rfl) ?_
  refine lv_if_ne (tgt := 526) hx hb dL_law_511 (by decide) (fun _ => ?_) (fun hk0 => ?_)
  · refine lv_goto (tgt := 1405) hx hb dL_law_526 (by decide) ?_
    exact kk v' hk' hz' sl' x' ouF' al' hy' hn' y' _ _ _ _ ls ⟨hR', va_P_perm List.perm_append_comm hP, va_D_perm List.perm_append_comm hD, hS, by omega, by omega, lv_sub hl [2, 3, 4, 5, 6] rfl⟩
  · refine lv_aload_n hx hb dL_law_514 rfl (lv_at hl 5 rfl) ?_
    refine lv_iconst (v := 0) hx hb dL_law_515 (by decide) ?_
    refine va_lald hx hb hC.1 hP 115 2 rfl rfl (k_nin (i := 0) (by decide) (by decide)) dL_law_516 ?_
    refine lv_iload hx hb dL_law_517 (lv_at hl 0 rfl) ?_
    refine lv_i2l (v := b'.toInt64) hx hb dL_law_519 rfl ?_
    refine W.lcmp hx hb dL_law_520 ?_
    refine lv_if_eq (tgt := 526) hx hb dL_law_521 (by decide) (fun _ => ?_) (fun c9 => absurd (kLc (hou hk0)) c9)
    refine lv_goto (tgt := 1405) hx hb dL_law_526 (by decide) ?_
    exact kk v' hk' hz' sl' x' ouF' al' hy' hn' y' _ _ _ _ ls ⟨hR', va_P_perm List.perm_append_comm hP, va_D_perm List.perm_append_comm hD, hS, by omega, by omega, lv_sub hl [2, 3, 4, 5, 6] rfl⟩
set_option maxHeartbeats 4000000 in
set_option maxRecDepth 100000 in
theorem lc_9 {p : Program} {l : Launch} {e : Env} {s : State} {m : MethodId} {below : List Frame} {meth : Method} {c : Code} {D : va_G} {T : Nat → ClassId} {b L : Nat} {xs : Nat → Int32} {Q : State → Prop} (C : kLC p l s m c D T b L xs) (hL : L ≤ 1024) {po ouA mo : Nat} {a mm : Nat → Nat} {j : Nat} (hj : 2 * j + 1 < L)
    (kk : ∀ (v : ST) (hk hz : Nat) (sl : Nat → ST) (x : CT) (ouF : Nat → Int64) (al hy : Nat → Int32) (hn : Nat) (y : MT) (H : Heap) (locs : List Loc) (cells slots : Nat) (ls : Array Slot), kLS s D T b po ouA mo a mm j (j + 1) v hk hz sl x ouF al hy hn y H locs cells slots ls → W p l e room_1 s m #[Value.ref b] below meth c H locs cells slots Q (F0 m 1405 ls []))
    (v : ST) (hk hz : Nat) (sl : Nat → ST) (x : CT) (ouF : Nat → Int64) (al hy : Nat → Int32) (hn : Nat) (y : MT) (H : Heap) (locs : List Loc) (cells slots : Nat) (ls : Array Slot) (S : kLS s D T b po ouA mo a mm j j v hk hz sl x ouF al hy hn y H locs cells slots ls) : W p l e room_1 s m #[Value.ref b] below meth c H locs cells slots Q (F0 m 529 ls []) := by
  obtain ⟨hx, hb, hml, hown, hts, hX, hbl, hst9, hC, hXX, hZ, hE, hNc⟩ := C
  obtain ⟨hR, hP, hD, hS, hce, hso, hl⟩ := S
  have hA : ∀ q : Nat, s.heap.size ≤ q → (fun q : Nat => s.heap.size ≤ q) q := fun _ h => h
  have hbA : ¬ (fun q : Nat => s.heap.size ≤ q) b := Nat.not_le.mpr hbl
  have hin : vp_in (nI (2 * j + 1)) L := vp_in_nI hj (by omega)
  obtain ⟨v', hk', hz', sl', x', ouF', al', hy', hn', y', k, b', hW, hM, hth, hou, hR'⟩ := op_callsOfSong hst9 D T po ouA a mo mm ouF hR
  refine lv_aload_n hx hb dL_law_529 rfl (lv_at hl 1 rfl) ?_
  refine lv_aload_n hx hb dL_law_530 rfl (lv_at hl 3 rfl) ?_
  refine kWS (As := [.ref po, .ref ouA]) (rest := []) ⟨hx, hb, hml, hown, hts⟩ hW (vx_cwSW 2 hts gL_law_L_callsOfSong rfl rfl rfl (by decide +kernel) ⟨Nat.le_of_ble_eq_true rfl, Nat.le_of_ble_eq_true rfl⟩) hC hXX hZ hE hNc hP hD hS hA rfl hl.1 rfl (Nat.le_of_ble_eq_true rfl) dL_law_531 ⟨(by show cells + 1 ≤ 601024; omega), (by show slots + 6 ≤ 7293034; omega)⟩ (fun H locs hP hD hS => ?_)
  refine W.eq (g2 := F0 m 534 ls [.int k]) rfl ?_
  refine lv_istore (lv' := [(5, .int k), (0, .ref b), (1, .ref po), (2, .ref mo), (3, .ref ouA), (4, .int (nI (2 * j)))]) hx hb dL_law_534 hl (by decide) rfl (fun ls hl => ?_)
  refine lv_aload_n hx hb dL_law_536 rfl (lv_at hl 3 rfl) ?_
  have hP := va_P_perm List.perm_append_comm hP
  have hD := va_D_perm List.perm_append_comm hD
  refine kV (ci := 8) (As := []) (rest := []) ⟨hx, hb, hml, hown, hts⟩ hM (cwV 0 hts gL_law_X9_callsOfSong rfl rfl rfl (by decide +kernel) ⟨Nat.le_of_ble_eq_true rfl, Nat.le_of_ble_eq_true rfl⟩) hC hP hD hS hA rfl rfl rfl hl.1 rfl (Nat.le_of_ble_eq_true rfl) dL_law_537 ⟨(by show cells + 1 ≤ 601024; omega), (by show slots + 6 ≤ 7293034; omega)⟩ (fun H locs hP hD hS => ?_)
  refine W.eq (g2 := F0 m 540 ls [.int b']) rfl ?_
  refine lv_istore (lv' := [(6, .int b'), (5, .int k), (0, .ref b), (1, .ref po), (2, .ref mo), (3, .ref ouA), (4, .int (nI (2 * j)))]) hx hb dL_law_540 hl (by decide) rfl (fun ls hl => ?_)
  refine lv_aload_n hx hb dL_law_542 rfl (lv_at hl 4 rfl) ?_
  refine kV (ci := 8) (As := []) (rest := []) ⟨hx, hb, hml, hown, hts⟩ (op_thrown (l := l) D T mo mm al' hy' hn' y') (cwV 0 hts gL_law_X9_thrown rfl rfl rfl (by decide +kernel) ⟨Nat.le_of_ble_eq_true rfl, Nat.le_of_ble_eq_true rfl⟩) hC hP hD hS hA rfl rfl rfl hl.1 rfl (Nat.le_of_ble_eq_true rfl) dL_law_543 ⟨(by show cells + 1 ≤ 601024; omega), (by show slots + 6 ≤ 7293034; omega)⟩ (fun H locs hP hD hS => ?_)
  refine W.eq (g2 := F0 m 546 ls [.int y'.1]) rfl ?_
  refine lv_iload hx hb dL_law_546 (lv_at hl 1 rfl) ?_
  refine lv_icmp_eq (tgt := 553) hx hb dL_law_548 (by decide) (fun _ => ?_) (fun c9 => absurd hth c9)
  refine lv_iload hx hb dL_law_553 (lv_at hl 1 rfl) ?_
  refine lv_if_ne (tgt := 570) hx hb dL_law_555 (by decide) (fun _ => ?_) (fun hk0 => ?_)
  · refine lv_goto (tgt := 1405) hx hb dL_law_570 (by decide) ?_
    exact kk v' hk' hz' sl' x' ouF' al' hy' hn' y' _ _ _ _ ls ⟨hR', va_P_perm List.perm_append_comm hP, va_D_perm List.perm_append_comm hD, hS, by omega, by omega, lv_sub hl [2, 3, 4, 5, 6] rfl⟩
  · refine lv_aload_n hx hb dL_law_558 rfl (lv_at hl 5 rfl) ?_
    refine lv_iconst (v := 0) hx hb dL_law_559 (by decide) ?_
    refine va_lald hx hb hC.1 hP 115 2 rfl rfl (k_nin (i := 0) (by decide) (by decide)) dL_law_560 ?_
    refine lv_iload hx hb dL_law_561 (lv_at hl 0 rfl) ?_
    refine lv_i2l (v := b'.toInt64) hx hb dL_law_563 rfl ?_
    refine W.lcmp hx hb dL_law_564 ?_
    refine lv_if_eq (tgt := 570) hx hb dL_law_565 (by decide) (fun _ => ?_) (fun c9 => absurd (kLc (hou hk0)) c9)
    refine lv_goto (tgt := 1405) hx hb dL_law_570 (by decide) ?_
    exact kk v' hk' hz' sl' x' ouF' al' hy' hn' y' _ _ _ _ ls ⟨hR', va_P_perm List.perm_append_comm hP, va_D_perm List.perm_append_comm hD, hS, by omega, by omega, lv_sub hl [2, 3, 4, 5, 6] rfl⟩
set_option maxHeartbeats 4000000 in
set_option maxRecDepth 100000 in
theorem lc_10 {p : Program} {l : Launch} {e : Env} {s : State} {m : MethodId} {below : List Frame} {meth : Method} {c : Code} {D : va_G} {T : Nat → ClassId} {b L : Nat} {xs : Nat → Int32} {Q : State → Prop} (C : kLC p l s m c D T b L xs) (hL : L ≤ 1024) {po ouA mo : Nat} {a mm : Nat → Nat} {j : Nat} (hj : 2 * j + 1 < L)
    (kk : ∀ (v : ST) (hk hz : Nat) (sl : Nat → ST) (x : CT) (ouF : Nat → Int64) (al hy : Nat → Int32) (hn : Nat) (y : MT) (H : Heap) (locs : List Loc) (cells slots : Nat) (ls : Array Slot), kLS s D T b po ouA mo a mm j (j + 1) v hk hz sl x ouF al hy hn y H locs cells slots ls → W p l e room_1 s m #[Value.ref b] below meth c H locs cells slots Q (F0 m 1405 ls []))
    (v : ST) (hk hz : Nat) (sl : Nat → ST) (x : CT) (ouF : Nat → Int64) (al hy : Nat → Int32) (hn : Nat) (y : MT) (H : Heap) (locs : List Loc) (cells slots : Nat) (ls : Array Slot) (S : kLS s D T b po ouA mo a mm j j v hk hz sl x ouF al hy hn y H locs cells slots ls) : W p l e room_1 s m #[Value.ref b] below meth c H locs cells slots Q (F0 m 573 ls []) := by
  obtain ⟨hx, hb, hml, hown, hts, hX, hbl, hst9, hC, hXX, hZ, hE, hNc⟩ := C
  obtain ⟨hR, hP, hD, hS, hce, hso, hl⟩ := S
  have hA : ∀ q : Nat, s.heap.size ≤ q → (fun q : Nat => s.heap.size ≤ q) q := fun _ h => h
  have hbA : ¬ (fun q : Nat => s.heap.size ≤ q) b := Nat.not_le.mpr hbl
  have hin : vp_in (nI (2 * j + 1)) L := vp_in_nI hj (by omega)
  obtain ⟨v', hk', hz', sl', x', ouF', al', hy', hn', y', k, b', hW, hM, hth, hou, hR'⟩ := op_undo hst9 D T po ouA a mo mm ouF hR
  refine lv_aload_n hx hb dL_law_573 rfl (lv_at hl 1 rfl) ?_
  refine lv_aload_n hx hb dL_law_574 rfl (lv_at hl 3 rfl) ?_
  refine kWS (As := [.ref po, .ref ouA]) (rest := []) ⟨hx, hb, hml, hown, hts⟩ hW (vx_cwSW 2 hts gL_law_L_undo rfl rfl rfl (by decide +kernel) ⟨Nat.le_of_ble_eq_true rfl, Nat.le_of_ble_eq_true rfl⟩) hC hXX hZ hE hNc hP hD hS hA rfl hl.1 rfl (Nat.le_of_ble_eq_true rfl) dL_law_575 ⟨(by show cells + 1 ≤ 601024; omega), (by show slots + 6 ≤ 7293034; omega)⟩ (fun H locs hP hD hS => ?_)
  refine W.eq (g2 := F0 m 578 ls [.int k]) rfl ?_
  refine lv_istore (lv' := [(5, .int k), (0, .ref b), (1, .ref po), (2, .ref mo), (3, .ref ouA), (4, .int (nI (2 * j)))]) hx hb dL_law_578 hl (by decide) rfl (fun ls hl => ?_)
  refine lv_aload_n hx hb dL_law_580 rfl (lv_at hl 3 rfl) ?_
  have hP := va_P_perm List.perm_append_comm hP
  have hD := va_D_perm List.perm_append_comm hD
  refine kV (ci := 8) (As := []) (rest := []) ⟨hx, hb, hml, hown, hts⟩ hM (cwV 0 hts gL_law_X9_undo rfl rfl rfl (by decide +kernel) ⟨Nat.le_of_ble_eq_true rfl, Nat.le_of_ble_eq_true rfl⟩) hC hP hD hS hA rfl rfl rfl hl.1 rfl (Nat.le_of_ble_eq_true rfl) dL_law_581 ⟨(by show cells + 1 ≤ 601024; omega), (by show slots + 6 ≤ 7293034; omega)⟩ (fun H locs hP hD hS => ?_)
  refine W.eq (g2 := F0 m 584 ls [.int b']) rfl ?_
  refine lv_istore (lv' := [(6, .int b'), (5, .int k), (0, .ref b), (1, .ref po), (2, .ref mo), (3, .ref ouA), (4, .int (nI (2 * j)))]) hx hb dL_law_584 hl (by decide) rfl (fun ls hl => ?_)
  refine lv_aload_n hx hb dL_law_586 rfl (lv_at hl 4 rfl) ?_
  refine kV (ci := 8) (As := []) (rest := []) ⟨hx, hb, hml, hown, hts⟩ (op_thrown (l := l) D T mo mm al' hy' hn' y') (cwV 0 hts gL_law_X9_thrown rfl rfl rfl (by decide +kernel) ⟨Nat.le_of_ble_eq_true rfl, Nat.le_of_ble_eq_true rfl⟩) hC hP hD hS hA rfl rfl rfl hl.1 rfl (Nat.le_of_ble_eq_true rfl) dL_law_587 ⟨(by show cells + 1 ≤ 601024; omega), (by show slots + 6 ≤ 7293034; omega)⟩ (fun H locs hP hD hS => ?_)
  refine W.eq (g2 := F0 m 590 ls [.int y'.1]) rfl ?_
  refine lv_iload hx hb dL_law_590 (lv_at hl 1 rfl) ?_
  refine lv_icmp_eq (tgt := 597) hx hb dL_law_592 (by decide) (fun _ => ?_) (fun c9 => absurd hth c9)
  refine lv_iload hx hb dL_law_597 (lv_at hl 1 rfl) ?_
  refine lv_if_ne (tgt := 614) hx hb dL_law_599 (by decide) (fun _ => ?_) (fun hk0 => ?_)
  · refine lv_goto (tgt := 1405) hx hb dL_law_614 (by decide) ?_
    exact kk v' hk' hz' sl' x' ouF' al' hy' hn' y' _ _ _ _ ls ⟨hR', va_P_perm List.perm_append_comm hP, va_D_perm List.perm_append_comm hD, hS, by omega, by omega, lv_sub hl [2, 3, 4, 5, 6] rfl⟩
  · refine lv_aload_n hx hb dL_law_602 rfl (lv_at hl 5 rfl) ?_
    refine lv_iconst (v := 0) hx hb dL_law_603 (by decide) ?_
    refine va_lald hx hb hC.1 hP 115 2 rfl rfl (k_nin (i := 0) (by decide) (by decide)) dL_law_604 ?_
    refine lv_iload hx hb dL_law_605 (lv_at hl 0 rfl) ?_
    refine lv_i2l (v := b'.toInt64) hx hb dL_law_607 rfl ?_
    refine W.lcmp hx hb dL_law_608 ?_
    refine lv_if_eq (tgt := 614) hx hb dL_law_609 (by decide) (fun _ => ?_) (fun c9 => absurd (kLc (hou hk0)) c9)
    refine lv_goto (tgt := 1405) hx hb dL_law_614 (by decide) ?_
    exact kk v' hk' hz' sl' x' ouF' al' hy' hn' y' _ _ _ _ ls ⟨hR', va_P_perm List.perm_append_comm hP, va_D_perm List.perm_append_comm hD, hS, by omega, by omega, lv_sub hl [2, 3, 4, 5, 6] rfl⟩
set_option maxHeartbeats 4000000 in
set_option maxRecDepth 100000 in
theorem lc_11 {p : Program} {l : Launch} {e : Env} {s : State} {m : MethodId} {below : List Frame} {meth : Method} {c : Code} {D : va_G} {T : Nat → ClassId} {b L : Nat} {xs : Nat → Int32} {Q : State → Prop} (C : kLC p l s m c D T b L xs) (hL : L ≤ 1024) {po ouA mo : Nat} {a mm : Nat → Nat} {j : Nat} (hj : 2 * j + 1 < L)
    (kk : ∀ (v : ST) (hk hz : Nat) (sl : Nat → ST) (x : CT) (ouF : Nat → Int64) (al hy : Nat → Int32) (hn : Nat) (y : MT) (H : Heap) (locs : List Loc) (cells slots : Nat) (ls : Array Slot), kLS s D T b po ouA mo a mm j (j + 1) v hk hz sl x ouF al hy hn y H locs cells slots ls → W p l e room_1 s m #[Value.ref b] below meth c H locs cells slots Q (F0 m 1405 ls []))
    (v : ST) (hk hz : Nat) (sl : Nat → ST) (x : CT) (ouF : Nat → Int64) (al hy : Nat → Int32) (hn : Nat) (y : MT) (H : Heap) (locs : List Loc) (cells slots : Nat) (ls : Array Slot) (S : kLS s D T b po ouA mo a mm j j v hk hz sl x ouF al hy hn y H locs cells slots ls) : W p l e room_1 s m #[Value.ref b] below meth c H locs cells slots Q (F0 m 617 ls []) := by
  obtain ⟨hx, hb, hml, hown, hts, hX, hbl, hst9, hC, hXX, hZ, hE, hNc⟩ := C
  obtain ⟨hR, hP, hD, hS, hce, hso, hl⟩ := S
  have hA : ∀ q : Nat, s.heap.size ≤ q → (fun q : Nat => s.heap.size ≤ q) q := fun _ h => h
  have hbA : ¬ (fun q : Nat => s.heap.size ≤ q) b := Nat.not_le.mpr hbl
  have hin : vp_in (nI (2 * j + 1)) L := vp_in_nI hj (by omega)
  obtain ⟨v', hk', hz', sl', x', ouF', al', hy', hn', y', b', hW, hM, hR'⟩ := op_counters (l := l) D T po ouA a mo mm ouF hR
  refine lv_aload_n hx hb dL_law_617 rfl (lv_at hl 1 rfl) ?_
  refine kV (ci := 7) (As := []) (rest := []) ⟨hx, hb, hml, hown, hts⟩ hW (cwV 0 hts gL_law_X8_counters rfl rfl rfl (by decide +kernel) ⟨Nat.le_of_ble_eq_true rfl, Nat.le_of_ble_eq_true rfl⟩) hC hP hD hS hA rfl rfl rfl hl.1 rfl (Nat.le_of_ble_eq_true rfl) dL_law_618 ⟨(by show cells ≤ 601024; omega), (by show slots ≤ 7293034; omega)⟩ (fun H locs hP hD hS => ?_)
  refine W.eq (g2 := F0 m 621 ls [.int b']) rfl ?_
  refine lv_aload_n hx hb dL_law_621 rfl (lv_at hl 2 rfl) ?_
  have hP := va_P_perm List.perm_append_comm hP
  have hD := va_D_perm List.perm_append_comm hD
  refine kV (ci := 8) (As := []) (rest := [.int b']) ⟨hx, hb, hml, hown, hts⟩ hM (cwV 0 hts gL_law_X9_counters rfl rfl rfl (by decide +kernel) ⟨Nat.le_of_ble_eq_true rfl, Nat.le_of_ble_eq_true rfl⟩) hC hP hD hS hA rfl rfl rfl hl.1 rfl (Nat.le_of_ble_eq_true rfl) dL_law_622 ⟨(by show cells ≤ 601024; omega), (by show slots ≤ 7293034; omega)⟩ (fun H locs hP hD hS => ?_)
  refine W.eq (g2 := F0 m 625 ls [.int b', .int b']) rfl ?_
  refine lv_icmp_eq (tgt := 1405) hx hb dL_law_625 (by decide) (fun _ => ?_) (fun c9 => absurd rfl c9)
  exact kk v' hk' hz' sl' x' ouF' al' hy' hn' y' _ _ _ _ ls ⟨hR', va_P_perm List.perm_append_comm hP, va_D_perm List.perm_append_comm hD, hS, by omega, by omega, lv_sub hl [0, 1, 2, 3, 4] rfl⟩
end LAW0
