section PALIKE
abbrev rL_areAlike : Room := { frames := 9, cells := 106, slots := 636, locals := 176 }
set_option maxHeartbeats 4000000 in
set_option maxRecDepth 100000 in
theorem L_areAlike (l : Launch) (D : va_G) (T : Nat → ClassId) (hst9 : l.stackTraces = false) (po qo : Nat) (a b : Nat → Nat) (k : KS) (x y : CT) {M : Int} (hK : KI k M) (hM : M ≤ 99999) : kWN l D T yL_areAlike wsL_areAlike rL_areAlike 106 636 [.ref po, .ref qo] (wO T po a k x ++ wO T qo b k y) (some (.int 1)) (wO T po a k x ++ wO T qo b k y) := by
  refine kWN.ofP (cc := cL_areAlike) (maxL := 4) (ret := some .boolean) (by decide) rfl (Nat.le_of_ble_eq_true rfl) ?_
  intro p e s m below meth c A Q ls hx hb hml hown hr hlk hts hC hP hD hS hA hl hXX hZ hE hNc hret
  have hl : lv_has ls 4 [(0, .ref po), (1, .ref qo)] := hl
  have hP : va_P D vwCl (wO T po a k x ++ wO T qo b k y) s.heap := hP
  have hD : va_D A (wO T po a k x ++ wO T qo b k y) := hD
  have loop_152 : ∀ (n9 i : Nat), i + n9 = 26 → ∀ (H : Heap) (locs : List Loc) (cells slots : Nat) (ls : Array Slot), va_P D vwCl (wO T po a k x ++ wO T qo b k y) H → va_D A (wO T po a k x ++ wO T qo b k y) → va_S A s.heap H locs → lv_has ls 4 [(2, .int 1), (3, .int (nI i)), (0, .ref po), (1, .ref qo)] → cells ≤ 2 + 4 * i → slots ≤ 12 + 24 * i → W p l e rL_areAlike s m ([.ref po, .ref qo] : List Value).toArray below meth c H locs cells slots Q (F0 m 152 ls []) := by
    intro n9
    induction n9 with
    | zero =>
      intro i hi H locs cells slots ls hP hD hS hl hce hso
      have hi9 : 26 = i := by omega
      subst hi9
      refine lv_iload_n hx hb dL_areAlike_152 rfl (lv_at hl 1 rfl) ?_
      refine lv_bipush (v := 26) hx hb dL_areAlike_153 (by decide) ?_
      refine lv_icmp_ge (tgt := 303) hx hb dL_areAlike_155 (by decide) (fun _ => ?_) (fun c_x => absurd (by decide : ((26 : Int32) ≤ (nI 26))) c_x)
      refine lv_iload_n hx hb dL_areAlike_303 rfl (lv_at hl 0 rfl) ?_
      exact hret _ _ _ _ _ _ _ (by show cells ≤ 106; omega) (by show slots ≤ 636; omega) (fun Qc free hq hf => W.zret hx hb hr rfl hq hf dL_areAlike_304 hlk) hP hD hS
    | succ n9 ih =>
      intro i hi H locs cells slots ls hP hD hS hl hce hso
      have hlt : i < 26 := by omega
      have hp : i < 26 := hlt
      have hlo : ¬ nI (40 * i) < 0 := nI_pos (by omega)
      have hhi : nI (40 * i) ≤ 1000 := (nI_leI (b := 1000) (by omega) (by decide)).mpr (by omega)
      refine lv_iload_n hx hb dL_areAlike_152 rfl (lv_at hl 1 rfl) ?_
      refine lv_bipush (v := 26) hx hb dL_areAlike_153 (by decide) ?_
      refine lv_icmp_ge (tgt := 303) hx hb dL_areAlike_155 (by decide) (fun c_x => absurd c_x (nI_ge (a := i) (b := 26) (by omega) (by decide))) (fun _ => ?_)
      refine lv_iload_n hx hb dL_areAlike_158 rfl (lv_at hl 0 rfl) ?_
      refine lv_if_eq (tgt := 295) hx hb dL_areAlike_159 (by decide) (fun c_x => absurd c_x (by decide : ¬ ((1 : Int32) = 0))) (fun _ => ?_)
      refine lv_aload_n hx hb dL_areAlike_162 rfl (lv_at hl 2 rfl) ?_
      refine lv_iload_n hx hb dL_areAlike_163 rfl (lv_at hl 1 rfl) ?_
      refine kWT (As := [.ref po, .int (nI i)]) (rest := []) ⟨hx, hb, hml, hown, hts⟩ (L_count l D T po a k x i hp) (vx_cwSW 2 hts gL_areAlike_L_count rfl rfl rfl (by decide +kernel) ⟨Nat.le_of_ble_eq_true rfl, Nat.le_of_ble_eq_true rfl⟩) hC hXX hZ hE hNc hP hD hS hA rfl hl.1 rfl (Nat.le_of_ble_eq_true rfl) dL_areAlike_164 ⟨(by show cells ≤ 106; omega), (by show slots ≤ 636; omega)⟩ (fun H locs hP hD hS => ?_)
      have hP : va_P D vwCl (wO T po a k x ++ wO T qo b k y) H := hP
      have hD : va_D A (wO T po a k x ++ wO T qo b k y) := hD
      refine W.eq (g2 := F0 m 167 ls [.int (qT k.1 i)]) rfl ?_
      refine lv_aload_n hx hb dL_areAlike_167 rfl (lv_at hl 3 rfl) ?_
      refine lv_iload_n hx hb dL_areAlike_168 rfl (lv_at hl 1 rfl) ?_
      have hP := va_P_perm List.perm_append_comm hP
      have hD := va_D_perm List.perm_append_comm hD
      refine kWT (As := [.ref qo, .int (nI i)]) (rest := [.int (qT k.1 i)]) ⟨hx, hb, hml, hown, hts⟩ (L_count l D T qo b k y i hp) (vx_cwSW 2 hts gL_areAlike_L_count rfl rfl rfl (by decide +kernel) ⟨Nat.le_of_ble_eq_true rfl, Nat.le_of_ble_eq_true rfl⟩) hC hXX hZ hE hNc hP hD hS hA rfl hl.1 rfl (Nat.le_of_ble_eq_true rfl) dL_areAlike_169 ⟨(by show cells + 0 ≤ 106; omega), (by show slots + 0 ≤ 636; omega)⟩ (fun H locs hP hD hS => ?_)
      have hP : va_P D vwCl (wO T qo b k y ++ wO T po a k x) H := hP
      have hD : va_D A (wO T qo b k y ++ wO T po a k x) := hD
      refine W.eq (g2 := F0 m 172 ls [.int (qT k.1 i), .int (qT k.1 i)]) rfl ?_
      refine lv_icmp_ne (tgt := 295) hx hb dL_areAlike_172 (by decide) (fun c_x => absurd rfl c_x) (fun _ => ?_)
      refine lv_aload_n hx hb dL_areAlike_175 rfl (lv_at hl 2 rfl) ?_
      refine lv_iload_n hx hb dL_areAlike_176 rfl (lv_at hl 1 rfl) ?_
      have hP := va_P_perm List.perm_append_comm hP
      have hD := va_D_perm List.perm_append_comm hD
      refine kWT (As := [.ref po, .int (nI i)]) (rest := []) ⟨hx, hb, hml, hown, hts⟩ (L_estimate l D T po a k x i hp) (vx_cwSW 2 hts gL_areAlike_L_estimate rfl rfl rfl (by decide +kernel) ⟨Nat.le_of_ble_eq_true rfl, Nat.le_of_ble_eq_true rfl⟩) hC hXX hZ hE hNc hP hD hS hA rfl hl.1 rfl (Nat.le_of_ble_eq_true rfl) dL_areAlike_177 ⟨(by show cells + 0 + 0 ≤ 106; omega), (by show slots + 0 + 0 ≤ 636; omega)⟩ (fun H locs hP hD hS => ?_)
      have hP : va_P D vwCl (wO T po a k x ++ wO T qo b k y) H := hP
      have hD : va_D A (wO T po a k x ++ wO T qo b k y) := hD
      refine W.eq (g2 := F0 m 180 ls [.int (qEst k.1 i)]) rfl ?_
      refine lv_aload_n hx hb dL_areAlike_180 rfl (lv_at hl 3 rfl) ?_
      refine lv_iload_n hx hb dL_areAlike_181 rfl (lv_at hl 1 rfl) ?_
      have hP := va_P_perm List.perm_append_comm hP
      have hD := va_D_perm List.perm_append_comm hD
      refine kWT (As := [.ref qo, .int (nI i)]) (rest := [.int (qEst k.1 i)]) ⟨hx, hb, hml, hown, hts⟩ (L_estimate l D T qo b k y i hp) (vx_cwSW 2 hts gL_areAlike_L_estimate rfl rfl rfl (by decide +kernel) ⟨Nat.le_of_ble_eq_true rfl, Nat.le_of_ble_eq_true rfl⟩) hC hXX hZ hE hNc hP hD hS hA rfl hl.1 rfl (Nat.le_of_ble_eq_true rfl) dL_areAlike_182 ⟨(by show cells + 0 + 0 + 0 ≤ 106; omega), (by show slots + 0 + 0 + 0 ≤ 636; omega)⟩ (fun H locs hP hD hS => ?_)
      have hP : va_P D vwCl (wO T qo b k y ++ wO T po a k x) H := hP
      have hD : va_D A (wO T qo b k y ++ wO T po a k x) := hD
      refine W.eq (g2 := F0 m 185 ls [.int (qEst k.1 i), .int (qEst k.1 i)]) rfl ?_
      refine lv_icmp_ne (tgt := 295) hx hb dL_areAlike_185 (by decide) (fun c_x => absurd rfl c_x) (fun _ => ?_)
      refine lv_aload_n hx hb dL_areAlike_188 rfl (lv_at hl 2 rfl) ?_
      refine lv_iload_n hx hb dL_areAlike_189 rfl (lv_at hl 1 rfl) ?_
      have hP := va_P_perm List.perm_append_comm hP
      have hD := va_D_perm List.perm_append_comm hD
      refine kWT (As := [.ref po, .int (nI i)]) (rest := []) ⟨hx, hb, hml, hown, hts⟩ (L_sure l D T po a k x i hp) (vx_cwSW 2 hts gL_areAlike_L_sure rfl rfl rfl (by decide +kernel) ⟨Nat.le_of_ble_eq_true rfl, Nat.le_of_ble_eq_true rfl⟩) hC hXX hZ hE hNc hP hD hS hA rfl hl.1 rfl (Nat.le_of_ble_eq_true rfl) dL_areAlike_190 ⟨(by show cells + 0 + 0 + 0 + 0 ≤ 106; omega), (by show slots + 0 + 0 + 0 + 0 ≤ 636; omega)⟩ (fun H locs hP hD hS => ?_)
      have hP : va_P D vwCl (wO T po a k x ++ wO T qo b k y) H := hP
      have hD : va_D A (wO T po a k x ++ wO T qo b k y) := hD
      refine W.eq (g2 := F0 m 193 ls [.int (qSure k.1 i)]) rfl ?_
      refine lv_aload_n hx hb dL_areAlike_193 rfl (lv_at hl 3 rfl) ?_
      refine lv_iload_n hx hb dL_areAlike_194 rfl (lv_at hl 1 rfl) ?_
      have hP := va_P_perm List.perm_append_comm hP
      have hD := va_D_perm List.perm_append_comm hD
      refine kWT (As := [.ref qo, .int (nI i)]) (rest := [.int (qSure k.1 i)]) ⟨hx, hb, hml, hown, hts⟩ (L_sure l D T qo b k y i hp) (vx_cwSW 2 hts gL_areAlike_L_sure rfl rfl rfl (by decide +kernel) ⟨Nat.le_of_ble_eq_true rfl, Nat.le_of_ble_eq_true rfl⟩) hC hXX hZ hE hNc hP hD hS hA rfl hl.1 rfl (Nat.le_of_ble_eq_true rfl) dL_areAlike_195 ⟨(by show cells + 0 + 0 + 0 + 0 + 0 ≤ 106; omega), (by show slots + 0 + 0 + 0 + 0 + 0 ≤ 636; omega)⟩ (fun H locs hP hD hS => ?_)
      have hP : va_P D vwCl (wO T qo b k y ++ wO T po a k x) H := hP
      have hD : va_D A (wO T qo b k y ++ wO T po a k x) := hD
      refine W.eq (g2 := F0 m 198 ls [.int (qSure k.1 i), .int (qSure k.1 i)]) rfl ?_
      refine lv_icmp_ne (tgt := 295) hx hb dL_areAlike_198 (by decide) (fun c_x => absurd rfl c_x) (fun _ => ?_)
      refine lv_aload_n hx hb dL_areAlike_201 rfl (lv_at hl 2 rfl) ?_
      refine lv_iload_n hx hb dL_areAlike_202 rfl (lv_at hl 1 rfl) ?_
      have hP := va_P_perm List.perm_append_comm hP
      have hD := va_D_perm List.perm_append_comm hD
      refine kWT (As := [.ref po, .int (nI i)]) (rest := []) ⟨hx, hb, hml, hown, hts⟩ (L_surplusA l D T po a k x i hst9 hp) (vx_cwSW 2 hts gL_areAlike_L_surplus rfl rfl rfl (by decide +kernel) ⟨Nat.le_of_ble_eq_true rfl, Nat.le_of_ble_eq_true rfl⟩) hC hXX hZ hE hNc hP hD hS hA rfl hl.1 rfl (Nat.le_of_ble_eq_true rfl) dL_areAlike_203 ⟨(by show cells + 0 + 0 + 0 + 0 + 0 + 0 + 1 ≤ 106; omega), (by show slots + 0 + 0 + 0 + 0 + 0 + 0 + 6 ≤ 636; omega)⟩ (fun H locs hP hD hS => ?_)
      have hP : va_P D vwCl (wO T po a k x ++ wO T qo b k y) H := hP
      have hD : va_D A (wO T po a k x ++ wO T qo b k y) := hD
      refine W.eq (g2 := F0 m 206 ls [.int (qSur k.1 i)]) rfl ?_
      refine lv_aload_n hx hb dL_areAlike_206 rfl (lv_at hl 3 rfl) ?_
      refine lv_iload_n hx hb dL_areAlike_207 rfl (lv_at hl 1 rfl) ?_
      have hP := va_P_perm List.perm_append_comm hP
      have hD := va_D_perm List.perm_append_comm hD
      refine kWT (As := [.ref qo, .int (nI i)]) (rest := [.int (qSur k.1 i)]) ⟨hx, hb, hml, hown, hts⟩ (L_surplusA l D T qo b k y i hst9 hp) (vx_cwSW 2 hts gL_areAlike_L_surplus rfl rfl rfl (by decide +kernel) ⟨Nat.le_of_ble_eq_true rfl, Nat.le_of_ble_eq_true rfl⟩) hC hXX hZ hE hNc hP hD hS hA rfl hl.1 rfl (Nat.le_of_ble_eq_true rfl) dL_areAlike_208 ⟨(by show cells + 0 + 0 + 0 + 0 + 0 + 0 + 1 + 1 ≤ 106; omega), (by show slots + 0 + 0 + 0 + 0 + 0 + 0 + 6 + 6 ≤ 636; omega)⟩ (fun H locs hP hD hS => ?_)
      have hP : va_P D vwCl (wO T qo b k y ++ wO T po a k x) H := hP
      have hD : va_D A (wO T qo b k y ++ wO T po a k x) := hD
      refine W.eq (g2 := F0 m 211 ls [.int (qSur k.1 i), .int (qSur k.1 i)]) rfl ?_
      refine lv_icmp_ne (tgt := 295) hx hb dL_areAlike_211 (by decide) (fun c_x => absurd rfl c_x) (fun _ => ?_)
      refine lv_aload_n hx hb dL_areAlike_214 rfl (lv_at hl 2 rfl) ?_
      refine lv_iload_n hx hb dL_areAlike_215 rfl (lv_at hl 1 rfl) ?_
      have hP := va_P_perm List.perm_append_comm hP
      have hD := va_D_perm List.perm_append_comm hD
      refine kWT (As := [.ref po, .int (nI i)]) (rest := []) ⟨hx, hb, hml, hown, hts⟩ (L_worn l D T po a k x i hp) (vx_cwSW 2 hts gL_areAlike_L_worn rfl rfl rfl (by decide +kernel) ⟨Nat.le_of_ble_eq_true rfl, Nat.le_of_ble_eq_true rfl⟩) hC hXX hZ hE hNc hP hD hS hA rfl hl.1 rfl (Nat.le_of_ble_eq_true rfl) dL_areAlike_216 ⟨(by show cells + 0 + 0 + 0 + 0 + 0 + 0 + 1 + 1 ≤ 106; omega), (by show slots + 0 + 0 + 0 + 0 + 0 + 0 + 6 + 6 ≤ 636; omega)⟩ (fun H locs hP hD hS => ?_)
      have hP : va_P D vwCl (wO T po a k x ++ wO T qo b k y) H := hP
      have hD : va_D A (wO T po a k x ++ wO T qo b k y) := hD
      refine W.eq (g2 := F0 m 219 ls [.int (qW k.1 i)]) rfl ?_
      refine lv_aload_n hx hb dL_areAlike_219 rfl (lv_at hl 3 rfl) ?_
      refine lv_iload_n hx hb dL_areAlike_220 rfl (lv_at hl 1 rfl) ?_
      have hP := va_P_perm List.perm_append_comm hP
      have hD := va_D_perm List.perm_append_comm hD
      refine kWT (As := [.ref qo, .int (nI i)]) (rest := [.int (qW k.1 i)]) ⟨hx, hb, hml, hown, hts⟩ (L_worn l D T qo b k y i hp) (vx_cwSW 2 hts gL_areAlike_L_worn rfl rfl rfl (by decide +kernel) ⟨Nat.le_of_ble_eq_true rfl, Nat.le_of_ble_eq_true rfl⟩) hC hXX hZ hE hNc hP hD hS hA rfl hl.1 rfl (Nat.le_of_ble_eq_true rfl) dL_areAlike_221 ⟨(by show cells + 0 + 0 + 0 + 0 + 0 + 0 + 1 + 1 + 0 ≤ 106; omega), (by show slots + 0 + 0 + 0 + 0 + 0 + 0 + 6 + 6 + 0 ≤ 636; omega)⟩ (fun H locs hP hD hS => ?_)
      have hP : va_P D vwCl (wO T qo b k y ++ wO T po a k x) H := hP
      have hD : va_D A (wO T qo b k y ++ wO T po a k x) := hD
      refine W.eq (g2 := F0 m 224 ls [.int (qW k.1 i), .int (qW k.1 i)]) rfl ?_
      refine lv_icmp_ne (tgt := 295) hx hb dL_areAlike_224 (by decide) (fun c_x => absurd rfl c_x) (fun _ => ?_)
      refine lv_aload_n hx hb dL_areAlike_227 rfl (lv_at hl 2 rfl) ?_
      refine lv_iload_n hx hb dL_areAlike_228 rfl (lv_at hl 1 rfl) ?_
      have hP := va_P_perm List.perm_append_comm hP
      have hD := va_D_perm List.perm_append_comm hD
      refine kWT (As := [.ref po, .int (nI i)]) (rest := []) ⟨hx, hb, hml, hown, hts⟩ (L_above l D T po a k x i hp) (vx_cwSW 2 hts gL_areAlike_L_above rfl rfl rfl (by decide +kernel) ⟨Nat.le_of_ble_eq_true rfl, Nat.le_of_ble_eq_true rfl⟩) hC hXX hZ hE hNc hP hD hS hA rfl hl.1 rfl (Nat.le_of_ble_eq_true rfl) dL_areAlike_229 ⟨(by show cells + 0 + 0 + 0 + 0 + 0 + 0 + 1 + 1 + 0 + 0 ≤ 106; omega), (by show slots + 0 + 0 + 0 + 0 + 0 + 0 + 6 + 6 + 0 + 0 ≤ 636; omega)⟩ (fun H locs hP hD hS => ?_)
      have hP : va_P D vwCl (wO T po a k x ++ wO T qo b k y) H := hP
      have hD : va_D A (wO T po a k x ++ wO T qo b k y) := hD
      refine W.eq (g2 := F0 m 232 ls [.int (qEst k.1 i - qLeast k.1)]) rfl ?_
      refine lv_aload_n hx hb dL_areAlike_232 rfl (lv_at hl 3 rfl) ?_
      refine lv_iload_n hx hb dL_areAlike_233 rfl (lv_at hl 1 rfl) ?_
      have hP := va_P_perm List.perm_append_comm hP
      have hD := va_D_perm List.perm_append_comm hD
      refine kWT (As := [.ref qo, .int (nI i)]) (rest := [.int (qEst k.1 i - qLeast k.1)]) ⟨hx, hb, hml, hown, hts⟩ (L_above l D T qo b k y i hp) (vx_cwSW 2 hts gL_areAlike_L_above rfl rfl rfl (by decide +kernel) ⟨Nat.le_of_ble_eq_true rfl, Nat.le_of_ble_eq_true rfl⟩) hC hXX hZ hE hNc hP hD hS hA rfl hl.1 rfl (Nat.le_of_ble_eq_true rfl) dL_areAlike_234 ⟨(by show cells + 0 + 0 + 0 + 0 + 0 + 0 + 1 + 1 + 0 + 0 + 0 ≤ 106; omega), (by show slots + 0 + 0 + 0 + 0 + 0 + 0 + 6 + 6 + 0 + 0 + 0 ≤ 636; omega)⟩ (fun H locs hP hD hS => ?_)
      have hP : va_P D vwCl (wO T qo b k y ++ wO T po a k x) H := hP
      have hD : va_D A (wO T qo b k y ++ wO T po a k x) := hD
      refine W.eq (g2 := F0 m 237 ls [.int (qEst k.1 i - qLeast k.1), .int (qEst k.1 i - qLeast k.1)]) rfl ?_
      refine lv_icmp_ne (tgt := 295) hx hb dL_areAlike_237 (by decide) (fun c_x => absurd rfl c_x) (fun _ => ?_)
      refine lv_aload_n hx hb dL_areAlike_240 rfl (lv_at hl 2 rfl) ?_
      refine lv_iload_n hx hb dL_areAlike_241 rfl (lv_at hl 1 rfl) ?_
      have hP := va_P_perm List.perm_append_comm hP
      have hD := va_D_perm List.perm_append_comm hD
      refine kWT (As := [.ref po, .int (nI i)]) (rest := []) ⟨hx, hb, hml, hown, hts⟩ (L_loudestA l D T po a k x (nI i) hst9 (nI_pos' (by omega))) (vx_cwSW 2 hts gL_areAlike_L_loudest rfl rfl rfl (by decide +kernel) ⟨Nat.le_of_ble_eq_true rfl, Nat.le_of_ble_eq_true rfl⟩) hC hXX hZ hE hNc hP hD hS hA rfl hl.1 rfl (Nat.le_of_ble_eq_true rfl) dL_areAlike_242 ⟨(by show cells + 0 + 0 + 0 + 0 + 0 + 0 + 1 + 1 + 0 + 0 + 0 + 0 + 1 ≤ 106; omega), (by show slots + 0 + 0 + 0 + 0 + 0 + 0 + 6 + 6 + 0 + 0 + 0 + 0 + 6 ≤ 636; omega)⟩ (fun H locs hP hD hS => ?_)
      have hP : va_P D vwCl (wO T po a k x ++ wO T qo b k y) H := hP
      have hD : va_D A (wO T po a k x ++ wO T qo b k y) := hD
      refine W.eq (g2 := F0 m 245 ls [.int (qLo k.1 (nI i))]) rfl ?_
      refine lv_aload_n hx hb dL_areAlike_245 rfl (lv_at hl 3 rfl) ?_
      refine lv_iload_n hx hb dL_areAlike_246 rfl (lv_at hl 1 rfl) ?_
      have hP := va_P_perm List.perm_append_comm hP
      have hD := va_D_perm List.perm_append_comm hD
      refine kWT (As := [.ref qo, .int (nI i)]) (rest := [.int (qLo k.1 (nI i))]) ⟨hx, hb, hml, hown, hts⟩ (L_loudestA l D T qo b k y (nI i) hst9 (nI_pos' (by omega))) (vx_cwSW 2 hts gL_areAlike_L_loudest rfl rfl rfl (by decide +kernel) ⟨Nat.le_of_ble_eq_true rfl, Nat.le_of_ble_eq_true rfl⟩) hC hXX hZ hE hNc hP hD hS hA rfl hl.1 rfl (Nat.le_of_ble_eq_true rfl) dL_areAlike_247 ⟨(by show cells + 0 + 0 + 0 + 0 + 0 + 0 + 1 + 1 + 0 + 0 + 0 + 0 + 1 + 1 ≤ 106; omega), (by show slots + 0 + 0 + 0 + 0 + 0 + 0 + 6 + 6 + 0 + 0 + 0 + 0 + 6 + 6 ≤ 636; omega)⟩ (fun H locs hP hD hS => ?_)
      have hP : va_P D vwCl (wO T qo b k y ++ wO T po a k x) H := hP
      have hD : va_D A (wO T qo b k y ++ wO T po a k x) := hD
      refine W.eq (g2 := F0 m 250 ls [.int (qLo k.1 (nI i)), .int (qLo k.1 (nI i))]) rfl ?_
      refine lv_icmp_ne (tgt := 295) hx hb dL_areAlike_250 (by decide) (fun c_x => absurd rfl c_x) (fun _ => ?_)
      refine lv_aload_n hx hb dL_areAlike_253 rfl (lv_at hl 2 rfl) ?_
      refine lv_bipush (v := 40) hx hb dL_areAlike_254 (by decide) ?_
      refine lv_iload_n hx hb dL_areAlike_256 rfl (lv_at hl 1 rfl) ?_
      refine lv_imul hx hb dL_areAlike_257 ?_
      refine W.eq (g2 := F0 m 258 ls (.int (nI (40 * i)) :: [.ref po])) (congrArg (fun z => F0 m 258 ls (.int z :: [.ref po])) (pk_mul 40 i)) ?_
      have hP := va_P_perm List.perm_append_comm hP
      have hD := va_D_perm List.perm_append_comm hD
      refine kWT (As := [.ref po, .int (nI (40 * i))]) (rest := []) ⟨hx, hb, hml, hown, hts⟩ (L_surely l D T po a k x (nI (40 * i)) hlo hhi) (vx_cwSW 2 hts gL_areAlike_L_surely rfl rfl rfl (by decide +kernel) ⟨Nat.le_of_ble_eq_true rfl, Nat.le_of_ble_eq_true rfl⟩) hC hXX hZ hE hNc hP hD hS hA rfl hl.1 rfl (Nat.le_of_ble_eq_true rfl) dL_areAlike_258 ⟨(by show cells + 0 + 0 + 0 + 0 + 0 + 0 + 1 + 1 + 0 + 0 + 0 + 0 + 1 + 1 ≤ 106; omega), (by show slots + 0 + 0 + 0 + 0 + 0 + 0 + 6 + 6 + 0 + 0 + 0 + 0 + 6 + 6 ≤ 636; omega)⟩ (fun H locs hP hD hS => ?_)
      have hP : va_P D vwCl (wO T po a k x ++ wO T qo b k y) H := hP
      have hD : va_D A (wO T po a k x ++ wO T qo b k y) := hD
      refine W.eq (g2 := F0 m 261 ls [.int (abC (qSure k.1) ((nI (40 * i)) * qSum k.1) 26)]) rfl ?_
      refine lv_aload_n hx hb dL_areAlike_261 rfl (lv_at hl 3 rfl) ?_
      refine lv_bipush (v := 40) hx hb dL_areAlike_262 (by decide) ?_
      refine lv_iload_n hx hb dL_areAlike_264 rfl (lv_at hl 1 rfl) ?_
      refine lv_imul hx hb dL_areAlike_265 ?_
      refine W.eq (g2 := F0 m 266 ls (.int (nI (40 * i)) :: [.ref qo, .int (abC (qSure k.1) ((nI (40 * i)) * qSum k.1) 26)])) (congrArg (fun z => F0 m 266 ls (.int z :: [.ref qo, .int (abC (qSure k.1) ((nI (40 * i)) * qSum k.1) 26)])) (pk_mul 40 i)) ?_
      have hP := va_P_perm List.perm_append_comm hP
      have hD := va_D_perm List.perm_append_comm hD
      refine kWT (As := [.ref qo, .int (nI (40 * i))]) (rest := [.int (abC (qSure k.1) ((nI (40 * i)) * qSum k.1) 26)]) ⟨hx, hb, hml, hown, hts⟩ (L_surely l D T qo b k y (nI (40 * i)) hlo hhi) (vx_cwSW 2 hts gL_areAlike_L_surely rfl rfl rfl (by decide +kernel) ⟨Nat.le_of_ble_eq_true rfl, Nat.le_of_ble_eq_true rfl⟩) hC hXX hZ hE hNc hP hD hS hA rfl hl.1 rfl (Nat.le_of_ble_eq_true rfl) dL_areAlike_266 ⟨(by show cells + 0 + 0 + 0 + 0 + 0 + 0 + 1 + 1 + 0 + 0 + 0 + 0 + 1 + 1 + 0 ≤ 106; omega), (by show slots + 0 + 0 + 0 + 0 + 0 + 0 + 6 + 6 + 0 + 0 + 0 + 0 + 6 + 6 + 0 ≤ 636; omega)⟩ (fun H locs hP hD hS => ?_)
      have hP : va_P D vwCl (wO T qo b k y ++ wO T po a k x) H := hP
      have hD : va_D A (wO T qo b k y ++ wO T po a k x) := hD
      refine W.eq (g2 := F0 m 269 ls [.int (abC (qSure k.1) ((nI (40 * i)) * qSum k.1) 26), .int (abC (qSure k.1) ((nI (40 * i)) * qSum k.1) 26)]) rfl ?_
      refine lv_icmp_ne (tgt := 295) hx hb dL_areAlike_269 (by decide) (fun c_x => absurd rfl c_x) (fun _ => ?_)
      refine lv_aload_n hx hb dL_areAlike_272 rfl (lv_at hl 2 rfl) ?_
      refine lv_bipush (v := 40) hx hb dL_areAlike_273 (by decide) ?_
      refine lv_iload_n hx hb dL_areAlike_275 rfl (lv_at hl 1 rfl) ?_
      refine lv_imul hx hb dL_areAlike_276 ?_
      refine W.eq (g2 := F0 m 277 ls (.int (nI (40 * i)) :: [.ref po])) (congrArg (fun z => F0 m 277 ls (.int z :: [.ref po])) (pk_mul 40 i)) ?_
      have hP := va_P_perm List.perm_append_comm hP
      have hD := va_D_perm List.perm_append_comm hD
      refine kWT (As := [.ref po, .int (nI (40 * i))]) (rest := []) ⟨hx, hb, hml, hown, hts⟩ (L_perhaps l D T po a k x (nI (40 * i)) hlo hhi) (vx_cwSW 2 hts gL_areAlike_L_perhaps rfl rfl rfl (by decide +kernel) ⟨Nat.le_of_ble_eq_true rfl, Nat.le_of_ble_eq_true rfl⟩) hC hXX hZ hE hNc hP hD hS hA rfl hl.1 rfl (Nat.le_of_ble_eq_true rfl) dL_areAlike_277 ⟨(by show cells + 0 + 0 + 0 + 0 + 0 + 0 + 1 + 1 + 0 + 0 + 0 + 0 + 1 + 1 + 0 + 0 ≤ 106; omega), (by show slots + 0 + 0 + 0 + 0 + 0 + 0 + 6 + 6 + 0 + 0 + 0 + 0 + 6 + 6 + 0 + 0 ≤ 636; omega)⟩ (fun H locs hP hD hS => ?_)
      have hP : va_P D vwCl (wO T po a k x ++ wO T qo b k y) H := hP
      have hD : va_D A (wO T po a k x ++ wO T qo b k y) := hD
      refine W.eq (g2 := F0 m 280 ls [.int (abC (qEst k.1) ((nI (40 * i)) * qSum k.1) 26)]) rfl ?_
      refine lv_aload_n hx hb dL_areAlike_280 rfl (lv_at hl 3 rfl) ?_
      refine lv_bipush (v := 40) hx hb dL_areAlike_281 (by decide) ?_
      refine lv_iload_n hx hb dL_areAlike_283 rfl (lv_at hl 1 rfl) ?_
      refine lv_imul hx hb dL_areAlike_284 ?_
      refine W.eq (g2 := F0 m 285 ls (.int (nI (40 * i)) :: [.ref qo, .int (abC (qEst k.1) ((nI (40 * i)) * qSum k.1) 26)])) (congrArg (fun z => F0 m 285 ls (.int z :: [.ref qo, .int (abC (qEst k.1) ((nI (40 * i)) * qSum k.1) 26)])) (pk_mul 40 i)) ?_
      have hP := va_P_perm List.perm_append_comm hP
      have hD := va_D_perm List.perm_append_comm hD
      refine kWT (As := [.ref qo, .int (nI (40 * i))]) (rest := [.int (abC (qEst k.1) ((nI (40 * i)) * qSum k.1) 26)]) ⟨hx, hb, hml, hown, hts⟩ (L_perhaps l D T qo b k y (nI (40 * i)) hlo hhi) (vx_cwSW 2 hts gL_areAlike_L_perhaps rfl rfl rfl (by decide +kernel) ⟨Nat.le_of_ble_eq_true rfl, Nat.le_of_ble_eq_true rfl⟩) hC hXX hZ hE hNc hP hD hS hA rfl hl.1 rfl (Nat.le_of_ble_eq_true rfl) dL_areAlike_285 ⟨(by show cells + 0 + 0 + 0 + 0 + 0 + 0 + 1 + 1 + 0 + 0 + 0 + 0 + 1 + 1 + 0 + 0 + 0 ≤ 106; omega), (by show slots + 0 + 0 + 0 + 0 + 0 + 0 + 6 + 6 + 0 + 0 + 0 + 0 + 6 + 6 + 0 + 0 + 0 ≤ 636; omega)⟩ (fun H locs hP hD hS => ?_)
      have hP : va_P D vwCl (wO T qo b k y ++ wO T po a k x) H := hP
      have hD : va_D A (wO T qo b k y ++ wO T po a k x) := hD
      refine W.eq (g2 := F0 m 288 ls [.int (abC (qEst k.1) ((nI (40 * i)) * qSum k.1) 26), .int (abC (qEst k.1) ((nI (40 * i)) * qSum k.1) 26)]) rfl ?_
      refine lv_icmp_ne (tgt := 295) hx hb dL_areAlike_288 (by decide) (fun c_x => absurd rfl c_x) (fun _ => ?_)
      refine lv_iconst (v := 1) hx hb dL_areAlike_291 (by decide) ?_
      refine lv_goto (tgt := 296) hx hb dL_areAlike_292 (by decide) ?_
      refine lv_istore_n (lv' := [(2, .int 1), (3, .int (nI i)), (0, .ref po), (1, .ref qo)]) hx hb dL_areAlike_296 rfl hl (by decide) rfl (fun ls hl => ?_)
      refine lv_iinc (v := nI (i + 1)) (lv' := [(3, .int (nI (i + 1))), (2, .int 1), (0, .ref po), (1, .ref qo)]) hx hb dL_areAlike_297 hl (k := 1) rfl (nI_1 i) (by decide) rfl (fun ls hl => ?_)
      refine lv_goto (tgt := 152) hx hb dL_areAlike_300 (by decide) ?_
      have hP := va_P_perm List.perm_append_comm hP
      have hD := va_D_perm List.perm_append_comm hD
      exact ih (i + 1) (by omega) _ _ _ _ _ hP hD hS (lv_sub hl [1, 0, 2, 3] rfl) (by omega) (by omega)
  refine lv_aload_n hx hb dL_areAlike_0 rfl (lv_at hl 0 rfl) ?_
  refine kV (ci := 7) (As := []) (rest := []) ⟨hx, hb, hml, hown, hts⟩ (o_capacity l D T po a k x) (cwV 0 hts gL_areAlike_X8_capacity rfl rfl rfl (by decide +kernel) ⟨Nat.le_of_ble_eq_true rfl, Nat.le_of_ble_eq_true rfl⟩) hC hP hD hS hA rfl rfl rfl hl.1 rfl (Nat.le_of_ble_eq_true rfl) dL_areAlike_1 ⟨(Nat.zero_le _), (Nat.zero_le _)⟩ (fun H locs hP hD hS => ?_)
  have hP : va_P D vwCl (wO T po a k x ++ wO T qo b k y) H := hP
  have hD : va_D A (wO T po a k x ++ wO T qo b k y) := hD
  refine W.eq (g2 := F0 m 4 ls [.int (nI (qCap k.1))]) rfl ?_
  refine lv_aload_n hx hb dL_areAlike_4 rfl (lv_at hl 1 rfl) ?_
  have hP := va_P_perm List.perm_append_comm hP
  have hD := va_D_perm List.perm_append_comm hD
  refine kV (ci := 7) (As := []) (rest := [.int (nI (qCap k.1))]) ⟨hx, hb, hml, hown, hts⟩ (o_capacity l D T qo b k y) (cwV 0 hts gL_areAlike_X8_capacity rfl rfl rfl (by decide +kernel) ⟨Nat.le_of_ble_eq_true rfl, Nat.le_of_ble_eq_true rfl⟩) hC hP hD hS hA rfl rfl rfl hl.1 rfl (Nat.le_of_ble_eq_true rfl) dL_areAlike_5 ⟨(Nat.zero_le _), (Nat.zero_le _)⟩ (fun H locs hP hD hS => ?_)
  have hP : va_P D vwCl (wO T qo b k y ++ wO T po a k x) H := hP
  have hD : va_D A (wO T qo b k y ++ wO T po a k x) := hD
  refine W.eq (g2 := F0 m 8 ls [.int (nI (qCap k.1)), .int (nI (qCap k.1))]) rfl ?_
  refine lv_icmp_ne (tgt := 148) hx hb dL_areAlike_8 (by decide) (fun c_x => absurd rfl c_x) (fun _ => ?_)
  refine lv_aload_n hx hb dL_areAlike_11 rfl (lv_at hl 0 rfl) ?_
  have hP := va_P_perm List.perm_append_comm hP
  have hD := va_D_perm List.perm_append_comm hD
  refine kV (ci := 7) (As := []) (rest := []) ⟨hx, hb, hml, hown, hts⟩ (o_hasAside l D T po a k x) (cwV 0 hts gL_areAlike_X8_hasAside rfl rfl rfl (by decide +kernel) ⟨Nat.le_of_ble_eq_true rfl, Nat.le_of_ble_eq_true rfl⟩) hC hP hD hS hA rfl rfl rfl hl.1 rfl (Nat.le_of_ble_eq_true rfl) dL_areAlike_12 ⟨(Nat.zero_le _), (Nat.zero_le _)⟩ (fun H locs hP hD hS => ?_)
  have hP : va_P D vwCl (wO T po a k x ++ wO T qo b k y) H := hP
  have hD : va_D A (wO T po a k x ++ wO T qo b k y) := hD
  refine W.eq (g2 := F0 m 15 ls [.int (bI (qVia k.1))]) rfl ?_
  refine lv_aload_n hx hb dL_areAlike_15 rfl (lv_at hl 1 rfl) ?_
  have hP := va_P_perm List.perm_append_comm hP
  have hD := va_D_perm List.perm_append_comm hD
  refine kV (ci := 7) (As := []) (rest := [.int (bI (qVia k.1))]) ⟨hx, hb, hml, hown, hts⟩ (o_hasAside l D T qo b k y) (cwV 0 hts gL_areAlike_X8_hasAside rfl rfl rfl (by decide +kernel) ⟨Nat.le_of_ble_eq_true rfl, Nat.le_of_ble_eq_true rfl⟩) hC hP hD hS hA rfl rfl rfl hl.1 rfl (Nat.le_of_ble_eq_true rfl) dL_areAlike_16 ⟨(Nat.zero_le _), (Nat.zero_le _)⟩ (fun H locs hP hD hS => ?_)
  have hP : va_P D vwCl (wO T qo b k y ++ wO T po a k x) H := hP
  have hD : va_D A (wO T qo b k y ++ wO T po a k x) := hD
  refine W.eq (g2 := F0 m 19 ls [.int (bI (qVia k.1)), .int (bI (qVia k.1))]) rfl ?_
  refine lv_icmp_ne (tgt := 148) hx hb dL_areAlike_19 (by decide) (fun c_x => absurd rfl c_x) (fun _ => ?_)
  refine lv_aload_n hx hb dL_areAlike_22 rfl (lv_at hl 0 rfl) ?_
  have hP := va_P_perm List.perm_append_comm hP
  have hD := va_D_perm List.perm_append_comm hD
  refine kV (ci := 7) (As := []) (rest := []) ⟨hx, hb, hml, hown, hts⟩ (o_calls l D T po a k x) (cwV 0 hts gL_areAlike_X8_calls rfl rfl rfl (by decide +kernel) ⟨Nat.le_of_ble_eq_true rfl, Nat.le_of_ble_eq_true rfl⟩) hC hP hD hS hA rfl rfl rfl hl.1 rfl (Nat.le_of_ble_eq_true rfl) dL_areAlike_23 ⟨(Nat.zero_le _), (Nat.zero_le _)⟩ (fun H locs hP hD hS => ?_)
  have hP : va_P D vwCl (wO T po a k x ++ wO T qo b k y) H := hP
  have hD : va_D A (wO T po a k x ++ wO T qo b k y) := hD
  refine W.eq (g2 := F0 m 26 ls [.int (qSum k.1)]) rfl ?_
  refine lv_aload_n hx hb dL_areAlike_26 rfl (lv_at hl 1 rfl) ?_
  have hP := va_P_perm List.perm_append_comm hP
  have hD := va_D_perm List.perm_append_comm hD
  refine kV (ci := 7) (As := []) (rest := [.int (qSum k.1)]) ⟨hx, hb, hml, hown, hts⟩ (o_calls l D T qo b k y) (cwV 0 hts gL_areAlike_X8_calls rfl rfl rfl (by decide +kernel) ⟨Nat.le_of_ble_eq_true rfl, Nat.le_of_ble_eq_true rfl⟩) hC hP hD hS hA rfl rfl rfl hl.1 rfl (Nat.le_of_ble_eq_true rfl) dL_areAlike_27 ⟨(Nat.zero_le _), (Nat.zero_le _)⟩ (fun H locs hP hD hS => ?_)
  have hP : va_P D vwCl (wO T qo b k y ++ wO T po a k x) H := hP
  have hD : va_D A (wO T qo b k y ++ wO T po a k x) := hD
  refine W.eq (g2 := F0 m 30 ls [.int (qSum k.1), .int (qSum k.1)]) rfl ?_
  refine lv_icmp_ne (tgt := 148) hx hb dL_areAlike_30 (by decide) (fun c_x => absurd rfl c_x) (fun _ => ?_)
  refine lv_aload_n hx hb dL_areAlike_33 rfl (lv_at hl 0 rfl) ?_
  have hP := va_P_perm List.perm_append_comm hP
  have hD := va_D_perm List.perm_append_comm hD
  refine kV (ci := 7) (As := []) (rest := []) ⟨hx, hb, hml, hown, hts⟩ (o_counters l D T po a k x) (cwV 0 hts gL_areAlike_X8_counters rfl rfl rfl (by decide +kernel) ⟨Nat.le_of_ble_eq_true rfl, Nat.le_of_ble_eq_true rfl⟩) hC hP hD hS hA rfl rfl rfl hl.1 rfl (Nat.le_of_ble_eq_true rfl) dL_areAlike_34 ⟨(Nat.zero_le _), (Nat.zero_le _)⟩ (fun H locs hP hD hS => ?_)
  have hP : va_P D vwCl (wO T po a k x ++ wO T qo b k y) H := hP
  have hD : va_D A (wO T po a k x ++ wO T qo b k y) := hD
  refine W.eq (g2 := F0 m 37 ls [.int (qSize k.1)]) rfl ?_
  refine lv_aload_n hx hb dL_areAlike_37 rfl (lv_at hl 1 rfl) ?_
  have hP := va_P_perm List.perm_append_comm hP
  have hD := va_D_perm List.perm_append_comm hD
  refine kV (ci := 7) (As := []) (rest := [.int (qSize k.1)]) ⟨hx, hb, hml, hown, hts⟩ (o_counters l D T qo b k y) (cwV 0 hts gL_areAlike_X8_counters rfl rfl rfl (by decide +kernel) ⟨Nat.le_of_ble_eq_true rfl, Nat.le_of_ble_eq_true rfl⟩) hC hP hD hS hA rfl rfl rfl hl.1 rfl (Nat.le_of_ble_eq_true rfl) dL_areAlike_38 ⟨(Nat.zero_le _), (Nat.zero_le _)⟩ (fun H locs hP hD hS => ?_)
  have hP : va_P D vwCl (wO T qo b k y ++ wO T po a k x) H := hP
  have hD : va_D A (wO T qo b k y ++ wO T po a k x) := hD
  refine W.eq (g2 := F0 m 41 ls [.int (qSize k.1), .int (qSize k.1)]) rfl ?_
  refine lv_icmp_ne (tgt := 148) hx hb dL_areAlike_41 (by decide) (fun c_x => absurd rfl c_x) (fun _ => ?_)
  refine lv_aload_n hx hb dL_areAlike_44 rfl (lv_at hl 0 rfl) ?_
  have hP := va_P_perm List.perm_append_comm hP
  have hD := va_D_perm List.perm_append_comm hD
  refine kV (ci := 7) (As := []) (rest := []) ⟨hx, hb, hml, hown, hts⟩ (o_floor l D T po a k x) (cwV 0 hts gL_areAlike_X8_floor rfl rfl rfl (by decide +kernel) ⟨Nat.le_of_ble_eq_true rfl, Nat.le_of_ble_eq_true rfl⟩) hC hP hD hS hA rfl rfl rfl hl.1 rfl (Nat.le_of_ble_eq_true rfl) dL_areAlike_45 ⟨(Nat.zero_le _), (Nat.zero_le _)⟩ (fun H locs hP hD hS => ?_)
  have hP : va_P D vwCl (wO T po a k x ++ wO T qo b k y) H := hP
  have hD : va_D A (wO T po a k x ++ wO T qo b k y) := hD
  refine W.eq (g2 := F0 m 48 ls [.int (qLeast k.1)]) rfl ?_
  refine lv_aload_n hx hb dL_areAlike_48 rfl (lv_at hl 1 rfl) ?_
  have hP := va_P_perm List.perm_append_comm hP
  have hD := va_D_perm List.perm_append_comm hD
  refine kV (ci := 7) (As := []) (rest := [.int (qLeast k.1)]) ⟨hx, hb, hml, hown, hts⟩ (o_floor l D T qo b k y) (cwV 0 hts gL_areAlike_X8_floor rfl rfl rfl (by decide +kernel) ⟨Nat.le_of_ble_eq_true rfl, Nat.le_of_ble_eq_true rfl⟩) hC hP hD hS hA rfl rfl rfl hl.1 rfl (Nat.le_of_ble_eq_true rfl) dL_areAlike_49 ⟨(Nat.zero_le _), (Nat.zero_le _)⟩ (fun H locs hP hD hS => ?_)
  have hP : va_P D vwCl (wO T qo b k y ++ wO T po a k x) H := hP
  have hD : va_D A (wO T qo b k y ++ wO T po a k x) := hD
  refine W.eq (g2 := F0 m 52 ls [.int (qLeast k.1), .int (qLeast k.1)]) rfl ?_
  refine lv_icmp_ne (tgt := 148) hx hb dL_areAlike_52 (by decide) (fun c_x => absurd rfl c_x) (fun _ => ?_)
  refine lv_aload_n hx hb dL_areAlike_55 rfl (lv_at hl 0 rfl) ?_
  have hP := va_P_perm List.perm_append_comm hP
  have hD := va_D_perm List.perm_append_comm hD
  refine kV (ci := 7) (As := []) (rest := []) ⟨hx, hb, hml, hown, hts⟩ (o_wear l D T po a k x) (cwV 0 hts gL_areAlike_X8_wear rfl rfl rfl (by decide +kernel) ⟨Nat.le_of_ble_eq_true rfl, Nat.le_of_ble_eq_true rfl⟩) hC hP hD hS hA rfl rfl rfl hl.1 rfl (Nat.le_of_ble_eq_true rfl) dL_areAlike_56 ⟨(Nat.zero_le _), (Nat.zero_le _)⟩ (fun H locs hP hD hS => ?_)
  have hP : va_P D vwCl (wO T po a k x ++ wO T qo b k y) H := hP
  have hD : va_D A (wO T po a k x ++ wO T qo b k y) := hD
  refine W.eq (g2 := F0 m 59 ls [.int (qWear k.1)]) rfl ?_
  refine lv_aload_n hx hb dL_areAlike_59 rfl (lv_at hl 1 rfl) ?_
  have hP := va_P_perm List.perm_append_comm hP
  have hD := va_D_perm List.perm_append_comm hD
  refine kV (ci := 7) (As := []) (rest := [.int (qWear k.1)]) ⟨hx, hb, hml, hown, hts⟩ (o_wear l D T qo b k y) (cwV 0 hts gL_areAlike_X8_wear rfl rfl rfl (by decide +kernel) ⟨Nat.le_of_ble_eq_true rfl, Nat.le_of_ble_eq_true rfl⟩) hC hP hD hS hA rfl rfl rfl hl.1 rfl (Nat.le_of_ble_eq_true rfl) dL_areAlike_60 ⟨(Nat.zero_le _), (Nat.zero_le _)⟩ (fun H locs hP hD hS => ?_)
  have hP : va_P D vwCl (wO T qo b k y ++ wO T po a k x) H := hP
  have hD : va_D A (wO T qo b k y ++ wO T po a k x) := hD
  refine W.eq (g2 := F0 m 63 ls [.int (qWear k.1), .int (qWear k.1)]) rfl ?_
  refine lv_icmp_ne (tgt := 148) hx hb dL_areAlike_63 (by decide) (fun c_x => absurd rfl c_x) (fun _ => ?_)
  refine lv_aload_n hx hb dL_areAlike_66 rfl (lv_at hl 0 rfl) ?_
  have hP := va_P_perm List.perm_append_comm hP
  have hD := va_D_perm List.perm_append_comm hD
  refine kV (ci := 7) (As := []) (rest := []) ⟨hx, hb, hml, hown, hts⟩ (o_wornCounters l D T po a k x) (cwV 0 hts gL_areAlike_X8_wornCounters rfl rfl rfl (by decide +kernel) ⟨Nat.le_of_ble_eq_true rfl, Nat.le_of_ble_eq_true rfl⟩) hC hP hD hS hA rfl rfl rfl hl.1 rfl (Nat.le_of_ble_eq_true rfl) dL_areAlike_67 ⟨(Nat.zero_le _), (Nat.zero_le _)⟩ (fun H locs hP hD hS => ?_)
  have hP : va_P D vwCl (wO T po a k x ++ wO T qo b k y) H := hP
  have hD : va_D A (wO T po a k x ++ wO T qo b k y) := hD
  refine W.eq (g2 := F0 m 70 ls [.int (qWSize k.1)]) rfl ?_
  refine lv_aload_n hx hb dL_areAlike_70 rfl (lv_at hl 1 rfl) ?_
  have hP := va_P_perm List.perm_append_comm hP
  have hD := va_D_perm List.perm_append_comm hD
  refine kV (ci := 7) (As := []) (rest := [.int (qWSize k.1)]) ⟨hx, hb, hml, hown, hts⟩ (o_wornCounters l D T qo b k y) (cwV 0 hts gL_areAlike_X8_wornCounters rfl rfl rfl (by decide +kernel) ⟨Nat.le_of_ble_eq_true rfl, Nat.le_of_ble_eq_true rfl⟩) hC hP hD hS hA rfl rfl rfl hl.1 rfl (Nat.le_of_ble_eq_true rfl) dL_areAlike_71 ⟨(Nat.zero_le _), (Nat.zero_le _)⟩ (fun H locs hP hD hS => ?_)
  have hP : va_P D vwCl (wO T qo b k y ++ wO T po a k x) H := hP
  have hD : va_D A (wO T qo b k y ++ wO T po a k x) := hD
  refine W.eq (g2 := F0 m 74 ls [.int (qWSize k.1), .int (qWSize k.1)]) rfl ?_
  refine lv_icmp_ne (tgt := 148) hx hb dL_areAlike_74 (by decide) (fun c_x => absurd rfl c_x) (fun _ => ?_)
  refine lv_aload_n hx hb dL_areAlike_77 rfl (lv_at hl 0 rfl) ?_
  have hP := va_P_perm List.perm_append_comm hP
  have hD := va_D_perm List.perm_append_comm hD
  refine kWT (As := [.ref po]) (rest := []) ⟨hx, hb, hml, hown, hts⟩ (L_nextA l D T po a k x hst9) (vx_cwSW 1 hts gL_areAlike_L_next rfl rfl rfl (by decide +kernel) ⟨Nat.le_of_ble_eq_true rfl, Nat.le_of_ble_eq_true rfl⟩) hC hXX hZ hE hNc hP hD hS hA rfl hl.1 rfl (Nat.le_of_ble_eq_true rfl) dL_areAlike_78 ⟨(by show 0 + 1 ≤ 106; omega), (by show 0 + 6 ≤ 636; omega)⟩ (fun H locs hP hD hS => ?_)
  have hP : va_P D vwCl (wO T po a k x ++ wO T qo b k y) H := hP
  have hD : va_D A (wO T po a k x ++ wO T qo b k y) := hD
  refine W.eq (g2 := F0 m 81 ls [.int (qNx k.1)]) rfl ?_
  refine lv_aload_n hx hb dL_areAlike_81 rfl (lv_at hl 1 rfl) ?_
  have hP := va_P_perm List.perm_append_comm hP
  have hD := va_D_perm List.perm_append_comm hD
  refine kWT (As := [.ref qo]) (rest := [.int (qNx k.1)]) ⟨hx, hb, hml, hown, hts⟩ (L_nextA l D T qo b k y hst9) (vx_cwSW 1 hts gL_areAlike_L_next rfl rfl rfl (by decide +kernel) ⟨Nat.le_of_ble_eq_true rfl, Nat.le_of_ble_eq_true rfl⟩) hC hXX hZ hE hNc hP hD hS hA rfl hl.1 rfl (Nat.le_of_ble_eq_true rfl) dL_areAlike_82 ⟨(by show 0 + 1 + 1 ≤ 106; omega), (by show 0 + 6 + 6 ≤ 636; omega)⟩ (fun H locs hP hD hS => ?_)
  have hP : va_P D vwCl (wO T qo b k y ++ wO T po a k x) H := hP
  have hD : va_D A (wO T qo b k y ++ wO T po a k x) := hD
  refine W.eq (g2 := F0 m 85 ls [.int (qNx k.1), .int (qNx k.1)]) rfl ?_
  refine lv_icmp_ne (tgt := 148) hx hb dL_areAlike_85 (by decide) (fun c_x => absurd rfl c_x) (fun _ => ?_)
  refine lv_aload_n hx hb dL_areAlike_88 rfl (lv_at hl 0 rfl) ?_
  have hP := va_P_perm List.perm_append_comm hP
  have hD := va_D_perm List.perm_append_comm hD
  refine kV (ci := 7) (As := []) (rest := []) ⟨hx, hb, hml, hown, hts⟩ (o_callsByCounters l D T po a k x) (cwV 0 hts gL_areAlike_X8_callsByCounters rfl rfl rfl (by decide +kernel) ⟨Nat.le_of_ble_eq_true rfl, Nat.le_of_ble_eq_true rfl⟩) hC hP hD hS hA rfl rfl rfl hl.1 rfl (Nat.le_of_ble_eq_true rfl) dL_areAlike_89 ⟨(by show 0 + 1 + 1 ≤ 106; omega), (by show 0 + 6 + 6 ≤ 636; omega)⟩ (fun H locs hP hD hS => ?_)
  have hP : va_P D vwCl (wO T po a k x ++ wO T qo b k y) H := hP
  have hD : va_D A (wO T po a k x ++ wO T qo b k y) := hD
  refine W.eq (g2 := F0 m 92 ls [.int (smN (qC k.1) 26)]) rfl ?_
  refine lv_aload_n hx hb dL_areAlike_92 rfl (lv_at hl 1 rfl) ?_
  have hP := va_P_perm List.perm_append_comm hP
  have hD := va_D_perm List.perm_append_comm hD
  refine kV (ci := 7) (As := []) (rest := [.int (smN (qC k.1) 26)]) ⟨hx, hb, hml, hown, hts⟩ (o_callsByCounters l D T qo b k y) (cwV 0 hts gL_areAlike_X8_callsByCounters rfl rfl rfl (by decide +kernel) ⟨Nat.le_of_ble_eq_true rfl, Nat.le_of_ble_eq_true rfl⟩) hC hP hD hS hA rfl rfl rfl hl.1 rfl (Nat.le_of_ble_eq_true rfl) dL_areAlike_93 ⟨(by show 0 + 1 + 1 ≤ 106; omega), (by show 0 + 6 + 6 ≤ 636; omega)⟩ (fun H locs hP hD hS => ?_)
  have hP : va_P D vwCl (wO T qo b k y ++ wO T po a k x) H := hP
  have hD : va_D A (wO T qo b k y ++ wO T po a k x) := hD
  refine W.eq (g2 := F0 m 96 ls [.int (smN (qC k.1) 26), .int (smN (qC k.1) 26)]) rfl ?_
  refine lv_icmp_ne (tgt := 148) hx hb dL_areAlike_96 (by decide) (fun c_x => absurd rfl c_x) (fun _ => ?_)
  refine lv_aload_n hx hb dL_areAlike_99 rfl (lv_at hl 0 rfl) ?_
  have hP := va_P_perm List.perm_append_comm hP
  have hD := va_D_perm List.perm_append_comm hD
  refine kV (ci := 7) (As := []) (rest := []) ⟨hx, hb, hml, hown, hts⟩ (o_parrotsHeard l D T po a k x) (cwV 0 hts gL_areAlike_X8_parrotsHeard rfl rfl rfl (by decide +kernel) ⟨Nat.le_of_ble_eq_true rfl, Nat.le_of_ble_eq_true rfl⟩) hC hP hD hS hA rfl rfl rfl hl.1 rfl (Nat.le_of_ble_eq_true rfl) dL_areAlike_100 ⟨(by show 0 + 1 + 1 ≤ 106; omega), (by show 0 + 6 + 6 ≤ 636; omega)⟩ (fun H locs hP hD hS => ?_)
  have hP : va_P D vwCl (wO T po a k x ++ wO T qo b k y) H := hP
  have hD : va_D A (wO T po a k x ++ wO T qo b k y) := hD
  refine W.eq (g2 := F0 m 103 ls [.int (nI (cntN (qT k.1) 26))]) rfl ?_
  refine lv_aload_n hx hb dL_areAlike_103 rfl (lv_at hl 1 rfl) ?_
  have hP := va_P_perm List.perm_append_comm hP
  have hD := va_D_perm List.perm_append_comm hD
  refine kV (ci := 7) (As := []) (rest := [.int (nI (cntN (qT k.1) 26))]) ⟨hx, hb, hml, hown, hts⟩ (o_parrotsHeard l D T qo b k y) (cwV 0 hts gL_areAlike_X8_parrotsHeard rfl rfl rfl (by decide +kernel) ⟨Nat.le_of_ble_eq_true rfl, Nat.le_of_ble_eq_true rfl⟩) hC hP hD hS hA rfl rfl rfl hl.1 rfl (Nat.le_of_ble_eq_true rfl) dL_areAlike_104 ⟨(by show 0 + 1 + 1 ≤ 106; omega), (by show 0 + 6 + 6 ≤ 636; omega)⟩ (fun H locs hP hD hS => ?_)
  have hP : va_P D vwCl (wO T qo b k y ++ wO T po a k x) H := hP
  have hD : va_D A (wO T qo b k y ++ wO T po a k x) := hD
  refine W.eq (g2 := F0 m 107 ls [.int (nI (cntN (qT k.1) 26)), .int (nI (cntN (qT k.1) 26))]) rfl ?_
  refine lv_icmp_ne (tgt := 148) hx hb dL_areAlike_107 (by decide) (fun c_x => absurd rfl c_x) (fun _ => ?_)
  refine lv_aload_n hx hb dL_areAlike_110 rfl (lv_at hl 0 rfl) ?_
  have hP := va_P_perm List.perm_append_comm hP
  have hD := va_D_perm List.perm_append_comm hD
  refine kV (ci := 7) (As := []) (rest := []) ⟨hx, hb, hml, hown, hts⟩ (o_greatestError l D T po a k x) (cwV 0 hts gL_areAlike_X8_greatestError rfl rfl rfl (by decide +kernel) ⟨Nat.le_of_ble_eq_true rfl, Nat.le_of_ble_eq_true rfl⟩) hC hP hD hS hA rfl rfl rfl hl.1 rfl (Nat.le_of_ble_eq_true rfl) dL_areAlike_111 ⟨(by show 0 + 1 + 1 ≤ 106; omega), (by show 0 + 6 + 6 ≤ 636; omega)⟩ (fun H locs hP hD hS => ?_)
  have hP : va_P D vwCl (wO T po a k x ++ wO T qo b k y) H := hP
  have hD : va_D A (wO T po a k x ++ wO T qo b k y) := hD
  refine W.eq (g2 := F0 m 114 ls [.int (qGE k.1)]) rfl ?_
  refine lv_aload_n hx hb dL_areAlike_114 rfl (lv_at hl 1 rfl) ?_
  have hP := va_P_perm List.perm_append_comm hP
  have hD := va_D_perm List.perm_append_comm hD
  refine kV (ci := 7) (As := []) (rest := [.int (qGE k.1)]) ⟨hx, hb, hml, hown, hts⟩ (o_greatestError l D T qo b k y) (cwV 0 hts gL_areAlike_X8_greatestError rfl rfl rfl (by decide +kernel) ⟨Nat.le_of_ble_eq_true rfl, Nat.le_of_ble_eq_true rfl⟩) hC hP hD hS hA rfl rfl rfl hl.1 rfl (Nat.le_of_ble_eq_true rfl) dL_areAlike_115 ⟨(by show 0 + 1 + 1 ≤ 106; omega), (by show 0 + 6 + 6 ≤ 636; omega)⟩ (fun H locs hP hD hS => ?_)
  have hP : va_P D vwCl (wO T qo b k y ++ wO T po a k x) H := hP
  have hD : va_D A (wO T qo b k y ++ wO T po a k x) := hD
  refine W.eq (g2 := F0 m 118 ls [.int (qGE k.1), .int (qGE k.1)]) rfl ?_
  refine lv_icmp_ne (tgt := 148) hx hb dL_areAlike_118 (by decide) (fun c_x => absurd rfl c_x) (fun _ => ?_)
  refine lv_aload_n hx hb dL_areAlike_121 rfl (lv_at hl 0 rfl) ?_
  have hP := va_P_perm List.perm_append_comm hP
  have hD := va_D_perm List.perm_append_comm hD
  refine kV (ci := 7) (As := []) (rest := []) ⟨hx, hb, hml, hown, hts⟩ (o_historySize l D T po a k x) (cwV 0 hts gL_areAlike_X8_historySize rfl rfl rfl (by decide +kernel) ⟨Nat.le_of_ble_eq_true rfl, Nat.le_of_ble_eq_true rfl⟩) hC hP hD hS hA rfl rfl rfl hl.1 rfl (Nat.le_of_ble_eq_true rfl) dL_areAlike_122 ⟨(by show 0 + 1 + 1 ≤ 106; omega), (by show 0 + 6 + 6 ≤ 636; omega)⟩ (fun H locs hP hD hS => ?_)
  have hP : va_P D vwCl (wO T po a k x ++ wO T qo b k y) H := hP
  have hD : va_D A (wO T po a k x ++ wO T qo b k y) := hD
  refine W.eq (g2 := F0 m 125 ls [.int (nI k.2.2.1)]) rfl ?_
  refine lv_aload_n hx hb dL_areAlike_125 rfl (lv_at hl 1 rfl) ?_
  have hP := va_P_perm List.perm_append_comm hP
  have hD := va_D_perm List.perm_append_comm hD
  refine kV (ci := 7) (As := []) (rest := [.int (nI k.2.2.1)]) ⟨hx, hb, hml, hown, hts⟩ (o_historySize l D T qo b k y) (cwV 0 hts gL_areAlike_X8_historySize rfl rfl rfl (by decide +kernel) ⟨Nat.le_of_ble_eq_true rfl, Nat.le_of_ble_eq_true rfl⟩) hC hP hD hS hA rfl rfl rfl hl.1 rfl (Nat.le_of_ble_eq_true rfl) dL_areAlike_126 ⟨(by show 0 + 1 + 1 ≤ 106; omega), (by show 0 + 6 + 6 ≤ 636; omega)⟩ (fun H locs hP hD hS => ?_)
  have hP : va_P D vwCl (wO T qo b k y ++ wO T po a k x) H := hP
  have hD : va_D A (wO T qo b k y ++ wO T po a k x) := hD
  refine W.eq (g2 := F0 m 129 ls [.int (nI k.2.2.1), .int (nI k.2.2.1)]) rfl ?_
  refine lv_icmp_ne (tgt := 148) hx hb dL_areAlike_129 (by decide) (fun c_x => absurd rfl c_x) (fun _ => ?_)
  refine lv_aload_n hx hb dL_areAlike_132 rfl (lv_at hl 0 rfl) ?_
  have hP := va_P_perm List.perm_append_comm hP
  have hD := va_D_perm List.perm_append_comm hD
  refine kV (ci := 7) (As := []) (rest := []) ⟨hx, hb, hml, hown, hts⟩ (o_share l D T po a k x hK.1) (cwV 0 hts gL_areAlike_X8_loudestShare rfl rfl rfl (by decide +kernel) ⟨Nat.le_of_ble_eq_true rfl, Nat.le_of_ble_eq_true rfl⟩) hC hP hD hS hA rfl rfl rfl hl.1 rfl (Nat.le_of_ble_eq_true rfl) dL_areAlike_133 ⟨(by show 0 + 1 + 1 ≤ 106; omega), (by show 0 + 6 + 6 ≤ 636; omega)⟩ (fun H locs hP hD hS => ?_)
  have hP : va_P D vwCl (wO T po a k x ++ wO T qo b k y) H := hP
  have hD : va_D A (wO T po a k x ++ wO T qo b k y) := hD
  refine W.eq (g2 := F0 m 136 ls [.double (qShare k.1)]) rfl ?_
  refine lv_aload_n hx hb dL_areAlike_136 rfl (lv_at hl 1 rfl) ?_
  have hP := va_P_perm List.perm_append_comm hP
  have hD := va_D_perm List.perm_append_comm hD
  refine kV (ci := 7) (As := []) (rest := [.double (qShare k.1)]) ⟨hx, hb, hml, hown, hts⟩ (o_share l D T qo b k y hK.1) (cwV 0 hts gL_areAlike_X8_loudestShare rfl rfl rfl (by decide +kernel) ⟨Nat.le_of_ble_eq_true rfl, Nat.le_of_ble_eq_true rfl⟩) hC hP hD hS hA rfl rfl rfl hl.1 rfl (Nat.le_of_ble_eq_true rfl) dL_areAlike_137 ⟨(by show 0 + 1 + 1 ≤ 106; omega), (by show 0 + 6 + 6 ≤ 636; omega)⟩ (fun H locs hP hD hS => ?_)
  have hP : va_P D vwCl (wO T qo b k y ++ wO T po a k x) H := hP
  have hD : va_D A (wO T qo b k y ++ wO T po a k x) := hD
  refine W.eq (g2 := F0 m 140 ls [.double (qShare k.1), .double (qShare k.1)]) rfl ?_
  refine lv_dcmp hx hb dL_areAlike_140 ?_
  refine W.eq (g2 := F0 m 141 ls (.int 0 :: [])) (congrArg (fun z => F0 m 141 ls (.int z :: [])) (share_cmp _ : (Op.cmpValue (FP.dcmp (qShare k.1) (qShare k.1)) .l : Int32) = 0)) ?_
  refine lv_if_ne (tgt := 148) hx hb dL_areAlike_141 (by decide) (fun c_x => absurd (by decide : ((0 : Int32) = 0)) c_x) (fun _ => ?_)
  refine lv_iconst (v := 1) hx hb dL_areAlike_144 (by decide) ?_
  refine lv_goto (tgt := 149) hx hb dL_areAlike_145 (by decide) ?_
  refine lv_istore_n (lv' := [(2, .int 1), (0, .ref po), (1, .ref qo)]) hx hb dL_areAlike_149 rfl hl (by decide) rfl (fun ls hl => ?_)
  refine lv_iconst (v := 0) hx hb dL_areAlike_150 (by decide) ?_
  refine lv_istore_n (lv' := [(3, .int 0), (2, .int 1), (0, .ref po), (1, .ref qo)]) hx hb dL_areAlike_151 rfl hl (by decide) rfl (fun ls hl => ?_)
  have hP := va_P_perm List.perm_append_comm hP
  have hD := va_D_perm List.perm_append_comm hD
  exact loop_152 26 0 (by omega) _ _ _ _ _ hP hD hS (lv_sub hl [1, 0, 2, 3] rfl) (by omega) (by omega)
end PALIKE
