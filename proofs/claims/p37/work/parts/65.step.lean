section PSTEP
abbrev rL_isStep : Room := { frames := 9, cells := 2, slots := 12, locals := 236 }
set_option maxHeartbeats 4000000 in
set_option maxRecDepth 100000 in
theorem st_empty (l : Launch) (D : va_G) (T : Nat → ClassId) (hst9 : l.stackTraces = false) (po qo : Nat) (a b : Nat → Nat) (k : KS) (x y : CT) (xi yi : Int32) {M : Int} {cn : Nat} (hK : KI k M) (hM0 : 0 ≤ M) (hM : M + 40 ≤ 99999) (hsel : upN xi 24 = 0) (hcn : 1 + (upN yi 9) = cn) (hc1 : 1 ≤ cn) (hc9 : cn ≤ 9) : kWN l D T yL_isStep wsL_isStep rL_isStep 2 12 [.ref po, .ref qo, .int xi, .int yi] (wO T po a k x ++ wO T qo b k y) (some (.int 1)) (wO T po a (recQ k (emQ k.1 cn)) x ++ wO T qo b (recQ k (emQ k.1 cn)) y) := by
  refine kWN.ofP (cc := cL_isStep) (maxL := 12) (ret := some .boolean) (by decide) rfl (Nat.le_of_ble_eq_true rfl) ?_
  intro p e s m below meth c A Q ls hx hb hml hown hr hlk hts hC hP hD hS hA hl hXX hZ hE hNc hret
  have hl : lv_has ls 12 [(0, .ref po), (1, .ref qo), (2, .int xi), (3, .int yi)] := hl
  have hP : va_P D vwCl (wO T po a k x ++ wO T qo b k y) s.heap := hP
  have hD : va_D A (wO T po a k x ++ wO T qo b k y) := hD
  refine lv_iload_n hx hb dL_isStep_0 rfl (lv_at hl 2 rfl) ?_
  refine lv_iconst (v := 4) hx hb dL_isStep_1 (by decide) ?_
  refine lv_ishr hx hb dL_isStep_2 ?_
  refine lv_istore (lv' := [(4, .int (xi >>> ((4 : Int32) &&& 31))), (0, .ref po), (1, .ref qo), (2, .int xi), (3, .int yi)]) hx hb dL_isStep_3 hl (by decide) rfl (fun ls hl => ?_)
  refine lv_aload_n hx hb dL_isStep_5 rfl (lv_at hl 1 rfl) ?_
  refine kV (ci := 7) (As := []) (rest := []) ⟨hx, hb, hml, hown, hts⟩ (o_calls l D T po a k x) (cwV 0 hts gL_isStep_X8_calls rfl rfl rfl (by decide +kernel) ⟨Nat.le_of_ble_eq_true rfl, Nat.le_of_ble_eq_true rfl⟩) hC hP hD hS hA rfl rfl rfl hl.1 rfl (Nat.le_of_ble_eq_true rfl) dL_isStep_6 ⟨(Nat.zero_le _), (Nat.zero_le _)⟩ (fun H locs hP hD hS => ?_)
  have hP : va_P D vwCl (wO T po a k x ++ wO T qo b k y) H := hP
  have hD : va_D A (wO T po a k x ++ wO T qo b k y) := hD
  refine W.eq (g2 := F0 m 9 ls [.int (qSum k.1)]) rfl ?_
  refine lv_istore (lv' := [(5, .int (qSum k.1)), (4, .int (xi >>> ((4 : Int32) &&& 31))), (0, .ref po), (1, .ref qo), (2, .int xi), (3, .int yi)]) hx hb dL_isStep_9 hl (by decide) rfl (fun ls hl => ?_)
  refine lv_iload_n hx hb dL_isStep_11 rfl (lv_at hl 4 rfl) ?_
  refine lv_bipush (v := 24) hx hb dL_isStep_12 (by decide) ?_
  have hP : va_P D vwCl ([] ++ (wO T po a k x ++ wO T qo b k y)) _ := hP
  have hD : va_D A ([] ++ (wO T po a k x ++ wO T qo b k y)) := hD
  refine kS (As := [.int xi, .int 24]) (rest := []) ⟨hx, hb, hml, hown, hts⟩ (L_up l D T xi 24 (by decide) (by decide)) (va_cwS 2 hts gL_isStep_L_up rfl rfl rfl (by decide +kernel) ⟨Nat.le_of_ble_eq_true rfl, Nat.le_of_ble_eq_true rfl⟩) hC hP hD hS hA rfl hl.1 rfl (Nat.le_of_ble_eq_true rfl) dL_isStep_14 ⟨(Nat.zero_le _), (Nat.zero_le _)⟩ (fun H locs hP hD hS => ?_)
  have hP : va_P D vwCl (wO T po a k x ++ wO T qo b k y) H := hP
  have hD : va_D A (wO T po a k x ++ wO T qo b k y) := hD
  refine W.eq (g2 := F0 m 17 ls [.int (nI (upN xi 24))]) rfl ?_
  refine lv_tableIn (x := nI (upN xi 24)) (off := 55) (tgt := 72) hx hb dL_isStep_17 (by rw [hsel] <;> decide) (by rw [hsel] <;> decide) (by rw [hsel] <;> rfl) (by decide) ?_
  refine lv_iconst (v := 1) hx hb dL_isStep_72 (by decide) ?_
  refine lv_iload_n hx hb dL_isStep_73 rfl (lv_at hl 5 rfl) ?_
  refine lv_bipush (v := 9) hx hb dL_isStep_74 (by decide) ?_
  have hP : va_P D vwCl ([] ++ (wO T po a k x ++ wO T qo b k y)) _ := hP
  have hD : va_D A ([] ++ (wO T po a k x ++ wO T qo b k y)) := hD
  refine kS (As := [.int yi, .int 9]) (rest := [.int 1]) ⟨hx, hb, hml, hown, hts⟩ (L_up l D T yi 9 (by decide) (by decide)) (va_cwS 2 hts gL_isStep_L_up rfl rfl rfl (by decide +kernel) ⟨Nat.le_of_ble_eq_true rfl, Nat.le_of_ble_eq_true rfl⟩) hC hP hD hS hA rfl hl.1 rfl (Nat.le_of_ble_eq_true rfl) dL_isStep_76 ⟨(Nat.zero_le _), (Nat.zero_le _)⟩ (fun H locs hP hD hS => ?_)
  have hP : va_P D vwCl (wO T po a k x ++ wO T qo b k y) H := hP
  have hD : va_D A (wO T po a k x ++ wO T qo b k y) := hD
  refine W.eq (g2 := F0 m 79 ls [.int (nI (upN yi 9)), .int 1]) rfl ?_
  refine lv_iadd hx hb dL_isStep_79 ?_
  refine W.eq (g2 := F0 m 80 ls (.int (nI (1 + (upN yi 9))) :: [])) (congrArg (fun z => F0 m 80 ls (.int z :: [])) (nI_add 1 (upN yi 9))) ?_
  refine W.eq (g2 := F0 m 80 ls (.int (nI cn) :: [])) (congrArg (fun z => F0 m 80 ls (.int z :: [])) (by rw [hcn] : (nI (1 + (upN yi 9)) : Int32) = nI cn)) ?_
  refine lv_istore (lv' := [(6, .int (nI cn)), (5, .int (qSum k.1)), (4, .int (xi >>> ((4 : Int32) &&& 31))), (0, .ref po), (1, .ref qo), (2, .int xi), (3, .int yi)]) hx hb dL_isStep_80 hl (by decide) rfl (fun ls hl => ?_)
  refine lv_aload_n hx hb dL_isStep_82 rfl (lv_at hl 3 rfl) ?_
  refine lv_iload hx hb dL_isStep_83 (lv_at hl 0 rfl) ?_
  refine kWT (As := [.ref po, .int (nI cn)]) (rest := []) ⟨hx, hb, hml, hown, hts⟩ (L_empty l D T po a k x cn hK hc1 hc9) (vx_cwSW 2 hts gL_isStep_L_empty rfl rfl rfl (by decide +kernel) ⟨Nat.le_of_ble_eq_true rfl, Nat.le_of_ble_eq_true rfl⟩) hC hXX hZ hE hNc hP hD hS hA rfl hl.1 rfl (Nat.le_of_ble_eq_true rfl) dL_isStep_85 ⟨(Nat.zero_le _), (Nat.zero_le _)⟩ (fun H locs hP hD hS => ?_)
  have hP : va_P D vwCl (wO T po a (recQ k (emQ k.1 cn)) x ++ wO T qo b k y) H := hP
  have hD : va_D A (wO T po a (recQ k (emQ k.1 cn)) x ++ wO T qo b k y) := hD
  refine W.eq (g2 := F0 m 88 ls [.int (nI (qCap k.1))]) rfl ?_
  refine lv_aload_n hx hb dL_isStep_88 rfl (lv_at hl 4 rfl) ?_
  refine lv_iload hx hb dL_isStep_89 (lv_at hl 0 rfl) ?_
  have hP := va_P_perm List.perm_append_comm hP
  have hD := va_D_perm List.perm_append_comm hD
  refine kWT (As := [.ref qo, .int (nI cn)]) (rest := [.int (nI (qCap k.1))]) ⟨hx, hb, hml, hown, hts⟩ (L_empty l D T qo b k y cn hK hc1 hc9) (vx_cwSW 2 hts gL_isStep_L_empty rfl rfl rfl (by decide +kernel) ⟨Nat.le_of_ble_eq_true rfl, Nat.le_of_ble_eq_true rfl⟩) hC hXX hZ hE hNc hP hD hS hA rfl hl.1 rfl (Nat.le_of_ble_eq_true rfl) dL_isStep_91 ⟨(by show 0 + 0 ≤ 2; omega), (by show 0 + 0 ≤ 12; omega)⟩ (fun H locs hP hD hS => ?_)
  have hP : va_P D vwCl (wO T qo b (recQ k (emQ k.1 cn)) y ++ wO T po a (recQ k (emQ k.1 cn)) x) H := hP
  have hD : va_D A (wO T qo b (recQ k (emQ k.1 cn)) y ++ wO T po a (recQ k (emQ k.1 cn)) x) := hD
  refine W.eq (g2 := F0 m 94 ls [.int (nI (qCap k.1)), .int (nI (qCap k.1))]) rfl ?_
  refine lv_icmp_ne (tgt := 122) hx hb dL_isStep_94 (by decide) (fun c_x => absurd rfl c_x) (fun _ => ?_)
  refine lv_aload_n hx hb dL_isStep_97 rfl (lv_at hl 3 rfl) ?_
  have hP := va_P_perm List.perm_append_comm hP
  have hD := va_D_perm List.perm_append_comm hD
  refine kV (ci := 7) (As := []) (rest := []) ⟨hx, hb, hml, hown, hts⟩ (o_calls l D T po a (recQ k (emQ k.1 cn)) x) (cwV 0 hts gL_isStep_X8_calls rfl rfl rfl (by decide +kernel) ⟨Nat.le_of_ble_eq_true rfl, Nat.le_of_ble_eq_true rfl⟩) hC hP hD hS hA rfl rfl rfl hl.1 rfl (Nat.le_of_ble_eq_true rfl) dL_isStep_98 ⟨(by show 0 + 0 + 0 ≤ 2; omega), (by show 0 + 0 + 0 ≤ 12; omega)⟩ (fun H locs hP hD hS => ?_)
  have hP : va_P D vwCl (wO T po a (recQ k (emQ k.1 cn)) x ++ wO T qo b (recQ k (emQ k.1 cn)) y) H := hP
  have hD : va_D A (wO T po a (recQ k (emQ k.1 cn)) x ++ wO T qo b (recQ k (emQ k.1 cn)) y) := hD
  refine W.eq (g2 := F0 m 101 ls [.int (qSum (recQ k (emQ k.1 cn)).1)]) rfl ?_
  refine lv_if_ne (tgt := 122) hx hb dL_isStep_101 (by decide) (fun c_x => absurd (f_sumE _ _) c_x) (fun _ => ?_)
  refine lv_aload_n hx hb dL_isStep_104 rfl (lv_at hl 3 rfl) ?_
  refine kV (ci := 7) (As := []) (rest := []) ⟨hx, hb, hml, hown, hts⟩ (o_counters l D T po a (recQ k (emQ k.1 cn)) x) (cwV 0 hts gL_isStep_X8_counters rfl rfl rfl (by decide +kernel) ⟨Nat.le_of_ble_eq_true rfl, Nat.le_of_ble_eq_true rfl⟩) hC hP hD hS hA rfl rfl rfl hl.1 rfl (Nat.le_of_ble_eq_true rfl) dL_isStep_105 ⟨(by show 0 + 0 + 0 ≤ 2; omega), (by show 0 + 0 + 0 ≤ 12; omega)⟩ (fun H locs hP hD hS => ?_)
  have hP : va_P D vwCl (wO T po a (recQ k (emQ k.1 cn)) x ++ wO T qo b (recQ k (emQ k.1 cn)) y) H := hP
  have hD : va_D A (wO T po a (recQ k (emQ k.1 cn)) x ++ wO T qo b (recQ k (emQ k.1 cn)) y) := hD
  refine W.eq (g2 := F0 m 108 ls [.int (qSize (recQ k (emQ k.1 cn)).1)]) rfl ?_
  refine lv_if_ne (tgt := 122) hx hb dL_isStep_108 (by decide) (fun c_x => absurd rfl c_x) (fun _ => ?_)
  refine lv_aload_n hx hb dL_isStep_111 rfl (lv_at hl 3 rfl) ?_
  refine kV (ci := 7) (As := []) (rest := []) ⟨hx, hb, hml, hown, hts⟩ (o_hasAside l D T po a (recQ k (emQ k.1 cn)) x) (cwV 0 hts gL_isStep_X8_hasAside rfl rfl rfl (by decide +kernel) ⟨Nat.le_of_ble_eq_true rfl, Nat.le_of_ble_eq_true rfl⟩) hC hP hD hS hA rfl rfl rfl hl.1 rfl (Nat.le_of_ble_eq_true rfl) dL_isStep_112 ⟨(by show 0 + 0 + 0 ≤ 2; omega), (by show 0 + 0 + 0 ≤ 12; omega)⟩ (fun H locs hP hD hS => ?_)
  have hP : va_P D vwCl (wO T po a (recQ k (emQ k.1 cn)) x ++ wO T qo b (recQ k (emQ k.1 cn)) y) H := hP
  have hD : va_D A (wO T po a (recQ k (emQ k.1 cn)) x ++ wO T qo b (recQ k (emQ k.1 cn)) y) := hD
  refine W.eq (g2 := F0 m 115 ls [.int (bI (qVia (recQ k (emQ k.1 cn)).1))]) rfl ?_
  refine lv_if_ne (tgt := 122) hx hb dL_isStep_115 (by decide) (fun c_x => absurd rfl c_x) (fun _ => ?_)
  refine lv_iconst (v := 1) hx hb dL_isStep_118 (by decide) ?_
  refine lv_goto (tgt := 123) hx hb dL_isStep_119 (by decide) ?_
  exact hret _ _ _ _ _ _ _ (by show 0 + 0 + 0 ≤ 2; omega) (by show 0 + 0 + 0 ≤ 12; omega) (fun Qc free hq hf => W.zret hx hb hr rfl hq hf dL_isStep_123 hlk) hP hD hS
set_option maxHeartbeats 4000000 in
set_option maxRecDepth 100000 in
theorem st_aside (l : Launch) (D : va_G) (T : Nat → ClassId) (hst9 : l.stackTraces = false) (po qo : Nat) (a b : Nat → Nat) (k : KS) (x y : CT) (xi yi : Int32) {M : Int} (hK : KI k M) (hM0 : 0 ≤ M) (hM : M + 40 ≤ 99999) (hsel : upN xi 24 = 1 ∨ upN xi 24 = 2) : kWN l D T yL_isStep wsL_isStep rL_isStep 2 12 [.ref po, .ref qo, .int xi, .int yi] (wO T po a k x ++ wO T qo b k y) (some (.int 1)) (wO T po a (recQ k (paQ k.1)) x ++ wO T qo b (recQ k (paQ k.1)) y) := by
  refine kWN.ofP (cc := cL_isStep) (maxL := 12) (ret := some .boolean) (by decide) rfl (Nat.le_of_ble_eq_true rfl) ?_
  intro p e s m below meth c A Q ls hx hb hml hown hr hlk hts hC hP hD hS hA hl hXX hZ hE hNc hret
  have hl : lv_has ls 12 [(0, .ref po), (1, .ref qo), (2, .int xi), (3, .int yi)] := hl
  have hP : va_P D vwCl (wO T po a k x ++ wO T qo b k y) s.heap := hP
  have hD : va_D A (wO T po a k x ++ wO T qo b k y) := hD
  refine lv_iload_n hx hb dL_isStep_0 rfl (lv_at hl 2 rfl) ?_
  refine lv_iconst (v := 4) hx hb dL_isStep_1 (by decide) ?_
  refine lv_ishr hx hb dL_isStep_2 ?_
  refine lv_istore (lv' := [(4, .int (xi >>> ((4 : Int32) &&& 31))), (0, .ref po), (1, .ref qo), (2, .int xi), (3, .int yi)]) hx hb dL_isStep_3 hl (by decide) rfl (fun ls hl => ?_)
  refine lv_aload_n hx hb dL_isStep_5 rfl (lv_at hl 1 rfl) ?_
  refine kV (ci := 7) (As := []) (rest := []) ⟨hx, hb, hml, hown, hts⟩ (o_calls l D T po a k x) (cwV 0 hts gL_isStep_X8_calls rfl rfl rfl (by decide +kernel) ⟨Nat.le_of_ble_eq_true rfl, Nat.le_of_ble_eq_true rfl⟩) hC hP hD hS hA rfl rfl rfl hl.1 rfl (Nat.le_of_ble_eq_true rfl) dL_isStep_6 ⟨(Nat.zero_le _), (Nat.zero_le _)⟩ (fun H locs hP hD hS => ?_)
  have hP : va_P D vwCl (wO T po a k x ++ wO T qo b k y) H := hP
  have hD : va_D A (wO T po a k x ++ wO T qo b k y) := hD
  refine W.eq (g2 := F0 m 9 ls [.int (qSum k.1)]) rfl ?_
  refine lv_istore (lv' := [(5, .int (qSum k.1)), (4, .int (xi >>> ((4 : Int32) &&& 31))), (0, .ref po), (1, .ref qo), (2, .int xi), (3, .int yi)]) hx hb dL_isStep_9 hl (by decide) rfl (fun ls hl => ?_)
  refine lv_iload_n hx hb dL_isStep_11 rfl (lv_at hl 4 rfl) ?_
  refine lv_bipush (v := 24) hx hb dL_isStep_12 (by decide) ?_
  have hP : va_P D vwCl ([] ++ (wO T po a k x ++ wO T qo b k y)) _ := hP
  have hD : va_D A ([] ++ (wO T po a k x ++ wO T qo b k y)) := hD
  refine kS (As := [.int xi, .int 24]) (rest := []) ⟨hx, hb, hml, hown, hts⟩ (L_up l D T xi 24 (by decide) (by decide)) (va_cwS 2 hts gL_isStep_L_up rfl rfl rfl (by decide +kernel) ⟨Nat.le_of_ble_eq_true rfl, Nat.le_of_ble_eq_true rfl⟩) hC hP hD hS hA rfl hl.1 rfl (Nat.le_of_ble_eq_true rfl) dL_isStep_14 ⟨(Nat.zero_le _), (Nat.zero_le _)⟩ (fun H locs hP hD hS => ?_)
  have hP : va_P D vwCl (wO T po a k x ++ wO T qo b k y) H := hP
  have hD : va_D A (wO T po a k x ++ wO T qo b k y) := hD
  refine W.eq (g2 := F0 m 17 ls [.int (nI (upN xi 24))]) rfl ?_
  refine lv_tableIn (x := nI (upN xi 24)) (off := 107) (tgt := 124) hx hb dL_isStep_17 (by rcases hsel with h9 | h9 <;> rw [h9] <;> decide) (by rcases hsel with h9 | h9 <;> rw [h9] <;> decide) (by rcases hsel with h9 | h9 <;> rw [h9] <;> rfl) (by decide) ?_
  refine lv_aload_n hx hb dL_isStep_124 rfl (lv_at hl 2 rfl) ?_
  refine kV (ci := 7) (As := []) (rest := []) ⟨hx, hb, hml, hown, hts⟩ (o_putAside l D T po a k x hK.2.1 hK.2.2.1) (cwV 0 hts gL_isStep_X8_putAside rfl rfl rfl (by decide +kernel) ⟨Nat.le_of_ble_eq_true rfl, Nat.le_of_ble_eq_true rfl⟩) hC hP hD hS hA rfl rfl rfl hl.1 rfl (Nat.le_of_ble_eq_true rfl) dL_isStep_125 ⟨(Nat.zero_le _), (Nat.zero_le _)⟩ (fun H locs hP hD hS => ?_)
  have hP : va_P D vwCl (wO T po a (recQ k (paQ k.1)) x ++ wO T qo b k y) H := hP
  have hD : va_D A (wO T po a (recQ k (paQ k.1)) x ++ wO T qo b k y) := hD
  refine W.eq (g2 := F0 m 128 ls [.int (qSum k.1)]) rfl ?_
  refine lv_iload hx hb dL_isStep_128 (lv_at hl 0 rfl) ?_
  refine lv_icmp_ne (tgt := 160) hx hb dL_isStep_130 (by decide) (fun c_x => absurd rfl c_x) (fun _ => ?_)
  refine lv_aload_n hx hb dL_isStep_133 rfl (lv_at hl 3 rfl) ?_
  have hP := va_P_perm List.perm_append_comm hP
  have hD := va_D_perm List.perm_append_comm hD
  refine kV (ci := 7) (As := []) (rest := []) ⟨hx, hb, hml, hown, hts⟩ (o_putAside l D T qo b k y hK.2.1 hK.2.2.1) (cwV 0 hts gL_isStep_X8_putAside rfl rfl rfl (by decide +kernel) ⟨Nat.le_of_ble_eq_true rfl, Nat.le_of_ble_eq_true rfl⟩) hC hP hD hS hA rfl rfl rfl hl.1 rfl (Nat.le_of_ble_eq_true rfl) dL_isStep_134 ⟨(Nat.zero_le _), (Nat.zero_le _)⟩ (fun H locs hP hD hS => ?_)
  have hP : va_P D vwCl (wO T qo b (recQ k (paQ k.1)) y ++ wO T po a (recQ k (paQ k.1)) x) H := hP
  have hD : va_D A (wO T qo b (recQ k (paQ k.1)) y ++ wO T po a (recQ k (paQ k.1)) x) := hD
  refine W.eq (g2 := F0 m 137 ls [.int (qSum k.1)]) rfl ?_
  refine lv_iload hx hb dL_isStep_137 (lv_at hl 0 rfl) ?_
  refine lv_icmp_ne (tgt := 160) hx hb dL_isStep_139 (by decide) (fun c_x => absurd rfl c_x) (fun _ => ?_)
  refine lv_aload_n hx hb dL_isStep_142 rfl (lv_at hl 2 rfl) ?_
  have hP := va_P_perm List.perm_append_comm hP
  have hD := va_D_perm List.perm_append_comm hD
  refine kV (ci := 7) (As := []) (rest := []) ⟨hx, hb, hml, hown, hts⟩ (o_calls l D T po a (recQ k (paQ k.1)) x) (cwV 0 hts gL_isStep_X8_calls rfl rfl rfl (by decide +kernel) ⟨Nat.le_of_ble_eq_true rfl, Nat.le_of_ble_eq_true rfl⟩) hC hP hD hS hA rfl rfl rfl hl.1 rfl (Nat.le_of_ble_eq_true rfl) dL_isStep_143 ⟨(Nat.zero_le _), (Nat.zero_le _)⟩ (fun H locs hP hD hS => ?_)
  have hP : va_P D vwCl (wO T po a (recQ k (paQ k.1)) x ++ wO T qo b (recQ k (paQ k.1)) y) H := hP
  have hD : va_D A (wO T po a (recQ k (paQ k.1)) x ++ wO T qo b (recQ k (paQ k.1)) y) := hD
  refine W.eq (g2 := F0 m 146 ls [.int (qSum (recQ k (paQ k.1)).1)]) rfl ?_
  refine lv_if_ne (tgt := 160) hx hb dL_isStep_146 (by decide) (fun c_x => absurd (f_sumP _) c_x) (fun _ => ?_)
  refine lv_aload_n hx hb dL_isStep_149 rfl (lv_at hl 2 rfl) ?_
  refine kV (ci := 7) (As := []) (rest := []) ⟨hx, hb, hml, hown, hts⟩ (o_wear l D T po a (recQ k (paQ k.1)) x) (cwV 0 hts gL_isStep_X8_wear rfl rfl rfl (by decide +kernel) ⟨Nat.le_of_ble_eq_true rfl, Nat.le_of_ble_eq_true rfl⟩) hC hP hD hS hA rfl rfl rfl hl.1 rfl (Nat.le_of_ble_eq_true rfl) dL_isStep_150 ⟨(Nat.zero_le _), (Nat.zero_le _)⟩ (fun H locs hP hD hS => ?_)
  have hP : va_P D vwCl (wO T po a (recQ k (paQ k.1)) x ++ wO T qo b (recQ k (paQ k.1)) y) H := hP
  have hD : va_D A (wO T po a (recQ k (paQ k.1)) x ++ wO T qo b (recQ k (paQ k.1)) y) := hD
  refine W.eq (g2 := F0 m 153 ls [.int (qWear (recQ k (paQ k.1)).1)]) rfl ?_
  refine lv_if_ne (tgt := 160) hx hb dL_isStep_153 (by decide) (fun c_x => absurd rfl c_x) (fun _ => ?_)
  refine lv_iconst (v := 1) hx hb dL_isStep_156 (by decide) ?_
  refine lv_goto (tgt := 161) hx hb dL_isStep_157 (by decide) ?_
  exact hret _ _ _ _ _ _ _ (Nat.zero_le _) (Nat.zero_le _) (fun Qc free hq hf => W.zret hx hb hr rfl hq hf dL_isStep_161 hlk) hP hD hS
set_option maxHeartbeats 4000000 in
set_option maxRecDepth 100000 in
theorem st_merge1 (l : Launch) (D : va_G) (T : Nat → ClassId) (hst9 : l.stackTraces = false) (po qo : Nat) (a b : Nat → Nat) (k : KS) (x y : CT) (xi yi : Int32) {M : Int} (hK : KI k M) (hM0 : 0 ≤ M) (hM : M + 40 ≤ 99999) (hsel : upN xi 24 = 3 ∨ upN xi 24 = 4 ∨ upN xi 24 = 5) (hv : qVia k.1 = true) : kWN l D T yL_isStep wsL_isStep rL_isStep 2 12 [.ref po, .ref qo, .int xi, .int yi] (wO T po a k x ++ wO T qo b k y) (some (.int 1)) (wO T po a (recQ k (mgQ k.1)) x ++ wO T qo b (recQ k (mgQ k.1)) y) := by
  refine kWN.ofP (cc := cL_isStep) (maxL := 12) (ret := some .boolean) (by decide) rfl (Nat.le_of_ble_eq_true rfl) ?_
  intro p e s m below meth c A Q ls hx hb hml hown hr hlk hts hC hP hD hS hA hl hXX hZ hE hNc hret
  have hl : lv_has ls 12 [(0, .ref po), (1, .ref qo), (2, .int xi), (3, .int yi)] := hl
  have hP : va_P D vwCl (wO T po a k x ++ wO T qo b k y) s.heap := hP
  have hD : va_D A (wO T po a k x ++ wO T qo b k y) := hD
  refine lv_iload_n hx hb dL_isStep_0 rfl (lv_at hl 2 rfl) ?_
  refine lv_iconst (v := 4) hx hb dL_isStep_1 (by decide) ?_
  refine lv_ishr hx hb dL_isStep_2 ?_
  refine lv_istore (lv' := [(4, .int (xi >>> ((4 : Int32) &&& 31))), (0, .ref po), (1, .ref qo), (2, .int xi), (3, .int yi)]) hx hb dL_isStep_3 hl (by decide) rfl (fun ls hl => ?_)
  refine lv_aload_n hx hb dL_isStep_5 rfl (lv_at hl 1 rfl) ?_
  refine kV (ci := 7) (As := []) (rest := []) ⟨hx, hb, hml, hown, hts⟩ (o_calls l D T po a k x) (cwV 0 hts gL_isStep_X8_calls rfl rfl rfl (by decide +kernel) ⟨Nat.le_of_ble_eq_true rfl, Nat.le_of_ble_eq_true rfl⟩) hC hP hD hS hA rfl rfl rfl hl.1 rfl (Nat.le_of_ble_eq_true rfl) dL_isStep_6 ⟨(Nat.zero_le _), (Nat.zero_le _)⟩ (fun H locs hP hD hS => ?_)
  have hP : va_P D vwCl (wO T po a k x ++ wO T qo b k y) H := hP
  have hD : va_D A (wO T po a k x ++ wO T qo b k y) := hD
  refine W.eq (g2 := F0 m 9 ls [.int (qSum k.1)]) rfl ?_
  refine lv_istore (lv' := [(5, .int (qSum k.1)), (4, .int (xi >>> ((4 : Int32) &&& 31))), (0, .ref po), (1, .ref qo), (2, .int xi), (3, .int yi)]) hx hb dL_isStep_9 hl (by decide) rfl (fun ls hl => ?_)
  refine lv_iload_n hx hb dL_isStep_11 rfl (lv_at hl 4 rfl) ?_
  refine lv_bipush (v := 24) hx hb dL_isStep_12 (by decide) ?_
  have hP : va_P D vwCl ([] ++ (wO T po a k x ++ wO T qo b k y)) _ := hP
  have hD : va_D A ([] ++ (wO T po a k x ++ wO T qo b k y)) := hD
  refine kS (As := [.int xi, .int 24]) (rest := []) ⟨hx, hb, hml, hown, hts⟩ (L_up l D T xi 24 (by decide) (by decide)) (va_cwS 2 hts gL_isStep_L_up rfl rfl rfl (by decide +kernel) ⟨Nat.le_of_ble_eq_true rfl, Nat.le_of_ble_eq_true rfl⟩) hC hP hD hS hA rfl hl.1 rfl (Nat.le_of_ble_eq_true rfl) dL_isStep_14 ⟨(Nat.zero_le _), (Nat.zero_le _)⟩ (fun H locs hP hD hS => ?_)
  have hP : va_P D vwCl (wO T po a k x ++ wO T qo b k y) H := hP
  have hD : va_D A (wO T po a k x ++ wO T qo b k y) := hD
  refine W.eq (g2 := F0 m 17 ls [.int (nI (upN xi 24))]) rfl ?_
  refine lv_tableIn (x := nI (upN xi 24)) (off := 145) (tgt := 162) hx hb dL_isStep_17 (by rcases hsel with h9 | h9 | h9 <;> rw [h9] <;> decide) (by rcases hsel with h9 | h9 | h9 <;> rw [h9] <;> decide) (by rcases hsel with h9 | h9 | h9 <;> rw [h9] <;> rfl) (by decide) ?_
  refine lv_aload_n hx hb dL_isStep_162 rfl (lv_at hl 2 rfl) ?_
  refine kV (ci := 7) (As := []) (rest := []) ⟨hx, hb, hml, hown, hts⟩ (o_hasAside l D T po a k x) (cwV 0 hts gL_isStep_X8_hasAside rfl rfl rfl (by decide +kernel) ⟨Nat.le_of_ble_eq_true rfl, Nat.le_of_ble_eq_true rfl⟩) hC hP hD hS hA rfl rfl rfl hl.1 rfl (Nat.le_of_ble_eq_true rfl) dL_isStep_163 ⟨(Nat.zero_le _), (Nat.zero_le _)⟩ (fun H locs hP hD hS => ?_)
  have hP : va_P D vwCl (wO T po a k x ++ wO T qo b k y) H := hP
  have hD : va_D A (wO T po a k x ++ wO T qo b k y) := hD
  refine W.eq (g2 := F0 m 166 ls [.int (bI (qVia k.1))]) rfl ?_
  refine lv_istore (lv' := [(6, .int (bI (qVia k.1))), (5, .int (qSum k.1)), (4, .int (xi >>> ((4 : Int32) &&& 31))), (0, .ref po), (1, .ref qo), (2, .int xi), (3, .int yi)]) hx hb dL_isStep_166 hl (by decide) rfl (fun ls hl => ?_)
  refine lv_aload_n hx hb dL_isStep_168 rfl (lv_at hl 3 rfl) ?_
  refine kV (ci := 7) (As := []) (rest := []) ⟨hx, hb, hml, hown, hts⟩ (o_wear l D T po a k x) (cwV 0 hts gL_isStep_X8_wear rfl rfl rfl (by decide +kernel) ⟨Nat.le_of_ble_eq_true rfl, Nat.le_of_ble_eq_true rfl⟩) hC hP hD hS hA rfl rfl rfl hl.1 rfl (Nat.le_of_ble_eq_true rfl) dL_isStep_169 ⟨(Nat.zero_le _), (Nat.zero_le _)⟩ (fun H locs hP hD hS => ?_)
  have hP : va_P D vwCl (wO T po a k x ++ wO T qo b k y) H := hP
  have hD : va_D A (wO T po a k x ++ wO T qo b k y) := hD
  refine W.eq (g2 := F0 m 172 ls [.int (qWear k.1)]) rfl ?_
  refine lv_istore (lv' := [(7, .int (qWear k.1)), (6, .int (bI (qVia k.1))), (5, .int (qSum k.1)), (4, .int (xi >>> ((4 : Int32) &&& 31))), (0, .ref po), (1, .ref qo), (2, .int xi), (3, .int yi)]) hx hb dL_isStep_172 hl (by decide) rfl (fun ls hl => ?_)
  refine lv_aload_n hx hb dL_isStep_174 rfl (lv_at hl 4 rfl) ?_
  refine kWT (As := [.ref po]) (rest := []) ⟨hx, hb, hml, hown, hts⟩ (L_merge l D T po a k x hK (by omega) hv) (vx_cwSW 1 hts gL_isStep_L_merge rfl rfl rfl (by decide +kernel) ⟨Nat.le_of_ble_eq_true rfl, Nat.le_of_ble_eq_true rfl⟩) hC hXX hZ hE hNc hP hD hS hA rfl hl.1 rfl (Nat.le_of_ble_eq_true rfl) dL_isStep_175 ⟨(by show 0 + 1 ≤ 2; omega), (by show 0 + 6 ≤ 12; omega)⟩ (fun H locs hP hD hS => ?_)
  have hP : va_P D vwCl (wO T po a (recQ k (mgQ k.1)) x ++ wO T qo b k y) H := hP
  have hD : va_D A (wO T po a (recQ k (mgQ k.1)) x ++ wO T qo b k y) := hD
  refine W.eq (g2 := F0 m 178 ls [.int (qSum (mgQ k.1))]) rfl ?_
  refine lv_istore (lv' := [(8, .int (qSum (mgQ k.1))), (7, .int (qWear k.1)), (6, .int (bI (qVia k.1))), (5, .int (qSum k.1)), (4, .int (xi >>> ((4 : Int32) &&& 31))), (0, .ref po), (1, .ref qo), (2, .int xi), (3, .int yi)]) hx hb dL_isStep_178 hl (by decide) rfl (fun ls hl => ?_)
  refine lv_iload hx hb dL_isStep_180 (lv_at hl 0 rfl) ?_
  refine lv_aload_n hx hb dL_isStep_182 rfl (lv_at hl 6 rfl) ?_
  have hP := va_P_perm List.perm_append_comm hP
  have hD := va_D_perm List.perm_append_comm hD
  refine kWT (As := [.ref qo]) (rest := [.int (qSum (mgQ k.1))]) ⟨hx, hb, hml, hown, hts⟩ (L_merge l D T qo b k y hK (by omega) hv) (vx_cwSW 1 hts gL_isStep_L_merge rfl rfl rfl (by decide +kernel) ⟨Nat.le_of_ble_eq_true rfl, Nat.le_of_ble_eq_true rfl⟩) hC hXX hZ hE hNc hP hD hS hA rfl hl.1 rfl (Nat.le_of_ble_eq_true rfl) dL_isStep_183 ⟨(by show 0 + 1 + 1 ≤ 2; omega), (by show 0 + 6 + 6 ≤ 12; omega)⟩ (fun H locs hP hD hS => ?_)
  have hP : va_P D vwCl (wO T qo b (recQ k (mgQ k.1)) y ++ wO T po a (recQ k (mgQ k.1)) x) H := hP
  have hD : va_D A (wO T qo b (recQ k (mgQ k.1)) y ++ wO T po a (recQ k (mgQ k.1)) x) := hD
  refine W.eq (g2 := F0 m 186 ls [.int (qSum (mgQ k.1)), .int (qSum (mgQ k.1))]) rfl ?_
  refine lv_icmp_ne (tgt := 231) hx hb dL_isStep_186 (by decide) (fun c_x => absurd rfl c_x) (fun _ => ?_)
  refine lv_iload hx hb dL_isStep_189 (lv_at hl 2 rfl) ?_
  refine lv_if_eq (tgt := 220) hx hb dL_isStep_191 (by decide) (fun c_x => absurd c_x (by rw [hv]; decide)) (fun _ => ?_)
  refine lv_iload hx hb dL_isStep_194 (lv_at hl 0 rfl) ?_
  refine lv_iload hx hb dL_isStep_196 (lv_at hl 3 rfl) ?_
  refine lv_icmp_lt (tgt := 231) hx hb dL_isStep_198 (by decide) (fun c_x => absurd c_x (f_mgS hK.1 (by omega) hv)) (fun _ => ?_)
  refine lv_aload_n hx hb dL_isStep_201 rfl (lv_at hl 5 rfl) ?_
  have hP := va_P_perm List.perm_append_comm hP
  have hD := va_D_perm List.perm_append_comm hD
  refine kV (ci := 7) (As := []) (rest := []) ⟨hx, hb, hml, hown, hts⟩ (o_wear l D T po a (recQ k (mgQ k.1)) x) (cwV 0 hts gL_isStep_X8_wear rfl rfl rfl (by decide +kernel) ⟨Nat.le_of_ble_eq_true rfl, Nat.le_of_ble_eq_true rfl⟩) hC hP hD hS hA rfl rfl rfl hl.1 rfl (Nat.le_of_ble_eq_true rfl) dL_isStep_202 ⟨(by show 0 + 1 + 1 ≤ 2; omega), (by show 0 + 6 + 6 ≤ 12; omega)⟩ (fun H locs hP hD hS => ?_)
  have hP : va_P D vwCl (wO T po a (recQ k (mgQ k.1)) x ++ wO T qo b (recQ k (mgQ k.1)) y) H := hP
  have hD : va_D A (wO T po a (recQ k (mgQ k.1)) x ++ wO T qo b (recQ k (mgQ k.1)) y) := hD
  refine W.eq (g2 := F0 m 205 ls [.int (qWear (recQ k (mgQ k.1)).1)]) rfl ?_
  refine lv_iload hx hb dL_isStep_205 (lv_at hl 1 rfl) ?_
  refine lv_icmp_lt (tgt := 231) hx hb dL_isStep_207 (by decide) (fun c_x => absurd c_x (f_mgW hK.1 (by omega) hv)) (fun _ => ?_)
  refine lv_aload_n hx hb dL_isStep_210 rfl (lv_at hl 5 rfl) ?_
  refine kV (ci := 7) (As := []) (rest := []) ⟨hx, hb, hml, hown, hts⟩ (o_hasAside l D T po a (recQ k (mgQ k.1)) x) (cwV 0 hts gL_isStep_X8_hasAside rfl rfl rfl (by decide +kernel) ⟨Nat.le_of_ble_eq_true rfl, Nat.le_of_ble_eq_true rfl⟩) hC hP hD hS hA rfl rfl rfl hl.1 rfl (Nat.le_of_ble_eq_true rfl) dL_isStep_211 ⟨(by show 0 + 1 + 1 ≤ 2; omega), (by show 0 + 6 + 6 ≤ 12; omega)⟩ (fun H locs hP hD hS => ?_)
  have hP : va_P D vwCl (wO T po a (recQ k (mgQ k.1)) x ++ wO T qo b (recQ k (mgQ k.1)) y) H := hP
  have hD : va_D A (wO T po a (recQ k (mgQ k.1)) x ++ wO T qo b (recQ k (mgQ k.1)) y) := hD
  refine W.eq (g2 := F0 m 214 ls [.int (bI (qVia (recQ k (mgQ k.1)).1))]) rfl ?_
  refine lv_if_ne (tgt := 231) hx hb dL_isStep_214 (by decide) (fun c_x => absurd rfl c_x) (fun _ => ?_)
  refine lv_goto (tgt := 227) hx hb dL_isStep_217 (by decide) ?_
  refine lv_iconst (v := 1) hx hb dL_isStep_227 (by decide) ?_
  refine lv_goto (tgt := 232) hx hb dL_isStep_228 (by decide) ?_
  exact hret _ _ _ _ _ _ _ (by show 0 + 1 + 1 ≤ 2; omega) (by show 0 + 6 + 6 ≤ 12; omega) (fun Qc free hq hf => W.zret hx hb hr rfl hq hf dL_isStep_232 hlk) hP hD hS
set_option maxHeartbeats 4000000 in
set_option maxRecDepth 100000 in
theorem st_merge0 (l : Launch) (D : va_G) (T : Nat → ClassId) (hst9 : l.stackTraces = false) (po qo : Nat) (a b : Nat → Nat) (k : KS) (x y : CT) (xi yi : Int32) {M : Int} (hK : KI k M) (hM0 : 0 ≤ M) (hM : M + 40 ≤ 99999) (hsel : upN xi 24 = 3 ∨ upN xi 24 = 4 ∨ upN xi 24 = 5) (hv : qVia k.1 = false) : kWN l D T yL_isStep wsL_isStep rL_isStep 2 12 [.ref po, .ref qo, .int xi, .int yi] (wO T po a k x ++ wO T qo b k y) (some (.int 1)) (wO T po a k x ++ wO T qo b k y) := by
  refine kWN.ofP (cc := cL_isStep) (maxL := 12) (ret := some .boolean) (by decide) rfl (Nat.le_of_ble_eq_true rfl) ?_
  intro p e s m below meth c A Q ls hx hb hml hown hr hlk hts hC hP hD hS hA hl hXX hZ hE hNc hret
  have hl : lv_has ls 12 [(0, .ref po), (1, .ref qo), (2, .int xi), (3, .int yi)] := hl
  have hP : va_P D vwCl (wO T po a k x ++ wO T qo b k y) s.heap := hP
  have hD : va_D A (wO T po a k x ++ wO T qo b k y) := hD
  refine lv_iload_n hx hb dL_isStep_0 rfl (lv_at hl 2 rfl) ?_
  refine lv_iconst (v := 4) hx hb dL_isStep_1 (by decide) ?_
  refine lv_ishr hx hb dL_isStep_2 ?_
  refine lv_istore (lv' := [(4, .int (xi >>> ((4 : Int32) &&& 31))), (0, .ref po), (1, .ref qo), (2, .int xi), (3, .int yi)]) hx hb dL_isStep_3 hl (by decide) rfl (fun ls hl => ?_)
  refine lv_aload_n hx hb dL_isStep_5 rfl (lv_at hl 1 rfl) ?_
  refine kV (ci := 7) (As := []) (rest := []) ⟨hx, hb, hml, hown, hts⟩ (o_calls l D T po a k x) (cwV 0 hts gL_isStep_X8_calls rfl rfl rfl (by decide +kernel) ⟨Nat.le_of_ble_eq_true rfl, Nat.le_of_ble_eq_true rfl⟩) hC hP hD hS hA rfl rfl rfl hl.1 rfl (Nat.le_of_ble_eq_true rfl) dL_isStep_6 ⟨(Nat.zero_le _), (Nat.zero_le _)⟩ (fun H locs hP hD hS => ?_)
  have hP : va_P D vwCl (wO T po a k x ++ wO T qo b k y) H := hP
  have hD : va_D A (wO T po a k x ++ wO T qo b k y) := hD
  refine W.eq (g2 := F0 m 9 ls [.int (qSum k.1)]) rfl ?_
  refine lv_istore (lv' := [(5, .int (qSum k.1)), (4, .int (xi >>> ((4 : Int32) &&& 31))), (0, .ref po), (1, .ref qo), (2, .int xi), (3, .int yi)]) hx hb dL_isStep_9 hl (by decide) rfl (fun ls hl => ?_)
  refine lv_iload_n hx hb dL_isStep_11 rfl (lv_at hl 4 rfl) ?_
  refine lv_bipush (v := 24) hx hb dL_isStep_12 (by decide) ?_
  have hP : va_P D vwCl ([] ++ (wO T po a k x ++ wO T qo b k y)) _ := hP
  have hD : va_D A ([] ++ (wO T po a k x ++ wO T qo b k y)) := hD
  refine kS (As := [.int xi, .int 24]) (rest := []) ⟨hx, hb, hml, hown, hts⟩ (L_up l D T xi 24 (by decide) (by decide)) (va_cwS 2 hts gL_isStep_L_up rfl rfl rfl (by decide +kernel) ⟨Nat.le_of_ble_eq_true rfl, Nat.le_of_ble_eq_true rfl⟩) hC hP hD hS hA rfl hl.1 rfl (Nat.le_of_ble_eq_true rfl) dL_isStep_14 ⟨(Nat.zero_le _), (Nat.zero_le _)⟩ (fun H locs hP hD hS => ?_)
  have hP : va_P D vwCl (wO T po a k x ++ wO T qo b k y) H := hP
  have hD : va_D A (wO T po a k x ++ wO T qo b k y) := hD
  refine W.eq (g2 := F0 m 17 ls [.int (nI (upN xi 24))]) rfl ?_
  refine lv_tableIn (x := nI (upN xi 24)) (off := 145) (tgt := 162) hx hb dL_isStep_17 (by rcases hsel with h9 | h9 | h9 <;> rw [h9] <;> decide) (by rcases hsel with h9 | h9 | h9 <;> rw [h9] <;> decide) (by rcases hsel with h9 | h9 | h9 <;> rw [h9] <;> rfl) (by decide) ?_
  refine lv_aload_n hx hb dL_isStep_162 rfl (lv_at hl 2 rfl) ?_
  refine kV (ci := 7) (As := []) (rest := []) ⟨hx, hb, hml, hown, hts⟩ (o_hasAside l D T po a k x) (cwV 0 hts gL_isStep_X8_hasAside rfl rfl rfl (by decide +kernel) ⟨Nat.le_of_ble_eq_true rfl, Nat.le_of_ble_eq_true rfl⟩) hC hP hD hS hA rfl rfl rfl hl.1 rfl (Nat.le_of_ble_eq_true rfl) dL_isStep_163 ⟨(Nat.zero_le _), (Nat.zero_le _)⟩ (fun H locs hP hD hS => ?_)
  have hP : va_P D vwCl (wO T po a k x ++ wO T qo b k y) H := hP
  have hD : va_D A (wO T po a k x ++ wO T qo b k y) := hD
  refine W.eq (g2 := F0 m 166 ls [.int (bI (qVia k.1))]) rfl ?_
  refine lv_istore (lv' := [(6, .int (bI (qVia k.1))), (5, .int (qSum k.1)), (4, .int (xi >>> ((4 : Int32) &&& 31))), (0, .ref po), (1, .ref qo), (2, .int xi), (3, .int yi)]) hx hb dL_isStep_166 hl (by decide) rfl (fun ls hl => ?_)
  refine lv_aload_n hx hb dL_isStep_168 rfl (lv_at hl 3 rfl) ?_
  refine kV (ci := 7) (As := []) (rest := []) ⟨hx, hb, hml, hown, hts⟩ (o_wear l D T po a k x) (cwV 0 hts gL_isStep_X8_wear rfl rfl rfl (by decide +kernel) ⟨Nat.le_of_ble_eq_true rfl, Nat.le_of_ble_eq_true rfl⟩) hC hP hD hS hA rfl rfl rfl hl.1 rfl (Nat.le_of_ble_eq_true rfl) dL_isStep_169 ⟨(Nat.zero_le _), (Nat.zero_le _)⟩ (fun H locs hP hD hS => ?_)
  have hP : va_P D vwCl (wO T po a k x ++ wO T qo b k y) H := hP
  have hD : va_D A (wO T po a k x ++ wO T qo b k y) := hD
  refine W.eq (g2 := F0 m 172 ls [.int (qWear k.1)]) rfl ?_
  refine lv_istore (lv' := [(7, .int (qWear k.1)), (6, .int (bI (qVia k.1))), (5, .int (qSum k.1)), (4, .int (xi >>> ((4 : Int32) &&& 31))), (0, .ref po), (1, .ref qo), (2, .int xi), (3, .int yi)]) hx hb dL_isStep_172 hl (by decide) rfl (fun ls hl => ?_)
  refine lv_aload_n hx hb dL_isStep_174 rfl (lv_at hl 4 rfl) ?_
  refine kWT (As := [.ref po]) (rest := []) ⟨hx, hb, hml, hown, hts⟩ (Lx_merge l D T po a k x hst9 hv) (vx_cwSW 1 hts gL_isStep_L_merge rfl rfl rfl (by decide +kernel) ⟨Nat.le_of_ble_eq_true rfl, Nat.le_of_ble_eq_true rfl⟩) hC hXX hZ hE hNc hP hD hS hA rfl hl.1 rfl (Nat.le_of_ble_eq_true rfl) dL_isStep_175 ⟨(by show 0 + 1 ≤ 2; omega), (by show 0 + 6 ≤ 12; omega)⟩ (fun H locs hP hD hS => ?_)
  have hP : va_P D vwCl (wO T po a k x ++ wO T qo b k y) H := hP
  have hD : va_D A (wO T po a k x ++ wO T qo b k y) := hD
  refine W.eq (g2 := F0 m 178 ls [.int 900001]) rfl ?_
  refine lv_istore (lv' := [(8, .int 900001), (7, .int (qWear k.1)), (6, .int (bI (qVia k.1))), (5, .int (qSum k.1)), (4, .int (xi >>> ((4 : Int32) &&& 31))), (0, .ref po), (1, .ref qo), (2, .int xi), (3, .int yi)]) hx hb dL_isStep_178 hl (by decide) rfl (fun ls hl => ?_)
  refine lv_iload hx hb dL_isStep_180 (lv_at hl 0 rfl) ?_
  refine lv_aload_n hx hb dL_isStep_182 rfl (lv_at hl 6 rfl) ?_
  have hP := va_P_perm List.perm_append_comm hP
  have hD := va_D_perm List.perm_append_comm hD
  refine kWT (As := [.ref qo]) (rest := [.int 900001]) ⟨hx, hb, hml, hown, hts⟩ (Lx_merge l D T qo b k y hst9 hv) (vx_cwSW 1 hts gL_isStep_L_merge rfl rfl rfl (by decide +kernel) ⟨Nat.le_of_ble_eq_true rfl, Nat.le_of_ble_eq_true rfl⟩) hC hXX hZ hE hNc hP hD hS hA rfl hl.1 rfl (Nat.le_of_ble_eq_true rfl) dL_isStep_183 ⟨(by show 0 + 1 + 1 ≤ 2; omega), (by show 0 + 6 + 6 ≤ 12; omega)⟩ (fun H locs hP hD hS => ?_)
  have hP : va_P D vwCl (wO T qo b k y ++ wO T po a k x) H := hP
  have hD : va_D A (wO T qo b k y ++ wO T po a k x) := hD
  refine W.eq (g2 := F0 m 186 ls [.int 900001, .int 900001]) rfl ?_
  refine lv_icmp_ne (tgt := 231) hx hb dL_isStep_186 (by decide) (fun c_x => absurd (by decide : ((900001 : Int32) = 900001)) c_x) (fun _ => ?_)
  refine lv_iload hx hb dL_isStep_189 (lv_at hl 2 rfl) ?_
  refine lv_if_eq (tgt := 220) hx hb dL_isStep_191 (by decide) (fun _ => ?_) (fun c_x => absurd (by rw [hv]; rfl) c_x)
  refine lv_iload hx hb dL_isStep_220 (lv_at hl 0 rfl) ?_
  refine lv_ldc (v := 900001) hx hb hown (hts (.constant RL 17 900001) (List.mem_of_getElem? (i := 1) rfl)) dL_isStep_222 ?_
  refine lv_icmp_ne (tgt := 231) hx hb dL_isStep_224 (by decide) (fun c_x => absurd (by decide : ((900001 : Int32) = 900001)) c_x) (fun _ => ?_)
  refine lv_iconst (v := 1) hx hb dL_isStep_227 (by decide) ?_
  refine lv_goto (tgt := 232) hx hb dL_isStep_228 (by decide) ?_
  have hP := va_P_perm List.perm_append_comm hP
  have hD := va_D_perm List.perm_append_comm hD
  exact hret _ _ _ _ _ _ _ (by show 0 + 1 + 1 ≤ 2; omega) (by show 0 + 6 + 6 ≤ 12; omega) (fun Qc free hq hf => W.zret hx hb hr rfl hq hf dL_isStep_232 hlk) hP hD hS
set_option maxHeartbeats 4000000 in
set_option maxRecDepth 100000 in
theorem st_undo1 (l : Launch) (D : va_G) (T : Nat → ClassId) (hst9 : l.stackTraces = false) (po qo : Nat) (a b : Nat → Nat) (k : KS) (x y : CT) (xi yi : Int32) {M : Int} (hK : KI k M) (hM0 : 0 ≤ M) (hM : M + 40 ≤ 99999) (hsel : upN xi 24 = 6) (h0 : 0 < k.2.2.1) : kWN l D T yL_isStep wsL_isStep rL_isStep 2 12 [.ref po, .ref qo, .int xi, .int yi] (wO T po a k x ++ wO T qo b k y) (some (.int 1)) (wO T po a (unQ k) x ++ wO T qo b (unQ k) y) := by
  refine kWN.ofP (cc := cL_isStep) (maxL := 12) (ret := some .boolean) (by decide) rfl (Nat.le_of_ble_eq_true rfl) ?_
  intro p e s m below meth c A Q ls hx hb hml hown hr hlk hts hC hP hD hS hA hl hXX hZ hE hNc hret
  have hl : lv_has ls 12 [(0, .ref po), (1, .ref qo), (2, .int xi), (3, .int yi)] := hl
  have hP : va_P D vwCl (wO T po a k x ++ wO T qo b k y) s.heap := hP
  have hD : va_D A (wO T po a k x ++ wO T qo b k y) := hD
  refine lv_iload_n hx hb dL_isStep_0 rfl (lv_at hl 2 rfl) ?_
  refine lv_iconst (v := 4) hx hb dL_isStep_1 (by decide) ?_
  refine lv_ishr hx hb dL_isStep_2 ?_
  refine lv_istore (lv' := [(4, .int (xi >>> ((4 : Int32) &&& 31))), (0, .ref po), (1, .ref qo), (2, .int xi), (3, .int yi)]) hx hb dL_isStep_3 hl (by decide) rfl (fun ls hl => ?_)
  refine lv_aload_n hx hb dL_isStep_5 rfl (lv_at hl 1 rfl) ?_
  refine kV (ci := 7) (As := []) (rest := []) ⟨hx, hb, hml, hown, hts⟩ (o_calls l D T po a k x) (cwV 0 hts gL_isStep_X8_calls rfl rfl rfl (by decide +kernel) ⟨Nat.le_of_ble_eq_true rfl, Nat.le_of_ble_eq_true rfl⟩) hC hP hD hS hA rfl rfl rfl hl.1 rfl (Nat.le_of_ble_eq_true rfl) dL_isStep_6 ⟨(Nat.zero_le _), (Nat.zero_le _)⟩ (fun H locs hP hD hS => ?_)
  have hP : va_P D vwCl (wO T po a k x ++ wO T qo b k y) H := hP
  have hD : va_D A (wO T po a k x ++ wO T qo b k y) := hD
  refine W.eq (g2 := F0 m 9 ls [.int (qSum k.1)]) rfl ?_
  refine lv_istore (lv' := [(5, .int (qSum k.1)), (4, .int (xi >>> ((4 : Int32) &&& 31))), (0, .ref po), (1, .ref qo), (2, .int xi), (3, .int yi)]) hx hb dL_isStep_9 hl (by decide) rfl (fun ls hl => ?_)
  refine lv_iload_n hx hb dL_isStep_11 rfl (lv_at hl 4 rfl) ?_
  refine lv_bipush (v := 24) hx hb dL_isStep_12 (by decide) ?_
  have hP : va_P D vwCl ([] ++ (wO T po a k x ++ wO T qo b k y)) _ := hP
  have hD : va_D A ([] ++ (wO T po a k x ++ wO T qo b k y)) := hD
  refine kS (As := [.int xi, .int 24]) (rest := []) ⟨hx, hb, hml, hown, hts⟩ (L_up l D T xi 24 (by decide) (by decide)) (va_cwS 2 hts gL_isStep_L_up rfl rfl rfl (by decide +kernel) ⟨Nat.le_of_ble_eq_true rfl, Nat.le_of_ble_eq_true rfl⟩) hC hP hD hS hA rfl hl.1 rfl (Nat.le_of_ble_eq_true rfl) dL_isStep_14 ⟨(Nat.zero_le _), (Nat.zero_le _)⟩ (fun H locs hP hD hS => ?_)
  have hP : va_P D vwCl (wO T po a k x ++ wO T qo b k y) H := hP
  have hD : va_D A (wO T po a k x ++ wO T qo b k y) := hD
  refine W.eq (g2 := F0 m 17 ls [.int (nI (upN xi 24))]) rfl ?_
  refine lv_tableIn (x := nI (upN xi 24)) (off := 216) (tgt := 233) hx hb dL_isStep_17 (by rw [hsel] <;> decide) (by rw [hsel] <;> decide) (by rw [hsel] <;> rfl) (by decide) ?_
  refine lv_aload_n hx hb dL_isStep_233 rfl (lv_at hl 2 rfl) ?_
  refine kWT (As := [.ref po]) (rest := []) ⟨hx, hb, hml, hown, hts⟩ (L_undo l D T po a k x hK h0) (vx_cwSW 1 hts gL_isStep_L_undo rfl rfl rfl (by decide +kernel) ⟨Nat.le_of_ble_eq_true rfl, Nat.le_of_ble_eq_true rfl⟩) hC hXX hZ hE hNc hP hD hS hA rfl hl.1 rfl (Nat.le_of_ble_eq_true rfl) dL_isStep_234 ⟨(by show 0 + 1 ≤ 2; omega), (by show 0 + 6 ≤ 12; omega)⟩ (fun H locs hP hD hS => ?_)
  have hP : va_P D vwCl (wO T po a (unQ k) x ++ wO T qo b k y) H := hP
  have hD : va_D A (wO T po a (unQ k) x ++ wO T qo b k y) := hD
  refine W.eq (g2 := F0 m 237 ls [.int (nI (k.2.2.1 - 1))]) rfl ?_
  refine lv_aload_n hx hb dL_isStep_237 rfl (lv_at hl 3 rfl) ?_
  have hP := va_P_perm List.perm_append_comm hP
  have hD := va_D_perm List.perm_append_comm hD
  refine kWT (As := [.ref qo]) (rest := [.int (nI (k.2.2.1 - 1))]) ⟨hx, hb, hml, hown, hts⟩ (L_undo l D T qo b k y hK h0) (vx_cwSW 1 hts gL_isStep_L_undo rfl rfl rfl (by decide +kernel) ⟨Nat.le_of_ble_eq_true rfl, Nat.le_of_ble_eq_true rfl⟩) hC hXX hZ hE hNc hP hD hS hA rfl hl.1 rfl (Nat.le_of_ble_eq_true rfl) dL_isStep_238 ⟨(by show 0 + 1 + 1 ≤ 2; omega), (by show 0 + 6 + 6 ≤ 12; omega)⟩ (fun H locs hP hD hS => ?_)
  have hP : va_P D vwCl (wO T qo b (unQ k) y ++ wO T po a (unQ k) x) H := hP
  have hD : va_D A (wO T qo b (unQ k) y ++ wO T po a (unQ k) x) := hD
  refine W.eq (g2 := F0 m 241 ls [.int (nI (k.2.2.1 - 1)), .int (nI (k.2.2.1 - 1))]) rfl ?_
  refine lv_icmp_ne (tgt := 248) hx hb dL_isStep_241 (by decide) (fun c_x => absurd rfl c_x) (fun _ => ?_)
  refine lv_iconst (v := 1) hx hb dL_isStep_244 (by decide) ?_
  refine lv_goto (tgt := 249) hx hb dL_isStep_245 (by decide) ?_
  have hP := va_P_perm List.perm_append_comm hP
  have hD := va_D_perm List.perm_append_comm hD
  exact hret _ _ _ _ _ _ _ (by show 0 + 1 + 1 ≤ 2; omega) (by show 0 + 6 + 6 ≤ 12; omega) (fun Qc free hq hf => W.zret hx hb hr rfl hq hf dL_isStep_249 hlk) hP hD hS
set_option maxHeartbeats 4000000 in
set_option maxRecDepth 100000 in
theorem st_undo0 (l : Launch) (D : va_G) (T : Nat → ClassId) (hst9 : l.stackTraces = false) (po qo : Nat) (a b : Nat → Nat) (k : KS) (x y : CT) (xi yi : Int32) {M : Int} (hK : KI k M) (hM0 : 0 ≤ M) (hM : M + 40 ≤ 99999) (hsel : upN xi 24 = 6) (h0 : k.2.2.1 = 0) : kWN l D T yL_isStep wsL_isStep rL_isStep 2 12 [.ref po, .ref qo, .int xi, .int yi] (wO T po a k x ++ wO T qo b k y) (some (.int 1)) (wO T po a k x ++ wO T qo b k y) := by
  refine kWN.ofP (cc := cL_isStep) (maxL := 12) (ret := some .boolean) (by decide) rfl (Nat.le_of_ble_eq_true rfl) ?_
  intro p e s m below meth c A Q ls hx hb hml hown hr hlk hts hC hP hD hS hA hl hXX hZ hE hNc hret
  have hl : lv_has ls 12 [(0, .ref po), (1, .ref qo), (2, .int xi), (3, .int yi)] := hl
  have hP : va_P D vwCl (wO T po a k x ++ wO T qo b k y) s.heap := hP
  have hD : va_D A (wO T po a k x ++ wO T qo b k y) := hD
  refine lv_iload_n hx hb dL_isStep_0 rfl (lv_at hl 2 rfl) ?_
  refine lv_iconst (v := 4) hx hb dL_isStep_1 (by decide) ?_
  refine lv_ishr hx hb dL_isStep_2 ?_
  refine lv_istore (lv' := [(4, .int (xi >>> ((4 : Int32) &&& 31))), (0, .ref po), (1, .ref qo), (2, .int xi), (3, .int yi)]) hx hb dL_isStep_3 hl (by decide) rfl (fun ls hl => ?_)
  refine lv_aload_n hx hb dL_isStep_5 rfl (lv_at hl 1 rfl) ?_
  refine kV (ci := 7) (As := []) (rest := []) ⟨hx, hb, hml, hown, hts⟩ (o_calls l D T po a k x) (cwV 0 hts gL_isStep_X8_calls rfl rfl rfl (by decide +kernel) ⟨Nat.le_of_ble_eq_true rfl, Nat.le_of_ble_eq_true rfl⟩) hC hP hD hS hA rfl rfl rfl hl.1 rfl (Nat.le_of_ble_eq_true rfl) dL_isStep_6 ⟨(Nat.zero_le _), (Nat.zero_le _)⟩ (fun H locs hP hD hS => ?_)
  have hP : va_P D vwCl (wO T po a k x ++ wO T qo b k y) H := hP
  have hD : va_D A (wO T po a k x ++ wO T qo b k y) := hD
  refine W.eq (g2 := F0 m 9 ls [.int (qSum k.1)]) rfl ?_
  refine lv_istore (lv' := [(5, .int (qSum k.1)), (4, .int (xi >>> ((4 : Int32) &&& 31))), (0, .ref po), (1, .ref qo), (2, .int xi), (3, .int yi)]) hx hb dL_isStep_9 hl (by decide) rfl (fun ls hl => ?_)
  refine lv_iload_n hx hb dL_isStep_11 rfl (lv_at hl 4 rfl) ?_
  refine lv_bipush (v := 24) hx hb dL_isStep_12 (by decide) ?_
  have hP : va_P D vwCl ([] ++ (wO T po a k x ++ wO T qo b k y)) _ := hP
  have hD : va_D A ([] ++ (wO T po a k x ++ wO T qo b k y)) := hD
  refine kS (As := [.int xi, .int 24]) (rest := []) ⟨hx, hb, hml, hown, hts⟩ (L_up l D T xi 24 (by decide) (by decide)) (va_cwS 2 hts gL_isStep_L_up rfl rfl rfl (by decide +kernel) ⟨Nat.le_of_ble_eq_true rfl, Nat.le_of_ble_eq_true rfl⟩) hC hP hD hS hA rfl hl.1 rfl (Nat.le_of_ble_eq_true rfl) dL_isStep_14 ⟨(Nat.zero_le _), (Nat.zero_le _)⟩ (fun H locs hP hD hS => ?_)
  have hP : va_P D vwCl (wO T po a k x ++ wO T qo b k y) H := hP
  have hD : va_D A (wO T po a k x ++ wO T qo b k y) := hD
  refine W.eq (g2 := F0 m 17 ls [.int (nI (upN xi 24))]) rfl ?_
  refine lv_tableIn (x := nI (upN xi 24)) (off := 216) (tgt := 233) hx hb dL_isStep_17 (by rw [hsel] <;> decide) (by rw [hsel] <;> decide) (by rw [hsel] <;> rfl) (by decide) ?_
  refine lv_aload_n hx hb dL_isStep_233 rfl (lv_at hl 2 rfl) ?_
  refine kWT (As := [.ref po]) (rest := []) ⟨hx, hb, hml, hown, hts⟩ (Lx_undo l D T po a k x hst9 h0) (vx_cwSW 1 hts gL_isStep_L_undo rfl rfl rfl (by decide +kernel) ⟨Nat.le_of_ble_eq_true rfl, Nat.le_of_ble_eq_true rfl⟩) hC hXX hZ hE hNc hP hD hS hA rfl hl.1 rfl (Nat.le_of_ble_eq_true rfl) dL_isStep_234 ⟨(by show 0 + 1 ≤ 2; omega), (by show 0 + 6 ≤ 12; omega)⟩ (fun H locs hP hD hS => ?_)
  have hP : va_P D vwCl (wO T po a k x ++ wO T qo b k y) H := hP
  have hD : va_D A (wO T po a k x ++ wO T qo b k y) := hD
  refine W.eq (g2 := F0 m 237 ls [.int 900001]) rfl ?_
  refine lv_aload_n hx hb dL_isStep_237 rfl (lv_at hl 3 rfl) ?_
  have hP := va_P_perm List.perm_append_comm hP
  have hD := va_D_perm List.perm_append_comm hD
  refine kWT (As := [.ref qo]) (rest := [.int 900001]) ⟨hx, hb, hml, hown, hts⟩ (Lx_undo l D T qo b k y hst9 h0) (vx_cwSW 1 hts gL_isStep_L_undo rfl rfl rfl (by decide +kernel) ⟨Nat.le_of_ble_eq_true rfl, Nat.le_of_ble_eq_true rfl⟩) hC hXX hZ hE hNc hP hD hS hA rfl hl.1 rfl (Nat.le_of_ble_eq_true rfl) dL_isStep_238 ⟨(by show 0 + 1 + 1 ≤ 2; omega), (by show 0 + 6 + 6 ≤ 12; omega)⟩ (fun H locs hP hD hS => ?_)
  have hP : va_P D vwCl (wO T qo b k y ++ wO T po a k x) H := hP
  have hD : va_D A (wO T qo b k y ++ wO T po a k x) := hD
  refine W.eq (g2 := F0 m 241 ls [.int 900001, .int 900001]) rfl ?_
  refine lv_icmp_ne (tgt := 248) hx hb dL_isStep_241 (by decide) (fun c_x => absurd (by decide : ((900001 : Int32) = 900001)) c_x) (fun _ => ?_)
  refine lv_iconst (v := 1) hx hb dL_isStep_244 (by decide) ?_
  refine lv_goto (tgt := 249) hx hb dL_isStep_245 (by decide) ?_
  have hP := va_P_perm List.perm_append_comm hP
  have hD := va_D_perm List.perm_append_comm hD
  exact hret _ _ _ _ _ _ _ (by show 0 + 1 + 1 ≤ 2; omega) (by show 0 + 6 + 6 ≤ 12; omega) (fun Qc free hq hf => W.zret hx hb hr rfl hq hf dL_isStep_249 hlk) hP hD hS
set_option maxHeartbeats 4000000 in
set_option maxRecDepth 100000 in
theorem st_song_40_1 (l : Launch) (D : va_G) (T : Nat → ClassId) (hst9 : l.stackTraces = false) (po qo : Nat) (a b : Nat → Nat) (k : KS) (x y : CT) (xi yi : Int32) {M : Int} {pa n : Nat} {ys : CT} (hK : KI k M) (hM0 : 0 ≤ M) (hM : M + 40 ≤ 99999) (hx60 : x.1 ≤ 60) (hsel : upN xi 24 = 7 ∨ upN xi 24 = 8 ∨ upN xi 24 = 9) (hpa : upN yi 7 = pa) (hp : pa < 26) (hm : upN ((xi >>> ((4 : Int32) &&& 31)) >>> ((5 : Int32) &&& 31)) 6 = 0) (hn : 1 + (upN (xi >>> ((4 : Int32) &&& 31)) 40) = n) (h1 : 1 ≤ n) (h40 : n ≤ 40) (hi : upN ((xi >>> ((4 : Int32) &&& 31)) >>> ((3 : Int32) &&& 31)) 2 = 0) (hsg : kWN l D T yL_sung wsL_sung rL_sung 0 0 [.ref qo, .int (nI pa), .int (nI n), .int 1] (wO T qo b k y) (some (.int (qSum k.1 + nI n))) (wO T qo b (recQ k (tkR k.1 pa n)) ys)) : kWN l D T yL_isStep wsL_isStep rL_isStep 2 12 [.ref po, .ref qo, .int xi, .int yi] (wO T po a k x ++ wO T qo b k y) (some (.int 1)) (wO T po a (recQ k (tkR k.1 pa n)) (sgX (roX x pa n)) ++ wO T qo b (recQ k (tkR k.1 pa n)) ys) := by
  refine kWN.ofP (cc := cL_isStep) (maxL := 12) (ret := some .boolean) (by decide) rfl (Nat.le_of_ble_eq_true rfl) ?_
  intro p e s m below meth c A Q ls hx hb hml hown hr hlk hts hC hP hD hS hA hl hXX hZ hE hNc hret
  have hl : lv_has ls 12 [(0, .ref po), (1, .ref qo), (2, .int xi), (3, .int yi)] := hl
  have hP : va_P D vwCl (wO T po a k x ++ wO T qo b k y) s.heap := hP
  have hD : va_D A (wO T po a k x ++ wO T qo b k y) := hD
  have loop_360 : ∀ (n9 i : Nat), i + n9 = n → ∀ (H : Heap) (locs : List Loc) (cells slots : Nat) (ls : Array Slot), va_P D vwCl (wO T qo b (recQ k (tkR k.1 pa n)) ys ++ wO T po a k (roX x pa i)) H → va_D A (wO T qo b (recQ k (tkR k.1 pa n)) ys ++ wO T po a k (roX x pa i)) → va_S A s.heap H locs → lv_has ls 12 [(11, .int (nI i)), (10, .int 1), (0, .ref po), (1, .ref qo), (5, .int (qSum k.1)), (6, .int (nI pa)), (7, .int (nI n)), (8, .int (qLeast k.1)), (9, .int (qEst k.1 pa))] → cells ≤ 0 → slots ≤ 0 → W p l e rL_isStep s m ([.ref po, .ref qo, .int xi, .int yi] : List Value).toArray below meth c H locs cells slots Q (F0 m 360 ls []) := by
    intro n9
    induction n9 with
    | zero =>
      intro i hi H locs cells slots ls hP hD hS hl hce hso
      have hi9 : n = i := by omega
      subst hi9
      refine lv_iload hx hb dL_isStep_360 (lv_at hl 0 rfl) ?_
      refine lv_iload hx hb dL_isStep_362 (lv_at hl 6 rfl) ?_
      refine lv_icmp_ge (tgt := 401) hx hb dL_isStep_364 (by decide) (fun _ => ?_) (fun c_x => absurd (Int32.le_refl _) c_x)
      refine lv_iload hx hb dL_isStep_401 (lv_at hl 1 rfl) ?_
      refine lv_if_eq (tgt := 445) hx hb dL_isStep_403 (by decide) (fun c_x => absurd c_x (by decide : ¬ ((1 : Int32) = 0))) (fun _ => ?_)
      refine lv_aload_n hx hb dL_isStep_406 rfl (lv_at hl 2 rfl) ?_
      have hP := va_P_perm List.perm_append_comm hP
      have hD := va_D_perm List.perm_append_comm hD
      refine kWT (As := [.ref po]) (rest := []) ⟨hx, hb, hml, hown, hts⟩ (L_song l D T po a k (roX x pa n) hp (TX_roX hp h1 (by omega)) hK (by omega) (by omega)) (vx_cwSW 1 hts gL_isStep_L_song rfl rfl rfl (by decide +kernel) ⟨Nat.le_of_ble_eq_true rfl, Nat.le_of_ble_eq_true rfl⟩) hC hXX hZ hE hNc hP hD hS hA rfl hl.1 rfl (Nat.le_of_ble_eq_true rfl) dL_isStep_407 ⟨(by show cells ≤ 2; omega), (by show slots ≤ 12; omega)⟩ (fun H locs hP hD hS => ?_)
      have hP : va_P D vwCl (wO T po a (recQ k (tkR k.1 pa n)) (sgX (roX x pa n)) ++ wO T qo b (recQ k (tkR k.1 pa n)) ys) H := hP
      have hD : va_D A (wO T po a (recQ k (tkR k.1 pa n)) (sgX (roX x pa n)) ++ wO T qo b (recQ k (tkR k.1 pa n)) ys) := hD
      refine W.eq (g2 := F0 m 410 ls [.int (qSum k.1 + nI n)]) rfl ?_
      refine lv_iload hx hb dL_isStep_410 (lv_at hl 4 rfl) ?_
      refine lv_iload hx hb dL_isStep_412 (lv_at hl 6 rfl) ?_
      refine lv_iadd hx hb dL_isStep_414 ?_
      refine lv_icmp_ne (tgt := 445) hx hb dL_isStep_415 (by decide) (fun c_x => absurd rfl c_x) (fun _ => ?_)
      refine lv_aload_n hx hb dL_isStep_418 rfl (lv_at hl 2 rfl) ?_
      refine lv_iload hx hb dL_isStep_419 (lv_at hl 5 rfl) ?_
      refine kWT (As := [.ref po, .int (nI pa)]) (rest := []) ⟨hx, hb, hml, hown, hts⟩ (L_estimate l D T po a (recQ k (tkR k.1 pa n)) (sgX (roX x pa n)) pa hp) (vx_cwSW 2 hts gL_isStep_L_estimate rfl rfl rfl (by decide +kernel) ⟨Nat.le_of_ble_eq_true rfl, Nat.le_of_ble_eq_true rfl⟩) hC hXX hZ hE hNc hP hD hS hA rfl hl.1 rfl (Nat.le_of_ble_eq_true rfl) dL_isStep_421 ⟨(by show cells + 0 ≤ 2; omega), (by show slots + 0 ≤ 12; omega)⟩ (fun H locs hP hD hS => ?_)
      have hP : va_P D vwCl (wO T po a (recQ k (tkR k.1 pa n)) (sgX (roX x pa n)) ++ wO T qo b (recQ k (tkR k.1 pa n)) ys) H := hP
      have hD : va_D A (wO T po a (recQ k (tkR k.1 pa n)) (sgX (roX x pa n)) ++ wO T qo b (recQ k (tkR k.1 pa n)) ys) := hD
      refine W.eq (g2 := F0 m 424 ls [.int (qEst (recQ k (tkR k.1 pa n)).1 pa)]) rfl ?_
      refine lv_iload hx hb dL_isStep_424 (lv_at hl 8 rfl) ?_
      refine lv_iload hx hb dL_isStep_426 (lv_at hl 6 rfl) ?_
      refine lv_iadd hx hb dL_isStep_428 ?_
      refine lv_icmp_ne (tgt := 445) hx hb dL_isStep_429 (by decide) (fun c_x => absurd (f_estn hp hK.1 (by omega)) c_x) (fun _ => ?_)
      refine lv_aload_n hx hb dL_isStep_432 rfl (lv_at hl 2 rfl) ?_
      refine kV (ci := 7) (As := []) (rest := []) ⟨hx, hb, hml, hown, hts⟩ (o_floor l D T po a (recQ k (tkR k.1 pa n)) (sgX (roX x pa n))) (cwV 0 hts gL_isStep_X8_floor rfl rfl rfl (by decide +kernel) ⟨Nat.le_of_ble_eq_true rfl, Nat.le_of_ble_eq_true rfl⟩) hC hP hD hS hA rfl rfl rfl hl.1 rfl (Nat.le_of_ble_eq_true rfl) dL_isStep_433 ⟨(by show cells + 0 + 0 ≤ 2; omega), (by show slots + 0 + 0 ≤ 12; omega)⟩ (fun H locs hP hD hS => ?_)
      have hP : va_P D vwCl (wO T po a (recQ k (tkR k.1 pa n)) (sgX (roX x pa n)) ++ wO T qo b (recQ k (tkR k.1 pa n)) ys) H := hP
      have hD : va_D A (wO T po a (recQ k (tkR k.1 pa n)) (sgX (roX x pa n)) ++ wO T qo b (recQ k (tkR k.1 pa n)) ys) := hD
      refine W.eq (g2 := F0 m 436 ls [.int (qLeast (recQ k (tkR k.1 pa n)).1)]) rfl ?_
      refine lv_iload hx hb dL_isStep_436 (lv_at hl 7 rfl) ?_
      refine lv_icmp_lt (tgt := 445) hx hb dL_isStep_438 (by decide) (fun c_x => absurd c_x (f_least hp hK.1 (by omega))) (fun _ => ?_)
      refine lv_iconst (v := 1) hx hb dL_isStep_441 (by decide) ?_
      refine lv_goto (tgt := 446) hx hb dL_isStep_442 (by decide) ?_
      exact hret _ _ _ _ _ _ _ (by show cells + 0 + 0 ≤ 2; omega) (by show slots + 0 + 0 ≤ 12; omega) (fun Qc free hq hf => W.zret hx hb hr rfl hq hf dL_isStep_446 hlk) hP hD hS
    | succ n9 ih =>
      intro i hi H locs cells slots ls hP hD hS hl hce hso
      have hlt : i < n := by omega
      refine lv_iload hx hb dL_isStep_360 (lv_at hl 0 rfl) ?_
      refine lv_iload hx hb dL_isStep_362 (lv_at hl 6 rfl) ?_
      refine lv_icmp_ge (tgt := 401) hx hb dL_isStep_364 (by decide) (fun c_x => absurd c_x (nI_ge (a := i) (b := n) (by omega) (by omega))) (fun _ => ?_)
      refine lv_iload hx hb dL_isStep_367 (lv_at hl 1 rfl) ?_
      refine lv_if_eq (tgt := 392) hx hb dL_isStep_369 (by decide) (fun c_x => absurd c_x (by decide : ¬ ((1 : Int32) = 0))) (fun _ => ?_)
      refine lv_aload_n hx hb dL_isStep_372 rfl (lv_at hl 2 rfl) ?_
      refine lv_bipush (v := 97) hx hb dL_isStep_373 (by decide) ?_
      refine lv_iload hx hb dL_isStep_375 (lv_at hl 5 rfl) ?_
      refine lv_iadd hx hb dL_isStep_377 ?_
      refine W.eq (g2 := F0 m 378 ls (.int (nI (97 + pa)) :: [.ref po])) (congrArg (fun z => F0 m 378 ls (.int z :: [.ref po])) (nI_add 97 pa)) ?_
      have hP := va_P_perm List.perm_append_comm hP
      have hD := va_D_perm List.perm_append_comm hD
      refine kWT (As := [.ref po, .int (nI (97 + pa))]) (rest := []) ⟨hx, hb, hml, hown, hts⟩ (L_append l D T po a k (roX x pa i) (n := 97 + pa) (by omega) (by rw [roX_len]; omega)) (vx_cwSW 2 hts gL_isStep_L_append rfl rfl rfl (by decide +kernel) ⟨Nat.le_of_ble_eq_true rfl, Nat.le_of_ble_eq_true rfl⟩) hC hXX hZ hE hNc hP hD hS hA rfl hl.1 rfl (Nat.le_of_ble_eq_true rfl) dL_isStep_378 ⟨(by show cells ≤ 2; omega), (by show slots ≤ 12; omega)⟩ (fun H locs hP hD hS => ?_)
      have hP : va_P D vwCl (wO T po a k (roX x pa (i + 1)) ++ wO T qo b (recQ k (tkR k.1 pa n)) ys) H := hP
      have hD : va_D A (wO T po a k (roX x pa (i + 1)) ++ wO T qo b (recQ k (tkR k.1 pa n)) ys) := hD
      refine W.eq (g2 := F0 m 381 ls [.int (nI ((roX x pa i).1 + 1))]) rfl ?_
      refine W.eq (g2 := F0 m 381 ls (.int (nI (i + 1)) :: [])) (congrArg (fun z => F0 m 381 ls (.int z :: [])) (by rw [roX_len] : (nI ((roX x pa i).1 + 1) : Int32) = nI (i + 1))) ?_
      refine lv_iload hx hb dL_isStep_381 (lv_at hl 0 rfl) ?_
      refine lv_iconst (v := 1) hx hb dL_isStep_383 (by decide) ?_
      refine lv_iadd hx hb dL_isStep_384 ?_
      refine W.eq (g2 := F0 m 385 ls (.int (nI (i + 1)) :: [.int (nI (i + 1))])) (congrArg (fun z => F0 m 385 ls (.int z :: [.int (nI (i + 1))])) (nI_1 i)) ?_
      refine lv_icmp_ne (tgt := 392) hx hb dL_isStep_385 (by decide) (fun c_x => absurd rfl c_x) (fun _ => ?_)
      refine lv_iconst (v := 1) hx hb dL_isStep_388 (by decide) ?_
      refine lv_goto (tgt := 393) hx hb dL_isStep_389 (by decide) ?_
      refine lv_istore (lv' := [(10, .int 1), (11, .int (nI i)), (0, .ref po), (1, .ref qo), (5, .int (qSum k.1)), (6, .int (nI pa)), (7, .int (nI n)), (8, .int (qLeast k.1)), (9, .int (qEst k.1 pa))]) hx hb dL_isStep_393 hl (by decide) rfl (fun ls hl => ?_)
      refine lv_iinc (v := nI (i + 1)) (lv' := [(11, .int (nI (i + 1))), (10, .int 1), (0, .ref po), (1, .ref qo), (5, .int (qSum k.1)), (6, .int (nI pa)), (7, .int (nI n)), (8, .int (qLeast k.1)), (9, .int (qEst k.1 pa))]) hx hb dL_isStep_395 hl (k := 1) rfl (nI_1 i) (by decide) rfl (fun ls hl => ?_)
      refine lv_goto (tgt := 360) hx hb dL_isStep_398 (by decide) ?_
      have hP := va_P_perm List.perm_append_comm hP
      have hD := va_D_perm List.perm_append_comm hD
      exact ih (i + 1) (by omega) _ _ _ _ _ hP hD hS (lv_sub hl [0, 1, 2, 3, 4, 5, 6, 7, 8] rfl) (by omega) (by omega)
  refine lv_iload_n hx hb dL_isStep_0 rfl (lv_at hl 2 rfl) ?_
  refine lv_iconst (v := 4) hx hb dL_isStep_1 (by decide) ?_
  refine lv_ishr hx hb dL_isStep_2 ?_
  refine lv_istore (lv' := [(4, .int (xi >>> ((4 : Int32) &&& 31))), (0, .ref po), (1, .ref qo), (2, .int xi), (3, .int yi)]) hx hb dL_isStep_3 hl (by decide) rfl (fun ls hl => ?_)
  refine lv_aload_n hx hb dL_isStep_5 rfl (lv_at hl 1 rfl) ?_
  refine kV (ci := 7) (As := []) (rest := []) ⟨hx, hb, hml, hown, hts⟩ (o_calls l D T po a k x) (cwV 0 hts gL_isStep_X8_calls rfl rfl rfl (by decide +kernel) ⟨Nat.le_of_ble_eq_true rfl, Nat.le_of_ble_eq_true rfl⟩) hC hP hD hS hA rfl rfl rfl hl.1 rfl (Nat.le_of_ble_eq_true rfl) dL_isStep_6 ⟨(Nat.zero_le _), (Nat.zero_le _)⟩ (fun H locs hP hD hS => ?_)
  have hP : va_P D vwCl (wO T po a k x ++ wO T qo b k y) H := hP
  have hD : va_D A (wO T po a k x ++ wO T qo b k y) := hD
  refine W.eq (g2 := F0 m 9 ls [.int (qSum k.1)]) rfl ?_
  refine lv_istore (lv' := [(5, .int (qSum k.1)), (4, .int (xi >>> ((4 : Int32) &&& 31))), (0, .ref po), (1, .ref qo), (2, .int xi), (3, .int yi)]) hx hb dL_isStep_9 hl (by decide) rfl (fun ls hl => ?_)
  refine lv_iload_n hx hb dL_isStep_11 rfl (lv_at hl 4 rfl) ?_
  refine lv_bipush (v := 24) hx hb dL_isStep_12 (by decide) ?_
  have hP : va_P D vwCl ([] ++ (wO T po a k x ++ wO T qo b k y)) _ := hP
  have hD : va_D A ([] ++ (wO T po a k x ++ wO T qo b k y)) := hD
  refine kS (As := [.int xi, .int 24]) (rest := []) ⟨hx, hb, hml, hown, hts⟩ (L_up l D T xi 24 (by decide) (by decide)) (va_cwS 2 hts gL_isStep_L_up rfl rfl rfl (by decide +kernel) ⟨Nat.le_of_ble_eq_true rfl, Nat.le_of_ble_eq_true rfl⟩) hC hP hD hS hA rfl hl.1 rfl (Nat.le_of_ble_eq_true rfl) dL_isStep_14 ⟨(Nat.zero_le _), (Nat.zero_le _)⟩ (fun H locs hP hD hS => ?_)
  have hP : va_P D vwCl (wO T po a k x ++ wO T qo b k y) H := hP
  have hD : va_D A (wO T po a k x ++ wO T qo b k y) := hD
  refine W.eq (g2 := F0 m 17 ls [.int (nI (upN xi 24))]) rfl ?_
  refine lv_tableIn (x := nI (upN xi 24)) (off := 233) (tgt := 250) hx hb dL_isStep_17 (by rcases hsel with h9 | h9 | h9 <;> rw [h9] <;> decide) (by rcases hsel with h9 | h9 | h9 <;> rw [h9] <;> decide) (by rcases hsel with h9 | h9 | h9 <;> rw [h9] <;> rfl) (by decide) ?_
  refine lv_iload_n hx hb dL_isStep_250 rfl (lv_at hl 5 rfl) ?_
  refine lv_bipush (v := 7) hx hb dL_isStep_251 (by decide) ?_
  have hP : va_P D vwCl ([] ++ (wO T po a k x ++ wO T qo b k y)) _ := hP
  have hD : va_D A ([] ++ (wO T po a k x ++ wO T qo b k y)) := hD
  refine kS (As := [.int yi, .int 7]) (rest := []) ⟨hx, hb, hml, hown, hts⟩ (L_up l D T yi 7 (by decide) (by decide)) (va_cwS 2 hts gL_isStep_L_up rfl rfl rfl (by decide +kernel) ⟨Nat.le_of_ble_eq_true rfl, Nat.le_of_ble_eq_true rfl⟩) hC hP hD hS hA rfl hl.1 rfl (Nat.le_of_ble_eq_true rfl) dL_isStep_253 ⟨(Nat.zero_le _), (Nat.zero_le _)⟩ (fun H locs hP hD hS => ?_)
  have hP : va_P D vwCl (wO T po a k x ++ wO T qo b k y) H := hP
  have hD : va_D A (wO T po a k x ++ wO T qo b k y) := hD
  refine W.eq (g2 := F0 m 256 ls [.int (nI (upN yi 7))]) rfl ?_
  refine W.eq (g2 := F0 m 256 ls (.int (nI pa) :: [])) (congrArg (fun z => F0 m 256 ls (.int z :: [])) (by rw [hpa] : (nI (upN yi 7) : Int32) = nI pa)) ?_
  refine lv_istore (lv' := [(6, .int (nI pa)), (5, .int (qSum k.1)), (4, .int (xi >>> ((4 : Int32) &&& 31))), (0, .ref po), (1, .ref qo), (2, .int xi), (3, .int yi)]) hx hb dL_isStep_256 hl (by decide) rfl (fun ls hl => ?_)
  refine lv_iconst (v := 1) hx hb dL_isStep_258 (by decide) ?_
  refine lv_iload hx hb dL_isStep_259 (lv_at hl 2 rfl) ?_
  refine lv_iload hx hb dL_isStep_261 (lv_at hl 2 rfl) ?_
  refine lv_iconst (v := 5) hx hb dL_isStep_263 (by decide) ?_
  refine lv_ishr hx hb dL_isStep_264 ?_
  refine lv_bipush (v := 6) hx hb dL_isStep_265 (by decide) ?_
  have hP : va_P D vwCl ([] ++ (wO T po a k x ++ wO T qo b k y)) _ := hP
  have hD : va_D A ([] ++ (wO T po a k x ++ wO T qo b k y)) := hD
  refine kS (As := [.int ((xi >>> ((4 : Int32) &&& 31)) >>> ((5 : Int32) &&& 31)), .int 6]) (rest := [.int (xi >>> ((4 : Int32) &&& 31)), .int 1]) ⟨hx, hb, hml, hown, hts⟩ (L_up l D T ((xi >>> ((4 : Int32) &&& 31)) >>> ((5 : Int32) &&& 31)) 6 (by decide) (by decide)) (va_cwS 2 hts gL_isStep_L_up rfl rfl rfl (by decide +kernel) ⟨Nat.le_of_ble_eq_true rfl, Nat.le_of_ble_eq_true rfl⟩) hC hP hD hS hA rfl hl.1 rfl (Nat.le_of_ble_eq_true rfl) dL_isStep_267 ⟨(Nat.zero_le _), (Nat.zero_le _)⟩ (fun H locs hP hD hS => ?_)
  have hP : va_P D vwCl (wO T po a k x ++ wO T qo b k y) H := hP
  have hD : va_D A (wO T po a k x ++ wO T qo b k y) := hD
  refine W.eq (g2 := F0 m 270 ls [.int (nI (upN ((xi >>> ((4 : Int32) &&& 31)) >>> ((5 : Int32) &&& 31)) 6)), .int (xi >>> ((4 : Int32) &&& 31)), .int 1]) rfl ?_
  refine lv_if_ne (tgt := 278) hx hb dL_isStep_270 (by decide) (fun c_x => absurd (by rw [hm]; rfl) c_x) (fun _ => ?_)
  refine lv_bipush (v := 40) hx hb dL_isStep_273 (by decide) ?_
  refine lv_goto (tgt := 279) hx hb dL_isStep_275 (by decide) ?_
  have hP : va_P D vwCl ([] ++ (wO T po a k x ++ wO T qo b k y)) _ := hP
  have hD : va_D A ([] ++ (wO T po a k x ++ wO T qo b k y)) := hD
  refine kS (As := [.int (xi >>> ((4 : Int32) &&& 31)), .int 40]) (rest := [.int 1]) ⟨hx, hb, hml, hown, hts⟩ (L_up l D T (xi >>> ((4 : Int32) &&& 31)) 40 (by decide) (by decide)) (va_cwS 2 hts gL_isStep_L_up rfl rfl rfl (by decide +kernel) ⟨Nat.le_of_ble_eq_true rfl, Nat.le_of_ble_eq_true rfl⟩) hC hP hD hS hA rfl hl.1 rfl (Nat.le_of_ble_eq_true rfl) dL_isStep_279 ⟨(Nat.zero_le _), (Nat.zero_le _)⟩ (fun H locs hP hD hS => ?_)
  have hP : va_P D vwCl (wO T po a k x ++ wO T qo b k y) H := hP
  have hD : va_D A (wO T po a k x ++ wO T qo b k y) := hD
  refine W.eq (g2 := F0 m 282 ls [.int (nI (upN (xi >>> ((4 : Int32) &&& 31)) 40)), .int 1]) rfl ?_
  refine lv_iadd hx hb dL_isStep_282 ?_
  refine W.eq (g2 := F0 m 283 ls (.int (nI (1 + (upN (xi >>> ((4 : Int32) &&& 31)) 40))) :: [])) (congrArg (fun z => F0 m 283 ls (.int z :: [])) (nI_add 1 (upN (xi >>> ((4 : Int32) &&& 31)) 40))) ?_
  refine W.eq (g2 := F0 m 283 ls (.int (nI n) :: [])) (congrArg (fun z => F0 m 283 ls (.int z :: [])) (by rw [hn] : (nI (1 + (upN (xi >>> ((4 : Int32) &&& 31)) 40)) : Int32) = nI n)) ?_
  refine lv_istore (lv' := [(7, .int (nI n)), (6, .int (nI pa)), (5, .int (qSum k.1)), (4, .int (xi >>> ((4 : Int32) &&& 31))), (0, .ref po), (1, .ref qo), (2, .int xi), (3, .int yi)]) hx hb dL_isStep_283 hl (by decide) rfl (fun ls hl => ?_)
  refine lv_aload_n hx hb dL_isStep_285 rfl (lv_at hl 4 rfl) ?_
  refine kV (ci := 7) (As := []) (rest := []) ⟨hx, hb, hml, hown, hts⟩ (o_floor l D T po a k x) (cwV 0 hts gL_isStep_X8_floor rfl rfl rfl (by decide +kernel) ⟨Nat.le_of_ble_eq_true rfl, Nat.le_of_ble_eq_true rfl⟩) hC hP hD hS hA rfl rfl rfl hl.1 rfl (Nat.le_of_ble_eq_true rfl) dL_isStep_286 ⟨(Nat.zero_le _), (Nat.zero_le _)⟩ (fun H locs hP hD hS => ?_)
  have hP : va_P D vwCl (wO T po a k x ++ wO T qo b k y) H := hP
  have hD : va_D A (wO T po a k x ++ wO T qo b k y) := hD
  refine W.eq (g2 := F0 m 289 ls [.int (qLeast k.1)]) rfl ?_
  refine lv_istore (lv' := [(8, .int (qLeast k.1)), (7, .int (nI n)), (6, .int (nI pa)), (5, .int (qSum k.1)), (4, .int (xi >>> ((4 : Int32) &&& 31))), (0, .ref po), (1, .ref qo), (2, .int xi), (3, .int yi)]) hx hb dL_isStep_289 hl (by decide) rfl (fun ls hl => ?_)
  refine lv_aload_n hx hb dL_isStep_291 rfl (lv_at hl 5 rfl) ?_
  refine lv_iload hx hb dL_isStep_292 (lv_at hl 2 rfl) ?_
  refine kWT (As := [.ref po, .int (nI pa)]) (rest := []) ⟨hx, hb, hml, hown, hts⟩ (L_estimate l D T po a k x pa hp) (vx_cwSW 2 hts gL_isStep_L_estimate rfl rfl rfl (by decide +kernel) ⟨Nat.le_of_ble_eq_true rfl, Nat.le_of_ble_eq_true rfl⟩) hC hXX hZ hE hNc hP hD hS hA rfl hl.1 rfl (Nat.le_of_ble_eq_true rfl) dL_isStep_294 ⟨(Nat.zero_le _), (Nat.zero_le _)⟩ (fun H locs hP hD hS => ?_)
  have hP : va_P D vwCl (wO T po a k x ++ wO T qo b k y) H := hP
  have hD : va_D A (wO T po a k x ++ wO T qo b k y) := hD
  refine W.eq (g2 := F0 m 297 ls [.int (qEst k.1 pa)]) rfl ?_
  refine lv_istore (lv' := [(9, .int (qEst k.1 pa)), (8, .int (qLeast k.1)), (7, .int (nI n)), (6, .int (nI pa)), (5, .int (qSum k.1)), (4, .int (xi >>> ((4 : Int32) &&& 31))), (0, .ref po), (1, .ref qo), (2, .int xi), (3, .int yi)]) hx hb dL_isStep_297 hl (by decide) rfl (fun ls hl => ?_)
  refine lv_aload_n hx hb dL_isStep_299 rfl (lv_at hl 7 rfl) ?_
  refine lv_iload hx hb dL_isStep_300 (lv_at hl 3 rfl) ?_
  refine lv_iload hx hb dL_isStep_302 (lv_at hl 2 rfl) ?_
  refine lv_iload hx hb dL_isStep_304 (lv_at hl 5 rfl) ?_
  refine lv_iconst (v := 3) hx hb dL_isStep_306 (by decide) ?_
  refine lv_ishr hx hb dL_isStep_307 ?_
  refine lv_iconst (v := 2) hx hb dL_isStep_308 (by decide) ?_
  have hP : va_P D vwCl ([] ++ (wO T po a k x ++ wO T qo b k y)) _ := hP
  have hD : va_D A ([] ++ (wO T po a k x ++ wO T qo b k y)) := hD
  refine kS (As := [.int ((xi >>> ((4 : Int32) &&& 31)) >>> ((3 : Int32) &&& 31)), .int 2]) (rest := [.int (nI n), .int (nI pa), .ref qo]) ⟨hx, hb, hml, hown, hts⟩ (L_up l D T ((xi >>> ((4 : Int32) &&& 31)) >>> ((3 : Int32) &&& 31)) 2 (by decide) (by decide)) (va_cwS 2 hts gL_isStep_L_up rfl rfl rfl (by decide +kernel) ⟨Nat.le_of_ble_eq_true rfl, Nat.le_of_ble_eq_true rfl⟩) hC hP hD hS hA rfl hl.1 rfl (Nat.le_of_ble_eq_true rfl) dL_isStep_309 ⟨(by show 0 + 0 ≤ 2; omega), (by show 0 + 0 ≤ 12; omega)⟩ (fun H locs hP hD hS => ?_)
  have hP : va_P D vwCl (wO T po a k x ++ wO T qo b k y) H := hP
  have hD : va_D A (wO T po a k x ++ wO T qo b k y) := hD
  refine W.eq (g2 := F0 m 312 ls [.int (nI (upN ((xi >>> ((4 : Int32) &&& 31)) >>> ((3 : Int32) &&& 31)) 2)), .int (nI n), .int (nI pa), .ref qo]) rfl ?_
  refine lv_if_ne (tgt := 319) hx hb dL_isStep_312 (by decide) (fun c_x => absurd (by rw [hi]; rfl) c_x) (fun _ => ?_)
  refine lv_iconst (v := 1) hx hb dL_isStep_315 (by decide) ?_
  refine lv_goto (tgt := 320) hx hb dL_isStep_316 (by decide) ?_
  have hP := va_P_perm List.perm_append_comm hP
  have hD := va_D_perm List.perm_append_comm hD
  refine kWP (As := [.ref qo, .int (nI pa), .int (nI n), .int 1]) (rest := []) ⟨hx, hb, hml, hown, hts⟩ hsg (va_cwS 4 hts gL_isStep_L_sung rfl rfl rfl (by decide +kernel) ⟨Nat.le_of_ble_eq_true rfl, Nat.le_of_ble_eq_true rfl⟩) hC hXX hZ hE hNc hP hD hS hA rfl hl.1 rfl (Nat.le_of_ble_eq_true rfl) dL_isStep_320 ⟨(by show 0 + 0 ≤ 2; omega), (by show 0 + 0 ≤ 12; omega)⟩ (fun H locs hP hD hS => ?_)
  have hP : va_P D vwCl (wO T qo b (recQ k (tkR k.1 pa n)) ys ++ wO T po a k x) H := hP
  have hD : va_D A (wO T qo b (recQ k (tkR k.1 pa n)) ys ++ wO T po a k x) := hD
  refine W.eq (g2 := F0 m 323 ls [.int (qSum k.1 + nI n)]) rfl ?_
  refine lv_iload hx hb dL_isStep_323 (lv_at hl 4 rfl) ?_
  refine lv_iload hx hb dL_isStep_325 (lv_at hl 2 rfl) ?_
  refine lv_iadd hx hb dL_isStep_327 ?_
  refine lv_icmp_ne (tgt := 335) hx hb dL_isStep_328 (by decide) (fun c_x => absurd rfl c_x) (fun _ => ?_)
  refine lv_iconst (v := 1) hx hb dL_isStep_331 (by decide) ?_
  refine lv_goto (tgt := 336) hx hb dL_isStep_332 (by decide) ?_
  refine lv_istore (lv' := [(10, .int 1), (9, .int (qEst k.1 pa)), (8, .int (qLeast k.1)), (7, .int (nI n)), (6, .int (nI pa)), (5, .int (qSum k.1)), (4, .int (xi >>> ((4 : Int32) &&& 31))), (0, .ref po), (1, .ref qo), (2, .int xi), (3, .int yi)]) hx hb dL_isStep_336 hl (by decide) rfl (fun ls hl => ?_)
  refine lv_iload hx hb dL_isStep_338 (lv_at hl 0 rfl) ?_
  refine lv_if_eq (tgt := 354) hx hb dL_isStep_340 (by decide) (fun c_x => absurd c_x (by decide : ¬ ((1 : Int32) = 0))) (fun _ => ?_)
  refine lv_aload_n hx hb dL_isStep_343 rfl (lv_at hl 7 rfl) ?_
  have hP := va_P_perm List.perm_append_comm hP
  have hD := va_D_perm List.perm_append_comm hD
  refine kV (ci := 7) (As := []) (rest := []) ⟨hx, hb, hml, hown, hts⟩ (o_clearText l D T po a k x) (cwV 0 hts gL_isStep_X8_clearText rfl rfl rfl (by decide +kernel) ⟨Nat.le_of_ble_eq_true rfl, Nat.le_of_ble_eq_true rfl⟩) hC hP hD hS hA rfl rfl rfl hl.1 rfl (Nat.le_of_ble_eq_true rfl) dL_isStep_344 ⟨(by show 0 + 0 + 0 ≤ 2; omega), (by show 0 + 0 + 0 ≤ 12; omega)⟩ (fun H locs hP hD hS => ?_)
  have hP : va_P D vwCl (wO T po a k (roX x pa 0) ++ wO T qo b (recQ k (tkR k.1 pa n)) ys) H := hP
  have hD : va_D A (wO T po a k (roX x pa 0) ++ wO T qo b (recQ k (tkR k.1 pa n)) ys) := hD
  refine W.eq (g2 := F0 m 347 ls [.int (nI x.1)]) rfl ?_
  refine lv_if_lt (tgt := 354) hx hb dL_isStep_347 (by decide) (fun c_x => absurd c_x (nI_pos (by omega))) (fun _ => ?_)
  refine lv_iconst (v := 1) hx hb dL_isStep_350 (by decide) ?_
  refine lv_goto (tgt := 355) hx hb dL_isStep_351 (by decide) ?_
  refine lv_istore (lv' := [(10, .int 1), (9, .int (qEst k.1 pa)), (8, .int (qLeast k.1)), (7, .int (nI n)), (6, .int (nI pa)), (5, .int (qSum k.1)), (4, .int (xi >>> ((4 : Int32) &&& 31))), (0, .ref po), (1, .ref qo), (2, .int xi), (3, .int yi)]) hx hb dL_isStep_355 hl (by decide) rfl (fun ls hl => ?_)
  refine lv_iconst (v := 0) hx hb dL_isStep_357 (by decide) ?_
  refine lv_istore (lv' := [(11, .int 0), (10, .int 1), (9, .int (qEst k.1 pa)), (8, .int (qLeast k.1)), (7, .int (nI n)), (6, .int (nI pa)), (5, .int (qSum k.1)), (4, .int (xi >>> ((4 : Int32) &&& 31))), (0, .ref po), (1, .ref qo), (2, .int xi), (3, .int yi)]) hx hb dL_isStep_358 hl (by decide) rfl (fun ls hl => ?_)
  have hP := va_P_perm List.perm_append_comm hP
  have hD := va_D_perm List.perm_append_comm hD
  exact loop_360 n 0 (by omega) _ _ _ _ _ hP hD hS (lv_sub hl [0, 1, 8, 9, 6, 5, 4, 3, 2] rfl) (by omega) (by omega)
set_option maxHeartbeats 4000000 in
set_option maxRecDepth 100000 in
theorem st_song_40_0 (l : Launch) (D : va_G) (T : Nat → ClassId) (hst9 : l.stackTraces = false) (po qo : Nat) (a b : Nat → Nat) (k : KS) (x y : CT) (xi yi : Int32) {M : Int} {pa n : Nat} {ys : CT} (hK : KI k M) (hM0 : 0 ≤ M) (hM : M + 40 ≤ 99999) (hx60 : x.1 ≤ 60) (hsel : upN xi 24 = 7 ∨ upN xi 24 = 8 ∨ upN xi 24 = 9) (hpa : upN yi 7 = pa) (hp : pa < 26) (hm : upN ((xi >>> ((4 : Int32) &&& 31)) >>> ((5 : Int32) &&& 31)) 6 = 0) (hn : 1 + (upN (xi >>> ((4 : Int32) &&& 31)) 40) = n) (h1 : 1 ≤ n) (h40 : n ≤ 40) (hi : ¬ upN ((xi >>> ((4 : Int32) &&& 31)) >>> ((3 : Int32) &&& 31)) 2 = 0) (hsg : kWN l D T yL_sung wsL_sung rL_sung 0 0 [.ref qo, .int (nI pa), .int (nI n), .int 0] (wO T qo b k y) (some (.int (qSum k.1 + nI n))) (wO T qo b (recQ k (tkR k.1 pa n)) ys)) : kWN l D T yL_isStep wsL_isStep rL_isStep 2 12 [.ref po, .ref qo, .int xi, .int yi] (wO T po a k x ++ wO T qo b k y) (some (.int 1)) (wO T po a (recQ k (tkR k.1 pa n)) (sgX (roX x pa n)) ++ wO T qo b (recQ k (tkR k.1 pa n)) ys) := by
  refine kWN.ofP (cc := cL_isStep) (maxL := 12) (ret := some .boolean) (by decide) rfl (Nat.le_of_ble_eq_true rfl) ?_
  intro p e s m below meth c A Q ls hx hb hml hown hr hlk hts hC hP hD hS hA hl hXX hZ hE hNc hret
  have hl : lv_has ls 12 [(0, .ref po), (1, .ref qo), (2, .int xi), (3, .int yi)] := hl
  have hP : va_P D vwCl (wO T po a k x ++ wO T qo b k y) s.heap := hP
  have hD : va_D A (wO T po a k x ++ wO T qo b k y) := hD
  have loop_360 : ∀ (n9 i : Nat), i + n9 = n → ∀ (H : Heap) (locs : List Loc) (cells slots : Nat) (ls : Array Slot), va_P D vwCl (wO T qo b (recQ k (tkR k.1 pa n)) ys ++ wO T po a k (roX x pa i)) H → va_D A (wO T qo b (recQ k (tkR k.1 pa n)) ys ++ wO T po a k (roX x pa i)) → va_S A s.heap H locs → lv_has ls 12 [(11, .int (nI i)), (10, .int 1), (0, .ref po), (1, .ref qo), (5, .int (qSum k.1)), (6, .int (nI pa)), (7, .int (nI n)), (8, .int (qLeast k.1)), (9, .int (qEst k.1 pa))] → cells ≤ 0 → slots ≤ 0 → W p l e rL_isStep s m ([.ref po, .ref qo, .int xi, .int yi] : List Value).toArray below meth c H locs cells slots Q (F0 m 360 ls []) := by
    intro n9
    induction n9 with
    | zero =>
      intro i hi H locs cells slots ls hP hD hS hl hce hso
      have hi9 : n = i := by omega
      subst hi9
      refine lv_iload hx hb dL_isStep_360 (lv_at hl 0 rfl) ?_
      refine lv_iload hx hb dL_isStep_362 (lv_at hl 6 rfl) ?_
      refine lv_icmp_ge (tgt := 401) hx hb dL_isStep_364 (by decide) (fun _ => ?_) (fun c_x => absurd (Int32.le_refl _) c_x)
      refine lv_iload hx hb dL_isStep_401 (lv_at hl 1 rfl) ?_
      refine lv_if_eq (tgt := 445) hx hb dL_isStep_403 (by decide) (fun c_x => absurd c_x (by decide : ¬ ((1 : Int32) = 0))) (fun _ => ?_)
      refine lv_aload_n hx hb dL_isStep_406 rfl (lv_at hl 2 rfl) ?_
      have hP := va_P_perm List.perm_append_comm hP
      have hD := va_D_perm List.perm_append_comm hD
      refine kWT (As := [.ref po]) (rest := []) ⟨hx, hb, hml, hown, hts⟩ (L_song l D T po a k (roX x pa n) hp (TX_roX hp h1 (by omega)) hK (by omega) (by omega)) (vx_cwSW 1 hts gL_isStep_L_song rfl rfl rfl (by decide +kernel) ⟨Nat.le_of_ble_eq_true rfl, Nat.le_of_ble_eq_true rfl⟩) hC hXX hZ hE hNc hP hD hS hA rfl hl.1 rfl (Nat.le_of_ble_eq_true rfl) dL_isStep_407 ⟨(by show cells ≤ 2; omega), (by show slots ≤ 12; omega)⟩ (fun H locs hP hD hS => ?_)
      have hP : va_P D vwCl (wO T po a (recQ k (tkR k.1 pa n)) (sgX (roX x pa n)) ++ wO T qo b (recQ k (tkR k.1 pa n)) ys) H := hP
      have hD : va_D A (wO T po a (recQ k (tkR k.1 pa n)) (sgX (roX x pa n)) ++ wO T qo b (recQ k (tkR k.1 pa n)) ys) := hD
      refine W.eq (g2 := F0 m 410 ls [.int (qSum k.1 + nI n)]) rfl ?_
      refine lv_iload hx hb dL_isStep_410 (lv_at hl 4 rfl) ?_
      refine lv_iload hx hb dL_isStep_412 (lv_at hl 6 rfl) ?_
      refine lv_iadd hx hb dL_isStep_414 ?_
      refine lv_icmp_ne (tgt := 445) hx hb dL_isStep_415 (by decide) (fun c_x => absurd rfl c_x) (fun _ => ?_)
      refine lv_aload_n hx hb dL_isStep_418 rfl (lv_at hl 2 rfl) ?_
      refine lv_iload hx hb dL_isStep_419 (lv_at hl 5 rfl) ?_
      refine kWT (As := [.ref po, .int (nI pa)]) (rest := []) ⟨hx, hb, hml, hown, hts⟩ (L_estimate l D T po a (recQ k (tkR k.1 pa n)) (sgX (roX x pa n)) pa hp) (vx_cwSW 2 hts gL_isStep_L_estimate rfl rfl rfl (by decide +kernel) ⟨Nat.le_of_ble_eq_true rfl, Nat.le_of_ble_eq_true rfl⟩) hC hXX hZ hE hNc hP hD hS hA rfl hl.1 rfl (Nat.le_of_ble_eq_true rfl) dL_isStep_421 ⟨(by show cells + 0 ≤ 2; omega), (by show slots + 0 ≤ 12; omega)⟩ (fun H locs hP hD hS => ?_)
      have hP : va_P D vwCl (wO T po a (recQ k (tkR k.1 pa n)) (sgX (roX x pa n)) ++ wO T qo b (recQ k (tkR k.1 pa n)) ys) H := hP
      have hD : va_D A (wO T po a (recQ k (tkR k.1 pa n)) (sgX (roX x pa n)) ++ wO T qo b (recQ k (tkR k.1 pa n)) ys) := hD
      refine W.eq (g2 := F0 m 424 ls [.int (qEst (recQ k (tkR k.1 pa n)).1 pa)]) rfl ?_
      refine lv_iload hx hb dL_isStep_424 (lv_at hl 8 rfl) ?_
      refine lv_iload hx hb dL_isStep_426 (lv_at hl 6 rfl) ?_
      refine lv_iadd hx hb dL_isStep_428 ?_
      refine lv_icmp_ne (tgt := 445) hx hb dL_isStep_429 (by decide) (fun c_x => absurd (f_estn hp hK.1 (by omega)) c_x) (fun _ => ?_)
      refine lv_aload_n hx hb dL_isStep_432 rfl (lv_at hl 2 rfl) ?_
      refine kV (ci := 7) (As := []) (rest := []) ⟨hx, hb, hml, hown, hts⟩ (o_floor l D T po a (recQ k (tkR k.1 pa n)) (sgX (roX x pa n))) (cwV 0 hts gL_isStep_X8_floor rfl rfl rfl (by decide +kernel) ⟨Nat.le_of_ble_eq_true rfl, Nat.le_of_ble_eq_true rfl⟩) hC hP hD hS hA rfl rfl rfl hl.1 rfl (Nat.le_of_ble_eq_true rfl) dL_isStep_433 ⟨(by show cells + 0 + 0 ≤ 2; omega), (by show slots + 0 + 0 ≤ 12; omega)⟩ (fun H locs hP hD hS => ?_)
      have hP : va_P D vwCl (wO T po a (recQ k (tkR k.1 pa n)) (sgX (roX x pa n)) ++ wO T qo b (recQ k (tkR k.1 pa n)) ys) H := hP
      have hD : va_D A (wO T po a (recQ k (tkR k.1 pa n)) (sgX (roX x pa n)) ++ wO T qo b (recQ k (tkR k.1 pa n)) ys) := hD
      refine W.eq (g2 := F0 m 436 ls [.int (qLeast (recQ k (tkR k.1 pa n)).1)]) rfl ?_
      refine lv_iload hx hb dL_isStep_436 (lv_at hl 7 rfl) ?_
      refine lv_icmp_lt (tgt := 445) hx hb dL_isStep_438 (by decide) (fun c_x => absurd c_x (f_least hp hK.1 (by omega))) (fun _ => ?_)
      refine lv_iconst (v := 1) hx hb dL_isStep_441 (by decide) ?_
      refine lv_goto (tgt := 446) hx hb dL_isStep_442 (by decide) ?_
      exact hret _ _ _ _ _ _ _ (by show cells + 0 + 0 ≤ 2; omega) (by show slots + 0 + 0 ≤ 12; omega) (fun Qc free hq hf => W.zret hx hb hr rfl hq hf dL_isStep_446 hlk) hP hD hS
    | succ n9 ih =>
      intro i hi H locs cells slots ls hP hD hS hl hce hso
      have hlt : i < n := by omega
      refine lv_iload hx hb dL_isStep_360 (lv_at hl 0 rfl) ?_
      refine lv_iload hx hb dL_isStep_362 (lv_at hl 6 rfl) ?_
      refine lv_icmp_ge (tgt := 401) hx hb dL_isStep_364 (by decide) (fun c_x => absurd c_x (nI_ge (a := i) (b := n) (by omega) (by omega))) (fun _ => ?_)
      refine lv_iload hx hb dL_isStep_367 (lv_at hl 1 rfl) ?_
      refine lv_if_eq (tgt := 392) hx hb dL_isStep_369 (by decide) (fun c_x => absurd c_x (by decide : ¬ ((1 : Int32) = 0))) (fun _ => ?_)
      refine lv_aload_n hx hb dL_isStep_372 rfl (lv_at hl 2 rfl) ?_
      refine lv_bipush (v := 97) hx hb dL_isStep_373 (by decide) ?_
      refine lv_iload hx hb dL_isStep_375 (lv_at hl 5 rfl) ?_
      refine lv_iadd hx hb dL_isStep_377 ?_
      refine W.eq (g2 := F0 m 378 ls (.int (nI (97 + pa)) :: [.ref po])) (congrArg (fun z => F0 m 378 ls (.int z :: [.ref po])) (nI_add 97 pa)) ?_
      have hP := va_P_perm List.perm_append_comm hP
      have hD := va_D_perm List.perm_append_comm hD
      refine kWT (As := [.ref po, .int (nI (97 + pa))]) (rest := []) ⟨hx, hb, hml, hown, hts⟩ (L_append l D T po a k (roX x pa i) (n := 97 + pa) (by omega) (by rw [roX_len]; omega)) (vx_cwSW 2 hts gL_isStep_L_append rfl rfl rfl (by decide +kernel) ⟨Nat.le_of_ble_eq_true rfl, Nat.le_of_ble_eq_true rfl⟩) hC hXX hZ hE hNc hP hD hS hA rfl hl.1 rfl (Nat.le_of_ble_eq_true rfl) dL_isStep_378 ⟨(by show cells ≤ 2; omega), (by show slots ≤ 12; omega)⟩ (fun H locs hP hD hS => ?_)
      have hP : va_P D vwCl (wO T po a k (roX x pa (i + 1)) ++ wO T qo b (recQ k (tkR k.1 pa n)) ys) H := hP
      have hD : va_D A (wO T po a k (roX x pa (i + 1)) ++ wO T qo b (recQ k (tkR k.1 pa n)) ys) := hD
      refine W.eq (g2 := F0 m 381 ls [.int (nI ((roX x pa i).1 + 1))]) rfl ?_
      refine W.eq (g2 := F0 m 381 ls (.int (nI (i + 1)) :: [])) (congrArg (fun z => F0 m 381 ls (.int z :: [])) (by rw [roX_len] : (nI ((roX x pa i).1 + 1) : Int32) = nI (i + 1))) ?_
      refine lv_iload hx hb dL_isStep_381 (lv_at hl 0 rfl) ?_
      refine lv_iconst (v := 1) hx hb dL_isStep_383 (by decide) ?_
      refine lv_iadd hx hb dL_isStep_384 ?_
      refine W.eq (g2 := F0 m 385 ls (.int (nI (i + 1)) :: [.int (nI (i + 1))])) (congrArg (fun z => F0 m 385 ls (.int z :: [.int (nI (i + 1))])) (nI_1 i)) ?_
      refine lv_icmp_ne (tgt := 392) hx hb dL_isStep_385 (by decide) (fun c_x => absurd rfl c_x) (fun _ => ?_)
      refine lv_iconst (v := 1) hx hb dL_isStep_388 (by decide) ?_
      refine lv_goto (tgt := 393) hx hb dL_isStep_389 (by decide) ?_
      refine lv_istore (lv' := [(10, .int 1), (11, .int (nI i)), (0, .ref po), (1, .ref qo), (5, .int (qSum k.1)), (6, .int (nI pa)), (7, .int (nI n)), (8, .int (qLeast k.1)), (9, .int (qEst k.1 pa))]) hx hb dL_isStep_393 hl (by decide) rfl (fun ls hl => ?_)
      refine lv_iinc (v := nI (i + 1)) (lv' := [(11, .int (nI (i + 1))), (10, .int 1), (0, .ref po), (1, .ref qo), (5, .int (qSum k.1)), (6, .int (nI pa)), (7, .int (nI n)), (8, .int (qLeast k.1)), (9, .int (qEst k.1 pa))]) hx hb dL_isStep_395 hl (k := 1) rfl (nI_1 i) (by decide) rfl (fun ls hl => ?_)
      refine lv_goto (tgt := 360) hx hb dL_isStep_398 (by decide) ?_
      have hP := va_P_perm List.perm_append_comm hP
      have hD := va_D_perm List.perm_append_comm hD
      exact ih (i + 1) (by omega) _ _ _ _ _ hP hD hS (lv_sub hl [0, 1, 2, 3, 4, 5, 6, 7, 8] rfl) (by omega) (by omega)
  refine lv_iload_n hx hb dL_isStep_0 rfl (lv_at hl 2 rfl) ?_
  refine lv_iconst (v := 4) hx hb dL_isStep_1 (by decide) ?_
  refine lv_ishr hx hb dL_isStep_2 ?_
  refine lv_istore (lv' := [(4, .int (xi >>> ((4 : Int32) &&& 31))), (0, .ref po), (1, .ref qo), (2, .int xi), (3, .int yi)]) hx hb dL_isStep_3 hl (by decide) rfl (fun ls hl => ?_)
  refine lv_aload_n hx hb dL_isStep_5 rfl (lv_at hl 1 rfl) ?_
  refine kV (ci := 7) (As := []) (rest := []) ⟨hx, hb, hml, hown, hts⟩ (o_calls l D T po a k x) (cwV 0 hts gL_isStep_X8_calls rfl rfl rfl (by decide +kernel) ⟨Nat.le_of_ble_eq_true rfl, Nat.le_of_ble_eq_true rfl⟩) hC hP hD hS hA rfl rfl rfl hl.1 rfl (Nat.le_of_ble_eq_true rfl) dL_isStep_6 ⟨(Nat.zero_le _), (Nat.zero_le _)⟩ (fun H locs hP hD hS => ?_)
  have hP : va_P D vwCl (wO T po a k x ++ wO T qo b k y) H := hP
  have hD : va_D A (wO T po a k x ++ wO T qo b k y) := hD
  refine W.eq (g2 := F0 m 9 ls [.int (qSum k.1)]) rfl ?_
  refine lv_istore (lv' := [(5, .int (qSum k.1)), (4, .int (xi >>> ((4 : Int32) &&& 31))), (0, .ref po), (1, .ref qo), (2, .int xi), (3, .int yi)]) hx hb dL_isStep_9 hl (by decide) rfl (fun ls hl => ?_)
  refine lv_iload_n hx hb dL_isStep_11 rfl (lv_at hl 4 rfl) ?_
  refine lv_bipush (v := 24) hx hb dL_isStep_12 (by decide) ?_
  have hP : va_P D vwCl ([] ++ (wO T po a k x ++ wO T qo b k y)) _ := hP
  have hD : va_D A ([] ++ (wO T po a k x ++ wO T qo b k y)) := hD
  refine kS (As := [.int xi, .int 24]) (rest := []) ⟨hx, hb, hml, hown, hts⟩ (L_up l D T xi 24 (by decide) (by decide)) (va_cwS 2 hts gL_isStep_L_up rfl rfl rfl (by decide +kernel) ⟨Nat.le_of_ble_eq_true rfl, Nat.le_of_ble_eq_true rfl⟩) hC hP hD hS hA rfl hl.1 rfl (Nat.le_of_ble_eq_true rfl) dL_isStep_14 ⟨(Nat.zero_le _), (Nat.zero_le _)⟩ (fun H locs hP hD hS => ?_)
  have hP : va_P D vwCl (wO T po a k x ++ wO T qo b k y) H := hP
  have hD : va_D A (wO T po a k x ++ wO T qo b k y) := hD
  refine W.eq (g2 := F0 m 17 ls [.int (nI (upN xi 24))]) rfl ?_
  refine lv_tableIn (x := nI (upN xi 24)) (off := 233) (tgt := 250) hx hb dL_isStep_17 (by rcases hsel with h9 | h9 | h9 <;> rw [h9] <;> decide) (by rcases hsel with h9 | h9 | h9 <;> rw [h9] <;> decide) (by rcases hsel with h9 | h9 | h9 <;> rw [h9] <;> rfl) (by decide) ?_
  refine lv_iload_n hx hb dL_isStep_250 rfl (lv_at hl 5 rfl) ?_
  refine lv_bipush (v := 7) hx hb dL_isStep_251 (by decide) ?_
  have hP : va_P D vwCl ([] ++ (wO T po a k x ++ wO T qo b k y)) _ := hP
  have hD : va_D A ([] ++ (wO T po a k x ++ wO T qo b k y)) := hD
  refine kS (As := [.int yi, .int 7]) (rest := []) ⟨hx, hb, hml, hown, hts⟩ (L_up l D T yi 7 (by decide) (by decide)) (va_cwS 2 hts gL_isStep_L_up rfl rfl rfl (by decide +kernel) ⟨Nat.le_of_ble_eq_true rfl, Nat.le_of_ble_eq_true rfl⟩) hC hP hD hS hA rfl hl.1 rfl (Nat.le_of_ble_eq_true rfl) dL_isStep_253 ⟨(Nat.zero_le _), (Nat.zero_le _)⟩ (fun H locs hP hD hS => ?_)
  have hP : va_P D vwCl (wO T po a k x ++ wO T qo b k y) H := hP
  have hD : va_D A (wO T po a k x ++ wO T qo b k y) := hD
  refine W.eq (g2 := F0 m 256 ls [.int (nI (upN yi 7))]) rfl ?_
  refine W.eq (g2 := F0 m 256 ls (.int (nI pa) :: [])) (congrArg (fun z => F0 m 256 ls (.int z :: [])) (by rw [hpa] : (nI (upN yi 7) : Int32) = nI pa)) ?_
  refine lv_istore (lv' := [(6, .int (nI pa)), (5, .int (qSum k.1)), (4, .int (xi >>> ((4 : Int32) &&& 31))), (0, .ref po), (1, .ref qo), (2, .int xi), (3, .int yi)]) hx hb dL_isStep_256 hl (by decide) rfl (fun ls hl => ?_)
  refine lv_iconst (v := 1) hx hb dL_isStep_258 (by decide) ?_
  refine lv_iload hx hb dL_isStep_259 (lv_at hl 2 rfl) ?_
  refine lv_iload hx hb dL_isStep_261 (lv_at hl 2 rfl) ?_
  refine lv_iconst (v := 5) hx hb dL_isStep_263 (by decide) ?_
  refine lv_ishr hx hb dL_isStep_264 ?_
  refine lv_bipush (v := 6) hx hb dL_isStep_265 (by decide) ?_
  have hP : va_P D vwCl ([] ++ (wO T po a k x ++ wO T qo b k y)) _ := hP
  have hD : va_D A ([] ++ (wO T po a k x ++ wO T qo b k y)) := hD
  refine kS (As := [.int ((xi >>> ((4 : Int32) &&& 31)) >>> ((5 : Int32) &&& 31)), .int 6]) (rest := [.int (xi >>> ((4 : Int32) &&& 31)), .int 1]) ⟨hx, hb, hml, hown, hts⟩ (L_up l D T ((xi >>> ((4 : Int32) &&& 31)) >>> ((5 : Int32) &&& 31)) 6 (by decide) (by decide)) (va_cwS 2 hts gL_isStep_L_up rfl rfl rfl (by decide +kernel) ⟨Nat.le_of_ble_eq_true rfl, Nat.le_of_ble_eq_true rfl⟩) hC hP hD hS hA rfl hl.1 rfl (Nat.le_of_ble_eq_true rfl) dL_isStep_267 ⟨(Nat.zero_le _), (Nat.zero_le _)⟩ (fun H locs hP hD hS => ?_)
  have hP : va_P D vwCl (wO T po a k x ++ wO T qo b k y) H := hP
  have hD : va_D A (wO T po a k x ++ wO T qo b k y) := hD
  refine W.eq (g2 := F0 m 270 ls [.int (nI (upN ((xi >>> ((4 : Int32) &&& 31)) >>> ((5 : Int32) &&& 31)) 6)), .int (xi >>> ((4 : Int32) &&& 31)), .int 1]) rfl ?_
  refine lv_if_ne (tgt := 278) hx hb dL_isStep_270 (by decide) (fun c_x => absurd (by rw [hm]; rfl) c_x) (fun _ => ?_)
  refine lv_bipush (v := 40) hx hb dL_isStep_273 (by decide) ?_
  refine lv_goto (tgt := 279) hx hb dL_isStep_275 (by decide) ?_
  have hP : va_P D vwCl ([] ++ (wO T po a k x ++ wO T qo b k y)) _ := hP
  have hD : va_D A ([] ++ (wO T po a k x ++ wO T qo b k y)) := hD
  refine kS (As := [.int (xi >>> ((4 : Int32) &&& 31)), .int 40]) (rest := [.int 1]) ⟨hx, hb, hml, hown, hts⟩ (L_up l D T (xi >>> ((4 : Int32) &&& 31)) 40 (by decide) (by decide)) (va_cwS 2 hts gL_isStep_L_up rfl rfl rfl (by decide +kernel) ⟨Nat.le_of_ble_eq_true rfl, Nat.le_of_ble_eq_true rfl⟩) hC hP hD hS hA rfl hl.1 rfl (Nat.le_of_ble_eq_true rfl) dL_isStep_279 ⟨(Nat.zero_le _), (Nat.zero_le _)⟩ (fun H locs hP hD hS => ?_)
  have hP : va_P D vwCl (wO T po a k x ++ wO T qo b k y) H := hP
  have hD : va_D A (wO T po a k x ++ wO T qo b k y) := hD
  refine W.eq (g2 := F0 m 282 ls [.int (nI (upN (xi >>> ((4 : Int32) &&& 31)) 40)), .int 1]) rfl ?_
  refine lv_iadd hx hb dL_isStep_282 ?_
  refine W.eq (g2 := F0 m 283 ls (.int (nI (1 + (upN (xi >>> ((4 : Int32) &&& 31)) 40))) :: [])) (congrArg (fun z => F0 m 283 ls (.int z :: [])) (nI_add 1 (upN (xi >>> ((4 : Int32) &&& 31)) 40))) ?_
  refine W.eq (g2 := F0 m 283 ls (.int (nI n) :: [])) (congrArg (fun z => F0 m 283 ls (.int z :: [])) (by rw [hn] : (nI (1 + (upN (xi >>> ((4 : Int32) &&& 31)) 40)) : Int32) = nI n)) ?_
  refine lv_istore (lv' := [(7, .int (nI n)), (6, .int (nI pa)), (5, .int (qSum k.1)), (4, .int (xi >>> ((4 : Int32) &&& 31))), (0, .ref po), (1, .ref qo), (2, .int xi), (3, .int yi)]) hx hb dL_isStep_283 hl (by decide) rfl (fun ls hl => ?_)
  refine lv_aload_n hx hb dL_isStep_285 rfl (lv_at hl 4 rfl) ?_
  refine kV (ci := 7) (As := []) (rest := []) ⟨hx, hb, hml, hown, hts⟩ (o_floor l D T po a k x) (cwV 0 hts gL_isStep_X8_floor rfl rfl rfl (by decide +kernel) ⟨Nat.le_of_ble_eq_true rfl, Nat.le_of_ble_eq_true rfl⟩) hC hP hD hS hA rfl rfl rfl hl.1 rfl (Nat.le_of_ble_eq_true rfl) dL_isStep_286 ⟨(Nat.zero_le _), (Nat.zero_le _)⟩ (fun H locs hP hD hS => ?_)
  have hP : va_P D vwCl (wO T po a k x ++ wO T qo b k y) H := hP
  have hD : va_D A (wO T po a k x ++ wO T qo b k y) := hD
  refine W.eq (g2 := F0 m 289 ls [.int (qLeast k.1)]) rfl ?_
  refine lv_istore (lv' := [(8, .int (qLeast k.1)), (7, .int (nI n)), (6, .int (nI pa)), (5, .int (qSum k.1)), (4, .int (xi >>> ((4 : Int32) &&& 31))), (0, .ref po), (1, .ref qo), (2, .int xi), (3, .int yi)]) hx hb dL_isStep_289 hl (by decide) rfl (fun ls hl => ?_)
  refine lv_aload_n hx hb dL_isStep_291 rfl (lv_at hl 5 rfl) ?_
  refine lv_iload hx hb dL_isStep_292 (lv_at hl 2 rfl) ?_
  refine kWT (As := [.ref po, .int (nI pa)]) (rest := []) ⟨hx, hb, hml, hown, hts⟩ (L_estimate l D T po a k x pa hp) (vx_cwSW 2 hts gL_isStep_L_estimate rfl rfl rfl (by decide +kernel) ⟨Nat.le_of_ble_eq_true rfl, Nat.le_of_ble_eq_true rfl⟩) hC hXX hZ hE hNc hP hD hS hA rfl hl.1 rfl (Nat.le_of_ble_eq_true rfl) dL_isStep_294 ⟨(Nat.zero_le _), (Nat.zero_le _)⟩ (fun H locs hP hD hS => ?_)
  have hP : va_P D vwCl (wO T po a k x ++ wO T qo b k y) H := hP
  have hD : va_D A (wO T po a k x ++ wO T qo b k y) := hD
  refine W.eq (g2 := F0 m 297 ls [.int (qEst k.1 pa)]) rfl ?_
  refine lv_istore (lv' := [(9, .int (qEst k.1 pa)), (8, .int (qLeast k.1)), (7, .int (nI n)), (6, .int (nI pa)), (5, .int (qSum k.1)), (4, .int (xi >>> ((4 : Int32) &&& 31))), (0, .ref po), (1, .ref qo), (2, .int xi), (3, .int yi)]) hx hb dL_isStep_297 hl (by decide) rfl (fun ls hl => ?_)
  refine lv_aload_n hx hb dL_isStep_299 rfl (lv_at hl 7 rfl) ?_
  refine lv_iload hx hb dL_isStep_300 (lv_at hl 3 rfl) ?_
  refine lv_iload hx hb dL_isStep_302 (lv_at hl 2 rfl) ?_
  refine lv_iload hx hb dL_isStep_304 (lv_at hl 5 rfl) ?_
  refine lv_iconst (v := 3) hx hb dL_isStep_306 (by decide) ?_
  refine lv_ishr hx hb dL_isStep_307 ?_
  refine lv_iconst (v := 2) hx hb dL_isStep_308 (by decide) ?_
  have hP : va_P D vwCl ([] ++ (wO T po a k x ++ wO T qo b k y)) _ := hP
  have hD : va_D A ([] ++ (wO T po a k x ++ wO T qo b k y)) := hD
  refine kS (As := [.int ((xi >>> ((4 : Int32) &&& 31)) >>> ((3 : Int32) &&& 31)), .int 2]) (rest := [.int (nI n), .int (nI pa), .ref qo]) ⟨hx, hb, hml, hown, hts⟩ (L_up l D T ((xi >>> ((4 : Int32) &&& 31)) >>> ((3 : Int32) &&& 31)) 2 (by decide) (by decide)) (va_cwS 2 hts gL_isStep_L_up rfl rfl rfl (by decide +kernel) ⟨Nat.le_of_ble_eq_true rfl, Nat.le_of_ble_eq_true rfl⟩) hC hP hD hS hA rfl hl.1 rfl (Nat.le_of_ble_eq_true rfl) dL_isStep_309 ⟨(by show 0 + 0 ≤ 2; omega), (by show 0 + 0 ≤ 12; omega)⟩ (fun H locs hP hD hS => ?_)
  have hP : va_P D vwCl (wO T po a k x ++ wO T qo b k y) H := hP
  have hD : va_D A (wO T po a k x ++ wO T qo b k y) := hD
  refine W.eq (g2 := F0 m 312 ls [.int (nI (upN ((xi >>> ((4 : Int32) &&& 31)) >>> ((3 : Int32) &&& 31)) 2)), .int (nI n), .int (nI pa), .ref qo]) rfl ?_
  refine lv_if_ne (tgt := 319) hx hb dL_isStep_312 (by decide) (fun _ => ?_) (fun c_x => absurd c_x (up_eq0 (by decide) (by decide) hi))
  refine lv_iconst (v := 0) hx hb dL_isStep_319 (by decide) ?_
  have hP := va_P_perm List.perm_append_comm hP
  have hD := va_D_perm List.perm_append_comm hD
  refine kWP (As := [.ref qo, .int (nI pa), .int (nI n), .int 0]) (rest := []) ⟨hx, hb, hml, hown, hts⟩ hsg (va_cwS 4 hts gL_isStep_L_sung rfl rfl rfl (by decide +kernel) ⟨Nat.le_of_ble_eq_true rfl, Nat.le_of_ble_eq_true rfl⟩) hC hXX hZ hE hNc hP hD hS hA rfl hl.1 rfl (Nat.le_of_ble_eq_true rfl) dL_isStep_320 ⟨(by show 0 + 0 ≤ 2; omega), (by show 0 + 0 ≤ 12; omega)⟩ (fun H locs hP hD hS => ?_)
  have hP : va_P D vwCl (wO T qo b (recQ k (tkR k.1 pa n)) ys ++ wO T po a k x) H := hP
  have hD : va_D A (wO T qo b (recQ k (tkR k.1 pa n)) ys ++ wO T po a k x) := hD
  refine W.eq (g2 := F0 m 323 ls [.int (qSum k.1 + nI n)]) rfl ?_
  refine lv_iload hx hb dL_isStep_323 (lv_at hl 4 rfl) ?_
  refine lv_iload hx hb dL_isStep_325 (lv_at hl 2 rfl) ?_
  refine lv_iadd hx hb dL_isStep_327 ?_
  refine lv_icmp_ne (tgt := 335) hx hb dL_isStep_328 (by decide) (fun c_x => absurd rfl c_x) (fun _ => ?_)
  refine lv_iconst (v := 1) hx hb dL_isStep_331 (by decide) ?_
  refine lv_goto (tgt := 336) hx hb dL_isStep_332 (by decide) ?_
  refine lv_istore (lv' := [(10, .int 1), (9, .int (qEst k.1 pa)), (8, .int (qLeast k.1)), (7, .int (nI n)), (6, .int (nI pa)), (5, .int (qSum k.1)), (4, .int (xi >>> ((4 : Int32) &&& 31))), (0, .ref po), (1, .ref qo), (2, .int xi), (3, .int yi)]) hx hb dL_isStep_336 hl (by decide) rfl (fun ls hl => ?_)
  refine lv_iload hx hb dL_isStep_338 (lv_at hl 0 rfl) ?_
  refine lv_if_eq (tgt := 354) hx hb dL_isStep_340 (by decide) (fun c_x => absurd c_x (by decide : ¬ ((1 : Int32) = 0))) (fun _ => ?_)
  refine lv_aload_n hx hb dL_isStep_343 rfl (lv_at hl 7 rfl) ?_
  have hP := va_P_perm List.perm_append_comm hP
  have hD := va_D_perm List.perm_append_comm hD
  refine kV (ci := 7) (As := []) (rest := []) ⟨hx, hb, hml, hown, hts⟩ (o_clearText l D T po a k x) (cwV 0 hts gL_isStep_X8_clearText rfl rfl rfl (by decide +kernel) ⟨Nat.le_of_ble_eq_true rfl, Nat.le_of_ble_eq_true rfl⟩) hC hP hD hS hA rfl rfl rfl hl.1 rfl (Nat.le_of_ble_eq_true rfl) dL_isStep_344 ⟨(by show 0 + 0 + 0 ≤ 2; omega), (by show 0 + 0 + 0 ≤ 12; omega)⟩ (fun H locs hP hD hS => ?_)
  have hP : va_P D vwCl (wO T po a k (roX x pa 0) ++ wO T qo b (recQ k (tkR k.1 pa n)) ys) H := hP
  have hD : va_D A (wO T po a k (roX x pa 0) ++ wO T qo b (recQ k (tkR k.1 pa n)) ys) := hD
  refine W.eq (g2 := F0 m 347 ls [.int (nI x.1)]) rfl ?_
  refine lv_if_lt (tgt := 354) hx hb dL_isStep_347 (by decide) (fun c_x => absurd c_x (nI_pos (by omega))) (fun _ => ?_)
  refine lv_iconst (v := 1) hx hb dL_isStep_350 (by decide) ?_
  refine lv_goto (tgt := 355) hx hb dL_isStep_351 (by decide) ?_
  refine lv_istore (lv' := [(10, .int 1), (9, .int (qEst k.1 pa)), (8, .int (qLeast k.1)), (7, .int (nI n)), (6, .int (nI pa)), (5, .int (qSum k.1)), (4, .int (xi >>> ((4 : Int32) &&& 31))), (0, .ref po), (1, .ref qo), (2, .int xi), (3, .int yi)]) hx hb dL_isStep_355 hl (by decide) rfl (fun ls hl => ?_)
  refine lv_iconst (v := 0) hx hb dL_isStep_357 (by decide) ?_
  refine lv_istore (lv' := [(11, .int 0), (10, .int 1), (9, .int (qEst k.1 pa)), (8, .int (qLeast k.1)), (7, .int (nI n)), (6, .int (nI pa)), (5, .int (qSum k.1)), (4, .int (xi >>> ((4 : Int32) &&& 31))), (0, .ref po), (1, .ref qo), (2, .int xi), (3, .int yi)]) hx hb dL_isStep_358 hl (by decide) rfl (fun ls hl => ?_)
  have hP := va_P_perm List.perm_append_comm hP
  have hD := va_D_perm List.perm_append_comm hD
  exact loop_360 n 0 (by omega) _ _ _ _ _ hP hD hS (lv_sub hl [0, 1, 8, 9, 6, 5, 4, 3, 2] rfl) (by omega) (by omega)
set_option maxHeartbeats 4000000 in
set_option maxRecDepth 100000 in
theorem st_song_5_1 (l : Launch) (D : va_G) (T : Nat → ClassId) (hst9 : l.stackTraces = false) (po qo : Nat) (a b : Nat → Nat) (k : KS) (x y : CT) (xi yi : Int32) {M : Int} {pa n : Nat} {ys : CT} (hK : KI k M) (hM0 : 0 ≤ M) (hM : M + 40 ≤ 99999) (hx60 : x.1 ≤ 60) (hsel : upN xi 24 = 7 ∨ upN xi 24 = 8 ∨ upN xi 24 = 9) (hpa : upN yi 7 = pa) (hp : pa < 26) (hm : ¬ upN ((xi >>> ((4 : Int32) &&& 31)) >>> ((5 : Int32) &&& 31)) 6 = 0) (hn : 1 + (upN (xi >>> ((4 : Int32) &&& 31)) 5) = n) (h1 : 1 ≤ n) (h40 : n ≤ 40) (hi : upN ((xi >>> ((4 : Int32) &&& 31)) >>> ((3 : Int32) &&& 31)) 2 = 0) (hsg : kWN l D T yL_sung wsL_sung rL_sung 0 0 [.ref qo, .int (nI pa), .int (nI n), .int 1] (wO T qo b k y) (some (.int (qSum k.1 + nI n))) (wO T qo b (recQ k (tkR k.1 pa n)) ys)) : kWN l D T yL_isStep wsL_isStep rL_isStep 2 12 [.ref po, .ref qo, .int xi, .int yi] (wO T po a k x ++ wO T qo b k y) (some (.int 1)) (wO T po a (recQ k (tkR k.1 pa n)) (sgX (roX x pa n)) ++ wO T qo b (recQ k (tkR k.1 pa n)) ys) := by
  refine kWN.ofP (cc := cL_isStep) (maxL := 12) (ret := some .boolean) (by decide) rfl (Nat.le_of_ble_eq_true rfl) ?_
  intro p e s m below meth c A Q ls hx hb hml hown hr hlk hts hC hP hD hS hA hl hXX hZ hE hNc hret
  have hl : lv_has ls 12 [(0, .ref po), (1, .ref qo), (2, .int xi), (3, .int yi)] := hl
  have hP : va_P D vwCl (wO T po a k x ++ wO T qo b k y) s.heap := hP
  have hD : va_D A (wO T po a k x ++ wO T qo b k y) := hD
  have loop_360 : ∀ (n9 i : Nat), i + n9 = n → ∀ (H : Heap) (locs : List Loc) (cells slots : Nat) (ls : Array Slot), va_P D vwCl (wO T qo b (recQ k (tkR k.1 pa n)) ys ++ wO T po a k (roX x pa i)) H → va_D A (wO T qo b (recQ k (tkR k.1 pa n)) ys ++ wO T po a k (roX x pa i)) → va_S A s.heap H locs → lv_has ls 12 [(11, .int (nI i)), (10, .int 1), (0, .ref po), (1, .ref qo), (5, .int (qSum k.1)), (6, .int (nI pa)), (7, .int (nI n)), (8, .int (qLeast k.1)), (9, .int (qEst k.1 pa))] → cells ≤ 0 → slots ≤ 0 → W p l e rL_isStep s m ([.ref po, .ref qo, .int xi, .int yi] : List Value).toArray below meth c H locs cells slots Q (F0 m 360 ls []) := by
    intro n9
    induction n9 with
    | zero =>
      intro i hi H locs cells slots ls hP hD hS hl hce hso
      have hi9 : n = i := by omega
      subst hi9
      refine lv_iload hx hb dL_isStep_360 (lv_at hl 0 rfl) ?_
      refine lv_iload hx hb dL_isStep_362 (lv_at hl 6 rfl) ?_
      refine lv_icmp_ge (tgt := 401) hx hb dL_isStep_364 (by decide) (fun _ => ?_) (fun c_x => absurd (Int32.le_refl _) c_x)
      refine lv_iload hx hb dL_isStep_401 (lv_at hl 1 rfl) ?_
      refine lv_if_eq (tgt := 445) hx hb dL_isStep_403 (by decide) (fun c_x => absurd c_x (by decide : ¬ ((1 : Int32) = 0))) (fun _ => ?_)
      refine lv_aload_n hx hb dL_isStep_406 rfl (lv_at hl 2 rfl) ?_
      have hP := va_P_perm List.perm_append_comm hP
      have hD := va_D_perm List.perm_append_comm hD
      refine kWT (As := [.ref po]) (rest := []) ⟨hx, hb, hml, hown, hts⟩ (L_song l D T po a k (roX x pa n) hp (TX_roX hp h1 (by omega)) hK (by omega) (by omega)) (vx_cwSW 1 hts gL_isStep_L_song rfl rfl rfl (by decide +kernel) ⟨Nat.le_of_ble_eq_true rfl, Nat.le_of_ble_eq_true rfl⟩) hC hXX hZ hE hNc hP hD hS hA rfl hl.1 rfl (Nat.le_of_ble_eq_true rfl) dL_isStep_407 ⟨(by show cells ≤ 2; omega), (by show slots ≤ 12; omega)⟩ (fun H locs hP hD hS => ?_)
      have hP : va_P D vwCl (wO T po a (recQ k (tkR k.1 pa n)) (sgX (roX x pa n)) ++ wO T qo b (recQ k (tkR k.1 pa n)) ys) H := hP
      have hD : va_D A (wO T po a (recQ k (tkR k.1 pa n)) (sgX (roX x pa n)) ++ wO T qo b (recQ k (tkR k.1 pa n)) ys) := hD
      refine W.eq (g2 := F0 m 410 ls [.int (qSum k.1 + nI n)]) rfl ?_
      refine lv_iload hx hb dL_isStep_410 (lv_at hl 4 rfl) ?_
      refine lv_iload hx hb dL_isStep_412 (lv_at hl 6 rfl) ?_
      refine lv_iadd hx hb dL_isStep_414 ?_
      refine lv_icmp_ne (tgt := 445) hx hb dL_isStep_415 (by decide) (fun c_x => absurd rfl c_x) (fun _ => ?_)
      refine lv_aload_n hx hb dL_isStep_418 rfl (lv_at hl 2 rfl) ?_
      refine lv_iload hx hb dL_isStep_419 (lv_at hl 5 rfl) ?_
      refine kWT (As := [.ref po, .int (nI pa)]) (rest := []) ⟨hx, hb, hml, hown, hts⟩ (L_estimate l D T po a (recQ k (tkR k.1 pa n)) (sgX (roX x pa n)) pa hp) (vx_cwSW 2 hts gL_isStep_L_estimate rfl rfl rfl (by decide +kernel) ⟨Nat.le_of_ble_eq_true rfl, Nat.le_of_ble_eq_true rfl⟩) hC hXX hZ hE hNc hP hD hS hA rfl hl.1 rfl (Nat.le_of_ble_eq_true rfl) dL_isStep_421 ⟨(by show cells + 0 ≤ 2; omega), (by show slots + 0 ≤ 12; omega)⟩ (fun H locs hP hD hS => ?_)
      have hP : va_P D vwCl (wO T po a (recQ k (tkR k.1 pa n)) (sgX (roX x pa n)) ++ wO T qo b (recQ k (tkR k.1 pa n)) ys) H := hP
      have hD : va_D A (wO T po a (recQ k (tkR k.1 pa n)) (sgX (roX x pa n)) ++ wO T qo b (recQ k (tkR k.1 pa n)) ys) := hD
      refine W.eq (g2 := F0 m 424 ls [.int (qEst (recQ k (tkR k.1 pa n)).1 pa)]) rfl ?_
      refine lv_iload hx hb dL_isStep_424 (lv_at hl 8 rfl) ?_
      refine lv_iload hx hb dL_isStep_426 (lv_at hl 6 rfl) ?_
      refine lv_iadd hx hb dL_isStep_428 ?_
      refine lv_icmp_ne (tgt := 445) hx hb dL_isStep_429 (by decide) (fun c_x => absurd (f_estn hp hK.1 (by omega)) c_x) (fun _ => ?_)
      refine lv_aload_n hx hb dL_isStep_432 rfl (lv_at hl 2 rfl) ?_
      refine kV (ci := 7) (As := []) (rest := []) ⟨hx, hb, hml, hown, hts⟩ (o_floor l D T po a (recQ k (tkR k.1 pa n)) (sgX (roX x pa n))) (cwV 0 hts gL_isStep_X8_floor rfl rfl rfl (by decide +kernel) ⟨Nat.le_of_ble_eq_true rfl, Nat.le_of_ble_eq_true rfl⟩) hC hP hD hS hA rfl rfl rfl hl.1 rfl (Nat.le_of_ble_eq_true rfl) dL_isStep_433 ⟨(by show cells + 0 + 0 ≤ 2; omega), (by show slots + 0 + 0 ≤ 12; omega)⟩ (fun H locs hP hD hS => ?_)
      have hP : va_P D vwCl (wO T po a (recQ k (tkR k.1 pa n)) (sgX (roX x pa n)) ++ wO T qo b (recQ k (tkR k.1 pa n)) ys) H := hP
      have hD : va_D A (wO T po a (recQ k (tkR k.1 pa n)) (sgX (roX x pa n)) ++ wO T qo b (recQ k (tkR k.1 pa n)) ys) := hD
      refine W.eq (g2 := F0 m 436 ls [.int (qLeast (recQ k (tkR k.1 pa n)).1)]) rfl ?_
      refine lv_iload hx hb dL_isStep_436 (lv_at hl 7 rfl) ?_
      refine lv_icmp_lt (tgt := 445) hx hb dL_isStep_438 (by decide) (fun c_x => absurd c_x (f_least hp hK.1 (by omega))) (fun _ => ?_)
      refine lv_iconst (v := 1) hx hb dL_isStep_441 (by decide) ?_
      refine lv_goto (tgt := 446) hx hb dL_isStep_442 (by decide) ?_
      exact hret _ _ _ _ _ _ _ (by show cells + 0 + 0 ≤ 2; omega) (by show slots + 0 + 0 ≤ 12; omega) (fun Qc free hq hf => W.zret hx hb hr rfl hq hf dL_isStep_446 hlk) hP hD hS
    | succ n9 ih =>
      intro i hi H locs cells slots ls hP hD hS hl hce hso
      have hlt : i < n := by omega
      refine lv_iload hx hb dL_isStep_360 (lv_at hl 0 rfl) ?_
      refine lv_iload hx hb dL_isStep_362 (lv_at hl 6 rfl) ?_
      refine lv_icmp_ge (tgt := 401) hx hb dL_isStep_364 (by decide) (fun c_x => absurd c_x (nI_ge (a := i) (b := n) (by omega) (by omega))) (fun _ => ?_)
      refine lv_iload hx hb dL_isStep_367 (lv_at hl 1 rfl) ?_
      refine lv_if_eq (tgt := 392) hx hb dL_isStep_369 (by decide) (fun c_x => absurd c_x (by decide : ¬ ((1 : Int32) = 0))) (fun _ => ?_)
      refine lv_aload_n hx hb dL_isStep_372 rfl (lv_at hl 2 rfl) ?_
      refine lv_bipush (v := 97) hx hb dL_isStep_373 (by decide) ?_
      refine lv_iload hx hb dL_isStep_375 (lv_at hl 5 rfl) ?_
      refine lv_iadd hx hb dL_isStep_377 ?_
      refine W.eq (g2 := F0 m 378 ls (.int (nI (97 + pa)) :: [.ref po])) (congrArg (fun z => F0 m 378 ls (.int z :: [.ref po])) (nI_add 97 pa)) ?_
      have hP := va_P_perm List.perm_append_comm hP
      have hD := va_D_perm List.perm_append_comm hD
      refine kWT (As := [.ref po, .int (nI (97 + pa))]) (rest := []) ⟨hx, hb, hml, hown, hts⟩ (L_append l D T po a k (roX x pa i) (n := 97 + pa) (by omega) (by rw [roX_len]; omega)) (vx_cwSW 2 hts gL_isStep_L_append rfl rfl rfl (by decide +kernel) ⟨Nat.le_of_ble_eq_true rfl, Nat.le_of_ble_eq_true rfl⟩) hC hXX hZ hE hNc hP hD hS hA rfl hl.1 rfl (Nat.le_of_ble_eq_true rfl) dL_isStep_378 ⟨(by show cells ≤ 2; omega), (by show slots ≤ 12; omega)⟩ (fun H locs hP hD hS => ?_)
      have hP : va_P D vwCl (wO T po a k (roX x pa (i + 1)) ++ wO T qo b (recQ k (tkR k.1 pa n)) ys) H := hP
      have hD : va_D A (wO T po a k (roX x pa (i + 1)) ++ wO T qo b (recQ k (tkR k.1 pa n)) ys) := hD
      refine W.eq (g2 := F0 m 381 ls [.int (nI ((roX x pa i).1 + 1))]) rfl ?_
      refine W.eq (g2 := F0 m 381 ls (.int (nI (i + 1)) :: [])) (congrArg (fun z => F0 m 381 ls (.int z :: [])) (by rw [roX_len] : (nI ((roX x pa i).1 + 1) : Int32) = nI (i + 1))) ?_
      refine lv_iload hx hb dL_isStep_381 (lv_at hl 0 rfl) ?_
      refine lv_iconst (v := 1) hx hb dL_isStep_383 (by decide) ?_
      refine lv_iadd hx hb dL_isStep_384 ?_
      refine W.eq (g2 := F0 m 385 ls (.int (nI (i + 1)) :: [.int (nI (i + 1))])) (congrArg (fun z => F0 m 385 ls (.int z :: [.int (nI (i + 1))])) (nI_1 i)) ?_
      refine lv_icmp_ne (tgt := 392) hx hb dL_isStep_385 (by decide) (fun c_x => absurd rfl c_x) (fun _ => ?_)
      refine lv_iconst (v := 1) hx hb dL_isStep_388 (by decide) ?_
      refine lv_goto (tgt := 393) hx hb dL_isStep_389 (by decide) ?_
      refine lv_istore (lv' := [(10, .int 1), (11, .int (nI i)), (0, .ref po), (1, .ref qo), (5, .int (qSum k.1)), (6, .int (nI pa)), (7, .int (nI n)), (8, .int (qLeast k.1)), (9, .int (qEst k.1 pa))]) hx hb dL_isStep_393 hl (by decide) rfl (fun ls hl => ?_)
      refine lv_iinc (v := nI (i + 1)) (lv' := [(11, .int (nI (i + 1))), (10, .int 1), (0, .ref po), (1, .ref qo), (5, .int (qSum k.1)), (6, .int (nI pa)), (7, .int (nI n)), (8, .int (qLeast k.1)), (9, .int (qEst k.1 pa))]) hx hb dL_isStep_395 hl (k := 1) rfl (nI_1 i) (by decide) rfl (fun ls hl => ?_)
      refine lv_goto (tgt := 360) hx hb dL_isStep_398 (by decide) ?_
      have hP := va_P_perm List.perm_append_comm hP
      have hD := va_D_perm List.perm_append_comm hD
      exact ih (i + 1) (by omega) _ _ _ _ _ hP hD hS (lv_sub hl [0, 1, 2, 3, 4, 5, 6, 7, 8] rfl) (by omega) (by omega)
  refine lv_iload_n hx hb dL_isStep_0 rfl (lv_at hl 2 rfl) ?_
  refine lv_iconst (v := 4) hx hb dL_isStep_1 (by decide) ?_
  refine lv_ishr hx hb dL_isStep_2 ?_
  refine lv_istore (lv' := [(4, .int (xi >>> ((4 : Int32) &&& 31))), (0, .ref po), (1, .ref qo), (2, .int xi), (3, .int yi)]) hx hb dL_isStep_3 hl (by decide) rfl (fun ls hl => ?_)
  refine lv_aload_n hx hb dL_isStep_5 rfl (lv_at hl 1 rfl) ?_
  refine kV (ci := 7) (As := []) (rest := []) ⟨hx, hb, hml, hown, hts⟩ (o_calls l D T po a k x) (cwV 0 hts gL_isStep_X8_calls rfl rfl rfl (by decide +kernel) ⟨Nat.le_of_ble_eq_true rfl, Nat.le_of_ble_eq_true rfl⟩) hC hP hD hS hA rfl rfl rfl hl.1 rfl (Nat.le_of_ble_eq_true rfl) dL_isStep_6 ⟨(Nat.zero_le _), (Nat.zero_le _)⟩ (fun H locs hP hD hS => ?_)
  have hP : va_P D vwCl (wO T po a k x ++ wO T qo b k y) H := hP
  have hD : va_D A (wO T po a k x ++ wO T qo b k y) := hD
  refine W.eq (g2 := F0 m 9 ls [.int (qSum k.1)]) rfl ?_
  refine lv_istore (lv' := [(5, .int (qSum k.1)), (4, .int (xi >>> ((4 : Int32) &&& 31))), (0, .ref po), (1, .ref qo), (2, .int xi), (3, .int yi)]) hx hb dL_isStep_9 hl (by decide) rfl (fun ls hl => ?_)
  refine lv_iload_n hx hb dL_isStep_11 rfl (lv_at hl 4 rfl) ?_
  refine lv_bipush (v := 24) hx hb dL_isStep_12 (by decide) ?_
  have hP : va_P D vwCl ([] ++ (wO T po a k x ++ wO T qo b k y)) _ := hP
  have hD : va_D A ([] ++ (wO T po a k x ++ wO T qo b k y)) := hD
  refine kS (As := [.int xi, .int 24]) (rest := []) ⟨hx, hb, hml, hown, hts⟩ (L_up l D T xi 24 (by decide) (by decide)) (va_cwS 2 hts gL_isStep_L_up rfl rfl rfl (by decide +kernel) ⟨Nat.le_of_ble_eq_true rfl, Nat.le_of_ble_eq_true rfl⟩) hC hP hD hS hA rfl hl.1 rfl (Nat.le_of_ble_eq_true rfl) dL_isStep_14 ⟨(Nat.zero_le _), (Nat.zero_le _)⟩ (fun H locs hP hD hS => ?_)
  have hP : va_P D vwCl (wO T po a k x ++ wO T qo b k y) H := hP
  have hD : va_D A (wO T po a k x ++ wO T qo b k y) := hD
  refine W.eq (g2 := F0 m 17 ls [.int (nI (upN xi 24))]) rfl ?_
  refine lv_tableIn (x := nI (upN xi 24)) (off := 233) (tgt := 250) hx hb dL_isStep_17 (by rcases hsel with h9 | h9 | h9 <;> rw [h9] <;> decide) (by rcases hsel with h9 | h9 | h9 <;> rw [h9] <;> decide) (by rcases hsel with h9 | h9 | h9 <;> rw [h9] <;> rfl) (by decide) ?_
  refine lv_iload_n hx hb dL_isStep_250 rfl (lv_at hl 5 rfl) ?_
  refine lv_bipush (v := 7) hx hb dL_isStep_251 (by decide) ?_
  have hP : va_P D vwCl ([] ++ (wO T po a k x ++ wO T qo b k y)) _ := hP
  have hD : va_D A ([] ++ (wO T po a k x ++ wO T qo b k y)) := hD
  refine kS (As := [.int yi, .int 7]) (rest := []) ⟨hx, hb, hml, hown, hts⟩ (L_up l D T yi 7 (by decide) (by decide)) (va_cwS 2 hts gL_isStep_L_up rfl rfl rfl (by decide +kernel) ⟨Nat.le_of_ble_eq_true rfl, Nat.le_of_ble_eq_true rfl⟩) hC hP hD hS hA rfl hl.1 rfl (Nat.le_of_ble_eq_true rfl) dL_isStep_253 ⟨(Nat.zero_le _), (Nat.zero_le _)⟩ (fun H locs hP hD hS => ?_)
  have hP : va_P D vwCl (wO T po a k x ++ wO T qo b k y) H := hP
  have hD : va_D A (wO T po a k x ++ wO T qo b k y) := hD
  refine W.eq (g2 := F0 m 256 ls [.int (nI (upN yi 7))]) rfl ?_
  refine W.eq (g2 := F0 m 256 ls (.int (nI pa) :: [])) (congrArg (fun z => F0 m 256 ls (.int z :: [])) (by rw [hpa] : (nI (upN yi 7) : Int32) = nI pa)) ?_
  refine lv_istore (lv' := [(6, .int (nI pa)), (5, .int (qSum k.1)), (4, .int (xi >>> ((4 : Int32) &&& 31))), (0, .ref po), (1, .ref qo), (2, .int xi), (3, .int yi)]) hx hb dL_isStep_256 hl (by decide) rfl (fun ls hl => ?_)
  refine lv_iconst (v := 1) hx hb dL_isStep_258 (by decide) ?_
  refine lv_iload hx hb dL_isStep_259 (lv_at hl 2 rfl) ?_
  refine lv_iload hx hb dL_isStep_261 (lv_at hl 2 rfl) ?_
  refine lv_iconst (v := 5) hx hb dL_isStep_263 (by decide) ?_
  refine lv_ishr hx hb dL_isStep_264 ?_
  refine lv_bipush (v := 6) hx hb dL_isStep_265 (by decide) ?_
  have hP : va_P D vwCl ([] ++ (wO T po a k x ++ wO T qo b k y)) _ := hP
  have hD : va_D A ([] ++ (wO T po a k x ++ wO T qo b k y)) := hD
  refine kS (As := [.int ((xi >>> ((4 : Int32) &&& 31)) >>> ((5 : Int32) &&& 31)), .int 6]) (rest := [.int (xi >>> ((4 : Int32) &&& 31)), .int 1]) ⟨hx, hb, hml, hown, hts⟩ (L_up l D T ((xi >>> ((4 : Int32) &&& 31)) >>> ((5 : Int32) &&& 31)) 6 (by decide) (by decide)) (va_cwS 2 hts gL_isStep_L_up rfl rfl rfl (by decide +kernel) ⟨Nat.le_of_ble_eq_true rfl, Nat.le_of_ble_eq_true rfl⟩) hC hP hD hS hA rfl hl.1 rfl (Nat.le_of_ble_eq_true rfl) dL_isStep_267 ⟨(Nat.zero_le _), (Nat.zero_le _)⟩ (fun H locs hP hD hS => ?_)
  have hP : va_P D vwCl (wO T po a k x ++ wO T qo b k y) H := hP
  have hD : va_D A (wO T po a k x ++ wO T qo b k y) := hD
  refine W.eq (g2 := F0 m 270 ls [.int (nI (upN ((xi >>> ((4 : Int32) &&& 31)) >>> ((5 : Int32) &&& 31)) 6)), .int (xi >>> ((4 : Int32) &&& 31)), .int 1]) rfl ?_
  refine lv_if_ne (tgt := 278) hx hb dL_isStep_270 (by decide) (fun _ => ?_) (fun c_x => absurd c_x (up_eq0 (by decide) (by decide) hm))
  refine lv_iconst (v := 5) hx hb dL_isStep_278 (by decide) ?_
  have hP : va_P D vwCl ([] ++ (wO T po a k x ++ wO T qo b k y)) _ := hP
  have hD : va_D A ([] ++ (wO T po a k x ++ wO T qo b k y)) := hD
  refine kS (As := [.int (xi >>> ((4 : Int32) &&& 31)), .int 5]) (rest := [.int 1]) ⟨hx, hb, hml, hown, hts⟩ (L_up l D T (xi >>> ((4 : Int32) &&& 31)) 5 (by decide) (by decide)) (va_cwS 2 hts gL_isStep_L_up rfl rfl rfl (by decide +kernel) ⟨Nat.le_of_ble_eq_true rfl, Nat.le_of_ble_eq_true rfl⟩) hC hP hD hS hA rfl hl.1 rfl (Nat.le_of_ble_eq_true rfl) dL_isStep_279 ⟨(Nat.zero_le _), (Nat.zero_le _)⟩ (fun H locs hP hD hS => ?_)
  have hP : va_P D vwCl (wO T po a k x ++ wO T qo b k y) H := hP
  have hD : va_D A (wO T po a k x ++ wO T qo b k y) := hD
  refine W.eq (g2 := F0 m 282 ls [.int (nI (upN (xi >>> ((4 : Int32) &&& 31)) 5)), .int 1]) rfl ?_
  refine lv_iadd hx hb dL_isStep_282 ?_
  refine W.eq (g2 := F0 m 283 ls (.int (nI (1 + (upN (xi >>> ((4 : Int32) &&& 31)) 5))) :: [])) (congrArg (fun z => F0 m 283 ls (.int z :: [])) (nI_add 1 (upN (xi >>> ((4 : Int32) &&& 31)) 5))) ?_
  refine W.eq (g2 := F0 m 283 ls (.int (nI n) :: [])) (congrArg (fun z => F0 m 283 ls (.int z :: [])) (by rw [hn] : (nI (1 + (upN (xi >>> ((4 : Int32) &&& 31)) 5)) : Int32) = nI n)) ?_
  refine lv_istore (lv' := [(7, .int (nI n)), (6, .int (nI pa)), (5, .int (qSum k.1)), (4, .int (xi >>> ((4 : Int32) &&& 31))), (0, .ref po), (1, .ref qo), (2, .int xi), (3, .int yi)]) hx hb dL_isStep_283 hl (by decide) rfl (fun ls hl => ?_)
  refine lv_aload_n hx hb dL_isStep_285 rfl (lv_at hl 4 rfl) ?_
  refine kV (ci := 7) (As := []) (rest := []) ⟨hx, hb, hml, hown, hts⟩ (o_floor l D T po a k x) (cwV 0 hts gL_isStep_X8_floor rfl rfl rfl (by decide +kernel) ⟨Nat.le_of_ble_eq_true rfl, Nat.le_of_ble_eq_true rfl⟩) hC hP hD hS hA rfl rfl rfl hl.1 rfl (Nat.le_of_ble_eq_true rfl) dL_isStep_286 ⟨(Nat.zero_le _), (Nat.zero_le _)⟩ (fun H locs hP hD hS => ?_)
  have hP : va_P D vwCl (wO T po a k x ++ wO T qo b k y) H := hP
  have hD : va_D A (wO T po a k x ++ wO T qo b k y) := hD
  refine W.eq (g2 := F0 m 289 ls [.int (qLeast k.1)]) rfl ?_
  refine lv_istore (lv' := [(8, .int (qLeast k.1)), (7, .int (nI n)), (6, .int (nI pa)), (5, .int (qSum k.1)), (4, .int (xi >>> ((4 : Int32) &&& 31))), (0, .ref po), (1, .ref qo), (2, .int xi), (3, .int yi)]) hx hb dL_isStep_289 hl (by decide) rfl (fun ls hl => ?_)
  refine lv_aload_n hx hb dL_isStep_291 rfl (lv_at hl 5 rfl) ?_
  refine lv_iload hx hb dL_isStep_292 (lv_at hl 2 rfl) ?_
  refine kWT (As := [.ref po, .int (nI pa)]) (rest := []) ⟨hx, hb, hml, hown, hts⟩ (L_estimate l D T po a k x pa hp) (vx_cwSW 2 hts gL_isStep_L_estimate rfl rfl rfl (by decide +kernel) ⟨Nat.le_of_ble_eq_true rfl, Nat.le_of_ble_eq_true rfl⟩) hC hXX hZ hE hNc hP hD hS hA rfl hl.1 rfl (Nat.le_of_ble_eq_true rfl) dL_isStep_294 ⟨(Nat.zero_le _), (Nat.zero_le _)⟩ (fun H locs hP hD hS => ?_)
  have hP : va_P D vwCl (wO T po a k x ++ wO T qo b k y) H := hP
  have hD : va_D A (wO T po a k x ++ wO T qo b k y) := hD
  refine W.eq (g2 := F0 m 297 ls [.int (qEst k.1 pa)]) rfl ?_
  refine lv_istore (lv' := [(9, .int (qEst k.1 pa)), (8, .int (qLeast k.1)), (7, .int (nI n)), (6, .int (nI pa)), (5, .int (qSum k.1)), (4, .int (xi >>> ((4 : Int32) &&& 31))), (0, .ref po), (1, .ref qo), (2, .int xi), (3, .int yi)]) hx hb dL_isStep_297 hl (by decide) rfl (fun ls hl => ?_)
  refine lv_aload_n hx hb dL_isStep_299 rfl (lv_at hl 7 rfl) ?_
  refine lv_iload hx hb dL_isStep_300 (lv_at hl 3 rfl) ?_
  refine lv_iload hx hb dL_isStep_302 (lv_at hl 2 rfl) ?_
  refine lv_iload hx hb dL_isStep_304 (lv_at hl 5 rfl) ?_
  refine lv_iconst (v := 3) hx hb dL_isStep_306 (by decide) ?_
  refine lv_ishr hx hb dL_isStep_307 ?_
  refine lv_iconst (v := 2) hx hb dL_isStep_308 (by decide) ?_
  have hP : va_P D vwCl ([] ++ (wO T po a k x ++ wO T qo b k y)) _ := hP
  have hD : va_D A ([] ++ (wO T po a k x ++ wO T qo b k y)) := hD
  refine kS (As := [.int ((xi >>> ((4 : Int32) &&& 31)) >>> ((3 : Int32) &&& 31)), .int 2]) (rest := [.int (nI n), .int (nI pa), .ref qo]) ⟨hx, hb, hml, hown, hts⟩ (L_up l D T ((xi >>> ((4 : Int32) &&& 31)) >>> ((3 : Int32) &&& 31)) 2 (by decide) (by decide)) (va_cwS 2 hts gL_isStep_L_up rfl rfl rfl (by decide +kernel) ⟨Nat.le_of_ble_eq_true rfl, Nat.le_of_ble_eq_true rfl⟩) hC hP hD hS hA rfl hl.1 rfl (Nat.le_of_ble_eq_true rfl) dL_isStep_309 ⟨(by show 0 + 0 ≤ 2; omega), (by show 0 + 0 ≤ 12; omega)⟩ (fun H locs hP hD hS => ?_)
  have hP : va_P D vwCl (wO T po a k x ++ wO T qo b k y) H := hP
  have hD : va_D A (wO T po a k x ++ wO T qo b k y) := hD
  refine W.eq (g2 := F0 m 312 ls [.int (nI (upN ((xi >>> ((4 : Int32) &&& 31)) >>> ((3 : Int32) &&& 31)) 2)), .int (nI n), .int (nI pa), .ref qo]) rfl ?_
  refine lv_if_ne (tgt := 319) hx hb dL_isStep_312 (by decide) (fun c_x => absurd (by rw [hi]; rfl) c_x) (fun _ => ?_)
  refine lv_iconst (v := 1) hx hb dL_isStep_315 (by decide) ?_
  refine lv_goto (tgt := 320) hx hb dL_isStep_316 (by decide) ?_
  have hP := va_P_perm List.perm_append_comm hP
  have hD := va_D_perm List.perm_append_comm hD
  refine kWP (As := [.ref qo, .int (nI pa), .int (nI n), .int 1]) (rest := []) ⟨hx, hb, hml, hown, hts⟩ hsg (va_cwS 4 hts gL_isStep_L_sung rfl rfl rfl (by decide +kernel) ⟨Nat.le_of_ble_eq_true rfl, Nat.le_of_ble_eq_true rfl⟩) hC hXX hZ hE hNc hP hD hS hA rfl hl.1 rfl (Nat.le_of_ble_eq_true rfl) dL_isStep_320 ⟨(by show 0 + 0 ≤ 2; omega), (by show 0 + 0 ≤ 12; omega)⟩ (fun H locs hP hD hS => ?_)
  have hP : va_P D vwCl (wO T qo b (recQ k (tkR k.1 pa n)) ys ++ wO T po a k x) H := hP
  have hD : va_D A (wO T qo b (recQ k (tkR k.1 pa n)) ys ++ wO T po a k x) := hD
  refine W.eq (g2 := F0 m 323 ls [.int (qSum k.1 + nI n)]) rfl ?_
  refine lv_iload hx hb dL_isStep_323 (lv_at hl 4 rfl) ?_
  refine lv_iload hx hb dL_isStep_325 (lv_at hl 2 rfl) ?_
  refine lv_iadd hx hb dL_isStep_327 ?_
  refine lv_icmp_ne (tgt := 335) hx hb dL_isStep_328 (by decide) (fun c_x => absurd rfl c_x) (fun _ => ?_)
  refine lv_iconst (v := 1) hx hb dL_isStep_331 (by decide) ?_
  refine lv_goto (tgt := 336) hx hb dL_isStep_332 (by decide) ?_
  refine lv_istore (lv' := [(10, .int 1), (9, .int (qEst k.1 pa)), (8, .int (qLeast k.1)), (7, .int (nI n)), (6, .int (nI pa)), (5, .int (qSum k.1)), (4, .int (xi >>> ((4 : Int32) &&& 31))), (0, .ref po), (1, .ref qo), (2, .int xi), (3, .int yi)]) hx hb dL_isStep_336 hl (by decide) rfl (fun ls hl => ?_)
  refine lv_iload hx hb dL_isStep_338 (lv_at hl 0 rfl) ?_
  refine lv_if_eq (tgt := 354) hx hb dL_isStep_340 (by decide) (fun c_x => absurd c_x (by decide : ¬ ((1 : Int32) = 0))) (fun _ => ?_)
  refine lv_aload_n hx hb dL_isStep_343 rfl (lv_at hl 7 rfl) ?_
  have hP := va_P_perm List.perm_append_comm hP
  have hD := va_D_perm List.perm_append_comm hD
  refine kV (ci := 7) (As := []) (rest := []) ⟨hx, hb, hml, hown, hts⟩ (o_clearText l D T po a k x) (cwV 0 hts gL_isStep_X8_clearText rfl rfl rfl (by decide +kernel) ⟨Nat.le_of_ble_eq_true rfl, Nat.le_of_ble_eq_true rfl⟩) hC hP hD hS hA rfl rfl rfl hl.1 rfl (Nat.le_of_ble_eq_true rfl) dL_isStep_344 ⟨(by show 0 + 0 + 0 ≤ 2; omega), (by show 0 + 0 + 0 ≤ 12; omega)⟩ (fun H locs hP hD hS => ?_)
  have hP : va_P D vwCl (wO T po a k (roX x pa 0) ++ wO T qo b (recQ k (tkR k.1 pa n)) ys) H := hP
  have hD : va_D A (wO T po a k (roX x pa 0) ++ wO T qo b (recQ k (tkR k.1 pa n)) ys) := hD
  refine W.eq (g2 := F0 m 347 ls [.int (nI x.1)]) rfl ?_
  refine lv_if_lt (tgt := 354) hx hb dL_isStep_347 (by decide) (fun c_x => absurd c_x (nI_pos (by omega))) (fun _ => ?_)
  refine lv_iconst (v := 1) hx hb dL_isStep_350 (by decide) ?_
  refine lv_goto (tgt := 355) hx hb dL_isStep_351 (by decide) ?_
  refine lv_istore (lv' := [(10, .int 1), (9, .int (qEst k.1 pa)), (8, .int (qLeast k.1)), (7, .int (nI n)), (6, .int (nI pa)), (5, .int (qSum k.1)), (4, .int (xi >>> ((4 : Int32) &&& 31))), (0, .ref po), (1, .ref qo), (2, .int xi), (3, .int yi)]) hx hb dL_isStep_355 hl (by decide) rfl (fun ls hl => ?_)
  refine lv_iconst (v := 0) hx hb dL_isStep_357 (by decide) ?_
  refine lv_istore (lv' := [(11, .int 0), (10, .int 1), (9, .int (qEst k.1 pa)), (8, .int (qLeast k.1)), (7, .int (nI n)), (6, .int (nI pa)), (5, .int (qSum k.1)), (4, .int (xi >>> ((4 : Int32) &&& 31))), (0, .ref po), (1, .ref qo), (2, .int xi), (3, .int yi)]) hx hb dL_isStep_358 hl (by decide) rfl (fun ls hl => ?_)
  have hP := va_P_perm List.perm_append_comm hP
  have hD := va_D_perm List.perm_append_comm hD
  exact loop_360 n 0 (by omega) _ _ _ _ _ hP hD hS (lv_sub hl [0, 1, 8, 9, 6, 5, 4, 3, 2] rfl) (by omega) (by omega)
set_option maxHeartbeats 4000000 in
set_option maxRecDepth 100000 in
theorem st_song_5_0 (l : Launch) (D : va_G) (T : Nat → ClassId) (hst9 : l.stackTraces = false) (po qo : Nat) (a b : Nat → Nat) (k : KS) (x y : CT) (xi yi : Int32) {M : Int} {pa n : Nat} {ys : CT} (hK : KI k M) (hM0 : 0 ≤ M) (hM : M + 40 ≤ 99999) (hx60 : x.1 ≤ 60) (hsel : upN xi 24 = 7 ∨ upN xi 24 = 8 ∨ upN xi 24 = 9) (hpa : upN yi 7 = pa) (hp : pa < 26) (hm : ¬ upN ((xi >>> ((4 : Int32) &&& 31)) >>> ((5 : Int32) &&& 31)) 6 = 0) (hn : 1 + (upN (xi >>> ((4 : Int32) &&& 31)) 5) = n) (h1 : 1 ≤ n) (h40 : n ≤ 40) (hi : ¬ upN ((xi >>> ((4 : Int32) &&& 31)) >>> ((3 : Int32) &&& 31)) 2 = 0) (hsg : kWN l D T yL_sung wsL_sung rL_sung 0 0 [.ref qo, .int (nI pa), .int (nI n), .int 0] (wO T qo b k y) (some (.int (qSum k.1 + nI n))) (wO T qo b (recQ k (tkR k.1 pa n)) ys)) : kWN l D T yL_isStep wsL_isStep rL_isStep 2 12 [.ref po, .ref qo, .int xi, .int yi] (wO T po a k x ++ wO T qo b k y) (some (.int 1)) (wO T po a (recQ k (tkR k.1 pa n)) (sgX (roX x pa n)) ++ wO T qo b (recQ k (tkR k.1 pa n)) ys) := by
  refine kWN.ofP (cc := cL_isStep) (maxL := 12) (ret := some .boolean) (by decide) rfl (Nat.le_of_ble_eq_true rfl) ?_
  intro p e s m below meth c A Q ls hx hb hml hown hr hlk hts hC hP hD hS hA hl hXX hZ hE hNc hret
  have hl : lv_has ls 12 [(0, .ref po), (1, .ref qo), (2, .int xi), (3, .int yi)] := hl
  have hP : va_P D vwCl (wO T po a k x ++ wO T qo b k y) s.heap := hP
  have hD : va_D A (wO T po a k x ++ wO T qo b k y) := hD
  have loop_360 : ∀ (n9 i : Nat), i + n9 = n → ∀ (H : Heap) (locs : List Loc) (cells slots : Nat) (ls : Array Slot), va_P D vwCl (wO T qo b (recQ k (tkR k.1 pa n)) ys ++ wO T po a k (roX x pa i)) H → va_D A (wO T qo b (recQ k (tkR k.1 pa n)) ys ++ wO T po a k (roX x pa i)) → va_S A s.heap H locs → lv_has ls 12 [(11, .int (nI i)), (10, .int 1), (0, .ref po), (1, .ref qo), (5, .int (qSum k.1)), (6, .int (nI pa)), (7, .int (nI n)), (8, .int (qLeast k.1)), (9, .int (qEst k.1 pa))] → cells ≤ 0 → slots ≤ 0 → W p l e rL_isStep s m ([.ref po, .ref qo, .int xi, .int yi] : List Value).toArray below meth c H locs cells slots Q (F0 m 360 ls []) := by
    intro n9
    induction n9 with
    | zero =>
      intro i hi H locs cells slots ls hP hD hS hl hce hso
      have hi9 : n = i := by omega
      subst hi9
      refine lv_iload hx hb dL_isStep_360 (lv_at hl 0 rfl) ?_
      refine lv_iload hx hb dL_isStep_362 (lv_at hl 6 rfl) ?_
      refine lv_icmp_ge (tgt := 401) hx hb dL_isStep_364 (by decide) (fun _ => ?_) (fun c_x => absurd (Int32.le_refl _) c_x)
      refine lv_iload hx hb dL_isStep_401 (lv_at hl 1 rfl) ?_
      refine lv_if_eq (tgt := 445) hx hb dL_isStep_403 (by decide) (fun c_x => absurd c_x (by decide : ¬ ((1 : Int32) = 0))) (fun _ => ?_)
      refine lv_aload_n hx hb dL_isStep_406 rfl (lv_at hl 2 rfl) ?_
      have hP := va_P_perm List.perm_append_comm hP
      have hD := va_D_perm List.perm_append_comm hD
      refine kWT (As := [.ref po]) (rest := []) ⟨hx, hb, hml, hown, hts⟩ (L_song l D T po a k (roX x pa n) hp (TX_roX hp h1 (by omega)) hK (by omega) (by omega)) (vx_cwSW 1 hts gL_isStep_L_song rfl rfl rfl (by decide +kernel) ⟨Nat.le_of_ble_eq_true rfl, Nat.le_of_ble_eq_true rfl⟩) hC hXX hZ hE hNc hP hD hS hA rfl hl.1 rfl (Nat.le_of_ble_eq_true rfl) dL_isStep_407 ⟨(by show cells ≤ 2; omega), (by show slots ≤ 12; omega)⟩ (fun H locs hP hD hS => ?_)
      have hP : va_P D vwCl (wO T po a (recQ k (tkR k.1 pa n)) (sgX (roX x pa n)) ++ wO T qo b (recQ k (tkR k.1 pa n)) ys) H := hP
      have hD : va_D A (wO T po a (recQ k (tkR k.1 pa n)) (sgX (roX x pa n)) ++ wO T qo b (recQ k (tkR k.1 pa n)) ys) := hD
      refine W.eq (g2 := F0 m 410 ls [.int (qSum k.1 + nI n)]) rfl ?_
      refine lv_iload hx hb dL_isStep_410 (lv_at hl 4 rfl) ?_
      refine lv_iload hx hb dL_isStep_412 (lv_at hl 6 rfl) ?_
      refine lv_iadd hx hb dL_isStep_414 ?_
      refine lv_icmp_ne (tgt := 445) hx hb dL_isStep_415 (by decide) (fun c_x => absurd rfl c_x) (fun _ => ?_)
      refine lv_aload_n hx hb dL_isStep_418 rfl (lv_at hl 2 rfl) ?_
      refine lv_iload hx hb dL_isStep_419 (lv_at hl 5 rfl) ?_
      refine kWT (As := [.ref po, .int (nI pa)]) (rest := []) ⟨hx, hb, hml, hown, hts⟩ (L_estimate l D T po a (recQ k (tkR k.1 pa n)) (sgX (roX x pa n)) pa hp) (vx_cwSW 2 hts gL_isStep_L_estimate rfl rfl rfl (by decide +kernel) ⟨Nat.le_of_ble_eq_true rfl, Nat.le_of_ble_eq_true rfl⟩) hC hXX hZ hE hNc hP hD hS hA rfl hl.1 rfl (Nat.le_of_ble_eq_true rfl) dL_isStep_421 ⟨(by show cells + 0 ≤ 2; omega), (by show slots + 0 ≤ 12; omega)⟩ (fun H locs hP hD hS => ?_)
      have hP : va_P D vwCl (wO T po a (recQ k (tkR k.1 pa n)) (sgX (roX x pa n)) ++ wO T qo b (recQ k (tkR k.1 pa n)) ys) H := hP
      have hD : va_D A (wO T po a (recQ k (tkR k.1 pa n)) (sgX (roX x pa n)) ++ wO T qo b (recQ k (tkR k.1 pa n)) ys) := hD
      refine W.eq (g2 := F0 m 424 ls [.int (qEst (recQ k (tkR k.1 pa n)).1 pa)]) rfl ?_
      refine lv_iload hx hb dL_isStep_424 (lv_at hl 8 rfl) ?_
      refine lv_iload hx hb dL_isStep_426 (lv_at hl 6 rfl) ?_
      refine lv_iadd hx hb dL_isStep_428 ?_
      refine lv_icmp_ne (tgt := 445) hx hb dL_isStep_429 (by decide) (fun c_x => absurd (f_estn hp hK.1 (by omega)) c_x) (fun _ => ?_)
      refine lv_aload_n hx hb dL_isStep_432 rfl (lv_at hl 2 rfl) ?_
      refine kV (ci := 7) (As := []) (rest := []) ⟨hx, hb, hml, hown, hts⟩ (o_floor l D T po a (recQ k (tkR k.1 pa n)) (sgX (roX x pa n))) (cwV 0 hts gL_isStep_X8_floor rfl rfl rfl (by decide +kernel) ⟨Nat.le_of_ble_eq_true rfl, Nat.le_of_ble_eq_true rfl⟩) hC hP hD hS hA rfl rfl rfl hl.1 rfl (Nat.le_of_ble_eq_true rfl) dL_isStep_433 ⟨(by show cells + 0 + 0 ≤ 2; omega), (by show slots + 0 + 0 ≤ 12; omega)⟩ (fun H locs hP hD hS => ?_)
      have hP : va_P D vwCl (wO T po a (recQ k (tkR k.1 pa n)) (sgX (roX x pa n)) ++ wO T qo b (recQ k (tkR k.1 pa n)) ys) H := hP
      have hD : va_D A (wO T po a (recQ k (tkR k.1 pa n)) (sgX (roX x pa n)) ++ wO T qo b (recQ k (tkR k.1 pa n)) ys) := hD
      refine W.eq (g2 := F0 m 436 ls [.int (qLeast (recQ k (tkR k.1 pa n)).1)]) rfl ?_
      refine lv_iload hx hb dL_isStep_436 (lv_at hl 7 rfl) ?_
      refine lv_icmp_lt (tgt := 445) hx hb dL_isStep_438 (by decide) (fun c_x => absurd c_x (f_least hp hK.1 (by omega))) (fun _ => ?_)
      refine lv_iconst (v := 1) hx hb dL_isStep_441 (by decide) ?_
      refine lv_goto (tgt := 446) hx hb dL_isStep_442 (by decide) ?_
      exact hret _ _ _ _ _ _ _ (by show cells + 0 + 0 ≤ 2; omega) (by show slots + 0 + 0 ≤ 12; omega) (fun Qc free hq hf => W.zret hx hb hr rfl hq hf dL_isStep_446 hlk) hP hD hS
    | succ n9 ih =>
      intro i hi H locs cells slots ls hP hD hS hl hce hso
      have hlt : i < n := by omega
      refine lv_iload hx hb dL_isStep_360 (lv_at hl 0 rfl) ?_
      refine lv_iload hx hb dL_isStep_362 (lv_at hl 6 rfl) ?_
      refine lv_icmp_ge (tgt := 401) hx hb dL_isStep_364 (by decide) (fun c_x => absurd c_x (nI_ge (a := i) (b := n) (by omega) (by omega))) (fun _ => ?_)
      refine lv_iload hx hb dL_isStep_367 (lv_at hl 1 rfl) ?_
      refine lv_if_eq (tgt := 392) hx hb dL_isStep_369 (by decide) (fun c_x => absurd c_x (by decide : ¬ ((1 : Int32) = 0))) (fun _ => ?_)
      refine lv_aload_n hx hb dL_isStep_372 rfl (lv_at hl 2 rfl) ?_
      refine lv_bipush (v := 97) hx hb dL_isStep_373 (by decide) ?_
      refine lv_iload hx hb dL_isStep_375 (lv_at hl 5 rfl) ?_
      refine lv_iadd hx hb dL_isStep_377 ?_
      refine W.eq (g2 := F0 m 378 ls (.int (nI (97 + pa)) :: [.ref po])) (congrArg (fun z => F0 m 378 ls (.int z :: [.ref po])) (nI_add 97 pa)) ?_
      have hP := va_P_perm List.perm_append_comm hP
      have hD := va_D_perm List.perm_append_comm hD
      refine kWT (As := [.ref po, .int (nI (97 + pa))]) (rest := []) ⟨hx, hb, hml, hown, hts⟩ (L_append l D T po a k (roX x pa i) (n := 97 + pa) (by omega) (by rw [roX_len]; omega)) (vx_cwSW 2 hts gL_isStep_L_append rfl rfl rfl (by decide +kernel) ⟨Nat.le_of_ble_eq_true rfl, Nat.le_of_ble_eq_true rfl⟩) hC hXX hZ hE hNc hP hD hS hA rfl hl.1 rfl (Nat.le_of_ble_eq_true rfl) dL_isStep_378 ⟨(by show cells ≤ 2; omega), (by show slots ≤ 12; omega)⟩ (fun H locs hP hD hS => ?_)
      have hP : va_P D vwCl (wO T po a k (roX x pa (i + 1)) ++ wO T qo b (recQ k (tkR k.1 pa n)) ys) H := hP
      have hD : va_D A (wO T po a k (roX x pa (i + 1)) ++ wO T qo b (recQ k (tkR k.1 pa n)) ys) := hD
      refine W.eq (g2 := F0 m 381 ls [.int (nI ((roX x pa i).1 + 1))]) rfl ?_
      refine W.eq (g2 := F0 m 381 ls (.int (nI (i + 1)) :: [])) (congrArg (fun z => F0 m 381 ls (.int z :: [])) (by rw [roX_len] : (nI ((roX x pa i).1 + 1) : Int32) = nI (i + 1))) ?_
      refine lv_iload hx hb dL_isStep_381 (lv_at hl 0 rfl) ?_
      refine lv_iconst (v := 1) hx hb dL_isStep_383 (by decide) ?_
      refine lv_iadd hx hb dL_isStep_384 ?_
      refine W.eq (g2 := F0 m 385 ls (.int (nI (i + 1)) :: [.int (nI (i + 1))])) (congrArg (fun z => F0 m 385 ls (.int z :: [.int (nI (i + 1))])) (nI_1 i)) ?_
      refine lv_icmp_ne (tgt := 392) hx hb dL_isStep_385 (by decide) (fun c_x => absurd rfl c_x) (fun _ => ?_)
      refine lv_iconst (v := 1) hx hb dL_isStep_388 (by decide) ?_
      refine lv_goto (tgt := 393) hx hb dL_isStep_389 (by decide) ?_
      refine lv_istore (lv' := [(10, .int 1), (11, .int (nI i)), (0, .ref po), (1, .ref qo), (5, .int (qSum k.1)), (6, .int (nI pa)), (7, .int (nI n)), (8, .int (qLeast k.1)), (9, .int (qEst k.1 pa))]) hx hb dL_isStep_393 hl (by decide) rfl (fun ls hl => ?_)
      refine lv_iinc (v := nI (i + 1)) (lv' := [(11, .int (nI (i + 1))), (10, .int 1), (0, .ref po), (1, .ref qo), (5, .int (qSum k.1)), (6, .int (nI pa)), (7, .int (nI n)), (8, .int (qLeast k.1)), (9, .int (qEst k.1 pa))]) hx hb dL_isStep_395 hl (k := 1) rfl (nI_1 i) (by decide) rfl (fun ls hl => ?_)
      refine lv_goto (tgt := 360) hx hb dL_isStep_398 (by decide) ?_
      have hP := va_P_perm List.perm_append_comm hP
      have hD := va_D_perm List.perm_append_comm hD
      exact ih (i + 1) (by omega) _ _ _ _ _ hP hD hS (lv_sub hl [0, 1, 2, 3, 4, 5, 6, 7, 8] rfl) (by omega) (by omega)
  refine lv_iload_n hx hb dL_isStep_0 rfl (lv_at hl 2 rfl) ?_
  refine lv_iconst (v := 4) hx hb dL_isStep_1 (by decide) ?_
  refine lv_ishr hx hb dL_isStep_2 ?_
  refine lv_istore (lv' := [(4, .int (xi >>> ((4 : Int32) &&& 31))), (0, .ref po), (1, .ref qo), (2, .int xi), (3, .int yi)]) hx hb dL_isStep_3 hl (by decide) rfl (fun ls hl => ?_)
  refine lv_aload_n hx hb dL_isStep_5 rfl (lv_at hl 1 rfl) ?_
  refine kV (ci := 7) (As := []) (rest := []) ⟨hx, hb, hml, hown, hts⟩ (o_calls l D T po a k x) (cwV 0 hts gL_isStep_X8_calls rfl rfl rfl (by decide +kernel) ⟨Nat.le_of_ble_eq_true rfl, Nat.le_of_ble_eq_true rfl⟩) hC hP hD hS hA rfl rfl rfl hl.1 rfl (Nat.le_of_ble_eq_true rfl) dL_isStep_6 ⟨(Nat.zero_le _), (Nat.zero_le _)⟩ (fun H locs hP hD hS => ?_)
  have hP : va_P D vwCl (wO T po a k x ++ wO T qo b k y) H := hP
  have hD : va_D A (wO T po a k x ++ wO T qo b k y) := hD
  refine W.eq (g2 := F0 m 9 ls [.int (qSum k.1)]) rfl ?_
  refine lv_istore (lv' := [(5, .int (qSum k.1)), (4, .int (xi >>> ((4 : Int32) &&& 31))), (0, .ref po), (1, .ref qo), (2, .int xi), (3, .int yi)]) hx hb dL_isStep_9 hl (by decide) rfl (fun ls hl => ?_)
  refine lv_iload_n hx hb dL_isStep_11 rfl (lv_at hl 4 rfl) ?_
  refine lv_bipush (v := 24) hx hb dL_isStep_12 (by decide) ?_
  have hP : va_P D vwCl ([] ++ (wO T po a k x ++ wO T qo b k y)) _ := hP
  have hD : va_D A ([] ++ (wO T po a k x ++ wO T qo b k y)) := hD
  refine kS (As := [.int xi, .int 24]) (rest := []) ⟨hx, hb, hml, hown, hts⟩ (L_up l D T xi 24 (by decide) (by decide)) (va_cwS 2 hts gL_isStep_L_up rfl rfl rfl (by decide +kernel) ⟨Nat.le_of_ble_eq_true rfl, Nat.le_of_ble_eq_true rfl⟩) hC hP hD hS hA rfl hl.1 rfl (Nat.le_of_ble_eq_true rfl) dL_isStep_14 ⟨(Nat.zero_le _), (Nat.zero_le _)⟩ (fun H locs hP hD hS => ?_)
  have hP : va_P D vwCl (wO T po a k x ++ wO T qo b k y) H := hP
  have hD : va_D A (wO T po a k x ++ wO T qo b k y) := hD
  refine W.eq (g2 := F0 m 17 ls [.int (nI (upN xi 24))]) rfl ?_
  refine lv_tableIn (x := nI (upN xi 24)) (off := 233) (tgt := 250) hx hb dL_isStep_17 (by rcases hsel with h9 | h9 | h9 <;> rw [h9] <;> decide) (by rcases hsel with h9 | h9 | h9 <;> rw [h9] <;> decide) (by rcases hsel with h9 | h9 | h9 <;> rw [h9] <;> rfl) (by decide) ?_
  refine lv_iload_n hx hb dL_isStep_250 rfl (lv_at hl 5 rfl) ?_
  refine lv_bipush (v := 7) hx hb dL_isStep_251 (by decide) ?_
  have hP : va_P D vwCl ([] ++ (wO T po a k x ++ wO T qo b k y)) _ := hP
  have hD : va_D A ([] ++ (wO T po a k x ++ wO T qo b k y)) := hD
  refine kS (As := [.int yi, .int 7]) (rest := []) ⟨hx, hb, hml, hown, hts⟩ (L_up l D T yi 7 (by decide) (by decide)) (va_cwS 2 hts gL_isStep_L_up rfl rfl rfl (by decide +kernel) ⟨Nat.le_of_ble_eq_true rfl, Nat.le_of_ble_eq_true rfl⟩) hC hP hD hS hA rfl hl.1 rfl (Nat.le_of_ble_eq_true rfl) dL_isStep_253 ⟨(Nat.zero_le _), (Nat.zero_le _)⟩ (fun H locs hP hD hS => ?_)
  have hP : va_P D vwCl (wO T po a k x ++ wO T qo b k y) H := hP
  have hD : va_D A (wO T po a k x ++ wO T qo b k y) := hD
  refine W.eq (g2 := F0 m 256 ls [.int (nI (upN yi 7))]) rfl ?_
  refine W.eq (g2 := F0 m 256 ls (.int (nI pa) :: [])) (congrArg (fun z => F0 m 256 ls (.int z :: [])) (by rw [hpa] : (nI (upN yi 7) : Int32) = nI pa)) ?_
  refine lv_istore (lv' := [(6, .int (nI pa)), (5, .int (qSum k.1)), (4, .int (xi >>> ((4 : Int32) &&& 31))), (0, .ref po), (1, .ref qo), (2, .int xi), (3, .int yi)]) hx hb dL_isStep_256 hl (by decide) rfl (fun ls hl => ?_)
  refine lv_iconst (v := 1) hx hb dL_isStep_258 (by decide) ?_
  refine lv_iload hx hb dL_isStep_259 (lv_at hl 2 rfl) ?_
  refine lv_iload hx hb dL_isStep_261 (lv_at hl 2 rfl) ?_
  refine lv_iconst (v := 5) hx hb dL_isStep_263 (by decide) ?_
  refine lv_ishr hx hb dL_isStep_264 ?_
  refine lv_bipush (v := 6) hx hb dL_isStep_265 (by decide) ?_
  have hP : va_P D vwCl ([] ++ (wO T po a k x ++ wO T qo b k y)) _ := hP
  have hD : va_D A ([] ++ (wO T po a k x ++ wO T qo b k y)) := hD
  refine kS (As := [.int ((xi >>> ((4 : Int32) &&& 31)) >>> ((5 : Int32) &&& 31)), .int 6]) (rest := [.int (xi >>> ((4 : Int32) &&& 31)), .int 1]) ⟨hx, hb, hml, hown, hts⟩ (L_up l D T ((xi >>> ((4 : Int32) &&& 31)) >>> ((5 : Int32) &&& 31)) 6 (by decide) (by decide)) (va_cwS 2 hts gL_isStep_L_up rfl rfl rfl (by decide +kernel) ⟨Nat.le_of_ble_eq_true rfl, Nat.le_of_ble_eq_true rfl⟩) hC hP hD hS hA rfl hl.1 rfl (Nat.le_of_ble_eq_true rfl) dL_isStep_267 ⟨(Nat.zero_le _), (Nat.zero_le _)⟩ (fun H locs hP hD hS => ?_)
  have hP : va_P D vwCl (wO T po a k x ++ wO T qo b k y) H := hP
  have hD : va_D A (wO T po a k x ++ wO T qo b k y) := hD
  refine W.eq (g2 := F0 m 270 ls [.int (nI (upN ((xi >>> ((4 : Int32) &&& 31)) >>> ((5 : Int32) &&& 31)) 6)), .int (xi >>> ((4 : Int32) &&& 31)), .int 1]) rfl ?_
  refine lv_if_ne (tgt := 278) hx hb dL_isStep_270 (by decide) (fun _ => ?_) (fun c_x => absurd c_x (up_eq0 (by decide) (by decide) hm))
  refine lv_iconst (v := 5) hx hb dL_isStep_278 (by decide) ?_
  have hP : va_P D vwCl ([] ++ (wO T po a k x ++ wO T qo b k y)) _ := hP
  have hD : va_D A ([] ++ (wO T po a k x ++ wO T qo b k y)) := hD
  refine kS (As := [.int (xi >>> ((4 : Int32) &&& 31)), .int 5]) (rest := [.int 1]) ⟨hx, hb, hml, hown, hts⟩ (L_up l D T (xi >>> ((4 : Int32) &&& 31)) 5 (by decide) (by decide)) (va_cwS 2 hts gL_isStep_L_up rfl rfl rfl (by decide +kernel) ⟨Nat.le_of_ble_eq_true rfl, Nat.le_of_ble_eq_true rfl⟩) hC hP hD hS hA rfl hl.1 rfl (Nat.le_of_ble_eq_true rfl) dL_isStep_279 ⟨(Nat.zero_le _), (Nat.zero_le _)⟩ (fun H locs hP hD hS => ?_)
  have hP : va_P D vwCl (wO T po a k x ++ wO T qo b k y) H := hP
  have hD : va_D A (wO T po a k x ++ wO T qo b k y) := hD
  refine W.eq (g2 := F0 m 282 ls [.int (nI (upN (xi >>> ((4 : Int32) &&& 31)) 5)), .int 1]) rfl ?_
  refine lv_iadd hx hb dL_isStep_282 ?_
  refine W.eq (g2 := F0 m 283 ls (.int (nI (1 + (upN (xi >>> ((4 : Int32) &&& 31)) 5))) :: [])) (congrArg (fun z => F0 m 283 ls (.int z :: [])) (nI_add 1 (upN (xi >>> ((4 : Int32) &&& 31)) 5))) ?_
  refine W.eq (g2 := F0 m 283 ls (.int (nI n) :: [])) (congrArg (fun z => F0 m 283 ls (.int z :: [])) (by rw [hn] : (nI (1 + (upN (xi >>> ((4 : Int32) &&& 31)) 5)) : Int32) = nI n)) ?_
  refine lv_istore (lv' := [(7, .int (nI n)), (6, .int (nI pa)), (5, .int (qSum k.1)), (4, .int (xi >>> ((4 : Int32) &&& 31))), (0, .ref po), (1, .ref qo), (2, .int xi), (3, .int yi)]) hx hb dL_isStep_283 hl (by decide) rfl (fun ls hl => ?_)
  refine lv_aload_n hx hb dL_isStep_285 rfl (lv_at hl 4 rfl) ?_
  refine kV (ci := 7) (As := []) (rest := []) ⟨hx, hb, hml, hown, hts⟩ (o_floor l D T po a k x) (cwV 0 hts gL_isStep_X8_floor rfl rfl rfl (by decide +kernel) ⟨Nat.le_of_ble_eq_true rfl, Nat.le_of_ble_eq_true rfl⟩) hC hP hD hS hA rfl rfl rfl hl.1 rfl (Nat.le_of_ble_eq_true rfl) dL_isStep_286 ⟨(Nat.zero_le _), (Nat.zero_le _)⟩ (fun H locs hP hD hS => ?_)
  have hP : va_P D vwCl (wO T po a k x ++ wO T qo b k y) H := hP
  have hD : va_D A (wO T po a k x ++ wO T qo b k y) := hD
  refine W.eq (g2 := F0 m 289 ls [.int (qLeast k.1)]) rfl ?_
  refine lv_istore (lv' := [(8, .int (qLeast k.1)), (7, .int (nI n)), (6, .int (nI pa)), (5, .int (qSum k.1)), (4, .int (xi >>> ((4 : Int32) &&& 31))), (0, .ref po), (1, .ref qo), (2, .int xi), (3, .int yi)]) hx hb dL_isStep_289 hl (by decide) rfl (fun ls hl => ?_)
  refine lv_aload_n hx hb dL_isStep_291 rfl (lv_at hl 5 rfl) ?_
  refine lv_iload hx hb dL_isStep_292 (lv_at hl 2 rfl) ?_
  refine kWT (As := [.ref po, .int (nI pa)]) (rest := []) ⟨hx, hb, hml, hown, hts⟩ (L_estimate l D T po a k x pa hp) (vx_cwSW 2 hts gL_isStep_L_estimate rfl rfl rfl (by decide +kernel) ⟨Nat.le_of_ble_eq_true rfl, Nat.le_of_ble_eq_true rfl⟩) hC hXX hZ hE hNc hP hD hS hA rfl hl.1 rfl (Nat.le_of_ble_eq_true rfl) dL_isStep_294 ⟨(Nat.zero_le _), (Nat.zero_le _)⟩ (fun H locs hP hD hS => ?_)
  have hP : va_P D vwCl (wO T po a k x ++ wO T qo b k y) H := hP
  have hD : va_D A (wO T po a k x ++ wO T qo b k y) := hD
  refine W.eq (g2 := F0 m 297 ls [.int (qEst k.1 pa)]) rfl ?_
  refine lv_istore (lv' := [(9, .int (qEst k.1 pa)), (8, .int (qLeast k.1)), (7, .int (nI n)), (6, .int (nI pa)), (5, .int (qSum k.1)), (4, .int (xi >>> ((4 : Int32) &&& 31))), (0, .ref po), (1, .ref qo), (2, .int xi), (3, .int yi)]) hx hb dL_isStep_297 hl (by decide) rfl (fun ls hl => ?_)
  refine lv_aload_n hx hb dL_isStep_299 rfl (lv_at hl 7 rfl) ?_
  refine lv_iload hx hb dL_isStep_300 (lv_at hl 3 rfl) ?_
  refine lv_iload hx hb dL_isStep_302 (lv_at hl 2 rfl) ?_
  refine lv_iload hx hb dL_isStep_304 (lv_at hl 5 rfl) ?_
  refine lv_iconst (v := 3) hx hb dL_isStep_306 (by decide) ?_
  refine lv_ishr hx hb dL_isStep_307 ?_
  refine lv_iconst (v := 2) hx hb dL_isStep_308 (by decide) ?_
  have hP : va_P D vwCl ([] ++ (wO T po a k x ++ wO T qo b k y)) _ := hP
  have hD : va_D A ([] ++ (wO T po a k x ++ wO T qo b k y)) := hD
  refine kS (As := [.int ((xi >>> ((4 : Int32) &&& 31)) >>> ((3 : Int32) &&& 31)), .int 2]) (rest := [.int (nI n), .int (nI pa), .ref qo]) ⟨hx, hb, hml, hown, hts⟩ (L_up l D T ((xi >>> ((4 : Int32) &&& 31)) >>> ((3 : Int32) &&& 31)) 2 (by decide) (by decide)) (va_cwS 2 hts gL_isStep_L_up rfl rfl rfl (by decide +kernel) ⟨Nat.le_of_ble_eq_true rfl, Nat.le_of_ble_eq_true rfl⟩) hC hP hD hS hA rfl hl.1 rfl (Nat.le_of_ble_eq_true rfl) dL_isStep_309 ⟨(by show 0 + 0 ≤ 2; omega), (by show 0 + 0 ≤ 12; omega)⟩ (fun H locs hP hD hS => ?_)
  have hP : va_P D vwCl (wO T po a k x ++ wO T qo b k y) H := hP
  have hD : va_D A (wO T po a k x ++ wO T qo b k y) := hD
  refine W.eq (g2 := F0 m 312 ls [.int (nI (upN ((xi >>> ((4 : Int32) &&& 31)) >>> ((3 : Int32) &&& 31)) 2)), .int (nI n), .int (nI pa), .ref qo]) rfl ?_
  refine lv_if_ne (tgt := 319) hx hb dL_isStep_312 (by decide) (fun _ => ?_) (fun c_x => absurd c_x (up_eq0 (by decide) (by decide) hi))
  refine lv_iconst (v := 0) hx hb dL_isStep_319 (by decide) ?_
  have hP := va_P_perm List.perm_append_comm hP
  have hD := va_D_perm List.perm_append_comm hD
  refine kWP (As := [.ref qo, .int (nI pa), .int (nI n), .int 0]) (rest := []) ⟨hx, hb, hml, hown, hts⟩ hsg (va_cwS 4 hts gL_isStep_L_sung rfl rfl rfl (by decide +kernel) ⟨Nat.le_of_ble_eq_true rfl, Nat.le_of_ble_eq_true rfl⟩) hC hXX hZ hE hNc hP hD hS hA rfl hl.1 rfl (Nat.le_of_ble_eq_true rfl) dL_isStep_320 ⟨(by show 0 + 0 ≤ 2; omega), (by show 0 + 0 ≤ 12; omega)⟩ (fun H locs hP hD hS => ?_)
  have hP : va_P D vwCl (wO T qo b (recQ k (tkR k.1 pa n)) ys ++ wO T po a k x) H := hP
  have hD : va_D A (wO T qo b (recQ k (tkR k.1 pa n)) ys ++ wO T po a k x) := hD
  refine W.eq (g2 := F0 m 323 ls [.int (qSum k.1 + nI n)]) rfl ?_
  refine lv_iload hx hb dL_isStep_323 (lv_at hl 4 rfl) ?_
  refine lv_iload hx hb dL_isStep_325 (lv_at hl 2 rfl) ?_
  refine lv_iadd hx hb dL_isStep_327 ?_
  refine lv_icmp_ne (tgt := 335) hx hb dL_isStep_328 (by decide) (fun c_x => absurd rfl c_x) (fun _ => ?_)
  refine lv_iconst (v := 1) hx hb dL_isStep_331 (by decide) ?_
  refine lv_goto (tgt := 336) hx hb dL_isStep_332 (by decide) ?_
  refine lv_istore (lv' := [(10, .int 1), (9, .int (qEst k.1 pa)), (8, .int (qLeast k.1)), (7, .int (nI n)), (6, .int (nI pa)), (5, .int (qSum k.1)), (4, .int (xi >>> ((4 : Int32) &&& 31))), (0, .ref po), (1, .ref qo), (2, .int xi), (3, .int yi)]) hx hb dL_isStep_336 hl (by decide) rfl (fun ls hl => ?_)
  refine lv_iload hx hb dL_isStep_338 (lv_at hl 0 rfl) ?_
  refine lv_if_eq (tgt := 354) hx hb dL_isStep_340 (by decide) (fun c_x => absurd c_x (by decide : ¬ ((1 : Int32) = 0))) (fun _ => ?_)
  refine lv_aload_n hx hb dL_isStep_343 rfl (lv_at hl 7 rfl) ?_
  have hP := va_P_perm List.perm_append_comm hP
  have hD := va_D_perm List.perm_append_comm hD
  refine kV (ci := 7) (As := []) (rest := []) ⟨hx, hb, hml, hown, hts⟩ (o_clearText l D T po a k x) (cwV 0 hts gL_isStep_X8_clearText rfl rfl rfl (by decide +kernel) ⟨Nat.le_of_ble_eq_true rfl, Nat.le_of_ble_eq_true rfl⟩) hC hP hD hS hA rfl rfl rfl hl.1 rfl (Nat.le_of_ble_eq_true rfl) dL_isStep_344 ⟨(by show 0 + 0 + 0 ≤ 2; omega), (by show 0 + 0 + 0 ≤ 12; omega)⟩ (fun H locs hP hD hS => ?_)
  have hP : va_P D vwCl (wO T po a k (roX x pa 0) ++ wO T qo b (recQ k (tkR k.1 pa n)) ys) H := hP
  have hD : va_D A (wO T po a k (roX x pa 0) ++ wO T qo b (recQ k (tkR k.1 pa n)) ys) := hD
  refine W.eq (g2 := F0 m 347 ls [.int (nI x.1)]) rfl ?_
  refine lv_if_lt (tgt := 354) hx hb dL_isStep_347 (by decide) (fun c_x => absurd c_x (nI_pos (by omega))) (fun _ => ?_)
  refine lv_iconst (v := 1) hx hb dL_isStep_350 (by decide) ?_
  refine lv_goto (tgt := 355) hx hb dL_isStep_351 (by decide) ?_
  refine lv_istore (lv' := [(10, .int 1), (9, .int (qEst k.1 pa)), (8, .int (qLeast k.1)), (7, .int (nI n)), (6, .int (nI pa)), (5, .int (qSum k.1)), (4, .int (xi >>> ((4 : Int32) &&& 31))), (0, .ref po), (1, .ref qo), (2, .int xi), (3, .int yi)]) hx hb dL_isStep_355 hl (by decide) rfl (fun ls hl => ?_)
  refine lv_iconst (v := 0) hx hb dL_isStep_357 (by decide) ?_
  refine lv_istore (lv' := [(11, .int 0), (10, .int 1), (9, .int (qEst k.1 pa)), (8, .int (qLeast k.1)), (7, .int (nI n)), (6, .int (nI pa)), (5, .int (qSum k.1)), (4, .int (xi >>> ((4 : Int32) &&& 31))), (0, .ref po), (1, .ref qo), (2, .int xi), (3, .int yi)]) hx hb dL_isStep_358 hl (by decide) rfl (fun ls hl => ?_)
  have hP := va_P_perm List.perm_append_comm hP
  have hD := va_D_perm List.perm_append_comm hD
  exact loop_360 n 0 (by omega) _ _ _ _ _ hP hD hS (lv_sub hl [0, 1, 8, 9, 6, 5, 4, 3, 2] rfl) (by omega) (by omega)
set_option maxHeartbeats 4000000 in
set_option maxRecDepth 100000 in
theorem st_call_26_1 (l : Launch) (D : va_G) (T : Nat → ClassId) (hst9 : l.stackTraces = false) (po qo : Nat) (a b : Nat → Nat) (k : KS) (x y : CT) (xi yi : Int32) {M : Int} {pa : Nat} {ys : CT} (hK : KI k M) (hM0 : 0 ≤ M) (hM : M + 40 ≤ 99999) (hsel : 10 ≤ upN xi 24) (hm : upN (xi >>> ((4 : Int32) &&& 31)) 3 = 0) (hpa : upN yi 26 = pa) (hp : pa < 26) (h0 : qT k.1 pa = 0) (hfew : qSum k.1 + 1 ≤ 99999) (hsg : kWN l D T yL_sung wsL_sung rL_sung 0 0 [.ref qo, .int (nI pa), .int (nI 1), .int 0] (wO T qo b k y) (some (.int (qSum k.1 + nI 1))) (wO T qo b (recQ k (tkR k.1 pa 1)) ys)) : kWN l D T yL_isStep wsL_isStep rL_isStep 2 12 [.ref po, .ref qo, .int xi, .int yi] (wO T po a k x ++ wO T qo b k y) (some (.int 1)) (wO T po a (recQ k (tkQ k.1 pa)) x ++ wO T qo b (recQ k (tkQ k.1 pa)) ys) := by
  refine kWN.ofP (cc := cL_isStep) (maxL := 12) (ret := some .boolean) (by decide) rfl (Nat.le_of_ble_eq_true rfl) ?_
  intro p e s m below meth c A Q ls hx hb hml hown hr hlk hts hC hP hD hS hA hl hXX hZ hE hNc hret
  have hl : lv_has ls 12 [(0, .ref po), (1, .ref qo), (2, .int xi), (3, .int yi)] := hl
  have hP : va_P D vwCl (wO T po a k x ++ wO T qo b k y) s.heap := hP
  have hD : va_D A (wO T po a k x ++ wO T qo b k y) := hD
  refine lv_iload_n hx hb dL_isStep_0 rfl (lv_at hl 2 rfl) ?_
  refine lv_iconst (v := 4) hx hb dL_isStep_1 (by decide) ?_
  refine lv_ishr hx hb dL_isStep_2 ?_
  refine lv_istore (lv' := [(4, .int (xi >>> ((4 : Int32) &&& 31))), (0, .ref po), (1, .ref qo), (2, .int xi), (3, .int yi)]) hx hb dL_isStep_3 hl (by decide) rfl (fun ls hl => ?_)
  refine lv_aload_n hx hb dL_isStep_5 rfl (lv_at hl 1 rfl) ?_
  refine kV (ci := 7) (As := []) (rest := []) ⟨hx, hb, hml, hown, hts⟩ (o_calls l D T po a k x) (cwV 0 hts gL_isStep_X8_calls rfl rfl rfl (by decide +kernel) ⟨Nat.le_of_ble_eq_true rfl, Nat.le_of_ble_eq_true rfl⟩) hC hP hD hS hA rfl rfl rfl hl.1 rfl (Nat.le_of_ble_eq_true rfl) dL_isStep_6 ⟨(Nat.zero_le _), (Nat.zero_le _)⟩ (fun H locs hP hD hS => ?_)
  have hP : va_P D vwCl (wO T po a k x ++ wO T qo b k y) H := hP
  have hD : va_D A (wO T po a k x ++ wO T qo b k y) := hD
  refine W.eq (g2 := F0 m 9 ls [.int (qSum k.1)]) rfl ?_
  refine lv_istore (lv' := [(5, .int (qSum k.1)), (4, .int (xi >>> ((4 : Int32) &&& 31))), (0, .ref po), (1, .ref qo), (2, .int xi), (3, .int yi)]) hx hb dL_isStep_9 hl (by decide) rfl (fun ls hl => ?_)
  refine lv_iload_n hx hb dL_isStep_11 rfl (lv_at hl 4 rfl) ?_
  refine lv_bipush (v := 24) hx hb dL_isStep_12 (by decide) ?_
  have hP : va_P D vwCl ([] ++ (wO T po a k x ++ wO T qo b k y)) _ := hP
  have hD : va_D A ([] ++ (wO T po a k x ++ wO T qo b k y)) := hD
  refine kS (As := [.int xi, .int 24]) (rest := []) ⟨hx, hb, hml, hown, hts⟩ (L_up l D T xi 24 (by decide) (by decide)) (va_cwS 2 hts gL_isStep_L_up rfl rfl rfl (by decide +kernel) ⟨Nat.le_of_ble_eq_true rfl, Nat.le_of_ble_eq_true rfl⟩) hC hP hD hS hA rfl hl.1 rfl (Nat.le_of_ble_eq_true rfl) dL_isStep_14 ⟨(Nat.zero_le _), (Nat.zero_le _)⟩ (fun H locs hP hD hS => ?_)
  have hP : va_P D vwCl (wO T po a k x ++ wO T qo b k y) H := hP
  have hD : va_D A (wO T po a k x ++ wO T qo b k y) := hD
  refine W.eq (g2 := F0 m 17 ls [.int (nI (upN xi 24))]) rfl ?_
  refine lv_tableOut (tgt := 447) hx hb dL_isStep_17 (Or.inr (by rw [nI_toInt (by have := upN_lt xi (n := 24) (by decide); omega)]; omega)) (by decide) ?_
  refine lv_iload_n hx hb dL_isStep_447 rfl (lv_at hl 5 rfl) ?_
  refine lv_iload hx hb dL_isStep_448 (lv_at hl 1 rfl) ?_
  refine lv_iconst (v := 3) hx hb dL_isStep_450 (by decide) ?_
  have hP : va_P D vwCl ([] ++ (wO T po a k x ++ wO T qo b k y)) _ := hP
  have hD : va_D A ([] ++ (wO T po a k x ++ wO T qo b k y)) := hD
  refine kS (As := [.int (xi >>> ((4 : Int32) &&& 31)), .int 3]) (rest := [.int yi]) ⟨hx, hb, hml, hown, hts⟩ (L_up l D T (xi >>> ((4 : Int32) &&& 31)) 3 (by decide) (by decide)) (va_cwS 2 hts gL_isStep_L_up rfl rfl rfl (by decide +kernel) ⟨Nat.le_of_ble_eq_true rfl, Nat.le_of_ble_eq_true rfl⟩) hC hP hD hS hA rfl hl.1 rfl (Nat.le_of_ble_eq_true rfl) dL_isStep_451 ⟨(Nat.zero_le _), (Nat.zero_le _)⟩ (fun H locs hP hD hS => ?_)
  have hP : va_P D vwCl (wO T po a k x ++ wO T qo b k y) H := hP
  have hD : va_D A (wO T po a k x ++ wO T qo b k y) := hD
  refine W.eq (g2 := F0 m 454 ls [.int (nI (upN (xi >>> ((4 : Int32) &&& 31)) 3)), .int yi]) rfl ?_
  refine lv_if_ne (tgt := 462) hx hb dL_isStep_454 (by decide) (fun c_x => absurd (by rw [hm]; rfl) c_x) (fun _ => ?_)
  refine lv_bipush (v := 26) hx hb dL_isStep_457 (by decide) ?_
  refine lv_goto (tgt := 464) hx hb dL_isStep_459 (by decide) ?_
  have hP : va_P D vwCl ([] ++ (wO T po a k x ++ wO T qo b k y)) _ := hP
  have hD : va_D A ([] ++ (wO T po a k x ++ wO T qo b k y)) := hD
  refine kS (As := [.int yi, .int 26]) (rest := []) ⟨hx, hb, hml, hown, hts⟩ (L_up l D T yi 26 (by decide) (by decide)) (va_cwS 2 hts gL_isStep_L_up rfl rfl rfl (by decide +kernel) ⟨Nat.le_of_ble_eq_true rfl, Nat.le_of_ble_eq_true rfl⟩) hC hP hD hS hA rfl hl.1 rfl (Nat.le_of_ble_eq_true rfl) dL_isStep_464 ⟨(Nat.zero_le _), (Nat.zero_le _)⟩ (fun H locs hP hD hS => ?_)
  have hP : va_P D vwCl (wO T po a k x ++ wO T qo b k y) H := hP
  have hD : va_D A (wO T po a k x ++ wO T qo b k y) := hD
  refine W.eq (g2 := F0 m 467 ls [.int (nI (upN yi 26))]) rfl ?_
  refine W.eq (g2 := F0 m 467 ls (.int (nI pa) :: [])) (congrArg (fun z => F0 m 467 ls (.int z :: [])) (by rw [hpa] : (nI (upN yi 26) : Int32) = nI pa)) ?_
  refine lv_istore (lv' := [(6, .int (nI pa)), (5, .int (qSum k.1)), (4, .int (xi >>> ((4 : Int32) &&& 31))), (0, .ref po), (1, .ref qo), (2, .int xi), (3, .int yi)]) hx hb dL_isStep_467 hl (by decide) rfl (fun ls hl => ?_)
  refine lv_aload_n hx hb dL_isStep_469 rfl (lv_at hl 3 rfl) ?_
  refine lv_iload hx hb dL_isStep_470 (lv_at hl 0 rfl) ?_
  refine kWT (As := [.ref po, .int (nI pa)]) (rest := []) ⟨hx, hb, hml, hown, hts⟩ (L_count l D T po a k x pa hp) (vx_cwSW 2 hts gL_isStep_L_count rfl rfl rfl (by decide +kernel) ⟨Nat.le_of_ble_eq_true rfl, Nat.le_of_ble_eq_true rfl⟩) hC hXX hZ hE hNc hP hD hS hA rfl hl.1 rfl (Nat.le_of_ble_eq_true rfl) dL_isStep_472 ⟨(Nat.zero_le _), (Nat.zero_le _)⟩ (fun H locs hP hD hS => ?_)
  have hP : va_P D vwCl (wO T po a k x ++ wO T qo b k y) H := hP
  have hD : va_D A (wO T po a k x ++ wO T qo b k y) := hD
  refine W.eq (g2 := F0 m 475 ls [.int (qT k.1 pa)]) rfl ?_
  refine lv_istore (lv' := [(7, .int (qT k.1 pa)), (6, .int (nI pa)), (5, .int (qSum k.1)), (4, .int (xi >>> ((4 : Int32) &&& 31))), (0, .ref po), (1, .ref qo), (2, .int xi), (3, .int yi)]) hx hb dL_isStep_475 hl (by decide) rfl (fun ls hl => ?_)
  refine lv_aload_n hx hb dL_isStep_477 rfl (lv_at hl 4 rfl) ?_
  refine lv_iload hx hb dL_isStep_478 (lv_at hl 1 rfl) ?_
  refine kWT (As := [.ref po, .int (nI pa)]) (rest := []) ⟨hx, hb, hml, hown, hts⟩ (L_estimate l D T po a k x pa hp) (vx_cwSW 2 hts gL_isStep_L_estimate rfl rfl rfl (by decide +kernel) ⟨Nat.le_of_ble_eq_true rfl, Nat.le_of_ble_eq_true rfl⟩) hC hXX hZ hE hNc hP hD hS hA rfl hl.1 rfl (Nat.le_of_ble_eq_true rfl) dL_isStep_480 ⟨(by show 0 + 0 ≤ 2; omega), (by show 0 + 0 ≤ 12; omega)⟩ (fun H locs hP hD hS => ?_)
  have hP : va_P D vwCl (wO T po a k x ++ wO T qo b k y) H := hP
  have hD : va_D A (wO T po a k x ++ wO T qo b k y) := hD
  refine W.eq (g2 := F0 m 483 ls [.int (qEst k.1 pa)]) rfl ?_
  refine lv_istore (lv' := [(8, .int (qEst k.1 pa)), (7, .int (qT k.1 pa)), (6, .int (nI pa)), (5, .int (qSum k.1)), (4, .int (xi >>> ((4 : Int32) &&& 31))), (0, .ref po), (1, .ref qo), (2, .int xi), (3, .int yi)]) hx hb dL_isStep_483 hl (by decide) rfl (fun ls hl => ?_)
  refine lv_aload_n hx hb dL_isStep_485 rfl (lv_at hl 5 rfl) ?_
  refine kV (ci := 7) (As := []) (rest := []) ⟨hx, hb, hml, hown, hts⟩ (o_parrotsHeard l D T po a k x) (cwV 0 hts gL_isStep_X8_parrotsHeard rfl rfl rfl (by decide +kernel) ⟨Nat.le_of_ble_eq_true rfl, Nat.le_of_ble_eq_true rfl⟩) hC hP hD hS hA rfl rfl rfl hl.1 rfl (Nat.le_of_ble_eq_true rfl) dL_isStep_486 ⟨(by show 0 + 0 + 0 ≤ 2; omega), (by show 0 + 0 + 0 ≤ 12; omega)⟩ (fun H locs hP hD hS => ?_)
  have hP : va_P D vwCl (wO T po a k x ++ wO T qo b k y) H := hP
  have hD : va_D A (wO T po a k x ++ wO T qo b k y) := hD
  refine W.eq (g2 := F0 m 489 ls [.int (nI (cntN (qT k.1) 26))]) rfl ?_
  refine lv_istore (lv' := [(9, .int (nI (cntN (qT k.1) 26))), (8, .int (qEst k.1 pa)), (7, .int (qT k.1 pa)), (6, .int (nI pa)), (5, .int (qSum k.1)), (4, .int (xi >>> ((4 : Int32) &&& 31))), (0, .ref po), (1, .ref qo), (2, .int xi), (3, .int yi)]) hx hb dL_isStep_489 hl (by decide) rfl (fun ls hl => ?_)
  refine lv_aload_n hx hb dL_isStep_491 rfl (lv_at hl 6 rfl) ?_
  refine lv_iload hx hb dL_isStep_492 (lv_at hl 3 rfl) ?_
  refine kWT (As := [.ref po, .int (nI pa)]) (rest := []) ⟨hx, hb, hml, hown, hts⟩ (L_hear l D T po a k x pa hK hp hfew) (vx_cwSW 2 hts gL_isStep_L_hear rfl rfl rfl (by decide +kernel) ⟨Nat.le_of_ble_eq_true rfl, Nat.le_of_ble_eq_true rfl⟩) hC hXX hZ hE hNc hP hD hS hA rfl hl.1 rfl (Nat.le_of_ble_eq_true rfl) dL_isStep_494 ⟨(by show 0 + 0 + 0 ≤ 2; omega), (by show 0 + 0 + 0 ≤ 12; omega)⟩ (fun H locs hP hD hS => ?_)
  have hP : va_P D vwCl (wO T po a (recQ k (tkQ k.1 pa)) x ++ wO T qo b k y) H := hP
  have hD : va_D A (wO T po a (recQ k (tkQ k.1 pa)) x ++ wO T qo b k y) := hD
  refine W.eq (g2 := F0 m 497 ls [.int (qEst (tkQ k.1 pa) pa)]) rfl ?_
  refine lv_iload hx hb dL_isStep_497 (lv_at hl 1 rfl) ?_
  refine lv_iconst (v := 1) hx hb dL_isStep_499 (by decide) ?_
  refine lv_iadd hx hb dL_isStep_500 ?_
  refine lv_icmp_ne (tgt := 586) hx hb dL_isStep_501 (by decide) (fun c_x => absurd (f_est1 hp hK.1 (by omega)) c_x) (fun _ => ?_)
  refine lv_aload_n hx hb dL_isStep_504 rfl (lv_at hl 7 rfl) ?_
  refine lv_iload hx hb dL_isStep_505 (lv_at hl 3 rfl) ?_
  refine lv_iconst (v := 1) hx hb dL_isStep_507 (by decide) ?_
  refine lv_iconst (v := 0) hx hb dL_isStep_508 (by decide) ?_
  have hP := va_P_perm List.perm_append_comm hP
  have hD := va_D_perm List.perm_append_comm hD
  refine kWP (As := [.ref qo, .int (nI pa), .int 1, .int 0]) (rest := []) ⟨hx, hb, hml, hown, hts⟩ hsg (va_cwS 4 hts gL_isStep_L_sung rfl rfl rfl (by decide +kernel) ⟨Nat.le_of_ble_eq_true rfl, Nat.le_of_ble_eq_true rfl⟩) hC hXX hZ hE hNc hP hD hS hA rfl hl.1 rfl (Nat.le_of_ble_eq_true rfl) dL_isStep_509 ⟨(by show 0 + 0 + 0 + 0 ≤ 2; omega), (by show 0 + 0 + 0 + 0 ≤ 12; omega)⟩ (fun H locs hP hD hS => ?_)
  have hP : va_P D vwCl (wO T qo b (recQ k (tkQ k.1 pa)) ys ++ wO T po a (recQ k (tkQ k.1 pa)) x) H := hP
  have hD : va_D A (wO T qo b (recQ k (tkQ k.1 pa)) ys ++ wO T po a (recQ k (tkQ k.1 pa)) x) := hD
  refine W.eq (g2 := F0 m 512 ls [.int (qSum k.1 + nI 1)]) rfl ?_
  refine lv_iload hx hb dL_isStep_512 (lv_at hl 4 rfl) ?_
  refine lv_iconst (v := 1) hx hb dL_isStep_514 (by decide) ?_
  refine lv_iadd hx hb dL_isStep_515 ?_
  refine lv_icmp_ne (tgt := 586) hx hb dL_isStep_516 (by decide) (fun c_x => absurd rfl c_x) (fun _ => ?_)
  refine lv_aload_n hx hb dL_isStep_519 rfl (lv_at hl 6 rfl) ?_
  refine lv_iload hx hb dL_isStep_520 (lv_at hl 3 rfl) ?_
  have hP := va_P_perm List.perm_append_comm hP
  have hD := va_D_perm List.perm_append_comm hD
  refine kWT (As := [.ref po, .int (nI pa)]) (rest := []) ⟨hx, hb, hml, hown, hts⟩ (L_count l D T po a (recQ k (tkQ k.1 pa)) x pa hp) (vx_cwSW 2 hts gL_isStep_L_count rfl rfl rfl (by decide +kernel) ⟨Nat.le_of_ble_eq_true rfl, Nat.le_of_ble_eq_true rfl⟩) hC hXX hZ hE hNc hP hD hS hA rfl hl.1 rfl (Nat.le_of_ble_eq_true rfl) dL_isStep_522 ⟨(by show 0 + 0 + 0 + 0 + 0 ≤ 2; omega), (by show 0 + 0 + 0 + 0 + 0 ≤ 12; omega)⟩ (fun H locs hP hD hS => ?_)
  have hP : va_P D vwCl (wO T po a (recQ k (tkQ k.1 pa)) x ++ wO T qo b (recQ k (tkQ k.1 pa)) ys) H := hP
  have hD : va_D A (wO T po a (recQ k (tkQ k.1 pa)) x ++ wO T qo b (recQ k (tkQ k.1 pa)) ys) := hD
  refine W.eq (g2 := F0 m 525 ls [.int (qT (recQ k (tkQ k.1 pa)).1 pa)]) rfl ?_
  refine lv_iload hx hb dL_isStep_525 (lv_at hl 2 rfl) ?_
  refine lv_iconst (v := 1) hx hb dL_isStep_527 (by decide) ?_
  refine lv_iadd hx hb dL_isStep_528 ?_
  refine lv_icmp_ne (tgt := 586) hx hb dL_isStep_529 (by decide) (fun c_x => absurd (f_T1 _ _) c_x) (fun _ => ?_)
  refine lv_aload_n hx hb dL_isStep_532 rfl (lv_at hl 6 rfl) ?_
  refine kV (ci := 7) (As := []) (rest := []) ⟨hx, hb, hml, hown, hts⟩ (o_parrotsHeard l D T po a (recQ k (tkQ k.1 pa)) x) (cwV 0 hts gL_isStep_X8_parrotsHeard rfl rfl rfl (by decide +kernel) ⟨Nat.le_of_ble_eq_true rfl, Nat.le_of_ble_eq_true rfl⟩) hC hP hD hS hA rfl rfl rfl hl.1 rfl (Nat.le_of_ble_eq_true rfl) dL_isStep_533 ⟨(by show 0 + 0 + 0 + 0 + 0 + 0 ≤ 2; omega), (by show 0 + 0 + 0 + 0 + 0 + 0 ≤ 12; omega)⟩ (fun H locs hP hD hS => ?_)
  have hP : va_P D vwCl (wO T po a (recQ k (tkQ k.1 pa)) x ++ wO T qo b (recQ k (tkQ k.1 pa)) ys) H := hP
  have hD : va_D A (wO T po a (recQ k (tkQ k.1 pa)) x ++ wO T qo b (recQ k (tkQ k.1 pa)) ys) := hD
  refine W.eq (g2 := F0 m 536 ls [.int (nI (cntN (qT (recQ k (tkQ k.1 pa)).1) 26))]) rfl ?_
  refine lv_iload hx hb dL_isStep_536 (lv_at hl 0 rfl) ?_
  refine lv_iload hx hb dL_isStep_538 (lv_at hl 2 rfl) ?_
  refine lv_if_ne (tgt := 547) hx hb dL_isStep_540 (by decide) (fun c_x => absurd h0 c_x) (fun _ => ?_)
  refine lv_iconst (v := 1) hx hb dL_isStep_543 (by decide) ?_
  refine lv_goto (tgt := 548) hx hb dL_isStep_544 (by decide) ?_
  refine lv_iadd hx hb dL_isStep_548 ?_
  refine W.eq (g2 := F0 m 549 ls (.int (nI ((cntN (qT k.1) 26) + 1)) :: [.int (nI (cntN (qT (recQ k (tkQ k.1 pa)).1) 26))])) (congrArg (fun z => F0 m 549 ls (.int z :: [.int (nI (cntN (qT (recQ k (tkQ k.1 pa)).1) 26))])) (nI_1 (cntN (qT k.1) 26))) ?_
  refine lv_icmp_ne (tgt := 586) hx hb dL_isStep_549 (by decide) (fun c_x => absurd (congrArg nI (f_heard1 (M := M) hp h0)) c_x) (fun _ => ?_)
  refine lv_aload_n hx hb dL_isStep_552 rfl (lv_at hl 6 rfl) ?_
  refine lv_iload hx hb dL_isStep_553 (lv_at hl 3 rfl) ?_
  refine kWT (As := [.ref po, .int (nI pa)]) (rest := []) ⟨hx, hb, hml, hown, hts⟩ (L_estimate l D T po a (recQ k (tkQ k.1 pa)) x pa hp) (vx_cwSW 2 hts gL_isStep_L_estimate rfl rfl rfl (by decide +kernel) ⟨Nat.le_of_ble_eq_true rfl, Nat.le_of_ble_eq_true rfl⟩) hC hXX hZ hE hNc hP hD hS hA rfl hl.1 rfl (Nat.le_of_ble_eq_true rfl) dL_isStep_555 ⟨(by show 0 + 0 + 0 + 0 + 0 + 0 ≤ 2; omega), (by show 0 + 0 + 0 + 0 + 0 + 0 ≤ 12; omega)⟩ (fun H locs hP hD hS => ?_)
  have hP : va_P D vwCl (wO T po a (recQ k (tkQ k.1 pa)) x ++ wO T qo b (recQ k (tkQ k.1 pa)) ys) H := hP
  have hD : va_D A (wO T po a (recQ k (tkQ k.1 pa)) x ++ wO T qo b (recQ k (tkQ k.1 pa)) ys) := hD
  refine W.eq (g2 := F0 m 558 ls [.int (qEst (recQ k (tkQ k.1 pa)).1 pa)]) rfl ?_
  refine lv_aload_n hx hb dL_isStep_558 rfl (lv_at hl 6 rfl) ?_
  refine kV (ci := 7) (As := []) (rest := [.int (qEst (recQ k (tkQ k.1 pa)).1 pa)]) ⟨hx, hb, hml, hown, hts⟩ (o_floor l D T po a (recQ k (tkQ k.1 pa)) x) (cwV 0 hts gL_isStep_X8_floor rfl rfl rfl (by decide +kernel) ⟨Nat.le_of_ble_eq_true rfl, Nat.le_of_ble_eq_true rfl⟩) hC hP hD hS hA rfl rfl rfl hl.1 rfl (Nat.le_of_ble_eq_true rfl) dL_isStep_559 ⟨(by show 0 + 0 + 0 + 0 + 0 + 0 + 0 ≤ 2; omega), (by show 0 + 0 + 0 + 0 + 0 + 0 + 0 ≤ 12; omega)⟩ (fun H locs hP hD hS => ?_)
  have hP : va_P D vwCl (wO T po a (recQ k (tkQ k.1 pa)) x ++ wO T qo b (recQ k (tkQ k.1 pa)) ys) H := hP
  have hD : va_D A (wO T po a (recQ k (tkQ k.1 pa)) x ++ wO T qo b (recQ k (tkQ k.1 pa)) ys) := hD
  refine W.eq (g2 := F0 m 562 ls [.int (qLeast (recQ k (tkQ k.1 pa)).1), .int (qEst (recQ k (tkQ k.1 pa)).1 pa)]) rfl ?_
  refine lv_aload_n hx hb dL_isStep_562 rfl (lv_at hl 6 rfl) ?_
  refine kV (ci := 7) (As := []) (rest := [.int (qLeast (recQ k (tkQ k.1 pa)).1), .int (qEst (recQ k (tkQ k.1 pa)).1 pa)]) ⟨hx, hb, hml, hown, hts⟩ (o_counters l D T po a (recQ k (tkQ k.1 pa)) x) (cwV 0 hts gL_isStep_X8_counters rfl rfl rfl (by decide +kernel) ⟨Nat.le_of_ble_eq_true rfl, Nat.le_of_ble_eq_true rfl⟩) hC hP hD hS hA rfl rfl rfl hl.1 rfl (Nat.le_of_ble_eq_true rfl) dL_isStep_563 ⟨(by show 0 + 0 + 0 + 0 + 0 + 0 + 0 ≤ 2; omega), (by show 0 + 0 + 0 + 0 + 0 + 0 + 0 ≤ 12; omega)⟩ (fun H locs hP hD hS => ?_)
  have hP : va_P D vwCl (wO T po a (recQ k (tkQ k.1 pa)) x ++ wO T qo b (recQ k (tkQ k.1 pa)) ys) H := hP
  have hD : va_D A (wO T po a (recQ k (tkQ k.1 pa)) x ++ wO T qo b (recQ k (tkQ k.1 pa)) ys) := hD
  refine W.eq (g2 := F0 m 566 ls [.int (qSize (recQ k (tkQ k.1 pa)).1), .int (qLeast (recQ k (tkQ k.1 pa)).1), .int (qEst (recQ k (tkQ k.1 pa)).1 pa)]) rfl ?_
  refine lv_aload_n hx hb dL_isStep_566 rfl (lv_at hl 6 rfl) ?_
  refine kV (ci := 7) (As := []) (rest := [.int (qSize (recQ k (tkQ k.1 pa)).1), .int (qLeast (recQ k (tkQ k.1 pa)).1), .int (qEst (recQ k (tkQ k.1 pa)).1 pa)]) ⟨hx, hb, hml, hown, hts⟩ (o_capacity l D T po a (recQ k (tkQ k.1 pa)) x) (cwV 0 hts gL_isStep_X8_capacity rfl rfl rfl (by decide +kernel) ⟨Nat.le_of_ble_eq_true rfl, Nat.le_of_ble_eq_true rfl⟩) hC hP hD hS hA rfl rfl rfl hl.1 rfl (Nat.le_of_ble_eq_true rfl) dL_isStep_567 ⟨(by show 0 + 0 + 0 + 0 + 0 + 0 + 0 ≤ 2; omega), (by show 0 + 0 + 0 + 0 + 0 + 0 + 0 ≤ 12; omega)⟩ (fun H locs hP hD hS => ?_)
  have hP : va_P D vwCl (wO T po a (recQ k (tkQ k.1 pa)) x ++ wO T qo b (recQ k (tkQ k.1 pa)) ys) H := hP
  have hD : va_D A (wO T po a (recQ k (tkQ k.1 pa)) x ++ wO T qo b (recQ k (tkQ k.1 pa)) ys) := hD
  refine W.eq (g2 := F0 m 570 ls [.int (nI (qCap (recQ k (tkQ k.1 pa)).1)), .int (qSize (recQ k (tkQ k.1 pa)).1), .int (qLeast (recQ k (tkQ k.1 pa)).1), .int (qEst (recQ k (tkQ k.1 pa)).1 pa)]) rfl ?_
  refine lv_icmp_le (tgt := 577) hx hb dL_isStep_570 (by decide) (fun c570 => ?_) (fun c570 => ?_)
  · skip
    refine lv_iconst (v := 0) hx hb dL_isStep_577 (by decide) ?_
    refine lv_isub hx hb dL_isStep_578 ?_
    refine lv_icmp_le (tgt := 586) hx hb dL_isStep_579 (by decide) (fun c_x => absurd c_x (f_floor0 (SI_take hp hK.1 (by omega)).1 (by omega) (SI_take hp hK.1 (by omega)).2.2.2.1 c570)) (fun _ => ?_)
    refine lv_iconst (v := 1) hx hb dL_isStep_582 (by decide) ?_
    refine lv_goto (tgt := 587) hx hb dL_isStep_583 (by decide) ?_
    exact hret _ _ _ _ _ _ _ (by show 0 + 0 + 0 + 0 + 0 + 0 + 0 ≤ 2; omega) (by show 0 + 0 + 0 + 0 + 0 + 0 + 0 ≤ 12; omega) (fun Qc free hq hf => W.zret hx hb hr rfl hq hf dL_isStep_587 hlk) hP hD hS
  · skip
    refine lv_iconst (v := 1) hx hb dL_isStep_573 (by decide) ?_
    refine lv_goto (tgt := 578) hx hb dL_isStep_574 (by decide) ?_
    refine lv_isub hx hb dL_isStep_578 ?_
    refine lv_icmp_le (tgt := 586) hx hb dL_isStep_579 (by decide) (fun c_x => absurd c_x (f_floor1 (SI_take hp hK.1 (by omega)).1 (by omega) hp)) (fun _ => ?_)
    refine lv_iconst (v := 1) hx hb dL_isStep_582 (by decide) ?_
    refine lv_goto (tgt := 587) hx hb dL_isStep_583 (by decide) ?_
    exact hret _ _ _ _ _ _ _ (by show 0 + 0 + 0 + 0 + 0 + 0 + 0 ≤ 2; omega) (by show 0 + 0 + 0 + 0 + 0 + 0 + 0 ≤ 12; omega) (fun Qc free hq hf => W.zret hx hb hr rfl hq hf dL_isStep_587 hlk) hP hD hS
set_option maxHeartbeats 4000000 in
set_option maxRecDepth 100000 in
theorem st_call_26_0 (l : Launch) (D : va_G) (T : Nat → ClassId) (hst9 : l.stackTraces = false) (po qo : Nat) (a b : Nat → Nat) (k : KS) (x y : CT) (xi yi : Int32) {M : Int} {pa : Nat} {ys : CT} (hK : KI k M) (hM0 : 0 ≤ M) (hM : M + 40 ≤ 99999) (hsel : 10 ≤ upN xi 24) (hm : upN (xi >>> ((4 : Int32) &&& 31)) 3 = 0) (hpa : upN yi 26 = pa) (hp : pa < 26) (h0 : ¬ qT k.1 pa = 0) (hfew : qSum k.1 + 1 ≤ 99999) (hsg : kWN l D T yL_sung wsL_sung rL_sung 0 0 [.ref qo, .int (nI pa), .int (nI 1), .int 0] (wO T qo b k y) (some (.int (qSum k.1 + nI 1))) (wO T qo b (recQ k (tkR k.1 pa 1)) ys)) : kWN l D T yL_isStep wsL_isStep rL_isStep 2 12 [.ref po, .ref qo, .int xi, .int yi] (wO T po a k x ++ wO T qo b k y) (some (.int 1)) (wO T po a (recQ k (tkQ k.1 pa)) x ++ wO T qo b (recQ k (tkQ k.1 pa)) ys) := by
  refine kWN.ofP (cc := cL_isStep) (maxL := 12) (ret := some .boolean) (by decide) rfl (Nat.le_of_ble_eq_true rfl) ?_
  intro p e s m below meth c A Q ls hx hb hml hown hr hlk hts hC hP hD hS hA hl hXX hZ hE hNc hret
  have hl : lv_has ls 12 [(0, .ref po), (1, .ref qo), (2, .int xi), (3, .int yi)] := hl
  have hP : va_P D vwCl (wO T po a k x ++ wO T qo b k y) s.heap := hP
  have hD : va_D A (wO T po a k x ++ wO T qo b k y) := hD
  refine lv_iload_n hx hb dL_isStep_0 rfl (lv_at hl 2 rfl) ?_
  refine lv_iconst (v := 4) hx hb dL_isStep_1 (by decide) ?_
  refine lv_ishr hx hb dL_isStep_2 ?_
  refine lv_istore (lv' := [(4, .int (xi >>> ((4 : Int32) &&& 31))), (0, .ref po), (1, .ref qo), (2, .int xi), (3, .int yi)]) hx hb dL_isStep_3 hl (by decide) rfl (fun ls hl => ?_)
  refine lv_aload_n hx hb dL_isStep_5 rfl (lv_at hl 1 rfl) ?_
  refine kV (ci := 7) (As := []) (rest := []) ⟨hx, hb, hml, hown, hts⟩ (o_calls l D T po a k x) (cwV 0 hts gL_isStep_X8_calls rfl rfl rfl (by decide +kernel) ⟨Nat.le_of_ble_eq_true rfl, Nat.le_of_ble_eq_true rfl⟩) hC hP hD hS hA rfl rfl rfl hl.1 rfl (Nat.le_of_ble_eq_true rfl) dL_isStep_6 ⟨(Nat.zero_le _), (Nat.zero_le _)⟩ (fun H locs hP hD hS => ?_)
  have hP : va_P D vwCl (wO T po a k x ++ wO T qo b k y) H := hP
  have hD : va_D A (wO T po a k x ++ wO T qo b k y) := hD
  refine W.eq (g2 := F0 m 9 ls [.int (qSum k.1)]) rfl ?_
  refine lv_istore (lv' := [(5, .int (qSum k.1)), (4, .int (xi >>> ((4 : Int32) &&& 31))), (0, .ref po), (1, .ref qo), (2, .int xi), (3, .int yi)]) hx hb dL_isStep_9 hl (by decide) rfl (fun ls hl => ?_)
  refine lv_iload_n hx hb dL_isStep_11 rfl (lv_at hl 4 rfl) ?_
  refine lv_bipush (v := 24) hx hb dL_isStep_12 (by decide) ?_
  have hP : va_P D vwCl ([] ++ (wO T po a k x ++ wO T qo b k y)) _ := hP
  have hD : va_D A ([] ++ (wO T po a k x ++ wO T qo b k y)) := hD
  refine kS (As := [.int xi, .int 24]) (rest := []) ⟨hx, hb, hml, hown, hts⟩ (L_up l D T xi 24 (by decide) (by decide)) (va_cwS 2 hts gL_isStep_L_up rfl rfl rfl (by decide +kernel) ⟨Nat.le_of_ble_eq_true rfl, Nat.le_of_ble_eq_true rfl⟩) hC hP hD hS hA rfl hl.1 rfl (Nat.le_of_ble_eq_true rfl) dL_isStep_14 ⟨(Nat.zero_le _), (Nat.zero_le _)⟩ (fun H locs hP hD hS => ?_)
  have hP : va_P D vwCl (wO T po a k x ++ wO T qo b k y) H := hP
  have hD : va_D A (wO T po a k x ++ wO T qo b k y) := hD
  refine W.eq (g2 := F0 m 17 ls [.int (nI (upN xi 24))]) rfl ?_
  refine lv_tableOut (tgt := 447) hx hb dL_isStep_17 (Or.inr (by rw [nI_toInt (by have := upN_lt xi (n := 24) (by decide); omega)]; omega)) (by decide) ?_
  refine lv_iload_n hx hb dL_isStep_447 rfl (lv_at hl 5 rfl) ?_
  refine lv_iload hx hb dL_isStep_448 (lv_at hl 1 rfl) ?_
  refine lv_iconst (v := 3) hx hb dL_isStep_450 (by decide) ?_
  have hP : va_P D vwCl ([] ++ (wO T po a k x ++ wO T qo b k y)) _ := hP
  have hD : va_D A ([] ++ (wO T po a k x ++ wO T qo b k y)) := hD
  refine kS (As := [.int (xi >>> ((4 : Int32) &&& 31)), .int 3]) (rest := [.int yi]) ⟨hx, hb, hml, hown, hts⟩ (L_up l D T (xi >>> ((4 : Int32) &&& 31)) 3 (by decide) (by decide)) (va_cwS 2 hts gL_isStep_L_up rfl rfl rfl (by decide +kernel) ⟨Nat.le_of_ble_eq_true rfl, Nat.le_of_ble_eq_true rfl⟩) hC hP hD hS hA rfl hl.1 rfl (Nat.le_of_ble_eq_true rfl) dL_isStep_451 ⟨(Nat.zero_le _), (Nat.zero_le _)⟩ (fun H locs hP hD hS => ?_)
  have hP : va_P D vwCl (wO T po a k x ++ wO T qo b k y) H := hP
  have hD : va_D A (wO T po a k x ++ wO T qo b k y) := hD
  refine W.eq (g2 := F0 m 454 ls [.int (nI (upN (xi >>> ((4 : Int32) &&& 31)) 3)), .int yi]) rfl ?_
  refine lv_if_ne (tgt := 462) hx hb dL_isStep_454 (by decide) (fun c_x => absurd (by rw [hm]; rfl) c_x) (fun _ => ?_)
  refine lv_bipush (v := 26) hx hb dL_isStep_457 (by decide) ?_
  refine lv_goto (tgt := 464) hx hb dL_isStep_459 (by decide) ?_
  have hP : va_P D vwCl ([] ++ (wO T po a k x ++ wO T qo b k y)) _ := hP
  have hD : va_D A ([] ++ (wO T po a k x ++ wO T qo b k y)) := hD
  refine kS (As := [.int yi, .int 26]) (rest := []) ⟨hx, hb, hml, hown, hts⟩ (L_up l D T yi 26 (by decide) (by decide)) (va_cwS 2 hts gL_isStep_L_up rfl rfl rfl (by decide +kernel) ⟨Nat.le_of_ble_eq_true rfl, Nat.le_of_ble_eq_true rfl⟩) hC hP hD hS hA rfl hl.1 rfl (Nat.le_of_ble_eq_true rfl) dL_isStep_464 ⟨(Nat.zero_le _), (Nat.zero_le _)⟩ (fun H locs hP hD hS => ?_)
  have hP : va_P D vwCl (wO T po a k x ++ wO T qo b k y) H := hP
  have hD : va_D A (wO T po a k x ++ wO T qo b k y) := hD
  refine W.eq (g2 := F0 m 467 ls [.int (nI (upN yi 26))]) rfl ?_
  refine W.eq (g2 := F0 m 467 ls (.int (nI pa) :: [])) (congrArg (fun z => F0 m 467 ls (.int z :: [])) (by rw [hpa] : (nI (upN yi 26) : Int32) = nI pa)) ?_
  refine lv_istore (lv' := [(6, .int (nI pa)), (5, .int (qSum k.1)), (4, .int (xi >>> ((4 : Int32) &&& 31))), (0, .ref po), (1, .ref qo), (2, .int xi), (3, .int yi)]) hx hb dL_isStep_467 hl (by decide) rfl (fun ls hl => ?_)
  refine lv_aload_n hx hb dL_isStep_469 rfl (lv_at hl 3 rfl) ?_
  refine lv_iload hx hb dL_isStep_470 (lv_at hl 0 rfl) ?_
  refine kWT (As := [.ref po, .int (nI pa)]) (rest := []) ⟨hx, hb, hml, hown, hts⟩ (L_count l D T po a k x pa hp) (vx_cwSW 2 hts gL_isStep_L_count rfl rfl rfl (by decide +kernel) ⟨Nat.le_of_ble_eq_true rfl, Nat.le_of_ble_eq_true rfl⟩) hC hXX hZ hE hNc hP hD hS hA rfl hl.1 rfl (Nat.le_of_ble_eq_true rfl) dL_isStep_472 ⟨(Nat.zero_le _), (Nat.zero_le _)⟩ (fun H locs hP hD hS => ?_)
  have hP : va_P D vwCl (wO T po a k x ++ wO T qo b k y) H := hP
  have hD : va_D A (wO T po a k x ++ wO T qo b k y) := hD
  refine W.eq (g2 := F0 m 475 ls [.int (qT k.1 pa)]) rfl ?_
  refine lv_istore (lv' := [(7, .int (qT k.1 pa)), (6, .int (nI pa)), (5, .int (qSum k.1)), (4, .int (xi >>> ((4 : Int32) &&& 31))), (0, .ref po), (1, .ref qo), (2, .int xi), (3, .int yi)]) hx hb dL_isStep_475 hl (by decide) rfl (fun ls hl => ?_)
  refine lv_aload_n hx hb dL_isStep_477 rfl (lv_at hl 4 rfl) ?_
  refine lv_iload hx hb dL_isStep_478 (lv_at hl 1 rfl) ?_
  refine kWT (As := [.ref po, .int (nI pa)]) (rest := []) ⟨hx, hb, hml, hown, hts⟩ (L_estimate l D T po a k x pa hp) (vx_cwSW 2 hts gL_isStep_L_estimate rfl rfl rfl (by decide +kernel) ⟨Nat.le_of_ble_eq_true rfl, Nat.le_of_ble_eq_true rfl⟩) hC hXX hZ hE hNc hP hD hS hA rfl hl.1 rfl (Nat.le_of_ble_eq_true rfl) dL_isStep_480 ⟨(by show 0 + 0 ≤ 2; omega), (by show 0 + 0 ≤ 12; omega)⟩ (fun H locs hP hD hS => ?_)
  have hP : va_P D vwCl (wO T po a k x ++ wO T qo b k y) H := hP
  have hD : va_D A (wO T po a k x ++ wO T qo b k y) := hD
  refine W.eq (g2 := F0 m 483 ls [.int (qEst k.1 pa)]) rfl ?_
  refine lv_istore (lv' := [(8, .int (qEst k.1 pa)), (7, .int (qT k.1 pa)), (6, .int (nI pa)), (5, .int (qSum k.1)), (4, .int (xi >>> ((4 : Int32) &&& 31))), (0, .ref po), (1, .ref qo), (2, .int xi), (3, .int yi)]) hx hb dL_isStep_483 hl (by decide) rfl (fun ls hl => ?_)
  refine lv_aload_n hx hb dL_isStep_485 rfl (lv_at hl 5 rfl) ?_
  refine kV (ci := 7) (As := []) (rest := []) ⟨hx, hb, hml, hown, hts⟩ (o_parrotsHeard l D T po a k x) (cwV 0 hts gL_isStep_X8_parrotsHeard rfl rfl rfl (by decide +kernel) ⟨Nat.le_of_ble_eq_true rfl, Nat.le_of_ble_eq_true rfl⟩) hC hP hD hS hA rfl rfl rfl hl.1 rfl (Nat.le_of_ble_eq_true rfl) dL_isStep_486 ⟨(by show 0 + 0 + 0 ≤ 2; omega), (by show 0 + 0 + 0 ≤ 12; omega)⟩ (fun H locs hP hD hS => ?_)
  have hP : va_P D vwCl (wO T po a k x ++ wO T qo b k y) H := hP
  have hD : va_D A (wO T po a k x ++ wO T qo b k y) := hD
  refine W.eq (g2 := F0 m 489 ls [.int (nI (cntN (qT k.1) 26))]) rfl ?_
  refine lv_istore (lv' := [(9, .int (nI (cntN (qT k.1) 26))), (8, .int (qEst k.1 pa)), (7, .int (qT k.1 pa)), (6, .int (nI pa)), (5, .int (qSum k.1)), (4, .int (xi >>> ((4 : Int32) &&& 31))), (0, .ref po), (1, .ref qo), (2, .int xi), (3, .int yi)]) hx hb dL_isStep_489 hl (by decide) rfl (fun ls hl => ?_)
  refine lv_aload_n hx hb dL_isStep_491 rfl (lv_at hl 6 rfl) ?_
  refine lv_iload hx hb dL_isStep_492 (lv_at hl 3 rfl) ?_
  refine kWT (As := [.ref po, .int (nI pa)]) (rest := []) ⟨hx, hb, hml, hown, hts⟩ (L_hear l D T po a k x pa hK hp hfew) (vx_cwSW 2 hts gL_isStep_L_hear rfl rfl rfl (by decide +kernel) ⟨Nat.le_of_ble_eq_true rfl, Nat.le_of_ble_eq_true rfl⟩) hC hXX hZ hE hNc hP hD hS hA rfl hl.1 rfl (Nat.le_of_ble_eq_true rfl) dL_isStep_494 ⟨(by show 0 + 0 + 0 ≤ 2; omega), (by show 0 + 0 + 0 ≤ 12; omega)⟩ (fun H locs hP hD hS => ?_)
  have hP : va_P D vwCl (wO T po a (recQ k (tkQ k.1 pa)) x ++ wO T qo b k y) H := hP
  have hD : va_D A (wO T po a (recQ k (tkQ k.1 pa)) x ++ wO T qo b k y) := hD
  refine W.eq (g2 := F0 m 497 ls [.int (qEst (tkQ k.1 pa) pa)]) rfl ?_
  refine lv_iload hx hb dL_isStep_497 (lv_at hl 1 rfl) ?_
  refine lv_iconst (v := 1) hx hb dL_isStep_499 (by decide) ?_
  refine lv_iadd hx hb dL_isStep_500 ?_
  refine lv_icmp_ne (tgt := 586) hx hb dL_isStep_501 (by decide) (fun c_x => absurd (f_est1 hp hK.1 (by omega)) c_x) (fun _ => ?_)
  refine lv_aload_n hx hb dL_isStep_504 rfl (lv_at hl 7 rfl) ?_
  refine lv_iload hx hb dL_isStep_505 (lv_at hl 3 rfl) ?_
  refine lv_iconst (v := 1) hx hb dL_isStep_507 (by decide) ?_
  refine lv_iconst (v := 0) hx hb dL_isStep_508 (by decide) ?_
  have hP := va_P_perm List.perm_append_comm hP
  have hD := va_D_perm List.perm_append_comm hD
  refine kWP (As := [.ref qo, .int (nI pa), .int 1, .int 0]) (rest := []) ⟨hx, hb, hml, hown, hts⟩ hsg (va_cwS 4 hts gL_isStep_L_sung rfl rfl rfl (by decide +kernel) ⟨Nat.le_of_ble_eq_true rfl, Nat.le_of_ble_eq_true rfl⟩) hC hXX hZ hE hNc hP hD hS hA rfl hl.1 rfl (Nat.le_of_ble_eq_true rfl) dL_isStep_509 ⟨(by show 0 + 0 + 0 + 0 ≤ 2; omega), (by show 0 + 0 + 0 + 0 ≤ 12; omega)⟩ (fun H locs hP hD hS => ?_)
  have hP : va_P D vwCl (wO T qo b (recQ k (tkQ k.1 pa)) ys ++ wO T po a (recQ k (tkQ k.1 pa)) x) H := hP
  have hD : va_D A (wO T qo b (recQ k (tkQ k.1 pa)) ys ++ wO T po a (recQ k (tkQ k.1 pa)) x) := hD
  refine W.eq (g2 := F0 m 512 ls [.int (qSum k.1 + nI 1)]) rfl ?_
  refine lv_iload hx hb dL_isStep_512 (lv_at hl 4 rfl) ?_
  refine lv_iconst (v := 1) hx hb dL_isStep_514 (by decide) ?_
  refine lv_iadd hx hb dL_isStep_515 ?_
  refine lv_icmp_ne (tgt := 586) hx hb dL_isStep_516 (by decide) (fun c_x => absurd rfl c_x) (fun _ => ?_)
  refine lv_aload_n hx hb dL_isStep_519 rfl (lv_at hl 6 rfl) ?_
  refine lv_iload hx hb dL_isStep_520 (lv_at hl 3 rfl) ?_
  have hP := va_P_perm List.perm_append_comm hP
  have hD := va_D_perm List.perm_append_comm hD
  refine kWT (As := [.ref po, .int (nI pa)]) (rest := []) ⟨hx, hb, hml, hown, hts⟩ (L_count l D T po a (recQ k (tkQ k.1 pa)) x pa hp) (vx_cwSW 2 hts gL_isStep_L_count rfl rfl rfl (by decide +kernel) ⟨Nat.le_of_ble_eq_true rfl, Nat.le_of_ble_eq_true rfl⟩) hC hXX hZ hE hNc hP hD hS hA rfl hl.1 rfl (Nat.le_of_ble_eq_true rfl) dL_isStep_522 ⟨(by show 0 + 0 + 0 + 0 + 0 ≤ 2; omega), (by show 0 + 0 + 0 + 0 + 0 ≤ 12; omega)⟩ (fun H locs hP hD hS => ?_)
  have hP : va_P D vwCl (wO T po a (recQ k (tkQ k.1 pa)) x ++ wO T qo b (recQ k (tkQ k.1 pa)) ys) H := hP
  have hD : va_D A (wO T po a (recQ k (tkQ k.1 pa)) x ++ wO T qo b (recQ k (tkQ k.1 pa)) ys) := hD
  refine W.eq (g2 := F0 m 525 ls [.int (qT (recQ k (tkQ k.1 pa)).1 pa)]) rfl ?_
  refine lv_iload hx hb dL_isStep_525 (lv_at hl 2 rfl) ?_
  refine lv_iconst (v := 1) hx hb dL_isStep_527 (by decide) ?_
  refine lv_iadd hx hb dL_isStep_528 ?_
  refine lv_icmp_ne (tgt := 586) hx hb dL_isStep_529 (by decide) (fun c_x => absurd (f_T1 _ _) c_x) (fun _ => ?_)
  refine lv_aload_n hx hb dL_isStep_532 rfl (lv_at hl 6 rfl) ?_
  refine kV (ci := 7) (As := []) (rest := []) ⟨hx, hb, hml, hown, hts⟩ (o_parrotsHeard l D T po a (recQ k (tkQ k.1 pa)) x) (cwV 0 hts gL_isStep_X8_parrotsHeard rfl rfl rfl (by decide +kernel) ⟨Nat.le_of_ble_eq_true rfl, Nat.le_of_ble_eq_true rfl⟩) hC hP hD hS hA rfl rfl rfl hl.1 rfl (Nat.le_of_ble_eq_true rfl) dL_isStep_533 ⟨(by show 0 + 0 + 0 + 0 + 0 + 0 ≤ 2; omega), (by show 0 + 0 + 0 + 0 + 0 + 0 ≤ 12; omega)⟩ (fun H locs hP hD hS => ?_)
  have hP : va_P D vwCl (wO T po a (recQ k (tkQ k.1 pa)) x ++ wO T qo b (recQ k (tkQ k.1 pa)) ys) H := hP
  have hD : va_D A (wO T po a (recQ k (tkQ k.1 pa)) x ++ wO T qo b (recQ k (tkQ k.1 pa)) ys) := hD
  refine W.eq (g2 := F0 m 536 ls [.int (nI (cntN (qT (recQ k (tkQ k.1 pa)).1) 26))]) rfl ?_
  refine lv_iload hx hb dL_isStep_536 (lv_at hl 0 rfl) ?_
  refine lv_iload hx hb dL_isStep_538 (lv_at hl 2 rfl) ?_
  refine lv_if_ne (tgt := 547) hx hb dL_isStep_540 (by decide) (fun _ => ?_) (fun c_x => absurd c_x h0)
  refine lv_iconst (v := 0) hx hb dL_isStep_547 (by decide) ?_
  refine lv_iadd hx hb dL_isStep_548 ?_
  refine W.eq (g2 := F0 m 549 ls (.int (nI (cntN (qT k.1) 26)) :: [.int (nI (cntN (qT (recQ k (tkQ k.1 pa)).1) 26))])) (congrArg (fun z => F0 m 549 ls (.int z :: [.int (nI (cntN (qT (recQ k (tkQ k.1 pa)).1) 26))])) (Int32.add_zero _)) ?_
  refine lv_icmp_ne (tgt := 586) hx hb dL_isStep_549 (by decide) (fun c_x => absurd (congrArg nI (f_heard0 hp hK.1 (by omega) h0)) c_x) (fun _ => ?_)
  refine lv_aload_n hx hb dL_isStep_552 rfl (lv_at hl 6 rfl) ?_
  refine lv_iload hx hb dL_isStep_553 (lv_at hl 3 rfl) ?_
  refine kWT (As := [.ref po, .int (nI pa)]) (rest := []) ⟨hx, hb, hml, hown, hts⟩ (L_estimate l D T po a (recQ k (tkQ k.1 pa)) x pa hp) (vx_cwSW 2 hts gL_isStep_L_estimate rfl rfl rfl (by decide +kernel) ⟨Nat.le_of_ble_eq_true rfl, Nat.le_of_ble_eq_true rfl⟩) hC hXX hZ hE hNc hP hD hS hA rfl hl.1 rfl (Nat.le_of_ble_eq_true rfl) dL_isStep_555 ⟨(by show 0 + 0 + 0 + 0 + 0 + 0 ≤ 2; omega), (by show 0 + 0 + 0 + 0 + 0 + 0 ≤ 12; omega)⟩ (fun H locs hP hD hS => ?_)
  have hP : va_P D vwCl (wO T po a (recQ k (tkQ k.1 pa)) x ++ wO T qo b (recQ k (tkQ k.1 pa)) ys) H := hP
  have hD : va_D A (wO T po a (recQ k (tkQ k.1 pa)) x ++ wO T qo b (recQ k (tkQ k.1 pa)) ys) := hD
  refine W.eq (g2 := F0 m 558 ls [.int (qEst (recQ k (tkQ k.1 pa)).1 pa)]) rfl ?_
  refine lv_aload_n hx hb dL_isStep_558 rfl (lv_at hl 6 rfl) ?_
  refine kV (ci := 7) (As := []) (rest := [.int (qEst (recQ k (tkQ k.1 pa)).1 pa)]) ⟨hx, hb, hml, hown, hts⟩ (o_floor l D T po a (recQ k (tkQ k.1 pa)) x) (cwV 0 hts gL_isStep_X8_floor rfl rfl rfl (by decide +kernel) ⟨Nat.le_of_ble_eq_true rfl, Nat.le_of_ble_eq_true rfl⟩) hC hP hD hS hA rfl rfl rfl hl.1 rfl (Nat.le_of_ble_eq_true rfl) dL_isStep_559 ⟨(by show 0 + 0 + 0 + 0 + 0 + 0 + 0 ≤ 2; omega), (by show 0 + 0 + 0 + 0 + 0 + 0 + 0 ≤ 12; omega)⟩ (fun H locs hP hD hS => ?_)
  have hP : va_P D vwCl (wO T po a (recQ k (tkQ k.1 pa)) x ++ wO T qo b (recQ k (tkQ k.1 pa)) ys) H := hP
  have hD : va_D A (wO T po a (recQ k (tkQ k.1 pa)) x ++ wO T qo b (recQ k (tkQ k.1 pa)) ys) := hD
  refine W.eq (g2 := F0 m 562 ls [.int (qLeast (recQ k (tkQ k.1 pa)).1), .int (qEst (recQ k (tkQ k.1 pa)).1 pa)]) rfl ?_
  refine lv_aload_n hx hb dL_isStep_562 rfl (lv_at hl 6 rfl) ?_
  refine kV (ci := 7) (As := []) (rest := [.int (qLeast (recQ k (tkQ k.1 pa)).1), .int (qEst (recQ k (tkQ k.1 pa)).1 pa)]) ⟨hx, hb, hml, hown, hts⟩ (o_counters l D T po a (recQ k (tkQ k.1 pa)) x) (cwV 0 hts gL_isStep_X8_counters rfl rfl rfl (by decide +kernel) ⟨Nat.le_of_ble_eq_true rfl, Nat.le_of_ble_eq_true rfl⟩) hC hP hD hS hA rfl rfl rfl hl.1 rfl (Nat.le_of_ble_eq_true rfl) dL_isStep_563 ⟨(by show 0 + 0 + 0 + 0 + 0 + 0 + 0 ≤ 2; omega), (by show 0 + 0 + 0 + 0 + 0 + 0 + 0 ≤ 12; omega)⟩ (fun H locs hP hD hS => ?_)
  have hP : va_P D vwCl (wO T po a (recQ k (tkQ k.1 pa)) x ++ wO T qo b (recQ k (tkQ k.1 pa)) ys) H := hP
  have hD : va_D A (wO T po a (recQ k (tkQ k.1 pa)) x ++ wO T qo b (recQ k (tkQ k.1 pa)) ys) := hD
  refine W.eq (g2 := F0 m 566 ls [.int (qSize (recQ k (tkQ k.1 pa)).1), .int (qLeast (recQ k (tkQ k.1 pa)).1), .int (qEst (recQ k (tkQ k.1 pa)).1 pa)]) rfl ?_
  refine lv_aload_n hx hb dL_isStep_566 rfl (lv_at hl 6 rfl) ?_
  refine kV (ci := 7) (As := []) (rest := [.int (qSize (recQ k (tkQ k.1 pa)).1), .int (qLeast (recQ k (tkQ k.1 pa)).1), .int (qEst (recQ k (tkQ k.1 pa)).1 pa)]) ⟨hx, hb, hml, hown, hts⟩ (o_capacity l D T po a (recQ k (tkQ k.1 pa)) x) (cwV 0 hts gL_isStep_X8_capacity rfl rfl rfl (by decide +kernel) ⟨Nat.le_of_ble_eq_true rfl, Nat.le_of_ble_eq_true rfl⟩) hC hP hD hS hA rfl rfl rfl hl.1 rfl (Nat.le_of_ble_eq_true rfl) dL_isStep_567 ⟨(by show 0 + 0 + 0 + 0 + 0 + 0 + 0 ≤ 2; omega), (by show 0 + 0 + 0 + 0 + 0 + 0 + 0 ≤ 12; omega)⟩ (fun H locs hP hD hS => ?_)
  have hP : va_P D vwCl (wO T po a (recQ k (tkQ k.1 pa)) x ++ wO T qo b (recQ k (tkQ k.1 pa)) ys) H := hP
  have hD : va_D A (wO T po a (recQ k (tkQ k.1 pa)) x ++ wO T qo b (recQ k (tkQ k.1 pa)) ys) := hD
  refine W.eq (g2 := F0 m 570 ls [.int (nI (qCap (recQ k (tkQ k.1 pa)).1)), .int (qSize (recQ k (tkQ k.1 pa)).1), .int (qLeast (recQ k (tkQ k.1 pa)).1), .int (qEst (recQ k (tkQ k.1 pa)).1 pa)]) rfl ?_
  refine lv_icmp_le (tgt := 577) hx hb dL_isStep_570 (by decide) (fun c570 => ?_) (fun c570 => ?_)
  · skip
    refine lv_iconst (v := 0) hx hb dL_isStep_577 (by decide) ?_
    refine lv_isub hx hb dL_isStep_578 ?_
    refine lv_icmp_le (tgt := 586) hx hb dL_isStep_579 (by decide) (fun c_x => absurd c_x (f_floor0 (SI_take hp hK.1 (by omega)).1 (by omega) (SI_take hp hK.1 (by omega)).2.2.2.1 c570)) (fun _ => ?_)
    refine lv_iconst (v := 1) hx hb dL_isStep_582 (by decide) ?_
    refine lv_goto (tgt := 587) hx hb dL_isStep_583 (by decide) ?_
    exact hret _ _ _ _ _ _ _ (by show 0 + 0 + 0 + 0 + 0 + 0 + 0 ≤ 2; omega) (by show 0 + 0 + 0 + 0 + 0 + 0 + 0 ≤ 12; omega) (fun Qc free hq hf => W.zret hx hb hr rfl hq hf dL_isStep_587 hlk) hP hD hS
  · skip
    refine lv_iconst (v := 1) hx hb dL_isStep_573 (by decide) ?_
    refine lv_goto (tgt := 578) hx hb dL_isStep_574 (by decide) ?_
    refine lv_isub hx hb dL_isStep_578 ?_
    refine lv_icmp_le (tgt := 586) hx hb dL_isStep_579 (by decide) (fun c_x => absurd c_x (f_floor1 (SI_take hp hK.1 (by omega)).1 (by omega) hp)) (fun _ => ?_)
    refine lv_iconst (v := 1) hx hb dL_isStep_582 (by decide) ?_
    refine lv_goto (tgt := 587) hx hb dL_isStep_583 (by decide) ?_
    exact hret _ _ _ _ _ _ _ (by show 0 + 0 + 0 + 0 + 0 + 0 + 0 ≤ 2; omega) (by show 0 + 0 + 0 + 0 + 0 + 0 + 0 ≤ 12; omega) (fun Qc free hq hf => W.zret hx hb hr rfl hq hf dL_isStep_587 hlk) hP hD hS
set_option maxHeartbeats 4000000 in
set_option maxRecDepth 100000 in
theorem st_call_7_1 (l : Launch) (D : va_G) (T : Nat → ClassId) (hst9 : l.stackTraces = false) (po qo : Nat) (a b : Nat → Nat) (k : KS) (x y : CT) (xi yi : Int32) {M : Int} {pa : Nat} {ys : CT} (hK : KI k M) (hM0 : 0 ≤ M) (hM : M + 40 ≤ 99999) (hsel : 10 ≤ upN xi 24) (hm : ¬ upN (xi >>> ((4 : Int32) &&& 31)) 3 = 0) (hpa : upN yi 7 = pa) (hp : pa < 26) (h0 : qT k.1 pa = 0) (hfew : qSum k.1 + 1 ≤ 99999) (hsg : kWN l D T yL_sung wsL_sung rL_sung 0 0 [.ref qo, .int (nI pa), .int (nI 1), .int 0] (wO T qo b k y) (some (.int (qSum k.1 + nI 1))) (wO T qo b (recQ k (tkR k.1 pa 1)) ys)) : kWN l D T yL_isStep wsL_isStep rL_isStep 2 12 [.ref po, .ref qo, .int xi, .int yi] (wO T po a k x ++ wO T qo b k y) (some (.int 1)) (wO T po a (recQ k (tkQ k.1 pa)) x ++ wO T qo b (recQ k (tkQ k.1 pa)) ys) := by
  refine kWN.ofP (cc := cL_isStep) (maxL := 12) (ret := some .boolean) (by decide) rfl (Nat.le_of_ble_eq_true rfl) ?_
  intro p e s m below meth c A Q ls hx hb hml hown hr hlk hts hC hP hD hS hA hl hXX hZ hE hNc hret
  have hl : lv_has ls 12 [(0, .ref po), (1, .ref qo), (2, .int xi), (3, .int yi)] := hl
  have hP : va_P D vwCl (wO T po a k x ++ wO T qo b k y) s.heap := hP
  have hD : va_D A (wO T po a k x ++ wO T qo b k y) := hD
  refine lv_iload_n hx hb dL_isStep_0 rfl (lv_at hl 2 rfl) ?_
  refine lv_iconst (v := 4) hx hb dL_isStep_1 (by decide) ?_
  refine lv_ishr hx hb dL_isStep_2 ?_
  refine lv_istore (lv' := [(4, .int (xi >>> ((4 : Int32) &&& 31))), (0, .ref po), (1, .ref qo), (2, .int xi), (3, .int yi)]) hx hb dL_isStep_3 hl (by decide) rfl (fun ls hl => ?_)
  refine lv_aload_n hx hb dL_isStep_5 rfl (lv_at hl 1 rfl) ?_
  refine kV (ci := 7) (As := []) (rest := []) ⟨hx, hb, hml, hown, hts⟩ (o_calls l D T po a k x) (cwV 0 hts gL_isStep_X8_calls rfl rfl rfl (by decide +kernel) ⟨Nat.le_of_ble_eq_true rfl, Nat.le_of_ble_eq_true rfl⟩) hC hP hD hS hA rfl rfl rfl hl.1 rfl (Nat.le_of_ble_eq_true rfl) dL_isStep_6 ⟨(Nat.zero_le _), (Nat.zero_le _)⟩ (fun H locs hP hD hS => ?_)
  have hP : va_P D vwCl (wO T po a k x ++ wO T qo b k y) H := hP
  have hD : va_D A (wO T po a k x ++ wO T qo b k y) := hD
  refine W.eq (g2 := F0 m 9 ls [.int (qSum k.1)]) rfl ?_
  refine lv_istore (lv' := [(5, .int (qSum k.1)), (4, .int (xi >>> ((4 : Int32) &&& 31))), (0, .ref po), (1, .ref qo), (2, .int xi), (3, .int yi)]) hx hb dL_isStep_9 hl (by decide) rfl (fun ls hl => ?_)
  refine lv_iload_n hx hb dL_isStep_11 rfl (lv_at hl 4 rfl) ?_
  refine lv_bipush (v := 24) hx hb dL_isStep_12 (by decide) ?_
  have hP : va_P D vwCl ([] ++ (wO T po a k x ++ wO T qo b k y)) _ := hP
  have hD : va_D A ([] ++ (wO T po a k x ++ wO T qo b k y)) := hD
  refine kS (As := [.int xi, .int 24]) (rest := []) ⟨hx, hb, hml, hown, hts⟩ (L_up l D T xi 24 (by decide) (by decide)) (va_cwS 2 hts gL_isStep_L_up rfl rfl rfl (by decide +kernel) ⟨Nat.le_of_ble_eq_true rfl, Nat.le_of_ble_eq_true rfl⟩) hC hP hD hS hA rfl hl.1 rfl (Nat.le_of_ble_eq_true rfl) dL_isStep_14 ⟨(Nat.zero_le _), (Nat.zero_le _)⟩ (fun H locs hP hD hS => ?_)
  have hP : va_P D vwCl (wO T po a k x ++ wO T qo b k y) H := hP
  have hD : va_D A (wO T po a k x ++ wO T qo b k y) := hD
  refine W.eq (g2 := F0 m 17 ls [.int (nI (upN xi 24))]) rfl ?_
  refine lv_tableOut (tgt := 447) hx hb dL_isStep_17 (Or.inr (by rw [nI_toInt (by have := upN_lt xi (n := 24) (by decide); omega)]; omega)) (by decide) ?_
  refine lv_iload_n hx hb dL_isStep_447 rfl (lv_at hl 5 rfl) ?_
  refine lv_iload hx hb dL_isStep_448 (lv_at hl 1 rfl) ?_
  refine lv_iconst (v := 3) hx hb dL_isStep_450 (by decide) ?_
  have hP : va_P D vwCl ([] ++ (wO T po a k x ++ wO T qo b k y)) _ := hP
  have hD : va_D A ([] ++ (wO T po a k x ++ wO T qo b k y)) := hD
  refine kS (As := [.int (xi >>> ((4 : Int32) &&& 31)), .int 3]) (rest := [.int yi]) ⟨hx, hb, hml, hown, hts⟩ (L_up l D T (xi >>> ((4 : Int32) &&& 31)) 3 (by decide) (by decide)) (va_cwS 2 hts gL_isStep_L_up rfl rfl rfl (by decide +kernel) ⟨Nat.le_of_ble_eq_true rfl, Nat.le_of_ble_eq_true rfl⟩) hC hP hD hS hA rfl hl.1 rfl (Nat.le_of_ble_eq_true rfl) dL_isStep_451 ⟨(Nat.zero_le _), (Nat.zero_le _)⟩ (fun H locs hP hD hS => ?_)
  have hP : va_P D vwCl (wO T po a k x ++ wO T qo b k y) H := hP
  have hD : va_D A (wO T po a k x ++ wO T qo b k y) := hD
  refine W.eq (g2 := F0 m 454 ls [.int (nI (upN (xi >>> ((4 : Int32) &&& 31)) 3)), .int yi]) rfl ?_
  refine lv_if_ne (tgt := 462) hx hb dL_isStep_454 (by decide) (fun _ => ?_) (fun c_x => absurd c_x (up_eq0 (by decide) (by decide) hm))
  refine lv_bipush (v := 7) hx hb dL_isStep_462 (by decide) ?_
  have hP : va_P D vwCl ([] ++ (wO T po a k x ++ wO T qo b k y)) _ := hP
  have hD : va_D A ([] ++ (wO T po a k x ++ wO T qo b k y)) := hD
  refine kS (As := [.int yi, .int 7]) (rest := []) ⟨hx, hb, hml, hown, hts⟩ (L_up l D T yi 7 (by decide) (by decide)) (va_cwS 2 hts gL_isStep_L_up rfl rfl rfl (by decide +kernel) ⟨Nat.le_of_ble_eq_true rfl, Nat.le_of_ble_eq_true rfl⟩) hC hP hD hS hA rfl hl.1 rfl (Nat.le_of_ble_eq_true rfl) dL_isStep_464 ⟨(Nat.zero_le _), (Nat.zero_le _)⟩ (fun H locs hP hD hS => ?_)
  have hP : va_P D vwCl (wO T po a k x ++ wO T qo b k y) H := hP
  have hD : va_D A (wO T po a k x ++ wO T qo b k y) := hD
  refine W.eq (g2 := F0 m 467 ls [.int (nI (upN yi 7))]) rfl ?_
  refine W.eq (g2 := F0 m 467 ls (.int (nI pa) :: [])) (congrArg (fun z => F0 m 467 ls (.int z :: [])) (by rw [hpa] : (nI (upN yi 7) : Int32) = nI pa)) ?_
  refine lv_istore (lv' := [(6, .int (nI pa)), (5, .int (qSum k.1)), (4, .int (xi >>> ((4 : Int32) &&& 31))), (0, .ref po), (1, .ref qo), (2, .int xi), (3, .int yi)]) hx hb dL_isStep_467 hl (by decide) rfl (fun ls hl => ?_)
  refine lv_aload_n hx hb dL_isStep_469 rfl (lv_at hl 3 rfl) ?_
  refine lv_iload hx hb dL_isStep_470 (lv_at hl 0 rfl) ?_
  refine kWT (As := [.ref po, .int (nI pa)]) (rest := []) ⟨hx, hb, hml, hown, hts⟩ (L_count l D T po a k x pa hp) (vx_cwSW 2 hts gL_isStep_L_count rfl rfl rfl (by decide +kernel) ⟨Nat.le_of_ble_eq_true rfl, Nat.le_of_ble_eq_true rfl⟩) hC hXX hZ hE hNc hP hD hS hA rfl hl.1 rfl (Nat.le_of_ble_eq_true rfl) dL_isStep_472 ⟨(Nat.zero_le _), (Nat.zero_le _)⟩ (fun H locs hP hD hS => ?_)
  have hP : va_P D vwCl (wO T po a k x ++ wO T qo b k y) H := hP
  have hD : va_D A (wO T po a k x ++ wO T qo b k y) := hD
  refine W.eq (g2 := F0 m 475 ls [.int (qT k.1 pa)]) rfl ?_
  refine lv_istore (lv' := [(7, .int (qT k.1 pa)), (6, .int (nI pa)), (5, .int (qSum k.1)), (4, .int (xi >>> ((4 : Int32) &&& 31))), (0, .ref po), (1, .ref qo), (2, .int xi), (3, .int yi)]) hx hb dL_isStep_475 hl (by decide) rfl (fun ls hl => ?_)
  refine lv_aload_n hx hb dL_isStep_477 rfl (lv_at hl 4 rfl) ?_
  refine lv_iload hx hb dL_isStep_478 (lv_at hl 1 rfl) ?_
  refine kWT (As := [.ref po, .int (nI pa)]) (rest := []) ⟨hx, hb, hml, hown, hts⟩ (L_estimate l D T po a k x pa hp) (vx_cwSW 2 hts gL_isStep_L_estimate rfl rfl rfl (by decide +kernel) ⟨Nat.le_of_ble_eq_true rfl, Nat.le_of_ble_eq_true rfl⟩) hC hXX hZ hE hNc hP hD hS hA rfl hl.1 rfl (Nat.le_of_ble_eq_true rfl) dL_isStep_480 ⟨(by show 0 + 0 ≤ 2; omega), (by show 0 + 0 ≤ 12; omega)⟩ (fun H locs hP hD hS => ?_)
  have hP : va_P D vwCl (wO T po a k x ++ wO T qo b k y) H := hP
  have hD : va_D A (wO T po a k x ++ wO T qo b k y) := hD
  refine W.eq (g2 := F0 m 483 ls [.int (qEst k.1 pa)]) rfl ?_
  refine lv_istore (lv' := [(8, .int (qEst k.1 pa)), (7, .int (qT k.1 pa)), (6, .int (nI pa)), (5, .int (qSum k.1)), (4, .int (xi >>> ((4 : Int32) &&& 31))), (0, .ref po), (1, .ref qo), (2, .int xi), (3, .int yi)]) hx hb dL_isStep_483 hl (by decide) rfl (fun ls hl => ?_)
  refine lv_aload_n hx hb dL_isStep_485 rfl (lv_at hl 5 rfl) ?_
  refine kV (ci := 7) (As := []) (rest := []) ⟨hx, hb, hml, hown, hts⟩ (o_parrotsHeard l D T po a k x) (cwV 0 hts gL_isStep_X8_parrotsHeard rfl rfl rfl (by decide +kernel) ⟨Nat.le_of_ble_eq_true rfl, Nat.le_of_ble_eq_true rfl⟩) hC hP hD hS hA rfl rfl rfl hl.1 rfl (Nat.le_of_ble_eq_true rfl) dL_isStep_486 ⟨(by show 0 + 0 + 0 ≤ 2; omega), (by show 0 + 0 + 0 ≤ 12; omega)⟩ (fun H locs hP hD hS => ?_)
  have hP : va_P D vwCl (wO T po a k x ++ wO T qo b k y) H := hP
  have hD : va_D A (wO T po a k x ++ wO T qo b k y) := hD
  refine W.eq (g2 := F0 m 489 ls [.int (nI (cntN (qT k.1) 26))]) rfl ?_
  refine lv_istore (lv' := [(9, .int (nI (cntN (qT k.1) 26))), (8, .int (qEst k.1 pa)), (7, .int (qT k.1 pa)), (6, .int (nI pa)), (5, .int (qSum k.1)), (4, .int (xi >>> ((4 : Int32) &&& 31))), (0, .ref po), (1, .ref qo), (2, .int xi), (3, .int yi)]) hx hb dL_isStep_489 hl (by decide) rfl (fun ls hl => ?_)
  refine lv_aload_n hx hb dL_isStep_491 rfl (lv_at hl 6 rfl) ?_
  refine lv_iload hx hb dL_isStep_492 (lv_at hl 3 rfl) ?_
  refine kWT (As := [.ref po, .int (nI pa)]) (rest := []) ⟨hx, hb, hml, hown, hts⟩ (L_hear l D T po a k x pa hK hp hfew) (vx_cwSW 2 hts gL_isStep_L_hear rfl rfl rfl (by decide +kernel) ⟨Nat.le_of_ble_eq_true rfl, Nat.le_of_ble_eq_true rfl⟩) hC hXX hZ hE hNc hP hD hS hA rfl hl.1 rfl (Nat.le_of_ble_eq_true rfl) dL_isStep_494 ⟨(by show 0 + 0 + 0 ≤ 2; omega), (by show 0 + 0 + 0 ≤ 12; omega)⟩ (fun H locs hP hD hS => ?_)
  have hP : va_P D vwCl (wO T po a (recQ k (tkQ k.1 pa)) x ++ wO T qo b k y) H := hP
  have hD : va_D A (wO T po a (recQ k (tkQ k.1 pa)) x ++ wO T qo b k y) := hD
  refine W.eq (g2 := F0 m 497 ls [.int (qEst (tkQ k.1 pa) pa)]) rfl ?_
  refine lv_iload hx hb dL_isStep_497 (lv_at hl 1 rfl) ?_
  refine lv_iconst (v := 1) hx hb dL_isStep_499 (by decide) ?_
  refine lv_iadd hx hb dL_isStep_500 ?_
  refine lv_icmp_ne (tgt := 586) hx hb dL_isStep_501 (by decide) (fun c_x => absurd (f_est1 hp hK.1 (by omega)) c_x) (fun _ => ?_)
  refine lv_aload_n hx hb dL_isStep_504 rfl (lv_at hl 7 rfl) ?_
  refine lv_iload hx hb dL_isStep_505 (lv_at hl 3 rfl) ?_
  refine lv_iconst (v := 1) hx hb dL_isStep_507 (by decide) ?_
  refine lv_iconst (v := 0) hx hb dL_isStep_508 (by decide) ?_
  have hP := va_P_perm List.perm_append_comm hP
  have hD := va_D_perm List.perm_append_comm hD
  refine kWP (As := [.ref qo, .int (nI pa), .int 1, .int 0]) (rest := []) ⟨hx, hb, hml, hown, hts⟩ hsg (va_cwS 4 hts gL_isStep_L_sung rfl rfl rfl (by decide +kernel) ⟨Nat.le_of_ble_eq_true rfl, Nat.le_of_ble_eq_true rfl⟩) hC hXX hZ hE hNc hP hD hS hA rfl hl.1 rfl (Nat.le_of_ble_eq_true rfl) dL_isStep_509 ⟨(by show 0 + 0 + 0 + 0 ≤ 2; omega), (by show 0 + 0 + 0 + 0 ≤ 12; omega)⟩ (fun H locs hP hD hS => ?_)
  have hP : va_P D vwCl (wO T qo b (recQ k (tkQ k.1 pa)) ys ++ wO T po a (recQ k (tkQ k.1 pa)) x) H := hP
  have hD : va_D A (wO T qo b (recQ k (tkQ k.1 pa)) ys ++ wO T po a (recQ k (tkQ k.1 pa)) x) := hD
  refine W.eq (g2 := F0 m 512 ls [.int (qSum k.1 + nI 1)]) rfl ?_
  refine lv_iload hx hb dL_isStep_512 (lv_at hl 4 rfl) ?_
  refine lv_iconst (v := 1) hx hb dL_isStep_514 (by decide) ?_
  refine lv_iadd hx hb dL_isStep_515 ?_
  refine lv_icmp_ne (tgt := 586) hx hb dL_isStep_516 (by decide) (fun c_x => absurd rfl c_x) (fun _ => ?_)
  refine lv_aload_n hx hb dL_isStep_519 rfl (lv_at hl 6 rfl) ?_
  refine lv_iload hx hb dL_isStep_520 (lv_at hl 3 rfl) ?_
  have hP := va_P_perm List.perm_append_comm hP
  have hD := va_D_perm List.perm_append_comm hD
  refine kWT (As := [.ref po, .int (nI pa)]) (rest := []) ⟨hx, hb, hml, hown, hts⟩ (L_count l D T po a (recQ k (tkQ k.1 pa)) x pa hp) (vx_cwSW 2 hts gL_isStep_L_count rfl rfl rfl (by decide +kernel) ⟨Nat.le_of_ble_eq_true rfl, Nat.le_of_ble_eq_true rfl⟩) hC hXX hZ hE hNc hP hD hS hA rfl hl.1 rfl (Nat.le_of_ble_eq_true rfl) dL_isStep_522 ⟨(by show 0 + 0 + 0 + 0 + 0 ≤ 2; omega), (by show 0 + 0 + 0 + 0 + 0 ≤ 12; omega)⟩ (fun H locs hP hD hS => ?_)
  have hP : va_P D vwCl (wO T po a (recQ k (tkQ k.1 pa)) x ++ wO T qo b (recQ k (tkQ k.1 pa)) ys) H := hP
  have hD : va_D A (wO T po a (recQ k (tkQ k.1 pa)) x ++ wO T qo b (recQ k (tkQ k.1 pa)) ys) := hD
  refine W.eq (g2 := F0 m 525 ls [.int (qT (recQ k (tkQ k.1 pa)).1 pa)]) rfl ?_
  refine lv_iload hx hb dL_isStep_525 (lv_at hl 2 rfl) ?_
  refine lv_iconst (v := 1) hx hb dL_isStep_527 (by decide) ?_
  refine lv_iadd hx hb dL_isStep_528 ?_
  refine lv_icmp_ne (tgt := 586) hx hb dL_isStep_529 (by decide) (fun c_x => absurd (f_T1 _ _) c_x) (fun _ => ?_)
  refine lv_aload_n hx hb dL_isStep_532 rfl (lv_at hl 6 rfl) ?_
  refine kV (ci := 7) (As := []) (rest := []) ⟨hx, hb, hml, hown, hts⟩ (o_parrotsHeard l D T po a (recQ k (tkQ k.1 pa)) x) (cwV 0 hts gL_isStep_X8_parrotsHeard rfl rfl rfl (by decide +kernel) ⟨Nat.le_of_ble_eq_true rfl, Nat.le_of_ble_eq_true rfl⟩) hC hP hD hS hA rfl rfl rfl hl.1 rfl (Nat.le_of_ble_eq_true rfl) dL_isStep_533 ⟨(by show 0 + 0 + 0 + 0 + 0 + 0 ≤ 2; omega), (by show 0 + 0 + 0 + 0 + 0 + 0 ≤ 12; omega)⟩ (fun H locs hP hD hS => ?_)
  have hP : va_P D vwCl (wO T po a (recQ k (tkQ k.1 pa)) x ++ wO T qo b (recQ k (tkQ k.1 pa)) ys) H := hP
  have hD : va_D A (wO T po a (recQ k (tkQ k.1 pa)) x ++ wO T qo b (recQ k (tkQ k.1 pa)) ys) := hD
  refine W.eq (g2 := F0 m 536 ls [.int (nI (cntN (qT (recQ k (tkQ k.1 pa)).1) 26))]) rfl ?_
  refine lv_iload hx hb dL_isStep_536 (lv_at hl 0 rfl) ?_
  refine lv_iload hx hb dL_isStep_538 (lv_at hl 2 rfl) ?_
  refine lv_if_ne (tgt := 547) hx hb dL_isStep_540 (by decide) (fun c_x => absurd h0 c_x) (fun _ => ?_)
  refine lv_iconst (v := 1) hx hb dL_isStep_543 (by decide) ?_
  refine lv_goto (tgt := 548) hx hb dL_isStep_544 (by decide) ?_
  refine lv_iadd hx hb dL_isStep_548 ?_
  refine W.eq (g2 := F0 m 549 ls (.int (nI ((cntN (qT k.1) 26) + 1)) :: [.int (nI (cntN (qT (recQ k (tkQ k.1 pa)).1) 26))])) (congrArg (fun z => F0 m 549 ls (.int z :: [.int (nI (cntN (qT (recQ k (tkQ k.1 pa)).1) 26))])) (nI_1 (cntN (qT k.1) 26))) ?_
  refine lv_icmp_ne (tgt := 586) hx hb dL_isStep_549 (by decide) (fun c_x => absurd (congrArg nI (f_heard1 (M := M) hp h0)) c_x) (fun _ => ?_)
  refine lv_aload_n hx hb dL_isStep_552 rfl (lv_at hl 6 rfl) ?_
  refine lv_iload hx hb dL_isStep_553 (lv_at hl 3 rfl) ?_
  refine kWT (As := [.ref po, .int (nI pa)]) (rest := []) ⟨hx, hb, hml, hown, hts⟩ (L_estimate l D T po a (recQ k (tkQ k.1 pa)) x pa hp) (vx_cwSW 2 hts gL_isStep_L_estimate rfl rfl rfl (by decide +kernel) ⟨Nat.le_of_ble_eq_true rfl, Nat.le_of_ble_eq_true rfl⟩) hC hXX hZ hE hNc hP hD hS hA rfl hl.1 rfl (Nat.le_of_ble_eq_true rfl) dL_isStep_555 ⟨(by show 0 + 0 + 0 + 0 + 0 + 0 ≤ 2; omega), (by show 0 + 0 + 0 + 0 + 0 + 0 ≤ 12; omega)⟩ (fun H locs hP hD hS => ?_)
  have hP : va_P D vwCl (wO T po a (recQ k (tkQ k.1 pa)) x ++ wO T qo b (recQ k (tkQ k.1 pa)) ys) H := hP
  have hD : va_D A (wO T po a (recQ k (tkQ k.1 pa)) x ++ wO T qo b (recQ k (tkQ k.1 pa)) ys) := hD
  refine W.eq (g2 := F0 m 558 ls [.int (qEst (recQ k (tkQ k.1 pa)).1 pa)]) rfl ?_
  refine lv_aload_n hx hb dL_isStep_558 rfl (lv_at hl 6 rfl) ?_
  refine kV (ci := 7) (As := []) (rest := [.int (qEst (recQ k (tkQ k.1 pa)).1 pa)]) ⟨hx, hb, hml, hown, hts⟩ (o_floor l D T po a (recQ k (tkQ k.1 pa)) x) (cwV 0 hts gL_isStep_X8_floor rfl rfl rfl (by decide +kernel) ⟨Nat.le_of_ble_eq_true rfl, Nat.le_of_ble_eq_true rfl⟩) hC hP hD hS hA rfl rfl rfl hl.1 rfl (Nat.le_of_ble_eq_true rfl) dL_isStep_559 ⟨(by show 0 + 0 + 0 + 0 + 0 + 0 + 0 ≤ 2; omega), (by show 0 + 0 + 0 + 0 + 0 + 0 + 0 ≤ 12; omega)⟩ (fun H locs hP hD hS => ?_)
  have hP : va_P D vwCl (wO T po a (recQ k (tkQ k.1 pa)) x ++ wO T qo b (recQ k (tkQ k.1 pa)) ys) H := hP
  have hD : va_D A (wO T po a (recQ k (tkQ k.1 pa)) x ++ wO T qo b (recQ k (tkQ k.1 pa)) ys) := hD
  refine W.eq (g2 := F0 m 562 ls [.int (qLeast (recQ k (tkQ k.1 pa)).1), .int (qEst (recQ k (tkQ k.1 pa)).1 pa)]) rfl ?_
  refine lv_aload_n hx hb dL_isStep_562 rfl (lv_at hl 6 rfl) ?_
  refine kV (ci := 7) (As := []) (rest := [.int (qLeast (recQ k (tkQ k.1 pa)).1), .int (qEst (recQ k (tkQ k.1 pa)).1 pa)]) ⟨hx, hb, hml, hown, hts⟩ (o_counters l D T po a (recQ k (tkQ k.1 pa)) x) (cwV 0 hts gL_isStep_X8_counters rfl rfl rfl (by decide +kernel) ⟨Nat.le_of_ble_eq_true rfl, Nat.le_of_ble_eq_true rfl⟩) hC hP hD hS hA rfl rfl rfl hl.1 rfl (Nat.le_of_ble_eq_true rfl) dL_isStep_563 ⟨(by show 0 + 0 + 0 + 0 + 0 + 0 + 0 ≤ 2; omega), (by show 0 + 0 + 0 + 0 + 0 + 0 + 0 ≤ 12; omega)⟩ (fun H locs hP hD hS => ?_)
  have hP : va_P D vwCl (wO T po a (recQ k (tkQ k.1 pa)) x ++ wO T qo b (recQ k (tkQ k.1 pa)) ys) H := hP
  have hD : va_D A (wO T po a (recQ k (tkQ k.1 pa)) x ++ wO T qo b (recQ k (tkQ k.1 pa)) ys) := hD
  refine W.eq (g2 := F0 m 566 ls [.int (qSize (recQ k (tkQ k.1 pa)).1), .int (qLeast (recQ k (tkQ k.1 pa)).1), .int (qEst (recQ k (tkQ k.1 pa)).1 pa)]) rfl ?_
  refine lv_aload_n hx hb dL_isStep_566 rfl (lv_at hl 6 rfl) ?_
  refine kV (ci := 7) (As := []) (rest := [.int (qSize (recQ k (tkQ k.1 pa)).1), .int (qLeast (recQ k (tkQ k.1 pa)).1), .int (qEst (recQ k (tkQ k.1 pa)).1 pa)]) ⟨hx, hb, hml, hown, hts⟩ (o_capacity l D T po a (recQ k (tkQ k.1 pa)) x) (cwV 0 hts gL_isStep_X8_capacity rfl rfl rfl (by decide +kernel) ⟨Nat.le_of_ble_eq_true rfl, Nat.le_of_ble_eq_true rfl⟩) hC hP hD hS hA rfl rfl rfl hl.1 rfl (Nat.le_of_ble_eq_true rfl) dL_isStep_567 ⟨(by show 0 + 0 + 0 + 0 + 0 + 0 + 0 ≤ 2; omega), (by show 0 + 0 + 0 + 0 + 0 + 0 + 0 ≤ 12; omega)⟩ (fun H locs hP hD hS => ?_)
  have hP : va_P D vwCl (wO T po a (recQ k (tkQ k.1 pa)) x ++ wO T qo b (recQ k (tkQ k.1 pa)) ys) H := hP
  have hD : va_D A (wO T po a (recQ k (tkQ k.1 pa)) x ++ wO T qo b (recQ k (tkQ k.1 pa)) ys) := hD
  refine W.eq (g2 := F0 m 570 ls [.int (nI (qCap (recQ k (tkQ k.1 pa)).1)), .int (qSize (recQ k (tkQ k.1 pa)).1), .int (qLeast (recQ k (tkQ k.1 pa)).1), .int (qEst (recQ k (tkQ k.1 pa)).1 pa)]) rfl ?_
  refine lv_icmp_le (tgt := 577) hx hb dL_isStep_570 (by decide) (fun c570 => ?_) (fun c570 => ?_)
  · skip
    refine lv_iconst (v := 0) hx hb dL_isStep_577 (by decide) ?_
    refine lv_isub hx hb dL_isStep_578 ?_
    refine lv_icmp_le (tgt := 586) hx hb dL_isStep_579 (by decide) (fun c_x => absurd c_x (f_floor0 (SI_take hp hK.1 (by omega)).1 (by omega) (SI_take hp hK.1 (by omega)).2.2.2.1 c570)) (fun _ => ?_)
    refine lv_iconst (v := 1) hx hb dL_isStep_582 (by decide) ?_
    refine lv_goto (tgt := 587) hx hb dL_isStep_583 (by decide) ?_
    exact hret _ _ _ _ _ _ _ (by show 0 + 0 + 0 + 0 + 0 + 0 + 0 ≤ 2; omega) (by show 0 + 0 + 0 + 0 + 0 + 0 + 0 ≤ 12; omega) (fun Qc free hq hf => W.zret hx hb hr rfl hq hf dL_isStep_587 hlk) hP hD hS
  · skip
    refine lv_iconst (v := 1) hx hb dL_isStep_573 (by decide) ?_
    refine lv_goto (tgt := 578) hx hb dL_isStep_574 (by decide) ?_
    refine lv_isub hx hb dL_isStep_578 ?_
    refine lv_icmp_le (tgt := 586) hx hb dL_isStep_579 (by decide) (fun c_x => absurd c_x (f_floor1 (SI_take hp hK.1 (by omega)).1 (by omega) hp)) (fun _ => ?_)
    refine lv_iconst (v := 1) hx hb dL_isStep_582 (by decide) ?_
    refine lv_goto (tgt := 587) hx hb dL_isStep_583 (by decide) ?_
    exact hret _ _ _ _ _ _ _ (by show 0 + 0 + 0 + 0 + 0 + 0 + 0 ≤ 2; omega) (by show 0 + 0 + 0 + 0 + 0 + 0 + 0 ≤ 12; omega) (fun Qc free hq hf => W.zret hx hb hr rfl hq hf dL_isStep_587 hlk) hP hD hS
set_option maxHeartbeats 4000000 in
set_option maxRecDepth 100000 in
theorem st_call_7_0 (l : Launch) (D : va_G) (T : Nat → ClassId) (hst9 : l.stackTraces = false) (po qo : Nat) (a b : Nat → Nat) (k : KS) (x y : CT) (xi yi : Int32) {M : Int} {pa : Nat} {ys : CT} (hK : KI k M) (hM0 : 0 ≤ M) (hM : M + 40 ≤ 99999) (hsel : 10 ≤ upN xi 24) (hm : ¬ upN (xi >>> ((4 : Int32) &&& 31)) 3 = 0) (hpa : upN yi 7 = pa) (hp : pa < 26) (h0 : ¬ qT k.1 pa = 0) (hfew : qSum k.1 + 1 ≤ 99999) (hsg : kWN l D T yL_sung wsL_sung rL_sung 0 0 [.ref qo, .int (nI pa), .int (nI 1), .int 0] (wO T qo b k y) (some (.int (qSum k.1 + nI 1))) (wO T qo b (recQ k (tkR k.1 pa 1)) ys)) : kWN l D T yL_isStep wsL_isStep rL_isStep 2 12 [.ref po, .ref qo, .int xi, .int yi] (wO T po a k x ++ wO T qo b k y) (some (.int 1)) (wO T po a (recQ k (tkQ k.1 pa)) x ++ wO T qo b (recQ k (tkQ k.1 pa)) ys) := by
  refine kWN.ofP (cc := cL_isStep) (maxL := 12) (ret := some .boolean) (by decide) rfl (Nat.le_of_ble_eq_true rfl) ?_
  intro p e s m below meth c A Q ls hx hb hml hown hr hlk hts hC hP hD hS hA hl hXX hZ hE hNc hret
  have hl : lv_has ls 12 [(0, .ref po), (1, .ref qo), (2, .int xi), (3, .int yi)] := hl
  have hP : va_P D vwCl (wO T po a k x ++ wO T qo b k y) s.heap := hP
  have hD : va_D A (wO T po a k x ++ wO T qo b k y) := hD
  refine lv_iload_n hx hb dL_isStep_0 rfl (lv_at hl 2 rfl) ?_
  refine lv_iconst (v := 4) hx hb dL_isStep_1 (by decide) ?_
  refine lv_ishr hx hb dL_isStep_2 ?_
  refine lv_istore (lv' := [(4, .int (xi >>> ((4 : Int32) &&& 31))), (0, .ref po), (1, .ref qo), (2, .int xi), (3, .int yi)]) hx hb dL_isStep_3 hl (by decide) rfl (fun ls hl => ?_)
  refine lv_aload_n hx hb dL_isStep_5 rfl (lv_at hl 1 rfl) ?_
  refine kV (ci := 7) (As := []) (rest := []) ⟨hx, hb, hml, hown, hts⟩ (o_calls l D T po a k x) (cwV 0 hts gL_isStep_X8_calls rfl rfl rfl (by decide +kernel) ⟨Nat.le_of_ble_eq_true rfl, Nat.le_of_ble_eq_true rfl⟩) hC hP hD hS hA rfl rfl rfl hl.1 rfl (Nat.le_of_ble_eq_true rfl) dL_isStep_6 ⟨(Nat.zero_le _), (Nat.zero_le _)⟩ (fun H locs hP hD hS => ?_)
  have hP : va_P D vwCl (wO T po a k x ++ wO T qo b k y) H := hP
  have hD : va_D A (wO T po a k x ++ wO T qo b k y) := hD
  refine W.eq (g2 := F0 m 9 ls [.int (qSum k.1)]) rfl ?_
  refine lv_istore (lv' := [(5, .int (qSum k.1)), (4, .int (xi >>> ((4 : Int32) &&& 31))), (0, .ref po), (1, .ref qo), (2, .int xi), (3, .int yi)]) hx hb dL_isStep_9 hl (by decide) rfl (fun ls hl => ?_)
  refine lv_iload_n hx hb dL_isStep_11 rfl (lv_at hl 4 rfl) ?_
  refine lv_bipush (v := 24) hx hb dL_isStep_12 (by decide) ?_
  have hP : va_P D vwCl ([] ++ (wO T po a k x ++ wO T qo b k y)) _ := hP
  have hD : va_D A ([] ++ (wO T po a k x ++ wO T qo b k y)) := hD
  refine kS (As := [.int xi, .int 24]) (rest := []) ⟨hx, hb, hml, hown, hts⟩ (L_up l D T xi 24 (by decide) (by decide)) (va_cwS 2 hts gL_isStep_L_up rfl rfl rfl (by decide +kernel) ⟨Nat.le_of_ble_eq_true rfl, Nat.le_of_ble_eq_true rfl⟩) hC hP hD hS hA rfl hl.1 rfl (Nat.le_of_ble_eq_true rfl) dL_isStep_14 ⟨(Nat.zero_le _), (Nat.zero_le _)⟩ (fun H locs hP hD hS => ?_)
  have hP : va_P D vwCl (wO T po a k x ++ wO T qo b k y) H := hP
  have hD : va_D A (wO T po a k x ++ wO T qo b k y) := hD
  refine W.eq (g2 := F0 m 17 ls [.int (nI (upN xi 24))]) rfl ?_
  refine lv_tableOut (tgt := 447) hx hb dL_isStep_17 (Or.inr (by rw [nI_toInt (by have := upN_lt xi (n := 24) (by decide); omega)]; omega)) (by decide) ?_
  refine lv_iload_n hx hb dL_isStep_447 rfl (lv_at hl 5 rfl) ?_
  refine lv_iload hx hb dL_isStep_448 (lv_at hl 1 rfl) ?_
  refine lv_iconst (v := 3) hx hb dL_isStep_450 (by decide) ?_
  have hP : va_P D vwCl ([] ++ (wO T po a k x ++ wO T qo b k y)) _ := hP
  have hD : va_D A ([] ++ (wO T po a k x ++ wO T qo b k y)) := hD
  refine kS (As := [.int (xi >>> ((4 : Int32) &&& 31)), .int 3]) (rest := [.int yi]) ⟨hx, hb, hml, hown, hts⟩ (L_up l D T (xi >>> ((4 : Int32) &&& 31)) 3 (by decide) (by decide)) (va_cwS 2 hts gL_isStep_L_up rfl rfl rfl (by decide +kernel) ⟨Nat.le_of_ble_eq_true rfl, Nat.le_of_ble_eq_true rfl⟩) hC hP hD hS hA rfl hl.1 rfl (Nat.le_of_ble_eq_true rfl) dL_isStep_451 ⟨(Nat.zero_le _), (Nat.zero_le _)⟩ (fun H locs hP hD hS => ?_)
  have hP : va_P D vwCl (wO T po a k x ++ wO T qo b k y) H := hP
  have hD : va_D A (wO T po a k x ++ wO T qo b k y) := hD
  refine W.eq (g2 := F0 m 454 ls [.int (nI (upN (xi >>> ((4 : Int32) &&& 31)) 3)), .int yi]) rfl ?_
  refine lv_if_ne (tgt := 462) hx hb dL_isStep_454 (by decide) (fun _ => ?_) (fun c_x => absurd c_x (up_eq0 (by decide) (by decide) hm))
  refine lv_bipush (v := 7) hx hb dL_isStep_462 (by decide) ?_
  have hP : va_P D vwCl ([] ++ (wO T po a k x ++ wO T qo b k y)) _ := hP
  have hD : va_D A ([] ++ (wO T po a k x ++ wO T qo b k y)) := hD
  refine kS (As := [.int yi, .int 7]) (rest := []) ⟨hx, hb, hml, hown, hts⟩ (L_up l D T yi 7 (by decide) (by decide)) (va_cwS 2 hts gL_isStep_L_up rfl rfl rfl (by decide +kernel) ⟨Nat.le_of_ble_eq_true rfl, Nat.le_of_ble_eq_true rfl⟩) hC hP hD hS hA rfl hl.1 rfl (Nat.le_of_ble_eq_true rfl) dL_isStep_464 ⟨(Nat.zero_le _), (Nat.zero_le _)⟩ (fun H locs hP hD hS => ?_)
  have hP : va_P D vwCl (wO T po a k x ++ wO T qo b k y) H := hP
  have hD : va_D A (wO T po a k x ++ wO T qo b k y) := hD
  refine W.eq (g2 := F0 m 467 ls [.int (nI (upN yi 7))]) rfl ?_
  refine W.eq (g2 := F0 m 467 ls (.int (nI pa) :: [])) (congrArg (fun z => F0 m 467 ls (.int z :: [])) (by rw [hpa] : (nI (upN yi 7) : Int32) = nI pa)) ?_
  refine lv_istore (lv' := [(6, .int (nI pa)), (5, .int (qSum k.1)), (4, .int (xi >>> ((4 : Int32) &&& 31))), (0, .ref po), (1, .ref qo), (2, .int xi), (3, .int yi)]) hx hb dL_isStep_467 hl (by decide) rfl (fun ls hl => ?_)
  refine lv_aload_n hx hb dL_isStep_469 rfl (lv_at hl 3 rfl) ?_
  refine lv_iload hx hb dL_isStep_470 (lv_at hl 0 rfl) ?_
  refine kWT (As := [.ref po, .int (nI pa)]) (rest := []) ⟨hx, hb, hml, hown, hts⟩ (L_count l D T po a k x pa hp) (vx_cwSW 2 hts gL_isStep_L_count rfl rfl rfl (by decide +kernel) ⟨Nat.le_of_ble_eq_true rfl, Nat.le_of_ble_eq_true rfl⟩) hC hXX hZ hE hNc hP hD hS hA rfl hl.1 rfl (Nat.le_of_ble_eq_true rfl) dL_isStep_472 ⟨(Nat.zero_le _), (Nat.zero_le _)⟩ (fun H locs hP hD hS => ?_)
  have hP : va_P D vwCl (wO T po a k x ++ wO T qo b k y) H := hP
  have hD : va_D A (wO T po a k x ++ wO T qo b k y) := hD
  refine W.eq (g2 := F0 m 475 ls [.int (qT k.1 pa)]) rfl ?_
  refine lv_istore (lv' := [(7, .int (qT k.1 pa)), (6, .int (nI pa)), (5, .int (qSum k.1)), (4, .int (xi >>> ((4 : Int32) &&& 31))), (0, .ref po), (1, .ref qo), (2, .int xi), (3, .int yi)]) hx hb dL_isStep_475 hl (by decide) rfl (fun ls hl => ?_)
  refine lv_aload_n hx hb dL_isStep_477 rfl (lv_at hl 4 rfl) ?_
  refine lv_iload hx hb dL_isStep_478 (lv_at hl 1 rfl) ?_
  refine kWT (As := [.ref po, .int (nI pa)]) (rest := []) ⟨hx, hb, hml, hown, hts⟩ (L_estimate l D T po a k x pa hp) (vx_cwSW 2 hts gL_isStep_L_estimate rfl rfl rfl (by decide +kernel) ⟨Nat.le_of_ble_eq_true rfl, Nat.le_of_ble_eq_true rfl⟩) hC hXX hZ hE hNc hP hD hS hA rfl hl.1 rfl (Nat.le_of_ble_eq_true rfl) dL_isStep_480 ⟨(by show 0 + 0 ≤ 2; omega), (by show 0 + 0 ≤ 12; omega)⟩ (fun H locs hP hD hS => ?_)
  have hP : va_P D vwCl (wO T po a k x ++ wO T qo b k y) H := hP
  have hD : va_D A (wO T po a k x ++ wO T qo b k y) := hD
  refine W.eq (g2 := F0 m 483 ls [.int (qEst k.1 pa)]) rfl ?_
  refine lv_istore (lv' := [(8, .int (qEst k.1 pa)), (7, .int (qT k.1 pa)), (6, .int (nI pa)), (5, .int (qSum k.1)), (4, .int (xi >>> ((4 : Int32) &&& 31))), (0, .ref po), (1, .ref qo), (2, .int xi), (3, .int yi)]) hx hb dL_isStep_483 hl (by decide) rfl (fun ls hl => ?_)
  refine lv_aload_n hx hb dL_isStep_485 rfl (lv_at hl 5 rfl) ?_
  refine kV (ci := 7) (As := []) (rest := []) ⟨hx, hb, hml, hown, hts⟩ (o_parrotsHeard l D T po a k x) (cwV 0 hts gL_isStep_X8_parrotsHeard rfl rfl rfl (by decide +kernel) ⟨Nat.le_of_ble_eq_true rfl, Nat.le_of_ble_eq_true rfl⟩) hC hP hD hS hA rfl rfl rfl hl.1 rfl (Nat.le_of_ble_eq_true rfl) dL_isStep_486 ⟨(by show 0 + 0 + 0 ≤ 2; omega), (by show 0 + 0 + 0 ≤ 12; omega)⟩ (fun H locs hP hD hS => ?_)
  have hP : va_P D vwCl (wO T po a k x ++ wO T qo b k y) H := hP
  have hD : va_D A (wO T po a k x ++ wO T qo b k y) := hD
  refine W.eq (g2 := F0 m 489 ls [.int (nI (cntN (qT k.1) 26))]) rfl ?_
  refine lv_istore (lv' := [(9, .int (nI (cntN (qT k.1) 26))), (8, .int (qEst k.1 pa)), (7, .int (qT k.1 pa)), (6, .int (nI pa)), (5, .int (qSum k.1)), (4, .int (xi >>> ((4 : Int32) &&& 31))), (0, .ref po), (1, .ref qo), (2, .int xi), (3, .int yi)]) hx hb dL_isStep_489 hl (by decide) rfl (fun ls hl => ?_)
  refine lv_aload_n hx hb dL_isStep_491 rfl (lv_at hl 6 rfl) ?_
  refine lv_iload hx hb dL_isStep_492 (lv_at hl 3 rfl) ?_
  refine kWT (As := [.ref po, .int (nI pa)]) (rest := []) ⟨hx, hb, hml, hown, hts⟩ (L_hear l D T po a k x pa hK hp hfew) (vx_cwSW 2 hts gL_isStep_L_hear rfl rfl rfl (by decide +kernel) ⟨Nat.le_of_ble_eq_true rfl, Nat.le_of_ble_eq_true rfl⟩) hC hXX hZ hE hNc hP hD hS hA rfl hl.1 rfl (Nat.le_of_ble_eq_true rfl) dL_isStep_494 ⟨(by show 0 + 0 + 0 ≤ 2; omega), (by show 0 + 0 + 0 ≤ 12; omega)⟩ (fun H locs hP hD hS => ?_)
  have hP : va_P D vwCl (wO T po a (recQ k (tkQ k.1 pa)) x ++ wO T qo b k y) H := hP
  have hD : va_D A (wO T po a (recQ k (tkQ k.1 pa)) x ++ wO T qo b k y) := hD
  refine W.eq (g2 := F0 m 497 ls [.int (qEst (tkQ k.1 pa) pa)]) rfl ?_
  refine lv_iload hx hb dL_isStep_497 (lv_at hl 1 rfl) ?_
  refine lv_iconst (v := 1) hx hb dL_isStep_499 (by decide) ?_
  refine lv_iadd hx hb dL_isStep_500 ?_
  refine lv_icmp_ne (tgt := 586) hx hb dL_isStep_501 (by decide) (fun c_x => absurd (f_est1 hp hK.1 (by omega)) c_x) (fun _ => ?_)
  refine lv_aload_n hx hb dL_isStep_504 rfl (lv_at hl 7 rfl) ?_
  refine lv_iload hx hb dL_isStep_505 (lv_at hl 3 rfl) ?_
  refine lv_iconst (v := 1) hx hb dL_isStep_507 (by decide) ?_
  refine lv_iconst (v := 0) hx hb dL_isStep_508 (by decide) ?_
  have hP := va_P_perm List.perm_append_comm hP
  have hD := va_D_perm List.perm_append_comm hD
  refine kWP (As := [.ref qo, .int (nI pa), .int 1, .int 0]) (rest := []) ⟨hx, hb, hml, hown, hts⟩ hsg (va_cwS 4 hts gL_isStep_L_sung rfl rfl rfl (by decide +kernel) ⟨Nat.le_of_ble_eq_true rfl, Nat.le_of_ble_eq_true rfl⟩) hC hXX hZ hE hNc hP hD hS hA rfl hl.1 rfl (Nat.le_of_ble_eq_true rfl) dL_isStep_509 ⟨(by show 0 + 0 + 0 + 0 ≤ 2; omega), (by show 0 + 0 + 0 + 0 ≤ 12; omega)⟩ (fun H locs hP hD hS => ?_)
  have hP : va_P D vwCl (wO T qo b (recQ k (tkQ k.1 pa)) ys ++ wO T po a (recQ k (tkQ k.1 pa)) x) H := hP
  have hD : va_D A (wO T qo b (recQ k (tkQ k.1 pa)) ys ++ wO T po a (recQ k (tkQ k.1 pa)) x) := hD
  refine W.eq (g2 := F0 m 512 ls [.int (qSum k.1 + nI 1)]) rfl ?_
  refine lv_iload hx hb dL_isStep_512 (lv_at hl 4 rfl) ?_
  refine lv_iconst (v := 1) hx hb dL_isStep_514 (by decide) ?_
  refine lv_iadd hx hb dL_isStep_515 ?_
  refine lv_icmp_ne (tgt := 586) hx hb dL_isStep_516 (by decide) (fun c_x => absurd rfl c_x) (fun _ => ?_)
  refine lv_aload_n hx hb dL_isStep_519 rfl (lv_at hl 6 rfl) ?_
  refine lv_iload hx hb dL_isStep_520 (lv_at hl 3 rfl) ?_
  have hP := va_P_perm List.perm_append_comm hP
  have hD := va_D_perm List.perm_append_comm hD
  refine kWT (As := [.ref po, .int (nI pa)]) (rest := []) ⟨hx, hb, hml, hown, hts⟩ (L_count l D T po a (recQ k (tkQ k.1 pa)) x pa hp) (vx_cwSW 2 hts gL_isStep_L_count rfl rfl rfl (by decide +kernel) ⟨Nat.le_of_ble_eq_true rfl, Nat.le_of_ble_eq_true rfl⟩) hC hXX hZ hE hNc hP hD hS hA rfl hl.1 rfl (Nat.le_of_ble_eq_true rfl) dL_isStep_522 ⟨(by show 0 + 0 + 0 + 0 + 0 ≤ 2; omega), (by show 0 + 0 + 0 + 0 + 0 ≤ 12; omega)⟩ (fun H locs hP hD hS => ?_)
  have hP : va_P D vwCl (wO T po a (recQ k (tkQ k.1 pa)) x ++ wO T qo b (recQ k (tkQ k.1 pa)) ys) H := hP
  have hD : va_D A (wO T po a (recQ k (tkQ k.1 pa)) x ++ wO T qo b (recQ k (tkQ k.1 pa)) ys) := hD
  refine W.eq (g2 := F0 m 525 ls [.int (qT (recQ k (tkQ k.1 pa)).1 pa)]) rfl ?_
  refine lv_iload hx hb dL_isStep_525 (lv_at hl 2 rfl) ?_
  refine lv_iconst (v := 1) hx hb dL_isStep_527 (by decide) ?_
  refine lv_iadd hx hb dL_isStep_528 ?_
  refine lv_icmp_ne (tgt := 586) hx hb dL_isStep_529 (by decide) (fun c_x => absurd (f_T1 _ _) c_x) (fun _ => ?_)
  refine lv_aload_n hx hb dL_isStep_532 rfl (lv_at hl 6 rfl) ?_
  refine kV (ci := 7) (As := []) (rest := []) ⟨hx, hb, hml, hown, hts⟩ (o_parrotsHeard l D T po a (recQ k (tkQ k.1 pa)) x) (cwV 0 hts gL_isStep_X8_parrotsHeard rfl rfl rfl (by decide +kernel) ⟨Nat.le_of_ble_eq_true rfl, Nat.le_of_ble_eq_true rfl⟩) hC hP hD hS hA rfl rfl rfl hl.1 rfl (Nat.le_of_ble_eq_true rfl) dL_isStep_533 ⟨(by show 0 + 0 + 0 + 0 + 0 + 0 ≤ 2; omega), (by show 0 + 0 + 0 + 0 + 0 + 0 ≤ 12; omega)⟩ (fun H locs hP hD hS => ?_)
  have hP : va_P D vwCl (wO T po a (recQ k (tkQ k.1 pa)) x ++ wO T qo b (recQ k (tkQ k.1 pa)) ys) H := hP
  have hD : va_D A (wO T po a (recQ k (tkQ k.1 pa)) x ++ wO T qo b (recQ k (tkQ k.1 pa)) ys) := hD
  refine W.eq (g2 := F0 m 536 ls [.int (nI (cntN (qT (recQ k (tkQ k.1 pa)).1) 26))]) rfl ?_
  refine lv_iload hx hb dL_isStep_536 (lv_at hl 0 rfl) ?_
  refine lv_iload hx hb dL_isStep_538 (lv_at hl 2 rfl) ?_
  refine lv_if_ne (tgt := 547) hx hb dL_isStep_540 (by decide) (fun _ => ?_) (fun c_x => absurd c_x h0)
  refine lv_iconst (v := 0) hx hb dL_isStep_547 (by decide) ?_
  refine lv_iadd hx hb dL_isStep_548 ?_
  refine W.eq (g2 := F0 m 549 ls (.int (nI (cntN (qT k.1) 26)) :: [.int (nI (cntN (qT (recQ k (tkQ k.1 pa)).1) 26))])) (congrArg (fun z => F0 m 549 ls (.int z :: [.int (nI (cntN (qT (recQ k (tkQ k.1 pa)).1) 26))])) (Int32.add_zero _)) ?_
  refine lv_icmp_ne (tgt := 586) hx hb dL_isStep_549 (by decide) (fun c_x => absurd (congrArg nI (f_heard0 hp hK.1 (by omega) h0)) c_x) (fun _ => ?_)
  refine lv_aload_n hx hb dL_isStep_552 rfl (lv_at hl 6 rfl) ?_
  refine lv_iload hx hb dL_isStep_553 (lv_at hl 3 rfl) ?_
  refine kWT (As := [.ref po, .int (nI pa)]) (rest := []) ⟨hx, hb, hml, hown, hts⟩ (L_estimate l D T po a (recQ k (tkQ k.1 pa)) x pa hp) (vx_cwSW 2 hts gL_isStep_L_estimate rfl rfl rfl (by decide +kernel) ⟨Nat.le_of_ble_eq_true rfl, Nat.le_of_ble_eq_true rfl⟩) hC hXX hZ hE hNc hP hD hS hA rfl hl.1 rfl (Nat.le_of_ble_eq_true rfl) dL_isStep_555 ⟨(by show 0 + 0 + 0 + 0 + 0 + 0 ≤ 2; omega), (by show 0 + 0 + 0 + 0 + 0 + 0 ≤ 12; omega)⟩ (fun H locs hP hD hS => ?_)
  have hP : va_P D vwCl (wO T po a (recQ k (tkQ k.1 pa)) x ++ wO T qo b (recQ k (tkQ k.1 pa)) ys) H := hP
  have hD : va_D A (wO T po a (recQ k (tkQ k.1 pa)) x ++ wO T qo b (recQ k (tkQ k.1 pa)) ys) := hD
  refine W.eq (g2 := F0 m 558 ls [.int (qEst (recQ k (tkQ k.1 pa)).1 pa)]) rfl ?_
  refine lv_aload_n hx hb dL_isStep_558 rfl (lv_at hl 6 rfl) ?_
  refine kV (ci := 7) (As := []) (rest := [.int (qEst (recQ k (tkQ k.1 pa)).1 pa)]) ⟨hx, hb, hml, hown, hts⟩ (o_floor l D T po a (recQ k (tkQ k.1 pa)) x) (cwV 0 hts gL_isStep_X8_floor rfl rfl rfl (by decide +kernel) ⟨Nat.le_of_ble_eq_true rfl, Nat.le_of_ble_eq_true rfl⟩) hC hP hD hS hA rfl rfl rfl hl.1 rfl (Nat.le_of_ble_eq_true rfl) dL_isStep_559 ⟨(by show 0 + 0 + 0 + 0 + 0 + 0 + 0 ≤ 2; omega), (by show 0 + 0 + 0 + 0 + 0 + 0 + 0 ≤ 12; omega)⟩ (fun H locs hP hD hS => ?_)
  have hP : va_P D vwCl (wO T po a (recQ k (tkQ k.1 pa)) x ++ wO T qo b (recQ k (tkQ k.1 pa)) ys) H := hP
  have hD : va_D A (wO T po a (recQ k (tkQ k.1 pa)) x ++ wO T qo b (recQ k (tkQ k.1 pa)) ys) := hD
  refine W.eq (g2 := F0 m 562 ls [.int (qLeast (recQ k (tkQ k.1 pa)).1), .int (qEst (recQ k (tkQ k.1 pa)).1 pa)]) rfl ?_
  refine lv_aload_n hx hb dL_isStep_562 rfl (lv_at hl 6 rfl) ?_
  refine kV (ci := 7) (As := []) (rest := [.int (qLeast (recQ k (tkQ k.1 pa)).1), .int (qEst (recQ k (tkQ k.1 pa)).1 pa)]) ⟨hx, hb, hml, hown, hts⟩ (o_counters l D T po a (recQ k (tkQ k.1 pa)) x) (cwV 0 hts gL_isStep_X8_counters rfl rfl rfl (by decide +kernel) ⟨Nat.le_of_ble_eq_true rfl, Nat.le_of_ble_eq_true rfl⟩) hC hP hD hS hA rfl rfl rfl hl.1 rfl (Nat.le_of_ble_eq_true rfl) dL_isStep_563 ⟨(by show 0 + 0 + 0 + 0 + 0 + 0 + 0 ≤ 2; omega), (by show 0 + 0 + 0 + 0 + 0 + 0 + 0 ≤ 12; omega)⟩ (fun H locs hP hD hS => ?_)
  have hP : va_P D vwCl (wO T po a (recQ k (tkQ k.1 pa)) x ++ wO T qo b (recQ k (tkQ k.1 pa)) ys) H := hP
  have hD : va_D A (wO T po a (recQ k (tkQ k.1 pa)) x ++ wO T qo b (recQ k (tkQ k.1 pa)) ys) := hD
  refine W.eq (g2 := F0 m 566 ls [.int (qSize (recQ k (tkQ k.1 pa)).1), .int (qLeast (recQ k (tkQ k.1 pa)).1), .int (qEst (recQ k (tkQ k.1 pa)).1 pa)]) rfl ?_
  refine lv_aload_n hx hb dL_isStep_566 rfl (lv_at hl 6 rfl) ?_
  refine kV (ci := 7) (As := []) (rest := [.int (qSize (recQ k (tkQ k.1 pa)).1), .int (qLeast (recQ k (tkQ k.1 pa)).1), .int (qEst (recQ k (tkQ k.1 pa)).1 pa)]) ⟨hx, hb, hml, hown, hts⟩ (o_capacity l D T po a (recQ k (tkQ k.1 pa)) x) (cwV 0 hts gL_isStep_X8_capacity rfl rfl rfl (by decide +kernel) ⟨Nat.le_of_ble_eq_true rfl, Nat.le_of_ble_eq_true rfl⟩) hC hP hD hS hA rfl rfl rfl hl.1 rfl (Nat.le_of_ble_eq_true rfl) dL_isStep_567 ⟨(by show 0 + 0 + 0 + 0 + 0 + 0 + 0 ≤ 2; omega), (by show 0 + 0 + 0 + 0 + 0 + 0 + 0 ≤ 12; omega)⟩ (fun H locs hP hD hS => ?_)
  have hP : va_P D vwCl (wO T po a (recQ k (tkQ k.1 pa)) x ++ wO T qo b (recQ k (tkQ k.1 pa)) ys) H := hP
  have hD : va_D A (wO T po a (recQ k (tkQ k.1 pa)) x ++ wO T qo b (recQ k (tkQ k.1 pa)) ys) := hD
  refine W.eq (g2 := F0 m 570 ls [.int (nI (qCap (recQ k (tkQ k.1 pa)).1)), .int (qSize (recQ k (tkQ k.1 pa)).1), .int (qLeast (recQ k (tkQ k.1 pa)).1), .int (qEst (recQ k (tkQ k.1 pa)).1 pa)]) rfl ?_
  refine lv_icmp_le (tgt := 577) hx hb dL_isStep_570 (by decide) (fun c570 => ?_) (fun c570 => ?_)
  · skip
    refine lv_iconst (v := 0) hx hb dL_isStep_577 (by decide) ?_
    refine lv_isub hx hb dL_isStep_578 ?_
    refine lv_icmp_le (tgt := 586) hx hb dL_isStep_579 (by decide) (fun c_x => absurd c_x (f_floor0 (SI_take hp hK.1 (by omega)).1 (by omega) (SI_take hp hK.1 (by omega)).2.2.2.1 c570)) (fun _ => ?_)
    refine lv_iconst (v := 1) hx hb dL_isStep_582 (by decide) ?_
    refine lv_goto (tgt := 587) hx hb dL_isStep_583 (by decide) ?_
    exact hret _ _ _ _ _ _ _ (by show 0 + 0 + 0 + 0 + 0 + 0 + 0 ≤ 2; omega) (by show 0 + 0 + 0 + 0 + 0 + 0 + 0 ≤ 12; omega) (fun Qc free hq hf => W.zret hx hb hr rfl hq hf dL_isStep_587 hlk) hP hD hS
  · skip
    refine lv_iconst (v := 1) hx hb dL_isStep_573 (by decide) ?_
    refine lv_goto (tgt := 578) hx hb dL_isStep_574 (by decide) ?_
    refine lv_isub hx hb dL_isStep_578 ?_
    refine lv_icmp_le (tgt := 586) hx hb dL_isStep_579 (by decide) (fun c_x => absurd c_x (f_floor1 (SI_take hp hK.1 (by omega)).1 (by omega) hp)) (fun _ => ?_)
    refine lv_iconst (v := 1) hx hb dL_isStep_582 (by decide) ?_
    refine lv_goto (tgt := 587) hx hb dL_isStep_583 (by decide) ?_
    exact hret _ _ _ _ _ _ _ (by show 0 + 0 + 0 + 0 + 0 + 0 + 0 ≤ 2; omega) (by show 0 + 0 + 0 + 0 + 0 + 0 + 0 ≤ 12; omega) (fun Qc free hq hf => W.zret hx hb hr rfl hq hf dL_isStep_587 hlk) hP hD hS
theorem L_isStep (l : Launch) (D : va_G) (T : Nat → ClassId) (hst9 : l.stackTraces = false) (po qo : Nat) (a b : Nat → Nat) (k : KS) (x y : CT) (xi yi : Int32) {M : Int} (hK : KI k M) (hM0 : 0 ≤ M) (hM : M + 40 ≤ 99999) (hx60 : x.1 ≤ 60) (hy60 : y.1 ≤ 60) : ∃ (k' : KS) (x' y' : CT), KI k' (M + 40) ∧ x'.1 ≤ 60 ∧ y'.1 ≤ 60 ∧ kWN l D T yL_isStep wsL_isStep rL_isStep 2 12 [.ref po, .ref qo, .int xi, .int yi] (wO T po a k x ++ wO T qo b k y) (some (.int 1)) (wO T po a k' x' ++ wO T qo b k' y') := by
  have h24 := upN_lt xi (n := 24) (by decide)
  have hKM : KI k (M + 40) := KI_mono (by omega) hK
  rcases (show upN xi 24 = 0 ∨ (upN xi 24 = 1 ∨ upN xi 24 = 2) ∨ (upN xi 24 = 3 ∨ upN xi 24 = 4 ∨ upN xi 24 = 5) ∨ upN xi 24 = 6 ∨ (upN xi 24 = 7 ∨ upN xi 24 = 8 ∨ upN xi 24 = 9) ∨ 10 ≤ upN xi 24 by omega) with h | h | h | h | h | h
  · have := upN_lt yi (n := 9) (by decide)
    exact ⟨_, _, _, KI_rec hK (by omega) (SI_empty (by omega) (by omega) (by omega)), hx60, hy60, st_empty l D T hst9 po qo a b k x y xi yi hK hM0 hM h rfl (by omega) (by omega)⟩
  · exact ⟨_, _, _, KI_rec hK (by omega) (SI_mono (by omega) (SI_aside hK.1)), hx60, hy60, st_aside l D T hst9 po qo a b k x y xi yi hK hM0 hM h⟩
  · cases hv : qVia k.1 with
    | true => exact ⟨_, _, _, KI_rec hK (by omega) (SI_mono (by omega) (SI_merge hK.1 hv (by omega)).1), hx60, hy60, st_merge1 l D T hst9 po qo a b k x y xi yi hK hM0 hM h hv⟩
    | false => exact ⟨k, x, y, hKM, hx60, hy60, st_merge0 l D T hst9 po qo a b k x y xi yi hK hM0 hM h hv⟩
  · by_cases h0 : k.2.2.1 = 0
    · exact ⟨k, x, y, hKM, hx60, hy60, st_undo0 l D T hst9 po qo a b k x y xi yi hK hM0 hM h h0⟩
    · exact ⟨_, _, _, KI_mono (by omega) (KI_undo hK (by omega)), hx60, hy60, st_undo1 l D T hst9 po qo a b k x y xi yi hK hM0 hM h (by omega)⟩
  · have hp7 := upN_lt yi (n := 7) (by decide)
    have go : ∀ (m : Nat), 0 < m → m ≤ 40 → ∀ (ins : Bool), ∃ ys : CT, ys.1 ≤ 60 ∧ kWN l D T yL_sung wsL_sung rL_sung 0 0 [.ref qo, .int (nI (upN yi 7)), .int (nI (1 + upN (xi >>> ((4 : Int32) &&& 31)) m)), .int (bI ins)] (wO T qo b k y) (some (.int (qSum k.1 + nI (1 + upN (xi >>> ((4 : Int32) &&& 31)) m)))) (wO T qo b (recQ k (tkR k.1 (upN yi 7) (1 + upN (xi >>> ((4 : Int32) &&& 31)) m))) ys) := fun m hm hm4 ins => by
      have hl := upN_lt (xi >>> ((4 : Int32) &&& 31)) hm
      exact L_sung l D T qo b k y ins (by omega) (by omega) (by omega) hy60 hK (by omega)
    have KN : ∀ n : Nat, n ≤ 40 → KI (recQ k (tkR k.1 (upN yi 7) n)) (M + 40) := fun n hn => KI_rec hK (by omega) (SI_mono (by omega) (SI_takes (by omega) hK.1 n (by omega)).1)
    have h40 := upN_lt (xi >>> ((4 : Int32) &&& 31)) (n := 40) (by decide)
    have h5 := upN_lt (xi >>> ((4 : Int32) &&& 31)) (n := 5) (by decide)
    by_cases hm : upN ((xi >>> ((4 : Int32) &&& 31)) >>> ((5 : Int32) &&& 31)) 6 = 0
    · by_cases hi : upN ((xi >>> ((4 : Int32) &&& 31)) >>> ((3 : Int32) &&& 31)) 2 = 0
      · obtain ⟨ys, hy, hsg⟩ := go 40 (by decide) (by decide) true
        exact ⟨_, _, _, KN (1 + upN (xi >>> ((4 : Int32) &&& 31)) 40) (by omega), (by show (roX x _ _).1 ≤ 60; rw [roX_len]; omega), hy, st_song_40_1 l D T hst9 po qo a b k x y xi yi hK hM0 hM hx60 h rfl (by omega) hm rfl (by omega) (by omega) hi hsg⟩
      · obtain ⟨ys, hy, hsg⟩ := go 40 (by decide) (by decide) false
        exact ⟨_, _, _, KN (1 + upN (xi >>> ((4 : Int32) &&& 31)) 40) (by omega), (by show (roX x _ _).1 ≤ 60; rw [roX_len]; omega), hy, st_song_40_0 l D T hst9 po qo a b k x y xi yi hK hM0 hM hx60 h rfl (by omega) hm rfl (by omega) (by omega) hi hsg⟩
    · by_cases hi : upN ((xi >>> ((4 : Int32) &&& 31)) >>> ((3 : Int32) &&& 31)) 2 = 0
      · obtain ⟨ys, hy, hsg⟩ := go 5 (by decide) (by decide) true
        exact ⟨_, _, _, KN (1 + upN (xi >>> ((4 : Int32) &&& 31)) 5) (by omega), (by show (roX x _ _).1 ≤ 60; rw [roX_len]; omega), hy, st_song_5_1 l D T hst9 po qo a b k x y xi yi hK hM0 hM hx60 h rfl (by omega) hm rfl (by omega) (by omega) hi hsg⟩
      · obtain ⟨ys, hy, hsg⟩ := go 5 (by decide) (by decide) false
        exact ⟨_, _, _, KN (1 + upN (xi >>> ((4 : Int32) &&& 31)) 5) (by omega), (by show (roX x _ _).1 ≤ 60; rw [roX_len]; omega), hy, st_song_5_0 l D T hst9 po qo a b k x y xi yi hK hM0 hM hx60 h rfl (by omega) hm rfl (by omega) (by omega) hi hsg⟩
  · have go : ∀ pa : Nat, pa < 26 → ∃ ys : CT, ys.1 ≤ 60 ∧ kWN l D T yL_sung wsL_sung rL_sung 0 0 [.ref qo, .int (nI pa), .int (nI 1), .int (bI false)] (wO T qo b k y) (some (.int (qSum k.1 + nI 1))) (wO T qo b (recQ k (tkR k.1 pa 1)) ys) := fun pa hp => L_sung l D T qo b k y false hp (by omega) (by omega) hy60 hK (by omega)
    have KN : ∀ pa, pa < 26 → KI (recQ k (tkQ k.1 pa)) (M + 40) := fun pa hp => KI_rec hK (by omega) (SI_mono (by omega) (SI_take hp hK.1 (by omega)).1)
    have hfew := f_few hK.1 (by omega)
    have h7 := upN_lt yi (n := 7) (by decide)
    have h26 := upN_lt yi (n := 26) (by decide)
    by_cases hm : upN (xi >>> ((4 : Int32) &&& 31)) 3 = 0
    · obtain ⟨ys, hy, hsg⟩ := go (upN yi 26) h26
      by_cases h0 : qT k.1 (upN yi 26) = 0
      · exact ⟨_, _, _, KN _ h26, hx60, hy, st_call_26_1 l D T hst9 po qo a b k x y xi yi hK hM0 hM h hm rfl h26 h0 hfew hsg⟩
      · exact ⟨_, _, _, KN _ h26, hx60, hy, st_call_26_0 l D T hst9 po qo a b k x y xi yi hK hM0 hM h hm rfl h26 h0 hfew hsg⟩
    · obtain ⟨ys, hy, hsg⟩ := go (upN yi 7) (by omega)
      by_cases h0 : qT k.1 (upN yi 7) = 0
      · exact ⟨_, _, _, KN _ (by omega), hx60, hy, st_call_7_1 l D T hst9 po qo a b k x y xi yi hK hM0 hM h hm rfl (by omega) h0 hfew hsg⟩
      · exact ⟨_, _, _, KN _ (by omega), hx60, hy, st_call_7_0 l D T hst9 po qo a b k x y xi yi hK hM0 hM h hm rfl (by omega) h0 hfew hsg⟩
end PSTEP
