section PWRAPS
abbrev rL_estimate : Room := { frames := 5, cells := 0, slots := 0, locals := 107 }
set_option maxHeartbeats 4000000 in
set_option maxRecDepth 100000 in
theorem L_estimate (l : Launch) (D : va_G) (T : Nat → ClassId) (po : Nat) (a : Nat → Nat) (k : KS) (x : CT) (pa : Nat) (hp : pa < 26) : kWN l D T yL_estimate wsL_estimate rL_estimate 0 0 [.ref po, .int (nI pa)] (wO T po a k x) (some (.int (qEst k.1 pa))) (wO T po a k x) := by
  refine kWN.ofW (cc := cL_estimate) (maxL := 3) (ret := some .int) (by decide) rfl (Nat.le_of_ble_eq_true rfl) ?_
  intro p e s m below meth c A Q ls hx hb hml hown hr hlk htab hts hC hP hD hS hA hl hXX hZ hE hNc hret
  have hl : lv_has ls 3 [(0, .ref po), (1, .int (nI pa))] := hl
  have hP : va_P D vwCl (wO T po a k x ++ []) s.heap := by rw [wP_nil]; exact hP
  have hD : va_D A (wO T po a k x ++ []) := by rw [wD_nil]; exact hD
  refine lv_aload_n hx hb dL_estimate_0 rfl (lv_at hl 0 rfl) ?_
  refine lv_iload_n hx hb dL_estimate_1 rfl (lv_at hl 1 rfl) ?_
  refine kV (ci := 7) (As := [.int (nI pa)]) (rest := []) ⟨hx, hb, hml, hown, hts⟩ (o_estimate l D T po a k x pa hp) (cwV 1 hts gL_estimate_X8_estimate rfl rfl rfl (by decide +kernel) ⟨Nat.le_of_ble_eq_true rfl, Nat.le_of_ble_eq_true rfl⟩) hC hP hD hS hA rfl rfl rfl hl.1 rfl (Nat.le_of_ble_eq_true rfl) dL_estimate_2 ⟨(Nat.zero_le _), (Nat.zero_le _)⟩ (fun H locs hP hD hS => ?_)
  have hP : va_P D vwCl (wO T po a k x ++ []) H := hP
  have hD : va_D A (wO T po a k x ++ []) := hD
  refine W.eq (g2 := F0 m 5 ls [.int (qEst k.1 pa)]) rfl ?_
  rw [wP_nil] at hP
  rw [wD_nil] at hD
  exact hret _ _ _ _ _ _ _ (Nat.zero_le _) (Nat.zero_le _) (fun Qc free hq hf => W.iret hx hb hr hq hf dL_estimate_5 hlk) hP hD hS
abbrev rL_sure : Room := { frames := 2, cells := 0, slots := 0, locals := 42 }
set_option maxHeartbeats 4000000 in
set_option maxRecDepth 100000 in
theorem L_sure (l : Launch) (D : va_G) (T : Nat → ClassId) (po : Nat) (a : Nat → Nat) (k : KS) (x : CT) (pa : Nat) (hp : pa < 26) : kWN l D T yL_sure wsL_sure rL_sure 0 0 [.ref po, .int (nI pa)] (wO T po a k x) (some (.int (qSure k.1 pa))) (wO T po a k x) := by
  refine kWN.ofW (cc := cL_sure) (maxL := 3) (ret := some .int) (by decide) rfl (Nat.le_of_ble_eq_true rfl) ?_
  intro p e s m below meth c A Q ls hx hb hml hown hr hlk htab hts hC hP hD hS hA hl hXX hZ hE hNc hret
  have hl : lv_has ls 3 [(0, .ref po), (1, .int (nI pa))] := hl
  have hP : va_P D vwCl (wO T po a k x ++ []) s.heap := by rw [wP_nil]; exact hP
  have hD : va_D A (wO T po a k x ++ []) := by rw [wD_nil]; exact hD
  refine lv_aload_n hx hb dL_sure_0 rfl (lv_at hl 0 rfl) ?_
  refine lv_iload_n hx hb dL_sure_1 rfl (lv_at hl 1 rfl) ?_
  refine kV (ci := 7) (As := [.int (nI pa)]) (rest := []) ⟨hx, hb, hml, hown, hts⟩ (o_sureCount l D T po a k x pa hp) (cwV 1 hts gL_sure_X8_sureCount rfl rfl rfl (by decide +kernel) ⟨Nat.le_of_ble_eq_true rfl, Nat.le_of_ble_eq_true rfl⟩) hC hP hD hS hA rfl rfl rfl hl.1 rfl (Nat.le_of_ble_eq_true rfl) dL_sure_2 ⟨(Nat.zero_le _), (Nat.zero_le _)⟩ (fun H locs hP hD hS => ?_)
  have hP : va_P D vwCl (wO T po a k x ++ []) H := hP
  have hD : va_D A (wO T po a k x ++ []) := hD
  refine W.eq (g2 := F0 m 5 ls [.int (qSure k.1 pa)]) rfl ?_
  rw [wP_nil] at hP
  rw [wD_nil] at hD
  exact hret _ _ _ _ _ _ _ (Nat.zero_le _) (Nat.zero_le _) (fun Qc free hq hf => W.iret hx hb hr hq hf dL_sure_5 hlk) hP hD hS
abbrev rL_worn : Room := { frames := 2, cells := 0, slots := 0, locals := 41 }
set_option maxHeartbeats 4000000 in
set_option maxRecDepth 100000 in
theorem L_worn (l : Launch) (D : va_G) (T : Nat → ClassId) (po : Nat) (a : Nat → Nat) (k : KS) (x : CT) (pa : Nat) (hp : pa < 26) : kWN l D T yL_worn wsL_worn rL_worn 0 0 [.ref po, .int (nI pa)] (wO T po a k x) (some (.int (qW k.1 pa))) (wO T po a k x) := by
  refine kWN.ofW (cc := cL_worn) (maxL := 3) (ret := some .int) (by decide) rfl (Nat.le_of_ble_eq_true rfl) ?_
  intro p e s m below meth c A Q ls hx hb hml hown hr hlk htab hts hC hP hD hS hA hl hXX hZ hE hNc hret
  have hl : lv_has ls 3 [(0, .ref po), (1, .int (nI pa))] := hl
  have hP : va_P D vwCl (wO T po a k x ++ []) s.heap := by rw [wP_nil]; exact hP
  have hD : va_D A (wO T po a k x ++ []) := by rw [wD_nil]; exact hD
  refine lv_aload_n hx hb dL_worn_0 rfl (lv_at hl 0 rfl) ?_
  refine lv_iload_n hx hb dL_worn_1 rfl (lv_at hl 1 rfl) ?_
  refine kV (ci := 7) (As := [.int (nI pa)]) (rest := []) ⟨hx, hb, hml, hown, hts⟩ (o_wornCount l D T po a k x pa hp) (cwV 1 hts gL_worn_X8_wornCount rfl rfl rfl (by decide +kernel) ⟨Nat.le_of_ble_eq_true rfl, Nat.le_of_ble_eq_true rfl⟩) hC hP hD hS hA rfl rfl rfl hl.1 rfl (Nat.le_of_ble_eq_true rfl) dL_worn_2 ⟨(Nat.zero_le _), (Nat.zero_le _)⟩ (fun H locs hP hD hS => ?_)
  have hP : va_P D vwCl (wO T po a k x ++ []) H := hP
  have hD : va_D A (wO T po a k x ++ []) := hD
  refine W.eq (g2 := F0 m 5 ls [.int (qW k.1 pa)]) rfl ?_
  rw [wP_nil] at hP
  rw [wD_nil] at hD
  exact hret _ _ _ _ _ _ _ (Nat.zero_le _) (Nat.zero_le _) (fun Qc free hq hf => W.iret hx hb hr hq hf dL_worn_5 hlk) hP hD hS
abbrev rL_above : Room := { frames := 5, cells := 0, slots := 0, locals := 107 }
set_option maxHeartbeats 4000000 in
set_option maxRecDepth 100000 in
theorem L_above (l : Launch) (D : va_G) (T : Nat → ClassId) (po : Nat) (a : Nat → Nat) (k : KS) (x : CT) (pa : Nat) (hp : pa < 26) : kWN l D T yL_above wsL_above rL_above 0 0 [.ref po, .int (nI pa)] (wO T po a k x) (some (.int (qEst k.1 pa - qLeast k.1))) (wO T po a k x) := by
  refine kWN.ofW (cc := cL_above) (maxL := 3) (ret := some .int) (by decide) rfl (Nat.le_of_ble_eq_true rfl) ?_
  intro p e s m below meth c A Q ls hx hb hml hown hr hlk htab hts hC hP hD hS hA hl hXX hZ hE hNc hret
  have hl : lv_has ls 3 [(0, .ref po), (1, .int (nI pa))] := hl
  have hP : va_P D vwCl (wO T po a k x ++ []) s.heap := by rw [wP_nil]; exact hP
  have hD : va_D A (wO T po a k x ++ []) := by rw [wD_nil]; exact hD
  refine lv_aload_n hx hb dL_above_0 rfl (lv_at hl 0 rfl) ?_
  refine lv_iload_n hx hb dL_above_1 rfl (lv_at hl 1 rfl) ?_
  refine kV (ci := 7) (As := [.int (nI pa)]) (rest := []) ⟨hx, hb, hml, hown, hts⟩ (o_aboveFloor l D T po a k x pa hp) (cwV 1 hts gL_above_X8_aboveFloor rfl rfl rfl (by decide +kernel) ⟨Nat.le_of_ble_eq_true rfl, Nat.le_of_ble_eq_true rfl⟩) hC hP hD hS hA rfl rfl rfl hl.1 rfl (Nat.le_of_ble_eq_true rfl) dL_above_2 ⟨(Nat.zero_le _), (Nat.zero_le _)⟩ (fun H locs hP hD hS => ?_)
  have hP : va_P D vwCl (wO T po a k x ++ []) H := hP
  have hD : va_D A (wO T po a k x ++ []) := hD
  refine W.eq (g2 := F0 m 5 ls [.int (qEst k.1 pa - qLeast k.1)]) rfl ?_
  rw [wP_nil] at hP
  rw [wD_nil] at hD
  exact hret _ _ _ _ _ _ _ (Nat.zero_le _) (Nat.zero_le _) (fun Qc free hq hf => W.iret hx hb hr hq hf dL_above_5 hlk) hP hD hS
abbrev rL_count : Room := { frames := 2, cells := 0, slots := 0, locals := 41 }
set_option maxHeartbeats 4000000 in
set_option maxRecDepth 100000 in
theorem L_count (l : Launch) (D : va_G) (T : Nat → ClassId) (po : Nat) (a : Nat → Nat) (k : KS) (x : CT) (pa : Nat) (hp : pa < 26) : kWN l D T yL_count wsL_count rL_count 0 0 [.ref po, .int (nI pa)] (wO T po a k x) (some (.int (qT k.1 pa))) (wO T po a k x) := by
  refine kWN.ofW (cc := cL_count) (maxL := 3) (ret := some .int) (by decide) rfl (Nat.le_of_ble_eq_true rfl) ?_
  intro p e s m below meth c A Q ls hx hb hml hown hr hlk htab hts hC hP hD hS hA hl hXX hZ hE hNc hret
  have hl : lv_has ls 3 [(0, .ref po), (1, .int (nI pa))] := hl
  have hP : va_P D vwCl (wO T po a k x ++ []) s.heap := by rw [wP_nil]; exact hP
  have hD : va_D A (wO T po a k x ++ []) := by rw [wD_nil]; exact hD
  refine lv_aload_n hx hb dL_count_0 rfl (lv_at hl 0 rfl) ?_
  refine lv_iload_n hx hb dL_count_1 rfl (lv_at hl 1 rfl) ?_
  refine kV (ci := 7) (As := [.int (nI pa)]) (rest := []) ⟨hx, hb, hml, hown, hts⟩ (o_trueCount l D T po a k x pa hp) (cwV 1 hts gL_count_X8_trueCount rfl rfl rfl (by decide +kernel) ⟨Nat.le_of_ble_eq_true rfl, Nat.le_of_ble_eq_true rfl⟩) hC hP hD hS hA rfl rfl rfl hl.1 rfl (Nat.le_of_ble_eq_true rfl) dL_count_2 ⟨(Nat.zero_le _), (Nat.zero_le _)⟩ (fun H locs hP hD hS => ?_)
  have hP : va_P D vwCl (wO T po a k x ++ []) H := hP
  have hD : va_D A (wO T po a k x ++ []) := hD
  refine W.eq (g2 := F0 m 5 ls [.int (qT k.1 pa)]) rfl ?_
  rw [wP_nil] at hP
  rw [wD_nil] at hD
  exact hret _ _ _ _ _ _ _ (Nat.zero_le _) (Nat.zero_le _) (fun Qc free hq hf => W.iret hx hb hr hq hf dL_count_5 hlk) hP hD hS
abbrev rL_surplus : Room := { frames := 8, cells := 1, slots := 6, locals := 131 }
set_option maxHeartbeats 4000000 in
set_option maxRecDepth 100000 in
theorem L_surplus (l : Launch) (D : va_G) (T : Nat → ClassId) (po : Nat) (a : Nat → Nat) (k : KS) (x : CT) (pa : Nat) (hp : pa < 26) (hc : ¬ qC k.1 pa = 0) : kWN l D T yL_surplus wsL_surplus rL_surplus 1 6 [.ref po, .int (nI pa)] (wO T po a k x) (some (.int (qS k.1 pa))) (wO T po a k x) := by
  refine kWN.ofW (cc := cL_surplus) (maxL := 3) (ret := some .int) (by decide) rfl (Nat.le_of_ble_eq_true rfl) ?_
  intro p e s m below meth c A Q ls hx hb hml hown hr hlk htab hts hC hP hD hS hA hl hXX hZ hE hNc hret
  have hl : lv_has ls 3 [(0, .ref po), (1, .int (nI pa))] := hl
  have hP : va_P D vwCl (wO T po a k x ++ []) s.heap := by rw [wP_nil]; exact hP
  have hD : va_D A (wO T po a k x ++ []) := by rw [wD_nil]; exact hD
  refine lv_aload_n hx hb dL_surplus_0 rfl (lv_at hl 0 rfl) ?_
  refine lv_iload_n hx hb dL_surplus_1 rfl (lv_at hl 1 rfl) ?_
  refine kV (ci := 7) (As := [.int (nI pa)]) (rest := []) ⟨hx, hb, hml, hown, hts⟩ (o_surplus l D T po a k x pa hp hc) (cwV 1 hts gL_surplus_X8_surplus rfl rfl rfl (by decide +kernel) ⟨Nat.le_of_ble_eq_true rfl, Nat.le_of_ble_eq_true rfl⟩) hC hP hD hS hA rfl rfl rfl hl.1 rfl (Nat.le_of_ble_eq_true rfl) dL_surplus_2 ⟨(Nat.zero_le _), (Nat.zero_le _)⟩ (fun H locs hP hD hS => ?_)
  have hP : va_P D vwCl (wO T po a k x ++ []) H := hP
  have hD : va_D A (wO T po a k x ++ []) := hD
  refine W.eq (g2 := F0 m 5 ls [.int (qS k.1 pa)]) rfl ?_
  rw [wP_nil] at hP
  rw [wD_nil] at hD
  exact hret _ _ _ _ _ _ _ (Nat.zero_le _) (Nat.zero_le _) (fun Qc free hq hf => W.iret hx hb hr hq hf dL_surplus_5 hlk) hP hD hS
set_option maxHeartbeats 4000000 in
set_option maxRecDepth 100000 in
theorem Lx_surplus (l : Launch) (D : va_G) (T : Nat → ClassId) (po : Nat) (a : Nat → Nat) (k : KS) (x : CT) (pa : Nat) (hst9 : l.stackTraces = false) (hp : pa < 26) (hc : qC k.1 pa = 0) : kWN l D T yL_surplus wsL_surplus rL_surplus 1 6 [.ref po, .int (nI pa)] (wO T po a k x) (some (.int 900002)) (wO T po a k x) := by
  refine kWN.ofW (cc := cL_surplus) (maxL := 3) (ret := some .int) (by decide) rfl (Nat.le_of_ble_eq_true rfl) ?_
  intro p e s m below meth c A Q ls hx hb hml hown hr hlk htab hts hC hP hD hS hA hl hXX hZ hE hNc hret
  have hl : lv_has ls 3 [(0, .ref po), (1, .int (nI pa))] := hl
  have hP : va_P D vwCl (wO T po a k x ++ []) s.heap := by rw [wP_nil]; exact hP
  have hD : va_D A (wO T po a k x ++ []) := by rw [wD_nil]; exact hD
  refine lv_aload_n hx hb dL_surplus_0 rfl (lv_at hl 0 rfl) ?_
  refine lv_iload_n hx hb dL_surplus_1 rfl (lv_at hl 1 rfl) ?_
  refine kxV (ci := 7) (As := [.int (nI pa)]) (rest := []) ⟨hx, hb, hml, hown, hts⟩ (ox_surplus l D T po a k x pa hst9 hp hc) (cwV 1 hts gL_surplus_X8_surplus rfl rfl rfl (by decide +kernel) ⟨Nat.le_of_ble_eq_true rfl, Nat.le_of_ble_eq_true rfl⟩) hC hXX hZ hP hD hS hA rfl rfl rfl hl.1 rfl (Nat.le_of_ble_eq_true rfl) dL_surplus_2 ⟨Nat.le_of_ble_eq_true rfl, Nat.le_of_ble_eq_true rfl⟩ (fun H locs q9 ce hP hD hS h1 h2 h3 => ?_)
  have hP : va_P D vwCl (wO T po a k x ++ []) H := hP
  have hD : va_D A (wO T po a k x ++ []) := hD
  refine vx_catch (own := RL) hown [⟨0, 5, 6, 15⟩] ⟨0, 5, 10, 55⟩ [] (htab.trans rfl) (by intro z hz; cases hz with | head => exact Or.inr ⟨by decide, "java/lang/IndexOutOfBoundsException", hts (.classLink RL 15 "java/lang/IndexOutOfBoundsException") (List.mem_of_getElem? (i := 1) rfl), hNc.at 2 rfl⟩ | tail _ h => cases h) rfl (by decide) (hts (.classLink RL 55 "java/util/NoSuchElementException") (List.mem_of_getElem? (i := 2) rfl)) (va_Nw.use rfl (hXX.2.1 "java/util/NoSuchElementException" (by decide +kernel))) h1 h2 h3 ?_
  refine W.eq (g2 := F0 m 10 ls [.ref q9]) rfl ?_
  refine lv_astore_n (lv' := [(2, .ref q9), (0, .ref po), (1, .int (nI pa))]) hx hb dL_surplus_10 rfl hl (by decide) rfl (fun ls hl => ?_)
  refine lv_ldc (v := 900002) hx hb hown (hts (.constant RL 20 900002) (List.mem_of_getElem? (i := 4) rfl)) dL_surplus_11 ?_
  rw [wP_nil] at hP
  rw [wD_nil] at hD
  exact hret _ _ _ _ _ _ _ (by show 0 + 1 ≤ 1; omega) (by show 0 + 6 ≤ 6; omega) (fun Qc free hq hf => W.iret hx hb hr hq hf dL_surplus_13 hlk) hP hD hS
abbrev rL_next : Room := { frames := 7, cells := 1, slots := 6, locals := 110 }
set_option maxHeartbeats 4000000 in
set_option maxRecDepth 100000 in
theorem L_next (l : Launch) (D : va_G) (T : Nat → ClassId) (po : Nat) (a : Nat → Nat) (k : KS) (x : CT) (hfull : qFull k.1 = true) : kWN l D T yL_next wsL_next rL_next 1 6 [.ref po] (wO T po a k x) (some (.int (qNext k.1))) (wO T po a k x) := by
  refine kWN.ofW (cc := cL_next) (maxL := 2) (ret := some .int) (by decide) rfl (Nat.le_of_ble_eq_true rfl) ?_
  intro p e s m below meth c A Q ls hx hb hml hown hr hlk htab hts hC hP hD hS hA hl hXX hZ hE hNc hret
  have hl : lv_has ls 2 [(0, .ref po)] := hl
  have hP : va_P D vwCl (wO T po a k x ++ []) s.heap := by rw [wP_nil]; exact hP
  have hD : va_D A (wO T po a k x ++ []) := by rw [wD_nil]; exact hD
  refine lv_aload_n hx hb dL_next_0 rfl (lv_at hl 0 rfl) ?_
  refine kV (ci := 7) (As := []) (rest := []) ⟨hx, hb, hml, hown, hts⟩ (o_nextTakenOver l D T po a k x hfull) (cwV 0 hts gL_next_X8_nextTakenOver rfl rfl rfl (by decide +kernel) ⟨Nat.le_of_ble_eq_true rfl, Nat.le_of_ble_eq_true rfl⟩) hC hP hD hS hA rfl rfl rfl hl.1 rfl (Nat.le_of_ble_eq_true rfl) dL_next_1 ⟨(Nat.zero_le _), (Nat.zero_le _)⟩ (fun H locs hP hD hS => ?_)
  have hP : va_P D vwCl (wO T po a k x ++ []) H := hP
  have hD : va_D A (wO T po a k x ++ []) := hD
  refine W.eq (g2 := F0 m 4 ls [.int (qNext k.1)]) rfl ?_
  rw [wP_nil] at hP
  rw [wD_nil] at hD
  exact hret _ _ _ _ _ _ _ (Nat.zero_le _) (Nat.zero_le _) (fun Qc free hq hf => W.iret hx hb hr hq hf dL_next_4 hlk) hP hD hS
set_option maxHeartbeats 4000000 in
set_option maxRecDepth 100000 in
theorem Lx_next (l : Launch) (D : va_G) (T : Nat → ClassId) (po : Nat) (a : Nat → Nat) (k : KS) (x : CT) (hst9 : l.stackTraces = false) (hfull : qFull k.1 = false) : kWN l D T yL_next wsL_next rL_next 1 6 [.ref po] (wO T po a k x) (some (.int 900001)) (wO T po a k x) := by
  refine kWN.ofW (cc := cL_next) (maxL := 2) (ret := some .int) (by decide) rfl (Nat.le_of_ble_eq_true rfl) ?_
  intro p e s m below meth c A Q ls hx hb hml hown hr hlk htab hts hC hP hD hS hA hl hXX hZ hE hNc hret
  have hl : lv_has ls 2 [(0, .ref po)] := hl
  have hP : va_P D vwCl (wO T po a k x ++ []) s.heap := by rw [wP_nil]; exact hP
  have hD : va_D A (wO T po a k x ++ []) := by rw [wD_nil]; exact hD
  refine lv_aload_n hx hb dL_next_0 rfl (lv_at hl 0 rfl) ?_
  refine kxV (ci := 7) (As := []) (rest := []) ⟨hx, hb, hml, hown, hts⟩ (ox_nextTakenOver l D T po a k x hst9 hfull) (cwV 0 hts gL_next_X8_nextTakenOver rfl rfl rfl (by decide +kernel) ⟨Nat.le_of_ble_eq_true rfl, Nat.le_of_ble_eq_true rfl⟩) hC hXX hZ hP hD hS hA rfl rfl rfl hl.1 rfl (Nat.le_of_ble_eq_true rfl) dL_next_1 ⟨Nat.le_of_ble_eq_true rfl, Nat.le_of_ble_eq_true rfl⟩ (fun H locs q9 ce hP hD hS h1 h2 h3 => ?_)
  have hP : va_P D vwCl (wO T po a k x ++ []) H := hP
  have hD : va_D A (wO T po a k x ++ []) := hD
  refine vx_catch (own := RL) hown [] ⟨0, 4, 5, 55⟩ [] (htab.trans rfl) (by intro z hz; cases hz) rfl (by decide) (hts (.classLink RL 55 "java/util/NoSuchElementException") (List.mem_of_getElem? (i := 1) rfl)) (va_Nw.use rfl (hXX.2.1 "java/util/NoSuchElementException" (by decide +kernel))) h1 h2 h3 ?_
  refine W.eq (g2 := F0 m 5 ls [.ref q9]) rfl ?_
  refine lv_astore_n (lv' := [(1, .ref q9), (0, .ref po)]) hx hb dL_next_5 rfl hl (by decide) rfl (fun ls hl => ?_)
  refine lv_ldc (v := 900001) hx hb hown (hts (.constant RL 17 900001) (List.mem_of_getElem? (i := 2) rfl)) dL_next_6 ?_
  rw [wP_nil] at hP
  rw [wD_nil] at hD
  exact hret _ _ _ _ _ _ _ (by show 0 + 1 ≤ 1; omega) (by show 0 + 6 ≤ 6; omega) (fun Qc free hq hf => W.iret hx hb hr hq hf dL_next_8 hlk) hP hD hS
abbrev rL_loudest : Room := { frames := 7, cells := 1, slots := 6, locals := 111 }
set_option maxHeartbeats 4000000 in
set_option maxRecDepth 100000 in
theorem L_loudest (l : Launch) (D : va_G) (T : Nat → ClassId) (po : Nat) (a : Nat → Nat) (k : KS) (x : CT) (px : Int32) (hpos : 0 ≤ px) (hin : px < qSize k.1) : kWN l D T yL_loudest wsL_loudest rL_loudest 1 6 [.ref po, .int px] (wO T po a k x) (some (.int (pAtN (qC k.1) px 26 0))) (wO T po a k x) := by
  refine kWN.ofW (cc := cL_loudest) (maxL := 3) (ret := some .int) (by decide) rfl (Nat.le_of_ble_eq_true rfl) ?_
  intro p e s m below meth c A Q ls hx hb hml hown hr hlk htab hts hC hP hD hS hA hl hXX hZ hE hNc hret
  have hl : lv_has ls 3 [(0, .ref po), (1, .int px)] := hl
  have hP : va_P D vwCl (wO T po a k x ++ []) s.heap := by rw [wP_nil]; exact hP
  have hD : va_D A (wO T po a k x ++ []) := by rw [wD_nil]; exact hD
  refine lv_aload_n hx hb dL_loudest_0 rfl (lv_at hl 0 rfl) ?_
  refine lv_iload_n hx hb dL_loudest_1 rfl (lv_at hl 1 rfl) ?_
  refine kV (ci := 7) (As := [.int px]) (rest := []) ⟨hx, hb, hml, hown, hts⟩ (o_loudest l D T po a k x px hpos hin) (cwV 1 hts gL_loudest_X8_loudest rfl rfl rfl (by decide +kernel) ⟨Nat.le_of_ble_eq_true rfl, Nat.le_of_ble_eq_true rfl⟩) hC hP hD hS hA rfl rfl rfl hl.1 rfl (Nat.le_of_ble_eq_true rfl) dL_loudest_2 ⟨(Nat.zero_le _), (Nat.zero_le _)⟩ (fun H locs hP hD hS => ?_)
  have hP : va_P D vwCl (wO T po a k x ++ []) H := hP
  have hD : va_D A (wO T po a k x ++ []) := hD
  refine W.eq (g2 := F0 m 5 ls [.int (pAtN (qC k.1) px 26 0)]) rfl ?_
  rw [wP_nil] at hP
  rw [wD_nil] at hD
  exact hret _ _ _ _ _ _ _ (Nat.zero_le _) (Nat.zero_le _) (fun Qc free hq hf => W.iret hx hb hr hq hf dL_loudest_5 hlk) hP hD hS
set_option maxHeartbeats 4000000 in
set_option maxRecDepth 100000 in
theorem Lx_loudest (l : Launch) (D : va_G) (T : Nat → ClassId) (po : Nat) (a : Nat → Nat) (k : KS) (x : CT) (px : Int32) (hst9 : l.stackTraces = false) (hpos : 0 ≤ px) (hbig : qSize k.1 ≤ px) : kWN l D T yL_loudest wsL_loudest rL_loudest 1 6 [.ref po, .int px] (wO T po a k x) (some (.int 900002)) (wO T po a k x) := by
  refine kWN.ofW (cc := cL_loudest) (maxL := 3) (ret := some .int) (by decide) rfl (Nat.le_of_ble_eq_true rfl) ?_
  intro p e s m below meth c A Q ls hx hb hml hown hr hlk htab hts hC hP hD hS hA hl hXX hZ hE hNc hret
  have hl : lv_has ls 3 [(0, .ref po), (1, .int px)] := hl
  have hP : va_P D vwCl (wO T po a k x ++ []) s.heap := by rw [wP_nil]; exact hP
  have hD : va_D A (wO T po a k x ++ []) := by rw [wD_nil]; exact hD
  refine lv_aload_n hx hb dL_loudest_0 rfl (lv_at hl 0 rfl) ?_
  refine lv_iload_n hx hb dL_loudest_1 rfl (lv_at hl 1 rfl) ?_
  refine kxV (ci := 7) (As := [.int px]) (rest := []) ⟨hx, hb, hml, hown, hts⟩ (ox_loudest l D T po a k x px hst9 hpos hbig) (cwV 1 hts gL_loudest_X8_loudest rfl rfl rfl (by decide +kernel) ⟨Nat.le_of_ble_eq_true rfl, Nat.le_of_ble_eq_true rfl⟩) hC hXX hZ hP hD hS hA rfl rfl rfl hl.1 rfl (Nat.le_of_ble_eq_true rfl) dL_loudest_2 ⟨Nat.le_of_ble_eq_true rfl, Nat.le_of_ble_eq_true rfl⟩ (fun H locs q9 ce hP hD hS h1 h2 h3 => ?_)
  have hP : va_P D vwCl (wO T po a k x ++ []) H := hP
  have hD : va_D A (wO T po a k x ++ []) := hD
  refine vx_catch (own := RL) hown [⟨0, 5, 6, 25⟩] ⟨0, 5, 10, 55⟩ [] (htab.trans rfl) (by intro z hz; cases hz with | head => exact Or.inr ⟨by decide, "java/lang/IllegalArgumentException", hts (.classLink RL 25 "java/lang/IllegalArgumentException") (List.mem_of_getElem? (i := 1) rfl), hNc.at 3 rfl⟩ | tail _ h => cases h) rfl (by decide) (hts (.classLink RL 55 "java/util/NoSuchElementException") (List.mem_of_getElem? (i := 2) rfl)) (va_Nw.use rfl (hXX.2.1 "java/util/NoSuchElementException" (by decide +kernel))) h1 h2 h3 ?_
  refine W.eq (g2 := F0 m 10 ls [.ref q9]) rfl ?_
  refine lv_astore_n (lv' := [(2, .ref q9), (0, .ref po), (1, .int px)]) hx hb dL_loudest_10 rfl hl (by decide) rfl (fun ls hl => ?_)
  refine lv_ldc (v := 900002) hx hb hown (hts (.constant RL 20 900002) (List.mem_of_getElem? (i := 4) rfl)) dL_loudest_11 ?_
  rw [wP_nil] at hP
  rw [wD_nil] at hD
  exact hret _ _ _ _ _ _ _ (by show 0 + 1 ≤ 1; omega) (by show 0 + 6 ≤ 6; omega) (fun Qc free hq hf => W.iret hx hb hr hq hf dL_loudest_13 hlk) hP hD hS
abbrev rL_surely : Room := { frames := 7, cells := 0, slots := 0, locals := 154 }
set_option maxHeartbeats 4000000 in
set_option maxRecDepth 100000 in
theorem L_surely (l : Launch) (D : va_G) (T : Nat → ClassId) (po : Nat) (a : Nat → Nat) (k : KS) (x : CT) (px : Int32) (hlo : ¬ px < 0) (hhi : px ≤ 1000) : kWN l D T yL_surely wsL_surely rL_surely 0 0 [.ref po, .int px] (wO T po a k x) (some (.int (abC (qSure k.1) (px * qSum k.1) 26))) (wO T po a k x) := by
  refine kWN.ofW (cc := cL_surely) (maxL := 3) (ret := some .int) (by decide) rfl (Nat.le_of_ble_eq_true rfl) ?_
  intro p e s m below meth c A Q ls hx hb hml hown hr hlk htab hts hC hP hD hS hA hl hXX hZ hE hNc hret
  have hl : lv_has ls 3 [(0, .ref po), (1, .int px)] := hl
  have hP : va_P D vwCl (wO T po a k x ++ []) s.heap := by rw [wP_nil]; exact hP
  have hD : va_D A (wO T po a k x ++ []) := by rw [wD_nil]; exact hD
  refine lv_aload_n hx hb dL_surely_0 rfl (lv_at hl 0 rfl) ?_
  refine lv_iload_n hx hb dL_surely_1 rfl (lv_at hl 1 rfl) ?_
  refine kEV (ci := 7) (As := [.int px]) (rest := []) ⟨hx, hb, hml, hown, hts⟩ (o_surelyAbove l D T po a k x px hlo hhi) (cwV 1 hts gL_surely_X8_surelyAbove rfl rfl rfl (by decide +kernel) ⟨Nat.le_of_ble_eq_true rfl, Nat.le_of_ble_eq_true rfl⟩) hC hE hP hD hS hA rfl rfl rfl hl.1 rfl (Nat.le_of_ble_eq_true rfl) dL_surely_2 ⟨(Nat.zero_le _), (Nat.zero_le _)⟩ (fun H locs hP hD hS => ?_)
  have hP : va_P D vwCl (wO T po a k x ++ []) H := hP
  have hD : va_D A (wO T po a k x ++ []) := hD
  refine W.eq (g2 := F0 m 5 ls [.int (abC (qSure k.1) (px * qSum k.1) 26)]) rfl ?_
  rw [wP_nil] at hP
  rw [wD_nil] at hD
  exact hret _ _ _ _ _ _ _ (Nat.zero_le _) (Nat.zero_le _) (fun Qc free hq hf => W.iret hx hb hr hq hf dL_surely_5 hlk) hP hD hS
abbrev rL_perhaps : Room := { frames := 7, cells := 0, slots := 0, locals := 154 }
set_option maxHeartbeats 4000000 in
set_option maxRecDepth 100000 in
theorem L_perhaps (l : Launch) (D : va_G) (T : Nat → ClassId) (po : Nat) (a : Nat → Nat) (k : KS) (x : CT) (px : Int32) (hlo : ¬ px < 0) (hhi : px ≤ 1000) : kWN l D T yL_perhaps wsL_perhaps rL_perhaps 0 0 [.ref po, .int px] (wO T po a k x) (some (.int (abC (qEst k.1) (px * qSum k.1) 26))) (wO T po a k x) := by
  refine kWN.ofW (cc := cL_perhaps) (maxL := 3) (ret := some .int) (by decide) rfl (Nat.le_of_ble_eq_true rfl) ?_
  intro p e s m below meth c A Q ls hx hb hml hown hr hlk htab hts hC hP hD hS hA hl hXX hZ hE hNc hret
  have hl : lv_has ls 3 [(0, .ref po), (1, .int px)] := hl
  have hP : va_P D vwCl (wO T po a k x ++ []) s.heap := by rw [wP_nil]; exact hP
  have hD : va_D A (wO T po a k x ++ []) := by rw [wD_nil]; exact hD
  refine lv_aload_n hx hb dL_perhaps_0 rfl (lv_at hl 0 rfl) ?_
  refine lv_iload_n hx hb dL_perhaps_1 rfl (lv_at hl 1 rfl) ?_
  refine kEV (ci := 7) (As := [.int px]) (rest := []) ⟨hx, hb, hml, hown, hts⟩ (o_perhapsAbove l D T po a k x px hlo hhi) (cwV 1 hts gL_perhaps_X8_perhapsAbove rfl rfl rfl (by decide +kernel) ⟨Nat.le_of_ble_eq_true rfl, Nat.le_of_ble_eq_true rfl⟩) hC hE hP hD hS hA rfl rfl rfl hl.1 rfl (Nat.le_of_ble_eq_true rfl) dL_perhaps_2 ⟨(Nat.zero_le _), (Nat.zero_le _)⟩ (fun H locs hP hD hS => ?_)
  have hP : va_P D vwCl (wO T po a k x ++ []) H := hP
  have hD : va_D A (wO T po a k x ++ []) := hD
  refine W.eq (g2 := F0 m 5 ls [.int (abC (qEst k.1) (px * qSum k.1) 26)]) rfl ?_
  rw [wP_nil] at hP
  rw [wD_nil] at hD
  exact hret _ _ _ _ _ _ _ (Nat.zero_le _) (Nat.zero_le _) (fun Qc free hq hf => W.iret hx hb hr hq hf dL_perhaps_5 hlk) hP hD hS
abbrev rL_truly : Room := { frames := 7, cells := 0, slots := 0, locals := 154 }
set_option maxHeartbeats 4000000 in
set_option maxRecDepth 100000 in
theorem L_truly (l : Launch) (D : va_G) (T : Nat → ClassId) (po : Nat) (a : Nat → Nat) (k : KS) (x : CT) (px : Int32) (hlo : ¬ px < 0) (hhi : px ≤ 1000) : kWN l D T yL_truly wsL_truly rL_truly 0 0 [.ref po, .int px] (wO T po a k x) (some (.int (abC (qT k.1) (px * qSum k.1) 26))) (wO T po a k x) := by
  refine kWN.ofW (cc := cL_truly) (maxL := 3) (ret := some .int) (by decide) rfl (Nat.le_of_ble_eq_true rfl) ?_
  intro p e s m below meth c A Q ls hx hb hml hown hr hlk htab hts hC hP hD hS hA hl hXX hZ hE hNc hret
  have hl : lv_has ls 3 [(0, .ref po), (1, .int px)] := hl
  have hP : va_P D vwCl (wO T po a k x ++ []) s.heap := by rw [wP_nil]; exact hP
  have hD : va_D A (wO T po a k x ++ []) := by rw [wD_nil]; exact hD
  refine lv_aload_n hx hb dL_truly_0 rfl (lv_at hl 0 rfl) ?_
  refine lv_iload_n hx hb dL_truly_1 rfl (lv_at hl 1 rfl) ?_
  refine kEV (ci := 7) (As := [.int px]) (rest := []) ⟨hx, hb, hml, hown, hts⟩ (o_trulyAbove l D T po a k x px hlo hhi) (cwV 1 hts gL_truly_X8_trulyAbove rfl rfl rfl (by decide +kernel) ⟨Nat.le_of_ble_eq_true rfl, Nat.le_of_ble_eq_true rfl⟩) hC hE hP hD hS hA rfl rfl rfl hl.1 rfl (Nat.le_of_ble_eq_true rfl) dL_truly_2 ⟨(Nat.zero_le _), (Nat.zero_le _)⟩ (fun H locs hP hD hS => ?_)
  have hP : va_P D vwCl (wO T po a k x ++ []) H := hP
  have hD : va_D A (wO T po a k x ++ []) := hD
  refine W.eq (g2 := F0 m 5 ls [.int (abC (qT k.1) (px * qSum k.1) 26)]) rfl ?_
  rw [wP_nil] at hP
  rw [wD_nil] at hD
  exact hret _ _ _ _ _ _ _ (Nat.zero_le _) (Nat.zero_le _) (fun Qc free hq hf => W.iret hx hb hr hq hf dL_truly_5 hlk) hP hD hS
abbrev rL_hear : Room := { frames := 7, cells := 0, slots := 0, locals := 190 }
set_option maxHeartbeats 4000000 in
set_option maxRecDepth 100000 in
theorem L_hear (l : Launch) (D : va_G) (T : Nat → ClassId) (po : Nat) (a : Nat → Nat) (k : KS) (x : CT) (pa : Nat) {M : Int} (hK : KI k M) (hp : pa < 26) (hfew : qSum k.1 + 1 ≤ 99999) : kWN l D T yL_hear wsL_hear rL_hear 0 0 [.ref po, .int (nI pa)] (wO T po a k x) (some (.int (qEst (tkQ k.1 pa) pa))) (wO T po a (recQ k (tkQ k.1 pa)) x) := by
  refine kWN.ofW (cc := cL_hear) (maxL := 3) (ret := some .int) (by decide) rfl (Nat.le_of_ble_eq_true rfl) ?_
  intro p e s m below meth c A Q ls hx hb hml hown hr hlk htab hts hC hP hD hS hA hl hXX hZ hE hNc hret
  have hl : lv_has ls 3 [(0, .ref po), (1, .int (nI pa))] := hl
  have hP : va_P D vwCl (wO T po a k x ++ []) s.heap := by rw [wP_nil]; exact hP
  have hD : va_D A (wO T po a k x ++ []) := by rw [wD_nil]; exact hD
  refine lv_aload_n hx hb dL_hear_0 rfl (lv_at hl 0 rfl) ?_
  refine lv_iload_n hx hb dL_hear_1 rfl (lv_at hl 1 rfl) ?_
  refine kV (ci := 7) (As := [.int (nI pa)]) (rest := []) ⟨hx, hb, hml, hown, hts⟩ (o_hear l D T po a k x pa hK.2.1 hp hfew hK.2.2.1) (cwV 1 hts gL_hear_X8_hear rfl rfl rfl (by decide +kernel) ⟨Nat.le_of_ble_eq_true rfl, Nat.le_of_ble_eq_true rfl⟩) hC hP hD hS hA rfl rfl rfl hl.1 rfl (Nat.le_of_ble_eq_true rfl) dL_hear_2 ⟨(Nat.zero_le _), (Nat.zero_le _)⟩ (fun H locs hP hD hS => ?_)
  have hP : va_P D vwCl (wO T po a (recQ k (tkQ k.1 pa)) x ++ []) H := hP
  have hD : va_D A (wO T po a (recQ k (tkQ k.1 pa)) x ++ []) := hD
  refine W.eq (g2 := F0 m 5 ls [.int (qEst (tkQ k.1 pa) pa)]) rfl ?_
  rw [wP_nil] at hP
  rw [wD_nil] at hD
  exact hret _ _ _ _ _ _ _ (Nat.zero_le _) (Nat.zero_le _) (fun Qc free hq hf => W.iret hx hb hr hq hf dL_hear_5 hlk) hP hD hS
abbrev rL_song : Room := { frames := 7, cells := 0, slots := 0, locals := 191 }
set_option maxHeartbeats 4000000 in
set_option maxRecDepth 100000 in
theorem L_song (l : Launch) (D : va_G) (T : Nat → ClassId) (po : Nat) (a : Nat → Nat) (k : KS) (x : CT) {M : Int} {pa n : Nat} (hp : pa < 26) (hT : TX x pa n) (hK : KI k M) (hM : M + n ≤ 99999) (hn : n ≤ 1000) : kWN l D T yL_song wsL_song rL_song 0 0 [.ref po] (wO T po a k x) (some (.int (qSum k.1 + nI n))) (wO T po a (recQ k (tkR k.1 pa n)) (sgX x)) := by
  refine kWN.ofW (cc := cL_song) (maxL := 2) (ret := some .int) (by decide) rfl (Nat.le_of_ble_eq_true rfl) ?_
  intro p e s m below meth c A Q ls hx hb hml hown hr hlk htab hts hC hP hD hS hA hl hXX hZ hE hNc hret
  have hl : lv_has ls 2 [(0, .ref po)] := hl
  have hP : va_P D vwCl (wO T po a k x ++ []) s.heap := by rw [wP_nil]; exact hP
  have hD : va_D A (wO T po a k x ++ []) := by rw [wD_nil]; exact hD
  refine lv_aload_n hx hb dL_song_0 rfl (lv_at hl 0 rfl) ?_
  refine kV (ci := 7) (As := []) (rest := []) ⟨hx, hb, hml, hown, hts⟩ (o_song l D T po a k x hp hT hK hM hn) (cwV 0 hts gL_song_X8_hearSong rfl rfl rfl (by decide +kernel) ⟨Nat.le_of_ble_eq_true rfl, Nat.le_of_ble_eq_true rfl⟩) hC hP hD hS hA rfl rfl rfl hl.1 rfl (Nat.le_of_ble_eq_true rfl) dL_song_1 ⟨(Nat.zero_le _), (Nat.zero_le _)⟩ (fun H locs hP hD hS => ?_)
  have hP : va_P D vwCl (wO T po a (recQ k (tkR k.1 pa n)) (sgX x) ++ []) H := hP
  have hD : va_D A (wO T po a (recQ k (tkR k.1 pa n)) (sgX x) ++ []) := hD
  refine W.eq (g2 := F0 m 4 ls [.int (qSum k.1 + nI n)]) rfl ?_
  rw [wP_nil] at hP
  rw [wD_nil] at hD
  exact hret _ _ _ _ _ _ _ (Nat.zero_le _) (Nat.zero_le _) (fun Qc free hq hf => W.iret hx hb hr hq hf dL_song_4 hlk) hP hD hS
abbrev rL_empty : Room := { frames := 7, cells := 0, slots := 0, locals := 191 }
set_option maxHeartbeats 4000000 in
set_option maxRecDepth 100000 in
theorem L_empty (l : Launch) (D : va_G) (T : Nat → ClassId) (po : Nat) (a : Nat → Nat) (k : KS) (x : CT) (cn : Nat) {M : Int} (hK : KI k M) (hc1 : 1 ≤ cn) (hc9 : cn ≤ 9) : kWN l D T yL_empty wsL_empty rL_empty 0 0 [.ref po, .int (nI cn)] (wO T po a k x) (some (.int (nI (qCap k.1)))) (wO T po a (recQ k (emQ k.1 cn)) x) := by
  refine kWN.ofW (cc := cL_empty) (maxL := 3) (ret := some .int) (by decide) rfl (Nat.le_of_ble_eq_true rfl) ?_
  intro p e s m below meth c A Q ls hx hb hml hown hr hlk htab hts hC hP hD hS hA hl hXX hZ hE hNc hret
  have hl : lv_has ls 3 [(0, .ref po), (1, .int (nI cn))] := hl
  have hP : va_P D vwCl (wO T po a k x ++ []) s.heap := by rw [wP_nil]; exact hP
  have hD : va_D A (wO T po a k x ++ []) := by rw [wD_nil]; exact hD
  refine lv_aload_n hx hb dL_empty_0 rfl (lv_at hl 0 rfl) ?_
  refine lv_iload_n hx hb dL_empty_1 rfl (lv_at hl 1 rfl) ?_
  refine kV (ci := 7) (As := [.int (nI cn)]) (rest := []) ⟨hx, hb, hml, hown, hts⟩ (o_empty l D T po a k x cn hK.2.1 hc1 hc9 hK.2.2.1) (cwV 1 hts gL_empty_X8_empty rfl rfl rfl (by decide +kernel) ⟨Nat.le_of_ble_eq_true rfl, Nat.le_of_ble_eq_true rfl⟩) hC hP hD hS hA rfl rfl rfl hl.1 rfl (Nat.le_of_ble_eq_true rfl) dL_empty_2 ⟨(Nat.zero_le _), (Nat.zero_le _)⟩ (fun H locs hP hD hS => ?_)
  have hP : va_P D vwCl (wO T po a (recQ k (emQ k.1 cn)) x ++ []) H := hP
  have hD : va_D A (wO T po a (recQ k (emQ k.1 cn)) x ++ []) := hD
  refine W.eq (g2 := F0 m 5 ls [.int (nI (qCap k.1))]) rfl ?_
  rw [wP_nil] at hP
  rw [wD_nil] at hD
  exact hret _ _ _ _ _ _ _ (Nat.zero_le _) (Nat.zero_le _) (fun Qc free hq hf => W.iret hx hb hr hq hf dL_empty_5 hlk) hP hD hS
abbrev rL_merge : Room := { frames := 8, cells := 1, slots := 6, locals := 189 }
set_option maxHeartbeats 4000000 in
set_option maxRecDepth 100000 in
theorem L_merge (l : Launch) (D : va_G) (T : Nat → ClassId) (po : Nat) (a : Nat → Nat) (k : KS) (x : CT) {M : Int} (hK : KI k M) (hM : M ≤ 99999) (hv : qVia k.1 = true) : kWN l D T yL_merge wsL_merge rL_merge 1 6 [.ref po] (wO T po a k x) (some (.int (qSum (mgQ k.1)))) (wO T po a (recQ k (mgQ k.1)) x) := by
  refine kWN.ofW (cc := cL_merge) (maxL := 2) (ret := some .int) (by decide) rfl (Nat.le_of_ble_eq_true rfl) ?_
  intro p e s m below meth c A Q ls hx hb hml hown hr hlk htab hts hC hP hD hS hA hl hXX hZ hE hNc hret
  have hl : lv_has ls 2 [(0, .ref po)] := hl
  have hP : va_P D vwCl (wO T po a k x ++ []) s.heap := by rw [wP_nil]; exact hP
  have hD : va_D A (wO T po a k x ++ []) := by rw [wD_nil]; exact hD
  refine lv_aload_n hx hb dL_merge_0 rfl (lv_at hl 0 rfl) ?_
  refine kV (ci := 7) (As := []) (rest := []) ⟨hx, hb, hml, hown, hts⟩ (o_mergeIn l D T po a k x hK.1 hM hv hK.2.1 hK.2.2.1) (cwV 0 hts gL_merge_X8_mergeIn rfl rfl rfl (by decide +kernel) ⟨Nat.le_of_ble_eq_true rfl, Nat.le_of_ble_eq_true rfl⟩) hC hP hD hS hA rfl rfl rfl hl.1 rfl (Nat.le_of_ble_eq_true rfl) dL_merge_1 ⟨(Nat.zero_le _), (Nat.zero_le _)⟩ (fun H locs hP hD hS => ?_)
  have hP : va_P D vwCl (wO T po a (recQ k (mgQ k.1)) x ++ []) H := hP
  have hD : va_D A (wO T po a (recQ k (mgQ k.1)) x ++ []) := hD
  refine W.eq (g2 := F0 m 4 ls [.int (qSum (mgQ k.1))]) rfl ?_
  rw [wP_nil] at hP
  rw [wD_nil] at hD
  exact hret _ _ _ _ _ _ _ (Nat.zero_le _) (Nat.zero_le _) (fun Qc free hq hf => W.iret hx hb hr hq hf dL_merge_4 hlk) hP hD hS
set_option maxHeartbeats 4000000 in
set_option maxRecDepth 100000 in
theorem Lx_merge (l : Launch) (D : va_G) (T : Nat → ClassId) (po : Nat) (a : Nat → Nat) (k : KS) (x : CT) (hst9 : l.stackTraces = false) (hia : qVia k.1 = false) : kWN l D T yL_merge wsL_merge rL_merge 1 6 [.ref po] (wO T po a k x) (some (.int 900001)) (wO T po a k x) := by
  refine kWN.ofW (cc := cL_merge) (maxL := 2) (ret := some .int) (by decide) rfl (Nat.le_of_ble_eq_true rfl) ?_
  intro p e s m below meth c A Q ls hx hb hml hown hr hlk htab hts hC hP hD hS hA hl hXX hZ hE hNc hret
  have hl : lv_has ls 2 [(0, .ref po)] := hl
  have hP : va_P D vwCl (wO T po a k x ++ []) s.heap := by rw [wP_nil]; exact hP
  have hD : va_D A (wO T po a k x ++ []) := by rw [wD_nil]; exact hD
  refine lv_aload_n hx hb dL_merge_0 rfl (lv_at hl 0 rfl) ?_
  refine kxV (ci := 7) (As := []) (rest := []) ⟨hx, hb, hml, hown, hts⟩ (ox_mergeIn l D T po a k x hst9 hia) (cwV 0 hts gL_merge_X8_mergeIn rfl rfl rfl (by decide +kernel) ⟨Nat.le_of_ble_eq_true rfl, Nat.le_of_ble_eq_true rfl⟩) hC hXX hZ hP hD hS hA rfl rfl rfl hl.1 rfl (Nat.le_of_ble_eq_true rfl) dL_merge_1 ⟨Nat.le_of_ble_eq_true rfl, Nat.le_of_ble_eq_true rfl⟩ (fun H locs q9 ce hP hD hS h1 h2 h3 => ?_)
  have hP : va_P D vwCl (wO T po a k x ++ []) H := hP
  have hD : va_D A (wO T po a k x ++ []) := hD
  refine vx_catch (own := RL) hown [] ⟨0, 4, 5, 18⟩ [] (htab.trans rfl) (by intro z hz; cases hz) rfl (by decide) (hts (.classLink RL 18 "java/lang/IllegalStateException") (List.mem_of_getElem? (i := 1) rfl)) (va_Nw.use rfl (hXX.2.1 "java/lang/IllegalStateException" (by decide +kernel))) h1 h2 h3 ?_
  refine W.eq (g2 := F0 m 5 ls [.ref q9]) rfl ?_
  refine lv_astore_n (lv' := [(1, .ref q9), (0, .ref po)]) hx hb dL_merge_5 rfl hl (by decide) rfl (fun ls hl => ?_)
  refine lv_ldc (v := 900001) hx hb hown (hts (.constant RL 17 900001) (List.mem_of_getElem? (i := 2) rfl)) dL_merge_6 ?_
  rw [wP_nil] at hP
  rw [wD_nil] at hD
  exact hret _ _ _ _ _ _ _ (by show 0 + 1 ≤ 1; omega) (by show 0 + 6 ≤ 6; omega) (fun Qc free hq hf => W.iret hx hb hr hq hf dL_merge_8 hlk) hP hD hS
abbrev rL_undo : Room := { frames := 7, cells := 1, slots := 6, locals := 189 }
set_option maxHeartbeats 4000000 in
set_option maxRecDepth 100000 in
theorem L_undo (l : Launch) (D : va_G) (T : Nat → ClassId) (po : Nat) (a : Nat → Nat) (k : KS) (x : CT) {M : Int} (hK : KI k M) (h0 : 0 < k.2.2.1) : kWN l D T yL_undo wsL_undo rL_undo 1 6 [.ref po] (wO T po a k x) (some (.int (nI (k.2.2.1 - 1)))) (wO T po a (unQ k) x) := by
  refine kWN.ofW (cc := cL_undo) (maxL := 2) (ret := some .int) (by decide) rfl (Nat.le_of_ble_eq_true rfl) ?_
  intro p e s m below meth c A Q ls hx hb hml hown hr hlk htab hts hC hP hD hS hA hl hXX hZ hE hNc hret
  have hl : lv_has ls 2 [(0, .ref po)] := hl
  have hP : va_P D vwCl (wO T po a k x ++ []) s.heap := by rw [wP_nil]; exact hP
  have hD : va_D A (wO T po a k x ++ []) := by rw [wD_nil]; exact hD
  refine lv_aload_n hx hb dL_undo_0 rfl (lv_at hl 0 rfl) ?_
  refine kV (ci := 7) (As := []) (rest := []) ⟨hx, hb, hml, hown, hts⟩ (o_undo l D T po a k x hK.2.1 hK.2.2.1 h0) (cwV 0 hts gL_undo_X8_undo rfl rfl rfl (by decide +kernel) ⟨Nat.le_of_ble_eq_true rfl, Nat.le_of_ble_eq_true rfl⟩) hC hP hD hS hA rfl rfl rfl hl.1 rfl (Nat.le_of_ble_eq_true rfl) dL_undo_1 ⟨(Nat.zero_le _), (Nat.zero_le _)⟩ (fun H locs hP hD hS => ?_)
  have hP : va_P D vwCl (wO T po a (unQ k) x ++ []) H := hP
  have hD : va_D A (wO T po a (unQ k) x ++ []) := hD
  refine W.eq (g2 := F0 m 4 ls [.int (nI (k.2.2.1 - 1))]) rfl ?_
  rw [wP_nil] at hP
  rw [wD_nil] at hD
  exact hret _ _ _ _ _ _ _ (Nat.zero_le _) (Nat.zero_le _) (fun Qc free hq hf => W.iret hx hb hr hq hf dL_undo_4 hlk) hP hD hS
set_option maxHeartbeats 4000000 in
set_option maxRecDepth 100000 in
theorem Lx_undo (l : Launch) (D : va_G) (T : Nat → ClassId) (po : Nat) (a : Nat → Nat) (k : KS) (x : CT) (hst9 : l.stackTraces = false) (hz0 : k.2.2.1 = 0) : kWN l D T yL_undo wsL_undo rL_undo 1 6 [.ref po] (wO T po a k x) (some (.int 900001)) (wO T po a k x) := by
  refine kWN.ofW (cc := cL_undo) (maxL := 2) (ret := some .int) (by decide) rfl (Nat.le_of_ble_eq_true rfl) ?_
  intro p e s m below meth c A Q ls hx hb hml hown hr hlk htab hts hC hP hD hS hA hl hXX hZ hE hNc hret
  have hl : lv_has ls 2 [(0, .ref po)] := hl
  have hP : va_P D vwCl (wO T po a k x ++ []) s.heap := by rw [wP_nil]; exact hP
  have hD : va_D A (wO T po a k x ++ []) := by rw [wD_nil]; exact hD
  refine lv_aload_n hx hb dL_undo_0 rfl (lv_at hl 0 rfl) ?_
  refine kxV (ci := 7) (As := []) (rest := []) ⟨hx, hb, hml, hown, hts⟩ (ox_undo l D T po a k x hst9 hz0) (cwV 0 hts gL_undo_X8_undo rfl rfl rfl (by decide +kernel) ⟨Nat.le_of_ble_eq_true rfl, Nat.le_of_ble_eq_true rfl⟩) hC hXX hZ hP hD hS hA rfl rfl rfl hl.1 rfl (Nat.le_of_ble_eq_true rfl) dL_undo_1 ⟨Nat.le_of_ble_eq_true rfl, Nat.le_of_ble_eq_true rfl⟩ (fun H locs q9 ce hP hD hS h1 h2 h3 => ?_)
  have hP : va_P D vwCl (wO T po a k x ++ []) H := hP
  have hD : va_D A (wO T po a k x ++ []) := hD
  refine vx_catch (own := RL) hown [] ⟨0, 4, 5, 18⟩ [] (htab.trans rfl) (by intro z hz; cases hz) rfl (by decide) (hts (.classLink RL 18 "java/lang/IllegalStateException") (List.mem_of_getElem? (i := 1) rfl)) (va_Nw.use rfl (hXX.2.1 "java/lang/IllegalStateException" (by decide +kernel))) h1 h2 h3 ?_
  refine W.eq (g2 := F0 m 5 ls [.ref q9]) rfl ?_
  refine lv_astore_n (lv' := [(1, .ref q9), (0, .ref po)]) hx hb dL_undo_5 rfl hl (by decide) rfl (fun ls hl => ?_)
  refine lv_ldc (v := 900001) hx hb hown (hts (.constant RL 17 900001) (List.mem_of_getElem? (i := 2) rfl)) dL_undo_6 ?_
  rw [wP_nil] at hP
  rw [wD_nil] at hD
  exact hret _ _ _ _ _ _ _ (by show 0 + 1 ≤ 1; omega) (by show 0 + 6 ≤ 6; omega) (fun Qc free hq hf => W.iret hx hb hr hq hf dL_undo_8 hlk) hP hD hS
abbrev rL_append : Room := { frames := 2, cells := 0, slots := 0, locals := 42 }
set_option maxHeartbeats 4000000 in
set_option maxRecDepth 100000 in
theorem L_append (l : Launch) (D : va_G) (T : Nat → ClassId) (po : Nat) (a : Nat → Nat) (k : KS) (x : CT) {n : Nat} (hn : n < 128) (hlc : x.1 < 60) : kWN l D T yL_append wsL_append rL_append 0 0 [.ref po, .int (nI n)] (wO T po a k x) (some (.int (nI (x.1 + 1)))) (wO T po a k (apX x n)) := by
  refine kWN.ofW (cc := cL_append) (maxL := 3) (ret := some .int) (by decide) rfl (Nat.le_of_ble_eq_true rfl) ?_
  intro p e s m below meth c A Q ls hx hb hml hown hr hlk htab hts hC hP hD hS hA hl hXX hZ hE hNc hret
  have hl : lv_has ls 3 [(0, .ref po), (1, .int (nI n))] := hl
  have hP : va_P D vwCl (wO T po a k x ++ []) s.heap := by rw [wP_nil]; exact hP
  have hD : va_D A (wO T po a k x ++ []) := by rw [wD_nil]; exact hD
  refine lv_aload_n hx hb dL_append_0 rfl (lv_at hl 0 rfl) ?_
  refine lv_iload_n hx hb dL_append_1 rfl (lv_at hl 1 rfl) ?_
  refine lv_i2c (v := ((nI n).toUInt32 % 65536).toInt32) hx hb dL_append_2 rfl ?_
  refine W.eq (g2 := F0 m 3 ls (.int (nI n) :: [.ref po])) (congrArg (fun z => F0 m 3 ls (.int z :: [.ref po])) ((ch_i2c n hn).1 : (((nI n).toUInt32 % 65536).toInt32 : Int32) = nI n)) ?_
  refine kV (ci := 7) (As := [.int (nI n)]) (rest := []) ⟨hx, hb, hml, hown, hts⟩ (o_app l D T po a k x hn hlc) (cwV 1 hts gL_append_X8_append rfl rfl rfl (by decide +kernel) ⟨Nat.le_of_ble_eq_true rfl, Nat.le_of_ble_eq_true rfl⟩) hC hP hD hS hA rfl rfl rfl hl.1 rfl (Nat.le_of_ble_eq_true rfl) dL_append_3 ⟨(Nat.zero_le _), (Nat.zero_le _)⟩ (fun H locs hP hD hS => ?_)
  have hP : va_P D vwCl (wO T po a k (apX x n) ++ []) H := hP
  have hD : va_D A (wO T po a k (apX x n) ++ []) := hD
  refine W.eq (g2 := F0 m 6 ls [.int (nI (x.1 + 1))]) rfl ?_
  rw [wP_nil] at hP
  rw [wD_nil] at hD
  exact hret _ _ _ _ _ _ _ (Nat.zero_le _) (Nat.zero_le _) (fun Qc free hq hf => W.iret hx hb hr hq hf dL_append_6 hlk) hP hD hS
abbrev rL_up : Room := { frames := 0, cells := 0, slots := 0, locals := 0 }
set_option maxHeartbeats 4000000 in
set_option maxRecDepth 100000 in
theorem L_up (l : Launch) (D : va_G) (T : Nat → ClassId) (x : Int32) (n : Nat) (h : 0 < n) (h9 : n < 1000) : kM l D T yL_up wsL_up rL_up [.int x, .int (nI n)] [] (some (.int (nI (upN x n)))) [] := by
  refine kM.of (cc := cL_up) (maxL := 2) (ret := some .int) (by decide) rfl (Nat.le_of_ble_eq_true rfl) ?_
  intro p e s m below meth c A Q ls hx hb hml hown hr hlk hts hC hP hD hS hA hl hret
  have hl : lv_has ls 2 [(0, .int x), (1, .int (nI n))] := hl
  refine lv_iload_n hx hb dL_up_0 rfl (lv_at hl 0 rfl) ?_
  refine lv_ldc (v := 2147483647) hx hb hown (hts (.constant RL 8 2147483647) (List.mem_of_getElem? (i := 1) rfl)) dL_up_1 ?_
  refine lv_iand hx hb dL_up_3 ?_
  refine lv_iload_n hx hb dL_up_4 rfl (lv_at hl 1 rfl) ?_
  refine lv_irem hx hb dL_up_5 (nI_ne0 h (by omega)) ?_
  refine W.eq (g2 := F0 m 6 ls (.int (nI (upN x n)) :: [])) (congrArg (fun z => F0 m 6 ls (.int z :: [])) (up_eq x h (by omega) : ((x &&& 2147483647) - (x &&& 2147483647) / (nI n) * (nI n) : Int32) = nI (upN x n))) ?_
  exact hret _ _ _ _ _ (fun Qc free hq hf => W.iret hx hb hr hq hf dL_up_6 hlk) hP hD hS
end PWRAPS
