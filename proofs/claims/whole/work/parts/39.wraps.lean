abbrev rL_estimate : Room := { frames := 8, cells := 1, slots := 6, locals := 131 }
set_option maxHeartbeats 4000000 in
set_option maxRecDepth 100000 in
theorem kL_estimate (l : Launch) (D : va_G) (T : Nat → ClassId) (po ho so vs val : Nat) (via : Bool) (cq : Nat) (vol voxo voxc voxs voxg voyo voyc volt : Nat) (vofc vofs vofg : Nat → Int32) (voch vosz vorm : Int32) (vowf : Nat → Int32) (vowo vowz vowr : Int32) (votf : Nat → Int32) (pa : Nat) (ouA : Nat) (ouF : Nat → Int64) (hp : pa < 26) : kWM l D T yL_estimate wsL_estimate rL_estimate [.ref po, .int (nI pa), .ref ouA] [oPC po vs ho so, oSt vs vol val (bI via) (nI cq), oLi vol voxo voyo volt, oFL voxo voxc voxs voxg voch vosz vorm, aI T voxc 26 vofc, aI T voxs 26 vofs, aI T voxg 26 vofg, oSL voyo voyc vowo vowz vowr, aI T voyc 26 vowf, aI T volt 26 votf, aL T ouA 1 ouF] (some (.int 0)) [oPC po vs ho so, oSt vs vol val (bI via) (nI cq), oLi vol voxo voyo volt, oFL voxo voxc voxs voxg voch vosz vorm, aI T voxc 26 vofc, aI T voxs 26 vofs, aI T voxg 26 vofg, oSL voyo voyc vowo vowz vowr, aI T voyc 26 vowf, aI T volt 26 votf, aL T ouA 1 (vp_updL ouF 0 ((flEst vofc vofg vosz vorm pa).toInt64))] := by
  refine kWM.of (cc := cL_estimate) (maxL := 4) (ret := some .int) (by decide) rfl (Nat.le_of_ble_eq_true rfl) ?_
  intro p e s m below meth c A Q ls hx hb hml hown hr hlk htab hts hC hP hD hS hA hl hXX hZ hE hNc hret
  have hl : lv_has ls 4 [(0, .ref po), (1, .int (nI pa)), (2, .ref ouA)] := hl
  have hP : va_P D vwCl [oPC po vs ho so, oSt vs vol val (bI via) (nI cq), oLi vol voxo voyo volt, oFL voxo voxc voxs voxg voch vosz vorm, aI T voxc 26 vofc, aI T voxs 26 vofs, aI T voxg 26 vofg, oSL voyo voyc vowo vowz vowr, aI T voyc 26 vowf, aI T volt 26 votf, aL T ouA 1 ouF] s.heap := hP
  have hD : va_D A [oPC po vs ho so, oSt vs vol val (bI via) (nI cq), oLi vol voxo voyo volt, oFL voxo voxc voxs voxg voch vosz vorm, aI T voxc 26 vofc, aI T voxs 26 vofs, aI T voxg 26 vofg, oSL voyo voyc vowo vowz vowr, aI T voyc 26 vowf, aI T volt 26 votf, aL T ouA 1 ouF] := hD
  refine lv_aload_n hx hb dL_estimate_0 rfl (lv_at hl 2 rfl) ?_
  refine lv_iconst (v := 0) hx hb dL_estimate_1 (by decide) ?_
  refine lv_aload_n hx hb dL_estimate_2 rfl (lv_at hl 0 rfl) ?_
  refine lv_iload_n hx hb dL_estimate_3 rfl (lv_at hl 1 rfl) ?_
  have hP := hP.sub (ws' := [oPC po vs ho so, oSt vs vol val (bI via) (nI cq), oLi vol voxo voyo volt, oFL voxo voxc voxs voxg voch vosz vorm, aI T voxc 26 vofc, aI T voxs 26 vofs, aI T voxg 26 vofg, oSL voyo voyc vowo vowz vowr, aI T voyc 26 vowf, aI T volt 26 votf] ++ [aL T ouA 1 ouF]) [0, 1, 2, 3, 4, 5, 6, 7, 8, 9, 10] rfl
  have hD := hD.sub (ws' := [oPC po vs ho so, oSt vs vol val (bI via) (nI cq), oLi vol voxo voyo volt, oFL voxo voxc voxs voxg voch vosz vorm, aI T voxc 26 vofc, aI T voxs 26 vofs, aI T voxg 26 vofg, oSL voyo voyc vowo vowz vowr, aI T voyc 26 vowf, aI T volt 26 votf] ++ [aL T ouA 1 ouF]) [0, 1, 2, 3, 4, 5, 6, 7, 8, 9, 10] (by decide) rfl
  refine kV (ci := 7) (As := [.int (nI pa)]) (rest := [.int 0, .ref ouA]) ⟨hx, hb, hml, hown, hts⟩ (c_X8_estimate l D T po ho so vs val via cq vol voxo voxc voxs voxg voyo voyc volt vofc vofs vofg voch vosz vorm vowf vowo vowz vowr votf pa hp) (cwV 1 hts gL_estimate_X8_estimate rfl rfl rfl (by decide +kernel) ⟨Nat.le_of_ble_eq_true rfl, Nat.le_of_ble_eq_true rfl⟩) hC hP hD hS hA rfl rfl rfl hl.1 rfl (Nat.le_of_ble_eq_true rfl) dL_estimate_4 ⟨Nat.zero_le _, Nat.zero_le _⟩ (fun H locs hP hD hS => ?_)
  have hP : va_P D vwCl [oPC po vs ho so, oSt vs vol val (bI via) (nI cq), oLi vol voxo voyo volt, oFL voxo voxc voxs voxg voch vosz vorm, aI T voxc 26 vofc, aI T voxs 26 vofs, aI T voxg 26 vofg, oSL voyo voyc vowo vowz vowr, aI T voyc 26 vowf, aI T volt 26 votf, aL T ouA 1 ouF] H := hP
  have hD : va_D A [oPC po vs ho so, oSt vs vol val (bI via) (nI cq), oLi vol voxo voyo volt, oFL voxo voxc voxs voxg voch vosz vorm, aI T voxc 26 vofc, aI T voxs 26 vofs, aI T voxg 26 vofg, oSL voyo voyc vowo vowz vowr, aI T voyc 26 vowf, aI T volt 26 votf, aL T ouA 1 ouF] := hD
  refine W.eq (g2 := F0 m 7 ls [.int (flEst vofc vofg vosz vorm pa), .int 0, .ref ouA]) rfl ?_
  refine lv_i2l (v := (flEst vofc vofg vosz vorm pa).toInt64) hx hb dL_estimate_7 rfl ?_
  refine va_last hx hb hC.1 hP hD hS 10 2 rfl rfl (k_nin (i := 0) (by decide) (by decide)) dL_estimate_8 (fun H locs hP hD hS => ?_)
  have hP : va_P D vwCl [oPC po vs ho so, oSt vs vol val (bI via) (nI cq), oLi vol voxo voyo volt, oFL voxo voxc voxs voxg voch vosz vorm, aI T voxc 26 vofc, aI T voxs 26 vofs, aI T voxg 26 vofg, oSL voyo voyc vowo vowz vowr, aI T voyc 26 vowf, aI T volt 26 votf, aL T ouA 1 (vp_updL ouF 0 (flEst vofc vofg vosz vorm pa).toInt64)] H := hP
  have hD : va_D A [oPC po vs ho so, oSt vs vol val (bI via) (nI cq), oLi vol voxo voyo volt, oFL voxo voxc voxs voxg voch vosz vorm, aI T voxc 26 vofc, aI T voxs 26 vofs, aI T voxg 26 vofg, oSL voyo voyc vowo vowz vowr, aI T voyc 26 vowf, aI T volt 26 votf, aL T ouA 1 (vp_updL ouF 0 (flEst vofc vofg vosz vorm pa).toInt64)] := hD
  refine lv_goto (tgt := 15) hx hb dL_estimate_9 (by decide) ?_
  refine lv_iconst (v := 0) hx hb dL_estimate_15 (by decide) ?_
  have e_1 : vp_updL ouF 0 (flEst vofc vofg vosz vorm pa).toInt64 = vp_updL ouF 0 ((flEst vofc vofg vosz vorm pa).toInt64) := by rfl
  have eW := congrArg (fun zZ => ([oPC po vs ho so, oSt vs vol val (bI via) (nI cq), oLi vol voxo voyo volt, oFL voxo voxc voxs voxg voch vosz vorm, aI T voxc 26 vofc, aI T voxs 26 vofs, aI T voxg 26 vofg, oSL voyo voyc vowo vowz vowr, aI T voyc 26 vowf, aI T volt 26 votf, aL T ouA 1 zZ] : va_W)) e_1
  have hP : va_P D vwCl [oPC po vs ho so, oSt vs vol val (bI via) (nI cq), oLi vol voxo voyo volt, oFL voxo voxc voxs voxg voch vosz vorm, aI T voxc 26 vofc, aI T voxs 26 vofs, aI T voxg 26 vofg, oSL voyo voyc vowo vowz vowr, aI T voyc 26 vowf, aI T volt 26 votf, aL T ouA 1 (vp_updL ouF 0 ((flEst vofc vofg vosz vorm pa).toInt64))] _ := Eq.subst (motive := fun w => va_P D vwCl w _) eW hP
  have hD : va_D A [oPC po vs ho so, oSt vs vol val (bI via) (nI cq), oLi vol voxo voyo volt, oFL voxo voxc voxs voxg voch vosz vorm, aI T voxc 26 vofc, aI T voxs 26 vofs, aI T voxg 26 vofg, oSL voyo voyc vowo vowz vowr, aI T voyc 26 vowf, aI T volt 26 votf, aL T ouA 1 (vp_updL ouF 0 ((flEst vofc vofg vosz vorm pa).toInt64))] := Eq.subst (motive := fun w => va_D A w) eW hD
  exact hret _ _ _ _ _ _ _ (Nat.le_of_ble_eq_true rfl) (Nat.le_of_ble_eq_true rfl) (fun Qc free hq hf => W.iret hx hb hr hq hf dL_estimate_16 hlk) hP hD hS
set_option maxHeartbeats 4000000 in
set_option maxRecDepth 100000 in
theorem kLx_estimate_lo (l : Launch) (D : va_G) (T : Nat → ClassId) (po vs ho so : Nat) (px : Int32) (ouA : Nat) (ouF : Nat → Int64) (hneg : px < 0) (hst9 : l.stackTraces = false) : kWM l D T yL_estimate wsL_estimate rL_estimate [.ref po, .int px, .ref ouA] [oPC po vs ho so, aL T ouA 1 ouF] (some (.int 1)) [oPC po vs ho so, aL T ouA 1 ouF] := by
  refine kWM.of (cc := cL_estimate) (maxL := 4) (ret := some .int) (by decide) rfl (Nat.le_of_ble_eq_true rfl) ?_
  intro p e s m below meth c A Q ls hx hb hml hown hr hlk htab hts hC hP hD hS hA hl hXX hZ hE hNc hret
  have hl : lv_has ls 4 [(0, .ref po), (1, .int px), (2, .ref ouA)] := hl
  have hP : va_P D vwCl [oPC po vs ho so, aL T ouA 1 ouF] s.heap := hP
  have hD : va_D A [oPC po vs ho so, aL T ouA 1 ouF] := hD
  refine lv_aload_n hx hb dL_estimate_0 rfl (lv_at hl 2 rfl) ?_
  refine lv_iconst (v := 0) hx hb dL_estimate_1 (by decide) ?_
  refine lv_aload_n hx hb dL_estimate_2 rfl (lv_at hl 0 rfl) ?_
  refine lv_iload_n hx hb dL_estimate_3 rfl (lv_at hl 1 rfl) ?_
  have hP := hP.sub (ws' := [oPC po vs ho so] ++ [aL T ouA 1 ouF]) [0, 1] rfl
  have hD := hD.sub (ws' := [oPC po vs ho so] ++ [aL T ouA 1 ouF]) [0, 1] (by decide) rfl
  refine kxV (ci := 7) (As := [.int px]) (rest := [.int 0, .ref ouA]) ⟨hx, hb, hml, hown, hts⟩ (cx_X8_estimate_lo l D T po vs ho so px hst9 hneg) (cwV 1 hts gL_estimate_X8_estimate rfl rfl rfl (by decide +kernel) ⟨Nat.le_of_ble_eq_true rfl, Nat.le_of_ble_eq_true rfl⟩) hC hXX hZ hP hD hS hA rfl rfl rfl hl.1 rfl (Nat.le_of_ble_eq_true rfl) dL_estimate_4 ⟨Nat.le_of_ble_eq_true rfl, Nat.le_of_ble_eq_true rfl⟩ (fun H locs q9 ce hP hD hS h1 h2 h3 => ?_)
  have hP : va_P D vwCl [oPC po vs ho so, aL T ouA 1 ouF] H := hP
  have hD : va_D A [oPC po vs ho so, aL T ouA 1 ouF] := hD
  refine vx_catch (own := RL) hown [] ⟨0, 9, 12, 13⟩ [] (htab.trans rfl) (by intro z hz; cases hz) rfl (by decide) (hts (.classLink RL 13 "java/lang/IndexOutOfBoundsException") (List.mem_of_getElem? (i := 1) rfl)) (va_Nw.use rfl (hXX.2.1 "java/lang/IndexOutOfBoundsException" (by decide +kernel))) h1 h2 h3 ?_
  refine W.eq (g2 := F0 m 12 ls [.ref q9]) rfl ?_
  refine lv_astore_n (lv' := [(3, .ref q9), (0, .ref po), (1, .int px), (2, .ref ouA)]) hx hb dL_estimate_12 rfl hl (by decide) rfl (fun ls hl => ?_)
  refine lv_iconst (v := 1) hx hb dL_estimate_13 (by decide) ?_
  exact hret _ _ _ _ _ _ _ (Nat.le_of_ble_eq_true rfl) (Nat.le_of_ble_eq_true rfl) (fun Qc free hq hf => W.iret hx hb hr hq hf dL_estimate_14 hlk) hP hD hS
set_option maxHeartbeats 4000000 in
set_option maxRecDepth 100000 in
theorem kLx_estimate_hi (l : Launch) (D : va_G) (T : Nat → ClassId) (po vs ho so : Nat) (px : Int32) (ouA : Nat) (ouF : Nat → Int64) (hpos : ¬ px < 0) (hbig : 26 ≤ px) (hst9 : l.stackTraces = false) : kWM l D T yL_estimate wsL_estimate rL_estimate [.ref po, .int px, .ref ouA] [oPC po vs ho so, aL T ouA 1 ouF] (some (.int 1)) [oPC po vs ho so, aL T ouA 1 ouF] := by
  refine kWM.of (cc := cL_estimate) (maxL := 4) (ret := some .int) (by decide) rfl (Nat.le_of_ble_eq_true rfl) ?_
  intro p e s m below meth c A Q ls hx hb hml hown hr hlk htab hts hC hP hD hS hA hl hXX hZ hE hNc hret
  have hl : lv_has ls 4 [(0, .ref po), (1, .int px), (2, .ref ouA)] := hl
  have hP : va_P D vwCl [oPC po vs ho so, aL T ouA 1 ouF] s.heap := hP
  have hD : va_D A [oPC po vs ho so, aL T ouA 1 ouF] := hD
  refine lv_aload_n hx hb dL_estimate_0 rfl (lv_at hl 2 rfl) ?_
  refine lv_iconst (v := 0) hx hb dL_estimate_1 (by decide) ?_
  refine lv_aload_n hx hb dL_estimate_2 rfl (lv_at hl 0 rfl) ?_
  refine lv_iload_n hx hb dL_estimate_3 rfl (lv_at hl 1 rfl) ?_
  have hP := hP.sub (ws' := [oPC po vs ho so] ++ [aL T ouA 1 ouF]) [0, 1] rfl
  have hD := hD.sub (ws' := [oPC po vs ho so] ++ [aL T ouA 1 ouF]) [0, 1] (by decide) rfl
  refine kxV (ci := 7) (As := [.int px]) (rest := [.int 0, .ref ouA]) ⟨hx, hb, hml, hown, hts⟩ (cx_X8_estimate_hi l D T po vs ho so px hst9 hpos hbig) (cwV 1 hts gL_estimate_X8_estimate rfl rfl rfl (by decide +kernel) ⟨Nat.le_of_ble_eq_true rfl, Nat.le_of_ble_eq_true rfl⟩) hC hXX hZ hP hD hS hA rfl rfl rfl hl.1 rfl (Nat.le_of_ble_eq_true rfl) dL_estimate_4 ⟨Nat.le_of_ble_eq_true rfl, Nat.le_of_ble_eq_true rfl⟩ (fun H locs q9 ce hP hD hS h1 h2 h3 => ?_)
  have hP : va_P D vwCl [oPC po vs ho so, aL T ouA 1 ouF] H := hP
  have hD : va_D A [oPC po vs ho so, aL T ouA 1 ouF] := hD
  refine vx_catch (own := RL) hown [] ⟨0, 9, 12, 13⟩ [] (htab.trans rfl) (by intro z hz; cases hz) rfl (by decide) (hts (.classLink RL 13 "java/lang/IndexOutOfBoundsException") (List.mem_of_getElem? (i := 1) rfl)) (va_Nw.use rfl (hXX.2.1 "java/lang/IndexOutOfBoundsException" (by decide +kernel))) h1 h2 h3 ?_
  refine W.eq (g2 := F0 m 12 ls [.ref q9]) rfl ?_
  refine lv_astore_n (lv' := [(3, .ref q9), (0, .ref po), (1, .int px), (2, .ref ouA)]) hx hb dL_estimate_12 rfl hl (by decide) rfl (fun ls hl => ?_)
  refine lv_iconst (v := 1) hx hb dL_estimate_13 (by decide) ?_
  exact hret _ _ _ _ _ _ _ (Nat.le_of_ble_eq_true rfl) (Nat.le_of_ble_eq_true rfl) (fun Qc free hq hf => W.iret hx hb hr hq hf dL_estimate_14 hlk) hP hD hS
