abbrev rX8_requireParrot_x : Room := { frames := 6, cells := 1, slots := 6, locals := 90 }
set_option maxHeartbeats 4000000 in
set_option maxRecDepth 100000 in
theorem cx_X8_requireParrot_lo (l : Launch) (D : va_G) (T : Nat → ClassId) (px : Int32) (hst9 : l.stackTraces = false) (hneg : px < 0) : kXM l D T yX8_requireParrot wsX8_requireParrot rX8_requireParrot_x [.int px] [] "java/lang/IndexOutOfBoundsException" [] := by
  refine kXM.of (cc := cX8_requireParrot) (maxL := 1) (ret := none) (by decide) rfl (Nat.le_of_ble_eq_true rfl) ?_ hst9
  intro p e s m below meth c A Q ls hx hb hml hown hts hC hP hD hS hA hl hXX hZ hthr hout hst8
  have hl : lv_has ls 1 [(0, .int px)] := hl
  have hP : va_P D vwCl [] s.heap := hP
  have hD : va_D A [] := hD
  refine lv_iload_n hx hb dX8_requireParrot_0 rfl (lv_at hl 0 rfl) ?_
  refine lv_if_lt (tgt := 10) hx hb dX8_requireParrot_1 (by decide) (fun _ => ?_) (fun c_x => absurd hneg c_x)
  obtain ⟨sa9, hsa9⟩ := hXX.2.2 (219, "there is no such parrot") (List.mem_of_getElem? (i := 0) rfl)
  exact hthr "java/lang/IndexOutOfBoundsException" "there is no such parrot" 217 219 221 10 sa9 _ _ _ [] rfl (by decide +kernel) kFit (hts (.classLink RX8 217 "java/lang/IndexOutOfBoundsException") (List.mem_of_getElem? (i := 1) rfl)) (hts (.initialized "java/lang/IndexOutOfBoundsException") (List.mem_of_getElem? (i := 2) rfl)) hsa9 (vx_hat (fun w h => hts w (List.mem_cons_of_mem _ (List.mem_append_right _ h))) kB_221 (kXB_ok hXX (by decide +kernel))) kG_221 (hl.1.trans hml.symm) dX8_requireParrot_10 dX8_requireParrot_13 dX8_requireParrot_14 dX8_requireParrot_16 dX8_requireParrot_19 (Nat.le_of_ble_eq_true rfl) (Nat.le_of_ble_eq_true rfl) (Nat.le_of_ble_eq_true rfl) (Nat.le_of_ble_eq_true rfl) hP hD hS
set_option maxHeartbeats 4000000 in
set_option maxRecDepth 100000 in
theorem cx_X8_requireParrot_hi (l : Launch) (D : va_G) (T : Nat → ClassId) (px : Int32) (hst9 : l.stackTraces = false) (hpos : ¬ px < 0) (hbig : 26 ≤ px) : kXM l D T yX8_requireParrot wsX8_requireParrot rX8_requireParrot_x [.int px] [] "java/lang/IndexOutOfBoundsException" [] := by
  refine kXM.of (cc := cX8_requireParrot) (maxL := 1) (ret := none) (by decide) rfl (Nat.le_of_ble_eq_true rfl) ?_ hst9
  intro p e s m below meth c A Q ls hx hb hml hown hts hC hP hD hS hA hl hXX hZ hthr hout hst8
  have hl : lv_has ls 1 [(0, .int px)] := hl
  have hP : va_P D vwCl [] s.heap := hP
  have hD : va_D A [] := hD
  refine lv_iload_n hx hb dX8_requireParrot_0 rfl (lv_at hl 0 rfl) ?_
  refine lv_if_lt (tgt := 10) hx hb dX8_requireParrot_1 (by decide) (fun c_x => absurd c_x hpos) (fun _ => ?_)
  refine lv_iload_n hx hb dX8_requireParrot_4 rfl (lv_at hl 0 rfl) ?_
  refine lv_bipush (v := 26) hx hb dX8_requireParrot_5 (by decide) ?_
  refine lv_icmp_lt (tgt := 20) hx hb dX8_requireParrot_7 (by decide) (fun c_x => absurd c_x (Int32.not_lt.mpr hbig)) (fun _ => ?_)
  obtain ⟨sa9, hsa9⟩ := hXX.2.2 (219, "there is no such parrot") (List.mem_of_getElem? (i := 0) rfl)
  exact hthr "java/lang/IndexOutOfBoundsException" "there is no such parrot" 217 219 221 10 sa9 _ _ _ [] rfl (by decide +kernel) kFit (hts (.classLink RX8 217 "java/lang/IndexOutOfBoundsException") (List.mem_of_getElem? (i := 1) rfl)) (hts (.initialized "java/lang/IndexOutOfBoundsException") (List.mem_of_getElem? (i := 2) rfl)) hsa9 (vx_hat (fun w h => hts w (List.mem_cons_of_mem _ (List.mem_append_right _ h))) kB_221 (kXB_ok hXX (by decide +kernel))) kG_221 (hl.1.trans hml.symm) dX8_requireParrot_10 dX8_requireParrot_13 dX8_requireParrot_14 dX8_requireParrot_16 dX8_requireParrot_19 (Nat.le_of_ble_eq_true rfl) (Nat.le_of_ble_eq_true rfl) (Nat.le_of_ble_eq_true rfl) (Nat.le_of_ble_eq_true rfl) hP hD hS
abbrev rX8_requireFewCalls_x : Room := { frames := 6, cells := 1, slots := 6, locals := 90 }
set_option maxHeartbeats 4000000 in
set_option maxRecDepth 100000 in
theorem cx_X8_requireFewCalls (l : Launch) (D : va_G) (T : Nat → ClassId) (cx : Int32) (hst9 : l.stackTraces = false) (hm : ¬ cx ≤ 99999) : kXM l D T yX8_requireFewCalls wsX8_requireFewCalls rX8_requireFewCalls_x [.int cx] [] "java/lang/IllegalStateException" [] := by
  refine kXM.of (cc := cX8_requireFewCalls) (maxL := 1) (ret := none) (by decide) rfl (Nat.le_of_ble_eq_true rfl) ?_ hst9
  intro p e s m below meth c A Q ls hx hb hml hown hts hC hP hD hS hA hl hXX hZ hthr hout hst8
  have hl : lv_has ls 1 [(0, .int cx)] := hl
  have hP : va_P D vwCl [] s.heap := hP
  have hD : va_D A [] := hD
  refine lv_iload_n hx hb dX8_requireFewCalls_0 rfl (lv_at hl 0 rfl) ?_
  refine lv_ldc (v := 99999) hx hb hown (hts (.constant RX8 222 99999) (List.mem_of_getElem? (i := 3) rfl)) dX8_requireFewCalls_1 ?_
  refine lv_icmp_le (tgt := 16) hx hb dX8_requireFewCalls_3 (by decide) (fun c_x => absurd c_x hm) (fun _ => ?_)
  obtain ⟨sa9, hsa9⟩ := hXX.2.2 (223, "there would be too many calls") (List.mem_of_getElem? (i := 1) rfl)
  exact hthr "java/lang/IllegalStateException" "there would be too many calls" 70 223 74 6 sa9 _ _ _ [] rfl (by decide +kernel) kFit (hts (.classLink RX8 70 "java/lang/IllegalStateException") (List.mem_of_getElem? (i := 1) rfl)) (hts (.initialized "java/lang/IllegalStateException") (List.mem_of_getElem? (i := 2) rfl)) hsa9 (vx_hat (fun w h => hts w (List.mem_cons_of_mem _ (List.mem_append_right _ h))) kB_74 (kXB_ok hXX (by decide +kernel))) kG_74 (hl.1.trans hml.symm) dX8_requireFewCalls_6 dX8_requireFewCalls_9 dX8_requireFewCalls_10 dX8_requireFewCalls_12 dX8_requireFewCalls_15 (Nat.le_of_ble_eq_true rfl) (Nat.le_of_ble_eq_true rfl) (Nat.le_of_ble_eq_true rfl) (Nat.le_of_ble_eq_true rfl) hP hD hS
abbrev rX8_requirePermille_x : Room := { frames := 6, cells := 1, slots := 6, locals := 90 }
set_option maxHeartbeats 4000000 in
set_option maxRecDepth 100000 in
theorem cx_X8_requirePermille_lo (l : Launch) (D : va_G) (T : Nat → ClassId) (px : Int32) (hst9 : l.stackTraces = false) (hneg : px < 0) : kXM l D T yX8_requirePermille wsX8_requirePermille rX8_requirePermille_x [.int px] [] "java/lang/IllegalArgumentException" [] := by
  refine kXM.of (cc := cX8_requirePermille) (maxL := 1) (ret := none) (by decide) rfl (Nat.le_of_ble_eq_true rfl) ?_ hst9
  intro p e s m below meth c A Q ls hx hb hml hown hts hC hP hD hS hA hl hXX hZ hthr hout hst8
  have hl : lv_has ls 1 [(0, .int px)] := hl
  have hP : va_P D vwCl [] s.heap := hP
  have hD : va_D A [] := hD
  refine lv_iload_n hx hb dX8_requirePermille_0 rfl (lv_at hl 0 rfl) ?_
  refine lv_if_lt (tgt := 11) hx hb dX8_requirePermille_1 (by decide) (fun _ => ?_) (fun c_x => absurd hneg c_x)
  obtain ⟨sa9, hsa9⟩ := hXX.2.2 (225, "permille is out of range") (List.mem_of_getElem? (i := 2) rfl)
  exact hthr "java/lang/IllegalArgumentException" "permille is out of range" 88 225 92 11 sa9 _ _ _ [] rfl (by decide +kernel) kFit (hts (.classLink RX8 88 "java/lang/IllegalArgumentException") (List.mem_of_getElem? (i := 1) rfl)) (hts (.initialized "java/lang/IllegalArgumentException") (List.mem_of_getElem? (i := 2) rfl)) hsa9 (vx_hat (fun w h => hts w (List.mem_cons_of_mem _ (List.mem_append_right _ h))) kB_92 (kXB_ok hXX (by decide +kernel))) kG_92 (hl.1.trans hml.symm) dX8_requirePermille_11 dX8_requirePermille_14 dX8_requirePermille_15 dX8_requirePermille_17 dX8_requirePermille_20 (Nat.le_of_ble_eq_true rfl) (Nat.le_of_ble_eq_true rfl) (Nat.le_of_ble_eq_true rfl) (Nat.le_of_ble_eq_true rfl) hP hD hS
set_option maxHeartbeats 4000000 in
set_option maxRecDepth 100000 in
theorem cx_X8_requirePermille_hi (l : Launch) (D : va_G) (T : Nat → ClassId) (px : Int32) (hst9 : l.stackTraces = false) (hpos : ¬ px < 0) (hbig : ¬ px ≤ 1000) : kXM l D T yX8_requirePermille wsX8_requirePermille rX8_requirePermille_x [.int px] [] "java/lang/IllegalArgumentException" [] := by
  refine kXM.of (cc := cX8_requirePermille) (maxL := 1) (ret := none) (by decide) rfl (Nat.le_of_ble_eq_true rfl) ?_ hst9
  intro p e s m below meth c A Q ls hx hb hml hown hts hC hP hD hS hA hl hXX hZ hthr hout hst8
  have hl : lv_has ls 1 [(0, .int px)] := hl
  have hP : va_P D vwCl [] s.heap := hP
  have hD : va_D A [] := hD
  refine lv_iload_n hx hb dX8_requirePermille_0 rfl (lv_at hl 0 rfl) ?_
  refine lv_if_lt (tgt := 11) hx hb dX8_requirePermille_1 (by decide) (fun c_x => absurd c_x hpos) (fun _ => ?_)
  refine lv_iload_n hx hb dX8_requirePermille_4 rfl (lv_at hl 0 rfl) ?_
  refine lv_sipush (v := 1000) hx hb dX8_requirePermille_5 (by decide) ?_
  refine lv_icmp_le (tgt := 21) hx hb dX8_requirePermille_8 (by decide) (fun c_x => absurd c_x hbig) (fun _ => ?_)
  obtain ⟨sa9, hsa9⟩ := hXX.2.2 (225, "permille is out of range") (List.mem_of_getElem? (i := 2) rfl)
  exact hthr "java/lang/IllegalArgumentException" "permille is out of range" 88 225 92 11 sa9 _ _ _ [] rfl (by decide +kernel) kFit (hts (.classLink RX8 88 "java/lang/IllegalArgumentException") (List.mem_of_getElem? (i := 1) rfl)) (hts (.initialized "java/lang/IllegalArgumentException") (List.mem_of_getElem? (i := 2) rfl)) hsa9 (vx_hat (fun w h => hts w (List.mem_cons_of_mem _ (List.mem_append_right _ h))) kB_92 (kXB_ok hXX (by decide +kernel))) kG_92 (hl.1.trans hml.symm) dX8_requirePermille_11 dX8_requirePermille_14 dX8_requirePermille_15 dX8_requirePermille_17 dX8_requirePermille_20 (Nat.le_of_ble_eq_true rfl) (Nat.le_of_ble_eq_true rfl) (Nat.le_of_ble_eq_true rfl) (Nat.le_of_ble_eq_true rfl) hP hD hS
abbrev rX8_requireSong_x : Room := { frames := 6, cells := 1, slots := 6, locals := 103 }
set_option maxHeartbeats 4000000 in
set_option maxRecDepth 100000 in
theorem cx_X8_requireSong (l : Launch) (D : va_G) (T : Nat → ClassId) (po vs ho so xc ro xu lc : Nat) (uc : Int32) (tc : Nat → Int32) (nu ti : Int32) (ip hp : Bool) (ca : Int32) (hst9 : l.stackTraces = false) (hlc : lc ≤ 60) (hns : song tc lc = false) : kXM l D T yX8_requireSong wsX8_requireSong rX8_requireSong_x [.ref po] [oPC po vs ho so, oSo so xc ro xu (nI lc) uc, aC T xc 60 tc, oRe ro nu ti (bI ip) (bI hp) ca] "java/lang/IllegalArgumentException" [oPC po vs ho so, oSo so xc ro xu (nI lc) uc, aC T xc 60 tc, oRe ro (rdF tc (rlN tc lc 0)).1 (rdF tc (rlN tc lc 0)).2.1 (bI (rdF tc (rlN tc lc 0)).2.2.1) (bI (rdF tc (rlN tc lc 0)).2.2.2.1) (rdF tc (rlN tc lc 0)).2.2.2.2] := by
  refine kXM.of (cc := cX8_requireSong) (maxL := 1) (ret := some .int) (by decide) rfl (Nat.le_of_ble_eq_true rfl) ?_ hst9
  intro p e s m below meth c A Q ls hx hb hml hown hts hC hP hD hS hA hl hXX hZ hthr hout hst8
  have iX8 : ∀ w ∈ wsX80, w ∈ wsX8_requireSong := (fun _ h => List.mem_cons_of_mem _ (List.mem_append_left _ (List.mem_append_left _ (List.mem_append_left _ (List.mem_append_right _ h)))))
  have hl : lv_has ls 1 [(0, .ref po)] := hl
  have hP : va_P D vwCl [oPC po vs ho so, oSo so xc ro xu (nI lc) uc, aC T xc 60 tc, oRe ro nu ti (bI ip) (bI hp) ca] s.heap := hP
  have hD : va_D A [oPC po vs ho so, oSo so xc ro xu (nI lc) uc, aC T xc 60 tc, oRe ro nu ti (bI ip) (bI hp) ca] := hD
  refine lv_aload_n hx hb dX8_requireSong_0 rfl (lv_at hl 0 rfl) ?_
  refine va_get (D := D) (ci := 7) (v := .ref so) (C := RX8) (T := TX8) (N := 3) hx hb hts iX8 hown hC.1 hP 0 rfl rfl 2 (by decide) (hts (.fieldLink RX8 26 "ParrotCounts" "text" "LParrotCounts$SongText;") (List.mem_of_getElem? (i := 3) rfl)) (fun _ h => h) rfl dX8_requireSong_1 ?_
  have hP := hP.sub (ws' := [oSo so xc ro xu (nI lc) uc, aC T xc 60 tc, oRe ro nu ti (bI ip) (bI hp) ca] ++ [oPC po vs ho so]) [1, 2, 3, 0] rfl
  have hD := hD.sub (ws' := [oSo so xc ro xu (nI lc) uc, aC T xc 60 tc, oRe ro nu ti (bI ip) (bI hp) ca] ++ [oPC po vs ho so]) [1, 2, 3, 0] (by decide) rfl
  refine kV (ci := 5) (As := []) (rest := []) ⟨hx, hb, hml, hown, hts⟩ (c_X6_isSong l D T so xc ro xu lc uc tc nu ti ip hp ca (by first | omega | assumption)) (cwV 0 hts gX8_requireSong_X6_isSong rfl rfl rfl (by decide +kernel) ⟨Nat.le_of_ble_eq_true rfl, Nat.le_of_ble_eq_true rfl⟩) hC hP hD hS hA rfl rfl rfl hl.1 rfl (Nat.le_of_ble_eq_true rfl) dX8_requireSong_4 ⟨Nat.zero_le _, Nat.zero_le _⟩ (fun H locs hP hD hS => ?_)
  have hP := hP.sub (ws' := [oPC po vs ho so, oSo so xc ro xu (nI lc) uc, aC T xc 60 tc, oRe ro (rdF tc (rlN tc lc 0)).1 (rdF tc (rlN tc lc 0)).2.1 (bI (rdF tc (rlN tc lc 0)).2.2.1) (bI (rdF tc (rlN tc lc 0)).2.2.2.1) (rdF tc (rlN tc lc 0)).2.2.2.2]) [3, 0, 1, 2] rfl
  have hD := hD.sub (ws' := [oPC po vs ho so, oSo so xc ro xu (nI lc) uc, aC T xc 60 tc, oRe ro (rdF tc (rlN tc lc 0)).1 (rdF tc (rlN tc lc 0)).2.1 (bI (rdF tc (rlN tc lc 0)).2.2.1) (bI (rdF tc (rlN tc lc 0)).2.2.2.1) (rdF tc (rlN tc lc 0)).2.2.2.2]) [3, 0, 1, 2] (by decide) rfl
  refine W.eq (g2 := F0 m 7 ls [.int (bI (song tc lc))]) rfl ?_
  refine lv_if_ne (tgt := 20) hx hb dX8_requireSong_7 (by decide) (fun c_x => absurd (by rw [hns]; rfl) c_x) (fun _ => ?_)
  obtain ⟨sa9, hsa9⟩ := hXX.2.2 (227, "the text is not a song") (List.mem_of_getElem? (i := 3) rfl)
  exact hthr "java/lang/IllegalArgumentException" "the text is not a song" 88 227 92 10 sa9 _ _ _ [] rfl (by decide +kernel) kFit (hts (.classLink RX8 88 "java/lang/IllegalArgumentException") (List.mem_of_getElem? (i := 1) rfl)) (hts (.initialized "java/lang/IllegalArgumentException") (List.mem_of_getElem? (i := 2) rfl)) hsa9 (vx_hat (fun w h => hts w (List.mem_cons_of_mem _ (List.mem_append_right _ h))) kB_92 (kXB_ok hXX (by decide +kernel))) kG_92 (hl.1.trans hml.symm) dX8_requireSong_10 dX8_requireSong_13 dX8_requireSong_14 dX8_requireSong_16 dX8_requireSong_19 (Nat.le_of_ble_eq_true rfl) (Nat.le_of_ble_eq_true rfl) (Nat.le_of_ble_eq_true rfl) (Nat.le_of_ble_eq_true rfl) hP hD hS
abbrev rX8_hear_x : Room := { frames := 7, cells := 1, slots := 6, locals := 110 }
set_option maxHeartbeats 4000000 in
set_option maxRecDepth 100000 in
theorem cx_X8_hear_lo (l : Launch) (D : va_G) (T : Nat → ClassId) (po vs ho so : Nat) (px : Int32) (hst9 : l.stackTraces = false) (hneg : px < 0) : kXM l D T yX8_hear wsX8_hear rX8_hear_x [.ref po, .int px] [oPC po vs ho so] "java/lang/IndexOutOfBoundsException" [oPC po vs ho so] := by
  refine kXM.of (cc := cX8_hear) (maxL := 2) (ret := some .int) (by decide) rfl (Nat.le_of_ble_eq_true rfl) ?_ hst9
  intro p e s m below meth c A Q ls hx hb hml hown hts hC hP hD hS hA hl hXX hZ hthr hout hst8
  have hl : lv_has ls 2 [(0, .ref po), (1, .int px)] := hl
  have hP : va_P D vwCl [oPC po vs ho so] s.heap := hP
  have hD : va_D A [oPC po vs ho so] := hD
  refine lv_iload_n hx hb dX8_hear_0 rfl (lv_at hl 1 rfl) ?_
  have hP := hP.sub (ws' := [] ++ [oPC po vs ho so]) [0] rfl
  have hD := hD.sub (ws' := [] ++ [oPC po vs ho so]) [0] (by decide) rfl
  refine kxS (As := [.int px]) (rest := []) ⟨hx, hb, hml, hown, hts⟩ (cx_X8_requireParrot_lo l D T px hst9 (by first | omega | assumption)) (va_cwS 1 hts gX8_hear_X8_requireParrot rfl rfl rfl (by decide +kernel) ⟨Nat.le_of_ble_eq_true rfl, Nat.le_of_ble_eq_true rfl⟩) hC hXX hZ hP hD hS hA rfl hl.1 rfl (Nat.le_of_ble_eq_true rfl) dX8_hear_1 ⟨Nat.le_of_ble_eq_true rfl, Nat.le_of_ble_eq_true rfl⟩ (fun H locs q ce hP hD hS h1 h2 h3 => ?_)
  have hP : va_P D vwCl [oPC po vs ho so] H := hP
  have hD : va_D A [oPC po vs ho so] := hD
  exact hout _ _ _ _ _ _ _ _ _ hP hD hS h1 h2 h3 (Nat.le_refl _) (Nat.le_refl _)
set_option maxHeartbeats 4000000 in
set_option maxRecDepth 100000 in
theorem cx_X8_hear_hi (l : Launch) (D : va_G) (T : Nat → ClassId) (po vs ho so : Nat) (px : Int32) (hst9 : l.stackTraces = false) (hpos : ¬ px < 0) (hbig : 26 ≤ px) : kXM l D T yX8_hear wsX8_hear rX8_hear_x [.ref po, .int px] [oPC po vs ho so] "java/lang/IndexOutOfBoundsException" [oPC po vs ho so] := by
  refine kXM.of (cc := cX8_hear) (maxL := 2) (ret := some .int) (by decide) rfl (Nat.le_of_ble_eq_true rfl) ?_ hst9
  intro p e s m below meth c A Q ls hx hb hml hown hts hC hP hD hS hA hl hXX hZ hthr hout hst8
  have hl : lv_has ls 2 [(0, .ref po), (1, .int px)] := hl
  have hP : va_P D vwCl [oPC po vs ho so] s.heap := hP
  have hD : va_D A [oPC po vs ho so] := hD
  refine lv_iload_n hx hb dX8_hear_0 rfl (lv_at hl 1 rfl) ?_
  have hP := hP.sub (ws' := [] ++ [oPC po vs ho so]) [0] rfl
  have hD := hD.sub (ws' := [] ++ [oPC po vs ho so]) [0] (by decide) rfl
  refine kxS (As := [.int px]) (rest := []) ⟨hx, hb, hml, hown, hts⟩ (cx_X8_requireParrot_hi l D T px hst9 (by first | omega | assumption) (by first | omega | assumption)) (va_cwS 1 hts gX8_hear_X8_requireParrot rfl rfl rfl (by decide +kernel) ⟨Nat.le_of_ble_eq_true rfl, Nat.le_of_ble_eq_true rfl⟩) hC hXX hZ hP hD hS hA rfl hl.1 rfl (Nat.le_of_ble_eq_true rfl) dX8_hear_1 ⟨Nat.le_of_ble_eq_true rfl, Nat.le_of_ble_eq_true rfl⟩ (fun H locs q ce hP hD hS h1 h2 h3 => ?_)
  have hP : va_P D vwCl [oPC po vs ho so] H := hP
  have hD : va_D A [oPC po vs ho so] := hD
  exact hout _ _ _ _ _ _ _ _ _ hP hD hS h1 h2 h3 (Nat.le_refl _) (Nat.le_refl _)
abbrev rX8_estimate_x : Room := { frames := 7, cells := 1, slots := 6, locals := 110 }
set_option maxHeartbeats 4000000 in
set_option maxRecDepth 100000 in
theorem cx_X8_estimate_lo (l : Launch) (D : va_G) (T : Nat → ClassId) (po vs ho so : Nat) (px : Int32) (hst9 : l.stackTraces = false) (hneg : px < 0) : kXM l D T yX8_estimate wsX8_estimate rX8_estimate_x [.ref po, .int px] [oPC po vs ho so] "java/lang/IndexOutOfBoundsException" [oPC po vs ho so] := by
  refine kXM.of (cc := cX8_estimate) (maxL := 2) (ret := some .int) (by decide) rfl (Nat.le_of_ble_eq_true rfl) ?_ hst9
  intro p e s m below meth c A Q ls hx hb hml hown hts hC hP hD hS hA hl hXX hZ hthr hout hst8
  have hl : lv_has ls 2 [(0, .ref po), (1, .int px)] := hl
  have hP : va_P D vwCl [oPC po vs ho so] s.heap := hP
  have hD : va_D A [oPC po vs ho so] := hD
  refine lv_iload_n hx hb dX8_estimate_0 rfl (lv_at hl 1 rfl) ?_
  have hP := hP.sub (ws' := [] ++ [oPC po vs ho so]) [0] rfl
  have hD := hD.sub (ws' := [] ++ [oPC po vs ho so]) [0] (by decide) rfl
  refine kxS (As := [.int px]) (rest := []) ⟨hx, hb, hml, hown, hts⟩ (cx_X8_requireParrot_lo l D T px hst9 (by first | omega | assumption)) (va_cwS 1 hts gX8_estimate_X8_requireParrot rfl rfl rfl (by decide +kernel) ⟨Nat.le_of_ble_eq_true rfl, Nat.le_of_ble_eq_true rfl⟩) hC hXX hZ hP hD hS hA rfl hl.1 rfl (Nat.le_of_ble_eq_true rfl) dX8_estimate_1 ⟨Nat.le_of_ble_eq_true rfl, Nat.le_of_ble_eq_true rfl⟩ (fun H locs q ce hP hD hS h1 h2 h3 => ?_)
  have hP : va_P D vwCl [oPC po vs ho so] H := hP
  have hD : va_D A [oPC po vs ho so] := hD
  exact hout _ _ _ _ _ _ _ _ _ hP hD hS h1 h2 h3 (Nat.le_refl _) (Nat.le_refl _)
set_option maxHeartbeats 4000000 in
set_option maxRecDepth 100000 in
theorem cx_X8_estimate_hi (l : Launch) (D : va_G) (T : Nat → ClassId) (po vs ho so : Nat) (px : Int32) (hst9 : l.stackTraces = false) (hpos : ¬ px < 0) (hbig : 26 ≤ px) : kXM l D T yX8_estimate wsX8_estimate rX8_estimate_x [.ref po, .int px] [oPC po vs ho so] "java/lang/IndexOutOfBoundsException" [oPC po vs ho so] := by
  refine kXM.of (cc := cX8_estimate) (maxL := 2) (ret := some .int) (by decide) rfl (Nat.le_of_ble_eq_true rfl) ?_ hst9
  intro p e s m below meth c A Q ls hx hb hml hown hts hC hP hD hS hA hl hXX hZ hthr hout hst8
  have hl : lv_has ls 2 [(0, .ref po), (1, .int px)] := hl
  have hP : va_P D vwCl [oPC po vs ho so] s.heap := hP
  have hD : va_D A [oPC po vs ho so] := hD
  refine lv_iload_n hx hb dX8_estimate_0 rfl (lv_at hl 1 rfl) ?_
  have hP := hP.sub (ws' := [] ++ [oPC po vs ho so]) [0] rfl
  have hD := hD.sub (ws' := [] ++ [oPC po vs ho so]) [0] (by decide) rfl
  refine kxS (As := [.int px]) (rest := []) ⟨hx, hb, hml, hown, hts⟩ (cx_X8_requireParrot_hi l D T px hst9 (by first | omega | assumption) (by first | omega | assumption)) (va_cwS 1 hts gX8_estimate_X8_requireParrot rfl rfl rfl (by decide +kernel) ⟨Nat.le_of_ble_eq_true rfl, Nat.le_of_ble_eq_true rfl⟩) hC hXX hZ hP hD hS hA rfl hl.1 rfl (Nat.le_of_ble_eq_true rfl) dX8_estimate_1 ⟨Nat.le_of_ble_eq_true rfl, Nat.le_of_ble_eq_true rfl⟩ (fun H locs q ce hP hD hS h1 h2 h3 => ?_)
  have hP : va_P D vwCl [oPC po vs ho so] H := hP
  have hD : va_D A [oPC po vs ho so] := hD
  exact hout _ _ _ _ _ _ _ _ _ hP hD hS h1 h2 h3 (Nat.le_refl _) (Nat.le_refl _)
abbrev rX8_sureCount_x : Room := { frames := 7, cells := 1, slots := 6, locals := 110 }
set_option maxHeartbeats 4000000 in
set_option maxRecDepth 100000 in
theorem cx_X8_sureCount_lo (l : Launch) (D : va_G) (T : Nat → ClassId) (po vs ho so : Nat) (px : Int32) (hst9 : l.stackTraces = false) (hneg : px < 0) : kXM l D T yX8_sureCount wsX8_sureCount rX8_sureCount_x [.ref po, .int px] [oPC po vs ho so] "java/lang/IndexOutOfBoundsException" [oPC po vs ho so] := by
  refine kXM.of (cc := cX8_sureCount) (maxL := 2) (ret := some .int) (by decide) rfl (Nat.le_of_ble_eq_true rfl) ?_ hst9
  intro p e s m below meth c A Q ls hx hb hml hown hts hC hP hD hS hA hl hXX hZ hthr hout hst8
  have hl : lv_has ls 2 [(0, .ref po), (1, .int px)] := hl
  have hP : va_P D vwCl [oPC po vs ho so] s.heap := hP
  have hD : va_D A [oPC po vs ho so] := hD
  refine lv_iload_n hx hb dX8_sureCount_0 rfl (lv_at hl 1 rfl) ?_
  have hP := hP.sub (ws' := [] ++ [oPC po vs ho so]) [0] rfl
  have hD := hD.sub (ws' := [] ++ [oPC po vs ho so]) [0] (by decide) rfl
  refine kxS (As := [.int px]) (rest := []) ⟨hx, hb, hml, hown, hts⟩ (cx_X8_requireParrot_lo l D T px hst9 (by first | omega | assumption)) (va_cwS 1 hts gX8_sureCount_X8_requireParrot rfl rfl rfl (by decide +kernel) ⟨Nat.le_of_ble_eq_true rfl, Nat.le_of_ble_eq_true rfl⟩) hC hXX hZ hP hD hS hA rfl hl.1 rfl (Nat.le_of_ble_eq_true rfl) dX8_sureCount_1 ⟨Nat.le_of_ble_eq_true rfl, Nat.le_of_ble_eq_true rfl⟩ (fun H locs q ce hP hD hS h1 h2 h3 => ?_)
  have hP : va_P D vwCl [oPC po vs ho so] H := hP
  have hD : va_D A [oPC po vs ho so] := hD
  exact hout _ _ _ _ _ _ _ _ _ hP hD hS h1 h2 h3 (Nat.le_refl _) (Nat.le_refl _)
set_option maxHeartbeats 4000000 in
set_option maxRecDepth 100000 in
theorem cx_X8_sureCount_hi (l : Launch) (D : va_G) (T : Nat → ClassId) (po vs ho so : Nat) (px : Int32) (hst9 : l.stackTraces = false) (hpos : ¬ px < 0) (hbig : 26 ≤ px) : kXM l D T yX8_sureCount wsX8_sureCount rX8_sureCount_x [.ref po, .int px] [oPC po vs ho so] "java/lang/IndexOutOfBoundsException" [oPC po vs ho so] := by
  refine kXM.of (cc := cX8_sureCount) (maxL := 2) (ret := some .int) (by decide) rfl (Nat.le_of_ble_eq_true rfl) ?_ hst9
  intro p e s m below meth c A Q ls hx hb hml hown hts hC hP hD hS hA hl hXX hZ hthr hout hst8
  have hl : lv_has ls 2 [(0, .ref po), (1, .int px)] := hl
  have hP : va_P D vwCl [oPC po vs ho so] s.heap := hP
  have hD : va_D A [oPC po vs ho so] := hD
  refine lv_iload_n hx hb dX8_sureCount_0 rfl (lv_at hl 1 rfl) ?_
  have hP := hP.sub (ws' := [] ++ [oPC po vs ho so]) [0] rfl
  have hD := hD.sub (ws' := [] ++ [oPC po vs ho so]) [0] (by decide) rfl
  refine kxS (As := [.int px]) (rest := []) ⟨hx, hb, hml, hown, hts⟩ (cx_X8_requireParrot_hi l D T px hst9 (by first | omega | assumption) (by first | omega | assumption)) (va_cwS 1 hts gX8_sureCount_X8_requireParrot rfl rfl rfl (by decide +kernel) ⟨Nat.le_of_ble_eq_true rfl, Nat.le_of_ble_eq_true rfl⟩) hC hXX hZ hP hD hS hA rfl hl.1 rfl (Nat.le_of_ble_eq_true rfl) dX8_sureCount_1 ⟨Nat.le_of_ble_eq_true rfl, Nat.le_of_ble_eq_true rfl⟩ (fun H locs q ce hP hD hS h1 h2 h3 => ?_)
  have hP : va_P D vwCl [oPC po vs ho so] H := hP
  have hD : va_D A [oPC po vs ho so] := hD
  exact hout _ _ _ _ _ _ _ _ _ hP hD hS h1 h2 h3 (Nat.le_refl _) (Nat.le_refl _)
abbrev rX8_surplus_x : Room := { frames := 7, cells := 1, slots := 6, locals := 110 }
set_option maxHeartbeats 4000000 in
set_option maxRecDepth 100000 in
theorem cx_X8_surplus_lo (l : Launch) (D : va_G) (T : Nat → ClassId) (po vs ho so : Nat) (px : Int32) (hst9 : l.stackTraces = false) (hneg : px < 0) : kXM l D T yX8_surplus wsX8_surplus rX8_surplus_x [.ref po, .int px] [oPC po vs ho so] "java/lang/IndexOutOfBoundsException" [oPC po vs ho so] := by
  refine kXM.of (cc := cX8_surplus) (maxL := 2) (ret := some .int) (by decide) rfl (Nat.le_of_ble_eq_true rfl) ?_ hst9
  intro p e s m below meth c A Q ls hx hb hml hown hts hC hP hD hS hA hl hXX hZ hthr hout hst8
  have hl : lv_has ls 2 [(0, .ref po), (1, .int px)] := hl
  have hP : va_P D vwCl [oPC po vs ho so] s.heap := hP
  have hD : va_D A [oPC po vs ho so] := hD
  refine lv_iload_n hx hb dX8_surplus_0 rfl (lv_at hl 1 rfl) ?_
  have hP := hP.sub (ws' := [] ++ [oPC po vs ho so]) [0] rfl
  have hD := hD.sub (ws' := [] ++ [oPC po vs ho so]) [0] (by decide) rfl
  refine kxS (As := [.int px]) (rest := []) ⟨hx, hb, hml, hown, hts⟩ (cx_X8_requireParrot_lo l D T px hst9 (by first | omega | assumption)) (va_cwS 1 hts gX8_surplus_X8_requireParrot rfl rfl rfl (by decide +kernel) ⟨Nat.le_of_ble_eq_true rfl, Nat.le_of_ble_eq_true rfl⟩) hC hXX hZ hP hD hS hA rfl hl.1 rfl (Nat.le_of_ble_eq_true rfl) dX8_surplus_1 ⟨Nat.le_of_ble_eq_true rfl, Nat.le_of_ble_eq_true rfl⟩ (fun H locs q ce hP hD hS h1 h2 h3 => ?_)
  have hP : va_P D vwCl [oPC po vs ho so] H := hP
  have hD : va_D A [oPC po vs ho so] := hD
  exact hout _ _ _ _ _ _ _ _ _ hP hD hS h1 h2 h3 (Nat.le_refl _) (Nat.le_refl _)
set_option maxHeartbeats 4000000 in
set_option maxRecDepth 100000 in
theorem cx_X8_surplus_hi (l : Launch) (D : va_G) (T : Nat → ClassId) (po vs ho so : Nat) (px : Int32) (hst9 : l.stackTraces = false) (hpos : ¬ px < 0) (hbig : 26 ≤ px) : kXM l D T yX8_surplus wsX8_surplus rX8_surplus_x [.ref po, .int px] [oPC po vs ho so] "java/lang/IndexOutOfBoundsException" [oPC po vs ho so] := by
  refine kXM.of (cc := cX8_surplus) (maxL := 2) (ret := some .int) (by decide) rfl (Nat.le_of_ble_eq_true rfl) ?_ hst9
  intro p e s m below meth c A Q ls hx hb hml hown hts hC hP hD hS hA hl hXX hZ hthr hout hst8
  have hl : lv_has ls 2 [(0, .ref po), (1, .int px)] := hl
  have hP : va_P D vwCl [oPC po vs ho so] s.heap := hP
  have hD : va_D A [oPC po vs ho so] := hD
  refine lv_iload_n hx hb dX8_surplus_0 rfl (lv_at hl 1 rfl) ?_
  have hP := hP.sub (ws' := [] ++ [oPC po vs ho so]) [0] rfl
  have hD := hD.sub (ws' := [] ++ [oPC po vs ho so]) [0] (by decide) rfl
  refine kxS (As := [.int px]) (rest := []) ⟨hx, hb, hml, hown, hts⟩ (cx_X8_requireParrot_hi l D T px hst9 (by first | omega | assumption) (by first | omega | assumption)) (va_cwS 1 hts gX8_surplus_X8_requireParrot rfl rfl rfl (by decide +kernel) ⟨Nat.le_of_ble_eq_true rfl, Nat.le_of_ble_eq_true rfl⟩) hC hXX hZ hP hD hS hA rfl hl.1 rfl (Nat.le_of_ble_eq_true rfl) dX8_surplus_1 ⟨Nat.le_of_ble_eq_true rfl, Nat.le_of_ble_eq_true rfl⟩ (fun H locs q ce hP hD hS h1 h2 h3 => ?_)
  have hP : va_P D vwCl [oPC po vs ho so] H := hP
  have hD : va_D A [oPC po vs ho so] := hD
  exact hout _ _ _ _ _ _ _ _ _ hP hD hS h1 h2 h3 (Nat.le_refl _) (Nat.le_refl _)
abbrev rX8_wornCount_x : Room := { frames := 7, cells := 1, slots := 6, locals := 110 }
set_option maxHeartbeats 4000000 in
set_option maxRecDepth 100000 in
theorem cx_X8_wornCount_lo (l : Launch) (D : va_G) (T : Nat → ClassId) (po vs ho so : Nat) (px : Int32) (hst9 : l.stackTraces = false) (hneg : px < 0) : kXM l D T yX8_wornCount wsX8_wornCount rX8_wornCount_x [.ref po, .int px] [oPC po vs ho so] "java/lang/IndexOutOfBoundsException" [oPC po vs ho so] := by
  refine kXM.of (cc := cX8_wornCount) (maxL := 2) (ret := some .int) (by decide) rfl (Nat.le_of_ble_eq_true rfl) ?_ hst9
  intro p e s m below meth c A Q ls hx hb hml hown hts hC hP hD hS hA hl hXX hZ hthr hout hst8
  have hl : lv_has ls 2 [(0, .ref po), (1, .int px)] := hl
  have hP : va_P D vwCl [oPC po vs ho so] s.heap := hP
  have hD : va_D A [oPC po vs ho so] := hD
  refine lv_iload_n hx hb dX8_wornCount_0 rfl (lv_at hl 1 rfl) ?_
  have hP := hP.sub (ws' := [] ++ [oPC po vs ho so]) [0] rfl
  have hD := hD.sub (ws' := [] ++ [oPC po vs ho so]) [0] (by decide) rfl
  refine kxS (As := [.int px]) (rest := []) ⟨hx, hb, hml, hown, hts⟩ (cx_X8_requireParrot_lo l D T px hst9 (by first | omega | assumption)) (va_cwS 1 hts gX8_wornCount_X8_requireParrot rfl rfl rfl (by decide +kernel) ⟨Nat.le_of_ble_eq_true rfl, Nat.le_of_ble_eq_true rfl⟩) hC hXX hZ hP hD hS hA rfl hl.1 rfl (Nat.le_of_ble_eq_true rfl) dX8_wornCount_1 ⟨Nat.le_of_ble_eq_true rfl, Nat.le_of_ble_eq_true rfl⟩ (fun H locs q ce hP hD hS h1 h2 h3 => ?_)
  have hP : va_P D vwCl [oPC po vs ho so] H := hP
  have hD : va_D A [oPC po vs ho so] := hD
  exact hout _ _ _ _ _ _ _ _ _ hP hD hS h1 h2 h3 (Nat.le_refl _) (Nat.le_refl _)
set_option maxHeartbeats 4000000 in
set_option maxRecDepth 100000 in
theorem cx_X8_wornCount_hi (l : Launch) (D : va_G) (T : Nat → ClassId) (po vs ho so : Nat) (px : Int32) (hst9 : l.stackTraces = false) (hpos : ¬ px < 0) (hbig : 26 ≤ px) : kXM l D T yX8_wornCount wsX8_wornCount rX8_wornCount_x [.ref po, .int px] [oPC po vs ho so] "java/lang/IndexOutOfBoundsException" [oPC po vs ho so] := by
  refine kXM.of (cc := cX8_wornCount) (maxL := 2) (ret := some .int) (by decide) rfl (Nat.le_of_ble_eq_true rfl) ?_ hst9
  intro p e s m below meth c A Q ls hx hb hml hown hts hC hP hD hS hA hl hXX hZ hthr hout hst8
  have hl : lv_has ls 2 [(0, .ref po), (1, .int px)] := hl
  have hP : va_P D vwCl [oPC po vs ho so] s.heap := hP
  have hD : va_D A [oPC po vs ho so] := hD
  refine lv_iload_n hx hb dX8_wornCount_0 rfl (lv_at hl 1 rfl) ?_
  have hP := hP.sub (ws' := [] ++ [oPC po vs ho so]) [0] rfl
  have hD := hD.sub (ws' := [] ++ [oPC po vs ho so]) [0] (by decide) rfl
  refine kxS (As := [.int px]) (rest := []) ⟨hx, hb, hml, hown, hts⟩ (cx_X8_requireParrot_hi l D T px hst9 (by first | omega | assumption) (by first | omega | assumption)) (va_cwS 1 hts gX8_wornCount_X8_requireParrot rfl rfl rfl (by decide +kernel) ⟨Nat.le_of_ble_eq_true rfl, Nat.le_of_ble_eq_true rfl⟩) hC hXX hZ hP hD hS hA rfl hl.1 rfl (Nat.le_of_ble_eq_true rfl) dX8_wornCount_1 ⟨Nat.le_of_ble_eq_true rfl, Nat.le_of_ble_eq_true rfl⟩ (fun H locs q ce hP hD hS h1 h2 h3 => ?_)
  have hP : va_P D vwCl [oPC po vs ho so] H := hP
  have hD : va_D A [oPC po vs ho so] := hD
  exact hout _ _ _ _ _ _ _ _ _ hP hD hS h1 h2 h3 (Nat.le_refl _) (Nat.le_refl _)
abbrev rX8_aboveFloor_x : Room := { frames := 7, cells := 1, slots := 6, locals := 110 }
set_option maxHeartbeats 4000000 in
set_option maxRecDepth 100000 in
theorem cx_X8_aboveFloor_lo (l : Launch) (D : va_G) (T : Nat → ClassId) (po vs ho so : Nat) (px : Int32) (hst9 : l.stackTraces = false) (hneg : px < 0) : kXM l D T yX8_aboveFloor wsX8_aboveFloor rX8_aboveFloor_x [.ref po, .int px] [oPC po vs ho so] "java/lang/IndexOutOfBoundsException" [oPC po vs ho so] := by
  refine kXM.of (cc := cX8_aboveFloor) (maxL := 2) (ret := some .int) (by decide) rfl (Nat.le_of_ble_eq_true rfl) ?_ hst9
  intro p e s m below meth c A Q ls hx hb hml hown hts hC hP hD hS hA hl hXX hZ hthr hout hst8
  have hl : lv_has ls 2 [(0, .ref po), (1, .int px)] := hl
  have hP : va_P D vwCl [oPC po vs ho so] s.heap := hP
  have hD : va_D A [oPC po vs ho so] := hD
  refine lv_iload_n hx hb dX8_aboveFloor_0 rfl (lv_at hl 1 rfl) ?_
  have hP := hP.sub (ws' := [] ++ [oPC po vs ho so]) [0] rfl
  have hD := hD.sub (ws' := [] ++ [oPC po vs ho so]) [0] (by decide) rfl
  refine kxS (As := [.int px]) (rest := []) ⟨hx, hb, hml, hown, hts⟩ (cx_X8_requireParrot_lo l D T px hst9 (by first | omega | assumption)) (va_cwS 1 hts gX8_aboveFloor_X8_requireParrot rfl rfl rfl (by decide +kernel) ⟨Nat.le_of_ble_eq_true rfl, Nat.le_of_ble_eq_true rfl⟩) hC hXX hZ hP hD hS hA rfl hl.1 rfl (Nat.le_of_ble_eq_true rfl) dX8_aboveFloor_1 ⟨Nat.le_of_ble_eq_true rfl, Nat.le_of_ble_eq_true rfl⟩ (fun H locs q ce hP hD hS h1 h2 h3 => ?_)
  have hP : va_P D vwCl [oPC po vs ho so] H := hP
  have hD : va_D A [oPC po vs ho so] := hD
  exact hout _ _ _ _ _ _ _ _ _ hP hD hS h1 h2 h3 (Nat.le_refl _) (Nat.le_refl _)
set_option maxHeartbeats 4000000 in
set_option maxRecDepth 100000 in
theorem cx_X8_aboveFloor_hi (l : Launch) (D : va_G) (T : Nat → ClassId) (po vs ho so : Nat) (px : Int32) (hst9 : l.stackTraces = false) (hpos : ¬ px < 0) (hbig : 26 ≤ px) : kXM l D T yX8_aboveFloor wsX8_aboveFloor rX8_aboveFloor_x [.ref po, .int px] [oPC po vs ho so] "java/lang/IndexOutOfBoundsException" [oPC po vs ho so] := by
  refine kXM.of (cc := cX8_aboveFloor) (maxL := 2) (ret := some .int) (by decide) rfl (Nat.le_of_ble_eq_true rfl) ?_ hst9
  intro p e s m below meth c A Q ls hx hb hml hown hts hC hP hD hS hA hl hXX hZ hthr hout hst8
  have hl : lv_has ls 2 [(0, .ref po), (1, .int px)] := hl
  have hP : va_P D vwCl [oPC po vs ho so] s.heap := hP
  have hD : va_D A [oPC po vs ho so] := hD
  refine lv_iload_n hx hb dX8_aboveFloor_0 rfl (lv_at hl 1 rfl) ?_
  have hP := hP.sub (ws' := [] ++ [oPC po vs ho so]) [0] rfl
  have hD := hD.sub (ws' := [] ++ [oPC po vs ho so]) [0] (by decide) rfl
  refine kxS (As := [.int px]) (rest := []) ⟨hx, hb, hml, hown, hts⟩ (cx_X8_requireParrot_hi l D T px hst9 (by first | omega | assumption) (by first | omega | assumption)) (va_cwS 1 hts gX8_aboveFloor_X8_requireParrot rfl rfl rfl (by decide +kernel) ⟨Nat.le_of_ble_eq_true rfl, Nat.le_of_ble_eq_true rfl⟩) hC hXX hZ hP hD hS hA rfl hl.1 rfl (Nat.le_of_ble_eq_true rfl) dX8_aboveFloor_1 ⟨Nat.le_of_ble_eq_true rfl, Nat.le_of_ble_eq_true rfl⟩ (fun H locs q ce hP hD hS h1 h2 h3 => ?_)
  have hP : va_P D vwCl [oPC po vs ho so] H := hP
  have hD : va_D A [oPC po vs ho so] := hD
  exact hout _ _ _ _ _ _ _ _ _ hP hD hS h1 h2 h3 (Nat.le_refl _) (Nat.le_refl _)
abbrev rX8_trueCount_x : Room := { frames := 7, cells := 1, slots := 6, locals := 110 }
set_option maxHeartbeats 4000000 in
set_option maxRecDepth 100000 in
theorem cx_X8_trueCount_lo (l : Launch) (D : va_G) (T : Nat → ClassId) (po vs ho so : Nat) (px : Int32) (hst9 : l.stackTraces = false) (hneg : px < 0) : kXM l D T yX8_trueCount wsX8_trueCount rX8_trueCount_x [.ref po, .int px] [oPC po vs ho so] "java/lang/IndexOutOfBoundsException" [oPC po vs ho so] := by
  refine kXM.of (cc := cX8_trueCount) (maxL := 2) (ret := some .int) (by decide) rfl (Nat.le_of_ble_eq_true rfl) ?_ hst9
  intro p e s m below meth c A Q ls hx hb hml hown hts hC hP hD hS hA hl hXX hZ hthr hout hst8
  have hl : lv_has ls 2 [(0, .ref po), (1, .int px)] := hl
  have hP : va_P D vwCl [oPC po vs ho so] s.heap := hP
  have hD : va_D A [oPC po vs ho so] := hD
  refine lv_iload_n hx hb dX8_trueCount_0 rfl (lv_at hl 1 rfl) ?_
  have hP := hP.sub (ws' := [] ++ [oPC po vs ho so]) [0] rfl
  have hD := hD.sub (ws' := [] ++ [oPC po vs ho so]) [0] (by decide) rfl
  refine kxS (As := [.int px]) (rest := []) ⟨hx, hb, hml, hown, hts⟩ (cx_X8_requireParrot_lo l D T px hst9 (by first | omega | assumption)) (va_cwS 1 hts gX8_trueCount_X8_requireParrot rfl rfl rfl (by decide +kernel) ⟨Nat.le_of_ble_eq_true rfl, Nat.le_of_ble_eq_true rfl⟩) hC hXX hZ hP hD hS hA rfl hl.1 rfl (Nat.le_of_ble_eq_true rfl) dX8_trueCount_1 ⟨Nat.le_of_ble_eq_true rfl, Nat.le_of_ble_eq_true rfl⟩ (fun H locs q ce hP hD hS h1 h2 h3 => ?_)
  have hP : va_P D vwCl [oPC po vs ho so] H := hP
  have hD : va_D A [oPC po vs ho so] := hD
  exact hout _ _ _ _ _ _ _ _ _ hP hD hS h1 h2 h3 (Nat.le_refl _) (Nat.le_refl _)
set_option maxHeartbeats 4000000 in
set_option maxRecDepth 100000 in
theorem cx_X8_trueCount_hi (l : Launch) (D : va_G) (T : Nat → ClassId) (po vs ho so : Nat) (px : Int32) (hst9 : l.stackTraces = false) (hpos : ¬ px < 0) (hbig : 26 ≤ px) : kXM l D T yX8_trueCount wsX8_trueCount rX8_trueCount_x [.ref po, .int px] [oPC po vs ho so] "java/lang/IndexOutOfBoundsException" [oPC po vs ho so] := by
  refine kXM.of (cc := cX8_trueCount) (maxL := 2) (ret := some .int) (by decide) rfl (Nat.le_of_ble_eq_true rfl) ?_ hst9
  intro p e s m below meth c A Q ls hx hb hml hown hts hC hP hD hS hA hl hXX hZ hthr hout hst8
  have hl : lv_has ls 2 [(0, .ref po), (1, .int px)] := hl
  have hP : va_P D vwCl [oPC po vs ho so] s.heap := hP
  have hD : va_D A [oPC po vs ho so] := hD
  refine lv_iload_n hx hb dX8_trueCount_0 rfl (lv_at hl 1 rfl) ?_
  have hP := hP.sub (ws' := [] ++ [oPC po vs ho so]) [0] rfl
  have hD := hD.sub (ws' := [] ++ [oPC po vs ho so]) [0] (by decide) rfl
  refine kxS (As := [.int px]) (rest := []) ⟨hx, hb, hml, hown, hts⟩ (cx_X8_requireParrot_hi l D T px hst9 (by first | omega | assumption) (by first | omega | assumption)) (va_cwS 1 hts gX8_trueCount_X8_requireParrot rfl rfl rfl (by decide +kernel) ⟨Nat.le_of_ble_eq_true rfl, Nat.le_of_ble_eq_true rfl⟩) hC hXX hZ hP hD hS hA rfl hl.1 rfl (Nat.le_of_ble_eq_true rfl) dX8_trueCount_1 ⟨Nat.le_of_ble_eq_true rfl, Nat.le_of_ble_eq_true rfl⟩ (fun H locs q ce hP hD hS h1 h2 h3 => ?_)
  have hP : va_P D vwCl [oPC po vs ho so] H := hP
  have hD : va_D A [oPC po vs ho so] := hD
  exact hout _ _ _ _ _ _ _ _ _ hP hD hS h1 h2 h3 (Nat.le_refl _) (Nat.le_refl _)
abbrev rX8_surelyAbove_x : Room := { frames := 7, cells := 1, slots := 6, locals := 110 }
set_option maxHeartbeats 4000000 in
set_option maxRecDepth 100000 in
theorem cx_X8_surelyAbove_lo (l : Launch) (D : va_G) (T : Nat → ClassId) (po vs ho so : Nat) (px : Int32) (hst9 : l.stackTraces = false) (hneg : px < 0) : kXM l D T yX8_surelyAbove wsX8_surelyAbove rX8_surelyAbove_x [.ref po, .int px] [oPC po vs ho so] "java/lang/IllegalArgumentException" [oPC po vs ho so] := by
  refine kXM.of (cc := cX8_surelyAbove) (maxL := 2) (ret := some .int) (by decide) rfl (Nat.le_of_ble_eq_true rfl) ?_ hst9
  intro p e s m below meth c A Q ls hx hb hml hown hts hC hP hD hS hA hl hXX hZ hthr hout hst8
  have hl : lv_has ls 2 [(0, .ref po), (1, .int px)] := hl
  have hP : va_P D vwCl [oPC po vs ho so] s.heap := hP
  have hD : va_D A [oPC po vs ho so] := hD
  refine lv_iload_n hx hb dX8_surelyAbove_0 rfl (lv_at hl 1 rfl) ?_
  have hP := hP.sub (ws' := [] ++ [oPC po vs ho so]) [0] rfl
  have hD := hD.sub (ws' := [] ++ [oPC po vs ho so]) [0] (by decide) rfl
  refine kxS (As := [.int px]) (rest := []) ⟨hx, hb, hml, hown, hts⟩ (cx_X8_requirePermille_lo l D T px hst9 (by first | omega | assumption)) (va_cwS 1 hts gX8_surelyAbove_X8_requirePermille rfl rfl rfl (by decide +kernel) ⟨Nat.le_of_ble_eq_true rfl, Nat.le_of_ble_eq_true rfl⟩) hC hXX hZ hP hD hS hA rfl hl.1 rfl (Nat.le_of_ble_eq_true rfl) dX8_surelyAbove_1 ⟨Nat.le_of_ble_eq_true rfl, Nat.le_of_ble_eq_true rfl⟩ (fun H locs q ce hP hD hS h1 h2 h3 => ?_)
  have hP : va_P D vwCl [oPC po vs ho so] H := hP
  have hD : va_D A [oPC po vs ho so] := hD
  exact hout _ _ _ _ _ _ _ _ _ hP hD hS h1 h2 h3 (Nat.le_refl _) (Nat.le_refl _)
set_option maxHeartbeats 4000000 in
set_option maxRecDepth 100000 in
theorem cx_X8_surelyAbove_hi (l : Launch) (D : va_G) (T : Nat → ClassId) (po vs ho so : Nat) (px : Int32) (hst9 : l.stackTraces = false) (hpos : ¬ px < 0) (hbig : ¬ px ≤ 1000) : kXM l D T yX8_surelyAbove wsX8_surelyAbove rX8_surelyAbove_x [.ref po, .int px] [oPC po vs ho so] "java/lang/IllegalArgumentException" [oPC po vs ho so] := by
  refine kXM.of (cc := cX8_surelyAbove) (maxL := 2) (ret := some .int) (by decide) rfl (Nat.le_of_ble_eq_true rfl) ?_ hst9
  intro p e s m below meth c A Q ls hx hb hml hown hts hC hP hD hS hA hl hXX hZ hthr hout hst8
  have hl : lv_has ls 2 [(0, .ref po), (1, .int px)] := hl
  have hP : va_P D vwCl [oPC po vs ho so] s.heap := hP
  have hD : va_D A [oPC po vs ho so] := hD
  refine lv_iload_n hx hb dX8_surelyAbove_0 rfl (lv_at hl 1 rfl) ?_
  have hP := hP.sub (ws' := [] ++ [oPC po vs ho so]) [0] rfl
  have hD := hD.sub (ws' := [] ++ [oPC po vs ho so]) [0] (by decide) rfl
  refine kxS (As := [.int px]) (rest := []) ⟨hx, hb, hml, hown, hts⟩ (cx_X8_requirePermille_hi l D T px hst9 (by first | omega | assumption) (by first | omega | assumption)) (va_cwS 1 hts gX8_surelyAbove_X8_requirePermille rfl rfl rfl (by decide +kernel) ⟨Nat.le_of_ble_eq_true rfl, Nat.le_of_ble_eq_true rfl⟩) hC hXX hZ hP hD hS hA rfl hl.1 rfl (Nat.le_of_ble_eq_true rfl) dX8_surelyAbove_1 ⟨Nat.le_of_ble_eq_true rfl, Nat.le_of_ble_eq_true rfl⟩ (fun H locs q ce hP hD hS h1 h2 h3 => ?_)
  have hP : va_P D vwCl [oPC po vs ho so] H := hP
  have hD : va_D A [oPC po vs ho so] := hD
  exact hout _ _ _ _ _ _ _ _ _ hP hD hS h1 h2 h3 (Nat.le_refl _) (Nat.le_refl _)
abbrev rX8_perhapsAbove_x : Room := { frames := 7, cells := 1, slots := 6, locals := 110 }
set_option maxHeartbeats 4000000 in
set_option maxRecDepth 100000 in
theorem cx_X8_perhapsAbove_lo (l : Launch) (D : va_G) (T : Nat → ClassId) (po vs ho so : Nat) (px : Int32) (hst9 : l.stackTraces = false) (hneg : px < 0) : kXM l D T yX8_perhapsAbove wsX8_perhapsAbove rX8_perhapsAbove_x [.ref po, .int px] [oPC po vs ho so] "java/lang/IllegalArgumentException" [oPC po vs ho so] := by
  refine kXM.of (cc := cX8_perhapsAbove) (maxL := 2) (ret := some .int) (by decide) rfl (Nat.le_of_ble_eq_true rfl) ?_ hst9
  intro p e s m below meth c A Q ls hx hb hml hown hts hC hP hD hS hA hl hXX hZ hthr hout hst8
  have hl : lv_has ls 2 [(0, .ref po), (1, .int px)] := hl
  have hP : va_P D vwCl [oPC po vs ho so] s.heap := hP
  have hD : va_D A [oPC po vs ho so] := hD
  refine lv_iload_n hx hb dX8_perhapsAbove_0 rfl (lv_at hl 1 rfl) ?_
  have hP := hP.sub (ws' := [] ++ [oPC po vs ho so]) [0] rfl
  have hD := hD.sub (ws' := [] ++ [oPC po vs ho so]) [0] (by decide) rfl
  refine kxS (As := [.int px]) (rest := []) ⟨hx, hb, hml, hown, hts⟩ (cx_X8_requirePermille_lo l D T px hst9 (by first | omega | assumption)) (va_cwS 1 hts gX8_perhapsAbove_X8_requirePermille rfl rfl rfl (by decide +kernel) ⟨Nat.le_of_ble_eq_true rfl, Nat.le_of_ble_eq_true rfl⟩) hC hXX hZ hP hD hS hA rfl hl.1 rfl (Nat.le_of_ble_eq_true rfl) dX8_perhapsAbove_1 ⟨Nat.le_of_ble_eq_true rfl, Nat.le_of_ble_eq_true rfl⟩ (fun H locs q ce hP hD hS h1 h2 h3 => ?_)
  have hP : va_P D vwCl [oPC po vs ho so] H := hP
  have hD : va_D A [oPC po vs ho so] := hD
  exact hout _ _ _ _ _ _ _ _ _ hP hD hS h1 h2 h3 (Nat.le_refl _) (Nat.le_refl _)
set_option maxHeartbeats 4000000 in
set_option maxRecDepth 100000 in
theorem cx_X8_perhapsAbove_hi (l : Launch) (D : va_G) (T : Nat → ClassId) (po vs ho so : Nat) (px : Int32) (hst9 : l.stackTraces = false) (hpos : ¬ px < 0) (hbig : ¬ px ≤ 1000) : kXM l D T yX8_perhapsAbove wsX8_perhapsAbove rX8_perhapsAbove_x [.ref po, .int px] [oPC po vs ho so] "java/lang/IllegalArgumentException" [oPC po vs ho so] := by
  refine kXM.of (cc := cX8_perhapsAbove) (maxL := 2) (ret := some .int) (by decide) rfl (Nat.le_of_ble_eq_true rfl) ?_ hst9
  intro p e s m below meth c A Q ls hx hb hml hown hts hC hP hD hS hA hl hXX hZ hthr hout hst8
  have hl : lv_has ls 2 [(0, .ref po), (1, .int px)] := hl
  have hP : va_P D vwCl [oPC po vs ho so] s.heap := hP
  have hD : va_D A [oPC po vs ho so] := hD
  refine lv_iload_n hx hb dX8_perhapsAbove_0 rfl (lv_at hl 1 rfl) ?_
  have hP := hP.sub (ws' := [] ++ [oPC po vs ho so]) [0] rfl
  have hD := hD.sub (ws' := [] ++ [oPC po vs ho so]) [0] (by decide) rfl
  refine kxS (As := [.int px]) (rest := []) ⟨hx, hb, hml, hown, hts⟩ (cx_X8_requirePermille_hi l D T px hst9 (by first | omega | assumption) (by first | omega | assumption)) (va_cwS 1 hts gX8_perhapsAbove_X8_requirePermille rfl rfl rfl (by decide +kernel) ⟨Nat.le_of_ble_eq_true rfl, Nat.le_of_ble_eq_true rfl⟩) hC hXX hZ hP hD hS hA rfl hl.1 rfl (Nat.le_of_ble_eq_true rfl) dX8_perhapsAbove_1 ⟨Nat.le_of_ble_eq_true rfl, Nat.le_of_ble_eq_true rfl⟩ (fun H locs q ce hP hD hS h1 h2 h3 => ?_)
  have hP : va_P D vwCl [oPC po vs ho so] H := hP
  have hD : va_D A [oPC po vs ho so] := hD
  exact hout _ _ _ _ _ _ _ _ _ hP hD hS h1 h2 h3 (Nat.le_refl _) (Nat.le_refl _)
abbrev rX8_trulyAbove_x : Room := { frames := 7, cells := 1, slots := 6, locals := 110 }
set_option maxHeartbeats 4000000 in
set_option maxRecDepth 100000 in
theorem cx_X8_trulyAbove_lo (l : Launch) (D : va_G) (T : Nat → ClassId) (po vs ho so : Nat) (px : Int32) (hst9 : l.stackTraces = false) (hneg : px < 0) : kXM l D T yX8_trulyAbove wsX8_trulyAbove rX8_trulyAbove_x [.ref po, .int px] [oPC po vs ho so] "java/lang/IllegalArgumentException" [oPC po vs ho so] := by
  refine kXM.of (cc := cX8_trulyAbove) (maxL := 2) (ret := some .int) (by decide) rfl (Nat.le_of_ble_eq_true rfl) ?_ hst9
  intro p e s m below meth c A Q ls hx hb hml hown hts hC hP hD hS hA hl hXX hZ hthr hout hst8
  have hl : lv_has ls 2 [(0, .ref po), (1, .int px)] := hl
  have hP : va_P D vwCl [oPC po vs ho so] s.heap := hP
  have hD : va_D A [oPC po vs ho so] := hD
  refine lv_iload_n hx hb dX8_trulyAbove_0 rfl (lv_at hl 1 rfl) ?_
  have hP := hP.sub (ws' := [] ++ [oPC po vs ho so]) [0] rfl
  have hD := hD.sub (ws' := [] ++ [oPC po vs ho so]) [0] (by decide) rfl
  refine kxS (As := [.int px]) (rest := []) ⟨hx, hb, hml, hown, hts⟩ (cx_X8_requirePermille_lo l D T px hst9 (by first | omega | assumption)) (va_cwS 1 hts gX8_trulyAbove_X8_requirePermille rfl rfl rfl (by decide +kernel) ⟨Nat.le_of_ble_eq_true rfl, Nat.le_of_ble_eq_true rfl⟩) hC hXX hZ hP hD hS hA rfl hl.1 rfl (Nat.le_of_ble_eq_true rfl) dX8_trulyAbove_1 ⟨Nat.le_of_ble_eq_true rfl, Nat.le_of_ble_eq_true rfl⟩ (fun H locs q ce hP hD hS h1 h2 h3 => ?_)
  have hP : va_P D vwCl [oPC po vs ho so] H := hP
  have hD : va_D A [oPC po vs ho so] := hD
  exact hout _ _ _ _ _ _ _ _ _ hP hD hS h1 h2 h3 (Nat.le_refl _) (Nat.le_refl _)
set_option maxHeartbeats 4000000 in
set_option maxRecDepth 100000 in
theorem cx_X8_trulyAbove_hi (l : Launch) (D : va_G) (T : Nat → ClassId) (po vs ho so : Nat) (px : Int32) (hst9 : l.stackTraces = false) (hpos : ¬ px < 0) (hbig : ¬ px ≤ 1000) : kXM l D T yX8_trulyAbove wsX8_trulyAbove rX8_trulyAbove_x [.ref po, .int px] [oPC po vs ho so] "java/lang/IllegalArgumentException" [oPC po vs ho so] := by
  refine kXM.of (cc := cX8_trulyAbove) (maxL := 2) (ret := some .int) (by decide) rfl (Nat.le_of_ble_eq_true rfl) ?_ hst9
  intro p e s m below meth c A Q ls hx hb hml hown hts hC hP hD hS hA hl hXX hZ hthr hout hst8
  have hl : lv_has ls 2 [(0, .ref po), (1, .int px)] := hl
  have hP : va_P D vwCl [oPC po vs ho so] s.heap := hP
  have hD : va_D A [oPC po vs ho so] := hD
  refine lv_iload_n hx hb dX8_trulyAbove_0 rfl (lv_at hl 1 rfl) ?_
  have hP := hP.sub (ws' := [] ++ [oPC po vs ho so]) [0] rfl
  have hD := hD.sub (ws' := [] ++ [oPC po vs ho so]) [0] (by decide) rfl
  refine kxS (As := [.int px]) (rest := []) ⟨hx, hb, hml, hown, hts⟩ (cx_X8_requirePermille_hi l D T px hst9 (by first | omega | assumption) (by first | omega | assumption)) (va_cwS 1 hts gX8_trulyAbove_X8_requirePermille rfl rfl rfl (by decide +kernel) ⟨Nat.le_of_ble_eq_true rfl, Nat.le_of_ble_eq_true rfl⟩) hC hXX hZ hP hD hS hA rfl hl.1 rfl (Nat.le_of_ble_eq_true rfl) dX8_trulyAbove_1 ⟨Nat.le_of_ble_eq_true rfl, Nat.le_of_ble_eq_true rfl⟩ (fun H locs q ce hP hD hS h1 h2 h3 => ?_)
  have hP : va_P D vwCl [oPC po vs ho so] H := hP
  have hD : va_D A [oPC po vs ho so] := hD
  exact hout _ _ _ _ _ _ _ _ _ hP hD hS h1 h2 h3 (Nat.le_refl _) (Nat.le_refl _)
set_option maxHeartbeats 4000000 in
set_option maxRecDepth 100000 in
theorem cx_X8_hear_many (l : Launch) (D : va_G) (T : Nat → ClassId) (po ho so vs val : Nat) (via : Bool) (cq : Nat) (vol voxo voxc voxs voxg voyo voyc volt : Nat) (vofc vofs vofg : Nat → Int32) (voch vosz vorm : Int32) (vowf : Nat → Int32) (vowo vowz vowr : Int32) (votf : Nat → Int32) (pa : Nat) (hst9 : l.stackTraces = false) (hp : pa < 26) (hm : ¬ smN votf 26 + 1 ≤ 99999) : kXM l D T yX8_hear wsX8_hear rX8_hear_x [.ref po, .int (nI pa)] [oPC po vs ho so, oSt vs vol val (bI via) (nI cq), oLi vol voxo voyo volt, oFL voxo voxc voxs voxg voch vosz vorm, aI T voxc 26 vofc, aI T voxs 26 vofs, aI T voxg 26 vofg, oSL voyo voyc vowo vowz vowr, aI T voyc 26 vowf, aI T volt 26 votf] "java/lang/IllegalStateException" [oPC po vs ho so, oSt vs vol val (bI via) (nI cq), oLi vol voxo voyo volt, oFL voxo voxc voxs voxg voch vosz vorm, aI T voxc 26 vofc, aI T voxs 26 vofs, aI T voxg 26 vofg, oSL voyo voyc vowo vowz vowr, aI T voyc 26 vowf, aI T volt 26 votf] := by
  refine kXM.of (cc := cX8_hear) (maxL := 2) (ret := some .int) (by decide) rfl (Nat.le_of_ble_eq_true rfl) ?_ hst9
  intro p e s m below meth c A Q ls hx hb hml hown hts hC hP hD hS hA hl hXX hZ hthr hout hst8
  have iX7 : ∀ w ∈ wsX70, w ∈ wsX8_hear := (fun _ h => List.mem_cons_of_mem _ (List.mem_append_left _ (List.mem_append_left _ (List.mem_append_left _ (List.mem_append_left _ (List.mem_append_left _ (List.mem_append_left _ (List.mem_append_right _ h))))))))
  have iX8 : ∀ w ∈ wsX80, w ∈ wsX8_hear := (fun _ h => List.mem_cons_of_mem _ (List.mem_append_left _ (List.mem_append_left _ (List.mem_append_left _ (List.mem_append_left _ (List.mem_append_left _ (List.mem_append_left _ (List.mem_append_left _ (List.mem_append_right _ h)))))))))
  have hl : lv_has ls 2 [(0, .ref po), (1, .int (nI pa))] := hl
  have hP : va_P D vwCl [oPC po vs ho so, oSt vs vol val (bI via) (nI cq), oLi vol voxo voyo volt, oFL voxo voxc voxs voxg voch vosz vorm, aI T voxc 26 vofc, aI T voxs 26 vofs, aI T voxg 26 vofg, oSL voyo voyc vowo vowz vowr, aI T voyc 26 vowf, aI T volt 26 votf] s.heap := hP
  have hD : va_D A [oPC po vs ho so, oSt vs vol val (bI via) (nI cq), oLi vol voxo voyo volt, oFL voxo voxc voxs voxg voch vosz vorm, aI T voxc 26 vofc, aI T voxs 26 vofs, aI T voxg 26 vofg, oSL voyo voyc vowo vowz vowr, aI T voyc 26 vowf, aI T volt 26 votf] := hD
  refine lv_iload_n hx hb dX8_hear_0 rfl (lv_at hl 1 rfl) ?_
  have hP := hP.sub (ws' := [] ++ [oPC po vs ho so, oSt vs vol val (bI via) (nI cq), oLi vol voxo voyo volt, oFL voxo voxc voxs voxg voch vosz vorm, aI T voxc 26 vofc, aI T voxs 26 vofs, aI T voxg 26 vofg, oSL voyo voyc vowo vowz vowr, aI T voyc 26 vowf, aI T volt 26 votf]) [0, 1, 2, 3, 4, 5, 6, 7, 8, 9] rfl
  have hD := hD.sub (ws' := [] ++ [oPC po vs ho so, oSt vs vol val (bI via) (nI cq), oLi vol voxo voyo volt, oFL voxo voxc voxs voxg voch vosz vorm, aI T voxc 26 vofc, aI T voxs 26 vofs, aI T voxg 26 vofg, oSL voyo voyc vowo vowz vowr, aI T voyc 26 vowf, aI T volt 26 votf]) [0, 1, 2, 3, 4, 5, 6, 7, 8, 9] (by decide) rfl
  refine kS (As := [.int (nI pa)]) (rest := []) ⟨hx, hb, hml, hown, hts⟩ (c_X8_requireParrot l D T pa (by first | omega | assumption)) (va_cwS 1 hts gX8_hear_X8_requireParrot rfl rfl rfl (by decide +kernel) ⟨Nat.le_of_ble_eq_true rfl, Nat.le_of_ble_eq_true rfl⟩) hC hP hD hS hA rfl hl.1 rfl (Nat.le_of_ble_eq_true rfl) dX8_hear_1 ⟨Nat.zero_le _, Nat.zero_le _⟩ (fun H locs hP hD hS => ?_)
  have hP : va_P D vwCl [oPC po vs ho so, oSt vs vol val (bI via) (nI cq), oLi vol voxo voyo volt, oFL voxo voxc voxs voxg voch vosz vorm, aI T voxc 26 vofc, aI T voxs 26 vofs, aI T voxg 26 vofg, oSL voyo voyc vowo vowz vowr, aI T voyc 26 vowf, aI T volt 26 votf] H := hP
  have hD : va_D A [oPC po vs ho so, oSt vs vol val (bI via) (nI cq), oLi vol voxo voyo volt, oFL voxo voxc voxs voxg voch vosz vorm, aI T voxc 26 vofc, aI T voxs 26 vofs, aI T voxg 26 vofg, oSL voyo voyc vowo vowz vowr, aI T voyc 26 vowf, aI T volt 26 votf] := hD
  refine W.eq (g2 := F0 m 4 ls []) rfl ?_
  refine lv_aload_n hx hb dX8_hear_4 rfl (lv_at hl 0 rfl) ?_
  refine va_get (D := D) (ci := 7) (v := .ref vs) (C := RX8) (T := TX8) (N := 3) hx hb hts iX8 hown hC.1 hP 0 rfl rfl 0 (by decide) (hts (.fieldLink RX8 10 "ParrotCounts" "state" "LParrotCounts$State;") (List.mem_of_getElem? (i := 1) rfl)) (fun _ h => h) rfl dX8_hear_5 ?_
  refine va_get (D := D) (ci := 6) (v := .ref vol) (C := RX7) (T := TX7) (N := 4) hx hb hts iX7 hown hC.1 hP 1 rfl rfl 0 (by decide) (hts (.fieldLink RX8 37 "ParrotCounts$State" "own" "LParrotCounts$Listener;") (List.mem_of_getElem? (i := 2) rfl)) (fun _ h => h) rfl dX8_hear_8 ?_
  have hP := hP.sub (ws' := [oLi vol voxo voyo volt, oFL voxo voxc voxs voxg voch vosz vorm, aI T voxc 26 vofc, aI T voxs 26 vofs, aI T voxg 26 vofg, oSL voyo voyc vowo vowz vowr, aI T voyc 26 vowf, aI T volt 26 votf] ++ [oPC po vs ho so, oSt vs vol val (bI via) (nI cq)]) [2, 3, 4, 5, 6, 7, 8, 9, 0, 1] rfl
  have hD := hD.sub (ws' := [oLi vol voxo voyo volt, oFL voxo voxc voxs voxg voch vosz vorm, aI T voxc 26 vofc, aI T voxs 26 vofs, aI T voxg 26 vofg, oSL voyo voyc vowo vowz vowr, aI T voyc 26 vowf, aI T volt 26 votf] ++ [oPC po vs ho so, oSt vs vol val (bI via) (nI cq)]) [2, 3, 4, 5, 6, 7, 8, 9, 0, 1] (by decide) rfl
  refine kV (ci := 2) (As := []) (rest := []) ⟨hx, hb, hml, hown, hts⟩ (c_X2_sumOfCalls l D T vol voxo voxc voxs voxg voyo voyc volt vofc vofs vofg voch vosz vorm vowf vowo vowz vowr votf ) (cwV 0 hts gX8_hear_X2_sumOfCalls rfl rfl rfl (by decide +kernel) ⟨Nat.le_of_ble_eq_true rfl, Nat.le_of_ble_eq_true rfl⟩) hC hP hD hS hA rfl rfl rfl hl.1 rfl (Nat.le_of_ble_eq_true rfl) dX8_hear_11 ⟨Nat.zero_le _, Nat.zero_le _⟩ (fun H locs hP hD hS => ?_)
  have hP := hP.sub (ws' := [oPC po vs ho so, oSt vs vol val (bI via) (nI cq), oLi vol voxo voyo volt, oFL voxo voxc voxs voxg voch vosz vorm, aI T voxc 26 vofc, aI T voxs 26 vofs, aI T voxg 26 vofg, oSL voyo voyc vowo vowz vowr, aI T voyc 26 vowf, aI T volt 26 votf]) [8, 9, 0, 1, 2, 3, 4, 5, 6, 7] rfl
  have hD := hD.sub (ws' := [oPC po vs ho so, oSt vs vol val (bI via) (nI cq), oLi vol voxo voyo volt, oFL voxo voxc voxs voxg voch vosz vorm, aI T voxc 26 vofc, aI T voxs 26 vofs, aI T voxg 26 vofg, oSL voyo voyc vowo vowz vowr, aI T voyc 26 vowf, aI T volt 26 votf]) [8, 9, 0, 1, 2, 3, 4, 5, 6, 7] (by decide) rfl
  refine W.eq (g2 := F0 m 14 ls [.int (smN votf 26)]) rfl ?_
  refine lv_iconst (v := 1) hx hb dX8_hear_14 (by decide) ?_
  refine lv_iadd hx hb dX8_hear_15 ?_
  have hP := hP.sub (ws' := [] ++ [oPC po vs ho so, oSt vs vol val (bI via) (nI cq), oLi vol voxo voyo volt, oFL voxo voxc voxs voxg voch vosz vorm, aI T voxc 26 vofc, aI T voxs 26 vofs, aI T voxg 26 vofg, oSL voyo voyc vowo vowz vowr, aI T voyc 26 vowf, aI T volt 26 votf]) [0, 1, 2, 3, 4, 5, 6, 7, 8, 9] rfl
  have hD := hD.sub (ws' := [] ++ [oPC po vs ho so, oSt vs vol val (bI via) (nI cq), oLi vol voxo voyo volt, oFL voxo voxc voxs voxg voch vosz vorm, aI T voxc 26 vofc, aI T voxs 26 vofs, aI T voxg 26 vofg, oSL voyo voyc vowo vowz vowr, aI T voyc 26 vowf, aI T volt 26 votf]) [0, 1, 2, 3, 4, 5, 6, 7, 8, 9] (by decide) rfl
  refine kxS (As := [.int ((smN votf 26) + 1)]) (rest := []) ⟨hx, hb, hml, hown, hts⟩ (cx_X8_requireFewCalls l D T ((smN votf 26) + 1) hst9 (by first | omega | assumption)) (va_cwS 1 hts gX8_hear_X8_requireFewCalls rfl rfl rfl (by decide +kernel) ⟨Nat.le_of_ble_eq_true rfl, Nat.le_of_ble_eq_true rfl⟩) hC hXX hZ hP hD hS hA rfl hl.1 rfl (Nat.le_of_ble_eq_true rfl) dX8_hear_16 ⟨Nat.le_of_ble_eq_true rfl, Nat.le_of_ble_eq_true rfl⟩ (fun H locs q ce hP hD hS h1 h2 h3 => ?_)
  have hP : va_P D vwCl [oPC po vs ho so, oSt vs vol val (bI via) (nI cq), oLi vol voxo voyo volt, oFL voxo voxc voxs voxg voch vosz vorm, aI T voxc 26 vofc, aI T voxs 26 vofs, aI T voxg 26 vofg, oSL voyo voyc vowo vowz vowr, aI T voyc 26 vowf, aI T volt 26 votf] H := hP
  have hD : va_D A [oPC po vs ho so, oSt vs vol val (bI via) (nI cq), oLi vol voxo voyo volt, oFL voxo voxc voxs voxg voch vosz vorm, aI T voxc 26 vofc, aI T voxs 26 vofs, aI T voxg 26 vofg, oSL voyo voyc vowo vowz vowr, aI T voyc 26 vowf, aI T volt 26 votf] := hD
  exact hout _ _ _ _ _ _ _ _ _ hP hD hS h1 h2 h3 (Nat.le_refl _) (Nat.le_refl _)
set_option maxHeartbeats 4000000 in
set_option maxRecDepth 100000 in
theorem cx_X8_surplus_no (l : Launch) (D : va_G) (T : Nat → ClassId) (po ho so vs val : Nat) (via : Bool) (cq : Nat) (vol voxo voxc voxs voxg voyo voyc volt : Nat) (vofc vofs vofg : Nat → Int32) (voch vosz vorm : Int32) (vowf : Nat → Int32) (vowo vowz vowr : Int32) (votf : Nat → Int32) (pa : Nat) (hst9 : l.stackTraces = false) (hp : pa < 26) (hc : vofc pa = 0) : kXM l D T yX8_surplus wsX8_surplus rX8_surplus_x [.ref po, .int (nI pa)] [oPC po vs ho so, oSt vs vol val (bI via) (nI cq), oLi vol voxo voyo volt, oFL voxo voxc voxs voxg voch vosz vorm, aI T voxc 26 vofc, aI T voxs 26 vofs, aI T voxg 26 vofg, oSL voyo voyc vowo vowz vowr, aI T voyc 26 vowf, aI T volt 26 votf] "java/util/NoSuchElementException" [oPC po vs ho so, oSt vs vol val (bI via) (nI cq), oLi vol voxo voyo volt, oFL voxo voxc voxs voxg voch vosz vorm, aI T voxc 26 vofc, aI T voxs 26 vofs, aI T voxg 26 vofg, oSL voyo voyc vowo vowz vowr, aI T voyc 26 vowf, aI T volt 26 votf] := by
  refine kXM.of (cc := cX8_surplus) (maxL := 2) (ret := some .int) (by decide) rfl (Nat.le_of_ble_eq_true rfl) ?_ hst9
  intro p e s m below meth c A Q ls hx hb hml hown hts hC hP hD hS hA hl hXX hZ hthr hout hst8
  have iX0 : ∀ w ∈ wsX00, w ∈ wsX8_surplus := (fun _ h => List.mem_cons_of_mem _ (List.mem_append_left _ (List.mem_append_left _ (List.mem_append_right _ h))))
  have iX2 : ∀ w ∈ wsX20, w ∈ wsX8_surplus := (fun _ h => List.mem_cons_of_mem _ (List.mem_append_left _ (List.mem_append_left _ (List.mem_append_left _ (List.mem_append_right _ h)))))
  have iX7 : ∀ w ∈ wsX70, w ∈ wsX8_surplus := (fun _ h => List.mem_cons_of_mem _ (List.mem_append_left _ (List.mem_append_left _ (List.mem_append_left _ (List.mem_append_left _ (List.mem_append_right _ h))))))
  have iX8 : ∀ w ∈ wsX80, w ∈ wsX8_surplus := (fun _ h => List.mem_cons_of_mem _ (List.mem_append_left _ (List.mem_append_left _ (List.mem_append_left _ (List.mem_append_left _ (List.mem_append_left _ (List.mem_append_right _ h)))))))
  have hl : lv_has ls 2 [(0, .ref po), (1, .int (nI pa))] := hl
  have hP : va_P D vwCl [oPC po vs ho so, oSt vs vol val (bI via) (nI cq), oLi vol voxo voyo volt, oFL voxo voxc voxs voxg voch vosz vorm, aI T voxc 26 vofc, aI T voxs 26 vofs, aI T voxg 26 vofg, oSL voyo voyc vowo vowz vowr, aI T voyc 26 vowf, aI T volt 26 votf] s.heap := hP
  have hD : va_D A [oPC po vs ho so, oSt vs vol val (bI via) (nI cq), oLi vol voxo voyo volt, oFL voxo voxc voxs voxg voch vosz vorm, aI T voxc 26 vofc, aI T voxs 26 vofs, aI T voxg 26 vofg, oSL voyo voyc vowo vowz vowr, aI T voyc 26 vowf, aI T volt 26 votf] := hD
  refine lv_iload_n hx hb dX8_surplus_0 rfl (lv_at hl 1 rfl) ?_
  have hP := hP.sub (ws' := [] ++ [oPC po vs ho so, oSt vs vol val (bI via) (nI cq), oLi vol voxo voyo volt, oFL voxo voxc voxs voxg voch vosz vorm, aI T voxc 26 vofc, aI T voxs 26 vofs, aI T voxg 26 vofg, oSL voyo voyc vowo vowz vowr, aI T voyc 26 vowf, aI T volt 26 votf]) [0, 1, 2, 3, 4, 5, 6, 7, 8, 9] rfl
  have hD := hD.sub (ws' := [] ++ [oPC po vs ho so, oSt vs vol val (bI via) (nI cq), oLi vol voxo voyo volt, oFL voxo voxc voxs voxg voch vosz vorm, aI T voxc 26 vofc, aI T voxs 26 vofs, aI T voxg 26 vofg, oSL voyo voyc vowo vowz vowr, aI T voyc 26 vowf, aI T volt 26 votf]) [0, 1, 2, 3, 4, 5, 6, 7, 8, 9] (by decide) rfl
  refine kS (As := [.int (nI pa)]) (rest := []) ⟨hx, hb, hml, hown, hts⟩ (c_X8_requireParrot l D T pa (by first | omega | assumption)) (va_cwS 1 hts gX8_surplus_X8_requireParrot rfl rfl rfl (by decide +kernel) ⟨Nat.le_of_ble_eq_true rfl, Nat.le_of_ble_eq_true rfl⟩) hC hP hD hS hA rfl hl.1 rfl (Nat.le_of_ble_eq_true rfl) dX8_surplus_1 ⟨Nat.zero_le _, Nat.zero_le _⟩ (fun H locs hP hD hS => ?_)
  have hP : va_P D vwCl [oPC po vs ho so, oSt vs vol val (bI via) (nI cq), oLi vol voxo voyo volt, oFL voxo voxc voxs voxg voch vosz vorm, aI T voxc 26 vofc, aI T voxs 26 vofs, aI T voxg 26 vofg, oSL voyo voyc vowo vowz vowr, aI T voyc 26 vowf, aI T volt 26 votf] H := hP
  have hD : va_D A [oPC po vs ho so, oSt vs vol val (bI via) (nI cq), oLi vol voxo voyo volt, oFL voxo voxc voxs voxg voch vosz vorm, aI T voxc 26 vofc, aI T voxs 26 vofs, aI T voxg 26 vofg, oSL voyo voyc vowo vowz vowr, aI T voyc 26 vowf, aI T volt 26 votf] := hD
  refine W.eq (g2 := F0 m 4 ls []) rfl ?_
  refine lv_aload_n hx hb dX8_surplus_4 rfl (lv_at hl 0 rfl) ?_
  refine va_get (D := D) (ci := 7) (v := .ref vs) (C := RX8) (T := TX8) (N := 3) hx hb hts iX8 hown hC.1 hP 0 rfl rfl 0 (by decide) (hts (.fieldLink RX8 10 "ParrotCounts" "state" "LParrotCounts$State;") (List.mem_of_getElem? (i := 3) rfl)) (fun _ h => h) rfl dX8_surplus_5 ?_
  refine va_get (D := D) (ci := 6) (v := .ref vol) (C := RX7) (T := TX7) (N := 4) hx hb hts iX7 hown hC.1 hP 1 rfl rfl 0 (by decide) (hts (.fieldLink RX8 37 "ParrotCounts$State" "own" "LParrotCounts$Listener;") (List.mem_of_getElem? (i := 4) rfl)) (fun _ h => h) rfl dX8_surplus_8 ?_
  refine va_get (D := D) (ci := 2) (v := .ref voxo) (C := RX2) (T := TX2) (N := 3) hx hb hts iX2 hown hC.1 hP 2 rfl rfl 0 (by decide) (hts (.fieldLink RX8 57 "ParrotCounts$Listener" "first" "LParrotCounts$FirstList;") (List.mem_of_getElem? (i := 5) rfl)) (fun _ h => h) rfl dX8_surplus_11 ?_
  refine va_get (D := D) (ci := 0) (v := .ref voxc) (C := RX0) (T := TX0) (N := 6) hx hb hts iX0 hown hC.1 hP 3 rfl rfl 0 (by decide) (hts (.fieldLink RX8 141 "ParrotCounts$FirstList" "counts" "[I") (List.mem_of_getElem? (i := 6) rfl)) (fun _ h => h) rfl dX8_surplus_14 ?_
  refine lv_iload_n hx hb dX8_surplus_17 rfl (lv_at hl 1 rfl) ?_
  refine k_iald hx hb hC.1 hP 4 0 rfl rfl (by omega) dX8_surplus_18 ?_
  refine lv_if_ne (tgt := 32) hx hb dX8_surplus_19 (by decide) (fun c_x => absurd hc c_x) (fun _ => ?_)
  obtain ⟨sa9, hsa9⟩ := hXX.2.2 (146, "the parrot has no counter") (List.mem_of_getElem? (i := 8) rfl)
  exact hthr "java/util/NoSuchElementException" "the parrot has no counter" 144 146 148 22 sa9 _ _ _ [] rfl (by decide +kernel) kFit (hts (.classLink RX8 144 "java/util/NoSuchElementException") (List.mem_of_getElem? (i := 1) rfl)) (hts (.initialized "java/util/NoSuchElementException") (List.mem_of_getElem? (i := 2) rfl)) hsa9 (vx_hat (fun w h => hts w (List.mem_cons_of_mem _ (List.mem_append_left _ (List.mem_append_right _ h)))) kB_148 (kXB_ok hXX (by decide +kernel))) kG_148 (hl.1.trans hml.symm) dX8_surplus_22 dX8_surplus_25 dX8_surplus_26 dX8_surplus_28 dX8_surplus_31 (Nat.le_of_ble_eq_true rfl) (Nat.le_of_ble_eq_true rfl) (Nat.le_of_ble_eq_true rfl) (Nat.le_of_ble_eq_true rfl) hP hD hS
abbrev rX8_nextTakenOver_x : Room := { frames := 6, cells := 1, slots := 6, locals := 90 }
set_option maxHeartbeats 4000000 in
set_option maxRecDepth 100000 in
theorem cx_X8_nextTakenOver_no (l : Launch) (D : va_G) (T : Nat → ClassId) (po ho so vs val : Nat) (via : Bool) (cq : Nat) (vol voxo voxc voxs voxg voyo voyc volt : Nat) (vofc vofs vofg : Nat → Int32) (voch vosz vorm : Int32) (vowf : Nat → Int32) (vowo vowz vowr : Int32) (votf : Nat → Int32) (hst9 : l.stackTraces = false) (hfull : flFull vosz vorm = false) : kXM l D T yX8_nextTakenOver wsX8_nextTakenOver rX8_nextTakenOver_x [.ref po] [oPC po vs ho so, oSt vs vol val (bI via) (nI cq), oLi vol voxo voyo volt, oFL voxo voxc voxs voxg voch vosz vorm, aI T voxc 26 vofc, aI T voxs 26 vofs, aI T voxg 26 vofg, oSL voyo voyc vowo vowz vowr, aI T voyc 26 vowf, aI T volt 26 votf] "java/util/NoSuchElementException" [oPC po vs ho so, oSt vs vol val (bI via) (nI cq), oLi vol voxo voyo volt, oFL voxo voxc voxs voxg voch vosz vorm, aI T voxc 26 vofc, aI T voxs 26 vofs, aI T voxg 26 vofg, oSL voyo voyc vowo vowz vowr, aI T voyc 26 vowf, aI T volt 26 votf] := by
  refine kXM.of (cc := cX8_nextTakenOver) (maxL := 1) (ret := some .int) (by decide) rfl (Nat.le_of_ble_eq_true rfl) ?_ hst9
  intro p e s m below meth c A Q ls hx hb hml hown hts hC hP hD hS hA hl hXX hZ hthr hout hst8
  have iX2 : ∀ w ∈ wsX20, w ∈ wsX8_nextTakenOver := (fun _ h => List.mem_cons_of_mem _ (List.mem_append_left _ (List.mem_append_left _ (List.mem_append_right _ h))))
  have iX7 : ∀ w ∈ wsX70, w ∈ wsX8_nextTakenOver := (fun _ h => List.mem_cons_of_mem _ (List.mem_append_left _ (List.mem_append_left _ (List.mem_append_left _ (List.mem_append_right _ h)))))
  have iX8 : ∀ w ∈ wsX80, w ∈ wsX8_nextTakenOver := (fun _ h => List.mem_cons_of_mem _ (List.mem_append_left _ (List.mem_append_left _ (List.mem_append_left _ (List.mem_append_left _ (List.mem_append_right _ h))))))
  have hl : lv_has ls 1 [(0, .ref po)] := hl
  have hP : va_P D vwCl [oPC po vs ho so, oSt vs vol val (bI via) (nI cq), oLi vol voxo voyo volt, oFL voxo voxc voxs voxg voch vosz vorm, aI T voxc 26 vofc, aI T voxs 26 vofs, aI T voxg 26 vofg, oSL voyo voyc vowo vowz vowr, aI T voyc 26 vowf, aI T volt 26 votf] s.heap := hP
  have hD : va_D A [oPC po vs ho so, oSt vs vol val (bI via) (nI cq), oLi vol voxo voyo volt, oFL voxo voxc voxs voxg voch vosz vorm, aI T voxc 26 vofc, aI T voxs 26 vofs, aI T voxg 26 vofg, oSL voyo voyc vowo vowz vowr, aI T voyc 26 vowf, aI T volt 26 votf] := hD
  refine lv_aload_n hx hb dX8_nextTakenOver_0 rfl (lv_at hl 0 rfl) ?_
  refine va_get (D := D) (ci := 7) (v := .ref vs) (C := RX8) (T := TX8) (N := 3) hx hb hts iX8 hown hC.1 hP 0 rfl rfl 0 (by decide) (hts (.fieldLink RX8 10 "ParrotCounts" "state" "LParrotCounts$State;") (List.mem_of_getElem? (i := 3) rfl)) (fun _ h => h) rfl dX8_nextTakenOver_1 ?_
  refine va_get (D := D) (ci := 6) (v := .ref vol) (C := RX7) (T := TX7) (N := 4) hx hb hts iX7 hown hC.1 hP 1 rfl rfl 0 (by decide) (hts (.fieldLink RX8 37 "ParrotCounts$State" "own" "LParrotCounts$Listener;") (List.mem_of_getElem? (i := 4) rfl)) (fun _ h => h) rfl dX8_nextTakenOver_4 ?_
  refine va_get (D := D) (ci := 2) (v := .ref voxo) (C := RX2) (T := TX2) (N := 3) hx hb hts iX2 hown hC.1 hP 2 rfl rfl 0 (by decide) (hts (.fieldLink RX8 57 "ParrotCounts$Listener" "first" "LParrotCounts$FirstList;") (List.mem_of_getElem? (i := 5) rfl)) (fun _ h => h) rfl dX8_nextTakenOver_7 ?_
  have hP := hP.sub (ws' := [oFL voxo voxc voxs voxg voch vosz vorm, aI T voxc 26 vofc, aI T voxs 26 vofs, aI T voxg 26 vofg] ++ [oPC po vs ho so, oSt vs vol val (bI via) (nI cq), oLi vol voxo voyo volt, oSL voyo voyc vowo vowz vowr, aI T voyc 26 vowf, aI T volt 26 votf]) [3, 4, 5, 6, 0, 1, 2, 7, 8, 9] rfl
  have hD := hD.sub (ws' := [oFL voxo voxc voxs voxg voch vosz vorm, aI T voxc 26 vofc, aI T voxs 26 vofs, aI T voxg 26 vofg] ++ [oPC po vs ho so, oSt vs vol val (bI via) (nI cq), oLi vol voxo voyo volt, oSL voyo voyc vowo vowz vowr, aI T voyc 26 vowf, aI T volt 26 votf]) [3, 4, 5, 6, 0, 1, 2, 7, 8, 9] (by decide) rfl
  refine kV (ci := 0) (As := []) (rest := []) ⟨hx, hb, hml, hown, hts⟩ (c_X0_isFull l D T voxo voxc voxs voxg vofc vofs vofg voch vosz vorm ) (cwV 0 hts gX8_nextTakenOver_X0_isFull rfl rfl rfl (by decide +kernel) ⟨Nat.le_of_ble_eq_true rfl, Nat.le_of_ble_eq_true rfl⟩) hC hP hD hS hA rfl rfl rfl hl.1 rfl (Nat.le_of_ble_eq_true rfl) dX8_nextTakenOver_10 ⟨Nat.zero_le _, Nat.zero_le _⟩ (fun H locs hP hD hS => ?_)
  have hP := hP.sub (ws' := [oPC po vs ho so, oSt vs vol val (bI via) (nI cq), oLi vol voxo voyo volt, oFL voxo voxc voxs voxg voch vosz vorm, aI T voxc 26 vofc, aI T voxs 26 vofs, aI T voxg 26 vofg, oSL voyo voyc vowo vowz vowr, aI T voyc 26 vowf, aI T volt 26 votf]) [4, 5, 6, 0, 1, 2, 3, 7, 8, 9] rfl
  have hD := hD.sub (ws' := [oPC po vs ho so, oSt vs vol val (bI via) (nI cq), oLi vol voxo voyo volt, oFL voxo voxc voxs voxg voch vosz vorm, aI T voxc 26 vofc, aI T voxs 26 vofs, aI T voxg 26 vofg, oSL voyo voyc vowo vowz vowr, aI T voyc 26 vowf, aI T volt 26 votf]) [4, 5, 6, 0, 1, 2, 3, 7, 8, 9] (by decide) rfl
  refine W.eq (g2 := F0 m 13 ls [.int (bI (flFull vosz vorm))]) rfl ?_
  refine lv_if_ne (tgt := 26) hx hb dX8_nextTakenOver_13 (by decide) (fun c_x => absurd (by rw [hfull]; rfl) c_x) (fun _ => ?_)
  obtain ⟨sa9, hsa9⟩ := hXX.2.2 (158, "no counter would be taken over") (List.mem_of_getElem? (i := 9) rfl)
  exact hthr "java/util/NoSuchElementException" "no counter would be taken over" 144 158 148 16 sa9 _ _ _ [] rfl (by decide +kernel) kFit (hts (.classLink RX8 144 "java/util/NoSuchElementException") (List.mem_of_getElem? (i := 1) rfl)) (hts (.initialized "java/util/NoSuchElementException") (List.mem_of_getElem? (i := 2) rfl)) hsa9 (vx_hat (fun w h => hts w (List.mem_cons_of_mem _ (List.mem_append_right _ h))) kB_148 (kXB_ok hXX (by decide +kernel))) kG_148 (hl.1.trans hml.symm) dX8_nextTakenOver_16 dX8_nextTakenOver_19 dX8_nextTakenOver_20 dX8_nextTakenOver_22 dX8_nextTakenOver_25 (Nat.le_of_ble_eq_true rfl) (Nat.le_of_ble_eq_true rfl) (Nat.le_of_ble_eq_true rfl) (Nat.le_of_ble_eq_true rfl) hP hD hS
abbrev rX8_loudest_x : Room := { frames := 6, cells := 1, slots := 6, locals := 90 }
set_option maxHeartbeats 4000000 in
set_option maxRecDepth 100000 in
theorem cx_X8_loudest_lo (l : Launch) (D : va_G) (T : Nat → ClassId) (po vs ho so : Nat) (px : Int32) (hst9 : l.stackTraces = false) (hneg : px < 0) : kXM l D T yX8_loudest wsX8_loudest rX8_loudest_x [.ref po, .int px] [oPC po vs ho so] "java/lang/IllegalArgumentException" [oPC po vs ho so] := by
  refine kXM.of (cc := cX8_loudest) (maxL := 2) (ret := some .int) (by decide) rfl (Nat.le_of_ble_eq_true rfl) ?_ hst9
  intro p e s m below meth c A Q ls hx hb hml hown hts hC hP hD hS hA hl hXX hZ hthr hout hst8
  have hl : lv_has ls 2 [(0, .ref po), (1, .int px)] := hl
  have hP : va_P D vwCl [oPC po vs ho so] s.heap := hP
  have hD : va_D A [oPC po vs ho so] := hD
  refine lv_iload_n hx hb dX8_loudest_0 rfl (lv_at hl 1 rfl) ?_
  refine lv_if_ge (tgt := 14) hx hb dX8_loudest_1 (by decide) (fun c_x => absurd c_x (Int32.not_le.mpr hneg)) (fun _ => ?_)
  obtain ⟨sa9, hsa9⟩ := hXX.2.2 (163, "the position is negative") (List.mem_of_getElem? (i := 10) rfl)
  exact hthr "java/lang/IllegalArgumentException" "the position is negative" 88 163 92 4 sa9 _ _ _ [] rfl (by decide +kernel) kFit (hts (.classLink RX8 88 "java/lang/IllegalArgumentException") (List.mem_of_getElem? (i := 1) rfl)) (hts (.initialized "java/lang/IllegalArgumentException") (List.mem_of_getElem? (i := 2) rfl)) hsa9 (vx_hat (fun w h => hts w (List.mem_cons_of_mem _ (List.mem_append_left _ (List.mem_append_right _ h)))) kB_92 (kXB_ok hXX (by decide +kernel))) kG_92 (hl.1.trans hml.symm) dX8_loudest_4 dX8_loudest_7 dX8_loudest_8 dX8_loudest_10 dX8_loudest_13 (Nat.le_of_ble_eq_true rfl) (Nat.le_of_ble_eq_true rfl) (Nat.le_of_ble_eq_true rfl) (Nat.le_of_ble_eq_true rfl) hP hD hS
set_option maxHeartbeats 4000000 in
set_option maxRecDepth 100000 in
theorem cx_X8_loudest_no (l : Launch) (D : va_G) (T : Nat → ClassId) (po ho so vs val : Nat) (via : Bool) (cq : Nat) (vol voxo voxc voxs voxg voyo voyc volt : Nat) (vofc vofs vofg : Nat → Int32) (voch vosz vorm : Int32) (vowf : Nat → Int32) (vowo vowz vowr : Int32) (votf : Nat → Int32) (px : Int32) (hst9 : l.stackTraces = false) (hpos : 0 ≤ px) (hbig : vosz ≤ px) : kXM l D T yX8_loudest wsX8_loudest rX8_loudest_x [.ref po, .int px] [oPC po vs ho so, oSt vs vol val (bI via) (nI cq), oLi vol voxo voyo volt, oFL voxo voxc voxs voxg voch vosz vorm, aI T voxc 26 vofc, aI T voxs 26 vofs, aI T voxg 26 vofg, oSL voyo voyc vowo vowz vowr, aI T voyc 26 vowf, aI T volt 26 votf] "java/util/NoSuchElementException" [oPC po vs ho so, oSt vs vol val (bI via) (nI cq), oLi vol voxo voyo volt, oFL voxo voxc voxs voxg voch vosz vorm, aI T voxc 26 vofc, aI T voxs 26 vofs, aI T voxg 26 vofg, oSL voyo voyc vowo vowz vowr, aI T voyc 26 vowf, aI T volt 26 votf] := by
  refine kXM.of (cc := cX8_loudest) (maxL := 2) (ret := some .int) (by decide) rfl (Nat.le_of_ble_eq_true rfl) ?_ hst9
  intro p e s m below meth c A Q ls hx hb hml hown hts hC hP hD hS hA hl hXX hZ hthr hout hst8
  have iX0 : ∀ w ∈ wsX00, w ∈ wsX8_loudest := (fun _ h => List.mem_cons_of_mem _ (List.mem_append_left _ (List.mem_append_left _ (List.mem_append_right _ h))))
  have iX2 : ∀ w ∈ wsX20, w ∈ wsX8_loudest := (fun _ h => List.mem_cons_of_mem _ (List.mem_append_left _ (List.mem_append_left _ (List.mem_append_left _ (List.mem_append_right _ h)))))
  have iX7 : ∀ w ∈ wsX70, w ∈ wsX8_loudest := (fun _ h => List.mem_cons_of_mem _ (List.mem_append_left _ (List.mem_append_left _ (List.mem_append_left _ (List.mem_append_left _ (List.mem_append_right _ h))))))
  have iX8 : ∀ w ∈ wsX80, w ∈ wsX8_loudest := (fun _ h => List.mem_cons_of_mem _ (List.mem_append_left _ (List.mem_append_left _ (List.mem_append_left _ (List.mem_append_left _ (List.mem_append_left _ (List.mem_append_right _ h)))))))
  have hl : lv_has ls 2 [(0, .ref po), (1, .int px)] := hl
  have hP : va_P D vwCl [oPC po vs ho so, oSt vs vol val (bI via) (nI cq), oLi vol voxo voyo volt, oFL voxo voxc voxs voxg voch vosz vorm, aI T voxc 26 vofc, aI T voxs 26 vofs, aI T voxg 26 vofg, oSL voyo voyc vowo vowz vowr, aI T voyc 26 vowf, aI T volt 26 votf] s.heap := hP
  have hD : va_D A [oPC po vs ho so, oSt vs vol val (bI via) (nI cq), oLi vol voxo voyo volt, oFL voxo voxc voxs voxg voch vosz vorm, aI T voxc 26 vofc, aI T voxs 26 vofs, aI T voxg 26 vofg, oSL voyo voyc vowo vowz vowr, aI T voyc 26 vowf, aI T volt 26 votf] := hD
  refine lv_iload_n hx hb dX8_loudest_0 rfl (lv_at hl 1 rfl) ?_
  refine lv_if_ge (tgt := 14) hx hb dX8_loudest_1 (by decide) (fun _ => ?_) (fun c_x => absurd hpos c_x)
  refine lv_iload_n hx hb dX8_loudest_14 rfl (lv_at hl 1 rfl) ?_
  refine lv_aload_n hx hb dX8_loudest_15 rfl (lv_at hl 0 rfl) ?_
  refine va_get (D := D) (ci := 7) (v := .ref vs) (C := RX8) (T := TX8) (N := 3) hx hb hts iX8 hown hC.1 hP 0 rfl rfl 0 (by decide) (hts (.fieldLink RX8 10 "ParrotCounts" "state" "LParrotCounts$State;") (List.mem_of_getElem? (i := 5) rfl)) (fun _ h => h) rfl dX8_loudest_16 ?_
  refine va_get (D := D) (ci := 6) (v := .ref vol) (C := RX7) (T := TX7) (N := 4) hx hb hts iX7 hown hC.1 hP 1 rfl rfl 0 (by decide) (hts (.fieldLink RX8 37 "ParrotCounts$State" "own" "LParrotCounts$Listener;") (List.mem_of_getElem? (i := 6) rfl)) (fun _ h => h) rfl dX8_loudest_19 ?_
  refine va_get (D := D) (ci := 2) (v := .ref voxo) (C := RX2) (T := TX2) (N := 3) hx hb hts iX2 hown hC.1 hP 2 rfl rfl 0 (by decide) (hts (.fieldLink RX8 57 "ParrotCounts$Listener" "first" "LParrotCounts$FirstList;") (List.mem_of_getElem? (i := 7) rfl)) (fun _ h => h) rfl dX8_loudest_22 ?_
  refine va_get (D := D) (ci := 0) (v := .int vosz) (C := RX0) (T := TX0) (N := 6) hx hb hts iX0 hown hC.1 hP 3 rfl rfl 4 (by decide) (hts (.fieldLink RX8 137 "ParrotCounts$FirstList" "size" "I") (List.mem_of_getElem? (i := 8) rfl)) (fun _ h => h) rfl dX8_loudest_25 ?_
  refine lv_icmp_lt (tgt := 41) hx hb dX8_loudest_28 (by decide) (fun c_x => absurd c_x (Int32.not_lt.mpr hbig)) (fun _ => ?_)
  obtain ⟨sa9, hsa9⟩ := hXX.2.2 (165, "there are not so many counters") (List.mem_of_getElem? (i := 11) rfl)
  exact hthr "java/util/NoSuchElementException" "there are not so many counters" 144 165 148 31 sa9 _ _ _ [] rfl (by decide +kernel) kFit (hts (.classLink RX8 144 "java/util/NoSuchElementException") (List.mem_of_getElem? (i := 3) rfl)) (hts (.initialized "java/util/NoSuchElementException") (List.mem_of_getElem? (i := 4) rfl)) hsa9 (vx_hat (fun w h => hts w (List.mem_cons_of_mem _ (List.mem_append_right _ h))) kB_148 (kXB_ok hXX (by decide +kernel))) kG_148 (hl.1.trans hml.symm) dX8_loudest_31 dX8_loudest_34 dX8_loudest_35 dX8_loudest_37 dX8_loudest_40 (Nat.le_of_ble_eq_true rfl) (Nat.le_of_ble_eq_true rfl) (Nat.le_of_ble_eq_true rfl) (Nat.le_of_ble_eq_true rfl) hP hD hS
abbrev rX8_empty_x : Room := { frames := 6, cells := 1, slots := 6, locals := 90 }
set_option maxHeartbeats 4000000 in
set_option maxRecDepth 100000 in
theorem cx_X8_empty_lo (l : Launch) (D : va_G) (T : Nat → ClassId) (po vs ho so : Nat) (px : Int32) (hst9 : l.stackTraces = false) (hneg : px < 1) : kXM l D T yX8_empty wsX8_empty rX8_empty_x [.ref po, .int px] [oPC po vs ho so] "java/lang/IllegalArgumentException" [oPC po vs ho so] := by
  refine kXM.of (cc := cX8_empty) (maxL := 3) (ret := some .int) (by decide) rfl (Nat.le_of_ble_eq_true rfl) ?_ hst9
  intro p e s m below meth c A Q ls hx hb hml hown hts hC hP hD hS hA hl hXX hZ hthr hout hst8
  have hl : lv_has ls 3 [(0, .ref po), (1, .int px)] := hl
  have hP : va_P D vwCl [oPC po vs ho so] s.heap := hP
  have hD : va_D A [oPC po vs ho so] := hD
  refine lv_iload_n hx hb dX8_empty_0 rfl (lv_at hl 1 rfl) ?_
  refine lv_iconst (v := 1) hx hb dX8_empty_1 (by decide) ?_
  refine lv_icmp_lt (tgt := 11) hx hb dX8_empty_2 (by decide) (fun _ => ?_) (fun c_x => absurd hneg c_x)
  obtain ⟨sa9, hsa9⟩ := hXX.2.2 (90, "the capacity is out of range") (List.mem_of_getElem? (i := 13) rfl)
  exact hthr "java/lang/IllegalArgumentException" "the capacity is out of range" 88 90 92 11 sa9 _ _ _ [] rfl (by decide +kernel) kFit (hts (.classLink RX8 88 "java/lang/IllegalArgumentException") (List.mem_of_getElem? (i := 1) rfl)) (hts (.initialized "java/lang/IllegalArgumentException") (List.mem_of_getElem? (i := 2) rfl)) hsa9 (vx_hat (fun w h => hts w (List.mem_cons_of_mem _ (List.mem_append_right _ h))) kB_92 (kXB_ok hXX (by decide +kernel))) kG_92 (hl.1.trans hml.symm) dX8_empty_11 dX8_empty_14 dX8_empty_15 dX8_empty_17 dX8_empty_20 (Nat.le_of_ble_eq_true rfl) (Nat.le_of_ble_eq_true rfl) (Nat.le_of_ble_eq_true rfl) (Nat.le_of_ble_eq_true rfl) hP hD hS
set_option maxHeartbeats 4000000 in
set_option maxRecDepth 100000 in
theorem cx_X8_empty_hi (l : Launch) (D : va_G) (T : Nat → ClassId) (po vs ho so : Nat) (px : Int32) (hst9 : l.stackTraces = false) (hpos : ¬ px < 1) (hbig : ¬ px ≤ 9) : kXM l D T yX8_empty wsX8_empty rX8_empty_x [.ref po, .int px] [oPC po vs ho so] "java/lang/IllegalArgumentException" [oPC po vs ho so] := by
  refine kXM.of (cc := cX8_empty) (maxL := 3) (ret := some .int) (by decide) rfl (Nat.le_of_ble_eq_true rfl) ?_ hst9
  intro p e s m below meth c A Q ls hx hb hml hown hts hC hP hD hS hA hl hXX hZ hthr hout hst8
  have hl : lv_has ls 3 [(0, .ref po), (1, .int px)] := hl
  have hP : va_P D vwCl [oPC po vs ho so] s.heap := hP
  have hD : va_D A [oPC po vs ho so] := hD
  refine lv_iload_n hx hb dX8_empty_0 rfl (lv_at hl 1 rfl) ?_
  refine lv_iconst (v := 1) hx hb dX8_empty_1 (by decide) ?_
  refine lv_icmp_lt (tgt := 11) hx hb dX8_empty_2 (by decide) (fun c_x => absurd c_x hpos) (fun _ => ?_)
  refine lv_iload_n hx hb dX8_empty_5 rfl (lv_at hl 1 rfl) ?_
  refine lv_bipush (v := 9) hx hb dX8_empty_6 (by decide) ?_
  refine lv_icmp_le (tgt := 21) hx hb dX8_empty_8 (by decide) (fun c_x => absurd c_x hbig) (fun _ => ?_)
  obtain ⟨sa9, hsa9⟩ := hXX.2.2 (90, "the capacity is out of range") (List.mem_of_getElem? (i := 13) rfl)
  exact hthr "java/lang/IllegalArgumentException" "the capacity is out of range" 88 90 92 11 sa9 _ _ _ [] rfl (by decide +kernel) kFit (hts (.classLink RX8 88 "java/lang/IllegalArgumentException") (List.mem_of_getElem? (i := 1) rfl)) (hts (.initialized "java/lang/IllegalArgumentException") (List.mem_of_getElem? (i := 2) rfl)) hsa9 (vx_hat (fun w h => hts w (List.mem_cons_of_mem _ (List.mem_append_right _ h))) kB_92 (kXB_ok hXX (by decide +kernel))) kG_92 (hl.1.trans hml.symm) dX8_empty_11 dX8_empty_14 dX8_empty_15 dX8_empty_17 dX8_empty_20 (Nat.le_of_ble_eq_true rfl) (Nat.le_of_ble_eq_true rfl) (Nat.le_of_ble_eq_true rfl) (Nat.le_of_ble_eq_true rfl) hP hD hS
abbrev rX8_mergeIn_x : Room := { frames := 7, cells := 1, slots := 6, locals := 110 }
set_option maxHeartbeats 4000000 in
set_option maxRecDepth 100000 in
theorem cx_X8_mergeIn_no (l : Launch) (D : va_G) (T : Nat → ClassId) (po ho so vs val : Nat) (via : Bool) (cq : Nat) (vol voxo voxc voxs voxg voyo voyc volt : Nat) (vofc vofs vofg : Nat → Int32) (voch vosz vorm : Int32) (vowf : Nat → Int32) (vowo vowz vowr : Int32) (votf : Nat → Int32) (hst9 : l.stackTraces = false) (hia : via = false) : kXM l D T yX8_mergeIn wsX8_mergeIn rX8_mergeIn_x [.ref po] [oPC po vs ho so, oSt vs vol val (bI via) (nI cq), oLi vol voxo voyo volt, oFL voxo voxc voxs voxg voch vosz vorm, aI T voxc 26 vofc, aI T voxs 26 vofs, aI T voxg 26 vofg, oSL voyo voyc vowo vowz vowr, aI T voyc 26 vowf, aI T volt 26 votf] "java/lang/IllegalStateException" [oPC po vs ho so, oSt vs vol val (bI via) (nI cq), oLi vol voxo voyo volt, oFL voxo voxc voxs voxg voch vosz vorm, aI T voxc 26 vofc, aI T voxs 26 vofs, aI T voxg 26 vofg, oSL voyo voyc vowo vowz vowr, aI T voyc 26 vowf, aI T volt 26 votf] := by
  refine kXM.of (cc := cX8_mergeIn) (maxL := 1) (ret := some .int) (by decide) rfl (Nat.le_of_ble_eq_true rfl) ?_ hst9
  intro p e s m below meth c A Q ls hx hb hml hown hts hC hP hD hS hA hl hXX hZ hthr hout hst8
  have iX7 : ∀ w ∈ wsX70, w ∈ wsX8_mergeIn := (fun _ h => List.mem_cons_of_mem _ (List.mem_append_left _ (List.mem_append_left _ (List.mem_append_left _ (List.mem_append_left _ (List.mem_append_left _ (List.mem_append_right _ h)))))))
  have iX8 : ∀ w ∈ wsX80, w ∈ wsX8_mergeIn := (fun _ h => List.mem_cons_of_mem _ (List.mem_append_left _ (List.mem_append_left _ (List.mem_append_left _ (List.mem_append_left _ (List.mem_append_left _ (List.mem_append_left _ (List.mem_append_right _ h))))))))
  have hl : lv_has ls 1 [(0, .ref po)] := hl
  have hP : va_P D vwCl [oPC po vs ho so, oSt vs vol val (bI via) (nI cq), oLi vol voxo voyo volt, oFL voxo voxc voxs voxg voch vosz vorm, aI T voxc 26 vofc, aI T voxs 26 vofs, aI T voxg 26 vofg, oSL voyo voyc vowo vowz vowr, aI T voyc 26 vowf, aI T volt 26 votf] s.heap := hP
  have hD : va_D A [oPC po vs ho so, oSt vs vol val (bI via) (nI cq), oLi vol voxo voyo volt, oFL voxo voxc voxs voxg voch vosz vorm, aI T voxc 26 vofc, aI T voxs 26 vofs, aI T voxg 26 vofg, oSL voyo voyc vowo vowz vowr, aI T voyc 26 vowf, aI T volt 26 votf] := hD
  refine lv_aload_n hx hb dX8_mergeIn_0 rfl (lv_at hl 0 rfl) ?_
  refine va_get (D := D) (ci := 7) (v := .ref vs) (C := RX8) (T := TX8) (N := 3) hx hb hts iX8 hown hC.1 hP 0 rfl rfl 0 (by decide) (hts (.fieldLink RX8 10 "ParrotCounts" "state" "LParrotCounts$State;") (List.mem_of_getElem? (i := 3) rfl)) (fun _ h => h) rfl dX8_mergeIn_1 ?_
  refine va_get (D := D) (ci := 6) (v := .int (bI via)) (C := RX7) (T := TX7) (N := 4) hx hb hts iX7 hown hC.1 hP 1 rfl rfl 2 (by decide) (hts (.fieldLink RX8 102 "ParrotCounts$State" "isAside" "Z") (List.mem_of_getElem? (i := 4) rfl)) (fun _ h => h) rfl dX8_mergeIn_4 ?_
  refine lv_if_ne (tgt := 20) hx hb dX8_mergeIn_7 (by decide) (fun c_x => absurd (by rw [hia]; rfl) c_x) (fun _ => ?_)
  obtain ⟨sa9, hsa9⟩ := hXX.2.2 (106, "nothing is aside") (List.mem_of_getElem? (i := 4) rfl)
  exact hthr "java/lang/IllegalStateException" "nothing is aside" 70 106 74 10 sa9 _ _ _ [] rfl (by decide +kernel) kFit (hts (.classLink RX8 70 "java/lang/IllegalStateException") (List.mem_of_getElem? (i := 1) rfl)) (hts (.initialized "java/lang/IllegalStateException") (List.mem_of_getElem? (i := 2) rfl)) hsa9 (vx_hat (fun w h => hts w (List.mem_cons_of_mem _ (List.mem_append_right _ h))) kB_74 (kXB_ok hXX (by decide +kernel))) kG_74 (hl.1.trans hml.symm) dX8_mergeIn_10 dX8_mergeIn_13 dX8_mergeIn_14 dX8_mergeIn_16 dX8_mergeIn_19 (Nat.le_of_ble_eq_true rfl) (Nat.le_of_ble_eq_true rfl) (Nat.le_of_ble_eq_true rfl) (Nat.le_of_ble_eq_true rfl) hP hD hS
set_option maxHeartbeats 4000000 in
set_option maxRecDepth 100000 in
theorem cx_X8_mergeIn_many (l : Launch) (D : va_G) (T : Nat → ClassId) (po ho so vs val : Nat) (via : Bool) (cq : Nat) (vol voxo voxc voxs voxg voyo voyc volt : Nat) (vofc vofs vofg : Nat → Int32) (voch vosz vorm : Int32) (vowf : Nat → Int32) (vowo vowz vowr : Int32) (votf : Nat → Int32) (vaxo vaxc vaxs vaxg vayo vayc valt : Nat) (vafc vafs vafg : Nat → Int32) (vach vasz varm : Int32) (vawf : Nat → Int32) (vawo vawz vawr : Int32) (vatf : Nat → Int32) (hst9 : l.stackTraces = false) (hia : via = true) (hm : ¬ smN votf 26 + smN vatf 26 ≤ 99999) : kXM l D T yX8_mergeIn wsX8_mergeIn rX8_mergeIn_x [.ref po] [oPC po vs ho so, oSt vs vol val (bI via) (nI cq), oLi vol voxo voyo volt, oFL voxo voxc voxs voxg voch vosz vorm, aI T voxc 26 vofc, aI T voxs 26 vofs, aI T voxg 26 vofg, oSL voyo voyc vowo vowz vowr, aI T voyc 26 vowf, aI T volt 26 votf, oLi val vaxo vayo valt, oFL vaxo vaxc vaxs vaxg vach vasz varm, aI T vaxc 26 vafc, aI T vaxs 26 vafs, aI T vaxg 26 vafg, oSL vayo vayc vawo vawz vawr, aI T vayc 26 vawf, aI T valt 26 vatf] "java/lang/IllegalStateException" [oPC po vs ho so, oSt vs vol val (bI via) (nI cq), oLi vol voxo voyo volt, oFL voxo voxc voxs voxg voch vosz vorm, aI T voxc 26 vofc, aI T voxs 26 vofs, aI T voxg 26 vofg, oSL voyo voyc vowo vowz vowr, aI T voyc 26 vowf, aI T volt 26 votf, oLi val vaxo vayo valt, oFL vaxo vaxc vaxs vaxg vach vasz varm, aI T vaxc 26 vafc, aI T vaxs 26 vafs, aI T vaxg 26 vafg, oSL vayo vayc vawo vawz vawr, aI T vayc 26 vawf, aI T valt 26 vatf] := by
  refine kXM.of (cc := cX8_mergeIn) (maxL := 1) (ret := some .int) (by decide) rfl (Nat.le_of_ble_eq_true rfl) ?_ hst9
  intro p e s m below meth c A Q ls hx hb hml hown hts hC hP hD hS hA hl hXX hZ hthr hout hst8
  have iX7 : ∀ w ∈ wsX70, w ∈ wsX8_mergeIn := (fun _ h => List.mem_cons_of_mem _ (List.mem_append_left _ (List.mem_append_left _ (List.mem_append_left _ (List.mem_append_left _ (List.mem_append_left _ (List.mem_append_right _ h)))))))
  have iX8 : ∀ w ∈ wsX80, w ∈ wsX8_mergeIn := (fun _ h => List.mem_cons_of_mem _ (List.mem_append_left _ (List.mem_append_left _ (List.mem_append_left _ (List.mem_append_left _ (List.mem_append_left _ (List.mem_append_left _ (List.mem_append_right _ h))))))))
  have hl : lv_has ls 1 [(0, .ref po)] := hl
  have hP : va_P D vwCl [oPC po vs ho so, oSt vs vol val (bI via) (nI cq), oLi vol voxo voyo volt, oFL voxo voxc voxs voxg voch vosz vorm, aI T voxc 26 vofc, aI T voxs 26 vofs, aI T voxg 26 vofg, oSL voyo voyc vowo vowz vowr, aI T voyc 26 vowf, aI T volt 26 votf, oLi val vaxo vayo valt, oFL vaxo vaxc vaxs vaxg vach vasz varm, aI T vaxc 26 vafc, aI T vaxs 26 vafs, aI T vaxg 26 vafg, oSL vayo vayc vawo vawz vawr, aI T vayc 26 vawf, aI T valt 26 vatf] s.heap := hP
  have hD : va_D A [oPC po vs ho so, oSt vs vol val (bI via) (nI cq), oLi vol voxo voyo volt, oFL voxo voxc voxs voxg voch vosz vorm, aI T voxc 26 vofc, aI T voxs 26 vofs, aI T voxg 26 vofg, oSL voyo voyc vowo vowz vowr, aI T voyc 26 vowf, aI T volt 26 votf, oLi val vaxo vayo valt, oFL vaxo vaxc vaxs vaxg vach vasz varm, aI T vaxc 26 vafc, aI T vaxs 26 vafs, aI T vaxg 26 vafg, oSL vayo vayc vawo vawz vawr, aI T vayc 26 vawf, aI T valt 26 vatf] := hD
  refine lv_aload_n hx hb dX8_mergeIn_0 rfl (lv_at hl 0 rfl) ?_
  refine va_get (D := D) (ci := 7) (v := .ref vs) (C := RX8) (T := TX8) (N := 3) hx hb hts iX8 hown hC.1 hP 0 rfl rfl 0 (by decide) (hts (.fieldLink RX8 10 "ParrotCounts" "state" "LParrotCounts$State;") (List.mem_of_getElem? (i := 3) rfl)) (fun _ h => h) rfl dX8_mergeIn_1 ?_
  refine va_get (D := D) (ci := 6) (v := .int (bI via)) (C := RX7) (T := TX7) (N := 4) hx hb hts iX7 hown hC.1 hP 1 rfl rfl 2 (by decide) (hts (.fieldLink RX8 102 "ParrotCounts$State" "isAside" "Z") (List.mem_of_getElem? (i := 4) rfl)) (fun _ h => h) rfl dX8_mergeIn_4 ?_
  refine lv_if_ne (tgt := 20) hx hb dX8_mergeIn_7 (by decide) (fun _ => ?_) (fun c_x => absurd c_x (fun e => by rw [hia] at e; exact absurd e (by decide)))
  refine lv_aload_n hx hb dX8_mergeIn_20 rfl (lv_at hl 0 rfl) ?_
  refine va_get (D := D) (ci := 7) (v := .ref vs) (C := RX8) (T := TX8) (N := 3) hx hb hts iX8 hown hC.1 hP 0 rfl rfl 0 (by decide) (hts (.fieldLink RX8 10 "ParrotCounts" "state" "LParrotCounts$State;") (List.mem_of_getElem? (i := 3) rfl)) (fun _ h => h) rfl dX8_mergeIn_21 ?_
  refine va_get (D := D) (ci := 6) (v := .ref vol) (C := RX7) (T := TX7) (N := 4) hx hb hts iX7 hown hC.1 hP 1 rfl rfl 0 (by decide) (hts (.fieldLink RX8 37 "ParrotCounts$State" "own" "LParrotCounts$Listener;") (List.mem_of_getElem? (i := 5) rfl)) (fun _ h => h) rfl dX8_mergeIn_24 ?_
  have hP := hP.sub (ws' := [oLi vol voxo voyo volt, oFL voxo voxc voxs voxg voch vosz vorm, aI T voxc 26 vofc, aI T voxs 26 vofs, aI T voxg 26 vofg, oSL voyo voyc vowo vowz vowr, aI T voyc 26 vowf, aI T volt 26 votf] ++ [oPC po vs ho so, oSt vs vol val (bI via) (nI cq), oLi val vaxo vayo valt, oFL vaxo vaxc vaxs vaxg vach vasz varm, aI T vaxc 26 vafc, aI T vaxs 26 vafs, aI T vaxg 26 vafg, oSL vayo vayc vawo vawz vawr, aI T vayc 26 vawf, aI T valt 26 vatf]) [2, 3, 4, 5, 6, 7, 8, 9, 0, 1, 10, 11, 12, 13, 14, 15, 16, 17] rfl
  have hD := hD.sub (ws' := [oLi vol voxo voyo volt, oFL voxo voxc voxs voxg voch vosz vorm, aI T voxc 26 vofc, aI T voxs 26 vofs, aI T voxg 26 vofg, oSL voyo voyc vowo vowz vowr, aI T voyc 26 vowf, aI T volt 26 votf] ++ [oPC po vs ho so, oSt vs vol val (bI via) (nI cq), oLi val vaxo vayo valt, oFL vaxo vaxc vaxs vaxg vach vasz varm, aI T vaxc 26 vafc, aI T vaxs 26 vafs, aI T vaxg 26 vafg, oSL vayo vayc vawo vawz vawr, aI T vayc 26 vawf, aI T valt 26 vatf]) [2, 3, 4, 5, 6, 7, 8, 9, 0, 1, 10, 11, 12, 13, 14, 15, 16, 17] (by decide) rfl
  refine kV (ci := 2) (As := []) (rest := []) ⟨hx, hb, hml, hown, hts⟩ (c_X2_sumOfCalls l D T vol voxo voxc voxs voxg voyo voyc volt vofc vofs vofg voch vosz vorm vowf vowo vowz vowr votf ) (cwV 0 hts gX8_mergeIn_X2_sumOfCalls rfl rfl rfl (by decide +kernel) ⟨Nat.le_of_ble_eq_true rfl, Nat.le_of_ble_eq_true rfl⟩) hC hP hD hS hA rfl rfl rfl hl.1 rfl (Nat.le_of_ble_eq_true rfl) dX8_mergeIn_27 ⟨Nat.zero_le _, Nat.zero_le _⟩ (fun H locs hP hD hS => ?_)
  have hP := hP.sub (ws' := [oPC po vs ho so, oSt vs vol val (bI via) (nI cq), oLi vol voxo voyo volt, oFL voxo voxc voxs voxg voch vosz vorm, aI T voxc 26 vofc, aI T voxs 26 vofs, aI T voxg 26 vofg, oSL voyo voyc vowo vowz vowr, aI T voyc 26 vowf, aI T volt 26 votf, oLi val vaxo vayo valt, oFL vaxo vaxc vaxs vaxg vach vasz varm, aI T vaxc 26 vafc, aI T vaxs 26 vafs, aI T vaxg 26 vafg, oSL vayo vayc vawo vawz vawr, aI T vayc 26 vawf, aI T valt 26 vatf]) [8, 9, 0, 1, 2, 3, 4, 5, 6, 7, 10, 11, 12, 13, 14, 15, 16, 17] rfl
  have hD := hD.sub (ws' := [oPC po vs ho so, oSt vs vol val (bI via) (nI cq), oLi vol voxo voyo volt, oFL voxo voxc voxs voxg voch vosz vorm, aI T voxc 26 vofc, aI T voxs 26 vofs, aI T voxg 26 vofg, oSL voyo voyc vowo vowz vowr, aI T voyc 26 vowf, aI T volt 26 votf, oLi val vaxo vayo valt, oFL vaxo vaxc vaxs vaxg vach vasz varm, aI T vaxc 26 vafc, aI T vaxs 26 vafs, aI T vaxg 26 vafg, oSL vayo vayc vawo vawz vawr, aI T vayc 26 vawf, aI T valt 26 vatf]) [8, 9, 0, 1, 2, 3, 4, 5, 6, 7, 10, 11, 12, 13, 14, 15, 16, 17] (by decide) rfl
  refine W.eq (g2 := F0 m 30 ls [.int (smN votf 26)]) rfl ?_
  refine lv_aload_n hx hb dX8_mergeIn_30 rfl (lv_at hl 0 rfl) ?_
  refine va_get (D := D) (ci := 7) (v := .ref vs) (C := RX8) (T := TX8) (N := 3) hx hb hts iX8 hown hC.1 hP 0 rfl rfl 0 (by decide) (hts (.fieldLink RX8 10 "ParrotCounts" "state" "LParrotCounts$State;") (List.mem_of_getElem? (i := 3) rfl)) (fun _ h => h) rfl dX8_mergeIn_31 ?_
  refine va_get (D := D) (ci := 6) (v := .ref val) (C := RX7) (T := TX7) (N := 4) hx hb hts iX7 hown hC.1 hP 1 rfl rfl 1 (by decide) (hts (.fieldLink RX8 99 "ParrotCounts$State" "aside" "LParrotCounts$Listener;") (List.mem_of_getElem? (i := 6) rfl)) (fun _ h => h) rfl dX8_mergeIn_34 ?_
  have hP := hP.sub (ws' := [oLi val vaxo vayo valt, oFL vaxo vaxc vaxs vaxg vach vasz varm, aI T vaxc 26 vafc, aI T vaxs 26 vafs, aI T vaxg 26 vafg, oSL vayo vayc vawo vawz vawr, aI T vayc 26 vawf, aI T valt 26 vatf] ++ [oPC po vs ho so, oSt vs vol val (bI via) (nI cq), oLi vol voxo voyo volt, oFL voxo voxc voxs voxg voch vosz vorm, aI T voxc 26 vofc, aI T voxs 26 vofs, aI T voxg 26 vofg, oSL voyo voyc vowo vowz vowr, aI T voyc 26 vowf, aI T volt 26 votf]) [10, 11, 12, 13, 14, 15, 16, 17, 0, 1, 2, 3, 4, 5, 6, 7, 8, 9] rfl
  have hD := hD.sub (ws' := [oLi val vaxo vayo valt, oFL vaxo vaxc vaxs vaxg vach vasz varm, aI T vaxc 26 vafc, aI T vaxs 26 vafs, aI T vaxg 26 vafg, oSL vayo vayc vawo vawz vawr, aI T vayc 26 vawf, aI T valt 26 vatf] ++ [oPC po vs ho so, oSt vs vol val (bI via) (nI cq), oLi vol voxo voyo volt, oFL voxo voxc voxs voxg voch vosz vorm, aI T voxc 26 vofc, aI T voxs 26 vofs, aI T voxg 26 vofg, oSL voyo voyc vowo vowz vowr, aI T voyc 26 vowf, aI T volt 26 votf]) [10, 11, 12, 13, 14, 15, 16, 17, 0, 1, 2, 3, 4, 5, 6, 7, 8, 9] (by decide) rfl
  refine kV (ci := 2) (As := []) (rest := [.int (smN votf 26)]) ⟨hx, hb, hml, hown, hts⟩ (c_X2_sumOfCalls l D T val vaxo vaxc vaxs vaxg vayo vayc valt vafc vafs vafg vach vasz varm vawf vawo vawz vawr vatf ) (cwV 0 hts gX8_mergeIn_X2_sumOfCalls rfl rfl rfl (by decide +kernel) ⟨Nat.le_of_ble_eq_true rfl, Nat.le_of_ble_eq_true rfl⟩) hC hP hD hS hA rfl rfl rfl hl.1 rfl (Nat.le_of_ble_eq_true rfl) dX8_mergeIn_37 ⟨Nat.zero_le _, Nat.zero_le _⟩ (fun H locs hP hD hS => ?_)
  have hP := hP.sub (ws' := [oPC po vs ho so, oSt vs vol val (bI via) (nI cq), oLi vol voxo voyo volt, oFL voxo voxc voxs voxg voch vosz vorm, aI T voxc 26 vofc, aI T voxs 26 vofs, aI T voxg 26 vofg, oSL voyo voyc vowo vowz vowr, aI T voyc 26 vowf, aI T volt 26 votf, oLi val vaxo vayo valt, oFL vaxo vaxc vaxs vaxg vach vasz varm, aI T vaxc 26 vafc, aI T vaxs 26 vafs, aI T vaxg 26 vafg, oSL vayo vayc vawo vawz vawr, aI T vayc 26 vawf, aI T valt 26 vatf]) [8, 9, 10, 11, 12, 13, 14, 15, 16, 17, 0, 1, 2, 3, 4, 5, 6, 7] rfl
  have hD := hD.sub (ws' := [oPC po vs ho so, oSt vs vol val (bI via) (nI cq), oLi vol voxo voyo volt, oFL voxo voxc voxs voxg voch vosz vorm, aI T voxc 26 vofc, aI T voxs 26 vofs, aI T voxg 26 vofg, oSL voyo voyc vowo vowz vowr, aI T voyc 26 vowf, aI T volt 26 votf, oLi val vaxo vayo valt, oFL vaxo vaxc vaxs vaxg vach vasz varm, aI T vaxc 26 vafc, aI T vaxs 26 vafs, aI T vaxg 26 vafg, oSL vayo vayc vawo vawz vawr, aI T vayc 26 vawf, aI T valt 26 vatf]) [8, 9, 10, 11, 12, 13, 14, 15, 16, 17, 0, 1, 2, 3, 4, 5, 6, 7] (by decide) rfl
  refine W.eq (g2 := F0 m 40 ls [.int (smN vatf 26), .int (smN votf 26)]) rfl ?_
  refine lv_iadd hx hb dX8_mergeIn_40 ?_
  have hP := hP.sub (ws' := [] ++ [oPC po vs ho so, oSt vs vol val (bI via) (nI cq), oLi vol voxo voyo volt, oFL voxo voxc voxs voxg voch vosz vorm, aI T voxc 26 vofc, aI T voxs 26 vofs, aI T voxg 26 vofg, oSL voyo voyc vowo vowz vowr, aI T voyc 26 vowf, aI T volt 26 votf, oLi val vaxo vayo valt, oFL vaxo vaxc vaxs vaxg vach vasz varm, aI T vaxc 26 vafc, aI T vaxs 26 vafs, aI T vaxg 26 vafg, oSL vayo vayc vawo vawz vawr, aI T vayc 26 vawf, aI T valt 26 vatf]) [0, 1, 2, 3, 4, 5, 6, 7, 8, 9, 10, 11, 12, 13, 14, 15, 16, 17] rfl
  have hD := hD.sub (ws' := [] ++ [oPC po vs ho so, oSt vs vol val (bI via) (nI cq), oLi vol voxo voyo volt, oFL voxo voxc voxs voxg voch vosz vorm, aI T voxc 26 vofc, aI T voxs 26 vofs, aI T voxg 26 vofg, oSL voyo voyc vowo vowz vowr, aI T voyc 26 vowf, aI T volt 26 votf, oLi val vaxo vayo valt, oFL vaxo vaxc vaxs vaxg vach vasz varm, aI T vaxc 26 vafc, aI T vaxs 26 vafs, aI T vaxg 26 vafg, oSL vayo vayc vawo vawz vawr, aI T vayc 26 vawf, aI T valt 26 vatf]) [0, 1, 2, 3, 4, 5, 6, 7, 8, 9, 10, 11, 12, 13, 14, 15, 16, 17] (by decide) rfl
  refine kxS (As := [.int ((smN votf 26) + (smN vatf 26))]) (rest := []) ⟨hx, hb, hml, hown, hts⟩ (cx_X8_requireFewCalls l D T ((smN votf 26) + (smN vatf 26)) hst9 (by first | omega | assumption)) (va_cwS 1 hts gX8_mergeIn_X8_requireFewCalls rfl rfl rfl (by decide +kernel) ⟨Nat.le_of_ble_eq_true rfl, Nat.le_of_ble_eq_true rfl⟩) hC hXX hZ hP hD hS hA rfl hl.1 rfl (Nat.le_of_ble_eq_true rfl) dX8_mergeIn_41 ⟨Nat.le_of_ble_eq_true rfl, Nat.le_of_ble_eq_true rfl⟩ (fun H locs q ce hP hD hS h1 h2 h3 => ?_)
  have hP : va_P D vwCl [oPC po vs ho so, oSt vs vol val (bI via) (nI cq), oLi vol voxo voyo volt, oFL voxo voxc voxs voxg voch vosz vorm, aI T voxc 26 vofc, aI T voxs 26 vofs, aI T voxg 26 vofg, oSL voyo voyc vowo vowz vowr, aI T voyc 26 vowf, aI T volt 26 votf, oLi val vaxo vayo valt, oFL vaxo vaxc vaxs vaxg vach vasz varm, aI T vaxc 26 vafc, aI T vaxs 26 vafs, aI T vaxg 26 vafg, oSL vayo vayc vawo vawz vawr, aI T vayc 26 vawf, aI T valt 26 vatf] H := hP
  have hD : va_D A [oPC po vs ho so, oSt vs vol val (bI via) (nI cq), oLi vol voxo voyo volt, oFL voxo voxc voxs voxg voch vosz vorm, aI T voxc 26 vofc, aI T voxs 26 vofs, aI T voxg 26 vofg, oSL voyo voyc vowo vowz vowr, aI T voyc 26 vowf, aI T volt 26 votf, oLi val vaxo vayo valt, oFL vaxo vaxc vaxs vaxg vach vasz varm, aI T vaxc 26 vafc, aI T vaxs 26 vafs, aI T vaxg 26 vafg, oSL vayo vayc vawo vawz vawr, aI T vayc 26 vawf, aI T valt 26 vatf] := hD
  exact hout _ _ _ _ _ _ _ _ _ hP hD hS h1 h2 h3 (Nat.le_refl _) (Nat.le_refl _)
abbrev rX8_append_x : Room := { frames := 6, cells := 1, slots := 6, locals := 90 }
set_option maxHeartbeats 4000000 in
set_option maxRecDepth 100000 in
theorem cx_X8_append_no (l : Launch) (D : va_G) (T : Nat → ClassId) (po vs ho so xc ro xu lc : Nat) (uc : Int32) (tc : Nat → Int32) (cx : Int32) (hst9 : l.stackTraces = false) (hlc : lc = 60) : kXM l D T yX8_append wsX8_append rX8_append_x [.ref po, .int cx] [oPC po vs ho so, oSo so xc ro xu (nI lc) uc, aC T xc 60 tc] "java/lang/IllegalStateException" [oPC po vs ho so, oSo so xc ro xu (nI lc) uc, aC T xc 60 tc] := by
  refine kXM.of (cc := cX8_append) (maxL := 2) (ret := some .int) (by decide) rfl (Nat.le_of_ble_eq_true rfl) ?_ hst9
  intro p e s m below meth c A Q ls hx hb hml hown hts hC hP hD hS hA hl hXX hZ hthr hout hst8
  have iX6 : ∀ w ∈ wsX60, w ∈ wsX8_append := (fun _ h => List.mem_cons_of_mem _ (List.mem_append_left _ (List.mem_append_right _ h)))
  have iX8 : ∀ w ∈ wsX80, w ∈ wsX8_append := (fun _ h => List.mem_cons_of_mem _ (List.mem_append_left _ (List.mem_append_left _ (List.mem_append_right _ h))))
  have hl : lv_has ls 2 [(0, .ref po), (1, .int cx)] := hl
  have hP : va_P D vwCl [oPC po vs ho so, oSo so xc ro xu (nI lc) uc, aC T xc 60 tc] s.heap := hP
  have hD : va_D A [oPC po vs ho so, oSo so xc ro xu (nI lc) uc, aC T xc 60 tc] := hD
  refine lv_aload_n hx hb dX8_append_0 rfl (lv_at hl 0 rfl) ?_
  refine va_get (D := D) (ci := 7) (v := .ref so) (C := RX8) (T := TX8) (N := 3) hx hb hts iX8 hown hC.1 hP 0 rfl rfl 2 (by decide) (hts (.fieldLink RX8 26 "ParrotCounts" "text" "LParrotCounts$SongText;") (List.mem_of_getElem? (i := 3) rfl)) (fun _ h => h) rfl dX8_append_1 ?_
  refine va_get (D := D) (ci := 5) (v := .int (nI lc)) (C := RX6) (T := TX6) (N := 5) hx hb hts iX6 hown hC.1 hP 1 rfl rfl 3 (by decide) (hts (.fieldLink RX8 111 "ParrotCounts$SongText" "length" "I") (List.mem_of_getElem? (i := 4) rfl)) (fun _ h => h) rfl dX8_append_4 ?_
  refine lv_bipush (v := 60) hx hb dX8_append_7 (by decide) ?_
  refine lv_icmp_lt (tgt := 22) hx hb dX8_append_9 (by decide) (fun c_x => absurd c_x (by rw [hlc]; decide)) (fun _ => ?_)
  obtain ⟨sa9, hsa9⟩ := hXX.2.2 (114, "the text is full") (List.mem_of_getElem? (i := 5) rfl)
  exact hthr "java/lang/IllegalStateException" "the text is full" 70 114 74 12 sa9 _ _ _ [] rfl (by decide +kernel) kFit (hts (.classLink RX8 70 "java/lang/IllegalStateException") (List.mem_of_getElem? (i := 1) rfl)) (hts (.initialized "java/lang/IllegalStateException") (List.mem_of_getElem? (i := 2) rfl)) hsa9 (vx_hat (fun w h => hts w (List.mem_cons_of_mem _ (List.mem_append_right _ h))) kB_74 (kXB_ok hXX (by decide +kernel))) kG_74 (hl.1.trans hml.symm) dX8_append_12 dX8_append_15 dX8_append_16 dX8_append_18 dX8_append_21 (Nat.le_of_ble_eq_true rfl) (Nat.le_of_ble_eq_true rfl) (Nat.le_of_ble_eq_true rfl) (Nat.le_of_ble_eq_true rfl) hP hD hS
abbrev rX8_undo_x : Room := { frames := 6, cells := 1, slots := 6, locals := 90 }
set_option maxHeartbeats 4000000 in
set_option maxRecDepth 100000 in
theorem cx_X8_undo_no (l : Launch) (D : va_G) (T : Nat → ClassId) (po ho so vs ha hk hz : Nat) (hst9 : l.stackTraces = false) (hz0 : hz = 0) : kXM l D T yX8_undo wsX8_undo rX8_undo_x [.ref po] [oPC po vs ho so, oHi ho ha (nI hk) (nI hz)] "java/lang/IllegalStateException" [oPC po vs ho so, oHi ho ha (nI hk) (nI hz)] := by
  refine kXM.of (cc := cX8_undo) (maxL := 1) (ret := some .int) (by decide) rfl (Nat.le_of_ble_eq_true rfl) ?_ hst9
  intro p e s m below meth c A Q ls hx hb hml hown hts hC hP hD hS hA hl hXX hZ hthr hout hst8
  have iX1 : ∀ w ∈ wsX10, w ∈ wsX8_undo := (fun _ h => List.mem_cons_of_mem _ (List.mem_append_left _ (List.mem_append_left _ (List.mem_append_left _ (List.mem_append_left _ (List.mem_append_left _ (List.mem_append_right _ h)))))))
  have iX8 : ∀ w ∈ wsX80, w ∈ wsX8_undo := (fun _ h => List.mem_cons_of_mem _ (List.mem_append_left _ (List.mem_append_left _ (List.mem_append_left _ (List.mem_append_left _ (List.mem_append_left _ (List.mem_append_left _ (List.mem_append_right _ h))))))))
  have hl : lv_has ls 1 [(0, .ref po)] := hl
  have hP : va_P D vwCl [oPC po vs ho so, oHi ho ha (nI hk) (nI hz)] s.heap := hP
  have hD : va_D A [oPC po vs ho so, oHi ho ha (nI hk) (nI hz)] := hD
  refine lv_aload_n hx hb dX8_undo_0 rfl (lv_at hl 0 rfl) ?_
  refine va_get (D := D) (ci := 7) (v := .ref ho) (C := RX8) (T := TX8) (N := 3) hx hb hts iX8 hown hC.1 hP 0 rfl rfl 1 (by decide) (hts (.fieldLink RX8 19 "ParrotCounts" "history" "LParrotCounts$History;") (List.mem_of_getElem? (i := 3) rfl)) (fun _ h => h) rfl dX8_undo_1 ?_
  refine va_get (D := D) (ci := 1) (v := .int (nI hz)) (C := RX1) (T := TX1) (N := 3) hx hb hts iX1 hown hC.1 hP 1 rfl rfl 2 (by decide) (hts (.fieldLink RX8 129 "ParrotCounts$History" "size" "I") (List.mem_of_getElem? (i := 4) rfl)) (fun _ h => h) rfl dX8_undo_4 ?_
  refine lv_if_ne (tgt := 20) hx hb dX8_undo_7 (by decide) (fun c_x => absurd (by rw [hz0]; decide) c_x) (fun _ => ?_)
  obtain ⟨sa9, hsa9⟩ := hXX.2.2 (132, "the history is empty") (List.mem_of_getElem? (i := 7) rfl)
  exact hthr "java/lang/IllegalStateException" "the history is empty" 70 132 74 10 sa9 _ _ _ [] rfl (by decide +kernel) kFit (hts (.classLink RX8 70 "java/lang/IllegalStateException") (List.mem_of_getElem? (i := 1) rfl)) (hts (.initialized "java/lang/IllegalStateException") (List.mem_of_getElem? (i := 2) rfl)) hsa9 (vx_hat (fun w h => hts w (List.mem_cons_of_mem _ (List.mem_append_right _ h))) kB_74 (kXB_ok hXX (by decide +kernel))) kG_74 (hl.1.trans hml.symm) dX8_undo_10 dX8_undo_13 dX8_undo_14 dX8_undo_16 dX8_undo_19 (Nat.le_of_ble_eq_true rfl) (Nat.le_of_ble_eq_true rfl) (Nat.le_of_ble_eq_true rfl) (Nat.le_of_ble_eq_true rfl) hP hD hS
abbrev rX8_hearSong_x : Room := { frames := 7, cells := 1, slots := 6, locals := 123 }
set_option maxHeartbeats 4000000 in
set_option maxRecDepth 100000 in
theorem cx_X8_hearSong_bad (l : Launch) (D : va_G) (T : Nat → ClassId) (po vs ho so xc ro xu lc : Nat) (uc : Int32) (tc : Nat → Int32) (nu ti : Int32) (ip hp : Bool) (ca : Int32) (hst9 : l.stackTraces = false) (hlc : lc ≤ 60) (hns : song tc lc = false) : kXM l D T yX8_hearSong wsX8_hearSong rX8_hearSong_x [.ref po] [oPC po vs ho so, oSo so xc ro xu (nI lc) uc, aC T xc 60 tc, oRe ro nu ti (bI ip) (bI hp) ca] "java/lang/IllegalArgumentException" [oPC po vs ho so, oSo so xc ro xu (nI lc) uc, aC T xc 60 tc, oRe ro (rdF tc (rlN tc lc 0)).1 (rdF tc (rlN tc lc 0)).2.1 (bI (rdF tc (rlN tc lc 0)).2.2.1) (bI (rdF tc (rlN tc lc 0)).2.2.2.1) (rdF tc (rlN tc lc 0)).2.2.2.2] := by
  refine kXM.of (cc := cX8_hearSong) (maxL := 3) (ret := some .int) (by decide) rfl (Nat.le_of_ble_eq_true rfl) ?_ hst9
  intro p e s m below meth c A Q ls hx hb hml hown hts hC hP hD hS hA hl hXX hZ hthr hout hst8
  have hl : lv_has ls 3 [(0, .ref po)] := hl
  have hP : va_P D vwCl [oPC po vs ho so, oSo so xc ro xu (nI lc) uc, aC T xc 60 tc, oRe ro nu ti (bI ip) (bI hp) ca] s.heap := hP
  have hD : va_D A [oPC po vs ho so, oSo so xc ro xu (nI lc) uc, aC T xc 60 tc, oRe ro nu ti (bI ip) (bI hp) ca] := hD
  refine lv_aload_n hx hb dX8_hearSong_0 rfl (lv_at hl 0 rfl) ?_
  have hP := hP.sub (ws' := [oPC po vs ho so, oSo so xc ro xu (nI lc) uc, aC T xc 60 tc, oRe ro nu ti (bI ip) (bI hp) ca] ++ []) [0, 1, 2, 3] rfl
  have hD := hD.sub (ws' := [oPC po vs ho so, oSo so xc ro xu (nI lc) uc, aC T xc 60 tc, oRe ro nu ti (bI ip) (bI hp) ca] ++ []) [0, 1, 2, 3] (by decide) rfl
  refine kxV (ci := 7) (As := []) (rest := []) ⟨hx, hb, hml, hown, hts⟩ (cx_X8_requireSong l D T po vs ho so xc ro xu lc uc tc nu ti ip hp ca hst9 (by first | omega | assumption) (by first | omega | assumption)) (cwV 0 hts gX8_hearSong_X8_requireSong rfl rfl rfl (by decide +kernel) ⟨Nat.le_of_ble_eq_true rfl, Nat.le_of_ble_eq_true rfl⟩) hC hXX hZ hP hD hS hA rfl rfl rfl hl.1 rfl (Nat.le_of_ble_eq_true rfl) dX8_hearSong_1 ⟨Nat.le_of_ble_eq_true rfl, Nat.le_of_ble_eq_true rfl⟩ (fun H locs q ce hP hD hS h1 h2 h3 => ?_)
  have hP : va_P D vwCl [oPC po vs ho so, oSo so xc ro xu (nI lc) uc, aC T xc 60 tc, oRe ro (rdF tc (rlN tc lc 0)).1 (rdF tc (rlN tc lc 0)).2.1 (bI (rdF tc (rlN tc lc 0)).2.2.1) (bI (rdF tc (rlN tc lc 0)).2.2.2.1) (rdF tc (rlN tc lc 0)).2.2.2.2] H := hP
  have hD : va_D A [oPC po vs ho so, oSo so xc ro xu (nI lc) uc, aC T xc 60 tc, oRe ro (rdF tc (rlN tc lc 0)).1 (rdF tc (rlN tc lc 0)).2.1 (bI (rdF tc (rlN tc lc 0)).2.2.1) (bI (rdF tc (rlN tc lc 0)).2.2.2.1) (rdF tc (rlN tc lc 0)).2.2.2.2] := hD
  exact hout _ _ _ _ _ _ _ _ _ hP hD hS h1 h2 h3 (Nat.le_refl _) (Nat.le_refl _)
set_option maxHeartbeats 4000000 in
set_option maxRecDepth 100000 in
theorem cx_X8_hearSong_many1 (l : Launch) (D : va_G) (T : Nat → ClassId) (po vs ho so xc ro xu lc : Nat) (uc : Int32) (tc : Nat → Int32) (nu ti : Int32) (ip hp : Bool) (ca : Int32) (hst9 : l.stackTraces = false) (hlc : lc ≤ 60) (hsg : song tc lc = true) (hm : ¬ (rdF tc (rlN tc lc 0)).2.2.2.2 ≤ 1000) : kXM l D T yX8_hearSong wsX8_hearSong rX8_hearSong_x [.ref po] [oPC po vs ho so, oSo so xc ro xu (nI lc) uc, aC T xc 60 tc, oRe ro nu ti (bI ip) (bI hp) ca] "java/lang/IllegalStateException" [oPC po vs ho so, oSo so xc ro xu (nI lc) uc, aC T xc 60 tc, oRe ro (rdF tc (rlN tc lc 0)).1 (rdF tc (rlN tc lc 0)).2.1 (bI (rdF tc (rlN tc lc 0)).2.2.1) (bI (rdF tc (rlN tc lc 0)).2.2.2.1) (rdF tc (rlN tc lc 0)).2.2.2.2] := by
  refine kXM.of (cc := cX8_hearSong) (maxL := 3) (ret := some .int) (by decide) rfl (Nat.le_of_ble_eq_true rfl) ?_ hst9
  intro p e s m below meth c A Q ls hx hb hml hown hts hC hP hD hS hA hl hXX hZ hthr hout hst8
  have hl : lv_has ls 3 [(0, .ref po)] := hl
  have hP : va_P D vwCl [oPC po vs ho so, oSo so xc ro xu (nI lc) uc, aC T xc 60 tc, oRe ro nu ti (bI ip) (bI hp) ca] s.heap := hP
  have hD : va_D A [oPC po vs ho so, oSo so xc ro xu (nI lc) uc, aC T xc 60 tc, oRe ro nu ti (bI ip) (bI hp) ca] := hD
  refine lv_aload_n hx hb dX8_hearSong_0 rfl (lv_at hl 0 rfl) ?_
  have hP := hP.sub (ws' := [oPC po vs ho so, oSo so xc ro xu (nI lc) uc, aC T xc 60 tc, oRe ro nu ti (bI ip) (bI hp) ca] ++ []) [0, 1, 2, 3] rfl
  have hD := hD.sub (ws' := [oPC po vs ho so, oSo so xc ro xu (nI lc) uc, aC T xc 60 tc, oRe ro nu ti (bI ip) (bI hp) ca] ++ []) [0, 1, 2, 3] (by decide) rfl
  refine kV (ci := 7) (As := []) (rest := []) ⟨hx, hb, hml, hown, hts⟩ (c_X8_requireSong l D T po vs ho so xc ro xu lc uc tc nu ti ip hp ca (by first | omega | assumption) (by first | omega | assumption)) (cwV 0 hts gX8_hearSong_X8_requireSong rfl rfl rfl (by decide +kernel) ⟨Nat.le_of_ble_eq_true rfl, Nat.le_of_ble_eq_true rfl⟩) hC hP hD hS hA rfl rfl rfl hl.1 rfl (Nat.le_of_ble_eq_true rfl) dX8_hearSong_1 ⟨Nat.zero_le _, Nat.zero_le _⟩ (fun H locs hP hD hS => ?_)
  have hP : va_P D vwCl [oPC po vs ho so, oSo so xc ro xu (nI lc) uc, aC T xc 60 tc, oRe ro (rdF tc (rlN tc lc 0)).1 (rdF tc (rlN tc lc 0)).2.1 (bI (rdF tc (rlN tc lc 0)).2.2.1) (bI (rdF tc (rlN tc lc 0)).2.2.2.1) (rdF tc (rlN tc lc 0)).2.2.2.2] H := hP
  have hD : va_D A [oPC po vs ho so, oSo so xc ro xu (nI lc) uc, aC T xc 60 tc, oRe ro (rdF tc (rlN tc lc 0)).1 (rdF tc (rlN tc lc 0)).2.1 (bI (rdF tc (rlN tc lc 0)).2.2.1) (bI (rdF tc (rlN tc lc 0)).2.2.2.1) (rdF tc (rlN tc lc 0)).2.2.2.2] := hD
  refine W.eq (g2 := F0 m 4 ls [.int (rdF tc (rlN tc lc 0)).2.2.2.2]) rfl ?_
  refine lv_istore_n (lv' := [(1, .int (rdF tc (rlN tc lc 0)).2.2.2.2), (0, .ref po)]) hx hb dX8_hearSong_4 rfl hl (by decide) rfl (fun ls hl => ?_)
  refine lv_iload_n hx hb dX8_hearSong_5 rfl (lv_at hl 0 rfl) ?_
  refine lv_sipush (v := 1000) hx hb dX8_hearSong_6 (by decide) ?_
  refine lv_icmp_le (tgt := 22) hx hb dX8_hearSong_9 (by decide) (fun c_x => absurd c_x hm) (fun _ => ?_)
  obtain ⟨sa9, hsa9⟩ := hXX.2.2 (72, "the song has too many calls") (List.mem_of_getElem? (i := 12) rfl)
  exact hthr "java/lang/IllegalStateException" "the song has too many calls" 70 72 74 12 sa9 _ _ _ [] rfl (by decide +kernel) kFit (hts (.classLink RX8 70 "java/lang/IllegalStateException") (List.mem_of_getElem? (i := 1) rfl)) (hts (.initialized "java/lang/IllegalStateException") (List.mem_of_getElem? (i := 2) rfl)) hsa9 (vx_hat (fun w h => hts w (List.mem_cons_of_mem _ (List.mem_append_left _ (List.mem_append_right _ h)))) kB_74 (kXB_ok hXX (by decide +kernel))) kG_74 (hl.1.trans hml.symm) dX8_hearSong_12 dX8_hearSong_15 dX8_hearSong_16 dX8_hearSong_18 dX8_hearSong_21 (Nat.le_of_ble_eq_true rfl) (Nat.le_of_ble_eq_true rfl) (Nat.le_of_ble_eq_true rfl) (Nat.le_of_ble_eq_true rfl) hP hD hS
set_option maxHeartbeats 4000000 in
set_option maxRecDepth 100000 in
theorem cx_X8_hearSong_many2 (l : Launch) (D : va_G) (T : Nat → ClassId) (po ho so vs val xc ro xu lc : Nat) (uc : Int32) (tc : Nat → Int32) (nu ti : Int32) (ip hp : Bool) (ca : Int32) (via : Bool) (cq : Nat) (vol voxo voxc voxs voxg voyo voyc volt : Nat) (vofc vofs vofg : Nat → Int32) (voch vosz vorm : Int32) (vowf : Nat → Int32) (vowo vowz vowr : Int32) (votf : Nat → Int32) (hst9 : l.stackTraces = false) (hlc : lc ≤ 60) (hsg : song tc lc = true) (h1000 : (rdF tc (rlN tc lc 0)).2.2.2.2 ≤ 1000) (hm : ¬ smN votf 26 + (rdF tc (rlN tc lc 0)).2.2.2.2 ≤ 99999) : kXM l D T yX8_hearSong wsX8_hearSong rX8_hearSong_x [.ref po] [oPC po vs ho so, oSt vs vol val (bI via) (nI cq), oLi vol voxo voyo volt, oFL voxo voxc voxs voxg voch vosz vorm, aI T voxc 26 vofc, aI T voxs 26 vofs, aI T voxg 26 vofg, oSL voyo voyc vowo vowz vowr, aI T voyc 26 vowf, aI T volt 26 votf, oSo so xc ro xu (nI lc) uc, aC T xc 60 tc, oRe ro nu ti (bI ip) (bI hp) ca] "java/lang/IllegalStateException" [oPC po vs ho so, oSt vs vol val (bI via) (nI cq), oLi vol voxo voyo volt, oFL voxo voxc voxs voxg voch vosz vorm, aI T voxc 26 vofc, aI T voxs 26 vofs, aI T voxg 26 vofg, oSL voyo voyc vowo vowz vowr, aI T voyc 26 vowf, aI T volt 26 votf, oSo so xc ro xu (nI lc) uc, aC T xc 60 tc, oRe ro (rdF tc (rlN tc lc 0)).1 (rdF tc (rlN tc lc 0)).2.1 (bI (rdF tc (rlN tc lc 0)).2.2.1) (bI (rdF tc (rlN tc lc 0)).2.2.2.1) (rdF tc (rlN tc lc 0)).2.2.2.2] := by
  refine kXM.of (cc := cX8_hearSong) (maxL := 3) (ret := some .int) (by decide) rfl (Nat.le_of_ble_eq_true rfl) ?_ hst9
  intro p e s m below meth c A Q ls hx hb hml hown hts hC hP hD hS hA hl hXX hZ hthr hout hst8
  have iX7 : ∀ w ∈ wsX70, w ∈ wsX8_hearSong := (fun _ h => List.mem_cons_of_mem _ (List.mem_append_left _ (List.mem_append_left _ (List.mem_append_left _ (List.mem_append_left _ (List.mem_append_left _ (List.mem_append_left _ (List.mem_append_left _ (List.mem_append_left _ (List.mem_append_right _ h))))))))))
  have iX8 : ∀ w ∈ wsX80, w ∈ wsX8_hearSong := (fun _ h => List.mem_cons_of_mem _ (List.mem_append_left _ (List.mem_append_left _ (List.mem_append_left _ (List.mem_append_left _ (List.mem_append_left _ (List.mem_append_left _ (List.mem_append_left _ (List.mem_append_left _ (List.mem_append_left _ (List.mem_append_right _ h)))))))))))
  have hl : lv_has ls 3 [(0, .ref po)] := hl
  have hP : va_P D vwCl [oPC po vs ho so, oSt vs vol val (bI via) (nI cq), oLi vol voxo voyo volt, oFL voxo voxc voxs voxg voch vosz vorm, aI T voxc 26 vofc, aI T voxs 26 vofs, aI T voxg 26 vofg, oSL voyo voyc vowo vowz vowr, aI T voyc 26 vowf, aI T volt 26 votf, oSo so xc ro xu (nI lc) uc, aC T xc 60 tc, oRe ro nu ti (bI ip) (bI hp) ca] s.heap := hP
  have hD : va_D A [oPC po vs ho so, oSt vs vol val (bI via) (nI cq), oLi vol voxo voyo volt, oFL voxo voxc voxs voxg voch vosz vorm, aI T voxc 26 vofc, aI T voxs 26 vofs, aI T voxg 26 vofg, oSL voyo voyc vowo vowz vowr, aI T voyc 26 vowf, aI T volt 26 votf, oSo so xc ro xu (nI lc) uc, aC T xc 60 tc, oRe ro nu ti (bI ip) (bI hp) ca] := hD
  refine lv_aload_n hx hb dX8_hearSong_0 rfl (lv_at hl 0 rfl) ?_
  have hP := hP.sub (ws' := [oPC po vs ho so, oSo so xc ro xu (nI lc) uc, aC T xc 60 tc, oRe ro nu ti (bI ip) (bI hp) ca] ++ [oSt vs vol val (bI via) (nI cq), oLi vol voxo voyo volt, oFL voxo voxc voxs voxg voch vosz vorm, aI T voxc 26 vofc, aI T voxs 26 vofs, aI T voxg 26 vofg, oSL voyo voyc vowo vowz vowr, aI T voyc 26 vowf, aI T volt 26 votf]) [0, 10, 11, 12, 1, 2, 3, 4, 5, 6, 7, 8, 9] rfl
  have hD := hD.sub (ws' := [oPC po vs ho so, oSo so xc ro xu (nI lc) uc, aC T xc 60 tc, oRe ro nu ti (bI ip) (bI hp) ca] ++ [oSt vs vol val (bI via) (nI cq), oLi vol voxo voyo volt, oFL voxo voxc voxs voxg voch vosz vorm, aI T voxc 26 vofc, aI T voxs 26 vofs, aI T voxg 26 vofg, oSL voyo voyc vowo vowz vowr, aI T voyc 26 vowf, aI T volt 26 votf]) [0, 10, 11, 12, 1, 2, 3, 4, 5, 6, 7, 8, 9] (by decide) rfl
  refine kV (ci := 7) (As := []) (rest := []) ⟨hx, hb, hml, hown, hts⟩ (c_X8_requireSong l D T po vs ho so xc ro xu lc uc tc nu ti ip hp ca (by first | omega | assumption) (by first | omega | assumption)) (cwV 0 hts gX8_hearSong_X8_requireSong rfl rfl rfl (by decide +kernel) ⟨Nat.le_of_ble_eq_true rfl, Nat.le_of_ble_eq_true rfl⟩) hC hP hD hS hA rfl rfl rfl hl.1 rfl (Nat.le_of_ble_eq_true rfl) dX8_hearSong_1 ⟨Nat.zero_le _, Nat.zero_le _⟩ (fun H locs hP hD hS => ?_)
  have hP := hP.sub (ws' := [oPC po vs ho so, oSt vs vol val (bI via) (nI cq), oLi vol voxo voyo volt, oFL voxo voxc voxs voxg voch vosz vorm, aI T voxc 26 vofc, aI T voxs 26 vofs, aI T voxg 26 vofg, oSL voyo voyc vowo vowz vowr, aI T voyc 26 vowf, aI T volt 26 votf, oSo so xc ro xu (nI lc) uc, aC T xc 60 tc, oRe ro (rdF tc (rlN tc lc 0)).1 (rdF tc (rlN tc lc 0)).2.1 (bI (rdF tc (rlN tc lc 0)).2.2.1) (bI (rdF tc (rlN tc lc 0)).2.2.2.1) (rdF tc (rlN tc lc 0)).2.2.2.2]) [0, 4, 5, 6, 7, 8, 9, 10, 11, 12, 1, 2, 3] rfl
  have hD := hD.sub (ws' := [oPC po vs ho so, oSt vs vol val (bI via) (nI cq), oLi vol voxo voyo volt, oFL voxo voxc voxs voxg voch vosz vorm, aI T voxc 26 vofc, aI T voxs 26 vofs, aI T voxg 26 vofg, oSL voyo voyc vowo vowz vowr, aI T voyc 26 vowf, aI T volt 26 votf, oSo so xc ro xu (nI lc) uc, aC T xc 60 tc, oRe ro (rdF tc (rlN tc lc 0)).1 (rdF tc (rlN tc lc 0)).2.1 (bI (rdF tc (rlN tc lc 0)).2.2.1) (bI (rdF tc (rlN tc lc 0)).2.2.2.1) (rdF tc (rlN tc lc 0)).2.2.2.2]) [0, 4, 5, 6, 7, 8, 9, 10, 11, 12, 1, 2, 3] (by decide) rfl
  refine W.eq (g2 := F0 m 4 ls [.int (rdF tc (rlN tc lc 0)).2.2.2.2]) rfl ?_
  refine lv_istore_n (lv' := [(1, .int (rdF tc (rlN tc lc 0)).2.2.2.2), (0, .ref po)]) hx hb dX8_hearSong_4 rfl hl (by decide) rfl (fun ls hl => ?_)
  refine lv_iload_n hx hb dX8_hearSong_5 rfl (lv_at hl 0 rfl) ?_
  refine lv_sipush (v := 1000) hx hb dX8_hearSong_6 (by decide) ?_
  refine lv_icmp_le (tgt := 22) hx hb dX8_hearSong_9 (by decide) (fun _ => ?_) (fun c_x => absurd h1000 c_x)
  refine lv_aload_n hx hb dX8_hearSong_22 rfl (lv_at hl 1 rfl) ?_
  refine va_get (D := D) (ci := 7) (v := .ref vs) (C := RX8) (T := TX8) (N := 3) hx hb hts iX8 hown hC.1 hP 0 rfl rfl 0 (by decide) (hts (.fieldLink RX8 10 "ParrotCounts" "state" "LParrotCounts$State;") (List.mem_of_getElem? (i := 3) rfl)) (fun _ h => h) rfl dX8_hearSong_23 ?_
  refine va_get (D := D) (ci := 6) (v := .ref vol) (C := RX7) (T := TX7) (N := 4) hx hb hts iX7 hown hC.1 hP 1 rfl rfl 0 (by decide) (hts (.fieldLink RX8 37 "ParrotCounts$State" "own" "LParrotCounts$Listener;") (List.mem_of_getElem? (i := 4) rfl)) (fun _ h => h) rfl dX8_hearSong_26 ?_
  have hP := hP.sub (ws' := [oLi vol voxo voyo volt, oFL voxo voxc voxs voxg voch vosz vorm, aI T voxc 26 vofc, aI T voxs 26 vofs, aI T voxg 26 vofg, oSL voyo voyc vowo vowz vowr, aI T voyc 26 vowf, aI T volt 26 votf] ++ [oPC po vs ho so, oSt vs vol val (bI via) (nI cq), oSo so xc ro xu (nI lc) uc, aC T xc 60 tc, oRe ro (rdF tc (rlN tc lc 0)).1 (rdF tc (rlN tc lc 0)).2.1 (bI (rdF tc (rlN tc lc 0)).2.2.1) (bI (rdF tc (rlN tc lc 0)).2.2.2.1) (rdF tc (rlN tc lc 0)).2.2.2.2]) [2, 3, 4, 5, 6, 7, 8, 9, 0, 1, 10, 11, 12] rfl
  have hD := hD.sub (ws' := [oLi vol voxo voyo volt, oFL voxo voxc voxs voxg voch vosz vorm, aI T voxc 26 vofc, aI T voxs 26 vofs, aI T voxg 26 vofg, oSL voyo voyc vowo vowz vowr, aI T voyc 26 vowf, aI T volt 26 votf] ++ [oPC po vs ho so, oSt vs vol val (bI via) (nI cq), oSo so xc ro xu (nI lc) uc, aC T xc 60 tc, oRe ro (rdF tc (rlN tc lc 0)).1 (rdF tc (rlN tc lc 0)).2.1 (bI (rdF tc (rlN tc lc 0)).2.2.1) (bI (rdF tc (rlN tc lc 0)).2.2.2.1) (rdF tc (rlN tc lc 0)).2.2.2.2]) [2, 3, 4, 5, 6, 7, 8, 9, 0, 1, 10, 11, 12] (by decide) rfl
  refine kV (ci := 2) (As := []) (rest := []) ⟨hx, hb, hml, hown, hts⟩ (c_X2_sumOfCalls l D T vol voxo voxc voxs voxg voyo voyc volt vofc vofs vofg voch vosz vorm vowf vowo vowz vowr votf ) (cwV 0 hts gX8_hearSong_X2_sumOfCalls rfl rfl rfl (by decide +kernel) ⟨Nat.le_of_ble_eq_true rfl, Nat.le_of_ble_eq_true rfl⟩) hC hP hD hS hA rfl rfl rfl hl.1 rfl (Nat.le_of_ble_eq_true rfl) dX8_hearSong_29 ⟨Nat.zero_le _, Nat.zero_le _⟩ (fun H locs hP hD hS => ?_)
  have hP := hP.sub (ws' := [oPC po vs ho so, oSt vs vol val (bI via) (nI cq), oLi vol voxo voyo volt, oFL voxo voxc voxs voxg voch vosz vorm, aI T voxc 26 vofc, aI T voxs 26 vofs, aI T voxg 26 vofg, oSL voyo voyc vowo vowz vowr, aI T voyc 26 vowf, aI T volt 26 votf, oSo so xc ro xu (nI lc) uc, aC T xc 60 tc, oRe ro (rdF tc (rlN tc lc 0)).1 (rdF tc (rlN tc lc 0)).2.1 (bI (rdF tc (rlN tc lc 0)).2.2.1) (bI (rdF tc (rlN tc lc 0)).2.2.2.1) (rdF tc (rlN tc lc 0)).2.2.2.2]) [8, 9, 0, 1, 2, 3, 4, 5, 6, 7, 10, 11, 12] rfl
  have hD := hD.sub (ws' := [oPC po vs ho so, oSt vs vol val (bI via) (nI cq), oLi vol voxo voyo volt, oFL voxo voxc voxs voxg voch vosz vorm, aI T voxc 26 vofc, aI T voxs 26 vofs, aI T voxg 26 vofg, oSL voyo voyc vowo vowz vowr, aI T voyc 26 vowf, aI T volt 26 votf, oSo so xc ro xu (nI lc) uc, aC T xc 60 tc, oRe ro (rdF tc (rlN tc lc 0)).1 (rdF tc (rlN tc lc 0)).2.1 (bI (rdF tc (rlN tc lc 0)).2.2.1) (bI (rdF tc (rlN tc lc 0)).2.2.2.1) (rdF tc (rlN tc lc 0)).2.2.2.2]) [8, 9, 0, 1, 2, 3, 4, 5, 6, 7, 10, 11, 12] (by decide) rfl
  refine W.eq (g2 := F0 m 32 ls [.int (smN votf 26)]) rfl ?_
  refine lv_iload_n hx hb dX8_hearSong_32 rfl (lv_at hl 0 rfl) ?_
  refine lv_iadd hx hb dX8_hearSong_33 ?_
  have hP := hP.sub (ws' := [] ++ [oPC po vs ho so, oSt vs vol val (bI via) (nI cq), oLi vol voxo voyo volt, oFL voxo voxc voxs voxg voch vosz vorm, aI T voxc 26 vofc, aI T voxs 26 vofs, aI T voxg 26 vofg, oSL voyo voyc vowo vowz vowr, aI T voyc 26 vowf, aI T volt 26 votf, oSo so xc ro xu (nI lc) uc, aC T xc 60 tc, oRe ro (rdF tc (rlN tc lc 0)).1 (rdF tc (rlN tc lc 0)).2.1 (bI (rdF tc (rlN tc lc 0)).2.2.1) (bI (rdF tc (rlN tc lc 0)).2.2.2.1) (rdF tc (rlN tc lc 0)).2.2.2.2]) [0, 1, 2, 3, 4, 5, 6, 7, 8, 9, 10, 11, 12] rfl
  have hD := hD.sub (ws' := [] ++ [oPC po vs ho so, oSt vs vol val (bI via) (nI cq), oLi vol voxo voyo volt, oFL voxo voxc voxs voxg voch vosz vorm, aI T voxc 26 vofc, aI T voxs 26 vofs, aI T voxg 26 vofg, oSL voyo voyc vowo vowz vowr, aI T voyc 26 vowf, aI T volt 26 votf, oSo so xc ro xu (nI lc) uc, aC T xc 60 tc, oRe ro (rdF tc (rlN tc lc 0)).1 (rdF tc (rlN tc lc 0)).2.1 (bI (rdF tc (rlN tc lc 0)).2.2.1) (bI (rdF tc (rlN tc lc 0)).2.2.2.1) (rdF tc (rlN tc lc 0)).2.2.2.2]) [0, 1, 2, 3, 4, 5, 6, 7, 8, 9, 10, 11, 12] (by decide) rfl
  refine kxS (As := [.int ((smN votf 26) + (rdF tc (rlN tc lc 0)).2.2.2.2)]) (rest := []) ⟨hx, hb, hml, hown, hts⟩ (cx_X8_requireFewCalls l D T ((smN votf 26) + (rdF tc (rlN tc lc 0)).2.2.2.2) hst9 (by first | omega | assumption)) (va_cwS 1 hts gX8_hearSong_X8_requireFewCalls rfl rfl rfl (by decide +kernel) ⟨Nat.le_of_ble_eq_true rfl, Nat.le_of_ble_eq_true rfl⟩) hC hXX hZ hP hD hS hA rfl hl.1 rfl (Nat.le_of_ble_eq_true rfl) dX8_hearSong_34 ⟨Nat.le_of_ble_eq_true rfl, Nat.le_of_ble_eq_true rfl⟩ (fun H locs q ce hP hD hS h1 h2 h3 => ?_)
  have hP : va_P D vwCl [oPC po vs ho so, oSt vs vol val (bI via) (nI cq), oLi vol voxo voyo volt, oFL voxo voxc voxs voxg voch vosz vorm, aI T voxc 26 vofc, aI T voxs 26 vofs, aI T voxg 26 vofg, oSL voyo voyc vowo vowz vowr, aI T voyc 26 vowf, aI T volt 26 votf, oSo so xc ro xu (nI lc) uc, aC T xc 60 tc, oRe ro (rdF tc (rlN tc lc 0)).1 (rdF tc (rlN tc lc 0)).2.1 (bI (rdF tc (rlN tc lc 0)).2.2.1) (bI (rdF tc (rlN tc lc 0)).2.2.2.1) (rdF tc (rlN tc lc 0)).2.2.2.2] H := hP
  have hD : va_D A [oPC po vs ho so, oSt vs vol val (bI via) (nI cq), oLi vol voxo voyo volt, oFL voxo voxc voxs voxg voch vosz vorm, aI T voxc 26 vofc, aI T voxs 26 vofs, aI T voxg 26 vofg, oSL voyo voyc vowo vowz vowr, aI T voyc 26 vowf, aI T volt 26 votf, oSo so xc ro xu (nI lc) uc, aC T xc 60 tc, oRe ro (rdF tc (rlN tc lc 0)).1 (rdF tc (rlN tc lc 0)).2.1 (bI (rdF tc (rlN tc lc 0)).2.2.1) (bI (rdF tc (rlN tc lc 0)).2.2.2.1) (rdF tc (rlN tc lc 0)).2.2.2.2] := hD
  exact hout _ _ _ _ _ _ _ _ _ hP hD hS h1 h2 h3 (Nat.le_refl _) (Nat.le_refl _)
