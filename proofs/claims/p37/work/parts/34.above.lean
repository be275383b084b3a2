def abC (f : Nat → Int32) (sh : Int32) : Nat → Int32
  | 0 => 0
  | i + 1 => if f i * 1000 ≤ sh then abC f sh i else abC f sh i ||| ((1 : Int32) <<< (nI i &&& 31))
abbrev rX2_measured : Room := { frames := 4, cells := 0, slots := 0, locals := 86 }
set_option maxHeartbeats 4000000 in
set_option maxRecDepth 100000 in
theorem c_X2_measured_s (l : Launch) (D : va_G) (T : Nat → ClassId) (al axo axc axs axg ayo ayc alt : Nat) (afc afs afg : Nat → Int32) (ach asz arm : Int32) (awf : Nat → Int32) (awo awz awr : Int32) (atf : Nat → Int32) (pa : Nat) (hp : pa < 26) : kEM l D T yX2_measured wsX2_measured rX2_measured [.ref al, .int (nI pa), .ref (T 4)] [oLi al axo ayo alt, oFL axo axc axs axg ach asz arm, aI T axc 26 afc, aI T axs 26 afs, aI T axg 26 afg, oSL ayo ayc awo awz awr, aI T ayc 26 awf, aI T alt 26 atf] (some (.int (flSure afc afs pa))) [oLi al axo ayo alt, oFL axo axc axs axg ach asz arm, aI T axc 26 afc, aI T axs 26 afs, aI T axg 26 afg, oSL ayo ayc awo awz awr, aI T ayc 26 awf, aI T alt 26 atf] := by
  refine kEM.of (cc := cX2_measured) (maxL := 3) (ret := some .int) (by decide) rfl (Nat.le_of_ble_eq_true rfl) ?_
  intro p e s m below meth c A Q ls hx hb hml hown hr hlk hts hC hP hD hS hA hl hret hE
  have iX2 : ∀ w ∈ wsX20, w ∈ wsX2_measured := (fun _ h => List.mem_cons_of_mem _ (List.mem_append_left _ (List.mem_append_right _ h)))
  have hl : lv_has ls 3 [(0, .ref al), (1, .int (nI pa)), (2, .ref (T 4))] := hl
  have hP : va_P D vwCl [oLi al axo ayo alt, oFL axo axc axs axg ach asz arm, aI T axc 26 afc, aI T axs 26 afs, aI T axg 26 afg, oSL ayo ayc awo awz awr, aI T ayc 26 awf, aI T alt 26 atf] s.heap := hP
  have hD : va_D A [oLi al axo ayo alt, oFL axo axc axs axg ach asz arm, aI T axc 26 afc, aI T axs 26 afs, aI T axg 26 afg, oSL ayo ayc awo awz awr, aI T ayc 26 awf, aI T alt 26 atf] := hD
  refine lv_aload_n hx hb dX2_measured_0 rfl (lv_at hl 2 rfl) ?_
  refine va_gets (v := .ref (T 4)) (ref := "ParrotCounts$Measure") hx hb hE.1 hS hown (hts (.fieldLink RX2 64 "ParrotCounts$Measure" "SURE" "LParrotCounts$Measure;") (List.mem_of_getElem? (i := 1) rfl)) (fun _ h => h) dX2_measured_1 ?_
  refine lv_acmp_ne (rx := some (T 4)) (ry := some (T 4)) (tgt := 16) hx hb dX2_measured_4 (by decide) (fun c_x => absurd rfl c_x) (fun _ => ?_)
  refine lv_aload_n hx hb dX2_measured_7 rfl (lv_at hl 0 rfl) ?_
  refine va_get (D := D) (ci := 2) (v := .ref axo) (C := RX2) (T := TX2) (N := 3) hx hb hts iX2 hown hC.1 hP 0 rfl rfl 0 (by decide) (hts (.fieldLink RX2 12 "ParrotCounts$Listener" "first" "LParrotCounts$FirstList;") (List.mem_of_getElem? (i := 2) rfl)) (fun _ h => h) rfl dX2_measured_8 ?_
  refine lv_iload_n hx hb dX2_measured_11 rfl (lv_at hl 1 rfl) ?_
  have hP := hP.sub (ws' := [oFL axo axc axs axg ach asz arm, aI T axc 26 afc, aI T axs 26 afs, aI T axg 26 afg] ++ [oLi al axo ayo alt, oSL ayo ayc awo awz awr, aI T ayc 26 awf, aI T alt 26 atf]) [1, 2, 3, 4, 0, 5, 6, 7] rfl
  have hD := hD.sub (ws' := [oFL axo axc axs axg ach asz arm, aI T axc 26 afc, aI T axs 26 afs, aI T axg 26 afg] ++ [oLi al axo ayo alt, oSL ayo ayc awo awz awr, aI T ayc 26 awf, aI T alt 26 atf]) [1, 2, 3, 4, 0, 5, 6, 7] (by decide) rfl
  refine kV (ci := 0) (As := [.int (nI pa)]) (rest := []) ⟨hx, hb, hml, hown, hts⟩ (c_X0_sureOf l D T axo axc axs axg afc afs afg ach asz arm pa (by first | omega | assumption)) (cwV 1 hts gX2_measured_X0_sureOf rfl rfl rfl (by decide +kernel) ⟨Nat.le_of_ble_eq_true rfl, Nat.le_of_ble_eq_true rfl⟩) hC hP hD hS hA rfl rfl rfl hl.1 rfl (Nat.le_of_ble_eq_true rfl) dX2_measured_12 ⟨Nat.zero_le _, Nat.zero_le _⟩ (fun H locs hP hD hS => ?_)
  have hP := hP.sub (ws' := [oLi al axo ayo alt, oFL axo axc axs axg ach asz arm, aI T axc 26 afc, aI T axs 26 afs, aI T axg 26 afg, oSL ayo ayc awo awz awr, aI T ayc 26 awf, aI T alt 26 atf]) [4, 0, 1, 2, 3, 5, 6, 7] rfl
  have hD := hD.sub (ws' := [oLi al axo ayo alt, oFL axo axc axs axg ach asz arm, aI T axc 26 afc, aI T axs 26 afs, aI T axg 26 afg, oSL ayo ayc awo awz awr, aI T ayc 26 awf, aI T alt 26 atf]) [4, 0, 1, 2, 3, 5, 6, 7] (by decide) rfl
  refine W.eq (g2 := F0 m 15 ls [.int (flSure afc afs pa)]) rfl ?_
  exact hret _ _ _ _ _ (fun Qc free hq hf => W.iret hx hb hr hq hf dX2_measured_15 hlk) hP hD hS
set_option maxHeartbeats 4000000 in
set_option maxRecDepth 100000 in
theorem c_X2_measured_e (l : Launch) (D : va_G) (T : Nat → ClassId) (al axo axc axs axg ayo ayc alt : Nat) (afc afs afg : Nat → Int32) (ach asz arm : Int32) (awf : Nat → Int32) (awo awz awr : Int32) (atf : Nat → Int32) (pa : Nat) (hp : pa < 26) : kEM l D T yX2_measured wsX2_measured rX2_measured [.ref al, .int (nI pa), .ref (T 5)] [oLi al axo ayo alt, oFL axo axc axs axg ach asz arm, aI T axc 26 afc, aI T axs 26 afs, aI T axg 26 afg, oSL ayo ayc awo awz awr, aI T ayc 26 awf, aI T alt 26 atf] (some (.int (flEst afc afg asz arm pa))) [oLi al axo ayo alt, oFL axo axc axs axg ach asz arm, aI T axc 26 afc, aI T axs 26 afs, aI T axg 26 afg, oSL ayo ayc awo awz awr, aI T ayc 26 awf, aI T alt 26 atf] := by
  refine kEM.of (cc := cX2_measured) (maxL := 3) (ret := some .int) (by decide) rfl (Nat.le_of_ble_eq_true rfl) ?_
  intro p e s m below meth c A Q ls hx hb hml hown hr hlk hts hC hP hD hS hA hl hret hE
  have iX2 : ∀ w ∈ wsX20, w ∈ wsX2_measured := (fun _ h => List.mem_cons_of_mem _ (List.mem_append_left _ (List.mem_append_right _ h)))
  have hl : lv_has ls 3 [(0, .ref al), (1, .int (nI pa)), (2, .ref (T 5))] := hl
  have hP : va_P D vwCl [oLi al axo ayo alt, oFL axo axc axs axg ach asz arm, aI T axc 26 afc, aI T axs 26 afs, aI T axg 26 afg, oSL ayo ayc awo awz awr, aI T ayc 26 awf, aI T alt 26 atf] s.heap := hP
  have hD : va_D A [oLi al axo ayo alt, oFL axo axc axs axg ach asz arm, aI T axc 26 afc, aI T axs 26 afs, aI T axg 26 afg, oSL ayo ayc awo awz awr, aI T ayc 26 awf, aI T alt 26 atf] := hD
  refine lv_aload_n hx hb dX2_measured_0 rfl (lv_at hl 2 rfl) ?_
  refine va_gets (v := .ref (T 4)) (ref := "ParrotCounts$Measure") hx hb hE.1 hS hown (hts (.fieldLink RX2 64 "ParrotCounts$Measure" "SURE" "LParrotCounts$Measure;") (List.mem_of_getElem? (i := 1) rfl)) (fun _ h => h) dX2_measured_1 ?_
  refine lv_acmp_ne (rx := some (T 5)) (ry := some (T 4)) (tgt := 16) hx hb dX2_measured_4 (by decide) (fun _ => ?_) (fun c_x => absurd c_x (fun e => hE.2.2.1 e.symm))
  refine lv_aload_n hx hb dX2_measured_16 rfl (lv_at hl 2 rfl) ?_
  refine va_gets (v := .ref (T 5)) (ref := "ParrotCounts$Measure") hx hb hE.2.1 hS hown (hts (.fieldLink RX2 74 "ParrotCounts$Measure" "ESTIMATED" "LParrotCounts$Measure;") (List.mem_of_getElem? (i := 3) rfl)) (fun _ h => h) dX2_measured_17 ?_
  refine lv_acmp_ne (rx := some (T 5)) (ry := some (T 5)) (tgt := 34) hx hb dX2_measured_20 (by decide) (fun c_x => absurd rfl c_x) (fun _ => ?_)
  refine lv_aload_n hx hb dX2_measured_23 rfl (lv_at hl 0 rfl) ?_
  refine va_get (D := D) (ci := 2) (v := .ref axo) (C := RX2) (T := TX2) (N := 3) hx hb hts iX2 hown hC.1 hP 0 rfl rfl 0 (by decide) (hts (.fieldLink RX2 12 "ParrotCounts$Listener" "first" "LParrotCounts$FirstList;") (List.mem_of_getElem? (i := 2) rfl)) (fun _ h => h) rfl dX2_measured_24 ?_
  refine lv_iload_n hx hb dX2_measured_27 rfl (lv_at hl 1 rfl) ?_
  have hP := hP.sub (ws' := [oFL axo axc axs axg ach asz arm, aI T axc 26 afc, aI T axs 26 afs, aI T axg 26 afg] ++ [oLi al axo ayo alt, oSL ayo ayc awo awz awr, aI T ayc 26 awf, aI T alt 26 atf]) [1, 2, 3, 4, 0, 5, 6, 7] rfl
  have hD := hD.sub (ws' := [oFL axo axc axs axg ach asz arm, aI T axc 26 afc, aI T axs 26 afs, aI T axg 26 afg] ++ [oLi al axo ayo alt, oSL ayo ayc awo awz awr, aI T ayc 26 awf, aI T alt 26 atf]) [1, 2, 3, 4, 0, 5, 6, 7] (by decide) rfl
  refine kV (ci := 0) (As := [.int (nI pa)]) (rest := []) ⟨hx, hb, hml, hown, hts⟩ (c_X0_estimateOf l D T axo axc axs axg afc afs afg ach asz arm pa (by first | omega | assumption)) (cwV 1 hts gX2_measured_X0_estimateOf rfl rfl rfl (by decide +kernel) ⟨Nat.le_of_ble_eq_true rfl, Nat.le_of_ble_eq_true rfl⟩) hC hP hD hS hA rfl rfl rfl hl.1 rfl (Nat.le_of_ble_eq_true rfl) dX2_measured_28 ⟨Nat.zero_le _, Nat.zero_le _⟩ (fun H locs hP hD hS => ?_)
  have hP := hP.sub (ws' := [oLi al axo ayo alt, oFL axo axc axs axg ach asz arm, aI T axc 26 afc, aI T axs 26 afs, aI T axg 26 afg, oSL ayo ayc awo awz awr, aI T ayc 26 awf, aI T alt 26 atf]) [4, 0, 1, 2, 3, 5, 6, 7] rfl
  have hD := hD.sub (ws' := [oLi al axo ayo alt, oFL axo axc axs axg ach asz arm, aI T axc 26 afc, aI T axs 26 afs, aI T axg 26 afg, oSL ayo ayc awo awz awr, aI T ayc 26 awf, aI T alt 26 atf]) [4, 0, 1, 2, 3, 5, 6, 7] (by decide) rfl
  refine W.eq (g2 := F0 m 31 ls [.int (flEst afc afg asz arm pa)]) rfl ?_
  refine lv_goto (tgt := 40) hx hb dX2_measured_31 (by decide) ?_
  exact hret _ _ _ _ _ (fun Qc free hq hf => W.iret hx hb hr hq hf dX2_measured_40 hlk) hP hD hS
set_option maxHeartbeats 4000000 in
set_option maxRecDepth 100000 in
theorem c_X2_measured_t (l : Launch) (D : va_G) (T : Nat → ClassId) (al axo axc axs axg ayo ayc alt : Nat) (afc afs afg : Nat → Int32) (ach asz arm : Int32) (awf : Nat → Int32) (awo awz awr : Int32) (atf : Nat → Int32) (pa : Nat) (hp : pa < 26) : kEM l D T yX2_measured wsX2_measured rX2_measured [.ref al, .int (nI pa), .ref (T 6)] [oLi al axo ayo alt, oFL axo axc axs axg ach asz arm, aI T axc 26 afc, aI T axs 26 afs, aI T axg 26 afg, oSL ayo ayc awo awz awr, aI T ayc 26 awf, aI T alt 26 atf] (some (.int (atf pa))) [oLi al axo ayo alt, oFL axo axc axs axg ach asz arm, aI T axc 26 afc, aI T axs 26 afs, aI T axg 26 afg, oSL ayo ayc awo awz awr, aI T ayc 26 awf, aI T alt 26 atf] := by
  refine kEM.of (cc := cX2_measured) (maxL := 3) (ret := some .int) (by decide) rfl (Nat.le_of_ble_eq_true rfl) ?_
  intro p e s m below meth c A Q ls hx hb hml hown hr hlk hts hC hP hD hS hA hl hret hE
  have iX2 : ∀ w ∈ wsX20, w ∈ wsX2_measured := (fun _ h => List.mem_cons_of_mem _ (List.mem_append_left _ (List.mem_append_right _ h)))
  have hl : lv_has ls 3 [(0, .ref al), (1, .int (nI pa)), (2, .ref (T 6))] := hl
  have hP : va_P D vwCl [oLi al axo ayo alt, oFL axo axc axs axg ach asz arm, aI T axc 26 afc, aI T axs 26 afs, aI T axg 26 afg, oSL ayo ayc awo awz awr, aI T ayc 26 awf, aI T alt 26 atf] s.heap := hP
  have hD : va_D A [oLi al axo ayo alt, oFL axo axc axs axg ach asz arm, aI T axc 26 afc, aI T axs 26 afs, aI T axg 26 afg, oSL ayo ayc awo awz awr, aI T ayc 26 awf, aI T alt 26 atf] := hD
  refine lv_aload_n hx hb dX2_measured_0 rfl (lv_at hl 2 rfl) ?_
  refine va_gets (v := .ref (T 4)) (ref := "ParrotCounts$Measure") hx hb hE.1 hS hown (hts (.fieldLink RX2 64 "ParrotCounts$Measure" "SURE" "LParrotCounts$Measure;") (List.mem_of_getElem? (i := 1) rfl)) (fun _ h => h) dX2_measured_1 ?_
  refine lv_acmp_ne (rx := some (T 6)) (ry := some (T 4)) (tgt := 16) hx hb dX2_measured_4 (by decide) (fun _ => ?_) (fun c_x => absurd c_x (fun e => hE.2.2.2.1 e.symm))
  refine lv_aload_n hx hb dX2_measured_16 rfl (lv_at hl 2 rfl) ?_
  refine va_gets (v := .ref (T 5)) (ref := "ParrotCounts$Measure") hx hb hE.2.1 hS hown (hts (.fieldLink RX2 74 "ParrotCounts$Measure" "ESTIMATED" "LParrotCounts$Measure;") (List.mem_of_getElem? (i := 3) rfl)) (fun _ h => h) dX2_measured_17 ?_
  refine lv_acmp_ne (rx := some (T 6)) (ry := some (T 5)) (tgt := 34) hx hb dX2_measured_20 (by decide) (fun _ => ?_) (fun c_x => absurd c_x (fun e => hE.2.2.2.2.1 e.symm))
  refine lv_aload_n hx hb dX2_measured_34 rfl (lv_at hl 0 rfl) ?_
  refine va_get (D := D) (ci := 2) (v := .ref alt) (C := RX2) (T := TX2) (N := 3) hx hb hts iX2 hown hC.1 hP 0 rfl rfl 2 (by decide) (hts (.fieldLink RX2 25 "ParrotCounts$Listener" "trueCounts" "[I") (List.mem_of_getElem? (i := 4) rfl)) (fun _ h => h) rfl dX2_measured_35 ?_
  refine lv_iload_n hx hb dX2_measured_38 rfl (lv_at hl 1 rfl) ?_
  refine k_iald hx hb hC.1 hP 7 0 rfl rfl (by omega) dX2_measured_39 ?_
  exact hret _ _ _ _ _ (fun Qc free hq hf => W.iret hx hb hr hq hf dX2_measured_40 hlk) hP hD hS
abbrev rX8_parrotsAbove : Room := { frames := 5, cells := 0, slots := 0, locals := 108 }
set_option maxHeartbeats 4000000 in
set_option maxRecDepth 100000 in
theorem c_X8_parrotsAbove_s (l : Launch) (D : va_G) (T : Nat → ClassId) (po ho so vs val : Nat) (via : Bool) (cq : Nat) (vol voxo voxc voxs voxg voyo voyc volt : Nat) (vofc vofs vofg : Nat → Int32) (voch vosz vorm : Int32) (vowf : Nat → Int32) (vowo vowz vowr : Int32) (votf : Nat → Int32) (px : Int32) : kEM l D T yX8_parrotsAbove wsX8_parrotsAbove rX8_parrotsAbove [.ref po, .int px, .ref (T 4)] [oPC po vs ho so, oSt vs vol val (bI via) (nI cq), oLi vol voxo voyo volt, oFL voxo voxc voxs voxg voch vosz vorm, aI T voxc 26 vofc, aI T voxs 26 vofs, aI T voxg 26 vofg, oSL voyo voyc vowo vowz vowr, aI T voyc 26 vowf, aI T volt 26 votf] (some (.int (abC (flSure vofc vofs) (px * smN votf 26) 26))) [oPC po vs ho so, oSt vs vol val (bI via) (nI cq), oLi vol voxo voyo volt, oFL voxo voxc voxs voxg voch vosz vorm, aI T voxc 26 vofc, aI T voxs 26 vofs, aI T voxg 26 vofg, oSL voyo voyc vowo vowz vowr, aI T voyc 26 vowf, aI T volt 26 votf] := by
  refine kEM.of (cc := cX8_parrotsAbove) (maxL := 6) (ret := some .int) (by decide) rfl (Nat.le_of_ble_eq_true rfl) ?_
  intro p e s m below meth c A Q ls hx hb hml hown hr hlk hts hC hP hD hS hA hl hret hE
  have iX7 : ∀ w ∈ wsX70, w ∈ wsX8_parrotsAbove := (fun _ h => List.mem_cons_of_mem _ (List.mem_append_left _ (List.mem_append_left _ (List.mem_append_right _ h))))
  have iX8 : ∀ w ∈ wsX80, w ∈ wsX8_parrotsAbove := (fun _ h => List.mem_cons_of_mem _ (List.mem_append_left _ (List.mem_append_left _ (List.mem_append_left _ (List.mem_append_right _ h)))))
  have loop_19 : ∀ (n i : Nat), i + n = 26 → ∀ (H : Heap) (locs : List Loc) (ls : Array Slot), va_P D vwCl [oPC po vs ho so, oSt vs vol val (bI via) (nI cq), oLi vol voxo voyo volt, oFL voxo voxc voxs voxg voch vosz vorm, aI T voxc 26 vofc, aI T voxs 26 vofs, aI T voxg 26 vofg, oSL voyo voyc vowo vowz vowr, aI T voyc 26 vowf, aI T volt 26 votf] H → va_D A [oPC po vs ho so, oSt vs vol val (bI via) (nI cq), oLi vol voxo voyo volt, oFL voxo voxc voxs voxg voch vosz vorm, aI T voxc 26 vofc, aI T voxs 26 vofs, aI T voxg 26 vofg, oSL voyo voyc vowo vowz vowr, aI T voyc 26 vowf, aI T volt 26 votf] → va_S A s.heap H locs → lv_has ls 6 [(5, .int (nI i)), (4, .int (abC (flSure vofc vofs) (px * smN votf 26) i)), (3, .int (px * smN votf 26)), (0, .ref po), (1, .int px), (2, .ref (T 4))] → W p l e rX8_parrotsAbove s m [.ref po, .int px, .ref (T 4)].toArray below meth c H locs 0 0 Q (F0 m 19 ls []) := by
    intro n
    induction n with
    | zero =>
      intro i hi  H locs ls hP hD hS hl
      have hi9 : 26 = i := by omega
      subst hi9
      refine lv_iload hx hb dX8_parrotsAbove_19 (lv_at hl 0 rfl) ?_
      refine lv_bipush (v := 26) hx hb dX8_parrotsAbove_21 (by decide) ?_
      refine lv_icmp_ge (tgt := 62) hx hb dX8_parrotsAbove_23 (by decide) (fun _ => ?_) (fun c_x => absurd (by decide : (26 : Int32) ≤ nI 26) c_x)
      refine lv_iload hx hb dX8_parrotsAbove_62 (lv_at hl 1 rfl) ?_
      exact hret _ _ _ _ _ (fun Qc free hq hf => W.iret hx hb hr hq hf dX8_parrotsAbove_64 hlk) hP hD hS
    | succ n ih =>
      intro i hi  H locs ls hP hD hS hl
      have hlt : i < 26 := by omega
      refine lv_iload hx hb dX8_parrotsAbove_19 (lv_at hl 0 rfl) ?_
      refine lv_bipush (v := 26) hx hb dX8_parrotsAbove_21 (by decide) ?_
      refine lv_icmp_ge (tgt := 62) hx hb dX8_parrotsAbove_23 (by decide) (fun c_x => absurd c_x (nI_ge (b := 26) hlt (by decide))) (fun _ => ?_)
      refine lv_aload_n hx hb dX8_parrotsAbove_26 rfl (lv_at hl 3 rfl) ?_
      refine va_get (D := D) (ci := 7) (v := .ref vs) (C := RX8) (T := TX8) (N := 3) hx hb hts iX8 hown hC.1 hP 0 rfl rfl 0 (by decide) (hts (.fieldLink RX8 10 "ParrotCounts" "state" "LParrotCounts$State;") (List.mem_of_getElem? (i := 1) rfl)) (fun _ h => h) rfl dX8_parrotsAbove_27 ?_
      refine va_get (D := D) (ci := 6) (v := .ref vol) (C := RX7) (T := TX7) (N := 4) hx hb hts iX7 hown hC.1 hP 1 rfl rfl 0 (by decide) (hts (.fieldLink RX8 37 "ParrotCounts$State" "own" "LParrotCounts$Listener;") (List.mem_of_getElem? (i := 2) rfl)) (fun _ h => h) rfl dX8_parrotsAbove_30 ?_
      refine lv_iload hx hb dX8_parrotsAbove_33 (lv_at hl 0 rfl) ?_
      refine lv_aload_n hx hb dX8_parrotsAbove_35 rfl (lv_at hl 5 rfl) ?_
      have hP := hP.sub (ws' := [oLi vol voxo voyo volt, oFL voxo voxc voxs voxg voch vosz vorm, aI T voxc 26 vofc, aI T voxs 26 vofs, aI T voxg 26 vofg, oSL voyo voyc vowo vowz vowr, aI T voyc 26 vowf, aI T volt 26 votf] ++ [oPC po vs ho so, oSt vs vol val (bI via) (nI cq)]) [2, 3, 4, 5, 6, 7, 8, 9, 0, 1] rfl
      have hD := hD.sub (ws' := [oLi vol voxo voyo volt, oFL voxo voxc voxs voxg voch vosz vorm, aI T voxc 26 vofc, aI T voxs 26 vofs, aI T voxg 26 vofg, oSL voyo voyc vowo vowz vowr, aI T voyc 26 vowf, aI T volt 26 votf] ++ [oPC po vs ho so, oSt vs vol val (bI via) (nI cq)]) [2, 3, 4, 5, 6, 7, 8, 9, 0, 1] (by decide) rfl
      refine kEV (ci := 2) (As := [.int (nI i), .ref (T 4)]) (rest := []) ⟨hx, hb, hml, hown, hts⟩ (c_X2_measured_s l D T vol voxo voxc voxs voxg voyo voyc volt vofc vofs vofg voch vosz vorm vowf vowo vowz vowr votf i (by first | omega | assumption)) (cwV 2 hts gX8_parrotsAbove_X2_measured rfl rfl rfl (by decide +kernel) ⟨Nat.le_of_ble_eq_true rfl, Nat.le_of_ble_eq_true rfl⟩) hC hE hP hD hS hA rfl rfl rfl hl.1 rfl (Nat.le_of_ble_eq_true rfl) dX8_parrotsAbove_36 ⟨Nat.zero_le _, Nat.zero_le _⟩ (fun H locs hP hD hS => ?_)
      have hP := hP.sub (ws' := [oPC po vs ho so, oSt vs vol val (bI via) (nI cq), oLi vol voxo voyo volt, oFL voxo voxc voxs voxg voch vosz vorm, aI T voxc 26 vofc, aI T voxs 26 vofs, aI T voxg 26 vofg, oSL voyo voyc vowo vowz vowr, aI T voyc 26 vowf, aI T volt 26 votf]) [8, 9, 0, 1, 2, 3, 4, 5, 6, 7] rfl
      have hD := hD.sub (ws' := [oPC po vs ho so, oSt vs vol val (bI via) (nI cq), oLi vol voxo voyo volt, oFL voxo voxc voxs voxg voch vosz vorm, aI T voxc 26 vofc, aI T voxs 26 vofs, aI T voxg 26 vofg, oSL voyo voyc vowo vowz vowr, aI T voyc 26 vowf, aI T volt 26 votf]) [8, 9, 0, 1, 2, 3, 4, 5, 6, 7] (by decide) rfl
      refine W.eq (g2 := F0 m 39 ls [.int (flSure vofc vofs i)]) rfl ?_
      refine lv_sipush (v := 1000) hx hb dX8_parrotsAbove_39 (by decide) ?_
      refine lv_imul hx hb dX8_parrotsAbove_42 ?_
      refine lv_iload_n hx hb dX8_parrotsAbove_43 rfl (lv_at hl 2 rfl) ?_
      refine lv_icmp_le (tgt := 56) hx hb dX8_parrotsAbove_44 (by decide) (fun c44 => ?_) (fun c44 => ?_)
      · refine lv_iinc (v := nI (i + 1)) (lv' := [(5, .int (nI (i + 1))), (4, .int (abC (flSure vofc vofs) (px * smN votf 26) i)), (3, .int (px * smN votf 26)), (0, .ref po), (1, .int px), (2, .ref (T 4))]) hx hb dX8_parrotsAbove_56 hl (k := 0) rfl (nI_1 i) (by decide) rfl (fun ls hl => ?_)
        refine lv_goto (tgt := 19) hx hb dX8_parrotsAbove_59 (by decide) ?_
        have e_1 : (abC (flSure vofc vofs) (px * smN votf 26) i : Int32) = abC (flSure vofc vofs) (px * smN votf 26) (i + 1) := by first | with_reducible rfl | (simp [abC, c44]; done)
        have hl : lv_has ls 6 [(5, .int (nI (i + 1))), (4, .int (abC (flSure vofc vofs) (px * smN votf 26) (i + 1))), (3, .int (px * smN votf 26)), (0, .ref po), (1, .int px), (2, .ref (T 4))] := lv_sub hl [0, 1, 2, 3, 4, 5] (by show (_ : List (Nat × Value)) = [(5, .int (nI (i + 1))), (4, .int (abC (flSure vofc vofs) (px * smN votf 26) (i + 1))), (3, .int (px * smN votf 26)), (0, .ref po), (1, .int px), (2, .ref (T 4))]; rw [← e_1]; rfl)
        exact ih (i + 1) (by omega)  _ _ _ hP hD hS hl
      · refine lv_iload hx hb dX8_parrotsAbove_47 (lv_at hl 1 rfl) ?_
        refine lv_iconst (v := 1) hx hb dX8_parrotsAbove_49 (by decide) ?_
        refine lv_iload hx hb dX8_parrotsAbove_50 (lv_at hl 0 rfl) ?_
        refine lv_ishl hx hb dX8_parrotsAbove_52 ?_
        refine lv_ior hx hb dX8_parrotsAbove_53 ?_
        refine lv_istore (lv' := [(4, .int ((abC (flSure vofc vofs) (px * smN votf 26) i) ||| (1 <<< ((nI i) &&& 31)))), (5, .int (nI i)), (3, .int (px * smN votf 26)), (0, .ref po), (1, .int px), (2, .ref (T 4))]) hx hb dX8_parrotsAbove_54 hl (by decide) rfl (fun ls hl => ?_)
        refine lv_iinc (v := nI (i + 1)) (lv' := [(5, .int (nI (i + 1))), (4, .int ((abC (flSure vofc vofs) (px * smN votf 26) i) ||| (1 <<< ((nI i) &&& 31)))), (3, .int (px * smN votf 26)), (0, .ref po), (1, .int px), (2, .ref (T 4))]) hx hb dX8_parrotsAbove_56 hl (k := 1) rfl (nI_1 i) (by decide) rfl (fun ls hl => ?_)
        refine lv_goto (tgt := 19) hx hb dX8_parrotsAbove_59 (by decide) ?_
        have e_2 : ((abC (flSure vofc vofs) (px * smN votf 26) i) ||| (1 <<< ((nI i) &&& 31)) : Int32) = abC (flSure vofc vofs) (px * smN votf 26) (i + 1) := by first | with_reducible rfl | (simp [abC, c44]; done)
        have hl : lv_has ls 6 [(5, .int (nI (i + 1))), (4, .int (abC (flSure vofc vofs) (px * smN votf 26) (i + 1))), (3, .int (px * smN votf 26)), (0, .ref po), (1, .int px), (2, .ref (T 4))] := lv_sub hl [0, 1, 2, 3, 4, 5] (by show (_ : List (Nat × Value)) = [(5, .int (nI (i + 1))), (4, .int (abC (flSure vofc vofs) (px * smN votf 26) (i + 1))), (3, .int (px * smN votf 26)), (0, .ref po), (1, .int px), (2, .ref (T 4))]; rw [← e_2]; rfl)
        exact ih (i + 1) (by omega)  _ _ _ hP hD hS hl
  have hl : lv_has ls 6 [(0, .ref po), (1, .int px), (2, .ref (T 4))] := hl
  have hP : va_P D vwCl [oPC po vs ho so, oSt vs vol val (bI via) (nI cq), oLi vol voxo voyo volt, oFL voxo voxc voxs voxg voch vosz vorm, aI T voxc 26 vofc, aI T voxs 26 vofs, aI T voxg 26 vofg, oSL voyo voyc vowo vowz vowr, aI T voyc 26 vowf, aI T volt 26 votf] s.heap := hP
  have hD : va_D A [oPC po vs ho so, oSt vs vol val (bI via) (nI cq), oLi vol voxo voyo volt, oFL voxo voxc voxs voxg voch vosz vorm, aI T voxc 26 vofc, aI T voxs 26 vofs, aI T voxg 26 vofg, oSL voyo voyc vowo vowz vowr, aI T voyc 26 vowf, aI T volt 26 votf] := hD
  refine lv_iload_n hx hb dX8_parrotsAbove_0 rfl (lv_at hl 1 rfl) ?_
  refine lv_aload_n hx hb dX8_parrotsAbove_1 rfl (lv_at hl 0 rfl) ?_
  refine va_get (D := D) (ci := 7) (v := .ref vs) (C := RX8) (T := TX8) (N := 3) hx hb hts iX8 hown hC.1 hP 0 rfl rfl 0 (by decide) (hts (.fieldLink RX8 10 "ParrotCounts" "state" "LParrotCounts$State;") (List.mem_of_getElem? (i := 1) rfl)) (fun _ h => h) rfl dX8_parrotsAbove_2 ?_
  refine va_get (D := D) (ci := 6) (v := .ref vol) (C := RX7) (T := TX7) (N := 4) hx hb hts iX7 hown hC.1 hP 1 rfl rfl 0 (by decide) (hts (.fieldLink RX8 37 "ParrotCounts$State" "own" "LParrotCounts$Listener;") (List.mem_of_getElem? (i := 2) rfl)) (fun _ h => h) rfl dX8_parrotsAbove_5 ?_
  have hP := hP.sub (ws' := [oLi vol voxo voyo volt, oFL voxo voxc voxs voxg voch vosz vorm, aI T voxc 26 vofc, aI T voxs 26 vofs, aI T voxg 26 vofg, oSL voyo voyc vowo vowz vowr, aI T voyc 26 vowf, aI T volt 26 votf] ++ [oPC po vs ho so, oSt vs vol val (bI via) (nI cq)]) [2, 3, 4, 5, 6, 7, 8, 9, 0, 1] rfl
  have hD := hD.sub (ws' := [oLi vol voxo voyo volt, oFL voxo voxc voxs voxg voch vosz vorm, aI T voxc 26 vofc, aI T voxs 26 vofs, aI T voxg 26 vofg, oSL voyo voyc vowo vowz vowr, aI T voyc 26 vowf, aI T volt 26 votf] ++ [oPC po vs ho so, oSt vs vol val (bI via) (nI cq)]) [2, 3, 4, 5, 6, 7, 8, 9, 0, 1] (by decide) rfl
  refine kV (ci := 2) (As := []) (rest := [.int px]) ⟨hx, hb, hml, hown, hts⟩ (c_X2_sumOfCalls l D T vol voxo voxc voxs voxg voyo voyc volt vofc vofs vofg voch vosz vorm vowf vowo vowz vowr votf ) (cwV 0 hts gX8_parrotsAbove_X2_sumOfCalls rfl rfl rfl (by decide +kernel) ⟨Nat.le_of_ble_eq_true rfl, Nat.le_of_ble_eq_true rfl⟩) hC hP hD hS hA rfl rfl rfl hl.1 rfl (Nat.le_of_ble_eq_true rfl) dX8_parrotsAbove_8 ⟨Nat.zero_le _, Nat.zero_le _⟩ (fun H locs hP hD hS => ?_)
  have hP := hP.sub (ws' := [oPC po vs ho so, oSt vs vol val (bI via) (nI cq), oLi vol voxo voyo volt, oFL voxo voxc voxs voxg voch vosz vorm, aI T voxc 26 vofc, aI T voxs 26 vofs, aI T voxg 26 vofg, oSL voyo voyc vowo vowz vowr, aI T voyc 26 vowf, aI T volt 26 votf]) [8, 9, 0, 1, 2, 3, 4, 5, 6, 7] rfl
  have hD := hD.sub (ws' := [oPC po vs ho so, oSt vs vol val (bI via) (nI cq), oLi vol voxo voyo volt, oFL voxo voxc voxs voxg voch vosz vorm, aI T voxc 26 vofc, aI T voxs 26 vofs, aI T voxg 26 vofg, oSL voyo voyc vowo vowz vowr, aI T voyc 26 vowf, aI T volt 26 votf]) [8, 9, 0, 1, 2, 3, 4, 5, 6, 7] (by decide) rfl
  refine W.eq (g2 := F0 m 11 ls [.int (smN votf 26), .int px]) rfl ?_
  refine lv_imul hx hb dX8_parrotsAbove_11 ?_
  refine lv_istore_n (lv' := [(3, .int (px * (smN votf 26))), (0, .ref po), (1, .int px), (2, .ref (T 4))]) hx hb dX8_parrotsAbove_12 rfl hl (by decide) rfl (fun ls hl => ?_)
  refine lv_iconst (v := 0) hx hb dX8_parrotsAbove_13 (by decide) ?_
  refine lv_istore (lv' := [(4, .int 0), (3, .int (px * (smN votf 26))), (0, .ref po), (1, .int px), (2, .ref (T 4))]) hx hb dX8_parrotsAbove_14 hl (by decide) rfl (fun ls hl => ?_)
  refine lv_iconst (v := 0) hx hb dX8_parrotsAbove_16 (by decide) ?_
  refine lv_istore (lv' := [(5, .int 0), (4, .int 0), (3, .int (px * (smN votf 26))), (0, .ref po), (1, .int px), (2, .ref (T 4))]) hx hb dX8_parrotsAbove_17 hl (by decide) rfl (fun ls hl => ?_)
  have e_3 : (0 : Int32) = nI 0 := rfl
  have e_4 : (0 : Int32) = abC (flSure vofc vofs) (px * smN votf 26) 0 := rfl
  have e_5 : (px * (smN votf 26) : Int32) = px * smN votf 26 := rfl
  have hl : lv_has ls 6 [(5, .int (nI 0)), (4, .int (abC (flSure vofc vofs) (px * smN votf 26) 0)), (3, .int (px * smN votf 26)), (0, .ref po), (1, .int px), (2, .ref (T 4))] := lv_sub hl [0, 1, 2, 3, 4, 5] (by show (_ : List (Nat × Value)) = [(5, .int (nI 0)), (4, .int (abC (flSure vofc vofs) (px * smN votf 26) 0)), (3, .int (px * smN votf 26)), (0, .ref po), (1, .int px), (2, .ref (T 4))]; rw [← e_3, ← e_4, ← e_5]; rfl)
  exact loop_19 26 0 (by omega)  _ _ _ hP hD hS hl
set_option maxHeartbeats 4000000 in
set_option maxRecDepth 100000 in
theorem c_X8_parrotsAbove_e (l : Launch) (D : va_G) (T : Nat → ClassId) (po ho so vs val : Nat) (via : Bool) (cq : Nat) (vol voxo voxc voxs voxg voyo voyc volt : Nat) (vofc vofs vofg : Nat → Int32) (voch vosz vorm : Int32) (vowf : Nat → Int32) (vowo vowz vowr : Int32) (votf : Nat → Int32) (px : Int32) : kEM l D T yX8_parrotsAbove wsX8_parrotsAbove rX8_parrotsAbove [.ref po, .int px, .ref (T 5)] [oPC po vs ho so, oSt vs vol val (bI via) (nI cq), oLi vol voxo voyo volt, oFL voxo voxc voxs voxg voch vosz vorm, aI T voxc 26 vofc, aI T voxs 26 vofs, aI T voxg 26 vofg, oSL voyo voyc vowo vowz vowr, aI T voyc 26 vowf, aI T volt 26 votf] (some (.int (abC (flEst vofc vofg vosz vorm) (px * smN votf 26) 26))) [oPC po vs ho so, oSt vs vol val (bI via) (nI cq), oLi vol voxo voyo volt, oFL voxo voxc voxs voxg voch vosz vorm, aI T voxc 26 vofc, aI T voxs 26 vofs, aI T voxg 26 vofg, oSL voyo voyc vowo vowz vowr, aI T voyc 26 vowf, aI T volt 26 votf] := by
  refine kEM.of (cc := cX8_parrotsAbove) (maxL := 6) (ret := some .int) (by decide) rfl (Nat.le_of_ble_eq_true rfl) ?_
  intro p e s m below meth c A Q ls hx hb hml hown hr hlk hts hC hP hD hS hA hl hret hE
  have iX7 : ∀ w ∈ wsX70, w ∈ wsX8_parrotsAbove := (fun _ h => List.mem_cons_of_mem _ (List.mem_append_left _ (List.mem_append_left _ (List.mem_append_right _ h))))
  have iX8 : ∀ w ∈ wsX80, w ∈ wsX8_parrotsAbove := (fun _ h => List.mem_cons_of_mem _ (List.mem_append_left _ (List.mem_append_left _ (List.mem_append_left _ (List.mem_append_right _ h)))))
  have loop_19 : ∀ (n i : Nat), i + n = 26 → ∀ (H : Heap) (locs : List Loc) (ls : Array Slot), va_P D vwCl [oPC po vs ho so, oSt vs vol val (bI via) (nI cq), oLi vol voxo voyo volt, oFL voxo voxc voxs voxg voch vosz vorm, aI T voxc 26 vofc, aI T voxs 26 vofs, aI T voxg 26 vofg, oSL voyo voyc vowo vowz vowr, aI T voyc 26 vowf, aI T volt 26 votf] H → va_D A [oPC po vs ho so, oSt vs vol val (bI via) (nI cq), oLi vol voxo voyo volt, oFL voxo voxc voxs voxg voch vosz vorm, aI T voxc 26 vofc, aI T voxs 26 vofs, aI T voxg 26 vofg, oSL voyo voyc vowo vowz vowr, aI T voyc 26 vowf, aI T volt 26 votf] → va_S A s.heap H locs → lv_has ls 6 [(5, .int (nI i)), (4, .int (abC (flEst vofc vofg vosz vorm) (px * smN votf 26) i)), (3, .int (px * smN votf 26)), (0, .ref po), (1, .int px), (2, .ref (T 5))] → W p l e rX8_parrotsAbove s m [.ref po, .int px, .ref (T 5)].toArray below meth c H locs 0 0 Q (F0 m 19 ls []) := by
    intro n
    induction n with
    | zero =>
      intro i hi  H locs ls hP hD hS hl
      have hi9 : 26 = i := by omega
      subst hi9
      refine lv_iload hx hb dX8_parrotsAbove_19 (lv_at hl 0 rfl) ?_
      refine lv_bipush (v := 26) hx hb dX8_parrotsAbove_21 (by decide) ?_
      refine lv_icmp_ge (tgt := 62) hx hb dX8_parrotsAbove_23 (by decide) (fun _ => ?_) (fun c_x => absurd (by decide : (26 : Int32) ≤ nI 26) c_x)
      refine lv_iload hx hb dX8_parrotsAbove_62 (lv_at hl 1 rfl) ?_
      exact hret _ _ _ _ _ (fun Qc free hq hf => W.iret hx hb hr hq hf dX8_parrotsAbove_64 hlk) hP hD hS
    | succ n ih =>
      intro i hi  H locs ls hP hD hS hl
      have hlt : i < 26 := by omega
      refine lv_iload hx hb dX8_parrotsAbove_19 (lv_at hl 0 rfl) ?_
      refine lv_bipush (v := 26) hx hb dX8_parrotsAbove_21 (by decide) ?_
      refine lv_icmp_ge (tgt := 62) hx hb dX8_parrotsAbove_23 (by decide) (fun c_x => absurd c_x (nI_ge (b := 26) hlt (by decide))) (fun _ => ?_)
      refine lv_aload_n hx hb dX8_parrotsAbove_26 rfl (lv_at hl 3 rfl) ?_
      refine va_get (D := D) (ci := 7) (v := .ref vs) (C := RX8) (T := TX8) (N := 3) hx hb hts iX8 hown hC.1 hP 0 rfl rfl 0 (by decide) (hts (.fieldLink RX8 10 "ParrotCounts" "state" "LParrotCounts$State;") (List.mem_of_getElem? (i := 1) rfl)) (fun _ h => h) rfl dX8_parrotsAbove_27 ?_
      refine va_get (D := D) (ci := 6) (v := .ref vol) (C := RX7) (T := TX7) (N := 4) hx hb hts iX7 hown hC.1 hP 1 rfl rfl 0 (by decide) (hts (.fieldLink RX8 37 "ParrotCounts$State" "own" "LParrotCounts$Listener;") (List.mem_of_getElem? (i := 2) rfl)) (fun _ h => h) rfl dX8_parrotsAbove_30 ?_
      refine lv_iload hx hb dX8_parrotsAbove_33 (lv_at hl 0 rfl) ?_
      refine lv_aload_n hx hb dX8_parrotsAbove_35 rfl (lv_at hl 5 rfl) ?_
      have hP := hP.sub (ws' := [oLi vol voxo voyo volt, oFL voxo voxc voxs voxg voch vosz vorm, aI T voxc 26 vofc, aI T voxs 26 vofs, aI T voxg 26 vofg, oSL voyo voyc vowo vowz vowr, aI T voyc 26 vowf, aI T volt 26 votf] ++ [oPC po vs ho so, oSt vs vol val (bI via) (nI cq)]) [2, 3, 4, 5, 6, 7, 8, 9, 0, 1] rfl
      have hD := hD.sub (ws' := [oLi vol voxo voyo volt, oFL voxo voxc voxs voxg voch vosz vorm, aI T voxc 26 vofc, aI T voxs 26 vofs, aI T voxg 26 vofg, oSL voyo voyc vowo vowz vowr, aI T voyc 26 vowf, aI T volt 26 votf] ++ [oPC po vs ho so, oSt vs vol val (bI via) (nI cq)]) [2, 3, 4, 5, 6, 7, 8, 9, 0, 1] (by decide) rfl
      refine kEV (ci := 2) (As := [.int (nI i), .ref (T 5)]) (rest := []) ⟨hx, hb, hml, hown, hts⟩ (c_X2_measured_e l D T vol voxo voxc voxs voxg voyo voyc volt vofc vofs vofg voch vosz vorm vowf vowo vowz vowr votf i (by first | omega | assumption)) (cwV 2 hts gX8_parrotsAbove_X2_measured rfl rfl rfl (by decide +kernel) ⟨Nat.le_of_ble_eq_true rfl, Nat.le_of_ble_eq_true rfl⟩) hC hE hP hD hS hA rfl rfl rfl hl.1 rfl (Nat.le_of_ble_eq_true rfl) dX8_parrotsAbove_36 ⟨Nat.zero_le _, Nat.zero_le _⟩ (fun H locs hP hD hS => ?_)
      have hP := hP.sub (ws' := [oPC po vs ho so, oSt vs vol val (bI via) (nI cq), oLi vol voxo voyo volt, oFL voxo voxc voxs voxg voch vosz vorm, aI T voxc 26 vofc, aI T voxs 26 vofs, aI T voxg 26 vofg, oSL voyo voyc vowo vowz vowr, aI T voyc 26 vowf, aI T volt 26 votf]) [8, 9, 0, 1, 2, 3, 4, 5, 6, 7] rfl
      have hD := hD.sub (ws' := [oPC po vs ho so, oSt vs vol val (bI via) (nI cq), oLi vol voxo voyo volt, oFL voxo voxc voxs voxg voch vosz vorm, aI T voxc 26 vofc, aI T voxs 26 vofs, aI T voxg 26 vofg, oSL voyo voyc vowo vowz vowr, aI T voyc 26 vowf, aI T volt 26 votf]) [8, 9, 0, 1, 2, 3, 4, 5, 6, 7] (by decide) rfl
      refine W.eq (g2 := F0 m 39 ls [.int (flEst vofc vofg vosz vorm i)]) rfl ?_
      refine lv_sipush (v := 1000) hx hb dX8_parrotsAbove_39 (by decide) ?_
      refine lv_imul hx hb dX8_parrotsAbove_42 ?_
      refine lv_iload_n hx hb dX8_parrotsAbove_43 rfl (lv_at hl 2 rfl) ?_
      refine lv_icmp_le (tgt := 56) hx hb dX8_parrotsAbove_44 (by decide) (fun c44 => ?_) (fun c44 => ?_)
      · refine lv_iinc (v := nI (i + 1)) (lv' := [(5, .int (nI (i + 1))), (4, .int (abC (flEst vofc vofg vosz vorm) (px * smN votf 26) i)), (3, .int (px * smN votf 26)), (0, .ref po), (1, .int px), (2, .ref (T 5))]) hx hb dX8_parrotsAbove_56 hl (k := 0) rfl (nI_1 i) (by decide) rfl (fun ls hl => ?_)
        refine lv_goto (tgt := 19) hx hb dX8_parrotsAbove_59 (by decide) ?_
        have e_1 : (abC (flEst vofc vofg vosz vorm) (px * smN votf 26) i : Int32) = abC (flEst vofc vofg vosz vorm) (px * smN votf 26) (i + 1) := by first | with_reducible rfl | (simp [abC, c44]; done)
        have hl : lv_has ls 6 [(5, .int (nI (i + 1))), (4, .int (abC (flEst vofc vofg vosz vorm) (px * smN votf 26) (i + 1))), (3, .int (px * smN votf 26)), (0, .ref po), (1, .int px), (2, .ref (T 5))] := lv_sub hl [0, 1, 2, 3, 4, 5] (by show (_ : List (Nat × Value)) = [(5, .int (nI (i + 1))), (4, .int (abC (flEst vofc vofg vosz vorm) (px * smN votf 26) (i + 1))), (3, .int (px * smN votf 26)), (0, .ref po), (1, .int px), (2, .ref (T 5))]; rw [← e_1]; rfl)
        exact ih (i + 1) (by omega)  _ _ _ hP hD hS hl
      · refine lv_iload hx hb dX8_parrotsAbove_47 (lv_at hl 1 rfl) ?_
        refine lv_iconst (v := 1) hx hb dX8_parrotsAbove_49 (by decide) ?_
        refine lv_iload hx hb dX8_parrotsAbove_50 (lv_at hl 0 rfl) ?_
        refine lv_ishl hx hb dX8_parrotsAbove_52 ?_
        refine lv_ior hx hb dX8_parrotsAbove_53 ?_
        refine lv_istore (lv' := [(4, .int ((abC (flEst vofc vofg vosz vorm) (px * smN votf 26) i) ||| (1 <<< ((nI i) &&& 31)))), (5, .int (nI i)), (3, .int (px * smN votf 26)), (0, .ref po), (1, .int px), (2, .ref (T 5))]) hx hb dX8_parrotsAbove_54 hl (by decide) rfl (fun ls hl => ?_)
        refine lv_iinc (v := nI (i + 1)) (lv' := [(5, .int (nI (i + 1))), (4, .int ((abC (flEst vofc vofg vosz vorm) (px * smN votf 26) i) ||| (1 <<< ((nI i) &&& 31)))), (3, .int (px * smN votf 26)), (0, .ref po), (1, .int px), (2, .ref (T 5))]) hx hb dX8_parrotsAbove_56 hl (k := 1) rfl (nI_1 i) (by decide) rfl (fun ls hl => ?_)
        refine lv_goto (tgt := 19) hx hb dX8_parrotsAbove_59 (by decide) ?_
        have e_2 : ((abC (flEst vofc vofg vosz vorm) (px * smN votf 26) i) ||| (1 <<< ((nI i) &&& 31)) : Int32) = abC (flEst vofc vofg vosz vorm) (px * smN votf 26) (i + 1) := by first | with_reducible rfl | (simp [abC, c44]; done)
        have hl : lv_has ls 6 [(5, .int (nI (i + 1))), (4, .int (abC (flEst vofc vofg vosz vorm) (px * smN votf 26) (i + 1))), (3, .int (px * smN votf 26)), (0, .ref po), (1, .int px), (2, .ref (T 5))] := lv_sub hl [0, 1, 2, 3, 4, 5] (by show (_ : List (Nat × Value)) = [(5, .int (nI (i + 1))), (4, .int (abC (flEst vofc vofg vosz vorm) (px * smN votf 26) (i + 1))), (3, .int (px * smN votf 26)), (0, .ref po), (1, .int px), (2, .ref (T 5))]; rw [← e_2]; rfl)
        exact ih (i + 1) (by omega)  _ _ _ hP hD hS hl
  have hl : lv_has ls 6 [(0, .ref po), (1, .int px), (2, .ref (T 5))] := hl
  have hP : va_P D vwCl [oPC po vs ho so, oSt vs vol val (bI via) (nI cq), oLi vol voxo voyo volt, oFL voxo voxc voxs voxg voch vosz vorm, aI T voxc 26 vofc, aI T voxs 26 vofs, aI T voxg 26 vofg, oSL voyo voyc vowo vowz vowr, aI T voyc 26 vowf, aI T volt 26 votf] s.heap := hP
  have hD : va_D A [oPC po vs ho so, oSt vs vol val (bI via) (nI cq), oLi vol voxo voyo volt, oFL voxo voxc voxs voxg voch vosz vorm, aI T voxc 26 vofc, aI T voxs 26 vofs, aI T voxg 26 vofg, oSL voyo voyc vowo vowz vowr, aI T voyc 26 vowf, aI T volt 26 votf] := hD
  refine lv_iload_n hx hb dX8_parrotsAbove_0 rfl (lv_at hl 1 rfl) ?_
  refine lv_aload_n hx hb dX8_parrotsAbove_1 rfl (lv_at hl 0 rfl) ?_
  refine va_get (D := D) (ci := 7) (v := .ref vs) (C := RX8) (T := TX8) (N := 3) hx hb hts iX8 hown hC.1 hP 0 rfl rfl 0 (by decide) (hts (.fieldLink RX8 10 "ParrotCounts" "state" "LParrotCounts$State;") (List.mem_of_getElem? (i := 1) rfl)) (fun _ h => h) rfl dX8_parrotsAbove_2 ?_
  refine va_get (D := D) (ci := 6) (v := .ref vol) (C := RX7) (T := TX7) (N := 4) hx hb hts iX7 hown hC.1 hP 1 rfl rfl 0 (by decide) (hts (.fieldLink RX8 37 "ParrotCounts$State" "own" "LParrotCounts$Listener;") (List.mem_of_getElem? (i := 2) rfl)) (fun _ h => h) rfl dX8_parrotsAbove_5 ?_
  have hP := hP.sub (ws' := [oLi vol voxo voyo volt, oFL voxo voxc voxs voxg voch vosz vorm, aI T voxc 26 vofc, aI T voxs 26 vofs, aI T voxg 26 vofg, oSL voyo voyc vowo vowz vowr, aI T voyc 26 vowf, aI T volt 26 votf] ++ [oPC po vs ho so, oSt vs vol val (bI via) (nI cq)]) [2, 3, 4, 5, 6, 7, 8, 9, 0, 1] rfl
  have hD := hD.sub (ws' := [oLi vol voxo voyo volt, oFL voxo voxc voxs voxg voch vosz vorm, aI T voxc 26 vofc, aI T voxs 26 vofs, aI T voxg 26 vofg, oSL voyo voyc vowo vowz vowr, aI T voyc 26 vowf, aI T volt 26 votf] ++ [oPC po vs ho so, oSt vs vol val (bI via) (nI cq)]) [2, 3, 4, 5, 6, 7, 8, 9, 0, 1] (by decide) rfl
  refine kV (ci := 2) (As := []) (rest := [.int px]) ⟨hx, hb, hml, hown, hts⟩ (c_X2_sumOfCalls l D T vol voxo voxc voxs voxg voyo voyc volt vofc vofs vofg voch vosz vorm vowf vowo vowz vowr votf ) (cwV 0 hts gX8_parrotsAbove_X2_sumOfCalls rfl rfl rfl (by decide +kernel) ⟨Nat.le_of_ble_eq_true rfl, Nat.le_of_ble_eq_true rfl⟩) hC hP hD hS hA rfl rfl rfl hl.1 rfl (Nat.le_of_ble_eq_true rfl) dX8_parrotsAbove_8 ⟨Nat.zero_le _, Nat.zero_le _⟩ (fun H locs hP hD hS => ?_)
  have hP := hP.sub (ws' := [oPC po vs ho so, oSt vs vol val (bI via) (nI cq), oLi vol voxo voyo volt, oFL voxo voxc voxs voxg voch vosz vorm, aI T voxc 26 vofc, aI T voxs 26 vofs, aI T voxg 26 vofg, oSL voyo voyc vowo vowz vowr, aI T voyc 26 vowf, aI T volt 26 votf]) [8, 9, 0, 1, 2, 3, 4, 5, 6, 7] rfl
  have hD := hD.sub (ws' := [oPC po vs ho so, oSt vs vol val (bI via) (nI cq), oLi vol voxo voyo volt, oFL voxo voxc voxs voxg voch vosz vorm, aI T voxc 26 vofc, aI T voxs 26 vofs, aI T voxg 26 vofg, oSL voyo voyc vowo vowz vowr, aI T voyc 26 vowf, aI T volt 26 votf]) [8, 9, 0, 1, 2, 3, 4, 5, 6, 7] (by decide) rfl
  refine W.eq (g2 := F0 m 11 ls [.int (smN votf 26), .int px]) rfl ?_
  refine lv_imul hx hb dX8_parrotsAbove_11 ?_
  refine lv_istore_n (lv' := [(3, .int (px * (smN votf 26))), (0, .ref po), (1, .int px), (2, .ref (T 5))]) hx hb dX8_parrotsAbove_12 rfl hl (by decide) rfl (fun ls hl => ?_)
  refine lv_iconst (v := 0) hx hb dX8_parrotsAbove_13 (by decide) ?_
  refine lv_istore (lv' := [(4, .int 0), (3, .int (px * (smN votf 26))), (0, .ref po), (1, .int px), (2, .ref (T 5))]) hx hb dX8_parrotsAbove_14 hl (by decide) rfl (fun ls hl => ?_)
  refine lv_iconst (v := 0) hx hb dX8_parrotsAbove_16 (by decide) ?_
  refine lv_istore (lv' := [(5, .int 0), (4, .int 0), (3, .int (px * (smN votf 26))), (0, .ref po), (1, .int px), (2, .ref (T 5))]) hx hb dX8_parrotsAbove_17 hl (by decide) rfl (fun ls hl => ?_)
  have e_3 : (0 : Int32) = nI 0 := rfl
  have e_4 : (0 : Int32) = abC (flEst vofc vofg vosz vorm) (px * smN votf 26) 0 := rfl
  have e_5 : (px * (smN votf 26) : Int32) = px * smN votf 26 := rfl
  have hl : lv_has ls 6 [(5, .int (nI 0)), (4, .int (abC (flEst vofc vofg vosz vorm) (px * smN votf 26) 0)), (3, .int (px * smN votf 26)), (0, .ref po), (1, .int px), (2, .ref (T 5))] := lv_sub hl [0, 1, 2, 3, 4, 5] (by show (_ : List (Nat × Value)) = [(5, .int (nI 0)), (4, .int (abC (flEst vofc vofg vosz vorm) (px * smN votf 26) 0)), (3, .int (px * smN votf 26)), (0, .ref po), (1, .int px), (2, .ref (T 5))]; rw [← e_3, ← e_4, ← e_5]; rfl)
  exact loop_19 26 0 (by omega)  _ _ _ hP hD hS hl
set_option maxHeartbeats 4000000 in
set_option maxRecDepth 100000 in
theorem c_X8_parrotsAbove_t (l : Launch) (D : va_G) (T : Nat → ClassId) (po ho so vs val : Nat) (via : Bool) (cq : Nat) (vol voxo voxc voxs voxg voyo voyc volt : Nat) (vofc vofs vofg : Nat → Int32) (voch vosz vorm : Int32) (vowf : Nat → Int32) (vowo vowz vowr : Int32) (votf : Nat → Int32) (px : Int32) : kEM l D T yX8_parrotsAbove wsX8_parrotsAbove rX8_parrotsAbove [.ref po, .int px, .ref (T 6)] [oPC po vs ho so, oSt vs vol val (bI via) (nI cq), oLi vol voxo voyo volt, oFL voxo voxc voxs voxg voch vosz vorm, aI T voxc 26 vofc, aI T voxs 26 vofs, aI T voxg 26 vofg, oSL voyo voyc vowo vowz vowr, aI T voyc 26 vowf, aI T volt 26 votf] (some (.int (abC votf (px * smN votf 26) 26))) [oPC po vs ho so, oSt vs vol val (bI via) (nI cq), oLi vol voxo voyo volt, oFL voxo voxc voxs voxg voch vosz vorm, aI T voxc 26 vofc, aI T voxs 26 vofs, aI T voxg 26 vofg, oSL voyo voyc vowo vowz vowr, aI T voyc 26 vowf, aI T volt 26 votf] := by
  refine kEM.of (cc := cX8_parrotsAbove) (maxL := 6) (ret := some .int) (by decide) rfl (Nat.le_of_ble_eq_true rfl) ?_
  intro p e s m below meth c A Q ls hx hb hml hown hr hlk hts hC hP hD hS hA hl hret hE
  have iX7 : ∀ w ∈ wsX70, w ∈ wsX8_parrotsAbove := (fun _ h => List.mem_cons_of_mem _ (List.mem_append_left _ (List.mem_append_left _ (List.mem_append_right _ h))))
  have iX8 : ∀ w ∈ wsX80, w ∈ wsX8_parrotsAbove := (fun _ h => List.mem_cons_of_mem _ (List.mem_append_left _ (List.mem_append_left _ (List.mem_append_left _ (List.mem_append_right _ h)))))
  have loop_19 : ∀ (n i : Nat), i + n = 26 → ∀ (H : Heap) (locs : List Loc) (ls : Array Slot), va_P D vwCl [oPC po vs ho so, oSt vs vol val (bI via) (nI cq), oLi vol voxo voyo volt, oFL voxo voxc voxs voxg voch vosz vorm, aI T voxc 26 vofc, aI T voxs 26 vofs, aI T voxg 26 vofg, oSL voyo voyc vowo vowz vowr, aI T voyc 26 vowf, aI T volt 26 votf] H → va_D A [oPC po vs ho so, oSt vs vol val (bI via) (nI cq), oLi vol voxo voyo volt, oFL voxo voxc voxs voxg voch vosz vorm, aI T voxc 26 vofc, aI T voxs 26 vofs, aI T voxg 26 vofg, oSL voyo voyc vowo vowz vowr, aI T voyc 26 vowf, aI T volt 26 votf] → va_S A s.heap H locs → lv_has ls 6 [(5, .int (nI i)), (4, .int (abC votf (px * smN votf 26) i)), (3, .int (px * smN votf 26)), (0, .ref po), (1, .int px), (2, .ref (T 6))] → W p l e rX8_parrotsAbove s m [.ref po, .int px, .ref (T 6)].toArray below meth c H locs 0 0 Q (F0 m 19 ls []) := by
    intro n
    induction n with
    | zero =>
      intro i hi  H locs ls hP hD hS hl
      have hi9 : 26 = i := by omega
      subst hi9
      refine lv_iload hx hb dX8_parrotsAbove_19 (lv_at hl 0 rfl) ?_
      refine lv_bipush (v := 26) hx hb dX8_parrotsAbove_21 (by decide) ?_
      refine lv_icmp_ge (tgt := 62) hx hb dX8_parrotsAbove_23 (by decide) (fun _ => ?_) (fun c_x => absurd (by decide : (26 : Int32) ≤ nI 26) c_x)
      refine lv_iload hx hb dX8_parrotsAbove_62 (lv_at hl 1 rfl) ?_
      exact hret _ _ _ _ _ (fun Qc free hq hf => W.iret hx hb hr hq hf dX8_parrotsAbove_64 hlk) hP hD hS
    | succ n ih =>
      intro i hi  H locs ls hP hD hS hl
      have hlt : i < 26 := by omega
      refine lv_iload hx hb dX8_parrotsAbove_19 (lv_at hl 0 rfl) ?_
      refine lv_bipush (v := 26) hx hb dX8_parrotsAbove_21 (by decide) ?_
      refine lv_icmp_ge (tgt := 62) hx hb dX8_parrotsAbove_23 (by decide) (fun c_x => absurd c_x (nI_ge (b := 26) hlt (by decide))) (fun _ => ?_)
      refine lv_aload_n hx hb dX8_parrotsAbove_26 rfl (lv_at hl 3 rfl) ?_
      refine va_get (D := D) (ci := 7) (v := .ref vs) (C := RX8) (T := TX8) (N := 3) hx hb hts iX8 hown hC.1 hP 0 rfl rfl 0 (by decide) (hts (.fieldLink RX8 10 "ParrotCounts" "state" "LParrotCounts$State;") (List.mem_of_getElem? (i := 1) rfl)) (fun _ h => h) rfl dX8_parrotsAbove_27 ?_
      refine va_get (D := D) (ci := 6) (v := .ref vol) (C := RX7) (T := TX7) (N := 4) hx hb hts iX7 hown hC.1 hP 1 rfl rfl 0 (by decide) (hts (.fieldLink RX8 37 "ParrotCounts$State" "own" "LParrotCounts$Listener;") (List.mem_of_getElem? (i := 2) rfl)) (fun _ h => h) rfl dX8_parrotsAbove_30 ?_
      refine lv_iload hx hb dX8_parrotsAbove_33 (lv_at hl 0 rfl) ?_
      refine lv_aload_n hx hb dX8_parrotsAbove_35 rfl (lv_at hl 5 rfl) ?_
      have hP := hP.sub (ws' := [oLi vol voxo voyo volt, oFL voxo voxc voxs voxg voch vosz vorm, aI T voxc 26 vofc, aI T voxs 26 vofs, aI T voxg 26 vofg, oSL voyo voyc vowo vowz vowr, aI T voyc 26 vowf, aI T volt 26 votf] ++ [oPC po vs ho so, oSt vs vol val (bI via) (nI cq)]) [2, 3, 4, 5, 6, 7, 8, 9, 0, 1] rfl
      have hD := hD.sub (ws' := [oLi vol voxo voyo volt, oFL voxo voxc voxs voxg voch vosz vorm, aI T voxc 26 vofc, aI T voxs 26 vofs, aI T voxg 26 vofg, oSL voyo voyc vowo vowz vowr, aI T voyc 26 vowf, aI T volt 26 votf] ++ [oPC po vs ho so, oSt vs vol val (bI via) (nI cq)]) [2, 3, 4, 5, 6, 7, 8, 9, 0, 1] (by decide) rfl
      refine kEV (ci := 2) (As := [.int (nI i), .ref (T 6)]) (rest := []) ⟨hx, hb, hml, hown, hts⟩ (c_X2_measured_t l D T vol voxo voxc voxs voxg voyo voyc volt vofc vofs vofg voch vosz vorm vowf vowo vowz vowr votf i (by first | omega | assumption)) (cwV 2 hts gX8_parrotsAbove_X2_measured rfl rfl rfl (by decide +kernel) ⟨Nat.le_of_ble_eq_true rfl, Nat.le_of_ble_eq_true rfl⟩) hC hE hP hD hS hA rfl rfl rfl hl.1 rfl (Nat.le_of_ble_eq_true rfl) dX8_parrotsAbove_36 ⟨Nat.zero_le _, Nat.zero_le _⟩ (fun H locs hP hD hS => ?_)
      have hP := hP.sub (ws' := [oPC po vs ho so, oSt vs vol val (bI via) (nI cq), oLi vol voxo voyo volt, oFL voxo voxc voxs voxg voch vosz vorm, aI T voxc 26 vofc, aI T voxs 26 vofs, aI T voxg 26 vofg, oSL voyo voyc vowo vowz vowr, aI T voyc 26 vowf, aI T volt 26 votf]) [8, 9, 0, 1, 2, 3, 4, 5, 6, 7] rfl
      have hD := hD.sub (ws' := [oPC po vs ho so, oSt vs vol val (bI via) (nI cq), oLi vol voxo voyo volt, oFL voxo voxc voxs voxg voch vosz vorm, aI T voxc 26 vofc, aI T voxs 26 vofs, aI T voxg 26 vofg, oSL voyo voyc vowo vowz vowr, aI T voyc 26 vowf, aI T volt 26 votf]) [8, 9, 0, 1, 2, 3, 4, 5, 6, 7] (by decide) rfl
      refine W.eq (g2 := F0 m 39 ls [.int (votf i)]) rfl ?_
      refine lv_sipush (v := 1000) hx hb dX8_parrotsAbove_39 (by decide) ?_
      refine lv_imul hx hb dX8_parrotsAbove_42 ?_
      refine lv_iload_n hx hb dX8_parrotsAbove_43 rfl (lv_at hl 2 rfl) ?_
      refine lv_icmp_le (tgt := 56) hx hb dX8_parrotsAbove_44 (by decide) (fun c44 => ?_) (fun c44 => ?_)
      · refine lv_iinc (v := nI (i + 1)) (lv' := [(5, .int (nI (i + 1))), (4, .int (abC votf (px * smN votf 26) i)), (3, .int (px * smN votf 26)), (0, .ref po), (1, .int px), (2, .ref (T 6))]) hx hb dX8_parrotsAbove_56 hl (k := 0) rfl (nI_1 i) (by decide) rfl (fun ls hl => ?_)
        refine lv_goto (tgt := 19) hx hb dX8_parrotsAbove_59 (by decide) ?_
        have e_1 : (abC votf (px * smN votf 26) i : Int32) = abC votf (px * smN votf 26) (i + 1) := by first | with_reducible rfl | (simp [abC, c44]; done)
        have hl : lv_has ls 6 [(5, .int (nI (i + 1))), (4, .int (abC votf (px * smN votf 26) (i + 1))), (3, .int (px * smN votf 26)), (0, .ref po), (1, .int px), (2, .ref (T 6))] := lv_sub hl [0, 1, 2, 3, 4, 5] (by show (_ : List (Nat × Value)) = [(5, .int (nI (i + 1))), (4, .int (abC votf (px * smN votf 26) (i + 1))), (3, .int (px * smN votf 26)), (0, .ref po), (1, .int px), (2, .ref (T 6))]; rw [← e_1]; rfl)
        exact ih (i + 1) (by omega)  _ _ _ hP hD hS hl
      · refine lv_iload hx hb dX8_parrotsAbove_47 (lv_at hl 1 rfl) ?_
        refine lv_iconst (v := 1) hx hb dX8_parrotsAbove_49 (by decide) ?_
        refine lv_iload hx hb dX8_parrotsAbove_50 (lv_at hl 0 rfl) ?_
        refine lv_ishl hx hb dX8_parrotsAbove_52 ?_
        refine lv_ior hx hb dX8_parrotsAbove_53 ?_
        refine lv_istore (lv' := [(4, .int ((abC votf (px * smN votf 26) i) ||| (1 <<< ((nI i) &&& 31)))), (5, .int (nI i)), (3, .int (px * smN votf 26)), (0, .ref po), (1, .int px), (2, .ref (T 6))]) hx hb dX8_parrotsAbove_54 hl (by decide) rfl (fun ls hl => ?_)
        refine lv_iinc (v := nI (i + 1)) (lv' := [(5, .int (nI (i + 1))), (4, .int ((abC votf (px * smN votf 26) i) ||| (1 <<< ((nI i) &&& 31)))), (3, .int (px * smN votf 26)), (0, .ref po), (1, .int px), (2, .ref (T 6))]) hx hb dX8_parrotsAbove_56 hl (k := 1) rfl (nI_1 i) (by decide) rfl (fun ls hl => ?_)
        refine lv_goto (tgt := 19) hx hb dX8_parrotsAbove_59 (by decide) ?_
        have e_2 : ((abC votf (px * smN votf 26) i) ||| (1 <<< ((nI i) &&& 31)) : Int32) = abC votf (px * smN votf 26) (i + 1) := by first | with_reducible rfl | (simp [abC, c44]; done)
        have hl : lv_has ls 6 [(5, .int (nI (i + 1))), (4, .int (abC votf (px * smN votf 26) (i + 1))), (3, .int (px * smN votf 26)), (0, .ref po), (1, .int px), (2, .ref (T 6))] := lv_sub hl [0, 1, 2, 3, 4, 5] (by show (_ : List (Nat × Value)) = [(5, .int (nI (i + 1))), (4, .int (abC votf (px * smN votf 26) (i + 1))), (3, .int (px * smN votf 26)), (0, .ref po), (1, .int px), (2, .ref (T 6))]; rw [← e_2]; rfl)
        exact ih (i + 1) (by omega)  _ _ _ hP hD hS hl
  have hl : lv_has ls 6 [(0, .ref po), (1, .int px), (2, .ref (T 6))] := hl
  have hP : va_P D vwCl [oPC po vs ho so, oSt vs vol val (bI via) (nI cq), oLi vol voxo voyo volt, oFL voxo voxc voxs voxg voch vosz vorm, aI T voxc 26 vofc, aI T voxs 26 vofs, aI T voxg 26 vofg, oSL voyo voyc vowo vowz vowr, aI T voyc 26 vowf, aI T volt 26 votf] s.heap := hP
  have hD : va_D A [oPC po vs ho so, oSt vs vol val (bI via) (nI cq), oLi vol voxo voyo volt, oFL voxo voxc voxs voxg voch vosz vorm, aI T voxc 26 vofc, aI T voxs 26 vofs, aI T voxg 26 vofg, oSL voyo voyc vowo vowz vowr, aI T voyc 26 vowf, aI T volt 26 votf] := hD
  refine lv_iload_n hx hb dX8_parrotsAbove_0 rfl (lv_at hl 1 rfl) ?_
  refine lv_aload_n hx hb dX8_parrotsAbove_1 rfl (lv_at hl 0 rfl) ?_
  refine va_get (D := D) (ci := 7) (v := .ref vs) (C := RX8) (T := TX8) (N := 3) hx hb hts iX8 hown hC.1 hP 0 rfl rfl 0 (by decide) (hts (.fieldLink RX8 10 "ParrotCounts" "state" "LParrotCounts$State;") (List.mem_of_getElem? (i := 1) rfl)) (fun _ h => h) rfl dX8_parrotsAbove_2 ?_
  refine va_get (D := D) (ci := 6) (v := .ref vol) (C := RX7) (T := TX7) (N := 4) hx hb hts iX7 hown hC.1 hP 1 rfl rfl 0 (by decide) (hts (.fieldLink RX8 37 "ParrotCounts$State" "own" "LParrotCounts$Listener;") (List.mem_of_getElem? (i := 2) rfl)) (fun _ h => h) rfl dX8_parrotsAbove_5 ?_
  have hP := hP.sub (ws' := [oLi vol voxo voyo volt, oFL voxo voxc voxs voxg voch vosz vorm, aI T voxc 26 vofc, aI T voxs 26 vofs, aI T voxg 26 vofg, oSL voyo voyc vowo vowz vowr, aI T voyc 26 vowf, aI T volt 26 votf] ++ [oPC po vs ho so, oSt vs vol val (bI via) (nI cq)]) [2, 3, 4, 5, 6, 7, 8, 9, 0, 1] rfl
  have hD := hD.sub (ws' := [oLi vol voxo voyo volt, oFL voxo voxc voxs voxg voch vosz vorm, aI T voxc 26 vofc, aI T voxs 26 vofs, aI T voxg 26 vofg, oSL voyo voyc vowo vowz vowr, aI T voyc 26 vowf, aI T volt 26 votf] ++ [oPC po vs ho so, oSt vs vol val (bI via) (nI cq)]) [2, 3, 4, 5, 6, 7, 8, 9, 0, 1] (by decide) rfl
  refine kV (ci := 2) (As := []) (rest := [.int px]) ⟨hx, hb, hml, hown, hts⟩ (c_X2_sumOfCalls l D T vol voxo voxc voxs voxg voyo voyc volt vofc vofs vofg voch vosz vorm vowf vowo vowz vowr votf ) (cwV 0 hts gX8_parrotsAbove_X2_sumOfCalls rfl rfl rfl (by decide +kernel) ⟨Nat.le_of_ble_eq_true rfl, Nat.le_of_ble_eq_true rfl⟩) hC hP hD hS hA rfl rfl rfl hl.1 rfl (Nat.le_of_ble_eq_true rfl) dX8_parrotsAbove_8 ⟨Nat.zero_le _, Nat.zero_le _⟩ (fun H locs hP hD hS => ?_)
  have hP := hP.sub (ws' := [oPC po vs ho so, oSt vs vol val (bI via) (nI cq), oLi vol voxo voyo volt, oFL voxo voxc voxs voxg voch vosz vorm, aI T voxc 26 vofc, aI T voxs 26 vofs, aI T voxg 26 vofg, oSL voyo voyc vowo vowz vowr, aI T voyc 26 vowf, aI T volt 26 votf]) [8, 9, 0, 1, 2, 3, 4, 5, 6, 7] rfl
  have hD := hD.sub (ws' := [oPC po vs ho so, oSt vs vol val (bI via) (nI cq), oLi vol voxo voyo volt, oFL voxo voxc voxs voxg voch vosz vorm, aI T voxc 26 vofc, aI T voxs 26 vofs, aI T voxg 26 vofg, oSL voyo voyc vowo vowz vowr, aI T voyc 26 vowf, aI T volt 26 votf]) [8, 9, 0, 1, 2, 3, 4, 5, 6, 7] (by decide) rfl
  refine W.eq (g2 := F0 m 11 ls [.int (smN votf 26), .int px]) rfl ?_
  refine lv_imul hx hb dX8_parrotsAbove_11 ?_
  refine lv_istore_n (lv' := [(3, .int (px * (smN votf 26))), (0, .ref po), (1, .int px), (2, .ref (T 6))]) hx hb dX8_parrotsAbove_12 rfl hl (by decide) rfl (fun ls hl => ?_)
  refine lv_iconst (v := 0) hx hb dX8_parrotsAbove_13 (by decide) ?_
  refine lv_istore (lv' := [(4, .int 0), (3, .int (px * (smN votf 26))), (0, .ref po), (1, .int px), (2, .ref (T 6))]) hx hb dX8_parrotsAbove_14 hl (by decide) rfl (fun ls hl => ?_)
  refine lv_iconst (v := 0) hx hb dX8_parrotsAbove_16 (by decide) ?_
  refine lv_istore (lv' := [(5, .int 0), (4, .int 0), (3, .int (px * (smN votf 26))), (0, .ref po), (1, .int px), (2, .ref (T 6))]) hx hb dX8_parrotsAbove_17 hl (by decide) rfl (fun ls hl => ?_)
  have e_3 : (0 : Int32) = nI 0 := rfl
  have e_4 : (0 : Int32) = abC votf (px * smN votf 26) 0 := rfl
  have e_5 : (px * (smN votf 26) : Int32) = px * smN votf 26 := rfl
  have hl : lv_has ls 6 [(5, .int (nI 0)), (4, .int (abC votf (px * smN votf 26) 0)), (3, .int (px * smN votf 26)), (0, .ref po), (1, .int px), (2, .ref (T 6))] := lv_sub hl [0, 1, 2, 3, 4, 5] (by show (_ : List (Nat × Value)) = [(5, .int (nI 0)), (4, .int (abC votf (px * smN votf 26) 0)), (3, .int (px * smN votf 26)), (0, .ref po), (1, .int px), (2, .ref (T 6))]; rw [← e_3, ← e_4, ← e_5]; rfl)
  exact loop_19 26 0 (by omega)  _ _ _ hP hD hS hl
abbrev rX8_surelyAbove : Room := { frames := 6, cells := 0, slots := 0, locals := 133 }
set_option maxHeartbeats 4000000 in
set_option maxRecDepth 100000 in
theorem c_X8_surelyAbove (l : Launch) (D : va_G) (T : Nat → ClassId) (po ho so vs val : Nat) (via : Bool) (cq : Nat) (vol voxo voxc voxs voxg voyo voyc volt : Nat) (vofc vofs vofg : Nat → Int32) (voch vosz vorm : Int32) (vowf : Nat → Int32) (vowo vowz vowr : Int32) (votf : Nat → Int32) (px : Int32) (hlo : ¬ px < 0) (hhi : px ≤ 1000) : kEM l D T yX8_surelyAbove wsX8_surelyAbove rX8_surelyAbove [.ref po, .int px] [oPC po vs ho so, oSt vs vol val (bI via) (nI cq), oLi vol voxo voyo volt, oFL voxo voxc voxs voxg voch vosz vorm, aI T voxc 26 vofc, aI T voxs 26 vofs, aI T voxg 26 vofg, oSL voyo voyc vowo vowz vowr, aI T voyc 26 vowf, aI T volt 26 votf] (some (.int (abC (flSure vofc vofs) (px * smN votf 26) 26))) [oPC po vs ho so, oSt vs vol val (bI via) (nI cq), oLi vol voxo voyo volt, oFL voxo voxc voxs voxg voch vosz vorm, aI T voxc 26 vofc, aI T voxs 26 vofs, aI T voxg 26 vofg, oSL voyo voyc vowo vowz vowr, aI T voyc 26 vowf, aI T volt 26 votf] := by
  refine kEM.of (cc := cX8_surelyAbove) (maxL := 2) (ret := some .int) (by decide) rfl (Nat.le_of_ble_eq_true rfl) ?_
  intro p e s m below meth c A Q ls hx hb hml hown hr hlk hts hC hP hD hS hA hl hret hE
  have hl : lv_has ls 2 [(0, .ref po), (1, .int px)] := hl
  have hP : va_P D vwCl [oPC po vs ho so, oSt vs vol val (bI via) (nI cq), oLi vol voxo voyo volt, oFL voxo voxc voxs voxg voch vosz vorm, aI T voxc 26 vofc, aI T voxs 26 vofs, aI T voxg 26 vofg, oSL voyo voyc vowo vowz vowr, aI T voyc 26 vowf, aI T volt 26 votf] s.heap := hP
  have hD : va_D A [oPC po vs ho so, oSt vs vol val (bI via) (nI cq), oLi vol voxo voyo volt, oFL voxo voxc voxs voxg voch vosz vorm, aI T voxc 26 vofc, aI T voxs 26 vofs, aI T voxg 26 vofg, oSL voyo voyc vowo vowz vowr, aI T voyc 26 vowf, aI T volt 26 votf] := hD
  refine lv_iload_n hx hb dX8_surelyAbove_0 rfl (lv_at hl 1 rfl) ?_
  have hP := hP.sub (ws' := [] ++ [oPC po vs ho so, oSt vs vol val (bI via) (nI cq), oLi vol voxo voyo volt, oFL voxo voxc voxs voxg voch vosz vorm, aI T voxc 26 vofc, aI T voxs 26 vofs, aI T voxg 26 vofg, oSL voyo voyc vowo vowz vowr, aI T voyc 26 vowf, aI T volt 26 votf]) [0, 1, 2, 3, 4, 5, 6, 7, 8, 9] rfl
  have hD := hD.sub (ws' := [] ++ [oPC po vs ho so, oSt vs vol val (bI via) (nI cq), oLi vol voxo voyo volt, oFL voxo voxc voxs voxg voch vosz vorm, aI T voxc 26 vofc, aI T voxs 26 vofs, aI T voxg 26 vofg, oSL voyo voyc vowo vowz vowr, aI T voyc 26 vowf, aI T volt 26 votf]) [0, 1, 2, 3, 4, 5, 6, 7, 8, 9] (by decide) rfl
  refine kS (As := [.int px]) (rest := []) ⟨hx, hb, hml, hown, hts⟩ (c_X8_requirePermille l D T px (by first | omega | assumption) (by first | omega | assumption)) (va_cwS 1 hts gX8_surelyAbove_X8_requirePermille rfl rfl rfl (by decide +kernel) ⟨Nat.le_of_ble_eq_true rfl, Nat.le_of_ble_eq_true rfl⟩) hC hP hD hS hA rfl hl.1 rfl (Nat.le_of_ble_eq_true rfl) dX8_surelyAbove_1 ⟨Nat.zero_le _, Nat.zero_le _⟩ (fun H locs hP hD hS => ?_)
  have hP : va_P D vwCl [oPC po vs ho so, oSt vs vol val (bI via) (nI cq), oLi vol voxo voyo volt, oFL voxo voxc voxs voxg voch vosz vorm, aI T voxc 26 vofc, aI T voxs 26 vofs, aI T voxg 26 vofg, oSL voyo voyc vowo vowz vowr, aI T voyc 26 vowf, aI T volt 26 votf] H := hP
  have hD : va_D A [oPC po vs ho so, oSt vs vol val (bI via) (nI cq), oLi vol voxo voyo volt, oFL voxo voxc voxs voxg voch vosz vorm, aI T voxc 26 vofc, aI T voxs 26 vofs, aI T voxg 26 vofg, oSL voyo voyc vowo vowz vowr, aI T voyc 26 vowf, aI T volt 26 votf] := hD
  refine W.eq (g2 := F0 m 4 ls []) rfl ?_
  refine lv_aload_n hx hb dX8_surelyAbove_4 rfl (lv_at hl 0 rfl) ?_
  refine lv_iload_n hx hb dX8_surelyAbove_5 rfl (lv_at hl 1 rfl) ?_
  refine va_gets (v := .ref (T 4)) (ref := "ParrotCounts$Measure") hx hb hE.1 hS hown (hts (.fieldLink RX8 174 "ParrotCounts$Measure" "SURE" "LParrotCounts$Measure;") (List.mem_of_getElem? (i := 1) rfl)) (fun _ h => h) dX8_surelyAbove_6 ?_
  have hP := hP.sub (ws' := [oPC po vs ho so, oSt vs vol val (bI via) (nI cq), oLi vol voxo voyo volt, oFL voxo voxc voxs voxg voch vosz vorm, aI T voxc 26 vofc, aI T voxs 26 vofs, aI T voxg 26 vofg, oSL voyo voyc vowo vowz vowr, aI T voyc 26 vowf, aI T volt 26 votf] ++ []) [0, 1, 2, 3, 4, 5, 6, 7, 8, 9] rfl
  have hD := hD.sub (ws' := [oPC po vs ho so, oSt vs vol val (bI via) (nI cq), oLi vol voxo voyo volt, oFL voxo voxc voxs voxg voch vosz vorm, aI T voxc 26 vofc, aI T voxs 26 vofs, aI T voxg 26 vofg, oSL voyo voyc vowo vowz vowr, aI T voyc 26 vowf, aI T volt 26 votf] ++ []) [0, 1, 2, 3, 4, 5, 6, 7, 8, 9] (by decide) rfl
  refine kEV (ci := 7) (As := [.int px, .ref (T 4)]) (rest := []) ⟨hx, hb, hml, hown, hts⟩ (c_X8_parrotsAbove_s l D T po ho so vs val via cq vol voxo voxc voxs voxg voyo voyc volt vofc vofs vofg voch vosz vorm vowf vowo vowz vowr votf px ) (cwV 2 hts gX8_surelyAbove_X8_parrotsAbove rfl rfl rfl (by decide +kernel) ⟨Nat.le_of_ble_eq_true rfl, Nat.le_of_ble_eq_true rfl⟩) hC hE hP hD hS hA rfl rfl rfl hl.1 rfl (Nat.le_of_ble_eq_true rfl) dX8_surelyAbove_9 ⟨Nat.zero_le _, Nat.zero_le _⟩ (fun H locs hP hD hS => ?_)
  have hP : va_P D vwCl [oPC po vs ho so, oSt vs vol val (bI via) (nI cq), oLi vol voxo voyo volt, oFL voxo voxc voxs voxg voch vosz vorm, aI T voxc 26 vofc, aI T voxs 26 vofs, aI T voxg 26 vofg, oSL voyo voyc vowo vowz vowr, aI T voyc 26 vowf, aI T volt 26 votf] H := hP
  have hD : va_D A [oPC po vs ho so, oSt vs vol val (bI via) (nI cq), oLi vol voxo voyo volt, oFL voxo voxc voxs voxg voch vosz vorm, aI T voxc 26 vofc, aI T voxs 26 vofs, aI T voxg 26 vofg, oSL voyo voyc vowo vowz vowr, aI T voyc 26 vowf, aI T volt 26 votf] := hD
  refine W.eq (g2 := F0 m 12 ls [.int (abC (flSure vofc vofs) (px * smN votf 26) 26)]) rfl ?_
  exact hret _ _ _ _ _ (fun Qc free hq hf => W.iret hx hb hr hq hf dX8_surelyAbove_12 hlk) hP hD hS
abbrev rX8_perhapsAbove : Room := { frames := 6, cells := 0, slots := 0, locals := 133 }
set_option maxHeartbeats 4000000 in
set_option maxRecDepth 100000 in
theorem c_X8_perhapsAbove (l : Launch) (D : va_G) (T : Nat → ClassId) (po ho so vs val : Nat) (via : Bool) (cq : Nat) (vol voxo voxc voxs voxg voyo voyc volt : Nat) (vofc vofs vofg : Nat → Int32) (voch vosz vorm : Int32) (vowf : Nat → Int32) (vowo vowz vowr : Int32) (votf : Nat → Int32) (px : Int32) (hlo : ¬ px < 0) (hhi : px ≤ 1000) : kEM l D T yX8_perhapsAbove wsX8_perhapsAbove rX8_perhapsAbove [.ref po, .int px] [oPC po vs ho so, oSt vs vol val (bI via) (nI cq), oLi vol voxo voyo volt, oFL voxo voxc voxs voxg voch vosz vorm, aI T voxc 26 vofc, aI T voxs 26 vofs, aI T voxg 26 vofg, oSL voyo voyc vowo vowz vowr, aI T voyc 26 vowf, aI T volt 26 votf] (some (.int (abC (flEst vofc vofg vosz vorm) (px * smN votf 26) 26))) [oPC po vs ho so, oSt vs vol val (bI via) (nI cq), oLi vol voxo voyo volt, oFL voxo voxc voxs voxg voch vosz vorm, aI T voxc 26 vofc, aI T voxs 26 vofs, aI T voxg 26 vofg, oSL voyo voyc vowo vowz vowr, aI T voyc 26 vowf, aI T volt 26 votf] := by
  refine kEM.of (cc := cX8_perhapsAbove) (maxL := 2) (ret := some .int) (by decide) rfl (Nat.le_of_ble_eq_true rfl) ?_
  intro p e s m below meth c A Q ls hx hb hml hown hr hlk hts hC hP hD hS hA hl hret hE
  have hl : lv_has ls 2 [(0, .ref po), (1, .int px)] := hl
  have hP : va_P D vwCl [oPC po vs ho so, oSt vs vol val (bI via) (nI cq), oLi vol voxo voyo volt, oFL voxo voxc voxs voxg voch vosz vorm, aI T voxc 26 vofc, aI T voxs 26 vofs, aI T voxg 26 vofg, oSL voyo voyc vowo vowz vowr, aI T voyc 26 vowf, aI T volt 26 votf] s.heap := hP
  have hD : va_D A [oPC po vs ho so, oSt vs vol val (bI via) (nI cq), oLi vol voxo voyo volt, oFL voxo voxc voxs voxg voch vosz vorm, aI T voxc 26 vofc, aI T voxs 26 vofs, aI T voxg 26 vofg, oSL voyo voyc vowo vowz vowr, aI T voyc 26 vowf, aI T volt 26 votf] := hD
  refine lv_iload_n hx hb dX8_perhapsAbove_0 rfl (lv_at hl 1 rfl) ?_
  have hP := hP.sub (ws' := [] ++ [oPC po vs ho so, oSt vs vol val (bI via) (nI cq), oLi vol voxo voyo volt, oFL voxo voxc voxs voxg voch vosz vorm, aI T voxc 26 vofc, aI T voxs 26 vofs, aI T voxg 26 vofg, oSL voyo voyc vowo vowz vowr, aI T voyc 26 vowf, aI T volt 26 votf]) [0, 1, 2, 3, 4, 5, 6, 7, 8, 9] rfl
  have hD := hD.sub (ws' := [] ++ [oPC po vs ho so, oSt vs vol val (bI via) (nI cq), oLi vol voxo voyo volt, oFL voxo voxc voxs voxg voch vosz vorm, aI T voxc 26 vofc, aI T voxs 26 vofs, aI T voxg 26 vofg, oSL voyo voyc vowo vowz vowr, aI T voyc 26 vowf, aI T volt 26 votf]) [0, 1, 2, 3, 4, 5, 6, 7, 8, 9] (by decide) rfl
  refine kS (As := [.int px]) (rest := []) ⟨hx, hb, hml, hown, hts⟩ (c_X8_requirePermille l D T px (by first | omega | assumption) (by first | omega | assumption)) (va_cwS 1 hts gX8_perhapsAbove_X8_requirePermille rfl rfl rfl (by decide +kernel) ⟨Nat.le_of_ble_eq_true rfl, Nat.le_of_ble_eq_true rfl⟩) hC hP hD hS hA rfl hl.1 rfl (Nat.le_of_ble_eq_true rfl) dX8_perhapsAbove_1 ⟨Nat.zero_le _, Nat.zero_le _⟩ (fun H locs hP hD hS => ?_)
  have hP : va_P D vwCl [oPC po vs ho so, oSt vs vol val (bI via) (nI cq), oLi vol voxo voyo volt, oFL voxo voxc voxs voxg voch vosz vorm, aI T voxc 26 vofc, aI T voxs 26 vofs, aI T voxg 26 vofg, oSL voyo voyc vowo vowz vowr, aI T voyc 26 vowf, aI T volt 26 votf] H := hP
  have hD : va_D A [oPC po vs ho so, oSt vs vol val (bI via) (nI cq), oLi vol voxo voyo volt, oFL voxo voxc voxs voxg voch vosz vorm, aI T voxc 26 vofc, aI T voxs 26 vofs, aI T voxg 26 vofg, oSL voyo voyc vowo vowz vowr, aI T voyc 26 vowf, aI T volt 26 votf] := hD
  refine W.eq (g2 := F0 m 4 ls []) rfl ?_
  refine lv_aload_n hx hb dX8_perhapsAbove_4 rfl (lv_at hl 0 rfl) ?_
  refine lv_iload_n hx hb dX8_perhapsAbove_5 rfl (lv_at hl 1 rfl) ?_
  refine va_gets (v := .ref (T 5)) (ref := "ParrotCounts$Measure") hx hb hE.2.1 hS hown (hts (.fieldLink RX8 184 "ParrotCounts$Measure" "ESTIMATED" "LParrotCounts$Measure;") (List.mem_of_getElem? (i := 1) rfl)) (fun _ h => h) dX8_perhapsAbove_6 ?_
  have hP := hP.sub (ws' := [oPC po vs ho so, oSt vs vol val (bI via) (nI cq), oLi vol voxo voyo volt, oFL voxo voxc voxs voxg voch vosz vorm, aI T voxc 26 vofc, aI T voxs 26 vofs, aI T voxg 26 vofg, oSL voyo voyc vowo vowz vowr, aI T voyc 26 vowf, aI T volt 26 votf] ++ []) [0, 1, 2, 3, 4, 5, 6, 7, 8, 9] rfl
  have hD := hD.sub (ws' := [oPC po vs ho so, oSt vs vol val (bI via) (nI cq), oLi vol voxo voyo volt, oFL voxo voxc voxs voxg voch vosz vorm, aI T voxc 26 vofc, aI T voxs 26 vofs, aI T voxg 26 vofg, oSL voyo voyc vowo vowz vowr, aI T voyc 26 vowf, aI T volt 26 votf] ++ []) [0, 1, 2, 3, 4, 5, 6, 7, 8, 9] (by decide) rfl
  refine kEV (ci := 7) (As := [.int px, .ref (T 5)]) (rest := []) ⟨hx, hb, hml, hown, hts⟩ (c_X8_parrotsAbove_e l D T po ho so vs val via cq vol voxo voxc voxs voxg voyo voyc volt vofc vofs vofg voch vosz vorm vowf vowo vowz vowr votf px ) (cwV 2 hts gX8_perhapsAbove_X8_parrotsAbove rfl rfl rfl (by decide +kernel) ⟨Nat.le_of_ble_eq_true rfl, Nat.le_of_ble_eq_true rfl⟩) hC hE hP hD hS hA rfl rfl rfl hl.1 rfl (Nat.le_of_ble_eq_true rfl) dX8_perhapsAbove_9 ⟨Nat.zero_le _, Nat.zero_le _⟩ (fun H locs hP hD hS => ?_)
  have hP : va_P D vwCl [oPC po vs ho so, oSt vs vol val (bI via) (nI cq), oLi vol voxo voyo volt, oFL voxo voxc voxs voxg voch vosz vorm, aI T voxc 26 vofc, aI T voxs 26 vofs, aI T voxg 26 vofg, oSL voyo voyc vowo vowz vowr, aI T voyc 26 vowf, aI T volt 26 votf] H := hP
  have hD : va_D A [oPC po vs ho so, oSt vs vol val (bI via) (nI cq), oLi vol voxo voyo volt, oFL voxo voxc voxs voxg voch vosz vorm, aI T voxc 26 vofc, aI T voxs 26 vofs, aI T voxg 26 vofg, oSL voyo voyc vowo vowz vowr, aI T voyc 26 vowf, aI T volt 26 votf] := hD
  refine W.eq (g2 := F0 m 12 ls [.int (abC (flEst vofc vofg vosz vorm) (px * smN votf 26) 26)]) rfl ?_
  exact hret _ _ _ _ _ (fun Qc free hq hf => W.iret hx hb hr hq hf dX8_perhapsAbove_12 hlk) hP hD hS
abbrev rX8_trulyAbove : Room := { frames := 6, cells := 0, slots := 0, locals := 133 }
set_option maxHeartbeats 4000000 in
set_option maxRecDepth 100000 in
theorem c_X8_trulyAbove (l : Launch) (D : va_G) (T : Nat → ClassId) (po ho so vs val : Nat) (via : Bool) (cq : Nat) (vol voxo voxc voxs voxg voyo voyc volt : Nat) (vofc vofs vofg : Nat → Int32) (voch vosz vorm : Int32) (vowf : Nat → Int32) (vowo vowz vowr : Int32) (votf : Nat → Int32) (px : Int32) (hlo : ¬ px < 0) (hhi : px ≤ 1000) : kEM l D T yX8_trulyAbove wsX8_trulyAbove rX8_trulyAbove [.ref po, .int px] [oPC po vs ho so, oSt vs vol val (bI via) (nI cq), oLi vol voxo voyo volt, oFL voxo voxc voxs voxg voch vosz vorm, aI T voxc 26 vofc, aI T voxs 26 vofs, aI T voxg 26 vofg, oSL voyo voyc vowo vowz vowr, aI T voyc 26 vowf, aI T volt 26 votf] (some (.int (abC votf (px * smN votf 26) 26))) [oPC po vs ho so, oSt vs vol val (bI via) (nI cq), oLi vol voxo voyo volt, oFL voxo voxc voxs voxg voch vosz vorm, aI T voxc 26 vofc, aI T voxs 26 vofs, aI T voxg 26 vofg, oSL voyo voyc vowo vowz vowr, aI T voyc 26 vowf, aI T volt 26 votf] := by
  refine kEM.of (cc := cX8_trulyAbove) (maxL := 2) (ret := some .int) (by decide) rfl (Nat.le_of_ble_eq_true rfl) ?_
  intro p e s m below meth c A Q ls hx hb hml hown hr hlk hts hC hP hD hS hA hl hret hE
  have hl : lv_has ls 2 [(0, .ref po), (1, .int px)] := hl
  have hP : va_P D vwCl [oPC po vs ho so, oSt vs vol val (bI via) (nI cq), oLi vol voxo voyo volt, oFL voxo voxc voxs voxg voch vosz vorm, aI T voxc 26 vofc, aI T voxs 26 vofs, aI T voxg 26 vofg, oSL voyo voyc vowo vowz vowr, aI T voyc 26 vowf, aI T volt 26 votf] s.heap := hP
  have hD : va_D A [oPC po vs ho so, oSt vs vol val (bI via) (nI cq), oLi vol voxo voyo volt, oFL voxo voxc voxs voxg voch vosz vorm, aI T voxc 26 vofc, aI T voxs 26 vofs, aI T voxg 26 vofg, oSL voyo voyc vowo vowz vowr, aI T voyc 26 vowf, aI T volt 26 votf] := hD
  refine lv_iload_n hx hb dX8_trulyAbove_0 rfl (lv_at hl 1 rfl) ?_
  have hP := hP.sub (ws' := [] ++ [oPC po vs ho so, oSt vs vol val (bI via) (nI cq), oLi vol voxo voyo volt, oFL voxo voxc voxs voxg voch vosz vorm, aI T voxc 26 vofc, aI T voxs 26 vofs, aI T voxg 26 vofg, oSL voyo voyc vowo vowz vowr, aI T voyc 26 vowf, aI T volt 26 votf]) [0, 1, 2, 3, 4, 5, 6, 7, 8, 9] rfl
  have hD := hD.sub (ws' := [] ++ [oPC po vs ho so, oSt vs vol val (bI via) (nI cq), oLi vol voxo voyo volt, oFL voxo voxc voxs voxg voch vosz vorm, aI T voxc 26 vofc, aI T voxs 26 vofs, aI T voxg 26 vofg, oSL voyo voyc vowo vowz vowr, aI T voyc 26 vowf, aI T volt 26 votf]) [0, 1, 2, 3, 4, 5, 6, 7, 8, 9] (by decide) rfl
  refine kS (As := [.int px]) (rest := []) ⟨hx, hb, hml, hown, hts⟩ (c_X8_requirePermille l D T px (by first | omega | assumption) (by first | omega | assumption)) (va_cwS 1 hts gX8_trulyAbove_X8_requirePermille rfl rfl rfl (by decide +kernel) ⟨Nat.le_of_ble_eq_true rfl, Nat.le_of_ble_eq_true rfl⟩) hC hP hD hS hA rfl hl.1 rfl (Nat.le_of_ble_eq_true rfl) dX8_trulyAbove_1 ⟨Nat.zero_le _, Nat.zero_le _⟩ (fun H locs hP hD hS => ?_)
  have hP : va_P D vwCl [oPC po vs ho so, oSt vs vol val (bI via) (nI cq), oLi vol voxo voyo volt, oFL voxo voxc voxs voxg voch vosz vorm, aI T voxc 26 vofc, aI T voxs 26 vofs, aI T voxg 26 vofg, oSL voyo voyc vowo vowz vowr, aI T voyc 26 vowf, aI T volt 26 votf] H := hP
  have hD : va_D A [oPC po vs ho so, oSt vs vol val (bI via) (nI cq), oLi vol voxo voyo volt, oFL voxo voxc voxs voxg voch vosz vorm, aI T voxc 26 vofc, aI T voxs 26 vofs, aI T voxg 26 vofg, oSL voyo voyc vowo vowz vowr, aI T voyc 26 vowf, aI T volt 26 votf] := hD
  refine W.eq (g2 := F0 m 4 ls []) rfl ?_
  refine lv_aload_n hx hb dX8_trulyAbove_4 rfl (lv_at hl 0 rfl) ?_
  refine lv_iload_n hx hb dX8_trulyAbove_5 rfl (lv_at hl 1 rfl) ?_
  refine va_gets (v := .ref (T 6)) (ref := "ParrotCounts$Measure") hx hb hE.2.2.2.2.2 hS hown (hts (.fieldLink RX8 187 "ParrotCounts$Measure" "TRUE" "LParrotCounts$Measure;") (List.mem_of_getElem? (i := 1) rfl)) (fun _ h => h) dX8_trulyAbove_6 ?_
  have hP := hP.sub (ws' := [oPC po vs ho so, oSt vs vol val (bI via) (nI cq), oLi vol voxo voyo volt, oFL voxo voxc voxs voxg voch vosz vorm, aI T voxc 26 vofc, aI T voxs 26 vofs, aI T voxg 26 vofg, oSL voyo voyc vowo vowz vowr, aI T voyc 26 vowf, aI T volt 26 votf] ++ []) [0, 1, 2, 3, 4, 5, 6, 7, 8, 9] rfl
  have hD := hD.sub (ws' := [oPC po vs ho so, oSt vs vol val (bI via) (nI cq), oLi vol voxo voyo volt, oFL voxo voxc voxs voxg voch vosz vorm, aI T voxc 26 vofc, aI T voxs 26 vofs, aI T voxg 26 vofg, oSL voyo voyc vowo vowz vowr, aI T voyc 26 vowf, aI T volt 26 votf] ++ []) [0, 1, 2, 3, 4, 5, 6, 7, 8, 9] (by decide) rfl
  refine kEV (ci := 7) (As := [.int px, .ref (T 6)]) (rest := []) ⟨hx, hb, hml, hown, hts⟩ (c_X8_parrotsAbove_t l D T po ho so vs val via cq vol voxo voxc voxs voxg voyo voyc volt vofc vofs vofg voch vosz vorm vowf vowo vowz vowr votf px ) (cwV 2 hts gX8_trulyAbove_X8_parrotsAbove rfl rfl rfl (by decide +kernel) ⟨Nat.le_of_ble_eq_true rfl, Nat.le_of_ble_eq_true rfl⟩) hC hE hP hD hS hA rfl rfl rfl hl.1 rfl (Nat.le_of_ble_eq_true rfl) dX8_trulyAbove_9 ⟨Nat.zero_le _, Nat.zero_le _⟩ (fun H locs hP hD hS => ?_)
  have hP : va_P D vwCl [oPC po vs ho so, oSt vs vol val (bI via) (nI cq), oLi vol voxo voyo volt, oFL voxo voxc voxs voxg voch vosz vorm, aI T voxc 26 vofc, aI T voxs 26 vofs, aI T voxg 26 vofg, oSL voyo voyc vowo vowz vowr, aI T voyc 26 vowf, aI T volt 26 votf] H := hP
  have hD : va_D A [oPC po vs ho so, oSt vs vol val (bI via) (nI cq), oLi vol voxo voyo volt, oFL voxo voxc voxs voxg voch vosz vorm, aI T voxc 26 vofc, aI T voxs 26 vofs, aI T voxg 26 vofg, oSL voyo voyc vowo vowz vowr, aI T voyc 26 vowf, aI T volt 26 votf] := hD
  refine W.eq (g2 := F0 m 12 ls [.int (abC votf (px * smN votf 26) 26)]) rfl ?_
  exact hret _ _ _ _ _ (fun Qc free hq hf => W.iret hx hb hr hq hf dX8_trulyAbove_12 hlk) hP hD hS
