theorem k_nan {r : UInt64} (h : FP.Core.dIsNaN r = false) : vf_n64 r := by
  have h1 : ¬ 9218868437227405312 < r.toNat % 2 ^ 63 := fun z => by rw [(FP.Core.isNaN_bits r).mpr z] at h; cases h
  unfold vf_n64
  rw [UInt64.le_iff_toNat_le, FP.Core.mask_toNat]
  exact Nat.le_of_not_lt h1
theorem k_ddiv {x y : Int32} (hy : ¬ y = 0) : vf_n64 (FP.ddiv (FP.i2d x) (FP.i2d y)) :=
  k_nan (FP.Core.ddiv_out (FP.Core.i2d_fin x).notNaN (FP.Core.i2d_fin y) (fun z => FP.Core.i2d_ne_zero hy ((FP.Core.zero_bits2 _).mp z)))
abbrev rX8_loudestShare : Room := { frames := 2, cells := 0, slots := 0, locals := 47 }
set_option maxHeartbeats 4000000 in
set_option maxRecDepth 100000 in
theorem c_X8_loudestShare_0 (l : Launch) (D : va_G) (T : Nat → ClassId) (po ho so vs val : Nat) (via : Bool) (cq : Nat) (vol voxo voxc voxs voxg voyo voyc volt : Nat) (vofc vofs vofg : Nat → Int32) (voch vosz vorm : Int32) (vowf : Nat → Int32) (vowo vowz vowr : Int32) (votf : Nat → Int32) (h0 : smN votf 26 = 0) : kM l D T yX8_loudestShare wsX8_loudestShare rX8_loudestShare [.ref po] [oPC po vs ho so, oSt vs vol val (bI via) (nI cq), oLi vol voxo voyo volt, oFL voxo voxc voxs voxg voch vosz vorm, aI T voxc 26 vofc, aI T voxs 26 vofs, aI T voxg 26 vofg, oSL voyo voyc vowo vowz vowr, aI T voyc 26 vowf, aI T volt 26 votf] (some (.double FP.dconst0)) [oPC po vs ho so, oSt vs vol val (bI via) (nI cq), oLi vol voxo voyo volt, oFL voxo voxc voxs voxg voch vosz vorm, aI T voxc 26 vofc, aI T voxs 26 vofs, aI T voxg 26 vofg, oSL voyo voyc vowo vowz vowr, aI T voyc 26 vowf, aI T volt 26 votf] := by
  refine kM.of (cc := cX8_loudestShare) (maxL := 3) (ret := some .double) (by decide) rfl (Nat.le_of_ble_eq_true rfl) ?_
  intro p e s m below meth c A Q ls hx hb hml hown hr hlk hts hC hP hD hS hA hl hret
  have iX0 : ∀ w ∈ wsX00, w ∈ wsX8_loudestShare := (fun _ h => List.mem_cons_of_mem _ (List.mem_append_right _ h))
  have iX2 : ∀ w ∈ wsX20, w ∈ wsX8_loudestShare := (fun _ h => List.mem_cons_of_mem _ (List.mem_append_left _ (List.mem_append_right _ h)))
  have iX7 : ∀ w ∈ wsX70, w ∈ wsX8_loudestShare := (fun _ h => List.mem_cons_of_mem _ (List.mem_append_left _ (List.mem_append_left _ (List.mem_append_right _ h))))
  have iX8 : ∀ w ∈ wsX80, w ∈ wsX8_loudestShare := (fun _ h => List.mem_cons_of_mem _ (List.mem_append_left _ (List.mem_append_left _ (List.mem_append_left _ (List.mem_append_right _ h)))))
  have hl : lv_has ls 3 [(0, .ref po)] := hl
  have hP : va_P D vwCl [oPC po vs ho so, oSt vs vol val (bI via) (nI cq), oLi vol voxo voyo volt, oFL voxo voxc voxs voxg voch vosz vorm, aI T voxc 26 vofc, aI T voxs 26 vofs, aI T voxg 26 vofg, oSL voyo voyc vowo vowz vowr, aI T voyc 26 vowf, aI T volt 26 votf] s.heap := hP
  have hD : va_D A [oPC po vs ho so, oSt vs vol val (bI via) (nI cq), oLi vol voxo voyo volt, oFL voxo voxc voxs voxg voch vosz vorm, aI T voxc 26 vofc, aI T voxs 26 vofs, aI T voxg 26 vofg, oSL voyo voyc vowo vowz vowr, aI T voyc 26 vowf, aI T volt 26 votf] := hD
  refine lv_aload_n hx hb dX8_loudestShare_0 rfl (lv_at hl 0 rfl) ?_
  refine va_get (D := D) (ci := 7) (v := .ref vs) (C := RX8) (T := TX8) (N := 3) hx hb hts iX8 hown hC.1 hP 0 rfl rfl 0 (by decide) (hts (.fieldLink RX8 10 "ParrotCounts" "state" "LParrotCounts$State;") (List.mem_of_getElem? (i := 1) rfl)) (fun _ h => h) rfl dX8_loudestShare_1 ?_
  refine va_get (D := D) (ci := 6) (v := .ref vol) (C := RX7) (T := TX7) (N := 4) hx hb hts iX7 hown hC.1 hP 1 rfl rfl 0 (by decide) (hts (.fieldLink RX8 37 "ParrotCounts$State" "own" "LParrotCounts$Listener;") (List.mem_of_getElem? (i := 2) rfl)) (fun _ h => h) rfl dX8_loudestShare_4 ?_
  have hP := hP.sub (ws' := [oLi vol voxo voyo volt, oFL voxo voxc voxs voxg voch vosz vorm, aI T voxc 26 vofc, aI T voxs 26 vofs, aI T voxg 26 vofg, oSL voyo voyc vowo vowz vowr, aI T voyc 26 vowf, aI T volt 26 votf] ++ [oPC po vs ho so, oSt vs vol val (bI via) (nI cq)]) [2, 3, 4, 5, 6, 7, 8, 9, 0, 1] rfl
  have hD := hD.sub (ws' := [oLi vol voxo voyo volt, oFL voxo voxc voxs voxg voch vosz vorm, aI T voxc 26 vofc, aI T voxs 26 vofs, aI T voxg 26 vofg, oSL voyo voyc vowo vowz vowr, aI T voyc 26 vowf, aI T volt 26 votf] ++ [oPC po vs ho so, oSt vs vol val (bI via) (nI cq)]) [2, 3, 4, 5, 6, 7, 8, 9, 0, 1] (by decide) rfl
  refine kV (ci := 2) (As := []) (rest := []) ⟨hx, hb, hml, hown, hts⟩ (c_X2_sumOfCalls l D T vol voxo voxc voxs voxg voyo voyc volt vofc vofs vofg voch vosz vorm vowf vowo vowz vowr votf ) (cwV 0 hts gX8_loudestShare_X2_sumOfCalls rfl rfl rfl (by decide +kernel) ⟨Nat.le_of_ble_eq_true rfl, Nat.le_of_ble_eq_true rfl⟩) hC hP hD hS hA rfl rfl rfl hl.1 rfl (Nat.le_of_ble_eq_true rfl) dX8_loudestShare_7 ⟨Nat.zero_le _, Nat.zero_le _⟩ (fun H locs hP hD hS => ?_)
  have hP := hP.sub (ws' := [oPC po vs ho so, oSt vs vol val (bI via) (nI cq), oLi vol voxo voyo volt, oFL voxo voxc voxs voxg voch vosz vorm, aI T voxc 26 vofc, aI T voxs 26 vofs, aI T voxg 26 vofg, oSL voyo voyc vowo vowz vowr, aI T voyc 26 vowf, aI T volt 26 votf]) [8, 9, 0, 1, 2, 3, 4, 5, 6, 7] rfl
  have hD := hD.sub (ws' := [oPC po vs ho so, oSt vs vol val (bI via) (nI cq), oLi vol voxo voyo volt, oFL voxo voxc voxs voxg voch vosz vorm, aI T voxc 26 vofc, aI T voxs 26 vofs, aI T voxg 26 vofg, oSL voyo voyc vowo vowz vowr, aI T voyc 26 vowf, aI T volt 26 votf]) [8, 9, 0, 1, 2, 3, 4, 5, 6, 7] (by decide) rfl
  refine W.eq (g2 := F0 m 10 ls [.int (smN votf 26)]) rfl ?_
  refine lv_istore_n (lv' := [(1, .int (smN votf 26)), (0, .ref po)]) hx hb dX8_loudestShare_10 rfl hl (by decide) rfl (fun ls hl => ?_)
  refine lv_aload_n hx hb dX8_loudestShare_11 rfl (lv_at hl 1 rfl) ?_
  refine va_get (D := D) (ci := 7) (v := .ref vs) (C := RX8) (T := TX8) (N := 3) hx hb hts iX8 hown hC.1 hP 0 rfl rfl 0 (by decide) (hts (.fieldLink RX8 10 "ParrotCounts" "state" "LParrotCounts$State;") (List.mem_of_getElem? (i := 1) rfl)) (fun _ h => h) rfl dX8_loudestShare_12 ?_
  refine va_get (D := D) (ci := 6) (v := .ref vol) (C := RX7) (T := TX7) (N := 4) hx hb hts iX7 hown hC.1 hP 1 rfl rfl 0 (by decide) (hts (.fieldLink RX8 37 "ParrotCounts$State" "own" "LParrotCounts$Listener;") (List.mem_of_getElem? (i := 2) rfl)) (fun _ h => h) rfl dX8_loudestShare_15 ?_
  refine va_get (D := D) (ci := 2) (v := .ref voxo) (C := RX2) (T := TX2) (N := 3) hx hb hts iX2 hown hC.1 hP 2 rfl rfl 0 (by decide) (hts (.fieldLink RX8 57 "ParrotCounts$Listener" "first" "LParrotCounts$FirstList;") (List.mem_of_getElem? (i := 3) rfl)) (fun _ h => h) rfl dX8_loudestShare_18 ?_
  refine va_get (D := D) (ci := 0) (v := .ref voxc) (C := RX0) (T := TX0) (N := 6) hx hb hts iX0 hown hC.1 hP 3 rfl rfl 0 (by decide) (hts (.fieldLink RX8 141 "ParrotCounts$FirstList" "counts" "[I") (List.mem_of_getElem? (i := 4) rfl)) (fun _ h => h) rfl dX8_loudestShare_21 ?_
  refine lv_iconst (v := 0) hx hb dX8_loudestShare_24 (by decide) ?_
  have hP := hP.sub (ws' := [aI T voxc 26 vofc] ++ [oPC po vs ho so, oSt vs vol val (bI via) (nI cq), oLi vol voxo voyo volt, oFL voxo voxc voxs voxg voch vosz vorm, aI T voxs 26 vofs, aI T voxg 26 vofg, oSL voyo voyc vowo vowz vowr, aI T voyc 26 vowf, aI T volt 26 votf]) [4, 0, 1, 2, 3, 5, 6, 7, 8, 9] rfl
  have hD := hD.sub (ws' := [aI T voxc 26 vofc] ++ [oPC po vs ho so, oSt vs vol val (bI via) (nI cq), oLi vol voxo voyo volt, oFL voxo voxc voxs voxg voch vosz vorm, aI T voxs 26 vofs, aI T voxg 26 vofg, oSL voyo voyc vowo vowz vowr, aI T voyc 26 vowf, aI T volt 26 votf]) [4, 0, 1, 2, 3, 5, 6, 7, 8, 9] (by decide) rfl
  refine kS (As := [.ref voxc, .int 0]) (rest := []) ⟨hx, hb, hml, hown, hts⟩ (c_X8_parrotAt l D T voxc vofc 0 ) (va_cwS 2 hts gX8_loudestShare_X8_parrotAt rfl rfl rfl (by decide +kernel) ⟨Nat.le_of_ble_eq_true rfl, Nat.le_of_ble_eq_true rfl⟩) hC hP hD hS hA rfl hl.1 rfl (Nat.le_of_ble_eq_true rfl) dX8_loudestShare_25 ⟨Nat.zero_le _, Nat.zero_le _⟩ (fun H locs hP hD hS => ?_)
  have hP := hP.sub (ws' := [oPC po vs ho so, oSt vs vol val (bI via) (nI cq), oLi vol voxo voyo volt, oFL voxo voxc voxs voxg voch vosz vorm, aI T voxc 26 vofc, aI T voxs 26 vofs, aI T voxg 26 vofg, oSL voyo voyc vowo vowz vowr, aI T voyc 26 vowf, aI T volt 26 votf]) [1, 2, 3, 4, 0, 5, 6, 7, 8, 9] rfl
  have hD := hD.sub (ws' := [oPC po vs ho so, oSt vs vol val (bI via) (nI cq), oLi vol voxo voyo volt, oFL voxo voxc voxs voxg voch vosz vorm, aI T voxc 26 vofc, aI T voxs 26 vofs, aI T voxg 26 vofg, oSL voyo voyc vowo vowz vowr, aI T voyc 26 vowf, aI T volt 26 votf]) [1, 2, 3, 4, 0, 5, 6, 7, 8, 9] (by decide) rfl
  refine W.eq (g2 := F0 m 28 ls [.int (pAtN vofc 0 26 0)]) rfl ?_
  refine lv_istore_n (lv' := [(2, .int (pAtN vofc 0 26 0)), (1, .int (smN votf 26)), (0, .ref po)]) hx hb dX8_loudestShare_28 rfl hl (by decide) rfl (fun ls hl => ?_)
  refine lv_iload_n hx hb dX8_loudestShare_29 rfl (lv_at hl 1 rfl) ?_
  refine lv_if_eq (tgt := 38) hx hb dX8_loudestShare_30 (by decide) (fun _ => ?_) (fun c_x => absurd h0 c_x)
  refine lv_dconst0 hx hb dX8_loudestShare_38 ?_
  exact hret _ _ _ _ _ (fun Qc free hq hf => W.dret hx hb hr hq hf dX8_loudestShare_39 hlk) hP hD hS
set_option maxHeartbeats 4000000 in
set_option maxRecDepth 100000 in
theorem c_X8_loudestShare (l : Launch) (D : va_G) (T : Nat → ClassId) (po ho so vs val : Nat) (via : Bool) (cq : Nat) (vol voxo voxc voxs voxg voyo voyc volt : Nat) (vofc vofs vofg : Nat → Int32) (voch vosz vorm : Int32) (vowf : Nat → Int32) (vowo vowz vowr : Int32) (votf : Nat → Int32) (lq : Nat) (h0 : ¬ smN votf 26 = 0) (hlq : pAtN vofc 0 26 0 = nI lq) (hq6 : lq < 26) : kM l D T yX8_loudestShare wsX8_loudestShare rX8_loudestShare [.ref po] [oPC po vs ho so, oSt vs vol val (bI via) (nI cq), oLi vol voxo voyo volt, oFL voxo voxc voxs voxg voch vosz vorm, aI T voxc 26 vofc, aI T voxs 26 vofs, aI T voxg 26 vofg, oSL voyo voyc vowo vowz vowr, aI T voyc 26 vowf, aI T volt 26 votf] (some (.double (FP.ddiv (FP.i2d (vofc lq)) (FP.i2d (smN votf 26))))) [oPC po vs ho so, oSt vs vol val (bI via) (nI cq), oLi vol voxo voyo volt, oFL voxo voxc voxs voxg voch vosz vorm, aI T voxc 26 vofc, aI T voxs 26 vofs, aI T voxg 26 vofg, oSL voyo voyc vowo vowz vowr, aI T voyc 26 vowf, aI T volt 26 votf] := by
  refine kM.of (cc := cX8_loudestShare) (maxL := 3) (ret := some .double) (by decide) rfl (Nat.le_of_ble_eq_true rfl) ?_
  intro p e s m below meth c A Q ls hx hb hml hown hr hlk hts hC hP hD hS hA hl hret
  have iX0 : ∀ w ∈ wsX00, w ∈ wsX8_loudestShare := (fun _ h => List.mem_cons_of_mem _ (List.mem_append_right _ h))
  have iX2 : ∀ w ∈ wsX20, w ∈ wsX8_loudestShare := (fun _ h => List.mem_cons_of_mem _ (List.mem_append_left _ (List.mem_append_right _ h)))
  have iX7 : ∀ w ∈ wsX70, w ∈ wsX8_loudestShare := (fun _ h => List.mem_cons_of_mem _ (List.mem_append_left _ (List.mem_append_left _ (List.mem_append_right _ h))))
  have iX8 : ∀ w ∈ wsX80, w ∈ wsX8_loudestShare := (fun _ h => List.mem_cons_of_mem _ (List.mem_append_left _ (List.mem_append_left _ (List.mem_append_left _ (List.mem_append_right _ h)))))
  have hl : lv_has ls 3 [(0, .ref po)] := hl
  have hP : va_P D vwCl [oPC po vs ho so, oSt vs vol val (bI via) (nI cq), oLi vol voxo voyo volt, oFL voxo voxc voxs voxg voch vosz vorm, aI T voxc 26 vofc, aI T voxs 26 vofs, aI T voxg 26 vofg, oSL voyo voyc vowo vowz vowr, aI T voyc 26 vowf, aI T volt 26 votf] s.heap := hP
  have hD : va_D A [oPC po vs ho so, oSt vs vol val (bI via) (nI cq), oLi vol voxo voyo volt, oFL voxo voxc voxs voxg voch vosz vorm, aI T voxc 26 vofc, aI T voxs 26 vofs, aI T voxg 26 vofg, oSL voyo voyc vowo vowz vowr, aI T voyc 26 vowf, aI T volt 26 votf] := hD
  refine lv_aload_n hx hb dX8_loudestShare_0 rfl (lv_at hl 0 rfl) ?_
  refine va_get (D := D) (ci := 7) (v := .ref vs) (C := RX8) (T := TX8) (N := 3) hx hb hts iX8 hown hC.1 hP 0 rfl rfl 0 (by decide) (hts (.fieldLink RX8 10 "ParrotCounts" "state" "LParrotCounts$State;") (List.mem_of_getElem? (i := 1) rfl)) (fun _ h => h) rfl dX8_loudestShare_1 ?_
  refine va_get (D := D) (ci := 6) (v := .ref vol) (C := RX7) (T := TX7) (N := 4) hx hb hts iX7 hown hC.1 hP 1 rfl rfl 0 (by decide) (hts (.fieldLink RX8 37 "ParrotCounts$State" "own" "LParrotCounts$Listener;") (List.mem_of_getElem? (i := 2) rfl)) (fun _ h => h) rfl dX8_loudestShare_4 ?_
  have hP := hP.sub (ws' := [oLi vol voxo voyo volt, oFL voxo voxc voxs voxg voch vosz vorm, aI T voxc 26 vofc, aI T voxs 26 vofs, aI T voxg 26 vofg, oSL voyo voyc vowo vowz vowr, aI T voyc 26 vowf, aI T volt 26 votf] ++ [oPC po vs ho so, oSt vs vol val (bI via) (nI cq)]) [2, 3, 4, 5, 6, 7, 8, 9, 0, 1] rfl
  have hD := hD.sub (ws' := [oLi vol voxo voyo volt, oFL voxo voxc voxs voxg voch vosz vorm, aI T voxc 26 vofc, aI T voxs 26 vofs, aI T voxg 26 vofg, oSL voyo voyc vowo vowz vowr, aI T voyc 26 vowf, aI T volt 26 votf] ++ [oPC po vs ho so, oSt vs vol val (bI via) (nI cq)]) [2, 3, 4, 5, 6, 7, 8, 9, 0, 1] (by decide) rfl
  refine kV (ci := 2) (As := []) (rest := []) ⟨hx, hb, hml, hown, hts⟩ (c_X2_sumOfCalls l D T vol voxo voxc voxs voxg voyo voyc volt vofc vofs vofg voch vosz vorm vowf vowo vowz vowr votf ) (cwV 0 hts gX8_loudestShare_X2_sumOfCalls rfl rfl rfl (by decide +kernel) ⟨Nat.le_of_ble_eq_true rfl, Nat.le_of_ble_eq_true rfl⟩) hC hP hD hS hA rfl rfl rfl hl.1 rfl (Nat.le_of_ble_eq_true rfl) dX8_loudestShare_7 ⟨Nat.zero_le _, Nat.zero_le _⟩ (fun H locs hP hD hS => ?_)
  have hP := hP.sub (ws' := [oPC po vs ho so, oSt vs vol val (bI via) (nI cq), oLi vol voxo voyo volt, oFL voxo voxc voxs voxg voch vosz vorm, aI T voxc 26 vofc, aI T voxs 26 vofs, aI T voxg 26 vofg, oSL voyo voyc vowo vowz vowr, aI T voyc 26 vowf, aI T volt 26 votf]) [8, 9, 0, 1, 2, 3, 4, 5, 6, 7] rfl
  have hD := hD.sub (ws' := [oPC po vs ho so, oSt vs vol val (bI via) (nI cq), oLi vol voxo voyo volt, oFL voxo voxc voxs voxg voch vosz vorm, aI T voxc 26 vofc, aI T voxs 26 vofs, aI T voxg 26 vofg, oSL voyo voyc vowo vowz vowr, aI T voyc 26 vowf, aI T volt 26 votf]) [8, 9, 0, 1, 2, 3, 4, 5, 6, 7] (by decide) rfl
  refine W.eq (g2 := F0 m 10 ls [.int (smN votf 26)]) rfl ?_
  refine lv_istore_n (lv' := [(1, .int (smN votf 26)), (0, .ref po)]) hx hb dX8_loudestShare_10 rfl hl (by decide) rfl (fun ls hl => ?_)
  refine lv_aload_n hx hb dX8_loudestShare_11 rfl (lv_at hl 1 rfl) ?_
  refine va_get (D := D) (ci := 7) (v := .ref vs) (C := RX8) (T := TX8) (N := 3) hx hb hts iX8 hown hC.1 hP 0 rfl rfl 0 (by decide) (hts (.fieldLink RX8 10 "ParrotCounts" "state" "LParrotCounts$State;") (List.mem_of_getElem? (i := 1) rfl)) (fun _ h => h) rfl dX8_loudestShare_12 ?_
  refine va_get (D := D) (ci := 6) (v := .ref vol) (C := RX7) (T := TX7) (N := 4) hx hb hts iX7 hown hC.1 hP 1 rfl rfl 0 (by decide) (hts (.fieldLink RX8 37 "ParrotCounts$State" "own" "LParrotCounts$Listener;") (List.mem_of_getElem? (i := 2) rfl)) (fun _ h => h) rfl dX8_loudestShare_15 ?_
  refine va_get (D := D) (ci := 2) (v := .ref voxo) (C := RX2) (T := TX2) (N := 3) hx hb hts iX2 hown hC.1 hP 2 rfl rfl 0 (by decide) (hts (.fieldLink RX8 57 "ParrotCounts$Listener" "first" "LParrotCounts$FirstList;") (List.mem_of_getElem? (i := 3) rfl)) (fun _ h => h) rfl dX8_loudestShare_18 ?_
  refine va_get (D := D) (ci := 0) (v := .ref voxc) (C := RX0) (T := TX0) (N := 6) hx hb hts iX0 hown hC.1 hP 3 rfl rfl 0 (by decide) (hts (.fieldLink RX8 141 "ParrotCounts$FirstList" "counts" "[I") (List.mem_of_getElem? (i := 4) rfl)) (fun _ h => h) rfl dX8_loudestShare_21 ?_
  refine lv_iconst (v := 0) hx hb dX8_loudestShare_24 (by decide) ?_
  have hP := hP.sub (ws' := [aI T voxc 26 vofc] ++ [oPC po vs ho so, oSt vs vol val (bI via) (nI cq), oLi vol voxo voyo volt, oFL voxo voxc voxs voxg voch vosz vorm, aI T voxs 26 vofs, aI T voxg 26 vofg, oSL voyo voyc vowo vowz vowr, aI T voyc 26 vowf, aI T volt 26 votf]) [4, 0, 1, 2, 3, 5, 6, 7, 8, 9] rfl
  have hD := hD.sub (ws' := [aI T voxc 26 vofc] ++ [oPC po vs ho so, oSt vs vol val (bI via) (nI cq), oLi vol voxo voyo volt, oFL voxo voxc voxs voxg voch vosz vorm, aI T voxs 26 vofs, aI T voxg 26 vofg, oSL voyo voyc vowo vowz vowr, aI T voyc 26 vowf, aI T volt 26 votf]) [4, 0, 1, 2, 3, 5, 6, 7, 8, 9] (by decide) rfl
  refine kS (As := [.ref voxc, .int 0]) (rest := []) ⟨hx, hb, hml, hown, hts⟩ (c_X8_parrotAt l D T voxc vofc 0 ) (va_cwS 2 hts gX8_loudestShare_X8_parrotAt rfl rfl rfl (by decide +kernel) ⟨Nat.le_of_ble_eq_true rfl, Nat.le_of_ble_eq_true rfl⟩) hC hP hD hS hA rfl hl.1 rfl (Nat.le_of_ble_eq_true rfl) dX8_loudestShare_25 ⟨Nat.zero_le _, Nat.zero_le _⟩ (fun H locs hP hD hS => ?_)
  have hP := hP.sub (ws' := [oPC po vs ho so, oSt vs vol val (bI via) (nI cq), oLi vol voxo voyo volt, oFL voxo voxc voxs voxg voch vosz vorm, aI T voxc 26 vofc, aI T voxs 26 vofs, aI T voxg 26 vofg, oSL voyo voyc vowo vowz vowr, aI T voyc 26 vowf, aI T volt 26 votf]) [1, 2, 3, 4, 0, 5, 6, 7, 8, 9] rfl
  have hD := hD.sub (ws' := [oPC po vs ho so, oSt vs vol val (bI via) (nI cq), oLi vol voxo voyo volt, oFL voxo voxc voxs voxg voch vosz vorm, aI T voxc 26 vofc, aI T voxs 26 vofs, aI T voxg 26 vofg, oSL voyo voyc vowo vowz vowr, aI T voyc 26 vowf, aI T volt 26 votf]) [1, 2, 3, 4, 0, 5, 6, 7, 8, 9] (by decide) rfl
  refine W.eq (g2 := F0 m 28 ls [.int (pAtN vofc 0 26 0)]) rfl ?_
  refine lv_istore_n (lv' := [(2, .int (pAtN vofc 0 26 0)), (1, .int (smN votf 26)), (0, .ref po)]) hx hb dX8_loudestShare_28 rfl hl (by decide) rfl (fun ls hl => ?_)
  refine lv_iload_n hx hb dX8_loudestShare_29 rfl (lv_at hl 1 rfl) ?_
  refine lv_if_eq (tgt := 38) hx hb dX8_loudestShare_30 (by decide) (fun c_x => absurd c_x h0) (fun _ => ?_)
  refine lv_iload_n hx hb dX8_loudestShare_33 rfl (lv_at hl 0 rfl) ?_
  refine W.eq (g2 := F0 m 34 ls (.int (nI lq) :: [])) (congrArg (fun z => F0 m 34 ls (.int z :: [])) (hlq : (pAtN vofc 0 26 0 : Int32) = nI lq)) ?_
  refine lv_iconst (v := (-1)) hx hb dX8_loudestShare_34 (by decide) ?_
  refine lv_icmp_ne (tgt := 40) hx hb dX8_loudestShare_35 (by decide) (fun _ => ?_) (fun c_x => absurd c_x (nI_ne1 (by omega)))
  refine lv_aload_n hx hb dX8_loudestShare_40 rfl (lv_at hl 2 rfl) ?_
  refine va_get (D := D) (ci := 7) (v := .ref vs) (C := RX8) (T := TX8) (N := 3) hx hb hts iX8 hown hC.1 hP 0 rfl rfl 0 (by decide) (hts (.fieldLink RX8 10 "ParrotCounts" "state" "LParrotCounts$State;") (List.mem_of_getElem? (i := 1) rfl)) (fun _ h => h) rfl dX8_loudestShare_41 ?_
  refine va_get (D := D) (ci := 6) (v := .ref vol) (C := RX7) (T := TX7) (N := 4) hx hb hts iX7 hown hC.1 hP 1 rfl rfl 0 (by decide) (hts (.fieldLink RX8 37 "ParrotCounts$State" "own" "LParrotCounts$Listener;") (List.mem_of_getElem? (i := 2) rfl)) (fun _ h => h) rfl dX8_loudestShare_44 ?_
  refine va_get (D := D) (ci := 2) (v := .ref voxo) (C := RX2) (T := TX2) (N := 3) hx hb hts iX2 hown hC.1 hP 2 rfl rfl 0 (by decide) (hts (.fieldLink RX8 57 "ParrotCounts$Listener" "first" "LParrotCounts$FirstList;") (List.mem_of_getElem? (i := 3) rfl)) (fun _ h => h) rfl dX8_loudestShare_47 ?_
  refine va_get (D := D) (ci := 0) (v := .ref voxc) (C := RX0) (T := TX0) (N := 6) hx hb hts iX0 hown hC.1 hP 3 rfl rfl 0 (by decide) (hts (.fieldLink RX8 141 "ParrotCounts$FirstList" "counts" "[I") (List.mem_of_getElem? (i := 4) rfl)) (fun _ h => h) rfl dX8_loudestShare_50 ?_
  refine lv_iload_n hx hb dX8_loudestShare_53 rfl (lv_at hl 0 rfl) ?_
  refine W.eq (g2 := F0 m 54 ls (.int (nI lq) :: [.ref voxc])) (congrArg (fun z => F0 m 54 ls (.int z :: [.ref voxc])) (hlq : (pAtN vofc 0 26 0 : Int32) = nI lq)) ?_
  refine k_iald hx hb hC.1 hP 4 0 rfl rfl ⟨by omega, by decide⟩ dX8_loudestShare_54 ?_
  refine lv_i2d hx hb dX8_loudestShare_55 ?_
  refine lv_iload_n hx hb dX8_loudestShare_56 rfl (lv_at hl 1 rfl) ?_
  refine lv_i2d hx hb dX8_loudestShare_57 ?_
  refine lv_ddiv hx hb dX8_loudestShare_58 (k_ddiv h0) ?_
  exact hret _ _ _ _ _ (fun Qc free hq hf => W.dret hx hb hr hq hf dX8_loudestShare_59 hlk) hP hD hS
