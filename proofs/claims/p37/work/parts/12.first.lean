abbrev rX0_isFull : Room := { frames := 0, cells := 0, slots := 0, locals := 0 }
set_option maxHeartbeats 4000000 in
set_option maxRecDepth 100000 in
theorem c_X0_isFull (l : Launch) (D : va_G) (T : Nat → ClassId) (xo xc xs xg : Nat) (fc fs fg : Nat → Int32) (ch sz rm : Int32) : kM l D T yX0_isFull wsX0_isFull rX0_isFull [.ref xo] [oFL xo xc xs xg ch sz rm, aI T xc 26 fc, aI T xs 26 fs, aI T xg 26 fg] (some (.int (bI (flFull sz rm)))) [oFL xo xc xs xg ch sz rm, aI T xc 26 fc, aI T xs 26 fs, aI T xg 26 fg] := by
  refine kM.of (cc := cX0_isFull) (maxL := 1) (ret := some .boolean) (by decide) rfl (Nat.le_of_ble_eq_true rfl) ?_
  intro p e s m below meth c A Q ls hx hb hml hown hr hlk hts hC hP hD hS hA hl hret
  have iX0 : ∀ w ∈ wsX00, w ∈ wsX0_isFull := (fun _ h => List.mem_cons_of_mem _ (List.mem_append_right _ h))
  have hl : lv_has ls 1 [(0, .ref xo)] := hl
  have hP : va_P D vwCl [oFL xo xc xs xg ch sz rm, aI T xc 26 fc, aI T xs 26 fs, aI T xg 26 fg] s.heap := hP
  have hD : va_D A [oFL xo xc xs xg ch sz rm, aI T xc 26 fc, aI T xs 26 fs, aI T xg 26 fg] := hD
  refine lv_aload_n hx hb dX0_isFull_0 rfl (lv_at hl 0 rfl) ?_
  refine va_get (D := D) (ci := 0) (v := .int sz) (C := RX0) (T := TX0) (N := 6) hx hb hts iX0 hown hC.1 hP 0 rfl rfl 4 (by decide) (hts (.fieldLink RX0 31 "ParrotCounts$FirstList" "size" "I") (List.mem_of_getElem? (i := 1) rfl)) (fun _ h => h) rfl dX0_isFull_1 ?_
  refine lv_aload_n hx hb dX0_isFull_4 rfl (lv_at hl 0 rfl) ?_
  refine va_get (D := D) (ci := 0) (v := .int rm) (C := RX0) (T := TX0) (N := 6) hx hb hts iX0 hown hC.1 hP 0 rfl rfl 5 (by decide) (hts (.fieldLink RX0 34 "ParrotCounts$FirstList" "room" "I") (List.mem_of_getElem? (i := 2) rfl)) (fun _ h => h) rfl dX0_isFull_5 ?_
  refine lv_icmp_lt (tgt := 15) hx hb dX0_isFull_8 (by decide) (fun c8 => ?_) (fun c8 => ?_)
  · have c8 := Int32.not_le.mpr c8
    refine lv_iconst (v := 0) hx hb dX0_isFull_15 (by decide) ?_
    have e_1 : 0 = bI (flFull sz rm) := by first | with_reducible rfl | (simp [flFull, bI, c8]; done)
    refine W.eq (g2 := F0 m 16 ls [.int (bI (flFull sz rm))]) (congrArg (fun z => F0 m 16 ls [.int z]) e_1) ?_
    exact hret _ _ _ _ _ (fun Qc free hq hf => W.zret hx hb hr (bI_nar _) hq hf dX0_isFull_16 hlk) hP hD hS
  · have c8 := Int32.not_lt.mp c8
    refine lv_iconst (v := 1) hx hb dX0_isFull_11 (by decide) ?_
    refine lv_goto (tgt := 16) hx hb dX0_isFull_12 (by decide) ?_
    have e_2 : 1 = bI (flFull sz rm) := by first | with_reducible rfl | (simp [flFull, bI, c8]; done)
    refine W.eq (g2 := F0 m 16 ls [.int (bI (flFull sz rm))]) (congrArg (fun z => F0 m 16 ls [.int z]) e_2) ?_
    exact hret _ _ _ _ _ (fun Qc free hq hf => W.zret hx hb hr (bI_nar _) hq hf dX0_isFull_16 hlk) hP hD hS
abbrev rX0_isWeaker : Room := { frames := 0, cells := 0, slots := 0, locals := 0 }
set_option maxHeartbeats 4000000 in
set_option maxRecDepth 100000 in
theorem c_X0_isWeaker (l : Launch) (D : va_G) (T : Nat → ClassId) (xo xc xs xg : Nat) (fc fs fg : Nat → Int32) (ch sz rm : Int32) (pa : Nat) (qx : Int32) (hp : pa < 26) (hq : vp_in qx 26) : kM l D T yX0_isWeaker wsX0_isWeaker rX0_isWeaker [.ref xo, .int (nI pa), .int qx] [oFL xo xc xs xg ch sz rm, aI T xc 26 fc, aI T xs 26 fs, aI T xg 26 fg] (some (.int (bI (flWeaker fc fg pa qx.toNatClampNeg)))) [oFL xo xc xs xg ch sz rm, aI T xc 26 fc, aI T xs 26 fs, aI T xg 26 fg] := by
  refine kM.of (cc := cX0_isWeaker) (maxL := 3) (ret := some .boolean) (by decide) rfl (Nat.le_of_ble_eq_true rfl) ?_
  intro p e s m below meth c A Q ls hx hb hml hown hr hlk hts hC hP hD hS hA hl hret
  have iX0 : ∀ w ∈ wsX00, w ∈ wsX0_isWeaker := (fun _ h => List.mem_cons_of_mem _ (List.mem_append_right _ h))
  have hl : lv_has ls 3 [(0, .ref xo), (1, .int (nI pa)), (2, .int qx)] := hl
  have hP : va_P D vwCl [oFL xo xc xs xg ch sz rm, aI T xc 26 fc, aI T xs 26 fs, aI T xg 26 fg] s.heap := hP
  have hD : va_D A [oFL xo xc xs xg ch sz rm, aI T xc 26 fc, aI T xs 26 fs, aI T xg 26 fg] := hD
  refine lv_aload_n hx hb dX0_isWeaker_0 rfl (lv_at hl 0 rfl) ?_
  refine va_get (D := D) (ci := 0) (v := .ref xc) (C := RX0) (T := TX0) (N := 6) hx hb hts iX0 hown hC.1 hP 0 rfl rfl 0 (by decide) (hts (.fieldLink RX0 9 "ParrotCounts$FirstList" "counts" "[I") (List.mem_of_getElem? (i := 1) rfl)) (fun _ h => h) rfl dX0_isWeaker_1 ?_
  refine lv_iload_n hx hb dX0_isWeaker_4 rfl (lv_at hl 1 rfl) ?_
  refine k_iald hx hb hC.1 hP 1 0 rfl rfl (by omega) dX0_isWeaker_5 ?_
  refine lv_aload_n hx hb dX0_isWeaker_6 rfl (lv_at hl 0 rfl) ?_
  refine va_get (D := D) (ci := 0) (v := .ref xc) (C := RX0) (T := TX0) (N := 6) hx hb hts iX0 hown hC.1 hP 0 rfl rfl 0 (by decide) (hts (.fieldLink RX0 9 "ParrotCounts$FirstList" "counts" "[I") (List.mem_of_getElem? (i := 1) rfl)) (fun _ h => h) rfl dX0_isWeaker_7 ?_
  refine lv_iload_n hx hb dX0_isWeaker_10 rfl (lv_at hl 2 rfl) ?_
  refine va_iald hx hb hC.1 hP 1 0 rfl rfl (by assumption) dX0_isWeaker_11 ?_
  refine lv_icmp_eq (tgt := 36) hx hb dX0_isWeaker_12 (by decide) (fun c12 => ?_) (fun c12 => ?_)
  · refine lv_aload_n hx hb dX0_isWeaker_36 rfl (lv_at hl 0 rfl) ?_
    refine va_get (D := D) (ci := 0) (v := .ref xg) (C := RX0) (T := TX0) (N := 6) hx hb hts iX0 hown hC.1 hP 0 rfl rfl 2 (by decide) (hts (.fieldLink RX0 18 "ParrotCounts$FirstList" "changedAt" "[I") (List.mem_of_getElem? (i := 2) rfl)) (fun _ h => h) rfl dX0_isWeaker_37 ?_
    refine lv_iload_n hx hb dX0_isWeaker_40 rfl (lv_at hl 1 rfl) ?_
    refine k_iald hx hb hC.1 hP 3 0 rfl rfl (by omega) dX0_isWeaker_41 ?_
    refine lv_aload_n hx hb dX0_isWeaker_42 rfl (lv_at hl 0 rfl) ?_
    refine va_get (D := D) (ci := 0) (v := .ref xg) (C := RX0) (T := TX0) (N := 6) hx hb hts iX0 hown hC.1 hP 0 rfl rfl 2 (by decide) (hts (.fieldLink RX0 18 "ParrotCounts$FirstList" "changedAt" "[I") (List.mem_of_getElem? (i := 2) rfl)) (fun _ h => h) rfl dX0_isWeaker_43 ?_
    refine lv_iload_n hx hb dX0_isWeaker_46 rfl (lv_at hl 2 rfl) ?_
    refine va_iald hx hb hC.1 hP 3 0 rfl rfl (by assumption) dX0_isWeaker_47 ?_
    refine lv_icmp_ge (tgt := 55) hx hb dX0_isWeaker_48 (by decide) (fun c48 => ?_) (fun c48 => ?_)
    · refine lv_iconst (v := 0) hx hb dX0_isWeaker_55 (by decide) ?_
      have e_1 : 0 = bI (flWeaker fc fg pa qx.toNatClampNeg) := by first | with_reducible rfl | (simp [flWeaker, bI, eq_true c12, c48]; done)
      refine W.eq (g2 := F0 m 56 ls [.int (bI (flWeaker fc fg pa qx.toNatClampNeg))]) (congrArg (fun z => F0 m 56 ls [.int z]) e_1) ?_
      exact hret _ _ _ _ _ (fun Qc free hq hf => W.zret hx hb hr (bI_nar _) hq hf dX0_isWeaker_56 hlk) hP hD hS
    · refine lv_iconst (v := 1) hx hb dX0_isWeaker_51 (by decide) ?_
      refine lv_goto (tgt := 56) hx hb dX0_isWeaker_52 (by decide) ?_
      have e_2 : 1 = bI (flWeaker fc fg pa qx.toNatClampNeg) := by first | with_reducible rfl | (simp [flWeaker, bI, eq_true c12, c48]; done)
      refine W.eq (g2 := F0 m 56 ls [.int (bI (flWeaker fc fg pa qx.toNatClampNeg))]) (congrArg (fun z => F0 m 56 ls [.int z]) e_2) ?_
      exact hret _ _ _ _ _ (fun Qc free hq hf => W.zret hx hb hr (bI_nar _) hq hf dX0_isWeaker_56 hlk) hP hD hS
  · refine lv_aload_n hx hb dX0_isWeaker_15 rfl (lv_at hl 0 rfl) ?_
    refine va_get (D := D) (ci := 0) (v := .ref xc) (C := RX0) (T := TX0) (N := 6) hx hb hts iX0 hown hC.1 hP 0 rfl rfl 0 (by decide) (hts (.fieldLink RX0 9 "ParrotCounts$FirstList" "counts" "[I") (List.mem_of_getElem? (i := 1) rfl)) (fun _ h => h) rfl dX0_isWeaker_16 ?_
    refine lv_iload_n hx hb dX0_isWeaker_19 rfl (lv_at hl 1 rfl) ?_
    refine k_iald hx hb hC.1 hP 1 0 rfl rfl (by omega) dX0_isWeaker_20 ?_
    refine lv_aload_n hx hb dX0_isWeaker_21 rfl (lv_at hl 0 rfl) ?_
    refine va_get (D := D) (ci := 0) (v := .ref xc) (C := RX0) (T := TX0) (N := 6) hx hb hts iX0 hown hC.1 hP 0 rfl rfl 0 (by decide) (hts (.fieldLink RX0 9 "ParrotCounts$FirstList" "counts" "[I") (List.mem_of_getElem? (i := 1) rfl)) (fun _ h => h) rfl dX0_isWeaker_22 ?_
    refine lv_iload_n hx hb dX0_isWeaker_25 rfl (lv_at hl 2 rfl) ?_
    refine va_iald hx hb hC.1 hP 1 0 rfl rfl (by assumption) dX0_isWeaker_26 ?_
    refine lv_icmp_ge (tgt := 34) hx hb dX0_isWeaker_27 (by decide) (fun c27 => ?_) (fun c27 => ?_)
    · refine lv_iconst (v := 0) hx hb dX0_isWeaker_34 (by decide) ?_
      have e_3 : 0 = bI (flWeaker fc fg pa qx.toNatClampNeg) := by first | with_reducible rfl | (simp [flWeaker, bI, c12, c27]; done)
      refine W.eq (g2 := F0 m 35 ls [.int (bI (flWeaker fc fg pa qx.toNatClampNeg))]) (congrArg (fun z => F0 m 35 ls [.int z]) e_3) ?_
      exact hret _ _ _ _ _ (fun Qc free hq hf => W.zret hx hb hr (bI_nar _) hq hf dX0_isWeaker_35 hlk) hP hD hS
    · refine lv_iconst (v := 1) hx hb dX0_isWeaker_30 (by decide) ?_
      refine lv_goto (tgt := 35) hx hb dX0_isWeaker_31 (by decide) ?_
      have e_4 : 1 = bI (flWeaker fc fg pa qx.toNatClampNeg) := by first | with_reducible rfl | (simp [flWeaker, bI, c12, c27]; done)
      refine W.eq (g2 := F0 m 35 ls [.int (bI (flWeaker fc fg pa qx.toNatClampNeg))]) (congrArg (fun z => F0 m 35 ls [.int z]) e_4) ?_
      exact hret _ _ _ _ _ (fun Qc free hq hf => W.zret hx hb hr (bI_nar _) hq hf dX0_isWeaker_35 hlk) hP hD hS
abbrev rX0_weakest : Room := { frames := 1, cells := 0, slots := 0, locals := 22 }
set_option maxHeartbeats 4000000 in
set_option maxRecDepth 100000 in
theorem c_X0_weakest (l : Launch) (D : va_G) (T : Nat → ClassId) (xo xc xs xg : Nat) (fc fs fg : Nat → Int32) (ch sz rm : Int32) : kM l D T yX0_weakest wsX0_weakest rX0_weakest [.ref xo] [oFL xo xc xs xg ch sz rm, aI T xc 26 fc, aI T xs 26 fs, aI T xg 26 fg] (some (.int (flWeak fc fg 26))) [oFL xo xc xs xg ch sz rm, aI T xc 26 fc, aI T xs 26 fs, aI T xg 26 fg] := by
  refine kM.of (cc := cX0_weakest) (maxL := 3) (ret := some .int) (by decide) rfl (Nat.le_of_ble_eq_true rfl) ?_
  intro p e s m below meth c A Q ls hx hb hml hown hr hlk hts hC hP hD hS hA hl hret
  have iX0 : ∀ w ∈ wsX00, w ∈ wsX0_weakest := (fun _ h => List.mem_cons_of_mem _ (List.mem_append_right _ h))
  have loop_4 : ∀ (n i : Nat), i + n = 26 → ∀ (H : Heap) (locs : List Loc) (ls : Array Slot), va_P D vwCl [oFL xo xc xs xg ch sz rm, aI T xc 26 fc, aI T xs 26 fs, aI T xg 26 fg] H → va_D A [oFL xo xc xs xg ch sz rm, aI T xc 26 fc, aI T xs 26 fs, aI T xg 26 fg] → va_S A s.heap H locs → lv_has ls 3 [(2, .int (nI i)), (1, .int (flWeak fc fg i)), (0, .ref xo)] → W p l e rX0_weakest s m [.ref xo].toArray below meth c H locs 0 0 Q (F0 m 4 ls []) := by
    intro n
    induction n with
    | zero =>
      intro i hi  H locs ls hP hD hS hl
      have hi9 : 26 = i := by omega
      subst hi9
      refine lv_iload_n hx hb dX0_weakest_4 rfl (lv_at hl 0 rfl) ?_
      refine lv_bipush (v := 26) hx hb dX0_weakest_5 (by decide) ?_
      refine lv_icmp_ge (tgt := 41) hx hb dX0_weakest_7 (by decide) (fun _ => ?_) (fun c_x => absurd (by decide : (26 : Int32) ≤ nI 26) c_x)
      refine lv_iload_n hx hb dX0_weakest_41 rfl (lv_at hl 1 rfl) ?_
      exact hret _ _ _ _ _ (fun Qc free hq hf => W.iret hx hb hr hq hf dX0_weakest_42 hlk) hP hD hS
    | succ n ih =>
      intro i hi  H locs ls hP hD hS hl
      have hlt : i < 26 := by omega
      refine lv_iload_n hx hb dX0_weakest_4 rfl (lv_at hl 0 rfl) ?_
      refine lv_bipush (v := 26) hx hb dX0_weakest_5 (by decide) ?_
      refine lv_icmp_ge (tgt := 41) hx hb dX0_weakest_7 (by decide) (fun c_x => absurd c_x (nI_ge (b := 26) hlt (by decide))) (fun _ => ?_)
      refine lv_aload_n hx hb dX0_weakest_10 rfl (lv_at hl 2 rfl) ?_
      refine va_get (D := D) (ci := 0) (v := .ref xc) (C := RX0) (T := TX0) (N := 6) hx hb hts iX0 hown hC.1 hP 0 rfl rfl 0 (by decide) (hts (.fieldLink RX0 9 "ParrotCounts$FirstList" "counts" "[I") (List.mem_of_getElem? (i := 1) rfl)) (fun _ h => h) rfl dX0_weakest_11 ?_
      refine lv_iload_n hx hb dX0_weakest_14 rfl (lv_at hl 0 rfl) ?_
      refine k_iald hx hb hC.1 hP 1 0 rfl rfl (by omega) dX0_weakest_15 ?_
      refine lv_if_le (tgt := 35) hx hb dX0_weakest_16 (by decide) (fun c16 => ?_) (fun c16 => ?_)
      · refine lv_iinc (v := nI (i + 1)) (lv' := [(2, .int (nI (i + 1))), (1, .int (flWeak fc fg i)), (0, .ref xo)]) hx hb dX0_weakest_35 hl (k := 0) rfl (nI_1 i) (by decide) rfl (fun ls hl => ?_)
        refine lv_goto (tgt := 4) hx hb dX0_weakest_38 (by decide) ?_
        have e_1 : (flWeak fc fg i : Int32) = flWeak fc fg (i + 1) := by first | with_reducible rfl | (simp [flWeak, flWeakS, bI0, c16]; done)
        have hl : lv_has ls 3 [(2, .int (nI (i + 1))), (1, .int (flWeak fc fg (i + 1))), (0, .ref xo)] := lv_sub hl [0, 1, 2] (by show (_ : List (Nat × Value)) = [(2, .int (nI (i + 1))), (1, .int (flWeak fc fg (i + 1))), (0, .ref xo)]; rw [← e_1]; rfl)
        exact ih (i + 1) (by omega)  _ _ _ hP hD hS hl
      · refine lv_iload_n hx hb dX0_weakest_19 rfl (lv_at hl 1 rfl) ?_
        refine lv_iconst (v := (-1)) hx hb dX0_weakest_20 (by decide) ?_
        refine lv_icmp_eq (tgt := 33) hx hb dX0_weakest_21 (by decide) (fun c21 => ?_) (fun c21 => ?_)
        · refine lv_iload_n hx hb dX0_weakest_33 rfl (lv_at hl 0 rfl) ?_
          refine lv_istore_n (lv' := [(1, .int (nI i)), (2, .int (nI i)), (0, .ref xo)]) hx hb dX0_weakest_34 rfl hl (by decide) rfl (fun ls hl => ?_)
          refine lv_iinc (v := nI (i + 1)) (lv' := [(2, .int (nI (i + 1))), (1, .int (nI i)), (0, .ref xo)]) hx hb dX0_weakest_35 hl (k := 1) rfl (nI_1 i) (by decide) rfl (fun ls hl => ?_)
          refine lv_goto (tgt := 4) hx hb dX0_weakest_38 (by decide) ?_
          have e_2 : (nI i : Int32) = flWeak fc fg (i + 1) := by first | with_reducible rfl | (simp [flWeak, flWeakS, bI0, c16, eq_true c21]; done)
          have hl : lv_has ls 3 [(2, .int (nI (i + 1))), (1, .int (flWeak fc fg (i + 1))), (0, .ref xo)] := lv_sub hl [0, 1, 2] (by show (_ : List (Nat × Value)) = [(2, .int (nI (i + 1))), (1, .int (flWeak fc fg (i + 1))), (0, .ref xo)]; rw [← e_2]; rfl)
          exact ih (i + 1) (by omega)  _ _ _ hP hD hS hl
        · refine lv_aload_n hx hb dX0_weakest_24 rfl (lv_at hl 2 rfl) ?_
          refine lv_iload_n hx hb dX0_weakest_25 rfl (lv_at hl 0 rfl) ?_
          refine lv_iload_n hx hb dX0_weakest_26 rfl (lv_at hl 1 rfl) ?_
          have hP := hP.sub (ws' := [oFL xo xc xs xg ch sz rm, aI T xc 26 fc, aI T xs 26 fs, aI T xg 26 fg] ++ []) [0, 1, 2, 3] rfl
          have hD := hD.sub (ws' := [oFL xo xc xs xg ch sz rm, aI T xc 26 fc, aI T xs 26 fs, aI T xg 26 fg] ++ []) [0, 1, 2, 3] (by decide) rfl
          refine kV (ci := 0) (As := [.int (nI i), .int (flWeak fc fg i)]) (rest := []) ⟨hx, hb, hml, hown, hts⟩ (c_X0_isWeaker l D T xo xc xs xg fc fs fg ch sz rm i (flWeak fc fg i) (by first | omega | assumption) (flWeak_vp (by omega) c21)) (cwV 2 hts gX0_weakest_X0_isWeaker rfl rfl rfl (by decide +kernel) ⟨Nat.le_of_ble_eq_true rfl, Nat.le_of_ble_eq_true rfl⟩) hC hP hD hS hA rfl rfl rfl hl.1 rfl (Nat.le_of_ble_eq_true rfl) dX0_weakest_27 ⟨Nat.zero_le _, Nat.zero_le _⟩ (fun H locs hP hD hS => ?_)
          have hP : va_P D vwCl [oFL xo xc xs xg ch sz rm, aI T xc 26 fc, aI T xs 26 fs, aI T xg 26 fg] H := hP
          have hD : va_D A [oFL xo xc xs xg ch sz rm, aI T xc 26 fc, aI T xs 26 fs, aI T xg 26 fg] := hD
          refine W.eq (g2 := F0 m 30 ls [.int (bI (flWeaker fc fg i (flWeak fc fg i).toNatClampNeg))]) rfl ?_
          refine lv_if_eq (tgt := 35) hx hb dX0_weakest_30 (by decide) (fun c30 => ?_) (fun c30 => ?_)
          · have c30 := (bI0 _).mp c30
            refine lv_iinc (v := nI (i + 1)) (lv' := [(2, .int (nI (i + 1))), (1, .int (flWeak fc fg i)), (0, .ref xo)]) hx hb dX0_weakest_35 hl (k := 0) rfl (nI_1 i) (by decide) rfl (fun ls hl => ?_)
            refine lv_goto (tgt := 4) hx hb dX0_weakest_38 (by decide) ?_
            have e_3 : (flWeak fc fg i : Int32) = flWeak fc fg (i + 1) := by first | with_reducible rfl | (simp [flWeak, flWeakS, bI0, c16, c21, c30]; done)
            have hl : lv_has ls 3 [(2, .int (nI (i + 1))), (1, .int (flWeak fc fg (i + 1))), (0, .ref xo)] := lv_sub hl [0, 1, 2] (by show (_ : List (Nat × Value)) = [(2, .int (nI (i + 1))), (1, .int (flWeak fc fg (i + 1))), (0, .ref xo)]; rw [← e_3]; rfl)
            exact ih (i + 1) (by omega)  _ _ _ hP hD hS hl
          · have c30 := (bI0n _).mp c30
            refine lv_iload_n hx hb dX0_weakest_33 rfl (lv_at hl 0 rfl) ?_
            refine lv_istore_n (lv' := [(1, .int (nI i)), (2, .int (nI i)), (0, .ref xo)]) hx hb dX0_weakest_34 rfl hl (by decide) rfl (fun ls hl => ?_)
            refine lv_iinc (v := nI (i + 1)) (lv' := [(2, .int (nI (i + 1))), (1, .int (nI i)), (0, .ref xo)]) hx hb dX0_weakest_35 hl (k := 1) rfl (nI_1 i) (by decide) rfl (fun ls hl => ?_)
            refine lv_goto (tgt := 4) hx hb dX0_weakest_38 (by decide) ?_
            have e_4 : (nI i : Int32) = flWeak fc fg (i + 1) := by first | with_reducible rfl | (simp [flWeak, flWeakS, bI0, c16, c21, c30]; done)
            have hl : lv_has ls 3 [(2, .int (nI (i + 1))), (1, .int (flWeak fc fg (i + 1))), (0, .ref xo)] := lv_sub hl [0, 1, 2] (by show (_ : List (Nat × Value)) = [(2, .int (nI (i + 1))), (1, .int (flWeak fc fg (i + 1))), (0, .ref xo)]; rw [← e_4]; rfl)
            exact ih (i + 1) (by omega)  _ _ _ hP hD hS hl
  have hl : lv_has ls 3 [(0, .ref xo)] := hl
  have hP : va_P D vwCl [oFL xo xc xs xg ch sz rm, aI T xc 26 fc, aI T xs 26 fs, aI T xg 26 fg] s.heap := hP
  have hD : va_D A [oFL xo xc xs xg ch sz rm, aI T xc 26 fc, aI T xs 26 fs, aI T xg 26 fg] := hD
  refine lv_iconst (v := (-1)) hx hb dX0_weakest_0 (by decide) ?_
  refine lv_istore_n (lv' := [(1, .int (-1)), (0, .ref xo)]) hx hb dX0_weakest_1 rfl hl (by decide) rfl (fun ls hl => ?_)
  refine lv_iconst (v := 0) hx hb dX0_weakest_2 (by decide) ?_
  refine lv_istore_n (lv' := [(2, .int 0), (1, .int (-1)), (0, .ref xo)]) hx hb dX0_weakest_3 rfl hl (by decide) rfl (fun ls hl => ?_)
  have e_5 : (0 : Int32) = nI 0 := rfl
  have e_6 : ((-1) : Int32) = flWeak fc fg 0 := rfl
  have hl : lv_has ls 3 [(2, .int (nI 0)), (1, .int (flWeak fc fg 0)), (0, .ref xo)] := lv_sub hl [0, 1, 2] (by show (_ : List (Nat × Value)) = [(2, .int (nI 0)), (1, .int (flWeak fc fg 0)), (0, .ref xo)]; rw [← e_5, ← e_6]; rfl)
  exact loop_4 26 0 (by omega)  _ _ _ hP hD hS hl
abbrev rX0_leastCount : Room := { frames := 2, cells := 0, slots := 0, locals := 44 }
set_option maxHeartbeats 4000000 in
set_option maxRecDepth 100000 in
theorem c_X0_leastCount (l : Launch) (D : va_G) (T : Nat → ClassId) (xo xc xs xg : Nat) (fc fs fg : Nat → Int32) (ch sz rm : Int32) : kM l D T yX0_leastCount wsX0_leastCount rX0_leastCount [.ref xo] [oFL xo xc xs xg ch sz rm, aI T xc 26 fc, aI T xs 26 fs, aI T xg 26 fg] (some (.int (flLeast fc fg sz rm))) [oFL xo xc xs xg ch sz rm, aI T xc 26 fc, aI T xs 26 fs, aI T xg 26 fg] := by
  refine kM.of (cc := cX0_leastCount) (maxL := 2) (ret := some .int) (by decide) rfl (Nat.le_of_ble_eq_true rfl) ?_
  intro p e s m below meth c A Q ls hx hb hml hown hr hlk hts hC hP hD hS hA hl hret
  have iX0 : ∀ w ∈ wsX00, w ∈ wsX0_leastCount := (fun _ h => List.mem_cons_of_mem _ (List.mem_append_right _ h))
  have hl : lv_has ls 2 [(0, .ref xo)] := hl
  have hP : va_P D vwCl [oFL xo xc xs xg ch sz rm, aI T xc 26 fc, aI T xs 26 fs, aI T xg 26 fg] s.heap := hP
  have hD : va_D A [oFL xo xc xs xg ch sz rm, aI T xc 26 fc, aI T xs 26 fs, aI T xg 26 fg] := hD
  refine lv_aload_n hx hb dX0_leastCount_0 rfl (lv_at hl 0 rfl) ?_
  have hP := hP.sub (ws' := [oFL xo xc xs xg ch sz rm, aI T xc 26 fc, aI T xs 26 fs, aI T xg 26 fg] ++ []) [0, 1, 2, 3] rfl
  have hD := hD.sub (ws' := [oFL xo xc xs xg ch sz rm, aI T xc 26 fc, aI T xs 26 fs, aI T xg 26 fg] ++ []) [0, 1, 2, 3] (by decide) rfl
  refine kV (ci := 0) (As := []) (rest := []) ⟨hx, hb, hml, hown, hts⟩ (c_X0_weakest l D T xo xc xs xg fc fs fg ch sz rm ) (cwV 0 hts gX0_leastCount_X0_weakest rfl rfl rfl (by decide +kernel) ⟨Nat.le_of_ble_eq_true rfl, Nat.le_of_ble_eq_true rfl⟩) hC hP hD hS hA rfl rfl rfl hl.1 rfl (Nat.le_of_ble_eq_true rfl) dX0_leastCount_1 ⟨Nat.zero_le _, Nat.zero_le _⟩ (fun H locs hP hD hS => ?_)
  have hP : va_P D vwCl [oFL xo xc xs xg ch sz rm, aI T xc 26 fc, aI T xs 26 fs, aI T xg 26 fg] H := hP
  have hD : va_D A [oFL xo xc xs xg ch sz rm, aI T xc 26 fc, aI T xs 26 fs, aI T xg 26 fg] := hD
  refine W.eq (g2 := F0 m 4 ls [.int (flWeak fc fg 26)]) rfl ?_
  refine lv_istore_n (lv' := [(1, .int (flWeak fc fg 26)), (0, .ref xo)]) hx hb dX0_leastCount_4 rfl hl (by decide) rfl (fun ls hl => ?_)
  refine lv_aload_n hx hb dX0_leastCount_5 rfl (lv_at hl 1 rfl) ?_
  have hP := hP.sub (ws' := [oFL xo xc xs xg ch sz rm, aI T xc 26 fc, aI T xs 26 fs, aI T xg 26 fg] ++ []) [0, 1, 2, 3] rfl
  have hD := hD.sub (ws' := [oFL xo xc xs xg ch sz rm, aI T xc 26 fc, aI T xs 26 fs, aI T xg 26 fg] ++ []) [0, 1, 2, 3] (by decide) rfl
  refine kV (ci := 0) (As := []) (rest := []) ⟨hx, hb, hml, hown, hts⟩ (c_X0_isFull l D T xo xc xs xg fc fs fg ch sz rm ) (cwV 0 hts gX0_leastCount_X0_isFull rfl rfl rfl (by decide +kernel) ⟨Nat.le_of_ble_eq_true rfl, Nat.le_of_ble_eq_true rfl⟩) hC hP hD hS hA rfl rfl rfl hl.1 rfl (Nat.le_of_ble_eq_true rfl) dX0_leastCount_6 ⟨Nat.zero_le _, Nat.zero_le _⟩ (fun H locs hP hD hS => ?_)
  have hP : va_P D vwCl [oFL xo xc xs xg ch sz rm, aI T xc 26 fc, aI T xs 26 fs, aI T xg 26 fg] H := hP
  have hD : va_D A [oFL xo xc xs xg ch sz rm, aI T xc 26 fc, aI T xs 26 fs, aI T xg 26 fg] := hD
  refine W.eq (g2 := F0 m 9 ls [.int (bI (flFull sz rm))]) rfl ?_
  refine lv_if_eq (tgt := 26) hx hb dX0_leastCount_9 (by decide) (fun c9 => ?_) (fun c9 => ?_)
  · have c9 := (bI0 _).mp c9
    refine lv_iconst (v := 0) hx hb dX0_leastCount_26 (by decide) ?_
    have e_1 : 0 = flLeast fc fg sz rm := by first | with_reducible rfl | (simp [flLeast, c9]; done)
    refine W.eq (g2 := F0 m 27 ls [.int (flLeast fc fg sz rm)]) (congrArg (fun z => F0 m 27 ls [.int z]) e_1) ?_
    exact hret _ _ _ _ _ (fun Qc free hq hf => W.iret hx hb hr hq hf dX0_leastCount_27 hlk) hP hD hS
  · have c9 := (bI0n _).mp c9
    refine lv_iload_n hx hb dX0_leastCount_12 rfl (lv_at hl 0 rfl) ?_
    refine lv_iconst (v := (-1)) hx hb dX0_leastCount_13 (by decide) ?_
    refine lv_icmp_eq (tgt := 26) hx hb dX0_leastCount_14 (by decide) (fun c14 => ?_) (fun c14 => ?_)
    · refine lv_iconst (v := 0) hx hb dX0_leastCount_26 (by decide) ?_
      have e_2 : 0 = flLeast fc fg sz rm := by first | with_reducible rfl | (simp [flLeast, c9, eq_true c14]; done)
      refine W.eq (g2 := F0 m 27 ls [.int (flLeast fc fg sz rm)]) (congrArg (fun z => F0 m 27 ls [.int z]) e_2) ?_
      exact hret _ _ _ _ _ (fun Qc free hq hf => W.iret hx hb hr hq hf dX0_leastCount_27 hlk) hP hD hS
    · refine lv_aload_n hx hb dX0_leastCount_17 rfl (lv_at hl 1 rfl) ?_
      refine va_get (D := D) (ci := 0) (v := .ref xc) (C := RX0) (T := TX0) (N := 6) hx hb hts iX0 hown hC.1 hP 0 rfl rfl 0 (by decide) (hts (.fieldLink RX0 9 "ParrotCounts$FirstList" "counts" "[I") (List.mem_of_getElem? (i := 1) rfl)) (fun _ h => h) rfl dX0_leastCount_18 ?_
      refine lv_iload_n hx hb dX0_leastCount_21 rfl (lv_at hl 0 rfl) ?_
      refine va_iald hx hb hC.1 hP 1 0 rfl rfl (flWeak_vp (by omega) c14) dX0_leastCount_22 ?_
      refine lv_goto (tgt := 27) hx hb dX0_leastCount_23 (by decide) ?_
      have e_3 : fc (flWeak fc fg 26).toNatClampNeg = flLeast fc fg sz rm := by first | with_reducible rfl | (simp [flLeast, c9, c14]; done)
      refine W.eq (g2 := F0 m 27 ls [.int (flLeast fc fg sz rm)]) (congrArg (fun z => F0 m 27 ls [.int z]) e_3) ?_
      exact hret _ _ _ _ _ (fun Qc free hq hf => W.iret hx hb hr hq hf dX0_leastCount_27 hlk) hP hD hS
abbrev rX0_estimateOf : Room := { frames := 3, cells := 0, slots := 0, locals := 65 }
set_option maxHeartbeats 4000000 in
set_option maxRecDepth 100000 in
theorem c_X0_estimateOf (l : Launch) (D : va_G) (T : Nat → ClassId) (xo xc xs xg : Nat) (fc fs fg : Nat → Int32) (ch sz rm : Int32) (pa : Nat) (hp : pa < 26) : kM l D T yX0_estimateOf wsX0_estimateOf rX0_estimateOf [.ref xo, .int (nI pa)] [oFL xo xc xs xg ch sz rm, aI T xc 26 fc, aI T xs 26 fs, aI T xg 26 fg] (some (.int (flEst fc fg sz rm pa))) [oFL xo xc xs xg ch sz rm, aI T xc 26 fc, aI T xs 26 fs, aI T xg 26 fg] := by
  refine kM.of (cc := cX0_estimateOf) (maxL := 2) (ret := some .int) (by decide) rfl (Nat.le_of_ble_eq_true rfl) ?_
  intro p e s m below meth c A Q ls hx hb hml hown hr hlk hts hC hP hD hS hA hl hret
  have iX0 : ∀ w ∈ wsX00, w ∈ wsX0_estimateOf := (fun _ h => List.mem_cons_of_mem _ (List.mem_append_right _ h))
  have hl : lv_has ls 2 [(0, .ref xo), (1, .int (nI pa))] := hl
  have hP : va_P D vwCl [oFL xo xc xs xg ch sz rm, aI T xc 26 fc, aI T xs 26 fs, aI T xg 26 fg] s.heap := hP
  have hD : va_D A [oFL xo xc xs xg ch sz rm, aI T xc 26 fc, aI T xs 26 fs, aI T xg 26 fg] := hD
  refine lv_aload_n hx hb dX0_estimateOf_0 rfl (lv_at hl 0 rfl) ?_
  refine va_get (D := D) (ci := 0) (v := .ref xc) (C := RX0) (T := TX0) (N := 6) hx hb hts iX0 hown hC.1 hP 0 rfl rfl 0 (by decide) (hts (.fieldLink RX0 9 "ParrotCounts$FirstList" "counts" "[I") (List.mem_of_getElem? (i := 1) rfl)) (fun _ h => h) rfl dX0_estimateOf_1 ?_
  refine lv_iload_n hx hb dX0_estimateOf_4 rfl (lv_at hl 1 rfl) ?_
  refine k_iald hx hb hC.1 hP 1 0 rfl rfl (by omega) dX0_estimateOf_5 ?_
  refine lv_if_le (tgt := 18) hx hb dX0_estimateOf_6 (by decide) (fun c6 => ?_) (fun c6 => ?_)
  · refine lv_aload_n hx hb dX0_estimateOf_18 rfl (lv_at hl 0 rfl) ?_
    have hP := hP.sub (ws' := [oFL xo xc xs xg ch sz rm, aI T xc 26 fc, aI T xs 26 fs, aI T xg 26 fg] ++ []) [0, 1, 2, 3] rfl
    have hD := hD.sub (ws' := [oFL xo xc xs xg ch sz rm, aI T xc 26 fc, aI T xs 26 fs, aI T xg 26 fg] ++ []) [0, 1, 2, 3] (by decide) rfl
    refine kV (ci := 0) (As := []) (rest := []) ⟨hx, hb, hml, hown, hts⟩ (c_X0_leastCount l D T xo xc xs xg fc fs fg ch sz rm ) (cwV 0 hts gX0_estimateOf_X0_leastCount rfl rfl rfl (by decide +kernel) ⟨Nat.le_of_ble_eq_true rfl, Nat.le_of_ble_eq_true rfl⟩) hC hP hD hS hA rfl rfl rfl hl.1 rfl (Nat.le_of_ble_eq_true rfl) dX0_estimateOf_19 ⟨Nat.zero_le _, Nat.zero_le _⟩ (fun H locs hP hD hS => ?_)
    have hP : va_P D vwCl [oFL xo xc xs xg ch sz rm, aI T xc 26 fc, aI T xs 26 fs, aI T xg 26 fg] H := hP
    have hD : va_D A [oFL xo xc xs xg ch sz rm, aI T xc 26 fc, aI T xs 26 fs, aI T xg 26 fg] := hD
    refine W.eq (g2 := F0 m 22 ls [.int (flLeast fc fg sz rm)]) rfl ?_
    have e_1 : flLeast fc fg sz rm = flEst fc fg sz rm pa := by first | with_reducible rfl | (simp [flEst, c6]; done)
    refine W.eq (g2 := F0 m 22 ls [.int (flEst fc fg sz rm pa)]) (congrArg (fun z => F0 m 22 ls [.int z]) e_1) ?_
    exact hret _ _ _ _ _ (fun Qc free hq hf => W.iret hx hb hr hq hf dX0_estimateOf_22 hlk) hP hD hS
  · refine lv_aload_n hx hb dX0_estimateOf_9 rfl (lv_at hl 0 rfl) ?_
    refine va_get (D := D) (ci := 0) (v := .ref xc) (C := RX0) (T := TX0) (N := 6) hx hb hts iX0 hown hC.1 hP 0 rfl rfl 0 (by decide) (hts (.fieldLink RX0 9 "ParrotCounts$FirstList" "counts" "[I") (List.mem_of_getElem? (i := 1) rfl)) (fun _ h => h) rfl dX0_estimateOf_10 ?_
    refine lv_iload_n hx hb dX0_estimateOf_13 rfl (lv_at hl 1 rfl) ?_
    refine k_iald hx hb hC.1 hP 1 0 rfl rfl (by omega) dX0_estimateOf_14 ?_
    refine lv_goto (tgt := 22) hx hb dX0_estimateOf_15 (by decide) ?_
    have e_2 : fc pa = flEst fc fg sz rm pa := by first | with_reducible rfl | (simp [flEst, c6]; done)
    refine W.eq (g2 := F0 m 22 ls [.int (flEst fc fg sz rm pa)]) (congrArg (fun z => F0 m 22 ls [.int z]) e_2) ?_
    exact hret _ _ _ _ _ (fun Qc free hq hf => W.iret hx hb hr hq hf dX0_estimateOf_22 hlk) hP hD hS
abbrev rX0_sureOf : Room := { frames := 0, cells := 0, slots := 0, locals := 0 }
set_option maxHeartbeats 4000000 in
set_option maxRecDepth 100000 in
theorem c_X0_sureOf (l : Launch) (D : va_G) (T : Nat → ClassId) (xo xc xs xg : Nat) (fc fs fg : Nat → Int32) (ch sz rm : Int32) (pa : Nat) (hp : pa < 26) : kM l D T yX0_sureOf wsX0_sureOf rX0_sureOf [.ref xo, .int (nI pa)] [oFL xo xc xs xg ch sz rm, aI T xc 26 fc, aI T xs 26 fs, aI T xg 26 fg] (some (.int (flSure fc fs pa))) [oFL xo xc xs xg ch sz rm, aI T xc 26 fc, aI T xs 26 fs, aI T xg 26 fg] := by
  refine kM.of (cc := cX0_sureOf) (maxL := 2) (ret := some .int) (by decide) rfl (Nat.le_of_ble_eq_true rfl) ?_
  intro p e s m below meth c A Q ls hx hb hml hown hr hlk hts hC hP hD hS hA hl hret
  have iX0 : ∀ w ∈ wsX00, w ∈ wsX0_sureOf := (fun _ h => List.mem_cons_of_mem _ (List.mem_append_right _ h))
  have hl : lv_has ls 2 [(0, .ref xo), (1, .int (nI pa))] := hl
  have hP : va_P D vwCl [oFL xo xc xs xg ch sz rm, aI T xc 26 fc, aI T xs 26 fs, aI T xg 26 fg] s.heap := hP
  have hD : va_D A [oFL xo xc xs xg ch sz rm, aI T xc 26 fc, aI T xs 26 fs, aI T xg 26 fg] := hD
  refine lv_aload_n hx hb dX0_sureOf_0 rfl (lv_at hl 0 rfl) ?_
  refine va_get (D := D) (ci := 0) (v := .ref xc) (C := RX0) (T := TX0) (N := 6) hx hb hts iX0 hown hC.1 hP 0 rfl rfl 0 (by decide) (hts (.fieldLink RX0 9 "ParrotCounts$FirstList" "counts" "[I") (List.mem_of_getElem? (i := 1) rfl)) (fun _ h => h) rfl dX0_sureOf_1 ?_
  refine lv_iload_n hx hb dX0_sureOf_4 rfl (lv_at hl 1 rfl) ?_
  refine k_iald hx hb hC.1 hP 1 0 rfl rfl (by omega) dX0_sureOf_5 ?_
  refine lv_if_le (tgt := 25) hx hb dX0_sureOf_6 (by decide) (fun c6 => ?_) (fun c6 => ?_)
  · refine lv_iconst (v := 0) hx hb dX0_sureOf_25 (by decide) ?_
    have e_1 : 0 = flSure fc fs pa := by first | with_reducible rfl | (simp [flSure, c6]; done)
    refine W.eq (g2 := F0 m 26 ls [.int (flSure fc fs pa)]) (congrArg (fun z => F0 m 26 ls [.int z]) e_1) ?_
    exact hret _ _ _ _ _ (fun Qc free hq hf => W.iret hx hb hr hq hf dX0_sureOf_26 hlk) hP hD hS
  · refine lv_aload_n hx hb dX0_sureOf_9 rfl (lv_at hl 0 rfl) ?_
    refine va_get (D := D) (ci := 0) (v := .ref xc) (C := RX0) (T := TX0) (N := 6) hx hb hts iX0 hown hC.1 hP 0 rfl rfl 0 (by decide) (hts (.fieldLink RX0 9 "ParrotCounts$FirstList" "counts" "[I") (List.mem_of_getElem? (i := 1) rfl)) (fun _ h => h) rfl dX0_sureOf_10 ?_
    refine lv_iload_n hx hb dX0_sureOf_13 rfl (lv_at hl 1 rfl) ?_
    refine k_iald hx hb hC.1 hP 1 0 rfl rfl (by omega) dX0_sureOf_14 ?_
    refine lv_aload_n hx hb dX0_sureOf_15 rfl (lv_at hl 0 rfl) ?_
    refine va_get (D := D) (ci := 0) (v := .ref xs) (C := RX0) (T := TX0) (N := 6) hx hb hts iX0 hown hC.1 hP 0 rfl rfl 1 (by decide) (hts (.fieldLink RX0 15 "ParrotCounts$FirstList" "surpluses" "[I") (List.mem_of_getElem? (i := 2) rfl)) (fun _ h => h) rfl dX0_sureOf_16 ?_
    refine lv_iload_n hx hb dX0_sureOf_19 rfl (lv_at hl 1 rfl) ?_
    refine k_iald hx hb hC.1 hP 2 0 rfl rfl (by omega) dX0_sureOf_20 ?_
    refine lv_isub hx hb dX0_sureOf_21 ?_
    refine lv_goto (tgt := 26) hx hb dX0_sureOf_22 (by decide) ?_
    have e_2 : (fc pa) - (fs pa) = flSure fc fs pa := by first | with_reducible rfl | (simp [flSure, c6]; done)
    refine W.eq (g2 := F0 m 26 ls [.int (flSure fc fs pa)]) (congrArg (fun z => F0 m 26 ls [.int z]) e_2) ?_
    exact hret _ _ _ _ _ (fun Qc free hq hf => W.iret hx hb hr hq hf dX0_sureOf_26 hlk) hP hD hS
abbrev rX0_remove : Room := { frames := 0, cells := 0, slots := 0, locals := 0 }
set_option maxHeartbeats 4000000 in
set_option maxRecDepth 100000 in
theorem c_X0_remove (l : Launch) (D : va_G) (T : Nat → ClassId) (xo xc xs xg : Nat) (fc fs fg : Nat → Int32) (ch sz rm : Int32) (qx : Int32) (hq : ¬ qx = -1 → vp_in qx 26) : kM l D T yX0_remove wsX0_remove rX0_remove [.ref xo, .int qx] [oFL xo xc xs xg ch sz rm, aI T xc 26 fc, aI T xs 26 fs, aI T xg 26 fg] none [oFL xo xc xs xg ch (flRemZ sz qx) rm, aI T xc 26 (flRemC fc qx), aI T xs 26 fs, aI T xg 26 fg] := by
  refine kM.of (cc := cX0_remove) (maxL := 2) (ret := none) (by decide) rfl (Nat.le_of_ble_eq_true rfl) ?_
  intro p e s m below meth c A Q ls hx hb hml hown hr hlk hts hC hP hD hS hA hl hret
  have iX0 : ∀ w ∈ wsX00, w ∈ wsX0_remove := (fun _ h => List.mem_cons_of_mem _ (List.mem_append_right _ h))
  have hl : lv_has ls 2 [(0, .ref xo), (1, .int qx)] := hl
  have hP : va_P D vwCl [oFL xo xc xs xg ch sz rm, aI T xc 26 fc, aI T xs 26 fs, aI T xg 26 fg] s.heap := hP
  have hD : va_D A [oFL xo xc xs xg ch sz rm, aI T xc 26 fc, aI T xs 26 fs, aI T xg 26 fg] := hD
  refine lv_iload_n hx hb dX0_remove_0 rfl (lv_at hl 1 rfl) ?_
  refine lv_iconst (v := (-1)) hx hb dX0_remove_1 (by decide) ?_
  refine lv_icmp_eq (tgt := 22) hx hb dX0_remove_2 (by decide) (fun c2 => ?_) (fun c2 => ?_)
  · have e_1 : sz = flRemZ sz qx := by first | with_reducible rfl | (simp [flRemC, flRemZ, eq_true c2]; done)
    have e_2 : fc = flRemC fc qx := by first | with_reducible rfl | (simp [flRemC, flRemZ, eq_true c2]; done)
    have eW := (congrArg (fun zZ => ([oFL xo xc xs xg ch zZ rm, aI T xc 26 fc, aI T xs 26 fs, aI T xg 26 fg] : va_W)) e_1).trans (congrArg (fun zZ => ([oFL xo xc xs xg ch (flRemZ sz qx) rm, aI T xc 26 zZ, aI T xs 26 fs, aI T xg 26 fg] : va_W)) e_2)
    have hP : va_P D vwCl [oFL xo xc xs xg ch (flRemZ sz qx) rm, aI T xc 26 (flRemC fc qx), aI T xs 26 fs, aI T xg 26 fg] _ := Eq.subst (motive := fun w => va_P D vwCl w _) eW hP
    have hD : va_D A [oFL xo xc xs xg ch (flRemZ sz qx) rm, aI T xc 26 (flRemC fc qx), aI T xs 26 fs, aI T xg 26 fg] := Eq.subst (motive := fun w => va_D A w) eW hD
    exact hret _ _ _ _ _ (fun Qc free hq hf => W.vret hx hb hr hq hf dX0_remove_22 hlk) hP hD hS
  · refine lv_aload_n hx hb dX0_remove_5 rfl (lv_at hl 0 rfl) ?_
    refine va_get (D := D) (ci := 0) (v := .ref xc) (C := RX0) (T := TX0) (N := 6) hx hb hts iX0 hown hC.1 hP 0 rfl rfl 0 (by decide) (hts (.fieldLink RX0 9 "ParrotCounts$FirstList" "counts" "[I") (List.mem_of_getElem? (i := 1) rfl)) (fun _ h => h) rfl dX0_remove_6 ?_
    refine lv_iload_n hx hb dX0_remove_9 rfl (lv_at hl 1 rfl) ?_
    refine lv_iconst (v := 0) hx hb dX0_remove_10 (by decide) ?_
    refine va_iast hx hb hC.1 hP hD hS 1 0 rfl rfl (hq c2) dX0_remove_11 (fun H locs hP hD hS => ?_)
    have hP : va_P D vwCl [oFL xo xc xs xg ch sz rm, aI T xc 26 (upd fc qx.toNatClampNeg 0), aI T xs 26 fs, aI T xg 26 fg] H := hP
    have hD : va_D A [oFL xo xc xs xg ch sz rm, aI T xc 26 (upd fc qx.toNatClampNeg 0), aI T xs 26 fs, aI T xg 26 fg] := hD
    refine lv_aload_n hx hb dX0_remove_12 rfl (lv_at hl 0 rfl) ?_
    refine lv_dup hx hb dX0_remove_13 rfl ?_
    refine va_get (D := D) (ci := 0) (v := .int sz) (C := RX0) (T := TX0) (N := 6) hx hb hts iX0 hown hC.1 hP 0 rfl rfl 4 (by decide) (hts (.fieldLink RX0 31 "ParrotCounts$FirstList" "size" "I") (List.mem_of_getElem? (i := 2) rfl)) (fun _ h => h) rfl dX0_remove_14 ?_
    refine lv_iconst (v := 1) hx hb dX0_remove_17 (by decide) ?_
    refine lv_isub hx hb dX0_remove_18 ?_
    refine va_put (D := D) (ci := 0) (v := .int (sz - 1)) (ty := .int) (C := RX0) (T := TX0) (N := 6) hx hb hts iX0 tyX0 tyX0_ok nmX0 hown hC.1 hP hD hS 0 rfl rfl 4 (by decide) (hts (.fieldLink RX0 31 "ParrotCounts$FirstList" "size" "I") (List.mem_of_getElem? (i := 2) rfl)) (fun _ h9 => h9) rfl (by decide +kernel) rfl rfl (Nat.le_of_ble_eq_true rfl) dX0_remove_19 (fun H locs hP hD hS => ?_)
    have hP : va_P D vwCl [oFL xo xc xs xg ch (sz - 1) rm, aI T xc 26 (upd fc qx.toNatClampNeg 0), aI T xs 26 fs, aI T xg 26 fg] H := hP
    have hD : va_D A [oFL xo xc xs xg ch (sz - 1) rm, aI T xc 26 (upd fc qx.toNatClampNeg 0), aI T xs 26 fs, aI T xg 26 fg] := hD
    have e_3 : sz - 1 = flRemZ sz qx := by first | with_reducible rfl | (simp [flRemC, flRemZ, c2]; done)
    have e_4 : upd fc qx.toNatClampNeg 0 = flRemC fc qx := by first | with_reducible rfl | (simp [flRemC, flRemZ, c2]; done)
    have eW := (congrArg (fun zZ => ([oFL xo xc xs xg ch zZ rm, aI T xc 26 (upd fc qx.toNatClampNeg 0), aI T xs 26 fs, aI T xg 26 fg] : va_W)) e_3).trans (congrArg (fun zZ => ([oFL xo xc xs xg ch (flRemZ sz qx) rm, aI T xc 26 zZ, aI T xs 26 fs, aI T xg 26 fg] : va_W)) e_4)
    have hP : va_P D vwCl [oFL xo xc xs xg ch (flRemZ sz qx) rm, aI T xc 26 (flRemC fc qx), aI T xs 26 fs, aI T xg 26 fg] _ := Eq.subst (motive := fun w => va_P D vwCl w _) eW hP
    have hD : va_D A [oFL xo xc xs xg ch (flRemZ sz qx) rm, aI T xc 26 (flRemC fc qx), aI T xs 26 fs, aI T xg 26 fg] := Eq.subst (motive := fun w => va_D A w) eW hD
    exact hret _ _ _ _ _ (fun Qc free hq hf => W.vret hx hb hr hq hf dX0_remove_22 hlk) hP hD hS
abbrev rX0_giveCounter : Room := { frames := 3, cells := 0, slots := 0, locals := 65 }
set_option maxHeartbeats 4000000 in
set_option maxRecDepth 100000 in
theorem c_X0_giveCounter (l : Launch) (D : va_G) (T : Nat → ClassId) (xo xc xs xg : Nat) (fc fs fg : Nat → Int32) (ch sz rm : Int32) (pa : Nat) (hp : pa < 26) : kM l D T yX0_giveCounter wsX0_giveCounter rX0_giveCounter [.ref xo, .int (nI pa)] [oFL xo xc xs xg ch sz rm, aI T xc 26 fc, aI T xs 26 fs, aI T xg 26 fg] none [oFL xo xc xs xg ch (gvZ fc fg sz rm) rm, aI T xc 26 (gvC fc fg sz rm pa), aI T xs 26 (upd fs pa (flLeast fc fg sz rm)), aI T xg 26 fg] := by
  refine kM.of (cc := cX0_giveCounter) (maxL := 3) (ret := none) (by decide) rfl (Nat.le_of_ble_eq_true rfl) ?_
  intro p e s m below meth c A Q ls hx hb hml hown hr hlk hts hC hP hD hS hA hl hret
  have iX0 : ∀ w ∈ wsX00, w ∈ wsX0_giveCounter := (fun _ h => List.mem_cons_of_mem _ (List.mem_append_right _ h))
  have hl : lv_has ls 3 [(0, .ref xo), (1, .int (nI pa))] := hl
  have hP : va_P D vwCl [oFL xo xc xs xg ch sz rm, aI T xc 26 fc, aI T xs 26 fs, aI T xg 26 fg] s.heap := hP
  have hD : va_D A [oFL xo xc xs xg ch sz rm, aI T xc 26 fc, aI T xs 26 fs, aI T xg 26 fg] := hD
  refine lv_aload_n hx hb dX0_giveCounter_0 rfl (lv_at hl 0 rfl) ?_
  have hP := hP.sub (ws' := [oFL xo xc xs xg ch sz rm, aI T xc 26 fc, aI T xs 26 fs, aI T xg 26 fg] ++ []) [0, 1, 2, 3] rfl
  have hD := hD.sub (ws' := [oFL xo xc xs xg ch sz rm, aI T xc 26 fc, aI T xs 26 fs, aI T xg 26 fg] ++ []) [0, 1, 2, 3] (by decide) rfl
  refine kV (ci := 0) (As := []) (rest := []) ⟨hx, hb, hml, hown, hts⟩ (c_X0_leastCount l D T xo xc xs xg fc fs fg ch sz rm ) (cwV 0 hts gX0_giveCounter_X0_leastCount rfl rfl rfl (by decide +kernel) ⟨Nat.le_of_ble_eq_true rfl, Nat.le_of_ble_eq_true rfl⟩) hC hP hD hS hA rfl rfl rfl hl.1 rfl (Nat.le_of_ble_eq_true rfl) dX0_giveCounter_1 ⟨Nat.zero_le _, Nat.zero_le _⟩ (fun H locs hP hD hS => ?_)
  have hP : va_P D vwCl [oFL xo xc xs xg ch sz rm, aI T xc 26 fc, aI T xs 26 fs, aI T xg 26 fg] H := hP
  have hD : va_D A [oFL xo xc xs xg ch sz rm, aI T xc 26 fc, aI T xs 26 fs, aI T xg 26 fg] := hD
  refine W.eq (g2 := F0 m 4 ls [.int (flLeast fc fg sz rm)]) rfl ?_
  refine lv_istore_n (lv' := [(2, .int (flLeast fc fg sz rm)), (0, .ref xo), (1, .int (nI pa))]) hx hb dX0_giveCounter_4 rfl hl (by decide) rfl (fun ls hl => ?_)
  refine lv_aload_n hx hb dX0_giveCounter_5 rfl (lv_at hl 1 rfl) ?_
  have hP := hP.sub (ws' := [oFL xo xc xs xg ch sz rm, aI T xc 26 fc, aI T xs 26 fs, aI T xg 26 fg] ++ []) [0, 1, 2, 3] rfl
  have hD := hD.sub (ws' := [oFL xo xc xs xg ch sz rm, aI T xc 26 fc, aI T xs 26 fs, aI T xg 26 fg] ++ []) [0, 1, 2, 3] (by decide) rfl
  refine kV (ci := 0) (As := []) (rest := []) ⟨hx, hb, hml, hown, hts⟩ (c_X0_isFull l D T xo xc xs xg fc fs fg ch sz rm ) (cwV 0 hts gX0_giveCounter_X0_isFull rfl rfl rfl (by decide +kernel) ⟨Nat.le_of_ble_eq_true rfl, Nat.le_of_ble_eq_true rfl⟩) hC hP hD hS hA rfl rfl rfl hl.1 rfl (Nat.le_of_ble_eq_true rfl) dX0_giveCounter_6 ⟨Nat.zero_le _, Nat.zero_le _⟩ (fun H locs hP hD hS => ?_)
  have hP : va_P D vwCl [oFL xo xc xs xg ch sz rm, aI T xc 26 fc, aI T xs 26 fs, aI T xg 26 fg] H := hP
  have hD : va_D A [oFL xo xc xs xg ch sz rm, aI T xc 26 fc, aI T xs 26 fs, aI T xg 26 fg] := hD
  refine W.eq (g2 := F0 m 9 ls [.int (bI (flFull sz rm))]) rfl ?_
  refine lv_if_eq (tgt := 20) hx hb dX0_giveCounter_9 (by decide) (fun c9 => ?_) (fun c9 => ?_)
  · have c9 := (bI0 _).mp c9
    refine lv_aload_n hx hb dX0_giveCounter_20 rfl (lv_at hl 1 rfl) ?_
    refine va_get (D := D) (ci := 0) (v := .ref xc) (C := RX0) (T := TX0) (N := 6) hx hb hts iX0 hown hC.1 hP 0 rfl rfl 0 (by decide) (hts (.fieldLink RX0 9 "ParrotCounts$FirstList" "counts" "[I") (List.mem_of_getElem? (i := 1) rfl)) (fun _ h => h) rfl dX0_giveCounter_21 ?_
    refine lv_iload_n hx hb dX0_giveCounter_24 rfl (lv_at hl 2 rfl) ?_
    refine lv_iload_n hx hb dX0_giveCounter_25 rfl (lv_at hl 0 rfl) ?_
    refine k_iast hx hb hC.1 hP hD hS 1 0 rfl rfl (by omega) dX0_giveCounter_26 (fun H locs hP hD hS => ?_)
    have hP : va_P D vwCl [oFL xo xc xs xg ch sz rm, aI T xc 26 (upd fc pa (flLeast fc fg sz rm)), aI T xs 26 fs, aI T xg 26 fg] H := hP
    have hD : va_D A [oFL xo xc xs xg ch sz rm, aI T xc 26 (upd fc pa (flLeast fc fg sz rm)), aI T xs 26 fs, aI T xg 26 fg] := hD
    refine lv_aload_n hx hb dX0_giveCounter_27 rfl (lv_at hl 1 rfl) ?_
    refine va_get (D := D) (ci := 0) (v := .ref xs) (C := RX0) (T := TX0) (N := 6) hx hb hts iX0 hown hC.1 hP 0 rfl rfl 1 (by decide) (hts (.fieldLink RX0 15 "ParrotCounts$FirstList" "surpluses" "[I") (List.mem_of_getElem? (i := 2) rfl)) (fun _ h => h) rfl dX0_giveCounter_28 ?_
    refine lv_iload_n hx hb dX0_giveCounter_31 rfl (lv_at hl 2 rfl) ?_
    refine lv_iload_n hx hb dX0_giveCounter_32 rfl (lv_at hl 0 rfl) ?_
    refine k_iast hx hb hC.1 hP hD hS 2 0 rfl rfl (by omega) dX0_giveCounter_33 (fun H locs hP hD hS => ?_)
    have hP : va_P D vwCl [oFL xo xc xs xg ch sz rm, aI T xc 26 (upd fc pa (flLeast fc fg sz rm)), aI T xs 26 (upd fs pa (flLeast fc fg sz rm)), aI T xg 26 fg] H := hP
    have hD : va_D A [oFL xo xc xs xg ch sz rm, aI T xc 26 (upd fc pa (flLeast fc fg sz rm)), aI T xs 26 (upd fs pa (flLeast fc fg sz rm)), aI T xg 26 fg] := hD
    refine lv_aload_n hx hb dX0_giveCounter_34 rfl (lv_at hl 1 rfl) ?_
    refine lv_dup hx hb dX0_giveCounter_35 rfl ?_
    refine va_get (D := D) (ci := 0) (v := .int sz) (C := RX0) (T := TX0) (N := 6) hx hb hts iX0 hown hC.1 hP 0 rfl rfl 4 (by decide) (hts (.fieldLink RX0 31 "ParrotCounts$FirstList" "size" "I") (List.mem_of_getElem? (i := 3) rfl)) (fun _ h => h) rfl dX0_giveCounter_36 ?_
    refine lv_iconst (v := 1) hx hb dX0_giveCounter_39 (by decide) ?_
    refine lv_iadd hx hb dX0_giveCounter_40 ?_
    refine va_put (D := D) (ci := 0) (v := .int (sz + 1)) (ty := .int) (C := RX0) (T := TX0) (N := 6) hx hb hts iX0 tyX0 tyX0_ok nmX0 hown hC.1 hP hD hS 0 rfl rfl 4 (by decide) (hts (.fieldLink RX0 31 "ParrotCounts$FirstList" "size" "I") (List.mem_of_getElem? (i := 3) rfl)) (fun _ h9 => h9) rfl (by decide +kernel) rfl rfl (Nat.le_of_ble_eq_true rfl) dX0_giveCounter_41 (fun H locs hP hD hS => ?_)
    have hP : va_P D vwCl [oFL xo xc xs xg ch (sz + 1) rm, aI T xc 26 (upd fc pa (flLeast fc fg sz rm)), aI T xs 26 (upd fs pa (flLeast fc fg sz rm)), aI T xg 26 fg] H := hP
    have hD : va_D A [oFL xo xc xs xg ch (sz + 1) rm, aI T xc 26 (upd fc pa (flLeast fc fg sz rm)), aI T xs 26 (upd fs pa (flLeast fc fg sz rm)), aI T xg 26 fg] := hD
    have e_1 : sz + 1 = gvZ fc fg sz rm := by first | with_reducible rfl | (simp [gvC, gvZ, c9]; done)
    have e_2 : upd fc pa (flLeast fc fg sz rm) = gvC fc fg sz rm pa := by first | with_reducible rfl | (simp [gvC, gvZ, c9]; done)
    have eW := (congrArg (fun zZ => ([oFL xo xc xs xg ch zZ rm, aI T xc 26 (upd fc pa (flLeast fc fg sz rm)), aI T xs 26 (upd fs pa (flLeast fc fg sz rm)), aI T xg 26 fg] : va_W)) e_1).trans (congrArg (fun zZ => ([oFL xo xc xs xg ch (gvZ fc fg sz rm) rm, aI T xc 26 zZ, aI T xs 26 (upd fs pa (flLeast fc fg sz rm)), aI T xg 26 fg] : va_W)) e_2)
    have hP : va_P D vwCl [oFL xo xc xs xg ch (gvZ fc fg sz rm) rm, aI T xc 26 (gvC fc fg sz rm pa), aI T xs 26 (upd fs pa (flLeast fc fg sz rm)), aI T xg 26 fg] _ := Eq.subst (motive := fun w => va_P D vwCl w _) eW hP
    have hD : va_D A [oFL xo xc xs xg ch (gvZ fc fg sz rm) rm, aI T xc 26 (gvC fc fg sz rm pa), aI T xs 26 (upd fs pa (flLeast fc fg sz rm)), aI T xg 26 fg] := Eq.subst (motive := fun w => va_D A w) eW hD
    exact hret _ _ _ _ _ (fun Qc free hq hf => W.vret hx hb hr hq hf dX0_giveCounter_44 hlk) hP hD hS
  · have c9 := (bI0n _).mp c9
    refine lv_aload_n hx hb dX0_giveCounter_12 rfl (lv_at hl 1 rfl) ?_
    refine lv_aload_n hx hb dX0_giveCounter_13 rfl (lv_at hl 1 rfl) ?_
    have hP := hP.sub (ws' := [oFL xo xc xs xg ch sz rm, aI T xc 26 fc, aI T xs 26 fs, aI T xg 26 fg] ++ []) [0, 1, 2, 3] rfl
    have hD := hD.sub (ws' := [oFL xo xc xs xg ch sz rm, aI T xc 26 fc, aI T xs 26 fs, aI T xg 26 fg] ++ []) [0, 1, 2, 3] (by decide) rfl
    refine kV (ci := 0) (As := []) (rest := [.ref xo]) ⟨hx, hb, hml, hown, hts⟩ (c_X0_weakest l D T xo xc xs xg fc fs fg ch sz rm ) (cwV 0 hts gX0_giveCounter_X0_weakest rfl rfl rfl (by decide +kernel) ⟨Nat.le_of_ble_eq_true rfl, Nat.le_of_ble_eq_true rfl⟩) hC hP hD hS hA rfl rfl rfl hl.1 rfl (Nat.le_of_ble_eq_true rfl) dX0_giveCounter_14 ⟨Nat.zero_le _, Nat.zero_le _⟩ (fun H locs hP hD hS => ?_)
    have hP : va_P D vwCl [oFL xo xc xs xg ch sz rm, aI T xc 26 fc, aI T xs 26 fs, aI T xg 26 fg] H := hP
    have hD : va_D A [oFL xo xc xs xg ch sz rm, aI T xc 26 fc, aI T xs 26 fs, aI T xg 26 fg] := hD
    refine W.eq (g2 := F0 m 17 ls [.int (flWeak fc fg 26), .ref xo]) rfl ?_
    have hP := hP.sub (ws' := [oFL xo xc xs xg ch sz rm, aI T xc 26 fc, aI T xs 26 fs, aI T xg 26 fg] ++ []) [0, 1, 2, 3] rfl
    have hD := hD.sub (ws' := [oFL xo xc xs xg ch sz rm, aI T xc 26 fc, aI T xs 26 fs, aI T xg 26 fg] ++ []) [0, 1, 2, 3] (by decide) rfl
    refine kV (ci := 0) (As := [.int (flWeak fc fg 26)]) (rest := []) ⟨hx, hb, hml, hown, hts⟩ (c_X0_remove l D T xo xc xs xg fc fs fg ch sz rm (flWeak fc fg 26) (flWeak_vp (by omega))) (cwV 1 hts gX0_giveCounter_X0_remove rfl rfl rfl (by decide +kernel) ⟨Nat.le_of_ble_eq_true rfl, Nat.le_of_ble_eq_true rfl⟩) hC hP hD hS hA rfl rfl rfl hl.1 rfl (Nat.le_of_ble_eq_true rfl) dX0_giveCounter_17 ⟨Nat.zero_le _, Nat.zero_le _⟩ (fun H locs hP hD hS => ?_)
    have hP : va_P D vwCl [oFL xo xc xs xg ch (flRemZ sz (flWeak fc fg 26)) rm, aI T xc 26 (flRemC fc (flWeak fc fg 26)), aI T xs 26 fs, aI T xg 26 fg] H := hP
    have hD : va_D A [oFL xo xc xs xg ch (flRemZ sz (flWeak fc fg 26)) rm, aI T xc 26 (flRemC fc (flWeak fc fg 26)), aI T xs 26 fs, aI T xg 26 fg] := hD
    refine W.eq (g2 := F0 m 20 ls []) rfl ?_
    refine lv_aload_n hx hb dX0_giveCounter_20 rfl (lv_at hl 1 rfl) ?_
    refine va_get (D := D) (ci := 0) (v := .ref xc) (C := RX0) (T := TX0) (N := 6) hx hb hts iX0 hown hC.1 hP 0 rfl rfl 0 (by decide) (hts (.fieldLink RX0 9 "ParrotCounts$FirstList" "counts" "[I") (List.mem_of_getElem? (i := 1) rfl)) (fun _ h => h) rfl dX0_giveCounter_21 ?_
    refine lv_iload_n hx hb dX0_giveCounter_24 rfl (lv_at hl 2 rfl) ?_
    refine lv_iload_n hx hb dX0_giveCounter_25 rfl (lv_at hl 0 rfl) ?_
    refine k_iast hx hb hC.1 hP hD hS 1 0 rfl rfl (by omega) dX0_giveCounter_26 (fun H locs hP hD hS => ?_)
    have hP : va_P D vwCl [oFL xo xc xs xg ch (flRemZ sz (flWeak fc fg 26)) rm, aI T xc 26 (upd (flRemC fc (flWeak fc fg 26)) pa (flLeast fc fg sz rm)), aI T xs 26 fs, aI T xg 26 fg] H := hP
    have hD : va_D A [oFL xo xc xs xg ch (flRemZ sz (flWeak fc fg 26)) rm, aI T xc 26 (upd (flRemC fc (flWeak fc fg 26)) pa (flLeast fc fg sz rm)), aI T xs 26 fs, aI T xg 26 fg] := hD
    refine lv_aload_n hx hb dX0_giveCounter_27 rfl (lv_at hl 1 rfl) ?_
    refine va_get (D := D) (ci := 0) (v := .ref xs) (C := RX0) (T := TX0) (N := 6) hx hb hts iX0 hown hC.1 hP 0 rfl rfl 1 (by decide) (hts (.fieldLink RX0 15 "ParrotCounts$FirstList" "surpluses" "[I") (List.mem_of_getElem? (i := 2) rfl)) (fun _ h => h) rfl dX0_giveCounter_28 ?_
    refine lv_iload_n hx hb dX0_giveCounter_31 rfl (lv_at hl 2 rfl) ?_
    refine lv_iload_n hx hb dX0_giveCounter_32 rfl (lv_at hl 0 rfl) ?_
    refine k_iast hx hb hC.1 hP hD hS 2 0 rfl rfl (by omega) dX0_giveCounter_33 (fun H locs hP hD hS => ?_)
    have hP : va_P D vwCl [oFL xo xc xs xg ch (flRemZ sz (flWeak fc fg 26)) rm, aI T xc 26 (upd (flRemC fc (flWeak fc fg 26)) pa (flLeast fc fg sz rm)), aI T xs 26 (upd fs pa (flLeast fc fg sz rm)), aI T xg 26 fg] H := hP
    have hD : va_D A [oFL xo xc xs xg ch (flRemZ sz (flWeak fc fg 26)) rm, aI T xc 26 (upd (flRemC fc (flWeak fc fg 26)) pa (flLeast fc fg sz rm)), aI T xs 26 (upd fs pa (flLeast fc fg sz rm)), aI T xg 26 fg] := hD
    refine lv_aload_n hx hb dX0_giveCounter_34 rfl (lv_at hl 1 rfl) ?_
    refine lv_dup hx hb dX0_giveCounter_35 rfl ?_
    refine va_get (D := D) (ci := 0) (v := .int (flRemZ sz (flWeak fc fg 26))) (C := RX0) (T := TX0) (N := 6) hx hb hts iX0 hown hC.1 hP 0 rfl rfl 4 (by decide) (hts (.fieldLink RX0 31 "ParrotCounts$FirstList" "size" "I") (List.mem_of_getElem? (i := 3) rfl)) (fun _ h => h) rfl dX0_giveCounter_36 ?_
    refine lv_iconst (v := 1) hx hb dX0_giveCounter_39 (by decide) ?_
    refine lv_iadd hx hb dX0_giveCounter_40 ?_
    refine va_put (D := D) (ci := 0) (v := .int ((flRemZ sz (flWeak fc fg 26)) + 1)) (ty := .int) (C := RX0) (T := TX0) (N := 6) hx hb hts iX0 tyX0 tyX0_ok nmX0 hown hC.1 hP hD hS 0 rfl rfl 4 (by decide) (hts (.fieldLink RX0 31 "ParrotCounts$FirstList" "size" "I") (List.mem_of_getElem? (i := 3) rfl)) (fun _ h9 => h9) rfl (by decide +kernel) rfl rfl (Nat.le_of_ble_eq_true rfl) dX0_giveCounter_41 (fun H locs hP hD hS => ?_)
    have hP : va_P D vwCl [oFL xo xc xs xg ch ((flRemZ sz (flWeak fc fg 26)) + 1) rm, aI T xc 26 (upd (flRemC fc (flWeak fc fg 26)) pa (flLeast fc fg sz rm)), aI T xs 26 (upd fs pa (flLeast fc fg sz rm)), aI T xg 26 fg] H := hP
    have hD : va_D A [oFL xo xc xs xg ch ((flRemZ sz (flWeak fc fg 26)) + 1) rm, aI T xc 26 (upd (flRemC fc (flWeak fc fg 26)) pa (flLeast fc fg sz rm)), aI T xs 26 (upd fs pa (flLeast fc fg sz rm)), aI T xg 26 fg] := hD
    have e_3 : (flRemZ sz (flWeak fc fg 26)) + 1 = gvZ fc fg sz rm := by first | with_reducible rfl | (simp [gvC, gvZ, c9]; done)
    have e_4 : upd (flRemC fc (flWeak fc fg 26)) pa (flLeast fc fg sz rm) = gvC fc fg sz rm pa := by first | with_reducible rfl | (simp [gvC, gvZ, c9]; done)
    have eW := (congrArg (fun zZ => ([oFL xo xc xs xg ch zZ rm, aI T xc 26 (upd (flRemC fc (flWeak fc fg 26)) pa (flLeast fc fg sz rm)), aI T xs 26 (upd fs pa (flLeast fc fg sz rm)), aI T xg 26 fg] : va_W)) e_3).trans (congrArg (fun zZ => ([oFL xo xc xs xg ch (gvZ fc fg sz rm) rm, aI T xc 26 zZ, aI T xs 26 (upd fs pa (flLeast fc fg sz rm)), aI T xg 26 fg] : va_W)) e_4)
    have hP : va_P D vwCl [oFL xo xc xs xg ch (gvZ fc fg sz rm) rm, aI T xc 26 (gvC fc fg sz rm pa), aI T xs 26 (upd fs pa (flLeast fc fg sz rm)), aI T xg 26 fg] _ := Eq.subst (motive := fun w => va_P D vwCl w _) eW hP
    have hD : va_D A [oFL xo xc xs xg ch (gvZ fc fg sz rm) rm, aI T xc 26 (gvC fc fg sz rm pa), aI T xs 26 (upd fs pa (flLeast fc fg sz rm)), aI T xg 26 fg] := Eq.subst (motive := fun w => va_D A w) eW hD
    exact hret _ _ _ _ _ (fun Qc free hq hf => W.vret hx hb hr hq hf dX0_giveCounter_44 hlk) hP hD hS
abbrev rX0_take : Room := { frames := 4, cells := 0, slots := 0, locals := 87 }
set_option maxHeartbeats 4000000 in
set_option maxRecDepth 100000 in
theorem c_X0_take (l : Launch) (D : va_G) (T : Nat → ClassId) (xo xc xs xg : Nat) (fc fs fg : Nat → Int32) (ch sz rm : Int32) (pa : Nat) (hp : pa < 26) : kM l D T yX0_take wsX0_take rX0_take [.ref xo, .int (nI pa)] [oFL xo xc xs xg ch sz rm, aI T xc 26 fc, aI T xs 26 fs, aI T xg 26 fg] none [oFL xo xc xs xg (ch + 1) (tkZ fc fg sz rm pa) rm, aI T xc 26 (tkC fc fg sz rm pa), aI T xs 26 (tkS fc fs fg sz rm pa), aI T xg 26 (upd fg pa (ch + 1))] := by
  refine kM.of (cc := cX0_take) (maxL := 2) (ret := none) (by decide) rfl (Nat.le_of_ble_eq_true rfl) ?_
  intro p e s m below meth c A Q ls hx hb hml hown hr hlk hts hC hP hD hS hA hl hret
  have iX0 : ∀ w ∈ wsX00, w ∈ wsX0_take := (fun _ h => List.mem_cons_of_mem _ (List.mem_append_right _ h))
  have hl : lv_has ls 2 [(0, .ref xo), (1, .int (nI pa))] := hl
  have hP : va_P D vwCl [oFL xo xc xs xg ch sz rm, aI T xc 26 fc, aI T xs 26 fs, aI T xg 26 fg] s.heap := hP
  have hD : va_D A [oFL xo xc xs xg ch sz rm, aI T xc 26 fc, aI T xs 26 fs, aI T xg 26 fg] := hD
  refine lv_aload_n hx hb dX0_take_0 rfl (lv_at hl 0 rfl) ?_
  refine va_get (D := D) (ci := 0) (v := .ref xc) (C := RX0) (T := TX0) (N := 6) hx hb hts iX0 hown hC.1 hP 0 rfl rfl 0 (by decide) (hts (.fieldLink RX0 9 "ParrotCounts$FirstList" "counts" "[I") (List.mem_of_getElem? (i := 1) rfl)) (fun _ h => h) rfl dX0_take_1 ?_
  refine lv_iload_n hx hb dX0_take_4 rfl (lv_at hl 1 rfl) ?_
  refine k_iald hx hb hC.1 hP 1 0 rfl rfl (by omega) dX0_take_5 ?_
  refine lv_if_ne (tgt := 14) hx hb dX0_take_6 (by decide) (fun c6 => ?_) (fun c6 => ?_)
  · refine lv_aload_n hx hb dX0_take_14 rfl (lv_at hl 0 rfl) ?_
    refine va_get (D := D) (ci := 0) (v := .ref xc) (C := RX0) (T := TX0) (N := 6) hx hb hts iX0 hown hC.1 hP 0 rfl rfl 0 (by decide) (hts (.fieldLink RX0 9 "ParrotCounts$FirstList" "counts" "[I") (List.mem_of_getElem? (i := 1) rfl)) (fun _ h => h) rfl dX0_take_15 ?_
    refine lv_iload_n hx hb dX0_take_18 rfl (lv_at hl 1 rfl) ?_
    refine lv_dup2_11 hx hb dX0_take_19 rfl rfl ?_
    refine k_iald hx hb hC.1 hP 1 0 rfl rfl (by omega) dX0_take_20 ?_
    refine lv_iconst (v := 1) hx hb dX0_take_21 (by decide) ?_
    refine lv_iadd hx hb dX0_take_22 ?_
    refine k_iast hx hb hC.1 hP hD hS 1 0 rfl rfl (by omega) dX0_take_23 (fun H locs hP hD hS => ?_)
    have hP : va_P D vwCl [oFL xo xc xs xg ch sz rm, aI T xc 26 (upd fc pa ((fc pa) + 1)), aI T xs 26 fs, aI T xg 26 fg] H := hP
    have hD : va_D A [oFL xo xc xs xg ch sz rm, aI T xc 26 (upd fc pa ((fc pa) + 1)), aI T xs 26 fs, aI T xg 26 fg] := hD
    refine lv_aload_n hx hb dX0_take_24 rfl (lv_at hl 0 rfl) ?_
    refine lv_dup hx hb dX0_take_25 rfl ?_
    refine va_get (D := D) (ci := 0) (v := .int ch) (C := RX0) (T := TX0) (N := 6) hx hb hts iX0 hown hC.1 hP 0 rfl rfl 3 (by decide) (hts (.fieldLink RX0 27 "ParrotCounts$FirstList" "changes" "I") (List.mem_of_getElem? (i := 2) rfl)) (fun _ h => h) rfl dX0_take_26 ?_
    refine lv_iconst (v := 1) hx hb dX0_take_29 (by decide) ?_
    refine lv_iadd hx hb dX0_take_30 ?_
    refine va_put (D := D) (ci := 0) (v := .int (ch + 1)) (ty := .int) (C := RX0) (T := TX0) (N := 6) hx hb hts iX0 tyX0 tyX0_ok nmX0 hown hC.1 hP hD hS 0 rfl rfl 3 (by decide) (hts (.fieldLink RX0 27 "ParrotCounts$FirstList" "changes" "I") (List.mem_of_getElem? (i := 2) rfl)) (fun _ h9 => h9) rfl (by decide +kernel) rfl rfl (Nat.le_of_ble_eq_true rfl) dX0_take_31 (fun H locs hP hD hS => ?_)
    have hP : va_P D vwCl [oFL xo xc xs xg (ch + 1) sz rm, aI T xc 26 (upd fc pa ((fc pa) + 1)), aI T xs 26 fs, aI T xg 26 fg] H := hP
    have hD : va_D A [oFL xo xc xs xg (ch + 1) sz rm, aI T xc 26 (upd fc pa ((fc pa) + 1)), aI T xs 26 fs, aI T xg 26 fg] := hD
    refine lv_aload_n hx hb dX0_take_34 rfl (lv_at hl 0 rfl) ?_
    refine va_get (D := D) (ci := 0) (v := .ref xg) (C := RX0) (T := TX0) (N := 6) hx hb hts iX0 hown hC.1 hP 0 rfl rfl 2 (by decide) (hts (.fieldLink RX0 18 "ParrotCounts$FirstList" "changedAt" "[I") (List.mem_of_getElem? (i := 3) rfl)) (fun _ h => h) rfl dX0_take_35 ?_
    refine lv_iload_n hx hb dX0_take_38 rfl (lv_at hl 1 rfl) ?_
    refine lv_aload_n hx hb dX0_take_39 rfl (lv_at hl 0 rfl) ?_
    refine va_get (D := D) (ci := 0) (v := .int (ch + 1)) (C := RX0) (T := TX0) (N := 6) hx hb hts iX0 hown hC.1 hP 0 rfl rfl 3 (by decide) (hts (.fieldLink RX0 27 "ParrotCounts$FirstList" "changes" "I") (List.mem_of_getElem? (i := 2) rfl)) (fun _ h => h) rfl dX0_take_40 ?_
    refine k_iast hx hb hC.1 hP hD hS 3 0 rfl rfl (by omega) dX0_take_43 (fun H locs hP hD hS => ?_)
    have hP : va_P D vwCl [oFL xo xc xs xg (ch + 1) sz rm, aI T xc 26 (upd fc pa ((fc pa) + 1)), aI T xs 26 fs, aI T xg 26 (upd fg pa (ch + 1))] H := hP
    have hD : va_D A [oFL xo xc xs xg (ch + 1) sz rm, aI T xc 26 (upd fc pa ((fc pa) + 1)), aI T xs 26 fs, aI T xg 26 (upd fg pa (ch + 1))] := hD
    have e_1 : sz = tkZ fc fg sz rm pa := by first | with_reducible rfl | (simp [tkC, tkS, tkZ, c6]; done)
    have e_2 : upd fc pa ((fc pa) + 1) = tkC fc fg sz rm pa := by first | with_reducible rfl | (simp [tkC, tkS, tkZ, c6]; done)
    have e_3 : fs = tkS fc fs fg sz rm pa := by first | with_reducible rfl | (simp [tkC, tkS, tkZ, c6]; done)
    have eW := (congrArg (fun zZ => ([oFL xo xc xs xg (ch + 1) zZ rm, aI T xc 26 (upd fc pa ((fc pa) + 1)), aI T xs 26 fs, aI T xg 26 (upd fg pa (ch + 1))] : va_W)) e_1).trans ((congrArg (fun zZ => ([oFL xo xc xs xg (ch + 1) (tkZ fc fg sz rm pa) rm, aI T xc 26 zZ, aI T xs 26 fs, aI T xg 26 (upd fg pa (ch + 1))] : va_W)) e_2).trans (congrArg (fun zZ => ([oFL xo xc xs xg (ch + 1) (tkZ fc fg sz rm pa) rm, aI T xc 26 (tkC fc fg sz rm pa), aI T xs 26 zZ, aI T xg 26 (upd fg pa (ch + 1))] : va_W)) e_3))
    have hP : va_P D vwCl [oFL xo xc xs xg (ch + 1) (tkZ fc fg sz rm pa) rm, aI T xc 26 (tkC fc fg sz rm pa), aI T xs 26 (tkS fc fs fg sz rm pa), aI T xg 26 (upd fg pa (ch + 1))] _ := Eq.subst (motive := fun w => va_P D vwCl w _) eW hP
    have hD : va_D A [oFL xo xc xs xg (ch + 1) (tkZ fc fg sz rm pa) rm, aI T xc 26 (tkC fc fg sz rm pa), aI T xs 26 (tkS fc fs fg sz rm pa), aI T xg 26 (upd fg pa (ch + 1))] := Eq.subst (motive := fun w => va_D A w) eW hD
    exact hret _ _ _ _ _ (fun Qc free hq hf => W.vret hx hb hr hq hf dX0_take_44 hlk) hP hD hS
  · refine lv_aload_n hx hb dX0_take_9 rfl (lv_at hl 0 rfl) ?_
    refine lv_iload_n hx hb dX0_take_10 rfl (lv_at hl 1 rfl) ?_
    have hP := hP.sub (ws' := [oFL xo xc xs xg ch sz rm, aI T xc 26 fc, aI T xs 26 fs, aI T xg 26 fg] ++ []) [0, 1, 2, 3] rfl
    have hD := hD.sub (ws' := [oFL xo xc xs xg ch sz rm, aI T xc 26 fc, aI T xs 26 fs, aI T xg 26 fg] ++ []) [0, 1, 2, 3] (by decide) rfl
    refine kV (ci := 0) (As := [.int (nI pa)]) (rest := []) ⟨hx, hb, hml, hown, hts⟩ (c_X0_giveCounter l D T xo xc xs xg fc fs fg ch sz rm pa (by first | omega | assumption)) (cwV 1 hts gX0_take_X0_giveCounter rfl rfl rfl (by decide +kernel) ⟨Nat.le_of_ble_eq_true rfl, Nat.le_of_ble_eq_true rfl⟩) hC hP hD hS hA rfl rfl rfl hl.1 rfl (Nat.le_of_ble_eq_true rfl) dX0_take_11 ⟨Nat.zero_le _, Nat.zero_le _⟩ (fun H locs hP hD hS => ?_)
    have hP : va_P D vwCl [oFL xo xc xs xg ch (gvZ fc fg sz rm) rm, aI T xc 26 (gvC fc fg sz rm pa), aI T xs 26 (upd fs pa (flLeast fc fg sz rm)), aI T xg 26 fg] H := hP
    have hD : va_D A [oFL xo xc xs xg ch (gvZ fc fg sz rm) rm, aI T xc 26 (gvC fc fg sz rm pa), aI T xs 26 (upd fs pa (flLeast fc fg sz rm)), aI T xg 26 fg] := hD
    refine W.eq (g2 := F0 m 14 ls []) rfl ?_
    refine lv_aload_n hx hb dX0_take_14 rfl (lv_at hl 0 rfl) ?_
    refine va_get (D := D) (ci := 0) (v := .ref xc) (C := RX0) (T := TX0) (N := 6) hx hb hts iX0 hown hC.1 hP 0 rfl rfl 0 (by decide) (hts (.fieldLink RX0 9 "ParrotCounts$FirstList" "counts" "[I") (List.mem_of_getElem? (i := 1) rfl)) (fun _ h => h) rfl dX0_take_15 ?_
    refine lv_iload_n hx hb dX0_take_18 rfl (lv_at hl 1 rfl) ?_
    refine lv_dup2_11 hx hb dX0_take_19 rfl rfl ?_
    refine k_iald hx hb hC.1 hP 1 0 rfl rfl (by omega) dX0_take_20 ?_
    refine lv_iconst (v := 1) hx hb dX0_take_21 (by decide) ?_
    refine lv_iadd hx hb dX0_take_22 ?_
    refine k_iast hx hb hC.1 hP hD hS 1 0 rfl rfl (by omega) dX0_take_23 (fun H locs hP hD hS => ?_)
    have hP : va_P D vwCl [oFL xo xc xs xg ch (gvZ fc fg sz rm) rm, aI T xc 26 (upd (gvC fc fg sz rm pa) pa (((gvC fc fg sz rm pa) pa) + 1)), aI T xs 26 (upd fs pa (flLeast fc fg sz rm)), aI T xg 26 fg] H := hP
    have hD : va_D A [oFL xo xc xs xg ch (gvZ fc fg sz rm) rm, aI T xc 26 (upd (gvC fc fg sz rm pa) pa (((gvC fc fg sz rm pa) pa) + 1)), aI T xs 26 (upd fs pa (flLeast fc fg sz rm)), aI T xg 26 fg] := hD
    refine lv_aload_n hx hb dX0_take_24 rfl (lv_at hl 0 rfl) ?_
    refine lv_dup hx hb dX0_take_25 rfl ?_
    refine va_get (D := D) (ci := 0) (v := .int ch) (C := RX0) (T := TX0) (N := 6) hx hb hts iX0 hown hC.1 hP 0 rfl rfl 3 (by decide) (hts (.fieldLink RX0 27 "ParrotCounts$FirstList" "changes" "I") (List.mem_of_getElem? (i := 2) rfl)) (fun _ h => h) rfl dX0_take_26 ?_
    refine lv_iconst (v := 1) hx hb dX0_take_29 (by decide) ?_
    refine lv_iadd hx hb dX0_take_30 ?_
    refine va_put (D := D) (ci := 0) (v := .int (ch + 1)) (ty := .int) (C := RX0) (T := TX0) (N := 6) hx hb hts iX0 tyX0 tyX0_ok nmX0 hown hC.1 hP hD hS 0 rfl rfl 3 (by decide) (hts (.fieldLink RX0 27 "ParrotCounts$FirstList" "changes" "I") (List.mem_of_getElem? (i := 2) rfl)) (fun _ h9 => h9) rfl (by decide +kernel) rfl rfl (Nat.le_of_ble_eq_true rfl) dX0_take_31 (fun H locs hP hD hS => ?_)
    have hP : va_P D vwCl [oFL xo xc xs xg (ch + 1) (gvZ fc fg sz rm) rm, aI T xc 26 (upd (gvC fc fg sz rm pa) pa (((gvC fc fg sz rm pa) pa) + 1)), aI T xs 26 (upd fs pa (flLeast fc fg sz rm)), aI T xg 26 fg] H := hP
    have hD : va_D A [oFL xo xc xs xg (ch + 1) (gvZ fc fg sz rm) rm, aI T xc 26 (upd (gvC fc fg sz rm pa) pa (((gvC fc fg sz rm pa) pa) + 1)), aI T xs 26 (upd fs pa (flLeast fc fg sz rm)), aI T xg 26 fg] := hD
    refine lv_aload_n hx hb dX0_take_34 rfl (lv_at hl 0 rfl) ?_
    refine va_get (D := D) (ci := 0) (v := .ref xg) (C := RX0) (T := TX0) (N := 6) hx hb hts iX0 hown hC.1 hP 0 rfl rfl 2 (by decide) (hts (.fieldLink RX0 18 "ParrotCounts$FirstList" "changedAt" "[I") (List.mem_of_getElem? (i := 3) rfl)) (fun _ h => h) rfl dX0_take_35 ?_
    refine lv_iload_n hx hb dX0_take_38 rfl (lv_at hl 1 rfl) ?_
    refine lv_aload_n hx hb dX0_take_39 rfl (lv_at hl 0 rfl) ?_
    refine va_get (D := D) (ci := 0) (v := .int (ch + 1)) (C := RX0) (T := TX0) (N := 6) hx hb hts iX0 hown hC.1 hP 0 rfl rfl 3 (by decide) (hts (.fieldLink RX0 27 "ParrotCounts$FirstList" "changes" "I") (List.mem_of_getElem? (i := 2) rfl)) (fun _ h => h) rfl dX0_take_40 ?_
    refine k_iast hx hb hC.1 hP hD hS 3 0 rfl rfl (by omega) dX0_take_43 (fun H locs hP hD hS => ?_)
    have hP : va_P D vwCl [oFL xo xc xs xg (ch + 1) (gvZ fc fg sz rm) rm, aI T xc 26 (upd (gvC fc fg sz rm pa) pa (((gvC fc fg sz rm pa) pa) + 1)), aI T xs 26 (upd fs pa (flLeast fc fg sz rm)), aI T xg 26 (upd fg pa (ch + 1))] H := hP
    have hD : va_D A [oFL xo xc xs xg (ch + 1) (gvZ fc fg sz rm) rm, aI T xc 26 (upd (gvC fc fg sz rm pa) pa (((gvC fc fg sz rm pa) pa) + 1)), aI T xs 26 (upd fs pa (flLeast fc fg sz rm)), aI T xg 26 (upd fg pa (ch + 1))] := hD
    have e_4 : gvZ fc fg sz rm = tkZ fc fg sz rm pa := by first | with_reducible rfl | (simp [tkC, tkS, tkZ, eq_true c6]; done)
    have e_5 : upd (gvC fc fg sz rm pa) pa (((gvC fc fg sz rm pa) pa) + 1) = tkC fc fg sz rm pa := by first | with_reducible rfl | (simp [tkC, tkS, tkZ, eq_true c6]; done)
    have e_6 : upd fs pa (flLeast fc fg sz rm) = tkS fc fs fg sz rm pa := by first | with_reducible rfl | (simp [tkC, tkS, tkZ, eq_true c6]; done)
    have eW := (congrArg (fun zZ => ([oFL xo xc xs xg (ch + 1) zZ rm, aI T xc 26 (upd (gvC fc fg sz rm pa) pa (((gvC fc fg sz rm pa) pa) + 1)), aI T xs 26 (upd fs pa (flLeast fc fg sz rm)), aI T xg 26 (upd fg pa (ch + 1))] : va_W)) e_4).trans ((congrArg (fun zZ => ([oFL xo xc xs xg (ch + 1) (tkZ fc fg sz rm pa) rm, aI T xc 26 zZ, aI T xs 26 (upd fs pa (flLeast fc fg sz rm)), aI T xg 26 (upd fg pa (ch + 1))] : va_W)) e_5).trans (congrArg (fun zZ => ([oFL xo xc xs xg (ch + 1) (tkZ fc fg sz rm pa) rm, aI T xc 26 (tkC fc fg sz rm pa), aI T xs 26 zZ, aI T xg 26 (upd fg pa (ch + 1))] : va_W)) e_6))
    have hP : va_P D vwCl [oFL xo xc xs xg (ch + 1) (tkZ fc fg sz rm pa) rm, aI T xc 26 (tkC fc fg sz rm pa), aI T xs 26 (tkS fc fs fg sz rm pa), aI T xg 26 (upd fg pa (ch + 1))] _ := Eq.subst (motive := fun w => va_P D vwCl w _) eW hP
    have hD : va_D A [oFL xo xc xs xg (ch + 1) (tkZ fc fg sz rm pa) rm, aI T xc 26 (tkC fc fg sz rm pa), aI T xs 26 (tkS fc fs fg sz rm pa), aI T xg 26 (upd fg pa (ch + 1))] := Eq.subst (motive := fun w => va_D A w) eW hD
    exact hret _ _ _ _ _ (fun Qc free hq hf => W.vret hx hb hr hq hf dX0_take_44 hlk) hP hD hS
abbrev rX0_addCounters : Room := { frames := 3, cells := 0, slots := 0, locals := 65 }
set_option maxHeartbeats 4000000 in
set_option maxRecDepth 100000 in
theorem c_X0_addCounters (l : Launch) (D : va_G) (T : Nat → ClassId) (xo xc xs xg : Nat) (fc fs fg : Nat → Int32) (ch sz rm : Int32) (zo zc zs zg : Nat) (gc gs gg : Nat → Int32) (hh hz hr2 : Int32) : kM l D T yX0_addCounters wsX0_addCounters rX0_addCounters [.ref xo, .ref zo] [oFL xo xc xs xg ch sz rm, aI T xc 26 fc, aI T xs 26 fs, aI T xg 26 fg, oFL zo zc zs zg hh hz hr2, aI T zc 26 gc, aI T zs 26 gs, aI T zg 26 gg] none [oFL xo xc xs xg ch sz rm, aI T xc 26 (adC fc gc (flLeast fc fg sz rm) (flLeast gc gg hz hr2) 26), aI T xs 26 (adS fc fs gc gs (flLeast fc fg sz rm) (flLeast gc gg hz hr2) 26), aI T xg 26 fg, oFL zo zc zs zg hh hz hr2, aI T zc 26 gc, aI T zs 26 gs, aI T zg 26 gg] := by
  refine kM.of (cc := cX0_addCounters) (maxL := 8) (ret := none) (by decide) rfl (Nat.le_of_ble_eq_true rfl) ?_
  intro p e s m below meth c A Q ls hx hb hml hown hr hlk hts hC hP hD hS hA hl hret
  have iX0 : ∀ w ∈ wsX00, w ∈ wsX0_addCounters := (fun _ h => List.mem_cons_of_mem _ (List.mem_append_right _ h))
  have loop_13 : ∀ (n i : Nat), i + n = 26 → ∀ (H : Heap) (locs : List Loc) (ls : Array Slot), va_P D vwCl [oFL xo xc xs xg ch sz rm, aI T xc 26 (adC fc gc (flLeast fc fg sz rm) (flLeast gc gg hz hr2) i), aI T xs 26 (adS fc fs gc gs (flLeast fc fg sz rm) (flLeast gc gg hz hr2) i), aI T xg 26 fg, oFL zo zc zs zg hh hz hr2, aI T zc 26 gc, aI T zs 26 gs, aI T zg 26 gg] H → va_D A [oFL xo xc xs xg ch sz rm, aI T xc 26 (adC fc gc (flLeast fc fg sz rm) (flLeast gc gg hz hr2) i), aI T xs 26 (adS fc fs gc gs (flLeast fc fg sz rm) (flLeast gc gg hz hr2) i), aI T xg 26 fg, oFL zo zc zs zg hh hz hr2, aI T zc 26 gc, aI T zs 26 gs, aI T zg 26 gg] → va_S A s.heap H locs → lv_has ls 8 [(4, .int (nI i)), (3, .int (flLeast gc gg hz hr2)), (2, .int (flLeast fc fg sz rm)), (0, .ref xo), (1, .ref zo)] → W p l e rX0_addCounters s m [.ref xo, .ref zo].toArray below meth c H locs 0 0 Q (F0 m 13 ls []) := by
    intro n
    induction n with
    | zero =>
      intro i hi  H locs ls hP hD hS hl
      have hi9 : 26 = i := by omega
      subst hi9
      refine lv_iload hx hb dX0_addCounters_13 (lv_at hl 0 rfl) ?_
      refine lv_bipush (v := 26) hx hb dX0_addCounters_15 (by decide) ?_
      refine lv_icmp_ge (tgt := 136) hx hb dX0_addCounters_17 (by decide) (fun _ => ?_) (fun c_x => absurd (by decide : (26 : Int32) ≤ nI 26) c_x)
      exact hret _ _ _ _ _ (fun Qc free hq hf => W.vret hx hb hr hq hf dX0_addCounters_136 hlk) hP hD hS
    | succ n ih =>
      intro i hi  H locs ls hP hD hS hl
      have hlt : i < 26 := by omega
      refine lv_iload hx hb dX0_addCounters_13 (lv_at hl 0 rfl) ?_
      refine lv_bipush (v := 26) hx hb dX0_addCounters_15 (by decide) ?_
      refine lv_icmp_ge (tgt := 136) hx hb dX0_addCounters_17 (by decide) (fun c_x => absurd c_x (nI_ge (b := 26) hlt (by decide))) (fun _ => ?_)
      refine lv_aload_n hx hb dX0_addCounters_20 rfl (lv_at hl 3 rfl) ?_
      refine va_get (D := D) (ci := 0) (v := .ref xc) (C := RX0) (T := TX0) (N := 6) hx hb hts iX0 hown hC.1 hP 0 rfl rfl 0 (by decide) (hts (.fieldLink RX0 9 "ParrotCounts$FirstList" "counts" "[I") (List.mem_of_getElem? (i := 1) rfl)) (fun _ h => h) rfl dX0_addCounters_21 ?_
      refine lv_iload hx hb dX0_addCounters_24 (lv_at hl 0 rfl) ?_
      refine k_iald hx hb hC.1 hP 1 0 rfl rfl (by omega) dX0_addCounters_26 ?_
      refine lv_if_gt (tgt := 40) hx hb dX0_addCounters_27 (by decide) (fun c27 => ?_) (fun c27 => ?_)
      · have c27 := Int32.not_le.mpr c27
        refine lv_aload_n hx hb dX0_addCounters_40 rfl (lv_at hl 3 rfl) ?_
        refine lv_iload hx hb dX0_addCounters_41 (lv_at hl 0 rfl) ?_
        have hP := hP.sub (ws' := [oFL xo xc xs xg ch sz rm, aI T xc 26 (adC fc gc (flLeast fc fg sz rm) (flLeast gc gg hz hr2) i), aI T xs 26 (adS fc fs gc gs (flLeast fc fg sz rm) (flLeast gc gg hz hr2) i), aI T xg 26 fg] ++ [oFL zo zc zs zg hh hz hr2, aI T zc 26 gc, aI T zs 26 gs, aI T zg 26 gg]) [0, 1, 2, 3, 4, 5, 6, 7] rfl
        have hD := hD.sub (ws' := [oFL xo xc xs xg ch sz rm, aI T xc 26 (adC fc gc (flLeast fc fg sz rm) (flLeast gc gg hz hr2) i), aI T xs 26 (adS fc fs gc gs (flLeast fc fg sz rm) (flLeast gc gg hz hr2) i), aI T xg 26 fg] ++ [oFL zo zc zs zg hh hz hr2, aI T zc 26 gc, aI T zs 26 gs, aI T zg 26 gg]) [0, 1, 2, 3, 4, 5, 6, 7] (by decide) rfl
        refine kV (ci := 0) (As := [.int (nI i)]) (rest := []) ⟨hx, hb, hml, hown, hts⟩ (c_X0_sureOf l D T xo xc xs xg (adC fc gc (flLeast fc fg sz rm) (flLeast gc gg hz hr2) i) (adS fc fs gc gs (flLeast fc fg sz rm) (flLeast gc gg hz hr2) i) fg ch sz rm i (by first | omega | assumption)) (cwV 1 hts gX0_addCounters_X0_sureOf rfl rfl rfl (by decide +kernel) ⟨Nat.le_of_ble_eq_true rfl, Nat.le_of_ble_eq_true rfl⟩) hC hP hD hS hA rfl rfl rfl hl.1 rfl (Nat.le_of_ble_eq_true rfl) dX0_addCounters_43 ⟨Nat.zero_le _, Nat.zero_le _⟩ (fun H locs hP hD hS => ?_)
        have hP : va_P D vwCl [oFL xo xc xs xg ch sz rm, aI T xc 26 (adC fc gc (flLeast fc fg sz rm) (flLeast gc gg hz hr2) i), aI T xs 26 (adS fc fs gc gs (flLeast fc fg sz rm) (flLeast gc gg hz hr2) i), aI T xg 26 fg, oFL zo zc zs zg hh hz hr2, aI T zc 26 gc, aI T zs 26 gs, aI T zg 26 gg] H := hP
        have hD : va_D A [oFL xo xc xs xg ch sz rm, aI T xc 26 (adC fc gc (flLeast fc fg sz rm) (flLeast gc gg hz hr2) i), aI T xs 26 (adS fc fs gc gs (flLeast fc fg sz rm) (flLeast gc gg hz hr2) i), aI T xg 26 fg, oFL zo zc zs zg hh hz hr2, aI T zc 26 gc, aI T zs 26 gs, aI T zg 26 gg] := hD
        refine W.eq (g2 := F0 m 46 ls [.int (flSure (adC fc gc (flLeast fc fg sz rm) (flLeast gc gg hz hr2) i) (adS fc fs gc gs (flLeast fc fg sz rm) (flLeast gc gg hz hr2) i) i)]) rfl ?_
        refine lv_aload_n hx hb dX0_addCounters_46 rfl (lv_at hl 4 rfl) ?_
        refine lv_iload hx hb dX0_addCounters_47 (lv_at hl 0 rfl) ?_
        have hP := hP.sub (ws' := [oFL zo zc zs zg hh hz hr2, aI T zc 26 gc, aI T zs 26 gs, aI T zg 26 gg] ++ [oFL xo xc xs xg ch sz rm, aI T xc 26 (adC fc gc (flLeast fc fg sz rm) (flLeast gc gg hz hr2) i), aI T xs 26 (adS fc fs gc gs (flLeast fc fg sz rm) (flLeast gc gg hz hr2) i), aI T xg 26 fg]) [4, 5, 6, 7, 0, 1, 2, 3] rfl
        have hD := hD.sub (ws' := [oFL zo zc zs zg hh hz hr2, aI T zc 26 gc, aI T zs 26 gs, aI T zg 26 gg] ++ [oFL xo xc xs xg ch sz rm, aI T xc 26 (adC fc gc (flLeast fc fg sz rm) (flLeast gc gg hz hr2) i), aI T xs 26 (adS fc fs gc gs (flLeast fc fg sz rm) (flLeast gc gg hz hr2) i), aI T xg 26 fg]) [4, 5, 6, 7, 0, 1, 2, 3] (by decide) rfl
        refine kV (ci := 0) (As := [.int (nI i)]) (rest := [.int (flSure (adC fc gc (flLeast fc fg sz rm) (flLeast gc gg hz hr2) i) (adS fc fs gc gs (flLeast fc fg sz rm) (flLeast gc gg hz hr2) i) i)]) ⟨hx, hb, hml, hown, hts⟩ (c_X0_sureOf l D T zo zc zs zg gc gs gg hh hz hr2 i (by first | omega | assumption)) (cwV 1 hts gX0_addCounters_X0_sureOf rfl rfl rfl (by decide +kernel) ⟨Nat.le_of_ble_eq_true rfl, Nat.le_of_ble_eq_true rfl⟩) hC hP hD hS hA rfl rfl rfl hl.1 rfl (Nat.le_of_ble_eq_true rfl) dX0_addCounters_49 ⟨Nat.zero_le _, Nat.zero_le _⟩ (fun H locs hP hD hS => ?_)
        have hP := hP.sub (ws' := [oFL xo xc xs xg ch sz rm, aI T xc 26 (adC fc gc (flLeast fc fg sz rm) (flLeast gc gg hz hr2) i), aI T xs 26 (adS fc fs gc gs (flLeast fc fg sz rm) (flLeast gc gg hz hr2) i), aI T xg 26 fg, oFL zo zc zs zg hh hz hr2, aI T zc 26 gc, aI T zs 26 gs, aI T zg 26 gg]) [4, 5, 6, 7, 0, 1, 2, 3] rfl
        have hD := hD.sub (ws' := [oFL xo xc xs xg ch sz rm, aI T xc 26 (adC fc gc (flLeast fc fg sz rm) (flLeast gc gg hz hr2) i), aI T xs 26 (adS fc fs gc gs (flLeast fc fg sz rm) (flLeast gc gg hz hr2) i), aI T xg 26 fg, oFL zo zc zs zg hh hz hr2, aI T zc 26 gc, aI T zs 26 gs, aI T zg 26 gg]) [4, 5, 6, 7, 0, 1, 2, 3] (by decide) rfl
        refine W.eq (g2 := F0 m 52 ls [.int (flSure gc gs i), .int (flSure (adC fc gc (flLeast fc fg sz rm) (flLeast gc gg hz hr2) i) (adS fc fs gc gs (flLeast fc fg sz rm) (flLeast gc gg hz hr2) i) i)]) rfl ?_
        refine lv_iadd hx hb dX0_addCounters_52 ?_
        refine lv_istore (lv' := [(5, .int ((flSure (adC fc gc (flLeast fc fg sz rm) (flLeast gc gg hz hr2) i) (adS fc fs gc gs (flLeast fc fg sz rm) (flLeast gc gg hz hr2) i) i) + (flSure gc gs i))), (4, .int (nI i)), (3, .int (flLeast gc gg hz hr2)), (2, .int (flLeast fc fg sz rm)), (0, .ref xo), (1, .ref zo)]) hx hb dX0_addCounters_53 hl (by decide) rfl (fun ls hl => ?_)
        refine lv_aload_n hx hb dX0_addCounters_55 rfl (lv_at hl 4 rfl) ?_
        refine va_get (D := D) (ci := 0) (v := .ref xc) (C := RX0) (T := TX0) (N := 6) hx hb hts iX0 hown hC.1 hP 0 rfl rfl 0 (by decide) (hts (.fieldLink RX0 9 "ParrotCounts$FirstList" "counts" "[I") (List.mem_of_getElem? (i := 1) rfl)) (fun _ h => h) rfl dX0_addCounters_56 ?_
        refine lv_iload hx hb dX0_addCounters_59 (lv_at hl 1 rfl) ?_
        refine k_iald hx hb hC.1 hP 1 0 rfl rfl (by omega) dX0_addCounters_61 ?_
        refine lv_if_le (tgt := 75) hx hb dX0_addCounters_62 (by decide) (fun c_x => absurd c_x c27) (fun _ => ?_)
        refine lv_aload_n hx hb dX0_addCounters_65 rfl (lv_at hl 4 rfl) ?_
        refine va_get (D := D) (ci := 0) (v := .ref xc) (C := RX0) (T := TX0) (N := 6) hx hb hts iX0 hown hC.1 hP 0 rfl rfl 0 (by decide) (hts (.fieldLink RX0 9 "ParrotCounts$FirstList" "counts" "[I") (List.mem_of_getElem? (i := 1) rfl)) (fun _ h => h) rfl dX0_addCounters_66 ?_
        refine lv_iload hx hb dX0_addCounters_69 (lv_at hl 1 rfl) ?_
        refine k_iald hx hb hC.1 hP 1 0 rfl rfl (by omega) dX0_addCounters_71 ?_
        refine lv_goto (tgt := 76) hx hb dX0_addCounters_72 (by decide) ?_
        refine lv_istore (lv' := [(6, .int ((adC fc gc (flLeast fc fg sz rm) (flLeast gc gg hz hr2) i) i)), (5, .int ((flSure (adC fc gc (flLeast fc fg sz rm) (flLeast gc gg hz hr2) i) (adS fc fs gc gs (flLeast fc fg sz rm) (flLeast gc gg hz hr2) i) i) + (flSure gc gs i))), (4, .int (nI i)), (3, .int (flLeast gc gg hz hr2)), (2, .int (flLeast fc fg sz rm)), (0, .ref xo), (1, .ref zo)]) hx hb dX0_addCounters_76 hl (by decide) rfl (fun ls hl => ?_)
        refine lv_aload_n hx hb dX0_addCounters_78 rfl (lv_at hl 6 rfl) ?_
        refine va_get (D := D) (ci := 0) (v := .ref zc) (C := RX0) (T := TX0) (N := 6) hx hb hts iX0 hown hC.1 hP 4 rfl rfl 0 (by decide) (hts (.fieldLink RX0 9 "ParrotCounts$FirstList" "counts" "[I") (List.mem_of_getElem? (i := 1) rfl)) (fun _ h => h) rfl dX0_addCounters_79 ?_
        refine lv_iload hx hb dX0_addCounters_82 (lv_at hl 2 rfl) ?_
        refine k_iald hx hb hC.1 hP 5 0 rfl rfl (by omega) dX0_addCounters_84 ?_
        refine lv_if_le (tgt := 98) hx hb dX0_addCounters_85 (by decide) (fun c85 => ?_) (fun c85 => ?_)
        · refine lv_iload_n hx hb dX0_addCounters_98 rfl (lv_at hl 3 rfl) ?_
          refine lv_istore (lv' := [(7, .int (flLeast gc gg hz hr2)), (6, .int ((adC fc gc (flLeast fc fg sz rm) (flLeast gc gg hz hr2) i) i)), (5, .int ((flSure (adC fc gc (flLeast fc fg sz rm) (flLeast gc gg hz hr2) i) (adS fc fs gc gs (flLeast fc fg sz rm) (flLeast gc gg hz hr2) i) i) + (flSure gc gs i))), (4, .int (nI i)), (3, .int (flLeast gc gg hz hr2)), (2, .int (flLeast fc fg sz rm)), (0, .ref xo), (1, .ref zo)]) hx hb dX0_addCounters_99 hl (by decide) rfl (fun ls hl => ?_)
          refine lv_aload_n hx hb dX0_addCounters_101 rfl (lv_at hl 6 rfl) ?_
          refine va_get (D := D) (ci := 0) (v := .ref xc) (C := RX0) (T := TX0) (N := 6) hx hb hts iX0 hown hC.1 hP 0 rfl rfl 0 (by decide) (hts (.fieldLink RX0 9 "ParrotCounts$FirstList" "counts" "[I") (List.mem_of_getElem? (i := 1) rfl)) (fun _ h => h) rfl dX0_addCounters_102 ?_
          refine lv_iload hx hb dX0_addCounters_105 (lv_at hl 3 rfl) ?_
          refine lv_iload hx hb dX0_addCounters_107 (lv_at hl 1 rfl) ?_
          refine lv_iload hx hb dX0_addCounters_109 (lv_at hl 0 rfl) ?_
          refine lv_iadd hx hb dX0_addCounters_111 ?_
          refine k_iast hx hb hC.1 hP hD hS 1 0 rfl rfl (by omega) dX0_addCounters_112 (fun H locs hP hD hS => ?_)
          have hP : va_P D vwCl [oFL xo xc xs xg ch sz rm, aI T xc 26 (upd (adC fc gc (flLeast fc fg sz rm) (flLeast gc gg hz hr2) i) i (((adC fc gc (flLeast fc fg sz rm) (flLeast gc gg hz hr2) i) i) + (flLeast gc gg hz hr2))), aI T xs 26 (adS fc fs gc gs (flLeast fc fg sz rm) (flLeast gc gg hz hr2) i), aI T xg 26 fg, oFL zo zc zs zg hh hz hr2, aI T zc 26 gc, aI T zs 26 gs, aI T zg 26 gg] H := hP
          have hD : va_D A [oFL xo xc xs xg ch sz rm, aI T xc 26 (upd (adC fc gc (flLeast fc fg sz rm) (flLeast gc gg hz hr2) i) i (((adC fc gc (flLeast fc fg sz rm) (flLeast gc gg hz hr2) i) i) + (flLeast gc gg hz hr2))), aI T xs 26 (adS fc fs gc gs (flLeast fc fg sz rm) (flLeast gc gg hz hr2) i), aI T xg 26 fg, oFL zo zc zs zg hh hz hr2, aI T zc 26 gc, aI T zs 26 gs, aI T zg 26 gg] := hD
          refine lv_aload_n hx hb dX0_addCounters_113 rfl (lv_at hl 6 rfl) ?_
          refine va_get (D := D) (ci := 0) (v := .ref xs) (C := RX0) (T := TX0) (N := 6) hx hb hts iX0 hown hC.1 hP 0 rfl rfl 1 (by decide) (hts (.fieldLink RX0 15 "ParrotCounts$FirstList" "surpluses" "[I") (List.mem_of_getElem? (i := 2) rfl)) (fun _ h => h) rfl dX0_addCounters_114 ?_
          refine lv_iload hx hb dX0_addCounters_117 (lv_at hl 3 rfl) ?_
          refine lv_aload_n hx hb dX0_addCounters_119 rfl (lv_at hl 6 rfl) ?_
          refine va_get (D := D) (ci := 0) (v := .ref xc) (C := RX0) (T := TX0) (N := 6) hx hb hts iX0 hown hC.1 hP 0 rfl rfl 0 (by decide) (hts (.fieldLink RX0 9 "ParrotCounts$FirstList" "counts" "[I") (List.mem_of_getElem? (i := 1) rfl)) (fun _ h => h) rfl dX0_addCounters_120 ?_
          refine lv_iload hx hb dX0_addCounters_123 (lv_at hl 3 rfl) ?_
          refine k_iald hx hb hC.1 hP 1 0 rfl rfl (by omega) dX0_addCounters_125 ?_
          refine lv_iload hx hb dX0_addCounters_126 (lv_at hl 2 rfl) ?_
          refine lv_isub hx hb dX0_addCounters_128 ?_
          refine k_iast hx hb hC.1 hP hD hS 2 0 rfl rfl (by omega) dX0_addCounters_129 (fun H locs hP hD hS => ?_)
          have hP : va_P D vwCl [oFL xo xc xs xg ch sz rm, aI T xc 26 (upd (adC fc gc (flLeast fc fg sz rm) (flLeast gc gg hz hr2) i) i (((adC fc gc (flLeast fc fg sz rm) (flLeast gc gg hz hr2) i) i) + (flLeast gc gg hz hr2))), aI T xs 26 (upd (adS fc fs gc gs (flLeast fc fg sz rm) (flLeast gc gg hz hr2) i) i (((upd (adC fc gc (flLeast fc fg sz rm) (flLeast gc gg hz hr2) i) i (((adC fc gc (flLeast fc fg sz rm) (flLeast gc gg hz hr2) i) i) + (flLeast gc gg hz hr2))) i) - ((flSure (adC fc gc (flLeast fc fg sz rm) (flLeast gc gg hz hr2) i) (adS fc fs gc gs (flLeast fc fg sz rm) (flLeast gc gg hz hr2) i) i) + (flSure gc gs i)))), aI T xg 26 fg, oFL zo zc zs zg hh hz hr2, aI T zc 26 gc, aI T zs 26 gs, aI T zg 26 gg] H := hP
          have hD : va_D A [oFL xo xc xs xg ch sz rm, aI T xc 26 (upd (adC fc gc (flLeast fc fg sz rm) (flLeast gc gg hz hr2) i) i (((adC fc gc (flLeast fc fg sz rm) (flLeast gc gg hz hr2) i) i) + (flLeast gc gg hz hr2))), aI T xs 26 (upd (adS fc fs gc gs (flLeast fc fg sz rm) (flLeast gc gg hz hr2) i) i (((upd (adC fc gc (flLeast fc fg sz rm) (flLeast gc gg hz hr2) i) i (((adC fc gc (flLeast fc fg sz rm) (flLeast gc gg hz hr2) i) i) + (flLeast gc gg hz hr2))) i) - ((flSure (adC fc gc (flLeast fc fg sz rm) (flLeast gc gg hz hr2) i) (adS fc fs gc gs (flLeast fc fg sz rm) (flLeast gc gg hz hr2) i) i) + (flSure gc gs i)))), aI T xg 26 fg, oFL zo zc zs zg hh hz hr2, aI T zc 26 gc, aI T zs 26 gs, aI T zg 26 gg] := hD
          refine lv_iinc (v := nI (i + 1)) (lv' := [(4, .int (nI (i + 1))), (7, .int (flLeast gc gg hz hr2)), (6, .int ((adC fc gc (flLeast fc fg sz rm) (flLeast gc gg hz hr2) i) i)), (5, .int ((flSure (adC fc gc (flLeast fc fg sz rm) (flLeast gc gg hz hr2) i) (adS fc fs gc gs (flLeast fc fg sz rm) (flLeast gc gg hz hr2) i) i) + (flSure gc gs i))), (3, .int (flLeast gc gg hz hr2)), (2, .int (flLeast fc fg sz rm)), (0, .ref xo), (1, .ref zo)]) hx hb dX0_addCounters_130 hl (k := 3) rfl (nI_1 i) (by decide) rfl (fun ls hl => ?_)
          refine lv_goto (tgt := 13) hx hb dX0_addCounters_133 (by decide) ?_
          have e_1 : upd (adC fc gc (flLeast fc fg sz rm) (flLeast gc gg hz hr2) i) i (((adC fc gc (flLeast fc fg sz rm) (flLeast gc gg hz hr2) i) i) + (flLeast gc gg hz hr2)) = adC fc gc (flLeast fc fg sz rm) (flLeast gc gg hz hr2) (i + 1) := by first | with_reducible rfl | (simp [adC, adS, pk_us, c27, c85]; done)
          have e_2 : upd (adS fc fs gc gs (flLeast fc fg sz rm) (flLeast gc gg hz hr2) i) i (((upd (adC fc gc (flLeast fc fg sz rm) (flLeast gc gg hz hr2) i) i (((adC fc gc (flLeast fc fg sz rm) (flLeast gc gg hz hr2) i) i) + (flLeast gc gg hz hr2))) i) - ((flSure (adC fc gc (flLeast fc fg sz rm) (flLeast gc gg hz hr2) i) (adS fc fs gc gs (flLeast fc fg sz rm) (flLeast gc gg hz hr2) i) i) + (flSure gc gs i))) = adS fc fs gc gs (flLeast fc fg sz rm) (flLeast gc gg hz hr2) (i + 1) := by first | with_reducible rfl | (simp [adC, adS, pk_us, c27, c85]; done)
          have eW := (congrArg (fun zZ => ([oFL xo xc xs xg ch sz rm, aI T xc 26 zZ, aI T xs 26 (upd (adS fc fs gc gs (flLeast fc fg sz rm) (flLeast gc gg hz hr2) i) i (((upd (adC fc gc (flLeast fc fg sz rm) (flLeast gc gg hz hr2) i) i (((adC fc gc (flLeast fc fg sz rm) (flLeast gc gg hz hr2) i) i) + (flLeast gc gg hz hr2))) i) - ((flSure (adC fc gc (flLeast fc fg sz rm) (flLeast gc gg hz hr2) i) (adS fc fs gc gs (flLeast fc fg sz rm) (flLeast gc gg hz hr2) i) i) + (flSure gc gs i)))), aI T xg 26 fg, oFL zo zc zs zg hh hz hr2, aI T zc 26 gc, aI T zs 26 gs, aI T zg 26 gg] : va_W)) e_1).trans (congrArg (fun zZ => ([oFL xo xc xs xg ch sz rm, aI T xc 26 (adC fc gc (flLeast fc fg sz rm) (flLeast gc gg hz hr2) (i + 1)), aI T xs 26 zZ, aI T xg 26 fg, oFL zo zc zs zg hh hz hr2, aI T zc 26 gc, aI T zs 26 gs, aI T zg 26 gg] : va_W)) e_2)
          have hP : va_P D vwCl [oFL xo xc xs xg ch sz rm, aI T xc 26 (adC fc gc (flLeast fc fg sz rm) (flLeast gc gg hz hr2) (i + 1)), aI T xs 26 (adS fc fs gc gs (flLeast fc fg sz rm) (flLeast gc gg hz hr2) (i + 1)), aI T xg 26 fg, oFL zo zc zs zg hh hz hr2, aI T zc 26 gc, aI T zs 26 gs, aI T zg 26 gg] _ := Eq.subst (motive := fun w => va_P D vwCl w _) eW hP
          have hD : va_D A [oFL xo xc xs xg ch sz rm, aI T xc 26 (adC fc gc (flLeast fc fg sz rm) (flLeast gc gg hz hr2) (i + 1)), aI T xs 26 (adS fc fs gc gs (flLeast fc fg sz rm) (flLeast gc gg hz hr2) (i + 1)), aI T xg 26 fg, oFL zo zc zs zg hh hz hr2, aI T zc 26 gc, aI T zs 26 gs, aI T zg 26 gg] := Eq.subst (motive := fun w => va_D A w) eW hD
          have hl : lv_has ls 8 [(4, .int (nI (i + 1))), (3, .int (flLeast gc gg hz hr2)), (2, .int (flLeast fc fg sz rm)), (0, .ref xo), (1, .ref zo)] := lv_sub hl [0, 4, 5, 6, 7] (by rfl)
          exact ih (i + 1) (by omega)  _ _ _ hP hD hS hl
        · refine lv_aload_n hx hb dX0_addCounters_88 rfl (lv_at hl 6 rfl) ?_
          refine va_get (D := D) (ci := 0) (v := .ref zc) (C := RX0) (T := TX0) (N := 6) hx hb hts iX0 hown hC.1 hP 4 rfl rfl 0 (by decide) (hts (.fieldLink RX0 9 "ParrotCounts$FirstList" "counts" "[I") (List.mem_of_getElem? (i := 1) rfl)) (fun _ h => h) rfl dX0_addCounters_89 ?_
          refine lv_iload hx hb dX0_addCounters_92 (lv_at hl 2 rfl) ?_
          refine k_iald hx hb hC.1 hP 5 0 rfl rfl (by omega) dX0_addCounters_94 ?_
          refine lv_goto (tgt := 99) hx hb dX0_addCounters_95 (by decide) ?_
          refine lv_istore (lv' := [(7, .int (gc i)), (6, .int ((adC fc gc (flLeast fc fg sz rm) (flLeast gc gg hz hr2) i) i)), (5, .int ((flSure (adC fc gc (flLeast fc fg sz rm) (flLeast gc gg hz hr2) i) (adS fc fs gc gs (flLeast fc fg sz rm) (flLeast gc gg hz hr2) i) i) + (flSure gc gs i))), (4, .int (nI i)), (3, .int (flLeast gc gg hz hr2)), (2, .int (flLeast fc fg sz rm)), (0, .ref xo), (1, .ref zo)]) hx hb dX0_addCounters_99 hl (by decide) rfl (fun ls hl => ?_)
          refine lv_aload_n hx hb dX0_addCounters_101 rfl (lv_at hl 6 rfl) ?_
          refine va_get (D := D) (ci := 0) (v := .ref xc) (C := RX0) (T := TX0) (N := 6) hx hb hts iX0 hown hC.1 hP 0 rfl rfl 0 (by decide) (hts (.fieldLink RX0 9 "ParrotCounts$FirstList" "counts" "[I") (List.mem_of_getElem? (i := 1) rfl)) (fun _ h => h) rfl dX0_addCounters_102 ?_
          refine lv_iload hx hb dX0_addCounters_105 (lv_at hl 3 rfl) ?_
          refine lv_iload hx hb dX0_addCounters_107 (lv_at hl 1 rfl) ?_
          refine lv_iload hx hb dX0_addCounters_109 (lv_at hl 0 rfl) ?_
          refine lv_iadd hx hb dX0_addCounters_111 ?_
          refine k_iast hx hb hC.1 hP hD hS 1 0 rfl rfl (by omega) dX0_addCounters_112 (fun H locs hP hD hS => ?_)
          have hP : va_P D vwCl [oFL xo xc xs xg ch sz rm, aI T xc 26 (upd (adC fc gc (flLeast fc fg sz rm) (flLeast gc gg hz hr2) i) i (((adC fc gc (flLeast fc fg sz rm) (flLeast gc gg hz hr2) i) i) + (gc i))), aI T xs 26 (adS fc fs gc gs (flLeast fc fg sz rm) (flLeast gc gg hz hr2) i), aI T xg 26 fg, oFL zo zc zs zg hh hz hr2, aI T zc 26 gc, aI T zs 26 gs, aI T zg 26 gg] H := hP
          have hD : va_D A [oFL xo xc xs xg ch sz rm, aI T xc 26 (upd (adC fc gc (flLeast fc fg sz rm) (flLeast gc gg hz hr2) i) i (((adC fc gc (flLeast fc fg sz rm) (flLeast gc gg hz hr2) i) i) + (gc i))), aI T xs 26 (adS fc fs gc gs (flLeast fc fg sz rm) (flLeast gc gg hz hr2) i), aI T xg 26 fg, oFL zo zc zs zg hh hz hr2, aI T zc 26 gc, aI T zs 26 gs, aI T zg 26 gg] := hD
          refine lv_aload_n hx hb dX0_addCounters_113 rfl (lv_at hl 6 rfl) ?_
          refine va_get (D := D) (ci := 0) (v := .ref xs) (C := RX0) (T := TX0) (N := 6) hx hb hts iX0 hown hC.1 hP 0 rfl rfl 1 (by decide) (hts (.fieldLink RX0 15 "ParrotCounts$FirstList" "surpluses" "[I") (List.mem_of_getElem? (i := 2) rfl)) (fun _ h => h) rfl dX0_addCounters_114 ?_
          refine lv_iload hx hb dX0_addCounters_117 (lv_at hl 3 rfl) ?_
          refine lv_aload_n hx hb dX0_addCounters_119 rfl (lv_at hl 6 rfl) ?_
          refine va_get (D := D) (ci := 0) (v := .ref xc) (C := RX0) (T := TX0) (N := 6) hx hb hts iX0 hown hC.1 hP 0 rfl rfl 0 (by decide) (hts (.fieldLink RX0 9 "ParrotCounts$FirstList" "counts" "[I") (List.mem_of_getElem? (i := 1) rfl)) (fun _ h => h) rfl dX0_addCounters_120 ?_
          refine lv_iload hx hb dX0_addCounters_123 (lv_at hl 3 rfl) ?_
          refine k_iald hx hb hC.1 hP 1 0 rfl rfl (by omega) dX0_addCounters_125 ?_
          refine lv_iload hx hb dX0_addCounters_126 (lv_at hl 2 rfl) ?_
          refine lv_isub hx hb dX0_addCounters_128 ?_
          refine k_iast hx hb hC.1 hP hD hS 2 0 rfl rfl (by omega) dX0_addCounters_129 (fun H locs hP hD hS => ?_)
          have hP : va_P D vwCl [oFL xo xc xs xg ch sz rm, aI T xc 26 (upd (adC fc gc (flLeast fc fg sz rm) (flLeast gc gg hz hr2) i) i (((adC fc gc (flLeast fc fg sz rm) (flLeast gc gg hz hr2) i) i) + (gc i))), aI T xs 26 (upd (adS fc fs gc gs (flLeast fc fg sz rm) (flLeast gc gg hz hr2) i) i (((upd (adC fc gc (flLeast fc fg sz rm) (flLeast gc gg hz hr2) i) i (((adC fc gc (flLeast fc fg sz rm) (flLeast gc gg hz hr2) i) i) + (gc i))) i) - ((flSure (adC fc gc (flLeast fc fg sz rm) (flLeast gc gg hz hr2) i) (adS fc fs gc gs (flLeast fc fg sz rm) (flLeast gc gg hz hr2) i) i) + (flSure gc gs i)))), aI T xg 26 fg, oFL zo zc zs zg hh hz hr2, aI T zc 26 gc, aI T zs 26 gs, aI T zg 26 gg] H := hP
          have hD : va_D A [oFL xo xc xs xg ch sz rm, aI T xc 26 (upd (adC fc gc (flLeast fc fg sz rm) (flLeast gc gg hz hr2) i) i (((adC fc gc (flLeast fc fg sz rm) (flLeast gc gg hz hr2) i) i) + (gc i))), aI T xs 26 (upd (adS fc fs gc gs (flLeast fc fg sz rm) (flLeast gc gg hz hr2) i) i (((upd (adC fc gc (flLeast fc fg sz rm) (flLeast gc gg hz hr2) i) i (((adC fc gc (flLeast fc fg sz rm) (flLeast gc gg hz hr2) i) i) + (gc i))) i) - ((flSure (adC fc gc (flLeast fc fg sz rm) (flLeast gc gg hz hr2) i) (adS fc fs gc gs (flLeast fc fg sz rm) (flLeast gc gg hz hr2) i) i) + (flSure gc gs i)))), aI T xg 26 fg, oFL zo zc zs zg hh hz hr2, aI T zc 26 gc, aI T zs 26 gs, aI T zg 26 gg] := hD
          refine lv_iinc (v := nI (i + 1)) (lv' := [(4, .int (nI (i + 1))), (7, .int (gc i)), (6, .int ((adC fc gc (flLeast fc fg sz rm) (flLeast gc gg hz hr2) i) i)), (5, .int ((flSure (adC fc gc (flLeast fc fg sz rm) (flLeast gc gg hz hr2) i) (adS fc fs gc gs (flLeast fc fg sz rm) (flLeast gc gg hz hr2) i) i) + (flSure gc gs i))), (3, .int (flLeast gc gg hz hr2)), (2, .int (flLeast fc fg sz rm)), (0, .ref xo), (1, .ref zo)]) hx hb dX0_addCounters_130 hl (k := 3) rfl (nI_1 i) (by decide) rfl (fun ls hl => ?_)
          refine lv_goto (tgt := 13) hx hb dX0_addCounters_133 (by decide) ?_
          have e_3 : upd (adC fc gc (flLeast fc fg sz rm) (flLeast gc gg hz hr2) i) i (((adC fc gc (flLeast fc fg sz rm) (flLeast gc gg hz hr2) i) i) + (gc i)) = adC fc gc (flLeast fc fg sz rm) (flLeast gc gg hz hr2) (i + 1) := by first | with_reducible rfl | (simp [adC, adS, pk_us, c27, c85]; done)
          have e_4 : upd (adS fc fs gc gs (flLeast fc fg sz rm) (flLeast gc gg hz hr2) i) i (((upd (adC fc gc (flLeast fc fg sz rm) (flLeast gc gg hz hr2) i) i (((adC fc gc (flLeast fc fg sz rm) (flLeast gc gg hz hr2) i) i) + (gc i))) i) - ((flSure (adC fc gc (flLeast fc fg sz rm) (flLeast gc gg hz hr2) i) (adS fc fs gc gs (flLeast fc fg sz rm) (flLeast gc gg hz hr2) i) i) + (flSure gc gs i))) = adS fc fs gc gs (flLeast fc fg sz rm) (flLeast gc gg hz hr2) (i + 1) := by first | with_reducible rfl | (simp [adC, adS, pk_us, c27, c85]; done)
          have eW := (congrArg (fun zZ => ([oFL xo xc xs xg ch sz rm, aI T xc 26 zZ, aI T xs 26 (upd (adS fc fs gc gs (flLeast fc fg sz rm) (flLeast gc gg hz hr2) i) i (((upd (adC fc gc (flLeast fc fg sz rm) (flLeast gc gg hz hr2) i) i (((adC fc gc (flLeast fc fg sz rm) (flLeast gc gg hz hr2) i) i) + (gc i))) i) - ((flSure (adC fc gc (flLeast fc fg sz rm) (flLeast gc gg hz hr2) i) (adS fc fs gc gs (flLeast fc fg sz rm) (flLeast gc gg hz hr2) i) i) + (flSure gc gs i)))), aI T xg 26 fg, oFL zo zc zs zg hh hz hr2, aI T zc 26 gc, aI T zs 26 gs, aI T zg 26 gg] : va_W)) e_3).trans (congrArg (fun zZ => ([oFL xo xc xs xg ch sz rm, aI T xc 26 (adC fc gc (flLeast fc fg sz rm) (flLeast gc gg hz hr2) (i + 1)), aI T xs 26 zZ, aI T xg 26 fg, oFL zo zc zs zg hh hz hr2, aI T zc 26 gc, aI T zs 26 gs, aI T zg 26 gg] : va_W)) e_4)
          have hP : va_P D vwCl [oFL xo xc xs xg ch sz rm, aI T xc 26 (adC fc gc (flLeast fc fg sz rm) (flLeast gc gg hz hr2) (i + 1)), aI T xs 26 (adS fc fs gc gs (flLeast fc fg sz rm) (flLeast gc gg hz hr2) (i + 1)), aI T xg 26 fg, oFL zo zc zs zg hh hz hr2, aI T zc 26 gc, aI T zs 26 gs, aI T zg 26 gg] _ := Eq.subst (motive := fun w => va_P D vwCl w _) eW hP
          have hD : va_D A [oFL xo xc xs xg ch sz rm, aI T xc 26 (adC fc gc (flLeast fc fg sz rm) (flLeast gc gg hz hr2) (i + 1)), aI T xs 26 (adS fc fs gc gs (flLeast fc fg sz rm) (flLeast gc gg hz hr2) (i + 1)), aI T xg 26 fg, oFL zo zc zs zg hh hz hr2, aI T zc 26 gc, aI T zs 26 gs, aI T zg 26 gg] := Eq.subst (motive := fun w => va_D A w) eW hD
          have hl : lv_has ls 8 [(4, .int (nI (i + 1))), (3, .int (flLeast gc gg hz hr2)), (2, .int (flLeast fc fg sz rm)), (0, .ref xo), (1, .ref zo)] := lv_sub hl [0, 4, 5, 6, 7] (by rfl)
          exact ih (i + 1) (by omega)  _ _ _ hP hD hS hl
      · have c27 := Int32.not_lt.mp c27
        refine lv_aload_n hx hb dX0_addCounters_30 rfl (lv_at hl 4 rfl) ?_
        refine va_get (D := D) (ci := 0) (v := .ref zc) (C := RX0) (T := TX0) (N := 6) hx hb hts iX0 hown hC.1 hP 4 rfl rfl 0 (by decide) (hts (.fieldLink RX0 9 "ParrotCounts$FirstList" "counts" "[I") (List.mem_of_getElem? (i := 1) rfl)) (fun _ h => h) rfl dX0_addCounters_31 ?_
        refine lv_iload hx hb dX0_addCounters_34 (lv_at hl 0 rfl) ?_
        refine k_iald hx hb hC.1 hP 5 0 rfl rfl (by omega) dX0_addCounters_36 ?_
        refine lv_if_le (tgt := 130) hx hb dX0_addCounters_37 (by decide) (fun c37 => ?_) (fun c37 => ?_)
        · refine lv_iinc (v := nI (i + 1)) (lv' := [(4, .int (nI (i + 1))), (3, .int (flLeast gc gg hz hr2)), (2, .int (flLeast fc fg sz rm)), (0, .ref xo), (1, .ref zo)]) hx hb dX0_addCounters_130 hl (k := 0) rfl (nI_1 i) (by decide) rfl (fun ls hl => ?_)
          refine lv_goto (tgt := 13) hx hb dX0_addCounters_133 (by decide) ?_
          have e_5 : adC fc gc (flLeast fc fg sz rm) (flLeast gc gg hz hr2) i = adC fc gc (flLeast fc fg sz rm) (flLeast gc gg hz hr2) (i + 1) := by first | with_reducible rfl | (simp [adC, adS, pk_us, c27, c37]; done)
          have e_6 : adS fc fs gc gs (flLeast fc fg sz rm) (flLeast gc gg hz hr2) i = adS fc fs gc gs (flLeast fc fg sz rm) (flLeast gc gg hz hr2) (i + 1) := by first | with_reducible rfl | (simp [adC, adS, pk_us, c27, c37]; done)
          have eW := (congrArg (fun zZ => ([oFL xo xc xs xg ch sz rm, aI T xc 26 zZ, aI T xs 26 (adS fc fs gc gs (flLeast fc fg sz rm) (flLeast gc gg hz hr2) i), aI T xg 26 fg, oFL zo zc zs zg hh hz hr2, aI T zc 26 gc, aI T zs 26 gs, aI T zg 26 gg] : va_W)) e_5).trans (congrArg (fun zZ => ([oFL xo xc xs xg ch sz rm, aI T xc 26 (adC fc gc (flLeast fc fg sz rm) (flLeast gc gg hz hr2) (i + 1)), aI T xs 26 zZ, aI T xg 26 fg, oFL zo zc zs zg hh hz hr2, aI T zc 26 gc, aI T zs 26 gs, aI T zg 26 gg] : va_W)) e_6)
          have hP : va_P D vwCl [oFL xo xc xs xg ch sz rm, aI T xc 26 (adC fc gc (flLeast fc fg sz rm) (flLeast gc gg hz hr2) (i + 1)), aI T xs 26 (adS fc fs gc gs (flLeast fc fg sz rm) (flLeast gc gg hz hr2) (i + 1)), aI T xg 26 fg, oFL zo zc zs zg hh hz hr2, aI T zc 26 gc, aI T zs 26 gs, aI T zg 26 gg] _ := Eq.subst (motive := fun w => va_P D vwCl w _) eW hP
          have hD : va_D A [oFL xo xc xs xg ch sz rm, aI T xc 26 (adC fc gc (flLeast fc fg sz rm) (flLeast gc gg hz hr2) (i + 1)), aI T xs 26 (adS fc fs gc gs (flLeast fc fg sz rm) (flLeast gc gg hz hr2) (i + 1)), aI T xg 26 fg, oFL zo zc zs zg hh hz hr2, aI T zc 26 gc, aI T zs 26 gs, aI T zg 26 gg] := Eq.subst (motive := fun w => va_D A w) eW hD
          have hl : lv_has ls 8 [(4, .int (nI (i + 1))), (3, .int (flLeast gc gg hz hr2)), (2, .int (flLeast fc fg sz rm)), (0, .ref xo), (1, .ref zo)] := lv_sub hl [0, 1, 2, 3, 4] (by rfl)
          exact ih (i + 1) (by omega)  _ _ _ hP hD hS hl
        · refine lv_aload_n hx hb dX0_addCounters_40 rfl (lv_at hl 3 rfl) ?_
          refine lv_iload hx hb dX0_addCounters_41 (lv_at hl 0 rfl) ?_
          have hP := hP.sub (ws' := [oFL xo xc xs xg ch sz rm, aI T xc 26 (adC fc gc (flLeast fc fg sz rm) (flLeast gc gg hz hr2) i), aI T xs 26 (adS fc fs gc gs (flLeast fc fg sz rm) (flLeast gc gg hz hr2) i), aI T xg 26 fg] ++ [oFL zo zc zs zg hh hz hr2, aI T zc 26 gc, aI T zs 26 gs, aI T zg 26 gg]) [0, 1, 2, 3, 4, 5, 6, 7] rfl
          have hD := hD.sub (ws' := [oFL xo xc xs xg ch sz rm, aI T xc 26 (adC fc gc (flLeast fc fg sz rm) (flLeast gc gg hz hr2) i), aI T xs 26 (adS fc fs gc gs (flLeast fc fg sz rm) (flLeast gc gg hz hr2) i), aI T xg 26 fg] ++ [oFL zo zc zs zg hh hz hr2, aI T zc 26 gc, aI T zs 26 gs, aI T zg 26 gg]) [0, 1, 2, 3, 4, 5, 6, 7] (by decide) rfl
          refine kV (ci := 0) (As := [.int (nI i)]) (rest := []) ⟨hx, hb, hml, hown, hts⟩ (c_X0_sureOf l D T xo xc xs xg (adC fc gc (flLeast fc fg sz rm) (flLeast gc gg hz hr2) i) (adS fc fs gc gs (flLeast fc fg sz rm) (flLeast gc gg hz hr2) i) fg ch sz rm i (by first | omega | assumption)) (cwV 1 hts gX0_addCounters_X0_sureOf rfl rfl rfl (by decide +kernel) ⟨Nat.le_of_ble_eq_true rfl, Nat.le_of_ble_eq_true rfl⟩) hC hP hD hS hA rfl rfl rfl hl.1 rfl (Nat.le_of_ble_eq_true rfl) dX0_addCounters_43 ⟨Nat.zero_le _, Nat.zero_le _⟩ (fun H locs hP hD hS => ?_)
          have hP : va_P D vwCl [oFL xo xc xs xg ch sz rm, aI T xc 26 (adC fc gc (flLeast fc fg sz rm) (flLeast gc gg hz hr2) i), aI T xs 26 (adS fc fs gc gs (flLeast fc fg sz rm) (flLeast gc gg hz hr2) i), aI T xg 26 fg, oFL zo zc zs zg hh hz hr2, aI T zc 26 gc, aI T zs 26 gs, aI T zg 26 gg] H := hP
          have hD : va_D A [oFL xo xc xs xg ch sz rm, aI T xc 26 (adC fc gc (flLeast fc fg sz rm) (flLeast gc gg hz hr2) i), aI T xs 26 (adS fc fs gc gs (flLeast fc fg sz rm) (flLeast gc gg hz hr2) i), aI T xg 26 fg, oFL zo zc zs zg hh hz hr2, aI T zc 26 gc, aI T zs 26 gs, aI T zg 26 gg] := hD
          refine W.eq (g2 := F0 m 46 ls [.int (flSure (adC fc gc (flLeast fc fg sz rm) (flLeast gc gg hz hr2) i) (adS fc fs gc gs (flLeast fc fg sz rm) (flLeast gc gg hz hr2) i) i)]) rfl ?_
          refine lv_aload_n hx hb dX0_addCounters_46 rfl (lv_at hl 4 rfl) ?_
          refine lv_iload hx hb dX0_addCounters_47 (lv_at hl 0 rfl) ?_
          have hP := hP.sub (ws' := [oFL zo zc zs zg hh hz hr2, aI T zc 26 gc, aI T zs 26 gs, aI T zg 26 gg] ++ [oFL xo xc xs xg ch sz rm, aI T xc 26 (adC fc gc (flLeast fc fg sz rm) (flLeast gc gg hz hr2) i), aI T xs 26 (adS fc fs gc gs (flLeast fc fg sz rm) (flLeast gc gg hz hr2) i), aI T xg 26 fg]) [4, 5, 6, 7, 0, 1, 2, 3] rfl
          have hD := hD.sub (ws' := [oFL zo zc zs zg hh hz hr2, aI T zc 26 gc, aI T zs 26 gs, aI T zg 26 gg] ++ [oFL xo xc xs xg ch sz rm, aI T xc 26 (adC fc gc (flLeast fc fg sz rm) (flLeast gc gg hz hr2) i), aI T xs 26 (adS fc fs gc gs (flLeast fc fg sz rm) (flLeast gc gg hz hr2) i), aI T xg 26 fg]) [4, 5, 6, 7, 0, 1, 2, 3] (by decide) rfl
          refine kV (ci := 0) (As := [.int (nI i)]) (rest := [.int (flSure (adC fc gc (flLeast fc fg sz rm) (flLeast gc gg hz hr2) i) (adS fc fs gc gs (flLeast fc fg sz rm) (flLeast gc gg hz hr2) i) i)]) ⟨hx, hb, hml, hown, hts⟩ (c_X0_sureOf l D T zo zc zs zg gc gs gg hh hz hr2 i (by first | omega | assumption)) (cwV 1 hts gX0_addCounters_X0_sureOf rfl rfl rfl (by decide +kernel) ⟨Nat.le_of_ble_eq_true rfl, Nat.le_of_ble_eq_true rfl⟩) hC hP hD hS hA rfl rfl rfl hl.1 rfl (Nat.le_of_ble_eq_true rfl) dX0_addCounters_49 ⟨Nat.zero_le _, Nat.zero_le _⟩ (fun H locs hP hD hS => ?_)
          have hP := hP.sub (ws' := [oFL xo xc xs xg ch sz rm, aI T xc 26 (adC fc gc (flLeast fc fg sz rm) (flLeast gc gg hz hr2) i), aI T xs 26 (adS fc fs gc gs (flLeast fc fg sz rm) (flLeast gc gg hz hr2) i), aI T xg 26 fg, oFL zo zc zs zg hh hz hr2, aI T zc 26 gc, aI T zs 26 gs, aI T zg 26 gg]) [4, 5, 6, 7, 0, 1, 2, 3] rfl
          have hD := hD.sub (ws' := [oFL xo xc xs xg ch sz rm, aI T xc 26 (adC fc gc (flLeast fc fg sz rm) (flLeast gc gg hz hr2) i), aI T xs 26 (adS fc fs gc gs (flLeast fc fg sz rm) (flLeast gc gg hz hr2) i), aI T xg 26 fg, oFL zo zc zs zg hh hz hr2, aI T zc 26 gc, aI T zs 26 gs, aI T zg 26 gg]) [4, 5, 6, 7, 0, 1, 2, 3] (by decide) rfl
          refine W.eq (g2 := F0 m 52 ls [.int (flSure gc gs i), .int (flSure (adC fc gc (flLeast fc fg sz rm) (flLeast gc gg hz hr2) i) (adS fc fs gc gs (flLeast fc fg sz rm) (flLeast gc gg hz hr2) i) i)]) rfl ?_
          refine lv_iadd hx hb dX0_addCounters_52 ?_
          refine lv_istore (lv' := [(5, .int ((flSure (adC fc gc (flLeast fc fg sz rm) (flLeast gc gg hz hr2) i) (adS fc fs gc gs (flLeast fc fg sz rm) (flLeast gc gg hz hr2) i) i) + (flSure gc gs i))), (4, .int (nI i)), (3, .int (flLeast gc gg hz hr2)), (2, .int (flLeast fc fg sz rm)), (0, .ref xo), (1, .ref zo)]) hx hb dX0_addCounters_53 hl (by decide) rfl (fun ls hl => ?_)
          refine lv_aload_n hx hb dX0_addCounters_55 rfl (lv_at hl 4 rfl) ?_
          refine va_get (D := D) (ci := 0) (v := .ref xc) (C := RX0) (T := TX0) (N := 6) hx hb hts iX0 hown hC.1 hP 0 rfl rfl 0 (by decide) (hts (.fieldLink RX0 9 "ParrotCounts$FirstList" "counts" "[I") (List.mem_of_getElem? (i := 1) rfl)) (fun _ h => h) rfl dX0_addCounters_56 ?_
          refine lv_iload hx hb dX0_addCounters_59 (lv_at hl 1 rfl) ?_
          refine k_iald hx hb hC.1 hP 1 0 rfl rfl (by omega) dX0_addCounters_61 ?_
          refine lv_if_le (tgt := 75) hx hb dX0_addCounters_62 (by decide) (fun _ => ?_) (fun c_x => absurd c27 c_x)
          refine lv_iload_n hx hb dX0_addCounters_75 rfl (lv_at hl 3 rfl) ?_
          refine lv_istore (lv' := [(6, .int (flLeast fc fg sz rm)), (5, .int ((flSure (adC fc gc (flLeast fc fg sz rm) (flLeast gc gg hz hr2) i) (adS fc fs gc gs (flLeast fc fg sz rm) (flLeast gc gg hz hr2) i) i) + (flSure gc gs i))), (4, .int (nI i)), (3, .int (flLeast gc gg hz hr2)), (2, .int (flLeast fc fg sz rm)), (0, .ref xo), (1, .ref zo)]) hx hb dX0_addCounters_76 hl (by decide) rfl (fun ls hl => ?_)
          refine lv_aload_n hx hb dX0_addCounters_78 rfl (lv_at hl 6 rfl) ?_
          refine va_get (D := D) (ci := 0) (v := .ref zc) (C := RX0) (T := TX0) (N := 6) hx hb hts iX0 hown hC.1 hP 4 rfl rfl 0 (by decide) (hts (.fieldLink RX0 9 "ParrotCounts$FirstList" "counts" "[I") (List.mem_of_getElem? (i := 1) rfl)) (fun _ h => h) rfl dX0_addCounters_79 ?_
          refine lv_iload hx hb dX0_addCounters_82 (lv_at hl 2 rfl) ?_
          refine k_iald hx hb hC.1 hP 5 0 rfl rfl (by omega) dX0_addCounters_84 ?_
          refine lv_if_le (tgt := 98) hx hb dX0_addCounters_85 (by decide) (fun c_x => absurd c_x c37) (fun _ => ?_)
          refine lv_aload_n hx hb dX0_addCounters_88 rfl (lv_at hl 6 rfl) ?_
          refine va_get (D := D) (ci := 0) (v := .ref zc) (C := RX0) (T := TX0) (N := 6) hx hb hts iX0 hown hC.1 hP 4 rfl rfl 0 (by decide) (hts (.fieldLink RX0 9 "ParrotCounts$FirstList" "counts" "[I") (List.mem_of_getElem? (i := 1) rfl)) (fun _ h => h) rfl dX0_addCounters_89 ?_
          refine lv_iload hx hb dX0_addCounters_92 (lv_at hl 2 rfl) ?_
          refine k_iald hx hb hC.1 hP 5 0 rfl rfl (by omega) dX0_addCounters_94 ?_
          refine lv_goto (tgt := 99) hx hb dX0_addCounters_95 (by decide) ?_
          refine lv_istore (lv' := [(7, .int (gc i)), (6, .int (flLeast fc fg sz rm)), (5, .int ((flSure (adC fc gc (flLeast fc fg sz rm) (flLeast gc gg hz hr2) i) (adS fc fs gc gs (flLeast fc fg sz rm) (flLeast gc gg hz hr2) i) i) + (flSure gc gs i))), (4, .int (nI i)), (3, .int (flLeast gc gg hz hr2)), (2, .int (flLeast fc fg sz rm)), (0, .ref xo), (1, .ref zo)]) hx hb dX0_addCounters_99 hl (by decide) rfl (fun ls hl => ?_)
          refine lv_aload_n hx hb dX0_addCounters_101 rfl (lv_at hl 6 rfl) ?_
          refine va_get (D := D) (ci := 0) (v := .ref xc) (C := RX0) (T := TX0) (N := 6) hx hb hts iX0 hown hC.1 hP 0 rfl rfl 0 (by decide) (hts (.fieldLink RX0 9 "ParrotCounts$FirstList" "counts" "[I") (List.mem_of_getElem? (i := 1) rfl)) (fun _ h => h) rfl dX0_addCounters_102 ?_
          refine lv_iload hx hb dX0_addCounters_105 (lv_at hl 3 rfl) ?_
          refine lv_iload hx hb dX0_addCounters_107 (lv_at hl 1 rfl) ?_
          refine lv_iload hx hb dX0_addCounters_109 (lv_at hl 0 rfl) ?_
          refine lv_iadd hx hb dX0_addCounters_111 ?_
          refine k_iast hx hb hC.1 hP hD hS 1 0 rfl rfl (by omega) dX0_addCounters_112 (fun H locs hP hD hS => ?_)
          have hP : va_P D vwCl [oFL xo xc xs xg ch sz rm, aI T xc 26 (upd (adC fc gc (flLeast fc fg sz rm) (flLeast gc gg hz hr2) i) i ((flLeast fc fg sz rm) + (gc i))), aI T xs 26 (adS fc fs gc gs (flLeast fc fg sz rm) (flLeast gc gg hz hr2) i), aI T xg 26 fg, oFL zo zc zs zg hh hz hr2, aI T zc 26 gc, aI T zs 26 gs, aI T zg 26 gg] H := hP
          have hD : va_D A [oFL xo xc xs xg ch sz rm, aI T xc 26 (upd (adC fc gc (flLeast fc fg sz rm) (flLeast gc gg hz hr2) i) i ((flLeast fc fg sz rm) + (gc i))), aI T xs 26 (adS fc fs gc gs (flLeast fc fg sz rm) (flLeast gc gg hz hr2) i), aI T xg 26 fg, oFL zo zc zs zg hh hz hr2, aI T zc 26 gc, aI T zs 26 gs, aI T zg 26 gg] := hD
          refine lv_aload_n hx hb dX0_addCounters_113 rfl (lv_at hl 6 rfl) ?_
          refine va_get (D := D) (ci := 0) (v := .ref xs) (C := RX0) (T := TX0) (N := 6) hx hb hts iX0 hown hC.1 hP 0 rfl rfl 1 (by decide) (hts (.fieldLink RX0 15 "ParrotCounts$FirstList" "surpluses" "[I") (List.mem_of_getElem? (i := 2) rfl)) (fun _ h => h) rfl dX0_addCounters_114 ?_
          refine lv_iload hx hb dX0_addCounters_117 (lv_at hl 3 rfl) ?_
          refine lv_aload_n hx hb dX0_addCounters_119 rfl (lv_at hl 6 rfl) ?_
          refine va_get (D := D) (ci := 0) (v := .ref xc) (C := RX0) (T := TX0) (N := 6) hx hb hts iX0 hown hC.1 hP 0 rfl rfl 0 (by decide) (hts (.fieldLink RX0 9 "ParrotCounts$FirstList" "counts" "[I") (List.mem_of_getElem? (i := 1) rfl)) (fun _ h => h) rfl dX0_addCounters_120 ?_
          refine lv_iload hx hb dX0_addCounters_123 (lv_at hl 3 rfl) ?_
          refine k_iald hx hb hC.1 hP 1 0 rfl rfl (by omega) dX0_addCounters_125 ?_
          refine lv_iload hx hb dX0_addCounters_126 (lv_at hl 2 rfl) ?_
          refine lv_isub hx hb dX0_addCounters_128 ?_
          refine k_iast hx hb hC.1 hP hD hS 2 0 rfl rfl (by omega) dX0_addCounters_129 (fun H locs hP hD hS => ?_)
          have hP : va_P D vwCl [oFL xo xc xs xg ch sz rm, aI T xc 26 (upd (adC fc gc (flLeast fc fg sz rm) (flLeast gc gg hz hr2) i) i ((flLeast fc fg sz rm) + (gc i))), aI T xs 26 (upd (adS fc fs gc gs (flLeast fc fg sz rm) (flLeast gc gg hz hr2) i) i (((upd (adC fc gc (flLeast fc fg sz rm) (flLeast gc gg hz hr2) i) i ((flLeast fc fg sz rm) + (gc i))) i) - ((flSure (adC fc gc (flLeast fc fg sz rm) (flLeast gc gg hz hr2) i) (adS fc fs gc gs (flLeast fc fg sz rm) (flLeast gc gg hz hr2) i) i) + (flSure gc gs i)))), aI T xg 26 fg, oFL zo zc zs zg hh hz hr2, aI T zc 26 gc, aI T zs 26 gs, aI T zg 26 gg] H := hP
          have hD : va_D A [oFL xo xc xs xg ch sz rm, aI T xc 26 (upd (adC fc gc (flLeast fc fg sz rm) (flLeast gc gg hz hr2) i) i ((flLeast fc fg sz rm) + (gc i))), aI T xs 26 (upd (adS fc fs gc gs (flLeast fc fg sz rm) (flLeast gc gg hz hr2) i) i (((upd (adC fc gc (flLeast fc fg sz rm) (flLeast gc gg hz hr2) i) i ((flLeast fc fg sz rm) + (gc i))) i) - ((flSure (adC fc gc (flLeast fc fg sz rm) (flLeast gc gg hz hr2) i) (adS fc fs gc gs (flLeast fc fg sz rm) (flLeast gc gg hz hr2) i) i) + (flSure gc gs i)))), aI T xg 26 fg, oFL zo zc zs zg hh hz hr2, aI T zc 26 gc, aI T zs 26 gs, aI T zg 26 gg] := hD
          refine lv_iinc (v := nI (i + 1)) (lv' := [(4, .int (nI (i + 1))), (7, .int (gc i)), (6, .int (flLeast fc fg sz rm)), (5, .int ((flSure (adC fc gc (flLeast fc fg sz rm) (flLeast gc gg hz hr2) i) (adS fc fs gc gs (flLeast fc fg sz rm) (flLeast gc gg hz hr2) i) i) + (flSure gc gs i))), (3, .int (flLeast gc gg hz hr2)), (2, .int (flLeast fc fg sz rm)), (0, .ref xo), (1, .ref zo)]) hx hb dX0_addCounters_130 hl (k := 3) rfl (nI_1 i) (by decide) rfl (fun ls hl => ?_)
          refine lv_goto (tgt := 13) hx hb dX0_addCounters_133 (by decide) ?_
          have e_7 : upd (adC fc gc (flLeast fc fg sz rm) (flLeast gc gg hz hr2) i) i ((flLeast fc fg sz rm) + (gc i)) = adC fc gc (flLeast fc fg sz rm) (flLeast gc gg hz hr2) (i + 1) := by first | with_reducible rfl | (simp [adC, adS, pk_us, c27, c37]; done)
          have e_8 : upd (adS fc fs gc gs (flLeast fc fg sz rm) (flLeast gc gg hz hr2) i) i (((upd (adC fc gc (flLeast fc fg sz rm) (flLeast gc gg hz hr2) i) i ((flLeast fc fg sz rm) + (gc i))) i) - ((flSure (adC fc gc (flLeast fc fg sz rm) (flLeast gc gg hz hr2) i) (adS fc fs gc gs (flLeast fc fg sz rm) (flLeast gc gg hz hr2) i) i) + (flSure gc gs i))) = adS fc fs gc gs (flLeast fc fg sz rm) (flLeast gc gg hz hr2) (i + 1) := by first | with_reducible rfl | (simp [adC, adS, pk_us, c27, c37]; done)
          have eW := (congrArg (fun zZ => ([oFL xo xc xs xg ch sz rm, aI T xc 26 zZ, aI T xs 26 (upd (adS fc fs gc gs (flLeast fc fg sz rm) (flLeast gc gg hz hr2) i) i (((upd (adC fc gc (flLeast fc fg sz rm) (flLeast gc gg hz hr2) i) i ((flLeast fc fg sz rm) + (gc i))) i) - ((flSure (adC fc gc (flLeast fc fg sz rm) (flLeast gc gg hz hr2) i) (adS fc fs gc gs (flLeast fc fg sz rm) (flLeast gc gg hz hr2) i) i) + (flSure gc gs i)))), aI T xg 26 fg, oFL zo zc zs zg hh hz hr2, aI T zc 26 gc, aI T zs 26 gs, aI T zg 26 gg] : va_W)) e_7).trans (congrArg (fun zZ => ([oFL xo xc xs xg ch sz rm, aI T xc 26 (adC fc gc (flLeast fc fg sz rm) (flLeast gc gg hz hr2) (i + 1)), aI T xs 26 zZ, aI T xg 26 fg, oFL zo zc zs zg hh hz hr2, aI T zc 26 gc, aI T zs 26 gs, aI T zg 26 gg] : va_W)) e_8)
          have hP : va_P D vwCl [oFL xo xc xs xg ch sz rm, aI T xc 26 (adC fc gc (flLeast fc fg sz rm) (flLeast gc gg hz hr2) (i + 1)), aI T xs 26 (adS fc fs gc gs (flLeast fc fg sz rm) (flLeast gc gg hz hr2) (i + 1)), aI T xg 26 fg, oFL zo zc zs zg hh hz hr2, aI T zc 26 gc, aI T zs 26 gs, aI T zg 26 gg] _ := Eq.subst (motive := fun w => va_P D vwCl w _) eW hP
          have hD : va_D A [oFL xo xc xs xg ch sz rm, aI T xc 26 (adC fc gc (flLeast fc fg sz rm) (flLeast gc gg hz hr2) (i + 1)), aI T xs 26 (adS fc fs gc gs (flLeast fc fg sz rm) (flLeast gc gg hz hr2) (i + 1)), aI T xg 26 fg, oFL zo zc zs zg hh hz hr2, aI T zc 26 gc, aI T zs 26 gs, aI T zg 26 gg] := Eq.subst (motive := fun w => va_D A w) eW hD
          have hl : lv_has ls 8 [(4, .int (nI (i + 1))), (3, .int (flLeast gc gg hz hr2)), (2, .int (flLeast fc fg sz rm)), (0, .ref xo), (1, .ref zo)] := lv_sub hl [0, 4, 5, 6, 7] (by rfl)
          exact ih (i + 1) (by omega)  _ _ _ hP hD hS hl
  have hl : lv_has ls 8 [(0, .ref xo), (1, .ref zo)] := hl
  have hP : va_P D vwCl [oFL xo xc xs xg ch sz rm, aI T xc 26 fc, aI T xs 26 fs, aI T xg 26 fg, oFL zo zc zs zg hh hz hr2, aI T zc 26 gc, aI T zs 26 gs, aI T zg 26 gg] s.heap := hP
  have hD : va_D A [oFL xo xc xs xg ch sz rm, aI T xc 26 fc, aI T xs 26 fs, aI T xg 26 fg, oFL zo zc zs zg hh hz hr2, aI T zc 26 gc, aI T zs 26 gs, aI T zg 26 gg] := hD
  refine lv_aload_n hx hb dX0_addCounters_0 rfl (lv_at hl 0 rfl) ?_
  have hP := hP.sub (ws' := [oFL xo xc xs xg ch sz rm, aI T xc 26 fc, aI T xs 26 fs, aI T xg 26 fg] ++ [oFL zo zc zs zg hh hz hr2, aI T zc 26 gc, aI T zs 26 gs, aI T zg 26 gg]) [0, 1, 2, 3, 4, 5, 6, 7] rfl
  have hD := hD.sub (ws' := [oFL xo xc xs xg ch sz rm, aI T xc 26 fc, aI T xs 26 fs, aI T xg 26 fg] ++ [oFL zo zc zs zg hh hz hr2, aI T zc 26 gc, aI T zs 26 gs, aI T zg 26 gg]) [0, 1, 2, 3, 4, 5, 6, 7] (by decide) rfl
  refine kV (ci := 0) (As := []) (rest := []) ⟨hx, hb, hml, hown, hts⟩ (c_X0_leastCount l D T xo xc xs xg fc fs fg ch sz rm ) (cwV 0 hts gX0_addCounters_X0_leastCount rfl rfl rfl (by decide +kernel) ⟨Nat.le_of_ble_eq_true rfl, Nat.le_of_ble_eq_true rfl⟩) hC hP hD hS hA rfl rfl rfl hl.1 rfl (Nat.le_of_ble_eq_true rfl) dX0_addCounters_1 ⟨Nat.zero_le _, Nat.zero_le _⟩ (fun H locs hP hD hS => ?_)
  have hP : va_P D vwCl [oFL xo xc xs xg ch sz rm, aI T xc 26 fc, aI T xs 26 fs, aI T xg 26 fg, oFL zo zc zs zg hh hz hr2, aI T zc 26 gc, aI T zs 26 gs, aI T zg 26 gg] H := hP
  have hD : va_D A [oFL xo xc xs xg ch sz rm, aI T xc 26 fc, aI T xs 26 fs, aI T xg 26 fg, oFL zo zc zs zg hh hz hr2, aI T zc 26 gc, aI T zs 26 gs, aI T zg 26 gg] := hD
  refine W.eq (g2 := F0 m 4 ls [.int (flLeast fc fg sz rm)]) rfl ?_
  refine lv_istore_n (lv' := [(2, .int (flLeast fc fg sz rm)), (0, .ref xo), (1, .ref zo)]) hx hb dX0_addCounters_4 rfl hl (by decide) rfl (fun ls hl => ?_)
  refine lv_aload_n hx hb dX0_addCounters_5 rfl (lv_at hl 2 rfl) ?_
  have hP := hP.sub (ws' := [oFL zo zc zs zg hh hz hr2, aI T zc 26 gc, aI T zs 26 gs, aI T zg 26 gg] ++ [oFL xo xc xs xg ch sz rm, aI T xc 26 fc, aI T xs 26 fs, aI T xg 26 fg]) [4, 5, 6, 7, 0, 1, 2, 3] rfl
  have hD := hD.sub (ws' := [oFL zo zc zs zg hh hz hr2, aI T zc 26 gc, aI T zs 26 gs, aI T zg 26 gg] ++ [oFL xo xc xs xg ch sz rm, aI T xc 26 fc, aI T xs 26 fs, aI T xg 26 fg]) [4, 5, 6, 7, 0, 1, 2, 3] (by decide) rfl
  refine kV (ci := 0) (As := []) (rest := []) ⟨hx, hb, hml, hown, hts⟩ (c_X0_leastCount l D T zo zc zs zg gc gs gg hh hz hr2 ) (cwV 0 hts gX0_addCounters_X0_leastCount rfl rfl rfl (by decide +kernel) ⟨Nat.le_of_ble_eq_true rfl, Nat.le_of_ble_eq_true rfl⟩) hC hP hD hS hA rfl rfl rfl hl.1 rfl (Nat.le_of_ble_eq_true rfl) dX0_addCounters_6 ⟨Nat.zero_le _, Nat.zero_le _⟩ (fun H locs hP hD hS => ?_)
  have hP := hP.sub (ws' := [oFL xo xc xs xg ch sz rm, aI T xc 26 fc, aI T xs 26 fs, aI T xg 26 fg, oFL zo zc zs zg hh hz hr2, aI T zc 26 gc, aI T zs 26 gs, aI T zg 26 gg]) [4, 5, 6, 7, 0, 1, 2, 3] rfl
  have hD := hD.sub (ws' := [oFL xo xc xs xg ch sz rm, aI T xc 26 fc, aI T xs 26 fs, aI T xg 26 fg, oFL zo zc zs zg hh hz hr2, aI T zc 26 gc, aI T zs 26 gs, aI T zg 26 gg]) [4, 5, 6, 7, 0, 1, 2, 3] (by decide) rfl
  refine W.eq (g2 := F0 m 9 ls [.int (flLeast gc gg hz hr2)]) rfl ?_
  refine lv_istore_n (lv' := [(3, .int (flLeast gc gg hz hr2)), (2, .int (flLeast fc fg sz rm)), (0, .ref xo), (1, .ref zo)]) hx hb dX0_addCounters_9 rfl hl (by decide) rfl (fun ls hl => ?_)
  refine lv_iconst (v := 0) hx hb dX0_addCounters_10 (by decide) ?_
  refine lv_istore (lv' := [(4, .int 0), (3, .int (flLeast gc gg hz hr2)), (2, .int (flLeast fc fg sz rm)), (0, .ref xo), (1, .ref zo)]) hx hb dX0_addCounters_11 hl (by decide) rfl (fun ls hl => ?_)
  have e_9 : fc = adC fc gc (flLeast fc fg sz rm) (flLeast gc gg hz hr2) 0 := rfl
  have e_10 : fs = adS fc fs gc gs (flLeast fc fg sz rm) (flLeast gc gg hz hr2) 0 := rfl
  have eW := (congrArg (fun zZ => ([oFL xo xc xs xg ch sz rm, aI T xc 26 zZ, aI T xs 26 fs, aI T xg 26 fg, oFL zo zc zs zg hh hz hr2, aI T zc 26 gc, aI T zs 26 gs, aI T zg 26 gg] : va_W)) e_9).trans (congrArg (fun zZ => ([oFL xo xc xs xg ch sz rm, aI T xc 26 (adC fc gc (flLeast fc fg sz rm) (flLeast gc gg hz hr2) 0), aI T xs 26 zZ, aI T xg 26 fg, oFL zo zc zs zg hh hz hr2, aI T zc 26 gc, aI T zs 26 gs, aI T zg 26 gg] : va_W)) e_10)
  have hP : va_P D vwCl [oFL xo xc xs xg ch sz rm, aI T xc 26 (adC fc gc (flLeast fc fg sz rm) (flLeast gc gg hz hr2) 0), aI T xs 26 (adS fc fs gc gs (flLeast fc fg sz rm) (flLeast gc gg hz hr2) 0), aI T xg 26 fg, oFL zo zc zs zg hh hz hr2, aI T zc 26 gc, aI T zs 26 gs, aI T zg 26 gg] _ := Eq.subst (motive := fun w => va_P D vwCl w _) eW hP
  have hD : va_D A [oFL xo xc xs xg ch sz rm, aI T xc 26 (adC fc gc (flLeast fc fg sz rm) (flLeast gc gg hz hr2) 0), aI T xs 26 (adS fc fs gc gs (flLeast fc fg sz rm) (flLeast gc gg hz hr2) 0), aI T xg 26 fg, oFL zo zc zs zg hh hz hr2, aI T zc 26 gc, aI T zs 26 gs, aI T zg 26 gg] := Eq.subst (motive := fun w => va_D A w) eW hD
  have e_11 : (0 : Int32) = nI 0 := rfl
  have hl : lv_has ls 8 [(4, .int (nI 0)), (3, .int (flLeast gc gg hz hr2)), (2, .int (flLeast fc fg sz rm)), (0, .ref xo), (1, .ref zo)] := lv_sub hl [0, 1, 2, 3, 4] (by show (_ : List (Nat × Value)) = [(4, .int (nI 0)), (3, .int (flLeast gc gg hz hr2)), (2, .int (flLeast fc fg sz rm)), (0, .ref xo), (1, .ref zo)]; rw [← e_11]; rfl)
  exact loop_13 26 0 (by omega)  _ _ _ hP hD hS hl
abbrev rX8_countersIn : Room := { frames := 0, cells := 0, slots := 0, locals := 0 }
set_option maxHeartbeats 4000000 in
set_option maxRecDepth 100000 in
theorem c_X8_countersIn (l : Launch) (D : va_G) (T : Nat → ClassId) (xa : Nat) (fa : Nat → Int32) : kM l D T yX8_countersIn wsX8_countersIn rX8_countersIn [.ref xa] [aI T xa 26 fa] (some (.int (nI (cntN fa 26)))) [aI T xa 26 fa] := by
  refine kM.of (cc := cX8_countersIn) (maxL := 6) (ret := some .int) (by decide) rfl (Nat.le_of_ble_eq_true rfl) ?_
  intro p e s m below meth c A Q ls hx hb hml hown hr hlk hts hC hP hD hS hA hl hret
  have loop_10 : ∀ (n i : Nat), i + n = 26 → ∀ (H : Heap) (locs : List Loc) (ls : Array Slot), va_P D vwCl [aI T xa 26 fa] H → va_D A [aI T xa 26 fa] → va_S A s.heap H locs → lv_has ls 6 [(4, .int (nI i)), (1, .int (nI (cntN fa i))), (3, .int 26), (2, .ref xa), (0, .ref xa)] → W p l e rX8_countersIn s m [.ref xa].toArray below meth c H locs 0 0 Q (F0 m 10 ls []) := by
    intro n
    induction n with
    | zero =>
      intro i hi  H locs ls hP hD hS hl
      have hi9 : 26 = i := by omega
      subst hi9
      refine lv_iload hx hb dX8_countersIn_10 (lv_at hl 0 rfl) ?_
      refine lv_iload_n hx hb dX8_countersIn_12 rfl (lv_at hl 2 rfl) ?_
      refine lv_icmp_ge (tgt := 36) hx hb dX8_countersIn_13 (by decide) (fun _ => ?_) (fun c_x => absurd (by decide : (26 : Int32) ≤ nI 26) c_x)
      refine lv_iload_n hx hb dX8_countersIn_36 rfl (lv_at hl 1 rfl) ?_
      exact hret _ _ _ _ _ (fun Qc free hq hf => W.iret hx hb hr hq hf dX8_countersIn_37 hlk) hP hD hS
    | succ n ih =>
      intro i hi  H locs ls hP hD hS hl
      have hlt : i < 26 := by omega
      refine lv_iload hx hb dX8_countersIn_10 (lv_at hl 0 rfl) ?_
      refine lv_iload_n hx hb dX8_countersIn_12 rfl (lv_at hl 2 rfl) ?_
      refine lv_icmp_ge (tgt := 36) hx hb dX8_countersIn_13 (by decide) (fun c_x => absurd c_x (nI_ge (b := 26) hlt (by decide))) (fun _ => ?_)
      refine lv_aload_n hx hb dX8_countersIn_16 rfl (lv_at hl 3 rfl) ?_
      refine lv_iload hx hb dX8_countersIn_17 (lv_at hl 0 rfl) ?_
      refine k_iald hx hb hC.1 hP 0 0 rfl rfl (by omega) dX8_countersIn_19 ?_
      refine lv_istore (lv' := [(5, .int (fa i)), (4, .int (nI i)), (1, .int (nI (cntN fa i))), (3, .int 26), (2, .ref xa), (0, .ref xa)]) hx hb dX8_countersIn_20 hl (by decide) rfl (fun ls hl => ?_)
      refine lv_iload hx hb dX8_countersIn_22 (lv_at hl 0 rfl) ?_
      refine lv_if_le (tgt := 30) hx hb dX8_countersIn_24 (by decide) (fun c24 => ?_) (fun c24 => ?_)
      · refine lv_iinc (v := nI (i + 1)) (lv' := [(4, .int (nI (i + 1))), (5, .int (fa i)), (1, .int (nI (cntN fa i))), (3, .int 26), (2, .ref xa), (0, .ref xa)]) hx hb dX8_countersIn_30 hl (k := 1) rfl (nI_1 i) (by decide) rfl (fun ls hl => ?_)
        refine lv_goto (tgt := 10) hx hb dX8_countersIn_33 (by decide) ?_
        have e_1 : (nI (cntN fa i) : Int32) = nI (cntN fa (i + 1)) := by first | with_reducible rfl | (simp [cntN, c24]; done)
        have hl : lv_has ls 6 [(4, .int (nI (i + 1))), (1, .int (nI (cntN fa (i + 1)))), (3, .int 26), (2, .ref xa), (0, .ref xa)] := lv_sub hl [0, 2, 3, 4, 5] (by show (_ : List (Nat × Value)) = [(4, .int (nI (i + 1))), (1, .int (nI (cntN fa (i + 1)))), (3, .int 26), (2, .ref xa), (0, .ref xa)]; rw [← e_1]; rfl)
        exact ih (i + 1) (by omega)  _ _ _ hP hD hS hl
      · refine lv_iinc (v := nI ((cntN fa i) + 1)) (lv' := [(1, .int (nI ((cntN fa i) + 1))), (5, .int (fa i)), (4, .int (nI i)), (3, .int 26), (2, .ref xa), (0, .ref xa)]) hx hb dX8_countersIn_27 hl (k := 2) rfl (nI_1 (cntN fa i)) (by decide) rfl (fun ls hl => ?_)
        refine lv_iinc (v := nI (i + 1)) (lv' := [(4, .int (nI (i + 1))), (1, .int (nI ((cntN fa i) + 1))), (5, .int (fa i)), (3, .int 26), (2, .ref xa), (0, .ref xa)]) hx hb dX8_countersIn_30 hl (k := 2) rfl (nI_1 i) (by decide) rfl (fun ls hl => ?_)
        refine lv_goto (tgt := 10) hx hb dX8_countersIn_33 (by decide) ?_
        have e_2 : (nI ((cntN fa i) + 1) : Int32) = nI (cntN fa (i + 1)) := by first | with_reducible rfl | (simp [cntN, c24]; done)
        have hl : lv_has ls 6 [(4, .int (nI (i + 1))), (1, .int (nI (cntN fa (i + 1)))), (3, .int 26), (2, .ref xa), (0, .ref xa)] := lv_sub hl [0, 1, 3, 4, 5] (by show (_ : List (Nat × Value)) = [(4, .int (nI (i + 1))), (1, .int (nI (cntN fa (i + 1)))), (3, .int 26), (2, .ref xa), (0, .ref xa)]; rw [← e_2]; rfl)
        exact ih (i + 1) (by omega)  _ _ _ hP hD hS hl
  have hl : lv_has ls 6 [(0, .ref xa)] := hl
  have hP : va_P D vwCl [aI T xa 26 fa] s.heap := hP
  have hD : va_D A [aI T xa 26 fa] := hD
  refine lv_iconst (v := 0) hx hb dX8_countersIn_0 (by decide) ?_
  refine lv_istore_n (lv' := [(1, .int 0), (0, .ref xa)]) hx hb dX8_countersIn_1 rfl hl (by decide) rfl (fun ls hl => ?_)
  refine lv_aload_n hx hb dX8_countersIn_2 rfl (lv_at hl 1 rfl) ?_
  refine lv_astore_n (lv' := [(2, .ref xa), (1, .int 0), (0, .ref xa)]) hx hb dX8_countersIn_3 rfl hl (by decide) rfl (fun ls hl => ?_)
  refine lv_aload_n hx hb dX8_countersIn_4 rfl (lv_at hl 0 rfl) ?_
  refine va_alen (v := 26) hx hb hC.1 hP 0 0 rfl rfl rfl dX8_countersIn_5 ?_
  refine lv_istore_n (lv' := [(3, .int 26), (2, .ref xa), (1, .int 0), (0, .ref xa)]) hx hb dX8_countersIn_6 rfl hl (by decide) rfl (fun ls hl => ?_)
  refine lv_iconst (v := 0) hx hb dX8_countersIn_7 (by decide) ?_
  refine lv_istore (lv' := [(4, .int 0), (3, .int 26), (2, .ref xa), (1, .int 0), (0, .ref xa)]) hx hb dX8_countersIn_8 hl (by decide) rfl (fun ls hl => ?_)
  have e_3 : (0 : Int32) = nI 0 := rfl
  have e_4 : (0 : Int32) = nI (cntN fa 0) := rfl
  have hl : lv_has ls 6 [(4, .int (nI 0)), (1, .int (nI (cntN fa 0))), (3, .int 26), (2, .ref xa), (0, .ref xa)] := lv_sub hl [0, 3, 1, 2, 4] (by show (_ : List (Nat × Value)) = [(4, .int (nI 0)), (1, .int (nI (cntN fa 0))), (3, .int 26), (2, .ref xa), (0, .ref xa)]; rw [← e_3, ← e_4]; rfl)
  exact loop_10 26 0 (by omega)  _ _ _ hP hD hS hl
abbrev rX8_sumOf : Room := { frames := 0, cells := 0, slots := 0, locals := 0 }
set_option maxHeartbeats 4000000 in
set_option maxRecDepth 100000 in
theorem c_X8_sumOf (l : Launch) (D : va_G) (T : Nat → ClassId) (xa : Nat) (fa : Nat → Int32) : kM l D T yX8_sumOf wsX8_sumOf rX8_sumOf [.ref xa] [aI T xa 26 fa] (some (.int (smN fa 26))) [aI T xa 26 fa] := by
  refine kM.of (cc := cX8_sumOf) (maxL := 6) (ret := some .int) (by decide) rfl (Nat.le_of_ble_eq_true rfl) ?_
  intro p e s m below meth c A Q ls hx hb hml hown hr hlk hts hC hP hD hS hA hl hret
  have loop_10 : ∀ (n i : Nat), i + n = 26 → ∀ (H : Heap) (locs : List Loc) (ls : Array Slot), va_P D vwCl [aI T xa 26 fa] H → va_D A [aI T xa 26 fa] → va_S A s.heap H locs → lv_has ls 6 [(4, .int (nI i)), (1, .int (smN fa i)), (3, .int 26), (2, .ref xa), (0, .ref xa)] → W p l e rX8_sumOf s m [.ref xa].toArray below meth c H locs 0 0 Q (F0 m 10 ls []) := by
    intro n
    induction n with
    | zero =>
      intro i hi  H locs ls hP hD hS hl
      have hi9 : 26 = i := by omega
      subst hi9
      refine lv_iload hx hb dX8_sumOf_10 (lv_at hl 0 rfl) ?_
      refine lv_iload_n hx hb dX8_sumOf_12 rfl (lv_at hl 2 rfl) ?_
      refine lv_icmp_ge (tgt := 33) hx hb dX8_sumOf_13 (by decide) (fun _ => ?_) (fun c_x => absurd (by decide : (26 : Int32) ≤ nI 26) c_x)
      refine lv_iload_n hx hb dX8_sumOf_33 rfl (lv_at hl 1 rfl) ?_
      exact hret _ _ _ _ _ (fun Qc free hq hf => W.iret hx hb hr hq hf dX8_sumOf_34 hlk) hP hD hS
    | succ n ih =>
      intro i hi  H locs ls hP hD hS hl
      have hlt : i < 26 := by omega
      refine lv_iload hx hb dX8_sumOf_10 (lv_at hl 0 rfl) ?_
      refine lv_iload_n hx hb dX8_sumOf_12 rfl (lv_at hl 2 rfl) ?_
      refine lv_icmp_ge (tgt := 33) hx hb dX8_sumOf_13 (by decide) (fun c_x => absurd c_x (nI_ge (b := 26) hlt (by decide))) (fun _ => ?_)
      refine lv_aload_n hx hb dX8_sumOf_16 rfl (lv_at hl 3 rfl) ?_
      refine lv_iload hx hb dX8_sumOf_17 (lv_at hl 0 rfl) ?_
      refine k_iald hx hb hC.1 hP 0 0 rfl rfl (by omega) dX8_sumOf_19 ?_
      refine lv_istore (lv' := [(5, .int (fa i)), (4, .int (nI i)), (1, .int (smN fa i)), (3, .int 26), (2, .ref xa), (0, .ref xa)]) hx hb dX8_sumOf_20 hl (by decide) rfl (fun ls hl => ?_)
      refine lv_iload_n hx hb dX8_sumOf_22 rfl (lv_at hl 2 rfl) ?_
      refine lv_iload hx hb dX8_sumOf_23 (lv_at hl 0 rfl) ?_
      refine lv_iadd hx hb dX8_sumOf_25 ?_
      refine lv_istore_n (lv' := [(1, .int ((smN fa i) + (fa i))), (5, .int (fa i)), (4, .int (nI i)), (3, .int 26), (2, .ref xa), (0, .ref xa)]) hx hb dX8_sumOf_26 rfl hl (by decide) rfl (fun ls hl => ?_)
      refine lv_iinc (v := nI (i + 1)) (lv' := [(4, .int (nI (i + 1))), (1, .int ((smN fa i) + (fa i))), (5, .int (fa i)), (3, .int 26), (2, .ref xa), (0, .ref xa)]) hx hb dX8_sumOf_27 hl (k := 2) rfl (nI_1 i) (by decide) rfl (fun ls hl => ?_)
      refine lv_goto (tgt := 10) hx hb dX8_sumOf_30 (by decide) ?_
      have e_1 : ((smN fa i) + (fa i) : Int32) = smN fa (i + 1) := by first | with_reducible rfl | (simp [smN]; done)
      have hl : lv_has ls 6 [(4, .int (nI (i + 1))), (1, .int (smN fa (i + 1))), (3, .int 26), (2, .ref xa), (0, .ref xa)] := lv_sub hl [0, 1, 3, 4, 5] (by show (_ : List (Nat × Value)) = [(4, .int (nI (i + 1))), (1, .int (smN fa (i + 1))), (3, .int 26), (2, .ref xa), (0, .ref xa)]; rw [← e_1]; rfl)
      exact ih (i + 1) (by omega)  _ _ _ hP hD hS hl
  have hl : lv_has ls 6 [(0, .ref xa)] := hl
  have hP : va_P D vwCl [aI T xa 26 fa] s.heap := hP
  have hD : va_D A [aI T xa 26 fa] := hD
  refine lv_iconst (v := 0) hx hb dX8_sumOf_0 (by decide) ?_
  refine lv_istore_n (lv' := [(1, .int 0), (0, .ref xa)]) hx hb dX8_sumOf_1 rfl hl (by decide) rfl (fun ls hl => ?_)
  refine lv_aload_n hx hb dX8_sumOf_2 rfl (lv_at hl 1 rfl) ?_
  refine lv_astore_n (lv' := [(2, .ref xa), (1, .int 0), (0, .ref xa)]) hx hb dX8_sumOf_3 rfl hl (by decide) rfl (fun ls hl => ?_)
  refine lv_aload_n hx hb dX8_sumOf_4 rfl (lv_at hl 0 rfl) ?_
  refine va_alen (v := 26) hx hb hC.1 hP 0 0 rfl rfl rfl dX8_sumOf_5 ?_
  refine lv_istore_n (lv' := [(3, .int 26), (2, .ref xa), (1, .int 0), (0, .ref xa)]) hx hb dX8_sumOf_6 rfl hl (by decide) rfl (fun ls hl => ?_)
  refine lv_iconst (v := 0) hx hb dX8_sumOf_7 (by decide) ?_
  refine lv_istore (lv' := [(4, .int 0), (3, .int 26), (2, .ref xa), (1, .int 0), (0, .ref xa)]) hx hb dX8_sumOf_8 hl (by decide) rfl (fun ls hl => ?_)
  have e_2 : (0 : Int32) = nI 0 := rfl
  have e_3 : (0 : Int32) = smN fa 0 := rfl
  have hl : lv_has ls 6 [(4, .int (nI 0)), (1, .int (smN fa 0)), (3, .int 26), (2, .ref xa), (0, .ref xa)] := lv_sub hl [0, 3, 1, 2, 4] (by show (_ : List (Nat × Value)) = [(4, .int (nI 0)), (1, .int (smN fa 0)), (3, .int 26), (2, .ref xa), (0, .ref xa)]; rw [← e_2, ← e_3]; rfl)
  exact loop_10 26 0 (by omega)  _ _ _ hP hD hS hl
abbrev rX8_positionOf : Room := { frames := 0, cells := 0, slots := 0, locals := 0 }
set_option maxHeartbeats 4000000 in
set_option maxRecDepth 100000 in
theorem c_X8_positionOf (l : Launch) (D : va_G) (T : Nat → ClassId) (xa : Nat) (fa : Nat → Int32) (pa : Nat) (hp : pa < 26) : kM l D T yX8_positionOf wsX8_positionOf rX8_positionOf [.ref xa, .int (nI pa)] [aI T xa 26 fa] (some (.int (nI (posN fa pa 26)))) [aI T xa 26 fa] := by
  refine kM.of (cc := cX8_positionOf) (maxL := 6) (ret := some .int) (by decide) rfl (Nat.le_of_ble_eq_true rfl) ?_
  intro p e s m below meth c A Q ls hx hb hml hown hr hlk hts hC hP hD hS hA hl hret
  have loop_4 : ∀ (n i : Nat), i + n = 26 → ∀ (H : Heap) (locs : List Loc) (ls : Array Slot), va_P D vwCl [aI T xa 26 fa] H → va_D A [aI T xa 26 fa] → va_S A s.heap H locs → lv_has ls 6 [(3, .int (nI i)), (2, .int (nI (posN fa pa i))), (0, .ref xa), (1, .int (nI pa))] → W p l e rX8_positionOf s m [.ref xa, .int (nI pa)].toArray below meth c H locs 0 0 Q (F0 m 4 ls []) := by
    intro n
    induction n with
    | zero =>
      intro i hi  H locs ls hP hD hS hl
      have hi9 : 26 = i := by omega
      subst hi9
      refine lv_iload_n hx hb dX8_positionOf_4 rfl (lv_at hl 0 rfl) ?_
      refine lv_aload_n hx hb dX8_positionOf_5 rfl (lv_at hl 2 rfl) ?_
      refine va_alen (v := 26) hx hb hC.1 hP 0 0 rfl rfl rfl dX8_positionOf_6 ?_
      refine lv_icmp_ge (tgt := 66) hx hb dX8_positionOf_7 (by decide) (fun _ => ?_) (fun c_x => absurd (by decide : (26 : Int32) ≤ nI 26) c_x)
      refine lv_iload_n hx hb dX8_positionOf_66 rfl (lv_at hl 1 rfl) ?_
      exact hret _ _ _ _ _ (fun Qc free hq hf => W.iret hx hb hr hq hf dX8_positionOf_67 hlk) hP hD hS
    | succ n ih =>
      intro i hi  H locs ls hP hD hS hl
      have hlt : i < 26 := by omega
      refine lv_iload_n hx hb dX8_positionOf_4 rfl (lv_at hl 0 rfl) ?_
      refine lv_aload_n hx hb dX8_positionOf_5 rfl (lv_at hl 2 rfl) ?_
      refine va_alen (v := 26) hx hb hC.1 hP 0 0 rfl rfl rfl dX8_positionOf_6 ?_
      refine lv_icmp_ge (tgt := 66) hx hb dX8_positionOf_7 (by decide) (fun c_x => absurd c_x (nI_ge (b := 26) hlt (by decide))) (fun _ => ?_)
      refine lv_aload_n hx hb dX8_positionOf_10 rfl (lv_at hl 2 rfl) ?_
      refine lv_iload_n hx hb dX8_positionOf_11 rfl (lv_at hl 0 rfl) ?_
      refine k_iald hx hb hC.1 hP 0 0 rfl rfl (by omega) dX8_positionOf_12 ?_
      refine lv_aload_n hx hb dX8_positionOf_13 rfl (lv_at hl 2 rfl) ?_
      refine lv_iload_n hx hb dX8_positionOf_14 rfl (lv_at hl 3 rfl) ?_
      refine k_iald hx hb hC.1 hP 0 0 rfl rfl (by omega) dX8_positionOf_15 ?_
      refine lv_icmp_le (tgt := 23) hx hb dX8_positionOf_16 (by decide) (fun c16 => ?_) (fun c16 => ?_)
      · refine lv_iconst (v := 0) hx hb dX8_positionOf_23 (by decide) ?_
        refine lv_istore (lv' := [(4, .int 0), (3, .int (nI i)), (2, .int (nI (posN fa pa i))), (0, .ref xa), (1, .int (nI pa))]) hx hb dX8_positionOf_24 hl (by decide) rfl (fun ls hl => ?_)
        refine lv_aload_n hx hb dX8_positionOf_26 rfl (lv_at hl 3 rfl) ?_
        refine lv_iload_n hx hb dX8_positionOf_27 rfl (lv_at hl 1 rfl) ?_
        refine k_iald hx hb hC.1 hP 0 0 rfl rfl (by omega) dX8_positionOf_28 ?_
        refine lv_aload_n hx hb dX8_positionOf_29 rfl (lv_at hl 3 rfl) ?_
        refine lv_iload_n hx hb dX8_positionOf_30 rfl (lv_at hl 4 rfl) ?_
        refine k_iald hx hb hC.1 hP 0 0 rfl rfl (by omega) dX8_positionOf_31 ?_
        refine lv_icmp_ne (tgt := 44) hx hb dX8_positionOf_32 (by decide) (fun c32 => ?_) (fun c32 => ?_)
        · refine lv_iconst (v := 0) hx hb dX8_positionOf_44 (by decide) ?_
          refine lv_istore (lv' := [(5, .int 0), (4, .int 0), (3, .int (nI i)), (2, .int (nI (posN fa pa i))), (0, .ref xa), (1, .int (nI pa))]) hx hb dX8_positionOf_45 hl (by decide) rfl (fun ls hl => ?_)
          refine lv_iload hx hb dX8_positionOf_47 (lv_at hl 1 rfl) ?_
          refine lv_if_ne (tgt := 57) hx hb dX8_positionOf_49 (by decide) (fun c_x => absurd (by decide : ((0 : Int32) = 0)) c_x) (fun _ => ?_)
          refine lv_iload hx hb dX8_positionOf_52 (lv_at hl 0 rfl) ?_
          refine lv_if_eq (tgt := 60) hx hb dX8_positionOf_54 (by decide) (fun _ => ?_) (fun c_x => absurd (by decide : ((0 : Int32) = 0)) c_x)
          refine lv_iinc (v := nI (i + 1)) (lv' := [(3, .int (nI (i + 1))), (5, .int 0), (4, .int 0), (2, .int (nI (posN fa pa i))), (0, .ref xa), (1, .int (nI pa))]) hx hb dX8_positionOf_60 hl (k := 2) rfl (nI_1 i) (by decide) rfl (fun ls hl => ?_)
          refine lv_goto (tgt := 4) hx hb dX8_positionOf_63 (by decide) ?_
          have e_1 : (nI (posN fa pa i) : Int32) = nI (posN fa pa (i + 1)) := by first | with_reducible rfl | (simp [posN, c16, c32]; done)
          have hl : lv_has ls 6 [(3, .int (nI (i + 1))), (2, .int (nI (posN fa pa (i + 1)))), (0, .ref xa), (1, .int (nI pa))] := lv_sub hl [0, 3, 4, 5] (by show (_ : List (Nat × Value)) = [(3, .int (nI (i + 1))), (2, .int (nI (posN fa pa (i + 1)))), (0, .ref xa), (1, .int (nI pa))]; rw [← e_1]; rfl)
          exact ih (i + 1) (by omega)  _ _ _ hP hD hS hl
        · refine lv_iload_n hx hb dX8_positionOf_35 rfl (lv_at hl 1 rfl) ?_
          refine lv_iload_n hx hb dX8_positionOf_36 rfl (lv_at hl 4 rfl) ?_
          refine lv_icmp_ge (tgt := 44) hx hb dX8_positionOf_37 (by decide) (fun c37 => ?_) (fun c37 => ?_)
          · refine lv_iconst (v := 0) hx hb dX8_positionOf_44 (by decide) ?_
            refine lv_istore (lv' := [(5, .int 0), (4, .int 0), (3, .int (nI i)), (2, .int (nI (posN fa pa i))), (0, .ref xa), (1, .int (nI pa))]) hx hb dX8_positionOf_45 hl (by decide) rfl (fun ls hl => ?_)
            refine lv_iload hx hb dX8_positionOf_47 (lv_at hl 1 rfl) ?_
            refine lv_if_ne (tgt := 57) hx hb dX8_positionOf_49 (by decide) (fun c_x => absurd (by decide : ((0 : Int32) = 0)) c_x) (fun _ => ?_)
            refine lv_iload hx hb dX8_positionOf_52 (lv_at hl 0 rfl) ?_
            refine lv_if_eq (tgt := 60) hx hb dX8_positionOf_54 (by decide) (fun _ => ?_) (fun c_x => absurd (by decide : ((0 : Int32) = 0)) c_x)
            refine lv_iinc (v := nI (i + 1)) (lv' := [(3, .int (nI (i + 1))), (5, .int 0), (4, .int 0), (2, .int (nI (posN fa pa i))), (0, .ref xa), (1, .int (nI pa))]) hx hb dX8_positionOf_60 hl (k := 2) rfl (nI_1 i) (by decide) rfl (fun ls hl => ?_)
            refine lv_goto (tgt := 4) hx hb dX8_positionOf_63 (by decide) ?_
            have e_2 : (nI (posN fa pa i) : Int32) = nI (posN fa pa (i + 1)) := by first | with_reducible rfl | (simp [posN, c16, eq_true c32, c37]; done)
            have hl : lv_has ls 6 [(3, .int (nI (i + 1))), (2, .int (nI (posN fa pa (i + 1)))), (0, .ref xa), (1, .int (nI pa))] := lv_sub hl [0, 3, 4, 5] (by show (_ : List (Nat × Value)) = [(3, .int (nI (i + 1))), (2, .int (nI (posN fa pa (i + 1)))), (0, .ref xa), (1, .int (nI pa))]; rw [← e_2]; rfl)
            exact ih (i + 1) (by omega)  _ _ _ hP hD hS hl
          · refine lv_iconst (v := 1) hx hb dX8_positionOf_40 (by decide) ?_
            refine lv_goto (tgt := 45) hx hb dX8_positionOf_41 (by decide) ?_
            refine lv_istore (lv' := [(5, .int 1), (4, .int 0), (3, .int (nI i)), (2, .int (nI (posN fa pa i))), (0, .ref xa), (1, .int (nI pa))]) hx hb dX8_positionOf_45 hl (by decide) rfl (fun ls hl => ?_)
            refine lv_iload hx hb dX8_positionOf_47 (lv_at hl 1 rfl) ?_
            refine lv_if_ne (tgt := 57) hx hb dX8_positionOf_49 (by decide) (fun c_x => absurd (by decide : ((0 : Int32) = 0)) c_x) (fun _ => ?_)
            refine lv_iload hx hb dX8_positionOf_52 (lv_at hl 0 rfl) ?_
            refine lv_if_eq (tgt := 60) hx hb dX8_positionOf_54 (by decide) (fun c_x => absurd c_x (by decide : ¬ ((1 : Int32) = 0))) (fun _ => ?_)
            refine lv_iinc (v := nI ((posN fa pa i) + 1)) (lv' := [(2, .int (nI ((posN fa pa i) + 1))), (5, .int 1), (4, .int 0), (3, .int (nI i)), (0, .ref xa), (1, .int (nI pa))]) hx hb dX8_positionOf_57 hl (k := 3) rfl (nI_1 (posN fa pa i)) (by decide) rfl (fun ls hl => ?_)
            refine lv_iinc (v := nI (i + 1)) (lv' := [(3, .int (nI (i + 1))), (2, .int (nI ((posN fa pa i) + 1))), (5, .int 1), (4, .int 0), (0, .ref xa), (1, .int (nI pa))]) hx hb dX8_positionOf_60 hl (k := 3) rfl (nI_1 i) (by decide) rfl (fun ls hl => ?_)
            refine lv_goto (tgt := 4) hx hb dX8_positionOf_63 (by decide) ?_
            have e_3 : (nI ((posN fa pa i) + 1) : Int32) = nI (posN fa pa (i + 1)) := by first | with_reducible rfl | (simp [posN, c16, eq_true c32, c37]; done)
            have hl : lv_has ls 6 [(3, .int (nI (i + 1))), (2, .int (nI (posN fa pa (i + 1)))), (0, .ref xa), (1, .int (nI pa))] := lv_sub hl [0, 1, 4, 5] (by show (_ : List (Nat × Value)) = [(3, .int (nI (i + 1))), (2, .int (nI (posN fa pa (i + 1)))), (0, .ref xa), (1, .int (nI pa))]; rw [← e_3]; rfl)
            exact ih (i + 1) (by omega)  _ _ _ hP hD hS hl
      · refine lv_iconst (v := 1) hx hb dX8_positionOf_19 (by decide) ?_
        refine lv_goto (tgt := 24) hx hb dX8_positionOf_20 (by decide) ?_
        refine lv_istore (lv' := [(4, .int 1), (3, .int (nI i)), (2, .int (nI (posN fa pa i))), (0, .ref xa), (1, .int (nI pa))]) hx hb dX8_positionOf_24 hl (by decide) rfl (fun ls hl => ?_)
        refine lv_aload_n hx hb dX8_positionOf_26 rfl (lv_at hl 3 rfl) ?_
        refine lv_iload_n hx hb dX8_positionOf_27 rfl (lv_at hl 1 rfl) ?_
        refine k_iald hx hb hC.1 hP 0 0 rfl rfl (by omega) dX8_positionOf_28 ?_
        refine lv_aload_n hx hb dX8_positionOf_29 rfl (lv_at hl 3 rfl) ?_
        refine lv_iload_n hx hb dX8_positionOf_30 rfl (lv_at hl 4 rfl) ?_
        refine k_iald hx hb hC.1 hP 0 0 rfl rfl (by omega) dX8_positionOf_31 ?_
        refine lv_icmp_ne (tgt := 44) hx hb dX8_positionOf_32 (by decide) (fun c32 => ?_) (fun c32 => ?_)
        · refine lv_iconst (v := 0) hx hb dX8_positionOf_44 (by decide) ?_
          refine lv_istore (lv' := [(5, .int 0), (4, .int 1), (3, .int (nI i)), (2, .int (nI (posN fa pa i))), (0, .ref xa), (1, .int (nI pa))]) hx hb dX8_positionOf_45 hl (by decide) rfl (fun ls hl => ?_)
          refine lv_iload hx hb dX8_positionOf_47 (lv_at hl 1 rfl) ?_
          refine lv_if_ne (tgt := 57) hx hb dX8_positionOf_49 (by decide) (fun _ => ?_) (fun c_x => absurd c_x (by decide : ¬ ((1 : Int32) = 0)))
          refine lv_iinc (v := nI ((posN fa pa i) + 1)) (lv' := [(2, .int (nI ((posN fa pa i) + 1))), (5, .int 0), (4, .int 1), (3, .int (nI i)), (0, .ref xa), (1, .int (nI pa))]) hx hb dX8_positionOf_57 hl (k := 3) rfl (nI_1 (posN fa pa i)) (by decide) rfl (fun ls hl => ?_)
          refine lv_iinc (v := nI (i + 1)) (lv' := [(3, .int (nI (i + 1))), (2, .int (nI ((posN fa pa i) + 1))), (5, .int 0), (4, .int 1), (0, .ref xa), (1, .int (nI pa))]) hx hb dX8_positionOf_60 hl (k := 3) rfl (nI_1 i) (by decide) rfl (fun ls hl => ?_)
          refine lv_goto (tgt := 4) hx hb dX8_positionOf_63 (by decide) ?_
          have e_4 : (nI ((posN fa pa i) + 1) : Int32) = nI (posN fa pa (i + 1)) := by first | with_reducible rfl | (simp [posN, c16, c32]; done)
          have hl : lv_has ls 6 [(3, .int (nI (i + 1))), (2, .int (nI (posN fa pa (i + 1)))), (0, .ref xa), (1, .int (nI pa))] := lv_sub hl [0, 1, 4, 5] (by show (_ : List (Nat × Value)) = [(3, .int (nI (i + 1))), (2, .int (nI (posN fa pa (i + 1)))), (0, .ref xa), (1, .int (nI pa))]; rw [← e_4]; rfl)
          exact ih (i + 1) (by omega)  _ _ _ hP hD hS hl
        · exact absurd (by rw [c32]; exact Int32.le_refl _ : (fa i) ≤ (fa pa)) c16
  have hl : lv_has ls 6 [(0, .ref xa), (1, .int (nI pa))] := hl
  have hP : va_P D vwCl [aI T xa 26 fa] s.heap := hP
  have hD : va_D A [aI T xa 26 fa] := hD
  refine lv_iconst (v := 0) hx hb dX8_positionOf_0 (by decide) ?_
  refine lv_istore_n (lv' := [(2, .int 0), (0, .ref xa), (1, .int (nI pa))]) hx hb dX8_positionOf_1 rfl hl (by decide) rfl (fun ls hl => ?_)
  refine lv_iconst (v := 0) hx hb dX8_positionOf_2 (by decide) ?_
  refine lv_istore_n (lv' := [(3, .int 0), (2, .int 0), (0, .ref xa), (1, .int (nI pa))]) hx hb dX8_positionOf_3 rfl hl (by decide) rfl (fun ls hl => ?_)
  have e_5 : (0 : Int32) = nI 0 := rfl
  have e_6 : (0 : Int32) = nI (posN fa pa 0) := rfl
  have hl : lv_has ls 6 [(3, .int (nI 0)), (2, .int (nI (posN fa pa 0))), (0, .ref xa), (1, .int (nI pa))] := lv_sub hl [0, 1, 2, 3] (by show (_ : List (Nat × Value)) = [(3, .int (nI 0)), (2, .int (nI (posN fa pa 0))), (0, .ref xa), (1, .int (nI pa))]; rw [← e_5, ← e_6]; rfl)
  exact loop_4 26 0 (by omega)  _ _ _ hP hD hS hl
abbrev rX8_parrotAt : Room := { frames := 1, cells := 0, slots := 0, locals := 25 }
set_option maxHeartbeats 4000000 in
set_option maxRecDepth 100000 in
theorem c_X8_parrotAt (l : Launch) (D : va_G) (T : Nat → ClassId) (xa : Nat) (fa : Nat → Int32) (ps : Int32) : kM l D T yX8_parrotAt wsX8_parrotAt rX8_parrotAt [.ref xa, .int ps] [aI T xa 26 fa] (some (.int (pAtN fa ps 26 0))) [aI T xa 26 fa] := by
  refine kM.of (cc := cX8_parrotAt) (maxL := 3) (ret := some .int) (by decide) rfl (Nat.le_of_ble_eq_true rfl) ?_
  intro p e s m below meth c A Q ls hx hb hml hown hr hlk hts hC hP hD hS hA hl hret
  have loop_2 : ∀ (n i : Nat), i + n = 26 → pAtN fa ps n i = pAtN fa ps 26 0 → ∀ (H : Heap) (locs : List Loc) (ls : Array Slot), va_P D vwCl [aI T xa 26 fa] H → va_D A [aI T xa 26 fa] → va_S A s.heap H locs → lv_has ls 3 [(2, .int (nI i)), (0, .ref xa), (1, .int ps)] → W p l e rX8_parrotAt s m [.ref xa, .int ps].toArray below meth c H locs 0 0 Q (F0 m 2 ls []) := by
    intro n
    induction n with
    | zero =>
      intro i hi hv H locs ls hP hD hS hl
      have hi9 : 26 = i := by omega
      subst hi9
      refine lv_iload_n hx hb dX8_parrotAt_2 rfl (lv_at hl 0 rfl) ?_
      refine lv_aload_n hx hb dX8_parrotAt_3 rfl (lv_at hl 1 rfl) ?_
      refine va_alen (v := 26) hx hb hC.1 hP 0 0 rfl rfl rfl dX8_parrotAt_4 ?_
      refine lv_icmp_ge (tgt := 31) hx hb dX8_parrotAt_5 (by decide) (fun _ => ?_) (fun c_x => absurd (by decide : (26 : Int32) ≤ nI 26) c_x)
      refine lv_iconst (v := (-1)) hx hb dX8_parrotAt_31 (by decide) ?_
      have e_1 : (-1) = pAtN fa ps 26 0 := by rw [← hv]; rfl
      refine W.eq (g2 := F0 m 32 ls [.int (pAtN fa ps 26 0)]) (congrArg (fun z => F0 m 32 ls [.int z]) e_1) ?_
      exact hret _ _ _ _ _ (fun Qc free hq hf => W.iret hx hb hr hq hf dX8_parrotAt_32 hlk) hP hD hS
    | succ n ih =>
      intro i hi hv H locs ls hP hD hS hl
      have hlt : i < 26 := by omega
      refine lv_iload_n hx hb dX8_parrotAt_2 rfl (lv_at hl 0 rfl) ?_
      refine lv_aload_n hx hb dX8_parrotAt_3 rfl (lv_at hl 1 rfl) ?_
      refine va_alen (v := 26) hx hb hC.1 hP 0 0 rfl rfl rfl dX8_parrotAt_4 ?_
      refine lv_icmp_ge (tgt := 31) hx hb dX8_parrotAt_5 (by decide) (fun c_x => absurd c_x (nI_ge (b := 26) hlt (by decide))) (fun _ => ?_)
      refine lv_aload_n hx hb dX8_parrotAt_8 rfl (lv_at hl 1 rfl) ?_
      refine lv_iload_n hx hb dX8_parrotAt_9 rfl (lv_at hl 0 rfl) ?_
      refine k_iald hx hb hC.1 hP 0 0 rfl rfl (by omega) dX8_parrotAt_10 ?_
      refine lv_if_le (tgt := 25) hx hb dX8_parrotAt_11 (by decide) (fun c11 => ?_) (fun c11 => ?_)
      · refine lv_iinc (v := nI (i + 1)) (lv' := [(2, .int (nI (i + 1))), (0, .ref xa), (1, .int ps)]) hx hb dX8_parrotAt_25 hl (k := 0) rfl (nI_1 i) (by decide) rfl (fun ls hl => ?_)
        refine lv_goto (tgt := 2) hx hb dX8_parrotAt_28 (by decide) ?_
        have hl : lv_has ls 3 [(2, .int (nI (i + 1))), (0, .ref xa), (1, .int ps)] := lv_sub hl [0, 1, 2] (by rfl)
        exact ih (i + 1) (by omega) (by rw [← hv]; simp [pAtN, c11]) _ _ _ hP hD hS hl
      · refine lv_aload_n hx hb dX8_parrotAt_14 rfl (lv_at hl 1 rfl) ?_
        refine lv_iload_n hx hb dX8_parrotAt_15 rfl (lv_at hl 0 rfl) ?_
        have hP := hP.sub (ws' := [aI T xa 26 fa] ++ []) [0] rfl
        have hD := hD.sub (ws' := [aI T xa 26 fa] ++ []) [0] (by decide) rfl
        refine kS (As := [.ref xa, .int (nI i)]) (rest := []) ⟨hx, hb, hml, hown, hts⟩ (c_X8_positionOf l D T xa fa i (by first | omega | assumption)) (va_cwS 2 hts gX8_parrotAt_X8_positionOf rfl rfl rfl (by decide +kernel) ⟨Nat.le_of_ble_eq_true rfl, Nat.le_of_ble_eq_true rfl⟩) hC hP hD hS hA rfl hl.1 rfl (Nat.le_of_ble_eq_true rfl) dX8_parrotAt_16 ⟨Nat.zero_le _, Nat.zero_le _⟩ (fun H locs hP hD hS => ?_)
        have hP : va_P D vwCl [aI T xa 26 fa] H := hP
        have hD : va_D A [aI T xa 26 fa] := hD
        refine W.eq (g2 := F0 m 19 ls [.int (nI (posN fa i 26))]) rfl ?_
        refine lv_iload_n hx hb dX8_parrotAt_19 rfl (lv_at hl 2 rfl) ?_
        refine lv_icmp_ne (tgt := 25) hx hb dX8_parrotAt_20 (by decide) (fun c20 => ?_) (fun c20 => ?_)
        · refine lv_iinc (v := nI (i + 1)) (lv' := [(2, .int (nI (i + 1))), (0, .ref xa), (1, .int ps)]) hx hb dX8_parrotAt_25 hl (k := 0) rfl (nI_1 i) (by decide) rfl (fun ls hl => ?_)
          refine lv_goto (tgt := 2) hx hb dX8_parrotAt_28 (by decide) ?_
          have hl : lv_has ls 3 [(2, .int (nI (i + 1))), (0, .ref xa), (1, .int ps)] := lv_sub hl [0, 1, 2] (by rfl)
          exact ih (i + 1) (by omega) (by rw [← hv]; simp [pAtN, c11, c20]) _ _ _ hP hD hS hl
        · refine lv_iload_n hx hb dX8_parrotAt_23 rfl (lv_at hl 0 rfl) ?_
          have e_2 : nI i = pAtN fa ps 26 0 := by rw [← hv]; simp [pAtN, c11, eq_true c20]
          refine W.eq (g2 := F0 m 24 ls [.int (pAtN fa ps 26 0)]) (congrArg (fun z => F0 m 24 ls [.int z]) e_2) ?_
          exact hret _ _ _ _ _ (fun Qc free hq hf => W.iret hx hb hr hq hf dX8_parrotAt_24 hlk) hP hD hS
  have hl : lv_has ls 3 [(0, .ref xa), (1, .int ps)] := hl
  have hP : va_P D vwCl [aI T xa 26 fa] s.heap := hP
  have hD : va_D A [aI T xa 26 fa] := hD
  refine lv_iconst (v := 0) hx hb dX8_parrotAt_0 (by decide) ?_
  refine lv_istore_n (lv' := [(2, .int 0), (0, .ref xa), (1, .int ps)]) hx hb dX8_parrotAt_1 rfl hl (by decide) rfl (fun ls hl => ?_)
  have e_3 : (0 : Int32) = nI 0 := rfl
  have hl : lv_has ls 3 [(2, .int (nI 0)), (0, .ref xa), (1, .int ps)] := lv_sub hl [0, 1, 2] (by show (_ : List (Nat × Value)) = [(2, .int (nI 0)), (0, .ref xa), (1, .int ps)]; rw [← e_3]; rfl)
  exact loop_2 26 0 (by omega) rfl _ _ _ hP hD hS hl
abbrev rJ7_fill_53178 : Room := { frames := 0, cells := 0, slots := 0, locals := 0 }
set_option maxHeartbeats 4000000 in
set_option maxRecDepth 100000 in
theorem c_J7_fill_53178 (l : Launch) (D : va_G) (T : Nat → ClassId) (xa : Nat) (fa : Nat → Int32) (vx : Int32) : kM l D T yJ7_fill_53178 wsJ7_fill_53178 rJ7_fill_53178 [.ref xa, .int vx] [aI T xa 26 fa] none [aI T xa 26 (flN fa vx 26)] := by
  refine kM.of (cc := cJ7_fill_53178) (maxL := 4) (ret := none) (by decide) rfl (Nat.le_of_ble_eq_true rfl) ?_
  intro p e s m below meth c A Q ls hx hb hml hown hr hlk hts hC hP hD hS hA hl hret
  have loop_5 : ∀ (n i : Nat), i + n = 26 → ∀ (H : Heap) (locs : List Loc) (ls : Array Slot), va_P D vwCl [aI T xa 26 (flN fa vx i)] H → va_D A [aI T xa 26 (flN fa vx i)] → va_S A s.heap H locs → lv_has ls 4 [(2, .int (nI i)), (3, .int 26), (0, .ref xa), (1, .int vx)] → W p l e rJ7_fill_53178 s m [.ref xa, .int vx].toArray below meth c H locs 0 0 Q (F0 m 5 ls []) := by
    intro n
    induction n with
    | zero =>
      intro i hi  H locs ls hP hD hS hl
      have hi9 : 26 = i := by omega
      subst hi9
      refine lv_iload_n hx hb dJ7_fill_53178_5 rfl (lv_at hl 0 rfl) ?_
      refine lv_iload_n hx hb dJ7_fill_53178_6 rfl (lv_at hl 1 rfl) ?_
      refine lv_icmp_ge (tgt := 20) hx hb dJ7_fill_53178_7 (by decide) (fun _ => ?_) (fun c_x => absurd (by decide : (26 : Int32) ≤ nI 26) c_x)
      exact hret _ _ _ _ _ (fun Qc free hq hf => W.vret hx hb hr hq hf dJ7_fill_53178_20 hlk) hP hD hS
    | succ n ih =>
      intro i hi  H locs ls hP hD hS hl
      have hlt : i < 26 := by omega
      refine lv_iload_n hx hb dJ7_fill_53178_5 rfl (lv_at hl 0 rfl) ?_
      refine lv_iload_n hx hb dJ7_fill_53178_6 rfl (lv_at hl 1 rfl) ?_
      refine lv_icmp_ge (tgt := 20) hx hb dJ7_fill_53178_7 (by decide) (fun c_x => absurd c_x (nI_ge (b := 26) hlt (by decide))) (fun _ => ?_)
      refine lv_aload_n hx hb dJ7_fill_53178_10 rfl (lv_at hl 2 rfl) ?_
      refine lv_iload_n hx hb dJ7_fill_53178_11 rfl (lv_at hl 0 rfl) ?_
      refine lv_iload_n hx hb dJ7_fill_53178_12 rfl (lv_at hl 3 rfl) ?_
      refine k_iast hx hb hC.1 hP hD hS 0 0 rfl rfl (by omega) dJ7_fill_53178_13 (fun H locs hP hD hS => ?_)
      have hP : va_P D vwCl [aI T xa 26 (upd (flN fa vx i) i vx)] H := hP
      have hD : va_D A [aI T xa 26 (upd (flN fa vx i) i vx)] := hD
      refine lv_iinc (v := nI (i + 1)) (lv' := [(2, .int (nI (i + 1))), (3, .int 26), (0, .ref xa), (1, .int vx)]) hx hb dJ7_fill_53178_14 hl (k := 0) rfl (nI_1 i) (by decide) rfl (fun ls hl => ?_)
      refine lv_goto (tgt := 5) hx hb dJ7_fill_53178_17 (by decide) ?_
      have e_1 : upd (flN fa vx i) i vx = flN fa vx (i + 1) := by first | with_reducible rfl | (simp [flN]; done)
      have eW := congrArg (fun zZ => ([aI T xa 26 zZ] : va_W)) e_1
      have hP : va_P D vwCl [aI T xa 26 (flN fa vx (i + 1))] _ := Eq.subst (motive := fun w => va_P D vwCl w _) eW hP
      have hD : va_D A [aI T xa 26 (flN fa vx (i + 1))] := Eq.subst (motive := fun w => va_D A w) eW hD
      have hl : lv_has ls 4 [(2, .int (nI (i + 1))), (3, .int 26), (0, .ref xa), (1, .int vx)] := lv_sub hl [0, 1, 2, 3] (by rfl)
      exact ih (i + 1) (by omega)  _ _ _ hP hD hS hl
  have hl : lv_has ls 4 [(0, .ref xa), (1, .int vx)] := hl
  have hP : va_P D vwCl [aI T xa 26 fa] s.heap := hP
  have hD : va_D A [aI T xa 26 fa] := hD
  refine lv_iconst (v := 0) hx hb dJ7_fill_53178_0 (by decide) ?_
  refine lv_istore_n (lv' := [(2, .int 0), (0, .ref xa), (1, .int vx)]) hx hb dJ7_fill_53178_1 rfl hl (by decide) rfl (fun ls hl => ?_)
  refine lv_aload_n hx hb dJ7_fill_53178_2 rfl (lv_at hl 1 rfl) ?_
  refine va_alen (v := 26) hx hb hC.1 hP 0 0 rfl rfl rfl dJ7_fill_53178_3 ?_
  refine lv_istore_n (lv' := [(3, .int 26), (2, .int 0), (0, .ref xa), (1, .int vx)]) hx hb dJ7_fill_53178_4 rfl hl (by decide) rfl (fun ls hl => ?_)
  have e_2 : fa = flN fa vx 0 := rfl
  have eW := congrArg (fun zZ => ([aI T xa 26 zZ] : va_W)) e_2
  have hP : va_P D vwCl [aI T xa 26 (flN fa vx 0)] _ := Eq.subst (motive := fun w => va_P D vwCl w _) eW hP
  have hD : va_D A [aI T xa 26 (flN fa vx 0)] := Eq.subst (motive := fun w => va_D A w) eW hD
  have e_3 : (0 : Int32) = nI 0 := rfl
  have hl : lv_has ls 4 [(2, .int (nI 0)), (3, .int 26), (0, .ref xa), (1, .int vx)] := lv_sub hl [1, 0, 2, 3] (by show (_ : List (Nat × Value)) = [(2, .int (nI 0)), (3, .int 26), (0, .ref xa), (1, .int vx)]; rw [← e_3]; rfl)
  exact loop_5 26 0 (by omega)  _ _ _ hP hD hS hl
