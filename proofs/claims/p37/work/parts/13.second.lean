def mgC (fc fg gc gg : Nat → Int32) (sz rm hz hr2 : Int32) : Nat → Int32 := adC fc gc (flLeast fc fg sz rm) (flLeast gc gg hz hr2) 26
def mgS (fc fs fg gc gs gg : Nat → Int32) (sz rm hz hr2 : Int32) : Nat → Int32 := adS fc fs gc gs (flLeast fc fg sz rm) (flLeast gc gg hz hr2) 26
/-- the counts that stay, of a merged row f with room for rr counters -/
def mrC (f : Nat → Int32) (rr : Nat) : Nat → Int32 := trC f (cntN f 26) (cntN f 26 - rr)
def mrZ (f : Nat → Int32) (rr : Nat) : Int32 := trZ f (cntN f 26) (cntN f 26 - rr)
/-- the second list -/
def wdN (f : Nat → Int32) (v : Int32) : Nat → (Nat → Int32)
  | 0 => f
  | i + 1 => upd (wdN f v i) i (if wdN f v i i - v < 0 then 0 else wdN f v i i - v)
def stC (wf : Nat → Int32) (wz wr : Int32) (pa : Nat) : Nat → Int32 := if wf pa ≤ 0 then (if wr ≤ wz then wdN wf 1 26 else upd wf pa 1) else upd wf pa (wf pa + 1)
def stZ (wf : Nat → Int32) (wz wr : Int32) (pa : Nat) : Int32 := if wf pa ≤ 0 then (if wr ≤ wz then nI (cntN (wdN wf 1 26) 26) else wz + 1) else wz
def stO (wf : Nat → Int32) (wo wz wr : Int32) (pa : Nat) : Int32 := if wf pa ≤ 0 then (if wr ≤ wz then wo + 1 else wo) else wo
def smA (f g : Nat → Int32) : Nat → (Nat → Int32)
  | 0 => f
  | i + 1 => upd (smA f g i) i (smA f g i i + g i)
def smC (wf vf : Nat → Int32) (wr : Int32) : Nat → Int32 := if pAtN (smA wf vf 26) wr 26 0 = -1 then smA wf vf 26 else wdN (smA wf vf 26) (smA wf vf 26 (pAtN (smA wf vf 26) wr 26 0).toNatClampNeg) 26
def smZ (wf vf : Nat → Int32) (wr : Int32) : Int32 := if pAtN (smA wf vf 26) wr 26 0 = -1 then nI (cntN (smA wf vf 26) 26) else nI (cntN (wdN (smA wf vf 26) (smA wf vf 26 (pAtN (smA wf vf 26) wr 26 0).toNatClampNeg) 26) 26)
def smO (wf vf : Nat → Int32) (wo wr vo : Int32) : Int32 := if pAtN (smA wf vf 26) wr 26 0 = -1 then wo + vo else wo + vo + smA wf vf 26 (pAtN (smA wf vf 26) wr 26 0).toNatClampNeg
abbrev rX8_copyRow : Room := { frames := 1, cells := 0, slots := 0, locals := 64 }
set_option maxHeartbeats 4000000 in
set_option maxRecDepth 100000 in
theorem c_X8_copyRow (l : Launch) (D : va_G) (T : Nat → ClassId) (xa xb : Nat) (fa fb : Nat → Int32) : kM l D T yX8_copyRow wsX8_copyRow rX8_copyRow [.ref xa, .ref xb] [aI T xa 26 fa, aI T xb 26 fb] none [aI T xa 26 fa, aI T xb 26 fa] := by
  refine kM.of (cc := cX8_copyRow) (maxL := 2) (ret := none) (by decide) rfl (Nat.le_of_ble_eq_true rfl) ?_
  intro p e s m below meth c A Q ls hx hb hml hown hr hlk hts hC hP hD hS hA hl hret
  have hl : lv_has ls 2 [(0, .ref xa), (1, .ref xb)] := hl
  have hP : va_P D vwCl [aI T xa 26 fa, aI T xb 26 fb] s.heap := hP
  have hD : va_D A [aI T xa 26 fa, aI T xb 26 fb] := hD
  refine lv_aload_n hx hb dX8_copyRow_0 rfl (lv_at hl 0 rfl) ?_
  refine lv_iconst (v := 0) hx hb dX8_copyRow_1 (by decide) ?_
  refine lv_aload_n hx hb dX8_copyRow_2 rfl (lv_at hl 1 rfl) ?_
  refine lv_iconst (v := 0) hx hb dX8_copyRow_3 (by decide) ?_
  refine lv_aload_n hx hb dX8_copyRow_4 rfl (lv_at hl 0 rfl) ?_
  refine va_alen (v := 26) hx hb hC.1 hP 0 0 rfl rfl rfl dX8_copyRow_5 ?_
  refine lv_aload_n hx hb dX8_copyRow_6 rfl (lv_at hl 1 rfl) ?_
  refine va_alen (v := 26) hx hb hC.1 hP 1 0 rfl rfl rfl dX8_copyRow_7 ?_
  refine va_mmin hx hb (hml.trans hl.1.symm) hown (hts (.methodLink RX8 244 Lib.Math.min.name) (List.mem_of_getElem? (i := 1) rfl)) (hts (.static Lib.Math.min.name) (List.mem_of_getElem? (i := 2) rfl)) (hts (.initialized "java/lang/Math") (List.mem_of_getElem? (i := 3) rfl)) (hts (.code Lib.Math.min.name Lib.Math.min.code 2 (some .int)) (List.mem_of_getElem? (i := 4) rfl)) (Nat.le_of_ble_eq_true rfl) (Nat.le_of_ble_eq_true rfl) (Nat.zero_le _) (Nat.zero_le _) dX8_copyRow_8 ?_
  refine W.eq (g2 := F0 m 11 ls (.int 26 :: [.int 0, .ref xb, .int 0, .ref xa])) (congrArg (fun z => F0 m 11 ls (.int z :: [.int 0, .ref xb, .int 0, .ref xa])) (by decide)) ?_
  refine va_copyi hx hb (hml.trans hl.1.symm) hown (hts (.methodLink RX8 247 arraycopyName) (List.mem_of_getElem? (i := 5) rfl)) (hts (.native arraycopyName) (List.mem_of_getElem? (i := 6) rfl)) (hts (.static arraycopyName) (List.mem_of_getElem? (i := 7) rfl)) (hts (.initialized "java/lang/System") (List.mem_of_getElem? (i := 8) rfl)) hC.1 hP hD hS 0 1 0 0 rfl rfl rfl rfl rfl (by decide) (by decide) (by decide) (by decide) (by decide) (fun _ _ => rfl) (Nat.le_of_ble_eq_true rfl) (Nat.le_of_ble_eq_true rfl) dX8_copyRow_11 (fun H locs hP hD hS => ?_)
  obtain ⟨hP, hD⟩ := kRow hP hD 1 (fa) rfl (fun j hj => by rw [sb_cl0, show (26 : Int32).toNatClampNeg = 26 from by decide]; simp [va_cpy, hj])
  have hP : va_P D vwCl [aI T xa 26 fa, aI T xb 26 fa] H := hP
  have hD : va_D A [aI T xa 26 fa, aI T xb 26 fa] := hD
  exact hret _ _ _ _ _ (fun Qc free hq hf => W.vret hx hb hr hq hf dX8_copyRow_14 hlk) hP hD hS
abbrev rX0_beginAnew : Room := { frames := 1, cells := 0, slots := 0, locals := 23 }
set_option maxHeartbeats 4000000 in
set_option maxRecDepth 100000 in
theorem c_X0_beginAnew (l : Launch) (D : va_G) (T : Nat → ClassId) (xo xc xs xg : Nat) (fc fs fg : Nat → Int32) (ch sz rm : Int32) (mc : Int32) : kM l D T yX0_beginAnew wsX0_beginAnew rX0_beginAnew [.ref xo, .int mc] [oFL xo xc xs xg ch sz rm, aI T xc 26 fc, aI T xs 26 fs, aI T xg 26 fg] none [oFL xo xc xs xg 0 0 mc, aI T xc 26 (flN fc 0 26), aI T xs 26 fs, aI T xg 26 fg] := by
  refine kM.of (cc := cX0_beginAnew) (maxL := 2) (ret := none) (by decide) rfl (Nat.le_of_ble_eq_true rfl) ?_
  intro p e s m below meth c A Q ls hx hb hml hown hr hlk hts hC hP hD hS hA hl hret
  have iX0 : ∀ w ∈ wsX00, w ∈ wsX0_beginAnew := (fun _ h => List.mem_cons_of_mem _ (List.mem_append_right _ h))
  have hl : lv_has ls 2 [(0, .ref xo), (1, .int mc)] := hl
  have hP : va_P D vwCl [oFL xo xc xs xg ch sz rm, aI T xc 26 fc, aI T xs 26 fs, aI T xg 26 fg] s.heap := hP
  have hD : va_D A [oFL xo xc xs xg ch sz rm, aI T xc 26 fc, aI T xs 26 fs, aI T xg 26 fg] := hD
  refine lv_aload_n hx hb dX0_beginAnew_0 rfl (lv_at hl 0 rfl) ?_
  refine va_get (D := D) (ci := 0) (v := .ref xc) (C := RX0) (T := TX0) (N := 6) hx hb hts iX0 hown hC.1 hP 0 rfl rfl 0 (by decide) (hts (.fieldLink RX0 9 "ParrotCounts$FirstList" "counts" "[I") (List.mem_of_getElem? (i := 1) rfl)) (fun _ h => h) rfl dX0_beginAnew_1 ?_
  refine lv_iconst (v := 0) hx hb dX0_beginAnew_4 (by decide) ?_
  have hP := hP.sub (ws' := [aI T xc 26 fc] ++ [oFL xo xc xs xg ch sz rm, aI T xs 26 fs, aI T xg 26 fg]) [1, 0, 2, 3] rfl
  have hD := hD.sub (ws' := [aI T xc 26 fc] ++ [oFL xo xc xs xg ch sz rm, aI T xs 26 fs, aI T xg 26 fg]) [1, 0, 2, 3] (by decide) rfl
  refine kS (As := [.ref xc, .int 0]) (rest := []) ⟨hx, hb, hml, hown, hts⟩ (c_J7_fill_53178 l D T xc fc 0 ) (va_cwS 2 hts gX0_beginAnew_J7_fill_53178 rfl rfl rfl (by decide +kernel) ⟨Nat.le_of_ble_eq_true rfl, Nat.le_of_ble_eq_true rfl⟩) hC hP hD hS hA rfl hl.1 rfl (Nat.le_of_ble_eq_true rfl) dX0_beginAnew_5 ⟨Nat.zero_le _, Nat.zero_le _⟩ (fun H locs hP hD hS => ?_)
  have hP := hP.sub (ws' := [oFL xo xc xs xg ch sz rm, aI T xc 26 (flN fc 0 26), aI T xs 26 fs, aI T xg 26 fg]) [1, 0, 2, 3] rfl
  have hD := hD.sub (ws' := [oFL xo xc xs xg ch sz rm, aI T xc 26 (flN fc 0 26), aI T xs 26 fs, aI T xg 26 fg]) [1, 0, 2, 3] (by decide) rfl
  refine W.eq (g2 := F0 m 8 ls []) rfl ?_
  refine lv_aload_n hx hb dX0_beginAnew_8 rfl (lv_at hl 0 rfl) ?_
  refine lv_iconst (v := 0) hx hb dX0_beginAnew_9 (by decide) ?_
  refine va_put (D := D) (ci := 0) (v := .int 0) (ty := .int) (C := RX0) (T := TX0) (N := 6) hx hb hts iX0 tyX0 tyX0_ok nmX0 hown hC.1 hP hD hS 0 rfl rfl 3 (by decide) (hts (.fieldLink RX0 27 "ParrotCounts$FirstList" "changes" "I") (List.mem_of_getElem? (i := 2) rfl)) (fun _ h9 => h9) rfl (by decide +kernel) rfl rfl (Nat.le_of_ble_eq_true rfl) dX0_beginAnew_10 (fun H locs hP hD hS => ?_)
  have hP : va_P D vwCl [oFL xo xc xs xg 0 sz rm, aI T xc 26 (flN fc 0 26), aI T xs 26 fs, aI T xg 26 fg] H := hP
  have hD : va_D A [oFL xo xc xs xg 0 sz rm, aI T xc 26 (flN fc 0 26), aI T xs 26 fs, aI T xg 26 fg] := hD
  refine lv_aload_n hx hb dX0_beginAnew_13 rfl (lv_at hl 0 rfl) ?_
  refine lv_iconst (v := 0) hx hb dX0_beginAnew_14 (by decide) ?_
  refine va_put (D := D) (ci := 0) (v := .int 0) (ty := .int) (C := RX0) (T := TX0) (N := 6) hx hb hts iX0 tyX0 tyX0_ok nmX0 hown hC.1 hP hD hS 0 rfl rfl 4 (by decide) (hts (.fieldLink RX0 31 "ParrotCounts$FirstList" "size" "I") (List.mem_of_getElem? (i := 3) rfl)) (fun _ h9 => h9) rfl (by decide +kernel) rfl rfl (Nat.le_of_ble_eq_true rfl) dX0_beginAnew_15 (fun H locs hP hD hS => ?_)
  have hP : va_P D vwCl [oFL xo xc xs xg 0 0 rm, aI T xc 26 (flN fc 0 26), aI T xs 26 fs, aI T xg 26 fg] H := hP
  have hD : va_D A [oFL xo xc xs xg 0 0 rm, aI T xc 26 (flN fc 0 26), aI T xs 26 fs, aI T xg 26 fg] := hD
  refine lv_aload_n hx hb dX0_beginAnew_18 rfl (lv_at hl 0 rfl) ?_
  refine lv_iload_n hx hb dX0_beginAnew_19 rfl (lv_at hl 1 rfl) ?_
  refine va_put (D := D) (ci := 0) (v := .int mc) (ty := .int) (C := RX0) (T := TX0) (N := 6) hx hb hts iX0 tyX0 tyX0_ok nmX0 hown hC.1 hP hD hS 0 rfl rfl 5 (by decide) (hts (.fieldLink RX0 34 "ParrotCounts$FirstList" "room" "I") (List.mem_of_getElem? (i := 4) rfl)) (fun _ h9 => h9) rfl (by decide +kernel) rfl rfl (Nat.le_of_ble_eq_true rfl) dX0_beginAnew_20 (fun H locs hP hD hS => ?_)
  have hP : va_P D vwCl [oFL xo xc xs xg 0 0 mc, aI T xc 26 (flN fc 0 26), aI T xs 26 fs, aI T xg 26 fg] H := hP
  have hD : va_D A [oFL xo xc xs xg 0 0 mc, aI T xc 26 (flN fc 0 26), aI T xs 26 fs, aI T xg 26 fg] := hD
  exact hret _ _ _ _ _ (fun Qc free hq hf => W.vret hx hb hr hq hf dX0_beginAnew_23 hlk) hP hD hS
abbrev rX0_copyFrom : Room := { frames := 2, cells := 0, slots := 0, locals := 85 }
set_option maxHeartbeats 4000000 in
set_option maxRecDepth 100000 in
theorem c_X0_copyFrom (l : Launch) (D : va_G) (T : Nat → ClassId) (xo xc xs xg : Nat) (fc fs fg : Nat → Int32) (ch sz rm : Int32) (zo zc zs zg : Nat) (gc gs gg : Nat → Int32) (hh hz hr2 : Int32) : kM l D T yX0_copyFrom wsX0_copyFrom rX0_copyFrom [.ref xo, .ref zo] [oFL xo xc xs xg ch sz rm, aI T xc 26 fc, aI T xs 26 fs, aI T xg 26 fg, oFL zo zc zs zg hh hz hr2, aI T zc 26 gc, aI T zs 26 gs, aI T zg 26 gg] none [oFL xo xc xs xg hh hz hr2, aI T xc 26 gc, aI T xs 26 gs, aI T xg 26 gg, oFL zo zc zs zg hh hz hr2, aI T zc 26 gc, aI T zs 26 gs, aI T zg 26 gg] := by
  refine kM.of (cc := cX0_copyFrom) (maxL := 2) (ret := none) (by decide) rfl (Nat.le_of_ble_eq_true rfl) ?_
  intro p e s m below meth c A Q ls hx hb hml hown hr hlk hts hC hP hD hS hA hl hret
  have iX0 : ∀ w ∈ wsX00, w ∈ wsX0_copyFrom := (fun _ h => List.mem_cons_of_mem _ (List.mem_append_right _ h))
  have hl : lv_has ls 2 [(0, .ref xo), (1, .ref zo)] := hl
  have hP : va_P D vwCl [oFL xo xc xs xg ch sz rm, aI T xc 26 fc, aI T xs 26 fs, aI T xg 26 fg, oFL zo zc zs zg hh hz hr2, aI T zc 26 gc, aI T zs 26 gs, aI T zg 26 gg] s.heap := hP
  have hD : va_D A [oFL xo xc xs xg ch sz rm, aI T xc 26 fc, aI T xs 26 fs, aI T xg 26 fg, oFL zo zc zs zg hh hz hr2, aI T zc 26 gc, aI T zs 26 gs, aI T zg 26 gg] := hD
  refine lv_aload_n hx hb dX0_copyFrom_0 rfl (lv_at hl 1 rfl) ?_
  refine va_get (D := D) (ci := 0) (v := .ref zc) (C := RX0) (T := TX0) (N := 6) hx hb hts iX0 hown hC.1 hP 4 rfl rfl 0 (by decide) (hts (.fieldLink RX0 9 "ParrotCounts$FirstList" "counts" "[I") (List.mem_of_getElem? (i := 1) rfl)) (fun _ h => h) rfl dX0_copyFrom_1 ?_
  refine lv_aload_n hx hb dX0_copyFrom_4 rfl (lv_at hl 0 rfl) ?_
  refine va_get (D := D) (ci := 0) (v := .ref xc) (C := RX0) (T := TX0) (N := 6) hx hb hts iX0 hown hC.1 hP 0 rfl rfl 0 (by decide) (hts (.fieldLink RX0 9 "ParrotCounts$FirstList" "counts" "[I") (List.mem_of_getElem? (i := 1) rfl)) (fun _ h => h) rfl dX0_copyFrom_5 ?_
  have hP := hP.sub (ws' := [aI T zc 26 gc, aI T xc 26 fc] ++ [oFL xo xc xs xg ch sz rm, aI T xs 26 fs, aI T xg 26 fg, oFL zo zc zs zg hh hz hr2, aI T zs 26 gs, aI T zg 26 gg]) [5, 1, 0, 2, 3, 4, 6, 7] rfl
  have hD := hD.sub (ws' := [aI T zc 26 gc, aI T xc 26 fc] ++ [oFL xo xc xs xg ch sz rm, aI T xs 26 fs, aI T xg 26 fg, oFL zo zc zs zg hh hz hr2, aI T zs 26 gs, aI T zg 26 gg]) [5, 1, 0, 2, 3, 4, 6, 7] (by decide) rfl
  refine kSN (As := [.ref zc, .ref xc]) (rest := []) ⟨hx, hb, hml, hown, hts⟩ (c_X8_copyRow l D T zc xc gc fc ) ⟨va_cnB (host := RX8) 2 hts gX0_copyFrom_X8_copyRow_n37 rfl rfl rfl (hC.nw 2 (q := (RX0, 37, yX8_copyRow)) rfl) (hts (.initialized RX8) (List.mem_of_getElem? (i := 8) rfl)) (by decide +kernel) ⟨Nat.le_of_ble_eq_true rfl, Nat.le_of_ble_eq_true rfl⟩, hts (.static yX8_copyRow) (List.mem_of_getElem? (i := 7) rfl), trivial⟩ hC hP hD hS hA rfl hl.1 rfl (Nat.le_of_ble_eq_true rfl) dX0_copyFrom_8 ⟨Nat.zero_le _, Nat.zero_le _⟩ (fun H locs hP hD hS => ?_)
  have hP := hP.sub (ws' := [oFL xo xc xs xg ch sz rm, aI T xc 26 gc, aI T xs 26 fs, aI T xg 26 fg, oFL zo zc zs zg hh hz hr2, aI T zc 26 gc, aI T zs 26 gs, aI T zg 26 gg]) [2, 1, 3, 4, 5, 0, 6, 7] rfl
  have hD := hD.sub (ws' := [oFL xo xc xs xg ch sz rm, aI T xc 26 gc, aI T xs 26 fs, aI T xg 26 fg, oFL zo zc zs zg hh hz hr2, aI T zc 26 gc, aI T zs 26 gs, aI T zg 26 gg]) [2, 1, 3, 4, 5, 0, 6, 7] (by decide) rfl
  refine W.eq (g2 := F0 m 11 ls []) rfl ?_
  refine lv_aload_n hx hb dX0_copyFrom_11 rfl (lv_at hl 1 rfl) ?_
  refine va_get (D := D) (ci := 0) (v := .ref zs) (C := RX0) (T := TX0) (N := 6) hx hb hts iX0 hown hC.1 hP 4 rfl rfl 1 (by decide) (hts (.fieldLink RX0 15 "ParrotCounts$FirstList" "surpluses" "[I") (List.mem_of_getElem? (i := 2) rfl)) (fun _ h => h) rfl dX0_copyFrom_12 ?_
  refine lv_aload_n hx hb dX0_copyFrom_15 rfl (lv_at hl 0 rfl) ?_
  refine va_get (D := D) (ci := 0) (v := .ref xs) (C := RX0) (T := TX0) (N := 6) hx hb hts iX0 hown hC.1 hP 0 rfl rfl 1 (by decide) (hts (.fieldLink RX0 15 "ParrotCounts$FirstList" "surpluses" "[I") (List.mem_of_getElem? (i := 2) rfl)) (fun _ h => h) rfl dX0_copyFrom_16 ?_
  have hP := hP.sub (ws' := [aI T zs 26 gs, aI T xs 26 fs] ++ [oFL xo xc xs xg ch sz rm, aI T xc 26 gc, aI T xg 26 fg, oFL zo zc zs zg hh hz hr2, aI T zc 26 gc, aI T zg 26 gg]) [6, 2, 0, 1, 3, 4, 5, 7] rfl
  have hD := hD.sub (ws' := [aI T zs 26 gs, aI T xs 26 fs] ++ [oFL xo xc xs xg ch sz rm, aI T xc 26 gc, aI T xg 26 fg, oFL zo zc zs zg hh hz hr2, aI T zc 26 gc, aI T zg 26 gg]) [6, 2, 0, 1, 3, 4, 5, 7] (by decide) rfl
  refine kSN (As := [.ref zs, .ref xs]) (rest := []) ⟨hx, hb, hml, hown, hts⟩ (c_X8_copyRow l D T zs xs gs fs ) ⟨va_cnB (host := RX8) 2 hts gX0_copyFrom_X8_copyRow_n37 rfl rfl rfl (hC.nw 2 (q := (RX0, 37, yX8_copyRow)) rfl) (hts (.initialized RX8) (List.mem_of_getElem? (i := 8) rfl)) (by decide +kernel) ⟨Nat.le_of_ble_eq_true rfl, Nat.le_of_ble_eq_true rfl⟩, hts (.static yX8_copyRow) (List.mem_of_getElem? (i := 7) rfl), trivial⟩ hC hP hD hS hA rfl hl.1 rfl (Nat.le_of_ble_eq_true rfl) dX0_copyFrom_19 ⟨Nat.zero_le _, Nat.zero_le _⟩ (fun H locs hP hD hS => ?_)
  have hP := hP.sub (ws' := [oFL xo xc xs xg ch sz rm, aI T xc 26 gc, aI T xs 26 gs, aI T xg 26 fg, oFL zo zc zs zg hh hz hr2, aI T zc 26 gc, aI T zs 26 gs, aI T zg 26 gg]) [2, 3, 1, 4, 5, 6, 0, 7] rfl
  have hD := hD.sub (ws' := [oFL xo xc xs xg ch sz rm, aI T xc 26 gc, aI T xs 26 gs, aI T xg 26 fg, oFL zo zc zs zg hh hz hr2, aI T zc 26 gc, aI T zs 26 gs, aI T zg 26 gg]) [2, 3, 1, 4, 5, 6, 0, 7] (by decide) rfl
  refine W.eq (g2 := F0 m 22 ls []) rfl ?_
  refine lv_aload_n hx hb dX0_copyFrom_22 rfl (lv_at hl 1 rfl) ?_
  refine va_get (D := D) (ci := 0) (v := .ref zg) (C := RX0) (T := TX0) (N := 6) hx hb hts iX0 hown hC.1 hP 4 rfl rfl 2 (by decide) (hts (.fieldLink RX0 18 "ParrotCounts$FirstList" "changedAt" "[I") (List.mem_of_getElem? (i := 3) rfl)) (fun _ h => h) rfl dX0_copyFrom_23 ?_
  refine lv_aload_n hx hb dX0_copyFrom_26 rfl (lv_at hl 0 rfl) ?_
  refine va_get (D := D) (ci := 0) (v := .ref xg) (C := RX0) (T := TX0) (N := 6) hx hb hts iX0 hown hC.1 hP 0 rfl rfl 2 (by decide) (hts (.fieldLink RX0 18 "ParrotCounts$FirstList" "changedAt" "[I") (List.mem_of_getElem? (i := 3) rfl)) (fun _ h => h) rfl dX0_copyFrom_27 ?_
  have hP := hP.sub (ws' := [aI T zg 26 gg, aI T xg 26 fg] ++ [oFL xo xc xs xg ch sz rm, aI T xc 26 gc, aI T xs 26 gs, oFL zo zc zs zg hh hz hr2, aI T zc 26 gc, aI T zs 26 gs]) [7, 3, 0, 1, 2, 4, 5, 6] rfl
  have hD := hD.sub (ws' := [aI T zg 26 gg, aI T xg 26 fg] ++ [oFL xo xc xs xg ch sz rm, aI T xc 26 gc, aI T xs 26 gs, oFL zo zc zs zg hh hz hr2, aI T zc 26 gc, aI T zs 26 gs]) [7, 3, 0, 1, 2, 4, 5, 6] (by decide) rfl
  refine kSN (As := [.ref zg, .ref xg]) (rest := []) ⟨hx, hb, hml, hown, hts⟩ (c_X8_copyRow l D T zg xg gg fg ) ⟨va_cnB (host := RX8) 2 hts gX0_copyFrom_X8_copyRow_n37 rfl rfl rfl (hC.nw 2 (q := (RX0, 37, yX8_copyRow)) rfl) (hts (.initialized RX8) (List.mem_of_getElem? (i := 8) rfl)) (by decide +kernel) ⟨Nat.le_of_ble_eq_true rfl, Nat.le_of_ble_eq_true rfl⟩, hts (.static yX8_copyRow) (List.mem_of_getElem? (i := 7) rfl), trivial⟩ hC hP hD hS hA rfl hl.1 rfl (Nat.le_of_ble_eq_true rfl) dX0_copyFrom_30 ⟨Nat.zero_le _, Nat.zero_le _⟩ (fun H locs hP hD hS => ?_)
  have hP := hP.sub (ws' := [oFL xo xc xs xg ch sz rm, aI T xc 26 gc, aI T xs 26 gs, aI T xg 26 gg, oFL zo zc zs zg hh hz hr2, aI T zc 26 gc, aI T zs 26 gs, aI T zg 26 gg]) [2, 3, 4, 1, 5, 6, 7, 0] rfl
  have hD := hD.sub (ws' := [oFL xo xc xs xg ch sz rm, aI T xc 26 gc, aI T xs 26 gs, aI T xg 26 gg, oFL zo zc zs zg hh hz hr2, aI T zc 26 gc, aI T zs 26 gs, aI T zg 26 gg]) [2, 3, 4, 1, 5, 6, 7, 0] (by decide) rfl
  refine W.eq (g2 := F0 m 33 ls []) rfl ?_
  refine lv_aload_n hx hb dX0_copyFrom_33 rfl (lv_at hl 0 rfl) ?_
  refine lv_aload_n hx hb dX0_copyFrom_34 rfl (lv_at hl 1 rfl) ?_
  refine va_get (D := D) (ci := 0) (v := .int hh) (C := RX0) (T := TX0) (N := 6) hx hb hts iX0 hown hC.1 hP 4 rfl rfl 3 (by decide) (hts (.fieldLink RX0 27 "ParrotCounts$FirstList" "changes" "I") (List.mem_of_getElem? (i := 4) rfl)) (fun _ h => h) rfl dX0_copyFrom_35 ?_
  refine va_put (D := D) (ci := 0) (v := .int hh) (ty := .int) (C := RX0) (T := TX0) (N := 6) hx hb hts iX0 tyX0 tyX0_ok nmX0 hown hC.1 hP hD hS 0 rfl rfl 3 (by decide) (hts (.fieldLink RX0 27 "ParrotCounts$FirstList" "changes" "I") (List.mem_of_getElem? (i := 4) rfl)) (fun _ h9 => h9) rfl (by decide +kernel) rfl rfl (Nat.le_of_ble_eq_true rfl) dX0_copyFrom_38 (fun H locs hP hD hS => ?_)
  have hP : va_P D vwCl [oFL xo xc xs xg hh sz rm, aI T xc 26 gc, aI T xs 26 gs, aI T xg 26 gg, oFL zo zc zs zg hh hz hr2, aI T zc 26 gc, aI T zs 26 gs, aI T zg 26 gg] H := hP
  have hD : va_D A [oFL xo xc xs xg hh sz rm, aI T xc 26 gc, aI T xs 26 gs, aI T xg 26 gg, oFL zo zc zs zg hh hz hr2, aI T zc 26 gc, aI T zs 26 gs, aI T zg 26 gg] := hD
  refine lv_aload_n hx hb dX0_copyFrom_41 rfl (lv_at hl 0 rfl) ?_
  refine lv_aload_n hx hb dX0_copyFrom_42 rfl (lv_at hl 1 rfl) ?_
  refine va_get (D := D) (ci := 0) (v := .int hz) (C := RX0) (T := TX0) (N := 6) hx hb hts iX0 hown hC.1 hP 4 rfl rfl 4 (by decide) (hts (.fieldLink RX0 31 "ParrotCounts$FirstList" "size" "I") (List.mem_of_getElem? (i := 5) rfl)) (fun _ h => h) rfl dX0_copyFrom_43 ?_
  refine va_put (D := D) (ci := 0) (v := .int hz) (ty := .int) (C := RX0) (T := TX0) (N := 6) hx hb hts iX0 tyX0 tyX0_ok nmX0 hown hC.1 hP hD hS 0 rfl rfl 4 (by decide) (hts (.fieldLink RX0 31 "ParrotCounts$FirstList" "size" "I") (List.mem_of_getElem? (i := 5) rfl)) (fun _ h9 => h9) rfl (by decide +kernel) rfl rfl (Nat.le_of_ble_eq_true rfl) dX0_copyFrom_46 (fun H locs hP hD hS => ?_)
  have hP : va_P D vwCl [oFL xo xc xs xg hh hz rm, aI T xc 26 gc, aI T xs 26 gs, aI T xg 26 gg, oFL zo zc zs zg hh hz hr2, aI T zc 26 gc, aI T zs 26 gs, aI T zg 26 gg] H := hP
  have hD : va_D A [oFL xo xc xs xg hh hz rm, aI T xc 26 gc, aI T xs 26 gs, aI T xg 26 gg, oFL zo zc zs zg hh hz hr2, aI T zc 26 gc, aI T zs 26 gs, aI T zg 26 gg] := hD
  refine lv_aload_n hx hb dX0_copyFrom_49 rfl (lv_at hl 0 rfl) ?_
  refine lv_aload_n hx hb dX0_copyFrom_50 rfl (lv_at hl 1 rfl) ?_
  refine va_get (D := D) (ci := 0) (v := .int hr2) (C := RX0) (T := TX0) (N := 6) hx hb hts iX0 hown hC.1 hP 4 rfl rfl 5 (by decide) (hts (.fieldLink RX0 34 "ParrotCounts$FirstList" "room" "I") (List.mem_of_getElem? (i := 6) rfl)) (fun _ h => h) rfl dX0_copyFrom_51 ?_
  refine va_put (D := D) (ci := 0) (v := .int hr2) (ty := .int) (C := RX0) (T := TX0) (N := 6) hx hb hts iX0 tyX0 tyX0_ok nmX0 hown hC.1 hP hD hS 0 rfl rfl 5 (by decide) (hts (.fieldLink RX0 34 "ParrotCounts$FirstList" "room" "I") (List.mem_of_getElem? (i := 6) rfl)) (fun _ h9 => h9) rfl (by decide +kernel) rfl rfl (Nat.le_of_ble_eq_true rfl) dX0_copyFrom_54 (fun H locs hP hD hS => ?_)
  have hP : va_P D vwCl [oFL xo xc xs xg hh hz hr2, aI T xc 26 gc, aI T xs 26 gs, aI T xg 26 gg, oFL zo zc zs zg hh hz hr2, aI T zc 26 gc, aI T zs 26 gs, aI T zg 26 gg] H := hP
  have hD : va_D A [oFL xo xc xs xg hh hz hr2, aI T xc 26 gc, aI T xs 26 gs, aI T xg 26 gg, oFL zo zc zs zg hh hz hr2, aI T zc 26 gc, aI T zs 26 gs, aI T zg 26 gg] := hD
  exact hret _ _ _ _ _ (fun Qc free hq hf => W.vret hx hb hr hq hf dX0_copyFrom_57 hlk) hP hD hS
abbrev rX0_mergeWith : Room := { frames := 4, cells := 0, slots := 0, locals := 92 }
set_option maxHeartbeats 4000000 in
set_option maxRecDepth 100000 in
theorem c_X0_mergeWith (l : Launch) (D : va_G) (T : Nat → ClassId) (xo xc xs xg : Nat) (fc fs fg : Nat → Int32) (ch sz : Int32) (rr : Nat) (zo zc zs zg : Nat) (gc gs gg : Nat → Int32) (hh hz hr2 : Int32) (hr9 : rr < 1000) : kM l D T yX0_mergeWith wsX0_mergeWith rX0_mergeWith [.ref xo, .ref zo] [oFL xo xc xs xg ch sz (nI rr), aI T xc 26 fc, aI T xs 26 fs, aI T xg 26 fg, oFL zo zc zs zg hh hz hr2, aI T zc 26 gc, aI T zs 26 gs, aI T zg 26 gg] none [oFL xo xc xs xg 26 (mrZ (mgC fc fg gc gg sz (nI rr) hz hr2) rr) (nI rr), aI T xc 26 (mrC (mgC fc fg gc gg sz (nI rr) hz hr2) rr), aI T xs 26 (mgS fc fs fg gc gs gg sz (nI rr) hz hr2), aI T xg 26 (idN fg 26), oFL zo zc zs zg hh hz hr2, aI T zc 26 gc, aI T zs 26 gs, aI T zg 26 gg] := by
  refine kM.of (cc := cX0_mergeWith) (maxL := 3) (ret := none) (by decide) rfl (Nat.le_of_ble_eq_true rfl) ?_
  intro p e s m below meth c A Q ls hx hb hml hown hr hlk hts hC hP hD hS hA hl hret
  have iX0 : ∀ w ∈ wsX00, w ∈ wsX0_mergeWith := (fun _ h => List.mem_cons_of_mem _ (List.mem_append_right _ h))
  have hK : cntN (adC fc gc (flLeast fc fg sz (nI rr)) (flLeast gc gg hz hr2) 26) 26 ≤ 26 := cntN_le _ 26
  have loop_51 : ∀ (n i : Nat), i + n = 26 → ∀ (H : Heap) (locs : List Loc) (ls : Array Slot), va_P D vwCl [oFL xo xc xs xg ch (trZ (adC fc gc (flLeast fc fg sz (nI rr)) (flLeast gc gg hz hr2) 26) (cntN (adC fc gc (flLeast fc fg sz (nI rr)) (flLeast gc gg hz hr2) 26) 26) (cntN (adC fc gc (flLeast fc fg sz (nI rr)) (flLeast gc gg hz hr2) 26) 26 - rr)) (nI rr), aI T xc 26 (trC (adC fc gc (flLeast fc fg sz (nI rr)) (flLeast gc gg hz hr2) 26) (cntN (adC fc gc (flLeast fc fg sz (nI rr)) (flLeast gc gg hz hr2) 26) 26) (cntN (adC fc gc (flLeast fc fg sz (nI rr)) (flLeast gc gg hz hr2) 26) 26 - rr)), aI T xs 26 (adS fc fs gc gs (flLeast fc fg sz (nI rr)) (flLeast gc gg hz hr2) 26), aI T xg 26 (idN fg i), oFL zo zc zs zg hh hz hr2, aI T zc 26 gc, aI T zs 26 gs, aI T zg 26 gg] H → va_D A [oFL xo xc xs xg ch (trZ (adC fc gc (flLeast fc fg sz (nI rr)) (flLeast gc gg hz hr2) 26) (cntN (adC fc gc (flLeast fc fg sz (nI rr)) (flLeast gc gg hz hr2) 26) 26) (cntN (adC fc gc (flLeast fc fg sz (nI rr)) (flLeast gc gg hz hr2) 26) 26 - rr)) (nI rr), aI T xc 26 (trC (adC fc gc (flLeast fc fg sz (nI rr)) (flLeast gc gg hz hr2) 26) (cntN (adC fc gc (flLeast fc fg sz (nI rr)) (flLeast gc gg hz hr2) 26) 26) (cntN (adC fc gc (flLeast fc fg sz (nI rr)) (flLeast gc gg hz hr2) 26) 26 - rr)), aI T xs 26 (adS fc fs gc gs (flLeast fc fg sz (nI rr)) (flLeast gc gg hz hr2) 26), aI T xg 26 (idN fg i), oFL zo zc zs zg hh hz hr2, aI T zc 26 gc, aI T zs 26 gs, aI T zg 26 gg] → va_S A s.heap H locs → lv_has ls 3 [(2, .int (nI i)), (0, .ref xo), (1, .ref zo)] → W p l e rX0_mergeWith s m [.ref xo, .ref zo].toArray below meth c H locs 0 0 Q (F0 m 51 ls []) := by
    intro n
    induction n with
    | zero =>
      intro i hi  H locs ls hP hD hS hl
      have hi9 : 26 = i := by omega
      subst hi9
      refine lv_iload_n hx hb dX0_mergeWith_51 rfl (lv_at hl 0 rfl) ?_
      refine lv_bipush (v := 26) hx hb dX0_mergeWith_52 (by decide) ?_
      refine lv_icmp_ge (tgt := 70) hx hb dX0_mergeWith_54 (by decide) (fun _ => ?_) (fun c_x => absurd (by decide : (26 : Int32) ≤ nI 26) c_x)
      refine lv_aload_n hx hb dX0_mergeWith_70 rfl (lv_at hl 1 rfl) ?_
      refine lv_bipush (v := 26) hx hb dX0_mergeWith_71 (by decide) ?_
      refine va_put (D := D) (ci := 0) (v := .int 26) (ty := .int) (C := RX0) (T := TX0) (N := 6) hx hb hts iX0 tyX0 tyX0_ok nmX0 hown hC.1 hP hD hS 0 rfl rfl 3 (by decide) (hts (.fieldLink RX0 27 "ParrotCounts$FirstList" "changes" "I") (List.mem_of_getElem? (i := 5) rfl)) (fun _ h9 => h9) rfl (by decide +kernel) rfl rfl (Nat.le_of_ble_eq_true rfl) dX0_mergeWith_73 (fun H locs hP hD hS => ?_)
      have hP : va_P D vwCl [oFL xo xc xs xg 26 (trZ (adC fc gc (flLeast fc fg sz (nI rr)) (flLeast gc gg hz hr2) 26) (cntN (adC fc gc (flLeast fc fg sz (nI rr)) (flLeast gc gg hz hr2) 26) 26) (cntN (adC fc gc (flLeast fc fg sz (nI rr)) (flLeast gc gg hz hr2) 26) 26 - rr)) (nI rr), aI T xc 26 (trC (adC fc gc (flLeast fc fg sz (nI rr)) (flLeast gc gg hz hr2) 26) (cntN (adC fc gc (flLeast fc fg sz (nI rr)) (flLeast gc gg hz hr2) 26) 26) (cntN (adC fc gc (flLeast fc fg sz (nI rr)) (flLeast gc gg hz hr2) 26) 26 - rr)), aI T xs 26 (adS fc fs gc gs (flLeast fc fg sz (nI rr)) (flLeast gc gg hz hr2) 26), aI T xg 26 (idN fg 26), oFL zo zc zs zg hh hz hr2, aI T zc 26 gc, aI T zs 26 gs, aI T zg 26 gg] H := hP
      have hD : va_D A [oFL xo xc xs xg 26 (trZ (adC fc gc (flLeast fc fg sz (nI rr)) (flLeast gc gg hz hr2) 26) (cntN (adC fc gc (flLeast fc fg sz (nI rr)) (flLeast gc gg hz hr2) 26) 26) (cntN (adC fc gc (flLeast fc fg sz (nI rr)) (flLeast gc gg hz hr2) 26) 26 - rr)) (nI rr), aI T xc 26 (trC (adC fc gc (flLeast fc fg sz (nI rr)) (flLeast gc gg hz hr2) 26) (cntN (adC fc gc (flLeast fc fg sz (nI rr)) (flLeast gc gg hz hr2) 26) 26) (cntN (adC fc gc (flLeast fc fg sz (nI rr)) (flLeast gc gg hz hr2) 26) 26 - rr)), aI T xs 26 (adS fc fs gc gs (flLeast fc fg sz (nI rr)) (flLeast gc gg hz hr2) 26), aI T xg 26 (idN fg 26), oFL zo zc zs zg hh hz hr2, aI T zc 26 gc, aI T zs 26 gs, aI T zg 26 gg] := hD
      have e_1 : trZ (adC fc gc (flLeast fc fg sz (nI rr)) (flLeast gc gg hz hr2) 26) (cntN (adC fc gc (flLeast fc fg sz (nI rr)) (flLeast gc gg hz hr2) 26) 26) (cntN (adC fc gc (flLeast fc fg sz (nI rr)) (flLeast gc gg hz hr2) 26) 26 - rr) = mrZ (mgC fc fg gc gg sz (nI rr) hz hr2) rr := rfl
      have e_2 : trC (adC fc gc (flLeast fc fg sz (nI rr)) (flLeast gc gg hz hr2) 26) (cntN (adC fc gc (flLeast fc fg sz (nI rr)) (flLeast gc gg hz hr2) 26) 26) (cntN (adC fc gc (flLeast fc fg sz (nI rr)) (flLeast gc gg hz hr2) 26) 26 - rr) = mrC (mgC fc fg gc gg sz (nI rr) hz hr2) rr := rfl
      have e_3 : adS fc fs gc gs (flLeast fc fg sz (nI rr)) (flLeast gc gg hz hr2) 26 = mgS fc fs fg gc gs gg sz (nI rr) hz hr2 := rfl
      have eW := (congrArg (fun zZ => ([oFL xo xc xs xg 26 zZ (nI rr), aI T xc 26 (trC (adC fc gc (flLeast fc fg sz (nI rr)) (flLeast gc gg hz hr2) 26) (cntN (adC fc gc (flLeast fc fg sz (nI rr)) (flLeast gc gg hz hr2) 26) 26) (cntN (adC fc gc (flLeast fc fg sz (nI rr)) (flLeast gc gg hz hr2) 26) 26 - rr)), aI T xs 26 (adS fc fs gc gs (flLeast fc fg sz (nI rr)) (flLeast gc gg hz hr2) 26), aI T xg 26 (idN fg 26), oFL zo zc zs zg hh hz hr2, aI T zc 26 gc, aI T zs 26 gs, aI T zg 26 gg] : va_W)) e_1).trans ((congrArg (fun zZ => ([oFL xo xc xs xg 26 (mrZ (mgC fc fg gc gg sz (nI rr) hz hr2) rr) (nI rr), aI T xc 26 zZ, aI T xs 26 (adS fc fs gc gs (flLeast fc fg sz (nI rr)) (flLeast gc gg hz hr2) 26), aI T xg 26 (idN fg 26), oFL zo zc zs zg hh hz hr2, aI T zc 26 gc, aI T zs 26 gs, aI T zg 26 gg] : va_W)) e_2).trans (congrArg (fun zZ => ([oFL xo xc xs xg 26 (mrZ (mgC fc fg gc gg sz (nI rr) hz hr2) rr) (nI rr), aI T xc 26 (mrC (mgC fc fg gc gg sz (nI rr) hz hr2) rr), aI T xs 26 zZ, aI T xg 26 (idN fg 26), oFL zo zc zs zg hh hz hr2, aI T zc 26 gc, aI T zs 26 gs, aI T zg 26 gg] : va_W)) e_3))
      have hP : va_P D vwCl [oFL xo xc xs xg 26 (mrZ (mgC fc fg gc gg sz (nI rr) hz hr2) rr) (nI rr), aI T xc 26 (mrC (mgC fc fg gc gg sz (nI rr) hz hr2) rr), aI T xs 26 (mgS fc fs fg gc gs gg sz (nI rr) hz hr2), aI T xg 26 (idN fg 26), oFL zo zc zs zg hh hz hr2, aI T zc 26 gc, aI T zs 26 gs, aI T zg 26 gg] _ := Eq.subst (motive := fun w => va_P D vwCl w _) eW hP
      have hD : va_D A [oFL xo xc xs xg 26 (mrZ (mgC fc fg gc gg sz (nI rr) hz hr2) rr) (nI rr), aI T xc 26 (mrC (mgC fc fg gc gg sz (nI rr) hz hr2) rr), aI T xs 26 (mgS fc fs fg gc gs gg sz (nI rr) hz hr2), aI T xg 26 (idN fg 26), oFL zo zc zs zg hh hz hr2, aI T zc 26 gc, aI T zs 26 gs, aI T zg 26 gg] := Eq.subst (motive := fun w => va_D A w) eW hD
      exact hret _ _ _ _ _ (fun Qc free hq hf => W.vret hx hb hr hq hf dX0_mergeWith_76 hlk) hP hD hS
    | succ n ih =>
      intro i hi  H locs ls hP hD hS hl
      have hlt : i < 26 := by omega
      refine lv_iload_n hx hb dX0_mergeWith_51 rfl (lv_at hl 0 rfl) ?_
      refine lv_bipush (v := 26) hx hb dX0_mergeWith_52 (by decide) ?_
      refine lv_icmp_ge (tgt := 70) hx hb dX0_mergeWith_54 (by decide) (fun c_x => absurd c_x (nI_ge (b := 26) hlt (by decide))) (fun _ => ?_)
      refine lv_aload_n hx hb dX0_mergeWith_57 rfl (lv_at hl 1 rfl) ?_
      refine va_get (D := D) (ci := 0) (v := .ref xg) (C := RX0) (T := TX0) (N := 6) hx hb hts iX0 hown hC.1 hP 0 rfl rfl 2 (by decide) (hts (.fieldLink RX0 18 "ParrotCounts$FirstList" "changedAt" "[I") (List.mem_of_getElem? (i := 4) rfl)) (fun _ h => h) rfl dX0_mergeWith_58 ?_
      refine lv_iload_n hx hb dX0_mergeWith_61 rfl (lv_at hl 0 rfl) ?_
      refine lv_iload_n hx hb dX0_mergeWith_62 rfl (lv_at hl 0 rfl) ?_
      refine k_iast hx hb hC.1 hP hD hS 3 0 rfl rfl (by omega) dX0_mergeWith_63 (fun H locs hP hD hS => ?_)
      have hP : va_P D vwCl [oFL xo xc xs xg ch (trZ (adC fc gc (flLeast fc fg sz (nI rr)) (flLeast gc gg hz hr2) 26) (cntN (adC fc gc (flLeast fc fg sz (nI rr)) (flLeast gc gg hz hr2) 26) 26) (cntN (adC fc gc (flLeast fc fg sz (nI rr)) (flLeast gc gg hz hr2) 26) 26 - rr)) (nI rr), aI T xc 26 (trC (adC fc gc (flLeast fc fg sz (nI rr)) (flLeast gc gg hz hr2) 26) (cntN (adC fc gc (flLeast fc fg sz (nI rr)) (flLeast gc gg hz hr2) 26) 26) (cntN (adC fc gc (flLeast fc fg sz (nI rr)) (flLeast gc gg hz hr2) 26) 26 - rr)), aI T xs 26 (adS fc fs gc gs (flLeast fc fg sz (nI rr)) (flLeast gc gg hz hr2) 26), aI T xg 26 (upd (idN fg i) i (nI i)), oFL zo zc zs zg hh hz hr2, aI T zc 26 gc, aI T zs 26 gs, aI T zg 26 gg] H := hP
      have hD : va_D A [oFL xo xc xs xg ch (trZ (adC fc gc (flLeast fc fg sz (nI rr)) (flLeast gc gg hz hr2) 26) (cntN (adC fc gc (flLeast fc fg sz (nI rr)) (flLeast gc gg hz hr2) 26) 26) (cntN (adC fc gc (flLeast fc fg sz (nI rr)) (flLeast gc gg hz hr2) 26) 26 - rr)) (nI rr), aI T xc 26 (trC (adC fc gc (flLeast fc fg sz (nI rr)) (flLeast gc gg hz hr2) 26) (cntN (adC fc gc (flLeast fc fg sz (nI rr)) (flLeast gc gg hz hr2) 26) 26) (cntN (adC fc gc (flLeast fc fg sz (nI rr)) (flLeast gc gg hz hr2) 26) 26 - rr)), aI T xs 26 (adS fc fs gc gs (flLeast fc fg sz (nI rr)) (flLeast gc gg hz hr2) 26), aI T xg 26 (upd (idN fg i) i (nI i)), oFL zo zc zs zg hh hz hr2, aI T zc 26 gc, aI T zs 26 gs, aI T zg 26 gg] := hD
      refine lv_iinc (v := nI (i + 1)) (lv' := [(2, .int (nI (i + 1))), (0, .ref xo), (1, .ref zo)]) hx hb dX0_mergeWith_64 hl (k := 0) rfl (nI_1 i) (by decide) rfl (fun ls hl => ?_)
      refine lv_goto (tgt := 51) hx hb dX0_mergeWith_67 (by decide) ?_
      have e_4 : upd (idN fg i) i (nI i) = idN fg (i + 1) := by rw [idN]
      have eW := congrArg (fun zZ => ([oFL xo xc xs xg ch (trZ (adC fc gc (flLeast fc fg sz (nI rr)) (flLeast gc gg hz hr2) 26) (cntN (adC fc gc (flLeast fc fg sz (nI rr)) (flLeast gc gg hz hr2) 26) 26) (cntN (adC fc gc (flLeast fc fg sz (nI rr)) (flLeast gc gg hz hr2) 26) 26 - rr)) (nI rr), aI T xc 26 (trC (adC fc gc (flLeast fc fg sz (nI rr)) (flLeast gc gg hz hr2) 26) (cntN (adC fc gc (flLeast fc fg sz (nI rr)) (flLeast gc gg hz hr2) 26) 26) (cntN (adC fc gc (flLeast fc fg sz (nI rr)) (flLeast gc gg hz hr2) 26) 26 - rr)), aI T xs 26 (adS fc fs gc gs (flLeast fc fg sz (nI rr)) (flLeast gc gg hz hr2) 26), aI T xg 26 zZ, oFL zo zc zs zg hh hz hr2, aI T zc 26 gc, aI T zs 26 gs, aI T zg 26 gg] : va_W)) e_4
      have hP : va_P D vwCl [oFL xo xc xs xg ch (trZ (adC fc gc (flLeast fc fg sz (nI rr)) (flLeast gc gg hz hr2) 26) (cntN (adC fc gc (flLeast fc fg sz (nI rr)) (flLeast gc gg hz hr2) 26) 26) (cntN (adC fc gc (flLeast fc fg sz (nI rr)) (flLeast gc gg hz hr2) 26) 26 - rr)) (nI rr), aI T xc 26 (trC (adC fc gc (flLeast fc fg sz (nI rr)) (flLeast gc gg hz hr2) 26) (cntN (adC fc gc (flLeast fc fg sz (nI rr)) (flLeast gc gg hz hr2) 26) 26) (cntN (adC fc gc (flLeast fc fg sz (nI rr)) (flLeast gc gg hz hr2) 26) 26 - rr)), aI T xs 26 (adS fc fs gc gs (flLeast fc fg sz (nI rr)) (flLeast gc gg hz hr2) 26), aI T xg 26 (idN fg (i + 1)), oFL zo zc zs zg hh hz hr2, aI T zc 26 gc, aI T zs 26 gs, aI T zg 26 gg] _ := Eq.subst (motive := fun w => va_P D vwCl w _) eW hP
      have hD : va_D A [oFL xo xc xs xg ch (trZ (adC fc gc (flLeast fc fg sz (nI rr)) (flLeast gc gg hz hr2) 26) (cntN (adC fc gc (flLeast fc fg sz (nI rr)) (flLeast gc gg hz hr2) 26) 26) (cntN (adC fc gc (flLeast fc fg sz (nI rr)) (flLeast gc gg hz hr2) 26) 26 - rr)) (nI rr), aI T xc 26 (trC (adC fc gc (flLeast fc fg sz (nI rr)) (flLeast gc gg hz hr2) 26) (cntN (adC fc gc (flLeast fc fg sz (nI rr)) (flLeast gc gg hz hr2) 26) 26) (cntN (adC fc gc (flLeast fc fg sz (nI rr)) (flLeast gc gg hz hr2) 26) 26 - rr)), aI T xs 26 (adS fc fs gc gs (flLeast fc fg sz (nI rr)) (flLeast gc gg hz hr2) 26), aI T xg 26 (idN fg (i + 1)), oFL zo zc zs zg hh hz hr2, aI T zc 26 gc, aI T zs 26 gs, aI T zg 26 gg] := Eq.subst (motive := fun w => va_D A w) eW hD
      have hl : lv_has ls 3 [(2, .int (nI (i + 1))), (0, .ref xo), (1, .ref zo)] := lv_sub hl [0, 1, 2] (by rfl)
      exact ih (i + 1) (by omega)  _ _ _ hP hD hS hl
  have loop_23 : ∀ (n t : Nat), t + n = (cntN (adC fc gc (flLeast fc fg sz (nI rr)) (flLeast gc gg hz hr2) 26) 26 - rr) → ∀ (H : Heap) (locs : List Loc) (ls : Array Slot), va_P D vwCl [oFL xo xc xs xg ch (trZ (adC fc gc (flLeast fc fg sz (nI rr)) (flLeast gc gg hz hr2) 26) (cntN (adC fc gc (flLeast fc fg sz (nI rr)) (flLeast gc gg hz hr2) 26) 26) t) (nI rr), aI T xc 26 (trC (adC fc gc (flLeast fc fg sz (nI rr)) (flLeast gc gg hz hr2) 26) (cntN (adC fc gc (flLeast fc fg sz (nI rr)) (flLeast gc gg hz hr2) 26) 26) t), aI T xs 26 (adS fc fs gc gs (flLeast fc fg sz (nI rr)) (flLeast gc gg hz hr2) 26), aI T xg 26 fg, oFL zo zc zs zg hh hz hr2, aI T zc 26 gc, aI T zs 26 gs, aI T zg 26 gg] H → va_D A [oFL xo xc xs xg ch (trZ (adC fc gc (flLeast fc fg sz (nI rr)) (flLeast gc gg hz hr2) 26) (cntN (adC fc gc (flLeast fc fg sz (nI rr)) (flLeast gc gg hz hr2) 26) 26) t) (nI rr), aI T xc 26 (trC (adC fc gc (flLeast fc fg sz (nI rr)) (flLeast gc gg hz hr2) 26) (cntN (adC fc gc (flLeast fc fg sz (nI rr)) (flLeast gc gg hz hr2) 26) 26) t), aI T xs 26 (adS fc fs gc gs (flLeast fc fg sz (nI rr)) (flLeast gc gg hz hr2) 26), aI T xg 26 fg, oFL zo zc zs zg hh hz hr2, aI T zc 26 gc, aI T zs 26 gs, aI T zg 26 gg] → va_S A s.heap H locs → lv_has ls 3 [(2, .int (nI (cntN (adC fc gc (flLeast fc fg sz (nI rr)) (flLeast gc gg hz hr2) 26) 26 - t) - 1)), (0, .ref xo), (1, .ref zo)] → W p l e rX0_mergeWith s m [.ref xo, .ref zo].toArray below meth c H locs 0 0 Q (F0 m 23 ls []) := by
    intro n
    induction n with
    | zero =>
      intro t hi  H locs ls hP hD hS hl
      have hi9 : (cntN (adC fc gc (flLeast fc fg sz (nI rr)) (flLeast gc gg hz hr2) 26) 26 - rr) = t := by omega
      subst hi9
      refine lv_iload_n hx hb dX0_mergeWith_23 rfl (lv_at hl 0 rfl) ?_
      refine lv_aload_n hx hb dX0_mergeWith_24 rfl (lv_at hl 1 rfl) ?_
      refine va_get (D := D) (ci := 0) (v := .int (nI rr)) (C := RX0) (T := TX0) (N := 6) hx hb hts iX0 hown hC.1 hP 0 rfl rfl 5 (by decide) (hts (.fieldLink RX0 34 "ParrotCounts$FirstList" "room" "I") (List.mem_of_getElem? (i := 3) rfl)) (fun _ h => h) rfl dX0_mergeWith_25 ?_
      refine lv_icmp_lt (tgt := 49) hx hb dX0_mergeWith_28 (by decide) (fun _ => ?_) (fun c_x => absurd (nIm_le (by omega) (by omega)) c_x)
      refine lv_iconst (v := 0) hx hb dX0_mergeWith_49 (by decide) ?_
      refine lv_istore_n (lv' := [(2, .int 0), (0, .ref xo), (1, .ref zo)]) hx hb dX0_mergeWith_50 rfl hl (by decide) rfl (fun ls hl => ?_)
      have e_5 : fg = idN fg 0 := rfl
      have eW := congrArg (fun zZ => ([oFL xo xc xs xg ch (trZ (adC fc gc (flLeast fc fg sz (nI rr)) (flLeast gc gg hz hr2) 26) (cntN (adC fc gc (flLeast fc fg sz (nI rr)) (flLeast gc gg hz hr2) 26) 26) (cntN (adC fc gc (flLeast fc fg sz (nI rr)) (flLeast gc gg hz hr2) 26) 26 - rr)) (nI rr), aI T xc 26 (trC (adC fc gc (flLeast fc fg sz (nI rr)) (flLeast gc gg hz hr2) 26) (cntN (adC fc gc (flLeast fc fg sz (nI rr)) (flLeast gc gg hz hr2) 26) 26) (cntN (adC fc gc (flLeast fc fg sz (nI rr)) (flLeast gc gg hz hr2) 26) 26 - rr)), aI T xs 26 (adS fc fs gc gs (flLeast fc fg sz (nI rr)) (flLeast gc gg hz hr2) 26), aI T xg 26 zZ, oFL zo zc zs zg hh hz hr2, aI T zc 26 gc, aI T zs 26 gs, aI T zg 26 gg] : va_W)) e_5
      have hP : va_P D vwCl [oFL xo xc xs xg ch (trZ (adC fc gc (flLeast fc fg sz (nI rr)) (flLeast gc gg hz hr2) 26) (cntN (adC fc gc (flLeast fc fg sz (nI rr)) (flLeast gc gg hz hr2) 26) 26) (cntN (adC fc gc (flLeast fc fg sz (nI rr)) (flLeast gc gg hz hr2) 26) 26 - rr)) (nI rr), aI T xc 26 (trC (adC fc gc (flLeast fc fg sz (nI rr)) (flLeast gc gg hz hr2) 26) (cntN (adC fc gc (flLeast fc fg sz (nI rr)) (flLeast gc gg hz hr2) 26) 26) (cntN (adC fc gc (flLeast fc fg sz (nI rr)) (flLeast gc gg hz hr2) 26) 26 - rr)), aI T xs 26 (adS fc fs gc gs (flLeast fc fg sz (nI rr)) (flLeast gc gg hz hr2) 26), aI T xg 26 (idN fg 0), oFL zo zc zs zg hh hz hr2, aI T zc 26 gc, aI T zs 26 gs, aI T zg 26 gg] _ := Eq.subst (motive := fun w => va_P D vwCl w _) eW hP
      have hD : va_D A [oFL xo xc xs xg ch (trZ (adC fc gc (flLeast fc fg sz (nI rr)) (flLeast gc gg hz hr2) 26) (cntN (adC fc gc (flLeast fc fg sz (nI rr)) (flLeast gc gg hz hr2) 26) 26) (cntN (adC fc gc (flLeast fc fg sz (nI rr)) (flLeast gc gg hz hr2) 26) 26 - rr)) (nI rr), aI T xc 26 (trC (adC fc gc (flLeast fc fg sz (nI rr)) (flLeast gc gg hz hr2) 26) (cntN (adC fc gc (flLeast fc fg sz (nI rr)) (flLeast gc gg hz hr2) 26) 26) (cntN (adC fc gc (flLeast fc fg sz (nI rr)) (flLeast gc gg hz hr2) 26) 26 - rr)), aI T xs 26 (adS fc fs gc gs (flLeast fc fg sz (nI rr)) (flLeast gc gg hz hr2) 26), aI T xg 26 (idN fg 0), oFL zo zc zs zg hh hz hr2, aI T zc 26 gc, aI T zs 26 gs, aI T zg 26 gg] := Eq.subst (motive := fun w => va_D A w) eW hD
      have e_6 : (0 : Int32) = nI 0 := rfl
      have hl : lv_has ls 3 [(2, .int (nI 0)), (0, .ref xo), (1, .ref zo)] := lv_sub hl [0, 1, 2] (by show (_ : List (Nat × Value)) = [(2, .int (nI 0)), (0, .ref xo), (1, .ref zo)]; rw [← e_6]; rfl)
      exact loop_51 26 0 (by omega)  _ _ _ hP hD hS hl
    | succ n ih =>
      intro t hi  H locs ls hP hD hS hl
      have hlt : t < (cntN (adC fc gc (flLeast fc fg sz (nI rr)) (flLeast gc gg hz hr2) 26) 26 - rr) := by omega
      refine lv_iload_n hx hb dX0_mergeWith_23 rfl (lv_at hl 0 rfl) ?_
      refine lv_aload_n hx hb dX0_mergeWith_24 rfl (lv_at hl 1 rfl) ?_
      refine va_get (D := D) (ci := 0) (v := .int (nI rr)) (C := RX0) (T := TX0) (N := 6) hx hb hts iX0 hown hC.1 hP 0 rfl rfl 5 (by decide) (hts (.fieldLink RX0 34 "ParrotCounts$FirstList" "room" "I") (List.mem_of_getElem? (i := 3) rfl)) (fun _ h => h) rfl dX0_mergeWith_25 ?_
      refine lv_icmp_lt (tgt := 49) hx hb dX0_mergeWith_28 (by decide) (fun c_x => absurd c_x (nIm_ge (by omega) (by omega))) (fun _ => ?_)
      refine lv_aload_n hx hb dX0_mergeWith_31 rfl (lv_at hl 1 rfl) ?_
      refine lv_aload_n hx hb dX0_mergeWith_32 rfl (lv_at hl 1 rfl) ?_
      refine va_get (D := D) (ci := 0) (v := .ref xc) (C := RX0) (T := TX0) (N := 6) hx hb hts iX0 hown hC.1 hP 0 rfl rfl 0 (by decide) (hts (.fieldLink RX0 9 "ParrotCounts$FirstList" "counts" "[I") (List.mem_of_getElem? (i := 1) rfl)) (fun _ h => h) rfl dX0_mergeWith_33 ?_
      refine lv_iload_n hx hb dX0_mergeWith_36 rfl (lv_at hl 0 rfl) ?_
      have hP := hP.sub (ws' := [aI T xc 26 (trC (adC fc gc (flLeast fc fg sz (nI rr)) (flLeast gc gg hz hr2) 26) (cntN (adC fc gc (flLeast fc fg sz (nI rr)) (flLeast gc gg hz hr2) 26) 26) t)] ++ [oFL xo xc xs xg ch (trZ (adC fc gc (flLeast fc fg sz (nI rr)) (flLeast gc gg hz hr2) 26) (cntN (adC fc gc (flLeast fc fg sz (nI rr)) (flLeast gc gg hz hr2) 26) 26) t) (nI rr), aI T xs 26 (adS fc fs gc gs (flLeast fc fg sz (nI rr)) (flLeast gc gg hz hr2) 26), aI T xg 26 fg, oFL zo zc zs zg hh hz hr2, aI T zc 26 gc, aI T zs 26 gs, aI T zg 26 gg]) [1, 0, 2, 3, 4, 5, 6, 7] rfl
      have hD := hD.sub (ws' := [aI T xc 26 (trC (adC fc gc (flLeast fc fg sz (nI rr)) (flLeast gc gg hz hr2) 26) (cntN (adC fc gc (flLeast fc fg sz (nI rr)) (flLeast gc gg hz hr2) 26) 26) t)] ++ [oFL xo xc xs xg ch (trZ (adC fc gc (flLeast fc fg sz (nI rr)) (flLeast gc gg hz hr2) 26) (cntN (adC fc gc (flLeast fc fg sz (nI rr)) (flLeast gc gg hz hr2) 26) 26) t) (nI rr), aI T xs 26 (adS fc fs gc gs (flLeast fc fg sz (nI rr)) (flLeast gc gg hz hr2) 26), aI T xg 26 fg, oFL zo zc zs zg hh hz hr2, aI T zc 26 gc, aI T zs 26 gs, aI T zg 26 gg]) [1, 0, 2, 3, 4, 5, 6, 7] (by decide) rfl
      refine kSN (As := [.ref xc, .int (nI (cntN (adC fc gc (flLeast fc fg sz (nI rr)) (flLeast gc gg hz hr2) 26) 26 - t) - 1)]) (rest := [.ref xo]) ⟨hx, hb, hml, hown, hts⟩ (c_X8_parrotAt l D T xc (trC (adC fc gc (flLeast fc fg sz (nI rr)) (flLeast gc gg hz hr2) 26) (cntN (adC fc gc (flLeast fc fg sz (nI rr)) (flLeast gc gg hz hr2) 26) 26) t) (nI (cntN (adC fc gc (flLeast fc fg sz (nI rr)) (flLeast gc gg hz hr2) 26) 26 - t) - 1) ) ⟨va_cnB (host := RX8) 2 hts gX0_mergeWith_X8_parrotAt_n71 rfl rfl rfl (hC.nw 4 (q := (RX0, 71, yX8_parrotAt)) rfl) (hts (.initialized RX8) (List.mem_of_getElem? (i := 33) rfl)) (by decide +kernel) ⟨Nat.le_of_ble_eq_true rfl, Nat.le_of_ble_eq_true rfl⟩, hts (.static yX8_parrotAt) (List.mem_of_getElem? (i := 35) rfl), trivial⟩ hC hP hD hS hA rfl hl.1 rfl (Nat.le_of_ble_eq_true rfl) dX0_mergeWith_37 ⟨Nat.zero_le _, Nat.zero_le _⟩ (fun H locs hP hD hS => ?_)
      have hP := hP.sub (ws' := [oFL xo xc xs xg ch (trZ (adC fc gc (flLeast fc fg sz (nI rr)) (flLeast gc gg hz hr2) 26) (cntN (adC fc gc (flLeast fc fg sz (nI rr)) (flLeast gc gg hz hr2) 26) 26) t) (nI rr), aI T xc 26 (trC (adC fc gc (flLeast fc fg sz (nI rr)) (flLeast gc gg hz hr2) 26) (cntN (adC fc gc (flLeast fc fg sz (nI rr)) (flLeast gc gg hz hr2) 26) 26) t), aI T xs 26 (adS fc fs gc gs (flLeast fc fg sz (nI rr)) (flLeast gc gg hz hr2) 26), aI T xg 26 fg, oFL zo zc zs zg hh hz hr2, aI T zc 26 gc, aI T zs 26 gs, aI T zg 26 gg]) [1, 0, 2, 3, 4, 5, 6, 7] rfl
      have hD := hD.sub (ws' := [oFL xo xc xs xg ch (trZ (adC fc gc (flLeast fc fg sz (nI rr)) (flLeast gc gg hz hr2) 26) (cntN (adC fc gc (flLeast fc fg sz (nI rr)) (flLeast gc gg hz hr2) 26) 26) t) (nI rr), aI T xc 26 (trC (adC fc gc (flLeast fc fg sz (nI rr)) (flLeast gc gg hz hr2) 26) (cntN (adC fc gc (flLeast fc fg sz (nI rr)) (flLeast gc gg hz hr2) 26) 26) t), aI T xs 26 (adS fc fs gc gs (flLeast fc fg sz (nI rr)) (flLeast gc gg hz hr2) 26), aI T xg 26 fg, oFL zo zc zs zg hh hz hr2, aI T zc 26 gc, aI T zs 26 gs, aI T zg 26 gg]) [1, 0, 2, 3, 4, 5, 6, 7] (by decide) rfl
      refine W.eq (g2 := F0 m 40 ls [.int (pAtN (trC (adC fc gc (flLeast fc fg sz (nI rr)) (flLeast gc gg hz hr2) 26) (cntN (adC fc gc (flLeast fc fg sz (nI rr)) (flLeast gc gg hz hr2) 26) 26) t) (nI (cntN (adC fc gc (flLeast fc fg sz (nI rr)) (flLeast gc gg hz hr2) 26) 26 - t) - 1) 26 0), .ref xo]) rfl ?_
      have hP := hP.sub (ws' := [oFL xo xc xs xg ch (trZ (adC fc gc (flLeast fc fg sz (nI rr)) (flLeast gc gg hz hr2) 26) (cntN (adC fc gc (flLeast fc fg sz (nI rr)) (flLeast gc gg hz hr2) 26) 26) t) (nI rr), aI T xc 26 (trC (adC fc gc (flLeast fc fg sz (nI rr)) (flLeast gc gg hz hr2) 26) (cntN (adC fc gc (flLeast fc fg sz (nI rr)) (flLeast gc gg hz hr2) 26) 26) t), aI T xs 26 (adS fc fs gc gs (flLeast fc fg sz (nI rr)) (flLeast gc gg hz hr2) 26), aI T xg 26 fg] ++ [oFL zo zc zs zg hh hz hr2, aI T zc 26 gc, aI T zs 26 gs, aI T zg 26 gg]) [0, 1, 2, 3, 4, 5, 6, 7] rfl
      have hD := hD.sub (ws' := [oFL xo xc xs xg ch (trZ (adC fc gc (flLeast fc fg sz (nI rr)) (flLeast gc gg hz hr2) 26) (cntN (adC fc gc (flLeast fc fg sz (nI rr)) (flLeast gc gg hz hr2) 26) 26) t) (nI rr), aI T xc 26 (trC (adC fc gc (flLeast fc fg sz (nI rr)) (flLeast gc gg hz hr2) 26) (cntN (adC fc gc (flLeast fc fg sz (nI rr)) (flLeast gc gg hz hr2) 26) 26) t), aI T xs 26 (adS fc fs gc gs (flLeast fc fg sz (nI rr)) (flLeast gc gg hz hr2) 26), aI T xg 26 fg] ++ [oFL zo zc zs zg hh hz hr2, aI T zc 26 gc, aI T zs 26 gs, aI T zg 26 gg]) [0, 1, 2, 3, 4, 5, 6, 7] (by decide) rfl
      refine kV (ci := 0) (As := [.int (pAtN (trC (adC fc gc (flLeast fc fg sz (nI rr)) (flLeast gc gg hz hr2) 26) (cntN (adC fc gc (flLeast fc fg sz (nI rr)) (flLeast gc gg hz hr2) 26) 26) t) (nI (cntN (adC fc gc (flLeast fc fg sz (nI rr)) (flLeast gc gg hz hr2) 26) 26 - t) - 1) 26 0)]) (rest := []) ⟨hx, hb, hml, hown, hts⟩ (c_X0_remove l D T xo xc xs xg (trC (adC fc gc (flLeast fc fg sz (nI rr)) (flLeast gc gg hz hr2) 26) (cntN (adC fc gc (flLeast fc fg sz (nI rr)) (flLeast gc gg hz hr2) 26) 26) t) (adS fc fs gc gs (flLeast fc fg sz (nI rr)) (flLeast gc gg hz hr2) 26) fg ch (trZ (adC fc gc (flLeast fc fg sz (nI rr)) (flLeast gc gg hz hr2) 26) (cntN (adC fc gc (flLeast fc fg sz (nI rr)) (flLeast gc gg hz hr2) 26) 26) t) (nI rr) (pAtN (trC (adC fc gc (flLeast fc fg sz (nI rr)) (flLeast gc gg hz hr2) 26) (cntN (adC fc gc (flLeast fc fg sz (nI rr)) (flLeast gc gg hz hr2) 26) 26) t) (nI (cntN (adC fc gc (flLeast fc fg sz (nI rr)) (flLeast gc gg hz hr2) 26) 26 - t) - 1) 26 0) pAtN_vp) (cwV 1 hts gX0_mergeWith_X0_remove rfl rfl rfl (by decide +kernel) ⟨Nat.le_of_ble_eq_true rfl, Nat.le_of_ble_eq_true rfl⟩) hC hP hD hS hA rfl rfl rfl hl.1 rfl (Nat.le_of_ble_eq_true rfl) dX0_mergeWith_40 ⟨Nat.zero_le _, Nat.zero_le _⟩ (fun H locs hP hD hS => ?_)
      have hP : va_P D vwCl [oFL xo xc xs xg ch (flRemZ (trZ (adC fc gc (flLeast fc fg sz (nI rr)) (flLeast gc gg hz hr2) 26) (cntN (adC fc gc (flLeast fc fg sz (nI rr)) (flLeast gc gg hz hr2) 26) 26) t) (pAtN (trC (adC fc gc (flLeast fc fg sz (nI rr)) (flLeast gc gg hz hr2) 26) (cntN (adC fc gc (flLeast fc fg sz (nI rr)) (flLeast gc gg hz hr2) 26) 26) t) (nI (cntN (adC fc gc (flLeast fc fg sz (nI rr)) (flLeast gc gg hz hr2) 26) 26 - t) - 1) 26 0)) (nI rr), aI T xc 26 (flRemC (trC (adC fc gc (flLeast fc fg sz (nI rr)) (flLeast gc gg hz hr2) 26) (cntN (adC fc gc (flLeast fc fg sz (nI rr)) (flLeast gc gg hz hr2) 26) 26) t) (pAtN (trC (adC fc gc (flLeast fc fg sz (nI rr)) (flLeast gc gg hz hr2) 26) (cntN (adC fc gc (flLeast fc fg sz (nI rr)) (flLeast gc gg hz hr2) 26) 26) t) (nI (cntN (adC fc gc (flLeast fc fg sz (nI rr)) (flLeast gc gg hz hr2) 26) 26 - t) - 1) 26 0)), aI T xs 26 (adS fc fs gc gs (flLeast fc fg sz (nI rr)) (flLeast gc gg hz hr2) 26), aI T xg 26 fg, oFL zo zc zs zg hh hz hr2, aI T zc 26 gc, aI T zs 26 gs, aI T zg 26 gg] H := hP
      have hD : va_D A [oFL xo xc xs xg ch (flRemZ (trZ (adC fc gc (flLeast fc fg sz (nI rr)) (flLeast gc gg hz hr2) 26) (cntN (adC fc gc (flLeast fc fg sz (nI rr)) (flLeast gc gg hz hr2) 26) 26) t) (pAtN (trC (adC fc gc (flLeast fc fg sz (nI rr)) (flLeast gc gg hz hr2) 26) (cntN (adC fc gc (flLeast fc fg sz (nI rr)) (flLeast gc gg hz hr2) 26) 26) t) (nI (cntN (adC fc gc (flLeast fc fg sz (nI rr)) (flLeast gc gg hz hr2) 26) 26 - t) - 1) 26 0)) (nI rr), aI T xc 26 (flRemC (trC (adC fc gc (flLeast fc fg sz (nI rr)) (flLeast gc gg hz hr2) 26) (cntN (adC fc gc (flLeast fc fg sz (nI rr)) (flLeast gc gg hz hr2) 26) 26) t) (pAtN (trC (adC fc gc (flLeast fc fg sz (nI rr)) (flLeast gc gg hz hr2) 26) (cntN (adC fc gc (flLeast fc fg sz (nI rr)) (flLeast gc gg hz hr2) 26) 26) t) (nI (cntN (adC fc gc (flLeast fc fg sz (nI rr)) (flLeast gc gg hz hr2) 26) 26 - t) - 1) 26 0)), aI T xs 26 (adS fc fs gc gs (flLeast fc fg sz (nI rr)) (flLeast gc gg hz hr2) 26), aI T xg 26 fg, oFL zo zc zs zg hh hz hr2, aI T zc 26 gc, aI T zs 26 gs, aI T zg 26 gg] := hD
      refine W.eq (g2 := F0 m 43 ls []) rfl ?_
      refine lv_iinc (v := (nI (cntN (adC fc gc (flLeast fc fg sz (nI rr)) (flLeast gc gg hz hr2) 26) 26 - t) - 1) + (-1)) (lv' := [(2, .int ((nI (cntN (adC fc gc (flLeast fc fg sz (nI rr)) (flLeast gc gg hz hr2) 26) 26 - t) - 1) + (-1))), (0, .ref xo), (1, .ref zo)]) hx hb dX0_mergeWith_43 hl (k := 0) rfl rfl (by decide) rfl (fun ls hl => ?_)
      refine lv_goto (tgt := 23) hx hb dX0_mergeWith_46 (by decide) ?_
      have e_7 : flRemZ (trZ (adC fc gc (flLeast fc fg sz (nI rr)) (flLeast gc gg hz hr2) 26) (cntN (adC fc gc (flLeast fc fg sz (nI rr)) (flLeast gc gg hz hr2) 26) 26) t) (pAtN (trC (adC fc gc (flLeast fc fg sz (nI rr)) (flLeast gc gg hz hr2) 26) (cntN (adC fc gc (flLeast fc fg sz (nI rr)) (flLeast gc gg hz hr2) 26) 26) t) (nI (cntN (adC fc gc (flLeast fc fg sz (nI rr)) (flLeast gc gg hz hr2) 26) 26 - t) - 1) 26 0) = trZ (adC fc gc (flLeast fc fg sz (nI rr)) (flLeast gc gg hz hr2) 26) (cntN (adC fc gc (flLeast fc fg sz (nI rr)) (flLeast gc gg hz hr2) 26) 26) (t + 1) := by first | with_reducible exact nIm_step (by omega) | (rw [trC]; done) | (rw [trZ]; done)
      have e_8 : flRemC (trC (adC fc gc (flLeast fc fg sz (nI rr)) (flLeast gc gg hz hr2) 26) (cntN (adC fc gc (flLeast fc fg sz (nI rr)) (flLeast gc gg hz hr2) 26) 26) t) (pAtN (trC (adC fc gc (flLeast fc fg sz (nI rr)) (flLeast gc gg hz hr2) 26) (cntN (adC fc gc (flLeast fc fg sz (nI rr)) (flLeast gc gg hz hr2) 26) 26) t) (nI (cntN (adC fc gc (flLeast fc fg sz (nI rr)) (flLeast gc gg hz hr2) 26) 26 - t) - 1) 26 0) = trC (adC fc gc (flLeast fc fg sz (nI rr)) (flLeast gc gg hz hr2) 26) (cntN (adC fc gc (flLeast fc fg sz (nI rr)) (flLeast gc gg hz hr2) 26) 26) (t + 1) := by first | with_reducible exact nIm_step (by omega) | (rw [trC]; done) | (rw [trZ]; done)
      have eW := (congrArg (fun zZ => ([oFL xo xc xs xg ch zZ (nI rr), aI T xc 26 (flRemC (trC (adC fc gc (flLeast fc fg sz (nI rr)) (flLeast gc gg hz hr2) 26) (cntN (adC fc gc (flLeast fc fg sz (nI rr)) (flLeast gc gg hz hr2) 26) 26) t) (pAtN (trC (adC fc gc (flLeast fc fg sz (nI rr)) (flLeast gc gg hz hr2) 26) (cntN (adC fc gc (flLeast fc fg sz (nI rr)) (flLeast gc gg hz hr2) 26) 26) t) (nI (cntN (adC fc gc (flLeast fc fg sz (nI rr)) (flLeast gc gg hz hr2) 26) 26 - t) - 1) 26 0)), aI T xs 26 (adS fc fs gc gs (flLeast fc fg sz (nI rr)) (flLeast gc gg hz hr2) 26), aI T xg 26 fg, oFL zo zc zs zg hh hz hr2, aI T zc 26 gc, aI T zs 26 gs, aI T zg 26 gg] : va_W)) e_7).trans (congrArg (fun zZ => ([oFL xo xc xs xg ch (trZ (adC fc gc (flLeast fc fg sz (nI rr)) (flLeast gc gg hz hr2) 26) (cntN (adC fc gc (flLeast fc fg sz (nI rr)) (flLeast gc gg hz hr2) 26) 26) (t + 1)) (nI rr), aI T xc 26 zZ, aI T xs 26 (adS fc fs gc gs (flLeast fc fg sz (nI rr)) (flLeast gc gg hz hr2) 26), aI T xg 26 fg, oFL zo zc zs zg hh hz hr2, aI T zc 26 gc, aI T zs 26 gs, aI T zg 26 gg] : va_W)) e_8)
      have hP : va_P D vwCl [oFL xo xc xs xg ch (trZ (adC fc gc (flLeast fc fg sz (nI rr)) (flLeast gc gg hz hr2) 26) (cntN (adC fc gc (flLeast fc fg sz (nI rr)) (flLeast gc gg hz hr2) 26) 26) (t + 1)) (nI rr), aI T xc 26 (trC (adC fc gc (flLeast fc fg sz (nI rr)) (flLeast gc gg hz hr2) 26) (cntN (adC fc gc (flLeast fc fg sz (nI rr)) (flLeast gc gg hz hr2) 26) 26) (t + 1)), aI T xs 26 (adS fc fs gc gs (flLeast fc fg sz (nI rr)) (flLeast gc gg hz hr2) 26), aI T xg 26 fg, oFL zo zc zs zg hh hz hr2, aI T zc 26 gc, aI T zs 26 gs, aI T zg 26 gg] _ := Eq.subst (motive := fun w => va_P D vwCl w _) eW hP
      have hD : va_D A [oFL xo xc xs xg ch (trZ (adC fc gc (flLeast fc fg sz (nI rr)) (flLeast gc gg hz hr2) 26) (cntN (adC fc gc (flLeast fc fg sz (nI rr)) (flLeast gc gg hz hr2) 26) 26) (t + 1)) (nI rr), aI T xc 26 (trC (adC fc gc (flLeast fc fg sz (nI rr)) (flLeast gc gg hz hr2) 26) (cntN (adC fc gc (flLeast fc fg sz (nI rr)) (flLeast gc gg hz hr2) 26) 26) (t + 1)), aI T xs 26 (adS fc fs gc gs (flLeast fc fg sz (nI rr)) (flLeast gc gg hz hr2) 26), aI T xg 26 fg, oFL zo zc zs zg hh hz hr2, aI T zc 26 gc, aI T zs 26 gs, aI T zg 26 gg] := Eq.subst (motive := fun w => va_D A w) eW hD
      have e_9 : ((nI (cntN (adC fc gc (flLeast fc fg sz (nI rr)) (flLeast gc gg hz hr2) 26) 26 - t) - 1) + (-1) : Int32) = nI (cntN (adC fc gc (flLeast fc fg sz (nI rr)) (flLeast gc gg hz hr2) 26) 26 - (t + 1)) - 1 := by first | with_reducible exact nIm_step (by omega) | (rw [trC]; done) | (rw [trZ]; done)
      have hl : lv_has ls 3 [(2, .int (nI (cntN (adC fc gc (flLeast fc fg sz (nI rr)) (flLeast gc gg hz hr2) 26) 26 - (t + 1)) - 1)), (0, .ref xo), (1, .ref zo)] := lv_sub hl [0, 1, 2] (by show (_ : List (Nat × Value)) = [(2, .int (nI (cntN (adC fc gc (flLeast fc fg sz (nI rr)) (flLeast gc gg hz hr2) 26) 26 - (t + 1)) - 1)), (0, .ref xo), (1, .ref zo)]; rw [← e_9]; rfl)
      exact ih (t + 1) (by omega)  _ _ _ hP hD hS hl
  have hl : lv_has ls 3 [(0, .ref xo), (1, .ref zo)] := hl
  have hP : va_P D vwCl [oFL xo xc xs xg ch sz (nI rr), aI T xc 26 fc, aI T xs 26 fs, aI T xg 26 fg, oFL zo zc zs zg hh hz hr2, aI T zc 26 gc, aI T zs 26 gs, aI T zg 26 gg] s.heap := hP
  have hD : va_D A [oFL xo xc xs xg ch sz (nI rr), aI T xc 26 fc, aI T xs 26 fs, aI T xg 26 fg, oFL zo zc zs zg hh hz hr2, aI T zc 26 gc, aI T zs 26 gs, aI T zg 26 gg] := hD
  refine lv_aload_n hx hb dX0_mergeWith_0 rfl (lv_at hl 0 rfl) ?_
  refine lv_aload_n hx hb dX0_mergeWith_1 rfl (lv_at hl 1 rfl) ?_
  have hP := hP.sub (ws' := [oFL xo xc xs xg ch sz (nI rr), aI T xc 26 fc, aI T xs 26 fs, aI T xg 26 fg, oFL zo zc zs zg hh hz hr2, aI T zc 26 gc, aI T zs 26 gs, aI T zg 26 gg] ++ []) [0, 1, 2, 3, 4, 5, 6, 7] rfl
  have hD := hD.sub (ws' := [oFL xo xc xs xg ch sz (nI rr), aI T xc 26 fc, aI T xs 26 fs, aI T xg 26 fg, oFL zo zc zs zg hh hz hr2, aI T zc 26 gc, aI T zs 26 gs, aI T zg 26 gg] ++ []) [0, 1, 2, 3, 4, 5, 6, 7] (by decide) rfl
  refine kV (ci := 0) (As := [.ref zo]) (rest := []) ⟨hx, hb, hml, hown, hts⟩ (c_X0_addCounters l D T xo xc xs xg fc fs fg ch sz (nI rr) zo zc zs zg gc gs gg hh hz hr2 ) (cwV 1 hts gX0_mergeWith_X0_addCounters rfl rfl rfl (by decide +kernel) ⟨Nat.le_of_ble_eq_true rfl, Nat.le_of_ble_eq_true rfl⟩) hC hP hD hS hA rfl rfl rfl hl.1 rfl (Nat.le_of_ble_eq_true rfl) dX0_mergeWith_2 ⟨Nat.zero_le _, Nat.zero_le _⟩ (fun H locs hP hD hS => ?_)
  have hP : va_P D vwCl [oFL xo xc xs xg ch sz (nI rr), aI T xc 26 (adC fc gc (flLeast fc fg sz (nI rr)) (flLeast gc gg hz hr2) 26), aI T xs 26 (adS fc fs gc gs (flLeast fc fg sz (nI rr)) (flLeast gc gg hz hr2) 26), aI T xg 26 fg, oFL zo zc zs zg hh hz hr2, aI T zc 26 gc, aI T zs 26 gs, aI T zg 26 gg] H := hP
  have hD : va_D A [oFL xo xc xs xg ch sz (nI rr), aI T xc 26 (adC fc gc (flLeast fc fg sz (nI rr)) (flLeast gc gg hz hr2) 26), aI T xs 26 (adS fc fs gc gs (flLeast fc fg sz (nI rr)) (flLeast gc gg hz hr2) 26), aI T xg 26 fg, oFL zo zc zs zg hh hz hr2, aI T zc 26 gc, aI T zs 26 gs, aI T zg 26 gg] := hD
  refine W.eq (g2 := F0 m 5 ls []) rfl ?_
  refine lv_aload_n hx hb dX0_mergeWith_5 rfl (lv_at hl 0 rfl) ?_
  refine lv_aload_n hx hb dX0_mergeWith_6 rfl (lv_at hl 0 rfl) ?_
  refine va_get (D := D) (ci := 0) (v := .ref xc) (C := RX0) (T := TX0) (N := 6) hx hb hts iX0 hown hC.1 hP 0 rfl rfl 0 (by decide) (hts (.fieldLink RX0 9 "ParrotCounts$FirstList" "counts" "[I") (List.mem_of_getElem? (i := 1) rfl)) (fun _ h => h) rfl dX0_mergeWith_7 ?_
  have hP := hP.sub (ws' := [aI T xc 26 (adC fc gc (flLeast fc fg sz (nI rr)) (flLeast gc gg hz hr2) 26)] ++ [oFL xo xc xs xg ch sz (nI rr), aI T xs 26 (adS fc fs gc gs (flLeast fc fg sz (nI rr)) (flLeast gc gg hz hr2) 26), aI T xg 26 fg, oFL zo zc zs zg hh hz hr2, aI T zc 26 gc, aI T zs 26 gs, aI T zg 26 gg]) [1, 0, 2, 3, 4, 5, 6, 7] rfl
  have hD := hD.sub (ws' := [aI T xc 26 (adC fc gc (flLeast fc fg sz (nI rr)) (flLeast gc gg hz hr2) 26)] ++ [oFL xo xc xs xg ch sz (nI rr), aI T xs 26 (adS fc fs gc gs (flLeast fc fg sz (nI rr)) (flLeast gc gg hz hr2) 26), aI T xg 26 fg, oFL zo zc zs zg hh hz hr2, aI T zc 26 gc, aI T zs 26 gs, aI T zg 26 gg]) [1, 0, 2, 3, 4, 5, 6, 7] (by decide) rfl
  refine kSN (As := [.ref xc]) (rest := [.ref xo]) ⟨hx, hb, hml, hown, hts⟩ (c_X8_countersIn l D T xc (adC fc gc (flLeast fc fg sz (nI rr)) (flLeast gc gg hz hr2) 26) ) ⟨va_cnB (host := RX8) 1 hts gX0_mergeWith_X8_countersIn_n67 rfl rfl rfl (hC.nw 3 (q := (RX0, 67, yX8_countersIn)) rfl) (hts (.initialized RX8) (List.mem_of_getElem? (i := 33) rfl)) (by decide +kernel) ⟨Nat.le_of_ble_eq_true rfl, Nat.le_of_ble_eq_true rfl⟩, hts (.static yX8_countersIn) (List.mem_of_getElem? (i := 32) rfl), trivial⟩ hC hP hD hS hA rfl hl.1 rfl (Nat.le_of_ble_eq_true rfl) dX0_mergeWith_10 ⟨Nat.zero_le _, Nat.zero_le _⟩ (fun H locs hP hD hS => ?_)
  have hP := hP.sub (ws' := [oFL xo xc xs xg ch sz (nI rr), aI T xc 26 (adC fc gc (flLeast fc fg sz (nI rr)) (flLeast gc gg hz hr2) 26), aI T xs 26 (adS fc fs gc gs (flLeast fc fg sz (nI rr)) (flLeast gc gg hz hr2) 26), aI T xg 26 fg, oFL zo zc zs zg hh hz hr2, aI T zc 26 gc, aI T zs 26 gs, aI T zg 26 gg]) [1, 0, 2, 3, 4, 5, 6, 7] rfl
  have hD := hD.sub (ws' := [oFL xo xc xs xg ch sz (nI rr), aI T xc 26 (adC fc gc (flLeast fc fg sz (nI rr)) (flLeast gc gg hz hr2) 26), aI T xs 26 (adS fc fs gc gs (flLeast fc fg sz (nI rr)) (flLeast gc gg hz hr2) 26), aI T xg 26 fg, oFL zo zc zs zg hh hz hr2, aI T zc 26 gc, aI T zs 26 gs, aI T zg 26 gg]) [1, 0, 2, 3, 4, 5, 6, 7] (by decide) rfl
  refine W.eq (g2 := F0 m 13 ls [.int (nI (cntN (adC fc gc (flLeast fc fg sz (nI rr)) (flLeast gc gg hz hr2) 26) 26)), .ref xo]) rfl ?_
  refine va_put (D := D) (ci := 0) (v := .int (nI (cntN (adC fc gc (flLeast fc fg sz (nI rr)) (flLeast gc gg hz hr2) 26) 26))) (ty := .int) (C := RX0) (T := TX0) (N := 6) hx hb hts iX0 tyX0 tyX0_ok nmX0 hown hC.1 hP hD hS 0 rfl rfl 4 (by decide) (hts (.fieldLink RX0 31 "ParrotCounts$FirstList" "size" "I") (List.mem_of_getElem? (i := 2) rfl)) (fun _ h9 => h9) rfl (by decide +kernel) rfl rfl (Nat.le_of_ble_eq_true rfl) dX0_mergeWith_13 (fun H locs hP hD hS => ?_)
  have hP : va_P D vwCl [oFL xo xc xs xg ch (nI (cntN (adC fc gc (flLeast fc fg sz (nI rr)) (flLeast gc gg hz hr2) 26) 26)) (nI rr), aI T xc 26 (adC fc gc (flLeast fc fg sz (nI rr)) (flLeast gc gg hz hr2) 26), aI T xs 26 (adS fc fs gc gs (flLeast fc fg sz (nI rr)) (flLeast gc gg hz hr2) 26), aI T xg 26 fg, oFL zo zc zs zg hh hz hr2, aI T zc 26 gc, aI T zs 26 gs, aI T zg 26 gg] H := hP
  have hD : va_D A [oFL xo xc xs xg ch (nI (cntN (adC fc gc (flLeast fc fg sz (nI rr)) (flLeast gc gg hz hr2) 26) 26)) (nI rr), aI T xc 26 (adC fc gc (flLeast fc fg sz (nI rr)) (flLeast gc gg hz hr2) 26), aI T xs 26 (adS fc fs gc gs (flLeast fc fg sz (nI rr)) (flLeast gc gg hz hr2) 26), aI T xg 26 fg, oFL zo zc zs zg hh hz hr2, aI T zc 26 gc, aI T zs 26 gs, aI T zg 26 gg] := hD
  refine lv_aload_n hx hb dX0_mergeWith_16 rfl (lv_at hl 0 rfl) ?_
  refine va_get (D := D) (ci := 0) (v := .int (nI (cntN (adC fc gc (flLeast fc fg sz (nI rr)) (flLeast gc gg hz hr2) 26) 26))) (C := RX0) (T := TX0) (N := 6) hx hb hts iX0 hown hC.1 hP 0 rfl rfl 4 (by decide) (hts (.fieldLink RX0 31 "ParrotCounts$FirstList" "size" "I") (List.mem_of_getElem? (i := 2) rfl)) (fun _ h => h) rfl dX0_mergeWith_17 ?_
  refine lv_iconst (v := 1) hx hb dX0_mergeWith_20 (by decide) ?_
  refine lv_isub hx hb dX0_mergeWith_21 ?_
  refine lv_istore_n (lv' := [(2, .int ((nI (cntN (adC fc gc (flLeast fc fg sz (nI rr)) (flLeast gc gg hz hr2) 26) 26)) - 1)), (0, .ref xo), (1, .ref zo)]) hx hb dX0_mergeWith_22 rfl hl (by decide) rfl (fun ls hl => ?_)
  have e_10 : nI (cntN (adC fc gc (flLeast fc fg sz (nI rr)) (flLeast gc gg hz hr2) 26) 26) = trZ (adC fc gc (flLeast fc fg sz (nI rr)) (flLeast gc gg hz hr2) 26) (cntN (adC fc gc (flLeast fc fg sz (nI rr)) (flLeast gc gg hz hr2) 26) 26) 0 := by first | with_reducible rfl | (rw [Nat.sub_zero]; done) | (rw [trC]; done) | (rw [trZ]; done)
  have e_11 : (adC fc gc (flLeast fc fg sz (nI rr)) (flLeast gc gg hz hr2) 26) = trC (adC fc gc (flLeast fc fg sz (nI rr)) (flLeast gc gg hz hr2) 26) (cntN (adC fc gc (flLeast fc fg sz (nI rr)) (flLeast gc gg hz hr2) 26) 26) 0 := by first | with_reducible rfl | (rw [Nat.sub_zero]; done) | (rw [trC]; done) | (rw [trZ]; done)
  have eW := (congrArg (fun zZ => ([oFL xo xc xs xg ch zZ (nI rr), aI T xc 26 (adC fc gc (flLeast fc fg sz (nI rr)) (flLeast gc gg hz hr2) 26), aI T xs 26 (adS fc fs gc gs (flLeast fc fg sz (nI rr)) (flLeast gc gg hz hr2) 26), aI T xg 26 fg, oFL zo zc zs zg hh hz hr2, aI T zc 26 gc, aI T zs 26 gs, aI T zg 26 gg] : va_W)) e_10).trans (congrArg (fun zZ => ([oFL xo xc xs xg ch (trZ (adC fc gc (flLeast fc fg sz (nI rr)) (flLeast gc gg hz hr2) 26) (cntN (adC fc gc (flLeast fc fg sz (nI rr)) (flLeast gc gg hz hr2) 26) 26) 0) (nI rr), aI T xc 26 zZ, aI T xs 26 (adS fc fs gc gs (flLeast fc fg sz (nI rr)) (flLeast gc gg hz hr2) 26), aI T xg 26 fg, oFL zo zc zs zg hh hz hr2, aI T zc 26 gc, aI T zs 26 gs, aI T zg 26 gg] : va_W)) e_11)
  have hP : va_P D vwCl [oFL xo xc xs xg ch (trZ (adC fc gc (flLeast fc fg sz (nI rr)) (flLeast gc gg hz hr2) 26) (cntN (adC fc gc (flLeast fc fg sz (nI rr)) (flLeast gc gg hz hr2) 26) 26) 0) (nI rr), aI T xc 26 (trC (adC fc gc (flLeast fc fg sz (nI rr)) (flLeast gc gg hz hr2) 26) (cntN (adC fc gc (flLeast fc fg sz (nI rr)) (flLeast gc gg hz hr2) 26) 26) 0), aI T xs 26 (adS fc fs gc gs (flLeast fc fg sz (nI rr)) (flLeast gc gg hz hr2) 26), aI T xg 26 fg, oFL zo zc zs zg hh hz hr2, aI T zc 26 gc, aI T zs 26 gs, aI T zg 26 gg] _ := Eq.subst (motive := fun w => va_P D vwCl w _) eW hP
  have hD : va_D A [oFL xo xc xs xg ch (trZ (adC fc gc (flLeast fc fg sz (nI rr)) (flLeast gc gg hz hr2) 26) (cntN (adC fc gc (flLeast fc fg sz (nI rr)) (flLeast gc gg hz hr2) 26) 26) 0) (nI rr), aI T xc 26 (trC (adC fc gc (flLeast fc fg sz (nI rr)) (flLeast gc gg hz hr2) 26) (cntN (adC fc gc (flLeast fc fg sz (nI rr)) (flLeast gc gg hz hr2) 26) 26) 0), aI T xs 26 (adS fc fs gc gs (flLeast fc fg sz (nI rr)) (flLeast gc gg hz hr2) 26), aI T xg 26 fg, oFL zo zc zs zg hh hz hr2, aI T zc 26 gc, aI T zs 26 gs, aI T zg 26 gg] := Eq.subst (motive := fun w => va_D A w) eW hD
  have e_12 : ((nI (cntN (adC fc gc (flLeast fc fg sz (nI rr)) (flLeast gc gg hz hr2) 26) 26)) - 1 : Int32) = nI (cntN (adC fc gc (flLeast fc fg sz (nI rr)) (flLeast gc gg hz hr2) 26) 26 - 0) - 1 := by first | with_reducible rfl | (rw [Nat.sub_zero]; done) | (rw [trC]; done) | (rw [trZ]; done)
  have hl : lv_has ls 3 [(2, .int (nI (cntN (adC fc gc (flLeast fc fg sz (nI rr)) (flLeast gc gg hz hr2) 26) 26 - 0) - 1)), (0, .ref xo), (1, .ref zo)] := lv_sub hl [0, 1, 2] (by show (_ : List (Nat × Value)) = [(2, .int (nI (cntN (adC fc gc (flLeast fc fg sz (nI rr)) (flLeast gc gg hz hr2) 26) 26 - 0) - 1)), (0, .ref xo), (1, .ref zo)]; rw [← e_12]; rfl)
  exact loop_23 (cntN (adC fc gc (flLeast fc fg sz (nI rr)) (flLeast gc gg hz hr2) 26) 26 - rr) 0 (by omega)  _ _ _ hP hD hS hl
abbrev rX5_beginAnew : Room := { frames := 1, cells := 0, slots := 0, locals := 23 }
set_option maxHeartbeats 4000000 in
set_option maxRecDepth 100000 in
theorem c_X5_beginAnew (l : Launch) (D : va_G) (T : Nat → ClassId) (yo yc : Nat) (wf : Nat → Int32) (wo wz wr : Int32) (mc : Int32) : kM l D T yX5_beginAnew wsX5_beginAnew rX5_beginAnew [.ref yo, .int mc] [oSL yo yc wo wz wr, aI T yc 26 wf] none [oSL yo yc 0 0 mc, aI T yc 26 (flN wf 0 26)] := by
  refine kM.of (cc := cX5_beginAnew) (maxL := 2) (ret := none) (by decide) rfl (Nat.le_of_ble_eq_true rfl) ?_
  intro p e s m below meth c A Q ls hx hb hml hown hr hlk hts hC hP hD hS hA hl hret
  have iX5 : ∀ w ∈ wsX50, w ∈ wsX5_beginAnew := (fun _ h => List.mem_cons_of_mem _ (List.mem_append_right _ h))
  have hl : lv_has ls 2 [(0, .ref yo), (1, .int mc)] := hl
  have hP : va_P D vwCl [oSL yo yc wo wz wr, aI T yc 26 wf] s.heap := hP
  have hD : va_D A [oSL yo yc wo wz wr, aI T yc 26 wf] := hD
  refine lv_aload_n hx hb dX5_beginAnew_0 rfl (lv_at hl 0 rfl) ?_
  refine va_get (D := D) (ci := 4) (v := .ref yc) (C := RX5) (T := TX5) (N := 4) hx hb hts iX5 hown hC.1 hP 0 rfl rfl 0 (by decide) (hts (.fieldLink RX5 9 "ParrotCounts$SecondList" "counts" "[I") (List.mem_of_getElem? (i := 1) rfl)) (fun _ h => h) rfl dX5_beginAnew_1 ?_
  refine lv_iconst (v := 0) hx hb dX5_beginAnew_4 (by decide) ?_
  have hP := hP.sub (ws' := [aI T yc 26 wf] ++ [oSL yo yc wo wz wr]) [1, 0] rfl
  have hD := hD.sub (ws' := [aI T yc 26 wf] ++ [oSL yo yc wo wz wr]) [1, 0] (by decide) rfl
  refine kS (As := [.ref yc, .int 0]) (rest := []) ⟨hx, hb, hml, hown, hts⟩ (c_J7_fill_53178 l D T yc wf 0 ) (va_cwS 2 hts gX5_beginAnew_J7_fill_53178 rfl rfl rfl (by decide +kernel) ⟨Nat.le_of_ble_eq_true rfl, Nat.le_of_ble_eq_true rfl⟩) hC hP hD hS hA rfl hl.1 rfl (Nat.le_of_ble_eq_true rfl) dX5_beginAnew_5 ⟨Nat.zero_le _, Nat.zero_le _⟩ (fun H locs hP hD hS => ?_)
  have hP := hP.sub (ws' := [oSL yo yc wo wz wr, aI T yc 26 (flN wf 0 26)]) [1, 0] rfl
  have hD := hD.sub (ws' := [oSL yo yc wo wz wr, aI T yc 26 (flN wf 0 26)]) [1, 0] (by decide) rfl
  refine W.eq (g2 := F0 m 8 ls []) rfl ?_
  refine lv_aload_n hx hb dX5_beginAnew_8 rfl (lv_at hl 0 rfl) ?_
  refine lv_iconst (v := 0) hx hb dX5_beginAnew_9 (by decide) ?_
  refine va_put (D := D) (ci := 4) (v := .int 0) (ty := .int) (C := RX5) (T := TX5) (N := 4) hx hb hts iX5 tyX5 tyX5_ok nmX5 hown hC.1 hP hD hS 0 rfl rfl 1 (by decide) (hts (.fieldLink RX5 21 "ParrotCounts$SecondList" "wornBy" "I") (List.mem_of_getElem? (i := 2) rfl)) (fun _ h9 => h9) rfl (by decide +kernel) rfl rfl (Nat.le_of_ble_eq_true rfl) dX5_beginAnew_10 (fun H locs hP hD hS => ?_)
  have hP : va_P D vwCl [oSL yo yc 0 wz wr, aI T yc 26 (flN wf 0 26)] H := hP
  have hD : va_D A [oSL yo yc 0 wz wr, aI T yc 26 (flN wf 0 26)] := hD
  refine lv_aload_n hx hb dX5_beginAnew_13 rfl (lv_at hl 0 rfl) ?_
  refine lv_iconst (v := 0) hx hb dX5_beginAnew_14 (by decide) ?_
  refine va_put (D := D) (ci := 4) (v := .int 0) (ty := .int) (C := RX5) (T := TX5) (N := 4) hx hb hts iX5 tyX5 tyX5_ok nmX5 hown hC.1 hP hD hS 0 rfl rfl 2 (by decide) (hts (.fieldLink RX5 25 "ParrotCounts$SecondList" "size" "I") (List.mem_of_getElem? (i := 3) rfl)) (fun _ h9 => h9) rfl (by decide +kernel) rfl rfl (Nat.le_of_ble_eq_true rfl) dX5_beginAnew_15 (fun H locs hP hD hS => ?_)
  have hP : va_P D vwCl [oSL yo yc 0 0 wr, aI T yc 26 (flN wf 0 26)] H := hP
  have hD : va_D A [oSL yo yc 0 0 wr, aI T yc 26 (flN wf 0 26)] := hD
  refine lv_aload_n hx hb dX5_beginAnew_18 rfl (lv_at hl 0 rfl) ?_
  refine lv_iload_n hx hb dX5_beginAnew_19 rfl (lv_at hl 1 rfl) ?_
  refine va_put (D := D) (ci := 4) (v := .int mc) (ty := .int) (C := RX5) (T := TX5) (N := 4) hx hb hts iX5 tyX5 tyX5_ok nmX5 hown hC.1 hP hD hS 0 rfl rfl 3 (by decide) (hts (.fieldLink RX5 28 "ParrotCounts$SecondList" "room" "I") (List.mem_of_getElem? (i := 4) rfl)) (fun _ h9 => h9) rfl (by decide +kernel) rfl rfl (Nat.le_of_ble_eq_true rfl) dX5_beginAnew_20 (fun H locs hP hD hS => ?_)
  have hP : va_P D vwCl [oSL yo yc 0 0 mc, aI T yc 26 (flN wf 0 26)] H := hP
  have hD : va_D A [oSL yo yc 0 0 mc, aI T yc 26 (flN wf 0 26)] := hD
  exact hret _ _ _ _ _ (fun Qc free hq hf => W.vret hx hb hr hq hf dX5_beginAnew_23 hlk) hP hD hS
abbrev rX5_copyFrom : Room := { frames := 2, cells := 0, slots := 0, locals := 85 }
set_option maxHeartbeats 4000000 in
set_option maxRecDepth 100000 in
theorem c_X5_copyFrom (l : Launch) (D : va_G) (T : Nat → ClassId) (yo yc : Nat) (wf : Nat → Int32) (wo wz wr : Int32) (vo vc : Nat) (vf : Nat → Int32) (vwo vwz vwr : Int32) : kM l D T yX5_copyFrom wsX5_copyFrom rX5_copyFrom [.ref yo, .ref vo] [oSL yo yc wo wz wr, aI T yc 26 wf, oSL vo vc vwo vwz vwr, aI T vc 26 vf] none [oSL yo yc vwo vwz vwr, aI T yc 26 vf, oSL vo vc vwo vwz vwr, aI T vc 26 vf] := by
  refine kM.of (cc := cX5_copyFrom) (maxL := 2) (ret := none) (by decide) rfl (Nat.le_of_ble_eq_true rfl) ?_
  intro p e s m below meth c A Q ls hx hb hml hown hr hlk hts hC hP hD hS hA hl hret
  have iX5 : ∀ w ∈ wsX50, w ∈ wsX5_copyFrom := (fun _ h => List.mem_cons_of_mem _ (List.mem_append_right _ h))
  have hl : lv_has ls 2 [(0, .ref yo), (1, .ref vo)] := hl
  have hP : va_P D vwCl [oSL yo yc wo wz wr, aI T yc 26 wf, oSL vo vc vwo vwz vwr, aI T vc 26 vf] s.heap := hP
  have hD : va_D A [oSL yo yc wo wz wr, aI T yc 26 wf, oSL vo vc vwo vwz vwr, aI T vc 26 vf] := hD
  refine lv_aload_n hx hb dX5_copyFrom_0 rfl (lv_at hl 1 rfl) ?_
  refine va_get (D := D) (ci := 4) (v := .ref vc) (C := RX5) (T := TX5) (N := 4) hx hb hts iX5 hown hC.1 hP 2 rfl rfl 0 (by decide) (hts (.fieldLink RX5 9 "ParrotCounts$SecondList" "counts" "[I") (List.mem_of_getElem? (i := 1) rfl)) (fun _ h => h) rfl dX5_copyFrom_1 ?_
  refine lv_aload_n hx hb dX5_copyFrom_4 rfl (lv_at hl 0 rfl) ?_
  refine va_get (D := D) (ci := 4) (v := .ref yc) (C := RX5) (T := TX5) (N := 4) hx hb hts iX5 hown hC.1 hP 0 rfl rfl 0 (by decide) (hts (.fieldLink RX5 9 "ParrotCounts$SecondList" "counts" "[I") (List.mem_of_getElem? (i := 1) rfl)) (fun _ h => h) rfl dX5_copyFrom_5 ?_
  have hP := hP.sub (ws' := [aI T vc 26 vf, aI T yc 26 wf] ++ [oSL yo yc wo wz wr, oSL vo vc vwo vwz vwr]) [3, 1, 0, 2] rfl
  have hD := hD.sub (ws' := [aI T vc 26 vf, aI T yc 26 wf] ++ [oSL yo yc wo wz wr, oSL vo vc vwo vwz vwr]) [3, 1, 0, 2] (by decide) rfl
  refine kSN (As := [.ref vc, .ref yc]) (rest := []) ⟨hx, hb, hml, hown, hts⟩ (c_X8_copyRow l D T vc yc vf wf ) ⟨va_cnB (host := RX8) 2 hts gX5_copyFrom_X8_copyRow_n31 rfl rfl rfl (hC.nw 12 (q := (RX5, 31, yX8_copyRow)) rfl) (hts (.initialized RX8) (List.mem_of_getElem? (i := 6) rfl)) (by decide +kernel) ⟨Nat.le_of_ble_eq_true rfl, Nat.le_of_ble_eq_true rfl⟩, hts (.static yX8_copyRow) (List.mem_of_getElem? (i := 5) rfl), trivial⟩ hC hP hD hS hA rfl hl.1 rfl (Nat.le_of_ble_eq_true rfl) dX5_copyFrom_8 ⟨Nat.zero_le _, Nat.zero_le _⟩ (fun H locs hP hD hS => ?_)
  have hP := hP.sub (ws' := [oSL yo yc wo wz wr, aI T yc 26 vf, oSL vo vc vwo vwz vwr, aI T vc 26 vf]) [2, 1, 3, 0] rfl
  have hD := hD.sub (ws' := [oSL yo yc wo wz wr, aI T yc 26 vf, oSL vo vc vwo vwz vwr, aI T vc 26 vf]) [2, 1, 3, 0] (by decide) rfl
  refine W.eq (g2 := F0 m 11 ls []) rfl ?_
  refine lv_aload_n hx hb dX5_copyFrom_11 rfl (lv_at hl 0 rfl) ?_
  refine lv_aload_n hx hb dX5_copyFrom_12 rfl (lv_at hl 1 rfl) ?_
  refine va_get (D := D) (ci := 4) (v := .int vwo) (C := RX5) (T := TX5) (N := 4) hx hb hts iX5 hown hC.1 hP 2 rfl rfl 1 (by decide) (hts (.fieldLink RX5 21 "ParrotCounts$SecondList" "wornBy" "I") (List.mem_of_getElem? (i := 2) rfl)) (fun _ h => h) rfl dX5_copyFrom_13 ?_
  refine va_put (D := D) (ci := 4) (v := .int vwo) (ty := .int) (C := RX5) (T := TX5) (N := 4) hx hb hts iX5 tyX5 tyX5_ok nmX5 hown hC.1 hP hD hS 0 rfl rfl 1 (by decide) (hts (.fieldLink RX5 21 "ParrotCounts$SecondList" "wornBy" "I") (List.mem_of_getElem? (i := 2) rfl)) (fun _ h9 => h9) rfl (by decide +kernel) rfl rfl (Nat.le_of_ble_eq_true rfl) dX5_copyFrom_16 (fun H locs hP hD hS => ?_)
  have hP : va_P D vwCl [oSL yo yc vwo wz wr, aI T yc 26 vf, oSL vo vc vwo vwz vwr, aI T vc 26 vf] H := hP
  have hD : va_D A [oSL yo yc vwo wz wr, aI T yc 26 vf, oSL vo vc vwo vwz vwr, aI T vc 26 vf] := hD
  refine lv_aload_n hx hb dX5_copyFrom_19 rfl (lv_at hl 0 rfl) ?_
  refine lv_aload_n hx hb dX5_copyFrom_20 rfl (lv_at hl 1 rfl) ?_
  refine va_get (D := D) (ci := 4) (v := .int vwz) (C := RX5) (T := TX5) (N := 4) hx hb hts iX5 hown hC.1 hP 2 rfl rfl 2 (by decide) (hts (.fieldLink RX5 25 "ParrotCounts$SecondList" "size" "I") (List.mem_of_getElem? (i := 3) rfl)) (fun _ h => h) rfl dX5_copyFrom_21 ?_
  refine va_put (D := D) (ci := 4) (v := .int vwz) (ty := .int) (C := RX5) (T := TX5) (N := 4) hx hb hts iX5 tyX5 tyX5_ok nmX5 hown hC.1 hP hD hS 0 rfl rfl 2 (by decide) (hts (.fieldLink RX5 25 "ParrotCounts$SecondList" "size" "I") (List.mem_of_getElem? (i := 3) rfl)) (fun _ h9 => h9) rfl (by decide +kernel) rfl rfl (Nat.le_of_ble_eq_true rfl) dX5_copyFrom_24 (fun H locs hP hD hS => ?_)
  have hP : va_P D vwCl [oSL yo yc vwo vwz wr, aI T yc 26 vf, oSL vo vc vwo vwz vwr, aI T vc 26 vf] H := hP
  have hD : va_D A [oSL yo yc vwo vwz wr, aI T yc 26 vf, oSL vo vc vwo vwz vwr, aI T vc 26 vf] := hD
  refine lv_aload_n hx hb dX5_copyFrom_27 rfl (lv_at hl 0 rfl) ?_
  refine lv_aload_n hx hb dX5_copyFrom_28 rfl (lv_at hl 1 rfl) ?_
  refine va_get (D := D) (ci := 4) (v := .int vwr) (C := RX5) (T := TX5) (N := 4) hx hb hts iX5 hown hC.1 hP 2 rfl rfl 3 (by decide) (hts (.fieldLink RX5 28 "ParrotCounts$SecondList" "room" "I") (List.mem_of_getElem? (i := 4) rfl)) (fun _ h => h) rfl dX5_copyFrom_29 ?_
  refine va_put (D := D) (ci := 4) (v := .int vwr) (ty := .int) (C := RX5) (T := TX5) (N := 4) hx hb hts iX5 tyX5 tyX5_ok nmX5 hown hC.1 hP hD hS 0 rfl rfl 3 (by decide) (hts (.fieldLink RX5 28 "ParrotCounts$SecondList" "room" "I") (List.mem_of_getElem? (i := 4) rfl)) (fun _ h9 => h9) rfl (by decide +kernel) rfl rfl (Nat.le_of_ble_eq_true rfl) dX5_copyFrom_32 (fun H locs hP hD hS => ?_)
  have hP : va_P D vwCl [oSL yo yc vwo vwz vwr, aI T yc 26 vf, oSL vo vc vwo vwz vwr, aI T vc 26 vf] H := hP
  have hD : va_D A [oSL yo yc vwo vwz vwr, aI T yc 26 vf, oSL vo vc vwo vwz vwr, aI T vc 26 vf] := hD
  exact hret _ _ _ _ _ (fun Qc free hq hf => W.vret hx hb hr hq hf dX5_copyFrom_35 hlk) hP hD hS
abbrev rX5_wearDown : Room := { frames := 1, cells := 0, slots := 0, locals := 25 }
set_option maxHeartbeats 4000000 in
set_option maxRecDepth 100000 in
theorem c_X5_wearDown (l : Launch) (D : va_G) (T : Nat → ClassId) (yo yc : Nat) (wf : Nat → Int32) (wo wz wr : Int32) (v : Int32) : kM l D T yX5_wearDown wsX5_wearDown rX5_wearDown [.ref yo, .int v] [oSL yo yc wo wz wr, aI T yc 26 wf] none [oSL yo yc (wo + v) (nI (cntN (wdN wf v 26) 26)) wr, aI T yc 26 (wdN wf v 26)] := by
  refine kM.of (cc := cX5_wearDown) (maxL := 3) (ret := none) (by decide) rfl (Nat.le_of_ble_eq_true rfl) ?_
  intro p e s m below meth c A Q ls hx hb hml hown hr hlk hts hC hP hD hS hA hl hret
  have iX5 : ∀ w ∈ wsX50, w ∈ wsX5_wearDown := (fun _ h => List.mem_cons_of_mem _ (List.mem_append_right _ h))
  have loop_2 : ∀ (n i : Nat), i + n = 26 → ∀ (H : Heap) (locs : List Loc) (ls : Array Slot), va_P D vwCl [oSL yo yc wo wz wr, aI T yc 26 (wdN wf v i)] H → va_D A [oSL yo yc wo wz wr, aI T yc 26 (wdN wf v i)] → va_S A s.heap H locs → lv_has ls 3 [(2, .int (nI i)), (0, .ref yo), (1, .int v)] → W p l e rX5_wearDown s m [.ref yo, .int v].toArray below meth c H locs 0 0 Q (F0 m 2 ls []) := by
    intro n
    induction n with
    | zero =>
      intro i hi  H locs ls hP hD hS hl
      have hi9 : 26 = i := by omega
      subst hi9
      refine lv_iload_n hx hb dX5_wearDown_2 rfl (lv_at hl 0 rfl) ?_
      refine lv_bipush (v := 26) hx hb dX5_wearDown_3 (by decide) ?_
      refine lv_icmp_ge (tgt := 32) hx hb dX5_wearDown_5 (by decide) (fun _ => ?_) (fun c_x => absurd (by decide : (26 : Int32) ≤ nI 26) c_x)
      refine lv_aload_n hx hb dX5_wearDown_32 rfl (lv_at hl 1 rfl) ?_
      refine lv_aload_n hx hb dX5_wearDown_33 rfl (lv_at hl 1 rfl) ?_
      refine va_get (D := D) (ci := 4) (v := .ref yc) (C := RX5) (T := TX5) (N := 4) hx hb hts iX5 hown hC.1 hP 0 rfl rfl 0 (by decide) (hts (.fieldLink RX5 9 "ParrotCounts$SecondList" "counts" "[I") (List.mem_of_getElem? (i := 1) rfl)) (fun _ h => h) rfl dX5_wearDown_34 ?_
      have hP := hP.sub (ws' := [aI T yc 26 (wdN wf v 26)] ++ [oSL yo yc wo wz wr]) [1, 0] rfl
      have hD := hD.sub (ws' := [aI T yc 26 (wdN wf v 26)] ++ [oSL yo yc wo wz wr]) [1, 0] (by decide) rfl
      refine kSN (As := [.ref yc]) (rest := [.ref yo]) ⟨hx, hb, hml, hown, hts⟩ (c_X8_countersIn l D T yc (wdN wf v 26) ) ⟨va_cnB (host := RX8) 1 hts gX5_wearDown_X8_countersIn_n45 rfl rfl rfl (hC.nw 13 (q := (RX5, 45, yX8_countersIn)) rfl) (hts (.initialized RX8) (List.mem_of_getElem? (i := 9) rfl)) (by decide +kernel) ⟨Nat.le_of_ble_eq_true rfl, Nat.le_of_ble_eq_true rfl⟩, hts (.static yX8_countersIn) (List.mem_of_getElem? (i := 8) rfl), trivial⟩ hC hP hD hS hA rfl hl.1 rfl (Nat.le_of_ble_eq_true rfl) dX5_wearDown_37 ⟨Nat.zero_le _, Nat.zero_le _⟩ (fun H locs hP hD hS => ?_)
      have hP := hP.sub (ws' := [oSL yo yc wo wz wr, aI T yc 26 (wdN wf v 26)]) [1, 0] rfl
      have hD := hD.sub (ws' := [oSL yo yc wo wz wr, aI T yc 26 (wdN wf v 26)]) [1, 0] (by decide) rfl
      refine W.eq (g2 := F0 m 40 ls [.int (nI (cntN (wdN wf v 26) 26)), .ref yo]) rfl ?_
      refine va_put (D := D) (ci := 4) (v := .int (nI (cntN (wdN wf v 26) 26))) (ty := .int) (C := RX5) (T := TX5) (N := 4) hx hb hts iX5 tyX5 tyX5_ok nmX5 hown hC.1 hP hD hS 0 rfl rfl 2 (by decide) (hts (.fieldLink RX5 25 "ParrotCounts$SecondList" "size" "I") (List.mem_of_getElem? (i := 6) rfl)) (fun _ h9 => h9) rfl (by decide +kernel) rfl rfl (Nat.le_of_ble_eq_true rfl) dX5_wearDown_40 (fun H locs hP hD hS => ?_)
      have hP : va_P D vwCl [oSL yo yc wo (nI (cntN (wdN wf v 26) 26)) wr, aI T yc 26 (wdN wf v 26)] H := hP
      have hD : va_D A [oSL yo yc wo (nI (cntN (wdN wf v 26) 26)) wr, aI T yc 26 (wdN wf v 26)] := hD
      refine lv_aload_n hx hb dX5_wearDown_43 rfl (lv_at hl 1 rfl) ?_
      refine lv_dup hx hb dX5_wearDown_44 rfl ?_
      refine va_get (D := D) (ci := 4) (v := .int wo) (C := RX5) (T := TX5) (N := 4) hx hb hts iX5 hown hC.1 hP 0 rfl rfl 1 (by decide) (hts (.fieldLink RX5 21 "ParrotCounts$SecondList" "wornBy" "I") (List.mem_of_getElem? (i := 7) rfl)) (fun _ h => h) rfl dX5_wearDown_45 ?_
      refine lv_iload_n hx hb dX5_wearDown_48 rfl (lv_at hl 2 rfl) ?_
      refine lv_iadd hx hb dX5_wearDown_49 ?_
      refine va_put (D := D) (ci := 4) (v := .int (wo + v)) (ty := .int) (C := RX5) (T := TX5) (N := 4) hx hb hts iX5 tyX5 tyX5_ok nmX5 hown hC.1 hP hD hS 0 rfl rfl 1 (by decide) (hts (.fieldLink RX5 21 "ParrotCounts$SecondList" "wornBy" "I") (List.mem_of_getElem? (i := 7) rfl)) (fun _ h9 => h9) rfl (by decide +kernel) rfl rfl (Nat.le_of_ble_eq_true rfl) dX5_wearDown_50 (fun H locs hP hD hS => ?_)
      have hP : va_P D vwCl [oSL yo yc (wo + v) (nI (cntN (wdN wf v 26) 26)) wr, aI T yc 26 (wdN wf v 26)] H := hP
      have hD : va_D A [oSL yo yc (wo + v) (nI (cntN (wdN wf v 26) 26)) wr, aI T yc 26 (wdN wf v 26)] := hD
      exact hret _ _ _ _ _ (fun Qc free hq hf => W.vret hx hb hr hq hf dX5_wearDown_53 hlk) hP hD hS
    | succ n ih =>
      intro i hi  H locs ls hP hD hS hl
      have hlt : i < 26 := by omega
      refine lv_iload_n hx hb dX5_wearDown_2 rfl (lv_at hl 0 rfl) ?_
      refine lv_bipush (v := 26) hx hb dX5_wearDown_3 (by decide) ?_
      refine lv_icmp_ge (tgt := 32) hx hb dX5_wearDown_5 (by decide) (fun c_x => absurd c_x (nI_ge (b := 26) hlt (by decide))) (fun _ => ?_)
      refine lv_aload_n hx hb dX5_wearDown_8 rfl (lv_at hl 1 rfl) ?_
      refine va_get (D := D) (ci := 4) (v := .ref yc) (C := RX5) (T := TX5) (N := 4) hx hb hts iX5 hown hC.1 hP 0 rfl rfl 0 (by decide) (hts (.fieldLink RX5 9 "ParrotCounts$SecondList" "counts" "[I") (List.mem_of_getElem? (i := 1) rfl)) (fun _ h => h) rfl dX5_wearDown_9 ?_
      refine lv_iload_n hx hb dX5_wearDown_12 rfl (lv_at hl 0 rfl) ?_
      refine lv_aload_n hx hb dX5_wearDown_13 rfl (lv_at hl 1 rfl) ?_
      refine va_get (D := D) (ci := 4) (v := .ref yc) (C := RX5) (T := TX5) (N := 4) hx hb hts iX5 hown hC.1 hP 0 rfl rfl 0 (by decide) (hts (.fieldLink RX5 9 "ParrotCounts$SecondList" "counts" "[I") (List.mem_of_getElem? (i := 1) rfl)) (fun _ h => h) rfl dX5_wearDown_14 ?_
      refine lv_iload_n hx hb dX5_wearDown_17 rfl (lv_at hl 0 rfl) ?_
      refine k_iald hx hb hC.1 hP 1 0 rfl rfl (by omega) dX5_wearDown_18 ?_
      refine lv_iload_n hx hb dX5_wearDown_19 rfl (lv_at hl 2 rfl) ?_
      refine lv_isub hx hb dX5_wearDown_20 ?_
      refine lv_iconst (v := 0) hx hb dX5_wearDown_21 (by decide) ?_
      refine va_mmax hx hb (hml.trans hl.1.symm) hown (hts (.methodLink RX5 39 Lib.Math.max.name) (List.mem_of_getElem? (i := 2) rfl)) (hts (.static Lib.Math.max.name) (List.mem_of_getElem? (i := 3) rfl)) (hts (.initialized "java/lang/Math") (List.mem_of_getElem? (i := 4) rfl)) (hts (.code Lib.Math.max.name Lib.Math.max.code 2 (some .int)) (List.mem_of_getElem? (i := 5) rfl)) (Nat.le_of_ble_eq_true rfl) (Nat.le_of_ble_eq_true rfl) (Nat.zero_le _) (Nat.zero_le _) dX5_wearDown_22 ?_
      refine k_iast hx hb hC.1 hP hD hS 1 0 rfl rfl (by omega) dX5_wearDown_25 (fun H locs hP hD hS => ?_)
      have hP : va_P D vwCl [oSL yo yc wo wz wr, aI T yc 26 (upd (wdN wf v i) i (if (((wdN wf v i) i) - v) < 0 then 0 else (((wdN wf v i) i) - v)))] H := hP
      have hD : va_D A [oSL yo yc wo wz wr, aI T yc 26 (upd (wdN wf v i) i (if (((wdN wf v i) i) - v) < 0 then 0 else (((wdN wf v i) i) - v)))] := hD
      refine lv_iinc (v := nI (i + 1)) (lv' := [(2, .int (nI (i + 1))), (0, .ref yo), (1, .int v)]) hx hb dX5_wearDown_26 hl (k := 0) rfl (nI_1 i) (by decide) rfl (fun ls hl => ?_)
      refine lv_goto (tgt := 2) hx hb dX5_wearDown_29 (by decide) ?_
      have e_1 : upd (wdN wf v i) i (if (((wdN wf v i) i) - v) < 0 then 0 else (((wdN wf v i) i) - v)) = wdN wf v (i + 1) := by rw [wdN]
      have eW := congrArg (fun zZ => ([oSL yo yc wo wz wr, aI T yc 26 zZ] : va_W)) e_1
      have hP : va_P D vwCl [oSL yo yc wo wz wr, aI T yc 26 (wdN wf v (i + 1))] _ := Eq.subst (motive := fun w => va_P D vwCl w _) eW hP
      have hD : va_D A [oSL yo yc wo wz wr, aI T yc 26 (wdN wf v (i + 1))] := Eq.subst (motive := fun w => va_D A w) eW hD
      have hl : lv_has ls 3 [(2, .int (nI (i + 1))), (0, .ref yo), (1, .int v)] := lv_sub hl [0, 1, 2] (by rfl)
      exact ih (i + 1) (by omega)  _ _ _ hP hD hS hl
  have hl : lv_has ls 3 [(0, .ref yo), (1, .int v)] := hl
  have hP : va_P D vwCl [oSL yo yc wo wz wr, aI T yc 26 wf] s.heap := hP
  have hD : va_D A [oSL yo yc wo wz wr, aI T yc 26 wf] := hD
  refine lv_iconst (v := 0) hx hb dX5_wearDown_0 (by decide) ?_
  refine lv_istore_n (lv' := [(2, .int 0), (0, .ref yo), (1, .int v)]) hx hb dX5_wearDown_1 rfl hl (by decide) rfl (fun ls hl => ?_)
  have e_2 : wf = wdN wf v 0 := rfl
  have eW := congrArg (fun zZ => ([oSL yo yc wo wz wr, aI T yc 26 zZ] : va_W)) e_2
  have hP : va_P D vwCl [oSL yo yc wo wz wr, aI T yc 26 (wdN wf v 0)] _ := Eq.subst (motive := fun w => va_P D vwCl w _) eW hP
  have hD : va_D A [oSL yo yc wo wz wr, aI T yc 26 (wdN wf v 0)] := Eq.subst (motive := fun w => va_D A w) eW hD
  have e_3 : (0 : Int32) = nI 0 := rfl
  have hl : lv_has ls 3 [(2, .int (nI 0)), (0, .ref yo), (1, .int v)] := lv_sub hl [0, 1, 2] (by show (_ : List (Nat × Value)) = [(2, .int (nI 0)), (0, .ref yo), (1, .int v)]; rw [← e_3]; rfl)
  exact loop_2 26 0 (by omega)  _ _ _ hP hD hS hl
abbrev rX5_take : Room := { frames := 2, cells := 0, slots := 0, locals := 47 }
set_option maxHeartbeats 4000000 in
set_option maxRecDepth 100000 in
theorem c_X5_take (l : Launch) (D : va_G) (T : Nat → ClassId) (yo yc : Nat) (wf : Nat → Int32) (wo wz wr : Int32) (pa : Nat) (hp : pa < 26) : kM l D T yX5_take wsX5_take rX5_take [.ref yo, .int (nI pa)] [oSL yo yc wo wz wr, aI T yc 26 wf] none [oSL yo yc (stO wf wo wz wr pa) (stZ wf wz wr pa) wr, aI T yc 26 (stC wf wz wr pa)] := by
  refine kM.of (cc := cX5_take) (maxL := 2) (ret := none) (by decide) rfl (Nat.le_of_ble_eq_true rfl) ?_
  intro p e s m below meth c A Q ls hx hb hml hown hr hlk hts hC hP hD hS hA hl hret
  have iX5 : ∀ w ∈ wsX50, w ∈ wsX5_take := (fun _ h => List.mem_cons_of_mem _ (List.mem_append_right _ h))
  have hl : lv_has ls 2 [(0, .ref yo), (1, .int (nI pa))] := hl
  have hP : va_P D vwCl [oSL yo yc wo wz wr, aI T yc 26 wf] s.heap := hP
  have hD : va_D A [oSL yo yc wo wz wr, aI T yc 26 wf] := hD
  refine lv_aload_n hx hb dX5_take_0 rfl (lv_at hl 0 rfl) ?_
  refine va_get (D := D) (ci := 4) (v := .ref yc) (C := RX5) (T := TX5) (N := 4) hx hb hts iX5 hown hC.1 hP 0 rfl rfl 0 (by decide) (hts (.fieldLink RX5 9 "ParrotCounts$SecondList" "counts" "[I") (List.mem_of_getElem? (i := 1) rfl)) (fun _ h => h) rfl dX5_take_1 ?_
  refine lv_iload_n hx hb dX5_take_4 rfl (lv_at hl 1 rfl) ?_
  refine k_iald hx hb hC.1 hP 1 0 rfl rfl (by omega) dX5_take_5 ?_
  refine lv_if_le (tgt := 22) hx hb dX5_take_6 (by decide) (fun c6 => ?_) (fun c6 => ?_)
  · refine lv_aload_n hx hb dX5_take_22 rfl (lv_at hl 0 rfl) ?_
    refine va_get (D := D) (ci := 4) (v := .int wz) (C := RX5) (T := TX5) (N := 4) hx hb hts iX5 hown hC.1 hP 0 rfl rfl 2 (by decide) (hts (.fieldLink RX5 25 "ParrotCounts$SecondList" "size" "I") (List.mem_of_getElem? (i := 2) rfl)) (fun _ h => h) rfl dX5_take_23 ?_
    refine lv_aload_n hx hb dX5_take_26 rfl (lv_at hl 0 rfl) ?_
    refine va_get (D := D) (ci := 4) (v := .int wr) (C := RX5) (T := TX5) (N := 4) hx hb hts iX5 hown hC.1 hP 0 rfl rfl 3 (by decide) (hts (.fieldLink RX5 28 "ParrotCounts$SecondList" "room" "I") (List.mem_of_getElem? (i := 3) rfl)) (fun _ h => h) rfl dX5_take_27 ?_
    refine lv_icmp_ge (tgt := 53) hx hb dX5_take_30 (by decide) (fun c30 => ?_) (fun c30 => ?_)
    · refine lv_aload_n hx hb dX5_take_53 rfl (lv_at hl 0 rfl) ?_
      refine lv_iconst (v := 1) hx hb dX5_take_54 (by decide) ?_
      have hP := hP.sub (ws' := [oSL yo yc wo wz wr, aI T yc 26 wf] ++ []) [0, 1] rfl
      have hD := hD.sub (ws' := [oSL yo yc wo wz wr, aI T yc 26 wf] ++ []) [0, 1] (by decide) rfl
      refine kV (ci := 4) (As := [.int 1]) (rest := []) ⟨hx, hb, hml, hown, hts⟩ (c_X5_wearDown l D T yo yc wf wo wz wr 1 ) (cwV 1 hts gX5_take_X5_wearDown rfl rfl rfl (by decide +kernel) ⟨Nat.le_of_ble_eq_true rfl, Nat.le_of_ble_eq_true rfl⟩) hC hP hD hS hA rfl rfl rfl hl.1 rfl (Nat.le_of_ble_eq_true rfl) dX5_take_55 ⟨Nat.zero_le _, Nat.zero_le _⟩ (fun H locs hP hD hS => ?_)
      have hP : va_P D vwCl [oSL yo yc (wo + 1) (nI (cntN (wdN wf 1 26) 26)) wr, aI T yc 26 (wdN wf 1 26)] H := hP
      have hD : va_D A [oSL yo yc (wo + 1) (nI (cntN (wdN wf 1 26) 26)) wr, aI T yc 26 (wdN wf 1 26)] := hD
      refine W.eq (g2 := F0 m 58 ls []) rfl ?_
      have e_1 : wo + 1 = stO wf wo wz wr pa := by first | with_reducible rfl | (simp [stO, stZ, stC, c6, c30]; done)
      have e_2 : nI (cntN (wdN wf 1 26) 26) = stZ wf wz wr pa := by first | with_reducible rfl | (simp [stO, stZ, stC, c6, c30]; done)
      have e_3 : wdN wf 1 26 = stC wf wz wr pa := by first | with_reducible rfl | (simp [stO, stZ, stC, c6, c30]; done)
      have eW := (congrArg (fun zZ => ([oSL yo yc zZ (nI (cntN (wdN wf 1 26) 26)) wr, aI T yc 26 (wdN wf 1 26)] : va_W)) e_1).trans ((congrArg (fun zZ => ([oSL yo yc (stO wf wo wz wr pa) zZ wr, aI T yc 26 (wdN wf 1 26)] : va_W)) e_2).trans (congrArg (fun zZ => ([oSL yo yc (stO wf wo wz wr pa) (stZ wf wz wr pa) wr, aI T yc 26 zZ] : va_W)) e_3))
      have hP : va_P D vwCl [oSL yo yc (stO wf wo wz wr pa) (stZ wf wz wr pa) wr, aI T yc 26 (stC wf wz wr pa)] _ := Eq.subst (motive := fun w => va_P D vwCl w _) eW hP
      have hD : va_D A [oSL yo yc (stO wf wo wz wr pa) (stZ wf wz wr pa) wr, aI T yc 26 (stC wf wz wr pa)] := Eq.subst (motive := fun w => va_D A w) eW hD
      exact hret _ _ _ _ _ (fun Qc free hq hf => W.vret hx hb hr hq hf dX5_take_58 hlk) hP hD hS
    · refine lv_aload_n hx hb dX5_take_33 rfl (lv_at hl 0 rfl) ?_
      refine va_get (D := D) (ci := 4) (v := .ref yc) (C := RX5) (T := TX5) (N := 4) hx hb hts iX5 hown hC.1 hP 0 rfl rfl 0 (by decide) (hts (.fieldLink RX5 9 "ParrotCounts$SecondList" "counts" "[I") (List.mem_of_getElem? (i := 1) rfl)) (fun _ h => h) rfl dX5_take_34 ?_
      refine lv_iload_n hx hb dX5_take_37 rfl (lv_at hl 1 rfl) ?_
      refine lv_iconst (v := 1) hx hb dX5_take_38 (by decide) ?_
      refine k_iast hx hb hC.1 hP hD hS 1 0 rfl rfl (by omega) dX5_take_39 (fun H locs hP hD hS => ?_)
      have hP : va_P D vwCl [oSL yo yc wo wz wr, aI T yc 26 (upd wf pa 1)] H := hP
      have hD : va_D A [oSL yo yc wo wz wr, aI T yc 26 (upd wf pa 1)] := hD
      refine lv_aload_n hx hb dX5_take_40 rfl (lv_at hl 0 rfl) ?_
      refine lv_dup hx hb dX5_take_41 rfl ?_
      refine va_get (D := D) (ci := 4) (v := .int wz) (C := RX5) (T := TX5) (N := 4) hx hb hts iX5 hown hC.1 hP 0 rfl rfl 2 (by decide) (hts (.fieldLink RX5 25 "ParrotCounts$SecondList" "size" "I") (List.mem_of_getElem? (i := 2) rfl)) (fun _ h => h) rfl dX5_take_42 ?_
      refine lv_iconst (v := 1) hx hb dX5_take_45 (by decide) ?_
      refine lv_iadd hx hb dX5_take_46 ?_
      refine va_put (D := D) (ci := 4) (v := .int (wz + 1)) (ty := .int) (C := RX5) (T := TX5) (N := 4) hx hb hts iX5 tyX5 tyX5_ok nmX5 hown hC.1 hP hD hS 0 rfl rfl 2 (by decide) (hts (.fieldLink RX5 25 "ParrotCounts$SecondList" "size" "I") (List.mem_of_getElem? (i := 2) rfl)) (fun _ h9 => h9) rfl (by decide +kernel) rfl rfl (Nat.le_of_ble_eq_true rfl) dX5_take_47 (fun H locs hP hD hS => ?_)
      have hP : va_P D vwCl [oSL yo yc wo (wz + 1) wr, aI T yc 26 (upd wf pa 1)] H := hP
      have hD : va_D A [oSL yo yc wo (wz + 1) wr, aI T yc 26 (upd wf pa 1)] := hD
      refine lv_goto (tgt := 58) hx hb dX5_take_50 (by decide) ?_
      have e_4 : wo = stO wf wo wz wr pa := by first | with_reducible rfl | (simp [stO, stZ, stC, c6, c30]; done)
      have e_5 : wz + 1 = stZ wf wz wr pa := by first | with_reducible rfl | (simp [stO, stZ, stC, c6, c30]; done)
      have e_6 : upd wf pa 1 = stC wf wz wr pa := by first | with_reducible rfl | (simp [stO, stZ, stC, c6, c30]; done)
      have eW := (congrArg (fun zZ => ([oSL yo yc zZ (wz + 1) wr, aI T yc 26 (upd wf pa 1)] : va_W)) e_4).trans ((congrArg (fun zZ => ([oSL yo yc (stO wf wo wz wr pa) zZ wr, aI T yc 26 (upd wf pa 1)] : va_W)) e_5).trans (congrArg (fun zZ => ([oSL yo yc (stO wf wo wz wr pa) (stZ wf wz wr pa) wr, aI T yc 26 zZ] : va_W)) e_6))
      have hP : va_P D vwCl [oSL yo yc (stO wf wo wz wr pa) (stZ wf wz wr pa) wr, aI T yc 26 (stC wf wz wr pa)] _ := Eq.subst (motive := fun w => va_P D vwCl w _) eW hP
      have hD : va_D A [oSL yo yc (stO wf wo wz wr pa) (stZ wf wz wr pa) wr, aI T yc 26 (stC wf wz wr pa)] := Eq.subst (motive := fun w => va_D A w) eW hD
      exact hret _ _ _ _ _ (fun Qc free hq hf => W.vret hx hb hr hq hf dX5_take_58 hlk) hP hD hS
  · refine lv_aload_n hx hb dX5_take_9 rfl (lv_at hl 0 rfl) ?_
    refine va_get (D := D) (ci := 4) (v := .ref yc) (C := RX5) (T := TX5) (N := 4) hx hb hts iX5 hown hC.1 hP 0 rfl rfl 0 (by decide) (hts (.fieldLink RX5 9 "ParrotCounts$SecondList" "counts" "[I") (List.mem_of_getElem? (i := 1) rfl)) (fun _ h => h) rfl dX5_take_10 ?_
    refine lv_iload_n hx hb dX5_take_13 rfl (lv_at hl 1 rfl) ?_
    refine lv_dup2_11 hx hb dX5_take_14 rfl rfl ?_
    refine k_iald hx hb hC.1 hP 1 0 rfl rfl (by omega) dX5_take_15 ?_
    refine lv_iconst (v := 1) hx hb dX5_take_16 (by decide) ?_
    refine lv_iadd hx hb dX5_take_17 ?_
    refine k_iast hx hb hC.1 hP hD hS 1 0 rfl rfl (by omega) dX5_take_18 (fun H locs hP hD hS => ?_)
    have hP : va_P D vwCl [oSL yo yc wo wz wr, aI T yc 26 (upd wf pa ((wf pa) + 1))] H := hP
    have hD : va_D A [oSL yo yc wo wz wr, aI T yc 26 (upd wf pa ((wf pa) + 1))] := hD
    refine lv_goto (tgt := 58) hx hb dX5_take_19 (by decide) ?_
    have e_7 : wo = stO wf wo wz wr pa := by first | with_reducible rfl | (simp [stO, stZ, stC, c6]; done)
    have e_8 : wz = stZ wf wz wr pa := by first | with_reducible rfl | (simp [stO, stZ, stC, c6]; done)
    have e_9 : upd wf pa ((wf pa) + 1) = stC wf wz wr pa := by first | with_reducible rfl | (simp [stO, stZ, stC, c6]; done)
    have eW := (congrArg (fun zZ => ([oSL yo yc zZ wz wr, aI T yc 26 (upd wf pa ((wf pa) + 1))] : va_W)) e_7).trans ((congrArg (fun zZ => ([oSL yo yc (stO wf wo wz wr pa) zZ wr, aI T yc 26 (upd wf pa ((wf pa) + 1))] : va_W)) e_8).trans (congrArg (fun zZ => ([oSL yo yc (stO wf wo wz wr pa) (stZ wf wz wr pa) wr, aI T yc 26 zZ] : va_W)) e_9))
    have hP : va_P D vwCl [oSL yo yc (stO wf wo wz wr pa) (stZ wf wz wr pa) wr, aI T yc 26 (stC wf wz wr pa)] _ := Eq.subst (motive := fun w => va_P D vwCl w _) eW hP
    have hD : va_D A [oSL yo yc (stO wf wo wz wr pa) (stZ wf wz wr pa) wr, aI T yc 26 (stC wf wz wr pa)] := Eq.subst (motive := fun w => va_D A w) eW hD
    exact hret _ _ _ _ _ (fun Qc free hq hf => W.vret hx hb hr hq hf dX5_take_58 hlk) hP hD hS
abbrev rX5_mergeWith : Room := { frames := 2, cells := 0, slots := 0, locals := 47 }
set_option maxHeartbeats 4000000 in
set_option maxRecDepth 100000 in
theorem c_X5_mergeWith (l : Launch) (D : va_G) (T : Nat → ClassId) (yo yc : Nat) (wf : Nat → Int32) (wo wz wr : Int32) (vo vc : Nat) (vf : Nat → Int32) (vwo vwz vwr : Int32) : kM l D T yX5_mergeWith wsX5_mergeWith rX5_mergeWith [.ref yo, .ref vo] [oSL yo yc wo wz wr, aI T yc 26 wf, oSL vo vc vwo vwz vwr, aI T vc 26 vf] none [oSL yo yc (smO wf vf wo wr vwo) (smZ wf vf wr) wr, aI T yc 26 (smC wf vf wr), oSL vo vc vwo vwz vwr, aI T vc 26 vf] := by
  refine kM.of (cc := cX5_mergeWith) (maxL := 3) (ret := none) (by decide) rfl (Nat.le_of_ble_eq_true rfl) ?_
  intro p e s m below meth c A Q ls hx hb hml hown hr hlk hts hC hP hD hS hA hl hret
  have iX5 : ∀ w ∈ wsX50, w ∈ wsX5_mergeWith := (fun _ h => List.mem_cons_of_mem _ (List.mem_append_right _ h))
  have loop_2 : ∀ (n i : Nat), i + n = 26 → ∀ (H : Heap) (locs : List Loc) (ls : Array Slot), va_P D vwCl [oSL yo yc wo wz wr, aI T yc 26 (smA wf vf i), oSL vo vc vwo vwz vwr, aI T vc 26 vf] H → va_D A [oSL yo yc wo wz wr, aI T yc 26 (smA wf vf i), oSL vo vc vwo vwz vwr, aI T vc 26 vf] → va_S A s.heap H locs → lv_has ls 3 [(2, .int (nI i)), (0, .ref yo), (1, .ref vo)] → W p l e rX5_mergeWith s m [.ref yo, .ref vo].toArray below meth c H locs 0 0 Q (F0 m 2 ls []) := by
    intro n
    induction n with
    | zero =>
      intro i hi  H locs ls hP hD hS hl
      have hi9 : 26 = i := by omega
      subst hi9
      refine lv_iload_n hx hb dX5_mergeWith_2 rfl (lv_at hl 0 rfl) ?_
      refine lv_bipush (v := 26) hx hb dX5_mergeWith_3 (by decide) ?_
      refine lv_icmp_ge (tgt := 29) hx hb dX5_mergeWith_5 (by decide) (fun _ => ?_) (fun c_x => absurd (by decide : (26 : Int32) ≤ nI 26) c_x)
      refine lv_aload_n hx hb dX5_mergeWith_29 rfl (lv_at hl 1 rfl) ?_
      refine lv_aload_n hx hb dX5_mergeWith_30 rfl (lv_at hl 1 rfl) ?_
      refine va_get (D := D) (ci := 4) (v := .ref yc) (C := RX5) (T := TX5) (N := 4) hx hb hts iX5 hown hC.1 hP 0 rfl rfl 0 (by decide) (hts (.fieldLink RX5 9 "ParrotCounts$SecondList" "counts" "[I") (List.mem_of_getElem? (i := 1) rfl)) (fun _ h => h) rfl dX5_mergeWith_31 ?_
      have hP := hP.sub (ws' := [aI T yc 26 (smA wf vf 26)] ++ [oSL yo yc wo wz wr, oSL vo vc vwo vwz vwr, aI T vc 26 vf]) [1, 0, 2, 3] rfl
      have hD := hD.sub (ws' := [aI T yc 26 (smA wf vf 26)] ++ [oSL yo yc wo wz wr, oSL vo vc vwo vwz vwr, aI T vc 26 vf]) [1, 0, 2, 3] (by decide) rfl
      refine kSN (As := [.ref yc]) (rest := [.ref yo]) ⟨hx, hb, hml, hown, hts⟩ (c_X8_countersIn l D T yc (smA wf vf 26) ) ⟨va_cnB (host := RX8) 1 hts gX5_mergeWith_X8_countersIn_n45 rfl rfl rfl (hC.nw 13 (q := (RX5, 45, yX8_countersIn)) rfl) (hts (.initialized RX8) (List.mem_of_getElem? (i := 6) rfl)) (by decide +kernel) ⟨Nat.le_of_ble_eq_true rfl, Nat.le_of_ble_eq_true rfl⟩, hts (.static yX8_countersIn) (List.mem_of_getElem? (i := 5) rfl), trivial⟩ hC hP hD hS hA rfl hl.1 rfl (Nat.le_of_ble_eq_true rfl) dX5_mergeWith_34 ⟨Nat.zero_le _, Nat.zero_le _⟩ (fun H locs hP hD hS => ?_)
      have hP := hP.sub (ws' := [oSL yo yc wo wz wr, aI T yc 26 (smA wf vf 26), oSL vo vc vwo vwz vwr, aI T vc 26 vf]) [1, 0, 2, 3] rfl
      have hD := hD.sub (ws' := [oSL yo yc wo wz wr, aI T yc 26 (smA wf vf 26), oSL vo vc vwo vwz vwr, aI T vc 26 vf]) [1, 0, 2, 3] (by decide) rfl
      refine W.eq (g2 := F0 m 37 ls [.int (nI (cntN (smA wf vf 26) 26)), .ref yo]) rfl ?_
      refine va_put (D := D) (ci := 4) (v := .int (nI (cntN (smA wf vf 26) 26))) (ty := .int) (C := RX5) (T := TX5) (N := 4) hx hb hts iX5 tyX5 tyX5_ok nmX5 hown hC.1 hP hD hS 0 rfl rfl 2 (by decide) (hts (.fieldLink RX5 25 "ParrotCounts$SecondList" "size" "I") (List.mem_of_getElem? (i := 2) rfl)) (fun _ h9 => h9) rfl (by decide +kernel) rfl rfl (Nat.le_of_ble_eq_true rfl) dX5_mergeWith_37 (fun H locs hP hD hS => ?_)
      have hP : va_P D vwCl [oSL yo yc wo (nI (cntN (smA wf vf 26) 26)) wr, aI T yc 26 (smA wf vf 26), oSL vo vc vwo vwz vwr, aI T vc 26 vf] H := hP
      have hD : va_D A [oSL yo yc wo (nI (cntN (smA wf vf 26) 26)) wr, aI T yc 26 (smA wf vf 26), oSL vo vc vwo vwz vwr, aI T vc 26 vf] := hD
      refine lv_aload_n hx hb dX5_mergeWith_40 rfl (lv_at hl 1 rfl) ?_
      refine lv_dup hx hb dX5_mergeWith_41 rfl ?_
      refine va_get (D := D) (ci := 4) (v := .int wo) (C := RX5) (T := TX5) (N := 4) hx hb hts iX5 hown hC.1 hP 0 rfl rfl 1 (by decide) (hts (.fieldLink RX5 21 "ParrotCounts$SecondList" "wornBy" "I") (List.mem_of_getElem? (i := 3) rfl)) (fun _ h => h) rfl dX5_mergeWith_42 ?_
      refine lv_aload_n hx hb dX5_mergeWith_45 rfl (lv_at hl 2 rfl) ?_
      refine va_get (D := D) (ci := 4) (v := .int vwo) (C := RX5) (T := TX5) (N := 4) hx hb hts iX5 hown hC.1 hP 2 rfl rfl 1 (by decide) (hts (.fieldLink RX5 21 "ParrotCounts$SecondList" "wornBy" "I") (List.mem_of_getElem? (i := 3) rfl)) (fun _ h => h) rfl dX5_mergeWith_46 ?_
      refine lv_iadd hx hb dX5_mergeWith_49 ?_
      refine va_put (D := D) (ci := 4) (v := .int (wo + vwo)) (ty := .int) (C := RX5) (T := TX5) (N := 4) hx hb hts iX5 tyX5 tyX5_ok nmX5 hown hC.1 hP hD hS 0 rfl rfl 1 (by decide) (hts (.fieldLink RX5 21 "ParrotCounts$SecondList" "wornBy" "I") (List.mem_of_getElem? (i := 3) rfl)) (fun _ h9 => h9) rfl (by decide +kernel) rfl rfl (Nat.le_of_ble_eq_true rfl) dX5_mergeWith_50 (fun H locs hP hD hS => ?_)
      have hP : va_P D vwCl [oSL yo yc (wo + vwo) (nI (cntN (smA wf vf 26) 26)) wr, aI T yc 26 (smA wf vf 26), oSL vo vc vwo vwz vwr, aI T vc 26 vf] H := hP
      have hD : va_D A [oSL yo yc (wo + vwo) (nI (cntN (smA wf vf 26) 26)) wr, aI T yc 26 (smA wf vf 26), oSL vo vc vwo vwz vwr, aI T vc 26 vf] := hD
      refine lv_aload_n hx hb dX5_mergeWith_53 rfl (lv_at hl 1 rfl) ?_
      refine va_get (D := D) (ci := 4) (v := .ref yc) (C := RX5) (T := TX5) (N := 4) hx hb hts iX5 hown hC.1 hP 0 rfl rfl 0 (by decide) (hts (.fieldLink RX5 9 "ParrotCounts$SecondList" "counts" "[I") (List.mem_of_getElem? (i := 1) rfl)) (fun _ h => h) rfl dX5_mergeWith_54 ?_
      refine lv_aload_n hx hb dX5_mergeWith_57 rfl (lv_at hl 1 rfl) ?_
      refine va_get (D := D) (ci := 4) (v := .int wr) (C := RX5) (T := TX5) (N := 4) hx hb hts iX5 hown hC.1 hP 0 rfl rfl 3 (by decide) (hts (.fieldLink RX5 28 "ParrotCounts$SecondList" "room" "I") (List.mem_of_getElem? (i := 4) rfl)) (fun _ h => h) rfl dX5_mergeWith_58 ?_
      have hP := hP.sub (ws' := [aI T yc 26 (smA wf vf 26)] ++ [oSL yo yc (wo + vwo) (nI (cntN (smA wf vf 26) 26)) wr, oSL vo vc vwo vwz vwr, aI T vc 26 vf]) [1, 0, 2, 3] rfl
      have hD := hD.sub (ws' := [aI T yc 26 (smA wf vf 26)] ++ [oSL yo yc (wo + vwo) (nI (cntN (smA wf vf 26) 26)) wr, oSL vo vc vwo vwz vwr, aI T vc 26 vf]) [1, 0, 2, 3] (by decide) rfl
      refine kSN (As := [.ref yc, .int wr]) (rest := []) ⟨hx, hb, hml, hown, hts⟩ (c_X8_parrotAt l D T yc (smA wf vf 26) wr ) ⟨va_cnB (host := RX8) 2 hts gX5_mergeWith_X8_parrotAt_n49 rfl rfl rfl (hC.nw 14 (q := (RX5, 49, yX8_parrotAt)) rfl) (hts (.initialized RX8) (List.mem_of_getElem? (i := 6) rfl)) (by decide +kernel) ⟨Nat.le_of_ble_eq_true rfl, Nat.le_of_ble_eq_true rfl⟩, hts (.static yX8_parrotAt) (List.mem_of_getElem? (i := 8) rfl), trivial⟩ hC hP hD hS hA rfl hl.1 rfl (Nat.le_of_ble_eq_true rfl) dX5_mergeWith_61 ⟨Nat.zero_le _, Nat.zero_le _⟩ (fun H locs hP hD hS => ?_)
      have hP := hP.sub (ws' := [oSL yo yc (wo + vwo) (nI (cntN (smA wf vf 26) 26)) wr, aI T yc 26 (smA wf vf 26), oSL vo vc vwo vwz vwr, aI T vc 26 vf]) [1, 0, 2, 3] rfl
      have hD := hD.sub (ws' := [oSL yo yc (wo + vwo) (nI (cntN (smA wf vf 26) 26)) wr, aI T yc 26 (smA wf vf 26), oSL vo vc vwo vwz vwr, aI T vc 26 vf]) [1, 0, 2, 3] (by decide) rfl
      refine W.eq (g2 := F0 m 64 ls [.int (pAtN (smA wf vf 26) wr 26 0)]) rfl ?_
      refine lv_istore_n (lv' := [(2, .int (pAtN (smA wf vf 26) wr 26 0)), (0, .ref yo), (1, .ref vo)]) hx hb dX5_mergeWith_64 rfl hl (by decide) rfl (fun ls hl => ?_)
      refine lv_iload_n hx hb dX5_mergeWith_65 rfl (lv_at hl 0 rfl) ?_
      refine lv_iconst (v := (-1)) hx hb dX5_mergeWith_66 (by decide) ?_
      refine lv_icmp_eq (tgt := 80) hx hb dX5_mergeWith_67 (by decide) (fun c67 => ?_) (fun c67 => ?_)
      · have e_1 : wo + vwo = smO wf vf wo wr vwo := by first | with_reducible rfl | (simp [smO, smZ, smC, eq_true c67]; done)
        have e_2 : nI (cntN (smA wf vf 26) 26) = smZ wf vf wr := by first | with_reducible rfl | (simp [smO, smZ, smC, eq_true c67]; done)
        have e_3 : (smA wf vf 26) = smC wf vf wr := by first | with_reducible rfl | (simp [smO, smZ, smC, eq_true c67]; done)
        have eW := (congrArg (fun zZ => ([oSL yo yc zZ (nI (cntN (smA wf vf 26) 26)) wr, aI T yc 26 (smA wf vf 26), oSL vo vc vwo vwz vwr, aI T vc 26 vf] : va_W)) e_1).trans ((congrArg (fun zZ => ([oSL yo yc (smO wf vf wo wr vwo) zZ wr, aI T yc 26 (smA wf vf 26), oSL vo vc vwo vwz vwr, aI T vc 26 vf] : va_W)) e_2).trans (congrArg (fun zZ => ([oSL yo yc (smO wf vf wo wr vwo) (smZ wf vf wr) wr, aI T yc 26 zZ, oSL vo vc vwo vwz vwr, aI T vc 26 vf] : va_W)) e_3))
        have hP : va_P D vwCl [oSL yo yc (smO wf vf wo wr vwo) (smZ wf vf wr) wr, aI T yc 26 (smC wf vf wr), oSL vo vc vwo vwz vwr, aI T vc 26 vf] _ := Eq.subst (motive := fun w => va_P D vwCl w _) eW hP
        have hD : va_D A [oSL yo yc (smO wf vf wo wr vwo) (smZ wf vf wr) wr, aI T yc 26 (smC wf vf wr), oSL vo vc vwo vwz vwr, aI T vc 26 vf] := Eq.subst (motive := fun w => va_D A w) eW hD
        exact hret _ _ _ _ _ (fun Qc free hq hf => W.vret hx hb hr hq hf dX5_mergeWith_80 hlk) hP hD hS
      · refine lv_aload_n hx hb dX5_mergeWith_70 rfl (lv_at hl 1 rfl) ?_
        refine lv_aload_n hx hb dX5_mergeWith_71 rfl (lv_at hl 1 rfl) ?_
        refine va_get (D := D) (ci := 4) (v := .ref yc) (C := RX5) (T := TX5) (N := 4) hx hb hts iX5 hown hC.1 hP 0 rfl rfl 0 (by decide) (hts (.fieldLink RX5 9 "ParrotCounts$SecondList" "counts" "[I") (List.mem_of_getElem? (i := 1) rfl)) (fun _ h => h) rfl dX5_mergeWith_72 ?_
        refine lv_iload_n hx hb dX5_mergeWith_75 rfl (lv_at hl 0 rfl) ?_
        refine va_iald hx hb hC.1 hP 1 0 rfl rfl (pAtN_vp c67) dX5_mergeWith_76 ?_
        have hP := hP.sub (ws' := [oSL yo yc (wo + vwo) (nI (cntN (smA wf vf 26) 26)) wr, aI T yc 26 (smA wf vf 26)] ++ [oSL vo vc vwo vwz vwr, aI T vc 26 vf]) [0, 1, 2, 3] rfl
        have hD := hD.sub (ws' := [oSL yo yc (wo + vwo) (nI (cntN (smA wf vf 26) 26)) wr, aI T yc 26 (smA wf vf 26)] ++ [oSL vo vc vwo vwz vwr, aI T vc 26 vf]) [0, 1, 2, 3] (by decide) rfl
        refine kV (ci := 4) (As := [.int ((smA wf vf 26) (pAtN (smA wf vf 26) wr 26 0).toNatClampNeg)]) (rest := []) ⟨hx, hb, hml, hown, hts⟩ (c_X5_wearDown l D T yo yc (smA wf vf 26) (wo + vwo) (nI (cntN (smA wf vf 26) 26)) wr ((smA wf vf 26) (pAtN (smA wf vf 26) wr 26 0).toNatClampNeg) ) (cwV 1 hts gX5_mergeWith_X5_wearDown rfl rfl rfl (by decide +kernel) ⟨Nat.le_of_ble_eq_true rfl, Nat.le_of_ble_eq_true rfl⟩) hC hP hD hS hA rfl rfl rfl hl.1 rfl (Nat.le_of_ble_eq_true rfl) dX5_mergeWith_77 ⟨Nat.zero_le _, Nat.zero_le _⟩ (fun H locs hP hD hS => ?_)
        have hP : va_P D vwCl [oSL yo yc ((wo + vwo) + ((smA wf vf 26) (pAtN (smA wf vf 26) wr 26 0).toNatClampNeg)) (nI (cntN (wdN (smA wf vf 26) ((smA wf vf 26) (pAtN (smA wf vf 26) wr 26 0).toNatClampNeg) 26) 26)) wr, aI T yc 26 (wdN (smA wf vf 26) ((smA wf vf 26) (pAtN (smA wf vf 26) wr 26 0).toNatClampNeg) 26), oSL vo vc vwo vwz vwr, aI T vc 26 vf] H := hP
        have hD : va_D A [oSL yo yc ((wo + vwo) + ((smA wf vf 26) (pAtN (smA wf vf 26) wr 26 0).toNatClampNeg)) (nI (cntN (wdN (smA wf vf 26) ((smA wf vf 26) (pAtN (smA wf vf 26) wr 26 0).toNatClampNeg) 26) 26)) wr, aI T yc 26 (wdN (smA wf vf 26) ((smA wf vf 26) (pAtN (smA wf vf 26) wr 26 0).toNatClampNeg) 26), oSL vo vc vwo vwz vwr, aI T vc 26 vf] := hD
        refine W.eq (g2 := F0 m 80 ls []) rfl ?_
        have e_4 : (wo + vwo) + ((smA wf vf 26) (pAtN (smA wf vf 26) wr 26 0).toNatClampNeg) = smO wf vf wo wr vwo := by first | with_reducible rfl | (simp [smO, smZ, smC, c67]; done)
        have e_5 : nI (cntN (wdN (smA wf vf 26) ((smA wf vf 26) (pAtN (smA wf vf 26) wr 26 0).toNatClampNeg) 26) 26) = smZ wf vf wr := by first | with_reducible rfl | (simp [smO, smZ, smC, c67]; done)
        have e_6 : wdN (smA wf vf 26) ((smA wf vf 26) (pAtN (smA wf vf 26) wr 26 0).toNatClampNeg) 26 = smC wf vf wr := by first | with_reducible rfl | (simp [smO, smZ, smC, c67]; done)
        have eW := (congrArg (fun zZ => ([oSL yo yc zZ (nI (cntN (wdN (smA wf vf 26) ((smA wf vf 26) (pAtN (smA wf vf 26) wr 26 0).toNatClampNeg) 26) 26)) wr, aI T yc 26 (wdN (smA wf vf 26) ((smA wf vf 26) (pAtN (smA wf vf 26) wr 26 0).toNatClampNeg) 26), oSL vo vc vwo vwz vwr, aI T vc 26 vf] : va_W)) e_4).trans ((congrArg (fun zZ => ([oSL yo yc (smO wf vf wo wr vwo) zZ wr, aI T yc 26 (wdN (smA wf vf 26) ((smA wf vf 26) (pAtN (smA wf vf 26) wr 26 0).toNatClampNeg) 26), oSL vo vc vwo vwz vwr, aI T vc 26 vf] : va_W)) e_5).trans (congrArg (fun zZ => ([oSL yo yc (smO wf vf wo wr vwo) (smZ wf vf wr) wr, aI T yc 26 zZ, oSL vo vc vwo vwz vwr, aI T vc 26 vf] : va_W)) e_6))
        have hP : va_P D vwCl [oSL yo yc (smO wf vf wo wr vwo) (smZ wf vf wr) wr, aI T yc 26 (smC wf vf wr), oSL vo vc vwo vwz vwr, aI T vc 26 vf] _ := Eq.subst (motive := fun w => va_P D vwCl w _) eW hP
        have hD : va_D A [oSL yo yc (smO wf vf wo wr vwo) (smZ wf vf wr) wr, aI T yc 26 (smC wf vf wr), oSL vo vc vwo vwz vwr, aI T vc 26 vf] := Eq.subst (motive := fun w => va_D A w) eW hD
        exact hret _ _ _ _ _ (fun Qc free hq hf => W.vret hx hb hr hq hf dX5_mergeWith_80 hlk) hP hD hS
    | succ n ih =>
      intro i hi  H locs ls hP hD hS hl
      have hlt : i < 26 := by omega
      refine lv_iload_n hx hb dX5_mergeWith_2 rfl (lv_at hl 0 rfl) ?_
      refine lv_bipush (v := 26) hx hb dX5_mergeWith_3 (by decide) ?_
      refine lv_icmp_ge (tgt := 29) hx hb dX5_mergeWith_5 (by decide) (fun c_x => absurd c_x (nI_ge (b := 26) hlt (by decide))) (fun _ => ?_)
      refine lv_aload_n hx hb dX5_mergeWith_8 rfl (lv_at hl 1 rfl) ?_
      refine va_get (D := D) (ci := 4) (v := .ref yc) (C := RX5) (T := TX5) (N := 4) hx hb hts iX5 hown hC.1 hP 0 rfl rfl 0 (by decide) (hts (.fieldLink RX5 9 "ParrotCounts$SecondList" "counts" "[I") (List.mem_of_getElem? (i := 1) rfl)) (fun _ h => h) rfl dX5_mergeWith_9 ?_
      refine lv_iload_n hx hb dX5_mergeWith_12 rfl (lv_at hl 0 rfl) ?_
      refine lv_dup2_11 hx hb dX5_mergeWith_13 rfl rfl ?_
      refine k_iald hx hb hC.1 hP 1 0 rfl rfl (by omega) dX5_mergeWith_14 ?_
      refine lv_aload_n hx hb dX5_mergeWith_15 rfl (lv_at hl 2 rfl) ?_
      refine va_get (D := D) (ci := 4) (v := .ref vc) (C := RX5) (T := TX5) (N := 4) hx hb hts iX5 hown hC.1 hP 2 rfl rfl 0 (by decide) (hts (.fieldLink RX5 9 "ParrotCounts$SecondList" "counts" "[I") (List.mem_of_getElem? (i := 1) rfl)) (fun _ h => h) rfl dX5_mergeWith_16 ?_
      refine lv_iload_n hx hb dX5_mergeWith_19 rfl (lv_at hl 0 rfl) ?_
      refine k_iald hx hb hC.1 hP 3 0 rfl rfl (by omega) dX5_mergeWith_20 ?_
      refine lv_iadd hx hb dX5_mergeWith_21 ?_
      refine k_iast hx hb hC.1 hP hD hS 1 0 rfl rfl (by omega) dX5_mergeWith_22 (fun H locs hP hD hS => ?_)
      have hP : va_P D vwCl [oSL yo yc wo wz wr, aI T yc 26 (upd (smA wf vf i) i (((smA wf vf i) i) + (vf i))), oSL vo vc vwo vwz vwr, aI T vc 26 vf] H := hP
      have hD : va_D A [oSL yo yc wo wz wr, aI T yc 26 (upd (smA wf vf i) i (((smA wf vf i) i) + (vf i))), oSL vo vc vwo vwz vwr, aI T vc 26 vf] := hD
      refine lv_iinc (v := nI (i + 1)) (lv' := [(2, .int (nI (i + 1))), (0, .ref yo), (1, .ref vo)]) hx hb dX5_mergeWith_23 hl (k := 0) rfl (nI_1 i) (by decide) rfl (fun ls hl => ?_)
      refine lv_goto (tgt := 2) hx hb dX5_mergeWith_26 (by decide) ?_
      have e_7 : upd (smA wf vf i) i (((smA wf vf i) i) + (vf i)) = smA wf vf (i + 1) := by rw [smA]
      have eW := congrArg (fun zZ => ([oSL yo yc wo wz wr, aI T yc 26 zZ, oSL vo vc vwo vwz vwr, aI T vc 26 vf] : va_W)) e_7
      have hP : va_P D vwCl [oSL yo yc wo wz wr, aI T yc 26 (smA wf vf (i + 1)), oSL vo vc vwo vwz vwr, aI T vc 26 vf] _ := Eq.subst (motive := fun w => va_P D vwCl w _) eW hP
      have hD : va_D A [oSL yo yc wo wz wr, aI T yc 26 (smA wf vf (i + 1)), oSL vo vc vwo vwz vwr, aI T vc 26 vf] := Eq.subst (motive := fun w => va_D A w) eW hD
      have hl : lv_has ls 3 [(2, .int (nI (i + 1))), (0, .ref yo), (1, .ref vo)] := lv_sub hl [0, 1, 2] (by rfl)
      exact ih (i + 1) (by omega)  _ _ _ hP hD hS hl
  have hl : lv_has ls 3 [(0, .ref yo), (1, .ref vo)] := hl
  have hP : va_P D vwCl [oSL yo yc wo wz wr, aI T yc 26 wf, oSL vo vc vwo vwz vwr, aI T vc 26 vf] s.heap := hP
  have hD : va_D A [oSL yo yc wo wz wr, aI T yc 26 wf, oSL vo vc vwo vwz vwr, aI T vc 26 vf] := hD
  refine lv_iconst (v := 0) hx hb dX5_mergeWith_0 (by decide) ?_
  refine lv_istore_n (lv' := [(2, .int 0), (0, .ref yo), (1, .ref vo)]) hx hb dX5_mergeWith_1 rfl hl (by decide) rfl (fun ls hl => ?_)
  have e_8 : wf = smA wf vf 0 := rfl
  have eW := congrArg (fun zZ => ([oSL yo yc wo wz wr, aI T yc 26 zZ, oSL vo vc vwo vwz vwr, aI T vc 26 vf] : va_W)) e_8
  have hP : va_P D vwCl [oSL yo yc wo wz wr, aI T yc 26 (smA wf vf 0), oSL vo vc vwo vwz vwr, aI T vc 26 vf] _ := Eq.subst (motive := fun w => va_P D vwCl w _) eW hP
  have hD : va_D A [oSL yo yc wo wz wr, aI T yc 26 (smA wf vf 0), oSL vo vc vwo vwz vwr, aI T vc 26 vf] := Eq.subst (motive := fun w => va_D A w) eW hD
  have e_9 : (0 : Int32) = nI 0 := rfl
  have hl : lv_has ls 3 [(2, .int (nI 0)), (0, .ref yo), (1, .ref vo)] := lv_sub hl [0, 1, 2] (by show (_ : List (Nat × Value)) = [(2, .int (nI 0)), (0, .ref yo), (1, .ref vo)]; rw [← e_9]; rfl)
  exact loop_2 26 0 (by omega)  _ _ _ hP hD hS hl
