/-! pure words for the first list -/
def bI (b : Bool) : Int32 := if b then 1 else 0
theorem bI_nar (b : Bool) : narrow .boolean (.int (bI b)) = .int (bI b) := by cases b <;> rfl
theorem bI_fit (b : Bool) : fits .boolean (.int (bI b)) = true := by cases b <;> rfl
theorem bI0 (b : Bool) : bI b = 0 ↔ b = false := by cases b <;> decide
theorem bI1 (b : Bool) : bI b = 1 ↔ b = true := by cases b <;> decide
def flFull (sz rm : Int32) : Bool := decide (rm ≤ sz)
def flWeaker (fc fg : Nat → Int32) (p q : Nat) : Bool := if fc p = fc q then decide (fg p < fg q) else decide (fc p < fc q)
def flWeakS (fc fg : Nat → Int32) (w : Int32) (i : Nat) : Int32 := if fc i ≤ 0 then w else if w = -1 then nI i else if flWeaker fc fg i w.toNatClampNeg then nI i else w
def flWeak (fc fg : Nat → Int32) : Nat → Int32
  | 0 => -1
  | i + 1 => flWeakS fc fg (flWeak fc fg i) i
def flLeast (fc fg : Nat → Int32) (sz rm : Int32) : Int32 := if flFull sz rm then (if flWeak fc fg 26 = -1 then 0 else fc (flWeak fc fg 26).toNatClampNeg) else 0
def flEst (fc fg : Nat → Int32) (sz rm : Int32) (p : Nat) : Int32 := if fc p ≤ 0 then flLeast fc fg sz rm else fc p
def flSure (fc fs : Nat → Int32) (p : Nat) : Int32 := if fc p ≤ 0 then 0 else fc p - fs p
theorem flWeak_in (fc fg : Nat → Int32) : ∀ i, i ≤ 26 → flWeak fc fg i = -1 ∨ ∃ j, j < i ∧ flWeak fc fg i = nI j ∧ ¬ fc j ≤ 0
  | 0, _ => Or.inl rfl
  | i + 1, h => by
    have ih := flWeak_in fc fg i (by omega)
    have old : flWeak fc fg i = -1 ∨ ∃ j, j < i + 1 ∧ flWeak fc fg i = nI j ∧ ¬ fc j ≤ 0 := ih.imp id (fun ⟨j, h1, h2⟩ => ⟨j, by omega, h2⟩)
    unfold flWeak flWeakS
    by_cases h1 : fc i ≤ 0
    · rw [if_pos h1]; exact old
    · rw [if_neg h1]
      by_cases h2 : flWeak fc fg i = -1
      · rw [if_pos h2]; exact Or.inr ⟨i, by omega, rfl, h1⟩
      · rw [if_neg h2]
        by_cases h3 : flWeaker fc fg i (flWeak fc fg i).toNatClampNeg = true
        · rw [if_pos h3]; exact Or.inr ⟨i, by omega, rfl, h1⟩
        · rw [if_neg h3]; exact old
theorem nI_ne1 {j : Nat} (h : j < 2 ^ 31) : ¬ nI j = -1 := fun e => by
  have h1 := nI_toInt h
  rw [e] at h1
  have h2 : (-1 : Int32).toInt = -1 := by decide
  omega
theorem flWeak_vp {fc fg : Nat → Int32} {i : Nat} (hi : i ≤ 26) (h : ¬ flWeak fc fg i = -1) : vp_in (flWeak fc fg i) 26 := by
  rcases flWeak_in fc fg i hi with e | ⟨j, h1, h2, -⟩
  · exact absurd e h
  · rw [h2]; exact vp_in_nI (by omega) (by omega)
section KROW
variable {p : Program} {l : Launch} {e : Env} {R : Room} {s : State} {m : MethodId} {args : Array Value} {below : List Frame} {meth : Method} {c : Code} {H H0 : Heap} {locs : List Loc} {cells slots : Nat} {Q : State → Prop} {D : va_G} {cl : List vw_C} {tys : List (ClassId × FieldType)} {ws : va_W} {A : Nat → Prop} {a pc : Nat} {ls : Array Slot} {rest : List Value} {cc : ByteArray}
theorem k_nin {i n : Nat} (h : i < n) (hn : n ≤ 2147483647) : vp_in (nI i) n := vp_in_nI h (by omega)
theorem k_iald (hexec : p.tables.exec = Jvm.exec) (hb : c.code = cc) (hK : va_K D cl tys s) (hP : va_P D cl ws H) (q0 t0 : Nat) {cA : ClassId} {n : Nat} {f : Nat → Int32} (ha : ws[q0]? = some (a, .inl (cA, n, .inl f))) (ht : tys[t0]? = some (cA, .int)) {i : Nat} (hin : i < n ∧ n ≤ 2147483647) (hdg : decode cc pc = .ok (.iaload, 1))
    (kk : W p l e R s m args below meth c H locs cells slots Q (F0 m (pc + 1) ls (.int (f i) :: rest))) : W p l e R s m args below meth c H locs cells slots Q (F0 m pc ls (.int (nI i) :: .ref a :: rest)) := by
  refine va_iald hexec hb hK hP q0 t0 ha ht (k_nin hin.1 hin.2) hdg ?_
  rw [nI_clamp (by omega)]
  exact kk
theorem k_cald (hexec : p.tables.exec = Jvm.exec) (hb : c.code = cc) (hK : va_K D cl tys s) (hP : va_P D cl ws H) (q0 t0 : Nat) {cA : ClassId} {n : Nat} {f : Nat → Int32} (ha : ws[q0]? = some (a, .inl (cA, n, .inl f))) (ht : tys[t0]? = some (cA, .char)) {i : Nat} (hin : i < n ∧ n ≤ 2147483647) (hdg : decode cc pc = .ok (.caload, 1))
    (kk : W p l e R s m args below meth c H locs cells slots Q (F0 m (pc + 1) ls (.int (f i) :: rest))) : W p l e R s m args below meth c H locs cells slots Q (F0 m pc ls (.int (nI i) :: .ref a :: rest)) := by
  refine va_cald hexec hb hK hP q0 t0 ha ht (k_nin hin.1 hin.2) hdg ?_
  rw [nI_clamp (by omega)]
  exact kk
theorem k_iast (hexec : p.tables.exec = Jvm.exec) (hb : c.code = cc) (hK : va_K D cl tys s) (hP : va_P D cl ws H) (hD : va_D A ws) (hS : va_S A H0 H locs) (q0 t0 : Nat) {cA : ClassId} {n : Nat} {f : Nat → Int32} (ha : ws[q0]? = some (a, .inl (cA, n, .inl f))) (ht : tys[t0]? = some (cA, .int)) {i : Nat} {x : Int32} (hin : i < n ∧ n ≤ 2147483647) (hdg : decode cc pc = .ok (.iastore, 1))
    (kk : ∀ (H1 : Heap) (locs1 : List Loc), va_P D cl (ws.set q0 (a, .inl (cA, n, .inl (upd f i x)))) H1 → va_D A (ws.set q0 (a, .inl (cA, n, .inl (upd f i x)))) → va_S A H0 H1 locs1 → W p l e R s m args below meth c H1 locs1 cells slots Q (F0 m (pc + 1) ls rest)) : W p l e R s m args below meth c H locs cells slots Q (F0 m pc ls (.int x :: .int (nI i) :: .ref a :: rest)) := by
  refine va_iast hexec hb hK hP hD hS q0 t0 ha ht (k_nin hin.1 hin.2) hdg ?_
  rw [nI_clamp (by omega)]
  exact kk
end KROW
abbrev rX0_isFull : Room := { frames := 0, cells := 0, slots := 0, locals := 0 }
set_option maxHeartbeats 4000000 in
set_option maxRecDepth 100000 in
theorem c_X0_isFull (l : Launch) (D : va_G) (T : Nat → ClassId) (xo xc xs xg : Nat) (fc fs fg : Nat → Int32) (ch sz rm : Int32) : kM l D T yX0_isFull wsX0_isFull rX0_isFull [.ref xo] [oFL xo xc xs xg ch sz rm, aI T xc 26 fc, aI T xs 26 fs, aI T xg 26 fg] (some (.int (bI (flFull sz rm)))) [oFL xo xc xs xg ch sz rm, aI T xc 26 fc, aI T xs 26 fs, aI T xg 26 fg] := by
  refine kM.of (cc := cX0_isFull) (maxL := 1) (ret := some .boolean) (by decide) rfl (Nat.le_of_ble_eq_true rfl) ?_
  intro p e s m below meth c A Q ls hx hb hml hown hr hlk hts hC hP hD hS hA hl hret
  have iX0 : ∀ w ∈ wsX00, w ∈ wsX0_isFull := (fun _ h => List.mem_cons_of_mem _ (List.mem_append_right _ h))
  have hl : lv_has ls 1 [(0, .ref xo)] := hl
  have hP : va_P D vwCl [oFL xo xc xs xg ch sz rm, aI T xc 26 fc, aI T xs 26 fs, aI T xg 26 fg] s.heap := hP
  have hD : va_D A [oFL xo xc xs xg ch sz rm, aI T xc 26 fc, aI T xs 26 fs, aI T xg 26 fg] := hD
  refine lv_aload_n hx hb dX0_isFull_0 rfl (lv_at hl 0 rfl) ?_
  refine va_get (D := D) (ci := 0) (v := .int sz) (C := RX0) (T := TX0) (N := 6) hx hb hts iX0 hown hC.1 hP 0 rfl rfl 4 (by decide) (hts (.fieldLink RX0 31 "ParrotCounts$FirstList" "size" "I") (List.mem_of_getElem? (i := 1) rfl)) (fun _ h => h) rfl dX0_isFull_1 ?_
  refine lv_aload_n hx hb dX0_isFull_4 rfl (lv_at hl 0 rfl) ?_
  refine va_get (D := D) (ci := 0) (v := .int rm) (C := RX0) (T := TX0) (N := 6) hx hb hts iX0 hown hC.1 hP 0 rfl rfl 5 (by decide) (hts (.fieldLink RX0 34 "ParrotCounts$FirstList" "room" "I") (List.mem_of_getElem? (i := 2) rfl)) (fun _ h => h) rfl dX0_isFull_5 ?_
  refine lv_icmp_lt (tgt := 15) hx hb dX0_isFull_8 (by decide) (fun c8 => ?_) (fun c8 => ?_)
  · refine lv_iconst (v := 0) hx hb dX0_isFull_15 (by decide) ?_
    have e_1 : 0 = bI (flFull sz rm) := by first | rfl | (simp [flFull, bI, c8]; done)
    refine W.eq (g2 := F0 m 16 ls [.int (bI (flFull sz rm))]) (congrArg (fun z => F0 m 16 ls [.int z]) e_1) ?_
    exact hret _ _ _ _ _ (fun Qc free hq hf => W.zret hx hb hr (bI_nar _) hq hf dX0_isFull_16 hlk) hP hD hS
  · refine lv_iconst (v := 1) hx hb dX0_isFull_11 (by decide) ?_
    refine lv_goto (tgt := 16) hx hb dX0_isFull_12 (by decide) ?_
    have e_2 : 1 = bI (flFull sz rm) := by first | rfl | (simp [flFull, bI, c8]; done)
    refine W.eq (g2 := F0 m 16 ls [.int (bI (flFull sz rm))]) (congrArg (fun z => F0 m 16 ls [.int z]) e_2) ?_
    exact hret _ _ _ _ _ (fun Qc free hq hf => W.zret hx hb hr (bI_nar _) hq hf dX0_isFull_16 hlk) hP hD hS
abbrev rX0_isWeaker : Room := { frames := 0, cells := 0, slots := 0, locals := 0 }
set_option maxHeartbeats 4000000 in
set_option maxRecDepth 100000 in
theorem c_X0_isWeaker (l : Launch) (D : va_G) (T : Nat → ClassId) (xo xc xs xg : Nat) (fc fs fg : Nat → Int32) (ch sz rm : Int32) (pa : Nat) (qx : Int32) (hp : pa < 26) (hq : vp_in qx 26) : kM l D T yX0_isWeaker wsX0_isWeaker rX0_isWeaker [.ref xo, .int (nI pa), .int qx] [oFL xo xc xs xg ch sz rm, aI T xc 26 fc, aI T xs 26 fs, aI T xg 26 fg] (some (.int (bI (flWeaker fc fg pa qx.toNatClampNeg)))) [oFL xo xc xs xg ch sz rm, aI T xc 26 fc, aI T xs 26 fs, aI T xg 26 fg] := by
  refine kM.of (cc := cX0_isWeaker) (maxL := 3) (ret := some .boolean) (by decide) rfl (Nat.le_of_ble_eq_true rfl) ?_
  intro p e s m below meth c A Q ls hx hb hml hown hr hlk hts hC hP hD hS hA hl hret
  have iX0 : ∀ w ∈ wsX00, w ∈ wsX0_isWeaker := (fun _ h => List.mem_cons_of_mem _ (List.mem_append_right _ h))
  have hl : lv_has ls 3 [(0, .ref xo), (1, .int (nI pa)), (2, .int qx)] := hl
  have hP : va_P D vwCl [oFL xo xc xs xg ch sz rm, aI T xc 26 fc, aI T xs 26 fs, aI T xg 26 fg] s.heap := hP
  have hD : va_D A [oFL xo xc xs xg ch sz rm, aI T xc 26 fc, aI T xs 26 fs, aI T xg 26 fg] := hD
  refine lv_aload_n hx hb dX0_isWeaker_0 rfl (lv_at hl 0 rfl) ?_
  refine va_get (D := D) (ci := 0) (v := .ref xc) (C := RX0) (T := TX0) (N := 6) hx hb hts iX0 hown hC.1 hP 0 rfl rfl 0 (by decide) (hts (.fieldLink RX0 9 "ParrotCounts$FirstList" "counts" "[I") (List.mem_of_getElem? (i := 1) rfl)) (fun _ h => h) rfl dX0_isWeaker_1 ?_
  refine lv_iload_n hx hb dX0_isWeaker_4 rfl (lv_at hl 1 rfl) ?_
  refine k_iald hx hb hC.1 hP 1 0 rfl rfl (by omega) dX0_isWeaker_5 ?_
  refine lv_aload_n hx hb dX0_isWeaker_6 rfl (lv_at hl 0 rfl) ?_
  refine va_get (D := D) (ci := 0) (v := .ref xc) (C := RX0) (T := TX0) (N := 6) hx hb hts iX0 hown hC.1 hP 0 rfl rfl 0 (by decide) (hts (.fieldLink RX0 9 "ParrotCounts$FirstList" "counts" "[I") (List.mem_of_getElem? (i := 1) rfl)) (fun _ h => h) rfl dX0_isWeaker_7 ?_
  refine lv_iload_n hx hb dX0_isWeaker_10 rfl (lv_at hl 2 rfl) ?_
  refine va_iald hx hb hC.1 hP 1 0 rfl rfl (by assumption) dX0_isWeaker_11 ?_
  refine lv_icmp_eq (tgt := 36) hx hb dX0_isWeaker_12 (by decide) (fun c12 => ?_) (fun c12 => ?_)
  · refine lv_aload_n hx hb dX0_isWeaker_36 rfl (lv_at hl 0 rfl) ?_
    refine va_get (D := D) (ci := 0) (v := .ref xg) (C := RX0) (T := TX0) (N := 6) hx hb hts iX0 hown hC.1 hP 0 rfl rfl 2 (by decide) (hts (.fieldLink RX0 18 "ParrotCounts$FirstList" "changedAt" "[I") (List.mem_of_getElem? (i := 2) rfl)) (fun _ h => h) rfl dX0_isWeaker_37 ?_
    refine lv_iload_n hx hb dX0_isWeaker_40 rfl (lv_at hl 1 rfl) ?_
    refine k_iald hx hb hC.1 hP 3 0 rfl rfl (by omega) dX0_isWeaker_41 ?_
    refine lv_aload_n hx hb dX0_isWeaker_42 rfl (lv_at hl 0 rfl) ?_
    refine va_get (D := D) (ci := 0) (v := .ref xg) (C := RX0) (T := TX0) (N := 6) hx hb hts iX0 hown hC.1 hP 0 rfl rfl 2 (by decide) (hts (.fieldLink RX0 18 "ParrotCounts$FirstList" "changedAt" "[I") (List.mem_of_getElem? (i := 2) rfl)) (fun _ h => h) rfl dX0_isWeaker_43 ?_
    refine lv_iload_n hx hb dX0_isWeaker_46 rfl (lv_at hl 2 rfl) ?_
    refine va_iald hx hb hC.1 hP 3 0 rfl rfl (by assumption) dX0_isWeaker_47 ?_
    refine lv_icmp_ge (tgt := 55) hx hb dX0_isWeaker_48 (by decide) (fun c48 => ?_) (fun c48 => ?_)
    · refine lv_iconst (v := 0) hx hb dX0_isWeaker_55 (by decide) ?_
      have e_1 : 0 = bI (flWeaker fc fg pa qx.toNatClampNeg) := by first | rfl | (simp [flWeaker, bI, c12, c48]; done)
      refine W.eq (g2 := F0 m 56 ls [.int (bI (flWeaker fc fg pa qx.toNatClampNeg))]) (congrArg (fun z => F0 m 56 ls [.int z]) e_1) ?_
      exact hret _ _ _ _ _ (fun Qc free hq hf => W.zret hx hb hr (bI_nar _) hq hf dX0_isWeaker_56 hlk) hP hD hS
    · refine lv_iconst (v := 1) hx hb dX0_isWeaker_51 (by decide) ?_
      refine lv_goto (tgt := 56) hx hb dX0_isWeaker_52 (by decide) ?_
      have e_2 : 1 = bI (flWeaker fc fg pa qx.toNatClampNeg) := by first | rfl | (simp [flWeaker, bI, c12, c48]; done)
      refine W.eq (g2 := F0 m 56 ls [.int (bI (flWeaker fc fg pa qx.toNatClampNeg))]) (congrArg (fun z => F0 m 56 ls [.int z]) e_2) ?_
      exact hret _ _ _ _ _ (fun Qc free hq hf => W.zret hx hb hr (bI_nar _) hq hf dX0_isWeaker_56 hlk) hP hD hS
  · refine lv_aload_n hx hb dX0_isWeaker_15 rfl (lv_at hl 0 rfl) ?_
    refine va_get (D := D) (ci := 0) (v := .ref xc) (C := RX0) (T := TX0) (N := 6) hx hb hts iX0 hown hC.1 hP 0 rfl rfl 0 (by decide) (hts (.fieldLink RX0 9 "ParrotCounts$FirstList" "counts" "[I") (List.mem_of_getElem? (i := 1) rfl)) (fun _ h => h) rfl dX0_isWeaker_16 ?_
    refine lv_iload_n hx hb dX0_isWeaker_19 rfl (lv_at hl 1 rfl) ?_
    refine k_iald hx hb hC.1 hP 1 0 rfl rfl (by omega) dX0_isWeaker_20 ?_
    refine lv_aload_n hx hb dX0_isWeaker_21 rfl (lv_at hl 0 rfl) ?_
    refine va_get (D := D) (ci := 0) (v := .ref xc) (C := RX0) (T := TX0) (N := 6) hx hb hts iX0 hown hC.1 hP 0 rfl rfl 0 (by decide) (hts (.fieldLink RX0 9 "ParrotCounts$FirstList" "counts" "[I") (List.mem_of_getElem? (i := 1) rfl)) (fun _ h => h) rfl dX0_isWeaker_22 ?_
    refine lv_iload_n hx hb dX0_isWeaker_25 rfl (lv_at hl 2 rfl) ?_
    refine va_iald hx hb hC.1 hP 1 0 rfl rfl (by assumption) dX0_isWeaker_26 ?_
    refine lv_icmp_ge (tgt := 34) hx hb dX0_isWeaker_27 (by decide) (fun c27 => ?_) (fun c27 => ?_)
    · refine lv_iconst (v := 0) hx hb dX0_isWeaker_34 (by decide) ?_
      have e_3 : 0 = bI (flWeaker fc fg pa qx.toNatClampNeg) := by first | rfl | (simp [flWeaker, bI, c12, c27]; done)
      refine W.eq (g2 := F0 m 35 ls [.int (bI (flWeaker fc fg pa qx.toNatClampNeg))]) (congrArg (fun z => F0 m 35 ls [.int z]) e_3) ?_
      exact hret _ _ _ _ _ (fun Qc free hq hf => W.zret hx hb hr (bI_nar _) hq hf dX0_isWeaker_35 hlk) hP hD hS
    · refine lv_iconst (v := 1) hx hb dX0_isWeaker_30 (by decide) ?_
      refine lv_goto (tgt := 35) hx hb dX0_isWeaker_31 (by decide) ?_
      have e_4 : 1 = bI (flWeaker fc fg pa qx.toNatClampNeg) := by first | rfl | (simp [flWeaker, bI, c12, c27]; done)
      refine W.eq (g2 := F0 m 35 ls [.int (bI (flWeaker fc fg pa qx.toNatClampNeg))]) (congrArg (fun z => F0 m 35 ls [.int z]) e_4) ?_
      exact hret _ _ _ _ _ (fun Qc free hq hf => W.zret hx hb hr (bI_nar _) hq hf dX0_isWeaker_35 hlk) hP hD hS
abbrev rX0_weakest : Room := { frames := 1, cells := 0, slots := 0, locals := 22 }
set_option maxHeartbeats 4000000 in
set_option maxRecDepth 100000 in
theorem c_X0_weakest (l : Launch) (D : va_G) (T : Nat → ClassId) (xo xc xs xg : Nat) (fc fs fg : Nat → Int32) (ch sz rm : Int32) : kM l D T yX0_weakest wsX0_weakest rX0_weakest [.ref xo] [oFL xo xc xs xg ch sz rm, aI T xc 26 fc, aI T xs 26 fs, aI T xg 26 fg] (some (.int (flWeak fc fg 26))) [oFL xo xc xs xg ch sz rm, aI T xc 26 fc, aI T xs 26 fs, aI T xg 26 fg] := by
  refine kM.of (cc := cX0_weakest) (maxL := 3) (ret := some .int) (by decide) rfl (Nat.le_of_ble_eq_true rfl) ?_
  intro p e s m below meth c A Q ls hx hb hml hown hr hlk hts hC hP hD hS hA hl hret
  have iX0 : ∀ w ∈ wsX00, w ∈ wsX0_weakest := (fun _ h => List.mem_cons_of_mem _ (List.mem_append_right _ h))
  have loop_4 : ∀ (n i : Nat), i + n = 26 → ∀ (H : Heap) (locs : List Loc) (ls : Array Slot), va_P D vwCl [oFL xo xc xs xg ch sz rm, aI T xc 26 fc, aI T xs 26 fs, aI T xg 26 fg] H → va_D A [oFL xo xc xs xg ch sz rm, aI T xc 26 fc, aI T xs 26 fs, aI T xg 26 fg] → va_S A s.heap H locs → lv_has ls 3 [(2, .int (nI i)), (1, .int (flWeak fc fg i)), (0, .ref xo)] → W p l e rX0_weakest s m [.ref xo].toArray below meth c H locs 0 0 Q (F0 m 4 ls []) := by
    intro n
    induction n with
    | zero =>
      intro i hi  H locs ls hP hD hS hl
      obtain rfl : i = 26 := by omega
      refine lv_iload_n hx hb dX0_weakest_4 rfl (lv_at hl 0 rfl) ?_
      refine lv_bipush (v := 26) hx hb dX0_weakest_5 (by decide) ?_
      refine lv_icmp_ge (tgt := 41) hx hb dX0_weakest_7 (by decide) (fun _ => ?_) (fun c_x => absurd (by decide : (26 : Int32) ≤ nI 26) c_x)
      refine lv_iload_n hx hb dX0_weakest_41 rfl (lv_at hl 1 rfl) ?_
      exact hret _ _ _ _ _ (fun Qc free hq hf => W.iret hx hb hr hq hf dX0_weakest_42 hlk) hP hD hS
    | succ n ih =>
      intro i hi  H locs ls hP hD hS hl
      have hlt : i < 26 := by omega
      refine lv_iload_n hx hb dX0_weakest_4 rfl (lv_at hl 0 rfl) ?_
      refine lv_bipush (v := 26) hx hb dX0_weakest_5 (by decide) ?_
      refine lv_icmp_ge (tgt := 41) hx hb dX0_weakest_7 (by decide) (fun c_x => absurd c_x (nI_ge hlt (by omega))) (fun _ => ?_)
      refine lv_aload_n hx hb dX0_weakest_10 rfl (lv_at hl 2 rfl) ?_
      refine va_get (D := D) (ci := 0) (v := .ref xc) (C := RX0) (T := TX0) (N := 6) hx hb hts iX0 hown hC.1 hP 0 rfl rfl 0 (by decide) (hts (.fieldLink RX0 9 "ParrotCounts$FirstList" "counts" "[I") (List.mem_of_getElem? (i := 1) rfl)) (fun _ h => h) rfl dX0_weakest_11 ?_
      refine lv_iload_n hx hb dX0_weakest_14 rfl (lv_at hl 0 rfl) ?_
      refine k_iald hx hb hC.1 hP 1 0 rfl rfl (by omega) dX0_weakest_15 ?_
      refine lv_if_le (tgt := 35) hx hb dX0_weakest_16 (by decide) (fun c16 => ?_) (fun c16 => ?_)
      · refine lv_iinc (v := nI (i + 1)) (lv' := [(2, .int (nI (i + 1))), (1, .int (flWeak fc fg i)), (0, .ref xo)]) hx hb dX0_weakest_35 hl (k := 0) rfl (nI_1 i) (by decide) rfl (fun ls hl => ?_)
        refine lv_goto (tgt := 4) hx hb dX0_weakest_38 (by decide) ?_
        have e_1 : (flWeak fc fg i : Int32) = flWeak fc fg (i + 1) := by first | rfl | (simp [flWeak, flWeakS, bI0, c16]; done)
        have hl : lv_has ls 3 [(2, .int (nI (i + 1))), (1, .int (flWeak fc fg (i + 1))), (0, .ref xo)] := lv_sub hl [0, 1, 2] (by show _ = [(2, .int (nI (i + 1))), (1, .int (flWeak fc fg (i + 1))), (0, .ref xo)]; rw [← e_1]; rfl)
        exact ih (i + 1) (by omega)  _ _ _ hP hD hS hl
      · refine lv_iload_n hx hb dX0_weakest_19 rfl (lv_at hl 1 rfl) ?_
        refine lv_iconst (v := (-1)) hx hb dX0_weakest_20 (by decide) ?_
        refine lv_icmp_eq (tgt := 33) hx hb dX0_weakest_21 (by decide) (fun c21 => ?_) (fun c21 => ?_)
        · refine lv_iload_n hx hb dX0_weakest_33 rfl (lv_at hl 0 rfl) ?_
          refine lv_istore_n (lv' := [(1, .int (nI i)), (2, .int (nI i)), (0, .ref xo)]) hx hb dX0_weakest_34 rfl hl (by decide) rfl (fun ls hl => ?_)
          refine lv_iinc (v := nI (i + 1)) (lv' := [(2, .int (nI (i + 1))), (1, .int (nI i)), (0, .ref xo)]) hx hb dX0_weakest_35 hl (k := 1) rfl (nI_1 i) (by decide) rfl (fun ls hl => ?_)
          refine lv_goto (tgt := 4) hx hb dX0_weakest_38 (by decide) ?_
          have e_2 : (nI i : Int32) = flWeak fc fg (i + 1) := by first | rfl | (simp [flWeak, flWeakS, bI0, c16, c21]; done)
          have hl : lv_has ls 3 [(2, .int (nI (i + 1))), (1, .int (flWeak fc fg (i + 1))), (0, .ref xo)] := lv_sub hl [0, 1, 2] (by show _ = [(2, .int (nI (i + 1))), (1, .int (flWeak fc fg (i + 1))), (0, .ref xo)]; rw [← e_2]; rfl)
          exact ih (i + 1) (by omega)  _ _ _ hP hD hS hl
        · refine lv_aload_n hx hb dX0_weakest_24 rfl (lv_at hl 2 rfl) ?_
          refine lv_iload_n hx hb dX0_weakest_25 rfl (lv_at hl 0 rfl) ?_
          refine lv_iload_n hx hb dX0_weakest_26 rfl (lv_at hl 1 rfl) ?_
          have hP := hP.sub (ws' := [oFL xo xc xs xg ch sz rm, aI T xc 26 fc, aI T xs 26 fs, aI T xg 26 fg] ++ []) [0, 1, 2, 3] rfl
          have hD := hD.sub (ws' := [oFL xo xc xs xg ch sz rm, aI T xc 26 fc, aI T xs 26 fs, aI T xg 26 fg] ++ []) [0, 1, 2, 3] (by decide) rfl
          refine kV (ci := 0) (As := [.int (nI i), .int (flWeak fc fg i)]) (rest := []) ⟨hx, hb, hml, hown, hts⟩ (c_X0_isWeaker l D T xo xc xs xg fc fs fg ch sz rm i (flWeak fc fg i) (by omega) (flWeak_vp (by omega) c21)) (cwV 2 hts gX0_weakest_X0_isWeaker rfl rfl rfl (by decide +kernel) ⟨Nat.le_of_ble_eq_true rfl, Nat.le_of_ble_eq_true rfl⟩) hC hP hD hS hA rfl rfl rfl hl.1 rfl (Nat.le_of_ble_eq_true rfl) dX0_weakest_27 ⟨Nat.zero_le _, Nat.zero_le _⟩ (fun H locs hP hD hS => ?_)
          have hP : va_P D vwCl [oFL xo xc xs xg ch sz rm, aI T xc 26 fc, aI T xs 26 fs, aI T xg 26 fg] H := hP
          have hD : va_D A [oFL xo xc xs xg ch sz rm, aI T xc 26 fc, aI T xs 26 fs, aI T xg 26 fg] := hD
          refine W.eq (g2 := F0 m 30 ls [.int (bI (flWeaker fc fg i (flWeak fc fg i).toNatClampNeg))]) rfl ?_
          refine lv_if_eq (tgt := 35) hx hb dX0_weakest_30 (by decide) (fun c30 => ?_) (fun c30 => ?_)
          · refine lv_iinc (v := nI (i + 1)) (lv' := [(2, .int (nI (i + 1))), (1, .int (flWeak fc fg i)), (0, .ref xo)]) hx hb dX0_weakest_35 hl (k := 0) rfl (nI_1 i) (by decide) rfl (fun ls hl => ?_)
            refine lv_goto (tgt := 4) hx hb dX0_weakest_38 (by decide) ?_
            have e_3 : (flWeak fc fg i : Int32) = flWeak fc fg (i + 1) := by first | rfl | (simp [flWeak, flWeakS, bI0, c16, c21, c30]; done)
            have hl : lv_has ls 3 [(2, .int (nI (i + 1))), (1, .int (flWeak fc fg (i + 1))), (0, .ref xo)] := lv_sub hl [0, 1, 2] (by show _ = [(2, .int (nI (i + 1))), (1, .int (flWeak fc fg (i + 1))), (0, .ref xo)]; rw [← e_3]; rfl)
            exact ih (i + 1) (by omega)  _ _ _ hP hD hS hl
          · refine lv_iload_n hx hb dX0_weakest_33 rfl (lv_at hl 0 rfl) ?_
            refine lv_istore_n (lv' := [(1, .int (nI i)), (2, .int (nI i)), (0, .ref xo)]) hx hb dX0_weakest_34 rfl hl (by decide) rfl (fun ls hl => ?_)
            refine lv_iinc (v := nI (i + 1)) (lv' := [(2, .int (nI (i + 1))), (1, .int (nI i)), (0, .ref xo)]) hx hb dX0_weakest_35 hl (k := 1) rfl (nI_1 i) (by decide) rfl (fun ls hl => ?_)
            refine lv_goto (tgt := 4) hx hb dX0_weakest_38 (by decide) ?_
            have e_4 : (nI i : Int32) = flWeak fc fg (i + 1) := by first | rfl | (simp [flWeak, flWeakS, bI0, c16, c21, c30]; done)
            have hl : lv_has ls 3 [(2, .int (nI (i + 1))), (1, .int (flWeak fc fg (i + 1))), (0, .ref xo)] := lv_sub hl [0, 1, 2] (by show _ = [(2, .int (nI (i + 1))), (1, .int (flWeak fc fg (i + 1))), (0, .ref xo)]; rw [← e_4]; rfl)
            exact ih (i + 1) (by omega)  _ _ _ hP hD hS hl
  have hl : lv_has ls 3 [(0, .ref xo)] := hl
  have hP : va_P D vwCl [oFL xo xc xs xg ch sz rm, aI T xc 26 fc, aI T xs 26 fs, aI T xg 26 fg] s.heap := hP
  have hD : va_D A [oFL xo xc xs xg ch sz rm, aI T xc 26 fc, aI T xs 26 fs, aI T xg 26 fg] := hD
  refine lv_iconst (v := (-1)) hx hb dX0_weakest_0 (by decide) ?_
  refine lv_istore_n (lv' := [(1, .int (-1)), (0, .ref xo)]) hx hb dX0_weakest_1 rfl hl (by decide) rfl (fun ls hl => ?_)
  refine lv_iconst (v := 0) hx hb dX0_weakest_2 (by decide) ?_
  refine lv_istore_n (lv' := [(2, .int 0), (1, .int (-1)), (0, .ref xo)]) hx hb dX0_weakest_3 rfl hl (by decide) rfl (fun ls hl => ?_)
  have e_5 : (0 : Int32) = nI 0 := rfl
  have e_6 : ((-1) : Int32) = flWeak fc fg 0 := rfl
  have hl : lv_has ls 3 [(2, .int (nI 0)), (1, .int (flWeak fc fg 0)), (0, .ref xo)] := lv_sub hl [0, 1, 2] (by show _ = [(2, .int (nI 0)), (1, .int (flWeak fc fg 0)), (0, .ref xo)]; rw [← e_5, ← e_6]; rfl)
  exact loop_4 26 0 (by omega)  _ _ _ hP hD hS hl
