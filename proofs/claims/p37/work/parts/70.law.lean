section PLAW
def kCPc (av : List Value) (b L : Nat) (xs : Nat → Int32) (sz : Nat) : Array Value → State → Prop := va_Pc av (fun U => U.heap.size = sz ∧ va_X b L xs U U.heap ∧ b < sz)
theorem kCPc.blind {av : List Value} {b L : Nat} {xs : Nat → Int32} {sz : Nat} : FrameBlind (kCPc av b L xs sz) := by
  intro a U g mk h
  obtain ⟨h0, h1, h2, h3⟩ := h
  exact ⟨h0, h1, va_X.moved (u := U) (U := U.calling g mk a) (Vm.Alike.refl U.vm) h2, h3⟩
/-- a method of the law that reads the script alone -/
def kCM (l : Launch) (D : va_G) (y : MethodName) (ws : List Cond) (rm : Room) (b L : Nat) (xs : Nat → Int32) (av : List Value) (o : Option Value) : Prop := ∀ sz, Met l y ws rm (kCPc av b L xs sz) (kQc D o [] [] sz) 0 0 (va_A [] sz)
theorem kCM.of {l : Launch} {D : va_G} {y : MethodName} {ws ws' : List Cond} {rm : Room} {b L : Nat} {xs : Nat → Int32} {av : List Value} {o : Option Value} {cc : ByteArray} {maxL : Nat} {ret : Option FieldType}
    (hy : plainName y.cls = true) (hw : ws = Cond.code y cc maxL ret :: ws') (hlen : (lg_sl av).length ≤ maxL)
    (body : ∀ (p : Program) (e : Env) (s : State) (m : MethodId) (below : List Frame) (meth : Method) (c : Code) (A : Nat → Prop) (Q : State → Prop) (ls : Array Slot), p.tables.exec = Jvm.exec → c.code = cc → c.maxLocals = maxL → s.vm.findClass y.cls = some m.cls → meth.sig.returnType = ret → meth.locks = false → (∀ w ∈ ws, w.before av.toArray s = true) → va_X b L xs s s.heap → b < s.heap.size → ¬ A b → va_S A s.heap s.heap [] → lv_has ls maxL (lv_args 0 av) →
      (∀ (ls : Array Slot) (pc : Nat) (st : List Value), (∀ (Qc : Array Value → State → Outcome → State → Prop) (free : Addr → Prop), (∀ t : State, t.heap = s.heap → s.WarmedH t.vm → Qc av.toArray s (.returned o) t) → (∀ q ∈ ([] : List Loc), free q.base) → W p l e rm s m av.toArray below meth c s.heap [] 0 0 (MQ below Qc av.toArray s 0 0 free) (F0 m pc ls st)) → W p l e rm s m av.toArray below meth c s.heap [] 0 0 Q (F0 m pc ls st)) →
      W p l e rm s m av.toArray below meth c s.heap [] 0 0 Q (F0 m 0 ls [])) : kCM l D y ws rm b L xs av o := by
  intro sz
  refine Met.ofW (cc := cc) (maxL := maxL) (ret := ret) hy hw ?_
  intro p e s m args below meth c s₁ B hml hv
  obtain ⟨rfl, hsz, hX, hbl⟩ := hv
  subst hsz
  have hts := atoms_spec (ws := ws) B.pre
  have hown : s.vm.findClass y.cls = some m.cls := findClass_of_methodNamed B.named
  have hl := lv_entry av (n := maxL) hlen
  have hS : va_S (va_A [] s.heap.size) s.heap s.heap [] := va_S.rf
  have hnA : ¬ va_A [] s.heap.size b := fun h => by
    rcases h with ⟨k, e, h⟩ | h
    · simp at h
    · omega
  rw [lg_entry_eq]
  refine body p e s m below meth c (va_A [] s.heap.size) _ _ B.exec B.bytes hml hown B.returns B.notSynchronized hts hX hbl hnA hS hl ?_
  intro ls pc st hR
  exact hR _ _ (fun t ht hW => ⟨rfl, fun k q h => by simp at h, ⟨fun i j p q h => by simp at h, fun k q h => by simp at h⟩, hS.F ht⟩) (fun q h => absurd h List.not_mem_nil)
section CCALL
variable {p : Program} {l : Launch} {e : Env} {R : Room} {s : State} {m : MethodId} {args : Array Value} {below : List Frame} {meth : Method} {c : Code} {H : Heap} {locs : List Loc} {cells slots : Nat} {Q : State → Prop} {D : va_G}
variable {y : MethodName} {bytes cc : ByteArray} {maxL nL n index : Nat} {ret : Option FieldType} {ws : List Cond} {rm : Room} {Ts : List Cond} {own : String} {As rest st : List Value} {wr : va_W} {o : Option Value} {A : Nat → Prop} {pc : Nat} {ls : Array Slot} {b L : Nat} {xs : Nat → Int32}
theorem kCS (S : CallFix p m c cc nL s args Ts own) (hM : kCM l D y ws rm b L xs As o) (cw : CallB R s args own index y bytes maxL ret ws rm 0 0 n ∧ (Cond.static y).before args s = true) (hX : va_X b L xs s s.heap) (hbl : b < s.heap.size) (hbA : ¬ A b) (hP : va_P D vwCl wr H) (hD : va_D A wr) (hS : va_S A s.heap H locs) (hA : ∀ q, s.heap.size ≤ q → A q)
    (hn : As.length = n) (hsize : ls.size = nL) (hst : st = As.reverse ++ rest) (hW : (rest.map fun v => v.category).sum ≤ 8) (hdg : decode cc pc = .ok (.invokestatic index, 3)) (hf : cells ≤ R.cells ∧ slots ≤ R.slots)
    (kk : ∀ (H1 : Heap) (locs1 : List Loc), va_P D vwCl wr H1 → va_D A wr → va_S A s.heap H1 locs1 → W p l e R s m args below meth c H1 locs1 cells slots Q (F0 m (pc + 3) ls (o.toList ++ rest))) : W p l e R s m args below meth c H locs cells slots Q (F0 m pc ls st) := by
  subst hst
  exact kCore (w := []) (wr := wr) (w' := []) (va_runS S (hM H.size) cw ⟨kCPc.blind, fun U hU hW => ⟨rfl, by rw [hU], by rw [hU]; exact (hX.kept (hS.2.1 b hbl hbA)).moved hW.alike, Nat.lt_of_lt_of_le hbl hS.1⟩⟩ rfl hn hsize rfl (lv_room hW) hdg hf) hP hD hS hA kk
end CCALL
abbrev rL_cell : Room := { frames := 0, cells := 0, slots := 0, locals := 0 }
set_option maxHeartbeats 4000000 in
set_option maxRecDepth 100000 in
theorem c_cell (l : Launch) (D : va_G) (b L : Nat) (xs : Nat → Int32) (j : Nat) (hL : L ≤ 260) (hj : j ≤ 100) : ∃ v : Int32, kCM l D yL_cell wsL_cell rL_cell b L xs [.ref b, .int (nI j)] (some (.int v)) := by
  by_cases h : j < L
  · refine ⟨xs (nI j).toNatClampNeg, kCM.of (cc := cL_cell) (maxL := 2) (ret := some .int) (by decide) rfl (Nat.le_of_ble_eq_true rfl) ?_⟩
    intro p e s m below meth c A Q ls hx hb hml hown hr hlk hts hX hbl hbA hS hl hret
    have hl : lv_has ls 2 [(0, .ref b), (1, .int (nI j))] := hl
    refine lv_iload_n hx hb dL_cell_0 rfl (lv_at hl 1 rfl) ?_
    refine lv_aload_n hx hb dL_cell_1 rfl (lv_at hl 0 rfl) ?_
    refine va_slen hx hb hX hbl hbA hS dL_cell_2 ?_
    refine lv_icmp_ge (tgt := 12) hx hb dL_cell_3 (by decide) (fun c_x => absurd c_x (nI_ge (a := j) (b := L) h (by omega))) (fun _ => ?_)
    refine lv_aload_n hx hb dL_cell_6 rfl (lv_at hl 0 rfl) ?_
    refine lv_iload_n hx hb dL_cell_7 rfl (lv_at hl 1 rfl) ?_
    refine va_sld hx hb hX hbl hbA hS (vp_in_nI h (by omega)) dL_cell_8 ?_
    refine lv_goto (tgt := 20) hx hb dL_cell_9 (by decide) ?_
    exact hret _ _ _ (fun Qc free hq hf => W.iret hx hb hr hq hf dL_cell_20 hlk)
  · refine ⟨2145254849 * (nI j + 1931), kCM.of (cc := cL_cell) (maxL := 2) (ret := some .int) (by decide) rfl (Nat.le_of_ble_eq_true rfl) ?_⟩
    intro p e s m below meth c A Q ls hx hb hml hown hr hlk hts hX hbl hbA hS hl hret
    have hl : lv_has ls 2 [(0, .ref b), (1, .int (nI j))] := hl
    refine lv_iload_n hx hb dL_cell_0 rfl (lv_at hl 1 rfl) ?_
    refine lv_aload_n hx hb dL_cell_1 rfl (lv_at hl 0 rfl) ?_
    refine va_slen hx hb hX hbl hbA hS dL_cell_2 ?_
    refine lv_icmp_ge (tgt := 12) hx hb dL_cell_3 (by decide) (fun _ => ?_) (fun c_x => absurd (nI_le (a := L) (b := j) (by omega) (by omega)) c_x)
    refine lv_ldc (v := 2145254849) hx hb hown (hts (.constant RL 7 2145254849) (List.mem_of_getElem? (i := 1) rfl)) dL_cell_12 ?_
    refine lv_iload_n hx hb dL_cell_14 rfl (lv_at hl 1 rfl) ?_
    refine lv_sipush (v := 1931) hx hb dL_cell_15 (by decide) ?_
    refine lv_iadd hx hb dL_cell_18 ?_
    refine lv_imul hx hb dL_cell_19 ?_
    exact hret _ _ _ (fun Qc free hq hf => W.iret hx hb hr hq hf dL_cell_20 hlk)
/-- what the walk of the law stands on -/
def kLC (p : Program) (l : Launch) (s : State) (m : MethodId) (c : Code) (D : va_G) (T : Nat → ClassId) (b L : Nat) (xs : Nat → Int32) : Prop :=
  p.tables.exec = Jvm.exec ∧ c.code = cL_law ∧ c.maxLocals = 5 ∧ s.vm.findClass RL = some m.cls ∧ (∀ w ∈ wsL_law, w.before #[Value.ref b] s = true) ∧ va_X b L xs s s.heap ∧ b < s.heap.size ∧ l.stackTraces = false ∧ kCx D T s ∧ kXX s ∧ kZ (fun q : Nat => s.heap.size ≤ q) s s.heap ∧ kE T (fun q : Nat => s.heap.size ≤ q) s s.heap ∧ kNc s
set_option maxHeartbeats 4000000 in
set_option maxRecDepth 100000 in
theorem law_loop {p : Program} {l : Launch} {e : Env} {s : State} {m : MethodId} {below : List Frame} {meth : Method} {c : Code} {D : va_G} {T : Nat → ClassId} {b L : Nat} {xs : Nat → Int32} (C : kLC p l s m c D T b L xs) (hL : L ≤ 260) (hr : meth.sig.returnType = ret) (hlk : meth.locks = false) {po qo : Nat} {a1 a2 : Nat → Nat} :
    ∀ (n j : Nat), j + n = 90 → ∀ (k : KS) (x y : CT) (H : Heap) (locs : List Loc) (cells slots : Nat) (ls : Array Slot), KI k ((40 * j : Nat) : Int) → x.1 ≤ 60 → y.1 ≤ 60 → va_P D vwCl (wO T po a1 k x ++ wO T qo a2 k y) H → va_D (fun q : Nat => s.heap.size ≤ q) (wO T po a1 k x ++ wO T qo a2 k y) → va_S (fun q : Nat => s.heap.size ≤ q) s.heap H locs → cells ≤ 300 + 132 * j → slots ≤ 6000 + 792 * j → lv_has ls 5 [(0, .ref b), (1, .ref po), (2, .ref qo), (3, .int 1), (4, .int (nI j))] → W p l e room_1 s m #[Value.ref b] below meth c H locs cells slots (lw_Z below #[Value.ref b] s) (F0 m 21 ls []) := by
  obtain ⟨hx, hb, hml, hown, hts, hX, hbl, hst9, hC, hXX, hZ, hE, hNc⟩ := C
  have hA : ∀ q : Nat, s.heap.size ≤ q → (fun q : Nat => s.heap.size ≤ q) q := fun _ h => h
  have hbA : ¬ (fun q : Nat => s.heap.size ≤ q) b := Nat.not_le.mpr hbl
  intro n
  induction n with
  | zero =>
    intro j hj k x y H locs cells slots ls hK hx60 hy60 hP hD hS hce hso hl
    have hj9 : 90 = j := by omega
    subst hj9
    refine lv_iload hx hb dL_law_21 (lv_at hl 4 rfl) ?_
    refine lv_bipush (v := 90) hx hb dL_law_23 (by decide) ?_
    refine lv_icmp_ge (tgt := 82) hx hb dL_law_25 (by decide) (fun _ => ?_) (fun c_x => absurd (by decide : (90 : Int32) ≤ nI 90) c_x)
    refine lv_iload_n hx hb dL_law_82 rfl (lv_at hl 3 rfl) ?_
    refine lv_if_eq (tgt := 105) hx hb dL_law_83 (by decide) (fun c_x => absurd c_x (by decide : ¬ ((1 : Int32) = 0))) (fun _ => ?_)
    refine lv_aload_n hx hb dL_law_86 rfl (lv_at hl 1 rfl) ?_
    refine kWP (As := [.ref po]) (rest := []) ⟨hx, hb, hml, hown, hts⟩ (L_isWell l D T hst9 po a1 k x hK (by omega)) (va_cwS 1 hts gL_law_L_isWell rfl rfl rfl (by decide +kernel) ⟨Nat.le_of_ble_eq_true rfl, Nat.le_of_ble_eq_true rfl⟩) hC hXX hZ hE hNc hP hD hS hA rfl hl.1 rfl (Nat.le_of_ble_eq_true rfl) dL_law_87 ⟨(by show cells + 130 ≤ 661309; omega), (by show slots + 780 ≤ 7116760; omega)⟩ (fun H locs hP hD hS => ?_)
    refine W.eq (g2 := F0 m 90 ls [.int 1]) rfl ?_
    refine lv_if_eq (tgt := 105) hx hb dL_law_90 (by decide) (fun c_x => absurd c_x (by decide : ¬ ((1 : Int32) = 0))) (fun _ => ?_)
    refine lv_aload_n hx hb dL_law_93 rfl (lv_at hl 1 rfl) ?_
    refine lv_aload_n hx hb dL_law_94 rfl (lv_at hl 2 rfl) ?_
    have hP : va_P D vwCl ((wO T po a1 k x ++ wO T qo a2 k y) ++ []) H := by rw [wP_nil]; exact hP
    have hD : va_D (fun q : Nat => s.heap.size ≤ q) ((wO T po a1 k x ++ wO T qo a2 k y) ++ []) := by rw [wD_nil]; exact hD
    refine kWP (As := [.ref po, .ref qo]) (rest := []) ⟨hx, hb, hml, hown, hts⟩ (L_areAlike l D T hst9 po qo a1 a2 k x y hK (by omega)) (va_cwS 2 hts gL_law_L_areAlike rfl rfl rfl (by decide +kernel) ⟨Nat.le_of_ble_eq_true rfl, Nat.le_of_ble_eq_true rfl⟩) hC hXX hZ hE hNc hP hD hS hA rfl hl.1 rfl (Nat.le_of_ble_eq_true rfl) dL_law_95 ⟨(by show cells + 130 + 106 ≤ 661309; omega), (by show slots + 780 + 636 ≤ 7116760; omega)⟩ (fun H locs hP hD hS => ?_)
    refine W.eq (g2 := F0 m 98 ls [.int 1]) rfl ?_
    refine lv_if_eq (tgt := 105) hx hb dL_law_98 (by decide) (fun c_x => absurd c_x (by decide : ¬ ((1 : Int32) = 0))) (fun _ => ?_)
    refine lv_iconst (v := 1) hx hb dL_law_101 (by decide) ?_
    refine lv_goto (tgt := 106) hx hb dL_law_102 (by decide) ?_
    refine va_forget (fun q hq => hS.2.2 q hq) ?_
    refine W.widen (k := 661309) (n := 7116760) (by omega) (by omega) ?_
    exact W.base (lw_ret (d0 := s.drawn) (Drawn.sameBut.refl s.drawn lw_cs) hx hb hr hlk dL_law_106)
  | succ n ih =>
    intro j hj k x y H locs cells slots ls hK hx60 hy60 hP hD hS hce hso hl
    obtain ⟨v1, hv1⟩ := c_cell l D b L xs j hL (by omega)
    obtain ⟨v2, hv2⟩ := c_cell l D b L xs (j + 1) hL (by omega)
    obtain ⟨k', x', y', hK', hx', hy', hM⟩ := L_isStep l D T hst9 po qo a1 a2 k x y v1 (v2 >>> ((2 : Int32) &&& 31)) hK (by omega) (by omega) hx60 hy60
    have eM : ((40 * j : Nat) : Int) + 40 = ((40 * (j + 1) : Nat) : Int) := by omega
    rw [eM] at hK'
    refine lv_iload hx hb dL_law_21 (lv_at hl 4 rfl) ?_
    refine lv_bipush (v := 90) hx hb dL_law_23 (by decide) ?_
    refine lv_icmp_ge (tgt := 82) hx hb dL_law_25 (by decide) (fun c_x => absurd c_x (nI_ge (a := j) (b := 90) (by omega) (by decide))) (fun _ => ?_)
    refine lv_iload_n hx hb dL_law_28 rfl (lv_at hl 3 rfl) ?_
    refine lv_if_eq (tgt := 82) hx hb dL_law_29 (by decide) (fun c_x => absurd c_x (by decide : ¬ ((1 : Int32) = 0))) (fun _ => ?_)
    refine lv_aload_n hx hb dL_law_32 rfl (lv_at hl 1 rfl) ?_
    refine lv_aload_n hx hb dL_law_33 rfl (lv_at hl 2 rfl) ?_
    refine lv_aload_n hx hb dL_law_34 rfl (lv_at hl 0 rfl) ?_
    refine lv_iload hx hb dL_law_35 (lv_at hl 4 rfl) ?_
    refine kCS (As := [.ref b, .int (nI j)]) (rest := [.ref qo, .ref po]) ⟨hx, hb, hml, hown, hts⟩ hv1 (va_cwS 2 hts gL_law_L_cell rfl rfl rfl (by decide +kernel) ⟨Nat.le_of_ble_eq_true rfl, Nat.le_of_ble_eq_true rfl⟩) hX hbl hbA hP hD hS hA rfl hl.1 rfl (Nat.le_of_ble_eq_true rfl) dL_law_37 ⟨(by show cells ≤ 661309; omega), (by show slots ≤ 7116760; omega)⟩ (fun H locs hP hD hS => ?_)
    refine W.eq (g2 := F0 m 40 ls [.int v1, .ref qo, .ref po]) rfl ?_
    refine lv_aload_n hx hb dL_law_40 rfl (lv_at hl 0 rfl) ?_
    refine lv_iload hx hb dL_law_41 (lv_at hl 4 rfl) ?_
    refine lv_iconst (v := 1) hx hb dL_law_43 (by decide) ?_
    refine lv_iadd hx hb dL_law_44 ?_
    refine W.eq (g2 := F0 m 45 ls (.int (nI (j + 1)) :: [.ref b, .int v1, .ref qo, .ref po])) (congrArg (fun z => F0 m 45 ls (.int z :: [.ref b, .int v1, .ref qo, .ref po])) (nI_1 j)) ?_
    refine kCS (As := [.ref b, .int (nI (j + 1))]) (rest := [.int v1, .ref qo, .ref po]) ⟨hx, hb, hml, hown, hts⟩ hv2 (va_cwS 2 hts gL_law_L_cell rfl rfl rfl (by decide +kernel) ⟨Nat.le_of_ble_eq_true rfl, Nat.le_of_ble_eq_true rfl⟩) hX hbl hbA hP hD hS hA rfl hl.1 rfl (Nat.le_of_ble_eq_true rfl) dL_law_45 ⟨(by show cells ≤ 661309; omega), (by show slots ≤ 7116760; omega)⟩ (fun H locs hP hD hS => ?_)
    refine W.eq (g2 := F0 m 48 ls [.int v2, .int v1, .ref qo, .ref po]) rfl ?_
    refine lv_iconst (v := 2) hx hb dL_law_48 (by decide) ?_
    refine lv_ishr hx hb dL_law_49 ?_
    have hP : va_P D vwCl ((wO T po a1 k x ++ wO T qo a2 k y) ++ []) H := by rw [wP_nil]; exact hP
    have hD : va_D (fun q : Nat => s.heap.size ≤ q) ((wO T po a1 k x ++ wO T qo a2 k y) ++ []) := by rw [wD_nil]; exact hD
    refine kWP (As := [.ref po, .ref qo, .int v1, .int (v2 >>> ((2 : Int32) &&& 31))]) (rest := []) ⟨hx, hb, hml, hown, hts⟩ hM (va_cwS 4 hts gL_law_L_isStep rfl rfl rfl (by decide +kernel) ⟨Nat.le_of_ble_eq_true rfl, Nat.le_of_ble_eq_true rfl⟩) hC hXX hZ hE hNc hP hD hS hA rfl hl.1 rfl (Nat.le_of_ble_eq_true rfl) dL_law_50 ⟨(by show cells + 2 ≤ 661309; omega), (by show slots + 12 ≤ 7116760; omega)⟩ (fun H locs hP hD hS => ?_)
    rw [wP_nil] at hP
    rw [wD_nil] at hD
    refine W.eq (g2 := F0 m 53 ls [.int 1]) rfl ?_
    refine lv_if_eq (tgt := 74) hx hb dL_law_53 (by decide) (fun c_x => absurd c_x (by decide : ¬ ((1 : Int32) = 0))) (fun _ => ?_)
    have j70 : ∀ (H : Heap) (locs : List Loc) (cells2 slots2 : Nat), va_P D vwCl (wO T po a1 k' x' ++ wO T qo a2 k' y') H → va_D (fun q : Nat => s.heap.size ≤ q) (wO T po a1 k' x' ++ wO T qo a2 k' y') → va_S (fun q : Nat => s.heap.size ≤ q) s.heap H locs → cells2 ≤ 300 + 132 * (j + 1) → slots2 ≤ 6000 + 792 * (j + 1) → W p l e room_1 s m #[Value.ref b] below meth c H locs cells2 slots2 (lw_Z below #[Value.ref b] s) (F0 m 70 ls []) := by
      intro H locs cells2 slots2 hP hD hS hce2 hso2
      refine lv_iconst (v := 1) hx hb dL_law_70 (by decide) ?_
      refine lv_goto (tgt := 75) hx hb dL_law_71 (by decide) ?_
      refine lv_istore_n (lv' := [(3, .int 1), (0, .ref b), (1, .ref po), (2, .ref qo), (4, .int (nI j))]) hx hb dL_law_75 rfl hl (by decide) rfl (fun ls hl => ?_)
      refine lv_iinc (v := nI (j + 1)) (lv' := [(4, .int (nI (j + 1))), (3, .int 1), (0, .ref b), (1, .ref po), (2, .ref qo)]) hx hb dL_law_76 hl (k := 4) rfl (nI_1 j) (by decide) rfl (fun ls hl => ?_)
      refine lv_goto (tgt := 21) hx hb dL_law_79 (by decide) ?_
      exact ih (j + 1) (by omega) k' x' y' H locs cells2 slots2 ls hK' hx' hy' hP hD hS hce2 hso2 (lv_sub hl [2, 3, 4, 1, 0] rfl)
    refine lv_iload hx hb dL_law_56 (lv_at hl 4 rfl) ?_
    refine lv_iconst (v := 5) hx hb dL_law_58 (by decide) ?_
    refine lv_irem hx hb dL_law_59 (by decide) ?_
    refine lv_if_gt (tgt := 70) hx hb dL_law_60 (by decide) (fun _ => ?_) (fun _ => ?_)
    · exact j70 _ _ _ _ hP hD hS (by omega) (by omega)
    · refine lv_aload_n hx hb dL_law_63 rfl (lv_at hl 1 rfl) ?_
      refine kWP (As := [.ref po]) (rest := []) ⟨hx, hb, hml, hown, hts⟩ (L_isWell l D T hst9 po a1 k' x' hK' (by omega)) (va_cwS 1 hts gL_law_L_isWell rfl rfl rfl (by decide +kernel) ⟨Nat.le_of_ble_eq_true rfl, Nat.le_of_ble_eq_true rfl⟩) hC hXX hZ hE hNc hP hD hS hA rfl hl.1 rfl (Nat.le_of_ble_eq_true rfl) dL_law_64 ⟨(by show cells + 2 + 130 ≤ 661309; omega), (by show slots + 12 + 780 ≤ 7116760; omega)⟩ (fun H locs hP hD hS => ?_)
      refine W.eq (g2 := F0 m 67 ls [.int 1]) rfl ?_
      refine lv_if_eq (tgt := 74) hx hb dL_law_67 (by decide) (fun c_x => absurd c_x (by decide : ¬ ((1 : Int32) = 0))) (fun _ => ?_)
      exact j70 _ _ _ _ hP hD hS (by omega) (by omega)
end PLAW
