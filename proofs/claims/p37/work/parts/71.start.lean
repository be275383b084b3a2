section PSTART
theorem kArT {s : State} {args : Array Value} {ty : FieldType} (h : (Cond.arrayClass ty).before args s = true) : ∃ cA : ClassId, ArrOfT s cA ty ∧ s.vm.findClass ("[" ++ ty.toString) = some cA := by
  obtain ⟨c, k, comp, h1, h2, h3⟩ := Cond.arrayClass_spec h
  exact ⟨c, fun n z => ⟨fun k h => (by cases h), k, h2, comp, h3⟩, h1⟩
theorem kArO {s : State} {args : Array Value} {C : String} (h : (Cond.arrayOver (.object C)).before args s = true) : ∃ cA : ClassId, ArrOfT s cA (.object C) ∧ va_RA s cA (.object C) := by
  obtain ⟨comp, c, k, h1, h2, h3, h4, h5⟩ := Cond.arrayOver_spec h
  exact ⟨c, fun n z => ⟨fun k h => (by cases h), k, h3, comp, h4⟩, k, comp, h3, h4, h1, h5⟩
theorem kTxt {s : State} {args : Array Value} {own tx : String} {k : Nat} (h1 : (Cond.stringRef own k tx).before args s = true) (h2 : (Cond.exactly (.string own k) "java/lang/String").before args s = true) : ∃ sa, vk_R own k tx sa s := by
  obtain ⟨a, c, cell, k', q1, _⟩ := Cond.exactly_spec h2
  exact ⟨a, vk_R.of h1 q1⟩
theorem kNest_in : ∀ q ∈ kNwL, Cond.methodLinkNest q.1 q.2.1 q.2.2 RX8 ∈ lw_tbl := by decide +kernel
theorem kDec_in : ∀ Y ∈ kXDl, Cond.declares (Bundle.initS Y) ∈ lw_tbl := by decide +kernel
theorem kCst_in : ∀ E ∈ kXCl, Cond.castable E E ∈ lw_tbl := by decide +kernel
/-- the numbers at the beginning -/
abbrev zL : LV := (fun _ => 0, fun _ => 0, fun _ => 0, 0, 0, fun _ => 0, 0, 0, fun _ => 0)
abbrev v00 : ST := ((flN (fun _ => 0) 0 26, fun _ => 0, fun _ => 0, 0, 0, flN (fun _ => 0) 0 26, 0, 0, flN (fun _ => 0) 0 26), nI (4 + 1), nI 4, zL, 0, 0, false, 4)
abbrev sl00 : Nat → ST := fun _ => (zL, 0, 0, zL, 0, 0, false, 0)
abbrev x00 : CT := (0, 0, fun _ => 0, fun _ => 0, 0, 0, false, false, 0)
abbrev k00 : KS := (v00, 0, 0, sl00)
theorem KI_00 : KI k00 0 := by
  obtain ⟨w1, w2⟩ := WI_zero (f0 := flN (fun _ => 0) 0 26) (fs := fun _ => 0) (fg := fun _ => 0) (w0 := flN (fun _ => 0) 0 26) (t0 := flN (fun _ => 0) 0 26) 4 (fun j hj => flN_at _ _ _ _ hj) (fun j hj => flN_at _ _ _ _ hj) (fun j hj => flN_at _ _ _ _ hj)
  exact ⟨⟨by decide, by decide, rfl, rfl, w1, Int.le_of_eq w2, fun k => absurd (show false = true from k) (by decide)⟩, by decide, by decide, fun j hj => absurd hj (Nat.not_lt_zero j)⟩
theorem permJ {b0 b1 b2 b3 b4 b5 b6 b7 b8 b9 b10 b11 b12 b13 : va_W} : (List.flatten [b0, b3, b4, b5, b1, b2, b6, b7, b8, b9, b10, b11, b12, b13]).Perm (List.flatten [b0, b1, b2, b3, b4, b5, b6, b7, b8, b9, b10, b11, b12, b13]) :=
  (blk [b0, b1, b2, b3, b4, b5, b6, b7, b8, b9, b10, b11, b12, b13] [0, 3, 4, 5, 1, 2, 6, 7, 8, 9, 10, 11, 12, 13] (List.isPerm_iff.mp (show List.isPerm [0, 3, 4, 5, 1, 2, 6, 7, 8, 9, 10, 11, 12, 13] (List.range 14) = true by decide +kernel))).symm
/-- the class's cells as its constructor leaves them -/
abbrev inO (T : Nat → ClassId) (po : Nat) (a : Nat → Nat) : va_W := List.flatten [[oPC po (a 0) (a 17) (a 104)], [oSt (a 0) (a 1) (a 9) (bI false) (nI 4)], bLB T a 1 v00.1 v00.2.1 v00.2.2.1, bLB T a 9 v00.2.2.2.1 v00.2.2.2.2.1 v00.2.2.2.2.2.1, [oHi (a 17) (a 18) (nI 0) (nI 0)], [aS T (a 18) 5 (hsF a)], bSt T a 19 (sl00 0), bSt T a 36 (sl00 1), bSt T a 53 (sl00 2), bSt T a 70 (sl00 3), bSt T a 87 (sl00 4), [oSo (a 104) (a 105) (a 106) (a 107) (nI x00.1) x00.2.1, aC T (a 105) 60 x00.2.2.1], [oRe (a 106) x00.2.2.2.2.1 x00.2.2.2.2.2.1 (bI x00.2.2.2.2.2.2.1) (bI x00.2.2.2.2.2.2.2.1) x00.2.2.2.2.2.2.2.2], [aI T (a 107) 1000 x00.2.2.2.1]]
theorem inO_perm (T : Nat → ClassId) (po : Nat) (a : Nat → Nat) : (inO T po a).Perm (wO T po a k00 x00) := permJ
set_option maxHeartbeats 4000000 in
set_option maxRecDepth 100000 in
theorem whole_start {p : Program} {e : Env} {s : State} {m : MethodId} {below : List Frame} {meth : Method} {c : Code} (l : Launch) (hflags : l.flags = flags0) {b L : Nat} {xs : Nat → Int32} (hL : L ≤ 260) (C0 : lw_At p s m meth c b L xs) : W p l e room_1 s m #[Value.ref b] below meth c s.heap [] 0 0 (lw_Z below #[Value.ref b] s) (entryFrame m ([Value.ref b] : List Value).toArray 5) := by
  obtain ⟨hx, hb, hr, hml, hown, hts, hX, hbl, hlocks, hgv⟩ := id C0
  have hown : s.vm.findClass RL = some m.cls := hown
  have hg := flat_of_before _ hgv
  have hA : ∀ q : Nat, s.heap.size ≤ q → (fun q : Nat => s.heap.size ≤ q) q := fun _ h => h
  have hA0 : ∀ q : Nat, q < s.heap.size → ¬ (fun q : Nat => s.heap.size ≤ q) q := fun q h => Nat.not_le.mpr h
  have hst9 : l.stackTraces = false := by
    unfold Launch.stackTraces
    rw [hflags]
    decide +kernel
  obtain ⟨c0, i0, hk0⟩ := u_known (C := RX0) (T := TX0) (N := 6) (n := 6) hts kL_in_X00 (hts (.instantiable RX0 6) (by decide +kernel))
  obtain ⟨c1, i1, hk1⟩ := u_known (C := RX1) (T := TX1) (N := 3) (n := 3) hts kL_in_X10 (hts (.instantiable RX1 3) (by decide +kernel))
  obtain ⟨c2, i2, hk2⟩ := u_known (C := RX2) (T := TX2) (N := 3) (n := 3) hts kL_in_X20 (hts (.instantiable RX2 3) (by decide +kernel))
  obtain ⟨c3, i3, hk3⟩ := u_known (C := RX4) (T := TX4) (N := 5) (n := 5) hts kL_in_X40 (hts (.instantiable RX4 5) (by decide +kernel))
  obtain ⟨c4, i4, hk4⟩ := u_known (C := RX5) (T := TX5) (N := 4) (n := 4) hts kL_in_X50 (hts (.instantiable RX5 4) (by decide +kernel))
  obtain ⟨c5, i5, hk5⟩ := u_known (C := RX6) (T := TX6) (N := 5) (n := 5) hts kL_in_X60 (hts (.instantiable RX6 5) (by decide +kernel))
  obtain ⟨c6, i6, hk6⟩ := u_known (C := RX7) (T := TX7) (N := 4) (n := 4) hts kL_in_X70 (hts (.instantiable RX7 4) (by decide +kernel))
  obtain ⟨c7, i7, hk7⟩ := u_known (C := RX8) (T := TX8) (N := 3) (n := 3) hts kL_in_X80 (hts (.instantiable RX8 3) (by decide +kernel))
  obtain ⟨dC, dI, hKc⟩ : ∃ (dC : Nat → ClassId) (dI : Nat → Nat → Nat), ∀ (k : Nat) (q : vw_C), vwCl[k]? = some q → u_Kn s q.1 q.2.1 q.2.2 (dC k) (dI k) := by
    refine ⟨fun k => match k with | 0 => c0 | 1 => c1 | 2 => c2 | 3 => c3 | 4 => c4 | 5 => c5 | 6 => c6 | _ => c7, fun k => match k with | 0 => i0 | 1 => i1 | 2 => i2 | 3 => i3 | 4 => i4 | 5 => i5 | 6 => i6 | _ => i7, ?_⟩
    intro k q hq
    match k, hq with
    | 0, hq => cases hq; exact hk0
    | 1, hq => cases hq; exact hk1
    | 2, hq => cases hq; exact hk2
    | 3, hq => cases hq; exact hk3
    | 4, hq => cases hq; exact hk4
    | 5, hq => cases hq; exact hk5
    | 6, hq => cases hq; exact hk6
    | 7, hq => cases hq; exact hk7
    | k + 8, hq => simp [vwCl] at hq
  obtain ⟨ai, hai1, hai2⟩ := kArT (hts (.arrayClass .int) (by decide +kernel))
  obtain ⟨ac, hac1, hac2⟩ := kArT (hts (.arrayClass .char) (by decide +kernel))
  have hAO := hts (.arrayOver (.object "ParrotCounts$State")) (by decide +kernel)
  obtain ⟨as9, has1, has2⟩ := kArO hAO
  obtain ⟨ad9, hen1, hen2⟩ := va_Enof (args := #[Value.ref b]) (s := s) (E := "ParrotCounts$Measure") (d := "LParrotCounts$Measure;") (nm := ["SURE", "ESTIMATED", "TRUE"]) (F := []) (A := fun q : Nat => s.heap.size ≤ q)
    (fun i hi => by
      rcases (show i = 0 ∨ i = 1 ∨ i = 2 by simp at hi; omega) with rfl | rfl | rfl <;> exact hts _ (by decide +kernel))
    (hts _ (by decide +kernel))
    (fun i hi => by
      rcases (show i = 0 ∨ i = 1 ∨ i = 2 by simp at hi; omega) with rfl | rfl | rfl <;> exact hg _ (by decide +kernel))
    (fun q hq => absurd hq List.not_mem_nil)
    (fun i j hi hj hij => by
      rcases (show (i = 0 ∧ j = 1) ∨ (i = 0 ∧ j = 2) ∨ (i = 1 ∧ j = 2) ∨ (i = 1 ∧ j = 0) ∨ (i = 2 ∧ j = 0) ∨ (i = 2 ∧ j = 1) by simp at hi hj; omega) with ⟨rfl, rfl⟩ | ⟨rfl, rfl⟩ | ⟨rfl, rfl⟩ | ⟨rfl, rfl⟩ | ⟨rfl, rfl⟩ | ⟨rfl, rfl⟩
      · exact Or.inl (hg _ (by decide +kernel))
      · exact Or.inl (hg _ (by decide +kernel))
      · exact Or.inl (hg _ (by decide +kernel))
      · exact Or.inr (hg _ (by decide +kernel))
      · exact Or.inr (hg _ (by decide +kernel))
      · exact Or.inr (hg _ (by decide +kernel)))
    hA0
  obtain ⟨T, hT⟩ : ∃ T : Nat → ClassId, T = fun k => match k with | 0 => ai | 1 => ac | 2 => ai | 3 => as9 | 4 => ad9 0 | 5 => ad9 1 | _ => ad9 2 := ⟨_, rfl⟩
  have hK : va_K (dC, dI) vwCl (kT T) s := by
    refine ⟨hKc, fun k q hq => ?_⟩
    subst hT
    match k, hq with
    | 0, hq => cases hq; exact ⟨hai1, hai2⟩
    | 1, hq => cases hq; exact ⟨hac1, hac2⟩
    | 2, hq => cases hq; exact ⟨hai1, hai2⟩
    | 3, hq => cases hq; exact ⟨has1, has2⟩
    | k + 4, hq => simp [kT] at hq
  have hC : kCx (dC, dI) T s := ⟨hK, fun q hq => va_Nw.of rfl (hts _ (kNest_in q hq)), va_AO.of hAO⟩
  have hE : kE T (fun q : Nat => s.heap.size ≤ q) s s.heap := by
    subst hT
    refine ⟨(hen1 0 (by decide)).1, (hen1 1 (by decide)).1, fun h => ?_, fun h => ?_, fun h => ?_, (hen1 2 (by decide)).1⟩
    · exact absurd (hen2 0 1 (by decide) (by decide) (Option.some.inj h)) (by decide)
    · exact absurd (hen2 0 2 (by decide) (by decide) (Option.some.inj h)) (by decide)
    · exact absurd (hen2 1 2 (by decide) (by decide) (Option.some.inj h)) (by decide)
  have hXX : kXX s := by
    refine ⟨fun Y hY => va_Nw.of rfl (hts _ (kDec_in Y hY)), fun E hE => va_Nw.of rfl (hts _ (kCst_in E hE)), fun q hq => ?_⟩
    simp only [kXTl, List.mem_cons, List.not_mem_nil, or_false] at hq
    rcases hq with rfl | rfl | rfl | rfl | rfl | rfl | rfl | rfl | rfl | rfl | rfl | rfl | rfl | rfl <;> exact kTxt (hts _ (by decide +kernel)) (hg _ (by decide +kernel))
  have hZ : kZ (fun q : Nat => s.heap.size ≤ q) s s.heap := ⟨vx_Zqof (hts _ (by decide +kernel)) (hts _ (by decide +kernel)) (hg (.isRef (.static Bundle.tN "UNASSIGNED_STACK" Bundle.steD)) (by decide +kernel)) hA0, vx_Zqof (hts _ (by decide +kernel)) (hts _ (by decide +kernel)) (hg (.isRef (.static Bundle.tN "SUPPRESSED_SENTINEL" Bundle.listD)) (by decide +kernel)) hA0⟩
  have hNc : kNc s := by
    intro q hq
    simp only [kNcl, List.mem_cons, List.not_mem_nil, or_false] at hq
    rcases hq with rfl | rfl | rfl | rfl <;> exact va_Nc.of (hg _ (by decide +kernel))
  have htsL : ∀ w ∈ wsL_law, w.before #[Value.ref b] s = true := fun w h => hts w (wsL_law_in w h)
  have hS : va_S (fun q : Nat => s.heap.size ≤ q) s.heap s.heap [] := va_S.rf
  have hP : va_P (dC, dI) vwCl [] s.heap := fun k q h => by simp at h
  have hD : va_D (fun q : Nat => s.heap.size ≤ q) [] := ⟨fun i j p q h => by simp at h, fun k q h => by simp at h⟩
  have hl := lv_entry ([.ref b]) (n := 5) (Nat.le_of_ble_eq_true rfl)
  rw [lg_entry_eq]
  generalize (lg_sl ([.ref b]) ++ List.replicate (5 - (lg_sl ([.ref b])).length) Slot.unset).toArray = ls at hl ⊢
  have hl : lv_has ls 5 [(0, .ref b)] := hl
  refine va_new (ci := 7) (fs := [.null, .null, .null]) (C := RX8) (T := TX8) (N := 3) hx hb hts kL_in_X80 tyX8 tyX8_ok hown (hts (.classLink RL 10 RX8) (by decide +kernel)) (hts (.instantiable RX8 3) (by decide +kernel)) (hts (.initialized RX8) (by decide +kernel)) hC.1 hP hD hS hA rfl (fun j hj => by rcases (show j = 0 ∨ j = 1 ∨ j = 2 by omega) with rfl | rfl | rfl <;> rfl) (Nat.le_of_ble_eq_true rfl) (Nat.le_of_ble_eq_true rfl) dL_law_0 (fun po H hP hD hS => ?_)
  have hP : va_P (dC, dI) vwCl ([(po, .inr (7, [.null, .null, .null]))] ++ []) H := hP
  have hD : va_D (fun q : Nat => s.heap.size ≤ q) ([(po, .inr (7, [.null, .null, .null]))] ++ []) := hD
  refine lv_dup hx hb dL_law_3 rfl ?_
  refine kNI (As := []) (rest := [.ref po]) ⟨hx, hb, hml, hown, htsL⟩ (c_X8_init l (dC, dI) T po) (cwI 0 htsL gL_law_X8_init rfl rfl rfl (hts (.initialized RX8) (by decide +kernel)) (hts (.methodLink RL 181 yX8_init) (by decide +kernel)) (hts (.instanceMethod yX8_init) (by decide +kernel)) rfl (by decide +kernel) ⟨Nat.le_of_ble_eq_true rfl, Nat.le_of_ble_eq_true rfl⟩) hC hP hD hS hA rfl hl.1 rfl (Nat.le_of_ble_eq_true rfl) dL_law_4 ⟨Nat.le_of_ble_eq_true rfl, Nat.le_of_ble_eq_true rfl⟩ (fun H locs a1 hP hD hS => ?_)
  have hP : va_P (dC, dI) vwCl (inO T po a1) H := hP
  have hD : va_D (fun q : Nat => s.heap.size ≤ q) (inO T po a1) := hD
  have hP := va_P_perm (inO_perm T po a1) hP
  have hD := va_D_perm (inO_perm T po a1) hD
  refine lv_astore_n (lv' := [(1, .ref po), (0, .ref b)]) hx hb dL_law_7 rfl hl (by decide) rfl (fun ls hl => ?_)
  refine va_new (ci := 7) (fs := [.null, .null, .null]) (C := RX8) (T := TX8) (N := 3) hx hb hts kL_in_X80 tyX8 tyX8_ok hown (hts (.classLink RL 10 RX8) (by decide +kernel)) (hts (.instantiable RX8 3) (by decide +kernel)) (hts (.initialized RX8) (by decide +kernel)) hC.1 hP hD hS hA rfl (fun j hj => by rcases (show j = 0 ∨ j = 1 ∨ j = 2 by omega) with rfl | rfl | rfl <;> rfl) (Nat.le_of_ble_eq_true rfl) (Nat.le_of_ble_eq_true rfl) dL_law_8 (fun qo H hP hD hS => ?_)
  have hP := va_P_perm List.perm_append_comm hP
  have hD := va_D_perm List.perm_append_comm hD
  refine lv_dup hx hb dL_law_11 rfl ?_
  refine kNI (As := []) (rest := [.ref qo]) ⟨hx, hb, hml, hown, htsL⟩ (c_X8_init l (dC, dI) T qo) (cwI 0 htsL gL_law_X8_init rfl rfl rfl (hts (.initialized RX8) (by decide +kernel)) (hts (.methodLink RL 181 yX8_init) (by decide +kernel)) (hts (.instanceMethod yX8_init) (by decide +kernel)) rfl (by decide +kernel) ⟨Nat.le_of_ble_eq_true rfl, Nat.le_of_ble_eq_true rfl⟩) hC hP hD hS hA rfl hl.1 rfl (Nat.le_of_ble_eq_true rfl) dL_law_12 ⟨Nat.le_of_ble_eq_true rfl, Nat.le_of_ble_eq_true rfl⟩ (fun H locs a2 hP hD hS => ?_)
  have hP : va_P (dC, dI) vwCl (inO T qo a2 ++ wO T po a1 k00 x00) H := hP
  have hD : va_D (fun q : Nat => s.heap.size ≤ q) (inO T qo a2 ++ wO T po a1 k00 x00) := hD
  have hp2 : (inO T qo a2 ++ wO T po a1 k00 x00).Perm (wO T po a1 k00 x00 ++ wO T qo a2 k00 x00) := ((inO_perm T qo a2).append_right _).trans List.perm_append_comm
  have hP := va_P_perm hp2 hP
  have hD := va_D_perm hp2 hD
  refine lv_astore_n (lv' := [(2, .ref qo), (1, .ref po), (0, .ref b)]) hx hb dL_law_15 rfl hl (by decide) rfl (fun ls hl => ?_)
  refine lv_iconst (v := 1) hx hb dL_law_16 (by decide) ?_
  refine lv_istore_n (lv' := [(3, .int 1), (2, .ref qo), (1, .ref po), (0, .ref b)]) hx hb dL_law_17 rfl hl (by decide) rfl (fun ls hl => ?_)
  refine lv_iconst (v := 0) hx hb dL_law_18 (by decide) ?_
  refine lv_istore (lv' := [(4, .int 0), (3, .int 1), (2, .ref qo), (1, .ref po), (0, .ref b)]) hx hb dL_law_19 hl (by decide) rfl (fun ls hl => ?_)
  exact law_loop (po := po) (qo := qo) (a1 := a1) (a2 := a2) ⟨hx, hb, hml, hown, htsL, hX, hbl, hst9, hC, hXX, hZ, hE, hNc⟩ hL hr hlocks 90 0 (by omega) k00 x00 x00 H _ _ _ ls KI_00 (Nat.zero_le _) (Nat.zero_le _) hP hD hS (by decide) (by decide) (lv_sub hl [4, 3, 2, 1, 0] rfl)
end PSTART
