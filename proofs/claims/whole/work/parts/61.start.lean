section PSTART
theorem kArT {s : State} {args : Array Value} {ty : FieldType} (h : (Cond.arrayClass ty).before args s = true) : ∃ cA : ClassId, ArrOfT s cA ty ∧ s.vm.findClass ("[" ++ ty.toString) = some cA := by
  obtain ⟨c, k, comp, h1, h2, h3⟩ := Cond.arrayClass_spec h
  exact ⟨c, fun n z => ⟨fun k h => (by cases h), k, h2, comp, h3⟩, h1⟩
theorem kArO {s : State} {args : Array Value} {C : String} (h : (Cond.arrayOver (.object C)).before args s = true) : ∃ cA : ClassId, ArrOfT s cA (.object C) ∧ va_RA s cA (.object C) := by
  obtain ⟨comp, c, k, h1, h2, h3, h4, h5⟩ := Cond.arrayOver_spec h
  exact ⟨c, fun n z => ⟨fun k h => (by cases h), k, h3, comp, h4⟩, k, comp, h3, h4, h1, h5⟩
theorem kTxt {s : State} {args : Array Value} {own tx : String} {k : Nat} (h1 : (Cond.stringRef own k tx).before args s = true) (h2 : (Cond.exactly (.string own k) "java/lang/String").before args s = true) : ∃ sa, vk_R own k tx sa s := by
  obtain ⟨a, c, cell, k', q1, _⟩ := Cond.exactly_spec h2
  exact ⟨a, vk_R.of h1 q1⟩
theorem kNest_in : ∀ q ∈ kNwL, Cond.methodLinkNest q.1 q.2.1 q.2.2 RX8 ∈ lw_tbl := by decide +kernel
theorem kDec_in : ∀ Y ∈ kXDl, Cond.declares (Bundle.initS Y) ∈ lw_tbl := by decide +kernel
theorem kCst_in : ∀ E ∈ kXCl, Cond.castable E E ∈ lw_tbl := by decide +kernel
/-- the numbers at the beginning -/
def zR : Nat → Int32 := fun _ => 0
abbrev zL : LV := (fun _ => 0, fun _ => 0, fun _ => 0, 0, 0, fun _ => 0, 0, 0, fun _ => 0)
abbrev v00 : ST := ((flN (fun _ => 0) 0 26, fun _ => 0, fun _ => 0, 0, 0, flN (fun _ => 0) 0 26, 0, 0, flN (fun _ => 0) 0 26), nI (4 + 1), nI 4, zL, 0, 0, false, 4)
abbrev sl00 : Nat → ST := fun _ => (zL, 0, 0, zL, 0, 0, false, 0)
abbrev x00 : CT := (0, 0, fun _ => 0, fun _ => 0, 0, 0, false, false, 0)
abbrev y00 : MT := (0, fun _ => 0, fun _ => 0, fun _ => 0, 0, 0, 0, 0, 0)
abbrev al00 : Nat → Int32 := va_up (fun _ => 0) 264 4
theorem RW_00 : RW v00 0 0 sl00 x00 al00 (fun _ => 0) 0 y00 := by
  have z : ∀ j, j < 132 → al00 (0 + j) = 0 := fun j hj => va_up_ne _ _ (by omega)
  have e : al00 264 = nI 4 := (va_up_self _ _ _).trans (by decide)
  have e5 : al00 265 = bI false := (va_up_ne _ _ (by decide)).trans rfl
  refine ⟨⟨by decide, by decide, e, e5, LI_zero z e (by decide), LR_zero z (flN_cg _ _) (flN_cg _ _) (flN_cg _ _), rfl, rfl, fun k => absurd (show false = true from k) (by decide)⟩, ⟨by decide, by decide, fun j hj => absurd hj (Nat.not_lt_zero j)⟩, rfl, rfl, Nat.zero_le 60, fun j hj => absurd hj (Nat.not_lt_zero j)⟩
/-- the class's cells as its constructor leaves them, in the order of the law's worlds -/
theorem permI {b0 b1 b2 b3 b4 b5 b6 b7 b8 b9 b10 b11 b12 b13 b14 r : va_W} : ((r ++ List.flatten [b0, b3, b4, b5, b1, b2, b6, b7, b8, b9, b10, b11, b12, b13]) ++ b14).Perm (List.flatten [b0, b1, b2, b3, b4, b5, b6, b7, b8, b9, b10, b11, b12, b13, b14] ++ r) := by
  have h1 : (List.flatten [b0, b1, b2, b3, b4, b5, b6, b7, b8, b9, b10, b11, b12, b13, b14] ++ r).Perm (r ++ List.flatten [b0, b1, b2, b3, b4, b5, b6, b7, b8, b9, b10, b11, b12, b13, b14]) := List.perm_append_comm
  have h2 := blk [b0, b1, b2, b3, b4, b5, b6, b7, b8, b9, b10, b11, b12, b13, b14] [0, 3, 4, 5, 1, 2, 6, 7, 8, 9, 10, 11, 12, 13, 14] (List.isPerm_iff.mp (show List.isPerm [0, 3, 4, 5, 1, 2, 6, 7, 8, 9, 10, 11, 12, 13, 14] (List.range 15) = true by decide +kernel))
  have h3 : (List.flatten (pk [b0, b1, b2, b3, b4, b5, b6, b7, b8, b9, b10, b11, b12, b13, b14] [0, 3, 4, 5, 1, 2, 6, 7, 8, 9, 10, 11, 12, 13, 14])) = List.flatten [b0, b3, b4, b5, b1, b2, b6, b7, b8, b9, b10, b11, b12, b13] ++ b14 := by
    show List.flatten [b0, b3, b4, b5, b1, b2, b6, b7, b8, b9, b10, b11, b12, b13, b14] = _
    simp only [List.flatten_cons, List.flatten_nil, List.append_nil, List.append_assoc]
  rw [h3] at h2
  refine List.Perm.symm (h1.trans ?_)
  rw [List.append_assoc]
  exact h2.append_left r
set_option maxHeartbeats 4000000 in
set_option maxRecDepth 100000 in
theorem whole_start {p : Program} {e : Env} {s : State} {m : MethodId} {below : List Frame} {meth : Method} {c : Code} (l : Launch) (hflags : l.flags = flags0) {b L : Nat} {xs : Nat → Int32} (hL : L ≤ 1024) (C0 : lw_At p s m meth c b L xs) : W p l e room_1 s m #[Value.ref b] below meth c s.heap [] 0 0 (lw_Z below #[Value.ref b] s) (entryFrame m ([Value.ref b] : List Value).toArray 9) := by
  obtain ⟨hx, hb, hr, hml, hown, hts, hX, hbl, hlocks, hgv⟩ := id C0
  have hown : s.vm.findClass RL = some m.cls := hown
  have hg := flat_of_before _ hgv
  have hA : ∀ q : Nat, s.heap.size ≤ q → (fun q : Nat => s.heap.size ≤ q) q := fun _ h => h
  have hA0 : ∀ q : Nat, q < s.heap.size → ¬ (fun q : Nat => s.heap.size ≤ q) q := fun q h => Nat.not_le.mpr h
  have hst9 : l.stackTraces = false := by
    unfold Launch.stackTraces
    rw [hflags]
    decide +kernel
  obtain ⟨c0, i0, hk0⟩ := u_known (C := RX0) (T := TX0) (N := 6) (n := 6) hts kL_in_X00 (hts (.instantiable RX0 6) (by decide +kernel))
  obtain ⟨c1, i1, hk1⟩ := u_known (C := RX1) (T := TX1) (N := 3) (n := 3) hts kL_in_X10 (hts (.instantiable RX1 3) (by decide +kernel))
  obtain ⟨c2, i2, hk2⟩ := u_known (C := RX2) (T := TX2) (N := 3) (n := 3) hts kL_in_X20 (hts (.instantiable RX2 3) (by decide +kernel))
  obtain ⟨c3, i3, hk3⟩ := u_known (C := RX4) (T := TX4) (N := 5) (n := 5) hts kL_in_X40 (hts (.instantiable RX4 5) (by decide +kernel))
  obtain ⟨c4, i4, hk4⟩ := u_known (C := RX5) (T := TX5) (N := 4) (n := 4) hts kL_in_X50 (hts (.instantiable RX5 4) (by decide +kernel))
  obtain ⟨c5, i5, hk5⟩ := u_known (C := RX6) (T := TX6) (N := 5) (n := 5) hts kL_in_X60 (hts (.instantiable RX6 5) (by decide +kernel))
  obtain ⟨c6, i6, hk6⟩ := u_known (C := RX7) (T := TX7) (N := 4) (n := 4) hts kL_in_X70 (hts (.instantiable RX7 4) (by decide +kernel))
  obtain ⟨c7, i7, hk7⟩ := u_known (C := RX8) (T := TX8) (N := 3) (n := 3) hts kL_in_X80 (hts (.instantiable RX8 3) (by decide +kernel))
  obtain ⟨c8, i8, hk8⟩ := u_known (C := RX9) (T := TX9) (N := 12) (n := 12) hts kL_in_X90 (hts (.instantiable RX9 12) (by decide +kernel))
  obtain ⟨dC, dI, hKc⟩ : ∃ (dC : Nat → ClassId) (dI : Nat → Nat → Nat), ∀ (k : Nat) (q : vw_C), vwCl[k]? = some q → u_Kn s q.1 q.2.1 q.2.2 (dC k) (dI k) := by
    refine ⟨fun k => match k with | 0 => c0 | 1 => c1 | 2 => c2 | 3 => c3 | 4 => c4 | 5 => c5 | 6 => c6 | 7 => c7 | _ => c8, fun k => match k with | 0 => i0 | 1 => i1 | 2 => i2 | 3 => i3 | 4 => i4 | 5 => i5 | 6 => i6 | 7 => i7 | _ => i8, ?_⟩
    intro k q hq
    match k, hq with
    | 0, hq => cases hq; exact hk0
    | 1, hq => cases hq; exact hk1
    | 2, hq => cases hq; exact hk2
    | 3, hq => cases hq; exact hk3
    | 4, hq => cases hq; exact hk4
    | 5, hq => cases hq; exact hk5
    | 6, hq => cases hq; exact hk6
    | 7, hq => cases hq; exact hk7
    | 8, hq => cases hq; exact hk8
    | k + 9, hq => simp [vwCl] at hq
  obtain ⟨ai, hai1, hai2⟩ := kArT (hts (.arrayClass .int) (by decide +kernel))
  obtain ⟨ac, hac1, hac2⟩ := kArT (hts (.arrayClass .char) (by decide +kernel))
  obtain ⟨ag, hag1, hag2⟩ := kArT (hts (.arrayClass .long) (by decide +kernel))
  have hAO := hts (.arrayOver (.object "ParrotCounts$State")) (by decide +kernel)
  obtain ⟨as9, has1, has2⟩ := kArO hAO
  obtain ⟨ad9, hen1, hen2⟩ := va_Enof (args := #[Value.ref b]) (s := s) (E := "ParrotCounts$Measure") (d := "LParrotCounts$Measure;") (nm := ["SURE", "ESTIMATED", "TRUE"]) (F := []) (A := fun q : Nat => s.heap.size ≤ q)
    (fun i hi => by
      rcases (show i = 0 ∨ i = 1 ∨ i = 2 by simp at hi; omega) with rfl | rfl | rfl <;> exact hts _ (by decide +kernel))
    (hts _ (by decide +kernel))
    (fun i hi => by
      rcases (show i = 0 ∨ i = 1 ∨ i = 2 by simp at hi; omega) with rfl | rfl | rfl <;> exact hg _ (by decide +kernel))
    (fun q hq => absurd hq List.not_mem_nil)
    (fun i j hi hj hij => by
      rcases (show (i = 0 ∧ j = 1) ∨ (i = 0 ∧ j = 2) ∨ (i = 1 ∧ j = 2) ∨ (i = 1 ∧ j = 0) ∨ (i = 2 ∧ j = 0) ∨ (i = 2 ∧ j = 1) by simp at hi hj; omega) with ⟨rfl, rfl⟩ | ⟨rfl, rfl⟩ | ⟨rfl, rfl⟩ | ⟨rfl, rfl⟩ | ⟨rfl, rfl⟩ | ⟨rfl, rfl⟩
      · exact Or.inl (hg _ (by decide +kernel))
      · exact Or.inl (hg _ (by decide +kernel))
      · exact Or.inl (hg _ (by decide +kernel))
      · exact Or.inr (hg _ (by decide +kernel))
      · exact Or.inr (hg _ (by decide +kernel))
      · exact Or.inr (hg _ (by decide +kernel)))
    hA0
  obtain ⟨T, hT⟩ : ∃ T : Nat → ClassId, T = fun k => match k with | 0 => ai | 1 => ac | 2 => ag | 3 => as9 | 4 => ad9 0 | 5 => ad9 1 | _ => ad9 2 := ⟨_, rfl⟩
  have hK : va_K (dC, dI) vwCl (kT T) s := by
    refine ⟨hKc, fun k q hq => ?_⟩
    subst hT
    match k, hq with
    | 0, hq => cases hq; exact ⟨hai1, hai2⟩
    | 1, hq => cases hq; exact ⟨hac1, hac2⟩
    | 2, hq => cases hq; exact ⟨hag1, hag2⟩
    | 3, hq => cases hq; exact ⟨has1, has2⟩
    | k + 4, hq => simp [kT] at hq
  have hC : kCx (dC, dI) T s := ⟨hK, fun q hq => va_Nw.of rfl (hts _ (kNest_in q hq)), va_AO.of hAO⟩
  have hE : kE T (fun q : Nat => s.heap.size ≤ q) s s.heap := by
    subst hT
    refine ⟨(hen1 0 (by decide)).1, (hen1 1 (by decide)).1, fun h => ?_, fun h => ?_, fun h => ?_, (hen1 2 (by decide)).1⟩
    · exact absurd (hen2 0 1 (by decide) (by decide) (Option.some.inj h)) (by decide)
    · exact absurd (hen2 0 2 (by decide) (by decide) (Option.some.inj h)) (by decide)
    · exact absurd (hen2 1 2 (by decide) (by decide) (Option.some.inj h)) (by decide)
  have hXX : kXX s := by
    refine ⟨fun Y hY => va_Nw.of rfl (hts _ (kDec_in Y hY)), fun E hE => va_Nw.of rfl (hts _ (kCst_in E hE)), fun q hq => ?_⟩
    simp only [kXTl, List.mem_cons, List.not_mem_nil, or_false] at hq
    rcases hq with rfl | rfl | rfl | rfl | rfl | rfl | rfl | rfl | rfl | rfl | rfl | rfl | rfl | rfl <;> exact kTxt (hts _ (by decide +kernel)) (hg _ (by decide +kernel))
  have hZ : kZ (fun q : Nat => s.heap.size ≤ q) s s.heap := ⟨vx_Zqof (hts _ (by decide +kernel)) (hts _ (by decide +kernel)) (hg (.isRef (.static Bundle.tN "UNASSIGNED_STACK" Bundle.steD)) (by decide +kernel)) hA0, vx_Zqof (hts _ (by decide +kernel)) (hts _ (by decide +kernel)) (hg (.isRef (.static Bundle.tN "SUPPRESSED_SENTINEL" Bundle.listD)) (by decide +kernel)) hA0⟩
  have hNc : kNc s := by
    intro q hq
    simp only [kNcl, List.mem_cons, List.not_mem_nil, or_false] at hq
    rcases hq with rfl | rfl | rfl | rfl <;> exact va_Nc.of (hg _ (by decide +kernel))
  have htsL : ∀ w ∈ wsL_law, w.before #[Value.ref b] s = true := fun w h => hts w (wsL_law_in w h)
  have hS : va_S (fun q : Nat => s.heap.size ≤ q) s.heap s.heap [] := va_S.rf
  have hP : va_P (dC, dI) vwCl [] s.heap := fun k q h => by simp at h
  have hD : va_D (fun q : Nat => s.heap.size ≤ q) [] := ⟨fun i j p q h => by simp at h, fun k q h => by simp at h⟩
  have hl := lv_entry ([.ref b]) (n := 9) (Nat.le_of_ble_eq_true rfl)
  rw [lg_entry_eq]
  generalize (lg_sl ([.ref b]) ++ List.replicate (9 - (lg_sl ([.ref b])).length) Slot.unset).toArray = ls at hl ⊢
  have hl : lv_has ls 9 [(0, .ref b)] := hl
  refine va_new (ci := 7) (fs := [.null, .null, .null]) (C := RX8) (T := TX8) (N := 3) hx hb hts kL_in_X80 tyX8 tyX8_ok hown (hts (.classLink RL 8 RX8) (by decide +kernel)) (hts (.instantiable RX8 3) (by decide +kernel)) (hts (.initialized RX8) (by decide +kernel)) hC.1 hP hD hS hA rfl (fun j hj => by rcases (show j = 0 ∨ j = 1 ∨ j = 2 by omega) with rfl | rfl | rfl <;> rfl) (Nat.le_of_ble_eq_true rfl) (Nat.le_of_ble_eq_true rfl) dL_law_0 (fun po H hP hD hS => ?_)
  have hP : va_P (dC, dI) vwCl ([(po, .inr (7, [.null, .null, .null]))] ++ []) H := hP
  have hD : va_D (fun q : Nat => s.heap.size ≤ q) ([(po, .inr (7, [.null, .null, .null]))] ++ []) := hD
  refine lv_dup hx hb dL_law_3 rfl ?_
  refine kNI (As := []) (rest := [.ref po]) ⟨hx, hb, hml, hown, htsL⟩ (c_X8_init l (dC, dI) T po) (cwI 0 htsL gL_law_X8_init rfl rfl rfl (hts (.initialized RX8) (by decide +kernel)) (hts (.methodLink RL 77 yX8_init) (by decide +kernel)) (hts (.instanceMethod yX8_init) (by decide +kernel)) rfl (by decide +kernel) ⟨Nat.le_of_ble_eq_true rfl, Nat.le_of_ble_eq_true rfl⟩) hC hP hD hS hA rfl hl.1 rfl (Nat.le_of_ble_eq_true rfl) dL_law_4 ⟨Nat.le_of_ble_eq_true rfl, Nat.le_of_ble_eq_true rfl⟩ (fun H locs a hP hD hS => ?_)
  have hP : va_P (dC, dI) vwCl (List.flatten [[oPC po (a 0) (a 17) (a 104)], [oSt (a 0) (a 1) (a 9) (bI false) (nI 4)], bLB T a 1 v00.1 v00.2.1 v00.2.2.1, bLB T a 9 v00.2.2.2.1 v00.2.2.2.2.1 v00.2.2.2.2.2.1, [oHi (a 17) (a 18) (nI 0) (nI 0)], [aS T (a 18) 5 (hsF a)], bSt T a 19 (sl00 0), bSt T a 36 (sl00 1), bSt T a 53 (sl00 2), bSt T a 70 (sl00 3), bSt T a 87 (sl00 4), [oSo (a 104) (a 105) (a 106) (a 107) (nI x00.1) x00.2.1, aC T (a 105) 60 x00.2.2.1], [oRe (a 106) x00.2.2.2.2.1 x00.2.2.2.2.2.1 (bI x00.2.2.2.2.2.2.1) (bI x00.2.2.2.2.2.2.2.1) x00.2.2.2.2.2.2.2.2], [aI T (a 107) 1000 x00.2.2.2.1]]) H := hP
  have hD : va_D (fun q : Nat => s.heap.size ≤ q) (List.flatten [[oPC po (a 0) (a 17) (a 104)], [oSt (a 0) (a 1) (a 9) (bI false) (nI 4)], bLB T a 1 v00.1 v00.2.1 v00.2.2.1, bLB T a 9 v00.2.2.2.1 v00.2.2.2.2.1 v00.2.2.2.2.2.1, [oHi (a 17) (a 18) (nI 0) (nI 0)], [aS T (a 18) 5 (hsF a)], bSt T a 19 (sl00 0), bSt T a 36 (sl00 1), bSt T a 53 (sl00 2), bSt T a 70 (sl00 3), bSt T a 87 (sl00 4), [oSo (a 104) (a 105) (a 106) (a 107) (nI x00.1) x00.2.1, aC T (a 105) 60 x00.2.2.1], [oRe (a 106) x00.2.2.2.2.1 x00.2.2.2.2.2.1 (bI x00.2.2.2.2.2.2.1) (bI x00.2.2.2.2.2.2.2.1) x00.2.2.2.2.2.2.2.2], [aI T (a 107) 1000 x00.2.2.2.1]]) := hD
  generalize hIC : List.flatten [[oPC po (a 0) (a 17) (a 104)], [oSt (a 0) (a 1) (a 9) (bI false) (nI 4)], bLB T a 1 v00.1 v00.2.1 v00.2.2.1, bLB T a 9 v00.2.2.2.1 v00.2.2.2.2.1 v00.2.2.2.2.2.1, [oHi (a 17) (a 18) (nI 0) (nI 0)], [aS T (a 18) 5 (hsF a)], bSt T a 19 (sl00 0), bSt T a 36 (sl00 1), bSt T a 53 (sl00 2), bSt T a 70 (sl00 3), bSt T a 87 (sl00 4), [oSo (a 104) (a 105) (a 106) (a 107) (nI x00.1) x00.2.1, aC T (a 105) 60 x00.2.2.1], [oRe (a 106) x00.2.2.2.2.1 x00.2.2.2.2.2.1 (bI x00.2.2.2.2.2.2.1) (bI x00.2.2.2.2.2.2.2.1) x00.2.2.2.2.2.2.2.2], [aI T (a 107) 1000 x00.2.2.2.1]] = IC at hP hD
  refine lv_astore_n (lv' := [(1, .ref po), (0, .ref b)]) hx hb dL_law_7 rfl hl (by decide) rfl (fun ls hl => ?_)
  refine va_new (ci := 8) (fs := [.null, .null, .int 0, .int 0, .null, .null, .null, .int 0, .int 0, .int 0, .int 0, .int 0]) (C := RX9) (T := TX9) (N := 12) hx hb hts kL_in_X90 tyX9 tyX9_ok hown (hts (.classLink RL 78 RX9) (by decide +kernel)) (hts (.instantiable RX9 12) (by decide +kernel)) (hts (.initialized RX9) (by decide +kernel)) hC.1 hP hD hS hA rfl (fun j hj => by rcases (show j = 0 ∨ j = 1 ∨ j = 2 ∨ j = 3 ∨ j = 4 ∨ j = 5 ∨ j = 6 ∨ j = 7 ∨ j = 8 ∨ j = 9 ∨ j = 10 ∨ j = 11 by omega) with rfl | rfl | rfl | rfl | rfl | rfl | rfl | rfl | rfl | rfl | rfl | rfl <;> rfl) (Nat.le_of_ble_eq_true rfl) (Nat.le_of_ble_eq_true rfl) dL_law_8 (fun mo H hP hD hS => ?_)
  have hP := va_P_perm List.perm_append_comm hP
  have hD := va_D_perm List.perm_append_comm hD
  refine lv_dup hx hb dL_law_11 rfl ?_
  refine kNI (As := []) (rest := [.ref mo]) ⟨hx, hb, hml, hown, htsL⟩ (c_X9_init l (dC, dI) T mo) (cwI 0 htsL gL_law_X9_init rfl rfl rfl (hts (.initialized RX9) (by decide +kernel)) (hts (.methodLink RL 80 yX9_init) (by decide +kernel)) (hts (.instanceMethod yX9_init) (by decide +kernel)) rfl (by decide +kernel) ⟨Nat.le_of_ble_eq_true rfl, Nat.le_of_ble_eq_true rfl⟩) hC hP hD hS hA rfl hl.1 rfl (Nat.le_of_ble_eq_true rfl) dL_law_12 ⟨Nat.le_of_ble_eq_true rfl, Nat.le_of_ble_eq_true rfl⟩ (fun H locs mm hP hD hS => ?_)
  have hP : va_P (dC, dI) vwCl ((bsM T mo mm al00 (fun _ => 0) 0 y00).flatten ++ IC) H := hP
  have hD : va_D (fun q : Nat => s.heap.size ≤ q) ((bsM T mo mm al00 (fun _ => 0) 0 y00).flatten ++ IC) := hD
  refine lv_astore_n (lv' := [(2, .ref mo), (1, .ref po), (0, .ref b)]) hx hb dL_law_15 rfl hl (by decide) rfl (fun ls hl => ?_)
  refine lv_iconst (v := 1) hx hb dL_law_16 (by decide) ?_
  refine k_newa (atype := .long) (ty := .long) (a0 := (1, .inr (.inl (fun _ => 0)))) hx hb (hts (.arrayClass .long) (by decide +kernel)) rfl hC 2 rfl (fun _ _ h => h) hP hD hS hA (fun _ => rfl) (by decide) (by decide) (by decide) (Nat.le_of_ble_eq_true rfl) (Nat.le_of_ble_eq_true rfl) dL_law_17 (fun ouA H hP hD hS => ?_)
  refine lv_astore_n (lv' := [(3, .ref ouA), (2, .ref mo), (1, .ref po), (0, .ref b)]) hx hb dL_law_19 rfl hl (by decide) rfl (fun ls hl => ?_)
  refine lv_iconst (v := 0) hx hb dL_law_20 (by decide) ?_
  refine lv_istore (lv' := [(4, .int 0), (3, .ref ouA), (2, .ref mo), (1, .ref po), (0, .ref b)]) hx hb dL_law_21 hl (by decide) rfl (fun ls hl => ?_)
  subst hIC
  have hP := va_P_perm permI hP
  have hD := va_D_perm permI hD
  exact law_loop (a := a) (mm := mm) (po := po) (ouA := ouA) (mo := mo) ⟨hx, hb, hml, hown, htsL, hX, hbl, hst9, hC, hXX, hZ, hE, hNc⟩ hL hr hlocks (L + 2) 0 (by omega) (by omega) v00 0 0 sl00 x00 (fun _ => 0) al00 (fun _ => 0) 0 y00 H _ _ _ ls ⟨RW_00, hP, hD, hS, by decide, by decide, lv_sub hl [4, 3, 2, 1, 0] rfl⟩
end PSTART
