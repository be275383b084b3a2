section KX
def kXDl : List String := ["java/lang/RuntimeException", "java/lang/Exception", "java/lang/Throwable"]
def kXCl : List String := ["java/lang/IndexOutOfBoundsException", "java/lang/IllegalStateException", "java/lang/IllegalArgumentException", "java/util/NoSuchElementException"]
def kXTl : List (Nat × String) := [(219, "there is no such parrot"), (223, "there would be too many calls"), (225, "permille is out of range"), (227, "the text is not a song"), (106, "nothing is aside"), (114, "the text is full"), (132, "the history is empty"), (132, "the history is empty"), (146, "the parrot has no counter"), (158, "no counter would be taken over"), (163, "the position is negative"), (165, "there are not so many counters"), (72, "the song has too many calls"), (90, "the capacity is out of range")]
abbrev kNm : List String := ["java/lang/RuntimeException", "java/lang/Exception"]
def kXX (U : State) : Prop := (∀ Y ∈ kXDl, va_Nw (.declares (Bundle.initS Y)) U) ∧ (∀ E ∈ kXCl, va_Nw (.castable E E) U) ∧ ∀ q ∈ kXTl, ∃ sa, vk_R RX8 q.1 q.2 sa U
theorem kXX.warm {s U : State} (hW : s.WarmedH U.vm) (h : kXX s) : kXX U := ⟨fun Y hY => va_Nw.warmD hW (h.1 Y hY), fun E hE => va_Nw.warmC hW (h.2.1 E hE), fun q hq => (h.2.2 q hq).imp fun _ hs => vk_R.warm hW hs⟩
theorem kXX.same {s U : State} (hv : s.vm = U.vm) (h : kXX s) : kXX U := ⟨fun Y hY => va_Nw.same rfl hv (h.1 Y hY), fun E hE => va_Nw.same rfl hv (h.2.1 E hE), fun q hq => (h.2.2 q hq).imp fun _ hs => vk_R.same hv.symm hs⟩
def kZ (A : Nat → Prop) (U : State) (H : Heap) : Prop := vx_Zq Bundle.tN "UNASSIGNED_STACK" Bundle.steD A U H ∧ vx_Zq Bundle.tN "SUPPRESSED_SENTINEL" Bundle.listD A U H
theorem kZ.moved {A : Nat → Prop} {u U : State} {H : Heap} (hvm : u.vm.Alike U.vm) (h : kZ A u H) : kZ A U H := ⟨vx_Zq.moved hvm h.1, vx_Zq.moved hvm h.2⟩
theorem kZ.kept {A : Nat → Prop} {U : State} {H H1 : Heap} (h : kZ A U H) (hq : ∀ a : Nat, a < H.size → ¬ A a → H1[a]? = H[a]?) : kZ A U H1 := ⟨vx_Zq.kept h.1 hq, vx_Zq.kept h.2 hq⟩
theorem kZ.narrow {A B : Nat → Prop} {U : State} {H : Heap} (h : kZ A U H) (hAB : ∀ q, B q → A q) : kZ B U H := ⟨vx_Zq.narrow h.1 hAB, vx_Zq.narrow h.2 hAB⟩
def kXPc (D : va_G) (T : Nat → ClassId) (av : List Value) (w : va_W) (sz : Nat) : Array Value → State → Prop := va_Pc av (fun U => U.heap.size = sz ∧ va_P D vwCl w U.heap ∧ kCx D T U ∧ va_D (fun _ => True) w ∧ kXX U ∧ kZ (va_A w sz) U U.heap)
def kXC (D : va_G) (E : String) (w w' : va_W) (sz : Nat) : String → State → State → Prop := fun E' st t => E' = E ∧ va_P D vwCl w' t.heap ∧ va_D (va_A w sz) w' ∧ va_F (va_A w sz) st t
/-- a contract: from a heap that holds the cells w, with these arguments, the method throws an E, and the heap holds w' -/
def kXM (l : Launch) (D : va_G) (T : Nat → ClassId) (y : MethodName) (ws : List Cond) (rm : Room) (av : List Value) (w : va_W) (E : String) (w' : va_W) : Prop := ∀ sz, vx_Met l y ws rm (kXPc D T av w sz) (fun _ _ _ _ => False) (kXC D E w w' sz) 1 6 (va_A w sz)
theorem kXPc.blind {D : va_G} {T : Nat → ClassId} {av : List Value} {w : va_W} {sz : Nat} : FrameBlind (kXPc D T av w sz) := by
  intro a U g mk h
  obtain ⟨h0, h1, h2, h3, h4, h5, h6⟩ := h
  exact ⟨h0, h1, h2, kCx.same rfl h3, h4, kXX.same rfl h5, kZ.moved (u := U) (U := U.calling g mk a) (Vm.Alike.refl U.vm) h6⟩
theorem kXM.of {l : Launch} {D : va_G} {T : Nat → ClassId} {y : MethodName} {ws ws' : List Cond} {rm : Room} {av : List Value} {w w' : va_W} {E : String} {cc : ByteArray} {maxL : Nat} {ret : Option FieldType}
    (hy : plainName y.cls = true) (hw : ws = Cond.code y cc maxL ret :: ws') (hlen : (lg_sl av).length ≤ maxL)
    (body : ∀ (p : Program) (e : Env) (s : State) (m : MethodId) (below : List Frame) (meth : Method) (c : Code) (A : Nat → Prop) (Q : State → Prop) (ls : Array Slot), p.tables.exec = Jvm.exec → c.code = cc → c.maxLocals = maxL → s.vm.findClass y.cls = some m.cls → (∀ w ∈ ws, w.before av.toArray s = true) → kCx D T s → va_P D vwCl w s.heap → va_D A w → va_S A s.heap s.heap [] → (∀ q, s.heap.size ≤ q → A q) → lv_has ls maxL (lv_args 0 av) → kXX s → kZ A s s.heap →
      (∀ (E' text : String) (ik is ic pc sa : Nat) (H : Heap) (locs : List Loc) (ls : Array Slot) (rest : List Value), E' = E → Bundle.fit E' = true → (∀ n ∈ kNm, Bundle.fit n = true) → (Cond.classLink y.cls ik E').before av.toArray s = true → (Cond.initialized E').before av.toArray s = true → vk_R y.cls is text sa s → (∀ w ∈ vx_atS y.cls ic E' kNm, w.before av.toArray s = true) → (∀ w ∈ Cond.classLink y.cls ik E' :: Cond.initialized E' :: vx_atS y.cls ic E' kNm, vx_ot w = true) → ls.size = c.maxLocals → decode cc pc = .ok (.new ik, 3) → decode cc (pc + 3) = .ok (.dup, 1) → decode cc (pc + 4) = .ok (.ldc is, 2) → decode cc (pc + 6) = .ok (.invokespecial ic, 3) → decode cc (pc + 9) = .ok (.athrow, 1) → 5 < rm.frames → (rest.map fun v => v.category).sum + 82 ≤ rm.locals → 1 ≤ rm.cells → 6 ≤ rm.slots → va_P D vwCl w' H → va_D A w' → va_S A s.heap H locs → W p l e rm s m av.toArray below meth c H locs 0 0 Q (F0 m pc ls rest)) →
      (∀ (H : Heap) (locs : List Loc) (cells slots pc q : Nat) (ls : Array Slot) (rest : List Value) (ce : Cell), va_P D vwCl w' H → va_D A w' → va_S A s.heap H locs → H[q]? = some ce → ce.vm = .none → s.vm.findClass E = some ce.cls → cells ≤ 1 → slots ≤ 6 → vx_W p l e rm s m av.toArray below meth c H locs cells slots Q (F0 m pc ls rest) q) →
      l.stackTraces = l.stackTraces → W p l e rm s m av.toArray below meth c s.heap [] 0 0 Q (F0 m 0 ls [])) (hst : l.stackTraces = false) : kXM l D T y ws rm av w E w' := by
  intro sz
  refine vx_ofW (cc := cc) (maxL := maxL) (ret := ret) hy hw ?_
  intro p e s m args below meth c s₁ B hml htab hv
  obtain ⟨rfl, hsz, hP, hC, hD0, hXX, hZ⟩ := hv
  subst hsz
  have hts := atoms_spec (ws := ws) B.pre
  have hown : s.vm.findClass y.cls = some m.cls := findClass_of_methodNamed B.named
  have hl := lv_entry av (n := maxL) hlen
  rw [lg_entry_eq]
  refine body p e s m below meth c (va_A w s.heap.size) _ _ B.exec B.bytes hml hown hts hC hP hD0.self va_S.rf (fun q h => Or.inr h) hl hXX hZ ?_ ?_ rfl
  · intro E' text ik is ic pc sa H locs ls rest hE hfit hnm hk hini hstr hat hgood hsize d0 d3 d4 d6 d9 hfr hlo hce hsl hP1 hD1 hS1
    subst hE
    exact vx_throwS (names := kNm) (A := va_A w s.heap.size) B.exec B.bytes hst hown hfit hnm hk hini hstr hat hgood hZ.1 hZ.2 hS1 hsize d0 d3 d4 d6 d9 (fun x hx => absurd (htab x hx) id) hfr hlo (by show 0 + 1 ≤ _; exact hce) (by show 0 + 6 ≤ _; exact hsl) B.notSynchronized
      (fun t hvm hz hk => ⟨rfl, hP1.kept (fun k q hq => hk q.1 (hP1 k q hq).lt), hD1, Nat.le_trans hS1.1 hz, fun q h1 h2 => by rw [hk q (Nat.lt_of_lt_of_le h1 hS1.1)]; exact hS1.2.1 q h1 h2⟩) hS1.2.2 (Nat.le_refl _) (Nat.le_refl _)
  · intro H locs cells slots pc q ls rest ce hP1 hD1 hS1 h1 h2 h3 h4 h5
    exact vx_out (fun x hx => absurd (htab x hx) id) B.notSynchronized h1 h2 h3 (fun t ht hvm => ⟨rfl, by rw [ht]; exact hP1, hD1, hS1.F ht⟩) hS1.2.2 h4 h5
section XCALL
variable {p : Program} {l : Launch} {e : Env} {R : Room} {s : State} {m : MethodId} {args : Array Value} {below : List Frame} {meth : Method} {c : Code} {H : Heap} {locs : List Loc} {cells slots : Nat} {Q : State → Prop} {D : va_G} {T : Nat → ClassId}
theorem kxUse {A : Nat → Prop} {w wr : va_W} {av : List Value} (hC : kCx D T s) (hP : va_P D vwCl (w ++ wr) H) (hD : va_D A (w ++ wr)) (hS : va_S A s.heap H locs) (hA : ∀ q, s.heap.size ≤ q → A q) (hXX : kXX s) (hZ : kZ A s s.heap) : ∀ U : State, U.heap = H → s.WarmedH U.vm → kXPc D T av w H.size av.toArray U := by
  intro U hU hW
  obtain ⟨h1, h2⟩ := kLeft hP hD
  exact ⟨rfl, by rw [hU], by rw [hU]; exact h1, hC.warm hW, h2, hXX.warm hW, by rw [hU]; exact ((hZ.kept hS.2.1).narrow (kFree hD hS hA)).moved hW.alike⟩
theorem kxCore {w wr w1 : va_W} {E : String} {A : Nat → Prop} {pc : Nat} {ls : Array Slot} {st0 rest : List Value} {Qa : State → Outcome → State → Prop} (hQ : ∀ a b d, ¬ Qa a b d)
    (hr : vx_Run p l e R s m args below meth c H locs cells slots 1 6 (F0 m pc ls st0) rest Qa (kXC D E w w1 H.size) (va_A w H.size)) (hP : va_P D vwCl (w ++ wr) H) (hD : va_D A (w ++ wr)) (hS : va_S A s.heap H locs) (hA : ∀ q, s.heap.size ≤ q → A q)
    (kk : ∀ (H1 : Heap) (locs1 : List Loc) (q : Nat) (ce : Cell), va_P D vwCl (w1 ++ wr) H1 → va_D A (w1 ++ wr) → va_S A s.heap H1 locs1 → H1[q]? = some ce → ce.vm = .none → s.vm.findClass E = some ce.cls → vx_W p l e R s m args below meth c H1 locs1 (cells + 1) (slots + 6) Q (F0 m pc ls rest) q) : W p l e R s m args below meth c H locs cells slots Q (F0 m pc ls st0) := by
  intro U hU X
  rcases hr U hU X with ⟨v, st₀, t, T', L, h0, X', hL, e1, e2, hq, st⟩ | ⟨q, st₀, t, T', L, E', ce, h0, X', hL, e1, e2, ⟨hE, hp, hd, hz, hk⟩, hce, hcv, hcl, st⟩
  · exact absurd hq (hQ _ _ _)
  · subst hE
    rw [h0] at hz hk
    have hF := kFree hD hS hA
    obtain ⟨hP1, hD1⟩ := kJoin hP hD hk hF hp hd
    obtain ⟨t2, a1, b1⟩ := kk T'.heap (locs ++ L) q ce (by rw [e1]; exact hP1) hD1
      ⟨Nat.le_trans hS.1 (by rw [e1]; exact hz), fun q h1 h2 => by rw [e1, hk q (Nat.lt_of_lt_of_le h1 hS.1) (fun z => h2 (hF q z))]; exact hS.2.1 q h1 h2, fun q hq => by
        rcases List.mem_append.mp hq with h | h
        · exact hS.2.2 q h
        · exact hF _ (hL q h)⟩ (by rw [e1]; exact hce) hcv hcl T' rfl X'
    exact ⟨t2, st.trans a1, b1⟩
variable {y : MethodName} {bytes cc : ByteArray} {maxL nL n index : Nat} {ret : Option FieldType} {ws : List Cond} {rm : Room} {Ts : List Cond} {own C : String} {b ci : Nat} {As rest st : List Value} {fs : List Value} {TT : u_T} {NN : Nat} {w wr w1 : va_W} {E : String} {A : Nat → Prop} {pc : Nat} {ls : Array Slot}
theorem kxV (S : CallFix p m c cc nL s args Ts own) (hM : kXM l D T y ws rm (.ref b :: As) w E w1) (cw : CallW R s args own C index y bytes maxL ret ws rm 1 6 n) (hC : kCx D T s) (hXX : kXX s) (hZ : kZ A s s.heap) (hP : va_P D vwCl (w ++ wr) H) (hD : va_D A (w ++ wr)) (hS : va_S A s.heap H locs) (hA : ∀ q, s.heap.size ≤ q → A q) (hc : vwCl[ci]? = some (C, TT, NN)) (he : (w ++ wr)[0]? = some (b, .inr (ci, fs)))
    (hn : As.length = n) (hsize : ls.size = nL) (hst : st = As.reverse ++ .ref b :: rest) (hW : (rest.map fun v => v.category).sum ≤ 8) (hdg : decode cc pc = .ok (.invokevirtual index, 3)) (hf : cells + 1 ≤ R.cells ∧ slots + 6 ≤ R.slots)
    (kk : ∀ (H1 : Heap) (locs1 : List Loc) (q : Nat) (ce : Cell), va_P D vwCl (w1 ++ wr) H1 → va_D A (w1 ++ wr) → va_S A s.heap H1 locs1 → H1[q]? = some ce → ce.vm = .none → s.vm.findClass E = some ce.cls → vx_W p l e R s m args below meth c H1 locs1 (cells + 1) (slots + 6) Q (F0 m pc ls rest) q) : W p l e R s m args below meth c H locs cells slots Q (F0 m pc ls st) := by
  subst hst
  exact kxCore (fun _ _ _ h => h) (vx_runV S (hM H.size) cw ⟨kXPc.blind, kRecv hC hP hc he, kxUse hC hP hD hS hA hXX hZ⟩ rfl hn hsize rfl (lv_room hW) hdg hf) hP hD hS hA kk
theorem kxS (S : CallFix p m c cc nL s args Ts own) (hM : kXM l D T y ws rm As w E w1) (cw : CallB R s args own index y bytes maxL ret ws rm 1 6 n ∧ (Cond.static y).before args s = true) (hC : kCx D T s) (hXX : kXX s) (hZ : kZ A s s.heap) (hP : va_P D vwCl (w ++ wr) H) (hD : va_D A (w ++ wr)) (hS : va_S A s.heap H locs) (hA : ∀ q, s.heap.size ≤ q → A q)
    (hn : As.length = n) (hsize : ls.size = nL) (hst : st = As.reverse ++ rest) (hW : (rest.map fun v => v.category).sum ≤ 8) (hdg : decode cc pc = .ok (.invokestatic index, 3)) (hf : cells + 1 ≤ R.cells ∧ slots + 6 ≤ R.slots)
    (kk : ∀ (H1 : Heap) (locs1 : List Loc) (q : Nat) (ce : Cell), va_P D vwCl (w1 ++ wr) H1 → va_D A (w1 ++ wr) → va_S A s.heap H1 locs1 → H1[q]? = some ce → ce.vm = .none → s.vm.findClass E = some ce.cls → vx_W p l e R s m args below meth c H1 locs1 (cells + 1) (slots + 6) Q (F0 m pc ls rest) q) : W p l e R s m args below meth c H locs cells slots Q (F0 m pc ls st) := by
  subst hst
  exact kxCore (fun _ _ _ h => h) (vx_runS S (hM H.size) cw ⟨kXPc.blind, kxUse hC hP hD hS hA hXX hZ⟩ rfl hn hsize rfl (lv_room hW) hdg hf) hP hD hS hA kk
end XCALL
theorem kFit : ∀ n ∈ kNm, Bundle.fit n = true := by decide +kernel
def kXB (E : String) : List Cond := [.declares (Bundle.initS "java/lang/RuntimeException"), .declares (Bundle.initS "java/lang/Exception"), .declares (Bundle.initS "java/lang/Throwable"), .castable E E]
theorem kXB_ok {E : String} {args : Array Value} {s : State} (h : kXX s) (hE : E ∈ kXCl) : ∀ w ∈ kXB E, w.before args s = true := by
  have a1 := va_Nw.use (A := args) rfl (h.1 "java/lang/RuntimeException" (by decide +kernel))
  have a2 := va_Nw.use (A := args) rfl (h.1 "java/lang/Exception" (by decide +kernel))
  have a3 := va_Nw.use (A := args) rfl (h.1 "java/lang/Throwable" (by decide +kernel))
  have a4 := va_Nw.use (A := args) rfl (h.2.1 E hE)
  exact vx_c a1 (vx_c a2 (vx_c a3 (vx_c a4 vx_n)))
theorem kB_221 : ∀ w ∈ (vx_atS RX8 221 "java/lang/IndexOutOfBoundsException" kNm).filter (fun w => !goodWord w), w ∈ kXB "java/lang/IndexOutOfBoundsException" := by decide +kernel
theorem kB_74 : ∀ w ∈ (vx_atS RX8 74 "java/lang/IllegalStateException" kNm).filter (fun w => !goodWord w), w ∈ kXB "java/lang/IllegalStateException" := by decide +kernel
theorem kB_92 : ∀ w ∈ (vx_atS RX8 92 "java/lang/IllegalArgumentException" kNm).filter (fun w => !goodWord w), w ∈ kXB "java/lang/IllegalArgumentException" := by decide +kernel
theorem kB_148 : ∀ w ∈ (vx_atS RX8 148 "java/util/NoSuchElementException" kNm).filter (fun w => !goodWord w), w ∈ kXB "java/util/NoSuchElementException" := by decide +kernel
theorem kG_221 : ∀ w ∈ Cond.classLink RX8 217 "java/lang/IndexOutOfBoundsException" :: Cond.initialized "java/lang/IndexOutOfBoundsException" :: vx_atS RX8 221 "java/lang/IndexOutOfBoundsException" kNm, vx_ot w = true := by decide +kernel
theorem kG_74 : ∀ w ∈ Cond.classLink RX8 70 "java/lang/IllegalStateException" :: Cond.initialized "java/lang/IllegalStateException" :: vx_atS RX8 74 "java/lang/IllegalStateException" kNm, vx_ot w = true := by decide +kernel
theorem kG_92 : ∀ w ∈ Cond.classLink RX8 88 "java/lang/IllegalArgumentException" :: Cond.initialized "java/lang/IllegalArgumentException" :: vx_atS RX8 92 "java/lang/IllegalArgumentException" kNm, vx_ot w = true := by decide +kernel
theorem kG_148 : ∀ w ∈ Cond.classLink RX8 144 "java/util/NoSuchElementException" :: Cond.initialized "java/util/NoSuchElementException" :: vx_atS RX8 148 "java/util/NoSuchElementException" kNm, vx_ot w = true := by decide +kernel
end KX
