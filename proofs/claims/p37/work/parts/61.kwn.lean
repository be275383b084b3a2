section KWN
def kNcl : List (String × String) := [("java/lang/IllegalStateException", "java/lang/IndexOutOfBoundsException"), ("java/lang/IllegalStateException", "java/lang/IllegalArgumentException"), ("java/util/NoSuchElementException", "java/lang/IndexOutOfBoundsException"), ("java/util/NoSuchElementException", "java/lang/IllegalArgumentException")]
def kNc (U : State) : Prop := ∀ q ∈ kNcl, va_Nc q.1 q.2 U
theorem kNc.at {U : State} (h : kNc U) (k : Nat) {q : String × String} (hq : kNcl[k]? = some q) : va_Nc q.1 q.2 U := h q (List.mem_of_getElem? hq)
/-- what a call of the law's own methods stands on -/
def kWPc (D : va_G) (T : Nat → ClassId) (av : List Value) (w : va_W) (sz : Nat) : Array Value → State → Prop := va_Pc av (fun U => U.heap.size = sz ∧ va_P D vwCl w U.heap ∧ kCx D T U ∧ va_D (fun _ => True) w ∧ kXX U ∧ kZ (va_A w sz) U U.heap ∧ kE T (va_A w sz) U U.heap ∧ kNc U)
/-- a contract of a method of the law: at most c9 new cells of s9 slots in all -/
def kWN (l : Launch) (D : va_G) (T : Nat → ClassId) (y : MethodName) (ws : List Cond) (rm : Room) (c9 s9 : Nat) (av : List Value) (w : va_W) (o : Option Value) (w' : va_W) : Prop := ∀ sz, Met l y ws rm (kWPc D T av w sz) (kQc D o w w' sz) c9 s9 (va_A w sz)
theorem kWPc.blind {D : va_G} {T : Nat → ClassId} {av : List Value} {w : va_W} {sz : Nat} : FrameBlind (kWPc D T av w sz) := by
  intro a U g mk h
  obtain ⟨h0, h1, h2, h3, h4, h5, h6, h7, h8⟩ := h
  exact ⟨h0, h1, h2, kCx.same rfl h3, h4, kXX.same rfl h5, kZ.moved (u := U) (U := U.calling g mk a) (Vm.Alike.refl U.vm) h6, kE.moved (u := U) (U := U.calling g mk a) (Vm.Alike.refl U.vm) h7, fun q hq => va_Nc.moved (u := U) (U := U.calling g mk a) (Vm.Alike.refl U.vm) (h8 q hq)⟩
theorem kWN.perm {l : Launch} {D : va_G} {T : Nat → ClassId} {y : MethodName} {ws : List Cond} {rm : Room} {c9 s9 : Nat} {av : List Value} {w w' wr w1 w1' : va_W} {o : Option Value} (h : kWN l D T y ws rm c9 s9 av w o w') (p1 : w1.Perm (w ++ wr)) (p2 : (w' ++ wr).Perm w1') : kWN l D T y ws rm c9 s9 av w1 o w1' := by
  intro sz p e ha hc hk s m args below hf happ hP hK
  obtain ⟨hav, hsz, hPw, hC, hD, hXX, hZ, hE, hNc⟩ := hP
  have hP2 := va_P_perm p1 hPw
  have hD2 := va_D_perm p1 hD
  obtain ⟨hl1, hl2⟩ := kLeft hP2 hD2
  have hsub0 : ∀ q, va_A w sz q → va_A w1 sz q := va_A_sub p1
  obtain ⟨n, oc, h1, h2, h3, ⟨hq1, hq2, hq3, hq4⟩, L, hF, hL⟩ := h sz p e ha hc hk s m args below hf happ ⟨hav, hsz, hl1, hC, hl2, hXX, hZ.narrow hsub0, hE.narrow hsub0, hNc⟩ hK
  subst hsz
  have hsub : ∀ q, va_A w s.heap.size q → va_A w1 s.heap.size q := va_A_sub p1
  obtain ⟨j1, j2⟩ := kJoin (A := va_A w1 s.heap.size) hP2 (va_D_perm p1 hD.self) hq4.2 hsub hq2 hq3
  exact ⟨n, oc, h1, h2, h3, ⟨hq1, va_P_perm p2 j1, va_D_perm p2 j2, hq4.1, fun q a b => hq4.2 q a (fun c => b (hsub q c))⟩, L, hF, fun q hq => hsub _ (hL q hq)⟩
/-- a method with a table of its own -/
theorem kWN.ofW {l : Launch} {D : va_G} {T : Nat → ClassId} {y : MethodName} {ws ws' : List Cond} {rm : Room} {c9 s9 : Nat} {av : List Value} {w w' : va_W} {o : Option Value} {cc : ByteArray} {maxL : Nat} {ret : Option FieldType} {hh : List (Nat × Nat × Nat × Nat)}
    (hy : plainName y.cls = true) (hw : ws = Cond.codeWith y cc maxL ret hh :: ws') (hlen : (lg_sl av).length ≤ maxL)
    (body : ∀ (p : Program) (e : Env) (s : State) (m : MethodId) (below : List Frame) (meth : Method) (c : Code) (A : Nat → Prop) (Q : State → Prop) (ls : Array Slot), p.tables.exec = Jvm.exec → c.code = cc → c.maxLocals = maxL → s.vm.findClass y.cls = some m.cls → meth.sig.returnType = ret → meth.locks = false → c.exceptionTable.toList = tableOf hh → (∀ w ∈ ws, w.before av.toArray s = true) → kCx D T s → va_P D vwCl w s.heap → va_D A w → va_S A s.heap s.heap [] → (∀ q, s.heap.size ≤ q → A q) → lv_has ls maxL (lv_args 0 av) → kXX s → kZ A s s.heap → kE T A s s.heap → kNc s →
      (∀ (H : Heap) (locs : List Loc) (ls : Array Slot) (pc cells slots : Nat) (st : List Value), cells ≤ c9 → slots ≤ s9 → (∀ (Qc : Array Value → State → Outcome → State → Prop) (free : Addr → Prop), (∀ t : State, t.heap = H → s.WarmedH t.vm → Qc av.toArray s (.returned o) t) → (∀ q ∈ locs, free q.base) → W p l e rm s m av.toArray below meth c H locs c9 s9 (MQ below Qc av.toArray s c9 s9 free) (F0 m pc ls st)) → va_P D vwCl w' H → va_D A w' → va_S A s.heap H locs → W p l e rm s m av.toArray below meth c H locs cells slots Q (F0 m pc ls st)) →
      W p l e rm s m av.toArray below meth c s.heap [] 0 0 Q (F0 m 0 ls [])) : kWN l D T y ws rm c9 s9 av w o w' := by
  intro sz
  refine va_MetW (cc := cc) (maxL := maxL) (ret := ret) hy hw ?_
  intro p e s m args below meth c s₁ B hml hv
  obtain ⟨rfl, hsz, hP, hC, hD0, hXX, hZ, hE, hNc⟩ := hv
  subst hsz
  have hts := atoms_spec (ws := ws) B.pre
  have htab := vx_table (x := y) B (hts (.codeWith y cc maxL ret hh) (by rw [hw]; exact List.mem_cons_self))
  have hown : s.vm.findClass y.cls = some m.cls := findClass_of_methodNamed B.named
  have hl := lv_entry av (n := maxL) hlen
  rw [lg_entry_eq]
  refine body p e s m below meth c (va_A w s.heap.size) _ _ B.exec B.bytes hml hown B.returns B.notSynchronized htab hts hC hP hD0.self va_S.rf (fun q h => Or.inr h) hl hXX hZ hE hNc ?_
  intro H locs ls pc cells slots st hc1 hs1 hR hP1 hD1 hS1
  refine W.widen hc1 hs1 ?_
  exact hR _ _ (fun t ht hW => ⟨rfl, by rw [ht]; exact hP1, hD1, hS1.F ht⟩) hS1.2.2
/-- a method without one -/
theorem kWN.ofP {l : Launch} {D : va_G} {T : Nat → ClassId} {y : MethodName} {ws ws' : List Cond} {rm : Room} {c9 s9 : Nat} {av : List Value} {w w' : va_W} {o : Option Value} {cc : ByteArray} {maxL : Nat} {ret : Option FieldType}
    (hy : plainName y.cls = true) (hw : ws = Cond.code y cc maxL ret :: ws') (hlen : (lg_sl av).length ≤ maxL)
    (body : ∀ (p : Program) (e : Env) (s : State) (m : MethodId) (below : List Frame) (meth : Method) (c : Code) (A : Nat → Prop) (Q : State → Prop) (ls : Array Slot), p.tables.exec = Jvm.exec → c.code = cc → c.maxLocals = maxL → s.vm.findClass y.cls = some m.cls → meth.sig.returnType = ret → meth.locks = false → (∀ w ∈ ws, w.before av.toArray s = true) → kCx D T s → va_P D vwCl w s.heap → va_D A w → va_S A s.heap s.heap [] → (∀ q, s.heap.size ≤ q → A q) → lv_has ls maxL (lv_args 0 av) → kXX s → kZ A s s.heap → kE T A s s.heap → kNc s →
      (∀ (H : Heap) (locs : List Loc) (ls : Array Slot) (pc cells slots : Nat) (st : List Value), cells ≤ c9 → slots ≤ s9 → (∀ (Qc : Array Value → State → Outcome → State → Prop) (free : Addr → Prop), (∀ t : State, t.heap = H → s.WarmedH t.vm → Qc av.toArray s (.returned o) t) → (∀ q ∈ locs, free q.base) → W p l e rm s m av.toArray below meth c H locs c9 s9 (MQ below Qc av.toArray s c9 s9 free) (F0 m pc ls st)) → va_P D vwCl w' H → va_D A w' → va_S A s.heap H locs → W p l e rm s m av.toArray below meth c H locs cells slots Q (F0 m pc ls st)) →
      W p l e rm s m av.toArray below meth c s.heap [] 0 0 Q (F0 m 0 ls [])) : kWN l D T y ws rm c9 s9 av w o w' := by
  intro sz
  refine Met.ofW (cc := cc) (maxL := maxL) (ret := ret) hy hw ?_
  intro p e s m args below meth c s₁ B hml hv
  obtain ⟨rfl, hsz, hP, hC, hD0, hXX, hZ, hE, hNc⟩ := hv
  subst hsz
  have hts := atoms_spec (ws := ws) B.pre
  have hown : s.vm.findClass y.cls = some m.cls := findClass_of_methodNamed B.named
  have hl := lv_entry av (n := maxL) hlen
  rw [lg_entry_eq]
  refine body p e s m below meth c (va_A w s.heap.size) _ _ B.exec B.bytes hml hown B.returns B.notSynchronized hts hC hP hD0.self va_S.rf (fun q h => Or.inr h) hl hXX hZ hE hNc ?_
  intro H locs ls pc cells slots st hc1 hs1 hR hP1 hD1 hS1
  refine W.widen hc1 hs1 ?_
  exact hR _ _ (fun t ht hW => ⟨rfl, by rw [ht]; exact hP1, hD1, hS1.F ht⟩) hS1.2.2
section WCALL
variable {p : Program} {l : Launch} {e : Env} {R : Room} {s : State} {m : MethodId} {args : Array Value} {below : List Frame} {meth : Method} {c : Code} {H : Heap} {locs : List Loc} {cells slots : Nat} {Q : State → Prop} {D : va_G} {T : Nat → ClassId} {mc ms : Nat}
theorem kwCore {w wr w' : va_W} {o : Option Value} {A : Nat → Prop} {pc : Nat} {ls : Array Slot} {st0 rest : List Value} {a : Array Value}
    (hr : va_Run p l e R s m args below meth c H locs cells slots mc ms (F0 m pc ls st0) rest (kQc D o w w' H.size a) (va_A w H.size)) (hP : va_P D vwCl (w ++ wr) H) (hD : va_D A (w ++ wr)) (hS : va_S A s.heap H locs) (hA : ∀ q, s.heap.size ≤ q → A q)
    (kk : ∀ (H1 : Heap) (locs1 : List Loc), va_P D vwCl (w' ++ wr) H1 → va_D A (w' ++ wr) → va_S A s.heap H1 locs1 → W p l e R s m args below meth c H1 locs1 (cells + mc) (slots + ms) Q (F0 m (pc + 3) ls (o.toList ++ rest))) : W p l e R s m args below meth c H locs cells slots Q (F0 m pc ls st0) := by
  intro U hU X
  obtain ⟨v, st₀, t, T', L, h0, X', hL, e1, e2, ⟨hv, hp, hd, hz, hk⟩, st⟩ := hr U hU X
  cases hv
  rw [h0] at hz hk
  have hF := kFree hD hS hA
  obtain ⟨hP1, hD1⟩ := kJoin hP hD hk hF hp hd
  obtain ⟨t2, a1, b1⟩ := kk T'.heap (locs ++ L) (by rw [e1]; exact hP1) hD1
    ⟨Nat.le_trans hS.1 (by rw [e1]; exact hz), fun q h1 h2 => by rw [e1, hk q (Nat.lt_of_lt_of_le h1 hS.1) (fun z => h2 (hF q z))]; exact hS.2.1 q h1 h2, fun q hq => by
      rcases List.mem_append.mp hq with h | h
      · exact hS.2.2 q h
      · exact hF _ (hL q h)⟩ T' rfl X'
  exact ⟨t2, st t2 a1, b1⟩
theorem kwUse {A : Nat → Prop} {w wr : va_W} {av : List Value} (hC : kCx D T s) (hP : va_P D vwCl (w ++ wr) H) (hD : va_D A (w ++ wr)) (hS : va_S A s.heap H locs) (hA : ∀ q, s.heap.size ≤ q → A q) (hXX : kXX s) (hZ : kZ A s s.heap) (hE : kE T A s s.heap) (hNc : kNc s) : ∀ U : State, U.heap = H → s.WarmedH U.vm → kWPc D T av w H.size av.toArray U := by
  intro U hU hW
  obtain ⟨h1, h2⟩ := kLeft hP hD
  exact ⟨rfl, by rw [hU], by rw [hU]; exact h1, hC.warm hW, h2, hXX.warm hW, by rw [hU]; exact ((hZ.kept hS.2.1).narrow (kFree hD hS hA)).moved hW.alike, by rw [hU]; exact ((hE.kept hS.2.1).narrow (kFree hD hS hA)).moved hW.alike, fun q hq => va_Nc.moved hW.alike (hNc q hq)⟩
variable {y : MethodName} {bytes cc : ByteArray} {maxL nL n index : Nat} {ret : Option FieldType} {ws : List Cond} {rm : Room} {Ts : List Cond} {own : String} {As rest st : List Value} {w wr w' : va_W} {o : Option Value} {A : Nat → Prop} {pc : Nat} {ls : Array Slot} {hh : List (Nat × Nat × Nat × Nat)}
/-- a static call of a method of the law that has a table -/
theorem kWT (S : CallFix p m c cc nL s args Ts own) (hM : kWN l D T y ws rm mc ms As w o w') (cw : vx_CSW R s args own index y bytes maxL ret hh ws rm mc ms n) (hC : kCx D T s) (hXX : kXX s) (hZ : kZ A s s.heap) (hE : kE T A s s.heap) (hNc : kNc s) (hP : va_P D vwCl (w ++ wr) H) (hD : va_D A (w ++ wr)) (hS : va_S A s.heap H locs) (hA : ∀ q, s.heap.size ≤ q → A q)
    (hn : As.length = n) (hsize : ls.size = nL) (hst : st = As.reverse ++ rest) (hW : (rest.map fun v => v.category).sum ≤ 8) (hdg : decode cc pc = .ok (.invokestatic index, 3)) (hf : cells + mc ≤ R.cells ∧ slots + ms ≤ R.slots)
    (kk : ∀ (H1 : Heap) (locs1 : List Loc), va_P D vwCl (w' ++ wr) H1 → va_D A (w' ++ wr) → va_S A s.heap H1 locs1 → W p l e R s m args below meth c H1 locs1 (cells + mc) (slots + ms) Q (F0 m (pc + 3) ls (o.toList ++ rest))) : W p l e R s m args below meth c H locs cells slots Q (F0 m pc ls st) := by
  subst hst
  exact kwCore (vx_runSW S (hM H.size) cw ⟨kWPc.blind, kwUse hC hP hD hS hA hXX hZ hE hNc⟩ rfl hn hsize rfl (lv_room hW) hdg hf) hP hD hS hA kk
/-- a static call of a method of the law that has none -/
theorem kWP (S : CallFix p m c cc nL s args Ts own) (hM : kWN l D T y ws rm mc ms As w o w') (cw : CallB R s args own index y bytes maxL ret ws rm mc ms n ∧ (Cond.static y).before args s = true) (hC : kCx D T s) (hXX : kXX s) (hZ : kZ A s s.heap) (hE : kE T A s s.heap) (hNc : kNc s) (hP : va_P D vwCl (w ++ wr) H) (hD : va_D A (w ++ wr)) (hS : va_S A s.heap H locs) (hA : ∀ q, s.heap.size ≤ q → A q)
    (hn : As.length = n) (hsize : ls.size = nL) (hst : st = As.reverse ++ rest) (hW : (rest.map fun v => v.category).sum ≤ 8) (hdg : decode cc pc = .ok (.invokestatic index, 3)) (hf : cells + mc ≤ R.cells ∧ slots + ms ≤ R.slots)
    (kk : ∀ (H1 : Heap) (locs1 : List Loc), va_P D vwCl (w' ++ wr) H1 → va_D A (w' ++ wr) → va_S A s.heap H1 locs1 → W p l e R s m args below meth c H1 locs1 (cells + mc) (slots + ms) Q (F0 m (pc + 3) ls (o.toList ++ rest))) : W p l e R s m args below meth c H locs cells slots Q (F0 m pc ls st) := by
  subst hst
  exact kwCore (va_runS S (hM H.size) cw ⟨kWPc.blind, kwUse hC hP hD hS hA hXX hZ hE hNc⟩ rfl hn hsize rfl (lv_room hW) hdg hf) hP hD hS hA kk
end WCALL
/-- one object, and nothing beside it -/
theorem wP_nil {D : va_G} {w : va_W} {H : Heap} : va_P D vwCl (w ++ []) H = va_P D vwCl w H := by rw [List.append_nil]
theorem wD_nil {A : Nat → Prop} {w : va_W} : va_D A (w ++ []) = va_D A w := by rw [List.append_nil]
def upN (x : Int32) (n : Nat) : Nat := x.toBitVec.toNat % 2 ^ 31 % n
theorem upN_lt (x : Int32) {n : Nat} (h : 0 < n) : upN x n < n := Nat.mod_lt _ h
theorem up_eq (x : Int32) {n : Nat} (h : 0 < n) (h9 : n < 2 ^ 31) : (x &&& 2147483647) - (x &&& 2147483647) / nI n * nI n = nI (upN x n) := by
  rw [pk_and x (m := 2147483647) 31 (by decide)]
  exact pk_rem (Nat.mod_lt _ (by decide)) h h9
end KWN
