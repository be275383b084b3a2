section KEN
/-- the three measures: statics that hold three objects -/
def kE (T : Nat → ClassId) (A : Nat → Prop) (U : State) (H : Heap) : Prop := va_Z "ParrotCounts$Measure" "SURE" "LParrotCounts$Measure;" (.ref (T 4)) A U H ∧ va_Z "ParrotCounts$Measure" "ESTIMATED" "LParrotCounts$Measure;" (.ref (T 5)) A U H ∧ ¬ (some (T 4) = some (T 5)) ∧ ¬ (some (T 4) = some (T 6)) ∧ ¬ (some (T 5) = some (T 6)) ∧ va_Z "ParrotCounts$Measure" "TRUE" "LParrotCounts$Measure;" (.ref (T 6)) A U H
theorem kE.moved {T : Nat → ClassId} {A : Nat → Prop} {u U : State} {H : Heap} (hvm : u.vm.Alike U.vm) (h : kE T A u H) : kE T A U H := ⟨va_Z.moved hvm h.1, va_Z.moved hvm h.2.1, h.2.2.1, h.2.2.2.1, h.2.2.2.2.1, va_Z.moved hvm h.2.2.2.2.2⟩
theorem kE.kept {T : Nat → ClassId} {A : Nat → Prop} {U : State} {H H1 : Heap} (h : kE T A U H) (hq : ∀ a : Nat, a < H.size → ¬ A a → H1[a]? = H[a]?) : kE T A U H1 := ⟨va_Z.kept h.1 hq, va_Z.kept h.2.1 hq, h.2.2.1, h.2.2.2.1, h.2.2.2.2.1, va_Z.kept h.2.2.2.2.2 hq⟩
theorem kE.narrow {T : Nat → ClassId} {A B : Nat → Prop} {U : State} {H : Heap} (h : kE T A U H) (hAB : ∀ q, B q → A q) : kE T B U H := ⟨va_Z.narrow h.1 hAB, va_Z.narrow h.2.1 hAB, h.2.2.1, h.2.2.2.1, h.2.2.2.2.1, va_Z.narrow h.2.2.2.2.2 hAB⟩
def kEPc (D : va_G) (T : Nat → ClassId) (av : List Value) (w : va_W) (sz : Nat) : Array Value → State → Prop := va_Pc av (fun U => U.heap.size = sz ∧ va_P D vwCl w U.heap ∧ kCx D T U ∧ va_D (fun _ => True) w ∧ kE T (va_A w sz) U U.heap)
def kEM (l : Launch) (D : va_G) (T : Nat → ClassId) (y : MethodName) (ws : List Cond) (rm : Room) (av : List Value) (w : va_W) (o : Option Value) (w' : va_W) : Prop := ∀ sz, Met l y ws rm (kEPc D T av w sz) (kQc D o w w' sz) 0 0 (va_A w sz)
theorem kEPc.blind {D : va_G} {T : Nat → ClassId} {av : List Value} {w : va_W} {sz : Nat} : FrameBlind (kEPc D T av w sz) := by
  intro a U g mk h
  obtain ⟨h0, h1, h2, h3, h4, h5⟩ := h
  exact ⟨h0, h1, h2, kCx.same rfl h3, h4, kE.moved (u := U) (U := U.calling g mk a) (Vm.Alike.refl U.vm) h5⟩
theorem kEM.of {l : Launch} {D : va_G} {T : Nat → ClassId} {y : MethodName} {ws ws' : List Cond} {rm : Room} {av : List Value} {w w' : va_W} {o : Option Value} {cc : ByteArray} {maxL : Nat} {ret : Option FieldType}
    (hy : plainName y.cls = true) (hw : ws = Cond.code y cc maxL ret :: ws') (hlen : (lg_sl av).length ≤ maxL)
    (body : ∀ (p : Program) (e : Env) (s : State) (m : MethodId) (below : List Frame) (meth : Method) (c : Code) (A : Nat → Prop) (Q : State → Prop) (ls : Array Slot), p.tables.exec = Jvm.exec → c.code = cc → c.maxLocals = maxL → s.vm.findClass y.cls = some m.cls → meth.sig.returnType = ret → meth.locks = false → (∀ w ∈ ws, w.before av.toArray s = true) → kCx D T s → va_P D vwCl w s.heap → va_D A w → va_S A s.heap s.heap [] → (∀ q, s.heap.size ≤ q → A q) → lv_has ls maxL (lv_args 0 av) →
      (∀ (H : Heap) (locs : List Loc) (ls : Array Slot) (pc : Nat) (st : List Value), (∀ (Qc : Array Value → State → Outcome → State → Prop) (free : Addr → Prop), (∀ t : State, t.heap = H → s.WarmedH t.vm → Qc av.toArray s (.returned o) t) → (∀ q ∈ locs, free q.base) → W p l e rm s m av.toArray below meth c H locs 0 0 (MQ below Qc av.toArray s 0 0 free) (F0 m pc ls st)) → va_P D vwCl w' H → va_D A w' → va_S A s.heap H locs → W p l e rm s m av.toArray below meth c H locs 0 0 Q (F0 m pc ls st)) →
      kE T A s s.heap → W p l e rm s m av.toArray below meth c s.heap [] 0 0 Q (F0 m 0 ls [])) : kEM l D T y ws rm av w o w' := by
  intro sz
  refine Met.ofW (cc := cc) (maxL := maxL) (ret := ret) hy hw ?_
  intro p e s m args below meth c s₁ B hml hv
  obtain ⟨rfl, hsz, hP, hC, hD0, hE⟩ := hv
  subst hsz
  have hts := atoms_spec (ws := ws) B.pre
  have hown : s.vm.findClass y.cls = some m.cls := findClass_of_methodNamed B.named
  have hl := lv_entry av (n := maxL) hlen
  rw [lg_entry_eq]
  refine body p e s m below meth c (va_A w s.heap.size) _ _ B.exec B.bytes hml hown B.returns B.notSynchronized hts hC hP hD0.self va_S.rf (fun q h => Or.inr h) hl ?_ hE
  intro H locs ls pc st hR hP1 hD1 hS1
  exact hR _ _ (fun t ht hW => ⟨rfl, by rw [ht]; exact hP1, hD1, hS1.F ht⟩) hS1.2.2
section ECALL
variable {p : Program} {l : Launch} {e : Env} {R : Room} {s : State} {m : MethodId} {args : Array Value} {below : List Frame} {meth : Method} {c : Code} {H : Heap} {locs : List Loc} {cells slots : Nat} {Q : State → Prop} {D : va_G} {T : Nat → ClassId}
variable {y : MethodName} {bytes cc : ByteArray} {maxL nL n index : Nat} {ret : Option FieldType} {ws : List Cond} {rm : Room} {Ts : List Cond} {own C : String} {b ci : Nat} {As rest st : List Value} {fs : List Value} {TT : u_T} {NN : Nat} {w wr w' : va_W} {o : Option Value} {A : Nat → Prop} {pc : Nat} {ls : Array Slot}
theorem kEUse {av : List Value} (hC : kCx D T s) (hP : va_P D vwCl (w ++ wr) H) (hD : va_D A (w ++ wr)) (hS : va_S A s.heap H locs) (hA : ∀ q, s.heap.size ≤ q → A q) (hE : kE T A s s.heap) : ∀ U : State, U.heap = H → s.WarmedH U.vm → kEPc D T av w H.size av.toArray U := by
  intro U hU hW
  obtain ⟨h1, h2⟩ := kLeft hP hD
  exact ⟨rfl, by rw [hU], by rw [hU]; exact h1, hC.warm hW, h2, by rw [hU]; exact ((hE.kept hS.2.1).narrow (kFree hD hS hA)).moved hW.alike⟩
theorem kEV (S : CallFix p m c cc nL s args Ts own) (hM : kEM l D T y ws rm (.ref b :: As) w o w') (cw : CallW R s args own C index y bytes maxL ret ws rm 0 0 n) (hC : kCx D T s) (hE : kE T A s s.heap) (hP : va_P D vwCl (w ++ wr) H) (hD : va_D A (w ++ wr)) (hS : va_S A s.heap H locs) (hA : ∀ q, s.heap.size ≤ q → A q) (hc : vwCl[ci]? = some (C, TT, NN)) (he : (w ++ wr)[0]? = some (b, .inr (ci, fs)))
    (hn : As.length = n) (hsize : ls.size = nL) (hst : st = As.reverse ++ .ref b :: rest) (hW : (rest.map fun v => v.category).sum ≤ 8) (hdg : decode cc pc = .ok (.invokevirtual index, 3)) (hf : cells ≤ R.cells ∧ slots ≤ R.slots)
    (kk : ∀ (H1 : Heap) (locs1 : List Loc), va_P D vwCl (w' ++ wr) H1 → va_D A (w' ++ wr) → va_S A s.heap H1 locs1 → W p l e R s m args below meth c H1 locs1 cells slots Q (F0 m (pc + 3) ls (o.toList ++ rest))) : W p l e R s m args below meth c H locs cells slots Q (F0 m pc ls st) := by
  subst hst
  exact kCore (va_runV S (hM H.size) cw ⟨kEPc.blind, kRecv hC hP hc he, kEUse hC hP hD hS hA hE⟩ rfl hn hsize rfl (lv_room hW) hdg hf) hP hD hS hA kk
end ECALL
end KEN
