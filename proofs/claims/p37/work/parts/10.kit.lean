/-! my own kit: one form of contract, one form of call -/
section KIT
abbrev vwCl : List vw_C := [(RX0, TX0, 6), (RX1, TX1, 3), (RX2, TX2, 3), (RX4, TX4, 5), (RX5, TX5, 4), (RX6, TX6, 5), (RX7, TX7, 4), (RX8, TX8, 3)]
/-- the kinds of row by their places: int, char, long, State -/
abbrev kT (T : Nat → ClassId) : List (ClassId × FieldType) := [(T 0, .int), (T 1, .char), (T 2, .int), (T 3, .object "ParrotCounts$State")]
def kNwL : List (String × Nat × MethodName) := [(RX8, 25, yX6_init), (RX8, 9, yX7_init), (RX0, 37, yX8_copyRow), (RX0, 67, yX8_countersIn), (RX0, 71, yX8_parrotAt), (RX1, 17, yX7_init), (RX2, 11, yX0_init), (RX2, 20, yX5_init), (RX2, 47, yX8_copyRow), (RX2, 60, yX8_sumOf), (RX4, 28, yX8_isDigit), (RX4, 36, yX8_isName), (RX5, 31, yX8_copyRow), (RX5, 45, yX8_countersIn), (RX5, 49, yX8_parrotAt), (RX6, 17, yX4_init), (RX6, 48, yX8_isDigit), (RX6, 55, yX8_isName), (RX7, 9, yX2_init)]
def kCx (D : va_G) (T : Nat → ClassId) (U : State) : Prop := va_K D vwCl (kT T) U ∧ (∀ q ∈ kNwL, va_Nw (.methodLinkNest q.1 q.2.1 q.2.2 RX8) U) ∧ va_AO "ParrotCounts$State" U
theorem kCx.warm {D : va_G} {T : Nat → ClassId} {s U : State} (hW : s.WarmedH U.vm) (h : kCx D T s) : kCx D T U := ⟨va_K.moved hW.alike h.1, fun q hq => va_Nw.warmM hW (h.2.1 q hq), va_AO.moved hW.alike h.2.2⟩
theorem kCx.same {D : va_G} {T : Nat → ClassId} {s U : State} (hv : s.vm = U.vm) (h : kCx D T s) : kCx D T U := ⟨va_K.moved (by rw [hv]; exact Vm.Alike.refl U.vm) h.1, fun q hq => va_Nw.same rfl hv (h.2.1 q hq), va_AO.moved (by rw [hv]; exact Vm.Alike.refl U.vm) h.2.2⟩
theorem kCx.nw {D : va_G} {T : Nat → ClassId} {s : State} (h : kCx D T s) (k : Nat) {q : String × Nat × MethodName} (hq : kNwL[k]? = some q) : va_Nw (.methodLinkNest q.1 q.2.1 q.2.2 RX8) s := h.2.1 q (List.mem_of_getElem? hq)
def kPc (D : va_G) (T : Nat → ClassId) (av : List Value) (w : va_W) (sz : Nat) : Array Value → State → Prop := va_Pc av (fun U => U.heap.size = sz ∧ va_P D vwCl w U.heap ∧ kCx D T U ∧ va_D (fun _ => True) w)
def kQc (D : va_G) (o : Option Value) (w w' : va_W) (sz : Nat) : Array Value → State → Outcome → State → Prop := fun _ st oc t => oc = .returned o ∧ va_P D vwCl w' t.heap ∧ va_D (va_A w sz) w' ∧ va_F (va_A w sz) st t
/-- a contract: from a heap that holds the cells w, with these arguments, the method returns o, and the heap holds w' -/
def kM (l : Launch) (D : va_G) (T : Nat → ClassId) (y : MethodName) (ws : List Cond) (rm : Room) (av : List Value) (w : va_W) (o : Option Value) (w' : va_W) : Prop := ∀ sz, Met l y ws rm (kPc D T av w sz) (kQc D o w w' sz) 0 0 (va_A w sz)
theorem kPc.blind {D : va_G} {T : Nat → ClassId} {av : List Value} {w : va_W} {sz : Nat} : FrameBlind (kPc D T av w sz) := by
  intro a U g mk h
  obtain ⟨h0, h1, h2, h3, h4⟩ := h
  exact ⟨h0, h1, h2, kCx.same rfl h3, h4⟩
theorem kM.of {l : Launch} {D : va_G} {T : Nat → ClassId} {y : MethodName} {ws ws' : List Cond} {rm : Room} {av : List Value} {w w' : va_W} {o : Option Value} {cc : ByteArray} {maxL : Nat} {ret : Option FieldType}
    (hy : plainName y.cls = true) (hw : ws = Cond.code y cc maxL ret :: ws') (hlen : (lg_sl av).length ≤ maxL)
    (body : ∀ (p : Program) (e : Env) (s : State) (m : MethodId) (below : List Frame) (meth : Method) (c : Code) (A : Nat → Prop) (Q : State → Prop) (ls : Array Slot), p.tables.exec = Jvm.exec → c.code = cc → c.maxLocals = maxL → s.vm.findClass y.cls = some m.cls → meth.sig.returnType = ret → meth.locks = false → (∀ w ∈ ws, w.before av.toArray s = true) → kCx D T s → va_P D vwCl w s.heap → va_D A w → va_S A s.heap s.heap [] → (∀ q, s.heap.size ≤ q → A q) → lv_has ls maxL (lv_args 0 av) →
      (∀ (H : Heap) (locs : List Loc) (ls : Array Slot) (pc : Nat) (st : List Value), (∀ (Qc : Array Value → State → Outcome → State → Prop) (free : Addr → Prop), (∀ t : State, t.heap = H → s.WarmedH t.vm → Qc av.toArray s (.returned o) t) → (∀ q ∈ locs, free q.base) → W p l e rm s m av.toArray below meth c H locs 0 0 (MQ below Qc av.toArray s 0 0 free) (F0 m pc ls st)) → va_P D vwCl w' H → va_D A w' → va_S A s.heap H locs → W p l e rm s m av.toArray below meth c H locs 0 0 Q (F0 m pc ls st)) →
      W p l e rm s m av.toArray below meth c s.heap [] 0 0 Q (F0 m 0 ls [])) : kM l D T y ws rm av w o w' := by
  intro sz
  refine Met.ofW (cc := cc) (maxL := maxL) (ret := ret) hy hw ?_
  intro p e s m args below meth c s₁ B hml hv
  obtain ⟨rfl, hsz, hP, hC, hD0⟩ := hv
  subst hsz
  have hts := atoms_spec (ws := ws) B.pre
  have hown : s.vm.findClass y.cls = some m.cls := findClass_of_methodNamed B.named
  have hl := lv_entry av (n := maxL) hlen
  rw [lg_entry_eq]
  refine body p e s m below meth c (va_A w s.heap.size) _ _ B.exec B.bytes hml hown B.returns B.notSynchronized hts hC hP hD0.self va_S.rf (fun q h => Or.inr h) hl ?_
  intro H locs ls pc st hR hP1 hD1 hS1
  exact hR _ _ (fun t ht hW => ⟨rfl, by rw [ht]; exact hP1, hD1, hS1.F ht⟩) hS1.2.2
section CALL
variable {p : Program} {l : Launch} {e : Env} {R : Room} {s : State} {m : MethodId} {args : Array Value} {below : List Frame} {meth : Method} {c : Code} {H : Heap} {locs : List Loc} {cells slots : Nat} {Q : State → Prop} {D : va_G} {T : Nat → ClassId}
theorem kJoin {A : Nat → Prop} {w wr w' : va_W} {H H1 : Heap} (hP : va_P D vwCl (w ++ wr) H) (hD : va_D A (w ++ wr)) (hk : ∀ q : Nat, q < H.size → ¬ va_A w H.size q → H1[q]? = H[q]?) (hF : ∀ q, va_A w H.size q → A q) (hP1 : va_P D vwCl w' H1) (hD1 : va_D (va_A w H.size) w') : va_P D vwCl (w' ++ wr) H1 ∧ va_D A (w' ++ wr) := by
  have at' : ∀ (k : Nat) (q : Nat × va_E), wr[k]? = some q → (w ++ wr)[w.length + k]? = some q := by
    intro k q hq
    rw [List.getElem?_append_right (by omega)]
    rw [Nat.add_sub_cancel_left]
    exact hq
  have at1 : ∀ (k : Nat) (q : Nat × va_E), w[k]? = some q → (w ++ wr)[k]? = some q ∧ k < w.length := by
    intro k q hq
    have hl := (List.getElem?_eq_some_iff.mp hq).1
    exact ⟨by rw [List.getElem?_append_left hl]; exact hq, hl⟩
  have apart : ∀ (k : Nat) (q : Nat × va_E), wr[k]? = some q → q.1 < H.size ∧ ¬ va_A w H.size q.1 := by
    intro k q hq
    have h2 := at' k q hq
    have hl := (hP _ q h2).lt
    refine ⟨hl, fun h => ?_⟩
    rcases h with ⟨k2, e, h⟩ | h
    · obtain ⟨h4, h5⟩ := at1 k2 (q.1, e) h
      have hij := hD.1 _ _ q (q.1, e) h2 h4 rfl
      omega
    · omega
  have hDr : va_D A wr := ⟨fun i j x y hi hj hxy => by
    have := hD.1 _ _ x y (at' i x hi) (at' j y hj) hxy
    omega, fun k q hk => hD.2 _ q (at' k q hk)⟩
  refine ⟨va_P.app hP1 (fun k q hq => ?_), va_D.app (hD1.weaken (fun k q _ h => hF q.1 h)) hDr (fun i j x y hx hy hxy => ?_)⟩
  · obtain ⟨g1, g2⟩ := apart k q hq
    exact (hP _ q (at' k q hq)).kept (hk q.1 g1 g2)
  · exact (apart j y hy).2 (by rw [← hxy]; exact hD1.2 i x hx)
theorem kFree {A : Nat → Prop} {w wr : va_W} {H0 H : Heap} {locs : List Loc} (hD : va_D A (w ++ wr)) (hS : va_S A H0 H locs) (hA : ∀ q, H0.size ≤ q → A q) : ∀ q, va_A w H.size q → A q := by
  intro q h
  rcases h with ⟨k, e, h⟩ | h
  · have hl := (List.getElem?_eq_some_iff.mp h).1
    exact hD.2 k (q, e) (by rw [List.getElem?_append_left hl]; exact h)
  · exact hA q (Nat.le_trans hS.1 h)
theorem kLeft {A : Nat → Prop} {w wr : va_W} (hP : va_P D vwCl (w ++ wr) H) (hD : va_D A (w ++ wr)) : va_P D vwCl w H ∧ va_D (fun _ => True) w := by
  have at1 : ∀ (k : Nat) (q : Nat × va_E), w[k]? = some q → (w ++ wr)[k]? = some q := by
    intro k q hq
    have hl := (List.getElem?_eq_some_iff.mp hq).1
    rw [List.getElem?_append_left hl]; exact hq
  exact ⟨fun k q hq => hP k q (at1 k q hq), fun i j x y hi hj hxy => hD.1 i j x y (at1 i x hi) (at1 j y hj) hxy, fun _ _ _ => trivial⟩
theorem kCore {w wr w' : va_W} {o : Option Value} {A : Nat → Prop} {pc : Nat} {ls : Array Slot} {st0 rest : List Value} {a : Array Value}
    (hr : va_Run p l e R s m args below meth c H locs cells slots 0 0 (F0 m pc ls st0) rest (kQc D o w w' H.size a) (va_A w H.size)) (hP : va_P D vwCl (w ++ wr) H) (hD : va_D A (w ++ wr)) (hS : va_S A s.heap H locs) (hA : ∀ q, s.heap.size ≤ q → A q)
    (kk : ∀ (H1 : Heap) (locs1 : List Loc), va_P D vwCl (w' ++ wr) H1 → va_D A (w' ++ wr) → va_S A s.heap H1 locs1 → W p l e R s m args below meth c H1 locs1 cells slots Q (F0 m (pc + 3) ls (o.toList ++ rest))) : W p l e R s m args below meth c H locs cells slots Q (F0 m pc ls st0) := by
  intro U hU X
  obtain ⟨v, st₀, t, T', L, h0, X', hL, e1, e2, ⟨hv, hp, hd, hz, hk⟩, st⟩ := hr U hU X
  cases hv
  rw [h0] at hz hk
  have hF := kFree hD hS hA
  obtain ⟨hP1, hD1⟩ := kJoin hP hD hk hF hp hd
  obtain ⟨t2, a1, b1⟩ := kk T'.heap (locs ++ L) (by rw [e1]; exact hP1) hD1
    ⟨Nat.le_trans hS.1 (by rw [e1]; exact hz), fun q h1 h2 => by rw [e1, hk q (Nat.lt_of_lt_of_le h1 hS.1) (fun z => h2 (hF q z))]; exact hS.2.1 q h1 h2, fun q hq => by
      rcases List.mem_append.mp hq with h | h
      · exact hS.2.2 q h
      · exact hF _ (hL q h)⟩ T' rfl X'
  exact ⟨t2, st t2 a1, b1⟩
variable {y : MethodName} {bytes cc : ByteArray} {maxL nL n index : Nat} {ret : Option FieldType} {ws : List Cond} {rm : Room} {Ts : List Cond} {own C : String} {b ci : Nat} {As rest st : List Value} {fs : List Value} {TT : u_T} {NN : Nat} {w wr w' : va_W} {o : Option Value} {A : Nat → Prop} {pc : Nat} {ls : Array Slot}
theorem kUse {av : List Value} (hC : kCx D T s) (hP : va_P D vwCl (w ++ wr) H) (hD : va_D A (w ++ wr)) : ∀ U : State, U.heap = H → s.WarmedH U.vm → kPc D T av w H.size av.toArray U := by
  intro U hU hW
  obtain ⟨h1, h2⟩ := kLeft hP hD
  exact ⟨rfl, by rw [hU], by rw [hU]; exact h1, hC.warm hW, h2⟩
theorem kRecv (hC : kCx D T s) (hP : va_P D vwCl (w ++ wr) H) (hc : vwCl[ci]? = some (C, TT, NN)) (he : (w ++ wr)[0]? = some (b, .inr (ci, fs))) : ∃ cellB : Cell, H[b]? = some cellB ∧ cellB.vm.isStatics = false ∧ s.vm.findClass C = some cellB.cls := va_recv hC.1 hP hc he
theorem kV (S : CallFix p m c cc nL s args Ts own) (hM : kM l D T y ws rm (.ref b :: As) w o w') (cw : CallW R s args own C index y bytes maxL ret ws rm 0 0 n) (hC : kCx D T s) (hP : va_P D vwCl (w ++ wr) H) (hD : va_D A (w ++ wr)) (hS : va_S A s.heap H locs) (hA : ∀ q, s.heap.size ≤ q → A q) (hc : vwCl[ci]? = some (C, TT, NN)) (he : (w ++ wr)[0]? = some (b, .inr (ci, fs)))
    (hn : As.length = n) (hsize : ls.size = nL) (hst : st = As.reverse ++ .ref b :: rest) (hW : (rest.map fun v => v.category).sum ≤ 8) (hdg : decode cc pc = .ok (.invokevirtual index, 3)) (hf : cells ≤ R.cells ∧ slots ≤ R.slots)
    (kk : ∀ (H1 : Heap) (locs1 : List Loc), va_P D vwCl (w' ++ wr) H1 → va_D A (w' ++ wr) → va_S A s.heap H1 locs1 → W p l e R s m args below meth c H1 locs1 cells slots Q (F0 m (pc + 3) ls (o.toList ++ rest))) : W p l e R s m args below meth c H locs cells slots Q (F0 m pc ls st) := by
  subst hst
  exact kCore (va_runV S (hM H.size) cw ⟨kPc.blind, kRecv hC hP hc he, kUse hC hP hD⟩ rfl hn hsize rfl (lv_room hW) hdg hf) hP hD hS hA kk
theorem kS (S : CallFix p m c cc nL s args Ts own) (hM : kM l D T y ws rm As w o w') (cw : CallB R s args own index y bytes maxL ret ws rm 0 0 n ∧ (Cond.static y).before args s = true) (hC : kCx D T s) (hP : va_P D vwCl (w ++ wr) H) (hD : va_D A (w ++ wr)) (hS : va_S A s.heap H locs) (hA : ∀ q, s.heap.size ≤ q → A q)
    (hn : As.length = n) (hsize : ls.size = nL) (hst : st = As.reverse ++ rest) (hW : (rest.map fun v => v.category).sum ≤ 8) (hdg : decode cc pc = .ok (.invokestatic index, 3)) (hf : cells ≤ R.cells ∧ slots ≤ R.slots)
    (kk : ∀ (H1 : Heap) (locs1 : List Loc), va_P D vwCl (w' ++ wr) H1 → va_D A (w' ++ wr) → va_S A s.heap H1 locs1 → W p l e R s m args below meth c H1 locs1 cells slots Q (F0 m (pc + 3) ls (o.toList ++ rest))) : W p l e R s m args below meth c H locs cells slots Q (F0 m pc ls st) := by
  subst hst
  exact kCore (va_runS S (hM H.size) cw ⟨kPc.blind, kUse hC hP hD⟩ rfl hn hsize rfl (lv_room hW) hdg hf) hP hD hS hA kk
theorem kSN {host : String} (S : CallFix p m c cc nL s args Ts own) (hM : kM l D T y ws rm As w o w') (cw : va_CN R s args own index y host bytes maxL ret ws rm 0 0 n ∧ (Cond.static y).before args s = true ∧ True) (hC : kCx D T s) (hP : va_P D vwCl (w ++ wr) H) (hD : va_D A (w ++ wr)) (hS : va_S A s.heap H locs) (hA : ∀ q, s.heap.size ≤ q → A q)
    (hn : As.length = n) (hsize : ls.size = nL) (hst : st = As.reverse ++ rest) (hW : (rest.map fun v => v.category).sum ≤ 8) (hdg : decode cc pc = .ok (.invokestatic index, 3)) (hf : cells ≤ R.cells ∧ slots ≤ R.slots)
    (kk : ∀ (H1 : Heap) (locs1 : List Loc), va_P D vwCl (w' ++ wr) H1 → va_D A (w' ++ wr) → va_S A s.heap H1 locs1 → W p l e R s m args below meth c H1 locs1 cells slots Q (F0 m (pc + 3) ls (o.toList ++ rest))) : W p l e R s m args below meth c H locs cells slots Q (F0 m pc ls st) := by
  subst hst
  exact kCore (va_runSN S (hM H.size) cw ⟨kPc.blind, kUse hC hP hD⟩ rfl hn hsize rfl (lv_room hW) hdg hf) hP hD hS hA kk
end CALL
theorem kCong {D : va_G} {cl : List vw_C} {q n : Nat} {cA : ClassId} {f g : Nat → Int32} (h : ∀ j, j < n → f j = g j) : ((.inl (cA, n, .inl f)) : va_E) = .inl (cA, n, .inl f) ∧ ∀ H, va_at D cl (q, .inl (cA, n, .inl f)) H → va_at D cl (q, .inl (cA, n, .inl g)) H := by
  refine ⟨rfl, fun H hh => ?_⟩
  have e : vp_cell cA (n, .inl f) = vp_cell cA (n, .inl g) := by
    rw [vp_cell_i, vp_cell_i]
    unfold arrV
    congr 1
    apply Array.ext
    · simp
    · intro i h1 h2
      have hi : i < n := by simpa using h1
      simp [h i hi]
  show H[q]? = some (vp_cell cA (n, .inl g))
  rw [← e]; exact hh
/-- a row's values past its length don't count -/
theorem kRow {D : va_G} {A : Nat → Prop} {ws : va_W} {H : Heap} (hP : va_P D vwCl ws H) (hD : va_D A ws) (k : Nat) {q n : Nat} {cA : ClassId} {f : Nat → Int32} (g : Nat → Int32) (hk : ws[k]? = some (q, .inl (cA, n, .inl f))) (h : ∀ j, j < n → f j = g j) : va_P D vwCl (ws.set k (q, .inl (cA, n, .inl g))) H ∧ va_D A (ws.set k (q, .inl (cA, n, .inl g))) :=
  ⟨va_P.set hP hD hk ((kCong h).2 H (hP k _ hk)) (fun _ _ => rfl), hD.set hk⟩
abbrev aI (T : Nat → ClassId) (q n : Nat) (f : Nat → Int32) : Nat × va_E := (q, .inl (T 0, n, .inl f))
abbrev aC (T : Nat → ClassId) (q n : Nat) (f : Nat → Int32) : Nat × va_E := (q, .inl (T 1, n, .inl f))
abbrev aL (T : Nat → ClassId) (q n : Nat) (f : Nat → Int64) : Nat × va_E := (q, .inl (T 2, n, .inr (.inl f)))
abbrev aS (T : Nat → ClassId) (q n : Nat) (f : Nat → Option Nat) : Nat × va_E := (q, .inl (T 3, n, .inr (.inr (.inr (.inr f)))))
abbrev oFL (o c s g : Nat) (ch sz rm : Int32) : Nat × va_E := (o, .inr (0, [.ref c, .ref s, .ref g, .int ch, .int sz, .int rm]))
abbrev oHi (o st : Nat) (nx sz : Int32) : Nat × va_E := (o, .inr (1, [.ref st, .int nx, .int sz]))
abbrev oLi (o f s t : Nat) : Nat × va_E := (o, .inr (2, [.ref f, .ref s, .ref t]))
abbrev oRe (o : Nat) (nu ti ip hp ca : Int32) : Nat × va_E := (o, .inr (3, [.int nu, .int ti, .int ip, .int hp, .int ca]))
abbrev oSL (o c : Nat) (wo sz rm : Int32) : Nat × va_E := (o, .inr (4, [.ref c, .int wo, .int sz, .int rm]))
abbrev oSo (o c r u : Nat) (le uc : Int32) : Nat × va_E := (o, .inr (5, [.ref c, .ref r, .ref u, .int le, .int uc]))
abbrev oSt (o own asd : Nat) (ia ca : Int32) : Nat × va_E := (o, .inr (6, [.ref own, .ref asd, .int ia, .int ca]))
abbrev oPC (o st hi tx : Nat) : Nat × va_E := (o, .inr (7, [.ref st, .ref hi, .ref tx]))
end KIT
