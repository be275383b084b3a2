section LAWC
theorem op_thrown {l : Launch} (D : va_G) (T : Nat → ClassId) (mo : Nat) (m : Nat → Nat) (al hy : Nat → Int32) (hn : Nat) (y : MT) : kM l D T yX9_thrown wsX9_thrown rX9_thrown [.ref mo] (bsM T mo m al hy hn y).flatten (some (.int y.1)) (bsM T mo m al hy hn y).flatten := kp_m0 (c_X9_thrown l D T mo (m 0) (m 1) (m 2) (m 3) (m 4) hn y.1 y.2.2.2.2.1 y.2.2.2.2.2.1 y.2.2.2.2.2.2.1 y.2.2.2.2.2.2.2.1 y.2.2.2.2.2.2.2.2)
/-- what the walk of the law stands on -/
def kLC (p : Program) (l : Launch) (s : State) (m : MethodId) (c : Code) (D : va_G) (T : Nat → ClassId) (b L : Nat) (xs : Nat → Int32) : Prop :=
  p.tables.exec = Jvm.exec ∧ c.code = cL_law ∧ c.maxLocals = 9 ∧ s.vm.findClass RL = some m.cls ∧ (∀ w ∈ wsL_law, w.before #[Value.ref b] s = true) ∧ va_X b L xs s s.heap ∧ b < s.heap.size ∧ l.stackTraces = false ∧ kCx D T s ∧ kXX s ∧ kZ (fun q : Nat => s.heap.size ≤ q) s s.heap ∧ kE T (fun q : Nat => s.heap.size ≤ q) s s.heap ∧ kNc s
/-- a state of the law's loop, with j rounds behind it -/
def kLS (s : State) (D : va_G) (T : Nat → ClassId) (b po ouA mo : Nat) (a mm : Nat → Nat) (j cnt : Nat) (v : ST) (hk hz : Nat) (sl : Nat → ST) (x : CT) (ouF : Nat → Int64) (al hy : Nat → Int32) (hn : Nat) (y : MT) (H : Heap) (locs : List Loc) (cells slots : Nat) (ls : Array Slot) : Prop :=
  RW v hk hz sl x al hy hn y ∧ va_P D vwCl ((bsC T po ouA a v hk hz sl x ouF).flatten ++ (bsM T mo mm al hy hn y).flatten) H ∧ va_D (fun q : Nat => s.heap.size ≤ q) ((bsC T po ouA a v hk hz sl x ouF).flatten ++ (bsM T mo mm al hy hn y).flatten) ∧ va_S (fun q : Nat => s.heap.size ≤ q) s.heap H locs ∧ cells ≤ 200 + cnt ∧ slots ≤ 5000 + 6 * cnt ∧ lv_has ls 9 [(0, .ref b), (1, .ref po), (2, .ref mo), (3, .ref ouA), (4, .int (nI (2 * j)))]
theorem kLc {x y : Int64} (h : x = y) : lg_cmp x y = 0 := (lg_cmp_eq x y).mpr h
end LAWC
