/-! pure words for the first list -/
def bI (b : Bool) : Int32 := if b then 1 else 0
theorem bI_nar (b : Bool) : narrow .boolean (.int (bI b)) = .int (bI b) := by cases b <;> rfl
theorem bI_fit (b : Bool) : fits .boolean (.int (bI b)) = true := by cases b <;> rfl
theorem bI0 (b : Bool) : bI b = 0 ↔ b = false := by cases b <;> decide
theorem bI0n (b : Bool) : ¬ bI b = 0 ↔ b = true := by cases b <;> decide
theorem bI1 (b : Bool) : bI b = 1 ↔ b = true := by cases b <;> decide
def flFull (sz rm : Int32) : Bool := decide (rm ≤ sz)
def flWeaker (fc fg : Nat → Int32) (p q : Nat) : Bool := if fc p = fc q then decide (¬ fg q ≤ fg p) else decide (¬ fc q ≤ fc p)
def flWeakS (fc fg : Nat → Int32) (w : Int32) (i : Nat) : Int32 := if fc i ≤ 0 then w else if w = -1 then nI i else if flWeaker fc fg i w.toNatClampNeg then nI i else w
def flWeak (fc fg : Nat → Int32) : Nat → Int32
  | 0 => -1
  | i + 1 => flWeakS fc fg (flWeak fc fg i) i
def flLeast (fc fg : Nat → Int32) (sz rm : Int32) : Int32 := if flFull sz rm then (if flWeak fc fg 26 = -1 then 0 else fc (flWeak fc fg 26).toNatClampNeg) else 0
def flEst (fc fg : Nat → Int32) (sz rm : Int32) (p : Nat) : Int32 := if fc p ≤ 0 then flLeast fc fg sz rm else fc p
def flSure (fc fs : Nat → Int32) (p : Nat) : Int32 := if fc p ≤ 0 then 0 else fc p - fs p
theorem flWeak_in (fc fg : Nat → Int32) : ∀ i, i ≤ 26 → flWeak fc fg i = -1 ∨ ∃ j, j < i ∧ flWeak fc fg i = nI j ∧ ¬ fc j ≤ 0
  | 0, _ => Or.inl rfl
  | i + 1, h => by
    have ih := flWeak_in fc fg i (by omega)
    have old : flWeak fc fg i = -1 ∨ ∃ j, j < i + 1 ∧ flWeak fc fg i = nI j ∧ ¬ fc j ≤ 0 := ih.imp id (fun ⟨j, h1, h2⟩ => ⟨j, by omega, h2⟩)
    unfold flWeak flWeakS
    by_cases h1 : fc i ≤ 0
    · rw [if_pos h1]; exact old
    · rw [if_neg h1]
      by_cases h2 : flWeak fc fg i = -1
      · rw [if_pos h2]; exact Or.inr ⟨i, by omega, rfl, h1⟩
      · rw [if_neg h2]
        by_cases h3 : flWeaker fc fg i (flWeak fc fg i).toNatClampNeg = true
        · rw [if_pos h3]; exact Or.inr ⟨i, by omega, rfl, h1⟩
        · rw [if_neg h3]; exact old
def flRemC (fc : Nat → Int32) (x : Int32) : Nat → Int32 := if x = -1 then fc else upd fc x.toNatClampNeg 0
def flRemZ (sz : Int32) (x : Int32) : Int32 := if x = -1 then sz else sz - 1
theorem nI_ne1 {j : Nat} (h : j < 2 ^ 31) : ¬ nI j = -1 := fun e => by
  have h1 := nI_toInt h
  rw [e] at h1
  have h2 : (-1 : Int32).toInt = -1 := by decide
  omega
theorem flWeak_vp {fc fg : Nat → Int32} {i : Nat} (hi : i ≤ 26) (h : ¬ flWeak fc fg i = -1) : vp_in (flWeak fc fg i) 26 := by
  rcases flWeak_in fc fg i hi with e | ⟨j, h1, h2, -⟩
  · exact absurd e h
  · rw [h2]; exact vp_in_nI (by omega) (by omega)
def smN (f : Nat → Int32) : Nat → Int32
  | 0 => 0
  | i + 1 => smN f i + f i
def cntN (f : Nat → Int32) : Nat → Nat
  | 0 => 0
  | i + 1 => if f i ≤ 0 then cntN f i else cntN f i + 1
theorem cntN_le (f : Nat → Int32) : ∀ i, cntN f i ≤ i
  | 0 => Nat.le_refl 0
  | i + 1 => by
    have := cntN_le f i
    unfold cntN
    split <;> omega
def posN (f : Nat → Int32) (pa : Nat) : Nat → Nat
  | 0 => 0
  | i + 1 => if f i ≤ f pa then (if f i = f pa then (if nI pa ≤ nI i then posN f pa i else posN f pa i + 1) else posN f pa i) else posN f pa i + 1
def pAtN (f : Nat → Int32) (ps : Int32) : Nat → Nat → Int32
  | 0, _ => -1
  | n + 1, i => if f i ≤ 0 then pAtN f ps n (i + 1) else if nI (posN f i 26) = ps then nI i else pAtN f ps n (i + 1)
theorem pAtN_in (f : Nat → Int32) (ps : Int32) : ∀ n i, n + i = 26 → pAtN f ps n i = -1 ∨ ∃ j, j < 26 ∧ pAtN f ps n i = nI j ∧ ¬ f j ≤ 0
  | 0, _, _ => Or.inl rfl
  | n + 1, i, h => by
    have ih := pAtN_in f ps n (i + 1) (by omega)
    unfold pAtN
    by_cases h1 : f i ≤ 0
    · rw [if_pos h1]; exact ih
    · rw [if_neg h1]
      by_cases h2 : nI (posN f i 26) = ps
      · rw [if_pos h2]; exact Or.inr ⟨i, by omega, rfl, h1⟩
      · rw [if_neg h2]; exact ih
theorem pAtN_vp {f : Nat → Int32} {ps : Int32} (h : ¬ pAtN f ps 26 0 = -1) : vp_in (pAtN f ps 26 0) 26 := by
  rcases pAtN_in f ps 26 0 rfl with e | ⟨j, h1, h2, -⟩
  · exact absurd e h
  · rw [h2]; exact vp_in_nI (by omega) (by omega)
def flN (f : Nat → Int32) (v : Int32) : Nat → (Nat → Int32)
  | 0 => f
  | i + 1 => upd (flN f v i) i v
theorem flN_at (f : Nat → Int32) (v : Int32) : ∀ i j, j < i → flN f v i j = v
  | i + 1, j, h => by
    unfold flN
    by_cases e : j = i
    · rw [e]; exact pk_us
    · rw [pk_un e]; exact flN_at f v i j (by omega)
/-- the first list: a counter is given -/
def gvC (fc fg : Nat → Int32) (sz rm : Int32) (pa : Nat) : Nat → Int32 := upd (if flFull sz rm then flRemC fc (flWeak fc fg 26) else fc) pa (flLeast fc fg sz rm)
def gvZ (fc fg : Nat → Int32) (sz rm : Int32) : Int32 := (if flFull sz rm then flRemZ sz (flWeak fc fg 26) else sz) + 1
def tkC (fc fg : Nat → Int32) (sz rm : Int32) (pa : Nat) : Nat → Int32 := if fc pa = 0 then upd (gvC fc fg sz rm pa) pa (gvC fc fg sz rm pa pa + 1) else upd fc pa (fc pa + 1)
def tkS (fc fs fg : Nat → Int32) (sz rm : Int32) (pa : Nat) : Nat → Int32 := if fc pa = 0 then upd fs pa (flLeast fc fg sz rm) else fs
def tkZ (fc fg : Nat → Int32) (sz rm : Int32) (pa : Nat) : Int32 := if fc pa = 0 then gvZ fc fg sz rm else sz
/-- the first list: two are added -/
def adC (fc gc : Nat → Int32) (f0 f1 : Int32) : Nat → (Nat → Int32)
  | 0 => fc
  | i + 1 => if adC fc gc f0 f1 i i ≤ 0 ∧ gc i ≤ 0 then adC fc gc f0 f1 i else upd (adC fc gc f0 f1 i) i ((if adC fc gc f0 f1 i i ≤ 0 then f0 else adC fc gc f0 f1 i i) + (if gc i ≤ 0 then f1 else gc i))
def adS (fc fs gc gs : Nat → Int32) (f0 f1 : Int32) : Nat → (Nat → Int32)
  | 0 => fs
  | i + 1 => if adC fc gc f0 f1 i i ≤ 0 ∧ gc i ≤ 0 then adS fc fs gc gs f0 f1 i else upd (adS fc fs gc gs f0 f1 i) i (((if adC fc gc f0 f1 i i ≤ 0 then f0 else adC fc gc f0 f1 i i) + (if gc i ≤ 0 then f1 else gc i)) - (flSure (adC fc gc f0 f1 i) (adS fc fs gc gs f0 f1 i) i + flSure gc gs i))
/-- the first list: t counters are taken off, from the position k - 1 on down -/
def trC (f : Nat → Int32) (k : Nat) : Nat → (Nat → Int32)
  | 0 => f
  | t + 1 => flRemC (trC f k t) (pAtN (trC f k t) (nI (k - t) - 1) 26 0)
def trZ (f : Nat → Int32) (k : Nat) : Nat → Int32
  | 0 => nI k
  | t + 1 => flRemZ (trZ f k t) (pAtN (trC f k t) (nI (k - t) - 1) 26 0)
def idN (f : Nat → Int32) : Nat → (Nat → Int32)
  | 0 => f
  | i + 1 => upd (idN f i) i (nI i)
theorem idN_at (f : Nat → Int32) : ∀ i j, j < i → idN f i j = nI j
  | i + 1, j, h => by
    unfold idN
    by_cases e : j = i
    · rw [e]; exact pk_us
    · rw [pk_un e]; exact idN_at f i j (by omega)
theorem nIm_le {a r : Nat} (h : a ≤ r) (hr : r < 1000) : nI a - 1 < nI r := by
  rw [Int32.lt_iff_toInt_lt, nI_toInt (by omega)]
  cases a with
  | zero =>
    have : (nI 0 - 1).toInt = -1 := by decide
    omega
  | succ a => rw [nI_pred, nI_toInt (by omega)]; omega
theorem nIm_ge {a r : Nat} (h : r < a) (ha : a < 1000) : ¬ nI a - 1 < nI r := by
  obtain ⟨b, rfl⟩ : ∃ b, a = b + 1 := ⟨a - 1, by omega⟩
  rw [nI_pred, Int32.lt_iff_toInt_lt, nI_toInt (by omega), nI_toInt (by omega)]; omega
theorem nIm_step {k t : Nat} (h : t < k) : nI (k - t) - 1 + -1 = nI (k - (t + 1)) - 1 := by
  obtain ⟨b, hb⟩ : ∃ b, k - t = b + 1 := ⟨k - t - 1, by omega⟩
  have hb2 : k - (t + 1) = b := by omega
  rw [hb, hb2, nI_pred]
  exact (Int32.sub_eq_add_neg _ _).symm
section KROW
variable {p : Program} {l : Launch} {e : Env} {R : Room} {s : State} {m : MethodId} {args : Array Value} {below : List Frame} {meth : Method} {c : Code} {H H0 : Heap} {locs : List Loc} {cells slots : Nat} {Q : State → Prop} {D : va_G} {cl : List vw_C} {tys : List (ClassId × FieldType)} {ws : va_W} {A : Nat → Prop} {a pc : Nat} {ls : Array Slot} {rest : List Value} {cc : ByteArray}
theorem k_nin {i n : Nat} (h : i < n) (hn : n ≤ 2147483647) : vp_in (nI i) n := vp_in_nI h (by omega)
theorem k_iald (hexec : p.tables.exec = Jvm.exec) (hb : c.code = cc) (hK : va_K D cl tys s) (hP : va_P D cl ws H) (q0 t0 : Nat) {cA : ClassId} {n : Nat} {f : Nat → Int32} (ha : ws[q0]? = some (a, .inl (cA, n, .inl f))) (ht : tys[t0]? = some (cA, .int)) {i : Nat} (hin : i < n ∧ n ≤ 2147483647) (hdg : decode cc pc = .ok (.iaload, 1))
    (kk : W p l e R s m args below meth c H locs cells slots Q (F0 m (pc + 1) ls (.int (f i) :: rest))) : W p l e R s m args below meth c H locs cells slots Q (F0 m pc ls (.int (nI i) :: .ref a :: rest)) := by
  refine va_iald hexec hb hK hP q0 t0 ha ht (k_nin hin.1 hin.2) hdg ?_
  rw [nI_clamp (by omega)]
  exact kk
theorem k_cald (hexec : p.tables.exec = Jvm.exec) (hb : c.code = cc) (hK : va_K D cl tys s) (hP : va_P D cl ws H) (q0 t0 : Nat) {cA : ClassId} {n : Nat} {f : Nat → Int32} (ha : ws[q0]? = some (a, .inl (cA, n, .inl f))) (ht : tys[t0]? = some (cA, .char)) {i : Nat} (hin : i < n ∧ n ≤ 2147483647) (hdg : decode cc pc = .ok (.caload, 1))
    (kk : W p l e R s m args below meth c H locs cells slots Q (F0 m (pc + 1) ls (.int (f i) :: rest))) : W p l e R s m args below meth c H locs cells slots Q (F0 m pc ls (.int (nI i) :: .ref a :: rest)) := by
  refine va_cald hexec hb hK hP q0 t0 ha ht (k_nin hin.1 hin.2) hdg ?_
  rw [nI_clamp (by omega)]
  exact kk
theorem k_iast (hexec : p.tables.exec = Jvm.exec) (hb : c.code = cc) (hK : va_K D cl tys s) (hP : va_P D cl ws H) (hD : va_D A ws) (hS : va_S A H0 H locs) (q0 t0 : Nat) {cA : ClassId} {n : Nat} {f : Nat → Int32} (ha : ws[q0]? = some (a, .inl (cA, n, .inl f))) (ht : tys[t0]? = some (cA, .int)) {i : Nat} {x : Int32} (hin : i < n ∧ n ≤ 2147483647) (hdg : decode cc pc = .ok (.iastore, 1))
    (kk : ∀ (H1 : Heap) (locs1 : List Loc), va_P D cl (ws.set q0 (a, .inl (cA, n, .inl (upd f i x)))) H1 → va_D A (ws.set q0 (a, .inl (cA, n, .inl (upd f i x)))) → va_S A H0 H1 locs1 → W p l e R s m args below meth c H1 locs1 cells slots Q (F0 m (pc + 1) ls rest)) : W p l e R s m args below meth c H locs cells slots Q (F0 m pc ls (.int x :: .int (nI i) :: .ref a :: rest)) := by
  refine va_iast hexec hb hK hP hD hS q0 t0 ha ht (k_nin hin.1 hin.2) hdg ?_
  rw [nI_clamp (by omega)]
  exact kk
end KROW
