section KROW4
variable {p : Program} {l : Launch} {e : Env} {R : Room} {s : State} {m : MethodId} {args : Array Value} {below : List Frame} {meth : Method} {c : Code} {H H0 : Heap} {locs : List Loc} {cells slots : Nat} {Q : State → Prop} {D : va_G} {cl : List vw_C} {tys : List (ClassId × FieldType)} {ws : va_W} {A : Nat → Prop} {a pc : Nat} {ls : Array Slot} {rest : List Value} {cc : ByteArray}
theorem k_cast (hexec : p.tables.exec = Jvm.exec) (hb : c.code = cc) (hK : va_K D cl tys s) (hP : va_P D cl ws H) (hD : va_D A ws) (hS : va_S A H0 H locs) (q0 t0 : Nat) {cA : ClassId} {n : Nat} {f : Nat → Int32} (ha : ws[q0]? = some (a, .inl (cA, n, .inl f))) (ht : tys[t0]? = some (cA, .char)) {i : Nat} {x : Int32} (hin : i < n ∧ n ≤ 2147483647) (hdg : decode cc pc = .ok (.castore, 1))
    (kk : ∀ (H1 : Heap) (locs1 : List Loc), va_P D cl (ws.set q0 (a, .inl (cA, n, .inl (upd f i (vp_nar .char x))))) H1 → va_D A (ws.set q0 (a, .inl (cA, n, .inl (upd f i (vp_nar .char x))))) → va_S A H0 H1 locs1 → W p l e R s m args below meth c H1 locs1 cells slots Q (F0 m (pc + 1) ls rest)) : W p l e R s m args below meth c H locs cells slots Q (F0 m pc ls (.int x :: .int (nI i) :: .ref a :: rest)) := by
  refine va_cast hexec hb hK hP hD hS q0 t0 ha ht (k_nin hin.1 hin.2) hdg ?_
  rw [nI_clamp (by omega)]
  exact kk
end KROW4
def chD (c : Int32) : Bool := if 48 ≤ c then decide (c ≤ 57) else false
def chN (c : Int32) : Bool := if 97 ≤ c then decide (c ≤ 122) else false
def dgOK (nu dg : Int32) : Bool := if nu = 0 then (if dg = 0 then false else decide (nu ≤ 9)) else decide (nu ≤ 9)
def dgN (nu dg : Int32) : Int32 := if dgOK nu dg then 10 * nu + dg else nu
def nmOK (nu : Int32) : Bool := if nu = 0 then true else decide (2 ≤ nu)
def mx1 (nu : Int32) : Int32 := if nu < 1 then 1 else nu
def nmN (nu : Int32) : Int32 := if nmOK nu then 0 else nu
def nmH (nu : Int32) (hp : Bool) : Bool := if nmOK nu then true else hp
def nmC (nu ti ca : Int32) : Int32 := if nmOK nu then ca + ti * mx1 nu else ca
def opOK (nu : Int32) (ip : Bool) : Bool := if ip then false else decide (2 ≤ nu)
def opN (nu : Int32) (ip : Bool) : Int32 := if opOK nu ip then 0 else nu
def opT (nu ti : Int32) (ip : Bool) : Int32 := if opOK nu ip then nu else ti
def opI (nu : Int32) (ip : Bool) : Bool := if opOK nu ip then true else ip
def opH (nu : Int32) (ip hp : Bool) : Bool := if opOK nu ip then false else hp
def clOK (nu : Int32) (ip hp : Bool) : Bool := if ip then (if nu = 0 then hp else false) else false
def clT (nu ti : Int32) (ip hp : Bool) : Int32 := if clOK nu ip hp then 1 else ti
def clI (nu : Int32) (ip hp : Bool) : Bool := if clOK nu ip hp then false else ip
def rdK (nu : Int32) (ip hp : Bool) (c : Int32) : Bool := if chD c then dgOK nu (c - 48) else if chN c then nmOK nu else if c = 40 then opOK nu ip else if c = 41 then clOK nu ip hp else false
def rdS (nu ti : Int32) (ip hp : Bool) (ca c : Int32) : Int32 × Int32 × Bool × Bool × Int32 := if chD c then (dgN nu (c - 48), ti, ip, hp, ca) else if chN c then (nmN nu, ti, ip, nmH nu hp, nmC nu ti ca) else if c = 40 then (opN nu ip, opT nu ti ip, opI nu ip, opH nu ip hp, ca) else if c = 41 then (nu, clT nu ti ip hp, clI nu ip hp, hp, ca) else (nu, ti, ip, hp, ca)
theorem rdS_no {nu ti : Int32} {ip hp : Bool} {ca c : Int32} (h : rdK nu ip hp c = false) : rdS nu ti ip hp ca c = (nu, ti, ip, hp, ca) := by
  unfold rdK at h
  unfold rdS
  by_cases h1 : chD c = true
  · simp [h1] at h ⊢; simp [dgN, h]
  · simp [h1] at h ⊢
    by_cases h2 : chN c = true
    · simp [h2] at h ⊢; simp [nmN, nmH, nmC, h]
    · simp [h2] at h ⊢
      by_cases h3 : c = 40
      · simp [h3] at h ⊢; simp [opN, opT, opI, opH, h]
      · simp [h3] at h ⊢
        by_cases h4 : c = 41
        · simp [h4] at h ⊢; simp [clT, clI, h]
        · simp [h4]
def rdF (tc : Nat → Int32) : Nat → Int32 × Int32 × Bool × Bool × Int32
  | 0 => (0, 1, false, false, 0)
  | i + 1 => rdS (rdF tc i).1 (rdF tc i).2.1 (rdF tc i).2.2.1 (rdF tc i).2.2.2.1 (rdF tc i).2.2.2.2 (tc i)
def rdA (tc : Nat → Int32) (i : Nat) : Bool := rdK (rdF tc i).1 (rdF tc i).2.2.1 (rdF tc i).2.2.2.1 (tc i)
def rlN (tc : Nat → Int32) : Nat → Nat → Nat
  | 0, i => i
  | n + 1, i => if rdA tc i then rlN tc n (i + 1) else i
def whole (nu : Int32) (ip hp : Bool) : Bool := if hp then (if nu = 0 then !ip else false) else false
def song (tc : Nat → Int32) (n : Nat) : Bool := if nI (rlN tc n 0) = nI n then whole (rdF tc (rlN tc n 0)).1 (rdF tc (rlN tc n 0)).2.2.1 (rdF tc (rlN tc n 0)).2.2.2.1 else false
/-- calls are written down -/
def ufS (q : (Nat → Int32) × Nat) (x : Int32) : (Nat → Int32) × Nat := if q.2 < 1000 then (upd q.1 q.2 x, q.2 + 1) else q
theorem ufS_le {q : (Nat → Int32) × Nat} {x : Int32} (h : q.2 ≤ 1000) : (ufS q x).2 ≤ 1000 := by
  unfold ufS
  by_cases h1 : q.2 < 1000
  · rw [if_pos h1]; show q.2 + 1 ≤ 1000; omega
  · rw [if_neg h1]; exact h
def ucN (q : (Nat → Int32) × Nat) (x : Int32) : Nat → (Nat → Int32) × Nat
  | 0 => q
  | j + 1 => ufS (ucN q x j) x
theorem ucN_le {q : (Nat → Int32) × Nat} {x : Int32} (h : q.2 ≤ 1000) : ∀ j, (ucN q x j).2 ≤ 1000
  | 0 => h
  | j + 1 => ufS_le (ucN_le h j)
def rpI (q : (Nat → Int32) × Nat) (st : Nat) : Nat → (Nat → Int32) × Nat
  | 0 => q
  | j + 1 => ufS (rpI q st j) ((rpI q st j).1 (st + j))
theorem rpI_le {q : (Nat → Int32) × Nat} {st : Nat} (h : q.2 ≤ 1000) : ∀ j, (rpI q st j).2 ≤ 1000
  | 0 => h
  | j + 1 => ufS_le (rpI_le h j)
def rpO (q : (Nat → Int32) × Nat) (st m : Nat) : Nat → (Nat → Int32) × Nat
  | 0 => q
  | j + 1 => rpI (rpO q st m j) st m
theorem rpO_le {q : (Nat → Int32) × Nat} {st m : Nat} (h : q.2 ≤ 1000) : ∀ j, (rpO q st m j).2 ≤ 1000
  | 0 => h
  | j + 1 => rpI_le (rpO_le h j) m
abbrev rX8_isDigit : Room := { frames := 0, cells := 0, slots := 0, locals := 0 }
set_option maxHeartbeats 4000000 in
set_option maxRecDepth 100000 in
theorem c_X8_isDigit (l : Launch) (D : va_G) (T : Nat → ClassId) (cx : Int32) : kM l D T yX8_isDigit wsX8_isDigit rX8_isDigit [.int cx] [] (some (.int (bI (chD cx)))) [] := by
  refine kM.of (cc := cX8_isDigit) (maxL := 1) (ret := some .boolean) (by decide) rfl (Nat.le_of_ble_eq_true rfl) ?_
  intro p e s m below meth c A Q ls hx hb hml hown hr hlk hts hC hP hD hS hA hl hret
  have hl : lv_has ls 1 [(0, .int cx)] := hl
  have hP : va_P D vwCl [] s.heap := hP
  have hD : va_D A [] := hD
  refine lv_iload_n hx hb dX8_isDigit_0 rfl (lv_at hl 0 rfl) ?_
  refine lv_bipush (v := 48) hx hb dX8_isDigit_1 (by decide) ?_
  refine lv_icmp_lt (tgt := 16) hx hb dX8_isDigit_3 (by decide) (fun c3 => ?_) (fun c3 => ?_)
  · have c3 := Int32.not_le.mpr c3
    refine lv_iconst (v := 0) hx hb dX8_isDigit_16 (by decide) ?_
    have e_1 : 0 = bI (chD cx) := by first | with_reducible rfl | (simp [chD, bI, c3]; done)
    refine W.eq (g2 := F0 m 17 ls [.int (bI (chD cx))]) (congrArg (fun z => F0 m 17 ls [.int z]) e_1) ?_
    exact hret _ _ _ _ _ (fun Qc free hq hf => W.zret hx hb hr (bI_nar _) hq hf dX8_isDigit_17 hlk) hP hD hS
  · have c3 := Int32.not_lt.mp c3
    refine lv_iload_n hx hb dX8_isDigit_6 rfl (lv_at hl 0 rfl) ?_
    refine lv_bipush (v := 57) hx hb dX8_isDigit_7 (by decide) ?_
    refine lv_icmp_gt (tgt := 16) hx hb dX8_isDigit_9 (by decide) (fun c9 => ?_) (fun c9 => ?_)
    · have c9 := Int32.not_le.mpr c9
      refine lv_iconst (v := 0) hx hb dX8_isDigit_16 (by decide) ?_
      have e_2 : 0 = bI (chD cx) := by first | with_reducible rfl | (simp [chD, bI, c3, c9]; done)
      refine W.eq (g2 := F0 m 17 ls [.int (bI (chD cx))]) (congrArg (fun z => F0 m 17 ls [.int z]) e_2) ?_
      exact hret _ _ _ _ _ (fun Qc free hq hf => W.zret hx hb hr (bI_nar _) hq hf dX8_isDigit_17 hlk) hP hD hS
    · have c9 := Int32.not_lt.mp c9
      refine lv_iconst (v := 1) hx hb dX8_isDigit_12 (by decide) ?_
      refine lv_goto (tgt := 17) hx hb dX8_isDigit_13 (by decide) ?_
      have e_3 : 1 = bI (chD cx) := by first | with_reducible rfl | (simp [chD, bI, c3, c9]; done)
      refine W.eq (g2 := F0 m 17 ls [.int (bI (chD cx))]) (congrArg (fun z => F0 m 17 ls [.int z]) e_3) ?_
      exact hret _ _ _ _ _ (fun Qc free hq hf => W.zret hx hb hr (bI_nar _) hq hf dX8_isDigit_17 hlk) hP hD hS
abbrev rX8_isName : Room := { frames := 0, cells := 0, slots := 0, locals := 0 }
set_option maxHeartbeats 4000000 in
set_option maxRecDepth 100000 in
theorem c_X8_isName (l : Launch) (D : va_G) (T : Nat → ClassId) (cx : Int32) : kM l D T yX8_isName wsX8_isName rX8_isName [.int cx] [] (some (.int (bI (chN cx)))) [] := by
  refine kM.of (cc := cX8_isName) (maxL := 1) (ret := some .boolean) (by decide) rfl (Nat.le_of_ble_eq_true rfl) ?_
  intro p e s m below meth c A Q ls hx hb hml hown hr hlk hts hC hP hD hS hA hl hret
  have hl : lv_has ls 1 [(0, .int cx)] := hl
  have hP : va_P D vwCl [] s.heap := hP
  have hD : va_D A [] := hD
  refine lv_iload_n hx hb dX8_isName_0 rfl (lv_at hl 0 rfl) ?_
  refine lv_bipush (v := 97) hx hb dX8_isName_1 (by decide) ?_
  refine lv_icmp_lt (tgt := 16) hx hb dX8_isName_3 (by decide) (fun c3 => ?_) (fun c3 => ?_)
  · have c3 := Int32.not_le.mpr c3
    refine lv_iconst (v := 0) hx hb dX8_isName_16 (by decide) ?_
    have e_1 : 0 = bI (chN cx) := by first | with_reducible rfl | (simp [chN, bI, c3]; done)
    refine W.eq (g2 := F0 m 17 ls [.int (bI (chN cx))]) (congrArg (fun z => F0 m 17 ls [.int z]) e_1) ?_
    exact hret _ _ _ _ _ (fun Qc free hq hf => W.zret hx hb hr (bI_nar _) hq hf dX8_isName_17 hlk) hP hD hS
  · have c3 := Int32.not_lt.mp c3
    refine lv_iload_n hx hb dX8_isName_6 rfl (lv_at hl 0 rfl) ?_
    refine lv_bipush (v := 122) hx hb dX8_isName_7 (by decide) ?_
    refine lv_icmp_gt (tgt := 16) hx hb dX8_isName_9 (by decide) (fun c9 => ?_) (fun c9 => ?_)
    · have c9 := Int32.not_le.mpr c9
      refine lv_iconst (v := 0) hx hb dX8_isName_16 (by decide) ?_
      have e_2 : 0 = bI (chN cx) := by first | with_reducible rfl | (simp [chN, bI, c3, c9]; done)
      refine W.eq (g2 := F0 m 17 ls [.int (bI (chN cx))]) (congrArg (fun z => F0 m 17 ls [.int z]) e_2) ?_
      exact hret _ _ _ _ _ (fun Qc free hq hf => W.zret hx hb hr (bI_nar _) hq hf dX8_isName_17 hlk) hP hD hS
    · have c9 := Int32.not_lt.mp c9
      refine lv_iconst (v := 1) hx hb dX8_isName_12 (by decide) ?_
      refine lv_goto (tgt := 17) hx hb dX8_isName_13 (by decide) ?_
      have e_3 : 1 = bI (chN cx) := by first | with_reducible rfl | (simp [chN, bI, c3, c9]; done)
      refine W.eq (g2 := F0 m 17 ls [.int (bI (chN cx))]) (congrArg (fun z => F0 m 17 ls [.int z]) e_3) ?_
      exact hret _ _ _ _ _ (fun Qc free hq hf => W.zret hx hb hr (bI_nar _) hq hf dX8_isName_17 hlk) hP hD hS
abbrev rX4_beginAnew : Room := { frames := 0, cells := 0, slots := 0, locals := 0 }
set_option maxHeartbeats 4000000 in
set_option maxRecDepth 100000 in
theorem c_X4_beginAnew (l : Launch) (D : va_G) (T : Nat → ClassId) (ro : Nat) (nu ti : Int32) (ip hp : Bool) (ca : Int32) : kM l D T yX4_beginAnew wsX4_beginAnew rX4_beginAnew [.ref ro] [oRe ro nu ti (bI ip) (bI hp) ca] none [oRe ro 0 1 0 0 0] := by
  refine kM.of (cc := cX4_beginAnew) (maxL := 1) (ret := none) (by decide) rfl (Nat.le_of_ble_eq_true rfl) ?_
  intro p e s m below meth c A Q ls hx hb hml hown hr hlk hts hC hP hD hS hA hl hret
  have iX4 : ∀ w ∈ wsX40, w ∈ wsX4_beginAnew := (fun _ h => List.mem_cons_of_mem _ (List.mem_append_right _ h))
  have hl : lv_has ls 1 [(0, .ref ro)] := hl
  have hP : va_P D vwCl [oRe ro nu ti (bI ip) (bI hp) ca] s.heap := hP
  have hD : va_D A [oRe ro nu ti (bI ip) (bI hp) ca] := hD
  refine lv_aload_n hx hb dX4_beginAnew_0 rfl (lv_at hl 0 rfl) ?_
  refine lv_iconst (v := 0) hx hb dX4_beginAnew_1 (by decide) ?_
  refine va_put (D := D) (ci := 3) (v := .int 0) (ty := .int) (C := RX4) (T := TX4) (N := 5) hx hb hts iX4 tyX4 tyX4_ok nmX4 hown hC.1 hP hD hS 0 rfl rfl 0 (by decide) (hts (.fieldLink RX4 9 "ParrotCounts$Reading" "number" "I") (List.mem_of_getElem? (i := 1) rfl)) (fun _ h9 => h9) rfl (by decide +kernel) rfl rfl (Nat.le_of_ble_eq_true rfl) dX4_beginAnew_2 (fun H locs hP hD hS => ?_)
  have hP : va_P D vwCl [oRe ro 0 ti (bI ip) (bI hp) ca] H := hP
  have hD : va_D A [oRe ro 0 ti (bI ip) (bI hp) ca] := hD
  refine lv_aload_n hx hb dX4_beginAnew_5 rfl (lv_at hl 0 rfl) ?_
  refine lv_iconst (v := 1) hx hb dX4_beginAnew_6 (by decide) ?_
  refine va_put (D := D) (ci := 3) (v := .int 1) (ty := .int) (C := RX4) (T := TX4) (N := 5) hx hb hts iX4 tyX4 tyX4_ok nmX4 hown hC.1 hP hD hS 0 rfl rfl 1 (by decide) (hts (.fieldLink RX4 15 "ParrotCounts$Reading" "times" "I") (List.mem_of_getElem? (i := 2) rfl)) (fun _ h9 => h9) rfl (by decide +kernel) rfl rfl (Nat.le_of_ble_eq_true rfl) dX4_beginAnew_7 (fun H locs hP hD hS => ?_)
  have hP : va_P D vwCl [oRe ro 0 1 (bI ip) (bI hp) ca] H := hP
  have hD : va_D A [oRe ro 0 1 (bI ip) (bI hp) ca] := hD
  refine lv_aload_n hx hb dX4_beginAnew_10 rfl (lv_at hl 0 rfl) ?_
  refine lv_iconst (v := 0) hx hb dX4_beginAnew_11 (by decide) ?_
  refine va_put (D := D) (ci := 3) (v := .int 0) (ty := .boolean) (C := RX4) (T := TX4) (N := 5) hx hb hts iX4 tyX4 tyX4_ok nmX4 hown hC.1 hP hD hS 0 rfl rfl 2 (by decide) (hts (.fieldLink RX4 18 "ParrotCounts$Reading" "isInParentheses" "Z") (List.mem_of_getElem? (i := 3) rfl)) (fun _ h9 => h9) rfl (by decide +kernel) rfl rfl (Nat.le_of_ble_eq_true rfl) dX4_beginAnew_12 (fun H locs hP hD hS => ?_)
  have hP : va_P D vwCl [oRe ro 0 1 0 (bI hp) ca] H := hP
  have hD : va_D A [oRe ro 0 1 0 (bI hp) ca] := hD
  refine lv_aload_n hx hb dX4_beginAnew_15 rfl (lv_at hl 0 rfl) ?_
  refine lv_iconst (v := 0) hx hb dX4_beginAnew_16 (by decide) ?_
  refine va_put (D := D) (ci := 3) (v := .int 0) (ty := .boolean) (C := RX4) (T := TX4) (N := 5) hx hb hts iX4 tyX4 tyX4_ok nmX4 hown hC.1 hP hD hS 0 rfl rfl 3 (by decide) (hts (.fieldLink RX4 22 "ParrotCounts$Reading" "hasPhrase" "Z") (List.mem_of_getElem? (i := 4) rfl)) (fun _ h9 => h9) rfl (by decide +kernel) rfl rfl (Nat.le_of_ble_eq_true rfl) dX4_beginAnew_17 (fun H locs hP hD hS => ?_)
  have hP : va_P D vwCl [oRe ro 0 1 0 0 ca] H := hP
  have hD : va_D A [oRe ro 0 1 0 0 ca] := hD
  refine lv_aload_n hx hb dX4_beginAnew_20 rfl (lv_at hl 0 rfl) ?_
  refine lv_iconst (v := 0) hx hb dX4_beginAnew_21 (by decide) ?_
  refine va_put (D := D) (ci := 3) (v := .int 0) (ty := .int) (C := RX4) (T := TX4) (N := 5) hx hb hts iX4 tyX4 tyX4_ok nmX4 hown hC.1 hP hD hS 0 rfl rfl 4 (by decide) (hts (.fieldLink RX4 25 "ParrotCounts$Reading" "calls" "I") (List.mem_of_getElem? (i := 5) rfl)) (fun _ h9 => h9) rfl (by decide +kernel) rfl rfl (Nat.le_of_ble_eq_true rfl) dX4_beginAnew_22 (fun H locs hP hD hS => ?_)
  have hP : va_P D vwCl [oRe ro 0 1 0 0 0] H := hP
  have hD : va_D A [oRe ro 0 1 0 0 0] := hD
  exact hret _ _ _ _ _ (fun Qc free hq hf => W.vret hx hb hr hq hf dX4_beginAnew_25 hlk) hP hD hS
abbrev rX4_acceptDigit : Room := { frames := 0, cells := 0, slots := 0, locals := 0 }
set_option maxHeartbeats 4000000 in
set_option maxRecDepth 100000 in
theorem c_X4_acceptDigit (l : Launch) (D : va_G) (T : Nat → ClassId) (ro : Nat) (nu ti : Int32) (ip hp : Bool) (ca : Int32) (dg : Int32) : kM l D T yX4_acceptDigit wsX4_acceptDigit rX4_acceptDigit [.ref ro, .int dg] [oRe ro nu ti (bI ip) (bI hp) ca] (some (.int (bI (dgOK nu dg)))) [oRe ro (dgN nu dg) ti (bI ip) (bI hp) ca] := by
  refine kM.of (cc := cX4_acceptDigit) (maxL := 3) (ret := some .boolean) (by decide) rfl (Nat.le_of_ble_eq_true rfl) ?_
  intro p e s m below meth c A Q ls hx hb hml hown hr hlk hts hC hP hD hS hA hl hret
  have iX4 : ∀ w ∈ wsX40, w ∈ wsX4_acceptDigit := (fun _ h => List.mem_cons_of_mem _ (List.mem_append_right _ h))
  have hl : lv_has ls 3 [(0, .ref ro), (1, .int dg)] := hl
  have hP : va_P D vwCl [oRe ro nu ti (bI ip) (bI hp) ca] s.heap := hP
  have hD : va_D A [oRe ro nu ti (bI ip) (bI hp) ca] := hD
  refine lv_aload_n hx hb dX4_acceptDigit_0 rfl (lv_at hl 0 rfl) ?_
  refine va_get (D := D) (ci := 3) (v := .int nu) (C := RX4) (T := TX4) (N := 5) hx hb hts iX4 hown hC.1 hP 0 rfl rfl 0 (by decide) (hts (.fieldLink RX4 9 "ParrotCounts$Reading" "number" "I") (List.mem_of_getElem? (i := 1) rfl)) (fun _ h => h) rfl dX4_acceptDigit_1 ?_
  refine lv_if_ne (tgt := 15) hx hb dX4_acceptDigit_4 (by decide) (fun c4 => ?_) (fun c4 => ?_)
  · refine lv_iconst (v := 0) hx hb dX4_acceptDigit_15 (by decide) ?_
    refine lv_istore_n (lv' := [(2, .int 0), (0, .ref ro), (1, .int dg)]) hx hb dX4_acceptDigit_16 rfl hl (by decide) rfl (fun ls hl => ?_)
    refine lv_iload_n hx hb dX4_acceptDigit_17 rfl (lv_at hl 0 rfl) ?_
    refine lv_if_ne (tgt := 30) hx hb dX4_acceptDigit_18 (by decide) (fun c_x => absurd (by decide : ((0 : Int32) = 0)) c_x) (fun _ => ?_)
    refine lv_aload_n hx hb dX4_acceptDigit_21 rfl (lv_at hl 1 rfl) ?_
    refine va_get (D := D) (ci := 3) (v := .int nu) (C := RX4) (T := TX4) (N := 5) hx hb hts iX4 hown hC.1 hP 0 rfl rfl 0 (by decide) (hts (.fieldLink RX4 9 "ParrotCounts$Reading" "number" "I") (List.mem_of_getElem? (i := 1) rfl)) (fun _ h => h) rfl dX4_acceptDigit_22 ?_
    refine lv_bipush (v := 9) hx hb dX4_acceptDigit_25 (by decide) ?_
    refine lv_icmp_le (tgt := 32) hx hb dX4_acceptDigit_27 (by decide) (fun c27 => ?_) (fun c27 => ?_)
    · refine lv_aload_n hx hb dX4_acceptDigit_32 rfl (lv_at hl 1 rfl) ?_
      refine lv_bipush (v := 10) hx hb dX4_acceptDigit_33 (by decide) ?_
      refine lv_aload_n hx hb dX4_acceptDigit_35 rfl (lv_at hl 1 rfl) ?_
      refine va_get (D := D) (ci := 3) (v := .int nu) (C := RX4) (T := TX4) (N := 5) hx hb hts iX4 hown hC.1 hP 0 rfl rfl 0 (by decide) (hts (.fieldLink RX4 9 "ParrotCounts$Reading" "number" "I") (List.mem_of_getElem? (i := 1) rfl)) (fun _ h => h) rfl dX4_acceptDigit_36 ?_
      refine lv_imul hx hb dX4_acceptDigit_39 ?_
      refine lv_iload_n hx hb dX4_acceptDigit_40 rfl (lv_at hl 2 rfl) ?_
      refine lv_iadd hx hb dX4_acceptDigit_41 ?_
      refine va_put (D := D) (ci := 3) (v := .int ((10 * nu) + dg)) (ty := .int) (C := RX4) (T := TX4) (N := 5) hx hb hts iX4 tyX4 tyX4_ok nmX4 hown hC.1 hP hD hS 0 rfl rfl 0 (by decide) (hts (.fieldLink RX4 9 "ParrotCounts$Reading" "number" "I") (List.mem_of_getElem? (i := 1) rfl)) (fun _ h9 => h9) rfl (by decide +kernel) rfl rfl (Nat.le_of_ble_eq_true rfl) dX4_acceptDigit_42 (fun H locs hP hD hS => ?_)
      have hP : va_P D vwCl [oRe ro ((10 * nu) + dg) ti (bI ip) (bI hp) ca] H := hP
      have hD : va_D A [oRe ro ((10 * nu) + dg) ti (bI ip) (bI hp) ca] := hD
      refine lv_iconst (v := 1) hx hb dX4_acceptDigit_45 (by decide) ?_
      have e_1 : (10 * nu) + dg = dgN nu dg := by first | with_reducible rfl | (simp [dgOK, dgN, bI, c4, c27]; done)
      have eW := congrArg (fun zZ => ([oRe ro zZ ti (bI ip) (bI hp) ca] : va_W)) e_1
      have hP : va_P D vwCl [oRe ro (dgN nu dg) ti (bI ip) (bI hp) ca] _ := Eq.subst (motive := fun w => va_P D vwCl w _) eW hP
      have hD : va_D A [oRe ro (dgN nu dg) ti (bI ip) (bI hp) ca] := Eq.subst (motive := fun w => va_D A w) eW hD
      have e_2 : 1 = bI (dgOK nu dg) := by first | with_reducible rfl | (simp [dgOK, dgN, bI, c4, c27]; done)
      refine W.eq (g2 := F0 m 46 ls [.int (bI (dgOK nu dg))]) (congrArg (fun z => F0 m 46 ls [.int z]) e_2) ?_
      exact hret _ _ _ _ _ (fun Qc free hq hf => W.zret hx hb hr (bI_nar _) hq hf dX4_acceptDigit_46 hlk) hP hD hS
    · refine lv_iconst (v := 0) hx hb dX4_acceptDigit_30 (by decide) ?_
      have e_3 : nu = dgN nu dg := by first | with_reducible rfl | (simp [dgOK, dgN, bI, c4, c27]; done)
      have eW := congrArg (fun zZ => ([oRe ro zZ ti (bI ip) (bI hp) ca] : va_W)) e_3
      have hP : va_P D vwCl [oRe ro (dgN nu dg) ti (bI ip) (bI hp) ca] _ := Eq.subst (motive := fun w => va_P D vwCl w _) eW hP
      have hD : va_D A [oRe ro (dgN nu dg) ti (bI ip) (bI hp) ca] := Eq.subst (motive := fun w => va_D A w) eW hD
      have e_4 : 0 = bI (dgOK nu dg) := by first | with_reducible rfl | (simp [dgOK, dgN, bI, c4, c27]; done)
      refine W.eq (g2 := F0 m 31 ls [.int (bI (dgOK nu dg))]) (congrArg (fun z => F0 m 31 ls [.int z]) e_4) ?_
      exact hret _ _ _ _ _ (fun Qc free hq hf => W.zret hx hb hr (bI_nar _) hq hf dX4_acceptDigit_31 hlk) hP hD hS
  · refine lv_iload_n hx hb dX4_acceptDigit_7 rfl (lv_at hl 1 rfl) ?_
    refine lv_if_ne (tgt := 15) hx hb dX4_acceptDigit_8 (by decide) (fun c8 => ?_) (fun c8 => ?_)
    · refine lv_iconst (v := 0) hx hb dX4_acceptDigit_15 (by decide) ?_
      refine lv_istore_n (lv' := [(2, .int 0), (0, .ref ro), (1, .int dg)]) hx hb dX4_acceptDigit_16 rfl hl (by decide) rfl (fun ls hl => ?_)
      refine lv_iload_n hx hb dX4_acceptDigit_17 rfl (lv_at hl 0 rfl) ?_
      refine lv_if_ne (tgt := 30) hx hb dX4_acceptDigit_18 (by decide) (fun c_x => absurd (by decide : ((0 : Int32) = 0)) c_x) (fun _ => ?_)
      refine lv_aload_n hx hb dX4_acceptDigit_21 rfl (lv_at hl 1 rfl) ?_
      refine va_get (D := D) (ci := 3) (v := .int nu) (C := RX4) (T := TX4) (N := 5) hx hb hts iX4 hown hC.1 hP 0 rfl rfl 0 (by decide) (hts (.fieldLink RX4 9 "ParrotCounts$Reading" "number" "I") (List.mem_of_getElem? (i := 1) rfl)) (fun _ h => h) rfl dX4_acceptDigit_22 ?_
      refine lv_bipush (v := 9) hx hb dX4_acceptDigit_25 (by decide) ?_
      refine lv_icmp_le (tgt := 32) hx hb dX4_acceptDigit_27 (by decide) (fun c27 => ?_) (fun c27 => ?_)
      · refine lv_aload_n hx hb dX4_acceptDigit_32 rfl (lv_at hl 1 rfl) ?_
        refine lv_bipush (v := 10) hx hb dX4_acceptDigit_33 (by decide) ?_
        refine lv_aload_n hx hb dX4_acceptDigit_35 rfl (lv_at hl 1 rfl) ?_
        refine va_get (D := D) (ci := 3) (v := .int nu) (C := RX4) (T := TX4) (N := 5) hx hb hts iX4 hown hC.1 hP 0 rfl rfl 0 (by decide) (hts (.fieldLink RX4 9 "ParrotCounts$Reading" "number" "I") (List.mem_of_getElem? (i := 1) rfl)) (fun _ h => h) rfl dX4_acceptDigit_36 ?_
        refine lv_imul hx hb dX4_acceptDigit_39 ?_
        refine lv_iload_n hx hb dX4_acceptDigit_40 rfl (lv_at hl 2 rfl) ?_
        refine lv_iadd hx hb dX4_acceptDigit_41 ?_
        refine va_put (D := D) (ci := 3) (v := .int ((10 * nu) + dg)) (ty := .int) (C := RX4) (T := TX4) (N := 5) hx hb hts iX4 tyX4 tyX4_ok nmX4 hown hC.1 hP hD hS 0 rfl rfl 0 (by decide) (hts (.fieldLink RX4 9 "ParrotCounts$Reading" "number" "I") (List.mem_of_getElem? (i := 1) rfl)) (fun _ h9 => h9) rfl (by decide +kernel) rfl rfl (Nat.le_of_ble_eq_true rfl) dX4_acceptDigit_42 (fun H locs hP hD hS => ?_)
        have hP : va_P D vwCl [oRe ro ((10 * nu) + dg) ti (bI ip) (bI hp) ca] H := hP
        have hD : va_D A [oRe ro ((10 * nu) + dg) ti (bI ip) (bI hp) ca] := hD
        refine lv_iconst (v := 1) hx hb dX4_acceptDigit_45 (by decide) ?_
        have e_5 : (10 * nu) + dg = dgN nu dg := by first | with_reducible rfl | (simp [dgOK, dgN, bI, eq_true c4, c8, c27]; done)
        have eW := congrArg (fun zZ => ([oRe ro zZ ti (bI ip) (bI hp) ca] : va_W)) e_5
        have hP : va_P D vwCl [oRe ro (dgN nu dg) ti (bI ip) (bI hp) ca] _ := Eq.subst (motive := fun w => va_P D vwCl w _) eW hP
        have hD : va_D A [oRe ro (dgN nu dg) ti (bI ip) (bI hp) ca] := Eq.subst (motive := fun w => va_D A w) eW hD
        have e_6 : 1 = bI (dgOK nu dg) := by first | with_reducible rfl | (simp [dgOK, dgN, bI, eq_true c4, c8, c27]; done)
        refine W.eq (g2 := F0 m 46 ls [.int (bI (dgOK nu dg))]) (congrArg (fun z => F0 m 46 ls [.int z]) e_6) ?_
        exact hret _ _ _ _ _ (fun Qc free hq hf => W.zret hx hb hr (bI_nar _) hq hf dX4_acceptDigit_46 hlk) hP hD hS
      · refine lv_iconst (v := 0) hx hb dX4_acceptDigit_30 (by decide) ?_
        have e_7 : nu = dgN nu dg := by first | with_reducible rfl | (simp [dgOK, dgN, bI, eq_true c4, c8, c27]; done)
        have eW := congrArg (fun zZ => ([oRe ro zZ ti (bI ip) (bI hp) ca] : va_W)) e_7
        have hP : va_P D vwCl [oRe ro (dgN nu dg) ti (bI ip) (bI hp) ca] _ := Eq.subst (motive := fun w => va_P D vwCl w _) eW hP
        have hD : va_D A [oRe ro (dgN nu dg) ti (bI ip) (bI hp) ca] := Eq.subst (motive := fun w => va_D A w) eW hD
        have e_8 : 0 = bI (dgOK nu dg) := by first | with_reducible rfl | (simp [dgOK, dgN, bI, eq_true c4, c8, c27]; done)
        refine W.eq (g2 := F0 m 31 ls [.int (bI (dgOK nu dg))]) (congrArg (fun z => F0 m 31 ls [.int z]) e_8) ?_
        exact hret _ _ _ _ _ (fun Qc free hq hf => W.zret hx hb hr (bI_nar _) hq hf dX4_acceptDigit_31 hlk) hP hD hS
    · refine lv_iconst (v := 1) hx hb dX4_acceptDigit_11 (by decide) ?_
      refine lv_goto (tgt := 16) hx hb dX4_acceptDigit_12 (by decide) ?_
      refine lv_istore_n (lv' := [(2, .int 1), (0, .ref ro), (1, .int dg)]) hx hb dX4_acceptDigit_16 rfl hl (by decide) rfl (fun ls hl => ?_)
      refine lv_iload_n hx hb dX4_acceptDigit_17 rfl (lv_at hl 0 rfl) ?_
      refine lv_if_ne (tgt := 30) hx hb dX4_acceptDigit_18 (by decide) (fun _ => ?_) (fun c_x => absurd c_x (by decide : ¬ ((1 : Int32) = 0)))
      refine lv_iconst (v := 0) hx hb dX4_acceptDigit_30 (by decide) ?_
      have e_9 : nu = dgN nu dg := by first | with_reducible rfl | (simp [dgOK, dgN, bI, eq_true c4, eq_true c8]; done)
      have eW := congrArg (fun zZ => ([oRe ro zZ ti (bI ip) (bI hp) ca] : va_W)) e_9
      have hP : va_P D vwCl [oRe ro (dgN nu dg) ti (bI ip) (bI hp) ca] _ := Eq.subst (motive := fun w => va_P D vwCl w _) eW hP
      have hD : va_D A [oRe ro (dgN nu dg) ti (bI ip) (bI hp) ca] := Eq.subst (motive := fun w => va_D A w) eW hD
      have e_10 : 0 = bI (dgOK nu dg) := by first | with_reducible rfl | (simp [dgOK, dgN, bI, eq_true c4, eq_true c8]; done)
      refine W.eq (g2 := F0 m 31 ls [.int (bI (dgOK nu dg))]) (congrArg (fun z => F0 m 31 ls [.int z]) e_10) ?_
      exact hret _ _ _ _ _ (fun Qc free hq hf => W.zret hx hb hr (bI_nar _) hq hf dX4_acceptDigit_31 hlk) hP hD hS
abbrev rX4_acceptName : Room := { frames := 1, cells := 0, slots := 0, locals := 21 }
set_option maxHeartbeats 4000000 in
set_option maxRecDepth 100000 in
theorem c_X4_acceptName (l : Launch) (D : va_G) (T : Nat → ClassId) (ro : Nat) (nu ti : Int32) (ip hp : Bool) (ca : Int32) : kM l D T yX4_acceptName wsX4_acceptName rX4_acceptName [.ref ro] [oRe ro nu ti (bI ip) (bI hp) ca] (some (.int (bI (nmOK nu)))) [oRe ro (nmN nu) ti (bI ip) (bI (nmH nu hp)) (nmC nu ti ca)] := by
  refine kM.of (cc := cX4_acceptName) (maxL := 1) (ret := some .boolean) (by decide) rfl (Nat.le_of_ble_eq_true rfl) ?_
  intro p e s m below meth c A Q ls hx hb hml hown hr hlk hts hC hP hD hS hA hl hret
  have iX4 : ∀ w ∈ wsX40, w ∈ wsX4_acceptName := (fun _ h => List.mem_cons_of_mem _ (List.mem_append_right _ h))
  have hl : lv_has ls 1 [(0, .ref ro)] := hl
  have hP : va_P D vwCl [oRe ro nu ti (bI ip) (bI hp) ca] s.heap := hP
  have hD : va_D A [oRe ro nu ti (bI ip) (bI hp) ca] := hD
  refine lv_aload_n hx hb dX4_acceptName_0 rfl (lv_at hl 0 rfl) ?_
  refine va_get (D := D) (ci := 3) (v := .int nu) (C := RX4) (T := TX4) (N := 5) hx hb hts iX4 hown hC.1 hP 0 rfl rfl 0 (by decide) (hts (.fieldLink RX4 9 "ParrotCounts$Reading" "number" "I") (List.mem_of_getElem? (i := 1) rfl)) (fun _ h => h) rfl dX4_acceptName_1 ?_
  refine lv_if_eq (tgt := 17) hx hb dX4_acceptName_4 (by decide) (fun c4 => ?_) (fun c4 => ?_)
  · refine lv_aload_n hx hb dX4_acceptName_17 rfl (lv_at hl 0 rfl) ?_
    refine lv_dup hx hb dX4_acceptName_18 rfl ?_
    refine va_get (D := D) (ci := 3) (v := .int ca) (C := RX4) (T := TX4) (N := 5) hx hb hts iX4 hown hC.1 hP 0 rfl rfl 4 (by decide) (hts (.fieldLink RX4 25 "ParrotCounts$Reading" "calls" "I") (List.mem_of_getElem? (i := 2) rfl)) (fun _ h => h) rfl dX4_acceptName_19 ?_
    refine lv_aload_n hx hb dX4_acceptName_22 rfl (lv_at hl 0 rfl) ?_
    refine va_get (D := D) (ci := 3) (v := .int ti) (C := RX4) (T := TX4) (N := 5) hx hb hts iX4 hown hC.1 hP 0 rfl rfl 1 (by decide) (hts (.fieldLink RX4 15 "ParrotCounts$Reading" "times" "I") (List.mem_of_getElem? (i := 3) rfl)) (fun _ h => h) rfl dX4_acceptName_23 ?_
    refine lv_aload_n hx hb dX4_acceptName_26 rfl (lv_at hl 0 rfl) ?_
    refine va_get (D := D) (ci := 3) (v := .int nu) (C := RX4) (T := TX4) (N := 5) hx hb hts iX4 hown hC.1 hP 0 rfl rfl 0 (by decide) (hts (.fieldLink RX4 9 "ParrotCounts$Reading" "number" "I") (List.mem_of_getElem? (i := 1) rfl)) (fun _ h => h) rfl dX4_acceptName_27 ?_
    refine lv_iconst (v := 1) hx hb dX4_acceptName_30 (by decide) ?_
    refine va_mmax hx hb (hml.trans hl.1.symm) hown (hts (.methodLink RX4 49 Lib.Math.max.name) (List.mem_of_getElem? (i := 4) rfl)) (hts (.static Lib.Math.max.name) (List.mem_of_getElem? (i := 5) rfl)) (hts (.initialized "java/lang/Math") (List.mem_of_getElem? (i := 6) rfl)) (hts (.code Lib.Math.max.name Lib.Math.max.code 2 (some .int)) (List.mem_of_getElem? (i := 7) rfl)) (Nat.le_of_ble_eq_true rfl) (Nat.le_of_ble_eq_true rfl) (Nat.zero_le _) (Nat.zero_le _) dX4_acceptName_31 ?_
    refine lv_imul hx hb dX4_acceptName_34 ?_
    refine lv_iadd hx hb dX4_acceptName_35 ?_
    refine va_put (D := D) (ci := 3) (v := .int (ca + (ti * (if nu < 1 then 1 else nu)))) (ty := .int) (C := RX4) (T := TX4) (N := 5) hx hb hts iX4 tyX4 tyX4_ok nmX4 hown hC.1 hP hD hS 0 rfl rfl 4 (by decide) (hts (.fieldLink RX4 25 "ParrotCounts$Reading" "calls" "I") (List.mem_of_getElem? (i := 2) rfl)) (fun _ h9 => h9) rfl (by decide +kernel) rfl rfl (Nat.le_of_ble_eq_true rfl) dX4_acceptName_36 (fun H locs hP hD hS => ?_)
    have hP : va_P D vwCl [oRe ro nu ti (bI ip) (bI hp) (ca + (ti * (if nu < 1 then 1 else nu)))] H := hP
    have hD : va_D A [oRe ro nu ti (bI ip) (bI hp) (ca + (ti * (if nu < 1 then 1 else nu)))] := hD
    refine lv_aload_n hx hb dX4_acceptName_39 rfl (lv_at hl 0 rfl) ?_
    refine lv_iconst (v := 0) hx hb dX4_acceptName_40 (by decide) ?_
    refine va_put (D := D) (ci := 3) (v := .int 0) (ty := .int) (C := RX4) (T := TX4) (N := 5) hx hb hts iX4 tyX4 tyX4_ok nmX4 hown hC.1 hP hD hS 0 rfl rfl 0 (by decide) (hts (.fieldLink RX4 9 "ParrotCounts$Reading" "number" "I") (List.mem_of_getElem? (i := 1) rfl)) (fun _ h9 => h9) rfl (by decide +kernel) rfl rfl (Nat.le_of_ble_eq_true rfl) dX4_acceptName_41 (fun H locs hP hD hS => ?_)
    have hP : va_P D vwCl [oRe ro 0 ti (bI ip) (bI hp) (ca + (ti * (if nu < 1 then 1 else nu)))] H := hP
    have hD : va_D A [oRe ro 0 ti (bI ip) (bI hp) (ca + (ti * (if nu < 1 then 1 else nu)))] := hD
    refine lv_aload_n hx hb dX4_acceptName_44 rfl (lv_at hl 0 rfl) ?_
    refine lv_iconst (v := 1) hx hb dX4_acceptName_45 (by decide) ?_
    refine va_put (D := D) (ci := 3) (v := .int 1) (ty := .boolean) (C := RX4) (T := TX4) (N := 5) hx hb hts iX4 tyX4 tyX4_ok nmX4 hown hC.1 hP hD hS 0 rfl rfl 3 (by decide) (hts (.fieldLink RX4 22 "ParrotCounts$Reading" "hasPhrase" "Z") (List.mem_of_getElem? (i := 8) rfl)) (fun _ h9 => h9) rfl (by decide +kernel) rfl rfl (Nat.le_of_ble_eq_true rfl) dX4_acceptName_46 (fun H locs hP hD hS => ?_)
    have hP : va_P D vwCl [oRe ro 0 ti (bI ip) 1 (ca + (ti * (if nu < 1 then 1 else nu)))] H := hP
    have hD : va_D A [oRe ro 0 ti (bI ip) 1 (ca + (ti * (if nu < 1 then 1 else nu)))] := hD
    refine lv_iconst (v := 1) hx hb dX4_acceptName_49 (by decide) ?_
    have e_1 : 0 = nmN nu := by first | with_reducible rfl | (simp [nmOK, nmN, nmH, nmC, mx1, bI, eq_true c4]; done)
    have e_2 : 1 = bI (nmH nu hp) := by first | with_reducible rfl | (simp [nmOK, nmN, nmH, nmC, mx1, bI, eq_true c4]; done)
    have e_3 : ca + (ti * (if nu < 1 then 1 else nu)) = nmC nu ti ca := by first | with_reducible rfl | (simp [nmOK, nmN, nmH, nmC, mx1, bI, eq_true c4]; done)
    have eW := (congrArg (fun zZ => ([oRe ro zZ ti (bI ip) 1 (ca + (ti * (if nu < 1 then 1 else nu)))] : va_W)) e_1).trans ((congrArg (fun zZ => ([oRe ro (nmN nu) ti (bI ip) zZ (ca + (ti * (if nu < 1 then 1 else nu)))] : va_W)) e_2).trans (congrArg (fun zZ => ([oRe ro (nmN nu) ti (bI ip) (bI (nmH nu hp)) zZ] : va_W)) e_3))
    have hP : va_P D vwCl [oRe ro (nmN nu) ti (bI ip) (bI (nmH nu hp)) (nmC nu ti ca)] _ := Eq.subst (motive := fun w => va_P D vwCl w _) eW hP
    have hD : va_D A [oRe ro (nmN nu) ti (bI ip) (bI (nmH nu hp)) (nmC nu ti ca)] := Eq.subst (motive := fun w => va_D A w) eW hD
    have e_4 : 1 = bI (nmOK nu) := by first | with_reducible rfl | (simp [nmOK, nmN, nmH, nmC, mx1, bI, eq_true c4]; done)
    refine W.eq (g2 := F0 m 50 ls [.int (bI (nmOK nu))]) (congrArg (fun z => F0 m 50 ls [.int z]) e_4) ?_
    exact hret _ _ _ _ _ (fun Qc free hq hf => W.zret hx hb hr (bI_nar _) hq hf dX4_acceptName_50 hlk) hP hD hS
  · refine lv_aload_n hx hb dX4_acceptName_7 rfl (lv_at hl 0 rfl) ?_
    refine va_get (D := D) (ci := 3) (v := .int nu) (C := RX4) (T := TX4) (N := 5) hx hb hts iX4 hown hC.1 hP 0 rfl rfl 0 (by decide) (hts (.fieldLink RX4 9 "ParrotCounts$Reading" "number" "I") (List.mem_of_getElem? (i := 1) rfl)) (fun _ h => h) rfl dX4_acceptName_8 ?_
    refine lv_iconst (v := 2) hx hb dX4_acceptName_11 (by decide) ?_
    refine lv_icmp_ge (tgt := 17) hx hb dX4_acceptName_12 (by decide) (fun c12 => ?_) (fun c12 => ?_)
    · refine lv_aload_n hx hb dX4_acceptName_17 rfl (lv_at hl 0 rfl) ?_
      refine lv_dup hx hb dX4_acceptName_18 rfl ?_
      refine va_get (D := D) (ci := 3) (v := .int ca) (C := RX4) (T := TX4) (N := 5) hx hb hts iX4 hown hC.1 hP 0 rfl rfl 4 (by decide) (hts (.fieldLink RX4 25 "ParrotCounts$Reading" "calls" "I") (List.mem_of_getElem? (i := 2) rfl)) (fun _ h => h) rfl dX4_acceptName_19 ?_
      refine lv_aload_n hx hb dX4_acceptName_22 rfl (lv_at hl 0 rfl) ?_
      refine va_get (D := D) (ci := 3) (v := .int ti) (C := RX4) (T := TX4) (N := 5) hx hb hts iX4 hown hC.1 hP 0 rfl rfl 1 (by decide) (hts (.fieldLink RX4 15 "ParrotCounts$Reading" "times" "I") (List.mem_of_getElem? (i := 3) rfl)) (fun _ h => h) rfl dX4_acceptName_23 ?_
      refine lv_aload_n hx hb dX4_acceptName_26 rfl (lv_at hl 0 rfl) ?_
      refine va_get (D := D) (ci := 3) (v := .int nu) (C := RX4) (T := TX4) (N := 5) hx hb hts iX4 hown hC.1 hP 0 rfl rfl 0 (by decide) (hts (.fieldLink RX4 9 "ParrotCounts$Reading" "number" "I") (List.mem_of_getElem? (i := 1) rfl)) (fun _ h => h) rfl dX4_acceptName_27 ?_
      refine lv_iconst (v := 1) hx hb dX4_acceptName_30 (by decide) ?_
      refine va_mmax hx hb (hml.trans hl.1.symm) hown (hts (.methodLink RX4 49 Lib.Math.max.name) (List.mem_of_getElem? (i := 4) rfl)) (hts (.static Lib.Math.max.name) (List.mem_of_getElem? (i := 5) rfl)) (hts (.initialized "java/lang/Math") (List.mem_of_getElem? (i := 6) rfl)) (hts (.code Lib.Math.max.name Lib.Math.max.code 2 (some .int)) (List.mem_of_getElem? (i := 7) rfl)) (Nat.le_of_ble_eq_true rfl) (Nat.le_of_ble_eq_true rfl) (Nat.zero_le _) (Nat.zero_le _) dX4_acceptName_31 ?_
      refine lv_imul hx hb dX4_acceptName_34 ?_
      refine lv_iadd hx hb dX4_acceptName_35 ?_
      refine va_put (D := D) (ci := 3) (v := .int (ca + (ti * (if nu < 1 then 1 else nu)))) (ty := .int) (C := RX4) (T := TX4) (N := 5) hx hb hts iX4 tyX4 tyX4_ok nmX4 hown hC.1 hP hD hS 0 rfl rfl 4 (by decide) (hts (.fieldLink RX4 25 "ParrotCounts$Reading" "calls" "I") (List.mem_of_getElem? (i := 2) rfl)) (fun _ h9 => h9) rfl (by decide +kernel) rfl rfl (Nat.le_of_ble_eq_true rfl) dX4_acceptName_36 (fun H locs hP hD hS => ?_)
      have hP : va_P D vwCl [oRe ro nu ti (bI ip) (bI hp) (ca + (ti * (if nu < 1 then 1 else nu)))] H := hP
      have hD : va_D A [oRe ro nu ti (bI ip) (bI hp) (ca + (ti * (if nu < 1 then 1 else nu)))] := hD
      refine lv_aload_n hx hb dX4_acceptName_39 rfl (lv_at hl 0 rfl) ?_
      refine lv_iconst (v := 0) hx hb dX4_acceptName_40 (by decide) ?_
      refine va_put (D := D) (ci := 3) (v := .int 0) (ty := .int) (C := RX4) (T := TX4) (N := 5) hx hb hts iX4 tyX4 tyX4_ok nmX4 hown hC.1 hP hD hS 0 rfl rfl 0 (by decide) (hts (.fieldLink RX4 9 "ParrotCounts$Reading" "number" "I") (List.mem_of_getElem? (i := 1) rfl)) (fun _ h9 => h9) rfl (by decide +kernel) rfl rfl (Nat.le_of_ble_eq_true rfl) dX4_acceptName_41 (fun H locs hP hD hS => ?_)
      have hP : va_P D vwCl [oRe ro 0 ti (bI ip) (bI hp) (ca + (ti * (if nu < 1 then 1 else nu)))] H := hP
      have hD : va_D A [oRe ro 0 ti (bI ip) (bI hp) (ca + (ti * (if nu < 1 then 1 else nu)))] := hD
      refine lv_aload_n hx hb dX4_acceptName_44 rfl (lv_at hl 0 rfl) ?_
      refine lv_iconst (v := 1) hx hb dX4_acceptName_45 (by decide) ?_
      refine va_put (D := D) (ci := 3) (v := .int 1) (ty := .boolean) (C := RX4) (T := TX4) (N := 5) hx hb hts iX4 tyX4 tyX4_ok nmX4 hown hC.1 hP hD hS 0 rfl rfl 3 (by decide) (hts (.fieldLink RX4 22 "ParrotCounts$Reading" "hasPhrase" "Z") (List.mem_of_getElem? (i := 8) rfl)) (fun _ h9 => h9) rfl (by decide +kernel) rfl rfl (Nat.le_of_ble_eq_true rfl) dX4_acceptName_46 (fun H locs hP hD hS => ?_)
      have hP : va_P D vwCl [oRe ro 0 ti (bI ip) 1 (ca + (ti * (if nu < 1 then 1 else nu)))] H := hP
      have hD : va_D A [oRe ro 0 ti (bI ip) 1 (ca + (ti * (if nu < 1 then 1 else nu)))] := hD
      refine lv_iconst (v := 1) hx hb dX4_acceptName_49 (by decide) ?_
      have e_5 : 0 = nmN nu := by first | with_reducible rfl | (simp [nmOK, nmN, nmH, nmC, mx1, bI, c4, c12]; done)
      have e_6 : 1 = bI (nmH nu hp) := by first | with_reducible rfl | (simp [nmOK, nmN, nmH, nmC, mx1, bI, c4, c12]; done)
      have e_7 : ca + (ti * (if nu < 1 then 1 else nu)) = nmC nu ti ca := by first | with_reducible rfl | (simp [nmOK, nmN, nmH, nmC, mx1, bI, c4, c12]; done)
      have eW := (congrArg (fun zZ => ([oRe ro zZ ti (bI ip) 1 (ca + (ti * (if nu < 1 then 1 else nu)))] : va_W)) e_5).trans ((congrArg (fun zZ => ([oRe ro (nmN nu) ti (bI ip) zZ (ca + (ti * (if nu < 1 then 1 else nu)))] : va_W)) e_6).trans (congrArg (fun zZ => ([oRe ro (nmN nu) ti (bI ip) (bI (nmH nu hp)) zZ] : va_W)) e_7))
      have hP : va_P D vwCl [oRe ro (nmN nu) ti (bI ip) (bI (nmH nu hp)) (nmC nu ti ca)] _ := Eq.subst (motive := fun w => va_P D vwCl w _) eW hP
      have hD : va_D A [oRe ro (nmN nu) ti (bI ip) (bI (nmH nu hp)) (nmC nu ti ca)] := Eq.subst (motive := fun w => va_D A w) eW hD
      have e_8 : 1 = bI (nmOK nu) := by first | with_reducible rfl | (simp [nmOK, nmN, nmH, nmC, mx1, bI, c4, c12]; done)
      refine W.eq (g2 := F0 m 50 ls [.int (bI (nmOK nu))]) (congrArg (fun z => F0 m 50 ls [.int z]) e_8) ?_
      exact hret _ _ _ _ _ (fun Qc free hq hf => W.zret hx hb hr (bI_nar _) hq hf dX4_acceptName_50 hlk) hP hD hS
    · refine lv_iconst (v := 0) hx hb dX4_acceptName_15 (by decide) ?_
      have e_9 : nu = nmN nu := by first | with_reducible rfl | (simp [nmOK, nmN, nmH, nmC, mx1, bI, c4, c12]; done)
      have e_10 : bI hp = bI (nmH nu hp) := by first | with_reducible rfl | (simp [nmOK, nmN, nmH, nmC, mx1, bI, c4, c12]; done)
      have e_11 : ca = nmC nu ti ca := by first | with_reducible rfl | (simp [nmOK, nmN, nmH, nmC, mx1, bI, c4, c12]; done)
      have eW := (congrArg (fun zZ => ([oRe ro zZ ti (bI ip) (bI hp) ca] : va_W)) e_9).trans ((congrArg (fun zZ => ([oRe ro (nmN nu) ti (bI ip) zZ ca] : va_W)) e_10).trans (congrArg (fun zZ => ([oRe ro (nmN nu) ti (bI ip) (bI (nmH nu hp)) zZ] : va_W)) e_11))
      have hP : va_P D vwCl [oRe ro (nmN nu) ti (bI ip) (bI (nmH nu hp)) (nmC nu ti ca)] _ := Eq.subst (motive := fun w => va_P D vwCl w _) eW hP
      have hD : va_D A [oRe ro (nmN nu) ti (bI ip) (bI (nmH nu hp)) (nmC nu ti ca)] := Eq.subst (motive := fun w => va_D A w) eW hD
      have e_12 : 0 = bI (nmOK nu) := by first | with_reducible rfl | (simp [nmOK, nmN, nmH, nmC, mx1, bI, c4, c12]; done)
      refine W.eq (g2 := F0 m 16 ls [.int (bI (nmOK nu))]) (congrArg (fun z => F0 m 16 ls [.int z]) e_12) ?_
      exact hret _ _ _ _ _ (fun Qc free hq hf => W.zret hx hb hr (bI_nar _) hq hf dX4_acceptName_16 hlk) hP hD hS
abbrev rX4_acceptOpening : Room := { frames := 0, cells := 0, slots := 0, locals := 0 }
set_option maxHeartbeats 4000000 in
set_option maxRecDepth 100000 in
theorem c_X4_acceptOpening (l : Launch) (D : va_G) (T : Nat → ClassId) (ro : Nat) (nu ti : Int32) (ip hp : Bool) (ca : Int32) : kM l D T yX4_acceptOpening wsX4_acceptOpening rX4_acceptOpening [.ref ro] [oRe ro nu ti (bI ip) (bI hp) ca] (some (.int (bI (opOK nu ip)))) [oRe ro (opN nu ip) (opT nu ti ip) (bI (opI nu ip)) (bI (opH nu ip hp)) ca] := by
  refine kM.of (cc := cX4_acceptOpening) (maxL := 1) (ret := some .boolean) (by decide) rfl (Nat.le_of_ble_eq_true rfl) ?_
  intro p e s m below meth c A Q ls hx hb hml hown hr hlk hts hC hP hD hS hA hl hret
  have iX4 : ∀ w ∈ wsX40, w ∈ wsX4_acceptOpening := (fun _ h => List.mem_cons_of_mem _ (List.mem_append_right _ h))
  have hl : lv_has ls 1 [(0, .ref ro)] := hl
  have hP : va_P D vwCl [oRe ro nu ti (bI ip) (bI hp) ca] s.heap := hP
  have hD : va_D A [oRe ro nu ti (bI ip) (bI hp) ca] := hD
  refine lv_aload_n hx hb dX4_acceptOpening_0 rfl (lv_at hl 0 rfl) ?_
  refine va_get (D := D) (ci := 3) (v := .int (bI ip)) (C := RX4) (T := TX4) (N := 5) hx hb hts iX4 hown hC.1 hP 0 rfl rfl 2 (by decide) (hts (.fieldLink RX4 18 "ParrotCounts$Reading" "isInParentheses" "Z") (List.mem_of_getElem? (i := 1) rfl)) (fun _ h => h) rfl dX4_acceptOpening_1 ?_
  refine lv_if_ne (tgt := 15) hx hb dX4_acceptOpening_4 (by decide) (fun c4 => ?_) (fun c4 => ?_)
  · have c4 := (bI0n _).mp c4
    refine lv_iconst (v := 0) hx hb dX4_acceptOpening_15 (by decide) ?_
    have e_1 : nu = opN nu ip := by first | with_reducible rfl | (simp [opOK, opN, opT, opI, opH, bI, c4]; done)
    have e_2 : ti = opT nu ti ip := by first | with_reducible rfl | (simp [opOK, opN, opT, opI, opH, bI, c4]; done)
    have e_3 : bI ip = bI (opI nu ip) := by first | with_reducible rfl | (simp [opOK, opN, opT, opI, opH, bI, c4]; done)
    have e_4 : bI hp = bI (opH nu ip hp) := by first | with_reducible rfl | (simp [opOK, opN, opT, opI, opH, bI, c4]; done)
    have eW := (congrArg (fun zZ => ([oRe ro zZ ti (bI ip) (bI hp) ca] : va_W)) e_1).trans ((congrArg (fun zZ => ([oRe ro (opN nu ip) zZ (bI ip) (bI hp) ca] : va_W)) e_2).trans ((congrArg (fun zZ => ([oRe ro (opN nu ip) (opT nu ti ip) zZ (bI hp) ca] : va_W)) e_3).trans (congrArg (fun zZ => ([oRe ro (opN nu ip) (opT nu ti ip) (bI (opI nu ip)) zZ ca] : va_W)) e_4)))
    have hP : va_P D vwCl [oRe ro (opN nu ip) (opT nu ti ip) (bI (opI nu ip)) (bI (opH nu ip hp)) ca] _ := Eq.subst (motive := fun w => va_P D vwCl w _) eW hP
    have hD : va_D A [oRe ro (opN nu ip) (opT nu ti ip) (bI (opI nu ip)) (bI (opH nu ip hp)) ca] := Eq.subst (motive := fun w => va_D A w) eW hD
    have e_5 : 0 = bI (opOK nu ip) := by first | with_reducible rfl | (simp [opOK, opN, opT, opI, opH, bI, c4]; done)
    refine W.eq (g2 := F0 m 16 ls [.int (bI (opOK nu ip))]) (congrArg (fun z => F0 m 16 ls [.int z]) e_5) ?_
    exact hret _ _ _ _ _ (fun Qc free hq hf => W.zret hx hb hr (bI_nar _) hq hf dX4_acceptOpening_16 hlk) hP hD hS
  · have c4 := (bI0 _).mp c4
    refine lv_aload_n hx hb dX4_acceptOpening_7 rfl (lv_at hl 0 rfl) ?_
    refine va_get (D := D) (ci := 3) (v := .int nu) (C := RX4) (T := TX4) (N := 5) hx hb hts iX4 hown hC.1 hP 0 rfl rfl 0 (by decide) (hts (.fieldLink RX4 9 "ParrotCounts$Reading" "number" "I") (List.mem_of_getElem? (i := 2) rfl)) (fun _ h => h) rfl dX4_acceptOpening_8 ?_
    refine lv_iconst (v := 2) hx hb dX4_acceptOpening_11 (by decide) ?_
    refine lv_icmp_ge (tgt := 17) hx hb dX4_acceptOpening_12 (by decide) (fun c12 => ?_) (fun c12 => ?_)
    · refine lv_aload_n hx hb dX4_acceptOpening_17 rfl (lv_at hl 0 rfl) ?_
      refine lv_aload_n hx hb dX4_acceptOpening_18 rfl (lv_at hl 0 rfl) ?_
      refine va_get (D := D) (ci := 3) (v := .int nu) (C := RX4) (T := TX4) (N := 5) hx hb hts iX4 hown hC.1 hP 0 rfl rfl 0 (by decide) (hts (.fieldLink RX4 9 "ParrotCounts$Reading" "number" "I") (List.mem_of_getElem? (i := 2) rfl)) (fun _ h => h) rfl dX4_acceptOpening_19 ?_
      refine va_put (D := D) (ci := 3) (v := .int nu) (ty := .int) (C := RX4) (T := TX4) (N := 5) hx hb hts iX4 tyX4 tyX4_ok nmX4 hown hC.1 hP hD hS 0 rfl rfl 1 (by decide) (hts (.fieldLink RX4 15 "ParrotCounts$Reading" "times" "I") (List.mem_of_getElem? (i := 3) rfl)) (fun _ h9 => h9) rfl (by decide +kernel) rfl rfl (Nat.le_of_ble_eq_true rfl) dX4_acceptOpening_22 (fun H locs hP hD hS => ?_)
      have hP : va_P D vwCl [oRe ro nu nu (bI ip) (bI hp) ca] H := hP
      have hD : va_D A [oRe ro nu nu (bI ip) (bI hp) ca] := hD
      refine lv_aload_n hx hb dX4_acceptOpening_25 rfl (lv_at hl 0 rfl) ?_
      refine lv_iconst (v := 0) hx hb dX4_acceptOpening_26 (by decide) ?_
      refine va_put (D := D) (ci := 3) (v := .int 0) (ty := .int) (C := RX4) (T := TX4) (N := 5) hx hb hts iX4 tyX4 tyX4_ok nmX4 hown hC.1 hP hD hS 0 rfl rfl 0 (by decide) (hts (.fieldLink RX4 9 "ParrotCounts$Reading" "number" "I") (List.mem_of_getElem? (i := 2) rfl)) (fun _ h9 => h9) rfl (by decide +kernel) rfl rfl (Nat.le_of_ble_eq_true rfl) dX4_acceptOpening_27 (fun H locs hP hD hS => ?_)
      have hP : va_P D vwCl [oRe ro 0 nu (bI ip) (bI hp) ca] H := hP
      have hD : va_D A [oRe ro 0 nu (bI ip) (bI hp) ca] := hD
      refine lv_aload_n hx hb dX4_acceptOpening_30 rfl (lv_at hl 0 rfl) ?_
      refine lv_iconst (v := 1) hx hb dX4_acceptOpening_31 (by decide) ?_
      refine va_put (D := D) (ci := 3) (v := .int 1) (ty := .boolean) (C := RX4) (T := TX4) (N := 5) hx hb hts iX4 tyX4 tyX4_ok nmX4 hown hC.1 hP hD hS 0 rfl rfl 2 (by decide) (hts (.fieldLink RX4 18 "ParrotCounts$Reading" "isInParentheses" "Z") (List.mem_of_getElem? (i := 1) rfl)) (fun _ h9 => h9) rfl (by decide +kernel) rfl rfl (Nat.le_of_ble_eq_true rfl) dX4_acceptOpening_32 (fun H locs hP hD hS => ?_)
      have hP : va_P D vwCl [oRe ro 0 nu 1 (bI hp) ca] H := hP
      have hD : va_D A [oRe ro 0 nu 1 (bI hp) ca] := hD
      refine lv_aload_n hx hb dX4_acceptOpening_35 rfl (lv_at hl 0 rfl) ?_
      refine lv_iconst (v := 0) hx hb dX4_acceptOpening_36 (by decide) ?_
      refine va_put (D := D) (ci := 3) (v := .int 0) (ty := .boolean) (C := RX4) (T := TX4) (N := 5) hx hb hts iX4 tyX4 tyX4_ok nmX4 hown hC.1 hP hD hS 0 rfl rfl 3 (by decide) (hts (.fieldLink RX4 22 "ParrotCounts$Reading" "hasPhrase" "Z") (List.mem_of_getElem? (i := 4) rfl)) (fun _ h9 => h9) rfl (by decide +kernel) rfl rfl (Nat.le_of_ble_eq_true rfl) dX4_acceptOpening_37 (fun H locs hP hD hS => ?_)
      have hP : va_P D vwCl [oRe ro 0 nu 1 0 ca] H := hP
      have hD : va_D A [oRe ro 0 nu 1 0 ca] := hD
      refine lv_iconst (v := 1) hx hb dX4_acceptOpening_40 (by decide) ?_
      have e_6 : 0 = opN nu ip := by first | with_reducible rfl | (simp [opOK, opN, opT, opI, opH, bI, c4, c12]; done)
      have e_7 : nu = opT nu ti ip := by first | with_reducible rfl | (simp [opOK, opN, opT, opI, opH, bI, c4, c12]; done)
      have e_8 : 1 = bI (opI nu ip) := by first | with_reducible rfl | (simp [opOK, opN, opT, opI, opH, bI, c4, c12]; done)
      have e_9 : 0 = bI (opH nu ip hp) := by first | with_reducible rfl | (simp [opOK, opN, opT, opI, opH, bI, c4, c12]; done)
      have eW := (congrArg (fun zZ => ([oRe ro zZ nu 1 0 ca] : va_W)) e_6).trans ((congrArg (fun zZ => ([oRe ro (opN nu ip) zZ 1 0 ca] : va_W)) e_7).trans ((congrArg (fun zZ => ([oRe ro (opN nu ip) (opT nu ti ip) zZ 0 ca] : va_W)) e_8).trans (congrArg (fun zZ => ([oRe ro (opN nu ip) (opT nu ti ip) (bI (opI nu ip)) zZ ca] : va_W)) e_9)))
      have hP : va_P D vwCl [oRe ro (opN nu ip) (opT nu ti ip) (bI (opI nu ip)) (bI (opH nu ip hp)) ca] _ := Eq.subst (motive := fun w => va_P D vwCl w _) eW hP
      have hD : va_D A [oRe ro (opN nu ip) (opT nu ti ip) (bI (opI nu ip)) (bI (opH nu ip hp)) ca] := Eq.subst (motive := fun w => va_D A w) eW hD
      have e_10 : 1 = bI (opOK nu ip) := by first | with_reducible rfl | (simp [opOK, opN, opT, opI, opH, bI, c4, c12]; done)
      refine W.eq (g2 := F0 m 41 ls [.int (bI (opOK nu ip))]) (congrArg (fun z => F0 m 41 ls [.int z]) e_10) ?_
      exact hret _ _ _ _ _ (fun Qc free hq hf => W.zret hx hb hr (bI_nar _) hq hf dX4_acceptOpening_41 hlk) hP hD hS
    · refine lv_iconst (v := 0) hx hb dX4_acceptOpening_15 (by decide) ?_
      have e_11 : nu = opN nu ip := by first | with_reducible rfl | (simp [opOK, opN, opT, opI, opH, bI, c4, c12]; done)
      have e_12 : ti = opT nu ti ip := by first | with_reducible rfl | (simp [opOK, opN, opT, opI, opH, bI, c4, c12]; done)
      have e_13 : bI ip = bI (opI nu ip) := by first | with_reducible rfl | (simp [opOK, opN, opT, opI, opH, bI, c4, c12]; done)
      have e_14 : bI hp = bI (opH nu ip hp) := by first | with_reducible rfl | (simp [opOK, opN, opT, opI, opH, bI, c4, c12]; done)
      have eW := (congrArg (fun zZ => ([oRe ro zZ ti (bI ip) (bI hp) ca] : va_W)) e_11).trans ((congrArg (fun zZ => ([oRe ro (opN nu ip) zZ (bI ip) (bI hp) ca] : va_W)) e_12).trans ((congrArg (fun zZ => ([oRe ro (opN nu ip) (opT nu ti ip) zZ (bI hp) ca] : va_W)) e_13).trans (congrArg (fun zZ => ([oRe ro (opN nu ip) (opT nu ti ip) (bI (opI nu ip)) zZ ca] : va_W)) e_14)))
      have hP : va_P D vwCl [oRe ro (opN nu ip) (opT nu ti ip) (bI (opI nu ip)) (bI (opH nu ip hp)) ca] _ := Eq.subst (motive := fun w => va_P D vwCl w _) eW hP
      have hD : va_D A [oRe ro (opN nu ip) (opT nu ti ip) (bI (opI nu ip)) (bI (opH nu ip hp)) ca] := Eq.subst (motive := fun w => va_D A w) eW hD
      have e_15 : 0 = bI (opOK nu ip) := by first | with_reducible rfl | (simp [opOK, opN, opT, opI, opH, bI, c4, c12]; done)
      refine W.eq (g2 := F0 m 16 ls [.int (bI (opOK nu ip))]) (congrArg (fun z => F0 m 16 ls [.int z]) e_15) ?_
      exact hret _ _ _ _ _ (fun Qc free hq hf => W.zret hx hb hr (bI_nar _) hq hf dX4_acceptOpening_16 hlk) hP hD hS
abbrev rX4_acceptClosing : Room := { frames := 0, cells := 0, slots := 0, locals := 0 }
set_option maxHeartbeats 4000000 in
set_option maxRecDepth 100000 in
theorem c_X4_acceptClosing (l : Launch) (D : va_G) (T : Nat → ClassId) (ro : Nat) (nu ti : Int32) (ip hp : Bool) (ca : Int32) : kM l D T yX4_acceptClosing wsX4_acceptClosing rX4_acceptClosing [.ref ro] [oRe ro nu ti (bI ip) (bI hp) ca] (some (.int (bI (clOK nu ip hp)))) [oRe ro nu (clT nu ti ip hp) (bI (clI nu ip hp)) (bI hp) ca] := by
  refine kM.of (cc := cX4_acceptClosing) (maxL := 1) (ret := some .boolean) (by decide) rfl (Nat.le_of_ble_eq_true rfl) ?_
  intro p e s m below meth c A Q ls hx hb hml hown hr hlk hts hC hP hD hS hA hl hret
  have iX4 : ∀ w ∈ wsX40, w ∈ wsX4_acceptClosing := (fun _ h => List.mem_cons_of_mem _ (List.mem_append_right _ h))
  have hl : lv_has ls 1 [(0, .ref ro)] := hl
  have hP : va_P D vwCl [oRe ro nu ti (bI ip) (bI hp) ca] s.heap := hP
  have hD : va_D A [oRe ro nu ti (bI ip) (bI hp) ca] := hD
  refine lv_aload_n hx hb dX4_acceptClosing_0 rfl (lv_at hl 0 rfl) ?_
  refine va_get (D := D) (ci := 3) (v := .int (bI ip)) (C := RX4) (T := TX4) (N := 5) hx hb hts iX4 hown hC.1 hP 0 rfl rfl 2 (by decide) (hts (.fieldLink RX4 18 "ParrotCounts$Reading" "isInParentheses" "Z") (List.mem_of_getElem? (i := 1) rfl)) (fun _ h => h) rfl dX4_acceptClosing_1 ?_
  refine lv_if_eq (tgt := 21) hx hb dX4_acceptClosing_4 (by decide) (fun c4 => ?_) (fun c4 => ?_)
  · have c4 := (bI0 _).mp c4
    refine lv_iconst (v := 0) hx hb dX4_acceptClosing_21 (by decide) ?_
    have e_1 : ti = clT nu ti ip hp := by first | with_reducible rfl | (simp [clOK, clT, clI, bI, c4]; done)
    have e_2 : bI ip = bI (clI nu ip hp) := by first | with_reducible rfl | (simp [clOK, clT, clI, bI, c4]; done)
    have eW := (congrArg (fun zZ => ([oRe ro nu zZ (bI ip) (bI hp) ca] : va_W)) e_1).trans (congrArg (fun zZ => ([oRe ro nu (clT nu ti ip hp) zZ (bI hp) ca] : va_W)) e_2)
    have hP : va_P D vwCl [oRe ro nu (clT nu ti ip hp) (bI (clI nu ip hp)) (bI hp) ca] _ := Eq.subst (motive := fun w => va_P D vwCl w _) eW hP
    have hD : va_D A [oRe ro nu (clT nu ti ip hp) (bI (clI nu ip hp)) (bI hp) ca] := Eq.subst (motive := fun w => va_D A w) eW hD
    have e_3 : 0 = bI (clOK nu ip hp) := by first | with_reducible rfl | (simp [clOK, clT, clI, bI, c4]; done)
    refine W.eq (g2 := F0 m 22 ls [.int (bI (clOK nu ip hp))]) (congrArg (fun z => F0 m 22 ls [.int z]) e_3) ?_
    exact hret _ _ _ _ _ (fun Qc free hq hf => W.zret hx hb hr (bI_nar _) hq hf dX4_acceptClosing_22 hlk) hP hD hS
  · have c4 := (bI0n _).mp c4
    refine lv_aload_n hx hb dX4_acceptClosing_7 rfl (lv_at hl 0 rfl) ?_
    refine va_get (D := D) (ci := 3) (v := .int nu) (C := RX4) (T := TX4) (N := 5) hx hb hts iX4 hown hC.1 hP 0 rfl rfl 0 (by decide) (hts (.fieldLink RX4 9 "ParrotCounts$Reading" "number" "I") (List.mem_of_getElem? (i := 2) rfl)) (fun _ h => h) rfl dX4_acceptClosing_8 ?_
    refine lv_if_ne (tgt := 21) hx hb dX4_acceptClosing_11 (by decide) (fun c11 => ?_) (fun c11 => ?_)
    · refine lv_iconst (v := 0) hx hb dX4_acceptClosing_21 (by decide) ?_
      have e_4 : ti = clT nu ti ip hp := by first | with_reducible rfl | (simp [clOK, clT, clI, bI, c4, c11]; done)
      have e_5 : bI ip = bI (clI nu ip hp) := by first | with_reducible rfl | (simp [clOK, clT, clI, bI, c4, c11]; done)
      have eW := (congrArg (fun zZ => ([oRe ro nu zZ (bI ip) (bI hp) ca] : va_W)) e_4).trans (congrArg (fun zZ => ([oRe ro nu (clT nu ti ip hp) zZ (bI hp) ca] : va_W)) e_5)
      have hP : va_P D vwCl [oRe ro nu (clT nu ti ip hp) (bI (clI nu ip hp)) (bI hp) ca] _ := Eq.subst (motive := fun w => va_P D vwCl w _) eW hP
      have hD : va_D A [oRe ro nu (clT nu ti ip hp) (bI (clI nu ip hp)) (bI hp) ca] := Eq.subst (motive := fun w => va_D A w) eW hD
      have e_6 : 0 = bI (clOK nu ip hp) := by first | with_reducible rfl | (simp [clOK, clT, clI, bI, c4, c11]; done)
      refine W.eq (g2 := F0 m 22 ls [.int (bI (clOK nu ip hp))]) (congrArg (fun z => F0 m 22 ls [.int z]) e_6) ?_
      exact hret _ _ _ _ _ (fun Qc free hq hf => W.zret hx hb hr (bI_nar _) hq hf dX4_acceptClosing_22 hlk) hP hD hS
    · refine lv_aload_n hx hb dX4_acceptClosing_14 rfl (lv_at hl 0 rfl) ?_
      refine va_get (D := D) (ci := 3) (v := .int (bI hp)) (C := RX4) (T := TX4) (N := 5) hx hb hts iX4 hown hC.1 hP 0 rfl rfl 3 (by decide) (hts (.fieldLink RX4 22 "ParrotCounts$Reading" "hasPhrase" "Z") (List.mem_of_getElem? (i := 3) rfl)) (fun _ h => h) rfl dX4_acceptClosing_15 ?_
      refine lv_if_ne (tgt := 23) hx hb dX4_acceptClosing_18 (by decide) (fun c18 => ?_) (fun c18 => ?_)
      · have c18 := (bI0n _).mp c18
        refine lv_aload_n hx hb dX4_acceptClosing_23 rfl (lv_at hl 0 rfl) ?_
        refine lv_iconst (v := 1) hx hb dX4_acceptClosing_24 (by decide) ?_
        refine va_put (D := D) (ci := 3) (v := .int 1) (ty := .int) (C := RX4) (T := TX4) (N := 5) hx hb hts iX4 tyX4 tyX4_ok nmX4 hown hC.1 hP hD hS 0 rfl rfl 1 (by decide) (hts (.fieldLink RX4 15 "ParrotCounts$Reading" "times" "I") (List.mem_of_getElem? (i := 4) rfl)) (fun _ h9 => h9) rfl (by decide +kernel) rfl rfl (Nat.le_of_ble_eq_true rfl) dX4_acceptClosing_25 (fun H locs hP hD hS => ?_)
        have hP : va_P D vwCl [oRe ro nu 1 (bI ip) (bI hp) ca] H := hP
        have hD : va_D A [oRe ro nu 1 (bI ip) (bI hp) ca] := hD
        refine lv_aload_n hx hb dX4_acceptClosing_28 rfl (lv_at hl 0 rfl) ?_
        refine lv_iconst (v := 0) hx hb dX4_acceptClosing_29 (by decide) ?_
        refine va_put (D := D) (ci := 3) (v := .int 0) (ty := .boolean) (C := RX4) (T := TX4) (N := 5) hx hb hts iX4 tyX4 tyX4_ok nmX4 hown hC.1 hP hD hS 0 rfl rfl 2 (by decide) (hts (.fieldLink RX4 18 "ParrotCounts$Reading" "isInParentheses" "Z") (List.mem_of_getElem? (i := 1) rfl)) (fun _ h9 => h9) rfl (by decide +kernel) rfl rfl (Nat.le_of_ble_eq_true rfl) dX4_acceptClosing_30 (fun H locs hP hD hS => ?_)
        have hP : va_P D vwCl [oRe ro nu 1 0 (bI hp) ca] H := hP
        have hD : va_D A [oRe ro nu 1 0 (bI hp) ca] := hD
        refine lv_iconst (v := 1) hx hb dX4_acceptClosing_33 (by decide) ?_
        have e_7 : 1 = clT nu ti ip hp := by first | with_reducible rfl | (simp [clOK, clT, clI, bI, c4, eq_true c11, c18]; done)
        have e_8 : 0 = bI (clI nu ip hp) := by first | with_reducible rfl | (simp [clOK, clT, clI, bI, c4, eq_true c11, c18]; done)
        have eW := (congrArg (fun zZ => ([oRe ro nu zZ 0 (bI hp) ca] : va_W)) e_7).trans (congrArg (fun zZ => ([oRe ro nu (clT nu ti ip hp) zZ (bI hp) ca] : va_W)) e_8)
        have hP : va_P D vwCl [oRe ro nu (clT nu ti ip hp) (bI (clI nu ip hp)) (bI hp) ca] _ := Eq.subst (motive := fun w => va_P D vwCl w _) eW hP
        have hD : va_D A [oRe ro nu (clT nu ti ip hp) (bI (clI nu ip hp)) (bI hp) ca] := Eq.subst (motive := fun w => va_D A w) eW hD
        have e_9 : 1 = bI (clOK nu ip hp) := by first | with_reducible rfl | (simp [clOK, clT, clI, bI, c4, eq_true c11, c18]; done)
        refine W.eq (g2 := F0 m 34 ls [.int (bI (clOK nu ip hp))]) (congrArg (fun z => F0 m 34 ls [.int z]) e_9) ?_
        exact hret _ _ _ _ _ (fun Qc free hq hf => W.zret hx hb hr (bI_nar _) hq hf dX4_acceptClosing_34 hlk) hP hD hS
      · have c18 := (bI0 _).mp c18
        refine lv_iconst (v := 0) hx hb dX4_acceptClosing_21 (by decide) ?_
        have e_10 : ti = clT nu ti ip hp := by first | with_reducible rfl | (simp [clOK, clT, clI, bI, c4, eq_true c11, c18]; done)
        have e_11 : bI ip = bI (clI nu ip hp) := by first | with_reducible rfl | (simp [clOK, clT, clI, bI, c4, eq_true c11, c18]; done)
        have eW := (congrArg (fun zZ => ([oRe ro nu zZ (bI ip) (bI hp) ca] : va_W)) e_10).trans (congrArg (fun zZ => ([oRe ro nu (clT nu ti ip hp) zZ (bI hp) ca] : va_W)) e_11)
        have hP : va_P D vwCl [oRe ro nu (clT nu ti ip hp) (bI (clI nu ip hp)) (bI hp) ca] _ := Eq.subst (motive := fun w => va_P D vwCl w _) eW hP
        have hD : va_D A [oRe ro nu (clT nu ti ip hp) (bI (clI nu ip hp)) (bI hp) ca] := Eq.subst (motive := fun w => va_D A w) eW hD
        have e_12 : 0 = bI (clOK nu ip hp) := by first | with_reducible rfl | (simp [clOK, clT, clI, bI, c4, eq_true c11, c18]; done)
        refine W.eq (g2 := F0 m 22 ls [.int (bI (clOK nu ip hp))]) (congrArg (fun z => F0 m 22 ls [.int z]) e_12) ?_
        exact hret _ _ _ _ _ (fun Qc free hq hf => W.zret hx hb hr (bI_nar _) hq hf dX4_acceptClosing_22 hlk) hP hD hS
abbrev rX4_accept : Room := { frames := 2, cells := 0, slots := 0, locals := 41 }
set_option maxHeartbeats 4000000 in
set_option maxRecDepth 100000 in
theorem c_X4_accept (l : Launch) (D : va_G) (T : Nat → ClassId) (ro : Nat) (nu ti : Int32) (ip hp : Bool) (ca : Int32) (cx : Int32) : kM l D T yX4_accept wsX4_accept rX4_accept [.ref ro, .int cx] [oRe ro nu ti (bI ip) (bI hp) ca] (some (.int (bI (rdK nu ip hp cx)))) [oRe ro (rdS nu ti ip hp ca cx).1 (rdS nu ti ip hp ca cx).2.1 (bI (rdS nu ti ip hp ca cx).2.2.1) (bI (rdS nu ti ip hp ca cx).2.2.2.1) (rdS nu ti ip hp ca cx).2.2.2.2] := by
  refine kM.of (cc := cX4_accept) (maxL := 2) (ret := some .boolean) (by decide) rfl (Nat.le_of_ble_eq_true rfl) ?_
  intro p e s m below meth c A Q ls hx hb hml hown hr hlk hts hC hP hD hS hA hl hret
  have hl : lv_has ls 2 [(0, .ref ro), (1, .int cx)] := hl
  have hP : va_P D vwCl [oRe ro nu ti (bI ip) (bI hp) ca] s.heap := hP
  have hD : va_D A [oRe ro nu ti (bI ip) (bI hp) ca] := hD
  refine lv_iload_n hx hb dX4_accept_0 rfl (lv_at hl 1 rfl) ?_
  have hP := hP.sub (ws' := [] ++ [oRe ro nu ti (bI ip) (bI hp) ca]) [0] rfl
  have hD := hD.sub (ws' := [] ++ [oRe ro nu ti (bI ip) (bI hp) ca]) [0] (by decide) rfl
  refine kSN (As := [.int cx]) (rest := []) ⟨hx, hb, hml, hown, hts⟩ (c_X8_isDigit l D T cx ) ⟨va_cnB (host := RX8) 1 hts gX4_accept_X8_isDigit_n28 rfl rfl rfl (hC.nw 10 (q := (RX4, 28, yX8_isDigit)) rfl) (hts (.initialized RX8) (List.mem_of_getElem? (i := 2) rfl)) (by decide +kernel) ⟨Nat.le_of_ble_eq_true rfl, Nat.le_of_ble_eq_true rfl⟩, hts (.static yX8_isDigit) (List.mem_of_getElem? (i := 1) rfl), trivial⟩ hC hP hD hS hA rfl hl.1 rfl (Nat.le_of_ble_eq_true rfl) dX4_accept_1 ⟨Nat.zero_le _, Nat.zero_le _⟩ (fun H locs hP hD hS => ?_)
  have hP : va_P D vwCl [oRe ro nu ti (bI ip) (bI hp) ca] H := hP
  have hD : va_D A [oRe ro nu ti (bI ip) (bI hp) ca] := hD
  refine W.eq (g2 := F0 m 4 ls [.int (bI (chD cx))]) rfl ?_
  refine lv_if_eq (tgt := 16) hx hb dX4_accept_4 (by decide) (fun c4 => ?_) (fun c4 => ?_)
  · have c4 := (bI0 _).mp c4
    refine lv_iload_n hx hb dX4_accept_16 rfl (lv_at hl 1 rfl) ?_
    have hP := hP.sub (ws' := [] ++ [oRe ro nu ti (bI ip) (bI hp) ca]) [0] rfl
    have hD := hD.sub (ws' := [] ++ [oRe ro nu ti (bI ip) (bI hp) ca]) [0] (by decide) rfl
    refine kSN (As := [.int cx]) (rest := []) ⟨hx, hb, hml, hown, hts⟩ (c_X8_isName l D T cx ) ⟨va_cnB (host := RX8) 1 hts gX4_accept_X8_isName_n36 rfl rfl rfl (hC.nw 11 (q := (RX4, 36, yX8_isName)) rfl) (hts (.initialized RX8) (List.mem_of_getElem? (i := 2) rfl)) (by decide +kernel) ⟨Nat.le_of_ble_eq_true rfl, Nat.le_of_ble_eq_true rfl⟩, hts (.static yX8_isName) (List.mem_of_getElem? (i := 10) rfl), trivial⟩ hC hP hD hS hA rfl hl.1 rfl (Nat.le_of_ble_eq_true rfl) dX4_accept_17 ⟨Nat.zero_le _, Nat.zero_le _⟩ (fun H locs hP hD hS => ?_)
    have hP : va_P D vwCl [oRe ro nu ti (bI ip) (bI hp) ca] H := hP
    have hD : va_D A [oRe ro nu ti (bI ip) (bI hp) ca] := hD
    refine W.eq (g2 := F0 m 20 ls [.int (bI (chN cx))]) rfl ?_
    refine lv_if_eq (tgt := 28) hx hb dX4_accept_20 (by decide) (fun c20 => ?_) (fun c20 => ?_)
    · have c20 := (bI0 _).mp c20
      refine lv_iload_n hx hb dX4_accept_28 rfl (lv_at hl 1 rfl) ?_
      refine lv_bipush (v := 40) hx hb dX4_accept_29 (by decide) ?_
      refine lv_icmp_ne (tgt := 39) hx hb dX4_accept_31 (by decide) (fun c31 => ?_) (fun c31 => ?_)
      · refine lv_iload_n hx hb dX4_accept_39 rfl (lv_at hl 1 rfl) ?_
        refine lv_bipush (v := 41) hx hb dX4_accept_40 (by decide) ?_
        refine lv_icmp_ne (tgt := 56) hx hb dX4_accept_42 (by decide) (fun c42 => ?_) (fun c42 => ?_)
        · refine lv_iconst (v := 0) hx hb dX4_accept_56 (by decide) ?_
          have e_1 : nu = (rdS nu ti ip hp ca cx).1 := by first | with_reducible rfl | (simp [rdK, rdS, bI, c4, c20, c31, c42]; done)
          have e_2 : ti = (rdS nu ti ip hp ca cx).2.1 := by first | with_reducible rfl | (simp [rdK, rdS, bI, c4, c20, c31, c42]; done)
          have e_3 : bI ip = bI (rdS nu ti ip hp ca cx).2.2.1 := by first | with_reducible rfl | (simp [rdK, rdS, bI, c4, c20, c31, c42]; done)
          have e_4 : bI hp = bI (rdS nu ti ip hp ca cx).2.2.2.1 := by first | with_reducible rfl | (simp [rdK, rdS, bI, c4, c20, c31, c42]; done)
          have e_5 : ca = (rdS nu ti ip hp ca cx).2.2.2.2 := by first | with_reducible rfl | (simp [rdK, rdS, bI, c4, c20, c31, c42]; done)
          have eW := (congrArg (fun zZ => ([oRe ro zZ ti (bI ip) (bI hp) ca] : va_W)) e_1).trans ((congrArg (fun zZ => ([oRe ro (rdS nu ti ip hp ca cx).1 zZ (bI ip) (bI hp) ca] : va_W)) e_2).trans ((congrArg (fun zZ => ([oRe ro (rdS nu ti ip hp ca cx).1 (rdS nu ti ip hp ca cx).2.1 zZ (bI hp) ca] : va_W)) e_3).trans ((congrArg (fun zZ => ([oRe ro (rdS nu ti ip hp ca cx).1 (rdS nu ti ip hp ca cx).2.1 (bI (rdS nu ti ip hp ca cx).2.2.1) zZ ca] : va_W)) e_4).trans (congrArg (fun zZ => ([oRe ro (rdS nu ti ip hp ca cx).1 (rdS nu ti ip hp ca cx).2.1 (bI (rdS nu ti ip hp ca cx).2.2.1) (bI (rdS nu ti ip hp ca cx).2.2.2.1) zZ] : va_W)) e_5))))
          have hP : va_P D vwCl [oRe ro (rdS nu ti ip hp ca cx).1 (rdS nu ti ip hp ca cx).2.1 (bI (rdS nu ti ip hp ca cx).2.2.1) (bI (rdS nu ti ip hp ca cx).2.2.2.1) (rdS nu ti ip hp ca cx).2.2.2.2] _ := Eq.subst (motive := fun w => va_P D vwCl w _) eW hP
          have hD : va_D A [oRe ro (rdS nu ti ip hp ca cx).1 (rdS nu ti ip hp ca cx).2.1 (bI (rdS nu ti ip hp ca cx).2.2.1) (bI (rdS nu ti ip hp ca cx).2.2.2.1) (rdS nu ti ip hp ca cx).2.2.2.2] := Eq.subst (motive := fun w => va_D A w) eW hD
          have e_6 : 0 = bI (rdK nu ip hp cx) := by first | with_reducible rfl | (simp [rdK, rdS, bI, c4, c20, c31, c42]; done)
          refine W.eq (g2 := F0 m 57 ls [.int (bI (rdK nu ip hp cx))]) (congrArg (fun z => F0 m 57 ls [.int z]) e_6) ?_
          exact hret _ _ _ _ _ (fun Qc free hq hf => W.zret hx hb hr (bI_nar _) hq hf dX4_accept_57 hlk) hP hD hS
        · refine lv_aload_n hx hb dX4_accept_45 rfl (lv_at hl 0 rfl) ?_
          have hP := hP.sub (ws' := [oRe ro nu ti (bI ip) (bI hp) ca] ++ []) [0] rfl
          have hD := hD.sub (ws' := [oRe ro nu ti (bI ip) (bI hp) ca] ++ []) [0] (by decide) rfl
          refine kV (ci := 3) (As := []) (rest := []) ⟨hx, hb, hml, hown, hts⟩ (c_X4_acceptClosing l D T ro nu ti ip hp ca ) (cwV 0 hts gX4_accept_X4_acceptClosing rfl rfl rfl (by decide +kernel) ⟨Nat.le_of_ble_eq_true rfl, Nat.le_of_ble_eq_true rfl⟩) hC hP hD hS hA rfl rfl rfl hl.1 rfl (Nat.le_of_ble_eq_true rfl) dX4_accept_46 ⟨Nat.zero_le _, Nat.zero_le _⟩ (fun H locs hP hD hS => ?_)
          have hP : va_P D vwCl [oRe ro nu (clT nu ti ip hp) (bI (clI nu ip hp)) (bI hp) ca] H := hP
          have hD : va_D A [oRe ro nu (clT nu ti ip hp) (bI (clI nu ip hp)) (bI hp) ca] := hD
          refine W.eq (g2 := F0 m 49 ls [.int (bI (clOK nu ip hp))]) rfl ?_
          refine lv_if_eq (tgt := 56) hx hb dX4_accept_49 (by decide) (fun c49 => ?_) (fun c49 => ?_)
          · have c49 := (bI0 _).mp c49
            refine lv_iconst (v := 0) hx hb dX4_accept_56 (by decide) ?_
            have e_7 : nu = (rdS nu ti ip hp ca cx).1 := by first | with_reducible rfl | (simp [rdK, rdS, bI, c4, c20, c31, eq_true c42, c49]; done)
            have e_8 : clT nu ti ip hp = (rdS nu ti ip hp ca cx).2.1 := by first | with_reducible rfl | (simp [rdK, rdS, bI, c4, c20, c31, eq_true c42, c49]; done)
            have e_9 : bI (clI nu ip hp) = bI (rdS nu ti ip hp ca cx).2.2.1 := by first | with_reducible rfl | (simp [rdK, rdS, bI, c4, c20, c31, eq_true c42, c49]; done)
            have e_10 : bI hp = bI (rdS nu ti ip hp ca cx).2.2.2.1 := by first | with_reducible rfl | (simp [rdK, rdS, bI, c4, c20, c31, eq_true c42, c49]; done)
            have e_11 : ca = (rdS nu ti ip hp ca cx).2.2.2.2 := by first | with_reducible rfl | (simp [rdK, rdS, bI, c4, c20, c31, eq_true c42, c49]; done)
            have eW := (congrArg (fun zZ => ([oRe ro zZ (clT nu ti ip hp) (bI (clI nu ip hp)) (bI hp) ca] : va_W)) e_7).trans ((congrArg (fun zZ => ([oRe ro (rdS nu ti ip hp ca cx).1 zZ (bI (clI nu ip hp)) (bI hp) ca] : va_W)) e_8).trans ((congrArg (fun zZ => ([oRe ro (rdS nu ti ip hp ca cx).1 (rdS nu ti ip hp ca cx).2.1 zZ (bI hp) ca] : va_W)) e_9).trans ((congrArg (fun zZ => ([oRe ro (rdS nu ti ip hp ca cx).1 (rdS nu ti ip hp ca cx).2.1 (bI (rdS nu ti ip hp ca cx).2.2.1) zZ ca] : va_W)) e_10).trans (congrArg (fun zZ => ([oRe ro (rdS nu ti ip hp ca cx).1 (rdS nu ti ip hp ca cx).2.1 (bI (rdS nu ti ip hp ca cx).2.2.1) (bI (rdS nu ti ip hp ca cx).2.2.2.1) zZ] : va_W)) e_11))))
            have hP : va_P D vwCl [oRe ro (rdS nu ti ip hp ca cx).1 (rdS nu ti ip hp ca cx).2.1 (bI (rdS nu ti ip hp ca cx).2.2.1) (bI (rdS nu ti ip hp ca cx).2.2.2.1) (rdS nu ti ip hp ca cx).2.2.2.2] _ := Eq.subst (motive := fun w => va_P D vwCl w _) eW hP
            have hD : va_D A [oRe ro (rdS nu ti ip hp ca cx).1 (rdS nu ti ip hp ca cx).2.1 (bI (rdS nu ti ip hp ca cx).2.2.1) (bI (rdS nu ti ip hp ca cx).2.2.2.1) (rdS nu ti ip hp ca cx).2.2.2.2] := Eq.subst (motive := fun w => va_D A w) eW hD
            have e_12 : 0 = bI (rdK nu ip hp cx) := by first | with_reducible rfl | (simp [rdK, rdS, bI, c4, c20, c31, eq_true c42, c49]; done)
            refine W.eq (g2 := F0 m 57 ls [.int (bI (rdK nu ip hp cx))]) (congrArg (fun z => F0 m 57 ls [.int z]) e_12) ?_
            exact hret _ _ _ _ _ (fun Qc free hq hf => W.zret hx hb hr (bI_nar _) hq hf dX4_accept_57 hlk) hP hD hS
          · have c49 := (bI0n _).mp c49
            refine lv_iconst (v := 1) hx hb dX4_accept_52 (by decide) ?_
            refine lv_goto (tgt := 57) hx hb dX4_accept_53 (by decide) ?_
            have e_13 : nu = (rdS nu ti ip hp ca cx).1 := by first | with_reducible rfl | (simp [rdK, rdS, bI, c4, c20, c31, eq_true c42, c49]; done)
            have e_14 : clT nu ti ip hp = (rdS nu ti ip hp ca cx).2.1 := by first | with_reducible rfl | (simp [rdK, rdS, bI, c4, c20, c31, eq_true c42, c49]; done)
            have e_15 : bI (clI nu ip hp) = bI (rdS nu ti ip hp ca cx).2.2.1 := by first | with_reducible rfl | (simp [rdK, rdS, bI, c4, c20, c31, eq_true c42, c49]; done)
            have e_16 : bI hp = bI (rdS nu ti ip hp ca cx).2.2.2.1 := by first | with_reducible rfl | (simp [rdK, rdS, bI, c4, c20, c31, eq_true c42, c49]; done)
            have e_17 : ca = (rdS nu ti ip hp ca cx).2.2.2.2 := by first | with_reducible rfl | (simp [rdK, rdS, bI, c4, c20, c31, eq_true c42, c49]; done)
            have eW := (congrArg (fun zZ => ([oRe ro zZ (clT nu ti ip hp) (bI (clI nu ip hp)) (bI hp) ca] : va_W)) e_13).trans ((congrArg (fun zZ => ([oRe ro (rdS nu ti ip hp ca cx).1 zZ (bI (clI nu ip hp)) (bI hp) ca] : va_W)) e_14).trans ((congrArg (fun zZ => ([oRe ro (rdS nu ti ip hp ca cx).1 (rdS nu ti ip hp ca cx).2.1 zZ (bI hp) ca] : va_W)) e_15).trans ((congrArg (fun zZ => ([oRe ro (rdS nu ti ip hp ca cx).1 (rdS nu ti ip hp ca cx).2.1 (bI (rdS nu ti ip hp ca cx).2.2.1) zZ ca] : va_W)) e_16).trans (congrArg (fun zZ => ([oRe ro (rdS nu ti ip hp ca cx).1 (rdS nu ti ip hp ca cx).2.1 (bI (rdS nu ti ip hp ca cx).2.2.1) (bI (rdS nu ti ip hp ca cx).2.2.2.1) zZ] : va_W)) e_17))))
            have hP : va_P D vwCl [oRe ro (rdS nu ti ip hp ca cx).1 (rdS nu ti ip hp ca cx).2.1 (bI (rdS nu ti ip hp ca cx).2.2.1) (bI (rdS nu ti ip hp ca cx).2.2.2.1) (rdS nu ti ip hp ca cx).2.2.2.2] _ := Eq.subst (motive := fun w => va_P D vwCl w _) eW hP
            have hD : va_D A [oRe ro (rdS nu ti ip hp ca cx).1 (rdS nu ti ip hp ca cx).2.1 (bI (rdS nu ti ip hp ca cx).2.2.1) (bI (rdS nu ti ip hp ca cx).2.2.2.1) (rdS nu ti ip hp ca cx).2.2.2.2] := Eq.subst (motive := fun w => va_D A w) eW hD
            have e_18 : 1 = bI (rdK nu ip hp cx) := by first | with_reducible rfl | (simp [rdK, rdS, bI, c4, c20, c31, eq_true c42, c49]; done)
            refine W.eq (g2 := F0 m 57 ls [.int (bI (rdK nu ip hp cx))]) (congrArg (fun z => F0 m 57 ls [.int z]) e_18) ?_
            exact hret _ _ _ _ _ (fun Qc free hq hf => W.zret hx hb hr (bI_nar _) hq hf dX4_accept_57 hlk) hP hD hS
      · refine lv_aload_n hx hb dX4_accept_34 rfl (lv_at hl 0 rfl) ?_
        have hP := hP.sub (ws' := [oRe ro nu ti (bI ip) (bI hp) ca] ++ []) [0] rfl
        have hD := hD.sub (ws' := [oRe ro nu ti (bI ip) (bI hp) ca] ++ []) [0] (by decide) rfl
        refine kV (ci := 3) (As := []) (rest := []) ⟨hx, hb, hml, hown, hts⟩ (c_X4_acceptOpening l D T ro nu ti ip hp ca ) (cwV 0 hts gX4_accept_X4_acceptOpening rfl rfl rfl (by decide +kernel) ⟨Nat.le_of_ble_eq_true rfl, Nat.le_of_ble_eq_true rfl⟩) hC hP hD hS hA rfl rfl rfl hl.1 rfl (Nat.le_of_ble_eq_true rfl) dX4_accept_35 ⟨Nat.zero_le _, Nat.zero_le _⟩ (fun H locs hP hD hS => ?_)
        have hP : va_P D vwCl [oRe ro (opN nu ip) (opT nu ti ip) (bI (opI nu ip)) (bI (opH nu ip hp)) ca] H := hP
        have hD : va_D A [oRe ro (opN nu ip) (opT nu ti ip) (bI (opI nu ip)) (bI (opH nu ip hp)) ca] := hD
        refine W.eq (g2 := F0 m 38 ls [.int (bI (opOK nu ip))]) rfl ?_
        have e_19 : opN nu ip = (rdS nu ti ip hp ca cx).1 := by first | with_reducible rfl | (simp [rdK, rdS, bI, c4, c20, eq_true c31]; done)
        have e_20 : opT nu ti ip = (rdS nu ti ip hp ca cx).2.1 := by first | with_reducible rfl | (simp [rdK, rdS, bI, c4, c20, eq_true c31]; done)
        have e_21 : bI (opI nu ip) = bI (rdS nu ti ip hp ca cx).2.2.1 := by first | with_reducible rfl | (simp [rdK, rdS, bI, c4, c20, eq_true c31]; done)
        have e_22 : bI (opH nu ip hp) = bI (rdS nu ti ip hp ca cx).2.2.2.1 := by first | with_reducible rfl | (simp [rdK, rdS, bI, c4, c20, eq_true c31]; done)
        have e_23 : ca = (rdS nu ti ip hp ca cx).2.2.2.2 := by first | with_reducible rfl | (simp [rdK, rdS, bI, c4, c20, eq_true c31]; done)
        have eW := (congrArg (fun zZ => ([oRe ro zZ (opT nu ti ip) (bI (opI nu ip)) (bI (opH nu ip hp)) ca] : va_W)) e_19).trans ((congrArg (fun zZ => ([oRe ro (rdS nu ti ip hp ca cx).1 zZ (bI (opI nu ip)) (bI (opH nu ip hp)) ca] : va_W)) e_20).trans ((congrArg (fun zZ => ([oRe ro (rdS nu ti ip hp ca cx).1 (rdS nu ti ip hp ca cx).2.1 zZ (bI (opH nu ip hp)) ca] : va_W)) e_21).trans ((congrArg (fun zZ => ([oRe ro (rdS nu ti ip hp ca cx).1 (rdS nu ti ip hp ca cx).2.1 (bI (rdS nu ti ip hp ca cx).2.2.1) zZ ca] : va_W)) e_22).trans (congrArg (fun zZ => ([oRe ro (rdS nu ti ip hp ca cx).1 (rdS nu ti ip hp ca cx).2.1 (bI (rdS nu ti ip hp ca cx).2.2.1) (bI (rdS nu ti ip hp ca cx).2.2.2.1) zZ] : va_W)) e_23))))
        have hP : va_P D vwCl [oRe ro (rdS nu ti ip hp ca cx).1 (rdS nu ti ip hp ca cx).2.1 (bI (rdS nu ti ip hp ca cx).2.2.1) (bI (rdS nu ti ip hp ca cx).2.2.2.1) (rdS nu ti ip hp ca cx).2.2.2.2] _ := Eq.subst (motive := fun w => va_P D vwCl w _) eW hP
        have hD : va_D A [oRe ro (rdS nu ti ip hp ca cx).1 (rdS nu ti ip hp ca cx).2.1 (bI (rdS nu ti ip hp ca cx).2.2.1) (bI (rdS nu ti ip hp ca cx).2.2.2.1) (rdS nu ti ip hp ca cx).2.2.2.2] := Eq.subst (motive := fun w => va_D A w) eW hD
        have e_24 : bI (opOK nu ip) = bI (rdK nu ip hp cx) := by first | with_reducible rfl | (simp [rdK, rdS, bI, c4, c20, eq_true c31]; done)
        refine W.eq (g2 := F0 m 38 ls [.int (bI (rdK nu ip hp cx))]) (congrArg (fun z => F0 m 38 ls [.int z]) e_24) ?_
        exact hret _ _ _ _ _ (fun Qc free hq hf => W.zret hx hb hr (bI_nar _) hq hf dX4_accept_38 hlk) hP hD hS
    · have c20 := (bI0n _).mp c20
      refine lv_aload_n hx hb dX4_accept_23 rfl (lv_at hl 0 rfl) ?_
      have hP := hP.sub (ws' := [oRe ro nu ti (bI ip) (bI hp) ca] ++ []) [0] rfl
      have hD := hD.sub (ws' := [oRe ro nu ti (bI ip) (bI hp) ca] ++ []) [0] (by decide) rfl
      refine kV (ci := 3) (As := []) (rest := []) ⟨hx, hb, hml, hown, hts⟩ (c_X4_acceptName l D T ro nu ti ip hp ca ) (cwV 0 hts gX4_accept_X4_acceptName rfl rfl rfl (by decide +kernel) ⟨Nat.le_of_ble_eq_true rfl, Nat.le_of_ble_eq_true rfl⟩) hC hP hD hS hA rfl rfl rfl hl.1 rfl (Nat.le_of_ble_eq_true rfl) dX4_accept_24 ⟨Nat.zero_le _, Nat.zero_le _⟩ (fun H locs hP hD hS => ?_)
      have hP : va_P D vwCl [oRe ro (nmN nu) ti (bI ip) (bI (nmH nu hp)) (nmC nu ti ca)] H := hP
      have hD : va_D A [oRe ro (nmN nu) ti (bI ip) (bI (nmH nu hp)) (nmC nu ti ca)] := hD
      refine W.eq (g2 := F0 m 27 ls [.int (bI (nmOK nu))]) rfl ?_
      have e_25 : nmN nu = (rdS nu ti ip hp ca cx).1 := by first | with_reducible rfl | (simp [rdK, rdS, bI, c4, c20]; done)
      have e_26 : ti = (rdS nu ti ip hp ca cx).2.1 := by first | with_reducible rfl | (simp [rdK, rdS, bI, c4, c20]; done)
      have e_27 : bI ip = bI (rdS nu ti ip hp ca cx).2.2.1 := by first | with_reducible rfl | (simp [rdK, rdS, bI, c4, c20]; done)
      have e_28 : bI (nmH nu hp) = bI (rdS nu ti ip hp ca cx).2.2.2.1 := by first | with_reducible rfl | (simp [rdK, rdS, bI, c4, c20]; done)
      have e_29 : nmC nu ti ca = (rdS nu ti ip hp ca cx).2.2.2.2 := by first | with_reducible rfl | (simp [rdK, rdS, bI, c4, c20]; done)
      have eW := (congrArg (fun zZ => ([oRe ro zZ ti (bI ip) (bI (nmH nu hp)) (nmC nu ti ca)] : va_W)) e_25).trans ((congrArg (fun zZ => ([oRe ro (rdS nu ti ip hp ca cx).1 zZ (bI ip) (bI (nmH nu hp)) (nmC nu ti ca)] : va_W)) e_26).trans ((congrArg (fun zZ => ([oRe ro (rdS nu ti ip hp ca cx).1 (rdS nu ti ip hp ca cx).2.1 zZ (bI (nmH nu hp)) (nmC nu ti ca)] : va_W)) e_27).trans ((congrArg (fun zZ => ([oRe ro (rdS nu ti ip hp ca cx).1 (rdS nu ti ip hp ca cx).2.1 (bI (rdS nu ti ip hp ca cx).2.2.1) zZ (nmC nu ti ca)] : va_W)) e_28).trans (congrArg (fun zZ => ([oRe ro (rdS nu ti ip hp ca cx).1 (rdS nu ti ip hp ca cx).2.1 (bI (rdS nu ti ip hp ca cx).2.2.1) (bI (rdS nu ti ip hp ca cx).2.2.2.1) zZ] : va_W)) e_29))))
      have hP : va_P D vwCl [oRe ro (rdS nu ti ip hp ca cx).1 (rdS nu ti ip hp ca cx).2.1 (bI (rdS nu ti ip hp ca cx).2.2.1) (bI (rdS nu ti ip hp ca cx).2.2.2.1) (rdS nu ti ip hp ca cx).2.2.2.2] _ := Eq.subst (motive := fun w => va_P D vwCl w _) eW hP
      have hD : va_D A [oRe ro (rdS nu ti ip hp ca cx).1 (rdS nu ti ip hp ca cx).2.1 (bI (rdS nu ti ip hp ca cx).2.2.1) (bI (rdS nu ti ip hp ca cx).2.2.2.1) (rdS nu ti ip hp ca cx).2.2.2.2] := Eq.subst (motive := fun w => va_D A w) eW hD
      have e_30 : bI (nmOK nu) = bI (rdK nu ip hp cx) := by first | with_reducible rfl | (simp [rdK, rdS, bI, c4, c20]; done)
      refine W.eq (g2 := F0 m 27 ls [.int (bI (rdK nu ip hp cx))]) (congrArg (fun z => F0 m 27 ls [.int z]) e_30) ?_
      exact hret _ _ _ _ _ (fun Qc free hq hf => W.zret hx hb hr (bI_nar _) hq hf dX4_accept_27 hlk) hP hD hS
  · have c4 := (bI0n _).mp c4
    refine lv_aload_n hx hb dX4_accept_7 rfl (lv_at hl 0 rfl) ?_
    refine lv_iload_n hx hb dX4_accept_8 rfl (lv_at hl 1 rfl) ?_
    refine lv_bipush (v := 48) hx hb dX4_accept_9 (by decide) ?_
    refine lv_isub hx hb dX4_accept_11 ?_
    have hP := hP.sub (ws' := [oRe ro nu ti (bI ip) (bI hp) ca] ++ []) [0] rfl
    have hD := hD.sub (ws' := [oRe ro nu ti (bI ip) (bI hp) ca] ++ []) [0] (by decide) rfl
    refine kV (ci := 3) (As := [.int (cx - 48)]) (rest := []) ⟨hx, hb, hml, hown, hts⟩ (c_X4_acceptDigit l D T ro nu ti ip hp ca (cx - 48) ) (cwV 1 hts gX4_accept_X4_acceptDigit rfl rfl rfl (by decide +kernel) ⟨Nat.le_of_ble_eq_true rfl, Nat.le_of_ble_eq_true rfl⟩) hC hP hD hS hA rfl rfl rfl hl.1 rfl (Nat.le_of_ble_eq_true rfl) dX4_accept_12 ⟨Nat.zero_le _, Nat.zero_le _⟩ (fun H locs hP hD hS => ?_)
    have hP : va_P D vwCl [oRe ro (dgN nu (cx - 48)) ti (bI ip) (bI hp) ca] H := hP
    have hD : va_D A [oRe ro (dgN nu (cx - 48)) ti (bI ip) (bI hp) ca] := hD
    refine W.eq (g2 := F0 m 15 ls [.int (bI (dgOK nu (cx - 48)))]) rfl ?_
    have e_31 : dgN nu (cx - 48) = (rdS nu ti ip hp ca cx).1 := by first | with_reducible rfl | (simp [rdK, rdS, bI, c4]; done)
    have e_32 : ti = (rdS nu ti ip hp ca cx).2.1 := by first | with_reducible rfl | (simp [rdK, rdS, bI, c4]; done)
    have e_33 : bI ip = bI (rdS nu ti ip hp ca cx).2.2.1 := by first | with_reducible rfl | (simp [rdK, rdS, bI, c4]; done)
    have e_34 : bI hp = bI (rdS nu ti ip hp ca cx).2.2.2.1 := by first | with_reducible rfl | (simp [rdK, rdS, bI, c4]; done)
    have e_35 : ca = (rdS nu ti ip hp ca cx).2.2.2.2 := by first | with_reducible rfl | (simp [rdK, rdS, bI, c4]; done)
    have eW := (congrArg (fun zZ => ([oRe ro zZ ti (bI ip) (bI hp) ca] : va_W)) e_31).trans ((congrArg (fun zZ => ([oRe ro (rdS nu ti ip hp ca cx).1 zZ (bI ip) (bI hp) ca] : va_W)) e_32).trans ((congrArg (fun zZ => ([oRe ro (rdS nu ti ip hp ca cx).1 (rdS nu ti ip hp ca cx).2.1 zZ (bI hp) ca] : va_W)) e_33).trans ((congrArg (fun zZ => ([oRe ro (rdS nu ti ip hp ca cx).1 (rdS nu ti ip hp ca cx).2.1 (bI (rdS nu ti ip hp ca cx).2.2.1) zZ ca] : va_W)) e_34).trans (congrArg (fun zZ => ([oRe ro (rdS nu ti ip hp ca cx).1 (rdS nu ti ip hp ca cx).2.1 (bI (rdS nu ti ip hp ca cx).2.2.1) (bI (rdS nu ti ip hp ca cx).2.2.2.1) zZ] : va_W)) e_35))))
    have hP : va_P D vwCl [oRe ro (rdS nu ti ip hp ca cx).1 (rdS nu ti ip hp ca cx).2.1 (bI (rdS nu ti ip hp ca cx).2.2.1) (bI (rdS nu ti ip hp ca cx).2.2.2.1) (rdS nu ti ip hp ca cx).2.2.2.2] _ := Eq.subst (motive := fun w => va_P D vwCl w _) eW hP
    have hD : va_D A [oRe ro (rdS nu ti ip hp ca cx).1 (rdS nu ti ip hp ca cx).2.1 (bI (rdS nu ti ip hp ca cx).2.2.1) (bI (rdS nu ti ip hp ca cx).2.2.2.1) (rdS nu ti ip hp ca cx).2.2.2.2] := Eq.subst (motive := fun w => va_D A w) eW hD
    have e_36 : bI (dgOK nu (cx - 48)) = bI (rdK nu ip hp cx) := by first | with_reducible rfl | (simp [rdK, rdS, bI, c4]; done)
    refine W.eq (g2 := F0 m 15 ls [.int (bI (rdK nu ip hp cx))]) (congrArg (fun z => F0 m 15 ls [.int z]) e_36) ?_
    exact hret _ _ _ _ _ (fun Qc free hq hf => W.zret hx hb hr (bI_nar _) hq hf dX4_accept_15 hlk) hP hD hS
abbrev rX4_isWhole : Room := { frames := 0, cells := 0, slots := 0, locals := 0 }
set_option maxHeartbeats 4000000 in
set_option maxRecDepth 100000 in
theorem c_X4_isWhole (l : Launch) (D : va_G) (T : Nat → ClassId) (ro : Nat) (nu ti : Int32) (ip hp : Bool) (ca : Int32) : kM l D T yX4_isWhole wsX4_isWhole rX4_isWhole [.ref ro] [oRe ro nu ti (bI ip) (bI hp) ca] (some (.int (bI (whole nu ip hp)))) [oRe ro nu ti (bI ip) (bI hp) ca] := by
  refine kM.of (cc := cX4_isWhole) (maxL := 1) (ret := some .boolean) (by decide) rfl (Nat.le_of_ble_eq_true rfl) ?_
  intro p e s m below meth c A Q ls hx hb hml hown hr hlk hts hC hP hD hS hA hl hret
  have iX4 : ∀ w ∈ wsX40, w ∈ wsX4_isWhole := (fun _ h => List.mem_cons_of_mem _ (List.mem_append_right _ h))
  have hl : lv_has ls 1 [(0, .ref ro)] := hl
  have hP : va_P D vwCl [oRe ro nu ti (bI ip) (bI hp) ca] s.heap := hP
  have hD : va_D A [oRe ro nu ti (bI ip) (bI hp) ca] := hD
  refine lv_aload_n hx hb dX4_isWhole_0 rfl (lv_at hl 0 rfl) ?_
  refine va_get (D := D) (ci := 3) (v := .int (bI hp)) (C := RX4) (T := TX4) (N := 5) hx hb hts iX4 hown hC.1 hP 0 rfl rfl 3 (by decide) (hts (.fieldLink RX4 22 "ParrotCounts$Reading" "hasPhrase" "Z") (List.mem_of_getElem? (i := 1) rfl)) (fun _ h => h) rfl dX4_isWhole_1 ?_
  refine lv_if_eq (tgt := 25) hx hb dX4_isWhole_4 (by decide) (fun c4 => ?_) (fun c4 => ?_)
  · have c4 := (bI0 _).mp c4
    refine lv_iconst (v := 0) hx hb dX4_isWhole_25 (by decide) ?_
    have e_1 : 0 = bI (whole nu ip hp) := by first | with_reducible rfl | (simp [whole, bI, c4]; done)
    refine W.eq (g2 := F0 m 26 ls [.int (bI (whole nu ip hp))]) (congrArg (fun z => F0 m 26 ls [.int z]) e_1) ?_
    exact hret _ _ _ _ _ (fun Qc free hq hf => W.zret hx hb hr (bI_nar _) hq hf dX4_isWhole_26 hlk) hP hD hS
  · have c4 := (bI0n _).mp c4
    refine lv_aload_n hx hb dX4_isWhole_7 rfl (lv_at hl 0 rfl) ?_
    refine va_get (D := D) (ci := 3) (v := .int nu) (C := RX4) (T := TX4) (N := 5) hx hb hts iX4 hown hC.1 hP 0 rfl rfl 0 (by decide) (hts (.fieldLink RX4 9 "ParrotCounts$Reading" "number" "I") (List.mem_of_getElem? (i := 2) rfl)) (fun _ h => h) rfl dX4_isWhole_8 ?_
    refine lv_if_ne (tgt := 25) hx hb dX4_isWhole_11 (by decide) (fun c11 => ?_) (fun c11 => ?_)
    · refine lv_iconst (v := 0) hx hb dX4_isWhole_25 (by decide) ?_
      have e_2 : 0 = bI (whole nu ip hp) := by first | with_reducible rfl | (simp [whole, bI, c4, c11]; done)
      refine W.eq (g2 := F0 m 26 ls [.int (bI (whole nu ip hp))]) (congrArg (fun z => F0 m 26 ls [.int z]) e_2) ?_
      exact hret _ _ _ _ _ (fun Qc free hq hf => W.zret hx hb hr (bI_nar _) hq hf dX4_isWhole_26 hlk) hP hD hS
    · refine lv_aload_n hx hb dX4_isWhole_14 rfl (lv_at hl 0 rfl) ?_
      refine va_get (D := D) (ci := 3) (v := .int (bI ip)) (C := RX4) (T := TX4) (N := 5) hx hb hts iX4 hown hC.1 hP 0 rfl rfl 2 (by decide) (hts (.fieldLink RX4 18 "ParrotCounts$Reading" "isInParentheses" "Z") (List.mem_of_getElem? (i := 3) rfl)) (fun _ h => h) rfl dX4_isWhole_15 ?_
      refine lv_if_ne (tgt := 25) hx hb dX4_isWhole_18 (by decide) (fun c18 => ?_) (fun c18 => ?_)
      · have c18 := (bI0n _).mp c18
        refine lv_iconst (v := 0) hx hb dX4_isWhole_25 (by decide) ?_
        have e_3 : 0 = bI (whole nu ip hp) := by first | with_reducible rfl | (simp [whole, bI, c4, eq_true c11, c18]; done)
        refine W.eq (g2 := F0 m 26 ls [.int (bI (whole nu ip hp))]) (congrArg (fun z => F0 m 26 ls [.int z]) e_3) ?_
        exact hret _ _ _ _ _ (fun Qc free hq hf => W.zret hx hb hr (bI_nar _) hq hf dX4_isWhole_26 hlk) hP hD hS
      · have c18 := (bI0 _).mp c18
        refine lv_iconst (v := 1) hx hb dX4_isWhole_21 (by decide) ?_
        refine lv_goto (tgt := 26) hx hb dX4_isWhole_22 (by decide) ?_
        have e_4 : 1 = bI (whole nu ip hp) := by first | with_reducible rfl | (simp [whole, bI, c4, eq_true c11, c18]; done)
        refine W.eq (g2 := F0 m 26 ls [.int (bI (whole nu ip hp))]) (congrArg (fun z => F0 m 26 ls [.int z]) e_4) ?_
        exact hret _ _ _ _ _ (fun Qc free hq hf => W.zret hx hb hr (bI_nar _) hq hf dX4_isWhole_26 hlk) hP hD hS
abbrev rX6_add : Room := { frames := 0, cells := 0, slots := 0, locals := 0 }
set_option maxHeartbeats 4000000 in
set_option maxRecDepth 100000 in
theorem c_X6_add (l : Launch) (D : va_G) (T : Nat → ClassId) (so xc ro xu lc : Nat) (uc : Int32) (tc : Nat → Int32) (cx : Int32) (hlc : lc < 60) : kM l D T yX6_add wsX6_add rX6_add [.ref so, .int cx] [oSo so xc ro xu (nI lc) uc, aC T xc 60 tc] none [oSo so xc ro xu (nI (lc + 1)) uc, aC T xc 60 (upd tc lc (vp_nar .char cx))] := by
  refine kM.of (cc := cX6_add) (maxL := 2) (ret := none) (by decide) rfl (Nat.le_of_ble_eq_true rfl) ?_
  intro p e s m below meth c A Q ls hx hb hml hown hr hlk hts hC hP hD hS hA hl hret
  have iX6 : ∀ w ∈ wsX60, w ∈ wsX6_add := (fun _ h => List.mem_cons_of_mem _ (List.mem_append_right _ h))
  have hl : lv_has ls 2 [(0, .ref so), (1, .int cx)] := hl
  have hP : va_P D vwCl [oSo so xc ro xu (nI lc) uc, aC T xc 60 tc] s.heap := hP
  have hD : va_D A [oSo so xc ro xu (nI lc) uc, aC T xc 60 tc] := hD
  refine lv_aload_n hx hb dX6_add_0 rfl (lv_at hl 0 rfl) ?_
  refine va_get (D := D) (ci := 5) (v := .int (nI lc)) (C := RX6) (T := TX6) (N := 5) hx hb hts iX6 hown hC.1 hP 0 rfl rfl 3 (by decide) (hts (.fieldLink RX6 26 "ParrotCounts$SongText" "length" "I") (List.mem_of_getElem? (i := 1) rfl)) (fun _ h => h) rfl dX6_add_1 ?_
  refine lv_aload_n hx hb dX6_add_4 rfl (lv_at hl 0 rfl) ?_
  refine va_get (D := D) (ci := 5) (v := .ref xc) (C := RX6) (T := TX6) (N := 5) hx hb hts iX6 hown hC.1 hP 0 rfl rfl 0 (by decide) (hts (.fieldLink RX6 9 "ParrotCounts$SongText" "characters" "[C") (List.mem_of_getElem? (i := 2) rfl)) (fun _ h => h) rfl dX6_add_5 ?_
  refine va_alen (v := 60) hx hb hC.1 hP 1 1 rfl rfl rfl dX6_add_8 ?_
  refine lv_icmp_ge (tgt := 32) hx hb dX6_add_9 (by decide) (fun c_x => absurd c_x (nI_ge (b := 60) hlc (by decide))) (fun _ => ?_)
  refine lv_aload_n hx hb dX6_add_12 rfl (lv_at hl 0 rfl) ?_
  refine va_get (D := D) (ci := 5) (v := .ref xc) (C := RX6) (T := TX6) (N := 5) hx hb hts iX6 hown hC.1 hP 0 rfl rfl 0 (by decide) (hts (.fieldLink RX6 9 "ParrotCounts$SongText" "characters" "[C") (List.mem_of_getElem? (i := 2) rfl)) (fun _ h => h) rfl dX6_add_13 ?_
  refine lv_aload_n hx hb dX6_add_16 rfl (lv_at hl 0 rfl) ?_
  refine va_get (D := D) (ci := 5) (v := .int (nI lc)) (C := RX6) (T := TX6) (N := 5) hx hb hts iX6 hown hC.1 hP 0 rfl rfl 3 (by decide) (hts (.fieldLink RX6 26 "ParrotCounts$SongText" "length" "I") (List.mem_of_getElem? (i := 1) rfl)) (fun _ h => h) rfl dX6_add_17 ?_
  refine lv_iload_n hx hb dX6_add_20 rfl (lv_at hl 1 rfl) ?_
  refine k_cast hx hb hC.1 hP hD hS 1 1 rfl rfl (by omega) dX6_add_21 (fun H locs hP hD hS => ?_)
  have hP : va_P D vwCl [oSo so xc ro xu (nI lc) uc, aC T xc 60 (upd tc lc (vp_nar .char cx))] H := hP
  have hD : va_D A [oSo so xc ro xu (nI lc) uc, aC T xc 60 (upd tc lc (vp_nar .char cx))] := hD
  refine lv_aload_n hx hb dX6_add_22 rfl (lv_at hl 0 rfl) ?_
  refine lv_dup hx hb dX6_add_23 rfl ?_
  refine va_get (D := D) (ci := 5) (v := .int (nI lc)) (C := RX6) (T := TX6) (N := 5) hx hb hts iX6 hown hC.1 hP 0 rfl rfl 3 (by decide) (hts (.fieldLink RX6 26 "ParrotCounts$SongText" "length" "I") (List.mem_of_getElem? (i := 1) rfl)) (fun _ h => h) rfl dX6_add_24 ?_
  refine lv_iconst (v := 1) hx hb dX6_add_27 (by decide) ?_
  refine lv_iadd hx hb dX6_add_28 ?_
  refine W.eq (g2 := F0 m 29 ls (.int (nI (lc + 1)) :: [.ref so])) (congrArg (fun z => F0 m 29 ls (.int z :: [.ref so])) (nI_1 lc)) ?_
  refine va_put (D := D) (ci := 5) (v := .int (nI (lc + 1))) (ty := .int) (C := RX6) (T := TX6) (N := 5) hx hb hts iX6 tyX6 tyX6_ok nmX6 hown hC.1 hP hD hS 0 rfl rfl 3 (by decide) (hts (.fieldLink RX6 26 "ParrotCounts$SongText" "length" "I") (List.mem_of_getElem? (i := 1) rfl)) (fun _ h9 => h9) rfl (by decide +kernel) rfl rfl (Nat.le_of_ble_eq_true rfl) dX6_add_29 (fun H locs hP hD hS => ?_)
  have hP : va_P D vwCl [oSo so xc ro xu (nI (lc + 1)) uc, aC T xc 60 (upd tc lc (vp_nar .char cx))] H := hP
  have hD : va_D A [oSo so xc ro xu (nI (lc + 1)) uc, aC T xc 60 (upd tc lc (vp_nar .char cx))] := hD
  exact hret _ _ _ _ _ (fun Qc free hq hf => W.vret hx hb hr hq hf dX6_add_32 hlk) hP hD hS
abbrev rX6_readLength : Room := { frames := 3, cells := 0, slots := 0, locals := 62 }
set_option maxHeartbeats 4000000 in
set_option maxRecDepth 100000 in
theorem c_X6_readLength (l : Launch) (D : va_G) (T : Nat → ClassId) (so xc ro xu lc : Nat) (uc : Int32) (tc : Nat → Int32) (nu ti : Int32) (ip hp : Bool) (ca : Int32) (hlc : lc ≤ 60) : kM l D T yX6_readLength wsX6_readLength rX6_readLength [.ref so] [oSo so xc ro xu (nI lc) uc, aC T xc 60 tc, oRe ro nu ti (bI ip) (bI hp) ca] (some (.int (nI (rlN tc lc 0)))) [oSo so xc ro xu (nI lc) uc, aC T xc 60 tc, oRe ro (rdF tc (rlN tc lc 0)).1 (rdF tc (rlN tc lc 0)).2.1 (bI (rdF tc (rlN tc lc 0)).2.2.1) (bI (rdF tc (rlN tc lc 0)).2.2.2.1) (rdF tc (rlN tc lc 0)).2.2.2.2] := by
  refine kM.of (cc := cX6_readLength) (maxL := 2) (ret := some .int) (by decide) rfl (Nat.le_of_ble_eq_true rfl) ?_
  intro p e s m below meth c A Q ls hx hb hml hown hr hlk hts hC hP hD hS hA hl hret
  have iX6 : ∀ w ∈ wsX60, w ∈ wsX6_readLength := (fun _ h => List.mem_cons_of_mem _ (List.mem_append_left _ (List.mem_append_right _ h)))
  have loop_9 : ∀ (n i : Nat), i + n = lc → rlN tc n i = rlN tc lc 0 → ∀ (H : Heap) (locs : List Loc) (ls : Array Slot), va_P D vwCl [oSo so xc ro xu (nI lc) uc, aC T xc 60 tc, oRe ro (rdF tc i).1 (rdF tc i).2.1 (bI (rdF tc i).2.2.1) (bI (rdF tc i).2.2.2.1) (rdF tc i).2.2.2.2] H → va_D A [oSo so xc ro xu (nI lc) uc, aC T xc 60 tc, oRe ro (rdF tc i).1 (rdF tc i).2.1 (bI (rdF tc i).2.2.1) (bI (rdF tc i).2.2.2.1) (rdF tc i).2.2.2.2] → va_S A s.heap H locs → lv_has ls 2 [(1, .int (nI i)), (0, .ref so)] → W p l e rX6_readLength s m [.ref so].toArray below meth c H locs 0 0 Q (F0 m 9 ls []) := by
    intro n
    induction n with
    | zero =>
      intro i hi hv H locs ls hP hD hS hl
      have hi9 : lc = i := by omega
      subst hi9
      refine lv_iload_n hx hb dX6_readLength_9 rfl (lv_at hl 0 rfl) ?_
      refine lv_aload_n hx hb dX6_readLength_10 rfl (lv_at hl 1 rfl) ?_
      refine va_get (D := D) (ci := 5) (v := .int (nI lc)) (C := RX6) (T := TX6) (N := 5) hx hb hts iX6 hown hC.1 hP 0 rfl rfl 3 (by decide) (hts (.fieldLink RX6 26 "ParrotCounts$SongText" "length" "I") (List.mem_of_getElem? (i := 2) rfl)) (fun _ h => h) rfl dX6_readLength_11 ?_
      refine lv_icmp_ge (tgt := 39) hx hb dX6_readLength_14 (by decide) (fun _ => ?_) (fun c_x => absurd (Int32.le_refl _) c_x)
      refine lv_iload_n hx hb dX6_readLength_39 rfl (lv_at hl 0 rfl) ?_
      have e_1 : (rdF tc lc).1 = (rdF tc (rlN tc lc 0)).1 := by rw [← hv]; rfl
      have e_2 : (rdF tc lc).2.1 = (rdF tc (rlN tc lc 0)).2.1 := by rw [← hv]; rfl
      have e_3 : bI (rdF tc lc).2.2.1 = bI (rdF tc (rlN tc lc 0)).2.2.1 := by rw [← hv]; rfl
      have e_4 : bI (rdF tc lc).2.2.2.1 = bI (rdF tc (rlN tc lc 0)).2.2.2.1 := by rw [← hv]; rfl
      have e_5 : (rdF tc lc).2.2.2.2 = (rdF tc (rlN tc lc 0)).2.2.2.2 := by rw [← hv]; rfl
      have eW := (congrArg (fun zZ => ([oSo so xc ro xu (nI lc) uc, aC T xc 60 tc, oRe ro zZ (rdF tc lc).2.1 (bI (rdF tc lc).2.2.1) (bI (rdF tc lc).2.2.2.1) (rdF tc lc).2.2.2.2] : va_W)) e_1).trans ((congrArg (fun zZ => ([oSo so xc ro xu (nI lc) uc, aC T xc 60 tc, oRe ro (rdF tc (rlN tc lc 0)).1 zZ (bI (rdF tc lc).2.2.1) (bI (rdF tc lc).2.2.2.1) (rdF tc lc).2.2.2.2] : va_W)) e_2).trans ((congrArg (fun zZ => ([oSo so xc ro xu (nI lc) uc, aC T xc 60 tc, oRe ro (rdF tc (rlN tc lc 0)).1 (rdF tc (rlN tc lc 0)).2.1 zZ (bI (rdF tc lc).2.2.2.1) (rdF tc lc).2.2.2.2] : va_W)) e_3).trans ((congrArg (fun zZ => ([oSo so xc ro xu (nI lc) uc, aC T xc 60 tc, oRe ro (rdF tc (rlN tc lc 0)).1 (rdF tc (rlN tc lc 0)).2.1 (bI (rdF tc (rlN tc lc 0)).2.2.1) zZ (rdF tc lc).2.2.2.2] : va_W)) e_4).trans (congrArg (fun zZ => ([oSo so xc ro xu (nI lc) uc, aC T xc 60 tc, oRe ro (rdF tc (rlN tc lc 0)).1 (rdF tc (rlN tc lc 0)).2.1 (bI (rdF tc (rlN tc lc 0)).2.2.1) (bI (rdF tc (rlN tc lc 0)).2.2.2.1) zZ] : va_W)) e_5))))
      have hP : va_P D vwCl [oSo so xc ro xu (nI lc) uc, aC T xc 60 tc, oRe ro (rdF tc (rlN tc lc 0)).1 (rdF tc (rlN tc lc 0)).2.1 (bI (rdF tc (rlN tc lc 0)).2.2.1) (bI (rdF tc (rlN tc lc 0)).2.2.2.1) (rdF tc (rlN tc lc 0)).2.2.2.2] _ := Eq.subst (motive := fun w => va_P D vwCl w _) eW hP
      have hD : va_D A [oSo so xc ro xu (nI lc) uc, aC T xc 60 tc, oRe ro (rdF tc (rlN tc lc 0)).1 (rdF tc (rlN tc lc 0)).2.1 (bI (rdF tc (rlN tc lc 0)).2.2.1) (bI (rdF tc (rlN tc lc 0)).2.2.2.1) (rdF tc (rlN tc lc 0)).2.2.2.2] := Eq.subst (motive := fun w => va_D A w) eW hD
      have e_6 : nI lc = nI (rlN tc lc 0) := by rw [← hv]; rfl
      refine W.eq (g2 := F0 m 40 ls [.int (nI (rlN tc lc 0))]) (congrArg (fun z => F0 m 40 ls [.int z]) e_6) ?_
      exact hret _ _ _ _ _ (fun Qc free hq hf => W.iret hx hb hr hq hf dX6_readLength_40 hlk) hP hD hS
    | succ n ih =>
      intro i hi hv H locs ls hP hD hS hl
      have hlt : i < lc := by omega
      refine lv_iload_n hx hb dX6_readLength_9 rfl (lv_at hl 0 rfl) ?_
      refine lv_aload_n hx hb dX6_readLength_10 rfl (lv_at hl 1 rfl) ?_
      refine va_get (D := D) (ci := 5) (v := .int (nI lc)) (C := RX6) (T := TX6) (N := 5) hx hb hts iX6 hown hC.1 hP 0 rfl rfl 3 (by decide) (hts (.fieldLink RX6 26 "ParrotCounts$SongText" "length" "I") (List.mem_of_getElem? (i := 2) rfl)) (fun _ h => h) rfl dX6_readLength_11 ?_
      refine lv_icmp_ge (tgt := 39) hx hb dX6_readLength_14 (by decide) (fun c_x => absurd c_x (nI_ge (b := lc) hlt (by omega))) (fun _ => ?_)
      refine lv_aload_n hx hb dX6_readLength_17 rfl (lv_at hl 1 rfl) ?_
      refine va_get (D := D) (ci := 5) (v := .ref ro) (C := RX6) (T := TX6) (N := 5) hx hb hts iX6 hown hC.1 hP 0 rfl rfl 1 (by decide) (hts (.fieldLink RX6 18 "ParrotCounts$SongText" "reading" "LParrotCounts$Reading;") (List.mem_of_getElem? (i := 1) rfl)) (fun _ h => h) rfl dX6_readLength_18 ?_
      refine lv_aload_n hx hb dX6_readLength_21 rfl (lv_at hl 1 rfl) ?_
      refine va_get (D := D) (ci := 5) (v := .ref xc) (C := RX6) (T := TX6) (N := 5) hx hb hts iX6 hown hC.1 hP 0 rfl rfl 0 (by decide) (hts (.fieldLink RX6 9 "ParrotCounts$SongText" "characters" "[C") (List.mem_of_getElem? (i := 3) rfl)) (fun _ h => h) rfl dX6_readLength_22 ?_
      refine lv_iload_n hx hb dX6_readLength_25 rfl (lv_at hl 0 rfl) ?_
      refine k_cald hx hb hC.1 hP 1 1 rfl rfl (by omega) dX6_readLength_26 ?_
      have hP := hP.sub (ws' := [oRe ro (rdF tc i).1 (rdF tc i).2.1 (bI (rdF tc i).2.2.1) (bI (rdF tc i).2.2.2.1) (rdF tc i).2.2.2.2] ++ [oSo so xc ro xu (nI lc) uc, aC T xc 60 tc]) [2, 0, 1] rfl
      have hD := hD.sub (ws' := [oRe ro (rdF tc i).1 (rdF tc i).2.1 (bI (rdF tc i).2.2.1) (bI (rdF tc i).2.2.2.1) (rdF tc i).2.2.2.2] ++ [oSo so xc ro xu (nI lc) uc, aC T xc 60 tc]) [2, 0, 1] (by decide) rfl
      refine kV (ci := 3) (As := [.int (tc i)]) (rest := []) ⟨hx, hb, hml, hown, hts⟩ (c_X4_accept l D T ro (rdF tc i).1 (rdF tc i).2.1 (rdF tc i).2.2.1 (rdF tc i).2.2.2.1 (rdF tc i).2.2.2.2 (tc i) ) (cwV 1 hts gX6_readLength_X4_accept rfl rfl rfl (by decide +kernel) ⟨Nat.le_of_ble_eq_true rfl, Nat.le_of_ble_eq_true rfl⟩) hC hP hD hS hA rfl rfl rfl hl.1 rfl (Nat.le_of_ble_eq_true rfl) dX6_readLength_27 ⟨Nat.zero_le _, Nat.zero_le _⟩ (fun H locs hP hD hS => ?_)
      have hP := hP.sub (ws' := [oSo so xc ro xu (nI lc) uc, aC T xc 60 tc, oRe ro (rdS (rdF tc i).1 (rdF tc i).2.1 (rdF tc i).2.2.1 (rdF tc i).2.2.2.1 (rdF tc i).2.2.2.2 (tc i)).1 (rdS (rdF tc i).1 (rdF tc i).2.1 (rdF tc i).2.2.1 (rdF tc i).2.2.2.1 (rdF tc i).2.2.2.2 (tc i)).2.1 (bI (rdS (rdF tc i).1 (rdF tc i).2.1 (rdF tc i).2.2.1 (rdF tc i).2.2.2.1 (rdF tc i).2.2.2.2 (tc i)).2.2.1) (bI (rdS (rdF tc i).1 (rdF tc i).2.1 (rdF tc i).2.2.1 (rdF tc i).2.2.2.1 (rdF tc i).2.2.2.2 (tc i)).2.2.2.1) (rdS (rdF tc i).1 (rdF tc i).2.1 (rdF tc i).2.2.1 (rdF tc i).2.2.2.1 (rdF tc i).2.2.2.2 (tc i)).2.2.2.2]) [1, 2, 0] rfl
      have hD := hD.sub (ws' := [oSo so xc ro xu (nI lc) uc, aC T xc 60 tc, oRe ro (rdS (rdF tc i).1 (rdF tc i).2.1 (rdF tc i).2.2.1 (rdF tc i).2.2.2.1 (rdF tc i).2.2.2.2 (tc i)).1 (rdS (rdF tc i).1 (rdF tc i).2.1 (rdF tc i).2.2.1 (rdF tc i).2.2.2.1 (rdF tc i).2.2.2.2 (tc i)).2.1 (bI (rdS (rdF tc i).1 (rdF tc i).2.1 (rdF tc i).2.2.1 (rdF tc i).2.2.2.1 (rdF tc i).2.2.2.2 (tc i)).2.2.1) (bI (rdS (rdF tc i).1 (rdF tc i).2.1 (rdF tc i).2.2.1 (rdF tc i).2.2.2.1 (rdF tc i).2.2.2.2 (tc i)).2.2.2.1) (rdS (rdF tc i).1 (rdF tc i).2.1 (rdF tc i).2.2.1 (rdF tc i).2.2.2.1 (rdF tc i).2.2.2.2 (tc i)).2.2.2.2]) [1, 2, 0] (by decide) rfl
      refine W.eq (g2 := F0 m 30 ls [.int (bI (rdK (rdF tc i).1 (rdF tc i).2.2.1 (rdF tc i).2.2.2.1 (tc i)))]) rfl ?_
      refine lv_if_eq (tgt := 39) hx hb dX6_readLength_30 (by decide) (fun c30 => ?_) (fun c30 => ?_)
      · have c30 := (bI0 _).mp c30
        refine lv_iload_n hx hb dX6_readLength_39 rfl (lv_at hl 0 rfl) ?_
        have e_7 : (rdS (rdF tc i).1 (rdF tc i).2.1 (rdF tc i).2.2.1 (rdF tc i).2.2.2.1 (rdF tc i).2.2.2.2 (tc i)).1 = (rdF tc (rlN tc lc 0)).1 := by rw [← hv, rlN, if_neg (show ¬ rdA tc i = true from by rw [show rdA tc i = false from c30]; decide), rdS_no c30]
        have e_8 : (rdS (rdF tc i).1 (rdF tc i).2.1 (rdF tc i).2.2.1 (rdF tc i).2.2.2.1 (rdF tc i).2.2.2.2 (tc i)).2.1 = (rdF tc (rlN tc lc 0)).2.1 := by rw [← hv, rlN, if_neg (show ¬ rdA tc i = true from by rw [show rdA tc i = false from c30]; decide), rdS_no c30]
        have e_9 : bI (rdS (rdF tc i).1 (rdF tc i).2.1 (rdF tc i).2.2.1 (rdF tc i).2.2.2.1 (rdF tc i).2.2.2.2 (tc i)).2.2.1 = bI (rdF tc (rlN tc lc 0)).2.2.1 := by rw [← hv, rlN, if_neg (show ¬ rdA tc i = true from by rw [show rdA tc i = false from c30]; decide), rdS_no c30]
        have e_10 : bI (rdS (rdF tc i).1 (rdF tc i).2.1 (rdF tc i).2.2.1 (rdF tc i).2.2.2.1 (rdF tc i).2.2.2.2 (tc i)).2.2.2.1 = bI (rdF tc (rlN tc lc 0)).2.2.2.1 := by rw [← hv, rlN, if_neg (show ¬ rdA tc i = true from by rw [show rdA tc i = false from c30]; decide), rdS_no c30]
        have e_11 : (rdS (rdF tc i).1 (rdF tc i).2.1 (rdF tc i).2.2.1 (rdF tc i).2.2.2.1 (rdF tc i).2.2.2.2 (tc i)).2.2.2.2 = (rdF tc (rlN tc lc 0)).2.2.2.2 := by rw [← hv, rlN, if_neg (show ¬ rdA tc i = true from by rw [show rdA tc i = false from c30]; decide), rdS_no c30]
        have eW := (congrArg (fun zZ => ([oSo so xc ro xu (nI lc) uc, aC T xc 60 tc, oRe ro zZ (rdS (rdF tc i).1 (rdF tc i).2.1 (rdF tc i).2.2.1 (rdF tc i).2.2.2.1 (rdF tc i).2.2.2.2 (tc i)).2.1 (bI (rdS (rdF tc i).1 (rdF tc i).2.1 (rdF tc i).2.2.1 (rdF tc i).2.2.2.1 (rdF tc i).2.2.2.2 (tc i)).2.2.1) (bI (rdS (rdF tc i).1 (rdF tc i).2.1 (rdF tc i).2.2.1 (rdF tc i).2.2.2.1 (rdF tc i).2.2.2.2 (tc i)).2.2.2.1) (rdS (rdF tc i).1 (rdF tc i).2.1 (rdF tc i).2.2.1 (rdF tc i).2.2.2.1 (rdF tc i).2.2.2.2 (tc i)).2.2.2.2] : va_W)) e_7).trans ((congrArg (fun zZ => ([oSo so xc ro xu (nI lc) uc, aC T xc 60 tc, oRe ro (rdF tc (rlN tc lc 0)).1 zZ (bI (rdS (rdF tc i).1 (rdF tc i).2.1 (rdF tc i).2.2.1 (rdF tc i).2.2.2.1 (rdF tc i).2.2.2.2 (tc i)).2.2.1) (bI (rdS (rdF tc i).1 (rdF tc i).2.1 (rdF tc i).2.2.1 (rdF tc i).2.2.2.1 (rdF tc i).2.2.2.2 (tc i)).2.2.2.1) (rdS (rdF tc i).1 (rdF tc i).2.1 (rdF tc i).2.2.1 (rdF tc i).2.2.2.1 (rdF tc i).2.2.2.2 (tc i)).2.2.2.2] : va_W)) e_8).trans ((congrArg (fun zZ => ([oSo so xc ro xu (nI lc) uc, aC T xc 60 tc, oRe ro (rdF tc (rlN tc lc 0)).1 (rdF tc (rlN tc lc 0)).2.1 zZ (bI (rdS (rdF tc i).1 (rdF tc i).2.1 (rdF tc i).2.2.1 (rdF tc i).2.2.2.1 (rdF tc i).2.2.2.2 (tc i)).2.2.2.1) (rdS (rdF tc i).1 (rdF tc i).2.1 (rdF tc i).2.2.1 (rdF tc i).2.2.2.1 (rdF tc i).2.2.2.2 (tc i)).2.2.2.2] : va_W)) e_9).trans ((congrArg (fun zZ => ([oSo so xc ro xu (nI lc) uc, aC T xc 60 tc, oRe ro (rdF tc (rlN tc lc 0)).1 (rdF tc (rlN tc lc 0)).2.1 (bI (rdF tc (rlN tc lc 0)).2.2.1) zZ (rdS (rdF tc i).1 (rdF tc i).2.1 (rdF tc i).2.2.1 (rdF tc i).2.2.2.1 (rdF tc i).2.2.2.2 (tc i)).2.2.2.2] : va_W)) e_10).trans (congrArg (fun zZ => ([oSo so xc ro xu (nI lc) uc, aC T xc 60 tc, oRe ro (rdF tc (rlN tc lc 0)).1 (rdF tc (rlN tc lc 0)).2.1 (bI (rdF tc (rlN tc lc 0)).2.2.1) (bI (rdF tc (rlN tc lc 0)).2.2.2.1) zZ] : va_W)) e_11))))
        have hP : va_P D vwCl [oSo so xc ro xu (nI lc) uc, aC T xc 60 tc, oRe ro (rdF tc (rlN tc lc 0)).1 (rdF tc (rlN tc lc 0)).2.1 (bI (rdF tc (rlN tc lc 0)).2.2.1) (bI (rdF tc (rlN tc lc 0)).2.2.2.1) (rdF tc (rlN tc lc 0)).2.2.2.2] _ := Eq.subst (motive := fun w => va_P D vwCl w _) eW hP
        have hD : va_D A [oSo so xc ro xu (nI lc) uc, aC T xc 60 tc, oRe ro (rdF tc (rlN tc lc 0)).1 (rdF tc (rlN tc lc 0)).2.1 (bI (rdF tc (rlN tc lc 0)).2.2.1) (bI (rdF tc (rlN tc lc 0)).2.2.2.1) (rdF tc (rlN tc lc 0)).2.2.2.2] := Eq.subst (motive := fun w => va_D A w) eW hD
        have e_12 : nI i = nI (rlN tc lc 0) := by rw [← hv, rlN, if_neg (show ¬ rdA tc i = true from by rw [show rdA tc i = false from c30]; decide)]
        refine W.eq (g2 := F0 m 40 ls [.int (nI (rlN tc lc 0))]) (congrArg (fun z => F0 m 40 ls [.int z]) e_12) ?_
        exact hret _ _ _ _ _ (fun Qc free hq hf => W.iret hx hb hr hq hf dX6_readLength_40 hlk) hP hD hS
      · have c30 := (bI0n _).mp c30
        refine lv_iinc (v := nI (i + 1)) (lv' := [(1, .int (nI (i + 1))), (0, .ref so)]) hx hb dX6_readLength_33 hl (k := 0) rfl (nI_1 i) (by decide) rfl (fun ls hl => ?_)
        refine lv_goto (tgt := 9) hx hb dX6_readLength_36 (by decide) ?_
        have e_13 : (rdS (rdF tc i).1 (rdF tc i).2.1 (rdF tc i).2.2.1 (rdF tc i).2.2.2.1 (rdF tc i).2.2.2.2 (tc i)).1 = (rdF tc (i + 1)).1 := by rw [rdF]
        have e_14 : (rdS (rdF tc i).1 (rdF tc i).2.1 (rdF tc i).2.2.1 (rdF tc i).2.2.2.1 (rdF tc i).2.2.2.2 (tc i)).2.1 = (rdF tc (i + 1)).2.1 := by rw [rdF]
        have e_15 : bI (rdS (rdF tc i).1 (rdF tc i).2.1 (rdF tc i).2.2.1 (rdF tc i).2.2.2.1 (rdF tc i).2.2.2.2 (tc i)).2.2.1 = bI (rdF tc (i + 1)).2.2.1 := by rw [rdF]
        have e_16 : bI (rdS (rdF tc i).1 (rdF tc i).2.1 (rdF tc i).2.2.1 (rdF tc i).2.2.2.1 (rdF tc i).2.2.2.2 (tc i)).2.2.2.1 = bI (rdF tc (i + 1)).2.2.2.1 := by rw [rdF]
        have e_17 : (rdS (rdF tc i).1 (rdF tc i).2.1 (rdF tc i).2.2.1 (rdF tc i).2.2.2.1 (rdF tc i).2.2.2.2 (tc i)).2.2.2.2 = (rdF tc (i + 1)).2.2.2.2 := by rw [rdF]
        have eW := (congrArg (fun zZ => ([oSo so xc ro xu (nI lc) uc, aC T xc 60 tc, oRe ro zZ (rdS (rdF tc i).1 (rdF tc i).2.1 (rdF tc i).2.2.1 (rdF tc i).2.2.2.1 (rdF tc i).2.2.2.2 (tc i)).2.1 (bI (rdS (rdF tc i).1 (rdF tc i).2.1 (rdF tc i).2.2.1 (rdF tc i).2.2.2.1 (rdF tc i).2.2.2.2 (tc i)).2.2.1) (bI (rdS (rdF tc i).1 (rdF tc i).2.1 (rdF tc i).2.2.1 (rdF tc i).2.2.2.1 (rdF tc i).2.2.2.2 (tc i)).2.2.2.1) (rdS (rdF tc i).1 (rdF tc i).2.1 (rdF tc i).2.2.1 (rdF tc i).2.2.2.1 (rdF tc i).2.2.2.2 (tc i)).2.2.2.2] : va_W)) e_13).trans ((congrArg (fun zZ => ([oSo so xc ro xu (nI lc) uc, aC T xc 60 tc, oRe ro (rdF tc (i + 1)).1 zZ (bI (rdS (rdF tc i).1 (rdF tc i).2.1 (rdF tc i).2.2.1 (rdF tc i).2.2.2.1 (rdF tc i).2.2.2.2 (tc i)).2.2.1) (bI (rdS (rdF tc i).1 (rdF tc i).2.1 (rdF tc i).2.2.1 (rdF tc i).2.2.2.1 (rdF tc i).2.2.2.2 (tc i)).2.2.2.1) (rdS (rdF tc i).1 (rdF tc i).2.1 (rdF tc i).2.2.1 (rdF tc i).2.2.2.1 (rdF tc i).2.2.2.2 (tc i)).2.2.2.2] : va_W)) e_14).trans ((congrArg (fun zZ => ([oSo so xc ro xu (nI lc) uc, aC T xc 60 tc, oRe ro (rdF tc (i + 1)).1 (rdF tc (i + 1)).2.1 zZ (bI (rdS (rdF tc i).1 (rdF tc i).2.1 (rdF tc i).2.2.1 (rdF tc i).2.2.2.1 (rdF tc i).2.2.2.2 (tc i)).2.2.2.1) (rdS (rdF tc i).1 (rdF tc i).2.1 (rdF tc i).2.2.1 (rdF tc i).2.2.2.1 (rdF tc i).2.2.2.2 (tc i)).2.2.2.2] : va_W)) e_15).trans ((congrArg (fun zZ => ([oSo so xc ro xu (nI lc) uc, aC T xc 60 tc, oRe ro (rdF tc (i + 1)).1 (rdF tc (i + 1)).2.1 (bI (rdF tc (i + 1)).2.2.1) zZ (rdS (rdF tc i).1 (rdF tc i).2.1 (rdF tc i).2.2.1 (rdF tc i).2.2.2.1 (rdF tc i).2.2.2.2 (tc i)).2.2.2.2] : va_W)) e_16).trans (congrArg (fun zZ => ([oSo so xc ro xu (nI lc) uc, aC T xc 60 tc, oRe ro (rdF tc (i + 1)).1 (rdF tc (i + 1)).2.1 (bI (rdF tc (i + 1)).2.2.1) (bI (rdF tc (i + 1)).2.2.2.1) zZ] : va_W)) e_17))))
        have hP : va_P D vwCl [oSo so xc ro xu (nI lc) uc, aC T xc 60 tc, oRe ro (rdF tc (i + 1)).1 (rdF tc (i + 1)).2.1 (bI (rdF tc (i + 1)).2.2.1) (bI (rdF tc (i + 1)).2.2.2.1) (rdF tc (i + 1)).2.2.2.2] _ := Eq.subst (motive := fun w => va_P D vwCl w _) eW hP
        have hD : va_D A [oSo so xc ro xu (nI lc) uc, aC T xc 60 tc, oRe ro (rdF tc (i + 1)).1 (rdF tc (i + 1)).2.1 (bI (rdF tc (i + 1)).2.2.1) (bI (rdF tc (i + 1)).2.2.2.1) (rdF tc (i + 1)).2.2.2.2] := Eq.subst (motive := fun w => va_D A w) eW hD
        have hl : lv_has ls 2 [(1, .int (nI (i + 1))), (0, .ref so)] := lv_sub hl [0, 1] (by rfl)
        exact ih (i + 1) (by omega) (by rw [← hv, rlN, if_pos (show rdA tc i = true from c30)]) _ _ _ hP hD hS hl
  have hl : lv_has ls 2 [(0, .ref so)] := hl
  have hP : va_P D vwCl [oSo so xc ro xu (nI lc) uc, aC T xc 60 tc, oRe ro nu ti (bI ip) (bI hp) ca] s.heap := hP
  have hD : va_D A [oSo so xc ro xu (nI lc) uc, aC T xc 60 tc, oRe ro nu ti (bI ip) (bI hp) ca] := hD
  refine lv_aload_n hx hb dX6_readLength_0 rfl (lv_at hl 0 rfl) ?_
  refine va_get (D := D) (ci := 5) (v := .ref ro) (C := RX6) (T := TX6) (N := 5) hx hb hts iX6 hown hC.1 hP 0 rfl rfl 1 (by decide) (hts (.fieldLink RX6 18 "ParrotCounts$SongText" "reading" "LParrotCounts$Reading;") (List.mem_of_getElem? (i := 1) rfl)) (fun _ h => h) rfl dX6_readLength_1 ?_
  have hP := hP.sub (ws' := [oRe ro nu ti (bI ip) (bI hp) ca] ++ [oSo so xc ro xu (nI lc) uc, aC T xc 60 tc]) [2, 0, 1] rfl
  have hD := hD.sub (ws' := [oRe ro nu ti (bI ip) (bI hp) ca] ++ [oSo so xc ro xu (nI lc) uc, aC T xc 60 tc]) [2, 0, 1] (by decide) rfl
  refine kV (ci := 3) (As := []) (rest := []) ⟨hx, hb, hml, hown, hts⟩ (c_X4_beginAnew l D T ro nu ti ip hp ca ) (cwV 0 hts gX6_readLength_X4_beginAnew rfl rfl rfl (by decide +kernel) ⟨Nat.le_of_ble_eq_true rfl, Nat.le_of_ble_eq_true rfl⟩) hC hP hD hS hA rfl rfl rfl hl.1 rfl (Nat.le_of_ble_eq_true rfl) dX6_readLength_4 ⟨Nat.zero_le _, Nat.zero_le _⟩ (fun H locs hP hD hS => ?_)
  have hP := hP.sub (ws' := [oSo so xc ro xu (nI lc) uc, aC T xc 60 tc, oRe ro 0 1 0 0 0]) [1, 2, 0] rfl
  have hD := hD.sub (ws' := [oSo so xc ro xu (nI lc) uc, aC T xc 60 tc, oRe ro 0 1 0 0 0]) [1, 2, 0] (by decide) rfl
  refine W.eq (g2 := F0 m 7 ls []) rfl ?_
  refine lv_iconst (v := 0) hx hb dX6_readLength_7 (by decide) ?_
  refine lv_istore_n (lv' := [(1, .int 0), (0, .ref so)]) hx hb dX6_readLength_8 rfl hl (by decide) rfl (fun ls hl => ?_)
  have e_18 : 0 = (rdF tc 0).1 := rfl
  have e_19 : 1 = (rdF tc 0).2.1 := rfl
  have e_20 : 0 = bI (rdF tc 0).2.2.1 := rfl
  have e_21 : 0 = bI (rdF tc 0).2.2.2.1 := rfl
  have e_22 : 0 = (rdF tc 0).2.2.2.2 := rfl
  have eW := (congrArg (fun zZ => ([oSo so xc ro xu (nI lc) uc, aC T xc 60 tc, oRe ro zZ 1 0 0 0] : va_W)) e_18).trans ((congrArg (fun zZ => ([oSo so xc ro xu (nI lc) uc, aC T xc 60 tc, oRe ro (rdF tc 0).1 zZ 0 0 0] : va_W)) e_19).trans ((congrArg (fun zZ => ([oSo so xc ro xu (nI lc) uc, aC T xc 60 tc, oRe ro (rdF tc 0).1 (rdF tc 0).2.1 zZ 0 0] : va_W)) e_20).trans ((congrArg (fun zZ => ([oSo so xc ro xu (nI lc) uc, aC T xc 60 tc, oRe ro (rdF tc 0).1 (rdF tc 0).2.1 (bI (rdF tc 0).2.2.1) zZ 0] : va_W)) e_21).trans (congrArg (fun zZ => ([oSo so xc ro xu (nI lc) uc, aC T xc 60 tc, oRe ro (rdF tc 0).1 (rdF tc 0).2.1 (bI (rdF tc 0).2.2.1) (bI (rdF tc 0).2.2.2.1) zZ] : va_W)) e_22))))
  have hP : va_P D vwCl [oSo so xc ro xu (nI lc) uc, aC T xc 60 tc, oRe ro (rdF tc 0).1 (rdF tc 0).2.1 (bI (rdF tc 0).2.2.1) (bI (rdF tc 0).2.2.2.1) (rdF tc 0).2.2.2.2] _ := Eq.subst (motive := fun w => va_P D vwCl w _) eW hP
  have hD : va_D A [oSo so xc ro xu (nI lc) uc, aC T xc 60 tc, oRe ro (rdF tc 0).1 (rdF tc 0).2.1 (bI (rdF tc 0).2.2.1) (bI (rdF tc 0).2.2.2.1) (rdF tc 0).2.2.2.2] := Eq.subst (motive := fun w => va_D A w) eW hD
  have e_23 : (0 : Int32) = nI 0 := rfl
  have hl : lv_has ls 2 [(1, .int (nI 0)), (0, .ref so)] := lv_sub hl [0, 1] (by show (_ : List (Nat × Value)) = [(1, .int (nI 0)), (0, .ref so)]; rw [← e_23]; rfl)
  exact loop_9 lc 0 (by omega) rfl _ _ _ hP hD hS hl
abbrev rX6_isSong : Room := { frames := 4, cells := 0, slots := 0, locals := 83 }
set_option maxHeartbeats 4000000 in
set_option maxRecDepth 100000 in
theorem c_X6_isSong (l : Launch) (D : va_G) (T : Nat → ClassId) (so xc ro xu lc : Nat) (uc : Int32) (tc : Nat → Int32) (nu ti : Int32) (ip hp : Bool) (ca : Int32) (hlc : lc ≤ 60) : kM l D T yX6_isSong wsX6_isSong rX6_isSong [.ref so] [oSo so xc ro xu (nI lc) uc, aC T xc 60 tc, oRe ro nu ti (bI ip) (bI hp) ca] (some (.int (bI (song tc lc)))) [oSo so xc ro xu (nI lc) uc, aC T xc 60 tc, oRe ro (rdF tc (rlN tc lc 0)).1 (rdF tc (rlN tc lc 0)).2.1 (bI (rdF tc (rlN tc lc 0)).2.2.1) (bI (rdF tc (rlN tc lc 0)).2.2.2.1) (rdF tc (rlN tc lc 0)).2.2.2.2] := by
  refine kM.of (cc := cX6_isSong) (maxL := 1) (ret := some .boolean) (by decide) rfl (Nat.le_of_ble_eq_true rfl) ?_
  intro p e s m below meth c A Q ls hx hb hml hown hr hlk hts hC hP hD hS hA hl hret
  have iX6 : ∀ w ∈ wsX60, w ∈ wsX6_isSong := (fun _ h => List.mem_cons_of_mem _ (List.mem_append_left _ (List.mem_append_right _ h)))
  have hl : lv_has ls 1 [(0, .ref so)] := hl
  have hP : va_P D vwCl [oSo so xc ro xu (nI lc) uc, aC T xc 60 tc, oRe ro nu ti (bI ip) (bI hp) ca] s.heap := hP
  have hD : va_D A [oSo so xc ro xu (nI lc) uc, aC T xc 60 tc, oRe ro nu ti (bI ip) (bI hp) ca] := hD
  refine lv_aload_n hx hb dX6_isSong_0 rfl (lv_at hl 0 rfl) ?_
  have hP := hP.sub (ws' := [oSo so xc ro xu (nI lc) uc, aC T xc 60 tc, oRe ro nu ti (bI ip) (bI hp) ca] ++ []) [0, 1, 2] rfl
  have hD := hD.sub (ws' := [oSo so xc ro xu (nI lc) uc, aC T xc 60 tc, oRe ro nu ti (bI ip) (bI hp) ca] ++ []) [0, 1, 2] (by decide) rfl
  refine kV (ci := 5) (As := []) (rest := []) ⟨hx, hb, hml, hown, hts⟩ (c_X6_readLength l D T so xc ro xu lc uc tc nu ti ip hp ca (by first | omega | assumption)) (cwV 0 hts gX6_isSong_X6_readLength rfl rfl rfl (by decide +kernel) ⟨Nat.le_of_ble_eq_true rfl, Nat.le_of_ble_eq_true rfl⟩) hC hP hD hS hA rfl rfl rfl hl.1 rfl (Nat.le_of_ble_eq_true rfl) dX6_isSong_1 ⟨Nat.zero_le _, Nat.zero_le _⟩ (fun H locs hP hD hS => ?_)
  have hP : va_P D vwCl [oSo so xc ro xu (nI lc) uc, aC T xc 60 tc, oRe ro (rdF tc (rlN tc lc 0)).1 (rdF tc (rlN tc lc 0)).2.1 (bI (rdF tc (rlN tc lc 0)).2.2.1) (bI (rdF tc (rlN tc lc 0)).2.2.2.1) (rdF tc (rlN tc lc 0)).2.2.2.2] H := hP
  have hD : va_D A [oSo so xc ro xu (nI lc) uc, aC T xc 60 tc, oRe ro (rdF tc (rlN tc lc 0)).1 (rdF tc (rlN tc lc 0)).2.1 (bI (rdF tc (rlN tc lc 0)).2.2.1) (bI (rdF tc (rlN tc lc 0)).2.2.2.1) (rdF tc (rlN tc lc 0)).2.2.2.2] := hD
  refine W.eq (g2 := F0 m 4 ls [.int (nI (rlN tc lc 0))]) rfl ?_
  refine lv_aload_n hx hb dX6_isSong_4 rfl (lv_at hl 0 rfl) ?_
  refine va_get (D := D) (ci := 5) (v := .int (nI lc)) (C := RX6) (T := TX6) (N := 5) hx hb hts iX6 hown hC.1 hP 0 rfl rfl 3 (by decide) (hts (.fieldLink RX6 26 "ParrotCounts$SongText" "length" "I") (List.mem_of_getElem? (i := 1) rfl)) (fun _ h => h) rfl dX6_isSong_5 ?_
  refine lv_icmp_ne (tgt := 25) hx hb dX6_isSong_8 (by decide) (fun c8 => ?_) (fun c8 => ?_)
  · refine lv_iconst (v := 0) hx hb dX6_isSong_25 (by decide) ?_
    have e_1 : 0 = bI (song tc lc) := by first | with_reducible rfl | (simp [song, bI, c8]; done)
    refine W.eq (g2 := F0 m 26 ls [.int (bI (song tc lc))]) (congrArg (fun z => F0 m 26 ls [.int z]) e_1) ?_
    exact hret _ _ _ _ _ (fun Qc free hq hf => W.zret hx hb hr (bI_nar _) hq hf dX6_isSong_26 hlk) hP hD hS
  · refine lv_aload_n hx hb dX6_isSong_11 rfl (lv_at hl 0 rfl) ?_
    refine va_get (D := D) (ci := 5) (v := .ref ro) (C := RX6) (T := TX6) (N := 5) hx hb hts iX6 hown hC.1 hP 0 rfl rfl 1 (by decide) (hts (.fieldLink RX6 18 "ParrotCounts$SongText" "reading" "LParrotCounts$Reading;") (List.mem_of_getElem? (i := 2) rfl)) (fun _ h => h) rfl dX6_isSong_12 ?_
    have hP := hP.sub (ws' := [oRe ro (rdF tc (rlN tc lc 0)).1 (rdF tc (rlN tc lc 0)).2.1 (bI (rdF tc (rlN tc lc 0)).2.2.1) (bI (rdF tc (rlN tc lc 0)).2.2.2.1) (rdF tc (rlN tc lc 0)).2.2.2.2] ++ [oSo so xc ro xu (nI lc) uc, aC T xc 60 tc]) [2, 0, 1] rfl
    have hD := hD.sub (ws' := [oRe ro (rdF tc (rlN tc lc 0)).1 (rdF tc (rlN tc lc 0)).2.1 (bI (rdF tc (rlN tc lc 0)).2.2.1) (bI (rdF tc (rlN tc lc 0)).2.2.2.1) (rdF tc (rlN tc lc 0)).2.2.2.2] ++ [oSo so xc ro xu (nI lc) uc, aC T xc 60 tc]) [2, 0, 1] (by decide) rfl
    refine kV (ci := 3) (As := []) (rest := []) ⟨hx, hb, hml, hown, hts⟩ (c_X4_isWhole l D T ro (rdF tc (rlN tc lc 0)).1 (rdF tc (rlN tc lc 0)).2.1 (rdF tc (rlN tc lc 0)).2.2.1 (rdF tc (rlN tc lc 0)).2.2.2.1 (rdF tc (rlN tc lc 0)).2.2.2.2 ) (cwV 0 hts gX6_isSong_X4_isWhole rfl rfl rfl (by decide +kernel) ⟨Nat.le_of_ble_eq_true rfl, Nat.le_of_ble_eq_true rfl⟩) hC hP hD hS hA rfl rfl rfl hl.1 rfl (Nat.le_of_ble_eq_true rfl) dX6_isSong_15 ⟨Nat.zero_le _, Nat.zero_le _⟩ (fun H locs hP hD hS => ?_)
    have hP := hP.sub (ws' := [oSo so xc ro xu (nI lc) uc, aC T xc 60 tc, oRe ro (rdF tc (rlN tc lc 0)).1 (rdF tc (rlN tc lc 0)).2.1 (bI (rdF tc (rlN tc lc 0)).2.2.1) (bI (rdF tc (rlN tc lc 0)).2.2.2.1) (rdF tc (rlN tc lc 0)).2.2.2.2]) [1, 2, 0] rfl
    have hD := hD.sub (ws' := [oSo so xc ro xu (nI lc) uc, aC T xc 60 tc, oRe ro (rdF tc (rlN tc lc 0)).1 (rdF tc (rlN tc lc 0)).2.1 (bI (rdF tc (rlN tc lc 0)).2.2.1) (bI (rdF tc (rlN tc lc 0)).2.2.2.1) (rdF tc (rlN tc lc 0)).2.2.2.2]) [1, 2, 0] (by decide) rfl
    refine W.eq (g2 := F0 m 18 ls [.int (bI (whole (rdF tc (rlN tc lc 0)).1 (rdF tc (rlN tc lc 0)).2.2.1 (rdF tc (rlN tc lc 0)).2.2.2.1))]) rfl ?_
    refine lv_if_eq (tgt := 25) hx hb dX6_isSong_18 (by decide) (fun c18 => ?_) (fun c18 => ?_)
    · have c18 := (bI0 _).mp c18
      refine lv_iconst (v := 0) hx hb dX6_isSong_25 (by decide) ?_
      have e_2 : 0 = bI (song tc lc) := by first | with_reducible rfl | (simp [song, bI, eq_true c8, c18]; done)
      refine W.eq (g2 := F0 m 26 ls [.int (bI (song tc lc))]) (congrArg (fun z => F0 m 26 ls [.int z]) e_2) ?_
      exact hret _ _ _ _ _ (fun Qc free hq hf => W.zret hx hb hr (bI_nar _) hq hf dX6_isSong_26 hlk) hP hD hS
    · have c18 := (bI0n _).mp c18
      refine lv_iconst (v := 1) hx hb dX6_isSong_21 (by decide) ?_
      refine lv_goto (tgt := 26) hx hb dX6_isSong_22 (by decide) ?_
      have e_3 : 1 = bI (song tc lc) := by first | with_reducible rfl | (simp [song, bI, eq_true c8, c18]; done)
      refine W.eq (g2 := F0 m 26 ls [.int (bI (song tc lc))]) (congrArg (fun z => F0 m 26 ls [.int z]) e_3) ?_
      exact hret _ _ _ _ _ (fun Qc free hq hf => W.zret hx hb hr (bI_nar _) hq hf dX6_isSong_26 hlk) hP hD hS
