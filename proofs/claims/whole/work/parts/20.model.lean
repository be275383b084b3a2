def rwF (al : Nat → Int32) (ro : Nat) : Nat → Int32 := fun j => al (ro + j)
theorem rwF_at (al : Nat → Int32) (ro j : Nat) : rwF al ro j = al (ro + j) := rfl
theorem nI_z (j : Nat) : 0 + nI j = nI j := by
  show nI 0 + nI j = nI j
  rw [nI_add, Nat.zero_add]
def inL (v lo hi : Int64) : Bool := if 0 ≤ lg_cmp v lo then decide (lg_cmp v hi ≤ 0) else false
/-- a state comes into the history -/
def shN (hy : Nat → Int32) : Nat → (Nat → Int32)
  | 0 => hy
  | i + 1 => upd (shN hy i) i (shN hy i (i + 266))
def cpH (hy al : Nat → Int32) (hn : Nat) : Nat → (Nat → Int32)
  | 0 => hy
  | i + 1 => upd (cpH hy al hn i) (266 * hn + i) (al i)
def chB (hy : Nat → Int32) (hn : Nat) : Nat → Int32 := if nI hn = 5 then shN hy 1064 else hy
def chK (hn : Nat) : Nat := if nI hn = 5 then 4 else hn
theorem chK_le {hn : Nat} (h : hn ≤ 5) : chK hn ≤ 4 := by
  unfold chK
  by_cases e : nI hn = 5
  · rw [if_pos e]; decide
  · rw [if_neg e]
    rcases Nat.lt_or_ge hn 5 with q | q
    · omega
    · have : hn = 5 := by omega
      subst this; exact absurd rfl e
theorem chK_y {hn : Nat} (c : nI hn = 5) : nI hn - 1 = nI (chK hn) := by unfold chK; rw [if_pos c, c]; decide
theorem chK_n {hn : Nat} (c : ¬ nI hn = 5) : nI hn = nI (chK hn) := by unfold chK; rw [if_neg c]
theorem chB_y {hy : Nat → Int32} {al : Nat → Int32} {hn : Nat} (c : nI hn = 5) : shN hy 1064 = cpH (chB hy hn) al (chK hn) 0 := by rw [cpH]; unfold chB; rw [if_pos c]
theorem chB_n {hy : Nat → Int32} {al : Nat → Int32} {hn : Nat} (c : ¬ nI hn = 5) : hy = cpH (chB hy hn) al (chK hn) 0 := by rw [cpH]; unfold chB; rw [if_neg c]
def chH (hy al : Nat → Int32) (hn : Nat) : Nat → Int32 := cpH (chB hy hn) al (chK hn) 266
def clN (al : Nat → Int32) (fr : Nat) : Nat → (Nat → Int32)
  | 0 => al
  | i + 1 => upd (clN al fr i) (fr + i) 0
def mFull (al : Nat → Int32) (fr : Nat) : Bool := if nI (cntN (rwF al (fr + 26)) 26) ≤ al 264 then false else true
abbrev mWeak (al : Nat → Int32) (fr i : Nat) : Int32 := flWeak (rwF al (fr + 26)) (rwF al (fr + 78)) i
theorem flWeak_cl {fc fg : Nat → Int32} {i : Nat} (hi : i ≤ 26) (h : ¬ flWeak fc fg i = -1) : flWeak fc fg i = nI (flWeak fc fg i).toNatClampNeg ∧ (flWeak fc fg i).toNatClampNeg < 26 := by
  rcases flWeak_in fc fg i hi with e | ⟨j, h1, h2, -⟩
  · exact absurd e h
  · rw [h2, nI_clamp (by omega)]; exact ⟨rfl, by omega⟩
theorem mWeak_cl {al : Nat → Int32} {fr i : Nat} (hi : i ≤ 26) (h : ¬ mWeak al fr i = -1) : (mWeak al fr i).toNatClampNeg < 26 := (flWeak_cl hi h).2
theorem mWeak_add {al : Nat → Int32} {fr i a : Nat} (hi : i ≤ 26) (h : ¬ mWeak al fr i = -1) : nI a + mWeak al fr i = nI (a + (mWeak al fr i).toNatClampNeg) := by
  rw [← nI_add, ← (flWeak_cl hi h).1]
theorem mWeak_new {al : Nat → Int32} {fr i : Nat} (c1 : ¬ al (fr + 26 + i) ≤ 0) (c2 : ¬ mWeak al fr i = -1) (c3 : ¬ al (fr + 26 + (mWeak al fr i).toNatClampNeg) ≤ al (fr + 26 + i)) : nI i = mWeak al fr (i + 1) := by
  have h : flWeaker (rwF al (fr + 26)) (rwF al (fr + 78)) i (mWeak al fr i).toNatClampNeg = true := by
    unfold flWeaker
    rw [if_neg (fun e => c3 (by
      have e : al (fr + 26 + i) = al (fr + 26 + (mWeak al fr i).toNatClampNeg) := e
      rw [← e]; exact Int32.le_refl _))]
    exact decide_eq_true c3
  show _ = flWeak _ _ (i + 1)
  rw [flWeak]; unfold flWeakS
  rw [if_neg (show ¬ rwF al (fr + 26) i ≤ 0 from c1), if_neg c2, if_pos h]
def mFloor (al : Nat → Int32) (fr : Nat) : Int32 := if mFull al fr then al (fr + 26 + (mWeak al fr 26).toNatClampNeg) else 0
def mEst (al : Nat → Int32) (fr pa : Nat) : Int32 := if al (fr + 26 + pa) ≤ 0 then mFloor al fr else al (fr + 26 + pa)
def mSure (al : Nat → Int32) (fr pa : Nat) : Int32 := al (fr + 26 + pa) - al (fr + 52 + pa)
/-- the parrots' counters are worn down -/
def wrN (al : Nat → Int32) (by' : Int32) : Nat → (Nat → Int32)
  | 0 => al
  | i + 1 => upd (wrN al by' i) (104 + i) (if wrN al by' i (104 + i) ≤ by' then 0 else wrN al by' i (104 + i) - by')
/-- when a counter is taken over -/
def heT (al : Nat → Int32) (pa w : Nat) : Nat → Int32 := upd (upd (upd (upd (upd al (52 + pa) (al (26 + w))) (26 + pa) (upd al (52 + pa) (al (26 + w)) (26 + w))) (26 + w) 0) (52 + w) 0) (78 + w) 0
def heB (al : Nat → Int32) (pa : Nat) : Nat → Int32 := if upd al pa (al pa + 1) (26 + pa) = 0 then (if mFull (upd al pa (al pa + 1)) 0 then heT (upd al pa (al pa + 1)) pa (mWeak (upd al pa (al pa + 1)) 0 26).toNatClampNeg else upd al pa (al pa + 1)) else upd al pa (al pa + 1)
def heC (al : Nat → Int32) (pa : Nat) : Nat → Int32 := upd (upd (upd al (26 + pa) (al (26 + pa) + 1)) 131 (upd al (26 + pa) (al (26 + pa) + 1) 131 + 1)) (78 + pa) (upd (upd al (26 + pa) (al (26 + pa) + 1)) 131 (upd al (26 + pa) (al (26 + pa) + 1) 131 + 1) 131)
def heW (al : Nat → Int32) (pa : Nat) : Nat → Int32 := if al (104 + pa) ≤ 0 then (if al 264 ≤ nI (cntN (rwF al 104) 26) then upd (wrN al 1 26) 130 (wrN al 1 26 130 + 1) else upd al (104 + pa) (al (104 + pa) + 1)) else upd al (104 + pa) (al (104 + pa) + 1)
def heM (al : Nat → Int32) (pa : Nat) : Nat → Int32 := heW (heC (heB al pa) pa) pa
theorem cntN_pos {f : Nat → Int32} : ∀ {i : Nat}, (∀ j, j < i → f j ≤ 0) → cntN f i = 0
  | 0, _ => rfl
  | i + 1, h => by rw [cntN, if_pos (h i (by omega))]; exact cntN_pos (fun j hj => h j (by omega))
theorem flWeak_none {fc fg : Nat → Int32} : ∀ {i : Nat}, flWeak fc fg i = -1 → i ≤ 26 → ∀ j, j < i → fc j ≤ 0
  | i + 1, h, hi, j, hj => by
    rw [flWeak] at h
    unfold flWeakS at h
    by_cases h1 : fc i ≤ 0
    · rw [if_pos h1] at h
      rcases Nat.lt_or_ge j i with q | q
      · exact flWeak_none h (by omega) j q
      · have : j = i := by omega
        subst this; exact h1
    · rw [if_neg h1] at h
      by_cases h2 : flWeak fc fg i = -1
      · rw [if_pos h2] at h; exact absurd h (nI_ne1 (by omega))
      · rw [if_neg h2] at h
        by_cases h3 : flWeaker fc fg i (flWeak fc fg i).toNatClampNeg = true
        · rw [if_pos h3] at h; exact absurd h (nI_ne1 (by omega))
        · rw [if_neg h3] at h; exact absurd h h2
theorem mFull_weak {al : Nat → Int32} {fr cp : Nat} (hcp : al 264 = nI cp) (h9 : cp < 1000) (h : mFull al fr = true) : ¬ mWeak al fr 26 = -1 := by
  intro e
  have h0 := cntN_pos (flWeak_none e (by omega))
  unfold mFull at h
  rw [h0, hcp, if_pos (nI_le (Nat.zero_le _) (by omega))] at h
  cases h
abbrev rX9_thrown : Room := { frames := 0, cells := 0, slots := 0, locals := 0 }
set_option maxHeartbeats 4000000 in
set_option maxRecDepth 100000 in
theorem c_X9_thrown (l : Launch) (D : va_G) (T : Nat → ClassId) (mo ma mh mk mz mt : Nat) (hn : Nat) (th : Int32) (tn ax : Nat) (sc ti pp : Int32) : kM l D T yX9_thrown wsX9_thrown rX9_thrown [.ref mo] [oMo mo ma mh (nI hn) th mk mz mt (nI tn) (nI ax) sc ti pp] (some (.int th)) [oMo mo ma mh (nI hn) th mk mz mt (nI tn) (nI ax) sc ti pp] := by
  refine kM.of (cc := cX9_thrown) (maxL := 1) (ret := some .int) (by decide) rfl (Nat.le_of_ble_eq_true rfl) ?_
  intro p e s m below meth c A Q ls hx hb hml hown hr hlk hts hC hP hD hS hA hl hret
  have iX9 : ∀ w ∈ wsX90, w ∈ wsX9_thrown := (fun _ h => List.mem_cons_of_mem _ (List.mem_append_right _ h))
  have hl : lv_has ls 1 [(0, .ref mo)] := hl
  have hP : va_P D vwCl [oMo mo ma mh (nI hn) th mk mz mt (nI tn) (nI ax) sc ti pp] s.heap := hP
  have hD : va_D A [oMo mo ma mh (nI hn) th mk mz mt (nI tn) (nI ax) sc ti pp] := hD
  refine lv_aload_n hx hb dX9_thrown_0 rfl (lv_at hl 0 rfl) ?_
  refine va_get (D := D) (ci := 8) (v := .int th) (C := RX9) (T := TX9) (N := 12) hx hb hts iX9 hown hC.1 hP 0 rfl rfl 3 (by decide) (hts (.fieldLink RX9 25 "ParrotCountsModel" "thrown" "I") (List.mem_of_getElem? (i := 1) rfl)) (fun _ h => h) rfl dX9_thrown_1 ?_
  exact hret _ _ _ _ _ (fun Qc free hq hf => W.iret hx hb hr hq hf dX9_thrown_4 hlk) hP hD hS
abbrev rX9_fails : Room := { frames := 0, cells := 0, slots := 0, locals := 0 }
set_option maxHeartbeats 4000000 in
set_option maxRecDepth 100000 in
theorem c_X9_fails (l : Launch) (D : va_G) (T : Nat → ClassId) (mo ma mh mk mz mt : Nat) (hn : Nat) (th : Int32) (tn ax : Nat) (sc ti pp : Int32) (v : Int32) : kM l D T yX9_fails wsX9_fails rX9_fails [.ref mo, .int v] [oMo mo ma mh (nI hn) th mk mz mt (nI tn) (nI ax) sc ti pp] (some (.int 0)) [oMo mo ma mh (nI hn) v mk mz mt (nI tn) (nI ax) sc ti pp] := by
  refine kM.of (cc := cX9_fails) (maxL := 2) (ret := some .int) (by decide) rfl (Nat.le_of_ble_eq_true rfl) ?_
  intro p e s m below meth c A Q ls hx hb hml hown hr hlk hts hC hP hD hS hA hl hret
  have iX9 : ∀ w ∈ wsX90, w ∈ wsX9_fails := (fun _ h => List.mem_cons_of_mem _ (List.mem_append_right _ h))
  have hl : lv_has ls 2 [(0, .ref mo), (1, .int v)] := hl
  have hP : va_P D vwCl [oMo mo ma mh (nI hn) th mk mz mt (nI tn) (nI ax) sc ti pp] s.heap := hP
  have hD : va_D A [oMo mo ma mh (nI hn) th mk mz mt (nI tn) (nI ax) sc ti pp] := hD
  refine lv_aload_n hx hb dX9_fails_0 rfl (lv_at hl 0 rfl) ?_
  refine lv_iload_n hx hb dX9_fails_1 rfl (lv_at hl 1 rfl) ?_
  refine va_put (D := D) (ci := 8) (v := .int v) (ty := .int) (C := RX9) (T := TX9) (N := 12) hx hb hts iX9 tyX9 tyX9_ok nmX9 hown hC.1 hP hD hS 0 rfl rfl 3 (by decide) (hts (.fieldLink RX9 25 "ParrotCountsModel" "thrown" "I") (List.mem_of_getElem? (i := 1) rfl)) (fun _ h9 => h9) rfl (by decide +kernel) rfl rfl (Nat.le_of_ble_eq_true rfl) dX9_fails_2 (fun H locs hP hD hS => ?_)
  have hP : va_P D vwCl [oMo mo ma mh (nI hn) v mk mz mt (nI tn) (nI ax) sc ti pp] H := hP
  have hD : va_D A [oMo mo ma mh (nI hn) v mk mz mt (nI tn) (nI ax) sc ti pp] := hD
  refine lv_iconst (v := 0) hx hb dX9_fails_5 (by decide) ?_
  exact hret _ _ _ _ _ (fun Qc free hq hf => W.iret hx hb hr hq hf dX9_fails_6 hlk) hP hD hS
abbrev rX9_told : Room := { frames := 0, cells := 0, slots := 0, locals := 0 }
set_option maxHeartbeats 4000000 in
set_option maxRecDepth 100000 in
theorem c_X9_told (l : Launch) (D : va_G) (T : Nat → ClassId) (mo ma mh mk mz mt : Nat) (hn : Nat) (th : Int32) (tn ax : Nat) (sc ti pp : Int32) (v : Int32) : kM l D T yX9_told wsX9_told rX9_told [.ref mo, .int v] [oMo mo ma mh (nI hn) th mk mz mt (nI tn) (nI ax) sc ti pp] (some (.int v)) [oMo mo ma mh (nI hn) 0 mk mz mt (nI tn) (nI ax) sc ti pp] := by
  refine kM.of (cc := cX9_told) (maxL := 2) (ret := some .int) (by decide) rfl (Nat.le_of_ble_eq_true rfl) ?_
  intro p e s m below meth c A Q ls hx hb hml hown hr hlk hts hC hP hD hS hA hl hret
  have iX9 : ∀ w ∈ wsX90, w ∈ wsX9_told := (fun _ h => List.mem_cons_of_mem _ (List.mem_append_right _ h))
  have hl : lv_has ls 2 [(0, .ref mo), (1, .int v)] := hl
  have hP : va_P D vwCl [oMo mo ma mh (nI hn) th mk mz mt (nI tn) (nI ax) sc ti pp] s.heap := hP
  have hD : va_D A [oMo mo ma mh (nI hn) th mk mz mt (nI tn) (nI ax) sc ti pp] := hD
  refine lv_aload_n hx hb dX9_told_0 rfl (lv_at hl 0 rfl) ?_
  refine lv_iconst (v := 0) hx hb dX9_told_1 (by decide) ?_
  refine va_put (D := D) (ci := 8) (v := .int 0) (ty := .int) (C := RX9) (T := TX9) (N := 12) hx hb hts iX9 tyX9 tyX9_ok nmX9 hown hC.1 hP hD hS 0 rfl rfl 3 (by decide) (hts (.fieldLink RX9 25 "ParrotCountsModel" "thrown" "I") (List.mem_of_getElem? (i := 1) rfl)) (fun _ h9 => h9) rfl (by decide +kernel) rfl rfl (Nat.le_of_ble_eq_true rfl) dX9_told_2 (fun H locs hP hD hS => ?_)
  have hP : va_P D vwCl [oMo mo ma mh (nI hn) 0 mk mz mt (nI tn) (nI ax) sc ti pp] H := hP
  have hD : va_D A [oMo mo ma mh (nI hn) 0 mk mz mt (nI tn) (nI ax) sc ti pp] := hD
  refine lv_iload_n hx hb dX9_told_5 rfl (lv_at hl 1 rfl) ?_
  exact hret _ _ _ _ _ (fun Qc free hq hf => W.iret hx hb hr hq hf dX9_told_6 hlk) hP hD hS
abbrev rX9_in : Room := { frames := 0, cells := 0, slots := 0, locals := 0 }
set_option maxHeartbeats 4000000 in
set_option maxRecDepth 100000 in
theorem c_X9_in (l : Launch) (D : va_G) (T : Nat → ClassId) (v lo hi9 : Int64) : kM l D T yX9_in wsX9_in rX9_in [.long v, .long lo, .long hi9] [] (some (.int (bI (inL v lo hi9)))) [] := by
  refine kM.of (cc := cX9_in) (maxL := 6) (ret := some .boolean) (by decide) rfl (Nat.le_of_ble_eq_true rfl) ?_
  intro p e s m below meth c A Q ls hx hb hml hown hr hlk hts hC hP hD hS hA hl hret
  have hl : lv_has ls 6 [(0, .long v), (2, .long lo), (4, .long hi9)] := hl
  have hP : va_P D vwCl [] s.heap := hP
  have hD : va_D A [] := hD
  refine lv_lload_n hx hb dX9_in_0 rfl (lv_at hl 0 rfl) ?_
  refine lv_lload_n hx hb dX9_in_1 rfl (lv_at hl 1 rfl) ?_
  refine W.lcmp hx hb dX9_in_2 ?_
  refine lv_if_lt (tgt := 17) hx hb dX9_in_3 (by decide) (fun c3 => ?_) (fun c3 => ?_)
  · have c3 := Int32.not_le.mpr c3
    refine lv_iconst (v := 0) hx hb dX9_in_17 (by decide) ?_
    have e_1 : 0 = bI (inL v lo hi9) := by first | with_reducible rfl | (simp [inL, bI, c3]; done)
    refine W.eq (g2 := F0 m 18 ls [.int (bI (inL v lo hi9))]) (congrArg (fun z => F0 m 18 ls [.int z]) e_1) ?_
    exact hret _ _ _ _ _ (fun Qc free hq hf => W.zret hx hb hr (bI_nar _) hq hf dX9_in_18 hlk) hP hD hS
  · have c3 := Int32.not_lt.mp c3
    refine lv_lload_n hx hb dX9_in_6 rfl (lv_at hl 0 rfl) ?_
    refine lv_lload hx hb dX9_in_7 (lv_at hl 2 rfl) ?_
    refine W.lcmp hx hb dX9_in_9 ?_
    refine lv_if_gt (tgt := 17) hx hb dX9_in_10 (by decide) (fun c10 => ?_) (fun c10 => ?_)
    · have c10 := Int32.not_le.mpr c10
      refine lv_iconst (v := 0) hx hb dX9_in_17 (by decide) ?_
      have e_2 : 0 = bI (inL v lo hi9) := by first | with_reducible rfl | (simp [inL, bI, c3, c10]; done)
      refine W.eq (g2 := F0 m 18 ls [.int (bI (inL v lo hi9))]) (congrArg (fun z => F0 m 18 ls [.int z]) e_2) ?_
      exact hret _ _ _ _ _ (fun Qc free hq hf => W.zret hx hb hr (bI_nar _) hq hf dX9_in_18 hlk) hP hD hS
    · have c10 := Int32.not_lt.mp c10
      refine lv_iconst (v := 1) hx hb dX9_in_13 (by decide) ?_
      refine lv_goto (tgt := 18) hx hb dX9_in_14 (by decide) ?_
      have e_3 : 1 = bI (inL v lo hi9) := by first | with_reducible rfl | (simp [inL, bI, c3, c10]; done)
      refine W.eq (g2 := F0 m 18 ls [.int (bI (inL v lo hi9))]) (congrArg (fun z => F0 m 18 ls [.int z]) e_3) ?_
      exact hret _ _ _ _ _ (fun Qc free hq hf => W.zret hx hb hr (bI_nar _) hq hf dX9_in_18 hlk) hP hD hS
abbrev rX9_isParrot : Room := { frames := 1, cells := 0, slots := 0, locals := 25 }
set_option maxHeartbeats 4000000 in
set_option maxRecDepth 100000 in
theorem c_X9_isParrot (l : Launch) (D : va_G) (T : Nat → ClassId) (px : Int32) : kM l D T yX9_isParrot wsX9_isParrot rX9_isParrot [.int px] [] (some (.int (bI (inL px.toInt64 0 25)))) [] := by
  refine kM.of (cc := cX9_isParrot) (maxL := 1) (ret := some .boolean) (by decide) rfl (Nat.le_of_ble_eq_true rfl) ?_
  intro p e s m below meth c A Q ls hx hb hml hown hr hlk hts hC hP hD hS hA hl hret
  have hl : lv_has ls 1 [(0, .int px)] := hl
  have hP : va_P D vwCl [] s.heap := hP
  have hD : va_D A [] := hD
  refine lv_iload_n hx hb dX9_isParrot_0 rfl (lv_at hl 0 rfl) ?_
  refine lv_i2l (v := px.toInt64) hx hb dX9_isParrot_1 rfl ?_
  refine lv_lconst (v := 0) hx hb dX9_isParrot_2 (by decide) ?_
  refine lv_ldc2 (v := 25) hx hb hown (hts (.constantLong RX9 32 25) (List.mem_of_getElem? (i := 1) rfl)) dX9_isParrot_3 ?_
  have hP := hP.sub (ws' := [] ++ []) [] rfl
  have hD := hD.sub (ws' := [] ++ []) [] (by decide) rfl
  refine kS (As := [.long px.toInt64, .long 0, .long 25]) (rest := []) ⟨hx, hb, hml, hown, hts⟩ (c_X9_in l D T px.toInt64 0 25 ) (va_cwS 3 hts gX9_isParrot_X9_in rfl rfl rfl (by decide +kernel) ⟨Nat.le_of_ble_eq_true rfl, Nat.le_of_ble_eq_true rfl⟩) hC hP hD hS hA rfl hl.1 rfl (Nat.le_of_ble_eq_true rfl) dX9_isParrot_6 ⟨Nat.zero_le _, Nat.zero_le _⟩ (fun H locs hP hD hS => ?_)
  have hP : va_P D vwCl [] H := hP
  have hD : va_D A [] := hD
  refine W.eq (g2 := F0 m 9 ls [.int (bI (inL px.toInt64 0 25))]) rfl ?_
  exact hret _ _ _ _ _ (fun Qc free hq hf => W.zret hx hb hr (bI_nar _) hq hf dX9_isParrot_9 hlk) hP hD hS
abbrev rX9_changes : Room := { frames := 0, cells := 0, slots := 0, locals := 0 }
set_option maxHeartbeats 4000000 in
set_option maxRecDepth 100000 in
theorem c_X9_changes (l : Launch) (D : va_G) (T : Nat → ClassId) (mo ma mh mk mz mt : Nat) (al hy : Nat → Int32) (hn : Nat) (th : Int32) (tn ax : Nat) (sc ti pp : Int32) (hhn : hn ≤ 5) : kM l D T yX9_changes wsX9_changes rX9_changes [.ref mo] [oMo mo ma mh (nI hn) th mk mz mt (nI tn) (nI ax) sc ti pp, aI T ma 266 al, aI T mh 1330 hy] none [oMo mo ma mh (nI (chK hn + 1)) 0 mk mz mt (nI tn) (nI ax) sc ti pp, aI T ma 266 al, aI T mh 1330 (chH hy al hn)] := by
  refine kM.of (cc := cX9_changes) (maxL := 2) (ret := none) (by decide) rfl (Nat.le_of_ble_eq_true rfl) ?_
  intro p e s m below meth c A Q ls hx hb hml hown hr hlk hts hC hP hD hS hA hl hret
  have iX9 : ∀ w ∈ wsX90, w ∈ wsX9_changes := (fun _ h => List.mem_cons_of_mem _ (List.mem_append_right _ h))
  have hk4 := chK_le hhn
  have loop_56 : ∀ (n i : Nat), i + n = 266 → ∀ (H : Heap) (locs : List Loc) (ls : Array Slot), va_P D vwCl [oMo mo ma mh (nI (chK hn)) 0 mk mz mt (nI tn) (nI ax) sc ti pp, aI T ma 266 al, aI T mh 1330 (cpH (chB hy hn) al (chK hn) i)] H → va_D A [oMo mo ma mh (nI (chK hn)) 0 mk mz mt (nI tn) (nI ax) sc ti pp, aI T ma 266 al, aI T mh 1330 (cpH (chB hy hn) al (chK hn) i)] → va_S A s.heap H locs → lv_has ls 2 [(1, .int (nI i)), (0, .ref mo)] → W p l e rX9_changes s m [.ref mo].toArray below meth c H locs 0 0 Q (F0 m 56 ls []) := by
    intro n
    induction n with
    | zero =>
      intro i hi  H locs ls hP hD hS hl
      have hi9 : 266 = i := by omega
      subst hi9
      refine lv_iload_n hx hb dX9_changes_56 rfl (lv_at hl 0 rfl) ?_
      refine lv_sipush (v := 266) hx hb dX9_changes_57 (by decide) ?_
      refine lv_icmp_ge (tgt := 90) hx hb dX9_changes_60 (by decide) (fun _ => ?_) (fun c_x => absurd (by decide : (266 : Int32) ≤ nI 266) c_x)
      refine lv_aload_n hx hb dX9_changes_90 rfl (lv_at hl 1 rfl) ?_
      refine lv_dup hx hb dX9_changes_91 rfl ?_
      refine va_get (D := D) (ci := 8) (v := .int (nI (chK hn))) (C := RX9) (T := TX9) (N := 12) hx hb hts iX9 hown hC.1 hP 0 rfl rfl 2 (by decide) (hts (.fieldLink RX9 29 "ParrotCountsModel" "historyLong" "I") (List.mem_of_getElem? (i := 2) rfl)) (fun _ h => h) rfl dX9_changes_92 ?_
      refine lv_iconst (v := 1) hx hb dX9_changes_95 (by decide) ?_
      refine lv_iadd hx hb dX9_changes_96 ?_
      refine W.eq (g2 := F0 m 97 ls (.int (nI ((chK hn) + 1)) :: [.ref mo])) (congrArg (fun z => F0 m 97 ls (.int z :: [.ref mo])) (nI_1 (chK hn))) ?_
      refine va_put (D := D) (ci := 8) (v := .int (nI ((chK hn) + 1))) (ty := .int) (C := RX9) (T := TX9) (N := 12) hx hb hts iX9 tyX9 tyX9_ok nmX9 hown hC.1 hP hD hS 0 rfl rfl 2 (by decide) (hts (.fieldLink RX9 29 "ParrotCountsModel" "historyLong" "I") (List.mem_of_getElem? (i := 2) rfl)) (fun _ h9 => h9) rfl (by decide +kernel) rfl rfl (Nat.le_of_ble_eq_true rfl) dX9_changes_97 (fun H locs hP hD hS => ?_)
      have hP : va_P D vwCl [oMo mo ma mh (nI ((chK hn) + 1)) 0 mk mz mt (nI tn) (nI ax) sc ti pp, aI T ma 266 al, aI T mh 1330 (cpH (chB hy hn) al (chK hn) 266)] H := hP
      have hD : va_D A [oMo mo ma mh (nI ((chK hn) + 1)) 0 mk mz mt (nI tn) (nI ax) sc ti pp, aI T ma 266 al, aI T mh 1330 (cpH (chB hy hn) al (chK hn) 266)] := hD
      have e_1 : nI ((chK hn) + 1) = nI (chK hn + 1) := rfl
      have e_2 : cpH (chB hy hn) al (chK hn) 266 = chH hy al hn := rfl
      have eW := (congrArg (fun zZ => ([oMo mo ma mh zZ 0 mk mz mt (nI tn) (nI ax) sc ti pp, aI T ma 266 al, aI T mh 1330 (cpH (chB hy hn) al (chK hn) 266)] : va_W)) e_1).trans (congrArg (fun zZ => ([oMo mo ma mh (nI (chK hn + 1)) 0 mk mz mt (nI tn) (nI ax) sc ti pp, aI T ma 266 al, aI T mh 1330 zZ] : va_W)) e_2)
      have hP : va_P D vwCl [oMo mo ma mh (nI (chK hn + 1)) 0 mk mz mt (nI tn) (nI ax) sc ti pp, aI T ma 266 al, aI T mh 1330 (chH hy al hn)] _ := Eq.subst (motive := fun w => va_P D vwCl w _) eW hP
      have hD : va_D A [oMo mo ma mh (nI (chK hn + 1)) 0 mk mz mt (nI tn) (nI ax) sc ti pp, aI T ma 266 al, aI T mh 1330 (chH hy al hn)] := Eq.subst (motive := fun w => va_D A w) eW hD
      exact hret _ _ _ _ _ (fun Qc free hq hf => W.vret hx hb hr hq hf dX9_changes_100 hlk) hP hD hS
    | succ n ih =>
      intro i hi  H locs ls hP hD hS hl
      have hlt : i < 266 := by omega
      refine lv_iload_n hx hb dX9_changes_56 rfl (lv_at hl 0 rfl) ?_
      refine lv_sipush (v := 266) hx hb dX9_changes_57 (by decide) ?_
      refine lv_icmp_ge (tgt := 90) hx hb dX9_changes_60 (by decide) (fun c_x => absurd c_x (nI_ge (b := 266) hlt (by decide))) (fun _ => ?_)
      refine lv_aload_n hx hb dX9_changes_63 rfl (lv_at hl 1 rfl) ?_
      refine va_get (D := D) (ci := 8) (v := .ref mh) (C := RX9) (T := TX9) (N := 12) hx hb hts iX9 hown hC.1 hP 0 rfl rfl 1 (by decide) (hts (.fieldLink RX9 13 "ParrotCountsModel" "history" "[I") (List.mem_of_getElem? (i := 3) rfl)) (fun _ h => h) rfl dX9_changes_64 ?_
      refine lv_sipush (v := 266) hx hb dX9_changes_67 (by decide) ?_
      refine lv_aload_n hx hb dX9_changes_70 rfl (lv_at hl 1 rfl) ?_
      refine va_get (D := D) (ci := 8) (v := .int (nI (chK hn))) (C := RX9) (T := TX9) (N := 12) hx hb hts iX9 hown hC.1 hP 0 rfl rfl 2 (by decide) (hts (.fieldLink RX9 29 "ParrotCountsModel" "historyLong" "I") (List.mem_of_getElem? (i := 2) rfl)) (fun _ h => h) rfl dX9_changes_71 ?_
      refine lv_imul hx hb dX9_changes_74 ?_
      refine W.eq (g2 := F0 m 75 ls (.int (nI (266 * (chK hn))) :: [.ref mh])) (congrArg (fun z => F0 m 75 ls (.int z :: [.ref mh])) (pk_mul 266 (chK hn))) ?_
      refine lv_iload_n hx hb dX9_changes_75 rfl (lv_at hl 0 rfl) ?_
      refine lv_iadd hx hb dX9_changes_76 ?_
      refine W.eq (g2 := F0 m 77 ls (.int (nI ((266 * (chK hn)) + i)) :: [.ref mh])) (congrArg (fun z => F0 m 77 ls (.int z :: [.ref mh])) (nI_add (266 * (chK hn)) i)) ?_
      refine lv_aload_n hx hb dX9_changes_77 rfl (lv_at hl 1 rfl) ?_
      refine va_get (D := D) (ci := 8) (v := .ref ma) (C := RX9) (T := TX9) (N := 12) hx hb hts iX9 hown hC.1 hP 0 rfl rfl 0 (by decide) (hts (.fieldLink RX9 7 "ParrotCountsModel" "all" "[I") (List.mem_of_getElem? (i := 4) rfl)) (fun _ h => h) rfl dX9_changes_78 ?_
      refine lv_iload_n hx hb dX9_changes_81 rfl (lv_at hl 0 rfl) ?_
      refine k_iald hx hb hC.1 hP 1 0 rfl rfl (by omega) dX9_changes_82 ?_
      refine k_iast hx hb hC.1 hP hD hS 2 0 rfl rfl (by omega) dX9_changes_83 (fun H locs hP hD hS => ?_)
      have hP : va_P D vwCl [oMo mo ma mh (nI (chK hn)) 0 mk mz mt (nI tn) (nI ax) sc ti pp, aI T ma 266 al, aI T mh 1330 (upd (cpH (chB hy hn) al (chK hn) i) ((266 * (chK hn)) + i) (al i))] H := hP
      have hD : va_D A [oMo mo ma mh (nI (chK hn)) 0 mk mz mt (nI tn) (nI ax) sc ti pp, aI T ma 266 al, aI T mh 1330 (upd (cpH (chB hy hn) al (chK hn) i) ((266 * (chK hn)) + i) (al i))] := hD
      refine lv_iinc (v := nI (i + 1)) (lv' := [(1, .int (nI (i + 1))), (0, .ref mo)]) hx hb dX9_changes_84 hl (k := 0) rfl (nI_1 i) (by decide) rfl (fun ls hl => ?_)
      refine lv_goto (tgt := 56) hx hb dX9_changes_87 (by decide) ?_
      have e_3 : upd (cpH (chB hy hn) al (chK hn) i) ((266 * (chK hn)) + i) (al i) = cpH (chB hy hn) al (chK hn) (i + 1) := by first | (rw [cpH]; done)
      have eW := congrArg (fun zZ => ([oMo mo ma mh (nI (chK hn)) 0 mk mz mt (nI tn) (nI ax) sc ti pp, aI T ma 266 al, aI T mh 1330 zZ] : va_W)) e_3
      have hP : va_P D vwCl [oMo mo ma mh (nI (chK hn)) 0 mk mz mt (nI tn) (nI ax) sc ti pp, aI T ma 266 al, aI T mh 1330 (cpH (chB hy hn) al (chK hn) (i + 1))] _ := Eq.subst (motive := fun w => va_P D vwCl w _) eW hP
      have hD : va_D A [oMo mo ma mh (nI (chK hn)) 0 mk mz mt (nI tn) (nI ax) sc ti pp, aI T ma 266 al, aI T mh 1330 (cpH (chB hy hn) al (chK hn) (i + 1))] := Eq.subst (motive := fun w => va_D A w) eW hD
      have hl : lv_has ls 2 [(1, .int (nI (i + 1))), (0, .ref mo)] := lv_sub hl [0, 1] (by rfl)
      exact ih (i + 1) (by omega)  _ _ _ hP hD hS hl
  have loop_15 : ∀ (n i : Nat), i + n = 1064 → nI hn = 5 → ∀ (H : Heap) (locs : List Loc) (ls : Array Slot), va_P D vwCl [oMo mo ma mh (nI hn) 0 mk mz mt (nI tn) (nI ax) sc ti pp, aI T ma 266 al, aI T mh 1330 (shN hy i)] H → va_D A [oMo mo ma mh (nI hn) 0 mk mz mt (nI tn) (nI ax) sc ti pp, aI T ma 266 al, aI T mh 1330 (shN hy i)] → va_S A s.heap H locs → lv_has ls 2 [(1, .int (nI i)), (0, .ref mo)] → W p l e rX9_changes s m [.ref mo].toArray below meth c H locs 0 0 Q (F0 m 15 ls []) := by
    intro n
    induction n with
    | zero =>
      intro i hi c10 H locs ls hP hD hS hl
      have hi9 : 1064 = i := by omega
      subst hi9
      refine lv_iload_n hx hb dX9_changes_15 rfl (lv_at hl 0 rfl) ?_
      refine lv_sipush (v := 1064) hx hb dX9_changes_16 (by decide) ?_
      refine lv_icmp_ge (tgt := 44) hx hb dX9_changes_19 (by decide) (fun _ => ?_) (fun c_x => absurd (by decide : (1064 : Int32) ≤ nI 1064) c_x)
      refine lv_aload_n hx hb dX9_changes_44 rfl (lv_at hl 1 rfl) ?_
      refine lv_dup hx hb dX9_changes_45 rfl ?_
      refine va_get (D := D) (ci := 8) (v := .int (nI hn)) (C := RX9) (T := TX9) (N := 12) hx hb hts iX9 hown hC.1 hP 0 rfl rfl 2 (by decide) (hts (.fieldLink RX9 29 "ParrotCountsModel" "historyLong" "I") (List.mem_of_getElem? (i := 2) rfl)) (fun _ h => h) rfl dX9_changes_46 ?_
      refine lv_iconst (v := 1) hx hb dX9_changes_49 (by decide) ?_
      refine lv_isub hx hb dX9_changes_50 ?_
      refine va_put (D := D) (ci := 8) (v := .int ((nI hn) - 1)) (ty := .int) (C := RX9) (T := TX9) (N := 12) hx hb hts iX9 tyX9 tyX9_ok nmX9 hown hC.1 hP hD hS 0 rfl rfl 2 (by decide) (hts (.fieldLink RX9 29 "ParrotCountsModel" "historyLong" "I") (List.mem_of_getElem? (i := 2) rfl)) (fun _ h9 => h9) rfl (by decide +kernel) rfl rfl (Nat.le_of_ble_eq_true rfl) dX9_changes_51 (fun H locs hP hD hS => ?_)
      have hP : va_P D vwCl [oMo mo ma mh ((nI hn) - 1) 0 mk mz mt (nI tn) (nI ax) sc ti pp, aI T ma 266 al, aI T mh 1330 (shN hy 1064)] H := hP
      have hD : va_D A [oMo mo ma mh ((nI hn) - 1) 0 mk mz mt (nI tn) (nI ax) sc ti pp, aI T ma 266 al, aI T mh 1330 (shN hy 1064)] := hD
      refine lv_iconst (v := 0) hx hb dX9_changes_54 (by decide) ?_
      refine lv_istore_n (lv' := [(1, .int 0), (0, .ref mo)]) hx hb dX9_changes_55 rfl hl (by decide) rfl (fun ls hl => ?_)
      have e_4 : (nI hn) - 1 = nI (chK hn) := by first | rfl | exact chK_y c10 | exact chK_n c10 | exact chB_y c10 | exact chB_n c10
      have e_5 : shN hy 1064 = cpH (chB hy hn) al (chK hn) 0 := by first | rfl | exact chK_y c10 | exact chK_n c10 | exact chB_y c10 | exact chB_n c10
      have eW := (congrArg (fun zZ => ([oMo mo ma mh zZ 0 mk mz mt (nI tn) (nI ax) sc ti pp, aI T ma 266 al, aI T mh 1330 (shN hy 1064)] : va_W)) e_4).trans (congrArg (fun zZ => ([oMo mo ma mh (nI (chK hn)) 0 mk mz mt (nI tn) (nI ax) sc ti pp, aI T ma 266 al, aI T mh 1330 zZ] : va_W)) e_5)
      have hP : va_P D vwCl [oMo mo ma mh (nI (chK hn)) 0 mk mz mt (nI tn) (nI ax) sc ti pp, aI T ma 266 al, aI T mh 1330 (cpH (chB hy hn) al (chK hn) 0)] _ := Eq.subst (motive := fun w => va_P D vwCl w _) eW hP
      have hD : va_D A [oMo mo ma mh (nI (chK hn)) 0 mk mz mt (nI tn) (nI ax) sc ti pp, aI T ma 266 al, aI T mh 1330 (cpH (chB hy hn) al (chK hn) 0)] := Eq.subst (motive := fun w => va_D A w) eW hD
      have e_6 : (0 : Int32) = nI 0 := by first | rfl | exact chK_y c10 | exact chK_n c10 | exact chB_y c10 | exact chB_n c10
      have hl : lv_has ls 2 [(1, .int (nI 0)), (0, .ref mo)] := lv_sub hl [0, 1] (by show (_ : List (Nat × Value)) = [(1, .int (nI 0)), (0, .ref mo)]; rw [← e_6]; rfl)
      exact loop_56 266 0 (by omega)  _ _ _ hP hD hS hl
    | succ n ih =>
      intro i hi c10 H locs ls hP hD hS hl
      have hlt : i < 1064 := by omega
      refine lv_iload_n hx hb dX9_changes_15 rfl (lv_at hl 0 rfl) ?_
      refine lv_sipush (v := 1064) hx hb dX9_changes_16 (by decide) ?_
      refine lv_icmp_ge (tgt := 44) hx hb dX9_changes_19 (by decide) (fun c_x => absurd c_x (nI_ge (b := 1064) hlt (by decide))) (fun _ => ?_)
      refine lv_aload_n hx hb dX9_changes_22 rfl (lv_at hl 1 rfl) ?_
      refine va_get (D := D) (ci := 8) (v := .ref mh) (C := RX9) (T := TX9) (N := 12) hx hb hts iX9 hown hC.1 hP 0 rfl rfl 1 (by decide) (hts (.fieldLink RX9 13 "ParrotCountsModel" "history" "[I") (List.mem_of_getElem? (i := 3) rfl)) (fun _ h => h) rfl dX9_changes_23 ?_
      refine lv_iload_n hx hb dX9_changes_26 rfl (lv_at hl 0 rfl) ?_
      refine lv_aload_n hx hb dX9_changes_27 rfl (lv_at hl 1 rfl) ?_
      refine va_get (D := D) (ci := 8) (v := .ref mh) (C := RX9) (T := TX9) (N := 12) hx hb hts iX9 hown hC.1 hP 0 rfl rfl 1 (by decide) (hts (.fieldLink RX9 13 "ParrotCountsModel" "history" "[I") (List.mem_of_getElem? (i := 3) rfl)) (fun _ h => h) rfl dX9_changes_28 ?_
      refine lv_iload_n hx hb dX9_changes_31 rfl (lv_at hl 0 rfl) ?_
      refine lv_sipush (v := 266) hx hb dX9_changes_32 (by decide) ?_
      refine lv_iadd hx hb dX9_changes_35 ?_
      refine W.eq (g2 := F0 m 36 ls (.int (nI (i + 266)) :: [.ref mh, .int (nI i), .ref mh])) (congrArg (fun z => F0 m 36 ls (.int z :: [.ref mh, .int (nI i), .ref mh])) (nI_add i 266)) ?_
      refine k_iald hx hb hC.1 hP 2 0 rfl rfl (by omega) dX9_changes_36 ?_
      refine k_iast hx hb hC.1 hP hD hS 2 0 rfl rfl (by omega) dX9_changes_37 (fun H locs hP hD hS => ?_)
      have hP : va_P D vwCl [oMo mo ma mh (nI hn) 0 mk mz mt (nI tn) (nI ax) sc ti pp, aI T ma 266 al, aI T mh 1330 (upd (shN hy i) i ((shN hy i) (i + 266)))] H := hP
      have hD : va_D A [oMo mo ma mh (nI hn) 0 mk mz mt (nI tn) (nI ax) sc ti pp, aI T ma 266 al, aI T mh 1330 (upd (shN hy i) i ((shN hy i) (i + 266)))] := hD
      refine lv_iinc (v := nI (i + 1)) (lv' := [(1, .int (nI (i + 1))), (0, .ref mo)]) hx hb dX9_changes_38 hl (k := 0) rfl (nI_1 i) (by decide) rfl (fun ls hl => ?_)
      refine lv_goto (tgt := 15) hx hb dX9_changes_41 (by decide) ?_
      have e_7 : upd (shN hy i) i ((shN hy i) (i + 266)) = shN hy (i + 1) := by first | (rw [shN]; done)
      have eW := congrArg (fun zZ => ([oMo mo ma mh (nI hn) 0 mk mz mt (nI tn) (nI ax) sc ti pp, aI T ma 266 al, aI T mh 1330 zZ] : va_W)) e_7
      have hP : va_P D vwCl [oMo mo ma mh (nI hn) 0 mk mz mt (nI tn) (nI ax) sc ti pp, aI T ma 266 al, aI T mh 1330 (shN hy (i + 1))] _ := Eq.subst (motive := fun w => va_P D vwCl w _) eW hP
      have hD : va_D A [oMo mo ma mh (nI hn) 0 mk mz mt (nI tn) (nI ax) sc ti pp, aI T ma 266 al, aI T mh 1330 (shN hy (i + 1))] := Eq.subst (motive := fun w => va_D A w) eW hD
      have hl : lv_has ls 2 [(1, .int (nI (i + 1))), (0, .ref mo)] := lv_sub hl [0, 1] (by rfl)
      exact ih (i + 1) (by omega) c10 _ _ _ hP hD hS hl
  have hl : lv_has ls 2 [(0, .ref mo)] := hl
  have hP : va_P D vwCl [oMo mo ma mh (nI hn) th mk mz mt (nI tn) (nI ax) sc ti pp, aI T ma 266 al, aI T mh 1330 hy] s.heap := hP
  have hD : va_D A [oMo mo ma mh (nI hn) th mk mz mt (nI tn) (nI ax) sc ti pp, aI T ma 266 al, aI T mh 1330 hy] := hD
  refine lv_aload_n hx hb dX9_changes_0 rfl (lv_at hl 0 rfl) ?_
  refine lv_iconst (v := 0) hx hb dX9_changes_1 (by decide) ?_
  refine va_put (D := D) (ci := 8) (v := .int 0) (ty := .int) (C := RX9) (T := TX9) (N := 12) hx hb hts iX9 tyX9 tyX9_ok nmX9 hown hC.1 hP hD hS 0 rfl rfl 3 (by decide) (hts (.fieldLink RX9 25 "ParrotCountsModel" "thrown" "I") (List.mem_of_getElem? (i := 1) rfl)) (fun _ h9 => h9) rfl (by decide +kernel) rfl rfl (Nat.le_of_ble_eq_true rfl) dX9_changes_2 (fun H locs hP hD hS => ?_)
  have hP : va_P D vwCl [oMo mo ma mh (nI hn) 0 mk mz mt (nI tn) (nI ax) sc ti pp, aI T ma 266 al, aI T mh 1330 hy] H := hP
  have hD : va_D A [oMo mo ma mh (nI hn) 0 mk mz mt (nI tn) (nI ax) sc ti pp, aI T ma 266 al, aI T mh 1330 hy] := hD
  refine lv_aload_n hx hb dX9_changes_5 rfl (lv_at hl 0 rfl) ?_
  refine va_get (D := D) (ci := 8) (v := .int (nI hn)) (C := RX9) (T := TX9) (N := 12) hx hb hts iX9 hown hC.1 hP 0 rfl rfl 2 (by decide) (hts (.fieldLink RX9 29 "ParrotCountsModel" "historyLong" "I") (List.mem_of_getElem? (i := 2) rfl)) (fun _ h => h) rfl dX9_changes_6 ?_
  refine lv_iconst (v := 5) hx hb dX9_changes_9 (by decide) ?_
  refine lv_icmp_ne (tgt := 54) hx hb dX9_changes_10 (by decide) (fun c10 => ?_) (fun c10 => ?_)
  · refine lv_iconst (v := 0) hx hb dX9_changes_54 (by decide) ?_
    refine lv_istore_n (lv' := [(1, .int 0), (0, .ref mo)]) hx hb dX9_changes_55 rfl hl (by decide) rfl (fun ls hl => ?_)
    have e_8 : nI hn = nI (chK hn) := by first | rfl | exact chK_y c10 | exact chK_n c10 | exact chB_y c10 | exact chB_n c10
    have e_9 : hy = cpH (chB hy hn) al (chK hn) 0 := by first | rfl | exact chK_y c10 | exact chK_n c10 | exact chB_y c10 | exact chB_n c10
    have eW := (congrArg (fun zZ => ([oMo mo ma mh zZ 0 mk mz mt (nI tn) (nI ax) sc ti pp, aI T ma 266 al, aI T mh 1330 hy] : va_W)) e_8).trans (congrArg (fun zZ => ([oMo mo ma mh (nI (chK hn)) 0 mk mz mt (nI tn) (nI ax) sc ti pp, aI T ma 266 al, aI T mh 1330 zZ] : va_W)) e_9)
    have hP : va_P D vwCl [oMo mo ma mh (nI (chK hn)) 0 mk mz mt (nI tn) (nI ax) sc ti pp, aI T ma 266 al, aI T mh 1330 (cpH (chB hy hn) al (chK hn) 0)] _ := Eq.subst (motive := fun w => va_P D vwCl w _) eW hP
    have hD : va_D A [oMo mo ma mh (nI (chK hn)) 0 mk mz mt (nI tn) (nI ax) sc ti pp, aI T ma 266 al, aI T mh 1330 (cpH (chB hy hn) al (chK hn) 0)] := Eq.subst (motive := fun w => va_D A w) eW hD
    have e_10 : (0 : Int32) = nI 0 := by first | rfl | exact chK_y c10 | exact chK_n c10 | exact chB_y c10 | exact chB_n c10
    have hl : lv_has ls 2 [(1, .int (nI 0)), (0, .ref mo)] := lv_sub hl [0, 1] (by show (_ : List (Nat × Value)) = [(1, .int (nI 0)), (0, .ref mo)]; rw [← e_10]; rfl)
    exact loop_56 266 0 (by omega)  _ _ _ hP hD hS hl
  · refine lv_iconst (v := 0) hx hb dX9_changes_13 (by decide) ?_
    refine lv_istore_n (lv' := [(1, .int 0), (0, .ref mo)]) hx hb dX9_changes_14 rfl hl (by decide) rfl (fun ls hl => ?_)
    have e_11 : hy = shN hy 0 := by first | rfl
    have eW := congrArg (fun zZ => ([oMo mo ma mh (nI hn) 0 mk mz mt (nI tn) (nI ax) sc ti pp, aI T ma 266 al, aI T mh 1330 zZ] : va_W)) e_11
    have hP : va_P D vwCl [oMo mo ma mh (nI hn) 0 mk mz mt (nI tn) (nI ax) sc ti pp, aI T ma 266 al, aI T mh 1330 (shN hy 0)] _ := Eq.subst (motive := fun w => va_P D vwCl w _) eW hP
    have hD : va_D A [oMo mo ma mh (nI hn) 0 mk mz mt (nI tn) (nI ax) sc ti pp, aI T ma 266 al, aI T mh 1330 (shN hy 0)] := Eq.subst (motive := fun w => va_D A w) eW hD
    have e_12 : (0 : Int32) = nI 0 := by first | rfl
    have hl : lv_has ls 2 [(1, .int (nI 0)), (0, .ref mo)] := lv_sub hl [0, 1] (by show (_ : List (Nat × Value)) = [(1, .int (nI 0)), (0, .ref mo)]; rw [← e_12]; rfl)
    exact loop_15 1064 0 (by omega) c10 _ _ _ hP hD hS hl
abbrev rX9_many : Room := { frames := 0, cells := 0, slots := 0, locals := 0 }
set_option maxHeartbeats 4000000 in
set_option maxRecDepth 100000 in
theorem c_X9_many (l : Launch) (D : va_G) (T : Nat → ClassId) (mo ma mh mk mz mt : Nat) (al : Nat → Int32) (hn : Nat) (th : Int32) (tn ax : Nat) (sc ti pp : Int32) (ro : Nat) (hro : ro + 26 ≤ 266) : kM l D T yX9_many wsX9_many rX9_many [.ref mo, .int (nI ro)] [oMo mo ma mh (nI hn) th mk mz mt (nI tn) (nI ax) sc ti pp, aI T ma 266 al] (some (.int (nI (cntN (rwF al ro) 26)))) [oMo mo ma mh (nI hn) th mk mz mt (nI tn) (nI ax) sc ti pp, aI T ma 266 al] := by
  refine kM.of (cc := cX9_many) (maxL := 4) (ret := some .int) (by decide) rfl (Nat.le_of_ble_eq_true rfl) ?_
  intro p e s m below meth c A Q ls hx hb hml hown hr hlk hts hC hP hD hS hA hl hret
  have iX9 : ∀ w ∈ wsX90, w ∈ wsX9_many := (fun _ h => List.mem_cons_of_mem _ (List.mem_append_right _ h))
  have loop_4 : ∀ (n i : Nat), i + n = 26 → ∀ (H : Heap) (locs : List Loc) (ls : Array Slot), va_P D vwCl [oMo mo ma mh (nI hn) th mk mz mt (nI tn) (nI ax) sc ti pp, aI T ma 266 al] H → va_D A [oMo mo ma mh (nI hn) th mk mz mt (nI tn) (nI ax) sc ti pp, aI T ma 266 al] → va_S A s.heap H locs → lv_has ls 4 [(3, .int (nI i)), (2, .int (nI (cntN (rwF al ro) i))), (0, .ref mo), (1, .int (nI ro))] → W p l e rX9_many s m [.ref mo, .int (nI ro)].toArray below meth c H locs 0 0 Q (F0 m 4 ls []) := by
    intro n
    induction n with
    | zero =>
      intro i hi  H locs ls hP hD hS hl
      have hi9 : 26 = i := by omega
      subst hi9
      refine lv_iload_n hx hb dX9_many_4 rfl (lv_at hl 0 rfl) ?_
      refine lv_bipush (v := 26) hx hb dX9_many_5 (by decide) ?_
      refine lv_icmp_ge (tgt := 35) hx hb dX9_many_7 (by decide) (fun _ => ?_) (fun c_x => absurd (by decide : (26 : Int32) ≤ nI 26) c_x)
      refine lv_iload_n hx hb dX9_many_35 rfl (lv_at hl 1 rfl) ?_
      exact hret _ _ _ _ _ (fun Qc free hq hf => W.iret hx hb hr hq hf dX9_many_36 hlk) hP hD hS
    | succ n ih =>
      intro i hi  H locs ls hP hD hS hl
      have hlt : i < 26 := by omega
      refine lv_iload_n hx hb dX9_many_4 rfl (lv_at hl 0 rfl) ?_
      refine lv_bipush (v := 26) hx hb dX9_many_5 (by decide) ?_
      refine lv_icmp_ge (tgt := 35) hx hb dX9_many_7 (by decide) (fun c_x => absurd c_x (nI_ge (b := 26) hlt (by decide))) (fun _ => ?_)
      refine lv_iload_n hx hb dX9_many_10 rfl (lv_at hl 1 rfl) ?_
      refine lv_aload_n hx hb dX9_many_11 rfl (lv_at hl 2 rfl) ?_
      refine va_get (D := D) (ci := 8) (v := .ref ma) (C := RX9) (T := TX9) (N := 12) hx hb hts iX9 hown hC.1 hP 0 rfl rfl 0 (by decide) (hts (.fieldLink RX9 7 "ParrotCountsModel" "all" "[I") (List.mem_of_getElem? (i := 1) rfl)) (fun _ h => h) rfl dX9_many_12 ?_
      refine lv_iload_n hx hb dX9_many_15 rfl (lv_at hl 3 rfl) ?_
      refine lv_iload_n hx hb dX9_many_16 rfl (lv_at hl 0 rfl) ?_
      refine lv_iadd hx hb dX9_many_17 ?_
      refine W.eq (g2 := F0 m 18 ls (.int (nI (ro + i)) :: [.ref ma, .int (nI (cntN (rwF al ro) i))])) (congrArg (fun z => F0 m 18 ls (.int z :: [.ref ma, .int (nI (cntN (rwF al ro) i))])) (nI_add ro i)) ?_
      refine k_iald hx hb hC.1 hP 1 0 rfl rfl (by omega) dX9_many_18 ?_
      refine lv_if_le (tgt := 26) hx hb dX9_many_19 (by decide) (fun c19 => ?_) (fun c19 => ?_)
      · refine lv_iconst (v := 0) hx hb dX9_many_26 (by decide) ?_
        refine lv_iadd hx hb dX9_many_27 ?_
        refine W.eq (g2 := F0 m 28 ls (.int (nI (cntN (rwF al ro) i)) :: [])) (congrArg (fun z => F0 m 28 ls (.int z :: [])) (Int32.add_zero _)) ?_
        refine lv_istore_n (lv' := [(2, .int (nI (cntN (rwF al ro) i))), (3, .int (nI i)), (0, .ref mo), (1, .int (nI ro))]) hx hb dX9_many_28 rfl hl (by decide) rfl (fun ls hl => ?_)
        refine lv_iinc (v := nI (i + 1)) (lv' := [(3, .int (nI (i + 1))), (2, .int (nI (cntN (rwF al ro) i))), (0, .ref mo), (1, .int (nI ro))]) hx hb dX9_many_29 hl (k := 1) rfl (nI_1 i) (by decide) rfl (fun ls hl => ?_)
        refine lv_goto (tgt := 4) hx hb dX9_many_32 (by decide) ?_
        have e_1 : (nI (cntN (rwF al ro) i) : Int32) = nI (cntN (rwF al ro) (i + 1)) := by first | with_reducible rfl | (simp [cntN, rwF, c19]; done)
        have hl : lv_has ls 4 [(3, .int (nI (i + 1))), (2, .int (nI (cntN (rwF al ro) (i + 1)))), (0, .ref mo), (1, .int (nI ro))] := lv_sub hl [0, 1, 2, 3] (by show (_ : List (Nat × Value)) = [(3, .int (nI (i + 1))), (2, .int (nI (cntN (rwF al ro) (i + 1)))), (0, .ref mo), (1, .int (nI ro))]; rw [← e_1]; rfl)
        exact ih (i + 1) (by omega)  _ _ _ hP hD hS hl
      · refine lv_iconst (v := 1) hx hb dX9_many_22 (by decide) ?_
        refine lv_goto (tgt := 27) hx hb dX9_many_23 (by decide) ?_
        refine lv_iadd hx hb dX9_many_27 ?_
        refine W.eq (g2 := F0 m 28 ls (.int (nI ((cntN (rwF al ro) i) + 1)) :: [])) (congrArg (fun z => F0 m 28 ls (.int z :: [])) (nI_1 (cntN (rwF al ro) i))) ?_
        refine lv_istore_n (lv' := [(2, .int (nI ((cntN (rwF al ro) i) + 1))), (3, .int (nI i)), (0, .ref mo), (1, .int (nI ro))]) hx hb dX9_many_28 rfl hl (by decide) rfl (fun ls hl => ?_)
        refine lv_iinc (v := nI (i + 1)) (lv' := [(3, .int (nI (i + 1))), (2, .int (nI ((cntN (rwF al ro) i) + 1))), (0, .ref mo), (1, .int (nI ro))]) hx hb dX9_many_29 hl (k := 1) rfl (nI_1 i) (by decide) rfl (fun ls hl => ?_)
        refine lv_goto (tgt := 4) hx hb dX9_many_32 (by decide) ?_
        have e_2 : (nI ((cntN (rwF al ro) i) + 1) : Int32) = nI (cntN (rwF al ro) (i + 1)) := by first | with_reducible rfl | (simp [cntN, rwF, c19]; done)
        have hl : lv_has ls 4 [(3, .int (nI (i + 1))), (2, .int (nI (cntN (rwF al ro) (i + 1)))), (0, .ref mo), (1, .int (nI ro))] := lv_sub hl [0, 1, 2, 3] (by show (_ : List (Nat × Value)) = [(3, .int (nI (i + 1))), (2, .int (nI (cntN (rwF al ro) (i + 1)))), (0, .ref mo), (1, .int (nI ro))]; rw [← e_2]; rfl)
        exact ih (i + 1) (by omega)  _ _ _ hP hD hS hl
  have hl : lv_has ls 4 [(0, .ref mo), (1, .int (nI ro))] := hl
  have hP : va_P D vwCl [oMo mo ma mh (nI hn) th mk mz mt (nI tn) (nI ax) sc ti pp, aI T ma 266 al] s.heap := hP
  have hD : va_D A [oMo mo ma mh (nI hn) th mk mz mt (nI tn) (nI ax) sc ti pp, aI T ma 266 al] := hD
  refine lv_iconst (v := 0) hx hb dX9_many_0 (by decide) ?_
  refine lv_istore_n (lv' := [(2, .int 0), (0, .ref mo), (1, .int (nI ro))]) hx hb dX9_many_1 rfl hl (by decide) rfl (fun ls hl => ?_)
  refine lv_iconst (v := 0) hx hb dX9_many_2 (by decide) ?_
  refine lv_istore_n (lv' := [(3, .int 0), (2, .int 0), (0, .ref mo), (1, .int (nI ro))]) hx hb dX9_many_3 rfl hl (by decide) rfl (fun ls hl => ?_)
  have e_3 : (0 : Int32) = nI 0 := rfl
  have e_4 : (0 : Int32) = nI (cntN (rwF al ro) 0) := rfl
  have hl : lv_has ls 4 [(3, .int (nI 0)), (2, .int (nI (cntN (rwF al ro) 0))), (0, .ref mo), (1, .int (nI ro))] := lv_sub hl [0, 1, 2, 3] (by show (_ : List (Nat × Value)) = [(3, .int (nI 0)), (2, .int (nI (cntN (rwF al ro) 0))), (0, .ref mo), (1, .int (nI ro))]; rw [← e_3, ← e_4]; rfl)
  exact loop_4 26 0 (by omega)  _ _ _ hP hD hS hl
abbrev rX9_sum : Room := { frames := 0, cells := 0, slots := 0, locals := 0 }
set_option maxHeartbeats 4000000 in
set_option maxRecDepth 100000 in
theorem c_X9_sum (l : Launch) (D : va_G) (T : Nat → ClassId) (mo ma mh mk mz mt : Nat) (al : Nat → Int32) (hn : Nat) (th : Int32) (tn ax : Nat) (sc ti pp : Int32) (ro : Nat) (hro : ro + 26 ≤ 266) : kM l D T yX9_sum wsX9_sum rX9_sum [.ref mo, .int (nI ro)] [oMo mo ma mh (nI hn) th mk mz mt (nI tn) (nI ax) sc ti pp, aI T ma 266 al] (some (.int (smN (rwF al ro) 26))) [oMo mo ma mh (nI hn) th mk mz mt (nI tn) (nI ax) sc ti pp, aI T ma 266 al] := by
  refine kM.of (cc := cX9_sum) (maxL := 4) (ret := some .int) (by decide) rfl (Nat.le_of_ble_eq_true rfl) ?_
  intro p e s m below meth c A Q ls hx hb hml hown hr hlk hts hC hP hD hS hA hl hret
  have iX9 : ∀ w ∈ wsX90, w ∈ wsX9_sum := (fun _ h => List.mem_cons_of_mem _ (List.mem_append_right _ h))
  have loop_4 : ∀ (n i : Nat), i + n = 26 → ∀ (H : Heap) (locs : List Loc) (ls : Array Slot), va_P D vwCl [oMo mo ma mh (nI hn) th mk mz mt (nI tn) (nI ax) sc ti pp, aI T ma 266 al] H → va_D A [oMo mo ma mh (nI hn) th mk mz mt (nI tn) (nI ax) sc ti pp, aI T ma 266 al] → va_S A s.heap H locs → lv_has ls 4 [(3, .int (nI i)), (2, .int (smN (rwF al ro) i)), (0, .ref mo), (1, .int (nI ro))] → W p l e rX9_sum s m [.ref mo, .int (nI ro)].toArray below meth c H locs 0 0 Q (F0 m 4 ls []) := by
    intro n
    induction n with
    | zero =>
      intro i hi  H locs ls hP hD hS hl
      have hi9 : 26 = i := by omega
      subst hi9
      refine lv_iload_n hx hb dX9_sum_4 rfl (lv_at hl 0 rfl) ?_
      refine lv_bipush (v := 26) hx hb dX9_sum_5 (by decide) ?_
      refine lv_icmp_ge (tgt := 27) hx hb dX9_sum_7 (by decide) (fun _ => ?_) (fun c_x => absurd (by decide : (26 : Int32) ≤ nI 26) c_x)
      refine lv_iload_n hx hb dX9_sum_27 rfl (lv_at hl 1 rfl) ?_
      exact hret _ _ _ _ _ (fun Qc free hq hf => W.iret hx hb hr hq hf dX9_sum_28 hlk) hP hD hS
    | succ n ih =>
      intro i hi  H locs ls hP hD hS hl
      have hlt : i < 26 := by omega
      refine lv_iload_n hx hb dX9_sum_4 rfl (lv_at hl 0 rfl) ?_
      refine lv_bipush (v := 26) hx hb dX9_sum_5 (by decide) ?_
      refine lv_icmp_ge (tgt := 27) hx hb dX9_sum_7 (by decide) (fun c_x => absurd c_x (nI_ge (b := 26) hlt (by decide))) (fun _ => ?_)
      refine lv_iload_n hx hb dX9_sum_10 rfl (lv_at hl 1 rfl) ?_
      refine lv_aload_n hx hb dX9_sum_11 rfl (lv_at hl 2 rfl) ?_
      refine va_get (D := D) (ci := 8) (v := .ref ma) (C := RX9) (T := TX9) (N := 12) hx hb hts iX9 hown hC.1 hP 0 rfl rfl 0 (by decide) (hts (.fieldLink RX9 7 "ParrotCountsModel" "all" "[I") (List.mem_of_getElem? (i := 1) rfl)) (fun _ h => h) rfl dX9_sum_12 ?_
      refine lv_iload_n hx hb dX9_sum_15 rfl (lv_at hl 3 rfl) ?_
      refine lv_iload_n hx hb dX9_sum_16 rfl (lv_at hl 0 rfl) ?_
      refine lv_iadd hx hb dX9_sum_17 ?_
      refine W.eq (g2 := F0 m 18 ls (.int (nI (ro + i)) :: [.ref ma, .int (smN (rwF al ro) i)])) (congrArg (fun z => F0 m 18 ls (.int z :: [.ref ma, .int (smN (rwF al ro) i)])) (nI_add ro i)) ?_
      refine k_iald hx hb hC.1 hP 1 0 rfl rfl (by omega) dX9_sum_18 ?_
      refine lv_iadd hx hb dX9_sum_19 ?_
      refine lv_istore_n (lv' := [(2, .int ((smN (rwF al ro) i) + (al (ro + i)))), (3, .int (nI i)), (0, .ref mo), (1, .int (nI ro))]) hx hb dX9_sum_20 rfl hl (by decide) rfl (fun ls hl => ?_)
      refine lv_iinc (v := nI (i + 1)) (lv' := [(3, .int (nI (i + 1))), (2, .int ((smN (rwF al ro) i) + (al (ro + i)))), (0, .ref mo), (1, .int (nI ro))]) hx hb dX9_sum_21 hl (k := 1) rfl (nI_1 i) (by decide) rfl (fun ls hl => ?_)
      refine lv_goto (tgt := 4) hx hb dX9_sum_24 (by decide) ?_
      have e_1 : ((smN (rwF al ro) i) + (al (ro + i)) : Int32) = smN (rwF al ro) (i + 1) := by first | with_reducible rfl | (simp [smN, rwF]; done)
      have hl : lv_has ls 4 [(3, .int (nI (i + 1))), (2, .int (smN (rwF al ro) (i + 1))), (0, .ref mo), (1, .int (nI ro))] := lv_sub hl [0, 1, 2, 3] (by show (_ : List (Nat × Value)) = [(3, .int (nI (i + 1))), (2, .int (smN (rwF al ro) (i + 1))), (0, .ref mo), (1, .int (nI ro))]; rw [← e_1]; rfl)
      exact ih (i + 1) (by omega)  _ _ _ hP hD hS hl
  have hl : lv_has ls 4 [(0, .ref mo), (1, .int (nI ro))] := hl
  have hP : va_P D vwCl [oMo mo ma mh (nI hn) th mk mz mt (nI tn) (nI ax) sc ti pp, aI T ma 266 al] s.heap := hP
  have hD : va_D A [oMo mo ma mh (nI hn) th mk mz mt (nI tn) (nI ax) sc ti pp, aI T ma 266 al] := hD
  refine lv_iconst (v := 0) hx hb dX9_sum_0 (by decide) ?_
  refine lv_istore_n (lv' := [(2, .int 0), (0, .ref mo), (1, .int (nI ro))]) hx hb dX9_sum_1 rfl hl (by decide) rfl (fun ls hl => ?_)
  refine lv_iconst (v := 0) hx hb dX9_sum_2 (by decide) ?_
  refine lv_istore_n (lv' := [(3, .int 0), (2, .int 0), (0, .ref mo), (1, .int (nI ro))]) hx hb dX9_sum_3 rfl hl (by decide) rfl (fun ls hl => ?_)
  have e_2 : (0 : Int32) = nI 0 := rfl
  have e_3 : (0 : Int32) = smN (rwF al ro) 0 := rfl
  have hl : lv_has ls 4 [(3, .int (nI 0)), (2, .int (smN (rwF al ro) 0)), (0, .ref mo), (1, .int (nI ro))] := lv_sub hl [0, 1, 2, 3] (by show (_ : List (Nat × Value)) = [(3, .int (nI 0)), (2, .int (smN (rwF al ro) 0)), (0, .ref mo), (1, .int (nI ro))]; rw [← e_2, ← e_3]; rfl)
  exact loop_4 26 0 (by omega)  _ _ _ hP hD hS hl
abbrev rX9_isFull : Room := { frames := 1, cells := 0, slots := 0, locals := 23 }
set_option maxHeartbeats 4000000 in
set_option maxRecDepth 100000 in
theorem c_X9_isFull (l : Launch) (D : va_G) (T : Nat → ClassId) (mo ma mh mk mz mt : Nat) (al : Nat → Int32) (hn : Nat) (th : Int32) (tn ax : Nat) (sc ti pp : Int32) (fr : Nat) (hfr : fr + 52 ≤ 266) : kM l D T yX9_isFull wsX9_isFull rX9_isFull [.ref mo, .int (nI fr)] [oMo mo ma mh (nI hn) th mk mz mt (nI tn) (nI ax) sc ti pp, aI T ma 266 al] (some (.int (bI (mFull al fr)))) [oMo mo ma mh (nI hn) th mk mz mt (nI tn) (nI ax) sc ti pp, aI T ma 266 al] := by
  refine kM.of (cc := cX9_isFull) (maxL := 2) (ret := some .boolean) (by decide) rfl (Nat.le_of_ble_eq_true rfl) ?_
  intro p e s m below meth c A Q ls hx hb hml hown hr hlk hts hC hP hD hS hA hl hret
  have iX9 : ∀ w ∈ wsX90, w ∈ wsX9_isFull := (fun _ h => List.mem_cons_of_mem _ (List.mem_append_right _ h))
  have hl : lv_has ls 2 [(0, .ref mo), (1, .int (nI fr))] := hl
  have hP : va_P D vwCl [oMo mo ma mh (nI hn) th mk mz mt (nI tn) (nI ax) sc ti pp, aI T ma 266 al] s.heap := hP
  have hD : va_D A [oMo mo ma mh (nI hn) th mk mz mt (nI tn) (nI ax) sc ti pp, aI T ma 266 al] := hD
  refine lv_aload_n hx hb dX9_isFull_0 rfl (lv_at hl 0 rfl) ?_
  refine lv_iload_n hx hb dX9_isFull_1 rfl (lv_at hl 1 rfl) ?_
  refine lv_bipush (v := 26) hx hb dX9_isFull_2 (by decide) ?_
  refine lv_iadd hx hb dX9_isFull_4 ?_
  refine W.eq (g2 := F0 m 5 ls (.int (nI (fr + 26)) :: [.ref mo])) (congrArg (fun z => F0 m 5 ls (.int z :: [.ref mo])) (nI_add fr 26)) ?_
  have hP := hP.sub (ws' := [oMo mo ma mh (nI hn) th mk mz mt (nI tn) (nI ax) sc ti pp, aI T ma 266 al] ++ []) [0, 1] rfl
  have hD := hD.sub (ws' := [oMo mo ma mh (nI hn) th mk mz mt (nI tn) (nI ax) sc ti pp, aI T ma 266 al] ++ []) [0, 1] (by decide) rfl
  refine kV (ci := 8) (As := [.int (nI (fr + 26))]) (rest := []) ⟨hx, hb, hml, hown, hts⟩ (c_X9_many l D T mo ma mh mk mz mt al hn th tn ax sc ti pp (fr + 26) (by first | omega | assumption)) (cwV 1 hts gX9_isFull_X9_many rfl rfl rfl (by decide +kernel) ⟨Nat.le_of_ble_eq_true rfl, Nat.le_of_ble_eq_true rfl⟩) hC hP hD hS hA rfl rfl rfl hl.1 rfl (Nat.le_of_ble_eq_true rfl) dX9_isFull_5 ⟨Nat.zero_le _, Nat.zero_le _⟩ (fun H locs hP hD hS => ?_)
  have hP : va_P D vwCl [oMo mo ma mh (nI hn) th mk mz mt (nI tn) (nI ax) sc ti pp, aI T ma 266 al] H := hP
  have hD : va_D A [oMo mo ma mh (nI hn) th mk mz mt (nI tn) (nI ax) sc ti pp, aI T ma 266 al] := hD
  refine W.eq (g2 := F0 m 8 ls [.int (nI (cntN (rwF al (fr + 26)) 26))]) rfl ?_
  refine lv_aload_n hx hb dX9_isFull_8 rfl (lv_at hl 0 rfl) ?_
  refine va_get (D := D) (ci := 8) (v := .ref ma) (C := RX9) (T := TX9) (N := 12) hx hb hts iX9 hown hC.1 hP 0 rfl rfl 0 (by decide) (hts (.fieldLink RX9 7 "ParrotCountsModel" "all" "[I") (List.mem_of_getElem? (i := 1) rfl)) (fun _ h => h) rfl dX9_isFull_9 ?_
  refine lv_sipush (v := 264) hx hb dX9_isFull_12 (by decide) ?_
  refine k_iald hx hb hC.1 hP 1 0 rfl rfl (by decide) dX9_isFull_15 ?_
  refine lv_icmp_le (tgt := 23) hx hb dX9_isFull_16 (by decide) (fun c16 => ?_) (fun c16 => ?_)
  · refine lv_iconst (v := 0) hx hb dX9_isFull_23 (by decide) ?_
    have e_1 : 0 = bI (mFull al fr) := by first | with_reducible rfl | (simp [mFull, bI, c16]; done)
    refine W.eq (g2 := F0 m 24 ls [.int (bI (mFull al fr))]) (congrArg (fun z => F0 m 24 ls [.int z]) e_1) ?_
    exact hret _ _ _ _ _ (fun Qc free hq hf => W.zret hx hb hr (bI_nar _) hq hf dX9_isFull_24 hlk) hP hD hS
  · refine lv_iconst (v := 1) hx hb dX9_isFull_19 (by decide) ?_
    refine lv_goto (tgt := 24) hx hb dX9_isFull_20 (by decide) ?_
    have e_2 : 1 = bI (mFull al fr) := by first | with_reducible rfl | (simp [mFull, bI, c16]; done)
    refine W.eq (g2 := F0 m 24 ls [.int (bI (mFull al fr))]) (congrArg (fun z => F0 m 24 ls [.int z]) e_2) ?_
    exact hret _ _ _ _ _ (fun Qc free hq hf => W.zret hx hb hr (bI_nar _) hq hf dX9_isFull_24 hlk) hP hD hS
abbrev rX9_leastOf : Room := { frames := 0, cells := 0, slots := 0, locals := 0 }
set_option maxHeartbeats 4000000 in
set_option maxRecDepth 100000 in
theorem c_X9_leastOf (l : Launch) (D : va_G) (T : Nat → ClassId) (mo ma mh mk mz mt : Nat) (al : Nat → Int32) (hn : Nat) (th : Int32) (tn ax : Nat) (sc ti pp : Int32) (fr : Nat) (hfr : fr + 104 ≤ 266) : kM l D T yX9_leastOf wsX9_leastOf rX9_leastOf [.ref mo, .int (nI fr)] [oMo mo ma mh (nI hn) th mk mz mt (nI tn) (nI ax) sc ti pp, aI T ma 266 al] (some (.int (mWeak al fr 26))) [oMo mo ma mh (nI hn) th mk mz mt (nI tn) (nI ax) sc ti pp, aI T ma 266 al] := by
  refine kM.of (cc := cX9_leastOf) (maxL := 6) (ret := some .int) (by decide) rfl (Nat.le_of_ble_eq_true rfl) ?_
  intro p e s m below meth c A Q ls hx hb hml hown hr hlk hts hC hP hD hS hA hl hret
  have iX9 : ∀ w ∈ wsX90, w ∈ wsX9_leastOf := (fun _ h => List.mem_cons_of_mem _ (List.mem_append_right _ h))
  have loop_4 : ∀ (n i : Nat), i + n = 26 → ∀ (H : Heap) (locs : List Loc) (ls : Array Slot), va_P D vwCl [oMo mo ma mh (nI hn) th mk mz mt (nI tn) (nI ax) sc ti pp, aI T ma 266 al] H → va_D A [oMo mo ma mh (nI hn) th mk mz mt (nI tn) (nI ax) sc ti pp, aI T ma 266 al] → va_S A s.heap H locs → lv_has ls 6 [(3, .int (nI i)), (2, .int (mWeak al fr i)), (0, .ref mo), (1, .int (nI fr))] → W p l e rX9_leastOf s m [.ref mo, .int (nI fr)].toArray below meth c H locs 0 0 Q (F0 m 4 ls []) := by
    intro n
    induction n with
    | zero =>
      intro i hi  H locs ls hP hD hS hl
      have hi9 : 26 = i := by omega
      subst hi9
      refine lv_iload_n hx hb dX9_leastOf_4 rfl (lv_at hl 0 rfl) ?_
      refine lv_bipush (v := 26) hx hb dX9_leastOf_5 (by decide) ?_
      refine lv_icmp_ge (tgt := 114) hx hb dX9_leastOf_7 (by decide) (fun _ => ?_) (fun c_x => absurd (by decide : (26 : Int32) ≤ nI 26) c_x)
      refine lv_iload_n hx hb dX9_leastOf_114 rfl (lv_at hl 1 rfl) ?_
      exact hret _ _ _ _ _ (fun Qc free hq hf => W.iret hx hb hr hq hf dX9_leastOf_115 hlk) hP hD hS
    | succ n ih =>
      intro i hi  H locs ls hP hD hS hl
      have hlt : i < 26 := by omega
      refine lv_iload_n hx hb dX9_leastOf_4 rfl (lv_at hl 0 rfl) ?_
      refine lv_bipush (v := 26) hx hb dX9_leastOf_5 (by decide) ?_
      refine lv_icmp_ge (tgt := 114) hx hb dX9_leastOf_7 (by decide) (fun c_x => absurd c_x (nI_ge (b := 26) hlt (by decide))) (fun _ => ?_)
      refine lv_aload_n hx hb dX9_leastOf_10 rfl (lv_at hl 2 rfl) ?_
      refine va_get (D := D) (ci := 8) (v := .ref ma) (C := RX9) (T := TX9) (N := 12) hx hb hts iX9 hown hC.1 hP 0 rfl rfl 0 (by decide) (hts (.fieldLink RX9 7 "ParrotCountsModel" "all" "[I") (List.mem_of_getElem? (i := 1) rfl)) (fun _ h => h) rfl dX9_leastOf_11 ?_
      refine lv_iload_n hx hb dX9_leastOf_14 rfl (lv_at hl 3 rfl) ?_
      refine lv_bipush (v := 26) hx hb dX9_leastOf_15 (by decide) ?_
      refine lv_iadd hx hb dX9_leastOf_17 ?_
      refine W.eq (g2 := F0 m 18 ls (.int (nI (fr + 26)) :: [.ref ma])) (congrArg (fun z => F0 m 18 ls (.int z :: [.ref ma])) (nI_add fr 26)) ?_
      refine lv_iload_n hx hb dX9_leastOf_18 rfl (lv_at hl 0 rfl) ?_
      refine lv_iadd hx hb dX9_leastOf_19 ?_
      refine W.eq (g2 := F0 m 20 ls (.int (nI ((fr + 26) + i)) :: [.ref ma])) (congrArg (fun z => F0 m 20 ls (.int z :: [.ref ma])) (nI_add (fr + 26) i)) ?_
      refine k_iald hx hb hC.1 hP 1 0 rfl rfl (by omega) dX9_leastOf_20 ?_
      refine lv_istore (lv' := [(4, .int (al ((fr + 26) + i))), (3, .int (nI i)), (2, .int (mWeak al fr i)), (0, .ref mo), (1, .int (nI fr))]) hx hb dX9_leastOf_21 hl (by decide) rfl (fun ls hl => ?_)
      refine lv_iload hx hb dX9_leastOf_23 (lv_at hl 0 rfl) ?_
      refine lv_if_le (tgt := 94) hx hb dX9_leastOf_25 (by decide) (fun c25 => ?_) (fun c25 => ?_)
      · refine lv_iconst (v := 0) hx hb dX9_leastOf_94 (by decide) ?_
        refine lv_istore (lv' := [(5, .int 0), (4, .int (al ((fr + 26) + i))), (3, .int (nI i)), (2, .int (mWeak al fr i)), (0, .ref mo), (1, .int (nI fr))]) hx hb dX9_leastOf_95 hl (by decide) rfl (fun ls hl => ?_)
        refine lv_iload hx hb dX9_leastOf_97 (lv_at hl 0 rfl) ?_
        refine lv_if_eq (tgt := 106) hx hb dX9_leastOf_99 (by decide) (fun _ => ?_) (fun c_x => absurd (by decide : ((0 : Int32) = 0)) c_x)
        refine lv_iload_n hx hb dX9_leastOf_106 rfl (lv_at hl 3 rfl) ?_
        refine lv_istore_n (lv' := [(2, .int (mWeak al fr i)), (5, .int 0), (4, .int (al ((fr + 26) + i))), (3, .int (nI i)), (0, .ref mo), (1, .int (nI fr))]) hx hb dX9_leastOf_107 rfl hl (by decide) rfl (fun ls hl => ?_)
        refine lv_iinc (v := nI (i + 1)) (lv' := [(3, .int (nI (i + 1))), (2, .int (mWeak al fr i)), (5, .int 0), (4, .int (al ((fr + 26) + i))), (0, .ref mo), (1, .int (nI fr))]) hx hb dX9_leastOf_108 hl (k := 3) rfl (nI_1 i) (by decide) rfl (fun ls hl => ?_)
        refine lv_goto (tgt := 4) hx hb dX9_leastOf_111 (by decide) ?_
        have e_1 : (mWeak al fr i : Int32) = mWeak al fr (i + 1) := by first | with_reducible rfl | (simp [mWeak, flWeak, flWeakS, flWeaker, rwF, c25]; done) | exact mWeak_new c25 c30 c46
        have hl : lv_has ls 6 [(3, .int (nI (i + 1))), (2, .int (mWeak al fr (i + 1))), (0, .ref mo), (1, .int (nI fr))] := lv_sub hl [0, 1, 4, 5] (by show (_ : List (Nat × Value)) = [(3, .int (nI (i + 1))), (2, .int (mWeak al fr (i + 1))), (0, .ref mo), (1, .int (nI fr))]; rw [← e_1]; rfl)
        exact ih (i + 1) (by omega)  _ _ _ hP hD hS hl
      · refine lv_iload_n hx hb dX9_leastOf_28 rfl (lv_at hl 2 rfl) ?_
        refine lv_iconst (v := (-1)) hx hb dX9_leastOf_29 (by decide) ?_
        refine lv_icmp_eq (tgt := 90) hx hb dX9_leastOf_30 (by decide) (fun c30 => ?_) (fun c30 => ?_)
        · refine lv_iconst (v := 1) hx hb dX9_leastOf_90 (by decide) ?_
          refine lv_goto (tgt := 95) hx hb dX9_leastOf_91 (by decide) ?_
          refine lv_istore (lv' := [(5, .int 1), (4, .int (al ((fr + 26) + i))), (3, .int (nI i)), (2, .int (mWeak al fr i)), (0, .ref mo), (1, .int (nI fr))]) hx hb dX9_leastOf_95 hl (by decide) rfl (fun ls hl => ?_)
          refine lv_iload hx hb dX9_leastOf_97 (lv_at hl 0 rfl) ?_
          refine lv_if_eq (tgt := 106) hx hb dX9_leastOf_99 (by decide) (fun c_x => absurd c_x (by decide : ¬ ((1 : Int32) = 0))) (fun _ => ?_)
          refine lv_iload_n hx hb dX9_leastOf_102 rfl (lv_at hl 2 rfl) ?_
          refine lv_goto (tgt := 107) hx hb dX9_leastOf_103 (by decide) ?_
          refine lv_istore_n (lv' := [(2, .int (nI i)), (5, .int 1), (4, .int (al ((fr + 26) + i))), (3, .int (nI i)), (0, .ref mo), (1, .int (nI fr))]) hx hb dX9_leastOf_107 rfl hl (by decide) rfl (fun ls hl => ?_)
          refine lv_iinc (v := nI (i + 1)) (lv' := [(3, .int (nI (i + 1))), (2, .int (nI i)), (5, .int 1), (4, .int (al ((fr + 26) + i))), (0, .ref mo), (1, .int (nI fr))]) hx hb dX9_leastOf_108 hl (k := 3) rfl (nI_1 i) (by decide) rfl (fun ls hl => ?_)
          refine lv_goto (tgt := 4) hx hb dX9_leastOf_111 (by decide) ?_
          have e_2 : (nI i : Int32) = mWeak al fr (i + 1) := by first | with_reducible rfl | (simp [mWeak, flWeak, flWeakS, flWeaker, rwF, c25, eq_true c30]; done) | exact mWeak_new c25 c30 c46
          have hl : lv_has ls 6 [(3, .int (nI (i + 1))), (2, .int (mWeak al fr (i + 1))), (0, .ref mo), (1, .int (nI fr))] := lv_sub hl [0, 1, 4, 5] (by show (_ : List (Nat × Value)) = [(3, .int (nI (i + 1))), (2, .int (mWeak al fr (i + 1))), (0, .ref mo), (1, .int (nI fr))]; rw [← e_2]; rfl)
          exact ih (i + 1) (by omega)  _ _ _ hP hD hS hl
        · refine lv_iload hx hb dX9_leastOf_33 (lv_at hl 0 rfl) ?_
          refine lv_aload_n hx hb dX9_leastOf_35 rfl (lv_at hl 3 rfl) ?_
          refine va_get (D := D) (ci := 8) (v := .ref ma) (C := RX9) (T := TX9) (N := 12) hx hb hts iX9 hown hC.1 hP 0 rfl rfl 0 (by decide) (hts (.fieldLink RX9 7 "ParrotCountsModel" "all" "[I") (List.mem_of_getElem? (i := 1) rfl)) (fun _ h => h) rfl dX9_leastOf_36 ?_
          refine lv_iload_n hx hb dX9_leastOf_39 rfl (lv_at hl 4 rfl) ?_
          refine lv_bipush (v := 26) hx hb dX9_leastOf_40 (by decide) ?_
          refine lv_iadd hx hb dX9_leastOf_42 ?_
          refine W.eq (g2 := F0 m 43 ls (.int (nI (fr + 26)) :: [.ref ma, .int (al ((fr + 26) + i))])) (congrArg (fun z => F0 m 43 ls (.int z :: [.ref ma, .int (al ((fr + 26) + i))])) (nI_add fr 26)) ?_
          refine lv_iload_n hx hb dX9_leastOf_43 rfl (lv_at hl 2 rfl) ?_
          refine lv_iadd hx hb dX9_leastOf_44 ?_
          refine W.eq (g2 := F0 m 45 ls (.int (nI (fr + 26 + (mWeak al fr i).toNatClampNeg)) :: [.ref ma, .int (al ((fr + 26) + i))])) (congrArg (fun z => F0 m 45 ls (.int z :: [.ref ma, .int (al ((fr + 26) + i))])) (mWeak_add (by omega) c30 : ((nI (fr + 26)) + (mWeak al fr i) : Int32) = nI (fr + 26 + (mWeak al fr i).toNatClampNeg))) ?_
          refine k_iald hx hb hC.1 hP 1 0 rfl rfl (by have := mWeak_cl (by omega) c30; omega) dX9_leastOf_45 ?_
          refine lv_icmp_lt (tgt := 90) hx hb dX9_leastOf_46 (by decide) (fun c46 => ?_) (fun c46 => ?_)
          · have c46 := Int32.not_le.mpr c46
            refine lv_iconst (v := 1) hx hb dX9_leastOf_90 (by decide) ?_
            refine lv_goto (tgt := 95) hx hb dX9_leastOf_91 (by decide) ?_
            refine lv_istore (lv' := [(5, .int 1), (4, .int (al ((fr + 26) + i))), (3, .int (nI i)), (2, .int (mWeak al fr i)), (0, .ref mo), (1, .int (nI fr))]) hx hb dX9_leastOf_95 hl (by decide) rfl (fun ls hl => ?_)
            refine lv_iload hx hb dX9_leastOf_97 (lv_at hl 0 rfl) ?_
            refine lv_if_eq (tgt := 106) hx hb dX9_leastOf_99 (by decide) (fun c_x => absurd c_x (by decide : ¬ ((1 : Int32) = 0))) (fun _ => ?_)
            refine lv_iload_n hx hb dX9_leastOf_102 rfl (lv_at hl 2 rfl) ?_
            refine lv_goto (tgt := 107) hx hb dX9_leastOf_103 (by decide) ?_
            refine lv_istore_n (lv' := [(2, .int (nI i)), (5, .int 1), (4, .int (al ((fr + 26) + i))), (3, .int (nI i)), (0, .ref mo), (1, .int (nI fr))]) hx hb dX9_leastOf_107 rfl hl (by decide) rfl (fun ls hl => ?_)
            refine lv_iinc (v := nI (i + 1)) (lv' := [(3, .int (nI (i + 1))), (2, .int (nI i)), (5, .int 1), (4, .int (al ((fr + 26) + i))), (0, .ref mo), (1, .int (nI fr))]) hx hb dX9_leastOf_108 hl (k := 3) rfl (nI_1 i) (by decide) rfl (fun ls hl => ?_)
            refine lv_goto (tgt := 4) hx hb dX9_leastOf_111 (by decide) ?_
            have e_3 : (nI i : Int32) = mWeak al fr (i + 1) := by first | with_reducible rfl | (simp [mWeak, flWeak, flWeakS, flWeaker, rwF, c25, c30, c46]; done) | exact mWeak_new c25 c30 c46
            have hl : lv_has ls 6 [(3, .int (nI (i + 1))), (2, .int (mWeak al fr (i + 1))), (0, .ref mo), (1, .int (nI fr))] := lv_sub hl [0, 1, 4, 5] (by show (_ : List (Nat × Value)) = [(3, .int (nI (i + 1))), (2, .int (mWeak al fr (i + 1))), (0, .ref mo), (1, .int (nI fr))]; rw [← e_3]; rfl)
            exact ih (i + 1) (by omega)  _ _ _ hP hD hS hl
          · have c46 := Int32.not_lt.mp c46
            refine lv_iload hx hb dX9_leastOf_49 (lv_at hl 0 rfl) ?_
            refine lv_aload_n hx hb dX9_leastOf_51 rfl (lv_at hl 3 rfl) ?_
            refine va_get (D := D) (ci := 8) (v := .ref ma) (C := RX9) (T := TX9) (N := 12) hx hb hts iX9 hown hC.1 hP 0 rfl rfl 0 (by decide) (hts (.fieldLink RX9 7 "ParrotCountsModel" "all" "[I") (List.mem_of_getElem? (i := 1) rfl)) (fun _ h => h) rfl dX9_leastOf_52 ?_
            refine lv_iload_n hx hb dX9_leastOf_55 rfl (lv_at hl 4 rfl) ?_
            refine lv_bipush (v := 26) hx hb dX9_leastOf_56 (by decide) ?_
            refine lv_iadd hx hb dX9_leastOf_58 ?_
            refine W.eq (g2 := F0 m 59 ls (.int (nI (fr + 26)) :: [.ref ma, .int (al ((fr + 26) + i))])) (congrArg (fun z => F0 m 59 ls (.int z :: [.ref ma, .int (al ((fr + 26) + i))])) (nI_add fr 26)) ?_
            refine lv_iload_n hx hb dX9_leastOf_59 rfl (lv_at hl 2 rfl) ?_
            refine lv_iadd hx hb dX9_leastOf_60 ?_
            refine W.eq (g2 := F0 m 61 ls (.int (nI (fr + 26 + (mWeak al fr i).toNatClampNeg)) :: [.ref ma, .int (al ((fr + 26) + i))])) (congrArg (fun z => F0 m 61 ls (.int z :: [.ref ma, .int (al ((fr + 26) + i))])) (mWeak_add (by omega) c30 : ((nI (fr + 26)) + (mWeak al fr i) : Int32) = nI (fr + 26 + (mWeak al fr i).toNatClampNeg))) ?_
            refine k_iald hx hb hC.1 hP 1 0 rfl rfl (by have := mWeak_cl (by omega) c30; omega) dX9_leastOf_61 ?_
            refine lv_icmp_ne (tgt := 94) hx hb dX9_leastOf_62 (by decide) (fun c62 => ?_) (fun c62 => ?_)
            · refine lv_iconst (v := 0) hx hb dX9_leastOf_94 (by decide) ?_
              refine lv_istore (lv' := [(5, .int 0), (4, .int (al ((fr + 26) + i))), (3, .int (nI i)), (2, .int (mWeak al fr i)), (0, .ref mo), (1, .int (nI fr))]) hx hb dX9_leastOf_95 hl (by decide) rfl (fun ls hl => ?_)
              refine lv_iload hx hb dX9_leastOf_97 (lv_at hl 0 rfl) ?_
              refine lv_if_eq (tgt := 106) hx hb dX9_leastOf_99 (by decide) (fun _ => ?_) (fun c_x => absurd (by decide : ((0 : Int32) = 0)) c_x)
              refine lv_iload_n hx hb dX9_leastOf_106 rfl (lv_at hl 3 rfl) ?_
              refine lv_istore_n (lv' := [(2, .int (mWeak al fr i)), (5, .int 0), (4, .int (al ((fr + 26) + i))), (3, .int (nI i)), (0, .ref mo), (1, .int (nI fr))]) hx hb dX9_leastOf_107 rfl hl (by decide) rfl (fun ls hl => ?_)
              refine lv_iinc (v := nI (i + 1)) (lv' := [(3, .int (nI (i + 1))), (2, .int (mWeak al fr i)), (5, .int 0), (4, .int (al ((fr + 26) + i))), (0, .ref mo), (1, .int (nI fr))]) hx hb dX9_leastOf_108 hl (k := 3) rfl (nI_1 i) (by decide) rfl (fun ls hl => ?_)
              refine lv_goto (tgt := 4) hx hb dX9_leastOf_111 (by decide) ?_
              have e_4 : (mWeak al fr i : Int32) = mWeak al fr (i + 1) := by first | with_reducible rfl | (simp [mWeak, flWeak, flWeakS, flWeaker, rwF, c25, c30, c46, c62]; done) | exact mWeak_new c25 c30 c46
              have hl : lv_has ls 6 [(3, .int (nI (i + 1))), (2, .int (mWeak al fr (i + 1))), (0, .ref mo), (1, .int (nI fr))] := lv_sub hl [0, 1, 4, 5] (by show (_ : List (Nat × Value)) = [(3, .int (nI (i + 1))), (2, .int (mWeak al fr (i + 1))), (0, .ref mo), (1, .int (nI fr))]; rw [← e_4]; rfl)
              exact ih (i + 1) (by omega)  _ _ _ hP hD hS hl
            · refine lv_aload_n hx hb dX9_leastOf_65 rfl (lv_at hl 3 rfl) ?_
              refine va_get (D := D) (ci := 8) (v := .ref ma) (C := RX9) (T := TX9) (N := 12) hx hb hts iX9 hown hC.1 hP 0 rfl rfl 0 (by decide) (hts (.fieldLink RX9 7 "ParrotCountsModel" "all" "[I") (List.mem_of_getElem? (i := 1) rfl)) (fun _ h => h) rfl dX9_leastOf_66 ?_
              refine lv_iload_n hx hb dX9_leastOf_69 rfl (lv_at hl 4 rfl) ?_
              refine lv_bipush (v := 78) hx hb dX9_leastOf_70 (by decide) ?_
              refine lv_iadd hx hb dX9_leastOf_72 ?_
              refine W.eq (g2 := F0 m 73 ls (.int (nI (fr + 78)) :: [.ref ma])) (congrArg (fun z => F0 m 73 ls (.int z :: [.ref ma])) (nI_add fr 78)) ?_
              refine lv_iload_n hx hb dX9_leastOf_73 rfl (lv_at hl 1 rfl) ?_
              refine lv_iadd hx hb dX9_leastOf_74 ?_
              refine W.eq (g2 := F0 m 75 ls (.int (nI ((fr + 78) + i)) :: [.ref ma])) (congrArg (fun z => F0 m 75 ls (.int z :: [.ref ma])) (nI_add (fr + 78) i)) ?_
              refine k_iald hx hb hC.1 hP 1 0 rfl rfl (by omega) dX9_leastOf_75 ?_
              refine lv_aload_n hx hb dX9_leastOf_76 rfl (lv_at hl 3 rfl) ?_
              refine va_get (D := D) (ci := 8) (v := .ref ma) (C := RX9) (T := TX9) (N := 12) hx hb hts iX9 hown hC.1 hP 0 rfl rfl 0 (by decide) (hts (.fieldLink RX9 7 "ParrotCountsModel" "all" "[I") (List.mem_of_getElem? (i := 1) rfl)) (fun _ h => h) rfl dX9_leastOf_77 ?_
              refine lv_iload_n hx hb dX9_leastOf_80 rfl (lv_at hl 4 rfl) ?_
              refine lv_bipush (v := 78) hx hb dX9_leastOf_81 (by decide) ?_
              refine lv_iadd hx hb dX9_leastOf_83 ?_
              refine W.eq (g2 := F0 m 84 ls (.int (nI (fr + 78)) :: [.ref ma, .int (al ((fr + 78) + i))])) (congrArg (fun z => F0 m 84 ls (.int z :: [.ref ma, .int (al ((fr + 78) + i))])) (nI_add fr 78)) ?_
              refine lv_iload_n hx hb dX9_leastOf_84 rfl (lv_at hl 2 rfl) ?_
              refine lv_iadd hx hb dX9_leastOf_85 ?_
              refine W.eq (g2 := F0 m 86 ls (.int (nI (fr + 78 + (mWeak al fr i).toNatClampNeg)) :: [.ref ma, .int (al ((fr + 78) + i))])) (congrArg (fun z => F0 m 86 ls (.int z :: [.ref ma, .int (al ((fr + 78) + i))])) (mWeak_add (by omega) c30 : ((nI (fr + 78)) + (mWeak al fr i) : Int32) = nI (fr + 78 + (mWeak al fr i).toNatClampNeg))) ?_
              refine k_iald hx hb hC.1 hP 1 0 rfl rfl (by have := mWeak_cl (by omega) c30; omega) dX9_leastOf_86 ?_
              refine lv_icmp_ge (tgt := 94) hx hb dX9_leastOf_87 (by decide) (fun c87 => ?_) (fun c87 => ?_)
              · refine lv_iconst (v := 0) hx hb dX9_leastOf_94 (by decide) ?_
                refine lv_istore (lv' := [(5, .int 0), (4, .int (al ((fr + 26) + i))), (3, .int (nI i)), (2, .int (mWeak al fr i)), (0, .ref mo), (1, .int (nI fr))]) hx hb dX9_leastOf_95 hl (by decide) rfl (fun ls hl => ?_)
                refine lv_iload hx hb dX9_leastOf_97 (lv_at hl 0 rfl) ?_
                refine lv_if_eq (tgt := 106) hx hb dX9_leastOf_99 (by decide) (fun _ => ?_) (fun c_x => absurd (by decide : ((0 : Int32) = 0)) c_x)
                refine lv_iload_n hx hb dX9_leastOf_106 rfl (lv_at hl 3 rfl) ?_
                refine lv_istore_n (lv' := [(2, .int (mWeak al fr i)), (5, .int 0), (4, .int (al ((fr + 26) + i))), (3, .int (nI i)), (0, .ref mo), (1, .int (nI fr))]) hx hb dX9_leastOf_107 rfl hl (by decide) rfl (fun ls hl => ?_)
                refine lv_iinc (v := nI (i + 1)) (lv' := [(3, .int (nI (i + 1))), (2, .int (mWeak al fr i)), (5, .int 0), (4, .int (al ((fr + 26) + i))), (0, .ref mo), (1, .int (nI fr))]) hx hb dX9_leastOf_108 hl (k := 3) rfl (nI_1 i) (by decide) rfl (fun ls hl => ?_)
                refine lv_goto (tgt := 4) hx hb dX9_leastOf_111 (by decide) ?_
                have e_5 : (mWeak al fr i : Int32) = mWeak al fr (i + 1) := by first | with_reducible rfl | (simp [mWeak, flWeak, flWeakS, flWeaker, rwF, c25, c30, c46, eq_true c62, c87]; done) | exact mWeak_new c25 c30 c46
                have hl : lv_has ls 6 [(3, .int (nI (i + 1))), (2, .int (mWeak al fr (i + 1))), (0, .ref mo), (1, .int (nI fr))] := lv_sub hl [0, 1, 4, 5] (by show (_ : List (Nat × Value)) = [(3, .int (nI (i + 1))), (2, .int (mWeak al fr (i + 1))), (0, .ref mo), (1, .int (nI fr))]; rw [← e_5]; rfl)
                exact ih (i + 1) (by omega)  _ _ _ hP hD hS hl
              · refine lv_iconst (v := 1) hx hb dX9_leastOf_90 (by decide) ?_
                refine lv_goto (tgt := 95) hx hb dX9_leastOf_91 (by decide) ?_
                refine lv_istore (lv' := [(5, .int 1), (4, .int (al ((fr + 26) + i))), (3, .int (nI i)), (2, .int (mWeak al fr i)), (0, .ref mo), (1, .int (nI fr))]) hx hb dX9_leastOf_95 hl (by decide) rfl (fun ls hl => ?_)
                refine lv_iload hx hb dX9_leastOf_97 (lv_at hl 0 rfl) ?_
                refine lv_if_eq (tgt := 106) hx hb dX9_leastOf_99 (by decide) (fun c_x => absurd c_x (by decide : ¬ ((1 : Int32) = 0))) (fun _ => ?_)
                refine lv_iload_n hx hb dX9_leastOf_102 rfl (lv_at hl 2 rfl) ?_
                refine lv_goto (tgt := 107) hx hb dX9_leastOf_103 (by decide) ?_
                refine lv_istore_n (lv' := [(2, .int (nI i)), (5, .int 1), (4, .int (al ((fr + 26) + i))), (3, .int (nI i)), (0, .ref mo), (1, .int (nI fr))]) hx hb dX9_leastOf_107 rfl hl (by decide) rfl (fun ls hl => ?_)
                refine lv_iinc (v := nI (i + 1)) (lv' := [(3, .int (nI (i + 1))), (2, .int (nI i)), (5, .int 1), (4, .int (al ((fr + 26) + i))), (0, .ref mo), (1, .int (nI fr))]) hx hb dX9_leastOf_108 hl (k := 3) rfl (nI_1 i) (by decide) rfl (fun ls hl => ?_)
                refine lv_goto (tgt := 4) hx hb dX9_leastOf_111 (by decide) ?_
                have e_6 : (nI i : Int32) = mWeak al fr (i + 1) := by first | with_reducible rfl | (simp [mWeak, flWeak, flWeakS, flWeaker, rwF, c25, c30, c46, eq_true c62, c87]; done) | exact mWeak_new c25 c30 c46
                have hl : lv_has ls 6 [(3, .int (nI (i + 1))), (2, .int (mWeak al fr (i + 1))), (0, .ref mo), (1, .int (nI fr))] := lv_sub hl [0, 1, 4, 5] (by show (_ : List (Nat × Value)) = [(3, .int (nI (i + 1))), (2, .int (mWeak al fr (i + 1))), (0, .ref mo), (1, .int (nI fr))]; rw [← e_6]; rfl)
                exact ih (i + 1) (by omega)  _ _ _ hP hD hS hl
  have hl : lv_has ls 6 [(0, .ref mo), (1, .int (nI fr))] := hl
  have hP : va_P D vwCl [oMo mo ma mh (nI hn) th mk mz mt (nI tn) (nI ax) sc ti pp, aI T ma 266 al] s.heap := hP
  have hD : va_D A [oMo mo ma mh (nI hn) th mk mz mt (nI tn) (nI ax) sc ti pp, aI T ma 266 al] := hD
  refine lv_iconst (v := (-1)) hx hb dX9_leastOf_0 (by decide) ?_
  refine lv_istore_n (lv' := [(2, .int (-1)), (0, .ref mo), (1, .int (nI fr))]) hx hb dX9_leastOf_1 rfl hl (by decide) rfl (fun ls hl => ?_)
  refine lv_iconst (v := 0) hx hb dX9_leastOf_2 (by decide) ?_
  refine lv_istore_n (lv' := [(3, .int 0), (2, .int (-1)), (0, .ref mo), (1, .int (nI fr))]) hx hb dX9_leastOf_3 rfl hl (by decide) rfl (fun ls hl => ?_)
  have e_7 : (0 : Int32) = nI 0 := rfl
  have e_8 : ((-1) : Int32) = mWeak al fr 0 := rfl
  have hl : lv_has ls 6 [(3, .int (nI 0)), (2, .int (mWeak al fr 0)), (0, .ref mo), (1, .int (nI fr))] := lv_sub hl [0, 1, 2, 3] (by show (_ : List (Nat × Value)) = [(3, .int (nI 0)), (2, .int (mWeak al fr 0)), (0, .ref mo), (1, .int (nI fr))]; rw [← e_7, ← e_8]; rfl)
  exact loop_4 26 0 (by omega)  _ _ _ hP hD hS hl
abbrev rX9_floorOf : Room := { frames := 2, cells := 0, slots := 0, locals := 44 }
set_option maxHeartbeats 4000000 in
set_option maxRecDepth 100000 in
theorem c_X9_floorOf (l : Launch) (D : va_G) (T : Nat → ClassId) (mo ma mh mk mz mt : Nat) (al : Nat → Int32) (hn : Nat) (th : Int32) (tn ax : Nat) (sc ti pp : Int32) (fr cp : Nat) (hfr : fr + 104 ≤ 266) (hcp : al 264 = nI cp) (hcp9 : cp < 1000) : kM l D T yX9_floorOf wsX9_floorOf rX9_floorOf [.ref mo, .int (nI fr)] [oMo mo ma mh (nI hn) th mk mz mt (nI tn) (nI ax) sc ti pp, aI T ma 266 al] (some (.int (mFloor al fr))) [oMo mo ma mh (nI hn) th mk mz mt (nI tn) (nI ax) sc ti pp, aI T ma 266 al] := by
  refine kM.of (cc := cX9_floorOf) (maxL := 2) (ret := some .int) (by decide) rfl (Nat.le_of_ble_eq_true rfl) ?_
  intro p e s m below meth c A Q ls hx hb hml hown hr hlk hts hC hP hD hS hA hl hret
  have iX9 : ∀ w ∈ wsX90, w ∈ wsX9_floorOf := (fun _ h => List.mem_cons_of_mem _ (List.mem_append_right _ h))
  have hl : lv_has ls 2 [(0, .ref mo), (1, .int (nI fr))] := hl
  have hP : va_P D vwCl [oMo mo ma mh (nI hn) th mk mz mt (nI tn) (nI ax) sc ti pp, aI T ma 266 al] s.heap := hP
  have hD : va_D A [oMo mo ma mh (nI hn) th mk mz mt (nI tn) (nI ax) sc ti pp, aI T ma 266 al] := hD
  refine lv_aload_n hx hb dX9_floorOf_0 rfl (lv_at hl 0 rfl) ?_
  refine lv_iload_n hx hb dX9_floorOf_1 rfl (lv_at hl 1 rfl) ?_
  have hP := hP.sub (ws' := [oMo mo ma mh (nI hn) th mk mz mt (nI tn) (nI ax) sc ti pp, aI T ma 266 al] ++ []) [0, 1] rfl
  have hD := hD.sub (ws' := [oMo mo ma mh (nI hn) th mk mz mt (nI tn) (nI ax) sc ti pp, aI T ma 266 al] ++ []) [0, 1] (by decide) rfl
  refine kV (ci := 8) (As := [.int (nI fr)]) (rest := []) ⟨hx, hb, hml, hown, hts⟩ (c_X9_isFull l D T mo ma mh mk mz mt al hn th tn ax sc ti pp fr (by first | omega | assumption)) (cwV 1 hts gX9_floorOf_X9_isFull rfl rfl rfl (by decide +kernel) ⟨Nat.le_of_ble_eq_true rfl, Nat.le_of_ble_eq_true rfl⟩) hC hP hD hS hA rfl rfl rfl hl.1 rfl (Nat.le_of_ble_eq_true rfl) dX9_floorOf_2 ⟨Nat.zero_le _, Nat.zero_le _⟩ (fun H locs hP hD hS => ?_)
  have hP : va_P D vwCl [oMo mo ma mh (nI hn) th mk mz mt (nI tn) (nI ax) sc ti pp, aI T ma 266 al] H := hP
  have hD : va_D A [oMo mo ma mh (nI hn) th mk mz mt (nI tn) (nI ax) sc ti pp, aI T ma 266 al] := hD
  refine W.eq (g2 := F0 m 5 ls [.int (bI (mFull al fr))]) rfl ?_
  refine lv_if_eq (tgt := 26) hx hb dX9_floorOf_5 (by decide) (fun c5 => ?_) (fun c5 => ?_)
  · have c5 := (bI0 _).mp c5
    refine lv_iconst (v := 0) hx hb dX9_floorOf_26 (by decide) ?_
    have e_1 : 0 = mFloor al fr := by first | with_reducible rfl | (simp [mFloor, c5]; done)
    refine W.eq (g2 := F0 m 27 ls [.int (mFloor al fr)]) (congrArg (fun z => F0 m 27 ls [.int z]) e_1) ?_
    exact hret _ _ _ _ _ (fun Qc free hq hf => W.iret hx hb hr hq hf dX9_floorOf_27 hlk) hP hD hS
  · have c5 := (bI0n _).mp c5
    refine lv_aload_n hx hb dX9_floorOf_8 rfl (lv_at hl 0 rfl) ?_
    refine va_get (D := D) (ci := 8) (v := .ref ma) (C := RX9) (T := TX9) (N := 12) hx hb hts iX9 hown hC.1 hP 0 rfl rfl 0 (by decide) (hts (.fieldLink RX9 7 "ParrotCountsModel" "all" "[I") (List.mem_of_getElem? (i := 1) rfl)) (fun _ h => h) rfl dX9_floorOf_9 ?_
    refine lv_iload_n hx hb dX9_floorOf_12 rfl (lv_at hl 1 rfl) ?_
    refine lv_bipush (v := 26) hx hb dX9_floorOf_13 (by decide) ?_
    refine lv_iadd hx hb dX9_floorOf_15 ?_
    refine W.eq (g2 := F0 m 16 ls (.int (nI (fr + 26)) :: [.ref ma])) (congrArg (fun z => F0 m 16 ls (.int z :: [.ref ma])) (nI_add fr 26)) ?_
    refine lv_aload_n hx hb dX9_floorOf_16 rfl (lv_at hl 0 rfl) ?_
    refine lv_iload_n hx hb dX9_floorOf_17 rfl (lv_at hl 1 rfl) ?_
    have hP := hP.sub (ws' := [oMo mo ma mh (nI hn) th mk mz mt (nI tn) (nI ax) sc ti pp, aI T ma 266 al] ++ []) [0, 1] rfl
    have hD := hD.sub (ws' := [oMo mo ma mh (nI hn) th mk mz mt (nI tn) (nI ax) sc ti pp, aI T ma 266 al] ++ []) [0, 1] (by decide) rfl
    refine kV (ci := 8) (As := [.int (nI fr)]) (rest := [.int (nI (fr + 26)), .ref ma]) ⟨hx, hb, hml, hown, hts⟩ (c_X9_leastOf l D T mo ma mh mk mz mt al hn th tn ax sc ti pp fr (by first | omega | assumption)) (cwV 1 hts gX9_floorOf_X9_leastOf rfl rfl rfl (by decide +kernel) ⟨Nat.le_of_ble_eq_true rfl, Nat.le_of_ble_eq_true rfl⟩) hC hP hD hS hA rfl rfl rfl hl.1 rfl (Nat.le_of_ble_eq_true rfl) dX9_floorOf_18 ⟨Nat.zero_le _, Nat.zero_le _⟩ (fun H locs hP hD hS => ?_)
    have hP : va_P D vwCl [oMo mo ma mh (nI hn) th mk mz mt (nI tn) (nI ax) sc ti pp, aI T ma 266 al] H := hP
    have hD : va_D A [oMo mo ma mh (nI hn) th mk mz mt (nI tn) (nI ax) sc ti pp, aI T ma 266 al] := hD
    refine W.eq (g2 := F0 m 21 ls [.int (mWeak al fr 26), .int (nI (fr + 26)), .ref ma]) rfl ?_
    refine lv_iadd hx hb dX9_floorOf_21 ?_
    refine W.eq (g2 := F0 m 22 ls (.int (nI (fr + 26 + (mWeak al fr 26).toNatClampNeg)) :: [.ref ma])) (congrArg (fun z => F0 m 22 ls (.int z :: [.ref ma])) (mWeak_add (by omega) (mFull_weak hcp hcp9 c5) : ((nI (fr + 26)) + (mWeak al fr 26) : Int32) = nI (fr + 26 + (mWeak al fr 26).toNatClampNeg))) ?_
    refine k_iald hx hb hC.1 hP 1 0 rfl rfl (by have := mWeak_cl (Nat.le_refl 26) (mFull_weak hcp hcp9 c5); omega) dX9_floorOf_22 ?_
    refine lv_goto (tgt := 27) hx hb dX9_floorOf_23 (by decide) ?_
    have e_2 : al (fr + 26 + (mWeak al fr 26).toNatClampNeg) = mFloor al fr := by first | with_reducible rfl | (simp [mFloor, c5]; done)
    refine W.eq (g2 := F0 m 27 ls [.int (mFloor al fr)]) (congrArg (fun z => F0 m 27 ls [.int z]) e_2) ?_
    exact hret _ _ _ _ _ (fun Qc free hq hf => W.iret hx hb hr hq hf dX9_floorOf_27 hlk) hP hD hS
abbrev rX9_estimateBy : Room := { frames := 3, cells := 0, slots := 0, locals := 65 }
set_option maxHeartbeats 4000000 in
set_option maxRecDepth 100000 in
theorem c_X9_estimateBy (l : Launch) (D : va_G) (T : Nat → ClassId) (mo ma mh mk mz mt : Nat) (al : Nat → Int32) (hn : Nat) (th : Int32) (tn ax : Nat) (sc ti pp : Int32) (fr cp pa : Nat) (hfr : fr + 104 ≤ 266) (hcp : al 264 = nI cp) (hcp9 : cp < 1000) (hp : pa < 26) : kM l D T yX9_estimateBy wsX9_estimateBy rX9_estimateBy [.ref mo, .int (nI fr), .int (nI pa)] [oMo mo ma mh (nI hn) th mk mz mt (nI tn) (nI ax) sc ti pp, aI T ma 266 al] (some (.int (mEst al fr pa))) [oMo mo ma mh (nI hn) th mk mz mt (nI tn) (nI ax) sc ti pp, aI T ma 266 al] := by
  refine kM.of (cc := cX9_estimateBy) (maxL := 4) (ret := some .int) (by decide) rfl (Nat.le_of_ble_eq_true rfl) ?_
  intro p e s m below meth c A Q ls hx hb hml hown hr hlk hts hC hP hD hS hA hl hret
  have iX9 : ∀ w ∈ wsX90, w ∈ wsX9_estimateBy := (fun _ h => List.mem_cons_of_mem _ (List.mem_append_right _ h))
  have hl : lv_has ls 4 [(0, .ref mo), (1, .int (nI fr)), (2, .int (nI pa))] := hl
  have hP : va_P D vwCl [oMo mo ma mh (nI hn) th mk mz mt (nI tn) (nI ax) sc ti pp, aI T ma 266 al] s.heap := hP
  have hD : va_D A [oMo mo ma mh (nI hn) th mk mz mt (nI tn) (nI ax) sc ti pp, aI T ma 266 al] := hD
  refine lv_aload_n hx hb dX9_estimateBy_0 rfl (lv_at hl 0 rfl) ?_
  refine va_get (D := D) (ci := 8) (v := .ref ma) (C := RX9) (T := TX9) (N := 12) hx hb hts iX9 hown hC.1 hP 0 rfl rfl 0 (by decide) (hts (.fieldLink RX9 7 "ParrotCountsModel" "all" "[I") (List.mem_of_getElem? (i := 1) rfl)) (fun _ h => h) rfl dX9_estimateBy_1 ?_
  refine lv_iload_n hx hb dX9_estimateBy_4 rfl (lv_at hl 1 rfl) ?_
  refine lv_bipush (v := 26) hx hb dX9_estimateBy_5 (by decide) ?_
  refine lv_iadd hx hb dX9_estimateBy_7 ?_
  refine W.eq (g2 := F0 m 8 ls (.int (nI (fr + 26)) :: [.ref ma])) (congrArg (fun z => F0 m 8 ls (.int z :: [.ref ma])) (nI_add fr 26)) ?_
  refine lv_iload_n hx hb dX9_estimateBy_8 rfl (lv_at hl 2 rfl) ?_
  refine lv_iadd hx hb dX9_estimateBy_9 ?_
  refine W.eq (g2 := F0 m 10 ls (.int (nI ((fr + 26) + pa)) :: [.ref ma])) (congrArg (fun z => F0 m 10 ls (.int z :: [.ref ma])) (nI_add (fr + 26) pa)) ?_
  refine k_iald hx hb hC.1 hP 1 0 rfl rfl (by omega) dX9_estimateBy_10 ?_
  refine lv_istore_n (lv' := [(3, .int (al ((fr + 26) + pa))), (0, .ref mo), (1, .int (nI fr)), (2, .int (nI pa))]) hx hb dX9_estimateBy_11 rfl hl (by decide) rfl (fun ls hl => ?_)
  refine lv_iload_n hx hb dX9_estimateBy_12 rfl (lv_at hl 0 rfl) ?_
  refine lv_if_le (tgt := 20) hx hb dX9_estimateBy_13 (by decide) (fun c13 => ?_) (fun c13 => ?_)
  · refine lv_aload_n hx hb dX9_estimateBy_20 rfl (lv_at hl 1 rfl) ?_
    refine lv_iload_n hx hb dX9_estimateBy_21 rfl (lv_at hl 2 rfl) ?_
    have hP := hP.sub (ws' := [oMo mo ma mh (nI hn) th mk mz mt (nI tn) (nI ax) sc ti pp, aI T ma 266 al] ++ []) [0, 1] rfl
    have hD := hD.sub (ws' := [oMo mo ma mh (nI hn) th mk mz mt (nI tn) (nI ax) sc ti pp, aI T ma 266 al] ++ []) [0, 1] (by decide) rfl
    refine kV (ci := 8) (As := [.int (nI fr)]) (rest := []) ⟨hx, hb, hml, hown, hts⟩ (c_X9_floorOf l D T mo ma mh mk mz mt al hn th tn ax sc ti pp fr cp (by first | omega | assumption) (by first | omega | assumption) (by first | omega | assumption)) (cwV 1 hts gX9_estimateBy_X9_floorOf rfl rfl rfl (by decide +kernel) ⟨Nat.le_of_ble_eq_true rfl, Nat.le_of_ble_eq_true rfl⟩) hC hP hD hS hA rfl rfl rfl hl.1 rfl (Nat.le_of_ble_eq_true rfl) dX9_estimateBy_22 ⟨Nat.zero_le _, Nat.zero_le _⟩ (fun H locs hP hD hS => ?_)
    have hP : va_P D vwCl [oMo mo ma mh (nI hn) th mk mz mt (nI tn) (nI ax) sc ti pp, aI T ma 266 al] H := hP
    have hD : va_D A [oMo mo ma mh (nI hn) th mk mz mt (nI tn) (nI ax) sc ti pp, aI T ma 266 al] := hD
    refine W.eq (g2 := F0 m 25 ls [.int (mFloor al fr)]) rfl ?_
    have e_1 : mFloor al fr = mEst al fr pa := by first | with_reducible rfl | (simp [mEst, c13]; done)
    refine W.eq (g2 := F0 m 25 ls [.int (mEst al fr pa)]) (congrArg (fun z => F0 m 25 ls [.int z]) e_1) ?_
    exact hret _ _ _ _ _ (fun Qc free hq hf => W.iret hx hb hr hq hf dX9_estimateBy_25 hlk) hP hD hS
  · refine lv_iload_n hx hb dX9_estimateBy_16 rfl (lv_at hl 0 rfl) ?_
    refine lv_goto (tgt := 25) hx hb dX9_estimateBy_17 (by decide) ?_
    have e_2 : al ((fr + 26) + pa) = mEst al fr pa := by first | with_reducible rfl | (simp [mEst, c13]; done)
    refine W.eq (g2 := F0 m 25 ls [.int (mEst al fr pa)]) (congrArg (fun z => F0 m 25 ls [.int z]) e_2) ?_
    exact hret _ _ _ _ _ (fun Qc free hq hf => W.iret hx hb hr hq hf dX9_estimateBy_25 hlk) hP hD hS
abbrev rX9_sureBy : Room := { frames := 0, cells := 0, slots := 0, locals := 0 }
set_option maxHeartbeats 4000000 in
set_option maxRecDepth 100000 in
theorem c_X9_sureBy (l : Launch) (D : va_G) (T : Nat → ClassId) (mo ma mh mk mz mt : Nat) (al : Nat → Int32) (hn : Nat) (th : Int32) (tn ax : Nat) (sc ti pp : Int32) (fr pa : Nat) (hfr : fr + 104 ≤ 266) (hp : pa < 26) : kM l D T yX9_sureBy wsX9_sureBy rX9_sureBy [.ref mo, .int (nI fr), .int (nI pa)] [oMo mo ma mh (nI hn) th mk mz mt (nI tn) (nI ax) sc ti pp, aI T ma 266 al] (some (.int (mSure al fr pa))) [oMo mo ma mh (nI hn) th mk mz mt (nI tn) (nI ax) sc ti pp, aI T ma 266 al] := by
  refine kM.of (cc := cX9_sureBy) (maxL := 3) (ret := some .int) (by decide) rfl (Nat.le_of_ble_eq_true rfl) ?_
  intro p e s m below meth c A Q ls hx hb hml hown hr hlk hts hC hP hD hS hA hl hret
  have iX9 : ∀ w ∈ wsX90, w ∈ wsX9_sureBy := (fun _ h => List.mem_cons_of_mem _ (List.mem_append_right _ h))
  have hl : lv_has ls 3 [(0, .ref mo), (1, .int (nI fr)), (2, .int (nI pa))] := hl
  have hP : va_P D vwCl [oMo mo ma mh (nI hn) th mk mz mt (nI tn) (nI ax) sc ti pp, aI T ma 266 al] s.heap := hP
  have hD : va_D A [oMo mo ma mh (nI hn) th mk mz mt (nI tn) (nI ax) sc ti pp, aI T ma 266 al] := hD
  refine lv_aload_n hx hb dX9_sureBy_0 rfl (lv_at hl 0 rfl) ?_
  refine va_get (D := D) (ci := 8) (v := .ref ma) (C := RX9) (T := TX9) (N := 12) hx hb hts iX9 hown hC.1 hP 0 rfl rfl 0 (by decide) (hts (.fieldLink RX9 7 "ParrotCountsModel" "all" "[I") (List.mem_of_getElem? (i := 1) rfl)) (fun _ h => h) rfl dX9_sureBy_1 ?_
  refine lv_iload_n hx hb dX9_sureBy_4 rfl (lv_at hl 1 rfl) ?_
  refine lv_bipush (v := 26) hx hb dX9_sureBy_5 (by decide) ?_
  refine lv_iadd hx hb dX9_sureBy_7 ?_
  refine W.eq (g2 := F0 m 8 ls (.int (nI (fr + 26)) :: [.ref ma])) (congrArg (fun z => F0 m 8 ls (.int z :: [.ref ma])) (nI_add fr 26)) ?_
  refine lv_iload_n hx hb dX9_sureBy_8 rfl (lv_at hl 2 rfl) ?_
  refine lv_iadd hx hb dX9_sureBy_9 ?_
  refine W.eq (g2 := F0 m 10 ls (.int (nI ((fr + 26) + pa)) :: [.ref ma])) (congrArg (fun z => F0 m 10 ls (.int z :: [.ref ma])) (nI_add (fr + 26) pa)) ?_
  refine k_iald hx hb hC.1 hP 1 0 rfl rfl (by omega) dX9_sureBy_10 ?_
  refine lv_aload_n hx hb dX9_sureBy_11 rfl (lv_at hl 0 rfl) ?_
  refine va_get (D := D) (ci := 8) (v := .ref ma) (C := RX9) (T := TX9) (N := 12) hx hb hts iX9 hown hC.1 hP 0 rfl rfl 0 (by decide) (hts (.fieldLink RX9 7 "ParrotCountsModel" "all" "[I") (List.mem_of_getElem? (i := 1) rfl)) (fun _ h => h) rfl dX9_sureBy_12 ?_
  refine lv_iload_n hx hb dX9_sureBy_15 rfl (lv_at hl 1 rfl) ?_
  refine lv_bipush (v := 52) hx hb dX9_sureBy_16 (by decide) ?_
  refine lv_iadd hx hb dX9_sureBy_18 ?_
  refine W.eq (g2 := F0 m 19 ls (.int (nI (fr + 52)) :: [.ref ma, .int (al ((fr + 26) + pa))])) (congrArg (fun z => F0 m 19 ls (.int z :: [.ref ma, .int (al ((fr + 26) + pa))])) (nI_add fr 52)) ?_
  refine lv_iload_n hx hb dX9_sureBy_19 rfl (lv_at hl 2 rfl) ?_
  refine lv_iadd hx hb dX9_sureBy_20 ?_
  refine W.eq (g2 := F0 m 21 ls (.int (nI ((fr + 52) + pa)) :: [.ref ma, .int (al ((fr + 26) + pa))])) (congrArg (fun z => F0 m 21 ls (.int z :: [.ref ma, .int (al ((fr + 26) + pa))])) (nI_add (fr + 52) pa)) ?_
  refine k_iald hx hb hC.1 hP 1 0 rfl rfl (by omega) dX9_sureBy_21 ?_
  refine lv_isub hx hb dX9_sureBy_22 ?_
  have e_1 : (al ((fr + 26) + pa)) - (al ((fr + 52) + pa)) = mSure al fr pa := rfl
  refine W.eq (g2 := F0 m 23 ls [.int (mSure al fr pa)]) (congrArg (fun z => F0 m 23 ls [.int z]) e_1) ?_
  exact hret _ _ _ _ _ (fun Qc free hq hf => W.iret hx hb hr hq hf dX9_sureBy_23 hlk) hP hD hS
abbrev rX9_wears : Room := { frames := 0, cells := 0, slots := 0, locals := 0 }
set_option maxHeartbeats 4000000 in
set_option maxRecDepth 100000 in
theorem c_X9_wears (l : Launch) (D : va_G) (T : Nat → ClassId) (mo ma mh mk mz mt : Nat) (al : Nat → Int32) (hn : Nat) (th : Int32) (tn ax : Nat) (sc ti pp : Int32) (bx : Int32) : kM l D T yX9_wears wsX9_wears rX9_wears [.ref mo, .int bx] [oMo mo ma mh (nI hn) th mk mz mt (nI tn) (nI ax) sc ti pp, aI T ma 266 al] none [oMo mo ma mh (nI hn) th mk mz mt (nI tn) (nI ax) sc ti pp, aI T ma 266 (wrN al bx 26)] := by
  refine kM.of (cc := cX9_wears) (maxL := 3) (ret := none) (by decide) rfl (Nat.le_of_ble_eq_true rfl) ?_
  intro p e s m below meth c A Q ls hx hb hml hown hr hlk hts hC hP hD hS hA hl hret
  have iX9 : ∀ w ∈ wsX90, w ∈ wsX9_wears := (fun _ h => List.mem_cons_of_mem _ (List.mem_append_right _ h))
  have loop_2 : ∀ (n i : Nat), i + n = 26 → ∀ (H : Heap) (locs : List Loc) (ls : Array Slot), va_P D vwCl [oMo mo ma mh (nI hn) th mk mz mt (nI tn) (nI ax) sc ti pp, aI T ma 266 (wrN al bx i)] H → va_D A [oMo mo ma mh (nI hn) th mk mz mt (nI tn) (nI ax) sc ti pp, aI T ma 266 (wrN al bx i)] → va_S A s.heap H locs → lv_has ls 3 [(2, .int (nI i)), (0, .ref mo), (1, .int bx)] → W p l e rX9_wears s m [.ref mo, .int bx].toArray below meth c H locs 0 0 Q (F0 m 2 ls []) := by
    intro n
    induction n with
    | zero =>
      intro i hi  H locs ls hP hD hS hl
      have hi9 : 26 = i := by omega
      subst hi9
      refine lv_iload_n hx hb dX9_wears_2 rfl (lv_at hl 0 rfl) ?_
      refine lv_bipush (v := 26) hx hb dX9_wears_3 (by decide) ?_
      refine lv_icmp_ge (tgt := 51) hx hb dX9_wears_5 (by decide) (fun _ => ?_) (fun c_x => absurd (by decide : (26 : Int32) ≤ nI 26) c_x)
      exact hret _ _ _ _ _ (fun Qc free hq hf => W.vret hx hb hr hq hf dX9_wears_51 hlk) hP hD hS
    | succ n ih =>
      intro i hi  H locs ls hP hD hS hl
      have hlt : i < 26 := by omega
      refine lv_iload_n hx hb dX9_wears_2 rfl (lv_at hl 0 rfl) ?_
      refine lv_bipush (v := 26) hx hb dX9_wears_3 (by decide) ?_
      refine lv_icmp_ge (tgt := 51) hx hb dX9_wears_5 (by decide) (fun c_x => absurd c_x (nI_ge (b := 26) hlt (by decide))) (fun _ => ?_)
      refine lv_aload_n hx hb dX9_wears_8 rfl (lv_at hl 1 rfl) ?_
      refine va_get (D := D) (ci := 8) (v := .ref ma) (C := RX9) (T := TX9) (N := 12) hx hb hts iX9 hown hC.1 hP 0 rfl rfl 0 (by decide) (hts (.fieldLink RX9 7 "ParrotCountsModel" "all" "[I") (List.mem_of_getElem? (i := 1) rfl)) (fun _ h => h) rfl dX9_wears_9 ?_
      refine lv_bipush (v := 104) hx hb dX9_wears_12 (by decide) ?_
      refine lv_iload_n hx hb dX9_wears_14 rfl (lv_at hl 0 rfl) ?_
      refine lv_iadd hx hb dX9_wears_15 ?_
      refine W.eq (g2 := F0 m 16 ls (.int (nI (104 + i)) :: [.ref ma])) (congrArg (fun z => F0 m 16 ls (.int z :: [.ref ma])) (nI_add 104 i)) ?_
      refine lv_aload_n hx hb dX9_wears_16 rfl (lv_at hl 1 rfl) ?_
      refine va_get (D := D) (ci := 8) (v := .ref ma) (C := RX9) (T := TX9) (N := 12) hx hb hts iX9 hown hC.1 hP 0 rfl rfl 0 (by decide) (hts (.fieldLink RX9 7 "ParrotCountsModel" "all" "[I") (List.mem_of_getElem? (i := 1) rfl)) (fun _ h => h) rfl dX9_wears_17 ?_
      refine lv_bipush (v := 104) hx hb dX9_wears_20 (by decide) ?_
      refine lv_iload_n hx hb dX9_wears_22 rfl (lv_at hl 0 rfl) ?_
      refine lv_iadd hx hb dX9_wears_23 ?_
      refine W.eq (g2 := F0 m 24 ls (.int (nI (104 + i)) :: [.ref ma, .int (nI (104 + i)), .ref ma])) (congrArg (fun z => F0 m 24 ls (.int z :: [.ref ma, .int (nI (104 + i)), .ref ma])) (nI_add 104 i)) ?_
      refine k_iald hx hb hC.1 hP 1 0 rfl rfl (by omega) dX9_wears_24 ?_
      refine lv_iload_n hx hb dX9_wears_25 rfl (lv_at hl 2 rfl) ?_
      refine lv_icmp_le (tgt := 43) hx hb dX9_wears_26 (by decide) (fun c26 => ?_) (fun c26 => ?_)
      · refine lv_iconst (v := 0) hx hb dX9_wears_43 (by decide) ?_
        refine k_iast hx hb hC.1 hP hD hS 1 0 rfl rfl (by omega) dX9_wears_44 (fun H locs hP hD hS => ?_)
        have hP : va_P D vwCl [oMo mo ma mh (nI hn) th mk mz mt (nI tn) (nI ax) sc ti pp, aI T ma 266 (upd (wrN al bx i) (104 + i) 0)] H := hP
        have hD : va_D A [oMo mo ma mh (nI hn) th mk mz mt (nI tn) (nI ax) sc ti pp, aI T ma 266 (upd (wrN al bx i) (104 + i) 0)] := hD
        refine lv_iinc (v := nI (i + 1)) (lv' := [(2, .int (nI (i + 1))), (0, .ref mo), (1, .int bx)]) hx hb dX9_wears_45 hl (k := 0) rfl (nI_1 i) (by decide) rfl (fun ls hl => ?_)
        refine lv_goto (tgt := 2) hx hb dX9_wears_48 (by decide) ?_
        have e_1 : upd (wrN al bx i) (104 + i) 0 = wrN al bx (i + 1) := by first | with_reducible rfl | (simp [wrN, c26]; done)
        have eW := congrArg (fun zZ => ([oMo mo ma mh (nI hn) th mk mz mt (nI tn) (nI ax) sc ti pp, aI T ma 266 zZ] : va_W)) e_1
        have hP : va_P D vwCl [oMo mo ma mh (nI hn) th mk mz mt (nI tn) (nI ax) sc ti pp, aI T ma 266 (wrN al bx (i + 1))] _ := Eq.subst (motive := fun w => va_P D vwCl w _) eW hP
        have hD : va_D A [oMo mo ma mh (nI hn) th mk mz mt (nI tn) (nI ax) sc ti pp, aI T ma 266 (wrN al bx (i + 1))] := Eq.subst (motive := fun w => va_D A w) eW hD
        have hl : lv_has ls 3 [(2, .int (nI (i + 1))), (0, .ref mo), (1, .int bx)] := lv_sub hl [0, 1, 2] (by rfl)
        exact ih (i + 1) (by omega)  _ _ _ hP hD hS hl
      · refine lv_aload_n hx hb dX9_wears_29 rfl (lv_at hl 1 rfl) ?_
        refine va_get (D := D) (ci := 8) (v := .ref ma) (C := RX9) (T := TX9) (N := 12) hx hb hts iX9 hown hC.1 hP 0 rfl rfl 0 (by decide) (hts (.fieldLink RX9 7 "ParrotCountsModel" "all" "[I") (List.mem_of_getElem? (i := 1) rfl)) (fun _ h => h) rfl dX9_wears_30 ?_
        refine lv_bipush (v := 104) hx hb dX9_wears_33 (by decide) ?_
        refine lv_iload_n hx hb dX9_wears_35 rfl (lv_at hl 0 rfl) ?_
        refine lv_iadd hx hb dX9_wears_36 ?_
        refine W.eq (g2 := F0 m 37 ls (.int (nI (104 + i)) :: [.ref ma, .int (nI (104 + i)), .ref ma])) (congrArg (fun z => F0 m 37 ls (.int z :: [.ref ma, .int (nI (104 + i)), .ref ma])) (nI_add 104 i)) ?_
        refine k_iald hx hb hC.1 hP 1 0 rfl rfl (by omega) dX9_wears_37 ?_
        refine lv_iload_n hx hb dX9_wears_38 rfl (lv_at hl 2 rfl) ?_
        refine lv_isub hx hb dX9_wears_39 ?_
        refine lv_goto (tgt := 44) hx hb dX9_wears_40 (by decide) ?_
        refine k_iast hx hb hC.1 hP hD hS 1 0 rfl rfl (by omega) dX9_wears_44 (fun H locs hP hD hS => ?_)
        have hP : va_P D vwCl [oMo mo ma mh (nI hn) th mk mz mt (nI tn) (nI ax) sc ti pp, aI T ma 266 (upd (wrN al bx i) (104 + i) (((wrN al bx i) (104 + i)) - bx))] H := hP
        have hD : va_D A [oMo mo ma mh (nI hn) th mk mz mt (nI tn) (nI ax) sc ti pp, aI T ma 266 (upd (wrN al bx i) (104 + i) (((wrN al bx i) (104 + i)) - bx))] := hD
        refine lv_iinc (v := nI (i + 1)) (lv' := [(2, .int (nI (i + 1))), (0, .ref mo), (1, .int bx)]) hx hb dX9_wears_45 hl (k := 0) rfl (nI_1 i) (by decide) rfl (fun ls hl => ?_)
        refine lv_goto (tgt := 2) hx hb dX9_wears_48 (by decide) ?_
        have e_2 : upd (wrN al bx i) (104 + i) (((wrN al bx i) (104 + i)) - bx) = wrN al bx (i + 1) := by first | with_reducible rfl | (simp [wrN, c26]; done)
        have eW := congrArg (fun zZ => ([oMo mo ma mh (nI hn) th mk mz mt (nI tn) (nI ax) sc ti pp, aI T ma 266 zZ] : va_W)) e_2
        have hP : va_P D vwCl [oMo mo ma mh (nI hn) th mk mz mt (nI tn) (nI ax) sc ti pp, aI T ma 266 (wrN al bx (i + 1))] _ := Eq.subst (motive := fun w => va_P D vwCl w _) eW hP
        have hD : va_D A [oMo mo ma mh (nI hn) th mk mz mt (nI tn) (nI ax) sc ti pp, aI T ma 266 (wrN al bx (i + 1))] := Eq.subst (motive := fun w => va_D A w) eW hD
        have hl : lv_has ls 3 [(2, .int (nI (i + 1))), (0, .ref mo), (1, .int bx)] := lv_sub hl [0, 1, 2] (by rfl)
        exact ih (i + 1) (by omega)  _ _ _ hP hD hS hl
  have hl : lv_has ls 3 [(0, .ref mo), (1, .int bx)] := hl
  have hP : va_P D vwCl [oMo mo ma mh (nI hn) th mk mz mt (nI tn) (nI ax) sc ti pp, aI T ma 266 al] s.heap := hP
  have hD : va_D A [oMo mo ma mh (nI hn) th mk mz mt (nI tn) (nI ax) sc ti pp, aI T ma 266 al] := hD
  refine lv_iconst (v := 0) hx hb dX9_wears_0 (by decide) ?_
  refine lv_istore_n (lv' := [(2, .int 0), (0, .ref mo), (1, .int bx)]) hx hb dX9_wears_1 rfl hl (by decide) rfl (fun ls hl => ?_)
  have e_3 : al = wrN al bx 0 := rfl
  have eW := congrArg (fun zZ => ([oMo mo ma mh (nI hn) th mk mz mt (nI tn) (nI ax) sc ti pp, aI T ma 266 zZ] : va_W)) e_3
  have hP : va_P D vwCl [oMo mo ma mh (nI hn) th mk mz mt (nI tn) (nI ax) sc ti pp, aI T ma 266 (wrN al bx 0)] _ := Eq.subst (motive := fun w => va_P D vwCl w _) eW hP
  have hD : va_D A [oMo mo ma mh (nI hn) th mk mz mt (nI tn) (nI ax) sc ti pp, aI T ma 266 (wrN al bx 0)] := Eq.subst (motive := fun w => va_D A w) eW hD
  have e_4 : (0 : Int32) = nI 0 := rfl
  have hl : lv_has ls 3 [(2, .int (nI 0)), (0, .ref mo), (1, .int bx)] := lv_sub hl [0, 1, 2] (by show (_ : List (Nat × Value)) = [(2, .int (nI 0)), (0, .ref mo), (1, .int bx)]; rw [← e_4]; rfl)
  exact loop_2 26 0 (by omega)  _ _ _ hP hD hS hl
abbrev rX9_callsNow : Room := { frames := 1, cells := 0, slots := 0, locals := 23 }
set_option maxHeartbeats 4000000 in
set_option maxRecDepth 100000 in
theorem c_X9_callsNow (l : Launch) (D : va_G) (T : Nat → ClassId) (mo ma mh mk mz mt : Nat) (al : Nat → Int32) (hn : Nat) (th : Int32) (tn ax : Nat) (sc ti pp : Int32) : kM l D T yX9_callsNow wsX9_callsNow rX9_callsNow [.ref mo] [oMo mo ma mh (nI hn) th mk mz mt (nI tn) (nI ax) sc ti pp, aI T ma 266 al] (some (.int (smN (rwF al 0) 26))) [oMo mo ma mh (nI hn) th mk mz mt (nI tn) (nI ax) sc ti pp, aI T ma 266 al] := by
  refine kM.of (cc := cX9_callsNow) (maxL := 1) (ret := some .int) (by decide) rfl (Nat.le_of_ble_eq_true rfl) ?_
  intro p e s m below meth c A Q ls hx hb hml hown hr hlk hts hC hP hD hS hA hl hret
  have hl : lv_has ls 1 [(0, .ref mo)] := hl
  have hP : va_P D vwCl [oMo mo ma mh (nI hn) th mk mz mt (nI tn) (nI ax) sc ti pp, aI T ma 266 al] s.heap := hP
  have hD : va_D A [oMo mo ma mh (nI hn) th mk mz mt (nI tn) (nI ax) sc ti pp, aI T ma 266 al] := hD
  refine lv_aload_n hx hb dX9_callsNow_0 rfl (lv_at hl 0 rfl) ?_
  refine lv_iconst (v := 0) hx hb dX9_callsNow_1 (by decide) ?_
  have hP := hP.sub (ws' := [oMo mo ma mh (nI hn) th mk mz mt (nI tn) (nI ax) sc ti pp, aI T ma 266 al] ++ []) [0, 1] rfl
  have hD := hD.sub (ws' := [oMo mo ma mh (nI hn) th mk mz mt (nI tn) (nI ax) sc ti pp, aI T ma 266 al] ++ []) [0, 1] (by decide) rfl
  refine kV (ci := 8) (As := [.int 0]) (rest := []) ⟨hx, hb, hml, hown, hts⟩ (c_X9_sum l D T mo ma mh mk mz mt al hn th tn ax sc ti pp 0 (by first | omega | assumption)) (cwV 1 hts gX9_callsNow_X9_sum rfl rfl rfl (by decide +kernel) ⟨Nat.le_of_ble_eq_true rfl, Nat.le_of_ble_eq_true rfl⟩) hC hP hD hS hA rfl rfl rfl hl.1 rfl (Nat.le_of_ble_eq_true rfl) dX9_callsNow_2 ⟨Nat.zero_le _, Nat.zero_le _⟩ (fun H locs hP hD hS => ?_)
  have hP : va_P D vwCl [oMo mo ma mh (nI hn) th mk mz mt (nI tn) (nI ax) sc ti pp, aI T ma 266 al] H := hP
  have hD : va_D A [oMo mo ma mh (nI hn) th mk mz mt (nI tn) (nI ax) sc ti pp, aI T ma 266 al] := hD
  refine W.eq (g2 := F0 m 5 ls [.int (smN (rwF al 0) 26)]) rfl ?_
  exact hret _ _ _ _ _ (fun Qc free hq hf => W.iret hx hb hr hq hf dX9_callsNow_5 hlk) hP hD hS
abbrev rX9_clears : Room := { frames := 0, cells := 0, slots := 0, locals := 0 }
set_option maxHeartbeats 4000000 in
set_option maxRecDepth 100000 in
theorem c_X9_clears (l : Launch) (D : va_G) (T : Nat → ClassId) (mo ma mh mk mz mt : Nat) (al : Nat → Int32) (hn : Nat) (th : Int32) (tn ax : Nat) (sc ti pp : Int32) (fr : Nat) (hfr : fr + 132 ≤ 266) : kM l D T yX9_clears wsX9_clears rX9_clears [.ref mo, .int (nI fr)] [oMo mo ma mh (nI hn) th mk mz mt (nI tn) (nI ax) sc ti pp, aI T ma 266 al] none [oMo mo ma mh (nI hn) th mk mz mt (nI tn) (nI ax) sc ti pp, aI T ma 266 (clN al fr 132)] := by
  refine kM.of (cc := cX9_clears) (maxL := 3) (ret := none) (by decide) rfl (Nat.le_of_ble_eq_true rfl) ?_
  intro p e s m below meth c A Q ls hx hb hml hown hr hlk hts hC hP hD hS hA hl hret
  have iX9 : ∀ w ∈ wsX90, w ∈ wsX9_clears := (fun _ h => List.mem_cons_of_mem _ (List.mem_append_right _ h))
  have loop_2 : ∀ (n i : Nat), i + n = 132 → ∀ (H : Heap) (locs : List Loc) (ls : Array Slot), va_P D vwCl [oMo mo ma mh (nI hn) th mk mz mt (nI tn) (nI ax) sc ti pp, aI T ma 266 (clN al fr i)] H → va_D A [oMo mo ma mh (nI hn) th mk mz mt (nI tn) (nI ax) sc ti pp, aI T ma 266 (clN al fr i)] → va_S A s.heap H locs → lv_has ls 3 [(2, .int (nI i)), (0, .ref mo), (1, .int (nI fr))] → W p l e rX9_clears s m [.ref mo, .int (nI fr)].toArray below meth c H locs 0 0 Q (F0 m 2 ls []) := by
    intro n
    induction n with
    | zero =>
      intro i hi  H locs ls hP hD hS hl
      have hi9 : 132 = i := by omega
      subst hi9
      refine lv_iload_n hx hb dX9_clears_2 rfl (lv_at hl 0 rfl) ?_
      refine lv_sipush (v := 132) hx hb dX9_clears_3 (by decide) ?_
      refine lv_icmp_ge (tgt := 24) hx hb dX9_clears_6 (by decide) (fun _ => ?_) (fun c_x => absurd (by decide : (132 : Int32) ≤ nI 132) c_x)
      exact hret _ _ _ _ _ (fun Qc free hq hf => W.vret hx hb hr hq hf dX9_clears_24 hlk) hP hD hS
    | succ n ih =>
      intro i hi  H locs ls hP hD hS hl
      have hlt : i < 132 := by omega
      refine lv_iload_n hx hb dX9_clears_2 rfl (lv_at hl 0 rfl) ?_
      refine lv_sipush (v := 132) hx hb dX9_clears_3 (by decide) ?_
      refine lv_icmp_ge (tgt := 24) hx hb dX9_clears_6 (by decide) (fun c_x => absurd c_x (nI_ge (b := 132) hlt (by decide))) (fun _ => ?_)
      refine lv_aload_n hx hb dX9_clears_9 rfl (lv_at hl 1 rfl) ?_
      refine va_get (D := D) (ci := 8) (v := .ref ma) (C := RX9) (T := TX9) (N := 12) hx hb hts iX9 hown hC.1 hP 0 rfl rfl 0 (by decide) (hts (.fieldLink RX9 7 "ParrotCountsModel" "all" "[I") (List.mem_of_getElem? (i := 1) rfl)) (fun _ h => h) rfl dX9_clears_10 ?_
      refine lv_iload_n hx hb dX9_clears_13 rfl (lv_at hl 2 rfl) ?_
      refine lv_iload_n hx hb dX9_clears_14 rfl (lv_at hl 0 rfl) ?_
      refine lv_iadd hx hb dX9_clears_15 ?_
      refine W.eq (g2 := F0 m 16 ls (.int (nI (fr + i)) :: [.ref ma])) (congrArg (fun z => F0 m 16 ls (.int z :: [.ref ma])) (nI_add fr i)) ?_
      refine lv_iconst (v := 0) hx hb dX9_clears_16 (by decide) ?_
      refine k_iast hx hb hC.1 hP hD hS 1 0 rfl rfl (by omega) dX9_clears_17 (fun H locs hP hD hS => ?_)
      have hP : va_P D vwCl [oMo mo ma mh (nI hn) th mk mz mt (nI tn) (nI ax) sc ti pp, aI T ma 266 (upd (clN al fr i) (fr + i) 0)] H := hP
      have hD : va_D A [oMo mo ma mh (nI hn) th mk mz mt (nI tn) (nI ax) sc ti pp, aI T ma 266 (upd (clN al fr i) (fr + i) 0)] := hD
      refine lv_iinc (v := nI (i + 1)) (lv' := [(2, .int (nI (i + 1))), (0, .ref mo), (1, .int (nI fr))]) hx hb dX9_clears_18 hl (k := 0) rfl (nI_1 i) (by decide) rfl (fun ls hl => ?_)
      refine lv_goto (tgt := 2) hx hb dX9_clears_21 (by decide) ?_
      have e_1 : upd (clN al fr i) (fr + i) 0 = clN al fr (i + 1) := by rw [clN]
      have eW := congrArg (fun zZ => ([oMo mo ma mh (nI hn) th mk mz mt (nI tn) (nI ax) sc ti pp, aI T ma 266 zZ] : va_W)) e_1
      have hP : va_P D vwCl [oMo mo ma mh (nI hn) th mk mz mt (nI tn) (nI ax) sc ti pp, aI T ma 266 (clN al fr (i + 1))] _ := Eq.subst (motive := fun w => va_P D vwCl w _) eW hP
      have hD : va_D A [oMo mo ma mh (nI hn) th mk mz mt (nI tn) (nI ax) sc ti pp, aI T ma 266 (clN al fr (i + 1))] := Eq.subst (motive := fun w => va_D A w) eW hD
      have hl : lv_has ls 3 [(2, .int (nI (i + 1))), (0, .ref mo), (1, .int (nI fr))] := lv_sub hl [0, 1, 2] (by rfl)
      exact ih (i + 1) (by omega)  _ _ _ hP hD hS hl
  have hl : lv_has ls 3 [(0, .ref mo), (1, .int (nI fr))] := hl
  have hP : va_P D vwCl [oMo mo ma mh (nI hn) th mk mz mt (nI tn) (nI ax) sc ti pp, aI T ma 266 al] s.heap := hP
  have hD : va_D A [oMo mo ma mh (nI hn) th mk mz mt (nI tn) (nI ax) sc ti pp, aI T ma 266 al] := hD
  refine lv_iconst (v := 0) hx hb dX9_clears_0 (by decide) ?_
  refine lv_istore_n (lv' := [(2, .int 0), (0, .ref mo), (1, .int (nI fr))]) hx hb dX9_clears_1 rfl hl (by decide) rfl (fun ls hl => ?_)
  have e_2 : al = clN al fr 0 := rfl
  have eW := congrArg (fun zZ => ([oMo mo ma mh (nI hn) th mk mz mt (nI tn) (nI ax) sc ti pp, aI T ma 266 zZ] : va_W)) e_2
  have hP : va_P D vwCl [oMo mo ma mh (nI hn) th mk mz mt (nI tn) (nI ax) sc ti pp, aI T ma 266 (clN al fr 0)] _ := Eq.subst (motive := fun w => va_P D vwCl w _) eW hP
  have hD : va_D A [oMo mo ma mh (nI hn) th mk mz mt (nI tn) (nI ax) sc ti pp, aI T ma 266 (clN al fr 0)] := Eq.subst (motive := fun w => va_D A w) eW hD
  have e_3 : (0 : Int32) = nI 0 := rfl
  have hl : lv_has ls 3 [(2, .int (nI 0)), (0, .ref mo), (1, .int (nI fr))] := lv_sub hl [0, 1, 2] (by show (_ : List (Nat × Value)) = [(2, .int (nI 0)), (0, .ref mo), (1, .int (nI fr))]; rw [← e_3]; rfl)
  exact loop_2 132 0 (by omega)  _ _ _ hP hD hS hl
abbrev rX9_aheadOf : Room := { frames := 0, cells := 0, slots := 0, locals := 0 }
set_option maxHeartbeats 4000000 in
set_option maxRecDepth 100000 in
theorem c_X9_aheadOf (l : Launch) (D : va_G) (T : Nat → ClassId) (mo ma mh mk mz mt : Nat) (ck : Nat → Int32) (hn : Nat) (th : Int32) (tn ax : Nat) (sc ti pp : Int32) (pa : Nat) (hp : pa < 26) : kM l D T yX9_aheadOf wsX9_aheadOf rX9_aheadOf [.ref mo, .int (nI pa)] [oMo mo ma mh (nI hn) th mk mz mt (nI tn) (nI ax) sc ti pp, aI T mk 26 ck] (some (.int (nI (posN ck pa 26)))) [oMo mo ma mh (nI hn) th mk mz mt (nI tn) (nI ax) sc ti pp, aI T mk 26 ck] := by
  refine kM.of (cc := cX9_aheadOf) (maxL := 4) (ret := some .int) (by decide) rfl (Nat.le_of_ble_eq_true rfl) ?_
  intro p e s m below meth c A Q ls hx hb hml hown hr hlk hts hC hP hD hS hA hl hret
  have iX9 : ∀ w ∈ wsX90, w ∈ wsX9_aheadOf := (fun _ h => List.mem_cons_of_mem _ (List.mem_append_right _ h))
  have loop_4 : ∀ (n i : Nat), i + n = 26 → ∀ (H : Heap) (locs : List Loc) (ls : Array Slot), va_P D vwCl [oMo mo ma mh (nI hn) th mk mz mt (nI tn) (nI ax) sc ti pp, aI T mk 26 ck] H → va_D A [oMo mo ma mh (nI hn) th mk mz mt (nI tn) (nI ax) sc ti pp, aI T mk 26 ck] → va_S A s.heap H locs → lv_has ls 4 [(3, .int (nI i)), (2, .int (nI (posN ck pa i))), (0, .ref mo), (1, .int (nI pa))] → W p l e rX9_aheadOf s m [.ref mo, .int (nI pa)].toArray below meth c H locs 0 0 Q (F0 m 4 ls []) := by
    intro n
    induction n with
    | zero =>
      intro i hi  H locs ls hP hD hS hl
      have hi9 : 26 = i := by omega
      subst hi9
      refine lv_iload_n hx hb dX9_aheadOf_4 rfl (lv_at hl 0 rfl) ?_
      refine lv_bipush (v := 26) hx hb dX9_aheadOf_5 (by decide) ?_
      refine lv_icmp_ge (tgt := 59) hx hb dX9_aheadOf_7 (by decide) (fun _ => ?_) (fun c_x => absurd (by decide : (26 : Int32) ≤ nI 26) c_x)
      refine lv_iload_n hx hb dX9_aheadOf_59 rfl (lv_at hl 1 rfl) ?_
      exact hret _ _ _ _ _ (fun Qc free hq hf => W.iret hx hb hr hq hf dX9_aheadOf_60 hlk) hP hD hS
    | succ n ih =>
      intro i hi  H locs ls hP hD hS hl
      have hlt : i < 26 := by omega
      refine lv_iload_n hx hb dX9_aheadOf_4 rfl (lv_at hl 0 rfl) ?_
      refine lv_bipush (v := 26) hx hb dX9_aheadOf_5 (by decide) ?_
      refine lv_icmp_ge (tgt := 59) hx hb dX9_aheadOf_7 (by decide) (fun c_x => absurd c_x (nI_ge (b := 26) hlt (by decide))) (fun _ => ?_)
      refine lv_iload_n hx hb dX9_aheadOf_10 rfl (lv_at hl 1 rfl) ?_
      refine lv_aload_n hx hb dX9_aheadOf_11 rfl (lv_at hl 2 rfl) ?_
      refine va_get (D := D) (ci := 8) (v := .ref mk) (C := RX9) (T := TX9) (N := 12) hx hb hts iX9 hown hC.1 hP 0 rfl rfl 4 (by decide) (hts (.fieldLink RX9 16 "ParrotCountsModel" "counts" "[I") (List.mem_of_getElem? (i := 1) rfl)) (fun _ h => h) rfl dX9_aheadOf_12 ?_
      refine lv_iload_n hx hb dX9_aheadOf_15 rfl (lv_at hl 0 rfl) ?_
      refine k_iald hx hb hC.1 hP 1 0 rfl rfl (by omega) dX9_aheadOf_16 ?_
      refine lv_aload_n hx hb dX9_aheadOf_17 rfl (lv_at hl 2 rfl) ?_
      refine va_get (D := D) (ci := 8) (v := .ref mk) (C := RX9) (T := TX9) (N := 12) hx hb hts iX9 hown hC.1 hP 0 rfl rfl 4 (by decide) (hts (.fieldLink RX9 16 "ParrotCountsModel" "counts" "[I") (List.mem_of_getElem? (i := 1) rfl)) (fun _ h => h) rfl dX9_aheadOf_18 ?_
      refine lv_iload_n hx hb dX9_aheadOf_21 rfl (lv_at hl 3 rfl) ?_
      refine k_iald hx hb hC.1 hP 1 0 rfl rfl (by omega) dX9_aheadOf_22 ?_
      refine lv_icmp_gt (tgt := 46) hx hb dX9_aheadOf_23 (by decide) (fun c23 => ?_) (fun c23 => ?_)
      · have c23 := Int32.not_le.mpr c23
        refine lv_iconst (v := 1) hx hb dX9_aheadOf_46 (by decide) ?_
        refine lv_goto (tgt := 51) hx hb dX9_aheadOf_47 (by decide) ?_
        refine lv_iadd hx hb dX9_aheadOf_51 ?_
        refine W.eq (g2 := F0 m 52 ls (.int (nI ((posN ck pa i) + 1)) :: [])) (congrArg (fun z => F0 m 52 ls (.int z :: [])) (nI_1 (posN ck pa i))) ?_
        refine lv_istore_n (lv' := [(2, .int (nI ((posN ck pa i) + 1))), (3, .int (nI i)), (0, .ref mo), (1, .int (nI pa))]) hx hb dX9_aheadOf_52 rfl hl (by decide) rfl (fun ls hl => ?_)
        refine lv_iinc (v := nI (i + 1)) (lv' := [(3, .int (nI (i + 1))), (2, .int (nI ((posN ck pa i) + 1))), (0, .ref mo), (1, .int (nI pa))]) hx hb dX9_aheadOf_53 hl (k := 1) rfl (nI_1 i) (by decide) rfl (fun ls hl => ?_)
        refine lv_goto (tgt := 4) hx hb dX9_aheadOf_56 (by decide) ?_
        have e_1 : (nI ((posN ck pa i) + 1) : Int32) = nI (posN ck pa (i + 1)) := by first | with_reducible rfl | (simp [posN, c23]; done)
        have hl : lv_has ls 4 [(3, .int (nI (i + 1))), (2, .int (nI (posN ck pa (i + 1)))), (0, .ref mo), (1, .int (nI pa))] := lv_sub hl [0, 1, 2, 3] (by show (_ : List (Nat × Value)) = [(3, .int (nI (i + 1))), (2, .int (nI (posN ck pa (i + 1)))), (0, .ref mo), (1, .int (nI pa))]; rw [← e_1]; rfl)
        exact ih (i + 1) (by omega)  _ _ _ hP hD hS hl
      · have c23 := Int32.not_lt.mp c23
        refine lv_aload_n hx hb dX9_aheadOf_26 rfl (lv_at hl 2 rfl) ?_
        refine va_get (D := D) (ci := 8) (v := .ref mk) (C := RX9) (T := TX9) (N := 12) hx hb hts iX9 hown hC.1 hP 0 rfl rfl 4 (by decide) (hts (.fieldLink RX9 16 "ParrotCountsModel" "counts" "[I") (List.mem_of_getElem? (i := 1) rfl)) (fun _ h => h) rfl dX9_aheadOf_27 ?_
        refine lv_iload_n hx hb dX9_aheadOf_30 rfl (lv_at hl 0 rfl) ?_
        refine k_iald hx hb hC.1 hP 1 0 rfl rfl (by omega) dX9_aheadOf_31 ?_
        refine lv_aload_n hx hb dX9_aheadOf_32 rfl (lv_at hl 2 rfl) ?_
        refine va_get (D := D) (ci := 8) (v := .ref mk) (C := RX9) (T := TX9) (N := 12) hx hb hts iX9 hown hC.1 hP 0 rfl rfl 4 (by decide) (hts (.fieldLink RX9 16 "ParrotCountsModel" "counts" "[I") (List.mem_of_getElem? (i := 1) rfl)) (fun _ h => h) rfl dX9_aheadOf_33 ?_
        refine lv_iload_n hx hb dX9_aheadOf_36 rfl (lv_at hl 3 rfl) ?_
        refine k_iald hx hb hC.1 hP 1 0 rfl rfl (by omega) dX9_aheadOf_37 ?_
        refine lv_icmp_ne (tgt := 50) hx hb dX9_aheadOf_38 (by decide) (fun c38 => ?_) (fun c38 => ?_)
        · refine lv_iconst (v := 0) hx hb dX9_aheadOf_50 (by decide) ?_
          refine lv_iadd hx hb dX9_aheadOf_51 ?_
          refine W.eq (g2 := F0 m 52 ls (.int (nI (posN ck pa i)) :: [])) (congrArg (fun z => F0 m 52 ls (.int z :: [])) (Int32.add_zero _)) ?_
          refine lv_istore_n (lv' := [(2, .int (nI (posN ck pa i))), (3, .int (nI i)), (0, .ref mo), (1, .int (nI pa))]) hx hb dX9_aheadOf_52 rfl hl (by decide) rfl (fun ls hl => ?_)
          refine lv_iinc (v := nI (i + 1)) (lv' := [(3, .int (nI (i + 1))), (2, .int (nI (posN ck pa i))), (0, .ref mo), (1, .int (nI pa))]) hx hb dX9_aheadOf_53 hl (k := 1) rfl (nI_1 i) (by decide) rfl (fun ls hl => ?_)
          refine lv_goto (tgt := 4) hx hb dX9_aheadOf_56 (by decide) ?_
          have e_2 : (nI (posN ck pa i) : Int32) = nI (posN ck pa (i + 1)) := by first | with_reducible rfl | (simp [posN, c23, c38]; done)
          have hl : lv_has ls 4 [(3, .int (nI (i + 1))), (2, .int (nI (posN ck pa (i + 1)))), (0, .ref mo), (1, .int (nI pa))] := lv_sub hl [0, 1, 2, 3] (by show (_ : List (Nat × Value)) = [(3, .int (nI (i + 1))), (2, .int (nI (posN ck pa (i + 1)))), (0, .ref mo), (1, .int (nI pa))]; rw [← e_2]; rfl)
          exact ih (i + 1) (by omega)  _ _ _ hP hD hS hl
        · refine lv_iload_n hx hb dX9_aheadOf_41 rfl (lv_at hl 0 rfl) ?_
          refine lv_iload_n hx hb dX9_aheadOf_42 rfl (lv_at hl 3 rfl) ?_
          refine lv_icmp_ge (tgt := 50) hx hb dX9_aheadOf_43 (by decide) (fun c43 => ?_) (fun c43 => ?_)
          · refine lv_iconst (v := 0) hx hb dX9_aheadOf_50 (by decide) ?_
            refine lv_iadd hx hb dX9_aheadOf_51 ?_
            refine W.eq (g2 := F0 m 52 ls (.int (nI (posN ck pa i)) :: [])) (congrArg (fun z => F0 m 52 ls (.int z :: [])) (Int32.add_zero _)) ?_
            refine lv_istore_n (lv' := [(2, .int (nI (posN ck pa i))), (3, .int (nI i)), (0, .ref mo), (1, .int (nI pa))]) hx hb dX9_aheadOf_52 rfl hl (by decide) rfl (fun ls hl => ?_)
            refine lv_iinc (v := nI (i + 1)) (lv' := [(3, .int (nI (i + 1))), (2, .int (nI (posN ck pa i))), (0, .ref mo), (1, .int (nI pa))]) hx hb dX9_aheadOf_53 hl (k := 1) rfl (nI_1 i) (by decide) rfl (fun ls hl => ?_)
            refine lv_goto (tgt := 4) hx hb dX9_aheadOf_56 (by decide) ?_
            have e_3 : (nI (posN ck pa i) : Int32) = nI (posN ck pa (i + 1)) := by first | with_reducible rfl | (simp [posN, c23, eq_true c38, c43]; done)
            have hl : lv_has ls 4 [(3, .int (nI (i + 1))), (2, .int (nI (posN ck pa (i + 1)))), (0, .ref mo), (1, .int (nI pa))] := lv_sub hl [0, 1, 2, 3] (by show (_ : List (Nat × Value)) = [(3, .int (nI (i + 1))), (2, .int (nI (posN ck pa (i + 1)))), (0, .ref mo), (1, .int (nI pa))]; rw [← e_3]; rfl)
            exact ih (i + 1) (by omega)  _ _ _ hP hD hS hl
          · refine lv_iconst (v := 1) hx hb dX9_aheadOf_46 (by decide) ?_
            refine lv_goto (tgt := 51) hx hb dX9_aheadOf_47 (by decide) ?_
            refine lv_iadd hx hb dX9_aheadOf_51 ?_
            refine W.eq (g2 := F0 m 52 ls (.int (nI ((posN ck pa i) + 1)) :: [])) (congrArg (fun z => F0 m 52 ls (.int z :: [])) (nI_1 (posN ck pa i))) ?_
            refine lv_istore_n (lv' := [(2, .int (nI ((posN ck pa i) + 1))), (3, .int (nI i)), (0, .ref mo), (1, .int (nI pa))]) hx hb dX9_aheadOf_52 rfl hl (by decide) rfl (fun ls hl => ?_)
            refine lv_iinc (v := nI (i + 1)) (lv' := [(3, .int (nI (i + 1))), (2, .int (nI ((posN ck pa i) + 1))), (0, .ref mo), (1, .int (nI pa))]) hx hb dX9_aheadOf_53 hl (k := 1) rfl (nI_1 i) (by decide) rfl (fun ls hl => ?_)
            refine lv_goto (tgt := 4) hx hb dX9_aheadOf_56 (by decide) ?_
            have e_4 : (nI ((posN ck pa i) + 1) : Int32) = nI (posN ck pa (i + 1)) := by first | with_reducible rfl | (simp [posN, c23, eq_true c38, c43]; done)
            have hl : lv_has ls 4 [(3, .int (nI (i + 1))), (2, .int (nI (posN ck pa (i + 1)))), (0, .ref mo), (1, .int (nI pa))] := lv_sub hl [0, 1, 2, 3] (by show (_ : List (Nat × Value)) = [(3, .int (nI (i + 1))), (2, .int (nI (posN ck pa (i + 1)))), (0, .ref mo), (1, .int (nI pa))]; rw [← e_4]; rfl)
            exact ih (i + 1) (by omega)  _ _ _ hP hD hS hl
  have hl : lv_has ls 4 [(0, .ref mo), (1, .int (nI pa))] := hl
  have hP : va_P D vwCl [oMo mo ma mh (nI hn) th mk mz mt (nI tn) (nI ax) sc ti pp, aI T mk 26 ck] s.heap := hP
  have hD : va_D A [oMo mo ma mh (nI hn) th mk mz mt (nI tn) (nI ax) sc ti pp, aI T mk 26 ck] := hD
  refine lv_iconst (v := 0) hx hb dX9_aheadOf_0 (by decide) ?_
  refine lv_istore_n (lv' := [(2, .int 0), (0, .ref mo), (1, .int (nI pa))]) hx hb dX9_aheadOf_1 rfl hl (by decide) rfl (fun ls hl => ?_)
  refine lv_iconst (v := 0) hx hb dX9_aheadOf_2 (by decide) ?_
  refine lv_istore_n (lv' := [(3, .int 0), (2, .int 0), (0, .ref mo), (1, .int (nI pa))]) hx hb dX9_aheadOf_3 rfl hl (by decide) rfl (fun ls hl => ?_)
  have e_5 : (0 : Int32) = nI 0 := rfl
  have e_6 : (0 : Int32) = nI (posN ck pa 0) := rfl
  have hl : lv_has ls 4 [(3, .int (nI 0)), (2, .int (nI (posN ck pa 0))), (0, .ref mo), (1, .int (nI pa))] := lv_sub hl [0, 1, 2, 3] (by show (_ : List (Nat × Value)) = [(3, .int (nI 0)), (2, .int (nI (posN ck pa 0))), (0, .ref mo), (1, .int (nI pa))]; rw [← e_5, ← e_6]; rfl)
  exact loop_4 26 0 (by omega)  _ _ _ hP hD hS hl
