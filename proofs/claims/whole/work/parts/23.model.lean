def hrB (tx : Nat → Int32) (tn ax : Nat) (lo hi : Int32) : Bool := if nI tn ≤ nI ax then false else inL (tx ax).toInt64 lo.toInt64 hi.toInt64
theorem nI_nle' {a b : Nat} (hb : b < 2147483648) (ha : a < 2147483648) (c : ¬ nI a ≤ nI b) : b < a := by
  rcases Nat.lt_or_ge b a with q | q
  · exact q
  · exact absurd (nI_le q (by omega)) c
theorem hr_lt {tx : Nat → Int32} {tn ax : Nat} {lo hi : Int32} (htn : tn ≤ 60) (hax : ax ≤ 60) (h : hrB tx tn ax lo hi = true) : ax < tn := by
  unfold hrB at h
  by_cases c : nI tn ≤ nI ax
  · rw [if_pos c] at h; cases h
  · exact nI_nle' (by omega) (by omega) c
def rtK (tx : Nat → Int32) (tn ax : Nat) : Bool × Nat × Int32 := if hrB tx tn ax 49 57 then (if hrB tx tn (ax + 1) 48 57 then (decide (¬ 10 * (tx ax - 48) + tx (ax + 1) - 48 ≤ 1), ax + 1 + 1, 10 * (tx ax - 48) + tx (ax + 1) - 48) else (decide (¬ tx ax - 48 ≤ 1), ax + 1, tx ax - 48)) else (true, ax, 1)
theorem rtK_le {tx : Nat → Int32} {tn ax : Nat} (htn : tn ≤ 60) (hax : ax ≤ 60) : (rtK tx tn ax).2.1 ≤ 60 ∧ ax ≤ (rtK tx tn ax).2.1 := by
  unfold rtK
  by_cases h : hrB tx tn ax 49 57 = true
  · have h1 := hr_lt htn hax h
    rw [if_pos h]
    by_cases h2 : hrB tx tn (ax + 1) 48 57 = true
    · have h3 := hr_lt htn (by omega) h2
      rw [if_pos h2]; show ax + 1 + 1 ≤ 60 ∧ ax ≤ ax + 1 + 1; omega
    · rw [if_neg h2]; show ax + 1 ≤ 60 ∧ ax ≤ ax + 1; omega
  · rw [if_neg h]; show ax ≤ 60 ∧ ax ≤ ax; omega
def rpK (tx : Nat → Int32) (tn ax : Nat) (ob : Bool) : Bool × Nat × Int32 × Int32 := if (rtK tx tn ax).1 then (if hrB tx tn (rtK tx tn ax).2.1 97 122 then (true, (rtK tx tn ax).2.1 + 1, (rtK tx tn ax).2.2, tx (rtK tx tn ax).2.1 - 97) else if ob then (if nI (rtK tx tn ax).2.1 ≤ nI ax then (false, (rtK tx tn ax).2.1, (rtK tx tn ax).2.2, -1) else if hrB tx tn (rtK tx tn ax).2.1 40 40 then (true, (rtK tx tn ax).2.1 + 1, (rtK tx tn ax).2.2, -1) else (false, (rtK tx tn ax).2.1, (rtK tx tn ax).2.2, -1)) else (false, (rtK tx tn ax).2.1, (rtK tx tn ax).2.2, -1)) else (false, (rtK tx tn ax).2.1, (rtK tx tn ax).2.2, -1)
theorem rpK_le {tx : Nat → Int32} {tn ax : Nat} {ob : Bool} (htn : tn ≤ 60) (hax : ax ≤ 60) : (rpK tx tn ax ob).2.1 ≤ 60 := by
  have h0 := (rtK_le (tx := tx) htn hax).1
  unfold rpK
  by_cases h1 : (rtK tx tn ax).1 = true
  · rw [if_pos h1]
    by_cases h2 : hrB tx tn (rtK tx tn ax).2.1 97 122 = true
    · have := hr_lt htn h0 h2
      rw [if_pos h2]; show (rtK tx tn ax).2.1 + 1 ≤ 60; omega
    · rw [if_neg h2]
      by_cases h3 : ob = true
      · rw [if_pos h3]
        by_cases h4 : nI (rtK tx tn ax).2.1 ≤ nI ax
        · rw [if_pos h4]; exact h0
        · rw [if_neg h4]
          by_cases h5 : hrB tx tn (rtK tx tn ax).2.1 40 40 = true
          · have := hr_lt htn h0 h5
            rw [if_pos h5]; show (rtK tx tn ax).2.1 + 1 ≤ 60; omega
          · rw [if_neg h5]; exact h0
      · rw [if_neg h3]; exact h0
  · rw [if_neg h1]; exact h0
/-- the reference's reading of a song; md: inside of parentheses, oo times ii calls so far -/
def erX (tx : Nat → Int32) (tn : Nat) : Nat → Bool → Bool → Int32 → Int32 → Nat → Int32 → Int32 → Int32 → Option (Int32 × Nat × Int32 × Int32 × Int32)
  | 0, _, _, _, _, _, _, _, _ => none
  | n + 1, md, b, oo, ii, a, sc, ti, pp => if md then (if (rpK tx tn a false).1 then (if hrB tx tn (rpK tx tn a false).2.1 41 41 then erX tx tn n false false 0 0 ((rpK tx tn a false).2.1 + 1) (sc + oo * (ii + (rpK tx tn a false).2.2.1)) (rpK tx tn a false).2.2.1 (rpK tx tn a false).2.2.2 else erX tx tn n true false oo (ii + (rpK tx tn a false).2.2.1) (rpK tx tn a false).2.1 sc (rpK tx tn a false).2.2.1 (rpK tx tn a false).2.2.2) else some (nI (rpK tx tn a false).2.1, (rpK tx tn a false).2.1, sc, (rpK tx tn a false).2.2.1, (rpK tx tn a false).2.2.2)) else if (if b then false else decide (nI tn ≤ nI a)) then some (-1, a, sc, ti, pp) else if (rpK tx tn a true).1 then (if (rpK tx tn a true).2.2.2 = -1 then erX tx tn n true false (rpK tx tn a true).2.2.1 0 (rpK tx tn a true).2.1 sc (rpK tx tn a true).2.2.1 (rpK tx tn a true).2.2.2 else erX tx tn n false false 0 0 (rpK tx tn a true).2.1 (sc + (rpK tx tn a true).2.2.1) (rpK tx tn a true).2.2.1 (rpK tx tn a true).2.2.2) else some (nI (rpK tx tn a true).2.1, (rpK tx tn a true).2.1, sc, (rpK tx tn a true).2.2.1, (rpK tx tn a true).2.2.2)
abbrev rX9_isHere : Room := { frames := 1, cells := 0, slots := 0, locals := 25 }
set_option maxHeartbeats 4000000 in
set_option maxRecDepth 100000 in
theorem c_X9_isHere (l : Launch) (D : va_G) (T : Nat → ClassId) (mo ma mh mk mz mt : Nat) (tx : Nat → Int32) (hn : Nat) (th : Int32) (tn ax : Nat) (sc ti pp : Int32) (lo hi9 : Int32) (htn : tn ≤ 60) (hax : ax ≤ 60) : kM l D T yX9_isHere wsX9_isHere rX9_isHere [.ref mo, .int lo, .int hi9] [oMo mo ma mh (nI hn) th mk mz mt (nI tn) (nI ax) sc ti pp, aI T mt 60 tx] (some (.int (bI (hrB tx tn ax lo hi9)))) [oMo mo ma mh (nI hn) th mk mz mt (nI tn) (nI ax) sc ti pp, aI T mt 60 tx] := by
  refine kM.of (cc := cX9_isHere) (maxL := 3) (ret := some .boolean) (by decide) rfl (Nat.le_of_ble_eq_true rfl) ?_
  intro p e s m below meth c A Q ls hx hb hml hown hr hlk hts hC hP hD hS hA hl hret
  have iX9 : ∀ w ∈ wsX90, w ∈ wsX9_isHere := (fun _ h => List.mem_cons_of_mem _ (List.mem_append_right _ h))
  have hl : lv_has ls 3 [(0, .ref mo), (1, .int lo), (2, .int hi9)] := hl
  have hP : va_P D vwCl [oMo mo ma mh (nI hn) th mk mz mt (nI tn) (nI ax) sc ti pp, aI T mt 60 tx] s.heap := hP
  have hD : va_D A [oMo mo ma mh (nI hn) th mk mz mt (nI tn) (nI ax) sc ti pp, aI T mt 60 tx] := hD
  refine lv_aload_n hx hb dX9_isHere_0 rfl (lv_at hl 0 rfl) ?_
  refine va_get (D := D) (ci := 8) (v := .int (nI ax)) (C := RX9) (T := TX9) (N := 12) hx hb hts iX9 hown hC.1 hP 0 rfl rfl 8 (by decide) (hts (.fieldLink RX9 109 "ParrotCountsModel" "at" "I") (List.mem_of_getElem? (i := 1) rfl)) (fun _ h => h) rfl dX9_isHere_1 ?_
  refine lv_aload_n hx hb dX9_isHere_4 rfl (lv_at hl 0 rfl) ?_
  refine va_get (D := D) (ci := 8) (v := .int (nI tn)) (C := RX9) (T := TX9) (N := 12) hx hb hts iX9 hown hC.1 hP 0 rfl rfl 7 (by decide) (hts (.fieldLink RX9 106 "ParrotCountsModel" "textLong" "I") (List.mem_of_getElem? (i := 2) rfl)) (fun _ h => h) rfl dX9_isHere_5 ?_
  refine lv_icmp_ge (tgt := 35) hx hb dX9_isHere_8 (by decide) (fun c8 => ?_) (fun c8 => ?_)
  · refine lv_iconst (v := 0) hx hb dX9_isHere_35 (by decide) ?_
    have e_1 : 0 = bI (hrB tx tn ax lo hi9) := by first | with_reducible rfl | (simp [hrB, bI, c8]; done)
    refine W.eq (g2 := F0 m 36 ls [.int (bI (hrB tx tn ax lo hi9))]) (congrArg (fun z => F0 m 36 ls [.int z]) e_1) ?_
    exact hret _ _ _ _ _ (fun Qc free hq hf => W.zret hx hb hr (bI_nar _) hq hf dX9_isHere_36 hlk) hP hD hS
  · refine lv_aload_n hx hb dX9_isHere_11 rfl (lv_at hl 0 rfl) ?_
    refine va_get (D := D) (ci := 8) (v := .ref mt) (C := RX9) (T := TX9) (N := 12) hx hb hts iX9 hown hC.1 hP 0 rfl rfl 6 (by decide) (hts (.fieldLink RX9 22 "ParrotCountsModel" "text" "[I") (List.mem_of_getElem? (i := 3) rfl)) (fun _ h => h) rfl dX9_isHere_12 ?_
    refine lv_aload_n hx hb dX9_isHere_15 rfl (lv_at hl 0 rfl) ?_
    refine va_get (D := D) (ci := 8) (v := .int (nI ax)) (C := RX9) (T := TX9) (N := 12) hx hb hts iX9 hown hC.1 hP 0 rfl rfl 8 (by decide) (hts (.fieldLink RX9 109 "ParrotCountsModel" "at" "I") (List.mem_of_getElem? (i := 1) rfl)) (fun _ h => h) rfl dX9_isHere_16 ?_
    refine k_iald hx hb hC.1 hP 1 0 rfl rfl (by have := nI_nle' (by omega) (by omega) c8; omega) dX9_isHere_19 ?_
    refine lv_i2l (v := (tx ax).toInt64) hx hb dX9_isHere_20 rfl ?_
    refine lv_iload_n hx hb dX9_isHere_21 rfl (lv_at hl 1 rfl) ?_
    refine lv_i2l (v := lo.toInt64) hx hb dX9_isHere_22 rfl ?_
    refine lv_iload_n hx hb dX9_isHere_23 rfl (lv_at hl 2 rfl) ?_
    refine lv_i2l (v := hi9.toInt64) hx hb dX9_isHere_24 rfl ?_
    have hP := hP.sub (ws' := [] ++ [oMo mo ma mh (nI hn) th mk mz mt (nI tn) (nI ax) sc ti pp, aI T mt 60 tx]) [0, 1] rfl
    have hD := hD.sub (ws' := [] ++ [oMo mo ma mh (nI hn) th mk mz mt (nI tn) (nI ax) sc ti pp, aI T mt 60 tx]) [0, 1] (by decide) rfl
    refine kS (As := [.long (tx ax).toInt64, .long lo.toInt64, .long hi9.toInt64]) (rest := []) ⟨hx, hb, hml, hown, hts⟩ (c_X9_in l D T (tx ax).toInt64 lo.toInt64 hi9.toInt64 ) (va_cwS 3 hts gX9_isHere_X9_in rfl rfl rfl (by decide +kernel) ⟨Nat.le_of_ble_eq_true rfl, Nat.le_of_ble_eq_true rfl⟩) hC hP hD hS hA rfl hl.1 rfl (Nat.le_of_ble_eq_true rfl) dX9_isHere_25 ⟨Nat.zero_le _, Nat.zero_le _⟩ (fun H locs hP hD hS => ?_)
    have hP : va_P D vwCl [oMo mo ma mh (nI hn) th mk mz mt (nI tn) (nI ax) sc ti pp, aI T mt 60 tx] H := hP
    have hD : va_D A [oMo mo ma mh (nI hn) th mk mz mt (nI tn) (nI ax) sc ti pp, aI T mt 60 tx] := hD
    refine W.eq (g2 := F0 m 28 ls [.int (bI (inL (tx ax).toInt64 lo.toInt64 hi9.toInt64))]) rfl ?_
    refine lv_if_eq (tgt := 35) hx hb dX9_isHere_28 (by decide) (fun c28 => ?_) (fun c28 => ?_)
    · have c28 := (bI0 _).mp c28
      refine lv_iconst (v := 0) hx hb dX9_isHere_35 (by decide) ?_
      have e_2 : 0 = bI (hrB tx tn ax lo hi9) := by first | with_reducible rfl | (simp [hrB, bI, c8, c28]; done)
      refine W.eq (g2 := F0 m 36 ls [.int (bI (hrB tx tn ax lo hi9))]) (congrArg (fun z => F0 m 36 ls [.int z]) e_2) ?_
      exact hret _ _ _ _ _ (fun Qc free hq hf => W.zret hx hb hr (bI_nar _) hq hf dX9_isHere_36 hlk) hP hD hS
    · have c28 := (bI0n _).mp c28
      refine lv_iconst (v := 1) hx hb dX9_isHere_31 (by decide) ?_
      refine lv_goto (tgt := 36) hx hb dX9_isHere_32 (by decide) ?_
      have e_3 : 1 = bI (hrB tx tn ax lo hi9) := by first | with_reducible rfl | (simp [hrB, bI, c8, c28]; done)
      refine W.eq (g2 := F0 m 36 ls [.int (bI (hrB tx tn ax lo hi9))]) (congrArg (fun z => F0 m 36 ls [.int z]) e_3) ?_
      exact hret _ _ _ _ _ (fun Qc free hq hf => W.zret hx hb hr (bI_nar _) hq hf dX9_isHere_36 hlk) hP hD hS
abbrev rX9_readsTimes : Room := { frames := 2, cells := 0, slots := 0, locals := 47 }
set_option maxHeartbeats 4000000 in
set_option maxRecDepth 100000 in
theorem c_X9_readsTimes (l : Launch) (D : va_G) (T : Nat → ClassId) (mo ma mh mk mz mt : Nat) (tx : Nat → Int32) (hn : Nat) (th : Int32) (tn ax : Nat) (sc ti pp : Int32) (htn : tn ≤ 60) (hax : ax ≤ 60) : kM l D T yX9_readsTimes wsX9_readsTimes rX9_readsTimes [.ref mo] [oMo mo ma mh (nI hn) th mk mz mt (nI tn) (nI ax) sc ti pp, aI T mt 60 tx] (some (.int (bI (rtK tx tn ax).1))) [oMo mo ma mh (nI hn) th mk mz mt (nI tn) (nI (rtK tx tn ax).2.1) sc (rtK tx tn ax).2.2 pp, aI T mt 60 tx] := by
  refine kM.of (cc := cX9_readsTimes) (maxL := 1) (ret := some .boolean) (by decide) rfl (Nat.le_of_ble_eq_true rfl) ?_
  intro p e s m below meth c A Q ls hx hb hml hown hr hlk hts hC hP hD hS hA hl hret
  have iX9 : ∀ w ∈ wsX90, w ∈ wsX9_readsTimes := (fun _ h => List.mem_cons_of_mem _ (List.mem_append_right _ h))
  have hl : lv_has ls 1 [(0, .ref mo)] := hl
  have hP : va_P D vwCl [oMo mo ma mh (nI hn) th mk mz mt (nI tn) (nI ax) sc ti pp, aI T mt 60 tx] s.heap := hP
  have hD : va_D A [oMo mo ma mh (nI hn) th mk mz mt (nI tn) (nI ax) sc ti pp, aI T mt 60 tx] := hD
  refine lv_aload_n hx hb dX9_readsTimes_0 rfl (lv_at hl 0 rfl) ?_
  refine lv_iconst (v := 1) hx hb dX9_readsTimes_1 (by decide) ?_
  refine va_put (D := D) (ci := 8) (v := .int 1) (ty := .int) (C := RX9) (T := TX9) (N := 12) hx hb hts iX9 tyX9 tyX9_ok nmX9 hown hC.1 hP hD hS 0 rfl rfl 10 (by decide) (hts (.fieldLink RX9 112 "ParrotCountsModel" "times" "I") (List.mem_of_getElem? (i := 1) rfl)) (fun _ h9 => h9) rfl (by decide +kernel) rfl rfl (Nat.le_of_ble_eq_true rfl) dX9_readsTimes_2 (fun H locs hP hD hS => ?_)
  have hP : va_P D vwCl [oMo mo ma mh (nI hn) th mk mz mt (nI tn) (nI ax) sc 1 pp, aI T mt 60 tx] H := hP
  have hD : va_D A [oMo mo ma mh (nI hn) th mk mz mt (nI tn) (nI ax) sc 1 pp, aI T mt 60 tx] := hD
  refine lv_aload_n hx hb dX9_readsTimes_5 rfl (lv_at hl 0 rfl) ?_
  refine lv_bipush (v := 49) hx hb dX9_readsTimes_6 (by decide) ?_
  refine lv_bipush (v := 57) hx hb dX9_readsTimes_8 (by decide) ?_
  have hP := hP.sub (ws' := [oMo mo ma mh (nI hn) th mk mz mt (nI tn) (nI ax) sc 1 pp, aI T mt 60 tx] ++ []) [0, 1] rfl
  have hD := hD.sub (ws' := [oMo mo ma mh (nI hn) th mk mz mt (nI tn) (nI ax) sc 1 pp, aI T mt 60 tx] ++ []) [0, 1] (by decide) rfl
  refine kV (ci := 8) (As := [.int 49, .int 57]) (rest := []) ⟨hx, hb, hml, hown, hts⟩ (c_X9_isHere l D T mo ma mh mk mz mt tx hn th tn ax sc 1 pp 49 57 (by first | omega | assumption) (by first | omega | assumption)) (cwV 2 hts gX9_readsTimes_X9_isHere rfl rfl rfl (by decide +kernel) ⟨Nat.le_of_ble_eq_true rfl, Nat.le_of_ble_eq_true rfl⟩) hC hP hD hS hA rfl rfl rfl hl.1 rfl (Nat.le_of_ble_eq_true rfl) dX9_readsTimes_10 ⟨Nat.zero_le _, Nat.zero_le _⟩ (fun H locs hP hD hS => ?_)
  have hP : va_P D vwCl [oMo mo ma mh (nI hn) th mk mz mt (nI tn) (nI ax) sc 1 pp, aI T mt 60 tx] H := hP
  have hD : va_D A [oMo mo ma mh (nI hn) th mk mz mt (nI tn) (nI ax) sc 1 pp, aI T mt 60 tx] := hD
  refine W.eq (g2 := F0 m 13 ls [.int (bI (hrB tx tn ax 49 57))]) rfl ?_
  refine lv_if_ne (tgt := 18) hx hb dX9_readsTimes_13 (by decide) (fun c13 => ?_) (fun c13 => ?_)
  · have c13 := (bI0n _).mp c13
    refine lv_aload_n hx hb dX9_readsTimes_18 rfl (lv_at hl 0 rfl) ?_
    refine lv_aload_n hx hb dX9_readsTimes_19 rfl (lv_at hl 0 rfl) ?_
    refine va_get (D := D) (ci := 8) (v := .ref mt) (C := RX9) (T := TX9) (N := 12) hx hb hts iX9 hown hC.1 hP 0 rfl rfl 6 (by decide) (hts (.fieldLink RX9 22 "ParrotCountsModel" "text" "[I") (List.mem_of_getElem? (i := 2) rfl)) (fun _ h => h) rfl dX9_readsTimes_20 ?_
    refine lv_aload_n hx hb dX9_readsTimes_23 rfl (lv_at hl 0 rfl) ?_
    refine va_get (D := D) (ci := 8) (v := .int (nI ax)) (C := RX9) (T := TX9) (N := 12) hx hb hts iX9 hown hC.1 hP 0 rfl rfl 8 (by decide) (hts (.fieldLink RX9 109 "ParrotCountsModel" "at" "I") (List.mem_of_getElem? (i := 3) rfl)) (fun _ h => h) rfl dX9_readsTimes_24 ?_
    refine k_iald hx hb hC.1 hP 1 0 rfl rfl (by have := hr_lt htn hax c13; omega) dX9_readsTimes_27 ?_
    refine lv_bipush (v := 48) hx hb dX9_readsTimes_28 (by decide) ?_
    refine lv_isub hx hb dX9_readsTimes_30 ?_
    refine va_put (D := D) (ci := 8) (v := .int ((tx ax) - 48)) (ty := .int) (C := RX9) (T := TX9) (N := 12) hx hb hts iX9 tyX9 tyX9_ok nmX9 hown hC.1 hP hD hS 0 rfl rfl 10 (by decide) (hts (.fieldLink RX9 112 "ParrotCountsModel" "times" "I") (List.mem_of_getElem? (i := 1) rfl)) (fun _ h9 => h9) rfl (by decide +kernel) rfl rfl (Nat.le_of_ble_eq_true rfl) dX9_readsTimes_31 (fun H locs hP hD hS => ?_)
    have hP : va_P D vwCl [oMo mo ma mh (nI hn) th mk mz mt (nI tn) (nI ax) sc ((tx ax) - 48) pp, aI T mt 60 tx] H := hP
    have hD : va_D A [oMo mo ma mh (nI hn) th mk mz mt (nI tn) (nI ax) sc ((tx ax) - 48) pp, aI T mt 60 tx] := hD
    refine lv_aload_n hx hb dX9_readsTimes_34 rfl (lv_at hl 0 rfl) ?_
    refine lv_dup hx hb dX9_readsTimes_35 rfl ?_
    refine va_get (D := D) (ci := 8) (v := .int (nI ax)) (C := RX9) (T := TX9) (N := 12) hx hb hts iX9 hown hC.1 hP 0 rfl rfl 8 (by decide) (hts (.fieldLink RX9 109 "ParrotCountsModel" "at" "I") (List.mem_of_getElem? (i := 3) rfl)) (fun _ h => h) rfl dX9_readsTimes_36 ?_
    refine lv_iconst (v := 1) hx hb dX9_readsTimes_39 (by decide) ?_
    refine lv_iadd hx hb dX9_readsTimes_40 ?_
    refine W.eq (g2 := F0 m 41 ls (.int (nI (ax + 1)) :: [.ref mo])) (congrArg (fun z => F0 m 41 ls (.int z :: [.ref mo])) (nI_1 ax)) ?_
    refine va_put (D := D) (ci := 8) (v := .int (nI (ax + 1))) (ty := .int) (C := RX9) (T := TX9) (N := 12) hx hb hts iX9 tyX9 tyX9_ok nmX9 hown hC.1 hP hD hS 0 rfl rfl 8 (by decide) (hts (.fieldLink RX9 109 "ParrotCountsModel" "at" "I") (List.mem_of_getElem? (i := 3) rfl)) (fun _ h9 => h9) rfl (by decide +kernel) rfl rfl (Nat.le_of_ble_eq_true rfl) dX9_readsTimes_41 (fun H locs hP hD hS => ?_)
    have hP : va_P D vwCl [oMo mo ma mh (nI hn) th mk mz mt (nI tn) (nI (ax + 1)) sc ((tx ax) - 48) pp, aI T mt 60 tx] H := hP
    have hD : va_D A [oMo mo ma mh (nI hn) th mk mz mt (nI tn) (nI (ax + 1)) sc ((tx ax) - 48) pp, aI T mt 60 tx] := hD
    refine lv_aload_n hx hb dX9_readsTimes_44 rfl (lv_at hl 0 rfl) ?_
    refine lv_bipush (v := 48) hx hb dX9_readsTimes_45 (by decide) ?_
    refine lv_bipush (v := 57) hx hb dX9_readsTimes_47 (by decide) ?_
    have hP := hP.sub (ws' := [oMo mo ma mh (nI hn) th mk mz mt (nI tn) (nI (ax + 1)) sc ((tx ax) - 48) pp, aI T mt 60 tx] ++ []) [0, 1] rfl
    have hD := hD.sub (ws' := [oMo mo ma mh (nI hn) th mk mz mt (nI tn) (nI (ax + 1)) sc ((tx ax) - 48) pp, aI T mt 60 tx] ++ []) [0, 1] (by decide) rfl
    refine kV (ci := 8) (As := [.int 48, .int 57]) (rest := []) ⟨hx, hb, hml, hown, hts⟩ (c_X9_isHere l D T mo ma mh mk mz mt tx hn th tn (ax + 1) sc ((tx ax) - 48) pp 48 57 (by first | omega | assumption) (by have := hr_lt htn hax c13; omega)) (cwV 2 hts gX9_readsTimes_X9_isHere rfl rfl rfl (by decide +kernel) ⟨Nat.le_of_ble_eq_true rfl, Nat.le_of_ble_eq_true rfl⟩) hC hP hD hS hA rfl rfl rfl hl.1 rfl (Nat.le_of_ble_eq_true rfl) dX9_readsTimes_49 ⟨Nat.zero_le _, Nat.zero_le _⟩ (fun H locs hP hD hS => ?_)
    have hP : va_P D vwCl [oMo mo ma mh (nI hn) th mk mz mt (nI tn) (nI (ax + 1)) sc ((tx ax) - 48) pp, aI T mt 60 tx] H := hP
    have hD : va_D A [oMo mo ma mh (nI hn) th mk mz mt (nI tn) (nI (ax + 1)) sc ((tx ax) - 48) pp, aI T mt 60 tx] := hD
    refine W.eq (g2 := F0 m 52 ls [.int (bI (hrB tx tn (ax + 1) 48 57))]) rfl ?_
    refine lv_if_eq (tgt := 89) hx hb dX9_readsTimes_52 (by decide) (fun c52 => ?_) (fun c52 => ?_)
    · have c52 := (bI0 _).mp c52
      refine lv_aload_n hx hb dX9_readsTimes_89 rfl (lv_at hl 0 rfl) ?_
      refine va_get (D := D) (ci := 8) (v := .int ((tx ax) - 48)) (C := RX9) (T := TX9) (N := 12) hx hb hts iX9 hown hC.1 hP 0 rfl rfl 10 (by decide) (hts (.fieldLink RX9 112 "ParrotCountsModel" "times" "I") (List.mem_of_getElem? (i := 1) rfl)) (fun _ h => h) rfl dX9_readsTimes_90 ?_
      refine lv_iconst (v := 1) hx hb dX9_readsTimes_93 (by decide) ?_
      refine lv_icmp_le (tgt := 101) hx hb dX9_readsTimes_94 (by decide) (fun c94 => ?_) (fun c94 => ?_)
      · refine lv_iconst (v := 0) hx hb dX9_readsTimes_101 (by decide) ?_
        have e_1 : nI (ax + 1) = nI (rtK tx tn ax).2.1 := by first | with_reducible rfl | (simp [rtK, bI, c13, c52, c94]; done)
        have e_2 : ((tx ax) - 48) = (rtK tx tn ax).2.2 := by first | with_reducible rfl | (simp [rtK, bI, c13, c52, c94]; done)
        have eW := (congrArg (fun zZ => ([oMo mo ma mh (nI hn) th mk mz mt (nI tn) zZ sc ((tx ax) - 48) pp, aI T mt 60 tx] : va_W)) e_1).trans (congrArg (fun zZ => ([oMo mo ma mh (nI hn) th mk mz mt (nI tn) (nI (rtK tx tn ax).2.1) sc zZ pp, aI T mt 60 tx] : va_W)) e_2)
        have hP : va_P D vwCl [oMo mo ma mh (nI hn) th mk mz mt (nI tn) (nI (rtK tx tn ax).2.1) sc (rtK tx tn ax).2.2 pp, aI T mt 60 tx] _ := Eq.subst (motive := fun w => va_P D vwCl w _) eW hP
        have hD : va_D A [oMo mo ma mh (nI hn) th mk mz mt (nI tn) (nI (rtK tx tn ax).2.1) sc (rtK tx tn ax).2.2 pp, aI T mt 60 tx] := Eq.subst (motive := fun w => va_D A w) eW hD
        have e_3 : 0 = bI (rtK tx tn ax).1 := by first | with_reducible rfl | (simp [rtK, bI, c13, c52, c94]; done)
        refine W.eq (g2 := F0 m 102 ls [.int (bI (rtK tx tn ax).1)]) (congrArg (fun z => F0 m 102 ls [.int z]) e_3) ?_
        exact hret _ _ _ _ _ (fun Qc free hq hf => W.zret hx hb hr (bI_nar _) hq hf dX9_readsTimes_102 hlk) hP hD hS
      · refine lv_iconst (v := 1) hx hb dX9_readsTimes_97 (by decide) ?_
        refine lv_goto (tgt := 102) hx hb dX9_readsTimes_98 (by decide) ?_
        have e_4 : nI (ax + 1) = nI (rtK tx tn ax).2.1 := by first | with_reducible rfl | (simp [rtK, bI, c13, c52, c94]; done)
        have e_5 : ((tx ax) - 48) = (rtK tx tn ax).2.2 := by first | with_reducible rfl | (simp [rtK, bI, c13, c52, c94]; done)
        have eW := (congrArg (fun zZ => ([oMo mo ma mh (nI hn) th mk mz mt (nI tn) zZ sc ((tx ax) - 48) pp, aI T mt 60 tx] : va_W)) e_4).trans (congrArg (fun zZ => ([oMo mo ma mh (nI hn) th mk mz mt (nI tn) (nI (rtK tx tn ax).2.1) sc zZ pp, aI T mt 60 tx] : va_W)) e_5)
        have hP : va_P D vwCl [oMo mo ma mh (nI hn) th mk mz mt (nI tn) (nI (rtK tx tn ax).2.1) sc (rtK tx tn ax).2.2 pp, aI T mt 60 tx] _ := Eq.subst (motive := fun w => va_P D vwCl w _) eW hP
        have hD : va_D A [oMo mo ma mh (nI hn) th mk mz mt (nI tn) (nI (rtK tx tn ax).2.1) sc (rtK tx tn ax).2.2 pp, aI T mt 60 tx] := Eq.subst (motive := fun w => va_D A w) eW hD
        have e_6 : 1 = bI (rtK tx tn ax).1 := by first | with_reducible rfl | (simp [rtK, bI, c13, c52, c94]; done)
        refine W.eq (g2 := F0 m 102 ls [.int (bI (rtK tx tn ax).1)]) (congrArg (fun z => F0 m 102 ls [.int z]) e_6) ?_
        exact hret _ _ _ _ _ (fun Qc free hq hf => W.zret hx hb hr (bI_nar _) hq hf dX9_readsTimes_102 hlk) hP hD hS
    · have c52 := (bI0n _).mp c52
      refine lv_aload_n hx hb dX9_readsTimes_55 rfl (lv_at hl 0 rfl) ?_
      refine lv_bipush (v := 10) hx hb dX9_readsTimes_56 (by decide) ?_
      refine lv_aload_n hx hb dX9_readsTimes_58 rfl (lv_at hl 0 rfl) ?_
      refine va_get (D := D) (ci := 8) (v := .int ((tx ax) - 48)) (C := RX9) (T := TX9) (N := 12) hx hb hts iX9 hown hC.1 hP 0 rfl rfl 10 (by decide) (hts (.fieldLink RX9 112 "ParrotCountsModel" "times" "I") (List.mem_of_getElem? (i := 1) rfl)) (fun _ h => h) rfl dX9_readsTimes_59 ?_
      refine lv_imul hx hb dX9_readsTimes_62 ?_
      refine lv_aload_n hx hb dX9_readsTimes_63 rfl (lv_at hl 0 rfl) ?_
      refine va_get (D := D) (ci := 8) (v := .ref mt) (C := RX9) (T := TX9) (N := 12) hx hb hts iX9 hown hC.1 hP 0 rfl rfl 6 (by decide) (hts (.fieldLink RX9 22 "ParrotCountsModel" "text" "[I") (List.mem_of_getElem? (i := 2) rfl)) (fun _ h => h) rfl dX9_readsTimes_64 ?_
      refine lv_aload_n hx hb dX9_readsTimes_67 rfl (lv_at hl 0 rfl) ?_
      refine va_get (D := D) (ci := 8) (v := .int (nI (ax + 1))) (C := RX9) (T := TX9) (N := 12) hx hb hts iX9 hown hC.1 hP 0 rfl rfl 8 (by decide) (hts (.fieldLink RX9 109 "ParrotCountsModel" "at" "I") (List.mem_of_getElem? (i := 3) rfl)) (fun _ h => h) rfl dX9_readsTimes_68 ?_
      refine k_iald hx hb hC.1 hP 1 0 rfl rfl (by have h1 := hr_lt htn hax c13; have h2 := hr_lt htn (by omega) c52; omega) dX9_readsTimes_71 ?_
      refine lv_iadd hx hb dX9_readsTimes_72 ?_
      refine lv_bipush (v := 48) hx hb dX9_readsTimes_73 (by decide) ?_
      refine lv_isub hx hb dX9_readsTimes_75 ?_
      refine va_put (D := D) (ci := 8) (v := .int (((10 * ((tx ax) - 48)) + (tx (ax + 1))) - 48)) (ty := .int) (C := RX9) (T := TX9) (N := 12) hx hb hts iX9 tyX9 tyX9_ok nmX9 hown hC.1 hP hD hS 0 rfl rfl 10 (by decide) (hts (.fieldLink RX9 112 "ParrotCountsModel" "times" "I") (List.mem_of_getElem? (i := 1) rfl)) (fun _ h9 => h9) rfl (by decide +kernel) rfl rfl (Nat.le_of_ble_eq_true rfl) dX9_readsTimes_76 (fun H locs hP hD hS => ?_)
      have hP : va_P D vwCl [oMo mo ma mh (nI hn) th mk mz mt (nI tn) (nI (ax + 1)) sc (((10 * ((tx ax) - 48)) + (tx (ax + 1))) - 48) pp, aI T mt 60 tx] H := hP
      have hD : va_D A [oMo mo ma mh (nI hn) th mk mz mt (nI tn) (nI (ax + 1)) sc (((10 * ((tx ax) - 48)) + (tx (ax + 1))) - 48) pp, aI T mt 60 tx] := hD
      refine lv_aload_n hx hb dX9_readsTimes_79 rfl (lv_at hl 0 rfl) ?_
      refine lv_dup hx hb dX9_readsTimes_80 rfl ?_
      refine va_get (D := D) (ci := 8) (v := .int (nI (ax + 1))) (C := RX9) (T := TX9) (N := 12) hx hb hts iX9 hown hC.1 hP 0 rfl rfl 8 (by decide) (hts (.fieldLink RX9 109 "ParrotCountsModel" "at" "I") (List.mem_of_getElem? (i := 3) rfl)) (fun _ h => h) rfl dX9_readsTimes_81 ?_
      refine lv_iconst (v := 1) hx hb dX9_readsTimes_84 (by decide) ?_
      refine lv_iadd hx hb dX9_readsTimes_85 ?_
      refine W.eq (g2 := F0 m 86 ls (.int (nI ((ax + 1) + 1)) :: [.ref mo])) (congrArg (fun z => F0 m 86 ls (.int z :: [.ref mo])) (nI_1 (ax + 1))) ?_
      refine va_put (D := D) (ci := 8) (v := .int (nI ((ax + 1) + 1))) (ty := .int) (C := RX9) (T := TX9) (N := 12) hx hb hts iX9 tyX9 tyX9_ok nmX9 hown hC.1 hP hD hS 0 rfl rfl 8 (by decide) (hts (.fieldLink RX9 109 "ParrotCountsModel" "at" "I") (List.mem_of_getElem? (i := 3) rfl)) (fun _ h9 => h9) rfl (by decide +kernel) rfl rfl (Nat.le_of_ble_eq_true rfl) dX9_readsTimes_86 (fun H locs hP hD hS => ?_)
      have hP : va_P D vwCl [oMo mo ma mh (nI hn) th mk mz mt (nI tn) (nI ((ax + 1) + 1)) sc (((10 * ((tx ax) - 48)) + (tx (ax + 1))) - 48) pp, aI T mt 60 tx] H := hP
      have hD : va_D A [oMo mo ma mh (nI hn) th mk mz mt (nI tn) (nI ((ax + 1) + 1)) sc (((10 * ((tx ax) - 48)) + (tx (ax + 1))) - 48) pp, aI T mt 60 tx] := hD
      refine lv_aload_n hx hb dX9_readsTimes_89 rfl (lv_at hl 0 rfl) ?_
      refine va_get (D := D) (ci := 8) (v := .int (((10 * ((tx ax) - 48)) + (tx (ax + 1))) - 48)) (C := RX9) (T := TX9) (N := 12) hx hb hts iX9 hown hC.1 hP 0 rfl rfl 10 (by decide) (hts (.fieldLink RX9 112 "ParrotCountsModel" "times" "I") (List.mem_of_getElem? (i := 1) rfl)) (fun _ h => h) rfl dX9_readsTimes_90 ?_
      refine lv_iconst (v := 1) hx hb dX9_readsTimes_93 (by decide) ?_
      refine lv_icmp_le (tgt := 101) hx hb dX9_readsTimes_94 (by decide) (fun c94 => ?_) (fun c94 => ?_)
      · refine lv_iconst (v := 0) hx hb dX9_readsTimes_101 (by decide) ?_
        have e_7 : nI ((ax + 1) + 1) = nI (rtK tx tn ax).2.1 := by first | with_reducible rfl | (simp [rtK, bI, c13, c52, c94]; done)
        have e_8 : ((10 * ((tx ax) - 48)) + (tx (ax + 1))) - 48 = (rtK tx tn ax).2.2 := by first | with_reducible rfl | (simp [rtK, bI, c13, c52, c94]; done)
        have eW := (congrArg (fun zZ => ([oMo mo ma mh (nI hn) th mk mz mt (nI tn) zZ sc (((10 * ((tx ax) - 48)) + (tx (ax + 1))) - 48) pp, aI T mt 60 tx] : va_W)) e_7).trans (congrArg (fun zZ => ([oMo mo ma mh (nI hn) th mk mz mt (nI tn) (nI (rtK tx tn ax).2.1) sc zZ pp, aI T mt 60 tx] : va_W)) e_8)
        have hP : va_P D vwCl [oMo mo ma mh (nI hn) th mk mz mt (nI tn) (nI (rtK tx tn ax).2.1) sc (rtK tx tn ax).2.2 pp, aI T mt 60 tx] _ := Eq.subst (motive := fun w => va_P D vwCl w _) eW hP
        have hD : va_D A [oMo mo ma mh (nI hn) th mk mz mt (nI tn) (nI (rtK tx tn ax).2.1) sc (rtK tx tn ax).2.2 pp, aI T mt 60 tx] := Eq.subst (motive := fun w => va_D A w) eW hD
        have e_9 : 0 = bI (rtK tx tn ax).1 := by first | with_reducible rfl | (simp [rtK, bI, c13, c52, c94]; done)
        refine W.eq (g2 := F0 m 102 ls [.int (bI (rtK tx tn ax).1)]) (congrArg (fun z => F0 m 102 ls [.int z]) e_9) ?_
        exact hret _ _ _ _ _ (fun Qc free hq hf => W.zret hx hb hr (bI_nar _) hq hf dX9_readsTimes_102 hlk) hP hD hS
      · refine lv_iconst (v := 1) hx hb dX9_readsTimes_97 (by decide) ?_
        refine lv_goto (tgt := 102) hx hb dX9_readsTimes_98 (by decide) ?_
        have e_10 : nI ((ax + 1) + 1) = nI (rtK tx tn ax).2.1 := by first | with_reducible rfl | (simp [rtK, bI, c13, c52, c94]; done)
        have e_11 : ((10 * ((tx ax) - 48)) + (tx (ax + 1))) - 48 = (rtK tx tn ax).2.2 := by first | with_reducible rfl | (simp [rtK, bI, c13, c52, c94]; done)
        have eW := (congrArg (fun zZ => ([oMo mo ma mh (nI hn) th mk mz mt (nI tn) zZ sc (((10 * ((tx ax) - 48)) + (tx (ax + 1))) - 48) pp, aI T mt 60 tx] : va_W)) e_10).trans (congrArg (fun zZ => ([oMo mo ma mh (nI hn) th mk mz mt (nI tn) (nI (rtK tx tn ax).2.1) sc zZ pp, aI T mt 60 tx] : va_W)) e_11)
        have hP : va_P D vwCl [oMo mo ma mh (nI hn) th mk mz mt (nI tn) (nI (rtK tx tn ax).2.1) sc (rtK tx tn ax).2.2 pp, aI T mt 60 tx] _ := Eq.subst (motive := fun w => va_P D vwCl w _) eW hP
        have hD : va_D A [oMo mo ma mh (nI hn) th mk mz mt (nI tn) (nI (rtK tx tn ax).2.1) sc (rtK tx tn ax).2.2 pp, aI T mt 60 tx] := Eq.subst (motive := fun w => va_D A w) eW hD
        have e_12 : 1 = bI (rtK tx tn ax).1 := by first | with_reducible rfl | (simp [rtK, bI, c13, c52, c94]; done)
        refine W.eq (g2 := F0 m 102 ls [.int (bI (rtK tx tn ax).1)]) (congrArg (fun z => F0 m 102 ls [.int z]) e_12) ?_
        exact hret _ _ _ _ _ (fun Qc free hq hf => W.zret hx hb hr (bI_nar _) hq hf dX9_readsTimes_102 hlk) hP hD hS
  · have c13 := (bI0 _).mp c13
    refine lv_iconst (v := 1) hx hb dX9_readsTimes_16 (by decide) ?_
    have e_13 : nI ax = nI (rtK tx tn ax).2.1 := by first | with_reducible rfl | (simp [rtK, bI, c13]; done)
    have e_14 : 1 = (rtK tx tn ax).2.2 := by first | with_reducible rfl | (simp [rtK, bI, c13]; done)
    have eW := (congrArg (fun zZ => ([oMo mo ma mh (nI hn) th mk mz mt (nI tn) zZ sc 1 pp, aI T mt 60 tx] : va_W)) e_13).trans (congrArg (fun zZ => ([oMo mo ma mh (nI hn) th mk mz mt (nI tn) (nI (rtK tx tn ax).2.1) sc zZ pp, aI T mt 60 tx] : va_W)) e_14)
    have hP : va_P D vwCl [oMo mo ma mh (nI hn) th mk mz mt (nI tn) (nI (rtK tx tn ax).2.1) sc (rtK tx tn ax).2.2 pp, aI T mt 60 tx] _ := Eq.subst (motive := fun w => va_P D vwCl w _) eW hP
    have hD : va_D A [oMo mo ma mh (nI hn) th mk mz mt (nI tn) (nI (rtK tx tn ax).2.1) sc (rtK tx tn ax).2.2 pp, aI T mt 60 tx] := Eq.subst (motive := fun w => va_D A w) eW hD
    have e_15 : 1 = bI (rtK tx tn ax).1 := by first | with_reducible rfl | (simp [rtK, bI, c13]; done)
    refine W.eq (g2 := F0 m 17 ls [.int (bI (rtK tx tn ax).1)]) (congrArg (fun z => F0 m 17 ls [.int z]) e_15) ?_
    exact hret _ _ _ _ _ (fun Qc free hq hf => W.zret hx hb hr (bI_nar _) hq hf dX9_readsTimes_17 hlk) hP hD hS
abbrev rX9_readsPhrase : Room := { frames := 3, cells := 0, slots := 0, locals := 67 }
set_option maxHeartbeats 4000000 in
set_option maxRecDepth 100000 in
theorem c_X9_readsPhrase (l : Launch) (D : va_G) (T : Nat → ClassId) (mo ma mh mk mz mt : Nat) (tx : Nat → Int32) (hn : Nat) (th : Int32) (tn ax : Nat) (sc ti pp : Int32) (ob : Bool) (htn : tn ≤ 60) (hax : ax ≤ 60) : kM l D T yX9_readsPhrase wsX9_readsPhrase rX9_readsPhrase [.ref mo, .int (bI ob)] [oMo mo ma mh (nI hn) th mk mz mt (nI tn) (nI ax) sc ti pp, aI T mt 60 tx] (some (.int (bI (rpK tx tn ax ob).1))) [oMo mo ma mh (nI hn) th mk mz mt (nI tn) (nI (rpK tx tn ax ob).2.1) sc (rpK tx tn ax ob).2.2.1 (rpK tx tn ax ob).2.2.2, aI T mt 60 tx] := by
  refine kM.of (cc := cX9_readsPhrase) (maxL := 3) (ret := some .boolean) (by decide) rfl (Nat.le_of_ble_eq_true rfl) ?_
  intro p e s m below meth c A Q ls hx hb hml hown hr hlk hts hC hP hD hS hA hl hret
  have iX9 : ∀ w ∈ wsX90, w ∈ wsX9_readsPhrase := (fun _ h => List.mem_cons_of_mem _ (List.mem_append_right _ h))
  have hl : lv_has ls 3 [(0, .ref mo), (1, .int (bI ob))] := hl
  have hP : va_P D vwCl [oMo mo ma mh (nI hn) th mk mz mt (nI tn) (nI ax) sc ti pp, aI T mt 60 tx] s.heap := hP
  have hD : va_D A [oMo mo ma mh (nI hn) th mk mz mt (nI tn) (nI ax) sc ti pp, aI T mt 60 tx] := hD
  refine lv_aload_n hx hb dX9_readsPhrase_0 rfl (lv_at hl 0 rfl) ?_
  refine lv_iconst (v := (-1)) hx hb dX9_readsPhrase_1 (by decide) ?_
  refine va_put (D := D) (ci := 8) (v := .int (-1)) (ty := .int) (C := RX9) (T := TX9) (N := 12) hx hb hts iX9 tyX9 tyX9_ok nmX9 hown hC.1 hP hD hS 0 rfl rfl 11 (by decide) (hts (.fieldLink RX9 119 "ParrotCountsModel" "parrot" "I") (List.mem_of_getElem? (i := 1) rfl)) (fun _ h9 => h9) rfl (by decide +kernel) rfl rfl (Nat.le_of_ble_eq_true rfl) dX9_readsPhrase_2 (fun H locs hP hD hS => ?_)
  have hP : va_P D vwCl [oMo mo ma mh (nI hn) th mk mz mt (nI tn) (nI ax) sc ti (-1), aI T mt 60 tx] H := hP
  have hD : va_D A [oMo mo ma mh (nI hn) th mk mz mt (nI tn) (nI ax) sc ti (-1), aI T mt 60 tx] := hD
  refine lv_aload_n hx hb dX9_readsPhrase_5 rfl (lv_at hl 0 rfl) ?_
  refine va_get (D := D) (ci := 8) (v := .int (nI ax)) (C := RX9) (T := TX9) (N := 12) hx hb hts iX9 hown hC.1 hP 0 rfl rfl 8 (by decide) (hts (.fieldLink RX9 109 "ParrotCountsModel" "at" "I") (List.mem_of_getElem? (i := 2) rfl)) (fun _ h => h) rfl dX9_readsPhrase_6 ?_
  refine lv_istore_n (lv' := [(2, .int (nI ax)), (0, .ref mo), (1, .int (bI ob))]) hx hb dX9_readsPhrase_9 rfl hl (by decide) rfl (fun ls hl => ?_)
  refine lv_aload_n hx hb dX9_readsPhrase_10 rfl (lv_at hl 1 rfl) ?_
  have hP := hP.sub (ws' := [oMo mo ma mh (nI hn) th mk mz mt (nI tn) (nI ax) sc ti (-1), aI T mt 60 tx] ++ []) [0, 1] rfl
  have hD := hD.sub (ws' := [oMo mo ma mh (nI hn) th mk mz mt (nI tn) (nI ax) sc ti (-1), aI T mt 60 tx] ++ []) [0, 1] (by decide) rfl
  refine kV (ci := 8) (As := []) (rest := []) ⟨hx, hb, hml, hown, hts⟩ (c_X9_readsTimes l D T mo ma mh mk mz mt tx hn th tn ax sc ti (-1) (by first | omega | assumption) (by first | omega | assumption)) (cwV 0 hts gX9_readsPhrase_X9_readsTimes rfl rfl rfl (by decide +kernel) ⟨Nat.le_of_ble_eq_true rfl, Nat.le_of_ble_eq_true rfl⟩) hC hP hD hS hA rfl rfl rfl hl.1 rfl (Nat.le_of_ble_eq_true rfl) dX9_readsPhrase_11 ⟨Nat.zero_le _, Nat.zero_le _⟩ (fun H locs hP hD hS => ?_)
  have hP : va_P D vwCl [oMo mo ma mh (nI hn) th mk mz mt (nI tn) (nI (rtK tx tn ax).2.1) sc (rtK tx tn ax).2.2 (-1), aI T mt 60 tx] H := hP
  have hD : va_D A [oMo mo ma mh (nI hn) th mk mz mt (nI tn) (nI (rtK tx tn ax).2.1) sc (rtK tx tn ax).2.2 (-1), aI T mt 60 tx] := hD
  refine W.eq (g2 := F0 m 14 ls [.int (bI (rtK tx tn ax).1)]) rfl ?_
  refine lv_if_ne (tgt := 19) hx hb dX9_readsPhrase_14 (by decide) (fun c14 => ?_) (fun c14 => ?_)
  · have c14 := (bI0n _).mp c14
    refine lv_aload_n hx hb dX9_readsPhrase_19 rfl (lv_at hl 1 rfl) ?_
    refine lv_bipush (v := 97) hx hb dX9_readsPhrase_20 (by decide) ?_
    refine lv_bipush (v := 122) hx hb dX9_readsPhrase_22 (by decide) ?_
    have hP := hP.sub (ws' := [oMo mo ma mh (nI hn) th mk mz mt (nI tn) (nI (rtK tx tn ax).2.1) sc (rtK tx tn ax).2.2 (-1), aI T mt 60 tx] ++ []) [0, 1] rfl
    have hD := hD.sub (ws' := [oMo mo ma mh (nI hn) th mk mz mt (nI tn) (nI (rtK tx tn ax).2.1) sc (rtK tx tn ax).2.2 (-1), aI T mt 60 tx] ++ []) [0, 1] (by decide) rfl
    refine kV (ci := 8) (As := [.int 97, .int 122]) (rest := []) ⟨hx, hb, hml, hown, hts⟩ (c_X9_isHere l D T mo ma mh mk mz mt tx hn th tn (rtK tx tn ax).2.1 sc (rtK tx tn ax).2.2 (-1) 97 122 (by first | omega | assumption) (by have := rtK_le (tx := tx) htn hax; omega)) (cwV 2 hts gX9_readsPhrase_X9_isHere rfl rfl rfl (by decide +kernel) ⟨Nat.le_of_ble_eq_true rfl, Nat.le_of_ble_eq_true rfl⟩) hC hP hD hS hA rfl rfl rfl hl.1 rfl (Nat.le_of_ble_eq_true rfl) dX9_readsPhrase_24 ⟨Nat.zero_le _, Nat.zero_le _⟩ (fun H locs hP hD hS => ?_)
    have hP : va_P D vwCl [oMo mo ma mh (nI hn) th mk mz mt (nI tn) (nI (rtK tx tn ax).2.1) sc (rtK tx tn ax).2.2 (-1), aI T mt 60 tx] H := hP
    have hD : va_D A [oMo mo ma mh (nI hn) th mk mz mt (nI tn) (nI (rtK tx tn ax).2.1) sc (rtK tx tn ax).2.2 (-1), aI T mt 60 tx] := hD
    refine W.eq (g2 := F0 m 27 ls [.int (bI (hrB tx tn (rtK tx tn ax).2.1 97 122))]) rfl ?_
    refine lv_if_eq (tgt := 58) hx hb dX9_readsPhrase_27 (by decide) (fun c27 => ?_) (fun c27 => ?_)
    · have c27 := (bI0 _).mp c27
      refine lv_iload_n hx hb dX9_readsPhrase_58 rfl (lv_at hl 2 rfl) ?_
      refine lv_if_eq (tgt := 93) hx hb dX9_readsPhrase_59 (by decide) (fun c59 => ?_) (fun c59 => ?_)
      · have c59 := (bI0 _).mp c59
        refine lv_iconst (v := 0) hx hb dX9_readsPhrase_93 (by decide) ?_
        have e_1 : nI (rtK tx tn ax).2.1 = nI (rpK tx tn ax ob).2.1 := by first | with_reducible rfl | (simp [rpK, bI, c14, c27, c59]; done)
        have e_2 : (rtK tx tn ax).2.2 = (rpK tx tn ax ob).2.2.1 := by first | with_reducible rfl | (simp [rpK, bI, c14, c27, c59]; done)
        have e_3 : (-1) = (rpK tx tn ax ob).2.2.2 := by first | with_reducible rfl | (simp [rpK, bI, c14, c27, c59]; done)
        have eW := (congrArg (fun zZ => ([oMo mo ma mh (nI hn) th mk mz mt (nI tn) zZ sc (rtK tx tn ax).2.2 (-1), aI T mt 60 tx] : va_W)) e_1).trans ((congrArg (fun zZ => ([oMo mo ma mh (nI hn) th mk mz mt (nI tn) (nI (rpK tx tn ax ob).2.1) sc zZ (-1), aI T mt 60 tx] : va_W)) e_2).trans (congrArg (fun zZ => ([oMo mo ma mh (nI hn) th mk mz mt (nI tn) (nI (rpK tx tn ax ob).2.1) sc (rpK tx tn ax ob).2.2.1 zZ, aI T mt 60 tx] : va_W)) e_3))
        have hP : va_P D vwCl [oMo mo ma mh (nI hn) th mk mz mt (nI tn) (nI (rpK tx tn ax ob).2.1) sc (rpK tx tn ax ob).2.2.1 (rpK tx tn ax ob).2.2.2, aI T mt 60 tx] _ := Eq.subst (motive := fun w => va_P D vwCl w _) eW hP
        have hD : va_D A [oMo mo ma mh (nI hn) th mk mz mt (nI tn) (nI (rpK tx tn ax ob).2.1) sc (rpK tx tn ax ob).2.2.1 (rpK tx tn ax ob).2.2.2, aI T mt 60 tx] := Eq.subst (motive := fun w => va_D A w) eW hD
        have e_4 : 0 = bI (rpK tx tn ax ob).1 := by first | with_reducible rfl | (simp [rpK, bI, c14, c27, c59]; done)
        refine W.eq (g2 := F0 m 94 ls [.int (bI (rpK tx tn ax ob).1)]) (congrArg (fun z => F0 m 94 ls [.int z]) e_4) ?_
        exact hret _ _ _ _ _ (fun Qc free hq hf => W.zret hx hb hr (bI_nar _) hq hf dX9_readsPhrase_94 hlk) hP hD hS
      · have c59 := (bI0n _).mp c59
        refine lv_aload_n hx hb dX9_readsPhrase_62 rfl (lv_at hl 1 rfl) ?_
        refine va_get (D := D) (ci := 8) (v := .int (nI (rtK tx tn ax).2.1)) (C := RX9) (T := TX9) (N := 12) hx hb hts iX9 hown hC.1 hP 0 rfl rfl 8 (by decide) (hts (.fieldLink RX9 109 "ParrotCountsModel" "at" "I") (List.mem_of_getElem? (i := 2) rfl)) (fun _ h => h) rfl dX9_readsPhrase_63 ?_
        refine lv_iload_n hx hb dX9_readsPhrase_66 rfl (lv_at hl 0 rfl) ?_
        refine lv_icmp_le (tgt := 93) hx hb dX9_readsPhrase_67 (by decide) (fun c67 => ?_) (fun c67 => ?_)
        · refine lv_iconst (v := 0) hx hb dX9_readsPhrase_93 (by decide) ?_
          have e_5 : nI (rtK tx tn ax).2.1 = nI (rpK tx tn ax ob).2.1 := by first | with_reducible rfl | (simp [rpK, bI, c14, c27, c59, c67]; done)
          have e_6 : (rtK tx tn ax).2.2 = (rpK tx tn ax ob).2.2.1 := by first | with_reducible rfl | (simp [rpK, bI, c14, c27, c59, c67]; done)
          have e_7 : (-1) = (rpK tx tn ax ob).2.2.2 := by first | with_reducible rfl | (simp [rpK, bI, c14, c27, c59, c67]; done)
          have eW := (congrArg (fun zZ => ([oMo mo ma mh (nI hn) th mk mz mt (nI tn) zZ sc (rtK tx tn ax).2.2 (-1), aI T mt 60 tx] : va_W)) e_5).trans ((congrArg (fun zZ => ([oMo mo ma mh (nI hn) th mk mz mt (nI tn) (nI (rpK tx tn ax ob).2.1) sc zZ (-1), aI T mt 60 tx] : va_W)) e_6).trans (congrArg (fun zZ => ([oMo mo ma mh (nI hn) th mk mz mt (nI tn) (nI (rpK tx tn ax ob).2.1) sc (rpK tx tn ax ob).2.2.1 zZ, aI T mt 60 tx] : va_W)) e_7))
          have hP : va_P D vwCl [oMo mo ma mh (nI hn) th mk mz mt (nI tn) (nI (rpK tx tn ax ob).2.1) sc (rpK tx tn ax ob).2.2.1 (rpK tx tn ax ob).2.2.2, aI T mt 60 tx] _ := Eq.subst (motive := fun w => va_P D vwCl w _) eW hP
          have hD : va_D A [oMo mo ma mh (nI hn) th mk mz mt (nI tn) (nI (rpK tx tn ax ob).2.1) sc (rpK tx tn ax ob).2.2.1 (rpK tx tn ax ob).2.2.2, aI T mt 60 tx] := Eq.subst (motive := fun w => va_D A w) eW hD
          have e_8 : 0 = bI (rpK tx tn ax ob).1 := by first | with_reducible rfl | (simp [rpK, bI, c14, c27, c59, c67]; done)
          refine W.eq (g2 := F0 m 94 ls [.int (bI (rpK tx tn ax ob).1)]) (congrArg (fun z => F0 m 94 ls [.int z]) e_8) ?_
          exact hret _ _ _ _ _ (fun Qc free hq hf => W.zret hx hb hr (bI_nar _) hq hf dX9_readsPhrase_94 hlk) hP hD hS
        · refine lv_aload_n hx hb dX9_readsPhrase_70 rfl (lv_at hl 1 rfl) ?_
          refine lv_bipush (v := 40) hx hb dX9_readsPhrase_71 (by decide) ?_
          refine lv_bipush (v := 40) hx hb dX9_readsPhrase_73 (by decide) ?_
          have hP := hP.sub (ws' := [oMo mo ma mh (nI hn) th mk mz mt (nI tn) (nI (rtK tx tn ax).2.1) sc (rtK tx tn ax).2.2 (-1), aI T mt 60 tx] ++ []) [0, 1] rfl
          have hD := hD.sub (ws' := [oMo mo ma mh (nI hn) th mk mz mt (nI tn) (nI (rtK tx tn ax).2.1) sc (rtK tx tn ax).2.2 (-1), aI T mt 60 tx] ++ []) [0, 1] (by decide) rfl
          refine kV (ci := 8) (As := [.int 40, .int 40]) (rest := []) ⟨hx, hb, hml, hown, hts⟩ (c_X9_isHere l D T mo ma mh mk mz mt tx hn th tn (rtK tx tn ax).2.1 sc (rtK tx tn ax).2.2 (-1) 40 40 (by first | omega | assumption) (by have := rtK_le (tx := tx) htn hax; omega)) (cwV 2 hts gX9_readsPhrase_X9_isHere rfl rfl rfl (by decide +kernel) ⟨Nat.le_of_ble_eq_true rfl, Nat.le_of_ble_eq_true rfl⟩) hC hP hD hS hA rfl rfl rfl hl.1 rfl (Nat.le_of_ble_eq_true rfl) dX9_readsPhrase_75 ⟨Nat.zero_le _, Nat.zero_le _⟩ (fun H locs hP hD hS => ?_)
          have hP : va_P D vwCl [oMo mo ma mh (nI hn) th mk mz mt (nI tn) (nI (rtK tx tn ax).2.1) sc (rtK tx tn ax).2.2 (-1), aI T mt 60 tx] H := hP
          have hD : va_D A [oMo mo ma mh (nI hn) th mk mz mt (nI tn) (nI (rtK tx tn ax).2.1) sc (rtK tx tn ax).2.2 (-1), aI T mt 60 tx] := hD
          refine W.eq (g2 := F0 m 78 ls [.int (bI (hrB tx tn (rtK tx tn ax).2.1 40 40))]) rfl ?_
          refine lv_if_eq (tgt := 93) hx hb dX9_readsPhrase_78 (by decide) (fun c78 => ?_) (fun c78 => ?_)
          · have c78 := (bI0 _).mp c78
            refine lv_iconst (v := 0) hx hb dX9_readsPhrase_93 (by decide) ?_
            have e_9 : nI (rtK tx tn ax).2.1 = nI (rpK tx tn ax ob).2.1 := by first | with_reducible rfl | (simp [rpK, bI, c14, c27, c59, c67, c78]; done)
            have e_10 : (rtK tx tn ax).2.2 = (rpK tx tn ax ob).2.2.1 := by first | with_reducible rfl | (simp [rpK, bI, c14, c27, c59, c67, c78]; done)
            have e_11 : (-1) = (rpK tx tn ax ob).2.2.2 := by first | with_reducible rfl | (simp [rpK, bI, c14, c27, c59, c67, c78]; done)
            have eW := (congrArg (fun zZ => ([oMo mo ma mh (nI hn) th mk mz mt (nI tn) zZ sc (rtK tx tn ax).2.2 (-1), aI T mt 60 tx] : va_W)) e_9).trans ((congrArg (fun zZ => ([oMo mo ma mh (nI hn) th mk mz mt (nI tn) (nI (rpK tx tn ax ob).2.1) sc zZ (-1), aI T mt 60 tx] : va_W)) e_10).trans (congrArg (fun zZ => ([oMo mo ma mh (nI hn) th mk mz mt (nI tn) (nI (rpK tx tn ax ob).2.1) sc (rpK tx tn ax ob).2.2.1 zZ, aI T mt 60 tx] : va_W)) e_11))
            have hP : va_P D vwCl [oMo mo ma mh (nI hn) th mk mz mt (nI tn) (nI (rpK tx tn ax ob).2.1) sc (rpK tx tn ax ob).2.2.1 (rpK tx tn ax ob).2.2.2, aI T mt 60 tx] _ := Eq.subst (motive := fun w => va_P D vwCl w _) eW hP
            have hD : va_D A [oMo mo ma mh (nI hn) th mk mz mt (nI tn) (nI (rpK tx tn ax ob).2.1) sc (rpK tx tn ax ob).2.2.1 (rpK tx tn ax ob).2.2.2, aI T mt 60 tx] := Eq.subst (motive := fun w => va_D A w) eW hD
            have e_12 : 0 = bI (rpK tx tn ax ob).1 := by first | with_reducible rfl | (simp [rpK, bI, c14, c27, c59, c67, c78]; done)
            refine W.eq (g2 := F0 m 94 ls [.int (bI (rpK tx tn ax ob).1)]) (congrArg (fun z => F0 m 94 ls [.int z]) e_12) ?_
            exact hret _ _ _ _ _ (fun Qc free hq hf => W.zret hx hb hr (bI_nar _) hq hf dX9_readsPhrase_94 hlk) hP hD hS
          · have c78 := (bI0n _).mp c78
            refine lv_aload_n hx hb dX9_readsPhrase_81 rfl (lv_at hl 1 rfl) ?_
            refine lv_dup hx hb dX9_readsPhrase_82 rfl ?_
            refine va_get (D := D) (ci := 8) (v := .int (nI (rtK tx tn ax).2.1)) (C := RX9) (T := TX9) (N := 12) hx hb hts iX9 hown hC.1 hP 0 rfl rfl 8 (by decide) (hts (.fieldLink RX9 109 "ParrotCountsModel" "at" "I") (List.mem_of_getElem? (i := 2) rfl)) (fun _ h => h) rfl dX9_readsPhrase_83 ?_
            refine lv_iconst (v := 1) hx hb dX9_readsPhrase_86 (by decide) ?_
            refine lv_iadd hx hb dX9_readsPhrase_87 ?_
            refine W.eq (g2 := F0 m 88 ls (.int (nI ((rtK tx tn ax).2.1 + 1)) :: [.ref mo])) (congrArg (fun z => F0 m 88 ls (.int z :: [.ref mo])) (nI_1 (rtK tx tn ax).2.1)) ?_
            refine va_put (D := D) (ci := 8) (v := .int (nI ((rtK tx tn ax).2.1 + 1))) (ty := .int) (C := RX9) (T := TX9) (N := 12) hx hb hts iX9 tyX9 tyX9_ok nmX9 hown hC.1 hP hD hS 0 rfl rfl 8 (by decide) (hts (.fieldLink RX9 109 "ParrotCountsModel" "at" "I") (List.mem_of_getElem? (i := 2) rfl)) (fun _ h9 => h9) rfl (by decide +kernel) rfl rfl (Nat.le_of_ble_eq_true rfl) dX9_readsPhrase_88 (fun H locs hP hD hS => ?_)
            have hP : va_P D vwCl [oMo mo ma mh (nI hn) th mk mz mt (nI tn) (nI ((rtK tx tn ax).2.1 + 1)) sc (rtK tx tn ax).2.2 (-1), aI T mt 60 tx] H := hP
            have hD : va_D A [oMo mo ma mh (nI hn) th mk mz mt (nI tn) (nI ((rtK tx tn ax).2.1 + 1)) sc (rtK tx tn ax).2.2 (-1), aI T mt 60 tx] := hD
            refine lv_iconst (v := 1) hx hb dX9_readsPhrase_91 (by decide) ?_
            have e_13 : nI ((rtK tx tn ax).2.1 + 1) = nI (rpK tx tn ax ob).2.1 := by first | with_reducible rfl | (simp [rpK, bI, c14, c27, c59, c67, c78]; done)
            have e_14 : (rtK tx tn ax).2.2 = (rpK tx tn ax ob).2.2.1 := by first | with_reducible rfl | (simp [rpK, bI, c14, c27, c59, c67, c78]; done)
            have e_15 : (-1) = (rpK tx tn ax ob).2.2.2 := by first | with_reducible rfl | (simp [rpK, bI, c14, c27, c59, c67, c78]; done)
            have eW := (congrArg (fun zZ => ([oMo mo ma mh (nI hn) th mk mz mt (nI tn) zZ sc (rtK tx tn ax).2.2 (-1), aI T mt 60 tx] : va_W)) e_13).trans ((congrArg (fun zZ => ([oMo mo ma mh (nI hn) th mk mz mt (nI tn) (nI (rpK tx tn ax ob).2.1) sc zZ (-1), aI T mt 60 tx] : va_W)) e_14).trans (congrArg (fun zZ => ([oMo mo ma mh (nI hn) th mk mz mt (nI tn) (nI (rpK tx tn ax ob).2.1) sc (rpK tx tn ax ob).2.2.1 zZ, aI T mt 60 tx] : va_W)) e_15))
            have hP : va_P D vwCl [oMo mo ma mh (nI hn) th mk mz mt (nI tn) (nI (rpK tx tn ax ob).2.1) sc (rpK tx tn ax ob).2.2.1 (rpK tx tn ax ob).2.2.2, aI T mt 60 tx] _ := Eq.subst (motive := fun w => va_P D vwCl w _) eW hP
            have hD : va_D A [oMo mo ma mh (nI hn) th mk mz mt (nI tn) (nI (rpK tx tn ax ob).2.1) sc (rpK tx tn ax ob).2.2.1 (rpK tx tn ax ob).2.2.2, aI T mt 60 tx] := Eq.subst (motive := fun w => va_D A w) eW hD
            have e_16 : 1 = bI (rpK tx tn ax ob).1 := by first | with_reducible rfl | (simp [rpK, bI, c14, c27, c59, c67, c78]; done)
            refine W.eq (g2 := F0 m 92 ls [.int (bI (rpK tx tn ax ob).1)]) (congrArg (fun z => F0 m 92 ls [.int z]) e_16) ?_
            exact hret _ _ _ _ _ (fun Qc free hq hf => W.zret hx hb hr (bI_nar _) hq hf dX9_readsPhrase_92 hlk) hP hD hS
    · have c27 := (bI0n _).mp c27
      refine lv_aload_n hx hb dX9_readsPhrase_30 rfl (lv_at hl 1 rfl) ?_
      refine lv_aload_n hx hb dX9_readsPhrase_31 rfl (lv_at hl 1 rfl) ?_
      refine va_get (D := D) (ci := 8) (v := .ref mt) (C := RX9) (T := TX9) (N := 12) hx hb hts iX9 hown hC.1 hP 0 rfl rfl 6 (by decide) (hts (.fieldLink RX9 22 "ParrotCountsModel" "text" "[I") (List.mem_of_getElem? (i := 3) rfl)) (fun _ h => h) rfl dX9_readsPhrase_32 ?_
      refine lv_aload_n hx hb dX9_readsPhrase_35 rfl (lv_at hl 1 rfl) ?_
      refine va_get (D := D) (ci := 8) (v := .int (nI (rtK tx tn ax).2.1)) (C := RX9) (T := TX9) (N := 12) hx hb hts iX9 hown hC.1 hP 0 rfl rfl 8 (by decide) (hts (.fieldLink RX9 109 "ParrotCountsModel" "at" "I") (List.mem_of_getElem? (i := 2) rfl)) (fun _ h => h) rfl dX9_readsPhrase_36 ?_
      refine k_iald hx hb hC.1 hP 1 0 rfl rfl (by have := hr_lt htn (rtK_le (tx := tx) htn hax).1 c27; omega) dX9_readsPhrase_39 ?_
      refine lv_bipush (v := 97) hx hb dX9_readsPhrase_40 (by decide) ?_
      refine lv_isub hx hb dX9_readsPhrase_42 ?_
      refine va_put (D := D) (ci := 8) (v := .int ((tx (rtK tx tn ax).2.1) - 97)) (ty := .int) (C := RX9) (T := TX9) (N := 12) hx hb hts iX9 tyX9 tyX9_ok nmX9 hown hC.1 hP hD hS 0 rfl rfl 11 (by decide) (hts (.fieldLink RX9 119 "ParrotCountsModel" "parrot" "I") (List.mem_of_getElem? (i := 1) rfl)) (fun _ h9 => h9) rfl (by decide +kernel) rfl rfl (Nat.le_of_ble_eq_true rfl) dX9_readsPhrase_43 (fun H locs hP hD hS => ?_)
      have hP : va_P D vwCl [oMo mo ma mh (nI hn) th mk mz mt (nI tn) (nI (rtK tx tn ax).2.1) sc (rtK tx tn ax).2.2 ((tx (rtK tx tn ax).2.1) - 97), aI T mt 60 tx] H := hP
      have hD : va_D A [oMo mo ma mh (nI hn) th mk mz mt (nI tn) (nI (rtK tx tn ax).2.1) sc (rtK tx tn ax).2.2 ((tx (rtK tx tn ax).2.1) - 97), aI T mt 60 tx] := hD
      refine lv_aload_n hx hb dX9_readsPhrase_46 rfl (lv_at hl 1 rfl) ?_
      refine lv_dup hx hb dX9_readsPhrase_47 rfl ?_
      refine va_get (D := D) (ci := 8) (v := .int (nI (rtK tx tn ax).2.1)) (C := RX9) (T := TX9) (N := 12) hx hb hts iX9 hown hC.1 hP 0 rfl rfl 8 (by decide) (hts (.fieldLink RX9 109 "ParrotCountsModel" "at" "I") (List.mem_of_getElem? (i := 2) rfl)) (fun _ h => h) rfl dX9_readsPhrase_48 ?_
      refine lv_iconst (v := 1) hx hb dX9_readsPhrase_51 (by decide) ?_
      refine lv_iadd hx hb dX9_readsPhrase_52 ?_
      refine W.eq (g2 := F0 m 53 ls (.int (nI ((rtK tx tn ax).2.1 + 1)) :: [.ref mo])) (congrArg (fun z => F0 m 53 ls (.int z :: [.ref mo])) (nI_1 (rtK tx tn ax).2.1)) ?_
      refine va_put (D := D) (ci := 8) (v := .int (nI ((rtK tx tn ax).2.1 + 1))) (ty := .int) (C := RX9) (T := TX9) (N := 12) hx hb hts iX9 tyX9 tyX9_ok nmX9 hown hC.1 hP hD hS 0 rfl rfl 8 (by decide) (hts (.fieldLink RX9 109 "ParrotCountsModel" "at" "I") (List.mem_of_getElem? (i := 2) rfl)) (fun _ h9 => h9) rfl (by decide +kernel) rfl rfl (Nat.le_of_ble_eq_true rfl) dX9_readsPhrase_53 (fun H locs hP hD hS => ?_)
      have hP : va_P D vwCl [oMo mo ma mh (nI hn) th mk mz mt (nI tn) (nI ((rtK tx tn ax).2.1 + 1)) sc (rtK tx tn ax).2.2 ((tx (rtK tx tn ax).2.1) - 97), aI T mt 60 tx] H := hP
      have hD : va_D A [oMo mo ma mh (nI hn) th mk mz mt (nI tn) (nI ((rtK tx tn ax).2.1 + 1)) sc (rtK tx tn ax).2.2 ((tx (rtK tx tn ax).2.1) - 97), aI T mt 60 tx] := hD
      refine lv_iconst (v := 1) hx hb dX9_readsPhrase_56 (by decide) ?_
      have e_17 : nI ((rtK tx tn ax).2.1 + 1) = nI (rpK tx tn ax ob).2.1 := by first | with_reducible rfl | (simp [rpK, bI, c14, c27]; done)
      have e_18 : (rtK tx tn ax).2.2 = (rpK tx tn ax ob).2.2.1 := by first | with_reducible rfl | (simp [rpK, bI, c14, c27]; done)
      have e_19 : (tx (rtK tx tn ax).2.1) - 97 = (rpK tx tn ax ob).2.2.2 := by first | with_reducible rfl | (simp [rpK, bI, c14, c27]; done)
      have eW := (congrArg (fun zZ => ([oMo mo ma mh (nI hn) th mk mz mt (nI tn) zZ sc (rtK tx tn ax).2.2 ((tx (rtK tx tn ax).2.1) - 97), aI T mt 60 tx] : va_W)) e_17).trans ((congrArg (fun zZ => ([oMo mo ma mh (nI hn) th mk mz mt (nI tn) (nI (rpK tx tn ax ob).2.1) sc zZ ((tx (rtK tx tn ax).2.1) - 97), aI T mt 60 tx] : va_W)) e_18).trans (congrArg (fun zZ => ([oMo mo ma mh (nI hn) th mk mz mt (nI tn) (nI (rpK tx tn ax ob).2.1) sc (rpK tx tn ax ob).2.2.1 zZ, aI T mt 60 tx] : va_W)) e_19))
      have hP : va_P D vwCl [oMo mo ma mh (nI hn) th mk mz mt (nI tn) (nI (rpK tx tn ax ob).2.1) sc (rpK tx tn ax ob).2.2.1 (rpK tx tn ax ob).2.2.2, aI T mt 60 tx] _ := Eq.subst (motive := fun w => va_P D vwCl w _) eW hP
      have hD : va_D A [oMo mo ma mh (nI hn) th mk mz mt (nI tn) (nI (rpK tx tn ax ob).2.1) sc (rpK tx tn ax ob).2.2.1 (rpK tx tn ax ob).2.2.2, aI T mt 60 tx] := Eq.subst (motive := fun w => va_D A w) eW hD
      have e_20 : 1 = bI (rpK tx tn ax ob).1 := by first | with_reducible rfl | (simp [rpK, bI, c14, c27]; done)
      refine W.eq (g2 := F0 m 57 ls [.int (bI (rpK tx tn ax ob).1)]) (congrArg (fun z => F0 m 57 ls [.int z]) e_20) ?_
      exact hret _ _ _ _ _ (fun Qc free hq hf => W.zret hx hb hr (bI_nar _) hq hf dX9_readsPhrase_57 hlk) hP hD hS
  · have c14 := (bI0 _).mp c14
    refine lv_iconst (v := 0) hx hb dX9_readsPhrase_17 (by decide) ?_
    have e_21 : nI (rtK tx tn ax).2.1 = nI (rpK tx tn ax ob).2.1 := by first | with_reducible rfl | (simp [rpK, bI, c14]; done)
    have e_22 : (rtK tx tn ax).2.2 = (rpK tx tn ax ob).2.2.1 := by first | with_reducible rfl | (simp [rpK, bI, c14]; done)
    have e_23 : (-1) = (rpK tx tn ax ob).2.2.2 := by first | with_reducible rfl | (simp [rpK, bI, c14]; done)
    have eW := (congrArg (fun zZ => ([oMo mo ma mh (nI hn) th mk mz mt (nI tn) zZ sc (rtK tx tn ax).2.2 (-1), aI T mt 60 tx] : va_W)) e_21).trans ((congrArg (fun zZ => ([oMo mo ma mh (nI hn) th mk mz mt (nI tn) (nI (rpK tx tn ax ob).2.1) sc zZ (-1), aI T mt 60 tx] : va_W)) e_22).trans (congrArg (fun zZ => ([oMo mo ma mh (nI hn) th mk mz mt (nI tn) (nI (rpK tx tn ax ob).2.1) sc (rpK tx tn ax ob).2.2.1 zZ, aI T mt 60 tx] : va_W)) e_23))
    have hP : va_P D vwCl [oMo mo ma mh (nI hn) th mk mz mt (nI tn) (nI (rpK tx tn ax ob).2.1) sc (rpK tx tn ax ob).2.2.1 (rpK tx tn ax ob).2.2.2, aI T mt 60 tx] _ := Eq.subst (motive := fun w => va_P D vwCl w _) eW hP
    have hD : va_D A [oMo mo ma mh (nI hn) th mk mz mt (nI tn) (nI (rpK tx tn ax ob).2.1) sc (rpK tx tn ax ob).2.2.1 (rpK tx tn ax ob).2.2.2, aI T mt 60 tx] := Eq.subst (motive := fun w => va_D A w) eW hD
    have e_24 : 0 = bI (rpK tx tn ax ob).1 := by first | with_reducible rfl | (simp [rpK, bI, c14]; done)
    refine W.eq (g2 := F0 m 18 ls [.int (bI (rpK tx tn ax ob).1)]) (congrArg (fun z => F0 m 18 ls [.int z]) e_24) ?_
    exact hret _ _ _ _ _ (fun Qc free hq hf => W.zret hx hb hr (bI_nar _) hq hf dX9_readsPhrase_18 hlk) hP hD hS
abbrev rX9_errorOfText : Room := { frames := 4, cells := 0, slots := 0, locals := 89 }
set_option maxHeartbeats 4000000 in
set_option maxRecDepth 100000 in
theorem c_X9_errorOfText (l : Launch) (D : va_G) (T : Nat → ClassId) (mo ma mh mk mz mt : Nat) (tx : Nat → Int32) (hn : Nat) (th : Int32) (tn ax : Nat) (sc ti pp : Int32) (N : Nat) (TT : Int32 × Nat × Int32 × Int32 × Int32) (htn : tn ≤ 60) (hT : erX tx tn N false true 0 0 0 0 ti pp = some TT) : kM l D T yX9_errorOfText wsX9_errorOfText rX9_errorOfText [.ref mo] [oMo mo ma mh (nI hn) th mk mz mt (nI tn) (nI ax) sc ti pp, aI T mt 60 tx] (some (.int TT.1)) [oMo mo ma mh (nI hn) th mk mz mt (nI tn) (nI TT.2.1) TT.2.2.1 TT.2.2.2.1 TT.2.2.2.2, aI T mt 60 tx] := by
  refine kM.of (cc := cX9_errorOfText) (maxL := 5) (ret := some .int) (by decide) rfl (Nat.le_of_ble_eq_true rfl) ?_
  intro p e s m below meth c A Q ls hx hb hml hown hr hlk hts hC hP hD hS hA hl hret
  have iX9 : ∀ w ∈ wsX90, w ∈ wsX9_errorOfText := (fun _ h => List.mem_cons_of_mem _ (List.mem_append_right _ h))
  have loops : ∀ n : Nat, (∀ (b : Bool) (a : Nat) (sd : Int32) (te : Int32) (pq : Int32), a ≤ 60 → erX tx tn n false b 0 0 a sd te pq = some TT → ∀ (H : Heap) (locs : List Loc) (ls : Array Slot), va_P D vwCl [oMo mo ma mh (nI hn) th mk mz mt (nI tn) (nI a) sd te pq, aI T mt 60 tx] H → va_D A [oMo mo ma mh (nI hn) th mk mz mt (nI tn) (nI a) sd te pq, aI T mt 60 tx] → va_S A s.heap H locs → lv_has ls 5 [(1, .int (bI b)), (0, .ref mo)] → W p l e rX9_errorOfText s m [.ref mo].toArray below meth c H locs 0 0 Q (F0 m 12 ls [])) ∧ (∀ (oo : Int32) (ii : Int32) (a : Nat) (sd : Int32) (te : Int32) (pq : Int32), a ≤ 60 → erX tx tn n true false oo ii a sd te pq = some TT → ∀ (H : Heap) (locs : List Loc) (ls : Array Slot), va_P D vwCl [oMo mo ma mh (nI hn) th mk mz mt (nI tn) (nI a) sd te pq, aI T mt 60 tx] H → va_D A [oMo mo ma mh (nI hn) th mk mz mt (nI tn) (nI a) sd te pq, aI T mt 60 tx] → va_S A s.heap H locs → lv_has ls 5 [(4, .int 1), (3, .int ii), (2, .int oo), (1, .int 0), (0, .ref mo)] → W p l e rX9_errorOfText s m [.ref mo].toArray below meth c H locs 0 0 Q (F0 m 76 ls [])) := by
    intro n
    induction n with
    | zero =>
      refine ⟨?_, ?_⟩
      · intro b a sd te pq ha hv; rw [erX] at hv; cases hv
      · intro oo ii a sd te pq ha hv; rw [erX] at hv; cases hv
    | succ n ih =>
      refine ⟨?_, ?_⟩
      · intro b a sd te pq ha hv H locs ls hP hD hS hl
        have hle := rpK_le (tx := tx) (ob := true) htn ha
        refine lv_iload_n hx hb dX9_errorOfText_12 rfl (lv_at hl 0 rfl) ?_
        refine lv_if_ne (tgt := 27) hx hb dX9_errorOfText_13 (by decide) (fun c13 => ?_) (fun c13 => ?_)
        · have c13 := (bI0n _).mp c13
          refine lv_iconst (v := 0) hx hb dX9_errorOfText_27 (by decide) ?_
          refine lv_istore_n (lv' := [(1, .int 0), (0, .ref mo)]) hx hb dX9_errorOfText_28 rfl hl (by decide) rfl (fun ls hl => ?_)
          refine lv_aload_n hx hb dX9_errorOfText_29 rfl (lv_at hl 1 rfl) ?_
          refine lv_iconst (v := 1) hx hb dX9_errorOfText_30 (by decide) ?_
          have hP := hP.sub (ws' := [oMo mo ma mh (nI hn) th mk mz mt (nI tn) (nI a) sd te pq, aI T mt 60 tx] ++ []) [0, 1] rfl
          have hD := hD.sub (ws' := [oMo mo ma mh (nI hn) th mk mz mt (nI tn) (nI a) sd te pq, aI T mt 60 tx] ++ []) [0, 1] (by decide) rfl
          refine kV (ci := 8) (As := [.int 1]) (rest := []) ⟨hx, hb, hml, hown, hts⟩ (c_X9_readsPhrase l D T mo ma mh mk mz mt tx hn th tn a sd te pq true (by first | omega | assumption) (by first | omega | assumption)) (cwV 1 hts gX9_errorOfText_X9_readsPhrase rfl rfl rfl (by decide +kernel) ⟨Nat.le_of_ble_eq_true rfl, Nat.le_of_ble_eq_true rfl⟩) hC hP hD hS hA rfl rfl rfl hl.1 rfl (Nat.le_of_ble_eq_true rfl) dX9_errorOfText_31 ⟨Nat.zero_le _, Nat.zero_le _⟩ (fun H locs hP hD hS => ?_)
          have hP : va_P D vwCl [oMo mo ma mh (nI hn) th mk mz mt (nI tn) (nI (rpK tx tn a true).2.1) sd (rpK tx tn a true).2.2.1 (rpK tx tn a true).2.2.2, aI T mt 60 tx] H := hP
          have hD : va_D A [oMo mo ma mh (nI hn) th mk mz mt (nI tn) (nI (rpK tx tn a true).2.1) sd (rpK tx tn a true).2.2.1 (rpK tx tn a true).2.2.2, aI T mt 60 tx] := hD
          refine W.eq (g2 := F0 m 34 ls [.int (bI (rpK tx tn a true).1)]) rfl ?_
          refine lv_if_ne (tgt := 42) hx hb dX9_errorOfText_34 (by decide) (fun c34 => ?_) (fun c34 => ?_)
          · have c34 := (bI0n _).mp c34
            refine lv_aload_n hx hb dX9_errorOfText_42 rfl (lv_at hl 1 rfl) ?_
            refine va_get (D := D) (ci := 8) (v := .int (rpK tx tn a true).2.2.2) (C := RX9) (T := TX9) (N := 12) hx hb hts iX9 hown hC.1 hP 0 rfl rfl 11 (by decide) (hts (.fieldLink RX9 119 "ParrotCountsModel" "parrot" "I") (List.mem_of_getElem? (i := 4) rfl)) (fun _ h => h) rfl dX9_errorOfText_43 ?_
            refine lv_iconst (v := (-1)) hx hb dX9_errorOfText_46 (by decide) ?_
            refine lv_icmp_eq (tgt := 66) hx hb dX9_errorOfText_47 (by decide) (fun c47 => ?_) (fun c47 => ?_)
            · refine lv_aload_n hx hb dX9_errorOfText_66 rfl (lv_at hl 1 rfl) ?_
              refine va_get (D := D) (ci := 8) (v := .int (rpK tx tn a true).2.2.1) (C := RX9) (T := TX9) (N := 12) hx hb hts iX9 hown hC.1 hP 0 rfl rfl 10 (by decide) (hts (.fieldLink RX9 112 "ParrotCountsModel" "times" "I") (List.mem_of_getElem? (i := 5) rfl)) (fun _ h => h) rfl dX9_errorOfText_67 ?_
              refine lv_istore_n (lv' := [(2, .int (rpK tx tn a true).2.2.1), (1, .int 0), (0, .ref mo)]) hx hb dX9_errorOfText_70 rfl hl (by decide) rfl (fun ls hl => ?_)
              refine lv_iconst (v := 0) hx hb dX9_errorOfText_71 (by decide) ?_
              refine lv_istore_n (lv' := [(3, .int 0), (2, .int (rpK tx tn a true).2.2.1), (1, .int 0), (0, .ref mo)]) hx hb dX9_errorOfText_72 rfl hl (by decide) rfl (fun ls hl => ?_)
              refine lv_iconst (v := 1) hx hb dX9_errorOfText_73 (by decide) ?_
              refine lv_istore (lv' := [(4, .int 1), (3, .int 0), (2, .int (rpK tx tn a true).2.2.1), (1, .int 0), (0, .ref mo)]) hx hb dX9_errorOfText_74 hl (by decide) rfl (fun ls hl => ?_)
              have hl : lv_has ls 5 [(4, .int 1), (3, .int 0), (2, .int (rpK tx tn a true).2.2.1), (1, .int 0), (0, .ref mo)] := lv_sub hl [0, 1, 2, 3, 4] (by rfl)
              exact ih.2 (rpK tx tn a true).2.2.1 0 (rpK tx tn a true).2.1 sd (rpK tx tn a true).2.2.1 (rpK tx tn a true).2.2.2 (by first | assumption | omega) (by simpa [erX, c13, c34, eq_true c47] using hv) _ _ _ hP hD hS hl
            · refine lv_aload_n hx hb dX9_errorOfText_50 rfl (lv_at hl 1 rfl) ?_
              refine lv_dup hx hb dX9_errorOfText_51 rfl ?_
              refine va_get (D := D) (ci := 8) (v := .int sd) (C := RX9) (T := TX9) (N := 12) hx hb hts iX9 hown hC.1 hP 0 rfl rfl 9 (by decide) (hts (.fieldLink RX9 79 "ParrotCountsModel" "songCalls" "I") (List.mem_of_getElem? (i := 2) rfl)) (fun _ h => h) rfl dX9_errorOfText_52 ?_
              refine lv_aload_n hx hb dX9_errorOfText_55 rfl (lv_at hl 1 rfl) ?_
              refine va_get (D := D) (ci := 8) (v := .int (rpK tx tn a true).2.2.1) (C := RX9) (T := TX9) (N := 12) hx hb hts iX9 hown hC.1 hP 0 rfl rfl 10 (by decide) (hts (.fieldLink RX9 112 "ParrotCountsModel" "times" "I") (List.mem_of_getElem? (i := 5) rfl)) (fun _ h => h) rfl dX9_errorOfText_56 ?_
              refine lv_iadd hx hb dX9_errorOfText_59 ?_
              refine va_put (D := D) (ci := 8) (v := .int (sd + (rpK tx tn a true).2.2.1)) (ty := .int) (C := RX9) (T := TX9) (N := 12) hx hb hts iX9 tyX9 tyX9_ok nmX9 hown hC.1 hP hD hS 0 rfl rfl 9 (by decide) (hts (.fieldLink RX9 79 "ParrotCountsModel" "songCalls" "I") (List.mem_of_getElem? (i := 2) rfl)) (fun _ h9 => h9) rfl (by decide +kernel) rfl rfl (Nat.le_of_ble_eq_true rfl) dX9_errorOfText_60 (fun H locs hP hD hS => ?_)
              have hP : va_P D vwCl [oMo mo ma mh (nI hn) th mk mz mt (nI tn) (nI (rpK tx tn a true).2.1) (sd + (rpK tx tn a true).2.2.1) (rpK tx tn a true).2.2.1 (rpK tx tn a true).2.2.2, aI T mt 60 tx] H := hP
              have hD : va_D A [oMo mo ma mh (nI hn) th mk mz mt (nI tn) (nI (rpK tx tn a true).2.1) (sd + (rpK tx tn a true).2.2.1) (rpK tx tn a true).2.2.1 (rpK tx tn a true).2.2.2, aI T mt 60 tx] := hD
              refine lv_goto (tgt := 12) hx hb dX9_errorOfText_63 (by decide) ?_
              have e_1 : (0 : Int32) = bI false := by first | with_reducible rfl | rfl
              have hl : lv_has ls 5 [(1, .int (bI false)), (0, .ref mo)] := lv_sub hl [0, 1] (by show (_ : List (Nat × Value)) = [(1, .int (bI false)), (0, .ref mo)]; rw [← e_1]; rfl)
              exact ih.1 false (rpK tx tn a true).2.1 (sd + (rpK tx tn a true).2.2.1) (rpK tx tn a true).2.2.1 (rpK tx tn a true).2.2.2 (by first | assumption | omega) (by simpa [erX, c13, c34, c47] using hv) _ _ _ hP hD hS hl
          · have c34 := (bI0 _).mp c34
            refine lv_aload_n hx hb dX9_errorOfText_37 rfl (lv_at hl 1 rfl) ?_
            refine va_get (D := D) (ci := 8) (v := .int (nI (rpK tx tn a true).2.1)) (C := RX9) (T := TX9) (N := 12) hx hb hts iX9 hown hC.1 hP 0 rfl rfl 8 (by decide) (hts (.fieldLink RX9 109 "ParrotCountsModel" "at" "I") (List.mem_of_getElem? (i := 1) rfl)) (fun _ h => h) rfl dX9_errorOfText_38 ?_
            have e_2 : nI (rpK tx tn a true).2.1 = nI TT.2.1 := by have hv := hv; simp [erX, c13, c34] at hv; rw [← hv]
            have e_3 : sd = TT.2.2.1 := by have hv := hv; simp [erX, c13, c34] at hv; rw [← hv]
            have e_4 : (rpK tx tn a true).2.2.1 = TT.2.2.2.1 := by have hv := hv; simp [erX, c13, c34] at hv; rw [← hv]
            have e_5 : (rpK tx tn a true).2.2.2 = TT.2.2.2.2 := by have hv := hv; simp [erX, c13, c34] at hv; rw [← hv]
            have eW := (congrArg (fun zZ => ([oMo mo ma mh (nI hn) th mk mz mt (nI tn) zZ sd (rpK tx tn a true).2.2.1 (rpK tx tn a true).2.2.2, aI T mt 60 tx] : va_W)) e_2).trans ((congrArg (fun zZ => ([oMo mo ma mh (nI hn) th mk mz mt (nI tn) (nI TT.2.1) zZ (rpK tx tn a true).2.2.1 (rpK tx tn a true).2.2.2, aI T mt 60 tx] : va_W)) e_3).trans ((congrArg (fun zZ => ([oMo mo ma mh (nI hn) th mk mz mt (nI tn) (nI TT.2.1) TT.2.2.1 zZ (rpK tx tn a true).2.2.2, aI T mt 60 tx] : va_W)) e_4).trans (congrArg (fun zZ => ([oMo mo ma mh (nI hn) th mk mz mt (nI tn) (nI TT.2.1) TT.2.2.1 TT.2.2.2.1 zZ, aI T mt 60 tx] : va_W)) e_5)))
            have hP : va_P D vwCl [oMo mo ma mh (nI hn) th mk mz mt (nI tn) (nI TT.2.1) TT.2.2.1 TT.2.2.2.1 TT.2.2.2.2, aI T mt 60 tx] _ := Eq.subst (motive := fun w => va_P D vwCl w _) eW hP
            have hD : va_D A [oMo mo ma mh (nI hn) th mk mz mt (nI tn) (nI TT.2.1) TT.2.2.1 TT.2.2.2.1 TT.2.2.2.2, aI T mt 60 tx] := Eq.subst (motive := fun w => va_D A w) eW hD
            have e_6 : nI (rpK tx tn a true).2.1 = TT.1 := by have hv := hv; simp [erX, c13, c34] at hv; rw [← hv]
            refine W.eq (g2 := F0 m 41 ls [.int TT.1]) (congrArg (fun z => F0 m 41 ls [.int z]) e_6) ?_
            exact hret _ _ _ _ _ (fun Qc free hq hf => W.iret hx hb hr hq hf dX9_errorOfText_41 hlk) hP hD hS
        · have c13 := (bI0 _).mp c13
          refine lv_aload_n hx hb dX9_errorOfText_16 rfl (lv_at hl 1 rfl) ?_
          refine va_get (D := D) (ci := 8) (v := .int (nI a)) (C := RX9) (T := TX9) (N := 12) hx hb hts iX9 hown hC.1 hP 0 rfl rfl 8 (by decide) (hts (.fieldLink RX9 109 "ParrotCountsModel" "at" "I") (List.mem_of_getElem? (i := 1) rfl)) (fun _ h => h) rfl dX9_errorOfText_17 ?_
          refine lv_aload_n hx hb dX9_errorOfText_20 rfl (lv_at hl 1 rfl) ?_
          refine va_get (D := D) (ci := 8) (v := .int (nI tn)) (C := RX9) (T := TX9) (N := 12) hx hb hts iX9 hown hC.1 hP 0 rfl rfl 7 (by decide) (hts (.fieldLink RX9 106 "ParrotCountsModel" "textLong" "I") (List.mem_of_getElem? (i := 3) rfl)) (fun _ h => h) rfl dX9_errorOfText_21 ?_
          refine lv_icmp_ge (tgt := 147) hx hb dX9_errorOfText_24 (by decide) (fun c24 => ?_) (fun c24 => ?_)
          · refine lv_iconst (v := (-1)) hx hb dX9_errorOfText_147 (by decide) ?_
            have e_7 : nI a = nI TT.2.1 := by have hv := hv; simp [erX, c13, c24] at hv; rw [← hv]
            have e_8 : sd = TT.2.2.1 := by have hv := hv; simp [erX, c13, c24] at hv; rw [← hv]
            have e_9 : te = TT.2.2.2.1 := by have hv := hv; simp [erX, c13, c24] at hv; rw [← hv]
            have e_10 : pq = TT.2.2.2.2 := by have hv := hv; simp [erX, c13, c24] at hv; rw [← hv]
            have eW := (congrArg (fun zZ => ([oMo mo ma mh (nI hn) th mk mz mt (nI tn) zZ sd te pq, aI T mt 60 tx] : va_W)) e_7).trans ((congrArg (fun zZ => ([oMo mo ma mh (nI hn) th mk mz mt (nI tn) (nI TT.2.1) zZ te pq, aI T mt 60 tx] : va_W)) e_8).trans ((congrArg (fun zZ => ([oMo mo ma mh (nI hn) th mk mz mt (nI tn) (nI TT.2.1) TT.2.2.1 zZ pq, aI T mt 60 tx] : va_W)) e_9).trans (congrArg (fun zZ => ([oMo mo ma mh (nI hn) th mk mz mt (nI tn) (nI TT.2.1) TT.2.2.1 TT.2.2.2.1 zZ, aI T mt 60 tx] : va_W)) e_10)))
            have hP : va_P D vwCl [oMo mo ma mh (nI hn) th mk mz mt (nI tn) (nI TT.2.1) TT.2.2.1 TT.2.2.2.1 TT.2.2.2.2, aI T mt 60 tx] _ := Eq.subst (motive := fun w => va_P D vwCl w _) eW hP
            have hD : va_D A [oMo mo ma mh (nI hn) th mk mz mt (nI tn) (nI TT.2.1) TT.2.2.1 TT.2.2.2.1 TT.2.2.2.2, aI T mt 60 tx] := Eq.subst (motive := fun w => va_D A w) eW hD
            have e_11 : (-1) = TT.1 := by have hv := hv; simp [erX, c13, c24] at hv; rw [← hv]
            refine W.eq (g2 := F0 m 148 ls [.int TT.1]) (congrArg (fun z => F0 m 148 ls [.int z]) e_11) ?_
            exact hret _ _ _ _ _ (fun Qc free hq hf => W.iret hx hb hr hq hf dX9_errorOfText_148 hlk) hP hD hS
          · refine lv_iconst (v := 0) hx hb dX9_errorOfText_27 (by decide) ?_
            refine lv_istore_n (lv' := [(1, .int 0), (0, .ref mo)]) hx hb dX9_errorOfText_28 rfl hl (by decide) rfl (fun ls hl => ?_)
            refine lv_aload_n hx hb dX9_errorOfText_29 rfl (lv_at hl 1 rfl) ?_
            refine lv_iconst (v := 1) hx hb dX9_errorOfText_30 (by decide) ?_
            have hP := hP.sub (ws' := [oMo mo ma mh (nI hn) th mk mz mt (nI tn) (nI a) sd te pq, aI T mt 60 tx] ++ []) [0, 1] rfl
            have hD := hD.sub (ws' := [oMo mo ma mh (nI hn) th mk mz mt (nI tn) (nI a) sd te pq, aI T mt 60 tx] ++ []) [0, 1] (by decide) rfl
            refine kV (ci := 8) (As := [.int 1]) (rest := []) ⟨hx, hb, hml, hown, hts⟩ (c_X9_readsPhrase l D T mo ma mh mk mz mt tx hn th tn a sd te pq true (by first | omega | assumption) (by first | omega | assumption)) (cwV 1 hts gX9_errorOfText_X9_readsPhrase rfl rfl rfl (by decide +kernel) ⟨Nat.le_of_ble_eq_true rfl, Nat.le_of_ble_eq_true rfl⟩) hC hP hD hS hA rfl rfl rfl hl.1 rfl (Nat.le_of_ble_eq_true rfl) dX9_errorOfText_31 ⟨Nat.zero_le _, Nat.zero_le _⟩ (fun H locs hP hD hS => ?_)
            have hP : va_P D vwCl [oMo mo ma mh (nI hn) th mk mz mt (nI tn) (nI (rpK tx tn a true).2.1) sd (rpK tx tn a true).2.2.1 (rpK tx tn a true).2.2.2, aI T mt 60 tx] H := hP
            have hD : va_D A [oMo mo ma mh (nI hn) th mk mz mt (nI tn) (nI (rpK tx tn a true).2.1) sd (rpK tx tn a true).2.2.1 (rpK tx tn a true).2.2.2, aI T mt 60 tx] := hD
            refine W.eq (g2 := F0 m 34 ls [.int (bI (rpK tx tn a true).1)]) rfl ?_
            refine lv_if_ne (tgt := 42) hx hb dX9_errorOfText_34 (by decide) (fun c34 => ?_) (fun c34 => ?_)
            · have c34 := (bI0n _).mp c34
              refine lv_aload_n hx hb dX9_errorOfText_42 rfl (lv_at hl 1 rfl) ?_
              refine va_get (D := D) (ci := 8) (v := .int (rpK tx tn a true).2.2.2) (C := RX9) (T := TX9) (N := 12) hx hb hts iX9 hown hC.1 hP 0 rfl rfl 11 (by decide) (hts (.fieldLink RX9 119 "ParrotCountsModel" "parrot" "I") (List.mem_of_getElem? (i := 4) rfl)) (fun _ h => h) rfl dX9_errorOfText_43 ?_
              refine lv_iconst (v := (-1)) hx hb dX9_errorOfText_46 (by decide) ?_
              refine lv_icmp_eq (tgt := 66) hx hb dX9_errorOfText_47 (by decide) (fun c47 => ?_) (fun c47 => ?_)
              · refine lv_aload_n hx hb dX9_errorOfText_66 rfl (lv_at hl 1 rfl) ?_
                refine va_get (D := D) (ci := 8) (v := .int (rpK tx tn a true).2.2.1) (C := RX9) (T := TX9) (N := 12) hx hb hts iX9 hown hC.1 hP 0 rfl rfl 10 (by decide) (hts (.fieldLink RX9 112 "ParrotCountsModel" "times" "I") (List.mem_of_getElem? (i := 5) rfl)) (fun _ h => h) rfl dX9_errorOfText_67 ?_
                refine lv_istore_n (lv' := [(2, .int (rpK tx tn a true).2.2.1), (1, .int 0), (0, .ref mo)]) hx hb dX9_errorOfText_70 rfl hl (by decide) rfl (fun ls hl => ?_)
                refine lv_iconst (v := 0) hx hb dX9_errorOfText_71 (by decide) ?_
                refine lv_istore_n (lv' := [(3, .int 0), (2, .int (rpK tx tn a true).2.2.1), (1, .int 0), (0, .ref mo)]) hx hb dX9_errorOfText_72 rfl hl (by decide) rfl (fun ls hl => ?_)
                refine lv_iconst (v := 1) hx hb dX9_errorOfText_73 (by decide) ?_
                refine lv_istore (lv' := [(4, .int 1), (3, .int 0), (2, .int (rpK tx tn a true).2.2.1), (1, .int 0), (0, .ref mo)]) hx hb dX9_errorOfText_74 hl (by decide) rfl (fun ls hl => ?_)
                have hl : lv_has ls 5 [(4, .int 1), (3, .int 0), (2, .int (rpK tx tn a true).2.2.1), (1, .int 0), (0, .ref mo)] := lv_sub hl [0, 1, 2, 3, 4] (by rfl)
                exact ih.2 (rpK tx tn a true).2.2.1 0 (rpK tx tn a true).2.1 sd (rpK tx tn a true).2.2.1 (rpK tx tn a true).2.2.2 (by first | assumption | omega) (by simpa [erX, c13, c24, c34, eq_true c47] using hv) _ _ _ hP hD hS hl
              · refine lv_aload_n hx hb dX9_errorOfText_50 rfl (lv_at hl 1 rfl) ?_
                refine lv_dup hx hb dX9_errorOfText_51 rfl ?_
                refine va_get (D := D) (ci := 8) (v := .int sd) (C := RX9) (T := TX9) (N := 12) hx hb hts iX9 hown hC.1 hP 0 rfl rfl 9 (by decide) (hts (.fieldLink RX9 79 "ParrotCountsModel" "songCalls" "I") (List.mem_of_getElem? (i := 2) rfl)) (fun _ h => h) rfl dX9_errorOfText_52 ?_
                refine lv_aload_n hx hb dX9_errorOfText_55 rfl (lv_at hl 1 rfl) ?_
                refine va_get (D := D) (ci := 8) (v := .int (rpK tx tn a true).2.2.1) (C := RX9) (T := TX9) (N := 12) hx hb hts iX9 hown hC.1 hP 0 rfl rfl 10 (by decide) (hts (.fieldLink RX9 112 "ParrotCountsModel" "times" "I") (List.mem_of_getElem? (i := 5) rfl)) (fun _ h => h) rfl dX9_errorOfText_56 ?_
                refine lv_iadd hx hb dX9_errorOfText_59 ?_
                refine va_put (D := D) (ci := 8) (v := .int (sd + (rpK tx tn a true).2.2.1)) (ty := .int) (C := RX9) (T := TX9) (N := 12) hx hb hts iX9 tyX9 tyX9_ok nmX9 hown hC.1 hP hD hS 0 rfl rfl 9 (by decide) (hts (.fieldLink RX9 79 "ParrotCountsModel" "songCalls" "I") (List.mem_of_getElem? (i := 2) rfl)) (fun _ h9 => h9) rfl (by decide +kernel) rfl rfl (Nat.le_of_ble_eq_true rfl) dX9_errorOfText_60 (fun H locs hP hD hS => ?_)
                have hP : va_P D vwCl [oMo mo ma mh (nI hn) th mk mz mt (nI tn) (nI (rpK tx tn a true).2.1) (sd + (rpK tx tn a true).2.2.1) (rpK tx tn a true).2.2.1 (rpK tx tn a true).2.2.2, aI T mt 60 tx] H := hP
                have hD : va_D A [oMo mo ma mh (nI hn) th mk mz mt (nI tn) (nI (rpK tx tn a true).2.1) (sd + (rpK tx tn a true).2.2.1) (rpK tx tn a true).2.2.1 (rpK tx tn a true).2.2.2, aI T mt 60 tx] := hD
                refine lv_goto (tgt := 12) hx hb dX9_errorOfText_63 (by decide) ?_
                have e_12 : (0 : Int32) = bI false := by first | with_reducible rfl | rfl
                have hl : lv_has ls 5 [(1, .int (bI false)), (0, .ref mo)] := lv_sub hl [0, 1] (by show (_ : List (Nat × Value)) = [(1, .int (bI false)), (0, .ref mo)]; rw [← e_12]; rfl)
                exact ih.1 false (rpK tx tn a true).2.1 (sd + (rpK tx tn a true).2.2.1) (rpK tx tn a true).2.2.1 (rpK tx tn a true).2.2.2 (by first | assumption | omega) (by simpa [erX, c13, c24, c34, c47] using hv) _ _ _ hP hD hS hl
            · have c34 := (bI0 _).mp c34
              refine lv_aload_n hx hb dX9_errorOfText_37 rfl (lv_at hl 1 rfl) ?_
              refine va_get (D := D) (ci := 8) (v := .int (nI (rpK tx tn a true).2.1)) (C := RX9) (T := TX9) (N := 12) hx hb hts iX9 hown hC.1 hP 0 rfl rfl 8 (by decide) (hts (.fieldLink RX9 109 "ParrotCountsModel" "at" "I") (List.mem_of_getElem? (i := 1) rfl)) (fun _ h => h) rfl dX9_errorOfText_38 ?_
              have e_13 : nI (rpK tx tn a true).2.1 = nI TT.2.1 := by have hv := hv; simp [erX, c13, c24, c34] at hv; rw [← hv]
              have e_14 : sd = TT.2.2.1 := by have hv := hv; simp [erX, c13, c24, c34] at hv; rw [← hv]
              have e_15 : (rpK tx tn a true).2.2.1 = TT.2.2.2.1 := by have hv := hv; simp [erX, c13, c24, c34] at hv; rw [← hv]
              have e_16 : (rpK tx tn a true).2.2.2 = TT.2.2.2.2 := by have hv := hv; simp [erX, c13, c24, c34] at hv; rw [← hv]
              have eW := (congrArg (fun zZ => ([oMo mo ma mh (nI hn) th mk mz mt (nI tn) zZ sd (rpK tx tn a true).2.2.1 (rpK tx tn a true).2.2.2, aI T mt 60 tx] : va_W)) e_13).trans ((congrArg (fun zZ => ([oMo mo ma mh (nI hn) th mk mz mt (nI tn) (nI TT.2.1) zZ (rpK tx tn a true).2.2.1 (rpK tx tn a true).2.2.2, aI T mt 60 tx] : va_W)) e_14).trans ((congrArg (fun zZ => ([oMo mo ma mh (nI hn) th mk mz mt (nI tn) (nI TT.2.1) TT.2.2.1 zZ (rpK tx tn a true).2.2.2, aI T mt 60 tx] : va_W)) e_15).trans (congrArg (fun zZ => ([oMo mo ma mh (nI hn) th mk mz mt (nI tn) (nI TT.2.1) TT.2.2.1 TT.2.2.2.1 zZ, aI T mt 60 tx] : va_W)) e_16)))
              have hP : va_P D vwCl [oMo mo ma mh (nI hn) th mk mz mt (nI tn) (nI TT.2.1) TT.2.2.1 TT.2.2.2.1 TT.2.2.2.2, aI T mt 60 tx] _ := Eq.subst (motive := fun w => va_P D vwCl w _) eW hP
              have hD : va_D A [oMo mo ma mh (nI hn) th mk mz mt (nI tn) (nI TT.2.1) TT.2.2.1 TT.2.2.2.1 TT.2.2.2.2, aI T mt 60 tx] := Eq.subst (motive := fun w => va_D A w) eW hD
              have e_17 : nI (rpK tx tn a true).2.1 = TT.1 := by have hv := hv; simp [erX, c13, c24, c34] at hv; rw [← hv]
              refine W.eq (g2 := F0 m 41 ls [.int TT.1]) (congrArg (fun z => F0 m 41 ls [.int z]) e_17) ?_
              exact hret _ _ _ _ _ (fun Qc free hq hf => W.iret hx hb hr hq hf dX9_errorOfText_41 hlk) hP hD hS
      · intro oo ii a sd te pq ha hv H locs ls hP hD hS hl
        have hle := rpK_le (tx := tx) (ob := false) htn ha
        refine lv_iload hx hb dX9_errorOfText_76 (lv_at hl 0 rfl) ?_
        refine lv_if_eq (tgt := 122) hx hb dX9_errorOfText_78 (by decide) (fun c_x => absurd c_x (by decide : ¬ ((1 : Int32) = 0))) (fun _ => ?_)
        refine lv_aload_n hx hb dX9_errorOfText_81 rfl (lv_at hl 4 rfl) ?_
        refine lv_iconst (v := 0) hx hb dX9_errorOfText_82 (by decide) ?_
        have hP := hP.sub (ws' := [oMo mo ma mh (nI hn) th mk mz mt (nI tn) (nI a) sd te pq, aI T mt 60 tx] ++ []) [0, 1] rfl
        have hD := hD.sub (ws' := [oMo mo ma mh (nI hn) th mk mz mt (nI tn) (nI a) sd te pq, aI T mt 60 tx] ++ []) [0, 1] (by decide) rfl
        refine kV (ci := 8) (As := [.int 0]) (rest := []) ⟨hx, hb, hml, hown, hts⟩ (c_X9_readsPhrase l D T mo ma mh mk mz mt tx hn th tn a sd te pq false (by first | omega | assumption) (by first | omega | assumption)) (cwV 1 hts gX9_errorOfText_X9_readsPhrase rfl rfl rfl (by decide +kernel) ⟨Nat.le_of_ble_eq_true rfl, Nat.le_of_ble_eq_true rfl⟩) hC hP hD hS hA rfl rfl rfl hl.1 rfl (Nat.le_of_ble_eq_true rfl) dX9_errorOfText_83 ⟨Nat.zero_le _, Nat.zero_le _⟩ (fun H locs hP hD hS => ?_)
        have hP : va_P D vwCl [oMo mo ma mh (nI hn) th mk mz mt (nI tn) (nI (rpK tx tn a false).2.1) sd (rpK tx tn a false).2.2.1 (rpK tx tn a false).2.2.2, aI T mt 60 tx] H := hP
        have hD : va_D A [oMo mo ma mh (nI hn) th mk mz mt (nI tn) (nI (rpK tx tn a false).2.1) sd (rpK tx tn a false).2.2.1 (rpK tx tn a false).2.2.2, aI T mt 60 tx] := hD
        refine W.eq (g2 := F0 m 86 ls [.int (bI (rpK tx tn a false).1)]) rfl ?_
        refine lv_if_ne (tgt := 94) hx hb dX9_errorOfText_86 (by decide) (fun c86 => ?_) (fun c86 => ?_)
        · have c86 := (bI0n _).mp c86
          refine lv_iload_n hx hb dX9_errorOfText_94 rfl (lv_at hl 1 rfl) ?_
          refine lv_aload_n hx hb dX9_errorOfText_95 rfl (lv_at hl 4 rfl) ?_
          refine va_get (D := D) (ci := 8) (v := .int (rpK tx tn a false).2.2.1) (C := RX9) (T := TX9) (N := 12) hx hb hts iX9 hown hC.1 hP 0 rfl rfl 10 (by decide) (hts (.fieldLink RX9 112 "ParrotCountsModel" "times" "I") (List.mem_of_getElem? (i := 5) rfl)) (fun _ h => h) rfl dX9_errorOfText_96 ?_
          refine lv_iadd hx hb dX9_errorOfText_99 ?_
          refine lv_istore_n (lv' := [(3, .int (ii + (rpK tx tn a false).2.2.1)), (4, .int 1), (2, .int oo), (1, .int 0), (0, .ref mo)]) hx hb dX9_errorOfText_100 rfl hl (by decide) rfl (fun ls hl => ?_)
          refine lv_aload_n hx hb dX9_errorOfText_101 rfl (lv_at hl 4 rfl) ?_
          refine lv_bipush (v := 41) hx hb dX9_errorOfText_102 (by decide) ?_
          refine lv_bipush (v := 41) hx hb dX9_errorOfText_104 (by decide) ?_
          have hP := hP.sub (ws' := [oMo mo ma mh (nI hn) th mk mz mt (nI tn) (nI (rpK tx tn a false).2.1) sd (rpK tx tn a false).2.2.1 (rpK tx tn a false).2.2.2, aI T mt 60 tx] ++ []) [0, 1] rfl
          have hD := hD.sub (ws' := [oMo mo ma mh (nI hn) th mk mz mt (nI tn) (nI (rpK tx tn a false).2.1) sd (rpK tx tn a false).2.2.1 (rpK tx tn a false).2.2.2, aI T mt 60 tx] ++ []) [0, 1] (by decide) rfl
          refine kV (ci := 8) (As := [.int 41, .int 41]) (rest := []) ⟨hx, hb, hml, hown, hts⟩ (c_X9_isHere l D T mo ma mh mk mz mt tx hn th tn (rpK tx tn a false).2.1 sd (rpK tx tn a false).2.2.1 (rpK tx tn a false).2.2.2 41 41 (by first | omega | assumption) (by first | omega | assumption)) (cwV 2 hts gX9_errorOfText_X9_isHere rfl rfl rfl (by decide +kernel) ⟨Nat.le_of_ble_eq_true rfl, Nat.le_of_ble_eq_true rfl⟩) hC hP hD hS hA rfl rfl rfl hl.1 rfl (Nat.le_of_ble_eq_true rfl) dX9_errorOfText_106 ⟨Nat.zero_le _, Nat.zero_le _⟩ (fun H locs hP hD hS => ?_)
          have hP : va_P D vwCl [oMo mo ma mh (nI hn) th mk mz mt (nI tn) (nI (rpK tx tn a false).2.1) sd (rpK tx tn a false).2.2.1 (rpK tx tn a false).2.2.2, aI T mt 60 tx] H := hP
          have hD : va_D A [oMo mo ma mh (nI hn) th mk mz mt (nI tn) (nI (rpK tx tn a false).2.1) sd (rpK tx tn a false).2.2.1 (rpK tx tn a false).2.2.2, aI T mt 60 tx] := hD
          refine W.eq (g2 := F0 m 109 ls [.int (bI (hrB tx tn (rpK tx tn a false).2.1 41 41))]) rfl ?_
          refine lv_if_ne (tgt := 116) hx hb dX9_errorOfText_109 (by decide) (fun c109 => ?_) (fun c109 => ?_)
          · have c109 := (bI0n _).mp c109
            refine lv_iconst (v := 0) hx hb dX9_errorOfText_116 (by decide) ?_
            refine lv_istore (lv' := [(4, .int 0), (3, .int (ii + (rpK tx tn a false).2.2.1)), (2, .int oo), (1, .int 0), (0, .ref mo)]) hx hb dX9_errorOfText_117 hl (by decide) rfl (fun ls hl => ?_)
            refine lv_goto (tgt := 76) hx hb dX9_errorOfText_119 (by decide) ?_
            refine lv_iload hx hb dX9_errorOfText_76 (lv_at hl 0 rfl) ?_
            refine lv_if_eq (tgt := 122) hx hb dX9_errorOfText_78 (by decide) (fun _ => ?_) (fun c_x => absurd (by decide : ((0 : Int32) = 0)) c_x)
            refine lv_aload_n hx hb dX9_errorOfText_122 rfl (lv_at hl 4 rfl) ?_
            refine lv_dup hx hb dX9_errorOfText_123 rfl ?_
            refine va_get (D := D) (ci := 8) (v := .int (nI (rpK tx tn a false).2.1)) (C := RX9) (T := TX9) (N := 12) hx hb hts iX9 hown hC.1 hP 0 rfl rfl 8 (by decide) (hts (.fieldLink RX9 109 "ParrotCountsModel" "at" "I") (List.mem_of_getElem? (i := 1) rfl)) (fun _ h => h) rfl dX9_errorOfText_124 ?_
            refine lv_iconst (v := 1) hx hb dX9_errorOfText_127 (by decide) ?_
            refine lv_iadd hx hb dX9_errorOfText_128 ?_
            refine W.eq (g2 := F0 m 129 ls (.int (nI ((rpK tx tn a false).2.1 + 1)) :: [.ref mo])) (congrArg (fun z => F0 m 129 ls (.int z :: [.ref mo])) (nI_1 (rpK tx tn a false).2.1)) ?_
            refine va_put (D := D) (ci := 8) (v := .int (nI ((rpK tx tn a false).2.1 + 1))) (ty := .int) (C := RX9) (T := TX9) (N := 12) hx hb hts iX9 tyX9 tyX9_ok nmX9 hown hC.1 hP hD hS 0 rfl rfl 8 (by decide) (hts (.fieldLink RX9 109 "ParrotCountsModel" "at" "I") (List.mem_of_getElem? (i := 1) rfl)) (fun _ h9 => h9) rfl (by decide +kernel) rfl rfl (Nat.le_of_ble_eq_true rfl) dX9_errorOfText_129 (fun H locs hP hD hS => ?_)
            have hP : va_P D vwCl [oMo mo ma mh (nI hn) th mk mz mt (nI tn) (nI ((rpK tx tn a false).2.1 + 1)) sd (rpK tx tn a false).2.2.1 (rpK tx tn a false).2.2.2, aI T mt 60 tx] H := hP
            have hD : va_D A [oMo mo ma mh (nI hn) th mk mz mt (nI tn) (nI ((rpK tx tn a false).2.1 + 1)) sd (rpK tx tn a false).2.2.1 (rpK tx tn a false).2.2.2, aI T mt 60 tx] := hD
            refine lv_aload_n hx hb dX9_errorOfText_132 rfl (lv_at hl 4 rfl) ?_
            refine lv_dup hx hb dX9_errorOfText_133 rfl ?_
            refine va_get (D := D) (ci := 8) (v := .int sd) (C := RX9) (T := TX9) (N := 12) hx hb hts iX9 hown hC.1 hP 0 rfl rfl 9 (by decide) (hts (.fieldLink RX9 79 "ParrotCountsModel" "songCalls" "I") (List.mem_of_getElem? (i := 2) rfl)) (fun _ h => h) rfl dX9_errorOfText_134 ?_
            refine lv_iload_n hx hb dX9_errorOfText_137 rfl (lv_at hl 2 rfl) ?_
            refine lv_iload_n hx hb dX9_errorOfText_138 rfl (lv_at hl 1 rfl) ?_
            refine lv_imul hx hb dX9_errorOfText_139 ?_
            refine lv_iadd hx hb dX9_errorOfText_140 ?_
            refine va_put (D := D) (ci := 8) (v := .int (sd + (oo * (ii + (rpK tx tn a false).2.2.1)))) (ty := .int) (C := RX9) (T := TX9) (N := 12) hx hb hts iX9 tyX9 tyX9_ok nmX9 hown hC.1 hP hD hS 0 rfl rfl 9 (by decide) (hts (.fieldLink RX9 79 "ParrotCountsModel" "songCalls" "I") (List.mem_of_getElem? (i := 2) rfl)) (fun _ h9 => h9) rfl (by decide +kernel) rfl rfl (Nat.le_of_ble_eq_true rfl) dX9_errorOfText_141 (fun H locs hP hD hS => ?_)
            have hP : va_P D vwCl [oMo mo ma mh (nI hn) th mk mz mt (nI tn) (nI ((rpK tx tn a false).2.1 + 1)) (sd + (oo * (ii + (rpK tx tn a false).2.2.1))) (rpK tx tn a false).2.2.1 (rpK tx tn a false).2.2.2, aI T mt 60 tx] H := hP
            have hD : va_D A [oMo mo ma mh (nI hn) th mk mz mt (nI tn) (nI ((rpK tx tn a false).2.1 + 1)) (sd + (oo * (ii + (rpK tx tn a false).2.2.1))) (rpK tx tn a false).2.2.1 (rpK tx tn a false).2.2.2, aI T mt 60 tx] := hD
            refine lv_goto (tgt := 12) hx hb dX9_errorOfText_144 (by decide) ?_
            have e_18 : (0 : Int32) = bI false := by first | with_reducible rfl | rfl
            have hl : lv_has ls 5 [(1, .int (bI false)), (0, .ref mo)] := lv_sub hl [3, 4] (by show (_ : List (Nat × Value)) = [(1, .int (bI false)), (0, .ref mo)]; rw [← e_18]; rfl)
            exact ih.1 false ((rpK tx tn a false).2.1 + 1) (sd + (oo * (ii + (rpK tx tn a false).2.2.1))) (rpK tx tn a false).2.2.1 (rpK tx tn a false).2.2.2 (by have := hr_lt htn hle c109; omega) (by simpa [erX, c86, c109] using hv) _ _ _ hP hD hS hl
          · have c109 := (bI0 _).mp c109
            refine lv_iconst (v := 1) hx hb dX9_errorOfText_112 (by decide) ?_
            refine lv_goto (tgt := 117) hx hb dX9_errorOfText_113 (by decide) ?_
            refine lv_istore (lv' := [(4, .int 1), (3, .int (ii + (rpK tx tn a false).2.2.1)), (2, .int oo), (1, .int 0), (0, .ref mo)]) hx hb dX9_errorOfText_117 hl (by decide) rfl (fun ls hl => ?_)
            refine lv_goto (tgt := 76) hx hb dX9_errorOfText_119 (by decide) ?_
            have hl : lv_has ls 5 [(4, .int 1), (3, .int (ii + (rpK tx tn a false).2.2.1)), (2, .int oo), (1, .int 0), (0, .ref mo)] := lv_sub hl [0, 1, 2, 3, 4] (by rfl)
            exact ih.2 oo (ii + (rpK tx tn a false).2.2.1) (rpK tx tn a false).2.1 sd (rpK tx tn a false).2.2.1 (rpK tx tn a false).2.2.2 (by first | assumption | omega) (by simpa [erX, c86, c109] using hv) _ _ _ hP hD hS hl
        · have c86 := (bI0 _).mp c86
          refine lv_aload_n hx hb dX9_errorOfText_89 rfl (lv_at hl 4 rfl) ?_
          refine va_get (D := D) (ci := 8) (v := .int (nI (rpK tx tn a false).2.1)) (C := RX9) (T := TX9) (N := 12) hx hb hts iX9 hown hC.1 hP 0 rfl rfl 8 (by decide) (hts (.fieldLink RX9 109 "ParrotCountsModel" "at" "I") (List.mem_of_getElem? (i := 1) rfl)) (fun _ h => h) rfl dX9_errorOfText_90 ?_
          have e_19 : nI (rpK tx tn a false).2.1 = nI TT.2.1 := by have hv := hv; simp [erX, c86] at hv; rw [← hv]
          have e_20 : sd = TT.2.2.1 := by have hv := hv; simp [erX, c86] at hv; rw [← hv]
          have e_21 : (rpK tx tn a false).2.2.1 = TT.2.2.2.1 := by have hv := hv; simp [erX, c86] at hv; rw [← hv]
          have e_22 : (rpK tx tn a false).2.2.2 = TT.2.2.2.2 := by have hv := hv; simp [erX, c86] at hv; rw [← hv]
          have eW := (congrArg (fun zZ => ([oMo mo ma mh (nI hn) th mk mz mt (nI tn) zZ sd (rpK tx tn a false).2.2.1 (rpK tx tn a false).2.2.2, aI T mt 60 tx] : va_W)) e_19).trans ((congrArg (fun zZ => ([oMo mo ma mh (nI hn) th mk mz mt (nI tn) (nI TT.2.1) zZ (rpK tx tn a false).2.2.1 (rpK tx tn a false).2.2.2, aI T mt 60 tx] : va_W)) e_20).trans ((congrArg (fun zZ => ([oMo mo ma mh (nI hn) th mk mz mt (nI tn) (nI TT.2.1) TT.2.2.1 zZ (rpK tx tn a false).2.2.2, aI T mt 60 tx] : va_W)) e_21).trans (congrArg (fun zZ => ([oMo mo ma mh (nI hn) th mk mz mt (nI tn) (nI TT.2.1) TT.2.2.1 TT.2.2.2.1 zZ, aI T mt 60 tx] : va_W)) e_22)))
          have hP : va_P D vwCl [oMo mo ma mh (nI hn) th mk mz mt (nI tn) (nI TT.2.1) TT.2.2.1 TT.2.2.2.1 TT.2.2.2.2, aI T mt 60 tx] _ := Eq.subst (motive := fun w => va_P D vwCl w _) eW hP
          have hD : va_D A [oMo mo ma mh (nI hn) th mk mz mt (nI tn) (nI TT.2.1) TT.2.2.1 TT.2.2.2.1 TT.2.2.2.2, aI T mt 60 tx] := Eq.subst (motive := fun w => va_D A w) eW hD
          have e_23 : nI (rpK tx tn a false).2.1 = TT.1 := by have hv := hv; simp [erX, c86] at hv; rw [← hv]
          refine W.eq (g2 := F0 m 93 ls [.int TT.1]) (congrArg (fun z => F0 m 93 ls [.int z]) e_23) ?_
          exact hret _ _ _ _ _ (fun Qc free hq hf => W.iret hx hb hr hq hf dX9_errorOfText_93 hlk) hP hD hS
  have hl : lv_has ls 5 [(0, .ref mo)] := hl
  have hP : va_P D vwCl [oMo mo ma mh (nI hn) th mk mz mt (nI tn) (nI ax) sc ti pp, aI T mt 60 tx] s.heap := hP
  have hD : va_D A [oMo mo ma mh (nI hn) th mk mz mt (nI tn) (nI ax) sc ti pp, aI T mt 60 tx] := hD
  refine lv_aload_n hx hb dX9_errorOfText_0 rfl (lv_at hl 0 rfl) ?_
  refine lv_iconst (v := 0) hx hb dX9_errorOfText_1 (by decide) ?_
  refine va_put (D := D) (ci := 8) (v := .int 0) (ty := .int) (C := RX9) (T := TX9) (N := 12) hx hb hts iX9 tyX9 tyX9_ok nmX9 hown hC.1 hP hD hS 0 rfl rfl 8 (by decide) (hts (.fieldLink RX9 109 "ParrotCountsModel" "at" "I") (List.mem_of_getElem? (i := 1) rfl)) (fun _ h9 => h9) rfl (by decide +kernel) rfl rfl (Nat.le_of_ble_eq_true rfl) dX9_errorOfText_2 (fun H locs hP hD hS => ?_)
  have hP : va_P D vwCl [oMo mo ma mh (nI hn) th mk mz mt (nI tn) 0 sc ti pp, aI T mt 60 tx] H := hP
  have hD : va_D A [oMo mo ma mh (nI hn) th mk mz mt (nI tn) 0 sc ti pp, aI T mt 60 tx] := hD
  refine lv_aload_n hx hb dX9_errorOfText_5 rfl (lv_at hl 0 rfl) ?_
  refine lv_iconst (v := 0) hx hb dX9_errorOfText_6 (by decide) ?_
  refine va_put (D := D) (ci := 8) (v := .int 0) (ty := .int) (C := RX9) (T := TX9) (N := 12) hx hb hts iX9 tyX9 tyX9_ok nmX9 hown hC.1 hP hD hS 0 rfl rfl 9 (by decide) (hts (.fieldLink RX9 79 "ParrotCountsModel" "songCalls" "I") (List.mem_of_getElem? (i := 2) rfl)) (fun _ h9 => h9) rfl (by decide +kernel) rfl rfl (Nat.le_of_ble_eq_true rfl) dX9_errorOfText_7 (fun H locs hP hD hS => ?_)
  have hP : va_P D vwCl [oMo mo ma mh (nI hn) th mk mz mt (nI tn) 0 0 ti pp, aI T mt 60 tx] H := hP
  have hD : va_D A [oMo mo ma mh (nI hn) th mk mz mt (nI tn) 0 0 ti pp, aI T mt 60 tx] := hD
  refine lv_iconst (v := 1) hx hb dX9_errorOfText_10 (by decide) ?_
  refine lv_istore_n (lv' := [(1, .int 1), (0, .ref mo)]) hx hb dX9_errorOfText_11 rfl hl (by decide) rfl (fun ls hl => ?_)
  have e_24 : 0 = nI 0 := by first | with_reducible rfl | rfl
  have eW := congrArg (fun zZ => ([oMo mo ma mh (nI hn) th mk mz mt (nI tn) zZ 0 ti pp, aI T mt 60 tx] : va_W)) e_24
  have hP : va_P D vwCl [oMo mo ma mh (nI hn) th mk mz mt (nI tn) (nI 0) 0 ti pp, aI T mt 60 tx] _ := Eq.subst (motive := fun w => va_P D vwCl w _) eW hP
  have hD : va_D A [oMo mo ma mh (nI hn) th mk mz mt (nI tn) (nI 0) 0 ti pp, aI T mt 60 tx] := Eq.subst (motive := fun w => va_D A w) eW hD
  have e_25 : (1 : Int32) = bI true := by first | with_reducible rfl | rfl
  have hl : lv_has ls 5 [(1, .int (bI true)), (0, .ref mo)] := lv_sub hl [0, 1] (by show (_ : List (Nat × Value)) = [(1, .int (bI true)), (0, .ref mo)]; rw [← e_25]; rfl)
  exact (loops N).1 true 0 0 ti pp (by first | assumption | omega) hT _ _ _ hP hD hS hl
