theorem ufS_no {un : Nat → Int32} {uk : Nat} {x : Int32} (h : uk ≤ 1000) (c : (1000 : Int32) ≤ nI uk) : ufS (un, uk) x = (un, uk) := by
  have h1 : ¬ uk < 1000 := fun q => nI_ge q (by decide) c
  unfold ufS
  exact if_neg h1
theorem ufS_lt {uk : Nat} (h : uk ≤ 1000) (c : ¬ (1000 : Int32) ≤ nI uk) : uk < 1000 ∧ 1000 ≤ 2147483647 := by
  refine ⟨?_, by decide⟩
  rcases Nat.lt_or_ge uk 1000 with q | q
  · exact q
  · exact absurd (nI_le (a := 1000) q (by omega)) c
theorem ufS_yes {un : Nat → Int32} {uk : Nat} {x : Int32} (h : uk ≤ 1000) (c : ¬ (1000 : Int32) ≤ nI uk) : ufS (un, uk) x = (upd un uk x, uk + 1) := by
  unfold ufS
  exact if_pos (ufS_lt h c).1
theorem ufS_ge {q : (Nat → Int32) × Nat} {x : Int32} : q.2 ≤ (ufS q x).2 := by
  unfold ufS
  by_cases h1 : q.2 < 1000
  · rw [if_pos h1]; exact Nat.le_succ _
  · rw [if_neg h1]; exact Nat.le_refl _
theorem ucN_ge {q : (Nat → Int32) × Nat} {x : Int32} : ∀ j, q.2 ≤ (ucN q x j).2
  | 0 => Nat.le_refl _
  | j + 1 => Nat.le_trans (ucN_ge j) ufS_ge
theorem rpI_ge {q : (Nat → Int32) × Nat} {st : Nat} : ∀ j, q.2 ≤ (rpI q st j).2
  | 0 => Nat.le_refl _
  | j + 1 => Nat.le_trans (rpI_ge j) ufS_ge
theorem rpO_ge {q : (Nat → Int32) × Nat} {st m : Nat} : ∀ j, q.2 ≤ (rpO q st m j).2
  | 0 => Nat.le_refl _
  | j + 1 => Nat.le_trans (rpO_ge j) (rpI_ge m)
def ufF (tc un : Nat → Int32) : Nat → Nat × Nat × ((Nat → Int32) × Nat)
  | 0 => (1, 0, (un, 0))
  | i + 1 => if chD (tc i) then ufF tc un i else if tc i = 40 then ((rdF tc i).1.toNatClampNeg, (ufF tc un i).2.2.2, (ufF tc un i).2.2) else if tc i = 41 then ((ufF tc un i).1, (ufF tc un i).2.1, rpO (ufF tc un i).2.2 (ufF tc un i).2.1 ((ufF tc un i).2.2.2 - (ufF tc un i).2.1) ((ufF tc un i).1 - 1)) else if chN (tc i) then ((ufF tc un i).1, (ufF tc un i).2.1, ucN (ufF tc un i).2.2 (tc i - 97) (mx1 (rdF tc i).1).toNatClampNeg) else ufF tc un i
theorem ufF_dg {tc un : Nat → Int32} {i : Nat} (c : chD (tc i) = true) : ufF tc un (i + 1) = ufF tc un i := by rw [ufF, if_pos c]
theorem ufF_op {tc un : Nat → Int32} {i : Nat} (c : chD (tc i) = false) (c2 : tc i = 40) : ufF tc un (i + 1) = ((rdF tc i).1.toNatClampNeg, (ufF tc un i).2.2.2, (ufF tc un i).2.2) := by rw [ufF, if_neg (by rw [c]; decide), if_pos c2]
theorem ufF_cl {tc un : Nat → Int32} {i : Nat} (c : chD (tc i) = false) (c2 : ¬ tc i = 40) (c3 : tc i = 41) : ufF tc un (i + 1) = ((ufF tc un i).1, (ufF tc un i).2.1, rpO (ufF tc un i).2.2 (ufF tc un i).2.1 ((ufF tc un i).2.2.2 - (ufF tc un i).2.1) ((ufF tc un i).1 - 1)) := by rw [ufF, if_neg (by rw [c]; decide), if_neg c2, if_pos c3]
theorem ufF_nm {tc un : Nat → Int32} {i : Nat} (c : chD (tc i) = false) (c2 : ¬ tc i = 40) (c3 : ¬ tc i = 41) (c4 : chN (tc i) = true) : ufF tc un (i + 1) = ((ufF tc un i).1, (ufF tc un i).2.1, ucN (ufF tc un i).2.2 (tc i - 97) (mx1 (rdF tc i).1).toNatClampNeg) := by rw [ufF, if_neg (by rw [c]; decide), if_neg c2, if_neg c3, if_pos c4]
theorem clamp_lt (x : Int32) : x.toNatClampNeg < 2147483648 := by
  have h1 := Int32.toInt_lt x
  have h2 : x.toNatClampNeg = x.toInt.toNat := rfl
  omega
theorem ufF_ok (tc un : Nat → Int32) : ∀ i, (ufF tc un i).2.1 ≤ (ufF tc un i).2.2.2 ∧ (ufF tc un i).2.2.2 ≤ 1000 ∧ (ufF tc un i).1 < 2147483648
  | 0 => ⟨Nat.le_refl _, Nat.zero_le _, by show (1 : Nat) < _; decide⟩
  | i + 1 => by
    obtain ⟨h1, h2, h3⟩ := ufF_ok tc un i
    by_cases c1 : chD (tc i) = true
    · rw [ufF_dg c1]; exact ⟨h1, h2, h3⟩
    · have c1 : chD (tc i) = false := by simpa using c1
      by_cases c2 : tc i = 40
      · rw [ufF_op c1 c2]; exact ⟨Nat.le_refl _, h2, clamp_lt _⟩
      · by_cases c3 : tc i = 41
        · rw [ufF_cl c1 c2 c3]; exact ⟨Nat.le_trans h1 (rpO_ge _), rpO_le h2 _, h3⟩
        · by_cases c4 : chN (tc i) = true
          · rw [ufF_nm c1 c2 c3 c4]; exact ⟨Nat.le_trans h1 (ucN_ge _), ucN_le h2 _, h3⟩
          · rw [ufF, if_neg (by rw [c1]; decide), if_neg c2, if_neg c3, if_neg c4]; exact ⟨h1, h2, h3⟩
theorem chD_40 {c : Int32} (h : c = 40) : chD c = false := by subst h; decide
theorem chD_41 {c : Int32} (h : c = 41) : chD c = false := by subst h; decide
theorem chN_40 {c : Int32} (h : c = 40) : chN c = false := by subst h; decide
theorem chN_41 {c : Int32} (h : c = 41) : chN c = false := by subst h; decide
theorem chN_D {c : Int32} (h : chD c = true) : chN c = false := by
  unfold chD at h
  unfold chN
  by_cases h1 : 48 ≤ c
  · rw [if_pos h1] at h
    have h2 : c ≤ 57 := of_decide_eq_true h
    have h3 : ¬ 97 ≤ c := by
      rw [Int32.le_iff_toInt_le] at h2 ⊢
      have e1 : (57 : Int32).toInt = 57 := by decide
      have e2 : (97 : Int32).toInt = 97 := by decide
      omega
    rw [if_neg h3]
  · rw [if_neg h1] at h; cases h
theorem rdF_dg {tc : Nat → Int32} {i : Nat} (h : rdA tc i = true) (c : chD (tc i) = true) : (rdF tc (i + 1)).1 = 10 * (rdF tc i).1 + (tc i - 48) := by
  unfold rdA rdK at h
  rw [if_pos c] at h
  rw [rdF]; unfold rdS; rw [if_pos c]
  show dgN _ _ = _
  unfold dgN; rw [if_pos h]
theorem rdF_op {tc : Nat → Int32} {i : Nat} (h : rdA tc i = true) (c : tc i = 40) : (rdF tc (i + 1)).1 = 0 := by
  unfold rdA rdK at h
  rw [if_neg (by rw [chD_40 c]; decide), if_neg (by rw [chN_40 c]; decide), if_pos c] at h
  rw [rdF]; unfold rdS; rw [if_neg (by rw [chD_40 c]; decide), if_neg (by rw [chN_40 c]; decide), if_pos c]
  show opN _ _ = _
  unfold opN; rw [if_pos h]
theorem rdF_cl {tc : Nat → Int32} {i : Nat} (c : tc i = 41) : (rdF tc (i + 1)).1 = (rdF tc i).1 := by
  rw [rdF]; unfold rdS; rw [if_neg (by rw [chD_41 c]; decide), if_neg (by rw [chN_41 c]; decide), if_neg (by rw [c]; decide), if_pos c]
theorem rdF_nm {tc : Nat → Int32} {i : Nat} (h : rdA tc i = true) (c0 : chD (tc i) = false) (c : chN (tc i) = true) : (rdF tc (i + 1)).1 = 0 := by
  unfold rdA rdK at h
  rw [if_neg (by rw [c0]; decide), if_pos c] at h
  rw [rdF]; unfold rdS; rw [if_neg (by rw [c0]; decide), if_pos c]
  show nmN _ = _
  unfold nmN; rw [if_pos h]
theorem rdA_no {tc : Nat → Int32} {i : Nat} (h : rdA tc i = true) (c1 : chD (tc i) = false) (c2 : ¬ tc i = 40) (c3 : ¬ tc i = 41) (c4 : chN (tc i) = false) : False := by
  unfold rdA rdK at h
  rw [if_neg (by rw [c1]; decide), if_neg (by rw [c4]; decide), if_neg c2, if_neg c3] at h
  cases h
theorem chD_dg {c : Int32} (h : chD c = true) : ∃ d, d ≤ 9 ∧ c - 48 = nI d ∧ c = nI (48 + d) := by
  unfold chD at h
  by_cases h1 : 48 ≤ c
  · rw [if_pos h1] at h
    have h2 : c ≤ 57 := of_decide_eq_true h
    have h0 : ¬ c < 0 := by
      rw [Int32.le_iff_toInt_le] at h1
      rw [Int32.lt_iff_toInt_lt]
      have e1 : (48 : Int32).toInt = 48 := by decide
      have e2 : (0 : Int32).toInt = 0 := by decide
      omega
    obtain ⟨j, hj, rfl⟩ := nI_of2 (M := 57) (n := 57) (by decide) h0 h2
    have h3 : 48 ≤ j := (nI_leI (a := 48) (by decide) (by omega)).mp h1
    exact ⟨j - 48, by omega, pk_sub (a := j) (b := 48) h3, by rw [show 48 + (j - 48) = j by omega]⟩
  · rw [if_neg h1] at h; cases h
theorem rd_nu {tc : Nat → Int32} : ∀ i, (∀ k, k < i → rdA tc k = true) → ∃ v, v ≤ 99 ∧ (rdF tc i).1 = nI v
  | 0, _ => ⟨0, by decide, rfl⟩
  | i + 1, h => by
    obtain ⟨v, h1, h2⟩ := rd_nu i (fun k hk => h k (by omega))
    have hA := h i (by omega)
    by_cases c1 : chD (tc i) = true
    · obtain ⟨d, hd, e1, -⟩ := chD_dg c1
      have h9 : v ≤ 9 := by
        have h3 : dgOK (rdF tc i).1 (tc i - 48) = true := by
          have := hA
          unfold rdA rdK at this
          rwa [if_pos c1] at this
        have h4 : (rdF tc i).1 ≤ 9 := by
          unfold dgOK at h3
          by_cases z : (rdF tc i).1 = 0
          · rw [z]; decide
          · rw [if_neg z] at h3; exact of_decide_eq_true h3
        rw [h2] at h4
        exact (nI_leI (b := 9) (by omega) (by decide)).mp h4
      refine ⟨10 * v + d, by omega, ?_⟩
      rw [rdF_dg hA c1, h2, e1, ← nI_add, ← pk_mul]; rfl
    · have c1 : chD (tc i) = false := by simpa using c1
      by_cases c4 : chN (tc i) = true
      · exact ⟨0, by decide, rdF_nm hA c1 c4⟩
      · have c4 : chN (tc i) = false := by simpa using c4
        by_cases c2 : tc i = 40
        · exact ⟨0, by decide, rdF_op hA c2⟩
        · by_cases c3 : tc i = 41
          · exact ⟨v, h1, by rw [rdF_cl c3, h2]⟩
          · exact absurd (rdA_no hA c1 c2 c3 c4) id
theorem mx1_nI {x : Int32} {v : Nat} (hv : v ≤ 99) (e : x = nI v) : (if x < 1 then 1 else x) = nI (mx1 x).toNatClampNeg := by
  have h : ∃ u, u ≤ 99 ∧ mx1 x = nI u := by
    unfold mx1
    by_cases h : x < 1
    · rw [if_pos h]; exact ⟨1, by decide, rfl⟩
    · rw [if_neg h]; exact ⟨v, hv, e⟩
  obtain ⟨u, h1, h2⟩ := h
  show mx1 x = _
  rw [h2, nI_clamp (by omega)]
abbrev rX6_unfoldCall : Room := { frames := 0, cells := 0, slots := 0, locals := 0 }
set_option maxHeartbeats 4000000 in
set_option maxRecDepth 100000 in
theorem c_X6_unfoldCall (l : Launch) (D : va_G) (T : Nat → ClassId) (so xc ro xu lc uk : Nat) (un : Nat → Int32) (x : Int32) (hu : uk ≤ 1000) : kM l D T yX6_unfoldCall wsX6_unfoldCall rX6_unfoldCall [.ref so, .int x] [oSo so xc ro xu (nI lc) (nI uk), aI T xu 1000 un] none [oSo so xc ro xu (nI lc) (nI (ufS (un, uk) x).2), aI T xu 1000 (ufS (un, uk) x).1] := by
  refine kM.of (cc := cX6_unfoldCall) (maxL := 2) (ret := none) (by decide) rfl (Nat.le_of_ble_eq_true rfl) ?_
  intro p e s m below meth c A Q ls hx hb hml hown hr hlk hts hC hP hD hS hA hl hret
  have iX6 : ∀ w ∈ wsX60, w ∈ wsX6_unfoldCall := (fun _ h => List.mem_cons_of_mem _ (List.mem_append_right _ h))
  have hl : lv_has ls 2 [(0, .ref so), (1, .int x)] := hl
  have hP : va_P D vwCl [oSo so xc ro xu (nI lc) (nI uk), aI T xu 1000 un] s.heap := hP
  have hD : va_D A [oSo so xc ro xu (nI lc) (nI uk), aI T xu 1000 un] := hD
  refine lv_aload_n hx hb dX6_unfoldCall_0 rfl (lv_at hl 0 rfl) ?_
  refine va_get (D := D) (ci := 5) (v := .int (nI uk)) (C := RX6) (T := TX6) (N := 5) hx hb hts iX6 hown hC.1 hP 0 rfl rfl 4 (by decide) (hts (.fieldLink RX6 45 "ParrotCounts$SongText" "unfoldedCalls" "I") (List.mem_of_getElem? (i := 1) rfl)) (fun _ h => h) rfl dX6_unfoldCall_1 ?_
  refine lv_aload_n hx hb dX6_unfoldCall_4 rfl (lv_at hl 0 rfl) ?_
  refine va_get (D := D) (ci := 5) (v := .ref xu) (C := RX6) (T := TX6) (N := 5) hx hb hts iX6 hown hC.1 hP 0 rfl rfl 2 (by decide) (hts (.fieldLink RX6 22 "ParrotCounts$SongText" "unfolded" "[I") (List.mem_of_getElem? (i := 2) rfl)) (fun _ h => h) rfl dX6_unfoldCall_5 ?_
  refine va_alen (v := 1000) hx hb hC.1 hP 1 0 rfl rfl rfl dX6_unfoldCall_8 ?_
  refine lv_icmp_ge (tgt := 32) hx hb dX6_unfoldCall_9 (by decide) (fun c9 => ?_) (fun c9 => ?_)
  · have e_1 : nI uk = nI (ufS (un, uk) x).2 := by first | (rw [ufS_no hu c9]; done) | (rw [ufS_yes hu c9]; done)
    have e_2 : un = (ufS (un, uk) x).1 := by first | (rw [ufS_no hu c9]; done) | (rw [ufS_yes hu c9]; done)
    have eW := (congrArg (fun zZ => ([oSo so xc ro xu (nI lc) zZ, aI T xu 1000 un] : va_W)) e_1).trans (congrArg (fun zZ => ([oSo so xc ro xu (nI lc) (nI (ufS (un, uk) x).2), aI T xu 1000 zZ] : va_W)) e_2)
    have hP : va_P D vwCl [oSo so xc ro xu (nI lc) (nI (ufS (un, uk) x).2), aI T xu 1000 (ufS (un, uk) x).1] _ := Eq.subst (motive := fun w => va_P D vwCl w _) eW hP
    have hD : va_D A [oSo so xc ro xu (nI lc) (nI (ufS (un, uk) x).2), aI T xu 1000 (ufS (un, uk) x).1] := Eq.subst (motive := fun w => va_D A w) eW hD
    exact hret _ _ _ _ _ (fun Qc free hq hf => W.vret hx hb hr hq hf dX6_unfoldCall_32 hlk) hP hD hS
  · refine lv_aload_n hx hb dX6_unfoldCall_12 rfl (lv_at hl 0 rfl) ?_
    refine va_get (D := D) (ci := 5) (v := .ref xu) (C := RX6) (T := TX6) (N := 5) hx hb hts iX6 hown hC.1 hP 0 rfl rfl 2 (by decide) (hts (.fieldLink RX6 22 "ParrotCounts$SongText" "unfolded" "[I") (List.mem_of_getElem? (i := 2) rfl)) (fun _ h => h) rfl dX6_unfoldCall_13 ?_
    refine lv_aload_n hx hb dX6_unfoldCall_16 rfl (lv_at hl 0 rfl) ?_
    refine va_get (D := D) (ci := 5) (v := .int (nI uk)) (C := RX6) (T := TX6) (N := 5) hx hb hts iX6 hown hC.1 hP 0 rfl rfl 4 (by decide) (hts (.fieldLink RX6 45 "ParrotCounts$SongText" "unfoldedCalls" "I") (List.mem_of_getElem? (i := 1) rfl)) (fun _ h => h) rfl dX6_unfoldCall_17 ?_
    refine lv_iload_n hx hb dX6_unfoldCall_20 rfl (lv_at hl 1 rfl) ?_
    refine k_iast hx hb hC.1 hP hD hS 1 0 rfl rfl (ufS_lt hu c9) dX6_unfoldCall_21 (fun H locs hP hD hS => ?_)
    have hP : va_P D vwCl [oSo so xc ro xu (nI lc) (nI uk), aI T xu 1000 (upd un uk x)] H := hP
    have hD : va_D A [oSo so xc ro xu (nI lc) (nI uk), aI T xu 1000 (upd un uk x)] := hD
    refine lv_aload_n hx hb dX6_unfoldCall_22 rfl (lv_at hl 0 rfl) ?_
    refine lv_dup hx hb dX6_unfoldCall_23 rfl ?_
    refine va_get (D := D) (ci := 5) (v := .int (nI uk)) (C := RX6) (T := TX6) (N := 5) hx hb hts iX6 hown hC.1 hP 0 rfl rfl 4 (by decide) (hts (.fieldLink RX6 45 "ParrotCounts$SongText" "unfoldedCalls" "I") (List.mem_of_getElem? (i := 1) rfl)) (fun _ h => h) rfl dX6_unfoldCall_24 ?_
    refine lv_iconst (v := 1) hx hb dX6_unfoldCall_27 (by decide) ?_
    refine lv_iadd hx hb dX6_unfoldCall_28 ?_
    refine W.eq (g2 := F0 m 29 ls (.int (nI (uk + 1)) :: [.ref so])) (congrArg (fun z => F0 m 29 ls (.int z :: [.ref so])) (nI_1 uk)) ?_
    refine va_put (D := D) (ci := 5) (v := .int (nI (uk + 1))) (ty := .int) (C := RX6) (T := TX6) (N := 5) hx hb hts iX6 tyX6 tyX6_ok nmX6 hown hC.1 hP hD hS 0 rfl rfl 4 (by decide) (hts (.fieldLink RX6 45 "ParrotCounts$SongText" "unfoldedCalls" "I") (List.mem_of_getElem? (i := 1) rfl)) (fun _ h9 => h9) rfl (by decide +kernel) rfl rfl (Nat.le_of_ble_eq_true rfl) dX6_unfoldCall_29 (fun H locs hP hD hS => ?_)
    have hP : va_P D vwCl [oSo so xc ro xu (nI lc) (nI (uk + 1)), aI T xu 1000 (upd un uk x)] H := hP
    have hD : va_D A [oSo so xc ro xu (nI lc) (nI (uk + 1)), aI T xu 1000 (upd un uk x)] := hD
    have e_3 : nI (uk + 1) = nI (ufS (un, uk) x).2 := by first | (rw [ufS_no hu c9]; done) | (rw [ufS_yes hu c9]; done)
    have e_4 : upd un uk x = (ufS (un, uk) x).1 := by first | (rw [ufS_no hu c9]; done) | (rw [ufS_yes hu c9]; done)
    have eW := (congrArg (fun zZ => ([oSo so xc ro xu (nI lc) zZ, aI T xu 1000 (upd un uk x)] : va_W)) e_3).trans (congrArg (fun zZ => ([oSo so xc ro xu (nI lc) (nI (ufS (un, uk) x).2), aI T xu 1000 zZ] : va_W)) e_4)
    have hP : va_P D vwCl [oSo so xc ro xu (nI lc) (nI (ufS (un, uk) x).2), aI T xu 1000 (ufS (un, uk) x).1] _ := Eq.subst (motive := fun w => va_P D vwCl w _) eW hP
    have hD : va_D A [oSo so xc ro xu (nI lc) (nI (ufS (un, uk) x).2), aI T xu 1000 (ufS (un, uk) x).1] := Eq.subst (motive := fun w => va_D A w) eW hD
    exact hret _ _ _ _ _ (fun Qc free hq hf => W.vret hx hb hr hq hf dX6_unfoldCall_32 hlk) hP hD hS
abbrev rX6_unfoldName : Room := { frames := 1, cells := 0, slots := 0, locals := 21 }
set_option maxHeartbeats 4000000 in
set_option maxRecDepth 100000 in
theorem c_X6_unfoldName (l : Launch) (D : va_G) (T : Nat → ClassId) (so xc ro xu lc uk : Nat) (un : Nat → Int32) (x : Int32) (tm : Nat) (hu : uk ≤ 1000) (htm : tm < 2147483648) : kM l D T yX6_unfoldName wsX6_unfoldName rX6_unfoldName [.ref so, .int x, .int (nI tm)] [oSo so xc ro xu (nI lc) (nI uk), aI T xu 1000 un] none [oSo so xc ro xu (nI lc) (nI (ucN (un, uk) x tm).2), aI T xu 1000 (ucN (un, uk) x tm).1] := by
  refine kM.of (cc := cX6_unfoldName) (maxL := 4) (ret := none) (by decide) rfl (Nat.le_of_ble_eq_true rfl) ?_
  intro p e s m below meth c A Q ls hx hb hml hown hr hlk hts hC hP hD hS hA hl hret
  have loop_2 : ∀ (n j : Nat), j + n = tm → ∀ (H : Heap) (locs : List Loc) (ls : Array Slot), va_P D vwCl [oSo so xc ro xu (nI lc) (nI (ucN (un, uk) x j).2), aI T xu 1000 (ucN (un, uk) x j).1] H → va_D A [oSo so xc ro xu (nI lc) (nI (ucN (un, uk) x j).2), aI T xu 1000 (ucN (un, uk) x j).1] → va_S A s.heap H locs → lv_has ls 4 [(3, .int (nI j)), (0, .ref so), (1, .int x), (2, .int (nI tm))] → W p l e rX6_unfoldName s m [.ref so, .int x, .int (nI tm)].toArray below meth c H locs 0 0 Q (F0 m 2 ls []) := by
    intro n
    induction n with
    | zero =>
      intro j hi  H locs ls hP hD hS hl
      have hi9 : tm = j := by omega
      subst hi9
      refine lv_iload_n hx hb dX6_unfoldName_2 rfl (lv_at hl 0 rfl) ?_
      refine lv_iload_n hx hb dX6_unfoldName_3 rfl (lv_at hl 3 rfl) ?_
      refine lv_icmp_ge (tgt := 18) hx hb dX6_unfoldName_4 (by decide) (fun _ => ?_) (fun c_x => absurd (Int32.le_refl _) c_x)
      exact hret _ _ _ _ _ (fun Qc free hq hf => W.vret hx hb hr hq hf dX6_unfoldName_18 hlk) hP hD hS
    | succ n ih =>
      intro j hi  H locs ls hP hD hS hl
      have hlt : j < tm := by omega
      refine lv_iload_n hx hb dX6_unfoldName_2 rfl (lv_at hl 0 rfl) ?_
      refine lv_iload_n hx hb dX6_unfoldName_3 rfl (lv_at hl 3 rfl) ?_
      refine lv_icmp_ge (tgt := 18) hx hb dX6_unfoldName_4 (by decide) (fun c_x => absurd c_x (nI_ge (b := tm) hlt (by omega))) (fun _ => ?_)
      refine lv_aload_n hx hb dX6_unfoldName_7 rfl (lv_at hl 1 rfl) ?_
      refine lv_iload_n hx hb dX6_unfoldName_8 rfl (lv_at hl 2 rfl) ?_
      have hP := hP.sub (ws' := [oSo so xc ro xu (nI lc) (nI (ucN (un, uk) x j).2), aI T xu 1000 (ucN (un, uk) x j).1] ++ []) [0, 1] rfl
      have hD := hD.sub (ws' := [oSo so xc ro xu (nI lc) (nI (ucN (un, uk) x j).2), aI T xu 1000 (ucN (un, uk) x j).1] ++ []) [0, 1] (by decide) rfl
      refine kV (ci := 5) (As := [.int x]) (rest := []) ⟨hx, hb, hml, hown, hts⟩ (c_X6_unfoldCall l D T so xc ro xu lc (ucN (un, uk) x j).2 (ucN (un, uk) x j).1 x (ucN_le (q := (un, uk)) hu j)) (cwV 1 hts gX6_unfoldName_X6_unfoldCall rfl rfl rfl (by decide +kernel) ⟨Nat.le_of_ble_eq_true rfl, Nat.le_of_ble_eq_true rfl⟩) hC hP hD hS hA rfl rfl rfl hl.1 rfl (Nat.le_of_ble_eq_true rfl) dX6_unfoldName_9 ⟨Nat.zero_le _, Nat.zero_le _⟩ (fun H locs hP hD hS => ?_)
      have hP : va_P D vwCl [oSo so xc ro xu (nI lc) (nI (ufS ((ucN (un, uk) x j).1, (ucN (un, uk) x j).2) x).2), aI T xu 1000 (ufS ((ucN (un, uk) x j).1, (ucN (un, uk) x j).2) x).1] H := hP
      have hD : va_D A [oSo so xc ro xu (nI lc) (nI (ufS ((ucN (un, uk) x j).1, (ucN (un, uk) x j).2) x).2), aI T xu 1000 (ufS ((ucN (un, uk) x j).1, (ucN (un, uk) x j).2) x).1] := hD
      refine W.eq (g2 := F0 m 12 ls []) rfl ?_
      refine lv_iinc (v := nI (j + 1)) (lv' := [(3, .int (nI (j + 1))), (0, .ref so), (1, .int x), (2, .int (nI tm))]) hx hb dX6_unfoldName_12 hl (k := 0) rfl (nI_1 j) (by decide) rfl (fun ls hl => ?_)
      refine lv_goto (tgt := 2) hx hb dX6_unfoldName_15 (by decide) ?_
      have e_1 : nI (ufS ((ucN (un, uk) x j).1, (ucN (un, uk) x j).2) x).2 = nI (ucN (un, uk) x (j + 1)).2 := by first | (rw [ucN]; done) | rfl
      have e_2 : (ufS ((ucN (un, uk) x j).1, (ucN (un, uk) x j).2) x).1 = (ucN (un, uk) x (j + 1)).1 := by first | (rw [ucN]; done) | rfl
      have eW := (congrArg (fun zZ => ([oSo so xc ro xu (nI lc) zZ, aI T xu 1000 (ufS ((ucN (un, uk) x j).1, (ucN (un, uk) x j).2) x).1] : va_W)) e_1).trans (congrArg (fun zZ => ([oSo so xc ro xu (nI lc) (nI (ucN (un, uk) x (j + 1)).2), aI T xu 1000 zZ] : va_W)) e_2)
      have hP : va_P D vwCl [oSo so xc ro xu (nI lc) (nI (ucN (un, uk) x (j + 1)).2), aI T xu 1000 (ucN (un, uk) x (j + 1)).1] _ := Eq.subst (motive := fun w => va_P D vwCl w _) eW hP
      have hD : va_D A [oSo so xc ro xu (nI lc) (nI (ucN (un, uk) x (j + 1)).2), aI T xu 1000 (ucN (un, uk) x (j + 1)).1] := Eq.subst (motive := fun w => va_D A w) eW hD
      have hl : lv_has ls 4 [(3, .int (nI (j + 1))), (0, .ref so), (1, .int x), (2, .int (nI tm))] := lv_sub hl [0, 1, 2, 3] (by rfl)
      exact ih (j + 1) (by omega)  _ _ _ hP hD hS hl
  have hl : lv_has ls 4 [(0, .ref so), (1, .int x), (2, .int (nI tm))] := hl
  have hP : va_P D vwCl [oSo so xc ro xu (nI lc) (nI uk), aI T xu 1000 un] s.heap := hP
  have hD : va_D A [oSo so xc ro xu (nI lc) (nI uk), aI T xu 1000 un] := hD
  refine lv_iconst (v := 0) hx hb dX6_unfoldName_0 (by decide) ?_
  refine lv_istore_n (lv' := [(3, .int 0), (0, .ref so), (1, .int x), (2, .int (nI tm))]) hx hb dX6_unfoldName_1 rfl hl (by decide) rfl (fun ls hl => ?_)
  have e_3 : nI uk = nI (ucN (un, uk) x 0).2 := by first | rfl
  have e_4 : un = (ucN (un, uk) x 0).1 := by first | rfl
  have eW := (congrArg (fun zZ => ([oSo so xc ro xu (nI lc) zZ, aI T xu 1000 un] : va_W)) e_3).trans (congrArg (fun zZ => ([oSo so xc ro xu (nI lc) (nI (ucN (un, uk) x 0).2), aI T xu 1000 zZ] : va_W)) e_4)
  have hP : va_P D vwCl [oSo so xc ro xu (nI lc) (nI (ucN (un, uk) x 0).2), aI T xu 1000 (ucN (un, uk) x 0).1] _ := Eq.subst (motive := fun w => va_P D vwCl w _) eW hP
  have hD : va_D A [oSo so xc ro xu (nI lc) (nI (ucN (un, uk) x 0).2), aI T xu 1000 (ucN (un, uk) x 0).1] := Eq.subst (motive := fun w => va_D A w) eW hD
  have e_5 : (0 : Int32) = nI 0 := by first | rfl
  have hl : lv_has ls 4 [(3, .int (nI 0)), (0, .ref so), (1, .int x), (2, .int (nI tm))] := lv_sub hl [0, 1, 2, 3] (by show (_ : List (Nat × Value)) = [(3, .int (nI 0)), (0, .ref so), (1, .int x), (2, .int (nI tm))]; rw [← e_5]; rfl)
  exact loop_2 tm 0 (by omega)  _ _ _ hP hD hS hl
abbrev rX6_repeat : Room := { frames := 1, cells := 0, slots := 0, locals := 21 }
set_option maxHeartbeats 4000000 in
set_option maxRecDepth 100000 in
theorem c_X6_repeat (l : Launch) (D : va_G) (T : Nat → ClassId) (so xc ro xu lc uk : Nat) (un : Nat → Int32) (st tm : Nat) (hu : uk ≤ 1000) (hst : st ≤ uk) (htm : tm < 2147483648) : kM l D T yX6_repeat wsX6_repeat rX6_repeat [.ref so, .int (nI st), .int (nI tm)] [oSo so xc ro xu (nI lc) (nI uk), aI T xu 1000 un] none [oSo so xc ro xu (nI lc) (nI (rpO (un, uk) st (uk - st) (tm - 1)).2), aI T xu 1000 (rpO (un, uk) st (uk - st) (tm - 1)).1] := by
  refine kM.of (cc := cX6_repeat) (maxL := 6) (ret := none) (by decide) rfl (Nat.le_of_ble_eq_true rfl) ?_
  intro p e s m below meth c A Q ls hx hb hml hown hr hlk hts hC hP hD hS hA hl hret
  have iX6 : ∀ w ∈ wsX60, w ∈ wsX6_repeat := (fun _ h => List.mem_cons_of_mem _ (List.mem_append_right _ h))
  have loop_17 : ∀ (j : Nat), ∀ (n i : Nat), i + n = (uk - st) → ∀ (H : Heap) (locs : List Loc) (ls : Array Slot), (∀ (H : Heap) (locs : List Loc) (ls : Array Slot), va_P D vwCl [oSo so xc ro xu (nI lc) (nI (rpO (un, uk) st (uk - st) (j + 1)).2), aI T xu 1000 (rpO (un, uk) st (uk - st) (j + 1)).1] H → va_D A [oSo so xc ro xu (nI lc) (nI (rpO (un, uk) st (uk - st) (j + 1)).2), aI T xu 1000 (rpO (un, uk) st (uk - st) (j + 1)).1] → va_S A s.heap H locs → lv_has ls 6 [(4, .int (nI (j + 1))), (3, .int (nI uk)), (0, .ref so), (1, .int (nI st)), (2, .int (nI tm))] → W p l e rX6_repeat s m [.ref so, .int (nI st), .int (nI tm)].toArray below meth c H locs 0 0 Q (F0 m 40 ls [])) → va_P D vwCl [oSo so xc ro xu (nI lc) (nI (rpI (rpO (un, uk) st (uk - st) j) st i).2), aI T xu 1000 (rpI (rpO (un, uk) st (uk - st) j) st i).1] H → va_D A [oSo so xc ro xu (nI lc) (nI (rpI (rpO (un, uk) st (uk - st) j) st i).2), aI T xu 1000 (rpI (rpO (un, uk) st (uk - st) j) st i).1] → va_S A s.heap H locs → lv_has ls 6 [(5, .int (nI (st + i))), (4, .int (nI (j + 1))), (3, .int (nI uk)), (0, .ref so), (1, .int (nI st)), (2, .int (nI tm))] → W p l e rX6_repeat s m [.ref so, .int (nI st), .int (nI tm)].toArray below meth c H locs 0 0 Q (F0 m 17 ls []) := by
    intro j n
    induction n with
    | zero =>
      intro i hi  H locs ls hk hP hD hS hl
      have hi9 : (uk - st) = i := by omega
      subst hi9
      refine lv_iload hx hb dX6_repeat_17 (lv_at hl 0 rfl) ?_
      refine lv_iload_n hx hb dX6_repeat_19 rfl (lv_at hl 2 rfl) ?_
      refine lv_icmp_ge (tgt := 40) hx hb dX6_repeat_20 (by decide) (fun _ => ?_) (fun c_x => absurd (nI_le (by omega) (by omega)) c_x)
      have e_1 : nI (rpI (rpO (un, uk) st (uk - st) j) st (uk - st)).2 = nI (rpO (un, uk) st (uk - st) (j + 1)).2 := by rw [rpO]
      have e_2 : (rpI (rpO (un, uk) st (uk - st) j) st (uk - st)).1 = (rpO (un, uk) st (uk - st) (j + 1)).1 := by rw [rpO]
      have eW := (congrArg (fun zZ => ([oSo so xc ro xu (nI lc) zZ, aI T xu 1000 (rpI (rpO (un, uk) st (uk - st) j) st (uk - st)).1] : va_W)) e_1).trans (congrArg (fun zZ => ([oSo so xc ro xu (nI lc) (nI (rpO (un, uk) st (uk - st) (j + 1)).2), aI T xu 1000 zZ] : va_W)) e_2)
      have hP : va_P D vwCl [oSo so xc ro xu (nI lc) (nI (rpO (un, uk) st (uk - st) (j + 1)).2), aI T xu 1000 (rpO (un, uk) st (uk - st) (j + 1)).1] _ := Eq.subst (motive := fun w => va_P D vwCl w _) eW hP
      have hD : va_D A [oSo so xc ro xu (nI lc) (nI (rpO (un, uk) st (uk - st) (j + 1)).2), aI T xu 1000 (rpO (un, uk) st (uk - st) (j + 1)).1] := Eq.subst (motive := fun w => va_D A w) eW hD
      have hl : lv_has ls 6 [(4, .int (nI (j + 1))), (3, .int (nI uk)), (0, .ref so), (1, .int (nI st)), (2, .int (nI tm))] := lv_sub hl [1, 2, 3, 4, 5] (by rfl)
      exact hk _ _ _ hP hD hS hl
    | succ n ih =>
      intro i hi  H locs ls hk hP hD hS hl
      have hlt : i < (uk - st) := by omega
      refine lv_iload hx hb dX6_repeat_17 (lv_at hl 0 rfl) ?_
      refine lv_iload_n hx hb dX6_repeat_19 rfl (lv_at hl 2 rfl) ?_
      refine lv_icmp_ge (tgt := 40) hx hb dX6_repeat_20 (by decide) (fun c_x => absurd c_x (nI_ge (b := uk) (by omega) (by omega))) (fun _ => ?_)
      refine lv_aload_n hx hb dX6_repeat_23 rfl (lv_at hl 3 rfl) ?_
      refine lv_aload_n hx hb dX6_repeat_24 rfl (lv_at hl 3 rfl) ?_
      refine va_get (D := D) (ci := 5) (v := .ref xu) (C := RX6) (T := TX6) (N := 5) hx hb hts iX6 hown hC.1 hP 0 rfl rfl 2 (by decide) (hts (.fieldLink RX6 22 "ParrotCounts$SongText" "unfolded" "[I") (List.mem_of_getElem? (i := 2) rfl)) (fun _ h => h) rfl dX6_repeat_25 ?_
      refine lv_iload hx hb dX6_repeat_28 (lv_at hl 0 rfl) ?_
      refine k_iald hx hb hC.1 hP 1 0 rfl rfl (by omega) dX6_repeat_30 ?_
      have hP := hP.sub (ws' := [oSo so xc ro xu (nI lc) (nI (rpI (rpO (un, uk) st (uk - st) j) st i).2), aI T xu 1000 (rpI (rpO (un, uk) st (uk - st) j) st i).1] ++ []) [0, 1] rfl
      have hD := hD.sub (ws' := [oSo so xc ro xu (nI lc) (nI (rpI (rpO (un, uk) st (uk - st) j) st i).2), aI T xu 1000 (rpI (rpO (un, uk) st (uk - st) j) st i).1] ++ []) [0, 1] (by decide) rfl
      refine kV (ci := 5) (As := [.int ((rpI (rpO (un, uk) st (uk - st) j) st i).1 (st + i))]) (rest := []) ⟨hx, hb, hml, hown, hts⟩ (c_X6_unfoldCall l D T so xc ro xu lc (rpI (rpO (un, uk) st (uk - st) j) st i).2 (rpI (rpO (un, uk) st (uk - st) j) st i).1 ((rpI (rpO (un, uk) st (uk - st) j) st i).1 (st + i)) (rpI_le (rpO_le (q := (un, uk)) hu j) i)) (cwV 1 hts gX6_repeat_X6_unfoldCall rfl rfl rfl (by decide +kernel) ⟨Nat.le_of_ble_eq_true rfl, Nat.le_of_ble_eq_true rfl⟩) hC hP hD hS hA rfl rfl rfl hl.1 rfl (Nat.le_of_ble_eq_true rfl) dX6_repeat_31 ⟨Nat.zero_le _, Nat.zero_le _⟩ (fun H locs hP hD hS => ?_)
      have hP : va_P D vwCl [oSo so xc ro xu (nI lc) (nI (ufS ((rpI (rpO (un, uk) st (uk - st) j) st i).1, (rpI (rpO (un, uk) st (uk - st) j) st i).2) ((rpI (rpO (un, uk) st (uk - st) j) st i).1 (st + i))).2), aI T xu 1000 (ufS ((rpI (rpO (un, uk) st (uk - st) j) st i).1, (rpI (rpO (un, uk) st (uk - st) j) st i).2) ((rpI (rpO (un, uk) st (uk - st) j) st i).1 (st + i))).1] H := hP
      have hD : va_D A [oSo so xc ro xu (nI lc) (nI (ufS ((rpI (rpO (un, uk) st (uk - st) j) st i).1, (rpI (rpO (un, uk) st (uk - st) j) st i).2) ((rpI (rpO (un, uk) st (uk - st) j) st i).1 (st + i))).2), aI T xu 1000 (ufS ((rpI (rpO (un, uk) st (uk - st) j) st i).1, (rpI (rpO (un, uk) st (uk - st) j) st i).2) ((rpI (rpO (un, uk) st (uk - st) j) st i).1 (st + i))).1] := hD
      refine W.eq (g2 := F0 m 34 ls []) rfl ?_
      refine lv_iinc (v := nI ((st + i) + 1)) (lv' := [(5, .int (nI ((st + i) + 1))), (4, .int (nI (j + 1))), (3, .int (nI uk)), (0, .ref so), (1, .int (nI st)), (2, .int (nI tm))]) hx hb dX6_repeat_34 hl (k := 0) rfl (nI_1 (st + i)) (by decide) rfl (fun ls hl => ?_)
      refine lv_goto (tgt := 17) hx hb dX6_repeat_37 (by decide) ?_
      have e_3 : nI (ufS ((rpI (rpO (un, uk) st (uk - st) j) st i).1, (rpI (rpO (un, uk) st (uk - st) j) st i).2) ((rpI (rpO (un, uk) st (uk - st) j) st i).1 (st + i))).2 = nI (rpI (rpO (un, uk) st (uk - st) j) st (i + 1)).2 := by first | (rw [rpI]; done) | (rw [Nat.add_assoc]; done) | rfl
      have e_4 : (ufS ((rpI (rpO (un, uk) st (uk - st) j) st i).1, (rpI (rpO (un, uk) st (uk - st) j) st i).2) ((rpI (rpO (un, uk) st (uk - st) j) st i).1 (st + i))).1 = (rpI (rpO (un, uk) st (uk - st) j) st (i + 1)).1 := by first | (rw [rpI]; done) | (rw [Nat.add_assoc]; done) | rfl
      have eW := (congrArg (fun zZ => ([oSo so xc ro xu (nI lc) zZ, aI T xu 1000 (ufS ((rpI (rpO (un, uk) st (uk - st) j) st i).1, (rpI (rpO (un, uk) st (uk - st) j) st i).2) ((rpI (rpO (un, uk) st (uk - st) j) st i).1 (st + i))).1] : va_W)) e_3).trans (congrArg (fun zZ => ([oSo so xc ro xu (nI lc) (nI (rpI (rpO (un, uk) st (uk - st) j) st (i + 1)).2), aI T xu 1000 zZ] : va_W)) e_4)
      have hP : va_P D vwCl [oSo so xc ro xu (nI lc) (nI (rpI (rpO (un, uk) st (uk - st) j) st (i + 1)).2), aI T xu 1000 (rpI (rpO (un, uk) st (uk - st) j) st (i + 1)).1] _ := Eq.subst (motive := fun w => va_P D vwCl w _) eW hP
      have hD : va_D A [oSo so xc ro xu (nI lc) (nI (rpI (rpO (un, uk) st (uk - st) j) st (i + 1)).2), aI T xu 1000 (rpI (rpO (un, uk) st (uk - st) j) st (i + 1)).1] := Eq.subst (motive := fun w => va_D A w) eW hD
      have e_5 : (nI ((st + i) + 1) : Int32) = nI (st + (i + 1)) := by first | (rw [rpI]; done) | (rw [Nat.add_assoc]; done) | rfl
      have hl : lv_has ls 6 [(5, .int (nI (st + (i + 1)))), (4, .int (nI (j + 1))), (3, .int (nI uk)), (0, .ref so), (1, .int (nI st)), (2, .int (nI tm))] := lv_sub hl [0, 1, 2, 3, 4, 5] (by show (_ : List (Nat × Value)) = [(5, .int (nI (st + (i + 1)))), (4, .int (nI (j + 1))), (3, .int (nI uk)), (0, .ref so), (1, .int (nI st)), (2, .int (nI tm))]; rw [← e_5]; rfl)
      exact ih (i + 1) (by omega)  _ _ _ hk hP hD hS hl
  have loop_8 : ∀ (n j : Nat), j + n = (tm - 1) → ∀ (H : Heap) (locs : List Loc) (ls : Array Slot), va_P D vwCl [oSo so xc ro xu (nI lc) (nI (rpO (un, uk) st (uk - st) j).2), aI T xu 1000 (rpO (un, uk) st (uk - st) j).1] H → va_D A [oSo so xc ro xu (nI lc) (nI (rpO (un, uk) st (uk - st) j).2), aI T xu 1000 (rpO (un, uk) st (uk - st) j).1] → va_S A s.heap H locs → lv_has ls 6 [(4, .int (nI (j + 1))), (3, .int (nI uk)), (0, .ref so), (1, .int (nI st)), (2, .int (nI tm))] → W p l e rX6_repeat s m [.ref so, .int (nI st), .int (nI tm)].toArray below meth c H locs 0 0 Q (F0 m 8 ls []) := by
    intro n
    induction n with
    | zero =>
      intro j hi  H locs ls hP hD hS hl
      have hi9 : (tm - 1) = j := by omega
      subst hi9
      refine lv_iload hx hb dX6_repeat_8 (lv_at hl 0 rfl) ?_
      refine lv_iload_n hx hb dX6_repeat_10 rfl (lv_at hl 4 rfl) ?_
      refine lv_icmp_ge (tgt := 46) hx hb dX6_repeat_11 (by decide) (fun _ => ?_) (fun c_x => absurd (nI_le (by omega) (by omega)) c_x)
      exact hret _ _ _ _ _ (fun Qc free hq hf => W.vret hx hb hr hq hf dX6_repeat_46 hlk) hP hD hS
    | succ n ih =>
      intro j hi  H locs ls hP hD hS hl
      have hlt : j < (tm - 1) := by omega
      refine lv_iload hx hb dX6_repeat_8 (lv_at hl 0 rfl) ?_
      refine lv_iload_n hx hb dX6_repeat_10 rfl (lv_at hl 4 rfl) ?_
      refine lv_icmp_ge (tgt := 46) hx hb dX6_repeat_11 (by decide) (fun c_x => absurd c_x (nI_ge (b := tm) (by omega) (by omega))) (fun _ => ?_)
      refine lv_iload_n hx hb dX6_repeat_14 rfl (lv_at hl 3 rfl) ?_
      refine lv_istore (lv' := [(5, .int (nI st)), (4, .int (nI (j + 1))), (3, .int (nI uk)), (0, .ref so), (1, .int (nI st)), (2, .int (nI tm))]) hx hb dX6_repeat_15 hl (by decide) rfl (fun ls hl => ?_)
      have e_6 : nI (rpO (un, uk) st (uk - st) j).2 = nI (rpI (rpO (un, uk) st (uk - st) j) st 0).2 := by first | rfl
      have e_7 : (rpO (un, uk) st (uk - st) j).1 = (rpI (rpO (un, uk) st (uk - st) j) st 0).1 := by first | rfl
      have eW := (congrArg (fun zZ => ([oSo so xc ro xu (nI lc) zZ, aI T xu 1000 (rpO (un, uk) st (uk - st) j).1] : va_W)) e_6).trans (congrArg (fun zZ => ([oSo so xc ro xu (nI lc) (nI (rpI (rpO (un, uk) st (uk - st) j) st 0).2), aI T xu 1000 zZ] : va_W)) e_7)
      have hP : va_P D vwCl [oSo so xc ro xu (nI lc) (nI (rpI (rpO (un, uk) st (uk - st) j) st 0).2), aI T xu 1000 (rpI (rpO (un, uk) st (uk - st) j) st 0).1] _ := Eq.subst (motive := fun w => va_P D vwCl w _) eW hP
      have hD : va_D A [oSo so xc ro xu (nI lc) (nI (rpI (rpO (un, uk) st (uk - st) j) st 0).2), aI T xu 1000 (rpI (rpO (un, uk) st (uk - st) j) st 0).1] := Eq.subst (motive := fun w => va_D A w) eW hD
      have e_8 : (nI st : Int32) = nI (st + 0) := by first | rfl
      have hl : lv_has ls 6 [(5, .int (nI (st + 0))), (4, .int (nI (j + 1))), (3, .int (nI uk)), (0, .ref so), (1, .int (nI st)), (2, .int (nI tm))] := lv_sub hl [0, 1, 2, 3, 4, 5] (by show (_ : List (Nat × Value)) = [(5, .int (nI (st + 0))), (4, .int (nI (j + 1))), (3, .int (nI uk)), (0, .ref so), (1, .int (nI st)), (2, .int (nI tm))]; rw [← e_8]; rfl)
      refine loop_17 j (uk - st) 0 (by omega)  _ _ _ ?_ hP hD hS hl
      intro H locs ls hP hD hS hl
      refine lv_iinc (v := nI ((j + 1) + 1)) (lv' := [(4, .int (nI ((j + 1) + 1))), (3, .int (nI uk)), (0, .ref so), (1, .int (nI st)), (2, .int (nI tm))]) hx hb dX6_repeat_40 hl (k := 0) rfl (nI_1 (j + 1)) (by decide) rfl (fun ls hl => ?_)
      refine lv_goto (tgt := 8) hx hb dX6_repeat_43 (by decide) ?_
      have hl : lv_has ls 6 [(4, .int (nI ((j + 1) + 1))), (3, .int (nI uk)), (0, .ref so), (1, .int (nI st)), (2, .int (nI tm))] := lv_sub hl [0, 1, 2, 3, 4] (by rfl)
      exact ih (j + 1) (by omega)  _ _ _ hP hD hS hl
  have hl : lv_has ls 6 [(0, .ref so), (1, .int (nI st)), (2, .int (nI tm))] := hl
  have hP : va_P D vwCl [oSo so xc ro xu (nI lc) (nI uk), aI T xu 1000 un] s.heap := hP
  have hD : va_D A [oSo so xc ro xu (nI lc) (nI uk), aI T xu 1000 un] := hD
  refine lv_aload_n hx hb dX6_repeat_0 rfl (lv_at hl 0 rfl) ?_
  refine va_get (D := D) (ci := 5) (v := .int (nI uk)) (C := RX6) (T := TX6) (N := 5) hx hb hts iX6 hown hC.1 hP 0 rfl rfl 4 (by decide) (hts (.fieldLink RX6 45 "ParrotCounts$SongText" "unfoldedCalls" "I") (List.mem_of_getElem? (i := 1) rfl)) (fun _ h => h) rfl dX6_repeat_1 ?_
  refine lv_istore_n (lv' := [(3, .int (nI uk)), (0, .ref so), (1, .int (nI st)), (2, .int (nI tm))]) hx hb dX6_repeat_4 rfl hl (by decide) rfl (fun ls hl => ?_)
  refine lv_iconst (v := 1) hx hb dX6_repeat_5 (by decide) ?_
  refine lv_istore (lv' := [(4, .int 1), (3, .int (nI uk)), (0, .ref so), (1, .int (nI st)), (2, .int (nI tm))]) hx hb dX6_repeat_6 hl (by decide) rfl (fun ls hl => ?_)
  have e_9 : nI uk = nI (rpO (un, uk) st (uk - st) 0).2 := by first | rfl
  have e_10 : un = (rpO (un, uk) st (uk - st) 0).1 := by first | rfl
  have eW := (congrArg (fun zZ => ([oSo so xc ro xu (nI lc) zZ, aI T xu 1000 un] : va_W)) e_9).trans (congrArg (fun zZ => ([oSo so xc ro xu (nI lc) (nI (rpO (un, uk) st (uk - st) 0).2), aI T xu 1000 zZ] : va_W)) e_10)
  have hP : va_P D vwCl [oSo so xc ro xu (nI lc) (nI (rpO (un, uk) st (uk - st) 0).2), aI T xu 1000 (rpO (un, uk) st (uk - st) 0).1] _ := Eq.subst (motive := fun w => va_P D vwCl w _) eW hP
  have hD : va_D A [oSo so xc ro xu (nI lc) (nI (rpO (un, uk) st (uk - st) 0).2), aI T xu 1000 (rpO (un, uk) st (uk - st) 0).1] := Eq.subst (motive := fun w => va_D A w) eW hD
  have e_11 : (1 : Int32) = nI (0 + 1) := by first | rfl
  have hl : lv_has ls 6 [(4, .int (nI (0 + 1))), (3, .int (nI uk)), (0, .ref so), (1, .int (nI st)), (2, .int (nI tm))] := lv_sub hl [0, 1, 2, 3, 4] (by show (_ : List (Nat × Value)) = [(4, .int (nI (0 + 1))), (3, .int (nI uk)), (0, .ref so), (1, .int (nI st)), (2, .int (nI tm))]; rw [← e_11]; rfl)
  exact loop_8 (tm - 1) 0 (by omega)  _ _ _ hP hD hS hl
abbrev rX6_unfold : Room := { frames := 2, cells := 0, slots := 0, locals := 46 }
set_option maxHeartbeats 4000000 in
set_option maxRecDepth 100000 in
theorem c_X6_unfold (l : Launch) (D : va_G) (T : Nat → ClassId) (so xc ro xu lc : Nat) (uc : Int32) (tc un : Nat → Int32) (hlc : lc ≤ 60) (hv : ∀ k, k < lc → rdA tc k = true) : kM l D T yX6_unfold wsX6_unfold rX6_unfold [.ref so] [oSo so xc ro xu (nI lc) uc, aC T xc 60 tc, aI T xu 1000 un] none [oSo so xc ro xu (nI lc) (nI (ufF tc un lc).2.2.2), aC T xc 60 tc, aI T xu 1000 (ufF tc un lc).2.2.1] := by
  refine kM.of (cc := cX6_unfold) (maxL := 6) (ret := none) (by decide) rfl (Nat.le_of_ble_eq_true rfl) ?_
  intro p e s m below meth c A Q ls hx hb hml hown hr hlk hts hC hP hD hS hA hl hret
  have iX6 : ∀ w ∈ wsX60, w ∈ wsX6_unfold := (fun _ h => List.mem_cons_of_mem _ (List.mem_append_right _ h))
  have loop_14 : ∀ (n i : Nat), i + n = lc → ∀ (H : Heap) (locs : List Loc) (ls : Array Slot), va_P D vwCl [oSo so xc ro xu (nI lc) (nI (ufF tc un i).2.2.2), aC T xc 60 tc, aI T xu 1000 (ufF tc un i).2.2.1] H → va_D A [oSo so xc ro xu (nI lc) (nI (ufF tc un i).2.2.2), aC T xc 60 tc, aI T xu 1000 (ufF tc un i).2.2.1] → va_S A s.heap H locs → lv_has ls 6 [(4, .int (nI i)), (3, .int (nI (ufF tc un i).2.1)), (2, .int (nI (ufF tc un i).1)), (1, .int (rdF tc i).1), (0, .ref so)] → W p l e rX6_unfold s m [.ref so].toArray below meth c H locs 0 0 Q (F0 m 14 ls []) := by
    intro n
    induction n with
    | zero =>
      intro i hi  H locs ls hP hD hS hl
      have hi9 : lc = i := by omega
      subst hi9
      refine lv_iload hx hb dX6_unfold_14 (lv_at hl 0 rfl) ?_
      refine lv_aload_n hx hb dX6_unfold_16 rfl (lv_at hl 4 rfl) ?_
      refine va_get (D := D) (ci := 5) (v := .int (nI lc)) (C := RX6) (T := TX6) (N := 5) hx hb hts iX6 hown hC.1 hP 0 rfl rfl 3 (by decide) (hts (.fieldLink RX6 26 "ParrotCounts$SongText" "length" "I") (List.mem_of_getElem? (i := 2) rfl)) (fun _ h => h) rfl dX6_unfold_17 ?_
      refine lv_icmp_ge (tgt := 119) hx hb dX6_unfold_20 (by decide) (fun _ => ?_) (fun c_x => absurd (Int32.le_refl _) c_x)
      exact hret _ _ _ _ _ (fun Qc free hq hf => W.vret hx hb hr hq hf dX6_unfold_119 hlk) hP hD hS
    | succ n ih =>
      intro i hi  H locs ls hP hD hS hl
      have hlt : i < lc := by omega
      have hrA := hv i hlt
      obtain ⟨v, hv9, hvn⟩ := rd_nu i (fun k hk => hv k (by omega))
      obtain ⟨ho1, ho2, ho3⟩ := ufF_ok tc un i
      refine lv_iload hx hb dX6_unfold_14 (lv_at hl 0 rfl) ?_
      refine lv_aload_n hx hb dX6_unfold_16 rfl (lv_at hl 4 rfl) ?_
      refine va_get (D := D) (ci := 5) (v := .int (nI lc)) (C := RX6) (T := TX6) (N := 5) hx hb hts iX6 hown hC.1 hP 0 rfl rfl 3 (by decide) (hts (.fieldLink RX6 26 "ParrotCounts$SongText" "length" "I") (List.mem_of_getElem? (i := 2) rfl)) (fun _ h => h) rfl dX6_unfold_17 ?_
      refine lv_icmp_ge (tgt := 119) hx hb dX6_unfold_20 (by decide) (fun c_x => absurd c_x (nI_ge (b := lc) hlt (by omega))) (fun _ => ?_)
      refine lv_aload_n hx hb dX6_unfold_23 rfl (lv_at hl 4 rfl) ?_
      refine va_get (D := D) (ci := 5) (v := .ref xc) (C := RX6) (T := TX6) (N := 5) hx hb hts iX6 hown hC.1 hP 0 rfl rfl 0 (by decide) (hts (.fieldLink RX6 9 "ParrotCounts$SongText" "characters" "[C") (List.mem_of_getElem? (i := 3) rfl)) (fun _ h => h) rfl dX6_unfold_24 ?_
      refine lv_iload hx hb dX6_unfold_27 (lv_at hl 0 rfl) ?_
      refine k_cald hx hb hC.1 hP 1 1 rfl rfl (by omega) dX6_unfold_29 ?_
      refine lv_istore (lv' := [(5, .int (tc i)), (4, .int (nI i)), (3, .int (nI (ufF tc un i).2.1)), (2, .int (nI (ufF tc un i).1)), (1, .int (rdF tc i).1), (0, .ref so)]) hx hb dX6_unfold_30 hl (by decide) rfl (fun ls hl => ?_)
      refine lv_iload hx hb dX6_unfold_32 (lv_at hl 0 rfl) ?_
      have hP := hP.sub (ws' := [] ++ [oSo so xc ro xu (nI lc) (nI (ufF tc un i).2.2.2), aC T xc 60 tc, aI T xu 1000 (ufF tc un i).2.2.1]) [0, 1, 2] rfl
      have hD := hD.sub (ws' := [] ++ [oSo so xc ro xu (nI lc) (nI (ufF tc un i).2.2.2), aC T xc 60 tc, aI T xu 1000 (ufF tc un i).2.2.1]) [0, 1, 2] (by decide) rfl
      refine kSN (As := [.int (tc i)]) (rest := []) ⟨hx, hb, hml, hown, hts⟩ (c_X8_isDigit l D T (tc i) ) ⟨va_cnB (host := RX8) 1 hts gX6_unfold_X8_isDigit_n48 rfl rfl rfl (hC.nw 16 (q := (RX6, 48, yX8_isDigit)) rfl) (hts (.initialized RX8) (List.mem_of_getElem? (i := 9) rfl)) (by decide +kernel) ⟨Nat.le_of_ble_eq_true rfl, Nat.le_of_ble_eq_true rfl⟩, hts (.static yX8_isDigit) (List.mem_of_getElem? (i := 8) rfl), trivial⟩ hC hP hD hS hA rfl hl.1 rfl (Nat.le_of_ble_eq_true rfl) dX6_unfold_34 ⟨Nat.zero_le _, Nat.zero_le _⟩ (fun H locs hP hD hS => ?_)
      have hP : va_P D vwCl [oSo so xc ro xu (nI lc) (nI (ufF tc un i).2.2.2), aC T xc 60 tc, aI T xu 1000 (ufF tc un i).2.2.1] H := hP
      have hD : va_D A [oSo so xc ro xu (nI lc) (nI (ufF tc un i).2.2.2), aC T xc 60 tc, aI T xu 1000 (ufF tc un i).2.2.1] := hD
      refine W.eq (g2 := F0 m 37 ls [.int (bI (chD (tc i)))]) rfl ?_
      refine lv_if_eq (tgt := 54) hx hb dX6_unfold_37 (by decide) (fun c37 => ?_) (fun c37 => ?_)
      · have c37 := (bI0 _).mp c37
        refine lv_iload hx hb dX6_unfold_54 (lv_at hl 0 rfl) ?_
        refine lv_bipush (v := 40) hx hb dX6_unfold_56 (by decide) ?_
        refine lv_icmp_ne (tgt := 73) hx hb dX6_unfold_58 (by decide) (fun c58 => ?_) (fun c58 => ?_)
        · refine lv_iload hx hb dX6_unfold_73 (lv_at hl 0 rfl) ?_
          refine lv_bipush (v := 41) hx hb dX6_unfold_75 (by decide) ?_
          refine lv_icmp_ne (tgt := 89) hx hb dX6_unfold_77 (by decide) (fun c77 => ?_) (fun c77 => ?_)
          · refine lv_iload hx hb dX6_unfold_89 (lv_at hl 0 rfl) ?_
            have hP := hP.sub (ws' := [] ++ [oSo so xc ro xu (nI lc) (nI (ufF tc un i).2.2.2), aC T xc 60 tc, aI T xu 1000 (ufF tc un i).2.2.1]) [0, 1, 2] rfl
            have hD := hD.sub (ws' := [] ++ [oSo so xc ro xu (nI lc) (nI (ufF tc un i).2.2.2), aC T xc 60 tc, aI T xu 1000 (ufF tc un i).2.2.1]) [0, 1, 2] (by decide) rfl
            refine kSN (As := [.int (tc i)]) (rest := []) ⟨hx, hb, hml, hown, hts⟩ (c_X8_isName l D T (tc i) ) ⟨va_cnB (host := RX8) 1 hts gX6_unfold_X8_isName_n55 rfl rfl rfl (hC.nw 17 (q := (RX6, 55, yX8_isName)) rfl) (hts (.initialized RX8) (List.mem_of_getElem? (i := 9) rfl)) (by decide +kernel) ⟨Nat.le_of_ble_eq_true rfl, Nat.le_of_ble_eq_true rfl⟩, hts (.static yX8_isName) (List.mem_of_getElem? (i := 21) rfl), trivial⟩ hC hP hD hS hA rfl hl.1 rfl (Nat.le_of_ble_eq_true rfl) dX6_unfold_91 ⟨Nat.zero_le _, Nat.zero_le _⟩ (fun H locs hP hD hS => ?_)
            have hP : va_P D vwCl [oSo so xc ro xu (nI lc) (nI (ufF tc un i).2.2.2), aC T xc 60 tc, aI T xu 1000 (ufF tc un i).2.2.1] H := hP
            have hD : va_D A [oSo so xc ro xu (nI lc) (nI (ufF tc un i).2.2.2), aC T xc 60 tc, aI T xu 1000 (ufF tc un i).2.2.1] := hD
            refine W.eq (g2 := F0 m 94 ls [.int (bI (chN (tc i)))]) rfl ?_
            refine lv_if_eq (tgt := 113) hx hb dX6_unfold_94 (by decide) (fun c94 => ?_) (fun c94 => ?_)
            · have c94 := (bI0 _).mp c94
              refine lv_iinc (v := nI (i + 1)) (lv' := [(4, .int (nI (i + 1))), (5, .int (tc i)), (3, .int (nI (ufF tc un i).2.1)), (2, .int (nI (ufF tc un i).1)), (1, .int (rdF tc i).1), (0, .ref so)]) hx hb dX6_unfold_113 hl (k := 1) rfl (nI_1 i) (by decide) rfl (fun ls hl => ?_)
              refine lv_goto (tgt := 14) hx hb dX6_unfold_116 (by decide) ?_
              have e_1 : nI (ufF tc un i).2.2.2 = nI (ufF tc un (i + 1)).2.2.2 := by first | (rw [ufF_dg c37]; done) | (rw [ufF_op c37 c58]; done) | (rw [ufF_cl c37 c58 c77]; done) | (rw [ufF_nm c37 c58 c77 c94]; done) | exact (rdF_dg hrA c37).symm | exact (rdF_op hrA c58).symm | exact (rdF_cl c77).symm | exact (rdF_nm hrA c37 c94).symm | (rw [ufF_op c37 c58, hvn, nI_clamp (by omega)]; done) | exact absurd (rdA_no hrA c37 c58 c77 c94) id
              have e_2 : (ufF tc un i).2.2.1 = (ufF tc un (i + 1)).2.2.1 := by first | (rw [ufF_dg c37]; done) | (rw [ufF_op c37 c58]; done) | (rw [ufF_cl c37 c58 c77]; done) | (rw [ufF_nm c37 c58 c77 c94]; done) | exact (rdF_dg hrA c37).symm | exact (rdF_op hrA c58).symm | exact (rdF_cl c77).symm | exact (rdF_nm hrA c37 c94).symm | (rw [ufF_op c37 c58, hvn, nI_clamp (by omega)]; done) | exact absurd (rdA_no hrA c37 c58 c77 c94) id
              have eW := (congrArg (fun zZ => ([oSo so xc ro xu (nI lc) zZ, aC T xc 60 tc, aI T xu 1000 (ufF tc un i).2.2.1] : va_W)) e_1).trans (congrArg (fun zZ => ([oSo so xc ro xu (nI lc) (nI (ufF tc un (i + 1)).2.2.2), aC T xc 60 tc, aI T xu 1000 zZ] : va_W)) e_2)
              have hP : va_P D vwCl [oSo so xc ro xu (nI lc) (nI (ufF tc un (i + 1)).2.2.2), aC T xc 60 tc, aI T xu 1000 (ufF tc un (i + 1)).2.2.1] _ := Eq.subst (motive := fun w => va_P D vwCl w _) eW hP
              have hD : va_D A [oSo so xc ro xu (nI lc) (nI (ufF tc un (i + 1)).2.2.2), aC T xc 60 tc, aI T xu 1000 (ufF tc un (i + 1)).2.2.1] := Eq.subst (motive := fun w => va_D A w) eW hD
              have e_3 : (nI (ufF tc un i).2.1 : Int32) = nI (ufF tc un (i + 1)).2.1 := by first | (rw [ufF_dg c37]; done) | (rw [ufF_op c37 c58]; done) | (rw [ufF_cl c37 c58 c77]; done) | (rw [ufF_nm c37 c58 c77 c94]; done) | exact (rdF_dg hrA c37).symm | exact (rdF_op hrA c58).symm | exact (rdF_cl c77).symm | exact (rdF_nm hrA c37 c94).symm | (rw [ufF_op c37 c58, hvn, nI_clamp (by omega)]; done) | exact absurd (rdA_no hrA c37 c58 c77 c94) id
              have e_4 : (nI (ufF tc un i).1 : Int32) = nI (ufF tc un (i + 1)).1 := by first | (rw [ufF_dg c37]; done) | (rw [ufF_op c37 c58]; done) | (rw [ufF_cl c37 c58 c77]; done) | (rw [ufF_nm c37 c58 c77 c94]; done) | exact (rdF_dg hrA c37).symm | exact (rdF_op hrA c58).symm | exact (rdF_cl c77).symm | exact (rdF_nm hrA c37 c94).symm | (rw [ufF_op c37 c58, hvn, nI_clamp (by omega)]; done) | exact absurd (rdA_no hrA c37 c58 c77 c94) id
              have e_5 : ((rdF tc i).1 : Int32) = (rdF tc (i + 1)).1 := by first | (rw [ufF_dg c37]; done) | (rw [ufF_op c37 c58]; done) | (rw [ufF_cl c37 c58 c77]; done) | (rw [ufF_nm c37 c58 c77 c94]; done) | exact (rdF_dg hrA c37).symm | exact (rdF_op hrA c58).symm | exact (rdF_cl c77).symm | exact (rdF_nm hrA c37 c94).symm | (rw [ufF_op c37 c58, hvn, nI_clamp (by omega)]; done) | exact absurd (rdA_no hrA c37 c58 c77 c94) id
              have hl : lv_has ls 6 [(4, .int (nI (i + 1))), (3, .int (nI (ufF tc un (i + 1)).2.1)), (2, .int (nI (ufF tc un (i + 1)).1)), (1, .int (rdF tc (i + 1)).1), (0, .ref so)] := lv_sub hl [0, 2, 3, 4, 5] (by show (_ : List (Nat × Value)) = [(4, .int (nI (i + 1))), (3, .int (nI (ufF tc un (i + 1)).2.1)), (2, .int (nI (ufF tc un (i + 1)).1)), (1, .int (rdF tc (i + 1)).1), (0, .ref so)]; rw [← e_3, ← e_4, ← e_5]; rfl)
              exact ih (i + 1) (by omega)  _ _ _ hP hD hS hl
            · have c94 := (bI0n _).mp c94
              refine lv_aload_n hx hb dX6_unfold_97 rfl (lv_at hl 5 rfl) ?_
              refine lv_iload hx hb dX6_unfold_98 (lv_at hl 0 rfl) ?_
              refine lv_bipush (v := 97) hx hb dX6_unfold_100 (by decide) ?_
              refine lv_isub hx hb dX6_unfold_102 ?_
              refine lv_iload_n hx hb dX6_unfold_103 rfl (lv_at hl 4 rfl) ?_
              refine lv_iconst (v := 1) hx hb dX6_unfold_104 (by decide) ?_
              refine va_mmax hx hb (hml.trans hl.1.symm) hown (hts (.methodLink RX6 58 Lib.Math.max.name) (List.mem_of_getElem? (i := 4) rfl)) (hts (.static Lib.Math.max.name) (List.mem_of_getElem? (i := 5) rfl)) (hts (.initialized "java/lang/Math") (List.mem_of_getElem? (i := 6) rfl)) (hts (.code Lib.Math.max.name Lib.Math.max.code 2 (some .int)) (List.mem_of_getElem? (i := 7) rfl)) (Nat.le_of_ble_eq_true rfl) (Nat.le_of_ble_eq_true rfl) (Nat.zero_le _) (Nat.zero_le _) dX6_unfold_105 ?_
              refine W.eq (g2 := F0 m 108 ls (.int (nI (mx1 (rdF tc i).1).toNatClampNeg) :: [.int ((tc i) - 97), .ref so])) (congrArg (fun z => F0 m 108 ls (.int z :: [.int ((tc i) - 97), .ref so])) (mx1_nI hv9 hvn)) ?_
              have hP := hP.sub (ws' := [oSo so xc ro xu (nI lc) (nI (ufF tc un i).2.2.2), aI T xu 1000 (ufF tc un i).2.2.1] ++ [aC T xc 60 tc]) [0, 2, 1] rfl
              have hD := hD.sub (ws' := [oSo so xc ro xu (nI lc) (nI (ufF tc un i).2.2.2), aI T xu 1000 (ufF tc un i).2.2.1] ++ [aC T xc 60 tc]) [0, 2, 1] (by decide) rfl
              refine kV (ci := 5) (As := [.int ((tc i) - 97), .int (nI (mx1 (rdF tc i).1).toNatClampNeg)]) (rest := []) ⟨hx, hb, hml, hown, hts⟩ (c_X6_unfoldName l D T so xc ro xu lc (ufF tc un i).2.2.2 (ufF tc un i).2.2.1 ((tc i) - 97) (mx1 (rdF tc i).1).toNatClampNeg ho2 (clamp_lt _)) (cwV 2 hts gX6_unfold_X6_unfoldName rfl rfl rfl (by decide +kernel) ⟨Nat.le_of_ble_eq_true rfl, Nat.le_of_ble_eq_true rfl⟩) hC hP hD hS hA rfl rfl rfl hl.1 rfl (Nat.le_of_ble_eq_true rfl) dX6_unfold_108 ⟨Nat.zero_le _, Nat.zero_le _⟩ (fun H locs hP hD hS => ?_)
              have hP := hP.sub (ws' := [oSo so xc ro xu (nI lc) (nI (ucN ((ufF tc un i).2.2.1, (ufF tc un i).2.2.2) ((tc i) - 97) (mx1 (rdF tc i).1).toNatClampNeg).2), aC T xc 60 tc, aI T xu 1000 (ucN ((ufF tc un i).2.2.1, (ufF tc un i).2.2.2) ((tc i) - 97) (mx1 (rdF tc i).1).toNatClampNeg).1]) [0, 2, 1] rfl
              have hD := hD.sub (ws' := [oSo so xc ro xu (nI lc) (nI (ucN ((ufF tc un i).2.2.1, (ufF tc un i).2.2.2) ((tc i) - 97) (mx1 (rdF tc i).1).toNatClampNeg).2), aC T xc 60 tc, aI T xu 1000 (ucN ((ufF tc un i).2.2.1, (ufF tc un i).2.2.2) ((tc i) - 97) (mx1 (rdF tc i).1).toNatClampNeg).1]) [0, 2, 1] (by decide) rfl
              refine W.eq (g2 := F0 m 111 ls []) rfl ?_
              refine lv_iconst (v := 0) hx hb dX6_unfold_111 (by decide) ?_
              refine lv_istore_n (lv' := [(1, .int 0), (5, .int (tc i)), (4, .int (nI i)), (3, .int (nI (ufF tc un i).2.1)), (2, .int (nI (ufF tc un i).1)), (0, .ref so)]) hx hb dX6_unfold_112 rfl hl (by decide) rfl (fun ls hl => ?_)
              refine lv_iinc (v := nI (i + 1)) (lv' := [(4, .int (nI (i + 1))), (1, .int 0), (5, .int (tc i)), (3, .int (nI (ufF tc un i).2.1)), (2, .int (nI (ufF tc un i).1)), (0, .ref so)]) hx hb dX6_unfold_113 hl (k := 2) rfl (nI_1 i) (by decide) rfl (fun ls hl => ?_)
              refine lv_goto (tgt := 14) hx hb dX6_unfold_116 (by decide) ?_
              have e_6 : nI (ucN ((ufF tc un i).2.2.1, (ufF tc un i).2.2.2) ((tc i) - 97) (mx1 (rdF tc i).1).toNatClampNeg).2 = nI (ufF tc un (i + 1)).2.2.2 := by first | (rw [ufF_dg c37]; done) | (rw [ufF_op c37 c58]; done) | (rw [ufF_cl c37 c58 c77]; done) | (rw [ufF_nm c37 c58 c77 c94]; done) | exact (rdF_dg hrA c37).symm | exact (rdF_op hrA c58).symm | exact (rdF_cl c77).symm | exact (rdF_nm hrA c37 c94).symm | (rw [ufF_op c37 c58, hvn, nI_clamp (by omega)]; done) | exact absurd (rdA_no hrA c37 c58 c77 c94) id
              have e_7 : (ucN ((ufF tc un i).2.2.1, (ufF tc un i).2.2.2) ((tc i) - 97) (mx1 (rdF tc i).1).toNatClampNeg).1 = (ufF tc un (i + 1)).2.2.1 := by first | (rw [ufF_dg c37]; done) | (rw [ufF_op c37 c58]; done) | (rw [ufF_cl c37 c58 c77]; done) | (rw [ufF_nm c37 c58 c77 c94]; done) | exact (rdF_dg hrA c37).symm | exact (rdF_op hrA c58).symm | exact (rdF_cl c77).symm | exact (rdF_nm hrA c37 c94).symm | (rw [ufF_op c37 c58, hvn, nI_clamp (by omega)]; done) | exact absurd (rdA_no hrA c37 c58 c77 c94) id
              have eW := (congrArg (fun zZ => ([oSo so xc ro xu (nI lc) zZ, aC T xc 60 tc, aI T xu 1000 (ucN ((ufF tc un i).2.2.1, (ufF tc un i).2.2.2) ((tc i) - 97) (mx1 (rdF tc i).1).toNatClampNeg).1] : va_W)) e_6).trans (congrArg (fun zZ => ([oSo so xc ro xu (nI lc) (nI (ufF tc un (i + 1)).2.2.2), aC T xc 60 tc, aI T xu 1000 zZ] : va_W)) e_7)
              have hP : va_P D vwCl [oSo so xc ro xu (nI lc) (nI (ufF tc un (i + 1)).2.2.2), aC T xc 60 tc, aI T xu 1000 (ufF tc un (i + 1)).2.2.1] _ := Eq.subst (motive := fun w => va_P D vwCl w _) eW hP
              have hD : va_D A [oSo so xc ro xu (nI lc) (nI (ufF tc un (i + 1)).2.2.2), aC T xc 60 tc, aI T xu 1000 (ufF tc un (i + 1)).2.2.1] := Eq.subst (motive := fun w => va_D A w) eW hD
              have e_8 : (nI (ufF tc un i).2.1 : Int32) = nI (ufF tc un (i + 1)).2.1 := by first | (rw [ufF_dg c37]; done) | (rw [ufF_op c37 c58]; done) | (rw [ufF_cl c37 c58 c77]; done) | (rw [ufF_nm c37 c58 c77 c94]; done) | exact (rdF_dg hrA c37).symm | exact (rdF_op hrA c58).symm | exact (rdF_cl c77).symm | exact (rdF_nm hrA c37 c94).symm | (rw [ufF_op c37 c58, hvn, nI_clamp (by omega)]; done) | exact absurd (rdA_no hrA c37 c58 c77 c94) id
              have e_9 : (nI (ufF tc un i).1 : Int32) = nI (ufF tc un (i + 1)).1 := by first | (rw [ufF_dg c37]; done) | (rw [ufF_op c37 c58]; done) | (rw [ufF_cl c37 c58 c77]; done) | (rw [ufF_nm c37 c58 c77 c94]; done) | exact (rdF_dg hrA c37).symm | exact (rdF_op hrA c58).symm | exact (rdF_cl c77).symm | exact (rdF_nm hrA c37 c94).symm | (rw [ufF_op c37 c58, hvn, nI_clamp (by omega)]; done) | exact absurd (rdA_no hrA c37 c58 c77 c94) id
              have e_10 : (0 : Int32) = (rdF tc (i + 1)).1 := by first | (rw [ufF_dg c37]; done) | (rw [ufF_op c37 c58]; done) | (rw [ufF_cl c37 c58 c77]; done) | (rw [ufF_nm c37 c58 c77 c94]; done) | exact (rdF_dg hrA c37).symm | exact (rdF_op hrA c58).symm | exact (rdF_cl c77).symm | exact (rdF_nm hrA c37 c94).symm | (rw [ufF_op c37 c58, hvn, nI_clamp (by omega)]; done) | exact absurd (rdA_no hrA c37 c58 c77 c94) id
              have hl : lv_has ls 6 [(4, .int (nI (i + 1))), (3, .int (nI (ufF tc un (i + 1)).2.1)), (2, .int (nI (ufF tc un (i + 1)).1)), (1, .int (rdF tc (i + 1)).1), (0, .ref so)] := lv_sub hl [0, 3, 4, 1, 5] (by show (_ : List (Nat × Value)) = [(4, .int (nI (i + 1))), (3, .int (nI (ufF tc un (i + 1)).2.1)), (2, .int (nI (ufF tc un (i + 1)).1)), (1, .int (rdF tc (i + 1)).1), (0, .ref so)]; rw [← e_8, ← e_9, ← e_10]; rfl)
              exact ih (i + 1) (by omega)  _ _ _ hP hD hS hl
          · refine lv_aload_n hx hb dX6_unfold_80 rfl (lv_at hl 5 rfl) ?_
            refine lv_iload_n hx hb dX6_unfold_81 rfl (lv_at hl 2 rfl) ?_
            refine lv_iload_n hx hb dX6_unfold_82 rfl (lv_at hl 3 rfl) ?_
            have hP := hP.sub (ws' := [oSo so xc ro xu (nI lc) (nI (ufF tc un i).2.2.2), aI T xu 1000 (ufF tc un i).2.2.1] ++ [aC T xc 60 tc]) [0, 2, 1] rfl
            have hD := hD.sub (ws' := [oSo so xc ro xu (nI lc) (nI (ufF tc un i).2.2.2), aI T xu 1000 (ufF tc un i).2.2.1] ++ [aC T xc 60 tc]) [0, 2, 1] (by decide) rfl
            refine kV (ci := 5) (As := [.int (nI (ufF tc un i).2.1), .int (nI (ufF tc un i).1)]) (rest := []) ⟨hx, hb, hml, hown, hts⟩ (c_X6_repeat l D T so xc ro xu lc (ufF tc un i).2.2.2 (ufF tc un i).2.2.1 (ufF tc un i).2.1 (ufF tc un i).1 ho2 ho1 ho3) (cwV 2 hts gX6_unfold_X6_repeat rfl rfl rfl (by decide +kernel) ⟨Nat.le_of_ble_eq_true rfl, Nat.le_of_ble_eq_true rfl⟩) hC hP hD hS hA rfl rfl rfl hl.1 rfl (Nat.le_of_ble_eq_true rfl) dX6_unfold_83 ⟨Nat.zero_le _, Nat.zero_le _⟩ (fun H locs hP hD hS => ?_)
            have hP := hP.sub (ws' := [oSo so xc ro xu (nI lc) (nI (rpO ((ufF tc un i).2.2.1, (ufF tc un i).2.2.2) (ufF tc un i).2.1 ((ufF tc un i).2.2.2 - (ufF tc un i).2.1) ((ufF tc un i).1 - 1)).2), aC T xc 60 tc, aI T xu 1000 (rpO ((ufF tc un i).2.2.1, (ufF tc un i).2.2.2) (ufF tc un i).2.1 ((ufF tc un i).2.2.2 - (ufF tc un i).2.1) ((ufF tc un i).1 - 1)).1]) [0, 2, 1] rfl
            have hD := hD.sub (ws' := [oSo so xc ro xu (nI lc) (nI (rpO ((ufF tc un i).2.2.1, (ufF tc un i).2.2.2) (ufF tc un i).2.1 ((ufF tc un i).2.2.2 - (ufF tc un i).2.1) ((ufF tc un i).1 - 1)).2), aC T xc 60 tc, aI T xu 1000 (rpO ((ufF tc un i).2.2.1, (ufF tc un i).2.2.2) (ufF tc un i).2.1 ((ufF tc un i).2.2.2 - (ufF tc un i).2.1) ((ufF tc un i).1 - 1)).1]) [0, 2, 1] (by decide) rfl
            refine W.eq (g2 := F0 m 86 ls []) rfl ?_
            refine lv_goto (tgt := 113) hx hb dX6_unfold_86 (by decide) ?_
            refine lv_iinc (v := nI (i + 1)) (lv' := [(4, .int (nI (i + 1))), (5, .int (tc i)), (3, .int (nI (ufF tc un i).2.1)), (2, .int (nI (ufF tc un i).1)), (1, .int (rdF tc i).1), (0, .ref so)]) hx hb dX6_unfold_113 hl (k := 1) rfl (nI_1 i) (by decide) rfl (fun ls hl => ?_)
            refine lv_goto (tgt := 14) hx hb dX6_unfold_116 (by decide) ?_
            have e_11 : nI (rpO ((ufF tc un i).2.2.1, (ufF tc un i).2.2.2) (ufF tc un i).2.1 ((ufF tc un i).2.2.2 - (ufF tc un i).2.1) ((ufF tc un i).1 - 1)).2 = nI (ufF tc un (i + 1)).2.2.2 := by first | (rw [ufF_dg c37]; done) | (rw [ufF_op c37 c58]; done) | (rw [ufF_cl c37 c58 c77]; done) | (rw [ufF_nm c37 c58 c77 c94]; done) | exact (rdF_dg hrA c37).symm | exact (rdF_op hrA c58).symm | exact (rdF_cl c77).symm | exact (rdF_nm hrA c37 c94).symm | (rw [ufF_op c37 c58, hvn, nI_clamp (by omega)]; done) | exact absurd (rdA_no hrA c37 c58 c77 c94) id
            have e_12 : (rpO ((ufF tc un i).2.2.1, (ufF tc un i).2.2.2) (ufF tc un i).2.1 ((ufF tc un i).2.2.2 - (ufF tc un i).2.1) ((ufF tc un i).1 - 1)).1 = (ufF tc un (i + 1)).2.2.1 := by first | (rw [ufF_dg c37]; done) | (rw [ufF_op c37 c58]; done) | (rw [ufF_cl c37 c58 c77]; done) | (rw [ufF_nm c37 c58 c77 c94]; done) | exact (rdF_dg hrA c37).symm | exact (rdF_op hrA c58).symm | exact (rdF_cl c77).symm | exact (rdF_nm hrA c37 c94).symm | (rw [ufF_op c37 c58, hvn, nI_clamp (by omega)]; done) | exact absurd (rdA_no hrA c37 c58 c77 c94) id
            have eW := (congrArg (fun zZ => ([oSo so xc ro xu (nI lc) zZ, aC T xc 60 tc, aI T xu 1000 (rpO ((ufF tc un i).2.2.1, (ufF tc un i).2.2.2) (ufF tc un i).2.1 ((ufF tc un i).2.2.2 - (ufF tc un i).2.1) ((ufF tc un i).1 - 1)).1] : va_W)) e_11).trans (congrArg (fun zZ => ([oSo so xc ro xu (nI lc) (nI (ufF tc un (i + 1)).2.2.2), aC T xc 60 tc, aI T xu 1000 zZ] : va_W)) e_12)
            have hP : va_P D vwCl [oSo so xc ro xu (nI lc) (nI (ufF tc un (i + 1)).2.2.2), aC T xc 60 tc, aI T xu 1000 (ufF tc un (i + 1)).2.2.1] _ := Eq.subst (motive := fun w => va_P D vwCl w _) eW hP
            have hD : va_D A [oSo so xc ro xu (nI lc) (nI (ufF tc un (i + 1)).2.2.2), aC T xc 60 tc, aI T xu 1000 (ufF tc un (i + 1)).2.2.1] := Eq.subst (motive := fun w => va_D A w) eW hD
            have e_13 : (nI (ufF tc un i).2.1 : Int32) = nI (ufF tc un (i + 1)).2.1 := by first | (rw [ufF_dg c37]; done) | (rw [ufF_op c37 c58]; done) | (rw [ufF_cl c37 c58 c77]; done) | (rw [ufF_nm c37 c58 c77 c94]; done) | exact (rdF_dg hrA c37).symm | exact (rdF_op hrA c58).symm | exact (rdF_cl c77).symm | exact (rdF_nm hrA c37 c94).symm | (rw [ufF_op c37 c58, hvn, nI_clamp (by omega)]; done) | exact absurd (rdA_no hrA c37 c58 c77 c94) id
            have e_14 : (nI (ufF tc un i).1 : Int32) = nI (ufF tc un (i + 1)).1 := by first | (rw [ufF_dg c37]; done) | (rw [ufF_op c37 c58]; done) | (rw [ufF_cl c37 c58 c77]; done) | (rw [ufF_nm c37 c58 c77 c94]; done) | exact (rdF_dg hrA c37).symm | exact (rdF_op hrA c58).symm | exact (rdF_cl c77).symm | exact (rdF_nm hrA c37 c94).symm | (rw [ufF_op c37 c58, hvn, nI_clamp (by omega)]; done) | exact absurd (rdA_no hrA c37 c58 c77 c94) id
            have e_15 : ((rdF tc i).1 : Int32) = (rdF tc (i + 1)).1 := by first | (rw [ufF_dg c37]; done) | (rw [ufF_op c37 c58]; done) | (rw [ufF_cl c37 c58 c77]; done) | (rw [ufF_nm c37 c58 c77 c94]; done) | exact (rdF_dg hrA c37).symm | exact (rdF_op hrA c58).symm | exact (rdF_cl c77).symm | exact (rdF_nm hrA c37 c94).symm | (rw [ufF_op c37 c58, hvn, nI_clamp (by omega)]; done) | exact absurd (rdA_no hrA c37 c58 c77 c94) id
            have hl : lv_has ls 6 [(4, .int (nI (i + 1))), (3, .int (nI (ufF tc un (i + 1)).2.1)), (2, .int (nI (ufF tc un (i + 1)).1)), (1, .int (rdF tc (i + 1)).1), (0, .ref so)] := lv_sub hl [0, 2, 3, 4, 5] (by show (_ : List (Nat × Value)) = [(4, .int (nI (i + 1))), (3, .int (nI (ufF tc un (i + 1)).2.1)), (2, .int (nI (ufF tc un (i + 1)).1)), (1, .int (rdF tc (i + 1)).1), (0, .ref so)]; rw [← e_13, ← e_14, ← e_15]; rfl)
            exact ih (i + 1) (by omega)  _ _ _ hP hD hS hl
        · refine lv_iload_n hx hb dX6_unfold_61 rfl (lv_at hl 4 rfl) ?_
          refine lv_istore_n (lv' := [(2, .int (rdF tc i).1), (5, .int (tc i)), (4, .int (nI i)), (3, .int (nI (ufF tc un i).2.1)), (1, .int (rdF tc i).1), (0, .ref so)]) hx hb dX6_unfold_62 rfl hl (by decide) rfl (fun ls hl => ?_)
          refine lv_aload_n hx hb dX6_unfold_63 rfl (lv_at hl 5 rfl) ?_
          refine va_get (D := D) (ci := 5) (v := .int (nI (ufF tc un i).2.2.2)) (C := RX6) (T := TX6) (N := 5) hx hb hts iX6 hown hC.1 hP 0 rfl rfl 4 (by decide) (hts (.fieldLink RX6 45 "ParrotCounts$SongText" "unfoldedCalls" "I") (List.mem_of_getElem? (i := 1) rfl)) (fun _ h => h) rfl dX6_unfold_64 ?_
          refine lv_istore_n (lv' := [(3, .int (nI (ufF tc un i).2.2.2)), (2, .int (rdF tc i).1), (5, .int (tc i)), (4, .int (nI i)), (1, .int (rdF tc i).1), (0, .ref so)]) hx hb dX6_unfold_67 rfl hl (by decide) rfl (fun ls hl => ?_)
          refine lv_iconst (v := 0) hx hb dX6_unfold_68 (by decide) ?_
          refine lv_istore_n (lv' := [(1, .int 0), (3, .int (nI (ufF tc un i).2.2.2)), (2, .int (rdF tc i).1), (5, .int (tc i)), (4, .int (nI i)), (0, .ref so)]) hx hb dX6_unfold_69 rfl hl (by decide) rfl (fun ls hl => ?_)
          refine lv_goto (tgt := 113) hx hb dX6_unfold_70 (by decide) ?_
          refine lv_iinc (v := nI (i + 1)) (lv' := [(4, .int (nI (i + 1))), (1, .int 0), (3, .int (nI (ufF tc un i).2.2.2)), (2, .int (rdF tc i).1), (5, .int (tc i)), (0, .ref so)]) hx hb dX6_unfold_113 hl (k := 4) rfl (nI_1 i) (by decide) rfl (fun ls hl => ?_)
          refine lv_goto (tgt := 14) hx hb dX6_unfold_116 (by decide) ?_
          have e_16 : nI (ufF tc un i).2.2.2 = nI (ufF tc un (i + 1)).2.2.2 := by first | (rw [ufF_dg c37]; done) | (rw [ufF_op c37 c58]; done) | (rw [ufF_cl c37 c58 c77]; done) | (rw [ufF_nm c37 c58 c77 c94]; done) | exact (rdF_dg hrA c37).symm | exact (rdF_op hrA c58).symm | exact (rdF_cl c77).symm | exact (rdF_nm hrA c37 c94).symm | (rw [ufF_op c37 c58, hvn, nI_clamp (by omega)]; done) | exact absurd (rdA_no hrA c37 c58 c77 c94) id
          have e_17 : (ufF tc un i).2.2.1 = (ufF tc un (i + 1)).2.2.1 := by first | (rw [ufF_dg c37]; done) | (rw [ufF_op c37 c58]; done) | (rw [ufF_cl c37 c58 c77]; done) | (rw [ufF_nm c37 c58 c77 c94]; done) | exact (rdF_dg hrA c37).symm | exact (rdF_op hrA c58).symm | exact (rdF_cl c77).symm | exact (rdF_nm hrA c37 c94).symm | (rw [ufF_op c37 c58, hvn, nI_clamp (by omega)]; done) | exact absurd (rdA_no hrA c37 c58 c77 c94) id
          have eW := (congrArg (fun zZ => ([oSo so xc ro xu (nI lc) zZ, aC T xc 60 tc, aI T xu 1000 (ufF tc un i).2.2.1] : va_W)) e_16).trans (congrArg (fun zZ => ([oSo so xc ro xu (nI lc) (nI (ufF tc un (i + 1)).2.2.2), aC T xc 60 tc, aI T xu 1000 zZ] : va_W)) e_17)
          have hP : va_P D vwCl [oSo so xc ro xu (nI lc) (nI (ufF tc un (i + 1)).2.2.2), aC T xc 60 tc, aI T xu 1000 (ufF tc un (i + 1)).2.2.1] _ := Eq.subst (motive := fun w => va_P D vwCl w _) eW hP
          have hD : va_D A [oSo so xc ro xu (nI lc) (nI (ufF tc un (i + 1)).2.2.2), aC T xc 60 tc, aI T xu 1000 (ufF tc un (i + 1)).2.2.1] := Eq.subst (motive := fun w => va_D A w) eW hD
          have e_18 : (nI (ufF tc un i).2.2.2 : Int32) = nI (ufF tc un (i + 1)).2.1 := by first | (rw [ufF_dg c37]; done) | (rw [ufF_op c37 c58]; done) | (rw [ufF_cl c37 c58 c77]; done) | (rw [ufF_nm c37 c58 c77 c94]; done) | exact (rdF_dg hrA c37).symm | exact (rdF_op hrA c58).symm | exact (rdF_cl c77).symm | exact (rdF_nm hrA c37 c94).symm | (rw [ufF_op c37 c58, hvn, nI_clamp (by omega)]; done) | exact absurd (rdA_no hrA c37 c58 c77 c94) id
          have e_19 : ((rdF tc i).1 : Int32) = nI (ufF tc un (i + 1)).1 := by first | (rw [ufF_dg c37]; done) | (rw [ufF_op c37 c58]; done) | (rw [ufF_cl c37 c58 c77]; done) | (rw [ufF_nm c37 c58 c77 c94]; done) | exact (rdF_dg hrA c37).symm | exact (rdF_op hrA c58).symm | exact (rdF_cl c77).symm | exact (rdF_nm hrA c37 c94).symm | (rw [ufF_op c37 c58, hvn, nI_clamp (by omega)]; done) | exact absurd (rdA_no hrA c37 c58 c77 c94) id
          have e_20 : (0 : Int32) = (rdF tc (i + 1)).1 := by first | (rw [ufF_dg c37]; done) | (rw [ufF_op c37 c58]; done) | (rw [ufF_cl c37 c58 c77]; done) | (rw [ufF_nm c37 c58 c77 c94]; done) | exact (rdF_dg hrA c37).symm | exact (rdF_op hrA c58).symm | exact (rdF_cl c77).symm | exact (rdF_nm hrA c37 c94).symm | (rw [ufF_op c37 c58, hvn, nI_clamp (by omega)]; done) | exact absurd (rdA_no hrA c37 c58 c77 c94) id
          have hl : lv_has ls 6 [(4, .int (nI (i + 1))), (3, .int (nI (ufF tc un (i + 1)).2.1)), (2, .int (nI (ufF tc un (i + 1)).1)), (1, .int (rdF tc (i + 1)).1), (0, .ref so)] := lv_sub hl [0, 2, 3, 1, 5] (by show (_ : List (Nat × Value)) = [(4, .int (nI (i + 1))), (3, .int (nI (ufF tc un (i + 1)).2.1)), (2, .int (nI (ufF tc un (i + 1)).1)), (1, .int (rdF tc (i + 1)).1), (0, .ref so)]; rw [← e_18, ← e_19, ← e_20]; rfl)
          exact ih (i + 1) (by omega)  _ _ _ hP hD hS hl
      · have c37 := (bI0n _).mp c37
        refine lv_bipush (v := 10) hx hb dX6_unfold_40 (by decide) ?_
        refine lv_iload_n hx hb dX6_unfold_42 rfl (lv_at hl 4 rfl) ?_
        refine lv_imul hx hb dX6_unfold_43 ?_
        refine lv_iload hx hb dX6_unfold_44 (lv_at hl 0 rfl) ?_
        refine lv_bipush (v := 48) hx hb dX6_unfold_46 (by decide) ?_
        refine lv_isub hx hb dX6_unfold_48 ?_
        refine lv_iadd hx hb dX6_unfold_49 ?_
        refine lv_istore_n (lv' := [(1, .int ((10 * (rdF tc i).1) + ((tc i) - 48))), (5, .int (tc i)), (4, .int (nI i)), (3, .int (nI (ufF tc un i).2.1)), (2, .int (nI (ufF tc un i).1)), (0, .ref so)]) hx hb dX6_unfold_50 rfl hl (by decide) rfl (fun ls hl => ?_)
        refine lv_goto (tgt := 113) hx hb dX6_unfold_51 (by decide) ?_
        refine lv_iinc (v := nI (i + 1)) (lv' := [(4, .int (nI (i + 1))), (1, .int ((10 * (rdF tc i).1) + ((tc i) - 48))), (5, .int (tc i)), (3, .int (nI (ufF tc un i).2.1)), (2, .int (nI (ufF tc un i).1)), (0, .ref so)]) hx hb dX6_unfold_113 hl (k := 2) rfl (nI_1 i) (by decide) rfl (fun ls hl => ?_)
        refine lv_goto (tgt := 14) hx hb dX6_unfold_116 (by decide) ?_
        have e_21 : nI (ufF tc un i).2.2.2 = nI (ufF tc un (i + 1)).2.2.2 := by first | (rw [ufF_dg c37]; done) | (rw [ufF_op c37 c58]; done) | (rw [ufF_cl c37 c58 c77]; done) | (rw [ufF_nm c37 c58 c77 c94]; done) | exact (rdF_dg hrA c37).symm | exact (rdF_op hrA c58).symm | exact (rdF_cl c77).symm | exact (rdF_nm hrA c37 c94).symm | (rw [ufF_op c37 c58, hvn, nI_clamp (by omega)]; done) | exact absurd (rdA_no hrA c37 c58 c77 c94) id
        have e_22 : (ufF tc un i).2.2.1 = (ufF tc un (i + 1)).2.2.1 := by first | (rw [ufF_dg c37]; done) | (rw [ufF_op c37 c58]; done) | (rw [ufF_cl c37 c58 c77]; done) | (rw [ufF_nm c37 c58 c77 c94]; done) | exact (rdF_dg hrA c37).symm | exact (rdF_op hrA c58).symm | exact (rdF_cl c77).symm | exact (rdF_nm hrA c37 c94).symm | (rw [ufF_op c37 c58, hvn, nI_clamp (by omega)]; done) | exact absurd (rdA_no hrA c37 c58 c77 c94) id
        have eW := (congrArg (fun zZ => ([oSo so xc ro xu (nI lc) zZ, aC T xc 60 tc, aI T xu 1000 (ufF tc un i).2.2.1] : va_W)) e_21).trans (congrArg (fun zZ => ([oSo so xc ro xu (nI lc) (nI (ufF tc un (i + 1)).2.2.2), aC T xc 60 tc, aI T xu 1000 zZ] : va_W)) e_22)
        have hP : va_P D vwCl [oSo so xc ro xu (nI lc) (nI (ufF tc un (i + 1)).2.2.2), aC T xc 60 tc, aI T xu 1000 (ufF tc un (i + 1)).2.2.1] _ := Eq.subst (motive := fun w => va_P D vwCl w _) eW hP
        have hD : va_D A [oSo so xc ro xu (nI lc) (nI (ufF tc un (i + 1)).2.2.2), aC T xc 60 tc, aI T xu 1000 (ufF tc un (i + 1)).2.2.1] := Eq.subst (motive := fun w => va_D A w) eW hD
        have e_23 : (nI (ufF tc un i).2.1 : Int32) = nI (ufF tc un (i + 1)).2.1 := by first | (rw [ufF_dg c37]; done) | (rw [ufF_op c37 c58]; done) | (rw [ufF_cl c37 c58 c77]; done) | (rw [ufF_nm c37 c58 c77 c94]; done) | exact (rdF_dg hrA c37).symm | exact (rdF_op hrA c58).symm | exact (rdF_cl c77).symm | exact (rdF_nm hrA c37 c94).symm | (rw [ufF_op c37 c58, hvn, nI_clamp (by omega)]; done) | exact absurd (rdA_no hrA c37 c58 c77 c94) id
        have e_24 : (nI (ufF tc un i).1 : Int32) = nI (ufF tc un (i + 1)).1 := by first | (rw [ufF_dg c37]; done) | (rw [ufF_op c37 c58]; done) | (rw [ufF_cl c37 c58 c77]; done) | (rw [ufF_nm c37 c58 c77 c94]; done) | exact (rdF_dg hrA c37).symm | exact (rdF_op hrA c58).symm | exact (rdF_cl c77).symm | exact (rdF_nm hrA c37 c94).symm | (rw [ufF_op c37 c58, hvn, nI_clamp (by omega)]; done) | exact absurd (rdA_no hrA c37 c58 c77 c94) id
        have e_25 : ((10 * (rdF tc i).1) + ((tc i) - 48) : Int32) = (rdF tc (i + 1)).1 := by first | (rw [ufF_dg c37]; done) | (rw [ufF_op c37 c58]; done) | (rw [ufF_cl c37 c58 c77]; done) | (rw [ufF_nm c37 c58 c77 c94]; done) | exact (rdF_dg hrA c37).symm | exact (rdF_op hrA c58).symm | exact (rdF_cl c77).symm | exact (rdF_nm hrA c37 c94).symm | (rw [ufF_op c37 c58, hvn, nI_clamp (by omega)]; done) | exact absurd (rdA_no hrA c37 c58 c77 c94) id
        have hl : lv_has ls 6 [(4, .int (nI (i + 1))), (3, .int (nI (ufF tc un (i + 1)).2.1)), (2, .int (nI (ufF tc un (i + 1)).1)), (1, .int (rdF tc (i + 1)).1), (0, .ref so)] := lv_sub hl [0, 3, 4, 1, 5] (by show (_ : List (Nat × Value)) = [(4, .int (nI (i + 1))), (3, .int (nI (ufF tc un (i + 1)).2.1)), (2, .int (nI (ufF tc un (i + 1)).1)), (1, .int (rdF tc (i + 1)).1), (0, .ref so)]; rw [← e_23, ← e_24, ← e_25]; rfl)
        exact ih (i + 1) (by omega)  _ _ _ hP hD hS hl
  have hl : lv_has ls 6 [(0, .ref so)] := hl
  have hP : va_P D vwCl [oSo so xc ro xu (nI lc) uc, aC T xc 60 tc, aI T xu 1000 un] s.heap := hP
  have hD : va_D A [oSo so xc ro xu (nI lc) uc, aC T xc 60 tc, aI T xu 1000 un] := hD
  refine lv_iconst (v := 0) hx hb dX6_unfold_0 (by decide) ?_
  refine lv_istore_n (lv' := [(1, .int 0), (0, .ref so)]) hx hb dX6_unfold_1 rfl hl (by decide) rfl (fun ls hl => ?_)
  refine lv_iconst (v := 1) hx hb dX6_unfold_2 (by decide) ?_
  refine lv_istore_n (lv' := [(2, .int 1), (1, .int 0), (0, .ref so)]) hx hb dX6_unfold_3 rfl hl (by decide) rfl (fun ls hl => ?_)
  refine lv_iconst (v := 0) hx hb dX6_unfold_4 (by decide) ?_
  refine lv_istore_n (lv' := [(3, .int 0), (2, .int 1), (1, .int 0), (0, .ref so)]) hx hb dX6_unfold_5 rfl hl (by decide) rfl (fun ls hl => ?_)
  refine lv_aload_n hx hb dX6_unfold_6 rfl (lv_at hl 3 rfl) ?_
  refine lv_iconst (v := 0) hx hb dX6_unfold_7 (by decide) ?_
  refine va_put (D := D) (ci := 5) (v := .int 0) (ty := .int) (C := RX6) (T := TX6) (N := 5) hx hb hts iX6 tyX6 tyX6_ok nmX6 hown hC.1 hP hD hS 0 rfl rfl 4 (by decide) (hts (.fieldLink RX6 45 "ParrotCounts$SongText" "unfoldedCalls" "I") (List.mem_of_getElem? (i := 1) rfl)) (fun _ h9 => h9) rfl (by decide +kernel) rfl rfl (Nat.le_of_ble_eq_true rfl) dX6_unfold_8 (fun H locs hP hD hS => ?_)
  have hP : va_P D vwCl [oSo so xc ro xu (nI lc) 0, aC T xc 60 tc, aI T xu 1000 un] H := hP
  have hD : va_D A [oSo so xc ro xu (nI lc) 0, aC T xc 60 tc, aI T xu 1000 un] := hD
  refine lv_iconst (v := 0) hx hb dX6_unfold_11 (by decide) ?_
  refine lv_istore (lv' := [(4, .int 0), (3, .int 0), (2, .int 1), (1, .int 0), (0, .ref so)]) hx hb dX6_unfold_12 hl (by decide) rfl (fun ls hl => ?_)
  have e_26 : 0 = nI (ufF tc un 0).2.2.2 := by first | rfl
  have e_27 : un = (ufF tc un 0).2.2.1 := by first | rfl
  have eW := (congrArg (fun zZ => ([oSo so xc ro xu (nI lc) zZ, aC T xc 60 tc, aI T xu 1000 un] : va_W)) e_26).trans (congrArg (fun zZ => ([oSo so xc ro xu (nI lc) (nI (ufF tc un 0).2.2.2), aC T xc 60 tc, aI T xu 1000 zZ] : va_W)) e_27)
  have hP : va_P D vwCl [oSo so xc ro xu (nI lc) (nI (ufF tc un 0).2.2.2), aC T xc 60 tc, aI T xu 1000 (ufF tc un 0).2.2.1] _ := Eq.subst (motive := fun w => va_P D vwCl w _) eW hP
  have hD : va_D A [oSo so xc ro xu (nI lc) (nI (ufF tc un 0).2.2.2), aC T xc 60 tc, aI T xu 1000 (ufF tc un 0).2.2.1] := Eq.subst (motive := fun w => va_D A w) eW hD
  have e_28 : (0 : Int32) = nI 0 := by first | rfl
  have e_29 : (0 : Int32) = nI (ufF tc un 0).2.1 := by first | rfl
  have e_30 : (1 : Int32) = nI (ufF tc un 0).1 := by first | rfl
  have e_31 : (0 : Int32) = (rdF tc 0).1 := by first | rfl
  have hl : lv_has ls 6 [(4, .int (nI 0)), (3, .int (nI (ufF tc un 0).2.1)), (2, .int (nI (ufF tc un 0).1)), (1, .int (rdF tc 0).1), (0, .ref so)] := lv_sub hl [0, 1, 2, 3, 4] (by show (_ : List (Nat × Value)) = [(4, .int (nI 0)), (3, .int (nI (ufF tc un 0).2.1)), (2, .int (nI (ufF tc un 0).1)), (1, .int (rdF tc 0).1), (0, .ref so)]; rw [← e_28, ← e_29, ← e_30, ← e_31]; rfl)
  exact loop_14 lc 0 (by omega)  _ _ _ hP hD hS hl
