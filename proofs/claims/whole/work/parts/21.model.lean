theorem inL_iff (v lo hi : Int64) : inL v lo hi = true ↔ lo ≤ v ∧ v ≤ hi := by
  unfold inL
  by_cases h : 0 ≤ lg_cmp v lo
  · rw [if_pos h, decide_eq_true_iff, lg_cmp_le]
    exact ⟨fun h2 => ⟨(lg_cmp_ge _ _).mp h, h2⟩, fun h2 => h2.2⟩
  · rw [if_neg h]
    exact ⟨fun h2 => (by cases h2), fun h2 => absurd ((lg_cmp_ge _ _).mpr h2.1) h⟩
theorem i64_le (x y : Int32) : x.toInt64 ≤ y.toInt64 ↔ x ≤ y := by
  rw [Int64.le_iff_toInt_le, Int32.le_iff_toInt_le, Int32.toInt_toInt64, Int32.toInt_toInt64]
/-- the reference's bounds, said of ints -/
theorem inL_int (x lo hi : Int32) : inL x.toInt64 lo.toInt64 hi.toInt64 = true ↔ lo ≤ x ∧ x ≤ hi := by
  rw [inL_iff, i64_le, i64_le]
theorem inL_n {n : Nat} (h : n < 26) : inL (nI n).toInt64 0 25 = true := by
  refine (inL_int (nI n) 0 25).mpr ⟨nI_le (a := 0) (Nat.zero_le _) (by omega), ?_⟩
  exact nI_le (b := 25) (by omega) (by decide)
theorem inL_bad {x : Int32} (h : x < 0 ∨ nI 26 ≤ x) : inL x.toInt64 0 25 = false := by
  cases e : inL x.toInt64 0 25 with
  | false => rfl
  | true =>
    have e2 := (inL_int x 0 25).mp e
    rw [Int32.le_iff_toInt_le, Int32.le_iff_toInt_le] at e2
    rw [Int32.lt_iff_toInt_lt, Int32.le_iff_toInt_le] at h
    have e3 : (nI 26).toInt = 26 := by decide
    have e4 : (25 : Int32).toInt = 25 := by decide
    omega
theorem heC_264 {al : Nat → Int32} {pa : Nat} (hp : pa < 26) : heC al pa 264 = al 264 := by
  unfold heC
  rw [pk_un (by omega), pk_un (by omega), pk_un (by omega)]
theorem heM_cap {al : Nat → Int32} {pa : Nat} (hp : pa < 26) : upd al pa (al pa + 1) 264 = al 264 := pk_un (by omega)

def paN (al : Nat → Int32) : Nat → (Nat → Int32)
  | 0 => al
  | i + 1 => upd (paN al i) (132 + i) (paN al i i)
def paA (al : Nat → Int32) : Nat → Int32 := upd (clN (paN al 132) 0 132) 265 1
abbrev rX9_hears : Room := { frames := 2, cells := 0, slots := 0, locals := 44 }
set_option maxHeartbeats 4000000 in
set_option maxRecDepth 100000 in
theorem c_X9_hears (l : Launch) (D : va_G) (T : Nat → ClassId) (mo ma mh mk mz mt : Nat) (al : Nat → Int32) (hn : Nat) (th : Int32) (tn ax : Nat) (sc ti pp : Int32) (cp pa : Nat) (hp : pa < 26) (hcp : al 264 = nI cp) (hcp9 : cp < 1000) : kM l D T yX9_hears wsX9_hears rX9_hears [.ref mo, .int (nI pa)] [oMo mo ma mh (nI hn) th mk mz mt (nI tn) (nI ax) sc ti pp, aI T ma 266 al] none [oMo mo ma mh (nI hn) th mk mz mt (nI tn) (nI ax) sc ti pp, aI T ma 266 (heM al pa)] := by
  refine kM.of (cc := cX9_hears) (maxL := 3) (ret := none) (by decide) rfl (Nat.le_of_ble_eq_true rfl) ?_
  intro p e s m below meth c A Q ls hx hb hml hown hr hlk hts hC hP hD hS hA hl hret
  have iX9 : ∀ w ∈ wsX90, w ∈ wsX9_hears := (fun _ h => List.mem_cons_of_mem _ (List.mem_append_right _ h))
  have hcpU : (upd al pa (al pa + 1)) 264 = nI cp := by rw [heM_cap hp]; exact hcp
  have hl : lv_has ls 3 [(0, .ref mo), (1, .int (nI pa))] := hl
  have hP : va_P D vwCl [oMo mo ma mh (nI hn) th mk mz mt (nI tn) (nI ax) sc ti pp, aI T ma 266 al] s.heap := hP
  have hD : va_D A [oMo mo ma mh (nI hn) th mk mz mt (nI tn) (nI ax) sc ti pp, aI T ma 266 al] := hD
  refine lv_aload_n hx hb dX9_hears_0 rfl (lv_at hl 0 rfl) ?_
  refine va_get (D := D) (ci := 8) (v := .ref ma) (C := RX9) (T := TX9) (N := 12) hx hb hts iX9 hown hC.1 hP 0 rfl rfl 0 (by decide) (hts (.fieldLink RX9 7 "ParrotCountsModel" "all" "[I") (List.mem_of_getElem? (i := 1) rfl)) (fun _ h => h) rfl dX9_hears_1 ?_
  refine lv_iconst (v := 0) hx hb dX9_hears_4 (by decide) ?_
  refine lv_iload_n hx hb dX9_hears_5 rfl (lv_at hl 1 rfl) ?_
  refine lv_iadd hx hb dX9_hears_6 ?_
  refine W.eq (g2 := F0 m 7 ls (.int (nI pa) :: [.ref ma])) (congrArg (fun z => F0 m 7 ls (.int z :: [.ref ma])) (nI_z pa)) ?_
  refine lv_dup2_11 hx hb dX9_hears_7 rfl rfl ?_
  refine k_iald hx hb hC.1 hP 1 0 rfl rfl (by omega) dX9_hears_8 ?_
  refine lv_iconst (v := 1) hx hb dX9_hears_9 (by decide) ?_
  refine lv_iadd hx hb dX9_hears_10 ?_
  refine k_iast hx hb hC.1 hP hD hS 1 0 rfl rfl (by omega) dX9_hears_11 (fun H locs hP hD hS => ?_)
  have hP : va_P D vwCl [oMo mo ma mh (nI hn) th mk mz mt (nI tn) (nI ax) sc ti pp, aI T ma 266 (upd al pa ((al pa) + 1))] H := hP
  have hD : va_D A [oMo mo ma mh (nI hn) th mk mz mt (nI tn) (nI ax) sc ti pp, aI T ma 266 (upd al pa ((al pa) + 1))] := hD
  refine lv_aload_n hx hb dX9_hears_12 rfl (lv_at hl 0 rfl) ?_
  refine va_get (D := D) (ci := 8) (v := .ref ma) (C := RX9) (T := TX9) (N := 12) hx hb hts iX9 hown hC.1 hP 0 rfl rfl 0 (by decide) (hts (.fieldLink RX9 7 "ParrotCountsModel" "all" "[I") (List.mem_of_getElem? (i := 1) rfl)) (fun _ h => h) rfl dX9_hears_13 ?_
  refine lv_bipush (v := 26) hx hb dX9_hears_16 (by decide) ?_
  refine lv_iload_n hx hb dX9_hears_18 rfl (lv_at hl 1 rfl) ?_
  refine lv_iadd hx hb dX9_hears_19 ?_
  refine W.eq (g2 := F0 m 20 ls (.int (nI (26 + pa)) :: [.ref ma])) (congrArg (fun z => F0 m 20 ls (.int z :: [.ref ma])) (nI_add 26 pa)) ?_
  refine k_iald hx hb hC.1 hP 1 0 rfl rfl (by omega) dX9_hears_20 ?_
  refine lv_if_ne (tgt := 104) hx hb dX9_hears_21 (by decide) (fun c21 => ?_) (fun c21 => ?_)
  · have e_1 : upd al pa ((al pa) + 1) = heB al pa := by first | (unfold heB heT; rw [if_pos c21, if_pos c29]; done) | (unfold heB; rw [if_pos c21, if_neg (by rw [c29]; decide)]; done) | (unfold heB; rw [if_neg c21]; done)
    have eW := congrArg (fun zZ => ([oMo mo ma mh (nI hn) th mk mz mt (nI tn) (nI ax) sc ti pp, aI T ma 266 zZ] : va_W)) e_1
    have hP : va_P D vwCl [oMo mo ma mh (nI hn) th mk mz mt (nI tn) (nI ax) sc ti pp, aI T ma 266 (heB al pa)] _ := Eq.subst (motive := fun w => va_P D vwCl w _) eW hP
    have hD : va_D A [oMo mo ma mh (nI hn) th mk mz mt (nI tn) (nI ax) sc ti pp, aI T ma 266 (heB al pa)] := Eq.subst (motive := fun w => va_D A w) eW hD
    refine lv_aload_n hx hb dX9_hears_104 rfl (lv_at hl 0 rfl) ?_
    refine va_get (D := D) (ci := 8) (v := .ref ma) (C := RX9) (T := TX9) (N := 12) hx hb hts iX9 hown hC.1 hP 0 rfl rfl 0 (by decide) (hts (.fieldLink RX9 7 "ParrotCountsModel" "all" "[I") (List.mem_of_getElem? (i := 1) rfl)) (fun _ h => h) rfl dX9_hears_105 ?_
    refine lv_bipush (v := 26) hx hb dX9_hears_108 (by decide) ?_
    refine lv_iload_n hx hb dX9_hears_110 rfl (lv_at hl 1 rfl) ?_
    refine lv_iadd hx hb dX9_hears_111 ?_
    refine W.eq (g2 := F0 m 112 ls (.int (nI (26 + pa)) :: [.ref ma])) (congrArg (fun z => F0 m 112 ls (.int z :: [.ref ma])) (nI_add 26 pa)) ?_
    refine lv_dup2_11 hx hb dX9_hears_112 rfl rfl ?_
    refine k_iald hx hb hC.1 hP 1 0 rfl rfl (by omega) dX9_hears_113 ?_
    refine lv_iconst (v := 1) hx hb dX9_hears_114 (by decide) ?_
    refine lv_iadd hx hb dX9_hears_115 ?_
    refine k_iast hx hb hC.1 hP hD hS 1 0 rfl rfl (by omega) dX9_hears_116 (fun H locs hP hD hS => ?_)
    have hP : va_P D vwCl [oMo mo ma mh (nI hn) th mk mz mt (nI tn) (nI ax) sc ti pp, aI T ma 266 (upd (heB al pa) (26 + pa) (((heB al pa) (26 + pa)) + 1))] H := hP
    have hD : va_D A [oMo mo ma mh (nI hn) th mk mz mt (nI tn) (nI ax) sc ti pp, aI T ma 266 (upd (heB al pa) (26 + pa) (((heB al pa) (26 + pa)) + 1))] := hD
    refine lv_aload_n hx hb dX9_hears_117 rfl (lv_at hl 0 rfl) ?_
    refine va_get (D := D) (ci := 8) (v := .ref ma) (C := RX9) (T := TX9) (N := 12) hx hb hts iX9 hown hC.1 hP 0 rfl rfl 0 (by decide) (hts (.fieldLink RX9 7 "ParrotCountsModel" "all" "[I") (List.mem_of_getElem? (i := 1) rfl)) (fun _ h => h) rfl dX9_hears_118 ?_
    refine lv_sipush (v := 131) hx hb dX9_hears_121 (by decide) ?_
    refine lv_dup2_11 hx hb dX9_hears_124 rfl rfl ?_
    refine k_iald hx hb hC.1 hP 1 0 rfl rfl (by decide) dX9_hears_125 ?_
    refine lv_iconst (v := 1) hx hb dX9_hears_126 (by decide) ?_
    refine lv_iadd hx hb dX9_hears_127 ?_
    refine k_iast hx hb hC.1 hP hD hS 1 0 rfl rfl (by decide) dX9_hears_128 (fun H locs hP hD hS => ?_)
    have hP : va_P D vwCl [oMo mo ma mh (nI hn) th mk mz mt (nI tn) (nI ax) sc ti pp, aI T ma 266 (upd (upd (heB al pa) (26 + pa) (((heB al pa) (26 + pa)) + 1)) 131 (((upd (heB al pa) (26 + pa) (((heB al pa) (26 + pa)) + 1)) 131) + 1))] H := hP
    have hD : va_D A [oMo mo ma mh (nI hn) th mk mz mt (nI tn) (nI ax) sc ti pp, aI T ma 266 (upd (upd (heB al pa) (26 + pa) (((heB al pa) (26 + pa)) + 1)) 131 (((upd (heB al pa) (26 + pa) (((heB al pa) (26 + pa)) + 1)) 131) + 1))] := hD
    refine lv_aload_n hx hb dX9_hears_129 rfl (lv_at hl 0 rfl) ?_
    refine va_get (D := D) (ci := 8) (v := .ref ma) (C := RX9) (T := TX9) (N := 12) hx hb hts iX9 hown hC.1 hP 0 rfl rfl 0 (by decide) (hts (.fieldLink RX9 7 "ParrotCountsModel" "all" "[I") (List.mem_of_getElem? (i := 1) rfl)) (fun _ h => h) rfl dX9_hears_130 ?_
    refine lv_bipush (v := 78) hx hb dX9_hears_133 (by decide) ?_
    refine lv_iload_n hx hb dX9_hears_135 rfl (lv_at hl 1 rfl) ?_
    refine lv_iadd hx hb dX9_hears_136 ?_
    refine W.eq (g2 := F0 m 137 ls (.int (nI (78 + pa)) :: [.ref ma])) (congrArg (fun z => F0 m 137 ls (.int z :: [.ref ma])) (nI_add 78 pa)) ?_
    refine lv_aload_n hx hb dX9_hears_137 rfl (lv_at hl 0 rfl) ?_
    refine va_get (D := D) (ci := 8) (v := .ref ma) (C := RX9) (T := TX9) (N := 12) hx hb hts iX9 hown hC.1 hP 0 rfl rfl 0 (by decide) (hts (.fieldLink RX9 7 "ParrotCountsModel" "all" "[I") (List.mem_of_getElem? (i := 1) rfl)) (fun _ h => h) rfl dX9_hears_138 ?_
    refine lv_sipush (v := 131) hx hb dX9_hears_141 (by decide) ?_
    refine k_iald hx hb hC.1 hP 1 0 rfl rfl (by decide) dX9_hears_144 ?_
    refine k_iast hx hb hC.1 hP hD hS 1 0 rfl rfl (by omega) dX9_hears_145 (fun H locs hP hD hS => ?_)
    have hP : va_P D vwCl [oMo mo ma mh (nI hn) th mk mz mt (nI tn) (nI ax) sc ti pp, aI T ma 266 (upd (upd (upd (heB al pa) (26 + pa) (((heB al pa) (26 + pa)) + 1)) 131 (((upd (heB al pa) (26 + pa) (((heB al pa) (26 + pa)) + 1)) 131) + 1)) (78 + pa) ((upd (upd (heB al pa) (26 + pa) (((heB al pa) (26 + pa)) + 1)) 131 (((upd (heB al pa) (26 + pa) (((heB al pa) (26 + pa)) + 1)) 131) + 1)) 131))] H := hP
    have hD : va_D A [oMo mo ma mh (nI hn) th mk mz mt (nI tn) (nI ax) sc ti pp, aI T ma 266 (upd (upd (upd (heB al pa) (26 + pa) (((heB al pa) (26 + pa)) + 1)) 131 (((upd (heB al pa) (26 + pa) (((heB al pa) (26 + pa)) + 1)) 131) + 1)) (78 + pa) ((upd (upd (heB al pa) (26 + pa) (((heB al pa) (26 + pa)) + 1)) 131 (((upd (heB al pa) (26 + pa) (((heB al pa) (26 + pa)) + 1)) 131) + 1)) 131))] := hD
    have e_2 : upd (upd (upd (heB al pa) (26 + pa) (((heB al pa) (26 + pa)) + 1)) 131 (((upd (heB al pa) (26 + pa) (((heB al pa) (26 + pa)) + 1)) 131) + 1)) (78 + pa) ((upd (upd (heB al pa) (26 + pa) (((heB al pa) (26 + pa)) + 1)) 131 (((upd (heB al pa) (26 + pa) (((heB al pa) (26 + pa)) + 1)) 131) + 1)) 131) = heC (heB al pa) pa := rfl
    have eW := congrArg (fun zZ => ([oMo mo ma mh (nI hn) th mk mz mt (nI tn) (nI ax) sc ti pp, aI T ma 266 zZ] : va_W)) e_2
    have hP : va_P D vwCl [oMo mo ma mh (nI hn) th mk mz mt (nI tn) (nI ax) sc ti pp, aI T ma 266 (heC (heB al pa) pa)] _ := Eq.subst (motive := fun w => va_P D vwCl w _) eW hP
    have hD : va_D A [oMo mo ma mh (nI hn) th mk mz mt (nI tn) (nI ax) sc ti pp, aI T ma 266 (heC (heB al pa) pa)] := Eq.subst (motive := fun w => va_D A w) eW hD
    refine lv_aload_n hx hb dX9_hears_146 rfl (lv_at hl 0 rfl) ?_
    refine va_get (D := D) (ci := 8) (v := .ref ma) (C := RX9) (T := TX9) (N := 12) hx hb hts iX9 hown hC.1 hP 0 rfl rfl 0 (by decide) (hts (.fieldLink RX9 7 "ParrotCountsModel" "all" "[I") (List.mem_of_getElem? (i := 1) rfl)) (fun _ h => h) rfl dX9_hears_147 ?_
    refine lv_bipush (v := 104) hx hb dX9_hears_150 (by decide) ?_
    refine lv_iload_n hx hb dX9_hears_152 rfl (lv_at hl 1 rfl) ?_
    refine lv_iadd hx hb dX9_hears_153 ?_
    refine W.eq (g2 := F0 m 154 ls (.int (nI (104 + pa)) :: [.ref ma])) (congrArg (fun z => F0 m 154 ls (.int z :: [.ref ma])) (nI_add 104 pa)) ?_
    refine k_iald hx hb hC.1 hP 1 0 rfl rfl (by omega) dX9_hears_154 ?_
    refine lv_if_gt (tgt := 175) hx hb dX9_hears_155 (by decide) (fun c155 => ?_) (fun c155 => ?_)
    · have c155 := Int32.not_le.mpr c155
      refine lv_aload_n hx hb dX9_hears_175 rfl (lv_at hl 0 rfl) ?_
      refine va_get (D := D) (ci := 8) (v := .ref ma) (C := RX9) (T := TX9) (N := 12) hx hb hts iX9 hown hC.1 hP 0 rfl rfl 0 (by decide) (hts (.fieldLink RX9 7 "ParrotCountsModel" "all" "[I") (List.mem_of_getElem? (i := 1) rfl)) (fun _ h => h) rfl dX9_hears_176 ?_
      refine lv_bipush (v := 104) hx hb dX9_hears_179 (by decide) ?_
      refine lv_iload_n hx hb dX9_hears_181 rfl (lv_at hl 1 rfl) ?_
      refine lv_iadd hx hb dX9_hears_182 ?_
      refine W.eq (g2 := F0 m 183 ls (.int (nI (104 + pa)) :: [.ref ma])) (congrArg (fun z => F0 m 183 ls (.int z :: [.ref ma])) (nI_add 104 pa)) ?_
      refine lv_dup2_11 hx hb dX9_hears_183 rfl rfl ?_
      refine k_iald hx hb hC.1 hP 1 0 rfl rfl (by omega) dX9_hears_184 ?_
      refine lv_iconst (v := 1) hx hb dX9_hears_185 (by decide) ?_
      refine lv_iadd hx hb dX9_hears_186 ?_
      refine k_iast hx hb hC.1 hP hD hS 1 0 rfl rfl (by omega) dX9_hears_187 (fun H locs hP hD hS => ?_)
      have hP : va_P D vwCl [oMo mo ma mh (nI hn) th mk mz mt (nI tn) (nI ax) sc ti pp, aI T ma 266 (upd (heC (heB al pa) pa) (104 + pa) (((heC (heB al pa) pa) (104 + pa)) + 1))] H := hP
      have hD : va_D A [oMo mo ma mh (nI hn) th mk mz mt (nI tn) (nI ax) sc ti pp, aI T ma 266 (upd (heC (heB al pa) pa) (104 + pa) (((heC (heB al pa) pa) (104 + pa)) + 1))] := hD
      refine lv_goto (tgt := 208) hx hb dX9_hears_188 (by decide) ?_
      have e_3 : upd (heC (heB al pa) pa) (104 + pa) (((heC (heB al pa) pa) (104 + pa)) + 1) = heM al pa := by first | (unfold heM heW; rw [if_neg c155]; done) | (unfold heM heW; rw [if_pos c155, if_pos c172]; done) | (unfold heM heW; rw [if_pos c155, if_neg c172]; done)
      have eW := congrArg (fun zZ => ([oMo mo ma mh (nI hn) th mk mz mt (nI tn) (nI ax) sc ti pp, aI T ma 266 zZ] : va_W)) e_3
      have hP : va_P D vwCl [oMo mo ma mh (nI hn) th mk mz mt (nI tn) (nI ax) sc ti pp, aI T ma 266 (heM al pa)] _ := Eq.subst (motive := fun w => va_P D vwCl w _) eW hP
      have hD : va_D A [oMo mo ma mh (nI hn) th mk mz mt (nI tn) (nI ax) sc ti pp, aI T ma 266 (heM al pa)] := Eq.subst (motive := fun w => va_D A w) eW hD
      exact hret _ _ _ _ _ (fun Qc free hq hf => W.vret hx hb hr hq hf dX9_hears_208 hlk) hP hD hS
    · have c155 := Int32.not_lt.mp c155
      refine lv_aload_n hx hb dX9_hears_158 rfl (lv_at hl 0 rfl) ?_
      refine lv_bipush (v := 104) hx hb dX9_hears_159 (by decide) ?_
      have hP := hP.sub (ws' := [oMo mo ma mh (nI hn) th mk mz mt (nI tn) (nI ax) sc ti pp, aI T ma 266 (heC (heB al pa) pa)] ++ []) [0, 1] rfl
      have hD := hD.sub (ws' := [oMo mo ma mh (nI hn) th mk mz mt (nI tn) (nI ax) sc ti pp, aI T ma 266 (heC (heB al pa) pa)] ++ []) [0, 1] (by decide) rfl
      refine kV (ci := 8) (As := [.int 104]) (rest := []) ⟨hx, hb, hml, hown, hts⟩ (c_X9_many l D T mo ma mh mk mz mt (heC (heB al pa) pa) hn th tn ax sc ti pp 104 (by first | omega | assumption)) (cwV 1 hts gX9_hears_X9_many rfl rfl rfl (by decide +kernel) ⟨Nat.le_of_ble_eq_true rfl, Nat.le_of_ble_eq_true rfl⟩) hC hP hD hS hA rfl rfl rfl hl.1 rfl (Nat.le_of_ble_eq_true rfl) dX9_hears_161 ⟨Nat.zero_le _, Nat.zero_le _⟩ (fun H locs hP hD hS => ?_)
      have hP : va_P D vwCl [oMo mo ma mh (nI hn) th mk mz mt (nI tn) (nI ax) sc ti pp, aI T ma 266 (heC (heB al pa) pa)] H := hP
      have hD : va_D A [oMo mo ma mh (nI hn) th mk mz mt (nI tn) (nI ax) sc ti pp, aI T ma 266 (heC (heB al pa) pa)] := hD
      refine W.eq (g2 := F0 m 164 ls [.int (nI (cntN (rwF (heC (heB al pa) pa) 104) 26))]) rfl ?_
      refine lv_aload_n hx hb dX9_hears_164 rfl (lv_at hl 0 rfl) ?_
      refine va_get (D := D) (ci := 8) (v := .ref ma) (C := RX9) (T := TX9) (N := 12) hx hb hts iX9 hown hC.1 hP 0 rfl rfl 0 (by decide) (hts (.fieldLink RX9 7 "ParrotCountsModel" "all" "[I") (List.mem_of_getElem? (i := 1) rfl)) (fun _ h => h) rfl dX9_hears_165 ?_
      refine lv_sipush (v := 264) hx hb dX9_hears_168 (by decide) ?_
      refine k_iald hx hb hC.1 hP 1 0 rfl rfl (by decide) dX9_hears_171 ?_
      refine lv_icmp_ge (tgt := 191) hx hb dX9_hears_172 (by decide) (fun c172 => ?_) (fun c172 => ?_)
      · refine lv_aload_n hx hb dX9_hears_191 rfl (lv_at hl 0 rfl) ?_
        refine lv_iconst (v := 1) hx hb dX9_hears_192 (by decide) ?_
        have hP := hP.sub (ws' := [oMo mo ma mh (nI hn) th mk mz mt (nI tn) (nI ax) sc ti pp, aI T ma 266 (heC (heB al pa) pa)] ++ []) [0, 1] rfl
        have hD := hD.sub (ws' := [oMo mo ma mh (nI hn) th mk mz mt (nI tn) (nI ax) sc ti pp, aI T ma 266 (heC (heB al pa) pa)] ++ []) [0, 1] (by decide) rfl
        refine kV (ci := 8) (As := [.int 1]) (rest := []) ⟨hx, hb, hml, hown, hts⟩ (c_X9_wears l D T mo ma mh mk mz mt (heC (heB al pa) pa) hn th tn ax sc ti pp 1 ) (cwV 1 hts gX9_hears_X9_wears rfl rfl rfl (by decide +kernel) ⟨Nat.le_of_ble_eq_true rfl, Nat.le_of_ble_eq_true rfl⟩) hC hP hD hS hA rfl rfl rfl hl.1 rfl (Nat.le_of_ble_eq_true rfl) dX9_hears_193 ⟨Nat.zero_le _, Nat.zero_le _⟩ (fun H locs hP hD hS => ?_)
        have hP : va_P D vwCl [oMo mo ma mh (nI hn) th mk mz mt (nI tn) (nI ax) sc ti pp, aI T ma 266 (wrN (heC (heB al pa) pa) 1 26)] H := hP
        have hD : va_D A [oMo mo ma mh (nI hn) th mk mz mt (nI tn) (nI ax) sc ti pp, aI T ma 266 (wrN (heC (heB al pa) pa) 1 26)] := hD
        refine W.eq (g2 := F0 m 196 ls []) rfl ?_
        refine lv_aload_n hx hb dX9_hears_196 rfl (lv_at hl 0 rfl) ?_
        refine va_get (D := D) (ci := 8) (v := .ref ma) (C := RX9) (T := TX9) (N := 12) hx hb hts iX9 hown hC.1 hP 0 rfl rfl 0 (by decide) (hts (.fieldLink RX9 7 "ParrotCountsModel" "all" "[I") (List.mem_of_getElem? (i := 1) rfl)) (fun _ h => h) rfl dX9_hears_197 ?_
        refine lv_sipush (v := 130) hx hb dX9_hears_200 (by decide) ?_
        refine lv_dup2_11 hx hb dX9_hears_203 rfl rfl ?_
        refine k_iald hx hb hC.1 hP 1 0 rfl rfl (by decide) dX9_hears_204 ?_
        refine lv_iconst (v := 1) hx hb dX9_hears_205 (by decide) ?_
        refine lv_iadd hx hb dX9_hears_206 ?_
        refine k_iast hx hb hC.1 hP hD hS 1 0 rfl rfl (by decide) dX9_hears_207 (fun H locs hP hD hS => ?_)
        have hP : va_P D vwCl [oMo mo ma mh (nI hn) th mk mz mt (nI tn) (nI ax) sc ti pp, aI T ma 266 (upd (wrN (heC (heB al pa) pa) 1 26) 130 (((wrN (heC (heB al pa) pa) 1 26) 130) + 1))] H := hP
        have hD : va_D A [oMo mo ma mh (nI hn) th mk mz mt (nI tn) (nI ax) sc ti pp, aI T ma 266 (upd (wrN (heC (heB al pa) pa) 1 26) 130 (((wrN (heC (heB al pa) pa) 1 26) 130) + 1))] := hD
        have e_4 : upd (wrN (heC (heB al pa) pa) 1 26) 130 (((wrN (heC (heB al pa) pa) 1 26) 130) + 1) = heM al pa := by first | (unfold heM heW; rw [if_neg c155]; done) | (unfold heM heW; rw [if_pos c155, if_pos c172]; done) | (unfold heM heW; rw [if_pos c155, if_neg c172]; done)
        have eW := congrArg (fun zZ => ([oMo mo ma mh (nI hn) th mk mz mt (nI tn) (nI ax) sc ti pp, aI T ma 266 zZ] : va_W)) e_4
        have hP : va_P D vwCl [oMo mo ma mh (nI hn) th mk mz mt (nI tn) (nI ax) sc ti pp, aI T ma 266 (heM al pa)] _ := Eq.subst (motive := fun w => va_P D vwCl w _) eW hP
        have hD : va_D A [oMo mo ma mh (nI hn) th mk mz mt (nI tn) (nI ax) sc ti pp, aI T ma 266 (heM al pa)] := Eq.subst (motive := fun w => va_D A w) eW hD
        exact hret _ _ _ _ _ (fun Qc free hq hf => W.vret hx hb hr hq hf dX9_hears_208 hlk) hP hD hS
      · refine lv_aload_n hx hb dX9_hears_175 rfl (lv_at hl 0 rfl) ?_
        refine va_get (D := D) (ci := 8) (v := .ref ma) (C := RX9) (T := TX9) (N := 12) hx hb hts iX9 hown hC.1 hP 0 rfl rfl 0 (by decide) (hts (.fieldLink RX9 7 "ParrotCountsModel" "all" "[I") (List.mem_of_getElem? (i := 1) rfl)) (fun _ h => h) rfl dX9_hears_176 ?_
        refine lv_bipush (v := 104) hx hb dX9_hears_179 (by decide) ?_
        refine lv_iload_n hx hb dX9_hears_181 rfl (lv_at hl 1 rfl) ?_
        refine lv_iadd hx hb dX9_hears_182 ?_
        refine W.eq (g2 := F0 m 183 ls (.int (nI (104 + pa)) :: [.ref ma])) (congrArg (fun z => F0 m 183 ls (.int z :: [.ref ma])) (nI_add 104 pa)) ?_
        refine lv_dup2_11 hx hb dX9_hears_183 rfl rfl ?_
        refine k_iald hx hb hC.1 hP 1 0 rfl rfl (by omega) dX9_hears_184 ?_
        refine lv_iconst (v := 1) hx hb dX9_hears_185 (by decide) ?_
        refine lv_iadd hx hb dX9_hears_186 ?_
        refine k_iast hx hb hC.1 hP hD hS 1 0 rfl rfl (by omega) dX9_hears_187 (fun H locs hP hD hS => ?_)
        have hP : va_P D vwCl [oMo mo ma mh (nI hn) th mk mz mt (nI tn) (nI ax) sc ti pp, aI T ma 266 (upd (heC (heB al pa) pa) (104 + pa) (((heC (heB al pa) pa) (104 + pa)) + 1))] H := hP
        have hD : va_D A [oMo mo ma mh (nI hn) th mk mz mt (nI tn) (nI ax) sc ti pp, aI T ma 266 (upd (heC (heB al pa) pa) (104 + pa) (((heC (heB al pa) pa) (104 + pa)) + 1))] := hD
        refine lv_goto (tgt := 208) hx hb dX9_hears_188 (by decide) ?_
        have e_5 : upd (heC (heB al pa) pa) (104 + pa) (((heC (heB al pa) pa) (104 + pa)) + 1) = heM al pa := by first | (unfold heM heW; rw [if_neg c155]; done) | (unfold heM heW; rw [if_pos c155, if_pos c172]; done) | (unfold heM heW; rw [if_pos c155, if_neg c172]; done)
        have eW := congrArg (fun zZ => ([oMo mo ma mh (nI hn) th mk mz mt (nI tn) (nI ax) sc ti pp, aI T ma 266 zZ] : va_W)) e_5
        have hP : va_P D vwCl [oMo mo ma mh (nI hn) th mk mz mt (nI tn) (nI ax) sc ti pp, aI T ma 266 (heM al pa)] _ := Eq.subst (motive := fun w => va_P D vwCl w _) eW hP
        have hD : va_D A [oMo mo ma mh (nI hn) th mk mz mt (nI tn) (nI ax) sc ti pp, aI T ma 266 (heM al pa)] := Eq.subst (motive := fun w => va_D A w) eW hD
        exact hret _ _ _ _ _ (fun Qc free hq hf => W.vret hx hb hr hq hf dX9_hears_208 hlk) hP hD hS
  · refine lv_aload_n hx hb dX9_hears_24 rfl (lv_at hl 0 rfl) ?_
    refine lv_iconst (v := 0) hx hb dX9_hears_25 (by decide) ?_
    have hP := hP.sub (ws' := [oMo mo ma mh (nI hn) th mk mz mt (nI tn) (nI ax) sc ti pp, aI T ma 266 (upd al pa ((al pa) + 1))] ++ []) [0, 1] rfl
    have hD := hD.sub (ws' := [oMo mo ma mh (nI hn) th mk mz mt (nI tn) (nI ax) sc ti pp, aI T ma 266 (upd al pa ((al pa) + 1))] ++ []) [0, 1] (by decide) rfl
    refine kV (ci := 8) (As := [.int 0]) (rest := []) ⟨hx, hb, hml, hown, hts⟩ (c_X9_isFull l D T mo ma mh mk mz mt (upd al pa ((al pa) + 1)) hn th tn ax sc ti pp 0 (by first | omega | assumption)) (cwV 1 hts gX9_hears_X9_isFull rfl rfl rfl (by decide +kernel) ⟨Nat.le_of_ble_eq_true rfl, Nat.le_of_ble_eq_true rfl⟩) hC hP hD hS hA rfl rfl rfl hl.1 rfl (Nat.le_of_ble_eq_true rfl) dX9_hears_26 ⟨Nat.zero_le _, Nat.zero_le _⟩ (fun H locs hP hD hS => ?_)
    have hP : va_P D vwCl [oMo mo ma mh (nI hn) th mk mz mt (nI tn) (nI ax) sc ti pp, aI T ma 266 (upd al pa ((al pa) + 1))] H := hP
    have hD : va_D A [oMo mo ma mh (nI hn) th mk mz mt (nI tn) (nI ax) sc ti pp, aI T ma 266 (upd al pa ((al pa) + 1))] := hD
    refine W.eq (g2 := F0 m 29 ls [.int (bI (mFull (upd al pa ((al pa) + 1)) 0))]) rfl ?_
    refine lv_if_eq (tgt := 104) hx hb dX9_hears_29 (by decide) (fun c29 => ?_) (fun c29 => ?_)
    · have c29 := (bI0 _).mp c29
      have e_6 : (upd al pa ((al pa) + 1)) = heB al pa := by first | (unfold heB heT; rw [if_pos c21, if_pos c29]; done) | (unfold heB; rw [if_pos c21, if_neg (by rw [c29]; decide)]; done) | (unfold heB; rw [if_neg c21]; done)
      have eW := congrArg (fun zZ => ([oMo mo ma mh (nI hn) th mk mz mt (nI tn) (nI ax) sc ti pp, aI T ma 266 zZ] : va_W)) e_6
      have hP : va_P D vwCl [oMo mo ma mh (nI hn) th mk mz mt (nI tn) (nI ax) sc ti pp, aI T ma 266 (heB al pa)] _ := Eq.subst (motive := fun w => va_P D vwCl w _) eW hP
      have hD : va_D A [oMo mo ma mh (nI hn) th mk mz mt (nI tn) (nI ax) sc ti pp, aI T ma 266 (heB al pa)] := Eq.subst (motive := fun w => va_D A w) eW hD
      refine lv_aload_n hx hb dX9_hears_104 rfl (lv_at hl 0 rfl) ?_
      refine va_get (D := D) (ci := 8) (v := .ref ma) (C := RX9) (T := TX9) (N := 12) hx hb hts iX9 hown hC.1 hP 0 rfl rfl 0 (by decide) (hts (.fieldLink RX9 7 "ParrotCountsModel" "all" "[I") (List.mem_of_getElem? (i := 1) rfl)) (fun _ h => h) rfl dX9_hears_105 ?_
      refine lv_bipush (v := 26) hx hb dX9_hears_108 (by decide) ?_
      refine lv_iload_n hx hb dX9_hears_110 rfl (lv_at hl 1 rfl) ?_
      refine lv_iadd hx hb dX9_hears_111 ?_
      refine W.eq (g2 := F0 m 112 ls (.int (nI (26 + pa)) :: [.ref ma])) (congrArg (fun z => F0 m 112 ls (.int z :: [.ref ma])) (nI_add 26 pa)) ?_
      refine lv_dup2_11 hx hb dX9_hears_112 rfl rfl ?_
      refine k_iald hx hb hC.1 hP 1 0 rfl rfl (by omega) dX9_hears_113 ?_
      refine lv_iconst (v := 1) hx hb dX9_hears_114 (by decide) ?_
      refine lv_iadd hx hb dX9_hears_115 ?_
      refine k_iast hx hb hC.1 hP hD hS 1 0 rfl rfl (by omega) dX9_hears_116 (fun H locs hP hD hS => ?_)
      have hP : va_P D vwCl [oMo mo ma mh (nI hn) th mk mz mt (nI tn) (nI ax) sc ti pp, aI T ma 266 (upd (heB al pa) (26 + pa) (((heB al pa) (26 + pa)) + 1))] H := hP
      have hD : va_D A [oMo mo ma mh (nI hn) th mk mz mt (nI tn) (nI ax) sc ti pp, aI T ma 266 (upd (heB al pa) (26 + pa) (((heB al pa) (26 + pa)) + 1))] := hD
      refine lv_aload_n hx hb dX9_hears_117 rfl (lv_at hl 0 rfl) ?_
      refine va_get (D := D) (ci := 8) (v := .ref ma) (C := RX9) (T := TX9) (N := 12) hx hb hts iX9 hown hC.1 hP 0 rfl rfl 0 (by decide) (hts (.fieldLink RX9 7 "ParrotCountsModel" "all" "[I") (List.mem_of_getElem? (i := 1) rfl)) (fun _ h => h) rfl dX9_hears_118 ?_
      refine lv_sipush (v := 131) hx hb dX9_hears_121 (by decide) ?_
      refine lv_dup2_11 hx hb dX9_hears_124 rfl rfl ?_
      refine k_iald hx hb hC.1 hP 1 0 rfl rfl (by decide) dX9_hears_125 ?_
      refine lv_iconst (v := 1) hx hb dX9_hears_126 (by decide) ?_
      refine lv_iadd hx hb dX9_hears_127 ?_
      refine k_iast hx hb hC.1 hP hD hS 1 0 rfl rfl (by decide) dX9_hears_128 (fun H locs hP hD hS => ?_)
      have hP : va_P D vwCl [oMo mo ma mh (nI hn) th mk mz mt (nI tn) (nI ax) sc ti pp, aI T ma 266 (upd (upd (heB al pa) (26 + pa) (((heB al pa) (26 + pa)) + 1)) 131 (((upd (heB al pa) (26 + pa) (((heB al pa) (26 + pa)) + 1)) 131) + 1))] H := hP
      have hD : va_D A [oMo mo ma mh (nI hn) th mk mz mt (nI tn) (nI ax) sc ti pp, aI T ma 266 (upd (upd (heB al pa) (26 + pa) (((heB al pa) (26 + pa)) + 1)) 131 (((upd (heB al pa) (26 + pa) (((heB al pa) (26 + pa)) + 1)) 131) + 1))] := hD
      refine lv_aload_n hx hb dX9_hears_129 rfl (lv_at hl 0 rfl) ?_
      refine va_get (D := D) (ci := 8) (v := .ref ma) (C := RX9) (T := TX9) (N := 12) hx hb hts iX9 hown hC.1 hP 0 rfl rfl 0 (by decide) (hts (.fieldLink RX9 7 "ParrotCountsModel" "all" "[I") (List.mem_of_getElem? (i := 1) rfl)) (fun _ h => h) rfl dX9_hears_130 ?_
      refine lv_bipush (v := 78) hx hb dX9_hears_133 (by decide) ?_
      refine lv_iload_n hx hb dX9_hears_135 rfl (lv_at hl 1 rfl) ?_
      refine lv_iadd hx hb dX9_hears_136 ?_
      refine W.eq (g2 := F0 m 137 ls (.int (nI (78 + pa)) :: [.ref ma])) (congrArg (fun z => F0 m 137 ls (.int z :: [.ref ma])) (nI_add 78 pa)) ?_
      refine lv_aload_n hx hb dX9_hears_137 rfl (lv_at hl 0 rfl) ?_
      refine va_get (D := D) (ci := 8) (v := .ref ma) (C := RX9) (T := TX9) (N := 12) hx hb hts iX9 hown hC.1 hP 0 rfl rfl 0 (by decide) (hts (.fieldLink RX9 7 "ParrotCountsModel" "all" "[I") (List.mem_of_getElem? (i := 1) rfl)) (fun _ h => h) rfl dX9_hears_138 ?_
      refine lv_sipush (v := 131) hx hb dX9_hears_141 (by decide) ?_
      refine k_iald hx hb hC.1 hP 1 0 rfl rfl (by decide) dX9_hears_144 ?_
      refine k_iast hx hb hC.1 hP hD hS 1 0 rfl rfl (by omega) dX9_hears_145 (fun H locs hP hD hS => ?_)
      have hP : va_P D vwCl [oMo mo ma mh (nI hn) th mk mz mt (nI tn) (nI ax) sc ti pp, aI T ma 266 (upd (upd (upd (heB al pa) (26 + pa) (((heB al pa) (26 + pa)) + 1)) 131 (((upd (heB al pa) (26 + pa) (((heB al pa) (26 + pa)) + 1)) 131) + 1)) (78 + pa) ((upd (upd (heB al pa) (26 + pa) (((heB al pa) (26 + pa)) + 1)) 131 (((upd (heB al pa) (26 + pa) (((heB al pa) (26 + pa)) + 1)) 131) + 1)) 131))] H := hP
      have hD : va_D A [oMo mo ma mh (nI hn) th mk mz mt (nI tn) (nI ax) sc ti pp, aI T ma 266 (upd (upd (upd (heB al pa) (26 + pa) (((heB al pa) (26 + pa)) + 1)) 131 (((upd (heB al pa) (26 + pa) (((heB al pa) (26 + pa)) + 1)) 131) + 1)) (78 + pa) ((upd (upd (heB al pa) (26 + pa) (((heB al pa) (26 + pa)) + 1)) 131 (((upd (heB al pa) (26 + pa) (((heB al pa) (26 + pa)) + 1)) 131) + 1)) 131))] := hD
      have e_7 : upd (upd (upd (heB al pa) (26 + pa) (((heB al pa) (26 + pa)) + 1)) 131 (((upd (heB al pa) (26 + pa) (((heB al pa) (26 + pa)) + 1)) 131) + 1)) (78 + pa) ((upd (upd (heB al pa) (26 + pa) (((heB al pa) (26 + pa)) + 1)) 131 (((upd (heB al pa) (26 + pa) (((heB al pa) (26 + pa)) + 1)) 131) + 1)) 131) = heC (heB al pa) pa := rfl
      have eW := congrArg (fun zZ => ([oMo mo ma mh (nI hn) th mk mz mt (nI tn) (nI ax) sc ti pp, aI T ma 266 zZ] : va_W)) e_7
      have hP : va_P D vwCl [oMo mo ma mh (nI hn) th mk mz mt (nI tn) (nI ax) sc ti pp, aI T ma 266 (heC (heB al pa) pa)] _ := Eq.subst (motive := fun w => va_P D vwCl w _) eW hP
      have hD : va_D A [oMo mo ma mh (nI hn) th mk mz mt (nI tn) (nI ax) sc ti pp, aI T ma 266 (heC (heB al pa) pa)] := Eq.subst (motive := fun w => va_D A w) eW hD
      refine lv_aload_n hx hb dX9_hears_146 rfl (lv_at hl 0 rfl) ?_
      refine va_get (D := D) (ci := 8) (v := .ref ma) (C := RX9) (T := TX9) (N := 12) hx hb hts iX9 hown hC.1 hP 0 rfl rfl 0 (by decide) (hts (.fieldLink RX9 7 "ParrotCountsModel" "all" "[I") (List.mem_of_getElem? (i := 1) rfl)) (fun _ h => h) rfl dX9_hears_147 ?_
      refine lv_bipush (v := 104) hx hb dX9_hears_150 (by decide) ?_
      refine lv_iload_n hx hb dX9_hears_152 rfl (lv_at hl 1 rfl) ?_
      refine lv_iadd hx hb dX9_hears_153 ?_
      refine W.eq (g2 := F0 m 154 ls (.int (nI (104 + pa)) :: [.ref ma])) (congrArg (fun z => F0 m 154 ls (.int z :: [.ref ma])) (nI_add 104 pa)) ?_
      refine k_iald hx hb hC.1 hP 1 0 rfl rfl (by omega) dX9_hears_154 ?_
      refine lv_if_gt (tgt := 175) hx hb dX9_hears_155 (by decide) (fun c155 => ?_) (fun c155 => ?_)
      · have c155 := Int32.not_le.mpr c155
        refine lv_aload_n hx hb dX9_hears_175 rfl (lv_at hl 0 rfl) ?_
        refine va_get (D := D) (ci := 8) (v := .ref ma) (C := RX9) (T := TX9) (N := 12) hx hb hts iX9 hown hC.1 hP 0 rfl rfl 0 (by decide) (hts (.fieldLink RX9 7 "ParrotCountsModel" "all" "[I") (List.mem_of_getElem? (i := 1) rfl)) (fun _ h => h) rfl dX9_hears_176 ?_
        refine lv_bipush (v := 104) hx hb dX9_hears_179 (by decide) ?_
        refine lv_iload_n hx hb dX9_hears_181 rfl (lv_at hl 1 rfl) ?_
        refine lv_iadd hx hb dX9_hears_182 ?_
        refine W.eq (g2 := F0 m 183 ls (.int (nI (104 + pa)) :: [.ref ma])) (congrArg (fun z => F0 m 183 ls (.int z :: [.ref ma])) (nI_add 104 pa)) ?_
        refine lv_dup2_11 hx hb dX9_hears_183 rfl rfl ?_
        refine k_iald hx hb hC.1 hP 1 0 rfl rfl (by omega) dX9_hears_184 ?_
        refine lv_iconst (v := 1) hx hb dX9_hears_185 (by decide) ?_
        refine lv_iadd hx hb dX9_hears_186 ?_
        refine k_iast hx hb hC.1 hP hD hS 1 0 rfl rfl (by omega) dX9_hears_187 (fun H locs hP hD hS => ?_)
        have hP : va_P D vwCl [oMo mo ma mh (nI hn) th mk mz mt (nI tn) (nI ax) sc ti pp, aI T ma 266 (upd (heC (heB al pa) pa) (104 + pa) (((heC (heB al pa) pa) (104 + pa)) + 1))] H := hP
        have hD : va_D A [oMo mo ma mh (nI hn) th mk mz mt (nI tn) (nI ax) sc ti pp, aI T ma 266 (upd (heC (heB al pa) pa) (104 + pa) (((heC (heB al pa) pa) (104 + pa)) + 1))] := hD
        refine lv_goto (tgt := 208) hx hb dX9_hears_188 (by decide) ?_
        have e_8 : upd (heC (heB al pa) pa) (104 + pa) (((heC (heB al pa) pa) (104 + pa)) + 1) = heM al pa := by first | (unfold heM heW; rw [if_neg c155]; done) | (unfold heM heW; rw [if_pos c155, if_pos c172]; done) | (unfold heM heW; rw [if_pos c155, if_neg c172]; done)
        have eW := congrArg (fun zZ => ([oMo mo ma mh (nI hn) th mk mz mt (nI tn) (nI ax) sc ti pp, aI T ma 266 zZ] : va_W)) e_8
        have hP : va_P D vwCl [oMo mo ma mh (nI hn) th mk mz mt (nI tn) (nI ax) sc ti pp, aI T ma 266 (heM al pa)] _ := Eq.subst (motive := fun w => va_P D vwCl w _) eW hP
        have hD : va_D A [oMo mo ma mh (nI hn) th mk mz mt (nI tn) (nI ax) sc ti pp, aI T ma 266 (heM al pa)] := Eq.subst (motive := fun w => va_D A w) eW hD
        exact hret _ _ _ _ _ (fun Qc free hq hf => W.vret hx hb hr hq hf dX9_hears_208 hlk) hP hD hS
      · have c155 := Int32.not_lt.mp c155
        refine lv_aload_n hx hb dX9_hears_158 rfl (lv_at hl 0 rfl) ?_
        refine lv_bipush (v := 104) hx hb dX9_hears_159 (by decide) ?_
        have hP := hP.sub (ws' := [oMo mo ma mh (nI hn) th mk mz mt (nI tn) (nI ax) sc ti pp, aI T ma 266 (heC (heB al pa) pa)] ++ []) [0, 1] rfl
        have hD := hD.sub (ws' := [oMo mo ma mh (nI hn) th mk mz mt (nI tn) (nI ax) sc ti pp, aI T ma 266 (heC (heB al pa) pa)] ++ []) [0, 1] (by decide) rfl
        refine kV (ci := 8) (As := [.int 104]) (rest := []) ⟨hx, hb, hml, hown, hts⟩ (c_X9_many l D T mo ma mh mk mz mt (heC (heB al pa) pa) hn th tn ax sc ti pp 104 (by first | omega | assumption)) (cwV 1 hts gX9_hears_X9_many rfl rfl rfl (by decide +kernel) ⟨Nat.le_of_ble_eq_true rfl, Nat.le_of_ble_eq_true rfl⟩) hC hP hD hS hA rfl rfl rfl hl.1 rfl (Nat.le_of_ble_eq_true rfl) dX9_hears_161 ⟨Nat.zero_le _, Nat.zero_le _⟩ (fun H locs hP hD hS => ?_)
        have hP : va_P D vwCl [oMo mo ma mh (nI hn) th mk mz mt (nI tn) (nI ax) sc ti pp, aI T ma 266 (heC (heB al pa) pa)] H := hP
        have hD : va_D A [oMo mo ma mh (nI hn) th mk mz mt (nI tn) (nI ax) sc ti pp, aI T ma 266 (heC (heB al pa) pa)] := hD
        refine W.eq (g2 := F0 m 164 ls [.int (nI (cntN (rwF (heC (heB al pa) pa) 104) 26))]) rfl ?_
        refine lv_aload_n hx hb dX9_hears_164 rfl (lv_at hl 0 rfl) ?_
        refine va_get (D := D) (ci := 8) (v := .ref ma) (C := RX9) (T := TX9) (N := 12) hx hb hts iX9 hown hC.1 hP 0 rfl rfl 0 (by decide) (hts (.fieldLink RX9 7 "ParrotCountsModel" "all" "[I") (List.mem_of_getElem? (i := 1) rfl)) (fun _ h => h) rfl dX9_hears_165 ?_
        refine lv_sipush (v := 264) hx hb dX9_hears_168 (by decide) ?_
        refine k_iald hx hb hC.1 hP 1 0 rfl rfl (by decide) dX9_hears_171 ?_
        refine lv_icmp_ge (tgt := 191) hx hb dX9_hears_172 (by decide) (fun c172 => ?_) (fun c172 => ?_)
        · refine lv_aload_n hx hb dX9_hears_191 rfl (lv_at hl 0 rfl) ?_
          refine lv_iconst (v := 1) hx hb dX9_hears_192 (by decide) ?_
          have hP := hP.sub (ws' := [oMo mo ma mh (nI hn) th mk mz mt (nI tn) (nI ax) sc ti pp, aI T ma 266 (heC (heB al pa) pa)] ++ []) [0, 1] rfl
          have hD := hD.sub (ws' := [oMo mo ma mh (nI hn) th mk mz mt (nI tn) (nI ax) sc ti pp, aI T ma 266 (heC (heB al pa) pa)] ++ []) [0, 1] (by decide) rfl
          refine kV (ci := 8) (As := [.int 1]) (rest := []) ⟨hx, hb, hml, hown, hts⟩ (c_X9_wears l D T mo ma mh mk mz mt (heC (heB al pa) pa) hn th tn ax sc ti pp 1 ) (cwV 1 hts gX9_hears_X9_wears rfl rfl rfl (by decide +kernel) ⟨Nat.le_of_ble_eq_true rfl, Nat.le_of_ble_eq_true rfl⟩) hC hP hD hS hA rfl rfl rfl hl.1 rfl (Nat.le_of_ble_eq_true rfl) dX9_hears_193 ⟨Nat.zero_le _, Nat.zero_le _⟩ (fun H locs hP hD hS => ?_)
          have hP : va_P D vwCl [oMo mo ma mh (nI hn) th mk mz mt (nI tn) (nI ax) sc ti pp, aI T ma 266 (wrN (heC (heB al pa) pa) 1 26)] H := hP
          have hD : va_D A [oMo mo ma mh (nI hn) th mk mz mt (nI tn) (nI ax) sc ti pp, aI T ma 266 (wrN (heC (heB al pa) pa) 1 26)] := hD
          refine W.eq (g2 := F0 m 196 ls []) rfl ?_
          refine lv_aload_n hx hb dX9_hears_196 rfl (lv_at hl 0 rfl) ?_
          refine va_get (D := D) (ci := 8) (v := .ref ma) (C := RX9) (T := TX9) (N := 12) hx hb hts iX9 hown hC.1 hP 0 rfl rfl 0 (by decide) (hts (.fieldLink RX9 7 "ParrotCountsModel" "all" "[I") (List.mem_of_getElem? (i := 1) rfl)) (fun _ h => h) rfl dX9_hears_197 ?_
          refine lv_sipush (v := 130) hx hb dX9_hears_200 (by decide) ?_
          refine lv_dup2_11 hx hb dX9_hears_203 rfl rfl ?_
          refine k_iald hx hb hC.1 hP 1 0 rfl rfl (by decide) dX9_hears_204 ?_
          refine lv_iconst (v := 1) hx hb dX9_hears_205 (by decide) ?_
          refine lv_iadd hx hb dX9_hears_206 ?_
          refine k_iast hx hb hC.1 hP hD hS 1 0 rfl rfl (by decide) dX9_hears_207 (fun H locs hP hD hS => ?_)
          have hP : va_P D vwCl [oMo mo ma mh (nI hn) th mk mz mt (nI tn) (nI ax) sc ti pp, aI T ma 266 (upd (wrN (heC (heB al pa) pa) 1 26) 130 (((wrN (heC (heB al pa) pa) 1 26) 130) + 1))] H := hP
          have hD : va_D A [oMo mo ma mh (nI hn) th mk mz mt (nI tn) (nI ax) sc ti pp, aI T ma 266 (upd (wrN (heC (heB al pa) pa) 1 26) 130 (((wrN (heC (heB al pa) pa) 1 26) 130) + 1))] := hD
          have e_9 : upd (wrN (heC (heB al pa) pa) 1 26) 130 (((wrN (heC (heB al pa) pa) 1 26) 130) + 1) = heM al pa := by first | (unfold heM heW; rw [if_neg c155]; done) | (unfold heM heW; rw [if_pos c155, if_pos c172]; done) | (unfold heM heW; rw [if_pos c155, if_neg c172]; done)
          have eW := congrArg (fun zZ => ([oMo mo ma mh (nI hn) th mk mz mt (nI tn) (nI ax) sc ti pp, aI T ma 266 zZ] : va_W)) e_9
          have hP : va_P D vwCl [oMo mo ma mh (nI hn) th mk mz mt (nI tn) (nI ax) sc ti pp, aI T ma 266 (heM al pa)] _ := Eq.subst (motive := fun w => va_P D vwCl w _) eW hP
          have hD : va_D A [oMo mo ma mh (nI hn) th mk mz mt (nI tn) (nI ax) sc ti pp, aI T ma 266 (heM al pa)] := Eq.subst (motive := fun w => va_D A w) eW hD
          exact hret _ _ _ _ _ (fun Qc free hq hf => W.vret hx hb hr hq hf dX9_hears_208 hlk) hP hD hS
        · refine lv_aload_n hx hb dX9_hears_175 rfl (lv_at hl 0 rfl) ?_
          refine va_get (D := D) (ci := 8) (v := .ref ma) (C := RX9) (T := TX9) (N := 12) hx hb hts iX9 hown hC.1 hP 0 rfl rfl 0 (by decide) (hts (.fieldLink RX9 7 "ParrotCountsModel" "all" "[I") (List.mem_of_getElem? (i := 1) rfl)) (fun _ h => h) rfl dX9_hears_176 ?_
          refine lv_bipush (v := 104) hx hb dX9_hears_179 (by decide) ?_
          refine lv_iload_n hx hb dX9_hears_181 rfl (lv_at hl 1 rfl) ?_
          refine lv_iadd hx hb dX9_hears_182 ?_
          refine W.eq (g2 := F0 m 183 ls (.int (nI (104 + pa)) :: [.ref ma])) (congrArg (fun z => F0 m 183 ls (.int z :: [.ref ma])) (nI_add 104 pa)) ?_
          refine lv_dup2_11 hx hb dX9_hears_183 rfl rfl ?_
          refine k_iald hx hb hC.1 hP 1 0 rfl rfl (by omega) dX9_hears_184 ?_
          refine lv_iconst (v := 1) hx hb dX9_hears_185 (by decide) ?_
          refine lv_iadd hx hb dX9_hears_186 ?_
          refine k_iast hx hb hC.1 hP hD hS 1 0 rfl rfl (by omega) dX9_hears_187 (fun H locs hP hD hS => ?_)
          have hP : va_P D vwCl [oMo mo ma mh (nI hn) th mk mz mt (nI tn) (nI ax) sc ti pp, aI T ma 266 (upd (heC (heB al pa) pa) (104 + pa) (((heC (heB al pa) pa) (104 + pa)) + 1))] H := hP
          have hD : va_D A [oMo mo ma mh (nI hn) th mk mz mt (nI tn) (nI ax) sc ti pp, aI T ma 266 (upd (heC (heB al pa) pa) (104 + pa) (((heC (heB al pa) pa) (104 + pa)) + 1))] := hD
          refine lv_goto (tgt := 208) hx hb dX9_hears_188 (by decide) ?_
          have e_10 : upd (heC (heB al pa) pa) (104 + pa) (((heC (heB al pa) pa) (104 + pa)) + 1) = heM al pa := by first | (unfold heM heW; rw [if_neg c155]; done) | (unfold heM heW; rw [if_pos c155, if_pos c172]; done) | (unfold heM heW; rw [if_pos c155, if_neg c172]; done)
          have eW := congrArg (fun zZ => ([oMo mo ma mh (nI hn) th mk mz mt (nI tn) (nI ax) sc ti pp, aI T ma 266 zZ] : va_W)) e_10
          have hP : va_P D vwCl [oMo mo ma mh (nI hn) th mk mz mt (nI tn) (nI ax) sc ti pp, aI T ma 266 (heM al pa)] _ := Eq.subst (motive := fun w => va_P D vwCl w _) eW hP
          have hD : va_D A [oMo mo ma mh (nI hn) th mk mz mt (nI tn) (nI ax) sc ti pp, aI T ma 266 (heM al pa)] := Eq.subst (motive := fun w => va_D A w) eW hD
          exact hret _ _ _ _ _ (fun Qc free hq hf => W.vret hx hb hr hq hf dX9_hears_208 hlk) hP hD hS
    · have c29 := (bI0n _).mp c29
      refine lv_aload_n hx hb dX9_hears_32 rfl (lv_at hl 0 rfl) ?_
      refine lv_iconst (v := 0) hx hb dX9_hears_33 (by decide) ?_
      have hP := hP.sub (ws' := [oMo mo ma mh (nI hn) th mk mz mt (nI tn) (nI ax) sc ti pp, aI T ma 266 (upd al pa ((al pa) + 1))] ++ []) [0, 1] rfl
      have hD := hD.sub (ws' := [oMo mo ma mh (nI hn) th mk mz mt (nI tn) (nI ax) sc ti pp, aI T ma 266 (upd al pa ((al pa) + 1))] ++ []) [0, 1] (by decide) rfl
      refine kV (ci := 8) (As := [.int 0]) (rest := []) ⟨hx, hb, hml, hown, hts⟩ (c_X9_leastOf l D T mo ma mh mk mz mt (upd al pa ((al pa) + 1)) hn th tn ax sc ti pp 0 (by first | omega | assumption)) (cwV 1 hts gX9_hears_X9_leastOf rfl rfl rfl (by decide +kernel) ⟨Nat.le_of_ble_eq_true rfl, Nat.le_of_ble_eq_true rfl⟩) hC hP hD hS hA rfl rfl rfl hl.1 rfl (Nat.le_of_ble_eq_true rfl) dX9_hears_34 ⟨Nat.zero_le _, Nat.zero_le _⟩ (fun H locs hP hD hS => ?_)
      have hP : va_P D vwCl [oMo mo ma mh (nI hn) th mk mz mt (nI tn) (nI ax) sc ti pp, aI T ma 266 (upd al pa ((al pa) + 1))] H := hP
      have hD : va_D A [oMo mo ma mh (nI hn) th mk mz mt (nI tn) (nI ax) sc ti pp, aI T ma 266 (upd al pa ((al pa) + 1))] := hD
      refine W.eq (g2 := F0 m 37 ls [.int (mWeak (upd al pa ((al pa) + 1)) 0 26)]) rfl ?_
      refine lv_istore_n (lv' := [(2, .int (mWeak (upd al pa ((al pa) + 1)) 0 26)), (0, .ref mo), (1, .int (nI pa))]) hx hb dX9_hears_37 rfl hl (by decide) rfl (fun ls hl => ?_)
      refine lv_aload_n hx hb dX9_hears_38 rfl (lv_at hl 1 rfl) ?_
      refine va_get (D := D) (ci := 8) (v := .ref ma) (C := RX9) (T := TX9) (N := 12) hx hb hts iX9 hown hC.1 hP 0 rfl rfl 0 (by decide) (hts (.fieldLink RX9 7 "ParrotCountsModel" "all" "[I") (List.mem_of_getElem? (i := 1) rfl)) (fun _ h => h) rfl dX9_hears_39 ?_
      refine lv_bipush (v := 52) hx hb dX9_hears_42 (by decide) ?_
      refine lv_iload_n hx hb dX9_hears_44 rfl (lv_at hl 2 rfl) ?_
      refine lv_iadd hx hb dX9_hears_45 ?_
      refine W.eq (g2 := F0 m 46 ls (.int (nI (52 + pa)) :: [.ref ma])) (congrArg (fun z => F0 m 46 ls (.int z :: [.ref ma])) (nI_add 52 pa)) ?_
      refine lv_aload_n hx hb dX9_hears_46 rfl (lv_at hl 1 rfl) ?_
      refine va_get (D := D) (ci := 8) (v := .ref ma) (C := RX9) (T := TX9) (N := 12) hx hb hts iX9 hown hC.1 hP 0 rfl rfl 0 (by decide) (hts (.fieldLink RX9 7 "ParrotCountsModel" "all" "[I") (List.mem_of_getElem? (i := 1) rfl)) (fun _ h => h) rfl dX9_hears_47 ?_
      refine lv_bipush (v := 26) hx hb dX9_hears_50 (by decide) ?_
      refine lv_iload_n hx hb dX9_hears_52 rfl (lv_at hl 0 rfl) ?_
      refine lv_iadd hx hb dX9_hears_53 ?_
      refine W.eq (g2 := F0 m 54 ls (.int (nI (26 + (mWeak (upd al pa (al pa + 1)) 0 26).toNatClampNeg)) :: [.ref ma, .int (nI (52 + pa)), .ref ma])) (congrArg (fun z => F0 m 54 ls (.int z :: [.ref ma, .int (nI (52 + pa)), .ref ma])) (mWeak_add (Nat.le_refl 26) (mFull_weak hcpU hcp9 c29) : (26 + (mWeak (upd al pa ((al pa) + 1)) 0 26) : Int32) = nI (26 + (mWeak (upd al pa (al pa + 1)) 0 26).toNatClampNeg))) ?_
      refine k_iald hx hb hC.1 hP 1 0 rfl rfl (by have := mWeak_cl (Nat.le_refl 26) (mFull_weak hcpU hcp9 c29); omega) dX9_hears_54 ?_
      refine k_iast hx hb hC.1 hP hD hS 1 0 rfl rfl (by omega) dX9_hears_55 (fun H locs hP hD hS => ?_)
      have hP : va_P D vwCl [oMo mo ma mh (nI hn) th mk mz mt (nI tn) (nI ax) sc ti pp, aI T ma 266 (upd (upd al pa ((al pa) + 1)) (52 + pa) ((upd al pa ((al pa) + 1)) (26 + (mWeak (upd al pa (al pa + 1)) 0 26).toNatClampNeg)))] H := hP
      have hD : va_D A [oMo mo ma mh (nI hn) th mk mz mt (nI tn) (nI ax) sc ti pp, aI T ma 266 (upd (upd al pa ((al pa) + 1)) (52 + pa) ((upd al pa ((al pa) + 1)) (26 + (mWeak (upd al pa (al pa + 1)) 0 26).toNatClampNeg)))] := hD
      refine lv_aload_n hx hb dX9_hears_56 rfl (lv_at hl 1 rfl) ?_
      refine va_get (D := D) (ci := 8) (v := .ref ma) (C := RX9) (T := TX9) (N := 12) hx hb hts iX9 hown hC.1 hP 0 rfl rfl 0 (by decide) (hts (.fieldLink RX9 7 "ParrotCountsModel" "all" "[I") (List.mem_of_getElem? (i := 1) rfl)) (fun _ h => h) rfl dX9_hears_57 ?_
      refine lv_bipush (v := 26) hx hb dX9_hears_60 (by decide) ?_
      refine lv_iload_n hx hb dX9_hears_62 rfl (lv_at hl 2 rfl) ?_
      refine lv_iadd hx hb dX9_hears_63 ?_
      refine W.eq (g2 := F0 m 64 ls (.int (nI (26 + pa)) :: [.ref ma])) (congrArg (fun z => F0 m 64 ls (.int z :: [.ref ma])) (nI_add 26 pa)) ?_
      refine lv_aload_n hx hb dX9_hears_64 rfl (lv_at hl 1 rfl) ?_
      refine va_get (D := D) (ci := 8) (v := .ref ma) (C := RX9) (T := TX9) (N := 12) hx hb hts iX9 hown hC.1 hP 0 rfl rfl 0 (by decide) (hts (.fieldLink RX9 7 "ParrotCountsModel" "all" "[I") (List.mem_of_getElem? (i := 1) rfl)) (fun _ h => h) rfl dX9_hears_65 ?_
      refine lv_bipush (v := 26) hx hb dX9_hears_68 (by decide) ?_
      refine lv_iload_n hx hb dX9_hears_70 rfl (lv_at hl 0 rfl) ?_
      refine lv_iadd hx hb dX9_hears_71 ?_
      refine W.eq (g2 := F0 m 72 ls (.int (nI (26 + (mWeak (upd al pa (al pa + 1)) 0 26).toNatClampNeg)) :: [.ref ma, .int (nI (26 + pa)), .ref ma])) (congrArg (fun z => F0 m 72 ls (.int z :: [.ref ma, .int (nI (26 + pa)), .ref ma])) (mWeak_add (Nat.le_refl 26) (mFull_weak hcpU hcp9 c29) : (26 + (mWeak (upd al pa ((al pa) + 1)) 0 26) : Int32) = nI (26 + (mWeak (upd al pa (al pa + 1)) 0 26).toNatClampNeg))) ?_
      refine k_iald hx hb hC.1 hP 1 0 rfl rfl (by have := mWeak_cl (Nat.le_refl 26) (mFull_weak hcpU hcp9 c29); omega) dX9_hears_72 ?_
      refine k_iast hx hb hC.1 hP hD hS 1 0 rfl rfl (by omega) dX9_hears_73 (fun H locs hP hD hS => ?_)
      have hP : va_P D vwCl [oMo mo ma mh (nI hn) th mk mz mt (nI tn) (nI ax) sc ti pp, aI T ma 266 (upd (upd (upd al pa ((al pa) + 1)) (52 + pa) ((upd al pa ((al pa) + 1)) (26 + (mWeak (upd al pa (al pa + 1)) 0 26).toNatClampNeg))) (26 + pa) ((upd (upd al pa ((al pa) + 1)) (52 + pa) ((upd al pa ((al pa) + 1)) (26 + (mWeak (upd al pa (al pa + 1)) 0 26).toNatClampNeg))) (26 + (mWeak (upd al pa (al pa + 1)) 0 26).toNatClampNeg)))] H := hP
      have hD : va_D A [oMo mo ma mh (nI hn) th mk mz mt (nI tn) (nI ax) sc ti pp, aI T ma 266 (upd (upd (upd al pa ((al pa) + 1)) (52 + pa) ((upd al pa ((al pa) + 1)) (26 + (mWeak (upd al pa (al pa + 1)) 0 26).toNatClampNeg))) (26 + pa) ((upd (upd al pa ((al pa) + 1)) (52 + pa) ((upd al pa ((al pa) + 1)) (26 + (mWeak (upd al pa (al pa + 1)) 0 26).toNatClampNeg))) (26 + (mWeak (upd al pa (al pa + 1)) 0 26).toNatClampNeg)))] := hD
      refine lv_aload_n hx hb dX9_hears_74 rfl (lv_at hl 1 rfl) ?_
      refine va_get (D := D) (ci := 8) (v := .ref ma) (C := RX9) (T := TX9) (N := 12) hx hb hts iX9 hown hC.1 hP 0 rfl rfl 0 (by decide) (hts (.fieldLink RX9 7 "ParrotCountsModel" "all" "[I") (List.mem_of_getElem? (i := 1) rfl)) (fun _ h => h) rfl dX9_hears_75 ?_
      refine lv_bipush (v := 26) hx hb dX9_hears_78 (by decide) ?_
      refine lv_iload_n hx hb dX9_hears_80 rfl (lv_at hl 0 rfl) ?_
      refine lv_iadd hx hb dX9_hears_81 ?_
      refine W.eq (g2 := F0 m 82 ls (.int (nI (26 + (mWeak (upd al pa (al pa + 1)) 0 26).toNatClampNeg)) :: [.ref ma])) (congrArg (fun z => F0 m 82 ls (.int z :: [.ref ma])) (mWeak_add (Nat.le_refl 26) (mFull_weak hcpU hcp9 c29) : (26 + (mWeak (upd al pa ((al pa) + 1)) 0 26) : Int32) = nI (26 + (mWeak (upd al pa (al pa + 1)) 0 26).toNatClampNeg))) ?_
      refine lv_iconst (v := 0) hx hb dX9_hears_82 (by decide) ?_
      refine k_iast hx hb hC.1 hP hD hS 1 0 rfl rfl (by have := mWeak_cl (Nat.le_refl 26) (mFull_weak hcpU hcp9 c29); omega) dX9_hears_83 (fun H locs hP hD hS => ?_)
      have hP : va_P D vwCl [oMo mo ma mh (nI hn) th mk mz mt (nI tn) (nI ax) sc ti pp, aI T ma 266 (upd (upd (upd (upd al pa ((al pa) + 1)) (52 + pa) ((upd al pa ((al pa) + 1)) (26 + (mWeak (upd al pa (al pa + 1)) 0 26).toNatClampNeg))) (26 + pa) ((upd (upd al pa ((al pa) + 1)) (52 + pa) ((upd al pa ((al pa) + 1)) (26 + (mWeak (upd al pa (al pa + 1)) 0 26).toNatClampNeg))) (26 + (mWeak (upd al pa (al pa + 1)) 0 26).toNatClampNeg))) (26 + (mWeak (upd al pa (al pa + 1)) 0 26).toNatClampNeg) 0)] H := hP
      have hD : va_D A [oMo mo ma mh (nI hn) th mk mz mt (nI tn) (nI ax) sc ti pp, aI T ma 266 (upd (upd (upd (upd al pa ((al pa) + 1)) (52 + pa) ((upd al pa ((al pa) + 1)) (26 + (mWeak (upd al pa (al pa + 1)) 0 26).toNatClampNeg))) (26 + pa) ((upd (upd al pa ((al pa) + 1)) (52 + pa) ((upd al pa ((al pa) + 1)) (26 + (mWeak (upd al pa (al pa + 1)) 0 26).toNatClampNeg))) (26 + (mWeak (upd al pa (al pa + 1)) 0 26).toNatClampNeg))) (26 + (mWeak (upd al pa (al pa + 1)) 0 26).toNatClampNeg) 0)] := hD
      refine lv_aload_n hx hb dX9_hears_84 rfl (lv_at hl 1 rfl) ?_
      refine va_get (D := D) (ci := 8) (v := .ref ma) (C := RX9) (T := TX9) (N := 12) hx hb hts iX9 hown hC.1 hP 0 rfl rfl 0 (by decide) (hts (.fieldLink RX9 7 "ParrotCountsModel" "all" "[I") (List.mem_of_getElem? (i := 1) rfl)) (fun _ h => h) rfl dX9_hears_85 ?_
      refine lv_bipush (v := 52) hx hb dX9_hears_88 (by decide) ?_
      refine lv_iload_n hx hb dX9_hears_90 rfl (lv_at hl 0 rfl) ?_
      refine lv_iadd hx hb dX9_hears_91 ?_
      refine W.eq (g2 := F0 m 92 ls (.int (nI (52 + (mWeak (upd al pa (al pa + 1)) 0 26).toNatClampNeg)) :: [.ref ma])) (congrArg (fun z => F0 m 92 ls (.int z :: [.ref ma])) (mWeak_add (Nat.le_refl 26) (mFull_weak hcpU hcp9 c29) : (52 + (mWeak (upd al pa ((al pa) + 1)) 0 26) : Int32) = nI (52 + (mWeak (upd al pa (al pa + 1)) 0 26).toNatClampNeg))) ?_
      refine lv_iconst (v := 0) hx hb dX9_hears_92 (by decide) ?_
      refine k_iast hx hb hC.1 hP hD hS 1 0 rfl rfl (by have := mWeak_cl (Nat.le_refl 26) (mFull_weak hcpU hcp9 c29); omega) dX9_hears_93 (fun H locs hP hD hS => ?_)
      have hP : va_P D vwCl [oMo mo ma mh (nI hn) th mk mz mt (nI tn) (nI ax) sc ti pp, aI T ma 266 (upd (upd (upd (upd (upd al pa ((al pa) + 1)) (52 + pa) ((upd al pa ((al pa) + 1)) (26 + (mWeak (upd al pa (al pa + 1)) 0 26).toNatClampNeg))) (26 + pa) ((upd (upd al pa ((al pa) + 1)) (52 + pa) ((upd al pa ((al pa) + 1)) (26 + (mWeak (upd al pa (al pa + 1)) 0 26).toNatClampNeg))) (26 + (mWeak (upd al pa (al pa + 1)) 0 26).toNatClampNeg))) (26 + (mWeak (upd al pa (al pa + 1)) 0 26).toNatClampNeg) 0) (52 + (mWeak (upd al pa (al pa + 1)) 0 26).toNatClampNeg) 0)] H := hP
      have hD : va_D A [oMo mo ma mh (nI hn) th mk mz mt (nI tn) (nI ax) sc ti pp, aI T ma 266 (upd (upd (upd (upd (upd al pa ((al pa) + 1)) (52 + pa) ((upd al pa ((al pa) + 1)) (26 + (mWeak (upd al pa (al pa + 1)) 0 26).toNatClampNeg))) (26 + pa) ((upd (upd al pa ((al pa) + 1)) (52 + pa) ((upd al pa ((al pa) + 1)) (26 + (mWeak (upd al pa (al pa + 1)) 0 26).toNatClampNeg))) (26 + (mWeak (upd al pa (al pa + 1)) 0 26).toNatClampNeg))) (26 + (mWeak (upd al pa (al pa + 1)) 0 26).toNatClampNeg) 0) (52 + (mWeak (upd al pa (al pa + 1)) 0 26).toNatClampNeg) 0)] := hD
      refine lv_aload_n hx hb dX9_hears_94 rfl (lv_at hl 1 rfl) ?_
      refine va_get (D := D) (ci := 8) (v := .ref ma) (C := RX9) (T := TX9) (N := 12) hx hb hts iX9 hown hC.1 hP 0 rfl rfl 0 (by decide) (hts (.fieldLink RX9 7 "ParrotCountsModel" "all" "[I") (List.mem_of_getElem? (i := 1) rfl)) (fun _ h => h) rfl dX9_hears_95 ?_
      refine lv_bipush (v := 78) hx hb dX9_hears_98 (by decide) ?_
      refine lv_iload_n hx hb dX9_hears_100 rfl (lv_at hl 0 rfl) ?_
      refine lv_iadd hx hb dX9_hears_101 ?_
      refine W.eq (g2 := F0 m 102 ls (.int (nI (78 + (mWeak (upd al pa (al pa + 1)) 0 26).toNatClampNeg)) :: [.ref ma])) (congrArg (fun z => F0 m 102 ls (.int z :: [.ref ma])) (mWeak_add (Nat.le_refl 26) (mFull_weak hcpU hcp9 c29) : (78 + (mWeak (upd al pa ((al pa) + 1)) 0 26) : Int32) = nI (78 + (mWeak (upd al pa (al pa + 1)) 0 26).toNatClampNeg))) ?_
      refine lv_iconst (v := 0) hx hb dX9_hears_102 (by decide) ?_
      refine k_iast hx hb hC.1 hP hD hS 1 0 rfl rfl (by have := mWeak_cl (Nat.le_refl 26) (mFull_weak hcpU hcp9 c29); omega) dX9_hears_103 (fun H locs hP hD hS => ?_)
      have hP : va_P D vwCl [oMo mo ma mh (nI hn) th mk mz mt (nI tn) (nI ax) sc ti pp, aI T ma 266 (upd (upd (upd (upd (upd (upd al pa ((al pa) + 1)) (52 + pa) ((upd al pa ((al pa) + 1)) (26 + (mWeak (upd al pa (al pa + 1)) 0 26).toNatClampNeg))) (26 + pa) ((upd (upd al pa ((al pa) + 1)) (52 + pa) ((upd al pa ((al pa) + 1)) (26 + (mWeak (upd al pa (al pa + 1)) 0 26).toNatClampNeg))) (26 + (mWeak (upd al pa (al pa + 1)) 0 26).toNatClampNeg))) (26 + (mWeak (upd al pa (al pa + 1)) 0 26).toNatClampNeg) 0) (52 + (mWeak (upd al pa (al pa + 1)) 0 26).toNatClampNeg) 0) (78 + (mWeak (upd al pa (al pa + 1)) 0 26).toNatClampNeg) 0)] H := hP
      have hD : va_D A [oMo mo ma mh (nI hn) th mk mz mt (nI tn) (nI ax) sc ti pp, aI T ma 266 (upd (upd (upd (upd (upd (upd al pa ((al pa) + 1)) (52 + pa) ((upd al pa ((al pa) + 1)) (26 + (mWeak (upd al pa (al pa + 1)) 0 26).toNatClampNeg))) (26 + pa) ((upd (upd al pa ((al pa) + 1)) (52 + pa) ((upd al pa ((al pa) + 1)) (26 + (mWeak (upd al pa (al pa + 1)) 0 26).toNatClampNeg))) (26 + (mWeak (upd al pa (al pa + 1)) 0 26).toNatClampNeg))) (26 + (mWeak (upd al pa (al pa + 1)) 0 26).toNatClampNeg) 0) (52 + (mWeak (upd al pa (al pa + 1)) 0 26).toNatClampNeg) 0) (78 + (mWeak (upd al pa (al pa + 1)) 0 26).toNatClampNeg) 0)] := hD
      have e_11 : upd (upd (upd (upd (upd (upd al pa ((al pa) + 1)) (52 + pa) ((upd al pa ((al pa) + 1)) (26 + (mWeak (upd al pa (al pa + 1)) 0 26).toNatClampNeg))) (26 + pa) ((upd (upd al pa ((al pa) + 1)) (52 + pa) ((upd al pa ((al pa) + 1)) (26 + (mWeak (upd al pa (al pa + 1)) 0 26).toNatClampNeg))) (26 + (mWeak (upd al pa (al pa + 1)) 0 26).toNatClampNeg))) (26 + (mWeak (upd al pa (al pa + 1)) 0 26).toNatClampNeg) 0) (52 + (mWeak (upd al pa (al pa + 1)) 0 26).toNatClampNeg) 0) (78 + (mWeak (upd al pa (al pa + 1)) 0 26).toNatClampNeg) 0 = heB al pa := by first | (unfold heB heT; rw [if_pos c21, if_pos c29]; done) | (unfold heB; rw [if_pos c21, if_neg (by rw [c29]; decide)]; done) | (unfold heB; rw [if_neg c21]; done)
      have eW := congrArg (fun zZ => ([oMo mo ma mh (nI hn) th mk mz mt (nI tn) (nI ax) sc ti pp, aI T ma 266 zZ] : va_W)) e_11
      have hP : va_P D vwCl [oMo mo ma mh (nI hn) th mk mz mt (nI tn) (nI ax) sc ti pp, aI T ma 266 (heB al pa)] _ := Eq.subst (motive := fun w => va_P D vwCl w _) eW hP
      have hD : va_D A [oMo mo ma mh (nI hn) th mk mz mt (nI tn) (nI ax) sc ti pp, aI T ma 266 (heB al pa)] := Eq.subst (motive := fun w => va_D A w) eW hD
      refine lv_aload_n hx hb dX9_hears_104 rfl (lv_at hl 1 rfl) ?_
      refine va_get (D := D) (ci := 8) (v := .ref ma) (C := RX9) (T := TX9) (N := 12) hx hb hts iX9 hown hC.1 hP 0 rfl rfl 0 (by decide) (hts (.fieldLink RX9 7 "ParrotCountsModel" "all" "[I") (List.mem_of_getElem? (i := 1) rfl)) (fun _ h => h) rfl dX9_hears_105 ?_
      refine lv_bipush (v := 26) hx hb dX9_hears_108 (by decide) ?_
      refine lv_iload_n hx hb dX9_hears_110 rfl (lv_at hl 2 rfl) ?_
      refine lv_iadd hx hb dX9_hears_111 ?_
      refine W.eq (g2 := F0 m 112 ls (.int (nI (26 + pa)) :: [.ref ma])) (congrArg (fun z => F0 m 112 ls (.int z :: [.ref ma])) (nI_add 26 pa)) ?_
      refine lv_dup2_11 hx hb dX9_hears_112 rfl rfl ?_
      refine k_iald hx hb hC.1 hP 1 0 rfl rfl (by omega) dX9_hears_113 ?_
      refine lv_iconst (v := 1) hx hb dX9_hears_114 (by decide) ?_
      refine lv_iadd hx hb dX9_hears_115 ?_
      refine k_iast hx hb hC.1 hP hD hS 1 0 rfl rfl (by omega) dX9_hears_116 (fun H locs hP hD hS => ?_)
      have hP : va_P D vwCl [oMo mo ma mh (nI hn) th mk mz mt (nI tn) (nI ax) sc ti pp, aI T ma 266 (upd (heB al pa) (26 + pa) (((heB al pa) (26 + pa)) + 1))] H := hP
      have hD : va_D A [oMo mo ma mh (nI hn) th mk mz mt (nI tn) (nI ax) sc ti pp, aI T ma 266 (upd (heB al pa) (26 + pa) (((heB al pa) (26 + pa)) + 1))] := hD
      refine lv_aload_n hx hb dX9_hears_117 rfl (lv_at hl 1 rfl) ?_
      refine va_get (D := D) (ci := 8) (v := .ref ma) (C := RX9) (T := TX9) (N := 12) hx hb hts iX9 hown hC.1 hP 0 rfl rfl 0 (by decide) (hts (.fieldLink RX9 7 "ParrotCountsModel" "all" "[I") (List.mem_of_getElem? (i := 1) rfl)) (fun _ h => h) rfl dX9_hears_118 ?_
      refine lv_sipush (v := 131) hx hb dX9_hears_121 (by decide) ?_
      refine lv_dup2_11 hx hb dX9_hears_124 rfl rfl ?_
      refine k_iald hx hb hC.1 hP 1 0 rfl rfl (by decide) dX9_hears_125 ?_
      refine lv_iconst (v := 1) hx hb dX9_hears_126 (by decide) ?_
      refine lv_iadd hx hb dX9_hears_127 ?_
      refine k_iast hx hb hC.1 hP hD hS 1 0 rfl rfl (by decide) dX9_hears_128 (fun H locs hP hD hS => ?_)
      have hP : va_P D vwCl [oMo mo ma mh (nI hn) th mk mz mt (nI tn) (nI ax) sc ti pp, aI T ma 266 (upd (upd (heB al pa) (26 + pa) (((heB al pa) (26 + pa)) + 1)) 131 (((upd (heB al pa) (26 + pa) (((heB al pa) (26 + pa)) + 1)) 131) + 1))] H := hP
      have hD : va_D A [oMo mo ma mh (nI hn) th mk mz mt (nI tn) (nI ax) sc ti pp, aI T ma 266 (upd (upd (heB al pa) (26 + pa) (((heB al pa) (26 + pa)) + 1)) 131 (((upd (heB al pa) (26 + pa) (((heB al pa) (26 + pa)) + 1)) 131) + 1))] := hD
      refine lv_aload_n hx hb dX9_hears_129 rfl (lv_at hl 1 rfl) ?_
      refine va_get (D := D) (ci := 8) (v := .ref ma) (C := RX9) (T := TX9) (N := 12) hx hb hts iX9 hown hC.1 hP 0 rfl rfl 0 (by decide) (hts (.fieldLink RX9 7 "ParrotCountsModel" "all" "[I") (List.mem_of_getElem? (i := 1) rfl)) (fun _ h => h) rfl dX9_hears_130 ?_
      refine lv_bipush (v := 78) hx hb dX9_hears_133 (by decide) ?_
      refine lv_iload_n hx hb dX9_hears_135 rfl (lv_at hl 2 rfl) ?_
      refine lv_iadd hx hb dX9_hears_136 ?_
      refine W.eq (g2 := F0 m 137 ls (.int (nI (78 + pa)) :: [.ref ma])) (congrArg (fun z => F0 m 137 ls (.int z :: [.ref ma])) (nI_add 78 pa)) ?_
      refine lv_aload_n hx hb dX9_hears_137 rfl (lv_at hl 1 rfl) ?_
      refine va_get (D := D) (ci := 8) (v := .ref ma) (C := RX9) (T := TX9) (N := 12) hx hb hts iX9 hown hC.1 hP 0 rfl rfl 0 (by decide) (hts (.fieldLink RX9 7 "ParrotCountsModel" "all" "[I") (List.mem_of_getElem? (i := 1) rfl)) (fun _ h => h) rfl dX9_hears_138 ?_
      refine lv_sipush (v := 131) hx hb dX9_hears_141 (by decide) ?_
      refine k_iald hx hb hC.1 hP 1 0 rfl rfl (by decide) dX9_hears_144 ?_
      refine k_iast hx hb hC.1 hP hD hS 1 0 rfl rfl (by omega) dX9_hears_145 (fun H locs hP hD hS => ?_)
      have hP : va_P D vwCl [oMo mo ma mh (nI hn) th mk mz mt (nI tn) (nI ax) sc ti pp, aI T ma 266 (upd (upd (upd (heB al pa) (26 + pa) (((heB al pa) (26 + pa)) + 1)) 131 (((upd (heB al pa) (26 + pa) (((heB al pa) (26 + pa)) + 1)) 131) + 1)) (78 + pa) ((upd (upd (heB al pa) (26 + pa) (((heB al pa) (26 + pa)) + 1)) 131 (((upd (heB al pa) (26 + pa) (((heB al pa) (26 + pa)) + 1)) 131) + 1)) 131))] H := hP
      have hD : va_D A [oMo mo ma mh (nI hn) th mk mz mt (nI tn) (nI ax) sc ti pp, aI T ma 266 (upd (upd (upd (heB al pa) (26 + pa) (((heB al pa) (26 + pa)) + 1)) 131 (((upd (heB al pa) (26 + pa) (((heB al pa) (26 + pa)) + 1)) 131) + 1)) (78 + pa) ((upd (upd (heB al pa) (26 + pa) (((heB al pa) (26 + pa)) + 1)) 131 (((upd (heB al pa) (26 + pa) (((heB al pa) (26 + pa)) + 1)) 131) + 1)) 131))] := hD
      have e_12 : upd (upd (upd (heB al pa) (26 + pa) (((heB al pa) (26 + pa)) + 1)) 131 (((upd (heB al pa) (26 + pa) (((heB al pa) (26 + pa)) + 1)) 131) + 1)) (78 + pa) ((upd (upd (heB al pa) (26 + pa) (((heB al pa) (26 + pa)) + 1)) 131 (((upd (heB al pa) (26 + pa) (((heB al pa) (26 + pa)) + 1)) 131) + 1)) 131) = heC (heB al pa) pa := rfl
      have eW := congrArg (fun zZ => ([oMo mo ma mh (nI hn) th mk mz mt (nI tn) (nI ax) sc ti pp, aI T ma 266 zZ] : va_W)) e_12
      have hP : va_P D vwCl [oMo mo ma mh (nI hn) th mk mz mt (nI tn) (nI ax) sc ti pp, aI T ma 266 (heC (heB al pa) pa)] _ := Eq.subst (motive := fun w => va_P D vwCl w _) eW hP
      have hD : va_D A [oMo mo ma mh (nI hn) th mk mz mt (nI tn) (nI ax) sc ti pp, aI T ma 266 (heC (heB al pa) pa)] := Eq.subst (motive := fun w => va_D A w) eW hD
      refine lv_aload_n hx hb dX9_hears_146 rfl (lv_at hl 1 rfl) ?_
      refine va_get (D := D) (ci := 8) (v := .ref ma) (C := RX9) (T := TX9) (N := 12) hx hb hts iX9 hown hC.1 hP 0 rfl rfl 0 (by decide) (hts (.fieldLink RX9 7 "ParrotCountsModel" "all" "[I") (List.mem_of_getElem? (i := 1) rfl)) (fun _ h => h) rfl dX9_hears_147 ?_
      refine lv_bipush (v := 104) hx hb dX9_hears_150 (by decide) ?_
      refine lv_iload_n hx hb dX9_hears_152 rfl (lv_at hl 2 rfl) ?_
      refine lv_iadd hx hb dX9_hears_153 ?_
      refine W.eq (g2 := F0 m 154 ls (.int (nI (104 + pa)) :: [.ref ma])) (congrArg (fun z => F0 m 154 ls (.int z :: [.ref ma])) (nI_add 104 pa)) ?_
      refine k_iald hx hb hC.1 hP 1 0 rfl rfl (by omega) dX9_hears_154 ?_
      refine lv_if_gt (tgt := 175) hx hb dX9_hears_155 (by decide) (fun c155 => ?_) (fun c155 => ?_)
      · have c155 := Int32.not_le.mpr c155
        refine lv_aload_n hx hb dX9_hears_175 rfl (lv_at hl 1 rfl) ?_
        refine va_get (D := D) (ci := 8) (v := .ref ma) (C := RX9) (T := TX9) (N := 12) hx hb hts iX9 hown hC.1 hP 0 rfl rfl 0 (by decide) (hts (.fieldLink RX9 7 "ParrotCountsModel" "all" "[I") (List.mem_of_getElem? (i := 1) rfl)) (fun _ h => h) rfl dX9_hears_176 ?_
        refine lv_bipush (v := 104) hx hb dX9_hears_179 (by decide) ?_
        refine lv_iload_n hx hb dX9_hears_181 rfl (lv_at hl 2 rfl) ?_
        refine lv_iadd hx hb dX9_hears_182 ?_
        refine W.eq (g2 := F0 m 183 ls (.int (nI (104 + pa)) :: [.ref ma])) (congrArg (fun z => F0 m 183 ls (.int z :: [.ref ma])) (nI_add 104 pa)) ?_
        refine lv_dup2_11 hx hb dX9_hears_183 rfl rfl ?_
        refine k_iald hx hb hC.1 hP 1 0 rfl rfl (by omega) dX9_hears_184 ?_
        refine lv_iconst (v := 1) hx hb dX9_hears_185 (by decide) ?_
        refine lv_iadd hx hb dX9_hears_186 ?_
        refine k_iast hx hb hC.1 hP hD hS 1 0 rfl rfl (by omega) dX9_hears_187 (fun H locs hP hD hS => ?_)
        have hP : va_P D vwCl [oMo mo ma mh (nI hn) th mk mz mt (nI tn) (nI ax) sc ti pp, aI T ma 266 (upd (heC (heB al pa) pa) (104 + pa) (((heC (heB al pa) pa) (104 + pa)) + 1))] H := hP
        have hD : va_D A [oMo mo ma mh (nI hn) th mk mz mt (nI tn) (nI ax) sc ti pp, aI T ma 266 (upd (heC (heB al pa) pa) (104 + pa) (((heC (heB al pa) pa) (104 + pa)) + 1))] := hD
        refine lv_goto (tgt := 208) hx hb dX9_hears_188 (by decide) ?_
        have e_13 : upd (heC (heB al pa) pa) (104 + pa) (((heC (heB al pa) pa) (104 + pa)) + 1) = heM al pa := by first | (unfold heM heW; rw [if_neg c155]; done) | (unfold heM heW; rw [if_pos c155, if_pos c172]; done) | (unfold heM heW; rw [if_pos c155, if_neg c172]; done)
        have eW := congrArg (fun zZ => ([oMo mo ma mh (nI hn) th mk mz mt (nI tn) (nI ax) sc ti pp, aI T ma 266 zZ] : va_W)) e_13
        have hP : va_P D vwCl [oMo mo ma mh (nI hn) th mk mz mt (nI tn) (nI ax) sc ti pp, aI T ma 266 (heM al pa)] _ := Eq.subst (motive := fun w => va_P D vwCl w _) eW hP
        have hD : va_D A [oMo mo ma mh (nI hn) th mk mz mt (nI tn) (nI ax) sc ti pp, aI T ma 266 (heM al pa)] := Eq.subst (motive := fun w => va_D A w) eW hD
        exact hret _ _ _ _ _ (fun Qc free hq hf => W.vret hx hb hr hq hf dX9_hears_208 hlk) hP hD hS
      · have c155 := Int32.not_lt.mp c155
        refine lv_aload_n hx hb dX9_hears_158 rfl (lv_at hl 1 rfl) ?_
        refine lv_bipush (v := 104) hx hb dX9_hears_159 (by decide) ?_
        have hP := hP.sub (ws' := [oMo mo ma mh (nI hn) th mk mz mt (nI tn) (nI ax) sc ti pp, aI T ma 266 (heC (heB al pa) pa)] ++ []) [0, 1] rfl
        have hD := hD.sub (ws' := [oMo mo ma mh (nI hn) th mk mz mt (nI tn) (nI ax) sc ti pp, aI T ma 266 (heC (heB al pa) pa)] ++ []) [0, 1] (by decide) rfl
        refine kV (ci := 8) (As := [.int 104]) (rest := []) ⟨hx, hb, hml, hown, hts⟩ (c_X9_many l D T mo ma mh mk mz mt (heC (heB al pa) pa) hn th tn ax sc ti pp 104 (by first | omega | assumption)) (cwV 1 hts gX9_hears_X9_many rfl rfl rfl (by decide +kernel) ⟨Nat.le_of_ble_eq_true rfl, Nat.le_of_ble_eq_true rfl⟩) hC hP hD hS hA rfl rfl rfl hl.1 rfl (Nat.le_of_ble_eq_true rfl) dX9_hears_161 ⟨Nat.zero_le _, Nat.zero_le _⟩ (fun H locs hP hD hS => ?_)
        have hP : va_P D vwCl [oMo mo ma mh (nI hn) th mk mz mt (nI tn) (nI ax) sc ti pp, aI T ma 266 (heC (heB al pa) pa)] H := hP
        have hD : va_D A [oMo mo ma mh (nI hn) th mk mz mt (nI tn) (nI ax) sc ti pp, aI T ma 266 (heC (heB al pa) pa)] := hD
        refine W.eq (g2 := F0 m 164 ls [.int (nI (cntN (rwF (heC (heB al pa) pa) 104) 26))]) rfl ?_
        refine lv_aload_n hx hb dX9_hears_164 rfl (lv_at hl 1 rfl) ?_
        refine va_get (D := D) (ci := 8) (v := .ref ma) (C := RX9) (T := TX9) (N := 12) hx hb hts iX9 hown hC.1 hP 0 rfl rfl 0 (by decide) (hts (.fieldLink RX9 7 "ParrotCountsModel" "all" "[I") (List.mem_of_getElem? (i := 1) rfl)) (fun _ h => h) rfl dX9_hears_165 ?_
        refine lv_sipush (v := 264) hx hb dX9_hears_168 (by decide) ?_
        refine k_iald hx hb hC.1 hP 1 0 rfl rfl (by decide) dX9_hears_171 ?_
        refine lv_icmp_ge (tgt := 191) hx hb dX9_hears_172 (by decide) (fun c172 => ?_) (fun c172 => ?_)
        · refine lv_aload_n hx hb dX9_hears_191 rfl (lv_at hl 1 rfl) ?_
          refine lv_iconst (v := 1) hx hb dX9_hears_192 (by decide) ?_
          have hP := hP.sub (ws' := [oMo mo ma mh (nI hn) th mk mz mt (nI tn) (nI ax) sc ti pp, aI T ma 266 (heC (heB al pa) pa)] ++ []) [0, 1] rfl
          have hD := hD.sub (ws' := [oMo mo ma mh (nI hn) th mk mz mt (nI tn) (nI ax) sc ti pp, aI T ma 266 (heC (heB al pa) pa)] ++ []) [0, 1] (by decide) rfl
          refine kV (ci := 8) (As := [.int 1]) (rest := []) ⟨hx, hb, hml, hown, hts⟩ (c_X9_wears l D T mo ma mh mk mz mt (heC (heB al pa) pa) hn th tn ax sc ti pp 1 ) (cwV 1 hts gX9_hears_X9_wears rfl rfl rfl (by decide +kernel) ⟨Nat.le_of_ble_eq_true rfl, Nat.le_of_ble_eq_true rfl⟩) hC hP hD hS hA rfl rfl rfl hl.1 rfl (Nat.le_of_ble_eq_true rfl) dX9_hears_193 ⟨Nat.zero_le _, Nat.zero_le _⟩ (fun H locs hP hD hS => ?_)
          have hP : va_P D vwCl [oMo mo ma mh (nI hn) th mk mz mt (nI tn) (nI ax) sc ti pp, aI T ma 266 (wrN (heC (heB al pa) pa) 1 26)] H := hP
          have hD : va_D A [oMo mo ma mh (nI hn) th mk mz mt (nI tn) (nI ax) sc ti pp, aI T ma 266 (wrN (heC (heB al pa) pa) 1 26)] := hD
          refine W.eq (g2 := F0 m 196 ls []) rfl ?_
          refine lv_aload_n hx hb dX9_hears_196 rfl (lv_at hl 1 rfl) ?_
          refine va_get (D := D) (ci := 8) (v := .ref ma) (C := RX9) (T := TX9) (N := 12) hx hb hts iX9 hown hC.1 hP 0 rfl rfl 0 (by decide) (hts (.fieldLink RX9 7 "ParrotCountsModel" "all" "[I") (List.mem_of_getElem? (i := 1) rfl)) (fun _ h => h) rfl dX9_hears_197 ?_
          refine lv_sipush (v := 130) hx hb dX9_hears_200 (by decide) ?_
          refine lv_dup2_11 hx hb dX9_hears_203 rfl rfl ?_
          refine k_iald hx hb hC.1 hP 1 0 rfl rfl (by decide) dX9_hears_204 ?_
          refine lv_iconst (v := 1) hx hb dX9_hears_205 (by decide) ?_
          refine lv_iadd hx hb dX9_hears_206 ?_
          refine k_iast hx hb hC.1 hP hD hS 1 0 rfl rfl (by decide) dX9_hears_207 (fun H locs hP hD hS => ?_)
          have hP : va_P D vwCl [oMo mo ma mh (nI hn) th mk mz mt (nI tn) (nI ax) sc ti pp, aI T ma 266 (upd (wrN (heC (heB al pa) pa) 1 26) 130 (((wrN (heC (heB al pa) pa) 1 26) 130) + 1))] H := hP
          have hD : va_D A [oMo mo ma mh (nI hn) th mk mz mt (nI tn) (nI ax) sc ti pp, aI T ma 266 (upd (wrN (heC (heB al pa) pa) 1 26) 130 (((wrN (heC (heB al pa) pa) 1 26) 130) + 1))] := hD
          have e_14 : upd (wrN (heC (heB al pa) pa) 1 26) 130 (((wrN (heC (heB al pa) pa) 1 26) 130) + 1) = heM al pa := by first | (unfold heM heW; rw [if_neg c155]; done) | (unfold heM heW; rw [if_pos c155, if_pos c172]; done) | (unfold heM heW; rw [if_pos c155, if_neg c172]; done)
          have eW := congrArg (fun zZ => ([oMo mo ma mh (nI hn) th mk mz mt (nI tn) (nI ax) sc ti pp, aI T ma 266 zZ] : va_W)) e_14
          have hP : va_P D vwCl [oMo mo ma mh (nI hn) th mk mz mt (nI tn) (nI ax) sc ti pp, aI T ma 266 (heM al pa)] _ := Eq.subst (motive := fun w => va_P D vwCl w _) eW hP
          have hD : va_D A [oMo mo ma mh (nI hn) th mk mz mt (nI tn) (nI ax) sc ti pp, aI T ma 266 (heM al pa)] := Eq.subst (motive := fun w => va_D A w) eW hD
          exact hret _ _ _ _ _ (fun Qc free hq hf => W.vret hx hb hr hq hf dX9_hears_208 hlk) hP hD hS
        · refine lv_aload_n hx hb dX9_hears_175 rfl (lv_at hl 1 rfl) ?_
          refine va_get (D := D) (ci := 8) (v := .ref ma) (C := RX9) (T := TX9) (N := 12) hx hb hts iX9 hown hC.1 hP 0 rfl rfl 0 (by decide) (hts (.fieldLink RX9 7 "ParrotCountsModel" "all" "[I") (List.mem_of_getElem? (i := 1) rfl)) (fun _ h => h) rfl dX9_hears_176 ?_
          refine lv_bipush (v := 104) hx hb dX9_hears_179 (by decide) ?_
          refine lv_iload_n hx hb dX9_hears_181 rfl (lv_at hl 2 rfl) ?_
          refine lv_iadd hx hb dX9_hears_182 ?_
          refine W.eq (g2 := F0 m 183 ls (.int (nI (104 + pa)) :: [.ref ma])) (congrArg (fun z => F0 m 183 ls (.int z :: [.ref ma])) (nI_add 104 pa)) ?_
          refine lv_dup2_11 hx hb dX9_hears_183 rfl rfl ?_
          refine k_iald hx hb hC.1 hP 1 0 rfl rfl (by omega) dX9_hears_184 ?_
          refine lv_iconst (v := 1) hx hb dX9_hears_185 (by decide) ?_
          refine lv_iadd hx hb dX9_hears_186 ?_
          refine k_iast hx hb hC.1 hP hD hS 1 0 rfl rfl (by omega) dX9_hears_187 (fun H locs hP hD hS => ?_)
          have hP : va_P D vwCl [oMo mo ma mh (nI hn) th mk mz mt (nI tn) (nI ax) sc ti pp, aI T ma 266 (upd (heC (heB al pa) pa) (104 + pa) (((heC (heB al pa) pa) (104 + pa)) + 1))] H := hP
          have hD : va_D A [oMo mo ma mh (nI hn) th mk mz mt (nI tn) (nI ax) sc ti pp, aI T ma 266 (upd (heC (heB al pa) pa) (104 + pa) (((heC (heB al pa) pa) (104 + pa)) + 1))] := hD
          refine lv_goto (tgt := 208) hx hb dX9_hears_188 (by decide) ?_
          have e_15 : upd (heC (heB al pa) pa) (104 + pa) (((heC (heB al pa) pa) (104 + pa)) + 1) = heM al pa := by first | (unfold heM heW; rw [if_neg c155]; done) | (unfold heM heW; rw [if_pos c155, if_pos c172]; done) | (unfold heM heW; rw [if_pos c155, if_neg c172]; done)
          have eW := congrArg (fun zZ => ([oMo mo ma mh (nI hn) th mk mz mt (nI tn) (nI ax) sc ti pp, aI T ma 266 zZ] : va_W)) e_15
          have hP : va_P D vwCl [oMo mo ma mh (nI hn) th mk mz mt (nI tn) (nI ax) sc ti pp, aI T ma 266 (heM al pa)] _ := Eq.subst (motive := fun w => va_P D vwCl w _) eW hP
          have hD : va_D A [oMo mo ma mh (nI hn) th mk mz mt (nI tn) (nI ax) sc ti pp, aI T ma 266 (heM al pa)] := Eq.subst (motive := fun w => va_D A w) eW hD
          exact hret _ _ _ _ _ (fun Qc free hq hf => W.vret hx hb hr hq hf dX9_hears_208 hlk) hP hD hS
abbrev rX9_hear : Room := { frames := 3, cells := 0, slots := 0, locals := 66 }
set_option maxHeartbeats 4000000 in
set_option maxRecDepth 100000 in
theorem c_X9_hear (l : Launch) (D : va_G) (T : Nat → ClassId) (mo ma mh mk mz mt : Nat) (al hy : Nat → Int32) (hn : Nat) (th : Int32) (tn ax : Nat) (sc ti pp : Int32) (cp pa : Nat) (hhn : hn ≤ 5) (hp : pa < 26) (hcp : al 264 = nI cp) (hcp9 : cp < 1000) (hfew : ¬ 99999 ≤ smN (rwF al 0) 26) : kM l D T yX9_hear wsX9_hear rX9_hear [.ref mo, .int (nI pa)] [oMo mo ma mh (nI hn) th mk mz mt (nI tn) (nI ax) sc ti pp, aI T ma 266 al, aI T mh 1330 hy] (some (.int (heM al pa (26 + pa)))) [oMo mo ma mh (nI (chK hn + 1)) 0 mk mz mt (nI tn) (nI ax) sc ti pp, aI T ma 266 (heM al pa), aI T mh 1330 (chH hy al hn)] := by
  refine kM.of (cc := cX9_hear) (maxL := 2) (ret := some .int) (by decide) rfl (Nat.le_of_ble_eq_true rfl) ?_
  intro p e s m below meth c A Q ls hx hb hml hown hr hlk hts hC hP hD hS hA hl hret
  have iX9 : ∀ w ∈ wsX90, w ∈ wsX9_hear := (fun _ h => List.mem_cons_of_mem _ (List.mem_append_right _ h))
  have hl : lv_has ls 2 [(0, .ref mo), (1, .int (nI pa))] := hl
  have hP : va_P D vwCl [oMo mo ma mh (nI hn) th mk mz mt (nI tn) (nI ax) sc ti pp, aI T ma 266 al, aI T mh 1330 hy] s.heap := hP
  have hD : va_D A [oMo mo ma mh (nI hn) th mk mz mt (nI tn) (nI ax) sc ti pp, aI T ma 266 al, aI T mh 1330 hy] := hD
  refine lv_iload_n hx hb dX9_hear_0 rfl (lv_at hl 1 rfl) ?_
  have hP := hP.sub (ws' := [] ++ [oMo mo ma mh (nI hn) th mk mz mt (nI tn) (nI ax) sc ti pp, aI T ma 266 al, aI T mh 1330 hy]) [0, 1, 2] rfl
  have hD := hD.sub (ws' := [] ++ [oMo mo ma mh (nI hn) th mk mz mt (nI tn) (nI ax) sc ti pp, aI T ma 266 al, aI T mh 1330 hy]) [0, 1, 2] (by decide) rfl
  refine kS (As := [.int (nI pa)]) (rest := []) ⟨hx, hb, hml, hown, hts⟩ (c_X9_isParrot l D T (nI pa) ) (va_cwS 1 hts gX9_hear_X9_isParrot rfl rfl rfl (by decide +kernel) ⟨Nat.le_of_ble_eq_true rfl, Nat.le_of_ble_eq_true rfl⟩) hC hP hD hS hA rfl hl.1 rfl (Nat.le_of_ble_eq_true rfl) dX9_hear_1 ⟨Nat.zero_le _, Nat.zero_le _⟩ (fun H locs hP hD hS => ?_)
  have hP : va_P D vwCl [oMo mo ma mh (nI hn) th mk mz mt (nI tn) (nI ax) sc ti pp, aI T ma 266 al, aI T mh 1330 hy] H := hP
  have hD : va_D A [oMo mo ma mh (nI hn) th mk mz mt (nI tn) (nI ax) sc ti pp, aI T ma 266 al, aI T mh 1330 hy] := hD
  refine W.eq (g2 := F0 m 4 ls [.int (bI (inL (nI pa).toInt64 0 25))]) rfl ?_
  refine lv_if_ne (tgt := 13) hx hb dX9_hear_4 (by decide) (fun _ => ?_) (fun c_x => absurd c_x (fun e => by rw [inL_n hp] at e; exact absurd e (by decide)))
  refine lv_aload_n hx hb dX9_hear_13 rfl (lv_at hl 0 rfl) ?_
  have hP := hP.sub (ws' := [oMo mo ma mh (nI hn) th mk mz mt (nI tn) (nI ax) sc ti pp, aI T ma 266 al] ++ [aI T mh 1330 hy]) [0, 1, 2] rfl
  have hD := hD.sub (ws' := [oMo mo ma mh (nI hn) th mk mz mt (nI tn) (nI ax) sc ti pp, aI T ma 266 al] ++ [aI T mh 1330 hy]) [0, 1, 2] (by decide) rfl
  refine kV (ci := 8) (As := []) (rest := []) ⟨hx, hb, hml, hown, hts⟩ (c_X9_callsNow l D T mo ma mh mk mz mt al hn th tn ax sc ti pp ) (cwV 0 hts gX9_hear_X9_callsNow rfl rfl rfl (by decide +kernel) ⟨Nat.le_of_ble_eq_true rfl, Nat.le_of_ble_eq_true rfl⟩) hC hP hD hS hA rfl rfl rfl hl.1 rfl (Nat.le_of_ble_eq_true rfl) dX9_hear_14 ⟨Nat.zero_le _, Nat.zero_le _⟩ (fun H locs hP hD hS => ?_)
  have hP : va_P D vwCl [oMo mo ma mh (nI hn) th mk mz mt (nI tn) (nI ax) sc ti pp, aI T ma 266 al, aI T mh 1330 hy] H := hP
  have hD : va_D A [oMo mo ma mh (nI hn) th mk mz mt (nI tn) (nI ax) sc ti pp, aI T ma 266 al, aI T mh 1330 hy] := hD
  refine W.eq (g2 := F0 m 17 ls [.int (smN (rwF al 0) 26)]) rfl ?_
  refine lv_ldc (v := 99999) hx hb hown (hts (.constant RX9 69 99999) (List.mem_of_getElem? (i := 1) rfl)) dX9_hear_17 ?_
  refine lv_icmp_lt (tgt := 28) hx hb dX9_hear_19 (by decide) (fun _ => ?_) (fun c_x => absurd (Int32.not_le.mp hfew) c_x)
  refine lv_aload_n hx hb dX9_hear_28 rfl (lv_at hl 0 rfl) ?_
  have hP := hP.sub (ws' := [oMo mo ma mh (nI hn) th mk mz mt (nI tn) (nI ax) sc ti pp, aI T ma 266 al, aI T mh 1330 hy] ++ []) [0, 1, 2] rfl
  have hD := hD.sub (ws' := [oMo mo ma mh (nI hn) th mk mz mt (nI tn) (nI ax) sc ti pp, aI T ma 266 al, aI T mh 1330 hy] ++ []) [0, 1, 2] (by decide) rfl
  refine kV (ci := 8) (As := []) (rest := []) ⟨hx, hb, hml, hown, hts⟩ (c_X9_changes l D T mo ma mh mk mz mt al hy hn th tn ax sc ti pp (by first | omega | assumption)) (cwV 0 hts gX9_hear_X9_changes rfl rfl rfl (by decide +kernel) ⟨Nat.le_of_ble_eq_true rfl, Nat.le_of_ble_eq_true rfl⟩) hC hP hD hS hA rfl rfl rfl hl.1 rfl (Nat.le_of_ble_eq_true rfl) dX9_hear_29 ⟨Nat.zero_le _, Nat.zero_le _⟩ (fun H locs hP hD hS => ?_)
  have hP : va_P D vwCl [oMo mo ma mh (nI (chK hn + 1)) 0 mk mz mt (nI tn) (nI ax) sc ti pp, aI T ma 266 al, aI T mh 1330 (chH hy al hn)] H := hP
  have hD : va_D A [oMo mo ma mh (nI (chK hn + 1)) 0 mk mz mt (nI tn) (nI ax) sc ti pp, aI T ma 266 al, aI T mh 1330 (chH hy al hn)] := hD
  refine W.eq (g2 := F0 m 32 ls []) rfl ?_
  refine lv_aload_n hx hb dX9_hear_32 rfl (lv_at hl 0 rfl) ?_
  refine lv_iload_n hx hb dX9_hear_33 rfl (lv_at hl 1 rfl) ?_
  have hP := hP.sub (ws' := [oMo mo ma mh (nI (chK hn + 1)) 0 mk mz mt (nI tn) (nI ax) sc ti pp, aI T ma 266 al] ++ [aI T mh 1330 (chH hy al hn)]) [0, 1, 2] rfl
  have hD := hD.sub (ws' := [oMo mo ma mh (nI (chK hn + 1)) 0 mk mz mt (nI tn) (nI ax) sc ti pp, aI T ma 266 al] ++ [aI T mh 1330 (chH hy al hn)]) [0, 1, 2] (by decide) rfl
  refine kV (ci := 8) (As := [.int (nI pa)]) (rest := []) ⟨hx, hb, hml, hown, hts⟩ (c_X9_hears l D T mo ma mh mk mz mt al (chK hn + 1) 0 tn ax sc ti pp cp pa (by first | omega | assumption) (by first | omega | assumption) (by first | omega | assumption)) (cwV 1 hts gX9_hear_X9_hears rfl rfl rfl (by decide +kernel) ⟨Nat.le_of_ble_eq_true rfl, Nat.le_of_ble_eq_true rfl⟩) hC hP hD hS hA rfl rfl rfl hl.1 rfl (Nat.le_of_ble_eq_true rfl) dX9_hear_34 ⟨Nat.zero_le _, Nat.zero_le _⟩ (fun H locs hP hD hS => ?_)
  have hP : va_P D vwCl [oMo mo ma mh (nI (chK hn + 1)) 0 mk mz mt (nI tn) (nI ax) sc ti pp, aI T ma 266 (heM al pa), aI T mh 1330 (chH hy al hn)] H := hP
  have hD : va_D A [oMo mo ma mh (nI (chK hn + 1)) 0 mk mz mt (nI tn) (nI ax) sc ti pp, aI T ma 266 (heM al pa), aI T mh 1330 (chH hy al hn)] := hD
  refine W.eq (g2 := F0 m 37 ls []) rfl ?_
  refine lv_aload_n hx hb dX9_hear_37 rfl (lv_at hl 0 rfl) ?_
  refine va_get (D := D) (ci := 8) (v := .ref ma) (C := RX9) (T := TX9) (N := 12) hx hb hts iX9 hown hC.1 hP 0 rfl rfl 0 (by decide) (hts (.fieldLink RX9 7 "ParrotCountsModel" "all" "[I") (List.mem_of_getElem? (i := 2) rfl)) (fun _ h => h) rfl dX9_hear_38 ?_
  refine lv_bipush (v := 26) hx hb dX9_hear_41 (by decide) ?_
  refine lv_iload_n hx hb dX9_hear_43 rfl (lv_at hl 1 rfl) ?_
  refine lv_iadd hx hb dX9_hear_44 ?_
  refine W.eq (g2 := F0 m 45 ls (.int (nI (26 + pa)) :: [.ref ma])) (congrArg (fun z => F0 m 45 ls (.int z :: [.ref ma])) (nI_add 26 pa)) ?_
  refine k_iald hx hb hC.1 hP 1 0 rfl rfl (by omega) dX9_hear_45 ?_
  have e_1 : (heM al pa) (26 + pa) = heM al pa (26 + pa) := by rfl
  refine W.eq (g2 := F0 m 46 ls [.int (heM al pa (26 + pa))]) (congrArg (fun z => F0 m 46 ls [.int z]) e_1) ?_
  exact hret _ _ _ _ _ (fun Qc free hq hf => W.iret hx hb hr hq hf dX9_hear_46 hlk) hP hD hS
set_option maxHeartbeats 4000000 in
set_option maxRecDepth 100000 in
theorem c_X9_hear_bad (l : Launch) (D : va_G) (T : Nat → ClassId) (mo ma mh mk mz mt : Nat) (al hy : Nat → Int32) (hn : Nat) (th : Int32) (tn ax : Nat) (sc ti pp : Int32) (px : Int32) (hbad : inL px.toInt64 0 25 = false) : kM l D T yX9_hear wsX9_hear rX9_hear [.ref mo, .int px] [oMo mo ma mh (nI hn) th mk mz mt (nI tn) (nI ax) sc ti pp, aI T ma 266 al, aI T mh 1330 hy] (some (.int 0)) [oMo mo ma mh (nI hn) 1 mk mz mt (nI tn) (nI ax) sc ti pp, aI T ma 266 al, aI T mh 1330 hy] := by
  refine kM.of (cc := cX9_hear) (maxL := 2) (ret := some .int) (by decide) rfl (Nat.le_of_ble_eq_true rfl) ?_
  intro p e s m below meth c A Q ls hx hb hml hown hr hlk hts hC hP hD hS hA hl hret
  have hl : lv_has ls 2 [(0, .ref mo), (1, .int px)] := hl
  have hP : va_P D vwCl [oMo mo ma mh (nI hn) th mk mz mt (nI tn) (nI ax) sc ti pp, aI T ma 266 al, aI T mh 1330 hy] s.heap := hP
  have hD : va_D A [oMo mo ma mh (nI hn) th mk mz mt (nI tn) (nI ax) sc ti pp, aI T ma 266 al, aI T mh 1330 hy] := hD
  refine lv_iload_n hx hb dX9_hear_0 rfl (lv_at hl 1 rfl) ?_
  have hP := hP.sub (ws' := [] ++ [oMo mo ma mh (nI hn) th mk mz mt (nI tn) (nI ax) sc ti pp, aI T ma 266 al, aI T mh 1330 hy]) [0, 1, 2] rfl
  have hD := hD.sub (ws' := [] ++ [oMo mo ma mh (nI hn) th mk mz mt (nI tn) (nI ax) sc ti pp, aI T ma 266 al, aI T mh 1330 hy]) [0, 1, 2] (by decide) rfl
  refine kS (As := [.int px]) (rest := []) ⟨hx, hb, hml, hown, hts⟩ (c_X9_isParrot l D T px ) (va_cwS 1 hts gX9_hear_X9_isParrot rfl rfl rfl (by decide +kernel) ⟨Nat.le_of_ble_eq_true rfl, Nat.le_of_ble_eq_true rfl⟩) hC hP hD hS hA rfl hl.1 rfl (Nat.le_of_ble_eq_true rfl) dX9_hear_1 ⟨Nat.zero_le _, Nat.zero_le _⟩ (fun H locs hP hD hS => ?_)
  have hP : va_P D vwCl [oMo mo ma mh (nI hn) th mk mz mt (nI tn) (nI ax) sc ti pp, aI T ma 266 al, aI T mh 1330 hy] H := hP
  have hD : va_D A [oMo mo ma mh (nI hn) th mk mz mt (nI tn) (nI ax) sc ti pp, aI T ma 266 al, aI T mh 1330 hy] := hD
  refine W.eq (g2 := F0 m 4 ls [.int (bI (inL px.toInt64 0 25))]) rfl ?_
  refine lv_if_ne (tgt := 13) hx hb dX9_hear_4 (by decide) (fun c_x => absurd (by rw [hbad]; rfl) c_x) (fun _ => ?_)
  refine lv_aload_n hx hb dX9_hear_7 rfl (lv_at hl 0 rfl) ?_
  refine lv_iconst (v := 1) hx hb dX9_hear_8 (by decide) ?_
  have hP := hP.sub (ws' := [oMo mo ma mh (nI hn) th mk mz mt (nI tn) (nI ax) sc ti pp] ++ [aI T ma 266 al, aI T mh 1330 hy]) [0, 1, 2] rfl
  have hD := hD.sub (ws' := [oMo mo ma mh (nI hn) th mk mz mt (nI tn) (nI ax) sc ti pp] ++ [aI T ma 266 al, aI T mh 1330 hy]) [0, 1, 2] (by decide) rfl
  refine kV (ci := 8) (As := [.int 1]) (rest := []) ⟨hx, hb, hml, hown, hts⟩ (c_X9_fails l D T mo ma mh mk mz mt hn th tn ax sc ti pp 1 ) (cwV 1 hts gX9_hear_X9_fails rfl rfl rfl (by decide +kernel) ⟨Nat.le_of_ble_eq_true rfl, Nat.le_of_ble_eq_true rfl⟩) hC hP hD hS hA rfl rfl rfl hl.1 rfl (Nat.le_of_ble_eq_true rfl) dX9_hear_9 ⟨Nat.zero_le _, Nat.zero_le _⟩ (fun H locs hP hD hS => ?_)
  have hP : va_P D vwCl [oMo mo ma mh (nI hn) 1 mk mz mt (nI tn) (nI ax) sc ti pp, aI T ma 266 al, aI T mh 1330 hy] H := hP
  have hD : va_D A [oMo mo ma mh (nI hn) 1 mk mz mt (nI tn) (nI ax) sc ti pp, aI T ma 266 al, aI T mh 1330 hy] := hD
  refine W.eq (g2 := F0 m 12 ls [.int 0]) rfl ?_
  exact hret _ _ _ _ _ (fun Qc free hq hf => W.iret hx hb hr hq hf dX9_hear_12 hlk) hP hD hS
set_option maxHeartbeats 4000000 in
set_option maxRecDepth 100000 in
theorem c_X9_hear_many (l : Launch) (D : va_G) (T : Nat → ClassId) (mo ma mh mk mz mt : Nat) (al hy : Nat → Int32) (hn : Nat) (th : Int32) (tn ax : Nat) (sc ti pp : Int32) (pa : Nat) (hp : pa < 26) (hmany : 99999 ≤ smN (rwF al 0) 26) : kM l D T yX9_hear wsX9_hear rX9_hear [.ref mo, .int (nI pa)] [oMo mo ma mh (nI hn) th mk mz mt (nI tn) (nI ax) sc ti pp, aI T ma 266 al, aI T mh 1330 hy] (some (.int 0)) [oMo mo ma mh (nI hn) 2 mk mz mt (nI tn) (nI ax) sc ti pp, aI T ma 266 al, aI T mh 1330 hy] := by
  refine kM.of (cc := cX9_hear) (maxL := 2) (ret := some .int) (by decide) rfl (Nat.le_of_ble_eq_true rfl) ?_
  intro p e s m below meth c A Q ls hx hb hml hown hr hlk hts hC hP hD hS hA hl hret
  have hl : lv_has ls 2 [(0, .ref mo), (1, .int (nI pa))] := hl
  have hP : va_P D vwCl [oMo mo ma mh (nI hn) th mk mz mt (nI tn) (nI ax) sc ti pp, aI T ma 266 al, aI T mh 1330 hy] s.heap := hP
  have hD : va_D A [oMo mo ma mh (nI hn) th mk mz mt (nI tn) (nI ax) sc ti pp, aI T ma 266 al, aI T mh 1330 hy] := hD
  refine lv_iload_n hx hb dX9_hear_0 rfl (lv_at hl 1 rfl) ?_
  have hP := hP.sub (ws' := [] ++ [oMo mo ma mh (nI hn) th mk mz mt (nI tn) (nI ax) sc ti pp, aI T ma 266 al, aI T mh 1330 hy]) [0, 1, 2] rfl
  have hD := hD.sub (ws' := [] ++ [oMo mo ma mh (nI hn) th mk mz mt (nI tn) (nI ax) sc ti pp, aI T ma 266 al, aI T mh 1330 hy]) [0, 1, 2] (by decide) rfl
  refine kS (As := [.int (nI pa)]) (rest := []) ⟨hx, hb, hml, hown, hts⟩ (c_X9_isParrot l D T (nI pa) ) (va_cwS 1 hts gX9_hear_X9_isParrot rfl rfl rfl (by decide +kernel) ⟨Nat.le_of_ble_eq_true rfl, Nat.le_of_ble_eq_true rfl⟩) hC hP hD hS hA rfl hl.1 rfl (Nat.le_of_ble_eq_true rfl) dX9_hear_1 ⟨Nat.zero_le _, Nat.zero_le _⟩ (fun H locs hP hD hS => ?_)
  have hP : va_P D vwCl [oMo mo ma mh (nI hn) th mk mz mt (nI tn) (nI ax) sc ti pp, aI T ma 266 al, aI T mh 1330 hy] H := hP
  have hD : va_D A [oMo mo ma mh (nI hn) th mk mz mt (nI tn) (nI ax) sc ti pp, aI T ma 266 al, aI T mh 1330 hy] := hD
  refine W.eq (g2 := F0 m 4 ls [.int (bI (inL (nI pa).toInt64 0 25))]) rfl ?_
  refine lv_if_ne (tgt := 13) hx hb dX9_hear_4 (by decide) (fun _ => ?_) (fun c_x => absurd c_x (fun e => by rw [inL_n hp] at e; exact absurd e (by decide)))
  refine lv_aload_n hx hb dX9_hear_13 rfl (lv_at hl 0 rfl) ?_
  have hP := hP.sub (ws' := [oMo mo ma mh (nI hn) th mk mz mt (nI tn) (nI ax) sc ti pp, aI T ma 266 al] ++ [aI T mh 1330 hy]) [0, 1, 2] rfl
  have hD := hD.sub (ws' := [oMo mo ma mh (nI hn) th mk mz mt (nI tn) (nI ax) sc ti pp, aI T ma 266 al] ++ [aI T mh 1330 hy]) [0, 1, 2] (by decide) rfl
  refine kV (ci := 8) (As := []) (rest := []) ⟨hx, hb, hml, hown, hts⟩ (c_X9_callsNow l D T mo ma mh mk mz mt al hn th tn ax sc ti pp ) (cwV 0 hts gX9_hear_X9_callsNow rfl rfl rfl (by decide +kernel) ⟨Nat.le_of_ble_eq_true rfl, Nat.le_of_ble_eq_true rfl⟩) hC hP hD hS hA rfl rfl rfl hl.1 rfl (Nat.le_of_ble_eq_true rfl) dX9_hear_14 ⟨Nat.zero_le _, Nat.zero_le _⟩ (fun H locs hP hD hS => ?_)
  have hP : va_P D vwCl [oMo mo ma mh (nI hn) th mk mz mt (nI tn) (nI ax) sc ti pp, aI T ma 266 al, aI T mh 1330 hy] H := hP
  have hD : va_D A [oMo mo ma mh (nI hn) th mk mz mt (nI tn) (nI ax) sc ti pp, aI T ma 266 al, aI T mh 1330 hy] := hD
  refine W.eq (g2 := F0 m 17 ls [.int (smN (rwF al 0) 26)]) rfl ?_
  refine lv_ldc (v := 99999) hx hb hown (hts (.constant RX9 69 99999) (List.mem_of_getElem? (i := 1) rfl)) dX9_hear_17 ?_
  refine lv_icmp_lt (tgt := 28) hx hb dX9_hear_19 (by decide) (fun c_x => absurd c_x (Int32.not_lt.mpr hmany)) (fun _ => ?_)
  refine lv_aload_n hx hb dX9_hear_22 rfl (lv_at hl 0 rfl) ?_
  refine lv_iconst (v := 2) hx hb dX9_hear_23 (by decide) ?_
  have hP := hP.sub (ws' := [oMo mo ma mh (nI hn) th mk mz mt (nI tn) (nI ax) sc ti pp] ++ [aI T ma 266 al, aI T mh 1330 hy]) [0, 1, 2] rfl
  have hD := hD.sub (ws' := [oMo mo ma mh (nI hn) th mk mz mt (nI tn) (nI ax) sc ti pp] ++ [aI T ma 266 al, aI T mh 1330 hy]) [0, 1, 2] (by decide) rfl
  refine kV (ci := 8) (As := [.int 2]) (rest := []) ⟨hx, hb, hml, hown, hts⟩ (c_X9_fails l D T mo ma mh mk mz mt hn th tn ax sc ti pp 2 ) (cwV 1 hts gX9_hear_X9_fails rfl rfl rfl (by decide +kernel) ⟨Nat.le_of_ble_eq_true rfl, Nat.le_of_ble_eq_true rfl⟩) hC hP hD hS hA rfl rfl rfl hl.1 rfl (Nat.le_of_ble_eq_true rfl) dX9_hear_24 ⟨Nat.zero_le _, Nat.zero_le _⟩ (fun H locs hP hD hS => ?_)
  have hP : va_P D vwCl [oMo mo ma mh (nI hn) 2 mk mz mt (nI tn) (nI ax) sc ti pp, aI T ma 266 al, aI T mh 1330 hy] H := hP
  have hD : va_D A [oMo mo ma mh (nI hn) 2 mk mz mt (nI tn) (nI ax) sc ti pp, aI T ma 266 al, aI T mh 1330 hy] := hD
  refine W.eq (g2 := F0 m 27 ls [.int 0]) rfl ?_
  exact hret _ _ _ _ _ (fun Qc free hq hf => W.iret hx hb hr hq hf dX9_hear_27 hlk) hP hD hS
abbrev rX9_empty : Room := { frames := 1, cells := 0, slots := 0, locals := 25 }
set_option maxHeartbeats 4000000 in
set_option maxRecDepth 100000 in
theorem c_X9_empty (l : Launch) (D : va_G) (T : Nat → ClassId) (mo ma mh mk mz mt : Nat) (al hy : Nat → Int32) (hn : Nat) (th : Int32) (tn ax : Nat) (sc ti pp : Int32) (cx : Int32) (hhn : hn ≤ 5) (hin : inL cx.toInt64 1 9 = true) : kM l D T yX9_empty wsX9_empty rX9_empty [.ref mo, .int cx] [oMo mo ma mh (nI hn) th mk mz mt (nI tn) (nI ax) sc ti pp, aI T ma 266 al, aI T mh 1330 hy] (some (.int (al 264))) [oMo mo ma mh (nI (chK hn + 1)) 0 mk mz mt (nI tn) (nI ax) sc ti pp, aI T ma 266 (upd (upd (clN (clN al 0 132) 132 132) 265 0) 264 cx), aI T mh 1330 (chH hy al hn)] := by
  refine kM.of (cc := cX9_empty) (maxL := 3) (ret := some .int) (by decide) rfl (Nat.le_of_ble_eq_true rfl) ?_
  intro p e s m below meth c A Q ls hx hb hml hown hr hlk hts hC hP hD hS hA hl hret
  have iX9 : ∀ w ∈ wsX90, w ∈ wsX9_empty := (fun _ h => List.mem_cons_of_mem _ (List.mem_append_right _ h))
  have hl : lv_has ls 3 [(0, .ref mo), (1, .int cx)] := hl
  have hP : va_P D vwCl [oMo mo ma mh (nI hn) th mk mz mt (nI tn) (nI ax) sc ti pp, aI T ma 266 al, aI T mh 1330 hy] s.heap := hP
  have hD : va_D A [oMo mo ma mh (nI hn) th mk mz mt (nI tn) (nI ax) sc ti pp, aI T ma 266 al, aI T mh 1330 hy] := hD
  refine lv_iload_n hx hb dX9_empty_0 rfl (lv_at hl 1 rfl) ?_
  refine lv_i2l (v := cx.toInt64) hx hb dX9_empty_1 rfl ?_
  refine lv_lconst (v := 1) hx hb dX9_empty_2 (by decide) ?_
  refine lv_ldc2 (v := 9) hx hb hown (hts (.constantLong RX9 85 9) (List.mem_of_getElem? (i := 1) rfl)) dX9_empty_3 ?_
  have hP := hP.sub (ws' := [] ++ [oMo mo ma mh (nI hn) th mk mz mt (nI tn) (nI ax) sc ti pp, aI T ma 266 al, aI T mh 1330 hy]) [0, 1, 2] rfl
  have hD := hD.sub (ws' := [] ++ [oMo mo ma mh (nI hn) th mk mz mt (nI tn) (nI ax) sc ti pp, aI T ma 266 al, aI T mh 1330 hy]) [0, 1, 2] (by decide) rfl
  refine kS (As := [.long cx.toInt64, .long 1, .long 9]) (rest := []) ⟨hx, hb, hml, hown, hts⟩ (c_X9_in l D T cx.toInt64 1 9 ) (va_cwS 3 hts gX9_empty_X9_in rfl rfl rfl (by decide +kernel) ⟨Nat.le_of_ble_eq_true rfl, Nat.le_of_ble_eq_true rfl⟩) hC hP hD hS hA rfl hl.1 rfl (Nat.le_of_ble_eq_true rfl) dX9_empty_6 ⟨Nat.zero_le _, Nat.zero_le _⟩ (fun H locs hP hD hS => ?_)
  have hP : va_P D vwCl [oMo mo ma mh (nI hn) th mk mz mt (nI tn) (nI ax) sc ti pp, aI T ma 266 al, aI T mh 1330 hy] H := hP
  have hD : va_D A [oMo mo ma mh (nI hn) th mk mz mt (nI tn) (nI ax) sc ti pp, aI T ma 266 al, aI T mh 1330 hy] := hD
  refine W.eq (g2 := F0 m 9 ls [.int (bI (inL cx.toInt64 1 9))]) rfl ?_
  refine lv_if_ne (tgt := 18) hx hb dX9_empty_9 (by decide) (fun _ => ?_) (fun c_x => absurd c_x (fun e => by rw [hin] at e; exact absurd e (by decide)))
  refine lv_aload_n hx hb dX9_empty_18 rfl (lv_at hl 0 rfl) ?_
  have hP := hP.sub (ws' := [oMo mo ma mh (nI hn) th mk mz mt (nI tn) (nI ax) sc ti pp, aI T ma 266 al, aI T mh 1330 hy] ++ []) [0, 1, 2] rfl
  have hD := hD.sub (ws' := [oMo mo ma mh (nI hn) th mk mz mt (nI tn) (nI ax) sc ti pp, aI T ma 266 al, aI T mh 1330 hy] ++ []) [0, 1, 2] (by decide) rfl
  refine kV (ci := 8) (As := []) (rest := []) ⟨hx, hb, hml, hown, hts⟩ (c_X9_changes l D T mo ma mh mk mz mt al hy hn th tn ax sc ti pp (by first | omega | assumption)) (cwV 0 hts gX9_empty_X9_changes rfl rfl rfl (by decide +kernel) ⟨Nat.le_of_ble_eq_true rfl, Nat.le_of_ble_eq_true rfl⟩) hC hP hD hS hA rfl rfl rfl hl.1 rfl (Nat.le_of_ble_eq_true rfl) dX9_empty_19 ⟨Nat.zero_le _, Nat.zero_le _⟩ (fun H locs hP hD hS => ?_)
  have hP : va_P D vwCl [oMo mo ma mh (nI (chK hn + 1)) 0 mk mz mt (nI tn) (nI ax) sc ti pp, aI T ma 266 al, aI T mh 1330 (chH hy al hn)] H := hP
  have hD : va_D A [oMo mo ma mh (nI (chK hn + 1)) 0 mk mz mt (nI tn) (nI ax) sc ti pp, aI T ma 266 al, aI T mh 1330 (chH hy al hn)] := hD
  refine W.eq (g2 := F0 m 22 ls []) rfl ?_
  refine lv_aload_n hx hb dX9_empty_22 rfl (lv_at hl 0 rfl) ?_
  refine va_get (D := D) (ci := 8) (v := .ref ma) (C := RX9) (T := TX9) (N := 12) hx hb hts iX9 hown hC.1 hP 0 rfl rfl 0 (by decide) (hts (.fieldLink RX9 7 "ParrotCountsModel" "all" "[I") (List.mem_of_getElem? (i := 2) rfl)) (fun _ h => h) rfl dX9_empty_23 ?_
  refine lv_sipush (v := 264) hx hb dX9_empty_26 (by decide) ?_
  refine k_iald hx hb hC.1 hP 1 0 rfl rfl (by decide) dX9_empty_29 ?_
  refine lv_istore_n (lv' := [(2, .int (al 264)), (0, .ref mo), (1, .int cx)]) hx hb dX9_empty_30 rfl hl (by decide) rfl (fun ls hl => ?_)
  refine lv_aload_n hx hb dX9_empty_31 rfl (lv_at hl 1 rfl) ?_
  refine lv_iconst (v := 0) hx hb dX9_empty_32 (by decide) ?_
  have hP := hP.sub (ws' := [oMo mo ma mh (nI (chK hn + 1)) 0 mk mz mt (nI tn) (nI ax) sc ti pp, aI T ma 266 al] ++ [aI T mh 1330 (chH hy al hn)]) [0, 1, 2] rfl
  have hD := hD.sub (ws' := [oMo mo ma mh (nI (chK hn + 1)) 0 mk mz mt (nI tn) (nI ax) sc ti pp, aI T ma 266 al] ++ [aI T mh 1330 (chH hy al hn)]) [0, 1, 2] (by decide) rfl
  refine kV (ci := 8) (As := [.int 0]) (rest := []) ⟨hx, hb, hml, hown, hts⟩ (c_X9_clears l D T mo ma mh mk mz mt al (chK hn + 1) 0 tn ax sc ti pp 0 (by first | omega | assumption)) (cwV 1 hts gX9_empty_X9_clears rfl rfl rfl (by decide +kernel) ⟨Nat.le_of_ble_eq_true rfl, Nat.le_of_ble_eq_true rfl⟩) hC hP hD hS hA rfl rfl rfl hl.1 rfl (Nat.le_of_ble_eq_true rfl) dX9_empty_33 ⟨Nat.zero_le _, Nat.zero_le _⟩ (fun H locs hP hD hS => ?_)
  have hP : va_P D vwCl [oMo mo ma mh (nI (chK hn + 1)) 0 mk mz mt (nI tn) (nI ax) sc ti pp, aI T ma 266 (clN al 0 132), aI T mh 1330 (chH hy al hn)] H := hP
  have hD : va_D A [oMo mo ma mh (nI (chK hn + 1)) 0 mk mz mt (nI tn) (nI ax) sc ti pp, aI T ma 266 (clN al 0 132), aI T mh 1330 (chH hy al hn)] := hD
  refine W.eq (g2 := F0 m 36 ls []) rfl ?_
  refine lv_aload_n hx hb dX9_empty_36 rfl (lv_at hl 1 rfl) ?_
  refine lv_sipush (v := 132) hx hb dX9_empty_37 (by decide) ?_
  have hP := hP.sub (ws' := [oMo mo ma mh (nI (chK hn + 1)) 0 mk mz mt (nI tn) (nI ax) sc ti pp, aI T ma 266 (clN al 0 132)] ++ [aI T mh 1330 (chH hy al hn)]) [0, 1, 2] rfl
  have hD := hD.sub (ws' := [oMo mo ma mh (nI (chK hn + 1)) 0 mk mz mt (nI tn) (nI ax) sc ti pp, aI T ma 266 (clN al 0 132)] ++ [aI T mh 1330 (chH hy al hn)]) [0, 1, 2] (by decide) rfl
  refine kV (ci := 8) (As := [.int 132]) (rest := []) ⟨hx, hb, hml, hown, hts⟩ (c_X9_clears l D T mo ma mh mk mz mt (clN al 0 132) (chK hn + 1) 0 tn ax sc ti pp 132 (by first | omega | assumption)) (cwV 1 hts gX9_empty_X9_clears rfl rfl rfl (by decide +kernel) ⟨Nat.le_of_ble_eq_true rfl, Nat.le_of_ble_eq_true rfl⟩) hC hP hD hS hA rfl rfl rfl hl.1 rfl (Nat.le_of_ble_eq_true rfl) dX9_empty_40 ⟨Nat.zero_le _, Nat.zero_le _⟩ (fun H locs hP hD hS => ?_)
  have hP : va_P D vwCl [oMo mo ma mh (nI (chK hn + 1)) 0 mk mz mt (nI tn) (nI ax) sc ti pp, aI T ma 266 (clN (clN al 0 132) 132 132), aI T mh 1330 (chH hy al hn)] H := hP
  have hD : va_D A [oMo mo ma mh (nI (chK hn + 1)) 0 mk mz mt (nI tn) (nI ax) sc ti pp, aI T ma 266 (clN (clN al 0 132) 132 132), aI T mh 1330 (chH hy al hn)] := hD
  refine W.eq (g2 := F0 m 43 ls []) rfl ?_
  refine lv_aload_n hx hb dX9_empty_43 rfl (lv_at hl 1 rfl) ?_
  refine va_get (D := D) (ci := 8) (v := .ref ma) (C := RX9) (T := TX9) (N := 12) hx hb hts iX9 hown hC.1 hP 0 rfl rfl 0 (by decide) (hts (.fieldLink RX9 7 "ParrotCountsModel" "all" "[I") (List.mem_of_getElem? (i := 2) rfl)) (fun _ h => h) rfl dX9_empty_44 ?_
  refine lv_sipush (v := 265) hx hb dX9_empty_47 (by decide) ?_
  refine lv_iconst (v := 0) hx hb dX9_empty_50 (by decide) ?_
  refine k_iast hx hb hC.1 hP hD hS 1 0 rfl rfl (by decide) dX9_empty_51 (fun H locs hP hD hS => ?_)
  have hP : va_P D vwCl [oMo mo ma mh (nI (chK hn + 1)) 0 mk mz mt (nI tn) (nI ax) sc ti pp, aI T ma 266 (upd (clN (clN al 0 132) 132 132) 265 0), aI T mh 1330 (chH hy al hn)] H := hP
  have hD : va_D A [oMo mo ma mh (nI (chK hn + 1)) 0 mk mz mt (nI tn) (nI ax) sc ti pp, aI T ma 266 (upd (clN (clN al 0 132) 132 132) 265 0), aI T mh 1330 (chH hy al hn)] := hD
  refine lv_aload_n hx hb dX9_empty_52 rfl (lv_at hl 1 rfl) ?_
  refine va_get (D := D) (ci := 8) (v := .ref ma) (C := RX9) (T := TX9) (N := 12) hx hb hts iX9 hown hC.1 hP 0 rfl rfl 0 (by decide) (hts (.fieldLink RX9 7 "ParrotCountsModel" "all" "[I") (List.mem_of_getElem? (i := 2) rfl)) (fun _ h => h) rfl dX9_empty_53 ?_
  refine lv_sipush (v := 264) hx hb dX9_empty_56 (by decide) ?_
  refine lv_iload_n hx hb dX9_empty_59 rfl (lv_at hl 2 rfl) ?_
  refine k_iast hx hb hC.1 hP hD hS 1 0 rfl rfl (by decide) dX9_empty_60 (fun H locs hP hD hS => ?_)
  have hP : va_P D vwCl [oMo mo ma mh (nI (chK hn + 1)) 0 mk mz mt (nI tn) (nI ax) sc ti pp, aI T ma 266 (upd (upd (clN (clN al 0 132) 132 132) 265 0) 264 cx), aI T mh 1330 (chH hy al hn)] H := hP
  have hD : va_D A [oMo mo ma mh (nI (chK hn + 1)) 0 mk mz mt (nI tn) (nI ax) sc ti pp, aI T ma 266 (upd (upd (clN (clN al 0 132) 132 132) 265 0) 264 cx), aI T mh 1330 (chH hy al hn)] := hD
  refine lv_iload_n hx hb dX9_empty_61 rfl (lv_at hl 0 rfl) ?_
  exact hret _ _ _ _ _ (fun Qc free hq hf => W.iret hx hb hr hq hf dX9_empty_62 hlk) hP hD hS
set_option maxHeartbeats 4000000 in
set_option maxRecDepth 100000 in
theorem c_X9_empty_bad (l : Launch) (D : va_G) (T : Nat → ClassId) (mo ma mh mk mz mt : Nat) (al hy : Nat → Int32) (hn : Nat) (th : Int32) (tn ax : Nat) (sc ti pp : Int32) (cx : Int32) (hbad : inL cx.toInt64 1 9 = false) : kM l D T yX9_empty wsX9_empty rX9_empty [.ref mo, .int cx] [oMo mo ma mh (nI hn) th mk mz mt (nI tn) (nI ax) sc ti pp, aI T ma 266 al, aI T mh 1330 hy] (some (.int 0)) [oMo mo ma mh (nI hn) 1 mk mz mt (nI tn) (nI ax) sc ti pp, aI T ma 266 al, aI T mh 1330 hy] := by
  refine kM.of (cc := cX9_empty) (maxL := 3) (ret := some .int) (by decide) rfl (Nat.le_of_ble_eq_true rfl) ?_
  intro p e s m below meth c A Q ls hx hb hml hown hr hlk hts hC hP hD hS hA hl hret
  have hl : lv_has ls 3 [(0, .ref mo), (1, .int cx)] := hl
  have hP : va_P D vwCl [oMo mo ma mh (nI hn) th mk mz mt (nI tn) (nI ax) sc ti pp, aI T ma 266 al, aI T mh 1330 hy] s.heap := hP
  have hD : va_D A [oMo mo ma mh (nI hn) th mk mz mt (nI tn) (nI ax) sc ti pp, aI T ma 266 al, aI T mh 1330 hy] := hD
  refine lv_iload_n hx hb dX9_empty_0 rfl (lv_at hl 1 rfl) ?_
  refine lv_i2l (v := cx.toInt64) hx hb dX9_empty_1 rfl ?_
  refine lv_lconst (v := 1) hx hb dX9_empty_2 (by decide) ?_
  refine lv_ldc2 (v := 9) hx hb hown (hts (.constantLong RX9 85 9) (List.mem_of_getElem? (i := 1) rfl)) dX9_empty_3 ?_
  have hP := hP.sub (ws' := [] ++ [oMo mo ma mh (nI hn) th mk mz mt (nI tn) (nI ax) sc ti pp, aI T ma 266 al, aI T mh 1330 hy]) [0, 1, 2] rfl
  have hD := hD.sub (ws' := [] ++ [oMo mo ma mh (nI hn) th mk mz mt (nI tn) (nI ax) sc ti pp, aI T ma 266 al, aI T mh 1330 hy]) [0, 1, 2] (by decide) rfl
  refine kS (As := [.long cx.toInt64, .long 1, .long 9]) (rest := []) ⟨hx, hb, hml, hown, hts⟩ (c_X9_in l D T cx.toInt64 1 9 ) (va_cwS 3 hts gX9_empty_X9_in rfl rfl rfl (by decide +kernel) ⟨Nat.le_of_ble_eq_true rfl, Nat.le_of_ble_eq_true rfl⟩) hC hP hD hS hA rfl hl.1 rfl (Nat.le_of_ble_eq_true rfl) dX9_empty_6 ⟨Nat.zero_le _, Nat.zero_le _⟩ (fun H locs hP hD hS => ?_)
  have hP : va_P D vwCl [oMo mo ma mh (nI hn) th mk mz mt (nI tn) (nI ax) sc ti pp, aI T ma 266 al, aI T mh 1330 hy] H := hP
  have hD : va_D A [oMo mo ma mh (nI hn) th mk mz mt (nI tn) (nI ax) sc ti pp, aI T ma 266 al, aI T mh 1330 hy] := hD
  refine W.eq (g2 := F0 m 9 ls [.int (bI (inL cx.toInt64 1 9))]) rfl ?_
  refine lv_if_ne (tgt := 18) hx hb dX9_empty_9 (by decide) (fun c_x => absurd (by rw [hbad]; rfl) c_x) (fun _ => ?_)
  refine lv_aload_n hx hb dX9_empty_12 rfl (lv_at hl 0 rfl) ?_
  refine lv_iconst (v := 1) hx hb dX9_empty_13 (by decide) ?_
  have hP := hP.sub (ws' := [oMo mo ma mh (nI hn) th mk mz mt (nI tn) (nI ax) sc ti pp] ++ [aI T ma 266 al, aI T mh 1330 hy]) [0, 1, 2] rfl
  have hD := hD.sub (ws' := [oMo mo ma mh (nI hn) th mk mz mt (nI tn) (nI ax) sc ti pp] ++ [aI T ma 266 al, aI T mh 1330 hy]) [0, 1, 2] (by decide) rfl
  refine kV (ci := 8) (As := [.int 1]) (rest := []) ⟨hx, hb, hml, hown, hts⟩ (c_X9_fails l D T mo ma mh mk mz mt hn th tn ax sc ti pp 1 ) (cwV 1 hts gX9_empty_X9_fails rfl rfl rfl (by decide +kernel) ⟨Nat.le_of_ble_eq_true rfl, Nat.le_of_ble_eq_true rfl⟩) hC hP hD hS hA rfl rfl rfl hl.1 rfl (Nat.le_of_ble_eq_true rfl) dX9_empty_14 ⟨Nat.zero_le _, Nat.zero_le _⟩ (fun H locs hP hD hS => ?_)
  have hP : va_P D vwCl [oMo mo ma mh (nI hn) 1 mk mz mt (nI tn) (nI ax) sc ti pp, aI T ma 266 al, aI T mh 1330 hy] H := hP
  have hD : va_D A [oMo mo ma mh (nI hn) 1 mk mz mt (nI tn) (nI ax) sc ti pp, aI T ma 266 al, aI T mh 1330 hy] := hD
  refine W.eq (g2 := F0 m 17 ls [.int 0]) rfl ?_
  exact hret _ _ _ _ _ (fun Qc free hq hf => W.iret hx hb hr hq hf dX9_empty_17 hlk) hP hD hS
abbrev rX9_putAside : Room := { frames := 1, cells := 0, slots := 0, locals := 23 }
set_option maxHeartbeats 4000000 in
set_option maxRecDepth 100000 in
theorem c_X9_putAside (l : Launch) (D : va_G) (T : Nat → ClassId) (mo ma mh mk mz mt : Nat) (al hy : Nat → Int32) (hn : Nat) (th : Int32) (tn ax : Nat) (sc ti pp : Int32) (hhn : hn ≤ 5) : kM l D T yX9_putAside wsX9_putAside rX9_putAside [.ref mo] [oMo mo ma mh (nI hn) th mk mz mt (nI tn) (nI ax) sc ti pp, aI T ma 266 al, aI T mh 1330 hy] (some (.int (smN (rwF (paA al) 132) 26))) [oMo mo ma mh (nI (chK hn + 1)) 0 mk mz mt (nI tn) (nI ax) sc ti pp, aI T ma 266 (paA al), aI T mh 1330 (chH hy al hn)] := by
  refine kM.of (cc := cX9_putAside) (maxL := 2) (ret := some .int) (by decide) rfl (Nat.le_of_ble_eq_true rfl) ?_
  intro p e s m below meth c A Q ls hx hb hml hown hr hlk hts hC hP hD hS hA hl hret
  have iX9 : ∀ w ∈ wsX90, w ∈ wsX9_putAside := (fun _ h => List.mem_cons_of_mem _ (List.mem_append_right _ h))
  have loop_6 : ∀ (n i : Nat), i + n = 132 → ∀ (H : Heap) (locs : List Loc) (ls : Array Slot), va_P D vwCl [oMo mo ma mh (nI (chK hn + 1)) 0 mk mz mt (nI tn) (nI ax) sc ti pp, aI T ma 266 (paN al i), aI T mh 1330 (chH hy al hn)] H → va_D A [oMo mo ma mh (nI (chK hn + 1)) 0 mk mz mt (nI tn) (nI ax) sc ti pp, aI T ma 266 (paN al i), aI T mh 1330 (chH hy al hn)] → va_S A s.heap H locs → lv_has ls 2 [(1, .int (nI i)), (0, .ref mo)] → W p l e rX9_putAside s m [.ref mo].toArray below meth c H locs 0 0 Q (F0 m 6 ls []) := by
    intro n
    induction n with
    | zero =>
      intro i hi  H locs ls hP hD hS hl
      have hi9 : 132 = i := by omega
      subst hi9
      refine lv_iload_n hx hb dX9_putAside_6 rfl (lv_at hl 0 rfl) ?_
      refine lv_sipush (v := 132) hx hb dX9_putAside_7 (by decide) ?_
      refine lv_icmp_ge (tgt := 35) hx hb dX9_putAside_10 (by decide) (fun _ => ?_) (fun c_x => absurd (by decide : (132 : Int32) ≤ nI 132) c_x)
      refine lv_aload_n hx hb dX9_putAside_35 rfl (lv_at hl 1 rfl) ?_
      refine lv_iconst (v := 0) hx hb dX9_putAside_36 (by decide) ?_
      have hP := hP.sub (ws' := [oMo mo ma mh (nI (chK hn + 1)) 0 mk mz mt (nI tn) (nI ax) sc ti pp, aI T ma 266 (paN al 132)] ++ [aI T mh 1330 (chH hy al hn)]) [0, 1, 2] rfl
      have hD := hD.sub (ws' := [oMo mo ma mh (nI (chK hn + 1)) 0 mk mz mt (nI tn) (nI ax) sc ti pp, aI T ma 266 (paN al 132)] ++ [aI T mh 1330 (chH hy al hn)]) [0, 1, 2] (by decide) rfl
      refine kV (ci := 8) (As := [.int 0]) (rest := []) ⟨hx, hb, hml, hown, hts⟩ (c_X9_clears l D T mo ma mh mk mz mt (paN al 132) (chK hn + 1) 0 tn ax sc ti pp 0 (by first | omega | assumption)) (cwV 1 hts gX9_putAside_X9_clears rfl rfl rfl (by decide +kernel) ⟨Nat.le_of_ble_eq_true rfl, Nat.le_of_ble_eq_true rfl⟩) hC hP hD hS hA rfl rfl rfl hl.1 rfl (Nat.le_of_ble_eq_true rfl) dX9_putAside_37 ⟨Nat.zero_le _, Nat.zero_le _⟩ (fun H locs hP hD hS => ?_)
      have hP : va_P D vwCl [oMo mo ma mh (nI (chK hn + 1)) 0 mk mz mt (nI tn) (nI ax) sc ti pp, aI T ma 266 (clN (paN al 132) 0 132), aI T mh 1330 (chH hy al hn)] H := hP
      have hD : va_D A [oMo mo ma mh (nI (chK hn + 1)) 0 mk mz mt (nI tn) (nI ax) sc ti pp, aI T ma 266 (clN (paN al 132) 0 132), aI T mh 1330 (chH hy al hn)] := hD
      refine W.eq (g2 := F0 m 40 ls []) rfl ?_
      refine lv_aload_n hx hb dX9_putAside_40 rfl (lv_at hl 1 rfl) ?_
      refine va_get (D := D) (ci := 8) (v := .ref ma) (C := RX9) (T := TX9) (N := 12) hx hb hts iX9 hown hC.1 hP 0 rfl rfl 0 (by decide) (hts (.fieldLink RX9 7 "ParrotCountsModel" "all" "[I") (List.mem_of_getElem? (i := 1) rfl)) (fun _ h => h) rfl dX9_putAside_41 ?_
      refine lv_sipush (v := 265) hx hb dX9_putAside_44 (by decide) ?_
      refine lv_iconst (v := 1) hx hb dX9_putAside_47 (by decide) ?_
      refine k_iast hx hb hC.1 hP hD hS 1 0 rfl rfl (by decide) dX9_putAside_48 (fun H locs hP hD hS => ?_)
      have hP : va_P D vwCl [oMo mo ma mh (nI (chK hn + 1)) 0 mk mz mt (nI tn) (nI ax) sc ti pp, aI T ma 266 (upd (clN (paN al 132) 0 132) 265 1), aI T mh 1330 (chH hy al hn)] H := hP
      have hD : va_D A [oMo mo ma mh (nI (chK hn + 1)) 0 mk mz mt (nI tn) (nI ax) sc ti pp, aI T ma 266 (upd (clN (paN al 132) 0 132) 265 1), aI T mh 1330 (chH hy al hn)] := hD
      refine lv_aload_n hx hb dX9_putAside_49 rfl (lv_at hl 1 rfl) ?_
      refine lv_sipush (v := 132) hx hb dX9_putAside_50 (by decide) ?_
      have hP := hP.sub (ws' := [oMo mo ma mh (nI (chK hn + 1)) 0 mk mz mt (nI tn) (nI ax) sc ti pp, aI T ma 266 (upd (clN (paN al 132) 0 132) 265 1)] ++ [aI T mh 1330 (chH hy al hn)]) [0, 1, 2] rfl
      have hD := hD.sub (ws' := [oMo mo ma mh (nI (chK hn + 1)) 0 mk mz mt (nI tn) (nI ax) sc ti pp, aI T ma 266 (upd (clN (paN al 132) 0 132) 265 1)] ++ [aI T mh 1330 (chH hy al hn)]) [0, 1, 2] (by decide) rfl
      refine kV (ci := 8) (As := [.int 132]) (rest := []) ⟨hx, hb, hml, hown, hts⟩ (c_X9_sum l D T mo ma mh mk mz mt (upd (clN (paN al 132) 0 132) 265 1) (chK hn + 1) 0 tn ax sc ti pp 132 (by first | omega | assumption)) (cwV 1 hts gX9_putAside_X9_sum rfl rfl rfl (by decide +kernel) ⟨Nat.le_of_ble_eq_true rfl, Nat.le_of_ble_eq_true rfl⟩) hC hP hD hS hA rfl rfl rfl hl.1 rfl (Nat.le_of_ble_eq_true rfl) dX9_putAside_53 ⟨Nat.zero_le _, Nat.zero_le _⟩ (fun H locs hP hD hS => ?_)
      have hP : va_P D vwCl [oMo mo ma mh (nI (chK hn + 1)) 0 mk mz mt (nI tn) (nI ax) sc ti pp, aI T ma 266 (upd (clN (paN al 132) 0 132) 265 1), aI T mh 1330 (chH hy al hn)] H := hP
      have hD : va_D A [oMo mo ma mh (nI (chK hn + 1)) 0 mk mz mt (nI tn) (nI ax) sc ti pp, aI T ma 266 (upd (clN (paN al 132) 0 132) 265 1), aI T mh 1330 (chH hy al hn)] := hD
      refine W.eq (g2 := F0 m 56 ls [.int (smN (rwF (upd (clN (paN al 132) 0 132) 265 1) 132) 26)]) rfl ?_
      have e_1 : (upd (clN (paN al 132) 0 132) 265 1) = paA al := rfl
      have eW := congrArg (fun zZ => ([oMo mo ma mh (nI (chK hn + 1)) 0 mk mz mt (nI tn) (nI ax) sc ti pp, aI T ma 266 zZ, aI T mh 1330 (chH hy al hn)] : va_W)) e_1
      have hP : va_P D vwCl [oMo mo ma mh (nI (chK hn + 1)) 0 mk mz mt (nI tn) (nI ax) sc ti pp, aI T ma 266 (paA al), aI T mh 1330 (chH hy al hn)] _ := Eq.subst (motive := fun w => va_P D vwCl w _) eW hP
      have hD : va_D A [oMo mo ma mh (nI (chK hn + 1)) 0 mk mz mt (nI tn) (nI ax) sc ti pp, aI T ma 266 (paA al), aI T mh 1330 (chH hy al hn)] := Eq.subst (motive := fun w => va_D A w) eW hD
      have e_2 : smN (rwF (upd (clN (paN al 132) 0 132) 265 1) 132) 26 = smN (rwF (paA al) 132) 26 := rfl
      refine W.eq (g2 := F0 m 56 ls [.int (smN (rwF (paA al) 132) 26)]) (congrArg (fun z => F0 m 56 ls [.int z]) e_2) ?_
      exact hret _ _ _ _ _ (fun Qc free hq hf => W.iret hx hb hr hq hf dX9_putAside_56 hlk) hP hD hS
    | succ n ih =>
      intro i hi  H locs ls hP hD hS hl
      have hlt : i < 132 := by omega
      refine lv_iload_n hx hb dX9_putAside_6 rfl (lv_at hl 0 rfl) ?_
      refine lv_sipush (v := 132) hx hb dX9_putAside_7 (by decide) ?_
      refine lv_icmp_ge (tgt := 35) hx hb dX9_putAside_10 (by decide) (fun c_x => absurd c_x (nI_ge (b := 132) hlt (by decide))) (fun _ => ?_)
      refine lv_aload_n hx hb dX9_putAside_13 rfl (lv_at hl 1 rfl) ?_
      refine va_get (D := D) (ci := 8) (v := .ref ma) (C := RX9) (T := TX9) (N := 12) hx hb hts iX9 hown hC.1 hP 0 rfl rfl 0 (by decide) (hts (.fieldLink RX9 7 "ParrotCountsModel" "all" "[I") (List.mem_of_getElem? (i := 1) rfl)) (fun _ h => h) rfl dX9_putAside_14 ?_
      refine lv_sipush (v := 132) hx hb dX9_putAside_17 (by decide) ?_
      refine lv_iload_n hx hb dX9_putAside_20 rfl (lv_at hl 0 rfl) ?_
      refine lv_iadd hx hb dX9_putAside_21 ?_
      refine W.eq (g2 := F0 m 22 ls (.int (nI (132 + i)) :: [.ref ma])) (congrArg (fun z => F0 m 22 ls (.int z :: [.ref ma])) (nI_add 132 i)) ?_
      refine lv_aload_n hx hb dX9_putAside_22 rfl (lv_at hl 1 rfl) ?_
      refine va_get (D := D) (ci := 8) (v := .ref ma) (C := RX9) (T := TX9) (N := 12) hx hb hts iX9 hown hC.1 hP 0 rfl rfl 0 (by decide) (hts (.fieldLink RX9 7 "ParrotCountsModel" "all" "[I") (List.mem_of_getElem? (i := 1) rfl)) (fun _ h => h) rfl dX9_putAside_23 ?_
      refine lv_iload_n hx hb dX9_putAside_26 rfl (lv_at hl 0 rfl) ?_
      refine k_iald hx hb hC.1 hP 1 0 rfl rfl (by omega) dX9_putAside_27 ?_
      refine k_iast hx hb hC.1 hP hD hS 1 0 rfl rfl (by omega) dX9_putAside_28 (fun H locs hP hD hS => ?_)
      have hP : va_P D vwCl [oMo mo ma mh (nI (chK hn + 1)) 0 mk mz mt (nI tn) (nI ax) sc ti pp, aI T ma 266 (upd (paN al i) (132 + i) ((paN al i) i)), aI T mh 1330 (chH hy al hn)] H := hP
      have hD : va_D A [oMo mo ma mh (nI (chK hn + 1)) 0 mk mz mt (nI tn) (nI ax) sc ti pp, aI T ma 266 (upd (paN al i) (132 + i) ((paN al i) i)), aI T mh 1330 (chH hy al hn)] := hD
      refine lv_iinc (v := nI (i + 1)) (lv' := [(1, .int (nI (i + 1))), (0, .ref mo)]) hx hb dX9_putAside_29 hl (k := 0) rfl (nI_1 i) (by decide) rfl (fun ls hl => ?_)
      refine lv_goto (tgt := 6) hx hb dX9_putAside_32 (by decide) ?_
      have e_3 : upd (paN al i) (132 + i) ((paN al i) i) = paN al (i + 1) := by first | (rw [paN]; done) | rfl
      have eW := congrArg (fun zZ => ([oMo mo ma mh (nI (chK hn + 1)) 0 mk mz mt (nI tn) (nI ax) sc ti pp, aI T ma 266 zZ, aI T mh 1330 (chH hy al hn)] : va_W)) e_3
      have hP : va_P D vwCl [oMo mo ma mh (nI (chK hn + 1)) 0 mk mz mt (nI tn) (nI ax) sc ti pp, aI T ma 266 (paN al (i + 1)), aI T mh 1330 (chH hy al hn)] _ := Eq.subst (motive := fun w => va_P D vwCl w _) eW hP
      have hD : va_D A [oMo mo ma mh (nI (chK hn + 1)) 0 mk mz mt (nI tn) (nI ax) sc ti pp, aI T ma 266 (paN al (i + 1)), aI T mh 1330 (chH hy al hn)] := Eq.subst (motive := fun w => va_D A w) eW hD
      have hl : lv_has ls 2 [(1, .int (nI (i + 1))), (0, .ref mo)] := lv_sub hl [0, 1] (by rfl)
      exact ih (i + 1) (by omega)  _ _ _ hP hD hS hl
  have hl : lv_has ls 2 [(0, .ref mo)] := hl
  have hP : va_P D vwCl [oMo mo ma mh (nI hn) th mk mz mt (nI tn) (nI ax) sc ti pp, aI T ma 266 al, aI T mh 1330 hy] s.heap := hP
  have hD : va_D A [oMo mo ma mh (nI hn) th mk mz mt (nI tn) (nI ax) sc ti pp, aI T ma 266 al, aI T mh 1330 hy] := hD
  refine lv_aload_n hx hb dX9_putAside_0 rfl (lv_at hl 0 rfl) ?_
  have hP := hP.sub (ws' := [oMo mo ma mh (nI hn) th mk mz mt (nI tn) (nI ax) sc ti pp, aI T ma 266 al, aI T mh 1330 hy] ++ []) [0, 1, 2] rfl
  have hD := hD.sub (ws' := [oMo mo ma mh (nI hn) th mk mz mt (nI tn) (nI ax) sc ti pp, aI T ma 266 al, aI T mh 1330 hy] ++ []) [0, 1, 2] (by decide) rfl
  refine kV (ci := 8) (As := []) (rest := []) ⟨hx, hb, hml, hown, hts⟩ (c_X9_changes l D T mo ma mh mk mz mt al hy hn th tn ax sc ti pp (by first | omega | assumption)) (cwV 0 hts gX9_putAside_X9_changes rfl rfl rfl (by decide +kernel) ⟨Nat.le_of_ble_eq_true rfl, Nat.le_of_ble_eq_true rfl⟩) hC hP hD hS hA rfl rfl rfl hl.1 rfl (Nat.le_of_ble_eq_true rfl) dX9_putAside_1 ⟨Nat.zero_le _, Nat.zero_le _⟩ (fun H locs hP hD hS => ?_)
  have hP : va_P D vwCl [oMo mo ma mh (nI (chK hn + 1)) 0 mk mz mt (nI tn) (nI ax) sc ti pp, aI T ma 266 al, aI T mh 1330 (chH hy al hn)] H := hP
  have hD : va_D A [oMo mo ma mh (nI (chK hn + 1)) 0 mk mz mt (nI tn) (nI ax) sc ti pp, aI T ma 266 al, aI T mh 1330 (chH hy al hn)] := hD
  refine W.eq (g2 := F0 m 4 ls []) rfl ?_
  refine lv_iconst (v := 0) hx hb dX9_putAside_4 (by decide) ?_
  refine lv_istore_n (lv' := [(1, .int 0), (0, .ref mo)]) hx hb dX9_putAside_5 rfl hl (by decide) rfl (fun ls hl => ?_)
  have e_4 : al = paN al 0 := by first | rfl
  have eW := congrArg (fun zZ => ([oMo mo ma mh (nI (chK hn + 1)) 0 mk mz mt (nI tn) (nI ax) sc ti pp, aI T ma 266 zZ, aI T mh 1330 (chH hy al hn)] : va_W)) e_4
  have hP : va_P D vwCl [oMo mo ma mh (nI (chK hn + 1)) 0 mk mz mt (nI tn) (nI ax) sc ti pp, aI T ma 266 (paN al 0), aI T mh 1330 (chH hy al hn)] _ := Eq.subst (motive := fun w => va_P D vwCl w _) eW hP
  have hD : va_D A [oMo mo ma mh (nI (chK hn + 1)) 0 mk mz mt (nI tn) (nI ax) sc ti pp, aI T ma 266 (paN al 0), aI T mh 1330 (chH hy al hn)] := Eq.subst (motive := fun w => va_D A w) eW hD
  have e_5 : (0 : Int32) = nI 0 := by first | rfl
  have hl : lv_has ls 2 [(1, .int (nI 0)), (0, .ref mo)] := lv_sub hl [0, 1] (by show (_ : List (Nat × Value)) = [(1, .int (nI 0)), (0, .ref mo)]; rw [← e_5]; rfl)
  exact loop_6 132 0 (by omega)  _ _ _ hP hD hS hl
