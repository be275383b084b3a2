theorem mWeak_clamp (al : Nat → Int32) (fr : Nat) : (mWeak al fr 26).toNatClampNeg < 26 := by
  by_cases h : mWeak al fr 26 = -1
  · rw [h]; decide
  · exact mWeak_cl (Nat.le_refl 26) h
theorem wrN_at {al : Nat → Int32} {bx : Int32} {j : Nat} (h : 130 ≤ j) : ∀ i, i ≤ 26 → wrN al bx i j = al j
  | 0, _ => rfl
  | i + 1, hi => by rw [wrN, pk_un (by omega)]; exact wrN_at h i (by omega)
theorem heB_264 {al : Nat → Int32} {pa : Nat} (hp : pa < 26) : heB al pa 264 = al 264 := by
  unfold heB
  have hw := mWeak_clamp (upd al pa (al pa + 1)) 0
  by_cases h1 : upd al pa (al pa + 1) (26 + pa) = 0
  · rw [if_pos h1]
    by_cases h2 : mFull (upd al pa (al pa + 1)) 0 = true
    · rw [if_pos h2]; unfold heT
      rw [pk_un (by omega), pk_un (by omega), pk_un (by omega), pk_un (by omega), pk_un (by omega), pk_un (by omega)]
    · rw [if_neg h2]; exact pk_un (by omega)
  · rw [if_neg h1]; exact pk_un (by omega)
theorem heM_264 {al : Nat → Int32} {pa : Nat} (hp : pa < 26) : heM al pa 264 = al 264 := by
  unfold heM heW
  have h0 : heC (heB al pa) pa 264 = al 264 := by rw [heC_264 hp, heB_264 hp]
  by_cases h1 : heC (heB al pa) pa (104 + pa) ≤ 0
  · rw [if_pos h1]
    by_cases h2 : heC (heB al pa) pa 264 ≤ nI (cntN (rwF (heC (heB al pa) pa) 104) 26)
    · rw [if_pos h2, pk_un (by omega), wrN_at (by omega) 26 (Nat.le_refl _)]; exact h0
    · rw [if_neg h2, pk_un (by omega)]; exact h0
  · rw [if_neg h1, pk_un (by omega)]; exact h0
/-- k calls of one parrot are heard -/
def heR (al : Nat → Int32) (pa : Nat) : Nat → (Nat → Int32)
  | 0 => al
  | k + 1 => heM (heR al pa k) pa
theorem heR_264 {al : Nat → Int32} {pa : Nat} (hp : pa < 26) : ∀ k, heR al pa k 264 = al 264
  | 0 => rfl
  | k + 1 => by rw [heR, heM_264 hp]; exact heR_264 hp k
theorem hrB_in {tx : Nat → Int32} {tn ax : Nat} {lo hi : Int32} (h : hrB tx tn ax lo hi = true) : lo ≤ tx ax ∧ tx ax ≤ hi := by
  unfold hrB at h
  by_cases c : nI tn ≤ nI ax
  · rw [if_pos c] at h; cases h
  · rw [if_neg c] at h; exact (inL_int _ _ _).mp h
theorem i32_box {x lo hi : Int32} {a b : Nat} (e1 : lo = nI a) (e2 : hi = nI b) (hb : b < 1000) (h : lo ≤ x ∧ x ≤ hi) (hab : a < 1000) : ∃ j, a ≤ j ∧ j ≤ b ∧ x = nI j := by
  obtain ⟨h1, h2⟩ := h
  rw [e1, Int32.le_iff_toInt_le, nI_toInt (by omega)] at h1
  rw [e2, Int32.le_iff_toInt_le, nI_toInt (by omega)] at h2
  have h0 : ¬ x < 0 := by
    rw [Int32.lt_iff_toInt_lt]
    have : (0 : Int32).toInt = 0 := by decide
    omega
  obtain ⟨j, hj, rfl⟩ := nI_of h0
  rw [nI_toInt (by omega)] at h1 h2
  exact ⟨j, by omega, by omega, rfl⟩
/-- a number that was read is small -/
theorem rtK_ti {tx : Nat → Int32} {tn ax : Nat} : ∃ t, t ≤ 99 ∧ (rtK tx tn ax).2.2 = nI t := by
  unfold rtK
  by_cases h : hrB tx tn ax 49 57 = true
  · rw [if_pos h]
    obtain ⟨u, hu1, hu2, hu3⟩ := i32_box (a := 49) (b := 57) rfl rfl (by decide) (hrB_in h) (by decide)
    have e1 : tx ax - 48 = nI (u - 48) := by rw [hu3]; exact pk_sub (a := u) (b := 48) (by omega)
    by_cases h2 : hrB tx tn (ax + 1) 48 57 = true
    · rw [if_pos h2]
      obtain ⟨v, hv1, hv2, hv3⟩ := i32_box (a := 48) (b := 57) rfl rfl (by decide) (hrB_in h2) (by decide)
      refine ⟨10 * (u - 48) + v - 48, by omega, ?_⟩
      show 10 * (tx ax - 48) + tx (ax + 1) - 48 = _
      rw [e1, hv3]
      show nI 10 * nI (u - 48) + nI v - nI 48 = _
      rw [pk_mul, nI_add, pk_sub (by omega)]
    · rw [if_neg h2]
      exact ⟨u - 48, by omega, e1⟩
  · rw [if_neg h]; exact ⟨1, by decide, rfl⟩
theorem rpK_ti {tx : Nat → Int32} {tn ax : Nat} {ob : Bool} : (rpK tx tn ax ob).2.2.1 = (rtK tx tn ax).2.2 := by
  unfold rpK
  by_cases h1 : (rtK tx tn ax).1 = true
  · rw [if_pos h1]
    by_cases h2 : hrB tx tn (rtK tx tn ax).2.1 97 122 = true
    · rw [if_pos h2]
    · rw [if_neg h2]
      by_cases h3 : ob = true
      · rw [if_pos h3]
        by_cases h4 : nI (rtK tx tn ax).2.1 ≤ nI ax
        · rw [if_pos h4]
        · rw [if_neg h4]
          by_cases h5 : hrB tx tn (rtK tx tn ax).2.1 40 40 = true
          · rw [if_pos h5]
          · rw [if_neg h5]
      · rw [if_neg h3]
  · rw [if_neg h1]
theorem rpK_tc {tx : Nat → Int32} {tn ax : Nat} {ob : Bool} : (rpK tx tn ax ob).2.2.1 = nI (rpK tx tn ax ob).2.2.1.toNatClampNeg := by
  obtain ⟨t, h1, h2⟩ := rtK_ti (tx := tx) (tn := tn) (ax := ax)
  rw [rpK_ti, h2, nI_clamp (by omega)]
theorem rpK_pc {tx : Nat → Int32} {tn ax : Nat} {ob : Bool} (h : ¬ (rpK tx tn ax ob).2.2.2 = -1) : (rpK tx tn ax ob).2.2.2 = nI (rpK tx tn ax ob).2.2.2.toNatClampNeg ∧ (rpK tx tn ax ob).2.2.2.toNatClampNeg < 26 := by
  have key : ∃ j, j < 26 ∧ (rpK tx tn ax ob).2.2.2 = nI j := by
    unfold rpK at h ⊢
    by_cases h1 : (rtK tx tn ax).1 = true
    · rw [if_pos h1] at h ⊢
      by_cases h2 : hrB tx tn (rtK tx tn ax).2.1 97 122 = true
      · rw [if_pos h2]
        obtain ⟨u, hu1, hu2, hu3⟩ := i32_box (a := 97) (b := 122) rfl rfl (by decide) (hrB_in h2) (by decide)
        exact ⟨u - 97, by omega, by show tx _ - 97 = _; rw [hu3]; exact pk_sub (a := u) (b := 97) (by omega)⟩
      · rw [if_neg h2] at h
        by_cases h3 : ob = true
        · rw [if_pos h3] at h
          by_cases h4 : nI (rtK tx tn ax).2.1 ≤ nI ax
          · rw [if_pos h4] at h; exact absurd rfl h
          · rw [if_neg h4] at h
            by_cases h5 : hrB tx tn (rtK tx tn ax).2.1 40 40 = true
            · rw [if_pos h5] at h; exact absurd rfl h
            · rw [if_neg h5] at h; exact absurd rfl h
        · rw [if_neg h3] at h; exact absurd rfl h
    · rw [if_neg h1] at h; exact absurd rfl h
  obtain ⟨j, h1, h2⟩ := key
  rw [h2, nI_clamp (by omega)]
  exact ⟨rfl, h1⟩
/-- the reference's song is heard -/
def sgX (tx : Nat → Int32) (tn : Nat) : Nat → Int32 → Nat → Nat → (Nat → Int32) → Int32 → Int32 → Option ((Nat → Int32) × Nat × Int32 × Int32)
  | 0, _, _, _, _, _, _ => none
  | n + 1, ag, bk, a, al, ti, pp => if nI tn ≤ nI a then some (al, a, ti, pp) else if (if ag ≤ 0 then false else hrB tx tn a 41 41) then (if ag + -1 ≤ 0 then sgX tx tn n (ag + -1) bk (a + 1) al ti pp else sgX tx tn n (ag + -1) bk bk al ti pp) else if (rpK tx tn a (decide (ag = 0))).2.2.2 = -1 then sgX tx tn n (rpK tx tn a (decide (ag = 0))).2.2.1 (rpK tx tn a (decide (ag = 0))).2.1 (rpK tx tn a (decide (ag = 0))).2.1 al (rpK tx tn a (decide (ag = 0))).2.2.1 (rpK tx tn a (decide (ag = 0))).2.2.2 else sgX tx tn n ag bk (rpK tx tn a (decide (ag = 0))).2.1 (heR al (rpK tx tn a (decide (ag = 0))).2.2.2.toNatClampNeg (rpK tx tn a (decide (ag = 0))).2.2.1.toNatClampNeg) (rpK tx tn a (decide (ag = 0))).2.2.1 (rpK tx tn a (decide (ag = 0))).2.2.2
abbrev rX9_sings : Room := { frames := 4, cells := 0, slots := 0, locals := 89 }
set_option maxHeartbeats 4000000 in
set_option maxRecDepth 100000 in
theorem c_X9_sings (l : Launch) (D : va_G) (T : Nat → ClassId) (mo ma mh mk mz mt : Nat) (al tx : Nat → Int32) (hn : Nat) (th : Int32) (tn ax : Nat) (sc ti pp : Int32) (cp N : Nat) (TT : (Nat → Int32) × Nat × Int32 × Int32) (htn : tn ≤ 60) (hcp : al 264 = nI cp) (hcp9 : cp < 1000) (hT : sgX tx tn N 0 0 0 al ti pp = some TT) : kM l D T yX9_sings wsX9_sings rX9_sings [.ref mo] [oMo mo ma mh (nI hn) th mk mz mt (nI tn) (nI ax) sc ti pp, aI T ma 266 al, aI T mt 60 tx] none [oMo mo ma mh (nI hn) th mk mz mt (nI tn) (nI TT.2.1) sc TT.2.2.1 TT.2.2.2, aI T ma 266 TT.1, aI T mt 60 tx] := by
  refine kM.of (cc := cX9_sings) (maxL := 5) (ret := none) (by decide) rfl (Nat.le_of_ble_eq_true rfl) ?_
  intro p e s m below meth c A Q ls hx hb hml hown hr hlk hts hC hP hD hS hA hl hret
  have iX9 : ∀ w ∈ wsX90, w ∈ wsX9_sings := (fun _ h => List.mem_cons_of_mem _ (List.mem_append_right _ h))
  have loop_110 : ∀ (ag : Int32) (bk a : Nat) (ad : Nat → Int32) (te pq : Int32), te = nI te.toNatClampNeg → (pq = nI pq.toNatClampNeg ∧ pq.toNatClampNeg < 26) → ¬ pq = -1 → ad 264 = nI cp → ∀ (n j : Nat), j + n = te.toNatClampNeg → ∀ (H : Heap) (locs : List Loc) (ls : Array Slot), (∀ (H : Heap) (locs : List Loc) (ls : Array Slot), va_P D vwCl [oMo mo ma mh (nI hn) th mk mz mt (nI tn) (nI a) sc te pq, aI T ma 266 (heR ad pq.toNatClampNeg te.toNatClampNeg), aI T mt 60 tx] H → va_D A [oMo mo ma mh (nI hn) th mk mz mt (nI tn) (nI a) sc te pq, aI T ma 266 (heR ad pq.toNatClampNeg te.toNatClampNeg), aI T mt 60 tx] → va_S A s.heap H locs → lv_has ls 5 [(1, .int ag), (2, .int (nI bk)), (0, .ref mo)] → W p l e rX9_sings s m [.ref mo].toArray below meth c H locs 0 0 Q (F0 m 141 ls [])) → va_P D vwCl [oMo mo ma mh (nI hn) th mk mz mt (nI tn) (nI a) sc te pq, aI T ma 266 (heR ad pq.toNatClampNeg j), aI T mt 60 tx] H → va_D A [oMo mo ma mh (nI hn) th mk mz mt (nI tn) (nI a) sc te pq, aI T ma 266 (heR ad pq.toNatClampNeg j), aI T mt 60 tx] → va_S A s.heap H locs → lv_has ls 5 [(4, .int (nI j)), (1, .int ag), (2, .int (nI bk)), (0, .ref mo)] → W p l e rX9_sings s m [.ref mo].toArray below meth c H locs 0 0 Q (F0 m 110 ls []) := by
    intro ag bk a ad te pq hte hpq hpn hcd n
    induction n with
    | zero =>
      intro j hi  H locs ls hk hP hD hS hl
      have hi9 : te.toNatClampNeg = j := by omega
      subst hi9
      refine lv_iload hx hb dX9_sings_110 (lv_at hl 0 rfl) ?_
      refine lv_aload_n hx hb dX9_sings_112 rfl (lv_at hl 3 rfl) ?_
      refine va_get (D := D) (ci := 8) (v := .int te) (C := RX9) (T := TX9) (N := 12) hx hb hts iX9 hown hC.1 hP 0 rfl rfl 10 (by decide) (hts (.fieldLink RX9 112 "ParrotCountsModel" "times" "I") (List.mem_of_getElem? (i := 4) rfl)) (fun _ h => h) rfl dX9_sings_113 ?_
      refine W.eq (g2 := F0 m 116 ls (.int (nI te.toNatClampNeg) :: [.int (nI te.toNatClampNeg)])) (congrArg (fun z => F0 m 116 ls (.int z :: [.int (nI te.toNatClampNeg)])) (hte : (te : Int32) = nI te.toNatClampNeg)) ?_
      refine lv_icmp_ge (tgt := 141) hx hb dX9_sings_116 (by decide) (fun _ => ?_) (fun c_x => absurd (Int32.le_refl _) c_x)
      have hl : lv_has ls 5 [(1, .int ag), (2, .int (nI bk)), (0, .ref mo)] := lv_sub hl [1, 2, 3] (by rfl)
      exact hk _ _ _ hP hD hS hl
    | succ n ih =>
      intro j hi  H locs ls hk hP hD hS hl
      have hlt : j < te.toNatClampNeg := by omega
      refine lv_iload hx hb dX9_sings_110 (lv_at hl 0 rfl) ?_
      refine lv_aload_n hx hb dX9_sings_112 rfl (lv_at hl 3 rfl) ?_
      refine va_get (D := D) (ci := 8) (v := .int te) (C := RX9) (T := TX9) (N := 12) hx hb hts iX9 hown hC.1 hP 0 rfl rfl 10 (by decide) (hts (.fieldLink RX9 112 "ParrotCountsModel" "times" "I") (List.mem_of_getElem? (i := 4) rfl)) (fun _ h => h) rfl dX9_sings_113 ?_
      refine W.eq (g2 := F0 m 116 ls (.int (nI te.toNatClampNeg) :: [.int (nI j)])) (congrArg (fun z => F0 m 116 ls (.int z :: [.int (nI j)])) (hte : (te : Int32) = nI te.toNatClampNeg)) ?_
      refine lv_icmp_ge (tgt := 141) hx hb dX9_sings_116 (by decide) (fun c_x => absurd c_x (nI_ge (b := te.toNatClampNeg) hlt (by have := clamp_lt te; omega))) (fun _ => ?_)
      refine lv_aload_n hx hb dX9_sings_119 rfl (lv_at hl 3 rfl) ?_
      refine va_get (D := D) (ci := 8) (v := .int pq) (C := RX9) (T := TX9) (N := 12) hx hb hts iX9 hown hC.1 hP 0 rfl rfl 11 (by decide) (hts (.fieldLink RX9 119 "ParrotCountsModel" "parrot" "I") (List.mem_of_getElem? (i := 3) rfl)) (fun _ h => h) rfl dX9_sings_120 ?_
      refine lv_iconst (v := (-1)) hx hb dX9_sings_123 (by decide) ?_
      refine lv_icmp_eq (tgt := 141) hx hb dX9_sings_124 (by decide) (fun c_x => absurd c_x hpn) (fun _ => ?_)
      refine lv_aload_n hx hb dX9_sings_127 rfl (lv_at hl 3 rfl) ?_
      refine lv_aload_n hx hb dX9_sings_128 rfl (lv_at hl 3 rfl) ?_
      refine va_get (D := D) (ci := 8) (v := .int pq) (C := RX9) (T := TX9) (N := 12) hx hb hts iX9 hown hC.1 hP 0 rfl rfl 11 (by decide) (hts (.fieldLink RX9 119 "ParrotCountsModel" "parrot" "I") (List.mem_of_getElem? (i := 3) rfl)) (fun _ h => h) rfl dX9_sings_129 ?_
      refine W.eq (g2 := F0 m 132 ls (.int (nI pq.toNatClampNeg) :: [.ref mo])) (congrArg (fun z => F0 m 132 ls (.int z :: [.ref mo])) (hpq.1 : (pq : Int32) = nI pq.toNatClampNeg)) ?_
      have hP := hP.sub (ws' := [oMo mo ma mh (nI hn) th mk mz mt (nI tn) (nI a) sc te pq, aI T ma 266 (heR ad pq.toNatClampNeg j)] ++ [aI T mt 60 tx]) [0, 1, 2] rfl
      have hD := hD.sub (ws' := [oMo mo ma mh (nI hn) th mk mz mt (nI tn) (nI a) sc te pq, aI T ma 266 (heR ad pq.toNatClampNeg j)] ++ [aI T mt 60 tx]) [0, 1, 2] (by decide) rfl
      refine kV (ci := 8) (As := [.int (nI pq.toNatClampNeg)]) (rest := []) ⟨hx, hb, hml, hown, hts⟩ (c_X9_hears l D T mo ma mh mk mz mt (heR ad pq.toNatClampNeg j) hn th tn a sc te pq cp pq.toNatClampNeg hpq.2 (by rw [heR_264 hpq.2]; exact hcd) (by first | omega | assumption)) (cwV 1 hts gX9_sings_X9_hears rfl rfl rfl (by decide +kernel) ⟨Nat.le_of_ble_eq_true rfl, Nat.le_of_ble_eq_true rfl⟩) hC hP hD hS hA rfl rfl rfl hl.1 rfl (Nat.le_of_ble_eq_true rfl) dX9_sings_132 ⟨Nat.zero_le _, Nat.zero_le _⟩ (fun H locs hP hD hS => ?_)
      have hP : va_P D vwCl [oMo mo ma mh (nI hn) th mk mz mt (nI tn) (nI a) sc te pq, aI T ma 266 (heM (heR ad pq.toNatClampNeg j) pq.toNatClampNeg), aI T mt 60 tx] H := hP
      have hD : va_D A [oMo mo ma mh (nI hn) th mk mz mt (nI tn) (nI a) sc te pq, aI T ma 266 (heM (heR ad pq.toNatClampNeg j) pq.toNatClampNeg), aI T mt 60 tx] := hD
      refine W.eq (g2 := F0 m 135 ls []) rfl ?_
      refine lv_iinc (v := nI (j + 1)) (lv' := [(4, .int (nI (j + 1))), (1, .int ag), (2, .int (nI bk)), (0, .ref mo)]) hx hb dX9_sings_135 hl (k := 0) rfl (nI_1 j) (by decide) rfl (fun ls hl => ?_)
      refine lv_goto (tgt := 110) hx hb dX9_sings_138 (by decide) ?_
      have e_1 : heM (heR ad pq.toNatClampNeg j) pq.toNatClampNeg = heR ad pq.toNatClampNeg (j + 1) := by rw [heR]
      have eW := congrArg (fun zZ => ([oMo mo ma mh (nI hn) th mk mz mt (nI tn) (nI a) sc te pq, aI T ma 266 zZ, aI T mt 60 tx] : va_W)) e_1
      have hP : va_P D vwCl [oMo mo ma mh (nI hn) th mk mz mt (nI tn) (nI a) sc te pq, aI T ma 266 (heR ad pq.toNatClampNeg (j + 1)), aI T mt 60 tx] _ := Eq.subst (motive := fun w => va_P D vwCl w _) eW hP
      have hD : va_D A [oMo mo ma mh (nI hn) th mk mz mt (nI tn) (nI a) sc te pq, aI T ma 266 (heR ad pq.toNatClampNeg (j + 1)), aI T mt 60 tx] := Eq.subst (motive := fun w => va_D A w) eW hD
      have hl : lv_has ls 5 [(4, .int (nI (j + 1))), (1, .int ag), (2, .int (nI bk)), (0, .ref mo)] := lv_sub hl [0, 1, 2, 3] (by rfl)
      exact ih (j + 1) (by omega)  _ _ _ hk hP hD hS hl
  have loops : ∀ n : Nat, (∀ (ag : Int32) (bk : Nat) (a : Nat) (ad : Nat → Int32) (te : Int32) (pq : Int32), a ≤ 60 → bk ≤ 60 → ad 264 = nI cp → sgX tx tn n ag bk a ad te pq = some TT → ∀ (H : Heap) (locs : List Loc) (ls : Array Slot), va_P D vwCl [oMo mo ma mh (nI hn) th mk mz mt (nI tn) (nI a) sc te pq, aI T ma 266 ad, aI T mt 60 tx] H → va_D A [oMo mo ma mh (nI hn) th mk mz mt (nI tn) (nI a) sc te pq, aI T ma 266 ad, aI T mt 60 tx] → va_S A s.heap H locs → lv_has ls 5 [(1, .int ag), (2, .int (nI bk)), (0, .ref mo)] → W p l e rX9_sings s m [.ref mo].toArray below meth c H locs 0 0 Q (F0 m 9 ls [])) := by
    intro n
    induction n with
    | zero =>
      skip
      · intro ag bk a ad te pq ha hbk hcd hv; rw [sgX] at hv; cases hv
    | succ n ih =>
      skip
      · intro ag bk a ad te pq ha hbk hcd hv H locs ls hP hD hS hl
        refine lv_aload_n hx hb dX9_sings_9 rfl (lv_at hl 2 rfl) ?_
        refine va_get (D := D) (ci := 8) (v := .int (nI a)) (C := RX9) (T := TX9) (N := 12) hx hb hts iX9 hown hC.1 hP 0 rfl rfl 8 (by decide) (hts (.fieldLink RX9 109 "ParrotCountsModel" "at" "I") (List.mem_of_getElem? (i := 1) rfl)) (fun _ h => h) rfl dX9_sings_10 ?_
        refine lv_aload_n hx hb dX9_sings_13 rfl (lv_at hl 2 rfl) ?_
        refine va_get (D := D) (ci := 8) (v := .int (nI tn)) (C := RX9) (T := TX9) (N := 12) hx hb hts iX9 hown hC.1 hP 0 rfl rfl 7 (by decide) (hts (.fieldLink RX9 106 "ParrotCountsModel" "textLong" "I") (List.mem_of_getElem? (i := 2) rfl)) (fun _ h => h) rfl dX9_sings_14 ?_
        refine lv_icmp_ge (tgt := 144) hx hb dX9_sings_17 (by decide) (fun c17 => ?_) (fun c17 => ?_)
        · have e_2 : nI a = nI TT.2.1 := by have hv := hv; simp [sgX, c17] at hv; rw [← hv]
          have e_3 : te = TT.2.2.1 := by have hv := hv; simp [sgX, c17] at hv; rw [← hv]
          have e_4 : pq = TT.2.2.2 := by have hv := hv; simp [sgX, c17] at hv; rw [← hv]
          have e_5 : ad = TT.1 := by have hv := hv; simp [sgX, c17] at hv; rw [← hv]
          have eW := (congrArg (fun zZ => ([oMo mo ma mh (nI hn) th mk mz mt (nI tn) zZ sc te pq, aI T ma 266 ad, aI T mt 60 tx] : va_W)) e_2).trans ((congrArg (fun zZ => ([oMo mo ma mh (nI hn) th mk mz mt (nI tn) (nI TT.2.1) sc zZ pq, aI T ma 266 ad, aI T mt 60 tx] : va_W)) e_3).trans ((congrArg (fun zZ => ([oMo mo ma mh (nI hn) th mk mz mt (nI tn) (nI TT.2.1) sc TT.2.2.1 zZ, aI T ma 266 ad, aI T mt 60 tx] : va_W)) e_4).trans (congrArg (fun zZ => ([oMo mo ma mh (nI hn) th mk mz mt (nI tn) (nI TT.2.1) sc TT.2.2.1 TT.2.2.2, aI T ma 266 zZ, aI T mt 60 tx] : va_W)) e_5)))
          have hP : va_P D vwCl [oMo mo ma mh (nI hn) th mk mz mt (nI tn) (nI TT.2.1) sc TT.2.2.1 TT.2.2.2, aI T ma 266 TT.1, aI T mt 60 tx] _ := Eq.subst (motive := fun w => va_P D vwCl w _) eW hP
          have hD : va_D A [oMo mo ma mh (nI hn) th mk mz mt (nI tn) (nI TT.2.1) sc TT.2.2.1 TT.2.2.2, aI T ma 266 TT.1, aI T mt 60 tx] := Eq.subst (motive := fun w => va_D A w) eW hD
          exact hret _ _ _ _ _ (fun Qc free hq hf => W.vret hx hb hr hq hf dX9_sings_144 hlk) hP hD hS
        · refine lv_iload_n hx hb dX9_sings_20 rfl (lv_at hl 0 rfl) ?_
          refine lv_if_le (tgt := 59) hx hb dX9_sings_21 (by decide) (fun c21 => ?_) (fun c21 => ?_)
          · refine lv_aload_n hx hb dX9_sings_59 rfl (lv_at hl 2 rfl) ?_
            refine lv_iload_n hx hb dX9_sings_60 rfl (lv_at hl 0 rfl) ?_
            refine lv_if_ne (tgt := 68) hx hb dX9_sings_61 (by decide) (fun c61 => ?_) (fun c61 => ?_)
            · refine lv_iconst (v := 0) hx hb dX9_sings_68 (by decide) ?_
              have hP := hP.sub (ws' := [oMo mo ma mh (nI hn) th mk mz mt (nI tn) (nI a) sc te pq, aI T mt 60 tx] ++ [aI T ma 266 ad]) [0, 2, 1] rfl
              have hD := hD.sub (ws' := [oMo mo ma mh (nI hn) th mk mz mt (nI tn) (nI a) sc te pq, aI T mt 60 tx] ++ [aI T ma 266 ad]) [0, 2, 1] (by decide) rfl
              refine kV (ci := 8) (As := [.int 0]) (rest := []) ⟨hx, hb, hml, hown, hts⟩ (c_X9_readsPhrase l D T mo ma mh mk mz mt tx hn th tn a sc te pq false (by first | omega | assumption) (by first | omega | assumption)) (cwV 1 hts gX9_sings_X9_readsPhrase rfl rfl rfl (by decide +kernel) ⟨Nat.le_of_ble_eq_true rfl, Nat.le_of_ble_eq_true rfl⟩) hC hP hD hS hA rfl rfl rfl hl.1 rfl (Nat.le_of_ble_eq_true rfl) dX9_sings_69 ⟨Nat.zero_le _, Nat.zero_le _⟩ (fun H locs hP hD hS => ?_)
              have hP := hP.sub (ws' := [oMo mo ma mh (nI hn) th mk mz mt (nI tn) (nI (rpK tx tn a false).2.1) sc (rpK tx tn a false).2.2.1 (rpK tx tn a false).2.2.2, aI T ma 266 ad, aI T mt 60 tx]) [0, 2, 1] rfl
              have hD := hD.sub (ws' := [oMo mo ma mh (nI hn) th mk mz mt (nI tn) (nI (rpK tx tn a false).2.1) sc (rpK tx tn a false).2.2.1 (rpK tx tn a false).2.2.2, aI T ma 266 ad, aI T mt 60 tx]) [0, 2, 1] (by decide) rfl
              refine W.eq (g2 := F0 m 72 ls [.int (bI (rpK tx tn a false).1)]) rfl ?_
              refine lv_istore_n (lv' := [(3, .int (bI (rpK tx tn a false).1)), (1, .int ag), (2, .int (nI bk)), (0, .ref mo)]) hx hb dX9_sings_72 rfl hl (by decide) rfl (fun ls hl => ?_)
              refine lv_aload_n hx hb dX9_sings_73 rfl (lv_at hl 3 rfl) ?_
              refine va_get (D := D) (ci := 8) (v := .int (rpK tx tn a false).2.2.2) (C := RX9) (T := TX9) (N := 12) hx hb hts iX9 hown hC.1 hP 0 rfl rfl 11 (by decide) (hts (.fieldLink RX9 119 "ParrotCountsModel" "parrot" "I") (List.mem_of_getElem? (i := 3) rfl)) (fun _ h => h) rfl dX9_sings_74 ?_
              refine lv_iconst (v := (-1)) hx hb dX9_sings_77 (by decide) ?_
              refine lv_icmp_ne (tgt := 88) hx hb dX9_sings_78 (by decide) (fun c78 => ?_) (fun c78 => ?_)
              · refine lv_iload_n hx hb dX9_sings_88 rfl (lv_at hl 1 rfl) ?_
                refine lv_istore_n (lv' := [(1, .int ag), (3, .int (bI (rpK tx tn a false).1)), (2, .int (nI bk)), (0, .ref mo)]) hx hb dX9_sings_89 rfl hl (by decide) rfl (fun ls hl => ?_)
                refine lv_aload_n hx hb dX9_sings_90 rfl (lv_at hl 3 rfl) ?_
                refine va_get (D := D) (ci := 8) (v := .int (rpK tx tn a false).2.2.2) (C := RX9) (T := TX9) (N := 12) hx hb hts iX9 hown hC.1 hP 0 rfl rfl 11 (by decide) (hts (.fieldLink RX9 119 "ParrotCountsModel" "parrot" "I") (List.mem_of_getElem? (i := 3) rfl)) (fun _ h => h) rfl dX9_sings_91 ?_
                refine lv_iconst (v := (-1)) hx hb dX9_sings_94 (by decide) ?_
                refine lv_icmp_ne (tgt := 105) hx hb dX9_sings_95 (by decide) (fun _ => ?_) (fun c_x => absurd c_x c78)
                refine lv_iload_n hx hb dX9_sings_105 rfl (lv_at hl 2 rfl) ?_
                refine lv_istore_n (lv' := [(2, .int (nI bk)), (1, .int ag), (3, .int (bI (rpK tx tn a false).1)), (0, .ref mo)]) hx hb dX9_sings_106 rfl hl (by decide) rfl (fun ls hl => ?_)
                refine lv_iconst (v := 0) hx hb dX9_sings_107 (by decide) ?_
                refine lv_istore (lv' := [(4, .int 0), (2, .int (nI bk)), (1, .int ag), (3, .int (bI (rpK tx tn a false).1)), (0, .ref mo)]) hx hb dX9_sings_108 hl (by decide) rfl (fun ls hl => ?_)
                have e_6 : ad = heR ad (rpK tx tn a false).2.2.2.toNatClampNeg 0 := rfl
                have eW := congrArg (fun zZ => ([oMo mo ma mh (nI hn) th mk mz mt (nI tn) (nI (rpK tx tn a false).2.1) sc (rpK tx tn a false).2.2.1 (rpK tx tn a false).2.2.2, aI T ma 266 zZ, aI T mt 60 tx] : va_W)) e_6
                have hP : va_P D vwCl [oMo mo ma mh (nI hn) th mk mz mt (nI tn) (nI (rpK tx tn a false).2.1) sc (rpK tx tn a false).2.2.1 (rpK tx tn a false).2.2.2, aI T ma 266 (heR ad (rpK tx tn a false).2.2.2.toNatClampNeg 0), aI T mt 60 tx] _ := Eq.subst (motive := fun w => va_P D vwCl w _) eW hP
                have hD : va_D A [oMo mo ma mh (nI hn) th mk mz mt (nI tn) (nI (rpK tx tn a false).2.1) sc (rpK tx tn a false).2.2.1 (rpK tx tn a false).2.2.2, aI T ma 266 (heR ad (rpK tx tn a false).2.2.2.toNatClampNeg 0), aI T mt 60 tx] := Eq.subst (motive := fun w => va_D A w) eW hD
                have e_7 : (0 : Int32) = nI 0 := rfl
                have hl : lv_has ls 5 [(4, .int (nI 0)), (1, .int ag), (2, .int (nI bk)), (0, .ref mo)] := lv_sub hl [0, 2, 1, 4] (by show (_ : List (Nat × Value)) = [(4, .int (nI 0)), (1, .int ag), (2, .int (nI bk)), (0, .ref mo)]; rw [← e_7]; rfl)
                refine loop_110 ag bk (rpK tx tn a false).2.1 ad (rpK tx tn a false).2.2.1 (rpK tx tn a false).2.2.2 rpK_tc (rpK_pc c78) c78 hcd (rpK tx tn a false).2.2.1.toNatClampNeg 0 (by omega)  _ _ _ ?_ hP hD hS hl
                intro H locs ls hP hD hS hl
                refine lv_goto (tgt := 9) hx hb dX9_sings_141 (by decide) ?_
                have hl : lv_has ls 5 [(1, .int ag), (2, .int (nI bk)), (0, .ref mo)] := lv_sub hl [0, 1, 2] (by rfl)
                exact ih ag bk (rpK tx tn a false).2.1 (heR ad (rpK tx tn a false).2.2.2.toNatClampNeg (rpK tx tn a false).2.2.1.toNatClampNeg) (rpK tx tn a false).2.2.1 (rpK tx tn a false).2.2.2 (by first | assumption | omega | exact rpK_le htn ha | (have := hr_lt htn ha c32; omega)) (by first | assumption | omega | exact rpK_le htn ha | (have := hr_lt htn ha c32; omega)) (by first | exact hcd | exact (heR_264 (rpK_pc c78).2 _).trans hcd) (by first | (rw [sgX, if_neg c17, if_pos (show (if ag ≤ 0 then false else hrB tx tn a 41 41) = true from by rw [if_neg c21]; exact c32), if_pos c40] at hv; exact hv) | (rw [sgX, if_neg c17, if_pos (show (if ag ≤ 0 then false else hrB tx tn a 41 41) = true from by rw [if_neg c21]; exact c32), if_neg c40] at hv; exact hv) | simpa [sgX, c17, c21, c61, c78] using hv) _ _ _ hP hD hS hl
              · refine lv_aload_n hx hb dX9_sings_81 rfl (lv_at hl 3 rfl) ?_
                refine va_get (D := D) (ci := 8) (v := .int (rpK tx tn a false).2.2.1) (C := RX9) (T := TX9) (N := 12) hx hb hts iX9 hown hC.1 hP 0 rfl rfl 10 (by decide) (hts (.fieldLink RX9 112 "ParrotCountsModel" "times" "I") (List.mem_of_getElem? (i := 4) rfl)) (fun _ h => h) rfl dX9_sings_82 ?_
                refine lv_goto (tgt := 89) hx hb dX9_sings_85 (by decide) ?_
                refine lv_istore_n (lv' := [(1, .int (rpK tx tn a false).2.2.1), (3, .int (bI (rpK tx tn a false).1)), (2, .int (nI bk)), (0, .ref mo)]) hx hb dX9_sings_89 rfl hl (by decide) rfl (fun ls hl => ?_)
                refine lv_aload_n hx hb dX9_sings_90 rfl (lv_at hl 3 rfl) ?_
                refine va_get (D := D) (ci := 8) (v := .int (rpK tx tn a false).2.2.2) (C := RX9) (T := TX9) (N := 12) hx hb hts iX9 hown hC.1 hP 0 rfl rfl 11 (by decide) (hts (.fieldLink RX9 119 "ParrotCountsModel" "parrot" "I") (List.mem_of_getElem? (i := 3) rfl)) (fun _ h => h) rfl dX9_sings_91 ?_
                refine lv_iconst (v := (-1)) hx hb dX9_sings_94 (by decide) ?_
                refine lv_icmp_ne (tgt := 105) hx hb dX9_sings_95 (by decide) (fun c_x => absurd c78 c_x) (fun _ => ?_)
                refine lv_aload_n hx hb dX9_sings_98 rfl (lv_at hl 3 rfl) ?_
                refine va_get (D := D) (ci := 8) (v := .int (nI (rpK tx tn a false).2.1)) (C := RX9) (T := TX9) (N := 12) hx hb hts iX9 hown hC.1 hP 0 rfl rfl 8 (by decide) (hts (.fieldLink RX9 109 "ParrotCountsModel" "at" "I") (List.mem_of_getElem? (i := 1) rfl)) (fun _ h => h) rfl dX9_sings_99 ?_
                refine lv_goto (tgt := 106) hx hb dX9_sings_102 (by decide) ?_
                refine lv_istore_n (lv' := [(2, .int (nI (rpK tx tn a false).2.1)), (1, .int (rpK tx tn a false).2.2.1), (3, .int (bI (rpK tx tn a false).1)), (0, .ref mo)]) hx hb dX9_sings_106 rfl hl (by decide) rfl (fun ls hl => ?_)
                refine lv_iconst (v := 0) hx hb dX9_sings_107 (by decide) ?_
                refine lv_istore (lv' := [(4, .int 0), (2, .int (nI (rpK tx tn a false).2.1)), (1, .int (rpK tx tn a false).2.2.1), (3, .int (bI (rpK tx tn a false).1)), (0, .ref mo)]) hx hb dX9_sings_108 hl (by decide) rfl (fun ls hl => ?_)
                refine lv_iload hx hb dX9_sings_110 (lv_at hl 0 rfl) ?_
                refine lv_aload_n hx hb dX9_sings_112 rfl (lv_at hl 4 rfl) ?_
                refine va_get (D := D) (ci := 8) (v := .int (rpK tx tn a false).2.2.1) (C := RX9) (T := TX9) (N := 12) hx hb hts iX9 hown hC.1 hP 0 rfl rfl 10 (by decide) (hts (.fieldLink RX9 112 "ParrotCountsModel" "times" "I") (List.mem_of_getElem? (i := 4) rfl)) (fun _ h => h) rfl dX9_sings_113 ?_
                refine lv_icmp_ge (tgt := 141) hx hb dX9_sings_116 (by decide) (fun c116 => ?_) (fun c116 => ?_)
                · refine lv_goto (tgt := 9) hx hb dX9_sings_141 (by decide) ?_
                  have hl : lv_has ls 5 [(1, .int (rpK tx tn a false).2.2.1), (2, .int (nI (rpK tx tn a false).2.1)), (0, .ref mo)] := lv_sub hl [2, 1, 4] (by rfl)
                  exact ih (rpK tx tn a false).2.2.1 (rpK tx tn a false).2.1 (rpK tx tn a false).2.1 ad (rpK tx tn a false).2.2.1 (rpK tx tn a false).2.2.2 (by first | assumption | omega | exact rpK_le htn ha | (have := hr_lt htn ha c32; omega)) (by first | assumption | omega | exact rpK_le htn ha | (have := hr_lt htn ha c32; omega)) (by first | exact hcd | exact (heR_264 (rpK_pc c78).2 _).trans hcd) (by first | (rw [sgX, if_neg c17, if_pos (show (if ag ≤ 0 then false else hrB tx tn a 41 41) = true from by rw [if_neg c21]; exact c32), if_pos c40] at hv; exact hv) | (rw [sgX, if_neg c17, if_pos (show (if ag ≤ 0 then false else hrB tx tn a 41 41) = true from by rw [if_neg c21]; exact c32), if_neg c40] at hv; exact hv) | simpa [sgX, c17, c21, c61, eq_true c78, c116] using hv) _ _ _ hP hD hS hl
                · refine lv_aload_n hx hb dX9_sings_119 rfl (lv_at hl 4 rfl) ?_
                  refine va_get (D := D) (ci := 8) (v := .int (rpK tx tn a false).2.2.2) (C := RX9) (T := TX9) (N := 12) hx hb hts iX9 hown hC.1 hP 0 rfl rfl 11 (by decide) (hts (.fieldLink RX9 119 "ParrotCountsModel" "parrot" "I") (List.mem_of_getElem? (i := 3) rfl)) (fun _ h => h) rfl dX9_sings_120 ?_
                  refine lv_iconst (v := (-1)) hx hb dX9_sings_123 (by decide) ?_
                  refine lv_icmp_eq (tgt := 141) hx hb dX9_sings_124 (by decide) (fun _ => ?_) (fun c_x => absurd c78 c_x)
                  refine lv_goto (tgt := 9) hx hb dX9_sings_141 (by decide) ?_
                  have hl : lv_has ls 5 [(1, .int (rpK tx tn a false).2.2.1), (2, .int (nI (rpK tx tn a false).2.1)), (0, .ref mo)] := lv_sub hl [2, 1, 4] (by rfl)
                  exact ih (rpK tx tn a false).2.2.1 (rpK tx tn a false).2.1 (rpK tx tn a false).2.1 ad (rpK tx tn a false).2.2.1 (rpK tx tn a false).2.2.2 (by first | assumption | omega | exact rpK_le htn ha | (have := hr_lt htn ha c32; omega)) (by first | assumption | omega | exact rpK_le htn ha | (have := hr_lt htn ha c32; omega)) (by first | exact hcd | exact (heR_264 (rpK_pc c78).2 _).trans hcd) (by first | (rw [sgX, if_neg c17, if_pos (show (if ag ≤ 0 then false else hrB tx tn a 41 41) = true from by rw [if_neg c21]; exact c32), if_pos c40] at hv; exact hv) | (rw [sgX, if_neg c17, if_pos (show (if ag ≤ 0 then false else hrB tx tn a 41 41) = true from by rw [if_neg c21]; exact c32), if_neg c40] at hv; exact hv) | simpa [sgX, c17, c21, c61, eq_true c78, c116] using hv) _ _ _ hP hD hS hl
            · refine lv_iconst (v := 1) hx hb dX9_sings_64 (by decide) ?_
              refine lv_goto (tgt := 69) hx hb dX9_sings_65 (by decide) ?_
              have hP := hP.sub (ws' := [oMo mo ma mh (nI hn) th mk mz mt (nI tn) (nI a) sc te pq, aI T mt 60 tx] ++ [aI T ma 266 ad]) [0, 2, 1] rfl
              have hD := hD.sub (ws' := [oMo mo ma mh (nI hn) th mk mz mt (nI tn) (nI a) sc te pq, aI T mt 60 tx] ++ [aI T ma 266 ad]) [0, 2, 1] (by decide) rfl
              refine kV (ci := 8) (As := [.int 1]) (rest := []) ⟨hx, hb, hml, hown, hts⟩ (c_X9_readsPhrase l D T mo ma mh mk mz mt tx hn th tn a sc te pq true (by first | omega | assumption) (by first | omega | assumption)) (cwV 1 hts gX9_sings_X9_readsPhrase rfl rfl rfl (by decide +kernel) ⟨Nat.le_of_ble_eq_true rfl, Nat.le_of_ble_eq_true rfl⟩) hC hP hD hS hA rfl rfl rfl hl.1 rfl (Nat.le_of_ble_eq_true rfl) dX9_sings_69 ⟨Nat.zero_le _, Nat.zero_le _⟩ (fun H locs hP hD hS => ?_)
              have hP := hP.sub (ws' := [oMo mo ma mh (nI hn) th mk mz mt (nI tn) (nI (rpK tx tn a true).2.1) sc (rpK tx tn a true).2.2.1 (rpK tx tn a true).2.2.2, aI T ma 266 ad, aI T mt 60 tx]) [0, 2, 1] rfl
              have hD := hD.sub (ws' := [oMo mo ma mh (nI hn) th mk mz mt (nI tn) (nI (rpK tx tn a true).2.1) sc (rpK tx tn a true).2.2.1 (rpK tx tn a true).2.2.2, aI T ma 266 ad, aI T mt 60 tx]) [0, 2, 1] (by decide) rfl
              refine W.eq (g2 := F0 m 72 ls [.int (bI (rpK tx tn a true).1)]) rfl ?_
              refine lv_istore_n (lv' := [(3, .int (bI (rpK tx tn a true).1)), (1, .int ag), (2, .int (nI bk)), (0, .ref mo)]) hx hb dX9_sings_72 rfl hl (by decide) rfl (fun ls hl => ?_)
              refine lv_aload_n hx hb dX9_sings_73 rfl (lv_at hl 3 rfl) ?_
              refine va_get (D := D) (ci := 8) (v := .int (rpK tx tn a true).2.2.2) (C := RX9) (T := TX9) (N := 12) hx hb hts iX9 hown hC.1 hP 0 rfl rfl 11 (by decide) (hts (.fieldLink RX9 119 "ParrotCountsModel" "parrot" "I") (List.mem_of_getElem? (i := 3) rfl)) (fun _ h => h) rfl dX9_sings_74 ?_
              refine lv_iconst (v := (-1)) hx hb dX9_sings_77 (by decide) ?_
              refine lv_icmp_ne (tgt := 88) hx hb dX9_sings_78 (by decide) (fun c78 => ?_) (fun c78 => ?_)
              · refine lv_iload_n hx hb dX9_sings_88 rfl (lv_at hl 1 rfl) ?_
                refine lv_istore_n (lv' := [(1, .int ag), (3, .int (bI (rpK tx tn a true).1)), (2, .int (nI bk)), (0, .ref mo)]) hx hb dX9_sings_89 rfl hl (by decide) rfl (fun ls hl => ?_)
                refine lv_aload_n hx hb dX9_sings_90 rfl (lv_at hl 3 rfl) ?_
                refine va_get (D := D) (ci := 8) (v := .int (rpK tx tn a true).2.2.2) (C := RX9) (T := TX9) (N := 12) hx hb hts iX9 hown hC.1 hP 0 rfl rfl 11 (by decide) (hts (.fieldLink RX9 119 "ParrotCountsModel" "parrot" "I") (List.mem_of_getElem? (i := 3) rfl)) (fun _ h => h) rfl dX9_sings_91 ?_
                refine lv_iconst (v := (-1)) hx hb dX9_sings_94 (by decide) ?_
                refine lv_icmp_ne (tgt := 105) hx hb dX9_sings_95 (by decide) (fun _ => ?_) (fun c_x => absurd c_x c78)
                refine lv_iload_n hx hb dX9_sings_105 rfl (lv_at hl 2 rfl) ?_
                refine lv_istore_n (lv' := [(2, .int (nI bk)), (1, .int ag), (3, .int (bI (rpK tx tn a true).1)), (0, .ref mo)]) hx hb dX9_sings_106 rfl hl (by decide) rfl (fun ls hl => ?_)
                refine lv_iconst (v := 0) hx hb dX9_sings_107 (by decide) ?_
                refine lv_istore (lv' := [(4, .int 0), (2, .int (nI bk)), (1, .int ag), (3, .int (bI (rpK tx tn a true).1)), (0, .ref mo)]) hx hb dX9_sings_108 hl (by decide) rfl (fun ls hl => ?_)
                have e_8 : ad = heR ad (rpK tx tn a true).2.2.2.toNatClampNeg 0 := rfl
                have eW := congrArg (fun zZ => ([oMo mo ma mh (nI hn) th mk mz mt (nI tn) (nI (rpK tx tn a true).2.1) sc (rpK tx tn a true).2.2.1 (rpK tx tn a true).2.2.2, aI T ma 266 zZ, aI T mt 60 tx] : va_W)) e_8
                have hP : va_P D vwCl [oMo mo ma mh (nI hn) th mk mz mt (nI tn) (nI (rpK tx tn a true).2.1) sc (rpK tx tn a true).2.2.1 (rpK tx tn a true).2.2.2, aI T ma 266 (heR ad (rpK tx tn a true).2.2.2.toNatClampNeg 0), aI T mt 60 tx] _ := Eq.subst (motive := fun w => va_P D vwCl w _) eW hP
                have hD : va_D A [oMo mo ma mh (nI hn) th mk mz mt (nI tn) (nI (rpK tx tn a true).2.1) sc (rpK tx tn a true).2.2.1 (rpK tx tn a true).2.2.2, aI T ma 266 (heR ad (rpK tx tn a true).2.2.2.toNatClampNeg 0), aI T mt 60 tx] := Eq.subst (motive := fun w => va_D A w) eW hD
                have e_9 : (0 : Int32) = nI 0 := rfl
                have hl : lv_has ls 5 [(4, .int (nI 0)), (1, .int ag), (2, .int (nI bk)), (0, .ref mo)] := lv_sub hl [0, 2, 1, 4] (by show (_ : List (Nat × Value)) = [(4, .int (nI 0)), (1, .int ag), (2, .int (nI bk)), (0, .ref mo)]; rw [← e_9]; rfl)
                refine loop_110 ag bk (rpK tx tn a true).2.1 ad (rpK tx tn a true).2.2.1 (rpK tx tn a true).2.2.2 rpK_tc (rpK_pc c78) c78 hcd (rpK tx tn a true).2.2.1.toNatClampNeg 0 (by omega)  _ _ _ ?_ hP hD hS hl
                intro H locs ls hP hD hS hl
                refine lv_goto (tgt := 9) hx hb dX9_sings_141 (by decide) ?_
                have hl : lv_has ls 5 [(1, .int ag), (2, .int (nI bk)), (0, .ref mo)] := lv_sub hl [0, 1, 2] (by rfl)
                exact ih ag bk (rpK tx tn a true).2.1 (heR ad (rpK tx tn a true).2.2.2.toNatClampNeg (rpK tx tn a true).2.2.1.toNatClampNeg) (rpK tx tn a true).2.2.1 (rpK tx tn a true).2.2.2 (by first | assumption | omega | exact rpK_le htn ha | (have := hr_lt htn ha c32; omega)) (by first | assumption | omega | exact rpK_le htn ha | (have := hr_lt htn ha c32; omega)) (by first | exact hcd | exact (heR_264 (rpK_pc c78).2 _).trans hcd) (by first | (rw [sgX, if_neg c17, if_pos (show (if ag ≤ 0 then false else hrB tx tn a 41 41) = true from by rw [if_neg c21]; exact c32), if_pos c40] at hv; exact hv) | (rw [sgX, if_neg c17, if_pos (show (if ag ≤ 0 then false else hrB tx tn a 41 41) = true from by rw [if_neg c21]; exact c32), if_neg c40] at hv; exact hv) | simpa [sgX, c17, c21, eq_true c61, c78] using hv) _ _ _ hP hD hS hl
              · refine lv_aload_n hx hb dX9_sings_81 rfl (lv_at hl 3 rfl) ?_
                refine va_get (D := D) (ci := 8) (v := .int (rpK tx tn a true).2.2.1) (C := RX9) (T := TX9) (N := 12) hx hb hts iX9 hown hC.1 hP 0 rfl rfl 10 (by decide) (hts (.fieldLink RX9 112 "ParrotCountsModel" "times" "I") (List.mem_of_getElem? (i := 4) rfl)) (fun _ h => h) rfl dX9_sings_82 ?_
                refine lv_goto (tgt := 89) hx hb dX9_sings_85 (by decide) ?_
                refine lv_istore_n (lv' := [(1, .int (rpK tx tn a true).2.2.1), (3, .int (bI (rpK tx tn a true).1)), (2, .int (nI bk)), (0, .ref mo)]) hx hb dX9_sings_89 rfl hl (by decide) rfl (fun ls hl => ?_)
                refine lv_aload_n hx hb dX9_sings_90 rfl (lv_at hl 3 rfl) ?_
                refine va_get (D := D) (ci := 8) (v := .int (rpK tx tn a true).2.2.2) (C := RX9) (T := TX9) (N := 12) hx hb hts iX9 hown hC.1 hP 0 rfl rfl 11 (by decide) (hts (.fieldLink RX9 119 "ParrotCountsModel" "parrot" "I") (List.mem_of_getElem? (i := 3) rfl)) (fun _ h => h) rfl dX9_sings_91 ?_
                refine lv_iconst (v := (-1)) hx hb dX9_sings_94 (by decide) ?_
                refine lv_icmp_ne (tgt := 105) hx hb dX9_sings_95 (by decide) (fun c_x => absurd c78 c_x) (fun _ => ?_)
                refine lv_aload_n hx hb dX9_sings_98 rfl (lv_at hl 3 rfl) ?_
                refine va_get (D := D) (ci := 8) (v := .int (nI (rpK tx tn a true).2.1)) (C := RX9) (T := TX9) (N := 12) hx hb hts iX9 hown hC.1 hP 0 rfl rfl 8 (by decide) (hts (.fieldLink RX9 109 "ParrotCountsModel" "at" "I") (List.mem_of_getElem? (i := 1) rfl)) (fun _ h => h) rfl dX9_sings_99 ?_
                refine lv_goto (tgt := 106) hx hb dX9_sings_102 (by decide) ?_
                refine lv_istore_n (lv' := [(2, .int (nI (rpK tx tn a true).2.1)), (1, .int (rpK tx tn a true).2.2.1), (3, .int (bI (rpK tx tn a true).1)), (0, .ref mo)]) hx hb dX9_sings_106 rfl hl (by decide) rfl (fun ls hl => ?_)
                refine lv_iconst (v := 0) hx hb dX9_sings_107 (by decide) ?_
                refine lv_istore (lv' := [(4, .int 0), (2, .int (nI (rpK tx tn a true).2.1)), (1, .int (rpK tx tn a true).2.2.1), (3, .int (bI (rpK tx tn a true).1)), (0, .ref mo)]) hx hb dX9_sings_108 hl (by decide) rfl (fun ls hl => ?_)
                refine lv_iload hx hb dX9_sings_110 (lv_at hl 0 rfl) ?_
                refine lv_aload_n hx hb dX9_sings_112 rfl (lv_at hl 4 rfl) ?_
                refine va_get (D := D) (ci := 8) (v := .int (rpK tx tn a true).2.2.1) (C := RX9) (T := TX9) (N := 12) hx hb hts iX9 hown hC.1 hP 0 rfl rfl 10 (by decide) (hts (.fieldLink RX9 112 "ParrotCountsModel" "times" "I") (List.mem_of_getElem? (i := 4) rfl)) (fun _ h => h) rfl dX9_sings_113 ?_
                refine lv_icmp_ge (tgt := 141) hx hb dX9_sings_116 (by decide) (fun c116 => ?_) (fun c116 => ?_)
                · refine lv_goto (tgt := 9) hx hb dX9_sings_141 (by decide) ?_
                  have hl : lv_has ls 5 [(1, .int (rpK tx tn a true).2.2.1), (2, .int (nI (rpK tx tn a true).2.1)), (0, .ref mo)] := lv_sub hl [2, 1, 4] (by rfl)
                  exact ih (rpK tx tn a true).2.2.1 (rpK tx tn a true).2.1 (rpK tx tn a true).2.1 ad (rpK tx tn a true).2.2.1 (rpK tx tn a true).2.2.2 (by first | assumption | omega | exact rpK_le htn ha | (have := hr_lt htn ha c32; omega)) (by first | assumption | omega | exact rpK_le htn ha | (have := hr_lt htn ha c32; omega)) (by first | exact hcd | exact (heR_264 (rpK_pc c78).2 _).trans hcd) (by first | (rw [sgX, if_neg c17, if_pos (show (if ag ≤ 0 then false else hrB tx tn a 41 41) = true from by rw [if_neg c21]; exact c32), if_pos c40] at hv; exact hv) | (rw [sgX, if_neg c17, if_pos (show (if ag ≤ 0 then false else hrB tx tn a 41 41) = true from by rw [if_neg c21]; exact c32), if_neg c40] at hv; exact hv) | simpa [sgX, c17, c21, eq_true c61, eq_true c78, c116] using hv) _ _ _ hP hD hS hl
                · refine lv_aload_n hx hb dX9_sings_119 rfl (lv_at hl 4 rfl) ?_
                  refine va_get (D := D) (ci := 8) (v := .int (rpK tx tn a true).2.2.2) (C := RX9) (T := TX9) (N := 12) hx hb hts iX9 hown hC.1 hP 0 rfl rfl 11 (by decide) (hts (.fieldLink RX9 119 "ParrotCountsModel" "parrot" "I") (List.mem_of_getElem? (i := 3) rfl)) (fun _ h => h) rfl dX9_sings_120 ?_
                  refine lv_iconst (v := (-1)) hx hb dX9_sings_123 (by decide) ?_
                  refine lv_icmp_eq (tgt := 141) hx hb dX9_sings_124 (by decide) (fun _ => ?_) (fun c_x => absurd c78 c_x)
                  refine lv_goto (tgt := 9) hx hb dX9_sings_141 (by decide) ?_
                  have hl : lv_has ls 5 [(1, .int (rpK tx tn a true).2.2.1), (2, .int (nI (rpK tx tn a true).2.1)), (0, .ref mo)] := lv_sub hl [2, 1, 4] (by rfl)
                  exact ih (rpK tx tn a true).2.2.1 (rpK tx tn a true).2.1 (rpK tx tn a true).2.1 ad (rpK tx tn a true).2.2.1 (rpK tx tn a true).2.2.2 (by first | assumption | omega | exact rpK_le htn ha | (have := hr_lt htn ha c32; omega)) (by first | assumption | omega | exact rpK_le htn ha | (have := hr_lt htn ha c32; omega)) (by first | exact hcd | exact (heR_264 (rpK_pc c78).2 _).trans hcd) (by first | (rw [sgX, if_neg c17, if_pos (show (if ag ≤ 0 then false else hrB tx tn a 41 41) = true from by rw [if_neg c21]; exact c32), if_pos c40] at hv; exact hv) | (rw [sgX, if_neg c17, if_pos (show (if ag ≤ 0 then false else hrB tx tn a 41 41) = true from by rw [if_neg c21]; exact c32), if_neg c40] at hv; exact hv) | simpa [sgX, c17, c21, eq_true c61, eq_true c78, c116] using hv) _ _ _ hP hD hS hl
          · refine lv_aload_n hx hb dX9_sings_24 rfl (lv_at hl 2 rfl) ?_
            refine lv_bipush (v := 41) hx hb dX9_sings_25 (by decide) ?_
            refine lv_bipush (v := 41) hx hb dX9_sings_27 (by decide) ?_
            have hP := hP.sub (ws' := [oMo mo ma mh (nI hn) th mk mz mt (nI tn) (nI a) sc te pq, aI T mt 60 tx] ++ [aI T ma 266 ad]) [0, 2, 1] rfl
            have hD := hD.sub (ws' := [oMo mo ma mh (nI hn) th mk mz mt (nI tn) (nI a) sc te pq, aI T mt 60 tx] ++ [aI T ma 266 ad]) [0, 2, 1] (by decide) rfl
            refine kV (ci := 8) (As := [.int 41, .int 41]) (rest := []) ⟨hx, hb, hml, hown, hts⟩ (c_X9_isHere l D T mo ma mh mk mz mt tx hn th tn a sc te pq 41 41 (by first | omega | assumption) (by first | omega | assumption)) (cwV 2 hts gX9_sings_X9_isHere rfl rfl rfl (by decide +kernel) ⟨Nat.le_of_ble_eq_true rfl, Nat.le_of_ble_eq_true rfl⟩) hC hP hD hS hA rfl rfl rfl hl.1 rfl (Nat.le_of_ble_eq_true rfl) dX9_sings_29 ⟨Nat.zero_le _, Nat.zero_le _⟩ (fun H locs hP hD hS => ?_)
            have hP := hP.sub (ws' := [oMo mo ma mh (nI hn) th mk mz mt (nI tn) (nI a) sc te pq, aI T ma 266 ad, aI T mt 60 tx]) [0, 2, 1] rfl
            have hD := hD.sub (ws' := [oMo mo ma mh (nI hn) th mk mz mt (nI tn) (nI a) sc te pq, aI T ma 266 ad, aI T mt 60 tx]) [0, 2, 1] (by decide) rfl
            refine W.eq (g2 := F0 m 32 ls [.int (bI (hrB tx tn a 41 41))]) rfl ?_
            refine lv_if_eq (tgt := 59) hx hb dX9_sings_32 (by decide) (fun c32 => ?_) (fun c32 => ?_)
            · have c32 := (bI0 _).mp c32
              refine lv_aload_n hx hb dX9_sings_59 rfl (lv_at hl 2 rfl) ?_
              refine lv_iload_n hx hb dX9_sings_60 rfl (lv_at hl 0 rfl) ?_
              refine lv_if_ne (tgt := 68) hx hb dX9_sings_61 (by decide) (fun c61 => ?_) (fun c61 => ?_)
              · refine lv_iconst (v := 0) hx hb dX9_sings_68 (by decide) ?_
                have hP := hP.sub (ws' := [oMo mo ma mh (nI hn) th mk mz mt (nI tn) (nI a) sc te pq, aI T mt 60 tx] ++ [aI T ma 266 ad]) [0, 2, 1] rfl
                have hD := hD.sub (ws' := [oMo mo ma mh (nI hn) th mk mz mt (nI tn) (nI a) sc te pq, aI T mt 60 tx] ++ [aI T ma 266 ad]) [0, 2, 1] (by decide) rfl
                refine kV (ci := 8) (As := [.int 0]) (rest := []) ⟨hx, hb, hml, hown, hts⟩ (c_X9_readsPhrase l D T mo ma mh mk mz mt tx hn th tn a sc te pq false (by first | omega | assumption) (by first | omega | assumption)) (cwV 1 hts gX9_sings_X9_readsPhrase rfl rfl rfl (by decide +kernel) ⟨Nat.le_of_ble_eq_true rfl, Nat.le_of_ble_eq_true rfl⟩) hC hP hD hS hA rfl rfl rfl hl.1 rfl (Nat.le_of_ble_eq_true rfl) dX9_sings_69 ⟨Nat.zero_le _, Nat.zero_le _⟩ (fun H locs hP hD hS => ?_)
                have hP := hP.sub (ws' := [oMo mo ma mh (nI hn) th mk mz mt (nI tn) (nI (rpK tx tn a false).2.1) sc (rpK tx tn a false).2.2.1 (rpK tx tn a false).2.2.2, aI T ma 266 ad, aI T mt 60 tx]) [0, 2, 1] rfl
                have hD := hD.sub (ws' := [oMo mo ma mh (nI hn) th mk mz mt (nI tn) (nI (rpK tx tn a false).2.1) sc (rpK tx tn a false).2.2.1 (rpK tx tn a false).2.2.2, aI T ma 266 ad, aI T mt 60 tx]) [0, 2, 1] (by decide) rfl
                refine W.eq (g2 := F0 m 72 ls [.int (bI (rpK tx tn a false).1)]) rfl ?_
                refine lv_istore_n (lv' := [(3, .int (bI (rpK tx tn a false).1)), (1, .int ag), (2, .int (nI bk)), (0, .ref mo)]) hx hb dX9_sings_72 rfl hl (by decide) rfl (fun ls hl => ?_)
                refine lv_aload_n hx hb dX9_sings_73 rfl (lv_at hl 3 rfl) ?_
                refine va_get (D := D) (ci := 8) (v := .int (rpK tx tn a false).2.2.2) (C := RX9) (T := TX9) (N := 12) hx hb hts iX9 hown hC.1 hP 0 rfl rfl 11 (by decide) (hts (.fieldLink RX9 119 "ParrotCountsModel" "parrot" "I") (List.mem_of_getElem? (i := 3) rfl)) (fun _ h => h) rfl dX9_sings_74 ?_
                refine lv_iconst (v := (-1)) hx hb dX9_sings_77 (by decide) ?_
                refine lv_icmp_ne (tgt := 88) hx hb dX9_sings_78 (by decide) (fun c78 => ?_) (fun c78 => ?_)
                · refine lv_iload_n hx hb dX9_sings_88 rfl (lv_at hl 1 rfl) ?_
                  refine lv_istore_n (lv' := [(1, .int ag), (3, .int (bI (rpK tx tn a false).1)), (2, .int (nI bk)), (0, .ref mo)]) hx hb dX9_sings_89 rfl hl (by decide) rfl (fun ls hl => ?_)
                  refine lv_aload_n hx hb dX9_sings_90 rfl (lv_at hl 3 rfl) ?_
                  refine va_get (D := D) (ci := 8) (v := .int (rpK tx tn a false).2.2.2) (C := RX9) (T := TX9) (N := 12) hx hb hts iX9 hown hC.1 hP 0 rfl rfl 11 (by decide) (hts (.fieldLink RX9 119 "ParrotCountsModel" "parrot" "I") (List.mem_of_getElem? (i := 3) rfl)) (fun _ h => h) rfl dX9_sings_91 ?_
                  refine lv_iconst (v := (-1)) hx hb dX9_sings_94 (by decide) ?_
                  refine lv_icmp_ne (tgt := 105) hx hb dX9_sings_95 (by decide) (fun _ => ?_) (fun c_x => absurd c_x c78)
                  refine lv_iload_n hx hb dX9_sings_105 rfl (lv_at hl 2 rfl) ?_
                  refine lv_istore_n (lv' := [(2, .int (nI bk)), (1, .int ag), (3, .int (bI (rpK tx tn a false).1)), (0, .ref mo)]) hx hb dX9_sings_106 rfl hl (by decide) rfl (fun ls hl => ?_)
                  refine lv_iconst (v := 0) hx hb dX9_sings_107 (by decide) ?_
                  refine lv_istore (lv' := [(4, .int 0), (2, .int (nI bk)), (1, .int ag), (3, .int (bI (rpK tx tn a false).1)), (0, .ref mo)]) hx hb dX9_sings_108 hl (by decide) rfl (fun ls hl => ?_)
                  have e_10 : ad = heR ad (rpK tx tn a false).2.2.2.toNatClampNeg 0 := rfl
                  have eW := congrArg (fun zZ => ([oMo mo ma mh (nI hn) th mk mz mt (nI tn) (nI (rpK tx tn a false).2.1) sc (rpK tx tn a false).2.2.1 (rpK tx tn a false).2.2.2, aI T ma 266 zZ, aI T mt 60 tx] : va_W)) e_10
                  have hP : va_P D vwCl [oMo mo ma mh (nI hn) th mk mz mt (nI tn) (nI (rpK tx tn a false).2.1) sc (rpK tx tn a false).2.2.1 (rpK tx tn a false).2.2.2, aI T ma 266 (heR ad (rpK tx tn a false).2.2.2.toNatClampNeg 0), aI T mt 60 tx] _ := Eq.subst (motive := fun w => va_P D vwCl w _) eW hP
                  have hD : va_D A [oMo mo ma mh (nI hn) th mk mz mt (nI tn) (nI (rpK tx tn a false).2.1) sc (rpK tx tn a false).2.2.1 (rpK tx tn a false).2.2.2, aI T ma 266 (heR ad (rpK tx tn a false).2.2.2.toNatClampNeg 0), aI T mt 60 tx] := Eq.subst (motive := fun w => va_D A w) eW hD
                  have e_11 : (0 : Int32) = nI 0 := rfl
                  have hl : lv_has ls 5 [(4, .int (nI 0)), (1, .int ag), (2, .int (nI bk)), (0, .ref mo)] := lv_sub hl [0, 2, 1, 4] (by show (_ : List (Nat × Value)) = [(4, .int (nI 0)), (1, .int ag), (2, .int (nI bk)), (0, .ref mo)]; rw [← e_11]; rfl)
                  refine loop_110 ag bk (rpK tx tn a false).2.1 ad (rpK tx tn a false).2.2.1 (rpK tx tn a false).2.2.2 rpK_tc (rpK_pc c78) c78 hcd (rpK tx tn a false).2.2.1.toNatClampNeg 0 (by omega)  _ _ _ ?_ hP hD hS hl
                  intro H locs ls hP hD hS hl
                  refine lv_goto (tgt := 9) hx hb dX9_sings_141 (by decide) ?_
                  have hl : lv_has ls 5 [(1, .int ag), (2, .int (nI bk)), (0, .ref mo)] := lv_sub hl [0, 1, 2] (by rfl)
                  exact ih ag bk (rpK tx tn a false).2.1 (heR ad (rpK tx tn a false).2.2.2.toNatClampNeg (rpK tx tn a false).2.2.1.toNatClampNeg) (rpK tx tn a false).2.2.1 (rpK tx tn a false).2.2.2 (by first | assumption | omega | exact rpK_le htn ha | (have := hr_lt htn ha c32; omega)) (by first | assumption | omega | exact rpK_le htn ha | (have := hr_lt htn ha c32; omega)) (by first | exact hcd | exact (heR_264 (rpK_pc c78).2 _).trans hcd) (by first | (rw [sgX, if_neg c17, if_pos (show (if ag ≤ 0 then false else hrB tx tn a 41 41) = true from by rw [if_neg c21]; exact c32), if_pos c40] at hv; exact hv) | (rw [sgX, if_neg c17, if_pos (show (if ag ≤ 0 then false else hrB tx tn a 41 41) = true from by rw [if_neg c21]; exact c32), if_neg c40] at hv; exact hv) | simpa [sgX, c17, c21, c32, c61, c78] using hv) _ _ _ hP hD hS hl
                · refine lv_aload_n hx hb dX9_sings_81 rfl (lv_at hl 3 rfl) ?_
                  refine va_get (D := D) (ci := 8) (v := .int (rpK tx tn a false).2.2.1) (C := RX9) (T := TX9) (N := 12) hx hb hts iX9 hown hC.1 hP 0 rfl rfl 10 (by decide) (hts (.fieldLink RX9 112 "ParrotCountsModel" "times" "I") (List.mem_of_getElem? (i := 4) rfl)) (fun _ h => h) rfl dX9_sings_82 ?_
                  refine lv_goto (tgt := 89) hx hb dX9_sings_85 (by decide) ?_
                  refine lv_istore_n (lv' := [(1, .int (rpK tx tn a false).2.2.1), (3, .int (bI (rpK tx tn a false).1)), (2, .int (nI bk)), (0, .ref mo)]) hx hb dX9_sings_89 rfl hl (by decide) rfl (fun ls hl => ?_)
                  refine lv_aload_n hx hb dX9_sings_90 rfl (lv_at hl 3 rfl) ?_
                  refine va_get (D := D) (ci := 8) (v := .int (rpK tx tn a false).2.2.2) (C := RX9) (T := TX9) (N := 12) hx hb hts iX9 hown hC.1 hP 0 rfl rfl 11 (by decide) (hts (.fieldLink RX9 119 "ParrotCountsModel" "parrot" "I") (List.mem_of_getElem? (i := 3) rfl)) (fun _ h => h) rfl dX9_sings_91 ?_
                  refine lv_iconst (v := (-1)) hx hb dX9_sings_94 (by decide) ?_
                  refine lv_icmp_ne (tgt := 105) hx hb dX9_sings_95 (by decide) (fun c_x => absurd c78 c_x) (fun _ => ?_)
                  refine lv_aload_n hx hb dX9_sings_98 rfl (lv_at hl 3 rfl) ?_
                  refine va_get (D := D) (ci := 8) (v := .int (nI (rpK tx tn a false).2.1)) (C := RX9) (T := TX9) (N := 12) hx hb hts iX9 hown hC.1 hP 0 rfl rfl 8 (by decide) (hts (.fieldLink RX9 109 "ParrotCountsModel" "at" "I") (List.mem_of_getElem? (i := 1) rfl)) (fun _ h => h) rfl dX9_sings_99 ?_
                  refine lv_goto (tgt := 106) hx hb dX9_sings_102 (by decide) ?_
                  refine lv_istore_n (lv' := [(2, .int (nI (rpK tx tn a false).2.1)), (1, .int (rpK tx tn a false).2.2.1), (3, .int (bI (rpK tx tn a false).1)), (0, .ref mo)]) hx hb dX9_sings_106 rfl hl (by decide) rfl (fun ls hl => ?_)
                  refine lv_iconst (v := 0) hx hb dX9_sings_107 (by decide) ?_
                  refine lv_istore (lv' := [(4, .int 0), (2, .int (nI (rpK tx tn a false).2.1)), (1, .int (rpK tx tn a false).2.2.1), (3, .int (bI (rpK tx tn a false).1)), (0, .ref mo)]) hx hb dX9_sings_108 hl (by decide) rfl (fun ls hl => ?_)
                  refine lv_iload hx hb dX9_sings_110 (lv_at hl 0 rfl) ?_
                  refine lv_aload_n hx hb dX9_sings_112 rfl (lv_at hl 4 rfl) ?_
                  refine va_get (D := D) (ci := 8) (v := .int (rpK tx tn a false).2.2.1) (C := RX9) (T := TX9) (N := 12) hx hb hts iX9 hown hC.1 hP 0 rfl rfl 10 (by decide) (hts (.fieldLink RX9 112 "ParrotCountsModel" "times" "I") (List.mem_of_getElem? (i := 4) rfl)) (fun _ h => h) rfl dX9_sings_113 ?_
                  refine lv_icmp_ge (tgt := 141) hx hb dX9_sings_116 (by decide) (fun c116 => ?_) (fun c116 => ?_)
                  · refine lv_goto (tgt := 9) hx hb dX9_sings_141 (by decide) ?_
                    have hl : lv_has ls 5 [(1, .int (rpK tx tn a false).2.2.1), (2, .int (nI (rpK tx tn a false).2.1)), (0, .ref mo)] := lv_sub hl [2, 1, 4] (by rfl)
                    exact ih (rpK tx tn a false).2.2.1 (rpK tx tn a false).2.1 (rpK tx tn a false).2.1 ad (rpK tx tn a false).2.2.1 (rpK tx tn a false).2.2.2 (by first | assumption | omega | exact rpK_le htn ha | (have := hr_lt htn ha c32; omega)) (by first | assumption | omega | exact rpK_le htn ha | (have := hr_lt htn ha c32; omega)) (by first | exact hcd | exact (heR_264 (rpK_pc c78).2 _).trans hcd) (by first | (rw [sgX, if_neg c17, if_pos (show (if ag ≤ 0 then false else hrB tx tn a 41 41) = true from by rw [if_neg c21]; exact c32), if_pos c40] at hv; exact hv) | (rw [sgX, if_neg c17, if_pos (show (if ag ≤ 0 then false else hrB tx tn a 41 41) = true from by rw [if_neg c21]; exact c32), if_neg c40] at hv; exact hv) | simpa [sgX, c17, c21, c32, c61, eq_true c78, c116] using hv) _ _ _ hP hD hS hl
                  · refine lv_aload_n hx hb dX9_sings_119 rfl (lv_at hl 4 rfl) ?_
                    refine va_get (D := D) (ci := 8) (v := .int (rpK tx tn a false).2.2.2) (C := RX9) (T := TX9) (N := 12) hx hb hts iX9 hown hC.1 hP 0 rfl rfl 11 (by decide) (hts (.fieldLink RX9 119 "ParrotCountsModel" "parrot" "I") (List.mem_of_getElem? (i := 3) rfl)) (fun _ h => h) rfl dX9_sings_120 ?_
                    refine lv_iconst (v := (-1)) hx hb dX9_sings_123 (by decide) ?_
                    refine lv_icmp_eq (tgt := 141) hx hb dX9_sings_124 (by decide) (fun _ => ?_) (fun c_x => absurd c78 c_x)
                    refine lv_goto (tgt := 9) hx hb dX9_sings_141 (by decide) ?_
                    have hl : lv_has ls 5 [(1, .int (rpK tx tn a false).2.2.1), (2, .int (nI (rpK tx tn a false).2.1)), (0, .ref mo)] := lv_sub hl [2, 1, 4] (by rfl)
                    exact ih (rpK tx tn a false).2.2.1 (rpK tx tn a false).2.1 (rpK tx tn a false).2.1 ad (rpK tx tn a false).2.2.1 (rpK tx tn a false).2.2.2 (by first | assumption | omega | exact rpK_le htn ha | (have := hr_lt htn ha c32; omega)) (by first | assumption | omega | exact rpK_le htn ha | (have := hr_lt htn ha c32; omega)) (by first | exact hcd | exact (heR_264 (rpK_pc c78).2 _).trans hcd) (by first | (rw [sgX, if_neg c17, if_pos (show (if ag ≤ 0 then false else hrB tx tn a 41 41) = true from by rw [if_neg c21]; exact c32), if_pos c40] at hv; exact hv) | (rw [sgX, if_neg c17, if_pos (show (if ag ≤ 0 then false else hrB tx tn a 41 41) = true from by rw [if_neg c21]; exact c32), if_neg c40] at hv; exact hv) | simpa [sgX, c17, c21, c32, c61, eq_true c78, c116] using hv) _ _ _ hP hD hS hl
              · exact absurd (by rw [c61]; exact Int32.le_refl _ : ag ≤ 0) c21
            · have c32 := (bI0n _).mp c32
              refine lv_iinc (v := ag + (-1)) (lv' := [(1, .int (ag + (-1))), (2, .int (nI bk)), (0, .ref mo)]) hx hb dX9_sings_35 hl (k := 0) rfl rfl (by decide) rfl (fun ls hl => ?_)
              refine lv_aload_n hx hb dX9_sings_38 rfl (lv_at hl 2 rfl) ?_
              refine lv_iload_n hx hb dX9_sings_39 rfl (lv_at hl 0 rfl) ?_
              refine lv_if_le (tgt := 47) hx hb dX9_sings_40 (by decide) (fun c40 => ?_) (fun c40 => ?_)
              · refine lv_aload_n hx hb dX9_sings_47 rfl (lv_at hl 2 rfl) ?_
                refine va_get (D := D) (ci := 8) (v := .int (nI a)) (C := RX9) (T := TX9) (N := 12) hx hb hts iX9 hown hC.1 hP 0 rfl rfl 8 (by decide) (hts (.fieldLink RX9 109 "ParrotCountsModel" "at" "I") (List.mem_of_getElem? (i := 1) rfl)) (fun _ h => h) rfl dX9_sings_48 ?_
                refine lv_iconst (v := 1) hx hb dX9_sings_51 (by decide) ?_
                refine lv_iadd hx hb dX9_sings_52 ?_
                refine W.eq (g2 := F0 m 53 ls (.int (nI (a + 1)) :: [.ref mo])) (congrArg (fun z => F0 m 53 ls (.int z :: [.ref mo])) (nI_1 a)) ?_
                refine va_put (D := D) (ci := 8) (v := .int (nI (a + 1))) (ty := .int) (C := RX9) (T := TX9) (N := 12) hx hb hts iX9 tyX9 tyX9_ok nmX9 hown hC.1 hP hD hS 0 rfl rfl 8 (by decide) (hts (.fieldLink RX9 109 "ParrotCountsModel" "at" "I") (List.mem_of_getElem? (i := 1) rfl)) (fun _ h9 => h9) rfl (by decide +kernel) rfl rfl (Nat.le_of_ble_eq_true rfl) dX9_sings_53 (fun H locs hP hD hS => ?_)
                have hP : va_P D vwCl [oMo mo ma mh (nI hn) th mk mz mt (nI tn) (nI (a + 1)) sc te pq, aI T ma 266 ad, aI T mt 60 tx] H := hP
                have hD : va_D A [oMo mo ma mh (nI hn) th mk mz mt (nI tn) (nI (a + 1)) sc te pq, aI T ma 266 ad, aI T mt 60 tx] := hD
                refine lv_goto (tgt := 9) hx hb dX9_sings_56 (by decide) ?_
                have hl : lv_has ls 5 [(1, .int (ag + (-1))), (2, .int (nI bk)), (0, .ref mo)] := lv_sub hl [0, 1, 2] (by rfl)
                exact ih (ag + (-1)) bk (a + 1) ad te pq (by first | assumption | omega | exact rpK_le htn ha | (have := hr_lt htn ha c32; omega)) (by first | assumption | omega | exact rpK_le htn ha | (have := hr_lt htn ha c32; omega)) (by first | exact hcd | exact (heR_264 (rpK_pc c78).2 _).trans hcd) (by first | (rw [sgX, if_neg c17, if_pos (show (if ag ≤ 0 then false else hrB tx tn a 41 41) = true from by rw [if_neg c21]; exact c32), if_pos c40] at hv; exact hv) | (rw [sgX, if_neg c17, if_pos (show (if ag ≤ 0 then false else hrB tx tn a 41 41) = true from by rw [if_neg c21]; exact c32), if_neg c40] at hv; exact hv) | simpa [sgX, c17, c21, c32, c40] using hv) _ _ _ hP hD hS hl
              · refine lv_iload_n hx hb dX9_sings_43 rfl (lv_at hl 1 rfl) ?_
                refine lv_goto (tgt := 53) hx hb dX9_sings_44 (by decide) ?_
                refine va_put (D := D) (ci := 8) (v := .int (nI bk)) (ty := .int) (C := RX9) (T := TX9) (N := 12) hx hb hts iX9 tyX9 tyX9_ok nmX9 hown hC.1 hP hD hS 0 rfl rfl 8 (by decide) (hts (.fieldLink RX9 109 "ParrotCountsModel" "at" "I") (List.mem_of_getElem? (i := 1) rfl)) (fun _ h9 => h9) rfl (by decide +kernel) rfl rfl (Nat.le_of_ble_eq_true rfl) dX9_sings_53 (fun H locs hP hD hS => ?_)
                have hP : va_P D vwCl [oMo mo ma mh (nI hn) th mk mz mt (nI tn) (nI bk) sc te pq, aI T ma 266 ad, aI T mt 60 tx] H := hP
                have hD : va_D A [oMo mo ma mh (nI hn) th mk mz mt (nI tn) (nI bk) sc te pq, aI T ma 266 ad, aI T mt 60 tx] := hD
                refine lv_goto (tgt := 9) hx hb dX9_sings_56 (by decide) ?_
                have hl : lv_has ls 5 [(1, .int (ag + (-1))), (2, .int (nI bk)), (0, .ref mo)] := lv_sub hl [0, 1, 2] (by rfl)
                exact ih (ag + (-1)) bk bk ad te pq (by first | assumption | omega | exact rpK_le htn ha | (have := hr_lt htn ha c32; omega)) (by first | assumption | omega | exact rpK_le htn ha | (have := hr_lt htn ha c32; omega)) (by first | exact hcd | exact (heR_264 (rpK_pc c78).2 _).trans hcd) (by first | (rw [sgX, if_neg c17, if_pos (show (if ag ≤ 0 then false else hrB tx tn a 41 41) = true from by rw [if_neg c21]; exact c32), if_pos c40] at hv; exact hv) | (rw [sgX, if_neg c17, if_pos (show (if ag ≤ 0 then false else hrB tx tn a 41 41) = true from by rw [if_neg c21]; exact c32), if_neg c40] at hv; exact hv) | simpa [sgX, c17, c21, c32, c40] using hv) _ _ _ hP hD hS hl
  have hl : lv_has ls 5 [(0, .ref mo)] := hl
  have hP : va_P D vwCl [oMo mo ma mh (nI hn) th mk mz mt (nI tn) (nI ax) sc ti pp, aI T ma 266 al, aI T mt 60 tx] s.heap := hP
  have hD : va_D A [oMo mo ma mh (nI hn) th mk mz mt (nI tn) (nI ax) sc ti pp, aI T ma 266 al, aI T mt 60 tx] := hD
  refine lv_aload_n hx hb dX9_sings_0 rfl (lv_at hl 0 rfl) ?_
  refine lv_iconst (v := 0) hx hb dX9_sings_1 (by decide) ?_
  refine va_put (D := D) (ci := 8) (v := .int 0) (ty := .int) (C := RX9) (T := TX9) (N := 12) hx hb hts iX9 tyX9 tyX9_ok nmX9 hown hC.1 hP hD hS 0 rfl rfl 8 (by decide) (hts (.fieldLink RX9 109 "ParrotCountsModel" "at" "I") (List.mem_of_getElem? (i := 1) rfl)) (fun _ h9 => h9) rfl (by decide +kernel) rfl rfl (Nat.le_of_ble_eq_true rfl) dX9_sings_2 (fun H locs hP hD hS => ?_)
  have hP : va_P D vwCl [oMo mo ma mh (nI hn) th mk mz mt (nI tn) 0 sc ti pp, aI T ma 266 al, aI T mt 60 tx] H := hP
  have hD : va_D A [oMo mo ma mh (nI hn) th mk mz mt (nI tn) 0 sc ti pp, aI T ma 266 al, aI T mt 60 tx] := hD
  refine lv_iconst (v := 0) hx hb dX9_sings_5 (by decide) ?_
  refine lv_istore_n (lv' := [(1, .int 0), (0, .ref mo)]) hx hb dX9_sings_6 rfl hl (by decide) rfl (fun ls hl => ?_)
  refine lv_iconst (v := 0) hx hb dX9_sings_7 (by decide) ?_
  refine lv_istore_n (lv' := [(2, .int 0), (1, .int 0), (0, .ref mo)]) hx hb dX9_sings_8 rfl hl (by decide) rfl (fun ls hl => ?_)
  have e_12 : 0 = nI 0 := by first | with_reducible rfl | rfl
  have eW := congrArg (fun zZ => ([oMo mo ma mh (nI hn) th mk mz mt (nI tn) zZ sc ti pp, aI T ma 266 al, aI T mt 60 tx] : va_W)) e_12
  have hP : va_P D vwCl [oMo mo ma mh (nI hn) th mk mz mt (nI tn) (nI 0) sc ti pp, aI T ma 266 al, aI T mt 60 tx] _ := Eq.subst (motive := fun w => va_P D vwCl w _) eW hP
  have hD : va_D A [oMo mo ma mh (nI hn) th mk mz mt (nI tn) (nI 0) sc ti pp, aI T ma 266 al, aI T mt 60 tx] := Eq.subst (motive := fun w => va_D A w) eW hD
  have e_13 : (0 : Int32) = nI 0 := by first | with_reducible rfl | rfl
  have hl : lv_has ls 5 [(1, .int 0), (2, .int (nI 0)), (0, .ref mo)] := lv_sub hl [1, 0, 2] (by show (_ : List (Nat × Value)) = [(1, .int 0), (2, .int (nI 0)), (0, .ref mo)]; rw [← e_13]; rfl)
  exact (loops N) 0 0 0 al ti pp (by first | assumption | omega | exact rpK_le htn ha | (have := hr_lt htn ha c32; omega)) (by first | assumption | omega | exact rpK_le htn ha | (have := hr_lt htn ha c32; omega)) hcp hT _ _ _ hP hD hS hl
abbrev rX9_isValid : Room := { frames := 5, cells := 0, slots := 0, locals := 113 }
set_option maxHeartbeats 4000000 in
set_option maxRecDepth 100000 in
theorem c_X9_isValid (l : Launch) (D : va_G) (T : Nat → ClassId) (mo ma mh mk mz mt : Nat) (tx : Nat → Int32) (hn : Nat) (th : Int32) (tn ax : Nat) (sc ti pp : Int32) (N : Nat) (TT : Int32 × Nat × Int32 × Int32 × Int32) (htn : tn ≤ 60) (hT : erX tx tn N false true 0 0 0 0 ti pp = some TT) : kM l D T yX9_isValid wsX9_isValid rX9_isValid [.ref mo] [oMo mo ma mh (nI hn) th mk mz mt (nI tn) (nI ax) sc ti pp, aI T mt 60 tx] (some (.int (bI (decide (TT.1 = -1))))) [oMo mo ma mh (nI hn) 0 mk mz mt (nI tn) (nI TT.2.1) TT.2.2.1 TT.2.2.2.1 TT.2.2.2.2, aI T mt 60 tx] := by
  refine kM.of (cc := cX9_isValid) (maxL := 1) (ret := some .boolean) (by decide) rfl (Nat.le_of_ble_eq_true rfl) ?_
  intro p e s m below meth c A Q ls hx hb hml hown hr hlk hts hC hP hD hS hA hl hret
  have iX9 : ∀ w ∈ wsX90, w ∈ wsX9_isValid := (fun _ h => List.mem_cons_of_mem _ (List.mem_append_right _ h))
  have hl : lv_has ls 1 [(0, .ref mo)] := hl
  have hP : va_P D vwCl [oMo mo ma mh (nI hn) th mk mz mt (nI tn) (nI ax) sc ti pp, aI T mt 60 tx] s.heap := hP
  have hD : va_D A [oMo mo ma mh (nI hn) th mk mz mt (nI tn) (nI ax) sc ti pp, aI T mt 60 tx] := hD
  refine lv_aload_n hx hb dX9_isValid_0 rfl (lv_at hl 0 rfl) ?_
  refine lv_iconst (v := 0) hx hb dX9_isValid_1 (by decide) ?_
  refine va_put (D := D) (ci := 8) (v := .int 0) (ty := .int) (C := RX9) (T := TX9) (N := 12) hx hb hts iX9 tyX9 tyX9_ok nmX9 hown hC.1 hP hD hS 0 rfl rfl 3 (by decide) (hts (.fieldLink RX9 25 "ParrotCountsModel" "thrown" "I") (List.mem_of_getElem? (i := 1) rfl)) (fun _ h9 => h9) rfl (by decide +kernel) rfl rfl (Nat.le_of_ble_eq_true rfl) dX9_isValid_2 (fun H locs hP hD hS => ?_)
  have hP : va_P D vwCl [oMo mo ma mh (nI hn) 0 mk mz mt (nI tn) (nI ax) sc ti pp, aI T mt 60 tx] H := hP
  have hD : va_D A [oMo mo ma mh (nI hn) 0 mk mz mt (nI tn) (nI ax) sc ti pp, aI T mt 60 tx] := hD
  refine lv_aload_n hx hb dX9_isValid_5 rfl (lv_at hl 0 rfl) ?_
  have hP := hP.sub (ws' := [oMo mo ma mh (nI hn) 0 mk mz mt (nI tn) (nI ax) sc ti pp, aI T mt 60 tx] ++ []) [0, 1] rfl
  have hD := hD.sub (ws' := [oMo mo ma mh (nI hn) 0 mk mz mt (nI tn) (nI ax) sc ti pp, aI T mt 60 tx] ++ []) [0, 1] (by decide) rfl
  refine kV (ci := 8) (As := []) (rest := []) ⟨hx, hb, hml, hown, hts⟩ (c_X9_errorOfText l D T mo ma mh mk mz mt tx hn 0 tn ax sc ti pp N TT (by first | omega | assumption) (by first | omega | assumption)) (cwV 0 hts gX9_isValid_X9_errorOfText rfl rfl rfl (by decide +kernel) ⟨Nat.le_of_ble_eq_true rfl, Nat.le_of_ble_eq_true rfl⟩) hC hP hD hS hA rfl rfl rfl hl.1 rfl (Nat.le_of_ble_eq_true rfl) dX9_isValid_6 ⟨Nat.zero_le _, Nat.zero_le _⟩ (fun H locs hP hD hS => ?_)
  have hP : va_P D vwCl [oMo mo ma mh (nI hn) 0 mk mz mt (nI tn) (nI TT.2.1) TT.2.2.1 TT.2.2.2.1 TT.2.2.2.2, aI T mt 60 tx] H := hP
  have hD : va_D A [oMo mo ma mh (nI hn) 0 mk mz mt (nI tn) (nI TT.2.1) TT.2.2.1 TT.2.2.2.1 TT.2.2.2.2, aI T mt 60 tx] := hD
  refine W.eq (g2 := F0 m 9 ls [.int TT.1]) rfl ?_
  refine lv_iconst (v := (-1)) hx hb dX9_isValid_9 (by decide) ?_
  refine lv_icmp_ne (tgt := 17) hx hb dX9_isValid_10 (by decide) (fun c10 => ?_) (fun c10 => ?_)
  · refine lv_iconst (v := 0) hx hb dX9_isValid_17 (by decide) ?_
    have e_1 : 0 = bI (decide (TT.1 = -1)) := by first | with_reducible rfl | (simp [bI, c10]; done)
    refine W.eq (g2 := F0 m 18 ls [.int (bI (decide (TT.1 = -1)))]) (congrArg (fun z => F0 m 18 ls [.int z]) e_1) ?_
    exact hret _ _ _ _ _ (fun Qc free hq hf => W.zret hx hb hr (bI_nar _) hq hf dX9_isValid_18 hlk) hP hD hS
  · refine lv_iconst (v := 1) hx hb dX9_isValid_13 (by decide) ?_
    refine lv_goto (tgt := 18) hx hb dX9_isValid_14 (by decide) ?_
    have e_2 : 1 = bI (decide (TT.1 = -1)) := by first | with_reducible rfl | (simp [bI, eq_true c10]; done)
    refine W.eq (g2 := F0 m 18 ls [.int (bI (decide (TT.1 = -1)))]) (congrArg (fun z => F0 m 18 ls [.int z]) e_2) ?_
    exact hret _ _ _ _ _ (fun Qc free hq hf => W.zret hx hb hr (bI_nar _) hq hf dX9_isValid_18 hlk) hP hD hS
abbrev rX9_firstError : Room := { frames := 5, cells := 0, slots := 0, locals := 113 }
set_option maxHeartbeats 4000000 in
set_option maxRecDepth 100000 in
theorem c_X9_firstError (l : Launch) (D : va_G) (T : Nat → ClassId) (mo ma mh mk mz mt : Nat) (tx : Nat → Int32) (hn : Nat) (th : Int32) (tn ax : Nat) (sc ti pp : Int32) (N : Nat) (TT : Int32 × Nat × Int32 × Int32 × Int32) (htn : tn ≤ 60) (hT : erX tx tn N false true 0 0 0 0 ti pp = some TT) (he : ¬ TT.1 = -1) : kM l D T yX9_firstError wsX9_firstError rX9_firstError [.ref mo] [oMo mo ma mh (nI hn) th mk mz mt (nI tn) (nI ax) sc ti pp, aI T mt 60 tx] (some (.int TT.1)) [oMo mo ma mh (nI hn) 0 mk mz mt (nI tn) (nI TT.2.1) TT.2.2.1 TT.2.2.2.1 TT.2.2.2.2, aI T mt 60 tx] := by
  refine kM.of (cc := cX9_firstError) (maxL := 2) (ret := some .int) (by decide) rfl (Nat.le_of_ble_eq_true rfl) ?_
  intro p e s m below meth c A Q ls hx hb hml hown hr hlk hts hC hP hD hS hA hl hret
  have hl : lv_has ls 2 [(0, .ref mo)] := hl
  have hP : va_P D vwCl [oMo mo ma mh (nI hn) th mk mz mt (nI tn) (nI ax) sc ti pp, aI T mt 60 tx] s.heap := hP
  have hD : va_D A [oMo mo ma mh (nI hn) th mk mz mt (nI tn) (nI ax) sc ti pp, aI T mt 60 tx] := hD
  refine lv_aload_n hx hb dX9_firstError_0 rfl (lv_at hl 0 rfl) ?_
  have hP := hP.sub (ws' := [oMo mo ma mh (nI hn) th mk mz mt (nI tn) (nI ax) sc ti pp, aI T mt 60 tx] ++ []) [0, 1] rfl
  have hD := hD.sub (ws' := [oMo mo ma mh (nI hn) th mk mz mt (nI tn) (nI ax) sc ti pp, aI T mt 60 tx] ++ []) [0, 1] (by decide) rfl
  refine kV (ci := 8) (As := []) (rest := []) ⟨hx, hb, hml, hown, hts⟩ (c_X9_errorOfText l D T mo ma mh mk mz mt tx hn th tn ax sc ti pp N TT (by first | omega | assumption) (by first | omega | assumption)) (cwV 0 hts gX9_firstError_X9_errorOfText rfl rfl rfl (by decide +kernel) ⟨Nat.le_of_ble_eq_true rfl, Nat.le_of_ble_eq_true rfl⟩) hC hP hD hS hA rfl rfl rfl hl.1 rfl (Nat.le_of_ble_eq_true rfl) dX9_firstError_1 ⟨Nat.zero_le _, Nat.zero_le _⟩ (fun H locs hP hD hS => ?_)
  have hP : va_P D vwCl [oMo mo ma mh (nI hn) th mk mz mt (nI tn) (nI TT.2.1) TT.2.2.1 TT.2.2.2.1 TT.2.2.2.2, aI T mt 60 tx] H := hP
  have hD : va_D A [oMo mo ma mh (nI hn) th mk mz mt (nI tn) (nI TT.2.1) TT.2.2.1 TT.2.2.2.1 TT.2.2.2.2, aI T mt 60 tx] := hD
  refine W.eq (g2 := F0 m 4 ls [.int TT.1]) rfl ?_
  refine lv_istore_n (lv' := [(1, .int TT.1), (0, .ref mo)]) hx hb dX9_firstError_4 rfl hl (by decide) rfl (fun ls hl => ?_)
  refine lv_iload_n hx hb dX9_firstError_5 rfl (lv_at hl 0 rfl) ?_
  refine lv_iconst (v := (-1)) hx hb dX9_firstError_6 (by decide) ?_
  refine lv_icmp_ne (tgt := 18) hx hb dX9_firstError_7 (by decide) (fun _ => ?_) (fun c_x => absurd c_x he)
  refine lv_aload_n hx hb dX9_firstError_18 rfl (lv_at hl 1 rfl) ?_
  refine lv_iload_n hx hb dX9_firstError_19 rfl (lv_at hl 0 rfl) ?_
  have hP := hP.sub (ws' := [oMo mo ma mh (nI hn) th mk mz mt (nI tn) (nI TT.2.1) TT.2.2.1 TT.2.2.2.1 TT.2.2.2.2] ++ [aI T mt 60 tx]) [0, 1] rfl
  have hD := hD.sub (ws' := [oMo mo ma mh (nI hn) th mk mz mt (nI tn) (nI TT.2.1) TT.2.2.1 TT.2.2.2.1 TT.2.2.2.2] ++ [aI T mt 60 tx]) [0, 1] (by decide) rfl
  refine kV (ci := 8) (As := [.int TT.1]) (rest := []) ⟨hx, hb, hml, hown, hts⟩ (c_X9_told l D T mo ma mh mk mz mt hn th tn TT.2.1 TT.2.2.1 TT.2.2.2.1 TT.2.2.2.2 TT.1 ) (cwV 1 hts gX9_firstError_X9_told rfl rfl rfl (by decide +kernel) ⟨Nat.le_of_ble_eq_true rfl, Nat.le_of_ble_eq_true rfl⟩) hC hP hD hS hA rfl rfl rfl hl.1 rfl (Nat.le_of_ble_eq_true rfl) dX9_firstError_20 ⟨Nat.zero_le _, Nat.zero_le _⟩ (fun H locs hP hD hS => ?_)
  have hP : va_P D vwCl [oMo mo ma mh (nI hn) 0 mk mz mt (nI tn) (nI TT.2.1) TT.2.2.1 TT.2.2.2.1 TT.2.2.2.2, aI T mt 60 tx] H := hP
  have hD : va_D A [oMo mo ma mh (nI hn) 0 mk mz mt (nI tn) (nI TT.2.1) TT.2.2.1 TT.2.2.2.1 TT.2.2.2.2, aI T mt 60 tx] := hD
  refine W.eq (g2 := F0 m 23 ls [.int TT.1]) rfl ?_
  exact hret _ _ _ _ _ (fun Qc free hq hf => W.iret hx hb hr hq hf dX9_firstError_23 hlk) hP hD hS
set_option maxHeartbeats 4000000 in
set_option maxRecDepth 100000 in
theorem c_X9_firstError_no (l : Launch) (D : va_G) (T : Nat → ClassId) (mo ma mh mk mz mt : Nat) (tx : Nat → Int32) (hn : Nat) (th : Int32) (tn ax : Nat) (sc ti pp : Int32) (N : Nat) (TT : Int32 × Nat × Int32 × Int32 × Int32) (htn : tn ≤ 60) (hT : erX tx tn N false true 0 0 0 0 ti pp = some TT) (he : TT.1 = -1) : kM l D T yX9_firstError wsX9_firstError rX9_firstError [.ref mo] [oMo mo ma mh (nI hn) th mk mz mt (nI tn) (nI ax) sc ti pp, aI T mt 60 tx] (some (.int 0)) [oMo mo ma mh (nI hn) 1 mk mz mt (nI tn) (nI TT.2.1) TT.2.2.1 TT.2.2.2.1 TT.2.2.2.2, aI T mt 60 tx] := by
  refine kM.of (cc := cX9_firstError) (maxL := 2) (ret := some .int) (by decide) rfl (Nat.le_of_ble_eq_true rfl) ?_
  intro p e s m below meth c A Q ls hx hb hml hown hr hlk hts hC hP hD hS hA hl hret
  have hl : lv_has ls 2 [(0, .ref mo)] := hl
  have hP : va_P D vwCl [oMo mo ma mh (nI hn) th mk mz mt (nI tn) (nI ax) sc ti pp, aI T mt 60 tx] s.heap := hP
  have hD : va_D A [oMo mo ma mh (nI hn) th mk mz mt (nI tn) (nI ax) sc ti pp, aI T mt 60 tx] := hD
  refine lv_aload_n hx hb dX9_firstError_0 rfl (lv_at hl 0 rfl) ?_
  have hP := hP.sub (ws' := [oMo mo ma mh (nI hn) th mk mz mt (nI tn) (nI ax) sc ti pp, aI T mt 60 tx] ++ []) [0, 1] rfl
  have hD := hD.sub (ws' := [oMo mo ma mh (nI hn) th mk mz mt (nI tn) (nI ax) sc ti pp, aI T mt 60 tx] ++ []) [0, 1] (by decide) rfl
  refine kV (ci := 8) (As := []) (rest := []) ⟨hx, hb, hml, hown, hts⟩ (c_X9_errorOfText l D T mo ma mh mk mz mt tx hn th tn ax sc ti pp N TT (by first | omega | assumption) (by first | omega | assumption)) (cwV 0 hts gX9_firstError_X9_errorOfText rfl rfl rfl (by decide +kernel) ⟨Nat.le_of_ble_eq_true rfl, Nat.le_of_ble_eq_true rfl⟩) hC hP hD hS hA rfl rfl rfl hl.1 rfl (Nat.le_of_ble_eq_true rfl) dX9_firstError_1 ⟨Nat.zero_le _, Nat.zero_le _⟩ (fun H locs hP hD hS => ?_)
  have hP : va_P D vwCl [oMo mo ma mh (nI hn) th mk mz mt (nI tn) (nI TT.2.1) TT.2.2.1 TT.2.2.2.1 TT.2.2.2.2, aI T mt 60 tx] H := hP
  have hD : va_D A [oMo mo ma mh (nI hn) th mk mz mt (nI tn) (nI TT.2.1) TT.2.2.1 TT.2.2.2.1 TT.2.2.2.2, aI T mt 60 tx] := hD
  refine W.eq (g2 := F0 m 4 ls [.int TT.1]) rfl ?_
  refine lv_istore_n (lv' := [(1, .int TT.1), (0, .ref mo)]) hx hb dX9_firstError_4 rfl hl (by decide) rfl (fun ls hl => ?_)
  refine lv_iload_n hx hb dX9_firstError_5 rfl (lv_at hl 0 rfl) ?_
  refine lv_iconst (v := (-1)) hx hb dX9_firstError_6 (by decide) ?_
  refine lv_icmp_ne (tgt := 18) hx hb dX9_firstError_7 (by decide) (fun c_x => absurd he c_x) (fun _ => ?_)
  refine lv_aload_n hx hb dX9_firstError_10 rfl (lv_at hl 1 rfl) ?_
  refine lv_iconst (v := 1) hx hb dX9_firstError_11 (by decide) ?_
  have hP := hP.sub (ws' := [oMo mo ma mh (nI hn) th mk mz mt (nI tn) (nI TT.2.1) TT.2.2.1 TT.2.2.2.1 TT.2.2.2.2] ++ [aI T mt 60 tx]) [0, 1] rfl
  have hD := hD.sub (ws' := [oMo mo ma mh (nI hn) th mk mz mt (nI tn) (nI TT.2.1) TT.2.2.1 TT.2.2.2.1 TT.2.2.2.2] ++ [aI T mt 60 tx]) [0, 1] (by decide) rfl
  refine kV (ci := 8) (As := [.int 1]) (rest := []) ⟨hx, hb, hml, hown, hts⟩ (c_X9_fails l D T mo ma mh mk mz mt hn th tn TT.2.1 TT.2.2.1 TT.2.2.2.1 TT.2.2.2.2 1 ) (cwV 1 hts gX9_firstError_X9_fails rfl rfl rfl (by decide +kernel) ⟨Nat.le_of_ble_eq_true rfl, Nat.le_of_ble_eq_true rfl⟩) hC hP hD hS hA rfl rfl rfl hl.1 rfl (Nat.le_of_ble_eq_true rfl) dX9_firstError_12 ⟨Nat.zero_le _, Nat.zero_le _⟩ (fun H locs hP hD hS => ?_)
  have hP : va_P D vwCl [oMo mo ma mh (nI hn) 1 mk mz mt (nI tn) (nI TT.2.1) TT.2.2.1 TT.2.2.2.1 TT.2.2.2.2, aI T mt 60 tx] H := hP
  have hD : va_D A [oMo mo ma mh (nI hn) 1 mk mz mt (nI tn) (nI TT.2.1) TT.2.2.1 TT.2.2.2.1 TT.2.2.2.2, aI T mt 60 tx] := hD
  refine W.eq (g2 := F0 m 15 ls [.int 0]) rfl ?_
  refine lv_goto (tgt := 23) hx hb dX9_firstError_15 (by decide) ?_
  exact hret _ _ _ _ _ (fun Qc free hq hf => W.iret hx hb hr hq hf dX9_firstError_23 hlk) hP hD hS
abbrev rX9_callsOfSong : Room := { frames := 5, cells := 0, slots := 0, locals := 113 }
set_option maxHeartbeats 4000000 in
set_option maxRecDepth 100000 in
theorem c_X9_callsOfSong (l : Launch) (D : va_G) (T : Nat → ClassId) (mo ma mh mk mz mt : Nat) (tx : Nat → Int32) (hn : Nat) (th : Int32) (tn ax : Nat) (sc ti pp : Int32) (N : Nat) (TT : Int32 × Nat × Int32 × Int32 × Int32) (htn : tn ≤ 60) (hT : erX tx tn N false true 0 0 0 0 ti pp = some TT) (he : TT.1 = -1) : kM l D T yX9_callsOfSong wsX9_callsOfSong rX9_callsOfSong [.ref mo] [oMo mo ma mh (nI hn) th mk mz mt (nI tn) (nI ax) sc ti pp, aI T mt 60 tx] (some (.int TT.2.2.1)) [oMo mo ma mh (nI hn) 0 mk mz mt (nI tn) (nI TT.2.1) TT.2.2.1 TT.2.2.2.1 TT.2.2.2.2, aI T mt 60 tx] := by
  refine kM.of (cc := cX9_callsOfSong) (maxL := 1) (ret := some .int) (by decide) rfl (Nat.le_of_ble_eq_true rfl) ?_
  intro p e s m below meth c A Q ls hx hb hml hown hr hlk hts hC hP hD hS hA hl hret
  have iX9 : ∀ w ∈ wsX90, w ∈ wsX9_callsOfSong := (fun _ h => List.mem_cons_of_mem _ (List.mem_append_right _ h))
  have hl : lv_has ls 1 [(0, .ref mo)] := hl
  have hP : va_P D vwCl [oMo mo ma mh (nI hn) th mk mz mt (nI tn) (nI ax) sc ti pp, aI T mt 60 tx] s.heap := hP
  have hD : va_D A [oMo mo ma mh (nI hn) th mk mz mt (nI tn) (nI ax) sc ti pp, aI T mt 60 tx] := hD
  refine lv_aload_n hx hb dX9_callsOfSong_0 rfl (lv_at hl 0 rfl) ?_
  have hP := hP.sub (ws' := [oMo mo ma mh (nI hn) th mk mz mt (nI tn) (nI ax) sc ti pp, aI T mt 60 tx] ++ []) [0, 1] rfl
  have hD := hD.sub (ws' := [oMo mo ma mh (nI hn) th mk mz mt (nI tn) (nI ax) sc ti pp, aI T mt 60 tx] ++ []) [0, 1] (by decide) rfl
  refine kV (ci := 8) (As := []) (rest := []) ⟨hx, hb, hml, hown, hts⟩ (c_X9_errorOfText l D T mo ma mh mk mz mt tx hn th tn ax sc ti pp N TT (by first | omega | assumption) (by first | omega | assumption)) (cwV 0 hts gX9_callsOfSong_X9_errorOfText rfl rfl rfl (by decide +kernel) ⟨Nat.le_of_ble_eq_true rfl, Nat.le_of_ble_eq_true rfl⟩) hC hP hD hS hA rfl rfl rfl hl.1 rfl (Nat.le_of_ble_eq_true rfl) dX9_callsOfSong_1 ⟨Nat.zero_le _, Nat.zero_le _⟩ (fun H locs hP hD hS => ?_)
  have hP : va_P D vwCl [oMo mo ma mh (nI hn) th mk mz mt (nI tn) (nI TT.2.1) TT.2.2.1 TT.2.2.2.1 TT.2.2.2.2, aI T mt 60 tx] H := hP
  have hD : va_D A [oMo mo ma mh (nI hn) th mk mz mt (nI tn) (nI TT.2.1) TT.2.2.1 TT.2.2.2.1 TT.2.2.2.2, aI T mt 60 tx] := hD
  refine W.eq (g2 := F0 m 4 ls [.int TT.1]) rfl ?_
  refine lv_iconst (v := (-1)) hx hb dX9_callsOfSong_4 (by decide) ?_
  refine lv_icmp_ne (tgt := 19) hx hb dX9_callsOfSong_5 (by decide) (fun c_x => absurd he c_x) (fun _ => ?_)
  refine lv_aload_n hx hb dX9_callsOfSong_8 rfl (lv_at hl 0 rfl) ?_
  refine lv_aload_n hx hb dX9_callsOfSong_9 rfl (lv_at hl 0 rfl) ?_
  refine va_get (D := D) (ci := 8) (v := .int TT.2.2.1) (C := RX9) (T := TX9) (N := 12) hx hb hts iX9 hown hC.1 hP 0 rfl rfl 9 (by decide) (hts (.fieldLink RX9 79 "ParrotCountsModel" "songCalls" "I") (List.mem_of_getElem? (i := 1) rfl)) (fun _ h => h) rfl dX9_callsOfSong_10 ?_
  have hP := hP.sub (ws' := [oMo mo ma mh (nI hn) th mk mz mt (nI tn) (nI TT.2.1) TT.2.2.1 TT.2.2.2.1 TT.2.2.2.2] ++ [aI T mt 60 tx]) [0, 1] rfl
  have hD := hD.sub (ws' := [oMo mo ma mh (nI hn) th mk mz mt (nI tn) (nI TT.2.1) TT.2.2.1 TT.2.2.2.1 TT.2.2.2.2] ++ [aI T mt 60 tx]) [0, 1] (by decide) rfl
  refine kV (ci := 8) (As := [.int TT.2.2.1]) (rest := []) ⟨hx, hb, hml, hown, hts⟩ (c_X9_told l D T mo ma mh mk mz mt hn th tn TT.2.1 TT.2.2.1 TT.2.2.2.1 TT.2.2.2.2 TT.2.2.1 ) (cwV 1 hts gX9_callsOfSong_X9_told rfl rfl rfl (by decide +kernel) ⟨Nat.le_of_ble_eq_true rfl, Nat.le_of_ble_eq_true rfl⟩) hC hP hD hS hA rfl rfl rfl hl.1 rfl (Nat.le_of_ble_eq_true rfl) dX9_callsOfSong_13 ⟨Nat.zero_le _, Nat.zero_le _⟩ (fun H locs hP hD hS => ?_)
  have hP : va_P D vwCl [oMo mo ma mh (nI hn) 0 mk mz mt (nI tn) (nI TT.2.1) TT.2.2.1 TT.2.2.2.1 TT.2.2.2.2, aI T mt 60 tx] H := hP
  have hD : va_D A [oMo mo ma mh (nI hn) 0 mk mz mt (nI tn) (nI TT.2.1) TT.2.2.1 TT.2.2.2.1 TT.2.2.2.2, aI T mt 60 tx] := hD
  refine W.eq (g2 := F0 m 16 ls [.int TT.2.2.1]) rfl ?_
  refine lv_goto (tgt := 24) hx hb dX9_callsOfSong_16 (by decide) ?_
  exact hret _ _ _ _ _ (fun Qc free hq hf => W.iret hx hb hr hq hf dX9_callsOfSong_24 hlk) hP hD hS
set_option maxHeartbeats 4000000 in
set_option maxRecDepth 100000 in
theorem c_X9_callsOfSong_no (l : Launch) (D : va_G) (T : Nat → ClassId) (mo ma mh mk mz mt : Nat) (tx : Nat → Int32) (hn : Nat) (th : Int32) (tn ax : Nat) (sc ti pp : Int32) (N : Nat) (TT : Int32 × Nat × Int32 × Int32 × Int32) (htn : tn ≤ 60) (hT : erX tx tn N false true 0 0 0 0 ti pp = some TT) (he : ¬ TT.1 = -1) : kM l D T yX9_callsOfSong wsX9_callsOfSong rX9_callsOfSong [.ref mo] [oMo mo ma mh (nI hn) th mk mz mt (nI tn) (nI ax) sc ti pp, aI T mt 60 tx] (some (.int 0)) [oMo mo ma mh (nI hn) 1 mk mz mt (nI tn) (nI TT.2.1) TT.2.2.1 TT.2.2.2.1 TT.2.2.2.2, aI T mt 60 tx] := by
  refine kM.of (cc := cX9_callsOfSong) (maxL := 1) (ret := some .int) (by decide) rfl (Nat.le_of_ble_eq_true rfl) ?_
  intro p e s m below meth c A Q ls hx hb hml hown hr hlk hts hC hP hD hS hA hl hret
  have hl : lv_has ls 1 [(0, .ref mo)] := hl
  have hP : va_P D vwCl [oMo mo ma mh (nI hn) th mk mz mt (nI tn) (nI ax) sc ti pp, aI T mt 60 tx] s.heap := hP
  have hD : va_D A [oMo mo ma mh (nI hn) th mk mz mt (nI tn) (nI ax) sc ti pp, aI T mt 60 tx] := hD
  refine lv_aload_n hx hb dX9_callsOfSong_0 rfl (lv_at hl 0 rfl) ?_
  have hP := hP.sub (ws' := [oMo mo ma mh (nI hn) th mk mz mt (nI tn) (nI ax) sc ti pp, aI T mt 60 tx] ++ []) [0, 1] rfl
  have hD := hD.sub (ws' := [oMo mo ma mh (nI hn) th mk mz mt (nI tn) (nI ax) sc ti pp, aI T mt 60 tx] ++ []) [0, 1] (by decide) rfl
  refine kV (ci := 8) (As := []) (rest := []) ⟨hx, hb, hml, hown, hts⟩ (c_X9_errorOfText l D T mo ma mh mk mz mt tx hn th tn ax sc ti pp N TT (by first | omega | assumption) (by first | omega | assumption)) (cwV 0 hts gX9_callsOfSong_X9_errorOfText rfl rfl rfl (by decide +kernel) ⟨Nat.le_of_ble_eq_true rfl, Nat.le_of_ble_eq_true rfl⟩) hC hP hD hS hA rfl rfl rfl hl.1 rfl (Nat.le_of_ble_eq_true rfl) dX9_callsOfSong_1 ⟨Nat.zero_le _, Nat.zero_le _⟩ (fun H locs hP hD hS => ?_)
  have hP : va_P D vwCl [oMo mo ma mh (nI hn) th mk mz mt (nI tn) (nI TT.2.1) TT.2.2.1 TT.2.2.2.1 TT.2.2.2.2, aI T mt 60 tx] H := hP
  have hD : va_D A [oMo mo ma mh (nI hn) th mk mz mt (nI tn) (nI TT.2.1) TT.2.2.1 TT.2.2.2.1 TT.2.2.2.2, aI T mt 60 tx] := hD
  refine W.eq (g2 := F0 m 4 ls [.int TT.1]) rfl ?_
  refine lv_iconst (v := (-1)) hx hb dX9_callsOfSong_4 (by decide) ?_
  refine lv_icmp_ne (tgt := 19) hx hb dX9_callsOfSong_5 (by decide) (fun _ => ?_) (fun c_x => absurd c_x he)
  refine lv_aload_n hx hb dX9_callsOfSong_19 rfl (lv_at hl 0 rfl) ?_
  refine lv_iconst (v := 1) hx hb dX9_callsOfSong_20 (by decide) ?_
  have hP := hP.sub (ws' := [oMo mo ma mh (nI hn) th mk mz mt (nI tn) (nI TT.2.1) TT.2.2.1 TT.2.2.2.1 TT.2.2.2.2] ++ [aI T mt 60 tx]) [0, 1] rfl
  have hD := hD.sub (ws' := [oMo mo ma mh (nI hn) th mk mz mt (nI tn) (nI TT.2.1) TT.2.2.1 TT.2.2.2.1 TT.2.2.2.2] ++ [aI T mt 60 tx]) [0, 1] (by decide) rfl
  refine kV (ci := 8) (As := [.int 1]) (rest := []) ⟨hx, hb, hml, hown, hts⟩ (c_X9_fails l D T mo ma mh mk mz mt hn th tn TT.2.1 TT.2.2.1 TT.2.2.2.1 TT.2.2.2.2 1 ) (cwV 1 hts gX9_callsOfSong_X9_fails rfl rfl rfl (by decide +kernel) ⟨Nat.le_of_ble_eq_true rfl, Nat.le_of_ble_eq_true rfl⟩) hC hP hD hS hA rfl rfl rfl hl.1 rfl (Nat.le_of_ble_eq_true rfl) dX9_callsOfSong_21 ⟨Nat.zero_le _, Nat.zero_le _⟩ (fun H locs hP hD hS => ?_)
  have hP : va_P D vwCl [oMo mo ma mh (nI hn) 1 mk mz mt (nI tn) (nI TT.2.1) TT.2.2.1 TT.2.2.2.1 TT.2.2.2.2, aI T mt 60 tx] H := hP
  have hD : va_D A [oMo mo ma mh (nI hn) 1 mk mz mt (nI tn) (nI TT.2.1) TT.2.2.1 TT.2.2.2.1 TT.2.2.2.2, aI T mt 60 tx] := hD
  refine W.eq (g2 := F0 m 24 ls [.int 0]) rfl ?_
  exact hret _ _ _ _ _ (fun Qc free hq hf => W.iret hx hb hr hq hf dX9_callsOfSong_24 hlk) hP hD hS
abbrev rX9_hearSong : Room := { frames := 5, cells := 0, slots := 0, locals := 113 }
set_option maxHeartbeats 4000000 in
set_option maxRecDepth 100000 in
theorem c_X9_hearSong_bad (l : Launch) (D : va_G) (T : Nat → ClassId) (mo ma mh mk mz mt : Nat) (al hy tx : Nat → Int32) (hn : Nat) (th : Int32) (tn ax : Nat) (sc ti pp : Int32) (N : Nat) (TT : Int32 × Nat × Int32 × Int32 × Int32) (htn : tn ≤ 60) (hT : erX tx tn N false true 0 0 0 0 ti pp = some TT) (he : ¬ TT.1 = -1) : kM l D T yX9_hearSong wsX9_hearSong rX9_hearSong [.ref mo] [oMo mo ma mh (nI hn) th mk mz mt (nI tn) (nI ax) sc ti pp, aI T ma 266 al, aI T mh 1330 hy, aI T mt 60 tx] (some (.int 0)) [oMo mo ma mh (nI hn) 1 mk mz mt (nI tn) (nI TT.2.1) TT.2.2.1 TT.2.2.2.1 TT.2.2.2.2, aI T ma 266 al, aI T mh 1330 hy, aI T mt 60 tx] := by
  refine kM.of (cc := cX9_hearSong) (maxL := 1) (ret := some .int) (by decide) rfl (Nat.le_of_ble_eq_true rfl) ?_
  intro p e s m below meth c A Q ls hx hb hml hown hr hlk hts hC hP hD hS hA hl hret
  have hl : lv_has ls 1 [(0, .ref mo)] := hl
  have hP : va_P D vwCl [oMo mo ma mh (nI hn) th mk mz mt (nI tn) (nI ax) sc ti pp, aI T ma 266 al, aI T mh 1330 hy, aI T mt 60 tx] s.heap := hP
  have hD : va_D A [oMo mo ma mh (nI hn) th mk mz mt (nI tn) (nI ax) sc ti pp, aI T ma 266 al, aI T mh 1330 hy, aI T mt 60 tx] := hD
  refine lv_aload_n hx hb dX9_hearSong_0 rfl (lv_at hl 0 rfl) ?_
  have hP := hP.sub (ws' := [oMo mo ma mh (nI hn) th mk mz mt (nI tn) (nI ax) sc ti pp, aI T mt 60 tx] ++ [aI T ma 266 al, aI T mh 1330 hy]) [0, 3, 1, 2] rfl
  have hD := hD.sub (ws' := [oMo mo ma mh (nI hn) th mk mz mt (nI tn) (nI ax) sc ti pp, aI T mt 60 tx] ++ [aI T ma 266 al, aI T mh 1330 hy]) [0, 3, 1, 2] (by decide) rfl
  refine kV (ci := 8) (As := []) (rest := []) ⟨hx, hb, hml, hown, hts⟩ (c_X9_errorOfText l D T mo ma mh mk mz mt tx hn th tn ax sc ti pp N TT (by first | omega | assumption) (by first | omega | assumption)) (cwV 0 hts gX9_hearSong_X9_errorOfText rfl rfl rfl (by decide +kernel) ⟨Nat.le_of_ble_eq_true rfl, Nat.le_of_ble_eq_true rfl⟩) hC hP hD hS hA rfl rfl rfl hl.1 rfl (Nat.le_of_ble_eq_true rfl) dX9_hearSong_1 ⟨Nat.zero_le _, Nat.zero_le _⟩ (fun H locs hP hD hS => ?_)
  have hP := hP.sub (ws' := [oMo mo ma mh (nI hn) th mk mz mt (nI tn) (nI TT.2.1) TT.2.2.1 TT.2.2.2.1 TT.2.2.2.2, aI T ma 266 al, aI T mh 1330 hy, aI T mt 60 tx]) [0, 2, 3, 1] rfl
  have hD := hD.sub (ws' := [oMo mo ma mh (nI hn) th mk mz mt (nI tn) (nI TT.2.1) TT.2.2.1 TT.2.2.2.1 TT.2.2.2.2, aI T ma 266 al, aI T mh 1330 hy, aI T mt 60 tx]) [0, 2, 3, 1] (by decide) rfl
  refine W.eq (g2 := F0 m 4 ls [.int TT.1]) rfl ?_
  refine lv_iconst (v := (-1)) hx hb dX9_hearSong_4 (by decide) ?_
  refine lv_icmp_eq (tgt := 14) hx hb dX9_hearSong_5 (by decide) (fun c_x => absurd c_x he) (fun _ => ?_)
  refine lv_aload_n hx hb dX9_hearSong_8 rfl (lv_at hl 0 rfl) ?_
  refine lv_iconst (v := 1) hx hb dX9_hearSong_9 (by decide) ?_
  have hP := hP.sub (ws' := [oMo mo ma mh (nI hn) th mk mz mt (nI tn) (nI TT.2.1) TT.2.2.1 TT.2.2.2.1 TT.2.2.2.2] ++ [aI T ma 266 al, aI T mh 1330 hy, aI T mt 60 tx]) [0, 1, 2, 3] rfl
  have hD := hD.sub (ws' := [oMo mo ma mh (nI hn) th mk mz mt (nI tn) (nI TT.2.1) TT.2.2.1 TT.2.2.2.1 TT.2.2.2.2] ++ [aI T ma 266 al, aI T mh 1330 hy, aI T mt 60 tx]) [0, 1, 2, 3] (by decide) rfl
  refine kV (ci := 8) (As := [.int 1]) (rest := []) ⟨hx, hb, hml, hown, hts⟩ (c_X9_fails l D T mo ma mh mk mz mt hn th tn TT.2.1 TT.2.2.1 TT.2.2.2.1 TT.2.2.2.2 1 ) (cwV 1 hts gX9_hearSong_X9_fails rfl rfl rfl (by decide +kernel) ⟨Nat.le_of_ble_eq_true rfl, Nat.le_of_ble_eq_true rfl⟩) hC hP hD hS hA rfl rfl rfl hl.1 rfl (Nat.le_of_ble_eq_true rfl) dX9_hearSong_10 ⟨Nat.zero_le _, Nat.zero_le _⟩ (fun H locs hP hD hS => ?_)
  have hP : va_P D vwCl [oMo mo ma mh (nI hn) 1 mk mz mt (nI tn) (nI TT.2.1) TT.2.2.1 TT.2.2.2.1 TT.2.2.2.2, aI T ma 266 al, aI T mh 1330 hy, aI T mt 60 tx] H := hP
  have hD : va_D A [oMo mo ma mh (nI hn) 1 mk mz mt (nI tn) (nI TT.2.1) TT.2.2.1 TT.2.2.2.1 TT.2.2.2.2, aI T ma 266 al, aI T mh 1330 hy, aI T mt 60 tx] := hD
  refine W.eq (g2 := F0 m 13 ls [.int 0]) rfl ?_
  exact hret _ _ _ _ _ (fun Qc free hq hf => W.iret hx hb hr hq hf dX9_hearSong_13 hlk) hP hD hS
set_option maxHeartbeats 4000000 in
set_option maxRecDepth 100000 in
theorem c_X9_hearSong_many1 (l : Launch) (D : va_G) (T : Nat → ClassId) (mo ma mh mk mz mt : Nat) (al hy tx : Nat → Int32) (hn : Nat) (th : Int32) (tn ax : Nat) (sc ti pp : Int32) (N : Nat) (TT : Int32 × Nat × Int32 × Int32 × Int32) (htn : tn ≤ 60) (hT : erX tx tn N false true 0 0 0 0 ti pp = some TT) (he : TT.1 = -1) (hm : ¬ TT.2.2.1 ≤ 1000) : kM l D T yX9_hearSong wsX9_hearSong rX9_hearSong [.ref mo] [oMo mo ma mh (nI hn) th mk mz mt (nI tn) (nI ax) sc ti pp, aI T ma 266 al, aI T mh 1330 hy, aI T mt 60 tx] (some (.int 0)) [oMo mo ma mh (nI hn) 2 mk mz mt (nI tn) (nI TT.2.1) TT.2.2.1 TT.2.2.2.1 TT.2.2.2.2, aI T ma 266 al, aI T mh 1330 hy, aI T mt 60 tx] := by
  refine kM.of (cc := cX9_hearSong) (maxL := 1) (ret := some .int) (by decide) rfl (Nat.le_of_ble_eq_true rfl) ?_
  intro p e s m below meth c A Q ls hx hb hml hown hr hlk hts hC hP hD hS hA hl hret
  have iX9 : ∀ w ∈ wsX90, w ∈ wsX9_hearSong := (fun _ h => List.mem_cons_of_mem _ (List.mem_append_right _ h))
  have hl : lv_has ls 1 [(0, .ref mo)] := hl
  have hP : va_P D vwCl [oMo mo ma mh (nI hn) th mk mz mt (nI tn) (nI ax) sc ti pp, aI T ma 266 al, aI T mh 1330 hy, aI T mt 60 tx] s.heap := hP
  have hD : va_D A [oMo mo ma mh (nI hn) th mk mz mt (nI tn) (nI ax) sc ti pp, aI T ma 266 al, aI T mh 1330 hy, aI T mt 60 tx] := hD
  refine lv_aload_n hx hb dX9_hearSong_0 rfl (lv_at hl 0 rfl) ?_
  have hP := hP.sub (ws' := [oMo mo ma mh (nI hn) th mk mz mt (nI tn) (nI ax) sc ti pp, aI T mt 60 tx] ++ [aI T ma 266 al, aI T mh 1330 hy]) [0, 3, 1, 2] rfl
  have hD := hD.sub (ws' := [oMo mo ma mh (nI hn) th mk mz mt (nI tn) (nI ax) sc ti pp, aI T mt 60 tx] ++ [aI T ma 266 al, aI T mh 1330 hy]) [0, 3, 1, 2] (by decide) rfl
  refine kV (ci := 8) (As := []) (rest := []) ⟨hx, hb, hml, hown, hts⟩ (c_X9_errorOfText l D T mo ma mh mk mz mt tx hn th tn ax sc ti pp N TT (by first | omega | assumption) (by first | omega | assumption)) (cwV 0 hts gX9_hearSong_X9_errorOfText rfl rfl rfl (by decide +kernel) ⟨Nat.le_of_ble_eq_true rfl, Nat.le_of_ble_eq_true rfl⟩) hC hP hD hS hA rfl rfl rfl hl.1 rfl (Nat.le_of_ble_eq_true rfl) dX9_hearSong_1 ⟨Nat.zero_le _, Nat.zero_le _⟩ (fun H locs hP hD hS => ?_)
  have hP := hP.sub (ws' := [oMo mo ma mh (nI hn) th mk mz mt (nI tn) (nI TT.2.1) TT.2.2.1 TT.2.2.2.1 TT.2.2.2.2, aI T ma 266 al, aI T mh 1330 hy, aI T mt 60 tx]) [0, 2, 3, 1] rfl
  have hD := hD.sub (ws' := [oMo mo ma mh (nI hn) th mk mz mt (nI tn) (nI TT.2.1) TT.2.2.1 TT.2.2.2.1 TT.2.2.2.2, aI T ma 266 al, aI T mh 1330 hy, aI T mt 60 tx]) [0, 2, 3, 1] (by decide) rfl
  refine W.eq (g2 := F0 m 4 ls [.int TT.1]) rfl ?_
  refine lv_iconst (v := (-1)) hx hb dX9_hearSong_4 (by decide) ?_
  refine lv_icmp_eq (tgt := 14) hx hb dX9_hearSong_5 (by decide) (fun _ => ?_) (fun c_x => absurd he c_x)
  refine lv_aload_n hx hb dX9_hearSong_14 rfl (lv_at hl 0 rfl) ?_
  refine va_get (D := D) (ci := 8) (v := .int TT.2.2.1) (C := RX9) (T := TX9) (N := 12) hx hb hts iX9 hown hC.1 hP 0 rfl rfl 9 (by decide) (hts (.fieldLink RX9 79 "ParrotCountsModel" "songCalls" "I") (List.mem_of_getElem? (i := 1) rfl)) (fun _ h => h) rfl dX9_hearSong_15 ?_
  refine lv_sipush (v := 1000) hx hb dX9_hearSong_18 (by decide) ?_
  refine lv_icmp_gt (tgt := 38) hx hb dX9_hearSong_21 (by decide) (fun _ => ?_) (fun c_x => absurd (Int32.not_le.mp hm) c_x)
  refine lv_aload_n hx hb dX9_hearSong_38 rfl (lv_at hl 0 rfl) ?_
  refine lv_iconst (v := 2) hx hb dX9_hearSong_39 (by decide) ?_
  have hP := hP.sub (ws' := [oMo mo ma mh (nI hn) th mk mz mt (nI tn) (nI TT.2.1) TT.2.2.1 TT.2.2.2.1 TT.2.2.2.2] ++ [aI T ma 266 al, aI T mh 1330 hy, aI T mt 60 tx]) [0, 1, 2, 3] rfl
  have hD := hD.sub (ws' := [oMo mo ma mh (nI hn) th mk mz mt (nI tn) (nI TT.2.1) TT.2.2.1 TT.2.2.2.1 TT.2.2.2.2] ++ [aI T ma 266 al, aI T mh 1330 hy, aI T mt 60 tx]) [0, 1, 2, 3] (by decide) rfl
  refine kV (ci := 8) (As := [.int 2]) (rest := []) ⟨hx, hb, hml, hown, hts⟩ (c_X9_fails l D T mo ma mh mk mz mt hn th tn TT.2.1 TT.2.2.1 TT.2.2.2.1 TT.2.2.2.2 2 ) (cwV 1 hts gX9_hearSong_X9_fails rfl rfl rfl (by decide +kernel) ⟨Nat.le_of_ble_eq_true rfl, Nat.le_of_ble_eq_true rfl⟩) hC hP hD hS hA rfl rfl rfl hl.1 rfl (Nat.le_of_ble_eq_true rfl) dX9_hearSong_40 ⟨Nat.zero_le _, Nat.zero_le _⟩ (fun H locs hP hD hS => ?_)
  have hP : va_P D vwCl [oMo mo ma mh (nI hn) 2 mk mz mt (nI tn) (nI TT.2.1) TT.2.2.1 TT.2.2.2.1 TT.2.2.2.2, aI T ma 266 al, aI T mh 1330 hy, aI T mt 60 tx] H := hP
  have hD : va_D A [oMo mo ma mh (nI hn) 2 mk mz mt (nI tn) (nI TT.2.1) TT.2.2.1 TT.2.2.2.1 TT.2.2.2.2, aI T ma 266 al, aI T mh 1330 hy, aI T mt 60 tx] := hD
  refine W.eq (g2 := F0 m 43 ls [.int 0]) rfl ?_
  exact hret _ _ _ _ _ (fun Qc free hq hf => W.iret hx hb hr hq hf dX9_hearSong_43 hlk) hP hD hS
set_option maxHeartbeats 4000000 in
set_option maxRecDepth 100000 in
theorem c_X9_hearSong_many2 (l : Launch) (D : va_G) (T : Nat → ClassId) (mo ma mh mk mz mt : Nat) (al hy tx : Nat → Int32) (hn : Nat) (th : Int32) (tn ax : Nat) (sc ti pp : Int32) (N : Nat) (TT : Int32 × Nat × Int32 × Int32 × Int32) (htn : tn ≤ 60) (hT : erX tx tn N false true 0 0 0 0 ti pp = some TT) (he : TT.1 = -1) (hm : TT.2.2.1 ≤ 1000) (hm2 : ¬ TT.2.2.1 + smN (rwF al 0) 26 ≤ 99999) : kM l D T yX9_hearSong wsX9_hearSong rX9_hearSong [.ref mo] [oMo mo ma mh (nI hn) th mk mz mt (nI tn) (nI ax) sc ti pp, aI T ma 266 al, aI T mh 1330 hy, aI T mt 60 tx] (some (.int 0)) [oMo mo ma mh (nI hn) 2 mk mz mt (nI tn) (nI TT.2.1) TT.2.2.1 TT.2.2.2.1 TT.2.2.2.2, aI T ma 266 al, aI T mh 1330 hy, aI T mt 60 tx] := by
  refine kM.of (cc := cX9_hearSong) (maxL := 1) (ret := some .int) (by decide) rfl (Nat.le_of_ble_eq_true rfl) ?_
  intro p e s m below meth c A Q ls hx hb hml hown hr hlk hts hC hP hD hS hA hl hret
  have iX9 : ∀ w ∈ wsX90, w ∈ wsX9_hearSong := (fun _ h => List.mem_cons_of_mem _ (List.mem_append_right _ h))
  have hl : lv_has ls 1 [(0, .ref mo)] := hl
  have hP : va_P D vwCl [oMo mo ma mh (nI hn) th mk mz mt (nI tn) (nI ax) sc ti pp, aI T ma 266 al, aI T mh 1330 hy, aI T mt 60 tx] s.heap := hP
  have hD : va_D A [oMo mo ma mh (nI hn) th mk mz mt (nI tn) (nI ax) sc ti pp, aI T ma 266 al, aI T mh 1330 hy, aI T mt 60 tx] := hD
  refine lv_aload_n hx hb dX9_hearSong_0 rfl (lv_at hl 0 rfl) ?_
  have hP := hP.sub (ws' := [oMo mo ma mh (nI hn) th mk mz mt (nI tn) (nI ax) sc ti pp, aI T mt 60 tx] ++ [aI T ma 266 al, aI T mh 1330 hy]) [0, 3, 1, 2] rfl
  have hD := hD.sub (ws' := [oMo mo ma mh (nI hn) th mk mz mt (nI tn) (nI ax) sc ti pp, aI T mt 60 tx] ++ [aI T ma 266 al, aI T mh 1330 hy]) [0, 3, 1, 2] (by decide) rfl
  refine kV (ci := 8) (As := []) (rest := []) ⟨hx, hb, hml, hown, hts⟩ (c_X9_errorOfText l D T mo ma mh mk mz mt tx hn th tn ax sc ti pp N TT (by first | omega | assumption) (by first | omega | assumption)) (cwV 0 hts gX9_hearSong_X9_errorOfText rfl rfl rfl (by decide +kernel) ⟨Nat.le_of_ble_eq_true rfl, Nat.le_of_ble_eq_true rfl⟩) hC hP hD hS hA rfl rfl rfl hl.1 rfl (Nat.le_of_ble_eq_true rfl) dX9_hearSong_1 ⟨Nat.zero_le _, Nat.zero_le _⟩ (fun H locs hP hD hS => ?_)
  have hP := hP.sub (ws' := [oMo mo ma mh (nI hn) th mk mz mt (nI tn) (nI TT.2.1) TT.2.2.1 TT.2.2.2.1 TT.2.2.2.2, aI T ma 266 al, aI T mh 1330 hy, aI T mt 60 tx]) [0, 2, 3, 1] rfl
  have hD := hD.sub (ws' := [oMo mo ma mh (nI hn) th mk mz mt (nI tn) (nI TT.2.1) TT.2.2.1 TT.2.2.2.1 TT.2.2.2.2, aI T ma 266 al, aI T mh 1330 hy, aI T mt 60 tx]) [0, 2, 3, 1] (by decide) rfl
  refine W.eq (g2 := F0 m 4 ls [.int TT.1]) rfl ?_
  refine lv_iconst (v := (-1)) hx hb dX9_hearSong_4 (by decide) ?_
  refine lv_icmp_eq (tgt := 14) hx hb dX9_hearSong_5 (by decide) (fun _ => ?_) (fun c_x => absurd he c_x)
  refine lv_aload_n hx hb dX9_hearSong_14 rfl (lv_at hl 0 rfl) ?_
  refine va_get (D := D) (ci := 8) (v := .int TT.2.2.1) (C := RX9) (T := TX9) (N := 12) hx hb hts iX9 hown hC.1 hP 0 rfl rfl 9 (by decide) (hts (.fieldLink RX9 79 "ParrotCountsModel" "songCalls" "I") (List.mem_of_getElem? (i := 1) rfl)) (fun _ h => h) rfl dX9_hearSong_15 ?_
  refine lv_sipush (v := 1000) hx hb dX9_hearSong_18 (by decide) ?_
  refine lv_icmp_gt (tgt := 38) hx hb dX9_hearSong_21 (by decide) (fun c_x => absurd c_x (Int32.not_lt.mpr hm)) (fun _ => ?_)
  refine lv_aload_n hx hb dX9_hearSong_24 rfl (lv_at hl 0 rfl) ?_
  refine va_get (D := D) (ci := 8) (v := .int TT.2.2.1) (C := RX9) (T := TX9) (N := 12) hx hb hts iX9 hown hC.1 hP 0 rfl rfl 9 (by decide) (hts (.fieldLink RX9 79 "ParrotCountsModel" "songCalls" "I") (List.mem_of_getElem? (i := 1) rfl)) (fun _ h => h) rfl dX9_hearSong_25 ?_
  refine lv_aload_n hx hb dX9_hearSong_28 rfl (lv_at hl 0 rfl) ?_
  have hP := hP.sub (ws' := [oMo mo ma mh (nI hn) th mk mz mt (nI tn) (nI TT.2.1) TT.2.2.1 TT.2.2.2.1 TT.2.2.2.2, aI T ma 266 al] ++ [aI T mh 1330 hy, aI T mt 60 tx]) [0, 1, 2, 3] rfl
  have hD := hD.sub (ws' := [oMo mo ma mh (nI hn) th mk mz mt (nI tn) (nI TT.2.1) TT.2.2.1 TT.2.2.2.1 TT.2.2.2.2, aI T ma 266 al] ++ [aI T mh 1330 hy, aI T mt 60 tx]) [0, 1, 2, 3] (by decide) rfl
  refine kV (ci := 8) (As := []) (rest := [.int TT.2.2.1]) ⟨hx, hb, hml, hown, hts⟩ (c_X9_callsNow l D T mo ma mh mk mz mt al hn th tn TT.2.1 TT.2.2.1 TT.2.2.2.1 TT.2.2.2.2 ) (cwV 0 hts gX9_hearSong_X9_callsNow rfl rfl rfl (by decide +kernel) ⟨Nat.le_of_ble_eq_true rfl, Nat.le_of_ble_eq_true rfl⟩) hC hP hD hS hA rfl rfl rfl hl.1 rfl (Nat.le_of_ble_eq_true rfl) dX9_hearSong_29 ⟨Nat.zero_le _, Nat.zero_le _⟩ (fun H locs hP hD hS => ?_)
  have hP : va_P D vwCl [oMo mo ma mh (nI hn) th mk mz mt (nI tn) (nI TT.2.1) TT.2.2.1 TT.2.2.2.1 TT.2.2.2.2, aI T ma 266 al, aI T mh 1330 hy, aI T mt 60 tx] H := hP
  have hD : va_D A [oMo mo ma mh (nI hn) th mk mz mt (nI tn) (nI TT.2.1) TT.2.2.1 TT.2.2.2.1 TT.2.2.2.2, aI T ma 266 al, aI T mh 1330 hy, aI T mt 60 tx] := hD
  refine W.eq (g2 := F0 m 32 ls [.int (smN (rwF al 0) 26), .int TT.2.2.1]) rfl ?_
  refine lv_iadd hx hb dX9_hearSong_32 ?_
  refine lv_ldc (v := 99999) hx hb hown (hts (.constant RX9 69 99999) (List.mem_of_getElem? (i := 2) rfl)) dX9_hearSong_33 ?_
  refine lv_icmp_le (tgt := 44) hx hb dX9_hearSong_35 (by decide) (fun c_x => absurd c_x hm2) (fun _ => ?_)
  refine lv_aload_n hx hb dX9_hearSong_38 rfl (lv_at hl 0 rfl) ?_
  refine lv_iconst (v := 2) hx hb dX9_hearSong_39 (by decide) ?_
  have hP := hP.sub (ws' := [oMo mo ma mh (nI hn) th mk mz mt (nI tn) (nI TT.2.1) TT.2.2.1 TT.2.2.2.1 TT.2.2.2.2] ++ [aI T ma 266 al, aI T mh 1330 hy, aI T mt 60 tx]) [0, 1, 2, 3] rfl
  have hD := hD.sub (ws' := [oMo mo ma mh (nI hn) th mk mz mt (nI tn) (nI TT.2.1) TT.2.2.1 TT.2.2.2.1 TT.2.2.2.2] ++ [aI T ma 266 al, aI T mh 1330 hy, aI T mt 60 tx]) [0, 1, 2, 3] (by decide) rfl
  refine kV (ci := 8) (As := [.int 2]) (rest := []) ⟨hx, hb, hml, hown, hts⟩ (c_X9_fails l D T mo ma mh mk mz mt hn th tn TT.2.1 TT.2.2.1 TT.2.2.2.1 TT.2.2.2.2 2 ) (cwV 1 hts gX9_hearSong_X9_fails rfl rfl rfl (by decide +kernel) ⟨Nat.le_of_ble_eq_true rfl, Nat.le_of_ble_eq_true rfl⟩) hC hP hD hS hA rfl rfl rfl hl.1 rfl (Nat.le_of_ble_eq_true rfl) dX9_hearSong_40 ⟨Nat.zero_le _, Nat.zero_le _⟩ (fun H locs hP hD hS => ?_)
  have hP : va_P D vwCl [oMo mo ma mh (nI hn) 2 mk mz mt (nI tn) (nI TT.2.1) TT.2.2.1 TT.2.2.2.1 TT.2.2.2.2, aI T ma 266 al, aI T mh 1330 hy, aI T mt 60 tx] H := hP
  have hD : va_D A [oMo mo ma mh (nI hn) 2 mk mz mt (nI tn) (nI TT.2.1) TT.2.2.1 TT.2.2.2.1 TT.2.2.2.2, aI T ma 266 al, aI T mh 1330 hy, aI T mt 60 tx] := hD
  refine W.eq (g2 := F0 m 43 ls [.int 0]) rfl ?_
  exact hret _ _ _ _ _ (fun Qc free hq hf => W.iret hx hb hr hq hf dX9_hearSong_43 hlk) hP hD hS
set_option maxHeartbeats 4000000 in
set_option maxRecDepth 100000 in
theorem c_X9_hearSong (l : Launch) (D : va_G) (T : Nat → ClassId) (mo ma mh mk mz mt : Nat) (al hy tx : Nat → Int32) (hn : Nat) (th : Int32) (tn ax : Nat) (sc ti pp : Int32) (N : Nat) (TT : Int32 × Nat × Int32 × Int32 × Int32) (cp N2 : Nat) (SS : (Nat → Int32) × Nat × Int32 × Int32) (htn : tn ≤ 60) (hT : erX tx tn N false true 0 0 0 0 ti pp = some TT) (hhn : hn ≤ 5) (hcp : al 264 = nI cp) (hcp9 : cp < 1000) (he : TT.1 = -1) (hm : TT.2.2.1 ≤ 1000) (hm2 : TT.2.2.1 + smN (rwF al 0) 26 ≤ 99999) (hT2 : sgX tx tn N2 0 0 0 al TT.2.2.2.1 TT.2.2.2.2 = some SS) : kM l D T yX9_hearSong wsX9_hearSong rX9_hearSong [.ref mo] [oMo mo ma mh (nI hn) th mk mz mt (nI tn) (nI ax) sc ti pp, aI T ma 266 al, aI T mh 1330 hy, aI T mt 60 tx] (some (.int (smN (rwF SS.1 0) 26))) [oMo mo ma mh (nI (chK hn + 1)) 0 mk mz mt (nI tn) (nI SS.2.1) TT.2.2.1 SS.2.2.1 SS.2.2.2, aI T ma 266 SS.1, aI T mh 1330 (chH hy al hn), aI T mt 60 tx] := by
  refine kM.of (cc := cX9_hearSong) (maxL := 1) (ret := some .int) (by decide) rfl (Nat.le_of_ble_eq_true rfl) ?_
  intro p e s m below meth c A Q ls hx hb hml hown hr hlk hts hC hP hD hS hA hl hret
  have iX9 : ∀ w ∈ wsX90, w ∈ wsX9_hearSong := (fun _ h => List.mem_cons_of_mem _ (List.mem_append_right _ h))
  have hl : lv_has ls 1 [(0, .ref mo)] := hl
  have hP : va_P D vwCl [oMo mo ma mh (nI hn) th mk mz mt (nI tn) (nI ax) sc ti pp, aI T ma 266 al, aI T mh 1330 hy, aI T mt 60 tx] s.heap := hP
  have hD : va_D A [oMo mo ma mh (nI hn) th mk mz mt (nI tn) (nI ax) sc ti pp, aI T ma 266 al, aI T mh 1330 hy, aI T mt 60 tx] := hD
  refine lv_aload_n hx hb dX9_hearSong_0 rfl (lv_at hl 0 rfl) ?_
  have hP := hP.sub (ws' := [oMo mo ma mh (nI hn) th mk mz mt (nI tn) (nI ax) sc ti pp, aI T mt 60 tx] ++ [aI T ma 266 al, aI T mh 1330 hy]) [0, 3, 1, 2] rfl
  have hD := hD.sub (ws' := [oMo mo ma mh (nI hn) th mk mz mt (nI tn) (nI ax) sc ti pp, aI T mt 60 tx] ++ [aI T ma 266 al, aI T mh 1330 hy]) [0, 3, 1, 2] (by decide) rfl
  refine kV (ci := 8) (As := []) (rest := []) ⟨hx, hb, hml, hown, hts⟩ (c_X9_errorOfText l D T mo ma mh mk mz mt tx hn th tn ax sc ti pp N TT (by first | omega | assumption) (by first | omega | assumption)) (cwV 0 hts gX9_hearSong_X9_errorOfText rfl rfl rfl (by decide +kernel) ⟨Nat.le_of_ble_eq_true rfl, Nat.le_of_ble_eq_true rfl⟩) hC hP hD hS hA rfl rfl rfl hl.1 rfl (Nat.le_of_ble_eq_true rfl) dX9_hearSong_1 ⟨Nat.zero_le _, Nat.zero_le _⟩ (fun H locs hP hD hS => ?_)
  have hP := hP.sub (ws' := [oMo mo ma mh (nI hn) th mk mz mt (nI tn) (nI TT.2.1) TT.2.2.1 TT.2.2.2.1 TT.2.2.2.2, aI T ma 266 al, aI T mh 1330 hy, aI T mt 60 tx]) [0, 2, 3, 1] rfl
  have hD := hD.sub (ws' := [oMo mo ma mh (nI hn) th mk mz mt (nI tn) (nI TT.2.1) TT.2.2.1 TT.2.2.2.1 TT.2.2.2.2, aI T ma 266 al, aI T mh 1330 hy, aI T mt 60 tx]) [0, 2, 3, 1] (by decide) rfl
  refine W.eq (g2 := F0 m 4 ls [.int TT.1]) rfl ?_
  refine lv_iconst (v := (-1)) hx hb dX9_hearSong_4 (by decide) ?_
  refine lv_icmp_eq (tgt := 14) hx hb dX9_hearSong_5 (by decide) (fun _ => ?_) (fun c_x => absurd he c_x)
  refine lv_aload_n hx hb dX9_hearSong_14 rfl (lv_at hl 0 rfl) ?_
  refine va_get (D := D) (ci := 8) (v := .int TT.2.2.1) (C := RX9) (T := TX9) (N := 12) hx hb hts iX9 hown hC.1 hP 0 rfl rfl 9 (by decide) (hts (.fieldLink RX9 79 "ParrotCountsModel" "songCalls" "I") (List.mem_of_getElem? (i := 1) rfl)) (fun _ h => h) rfl dX9_hearSong_15 ?_
  refine lv_sipush (v := 1000) hx hb dX9_hearSong_18 (by decide) ?_
  refine lv_icmp_gt (tgt := 38) hx hb dX9_hearSong_21 (by decide) (fun c_x => absurd c_x (Int32.not_lt.mpr hm)) (fun _ => ?_)
  refine lv_aload_n hx hb dX9_hearSong_24 rfl (lv_at hl 0 rfl) ?_
  refine va_get (D := D) (ci := 8) (v := .int TT.2.2.1) (C := RX9) (T := TX9) (N := 12) hx hb hts iX9 hown hC.1 hP 0 rfl rfl 9 (by decide) (hts (.fieldLink RX9 79 "ParrotCountsModel" "songCalls" "I") (List.mem_of_getElem? (i := 1) rfl)) (fun _ h => h) rfl dX9_hearSong_25 ?_
  refine lv_aload_n hx hb dX9_hearSong_28 rfl (lv_at hl 0 rfl) ?_
  have hP := hP.sub (ws' := [oMo mo ma mh (nI hn) th mk mz mt (nI tn) (nI TT.2.1) TT.2.2.1 TT.2.2.2.1 TT.2.2.2.2, aI T ma 266 al] ++ [aI T mh 1330 hy, aI T mt 60 tx]) [0, 1, 2, 3] rfl
  have hD := hD.sub (ws' := [oMo mo ma mh (nI hn) th mk mz mt (nI tn) (nI TT.2.1) TT.2.2.1 TT.2.2.2.1 TT.2.2.2.2, aI T ma 266 al] ++ [aI T mh 1330 hy, aI T mt 60 tx]) [0, 1, 2, 3] (by decide) rfl
  refine kV (ci := 8) (As := []) (rest := [.int TT.2.2.1]) ⟨hx, hb, hml, hown, hts⟩ (c_X9_callsNow l D T mo ma mh mk mz mt al hn th tn TT.2.1 TT.2.2.1 TT.2.2.2.1 TT.2.2.2.2 ) (cwV 0 hts gX9_hearSong_X9_callsNow rfl rfl rfl (by decide +kernel) ⟨Nat.le_of_ble_eq_true rfl, Nat.le_of_ble_eq_true rfl⟩) hC hP hD hS hA rfl rfl rfl hl.1 rfl (Nat.le_of_ble_eq_true rfl) dX9_hearSong_29 ⟨Nat.zero_le _, Nat.zero_le _⟩ (fun H locs hP hD hS => ?_)
  have hP : va_P D vwCl [oMo mo ma mh (nI hn) th mk mz mt (nI tn) (nI TT.2.1) TT.2.2.1 TT.2.2.2.1 TT.2.2.2.2, aI T ma 266 al, aI T mh 1330 hy, aI T mt 60 tx] H := hP
  have hD : va_D A [oMo mo ma mh (nI hn) th mk mz mt (nI tn) (nI TT.2.1) TT.2.2.1 TT.2.2.2.1 TT.2.2.2.2, aI T ma 266 al, aI T mh 1330 hy, aI T mt 60 tx] := hD
  refine W.eq (g2 := F0 m 32 ls [.int (smN (rwF al 0) 26), .int TT.2.2.1]) rfl ?_
  refine lv_iadd hx hb dX9_hearSong_32 ?_
  refine lv_ldc (v := 99999) hx hb hown (hts (.constant RX9 69 99999) (List.mem_of_getElem? (i := 2) rfl)) dX9_hearSong_33 ?_
  refine lv_icmp_le (tgt := 44) hx hb dX9_hearSong_35 (by decide) (fun _ => ?_) (fun c_x => absurd hm2 c_x)
  refine lv_aload_n hx hb dX9_hearSong_44 rfl (lv_at hl 0 rfl) ?_
  have hP := hP.sub (ws' := [oMo mo ma mh (nI hn) th mk mz mt (nI tn) (nI TT.2.1) TT.2.2.1 TT.2.2.2.1 TT.2.2.2.2, aI T ma 266 al, aI T mh 1330 hy] ++ [aI T mt 60 tx]) [0, 1, 2, 3] rfl
  have hD := hD.sub (ws' := [oMo mo ma mh (nI hn) th mk mz mt (nI tn) (nI TT.2.1) TT.2.2.1 TT.2.2.2.1 TT.2.2.2.2, aI T ma 266 al, aI T mh 1330 hy] ++ [aI T mt 60 tx]) [0, 1, 2, 3] (by decide) rfl
  refine kV (ci := 8) (As := []) (rest := []) ⟨hx, hb, hml, hown, hts⟩ (c_X9_changes l D T mo ma mh mk mz mt al hy hn th tn TT.2.1 TT.2.2.1 TT.2.2.2.1 TT.2.2.2.2 (by first | omega | assumption)) (cwV 0 hts gX9_hearSong_X9_changes rfl rfl rfl (by decide +kernel) ⟨Nat.le_of_ble_eq_true rfl, Nat.le_of_ble_eq_true rfl⟩) hC hP hD hS hA rfl rfl rfl hl.1 rfl (Nat.le_of_ble_eq_true rfl) dX9_hearSong_45 ⟨Nat.zero_le _, Nat.zero_le _⟩ (fun H locs hP hD hS => ?_)
  have hP : va_P D vwCl [oMo mo ma mh (nI (chK hn + 1)) 0 mk mz mt (nI tn) (nI TT.2.1) TT.2.2.1 TT.2.2.2.1 TT.2.2.2.2, aI T ma 266 al, aI T mh 1330 (chH hy al hn), aI T mt 60 tx] H := hP
  have hD : va_D A [oMo mo ma mh (nI (chK hn + 1)) 0 mk mz mt (nI tn) (nI TT.2.1) TT.2.2.1 TT.2.2.2.1 TT.2.2.2.2, aI T ma 266 al, aI T mh 1330 (chH hy al hn), aI T mt 60 tx] := hD
  refine W.eq (g2 := F0 m 48 ls []) rfl ?_
  refine lv_aload_n hx hb dX9_hearSong_48 rfl (lv_at hl 0 rfl) ?_
  have hP := hP.sub (ws' := [oMo mo ma mh (nI (chK hn + 1)) 0 mk mz mt (nI tn) (nI TT.2.1) TT.2.2.1 TT.2.2.2.1 TT.2.2.2.2, aI T ma 266 al, aI T mt 60 tx] ++ [aI T mh 1330 (chH hy al hn)]) [0, 1, 3, 2] rfl
  have hD := hD.sub (ws' := [oMo mo ma mh (nI (chK hn + 1)) 0 mk mz mt (nI tn) (nI TT.2.1) TT.2.2.1 TT.2.2.2.1 TT.2.2.2.2, aI T ma 266 al, aI T mt 60 tx] ++ [aI T mh 1330 (chH hy al hn)]) [0, 1, 3, 2] (by decide) rfl
  refine kV (ci := 8) (As := []) (rest := []) ⟨hx, hb, hml, hown, hts⟩ (c_X9_sings l D T mo ma mh mk mz mt al tx (chK hn + 1) 0 tn TT.2.1 TT.2.2.1 TT.2.2.2.1 TT.2.2.2.2 cp N2 SS (by first | omega | assumption) (by first | omega | assumption) (by first | omega | assumption) hT2) (cwV 0 hts gX9_hearSong_X9_sings rfl rfl rfl (by decide +kernel) ⟨Nat.le_of_ble_eq_true rfl, Nat.le_of_ble_eq_true rfl⟩) hC hP hD hS hA rfl rfl rfl hl.1 rfl (Nat.le_of_ble_eq_true rfl) dX9_hearSong_49 ⟨Nat.zero_le _, Nat.zero_le _⟩ (fun H locs hP hD hS => ?_)
  have hP := hP.sub (ws' := [oMo mo ma mh (nI (chK hn + 1)) 0 mk mz mt (nI tn) (nI SS.2.1) TT.2.2.1 SS.2.2.1 SS.2.2.2, aI T ma 266 SS.1, aI T mh 1330 (chH hy al hn), aI T mt 60 tx]) [0, 1, 3, 2] rfl
  have hD := hD.sub (ws' := [oMo mo ma mh (nI (chK hn + 1)) 0 mk mz mt (nI tn) (nI SS.2.1) TT.2.2.1 SS.2.2.1 SS.2.2.2, aI T ma 266 SS.1, aI T mh 1330 (chH hy al hn), aI T mt 60 tx]) [0, 1, 3, 2] (by decide) rfl
  refine W.eq (g2 := F0 m 52 ls []) rfl ?_
  refine lv_aload_n hx hb dX9_hearSong_52 rfl (lv_at hl 0 rfl) ?_
  have hP := hP.sub (ws' := [oMo mo ma mh (nI (chK hn + 1)) 0 mk mz mt (nI tn) (nI SS.2.1) TT.2.2.1 SS.2.2.1 SS.2.2.2, aI T ma 266 SS.1] ++ [aI T mh 1330 (chH hy al hn), aI T mt 60 tx]) [0, 1, 2, 3] rfl
  have hD := hD.sub (ws' := [oMo mo ma mh (nI (chK hn + 1)) 0 mk mz mt (nI tn) (nI SS.2.1) TT.2.2.1 SS.2.2.1 SS.2.2.2, aI T ma 266 SS.1] ++ [aI T mh 1330 (chH hy al hn), aI T mt 60 tx]) [0, 1, 2, 3] (by decide) rfl
  refine kV (ci := 8) (As := []) (rest := []) ⟨hx, hb, hml, hown, hts⟩ (c_X9_callsNow l D T mo ma mh mk mz mt SS.1 (chK hn + 1) 0 tn SS.2.1 TT.2.2.1 SS.2.2.1 SS.2.2.2 ) (cwV 0 hts gX9_hearSong_X9_callsNow rfl rfl rfl (by decide +kernel) ⟨Nat.le_of_ble_eq_true rfl, Nat.le_of_ble_eq_true rfl⟩) hC hP hD hS hA rfl rfl rfl hl.1 rfl (Nat.le_of_ble_eq_true rfl) dX9_hearSong_53 ⟨Nat.zero_le _, Nat.zero_le _⟩ (fun H locs hP hD hS => ?_)
  have hP : va_P D vwCl [oMo mo ma mh (nI (chK hn + 1)) 0 mk mz mt (nI tn) (nI SS.2.1) TT.2.2.1 SS.2.2.1 SS.2.2.2, aI T ma 266 SS.1, aI T mh 1330 (chH hy al hn), aI T mt 60 tx] H := hP
  have hD : va_D A [oMo mo ma mh (nI (chK hn + 1)) 0 mk mz mt (nI tn) (nI SS.2.1) TT.2.2.1 SS.2.2.1 SS.2.2.2, aI T ma 266 SS.1, aI T mh 1330 (chH hy al hn), aI T mt 60 tx] := hD
  refine W.eq (g2 := F0 m 56 ls [.int (smN (rwF SS.1 0) 26)]) rfl ?_
  exact hret _ _ _ _ _ (fun Qc free hq hf => W.iret hx hb hr hq hf dX9_hearSong_56 hlk) hP hD hS
abbrev rX9_mergeIn : Room := { frames := 5, cells := 0, slots := 0, locals := 110 }
set_option maxHeartbeats 4000000 in
set_option maxRecDepth 100000 in
theorem c_X9_mergeIn_no (l : Launch) (D : va_G) (T : Nat → ClassId) (mo ma mh mk mz mt : Nat) (al hy ck zk : Nat → Int32) (hn : Nat) (th : Int32) (tn ax : Nat) (sc ti pp : Int32) (hno : al 265 = 0) : kM l D T yX9_mergeIn wsX9_mergeIn rX9_mergeIn [.ref mo] [oMo mo ma mh (nI hn) th mk mz mt (nI tn) (nI ax) sc ti pp, aI T ma 266 al, aI T mh 1330 hy, aI T mk 26 ck, aI T mz 26 zk] (some (.int 0)) [oMo mo ma mh (nI hn) 1 mk mz mt (nI tn) (nI ax) sc ti pp, aI T ma 266 al, aI T mh 1330 hy, aI T mk 26 ck, aI T mz 26 zk] := by
  refine kM.of (cc := cX9_mergeIn) (maxL := 2) (ret := some .int) (by decide) rfl (Nat.le_of_ble_eq_true rfl) ?_
  intro p e s m below meth c A Q ls hx hb hml hown hr hlk hts hC hP hD hS hA hl hret
  have iX9 : ∀ w ∈ wsX90, w ∈ wsX9_mergeIn := (fun _ h => List.mem_cons_of_mem _ (List.mem_append_right _ h))
  have hl : lv_has ls 2 [(0, .ref mo)] := hl
  have hP : va_P D vwCl [oMo mo ma mh (nI hn) th mk mz mt (nI tn) (nI ax) sc ti pp, aI T ma 266 al, aI T mh 1330 hy, aI T mk 26 ck, aI T mz 26 zk] s.heap := hP
  have hD : va_D A [oMo mo ma mh (nI hn) th mk mz mt (nI tn) (nI ax) sc ti pp, aI T ma 266 al, aI T mh 1330 hy, aI T mk 26 ck, aI T mz 26 zk] := hD
  refine lv_aload_n hx hb dX9_mergeIn_0 rfl (lv_at hl 0 rfl) ?_
  refine va_get (D := D) (ci := 8) (v := .ref ma) (C := RX9) (T := TX9) (N := 12) hx hb hts iX9 hown hC.1 hP 0 rfl rfl 0 (by decide) (hts (.fieldLink RX9 7 "ParrotCountsModel" "all" "[I") (List.mem_of_getElem? (i := 1) rfl)) (fun _ h => h) rfl dX9_mergeIn_1 ?_
  refine lv_sipush (v := 265) hx hb dX9_mergeIn_4 (by decide) ?_
  refine k_iald hx hb hC.1 hP 1 0 rfl rfl (by decide) dX9_mergeIn_7 ?_
  refine lv_if_eq (tgt := 28) hx hb dX9_mergeIn_8 (by decide) (fun _ => ?_) (fun c_x => absurd hno c_x)
  refine lv_aload_n hx hb dX9_mergeIn_28 rfl (lv_at hl 0 rfl) ?_
  refine lv_iconst (v := 1) hx hb dX9_mergeIn_29 (by decide) ?_
  have hP := hP.sub (ws' := [oMo mo ma mh (nI hn) th mk mz mt (nI tn) (nI ax) sc ti pp] ++ [aI T ma 266 al, aI T mh 1330 hy, aI T mk 26 ck, aI T mz 26 zk]) [0, 1, 2, 3, 4] rfl
  have hD := hD.sub (ws' := [oMo mo ma mh (nI hn) th mk mz mt (nI tn) (nI ax) sc ti pp] ++ [aI T ma 266 al, aI T mh 1330 hy, aI T mk 26 ck, aI T mz 26 zk]) [0, 1, 2, 3, 4] (by decide) rfl
  refine kV (ci := 8) (As := [.int 1]) (rest := []) ⟨hx, hb, hml, hown, hts⟩ (c_X9_fails l D T mo ma mh mk mz mt hn th tn ax sc ti pp 1 ) (cwV 1 hts gX9_mergeIn_X9_fails rfl rfl rfl (by decide +kernel) ⟨Nat.le_of_ble_eq_true rfl, Nat.le_of_ble_eq_true rfl⟩) hC hP hD hS hA rfl rfl rfl hl.1 rfl (Nat.le_of_ble_eq_true rfl) dX9_mergeIn_30 ⟨Nat.zero_le _, Nat.zero_le _⟩ (fun H locs hP hD hS => ?_)
  have hP : va_P D vwCl [oMo mo ma mh (nI hn) 1 mk mz mt (nI tn) (nI ax) sc ti pp, aI T ma 266 al, aI T mh 1330 hy, aI T mk 26 ck, aI T mz 26 zk] H := hP
  have hD : va_D A [oMo mo ma mh (nI hn) 1 mk mz mt (nI tn) (nI ax) sc ti pp, aI T ma 266 al, aI T mh 1330 hy, aI T mk 26 ck, aI T mz 26 zk] := hD
  refine W.eq (g2 := F0 m 33 ls [.int 0]) rfl ?_
  exact hret _ _ _ _ _ (fun Qc free hq hf => W.iret hx hb hr hq hf dX9_mergeIn_33 hlk) hP hD hS
set_option maxHeartbeats 4000000 in
set_option maxRecDepth 100000 in
theorem c_X9_mergeIn_many (l : Launch) (D : va_G) (T : Nat → ClassId) (mo ma mh mk mz mt : Nat) (al hy ck zk : Nat → Int32) (hn : Nat) (th : Int32) (tn ax : Nat) (sc ti pp : Int32) (hno : ¬ al 265 = 0) (hm : ¬ smN (rwF al 0) 26 + smN (rwF al 132) 26 ≤ 99999) : kM l D T yX9_mergeIn wsX9_mergeIn rX9_mergeIn [.ref mo] [oMo mo ma mh (nI hn) th mk mz mt (nI tn) (nI ax) sc ti pp, aI T ma 266 al, aI T mh 1330 hy, aI T mk 26 ck, aI T mz 26 zk] (some (.int 0)) [oMo mo ma mh (nI hn) 1 mk mz mt (nI tn) (nI ax) sc ti pp, aI T ma 266 al, aI T mh 1330 hy, aI T mk 26 ck, aI T mz 26 zk] := by
  refine kM.of (cc := cX9_mergeIn) (maxL := 2) (ret := some .int) (by decide) rfl (Nat.le_of_ble_eq_true rfl) ?_
  intro p e s m below meth c A Q ls hx hb hml hown hr hlk hts hC hP hD hS hA hl hret
  have iX9 : ∀ w ∈ wsX90, w ∈ wsX9_mergeIn := (fun _ h => List.mem_cons_of_mem _ (List.mem_append_right _ h))
  have hl : lv_has ls 2 [(0, .ref mo)] := hl
  have hP : va_P D vwCl [oMo mo ma mh (nI hn) th mk mz mt (nI tn) (nI ax) sc ti pp, aI T ma 266 al, aI T mh 1330 hy, aI T mk 26 ck, aI T mz 26 zk] s.heap := hP
  have hD : va_D A [oMo mo ma mh (nI hn) th mk mz mt (nI tn) (nI ax) sc ti pp, aI T ma 266 al, aI T mh 1330 hy, aI T mk 26 ck, aI T mz 26 zk] := hD
  refine lv_aload_n hx hb dX9_mergeIn_0 rfl (lv_at hl 0 rfl) ?_
  refine va_get (D := D) (ci := 8) (v := .ref ma) (C := RX9) (T := TX9) (N := 12) hx hb hts iX9 hown hC.1 hP 0 rfl rfl 0 (by decide) (hts (.fieldLink RX9 7 "ParrotCountsModel" "all" "[I") (List.mem_of_getElem? (i := 1) rfl)) (fun _ h => h) rfl dX9_mergeIn_1 ?_
  refine lv_sipush (v := 265) hx hb dX9_mergeIn_4 (by decide) ?_
  refine k_iald hx hb hC.1 hP 1 0 rfl rfl (by decide) dX9_mergeIn_7 ?_
  refine lv_if_eq (tgt := 28) hx hb dX9_mergeIn_8 (by decide) (fun c_x => absurd c_x hno) (fun _ => ?_)
  refine lv_aload_n hx hb dX9_mergeIn_11 rfl (lv_at hl 0 rfl) ?_
  have hP := hP.sub (ws' := [oMo mo ma mh (nI hn) th mk mz mt (nI tn) (nI ax) sc ti pp, aI T ma 266 al] ++ [aI T mh 1330 hy, aI T mk 26 ck, aI T mz 26 zk]) [0, 1, 2, 3, 4] rfl
  have hD := hD.sub (ws' := [oMo mo ma mh (nI hn) th mk mz mt (nI tn) (nI ax) sc ti pp, aI T ma 266 al] ++ [aI T mh 1330 hy, aI T mk 26 ck, aI T mz 26 zk]) [0, 1, 2, 3, 4] (by decide) rfl
  refine kV (ci := 8) (As := []) (rest := []) ⟨hx, hb, hml, hown, hts⟩ (c_X9_callsNow l D T mo ma mh mk mz mt al hn th tn ax sc ti pp ) (cwV 0 hts gX9_mergeIn_X9_callsNow rfl rfl rfl (by decide +kernel) ⟨Nat.le_of_ble_eq_true rfl, Nat.le_of_ble_eq_true rfl⟩) hC hP hD hS hA rfl rfl rfl hl.1 rfl (Nat.le_of_ble_eq_true rfl) dX9_mergeIn_12 ⟨Nat.zero_le _, Nat.zero_le _⟩ (fun H locs hP hD hS => ?_)
  have hP : va_P D vwCl [oMo mo ma mh (nI hn) th mk mz mt (nI tn) (nI ax) sc ti pp, aI T ma 266 al, aI T mh 1330 hy, aI T mk 26 ck, aI T mz 26 zk] H := hP
  have hD : va_D A [oMo mo ma mh (nI hn) th mk mz mt (nI tn) (nI ax) sc ti pp, aI T ma 266 al, aI T mh 1330 hy, aI T mk 26 ck, aI T mz 26 zk] := hD
  refine W.eq (g2 := F0 m 15 ls [.int (smN (rwF al 0) 26)]) rfl ?_
  refine lv_aload_n hx hb dX9_mergeIn_15 rfl (lv_at hl 0 rfl) ?_
  refine lv_sipush (v := 132) hx hb dX9_mergeIn_16 (by decide) ?_
  have hP := hP.sub (ws' := [oMo mo ma mh (nI hn) th mk mz mt (nI tn) (nI ax) sc ti pp, aI T ma 266 al] ++ [aI T mh 1330 hy, aI T mk 26 ck, aI T mz 26 zk]) [0, 1, 2, 3, 4] rfl
  have hD := hD.sub (ws' := [oMo mo ma mh (nI hn) th mk mz mt (nI tn) (nI ax) sc ti pp, aI T ma 266 al] ++ [aI T mh 1330 hy, aI T mk 26 ck, aI T mz 26 zk]) [0, 1, 2, 3, 4] (by decide) rfl
  refine kV (ci := 8) (As := [.int 132]) (rest := [.int (smN (rwF al 0) 26)]) ⟨hx, hb, hml, hown, hts⟩ (c_X9_sum l D T mo ma mh mk mz mt al hn th tn ax sc ti pp 132 (by first | omega | assumption)) (cwV 1 hts gX9_mergeIn_X9_sum rfl rfl rfl (by decide +kernel) ⟨Nat.le_of_ble_eq_true rfl, Nat.le_of_ble_eq_true rfl⟩) hC hP hD hS hA rfl rfl rfl hl.1 rfl (Nat.le_of_ble_eq_true rfl) dX9_mergeIn_19 ⟨Nat.zero_le _, Nat.zero_le _⟩ (fun H locs hP hD hS => ?_)
  have hP : va_P D vwCl [oMo mo ma mh (nI hn) th mk mz mt (nI tn) (nI ax) sc ti pp, aI T ma 266 al, aI T mh 1330 hy, aI T mk 26 ck, aI T mz 26 zk] H := hP
  have hD : va_D A [oMo mo ma mh (nI hn) th mk mz mt (nI tn) (nI ax) sc ti pp, aI T ma 266 al, aI T mh 1330 hy, aI T mk 26 ck, aI T mz 26 zk] := hD
  refine W.eq (g2 := F0 m 22 ls [.int (smN (rwF al 132) 26), .int (smN (rwF al 0) 26)]) rfl ?_
  refine lv_iadd hx hb dX9_mergeIn_22 ?_
  refine lv_ldc (v := 99999) hx hb hown (hts (.constant RX9 69 99999) (List.mem_of_getElem? (i := 2) rfl)) dX9_mergeIn_23 ?_
  refine lv_icmp_le (tgt := 34) hx hb dX9_mergeIn_25 (by decide) (fun c_x => absurd c_x hm) (fun _ => ?_)
  refine lv_aload_n hx hb dX9_mergeIn_28 rfl (lv_at hl 0 rfl) ?_
  refine lv_iconst (v := 1) hx hb dX9_mergeIn_29 (by decide) ?_
  have hP := hP.sub (ws' := [oMo mo ma mh (nI hn) th mk mz mt (nI tn) (nI ax) sc ti pp] ++ [aI T ma 266 al, aI T mh 1330 hy, aI T mk 26 ck, aI T mz 26 zk]) [0, 1, 2, 3, 4] rfl
  have hD := hD.sub (ws' := [oMo mo ma mh (nI hn) th mk mz mt (nI tn) (nI ax) sc ti pp] ++ [aI T ma 266 al, aI T mh 1330 hy, aI T mk 26 ck, aI T mz 26 zk]) [0, 1, 2, 3, 4] (by decide) rfl
  refine kV (ci := 8) (As := [.int 1]) (rest := []) ⟨hx, hb, hml, hown, hts⟩ (c_X9_fails l D T mo ma mh mk mz mt hn th tn ax sc ti pp 1 ) (cwV 1 hts gX9_mergeIn_X9_fails rfl rfl rfl (by decide +kernel) ⟨Nat.le_of_ble_eq_true rfl, Nat.le_of_ble_eq_true rfl⟩) hC hP hD hS hA rfl rfl rfl hl.1 rfl (Nat.le_of_ble_eq_true rfl) dX9_mergeIn_30 ⟨Nat.zero_le _, Nat.zero_le _⟩ (fun H locs hP hD hS => ?_)
  have hP : va_P D vwCl [oMo mo ma mh (nI hn) 1 mk mz mt (nI tn) (nI ax) sc ti pp, aI T ma 266 al, aI T mh 1330 hy, aI T mk 26 ck, aI T mz 26 zk] H := hP
  have hD : va_D A [oMo mo ma mh (nI hn) 1 mk mz mt (nI tn) (nI ax) sc ti pp, aI T ma 266 al, aI T mh 1330 hy, aI T mk 26 ck, aI T mz 26 zk] := hD
  refine W.eq (g2 := F0 m 33 ls [.int 0]) rfl ?_
  exact hret _ _ _ _ _ (fun Qc free hq hf => W.iret hx hb hr hq hf dX9_mergeIn_33 hlk) hP hD hS
set_option maxHeartbeats 4000000 in
set_option maxRecDepth 100000 in
theorem c_X9_mergeIn (l : Launch) (D : va_G) (T : Nat → ClassId) (mo ma mh mk mz mt : Nat) (al hy ck zk : Nat → Int32) (hn : Nat) (th : Int32) (tn ax : Nat) (sc ti pp : Int32) (cp : Nat) (hhn : hn ≤ 5) (hcp : al 264 = nI cp) (hcp9 : cp < 1000) (hno : ¬ al 265 = 0) (hm : smN (rwF al 0) 26 + smN (rwF al 132) 26 ≤ 99999) : kM l D T yX9_mergeIn wsX9_mergeIn rX9_mergeIn [.ref mo] [oMo mo ma mh (nI hn) th mk mz mt (nI tn) (nI ax) sc ti pp, aI T ma 266 al, aI T mh 1330 hy, aI T mk 26 ck, aI T mz 26 zk] (some (.int (smN (rwF (meR al ck zk) 0) 26))) [oMo mo ma mh (nI (chK hn + 1)) 0 mk mz mt (nI tn) (nI ax) sc ti pp, aI T ma 266 (meR al ck zk), aI T mh 1330 (chH hy al hn), aI T mk 26 (msK (meF al ck zk) (meC al ck 26) 26), aI T mz 26 (meS al ck zk 26)] := by
  refine kM.of (cc := cX9_mergeIn) (maxL := 2) (ret := some .int) (by decide) rfl (Nat.le_of_ble_eq_true rfl) ?_
  intro p e s m below meth c A Q ls hx hb hml hown hr hlk hts hC hP hD hS hA hl hret
  have iX9 : ∀ w ∈ wsX90, w ∈ wsX9_mergeIn := (fun _ h => List.mem_cons_of_mem _ (List.mem_append_right _ h))
  have loop_48 : ∀ (n i : Nat), i + n = 26 → ∀ (H : Heap) (locs : List Loc) (ls : Array Slot), va_P D vwCl [oMo mo ma mh (nI (chK hn + 1)) 0 mk mz mt (nI tn) (nI ax) sc ti pp, aI T ma 266 (mtN (msO (meF al ck zk) (meC al ck 26)) i), aI T mh 1330 (chH hy al hn), aI T mk 26 (msK (meF al ck zk) (meC al ck 26) 26), aI T mz 26 (meS al ck zk 26)] H → va_D A [oMo mo ma mh (nI (chK hn + 1)) 0 mk mz mt (nI tn) (nI ax) sc ti pp, aI T ma 266 (mtN (msO (meF al ck zk) (meC al ck 26)) i), aI T mh 1330 (chH hy al hn), aI T mk 26 (msK (meF al ck zk) (meC al ck 26) 26), aI T mz 26 (meS al ck zk 26)] → va_S A s.heap H locs → lv_has ls 2 [(1, .int (nI i)), (0, .ref mo)] → W p l e rX9_mergeIn s m [.ref mo].toArray below meth c H locs 0 0 Q (F0 m 48 ls []) := by
    intro n
    induction n with
    | zero =>
      intro i hi  H locs ls hP hD hS hl
      have hi9 : 26 = i := by omega
      subst hi9
      refine lv_iload_n hx hb dX9_mergeIn_48 rfl (lv_at hl 0 rfl) ?_
      refine lv_bipush (v := 26) hx hb dX9_mergeIn_49 (by decide) ?_
      refine lv_icmp_ge (tgt := 81) hx hb dX9_mergeIn_51 (by decide) (fun _ => ?_) (fun c_x => absurd (by decide : (26 : Int32) ≤ nI 26) c_x)
      refine lv_aload_n hx hb dX9_mergeIn_81 rfl (lv_at hl 1 rfl) ?_
      refine lv_sipush (v := 132) hx hb dX9_mergeIn_82 (by decide) ?_
      have hP := hP.sub (ws' := [oMo mo ma mh (nI (chK hn + 1)) 0 mk mz mt (nI tn) (nI ax) sc ti pp, aI T ma 266 (mtN (msO (meF al ck zk) (meC al ck 26)) 26)] ++ [aI T mh 1330 (chH hy al hn), aI T mk 26 (msK (meF al ck zk) (meC al ck 26) 26), aI T mz 26 (meS al ck zk 26)]) [0, 1, 2, 3, 4] rfl
      have hD := hD.sub (ws' := [oMo mo ma mh (nI (chK hn + 1)) 0 mk mz mt (nI tn) (nI ax) sc ti pp, aI T ma 266 (mtN (msO (meF al ck zk) (meC al ck 26)) 26)] ++ [aI T mh 1330 (chH hy al hn), aI T mk 26 (msK (meF al ck zk) (meC al ck 26) 26), aI T mz 26 (meS al ck zk 26)]) [0, 1, 2, 3, 4] (by decide) rfl
      refine kV (ci := 8) (As := [.int 132]) (rest := []) ⟨hx, hb, hml, hown, hts⟩ (c_X9_clears l D T mo ma mh mk mz mt (mtN (msO (meF al ck zk) (meC al ck 26)) 26) (chK hn + 1) 0 tn ax sc ti pp 132 (by first | omega | assumption)) (cwV 1 hts gX9_mergeIn_X9_clears rfl rfl rfl (by decide +kernel) ⟨Nat.le_of_ble_eq_true rfl, Nat.le_of_ble_eq_true rfl⟩) hC hP hD hS hA rfl rfl rfl hl.1 rfl (Nat.le_of_ble_eq_true rfl) dX9_mergeIn_85 ⟨Nat.zero_le _, Nat.zero_le _⟩ (fun H locs hP hD hS => ?_)
      have hP : va_P D vwCl [oMo mo ma mh (nI (chK hn + 1)) 0 mk mz mt (nI tn) (nI ax) sc ti pp, aI T ma 266 (clN (mtN (msO (meF al ck zk) (meC al ck 26)) 26) 132 132), aI T mh 1330 (chH hy al hn), aI T mk 26 (msK (meF al ck zk) (meC al ck 26) 26), aI T mz 26 (meS al ck zk 26)] H := hP
      have hD : va_D A [oMo mo ma mh (nI (chK hn + 1)) 0 mk mz mt (nI tn) (nI ax) sc ti pp, aI T ma 266 (clN (mtN (msO (meF al ck zk) (meC al ck 26)) 26) 132 132), aI T mh 1330 (chH hy al hn), aI T mk 26 (msK (meF al ck zk) (meC al ck 26) 26), aI T mz 26 (meS al ck zk 26)] := hD
      refine W.eq (g2 := F0 m 88 ls []) rfl ?_
      refine lv_aload_n hx hb dX9_mergeIn_88 rfl (lv_at hl 1 rfl) ?_
      refine va_get (D := D) (ci := 8) (v := .ref ma) (C := RX9) (T := TX9) (N := 12) hx hb hts iX9 hown hC.1 hP 0 rfl rfl 0 (by decide) (hts (.fieldLink RX9 7 "ParrotCountsModel" "all" "[I") (List.mem_of_getElem? (i := 1) rfl)) (fun _ h => h) rfl dX9_mergeIn_89 ?_
      refine lv_sipush (v := 265) hx hb dX9_mergeIn_92 (by decide) ?_
      refine lv_iconst (v := 0) hx hb dX9_mergeIn_95 (by decide) ?_
      refine k_iast hx hb hC.1 hP hD hS 1 0 rfl rfl (by decide) dX9_mergeIn_96 (fun H locs hP hD hS => ?_)
      have hP : va_P D vwCl [oMo mo ma mh (nI (chK hn + 1)) 0 mk mz mt (nI tn) (nI ax) sc ti pp, aI T ma 266 (upd (clN (mtN (msO (meF al ck zk) (meC al ck 26)) 26) 132 132) 265 0), aI T mh 1330 (chH hy al hn), aI T mk 26 (msK (meF al ck zk) (meC al ck 26) 26), aI T mz 26 (meS al ck zk 26)] H := hP
      have hD : va_D A [oMo mo ma mh (nI (chK hn + 1)) 0 mk mz mt (nI tn) (nI ax) sc ti pp, aI T ma 266 (upd (clN (mtN (msO (meF al ck zk) (meC al ck 26)) 26) 132 132) 265 0), aI T mh 1330 (chH hy al hn), aI T mk 26 (msK (meF al ck zk) (meC al ck 26) 26), aI T mz 26 (meS al ck zk 26)] := hD
      refine lv_aload_n hx hb dX9_mergeIn_97 rfl (lv_at hl 1 rfl) ?_
      have hP := hP.sub (ws' := [oMo mo ma mh (nI (chK hn + 1)) 0 mk mz mt (nI tn) (nI ax) sc ti pp, aI T ma 266 (upd (clN (mtN (msO (meF al ck zk) (meC al ck 26)) 26) 132 132) 265 0)] ++ [aI T mh 1330 (chH hy al hn), aI T mk 26 (msK (meF al ck zk) (meC al ck 26) 26), aI T mz 26 (meS al ck zk 26)]) [0, 1, 2, 3, 4] rfl
      have hD := hD.sub (ws' := [oMo mo ma mh (nI (chK hn + 1)) 0 mk mz mt (nI tn) (nI ax) sc ti pp, aI T ma 266 (upd (clN (mtN (msO (meF al ck zk) (meC al ck 26)) 26) 132 132) 265 0)] ++ [aI T mh 1330 (chH hy al hn), aI T mk 26 (msK (meF al ck zk) (meC al ck 26) 26), aI T mz 26 (meS al ck zk 26)]) [0, 1, 2, 3, 4] (by decide) rfl
      refine kV (ci := 8) (As := []) (rest := []) ⟨hx, hb, hml, hown, hts⟩ (c_X9_callsNow l D T mo ma mh mk mz mt (upd (clN (mtN (msO (meF al ck zk) (meC al ck 26)) 26) 132 132) 265 0) (chK hn + 1) 0 tn ax sc ti pp ) (cwV 0 hts gX9_mergeIn_X9_callsNow rfl rfl rfl (by decide +kernel) ⟨Nat.le_of_ble_eq_true rfl, Nat.le_of_ble_eq_true rfl⟩) hC hP hD hS hA rfl rfl rfl hl.1 rfl (Nat.le_of_ble_eq_true rfl) dX9_mergeIn_98 ⟨Nat.zero_le _, Nat.zero_le _⟩ (fun H locs hP hD hS => ?_)
      have hP : va_P D vwCl [oMo mo ma mh (nI (chK hn + 1)) 0 mk mz mt (nI tn) (nI ax) sc ti pp, aI T ma 266 (upd (clN (mtN (msO (meF al ck zk) (meC al ck 26)) 26) 132 132) 265 0), aI T mh 1330 (chH hy al hn), aI T mk 26 (msK (meF al ck zk) (meC al ck 26) 26), aI T mz 26 (meS al ck zk 26)] H := hP
      have hD : va_D A [oMo mo ma mh (nI (chK hn + 1)) 0 mk mz mt (nI tn) (nI ax) sc ti pp, aI T ma 266 (upd (clN (mtN (msO (meF al ck zk) (meC al ck 26)) 26) 132 132) 265 0), aI T mh 1330 (chH hy al hn), aI T mk 26 (msK (meF al ck zk) (meC al ck 26) 26), aI T mz 26 (meS al ck zk 26)] := hD
      refine W.eq (g2 := F0 m 101 ls [.int (smN (rwF (upd (clN (mtN (msO (meF al ck zk) (meC al ck 26)) 26) 132 132) 265 0) 0) 26)]) rfl ?_
      have e_1 : (upd (clN (mtN (msO (meF al ck zk) (meC al ck 26)) 26) 132 132) 265 0) = meR al ck zk := rfl
      have eW := congrArg (fun zZ => ([oMo mo ma mh (nI (chK hn + 1)) 0 mk mz mt (nI tn) (nI ax) sc ti pp, aI T ma 266 zZ, aI T mh 1330 (chH hy al hn), aI T mk 26 (msK (meF al ck zk) (meC al ck 26) 26), aI T mz 26 (meS al ck zk 26)] : va_W)) e_1
      have hP : va_P D vwCl [oMo mo ma mh (nI (chK hn + 1)) 0 mk mz mt (nI tn) (nI ax) sc ti pp, aI T ma 266 (meR al ck zk), aI T mh 1330 (chH hy al hn), aI T mk 26 (msK (meF al ck zk) (meC al ck 26) 26), aI T mz 26 (meS al ck zk 26)] _ := Eq.subst (motive := fun w => va_P D vwCl w _) eW hP
      have hD : va_D A [oMo mo ma mh (nI (chK hn + 1)) 0 mk mz mt (nI tn) (nI ax) sc ti pp, aI T ma 266 (meR al ck zk), aI T mh 1330 (chH hy al hn), aI T mk 26 (msK (meF al ck zk) (meC al ck 26) 26), aI T mz 26 (meS al ck zk 26)] := Eq.subst (motive := fun w => va_D A w) eW hD
      have e_2 : smN (rwF (upd (clN (mtN (msO (meF al ck zk) (meC al ck 26)) 26) 132 132) 265 0) 0) 26 = smN (rwF (meR al ck zk) 0) 26 := rfl
      refine W.eq (g2 := F0 m 101 ls [.int (smN (rwF (meR al ck zk) 0) 26)]) (congrArg (fun z => F0 m 101 ls [.int z]) e_2) ?_
      exact hret _ _ _ _ _ (fun Qc free hq hf => W.iret hx hb hr hq hf dX9_mergeIn_101 hlk) hP hD hS
    | succ n ih =>
      intro i hi  H locs ls hP hD hS hl
      have hlt : i < 26 := by omega
      refine lv_iload_n hx hb dX9_mergeIn_48 rfl (lv_at hl 0 rfl) ?_
      refine lv_bipush (v := 26) hx hb dX9_mergeIn_49 (by decide) ?_
      refine lv_icmp_ge (tgt := 81) hx hb dX9_mergeIn_51 (by decide) (fun c_x => absurd c_x (nI_ge (b := 26) hlt (by decide))) (fun _ => ?_)
      refine lv_aload_n hx hb dX9_mergeIn_54 rfl (lv_at hl 1 rfl) ?_
      refine va_get (D := D) (ci := 8) (v := .ref ma) (C := RX9) (T := TX9) (N := 12) hx hb hts iX9 hown hC.1 hP 0 rfl rfl 0 (by decide) (hts (.fieldLink RX9 7 "ParrotCountsModel" "all" "[I") (List.mem_of_getElem? (i := 1) rfl)) (fun _ h => h) rfl dX9_mergeIn_55 ?_
      refine lv_iconst (v := 0) hx hb dX9_mergeIn_58 (by decide) ?_
      refine lv_iload_n hx hb dX9_mergeIn_59 rfl (lv_at hl 0 rfl) ?_
      refine lv_iadd hx hb dX9_mergeIn_60 ?_
      refine W.eq (g2 := F0 m 61 ls (.int (nI i) :: [.ref ma])) (congrArg (fun z => F0 m 61 ls (.int z :: [.ref ma])) (nI_z i)) ?_
      refine lv_dup2_11 hx hb dX9_mergeIn_61 rfl rfl ?_
      refine k_iald hx hb hC.1 hP 1 0 rfl rfl (by omega) dX9_mergeIn_62 ?_
      refine lv_aload_n hx hb dX9_mergeIn_63 rfl (lv_at hl 1 rfl) ?_
      refine va_get (D := D) (ci := 8) (v := .ref ma) (C := RX9) (T := TX9) (N := 12) hx hb hts iX9 hown hC.1 hP 0 rfl rfl 0 (by decide) (hts (.fieldLink RX9 7 "ParrotCountsModel" "all" "[I") (List.mem_of_getElem? (i := 1) rfl)) (fun _ h => h) rfl dX9_mergeIn_64 ?_
      refine lv_sipush (v := 132) hx hb dX9_mergeIn_67 (by decide) ?_
      refine lv_iload_n hx hb dX9_mergeIn_70 rfl (lv_at hl 0 rfl) ?_
      refine lv_iadd hx hb dX9_mergeIn_71 ?_
      refine W.eq (g2 := F0 m 72 ls (.int (nI (132 + i)) :: [.ref ma, .int ((mtN (msO (meF al ck zk) (meC al ck 26)) i) i), .int (nI i), .ref ma])) (congrArg (fun z => F0 m 72 ls (.int z :: [.ref ma, .int ((mtN (msO (meF al ck zk) (meC al ck 26)) i) i), .int (nI i), .ref ma])) (nI_add 132 i)) ?_
      refine k_iald hx hb hC.1 hP 1 0 rfl rfl (by omega) dX9_mergeIn_72 ?_
      refine lv_iadd hx hb dX9_mergeIn_73 ?_
      refine k_iast hx hb hC.1 hP hD hS 1 0 rfl rfl (by omega) dX9_mergeIn_74 (fun H locs hP hD hS => ?_)
      have hP : va_P D vwCl [oMo mo ma mh (nI (chK hn + 1)) 0 mk mz mt (nI tn) (nI ax) sc ti pp, aI T ma 266 (upd (mtN (msO (meF al ck zk) (meC al ck 26)) i) i (((mtN (msO (meF al ck zk) (meC al ck 26)) i) i) + ((mtN (msO (meF al ck zk) (meC al ck 26)) i) (132 + i)))), aI T mh 1330 (chH hy al hn), aI T mk 26 (msK (meF al ck zk) (meC al ck 26) 26), aI T mz 26 (meS al ck zk 26)] H := hP
      have hD : va_D A [oMo mo ma mh (nI (chK hn + 1)) 0 mk mz mt (nI tn) (nI ax) sc ti pp, aI T ma 266 (upd (mtN (msO (meF al ck zk) (meC al ck 26)) i) i (((mtN (msO (meF al ck zk) (meC al ck 26)) i) i) + ((mtN (msO (meF al ck zk) (meC al ck 26)) i) (132 + i)))), aI T mh 1330 (chH hy al hn), aI T mk 26 (msK (meF al ck zk) (meC al ck 26) 26), aI T mz 26 (meS al ck zk 26)] := hD
      refine lv_iinc (v := nI (i + 1)) (lv' := [(1, .int (nI (i + 1))), (0, .ref mo)]) hx hb dX9_mergeIn_75 hl (k := 0) rfl (nI_1 i) (by decide) rfl (fun ls hl => ?_)
      refine lv_goto (tgt := 48) hx hb dX9_mergeIn_78 (by decide) ?_
      have e_3 : upd (mtN (msO (meF al ck zk) (meC al ck 26)) i) i (((mtN (msO (meF al ck zk) (meC al ck 26)) i) i) + ((mtN (msO (meF al ck zk) (meC al ck 26)) i) (132 + i))) = mtN (msO (meF al ck zk) (meC al ck 26)) (i + 1) := by rw [mtN]
      have eW := congrArg (fun zZ => ([oMo mo ma mh (nI (chK hn + 1)) 0 mk mz mt (nI tn) (nI ax) sc ti pp, aI T ma 266 zZ, aI T mh 1330 (chH hy al hn), aI T mk 26 (msK (meF al ck zk) (meC al ck 26) 26), aI T mz 26 (meS al ck zk 26)] : va_W)) e_3
      have hP : va_P D vwCl [oMo mo ma mh (nI (chK hn + 1)) 0 mk mz mt (nI tn) (nI ax) sc ti pp, aI T ma 266 (mtN (msO (meF al ck zk) (meC al ck 26)) (i + 1)), aI T mh 1330 (chH hy al hn), aI T mk 26 (msK (meF al ck zk) (meC al ck 26) 26), aI T mz 26 (meS al ck zk 26)] _ := Eq.subst (motive := fun w => va_P D vwCl w _) eW hP
      have hD : va_D A [oMo mo ma mh (nI (chK hn + 1)) 0 mk mz mt (nI tn) (nI ax) sc ti pp, aI T ma 266 (mtN (msO (meF al ck zk) (meC al ck 26)) (i + 1)), aI T mh 1330 (chH hy al hn), aI T mk 26 (msK (meF al ck zk) (meC al ck 26) 26), aI T mz 26 (meS al ck zk 26)] := Eq.subst (motive := fun w => va_D A w) eW hD
      have hl : lv_has ls 2 [(1, .int (nI (i + 1))), (0, .ref mo)] := lv_sub hl [0, 1] (by rfl)
      exact ih (i + 1) (by omega)  _ _ _ hP hD hS hl
  have hl : lv_has ls 2 [(0, .ref mo)] := hl
  have hP : va_P D vwCl [oMo mo ma mh (nI hn) th mk mz mt (nI tn) (nI ax) sc ti pp, aI T ma 266 al, aI T mh 1330 hy, aI T mk 26 ck, aI T mz 26 zk] s.heap := hP
  have hD : va_D A [oMo mo ma mh (nI hn) th mk mz mt (nI tn) (nI ax) sc ti pp, aI T ma 266 al, aI T mh 1330 hy, aI T mk 26 ck, aI T mz 26 zk] := hD
  refine lv_aload_n hx hb dX9_mergeIn_0 rfl (lv_at hl 0 rfl) ?_
  refine va_get (D := D) (ci := 8) (v := .ref ma) (C := RX9) (T := TX9) (N := 12) hx hb hts iX9 hown hC.1 hP 0 rfl rfl 0 (by decide) (hts (.fieldLink RX9 7 "ParrotCountsModel" "all" "[I") (List.mem_of_getElem? (i := 1) rfl)) (fun _ h => h) rfl dX9_mergeIn_1 ?_
  refine lv_sipush (v := 265) hx hb dX9_mergeIn_4 (by decide) ?_
  refine k_iald hx hb hC.1 hP 1 0 rfl rfl (by decide) dX9_mergeIn_7 ?_
  refine lv_if_eq (tgt := 28) hx hb dX9_mergeIn_8 (by decide) (fun c_x => absurd c_x hno) (fun _ => ?_)
  refine lv_aload_n hx hb dX9_mergeIn_11 rfl (lv_at hl 0 rfl) ?_
  have hP := hP.sub (ws' := [oMo mo ma mh (nI hn) th mk mz mt (nI tn) (nI ax) sc ti pp, aI T ma 266 al] ++ [aI T mh 1330 hy, aI T mk 26 ck, aI T mz 26 zk]) [0, 1, 2, 3, 4] rfl
  have hD := hD.sub (ws' := [oMo mo ma mh (nI hn) th mk mz mt (nI tn) (nI ax) sc ti pp, aI T ma 266 al] ++ [aI T mh 1330 hy, aI T mk 26 ck, aI T mz 26 zk]) [0, 1, 2, 3, 4] (by decide) rfl
  refine kV (ci := 8) (As := []) (rest := []) ⟨hx, hb, hml, hown, hts⟩ (c_X9_callsNow l D T mo ma mh mk mz mt al hn th tn ax sc ti pp ) (cwV 0 hts gX9_mergeIn_X9_callsNow rfl rfl rfl (by decide +kernel) ⟨Nat.le_of_ble_eq_true rfl, Nat.le_of_ble_eq_true rfl⟩) hC hP hD hS hA rfl rfl rfl hl.1 rfl (Nat.le_of_ble_eq_true rfl) dX9_mergeIn_12 ⟨Nat.zero_le _, Nat.zero_le _⟩ (fun H locs hP hD hS => ?_)
  have hP : va_P D vwCl [oMo mo ma mh (nI hn) th mk mz mt (nI tn) (nI ax) sc ti pp, aI T ma 266 al, aI T mh 1330 hy, aI T mk 26 ck, aI T mz 26 zk] H := hP
  have hD : va_D A [oMo mo ma mh (nI hn) th mk mz mt (nI tn) (nI ax) sc ti pp, aI T ma 266 al, aI T mh 1330 hy, aI T mk 26 ck, aI T mz 26 zk] := hD
  refine W.eq (g2 := F0 m 15 ls [.int (smN (rwF al 0) 26)]) rfl ?_
  refine lv_aload_n hx hb dX9_mergeIn_15 rfl (lv_at hl 0 rfl) ?_
  refine lv_sipush (v := 132) hx hb dX9_mergeIn_16 (by decide) ?_
  have hP := hP.sub (ws' := [oMo mo ma mh (nI hn) th mk mz mt (nI tn) (nI ax) sc ti pp, aI T ma 266 al] ++ [aI T mh 1330 hy, aI T mk 26 ck, aI T mz 26 zk]) [0, 1, 2, 3, 4] rfl
  have hD := hD.sub (ws' := [oMo mo ma mh (nI hn) th mk mz mt (nI tn) (nI ax) sc ti pp, aI T ma 266 al] ++ [aI T mh 1330 hy, aI T mk 26 ck, aI T mz 26 zk]) [0, 1, 2, 3, 4] (by decide) rfl
  refine kV (ci := 8) (As := [.int 132]) (rest := [.int (smN (rwF al 0) 26)]) ⟨hx, hb, hml, hown, hts⟩ (c_X9_sum l D T mo ma mh mk mz mt al hn th tn ax sc ti pp 132 (by first | omega | assumption)) (cwV 1 hts gX9_mergeIn_X9_sum rfl rfl rfl (by decide +kernel) ⟨Nat.le_of_ble_eq_true rfl, Nat.le_of_ble_eq_true rfl⟩) hC hP hD hS hA rfl rfl rfl hl.1 rfl (Nat.le_of_ble_eq_true rfl) dX9_mergeIn_19 ⟨Nat.zero_le _, Nat.zero_le _⟩ (fun H locs hP hD hS => ?_)
  have hP : va_P D vwCl [oMo mo ma mh (nI hn) th mk mz mt (nI tn) (nI ax) sc ti pp, aI T ma 266 al, aI T mh 1330 hy, aI T mk 26 ck, aI T mz 26 zk] H := hP
  have hD : va_D A [oMo mo ma mh (nI hn) th mk mz mt (nI tn) (nI ax) sc ti pp, aI T ma 266 al, aI T mh 1330 hy, aI T mk 26 ck, aI T mz 26 zk] := hD
  refine W.eq (g2 := F0 m 22 ls [.int (smN (rwF al 132) 26), .int (smN (rwF al 0) 26)]) rfl ?_
  refine lv_iadd hx hb dX9_mergeIn_22 ?_
  refine lv_ldc (v := 99999) hx hb hown (hts (.constant RX9 69 99999) (List.mem_of_getElem? (i := 2) rfl)) dX9_mergeIn_23 ?_
  refine lv_icmp_le (tgt := 34) hx hb dX9_mergeIn_25 (by decide) (fun _ => ?_) (fun c_x => absurd hm c_x)
  refine lv_aload_n hx hb dX9_mergeIn_34 rfl (lv_at hl 0 rfl) ?_
  have hP := hP.sub (ws' := [oMo mo ma mh (nI hn) th mk mz mt (nI tn) (nI ax) sc ti pp, aI T ma 266 al, aI T mh 1330 hy] ++ [aI T mk 26 ck, aI T mz 26 zk]) [0, 1, 2, 3, 4] rfl
  have hD := hD.sub (ws' := [oMo mo ma mh (nI hn) th mk mz mt (nI tn) (nI ax) sc ti pp, aI T ma 266 al, aI T mh 1330 hy] ++ [aI T mk 26 ck, aI T mz 26 zk]) [0, 1, 2, 3, 4] (by decide) rfl
  refine kV (ci := 8) (As := []) (rest := []) ⟨hx, hb, hml, hown, hts⟩ (c_X9_changes l D T mo ma mh mk mz mt al hy hn th tn ax sc ti pp (by first | omega | assumption)) (cwV 0 hts gX9_mergeIn_X9_changes rfl rfl rfl (by decide +kernel) ⟨Nat.le_of_ble_eq_true rfl, Nat.le_of_ble_eq_true rfl⟩) hC hP hD hS hA rfl rfl rfl hl.1 rfl (Nat.le_of_ble_eq_true rfl) dX9_mergeIn_35 ⟨Nat.zero_le _, Nat.zero_le _⟩ (fun H locs hP hD hS => ?_)
  have hP : va_P D vwCl [oMo mo ma mh (nI (chK hn + 1)) 0 mk mz mt (nI tn) (nI ax) sc ti pp, aI T ma 266 al, aI T mh 1330 (chH hy al hn), aI T mk 26 ck, aI T mz 26 zk] H := hP
  have hD : va_D A [oMo mo ma mh (nI (chK hn + 1)) 0 mk mz mt (nI tn) (nI ax) sc ti pp, aI T ma 266 al, aI T mh 1330 (chH hy al hn), aI T mk 26 ck, aI T mz 26 zk] := hD
  refine W.eq (g2 := F0 m 38 ls []) rfl ?_
  refine lv_aload_n hx hb dX9_mergeIn_38 rfl (lv_at hl 0 rfl) ?_
  have hP := hP.sub (ws' := [oMo mo ma mh (nI (chK hn + 1)) 0 mk mz mt (nI tn) (nI ax) sc ti pp, aI T ma 266 al, aI T mk 26 ck, aI T mz 26 zk] ++ [aI T mh 1330 (chH hy al hn)]) [0, 1, 3, 4, 2] rfl
  have hD := hD.sub (ws' := [oMo mo ma mh (nI (chK hn + 1)) 0 mk mz mt (nI tn) (nI ax) sc ti pp, aI T ma 266 al, aI T mk 26 ck, aI T mz 26 zk] ++ [aI T mh 1330 (chH hy al hn)]) [0, 1, 3, 4, 2] (by decide) rfl
  refine kV (ci := 8) (As := []) (rest := []) ⟨hx, hb, hml, hown, hts⟩ (c_X9_mergesFirst l D T mo ma mh mk mz mt al ck zk (chK hn + 1) 0 tn ax sc ti pp cp (by first | omega | assumption) (by first | omega | assumption)) (cwV 0 hts gX9_mergeIn_X9_mergesFirst rfl rfl rfl (by decide +kernel) ⟨Nat.le_of_ble_eq_true rfl, Nat.le_of_ble_eq_true rfl⟩) hC hP hD hS hA rfl rfl rfl hl.1 rfl (Nat.le_of_ble_eq_true rfl) dX9_mergeIn_39 ⟨Nat.zero_le _, Nat.zero_le _⟩ (fun H locs hP hD hS => ?_)
  have hP := hP.sub (ws' := [oMo mo ma mh (nI (chK hn + 1)) 0 mk mz mt (nI tn) (nI ax) sc ti pp, aI T ma 266 (meF al ck zk), aI T mh 1330 (chH hy al hn), aI T mk 26 (meC al ck 26), aI T mz 26 (meS al ck zk 26)]) [0, 1, 4, 2, 3] rfl
  have hD := hD.sub (ws' := [oMo mo ma mh (nI (chK hn + 1)) 0 mk mz mt (nI tn) (nI ax) sc ti pp, aI T ma 266 (meF al ck zk), aI T mh 1330 (chH hy al hn), aI T mk 26 (meC al ck 26), aI T mz 26 (meS al ck zk 26)]) [0, 1, 4, 2, 3] (by decide) rfl
  refine W.eq (g2 := F0 m 42 ls []) rfl ?_
  refine lv_aload_n hx hb dX9_mergeIn_42 rfl (lv_at hl 0 rfl) ?_
  have hP := hP.sub (ws' := [oMo mo ma mh (nI (chK hn + 1)) 0 mk mz mt (nI tn) (nI ax) sc ti pp, aI T ma 266 (meF al ck zk), aI T mk 26 (meC al ck 26)] ++ [aI T mh 1330 (chH hy al hn), aI T mz 26 (meS al ck zk 26)]) [0, 1, 3, 2, 4] rfl
  have hD := hD.sub (ws' := [oMo mo ma mh (nI (chK hn + 1)) 0 mk mz mt (nI tn) (nI ax) sc ti pp, aI T ma 266 (meF al ck zk), aI T mk 26 (meC al ck 26)] ++ [aI T mh 1330 (chH hy al hn), aI T mz 26 (meS al ck zk 26)]) [0, 1, 3, 2, 4] (by decide) rfl
  refine kV (ci := 8) (As := []) (rest := []) ⟨hx, hb, hml, hown, hts⟩ (c_X9_mergesSecond l D T mo ma mh mk mz mt (meF al ck zk) (meC al ck 26) (chK hn + 1) 0 tn ax sc ti pp ) (cwV 0 hts gX9_mergeIn_X9_mergesSecond rfl rfl rfl (by decide +kernel) ⟨Nat.le_of_ble_eq_true rfl, Nat.le_of_ble_eq_true rfl⟩) hC hP hD hS hA rfl rfl rfl hl.1 rfl (Nat.le_of_ble_eq_true rfl) dX9_mergeIn_43 ⟨Nat.zero_le _, Nat.zero_le _⟩ (fun H locs hP hD hS => ?_)
  have hP := hP.sub (ws' := [oMo mo ma mh (nI (chK hn + 1)) 0 mk mz mt (nI tn) (nI ax) sc ti pp, aI T ma 266 (msO (meF al ck zk) (meC al ck 26)), aI T mh 1330 (chH hy al hn), aI T mk 26 (msK (meF al ck zk) (meC al ck 26) 26), aI T mz 26 (meS al ck zk 26)]) [0, 1, 3, 2, 4] rfl
  have hD := hD.sub (ws' := [oMo mo ma mh (nI (chK hn + 1)) 0 mk mz mt (nI tn) (nI ax) sc ti pp, aI T ma 266 (msO (meF al ck zk) (meC al ck 26)), aI T mh 1330 (chH hy al hn), aI T mk 26 (msK (meF al ck zk) (meC al ck 26) 26), aI T mz 26 (meS al ck zk 26)]) [0, 1, 3, 2, 4] (by decide) rfl
  refine W.eq (g2 := F0 m 46 ls []) rfl ?_
  refine lv_iconst (v := 0) hx hb dX9_mergeIn_46 (by decide) ?_
  refine lv_istore_n (lv' := [(1, .int 0), (0, .ref mo)]) hx hb dX9_mergeIn_47 rfl hl (by decide) rfl (fun ls hl => ?_)
  have e_4 : msO (meF al ck zk) (meC al ck 26) = mtN (msO (meF al ck zk) (meC al ck 26)) 0 := rfl
  have eW := congrArg (fun zZ => ([oMo mo ma mh (nI (chK hn + 1)) 0 mk mz mt (nI tn) (nI ax) sc ti pp, aI T ma 266 zZ, aI T mh 1330 (chH hy al hn), aI T mk 26 (msK (meF al ck zk) (meC al ck 26) 26), aI T mz 26 (meS al ck zk 26)] : va_W)) e_4
  have hP : va_P D vwCl [oMo mo ma mh (nI (chK hn + 1)) 0 mk mz mt (nI tn) (nI ax) sc ti pp, aI T ma 266 (mtN (msO (meF al ck zk) (meC al ck 26)) 0), aI T mh 1330 (chH hy al hn), aI T mk 26 (msK (meF al ck zk) (meC al ck 26) 26), aI T mz 26 (meS al ck zk 26)] _ := Eq.subst (motive := fun w => va_P D vwCl w _) eW hP
  have hD : va_D A [oMo mo ma mh (nI (chK hn + 1)) 0 mk mz mt (nI tn) (nI ax) sc ti pp, aI T ma 266 (mtN (msO (meF al ck zk) (meC al ck 26)) 0), aI T mh 1330 (chH hy al hn), aI T mk 26 (msK (meF al ck zk) (meC al ck 26) 26), aI T mz 26 (meS al ck zk 26)] := Eq.subst (motive := fun w => va_D A w) eW hD
  have e_5 : (0 : Int32) = nI 0 := rfl
  have hl : lv_has ls 2 [(1, .int (nI 0)), (0, .ref mo)] := lv_sub hl [0, 1] (by show (_ : List (Nat × Value)) = [(1, .int (nI 0)), (0, .ref mo)]; rw [← e_5]; rfl)
  exact loop_48 26 0 (by omega)  _ _ _ hP hD hS hl
