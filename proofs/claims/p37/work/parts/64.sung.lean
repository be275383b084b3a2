section PSUNG
abbrev rL_sung : Room := { frames := 8, cells := 0, slots := 0, locals := 212 }
set_option maxHeartbeats 4000000 in
set_option maxRecDepth 100000 in
theorem L_sung_A0 (l : Launch) (D : va_G) (T : Nat → ClassId) (po : Nat) (a : Nat → Nat) (k : KS) (x : CT) {M : Int} {pa : Nat} (hp : pa < 26) (hx : x.1 ≤ 60) (hK : KI k M) (hM : M + (1 : Nat) ≤ 99999) : kWN l D T yL_sung wsL_sung rL_sung 0 0 [.ref po, .int (nI pa), .int 1, .int 0] (wO T po a k x) (some (.int (qSum k.1 + nI 1))) (wO T po a (recQ k (tkR k.1 pa 1)) (sgX (apX (0, x.2) (97 + pa)))) := by
  refine kWN.ofP (cc := cL_sung) (maxL := 5) (ret := some .int) (by decide) rfl (Nat.le_of_ble_eq_true rfl) ?_
  intro p e s m below meth c A Q ls hx hb hml hown hr hlk hts hC hP hD hS hA hl hXX hZ hE hNc hret
  have hl : lv_has ls 5 [(0, .ref po), (1, .int (nI pa)), (2, .int 1), (3, .int 0)] := hl
  have hP : va_P D vwCl (wO T po a k x ++ []) s.heap := by rw [wP_nil]; exact hP
  have hD : va_D A (wO T po a k x ++ []) := by rw [wD_nil]; exact hD
  refine lv_aload_n hx hb dL_sung_0 rfl (lv_at hl 0 rfl) ?_
  refine kV (ci := 7) (As := []) (rest := []) ⟨hx, hb, hml, hown, hts⟩ (o_clearText l D T po a k x) (cwV 0 hts gL_sung_X8_clearText rfl rfl rfl (by decide +kernel) ⟨Nat.le_of_ble_eq_true rfl, Nat.le_of_ble_eq_true rfl⟩) hC hP hD hS hA rfl rfl rfl hl.1 rfl (Nat.le_of_ble_eq_true rfl) dL_sung_1 ⟨(Nat.zero_le _), (Nat.zero_le _)⟩ (fun H locs hP hD hS => ?_)
  have hP : va_P D vwCl (wO T po a k (0, x.2) ++ []) H := hP
  have hD : va_D A (wO T po a k (0, x.2) ++ []) := hD
  refine W.eq (g2 := F0 m 4 ls [.int (nI x.1)]) rfl ?_
  refine lv_if_lt (tgt := 11) hx hb dL_sung_4 (by decide) (fun c_x => absurd c_x (nI_pos (by omega))) (fun _ => ?_)
  refine lv_iconst (v := 1) hx hb dL_sung_7 (by decide) ?_
  refine lv_goto (tgt := 12) hx hb dL_sung_8 (by decide) ?_
  refine lv_istore (lv' := [(4, .int 1), (0, .ref po), (1, .int (nI pa)), (2, .int 1), (3, .int 0)]) hx hb dL_sung_12 hl (by decide) rfl (fun ls hl => ?_)
  refine lv_iload_n hx hb dL_sung_14 rfl (lv_at hl 3 rfl) ?_
  refine lv_iconst (v := 1) hx hb dL_sung_15 (by decide) ?_
  refine lv_icmp_le (tgt := 81) hx hb dL_sung_16 (by decide) (fun _ => ?_) (fun c_x => absurd (by decide : ((1 : Int32) ≤ 1)) c_x)
  refine lv_iload hx hb dL_sung_81 (lv_at hl 0 rfl) ?_
  refine lv_if_eq (tgt := 122) hx hb dL_sung_83 (by decide) (fun c_x => absurd c_x (by decide : ¬ ((1 : Int32) = 0))) (fun _ => ?_)
  refine lv_aload_n hx hb dL_sung_86 rfl (lv_at hl 1 rfl) ?_
  refine lv_bipush (v := 97) hx hb dL_sung_87 (by decide) ?_
  refine lv_iload_n hx hb dL_sung_89 rfl (lv_at hl 2 rfl) ?_
  refine lv_iadd hx hb dL_sung_90 ?_
  refine W.eq (g2 := F0 m 91 ls (.int (nI (97 + pa)) :: [.ref po])) (congrArg (fun z => F0 m 91 ls (.int z :: [.ref po])) (nI_add 97 pa)) ?_
  refine kWT (As := [.ref po, .int (nI (97 + pa))]) (rest := []) ⟨hx, hb, hml, hown, hts⟩ (L_append l D T po a k (0, x.2) (n := (97 + pa)) (by omega) (by show (0 : Nat) < 60; decide)) (vx_cwSW 2 hts gL_sung_L_append rfl rfl rfl (by decide +kernel) ⟨Nat.le_of_ble_eq_true rfl, Nat.le_of_ble_eq_true rfl⟩) hC hXX hZ hE hNc hP hD hS hA rfl hl.1 rfl (Nat.le_of_ble_eq_true rfl) dL_sung_91 ⟨(Nat.zero_le _), (Nat.zero_le _)⟩ (fun H locs hP hD hS => ?_)
  have hP : va_P D vwCl (wO T po a k (apX (0, x.2) (97 + pa)) ++ []) H := hP
  have hD : va_D A (wO T po a k (apX (0, x.2) (97 + pa)) ++ []) := hD
  refine W.eq (g2 := F0 m 94 ls [.int 1]) rfl ?_
  refine lv_iconst (v := 5) hx hb dL_sung_94 (by decide) ?_
  refine lv_icmp_ge (tgt := 122) hx hb dL_sung_95 (by decide) (fun c_x => absurd c_x (by decide : ¬ ((5 : Int32) ≤ 1))) (fun _ => ?_)
  refine lv_iload_n hx hb dL_sung_98 rfl (lv_at hl 4 rfl) ?_
  refine lv_if_eq (tgt := 118) hx hb dL_sung_99 (by decide) (fun _ => ?_) (fun c_x => absurd (by decide : ((0 : Int32) = 0)) c_x)
  refine lv_iconst (v := 1) hx hb dL_sung_118 (by decide) ?_
  refine lv_goto (tgt := 123) hx hb dL_sung_119 (by decide) ?_
  refine lv_istore (lv' := [(4, .int 1), (0, .ref po), (1, .int (nI pa)), (2, .int 1), (3, .int 0)]) hx hb dL_sung_123 hl (by decide) rfl (fun ls hl => ?_)
  refine lv_iload hx hb dL_sung_125 (lv_at hl 0 rfl) ?_
  refine lv_if_eq (tgt := 137) hx hb dL_sung_127 (by decide) (fun c_x => absurd c_x (by decide : ¬ ((1 : Int32) = 0))) (fun _ => ?_)
  refine lv_aload_n hx hb dL_sung_130 rfl (lv_at hl 1 rfl) ?_
  refine kWT (As := [.ref po]) (rest := []) ⟨hx, hb, hml, hown, hts⟩ (L_song l D T po a k (apX (0, x.2) (97 + pa)) hp (TX_sung (n := 1) (i := 0) hp (by omega) (by omega) (Or.inl ⟨rfl, rfl⟩) (Or.inl ⟨rfl, rfl⟩)) hK hM (by omega)) (vx_cwSW 1 hts gL_sung_L_song rfl rfl rfl (by decide +kernel) ⟨Nat.le_of_ble_eq_true rfl, Nat.le_of_ble_eq_true rfl⟩) hC hXX hZ hE hNc hP hD hS hA rfl hl.1 rfl (Nat.le_of_ble_eq_true rfl) dL_sung_131 ⟨(by show 0 + 0 ≤ 0; omega), (by show 0 + 0 ≤ 0; omega)⟩ (fun H locs hP hD hS => ?_)
  have hP : va_P D vwCl (wO T po a (recQ k (tkR k.1 pa 1)) (sgX (apX (0, x.2) (97 + pa))) ++ []) H := hP
  have hD : va_D A (wO T po a (recQ k (tkR k.1 pa 1)) (sgX (apX (0, x.2) (97 + pa))) ++ []) := hD
  refine W.eq (g2 := F0 m 134 ls [.int (qSum k.1 + nI 1)]) rfl ?_
  refine lv_goto (tgt := 139) hx hb dL_sung_134 (by decide) ?_
  rw [wP_nil] at hP
  rw [wD_nil] at hD
  exact hret _ _ _ _ _ _ _ (by show 0 + 0 + 0 ≤ 0; omega) (by show 0 + 0 + 0 ≤ 0; omega) (fun Qc free hq hf => W.iret hx hb hr hq hf dL_sung_139 hlk) hP hD hS
set_option maxHeartbeats 4000000 in
set_option maxRecDepth 100000 in
theorem L_sung_A1 (l : Launch) (D : va_G) (T : Nat → ClassId) (po : Nat) (a : Nat → Nat) (k : KS) (x : CT) {M : Int} {pa : Nat} (hp : pa < 26) (hx : x.1 ≤ 60) (hK : KI k M) (hM : M + (1 : Nat) ≤ 99999) : kWN l D T yL_sung wsL_sung rL_sung 0 0 [.ref po, .int (nI pa), .int 1, .int 1] (wO T po a k x) (some (.int (qSum k.1 + nI 1))) (wO T po a (recQ k (tkR k.1 pa 1)) (sgX (apX (0, x.2) (97 + pa)))) := by
  refine kWN.ofP (cc := cL_sung) (maxL := 5) (ret := some .int) (by decide) rfl (Nat.le_of_ble_eq_true rfl) ?_
  intro p e s m below meth c A Q ls hx hb hml hown hr hlk hts hC hP hD hS hA hl hXX hZ hE hNc hret
  have hl : lv_has ls 5 [(0, .ref po), (1, .int (nI pa)), (2, .int 1), (3, .int 1)] := hl
  have hP : va_P D vwCl (wO T po a k x ++ []) s.heap := by rw [wP_nil]; exact hP
  have hD : va_D A (wO T po a k x ++ []) := by rw [wD_nil]; exact hD
  refine lv_aload_n hx hb dL_sung_0 rfl (lv_at hl 0 rfl) ?_
  refine kV (ci := 7) (As := []) (rest := []) ⟨hx, hb, hml, hown, hts⟩ (o_clearText l D T po a k x) (cwV 0 hts gL_sung_X8_clearText rfl rfl rfl (by decide +kernel) ⟨Nat.le_of_ble_eq_true rfl, Nat.le_of_ble_eq_true rfl⟩) hC hP hD hS hA rfl rfl rfl hl.1 rfl (Nat.le_of_ble_eq_true rfl) dL_sung_1 ⟨(Nat.zero_le _), (Nat.zero_le _)⟩ (fun H locs hP hD hS => ?_)
  have hP : va_P D vwCl (wO T po a k (0, x.2) ++ []) H := hP
  have hD : va_D A (wO T po a k (0, x.2) ++ []) := hD
  refine W.eq (g2 := F0 m 4 ls [.int (nI x.1)]) rfl ?_
  refine lv_if_lt (tgt := 11) hx hb dL_sung_4 (by decide) (fun c_x => absurd c_x (nI_pos (by omega))) (fun _ => ?_)
  refine lv_iconst (v := 1) hx hb dL_sung_7 (by decide) ?_
  refine lv_goto (tgt := 12) hx hb dL_sung_8 (by decide) ?_
  refine lv_istore (lv' := [(4, .int 1), (0, .ref po), (1, .int (nI pa)), (2, .int 1), (3, .int 1)]) hx hb dL_sung_12 hl (by decide) rfl (fun ls hl => ?_)
  refine lv_iload_n hx hb dL_sung_14 rfl (lv_at hl 3 rfl) ?_
  refine lv_iconst (v := 1) hx hb dL_sung_15 (by decide) ?_
  refine lv_icmp_le (tgt := 81) hx hb dL_sung_16 (by decide) (fun _ => ?_) (fun c_x => absurd (by decide : ((1 : Int32) ≤ 1)) c_x)
  refine lv_iload hx hb dL_sung_81 (lv_at hl 0 rfl) ?_
  refine lv_if_eq (tgt := 122) hx hb dL_sung_83 (by decide) (fun c_x => absurd c_x (by decide : ¬ ((1 : Int32) = 0))) (fun _ => ?_)
  refine lv_aload_n hx hb dL_sung_86 rfl (lv_at hl 1 rfl) ?_
  refine lv_bipush (v := 97) hx hb dL_sung_87 (by decide) ?_
  refine lv_iload_n hx hb dL_sung_89 rfl (lv_at hl 2 rfl) ?_
  refine lv_iadd hx hb dL_sung_90 ?_
  refine W.eq (g2 := F0 m 91 ls (.int (nI (97 + pa)) :: [.ref po])) (congrArg (fun z => F0 m 91 ls (.int z :: [.ref po])) (nI_add 97 pa)) ?_
  refine kWT (As := [.ref po, .int (nI (97 + pa))]) (rest := []) ⟨hx, hb, hml, hown, hts⟩ (L_append l D T po a k (0, x.2) (n := (97 + pa)) (by omega) (by show (0 : Nat) < 60; decide)) (vx_cwSW 2 hts gL_sung_L_append rfl rfl rfl (by decide +kernel) ⟨Nat.le_of_ble_eq_true rfl, Nat.le_of_ble_eq_true rfl⟩) hC hXX hZ hE hNc hP hD hS hA rfl hl.1 rfl (Nat.le_of_ble_eq_true rfl) dL_sung_91 ⟨(Nat.zero_le _), (Nat.zero_le _)⟩ (fun H locs hP hD hS => ?_)
  have hP : va_P D vwCl (wO T po a k (apX (0, x.2) (97 + pa)) ++ []) H := hP
  have hD : va_D A (wO T po a k (apX (0, x.2) (97 + pa)) ++ []) := hD
  refine W.eq (g2 := F0 m 94 ls [.int 1]) rfl ?_
  refine lv_iconst (v := 5) hx hb dL_sung_94 (by decide) ?_
  refine lv_icmp_ge (tgt := 122) hx hb dL_sung_95 (by decide) (fun c_x => absurd c_x (by decide : ¬ ((5 : Int32) ≤ 1))) (fun _ => ?_)
  refine lv_iload_n hx hb dL_sung_98 rfl (lv_at hl 4 rfl) ?_
  refine lv_if_eq (tgt := 118) hx hb dL_sung_99 (by decide) (fun c_x => absurd c_x (by decide : ¬ ((1 : Int32) = 0))) (fun _ => ?_)
  refine lv_iload_n hx hb dL_sung_102 rfl (lv_at hl 3 rfl) ?_
  refine lv_iconst (v := 1) hx hb dL_sung_103 (by decide) ?_
  refine lv_icmp_eq (tgt := 118) hx hb dL_sung_104 (by decide) (fun _ => ?_) (fun c_x => absurd (by decide : ((1 : Int32) = 1)) c_x)
  refine lv_iconst (v := 1) hx hb dL_sung_118 (by decide) ?_
  refine lv_goto (tgt := 123) hx hb dL_sung_119 (by decide) ?_
  refine lv_istore (lv' := [(4, .int 1), (0, .ref po), (1, .int (nI pa)), (2, .int 1), (3, .int 1)]) hx hb dL_sung_123 hl (by decide) rfl (fun ls hl => ?_)
  refine lv_iload hx hb dL_sung_125 (lv_at hl 0 rfl) ?_
  refine lv_if_eq (tgt := 137) hx hb dL_sung_127 (by decide) (fun c_x => absurd c_x (by decide : ¬ ((1 : Int32) = 0))) (fun _ => ?_)
  refine lv_aload_n hx hb dL_sung_130 rfl (lv_at hl 1 rfl) ?_
  refine kWT (As := [.ref po]) (rest := []) ⟨hx, hb, hml, hown, hts⟩ (L_song l D T po a k (apX (0, x.2) (97 + pa)) hp (TX_sung (n := 1) (i := 0) hp (by omega) (by omega) (Or.inl ⟨rfl, rfl⟩) (Or.inl ⟨rfl, rfl⟩)) hK hM (by omega)) (vx_cwSW 1 hts gL_sung_L_song rfl rfl rfl (by decide +kernel) ⟨Nat.le_of_ble_eq_true rfl, Nat.le_of_ble_eq_true rfl⟩) hC hXX hZ hE hNc hP hD hS hA rfl hl.1 rfl (Nat.le_of_ble_eq_true rfl) dL_sung_131 ⟨(by show 0 + 0 ≤ 0; omega), (by show 0 + 0 ≤ 0; omega)⟩ (fun H locs hP hD hS => ?_)
  have hP : va_P D vwCl (wO T po a (recQ k (tkR k.1 pa 1)) (sgX (apX (0, x.2) (97 + pa))) ++ []) H := hP
  have hD : va_D A (wO T po a (recQ k (tkR k.1 pa 1)) (sgX (apX (0, x.2) (97 + pa))) ++ []) := hD
  refine W.eq (g2 := F0 m 134 ls [.int (qSum k.1 + nI 1)]) rfl ?_
  refine lv_goto (tgt := 139) hx hb dL_sung_134 (by decide) ?_
  rw [wP_nil] at hP
  rw [wD_nil] at hD
  exact hret _ _ _ _ _ _ _ (by show 0 + 0 + 0 ≤ 0; omega) (by show 0 + 0 + 0 ≤ 0; omega) (fun Qc free hq hf => W.iret hx hb hr hq hf dL_sung_139 hlk) hP hD hS
set_option maxHeartbeats 4000000 in
set_option maxRecDepth 100000 in
theorem L_sung_B0 (l : Launch) (D : va_G) (T : Nat → ClassId) (po : Nat) (a : Nat → Nat) (k : KS) (x : CT) {M : Int} {pa : Nat} {n : Nat} (hp : pa < 26) (h2 : 2 ≤ n) (h9 : n ≤ 9) (hx : x.1 ≤ 60) (hK : KI k M) (hM : M + (n : Nat) ≤ 99999) : kWN l D T yL_sung wsL_sung rL_sung 0 0 [.ref po, .int (nI pa), .int (nI n), .int 0] (wO T po a k x) (some (.int (qSum k.1 + nI n))) (wO T po a (recQ k (tkR k.1 pa n)) (sgX (apX (apX (0, x.2) (48 + (n % 10))) (97 + pa)))) := by
  refine kWN.ofP (cc := cL_sung) (maxL := 5) (ret := some .int) (by decide) rfl (Nat.le_of_ble_eq_true rfl) ?_
  intro p e s m below meth c A Q ls hx hb hml hown hr hlk hts hC hP hD hS hA hl hXX hZ hE hNc hret
  have hl : lv_has ls 5 [(0, .ref po), (1, .int (nI pa)), (2, .int (nI n)), (3, .int 0)] := hl
  have hP : va_P D vwCl (wO T po a k x ++ []) s.heap := by rw [wP_nil]; exact hP
  have hD : va_D A (wO T po a k x ++ []) := by rw [wD_nil]; exact hD
  refine lv_aload_n hx hb dL_sung_0 rfl (lv_at hl 0 rfl) ?_
  refine kV (ci := 7) (As := []) (rest := []) ⟨hx, hb, hml, hown, hts⟩ (o_clearText l D T po a k x) (cwV 0 hts gL_sung_X8_clearText rfl rfl rfl (by decide +kernel) ⟨Nat.le_of_ble_eq_true rfl, Nat.le_of_ble_eq_true rfl⟩) hC hP hD hS hA rfl rfl rfl hl.1 rfl (Nat.le_of_ble_eq_true rfl) dL_sung_1 ⟨(Nat.zero_le _), (Nat.zero_le _)⟩ (fun H locs hP hD hS => ?_)
  have hP : va_P D vwCl (wO T po a k (0, x.2) ++ []) H := hP
  have hD : va_D A (wO T po a k (0, x.2) ++ []) := hD
  refine W.eq (g2 := F0 m 4 ls [.int (nI x.1)]) rfl ?_
  refine lv_if_lt (tgt := 11) hx hb dL_sung_4 (by decide) (fun c_x => absurd c_x (nI_pos (by omega))) (fun _ => ?_)
  refine lv_iconst (v := 1) hx hb dL_sung_7 (by decide) ?_
  refine lv_goto (tgt := 12) hx hb dL_sung_8 (by decide) ?_
  refine lv_istore (lv' := [(4, .int 1), (0, .ref po), (1, .int (nI pa)), (2, .int (nI n)), (3, .int 0)]) hx hb dL_sung_12 hl (by decide) rfl (fun ls hl => ?_)
  refine lv_iload_n hx hb dL_sung_14 rfl (lv_at hl 3 rfl) ?_
  refine lv_iconst (v := 1) hx hb dL_sung_15 (by decide) ?_
  refine lv_icmp_le (tgt := 81) hx hb dL_sung_16 (by decide) (fun c_x => absurd c_x (nI_ge (a := 1) (b := n) (by omega) (by omega))) (fun _ => ?_)
  refine lv_iload hx hb dL_sung_19 (lv_at hl 0 rfl) ?_
  refine lv_if_eq (tgt := 78) hx hb dL_sung_21 (by decide) (fun c_x => absurd c_x (by decide : ¬ ((1 : Int32) = 0))) (fun _ => ?_)
  refine lv_iload_n hx hb dL_sung_24 rfl (lv_at hl 3 rfl) ?_
  refine lv_bipush (v := 10) hx hb dL_sung_25 (by decide) ?_
  refine lv_icmp_lt (tgt := 45) hx hb dL_sung_27 (by decide) (fun _ => ?_) (fun c_x => absurd (nI_lt (a := n) (b := 10) (by omega) (by decide)) c_x)
  refine lv_aload_n hx hb dL_sung_45 rfl (lv_at hl 1 rfl) ?_
  refine lv_bipush (v := 48) hx hb dL_sung_46 (by decide) ?_
  refine lv_iload_n hx hb dL_sung_48 rfl (lv_at hl 3 rfl) ?_
  refine lv_bipush (v := 10) hx hb dL_sung_49 (by decide) ?_
  refine lv_irem hx hb dL_sung_51 (by decide) ?_
  refine W.eq (g2 := F0 m 52 ls (.int (nI (n % 10)) :: [.int 48, .ref po])) (congrArg (fun z => F0 m 52 ls (.int z :: [.int 48, .ref po])) (pk_rem (a := n) (d := 10) (by omega) (by decide) (by decide) : ((nI n) - (nI n) / 10 * 10 : Int32) = nI (n % 10))) ?_
  refine lv_iadd hx hb dL_sung_52 ?_
  refine W.eq (g2 := F0 m 53 ls (.int (nI (48 + (n % 10))) :: [.ref po])) (congrArg (fun z => F0 m 53 ls (.int z :: [.ref po])) (nI_add 48 (n % 10))) ?_
  refine kWT (As := [.ref po, .int (nI (48 + (n % 10)))]) (rest := []) ⟨hx, hb, hml, hown, hts⟩ (L_append l D T po a k (0, x.2) (n := (48 + (n % 10))) (by omega) (by show (0 : Nat) < 60; decide)) (vx_cwSW 2 hts gL_sung_L_append rfl rfl rfl (by decide +kernel) ⟨Nat.le_of_ble_eq_true rfl, Nat.le_of_ble_eq_true rfl⟩) hC hXX hZ hE hNc hP hD hS hA rfl hl.1 rfl (Nat.le_of_ble_eq_true rfl) dL_sung_53 ⟨(Nat.zero_le _), (Nat.zero_le _)⟩ (fun H locs hP hD hS => ?_)
  have hP : va_P D vwCl (wO T po a k (apX (0, x.2) (48 + (n % 10))) ++ []) H := hP
  have hD : va_D A (wO T po a k (apX (0, x.2) (48 + (n % 10))) ++ []) := hD
  refine W.eq (g2 := F0 m 56 ls [.int 1]) rfl ?_
  refine lv_iconst (v := 3) hx hb dL_sung_56 (by decide) ?_
  refine lv_icmp_ge (tgt := 78) hx hb dL_sung_57 (by decide) (fun c_x => absurd c_x (by decide : ¬ ((3 : Int32) ≤ 1))) (fun _ => ?_)
  refine lv_iload_n hx hb dL_sung_60 rfl (lv_at hl 4 rfl) ?_
  refine lv_if_eq (tgt := 74) hx hb dL_sung_61 (by decide) (fun _ => ?_) (fun c_x => absurd (by decide : ((0 : Int32) = 0)) c_x)
  refine lv_iconst (v := 1) hx hb dL_sung_74 (by decide) ?_
  refine lv_goto (tgt := 79) hx hb dL_sung_75 (by decide) ?_
  refine lv_istore (lv' := [(4, .int 1), (0, .ref po), (1, .int (nI pa)), (2, .int (nI n)), (3, .int 0)]) hx hb dL_sung_79 hl (by decide) rfl (fun ls hl => ?_)
  refine lv_iload hx hb dL_sung_81 (lv_at hl 0 rfl) ?_
  refine lv_if_eq (tgt := 122) hx hb dL_sung_83 (by decide) (fun c_x => absurd c_x (by decide : ¬ ((1 : Int32) = 0))) (fun _ => ?_)
  refine lv_aload_n hx hb dL_sung_86 rfl (lv_at hl 1 rfl) ?_
  refine lv_bipush (v := 97) hx hb dL_sung_87 (by decide) ?_
  refine lv_iload_n hx hb dL_sung_89 rfl (lv_at hl 2 rfl) ?_
  refine lv_iadd hx hb dL_sung_90 ?_
  refine W.eq (g2 := F0 m 91 ls (.int (nI (97 + pa)) :: [.ref po])) (congrArg (fun z => F0 m 91 ls (.int z :: [.ref po])) (nI_add 97 pa)) ?_
  refine kWT (As := [.ref po, .int (nI (97 + pa))]) (rest := []) ⟨hx, hb, hml, hown, hts⟩ (L_append l D T po a k (apX (0, x.2) (48 + (n % 10))) (n := (97 + pa)) (by omega) (by show (1 : Nat) < 60; decide)) (vx_cwSW 2 hts gL_sung_L_append rfl rfl rfl (by decide +kernel) ⟨Nat.le_of_ble_eq_true rfl, Nat.le_of_ble_eq_true rfl⟩) hC hXX hZ hE hNc hP hD hS hA rfl hl.1 rfl (Nat.le_of_ble_eq_true rfl) dL_sung_91 ⟨(by show 0 + 0 ≤ 0; omega), (by show 0 + 0 ≤ 0; omega)⟩ (fun H locs hP hD hS => ?_)
  have hP : va_P D vwCl (wO T po a k (apX (apX (0, x.2) (48 + (n % 10))) (97 + pa)) ++ []) H := hP
  have hD : va_D A (wO T po a k (apX (apX (0, x.2) (48 + (n % 10))) (97 + pa)) ++ []) := hD
  refine W.eq (g2 := F0 m 94 ls [.int 2]) rfl ?_
  refine lv_iconst (v := 5) hx hb dL_sung_94 (by decide) ?_
  refine lv_icmp_ge (tgt := 122) hx hb dL_sung_95 (by decide) (fun c_x => absurd c_x (by decide : ¬ ((5 : Int32) ≤ 2))) (fun _ => ?_)
  refine lv_iload_n hx hb dL_sung_98 rfl (lv_at hl 4 rfl) ?_
  refine lv_if_eq (tgt := 118) hx hb dL_sung_99 (by decide) (fun _ => ?_) (fun c_x => absurd (by decide : ((0 : Int32) = 0)) c_x)
  refine lv_iconst (v := 1) hx hb dL_sung_118 (by decide) ?_
  refine lv_goto (tgt := 123) hx hb dL_sung_119 (by decide) ?_
  refine lv_istore (lv' := [(4, .int 1), (0, .ref po), (1, .int (nI pa)), (2, .int (nI n)), (3, .int 0)]) hx hb dL_sung_123 hl (by decide) rfl (fun ls hl => ?_)
  refine lv_iload hx hb dL_sung_125 (lv_at hl 0 rfl) ?_
  refine lv_if_eq (tgt := 137) hx hb dL_sung_127 (by decide) (fun c_x => absurd c_x (by decide : ¬ ((1 : Int32) = 0))) (fun _ => ?_)
  refine lv_aload_n hx hb dL_sung_130 rfl (lv_at hl 1 rfl) ?_
  refine kWT (As := [.ref po]) (rest := []) ⟨hx, hb, hml, hown, hts⟩ (L_song l D T po a k (apX (apX (0, x.2) (48 + (n % 10))) (97 + pa)) hp (TX_sung (n := n) (i := 1) hp (by omega) (by omega) (Or.inr (Or.inl ⟨h2, h9, rfl, (by show nI (48 + (n % 10)) = _; rw [Nat.mod_eq_of_lt (by omega)])⟩)) (Or.inl ⟨rfl, rfl⟩)) hK hM (by omega)) (vx_cwSW 1 hts gL_sung_L_song rfl rfl rfl (by decide +kernel) ⟨Nat.le_of_ble_eq_true rfl, Nat.le_of_ble_eq_true rfl⟩) hC hXX hZ hE hNc hP hD hS hA rfl hl.1 rfl (Nat.le_of_ble_eq_true rfl) dL_sung_131 ⟨(by show 0 + 0 + 0 ≤ 0; omega), (by show 0 + 0 + 0 ≤ 0; omega)⟩ (fun H locs hP hD hS => ?_)
  have hP : va_P D vwCl (wO T po a (recQ k (tkR k.1 pa n)) (sgX (apX (apX (0, x.2) (48 + (n % 10))) (97 + pa))) ++ []) H := hP
  have hD : va_D A (wO T po a (recQ k (tkR k.1 pa n)) (sgX (apX (apX (0, x.2) (48 + (n % 10))) (97 + pa))) ++ []) := hD
  refine W.eq (g2 := F0 m 134 ls [.int (qSum k.1 + nI n)]) rfl ?_
  refine lv_goto (tgt := 139) hx hb dL_sung_134 (by decide) ?_
  rw [wP_nil] at hP
  rw [wD_nil] at hD
  exact hret _ _ _ _ _ _ _ (by show 0 + 0 + 0 + 0 ≤ 0; omega) (by show 0 + 0 + 0 + 0 ≤ 0; omega) (fun Qc free hq hf => W.iret hx hb hr hq hf dL_sung_139 hlk) hP hD hS
set_option maxHeartbeats 4000000 in
set_option maxRecDepth 100000 in
theorem L_sung_B1 (l : Launch) (D : va_G) (T : Nat → ClassId) (po : Nat) (a : Nat → Nat) (k : KS) (x : CT) {M : Int} {pa : Nat} {n : Nat} (hp : pa < 26) (h2 : 2 ≤ n) (h9 : n ≤ 9) (hx : x.1 ≤ 60) (hK : KI k M) (hM : M + (n : Nat) ≤ 99999) : kWN l D T yL_sung wsL_sung rL_sung 0 0 [.ref po, .int (nI pa), .int (nI n), .int 1] (wO T po a k x) (some (.int (qSum k.1 + nI n))) (wO T po a (recQ k (tkR k.1 pa n)) (sgX (apX (apX (apX (apX (0, x.2) (48 + (n % 10))) 40) (97 + pa)) 41))) := by
  refine kWN.ofP (cc := cL_sung) (maxL := 5) (ret := some .int) (by decide) rfl (Nat.le_of_ble_eq_true rfl) ?_
  intro p e s m below meth c A Q ls hx hb hml hown hr hlk hts hC hP hD hS hA hl hXX hZ hE hNc hret
  have hl : lv_has ls 5 [(0, .ref po), (1, .int (nI pa)), (2, .int (nI n)), (3, .int 1)] := hl
  have hP : va_P D vwCl (wO T po a k x ++ []) s.heap := by rw [wP_nil]; exact hP
  have hD : va_D A (wO T po a k x ++ []) := by rw [wD_nil]; exact hD
  refine lv_aload_n hx hb dL_sung_0 rfl (lv_at hl 0 rfl) ?_
  refine kV (ci := 7) (As := []) (rest := []) ⟨hx, hb, hml, hown, hts⟩ (o_clearText l D T po a k x) (cwV 0 hts gL_sung_X8_clearText rfl rfl rfl (by decide +kernel) ⟨Nat.le_of_ble_eq_true rfl, Nat.le_of_ble_eq_true rfl⟩) hC hP hD hS hA rfl rfl rfl hl.1 rfl (Nat.le_of_ble_eq_true rfl) dL_sung_1 ⟨(Nat.zero_le _), (Nat.zero_le _)⟩ (fun H locs hP hD hS => ?_)
  have hP : va_P D vwCl (wO T po a k (0, x.2) ++ []) H := hP
  have hD : va_D A (wO T po a k (0, x.2) ++ []) := hD
  refine W.eq (g2 := F0 m 4 ls [.int (nI x.1)]) rfl ?_
  refine lv_if_lt (tgt := 11) hx hb dL_sung_4 (by decide) (fun c_x => absurd c_x (nI_pos (by omega))) (fun _ => ?_)
  refine lv_iconst (v := 1) hx hb dL_sung_7 (by decide) ?_
  refine lv_goto (tgt := 12) hx hb dL_sung_8 (by decide) ?_
  refine lv_istore (lv' := [(4, .int 1), (0, .ref po), (1, .int (nI pa)), (2, .int (nI n)), (3, .int 1)]) hx hb dL_sung_12 hl (by decide) rfl (fun ls hl => ?_)
  refine lv_iload_n hx hb dL_sung_14 rfl (lv_at hl 3 rfl) ?_
  refine lv_iconst (v := 1) hx hb dL_sung_15 (by decide) ?_
  refine lv_icmp_le (tgt := 81) hx hb dL_sung_16 (by decide) (fun c_x => absurd c_x (nI_ge (a := 1) (b := n) (by omega) (by omega))) (fun _ => ?_)
  refine lv_iload hx hb dL_sung_19 (lv_at hl 0 rfl) ?_
  refine lv_if_eq (tgt := 78) hx hb dL_sung_21 (by decide) (fun c_x => absurd c_x (by decide : ¬ ((1 : Int32) = 0))) (fun _ => ?_)
  refine lv_iload_n hx hb dL_sung_24 rfl (lv_at hl 3 rfl) ?_
  refine lv_bipush (v := 10) hx hb dL_sung_25 (by decide) ?_
  refine lv_icmp_lt (tgt := 45) hx hb dL_sung_27 (by decide) (fun _ => ?_) (fun c_x => absurd (nI_lt (a := n) (b := 10) (by omega) (by decide)) c_x)
  refine lv_aload_n hx hb dL_sung_45 rfl (lv_at hl 1 rfl) ?_
  refine lv_bipush (v := 48) hx hb dL_sung_46 (by decide) ?_
  refine lv_iload_n hx hb dL_sung_48 rfl (lv_at hl 3 rfl) ?_
  refine lv_bipush (v := 10) hx hb dL_sung_49 (by decide) ?_
  refine lv_irem hx hb dL_sung_51 (by decide) ?_
  refine W.eq (g2 := F0 m 52 ls (.int (nI (n % 10)) :: [.int 48, .ref po])) (congrArg (fun z => F0 m 52 ls (.int z :: [.int 48, .ref po])) (pk_rem (a := n) (d := 10) (by omega) (by decide) (by decide) : ((nI n) - (nI n) / 10 * 10 : Int32) = nI (n % 10))) ?_
  refine lv_iadd hx hb dL_sung_52 ?_
  refine W.eq (g2 := F0 m 53 ls (.int (nI (48 + (n % 10))) :: [.ref po])) (congrArg (fun z => F0 m 53 ls (.int z :: [.ref po])) (nI_add 48 (n % 10))) ?_
  refine kWT (As := [.ref po, .int (nI (48 + (n % 10)))]) (rest := []) ⟨hx, hb, hml, hown, hts⟩ (L_append l D T po a k (0, x.2) (n := (48 + (n % 10))) (by omega) (by show (0 : Nat) < 60; decide)) (vx_cwSW 2 hts gL_sung_L_append rfl rfl rfl (by decide +kernel) ⟨Nat.le_of_ble_eq_true rfl, Nat.le_of_ble_eq_true rfl⟩) hC hXX hZ hE hNc hP hD hS hA rfl hl.1 rfl (Nat.le_of_ble_eq_true rfl) dL_sung_53 ⟨(Nat.zero_le _), (Nat.zero_le _)⟩ (fun H locs hP hD hS => ?_)
  have hP : va_P D vwCl (wO T po a k (apX (0, x.2) (48 + (n % 10))) ++ []) H := hP
  have hD : va_D A (wO T po a k (apX (0, x.2) (48 + (n % 10))) ++ []) := hD
  refine W.eq (g2 := F0 m 56 ls [.int 1]) rfl ?_
  refine lv_iconst (v := 3) hx hb dL_sung_56 (by decide) ?_
  refine lv_icmp_ge (tgt := 78) hx hb dL_sung_57 (by decide) (fun c_x => absurd c_x (by decide : ¬ ((3 : Int32) ≤ 1))) (fun _ => ?_)
  refine lv_iload_n hx hb dL_sung_60 rfl (lv_at hl 4 rfl) ?_
  refine lv_if_eq (tgt := 74) hx hb dL_sung_61 (by decide) (fun c_x => absurd c_x (by decide : ¬ ((1 : Int32) = 0))) (fun _ => ?_)
  refine lv_aload_n hx hb dL_sung_64 rfl (lv_at hl 1 rfl) ?_
  refine lv_bipush (v := 40) hx hb dL_sung_65 (by decide) ?_
  refine kWT (As := [.ref po, .int 40]) (rest := []) ⟨hx, hb, hml, hown, hts⟩ (L_append l D T po a k (apX (0, x.2) (48 + (n % 10))) (n := 40) (by omega) (by show (1 : Nat) < 60; decide)) (vx_cwSW 2 hts gL_sung_L_append rfl rfl rfl (by decide +kernel) ⟨Nat.le_of_ble_eq_true rfl, Nat.le_of_ble_eq_true rfl⟩) hC hXX hZ hE hNc hP hD hS hA rfl hl.1 rfl (Nat.le_of_ble_eq_true rfl) dL_sung_67 ⟨(by show 0 + 0 ≤ 0; omega), (by show 0 + 0 ≤ 0; omega)⟩ (fun H locs hP hD hS => ?_)
  have hP : va_P D vwCl (wO T po a k (apX (apX (0, x.2) (48 + (n % 10))) 40) ++ []) H := hP
  have hD : va_D A (wO T po a k (apX (apX (0, x.2) (48 + (n % 10))) 40) ++ []) := hD
  refine W.eq (g2 := F0 m 70 ls [.int 2]) rfl ?_
  refine lv_iconst (v := 4) hx hb dL_sung_70 (by decide) ?_
  refine lv_icmp_ge (tgt := 78) hx hb dL_sung_71 (by decide) (fun c_x => absurd c_x (by decide : ¬ ((4 : Int32) ≤ 2))) (fun _ => ?_)
  refine lv_iconst (v := 1) hx hb dL_sung_74 (by decide) ?_
  refine lv_goto (tgt := 79) hx hb dL_sung_75 (by decide) ?_
  refine lv_istore (lv' := [(4, .int 1), (0, .ref po), (1, .int (nI pa)), (2, .int (nI n)), (3, .int 1)]) hx hb dL_sung_79 hl (by decide) rfl (fun ls hl => ?_)
  refine lv_iload hx hb dL_sung_81 (lv_at hl 0 rfl) ?_
  refine lv_if_eq (tgt := 122) hx hb dL_sung_83 (by decide) (fun c_x => absurd c_x (by decide : ¬ ((1 : Int32) = 0))) (fun _ => ?_)
  refine lv_aload_n hx hb dL_sung_86 rfl (lv_at hl 1 rfl) ?_
  refine lv_bipush (v := 97) hx hb dL_sung_87 (by decide) ?_
  refine lv_iload_n hx hb dL_sung_89 rfl (lv_at hl 2 rfl) ?_
  refine lv_iadd hx hb dL_sung_90 ?_
  refine W.eq (g2 := F0 m 91 ls (.int (nI (97 + pa)) :: [.ref po])) (congrArg (fun z => F0 m 91 ls (.int z :: [.ref po])) (nI_add 97 pa)) ?_
  refine kWT (As := [.ref po, .int (nI (97 + pa))]) (rest := []) ⟨hx, hb, hml, hown, hts⟩ (L_append l D T po a k (apX (apX (0, x.2) (48 + (n % 10))) 40) (n := (97 + pa)) (by omega) (by show (2 : Nat) < 60; decide)) (vx_cwSW 2 hts gL_sung_L_append rfl rfl rfl (by decide +kernel) ⟨Nat.le_of_ble_eq_true rfl, Nat.le_of_ble_eq_true rfl⟩) hC hXX hZ hE hNc hP hD hS hA rfl hl.1 rfl (Nat.le_of_ble_eq_true rfl) dL_sung_91 ⟨(by show 0 + 0 + 0 ≤ 0; omega), (by show 0 + 0 + 0 ≤ 0; omega)⟩ (fun H locs hP hD hS => ?_)
  have hP : va_P D vwCl (wO T po a k (apX (apX (apX (0, x.2) (48 + (n % 10))) 40) (97 + pa)) ++ []) H := hP
  have hD : va_D A (wO T po a k (apX (apX (apX (0, x.2) (48 + (n % 10))) 40) (97 + pa)) ++ []) := hD
  refine W.eq (g2 := F0 m 94 ls [.int 3]) rfl ?_
  refine lv_iconst (v := 5) hx hb dL_sung_94 (by decide) ?_
  refine lv_icmp_ge (tgt := 122) hx hb dL_sung_95 (by decide) (fun c_x => absurd c_x (by decide : ¬ ((5 : Int32) ≤ 3))) (fun _ => ?_)
  refine lv_iload_n hx hb dL_sung_98 rfl (lv_at hl 4 rfl) ?_
  refine lv_if_eq (tgt := 118) hx hb dL_sung_99 (by decide) (fun c_x => absurd c_x (by decide : ¬ ((1 : Int32) = 0))) (fun _ => ?_)
  refine lv_iload_n hx hb dL_sung_102 rfl (lv_at hl 3 rfl) ?_
  refine lv_iconst (v := 1) hx hb dL_sung_103 (by decide) ?_
  refine lv_icmp_eq (tgt := 118) hx hb dL_sung_104 (by decide) (fun c_x => absurd c_x (fun h => absurd ((nI_eq (a := n) (b := 1) (by omega) (by decide)).mp h) (by omega))) (fun _ => ?_)
  refine lv_aload_n hx hb dL_sung_107 rfl (lv_at hl 1 rfl) ?_
  refine lv_bipush (v := 41) hx hb dL_sung_108 (by decide) ?_
  refine kWT (As := [.ref po, .int 41]) (rest := []) ⟨hx, hb, hml, hown, hts⟩ (L_append l D T po a k (apX (apX (apX (0, x.2) (48 + (n % 10))) 40) (97 + pa)) (n := 41) (by omega) (by show (3 : Nat) < 60; decide)) (vx_cwSW 2 hts gL_sung_L_append rfl rfl rfl (by decide +kernel) ⟨Nat.le_of_ble_eq_true rfl, Nat.le_of_ble_eq_true rfl⟩) hC hXX hZ hE hNc hP hD hS hA rfl hl.1 rfl (Nat.le_of_ble_eq_true rfl) dL_sung_110 ⟨(by show 0 + 0 + 0 + 0 ≤ 0; omega), (by show 0 + 0 + 0 + 0 ≤ 0; omega)⟩ (fun H locs hP hD hS => ?_)
  have hP : va_P D vwCl (wO T po a k (apX (apX (apX (apX (0, x.2) (48 + (n % 10))) 40) (97 + pa)) 41) ++ []) H := hP
  have hD : va_D A (wO T po a k (apX (apX (apX (apX (0, x.2) (48 + (n % 10))) 40) (97 + pa)) 41) ++ []) := hD
  refine W.eq (g2 := F0 m 113 ls [.int 4]) rfl ?_
  refine lv_bipush (v := 6) hx hb dL_sung_113 (by decide) ?_
  refine lv_icmp_ge (tgt := 122) hx hb dL_sung_115 (by decide) (fun c_x => absurd c_x (by decide : ¬ ((6 : Int32) ≤ 4))) (fun _ => ?_)
  refine lv_iconst (v := 1) hx hb dL_sung_118 (by decide) ?_
  refine lv_goto (tgt := 123) hx hb dL_sung_119 (by decide) ?_
  refine lv_istore (lv' := [(4, .int 1), (0, .ref po), (1, .int (nI pa)), (2, .int (nI n)), (3, .int 1)]) hx hb dL_sung_123 hl (by decide) rfl (fun ls hl => ?_)
  refine lv_iload hx hb dL_sung_125 (lv_at hl 0 rfl) ?_
  refine lv_if_eq (tgt := 137) hx hb dL_sung_127 (by decide) (fun c_x => absurd c_x (by decide : ¬ ((1 : Int32) = 0))) (fun _ => ?_)
  refine lv_aload_n hx hb dL_sung_130 rfl (lv_at hl 1 rfl) ?_
  refine kWT (As := [.ref po]) (rest := []) ⟨hx, hb, hml, hown, hts⟩ (L_song l D T po a k (apX (apX (apX (apX (0, x.2) (48 + (n % 10))) 40) (97 + pa)) 41) hp (TX_sung (n := n) (i := 1) hp (by omega) (by omega) (Or.inr (Or.inl ⟨h2, h9, rfl, (by show nI (48 + (n % 10)) = _; rw [Nat.mod_eq_of_lt (by omega)])⟩)) (Or.inr ⟨by omega, rfl, rfl, rfl, rfl⟩)) hK hM (by omega)) (vx_cwSW 1 hts gL_sung_L_song rfl rfl rfl (by decide +kernel) ⟨Nat.le_of_ble_eq_true rfl, Nat.le_of_ble_eq_true rfl⟩) hC hXX hZ hE hNc hP hD hS hA rfl hl.1 rfl (Nat.le_of_ble_eq_true rfl) dL_sung_131 ⟨(by show 0 + 0 + 0 + 0 + 0 ≤ 0; omega), (by show 0 + 0 + 0 + 0 + 0 ≤ 0; omega)⟩ (fun H locs hP hD hS => ?_)
  have hP : va_P D vwCl (wO T po a (recQ k (tkR k.1 pa n)) (sgX (apX (apX (apX (apX (0, x.2) (48 + (n % 10))) 40) (97 + pa)) 41)) ++ []) H := hP
  have hD : va_D A (wO T po a (recQ k (tkR k.1 pa n)) (sgX (apX (apX (apX (apX (0, x.2) (48 + (n % 10))) 40) (97 + pa)) 41)) ++ []) := hD
  refine W.eq (g2 := F0 m 134 ls [.int (qSum k.1 + nI n)]) rfl ?_
  refine lv_goto (tgt := 139) hx hb dL_sung_134 (by decide) ?_
  rw [wP_nil] at hP
  rw [wD_nil] at hD
  exact hret _ _ _ _ _ _ _ (by show 0 + 0 + 0 + 0 + 0 + 0 ≤ 0; omega) (by show 0 + 0 + 0 + 0 + 0 + 0 ≤ 0; omega) (fun Qc free hq hf => W.iret hx hb hr hq hf dL_sung_139 hlk) hP hD hS
set_option maxHeartbeats 4000000 in
set_option maxRecDepth 100000 in
theorem L_sung_D0 (l : Launch) (D : va_G) (T : Nat → ClassId) (po : Nat) (a : Nat → Nat) (k : KS) (x : CT) {M : Int} {pa : Nat} {n : Nat} (hp : pa < 26) (h2 : 10 ≤ n) (h9 : n ≤ 99) (hx : x.1 ≤ 60) (hK : KI k M) (hM : M + (n : Nat) ≤ 99999) : kWN l D T yL_sung wsL_sung rL_sung 0 0 [.ref po, .int (nI pa), .int (nI n), .int 0] (wO T po a k x) (some (.int (qSum k.1 + nI n))) (wO T po a (recQ k (tkR k.1 pa n)) (sgX (apX (apX (apX (0, x.2) (48 + (n / 10))) (48 + (n % 10))) (97 + pa)))) := by
  refine kWN.ofP (cc := cL_sung) (maxL := 5) (ret := some .int) (by decide) rfl (Nat.le_of_ble_eq_true rfl) ?_
  intro p e s m below meth c A Q ls hx hb hml hown hr hlk hts hC hP hD hS hA hl hXX hZ hE hNc hret
  have hl : lv_has ls 5 [(0, .ref po), (1, .int (nI pa)), (2, .int (nI n)), (3, .int 0)] := hl
  have hP : va_P D vwCl (wO T po a k x ++ []) s.heap := by rw [wP_nil]; exact hP
  have hD : va_D A (wO T po a k x ++ []) := by rw [wD_nil]; exact hD
  refine lv_aload_n hx hb dL_sung_0 rfl (lv_at hl 0 rfl) ?_
  refine kV (ci := 7) (As := []) (rest := []) ⟨hx, hb, hml, hown, hts⟩ (o_clearText l D T po a k x) (cwV 0 hts gL_sung_X8_clearText rfl rfl rfl (by decide +kernel) ⟨Nat.le_of_ble_eq_true rfl, Nat.le_of_ble_eq_true rfl⟩) hC hP hD hS hA rfl rfl rfl hl.1 rfl (Nat.le_of_ble_eq_true rfl) dL_sung_1 ⟨(Nat.zero_le _), (Nat.zero_le _)⟩ (fun H locs hP hD hS => ?_)
  have hP : va_P D vwCl (wO T po a k (0, x.2) ++ []) H := hP
  have hD : va_D A (wO T po a k (0, x.2) ++ []) := hD
  refine W.eq (g2 := F0 m 4 ls [.int (nI x.1)]) rfl ?_
  refine lv_if_lt (tgt := 11) hx hb dL_sung_4 (by decide) (fun c_x => absurd c_x (nI_pos (by omega))) (fun _ => ?_)
  refine lv_iconst (v := 1) hx hb dL_sung_7 (by decide) ?_
  refine lv_goto (tgt := 12) hx hb dL_sung_8 (by decide) ?_
  refine lv_istore (lv' := [(4, .int 1), (0, .ref po), (1, .int (nI pa)), (2, .int (nI n)), (3, .int 0)]) hx hb dL_sung_12 hl (by decide) rfl (fun ls hl => ?_)
  refine lv_iload_n hx hb dL_sung_14 rfl (lv_at hl 3 rfl) ?_
  refine lv_iconst (v := 1) hx hb dL_sung_15 (by decide) ?_
  refine lv_icmp_le (tgt := 81) hx hb dL_sung_16 (by decide) (fun c_x => absurd c_x (nI_ge (a := 1) (b := n) (by omega) (by omega))) (fun _ => ?_)
  refine lv_iload hx hb dL_sung_19 (lv_at hl 0 rfl) ?_
  refine lv_if_eq (tgt := 78) hx hb dL_sung_21 (by decide) (fun c_x => absurd c_x (by decide : ¬ ((1 : Int32) = 0))) (fun _ => ?_)
  refine lv_iload_n hx hb dL_sung_24 rfl (lv_at hl 3 rfl) ?_
  refine lv_bipush (v := 10) hx hb dL_sung_25 (by decide) ?_
  refine lv_icmp_lt (tgt := 45) hx hb dL_sung_27 (by decide) (fun c_x => absurd c_x (nI_nlt (a := n) (b := 10) (by omega) (by omega))) (fun _ => ?_)
  refine lv_aload_n hx hb dL_sung_30 rfl (lv_at hl 1 rfl) ?_
  refine lv_bipush (v := 48) hx hb dL_sung_31 (by decide) ?_
  refine lv_iload_n hx hb dL_sung_33 rfl (lv_at hl 3 rfl) ?_
  refine lv_bipush (v := 10) hx hb dL_sung_34 (by decide) ?_
  refine lv_idiv hx hb dL_sung_36 (by decide) ?_
  refine W.eq (g2 := F0 m 37 ls (.int (nI (n / 10)) :: [.int 48, .ref po])) (congrArg (fun z => F0 m 37 ls (.int z :: [.int 48, .ref po])) (pk_div (a := n) (d := 10) (by omega) (by decide) (by decide) : ((nI n) / 10 : Int32) = nI (n / 10))) ?_
  refine lv_iadd hx hb dL_sung_37 ?_
  refine W.eq (g2 := F0 m 38 ls (.int (nI (48 + (n / 10))) :: [.ref po])) (congrArg (fun z => F0 m 38 ls (.int z :: [.ref po])) (nI_add 48 (n / 10))) ?_
  refine kWT (As := [.ref po, .int (nI (48 + (n / 10)))]) (rest := []) ⟨hx, hb, hml, hown, hts⟩ (L_append l D T po a k (0, x.2) (n := (48 + (n / 10))) (by omega) (by show (0 : Nat) < 60; decide)) (vx_cwSW 2 hts gL_sung_L_append rfl rfl rfl (by decide +kernel) ⟨Nat.le_of_ble_eq_true rfl, Nat.le_of_ble_eq_true rfl⟩) hC hXX hZ hE hNc hP hD hS hA rfl hl.1 rfl (Nat.le_of_ble_eq_true rfl) dL_sung_38 ⟨(Nat.zero_le _), (Nat.zero_le _)⟩ (fun H locs hP hD hS => ?_)
  have hP : va_P D vwCl (wO T po a k (apX (0, x.2) (48 + (n / 10))) ++ []) H := hP
  have hD : va_D A (wO T po a k (apX (0, x.2) (48 + (n / 10))) ++ []) := hD
  refine W.eq (g2 := F0 m 41 ls [.int 1]) rfl ?_
  refine lv_iconst (v := 1) hx hb dL_sung_41 (by decide) ?_
  refine lv_icmp_ne (tgt := 78) hx hb dL_sung_42 (by decide) (fun c_x => absurd (by decide : ((1 : Int32) = 1)) c_x) (fun _ => ?_)
  refine lv_aload_n hx hb dL_sung_45 rfl (lv_at hl 1 rfl) ?_
  refine lv_bipush (v := 48) hx hb dL_sung_46 (by decide) ?_
  refine lv_iload_n hx hb dL_sung_48 rfl (lv_at hl 3 rfl) ?_
  refine lv_bipush (v := 10) hx hb dL_sung_49 (by decide) ?_
  refine lv_irem hx hb dL_sung_51 (by decide) ?_
  refine W.eq (g2 := F0 m 52 ls (.int (nI (n % 10)) :: [.int 48, .ref po])) (congrArg (fun z => F0 m 52 ls (.int z :: [.int 48, .ref po])) (pk_rem (a := n) (d := 10) (by omega) (by decide) (by decide) : ((nI n) - (nI n) / 10 * 10 : Int32) = nI (n % 10))) ?_
  refine lv_iadd hx hb dL_sung_52 ?_
  refine W.eq (g2 := F0 m 53 ls (.int (nI (48 + (n % 10))) :: [.ref po])) (congrArg (fun z => F0 m 53 ls (.int z :: [.ref po])) (nI_add 48 (n % 10))) ?_
  refine kWT (As := [.ref po, .int (nI (48 + (n % 10)))]) (rest := []) ⟨hx, hb, hml, hown, hts⟩ (L_append l D T po a k (apX (0, x.2) (48 + (n / 10))) (n := (48 + (n % 10))) (by omega) (by show (1 : Nat) < 60; decide)) (vx_cwSW 2 hts gL_sung_L_append rfl rfl rfl (by decide +kernel) ⟨Nat.le_of_ble_eq_true rfl, Nat.le_of_ble_eq_true rfl⟩) hC hXX hZ hE hNc hP hD hS hA rfl hl.1 rfl (Nat.le_of_ble_eq_true rfl) dL_sung_53 ⟨(by show 0 + 0 ≤ 0; omega), (by show 0 + 0 ≤ 0; omega)⟩ (fun H locs hP hD hS => ?_)
  have hP : va_P D vwCl (wO T po a k (apX (apX (0, x.2) (48 + (n / 10))) (48 + (n % 10))) ++ []) H := hP
  have hD : va_D A (wO T po a k (apX (apX (0, x.2) (48 + (n / 10))) (48 + (n % 10))) ++ []) := hD
  refine W.eq (g2 := F0 m 56 ls [.int 2]) rfl ?_
  refine lv_iconst (v := 3) hx hb dL_sung_56 (by decide) ?_
  refine lv_icmp_ge (tgt := 78) hx hb dL_sung_57 (by decide) (fun c_x => absurd c_x (by decide : ¬ ((3 : Int32) ≤ 2))) (fun _ => ?_)
  refine lv_iload_n hx hb dL_sung_60 rfl (lv_at hl 4 rfl) ?_
  refine lv_if_eq (tgt := 74) hx hb dL_sung_61 (by decide) (fun _ => ?_) (fun c_x => absurd (by decide : ((0 : Int32) = 0)) c_x)
  refine lv_iconst (v := 1) hx hb dL_sung_74 (by decide) ?_
  refine lv_goto (tgt := 79) hx hb dL_sung_75 (by decide) ?_
  refine lv_istore (lv' := [(4, .int 1), (0, .ref po), (1, .int (nI pa)), (2, .int (nI n)), (3, .int 0)]) hx hb dL_sung_79 hl (by decide) rfl (fun ls hl => ?_)
  refine lv_iload hx hb dL_sung_81 (lv_at hl 0 rfl) ?_
  refine lv_if_eq (tgt := 122) hx hb dL_sung_83 (by decide) (fun c_x => absurd c_x (by decide : ¬ ((1 : Int32) = 0))) (fun _ => ?_)
  refine lv_aload_n hx hb dL_sung_86 rfl (lv_at hl 1 rfl) ?_
  refine lv_bipush (v := 97) hx hb dL_sung_87 (by decide) ?_
  refine lv_iload_n hx hb dL_sung_89 rfl (lv_at hl 2 rfl) ?_
  refine lv_iadd hx hb dL_sung_90 ?_
  refine W.eq (g2 := F0 m 91 ls (.int (nI (97 + pa)) :: [.ref po])) (congrArg (fun z => F0 m 91 ls (.int z :: [.ref po])) (nI_add 97 pa)) ?_
  refine kWT (As := [.ref po, .int (nI (97 + pa))]) (rest := []) ⟨hx, hb, hml, hown, hts⟩ (L_append l D T po a k (apX (apX (0, x.2) (48 + (n / 10))) (48 + (n % 10))) (n := (97 + pa)) (by omega) (by show (2 : Nat) < 60; decide)) (vx_cwSW 2 hts gL_sung_L_append rfl rfl rfl (by decide +kernel) ⟨Nat.le_of_ble_eq_true rfl, Nat.le_of_ble_eq_true rfl⟩) hC hXX hZ hE hNc hP hD hS hA rfl hl.1 rfl (Nat.le_of_ble_eq_true rfl) dL_sung_91 ⟨(by show 0 + 0 + 0 ≤ 0; omega), (by show 0 + 0 + 0 ≤ 0; omega)⟩ (fun H locs hP hD hS => ?_)
  have hP : va_P D vwCl (wO T po a k (apX (apX (apX (0, x.2) (48 + (n / 10))) (48 + (n % 10))) (97 + pa)) ++ []) H := hP
  have hD : va_D A (wO T po a k (apX (apX (apX (0, x.2) (48 + (n / 10))) (48 + (n % 10))) (97 + pa)) ++ []) := hD
  refine W.eq (g2 := F0 m 94 ls [.int 3]) rfl ?_
  refine lv_iconst (v := 5) hx hb dL_sung_94 (by decide) ?_
  refine lv_icmp_ge (tgt := 122) hx hb dL_sung_95 (by decide) (fun c_x => absurd c_x (by decide : ¬ ((5 : Int32) ≤ 3))) (fun _ => ?_)
  refine lv_iload_n hx hb dL_sung_98 rfl (lv_at hl 4 rfl) ?_
  refine lv_if_eq (tgt := 118) hx hb dL_sung_99 (by decide) (fun _ => ?_) (fun c_x => absurd (by decide : ((0 : Int32) = 0)) c_x)
  refine lv_iconst (v := 1) hx hb dL_sung_118 (by decide) ?_
  refine lv_goto (tgt := 123) hx hb dL_sung_119 (by decide) ?_
  refine lv_istore (lv' := [(4, .int 1), (0, .ref po), (1, .int (nI pa)), (2, .int (nI n)), (3, .int 0)]) hx hb dL_sung_123 hl (by decide) rfl (fun ls hl => ?_)
  refine lv_iload hx hb dL_sung_125 (lv_at hl 0 rfl) ?_
  refine lv_if_eq (tgt := 137) hx hb dL_sung_127 (by decide) (fun c_x => absurd c_x (by decide : ¬ ((1 : Int32) = 0))) (fun _ => ?_)
  refine lv_aload_n hx hb dL_sung_130 rfl (lv_at hl 1 rfl) ?_
  refine kWT (As := [.ref po]) (rest := []) ⟨hx, hb, hml, hown, hts⟩ (L_song l D T po a k (apX (apX (apX (0, x.2) (48 + (n / 10))) (48 + (n % 10))) (97 + pa)) hp (TX_sung (n := n) (i := 2) hp (by omega) (by omega) (Or.inr (Or.inr ⟨h2, rfl, rfl, rfl⟩)) (Or.inl ⟨rfl, rfl⟩)) hK hM (by omega)) (vx_cwSW 1 hts gL_sung_L_song rfl rfl rfl (by decide +kernel) ⟨Nat.le_of_ble_eq_true rfl, Nat.le_of_ble_eq_true rfl⟩) hC hXX hZ hE hNc hP hD hS hA rfl hl.1 rfl (Nat.le_of_ble_eq_true rfl) dL_sung_131 ⟨(by show 0 + 0 + 0 + 0 ≤ 0; omega), (by show 0 + 0 + 0 + 0 ≤ 0; omega)⟩ (fun H locs hP hD hS => ?_)
  have hP : va_P D vwCl (wO T po a (recQ k (tkR k.1 pa n)) (sgX (apX (apX (apX (0, x.2) (48 + (n / 10))) (48 + (n % 10))) (97 + pa))) ++ []) H := hP
  have hD : va_D A (wO T po a (recQ k (tkR k.1 pa n)) (sgX (apX (apX (apX (0, x.2) (48 + (n / 10))) (48 + (n % 10))) (97 + pa))) ++ []) := hD
  refine W.eq (g2 := F0 m 134 ls [.int (qSum k.1 + nI n)]) rfl ?_
  refine lv_goto (tgt := 139) hx hb dL_sung_134 (by decide) ?_
  rw [wP_nil] at hP
  rw [wD_nil] at hD
  exact hret _ _ _ _ _ _ _ (by show 0 + 0 + 0 + 0 + 0 ≤ 0; omega) (by show 0 + 0 + 0 + 0 + 0 ≤ 0; omega) (fun Qc free hq hf => W.iret hx hb hr hq hf dL_sung_139 hlk) hP hD hS
set_option maxHeartbeats 4000000 in
set_option maxRecDepth 100000 in
theorem L_sung_D1 (l : Launch) (D : va_G) (T : Nat → ClassId) (po : Nat) (a : Nat → Nat) (k : KS) (x : CT) {M : Int} {pa : Nat} {n : Nat} (hp : pa < 26) (h2 : 10 ≤ n) (h9 : n ≤ 99) (hx : x.1 ≤ 60) (hK : KI k M) (hM : M + (n : Nat) ≤ 99999) : kWN l D T yL_sung wsL_sung rL_sung 0 0 [.ref po, .int (nI pa), .int (nI n), .int 1] (wO T po a k x) (some (.int (qSum k.1 + nI n))) (wO T po a (recQ k (tkR k.1 pa n)) (sgX (apX (apX (apX (apX (apX (0, x.2) (48 + (n / 10))) (48 + (n % 10))) 40) (97 + pa)) 41))) := by
  refine kWN.ofP (cc := cL_sung) (maxL := 5) (ret := some .int) (by decide) rfl (Nat.le_of_ble_eq_true rfl) ?_
  intro p e s m below meth c A Q ls hx hb hml hown hr hlk hts hC hP hD hS hA hl hXX hZ hE hNc hret
  have hl : lv_has ls 5 [(0, .ref po), (1, .int (nI pa)), (2, .int (nI n)), (3, .int 1)] := hl
  have hP : va_P D vwCl (wO T po a k x ++ []) s.heap := by rw [wP_nil]; exact hP
  have hD : va_D A (wO T po a k x ++ []) := by rw [wD_nil]; exact hD
  refine lv_aload_n hx hb dL_sung_0 rfl (lv_at hl 0 rfl) ?_
  refine kV (ci := 7) (As := []) (rest := []) ⟨hx, hb, hml, hown, hts⟩ (o_clearText l D T po a k x) (cwV 0 hts gL_sung_X8_clearText rfl rfl rfl (by decide +kernel) ⟨Nat.le_of_ble_eq_true rfl, Nat.le_of_ble_eq_true rfl⟩) hC hP hD hS hA rfl rfl rfl hl.1 rfl (Nat.le_of_ble_eq_true rfl) dL_sung_1 ⟨(Nat.zero_le _), (Nat.zero_le _)⟩ (fun H locs hP hD hS => ?_)
  have hP : va_P D vwCl (wO T po a k (0, x.2) ++ []) H := hP
  have hD : va_D A (wO T po a k (0, x.2) ++ []) := hD
  refine W.eq (g2 := F0 m 4 ls [.int (nI x.1)]) rfl ?_
  refine lv_if_lt (tgt := 11) hx hb dL_sung_4 (by decide) (fun c_x => absurd c_x (nI_pos (by omega))) (fun _ => ?_)
  refine lv_iconst (v := 1) hx hb dL_sung_7 (by decide) ?_
  refine lv_goto (tgt := 12) hx hb dL_sung_8 (by decide) ?_
  refine lv_istore (lv' := [(4, .int 1), (0, .ref po), (1, .int (nI pa)), (2, .int (nI n)), (3, .int 1)]) hx hb dL_sung_12 hl (by decide) rfl (fun ls hl => ?_)
  refine lv_iload_n hx hb dL_sung_14 rfl (lv_at hl 3 rfl) ?_
  refine lv_iconst (v := 1) hx hb dL_sung_15 (by decide) ?_
  refine lv_icmp_le (tgt := 81) hx hb dL_sung_16 (by decide) (fun c_x => absurd c_x (nI_ge (a := 1) (b := n) (by omega) (by omega))) (fun _ => ?_)
  refine lv_iload hx hb dL_sung_19 (lv_at hl 0 rfl) ?_
  refine lv_if_eq (tgt := 78) hx hb dL_sung_21 (by decide) (fun c_x => absurd c_x (by decide : ¬ ((1 : Int32) = 0))) (fun _ => ?_)
  refine lv_iload_n hx hb dL_sung_24 rfl (lv_at hl 3 rfl) ?_
  refine lv_bipush (v := 10) hx hb dL_sung_25 (by decide) ?_
  refine lv_icmp_lt (tgt := 45) hx hb dL_sung_27 (by decide) (fun c_x => absurd c_x (nI_nlt (a := n) (b := 10) (by omega) (by omega))) (fun _ => ?_)
  refine lv_aload_n hx hb dL_sung_30 rfl (lv_at hl 1 rfl) ?_
  refine lv_bipush (v := 48) hx hb dL_sung_31 (by decide) ?_
  refine lv_iload_n hx hb dL_sung_33 rfl (lv_at hl 3 rfl) ?_
  refine lv_bipush (v := 10) hx hb dL_sung_34 (by decide) ?_
  refine lv_idiv hx hb dL_sung_36 (by decide) ?_
  refine W.eq (g2 := F0 m 37 ls (.int (nI (n / 10)) :: [.int 48, .ref po])) (congrArg (fun z => F0 m 37 ls (.int z :: [.int 48, .ref po])) (pk_div (a := n) (d := 10) (by omega) (by decide) (by decide) : ((nI n) / 10 : Int32) = nI (n / 10))) ?_
  refine lv_iadd hx hb dL_sung_37 ?_
  refine W.eq (g2 := F0 m 38 ls (.int (nI (48 + (n / 10))) :: [.ref po])) (congrArg (fun z => F0 m 38 ls (.int z :: [.ref po])) (nI_add 48 (n / 10))) ?_
  refine kWT (As := [.ref po, .int (nI (48 + (n / 10)))]) (rest := []) ⟨hx, hb, hml, hown, hts⟩ (L_append l D T po a k (0, x.2) (n := (48 + (n / 10))) (by omega) (by show (0 : Nat) < 60; decide)) (vx_cwSW 2 hts gL_sung_L_append rfl rfl rfl (by decide +kernel) ⟨Nat.le_of_ble_eq_true rfl, Nat.le_of_ble_eq_true rfl⟩) hC hXX hZ hE hNc hP hD hS hA rfl hl.1 rfl (Nat.le_of_ble_eq_true rfl) dL_sung_38 ⟨(Nat.zero_le _), (Nat.zero_le _)⟩ (fun H locs hP hD hS => ?_)
  have hP : va_P D vwCl (wO T po a k (apX (0, x.2) (48 + (n / 10))) ++ []) H := hP
  have hD : va_D A (wO T po a k (apX (0, x.2) (48 + (n / 10))) ++ []) := hD
  refine W.eq (g2 := F0 m 41 ls [.int 1]) rfl ?_
  refine lv_iconst (v := 1) hx hb dL_sung_41 (by decide) ?_
  refine lv_icmp_ne (tgt := 78) hx hb dL_sung_42 (by decide) (fun c_x => absurd (by decide : ((1 : Int32) = 1)) c_x) (fun _ => ?_)
  refine lv_aload_n hx hb dL_sung_45 rfl (lv_at hl 1 rfl) ?_
  refine lv_bipush (v := 48) hx hb dL_sung_46 (by decide) ?_
  refine lv_iload_n hx hb dL_sung_48 rfl (lv_at hl 3 rfl) ?_
  refine lv_bipush (v := 10) hx hb dL_sung_49 (by decide) ?_
  refine lv_irem hx hb dL_sung_51 (by decide) ?_
  refine W.eq (g2 := F0 m 52 ls (.int (nI (n % 10)) :: [.int 48, .ref po])) (congrArg (fun z => F0 m 52 ls (.int z :: [.int 48, .ref po])) (pk_rem (a := n) (d := 10) (by omega) (by decide) (by decide) : ((nI n) - (nI n) / 10 * 10 : Int32) = nI (n % 10))) ?_
  refine lv_iadd hx hb dL_sung_52 ?_
  refine W.eq (g2 := F0 m 53 ls (.int (nI (48 + (n % 10))) :: [.ref po])) (congrArg (fun z => F0 m 53 ls (.int z :: [.ref po])) (nI_add 48 (n % 10))) ?_
  refine kWT (As := [.ref po, .int (nI (48 + (n % 10)))]) (rest := []) ⟨hx, hb, hml, hown, hts⟩ (L_append l D T po a k (apX (0, x.2) (48 + (n / 10))) (n := (48 + (n % 10))) (by omega) (by show (1 : Nat) < 60; decide)) (vx_cwSW 2 hts gL_sung_L_append rfl rfl rfl (by decide +kernel) ⟨Nat.le_of_ble_eq_true rfl, Nat.le_of_ble_eq_true rfl⟩) hC hXX hZ hE hNc hP hD hS hA rfl hl.1 rfl (Nat.le_of_ble_eq_true rfl) dL_sung_53 ⟨(by show 0 + 0 ≤ 0; omega), (by show 0 + 0 ≤ 0; omega)⟩ (fun H locs hP hD hS => ?_)
  have hP : va_P D vwCl (wO T po a k (apX (apX (0, x.2) (48 + (n / 10))) (48 + (n % 10))) ++ []) H := hP
  have hD : va_D A (wO T po a k (apX (apX (0, x.2) (48 + (n / 10))) (48 + (n % 10))) ++ []) := hD
  refine W.eq (g2 := F0 m 56 ls [.int 2]) rfl ?_
  refine lv_iconst (v := 3) hx hb dL_sung_56 (by decide) ?_
  refine lv_icmp_ge (tgt := 78) hx hb dL_sung_57 (by decide) (fun c_x => absurd c_x (by decide : ¬ ((3 : Int32) ≤ 2))) (fun _ => ?_)
  refine lv_iload_n hx hb dL_sung_60 rfl (lv_at hl 4 rfl) ?_
  refine lv_if_eq (tgt := 74) hx hb dL_sung_61 (by decide) (fun c_x => absurd c_x (by decide : ¬ ((1 : Int32) = 0))) (fun _ => ?_)
  refine lv_aload_n hx hb dL_sung_64 rfl (lv_at hl 1 rfl) ?_
  refine lv_bipush (v := 40) hx hb dL_sung_65 (by decide) ?_
  refine kWT (As := [.ref po, .int 40]) (rest := []) ⟨hx, hb, hml, hown, hts⟩ (L_append l D T po a k (apX (apX (0, x.2) (48 + (n / 10))) (48 + (n % 10))) (n := 40) (by omega) (by show (2 : Nat) < 60; decide)) (vx_cwSW 2 hts gL_sung_L_append rfl rfl rfl (by decide +kernel) ⟨Nat.le_of_ble_eq_true rfl, Nat.le_of_ble_eq_true rfl⟩) hC hXX hZ hE hNc hP hD hS hA rfl hl.1 rfl (Nat.le_of_ble_eq_true rfl) dL_sung_67 ⟨(by show 0 + 0 + 0 ≤ 0; omega), (by show 0 + 0 + 0 ≤ 0; omega)⟩ (fun H locs hP hD hS => ?_)
  have hP : va_P D vwCl (wO T po a k (apX (apX (apX (0, x.2) (48 + (n / 10))) (48 + (n % 10))) 40) ++ []) H := hP
  have hD : va_D A (wO T po a k (apX (apX (apX (0, x.2) (48 + (n / 10))) (48 + (n % 10))) 40) ++ []) := hD
  refine W.eq (g2 := F0 m 70 ls [.int 3]) rfl ?_
  refine lv_iconst (v := 4) hx hb dL_sung_70 (by decide) ?_
  refine lv_icmp_ge (tgt := 78) hx hb dL_sung_71 (by decide) (fun c_x => absurd c_x (by decide : ¬ ((4 : Int32) ≤ 3))) (fun _ => ?_)
  refine lv_iconst (v := 1) hx hb dL_sung_74 (by decide) ?_
  refine lv_goto (tgt := 79) hx hb dL_sung_75 (by decide) ?_
  refine lv_istore (lv' := [(4, .int 1), (0, .ref po), (1, .int (nI pa)), (2, .int (nI n)), (3, .int 1)]) hx hb dL_sung_79 hl (by decide) rfl (fun ls hl => ?_)
  refine lv_iload hx hb dL_sung_81 (lv_at hl 0 rfl) ?_
  refine lv_if_eq (tgt := 122) hx hb dL_sung_83 (by decide) (fun c_x => absurd c_x (by decide : ¬ ((1 : Int32) = 0))) (fun _ => ?_)
  refine lv_aload_n hx hb dL_sung_86 rfl (lv_at hl 1 rfl) ?_
  refine lv_bipush (v := 97) hx hb dL_sung_87 (by decide) ?_
  refine lv_iload_n hx hb dL_sung_89 rfl (lv_at hl 2 rfl) ?_
  refine lv_iadd hx hb dL_sung_90 ?_
  refine W.eq (g2 := F0 m 91 ls (.int (nI (97 + pa)) :: [.ref po])) (congrArg (fun z => F0 m 91 ls (.int z :: [.ref po])) (nI_add 97 pa)) ?_
  refine kWT (As := [.ref po, .int (nI (97 + pa))]) (rest := []) ⟨hx, hb, hml, hown, hts⟩ (L_append l D T po a k (apX (apX (apX (0, x.2) (48 + (n / 10))) (48 + (n % 10))) 40) (n := (97 + pa)) (by omega) (by show (3 : Nat) < 60; decide)) (vx_cwSW 2 hts gL_sung_L_append rfl rfl rfl (by decide +kernel) ⟨Nat.le_of_ble_eq_true rfl, Nat.le_of_ble_eq_true rfl⟩) hC hXX hZ hE hNc hP hD hS hA rfl hl.1 rfl (Nat.le_of_ble_eq_true rfl) dL_sung_91 ⟨(by show 0 + 0 + 0 + 0 ≤ 0; omega), (by show 0 + 0 + 0 + 0 ≤ 0; omega)⟩ (fun H locs hP hD hS => ?_)
  have hP : va_P D vwCl (wO T po a k (apX (apX (apX (apX (0, x.2) (48 + (n / 10))) (48 + (n % 10))) 40) (97 + pa)) ++ []) H := hP
  have hD : va_D A (wO T po a k (apX (apX (apX (apX (0, x.2) (48 + (n / 10))) (48 + (n % 10))) 40) (97 + pa)) ++ []) := hD
  refine W.eq (g2 := F0 m 94 ls [.int 4]) rfl ?_
  refine lv_iconst (v := 5) hx hb dL_sung_94 (by decide) ?_
  refine lv_icmp_ge (tgt := 122) hx hb dL_sung_95 (by decide) (fun c_x => absurd c_x (by decide : ¬ ((5 : Int32) ≤ 4))) (fun _ => ?_)
  refine lv_iload_n hx hb dL_sung_98 rfl (lv_at hl 4 rfl) ?_
  refine lv_if_eq (tgt := 118) hx hb dL_sung_99 (by decide) (fun c_x => absurd c_x (by decide : ¬ ((1 : Int32) = 0))) (fun _ => ?_)
  refine lv_iload_n hx hb dL_sung_102 rfl (lv_at hl 3 rfl) ?_
  refine lv_iconst (v := 1) hx hb dL_sung_103 (by decide) ?_
  refine lv_icmp_eq (tgt := 118) hx hb dL_sung_104 (by decide) (fun c_x => absurd c_x (fun h => absurd ((nI_eq (a := n) (b := 1) (by omega) (by decide)).mp h) (by omega))) (fun _ => ?_)
  refine lv_aload_n hx hb dL_sung_107 rfl (lv_at hl 1 rfl) ?_
  refine lv_bipush (v := 41) hx hb dL_sung_108 (by decide) ?_
  refine kWT (As := [.ref po, .int 41]) (rest := []) ⟨hx, hb, hml, hown, hts⟩ (L_append l D T po a k (apX (apX (apX (apX (0, x.2) (48 + (n / 10))) (48 + (n % 10))) 40) (97 + pa)) (n := 41) (by omega) (by show (4 : Nat) < 60; decide)) (vx_cwSW 2 hts gL_sung_L_append rfl rfl rfl (by decide +kernel) ⟨Nat.le_of_ble_eq_true rfl, Nat.le_of_ble_eq_true rfl⟩) hC hXX hZ hE hNc hP hD hS hA rfl hl.1 rfl (Nat.le_of_ble_eq_true rfl) dL_sung_110 ⟨(by show 0 + 0 + 0 + 0 + 0 ≤ 0; omega), (by show 0 + 0 + 0 + 0 + 0 ≤ 0; omega)⟩ (fun H locs hP hD hS => ?_)
  have hP : va_P D vwCl (wO T po a k (apX (apX (apX (apX (apX (0, x.2) (48 + (n / 10))) (48 + (n % 10))) 40) (97 + pa)) 41) ++ []) H := hP
  have hD : va_D A (wO T po a k (apX (apX (apX (apX (apX (0, x.2) (48 + (n / 10))) (48 + (n % 10))) 40) (97 + pa)) 41) ++ []) := hD
  refine W.eq (g2 := F0 m 113 ls [.int 5]) rfl ?_
  refine lv_bipush (v := 6) hx hb dL_sung_113 (by decide) ?_
  refine lv_icmp_ge (tgt := 122) hx hb dL_sung_115 (by decide) (fun c_x => absurd c_x (by decide : ¬ ((6 : Int32) ≤ 5))) (fun _ => ?_)
  refine lv_iconst (v := 1) hx hb dL_sung_118 (by decide) ?_
  refine lv_goto (tgt := 123) hx hb dL_sung_119 (by decide) ?_
  refine lv_istore (lv' := [(4, .int 1), (0, .ref po), (1, .int (nI pa)), (2, .int (nI n)), (3, .int 1)]) hx hb dL_sung_123 hl (by decide) rfl (fun ls hl => ?_)
  refine lv_iload hx hb dL_sung_125 (lv_at hl 0 rfl) ?_
  refine lv_if_eq (tgt := 137) hx hb dL_sung_127 (by decide) (fun c_x => absurd c_x (by decide : ¬ ((1 : Int32) = 0))) (fun _ => ?_)
  refine lv_aload_n hx hb dL_sung_130 rfl (lv_at hl 1 rfl) ?_
  refine kWT (As := [.ref po]) (rest := []) ⟨hx, hb, hml, hown, hts⟩ (L_song l D T po a k (apX (apX (apX (apX (apX (0, x.2) (48 + (n / 10))) (48 + (n % 10))) 40) (97 + pa)) 41) hp (TX_sung (n := n) (i := 2) hp (by omega) (by omega) (Or.inr (Or.inr ⟨h2, rfl, rfl, rfl⟩)) (Or.inr ⟨by omega, rfl, rfl, rfl, rfl⟩)) hK hM (by omega)) (vx_cwSW 1 hts gL_sung_L_song rfl rfl rfl (by decide +kernel) ⟨Nat.le_of_ble_eq_true rfl, Nat.le_of_ble_eq_true rfl⟩) hC hXX hZ hE hNc hP hD hS hA rfl hl.1 rfl (Nat.le_of_ble_eq_true rfl) dL_sung_131 ⟨(by show 0 + 0 + 0 + 0 + 0 + 0 ≤ 0; omega), (by show 0 + 0 + 0 + 0 + 0 + 0 ≤ 0; omega)⟩ (fun H locs hP hD hS => ?_)
  have hP : va_P D vwCl (wO T po a (recQ k (tkR k.1 pa n)) (sgX (apX (apX (apX (apX (apX (0, x.2) (48 + (n / 10))) (48 + (n % 10))) 40) (97 + pa)) 41)) ++ []) H := hP
  have hD : va_D A (wO T po a (recQ k (tkR k.1 pa n)) (sgX (apX (apX (apX (apX (apX (0, x.2) (48 + (n / 10))) (48 + (n % 10))) 40) (97 + pa)) 41)) ++ []) := hD
  refine W.eq (g2 := F0 m 134 ls [.int (qSum k.1 + nI n)]) rfl ?_
  refine lv_goto (tgt := 139) hx hb dL_sung_134 (by decide) ?_
  rw [wP_nil] at hP
  rw [wD_nil] at hD
  exact hret _ _ _ _ _ _ _ (by show 0 + 0 + 0 + 0 + 0 + 0 + 0 ≤ 0; omega) (by show 0 + 0 + 0 + 0 + 0 + 0 + 0 ≤ 0; omega) (fun Qc free hq hf => W.iret hx hb hr hq hf dL_sung_139 hlk) hP hD hS
theorem L_sung (l : Launch) (D : va_G) (T : Nat → ClassId) (po : Nat) (a : Nat → Nat) (k : KS) (x : CT) {M : Int} {pa n : Nat} (ins : Bool) (hp : pa < 26) (h1 : 1 ≤ n) (h99 : n ≤ 99) (hx : x.1 ≤ 60) (hK : KI k M) (hM : M + (n : Nat) ≤ 99999) : ∃ x' : CT, x'.1 ≤ 60 ∧ kWN l D T yL_sung wsL_sung rL_sung 0 0 [.ref po, .int (nI pa), .int (nI n), .int (bI ins)] (wO T po a k x) (some (.int (qSum k.1 + nI n))) (wO T po a (recQ k (tkR k.1 pa n)) x') := by
  by_cases e1 : n = 1
  · subst e1
    cases ins
    · exact ⟨_, (by show (1 : Nat) ≤ 60; decide), L_sung_A0 l D T po a k x hp hx hK hM⟩
    · exact ⟨_, (by show (1 : Nat) ≤ 60; decide), L_sung_A1 l D T po a k x hp hx hK hM⟩
  · by_cases e9 : n ≤ 9
    · cases ins
      · exact ⟨_, (by show (2 : Nat) ≤ 60; decide), L_sung_B0 l D T po a k x hp (by omega) e9 hx hK hM⟩
      · exact ⟨_, (by show (4 : Nat) ≤ 60; decide), L_sung_B1 l D T po a k x hp (by omega) e9 hx hK hM⟩
    · cases ins
      · exact ⟨_, (by show (3 : Nat) ≤ 60; decide), L_sung_D0 l D T po a k x hp (by omega) (by omega) hx hK hM⟩
      · exact ⟨_, (by show (5 : Nat) ≤ 60; decide), L_sung_D1 l D T po a k x hp (by omega) (by omega) hx hK hM⟩
end PSUNG
