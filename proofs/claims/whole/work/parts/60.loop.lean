section LOOP
set_option maxHeartbeats 4000000 in
set_option maxRecDepth 100000 in
theorem law_loop {p : Program} {l : Launch} {e : Env} {s : State} {m : MethodId} {below : List Frame} {meth : Method} {c : Code} {D : va_G} {T : Nat → ClassId} {b L : Nat} {xs : Nat → Int32} (C : kLC p l s m c D T b L xs) (hL : L ≤ 1024) (hr : meth.sig.returnType = ret) (hlk : meth.locks = false) {po ouA mo : Nat} {a mm : Nat → Nat} :
    ∀ (n j : Nat), L + 2 ≤ 2 * j + 2 * n → 2 * j ≤ L + 1 → ∀ (v : ST) (hk hz : Nat) (sl : Nat → ST) (x : CT) (ouF : Nat → Int64) (al hy : Nat → Int32) (hn : Nat) (y : MT) (H : Heap) (locs : List Loc) (cells slots : Nat) (ls : Array Slot), kLS s D T b po ouA mo a mm j j v hk hz sl x ouF al hy hn y H locs cells slots ls → W p l e room_1 s m #[Value.ref b] below meth c H locs cells slots (lw_Z below #[Value.ref b] s) (F0 m 23 ls []) := by
  intro n
  induction n with
  | zero => intro j h1 h2; omega
  | succ n ih =>
    intro j h1 h2 v hk hz sl x ouF al hy hn y H locs cells slots ls S
    have C0 := C
    obtain ⟨hx, hb, hml, hown, hts, hX, hbl, hst9, hC, hXX, hZ, hE, hNc⟩ := C
    have S0 := S
    obtain ⟨hR, hP, hD, hS, hce, hso, hl⟩ := S
    have hbA : ¬ (fun q : Nat => s.heap.size ≤ q) b := Nat.not_le.mpr hbl
    have kk : ∀ (v : ST) (hk hz : Nat) (sl : Nat → ST) (x : CT) (ouF : Nat → Int64) (al hy : Nat → Int32) (hn : Nat) (y : MT) (H : Heap) (locs : List Loc) (cells slots : Nat) (ls : Array Slot), kLS s D T b po ouA mo a mm j (j + 1) v hk hz sl x ouF al hy hn y H locs cells slots ls → 2 * j + 1 < L → W p l e room_1 s m #[Value.ref b] below meth c H locs cells slots (lw_Z below #[Value.ref b] s) (F0 m 1405 ls []) := by
      intro v hk hz sl x ouF al hy hn y H locs cells slots ls S hj
      obtain ⟨hR, hP, hD, hS, hce, hso, hl⟩ := S
      refine lv_iinc (v := nI (2 * (j + 1))) (lv' := [(4, .int (nI (2 * (j + 1)))), (0, .ref b), (1, .ref po), (2, .ref mo), (3, .ref ouA)]) hx hb dL_law_1405 hl (k := 4) rfl (by rw [show Int32.ofInt 2 = nI 2 from by decide, nI_add]; rfl) (by decide) rfl (fun ls hl => ?_)
      refine lv_goto (tgt := 23) hx hb dL_law_1408 (by decide) ?_
      exact ih (j + 1) (by omega) (by omega) v hk hz sl x ouF al hy hn y H locs cells slots ls ⟨hR, hP, hD, hS, hce, hso, lv_sub hl [1, 2, 3, 4, 0] rfl⟩
    refine lv_iload hx hb dL_law_23 (lv_at hl 4 rfl) ?_
    refine lv_aload_n hx hb dL_law_25 rfl (lv_at hl 0 rfl) ?_
    refine va_slen hx hb hX hbl hbA hS dL_law_26 ?_
    refine lv_iconst (v := 2) hx hb dL_law_27 (by decide) ?_
    refine lv_isub hx hb dL_law_28 ?_
    have e2 : (2 : Int32).toInt = 2 := rfl
    have eL : (Int32.ofNat L - 2).toInt = (L : Int) - 2 := by
      have := nI_toInt (n := L) (by omega)
      have e : (Int32.ofNat L).toInt = (L : Int) := this
      rw [i32_sub (by omega) (by omega), e, e2]
    have ej : (nI (2 * j)).toInt = ((2 * j : Nat) : Int) := nI_toInt (by omega)
    refine lv_icmp_gt (tgt := 1411) hx hb dL_law_29 (by decide) (fun _ => ?_) (fun c1 => ?_)
    · refine lv_iconst (v := 1) hx hb dL_law_1411 (by decide) ?_
      refine va_forget (fun q hq => hS.2.2 q hq) ?_
      refine W.widen (k := 601024) (n := 7293034) (by omega) (by omega) ?_
      exact W.base (lw_ret (d0 := s.drawn) (Drawn.sameBut.refl s.drawn lw_cs) hx hb hr hlk dL_law_1412)
    · have hj : 2 * j + 1 < L := by
        rw [i_lt, eL, ej] at c1
        omega
      have hin0 : vp_in (nI (2 * j)) L := vp_in_nI (by omega) (by omega)
      have kk2 : ∀ (v : ST) (hk hz : Nat) (sl : Nat → ST) (x : CT) (ouF : Nat → Int64) (al hy : Nat → Int32) (hn : Nat) (y : MT) (H : Heap) (locs : List Loc) (cells slots : Nat) (ls : Array Slot), kLS s D T b po ouA mo a mm j (j + 1) v hk hz sl x ouF al hy hn y H locs cells slots ls → W p l e room_1 s m #[Value.ref b] below meth c H locs cells slots (lw_Z below #[Value.ref b] s) (F0 m 1405 ls []) := fun v hk hz sl x ouF al hy hn y H locs cells slots ls S => kk v hk hz sl x ouF al hy hn y H locs cells slots ls S hj
      refine lv_aload_n hx hb dL_law_32 rfl (lv_at hl 0 rfl) ?_
      refine lv_iload hx hb dL_law_33 (lv_at hl 4 rfl) ?_
      refine va_sld hx hb hX hbl hbA hS hin0 dL_law_35 ?_
      refine lv_bipush (v := 63) hx hb dL_law_36 (by decide) ?_
      refine lv_iand hx hb dL_law_38 ?_
      obtain ⟨t, ht, et⟩ := pk_andE (xs (nI (2 * j)).toNatClampNeg) (m := 63) 6 (by decide)
      rw [et]
      by_cases h34 : t < 34
      · rcases (show t = 0 ∨ t = 1 ∨ t = 2 ∨ t = 3 ∨ t = 4 ∨ t = 5 ∨ t = 6 ∨ t = 7 ∨ t = 8 ∨ t = 9 ∨ t = 10 ∨ t = 11 ∨ t = 12 ∨ t = 13 ∨ t = 14 ∨ t = 15 ∨ t = 16 ∨ t = 17 ∨ t = 18 ∨ t = 19 ∨ t = 20 ∨ t = 21 ∨ t = 22 ∨ t = 23 ∨ t = 24 ∨ t = 25 ∨ t = 26 ∨ t = 27 ∨ t = 28 ∨ t = 29 ∨ t = 30 ∨ t = 31 ∨ t = 32 ∨ t = 33 by omega) with rfl | rfl | rfl | rfl | rfl | rfl | rfl | rfl | rfl | rfl | rfl | rfl | rfl | rfl | rfl | rfl | rfl | rfl | rfl | rfl | rfl | rfl | rfl | rfl | rfl | rfl | rfl | rfl | rfl | rfl | rfl | rfl | rfl | rfl
        · exact lv_tableIn (off := 149) (tgt := 188) hx hb dL_law_39 (by decide) (by decide) (by decide) (by decide) (lc_0 C0 hL hj kk2 v hk hz sl x ouF al hy hn y H locs cells slots ls S0)
        · exact lv_tableIn (off := 205) (tgt := 244) hx hb dL_law_39 (by decide) (by decide) (by decide) (by decide) (lc_1 C0 hL hj kk2 v hk hz sl x ouF al hy hn y H locs cells slots ls S0)
        · exact lv_tableIn (off := 249) (tgt := 288) hx hb dL_law_39 (by decide) (by decide) (by decide) (by decide) (lc_2 C0 hL hj kk2 v hk hz sl x ouF al hy hn y H locs cells slots ls S0)
        · exact lv_tableIn (off := 305) (tgt := 344) hx hb dL_law_39 (by decide) (by decide) (by decide) (by decide) (lc_3 C0 hL hj kk2 v hk hz sl x ouF al hy hn y H locs cells slots ls S0)
        · exact lv_tableIn (off := 318) (tgt := 357) hx hb dL_law_39 (by decide) (by decide) (by decide) (by decide) (lc_4 C0 hL hj kk2 v hk hz sl x ouF al hy hn y H locs cells slots ls S0)
        · exact lv_tableIn (off := 362) (tgt := 401) hx hb dL_law_39 (by decide) (by decide) (by decide) (by decide) (lc_5 C0 hL hj kk2 v hk hz sl x ouF al hy hn y H locs cells slots ls S0)
        · exact lv_tableIn (off := 420) (tgt := 459) hx hb dL_law_39 (by decide) (by decide) (by decide) (by decide) (lc_6 C0 hL hj kk2 v hk hz sl x ouF al hy hn y H locs cells slots ls S0)
        · exact lv_tableIn (off := 433) (tgt := 472) hx hb dL_law_39 (by decide) (by decide) (by decide) (by decide) (lc_7 C0 hL hj kk2 v hk hz sl x ouF al hy hn y H locs cells slots ls S0)
        · exact lv_tableIn (off := 446) (tgt := 485) hx hb dL_law_39 (by decide) (by decide) (by decide) (by decide) (lc_8 C0 hL hj kk2 v hk hz sl x ouF al hy hn y H locs cells slots ls S0)
        · exact lv_tableIn (off := 490) (tgt := 529) hx hb dL_law_39 (by decide) (by decide) (by decide) (by decide) (lc_9 C0 hL hj kk2 v hk hz sl x ouF al hy hn y H locs cells slots ls S0)
        · exact lv_tableIn (off := 534) (tgt := 573) hx hb dL_law_39 (by decide) (by decide) (by decide) (by decide) (lc_10 C0 hL hj kk2 v hk hz sl x ouF al hy hn y H locs cells slots ls S0)
        · exact lv_tableIn (off := 578) (tgt := 617) hx hb dL_law_39 (by decide) (by decide) (by decide) (by decide) (lc_11 C0 hL hj kk2 v hk hz sl x ouF al hy hn y H locs cells slots ls S0)
        · exact lv_tableIn (off := 591) (tgt := 630) hx hb dL_law_39 (by decide) (by decide) (by decide) (by decide) (lc_12 C0 hL hj kk2 v hk hz sl x ouF al hy hn y H locs cells slots ls S0)
        · exact lv_tableIn (off := 647) (tgt := 686) hx hb dL_law_39 (by decide) (by decide) (by decide) (by decide) (lc_13 C0 hL hj kk2 v hk hz sl x ouF al hy hn y H locs cells slots ls S0)
        · exact lv_tableIn (off := 703) (tgt := 742) hx hb dL_law_39 (by decide) (by decide) (by decide) (by decide) (lc_14 C0 hL hj kk2 v hk hz sl x ouF al hy hn y H locs cells slots ls S0)
        · exact lv_tableIn (off := 759) (tgt := 798) hx hb dL_law_39 (by decide) (by decide) (by decide) (by decide) (lc_15 C0 hL hj kk2 v hk hz sl x ouF al hy hn y H locs cells slots ls S0)
        · exact lv_tableIn (off := 772) (tgt := 811) hx hb dL_law_39 (by decide) (by decide) (by decide) (by decide) (lc_16 C0 hL hj kk2 v hk hz sl x ouF al hy hn y H locs cells slots ls S0)
        · exact lv_tableIn (off := 816) (tgt := 855) hx hb dL_law_39 (by decide) (by decide) (by decide) (by decide) (lc_17 C0 hL hj kk2 v hk hz sl x ouF al hy hn y H locs cells slots ls S0)
        · exact lv_tableIn (off := 872) (tgt := 911) hx hb dL_law_39 (by decide) (by decide) (by decide) (by decide) (lc_18 C0 hL hj kk2 v hk hz sl x ouF al hy hn y H locs cells slots ls S0)
        · exact lv_tableIn (off := 928) (tgt := 967) hx hb dL_law_39 (by decide) (by decide) (by decide) (by decide) (lc_19 C0 hL hj kk2 v hk hz sl x ouF al hy hn y H locs cells slots ls S0)
        · exact lv_tableIn (off := 984) (tgt := 1023) hx hb dL_law_39 (by decide) (by decide) (by decide) (by decide) (lc_20 C0 hL hj kk2 v hk hz sl x ouF al hy hn y H locs cells slots ls S0)
        · exact lv_tableIn (off := 1040) (tgt := 1079) hx hb dL_law_39 (by decide) (by decide) (by decide) (by decide) (lc_21 C0 hL hj kk2 v hk hz sl x ouF al hy hn y H locs cells slots ls S0)
        · exact lv_tableIn (off := 1053) (tgt := 1092) hx hb dL_law_39 (by decide) (by decide) (by decide) (by decide) (lc_22 C0 hL hj kk2 v hk hz sl x ouF al hy hn y H locs cells slots ls S0)
        · exact lv_tableIn (off := 1109) (tgt := 1148) hx hb dL_law_39 (by decide) (by decide) (by decide) (by decide) (lc_23 C0 hL hj kk2 v hk hz sl x ouF al hy hn y H locs cells slots ls S0)
        · exact lv_tableIn (off := 1165) (tgt := 1204) hx hb dL_law_39 (by decide) (by decide) (by decide) (by decide) (lc_24 C0 hL hj kk2 v hk hz sl x ouF al hy hn y H locs cells slots ls S0)
        · exact lv_tableIn (off := 1178) (tgt := 1217) hx hb dL_law_39 (by decide) (by decide) (by decide) (by decide) (lc_25 C0 hL hj kk2 v hk hz sl x ouF al hy hn y H locs cells slots ls S0)
        · exact lv_tableIn (off := 1191) (tgt := 1230) hx hb dL_law_39 (by decide) (by decide) (by decide) (by decide) (lc_26 C0 hL hj kk2 v hk hz sl x ouF al hy hn y H locs cells slots ls S0)
        · exact lv_tableIn (off := 1247) (tgt := 1286) hx hb dL_law_39 (by decide) (by decide) (by decide) (by decide) (lc_27 C0 hL hj kk2 v hk hz sl x ouF al hy hn y H locs cells slots ls S0)
        · exact lv_tableIn (off := 1260) (tgt := 1299) hx hb dL_law_39 (by decide) (by decide) (by decide) (by decide) (lc_28 C0 hL hj kk2 v hk hz sl x ouF al hy hn y H locs cells slots ls S0)
        · exact lv_tableIn (off := 1273) (tgt := 1312) hx hb dL_law_39 (by decide) (by decide) (by decide) (by decide) (lc_29 C0 hL hj kk2 v hk hz sl x ouF al hy hn y H locs cells slots ls S0)
        · exact lv_tableIn (off := 1286) (tgt := 1325) hx hb dL_law_39 (by decide) (by decide) (by decide) (by decide) (lc_30 C0 hL hj kk2 v hk hz sl x ouF al hy hn y H locs cells slots ls S0)
        · exact lv_tableIn (off := 1299) (tgt := 1338) hx hb dL_law_39 (by decide) (by decide) (by decide) (by decide) (lc_31 C0 hL hj kk2 v hk hz sl x ouF al hy hn y H locs cells slots ls S0)
        · exact lv_tableIn (off := 1312) (tgt := 1351) hx hb dL_law_39 (by decide) (by decide) (by decide) (by decide) (lc_32 C0 hL hj kk2 v hk hz sl x ouF al hy hn y H locs cells slots ls S0)
        · exact lv_tableIn (off := 1353) (tgt := 1392) hx hb dL_law_39 (by decide) (by decide) (by decide) (by decide) (lc_33 C0 hL hj kk2 v hk hz sl x ouF al hy hn y H locs cells slots ls S0)
      · refine lv_tableOut (tgt := 1405) hx hb dL_law_39 (Or.inr ?_) (by decide) ?_
        · rw [nI_toInt (by omega)]
          omega
        · exact kk2 v hk hz sl x ouF al hy hn y H locs cells slots ls ⟨hR, hP, hD, hS, by omega, by omega, hl⟩
end LOOP
