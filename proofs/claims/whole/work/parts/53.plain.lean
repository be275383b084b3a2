section OPS2
set_option maxHeartbeats 4000000 in
set_option maxRecDepth 100000 in
theorem op_counters {l : Launch} (D : va_G) (T : Nat → ClassId) (po ouA : Nat) (a : Nat → Nat) (mo : Nat) (m : Nat → Nat) {v : ST} {hk hz : Nat} {sl : Nat → ST} {x : CT} (ouF : Nat → Int64) {al hy : Nat → Int32} {hn : Nat} {y : MT} (hR : RW v hk hz sl x al hy hn y) : ∃ (v' : ST) (hk' hz' : Nat) (sl' : Nat → ST) (x' : CT) (ouF' : Nat → Int64) (al' hy' : Nat → Int32) (hn' : Nat) (y' : MT) (b : Int32), kM l D T yX8_counters wsX8_counters rX8_counters [.ref po] (bsC T po ouA a v hk hz sl x ouF).flatten (some (.int b)) (bsC T po ouA a v' hk' hz' sl' x' ouF').flatten ∧ kM l D T yX9_counters wsX9_counters rX9_counters [.ref mo] (bsM T mo m al hy hn y).flatten (some (.int b)) (bsM T mo m al' hy' hn' y').flatten ∧ RW v' hk' hz' sl' x' al' hy' hn' y' := by
  have hR0 := hR
  obtain ⟨hS, hH, hnz, hlen, h60, htx⟩ := hR
  subst hnz
  obtain ⟨s1, s9, hcp, hia, hLI, hLR, hrm, hwr, hAs⟩ := id hS
  have hc9 : v.2.2.2.2.2.2.2 < 1000 := by omega
  obtain ⟨hk5, hz5, hHr⟩ := id hH
  have e : v.1.2.2.2.2.1 = (nI (cntN (rwF al 26) 26)) := by
    rw [hLR.2.2.2.2.2.1, LR_cnt hLR]
  refine ⟨v, hk, hn, sl, x, ouF, al, hy, hn, (0, y.2), (nI (cntN (rwF al 26) 26)), ?_, kp_m0_1 (c_X9_counters l D T mo (m 0) (m 1) (m 2) (m 3) (m 4) al hn y.1 y.2.2.2.2.1 y.2.2.2.2.2.1 y.2.2.2.2.2.2.1 y.2.2.2.2.2.2.2.1 y.2.2.2.2.2.2.2.2), hR0⟩
  rw [← e]
  exact kp_c0_3_4 (c_X8_counters l D T po (a 17) (a 104) (a 0) (a 9) v.2.2.2.2.2.2.1 v.2.2.2.2.2.2.2 (a 1) (a 2) (a 3) (a 4) (a 5) (a 6) (a 7) (a 8) v.1.1 v.1.2.1 v.1.2.2.1 v.1.2.2.2.1 v.1.2.2.2.2.1 v.2.1 v.1.2.2.2.2.2.1 v.1.2.2.2.2.2.2.1 v.1.2.2.2.2.2.2.2.1 v.2.2.1 v.1.2.2.2.2.2.2.2.2)
set_option maxHeartbeats 4000000 in
set_option maxRecDepth 100000 in
theorem op_floor {l : Launch} (D : va_G) (T : Nat → ClassId) (po ouA : Nat) (a : Nat → Nat) (mo : Nat) (m : Nat → Nat) {v : ST} {hk hz : Nat} {sl : Nat → ST} {x : CT} (ouF : Nat → Int64) {al hy : Nat → Int32} {hn : Nat} {y : MT} (hR : RW v hk hz sl x al hy hn y) : ∃ (v' : ST) (hk' hz' : Nat) (sl' : Nat → ST) (x' : CT) (ouF' : Nat → Int64) (al' hy' : Nat → Int32) (hn' : Nat) (y' : MT) (b : Int32), kM l D T yX8_floor wsX8_floor rX8_floor [.ref po] (bsC T po ouA a v hk hz sl x ouF).flatten (some (.int b)) (bsC T po ouA a v' hk' hz' sl' x' ouF').flatten ∧ kM l D T yX9_floor wsX9_floor rX9_floor [.ref mo] (bsM T mo m al hy hn y).flatten (some (.int b)) (bsM T mo m al' hy' hn' y').flatten ∧ RW v' hk' hz' sl' x' al' hy' hn' y' := by
  have hR0 := hR
  obtain ⟨hS, hH, hnz, hlen, h60, htx⟩ := hR
  subst hnz
  obtain ⟨s1, s9, hcp, hia, hLI, hLR, hrm, hwr, hAs⟩ := id hS
  have hc9 : v.2.2.2.2.2.2.2 < 1000 := by omega
  obtain ⟨hk5, hz5, hHr⟩ := id hH
  have e : (flLeast v.1.1 v.1.2.2.1 v.1.2.2.2.2.1 v.2.1) = (mFloor al 0) := by
    rw [hrm, LR_least hLR hcp hc9]
  refine ⟨v, hk, hn, sl, x, ouF, al, hy, hn, (0, y.2), (mFloor al 0), ?_, kp_m0_1 (c_X9_floor l D T mo (m 0) (m 1) (m 2) (m 3) (m 4) al hn y.1 y.2.2.2.2.1 y.2.2.2.2.2.1 y.2.2.2.2.2.2.1 y.2.2.2.2.2.2.2.1 y.2.2.2.2.2.2.2.2 v.2.2.2.2.2.2.2 (hcp) (hc9)), hR0⟩
  rw [← e]
  exact kp_c0_3_4 (c_X8_floor l D T po (a 17) (a 104) (a 0) (a 9) v.2.2.2.2.2.2.1 v.2.2.2.2.2.2.2 (a 1) (a 2) (a 3) (a 4) (a 5) (a 6) (a 7) (a 8) v.1.1 v.1.2.1 v.1.2.2.1 v.1.2.2.2.1 v.1.2.2.2.2.1 v.2.1 v.1.2.2.2.2.2.1 v.1.2.2.2.2.2.2.1 v.1.2.2.2.2.2.2.2.1 v.2.2.1 v.1.2.2.2.2.2.2.2.2)
set_option maxHeartbeats 4000000 in
set_option maxRecDepth 100000 in
theorem op_wornCounters {l : Launch} (D : va_G) (T : Nat → ClassId) (po ouA : Nat) (a : Nat → Nat) (mo : Nat) (m : Nat → Nat) {v : ST} {hk hz : Nat} {sl : Nat → ST} {x : CT} (ouF : Nat → Int64) {al hy : Nat → Int32} {hn : Nat} {y : MT} (hR : RW v hk hz sl x al hy hn y) : ∃ (v' : ST) (hk' hz' : Nat) (sl' : Nat → ST) (x' : CT) (ouF' : Nat → Int64) (al' hy' : Nat → Int32) (hn' : Nat) (y' : MT) (b : Int32), kM l D T yX8_wornCounters wsX8_wornCounters rX8_wornCounters [.ref po] (bsC T po ouA a v hk hz sl x ouF).flatten (some (.int b)) (bsC T po ouA a v' hk' hz' sl' x' ouF').flatten ∧ kM l D T yX9_wornCounters wsX9_wornCounters rX9_wornCounters [.ref mo] (bsM T mo m al hy hn y).flatten (some (.int b)) (bsM T mo m al' hy' hn' y').flatten ∧ RW v' hk' hz' sl' x' al' hy' hn' y' := by
  have hR0 := hR
  obtain ⟨hS, hH, hnz, hlen, h60, htx⟩ := hR
  subst hnz
  obtain ⟨s1, s9, hcp, hia, hLI, hLR, hrm, hwr, hAs⟩ := id hS
  have hc9 : v.2.2.2.2.2.2.2 < 1000 := by omega
  obtain ⟨hk5, hz5, hHr⟩ := id hH
  have e : v.1.2.2.2.2.2.2.2.1 = (nI (cntN (rwF al 104) 26)) := by
    rw [hLR.2.2.2.2.2.2.2, LR_cntW hLR]
  refine ⟨v, hk, hn, sl, x, ouF, al, hy, hn, (0, y.2), (nI (cntN (rwF al 104) 26)), ?_, kp_m0_1 (c_X9_wornCounters l D T mo (m 0) (m 1) (m 2) (m 3) (m 4) al hn y.1 y.2.2.2.2.1 y.2.2.2.2.2.1 y.2.2.2.2.2.2.1 y.2.2.2.2.2.2.2.1 y.2.2.2.2.2.2.2.2), hR0⟩
  rw [← e]
  exact kp_c0_3_4 (c_X8_wornCounters l D T po (a 17) (a 104) (a 0) (a 9) v.2.2.2.2.2.2.1 v.2.2.2.2.2.2.2 (a 1) (a 2) (a 3) (a 4) (a 5) (a 6) (a 7) (a 8) v.1.1 v.1.2.1 v.1.2.2.1 v.1.2.2.2.1 v.1.2.2.2.2.1 v.2.1 v.1.2.2.2.2.2.1 v.1.2.2.2.2.2.2.1 v.1.2.2.2.2.2.2.2.1 v.2.2.1 v.1.2.2.2.2.2.2.2.2)
set_option maxHeartbeats 4000000 in
set_option maxRecDepth 100000 in
theorem op_wear {l : Launch} (D : va_G) (T : Nat → ClassId) (po ouA : Nat) (a : Nat → Nat) (mo : Nat) (m : Nat → Nat) {v : ST} {hk hz : Nat} {sl : Nat → ST} {x : CT} (ouF : Nat → Int64) {al hy : Nat → Int32} {hn : Nat} {y : MT} (hR : RW v hk hz sl x al hy hn y) : ∃ (v' : ST) (hk' hz' : Nat) (sl' : Nat → ST) (x' : CT) (ouF' : Nat → Int64) (al' hy' : Nat → Int32) (hn' : Nat) (y' : MT) (b : Int32), kM l D T yX8_wear wsX8_wear rX8_wear [.ref po] (bsC T po ouA a v hk hz sl x ouF).flatten (some (.int b)) (bsC T po ouA a v' hk' hz' sl' x' ouF').flatten ∧ kM l D T yX9_wear wsX9_wear rX9_wear [.ref mo] (bsM T mo m al hy hn y).flatten (some (.int b)) (bsM T mo m al' hy' hn' y').flatten ∧ RW v' hk' hz' sl' x' al' hy' hn' y' := by
  have hR0 := hR
  obtain ⟨hS, hH, hnz, hlen, h60, htx⟩ := hR
  subst hnz
  obtain ⟨s1, s9, hcp, hia, hLI, hLR, hrm, hwr, hAs⟩ := id hS
  have hc9 : v.2.2.2.2.2.2.2 < 1000 := by omega
  obtain ⟨hk5, hz5, hHr⟩ := id hH
  have e : v.1.2.2.2.2.2.2.1 = (al 130) := by
    rw [hLR.2.2.2.2.2.2.1, Nat.zero_add]
  refine ⟨v, hk, hn, sl, x, ouF, al, hy, hn, (0, y.2), (al 130), ?_, kp_m0_1 (c_X9_wear l D T mo (m 0) (m 1) (m 2) (m 3) (m 4) al hn y.1 y.2.2.2.2.1 y.2.2.2.2.2.1 y.2.2.2.2.2.2.1 y.2.2.2.2.2.2.2.1 y.2.2.2.2.2.2.2.2), hR0⟩
  rw [← e]
  exact kp_c0_3_4 (c_X8_wear l D T po (a 17) (a 104) (a 0) (a 9) v.2.2.2.2.2.2.1 v.2.2.2.2.2.2.2 (a 1) (a 2) (a 3) (a 4) (a 5) (a 6) (a 7) (a 8) v.1.1 v.1.2.1 v.1.2.2.1 v.1.2.2.2.1 v.1.2.2.2.2.1 v.2.1 v.1.2.2.2.2.2.1 v.1.2.2.2.2.2.2.1 v.1.2.2.2.2.2.2.2.1 v.2.2.1 v.1.2.2.2.2.2.2.2.2)
set_option maxHeartbeats 4000000 in
set_option maxRecDepth 100000 in
theorem op_capacity {l : Launch} (D : va_G) (T : Nat → ClassId) (po ouA : Nat) (a : Nat → Nat) (mo : Nat) (m : Nat → Nat) {v : ST} {hk hz : Nat} {sl : Nat → ST} {x : CT} (ouF : Nat → Int64) {al hy : Nat → Int32} {hn : Nat} {y : MT} (hR : RW v hk hz sl x al hy hn y) : ∃ (v' : ST) (hk' hz' : Nat) (sl' : Nat → ST) (x' : CT) (ouF' : Nat → Int64) (al' hy' : Nat → Int32) (hn' : Nat) (y' : MT) (b : Int32), kM l D T yX8_capacity wsX8_capacity rX8_capacity [.ref po] (bsC T po ouA a v hk hz sl x ouF).flatten (some (.int b)) (bsC T po ouA a v' hk' hz' sl' x' ouF').flatten ∧ kM l D T yX9_capacity wsX9_capacity rX9_capacity [.ref mo] (bsM T mo m al hy hn y).flatten (some (.int b)) (bsM T mo m al' hy' hn' y').flatten ∧ RW v' hk' hz' sl' x' al' hy' hn' y' := by
  have hR0 := hR
  obtain ⟨hS, hH, hnz, hlen, h60, htx⟩ := hR
  subst hnz
  obtain ⟨s1, s9, hcp, hia, hLI, hLR, hrm, hwr, hAs⟩ := id hS
  have hc9 : v.2.2.2.2.2.2.2 < 1000 := by omega
  obtain ⟨hk5, hz5, hHr⟩ := id hH
  have e : (nI v.2.2.2.2.2.2.2) = (al 264) := by
    rw [hcp]
  refine ⟨v, hk, hn, sl, x, ouF, al, hy, hn, (0, y.2), (al 264), ?_, kp_m0_1 (c_X9_capacity l D T mo (m 0) (m 1) (m 2) (m 3) (m 4) al hn y.1 y.2.2.2.2.1 y.2.2.2.2.2.1 y.2.2.2.2.2.2.1 y.2.2.2.2.2.2.2.1 y.2.2.2.2.2.2.2.2), hR0⟩
  rw [← e]
  exact kp_c0_3_4 (c_X8_capacity l D T po (a 17) (a 104) (a 0) (a 9) v.2.2.2.2.2.2.1 v.2.2.2.2.2.2.2 (a 1) (a 2) (a 3) (a 4) (a 5) (a 6) (a 7) (a 8) v.1.1 v.1.2.1 v.1.2.2.1 v.1.2.2.2.1 v.1.2.2.2.2.1 v.2.1 v.1.2.2.2.2.2.1 v.1.2.2.2.2.2.2.1 v.1.2.2.2.2.2.2.2.1 v.2.2.1 v.1.2.2.2.2.2.2.2.2)
set_option maxHeartbeats 4000000 in
set_option maxRecDepth 100000 in
theorem op_calls {l : Launch} (D : va_G) (T : Nat → ClassId) (po ouA : Nat) (a : Nat → Nat) (mo : Nat) (m : Nat → Nat) {v : ST} {hk hz : Nat} {sl : Nat → ST} {x : CT} (ouF : Nat → Int64) {al hy : Nat → Int32} {hn : Nat} {y : MT} (hR : RW v hk hz sl x al hy hn y) : ∃ (v' : ST) (hk' hz' : Nat) (sl' : Nat → ST) (x' : CT) (ouF' : Nat → Int64) (al' hy' : Nat → Int32) (hn' : Nat) (y' : MT) (b : Int32), kM l D T yX8_calls wsX8_calls rX8_calls [.ref po] (bsC T po ouA a v hk hz sl x ouF).flatten (some (.int b)) (bsC T po ouA a v' hk' hz' sl' x' ouF').flatten ∧ kM l D T yX9_calls wsX9_calls rX9_calls [.ref mo] (bsM T mo m al hy hn y).flatten (some (.int b)) (bsM T mo m al' hy' hn' y').flatten ∧ RW v' hk' hz' sl' x' al' hy' hn' y' := by
  have hR0 := hR
  obtain ⟨hS, hH, hnz, hlen, h60, htx⟩ := hR
  subst hnz
  obtain ⟨s1, s9, hcp, hia, hLI, hLR, hrm, hwr, hAs⟩ := id hS
  have hc9 : v.2.2.2.2.2.2.2 < 1000 := by omega
  obtain ⟨hk5, hz5, hHr⟩ := id hH
  have e : (smN v.1.2.2.2.2.2.2.2.2 26) = (smN (rwF al 0) 26) := by
    rw [LR_sum hLR]
  refine ⟨v, hk, hn, sl, x, ouF, al, hy, hn, (0, y.2), (smN (rwF al 0) 26), ?_, kp_m0_1 (c_X9_calls l D T mo (m 0) (m 1) (m 2) (m 3) (m 4) al hn y.1 y.2.2.2.2.1 y.2.2.2.2.2.1 y.2.2.2.2.2.2.1 y.2.2.2.2.2.2.2.1 y.2.2.2.2.2.2.2.2), hR0⟩
  rw [← e]
  exact kp_c0_3_4 (c_X8_calls l D T po (a 17) (a 104) (a 0) (a 9) v.2.2.2.2.2.2.1 v.2.2.2.2.2.2.2 (a 1) (a 2) (a 3) (a 4) (a 5) (a 6) (a 7) (a 8) v.1.1 v.1.2.1 v.1.2.2.1 v.1.2.2.2.1 v.1.2.2.2.2.1 v.2.1 v.1.2.2.2.2.2.1 v.1.2.2.2.2.2.2.1 v.1.2.2.2.2.2.2.2.1 v.2.2.1 v.1.2.2.2.2.2.2.2.2)
set_option maxHeartbeats 4000000 in
set_option maxRecDepth 100000 in
theorem op_callsByCounters {l : Launch} (D : va_G) (T : Nat → ClassId) (po ouA : Nat) (a : Nat → Nat) (mo : Nat) (m : Nat → Nat) {v : ST} {hk hz : Nat} {sl : Nat → ST} {x : CT} (ouF : Nat → Int64) {al hy : Nat → Int32} {hn : Nat} {y : MT} (hR : RW v hk hz sl x al hy hn y) : ∃ (v' : ST) (hk' hz' : Nat) (sl' : Nat → ST) (x' : CT) (ouF' : Nat → Int64) (al' hy' : Nat → Int32) (hn' : Nat) (y' : MT) (b : Int32), kM l D T yX8_callsByCounters wsX8_callsByCounters rX8_callsByCounters [.ref po] (bsC T po ouA a v hk hz sl x ouF).flatten (some (.int b)) (bsC T po ouA a v' hk' hz' sl' x' ouF').flatten ∧ kM l D T yX9_callsByCounters wsX9_callsByCounters rX9_callsByCounters [.ref mo] (bsM T mo m al hy hn y).flatten (some (.int b)) (bsM T mo m al' hy' hn' y').flatten ∧ RW v' hk' hz' sl' x' al' hy' hn' y' := by
  have hR0 := hR
  obtain ⟨hS, hH, hnz, hlen, h60, htx⟩ := hR
  subst hnz
  obtain ⟨s1, s9, hcp, hia, hLI, hLR, hrm, hwr, hAs⟩ := id hS
  have hc9 : v.2.2.2.2.2.2.2 < 1000 := by omega
  obtain ⟨hk5, hz5, hHr⟩ := id hH
  have e : (smN v.1.1 26) = (smN (rwF al 26) 26) := by
    rw [LR_sumC hLR]
  refine ⟨v, hk, hn, sl, x, ouF, al, hy, hn, (0, y.2), (smN (rwF al 26) 26), ?_, kp_m0_1 (c_X9_callsByCounters l D T mo (m 0) (m 1) (m 2) (m 3) (m 4) al hn y.1 y.2.2.2.2.1 y.2.2.2.2.2.1 y.2.2.2.2.2.2.1 y.2.2.2.2.2.2.2.1 y.2.2.2.2.2.2.2.2), hR0⟩
  rw [← e]
  exact kp_c0_3_4 (c_X8_callsByCounters l D T po (a 17) (a 104) (a 0) (a 9) v.2.2.2.2.2.2.1 v.2.2.2.2.2.2.2 (a 1) (a 2) (a 3) (a 4) (a 5) (a 6) (a 7) (a 8) v.1.1 v.1.2.1 v.1.2.2.1 v.1.2.2.2.1 v.1.2.2.2.2.1 v.2.1 v.1.2.2.2.2.2.1 v.1.2.2.2.2.2.2.1 v.1.2.2.2.2.2.2.2.1 v.2.2.1 v.1.2.2.2.2.2.2.2.2)
set_option maxHeartbeats 4000000 in
set_option maxRecDepth 100000 in
theorem op_parrotsHeard {l : Launch} (D : va_G) (T : Nat → ClassId) (po ouA : Nat) (a : Nat → Nat) (mo : Nat) (m : Nat → Nat) {v : ST} {hk hz : Nat} {sl : Nat → ST} {x : CT} (ouF : Nat → Int64) {al hy : Nat → Int32} {hn : Nat} {y : MT} (hR : RW v hk hz sl x al hy hn y) : ∃ (v' : ST) (hk' hz' : Nat) (sl' : Nat → ST) (x' : CT) (ouF' : Nat → Int64) (al' hy' : Nat → Int32) (hn' : Nat) (y' : MT) (b : Int32), kM l D T yX8_parrotsHeard wsX8_parrotsHeard rX8_parrotsHeard [.ref po] (bsC T po ouA a v hk hz sl x ouF).flatten (some (.int b)) (bsC T po ouA a v' hk' hz' sl' x' ouF').flatten ∧ kM l D T yX9_parrotsHeard wsX9_parrotsHeard rX9_parrotsHeard [.ref mo] (bsM T mo m al hy hn y).flatten (some (.int b)) (bsM T mo m al' hy' hn' y').flatten ∧ RW v' hk' hz' sl' x' al' hy' hn' y' := by
  have hR0 := hR
  obtain ⟨hS, hH, hnz, hlen, h60, htx⟩ := hR
  subst hnz
  obtain ⟨s1, s9, hcp, hia, hLI, hLR, hrm, hwr, hAs⟩ := id hS
  have hc9 : v.2.2.2.2.2.2.2 < 1000 := by omega
  obtain ⟨hk5, hz5, hHr⟩ := id hH
  have e : (nI (cntN v.1.2.2.2.2.2.2.2.2 26)) = (nI (cntN (rwF al 0) 26)) := by
    rw [LR_cntT hLR]
  refine ⟨v, hk, hn, sl, x, ouF, al, hy, hn, (0, y.2), (nI (cntN (rwF al 0) 26)), ?_, kp_m0_1 (c_X9_parrotsHeard l D T mo (m 0) (m 1) (m 2) (m 3) (m 4) al hn y.1 y.2.2.2.2.1 y.2.2.2.2.2.1 y.2.2.2.2.2.2.1 y.2.2.2.2.2.2.2.1 y.2.2.2.2.2.2.2.2), hR0⟩
  rw [← e]
  exact kp_c0_3_4 (c_X8_parrotsHeard l D T po (a 17) (a 104) (a 0) (a 9) v.2.2.2.2.2.2.1 v.2.2.2.2.2.2.2 (a 1) (a 2) (a 3) (a 4) (a 5) (a 6) (a 7) (a 8) v.1.1 v.1.2.1 v.1.2.2.1 v.1.2.2.2.1 v.1.2.2.2.2.1 v.2.1 v.1.2.2.2.2.2.1 v.1.2.2.2.2.2.2.1 v.1.2.2.2.2.2.2.2.1 v.2.2.1 v.1.2.2.2.2.2.2.2.2)
set_option maxHeartbeats 4000000 in
set_option maxRecDepth 100000 in
theorem op_greatestError {l : Launch} (D : va_G) (T : Nat → ClassId) (po ouA : Nat) (a : Nat → Nat) (mo : Nat) (m : Nat → Nat) {v : ST} {hk hz : Nat} {sl : Nat → ST} {x : CT} (ouF : Nat → Int64) {al hy : Nat → Int32} {hn : Nat} {y : MT} (hR : RW v hk hz sl x al hy hn y) : ∃ (v' : ST) (hk' hz' : Nat) (sl' : Nat → ST) (x' : CT) (ouF' : Nat → Int64) (al' hy' : Nat → Int32) (hn' : Nat) (y' : MT) (b : Int32), kM l D T yX8_greatestError wsX8_greatestError rX8_greatestError [.ref po] (bsC T po ouA a v hk hz sl x ouF).flatten (some (.int b)) (bsC T po ouA a v' hk' hz' sl' x' ouF').flatten ∧ kM l D T yX9_greatestError wsX9_greatestError rX9_greatestError [.ref mo] (bsM T mo m al hy hn y).flatten (some (.int b)) (bsM T mo m al' hy' hn' y').flatten ∧ RW v' hk' hz' sl' x' al' hy' hn' y' := by
  have hR0 := hR
  obtain ⟨hS, hH, hnz, hlen, h60, htx⟩ := hR
  subst hnz
  obtain ⟨s1, s9, hcp, hia, hLI, hLR, hrm, hwr, hAs⟩ := id hS
  have hc9 : v.2.2.2.2.2.2.2 < 1000 := by omega
  obtain ⟨hk5, hz5, hHr⟩ := id hH
  have e : (geC v.1.1 v.1.2.2.1 v.1.2.2.2.2.1 v.2.1 v.1.2.2.2.2.2.2.2.2 26) = (geM al 25) := by
    rw [hrm]; exact ge_eq hcp hc9 hLI hLR 25 (by decide)
  refine ⟨v, hk, hn, sl, x, ouF, al, hy, hn, (0, y.2), (geM al 25), ?_, kp_m0_1 (c_X9_greatestError l D T mo (m 0) (m 1) (m 2) (m 3) (m 4) al hn y.1 y.2.2.2.2.1 y.2.2.2.2.2.1 y.2.2.2.2.2.2.1 y.2.2.2.2.2.2.2.1 y.2.2.2.2.2.2.2.2 v.2.2.2.2.2.2.2 (hcp) (hc9)), hR0⟩
  rw [← e]
  exact kp_c0_3_4 (c_X8_greatestError l D T po (a 17) (a 104) (a 0) (a 9) v.2.2.2.2.2.2.1 v.2.2.2.2.2.2.2 (a 1) (a 2) (a 3) (a 4) (a 5) (a 6) (a 7) (a 8) v.1.1 v.1.2.1 v.1.2.2.1 v.1.2.2.2.1 v.1.2.2.2.2.1 v.2.1 v.1.2.2.2.2.2.1 v.1.2.2.2.2.2.2.1 v.1.2.2.2.2.2.2.2.1 v.2.2.1 v.1.2.2.2.2.2.2.2.2)
set_option maxHeartbeats 4000000 in
set_option maxRecDepth 100000 in
theorem op_historySize {l : Launch} (D : va_G) (T : Nat → ClassId) (po ouA : Nat) (a : Nat → Nat) (mo : Nat) (m : Nat → Nat) {v : ST} {hk hz : Nat} {sl : Nat → ST} {x : CT} (ouF : Nat → Int64) {al hy : Nat → Int32} {hn : Nat} {y : MT} (hR : RW v hk hz sl x al hy hn y) : ∃ (v' : ST) (hk' hz' : Nat) (sl' : Nat → ST) (x' : CT) (ouF' : Nat → Int64) (al' hy' : Nat → Int32) (hn' : Nat) (y' : MT) (b : Int32), kM l D T yX8_historySize wsX8_historySize rX8_historySize [.ref po] (bsC T po ouA a v hk hz sl x ouF).flatten (some (.int b)) (bsC T po ouA a v' hk' hz' sl' x' ouF').flatten ∧ kM l D T yX9_historySize wsX9_historySize rX9_historySize [.ref mo] (bsM T mo m al hy hn y).flatten (some (.int b)) (bsM T mo m al' hy' hn' y').flatten ∧ RW v' hk' hz' sl' x' al' hy' hn' y' := by
  have hR0 := hR
  obtain ⟨hS, hH, hnz, hlen, h60, htx⟩ := hR
  subst hnz
  obtain ⟨s1, s9, hcp, hia, hLI, hLR, hrm, hwr, hAs⟩ := id hS
  have hc9 : v.2.2.2.2.2.2.2 < 1000 := by omega
  obtain ⟨hk5, hz5, hHr⟩ := id hH
  have e : (nI hn) = (nI hn) := by
    rfl
  refine ⟨v, hk, hn, sl, x, ouF, al, hy, hn, (0, y.2), (nI hn), ?_, kp_m0 (c_X9_historySize l D T mo (m 0) (m 1) (m 2) (m 3) (m 4) hn y.1 y.2.2.2.2.1 y.2.2.2.2.2.1 y.2.2.2.2.2.2.1 y.2.2.2.2.2.2.2.1 y.2.2.2.2.2.2.2.2), hR0⟩
  rw [← e]
  exact kp_c0_1 (c_X8_historySize l D T po (a 17) (a 104) (a 0) (a 18) hk hn)
end OPS2
