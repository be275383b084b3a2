section OPS1
set_option maxHeartbeats 4000000 in
set_option maxRecDepth 100000 in
theorem op_estimate {l : Launch} (hst9 : l.stackTraces = false) (D : va_G) (T : Nat → ClassId) (po ouA : Nat) (a : Nat → Nat) (mo : Nat) (m : Nat → Nat) {v : ST} {hk hz : Nat} {sl : Nat → ST} {x : CT} (ouF : Nat → Int64) {al hy : Nat → Int32} {hn : Nat} {y : MT} (hR : RW v hk hz sl x al hy hn y) (px : Int32) : ∃ (v' : ST) (hk' hz' : Nat) (sl' : Nat → ST) (x' : CT) (ouF' : Nat → Int64) (al' hy' : Nat → Int32) (hn' : Nat) (y' : MT) (k b : Int32), kWM l D T yL_estimate wsL_estimate rL_estimate [.ref po, .int px, .ref ouA] (bsC T po ouA a v hk hz sl x ouF).flatten (some (.int k)) (bsC T po ouA a v' hk' hz' sl' x' ouF').flatten ∧ kM l D T yX9_estimate wsX9_estimate rX9_estimate [.ref mo, .int px] (bsM T mo m al hy hn y).flatten (some (.int b)) (bsM T mo m al' hy' hn' y').flatten ∧ y'.1 = k ∧ (k = 0 → ouF' 0 = b.toInt64) ∧ RW v' hk' hz' sl' x' al' hy' hn' y' := by
  have hR0 := hR
  obtain ⟨hS, hH, hnz, hlen, h60, htx⟩ := hR
  subst hnz
  obtain ⟨s1, s9, hcp, hia, hLI, hLR, hrm, hwr, hAs⟩ := id hS
  have hc9 : v.2.2.2.2.2.2.2 < 1000 := by omega
  obtain ⟨hk5, hz5, hHr⟩ := id hH
  rcases isPar px with ⟨h1, h2⟩ | ⟨h1, h2, h3⟩ | ⟨pa, hp, rfl⟩
  · exact ⟨v, hk, hn, sl, x, ouF, al, hy, hn, (1, y.2), 1, 0, kq_c0_14 (kLx_estimate_lo l D T po (a 0) (a 17) (a 104) px ouA ouF (h1) (hst9)), kp_m0_1 (c_X9_estimate_bad l D T mo (m 0) (m 1) (m 2) (m 3) (m 4) al hn y.1 y.2.2.2.2.1 y.2.2.2.2.2.1 y.2.2.2.2.2.2.1 y.2.2.2.2.2.2.2.1 y.2.2.2.2.2.2.2.2 px (h2)), rfl, fun k => absurd k (by decide), hR0⟩
  · exact ⟨v, hk, hn, sl, x, ouF, al, hy, hn, (1, y.2), 1, 0, kq_c0_14 (kLx_estimate_hi l D T po (a 0) (a 17) (a 104) px ouA ouF (h1) (h2) (hst9)), kp_m0_1 (c_X9_estimate_bad l D T mo (m 0) (m 1) (m 2) (m 3) (m 4) al hn y.1 y.2.2.2.2.1 y.2.2.2.2.2.1 y.2.2.2.2.2.2.1 y.2.2.2.2.2.2.2.1 y.2.2.2.2.2.2.2.2 px (h3)), rfl, fun k => absurd k (by decide), hR0⟩
  · refine ⟨v, hk, hn, sl, x, vp_updL ouF 0 ((flEst v.1.1 v.1.2.2.1 v.1.2.2.2.2.1 v.2.1 pa).toInt64), al, hy, hn, (0, y.2), 0, (mEst al 0 pa), kq_c0_3_4_14 (kL_estimate l D T po (a 17) (a 104) (a 0) (a 9) v.2.2.2.2.2.2.1 v.2.2.2.2.2.2.2 (a 1) (a 2) (a 3) (a 4) (a 5) (a 6) (a 7) (a 8) v.1.1 v.1.2.1 v.1.2.2.1 v.1.2.2.2.1 v.1.2.2.2.2.1 v.2.1 v.1.2.2.2.2.2.1 v.1.2.2.2.2.2.2.1 v.1.2.2.2.2.2.2.2.1 v.2.2.1 v.1.2.2.2.2.2.2.2.2 pa ouA ouF (hp)), kp_m0_1 (c_X9_estimate l D T mo (m 0) (m 1) (m 2) (m 3) (m 4) al hn y.1 y.2.2.2.2.1 y.2.2.2.2.2.1 y.2.2.2.2.2.2.1 y.2.2.2.2.2.2.2.1 y.2.2.2.2.2.2.2.2 v.2.2.2.2.2.2.2 pa (hp) (hcp) (hc9)), rfl, fun _ => ?_, hR0⟩
    show ((flEst v.1.1 v.1.2.2.1 v.1.2.2.2.2.1 v.2.1 pa).toInt64) = ((mEst al 0 pa)).toInt64
    rw [hrm, LR_est hLR hcp hc9 hp]
set_option maxHeartbeats 4000000 in
set_option maxRecDepth 100000 in
theorem op_sureCount {l : Launch} (hst9 : l.stackTraces = false) (D : va_G) (T : Nat → ClassId) (po ouA : Nat) (a : Nat → Nat) (mo : Nat) (m : Nat → Nat) {v : ST} {hk hz : Nat} {sl : Nat → ST} {x : CT} (ouF : Nat → Int64) {al hy : Nat → Int32} {hn : Nat} {y : MT} (hR : RW v hk hz sl x al hy hn y) (px : Int32) : ∃ (v' : ST) (hk' hz' : Nat) (sl' : Nat → ST) (x' : CT) (ouF' : Nat → Int64) (al' hy' : Nat → Int32) (hn' : Nat) (y' : MT) (k b : Int32), kWM l D T yL_sureCount wsL_sureCount rL_sureCount [.ref po, .int px, .ref ouA] (bsC T po ouA a v hk hz sl x ouF).flatten (some (.int k)) (bsC T po ouA a v' hk' hz' sl' x' ouF').flatten ∧ kM l D T yX9_sureCount wsX9_sureCount rX9_sureCount [.ref mo, .int px] (bsM T mo m al hy hn y).flatten (some (.int b)) (bsM T mo m al' hy' hn' y').flatten ∧ y'.1 = k ∧ (k = 0 → ouF' 0 = b.toInt64) ∧ RW v' hk' hz' sl' x' al' hy' hn' y' := by
  have hR0 := hR
  obtain ⟨hS, hH, hnz, hlen, h60, htx⟩ := hR
  subst hnz
  obtain ⟨s1, s9, hcp, hia, hLI, hLR, hrm, hwr, hAs⟩ := id hS
  have hc9 : v.2.2.2.2.2.2.2 < 1000 := by omega
  obtain ⟨hk5, hz5, hHr⟩ := id hH
  rcases isPar px with ⟨h1, h2⟩ | ⟨h1, h2, h3⟩ | ⟨pa, hp, rfl⟩
  · exact ⟨v, hk, hn, sl, x, ouF, al, hy, hn, (1, y.2), 1, 0, kq_c0_14 (kLx_sureCount_lo l D T po (a 0) (a 17) (a 104) px ouA ouF (h1) (hst9)), kp_m0_1 (c_X9_sureCount_bad l D T mo (m 0) (m 1) (m 2) (m 3) (m 4) al hn y.1 y.2.2.2.2.1 y.2.2.2.2.2.1 y.2.2.2.2.2.2.1 y.2.2.2.2.2.2.2.1 y.2.2.2.2.2.2.2.2 px (h2)), rfl, fun k => absurd k (by decide), hR0⟩
  · exact ⟨v, hk, hn, sl, x, ouF, al, hy, hn, (1, y.2), 1, 0, kq_c0_14 (kLx_sureCount_hi l D T po (a 0) (a 17) (a 104) px ouA ouF (h1) (h2) (hst9)), kp_m0_1 (c_X9_sureCount_bad l D T mo (m 0) (m 1) (m 2) (m 3) (m 4) al hn y.1 y.2.2.2.2.1 y.2.2.2.2.2.1 y.2.2.2.2.2.2.1 y.2.2.2.2.2.2.2.1 y.2.2.2.2.2.2.2.2 px (h3)), rfl, fun k => absurd k (by decide), hR0⟩
  · refine ⟨v, hk, hn, sl, x, vp_updL ouF 0 ((flSure v.1.1 v.1.2.1 pa).toInt64), al, hy, hn, (0, y.2), 0, (mSure al 0 pa), kq_c0_3_4_14 (kL_sureCount l D T po (a 17) (a 104) (a 0) (a 9) v.2.2.2.2.2.2.1 v.2.2.2.2.2.2.2 (a 1) (a 2) (a 3) (a 4) (a 5) (a 6) (a 7) (a 8) v.1.1 v.1.2.1 v.1.2.2.1 v.1.2.2.2.1 v.1.2.2.2.2.1 v.2.1 v.1.2.2.2.2.2.1 v.1.2.2.2.2.2.2.1 v.1.2.2.2.2.2.2.2.1 v.2.2.1 v.1.2.2.2.2.2.2.2.2 pa ouA ouF (hp)), kp_m0_1 (c_X9_sureCount l D T mo (m 0) (m 1) (m 2) (m 3) (m 4) al hn y.1 y.2.2.2.2.1 y.2.2.2.2.2.1 y.2.2.2.2.2.2.1 y.2.2.2.2.2.2.2.1 y.2.2.2.2.2.2.2.2 pa (hp)), rfl, fun _ => ?_, hR0⟩
    show ((flSure v.1.1 v.1.2.1 pa).toInt64) = ((mSure al 0 pa)).toInt64
    rw [LR_sure hLR hLI hp]
set_option maxHeartbeats 4000000 in
set_option maxRecDepth 100000 in
theorem op_wornCount {l : Launch} (hst9 : l.stackTraces = false) (D : va_G) (T : Nat → ClassId) (po ouA : Nat) (a : Nat → Nat) (mo : Nat) (m : Nat → Nat) {v : ST} {hk hz : Nat} {sl : Nat → ST} {x : CT} (ouF : Nat → Int64) {al hy : Nat → Int32} {hn : Nat} {y : MT} (hR : RW v hk hz sl x al hy hn y) (px : Int32) : ∃ (v' : ST) (hk' hz' : Nat) (sl' : Nat → ST) (x' : CT) (ouF' : Nat → Int64) (al' hy' : Nat → Int32) (hn' : Nat) (y' : MT) (k b : Int32), kWM l D T yL_wornCount wsL_wornCount rL_wornCount [.ref po, .int px, .ref ouA] (bsC T po ouA a v hk hz sl x ouF).flatten (some (.int k)) (bsC T po ouA a v' hk' hz' sl' x' ouF').flatten ∧ kM l D T yX9_wornCount wsX9_wornCount rX9_wornCount [.ref mo, .int px] (bsM T mo m al hy hn y).flatten (some (.int b)) (bsM T mo m al' hy' hn' y').flatten ∧ y'.1 = k ∧ (k = 0 → ouF' 0 = b.toInt64) ∧ RW v' hk' hz' sl' x' al' hy' hn' y' := by
  have hR0 := hR
  obtain ⟨hS, hH, hnz, hlen, h60, htx⟩ := hR
  subst hnz
  obtain ⟨s1, s9, hcp, hia, hLI, hLR, hrm, hwr, hAs⟩ := id hS
  have hc9 : v.2.2.2.2.2.2.2 < 1000 := by omega
  obtain ⟨hk5, hz5, hHr⟩ := id hH
  rcases isPar px with ⟨h1, h2⟩ | ⟨h1, h2, h3⟩ | ⟨pa, hp, rfl⟩
  · exact ⟨v, hk, hn, sl, x, ouF, al, hy, hn, (1, y.2), 1, 0, kq_c0_14 (kLx_wornCount_lo l D T po (a 0) (a 17) (a 104) px ouA ouF (h1) (hst9)), kp_m0_1 (c_X9_wornCount_bad l D T mo (m 0) (m 1) (m 2) (m 3) (m 4) al hn y.1 y.2.2.2.2.1 y.2.2.2.2.2.1 y.2.2.2.2.2.2.1 y.2.2.2.2.2.2.2.1 y.2.2.2.2.2.2.2.2 px (h2)), rfl, fun k => absurd k (by decide), hR0⟩
  · exact ⟨v, hk, hn, sl, x, ouF, al, hy, hn, (1, y.2), 1, 0, kq_c0_14 (kLx_wornCount_hi l D T po (a 0) (a 17) (a 104) px ouA ouF (h1) (h2) (hst9)), kp_m0_1 (c_X9_wornCount_bad l D T mo (m 0) (m 1) (m 2) (m 3) (m 4) al hn y.1 y.2.2.2.2.1 y.2.2.2.2.2.1 y.2.2.2.2.2.2.1 y.2.2.2.2.2.2.2.1 y.2.2.2.2.2.2.2.2 px (h3)), rfl, fun k => absurd k (by decide), hR0⟩
  · refine ⟨v, hk, hn, sl, x, vp_updL ouF 0 ((v.1.2.2.2.2.2.1 pa).toInt64), al, hy, hn, (0, y.2), 0, (al (104 + pa)), kq_c0_3_4_14 (kL_wornCount l D T po (a 17) (a 104) (a 0) (a 9) v.2.2.2.2.2.2.1 v.2.2.2.2.2.2.2 (a 1) (a 2) (a 3) (a 4) (a 5) (a 6) (a 7) (a 8) v.1.1 v.1.2.1 v.1.2.2.1 v.1.2.2.2.1 v.1.2.2.2.2.1 v.2.1 v.1.2.2.2.2.2.1 v.1.2.2.2.2.2.2.1 v.1.2.2.2.2.2.2.2.1 v.2.2.1 v.1.2.2.2.2.2.2.2.2 pa ouA ouF (hp)), kp_m0_1 (c_X9_wornCount l D T mo (m 0) (m 1) (m 2) (m 3) (m 4) al hn y.1 y.2.2.2.2.1 y.2.2.2.2.2.1 y.2.2.2.2.2.2.1 y.2.2.2.2.2.2.2.1 y.2.2.2.2.2.2.2.2 pa (hp)), rfl, fun _ => ?_, hR0⟩
    show ((v.1.2.2.2.2.2.1 pa).toInt64) = ((al (104 + pa))).toInt64
    rw [(hLR.1 pa hp).2.2.1, Nat.zero_add]
set_option maxHeartbeats 4000000 in
set_option maxRecDepth 100000 in
theorem op_trueCount {l : Launch} (hst9 : l.stackTraces = false) (D : va_G) (T : Nat → ClassId) (po ouA : Nat) (a : Nat → Nat) (mo : Nat) (m : Nat → Nat) {v : ST} {hk hz : Nat} {sl : Nat → ST} {x : CT} (ouF : Nat → Int64) {al hy : Nat → Int32} {hn : Nat} {y : MT} (hR : RW v hk hz sl x al hy hn y) (px : Int32) : ∃ (v' : ST) (hk' hz' : Nat) (sl' : Nat → ST) (x' : CT) (ouF' : Nat → Int64) (al' hy' : Nat → Int32) (hn' : Nat) (y' : MT) (k b : Int32), kWM l D T yL_trueCount wsL_trueCount rL_trueCount [.ref po, .int px, .ref ouA] (bsC T po ouA a v hk hz sl x ouF).flatten (some (.int k)) (bsC T po ouA a v' hk' hz' sl' x' ouF').flatten ∧ kM l D T yX9_trueCount wsX9_trueCount rX9_trueCount [.ref mo, .int px] (bsM T mo m al hy hn y).flatten (some (.int b)) (bsM T mo m al' hy' hn' y').flatten ∧ y'.1 = k ∧ (k = 0 → ouF' 0 = b.toInt64) ∧ RW v' hk' hz' sl' x' al' hy' hn' y' := by
  have hR0 := hR
  obtain ⟨hS, hH, hnz, hlen, h60, htx⟩ := hR
  subst hnz
  obtain ⟨s1, s9, hcp, hia, hLI, hLR, hrm, hwr, hAs⟩ := id hS
  have hc9 : v.2.2.2.2.2.2.2 < 1000 := by omega
  obtain ⟨hk5, hz5, hHr⟩ := id hH
  rcases isPar px with ⟨h1, h2⟩ | ⟨h1, h2, h3⟩ | ⟨pa, hp, rfl⟩
  · exact ⟨v, hk, hn, sl, x, ouF, al, hy, hn, (1, y.2), 1, 0, kq_c0_14 (kLx_trueCount_lo l D T po (a 0) (a 17) (a 104) px ouA ouF (h1) (hst9)), kp_m0_1 (c_X9_trueCount_bad l D T mo (m 0) (m 1) (m 2) (m 3) (m 4) al hn y.1 y.2.2.2.2.1 y.2.2.2.2.2.1 y.2.2.2.2.2.2.1 y.2.2.2.2.2.2.2.1 y.2.2.2.2.2.2.2.2 px (h2)), rfl, fun k => absurd k (by decide), hR0⟩
  · exact ⟨v, hk, hn, sl, x, ouF, al, hy, hn, (1, y.2), 1, 0, kq_c0_14 (kLx_trueCount_hi l D T po (a 0) (a 17) (a 104) px ouA ouF (h1) (h2) (hst9)), kp_m0_1 (c_X9_trueCount_bad l D T mo (m 0) (m 1) (m 2) (m 3) (m 4) al hn y.1 y.2.2.2.2.1 y.2.2.2.2.2.1 y.2.2.2.2.2.2.1 y.2.2.2.2.2.2.2.1 y.2.2.2.2.2.2.2.2 px (h3)), rfl, fun k => absurd k (by decide), hR0⟩
  · refine ⟨v, hk, hn, sl, x, vp_updL ouF 0 ((v.1.2.2.2.2.2.2.2.2 pa).toInt64), al, hy, hn, (0, y.2), 0, (al pa), kq_c0_3_4_14 (kL_trueCount l D T po (a 17) (a 104) (a 0) (a 9) v.2.2.2.2.2.2.1 v.2.2.2.2.2.2.2 (a 1) (a 2) (a 3) (a 4) (a 5) (a 6) (a 7) (a 8) v.1.1 v.1.2.1 v.1.2.2.1 v.1.2.2.2.1 v.1.2.2.2.2.1 v.2.1 v.1.2.2.2.2.2.1 v.1.2.2.2.2.2.2.1 v.1.2.2.2.2.2.2.2.1 v.2.2.1 v.1.2.2.2.2.2.2.2.2 pa ouA ouF (hp)), kp_m0_1 (c_X9_trueCount l D T mo (m 0) (m 1) (m 2) (m 3) (m 4) al hn y.1 y.2.2.2.2.1 y.2.2.2.2.2.1 y.2.2.2.2.2.2.1 y.2.2.2.2.2.2.2.1 y.2.2.2.2.2.2.2.2 pa (hp)), rfl, fun _ => ?_, hR0⟩
    show ((v.1.2.2.2.2.2.2.2.2 pa).toInt64) = ((al pa)).toInt64
    rw [(hLR.1 pa hp).2.2.2, Nat.zero_add]
set_option maxHeartbeats 4000000 in
set_option maxRecDepth 100000 in
theorem op_aboveFloor {l : Launch} (hst9 : l.stackTraces = false) (D : va_G) (T : Nat → ClassId) (po ouA : Nat) (a : Nat → Nat) (mo : Nat) (m : Nat → Nat) {v : ST} {hk hz : Nat} {sl : Nat → ST} {x : CT} (ouF : Nat → Int64) {al hy : Nat → Int32} {hn : Nat} {y : MT} (hR : RW v hk hz sl x al hy hn y) (px : Int32) : ∃ (v' : ST) (hk' hz' : Nat) (sl' : Nat → ST) (x' : CT) (ouF' : Nat → Int64) (al' hy' : Nat → Int32) (hn' : Nat) (y' : MT) (k b : Int32), kWM l D T yL_aboveFloor wsL_aboveFloor rL_aboveFloor [.ref po, .int px, .ref ouA] (bsC T po ouA a v hk hz sl x ouF).flatten (some (.int k)) (bsC T po ouA a v' hk' hz' sl' x' ouF').flatten ∧ kM l D T yX9_aboveFloor wsX9_aboveFloor rX9_aboveFloor [.ref mo, .int px] (bsM T mo m al hy hn y).flatten (some (.int b)) (bsM T mo m al' hy' hn' y').flatten ∧ y'.1 = k ∧ (k = 0 → ouF' 0 = b.toInt64) ∧ RW v' hk' hz' sl' x' al' hy' hn' y' := by
  have hR0 := hR
  obtain ⟨hS, hH, hnz, hlen, h60, htx⟩ := hR
  subst hnz
  obtain ⟨s1, s9, hcp, hia, hLI, hLR, hrm, hwr, hAs⟩ := id hS
  have hc9 : v.2.2.2.2.2.2.2 < 1000 := by omega
  obtain ⟨hk5, hz5, hHr⟩ := id hH
  rcases isPar px with ⟨h1, h2⟩ | ⟨h1, h2, h3⟩ | ⟨pa, hp, rfl⟩
  · exact ⟨v, hk, hn, sl, x, ouF, al, hy, hn, (1, y.2), 1, 0, kq_c0_14 (kLx_aboveFloor_lo l D T po (a 0) (a 17) (a 104) px ouA ouF (h1) (hst9)), kp_m0_1 (c_X9_aboveFloor_bad l D T mo (m 0) (m 1) (m 2) (m 3) (m 4) al hn y.1 y.2.2.2.2.1 y.2.2.2.2.2.1 y.2.2.2.2.2.2.1 y.2.2.2.2.2.2.2.1 y.2.2.2.2.2.2.2.2 px (h2)), rfl, fun k => absurd k (by decide), hR0⟩
  · exact ⟨v, hk, hn, sl, x, ouF, al, hy, hn, (1, y.2), 1, 0, kq_c0_14 (kLx_aboveFloor_hi l D T po (a 0) (a 17) (a 104) px ouA ouF (h1) (h2) (hst9)), kp_m0_1 (c_X9_aboveFloor_bad l D T mo (m 0) (m 1) (m 2) (m 3) (m 4) al hn y.1 y.2.2.2.2.1 y.2.2.2.2.2.1 y.2.2.2.2.2.2.1 y.2.2.2.2.2.2.2.1 y.2.2.2.2.2.2.2.2 px (h3)), rfl, fun k => absurd k (by decide), hR0⟩
  · refine ⟨v, hk, hn, sl, x, vp_updL ouF 0 ((flEst v.1.1 v.1.2.2.1 v.1.2.2.2.2.1 v.2.1 pa - flLeast v.1.1 v.1.2.2.1 v.1.2.2.2.2.1 v.2.1).toInt64), al, hy, hn, (0, y.2), 0, (mEst al 0 pa - mFloor al 0), kq_c0_3_4_14 (kL_aboveFloor l D T po (a 17) (a 104) (a 0) (a 9) v.2.2.2.2.2.2.1 v.2.2.2.2.2.2.2 (a 1) (a 2) (a 3) (a 4) (a 5) (a 6) (a 7) (a 8) v.1.1 v.1.2.1 v.1.2.2.1 v.1.2.2.2.1 v.1.2.2.2.2.1 v.2.1 v.1.2.2.2.2.2.1 v.1.2.2.2.2.2.2.1 v.1.2.2.2.2.2.2.2.1 v.2.2.1 v.1.2.2.2.2.2.2.2.2 pa ouA ouF (hp)), kp_m0_1 (c_X9_aboveFloor l D T mo (m 0) (m 1) (m 2) (m 3) (m 4) al hn y.1 y.2.2.2.2.1 y.2.2.2.2.2.1 y.2.2.2.2.2.2.1 y.2.2.2.2.2.2.2.1 y.2.2.2.2.2.2.2.2 v.2.2.2.2.2.2.2 pa (hp) (hcp) (hc9)), rfl, fun _ => ?_, hR0⟩
    show ((flEst v.1.1 v.1.2.2.1 v.1.2.2.2.2.1 v.2.1 pa - flLeast v.1.1 v.1.2.2.1 v.1.2.2.2.2.1 v.2.1).toInt64) = ((mEst al 0 pa - mFloor al 0)).toInt64
    rw [hrm, LR_est hLR hcp hc9 hp, LR_least hLR hcp hc9]
set_option maxHeartbeats 4000000 in
set_option maxRecDepth 100000 in
theorem op_surplus {l : Launch} (hst9 : l.stackTraces = false) (D : va_G) (T : Nat → ClassId) (po ouA : Nat) (a : Nat → Nat) (mo : Nat) (m : Nat → Nat) {v : ST} {hk hz : Nat} {sl : Nat → ST} {x : CT} (ouF : Nat → Int64) {al hy : Nat → Int32} {hn : Nat} {y : MT} (hR : RW v hk hz sl x al hy hn y) (px : Int32) : ∃ (v' : ST) (hk' hz' : Nat) (sl' : Nat → ST) (x' : CT) (ouF' : Nat → Int64) (al' hy' : Nat → Int32) (hn' : Nat) (y' : MT) (k b : Int32), kWM l D T yL_surplus wsL_surplus rL_surplus [.ref po, .int px, .ref ouA] (bsC T po ouA a v hk hz sl x ouF).flatten (some (.int k)) (bsC T po ouA a v' hk' hz' sl' x' ouF').flatten ∧ kM l D T yX9_surplus wsX9_surplus rX9_surplus [.ref mo, .int px] (bsM T mo m al hy hn y).flatten (some (.int b)) (bsM T mo m al' hy' hn' y').flatten ∧ y'.1 = k ∧ (k = 0 → ouF' 0 = b.toInt64) ∧ RW v' hk' hz' sl' x' al' hy' hn' y' := by
  have hR0 := hR
  obtain ⟨hS, hH, hnz, hlen, h60, htx⟩ := hR
  subst hnz
  obtain ⟨s1, s9, hcp, hia, hLI, hLR, hrm, hwr, hAs⟩ := id hS
  have hc9 : v.2.2.2.2.2.2.2 < 1000 := by omega
  obtain ⟨hk5, hz5, hHr⟩ := id hH
  rcases isPar px with ⟨h1, h2⟩ | ⟨h1, h2, h3⟩ | ⟨pa, hp, rfl⟩
  · exact ⟨v, hk, hn, sl, x, ouF, al, hy, hn, (1, y.2), 1, 0, kq_c0_14 (kLx_surplus_lo l D T po (a 0) (a 17) (a 104) px ouA ouF (h1) (hst9)), kp_m0_1 (c_X9_surplus_bad l D T mo (m 0) (m 1) (m 2) (m 3) (m 4) al hn y.1 y.2.2.2.2.1 y.2.2.2.2.2.1 y.2.2.2.2.2.2.1 y.2.2.2.2.2.2.2.1 y.2.2.2.2.2.2.2.2 px (h2)), rfl, fun k => absurd k (by decide), hR0⟩
  · exact ⟨v, hk, hn, sl, x, ouF, al, hy, hn, (1, y.2), 1, 0, kq_c0_14 (kLx_surplus_hi l D T po (a 0) (a 17) (a 104) px ouA ouF (h1) (h2) (hst9)), kp_m0_1 (c_X9_surplus_bad l D T mo (m 0) (m 1) (m 2) (m 3) (m 4) al hn y.1 y.2.2.2.2.1 y.2.2.2.2.2.1 y.2.2.2.2.2.2.1 y.2.2.2.2.2.2.2.1 y.2.2.2.2.2.2.2.2 px (h3)), rfl, fun k => absurd k (by decide), hR0⟩
  · have hnn := (hLI.1 pa hp).2.2.2
    have hce := (hLR.1 pa hp).1
    simp only [Nat.zero_add] at hnn hce
    have z0 : (0 : Int32).toInt = 0 := rfl
    by_cases hc : v.1.1 pa = 0
    · have hcr : al (26 + pa) ≤ 0 := by rw [← hce, hc]; exact Int32.le_refl 0
      exact ⟨v, hk, hn, sl, x, ouF, al, hy, hn, (2, y.2), 2, 0, kq_c0_3_4_14 (kLx_surplus_no l D T po (a 17) (a 104) (a 0) (a 9) v.2.2.2.2.2.2.1 v.2.2.2.2.2.2.2 (a 1) (a 2) (a 3) (a 4) (a 5) (a 6) (a 7) (a 8) v.1.1 v.1.2.1 v.1.2.2.1 v.1.2.2.2.1 v.1.2.2.2.2.1 v.2.1 v.1.2.2.2.2.2.1 v.1.2.2.2.2.2.2.1 v.1.2.2.2.2.2.2.2.1 v.2.2.1 v.1.2.2.2.2.2.2.2.2 pa ouA ouF (hp) (hc) (hst9)), kp_m0_1 (c_X9_surplus_no l D T mo (m 0) (m 1) (m 2) (m 3) (m 4) al hn y.1 y.2.2.2.2.1 y.2.2.2.2.2.1 y.2.2.2.2.2.2.1 y.2.2.2.2.2.2.2.1 y.2.2.2.2.2.2.2.2 pa (hp) (hcr)), rfl, fun k => absurd k (by decide), hR0⟩
    · have hcr : ¬ al (26 + pa) ≤ 0 := fun k => hc (by rw [nI_n] at k; rw [hce, i_eq, z0]; omega)
      refine ⟨v, hk, hn, sl, x, vp_updL ouF 0 ((v.1.2.1 pa).toInt64), al, hy, hn, (0, y.2), 0, (al (52 + pa)), kq_c0_3_4_14 (kL_surplus l D T po (a 17) (a 104) (a 0) (a 9) v.2.2.2.2.2.2.1 v.2.2.2.2.2.2.2 (a 1) (a 2) (a 3) (a 4) (a 5) (a 6) (a 7) (a 8) v.1.1 v.1.2.1 v.1.2.2.1 v.1.2.2.2.1 v.1.2.2.2.2.1 v.2.1 v.1.2.2.2.2.2.1 v.1.2.2.2.2.2.2.1 v.1.2.2.2.2.2.2.2.1 v.2.2.1 v.1.2.2.2.2.2.2.2.2 pa ouA ouF (hp) (hc)), kp_m0_1 (c_X9_surplus l D T mo (m 0) (m 1) (m 2) (m 3) (m 4) al hn y.1 y.2.2.2.2.1 y.2.2.2.2.2.1 y.2.2.2.2.2.2.1 y.2.2.2.2.2.2.2.1 y.2.2.2.2.2.2.2.2 pa (hp) (hcr)), rfl, fun _ => ?_, hR0⟩
      show ((v.1.2.1 pa).toInt64) = ((al (52 + pa))).toInt64
      rw [(hLR.1 pa hp).2.1 (by rw [hce]; exact hcr), Nat.zero_add]
set_option maxHeartbeats 4000000 in
set_option maxRecDepth 100000 in
theorem op_nextTakenOver {l : Launch} (hst9 : l.stackTraces = false) (D : va_G) (T : Nat → ClassId) (po ouA : Nat) (a : Nat → Nat) (mo : Nat) (m : Nat → Nat) {v : ST} {hk hz : Nat} {sl : Nat → ST} {x : CT} (ouF : Nat → Int64) {al hy : Nat → Int32} {hn : Nat} {y : MT} (hR : RW v hk hz sl x al hy hn y) : ∃ (v' : ST) (hk' hz' : Nat) (sl' : Nat → ST) (x' : CT) (ouF' : Nat → Int64) (al' hy' : Nat → Int32) (hn' : Nat) (y' : MT) (k b : Int32), kWM l D T yL_nextTakenOver wsL_nextTakenOver rL_nextTakenOver [.ref po, .ref ouA] (bsC T po ouA a v hk hz sl x ouF).flatten (some (.int k)) (bsC T po ouA a v' hk' hz' sl' x' ouF').flatten ∧ kM l D T yX9_nextTakenOver wsX9_nextTakenOver rX9_nextTakenOver [.ref mo] (bsM T mo m al hy hn y).flatten (some (.int b)) (bsM T mo m al' hy' hn' y').flatten ∧ y'.1 = k ∧ (k = 0 → ouF' 0 = b.toInt64) ∧ RW v' hk' hz' sl' x' al' hy' hn' y' := by
  have hR0 := hR
  obtain ⟨hS, hH, hnz, hlen, h60, htx⟩ := hR
  subst hnz
  obtain ⟨s1, s9, hcp, hia, hLI, hLR, hrm, hwr, hAs⟩ := id hS
  have hc9 : v.2.2.2.2.2.2.2 < 1000 := by omega
  obtain ⟨hk5, hz5, hHr⟩ := id hH
  have hfe : flFull v.1.2.2.2.2.1 v.2.1 = mFull al 0 := by rw [hrm]; exact LR_full hLR hcp hc9
  by_cases hf : mFull al 0 = true
  · refine ⟨v, hk, hn, sl, x, vp_updL ouF 0 ((flWeak v.1.1 v.1.2.2.1 26).toInt64), al, hy, hn, (0, y.2), 0, (mWeak al 0 26), kq_c0_3_4_14 (kL_nextTakenOver l D T po (a 17) (a 104) (a 0) (a 9) v.2.2.2.2.2.2.1 v.2.2.2.2.2.2.2 (a 1) (a 2) (a 3) (a 4) (a 5) (a 6) (a 7) (a 8) v.1.1 v.1.2.1 v.1.2.2.1 v.1.2.2.2.1 v.1.2.2.2.2.1 v.2.1 v.1.2.2.2.2.2.1 v.1.2.2.2.2.2.2.1 v.1.2.2.2.2.2.2.2.1 v.2.2.1 v.1.2.2.2.2.2.2.2.2 ouA ouF (by rw [hfe]; exact hf)), kp_m0_1 (c_X9_nextTakenOver l D T mo (m 0) (m 1) (m 2) (m 3) (m 4) al hn y.1 y.2.2.2.2.1 y.2.2.2.2.2.1 y.2.2.2.2.2.2.1 y.2.2.2.2.2.2.2.1 y.2.2.2.2.2.2.2.2 (hf)), rfl, fun _ => ?_, hR0⟩
    show ((flWeak v.1.1 v.1.2.2.1 26).toInt64) = ((mWeak al 0 26)).toInt64
    rw [LR_weak hLR]
  · have hf2 := bfalse hf
    exact ⟨v, hk, hn, sl, x, ouF, al, hy, hn, (1, y.2), 1, 0, kq_c0_3_4_14 (kLx_nextTakenOver_no l D T po (a 17) (a 104) (a 0) (a 9) v.2.2.2.2.2.2.1 v.2.2.2.2.2.2.2 (a 1) (a 2) (a 3) (a 4) (a 5) (a 6) (a 7) (a 8) v.1.1 v.1.2.1 v.1.2.2.1 v.1.2.2.2.1 v.1.2.2.2.2.1 v.2.1 v.1.2.2.2.2.2.1 v.1.2.2.2.2.2.2.1 v.1.2.2.2.2.2.2.2.1 v.2.2.1 v.1.2.2.2.2.2.2.2.2 ouA ouF (by rw [hfe]; exact hf2) (hst9)), kp_m0_1 (c_X9_nextTakenOver_no l D T mo (m 0) (m 1) (m 2) (m 3) (m 4) al hn y.1 y.2.2.2.2.1 y.2.2.2.2.2.1 y.2.2.2.2.2.2.1 y.2.2.2.2.2.2.2.1 y.2.2.2.2.2.2.2.2 (hf2)), rfl, fun k => absurd k (by decide), hR0⟩
set_option maxHeartbeats 4000000 in
set_option maxRecDepth 100000 in
theorem op_loudest {l : Launch} (hst9 : l.stackTraces = false) (D : va_G) (T : Nat → ClassId) (po ouA : Nat) (a : Nat → Nat) (mo : Nat) (m : Nat → Nat) {v : ST} {hk hz : Nat} {sl : Nat → ST} {x : CT} (ouF : Nat → Int64) {al hy : Nat → Int32} {hn : Nat} {y : MT} (hR : RW v hk hz sl x al hy hn y) (px : Int32) : ∃ (v' : ST) (hk' hz' : Nat) (sl' : Nat → ST) (x' : CT) (ouF' : Nat → Int64) (al' hy' : Nat → Int32) (hn' : Nat) (y' : MT) (k b : Int32), kWM l D T yL_loudest wsL_loudest rL_loudest [.ref po, .int px, .ref ouA] (bsC T po ouA a v hk hz sl x ouF).flatten (some (.int k)) (bsC T po ouA a v' hk' hz' sl' x' ouF').flatten ∧ kM l D T yX9_loudest wsX9_loudest rX9_loudest [.ref mo, .int px] (bsM T mo m al hy hn y).flatten (some (.int b)) (bsM T mo m al' hy' hn' y').flatten ∧ y'.1 = k ∧ (k = 0 → ouF' 0 = b.toInt64) ∧ RW v' hk' hz' sl' x' al' hy' hn' y' := by
  have hR0 := hR
  obtain ⟨hS, hH, hnz, hlen, h60, htx⟩ := hR
  subst hnz
  obtain ⟨s1, s9, hcp, hia, hLI, hLR, hrm, hwr, hAs⟩ := id hS
  have hc9 : v.2.2.2.2.2.2.2 < 1000 := by omega
  obtain ⟨hk5, hz5, hHr⟩ := id hH
  have hck : ∀ q, pAtN v.1.1 q 26 0 = pAtN (rwF al 26) q 26 0 := fun q => pAtN_cg (fun j hj => by rw [(hLR.1 j hj).1, Nat.zero_add]; rfl) 26 0 rfl
  have hcn : cntN v.1.1 26 = cntN (rwF al 26) 26 := by rw [LR_cnt hLR]
  have hsz := hLR.2.2.2.2.2.1
  have hb := cntN_le (rwF al 26) 26
  have z0 : (0 : Int32).toInt = 0 := rfl
  by_cases h1 : px < 0
  · exact ⟨v, hk, hn, sl, x, ouF, al, hy, hn, (1, y.2), 1, 0, kq_c0_14 (kLx_loudest_lo l D T po (a 0) (a 17) (a 104) px ouA ouF (h1) (hst9)), kp_m0_1_3 (c_X9_loudest_bad l D T mo (m 0) (m 1) (m 2) (m 3) (m 4) al y.2.1 hn y.1 y.2.2.2.2.1 y.2.2.2.2.2.1 y.2.2.2.2.2.2.1 y.2.2.2.2.2.2.2.1 y.2.2.2.2.2.2.2.2 px (h1)), rfl, fun k => absurd k (by decide), hR0⟩
  · have h0 : 0 ≤ px := by rw [i_le, z0]; rw [i_lt, z0] at h1; omega
    obtain ⟨j, hj, ej⟩ := nI_of h1
    by_cases h2 : px < v.1.2.2.2.2.1
    · have hex : ¬ pAtN (rwF al 26) px 26 0 = -1 := by
        rw [hsz, hcn, ej, nI_ltI hj (by omega)] at h2
        obtain ⟨p, hp, e⟩ := pAtN_ex (rwF al 26) h2
        rw [ej, e]
        exact nI_ne1 (by omega)
      refine ⟨v, hk, hn, sl, x, vp_updL ouF 0 ((pAtN v.1.1 px 26 0).toInt64), al, hy, hn, (0, rwF al 26, y.2.2), 0, (pAtN (rwF al 26) px 26 0), kq_c0_3_4_14 (kL_loudest l D T po (a 17) (a 104) (a 0) (a 9) v.2.2.2.2.2.2.1 v.2.2.2.2.2.2.2 (a 1) (a 2) (a 3) (a 4) (a 5) (a 6) (a 7) (a 8) v.1.1 v.1.2.1 v.1.2.2.1 v.1.2.2.2.1 v.1.2.2.2.2.1 v.2.1 v.1.2.2.2.2.2.1 v.1.2.2.2.2.2.2.1 v.1.2.2.2.2.2.2.2.1 v.2.2.1 v.1.2.2.2.2.2.2.2.2 px ouA ouF (h0) (h2)), kp_m0_1_3 (c_X9_loudest l D T mo (m 0) (m 1) (m 2) (m 3) (m 4) al y.2.1 hn y.1 y.2.2.2.2.1 y.2.2.2.2.2.1 y.2.2.2.2.2.2.1 y.2.2.2.2.2.2.2.1 y.2.2.2.2.2.2.2.2 px (h0) (hex)), rfl, fun _ => ?_, hR0⟩
      show ((pAtN v.1.1 px 26 0).toInt64) = ((pAtN (rwF al 26) px 26 0)).toInt64
      rw [hck]
    · have h3 : v.1.2.2.2.2.1 ≤ px := by rw [i_le]; rw [i_lt] at h2; omega
      have hno : pAtN (rwF al 26) px 26 0 = -1 := by
        refine pAtN_no _ ?_
        rw [← hcn, ← hsz]; exact h3
      exact ⟨v, hk, hn, sl, x, ouF, al, hy, hn, (2, rwF al 26, y.2.2), 2, 0, kq_c0_3_4_14 (kLx_loudest_no l D T po (a 17) (a 104) (a 0) (a 9) v.2.2.2.2.2.2.1 v.2.2.2.2.2.2.2 (a 1) (a 2) (a 3) (a 4) (a 5) (a 6) (a 7) (a 8) v.1.1 v.1.2.1 v.1.2.2.1 v.1.2.2.2.1 v.1.2.2.2.2.1 v.2.1 v.1.2.2.2.2.2.1 v.1.2.2.2.2.2.2.1 v.1.2.2.2.2.2.2.2.1 v.2.2.1 v.1.2.2.2.2.2.2.2.2 px ouA ouF (h0) (h3) (hst9)), kp_m0_1_3 (c_X9_loudest_no l D T mo (m 0) (m 1) (m 2) (m 3) (m 4) al y.2.1 hn y.1 y.2.2.2.2.1 y.2.2.2.2.2.1 y.2.2.2.2.2.2.1 y.2.2.2.2.2.2.2.1 y.2.2.2.2.2.2.2.2 px (h0) (hno)), rfl, fun k => absurd k (by decide), hR0⟩
set_option maxHeartbeats 4000000 in
set_option maxRecDepth 100000 in
theorem op_trulyAbove {l : Launch} (hst9 : l.stackTraces = false) (D : va_G) (T : Nat → ClassId) (po ouA : Nat) (a : Nat → Nat) (mo : Nat) (m : Nat → Nat) {v : ST} {hk hz : Nat} {sl : Nat → ST} {x : CT} (ouF : Nat → Int64) {al hy : Nat → Int32} {hn : Nat} {y : MT} (hR : RW v hk hz sl x al hy hn y) (px : Int32) : ∃ (v' : ST) (hk' hz' : Nat) (sl' : Nat → ST) (x' : CT) (ouF' : Nat → Int64) (al' hy' : Nat → Int32) (hn' : Nat) (y' : MT) (k b : Int32), kWM l D T yL_trulyAbove wsL_trulyAbove rL_trulyAbove [.ref po, .int px, .ref ouA] (bsC T po ouA a v hk hz sl x ouF).flatten (some (.int k)) (bsC T po ouA a v' hk' hz' sl' x' ouF').flatten ∧ kM l D T yX9_trulyAbove wsX9_trulyAbove rX9_trulyAbove [.ref mo, .int px] (bsM T mo m al hy hn y).flatten (some (.int b)) (bsM T mo m al' hy' hn' y').flatten ∧ y'.1 = k ∧ (k = 0 → ouF' 0 = b.toInt64) ∧ RW v' hk' hz' sl' x' al' hy' hn' y' := by
  have hR0 := hR
  obtain ⟨hS, hH, hnz, hlen, h60, htx⟩ := hR
  subst hnz
  obtain ⟨s1, s9, hcp, hia, hLI, hLR, hrm, hwr, hAs⟩ := id hS
  have hc9 : v.2.2.2.2.2.2.2 < 1000 := by omega
  obtain ⟨hk5, hz5, hHr⟩ := id hH
  rcases isMil px with ⟨h1, h2⟩ | ⟨h1, h2, h3⟩ | ⟨h1, h2, h3⟩
  · exact ⟨v, hk, hn, sl, x, ouF, al, hy, hn, (1, y.2), 1, 0, kq_c0_14 (kLx_trulyAbove_lo l D T po (a 0) (a 17) (a 104) px ouA ouF (h1) (hst9)), kp_m0_1 (c_X9_trulyAbove_bad l D T mo (m 0) (m 1) (m 2) (m 3) (m 4) al hn y.1 y.2.2.2.2.1 y.2.2.2.2.2.1 y.2.2.2.2.2.2.1 y.2.2.2.2.2.2.2.1 y.2.2.2.2.2.2.2.2 px (h2)), rfl, fun k => absurd k (by decide), hR0⟩
  · exact ⟨v, hk, hn, sl, x, ouF, al, hy, hn, (1, y.2), 1, 0, kq_c0_14 (kLx_trulyAbove_hi l D T po (a 0) (a 17) (a 104) px ouA ouF (h1) (h2) (hst9)), kp_m0_1 (c_X9_trulyAbove_bad l D T mo (m 0) (m 1) (m 2) (m 3) (m 4) al hn y.1 y.2.2.2.2.1 y.2.2.2.2.2.1 y.2.2.2.2.2.2.1 y.2.2.2.2.2.2.2.1 y.2.2.2.2.2.2.2.2 px (h3)), rfl, fun k => absurd k (by decide), hR0⟩
  · obtain ⟨p0, p1⟩ := inM.mp h3
    obtain ⟨q1, q2, q3, q4⟩ := SR_sum hS
    refine ⟨v, hk, hn, sl, x, vp_updL ouF 0 ((abC v.1.2.2.2.2.2.2.2.2 (px * smN v.1.2.2.2.2.2.2.2.2 26) 26).toInt64), al, hy, hn, (0, y.2), 0, (abN al px 0 26), kq_c0_3_4_14 (kL_trulyAbove l D T po (a 17) (a 104) (a 0) (a 9) v.2.2.2.2.2.2.1 v.2.2.2.2.2.2.2 (a 1) (a 2) (a 3) (a 4) (a 5) (a 6) (a 7) (a 8) v.1.1 v.1.2.1 v.1.2.2.1 v.1.2.2.2.1 v.1.2.2.2.2.1 v.2.1 v.1.2.2.2.2.2.1 v.1.2.2.2.2.2.2.1 v.1.2.2.2.2.2.2.2.1 v.2.2.1 v.1.2.2.2.2.2.2.2.2 px ouA ouF (h1) (h2)), kp_m0_1 (c_X9_trulyAbove l D T mo (m 0) (m 1) (m 2) (m 3) (m 4) al hn y.1 y.2.2.2.2.1 y.2.2.2.2.2.1 y.2.2.2.2.2.2.1 y.2.2.2.2.2.2.2.1 y.2.2.2.2.2.2.2.2 v.2.2.2.2.2.2.2 px (hcp) (hc9) (h3)), rfl, fun _ => ?_, hR0⟩
    show ((abC v.1.2.2.2.2.2.2.2.2 (px * smN v.1.2.2.2.2.2.2.2.2 26) 26).toInt64) = ((abN al px 0 26)).toInt64
    rw [ab_eq (al := al) (wh := 0) (fun k hk => ?_) (fun k hk => ?_) p0 p1 (LR_sum hLR) (by omega) (by omega) 26 (Nat.le_refl 26)]
    · show _ = (if nI 0 = 0 then al k else if nI 0 = 1 then mSure al 0 k else mEst al 0 k)
      rw [if_pos (by decide), (hLR.1 k hk).2.2.2, Nat.zero_add]
    · have b := mEst_bd hcp hc9 hLI hk
      have b0 := (hLI.1 k hk).1
      rw [Nat.zero_add] at b b0
      rw [(hLR.1 k hk).2.2.2, Nat.zero_add]
      omega
set_option maxHeartbeats 4000000 in
set_option maxRecDepth 100000 in
theorem op_surelyAbove {l : Launch} (hst9 : l.stackTraces = false) (D : va_G) (T : Nat → ClassId) (po ouA : Nat) (a : Nat → Nat) (mo : Nat) (m : Nat → Nat) {v : ST} {hk hz : Nat} {sl : Nat → ST} {x : CT} (ouF : Nat → Int64) {al hy : Nat → Int32} {hn : Nat} {y : MT} (hR : RW v hk hz sl x al hy hn y) (px : Int32) : ∃ (v' : ST) (hk' hz' : Nat) (sl' : Nat → ST) (x' : CT) (ouF' : Nat → Int64) (al' hy' : Nat → Int32) (hn' : Nat) (y' : MT) (k b : Int32), kWM l D T yL_surelyAbove wsL_surelyAbove rL_surelyAbove [.ref po, .int px, .ref ouA] (bsC T po ouA a v hk hz sl x ouF).flatten (some (.int k)) (bsC T po ouA a v' hk' hz' sl' x' ouF').flatten ∧ kM l D T yX9_surelyAbove wsX9_surelyAbove rX9_surelyAbove [.ref mo, .int px] (bsM T mo m al hy hn y).flatten (some (.int b)) (bsM T mo m al' hy' hn' y').flatten ∧ y'.1 = k ∧ (k = 0 → ouF' 0 = b.toInt64) ∧ RW v' hk' hz' sl' x' al' hy' hn' y' := by
  have hR0 := hR
  obtain ⟨hS, hH, hnz, hlen, h60, htx⟩ := hR
  subst hnz
  obtain ⟨s1, s9, hcp, hia, hLI, hLR, hrm, hwr, hAs⟩ := id hS
  have hc9 : v.2.2.2.2.2.2.2 < 1000 := by omega
  obtain ⟨hk5, hz5, hHr⟩ := id hH
  rcases isMil px with ⟨h1, h2⟩ | ⟨h1, h2, h3⟩ | ⟨h1, h2, h3⟩
  · exact ⟨v, hk, hn, sl, x, ouF, al, hy, hn, (1, y.2), 1, 0, kq_c0_14 (kLx_surelyAbove_lo l D T po (a 0) (a 17) (a 104) px ouA ouF (h1) (hst9)), kp_m0_1 (c_X9_surelyAbove_bad l D T mo (m 0) (m 1) (m 2) (m 3) (m 4) al hn y.1 y.2.2.2.2.1 y.2.2.2.2.2.1 y.2.2.2.2.2.2.1 y.2.2.2.2.2.2.2.1 y.2.2.2.2.2.2.2.2 px (h2)), rfl, fun k => absurd k (by decide), hR0⟩
  · exact ⟨v, hk, hn, sl, x, ouF, al, hy, hn, (1, y.2), 1, 0, kq_c0_14 (kLx_surelyAbove_hi l D T po (a 0) (a 17) (a 104) px ouA ouF (h1) (h2) (hst9)), kp_m0_1 (c_X9_surelyAbove_bad l D T mo (m 0) (m 1) (m 2) (m 3) (m 4) al hn y.1 y.2.2.2.2.1 y.2.2.2.2.2.1 y.2.2.2.2.2.2.1 y.2.2.2.2.2.2.2.1 y.2.2.2.2.2.2.2.2 px (h3)), rfl, fun k => absurd k (by decide), hR0⟩
  · obtain ⟨p0, p1⟩ := inM.mp h3
    obtain ⟨q1, q2, q3, q4⟩ := SR_sum hS
    refine ⟨v, hk, hn, sl, x, vp_updL ouF 0 ((abC (flSure v.1.1 v.1.2.1) (px * smN v.1.2.2.2.2.2.2.2.2 26) 26).toInt64), al, hy, hn, (0, y.2), 0, (abN al px 1 26), kq_c0_3_4_14 (kL_surelyAbove l D T po (a 17) (a 104) (a 0) (a 9) v.2.2.2.2.2.2.1 v.2.2.2.2.2.2.2 (a 1) (a 2) (a 3) (a 4) (a 5) (a 6) (a 7) (a 8) v.1.1 v.1.2.1 v.1.2.2.1 v.1.2.2.2.1 v.1.2.2.2.2.1 v.2.1 v.1.2.2.2.2.2.1 v.1.2.2.2.2.2.2.1 v.1.2.2.2.2.2.2.2.1 v.2.2.1 v.1.2.2.2.2.2.2.2.2 px ouA ouF (h1) (h2)), kp_m0_1 (c_X9_surelyAbove l D T mo (m 0) (m 1) (m 2) (m 3) (m 4) al hn y.1 y.2.2.2.2.1 y.2.2.2.2.2.1 y.2.2.2.2.2.2.1 y.2.2.2.2.2.2.2.1 y.2.2.2.2.2.2.2.2 v.2.2.2.2.2.2.2 px (hcp) (hc9) (h3)), rfl, fun _ => ?_, hR0⟩
    show ((abC (flSure v.1.1 v.1.2.1) (px * smN v.1.2.2.2.2.2.2.2.2 26) 26).toInt64) = ((abN al px 1 26)).toInt64
    rw [ab_eq (al := al) (wh := 1) (fun k hk => ?_) (fun k hk => ?_) p0 p1 (LR_sum hLR) (by omega) (by omega) 26 (Nat.le_refl 26)]
    · show _ = (if nI 1 = 0 then al k else if nI 1 = 1 then mSure al 0 k else mEst al 0 k)
      rw [if_neg (by decide), if_pos (by decide), LR_sure hLR hLI hk]
    · have b := mEst_bd hcp hc9 hLI hk
      have b0 := (hLI.1 k hk).1
      rw [Nat.zero_add] at b b0
      rw [LR_sure hLR hLI hk]
      omega
set_option maxHeartbeats 4000000 in
set_option maxRecDepth 100000 in
theorem op_perhapsAbove {l : Launch} (hst9 : l.stackTraces = false) (D : va_G) (T : Nat → ClassId) (po ouA : Nat) (a : Nat → Nat) (mo : Nat) (m : Nat → Nat) {v : ST} {hk hz : Nat} {sl : Nat → ST} {x : CT} (ouF : Nat → Int64) {al hy : Nat → Int32} {hn : Nat} {y : MT} (hR : RW v hk hz sl x al hy hn y) (px : Int32) : ∃ (v' : ST) (hk' hz' : Nat) (sl' : Nat → ST) (x' : CT) (ouF' : Nat → Int64) (al' hy' : Nat → Int32) (hn' : Nat) (y' : MT) (k b : Int32), kWM l D T yL_perhapsAbove wsL_perhapsAbove rL_perhapsAbove [.ref po, .int px, .ref ouA] (bsC T po ouA a v hk hz sl x ouF).flatten (some (.int k)) (bsC T po ouA a v' hk' hz' sl' x' ouF').flatten ∧ kM l D T yX9_perhapsAbove wsX9_perhapsAbove rX9_perhapsAbove [.ref mo, .int px] (bsM T mo m al hy hn y).flatten (some (.int b)) (bsM T mo m al' hy' hn' y').flatten ∧ y'.1 = k ∧ (k = 0 → ouF' 0 = b.toInt64) ∧ RW v' hk' hz' sl' x' al' hy' hn' y' := by
  have hR0 := hR
  obtain ⟨hS, hH, hnz, hlen, h60, htx⟩ := hR
  subst hnz
  obtain ⟨s1, s9, hcp, hia, hLI, hLR, hrm, hwr, hAs⟩ := id hS
  have hc9 : v.2.2.2.2.2.2.2 < 1000 := by omega
  obtain ⟨hk5, hz5, hHr⟩ := id hH
  rcases isMil px with ⟨h1, h2⟩ | ⟨h1, h2, h3⟩ | ⟨h1, h2, h3⟩
  · exact ⟨v, hk, hn, sl, x, ouF, al, hy, hn, (1, y.2), 1, 0, kq_c0_14 (kLx_perhapsAbove_lo l D T po (a 0) (a 17) (a 104) px ouA ouF (h1) (hst9)), kp_m0_1 (c_X9_perhapsAbove_bad l D T mo (m 0) (m 1) (m 2) (m 3) (m 4) al hn y.1 y.2.2.2.2.1 y.2.2.2.2.2.1 y.2.2.2.2.2.2.1 y.2.2.2.2.2.2.2.1 y.2.2.2.2.2.2.2.2 px (h2)), rfl, fun k => absurd k (by decide), hR0⟩
  · exact ⟨v, hk, hn, sl, x, ouF, al, hy, hn, (1, y.2), 1, 0, kq_c0_14 (kLx_perhapsAbove_hi l D T po (a 0) (a 17) (a 104) px ouA ouF (h1) (h2) (hst9)), kp_m0_1 (c_X9_perhapsAbove_bad l D T mo (m 0) (m 1) (m 2) (m 3) (m 4) al hn y.1 y.2.2.2.2.1 y.2.2.2.2.2.1 y.2.2.2.2.2.2.1 y.2.2.2.2.2.2.2.1 y.2.2.2.2.2.2.2.2 px (h3)), rfl, fun k => absurd k (by decide), hR0⟩
  · obtain ⟨p0, p1⟩ := inM.mp h3
    obtain ⟨q1, q2, q3, q4⟩ := SR_sum hS
    refine ⟨v, hk, hn, sl, x, vp_updL ouF 0 ((abC (flEst v.1.1 v.1.2.2.1 v.1.2.2.2.2.1 v.2.1) (px * smN v.1.2.2.2.2.2.2.2.2 26) 26).toInt64), al, hy, hn, (0, y.2), 0, (abN al px 2 26), kq_c0_3_4_14 (kL_perhapsAbove l D T po (a 17) (a 104) (a 0) (a 9) v.2.2.2.2.2.2.1 v.2.2.2.2.2.2.2 (a 1) (a 2) (a 3) (a 4) (a 5) (a 6) (a 7) (a 8) v.1.1 v.1.2.1 v.1.2.2.1 v.1.2.2.2.1 v.1.2.2.2.2.1 v.2.1 v.1.2.2.2.2.2.1 v.1.2.2.2.2.2.2.1 v.1.2.2.2.2.2.2.2.1 v.2.2.1 v.1.2.2.2.2.2.2.2.2 px ouA ouF (h1) (h2)), kp_m0_1 (c_X9_perhapsAbove l D T mo (m 0) (m 1) (m 2) (m 3) (m 4) al hn y.1 y.2.2.2.2.1 y.2.2.2.2.2.1 y.2.2.2.2.2.2.1 y.2.2.2.2.2.2.2.1 y.2.2.2.2.2.2.2.2 v.2.2.2.2.2.2.2 px (hcp) (hc9) (h3)), rfl, fun _ => ?_, hR0⟩
    show ((abC (flEst v.1.1 v.1.2.2.1 v.1.2.2.2.2.1 v.2.1) (px * smN v.1.2.2.2.2.2.2.2.2 26) 26).toInt64) = ((abN al px 2 26)).toInt64
    rw [ab_eq (al := al) (wh := 2) (fun k hk => ?_) (fun k hk => ?_) p0 p1 (LR_sum hLR) (by omega) (by omega) 26 (Nat.le_refl 26)]
    · show _ = (if nI 2 = 0 then al k else if nI 2 = 1 then mSure al 0 k else mEst al 0 k)
      rw [if_neg (by decide), if_neg (by decide), hrm, LR_est hLR hcp hc9 hk]
    · have b := mEst_bd hcp hc9 hLI hk
      have b0 := (hLI.1 k hk).1
      rw [Nat.zero_add] at b b0
      rw [hrm, LR_est hLR hcp hc9 hk]
      omega
end OPS1
