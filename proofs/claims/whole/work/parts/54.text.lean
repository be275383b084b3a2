section OPS3
set_option maxHeartbeats 4000000 in
set_option maxRecDepth 100000 in
theorem op_append {l : Launch} (hst9 : l.stackTraces = false) (D : va_G) (T : Nat → ClassId) (po ouA : Nat) (a : Nat → Nat) (mo : Nat) (m : Nat → Nat) {v : ST} {hk hz : Nat} {sl : Nat → ST} {x : CT} (ouF : Nat → Int64) {al hy : Nat → Int32} {hn : Nat} {y : MT} (hR : RW v hk hz sl x al hy hn y) (cx : Int32) (hcx : vp_nar .char cx = cx) : ∃ (v' : ST) (hk' hz' : Nat) (sl' : Nat → ST) (x' : CT) (ouF' : Nat → Int64) (al' hy' : Nat → Int32) (hn' : Nat) (y' : MT) (k b : Int32), kWM l D T yL_append wsL_append rL_append [.ref po, .int cx, .ref ouA] (bsC T po ouA a v hk hz sl x ouF).flatten (some (.int k)) (bsC T po ouA a v' hk' hz' sl' x' ouF').flatten ∧ kM l D T yX9_append wsX9_append rX9_append [.ref mo, .int cx] (bsM T mo m al hy hn y).flatten (some (.int b)) (bsM T mo m al' hy' hn' y').flatten ∧ y'.1 = k ∧ (k = 0 → ouF' 0 = b.toInt64) ∧ RW v' hk' hz' sl' x' al' hy' hn' y' := by
  have hR0 := hR
  obtain ⟨hS, hH, hnz, hlen, h60, htx⟩ := hR
  subst hnz
  obtain ⟨s1, s9, hcp, hia, hLI, hLR, hrm, hwr, hAs⟩ := id hS
  have hc9 : v.2.2.2.2.2.2.2 < 1000 := by omega
  obtain ⟨hk5, hz5, hHr⟩ := id hH
  by_cases h : x.1 = 60
  · exact ⟨v, hk, hn, sl, x, ouF, al, hy, hn, (1, y.2), 1, 0, kq_c0_11_14 (kLx_append_no l D T po (a 0) (a 17) (a 104) (a 105) (a 106) (a 107) x.1 x.2.1 x.2.2.1 cx ouA ouF (h) (hst9)), kp_m0_5 (c_X9_append_no l D T mo (m 0) (m 1) (m 2) (m 3) (m 4) hn y.1 y.2.2.2.2.1 y.2.2.2.2.2.1 y.2.2.2.2.2.2.1 y.2.2.2.2.2.2.2.1 y.2.2.2.2.2.2.2.2 y.2.2.2.1 cx (by rw [hlen]; exact h)), rfl, fun k => absurd k (by decide), hR0⟩
  · refine ⟨v, hk, hn, sl, (x.1 + 1, x.2.1, upd x.2.2.1 x.1 (vp_nar .char cx), x.2.2.2), vp_updL ouF 0 ((nI (x.1 + 1)).toInt64), al, hy, hn, (0, y.2.1, y.2.2.1, upd y.2.2.2.1 y.2.2.2.2.1 cx, y.2.2.2.2.1 + 1, y.2.2.2.2.2), 0, (nI (y.2.2.2.2.1 + 1)), kq_c0_11_14 (kL_append l D T po (a 0) (a 17) (a 104) (a 105) (a 106) (a 107) x.1 x.2.1 x.2.2.1 cx ouA ouF (by omega)), kp_m0_5 (c_X9_append l D T mo (m 0) (m 1) (m 2) (m 3) (m 4) hn y.1 y.2.2.2.2.1 y.2.2.2.2.2.1 y.2.2.2.2.2.2.1 y.2.2.2.2.2.2.2.1 y.2.2.2.2.2.2.2.2 y.2.2.2.1 cx (by omega)), rfl, fun _ => ?_, hS, hH, rfl, ?_, ?_, ?_⟩
    · show ((nI (x.1 + 1)).toInt64) = ((nI (y.2.2.2.2.1 + 1))).toInt64
      rw [hlen]
    · show y.2.2.2.2.1 + 1 = x.1 + 1
      rw [hlen]
    · show x.1 + 1 ≤ 60
      omega
    · intro j hj
      show upd x.2.2.1 x.1 (vp_nar .char cx) j = upd y.2.2.2.1 y.2.2.2.2.1 cx j
      have hj2 : j < x.1 + 1 := hj
      rw [hcx, upd_at, upd_at, hlen]
      by_cases e : j = x.1
      · rw [if_pos e, if_pos e]
      · rw [if_neg e, if_neg e]
        exact htx j (by omega)
set_option maxHeartbeats 4000000 in
set_option maxRecDepth 100000 in
theorem op_clearText {l : Launch} (D : va_G) (T : Nat → ClassId) (po ouA : Nat) (a : Nat → Nat) (mo : Nat) (m : Nat → Nat) {v : ST} {hk hz : Nat} {sl : Nat → ST} {x : CT} (ouF : Nat → Int64) {al hy : Nat → Int32} {hn : Nat} {y : MT} (hR : RW v hk hz sl x al hy hn y) : ∃ (v' : ST) (hk' hz' : Nat) (sl' : Nat → ST) (x' : CT) (ouF' : Nat → Int64) (al' hy' : Nat → Int32) (hn' : Nat) (y' : MT) (b : Int32), kM l D T yX8_clearText wsX8_clearText rX8_clearText [.ref po] (bsC T po ouA a v hk hz sl x ouF).flatten (some (.int b)) (bsC T po ouA a v' hk' hz' sl' x' ouF').flatten ∧ kM l D T yX9_clearText wsX9_clearText rX9_clearText [.ref mo] (bsM T mo m al hy hn y).flatten (some (.int b)) (bsM T mo m al' hy' hn' y').flatten ∧ RW v' hk' hz' sl' x' al' hy' hn' y' := by
  have hR0 := hR
  obtain ⟨hS, hH, hnz, hlen, h60, htx⟩ := hR
  subst hnz
  obtain ⟨s1, s9, hcp, hia, hLI, hLR, hrm, hwr, hAs⟩ := id hS
  have hc9 : v.2.2.2.2.2.2.2 < 1000 := by omega
  obtain ⟨hk5, hz5, hHr⟩ := id hH
  refine ⟨v, hk, hn, sl, (0, x.2), ouF, al, hy, hn, (0, y.2.1, y.2.2.1, y.2.2.2.1, 0, y.2.2.2.2.2), nI x.1, kp_c0_11 (c_X8_clearText l D T po (a 0) (a 17) (a 104) (a 105) (a 106) (a 107) x.1 x.2.1 x.2.2.1), ?_, hS, hH, rfl, rfl, Nat.zero_le 60, fun j hj => absurd hj (Nat.not_lt_zero j)⟩
  rw [← hlen]
  exact kp_m0 (c_X9_clearText l D T mo (m 0) (m 1) (m 2) (m 3) (m 4) hn y.1 y.2.2.2.2.1 y.2.2.2.2.2.1 y.2.2.2.2.2.2.1 y.2.2.2.2.2.2.2.1 y.2.2.2.2.2.2.2.2)
set_option maxHeartbeats 4000000 in
set_option maxRecDepth 100000 in
theorem op_isValid {l : Launch} (D : va_G) (T : Nat → ClassId) (po ouA : Nat) (a : Nat → Nat) (mo : Nat) (m : Nat → Nat) {v : ST} {hk hz : Nat} {sl : Nat → ST} {x : CT} (ouF : Nat → Int64) {al hy : Nat → Int32} {hn : Nat} {y : MT} (hR : RW v hk hz sl x al hy hn y) : ∃ (v' : ST) (hk' hz' : Nat) (sl' : Nat → ST) (x' : CT) (ouF' : Nat → Int64) (al' hy' : Nat → Int32) (hn' : Nat) (y' : MT) (b : Int32), kM l D T yX8_isValid wsX8_isValid rX8_isValid [.ref po] (bsC T po ouA a v hk hz sl x ouF).flatten (some (.int b)) (bsC T po ouA a v' hk' hz' sl' x' ouF').flatten ∧ kM l D T yX9_isValid wsX9_isValid rX9_isValid [.ref mo] (bsM T mo m al hy hn y).flatten (some (.int b)) (bsM T mo m al' hy' hn' y').flatten ∧ RW v' hk' hz' sl' x' al' hy' hn' y' := by
  have hR0 := hR
  obtain ⟨hS, hH, hnz, hlen, h60, htx⟩ := hR
  subst hnz
  obtain ⟨s1, s9, hcp, hia, hLI, hLR, hrm, hwr, hAs⟩ := id hS
  have hc9 : v.2.2.2.2.2.2.2 < 1000 := by omega
  obtain ⟨hk5, hz5, hHr⟩ := id hH
  obtain ⟨TT, hT, hTT⟩ := songLem (tx := y.2.2.2.1) (tn := y.2.2.2.2.1) (by omega) y.2.2.2.2.2.2.2.1 y.2.2.2.2.2.2.2.2
  have htn : y.2.2.2.2.1 ≤ 60 := by omega
  have hsg : song x.2.2.1 x.1 = song y.2.2.2.1 y.2.2.2.2.1 := by rw [hlen]; exact song_cg htx
  have hrl : rlN x.2.2.1 x.1 0 = rlN y.2.2.2.1 y.2.2.2.2.1 0 := by rw [hlen]; exact rlN_cg x.1 0 (fun j hj => htx j (by omega))
  have hrb : rlN y.2.2.2.1 y.2.2.2.2.1 0 ≤ x.1 := by have := rlN_le y.2.2.2.1 y.2.2.2.2.1 0; omega
  have hrf : rdF x.2.2.1 (rlN x.2.2.1 x.1 0) = rdF y.2.2.2.1 (rlN y.2.2.2.1 y.2.2.2.2.1 0) := by rw [hrl]; exact rdF_cg _ (fun j hj => htx j (by omega))
  refine ⟨v, hk, hn, sl, (x.1, x.2.1, x.2.2.1, x.2.2.2.1, rdF x.2.2.1 (rlN x.2.2.1 x.1 0)), ouF, al, hy, hn, (0, y.2.1, y.2.2.1, y.2.2.2.1, y.2.2.2.2.1, TT.2), bI (song x.2.2.1 x.1), kp_c0_11_12 (c_X8_isValid l D T po (a 0) (a 17) (a 104) (a 105) (a 106) (a 107) x.1 x.2.1 x.2.2.1 x.2.2.2.2.1 x.2.2.2.2.2.1 x.2.2.2.2.2.2.1 x.2.2.2.2.2.2.2.1 x.2.2.2.2.2.2.2.2 (h60)), ?_, hS, hH, rfl, hlen, h60, htx⟩
  have e : song x.2.2.1 x.1 = decide (TT.1 = -1) := by
    rw [hsg]
    rcases hTT with ⟨q1, q2, _⟩ | ⟨q1, q2, _⟩
    · rw [q2]; exact (decide_eq_true q1).symm
    · rw [q2]; exact (decide_eq_false q1).symm
  rw [e]
  exact kp_m0_5 (c_X9_isValid l D T mo (m 0) (m 1) (m 2) (m 3) (m 4) y.2.2.2.1 hn y.1 y.2.2.2.2.1 y.2.2.2.2.2.1 y.2.2.2.2.2.2.1 y.2.2.2.2.2.2.2.1 y.2.2.2.2.2.2.2.2 (y.2.2.2.2.1 + 1) TT (htn) (hT))
set_option maxHeartbeats 4000000 in
set_option maxRecDepth 100000 in
theorem op_firstError {l : Launch} (hst9 : l.stackTraces = false) (D : va_G) (T : Nat → ClassId) (po ouA : Nat) (a : Nat → Nat) (mo : Nat) (m : Nat → Nat) {v : ST} {hk hz : Nat} {sl : Nat → ST} {x : CT} (ouF : Nat → Int64) {al hy : Nat → Int32} {hn : Nat} {y : MT} (hR : RW v hk hz sl x al hy hn y) : ∃ (v' : ST) (hk' hz' : Nat) (sl' : Nat → ST) (x' : CT) (ouF' : Nat → Int64) (al' hy' : Nat → Int32) (hn' : Nat) (y' : MT) (k b : Int32), kWM l D T yL_firstError wsL_firstError rL_firstError [.ref po, .ref ouA] (bsC T po ouA a v hk hz sl x ouF).flatten (some (.int k)) (bsC T po ouA a v' hk' hz' sl' x' ouF').flatten ∧ kM l D T yX9_firstError wsX9_firstError rX9_firstError [.ref mo] (bsM T mo m al hy hn y).flatten (some (.int b)) (bsM T mo m al' hy' hn' y').flatten ∧ y'.1 = k ∧ (k = 0 → ouF' 0 = b.toInt64) ∧ RW v' hk' hz' sl' x' al' hy' hn' y' := by
  have hR0 := hR
  obtain ⟨hS, hH, hnz, hlen, h60, htx⟩ := hR
  subst hnz
  obtain ⟨s1, s9, hcp, hia, hLI, hLR, hrm, hwr, hAs⟩ := id hS
  have hc9 : v.2.2.2.2.2.2.2 < 1000 := by omega
  obtain ⟨hk5, hz5, hHr⟩ := id hH
  obtain ⟨TT, hT, hTT⟩ := songLem (tx := y.2.2.2.1) (tn := y.2.2.2.2.1) (by omega) y.2.2.2.2.2.2.2.1 y.2.2.2.2.2.2.2.2
  have htn : y.2.2.2.2.1 ≤ 60 := by omega
  have hsg : song x.2.2.1 x.1 = song y.2.2.2.1 y.2.2.2.2.1 := by rw [hlen]; exact song_cg htx
  have hrl : rlN x.2.2.1 x.1 0 = rlN y.2.2.2.1 y.2.2.2.2.1 0 := by rw [hlen]; exact rlN_cg x.1 0 (fun j hj => htx j (by omega))
  have hrb : rlN y.2.2.2.1 y.2.2.2.2.1 0 ≤ x.1 := by have := rlN_le y.2.2.2.1 y.2.2.2.2.1 0; omega
  have hrf : rdF x.2.2.1 (rlN x.2.2.1 x.1 0) = rdF y.2.2.2.1 (rlN y.2.2.2.1 y.2.2.2.2.1 0) := by rw [hrl]; exact rdF_cg _ (fun j hj => htx j (by omega))
  rcases hTT with ⟨q1, q2, _⟩ | ⟨q1, q2, q3, q4⟩
  · exact ⟨v, hk, hn, sl, (x.1, x.2.1, x.2.2.1, x.2.2.2.1, rdF x.2.2.1 (rlN x.2.2.1 x.1 0)), ouF, al, hy, hn, (1, y.2.1, y.2.2.1, y.2.2.2.1, y.2.2.2.2.1, TT.2), 1, 0, kq_c0_11_12_14 (kLx_firstError_no l D T po (a 0) (a 17) (a 104) (a 105) (a 106) (a 107) x.1 x.2.1 x.2.2.1 x.2.2.2.2.1 x.2.2.2.2.2.1 x.2.2.2.2.2.2.1 x.2.2.2.2.2.2.2.1 x.2.2.2.2.2.2.2.2 ouA ouF (h60) (by rw [hsg]; exact q2) (hst9)), kp_m0_5 (c_X9_firstError_no l D T mo (m 0) (m 1) (m 2) (m 3) (m 4) y.2.2.2.1 hn y.1 y.2.2.2.2.1 y.2.2.2.2.2.1 y.2.2.2.2.2.2.1 y.2.2.2.2.2.2.2.1 y.2.2.2.2.2.2.2.2 (y.2.2.2.2.1 + 1) TT (htn) (hT) (q1)), rfl, fun k => absurd k (by decide), hS, hH, rfl, hlen, h60, htx⟩
  · refine ⟨v, hk, hn, sl, (x.1, x.2.1, x.2.2.1, x.2.2.2.1, rdF x.2.2.1 (rlN x.2.2.1 x.1 0)), vp_updL ouF 0 ((nI (rlN x.2.2.1 x.1 0)).toInt64), al, hy, hn, (0, y.2.1, y.2.2.1, y.2.2.2.1, y.2.2.2.2.1, TT.2), 0, TT.1, kq_c0_11_12_14 (kL_firstError l D T po (a 0) (a 17) (a 104) (a 105) (a 106) (a 107) x.1 x.2.1 x.2.2.1 x.2.2.2.2.1 x.2.2.2.2.2.1 x.2.2.2.2.2.2.1 x.2.2.2.2.2.2.2.1 x.2.2.2.2.2.2.2.2 ouA ouF (h60) (by rw [hsg]; exact q2)), kp_m0_5 (c_X9_firstError l D T mo (m 0) (m 1) (m 2) (m 3) (m 4) y.2.2.2.1 hn y.1 y.2.2.2.2.1 y.2.2.2.2.2.1 y.2.2.2.2.2.2.1 y.2.2.2.2.2.2.2.1 y.2.2.2.2.2.2.2.2 (y.2.2.2.2.1 + 1) TT (htn) (hT) (q1)), rfl, fun _ => ?_, hS, hH, rfl, hlen, h60, htx⟩
    show ((nI (rlN x.2.2.1 x.1 0)).toInt64) = (TT.1).toInt64
    rw [q3, hrl]
set_option maxHeartbeats 4000000 in
set_option maxRecDepth 100000 in
theorem op_callsOfSong {l : Launch} (hst9 : l.stackTraces = false) (D : va_G) (T : Nat → ClassId) (po ouA : Nat) (a : Nat → Nat) (mo : Nat) (m : Nat → Nat) {v : ST} {hk hz : Nat} {sl : Nat → ST} {x : CT} (ouF : Nat → Int64) {al hy : Nat → Int32} {hn : Nat} {y : MT} (hR : RW v hk hz sl x al hy hn y) : ∃ (v' : ST) (hk' hz' : Nat) (sl' : Nat → ST) (x' : CT) (ouF' : Nat → Int64) (al' hy' : Nat → Int32) (hn' : Nat) (y' : MT) (k b : Int32), kWM l D T yL_callsOfSong wsL_callsOfSong rL_callsOfSong [.ref po, .ref ouA] (bsC T po ouA a v hk hz sl x ouF).flatten (some (.int k)) (bsC T po ouA a v' hk' hz' sl' x' ouF').flatten ∧ kM l D T yX9_callsOfSong wsX9_callsOfSong rX9_callsOfSong [.ref mo] (bsM T mo m al hy hn y).flatten (some (.int b)) (bsM T mo m al' hy' hn' y').flatten ∧ y'.1 = k ∧ (k = 0 → ouF' 0 = b.toInt64) ∧ RW v' hk' hz' sl' x' al' hy' hn' y' := by
  have hR0 := hR
  obtain ⟨hS, hH, hnz, hlen, h60, htx⟩ := hR
  subst hnz
  obtain ⟨s1, s9, hcp, hia, hLI, hLR, hrm, hwr, hAs⟩ := id hS
  have hc9 : v.2.2.2.2.2.2.2 < 1000 := by omega
  obtain ⟨hk5, hz5, hHr⟩ := id hH
  obtain ⟨TT, hT, hTT⟩ := songLem (tx := y.2.2.2.1) (tn := y.2.2.2.2.1) (by omega) y.2.2.2.2.2.2.2.1 y.2.2.2.2.2.2.2.2
  have htn : y.2.2.2.2.1 ≤ 60 := by omega
  have hsg : song x.2.2.1 x.1 = song y.2.2.2.1 y.2.2.2.2.1 := by rw [hlen]; exact song_cg htx
  have hrl : rlN x.2.2.1 x.1 0 = rlN y.2.2.2.1 y.2.2.2.2.1 0 := by rw [hlen]; exact rlN_cg x.1 0 (fun j hj => htx j (by omega))
  have hrb : rlN y.2.2.2.1 y.2.2.2.2.1 0 ≤ x.1 := by have := rlN_le y.2.2.2.1 y.2.2.2.2.1 0; omega
  have hrf : rdF x.2.2.1 (rlN x.2.2.1 x.1 0) = rdF y.2.2.2.1 (rlN y.2.2.2.1 y.2.2.2.2.1 0) := by rw [hrl]; exact rdF_cg _ (fun j hj => htx j (by omega))
  rcases hTT with ⟨q1, q2, _, q4, q5⟩ | ⟨q1, q2, q3, q4⟩
  · refine ⟨v, hk, hn, sl, (x.1, x.2.1, x.2.2.1, x.2.2.2.1, rdF x.2.2.1 (rlN x.2.2.1 x.1 0)), vp_updL ouF 0 ((rdF x.2.2.1 (rlN x.2.2.1 x.1 0)).2.2.2.2.toInt64), al, hy, hn, (0, y.2.1, y.2.2.1, y.2.2.2.1, y.2.2.2.2.1, TT.2), 0, TT.2.2.1, kq_c0_11_12_14 (kL_callsOfSong l D T po (a 0) (a 17) (a 104) (a 105) (a 106) (a 107) x.1 x.2.1 x.2.2.1 x.2.2.2.2.1 x.2.2.2.2.2.1 x.2.2.2.2.2.2.1 x.2.2.2.2.2.2.2.1 x.2.2.2.2.2.2.2.2 ouA ouF (h60) (by rw [hsg]; exact q2)), kp_m0_5 (c_X9_callsOfSong l D T mo (m 0) (m 1) (m 2) (m 3) (m 4) y.2.2.2.1 hn y.1 y.2.2.2.2.1 y.2.2.2.2.2.1 y.2.2.2.2.2.2.1 y.2.2.2.2.2.2.2.1 y.2.2.2.2.2.2.2.2 (y.2.2.2.2.1 + 1) TT (htn) (hT) (q1)), rfl, fun _ => ?_, hS, hH, rfl, hlen, h60, htx⟩
    show ((rdF x.2.2.1 (rlN x.2.2.1 x.1 0)).2.2.2.2.toInt64) = (TT.2.2.1).toInt64
    rw [hrf, q4, q5]
  · exact ⟨v, hk, hn, sl, (x.1, x.2.1, x.2.2.1, x.2.2.2.1, rdF x.2.2.1 (rlN x.2.2.1 x.1 0)), ouF, al, hy, hn, (1, y.2.1, y.2.2.1, y.2.2.2.1, y.2.2.2.2.1, TT.2), 1, 0, kq_c0_11_12_14 (kLx_callsOfSong_no l D T po (a 0) (a 17) (a 104) (a 105) (a 106) (a 107) x.1 x.2.1 x.2.2.1 x.2.2.2.2.1 x.2.2.2.2.2.1 x.2.2.2.2.2.2.1 x.2.2.2.2.2.2.2.1 x.2.2.2.2.2.2.2.2 ouA ouF (h60) (by rw [hsg]; exact q2) (hst9)), kp_m0_5 (c_X9_callsOfSong_no l D T mo (m 0) (m 1) (m 2) (m 3) (m 4) y.2.2.2.1 hn y.1 y.2.2.2.2.1 y.2.2.2.2.2.1 y.2.2.2.2.2.2.1 y.2.2.2.2.2.2.2.1 y.2.2.2.2.2.2.2.2 (y.2.2.2.2.1 + 1) TT (htn) (hT) (q1)), rfl, fun k => absurd k (by decide), hS, hH, rfl, hlen, h60, htx⟩
set_option maxHeartbeats 4000000 in
set_option maxRecDepth 100000 in
theorem op_hasAside {l : Launch} (D : va_G) (T : Nat → ClassId) (po ouA : Nat) (a : Nat → Nat) (mo : Nat) (m : Nat → Nat) {v : ST} {hk hz : Nat} {sl : Nat → ST} {x : CT} (ouF : Nat → Int64) {al hy : Nat → Int32} {hn : Nat} {y : MT} (hR : RW v hk hz sl x al hy hn y) : ∃ (v' : ST) (hk' hz' : Nat) (sl' : Nat → ST) (x' : CT) (ouF' : Nat → Int64) (al' hy' : Nat → Int32) (hn' : Nat) (y' : MT) (b : Int32), kM l D T yX8_hasAside wsX8_hasAside rX8_hasAside [.ref po] (bsC T po ouA a v hk hz sl x ouF).flatten (some (.int b)) (bsC T po ouA a v' hk' hz' sl' x' ouF').flatten ∧ kM l D T yX9_hasAside wsX9_hasAside rX9_hasAside [.ref mo] (bsM T mo m al hy hn y).flatten (some (.int b)) (bsM T mo m al' hy' hn' y').flatten ∧ RW v' hk' hz' sl' x' al' hy' hn' y' := by
  have hR0 := hR
  obtain ⟨hS, hH, hnz, hlen, h60, htx⟩ := hR
  subst hnz
  obtain ⟨s1, s9, hcp, hia, hLI, hLR, hrm, hwr, hAs⟩ := id hS
  have hc9 : v.2.2.2.2.2.2.2 < 1000 := by omega
  obtain ⟨hk5, hz5, hHr⟩ := id hH
  refine ⟨v, hk, hn, sl, x, ouF, al, hy, hn, (0, y.2), bI v.2.2.2.2.2.2.1, kp_c0_3_4 (c_X8_hasAside l D T po (a 17) (a 104) (a 0) (a 9) v.2.2.2.2.2.2.1 v.2.2.2.2.2.2.2 (a 1) (a 2) (a 3) (a 4) (a 5) (a 6) (a 7) (a 8) v.1.1 v.1.2.1 v.1.2.2.1 v.1.2.2.2.1 v.1.2.2.2.2.1 v.2.1 v.1.2.2.2.2.2.1 v.1.2.2.2.2.2.2.1 v.1.2.2.2.2.2.2.2.1 v.2.2.1 v.1.2.2.2.2.2.2.2.2), ?_, hR0⟩
  have e : v.2.2.2.2.2.2.1 = decide (al 265 = 1) := by
    rw [hia]
    cases v.2.2.2.2.2.2.1 <;> decide
  rw [e]
  exact kp_m0_1 (c_X9_hasAside l D T mo (m 0) (m 1) (m 2) (m 3) (m 4) al hn y.1 y.2.2.2.2.1 y.2.2.2.2.2.1 y.2.2.2.2.2.2.1 y.2.2.2.2.2.2.2.1 y.2.2.2.2.2.2.2.2)
set_option maxHeartbeats 4000000 in
set_option maxRecDepth 100000 in
theorem op_loudestShare {l : Launch} (D : va_G) (T : Nat → ClassId) (po ouA : Nat) (a : Nat → Nat) (mo : Nat) (m : Nat → Nat) {v : ST} {hk hz : Nat} {sl : Nat → ST} {x : CT} (ouF : Nat → Int64) {al hy : Nat → Int32} {hn : Nat} {y : MT} (hR : RW v hk hz sl x al hy hn y) : ∃ (v' : ST) (hk' hz' : Nat) (sl' : Nat → ST) (x' : CT) (ouF' : Nat → Int64) (al' hy' : Nat → Int32) (hn' : Nat) (y' : MT) (b : UInt64), kM l D T yX8_loudestShare wsX8_loudestShare rX8_loudestShare [.ref po] (bsC T po ouA a v hk hz sl x ouF).flatten (some (.double b)) (bsC T po ouA a v' hk' hz' sl' x' ouF').flatten ∧ kM l D T yX9_loudestShare wsX9_loudestShare rX9_loudestShare [.ref mo] (bsM T mo m al hy hn y).flatten (some (.double b)) (bsM T mo m al' hy' hn' y').flatten ∧ RW v' hk' hz' sl' x' al' hy' hn' y' := by
  have hR0 := hR
  obtain ⟨hS, hH, hnz, hlen, h60, htx⟩ := hR
  subst hnz
  obtain ⟨s1, s9, hcp, hia, hLI, hLR, hrm, hwr, hAs⟩ := id hS
  have hc9 : v.2.2.2.2.2.2.2 < 1000 := by omega
  obtain ⟨hk5, hz5, hHr⟩ := id hH
  have hck : pAtN v.1.1 0 26 0 = pAtN (rwF al 26) 0 26 0 := pAtN_cg (fun j hj => by rw [(hLR.1 j hj).1, Nat.zero_add]; rfl) 26 0 rfl
  by_cases h0 : smN (rwF al 0) 26 = 0
  · exact ⟨v, hk, hn, sl, x, ouF, al, hy, hn, (0, y.2), FP.dconst0, kp_c0_3_4 (c_X8_loudestShare_0 l D T po (a 17) (a 104) (a 0) (a 9) v.2.2.2.2.2.2.1 v.2.2.2.2.2.2.2 (a 1) (a 2) (a 3) (a 4) (a 5) (a 6) (a 7) (a 8) v.1.1 v.1.2.1 v.1.2.2.1 v.1.2.2.2.1 v.1.2.2.2.2.1 v.2.1 v.1.2.2.2.2.2.1 v.1.2.2.2.2.2.2.1 v.1.2.2.2.2.2.2.2.1 v.2.2.1 v.1.2.2.2.2.2.2.2.2 (by rw [LR_sum hLR]; exact h0)), kp_m0_1_3 (c_X9_loudestShare_0 l D T mo (m 0) (m 1) (m 2) (m 3) (m 4) al y.2.1 hn y.1 y.2.2.2.2.1 y.2.2.2.2.2.1 y.2.2.2.2.2.2.1 y.2.2.2.2.2.2.2.1 y.2.2.2.2.2.2.2.2 (h0)), hR0⟩
  · have hex := some_cnt hcp hc9 hLI h0
    obtain ⟨lq, hq6, hlq⟩ := pAtN_ex (rwF al 26) (m := 0) hex
    have hlq' : pAtN (rwF al 26) 0 26 0 = nI lq := hlq
    refine ⟨v, hk, hn, sl, x, ouF, al, hy, hn, (0, rwF al 26, y.2.2), FP.ddiv (FP.i2d (v.1.1 lq)) (FP.i2d (smN v.1.2.2.2.2.2.2.2.2 26)), kp_c0_3_4 (c_X8_loudestShare l D T po (a 17) (a 104) (a 0) (a 9) v.2.2.2.2.2.2.1 v.2.2.2.2.2.2.2 (a 1) (a 2) (a 3) (a 4) (a 5) (a 6) (a 7) (a 8) v.1.1 v.1.2.1 v.1.2.2.1 v.1.2.2.2.1 v.1.2.2.2.2.1 v.2.1 v.1.2.2.2.2.2.1 v.1.2.2.2.2.2.2.1 v.1.2.2.2.2.2.2.2.1 v.2.2.1 v.1.2.2.2.2.2.2.2.2 lq (by rw [LR_sum hLR]; exact h0) (by rw [hck]; exact hlq) (hq6)), ?_, hR0⟩
    rw [LR_sum hLR, (hLR.1 lq hq6).1, Nat.zero_add]
    exact kp_m0_1_3 (c_X9_loudestShare l D T mo (m 0) (m 1) (m 2) (m 3) (m 4) al y.2.1 hn y.1 y.2.2.2.2.1 y.2.2.2.2.2.1 y.2.2.2.2.2.2.1 y.2.2.2.2.2.2.2.1 y.2.2.2.2.2.2.2.2 lq (h0) (hlq) (hq6))
end OPS3
