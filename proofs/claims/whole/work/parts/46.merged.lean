section PMERGED
theorem mEst_bd {al : Nat → Int32} {fr cap : Nat} (hc : al 264 = nI cap) (h9 : cap < 1000) (hi : LI al fr) {p : Nat} (hp : p < 26) : 0 ≤ (mEst al fr p).toInt ∧ (mEst al fr p).toInt ≤ smI (rwF al fr) 26 ∧ (mFloor al fr).toInt ≤ (mEst al fr p).toInt ∧ 0 ≤ (mFloor al fr).toInt ∧ 0 ≤ (mSure al fr p).toInt ∧ (mSure al fr p).toInt ≤ (mEst al fr p).toInt ∧ (al (fr + p)).toInt ≤ (mEst al fr p).toInt := by
  obtain ⟨hr, hsm, hest, hcl, hk0, hk1⟩ := hi
  obtain ⟨a1, a2, a3, a4, a5, a6⟩ := hr p hp
  have hs0 := (smI_nn (f := rwF al fr) 26 (fun j hj => (hr j hj).1)).1
  have hsr : (mSure al fr p).toInt = (al (fr + 26 + p)).toInt - (al (fr + 52 + p)).toInt := i32_sub (by omega) (by omega)
  have h1 := hest p hp
  have z0 : (0 : Int32).toInt = 0 := rfl
  rcases mFloor_sp al fr hc h9 with ⟨b, c⟩ | ⟨b, w, hw, c, d, e, f⟩
  · rcases mEst_sp al fr p with ⟨g, h⟩ | ⟨g, h⟩
    · rw [nI_n] at g
      rw [h] at h1 ⊢
      rw [c] at h1 ⊢
      omega
    · rw [nI_p] at g
      rw [h] at h1 ⊢
      rw [c]
      omega
  · have hwr := (hr w hw).2.2.2
    rw [nI_p] at d
    rcases mEst_sp al fr p with ⟨g, h⟩ | ⟨g, h⟩
    · rw [nI_n] at g
      rw [h] at h1 ⊢
      rw [e] at h1 ⊢
      omega
    · have := f p hp g
      rw [nI_p] at g
      rw [h] at h1 ⊢
      rw [e]
      omega
theorem meI_t {al : Nat → Int32} {k : Nat} : meI al k = true ↔ ¬ (al (26 + k) ≤ 0 ∧ al (132 + 26 + k) ≤ 0) := by
  unfold meI
  rw [show 132 + 26 + k = 158 + k by omega]
  by_cases h : al (26 + k) ≤ 0
  · rw [if_pos h, decide_eq_true_eq]
    exact ⟨fun a b => a b.2, fun a b => a ⟨h, b⟩⟩
  · rw [if_neg h]
    exact ⟨fun _ b => h b.1, fun _ => rfl⟩
/-- merged: the reference's lists stay well, and the class's say the same -/
theorem LI_merge {al ck zk : Nat → Int32} {cap : Nat} (hc : al 264 = nI cap) (h9 : cap < 1000) (hi : LI al 0) (hi2 : LI al 132) (hs : smI (rwF al 0) 26 + smI (rwF al 132) 26 ≤ 99999) : LI (meR al ck zk) 0 ∧ smI (rwF (meR al ck zk) 0) 26 = smI (rwF al 0) 26 + smI (rwF al 132) 26 ∧ (∀ q, q < 26 → meC al ck 26 q = (if meI al q then mEst al 0 q + mEst al 132 q else 0) ∧ (meC al ck 26 q).toInt = if meI al q then (mEst al 0 q).toInt + (mEst al 132 q).toInt else 0) ∧ (∀ q, q < 26 → (meQ al (meC al ck 26) q = true ↔ (¬ meC al ck 26 q ≤ 0 ∧ posN (meC al ck 26) q 26 ≤ cap))) := by
  obtain ⟨rt, rc, rs, rg, rk, ⟨ls, hls, rw', r130⟩, r264, r265⟩ := meR_rows al ck zk
  have hi0 := LI0.mp hi
  have z0 : (0 : Int32).toInt = 0 := rfl
  have bd1 := fun p (hp : p < 26) => mEst_bd hc h9 hi hp
  have bd2 := fun p (hp : p < 26) => mEst_bd hc h9 hi2 hp
  have hCK : ∀ q, q < 26 → meC al ck 26 q = (if meI al q then mEst al 0 q + mEst al 132 q else 0) := fun q hq => by
    rw [meC_at, if_pos hq]
  have hCKi : ∀ q, q < 26 → (meC al ck 26 q).toInt = if meI al q then (mEst al 0 q).toInt + (mEst al 132 q).toInt else 0 := fun q hq => by
    rw [hCK q hq]
    obtain ⟨a1, a2, a3, a4, _⟩ := bd1 q hq
    obtain ⟨b1, b2, b3, b4, _⟩ := bd2 q hq
    by_cases h : meI al q = true
    · rw [if_pos h, if_pos h, i32_add (by omega) (by omega)]
    · rw [if_neg h, if_neg h, z0]
  have hQ : ∀ q, q < 26 → (meQ al (meC al ck 26) q = true ↔ (¬ meC al ck 26 q ≤ 0 ∧ posN (meC al ck 26) q 26 ≤ cap)) := fun q hq => by
    have hb := posN_le' (meC al ck 26) q hq 26 (Nat.le_refl 26)
    unfold meQ
    rw [hc]
    by_cases h : meC al ck 26 q ≤ 0
    · rw [if_pos h]
      exact ⟨fun k => absurd k (by decide), fun k => absurd h k.1⟩
    · rw [if_neg h, decide_eq_true_eq, nI_leI (by omega) (by omega)]
      exact ⟨fun k => ⟨h, k⟩, fun k => k.2⟩
  have tf1 : ∀ q, q < 26 → (al q).toInt ≤ smI (rwF al 0) 26 := fun q hq => by
    have := (smI_nn (f := rwF al 0) 26 (fun j hj => by show 0 ≤ (al (0 + j)).toInt; rw [Nat.zero_add]; exact (hi0.1 j hj).1)).2 q hq
    have e2 : rwF al 0 q = al q := by show al (0 + q) = _; rw [Nat.zero_add]
    rw [e2] at this
    exact this
  have tf2 : ∀ q, q < 26 → (al (132 + q)).toInt ≤ smI (rwF al 132) 26 := fun q hq => (smI_nn (f := rwF al 132) 26 (fun j hj => (hi2.1 j hj).1)).2 q hq
  have hti : ∀ q, q < 26 → (meR al ck zk q).toInt = (al q).toInt + (al (132 + q)).toInt := fun q hq => by
    have := tf1 q hq
    have := tf2 q hq
    have := (hi0.1 q hq).1
    have := (hi2.1 q hq).1
    rw [rt q hq, i32_add (by omega) (by omega)]
  have hsum : smI (rwF (meR al ck zk) 0) 26 = smI (rwF al 0) 26 + smI (rwF al 132) 26 := by
    have gen : ∀ n, n ≤ 26 → smI (rwF (meR al ck zk) 0) n = smI (rwF al 0) n + smI (rwF al 132) n := by
      intro n
      induction n with
      | zero => intro _; rfl
      | succ n ih =>
        intro hn
        have h1 := ih (by omega)
        have h2 := hti n (by omega)
        have e1 : rwF (meR al ck zk) 0 n = meR al ck zk n := by show meR al ck zk (0 + n) = _; rw [Nat.zero_add]
        have e2 : rwF al 0 n = al n := by show al (0 + n) = _; rw [Nat.zero_add]
        have e3 : rwF al 132 n = al (132 + n) := rfl
        show smI (rwF (meR al ck zk) 0) n + (rwF (meR al ck zk) 0 n).toInt = smI (rwF al 0) n + (rwF al 0 n).toInt + (smI (rwF al 132) n + (rwF al 132 n).toInt)
        rw [e1, e2, e3]
        omega
    exact gen 26 (Nat.le_refl 26)
  have sm1 := (smI_nn (f := rwF al 0) 26 (fun j hj => by show 0 ≤ (al (0 + j)).toInt; rw [Nat.zero_add]; exact (hi0.1 j hj).1)).1
  have sm2 := (smI_nn (f := rwF al 132) 26 (fun j hj => (hi2.1 j hj).1)).1
  have hls0 : 0 ≤ ls.toInt := by
    rcases hls with ⟨k, hk, _, e⟩ | ⟨e, _⟩
    · have a := hi0.1 k hk
      have b := hi2.1 k hk
      rw [show 132 + 104 + k = 236 + k by omega] at b
      have := tf1 k hk
      have := tf2 k hk
      rw [e, i32_add (by omega) (by omega)]
      omega
    · rw [e, z0]; exact Int.le_refl 0
  have hc2 : meR al ck zk 264 = nI cap := by rw [r264, hc]
  have ckb : ∀ q, q < 26 → 0 ≤ (meC al ck 26 q).toInt ∧ (meC al ck 26 q).toInt ≤ smI (rwF al 0) 26 + smI (rwF al 132) 26 := fun q hq => by
    have a := bd1 q hq
    have b := bd2 q hq
    rw [hCKi q hq]
    split <;> omega
  -- the new row of counts is the trimmed one
  have hrow : ∀ j, j < 26 → rwF (meR al ck zk) 26 j = mrC (meC al ck 26) (cap + 1) j := fun j hj => by
    show meR al ck zk (26 + j) = _
    rw [rc j hj, (mrC_sp (meC al ck 26) (cap + 1)).1 j hj]
    by_cases h : meQ al (meC al ck 26) j = true
    · have := (hQ j hj).mp h
      rw [if_pos h, if_neg (fun k => by omega)]
    · rw [if_neg h]
      by_cases h2 : meC al ck 26 j ≤ 0
      · rw [if_neg (fun k => k.1 h2)]
        rw [nI_n] at h2
        exact Int32.toInt_inj.mp (by have := ckb j hj; omega)
      · have h3 : ¬ posN (meC al ck 26) j 26 ≤ cap := fun h3 => h ((hQ j hj).mpr ⟨h2, h3⟩)
        rw [if_pos ⟨h2, by omega⟩]
  have hcnt : cntN (rwF (meR al ck zk) 26) 26 = min (cntN (meC al ck 26) 26) (cap + 1) := by
    rw [cntN_cg 26 hrow, (mrC_sp (meC al ck 26) (cap + 1)).2.1]
  have fullOf : cap < cntN (meC al ck 26) 26 → mFull (meR al ck zk) 0 = true := fun h => mFull_of hc2 h9 (by
    show cap < cntN (rwF (meR al ck zk) 26) 26
    rw [hcnt]; omega)
  have floor' : ∀ x : Int, (mFull (meR al ck zk) 0 = true ∨ x ≤ 0) → (∀ q, q < 26 → meQ al (meC al ck 26) q = true → x ≤ (meC al ck 26 q).toInt) → x ≤ (mFloor (meR al ck zk) 0).toInt := by
    intro x h1 h2
    rcases mFloor_sp0 (meR al ck zk) hc2 h9 with ⟨a, b⟩ | ⟨a, w, hw, b, c, d, e⟩
    · rcases h1 with h1 | h1
      · rw [h1] at a; exact absurd a (by decide)
      · rw [b, z0]; exact h1
    · rw [d, rc w hw]
      rw [rc w hw] at c
      by_cases h : meQ al (meC al ck 26) w = true
      · rw [if_pos h]; exact h2 w hw h
      · rw [if_neg h] at c; exact absurd (Int32.le_refl 0) c
  refine ⟨LI0.mpr ⟨fun q hq => ?_, by omega, fun q hq => ?_, fun q hq hn => ?_, ?_, ?_⟩, hsum, fun q hq => ⟨hCK q hq, hCKi q hq⟩, hQ⟩
  · have a := hi0.1 q hq
    have b := hi2.1 q hq
    rw [show 132 + 104 + q = 236 + q by omega, show 132 + 52 + q = 184 + q by omega, show 132 + 26 + q = 158 + q by omega] at b
    have t1 := tf1 q hq
    have t2 := tf2 q hq
    have hsw : (al (104 + q) + al (236 + q)).toInt = (al (104 + q)).toInt + (al (236 + q)).toInt := i32_add (by omega) (by omega)
    have hw := wr_nn (x := al (104 + q) + al (236 + q)) (v := ls) (by omega) hls0
    rw [← rw' q hq] at hw
    have ht := hti q hq
    rw [hsum]
    refine ⟨by omega, hw.1, by omega, ?_⟩
    rw [rs q hq, rc q hq]
    by_cases h : meQ al (meC al ck 26) q = true
    · rw [if_pos h, if_pos h, meS_at, if_pos hq]
      have h2 : meI al q = true := by
        have h3 := ((hQ q hq).mp h).1
        by_cases h4 : meI al q = true
        · exact h4
        · rw [hCK q hq, if_neg h4] at h3; exact absurd (Int32.le_refl 0) h3
      rw [if_pos h2]
      have k := hCKi q hq
      rw [if_pos h2] at k
      have x1 := bd1 q hq
      have x2 := bd2 q hq
      have k1 : (mEst al 0 q + mEst al 132 q).toInt = (mEst al 0 q).toInt + (mEst al 132 q).toInt := i32_add (by omega) (by omega)
      have k2 : (mEst al 0 q + mEst al 132 q - mSure al 0 q).toInt = (mEst al 0 q).toInt + (mEst al 132 q).toInt - (mSure al 0 q).toInt := by
        rw [i32_sub (by omega) (by omega), k1]
      have k3 : (mEst al 0 q + mEst al 132 q - mSure al 0 q - mSure al 132 q).toInt = (mEst al 0 q).toInt + (mEst al 132 q).toInt - (mSure al 0 q).toInt - (mSure al 132 q).toInt := by
        rw [i32_sub (by omega) (by omega), k2]
      omega
    · rw [if_neg h, if_neg h, z0]; omega
  · have ht := hti q hq
    have x1 := bd1 q hq
    have x2 := bd2 q hq
    simp only [Nat.zero_add] at x1
    have k := hCKi q hq
    rcases mEst_sp0 (meR al ck zk) q with ⟨a, b⟩ | ⟨a, b⟩
    · rw [b]
      rw [rc q hq] at a
      by_cases hI : meI al q = true
      · rw [if_pos hI] at k
        by_cases hz : meC al ck 26 q ≤ 0
        · -- its estimates are 0: so are its true counts
          rw [nI_n] at hz
          have := mFloor_nn (meR al ck zk) 0 hc2 h9
          omega
        · have hnq : ¬ meQ al (meC al ck 26) q = true := fun h => by rw [if_pos h] at a; exact hz a
          have hpos : ¬ posN (meC al ck 26) q 26 ≤ cap := fun h => hnq ((hQ q hq).mpr ⟨hz, h⟩)
          have hcn := posN_cnt hq hz 26 (Nat.le_refl 26)
          rw [if_pos hq] at hcn
          have := floor' (meC al ck 26 q).toInt (Or.inl (fullOf (by omega))) (fun w hw hQw => by
            have h5 := ((hQ w hw).mp hQw).2
            refine Classical.byContradiction fun h6 => ?_
            have h7 : ahd (meC al ck 26) q w := Or.inl (by rw [i_lt]; omega)
            have := (posN_mono hq hw h7 26 (Nat.le_refl 26)).1
            omega)
          omega
      · have hI2 : al (26 + q) ≤ 0 ∧ al (132 + 26 + q) ≤ 0 := Classical.byContradiction fun h => hI (meI_t.mpr h)
        have g1 : mEst al 0 q = mFloor al 0 := by
          rcases mEst_sp0 al q with ⟨_, h⟩ | ⟨h, _⟩
          · exact h
          · exact absurd hI2.1 h
        have g2 : mEst al 132 q = mFloor al 132 := by
          rcases mEst_sp al 132 q with ⟨_, h⟩ | ⟨h, _⟩
          · exact h
          · exact absurd hI2.2 h
        rw [g1] at x1
        rw [g2] at x2
        have := floor' ((mFloor al 0).toInt + (mFloor al 132).toInt) (by
          by_cases f1 : mFull al 0 = true
          · refine Or.inl (fullOf ?_)
            have h6 := mFull_cnt f1 hc h9
            have h7 : cntN (rwF al (0 + 26)) 26 ≤ cntN (meC al ck 26) 26 := by
              have mono : ∀ n, n ≤ 26 → cntN (rwF al (0 + 26)) n ≤ cntN (meC al ck 26) n := by
                intro n
                induction n with
                | zero => intro _; exact Nat.le_refl _
                | succ n ih =>
                  intro hn
                  have i1 := ih (by omega)
                  rcases cntN_s (rwF al (0 + 26)) n with ⟨c, d⟩ | ⟨c, d⟩ <;> rcases cntN_s (meC al ck 26) n with ⟨c2, d2⟩ | ⟨c2, d2⟩
                  · omega
                  · omega
                  · exfalso
                    have c' : ¬ al (26 + n) ≤ 0 := c
                    have hI3 : meI al n = true := meI_t.mpr (fun h => c' h.1)
                    have y := hCKi n (by omega)
                    rw [if_pos hI3] at y
                    have y1 := bd1 n (by omega)
                    have y2 := bd2 n (by omega)
                    rcases mEst_sp0 al n with ⟨h, _⟩ | ⟨_, h⟩
                    · exact c' h
                    · rw [h] at y
                      rw [nI_p] at c'
                      rw [nI_n] at c2
                      omega
                  · omega
              exact mono 26 (Nat.le_refl 26)
            omega
          · by_cases f2 : mFull al 132 = true
            · refine Or.inl (fullOf ?_)
              have h6 := mFull_cnt f2 hc h9
              have h7 : cntN (rwF al (132 + 26)) 26 ≤ cntN (meC al ck 26) 26 := by
                have mono : ∀ n, n ≤ 26 → cntN (rwF al (132 + 26)) n ≤ cntN (meC al ck 26) n := by
                  intro n
                  induction n with
                  | zero => intro _; exact Nat.le_refl _
                  | succ n ih =>
                    intro hn
                    have i1 := ih (by omega)
                    rcases cntN_s (rwF al (132 + 26)) n with ⟨c, d⟩ | ⟨c, d⟩ <;> rcases cntN_s (meC al ck 26) n with ⟨c2, d2⟩ | ⟨c2, d2⟩
                    · omega
                    · omega
                    · exfalso
                      have c' : ¬ al (132 + 26 + n) ≤ 0 := c
                      have hI3 : meI al n = true := meI_t.mpr (fun h => c' h.2)
                      have y := hCKi n (by omega)
                      rw [if_pos hI3] at y
                      have y1 := bd1 n (by omega)
                      have y2 := bd2 n (by omega)
                      rcases mEst_sp al 132 n with ⟨h, _⟩ | ⟨_, h⟩
                      · exact c' h
                      · rw [h] at y
                        rw [nI_p] at c'
                        rw [nI_n] at c2
                        omega
                    · omega
                exact mono 26 (Nat.le_refl 26)
              omega
            · refine Or.inr ?_
              rcases mFloor_sp0 al hc h9 with ⟨_, m1⟩ | ⟨m1, _⟩
              · rcases mFloor_sp al 132 hc h9 with ⟨_, m2⟩ | ⟨m2, _⟩
                · rw [m1, m2, z0]; exact Int.le_refl 0
                · exact absurd m2 f2
              · exact absurd m1 f1) (fun w hw hQw => by
            have h5 := ((hQ w hw).mp hQw).1
            have hI3 : meI al w = true := by
              by_cases h4 : meI al w = true
              · exact h4
              · rw [hCK w hw, if_neg h4] at h5; exact absurd (Int32.le_refl 0) h5
            have y := hCKi w hw
            rw [if_pos hI3] at y
            have y1 := bd1 w hw
            have y2 := bd2 w hw
            omega)
        omega
    · rw [b, rc q hq]
      rw [rc q hq] at a
      by_cases h : meQ al (meC al ck 26) q = true
      · rw [if_pos h]
        have hI3 : meI al q = true := by
          by_cases h4 : meI al q = true
          · exact h4
          · have h5 := ((hQ q hq).mp h).1
            rw [hCK q hq, if_neg h4] at h5; exact absurd (Int32.le_refl 0) h5
        rw [if_pos hI3] at k
        omega
      · rw [if_neg h] at a; exact absurd (Int32.le_refl 0) a
  · rw [rg q hq, rk]
    rw [rc q hq] at hn
    by_cases h : meQ al (meC al ck 26) q = true
    · rw [if_pos h]
      have h1 := stN_mono al (meC al ck 26) (p := q + 1) 26 (by omega)
      have h2 := stN_le al (meC al ck 26) 26
      exact nI_le h1 (by omega)
    · rw [if_neg h] at hn; exact absurd (Int32.le_refl 0) hn
  · have h2 := stN_le al (meC al ck 26) 26
    rw [rk, nI_toInt (by omega)]; omega
  · have h2 := stN_le al (meC al ck 26) 26
    rw [rk, nI_toInt (by omega), hsum]; omega
theorem LR_merge {L K : LV} {al ck zk : Nat → Int32} {cap : Nat} (hc : al 264 = nI cap) (h1 : 1 ≤ cap) (h9 : cap < 26) (hi : LI al 0) (hi2 : LI al 132) (hs : smI (rwF al 0) 26 + smI (rwF al 132) 26 ≤ 99999) (h : LR L al 0) (hk : LR K al 132) :
    LR (mrC (mgC L.1 L.2.2.1 K.1 K.2.2.1 L.2.2.2.2.1 (nI (cap + 1)) K.2.2.2.2.1 (nI (cap + 1))) (cap + 1), mgS L.1 L.2.1 L.2.2.1 K.1 K.2.1 K.2.2.1 L.2.2.2.2.1 (nI (cap + 1)) K.2.2.2.2.1 (nI (cap + 1)), idN L.2.2.1 26, 26, mrZ (mgC L.1 L.2.2.1 K.1 K.2.2.1 L.2.2.2.2.1 (nI (cap + 1)) K.2.2.2.2.1 (nI (cap + 1))) (cap + 1), smC L.2.2.2.2.2.1 K.2.2.2.2.2.1 (nI cap), smO L.2.2.2.2.2.1 K.2.2.2.2.2.1 L.2.2.2.2.2.2.1 (nI cap) K.2.2.2.2.2.2.1, smZ L.2.2.2.2.2.1 K.2.2.2.2.2.1 (nI cap), smA L.2.2.2.2.2.2.2.2 K.2.2.2.2.2.2.2.2 26) (meR al ck zk) 0 := by
  have hb9 : cap < 1000 := by omega
  obtain ⟨hLI, hsum, hCK, hQ⟩ := LI_merge (ck := ck) (zk := zk) hc hb9 hi hi2 hs
  obtain ⟨rt, rc, rs, rg, rk, ⟨ls, hls, rw', r130⟩, r264, r265⟩ := meR_rows al ck zk
  have hl1 := LR_least h hc hb9
  have hl2 := LR_least hk hc hb9
  have hs1 := fun p (hp : p < 26) => LR_sure h hi hp
  have hs2 := fun p (hp : p < 26) => LR_sure hk hi2 hp
  obtain ⟨fc, fs, fg, ch, sz, wf, wo, wz, tf⟩ := L
  obtain ⟨gc, gs, gg, hh, hz, vf, vo, vz, uf⟩ := K
  have hi0 := LI0.mp hi
  obtain ⟨lr, lo, lg, lc0, lc1, lz, lw, lwz⟩ := LR0.mp h
  obtain ⟨kr, ko, kg, kc0, kc1, kz, kw, kwz⟩ := hk
  dsimp only at lr lo lg lc0 lc1 lz lw lwz hl1 hl2 hs1 hs2 kr ko kg kc0 kc1 kz kw kwz
  have z0 : (0 : Int32).toInt = 0 := rfl
  -- the merged counts, the same row on both sides
  have hm : ∀ j, j < 26 → mgC fc fg gc gg sz (nI (cap + 1)) hz (nI (cap + 1)) j = meC al ck 26 j := fun j hj => by
    unfold mgC
    rw [adC_at, hl1, hl2, (hCK j hj).1, (lr j hj).1, (kr j hj).1]
    by_cases hI : meI al j = true
    · rw [if_pos hI, if_pos ⟨hj, meI_t.mp hI⟩]
      unfold mEst
      rw [Nat.zero_add]
    · have hI2 : al (26 + j) ≤ 0 ∧ al (132 + 26 + j) ≤ 0 := Classical.byContradiction fun k => hI (meI_t.mpr k)
      rw [if_neg hI, if_neg (fun k => k.2 hI2)]
      have a := (hi0.1 j hj).2.2.2
      have b := hI2.1
      rw [nI_n] at b
      exact Int32.toInt_inj.mp (by omega)
  have hpos : ∀ j, j < 26 → posN (mgC fc fg gc gg sz (nI (cap + 1)) hz (nI (cap + 1))) j 26 = posN (meC al ck 26) j 26 := fun j hj => posN_cg (hm j hj) 26 hm
  have hrow : ∀ j, j < 26 → mrC (mgC fc fg gc gg sz (nI (cap + 1)) hz (nI (cap + 1))) (cap + 1) j = meR al ck zk (26 + j) := fun j hj => by
    rw [(mrC_sp _ (cap + 1)).1 j hj, hpos j hj, hm j hj, rc j hj]
    by_cases hq : meQ al (meC al ck 26) j = true
    · have := (hQ j hj).mp hq
      rw [if_pos hq, if_neg (fun k => by omega)]
    · rw [if_neg hq]
      by_cases h2 : meC al ck 26 j ≤ 0
      · rw [if_neg (fun k => k.1 h2)]
        have := (hCK j hj).2
        rw [nI_n] at h2
        have a := mEst_bd hc hb9 hi hj
        have b := mEst_bd hc hb9 hi2 hj
        exact Int32.toInt_inj.mp (by split at this <;> omega)
      · have h3 : ¬ posN (meC al ck 26) j 26 ≤ cap := fun h3 => hq ((hQ j hj).mpr ⟨h2, h3⟩)
        rw [if_pos ⟨h2, by omega⟩]
  have ctd : ∀ j, j < 26 → ¬ mrC (mgC fc fg gc gg sz (nI (cap + 1)) hz (nI (cap + 1))) (cap + 1) j ≤ 0 → meQ al (meC al ck 26) j = true ∧ meI al j = true := fun j hj k => by
    rw [hrow j hj, rc j hj] at k
    by_cases hq : meQ al (meC al ck 26) j = true
    · refine ⟨hq, ?_⟩
      by_cases h4 : meI al j = true
      · exact h4
      · have h5 := ((hQ j hj).mp hq).1
        rw [(hCK j hj).1, if_neg h4] at h5; exact absurd (Int32.le_refl 0) h5
    · rw [if_neg hq] at k; exact absurd (Int32.le_refl 0) k
  -- the second list
  have hsm : ∀ j, j < 26 → smA wf vf 26 j = al (104 + j) + al (236 + j) := fun j hj => by
    rw [smA_at, if_pos hj, (lr j hj).2.2.1, (kr j hj).2.2.1, show 132 + 104 + j = 236 + j by omega]
  have hsp : ∀ j, j < 26 → posN (smA wf vf 26) j 26 = posN (fun j => al (104 + j) + al (236 + j)) j 26 := fun j hj => posN_cg (g := fun j => al (104 + j) + al (236 + j)) (hsm j hj) 26 hsm
  have tf1 : ∀ q, q < 26 → (al q).toInt ≤ smI (rwF al 0) 26 := fun q hq => by
    have := (smI_nn (f := rwF al 0) 26 (fun j hj => by show 0 ≤ (al (0 + j)).toInt; rw [Nat.zero_add]; exact (hi0.1 j hj).1)).2 q hq
    have e2 : rwF al 0 q = al q := by show al (0 + q) = _; rw [Nat.zero_add]
    rw [e2] at this
    exact this
  have tf2 : ∀ q, q < 26 → (al (132 + q)).toInt ≤ smI (rwF al 132) 26 := fun q hq => (smI_nn (f := rwF al 132) 26 (fun j hj => (hi2.1 j hj).1)).2 q hq
  have snn : ∀ j, j < 26 → 0 ≤ (al (104 + j) + al (236 + j)).toInt := fun j hj => by
    have a := hi0.1 j hj
    have b := hi2.1 j hj
    rw [show 132 + 104 + j = 236 + j by omega] at b
    have := tf1 j hj
    have := tf2 j hj
    rw [i32_add (by omega) (by omega)]
    omega
  have hworn : (∀ q, q < 26 → smC wf vf (nI cap) q = meR al ck zk (104 + q)) ∧ smO wf vf wo (nI cap) vo = meR al ck zk 130 := by
    have small : ∀ k, k < 26 → posN (fun j => al (104 + j) + al (236 + j)) k 26 < 2 ^ 31 := fun k hk => by
      have := posN_le' (fun j => al (104 + j) + al (236 + j)) k hk 26 (Nat.le_refl 26); omega
    rcases pAtN_sp (smA wf vf 26) (nI cap) 26 0 rfl with ⟨e1, e2⟩ | ⟨k, _, hk, e1, e2, e3⟩
    · have hl0 : ls = 0 := by
        rcases hls with ⟨k, hk, p1, p2⟩ | ⟨p1, _⟩
        · rw [p2]
          by_cases p3 : al (104 + k) + al (236 + k) ≤ 0
          · have := snn k hk
            rw [nI_n] at p3
            exact Int32.toInt_inj.mp (by omega)
          · exact absurd (by rw [hsp k hk, p1, hc]) (e2 k (Nat.zero_le k) hk (by rw [hsm k hk]; exact p3))
        · exact p1
      refine ⟨fun q hq => ?_, ?_⟩
      · unfold smC
        rw [if_pos e1, hsm q hq, rw' q hq, hl0]
        by_cases p3 : al (104 + q) + al (236 + q) ≤ 0
        · have := snn q hq
          rw [if_pos p3]
          rw [nI_n] at p3
          exact Int32.toInt_inj.mp (by omega)
        · rw [if_neg p3, Int32.sub_zero]
      · unfold smO
        rw [if_pos e1, r130, hl0, lw, kw, Int32.add_zero]
    · have hl0 : ls = al (104 + k) + al (236 + k) := by
        rw [hsp k hk] at e3
        rcases hls with ⟨k2, hk2, p1, p2⟩ | ⟨_, p1⟩
        · have : k2 = k := by
            rw [hc] at p1
            have a1 := (nI_eq (small k2 hk2) (by omega)).mp p1
            have a2 := (nI_eq (small k hk) (by omega)).mp e3
            exact posN_inj (f := fun j => al (104 + j) + al (236 + j)) hk2 hk (by omega)
          rw [p2, this]
        · exact absurd (by rw [hc]; exact e3) (p1 k hk)
      have en : ¬ pAtN (smA wf vf 26) (nI cap) 26 0 = -1 := by rw [e1]; exact nI_ne1 (by omega)
      have ek : (pAtN (smA wf vf 26) (nI cap) 26 0).toNatClampNeg = k := by rw [e1, nI_clamp (by omega)]
      refine ⟨fun q hq => ?_, ?_⟩
      · unfold smC
        rw [if_neg en, ek, wdN_at, if_pos hq, hsm q hq, hsm k hk, wd_wr (snn q hq) (snn k hk), rw' q hq, hl0]
      · unfold smO
        rw [if_neg en, ek, hsm k hk, r130, hl0, lw, kw, Int32.add_assoc]
  refine LR0.mpr ⟨fun q hq => ⟨hrow q hq, fun k => ?_, hworn.1 q hq, ?_⟩, fun p q hp hq k1 k2 => ?_, fun p hp k => ?_, (by decide : (0 : Int) ≤ (26 : Int32).toInt), ?_, (mrC_sp _ _).2.2, hworn.2, ?_⟩
  · obtain ⟨c1, c2⟩ := ctd q hq k
    dsimp only
    rw [rs q hq, if_pos c1, meS_at, if_pos hq, if_pos c2]
    unfold mgS
    rw [adS_at, hl1, hl2, (lr q hq).1, (kr q hq).1, if_pos ⟨hq, meI_t.mp c2⟩, hs1 q hq, hs2 q hq]
    have e1 : (if al (26 + q) ≤ 0 then mFloor al 0 else al (26 + q)) = mEst al 0 q := by
      unfold mEst; rw [Nat.zero_add]
    have e2 : (if al (132 + 26 + q) ≤ 0 then mFloor al 132 else al (132 + 26 + q)) = mEst al 132 q := rfl
    rw [e1, e2]
    grind
  · dsimp only
    rw [smA_at, if_pos hq, rt q hq, (lr q hq).2.2.2, (kr q hq).2.2.2]
  · obtain ⟨c1, c2⟩ := ctd p hp k1
    obtain ⟨d1, d2⟩ := ctd q hq k2
    dsimp only
    rw [idN_at _ 26 p hp, idN_at _ 26 q hq, rg p hp, rg q hq, if_pos c1, if_pos d1]
    have b1 := stN_le al (meC al ck 26) (p + 1)
    have b2 := stN_le al (meC al ck 26) (q + 1)
    rw [nI_leI (by omega) (by omega), nI_leI (by omega) (by omega)]
    refine ⟨fun e => stN_mono al (meC al ck 26) (q + 1) (by omega), fun e => ?_⟩
    refine Classical.byContradiction fun e2 => ?_
    have m1 := stN_mono al (meC al ck 26) (p := q + 1) p (by omega)
    have m2 : stN al (meC al ck 26) (p + 1) = stN al (meC al ck 26) p + 1 := by
      show stN al (meC al ck 26) p + (if meQ al (meC al ck 26) p then 1 else 0) = _
      rw [if_pos c1]
    omega
  · dsimp only
    rw [idN_at _ 26 p hp]
    exact nI_le (a := p) (b := 26) (by omega) (by omega)
  · dsimp only
    have sm1 := (smI_nn (f := rwF al 0) 26 (fun j hj => by show 0 ≤ (al (0 + j)).toInt; rw [Nat.zero_add]; exact (hi0.1 j hj).1)).1
    have sm2 := (smI_nn (f := rwF al 132) 26 (fun j hj => (hi2.1 j hj).1)).1
    rw [hsum]
    show (26 : Int) ≤ _
    omega
  · dsimp only
    unfold smZ smC
    by_cases e1 : pAtN (smA wf vf 26) (nI cap) 26 0 = -1
    · rw [if_pos e1, if_pos e1]
    · rw [if_neg e1, if_neg e1]
end PMERGED
